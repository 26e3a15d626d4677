/-! Locals that are forgotten: what is shown of fewer locals holds of more. -/
def mm_le (a b : List (Option Value)) : Prop := a.length = b.length ∧ ∀ (i : Nat) (v : Value), a[i]? = some (some v) → b[i]? = some (some v)
abbrev mm_Y : Type := (mm_F × mm_H) ⊕ (Option Value) ⊕ (Nat × List Value × mm_F)
/-- the same with other locals -/
def mm_rl (b : List (Option Value)) (y : mm_Y) : mm_Y := match y with
  | .inl ((pc, _, st), h) => .inl ((pc, b, st), h)
  | .inr (.inl v) => .inr (.inl v)
  | .inr (.inr (t, as, (pc, _, st))) => .inr (.inr (t, as, (pc, b, st)))
/-- a step that doesn't look at the locals -/
def mm_bl (g : List (Option Value) → mm_R) : Prop := ∀ (a b : List (Option Value)) (y : mm_Y), g a = some y → g b = some (mm_rl b y)
theorem mm_bl_none : mm_bl (fun _ => none) := fun a b y e => by cases e
theorem mm_bl_nx {pc : Nat} {st : List Value} {h : mm_H} : mm_bl (fun ls => mm_nx pc ls st h) := fun a b y e => by
  unfold mm_nx at e ⊢; cases e; rfl
theorem mm_bl_cond {q : Bool} {g : List (Option Value) → mm_R} (hg : mm_bl g) : mm_bl (fun ls => cond q (g ls) none) := by
  cases q
  · exact mm_bl_none
  · exact hg
theorem mm_bl_ite {q : Prop} [Decidable q] {g k : List (Option Value) → mm_R} (hg : mm_bl g) (hk : mm_bl k) : mm_bl (fun ls => if q then g ls else k ls) := by
  by_cases hq : q
  · simp only [if_pos hq]; exact hg
  · simp only [if_neg hq]; exact hk
theorem mm_bl_ix {i : Int32} {n : Nat} {g : Nat → List (Option Value) → mm_R} (hg : ∀ j, mm_bl (g j)) : mm_bl (fun ls => mm_ix i n (fun j => g j ls)) := by
  unfold mm_ix
  exact mm_bl_ite mm_bl_none (hg _)
section MML
variable {X : mm_X} {m pc len : Nat} {st : List Value} {h : mm_H}
theorem mm_bl_pu {o : Option Value} : mm_bl (fun ls => mm_pu pc len ls st h o) := by
  unfold mm_pu; cases o
  · exact mm_bl_none
  · exact mm_bl_nx
theorem mm_bl_b2 {g : Int32 → Int32 → Int32} : mm_bl (fun ls => mm_b2 pc ls st h g) := by
  unfold mm_b2; split
  · exact mm_bl_nx
  · exact mm_bl_none
theorem mm_bl_d2 {g : Int32 → Int32 → Int32} : mm_bl (fun ls => mm_d2 pc ls st h g) := by
  unfold mm_d2; split
  · exact mm_bl_ite mm_bl_none mm_bl_nx
  · exact mm_bl_none
theorem mm_bl_j2 {g : Int64 → Int64 → Value} : mm_bl (fun ls => mm_j2 pc ls st h g) := by
  unfold mm_j2; split
  · exact mm_bl_nx
  · exact mm_bl_none
theorem mm_bl_u1 {g : Int32 → Value} : mm_bl (fun ls => mm_u1 pc ls st h g) := by
  unfold mm_u1; split
  · exact mm_bl_nx
  · exact mm_bl_none
theorem mm_bl_br {q : Prop} [Decidable q] {t : Option Nat} {e0 : Nat} {sw : Bool} : mm_bl (fun ls => mm_br q t e0 sw ls st h) := by
  unfold mm_br; cases t
  · exact mm_bl_none
  · exact mm_bl_ite mm_bl_nx mm_bl_nx
theorem mm_bl_if1 {cn : ClassFile.Cond} {x : Int32} {t : Option Nat} {e0 : Nat} : mm_bl (fun ls => mm_if1 cn x t e0 ls st h) := by
  unfold mm_if1; cases cn <;> exact mm_bl_br
theorem mm_bl_if2 {cn : ClassFile.Cond} {x y : Int32} {t : Option Nat} {e0 : Nat} : mm_bl (fun ls => mm_if2 cn x y t e0 ls st h) := by
  unfold mm_if2; cases cn <;> exact mm_bl_br
theorem mm_bl_go {t : Option Nat} : mm_bl (fun ls => mm_go t ls st h) := by
  unfold mm_go; cases t
  · exact mm_bl_none
  · exact mm_bl_nx
theorem mm_bl_gf {o : Option (Nat × Nat)} : mm_bl (fun ls => mm_gf pc ls st h o) := by
  unfold mm_gf; split
  · split
    · refine mm_bl_cond ?_
      split
      · exact mm_bl_pu
      · exact mm_bl_none
    · refine mm_bl_cond ?_
      split
      · exact mm_bl_nx
      · exact mm_bl_nx
      · exact mm_bl_none
    · exact mm_bl_none
  · exact mm_bl_none
theorem mm_bl_pf {ini : Nat → Bool} {o : Option (Nat × Nat)} : mm_bl (fun ls => mm_pf ini pc ls st h o) := by
  unfold mm_pf; split
  · split
    · refine mm_bl_cond ?_
      split
      · next kd fin _ =>
        generalize (Nat.beq fin 1 && !ini _) = b9
        cases b9
        · simp only [cond_false]
          split
          · exact mm_bl_nx
          · exact mm_bl_nx
          · exact mm_bl_nx
          · exact mm_bl_ite mm_bl_nx mm_bl_none
          · exact mm_bl_none
        · simp only [cond_true]; exact mm_bl_none
      · exact mm_bl_none
    · exact mm_bl_none
  · exact mm_bl_none
theorem mm_bl_ald {byt : Bool} : mm_bl (fun ls => mm_ald pc ls st h X byt) := by
  unfold mm_ald; split
  · exact mm_bl_cond (mm_bl_ix fun j => mm_bl_nx)
  · split
    · split
      · exact mm_bl_ix fun j => mm_bl_nx
      · exact mm_bl_none
    · exact mm_bl_ix fun j => mm_bl_nx
    · exact mm_bl_ix fun j => mm_bl_nx
    · exact mm_bl_none
  · exact mm_bl_none
theorem mm_bl_ast {kd : Nat} {nar : Int32 → Int32} : mm_bl (fun ls => mm_ast pc ls st h kd nar) := by
  unfold mm_ast; split
  · exact mm_bl_cond (mm_bl_ix fun j => mm_bl_nx)
  · exact mm_bl_none
theorem mm_bl_lald : mm_bl (fun ls => mm_lald pc ls st h) := by
  unfold mm_lald; split
  · exact mm_bl_cond (mm_bl_ix fun j => mm_bl_nx)
  · exact mm_bl_none
theorem mm_bl_last : mm_bl (fun ls => mm_last pc ls st h) := by
  unfold mm_last; split
  · exact mm_bl_cond (mm_bl_ix fun j => mm_bl_nx)
  · exact mm_bl_none
theorem mm_bl_alen : mm_bl (fun ls => mm_alen pc ls st h X) := by
  unfold mm_alen; split
  · exact mm_bl_cond mm_bl_nx
  · split
    · exact mm_bl_nx
    · exact mm_bl_none
  · exact mm_bl_none
theorem mm_bl_new {sh : Nat × Nat} : mm_bl (fun ls => mm_new pc len ls st h sh) := by
  unfold mm_new; exact mm_bl_cond mm_bl_nx
theorem mm_bl_copy : mm_bl (fun ls => mm_copy pc ls st h) := by
  unfold mm_copy; split
  · exact mm_bl_cond (mm_bl_ite mm_bl_none mm_bl_nx)
  · exact mm_bl_none
theorem mm_bl_call {kinds : Nat → Bool} {o : Option (Nat × Nat)} : mm_bl (fun ls => mm_call pc ls st h kinds o) := by
  unfold mm_call; split
  · refine mm_bl_cond ?_
    intro a b y e
    cases e; rfl
  · exact mm_bl_none
theorem mm_bl_static {o : Option (Nat × Nat)} : mm_bl (fun ls => mm_static pc ls st h o) := by
  unfold mm_static; split
  · exact mm_bl_copy
  · exact mm_bl_call
theorem mm_bl_special {o : Option (Nat × Nat)} : mm_bl (fun ls => mm_special pc ls st h o) := by
  unfold mm_special; split
  · refine mm_bl_cond ?_
    split
    · refine mm_bl_cond ?_
      intro a b y e
      cases e; rfl
    · exact mm_bl_none
  · exact mm_bl_none
theorem mm_bl_ret {rk : Nat} : mm_bl (fun _ => mm_ret rk st) := by
  intro a b y e
  have e : mm_ret rk st = some y := e
  show mm_ret rk st = some (mm_rl b y)
  rw [e]
  unfold mm_ret at e
  split at e
  · split at e
    · cases e; rfl
    · split at e <;> cases e; rfl
    · split at e <;> cases e; rfl
    · split at e <;> cases e; rfl
    · cases e
  · cases e
def mm_lc (i : Instr) : Bool := match i with
  | .aload _ | .aload_n _ | .iload _ | .iload_n _ | .lload _ | .lload_n _ | .istore _ | .istore_n _ | .astore _ | .astore_n _ | .lstore _ | .lstore_n _ | .iinc _ _ => true
  | _ => false
set_option maxHeartbeats 4000000 in
theorem mm_do_bl {i : Instr} (hi : mm_lc i = false) : mm_bl (fun ls => mm_do X m i pc ls st h) := by
  cases i
  case aload => cases hi
  case aload_n => cases hi
  case iload => cases hi
  case iload_n => cases hi
  case lload => cases hi
  case lload_n => cases hi
  case istore => cases hi
  case istore_n => cases hi
  case astore => cases hi
  case astore_n => cases hi
  case lstore => cases hi
  case lstore_n => cases hi
  case iinc => cases hi
  case ldc k => simp only [mm_do]; split <;> first | exact mm_bl_nx | exact mm_bl_pu
  case lshl => simp only [mm_do]; split <;> first | exact mm_bl_nx | exact mm_bl_none
  case ifCond cn off => simp only [mm_do]; split <;> first | exact mm_bl_if1 | exact mm_bl_none
  case if_icmp cn off => simp only [mm_do]; split <;> first | exact mm_bl_if2 | exact mm_bl_none
  case tableswitch d lo hi2 offs =>
    simp only [mm_do]; split
    · refine mm_bl_ite mm_bl_go ?_
      split <;> first | exact mm_bl_go | exact mm_bl_none
    · exact mm_bl_none
  case lookupswitch d ps => simp only [mm_do]; split <;> first | exact mm_bl_cond mm_bl_go | exact mm_bl_none
  case dup => simp only [mm_do]; split <;> first | exact mm_bl_cond mm_bl_nx | exact mm_bl_none
  case dup2 => simp only [mm_do]; split <;> first | exact mm_bl_cond mm_bl_nx | exact mm_bl_none
  case pop => simp only [mm_do]; split <;> first | exact mm_bl_cond mm_bl_nx | exact mm_bl_none
  case getstatic k => simp only [mm_do]; split <;> first | exact mm_bl_nx | exact mm_bl_none
  case bastore =>
    simp only [mm_do]; split
    · generalize Nat.beq (mm_sh _).1 2 = b9
      cases b9
      · simp only [cond_false]; exact mm_bl_ast
      · simp only [cond_true]; exact mm_bl_ast
    · exact mm_bl_none
  case new k => simp only [mm_do]; split <;> first | exact mm_bl_new | exact mm_bl_none
  case newarray ty =>
    simp only [mm_do]; split
    · refine mm_bl_ite mm_bl_none ?_
      cases ty <;> first | exact mm_bl_new | exact mm_bl_none
    · exact mm_bl_none
  case ireturn => exact mm_bl_ret
  case lreturn =>
    simp only [mm_do]; split
    · refine mm_bl_cond ?_
      intro a b y e
      cases e; rfl
    · exact mm_bl_none
  case return_ =>
    simp only [mm_do]; split
    · refine mm_bl_cond ?_
      intro a b y e
      cases e; rfl
    · exact mm_bl_none
  all_goals first | exact mm_bl_none | exact mm_bl_nx | exact mm_bl_pu | exact mm_bl_b2 | exact mm_bl_d2 | exact mm_bl_j2 | exact mm_bl_u1 | exact mm_bl_go | exact mm_bl_gf | exact mm_bl_pf | exact mm_bl_ald | exact mm_bl_ast | exact mm_bl_lald | exact mm_bl_last | exact mm_bl_alen | exact mm_bl_call | exact mm_bl_static | exact mm_bl_special
end MML
theorem mm_le_clr {a b : List (Option Value)} (hl : mm_le a b) (i : Nat) : mm_le (mm_clr a i) (mm_clr b i) := by
  refine ⟨by rw [mm_clr_len, mm_clr_len]; exact hl.1, fun j v hj => ?_⟩
  obtain ⟨g1, g2⟩ := mm_clr_get hj
  have g3 := hl.2 j v g1
  unfold mm_clr
  cases i with
  | zero => exact g3
  | succ i =>
    simp only
    split
    · next w hw =>
      cases hb : Nat.beq w.category 2 with
      | false => exact g3
      | true =>
        rw [cond_true]
        by_cases e : j = i
        · subst e
          rw [g3] at hw
          cases hw
          exact absurd ⟨rfl, Nat.eq_of_beq_eq_true hb⟩ g2
        · rw [List.getElem?_set_ne (by omega)]; exact g3
    · exact g3
theorem mm_le_set {a b : List (Option Value)} (hl : mm_le a b) (i : Nat) (o : Option Value) : mm_le (a.set i o) (b.set i o) := by
  refine ⟨by rw [List.length_set, List.length_set]; exact hl.1, fun j v hj => ?_⟩
  by_cases e : i = j
  · subst e
    have h1 : i < a.length := by
      have := (List.getElem?_eq_some_iff.mp hj).1
      rwa [List.length_set] at this
    rw [List.getElem?_set_self h1] at hj
    rw [List.getElem?_set_self (by rw [← hl.1]; exact h1)]
    exact hj
  · rw [List.getElem?_set_ne e] at hj ⊢
    exact hl.2 j v hj
theorem mm_le_st1 {a b : List (Option Value)} (hl : mm_le a b) (i : Nat) (v : Value) : mm_le (mm_st1 a i v) (mm_st1 b i v) := mm_le_set (mm_le_clr hl i) i _
theorem mm_le_st2 {a b : List (Option Value)} (hl : mm_le a b) (i : Nat) (v : Value) : mm_le (mm_st2 a i v) (mm_st2 b i v) := mm_le_set (mm_le_set (mm_le_clr hl i) (i + 1) _) i _
/-- y with locals that are no more than those of z -/
def mm_lY (y z : mm_Y) : Prop := match y with
  | .inl ((pc, a, st), h) => ∃ b, mm_le a b ∧ z = .inl ((pc, b, st), h)
  | .inr (.inl v) => z = .inr (.inl v)
  | .inr (.inr (t, as, (pc, a, st))) => ∃ b, mm_le a b ∧ z = .inr (.inr (t, as, (pc, b, st)))
set_option maxHeartbeats 4000000 in
theorem mm_do_le {X : mm_X} {m pc : Nat} {i : Instr} {a b : List (Option Value)} {st : List Value} {h : mm_H} {y : mm_Y} (hl : mm_le a b) (e : mm_do X m i pc a st h = some y) : ∃ z, mm_do X m i pc b st h = some z ∧ mm_lY y z := by
  cases hc : mm_lc i with
  | false =>
    have key : mm_do X m i pc a st h = some (mm_rl a y) := mm_do_bl hc a a y e
    rw [e] at key
    have hy : y = mm_rl a y := Option.some.inj key
    refine ⟨mm_rl b y, mm_do_bl hc a b y e, ?_⟩
    rw [hy]
    rcases y with ⟨⟨pc', ls', st'⟩, h'⟩ | v | ⟨t, as, pc', ls', st'⟩
    · exact ⟨b, hl, rfl⟩
    · rfl
    · exact ⟨b, hl, rfl⟩
  | true =>
    have ld : ∀ (len n : Nat) (g : Option (Option Value) → Option Value), (∀ o v, g o = some v → ∃ w, o = some (some w)) → mm_pu pc len a st h (g a[n]?) = some y → ∃ z, mm_pu pc len b st h (g b[n]?) = some z ∧ mm_lY y z := by
      intro len n g hg e
      cases hga : g a[n]? with
      | none => rw [hga] at e; cases e
      | some v =>
        obtain ⟨w, hw⟩ := hg _ _ hga
        have hb := hl.2 n w hw
        rw [hw] at hga
        rw [hw, hga] at e
        rw [hb, hga]
        unfold mm_pu mm_nx at e ⊢
        cases e
        exact ⟨_, rfl, b, hl, rfl⟩
    have gA : ∀ o v, mm_gA o = some v → ∃ w, o = some (some w) := fun o v hv => ⟨v, (mm_gA_inv hv).1⟩
    have gI : ∀ o v, (mm_gI o).map Value.int = some v → ∃ w, o = some (some w) := fun o v hv => by
      obtain ⟨x, h1, -⟩ := mm_gI_inv hv; exact ⟨_, h1⟩
    have gL : ∀ o v, (mm_gL o).map Value.long = some v → ∃ w, o = some (some w) := fun o v hv => by
      obtain ⟨x, h1, -⟩ := mm_gL_inv hv; exact ⟨_, h1⟩
    cases i
    case aload n => exact ld 2 n mm_gA gA e
    case aload_n n => exact ld 1 n.val mm_gA gA e
    case iload n => exact ld 2 n (fun o => (mm_gI o).map .int) gI e
    case iload_n n => exact ld 1 n.val (fun o => (mm_gI o).map .int) gI e
    case lload n => exact ld 2 n (fun o => (mm_gL o).map .long) gL e
    case lload_n n => exact ld 1 n.val (fun o => (mm_gL o).map .long) gL e
    case istore n =>
      simp only [mm_do] at e ⊢
      split at e
      · obtain ⟨g1, e⟩ := mm_cond_inv e
        rw [g1, cond_true]
        unfold mm_nx at e ⊢; cases e
        exact ⟨_, rfl, _, mm_le_st1 hl _ _, rfl⟩
      · cases e
    case istore_n n =>
      simp only [mm_do] at e ⊢
      split at e
      · obtain ⟨g1, e⟩ := mm_cond_inv e
        rw [g1, cond_true]
        unfold mm_nx at e ⊢; cases e
        exact ⟨_, rfl, _, mm_le_st1 hl _ _, rfl⟩
      · cases e
    case astore n =>
      simp only [mm_do] at e ⊢
      split at e
      · next v hv =>
        obtain ⟨g1, e⟩ := mm_cond_inv e
        simp only [g1, cond_true]
        unfold mm_nx at e ⊢; cases e
        exact ⟨_, rfl, _, mm_le_st1 hl _ _, rfl⟩
      · cases e
    case astore_n n =>
      simp only [mm_do] at e ⊢
      split at e
      · next v hv =>
        obtain ⟨g1, e⟩ := mm_cond_inv e
        simp only [g1, cond_true]
        unfold mm_nx at e ⊢; cases e
        exact ⟨_, rfl, _, mm_le_st1 hl _ _, rfl⟩
      · cases e
    case lstore n =>
      simp only [mm_do] at e ⊢
      split at e
      · obtain ⟨g1, e⟩ := mm_cond_inv e
        rw [g1, cond_true]
        unfold mm_nx at e ⊢; cases e
        exact ⟨_, rfl, _, mm_le_st2 hl _ _, rfl⟩
      · cases e
    case lstore_n n =>
      simp only [mm_do] at e ⊢
      split at e
      · obtain ⟨g1, e⟩ := mm_cond_inv e
        rw [g1, cond_true]
        unfold mm_nx at e ⊢; cases e
        exact ⟨_, rfl, _, mm_le_st2 hl _ _, rfl⟩
      · cases e
    case iinc n k =>
      simp only [mm_do] at e ⊢
      split at e
      · next x hv =>
        have g2 := hl.2 n _ (mm_gI_inv' hv)
        rw [g2]
        obtain ⟨g1, e⟩ := mm_cond_inv e
        simp only [mm_gI, g1, cond_true]
        unfold mm_nx at e ⊢; cases e
        exact ⟨_, rfl, _, mm_le_st1 hl _ _, rfl⟩
      · cases e
    all_goals cases hc
theorem mm_ev_le : ∀ (n : Nat) (X : mm_X) (d m pc : Nat) (a b : List (Option Value)) (st : List Value) (h : mm_H) (r : Option Value × mm_H), mm_le a b → mm_ev X n d m (pc, a, st) h = some r → mm_ev X n d m (pc, b, st) h = some r
  | 0, X, d, m, pc, a, b, st, h, r, hl, e => by simp [mm_ev] at e
  | n + 1, X, d, m, pc, a, b, st, h, r, hl, e => by
    rw [mm_ev] at e ⊢
    cases hs : mm_stp X m (pc, a, st) h with
    | none => rw [hs] at e; cases e
    | some y =>
      obtain ⟨len, i, hat, hd⟩ := mm_stp_inv hs
      obtain ⟨z, hz, hy⟩ := mm_do_le hl hd
      have hs2 : mm_stp X m (pc, b, st) h = some z := by
        unfold mm_stp
        show (match mm_at m pc with | some (_, i) => mm_do X m i pc b st h | none => none) = some z
        rw [show mm_at m pc = some (len, i) from hat]
        exact hz
      rw [hs] at e
      rw [hs2]
      rcases y with ⟨⟨pc', ls', st'⟩, h'⟩ | v | ⟨t, as, pc', ls', st'⟩
      · obtain ⟨c, hc, rfl⟩ := hy
        exact mm_ev_le n X d m pc' ls' c st' h' r hc e
      · have hy : z = .inr (.inl v) := hy
        subst hy
        exact e
      · obtain ⟨c, hc, rfl⟩ := hy
        cases d with
        | zero => exact e
        | succ d =>
          try dsimp only at e ⊢
          cases hev : mm_ev none n d t (mm_ent t as) h with
          | none => rw [hev] at e; cases e
          | some q =>
            obtain ⟨v, h2⟩ := q
            rw [hev] at e
            exact mm_ev_le n X (d + 1) m _ _ _ _ h2 r hc e
theorem mm_T.lose {X : mm_X} {d m pc : Nat} {a b : List (Option Value)} {st : List Value} {h : mm_H} {Q : Option Value → mm_H → Prop} (hl : mm_le a b) (k : mm_T X d m (pc, a, st) h Q) : mm_T X d m (pc, b, st) h Q := by
  obtain ⟨n, r, h', e, q⟩ := k
  exact ⟨n, r, h', mm_ev_le n X d m pc a b st h _ hl e, q⟩
/-- the locals of which the mask says true -/
def mm_mask (k : List Bool) (b : List (Option Value)) : List (Option Value) := match k, b with
  | true :: k, o :: b => o :: mm_mask k b
  | false :: k, _ :: b => none :: mm_mask k b
  | _, b => b
theorem mm_mask_le : ∀ (k : List Bool) (b : List (Option Value)), mm_le (mm_mask k b) b
  | [], b => by unfold mm_mask; exact ⟨rfl, fun i v hv => hv⟩
  | q :: k, [] => by cases q <;> exact ⟨rfl, fun i v hv => hv⟩
  | true :: k, o :: b => by
    obtain ⟨h1, h2⟩ := mm_mask_le k b
    refine ⟨by simp [mm_mask, h1], fun i v hv => ?_⟩
    cases i with
    | zero => exact hv
    | succ i => exact h2 i v hv
  | false :: k, o :: b => by
    obtain ⟨h1, h2⟩ := mm_mask_le k b
    refine ⟨by simp [mm_mask, h1], fun i v hv => ?_⟩
    cases i with
    | zero => cases hv
    | succ i => exact h2 i v hv
theorem mm_T.mask {X : mm_X} {d m pc : Nat} {b : List (Option Value)} {st : List Value} {h : mm_H} {Q : Option Value → mm_H → Prop} (k : List Bool) (t : mm_T X d m (pc, mm_mask k b, st) h Q) : mm_T X d m (pc, b, st) h Q := mm_T.lose (mm_mask_le k b) t
