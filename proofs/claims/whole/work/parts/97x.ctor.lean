/-! The two constructors, run as they are: the heap behind them. -/
/-- how a step may change the references: not at all, one field of a cell, a new cell's -/
def mm_rch (h h' : mm_H) : Prop := h'.2.2.2 = h.2.2.2 ∨ (∃ a ci k x, mm_isO a ci h.1 = true ∧ k < mm_fn.getD ci 0 ∧ h'.2.2.2 = mm_up h.2.2.2 a k x) ∨ h'.2.2.2 = mm_row h.2.2.2 h.1 (fun _ => 0)
def mm_pp (x : mm_R) (h : mm_H) : Prop := ∀ f' h', x = some (.inl (f', h')) → mm_rch h h'
theorem mm_pp_none {h : mm_H} : mm_pp none h := fun f' h' e => by cases e
theorem mm_pp_nx {pc : Nat} {ls : List (Option Value)} {st : List Value} {h h' : mm_H} (e : mm_rch h h') : mm_pp (mm_nx pc ls st h') h := fun f2 h2 z => by
  unfold mm_nx at z; cases z; exact e
theorem mm_pp_cond {b : Bool} {x : mm_R} {h : mm_H} (e : b = true → mm_pp x h) : mm_pp (cond b x none) h := by
  cases b
  · exact mm_pp_none
  · exact e rfl
theorem mm_pp_ite {q : Prop} [Decidable q] {x y : mm_R} {h : mm_H} (e : mm_pp x h) (e2 : mm_pp y h) : mm_pp (if q then x else y) h := by
  by_cases hq : q
  · rw [if_pos hq]; exact e
  · rw [if_neg hq]; exact e2
theorem mm_pp_of {x : mm_R} {h : mm_H} (e : ∀ f' h', x = some (.inl (f', h')) → h'.2.2.2 = h.2.2.2) : mm_pp x h := fun f' h' z => Or.inl (e f' h' z)
theorem mm_pp_pf {m pc k : Nat} {ini : Nat → Bool} {ls : List (Option Value)} {st : List Value} {h : mm_H} : mm_pp (mm_pf ini pc ls st h (mm_lk mm_fl (mm_own m * 2000 + k))) h := by
  unfold mm_pf
  split
  · next ci j hlk =>
    split
    · next v a r =>
      refine mm_pp_cond fun ho => ?_
      split
      · next kd fin hfk =>
        generalize (Nat.beq fin 1 && !ini _) = b9
        cases b9
        · rw [cond_false]
          split
          · exact mm_pp_nx (Or.inl rfl)
          · exact mm_pp_nx (Or.inl rfl)
          · next x =>
            obtain ⟨ha0, ha1, hsh⟩ := mm_isO_spec ho
            have hc13 : ci < 13 := by
              have h1 := mm_lv_get mm_shp a
              have h2 : (mm_lv mm_shp).all (fun x => !(Nat.beq x.1 0) || Nat.blt x.2 13) = true := by decide +kernel
              have h3 := List.all_eq_true.mp h2 _ h1
              rw [show mm_shp.get a = (0, ci) from hsh] at h3
              have h4 : Nat.blt ci 13 = true := by simpa using h3
              exact Nat.le_of_ble_eq_true h4
            exact mm_pp_nx (Or.inr (Or.inl ⟨a, ci, j, _, ho, mm_fl_k hlk hc13, rfl⟩))
          · exact mm_pp_ite (mm_pp_nx (Or.inl rfl)) mm_pp_none
          · exact mm_pp_none
        · rw [cond_true]; exact mm_pp_none
      · exact mm_pp_none
    · exact mm_pp_none
  · exact mm_pp_none
theorem mm_pp_new {pc len : Nat} {ls : List (Option Value)} {st : List Value} {h : mm_H} {sh : Nat × Nat} : mm_pp (mm_new pc len ls st h sh) h := by
  unfold mm_new
  exact mm_pp_cond fun _ => mm_pp_nx (Or.inr (Or.inr rfl))
set_option maxHeartbeats 4000000 in
theorem mm_do_pp {X : mm_X} {m pc : Nat} {i : Instr} {ls : List (Option Value)} {st : List Value} {h : mm_H} : mm_pp (mm_do X m i pc ls st h) h := by
  cases i
  case putfield k => exact mm_pp_pf
  case new k =>
    simp only [mm_do]; split
    · exact mm_pp_new
    · exact mm_pp_none
  case newarray ty =>
    simp only [mm_do]; split
    · refine mm_pp_ite mm_pp_none ?_
      cases ty <;> first | exact mm_pp_new | exact mm_pp_none
    · exact mm_pp_none
  all_goals
    intro f' h' e
    left
    simp only [mm_do, mm_pu, mm_b2, mm_d2, mm_j2, mm_u1, mm_nx, mm_br, mm_if1, mm_if2, mm_go, mm_gf, mm_ald, mm_ast, mm_lald, mm_last, mm_alen, mm_ix, mm_ret, mm_copy, mm_static, mm_call, mm_special, Bool.cond_eq_ite] at e
    repeat' (split at e)
    all_goals first | (cases e; done) | (cases e; rfl)
/-- how many fields a cell has -/
def mm_nf (a : Nat) : Nat := cond (Nat.beq (mm_sh a).1 0) (mm_fn.getD (mm_sh a).2 0) 0
/-- references stand only where fields are -/
def mm_ri (h : mm_H) : Prop := h.1 ≤ 107 ∧ ∀ a k, (107 ≤ a ∨ mm_nf a ≤ k) → h.2.2.2 a k = 0
theorem mm_stp_ri {X : mm_X} {m : Nat} {f f' : mm_F} {h h' : mm_H} (hr : mm_ri h) (h7 : h'.1 ≤ 107) (e : mm_stp X m f h = some (.inl (f', h'))) : mm_ri h' := by
  obtain ⟨len, i, -, e⟩ := mm_stp_inv e
  refine ⟨h7, fun a k hak => ?_⟩
  rcases mm_do_pp f' h' e with g | ⟨b, ci, j, x, g1, g2, g3⟩ | g
  · rw [g]; exact hr.2 a k hak
  · rw [g3]
    obtain ⟨-, hb, hs⟩ := mm_isO_spec g1
    have hnf : mm_nf b = mm_fn.getD ci 0 := by unfold mm_nf; rw [hs]; rfl
    have h107 := hr.1
    simp only [mm_up]
    rw [if_neg (by
      intro q
      obtain ⟨q1, q2⟩ := q
      rw [q1, hnf, q2] at hak
      omega)]
    exact hr.2 a k hak
  · rw [g]
    simp only [mm_row]
    split
    · rfl
    · exact hr.2 a k hak
theorem mm_ev_ri : ∀ (n : Nat) (X : mm_X) (d m : Nat) (f : mm_F) (h : mm_H) (r : Option Value) (h' : mm_H), mm_ri h → h'.1 ≤ 107 → mm_ev X n d m f h = some (r, h') → mm_ri h'
  | 0, X, d, m, f, h, r, h', _, _, e => by simp [mm_ev] at e
  | n + 1, X, d, m, f, h, r, h', hr, h7, e => by
    rw [mm_ev] at e
    split at e
    · next f1 h1 hs => exact mm_ev_ri n X d m f1 h1 r h' (mm_stp_ri hr (Nat.le_trans (mm_ev_na n X d m f1 h1 r h' e) h7) hs) h7 e
    · next v hs => cases e; exact hr
    · next t as f1 hs =>
      cases d with
      | zero => simp at e
      | succ d =>
        try dsimp only at e
        split at e
        · next v h2 hc =>
          have h8 : h2.1 ≤ 107 := Nat.le_trans (mm_ev_na n X (d + 1) m _ h2 r h' e) h7
          exact mm_ev_ri n X (d + 1) m _ h2 r h' (mm_ev_ri n none d t _ h v h2 hr h8 hc) h7 e
        · simp at e
    · simp at e
/-- the two constructors, one behind the other -/
def mm_ct3 : Option mm_H := match mm_ev none 30000 900 158 (mm_ent 158 [.ref 1]) (mm_zh mm_h0) with
  | some (none, h1) => cond (Nat.beq h1.1 62) (match mm_ev none 30000 900 206 (mm_ent 206 [.ref 62]) (mm_zh h1) with
    | some (none, h2) => some h2
    | _ => none) none
  | _ => none
def okL : List (Nat × Nat × Int) := [(1, 1, 0), (1, 2, 0), (1, 3, -1), (19, 0, 8), (19, 1, 6), (19, 4, 0), (19, 5, 0), (19, 6, 0), (20, 3, 0), (20, 4, 0), (33, 2, 0), (33, 3, 0), (33, 4, 0), (33, 5, 0), (35, 1, 0), (54, 5, 0), (54, 9, 0), (54, 10, 0), (62, 1, 0), (62, 2, 0), (62, 3, -1), (62, 46, 8), (62, 47, 6), (62, 48, 0), (62, 49, 0), (62, 50, 0), (62, 18, 0), (62, 21, 0), (62, 57, 0), (62, 58, 0), (62, 75, 0), (62, 76, 0), (62, 61, 0), (105, 0, 0), (105, 1, 0), (105, 2, 0)]
def t0 (z : Int) : Int := if 20 ≤ z ∧ z < 27 then -1 else 0
def ok0 (h : mm_H) : Bool := Nat.beq h.1 107 && (okL.all (fun e => decide (h.2.1 e.1 e.2.1 = iN e.2.2)) && ((List.range 56).all (fun z => decide (h.2.1 24 z = iN (-1)) && (decide (h.2.1 25 z = iN 0) && (decide (h.2.1 78 z = iN 0) && decide (h.2.1 79 z = iN 0)))) && ((List.range 28).all (fun z => decide (h.2.1 32 z = iN (t0 (z : Int))) && decide (h.2.1 84 z = iN 0)) && (List.range 19).all (fun k => decide (h.2.2.1 17 k = iL (c27 (ownI k)))))))
def mm_ctr (h : mm_H) : Bool := (List.range 107).all (fun a => (List.range (mm_nf a)).all (fun k => Nat.beq (h.2.2.2 a k) (mm_rf 19 3 3 39 40 a k)))
set_option maxRecDepth 1000000 in
theorem mm_ct_ok : (mm_ct3.any ok0) = true := by decide +kernel
set_option maxRecDepth 1000000 in
theorem mm_ct_okr : (mm_ct3.any mm_ctr) = true := by decide +kernel
