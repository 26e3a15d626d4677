/-! LINES: what is told so far. W 0: columns, rows, boards, loads, flood, codes, units, draw, currents, irons; W 1 currents (-1: none), W 2 irons, W 3 wides, W 4 starts, W 5 bears, W 6 loads' wides, W 7 codes; X which lines were told; NB, NL names. -/
def bi (b : Bool) : Int := if b = true then 1 else 0
def cBd (W : (Nat → Int → Int)) (X : Int32) (NB NL : Nat → List Int) (r : Nat) (I : (Nat → Nat → Int32)) (J : mJ) : Prop :=
  I 16 9 = X ∧ (I r 0 = iN (W 0 0) ∧ I r 1 = iN (W 0 1) ∧ I r 2 = iN (W 0 8) ∧ I r 3 = iN (W 0 9) ∧ I r 4 = iN (W 0 2) ∧ I r 5 = iN (W 0 3) ∧ I r 6 = iN (W 0 4) ∧ I r 7 = iN (W 0 7) ∧ I (r + 1) 3 = iN (W 0 5) ∧ I (r + 1) 4 = iN (W 0 6)) ∧
  (hr I (r + 5) 56 (W 1) ∧ hr I (r + 6) 56 (W 2) ∧ hr I (r + 7) (W 0 2) (W 3) ∧ hr I (r + 8) (W 0 2) (W 4) ∧ hr I (r + 9) (W 0 2) (W 5) ∧ hr I (r + 11) (W 0 3) (W 6) ∧ hr I (r + 2) (W 0 5) (W 7)) ∧
  (∀ k : Nat, k < W 0 2 → J (r + 10) k = iL (c27 (NB k))) ∧ (∀ k : Nat, k < W 0 3 → J (r + 12) k = iL (c27 (NL k)))
def rBd (W : (Nat → Int → Int)) (X : Int32) (NB NL : Nat → List Int) (I : (Nat → Nat → Int32)) (J : mJ) : Prop :=
  (I 62 38 = iN (W 0 0) ∧ I 62 39 = iN (W 0 1) ∧ I 62 40 = iN (W 0 8) ∧ I 62 41 = iN (W 0 9) ∧ I 62 42 = iN (W 0 2) ∧ I 62 43 = iN (W 0 3) ∧ I 62 44 = iN (W 0 4) ∧ I 62 45 = iN (W 0 7) ∧ I 62 20 = iN (W 0 6)) ∧
  (I 62 24 = iN (bi (bit X 5)) ∧ I 62 52 = iN (bi (bit X 6)) ∧ I 62 53 = iN (bi (bit X 7))) ∧
  (hr I 72 56 (W 1) ∧ hr I 73 56 (fun z => if W 2 z = 1 then 1 else -1) ∧ hr I 74 (W 0 2) (W 3) ∧ hr I 75 (W 0 2) (W 4) ∧ hr I 76 (W 0 2) (W 5) ∧ hr I 77 (W 0 3) (W 6)) ∧
  (bit X 5 = true → I 62 17 = iN (W 0 5) ∧ hr I 65 (W 0 5) (fun z => rcs (W 7 z)) ∧ hr I 66 (W 0 5) (fun z => rca (W 7 z))) ∧
  (∀ k : Nat, k < W 0 2 → J 64 k = iL (c256 (NB k))) ∧ (∀ k : Nat, k < W 0 3 → J 64 (4 + k) = iL (c256 (NL k)))
def wfB (W : (Nat → Int → Int)) (X : Int32) (NB NL : Nat → List Int) : Prop :=
  (1 ≤ W 0 0 ∧ W 0 0 ≤ 8 ∧ 1 ≤ W 0 1 ∧ W 0 1 ≤ 6 ∧ 0 ≤ W 0 2 ∧ W 0 2 ≤ 4 ∧ 0 ≤ W 0 3 ∧ W 0 3 ≤ 7 ∧ 0 ≤ W 0 4 ∧ W 0 4 ≤ 100 ∧ 0 ≤ W 0 5 ∧ W 0 5 ≤ 300 ∧ 0 ≤ W 0 6 ∧ W 0 6 ≤ 30 ∧ 0 ≤ W 0 7 ∧ W 0 7 ≤ 999 ∧ 0 ≤ W 0 8 ∧ W 0 8 ≤ 16 ∧ 0 ≤ W 0 9 ∧ W 0 9 ≤ 6) ∧
  (∀ z, 0 ≤ z → z < 56 → -1 ≤ W 1 z ∧ W 1 z ≤ 7) ∧ (∀ z, 0 ≤ z → z < 56 → W 2 z = 0 ∨ W 2 z = 1) ∧
  (∀ z, 0 ≤ z → z < W 0 2 → 0 ≤ W 3 z ∧ W 3 z ≤ 99 ∧ 0 ≤ W 4 z ∧ W 4 z < W 0 0 ∧ 0 ≤ W 5 z ∧ W 5 z ≤ 99) ∧
  (∀ z, 0 ≤ z → z < W 0 3 → 0 ≤ W 6 z ∧ W 6 z ≤ 99) ∧
  (∀ z : Nat, z < W 0 5 → okz W z) ∧ ((bit X 5 = false ∧ W 0 5 = 0 ∧ W 0 6 = 0) ∨ (bit X 5 = true ∧ fdep W (W 0 5).toNat = 1 ∧ 0 < W 0 5)) ∧
  (X = iN 0 → W 0 2 = 0) ∧ (∀ k : Nat, k < W 0 2 → wrd (NB k)) ∧ (∀ k : Nat, k < W 0 3 → wrd (NL k))
def sm2 (B : Nat → Int) (m r : Nat) (W : (Nat → Int → Int)) (X : Int32) (NB NL : Nat → List Int) (p : Nat) (I : (Nat → Nat → Int32)) (J : mJ) (I' : (Nat → Nat → Int32)) (J' : mJ) : Prop :=
  wfB W X NB NL ∧ TT B m p I J I' J' ∧ cBd W X NB NL r I J ∧ rBd W X NB NL I' J' ∧ I' 62 51 = iN (if X = iN 0 then 0 else 1) ∧ I 16 11 = iN 0 ∧ I 16 12 = iN (-1) ∧ I' 62 3 = iN (-1)
def lC (r : Nat) (I I' : (Nat → Nat → Int32)) : Prop := ∀ a k, ¬ a = 16 → ¬ (r ≤ a ∧ a ≤ r + 12) → I' a k = I a k
def lCJ (r : Nat) (J J' : mJ) : Prop := ∀ a k, ¬ (a = 16 ∧ k = 8) → ¬ (r ≤ a ∧ a ≤ r + 12) → J' a k = J a k
def lR (I I' : (Nat → Nat → Int32)) : Prop := ∀ a k, ¬ (a = 65 ∨ a = 66 ∨ a = 69 ∨ (72 ≤ a ∧ a ≤ 77)) → ¬ (a = 62 ∧ ((2 ≤ k ∧ k ≤ 8) ∨ k = 17 ∨ k = 19 ∨ k = 20 ∨ (22 ≤ k ∧ k ≤ 24) ∨ (38 ≤ k ∧ k ≤ 45) ∨ (51 ≤ k ∧ k ≤ 53))) → I' a k = I a k
def lRJ (J J' : mJ) : Prop := ∀ a k, ¬ (a = 62 ∧ k = 9) → ¬ a = 64 → J' a k = J a k
theorem lC_trans {r : Nat} {I I' I'' : (Nat → Nat → Int32)} (h : lC r I I') (h' : lC r I' I'') : lC r I I'' := fun a k h1 h2 => by rw [h' a k h1 h2, h a k h1 h2]
theorem lCJ_trans {r : Nat} {J J' J'' : mJ} (h : lCJ r J J') (h' : lCJ r J' J'') : lCJ r J J'' := fun a k h1 h2 => by rw [h' a k h1 h2, h a k h1 h2]
theorem lR_trans {I I' I'' : (Nat → Nat → Int32)} (h : lR I I') (h' : lR I' I'') : lR I I'' := fun a k h1 h2 => by rw [h' a k h1 h2, h a k h1 h2]
theorem lRJ_trans {J J' J'' : mJ} (h : lRJ J J') (h' : lRJ J' J'') : lRJ J J'' := fun a k h1 h2 => by rw [h' a k h1 h2, h a k h1 h2]
theorem lC_refl {r : Nat} {I : (Nat → Nat → Int32)} : lC r I I := fun _ _ _ _ => rfl
theorem lCJ_refl {r : Nat} {J : mJ} : lCJ r J J := fun _ _ _ _ => rfl
theorem lR_refl {I : (Nat → Nat → Int32)} : lR I I := fun _ _ _ _ => rfl
theorem lRJ_refl {J : mJ} : lRJ J J := fun _ _ _ _ => rfl
theorem lC_k {r : Nat} {I I' : (Nat → Nat → Int32)} (h : xk I I') : lC r I I' := fun a k h1 _ => h a k (by omega)
theorem lC_f {r : Nat} {I I' : (Nat → Nat → Int32)} (h : xf2 I I') : lC r I I' := fun a k h1 _ => h a k (by omega)
theorem lCJ_k {r : Nat} {J J' : mJ} (h : xJ J J') : lCJ r J J' := fun a k h1 _ => h a k h1
theorem lR_r {I I' : (Nat → Nat → Int32)} (h : xr I I') : lR I I' := fun a k _ h2 => h a k (by omega)
theorem lR_f {I I' : (Nat → Nat → Int32)} (h : rf2 I I') : lR I I' := fun a k _ h2 => h a k (by omega)
theorem lRJ_r {J J' : mJ} (h : xJr J J') : lRJ J J' := fun a k h1 _ => h a k h1
theorem lR_up {I : (Nat → Nat → Int32)} {k : Nat} {x : Int32} (h : (2 ≤ k ∧ k ≤ 8) ∨ k = 17 ∨ k = 19 ∨ k = 20 ∨ (22 ≤ k ∧ k ≤ 24) ∨ (38 ≤ k ∧ k ≤ 45) ∨ (51 ≤ k ∧ k ≤ 53)) : lR I (mm_up I 62 k x) := fun a j _ h2 => up_o (by omega)
theorem lR_row {I : (Nat → Nat → Int32)} {a k : Nat} {x : Int32} (h : a = 65 ∨ a = 66 ∨ a = 69 ∨ (72 ≤ a ∧ a ≤ 77)) : lR I (mm_up I a k x) := fun b j h1 _ => up_o (by omega)
theorem FF_up {I I' I2 : (Nat → Nat → Int32)} (h : FF I I') (e2 : I2 62 2 = I' 62 2) (e3 : I2 62 3 = I' 62 3) : FF I I2 := by
  obtain ⟨k, pl, a, b, c, d, e⟩ := h
  exact ⟨k, pl, a, b, c, by rw [e2]; exact d, by rw [e3]; exact e⟩
theorem hasF_up {I I' : (Nat → Nat → Int32)} (h : hasF I) (e : I' 62 2 = I 62 2) : hasF I' := by
  obtain ⟨f, a, b, c⟩ := h
  exact ⟨f, a, b, by rw [e]; exact c⟩
/-- a line: both find one fault, or both are through -/
def LN (B : Nat → Int) (m r p : Nat) (I : (Nat → Nat → Int32)) (J : mJ) (I' : (Nat → Nat → Int32)) (J' : mJ) (c : Option (Int32 × (Nat → Nat → Int32) × mJ)) (f : Option ((Nat → Nat → Int32) × mJ)) : Prop :=
  (∃ I1 J1 I1' J1', c = some (iN 0, I1, J1) ∧ f = some (I1', J1') ∧ FF I1 I1' ∧ lC r I I1 ∧ lCJ r J J1 ∧ lR I' I1' ∧ lRJ J' J1') ∨
  (∃ W X NB NL p1 I1 J1 I1' J1', c = some (iN 1, I1, J1) ∧ f = some (I1', J1') ∧ sm2 B m r W X NB NL p1 I1 J1 I1' J1' ∧ p < p1 ∧ lC r I I1 ∧ lCJ r J J1 ∧ lR I' I1' ∧ lRJ J' J1')
section LNS
variable {B : Nat → Int} {m r p : Nat} {I : (Nat → Nat → Int32)} {J : mJ} {I' : (Nat → Nat → Int32)} {J' : mJ} {W : (Nat → Int → Int)} {X : Int32} {NB NL : Nat → List Int}
theorem LN_x {p0 : Nat} {I0 : (Nat → Nat → Int32)} {J0 : mJ} {I0' : (Nat → Nat → Int32)} {J0' : mJ} {c : Option (Int32 × (Nat → Nat → Int32) × mJ)} {f : Option ((Nat → Nat → Int32) × mJ)} (h : LN B m r p I J I' J' c f) (hp : p0 ≤ p) (e1 : lC r I0 I) (e2 : lCJ r J0 J) (e3 : lR I0' I') (e4 : lRJ J0' J') : LN B m r p0 I0 J0 I0' J0' c f := by
  rcases h with ⟨I1, J1, I1', J1', a, b, c, d, e, g, i⟩ | ⟨W, X, NB, NL, p1, I1, J1, I1', J1', a, b, c, k, d, e, g, i⟩
  · exact Or.inl ⟨I1, J1, I1', J1', a, b, c, lC_trans e1 d, lCJ_trans e2 e, lR_trans e3 g, lRJ_trans e4 i⟩
  · exact Or.inr ⟨W, X, NB, NL, p1, I1, J1, I1', J1', a, b, c, by omega, lC_trans e1 d, lCJ_trans e2 e, lR_trans e3 g, lRJ_trans e4 i⟩
theorem LN_w {c : Option (Int32 × (Nat → Nat → Int32) × mJ)} {f : Option ((Nat → Nat → Int32) × mJ)} (h : LN B m r p I J I' J' c f) : LN B m r p I J I' J' (c.bind fun o => (if o.1 = 0 ∨ o.1 = 1 then some (o.1, o.2.1, o.2.2) else none)) f := by
  rcases h with ⟨I1, J1, I1', J1', a, b⟩ | ⟨W, X, NB, NL, p1, I1, J1, I1', J1', a, b⟩
  · refine Or.inl ⟨I1, J1, I1', J1', ?_, b⟩
    rw [a, Option.bind_some]
    exact if_pos (Or.inl rfl)
  · refine Or.inr ⟨W, X, NB, NL, p1, I1, J1, I1', J1', ?_, b⟩
    rw [a, Option.bind_some]
    exact if_pos (Or.inr rfl)
theorem cBd_k (hr0 : r = 3 ∨ r = 19) (h : cBd W X NB NL r I J) {I1 : (Nat → Nat → Int32)} {J1 : mJ} (e : xk I I1) (e' : xJ J J1) : cBd W X NB NL r I1 J1 := by
  obtain ⟨h0, ⟨a1, a2, a3, a4, a5, a6, a7, a8, a9, a10⟩, ⟨b1, b2, b3, b4, b5, b6, b7⟩, n1, n2⟩ := h
  have g : ∀ a, ¬ a = 16 → ∀ k, I1 a k = I a k := fun a ha k => e a k (by omega)
  have hh : ∀ {a : Nat} {n : Int} {F : Int → Int}, ¬ a = 16 → hr I a n F → hr I1 a n F := fun ha h z h1 h2 => by rw [g _ ha]; exact h z h1 h2
  refine ⟨by rw [e 16 9 (by omega)]; exact h0, ⟨?_, ?_, ?_, ?_, ?_, ?_, ?_, ?_, ?_, ?_⟩, ⟨hh (by omega) b1, hh (by omega) b2, hh (by omega) b3, hh (by omega) b4, hh (by omega) b5, hh (by omega) b6, hh (by omega) b7⟩, fun k hk => by rw [e' _ _ (by omega)]; exact n1 k hk, fun k hk => by rw [e' _ _ (by omega)]; exact n2 k hk⟩
  all_goals (rw [g _ (by omega)]; assumption)
theorem rBd_r (h : rBd W X NB NL I J) {I1 : (Nat → Nat → Int32)} {J1 : mJ} (e : xr I I1) (e' : xJr J J1) : rBd W X NB NL I1 J1 := by
  obtain ⟨⟨a1, a2, a3, a4, a5, a6, a7, a8, a9⟩, ⟨c1, c2, c3⟩, ⟨b1, b2, b3, b4, b5, b6⟩, d, n1, n2⟩ := h
  have g : ∀ a, ¬ a = 62 → ∀ k, I1 a k = I a k := fun a ha k => e a k (by omega)
  have hh : ∀ {a : Nat} {n : Int} {F : Int → Int}, ¬ a = 62 → hr I a n F → hr I1 a n F := fun ha h z h1 h2 => by rw [g _ ha]; exact h z h1 h2
  refine ⟨⟨?_, ?_, ?_, ?_, ?_, ?_, ?_, ?_, ?_⟩, ⟨?_, ?_, ?_⟩, ⟨hh (by omega) b1, hh (by omega) b2, hh (by omega) b3, hh (by omega) b4, hh (by omega) b5, hh (by omega) b6⟩, fun z => ⟨by rw [e _ _ (by omega)]; exact (d z).1, hh (by omega) (d z).2.1, hh (by omega) (d z).2.2⟩, fun k hk => by rw [e' _ _ (by omega)]; exact n1 k hk, fun k hk => by rw [e' _ _ (by omega)]; exact n2 k hk⟩
  all_goals (rw [e _ _ (by omega)]; assumption)
theorem J235_F (hf : hasF I) {n : Nat} : fX12_readLine_J235 n I J = some (mm_up I 62 51 1, J) := by
  obtain ⟨f1, f2⟩ := hasF_no hf
  rw [fX12_readLine_J235, ite_n f1, ite_n f1]
/-- a fault: the class is through, the reference goes on to the line's end and does nothing -/
theorem LN_F {I1 : (Nat → Nat → Int32)} {J1 : mJ} {I1' : (Nat → Nat → Int32)} {J1' : mJ} (hF : FF I1 I1') (e1 : lC r I I1) (e2 : lCJ r J J1) (e3 : lR I' I1') (e4 : lRJ J' J1') {n : Nat} : LN B m r p I J I' J' (some (iN 0, I1, J1)) (fX12_readLine_J235 n I1' J1') := by
  refine Or.inl ⟨I1, J1, _, J1', rfl, J235_F (FF_has hF), FF_up hF (up_k (by omega)) (up_k (by omega)), e1, e2, lR_trans e3 (lR_up (by omega)), e4⟩
theorem LN_end (hr0 : r = 3 ∨ r = 19) (hw : wfB W X NB NL) (hX : ¬ X = iN 0) (hT : TT B m p I J I' J') (hc : cBd W X NB NL r I J) (hR : rBd W X NB NL I' J') (f1 : I 16 11 = iN 0) (f2 : I 16 12 = iN (-1)) (f3 : I' 62 3 = iN (-1)) {n : Nat} (hn : 1700 ≤ n) : LN B m r p I J I' J' (fX4_passEndOfLine n I J) (fX12_readLine_J235 n I' J') := by
  have fz : I' 62 2 = (0 : Int32) := hT.2.2
  have hs := cl_iss hT.1 (c := 59) (by omega)
  have hs : fX4_isSign 59 I = some (if tK B m p = 3 ∧ B (tP B m p) = 59 then iN 1 else iN 0) := hs
  obtain ⟨-, -, -, -, s5, s6, s7⟩ := tS_sp hT.2.1.2.1 hT.1.1
  have h59 : (I' 62 6 = (59 : Int32)) = (tK B m p = 3 ∧ B (tP B m p) = 59) := by
    show (I' 62 6 = iN 59) = _
    rw [hT.2.1.2.2.2.1, iN_eq (by omega) (by omega) (by omega) (by omega)]
    exact propext (s5 59 (by omega))
  rw [fX4_passEndOfLine, hs, Option.bind_some]
  by_cases e : tK B m p = 3 ∧ B (tP B m p) = 59
  · rw [if_pos e, ite_n (show ¬ iN 1 = (0 : Int32) from n10), fX12_readLine_J235, ite_p fz, ite_p (h59.mpr e), ite_p fz]
    have hT1 : TT B m p I J (mm_up I' 62 51 1) J' := ⟨hT.1, rT_of hT.2.1 (fun k hk => up_k (by omega)) (fun j => by rw [up_a (by omega)]) rfl, by rw [up_k (by omega)]; exact hT.2.2⟩
    obtain ⟨I1, J1, I1', J1', a1, a2, a3, a4, a5, a6, a7⟩ := bt_adv hT1 (by omega) hn
    rw [a1, a2, Option.bind_some, Option.bind_some]
    refine Or.inr ⟨W, X, NB, NL, tN B m p, I1, J1, I1', J1', rfl, rfl, ⟨hw, a3, cBd_k hr0 hc a4 a5, ?_, ?_, ?_, ?_, ?_⟩, ((tN_in (B := B) hT.1.1).2.2 (by omega)).2.2, lC_k a4, lCJ_k a5, lR_trans (lR_up (by omega)) (lR_r a6), lRJ_r a7⟩
    · refine rBd_r ?_ a6 a7
      obtain ⟨⟨a1, a2, a3, a4, a5, a6, a7, a8, a9⟩, ⟨c1, c2, c3⟩, ⟨b1, b2, b3, b4, b5, b6⟩, d, n1, n2⟩ := hR
      have hh : ∀ {a : Nat} {n : Int} {F : Int → Int}, ¬ a = 62 → hr I' a n F → hr (mm_up I' 62 51 1) a n F := fun ha h z h1 h2 => by rw [up_a ha]; exact h z h1 h2
      refine ⟨⟨?_, ?_, ?_, ?_, ?_, ?_, ?_, ?_, ?_⟩, ⟨?_, ?_, ?_⟩, ⟨hh (by omega) b1, hh (by omega) b2, hh (by omega) b3, hh (by omega) b4, hh (by omega) b5, hh (by omega) b6⟩, fun z => ⟨by rw [up_k (by omega)]; exact (d z).1, hh (by omega) (d z).2.1, hh (by omega) (d z).2.2⟩, n1, n2⟩
      all_goals (rw [up_k (by omega)]; assumption)
    · rw [a6 _ _ (by omega), up_eq, if_neg hX]; rfl
    · rw [a4 _ _ (by omega)]; exact f1
    · rw [a4 _ _ (by omega)]; exact f2
    · rw [a6 _ _ (by omega), up_k (by omega)]; exact f3
  · rw [if_neg e, ite_p (show iN 0 = (0 : Int32) from rfl), fX12_readLine_J235, ite_p fz, ite_n (fun z => e (h59.mp z))]
    have hT1 : TT B m p I J (mm_up I' 62 51 1) J' := ⟨hT.1, rT_of hT.2.1 (fun k hk => up_k (by omega)) (fun j => by rw [up_a (by omega)]) rfl, by rw [up_k (by omega)]; exact hT.2.2⟩
    obtain ⟨I1, I1', b1, b2, b3, b4, b5⟩ := bt_ref hT1 (j := 2) (by omega)
    have b1 : fX4_refuse 2 I = (iN 0, I1) := b1
    have b2 : fX12_wrong 2 (mm_up I' 62 51 1) = I1' := b2
    rw [b1, b2, ite_n (hasF_no (FF_has b3)).1]
    exact Or.inl ⟨I1, J, I1', J', if_pos (Or.inl rfl), rfl, b3, lC_f b4, lCJ_refl, lR_trans (lR_up (by omega)) (lR_f b5), lRJ_refl⟩
end LNS
