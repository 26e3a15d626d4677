/-! Moorings of all, in both. -/
theorem or_co (x y : Int32) : x ||| y = y ||| x := bit_ext (fun c _ _ => by rw [bit_or, bit_or, Bool.or_comm])
/-- digit by digit -/
def dgs {α : Type} (f : List α → Option Int) (L : List (List α)) (e : Nat → α) (p : List α) (x : Option (Int × List α)) (n : Nat) : Option (Int × List α) := match n with
  | 0 => x
  | n + 1 => fmin f (dgs f L e p x n) (L.map (fun s => p ++ e n :: s))
theorem dgs_lex (f : List Int → Option Int) (d k : Nat) (p : List Int) (x : Option (Int × List Int)) : fmin f x ((lex d (k + 1)).map (fun s => p ++ s)) = dgs f (lex d k) (fun n => (n : Int)) p x d := by
  have : ∀ m, fmin f x (((List.range m).flatMap (fun (a : Nat) => (lex d k).map (fun t => (a : Int) :: t))).map (fun s => p ++ s)) = dgs f (lex d k) (fun n => (n : Int)) p x m := by
    intro m
    induction m with
    | zero => rfl
    | succ m ih =>
      rw [List.range_succ, List.flatMap_append, List.map_append, fmin_app, ih, dgs]
      congr 1
      rw [List.flatMap_cons, List.flatMap_nil, List.append_nil, List.map_map]
      rfl
  exact this d
def lA (V : (Nat → Int → Int)) (S : Int → Int) (b : Int) : Int32 := if S (4 + b) = 0 then lnd V (lft V S b) (S b) (S (4 + b)) else iN 0
def vM (A : Int → Int32) (b : Int) (X : Int32) (t : List Int) : Bool := match t with
  | [] => true
  | a :: t => if a = 8 then vM A (b + 1) X t else (bit (A b) a && !bit X a) && vM A (b + 1) (X ||| iN 1 <<< iN a) t
def ct (t : List Int) : Int := match t with
  | [] => 0
  | a :: t => (if a = 8 then 0 else 1) + ct t
def bt (S : Int → Int) (b : Int) (t : List Int) : Int := match t with
  | [] => 0
  | a :: t => (if a = 8 then 0 else ab (a - S b)) + bt S (b + 1) t
def fM (V : (Nat → Int → Int)) (S : Int → Int) (t : List Int) : Option Int := if vM (lA V S) 0 (iN 0) t = true then some (-1000 * ct t + bt S 0 t) else none
theorem ct_app (p s : List Int) : ct (p ++ s) = ct p + ct s := by
  induction p with
  | nil => simp [ct]
  | cons a p ih => rw [List.cons_append, ct, ct, ih]; omega
theorem bt_app (S : Int → Int) (b : Int) (p s : List Int) : bt S b (p ++ s) = bt S b p + bt S (b + p.length) s := by
  induction p generalizing b with
  | nil => simp [bt]
  | cons a p ih => rw [List.cons_append, bt, bt, ih, List.length_cons, show b + 1 + (p.length : Int) = b + ((p.length + 1 : Nat) : Int) by omega]; omega
theorem ct_in (t : List Int) : 0 ≤ ct t ∧ ct t ≤ t.length := by
  induction t with
  | nil => simp [ct]
  | cons a t ih => rw [ct, List.length_cons]; split <;> omega
theorem bt_in {S : Int → Int} {m : Int} (hS : ∀ b, 0 ≤ b → b < m → 0 ≤ S b ∧ S b < 8) (t : List Int) : ∀ b : Int, 0 ≤ b → b + t.length ≤ m → (∀ a ∈ t, 0 ≤ a ∧ a < 9) → 0 ≤ bt S b t ∧ bt S b t ≤ 8 * t.length := by
  induction t with
  | nil => intro b _ _ _; simp [bt]
  | cons a t ih =>
    intro b h1 h2 h3
    rw [List.length_cons] at *
    have ha := h3 a (List.mem_cons_self ..)
    have hb := hS b h1 (by omega)
    have := ih (b + 1) (by omega) (by omega) (fun x hx => h3 x (List.mem_cons_of_mem _ hx))
    rw [bt]
    unfold ab
    split
    · omega
    · split <;> omega
theorem vM_snoc (A : Int → Int32) {a : Int} (ha : 0 ≤ a ∧ a < 9) (p : List Int) : ∀ (b : Int) (X : Int32), (∀ c ∈ p, 0 ≤ c ∧ c < 9) → vM A b X (p ++ [a]) = if a = 8 then vM A b X p else (bit (A (b + p.length)) a && !bit X a) && vM A b (X ||| iN 1 <<< iN a) p := by
  induction p with
  | nil =>
    intro b X _
    rw [List.nil_append, vM, vM, vM, vM, List.length_nil, show b + ((0 : Nat) : Int) = b by omega]
    rfl
  | cons c p ih =>
    intro b X hp
    have hc := hp c (List.mem_cons_self ..)
    have hp' : ∀ c ∈ p, 0 ≤ c ∧ c < 9 := fun x hx => hp x (List.mem_cons_of_mem _ hx)
    have el : b + 1 + (p.length : Int) = b + ((c :: p).length : Int) := by rw [List.length_cons]; omega
    rw [List.cons_append, vM, vM, vM, ih _ _ hp', ih _ _ hp', el]
    by_cases e8 : c = 8
    · rw [if_pos e8, if_pos e8, if_pos e8]
    · rw [if_neg e8, if_neg e8, if_neg e8]
      by_cases a8 : a = 8
      · rw [if_pos a8, if_pos a8]
      · rw [if_neg a8, if_neg a8, or_as, or_co (iN 1 <<< iN c), ← or_as, bit_or, bit_or, bit_shl1 hc.1 (by omega) ha.1 (by omega), bit_shl1 ha.1 (by omega) hc.1 (by omega)]
        have : decide (a = c) = decide (c = a) := by congr 1; apply propext; exact eq_comm
        rw [this]
        cases bit (A b) c <;> cases bit X c <;> cases bit (A (b + ((c :: p).length : Int))) a <;> cases bit X a <;> cases decide (c = a) <;> rfl
/-- a mooring as it lies -/
def enc (a : Int) : Int := if a = 8 then -1 else a
section MOO
variable {V : (Nat → Int → Int)} {S : Int → Int} {r : Nat}
theorem lA_hi (hw : wfV V) (hS : wfS V 600 S) {b : Int} (hb1 : 0 ≤ b) (hb2 : b < V 0 2) : ∀ d : Int, 0 ≤ d → d < 32 → bit (lA V S b) d = true → d < V 0 0 := by
  intro d d1 d2 h
  have hs := hS.1 b hb1 hb2
  unfold lA at h
  split at h
  · exact lnd_8 hw (by omega) (by omega) d d1 d2 h
  · rw [bit_0] at h; cases h
theorem rf_lay (A : Int → Int32) : ∀ (m n k : Nat) (X : Int32) (y : Int) (I : (Nat → Nat → Int32)), m ≤ 4 → m < n → k < 2147483648 → (0 ≤ y ∧ y + m ≤ 100) → (∀ b : Nat, b < m → I 94 b = A b) →
    ∃ z I', fX12_layMooring_L15 n (iN k) X (iN y) (iN ((m : Int) - 1)) I = some (z, I') ∧ ex [95] I I' ∧ (match z with | .inl va => va | .inr vb => vb) = (if vM A 0 X (dig 9 m k) = true then iN (y + ct (dig 9 m k)) else iN (-1)) ∧ (vM A 0 X (dig 9 m k) = true → ∀ z : Nat, z < m → I' 95 z = iN ((dig 9 m k).getD z 0)) ∧ (∀ z : Nat, m ≤ z → I' 95 z = I 95 z) := by
  intro m
  induction m with
  | zero =>
    intro n k X y I hm hn hk hy hA
    obtain ⟨n, rfl⟩ : ∃ n', n = n' + 1 := ⟨n - 1, by omega⟩
    refine ⟨.inr (iN y), I, ?_, ex_refl, ?_, by intro _ z h; omega, fun _ _ => rfl⟩
    · rw [fX12_layMooring_L15]
      simp (disch := omega) only [iN_lit, iN_add, iN_sub, iN_mul, iN_neg, iN_lt, iN_eq, iN_tn, if_true, if_false, if_pos, if_neg]
    · rw [dig, vM, ct, if_pos rfl, Int.add_zero]
  | succ m ih =>
    intro n k X y I hm hn hk hy hA
    obtain ⟨n, rfl⟩ : ∃ n', n = n' + 1 := ⟨n - 1, by omega⟩
    have tl := dig_len 9 m (k / 9)
    have hmem : ∀ c ∈ dig 9 m (k / 9), 0 ≤ c ∧ c < 9 := fun c hc => by have := dig_mem (d := 9) (by omega) m (k / 9) c hc; omega
    have hr1 : iN k - iN k / iN 9 * iN 9 = iN ((k % 9 : Nat) : Int) := by rw [iN_rem (by omega) (by omega) (by omega) (by omega)]; congr 1
    have hr2 : iN k / iN 9 = iN ((k / 9 : Nat) : Int) := by rw [iN_div (by omega) (by omega) (by omega) (by omega)]; congr 1
    have hA' := hA m (by omega)
    have unf := fX12_layMooring_L15.eq_def (n + 1) (iN k) X (iN y) (iN (((m + 1 : Nat) : Int) - 1)) I
    dsimp only at unf
    simp only [iN_lit] at unf
    rw [hr1, hr2, show ((m + 1 : Nat) : Int) - 1 = (m : Int) by omega] at unf
    simp (disch := omega) only [iN_lt, iN_tn, if_neg, iN_neg, iN_add, Int.toNat_natCast, up_eq, hA', iN_eq, iN_31, bit_t0, bit_t1] at unf
    rw [show (m : Int) + -1 = (m : Int) - 1 by omega] at unf
    rw [dig, vM_snoc A (a := ((k % 9 : Nat) : Int)) (by omega) _ _ _ hmem, tl, ct_app]
    rw [show (0 : Int) + (m : Int) = m by omega]
    have fin : ∀ (X' : Int32) (y' : Int), (0 ≤ y' ∧ y' + m ≤ 100) → ∃ z I', fX12_layMooring_L15 n (iN ((k / 9 : Nat) : Int)) X' (iN y') (iN ((m : Int) - 1)) (mm_up I 95 m (iN ((k % 9 : Nat) : Int))) = some (z, I') ∧ ex [95] I I' ∧ (match z with | .inl va => va | .inr vb => vb) = (if vM A 0 X' (dig 9 m (k / 9)) = true then iN (y' + ct (dig 9 m (k / 9))) else iN (-1)) ∧ (vM A 0 X' (dig 9 m (k / 9)) = true → ∀ z : Nat, z < m + 1 → I' 95 z = iN ((dig 9 m (k / 9) ++ [((k % 9 : Nat) : Int)]).getD z 0)) ∧ (∀ z : Nat, m + 1 ≤ z → I' 95 z = I 95 z) := by
      intro X' y' hy'
      obtain ⟨z, I', g1, g2, g3, g4, g5⟩ := ih n (k / 9) X' y' (mm_up I 95 m (iN ((k % 9 : Nat) : Int))) (by omega) (by omega) (by omega) hy' (fun b hb => by rw [up_a (by decide)]; exact hA b (by omega))
      refine ⟨z, I', g1, ex_trans (ex_up (by decide)) g2, g3, ?_, ?_⟩
      · intro hv j hj
        by_cases e : j = m
        · subst e; rw [g5 j (by omega), up_eq, gd_r tl.symm]
        · rw [g4 hv j (by omega), gd_l (by omega)]
      · intro j hj
        rw [g5 j (by omega), up_k (by omega)]
    rw [show ((m + 1 : Nat) : Int) - 1 = (m : Int) by omega]
    by_cases e8 : ((k % 9 : Nat) : Int) = 8
    · rw [if_pos e8] at unf ⊢
      have ec : ct [((k % 9 : Nat) : Int)] = 0 := by rw [ct, ct, if_pos e8]; rfl
      rw [ec, Int.add_zero, unf]
      exact fin X y (by omega)
    · rw [if_neg e8] at unf ⊢
      have ec : ct [((k % 9 : Nat) : Int)] = 1 := by rw [ct, ct, if_neg e8]; rfl
      rw [ec]
      have stop : fX12_layMooring_L15 (n + 1) (iN k) X (iN y) (iN (m : Int)) I = some (.inl (iN (-1)), mm_up I 95 m (iN ((k % 9 : Nat) : Int))) → (bit (A m) ((k % 9 : Nat) : Int) && !bit X ((k % 9 : Nat) : Int)) = false → ∃ z I', fX12_layMooring_L15 (n + 1) (iN k) X (iN y) (iN (m : Int)) I = some (z, I') ∧ ex [95] I I' ∧ (match z with | .inl va => va | .inr vb => vb) = (if ((bit (A m) ((k % 9 : Nat) : Int) && !bit X ((k % 9 : Nat) : Int)) && vM A 0 (X ||| iN 1 <<< iN ((k % 9 : Nat) : Int)) (dig 9 m (k / 9))) = true then iN (y + (ct (dig 9 m (k / 9)) + 1)) else iN (-1)) ∧ (((bit (A m) ((k % 9 : Nat) : Int) && !bit X ((k % 9 : Nat) : Int)) && vM A 0 (X ||| iN 1 <<< iN ((k % 9 : Nat) : Int)) (dig 9 m (k / 9))) = true → ∀ z : Nat, z < m + 1 → I' 95 z = iN ((dig 9 m (k / 9) ++ [((k % 9 : Nat) : Int)]).getD z 0)) ∧ (∀ z : Nat, m + 1 ≤ z → I' 95 z = I 95 z) := by
        intro h1 h2
        refine ⟨_, _, h1, ex_up (by decide), ?_, ?_, fun z hz => up_k (by omega)⟩
        · rw [h2]; rfl
        · rw [h2]; intro h; cases h
      cases eA : bit (A m) ((k % 9 : Nat) : Int) with
      | false =>
        rw [eA, ite_p rfl] at unf
        have := stop unf (by rw [eA]; rfl)
        rw [eA] at this
        exact this
      | true =>
        rw [eA, ite_n (by decide)] at unf
        cases eX : bit X ((k % 9 : Nat) : Int) with
        | true =>
          rw [eX, ite_p rfl] at unf
          have := stop unf (by rw [eX, Bool.not_true, Bool.and_false])
          rw [eA, eX] at this
          exact this
        | false =>
          rw [eX, ite_n (by decide)] at unf
          rw [unf]
          simp only [Bool.not_false, Bool.true_and]
          rw [show y + (ct (dig 9 m (k / 9)) + 1) = y + 1 + ct (dig 9 m (k / 9)) by omega]
          exact fin _ (y + 1) (by omega)
theorem rf_btw {I : (Nat → Nat → Int32)} (h : rOK V S I) {t : List Int} (hl : t.length = (V 0 2).toNat) (hm : ∀ a ∈ t, 0 ≤ a ∧ a < 9) (h95 : ∀ z : Nat, z < t.length → I 95 z = iN (t.getD z 0)) {n : Nat} (hn : 12 ≤ n) : fX12_betweenAll n I = some (iN (bt S 0 t)) := by
  have hu := h.1.1
  have key : ∀ (s : List Int) (n : Nat) (y z : Int), 0 ≤ z → z + s.length = t.length → s.length < n → (∀ i : Nat, i < s.length → I 95 (z.toNat + i) = iN (s.getD i 0)) → (∀ a ∈ s, 0 ≤ a ∧ a < 9) → fX12_betweenAll_L4 n (iN y) (iN z) I = some (iN (y + bt S z s)) := by
    intro s
    induction s with
    | nil =>
      intro n y z h0 h1 hn hi hs
      obtain ⟨n, rfl⟩ : ∃ m, n = m + 1 := ⟨n - 1, by omega⟩
      rw [List.length_nil] at h1
      rw [fX12_betweenAll_L4, h.2.2.1.1.2.2.1]
      simp (disch := omega) only [iN_lit, iN_add, iN_sub, iN_mul, iN_neg, iN_lt, iN_eq, iN_tn, if_true, if_false, if_pos, if_neg, bt, Int.add_zero]
    | cons a s ih =>
      intro n y z h0 h1 hn hi hs
      obtain ⟨n, rfl⟩ : ∃ m, n = m + 1 := ⟨n - 1, by omega⟩
      rw [List.length_cons] at h1 hn hi
      have ha := hs a (List.mem_cons_self ..)
      have hz := h.2.1.1 z h0 (by omega)
      have h84 := h.2.2.2 z h0 (by omega)
      have i0 := hi 0 (by omega)
      rw [Nat.add_zero, List.getD_cons_zero] at i0
      have nx := fun y => ih n y (z + 1) (by omega) (by omega) (by omega) (by
        intro i h
        have := hi (i + 1) (by omega)
        rw [List.getD_cons_succ] at this
        rw [show (z + 1).toNat + i = z.toNat + (i + 1) by omega]
        exact this) (fun x hx => hs x (List.mem_cons_of_mem _ hx))
      rw [fX12_betweenAll_L4, h.2.2.1.1.2.2.1]
      simp (disch := omega) only [iN_lit, iN_add, iN_sub, iN_mul, iN_neg, iN_lt, iN_eq, iN_tn, if_true, if_false, if_pos, if_neg, i0, h84]
      rw [bt]
      by_cases e : a = 8
      · rw [if_pos e, if_pos e, nx]
        congr 2; omega
      · rw [if_neg e, if_neg e, rf_plain (by omega) (by omega), iN_add, nx]
        congr 2; omega
  rw [fX12_betweenAll]
  simp only [iN_lit]
  rw [key t n 0 0 (by omega) (by omega) (by omega) (fun i hi => by rw [show (0 : Int).toNat + i = i by omega]; exact h95 i hi) hm, Int.zero_add]
  rfl
theorem rf_mput {I : (Nat → Nat → Int32)} (h : rOK V S I) {t : List Int} (hl : t.length = (V 0 2).toNat) (hm : ∀ a ∈ t, 0 ≤ a ∧ a < 9) (h95 : ∀ z : Nat, z < t.length → I 95 z = iN (t.getD z 0)) {y1 y2 y3 y4 : Int32} {n : Nat} (hn : 12 ≤ n) : ∃ I', fX12_mooring_L121 n y1 y2 y3 y4 (iN 0) I = some I' ∧ ex [88] I I' ∧ ∀ z : Nat, z < t.length → I' 88 z = iN ((t.map enc).getD z 0) := by
  have hu := h.1.1
  obtain ⟨n', I', q1, q2, q3, q4⟩ := loop (fun n k I => fX12_mooring_L121 n y1 y2 y3 y4 (iN k) I) 1 (P := V 0 2) (fun k J => ex [88] I J ∧ ∀ z : Nat, z < k → J 88 z = iN ((t.map enc).getD z 0))
    (by
      intro n k J hn k0 k1 ⟨hx, hz⟩
      have hk := h95 k.toNat (by omega)
      have hv : J 62 48 = iN (V 0 2) := by rw [hx 62 (by decide)]; exact h.2.2.1.1.2.2.1
      have j95 : J 95 k.toNat = iN (t.getD k.toNat 0) := by rw [hx 95 (by decide)]; exact hk
      have hmk : 0 ≤ t.getD k.toNat 0 ∧ t.getD k.toNat 0 < 9 := by
        rw [List.getD_eq_getElem?_getD, List.getElem?_eq_getElem (by omega)]
        exact hm _ (List.getElem_mem _)
      have he : (t.map enc).getD k.toNat 0 = enc (t.getD k.toNat 0) := by
        rw [List.getD_eq_getElem?_getD, List.getD_eq_getElem?_getD, List.getElem?_map, List.getElem?_eq_getElem (by omega)]
        rfl
      refine ⟨mm_up J 88 k.toNat (iN ((t.map enc).getD k.toNat 0)), ?_, ex_trans hx (ex_up (by decide)), ?_⟩
      · show fX12_mooring_L121 (n + 1) _ _ _ _ _ _ = _
        rw [fX12_mooring_L121, hv]
        simp (disch := omega) only [iN_lit, iN_add, iN_sub, iN_mul, iN_neg, iN_lt, iN_eq, iN_tn, if_true, if_false, if_pos, if_neg, j95, he]
        unfold enc
        by_cases e : t.getD k.toNat 0 = 8
        · rw [if_pos e, if_pos e]
        · rw [if_neg e, if_neg e]
      · intro z z1
        rw [up_c]
        by_cases e : z = k.toNat
        · rw [if_pos e, e]
        · rw [if_neg e]; exact hz z (by omega)) (V 0 2).toNat n 0 I (by omega) (by omega) ⟨ex_refl, by intro z h; omega⟩ (by omega)
  refine ⟨I', ?_, q3, fun z hz => q4 z (by omega)⟩
  have q2' : fX12_mooring_L121 n y1 y2 y3 y4 (iN 0) I = fX12_mooring_L121 n' y1 y2 y3 y4 (iN (V 0 2)) I' := q2
  have hv : I' 62 48 = iN (V 0 2) := by rw [q3 62 (by decide)]; exact h.2.2.1.1.2.2.1
  rw [q2']
  obtain ⟨n', rfl⟩ : ∃ m, n' = m + 1 := ⟨n' - 1, by omega⟩
  rw [fX12_mooring_L121, hv]
  simp (disch := omega) only [iN_lit, iN_add, iN_sub, iN_mul, iN_neg, iN_lt, iN_eq, iN_tn, if_true, if_false, if_pos, if_neg]
theorem rf_mlands {I : (Nat → Nat → Int32)} (h : rOK V S I) {y : Int32} {n : Nat} (hn : 1200 ≤ n) : ∃ I', fX12_mooring_L13 n y (iN 0) I = some I' ∧ ex [70, 71, 85, 87, 94] I I' ∧ ∀ b : Nat, b < (V 0 2).toNat → I' 94 b = lA V S b := by
  have hu := h.1.1
  obtain ⟨n', I', q1, q2, q3, q4⟩ := loop (fun n k I => fX12_mooring_L13 n y (iN k) I) 1100 (P := V 0 2) (fun k J => ex [70, 71, 85, 87, 94] I J ∧ ∀ b : Nat, b < k → J 94 b = lA V S b)
    (by
      intro n k J hn k0 k1 ⟨hx, hz⟩
      have R := rOK_ex h hx (by decide)
      have hs := h.2.1.1 k k0 k1
      have h84 := R.2.2.2 (4 + k) (by omega) (by omega)
      have unf := fX12_mooring_L13.eq_def (n + 1) y (iN k) J
      dsimp only at unf
      simp only [iN_lit] at unf
      rw [R.2.2.1.1.2.2.1, ite_p (by rw [iN_lt (by omega) (by omega) (by omega) (by omega)]; exact k1)] at unf
      simp (disch := omega) only [iN_add, iN_lt, iN_tn, if_neg, h84, iN_eq] at unf
      have ek : ((k.toNat : Nat) : Int) = k := by omega
      by_cases e : S (4 + k) = 0
      · obtain ⟨J', g1, g2⟩ := rf_land R k0 k1 (n := n) (by omega)
        rw [ite_p e, g1, Option.bind_some] at unf
        refine ⟨mm_up J' 94 k.toNat (lA V S k), ?_, ex_trans hx (ex_trans (ex_mono g2 (by decide)) (ex_up (by decide))), ?_⟩
        · have : lA V S k = lnd V (lft V S k) (S k) (S (4 + k)) := by unfold lA; rw [if_pos e]
          rw [this]; exact unf
        · intro b hb
          rw [up_c]
          by_cases eb : b = k.toNat
          · rw [if_pos eb, eb, ek]
          · rw [if_neg eb, g2 94 (by decide)]; exact hz b (by omega)
      · rw [ite_n e] at unf
        refine ⟨mm_up J 94 k.toNat (lA V S k), ?_, ex_trans hx (ex_up (by decide)), ?_⟩
        · have : lA V S k = iN 0 := by unfold lA; rw [if_neg e]
          rw [this]; exact unf
        · intro b hb
          rw [up_c]
          by_cases eb : b = k.toNat
          · rw [if_pos eb, eb, ek]
          · rw [if_neg eb]; exact hz b (by omega)) (V 0 2).toNat n 0 I (by omega) (by omega) ⟨ex_refl, by intro z h; omega⟩ (by omega)
  refine ⟨I', ?_, q3, fun b hb => q4 b (by omega)⟩
  have R := rOK_ex h q3 (by decide)
  have q2' : fX12_mooring_L13 n y (iN 0) I = fX12_mooring_L13 n' y (iN (V 0 2)) I' := q2
  rw [q2']
  obtain ⟨n', rfl⟩ : ∃ m, n' = m + 1 := ⟨n' - 1, by omega⟩
  rw [fX12_mooring_L13, R.2.2.1.1.2.2.1]
  simp (disch := omega) only [iN_lit, iN_add, iN_sub, iN_mul, iN_neg, iN_lt, iN_eq, iN_tn, if_true, if_false, if_pos, if_neg]
theorem fM_ok {h1 : wfV V} {h2 : wfS V 600 S} {l : List (List Int)} (hl : ∀ t ∈ l, t.length = (V 0 2).toNat ∧ ∀ a ∈ t, 0 ≤ a ∧ a < 9) {v : Int} {t : List Int} (h : fmin (fM V S) none l = some (v, t)) : v = -1000 * ct t + bt S 0 t ∧ (0 ≤ ct t ∧ ct t ≤ 4) ∧ (0 ≤ bt S 0 t ∧ bt S 0 t ≤ 32) ∧ t.length = (V 0 2).toNat ∧ ∀ a ∈ t, 0 ≤ a ∧ a < 9 := by
  have hu := h1.1
  have hm := fmin_mem _ _ _ _ _ h
  rcases hm with hm | ⟨m1, m2⟩
  · cases hm
  obtain ⟨t1, t2⟩ := hl t m1
  have c1 := ct_in t
  have b1 := bt_in (S := S) (m := V 0 2) (fun b b1 b2 => by have := h2.1 b b1 b2; omega) t 0 (by omega) (by omega) t2
  unfold fM at m2
  split at m2
  · injection m2 with m2
    exact ⟨m2.symm, by omega, by omega, t1, t2⟩
  · cases m2
def most (x : Option (Int × List Int)) : Int := match x with
  | none => -1
  | some (_, t) => ct t
def leas (S : Int → Int) (x : Option (Int × List Int)) : Int := match x with
  | none => 0
  | some (_, t) => bt S 0 t
def mlay (x : Option (Int × List Int)) : List Int := match x with
  | none => []
  | some (_, t) => t.map enc
theorem rf_moor {I : (Nat → Nat → Int32)} (h : rOK V S I) (hA : ∀ b : Nat, b < (V 0 2).toNat → I 94 b = lA V S b) {y : Int32} {n : Nat} (hn : 7000 ≤ n) :
    ∃ I', fX12_mooring_L60 n y (iN (-1)) (iN 0) (iN 0) I = some (iN (most (fmin (fM V S) none (lex 9 (V 0 2).toNat))), iN (leas S (fmin (fM V S) none (lex 9 (V 0 2).toNat))), I') ∧ xf [88, 95, 1061] I I' ∧ ((∃ v t, fmin (fM V S) none (lex 9 (V 0 2).toNat) = some (v, t)) → rl (mlay (fmin (fM V S) none (lex 9 (V 0 2).toNat))) I') := by
  have hu := h.1.1
  have p9 : 9 ^ (V 0 2).toNat ≤ 6561 := Nat.le_trans (Nat.pow_le_pow_right (by omega) (by omega : (V 0 2).toNat ≤ 4)) (by decide)
  have hok : ∀ (k : Int) (v : Int) (t : List Int), ((List.range k.toNat).map (dig 9 (V 0 2).toNat)).foldl (fm (fM V S)) none = some (v, t) → v = -1000 * ct t + bt S 0 t ∧ (0 ≤ ct t ∧ ct t ≤ 4) ∧ (0 ≤ bt S 0 t ∧ bt S 0 t ≤ 32) ∧ t.length = (V 0 2).toNat ∧ ∀ a ∈ t, 0 ≤ a ∧ a < 9 := by
    intro k v t e
    exact fM_ok (h1 := h.1) (h2 := h.2.1) (by
      intro t ht
      rw [List.mem_map] at ht
      obtain ⟨k', _, rfl⟩ := ht
      exact ⟨dig_len _ _ _, fun a ha => by have := dig_mem (d := 9) (by omega) _ _ a ha; omega⟩) e
  obtain ⟨n', s, h1, h2, h3, h4, h5, h6⟩ := loop (fun n k (s : Int × Int × (Nat → Nat → Int32)) => fX12_mooring_L60 n y (iN s.1) (iN s.2.1) (iN k) s.2.2) 40 (P := ((9 ^ (V 0 2).toNat : Nat) : Int)) (fun k s => xf [88, 95, 1061] I s.2.2 ∧ s.1 = most (((List.range k.toNat).map (dig 9 (V 0 2).toNat)).foldl (fm (fM V S)) none) ∧ s.2.1 = leas S (((List.range k.toNat).map (dig 9 (V 0 2).toNat)).foldl (fm (fM V S)) none) ∧ ((∃ v t, ((List.range k.toNat).map (dig 9 (V 0 2).toNat)).foldl (fm (fM V S)) none = some (v, t)) → rl (mlay (((List.range k.toNat).map (dig 9 (V 0 2).toNat)).foldl (fm (fM V S)) none)) s.2.2))
    (by
      intro n k s hn h0 h1 ⟨hx, hz, hy, hl⟩
      have R := rOK_xf h hx (by decide)
      have hA' : ∀ b : Nat, b < (V 0 2).toNat → s.2.2 94 b = lA V S b := fun b hb => by rw [xf_row hx (by decide) (by decide)]; exact hA b hb
      obtain ⟨z, I', g1, g2, g3, g4, _⟩ := rf_lay (lA V S) (V 0 2).toNat n k.toNat (iN 0) 0 s.2.2 (by omega) (by omega) (by omega) (by omega) hA'
      rw [show ((k.toNat : Nat) : Int) = k by omega, show (((V 0 2).toNat : Nat) : Int) - 1 = V 0 2 - 1 by omega] at g1
      have R' := rOK_ex R g2 (by decide)
      have hx' : xf [88, 95, 1061] I I' := xf_trans hx (xf_mono (xf_ex g2) (by decide))
      have tl := dig_len 9 (V 0 2).toNat k.toNat
      have tm : ∀ a ∈ dig 9 (V 0 2).toNat k.toNat, 0 ≤ a ∧ a < 9 := fun a ha => by have := dig_mem (d := 9) (by omega) _ _ a ha; omega
      have c1 := ct_in (dig 9 (V 0 2).toNat k.toNat)
      have b1 := bt_in (S := S) (m := V 0 2) (fun b b1 b2 => by have := h.2.1.1 b b1 b2; omega) (dig 9 (V 0 2).toNat k.toNat) 0 (by omega) (by omega) tm
      rw [fold_s _ _ _ _ h0]
      have hok' := hok k
      generalize hX : ((List.range k.toNat).map (dig 9 (V 0 2).toNat)).foldl (fm (fM V S)) none = X at *
      generalize hT : dig 9 (V 0 2).toNat k.toNat = T at *
      have hms : (-1 ≤ s.1 ∧ s.1 ≤ 4) ∧ (0 ≤ s.2.1 ∧ s.2.1 ≤ 32) := by
        rw [hz, hy]
        rcases X with _ | ⟨v, t⟩
        · simp [most, leas]
        · have := hok' v t rfl; simp only [most, leas]; omega
      have hl' : (∃ v t, X = some (v, t)) → rl (mlay X) I' := fun he => ⟨by rw [g2 62 (by decide)]; exact (hl he).1, fun z hz => by rw [g2 88 (by decide)]; exact (hl he).2 z hz⟩
      have lay : fX12_layMooring n (iN k) s.2.2 = some (if vM (lA V S) 0 (iN 0) T = true then iN (ct T) else iN (-1), I') := by
        rw [fX12_layMooring, R.2.2.1.1.2.2.1]
        simp only [iN_lit, iN_sub]
        rw [g1, Option.bind_some]
        rw [Int.zero_add] at g3
        rw [← g3]
        cases z <;> rfl
      have unf := fX12_mooring_L60.eq_def (n + 1) y (iN s.1) (iN s.2.1) (iN k) s.2.2
      dsimp only at unf
      rw [R.2.2.1.1.2.2.1, iN_lit, show iN (V 0 2) = iN (((V 0 2).toNat : Nat) : Int) by congr 1; omega, show iN (9 : Int) = iN ((9 : Nat) : Int) from rfl, rf_pow (by omega) (by omega) (by omega), Option.bind_some, ite_p (by rw [iN_lt (by omega) (by omega) (by omega) (by omega)]; exact h1), lay, Option.bind_some] at unf
      simp only [iN_lit, iN_add] at unf
      cases ev : vM (lA V S) 0 (iN 0) T with
      | false =>
        have ef : fM V S T = none := by unfold fM; rw [ev]; rfl
        have fe : fm (fM V S) X T = X := by rw [fm, ef]
        rw [ev, ite_p (by rw [ite_n (by decide), iN_lt (by omega) (by omega) (by omega) (by omega)]; omega)] at unf
        rw [fe]
        exact ⟨(s.1, s.2.1, I'), unf, hx', hz, hy, hl'⟩
      | true =>
        have ef : fM V S T = some (-1000 * ct T + bt S 0 T) := by unfold fM; rw [ev]; rfl
        have h95 := g4 ev
        rw [ev, ite_p rfl] at unf
        rw [ite_n (show ¬ iN (ct T) < iN 0 by rw [iN_lt (by omega) (by omega) (by omega) (by omega)]; omega)] at unf
        have bw := rf_btw R' tl tm (fun z hz => h95 z (by omega)) (n := n) (by omega)
        have keep : (ct T < s.1 ∨ (ct T = s.1 ∧ ¬ bt S 0 T < s.2.1)) → fm (fM V S) X T = X := by
          intro hh
          rw [fm, ef]
          rw [hz, hy] at hh
          rcases X with _ | ⟨w, t⟩
          · simp only [most, leas] at hh; omega
          · have := hok' w t rfl
            simp only [most, leas] at hh
            show (if _ < w then _ else _) = _
            rw [if_neg (by omega)]
        have new : ¬ (ct T < s.1 ∨ (ct T = s.1 ∧ ¬ bt S 0 T < s.2.1)) → fm (fM V S) X T = some (-1000 * ct T + bt S 0 T, T) := by
          intro hh
          rw [fm, ef]
          rw [hz, hy] at hh
          rcases X with _ | ⟨w, t⟩
          · rfl
          · have := hok' w t rfl
            simp only [most, leas] at hh
            show (if _ < w then _ else _) = _
            rw [if_pos (by omega)]
        have put : ∀ (u1 u2 u3 u4 : Int32), ∃ I3, fX12_mooring_L121 n u1 u2 u3 u4 (iN 0) I' = some I3 ∧ xf [88, 95, 1061] I (mm_up I3 62 61 (I3 62 48)) ∧ rl (T.map enc) (mm_up I3 62 61 (I3 62 48)) := by
          intro u1 u2 u3 u4
          obtain ⟨I3, q1, q2, q3⟩ := rf_mput R' tl tm (fun z hz => h95 z (by omega)) (y1 := u1) (y2 := u2) (y3 := u3) (y4 := u4) (n := n) (by omega)
          have hv : I3 62 48 = iN (V 0 2) := by rw [q2 62 (by decide)]; exact R'.2.2.1.1.2.2.1
          refine ⟨I3, q1, xf_trans hx' (xf_trans (xf_mono (xf_ex q2) (by decide)) (xf_u62 (by decide))), ?_, ?_⟩
          · rw [up_eq, hv, List.length_map, tl]; congr 1; omega
          · intro z hz
            rw [List.length_map] at hz
            rw [up_a (by decide)]
            exact q3 z hz
        by_cases e1 : ct T < s.1
        · rw [ite_p (by rw [iN_lt (by omega) (by omega) (by omega) (by omega)]; exact e1)] at unf
          rw [keep (Or.inl e1)]
          exact ⟨(s.1, s.2.1, I'), unf, hx', hz, hy, hl'⟩
        · rw [ite_n (by rw [iN_lt (by omega) (by omega) (by omega) (by omega)]; exact e1)] at unf
          by_cases e2 : ct T = s.1
          · rw [ite_p (by rw [iN_eq (by omega) (by omega) (by omega) (by omega)]; exact e2), bw, Option.bind_some] at unf
            by_cases e3 : bt S 0 T < s.2.1
            · rw [ite_p (by rw [iN_lt (by omega) (by omega) (by omega) (by omega)]; exact e3), Option.bind_some] at unf
              obtain ⟨I3, q1, q2, q3⟩ := put y (iN (ct T)) (iN (bt S 0 T)) (iN k)
              rw [q1, Option.bind_some] at unf
              rw [new (by omega)]
              exact ⟨(ct T, bt S 0 T, mm_up I3 62 61 (I3 62 48)), unf, q2, rfl, rfl, fun _ => q3⟩
            · rw [ite_n (by rw [iN_lt (by omega) (by omega) (by omega) (by omega)]; exact e3)] at unf
              rw [keep (Or.inr ⟨e2, e3⟩)]
              exact ⟨(s.1, s.2.1, I'), unf, hx', hz, hy, hl'⟩
          · rw [ite_n (by rw [iN_eq (by omega) (by omega) (by omega) (by omega)]; exact e2), bw, Option.bind_some] at unf
            obtain ⟨I3, q1, q2, q3⟩ := put y (iN (ct T)) (iN (bt S 0 T)) (iN k)
            rw [q1, Option.bind_some] at unf
            rw [new (by omega)]
            exact ⟨(ct T, bt S 0 T, mm_up I3 62 61 (I3 62 48)), unf, q2, rfl, rfl, fun _ => q3⟩) (9 ^ (V 0 2).toNat) n 0 (-1, 0, I) (by omega) (by omega) ⟨xf_refl, rfl, rfl, by rintro ⟨v, t, h⟩; cases h⟩ (by omega)
  rw [fold_a _ _ (by omega)] at h4 h5 h6
  refine ⟨s.2.2, ?_, h3, h6⟩
  have R := rOK_xf h h3 (by decide)
  have h2' : fX12_mooring_L60 n y (iN (-1)) (iN 0) (iN 0) I = fX12_mooring_L60 n' y (iN s.1) (iN s.2.1) (iN ((9 ^ (V 0 2).toNat : Nat) : Int)) s.2.2 := h2
  rw [h2']
  obtain ⟨n', rfl⟩ : ∃ m, n' = m + 1 := ⟨n' - 1, by omega⟩
  rw [fX12_mooring_L60, R.2.2.1.1.2.2.1, iN_lit, show iN (V 0 2) = iN (((V 0 2).toNat : Nat) : Int) by congr 1; omega, show iN (9 : Int) = iN ((9 : Nat) : Int) from rfl, rf_pow (by omega) (by omega) (by omega), Option.bind_some, if_neg (iN_ir _), h4, h5]
  rfl
end MOO
