/-! Stowing: the reference's loops, and the method. -/
theorem nib16 : ∀ (m : Fin 16) (a : Fin 4), ∃ k : Fin 16, iN (m.val : Int) ||| iN 1 <<< iN (a.val : Int) = iN (k.val : Int) := by decide +kernel
def okD (V : (Nat → Int → Int)) (S : Int → Int) (t : List Int) (l : Int) : Bool := match t with
  | [] => true
  | a :: t => (if S (20 + l) = -1 then decide (a < V 0 2 ∧ S (4 + a) = 0) else decide (a = 0)) && okD V S t (l + 1)
def setD (S : Int → Int) (t : List Int) (l : Int) : Int32 := match t with
  | [] => iN 0
  | a :: t => (if S (20 + l) = -1 then iN 1 <<< iN a else iN 0) ||| setD S t (l + 1)
theorem okD_snoc (V : (Nat → Int → Int)) (S : Int → Int) (a : Int) (p : List Int) : ∀ l : Int, okD V S (p ++ [a]) l = ((if S (20 + (l + p.length)) = -1 then decide (a < V 0 2 ∧ S (4 + a) = 0) else decide (a = 0)) && okD V S p l) := by
  induction p with
  | nil => intro l; rw [List.nil_append, okD, okD, okD, List.length_nil, show l + ((0 : Nat) : Int) = l by omega]
  | cons c p ih =>
    intro l
    rw [List.cons_append, okD, okD, ih, List.length_cons, show l + 1 + (p.length : Int) = l + ((p.length + 1 : Nat) : Int) by omega, Bool.and_left_comm]
theorem setD_snoc (S : Int → Int) (a : Int) (p : List Int) : ∀ l : Int, setD S (p ++ [a]) l = setD S p l ||| (if S (20 + (l + p.length)) = -1 then iN 1 <<< iN a else iN 0) := by
  induction p with
  | nil => intro l; rw [List.nil_append, setD, setD, setD, List.length_nil, show l + ((0 : Nat) : Int) = l by omega, or_0, or_z]
  | cons c p ih =>
    intro l
    rw [List.cons_append, setD, setD, ih, List.length_cons, show l + 1 + (p.length : Int) = l + ((p.length + 1 : Nat) : Int) by omega, or_as]
theorem setD_bit (S : Int → Int) (t : List Int) (hm : ∀ a ∈ t, 0 ≤ a ∧ a < 4) {b : Int} (h1 : 0 ≤ b) (h2 : b < 32) : ∀ l : Int, bit (setD S t l) b = use S t l b := by
  induction t with
  | nil => intro l; rw [setD, use, bit_0]
  | cons a t ih =>
    intro l
    have ha := hm a (List.mem_cons_self ..)
    rw [setD, use, bit_or, ih (fun x hx => hm x (List.mem_cons_of_mem _ hx))]
    congr 1
    by_cases e : S (20 + l) = -1
    · rw [if_pos e, bit_shl1 ha.1 (by omega) h1 h2, e]
      simp [eq_comm]
    · rw [if_neg e, bit_0]
      simp [e]
theorem setD_nat (S : Int → Int) (t : List Int) (hm : ∀ a ∈ t, 0 ≤ a ∧ a < 4) : ∀ l : Int, ∃ k : Fin 16, setD S t l = iN (k.val : Int) := by
  induction t with
  | nil => intro l; exact ⟨0, rfl⟩
  | cons a t ih =>
    intro l
    have ha := hm a (List.mem_cons_self ..)
    obtain ⟨k, hk⟩ := ih (fun x hx => hm x (List.mem_cons_of_mem _ hx)) (l + 1)
    rw [setD, hk]
    by_cases e : S (20 + l) = -1
    · obtain ⟨j, hj⟩ := nib16 k ⟨a.toNat, by omega⟩
      rw [if_pos e, or_co]
      refine ⟨j, ?_⟩
      rw [← hj]
      congr 2
      congr 1
      show a = ((a.toNat : Nat) : Int)
      omega
    · rw [if_neg e, or_z]; exact ⟨k, rfl⟩
theorem use_hi (S : Int → Int) (t : List Int) (hm : ∀ a ∈ t, 0 ≤ a ∧ a < 4) {b : Int} (h : 4 ≤ b) : ∀ l : Int, use S t l b = false := by
  induction t with
  | nil => intro l; rfl
  | cons a t ih =>
    intro l
    have ha := hm a (List.mem_cons_self ..)
    rw [use, ih (fun x hx => hm x (List.mem_cons_of_mem _ hx)), Bool.or_false]
    have : decide (a = b) = false := by rw [decide_eq_false_iff_not]; omega
    rw [this, Bool.and_false]
/-- the scene with the near loads stowed -/
def stwA (S : Int → Int) (t : List Int) : Int → Int := fun z => if 20 ≤ z ∧ z < 20 + t.length ∧ S z = -1 then t.getD (z - 20).toNat 0 else S z
section STR
variable {V : (Nat → Int → Int)} {S : Int → Int}
theorem rf_sby (near : Int32) : ∀ (m n k : Nat) (X : Int32) (I : (Nat → Nat → Int32)), (m : Int) ≤ V 0 3 → m < n → k < 2147483648 → rOK V S I → (∀ l : Int, 0 ≤ l → l < V 0 3 → bit near l = decide (S (20 + l) = -1)) →
    ∃ z I', fX12_stowBy_L17 n near (iN k) X (iN ((m : Int) - 1)) I = some (z, I') ∧ ex [85] I I' ∧ ((okD V S (dig 4 m k) 0 = true ∧ z = .inr (X ||| setD S (dig 4 m k) 0) ∧ (∀ j : Nat, j < m → I' 85 (20 + j) = if S (20 + j) = -1 then iN ((dig 4 m k).getD j 0) else I 85 (20 + j)) ∧ ∀ j : Nat, (j < 20 ∨ 20 + m ≤ j) → I' 85 j = I 85 j) ∨ (okD V S (dig 4 m k) 0 = false ∧ z = .inl (iN (-1)))) := by
  intro m
  induction m with
  | zero =>
    intro n k X I hm hn hk h hnear
    obtain ⟨n, rfl⟩ : ∃ n', n = n' + 1 := ⟨n - 1, by omega⟩
    refine ⟨.inr X, I, ?_, ex_refl, Or.inl ⟨rfl, by rw [dig, setD, or_0], by intro j hj; omega, fun _ _ => rfl⟩⟩
    rw [fX12_stowBy_L17]
    simp (disch := omega) only [iN_lit, iN_add, iN_sub, iN_mul, iN_neg, iN_lt, iN_eq, iN_tn, if_true, if_false, if_pos, if_neg]
  | succ m ih =>
    intro n k X I hm hn hk h hnear
    have hu := h.1.1
    obtain ⟨n, rfl⟩ : ∃ n', n = n' + 1 := ⟨n - 1, by omega⟩
    have tl := dig_len 4 m (k / 4)
    have hr1 : iN k - iN k / iN 4 * iN 4 = iN ((k % 4 : Nat) : Int) := by rw [iN_rem (by omega) (by omega) (by omega) (by omega)]; congr 1
    have hr2 : iN k / iN 4 = iN ((k / 4 : Nat) : Int) := by rw [iN_div (by omega) (by omega) (by omega) (by omega)]; congr 1
    have hb := hnear m (by omega) (by omega)
    have h84 := h.2.2.2 (4 + ((k % 4 : Nat) : Int)) (by omega) (by omega)
    have unf := fX12_stowBy_L17.eq_def (n + 1) near (iN k) X (iN (((m + 1 : Nat) : Int) - 1)) I
    dsimp only at unf
    simp only [iN_lit] at unf
    rw [hr1, hr2, show ((m + 1 : Nat) : Int) - 1 = (m : Int) by omega, h.2.2.1.1.2.2.1] at unf
    simp (disch := omega) only [iN_lt, iN_tn, if_neg, iN_neg, iN_add, h84, iN_31, bit_t0] at unf
    rw [show (m : Int) + -1 = (m : Int) - 1 by omega, hb] at unf
    rw [dig, okD_snoc, setD_snoc, tl, show ((m + 1 : Nat) : Int) - 1 = (m : Int) by omega, Int.zero_add]
    by_cases en : S (20 + m) = -1
    · have hd : decide (S (20 + (m : Int)) = -1) = true := decide_eq_true en
      rw [hd, ite_n (by decide)] at unf
      rw [if_pos en, if_pos en]
      by_cases e1 : ((k % 4 : Nat) : Int) < V 0 2
      · rw [ite_p e1] at unf
        have hs4 := h.2.1.1 ((k % 4 : Nat) : Int) (by omega) e1
        simp (disch := omega) only [iN_lt] at unf
        by_cases e2 : 0 < S (4 + ((k % 4 : Nat) : Int))
        · rw [ite_p e2] at unf
          refine ⟨_, _, unf, ex_refl, Or.inr ⟨?_, rfl⟩⟩
          have : decide (((k % 4 : Nat) : Int) < V 0 2 ∧ S (4 + ((k % 4 : Nat) : Int)) = 0) = false := by rw [decide_eq_false_iff_not]; omega
          rw [this, Bool.false_and]
        · rw [ite_n e2] at unf
          have : decide (((k % 4 : Nat) : Int) < V 0 2 ∧ S (4 + ((k % 4 : Nat) : Int)) = 0) = true := by rw [decide_eq_true_iff]; omega
          rw [this, Bool.true_and]
          have x1 : ex [85] I (mm_up I 85 (20 + (m : Int)).toNat (iN ((k % 4 : Nat) : Int))) := ex_up (by decide)
          obtain ⟨z, I', g1, g2, g3⟩ := ih n (k / 4) (X ||| iN 1 <<< iN ((k % 4 : Nat) : Int)) _ (by omega) (by omega) (by omega) (rOK_ex h x1 (by decide)) hnear
          refine ⟨z, I', unf.trans g1, ex_trans x1 g2, ?_⟩
          rcases g3 with ⟨q1, q2, q3, q4⟩ | ⟨q1, q2⟩
          · left
            refine ⟨q1, ?_, ?_, ?_⟩
            · rw [q2, or_as, or_co (iN 1 <<< _)]
            · intro j hj
              by_cases ej : j = m
              · subst ej
                rw [q4 (20 + j) (by omega), show 20 + j = (20 + (j : Int)).toNat by omega, up_eq, if_pos en, gd_r tl.symm]
              · rw [q3 j (by omega), up_k (by omega), gd_l (by omega)]
            · intro j hj
              rw [q4 j (by omega), up_k (by omega)]
          · right; exact ⟨q1, q2⟩
      · rw [ite_n e1] at unf
        refine ⟨_, _, unf, ex_refl, Or.inr ⟨?_, rfl⟩⟩
        have : decide (((k % 4 : Nat) : Int) < V 0 2 ∧ S (4 + ((k % 4 : Nat) : Int)) = 0) = false := by rw [decide_eq_false_iff_not]; omega
        rw [this, Bool.false_and]
    · have hd : decide (S (20 + (m : Int)) = -1) = false := decide_eq_false en
      rw [hd, ite_p rfl] at unf
      rw [if_neg en, if_neg en, or_0]
      by_cases e1 : 0 < ((k % 4 : Nat) : Int)
      · rw [ite_p e1] at unf
        refine ⟨_, _, unf, ex_refl, Or.inr ⟨?_, rfl⟩⟩
        have : decide (((k % 4 : Nat) : Int) = 0) = false := by rw [decide_eq_false_iff_not]; omega
        rw [this, Bool.false_and]
      · rw [ite_n e1] at unf
        have : decide (((k % 4 : Nat) : Int) = 0) = true := by rw [decide_eq_true_iff]; omega
        rw [this, Bool.true_and]
        obtain ⟨z, I', g1, g2, g3⟩ := ih n (k / 4) X I (by omega) (by omega) (by omega) h hnear
        refine ⟨z, I', unf.trans g1, g2, ?_⟩
        rcases g3 with ⟨q1, q2, q3, q4⟩ | ⟨q1, q2⟩
        · left
          refine ⟨q1, q2, ?_, ?_⟩
          · intro j hj
            by_cases ej : j = m
            · subst ej; rw [q4 (20 + j) (by omega), if_neg en]
            · rw [q3 j (by omega), gd_l (by omega)]
          · intro j hj
            exact q4 j (by omega)
        · right; exact ⟨q1, q2⟩
theorem bur_stw (t : List Int) (l : Int) : ∀ (n : Nat) (b : Int), 0 ≤ b → n ≤ t.length → bur V (stwA S t) b n = bur V S b n + sm V S (t.take n) 0 b := by
  intro n
  induction n with
  | zero => intro b _ _; rw [bur, bur, List.take_zero, sm]; rfl
  | succ n ih =>
    intro b hb hn
    have snoc : ∀ (p : List Int) (a l : Int), sm V S (p ++ [a]) l b = sm V S p l b + (if S (20 + (l + p.length)) = -1 ∧ a = b then V 6 (l + p.length) else 0) := by
      intro p
      induction p with
      | nil => intro a l; rw [List.nil_append, sm, sm, sm, List.length_nil, show l + ((0 : Nat) : Int) = l by omega]; omega
      | cons c p ihp => intro a l; rw [List.cons_append, sm, sm, ihp, List.length_cons, show l + 1 + (p.length : Int) = l + ((p.length + 1 : Nat) : Int) by omega]; omega
    have et : t.take (n + 1) = t.take n ++ [t.getD n 0] := by
      rw [List.take_add_one, List.getD_eq_getElem?_getD, List.getElem?_eq_getElem (by omega)]
      rfl
    have tl : (t.take n).length = n := by rw [List.length_take]; omega
    rw [bur, bur, ih b hb (by omega), et, snoc, tl, Int.zero_add]
    have ev : stwA S t (20 + n) = if S (20 + n) = -1 then t.getD n 0 else S (20 + n) := by
      unfold stwA
      by_cases e : S (20 + n) = -1
      · rw [if_pos ⟨by omega, by omega, e⟩, if_pos e, show (20 + (n : Int) - 20).toNat = n by omega]
      · rw [if_neg (fun hh => e hh.2.2), if_neg e]
    rw [ev]
    by_cases e : S (20 + n) = -1
    · rw [if_pos e]
      by_cases e2 : t.getD n 0 = b
      · rw [if_pos e2, if_neg (by omega), if_pos ⟨e, e2⟩]; omega
      · rw [if_neg e2, if_neg (by omega), if_neg (fun hh => e2 hh.2)]; omega
    · rw [if_neg e, if_neg (show ¬ (S (20 + n) = -1 ∧ t.getD n 0 = b) from fun hh => e hh.1)]; omega
/-- the cost as the reference has it -/
def fR (V : (Nat → Int → Int)) (S : Int → Int) (t : List Int) : Option Int := vR V S (V 0 2) (rmS V S) (fun _ => 0) 0 t
/-- which are fit, up to b -/
def fitb (V : (Nat → Int → Int)) (S : Int → Int) (t : List Int) (n : Nat) : Bool := match n with
  | 0 => true
  | n + 1 => fitb V S t n && (!use S t 0 n || decide (burd V S n + sm V S t 0 n ≤ V 3 n))
theorem rf_sfit {I : (Nat → Nat → Int32)} (h : rOK V S I) {t : List Int} (tl : t.length = (V 0 3).toNat) (tm : ∀ a ∈ t, 0 ≤ a ∧ a < 4) (h85 : hr I 85 28 (stwA S t)) (hp : ∀ l, 0 ≤ l → l < V 0 3 → -2 ≤ stwA S t (20 + l) ∧ stwA S t (20 + l) < 4) {n : Nat} (hn : 30 ≤ n) :
    (fX12_stowBy_L100 n (setD S t 0) (iN 0) I = some (.inr ()) ∧ fitb V S t (V 0 2).toNat = true) ∨ (fX12_stowBy_L100 n (setD S t 0) (iN 0) I = some (.inl (iN (-1))) ∧ fitb V S t (V 0 2).toNat = false) := by
  have hu := h.1.1
  have key : ∀ (j m b : Nat), b + j = (V 0 2).toNat → 15 + j ≤ m → fitb V S t b = true → (fX12_stowBy_L100 m (setD S t 0) (iN b) I = some (.inr ()) ∧ fitb V S t (V 0 2).toNat = true) ∨ (fX12_stowBy_L100 m (setD S t 0) (iN b) I = some (.inl (iN (-1))) ∧ fitb V S t (V 0 2).toNat = false) := by
    intro j
    induction j with
    | zero =>
      intro m b hb hm hf
      obtain ⟨m, rfl⟩ : ∃ m', m = m' + 1 := ⟨m - 1, by omega⟩
      left
      refine ⟨?_, by rw [← show b = (V 0 2).toNat by omega]; exact hf⟩
      rw [fX12_stowBy_L100, h.2.2.1.1.2.2.1]
      simp (disch := omega) only [iN_lit, iN_add, iN_sub, iN_mul, iN_neg, iN_lt, iN_eq, iN_tn, if_true, if_false, if_pos, if_neg]
    | succ j ih =>
      intro m b hb hm hf
      obtain ⟨m, rfl⟩ : ∃ m', m = m' + 1 := ⟨m - 1, by omega⟩
      have h80 := h.2.2.1.2.2.2.1 (b : Int) (by omega) (by omega)
      have hbe := h.1.2.2.2.1 (b : Int) (by omega) (by omega)
      have hB := bur_lo h.1 (S := stwA S t) (b := (b : Int)) (V 0 3).toNat (by omega)
      have hbw : burd V (stwA S t) b = burd V S b + sm V S t 0 b := by
        have := bur_stw (V := V) (S := S) t 0 (V 0 3).toNat b (by omega) (by omega)
        rw [show t.take (V 0 3).toNat = t by rw [← tl]; exact List.take_length] at this
        exact this
      have hBd : burd V (stwA S t) b = bur V (stwA S t) b (V 0 3).toNat := rfl
      rw [fX12_stowBy_L100, h.2.2.1.1.2.2.1, rf_burden h.1 h.2.2.1 (by omega) h85 hp (by omega)]
      simp (disch := omega) only [iN_lit, iN_add, iN_sub, iN_mul, iN_neg, iN_lt, iN_eq, iN_tn, if_true, if_false, if_pos, if_neg, iN_31, bit_t1, Option.bind_some, h80]
      rw [setD_bit S t tm (by omega) (by omega)]
      have stepf : fitb V S t (b + 1) = (fitb V S t b && (!use S t 0 b || decide (burd V S b + sm V S t 0 b ≤ V 3 b))) := rfl
      by_cases e : use S t 0 b = true
      · rw [if_pos e]
        by_cases e2 : V 3 b < burd V (stwA S t) b
        · rw [if_pos e2]
          right
          refine ⟨rfl, ?_⟩
          have : ∀ i, fitb V S t (b + 1 + i) = false := by
            intro i
            induction i with
            | zero =>
              rw [Nat.add_zero, stepf, hf, e]
              have : decide (burd V S b + sm V S t 0 b ≤ V 3 b) = false := by rw [decide_eq_false_iff_not]; omega
              rw [this]; rfl
            | succ i ihi => rw [show b + 1 + (i + 1) = b + 1 + i + 1 by omega, fitb, ihi]; rfl
          have := this j
          rw [show b + 1 + j = (V 0 2).toNat by omega] at this
          exact this
        · rw [if_neg e2]
          exact ih m (b + 1) (by omega) (by omega) (by
            rw [stepf, hf]
            have : decide (burd V S b + sm V S t 0 b ≤ V 3 b) = true := by rw [decide_eq_true_iff]; omega
            rw [this, Bool.or_true]; rfl)
      · have e' : use S t 0 b = false := by simpa using e
        rw [if_neg e]
        exact ih m (b + 1) (by omega) (by omega) (by rw [stepf, hf, e']; rfl)
  exact key (V 0 2).toNat n 0 (by omega) (by omega) rfl
theorem ok_eq (hw : wfV V) (hS : wfS V 600 S) (t : List Int) (tm : ∀ a ∈ t, 0 ≤ a ∧ a < 4) (tl : t.length = (V 0 3).toNat) : fR V S t = if okD V S t 0 = true ∧ fitb V S t (V 0 2).toNat = true then some (mem (setD S t 0) 8) else none := by
  have hu := hw.1
  unfold fR
  rw [vR_eq hw t _ _ 0 (by omega) (by omega) tm (fun _ => by omega)]
  have hc : ∀ b : Int, 0 ≤ b → b < 4 → cub S (fun _ => 0) t 0 b = if bit (setD S t 0) b = true then 1 else 0 := by
    intro b b0 b4
    rw [setD_bit S t tm b0 (by omega)]
    unfold cub
    by_cases e : use S t 0 b = true
    · rw [if_pos ⟨rfl, e⟩, if_pos e]
    · rw [if_neg (fun hh => e hh.2), if_neg e]
  have hm8 : mem (setD S t 0) 8 = cub S (fun _ => 0) t 0 0 + cub S (fun _ => 0) t 0 1 + cub S (fun _ => 0) t 0 2 + cub S (fun _ => 0) t 0 3 := by
    have hz : ∀ b : Nat, 4 ≤ b → b < 32 → bit (setD S t 0) b = false := by
      intro b b4 b8
      rw [setD_bit S t tm (by omega) (by omega)]
      exact use_hi S t tm (by omega) 0
    rw [hc 0 (by omega) (by omega), hc 1 (by omega) (by omega), hc 2 (by omega) (by omega), hc 3 (by omega) (by omega)]
    simp only [mem]
    rw [hz 4 (by omega) (by omega), hz 5 (by omega) (by omega), hz 6 (by omega) (by omega), hz 7 (by omega) (by omega)]
    simp
  rw [hm8]
  have hs := fun b => sm_in hw (S := S) t b 0 (by omega) (by omega)
  have chkb : ∀ b : Int, 0 ≤ b → b < V 0 2 → (chk V S (rmS V S) t 0 b = true ↔ ((use S t 0 b = true → S (4 + b) = 0) ∧ (!use S t 0 b || decide (burd V S b + sm V S t 0 b ≤ V 3 b)) = true)) := by
    intro b b0 b1
    have := hs b
    unfold chk rmS
    cases e : use S t 0 b with
    | false => simp
    | true =>
      by_cases e4 : S (4 + b) = 0
      · simp [e4]; omega
      · simp [e4]; omega
  have okk : ∀ (s : List Int) (l : Int), (okD V S s l = true ↔ (okB S (V 0 2) s l = true ∧ ∀ b : Int, 0 ≤ b → b < 4 → use S s l b = true → S (4 + b) = 0)) ∨ ¬ (∀ a ∈ s, 0 ≤ a ∧ a < 4) := by
    intro s
    induction s with
    | nil => intro l; left; simp [okD, okB, use]
    | cons a s ih =>
      intro l
      by_cases hm : ∀ a ∈ s, 0 ≤ a ∧ a < 4
      · by_cases ha : 0 ≤ a ∧ a < 4
        · left
          have ihs := (ih (l + 1)).resolve_right (fun hh => hh hm)
          rw [okD, okB, Bool.and_eq_true, Bool.and_eq_true, ihs]
          by_cases e : S (20 + l) = -1
          · rw [if_pos e, if_pos e, decide_eq_true_iff, decide_eq_true_iff]
            constructor
            · rintro ⟨⟨a1, a2⟩, b1, b2⟩
              refine ⟨⟨a1, b1⟩, ?_⟩
              intro b b0 b4 hu
              rw [use, Bool.or_eq_true] at hu
              rcases hu with hu | hu
              · rw [Bool.and_eq_true, decide_eq_true_iff, decide_eq_true_iff] at hu
                rw [← hu.2]; exact a2
              · exact b2 b b0 b4 hu
            · rintro ⟨⟨a1, b1⟩, b2⟩
              refine ⟨⟨a1, b2 a ha.1 ha.2 (by rw [use, e]; simp)⟩, b1, ?_⟩
              intro b b0 b4 hu
              exact b2 b b0 b4 (by rw [use, hu, Bool.or_true])
          · rw [if_neg e, if_neg e, decide_eq_true_iff]
            have : ∀ b, use S (a :: s) l b = use S s (l + 1) b := by
              intro b
              have : decide (S (20 + l) = -1) = false := decide_eq_false e
              rw [use, this, Bool.false_and, Bool.false_or]
            simp only [this]
            constructor
            · rintro ⟨a1, b1, b2⟩; exact ⟨⟨a1, b1⟩, b2⟩
            · rintro ⟨⟨a1, b1⟩, b2⟩; exact ⟨a1, b1, b2⟩
        · right; intro hh; exact ha (hh a (List.mem_cons_self ..))
      · right; intro hh; exact hm (fun x hx => hh x (List.mem_cons_of_mem _ hx))
  have ok := (okk t 0).resolve_right (fun hh => hh tm)
  have useB : okB S (V 0 2) t 0 = true → ∀ b : Int, V 0 2 ≤ b → use S t 0 b = false := by
    have : ∀ (s : List Int) (l : Int), okB S (V 0 2) s l = true → ∀ b : Int, V 0 2 ≤ b → use S s l b = false := by
      intro s
      induction s with
      | nil => intro l _ b _; rfl
      | cons a s ih =>
        intro l ho b hb
        rw [okB, Bool.and_eq_true] at ho
        rw [use, ih (l + 1) ho.2 b hb, Bool.or_false]
        by_cases e : S (20 + l) = -1
        · rw [if_pos e, decide_eq_true_iff] at ho
          have : decide (a = b) = false := by rw [decide_eq_false_iff_not]; omega
          rw [this, Bool.and_false]
        · rw [decide_eq_false e, Bool.false_and]
    exact this t 0
  have fitn : ∀ n : Nat, fitb V S t n = true ↔ ∀ b : Nat, b < n → (!use S t 0 b || decide (burd V S b + sm V S t 0 b ≤ V 3 b)) = true := by
    intro n
    induction n with
    | zero => simp [fitb]
    | succ n ih =>
      rw [fitb, Bool.and_eq_true, ih]
      constructor
      · rintro ⟨h1, h2⟩ b hb
        by_cases e : b = n
        · subst e; exact h2
        · exact h1 b (by omega)
      · intro h
        exact ⟨fun b hb => h b (by omega), h n (by omega)⟩
  have iff : (okB S (V 0 2) t 0 = true ∧ chk V S (rmS V S) t 0 0 = true ∧ chk V S (rmS V S) t 0 1 = true ∧ chk V S (rmS V S) t 0 2 = true ∧ chk V S (rmS V S) t 0 3 = true) ↔ (okD V S t 0 = true ∧ fitb V S t (V 0 2).toNat = true) := by
    rw [ok, fitn]
    constructor
    · rintro ⟨h1, h2⟩
      have hall : ∀ b : Int, 0 ≤ b → b < 4 → chk V S (rmS V S) t 0 b = true := by
        intro b b0 b4
        have : b = 0 ∨ b = 1 ∨ b = 2 ∨ b = 3 := by omega
        rcases this with rfl | rfl | rfl | rfl
        · exact h2.1
        · exact h2.2.1
        · exact h2.2.2.1
        · exact h2.2.2.2
      refine ⟨⟨h1, ?_⟩, ?_⟩
      · intro b b0 b4 hub
        by_cases e : b < V 0 2
        · exact ((chkb b b0 e).mp (hall b b0 b4)).1 hub
        · rw [useB h1 b (by omega)] at hub; cases hub
      · intro b hb
        exact ((chkb b (by omega) (by omega)).mp (hall b (by omega) (by omega))).2
    · rintro ⟨⟨h1, h2⟩, h3⟩
      have hall : ∀ b : Int, 0 ≤ b → b < 4 → chk V S (rmS V S) t 0 b = true := by
        intro b b0 b4
        by_cases e : b < V 0 2
        · have := h3 b.toNat (by omega)
          rw [show ((b.toNat : Nat) : Int) = b by omega] at this
          exact (chkb b b0 e).mpr ⟨fun hub => h2 b b0 b4 hub, this⟩
        · unfold chk
          rw [useB h1 b (by omega)]
          rfl
      exact ⟨h1, hall 0 (by omega) (by omega), hall 1 (by omega) (by omega), hall 2 (by omega) (by omega), hall 3 (by omega) (by omega)⟩
  by_cases hh : okD V S t 0 = true ∧ fitb V S t (V 0 2).toNat = true
  · rw [if_pos hh, if_pos (iff.mpr hh)]
  · rw [if_neg hh, if_neg (fun h => hh (iff.mp h))]
end STR
