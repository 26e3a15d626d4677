/-! Exact odds: the common divisor, the reference, and the method of both. -/
theorem gcd_st (a b : Nat) : Nat.gcd a b = Nat.gcd b (a % b) := by rw [Nat.gcd_comm, Nat.gcd_rec, Nat.gcd_comm]
theorem cl_gcd (k : Nat) : ∀ (a b c n : Nat), b < 2 ^ k → a < 2147483648 → b < 2147483648 → c + 2 * k + 1 ≤ 100 → 2 * k + 1 < n → fX6_commonPart_L7 n (iN a) (iN b) (iN c) = some (iN ((Nat.gcd a b : Nat) : Int)) := by
  induction k with
  | zero =>
    intro a b c n hb ha hb2 hc hn
    have : b = 0 := by rw [Nat.pow_zero] at hb; omega
    subst this
    obtain ⟨n, rfl⟩ : ∃ m, n = m + 1 := ⟨n - 1, by omega⟩
    rw [fX6_commonPart_L7]
    simp (disch := omega) only [iN_lit, iN_add, iN_sub, iN_mul, iN_neg, iN_lt, iN_eq, iN_tn, if_true, if_false, if_pos, if_neg]
    rw [Nat.gcd_zero_right]
  | succ k ih =>
    intro a b c n hb ha hb2 hc hn
    obtain ⟨n, rfl⟩ : ∃ m, n = m + 3 := ⟨n - 3, by omega⟩
    rw [fX6_commonPart_L7]
    simp (disch := omega) only [iN_lit, iN_add, iN_sub, iN_mul, iN_neg, iN_lt, iN_eq, iN_tn, if_pos]
    by_cases e : b = 0
    · subst e
      rw [Nat.gcd_zero_right]
      exact ite_p rfl
    · have e1 : ¬ ((b : Int) = 0) := by omega
      rw [ite_n e1, ite_n e1, iN_rem (by omega) (by omega) (by omega) (by omega), show (a : Int) % (b : Int) = ((a % b : Nat) : Int) by omega, gcd_st]
      have hr := Nat.mod_lt a (Nat.pos_of_ne_zero e)
      rw [fX6_commonPart_L7]
      simp (disch := omega) only [iN_lit, iN_add, iN_sub, iN_mul, iN_neg, iN_lt, iN_eq, iN_tn, if_pos]
      by_cases e2 : a % b = 0
      · rw [e2, Nat.gcd_zero_right]
        exact ite_p rfl
      · have e3 : ¬ (((a % b : Nat) : Int) = 0) := by omega
        rw [ite_n e3, ite_n e3, iN_rem (by omega) (by omega) (by omega) (by omega), show (b : Int) % ((a % b : Nat) : Int) = ((b % (a % b) : Nat) : Int) by omega, gcd_st]
        have hr2 := Nat.mod_lt b (Nat.pos_of_ne_zero e2)
        have hdm := Nat.div_add_mod b (a % b)
        have hq : 1 ≤ b / (a % b) := (Nat.one_le_div_iff (Nat.pos_of_ne_zero e2)).mpr (by omega)
        have hm : a % b * 1 ≤ a % b * (b / (a % b)) := Nat.mul_le_mul_left _ hq
        rw [Nat.pow_succ] at hb
        have := ih (a % b) (b % (a % b)) (c + 1 + 1) (n + 1) (by omega) (by omega) (by omega) (by omega) (by omega)
        exact this
theorem rf_gcd (k : Nat) : ∀ (a b n : Nat), b < 2 ^ k → a < 2147483648 → b < 2147483648 → 2 * k + 1 < n → fX12_divisor_L4 n (iN a) (iN b) = some (iN ((Nat.gcd a b : Nat) : Int)) := by
  induction k with
  | zero =>
    intro a b n hb ha hb2 hn
    have : b = 0 := by rw [Nat.pow_zero] at hb; omega
    subst this
    obtain ⟨n, rfl⟩ : ∃ m, n = m + 1 := ⟨n - 1, by omega⟩
    rw [fX12_divisor_L4]
    simp (disch := omega) only [iN_lit, iN_add, iN_sub, iN_mul, iN_neg, iN_lt, iN_eq, iN_tn, if_true, if_false, if_pos, if_neg]
    rw [Nat.gcd_zero_right]
  | succ k ih =>
    intro a b n hb ha hb2 hn
    obtain ⟨n, rfl⟩ : ∃ m, n = m + 3 := ⟨n - 3, by omega⟩
    rw [fX12_divisor_L4]
    simp (disch := omega) only [iN_lit, iN_add, iN_sub, iN_mul, iN_neg, iN_lt, iN_eq, iN_tn]
    by_cases e : b = 0
    · subst e
      rw [Nat.gcd_zero_right]
      exact ite_n (by decide)
    · have e1 : ¬ ((b : Int) = 0) := by omega
      rw [ite_p (show (0 : Int) < b by omega), ite_n e1, iN_rem (by omega) (by omega) (by omega) (by omega), show (a : Int) % (b : Int) = ((a % b : Nat) : Int) by omega, gcd_st]
      have hr := Nat.mod_lt a (Nat.pos_of_ne_zero e)
      rw [fX12_divisor_L4]
      simp (disch := omega) only [iN_lit, iN_add, iN_sub, iN_mul, iN_neg, iN_lt, iN_eq, iN_tn]
      by_cases e2 : a % b = 0
      · rw [e2, Nat.gcd_zero_right]
        exact ite_n (by decide)
      · have e3 : ¬ (((a % b : Nat) : Int) = 0) := by omega
        rw [ite_p (show (0 : Int) < ((a % b : Nat) : Int) by omega), ite_n e3, iN_rem (by omega) (by omega) (by omega) (by omega), show (b : Int) % ((a % b : Nat) : Int) = ((b % (a % b) : Nat) : Int) by omega, gcd_st]
        have hr2 := Nat.mod_lt b (Nat.pos_of_ne_zero e2)
        have hdm := Nat.div_add_mod b (a % b)
        have hq : 1 ≤ b / (a % b) := (Nat.one_le_div_iff (Nat.pos_of_ne_zero e2)).mpr (by omega)
        have hm : a % b * 1 ≤ a % b * (b / (a % b)) := Nat.mul_le_mul_left _ hq
        rw [Nat.pow_succ] at hb
        exact ih (a % b) (b % (a % b)) (n + 1) (by omega) (by omega) (by omega) (by omega)
def lc (V : (Nat → Int → Int)) (n : Nat) (c r : Int) (s : Nat) : Option Int := match n with
  | 0 => some c
  | n + 1 => if V 2 (8 * (r + 1) + lead V c r 0 (1 + (s % 2 : Nat))) = 1 then none else lc V n (lead V c r 0 (1 + (s % 2 : Nat))) (r + 1) (s / 2)
def pcn (n s : Nat) : Nat := match n with
  | 0 => 0
  | n + 1 => s % 2 + pcn n (s / 2)
theorem pcn_le (n : Nat) : ∀ s, pcn n s ≤ n := by
  induction n with
  | zero => intro s; exact Nat.le_refl _
  | succ n ih => intro s; rw [pcn]; have := ih (s / 2); omega
theorem mem_pcn : ∀ (L : Fin 5) (s : Fin 16), s.val < 2 ^ L.val → mem (iN (s.val : Int)) 8 = (pcn L.val s.val : Int) := by decide +kernel
theorem bit_nib : ∀ (s : Fin 16) (j : Fin 4), ((iN (s.val : Int) >>> iN (j.val : Int)) &&& iN 1) = iN ((s.val / 2 ^ j.val % 2 : Nat) : Int) := by decide +kernel
def tmw (V : (Nat → Int → Int)) (d : Int) (n : Nat) (c r : Int) (s : Nat) : Int := match n with
  | 0 => if c = d then 1 else 0
  | n + 1 => (if s % 2 = 1 then V 0 4 else 100 - V 0 4) * w1 V (1 + (s % 2 : Nat)) c r (fun e => tmw V d n e (r + 1) (s / 2))
theorem sg_even (F : Nat → Int) (m : Nat) : sg F (2 * m) = sg (fun i => F (2 * i) + F (2 * i + 1)) m := by
  induction m with
  | zero => rfl
  | succ m ih => rw [show 2 * (m + 1) = 2 * m + 1 + 1 by omega, sg, sg, sg, ih]; omega
theorem tmw_sum (V : (Nat → Int → Int)) (d : Int) (n : Nat) : ∀ (c r : Int), sg (tmw V d n c r) (2 ^ n) = wt V d n c r := by
  induction n with
  | zero => intro c r; show 0 + tmw V d 0 c r 0 = _; rw [Int.zero_add]; rfl
  | succ n ih =>
    intro c r
    rw [Nat.pow_succ, Nat.mul_comm, sg_even]
    have e : ∀ i, tmw V d (n + 1) c r (2 * i) + tmw V d (n + 1) c r (2 * i + 1) = (100 - V 0 4) * w1 V 1 c r (fun e => tmw V d n e (r + 1) i) + V 0 4 * w1 V 2 c r (fun e => tmw V d n e (r + 1) i) := by
      intro i
      rw [tmw, tmw, show 2 * i % 2 = 0 by omega, show (2 * i + 1) % 2 = 1 by omega, show 2 * i / 2 = i by omega, show (2 * i + 1) / 2 = i by omega]
      rfl
    rw [sg_congr _ (fun i _ => e i), sg_add, sg_mul, sg_mul]
    have k : ∀ q, sg (fun i => w1 V q c r (fun e => tmw V d n e (r + 1) i)) (2 ^ n) = w1 V q c r (fun e => wt V d n e (r + 1)) := by
      intro q
      unfold w1
      by_cases hi : V 2 (8 * (r + 1) + lead V c r 0 q) = 1
      · simp only [if_pos hi]; exact sg_zero _
      · simp only [if_neg hi]; exact ih _ _
    rw [k, k]
    rfl
theorem tmw_eq {V : (Nat → Int → Int)} (hw : wfV V) (d : Int) (n : Nat) : ∀ (c r : Int) (s : Nat), tmw V d n c r s = if lc V n c r s = some d then ((((V 0 4).toNat) ^ (pcn n s) : Nat) : Int) * (((100 - V 0 4).toNat ^ (n - pcn n s) : Nat) : Int) else 0 := by
  have hu := hw.1
  induction n with
  | zero =>
    intro c r s
    rw [tmw, lc, pcn]
    by_cases e : c = d
    · rw [if_pos e, if_pos (by rw [e])]; rfl
    · rw [if_neg e, if_neg (by intro h; injection h with h; exact e h)]
  | succ n ih =>
    intro c r s
    have hp := pcn_le n (s / 2)
    rw [tmw, lc, pcn]
    unfold w1
    by_cases hi : V 2 (8 * (r + 1) + lead V c r 0 (1 + (s % 2 : Nat))) = 1
    · simp only [if_pos hi]
      rw [Int.mul_zero, if_neg (by intro h; cases h)]
    · simp only [if_neg hi]
      rw [ih]
      by_cases e : lc V n (lead V c r 0 (1 + (s % 2 : Nat))) (r + 1) (s / 2) = some d
      · rw [if_pos e, if_pos e]
        have e2 : s % 2 = 0 ∨ s % 2 = 1 := by omega
        rcases e2 with e2 | e2
        · rw [e2, if_neg (by omega), Nat.zero_add, show n + 1 - pcn n (s / 2) = (n - pcn n (s / 2)) + 1 by omega, Nat.pow_succ, Int.natCast_mul, show (((100 - V 0 4).toNat : Nat) : Int) = 100 - V 0 4 by omega]
          rw [Int.mul_left_comm, Int.mul_comm (100 - V 0 4)]
        · rw [e2, if_pos rfl, show n + 1 - (1 + pcn n (s / 2)) = n - pcn n (s / 2) by omega, Nat.add_comm 1, Nat.pow_succ, Int.natCast_mul, show (((V 0 4).toNat : Nat) : Int) = V 0 4 by omega]
          rw [← Int.mul_assoc, Int.mul_comm (V 0 4)]
      · rw [if_neg e, if_neg e, Int.mul_zero]
theorem p27 {x : Nat} (h : x ≤ 100000000) : x < 2 ^ 27 := Nat.lt_of_le_of_lt h (by decide)
section ODR
variable {V : (Nat → Int → Int)} {S : Int → Int} {r : Nat}
theorem lc_in (hw : wfV V) (n : Nat) : ∀ (c r x : Int) (s : Nat), 0 ≤ c → c < V 0 0 → lc V n c r s = some x → 0 ≤ x ∧ x < V 0 0 := by
  induction n with
  | zero => intro c r x s h1 h2 h; rw [lc] at h; injection h with h; omega
  | succ n ih =>
    intro c r x s h1 h2 h
    rw [lc] at h
    split at h
    · cases h
    · exact ih _ _ _ _ (lead_lo hw) (lead_hi hw) h
theorem rf_lands_l {b : Int} (hb1 : 0 ≤ b) (hb2 : b < V 0 2) {s : Nat} (hs : s < 16) {y : Int32} (hL : lft V S b ≤ 4) (k : Nat) : ∀ (n j : Nat) (c w h' q m : Int) (I : (Nat → Nat → Int32)), rOK V S I → hr I 85 28 (air S b c w h' q m) → 310 + k ≤ n → (0 ≤ c ∧ c < V 0 0) → 0 ≤ w → w + k = V 0 1 → (0 ≤ h' ∧ h' ≤ 99) → (0 ≤ q ∧ q + k ≤ 2000) → (0 ≤ m ∧ m + k ≤ 2000) → j + k = lft V S b →
    ∃ z I', fX12_landsBy_L10 n (iN b) y (iN s) (iN 1) (iN j) I = some (z, I') ∧ ex [70, 71, 85] I I' ∧ ((z = iN 0 ∧ lc V k c w (s / 2 ^ j) = none) ∨ (z = iN 1 ∧ ∃ x, lc V k c w (s / 2 ^ j) = some x ∧ I' 85 b.toNat = iN x)) := by
  induction k with
  | zero =>
    intro n j c w h' q m I h ha hn hc hw1 hw2 hh hq hm hj
    have hu := h.1.1
    obtain ⟨n, rfl⟩ : ∃ m, n = m + 1 := ⟨n - 1, by omega⟩
    refine ⟨iN 1, I, ?_, ex_refl, Or.inr ⟨rfl, c, rfl, ?_⟩⟩
    · rw [fX12_landsBy_L10, rf_left2 h hb1 hb2, Option.bind_some, ite_n (by rw [iN_lt (by omega) (by omega) (by omega) (by omega)]; omega)]
    · rw [ha b hb1 (by omega), air_0]
  | succ k ih =>
    intro n j c w h' q m I h ha hn hc hw1 hw2 hh hq hm hj
    have hu := h.1.1
    obtain ⟨n, rfl⟩ : ∃ m, n = m + 1 := ⟨n - 1, by omega⟩
    have hbn := bit_nib ⟨s, hs⟩ ⟨j, by omega⟩
    simp only at hbn
    obtain ⟨I1, g1, g2, g3⟩ := rf_stroke h.1 h.2.2.1 (b := b) (c := c) (r := w) (h := h') (q := q) (m := m) (s := 0) (on := 1) (k := 1 + (s / 2 ^ j % 2 : Nat)) (S := S) hb1 hb2 (wfS_pl h.2.1 h.1) hc (by omega) (by omega) hh (by omega) (by omega) (by omega) (by omega) (by omega) ha (n := n) (by omega)
    have hnn := nht_lo (V := V) (b := b) (B := burd V S b) (c := c) (r := w) (m := m) hh.1
    have R1 := rOK_ex h g2 (by decide)
    have ed : s / 2 ^ j / 2 = s / 2 ^ (j + 1) := by rw [Nat.pow_succ, Nat.div_div_eq_div_mul]
    rw [fX12_landsBy_L10, rf_left2 h hb1 hb2, Option.bind_some, ite_p (by rw [iN_lt (by omega) (by omega) (by omega) (by omega)]; omega), lc]
    simp (disch := omega) only [iN_lit, iN_31]
    rw [ite_n n10, hbn, iN_add, g1, Option.bind_some]
    dsimp only
    by_cases hi : V 2 (8 * (w + 1) + lead V c w 0 (1 + (s / 2 ^ j % 2 : Nat))) = 1
    · simp only [if_pos hi]
      rw [ite_n (by split <;> decide), iN_add]
      refine ⟨iN 0, I1, ?_, g2, Or.inl ⟨rfl, trivial⟩⟩
      obtain ⟨n, rfl⟩ : ∃ m, n = m + 1 := ⟨n - 1, by omega⟩
      rw [fX12_landsBy_L10, rf_left2 R1 hb1 hb2, Option.bind_some]
      simp only [iN_lit, if_true]
      split <;> rfl
    · simp only [if_neg hi] at g3 ⊢
      rw [ite_p (by split <;> decide), iN_add, ed]
      obtain ⟨z, I2, f1, f2, f3⟩ := ih n (j + 1) (lead V c w 0 (1 + (s / 2 ^ j % 2 : Nat))) (w + 1) _ _ (m + 1) I1 R1 g3 (by omega) ⟨lead_lo h.1, lead_hi h.1⟩ (by omega) (by omega) (by split <;> omega) (by split <;> omega) (by omega) (by omega)
      exact ⟨z, I2, f1, ex_trans g2 f2, f3⟩
theorem rf_lands {I : (Nat → Nat → Int32)} (h : rOK V S I) {b d : Int} (hb1 : 0 ≤ b) (hb2 : b < V 0 2) (hd : 0 ≤ d ∧ d < V 0 0) {s : Nat} (hs : s < 16) (hL : lft V S b ≤ 4) {n : Nat} (hn : 340 ≤ n) :
    ∃ I', fX12_landsBy n (iN b) (iN d) (iN s) I = some (if lc V (lft V S b) (S b) (S (4 + b)) s = some d then iN 1 else iN 0, I') ∧ ex [70, 71, 85] I I' := by
  have hu := h.1.1
  have hs' := h.2.1.1 b hb1 hb2
  obtain ⟨l6, l7⟩ := lft_le h.1 h.2.1 hb1 hb2
  obtain ⟨I1, g1, g2, g3, g4⟩ := rf_filled h (n := n) (by omega)
  obtain ⟨z, I2, f1, f2, f3⟩ := rf_lands_l hb1 hb2 hs (y := iN d) hL (lft V S b) n 0 (S b) (S (4 + b)) (S (8 + b)) (S (12 + b)) (S (16 + b)) I1 g3 (by rw [air_self]; exact g4) (by omega) (by omega) (by omega) l7 (by omega) (by omega) (by omega) (by omega)
  rw [Nat.pow_zero, Nat.div_one] at f3
  have f1' : fX12_landsBy_L10 n (iN b) (iN d) (iN s) (iN 1) (iN 0) I1 = some (z, I2) := f1
  rw [fX12_landsBy, g1, Option.bind_some]
  simp only [iN_lit]
  rw [f1', Option.bind_some]
  dsimp only
  refine ⟨I2, ?_, ex_trans (ex_mono g2 (by decide)) f2⟩
  rcases f3 with ⟨rfl, e⟩ | ⟨rfl, x, e, e2⟩
  · rw [ite_p rfl, e, if_neg (by intro h; cases h)]
  · have hx := lc_in h.1 _ _ _ _ _ (by omega) (by omega) e
    rw [ite_n n10, ite_n (by rw [iN_lt (by omega) (by omega) (by omega) (by omega), iN_tn hb1 (by omega)]; omega), iN_tn hb1 (by omega), e]
    by_cases ex : x = d
    · rw [ite_p (show I2 85 b.toNat = iN d by rw [e2, ex]), if_pos (by rw [ex])]
    · rw [ite_n (show ¬ I2 85 b.toNat = iN d by rw [e2, iN_eq (by omega) (by omega) (by omega) (by omega)]; exact ex), if_neg (by intro h; injection h with h; exact ex h)]
def aOd (V : (Nat → Int → Int)) (S : Int → Int) (b d p : Int) : Int := if (0 ≤ b ∧ b < V 0 2) ∧ lft V S b ≤ 4 ∧ (0 ≤ d ∧ d < V 0 0) ∧ 0 ≤ p ∧ p ≤ 1 then (if p = 0 then wt V d (lft V S b) (S b) (S (4 + b)) / ((Nat.gcd (wt V d (lft V S b) (S b) (S (4 + b))).toNat (100 ^ lft V S b) : Nat) : Int) else ((100 ^ lft V S b : Nat) : Int) / ((Nat.gcd (wt V d (lft V S b) (S b) (S (4 + b))).toNat (100 ^ lft V S b) : Nat) : Int)) else -1
theorem p100 {k : Nat} (h : k ≤ 4) : 1 ≤ 100 ^ k ∧ 100 ^ k ≤ 100000000 := ⟨Nat.one_le_pow _ _ (by omega), Nat.le_trans (Nat.pow_le_pow_right (by omega) h) (by decide)⟩
theorem rf_Odds {I : (Nat → Nat → Int32)} (h : rOK V S I) {b d p : Int} (hb : -2147483648 ≤ b ∧ b < 2147483648) (hd : -2147483648 ≤ d ∧ d < 2147483648) (hp : -2147483648 ≤ p ∧ p < 2147483648) {n : Nat} (hn : 400 ≤ n) : ∃ I', fX12_odds n (iN b) (iN d) (iN p) I = some (iN (aOd V S b d p), I') ∧ ex [70, 71, 85] I I' := by
  have hu := h.1.1
  have no : ¬ ((0 ≤ b ∧ b < V 0 2) ∧ lft V S b ≤ 4 ∧ (0 ≤ d ∧ d < V 0 0) ∧ 0 ≤ p ∧ p ≤ 1) → aOd V S b d p = -1 := fun hh => by unfold aOd; rw [if_neg hh]
  rw [fX12_odds, rf_board h hb, Option.bind_some]
  simp only [iN_lit, iN_neg, h.2.2.1.1.1, iN_sub]
  by_cases hb' : 0 ≤ b ∧ b < V 0 2
  · have hs' := h.2.1.1 b hb'.1 hb'.2
    obtain ⟨l6, l7⟩ := lft_le h.1 h.2.1 hb'.1 hb'.2
    rw [if_pos hb', ite_n n10, rf_left2 h hb'.1 hb'.2, Option.bind_some, Option.bind_some]
    by_cases hL : 4 < lft V S b
    · rw [ite_p (by rw [iN_lt (by omega) (by omega) (by omega) (by omega)]; omega), no (by omega)]
      exact ⟨I, rfl, ex_refl⟩
    · rw [ite_n (by rw [iN_lt (by omega) (by omega) (by omega) (by omega)]; omega), rf_in hd (by omega) (by omega)]
      by_cases hd' : 0 ≤ d ∧ d ≤ V 0 0 - 1
      · rw [if_pos hd', ite_n n10, rf_in hp (by omega) (by omega)]
        by_cases hp' : 0 ≤ p ∧ p ≤ 1
        · rw [if_pos hp', ite_n n10]
          have ok : (0 ≤ b ∧ b < V 0 2) ∧ lft V S b ≤ 4 ∧ (0 ≤ d ∧ d < V 0 0) ∧ 0 ≤ p ∧ p ≤ 1 := ⟨hb', by omega, by omega, hp'⟩
          have wi := wt_in h.1 d (lft V S b) (S b) (S (4 + b))
          have p1 := p100 (k := lft V S b) (by omega)
          have p2 : 1 ≤ 2 ^ lft V S b ∧ 2 ^ lft V S b ≤ 16 := ⟨Nat.one_le_two_pow, Nat.le_trans (Nat.pow_le_pow_right (by omega) (by omega : lft V S b ≤ 4)) (by decide)⟩
          have shl : iN 1 <<< iN ((lft V S b : Nat) : Int) = iN ((2 ^ lft V S b : Nat) : Int) := by
            have : ∀ k : Fin 5, iN 1 <<< iN (k.val : Int) = iN ((2 ^ k.val : Nat) : Int) := by decide
            exact this ⟨lft V S b, by omega⟩
          obtain ⟨n', s, q1, q2, q3, q4⟩ := loop (fun n k (s : Int × (Nat → Nat → Int32)) => fX12_odds_L55 n (iN b) (iN d) (iN p) (iN ((lft V S b : Nat) : Int)) (iN s.1) (iN k) s.2) 350 (P := ((2 ^ lft V S b : Nat) : Int)) (fun k s => ex [70, 71, 85] I s.2 ∧ s.1 = sg (tmw V d (lft V S b) (S b) (S (4 + b))) k.toNat)
            (by
              intro n k s hn k0 k1 ⟨hx, hz⟩
              have R := rOK_ex h hx (by decide)
              obtain ⟨I', g1, g2⟩ := rf_lands R hb'.1 hb'.2 (d := d) (by omega) (s := k.toNat) (by omega) (by omega) (n := n) (by omega)
              have R' := rOK_ex R g2 (by decide)
              have ek : ((k.toNat : Nat) : Int) = k := by omega
              rw [ek] at g1
              have unf := fX12_odds_L55.eq_def (n + 1) (iN b) (iN d) (iN p) (iN ((lft V S b : Nat) : Int)) (iN s.1) (iN k) s.2
              dsimp only at unf
              simp (disch := omega) only [iN_lit, iN_31] at unf
              rw [shl, ite_p (by rw [iN_lt (by omega) (by omega) (by omega) (by omega)]; exact k1), g1, Option.bind_some] at unf
              dsimp only at unf
              rw [show (k + 1).toNat = k.toNat + 1 by omega, sg, tmw_eq h.1, ← hz]
              by_cases e : lc V (lft V S b) (S b) (S (4 + b)) k.toNat = some d
              · have pl := pcn_le (lft V S b) k.toNat
                have hm := mem_pcn ⟨lft V S b, by omega⟩ ⟨k.toNat, by omega⟩ (by simp only; omega)
                simp only at hm
                rw [ek] at hm
                rw [if_pos e] at unf ⊢
                rw [ite_n n10, rf_mem _ (by omega), Option.bind_some, hm, R'.2.2.1.1.2.2.2.2.1, show iN (V 0 4) = iN (((V 0 4).toNat : Nat) : Int) by congr 1; omega, rf_pow (by omega) (by omega) (by omega), Option.bind_some, Option.bind_some, iN_sub, iN_sub, show (100 : Int) - (((V 0 4).toNat : Nat) : Int) = (((100 - V 0 4).toNat : Nat) : Int) by omega, show ((lft V S b : Nat) : Int) - ((pcn (lft V S b) k.toNat : Nat) : Int) = ((lft V S b - pcn (lft V S b) k.toNat : Nat) : Int) by omega, rf_pow (by omega) (by omega) (by omega), Option.bind_some, iN_mul, iN_add, iN_add] at unf
                exact ⟨(_, I'), unf, ex_trans hx g2, rfl⟩
              · rw [if_neg e] at unf ⊢
                rw [ite_p rfl, iN_add] at unf
                exact ⟨(s.1, I'), unf, ex_trans hx g2, by rw [Int.add_zero]⟩) (2 ^ lft V S b) n 0 (0, I) (by omega) (by omega) ⟨ex_refl, rfl⟩ (by omega)
          have q2' : fX12_odds_L55 n (iN b) (iN d) (iN p) (iN ((lft V S b : Nat) : Int)) (iN 0) (iN 0) I = some (iN (wt V d (lft V S b) (S b) (S (4 + b))), s.2) := by
            have : fX12_odds_L55 n (iN b) (iN d) (iN p) (iN ((lft V S b : Nat) : Int)) (iN 0) (iN 0) I = fX12_odds_L55 n' (iN b) (iN d) (iN p) (iN ((lft V S b : Nat) : Int)) (iN s.1) (iN ((2 ^ lft V S b : Nat) : Int)) s.2 := q2
            rw [this]
            obtain ⟨n', rfl⟩ : ∃ m, n' = m + 1 := ⟨n' - 1, by omega⟩
            rw [fX12_odds_L55]
            simp (disch := omega) only [iN_lit, iN_31]
            rw [shl, if_neg (iN_ir _), q4, Int.toNat_natCast, tmw_sum]
          rw [q2', Option.bind_some]
          have pw := rf_pow (d := 100) (k := lft V S b) (by omega) (by omega) (n := n) (by omega)
          rw [show iN (100 : Int) = iN ((100 : Nat) : Int) from rfl, pw, Option.bind_some]
          have gd := rf_gcd 27 (100 ^ lft V S b) (wt V d (lft V S b) (S b) (S (4 + b))).toNat n (p27 (by omega)) (by omega) (by omega) (by omega)
          rw [show (((wt V d (lft V S b) (S b) (S (4 + b))).toNat : Nat) : Int) = wt V d (lft V S b) (S b) (S (4 + b)) by omega, Nat.gcd_comm] at gd
          rw [fX12_divisor, gd, Option.bind_some, Option.bind_some]
          have gpos : 0 < Nat.gcd (wt V d (lft V S b) (S b) (S (4 + b))).toNat (100 ^ lft V S b) := Nat.gcd_pos_of_pos_right _ (by omega)
          have gle : Nat.gcd (wt V d (lft V S b) (S b) (S (4 + b))).toNat (100 ^ lft V S b) ≤ 100 ^ lft V S b := Nat.gcd_le_right _ (by omega)
          refine ⟨s.2, ?_, q3⟩
          unfold aOd
          rw [if_pos ok]
          rw [ite_n (show ¬ iN ((Nat.gcd (wt V d (lft V S b) (S b) (S (4 + b))).toNat (100 ^ lft V S b) : Nat) : Int) = iN 0 by rw [iN_eq (by omega) (by omega) (by omega) (by omega)]; omega), ite_n (show ¬ iN ((Nat.gcd (wt V d (lft V S b) (S b) (S (4 + b))).toNat (100 ^ lft V S b) : Nat) : Int) = iN 0 by rw [iN_eq (by omega) (by omega) (by omega) (by omega)]; omega), iN_div wi.1 (by omega) (by omega) (by omega), iN_div (by omega) (by omega) (by omega) (by omega)]
          by_cases e : p = 0
          · rw [ite_p (by rw [e]), if_pos e]
          · rw [ite_n (by rw [iN_eq (by omega) (by omega) (by omega) (by omega)]; exact e), if_neg e]
        · rw [if_neg hp', ite_p rfl, no (fun hh => hp' hh.2.2.2)]
          exact ⟨I, rfl, ex_refl⟩
      · rw [if_neg hd', ite_p rfl, no (by omega)]
        exact ⟨I, rfl, ex_refl⟩
  · rw [if_neg hb', ite_p rfl, no (fun hh => hb' hh.1)]
    exact ⟨I, rfl, ex_refl⟩
def fX11_odds (n : Nat) (x1 x2 x3 : Int32) (I : (Nat → Nat → Int32)) (rv w nw : Nat) : Option (Int32 × Nat × Nat × (Nat → Nat → Int32)) := if fX7_isBoard x1 I rv = 0 then some (-1, w, nw, I) else if x2 < 0 then some (-1, w, nw, I) else if x2 < I rv 0 then (if x3 < 0 then some (-1, w, nw, I) else if 1 < x3 then some (-1, w, nw, I) else (fX6_oddsPart n x1 x2 x3 I rv w nw).bind fun o => some o) else some (-1, w, nw, I)
theorem cl_Odds (hr0 : r = 3 ∨ r = 19) {I : (Nat → Nat → Int32)} (h : cOK V S r I) {w nw : Nat} (hww : wOk w nw) {b d p : Int} (hb : -2147483648 ≤ b ∧ b < 2147483648) (hd : -2147483648 ≤ d ∧ d < 2147483648) (hp : -2147483648 ≤ p ∧ p < 2147483648) {n : Nat} (hn : 400 ≤ n) : ∃ w' nw' I', fX11_odds n (iN b) (iN d) (iN p) I r w nw = some (iN (aOd V S b d p), w', nw', I') ∧ wOk w' nw' ∧ ex [39, 40] I I' := by
  have hu := h.1.1
  have no : ¬ ((0 ≤ b ∧ b < V 0 2) ∧ lft V S b ≤ 4 ∧ (0 ≤ d ∧ d < V 0 0) ∧ 0 ≤ p ∧ p ≤ 1) → aOd V S b d p = -1 := fun hh => by unfold aOd; rw [if_neg hh]
  have stay : aOd V S b d p = -1 → ∃ w' nw' I', some (iN (-1), w, nw, I) = some (iN (aOd V S b d p), w', nw', I') ∧ wOk w' nw' ∧ ex [39, 40] I I' := fun e => ⟨w, nw, I, by rw [e], hww, ex_refl⟩
  rw [fX11_odds, cl_board h hb, h.2.2.1.1.1]
  simp (disch := omega) only [iN_lit, iN_neg, iN_lt]
  by_cases hb' : 0 ≤ b ∧ b < V 0 2
  · have hs' := h.2.1.1 b hb'.1 hb'.2
    obtain ⟨l6, l7⟩ := lft_le h.1 h.2.1 hb'.1 hb'.2
    rw [if_pos hb', ite_n n10]
    by_cases d0 : d < 0
    · rw [if_pos d0]; exact stay (no (by omega))
    · rw [if_neg d0]
      by_cases d1 : d < V 0 0
      · rw [if_pos d1]
        by_cases p0 : p < 0
        · rw [if_pos p0]; exact stay (no (by omega))
        · rw [if_neg p0]
          by_cases p1 : 1 < p
          · rw [if_pos p1]; exact stay (no (by omega))
          · rw [if_neg p1, fX6_oddsPart, fX7_strokesLeft, cl_row h.1 h.2.2.2 hb'.1 hb'.2, h.2.2.1.1.2.1]
            simp only [iN_lit, iN_neg, iN_sub]
            by_cases hL : 4 < lft V S b
            · rw [ite_p (by rw [iN_lt (by omega) (by omega) (by omega) (by omega)]; omega)]
              exact stay (no (by omega))
            · rw [ite_n (by rw [iN_lt (by omega) (by omega) (by omega) (by omega)]; omega)]
              have ok : (0 ≤ b ∧ b < V 0 2) ∧ lft V S b ≤ 4 ∧ (0 ≤ d ∧ d < V 0 0) ∧ 0 ≤ p ∧ p ≤ 1 := ⟨hb', by omega, by omega, by omega⟩
              have wi := wt_in h.1 d (lft V S b) (S b) (S (4 + b))
              have pp := p100 (k := lft V S b) (by omega)
              have hw39 : w = 39 ∨ w = 40 := by unfold wOk at hww; omega
              have e1 : ex [39, 40] I (mf_fill I w 8 (iN 0)) := ex_fill (by simp; omega)
              have c1 := cOK_ex h e1 (by rcases hr0 with rfl | rfl <;> decide)
              rw [cl_col h.1 c1.2.2.2 hb'.1 hb'.2, iN_put (by omega) (by omega) (by omega)]
              have e2 : ex [39, 40] I (mm_up (mf_fill I w 8 (iN 0)) w (S b).toNat (iN 1)) := ex_trans e1 (ex_up (by simp; omega))
              have c2 := cOK_ex h e2 (by rcases hr0 with rfl | rfl <;> decide)
              rw [cl_row h.1 c2.2.2.2 hb'.1 hb'.2]
              have hW : hr (mm_up (mf_fill I w 8 (iN 0)) w (S b).toNat (iN 1)) w 8 (fun z => if z = S b then 1 else 0) := by
                intro z z0 z8
                dsimp only
                rw [up_c, fill_eq (by omega)]
                by_cases e : z = S b
                · rw [if_pos (by omega), if_pos e]
                · rw [if_neg (by omega), if_neg e]
              obtain ⟨w', nw', I', f1, f2, f3, f4⟩ := cl_odds_l hr0 (lft V S b) n 1 (S (4 + b)) _ w nw _ hww c2 (by omega) l7 (by omega) hW
              rw [f1, Option.bind_some, Int.one_mul]
              dsimp only
              have up : I' w' d.toNat = iN (wt V d (lft V S b) (S b) (S (4 + b))) := by
                rw [f4 d (by omega) d1]
                congr 1
                have := sg_pick (fun c => wt V d (lft V S b) c (S (4 + b))) (V 0 0).toNat (S b).toNat (by omega)
                rw [show (((S b).toNat : Nat) : Int) = S b by omega] at this
                rw [← this]
                apply sg_congr
                intro i _
                by_cases e : (S b).toNat = i
                · rw [if_pos (by omega), if_pos e]
                · rw [if_neg (by omega), if_neg e]
              rw [iN_pick (by omega) (by omega) (by omega), up]
              have gd := cl_gcd 27 (wt V d (lft V S b) (S b) (S (4 + b))).toNat (100 ^ lft V S b) 0 n (p27 (by omega)) (by omega) (by omega) (by omega) (by omega)
              rw [show (((wt V d (lft V S b) (S b) (S (4 + b))).toNat : Nat) : Int) = wt V d (lft V S b) (S b) (S (4 + b)) by omega] at gd
              have gd' : fX6_commonPart_L7 n (iN (wt V d (lft V S b) (S b) (S (4 + b)))) (iN ((100 ^ lft V S b : Nat) : Int)) (iN 0) = _ := gd
              have gpos : 0 < Nat.gcd (wt V d (lft V S b) (S b) (S (4 + b))).toNat (100 ^ lft V S b) := Nat.gcd_pos_of_pos_right _ (by omega)
              have gle : Nat.gcd (wt V d (lft V S b) (S b) (S (4 + b))).toNat (100 ^ lft V S b) ≤ 100 ^ lft V S b := Nat.gcd_le_right _ (by omega)
              have gm : (if (1 : Int) < ((Nat.gcd (wt V d (lft V S b) (S b) (S (4 + b))).toNat (100 ^ lft V S b) : Nat) : Int) then ((Nat.gcd (wt V d (lft V S b) (S b) (S (4 + b))).toNat (100 ^ lft V S b) : Nat) : Int) else 1) = ((Nat.gcd (wt V d (lft V S b) (S b) (S (4 + b))).toNat (100 ^ lft V S b) : Nat) : Int) := by split <;> omega
              rw [fX6_commonPart, iN_lit, gd', Option.bind_some, Option.bind_some, cl_max _ _ (by omega) (by omega), gm]
              have gn : ¬ iN ((Nat.gcd (wt V d (lft V S b) (S b) (S (4 + b))).toNat (100 ^ lft V S b) : Nat) : Int) = iN 0 := by rw [iN_eq (by omega) (by omega) (by omega) (by omega)]; omega
              rw [ite_n gn, ite_n gn, iN_div wi.1 (by omega) (by omega) (by omega), iN_div (by omega) (by omega) (by omega) (by omega)]
              unfold aOd
              rw [if_pos ok]
              by_cases e : p = 0
              · rw [ite_p (by rw [e]), if_pos e]
                exact ⟨w', nw', I', rfl, f2, ex_trans e2 f3⟩
              · rw [ite_n (by rw [iN_eq (by omega) (by omega) (by omega) (by omega)]; exact e), if_neg e]
                exact ⟨w', nw', I', rfl, f2, ex_trans e2 f3⟩
      · rw [if_neg d1]; exact stay (no (by omega))
  · rw [if_neg hb', ite_p rfl]; exact stay (no (fun hh => hb' hh.1))
end ODR
