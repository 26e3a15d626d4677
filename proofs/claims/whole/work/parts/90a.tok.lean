/-! TOKENS: what stands at a place of the tape, whoever reads it. -/
def iL (z : Int) : Int64 := Int64.ofInt z
def tbl0 (x : Int) : Bool := decide (x = 32) || decide (x = 10)
def tlet (x : Int) : Bool := decide (97 ≤ x) && decide (x ≤ 122)
def tdig (x : Int) : Bool := decide (48 ≤ x) && decide (x ≤ 57)
def tsig (x : Int) : Bool := decide (x = 59) || decide (x = 40) || decide (x = 41) || decide (x = 60) || decide (x = 62) || decide (x = 61) || decide (x = 43) || decide (x = 45) || decide (x = 42) || decide (x = 47) || decide (x = 37)
/-- how many from p on are so, n at most -/
def trun (f : Int → Bool) (B : Nat → Int) (n : Nat) (p : Nat) : Nat := match n with
  | 0 => 0
  | n + 1 => if f (B p) = true then trun f B n (p + 1) + 1 else 0
def tP (B : Nat → Int) (m p : Nat) : Nat := p + trun tbl0 B (m - p) p
def tL (f : Int → Bool) (B : Nat → Int) (m q : Nat) : Nat := trun f B (m - q) q
def tlst (B : Nat → Int) (n q : Nat) : List Int := (List.range n).map (fun j => B (q + j))
def tval (l : List Int) : Int := l.foldl (fun a d => 10 * a + (d - 48)) 0
def c27 (l : List Int) : Int := l.foldl (fun a d => a * 27 + (d - 96)) 0
def c256 (l : List Int) : Int := l.foldl (fun a d => a * 256 + d) 0
/-- the kind: 0 the end, 1 a word, 2 a number, 3 a sign, 4 no token -/
def tKq (B : Nat → Int) (m q : Nat) : Int :=
  if m ≤ q then 0 else if tlet (B q) = true then (if 8 < tL tlet B m q then 4 else 1)
  else if tdig (B q) = true then (if 4 < tL tdig B m q then 4 else if q + tL tdig B m q < m ∧ tlet (B (q + tL tdig B m q)) = true then 4 else 2)
  else if tsig (B q) = true then 3 else 4
def tK (B : Nat → Int) (m p : Nat) : Int := tKq B m (tP B m p)
def tNq (B : Nat → Int) (m q : Nat) : Nat :=
  if m ≤ q then q else if tlet (B q) = true then q + tL tlet B m q else if tdig (B q) = true then q + tL tdig B m q else q + 1
def tN (B : Nat → Int) (m p : Nat) : Nat := tNq B m (tP B m p)
def tW (B : Nat → Int) (m p : Nat) : List Int := tlst B (tL tlet B m (tP B m p)) (tP B m p)
def tV (B : Nat → Int) (m p : Nat) : Int := tval (tlst B (tL tdig B m (tP B m p)) (tP B m p))
/-- the words that stand for themselves -/
def ownI (k : Nat) : List Int := match k with
  | 0 => [119, 97, 116, 101, 114]
  | 1 => [99, 117, 114, 114, 101, 110, 116]
  | 2 => [105, 114, 111, 110]
  | 3 => [98, 111, 97, 114, 100]
  | 4 => [108, 111, 97, 100]
  | 5 => [104, 101, 97, 116]
  | 6 => [102, 108, 111, 111, 100]
  | 7 => [100, 114, 97, 119]
  | 8 => [98, 121]
  | 9 => [97, 116]
  | 10 => [119, 105, 100, 101]
  | 11 => [98, 101, 97, 114, 115]
  | 12 => [111, 114]
  | 13 => [97, 110, 100]
  | 14 => [110, 111, 116]
  | 15 => [114, 111, 119]
  | 16 => [99, 111, 108, 117, 109, 110]
  | 17 => [115, 116, 114, 111, 107, 101, 115]
  | 18 => [104, 111, 116]
  | _ => []
def ownR (n : Nat) (w : List Int) (k : Nat) : Int := match n with
  | 0 => -1
  | n + 1 => if ownI k = w then (k : Int) else ownR n w (k + 1)
def ownF (w : List Int) : Int := ownR 19 w 0
def tO (B : Nat → Int) (m p : Nat) : Int := if tK B m p = 1 then ownF (tW B m p) else -1
/-- a word's letters -/
def wrd (w : List Int) : Prop := w.length ≤ 8 ∧ ∀ a ∈ w, 97 ≤ a ∧ a ≤ 122
theorem trun_le (f : Int → Bool) (B : Nat → Int) (n : Nat) : ∀ p, trun f B n p ≤ n := by
  induction n with
  | zero => intro p; exact Nat.le_refl 0
  | succ n ih =>
    intro p
    rw [trun]
    split
    · have := ih (p + 1); omega
    · omega
theorem trun_lt (f : Int → Bool) (B : Nat → Int) (n : Nat) : ∀ (p j : Nat), j < trun f B n p → f (B (p + j)) = true := by
  induction n with
  | zero => intro p j h; exact absurd h (Nat.not_lt_zero _)
  | succ n ih =>
    intro p j h
    rw [trun] at h
    by_cases hf : f (B p) = true
    · rw [if_pos hf] at h
      cases j with
      | zero => exact hf
      | succ j =>
        have := ih (p + 1) j (by omega)
        rw [show p + (j + 1) = p + 1 + j by omega]
        exact this
    · rw [if_neg hf] at h; omega
theorem trun_end (f : Int → Bool) (B : Nat → Int) (n : Nat) : ∀ p, trun f B n p < n → ¬ f (B (p + trun f B n p)) = true := by
  induction n with
  | zero => intro p h; exact absurd h (Nat.not_lt_zero _)
  | succ n ih =>
    intro p h
    rw [trun] at h ⊢
    by_cases hf : f (B p) = true
    · rw [if_pos hf] at h ⊢
      rw [show p + (trun f B n (p + 1) + 1) = p + 1 + trun f B n (p + 1) by omega]
      exact ih (p + 1) (by omega)
    · rw [if_neg hf]; exact hf
theorem trun_pos {f : Int → Bool} {B : Nat → Int} {n p : Nat} (hn : 0 < n) (hf : f (B p) = true) : 0 < trun f B n p := by
  cases n with
  | zero => omega
  | succ n => rw [trun, if_pos hf]; omega
section TKN
variable {B : Nat → Int} {m p q : Nat} {f : Int → Bool}
theorem tP_in (hp : p ≤ m) : p ≤ tP B m p ∧ tP B m p ≤ m := by
  have := trun_le tbl0 B (m - p) p
  unfold tP; omega
theorem tP_nb (h : tP B m p < m) : ¬ tbl0 (B (tP B m p)) = true := trun_end tbl0 B (m - p) p (by have := trun_le tbl0 B (m - p) p; unfold tP at h; omega)
theorem tL_in (hq : q ≤ m) : q + tL f B m q ≤ m := by
  have := trun_le f B (m - q) q
  unfold tL; omega
theorem tL_at {j : Nat} (h : j < tL f B m q) : f (B (q + j)) = true := trun_lt f B (m - q) q j h
theorem tL_end (h : q + tL f B m q < m) : ¬ f (B (q + tL f B m q)) = true := trun_end f B (m - q) q (by unfold tL at h; omega)
theorem tL_pos (hq : q < m) (h : f (B q) = true) : 0 < tL f B m q := trun_pos (by omega) h
theorem tKq_in : tKq B m q = 0 ∨ tKq B m q = 1 ∨ tKq B m q = 2 ∨ tKq B m q = 3 ∨ tKq B m q = 4 := by
  unfold tKq
  repeat' split
  all_goals simp
theorem tNq_in (hq : q ≤ m) : q ≤ tNq B m q ∧ tNq B m q ≤ m ∧ (q < m → q < tNq B m q) := by
  unfold tNq
  by_cases h0 : m ≤ q
  · rw [if_pos h0]; omega
  · rw [if_neg h0]
    by_cases h1 : tlet (B q) = true
    · rw [if_pos h1]
      have := tL_in (f := tlet) (B := B) hq
      have := tL_pos (B := B) (f := tlet) (show q < m by omega) h1
      omega
    · rw [if_neg h1]
      by_cases h2 : tdig (B q) = true
      · rw [if_pos h2]
        have := tL_in (f := tdig) (B := B) hq
        have := tL_pos (B := B) (f := tdig) (show q < m by omega) h2
        omega
      · rw [if_neg h2]; omega
theorem tN_in (hp : p ≤ m) : tN B m p ≤ m ∧ p ≤ tN B m p ∧ (¬ tK B m p = 0 → tP B m p < m ∧ tP B m p < tN B m p ∧ p < tN B m p) := by
  have h1 := tP_in (B := B) hp
  have h2 := tNq_in (B := B) h1.2
  refine ⟨h2.2.1, by unfold tN; omega, fun hk => ?_⟩
  have h3 : tP B m p < m := by
    by_cases h : tP B m p < m
    · exact h
    · refine absurd ?_ hk
      unfold tK tKq
      rw [if_pos (by omega)]
  have := h2.2.2 h3
  unfold tN
  omega
end TKN
theorem tlst_s (B : Nat → Int) (n q : Nat) : tlst B (n + 1) q = tlst B n q ++ [B (q + n)] := by
  unfold tlst; rw [List.range_succ, List.map_append]; rfl
theorem tlst_len (B : Nat → Int) (n q : Nat) : (tlst B n q).length = n := by unfold tlst; simp
theorem tval_s (l : List Int) (d : Int) : tval (l ++ [d]) = 10 * tval l + (d - 48) := by unfold tval; rw [List.foldl_append]; rfl
theorem c27_s (l : List Int) (d : Int) : c27 (l ++ [d]) = c27 l * 27 + (d - 96) := by unfold c27; rw [List.foldl_append]; rfl
theorem c256_s (l : List Int) (d : Int) : c256 (l ++ [d]) = c256 l * 256 + d := by unfold c256; rw [List.foldl_append]; rfl
theorem tW_wrd {B : Nat → Int} {m p : Nat} (hk : tK B m p = 1) : wrd (tW B m p) := by
  unfold tK tKq at hk
  by_cases h0 : m ≤ tP B m p
  · rw [if_pos h0] at hk; omega
  rw [if_neg h0] at hk
  by_cases h1 : tlet (B (tP B m p)) = true
  · rw [if_pos h1] at hk
    by_cases h2 : 8 < tL tlet B m (tP B m p)
    · rw [if_pos h2] at hk; omega
    · refine ⟨by unfold tW; rw [tlst_len]; omega, fun a ha => ?_⟩
      unfold tW tlst at ha
      obtain ⟨j, hj, rfl⟩ := List.mem_map.mp ha
      have := tL_at (List.mem_range.mp hj)
      unfold tlet at this
      simpa using this
  · rw [if_neg h1] at hk
    by_cases h2 : tdig (B (tP B m p)) = true
    · rw [if_pos h2] at hk
      split at hk
      · omega
      · split at hk <;> omega
    · rw [if_neg h2] at hk
      split at hk <;> omega
theorem snoc_ind {P : List Int → Prop} (h0 : P []) (h1 : ∀ l x, P l → P (l ++ [x])) (l : List Int) : P l := by
  have go : ∀ (n : Nat) (l : List Int), l.length = n → P l := by
    intro n
    induction n with
    | zero =>
      intro l hl
      have : l = [] := List.length_eq_zero_iff.mp hl
      subst this; exact h0
    | succ n ih =>
      intro l hl
      have e : l ≠ [] := by intro e; subst e; simp at hl
      have e2 := List.dropLast_concat_getLast e
      rw [← e2]
      exact h1 _ _ (ih _ (by rw [List.length_dropLast]; omega))
  exact go _ l rfl
/-- a word is what its number says, in both ways of counting -/
theorem wv_gen (b c : Int) (hb : 1 ≤ b) (hc1 : 1 ≤ 97 - c) (hc2 : 122 - c < b) : ∀ (k : Nat) (l l' : List Int), l.length ≤ k → (∀ a ∈ l, 97 ≤ a ∧ a ≤ 122) → (∀ a ∈ l', 97 ≤ a ∧ a ≤ 122) →
    l.foldl (fun a d => a * b + (d - c)) 0 = l'.foldl (fun a d => a * b + (d - c)) 0 → l = l' := by
  have pos : ∀ (l : List Int), (∀ a ∈ l, 97 ≤ a ∧ a ≤ 122) → l ≠ [] → 0 < l.foldl (fun a d => a * b + (d - c)) 0 := by
    intro l
    induction l using snoc_ind with
    | h0 => intro _ h; exact absurd rfl h
    | h1 l x ih =>
      intro h _
      rw [List.foldl_append]
      have hx := h x (by simp)
      show 0 < l.foldl (fun a d => a * b + (d - c)) 0 * b + (x - c)
      by_cases e : l = []
      · subst e
        show 0 < 0 * b + (x - c)
        omega
      · have := ih (fun a ha => h a (by simp [ha])) e
        have : 0 ≤ l.foldl (fun a d => a * b + (d - c)) 0 * b := Int.mul_nonneg (by omega) (by omega)
        omega
  intro k
  induction k with
  | zero =>
    intro l l' hl _ h' e
    have : l = [] := List.length_eq_zero_iff.mp (by omega)
    subst this
    by_cases e' : l' = []
    · exact e'.symm
    · have := pos l' h' e'
      rw [← e] at this
      exact absurd this (by simp)
  | succ k ih =>
    intro l l' hl h h' e
    by_cases e0 : l = []
    · subst e0
      by_cases e' : l' = []
      · exact e'.symm
      · have := pos l' h' e'
        rw [← e] at this
        exact absurd this (by simp)
    · by_cases e' : l' = []
      · subst e'
        have := pos l h e0
        rw [e] at this
        exact absurd this (by simp)
      · obtain ⟨a, x, rfl⟩ : ∃ a x, l = a ++ [x] := ⟨l.dropLast, l.getLast e0, (List.dropLast_concat_getLast e0).symm⟩
        obtain ⟨a', x', rfl⟩ : ∃ a x, l' = a ++ [x] := ⟨l'.dropLast, l'.getLast e', (List.dropLast_concat_getLast e').symm⟩
        rw [List.foldl_append, List.foldl_append] at e
        have e : a.foldl (fun a d => a * b + (d - c)) 0 * b + (x - c) = a'.foldl (fun a d => a * b + (d - c)) 0 * b + (x' - c) := e
        have hx := h x (by simp)
        have hx' := h' x' (by simp)
        have q1 : (a.foldl (fun a d => a * b + (d - c)) 0 * b + (x - c)) / b = a.foldl (fun a d => a * b + (d - c)) 0 := by
          rw [Int.add_comm, Int.add_mul_ediv_right _ _ (by omega), Int.ediv_eq_zero_of_lt (by omega) (by omega)]; omega
        have q2 : (a'.foldl (fun a d => a * b + (d - c)) 0 * b + (x' - c)) / b = a'.foldl (fun a d => a * b + (d - c)) 0 := by
          rw [Int.add_comm, Int.add_mul_ediv_right _ _ (by omega), Int.ediv_eq_zero_of_lt (by omega) (by omega)]; omega
        have e1 : a.foldl (fun a d => a * b + (d - c)) 0 = a'.foldl (fun a d => a * b + (d - c)) 0 := by rw [← q1, e, q2]
        have e2 := ih a a' (by simp at hl; omega) (fun y hy => h y (by simp [hy])) (fun y hy => h' y (by simp [hy])) e1
        subst e2
        have : x = x' := by omega
        rw [this]
theorem c27_inj {l l' : List Int} (h : wrd l) (h' : wrd l') (e : c27 l = c27 l') : l = l' := wv_gen 27 96 (by omega) (by omega) (by omega) _ l l' (Nat.le_refl _) h.2 h'.2 e
theorem c256_inj {l l' : List Int} (h : wrd l) (h' : wrd l') (e : c256 l = c256 l') : l = l' := by
  refine wv_gen 256 0 (by omega) (by omega) (by omega) _ l l' (Nat.le_refl _) h.2 h'.2 ?_
  have g : (fun (a d : Int) => a * 256 + (d - 0)) = fun a d => a * 256 + d := by funext a d; rw [Int.sub_zero]
  rw [g]; exact e
theorem cv_in (b c : Int) (hb : 1 ≤ b) (hc1 : 0 ≤ 97 - c) (hc2 : 122 - c < b) : ∀ (l : List Int), (∀ a ∈ l, 97 ≤ a ∧ a ≤ 122) → 0 ≤ l.foldl (fun a d => a * b + (d - c)) 0 ∧ l.foldl (fun a d => a * b + (d - c)) 0 < b ^ l.length := by
  intro l
  induction l using snoc_ind with
  | h0 => intro _; exact ⟨Int.le_refl 0, by simp⟩
  | h1 l x ih =>
    intro h
    have hx := h x (by simp)
    obtain ⟨i1, i2⟩ := ih (fun a ha => h a (by simp [ha]))
    rw [List.foldl_append]
    show 0 ≤ l.foldl (fun a d => a * b + (d - c)) 0 * b + (x - c) ∧ l.foldl (fun a d => a * b + (d - c)) 0 * b + (x - c) < b ^ (l ++ [x]).length
    have e : b ^ (l ++ [x]).length = b ^ l.length * b := by rw [List.length_append]; exact Int.pow_succ b l.length
    rw [e]
    generalize l.foldl (fun a d => a * b + (d - c)) 0 = y at *
    have k1 : 0 ≤ y * b := Int.mul_nonneg i1 (by omega)
    have k2 : (y + 1) * b ≤ b ^ l.length * b := Int.mul_le_mul_of_nonneg_right (by omega) (by omega)
    rw [Int.add_mul, Int.one_mul] at k2
    omega
theorem ipow_le {b : Int} (hb : 1 ≤ b) {i k : Nat} (h : i ≤ k) : b ^ i ≤ b ^ k := by
  have pos : ∀ j : Nat, 1 ≤ b ^ j := by
    intro j
    induction j with
    | zero => simp
    | succ j ih =>
      rw [Int.pow_succ]
      have := Int.mul_le_mul_of_nonneg_left (c := b ^ j) hb (by omega)
      omega
  obtain ⟨j, rfl⟩ : ∃ j, k = i + j := ⟨k - i, by omega⟩
  clear h
  induction j with
  | zero => exact Int.le_refl _
  | succ j ih =>
    rw [show i + (j + 1) = (i + j) + 1 by omega, Int.pow_succ]
    have := Int.mul_le_mul_of_nonneg_left (c := b ^ (i + j)) hb (by have := pos (i + j); omega)
    omega
theorem c27_in {l : List Int} (h : wrd l) : 0 ≤ c27 l ∧ c27 l < 9223372036854775808 := by
  obtain ⟨h1, h2⟩ := cv_in 27 96 (by omega) (by omega) (by omega) l h.2
  refine ⟨h1, Int.lt_of_lt_of_le h2 (Int.le_trans ?_ (show (27 : Int) ^ 8 ≤ 9223372036854775808 by decide))⟩
  exact ipow_le (by omega) h.1
theorem c256_in {l : List Int} (h : wrd l) : 0 ≤ c256 l ∧ c256 l < 18446744073709551616 := by
  have g : (fun (a d : Int) => a * 256 + (d - 0)) = fun a d => a * 256 + d := by funext a d; rw [Int.sub_zero]
  have h0 := cv_in 256 0 (by omega) (by omega) (by omega) l h.2
  rw [g] at h0
  refine ⟨h0.1, Int.lt_of_lt_of_le h0.2 (Int.le_trans ?_ (show (256 : Int) ^ 8 ≤ 18446744073709551616 by decide))⟩
  exact ipow_le (by omega) h.1
/-! Longs -/
theorem iL_lit (n : Nat) : (OfNat.ofNat n : Int64) = iL (OfNat.ofNat n : Int) := Eq.trans rfl rfl
theorem iL_add (a b : Int) : iL a + iL b = iL (a + b) := (Int64.ofInt_add a b).symm
theorem iL_mul (a b : Int) : iL a * iL b = iL (a * b) := (Int64.ofInt_mul a b).symm
theorem iL_inj {a b : Int} (h1 : 0 ≤ a) (h2 : a < 18446744073709551616) (h3 : 0 ≤ b) (h4 : b < 18446744073709551616) (e : iL a = iL b) : a = b := by
  have e1 : (iL a).toBitVec = (iL b).toBitVec := by rw [e]
  have e2 : BitVec.ofInt 64 a = BitVec.ofInt 64 b := e1
  have e3 := congrArg BitVec.toNat e2
  rw [BitVec.toNat_ofInt, BitVec.toNat_ofInt] at e3
  have : ((2 ^ 64 : Nat) : Int) = 18446744073709551616 := by decide
  rw [this, Int.emod_eq_of_lt h1 h2, Int.emod_eq_of_lt h3 h4] at e3
  omega
theorem iN_L {z : Int} (h1 : -2147483648 ≤ z) (h2 : z < 2147483648) : (iN z).toInt64 = iL z := by
  apply Int64.toInt_inj.mp
  rw [Int32.toInt_toInt64, iN_toInt h1 h2]
  exact (Int64.toInt_ofInt_of_le (by omega) (by omega)).symm
theorem iL_sh {z b : Int} (h1 : 0 ≤ z) (h2 : z < 72057594037927936) (h3 : 0 ≤ b) (h4 : b < 256) : (iL z <<< ((8 : Int32).toInt64 &&& 63)) ||| iL b = iL (z * 256 + b) := by
  have e8 : ((8 : Int32).toInt64 &&& 63) = 8 := by decide
  rw [e8]
  apply Int64.toBitVec.inj
  rw [Int64.toBitVec_or, Int64.toBitVec_shiftLeft]
  have e9 : ((8 : Int64).toBitVec.smod 64) = 8#64 := by decide
  have k1 : (iL z).toBitVec.toNat = z.toNat := by
    show (BitVec.ofInt 64 z).toNat = _
    rw [BitVec.toNat_ofInt, Int.emod_eq_of_lt h1 (by omega)]
  have k2 : (iL b).toBitVec.toNat = b.toNat := by
    show (BitVec.ofInt 64 b).toNat = _
    rw [BitVec.toNat_ofInt, Int.emod_eq_of_lt h3 (by omega)]
  have k3 : (iL (z * 256 + b)).toBitVec.toNat = (z * 256 + b).toNat := by
    show (BitVec.ofInt 64 (z * 256 + b)).toNat = _
    rw [BitVec.toNat_ofInt, Int.emod_eq_of_lt (by omega) (by omega)]
  apply BitVec.eq_of_toNat_eq
  rw [e9, k3, BitVec.toNat_or, k2, BitVec.shiftLeft_eq', BitVec.toNat_shiftLeft, k1]
  have e10 : (8#64).toNat = 8 := by decide
  rw [e10, Nat.shiftLeft_eq, Nat.mod_eq_of_lt (by omega)]
  have := Nat.shiftLeft_add_eq_or_of_lt (b := b.toNat) (i := 8) (by omega) z.toNat
  rw [Nat.shiftLeft_eq] at this
  rw [← this]
  omega
theorem lgc {x y : Int64} : (lg_cmp x y = iN 0) = (x = y) := propext (lg_cmp_eq x y)
theorem ownR_spec (w : List Int) (n : Nat) : ∀ k : Nat, (ownR n w k = -1 ∧ ∀ j, k ≤ j → j < k + n → ¬ ownI j = w) ∨ (∃ j : Nat, k ≤ j ∧ j < k + n ∧ ownR n w k = j ∧ ownI j = w) := by
  induction n with
  | zero => intro k; left; exact ⟨rfl, fun j h1 h2 => by omega⟩
  | succ n ih =>
    intro k
    rw [ownR]
    by_cases e : ownI k = w
    · rw [if_pos e]; right; exact ⟨k, by omega, by omega, rfl, e⟩
    · rw [if_neg e]
      rcases ih (k + 1) with ⟨h1, h2⟩ | ⟨j, h1, h2, h3, h4⟩
      · left
        refine ⟨h1, fun j a b => ?_⟩
        by_cases hj : j = k
        · rw [hj]; exact e
        · exact h2 j (by omega) (by omega)
      · right; exact ⟨j, by omega, by omega, h3, h4⟩
theorem ownI_wrd : ∀ k : Fin 19, wrd (ownI k.val) := by unfold wrd; decide
theorem ownF_I : ∀ k : Fin 19, ownF (ownI k.val) = k.val := by decide
theorem ownF_in (w : List Int) : -1 ≤ ownF w ∧ ownF w < 19 := by
  rcases ownR_spec w 19 0 with ⟨h1, -⟩ | ⟨j, h1, h2, h3, -⟩
  · unfold ownF; omega
  · unfold ownF; omega
theorem ownF_eq {w : List Int} {k : Nat} (hk : k < 19) : ownF w = k ↔ w = ownI k := by
  constructor
  · intro h
    rcases ownR_spec w 19 0 with ⟨h1, -⟩ | ⟨j, h1, h2, h3, h4⟩
    · unfold ownF at h; omega
    · unfold ownF at h
      have : j = k := by omega
      rw [← this, h4]
  · intro h; rw [h]; exact ownF_I ⟨k, hk⟩
theorem tO_in (B : Nat → Int) (m p : Nat) : -1 ≤ tO B m p ∧ tO B m p < 19 := by
  unfold tO
  split
  · exact ownF_in _
  · omega
