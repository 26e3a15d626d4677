/-! Numbers: an int of the machine as an integer; rows as functions of integers; bits. -/
def iN (z : Int) : Int32 := Int32.ofInt z
theorem iN_lit (n : Nat) : (OfNat.ofNat n : Int32) = iN (OfNat.ofNat n : Int) := Eq.trans rfl rfl
theorem iN_add (a b : Int) : iN a + iN b = iN (a + b) := (Int32.ofInt_add a b).symm
theorem iN_sub (a b : Int) : iN a - iN b = iN (a - b) := (Int32.ofInt_sub a b).symm
theorem iN_mul (a b : Int) : iN a * iN b = iN (a * b) := (Int32.ofInt_mul a b).symm
theorem iN_neg (a : Int) : -iN a = iN (-a) := (Int32.ofInt_neg a).symm
theorem iN_toInt {a : Int} (h1 : -2147483648 ≤ a) (h2 : a < 2147483648) : (iN a).toInt = a := Int32.toInt_ofInt_of_le h1 h2
theorem iN_lt {a b : Int} (h1 : -2147483648 ≤ a) (h2 : a < 2147483648) (h3 : -2147483648 ≤ b) (h4 : b < 2147483648) : (iN a < iN b) = (a < b) := by
  rw [Int32.lt_iff_toInt_lt, iN_toInt h1 h2, iN_toInt h3 h4]
theorem iN_eq {a b : Int} (h1 : -2147483648 ≤ a) (h2 : a < 2147483648) (h3 : -2147483648 ≤ b) (h4 : b < 2147483648) : (iN a = iN b) = (a = b) := by
  rw [← Int32.toInt_inj, iN_toInt h1 h2, iN_toInt h3 h4]
theorem iN_tn {a : Int} (h1 : 0 ≤ a) (h2 : a < 2147483648) : (iN a).toNatClampNeg = a.toNat := by
  show (iN a).toInt.toNat = _
  rw [iN_toInt (by omega) h2]
theorem iN_of (x : Int32) : iN x.toInt = x := Int32.ofInt_toInt x
theorem iN_ofNat (n : Nat) : Int32.ofNat n = iN n := Int32.ofInt_eq_ofNat.symm
theorem iN_lo (x : Int32) : -2147483648 ≤ x.toInt := x.le_toInt
theorem iN_hi (x : Int32) : x.toInt < 2147483648 := x.toInt_lt
theorem iN_div {a b : Int} (h1 : 0 ≤ a) (h2 : a < 2147483648) (h3 : 0 < b) (h4 : b < 2147483648) : iN a / iN b = iN (a / b) := by
  apply Int32.toInt_inj.mp
  have ha : (iN a).toInt = a := iN_toInt (by omega) h2
  have hb : (iN b).toInt = b := iN_toInt (by omega) h4
  have h5 : 0 ≤ a / b := Int.ediv_nonneg h1 (by omega)
  have h6 : a / b ≤ a := Int.ediv_le_self b h1
  rw [iN_toInt (by omega) (by omega), Int32.toInt_div_of_ne_left, ha, hb, Int.tdiv_eq_ediv_of_nonneg h1]
  intro h
  have := congrArg Int32.toInt h
  rw [ha, Int32.toInt_minValue] at this
  omega
theorem iN_rem {a b : Int} (h1 : 0 ≤ a) (h2 : a < 2147483648) (h3 : 0 < b) (h4 : b < 2147483648) : iN a - iN a / iN b * iN b = iN (a % b) := by
  rw [iN_div h1 h2 h3 h4, iN_mul, iN_sub, Int.emod_def, Int.mul_comm]
/-- a row's read with care -/
theorem iN_pick {I : Nat → Nat → Int32} {a n : Nat} {z : Int} (h1 : 0 ≤ z) (h2 : z < n) (h3 : n ≤ 1600) : mf_pick I a n (iN z) = I a z.toNat := by
  unfold mf_pick
  simp (disch := omega) only [iN_lit, iN_ofNat, iN_lt, if_neg, if_pos, iN_tn]
theorem iN_put {I : Nat → Nat → Int32} {a n : Nat} {z : Int} {x : Int32} (h1 : 0 ≤ z) (h2 : z < n) (h3 : n ≤ 1600) : mf_put I a n (iN z) x = mm_up I a z.toNat x := by
  unfold mf_put
  simp (disch := omega) only [iN_lit, iN_ofNat, iN_lt, if_neg, if_pos, iN_tn]
theorem iN_putN {I : Nat → Nat → Int32} {a n : Nat} {z : Int} {x : Int32} (h0 : -2147483648 ≤ z) (h1 : z < 0 ∨ n ≤ z) (h2 : z < 2147483648) (h3 : n ≤ 1600) : mf_put I a n (iN z) x = I := by
  unfold mf_put
  simp (disch := omega) only [iN_lit, iN_ofNat, iN_lt]
  split
  · rfl
  · rw [if_neg (by omega)]
theorem up_eq {α : Type} {M : Nat → Nat → α} {a k : Nat} {x : α} : mm_up M a k x a k = x := by simp [mm_up]
theorem up_k {α : Type} {M : Nat → Nat → α} {a k b j : Nat} {x : α} (h : j ≠ k) : mm_up M a k x b j = M b j := by simp [mm_up, h]
theorem up_a {α : Type} {M : Nat → Nat → α} {a k b : Nat} {x : α} (h : b ≠ a) : mm_up M a k x b = M b := by funext j; simp [mm_up, h]
theorem up_c {α : Type} {M : Nat → Nat → α} {a k j : Nat} {x : α} : mm_up M a k x a j = if j = k then x else M a j := by simp [mm_up]
theorem row_eq {α : Type} {M : Nat → Nat → α} {a : Nat} {f : Nat → α} : mm_row M a f a = f := by funext j; simp [mm_row]
theorem row_a {α : Type} {M : Nat → Nat → α} {a b : Nat} {f : Nat → α} (h : b ≠ a) : mm_row M a f b = M b := by funext j; simp [mm_row, h]
theorem fill_eq {I : Nat → Nat → Int32} {a n : Nat} {x : Int32} {k : Nat} (h : k < n) : mf_fill I a n x a k = x := by simp [mf_fill, mm_row, h]
theorem fill_a {I : Nat → Nat → Int32} {a n b : Nat} {x : Int32} (h : b ≠ a) : mf_fill I a n x b = I b := row_a h
/-- the row a of I holds F, from 0 to n -/
abbrev hr (I : Nat → Nat → Int32) (a : Nat) (n : Int) (F : Int → Int) : Prop := ∀ z : Int, 0 ≤ z → z < n → I a z.toNat = iN (F z)
theorem hr_of {I I' : Nat → Nat → Int32} {a : Nat} {n : Int} {F : Int → Int} (h : hr I a n F) (e : I' a = I a) : hr I' a n F := fun z h1 h2 => by rw [e]; exact h z h1 h2
/-- outside of these rows nothing has changed -/
def ex (l : List Nat) (I I' : Nat → Nat → Int32) : Prop := ∀ a, a ∉ l → I' a = I a
theorem ex_refl {l : List Nat} {I : Nat → Nat → Int32} : ex l I I := fun _ _ => rfl
theorem ex_mono {l l' : List Nat} {I I' : Nat → Nat → Int32} (h : ex l I I') (s : ∀ a, a ∈ l → a ∈ l') : ex l' I I' := fun a ha => h a (fun hm => ha (s a hm))
theorem ex_trans {l : List Nat} {I I' I'' : Nat → Nat → Int32} (h : ex l I I') (h' : ex l I' I'') : ex l I I'' := fun a ha => by rw [h' a ha, h a ha]
theorem ex_up {l : List Nat} {I : Nat → Nat → Int32} {a k : Nat} {x : Int32} (h : a ∈ l) : ex l I (mm_up I a k x) := fun b hb => up_a (fun e => hb (e ▸ h))
theorem ex_fill {l : List Nat} {I : Nat → Nat → Int32} {a n : Nat} {x : Int32} (h : a ∈ l) : ex l I (mf_fill I a n x) := fun b hb => fill_a (fun e => hb (e ▸ h))
/-- a bit of a number -/
def bit (x : Int32) (c : Int) : Bool := x.toBitVec.getLsbD c.toNat
theorem bit_ext {x y : Int32} (h : ∀ c : Int, 0 ≤ c → c < 32 → bit x c = bit y c) : x = y := by
  apply Int32.toBitVec.inj
  apply BitVec.eq_of_getLsbD_eq
  intro i hi
  have := h (i : Int) (by omega) (by omega)
  simpa [bit] using this
theorem bit_or {x y : Int32} {c : Int} : bit (x ||| y) c = (bit x c || bit y c) := by simp [bit]
theorem bit_and {x y : Int32} {c : Int} : bit (x &&& y) c = (bit x c && bit y c) := by simp [bit]
theorem bit_xor {x y : Int32} {c : Int} : bit (x ^^^ y) c = (bit x c ^^ bit y c) := by simp [bit]
theorem bit_0 {c : Int} : bit (iN 0) c = false := by simp [bit, iN]
theorem bit_m1 {c : Int} (h1 : 0 ≤ c) (h2 : c < 32) : bit (iN (-1)) c = true := by
  have e : (iN (-1)).toBitVec = BitVec.allOnes 32 := by decide
  have : c.toNat < 32 := by omega
  rw [bit, e, BitVec.getLsbD_allOnes]
  simpa using this
theorem iN_31 {c : Int} (h1 : 0 ≤ c) (h2 : c < 32) : iN c &&& iN 31 = iN c := by
  have : ∀ k : Fin 32, iN (k.val : Int) &&& iN 31 = iN (k.val : Int) := by decide
  have h := this ⟨c.toNat, by omega⟩
  have e : ((c.toNat : Nat) : Int) = c := by omega
  simp only [e] at h
  exact h
theorem bit_shl1 {c d : Int} (h1 : 0 ≤ c) (h2 : c < 32) (h3 : 0 ≤ d) (h4 : d < 32) : bit (iN 1 <<< iN c) d = decide (d = c) := by
  have : ∀ k j : Fin 32, bit (iN 1 <<< iN (k.val : Int)) (j.val : Int) = decide (j = k) := by decide +kernel
  have h := this ⟨c.toNat, by omega⟩ ⟨d.toNat, by omega⟩
  have e : ((c.toNat : Nat) : Int) = c := by omega
  have e' : ((d.toNat : Nat) : Int) = d := by omega
  simp only [e, e'] at h
  rw [h]
  congr 1
  simp only [Fin.mk.injEq, eq_iff_iff]
  omega
theorem bit_shr {x : Int32} {c : Int} (h1 : 0 ≤ c) (h2 : c < 32) : (x >>> iN c) &&& iN 1 = if bit x c = true then iN 1 else iN 0 := by
  have h0 : ∀ k : Fin 32, ((iN (k.val : Int)).toBitVec.smod 32).toNat = k.val := by decide +kernel
  have h := h0 ⟨c.toNat, by omega⟩
  have e : ((c.toNat : Nat) : Int) = c := by omega
  simp only [e] at h
  have h3 : (x >>> iN c).toBitVec = x.toBitVec.sshiftRight c.toNat := by
    rw [Int32.toBitVec_shiftRight, BitVec.sshiftRight', h]
  have hb : ∀ i : Nat, i < 32 → (iN 1).toBitVec.getLsbD i = decide (i = 0) := by decide
  have hz : ∀ i : Nat, (iN 0).toBitVec.getLsbD i = false := by intro i; simp [iN]
  apply Int32.toBitVec.inj
  apply BitVec.eq_of_getLsbD_eq
  intro i hi
  rw [Int32.toBitVec_and, h3, BitVec.getLsbD_and, hb i hi, BitVec.getLsbD_sshiftRight]
  by_cases hi0 : i = 0
  · subst hi0
    have h4 : c.toNat + 0 < 32 := by omega
    simp only [h4, if_true, decide_true, Bool.and_true]
    by_cases hx : bit x c = true
    · rw [if_pos hx, hb 0 hi]
      simpa [bit] using hx
    · rw [if_neg hx, hz]
      simpa [bit] using hx
  · simp only [hi0, decide_false, Bool.and_false]
    by_cases hx : bit x c = true
    · rw [if_pos hx, hb i hi]; simp [hi0]
    · rw [if_neg hx, hz]
theorem bit_t0 {x : Int32} {c : Int} (h1 : 0 ≤ c) (h2 : c < 32) : ((x >>> iN c) &&& iN 1 = iN 0) = (bit x c = false) := by
  rw [bit_shr h1 h2]
  have : iN 1 ≠ iN 0 := by decide
  by_cases hx : bit x c = true
  · rw [if_pos hx, hx]; simp [this]
  · rw [if_neg hx]; simp [hx]
theorem bit_t1 {x : Int32} {c : Int} (h1 : 0 ≤ c) (h2 : c < 32) : ((x >>> iN c) &&& iN 1 = iN 1) = (bit x c = true) := by
  rw [bit_shr h1 h2]
  have : iN 0 ≠ iN 1 := by decide
  by_cases hx : bit x c = true
  · rw [if_pos hx, hx]; simp
  · rw [if_neg hx]; simp [hx, this]
