/-! What a river and a scene are, and what the two programs ought to come to. V 0: columns, rows, boards, loads, flood, codes, units; V 1 currents, V 2 irons, V 3 wides, V 4 starts, V 5 bears, V 6 loads' wides, V 7 codes. -/
def ud {α : Type} (f : Int → α) (k : Int) (x : α) : Int → α := fun j => if j = k then x else f j
def jn (c : Int) (a b : Int32) : Int32 :=
  if c = -17 then (if b = 0 then 0 else a - a / b * b) else if c = -16 then (if b = 0 then 0 else a / b) else if c = -15 then a * b else if c = -14 then a - b else if c = -13 then a + b
  else if c = -12 then (if a = b then 1 else 0) else if c = -11 then (if b < a then 1 else 0) else if c = -10 then (if a < b then 1 else 0)
  else if c = -9 then (if a = 0 then 0 else if b = 0 then 0 else 1) else if a = 0 then (if b = 0 then 0 else 1) else 1
/-- one step of the formula's row of codes -/
def fst1 (g : Int → Int32) (c : Int) (x : Int × (Int → Int32)) : Int × (Int → Int32) :=
  if c < -6 then (if c = -7 then (x.1, ud x.2 (x.1 - 1) (if x.2 (x.1 - 1) = 0 then 1 else 0)) else (x.1 - 1, ud x.2 (x.1 - 2) (jn c (x.2 (x.1 - 2)) (x.2 (x.1 - 1)))))
  else (x.1 + 1, ud x.2 x.1 (if c < 0 then g (-1 - c) else iN c))
def fstk (V : Nat → Int → Int) (g : Int → Int32) (z : Nat) : Int × (Int → Int32) := match z with
  | 0 => (0, fun _ => 0)
  | z + 1 => fst1 g (V 7 z) (fstk V g z)
/-- how many lie on the stack -/
def fdep (V : Nat → Int → Int) (z : Nat) : Int := match z with
  | 0 => 0
  | z + 1 => if V 7 z < -6 then (if V 7 z = -7 then fdep V z else fdep V z - 1) else fdep V z + 1
def giv (row col load wide made hot : Int) : Int → Int32 := fun j => if j = 0 then iN row else if j = 1 then iN col else if j = 2 then iN load else if j = 3 then iN wide else if j = 4 then iN made else iN hot
def clamp (m : Int) (x : Int) : Int := if x < 0 then 0 else if m < x then m else x
def warm (V : Nat → Int → Int) (row col load wide made hot : Int) : Int := if V 0 5 = 0 then 1 else clamp 99 ((fstk V (giv row col load wide made hot) (V 0 5).toNat).2 0).toInt
def lead (V : Nat → Int → Int) (c r s k : Int) : Int := clamp (V 0 0 - 1) (c + s + k * V 1 (8 * r + c))
def bur (V : Nat → Int → Int) (S : Int → Int) (b : Int) (n : Nat) : Int := match n with
  | 0 => 0
  | n + 1 => bur V S b n + if S (20 + n) = b then V 6 n else 0
def burd (V : Nat → Int → Int) (S : Int → Int) (b : Int) : Int := bur V S b (V 0 3).toNat
/-- the scene with one board's numbers set anew -/
def air (S : Int → Int) (b c r h q m : Int) : Int → Int := fun z => if z = b then c else if z = 4 + b then r else if z = 8 + b then h else if z = 12 + b then q else if z = 16 + b then m else S z
/-- the heat behind a stroke, before scorching -/
def nht (V : Nat → Int → Int) (b B c r h m : Int) : Int := if 99 < h + warm V r c B (V 3 b) m h then 99 else h + warm V r c B (V 3 b) m h
/-- the river is in order -/
def wfV (V : Nat → Int → Int) : Prop :=
  (1 ≤ V 0 0 ∧ V 0 0 ≤ 8 ∧ 1 ≤ V 0 1 ∧ V 0 1 ≤ 6 ∧ 0 ≤ V 0 2 ∧ V 0 2 ≤ 4 ∧ 0 ≤ V 0 3 ∧ V 0 3 ≤ 7 ∧ 0 ≤ V 0 4 ∧ V 0 4 ≤ 100 ∧ 0 ≤ V 0 5 ∧ V 0 5 ≤ 300 ∧ 0 ≤ V 0 6 ∧ V 0 6 ≤ 30) ∧
  (∀ z, 0 ≤ z → z < 56 → 0 ≤ V 1 z ∧ V 1 z ≤ 7) ∧ (∀ z, 0 ≤ z → z < 56 → V 2 z = 0 ∨ V 2 z = 1) ∧
  (∀ z, 0 ≤ z → z < V 0 2 → 0 ≤ V 3 z ∧ V 3 z ≤ 99 ∧ 0 ≤ V 4 z ∧ V 4 z < V 0 0 ∧ 0 ≤ V 5 z ∧ V 5 z ≤ 99) ∧
  (∀ z, 0 ≤ z → z < V 0 3 → 0 ≤ V 6 z ∧ V 6 z ≤ 99) ∧
  (∀ z : Nat, z < V 0 5 → -17 ≤ V 7 z ∧ V 7 z ≤ 9999 ∧ 0 ≤ fdep V z ∧ fdep V z ≤ 30 ∧ (V 7 z < -7 → 2 ≤ fdep V z) ∧ (V 7 z = -7 → 1 ≤ fdep V z) ∧ (-7 < V 7 z → fdep V z < 30)) ∧
  (V 0 5 = 0 ∨ fdep V (V 0 5).toNat = 1)
/-- the scene is in order; no board was scorched more than t times -/
def wfS (V : Nat → Int → Int) (t : Int) (S : Int → Int) : Prop :=
  (∀ b, 0 ≤ b → b < V 0 2 → 0 ≤ S b ∧ S b < V 0 0 ∧ 0 ≤ S (4 + b) ∧ S (4 + b) ≤ V 0 1 ∧ 0 ≤ S (8 + b) ∧ S (8 + b) ≤ 99 ∧ 0 ≤ S (12 + b) ∧ S (12 + b) ≤ t ∧ 0 ≤ S (16 + b) ∧ S (16 + b) ≤ t) ∧
  (∀ l, 0 ≤ l → l < V 0 3 → -2 ≤ S (20 + l) ∧ S (20 + l) < V 0 2) ∧ 0 ≤ S 27 ∧ S 27 < 1000
/-- a code as the reference has it -/
def rsg (c : Int) : Int := if c = -17 then 37 else if c = -16 then 47 else if c = -15 then 42 else if c = -14 then 45 else if c = -13 then 43 else if c = -12 then 61 else if c = -11 then 62 else if c = -10 then 60 else if c = -9 then 38 else 124
def rcs (c : Int) : Int := if c < -6 then (if c = -7 then 2 else 3) else if c < 0 then 1 else 0
def rca (c : Int) : Int := if c < -6 then (if c = -7 then 0 else rsg c) else if c < 0 then -1 - c else c
/-- the reference's river is V -/
def refV (V : Nat → Int → Int) (I : Nat → Nat → Int32) : Prop :=
  (I 62 46 = iN (V 0 0) ∧ I 62 47 = iN (V 0 1) ∧ I 62 48 = iN (V 0 2) ∧ I 62 49 = iN (V 0 3) ∧ I 62 50 = iN (V 0 4) ∧ I 62 18 = iN (V 0 5) ∧ I 62 21 = iN (V 0 6)) ∧
  hr I 78 56 (V 1) ∧ hr I 79 56 (V 2) ∧ hr I 80 (V 0 2) (V 3) ∧ hr I 81 (V 0 2) (V 4) ∧ hr I 82 (V 0 2) (V 5) ∧ hr I 83 (V 0 3) (V 6) ∧
  hr I 67 (V 0 5) (fun z => rcs (V 7 z)) ∧ hr I 68 (V 0 5) (fun z => rca (V 7 z))
/-- the class's river r is V -/
def clsV (V : Nat → Int → Int) (r : Nat) (I : Nat → Nat → Int32) : Prop :=
  (I r 0 = iN (V 0 0) ∧ I r 1 = iN (V 0 1) ∧ I r 4 = iN (V 0 2) ∧ I r 5 = iN (V 0 3) ∧ I r 6 = iN (V 0 4) ∧ I (r + 1) 3 = iN (V 0 5) ∧ I (r + 1) 4 = iN (V 0 6)) ∧
  (∃ F : Int → Int, hr I (r + 5) 56 F ∧ ∀ z, 0 ≤ z → z < 56 → -1 ≤ F z ∧ F z ≤ 7 ∧ V 1 z = if F z < 0 then 0 else F z) ∧
  hr I (r + 6) 56 (V 2) ∧ hr I (r + 7) (V 0 2) (V 3) ∧ hr I (r + 8) (V 0 2) (V 4) ∧ hr I (r + 9) (V 0 2) (V 5) ∧ hr I (r + 11) (V 0 3) (V 6) ∧ hr I (r + 2) (V 0 5) (V 7)
/-- the scene S, as the class lays it -/
def lay (V : Nat → Int → Int) (S T : Int → Int) : Prop :=
  (∀ b w : Int, 0 ≤ b → b < V 0 2 → 0 ≤ w → w < 5 → T (b * 5 + w) = S (4 * w + b)) ∧ (∀ l : Int, 0 ≤ l → l < V 0 3 → T (20 + l) = S (20 + l)) ∧ T 27 = S 27
def clsS (V : Nat → Int → Int) (S : Int → Int) (I : Nat → Nat → Int32) : Prop := ∃ T, hr I 32 28 T ∧ lay V S T
theorem refV_of {V : Nat → Int → Int} {I I' : Nat → Nat → Int32} (h : refV V I) {l : List Nat} (e : ex l I I') (d : ∀ a ∈ [62, 67, 68, 78, 79, 80, 81, 82, 83], a ∉ l) : refV V I' := by
  obtain ⟨⟨a1, a2, a3, a4, a5, a6, a7⟩, b1, b2, b3, b4, b5, b6, b7, b8⟩ := h
  have e1 := e 62 (d 62 (by decide))
  refine ⟨⟨by rw [e1]; exact a1, by rw [e1]; exact a2, by rw [e1]; exact a3, by rw [e1]; exact a4, by rw [e1]; exact a5, by rw [e1]; exact a6, by rw [e1]; exact a7⟩, ?_⟩
  exact ⟨hr_of b1 (e _ (d _ (by decide))), hr_of b2 (e _ (d _ (by decide))), hr_of b3 (e _ (d _ (by decide))), hr_of b4 (e _ (d _ (by decide))), hr_of b5 (e _ (d _ (by decide))), hr_of b6 (e _ (d _ (by decide))), hr_of b7 (e _ (d _ (by decide))), hr_of b8 (e _ (d _ (by decide)))⟩
theorem air_self (S : Int → Int) (b : Int) : air S b (S b) (S (4 + b)) (S (8 + b)) (S (12 + b)) (S (16 + b)) = S := by
  funext z
  unfold air
  split
  · next h => rw [h]
  · split
    · next h => rw [h]
    · split
      · next h => rw [h]
      · split
        · next h => rw [h]
        · split
          · next h => rw [h]
          · rfl
theorem bur_air {V : Nat → Int → Int} {S : Int → Int} {b b' c r h q m : Int} (h1 : 0 ≤ b) (h2 : b < 4) (n : Nat) : bur V (air S b c r h q m) b' n = bur V S b' n := by
  induction n with
  | zero => rfl
  | succ n ih =>
    have : air S b c r h q m (20 + n) = S (20 + n) := by unfold air; rw [if_neg (by omega), if_neg (by omega), if_neg (by omega), if_neg (by omega), if_neg (by omega)]
    rw [bur, bur, ih, this]
theorem clamp_lo {m x : Int} (h : 0 ≤ m) : 0 ≤ clamp m x := by unfold clamp; split <;> (try split) <;> omega
theorem clamp_hi {m x : Int} (h : 0 ≤ m) : clamp m x ≤ m := by unfold clamp; split <;> (try split) <;> omega
theorem warm_lo {V : Nat → Int → Int} {row col load wide made hot : Int} : 0 ≤ warm V row col load wide made hot := by
  unfold warm; split
  · omega
  · exact clamp_lo (by omega)
theorem warm_hi {V : Nat → Int → Int} {row col load wide made hot : Int} : warm V row col load wide made hot ≤ 99 := by
  unfold warm; split
  · omega
  · exact clamp_hi (by omega)
theorem lead_lo {V : Nat → Int → Int} (h : wfV V) {c r s k : Int} : 0 ≤ lead V c r s k := clamp_lo (by have := h.1; omega)
theorem lead_hi {V : Nat → Int → Int} (h : wfV V) {c r s k : Int} : lead V c r s k < V 0 0 := by
  have h1 := h.1
  have := clamp_hi (m := V 0 0 - 1) (x := c + s + k * V 1 (8 * r + c)) (by omega)
  unfold lead; omega
theorem bur_lo {V : Nat → Int → Int} (h : wfV V) {S : Int → Int} {b : Int} (n : Nat) (hn : n ≤ V 0 3) : 0 ≤ bur V S b n ∧ bur V S b n ≤ 99 * n := by
  induction n with
  | zero => exact ⟨by rw [bur]; omega, by rw [bur]; omega⟩
  | succ n ih =>
    have h6 := h.2.2.2.2.1 n (by omega) (by omega)
    have := ih (by omega)
    rw [bur]
    split <;> omega
section AIR
variable {S : Int → Int} {b c r h q m x : Int}
theorem air_0 : air S b c r h q m b = c := by unfold air; rw [if_pos rfl]
theorem air_4 : air S b c r h q m (4 + b) = r := by unfold air; rw [if_neg (by omega), if_pos rfl]
theorem air_8 : air S b c r h q m (8 + b) = h := by unfold air; rw [if_neg (by omega), if_neg (by omega), if_pos rfl]
theorem air_12 : air S b c r h q m (12 + b) = q := by unfold air; rw [if_neg (by omega), if_neg (by omega), if_neg (by omega), if_pos rfl]
theorem air_16 : air S b c r h q m (16 + b) = m := by unfold air; rw [if_neg (by omega), if_neg (by omega), if_neg (by omega), if_neg (by omega), if_pos rfl]
theorem air_20 {l : Int} (h1 : 0 ≤ b) (h2 : b < 4) (h3 : 0 ≤ l) : air S b c r h q m (20 + l) = S (20 + l) := by unfold air; rw [if_neg (by omega), if_neg (by omega), if_neg (by omega), if_neg (by omega), if_neg (by omega)]
theorem ud_0 : ud (air S b c r h q m) b x = air S b x r h q m := by
  funext z; unfold ud air; split <;> rfl
theorem ud_4 : ud (air S b c r h q m) (4 + b) x = air S b c x h q m := by
  funext z; unfold ud air
  by_cases h4 : z = 4 + b
  · rw [if_pos h4, if_neg (by omega), if_pos h4]
  · rw [if_neg h4, if_neg h4, if_neg h4]
theorem ud_8 : ud (air S b c r h q m) (8 + b) x = air S b c r x q m := by
  funext z; unfold ud air
  by_cases h4 : z = 8 + b
  · rw [if_pos h4, if_neg (by omega), if_neg (by omega), if_pos h4]
  · rw [if_neg h4, if_neg h4, if_neg h4]
theorem ud_12 : ud (air S b c r h q m) (12 + b) x = air S b c r h x m := by
  funext z; unfold ud air
  by_cases h4 : z = 12 + b
  · rw [if_pos h4, if_neg (by omega), if_neg (by omega), if_neg (by omega), if_pos h4]
  · rw [if_neg h4, if_neg h4, if_neg h4]
theorem ud_16 : ud (air S b c r h q m) (16 + b) x = air S b c r h q x := by
  funext z; unfold ud air
  by_cases h4 : z = 16 + b
  · rw [if_pos h4, if_neg (by omega), if_neg (by omega), if_neg (by omega), if_neg (by omega), if_pos h4]
  · rw [if_neg h4, if_neg h4, if_neg h4]
end AIR
theorem hr_up {I : Nat → Nat → Int32} {a : Nat} {n : Int} {F : Int → Int} (h : hr I a n F) {k : Int} (hk : 0 ≤ k) (x : Int) : hr (mm_up I a k.toNat (iN x)) a n (ud F k x) := by
  intro z h1 h2
  rw [up_c, ud]
  by_cases e : z = k
  · rw [if_pos e, if_pos (by omega)]
  · rw [if_neg e, if_neg (by omega)]; exact h z h1 h2
theorem hr_a {I : Nat → Nat → Int32} {a b k : Nat} {n : Int} {F : Int → Int} {x : Int32} (h : hr I a n F) (e : a ≠ b) : hr (mm_up I b k x) a n F := by
  intro z h1 h2
  rw [up_a e]; exact h z h1 h2
theorem nht_lo {V : Nat → Int → Int} {b B c r h m : Int} (h1 : 0 ≤ h) : 0 ≤ nht V b B c r h m ∧ nht V b B c r h m ≤ 99 := by
  have := warm_lo (V := V) (row := r) (col := c) (load := B) (wide := V 3 b) (made := m) (hot := h)
  unfold nht; split <;> omega
theorem clsV_of {V : Nat → Int → Int} {r : Nat} {I I' : Nat → Nat → Int32} (h : clsV V r I) {l : List Nat} (e : ex l I I') (d : ∀ a ∈ [r, r + 1, r + 2, r + 5, r + 6, r + 7, r + 8, r + 9, r + 11], a ∉ l) : clsV V r I' := by
  obtain ⟨⟨a1, a2, a3, a4, a5, a6, a7⟩, ⟨F, b1, b0⟩, b2, b3, b4, b5, b6, b7⟩ := h
  have e1 := e r (d r (by simp))
  have e2 := e (r + 1) (d (r + 1) (by simp))
  refine ⟨⟨by rw [e1]; exact a1, by rw [e1]; exact a2, by rw [e1]; exact a3, by rw [e1]; exact a4, by rw [e1]; exact a5, by rw [e2]; exact a6, by rw [e2]; exact a7⟩, ?_⟩
  exact ⟨⟨F, hr_of b1 (e _ (d _ (by simp))), b0⟩, hr_of b2 (e _ (d _ (by simp))), hr_of b3 (e _ (d _ (by simp))), hr_of b4 (e _ (d _ (by simp))), hr_of b5 (e _ (d _ (by simp))), hr_of b6 (e _ (d _ (by simp))), hr_of b7 (e _ (d _ (by simp)))⟩
theorem clsS_of {V : Nat → Int → Int} {S : Int → Int} {I I' : Nat → Nat → Int32} (h : clsS V S I) (e : I' 32 = I 32) : clsS V S I' := by
  obtain ⟨T, h1, h2⟩ := h
  exact ⟨T, hr_of h1 e, h2⟩
