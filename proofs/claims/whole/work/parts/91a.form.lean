/-! THE FORMULA, as the reference's stack has it, over tokens: F what stands at p, X what comes behind. Codes as the class has them; on the stack 0 is a bracket. 100000 opens, 100001 closes, 100002 is nothing of a formula. -/
def ft (B : Nat → Int) (m p : Nat) : Int :=
  if tK B m p = 2 then tV B m p
  else if tK B m p = 1 then (if tO B m p = 15 then -1 else if tO B m p = 16 then -2 else if tO B m p = 4 then -3 else if tO B m p = 10 then -4 else if tO B m p = 17 then -5 else if tO B m p = 18 then -6 else if tO B m p = 14 then -7 else if tO B m p = 12 then -8 else if tO B m p = 13 then -9 else 100002)
  else if tK B m p = 3 then (if B (tP B m p) = 60 then -10 else if B (tP B m p) = 62 then -11 else if B (tP B m p) = 61 then -12 else if B (tP B m p) = 43 then -13 else if B (tP B m p) = 45 then -14 else if B (tP B m p) = 42 then -15 else if B (tP B m p) = 47 then -16 else if B (tP B m p) = 37 then -17 else if B (tP B m p) = 40 then 100000 else if B (tP B m p) = 41 then 100001 else 100002)
  else 100002
def tg (c : Int) : Int := if c = -8 then 1 else if c = -9 then 2 else if c = -7 then 3 else if c = -10 ∨ c = -11 ∨ c = -12 then 4 else if c = -13 ∨ c = -14 then 5 else 6
def dp (st : List Int) : Nat := match st with
  | [] => 0
  | c :: r => dp r + if c = 0 ∨ c = -7 then 1 else 0
def cls (t : Int) (st out : List Int) : List Int × List Int := match st with
  | [] => ([], out)
  | c :: r => if c = 0 ∨ tg c < t then (c :: r, out) else cls t r (out ++ [c])
def hasR (st : List Int) : Bool := match st with
  | [] => false
  | c :: r => if c = 0 then false else if 4 < tg c then hasR r else decide (tg c = 4)
def mayN (st : List Int) : Bool := match st with
  | [] => true
  | c :: _ => decide (c = 0) || decide (tg c < 4)
def am (F : Nat → Int) (X : Nat → Nat) (n : Nat) (md : Bool) (st out : List Int) (u : Int) (p : Nat) : Option (Nat ⊕ (List Int × Int × Nat)) := match n with
  | 0 => none
  | n + 1 =>
    if md = true then
      (if F p = -7 ∧ mayN st = true then (if 6 < dp st then some (.inl p) else am F X n true (-7 :: st) out u (X p))
       else if F p = 100000 then (if u = 30 ∨ 6 < dp st then some (.inl p) else am F X n true (0 :: st) out (u + 1) (X p))
       else if (F p < -6 ∨ 99999 < F p) ∨ u = 30 then some (.inl p)
       else am F X n false st (out ++ [F p]) (u + 1) (X p))
    else
      (if F p = 100001 ∧ 0 ∈ st then am F X n false (cls 0 st out).1.tail (cls 0 st out).2 u (X p)
       else if (-17 ≤ F p ∧ F p ≤ -8) ∧ ¬ (tg (F p) = 4 ∧ hasR st = true) then am F X n true (F p :: (cls (tg (F p)) st out).1) (cls (tg (F p)) st out).2 u (X p)
       else if 0 ∈ st then some (.inl p) else some (.inr ((cls 0 st out).2, u, p)))
/-- below this a level's closing doesn't reach -/
def low (t : Int) (st : List Int) : Prop := match st with
  | [] => True
  | c :: _ => c = 0 ∨ tg c < t
def pis (t : Int) (l : List Int) : Prop := ∀ c ∈ l, (-17 ≤ c ∧ c ≤ -7) ∧ t ≤ tg c
theorem tg_in (c : Int) : 1 ≤ tg c ∧ tg c ≤ 6 := by
  unfold tg
  repeat' split
  all_goals omega
theorem cls_app {t : Int} {st : List Int} (hl : low t st) : ∀ (l out : List Int), pis t l → cls t (l ++ st) out = (st, out ++ l) := by
  intro l
  induction l with
  | nil =>
    intro out _
    rw [List.nil_append, List.append_nil]
    cases st with
    | nil => rfl
    | cons c r => rw [cls, if_pos (show c = 0 ∨ tg c < t from hl)]
  | cons c l ih =>
    intro out h
    have hc := h c (by simp)
    rw [List.cons_append, cls, if_neg (by omega), ih _ (fun x hx => h x (by simp [hx])), List.append_assoc]
    rfl
theorem hasR_app {st : List Int} (hl : low 4 st) : ∀ l : List Int, pis 5 l → hasR (l ++ st) = false := by
  intro l
  induction l with
  | nil =>
    intro _
    cases st with
    | nil => rfl
    | cons c r =>
      rw [List.nil_append, hasR]
      by_cases h0 : c = 0
      · rw [if_pos h0]
      · have hl' : tg c < 4 := by
          rcases hl with h | h
          · exact absurd h h0
          · exact h
        rw [if_neg h0, if_neg (by omega), decide_eq_false (by omega)]
  | cons c l ih =>
    intro h
    have hc := h c (by simp)
    rw [List.cons_append, hasR, if_neg (by omega), if_pos (by omega)]
    exact ih (fun x hx => h x (by simp [hx]))
theorem hasR_rel {st : List Int} {c : Int} (hc : tg c = 4) (h0 : ¬ c = 0) : ∀ l : List Int, pis 5 l → hasR (l ++ c :: st) = true := by
  intro l
  induction l with
  | nil =>
    intro _
    rw [List.nil_append, hasR, if_neg h0, if_neg (by omega), decide_eq_true hc]
  | cons d l ih =>
    intro h
    have hc := h d (by simp)
    rw [List.cons_append, hasR, if_neg (by omega), if_pos (by omega)]
    exact ih (fun x hx => h x (by simp [hx]))
theorem mayN_low {st : List Int} (h : low 4 st) : mayN st = true := by
  cases st with
  | nil => rfl
  | cons c r =>
    unfold mayN
    rcases h with h | h <;> simp [h]
theorem low_mono {s t : Int} {st : List Int} (h : low s st) (hst : s ≤ t) : low t st := by
  cases st with
  | nil => trivial
  | cons c r => rcases h with h | h
                · exact Or.inl h
                · exact Or.inr (by omega)
theorem pis_mono {s t : Int} {l : List Int} (h : pis t l) (hst : s ≤ t) : pis s l := fun c hc => ⟨(h c hc).1, by have := (h c hc).2; omega⟩
theorem pis_snoc {t : Int} {l : List Int} {c : Int} (h : pis t l) (hc : (-17 ≤ c ∧ c ≤ -7) ∧ t ≤ tg c) : pis t (l ++ [c]) := by
  intro x hx
  rcases List.mem_append.mp hx with h1 | h1
  · exact h x h1
  · rw [List.mem_singleton] at h1; rw [h1]; exact hc
theorem pis_no0 {t : Int} {l : List Int} (h : pis t l) : ¬ 0 ∈ l := fun h0 => by have := (h 0 h0).1; omega
theorem dp_app (l st : List Int) : dp (l ++ st) = dp l + dp st := by
  induction l with
  | nil => rw [List.nil_append]; show dp st = 0 + dp st; omega
  | cons c l ih => rw [List.cons_append, dp, dp, ih]; omega
/-! The codes are in order, d numbers lie on the stack behind them. -/
def lV (out : List Int) : (Nat → Int → Int) := fun _ z => out.getD z.toNat 0
def okz (V : (Nat → Int → Int)) (z : Nat) : Prop := -17 ≤ V 7 z ∧ V 7 z ≤ 9999 ∧ 0 ≤ fdep V z ∧ fdep V z ≤ 30 ∧ (V 7 z < -7 → 2 ≤ fdep V z) ∧ (V 7 z = -7 → 1 ≤ fdep V z) ∧ (-7 < V 7 z → fdep V z < 30)
def okc (out : List Int) (d : Int) : Prop := (∀ z : Nat, z < out.length → okz (lV out) z) ∧ fdep (lV out) out.length = d
theorem fdep_c {V V' : (Nat → Int → Int)} {z : Nat} (h : ∀ i : Nat, i < z → V 7 i = V' 7 i) : fdep V z = fdep V' z := by
  induction z with
  | zero => rfl
  | succ z ih => rw [fdep, fdep, ih (fun i hi => h i (by omega)), h z (by omega)]
theorem lV_l {out : List Int} {c : Int} {i : Nat} (h : i < out.length) : lV (out ++ [c]) 7 i = lV out 7 i := by
  show (out ++ [c]).getD (i : Int).toNat 0 = out.getD (i : Int).toNat 0
  rw [gd_l (by omega)]
theorem lV_r {out : List Int} {c : Int} : lV (out ++ [c]) 7 (out.length : Nat) = c := by
  show (out ++ [c]).getD ((out.length : Nat) : Int).toNat 0 = c
  rw [gd_r (by omega)]
theorem okc_snoc {out : List Int} {d c d' : Int} (h : okc out d) (hc : -17 ≤ c ∧ c ≤ 9999) (hd : 0 ≤ d ∧ d ≤ 30) (h2 : c < -7 → 2 ≤ d) (h1 : c = -7 → 1 ≤ d) (h3 : -7 < c → d < 30) (e : d' = if c < -6 then (if c = -7 then d else d - 1) else d + 1) : okc (out ++ [c]) d' := by
  obtain ⟨a, b⟩ := h
  have b' : fdep (lV (out ++ [c])) out.length = d := by rw [← b]; exact fdep_c (fun i hi => lV_l hi)
  refine ⟨fun z hz => ?_, ?_⟩
  · rw [List.length_append] at hz
    have hz : z < out.length + 1 := hz
    by_cases hzl : z < out.length
    · have := a z hzl
      unfold okz at this ⊢
      rw [lV_l hzl, fdep_c (fun i hi => lV_l (show i < out.length by omega))]
      exact this
    · have hzl : z = out.length := by omega
      subst hzl
      unfold okz
      rw [lV_r, b']
      exact ⟨hc.1, hc.2, hd.1, hd.2, h2, h1, h3⟩
  · rw [List.length_append]
    show fdep (lV (out ++ [c])) (out.length + 1) = d'
    rw [fdep, lV_r, b', e]
/-- units u, d on the stack, no more than 9 codes a unit -/
def gd (out : List Int) (u d : Int) : Prop := (0 ≤ u ∧ u ≤ 30) ∧ (out.length : Int) ≤ 9 * u ∧ okc out d ∧ 0 ≤ d ∧ d ≤ u
theorem gd_opd {out : List Int} {u d c : Int} (h : gd out u d) (hu : u < 30) (hc : -6 ≤ c ∧ c ≤ 9999) : gd (out ++ [c]) (u + 1) (d + 1) := by
  obtain ⟨h1, h2, h3, h4, h5⟩ := h
  refine ⟨by omega, by rw [List.length_append]; show ((out.length + 1 : Nat) : Int) ≤ _; omega, ?_, by omega, by omega⟩
  exact okc_snoc h3 (by omega) (by omega) (fun _ => by omega) (fun _ => by omega) (fun _ => by omega) (by rw [if_neg (by omega)])
theorem gd_bin {out : List Int} {u d c : Int} (h : gd out u (d + 2)) (hd : 0 ≤ d) (hl : (out.length : Int) + 1 ≤ 9 * u) (hc : -17 ≤ c ∧ c ≤ -8) : gd (out ++ [c]) u (d + 1) := by
  obtain ⟨h1, h2, h3, h4, h5⟩ := h
  refine ⟨h1, by rw [List.length_append]; show ((out.length + 1 : Nat) : Int) ≤ _; omega, ?_, by omega, by omega⟩
  exact okc_snoc h3 (by omega) (by omega) (fun _ => by omega) (fun _ => by omega) (fun _ => by omega) (by rw [if_pos (by omega), if_neg (by omega)]; omega)
theorem gd_not {out : List Int} {u d : Int} (h : gd out u (d + 1)) (hd : 0 ≤ d) (hl : (out.length : Int) + 1 ≤ 9 * u) : gd (out ++ [-7]) u (d + 1) := by
  obtain ⟨h1, h2, h3, h4, h5⟩ := h
  refine ⟨h1, by rw [List.length_append]; show ((out.length + 1 : Nat) : Int) ≤ _; omega, ?_, by omega, by omega⟩
  exact okc_snoc h3 (by omega) (by omega) (fun _ => by omega) (fun _ => by omega) (fun _ => by omega) (by rw [if_pos (by omega), if_pos rfl])
/-! What stands at p, by its kind -/
section FTK
variable {B : Nat → Int} {m p : Nat}
theorem ft_in (h : tK B m p = 4 ∨ tK B m p = 0) : ft B m p = 100002 := by unfold ft; rw [if_neg (by omega), if_neg (by omega), if_neg (by omega)]
theorem ft_k (h : ¬ ft B m p = 100002) : tK B m p = 1 ∨ tK B m p = 2 ∨ tK B m p = 3 := by
  have h1 : tK B m p = 0 ∨ tK B m p = 1 ∨ tK B m p = 2 ∨ tK B m p = 3 ∨ tK B m p = 4 := tKq_in
  rcases h1 with h2 | h2 | h2 | h2 | h2
  · exact absurd (ft_in (Or.inr h2)) h
  · exact Or.inl h2
  · exact Or.inr (Or.inl h2)
  · exact Or.inr (Or.inr h2)
  · exact absurd (ft_in (Or.inl h2)) h
theorem tval_in : ∀ l : List Int, (∀ a ∈ l, 48 ≤ a ∧ a ≤ 57) → 0 ≤ tval l ∧ tval l < 10 ^ l.length := by
  intro l
  induction l using snoc_ind with
  | h0 => intro _; exact ⟨Int.le_refl 0, by decide⟩
  | h1 l x ih =>
    intro h
    have hx := h x (by simp)
    obtain ⟨i1, i2⟩ := ih (fun a ha => h a (by simp [ha]))
    rw [tval_s, List.length_append]
    show 0 ≤ 10 * tval l + (x - 48) ∧ 10 * tval l + (x - 48) < 10 ^ (l.length + 1)
    rw [Int.pow_succ]
    omega
theorem tV_in (h : tK B m p = 2) : 0 ≤ tV B m p ∧ tV B m p ≤ 9999 := by
  unfold tK tKq at h
  by_cases h0 : m ≤ tP B m p
  · rw [if_pos h0] at h; omega
  rw [if_neg h0] at h
  by_cases h1 : tlet (B (tP B m p)) = true
  · rw [if_pos h1] at h
    split at h <;> omega
  rw [if_neg h1] at h
  by_cases h2 : tdig (B (tP B m p)) = true
  · rw [if_pos h2] at h
    by_cases h3 : 4 < tL tdig B m (tP B m p)
    · rw [if_pos h3] at h; omega
    · have := tval_in (tlst B (tL tdig B m (tP B m p)) (tP B m p)) (fun a ha => by
        unfold tlst at ha
        obtain ⟨j, hj, rfl⟩ := List.mem_map.mp ha
        have := tL_at (List.mem_range.mp hj)
        unfold tdig at this
        simpa using this)
      rw [tlst_len] at this
      have h5 : (10 : Int) ^ tL tdig B m (tP B m p) ≤ 10 ^ 4 := ipow_le (by omega) (by omega)
      have h6 : (10 : Int) ^ 4 = 10000 := by decide
      unfold tV
      omega
  · rw [if_neg h2] at h
    split at h <;> omega
theorem ft_num (h : tK B m p = 2) : ft B m p = tV B m p := by unfold ft; rw [if_pos h]
theorem ft_bd : -17 ≤ ft B m p ∧ ft B m p ≤ 100002 := by
  unfold ft
  by_cases h : tK B m p = 2
  · rw [if_pos h]; have := tV_in h; omega
  · rw [if_neg h]
    repeat' split
    all_goals omega
theorem ft_lt (hp : p ≤ m) (h : ¬ ft B m p = 100002) : p < tN B m p ∧ tN B m p ≤ m ∧ p < m := by
  have h1 := tN_in (B := B) hp
  have h2 := ft_k h
  have h3 := h1.2.2 (by omega)
  have := tP_in (B := B) hp
  omega
end FTK
