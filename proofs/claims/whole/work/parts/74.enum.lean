/-! Loops; numbers as rows of digits, in their order; the first least of a list. -/
theorem loop {σ ρ : Type} (L : Nat → Int → σ → Option ρ) (N : Nat) {P : Int} (Inv : Int → σ → Prop)
    (step : ∀ n k s, N ≤ n → 0 ≤ k → k < P → Inv k s → ∃ s', L (n + 1) k s = L n (k + 1) s' ∧ Inv (k + 1) s') :
    ∀ (d n : Nat) (k : Int) (s : σ), 0 ≤ k → k + d = P → Inv k s → N + d ≤ n → ∃ n' s', N ≤ n' ∧ L n k s = L n' P s' ∧ Inv P s' := by
  intro d
  induction d with
  | zero =>
    intro n k s h0 hk h hn
    have e : k = P := by omega
    subst e
    exact ⟨n, s, by omega, rfl, h⟩
  | succ d ih =>
    intro n k s h0 hk h hn
    obtain ⟨n, rfl⟩ : ∃ n', n = n' + 1 := ⟨n - 1, by omega⟩
    obtain ⟨s1, e1, i1⟩ := step n k s (by omega) h0 (by omega) h
    obtain ⟨n2, s2, a, b, c⟩ := ih n (k + 1) s1 (by omega) (by omega) i1 (by omega)
    exact ⟨n2, s2, a, by rw [e1, b], c⟩
theorem n10 : ¬ iN 1 = iN 0 := by decide
theorem n01 : ¬ iN 0 = iN 1 := by decide
theorem ite_p {α : Type} {p : Prop} {d : Decidable p} (h : p) {a b : α} : @ite α p d a b = a := if_pos h
theorem ite_n {α : Type} {p : Prop} {d : Decidable p} (h : ¬ p) {a b : α} : @ite α p d a b = b := if_neg h
theorem iN_ir (a : Int) : ¬ iN a < iN a := by rw [Int32.lt_iff_toInt_lt]; omega
def dig (d : Nat) (n : Nat) (k : Nat) : List Int := match n with
  | 0 => []
  | n + 1 => dig d n (k / d) ++ [((k % d : Nat) : Int)]
def lex (d : Nat) (n : Nat) : List (List Int) := match n with
  | 0 => [[]]
  | n + 1 => (List.range d).flatMap (fun (a : Nat) => (lex d n).map (fun t => (a : Int) :: t))
theorem dig_len (d n k : Nat) : (dig d n k).length = n := by
  induction n generalizing k with
  | zero => rfl
  | succ n ih => rw [dig, List.length_append, ih]; rfl
theorem dig_cons {d : Nat} (hd : 0 < d) (n : Nat) : ∀ {a b : Nat}, a < d → b < d ^ n → dig d (n + 1) (a * d ^ n + b) = (a : Int) :: dig d n b := by
  induction n with
  | zero =>
    intro a b ha hb
    have : b = 0 := by rw [Nat.pow_zero] at hb; omega
    subst this
    show [] ++ [(((a * d ^ 0 + 0) % d : Nat) : Int)] = [(a : Int)]
    rw [Nat.pow_zero, Nat.mul_one, Nat.add_zero, Nat.mod_eq_of_lt ha]; rfl
  | succ n ih =>
    intro a b ha hb
    have e1 : (a * d ^ (n + 1) + b) / d = a * d ^ n + b / d := by
      rw [Nat.pow_succ, ← Nat.mul_assoc, Nat.add_comm, Nat.add_mul_div_right _ _ hd, Nat.add_comm]
    have e2 : (a * d ^ (n + 1) + b) % d = b % d := by
      rw [Nat.pow_succ, ← Nat.mul_assoc, Nat.add_comm, Nat.add_mul_mod_self_right]
    have h3 : b / d < d ^ n := by
      rw [Nat.div_lt_iff_lt_mul hd, ← Nat.pow_succ]; exact hb
    rw [dig, e1, e2, ih ha h3]
    rfl
theorem range_mul (d m : Nat) : List.range (d * m) = (List.range d).flatMap (fun a => (List.range m).map (fun b => a * m + b)) := by
  induction d with
  | zero => simp
  | succ d ih => rw [Nat.succ_mul, List.range_add, ih, List.range_succ, List.flatMap_append]; simp
theorem flat_congr {α β : Type} {f g : α → List β} : ∀ (l : List α), (∀ a ∈ l, f a = g a) → l.flatMap f = l.flatMap g := by
  intro l
  induction l with
  | nil => intro _; rfl
  | cons a l ih => intro h; rw [List.flatMap_cons, List.flatMap_cons, h a (List.mem_cons_self ..), ih (fun x hx => h x (List.mem_cons_of_mem _ hx))]
theorem lex_eq {d : Nat} (hd : 0 < d) (n : Nat) : (List.range (d ^ n)).map (dig d n) = lex d n := by
  induction n with
  | zero => rfl
  | succ n ih =>
    rw [Nat.pow_succ, Nat.mul_comm, range_mul, List.map_flatMap, lex]
    apply flat_congr
    intro a ha
    rw [List.map_map, ← ih, List.map_map]
    apply List.map_congr_left
    intro b hb
    exact dig_cons hd n (List.mem_range.mp ha) (List.mem_range.mp hb)
theorem dig_mem {d : Nat} (hd : 0 < d) (n k : Nat) : ∀ a ∈ dig d n k, 0 ≤ a ∧ a < d := by
  induction n generalizing k with
  | zero => intro a h; cases h
  | succ n ih =>
    intro a h
    rw [dig, List.mem_append] at h
    rcases h with h | h
    · exact ih _ a h
    · rw [List.mem_singleton] at h
      have := Nat.mod_lt k hd
      omega
theorem lex_mem {d : Nat} (n : Nat) : ∀ t ∈ lex d n, t.length = n ∧ ∀ a ∈ t, 0 ≤ a ∧ a < d := by
  induction n with
  | zero => intro t h; rw [lex, List.mem_singleton] at h; subst h; exact ⟨rfl, by intro a h; cases h⟩
  | succ n ih =>
    intro t h
    rw [lex, List.mem_flatMap] at h
    obtain ⟨a, ha, h⟩ := h
    rw [List.mem_map] at h
    obtain ⟨t', ht, rfl⟩ := h
    obtain ⟨h1, h2⟩ := ih t' ht
    refine ⟨by rw [List.length_cons, h1], ?_⟩
    intro x hx
    rw [List.mem_cons] at hx
    rcases hx with rfl | hx
    · have := List.mem_range.mp ha; omega
    · exact h2 x hx
/-- the rows of 0, 1, 2 one longer -/
theorem lex3 (n : Nat) : lex 3 (n + 1) = (lex 3 n).map (fun t => (0 : Int) :: t) ++ ((lex 3 n).map (fun t => (1 : Int) :: t) ++ (lex 3 n).map (fun t => (2 : Int) :: t)) := by
  rw [lex, show List.range 3 = [0, 1, 2] from rfl]
  simp
/-- the least by f, the first of such, with it -/
def fm {α : Type} (f : α → Option Int) (x : Option (Int × α)) (t : α) : Option (Int × α) := match f t with
  | none => x
  | some v => match x with
    | none => some (v, t)
    | some (w, s) => if v < w then some (v, t) else some (w, s)
def fmin {α : Type} (f : α → Option Int) (x : Option (Int × α)) (l : List α) : Option (Int × α) := l.foldl (fm f) x
theorem fmin_app {α : Type} (f : α → Option Int) (x : Option (Int × α)) (l l' : List α) : fmin f x (l ++ l') = fmin f (fmin f x l) l' := List.foldl_append ..
theorem fmin_map {α β : Type} (f : α → Option Int) (g : β → α) (x : Option (Int × α)) (l : List β) : fmin f x (l.map g) = l.foldl (fun x t => fm f x (g t)) x := by
  rw [fmin, List.foldl_map]
theorem fmin_keep {α : Type} (f : α → Option Int) (w : Int) (s : α) (l : List α) (h : ∀ t ∈ l, ∀ v, f t = some v → w ≤ v) : fmin f (some (w, s)) l = some (w, s) := by
  induction l with
  | nil => rfl
  | cons t l ih =>
    have h1 : fm f (some (w, s)) t = some (w, s) := by
      rw [fm]
      split
      · rfl
      · next v hv =>
        have := h t (List.mem_cons_self ..) v hv
        show (if v < w then _ else _) = _
        rw [if_neg (by omega)]
    show fmin f (fm f (some (w, s)) t) l = _
    rw [h1]
    exact ih (fun t ht => h t (List.mem_cons_of_mem _ ht))
theorem fmin_none {α : Type} (f : α → Option Int) (x : Option (Int × α)) (l : List α) (h : ∀ t ∈ l, f t = none) : fmin f x l = x := by
  induction l generalizing x with
  | nil => rfl
  | cons t l ih =>
    have h1 : fm f x t = x := by rw [fm, h t (List.mem_cons_self ..)]
    show fmin f (fm f x t) l = _
    rw [h1]
    exact ih x (fun t ht => h t (List.mem_cons_of_mem _ ht))
theorem fmin_congr {α : Type} (f g : α → Option Int) (x : Option (Int × α)) (l : List α) (h : ∀ t ∈ l, f t = g t) : fmin f x l = fmin g x l := by
  induction l generalizing x with
  | nil => rfl
  | cons t l ih =>
    have h1 : fm f x t = fm g x t := by rw [fm, fm, h t (List.mem_cons_self ..)]
    show fmin f (fm f x t) l = fmin g (fm g x t) l
    rw [h1]
    exact ih _ (fun t ht => h t (List.mem_cons_of_mem _ ht))
/-- what is found is one of the list, or what was there -/
theorem fmin_mem {α : Type} (f : α → Option Int) (x : Option (Int × α)) (l : List α) (w : Int) (s : α) (h : fmin f x l = some (w, s)) : x = some (w, s) ∨ (s ∈ l ∧ f s = some w) := by
  induction l generalizing x with
  | nil => exact Or.inl h
  | cons t l ih =>
    have := ih (fm f x t) h
    rcases this with h1 | ⟨h1, h2⟩
    · rw [fm] at h1
      split at h1
      · exact Or.inl h1
      · next v hv =>
        split at h1
        · injection h1 with h1
          injection h1 with h2 h3
          subst h2 h3
          exact Or.inr ⟨List.mem_cons_self .., hv⟩
        · split at h1
          · injection h1 with h1
            injection h1 with h2 h3
            subst h2 h3
            exact Or.inr ⟨List.mem_cons_self .., hv⟩
          · exact Or.inl h1
    · exact Or.inr ⟨List.mem_cons_of_mem _ h1, h2⟩
/-- what comes of a row of steers (0, 1, 2 for -1, 0, 1): column, heat, scorches -/
def run (V : (Nat → Int → Int)) (b B : Int) (t : List Int) (c r h q m : Int) : Option (Int × Int × Int) := match t with
  | [] => some (c, h, q)
  | a :: t => if V 2 (8 * (r + 1) + lead V c r (a - 1) 1) = 1 then none else run V b B t (lead V c r (a - 1) 1) (r + 1) (if V 5 b < nht V b B c r h m then 0 else nht V b B c r h m) (if V 5 b < nht V b B c r h m then q + 1 else q) (m + 1)
/-- the column alone -/
def rc (V : (Nat → Int → Int)) (t : List Int) (c r : Int) : Option Int := match t with
  | [] => some c
  | a :: t => if V 2 (8 * (r + 1) + lead V c r (a - 1) 1) = 1 then none else rc V t (lead V c r (a - 1) 1) (r + 1)
theorem run_rc (V : (Nat → Int → Int)) (b B : Int) (t : List Int) : ∀ (c r h q m : Int), (run V b B t c r h q m).map (fun x => x.1) = rc V t c r := by
  induction t with
  | nil => intro c r h q m; rfl
  | cons a t ih =>
    intro c r h q m
    rw [run, rc]
    split
    · rfl
    · exact ih _ _ _ _ _
theorem rc_in {V : (Nat → Int → Int)} (hw : wfV V) (t : List Int) : ∀ {c r x : Int}, 0 ≤ c → c < V 0 0 → rc V t c r = some x → 0 ≤ x ∧ x < V 0 0 := by
  induction t with
  | nil => intro c r x h1 h2 h; rw [rc] at h; injection h with h; omega
  | cons a t ih =>
    intro c r x h1 h2 h
    rw [rc] at h
    split at h
    · cases h
    · exact ih (lead_lo hw) (lead_hi hw) h
theorem run_in {V : (Nat → Int → Int)} (hw : wfV V) {b B : Int} (t : List Int) : ∀ {c r h q m c' h' q' : Int}, 0 ≤ c → c < V 0 0 → 0 ≤ h → h ≤ 99 → run V b B t c r h q m = some (c', h', q') → 0 ≤ c' ∧ c' < V 0 0 ∧ 0 ≤ h' ∧ h' ≤ 99 ∧ q ≤ q' ∧ q' ≤ q + t.length := by
  induction t with
  | nil => intro c r h q m c' h' q' h1 h2 h3 h4 e; rw [run] at e; injection e with e; injection e with e1 e; injection e with e2 e3; subst e1 e2 e3; simp only [List.length_nil]; omega
  | cons a t ih =>
    intro c r h q m c' h' q' h1 h2 h3 h4 e
    rw [run] at e
    split at e
    · cases e
    · have hn := nht_lo (V := V) (b := b) (B := B) (c := c) (r := r) (m := m) h3
      have := ih (lead_lo hw) (lead_hi hw) (by split <;> omega) (by split <;> omega) e
      rw [List.length_cons]
      split at this <;> omega
