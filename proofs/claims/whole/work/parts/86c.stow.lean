/-! Stowing: the reference. -/
def mem (X : Int32) (n : Nat) : Int := match n with
  | 0 => 0
  | n + 1 => mem X n + (if bit X n = true then 1 else 0)
theorem mem_in (X : Int32) (n : Nat) : 0 ≤ mem X n ∧ mem X n ≤ n := by
  induction n with
  | zero => simp [mem]
  | succ n ih => rw [mem]; split <;> omega
theorem rf_mem (X : Int32) {n : Nat} (hn : 12 ≤ n) : fX12_members n X = some (iN (mem X 8)) := by
  obtain ⟨n', s, q1, q2, q3⟩ := loop (fun n k s => fX12_members_L4 n X (iN s) (iN k)) 1 (P := 8) (fun k s => s = mem X k.toNat)
    (by
      intro n k s hn k0 k1 hs
      refine ⟨_, ?_, rfl⟩
      show fX12_members_L4 (n + 1) _ _ _ = _
      rw [fX12_members_L4, hs, show (k + 1).toNat = k.toNat + 1 by omega, mem, show ((k.toNat : Nat) : Int) = k by omega]
      simp (disch := omega) only [iN_lit, iN_add, iN_sub, iN_mul, iN_neg, iN_lt, iN_eq, iN_tn, if_true, if_false, if_pos, if_neg, iN_31, bit_shr]
      by_cases e : bit X k = true
      · rw [if_pos e, if_pos e, iN_add]
      · rw [if_neg e, if_neg e, iN_add]) 8 n 0 0 (by omega) (by omega) rfl (by omega)
  rw [fX12_members]
  simp only [iN_lit]
  have q2' : fX12_members_L4 n X (iN 0) (iN 0) = fX12_members_L4 n' X (iN s) (iN 8) := q2
  rw [q2']
  obtain ⟨n', rfl⟩ : ∃ m, n' = m + 1 := ⟨n' - 1, by omega⟩
  rw [fX12_members_L4]
  simp (disch := omega) only [iN_lit, iN_add, iN_sub, iN_mul, iN_neg, iN_lt, iN_eq, iN_tn, if_true, if_false, if_pos, if_neg, Option.bind_some]
  rw [q3]
  rfl
def use (S : Int → Int) (t : List Int) (l b : Int) : Bool := match t with
  | [] => false
  | a :: t => (decide (S (20 + l) = -1) && decide (a = b)) || use S t (l + 1) b
def sm (V : (Nat → Int → Int)) (S : Int → Int) (t : List Int) (l b : Int) : Int := match t with
  | [] => 0
  | a :: t => (if S (20 + l) = -1 ∧ a = b then V 6 l else 0) + sm V S t (l + 1) b
def okB (S : Int → Int) (B : Int) (t : List Int) (l : Int) : Bool := match t with
  | [] => true
  | a :: t => (if S (20 + l) = -1 then decide (a < B) else decide (a = 0)) && okB S B t (l + 1)
def chk (V : (Nat → Int → Int)) (S R : Int → Int) (t : List Int) (l b : Int) : Bool := !use S t l b || decide (sm V S t l b ≤ R b)
def cub (S H : Int → Int) (t : List Int) (l b : Int) : Int := if H b = 0 ∧ use S t l b = true then 1 else 0
def vR (V : (Nat → Int → Int)) (S : Int → Int) (B : Int) (R H : Int → Int) (l : Int) (t : List Int) : Option Int := match t with
  | [] => some 0
  | a :: t => if S (20 + l) = -1 then (if a < B ∧ V 6 l ≤ R a then (vR V S B (ud R a (R a - V 6 l)) (ud H a (H a + 1)) (l + 1) t).map (fun v => v + (if H a = 0 then 1 else 0)) else none) else (if a = 0 then vR V S B R H (l + 1) t else none)
theorem sm_in {V : (Nat → Int → Int)} (hw : wfV V) {S : Int → Int} (t : List Int) (b : Int) : ∀ l : Int, 0 ≤ l → l + t.length ≤ V 0 3 → 0 ≤ sm V S t l b ∧ (use S t l b = false → sm V S t l b = 0) := by
  induction t with
  | nil => intro l _ _; exact ⟨by rw [sm]; omega, fun _ => rfl⟩
  | cons a t ih =>
    intro l h1 h2
    rw [List.length_cons] at h2
    have := ih (l + 1) (by omega) (by omega)
    have h6 := hw.2.2.2.2.1 l h1 (by omega)
    rw [sm, use]
    constructor
    · split <;> omega
    · intro h
      rw [Bool.or_eq_false_iff] at h
      have h3 := this.2 h.2
      rw [if_neg, h3]
      · rfl
      · rintro ⟨e1, e2⟩
        have := h.1
        rw [e1] at this
        simp [e2] at this
section STO
variable {V : (Nat → Int → Int)} {S : Int → Int}
theorem chk_eq (hw : wfV V) {R : Int → Int} {a l : Int} {t : List Int} (hn : S (20 + l) = -1) (h1 : 0 ≤ l) (h2 : l + 1 + t.length ≤ V 0 3) : chk V S R (a :: t) l a = true ↔ V 6 l ≤ R a ∧ chk V S (ud R a (R a - V 6 l)) t (l + 1) a = true := by
  have hs := sm_in hw (S := S) t a (l + 1) (by omega) (by omega)
  unfold chk
  rw [use, sm, hn, if_pos ⟨rfl, rfl⟩, ud, if_pos rfl]
  cases e : use S t (l + 1) a with
  | false =>
    have := hs.2 e
    simp [this]
  | true =>
    simp
    omega
theorem chk_ne {R : Int → Int} {a b l x : Int} {t : List Int} (hab : ¬ b = a) : chk V S R (a :: t) l b = chk V S (ud R a x) t (l + 1) b := by
  unfold chk
  rw [use, sm, if_neg (fun hh => hab hh.2.symm), ud, if_neg hab, Int.zero_add]
  have : decide (a = b) = false := by rw [decide_eq_false_iff_not]; exact fun h => hab h.symm
  rw [this, Bool.and_false, Bool.false_or]
theorem chk_far {R : Int → Int} {a b l : Int} {t : List Int} (hn : ¬ S (20 + l) = -1) : chk V S R (a :: t) l b = chk V S R t (l + 1) b := by
  unfold chk
  have : decide (S (20 + l) = -1) = false := by rw [decide_eq_false_iff_not]; exact hn
  rw [use, sm, if_neg (fun hh => hn hh.1), this, Bool.false_and, Bool.false_or, Int.zero_add]
theorem cub_eq {H : Int → Int} {a l : Int} {t : List Int} (hn : S (20 + l) = -1) (hH : 0 ≤ H a) : cub S H (a :: t) l a = (if H a = 0 then 1 else 0) ∧ cub S (ud H a (H a + 1)) t (l + 1) a = 0 := by
  unfold cub
  have : use S (a :: t) l a = true := by rw [use, hn]; simp
  rw [this]
  constructor
  · by_cases e : H a = 0
    · rw [if_pos ⟨e, rfl⟩, if_pos e]
    · rw [if_neg (fun hh => e hh.1), if_neg e]
  · rw [if_neg]
    rintro ⟨h, _⟩
    rw [ud, if_pos rfl] at h
    omega
theorem cub_ne {H : Int → Int} {a b l x : Int} {t : List Int} (hab : ¬ b = a) : cub S H (a :: t) l b = cub S (ud H a x) t (l + 1) b := by
  unfold cub
  have : decide (a = b) = false := by rw [decide_eq_false_iff_not]; exact fun h => hab h.symm
  rw [use, this, Bool.and_false, Bool.false_or, ud, if_neg hab]
theorem cub_far {H : Int → Int} {a b l : Int} {t : List Int} (hn : ¬ S (20 + l) = -1) : cub S H (a :: t) l b = cub S H t (l + 1) b := by
  unfold cub
  have : decide (S (20 + l) = -1) = false := by rw [decide_eq_false_iff_not]; exact hn
  rw [use, this, Bool.false_and, Bool.false_or]
theorem vR_eq (hw : wfV V) {B : Int} (t : List Int) : ∀ (R H : Int → Int) (l : Int), 0 ≤ l → l + t.length ≤ V 0 3 → (∀ a ∈ t, 0 ≤ a ∧ a < 4) → (∀ b : Int, 0 ≤ H b) →
    vR V S B R H l t = if okB S B t l = true ∧ chk V S R t l 0 = true ∧ chk V S R t l 1 = true ∧ chk V S R t l 2 = true ∧ chk V S R t l 3 = true then some (cub S H t l 0 + cub S H t l 1 + cub S H t l 2 + cub S H t l 3) else none := by
  induction t with
  | nil =>
    intro R H l _ _ _ _
    rw [vR, if_pos ⟨rfl, rfl, rfl, rfl, rfl⟩]
    have : ∀ b, cub S H [] l b = 0 := by intro b; unfold cub; rw [if_neg (fun hh => by have := hh.2; rw [use] at this; cases this)]
    rw [this, this, this, this]; rfl
  | cons a t ih =>
    intro R H l h1 h2 h3 h4
    rw [List.length_cons] at h2
    have ha := h3 a (List.mem_cons_self ..)
    have h3' : ∀ a ∈ t, 0 ≤ a ∧ a < 4 := fun x hx => h3 x (List.mem_cons_of_mem _ hx)
    rw [vR]
    by_cases en : S (20 + l) = -1
    · rw [if_pos en]
      have ok : okB S B (a :: t) l = (decide (a < B) && okB S B t (l + 1)) := by rw [okB, if_pos en]
      have ce := chk_eq hw (R := R) (a := a) (t := t) en h1 (by omega)
      have cc := cub_eq (H := H) (a := a) (t := t) en (h4 a)
      have H' : ∀ b : Int, 0 ≤ ud H a (H a + 1) b := by intro b; have := h4 b; have := h4 a; unfold ud; split <;> omega
      rw [ih _ _ (l + 1) (by omega) (by omega) h3' H', ok]
      have : a = 0 ∨ a = 1 ∨ a = 2 ∨ a = 3 := by omega
      by_cases hc : a < B ∧ V 6 l ≤ R a
      · rw [if_pos hc]
        have hB : decide (a < B) = true := decide_eq_true hc.1
        rw [hB, Bool.true_and]
        rcases this with rfl | rfl | rfl | rfl
        · rw [chk_ne (R := R) (a := 0) (b := 1) (x := R 0 - V 6 l) (by omega), chk_ne (R := R) (a := 0) (b := 2) (x := R 0 - V 6 l) (by omega), chk_ne (R := R) (a := 0) (b := 3) (x := R 0 - V 6 l) (by omega), cub_ne (H := H) (a := 0) (b := 1) (x := H 0 + 1) (by omega), cub_ne (H := H) (a := 0) (b := 2) (x := H 0 + 1) (by omega), cub_ne (H := H) (a := 0) (b := 3) (x := H 0 + 1) (by omega), cc.1]
          simp only [ce, hc.2, true_and, cc.2]
          generalize (if H 0 = 0 then (1 : Int) else 0) = y
          split
          · show some (_ + y) = some _; congr 1; omega
          · rfl
        · rw [chk_ne (R := R) (a := 1) (b := 0) (x := R 1 - V 6 l) (by omega), chk_ne (R := R) (a := 1) (b := 2) (x := R 1 - V 6 l) (by omega), chk_ne (R := R) (a := 1) (b := 3) (x := R 1 - V 6 l) (by omega), cub_ne (H := H) (a := 1) (b := 0) (x := H 1 + 1) (by omega), cub_ne (H := H) (a := 1) (b := 2) (x := H 1 + 1) (by omega), cub_ne (H := H) (a := 1) (b := 3) (x := H 1 + 1) (by omega), cc.1]
          simp only [ce, hc.2, true_and, cc.2]
          generalize (if H 1 = 0 then (1 : Int) else 0) = y
          split
          · show some (_ + y) = some _; congr 1; omega
          · rfl
        · rw [chk_ne (R := R) (a := 2) (b := 0) (x := R 2 - V 6 l) (by omega), chk_ne (R := R) (a := 2) (b := 1) (x := R 2 - V 6 l) (by omega), chk_ne (R := R) (a := 2) (b := 3) (x := R 2 - V 6 l) (by omega), cub_ne (H := H) (a := 2) (b := 0) (x := H 2 + 1) (by omega), cub_ne (H := H) (a := 2) (b := 1) (x := H 2 + 1) (by omega), cub_ne (H := H) (a := 2) (b := 3) (x := H 2 + 1) (by omega), cc.1]
          simp only [ce, hc.2, true_and, cc.2]
          generalize (if H 2 = 0 then (1 : Int) else 0) = y
          split
          · show some (_ + y) = some _; congr 1; omega
          · rfl
        · rw [chk_ne (R := R) (a := 3) (b := 0) (x := R 3 - V 6 l) (by omega), chk_ne (R := R) (a := 3) (b := 1) (x := R 3 - V 6 l) (by omega), chk_ne (R := R) (a := 3) (b := 2) (x := R 3 - V 6 l) (by omega), cub_ne (H := H) (a := 3) (b := 0) (x := H 3 + 1) (by omega), cub_ne (H := H) (a := 3) (b := 1) (x := H 3 + 1) (by omega), cub_ne (H := H) (a := 3) (b := 2) (x := H 3 + 1) (by omega), cc.1]
          simp only [ce, hc.2, true_and, cc.2]
          generalize (if H 3 = 0 then (1 : Int) else 0) = y
          split
          · show some (_ + y) = some _; congr 1; omega
          · rfl
      · rw [if_neg hc, if_neg]
        rintro ⟨e1, e2, e3, e4, e5⟩
        rw [Bool.and_eq_true, decide_eq_true_iff] at e1
        apply hc
        refine ⟨e1.1, ?_⟩
        rcases this with rfl | rfl | rfl | rfl
        · exact (ce.mp e2).1
        · exact (ce.mp e3).1
        · exact (ce.mp e4).1
        · exact (ce.mp e5).1
    · rw [if_neg en]
      have ok : okB S B (a :: t) l = (decide (a = 0) && okB S B t (l + 1)) := by rw [okB, if_neg en]
      rw [ok, chk_far en, chk_far en, chk_far en, chk_far en, cub_far en, cub_far en, cub_far en, cub_far en]
      by_cases e0 : a = 0
      · rw [if_pos e0, ih R H (l + 1) (by omega) (by omega) h3' h4]
        have : decide (a = 0) = true := decide_eq_true e0
        rw [this, Bool.true_and]
      · rw [if_neg e0, if_neg]
        rintro ⟨e1, _⟩
        rw [Bool.and_eq_true, decide_eq_true_iff] at e1
        exact e0 e1.1
/-- the list as it lies -/
def encl (S : Int → Int) (l : Int) (t : List Int) : List Int := match t with
  | [] => []
  | a :: t => (if S (20 + l) = -1 then a else -1) :: encl S (l + 1) t
theorem comb_map {α β : Type} (e : α → β) (x y : Option (Int × α)) : (comb x y).map (fun p => (p.1, e p.2)) = comb (x.map (fun p => (p.1, e p.2))) (y.map (fun p => (p.1, e p.2))) := by
  rcases x with _ | ⟨v, t⟩ <;> rcases y with _ | ⟨w, s⟩ <;> simp only [comb, Option.map_none, Option.map_some]
  split <;> rfl
theorem lex_cs {B : Nat} (hB : B ≤ 4) (n : Nat) : ∀ (R H : Int → Int) (u l : Int), (fmin (vR V S B R H l) none (lex 4 n)).map (fun p => (p.1, encl S l p.2)) = fmin (vP V S false R H u l) none (cs S B n l) := by
  induction n with
  | zero => intro R H u l; rfl
  | succ n ih =>
    intro R H u l
    rw [lex, cs]
    by_cases en : S (20 + l) = -1
    · rw [if_pos en]
      have e1 := dgs_gen (vR V S B R H l) (lex 4 n) [] none 4
      have e2 := dgs_gen (vP V S false R H u l) (cs S B n (l + 1)) [] none B
      have em : ∀ L : List (List Int), L.map (fun s => ([] : List Int) ++ s) = L := by intro L; simp
      rw [em] at e1 e2
      rw [e1, e2]
      have blk : ∀ a : Nat, a < B → (fmin (vR V S B R H l) none ((lex 4 n).map (fun s => [] ++ (a : Int) :: s))).map (fun p => (p.1, encl S l p.2)) = fmin (vP V S false R H u l) none ((cs S B n (l + 1)).map (fun s => [] ++ (a : Int) :: s)) := by
        intro a ha
        by_cases hc : V 6 l ≤ R a
        · have s1 := fmin_shift (vR V S B (ud R a (R a - V 6 l)) (ud H a (H a + 1)) (l + 1)) (vR V S B R H l) (fun t => [] ++ (a : Int) :: t) (if H a = 0 then 1 else 0) (lex 4 n) (by
            intro t _
            show vR V S B R H l ((a : Int) :: t) = _
            rw [vR, if_pos en, if_pos ⟨by omega, hc⟩]) none
          have s2 := fmin_shift (vP V S false (ud R a (R a - V 6 l)) (ud H a (H a + 1)) (if H a = 0 then u + 1 else u) (l + 1)) (vP V S false R H u l) (fun t => [] ++ (a : Int) :: t) (if H a = 0 then 1 else 0) (cs S B n (l + 1)) (by
            intro t _
            show vP V S false R H u l ((a : Int) :: t) = _
            rw [vP, if_pos en, if_pos ⟨hc, by intro h; cases h⟩]) none
          rw [Option.map_none] at s1 s2
          rw [s1, s2, ← ih _ _ (if H a = 0 then u + 1 else u) (l + 1), Option.map_map, Option.map_map]
          congr 1
          funext p
          show (_, encl S l ((a : Int) :: p.2)) = _
          rw [encl, if_pos en]
          rfl
        · rw [fmin_none, fmin_none]
          · rfl
          · intro t ht
            rw [List.mem_map] at ht
            obtain ⟨s, _, rfl⟩ := ht
            show vP V S false R H u l ((a : Int) :: s) = _
            rw [vP, if_pos en, if_neg (fun hh => hc hh.1)]
          · intro t ht
            rw [List.mem_map] at ht
            obtain ⟨s, _, rfl⟩ := ht
            show vR V S B R H l ((a : Int) :: s) = _
            rw [vR, if_pos en, if_neg (fun hh => hc hh.2)]
      have up : ∀ m, m ≤ B → (dgs (vR V S B R H l) (lex 4 n) (fun n => (n : Int)) [] none m).map (fun p => (p.1, encl S l p.2)) = dgs (vP V S false R H u l) (cs S B n (l + 1)) (fun n => (n : Int)) [] none m := by
        intro m
        induction m with
        | zero => intro _; rfl
        | succ m ihm =>
          intro hm
          rw [dgs, dgs, fmin_comb, comb_map, ihm (by omega), blk m (by omega), ← fmin_comb]
      have dn : ∀ j, B + j ≤ 4 → dgs (vR V S B R H l) (lex 4 n) (fun n => (n : Int)) [] none (B + j) = dgs (vR V S B R H l) (lex 4 n) (fun n => (n : Int)) [] none B := by
        intro j
        induction j with
        | zero => intro _; rfl
        | succ j ihj =>
          intro hj
          rw [show B + (j + 1) = B + j + 1 by omega, dgs, fmin_none, ihj (by omega)]
          intro t ht
          rw [List.mem_map] at ht
          obtain ⟨s, _, rfl⟩ := ht
          show vR V S B R H l (((B + j : Nat) : Int) :: s) = _
          rw [vR, if_pos en, if_neg (by omega)]
      have := dn (4 - B) (by omega)
      rw [show B + (4 - B) = 4 by omega] at this
      rw [this]
      exact up B (Nat.le_refl _)
    · rw [if_neg en]
      have e1 := dgs_gen (vR V S B R H l) (lex 4 n) [] none 4
      have em : ∀ L : List (List Int), L.map (fun s => ([] : List Int) ++ s) = L := by intro L; simp
      rw [em] at e1
      rw [e1]
      have nob : ∀ a : Nat, a ≠ 0 → ∀ y, fmin (vR V S B R H l) y ((lex 4 n).map (fun s => [] ++ (a : Int) :: s)) = y := by
        intro a ha y
        apply fmin_none
        intro t ht
        rw [List.mem_map] at ht
        obtain ⟨s, _, rfl⟩ := ht
        show vR V S B R H l ((a : Int) :: s) = _
        rw [vR, if_neg en, if_neg (by omega)]
      rw [dgs, nob 3 (by omega), dgs, nob 2 (by omega), dgs, nob 1 (by omega), dgs, dgs]
      have s1 := fmin_shift (vR V S B R H (l + 1)) (vR V S B R H l) (fun t => [] ++ ((0 : Nat) : Int) :: t) 0 (lex 4 n) (by
        intro t _
        show vR V S B R H l (((0 : Nat) : Int) :: t) = _
        rw [vR, if_neg en, if_pos (show ((0 : Nat) : Int) = 0 from rfl)]
        have : (fun v : Int => v + 0) = id := by funext v; show v + 0 = v; omega
        rw [this, Option.map_id]
        rfl) none
      have s2 := fmin_shift (vP V S false R H u (l + 1)) (vP V S false R H u l) (fun t => (-1 : Int) :: t) 0 (cs S B n (l + 1)) (by
        intro t _
        rw [vP, if_neg en]
        have : (fun v : Int => v + 0) = id := by funext v; show v + 0 = v; omega
        rw [this, Option.map_id]
        rfl) none
      rw [Option.map_none] at s1 s2
      rw [s1, s2, ← ih R H u (l + 1), Option.map_map, Option.map_map]
      congr 1
      funext p
      show (_, encl S l (((0 : Nat) : Int) :: p.2)) = _
      rw [encl, if_neg en]
      rfl
end STO
