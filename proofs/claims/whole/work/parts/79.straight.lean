/-! The straightest row of strokes, in both. -/
def comb {α : Type} (x y : Option (Int × α)) : Option (Int × α) := match y with
  | none => x
  | some (v, t) => match x with
    | none => some (v, t)
    | some (w, s) => if v < w then some (v, t) else some (w, s)
theorem fm_comb {α : Type} (f : α → Option Int) (x : Option (Int × α)) (t : α) : fm f x t = comb x ((f t).map (fun v => (v, t))) := by
  unfold fm comb
  cases f t <;> rfl
theorem comb_as {α : Type} (x y z : Option (Int × α)) : comb (comb x y) z = comb x (comb y z) := by
  rcases x with _ | ⟨a, x⟩ <;> rcases y with _ | ⟨b, y⟩ <;> rcases z with _ | ⟨c, z⟩ <;> simp only [comb]
  · by_cases h1 : c < b
    · simp only [if_pos h1]
    · simp only [if_neg h1]
  · by_cases h1 : b < a <;> by_cases h2 : c < b <;> simp only [h1, h2, if_true, if_false] <;> first | rw [if_pos (by omega)] | rw [if_neg (by omega)]
theorem fmin_comb {α : Type} (f : α → Option Int) (x : Option (Int × α)) (l : List α) : fmin f x l = comb x (fmin f none l) := by
  induction l generalizing x with
  | nil => rfl
  | cons t l ih =>
    have e : ∀ x, fmin f x (t :: l) = fmin f (fm f x t) l := fun _ => rfl
    have e2 : comb none ((f t).map (fun v => (v, t))) = (f t).map (fun v => (v, t)) := by cases f t <;> rfl
    rw [e, e, ih, ih (fm f none t), fm_comb, fm_comb, comb_as, e2]
theorem fmin_shift {α β : Type} (g : β → Option Int) (f : α → Option Int) (e : β → α) (k : Int) (l : List β) (h : ∀ t ∈ l, f (e t) = (g t).map (fun v => v + k)) (x : Option (Int × β)) : fmin f (x.map (fun p => (p.1 + k, e p.2))) (l.map e) = (fmin g x l).map (fun p => (p.1 + k, e p.2)) := by
  induction l generalizing x with
  | nil => rfl
  | cons t l ih =>
    have h1 : fm f (x.map (fun p => (p.1 + k, e p.2))) (e t) = (fm g x t).map (fun p => (p.1 + k, e p.2)) := by
      unfold fm
      rw [h t (List.mem_cons_self ..)]
      rcases x with _ | ⟨w, s⟩
      · cases g t <;> rfl
      · cases hg : g t with
        | none => rfl
        | some v =>
          simp only [Option.map_some]
          by_cases hv : v < w
          · rw [if_pos hv, if_pos (by omega)]; rfl
          · rw [if_neg hv, if_neg (by omega)]; rfl
    show fmin f (fm f (x.map (fun p => (p.1 + k, e p.2))) (e t)) (l.map e) = (fmin g (fm g x t) l).map _
    rw [h1]
    exact ih (fun t ht => h t (List.mem_cons_of_mem _ ht)) _
def trn (t : List Int) : Int := match t with
  | [] => 0
  | a :: t => (if a = 1 then 0 else 1) + trn t
theorem trn_in (t : List Int) : 0 ≤ trn t ∧ trn t ≤ t.length := by
  induction t with
  | nil => exact ⟨by rw [trn]; omega, by rw [trn]; simp⟩
  | cons a t ih => rw [trn, List.length_cons]; split <;> omega
def fS (V : (Nat → Int → Int)) (d c r : Int) (t : List Int) : Option Int := if rc V t c r = some d then some (trn t) else none
def mi (a b : Int) : Int := if b < a then b else a
def fb (V : (Nat → Int → Int)) (s c r x : Int) : Int := if V 2 (8 * (r + 1) + lead V c r s 1) = 1 then 99 else (if s = 0 then 0 else 1) + x
/-- the fewest steered strokes to the landing d, or 99 -/
def few (V : (Nat → Int → Int)) (d : Int) (n : Nat) (c r : Int) : Int := match n with
  | 0 => if c = d then 0 else 99
  | n + 1 => mi (mi (mi 99 (fb V (-1) c r (few V d n (lead V c r (-1) 1) (r + 1)))) (fb V 0 c r (few V d n (lead V c r 0 1) (r + 1)))) (fb V 1 c r (few V d n (lead V c r 1 1) (r + 1)))
/-- the steer to follow -/
def stp (V : (Nat → Int → Int)) (d : Int) (n : Nat) (c r : Int) : Int :=
  if fb V (-1) c r (few V d n (lead V c r (-1) 1) (r + 1)) = few V d (n + 1) c r then -1 else if fb V 0 c r (few V d n (lead V c r 0 1) (r + 1)) = few V d (n + 1) c r then 0 else 1
def fol (V : (Nat → Int → Int)) (d : Int) (n : Nat) (c r : Int) : List Int := match n with
  | 0 => []
  | n + 1 => (stp V d n c r + 1) :: fol V d n (lead V c r (stp V d n c r) 1) (r + 1)
theorem few_in (V : (Nat → Int → Int)) (d : Int) (n : Nat) : ∀ (c r : Int), few V d n c r = 99 ∨ (0 ≤ few V d n c r ∧ few V d n c r ≤ n) := by
  induction n with
  | zero => intro c r; rw [few]; split
            · right; omega
            · left; rfl
  | succ n ih =>
    intro c r
    have a := ih (lead V c r (-1) 1) (r + 1)
    have b := ih (lead V c r 0 1) (r + 1)
    have e := ih (lead V c r 1 1) (r + 1)
    rw [few]
    unfold mi fb
    split <;> split <;> split <;> (try split) <;> (try split) <;> (try split) <;> (try split) <;> omega
theorem fol_len (V : (Nat → Int → Int)) (d : Int) (n : Nat) : ∀ (c r : Int), (fol V d n c r).length = n := by
  induction n with
  | zero => intro c r; rfl
  | succ n ih => intro c r; rw [fol, List.length_cons, ih]
theorem st_key (V : (Nat → Int → Int)) (d : Int) (n : Nat) (hn : n ≤ 6) (ih : ∀ (c r : Int), fmin (fS V d c r) none (lex 3 n) = if few V d n c r < 99 then some (few V d n c r, fol V d n c r) else none) (c r s : Int) :
    fmin (fS V d c r) none ((lex 3 n).map (fun t => (s + 1) :: t)) = if fb V s c r (few V d n (lead V c r s 1) (r + 1)) < 99 then some (fb V s c r (few V d n (lead V c r s 1) (r + 1)), (s + 1) :: fol V d n (lead V c r s 1) (r + 1)) else none := by
  have hf := few_in V d n (lead V c r s 1) (r + 1)
  by_cases hi : V 2 (8 * (r + 1) + lead V c r s 1) = 1
  · have e : fb V s c r (few V d n (lead V c r s 1) (r + 1)) = 99 := by unfold fb; rw [if_pos hi]
    rw [e, if_neg (by omega), fmin_none]
    intro t ht
    rw [List.mem_map] at ht
    obtain ⟨t', _, rfl⟩ := ht
    rw [fS, rc, show s + 1 - 1 = s by omega, if_pos hi, if_neg (by intro h; cases h)]
  · have e : fb V s c r (few V d n (lead V c r s 1) (r + 1)) = (if s = 0 then 0 else 1) + few V d n (lead V c r s 1) (r + 1) := by unfold fb; rw [if_neg hi]
    have sh := fmin_shift (fS V d (lead V c r s 1) (r + 1)) (fS V d c r) (fun t => (s + 1) :: t) (if s = 0 then 0 else 1) (lex 3 n) (by
      intro t ht
      rw [fS, rc, show s + 1 - 1 = s by omega, if_neg hi, fS]
      split
      · simp only [Option.map_some, trn]
        congr 1
        by_cases hs : s = 0
        · rw [if_pos (show s + 1 = 1 by omega), if_pos hs]; omega
        · rw [if_neg (show ¬ s + 1 = 1 by omega), if_neg hs]; omega
      · rfl) none
    rw [Option.map_none] at sh
    have hk : 0 ≤ (if s = 0 then (0 : Int) else 1) ∧ (if s = 0 then (0 : Int) else 1) ≤ 1 := by split <;> omega
    rw [sh, ih, e]
    generalize (if s = 0 then (0 : Int) else 1) = y at hk ⊢
    by_cases h9 : few V d n (lead V c r s 1) (r + 1) < 99
    · rw [if_pos h9, if_pos (by omega)]
      show some (_ + y, _) = some (y + _, _)
      rw [Int.add_comm]
    · rw [if_neg h9, if_neg (by omega)]
      rfl
theorem st_eq (V : (Nat → Int → Int)) (d : Int) (n : Nat) (hn : n ≤ 6) : ∀ (c r : Int), fmin (fS V d c r) none (lex 3 n) = if few V d n c r < 99 then some (few V d n c r, fol V d n c r) else none := by
  induction n with
  | zero =>
    intro c r
    rw [few, lex]
    show fm (fS V d c r) none [] = _
    rw [fm, fS, rc]
    by_cases h : c = d
    · subst h; rw [if_pos rfl, if_pos rfl]; rfl
    · rw [if_neg (by intro e; injection e with e; exact h e), if_neg h]; rfl
  | succ n ih =>
    intro c r
    have ih' := ih (by omega)
    have k0 := st_key V d n (by omega) ih' c r (-1)
    have k1 := st_key V d n (by omega) ih' c r 0
    have k2 := st_key V d n (by omega) ih' c r 1
    have e0 : (-1 : Int) + 1 = 0 := rfl
    have e1 : (0 : Int) + 1 = 1 := rfl
    have e2 : (1 : Int) + 1 = 2 := rfl
    rw [e0] at k0
    rw [e1] at k1
    rw [e2] at k2
    rw [lex3, fmin_app, fmin_app, fmin_comb _ (fmin _ _ _), fmin_comb _ (fmin _ _ _), k0, k1, k2]
    have f3 : few V d (n + 1) c r = mi (mi (mi 99 (fb V (-1) c r (few V d n (lead V c r (-1) 1) (r + 1)))) (fb V 0 c r (few V d n (lead V c r 0 1) (r + 1)))) (fb V 1 c r (few V d n (lead V c r 1 1) (r + 1))) := rfl
    have f4 : fol V d (n + 1) c r = (stp V d n c r + 1) :: fol V d n (lead V c r (stp V d n c r) 1) (r + 1) := rfl
    rw [f4]
    unfold stp
    rw [f3]
    generalize fb V (-1) c r (few V d n (lead V c r (-1) 1) (r + 1)) = a
    generalize fb V 0 c r (few V d n (lead V c r 0 1) (r + 1)) = b
    generalize fb V 1 c r (few V d n (lead V c r 1 1) (r + 1)) = e
    unfold mi
    by_cases ha : a < 99 <;> by_cases hb : b < 99 <;> by_cases he : e < 99 <;> simp only [ha, hb, he, if_true, if_false, comb]
    · by_cases h1 : b < a
      · by_cases h2 : e < b
        · simp only [h1, h2, if_true, he]; rw [if_neg (by omega), if_neg (by omega)]; rfl
        · simp only [h1, h2, if_true, if_false, hb]; rw [if_neg (by omega)]; rfl
      · by_cases h2 : e < a
        · simp only [h1, h2, if_true, if_false, he]; rw [if_neg (by omega), if_neg (by omega)]; rfl
        · simp only [h1, h2, if_true, if_false, ha]; rfl
    · by_cases h1 : b < a
      · have h2 : ¬ e < b := by omega
        simp only [h1, h2, if_true, if_false, hb]; rw [if_neg (by omega)]; rfl
      · have h2 : ¬ e < a := by omega
        simp only [h1, h2, if_true, if_false, ha]; rfl
    · have h1 : ¬ b < a := by omega
      by_cases h2 : e < a
      · simp only [h1, h2, if_true, if_false, he]; rw [if_neg (by omega), if_neg (by omega)]; rfl
      · simp only [h1, h2, if_true, if_false, ha]; rfl
    · have h1 : ¬ b < a := by omega
      have h2 : ¬ e < a := by omega
      simp only [h1, h2, if_false, ha, if_true]; rfl
    · by_cases h2 : e < b
      · simp only [h2, if_true, he]; rw [if_neg (by omega), if_neg (by omega)]; rfl
      · simp only [h2, if_false, hb, if_true]; rw [if_neg (by omega)]; rfl
    · have h2 : ¬ e < b := by omega
      simp only [h2, if_false, hb, if_true]; rw [if_neg (by omega)]; rfl
    · rw [if_neg (by omega), if_neg (by omega)]; rfl
    · simp only [if_neg (show ¬ (99 : Int) < 99 by omega)]
theorem rf_turn {I : (Nat → Nat → Int32)} {t : List Int} (hl : t.length ≤ 6) (hr : ∀ z : Nat, z < t.length → I 87 z = iN (t.getD z 0 - 1)) (hm : ∀ a ∈ t, 0 ≤ a ∧ a < 3) {n : Nat} (hn : 12 ≤ n) : fX12_turned n (iN t.length) I = some (iN (trn t)) := by
  have key : ∀ (s : List Int) (n : Nat) (y z : Int), 0 ≤ z → z + s.length = t.length → s.length < n → (∀ i : Nat, i < s.length → I 87 (z.toNat + i) = iN (s.getD i 0 - 1)) → (∀ a ∈ s, 0 ≤ a ∧ a < 3) → fX12_turned_L4 n (iN t.length) (iN y) (iN z) I = some (iN (y + trn s)) := by
    intro s
    induction s with
    | nil =>
      intro n y z h0 h1 hn hi hs
      obtain ⟨n, rfl⟩ : ∃ m, n = m + 1 := ⟨n - 1, by omega⟩
      rw [List.length_nil] at h1
      rw [fX12_turned_L4]
      simp (disch := omega) only [iN_lit, iN_add, iN_sub, iN_mul, iN_neg, iN_lt, iN_eq, iN_tn, if_true, if_false, if_pos, if_neg, trn, Int.add_zero]
    | cons a s ih =>
      intro n y z h0 h1 hn hi hs
      obtain ⟨n, rfl⟩ : ∃ m, n = m + 1 := ⟨n - 1, by omega⟩
      rw [List.length_cons] at h1 hn hi
      have ha := hs a (List.mem_cons_self ..)
      have i0 := hi 0 (by omega)
      rw [Nat.add_zero, List.getD_cons_zero] at i0
      have nx := fun y => ih n y (z + 1) (by omega) (by omega) (by omega) (by
        intro i h
        have := hi (i + 1) (by omega)
        rw [List.getD_cons_succ] at this
        rw [show (z + 1).toNat + i = z.toNat + (i + 1) by omega]
        exact this) (fun x hx => hs x (List.mem_cons_of_mem _ hx))
      rw [fX12_turned_L4]
      simp (disch := omega) only [iN_lit, iN_add, iN_sub, iN_mul, iN_neg, iN_lt, iN_eq, iN_tn, if_true, if_false, if_pos, if_neg, i0, show fX12_truth (iN 1) = iN 1 from rfl, show fX12_truth (iN 0) = iN 0 from rfl]
      rw [trn]
      by_cases e : a = 1
      · rw [if_pos (by omega), if_pos e, nx]
        congr 2; omega
      · rw [if_neg (by omega), if_neg e, nx]
        congr 2; omega
  rw [fX12_turned]
  simp only [iN_lit]
  rw [key t n 0 0 (by omega) (by omega) (by omega) (fun i hi => by rw [show (0 : Int).toNat + i = i by omega]; exact hr i hi) hm, Int.zero_add]
  rfl
/-- what lies behind a search -/
def lays (x : Option (Int × List Int)) : List Int := match x with
  | none => []
  | some (_, t) => t.map (fun a => a - 1)
def worth (d : Int) (x : Option (Int × List Int)) : Int := match x with
  | none => d
  | some (v, _) => v
theorem rf_straight {V : (Nat → Int → Int)} {S : Int → Int} {I : (Nat → Nat → Int32)} (h : rOK V S I) {b d : Int} (hb1 : 0 ≤ b) (hb2 : b < V 0 2) (hd : 0 ≤ d ∧ d < V 0 0) (hr0 : rl [] I) {n : Nat} (hn : 1100 ≤ n) :
    ∃ I', fX12_straight_L36 n (iN b) (iN d) (iN 1000000) (iN 0) I = some (iN (worth 1000000 (fmin (fS V d (S b) (S (4 + b))) none (lex 3 (lft V S b)))), I') ∧ xf [70, 71, 85, 87, 88, 1061] I I' ∧ rl (lays (fmin (fS V d (S b) (S (4 + b))) none (lex 3 (lft V S b)))) I' := by
  have hu := h.1.1
  have hs := h.2.1.1 b hb1 hb2
  obtain ⟨l6, _⟩ := lft_le h.1 h.2.1 hb1 hb2
  have p3 := p3_le l6
  have hw : ∀ k : Int, 0 ≤ worth 1000000 (((List.range k.toNat).map (dig 3 (lft V S b))).foldl (fm (fS V d (S b) (S (4 + b)))) none) ∧ worth 1000000 (((List.range k.toNat).map (dig 3 (lft V S b))).foldl (fm (fS V d (S b) (S (4 + b)))) none) ≤ 1000000 := by
    intro k
    cases e : ((List.range k.toNat).map (dig 3 (lft V S b))).foldl (fm (fS V d (S b) (S (4 + b)))) none with
    | none => exact ⟨by rw [worth]; omega, by rw [worth]; omega⟩
    | some p =>
      obtain ⟨v, t⟩ := p
      have := fmin_mem _ _ _ _ _ e
      rcases this with h | ⟨h1, h2⟩
      · cases h
      · rw [List.mem_map] at h1
        obtain ⟨k', _, rfl⟩ := h1
        have ht := trn_in (dig 3 (lft V S b) k')
        rw [dig_len] at ht
        rw [fS] at h2
        split at h2
        · injection h2 with h2; rw [worth]; omega
        · cases h2
  obtain ⟨n', s, h1, h2, h3, h4, h5⟩ := loop (fun n k (s : Int × (Nat → Nat → Int32)) => fX12_straight_L36 n (iN b) (iN d) (iN s.1) (iN k) s.2) 340 (P := ((3 ^ lft V S b : Nat) : Int)) (fun k s => xf [70, 71, 85, 87, 88, 1061] I s.2 ∧ s.1 = worth 1000000 (((List.range k.toNat).map (dig 3 (lft V S b))).foldl (fm (fS V d (S b) (S (4 + b)))) none) ∧ rl (lays (((List.range k.toNat).map (dig 3 (lft V S b))).foldl (fm (fS V d (S b) (S (4 + b)))) none)) s.2)
    (by
      intro n k s hn h0 h1 ⟨hx, hz, hl⟩
      have R := rOK_xf h hx (by decide)
      obtain ⟨I', g1, g2, g3, g4⟩ := rf_row R hb1 hb2 (k := k.toNat) (by omega) (n := n) (by omega)
      rw [show ((k.toNat : Nat) : Int) = k by omega] at g1
      have R' := rOK_ex R g2 (by decide)
      have hx' : xf [70, 71, 85, 87, 88, 1061] I I' := xf_trans hx (xf_mono (xf_ex g2) (by decide))
      have hl' : rl (lays (((List.range k.toNat).map (dig 3 (lft V S b))).foldl (fm (fS V d (S b) (S (4 + b)))) none)) I' := ⟨by rw [g2 62 (by decide)]; exact hl.1, fun z hz => by rw [g2 88 (by decide)]; exact hl.2 z hz⟩
      have tl := dig_len 3 (lft V S b) k.toNat
      have tm := dig_mem (d := 3) (by omega) (lft V S b) k.toNat
      have hwk := hw k
      rw [← hz] at hwk
      have htn := trn_in (dig 3 (lft V S b) k.toNat)
      rw [fold_s _ _ _ _ h0]
      have unf := fX12_straight_L36.eq_def (n + 1) (iN b) (iN d) (iN s.1) (iN k) s.2
      dsimp only at unf
      rw [rf_left2 R hb1 hb2, Option.bind_some, iN_lit, rf_pow3 l6 (by omega), Option.bind_some] at unf
      simp (disch := omega) only [iN_lit, iN_add, iN_sub, iN_mul, iN_neg, iN_lt, iN_eq, iN_tn, if_true, if_false, if_pos, if_neg] at unf
      rw [g1, Option.bind_some] at unf
      have keep : fS V d (S b) (S (4 + b)) (dig 3 (lft V S b) k.toNat) = none ∨ (∃ v, fS V d (S b) (S (4 + b)) (dig 3 (lft V S b) k.toNat) = some v ∧ s.1 ≤ v) → fm (fS V d (S b) (S (4 + b))) (((List.range k.toNat).map (dig 3 (lft V S b))).foldl (fm (fS V d (S b) (S (4 + b)))) none) (dig 3 (lft V S b) k.toNat) = ((List.range k.toNat).map (dig 3 (lft V S b))).foldl (fm (fS V d (S b) (S (4 + b)))) none := by
        intro hh
        rcases hh with e | ⟨v, e, hv⟩
        · rw [fm, e]
        · rw [fm, e]
          rw [hz] at hv
          cases e2 : ((List.range k.toNat).map (dig 3 (lft V S b))).foldl (fm (fS V d (S b) (S (4 + b)))) none with
          | none =>
            rw [e2, worth] at hv
            rw [fS] at e
            split at e
            · injection e with e; omega
            · cases e
          | some p =>
            obtain ⟨w, t⟩ := p
            rw [e2, worth] at hv
            show (if v < w then _ else _) = _
            rw [if_neg (by omega)]
      cases e : rc V (dig 3 (lft V S b) k.toNat) (S b) (S (4 + b)) with
      | none =>
        have ef : fS V d (S b) (S (4 + b)) (dig 3 (lft V S b) k.toNat) = none := by rw [fS, e, if_neg (by intro h; cases h)]
        rw [keep (Or.inl ef)]
        refine ⟨(s.1, I'), ?_, hx', hz, hl'⟩
        show fX12_straight_L36 (n + 1) _ _ _ _ _ = _
        rw [unf, e]
        rfl
      | some x =>
        have hd2 := rc_in h.1 _ (by omega) (by omega) e
        have e2 := run_rc V b (burd V S b) (dig 3 (lft V S b) k.toNat) (S b) (S (4 + b)) (S (8 + b)) (S (12 + b)) (S (16 + b))
        rw [e] at e2
        obtain ⟨p, hp1, hp2⟩ := Option.map_eq_some_iff.mp e2
        have hc := (g4 p.1 p.2.1 p.2.2 hp1).1
        rw [hp2] at hc
        have tu := rf_turn (I := I') (t := dig 3 (lft V S b) k.toNat) (by omega) (by intro z hz; exact g3 z (by omega)) (by intro a ha; have := tm a ha; omega) (n := n) (by omega)
        rw [tl] at tu
        rw [e] at unf
        simp (disch := omega) only [Option.isSome_some, if_true, hc, iN_eq, if_neg] at unf
        by_cases hxd : x = d
        · have ef : fS V d (S b) (S (4 + b)) (dig 3 (lft V S b) k.toNat) = some (trn (dig 3 (lft V S b) k.toNat)) := by rw [fS, e, if_pos (by rw [hxd])]
          rw [if_pos hxd, rf_left2 R' hb1 hb2, Option.bind_some, tu, Option.bind_some] at unf
          simp (disch := omega) only [iN_lt] at unf
          by_cases hlt : trn (dig 3 (lft V S b) k.toNat) < s.1
          · have fe : fm (fS V d (S b) (S (4 + b))) (((List.range k.toNat).map (dig 3 (lft V S b))).foldl (fm (fS V d (S b) (S (4 + b)))) none) (dig 3 (lft V S b) k.toNat) = some (trn (dig 3 (lft V S b) k.toNat), dig 3 (lft V S b) k.toNat) := by
              rw [fm, ef]
              rw [hz] at hlt
              cases e2 : ((List.range k.toNat).map (dig 3 (lft V S b))).foldl (fm (fS V d (S b) (S (4 + b)))) none with
              | none => rfl
              | some p =>
                obtain ⟨w, t⟩ := p
                rw [e2, worth] at hlt
                show (if _ < w then _ else _) = _
                rw [if_pos hlt]
            obtain ⟨I2, q1, q2, q3⟩ := rf_put R' hb1 hb2 (l := (dig 3 (lft V S b) k.toNat).map (fun a => a - 1)) (by rw [List.length_map, tl]) (by
              intro z hz
              rw [List.length_map, tl] at hz
              rw [g3 z hz, List.getD_eq_getElem?_getD, List.getD_eq_getElem?_getD, List.getElem?_map, List.getElem?_eq_getElem (by omega)]
              rfl) (n := n) (by omega)
            rw [if_pos hlt, Option.bind_some, tu, Option.bind_some, q1, Option.bind_some] at unf
            rw [fe]
            refine ⟨(trn (dig 3 (lft V S b) k.toNat), I2), ?_, xf_trans hx' (xf_mono q2 (by decide)), rfl, q3⟩
            exact unf
          · rw [keep (Or.inr ⟨_, ef, by omega⟩)]
            rw [if_neg hlt] at unf
            exact ⟨(s.1, I'), unf, hx', hz, hl'⟩
        · have ef : fS V d (S b) (S (4 + b)) (dig 3 (lft V S b) k.toNat) = none := by rw [fS, e, if_neg (by intro h; injection h with h; exact hxd h)]
          rw [keep (Or.inl ef)]
          rw [if_neg hxd] at unf
          exact ⟨(s.1, I'), unf, hx', hz, hl'⟩) (3 ^ lft V S b) n 0 (1000000, I) (by omega) (by omega) ⟨xf_refl, rfl, hr0⟩ (by omega)
  rw [fold_a _ _ (by omega)] at h4 h5
  refine ⟨s.2, ?_, h3, h5⟩
  have R := rOK_xf h h3 (by decide)
  have hq := hw ((3 ^ lft V S b : Nat) : Int)
  rw [fold_a _ _ (by omega)] at hq
  have h2' : fX12_straight_L36 n (iN b) (iN d) (iN 1000000) (iN 0) I = fX12_straight_L36 n' (iN b) (iN d) (iN s.1) (iN ((3 ^ lft V S b : Nat) : Int)) s.2 := h2
  rw [h2']
  obtain ⟨n', rfl⟩ : ∃ m, n' = m + 1 := ⟨n' - 1, by omega⟩
  show fX12_straight_L36 (n' + 1) _ _ _ _ _ = _
  rw [fX12_straight_L36, rf_left2 R hb1 hb2, Option.bind_some, iN_lit, rf_pow3 l6 (by omega), Option.bind_some]
  simp only [iN_lit]
  rw [if_neg (iN_ir _), h4]
  rfl
