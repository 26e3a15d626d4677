/-! Trips: rows of trips in their order. -/
def nu (S : Int → Int) (l u a : Int) : Int := if S (20 + l) = -1 ∧ a = u then u + 1 else u
def rg (S : Int → Int) (n : Nat) (l : Int) (u : Nat) : List (List Int) := match n with
  | 0 => [[]]
  | n + 1 => if S (20 + l) = -1 then (List.range (u + 1)).flatMap (fun (a : Nat) => (rg S n (l + 1) (if a = u then u + 1 else u)).map (fun t => (a : Int) :: t)) else (rg S n (l + 1) u).map (fun t => (0 : Int) :: t)
def vT (V : (Nat → Int → Int)) (S : Int → Int) (R : Int → Int) (u l : Int) (t : List Int) : Option Int := match t with
  | [] => some 0
  | a :: t => if S (20 + l) = -1 then (if V 6 l ≤ R a then (vT V S (ud R a (R a - V 6 l)) (nu S l u a) (l + 1) t).map (fun v => v + (if a = u then 1 else 0)) else none) else vT V S R u (l + 1) t
def tot (S : Int → Int) (l u : Int) (t : List Int) : Int := match t with
  | [] => u
  | a :: t => tot S (l + 1) (nu S l u a) t
def bfs (S : Int → Int) (l u : Int) (t : List Int) : List Int := match t with
  | [] => []
  | a :: t => u :: bfs S (l + 1) (nu S l u a) t
def nxt (S : Int → Int) (l u : Int) (t : List Int) : Option (List Int) := match t with
  | [] => none
  | a :: t => match nxt S (l + 1) (nu S l u a) t with
    | some t' => some (a :: t')
    | none => if S (20 + l) = -1 ∧ a < u then some ((a + 1) :: List.replicate t.length 0) else none
theorem vT_tot {V : (Nat → Int → Int)} (S : Int → Int) (t : List Int) : ∀ (R : Int → Int) (u l v : Int), vT V S R u l t = some v → v = tot S l u t - u := by
  induction t with
  | nil => intro R u l v h; rw [vT] at h; injection h with h; rw [tot]; omega
  | cons a t ih =>
    intro R u l v h
    rw [vT] at h
    rw [tot]
    split at h
    · next en =>
      split at h
      · obtain ⟨w, h1, h2⟩ := Option.map_eq_some_iff.mp h
        have := ih _ _ _ _ h1
        unfold nu at this ⊢
        by_cases e : a = u
        · rw [if_pos e] at h2; rw [if_pos ⟨en, e⟩] at this ⊢; omega
        · rw [if_neg e] at h2; rw [if_neg (fun hh => e hh.2)] at this ⊢; omega
      · cases h
    · next en =>
      have := ih _ _ _ _ h
      unfold nu
      rw [if_neg (fun hh => en hh.1)]
      exact this
/-- the list goes on by nx, and its last gives z -/
def chn {α : Type} (nx : α → Option α) (L : List α) (z : Option α) : Prop := match L with
  | [] => False
  | [x] => nx x = z
  | x :: y :: l => nx x = some y ∧ chn nx (y :: l) z
theorem chn_app {α : Type} (nx : α → Option α) (y : α) (L2 : List α) (z : Option α) (h2 : chn nx (y :: L2) z) : ∀ L1 : List α, chn nx L1 (some y) → chn nx (L1 ++ y :: L2) z := by
  intro L1
  induction L1 with
  | nil => intro h; cases h
  | cons x L1 ih =>
    intro h
    rcases L1 with _ | ⟨w, L1⟩
    · exact ⟨h, h2⟩
    · exact ⟨h.1, ih h.2⟩
theorem chn_map {α β : Type} (nx : α → Option α) (nx' : β → Option β) (e : α → β) (z : Option α) (z' : Option β) : ∀ L : List α, (∀ x ∈ L, ∀ y, nx x = some y → nx' (e x) = some (e y)) → (∀ x ∈ L, nx x = z → nx' (e x) = z') → chn nx L z → chn nx' (L.map e) z' := by
  intro L
  induction L with
  | nil => intro _ _ h; cases h
  | cons x L ih =>
    intro h1 h2 h
    rcases L with _ | ⟨w, L⟩
    · exact h2 x (List.mem_cons_self ..) h
    · exact ⟨h1 x (List.mem_cons_self ..) w h.1, ih (fun x hx => h1 x (List.mem_cons_of_mem _ hx)) (fun x hx => h2 x (List.mem_cons_of_mem _ hx)) h.2⟩
theorem rg_len (S : Int → Int) (n : Nat) : ∀ (l : Int) (u : Nat), ∀ t ∈ rg S n l u, t.length = n := by
  induction n with
  | zero => intro l u t h; rw [rg, List.mem_singleton] at h; rw [h]; rfl
  | succ n ih =>
    intro l u t h
    rw [rg] at h
    split at h
    · rw [List.mem_flatMap] at h
      obtain ⟨a, _, h⟩ := h
      rw [List.mem_map] at h
      obtain ⟨s, hs, rfl⟩ := h
      rw [List.length_cons, ih _ _ s hs]
    · rw [List.mem_map] at h
      obtain ⟨s, hs, rfl⟩ := h
      rw [List.length_cons, ih _ _ s hs]
theorem rg_chn (S : Int → Int) (n : Nat) : ∀ (l : Int) (u : Nat), ∃ L, rg S n l u = List.replicate n 0 :: L ∧ chn (nxt S l u) (rg S n l u) none := by
  induction n with
  | zero => intro l u; exact ⟨[], rfl, rfl⟩
  | succ n ih =>
    intro l u
    by_cases en : S (20 + l) = -1
    · rw [rg, if_pos en]
      have blk : ∀ a : Nat, a ≤ u → ∃ L, (rg S n (l + 1) (if a = u then u + 1 else u)).map (fun t => (a : Int) :: t) = ((a : Int) :: List.replicate n 0) :: L ∧ chn (nxt S l u) ((rg S n (l + 1) (if a = u then u + 1 else u)).map (fun t => (a : Int) :: t)) (if a < u then some (((a + 1 : Nat) : Int) :: List.replicate n 0) else none) := by
        intro a ha
        obtain ⟨L, hL, hc⟩ := ih (l + 1) (if a = u then u + 1 else u)
        have hnu : ((if a = u then u + 1 else u : Nat) : Int) = nu S l u a := by
          unfold nu
          by_cases e : a = u
          · rw [if_pos e, if_pos ⟨en, by omega⟩]; omega
          · rw [if_neg e, if_neg (fun hh => e (by omega))]
        refine ⟨L.map (fun t => (a : Int) :: t), by rw [hL]; rfl, ?_⟩
        apply chn_map _ _ _ _ _ _ _ _ hc
        · intro x hx y hy
          rw [nxt, ← hnu, hy]
        · intro x hx hy
          rw [nxt, ← hnu, hy, rg_len S n _ _ x hx]
          by_cases e : a < u
          · rw [if_pos ⟨en, by omega⟩, if_pos e]
            congr 2
          · rw [if_neg (fun hh => e (by omega)), if_neg e]
      have all : ∀ m, 1 ≤ m → m ≤ u + 1 → ∃ L, (List.range m).flatMap (fun (a : Nat) => (rg S n (l + 1) (if a = u then u + 1 else u)).map (fun t => (a : Int) :: t)) = ((0 : Int) :: List.replicate n 0) :: L ∧ chn (nxt S l u) ((List.range m).flatMap (fun (a : Nat) => (rg S n (l + 1) (if a = u then u + 1 else u)).map (fun t => (a : Int) :: t))) (if m ≤ u then some ((m : Int) :: List.replicate n 0) else none) := by
        intro m
        induction m with
        | zero => intro h; omega
        | succ m ihm =>
          intro h1 h2
          rw [List.range_succ, List.flatMap_append, List.flatMap_cons, List.flatMap_nil, List.append_nil]
          obtain ⟨B, b1, b2⟩ := blk m (by omega)
          have eqz : (if m < u then some (((m + 1 : Nat) : Int) :: List.replicate n (0 : Int)) else none) = if m + 1 ≤ u then some (((m + 1 : Nat) : Int) :: List.replicate n (0 : Int)) else none := by
            by_cases e : m < u
            · rw [if_pos e, if_pos (by omega)]
            · rw [if_neg e, if_neg (by omega)]
          rw [eqz] at b2
          by_cases e : m = 0
          · subst e
            rw [List.range_zero, List.flatMap_nil, List.nil_append]
            exact ⟨B, b1, b2⟩
          · obtain ⟨L, c1, c2⟩ := ihm (by omega) (by omega)
            rw [if_pos (by omega)] at c2
            refine ⟨L ++ _, by rw [c1]; rfl, ?_⟩
            rw [b1] at b2 ⊢
            exact chn_app _ _ _ _ b2 _ c2
      obtain ⟨L, h1, h2⟩ := all (u + 1) (by omega) (by omega)
      rw [if_neg (by omega)] at h2
      exact ⟨L, h1, h2⟩
    · rw [rg, if_neg en]
      obtain ⟨L, hL, hc⟩ := ih (l + 1) u
      refine ⟨L.map (fun t => (0 : Int) :: t), by rw [hL]; rfl, ?_⟩
      have hnu : nu S l u 0 = u := by unfold nu; rw [if_neg (fun hh => en hh.1)]
      apply chn_map _ _ _ _ _ _ _ _ hc
      · intro x hx y hy
        rw [nxt, hnu, hy]
      · intro x hx hy
        rw [nxt, hnu, hy, if_neg (fun hh => en hh.1)]
/-- the same with each digit's own list -/
def dgl (f : List Int → Option Int) (L : Nat → List (List Int)) (x : Option (Int × List Int)) (n : Nat) : Option (Int × List Int) := match n with
  | 0 => x
  | n + 1 => fmin f (dgl f L x n) ((L n).map (fun s => (n : Int) :: s))
theorem dgl_gen (f : List Int → Option Int) (L : Nat → List (List Int)) (x : Option (Int × List Int)) (m : Nat) : fmin f x ((List.range m).flatMap (fun (a : Nat) => (L a).map (fun t => (a : Int) :: t))) = dgl f L x m := by
  induction m with
  | zero => rfl
  | succ m ih =>
    rw [List.range_succ, List.flatMap_append, fmin_app, ih, dgl]
    congr 1
    rw [List.flatMap_cons, List.flatMap_nil, List.append_nil]
theorem rg_cs {V : (Nat → Int → Int)} {S : Int → Int} (n : Nat) : ∀ (R H : Int → Int) (u : Nat) (l : Int), u + n ≤ 7 → (∀ b : Int, 0 ≤ b → b < 7 → 0 ≤ H b ∧ (H b = 0 ↔ (u : Int) ≤ b)) → (fmin (vT V S R u l) none (rg S n l u)).map (fun p => (p.1, encl S l p.2)) = fmin (vP V S true R H u l) none (cs S 7 n l) := by
  induction n with
  | zero => intro R H u l _ _; rfl
  | succ n ih =>
    intro R H u l hun hH
    rw [rg, cs]
    by_cases en : S (20 + l) = -1
    · rw [if_pos en, if_pos en, dgl_gen, dgl_gen]
      have blk : ∀ a : Nat, a ≤ u → (fmin (vT V S R u l) none ((rg S n (l + 1) (if a = u then u + 1 else u)).map (fun s => (a : Int) :: s))).map (fun p => (p.1, encl S l p.2)) = fmin (vP V S true R H u l) none ((cs S 7 n (l + 1)).map (fun s => (a : Int) :: s)) := by
        intro a ha
        have hHa := hH a (by omega) (by omega)
        by_cases hc : V 6 l ≤ R a
        · have eH : (if H (a : Int) = 0 then (1 : Int) else 0) = if (a : Int) = (u : Int) then 1 else 0 := by
            by_cases e : (a : Int) = u
            · rw [if_pos e, if_pos (hHa.2.mpr (by omega))]
            · rw [if_neg e, if_neg (fun hh => e (by have := hHa.2.mp hh; omega))]
          have eu : (if H (a : Int) = 0 then (u : Int) + 1 else u) = ((if a = u then u + 1 else u : Nat) : Int) := by
            by_cases e : a = u
            · rw [if_pos e, if_pos (hHa.2.mpr (by omega))]; omega
            · rw [if_neg e, if_neg (fun hh => e (by have := hHa.2.mp hh; omega))]
          have en2 : nu S l u a = ((if a = u then u + 1 else u : Nat) : Int) := by
            unfold nu
            by_cases e : a = u
            · rw [if_pos e, if_pos ⟨en, by omega⟩]; omega
            · rw [if_neg e, if_neg (fun hh => e (by omega))]
          have s1 := fmin_shift (vT V S (ud R a (R a - V 6 l)) (if a = u then u + 1 else u : Nat) (l + 1)) (vT V S R u l) (fun t => (a : Int) :: t) (if (a : Int) = (u : Int) then 1 else 0) (rg S n (l + 1) (if a = u then u + 1 else u)) (by
            intro t _
            rw [vT, if_pos en, if_pos hc, en2]) none
          have s2 := fmin_shift (vP V S true (ud R a (R a - V 6 l)) (ud H a (H a + 1)) (if a = u then u + 1 else u : Nat) (l + 1)) (vP V S true R H u l) (fun t => (a : Int) :: t) (if (a : Int) = (u : Int) then 1 else 0) (cs S 7 n (l + 1)) (by
            intro t _
            rw [vP, if_pos en, if_pos ⟨hc, fun _ => by omega⟩, eH, eu]) none
          rw [Option.map_none] at s1 s2
          have ihx := ih (ud R a (R a - V 6 l)) (ud H a (H a + 1)) (if a = u then u + 1 else u) (l + 1) (by split <;> omega) (by
            intro b b0 b7
            have := hH b b0 b7
            unfold ud
            by_cases eb : b = a
            · rw [if_pos eb]
              have h0 := hHa.1
              split <;> omega
            · rw [if_neg eb]
              split <;> omega)
          rw [s1, s2, ← ihx, Option.map_map, Option.map_map]
          congr 1
          funext p
          show (_, encl S l ((a : Int) :: p.2)) = _
          rw [encl, if_pos en]
          rfl
        · rw [fmin_none, fmin_none]
          · rfl
          · intro t ht
            rw [List.mem_map] at ht
            obtain ⟨s, _, rfl⟩ := ht
            rw [vP, if_pos en, if_neg (fun hh => hc hh.1)]
          · intro t ht
            rw [List.mem_map] at ht
            obtain ⟨s, _, rfl⟩ := ht
            rw [vT, if_pos en, if_neg hc]
      have up : ∀ m, m ≤ u + 1 → (dgl (vT V S R u l) (fun a => rg S n (l + 1) (if a = u then u + 1 else u)) none m).map (fun p => (p.1, encl S l p.2)) = dgl (vP V S true R H u l) (fun _ => cs S 7 n (l + 1)) none m := by
        intro m
        induction m with
        | zero => intro _; rfl
        | succ m ihm =>
          intro hm
          rw [dgl, dgl, fmin_comb, comb_map, ihm (by omega), blk m (by omega), ← fmin_comb]
      have dn : ∀ j, u + 1 + j ≤ 7 → dgl (vP V S true R H u l) (fun _ => cs S 7 n (l + 1)) none (u + 1 + j) = dgl (vP V S true R H u l) (fun _ => cs S 7 n (l + 1)) none (u + 1) := by
        intro j
        induction j with
        | zero => intro _; rfl
        | succ j ihj =>
          intro hj
          rw [show u + 1 + (j + 1) = u + 1 + j + 1 by omega, dgl, fmin_none, ihj (by omega)]
          intro t ht
          rw [List.mem_map] at ht
          obtain ⟨s, _, rfl⟩ := ht
          rw [vP, if_pos en, if_neg (fun hh => by have := hh.2 rfl; omega)]
      have := dn (7 - (u + 1)) (by omega)
      rw [show u + 1 + (7 - (u + 1)) = 7 by omega] at this
      rw [this]
      exact up (u + 1) (Nat.le_refl _)
    · rw [if_neg en, if_neg en]
      have hnu : nu S l u 0 = u := by unfold nu; rw [if_neg (fun hh => en hh.1)]
      have idm : ∀ o : Option Int, o = o.map (fun v => v + 0) := by
        intro o
        have : (fun v : Int => v + 0) = id := by funext v; show v + 0 = v; omega
        rw [this, Option.map_id]; rfl
      have s1 := fmin_shift (vT V S R u (l + 1)) (vT V S R u l) (fun t => (0 : Int) :: t) 0 (rg S n (l + 1) u) (by
        intro t _
        rw [vT, if_neg en]
        exact idm _) none
      have s2 := fmin_shift (vP V S true R H u (l + 1)) (vP V S true R H u l) (fun t => (-1 : Int) :: t) 0 (cs S 7 n (l + 1)) (by
        intro t _
        rw [vP, if_neg en]
        exact idm _) none
      rw [Option.map_none] at s1 s2
      rw [s1, s2, ← ih R H u (l + 1) (by omega) hH, Option.map_map, Option.map_map]
      congr 1
      funext p
      show (_, encl S l ((0 : Int) :: p.2)) = _
      rw [encl, if_neg en]
      rfl
/-- what comes next, by places -/
theorem nxt_none (S : Int → Int) (t : List Int) : ∀ (l u : Int), (∀ j : Nat, j < t.length → ¬ (S (20 + (l + j)) = -1 ∧ t.getD j 0 < (bfs S l u t).getD j 0)) → nxt S l u t = none := by
  induction t with
  | nil => intro l u _; rfl
  | cons a t ih =>
    intro l u h
    have h0 := h 0 (by simp)
    rw [bfs, List.getD_cons_zero, List.getD_cons_zero, show l + ((0 : Nat) : Int) = l by omega] at h0
    rw [nxt, ih (l + 1) (nu S l u a) (by
      intro j hj
      have := h (j + 1) (by simp; omega)
      rw [bfs, List.getD_cons_succ, List.getD_cons_succ, show l + ((j + 1 : Nat) : Int) = l + 1 + j by omega] at this
      exact this), if_neg h0]
theorem nxt_some (S : Int → Int) (t : List Int) : ∀ (l u : Int) (i : Nat), i < t.length → (S (20 + (l + i)) = -1 ∧ t.getD i 0 < (bfs S l u t).getD i 0) → (∀ j : Nat, i < j → j < t.length → ¬ (S (20 + (l + j)) = -1 ∧ t.getD j 0 < (bfs S l u t).getD j 0)) →
    ∃ t', nxt S l u t = some t' ∧ t'.length = t.length ∧ ∀ j : Nat, j < t.length → t'.getD j 0 = if j < i then t.getD j 0 else if j = i then t.getD i 0 + 1 else 0 := by
  induction t with
  | nil => intro l u i hi; simp at hi
  | cons a t ih =>
    intro l u i hi hp hno
    rcases i with _ | i
    · rw [bfs, List.getD_cons_zero, List.getD_cons_zero, show l + ((0 : Nat) : Int) = l by omega] at hp
      have hn : nxt S (l + 1) (nu S l u a) t = none := nxt_none S t (l + 1) (nu S l u a) (by
        intro j hj
        have := hno (j + 1) (by omega) (by simp; omega)
        rw [bfs, List.getD_cons_succ, List.getD_cons_succ, show l + ((j + 1 : Nat) : Int) = l + 1 + j by omega] at this
        exact this)
      refine ⟨(a + 1) :: List.replicate t.length 0, by rw [nxt, hn, if_pos hp], by simp, ?_⟩
      intro j hj
      rcases j with _ | j
      · rw [List.getD_cons_zero, List.getD_cons_zero, if_neg (by omega), if_pos rfl]
      · rw [List.getD_cons_succ, if_neg (by omega), if_neg (by omega), List.getD_eq_getElem?_getD, List.getElem?_replicate]
        split <;> rfl
    · rw [bfs, List.getD_cons_succ, List.getD_cons_succ, show l + ((i + 1 : Nat) : Int) = l + 1 + i by omega] at hp
      obtain ⟨t', h1, h2, h3⟩ := ih (l + 1) (nu S l u a) i (by simpa using hi) hp (by
        intro j hj hjl
        have := hno (j + 1) (by omega) (by simp; omega)
        rw [bfs, List.getD_cons_succ, List.getD_cons_succ, show l + ((j + 1 : Nat) : Int) = l + 1 + j by omega] at this
        exact this)
      refine ⟨a :: t', by rw [nxt, h1], by simp [h2], ?_⟩
      intro j hj
      rcases j with _ | j
      · rw [List.getD_cons_zero, List.getD_cons_zero, if_pos (by omega)]
      · rw [List.getD_cons_succ, List.getD_cons_succ, List.getD_cons_succ, h3 j (by simpa using hj)]
        by_cases e : j < i
        · rw [if_pos e, if_pos (show j + 1 < i + 1 by omega)]
        · rw [if_neg e, if_neg (show ¬ j + 1 < i + 1 by omega)]
          by_cases e2 : j = i
          · rw [if_pos e2, if_pos (show j + 1 = i + 1 by omega)]
          · rw [if_neg e2, if_neg (show ¬ j + 1 = i + 1 by omega)]
