/-! Trips: the reference. -/
theorem rg_bfs (S : Int → Int) (n : Nat) : ∀ (l : Int) (u : Nat), ∀ t ∈ rg S n l u, ∀ j : Nat, j < n → 0 ≤ t.getD j 0 ∧ t.getD j 0 ≤ (bfs S l u t).getD j 0 ∧ (bfs S l u t).getD j 0 ≤ u + j := by
  induction n with
  | zero => intro l u t _ j hj; omega
  | succ n ih =>
    intro l u t ht j hj
    rw [rg] at ht
    split at ht
    · next en =>
      rw [List.mem_flatMap] at ht
      obtain ⟨a, ha, ht⟩ := ht
      rw [List.mem_map] at ht
      obtain ⟨s, hs, rfl⟩ := ht
      have ha' := List.mem_range.mp ha
      have hnu : nu S l u a = ((if a = u then u + 1 else u : Nat) : Int) := by
        unfold nu
        by_cases e : a = u
        · rw [if_pos e, if_pos ⟨en, by omega⟩]; omega
        · rw [if_neg e, if_neg (fun hh => e (by omega))]
      rw [bfs, hnu]
      rcases j with _ | j
      · rw [List.getD_cons_zero, List.getD_cons_zero]; omega
      · rw [List.getD_cons_succ, List.getD_cons_succ]
        have := ih (l + 1) _ s hs j (by omega)
        have hq : ((if a = u then u + 1 else u : Nat) : Int) ≤ u + 1 := by split <;> omega
        omega
    · next en =>
      rw [List.mem_map] at ht
      obtain ⟨s, hs, rfl⟩ := ht
      have hnu : nu S l u 0 = (u : Int) := by unfold nu; rw [if_neg (fun hh => en hh.1)]
      rw [bfs, hnu]
      rcases j with _ | j
      · rw [List.getD_cons_zero, List.getD_cons_zero]; omega
      · rw [List.getD_cons_succ, List.getD_cons_succ]
        have := ih (l + 1) _ s hs j (by omega)
        omega
section TRI
variable {V : (Nat → Int → Int)} {S : Int → Int} {near : Int32}
theorem tot_in (S : Int → Int) (t : List Int) : ∀ (l u : Int), u ≤ tot S l u t ∧ tot S l u t ≤ u + t.length := by
  induction t with
  | nil => intro l u; rw [tot]; simp
  | cons a t ih =>
    intro l u
    have := ih (l + 1) (nu S l u a)
    rw [tot, List.length_cons]
    unfold nu at this ⊢
    split at this <;> split <;> omega
theorem rf_before {I : (Nat → Nat → Int32)} (h : rOK V S I) (hnear : ∀ l : Int, 0 ≤ l → l < V 0 3 → bit near l = decide (S (20 + l) = -1)) {t : List Int} (tl : t.length = (V 0 3).toNat) (tb : ∀ j : Nat, j < t.length → 0 ≤ t.getD j 0 ∧ t.getD j 0 ≤ 7) (h89 : ∀ j : Nat, j < t.length → I 89 j = iN (t.getD j 0)) {n : Nat} (hn : 12 ≤ n) :
    ∃ I', fX12_layBefore n near I = some (iN (tot S 0 0 t), I') ∧ ex [90] I I' ∧ ∀ j : Nat, j < t.length → I' 90 j = iN ((bfs S 0 0 t).getD j 0) := by
  have hu := h.1.1
  have key : ∀ (s : List Int) (m : Nat) (l u : Int) (J : (Nat → Nat → Int32)), ex [90] I J → 0 ≤ l → l + s.length = t.length → s.length < m → (0 ≤ u ∧ u ≤ l) → (∀ i : Nat, i < s.length → I 89 (l.toNat + i) = iN (s.getD i 0) ∧ 0 ≤ s.getD i 0 ∧ s.getD i 0 ≤ 7) →
      ∃ I', fX12_layBefore_L4 m near (iN u) (iN l) J = some (iN (tot S l u s), I') ∧ ex [90] I I' ∧ (∀ i : Nat, i < s.length → I' 90 (l.toNat + i) = iN ((bfs S l u s).getD i 0)) ∧ ∀ i : Nat, i < l.toNat → I' 90 i = J 90 i := by
    intro s
    induction s with
    | nil =>
      intro m l u J hx l0 l1 hm hu0 hi
      obtain ⟨m, rfl⟩ : ∃ m', m = m' + 1 := ⟨m - 1, by omega⟩
      rw [List.length_nil] at l1
      have hv : J 62 49 = iN (V 0 3) := by rw [hx 62 (by decide)]; exact h.2.2.1.1.2.2.2.1
      refine ⟨J, ?_, hx, by intro i hi; simp at hi, fun _ _ => rfl⟩
      rw [fX12_layBefore_L4, hv, tot]
      simp (disch := omega) only [iN_lit, iN_add, iN_sub, iN_mul, iN_neg, iN_lt, iN_eq, iN_tn, if_true, if_false, if_pos, if_neg]
    | cons a s ih =>
      intro m l u J hx l0 l1 hm hu0 hi
      obtain ⟨m, rfl⟩ : ∃ m', m = m' + 1 := ⟨m - 1, by omega⟩
      rw [List.length_cons] at l1 hm hi
      have hv : J 62 49 = iN (V 0 3) := by rw [hx 62 (by decide)]; exact h.2.2.1.1.2.2.2.1
      have i0 := hi 0 (by omega)
      rw [Nat.add_zero, List.getD_cons_zero] at i0
      have j89 : J 89 l.toNat = iN a := by rw [hx 89 (by decide)]; exact i0.1
      have hnl := hnear l l0 (by omega)
      have x1 : ex [90] I (mm_up J 90 l.toNat (iN u)) := ex_trans hx (ex_up (by decide))
      have hnu : 0 ≤ nu S l u a ∧ nu S l u a ≤ l + 1 := by unfold nu; split <;> omega
      obtain ⟨I', g1, g2, g3, g4⟩ := ih m (l + 1) (nu S l u a) (mm_up J 90 l.toNat (iN u)) x1 (by omega) (by omega) (by omega) hnu (by
        intro i h
        have := hi (i + 1) (by omega)
        rw [List.getD_cons_succ] at this
        rw [show (l + 1).toNat + i = l.toNat + (i + 1) by omega]
        exact this)
      refine ⟨I', ?_, g2, ?_, ?_⟩
      · rw [fX12_layBefore_L4, hv, tot]
        simp (disch := omega) only [iN_lit, iN_add, iN_sub, iN_mul, iN_neg, iN_lt, iN_eq, iN_tn, if_true, if_false, if_pos, if_neg, iN_31, bit_t1, j89]
        rw [hnl]
        unfold nu at g1 ⊢
        by_cases en : S (20 + l) = -1
        · rw [if_pos (decide_eq_true en)]
          by_cases e : a = u
          · rw [if_pos e, if_pos ⟨en, e⟩]
            rw [if_pos ⟨en, e⟩] at g1
            exact g1
          · rw [if_neg e, if_neg (fun hh => e hh.2)]
            rw [if_neg (fun hh => e hh.2)] at g1
            exact g1
        · rw [if_neg (by rw [decide_eq_false en]; decide), if_neg (fun hh => en hh.1)]
          rw [if_neg (fun hh => en hh.1)] at g1
          exact g1
      · intro i hi'
        rw [bfs]
        rcases i with _ | i
        · rw [Nat.add_zero, List.getD_cons_zero, g4 l.toNat (by omega), up_eq]
        · rw [List.getD_cons_succ, show l.toNat + (i + 1) = (l + 1).toNat + i by omega]
          exact g3 i (by rw [List.length_cons] at hi'; omega)
      · intro i hi'
        rw [g4 i (by omega), up_k (by omega)]
  obtain ⟨I', g1, g2, g3, _⟩ := key t n 0 0 I ex_refl (by omega) (by omega) (by omega) (by omega) (fun i hi => by rw [show (0 : Int).toNat + i = i by omega]; exact ⟨h89 i hi, tb i hi⟩)
  refine ⟨I', ?_, g2, fun j hj => by have := g3 j hj; rw [show (0 : Int).toNat + j = j by omega] at this; exact this⟩
  rw [fX12_layBefore]
  simp only [iN_lit]
  rw [g1]
  rfl
theorem rf_flat {I : (Nat → Nat → Int32)} (h : rOK V S I) (hnear : ∀ l : Int, 0 ≤ l → l < V 0 3 → bit near l = decide (S (20 + l) = -1)) {t : List Int} (tl : t.length = (V 0 3).toNat) (tb : ∀ j : Nat, j < t.length → 0 ≤ t.getD j 0 ∧ t.getD j 0 ≤ 7) (h89 : ∀ j : Nat, j < t.length → I 89 j = iN (t.getD j 0)) {W : Int} (hW : 0 ≤ W ∧ W ≤ 99) {n : Nat} (hn : 20 ≤ n) :
    ∃ I', fX12_isFlat n near (iN W) I = some (if (vT V S (fun _ => W) 0 0 t).isSome = true then iN 1 else iN 0, I') ∧ ex [91] I I' := by
  have hu := h.1.1
  obtain ⟨n1, I1, a1, a2, a3, a4⟩ := loop (fun n k I => fX12_isFlat_L2 n near (iN W) (iN k) I) 1 (P := 8) (fun k J => ex [91] I J ∧ ∀ z : Int, 0 ≤ z → z < k → J 91 z.toNat = iN 0)
    (by
      intro n k J hn k0 k1 ⟨hx, hz⟩
      refine ⟨mm_up J 91 k.toNat (iN 0), ?_, ex_trans hx (ex_up (by decide)), ?_⟩
      · show fX12_isFlat_L2 (n + 1) _ _ _ _ = _
        rw [fX12_isFlat_L2]
        simp (disch := omega) only [iN_lit, iN_add, iN_sub, iN_mul, iN_neg, iN_lt, iN_eq, iN_tn, if_true, if_false, if_pos, if_neg]
      · intro z z0 z1
        rw [up_c]
        by_cases e : z = k
        · rw [if_pos (by omega)]
        · rw [if_neg (by omega)]; exact hz z z0 (by omega)) 8 n 0 I (by omega) (by omega) ⟨ex_refl, by intro z h1 h2; omega⟩ (by omega)
  have a2' : fX12_isFlat_L2 n near (iN W) (iN 0) I = some I1 := by
    have : fX12_isFlat_L2 n near (iN W) (iN 0) I = fX12_isFlat_L2 n1 near (iN W) (iN 8) I1 := a2
    rw [this]
    obtain ⟨n1, rfl⟩ : ∃ m, n1 = m + 1 := ⟨n1 - 1, by omega⟩
    rw [fX12_isFlat_L2]
    simp (disch := omega) only [iN_lit, iN_add, iN_sub, iN_mul, iN_neg, iN_lt, iN_eq, iN_tn, if_true, if_false, if_pos, if_neg]
  have key : ∀ (s : List Int) (m : Nat) (l u : Int) (R : Int → Int) (f : Bool) (J : (Nat → Nat → Int32)), ex [91] I J → 0 ≤ l → l + s.length = t.length → s.length < m → (∀ z : Int, 0 ≤ z → z < 8 → J 91 z.toNat = iN (W - R z) ∧ 0 ≤ W - R z ∧ W - R z ≤ 99 * l) → (∀ i : Nat, i < s.length → I 89 (l.toNat + i) = iN (s.getD i 0) ∧ 0 ≤ s.getD i 0 ∧ s.getD i 0 ≤ 7) →
      ∃ I', fX12_isFlat_L26 m near (iN W) (if f = true then iN 1 else iN 0) (iN l) J = some (if f = true ∧ (vT V S R u l s).isSome = true then iN 1 else iN 0, I') ∧ ex [91] I I' := by
    intro s
    induction s with
    | nil =>
      intro m l u R f J hx l0 l1 hm hw hi
      obtain ⟨m, rfl⟩ : ∃ m', m = m' + 1 := ⟨m - 1, by omega⟩
      rw [List.length_nil] at l1
      have hv : J 62 49 = iN (V 0 3) := by rw [hx 62 (by decide)]; exact h.2.2.1.1.2.2.2.1
      refine ⟨J, ?_, hx⟩
      rw [fX12_isFlat_L26, hv, vT]
      simp (disch := omega) only [iN_lit, iN_add, iN_sub, iN_mul, iN_neg, iN_lt, iN_eq, iN_tn, if_true, if_false, if_pos, if_neg]
      cases f <;> rfl
    | cons a s ih =>
      intro m l u R f J hx l0 l1 hm hw hi
      obtain ⟨m, rfl⟩ : ∃ m', m = m' + 1 := ⟨m - 1, by omega⟩
      rw [List.length_cons] at l1 hm hi
      have hv : J 62 49 = iN (V 0 3) := by rw [hx 62 (by decide)]; exact h.2.2.1.1.2.2.2.1
      have i0 := hi 0 (by omega)
      rw [Nat.add_zero, List.getD_cons_zero] at i0
      have j89 : J 89 l.toNat = iN a := by rw [hx 89 (by decide)]; exact i0.1
      have hnl := hnear l l0 (by omega)
      have h6 := h.1.2.2.2.2.1 l l0 (by omega)
      have j83 : J 83 l.toNat = iN (V 6 l) := by rw [hx 83 (by decide)]; exact h.2.2.1.2.2.2.2.2.2.1 l l0 (by omega)
      have hwa := hw a (by omega) (by omega)
      have hi' : ∀ i : Nat, i < s.length → I 89 ((l + 1).toNat + i) = iN (s.getD i 0) ∧ 0 ≤ s.getD i 0 ∧ s.getD i 0 ≤ 7 := by
        intro i h
        have := hi (i + 1) (by omega)
        rw [List.getD_cons_succ] at this
        rw [show (l + 1).toNat + i = l.toNat + (i + 1) by omega]
        exact this
      have unf := fX12_isFlat_L26.eq_def (m + 1) near (iN W) (if f = true then iN 1 else iN 0) (iN l) J
      dsimp only at unf
      rw [hv] at unf
      simp (disch := omega) only [iN_lit, iN_add, iN_sub, iN_mul, iN_neg, iN_lt, iN_eq, iN_tn, if_true, if_false, if_pos, if_neg, iN_31, bit_t0, j89, j83, hwa.1, up_eq] at unf
      rw [hnl] at unf
      by_cases en : S (20 + l) = -1
      · rw [decide_eq_true en, ite_n (show ¬ true = false by decide)] at unf
        have x1 : ex [91] I (mm_up J 91 a.toNat (iN (W - R a + V 6 l))) := ex_trans hx (ex_up (by decide))
        have nx : ∀ f' : Bool, _ := fun f' => ih m (l + 1) (nu S l u a) (ud R a (R a - V 6 l)) f' (mm_up J 91 a.toNat (iN (W - R a + V 6 l))) x1 (by omega) (by omega) (by omega) (by
          intro z z0 z8
          have := hw z z0 z8
          rw [up_c]
          unfold ud
          by_cases ez : z = a
          · rw [if_pos (by omega), if_pos ez]
            refine ⟨by congr 1; omega, by omega, by omega⟩
          · rw [if_neg (by omega), if_neg ez]
            exact ⟨this.1, this.2.1, by omega⟩) hi'
        rw [vT, if_pos en]
        cases f with
        | false =>
          rw [ite_p (show (if false = true then iN 1 else iN 0) = iN 0 from rfl)] at unf
          obtain ⟨I', g1, g2⟩ := nx false
          refine ⟨I', unf.trans ?_, g2⟩
          rw [show (if false = true then iN 1 else iN 0) = iN 0 from rfl] at g1
          rw [g1, if_neg (fun hh => by cases hh.1), if_neg (fun hh => by cases hh.1)]
        | true =>
          rw [ite_n (show ¬ (if true = true then iN 1 else iN 0) = iN 0 from n10)] at unf
          by_cases e : W < W - R a + V 6 l
          · rw [ite_p e] at unf
            obtain ⟨I', g1, g2⟩ := nx false
            refine ⟨I', unf.trans ?_, g2⟩
            rw [show (if false = true then iN 1 else iN 0) = iN 0 from rfl] at g1
            rw [g1, if_neg (fun hh => by cases hh.1), if_neg (show ¬ V 6 l ≤ R a by omega), if_neg (fun hh => by cases hh.2)]
          · rw [ite_n e] at unf
            obtain ⟨I', g1, g2⟩ := nx true
            refine ⟨I', unf.trans ?_, g2⟩
            rw [show (if true = true then iN 1 else iN 0) = iN 1 from rfl] at g1
            rw [g1, if_pos (show V 6 l ≤ R a by omega), Option.isSome_map]
      · rw [decide_eq_false en, ite_p rfl] at unf
        obtain ⟨I', g1, g2⟩ := ih m (l + 1) u R f J hx (by omega) (by omega) (by omega) (fun z z0 z8 => by have := hw z z0 z8; exact ⟨this.1, this.2.1, by omega⟩) hi'
        refine ⟨I', unf.trans ?_, g2⟩
        rw [g1, vT, if_neg en]
  obtain ⟨I', g1, g2⟩ := key t n 0 0 (fun _ => W) true I1 a3 (by omega) (by omega) (by omega) (fun z z0 z8 => ⟨by rw [a4 z z0 z8]; congr 1; omega, by omega, by omega⟩) (fun i hi => by rw [show (0 : Int).toNat + i = i by omega]; exact ⟨h89 i hi, tb i hi⟩)
  refine ⟨I', ?_, g2⟩
  rw [fX12_isFlat]
  simp only [iN_lit]
  rw [a2', Option.bind_some]
  have g1' : fX12_isFlat_L26 n near (iN W) (iN 1) (iN 0) I1 = some (if (vT V S (fun _ => W) 0 0 t).isSome = true then iN 1 else iN 0, I') := by
    rw [show (if true = true then iN 1 else iN 0) = iN 1 from rfl] at g1
    rw [g1]
    simp only [true_and]
  rw [g1', Option.bind_some]
  by_cases e : (vT V S (fun _ => W) 0 0 t).isSome = true
  · rw [if_pos e, ite_p (Or.inr rfl)]
  · rw [if_neg e, ite_p (Or.inl rfl)]
theorem rf_next {I : (Nat → Nat → Int32)} (h : rOK V S I) (hnear : ∀ l : Int, 0 ≤ l → l < V 0 3 → bit near l = decide (S (20 + l) = -1)) {t : List Int} (tl : t.length = (V 0 3).toNat) (tb : ∀ j : Nat, j < t.length → 0 ≤ t.getD j 0 ∧ t.getD j 0 ≤ (bfs S 0 0 t).getD j 0 ∧ (bfs S 0 0 t).getD j 0 ≤ 6) (h89 : ∀ j : Nat, j < t.length → I 89 j = iN (t.getD j 0)) (h90 : ∀ j : Nat, j < t.length → I 90 j = iN ((bfs S 0 0 t).getD j 0)) {n : Nat} (hn : 30 ≤ n) :
    ∃ I', fX12_nextTrips n near I = some (if (nxt S 0 0 t).isSome = true then iN 1 else iN 0, I') ∧ ex [89, 90] I I' ∧ ∀ t', nxt S 0 0 t = some t' → t'.length = t.length ∧ ((∀ j : Nat, j < t.length → 0 ≤ t'.getD j 0 ∧ t'.getD j 0 ≤ 7) → ∀ j : Nat, j < t.length → I' 89 j = iN (t'.getD j 0)) := by
  have hu := h.1.1
  have key : ∀ (k m : Nat), k ≤ t.length → k < m → (∀ j : Nat, k ≤ j → j < t.length → ¬ (S (20 + j) = -1 ∧ t.getD j 0 < (bfs S 0 0 t).getD j 0)) →
      (fX12_nextTrips_L7 m near (iN ((k : Int) - 1)) I = some (iN (-1)) ∧ ∀ j : Nat, j < t.length → ¬ (S (20 + j) = -1 ∧ t.getD j 0 < (bfs S 0 0 t).getD j 0)) ∨ (∃ i : Nat, i < t.length ∧ fX12_nextTrips_L7 m near (iN ((k : Int) - 1)) I = some (iN i) ∧ (S (20 + i) = -1 ∧ t.getD i 0 < (bfs S 0 0 t).getD i 0) ∧ ∀ j : Nat, i < j → j < t.length → ¬ (S (20 + j) = -1 ∧ t.getD j 0 < (bfs S 0 0 t).getD j 0)) := by
    intro k
    induction k with
    | zero =>
      intro m hk hm hno
      obtain ⟨m, rfl⟩ : ∃ m', m = m' + 1 := ⟨m - 1, by omega⟩
      left
      refine ⟨?_, fun j hj => hno j (by omega) hj⟩
      rw [fX12_nextTrips_L7]
      simp (disch := omega) only [iN_lit, iN_add, iN_sub, iN_mul, iN_neg, iN_lt, iN_eq, iN_tn, if_true, if_false, if_pos, if_neg]
      rfl
    | succ k ih =>
      intro m hk hm hno
      obtain ⟨m, rfl⟩ : ∃ m', m = m' + 1 := ⟨m - 1, by omega⟩
      have hnl := hnear k (by omega) (by omega)
      have tbk := tb k (by omega)
      have e89 := h89 k (by omega)
      have e90 := h90 k (by omega)
      have unf := fX12_nextTrips_L7.eq_def (m + 1) near (iN (((k + 1 : Nat) : Int) - 1)) I
      dsimp only at unf
      rw [show ((k + 1 : Nat) : Int) - 1 = (k : Int) by omega] at unf ⊢
      simp (disch := omega) only [iN_lit, iN_add, iN_sub, iN_mul, iN_neg, iN_lt, iN_eq, iN_tn, if_true, if_false, if_pos, if_neg, iN_31, bit_t0, Int.toNat_natCast, e89, e90] at unf
      rw [hnl, show (k : Int) + -1 = (k : Int) - 1 by omega] at unf
      by_cases en : S (20 + k) = -1
      · rw [decide_eq_true en, ite_n (show ¬ true = false by decide)] at unf
        by_cases e : t.getD k 0 = (bfs S 0 0 t).getD k 0
        · rw [ite_p e] at unf
          rw [unf]
          exact ih m (by omega) (by omega) (by
            intro j hj hjl
            by_cases ej : j = k
            · subst ej; omega
            · exact hno j (by omega) hjl)
        · rw [ite_n e] at unf
          right
          exact ⟨k, by omega, unf, ⟨en, by omega⟩, fun j hj hjl => hno j (by omega) hjl⟩
      · rw [decide_eq_false en, ite_p rfl] at unf
        rw [unf]
        exact ih m (by omega) (by omega) (by
          intro j hj hjl
          by_cases ej : j = k
          · subst ej; exact fun hh => en hh.1
          · exact hno j (by omega) hjl)
  rw [fX12_nextTrips, h.2.2.1.1.2.2.2.1]
  simp only [iN_lit, iN_sub]
  have kk := key t.length n (by omega) (by omega) (by intro j h1 h2; omega)
  rw [show (t.length : Int) - 1 = V 0 3 - 1 by omega] at kk
  rcases kk with ⟨q1, q2⟩ | ⟨i, i1, i2, i3, i4⟩
  · have hn0 : nxt S 0 0 t = none := nxt_none S t 0 0 (fun j hj => by rw [Int.zero_add]; exact q2 j hj)
    rw [q1, Option.bind_some, ite_p (show iN (-1) < iN 0 by rw [iN_lt (by omega) (by omega) (by omega) (by omega)]; omega), hn0]
    exact ⟨I, rfl, ex_refl, by intro t' h; cases h⟩
  · obtain ⟨t', n1, n2, n3⟩ := nxt_some S t 0 0 i i1 (by rw [Int.zero_add]; exact i3) (fun j hj hjl => by rw [Int.zero_add]; exact i4 j hj hjl)
    have tbi := tb i i1
    rw [i2, Option.bind_some]
    simp (disch := omega) only [iN_lt, iN_tn, if_neg, Int.toNat_natCast, h89 i i1, iN_add]
    obtain ⟨m1, I1, a1, a2, a3, a4⟩ := loop (fun n k J => fX12_nextTrips_L60 n near (iN ((i : Int) + 1 + k)) J) 1 (P := V 0 3 - (i + 1)) (fun k J => ex [89] (mm_up I 89 i (iN (t.getD i 0 + 1))) J ∧ (∀ z : Nat, i + 1 ≤ z → (z : Int) < i + 1 + k → J 89 z = iN 0) ∧ ∀ z : Nat, z < i + 1 → J 89 z = mm_up I 89 i (iN (t.getD i 0 + 1)) 89 z)
      (by
        intro n k J hn k0 k1 ⟨hx, hz, hz2⟩
        have hv : J 62 49 = iN (V 0 3) := by rw [hx 62 (by decide), up_a (by decide)]; exact h.2.2.1.1.2.2.2.1
        refine ⟨mm_up J 89 ((i : Int) + 1 + k).toNat (iN 0), ?_, ex_trans hx (ex_up (by decide)), ?_, ?_⟩
        · show fX12_nextTrips_L60 (n + 1) _ _ _ = _
          rw [fX12_nextTrips_L60, hv]
          simp (disch := omega) only [iN_lit, iN_add, iN_sub, iN_mul, iN_neg, iN_lt, iN_eq, iN_tn, if_true, if_false, if_pos, if_neg]
          rw [show (i : Int) + 1 + k + 1 = (i : Int) + 1 + (k + 1) by omega]
        · intro z z0 z1
          rw [up_c]
          by_cases e : z = ((i : Int) + 1 + k).toNat
          · rw [if_pos e]
          · rw [if_neg e]; exact hz z z0 (by omega)
        · intro z z0
          rw [up_k (by omega)]
          exact hz2 z z0) (V 0 3 - (i + 1)).toNat n 0 (mm_up I 89 i (iN (t.getD i 0 + 1))) (by omega) (by omega) ⟨ex_refl, by intro z z0 z1; omega, fun _ _ => rfl⟩ (by omega)
    obtain ⟨a4, a5⟩ := a4
    have a2' : fX12_nextTrips_L60 n near (iN ((i : Int) + 1)) (mm_up I 89 i (iN (t.getD i 0 + 1))) = some I1 := by
      have : fX12_nextTrips_L60 n near (iN ((i : Int) + 1 + 0)) (mm_up I 89 i (iN (t.getD i 0 + 1))) = fX12_nextTrips_L60 m1 near (iN ((i : Int) + 1 + (V 0 3 - (i + 1)))) I1 := a2
      rw [Int.add_zero] at this
      rw [this]
      have hv : I1 62 49 = iN (V 0 3) := by rw [a3 62 (by decide), up_a (by decide)]; exact h.2.2.1.1.2.2.2.1
      obtain ⟨m1, rfl⟩ : ∃ m, m1 = m + 1 := ⟨m1 - 1, by omega⟩
      rw [fX12_nextTrips_L60, hv]
      simp (disch := omega) only [iN_lit, iN_add, iN_sub, iN_mul, iN_neg, iN_lt, iN_eq, iN_tn, if_true, if_false, if_pos, if_neg]
    rw [a2', Option.bind_some]
    have x1 : ex [89] I I1 := ex_trans (ex_up (by decide)) a3
    have row : ∀ j : Nat, j < t.length → I1 89 j = iN (t'.getD j 0) := by
      intro j hj
      rw [n3 j hj]
      by_cases e : j < i
      · rw [if_pos e, a5 j (by omega), up_k (by omega)]; exact h89 j hj
      · rw [if_neg e]
        by_cases e2 : j = i
        · rw [if_pos e2, a5 j (by omega), e2, up_eq]
        · rw [if_neg e2, a4 j (by omega) (by omega)]
    have tb' : ∀ j : Nat, j < t'.length → 0 ≤ t'.getD j 0 ∧ t'.getD j 0 ≤ 7 := by
      intro j hj
      rw [n2] at hj
      have := tb j hj
      rw [n3 j hj]
      split
      · omega
      · split <;> omega
    obtain ⟨I2, b1, b2, b3⟩ := rf_before (rOK_ex h x1 (by decide)) hnear (t := t') (by omega) tb' (fun j hj => row j (by omega)) (n := n) (by omega)
    rw [b1, Option.bind_some, n1]
    refine ⟨I2, rfl, ex_trans (ex_mono x1 (by decide)) (ex_mono b2 (by decide)), ?_⟩
    intro t'' he
    injection he with he
    subst he
    exact ⟨n2, fun _ j hj => by rw [b2 89 (by decide)]; exact row j hj⟩
end TRI
