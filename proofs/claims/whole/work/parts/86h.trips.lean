/-! Trips: the method of the reference. -/
section TRJ
variable {V : (Nat → Int → Int)} {S : Int → Int} {near : Int32}
theorem rf_tlay {I : (Nat → Nat → Int32)} (h : rOK V S I) (hnear : ∀ l : Int, 0 ≤ l → l < V 0 3 → bit near l = decide (S (20 + l) = -1)) {T : List Int} (tl : T.length = (V 0 3).toNat) (h89 : ∀ j : Nat, j < T.length → I 89 j = iN (T.getD j 0)) {y1 y3 : Int32} {n : Nat} (hn : 12 ≤ n) :
    ∃ I', fX12_trips_L95 n y1 near y3 (iN 0) I = some I' ∧ ex [88] I I' ∧ ∀ z : Nat, z < (V 0 3).toNat → I' 88 z = iN ((encl S 0 T).getD z 0) := by
  have hu := h.1.1
  obtain ⟨n', I', q1, q2, q3, q4⟩ := loop (fun n k I => fX12_trips_L95 n y1 near y3 (iN k) I) 1 (P := V 0 3) (fun k J => ex [88] I J ∧ ∀ z : Nat, z < k → J 88 z = iN ((encl S 0 T).getD z 0))
    (by
      intro n k J hn k0 k1 ⟨hx, hz⟩
      have hv : J 62 49 = iN (V 0 3) := by rw [hx 62 (by decide)]; exact h.2.2.1.1.2.2.2.1
      have he := encl_get S T 0 k.toNat (by omega)
      rw [show (0 : Int) + ((k.toNat : Nat) : Int) = k by omega] at he
      refine ⟨mm_up J 88 k.toNat (iN ((encl S 0 T).getD k.toNat 0)), ?_, ex_trans hx (ex_up (by decide)), ?_⟩
      · show fX12_trips_L95 (n + 1) _ _ _ _ _ = _
        have e89 : J 89 k.toNat = iN (T.getD k.toNat 0) := by rw [hx 89 (by decide)]; exact h89 k.toNat (by omega)
        rw [fX12_trips_L95, hv]
        simp (disch := omega) only [iN_lit, iN_add, iN_sub, iN_mul, iN_neg, iN_lt, iN_eq, iN_tn, if_true, if_false, if_pos, if_neg, iN_31, bit_t1, e89]
        rw [hnear k k0 k1, he]
        by_cases e : S (20 + k) = -1
        · rw [if_pos (decide_eq_true e), if_pos e]
        · rw [if_neg (by rw [decide_eq_false e]; decide), if_neg e]
      · intro z z1
        rw [up_c]
        by_cases e : z = k.toNat
        · rw [if_pos e, e]
        · rw [if_neg e]; exact hz z (by omega)) (V 0 3).toNat n 0 I (by omega) (by omega) ⟨ex_refl, by intro z h; omega⟩ (by omega)
  refine ⟨I', ?_, q3, fun z hz => q4 z (by omega)⟩
  have q2' : fX12_trips_L95 n y1 near y3 (iN 0) I = fX12_trips_L95 n' y1 near y3 (iN (V 0 3)) I' := q2
  have hv : I' 62 49 = iN (V 0 3) := by rw [q3 62 (by decide)]; exact h.2.2.1.1.2.2.2.1
  rw [q2']
  obtain ⟨n', rfl⟩ : ∃ m, n' = m + 1 := ⟨n' - 1, by omega⟩
  rw [fX12_trips_L95, hv]
  simp (disch := omega) only [iN_lit, iN_add, iN_sub, iN_mul, iN_neg, iN_lt, iN_eq, iN_tn, if_true, if_false, if_pos, if_neg]
theorem rf_trip_s {b : Int} (hb1 : 0 ≤ b) (hb2 : b < V 0 2) (hnear : ∀ l : Int, 0 ≤ l → l < V 0 3 → bit near l = decide (S (20 + l) = -1)) : ∀ (L : List (List Int)) (n : Nat) (t : List Int) (x : Option (Int × List Int)) (I : (Nat → Nat → Int32)), rOK V S I → (∀ s ∈ t :: L, s ∈ rg S (V 0 3).toNat 0 0) → chn (nxt S 0 0) (t :: L) none → 60 + L.length ≤ n → (∀ j : Nat, j < t.length → I 89 j = iN (t.getD j 0)) → (0 ≤ worth 1000000 x ∧ worth 1000000 x ≤ 1000000) → rl (elay S x) I →
    (∀ (t' : List Int) (L' : List (List Int)), L = t' :: L' → ∀ (n : Nat) (x : Option (Int × List Int)) (I : (Nat → Nat → Int32)), rOK V S I → 60 + L'.length ≤ n → (∀ j : Nat, j < t'.length → I 89 j = iN (t'.getD j 0)) → (0 ≤ worth 1000000 x ∧ worth 1000000 x ≤ 1000000) → rl (elay S x) I → ∃ I', fX12_trips_L57 n (iN b) near (iN (worth 1000000 x)) (iN 1) I = some (iN (worth 1000000 (fmin (vT V S (fun _ => V 3 b) 0 0) x (t' :: L'))), I') ∧ xf [88, 89, 90, 91, 1061] I I' ∧ rl (elay S (fmin (vT V S (fun _ => V 3 b) 0 0) x (t' :: L'))) I') →
    ∃ I', fX12_trips_L57 n (iN b) near (iN (worth 1000000 x)) (iN 1) I = some (iN (worth 1000000 (fmin (vT V S (fun _ => V 3 b) 0 0) x (t :: L))), I') ∧ xf [88, 89, 90, 91, 1061] I I' ∧ rl (elay S (fmin (vT V S (fun _ => V 3 b) 0 0) x (t :: L))) I' := by
  intro L n t x I h hm hc hn h89 hx hr ih
  have hu := h.1.1
  have hbe := h.1.2.2.2.1 b hb1 hb2
  have htm := hm t (List.mem_cons_self ..)
  have tl := rg_len S _ 0 0 t htm
  have tb : ∀ j : Nat, j < (V 0 3).toNat → 0 ≤ t.getD j 0 ∧ t.getD j 0 ≤ (bfs S 0 0 t).getD j 0 ∧ (bfs S 0 0 t).getD j 0 ≤ j := fun j hj => by have q := rg_bfs S _ 0 0 t htm j hj; exact ⟨q.1, q.2.1, by have q2 := q.2.2; rw [show (((0 : Nat) : Int) + (j : Int)) = j by omega] at q2; exact q2⟩
  obtain ⟨n, rfl⟩ : ∃ m, n = m + 1 := ⟨n - 1, by omega⟩
  obtain ⟨I1, a1, a2, a3⟩ := rf_before h hnear tl (fun j hj => by have := tb j (by omega); omega) h89 (n := n) (by omega)
  have R1 := rOK_ex h a2 (by decide)
  have h89' : ∀ j : Nat, j < t.length → I1 89 j = iN (t.getD j 0) := fun j hj => by rw [a2 89 (by decide)]; exact h89 j hj
  have ti := tot_in S t 0 0
  have h80 := R1.2.2.1.2.2.2.1 b hb1 hb2
  -- what comes behind, whatever was found
  have fin : ∀ (y : Option (Int × List Int)) (J : (Nat → Nat → Int32)), rOK V S J → xf [88, 89, 90, 91, 1061] I J → J 89 = I1 89 → J 90 = I1 90 → (0 ≤ worth 1000000 y ∧ worth 1000000 y ≤ 1000000) → rl (elay S y) J →
      ∃ I', ((fX12_nextTrips n near J).bind fun o => fX12_trips_L57 n (iN b) near (iN (worth 1000000 y)) o.1 o.2) = some (iN (worth 1000000 (fmin (vT V S (fun _ => V 3 b) 0 0) y L)), I') ∧ xf [88, 89, 90, 91, 1061] I I' ∧ rl (elay S (fmin (vT V S (fun _ => V 3 b) 0 0) y L)) I' := by
    intro y J RJ xJ j89 j90 hy hry
    obtain ⟨J', c1, c2, c3⟩ := rf_next RJ hnear tl (fun j hj => by have := tb j (by omega); omega) (fun j hj => by rw [j89]; exact h89' j hj) (fun j hj => by rw [j90]; exact a3 j hj) (n := n) (by omega)
    have RJ' := rOK_ex RJ c2 (by decide)
    have xJ' : xf [88, 89, 90, 91, 1061] I J' := xf_trans xJ (xf_mono (xf_ex c2) (by decide))
    have hry' : rl (elay S y) J' := ⟨by rw [c2 62 (by decide)]; exact hry.1, fun z hz => by rw [c2 88 (by decide)]; exact hry.2 z hz⟩
    rw [c1, Option.bind_some]
    rcases L with _ | ⟨t', L'⟩
    · have hn0 : nxt S 0 0 t = none := hc
      rw [hn0]
      obtain ⟨n, rfl⟩ : ∃ m, n = m + 1 := ⟨n - 1, by simp at hn; omega⟩
      refine ⟨J', ?_, xJ', hry'⟩
      show fX12_trips_L57 (n + 1) _ _ _ (iN 0) J' = _
      rw [fX12_trips_L57]
      simp only [iN_lit, if_true]
      rfl
    · have hn1 : nxt S 0 0 t = some t' := hc.1
      have htm' := hm t' (List.mem_cons_of_mem _ (List.mem_cons_self ..))
      have tl' := rg_len S _ 0 0 t' htm'
      have tb' : ∀ j : Nat, j < (V 0 3).toNat → 0 ≤ t'.getD j 0 ∧ t'.getD j 0 ≤ (bfs S 0 0 t').getD j 0 ∧ (bfs S 0 0 t').getD j 0 ≤ j := fun j hj => by have q := rg_bfs S _ 0 0 t' htm' j hj; exact ⟨q.1, q.2.1, by have q2 := q.2.2; rw [show (((0 : Nat) : Int) + (j : Int)) = j by omega] at q2; exact q2⟩
      rw [hn1]
      have row := (c3 t' hn1).2 (fun j hj => by have := tb' j (by omega); omega)
      obtain ⟨I', d1, d2, d3⟩ := ih t' L' rfl n y J' RJ' (by rw [List.length_cons] at hn; omega) (fun j hj => row j (by omega)) hy hry'
      exact ⟨I', d1, xf_trans xJ' d2, d3⟩
  have unf := fX12_trips_L57.eq_def (n + 1) (iN b) near (iN (worth 1000000 x)) (iN 1) I
  dsimp only at unf
  simp only [iN_lit] at unf
  rw [ite_n n10, a1, Option.bind_some] at unf
  dsimp only at unf
  have hr1 : rl (elay S x) I1 := ⟨by rw [a2 62 (by decide)]; exact hr.1, fun z hz => by rw [a2 88 (by decide)]; exact hr.2 z hz⟩
  have x1 : xf [88, 89, 90, 91, 1061] I I1 := xf_mono (xf_ex a2) (by decide)
  show ∃ I', fX12_trips_L57 (n + 1) (iN b) near (iN (worth 1000000 x)) (iN 1) I = some (iN (worth 1000000 (fmin (vT V S (fun _ => V 3 b) 0 0) (fm (vT V S (fun _ => V 3 b) 0 0) x t) L)), I') ∧ _ ∧ rl (elay S (fmin (vT V S (fun _ => V 3 b) 0 0) (fm (vT V S (fun _ => V 3 b) 0 0) x t) L)) I'
  by_cases e : tot S 0 0 t < worth 1000000 x
  · obtain ⟨I2, b1, b2⟩ := rf_flat R1 hnear tl (fun j hj => by have := tb j (by omega); omega) h89' (W := V 3 b) (by omega) (n := n) (by omega)
    have R2 := rOK_ex R1 b2 (by decide)
    rw [ite_p (by rw [iN_lt (by omega) (by omega) (by omega) (by omega)]; exact e), ite_n (by rw [iN_lt (by omega) (by omega) (by omega) (by omega), iN_tn hb1 (by omega)]; omega), iN_tn hb1 (by omega), h80, b1, Option.bind_some] at unf
    have x2 : xf [88, 89, 90, 91, 1061] I I2 := xf_trans x1 (xf_mono (xf_ex b2) (by decide))
    have hr2 : rl (elay S x) I2 := ⟨by rw [b2 62 (by decide)]; exact hr1.1, fun z hz => by rw [b2 88 (by decide)]; exact hr1.2 z hz⟩
    cases ev : vT V S (fun _ => V 3 b) 0 0 t with
    | none =>
      have fe : fm (vT V S (fun _ => V 3 b) 0 0) x t = x := by rw [fm, ev]
      rw [ev, ite_p (show (if (none : Option Int).isSome = true then iN 1 else iN 0) = iN 0 from rfl)] at unf
      rw [fe, unf]
      exact fin x I2 R2 x2 (b2 89 (by decide)) (b2 90 (by decide)) hx hr2
    | some v =>
      have hv := vT_tot S t _ _ _ _ ev
      have hv' : v = tot S 0 0 t := by omega
      have fe : fm (vT V S (fun _ => V 3 b) 0 0) x t = some (v, t) := by
        rw [fm, ev]
        rcases x with _ | ⟨w, s⟩
        · rfl
        · rw [worth] at e
          show (if _ < w then _ else _) = _
          rw [if_pos (by omega)]
      rw [ev, ite_n (show ¬ (if (some v : Option Int).isSome = true then iN 1 else iN 0) = iN 0 from n10)] at unf
      obtain ⟨I3, d1, d2, d3⟩ := rf_tlay R2 hnear tl (fun j hj => by rw [b2 89 (by decide)]; exact h89' j hj) (y1 := iN b) (y3 := iN (tot S 0 0 t)) (n := n) (by omega)
      have hv49 : I3 62 49 = iN (V 0 3) := by rw [d2 62 (by decide)]; exact R2.2.2.1.1.2.2.2.1
      have x3 : xf [88, 1061] I2 (mm_up I3 62 61 (iN (V 0 3))) := xf_trans (xf_mono (xf_ex d2) (by decide)) (xf_u62 (by decide))
      rw [d1, Option.bind_some, hv49] at unf
      rw [fe, unf, ← hv']
      refine fin (some (v, t)) (mm_up I3 62 61 (iN (V 0 3))) (rOK_xf R2 x3 (by decide)) (xf_trans x2 (xf_mono x3 (by decide))) ?_ ?_ (by rw [worth]; omega) ⟨?_, ?_⟩
      · rw [up_a (by decide), d2 89 (by decide), b2 89 (by decide)]
      · rw [up_a (by decide), d2 90 (by decide), b2 90 (by decide)]
      · rw [up_eq, elay, encl_len, tl]; congr 1; omega
      · intro z hz
        rw [elay, encl_len, tl] at hz
        rw [up_a (by decide)]
        exact d3 z hz
  · have fe : fm (vT V S (fun _ => V 3 b) 0 0) x t = x := by
      cases ev : vT V S (fun _ => V 3 b) 0 0 t with
      | none => rw [fm, ev]
      | some v =>
        have hv := vT_tot S t _ _ _ _ ev
        rw [fm, ev]
        rcases x with _ | ⟨w, s⟩
        · rw [worth] at e; omega
        · rw [worth] at e
          show (if _ < w then _ else _) = _
          rw [if_neg (by omega)]
    rw [ite_n (by rw [iN_lt (by omega) (by omega) (by omega) (by omega)]; exact e)] at unf
    rw [fe, unf]
    exact fin x I1 R1 x1 rfl rfl hx hr1
theorem rf_trip_l {b : Int} (hb1 : 0 ≤ b) (hb2 : b < V 0 2) (hnear : ∀ l : Int, 0 ≤ l → l < V 0 3 → bit near l = decide (S (20 + l) = -1)) : ∀ (L : List (List Int)) (n : Nat) (t : List Int) (x : Option (Int × List Int)) (I : (Nat → Nat → Int32)), rOK V S I → (∀ s ∈ t :: L, s ∈ rg S (V 0 3).toNat 0 0) → chn (nxt S 0 0) (t :: L) none → 60 + L.length ≤ n → (∀ j : Nat, j < t.length → I 89 j = iN (t.getD j 0)) → (0 ≤ worth 1000000 x ∧ worth 1000000 x ≤ 1000000) → rl (elay S x) I →
    ∃ I', fX12_trips_L57 n (iN b) near (iN (worth 1000000 x)) (iN 1) I = some (iN (worth 1000000 (fmin (vT V S (fun _ => V 3 b) 0 0) x (t :: L))), I') ∧ xf [88, 89, 90, 91, 1061] I I' ∧ rl (elay S (fmin (vT V S (fun _ => V 3 b) 0 0) x (t :: L))) I' := by
  intro L
  induction L with
  | nil =>
    intro n t x I h hm hc hn h89 hx hr
    exact rf_trip_s hb1 hb2 hnear [] n t x I h hm hc hn h89 hx hr (by intro t' L' e; cases e)
  | cons t' L ih =>
    intro n t x I h hm hc hn h89 hx hr
    exact rf_trip_s hb1 hb2 hnear (t' :: L) n t x I h hm hc hn h89 hx hr (by
      intro t'' L' e
      injection e with e1 e2
      subst e1 e2
      intro n x I h hn h89 hx hr
      exact ih n t' x I h (fun s hs => hm s (List.mem_cons_of_mem _ hs)) hc.2 hn h89 hx hr)
theorem rg_cnt (S : Int → Int) (n : Nat) : ∀ (l : Int) (u : Nat), u + n ≤ 7 → (rg S n l u).length ≤ 7 ^ n := by
  induction n with
  | zero => intro l u _; exact Nat.le_refl _
  | succ n ih =>
    intro l u hu
    rw [rg]
    split
    · have : ∀ m, m ≤ u + 1 → ((List.range m).flatMap (fun (a : Nat) => (rg S n (l + 1) (if a = u then u + 1 else u)).map (fun t => (a : Int) :: t))).length ≤ m * 7 ^ n := by
        intro m
        induction m with
        | zero => intro _; simp
        | succ m ihm =>
          intro hm
          rw [List.range_succ, List.flatMap_append, List.length_append, List.flatMap_cons, List.flatMap_nil, List.append_nil, List.length_map, Nat.succ_mul]
          have := ihm (by omega)
          have := ih (l + 1) (if m = u then u + 1 else u) (by split <;> omega)
          omega
      have h1 := this (u + 1) (Nat.le_refl _)
      have h2 : (u + 1) * 7 ^ n ≤ 7 * 7 ^ n := Nat.mul_le_mul_right _ (by omega)
      rw [Nat.pow_succ]
      omega
    · rw [List.length_map, Nat.pow_succ]
      have := ih (l + 1) u (by omega)
      omega
theorem sTr_eq (hw : wfV V) {b : Int} (hb : 0 ≤ b ∧ b < V 0 2) : sTr V S b = (fmin (vT V S (fun _ => V 3 b) 0 0) none (rg S (V 0 3).toNat 0 0)).map (fun p => (p.1, encl S 0 p.2)) := by
  have hu := hw.1
  have := rg_cs (V := V) (S := S) (V 0 3).toNat (fun _ => V 3 b) (fun _ => 0) 0 0 (by omega) (by intro b b0 b7; simp; omega)
  unfold sTr
  rw [if_pos hb]
  exact this.symm
theorem rf_Trips {I : (Nat → Nat → Int32)} (h : rOK V S I) {b : Int} (hb : -2147483648 ≤ b ∧ b < 2147483648) {n : Nat} (hn : 900000 ≤ n) : ∃ I', fX12_trips n (iN b) I = some (iN (worth (-1) (sTr V S b)), I') ∧ xf [85, 88, 89, 90, 91, 1061] I I' ∧ rl (lay0 (sTr V S b)) I' := by
  have hu := h.1.1
  have x1 : xf [85, 88, 89, 90, 91, 1061] I (mm_up I 62 61 (iN 0)) := xf_u62 (by decide)
  have h1 : rOK V S (mm_up I 62 61 (iN 0)) := rOK_xf h x1 (by decide)
  rw [fX12_trips]
  simp only [iN_lit, iN_neg]
  rw [rf_board h1 hb, Option.bind_some]
  by_cases hb' : 0 ≤ b ∧ b < V 0 2
  · rw [if_pos hb', ite_n n10]
    obtain ⟨I2, g1, g2⟩ := rf_near h1 (n := n) (by omega)
    have h2 := rOK_ex h1 g2 (by decide)
    rw [g1, Option.bind_some]
    dsimp only
    obtain ⟨m1, I3, a1, a2, a3, a4⟩ := loop (fun n k J => fX12_trips_L27 n (iN b) (lds S (-1) (V 0 3).toNat) (iN 1000000) (iN k) J) 1 (P := 7) (fun k J => ex [89] I2 J ∧ ∀ z : Nat, z < k → J 89 z = iN 0)
      (by
        intro n k J hn k0 k1 ⟨hx, hz⟩
        refine ⟨mm_up J 89 k.toNat (iN 0), ?_, ex_trans hx (ex_up (by decide)), ?_⟩
        · show fX12_trips_L27 (n + 1) _ _ _ _ _ = _
          rw [fX12_trips_L27]
          simp (disch := omega) only [iN_lit, iN_add, iN_sub, iN_mul, iN_neg, iN_lt, iN_eq, iN_tn, if_true, if_false, if_pos, if_neg]
        · intro z z1
          rw [up_c]
          by_cases e : z = k.toNat
          · rw [if_pos e]
          · rw [if_neg e]; exact hz z (by omega)) 7 n 0 I2 (by omega) (by omega) ⟨ex_refl, by intro z h; omega⟩ (by omega)
    have a2' : fX12_trips_L27 n (iN b) (lds S (-1) (V 0 3).toNat) (iN 1000000) (iN 0) I2 = some I3 := by
      have : fX12_trips_L27 n (iN b) (lds S (-1) (V 0 3).toNat) (iN 1000000) (iN 0) I2 = fX12_trips_L27 m1 (iN b) (lds S (-1) (V 0 3).toNat) (iN 1000000) (iN 7) I3 := a2
      rw [this]
      obtain ⟨m1, rfl⟩ : ∃ m, m1 = m + 1 := ⟨m1 - 1, by omega⟩
      rw [fX12_trips_L27]
      simp (disch := omega) only [iN_lit, iN_add, iN_sub, iN_mul, iN_neg, iN_lt, iN_eq, iN_tn, if_true, if_false, if_pos, if_neg]
    rw [a2', Option.bind_some]
    have h3 := rOK_ex h2 a3 (by decide)
    obtain ⟨L, c1, c2⟩ := rg_chn S (V 0 3).toNat 0 0
    have row : ∀ j : Nat, j < (List.replicate (V 0 3).toNat (0 : Int)).length → I3 89 j = iN ((List.replicate (V 0 3).toNat (0 : Int)).getD j 0) := by
      intro j hj
      rw [List.length_replicate] at hj
      rw [a4 j (by omega), List.getD_eq_getElem?_getD, List.getElem?_replicate]
      split <;> rfl
    obtain ⟨I4, b1, b2, _⟩ := rf_before h3 (near_bit h.1) (t := List.replicate (V 0 3).toNat 0) (by simp) (by
      intro j hj
      rw [List.getD_eq_getElem?_getD, List.getElem?_replicate]
      split <;> simp) row (n := n) (by omega)
    have h4 := rOK_ex h3 b2 (by decide)
    rw [b1, Option.bind_some]
    dsimp only
    have hcnt := rg_cnt S (V 0 3).toNat 0 0 (by omega)
    have h7 : (7 : Nat) ^ (V 0 3).toNat ≤ 823543 := Nat.le_trans (Nat.pow_le_pow_right (by omega) (by omega : (V 0 3).toNat ≤ 7)) (by decide)
    rw [c1] at hcnt
    rw [List.length_cons] at hcnt
    have r4 : rl [] I4 := ⟨by rw [b2 62 (by decide), a3 62 (by decide), g2 62 (by decide)]; exact rl_0.1, by intro z hz; exact absurd hz (by simp)⟩
    obtain ⟨I5, d1, d2, d3⟩ := rf_trip_l hb'.1 hb'.2 (near_bit h.1) L n (List.replicate (V 0 3).toNat 0) none I4 h4 (by rw [← c1]; exact fun s hs => hs) (by rw [← c1]; exact c2) (by omega) (by intro j hj; rw [b2 89 (by decide)]; exact row j hj) (by rw [worth]; omega) r4
    rw [← c1] at d1 d3
    have d1' : fX12_trips_L57 n (iN b) (lds S (-1) (V 0 3).toNat) (iN 1000000) (iN 1) I4 = some (iN (worth 1000000 (fmin (vT V S (fun _ => V 3 b) 0 0) none (rg S (V 0 3).toNat 0 0))), I5) := d1
    rw [d1', Option.bind_some]
    have es := sTr_eq (S := S) h.1 hb'
    refine ⟨I5, ?_, xf_trans x1 (xf_trans (xf_mono (xf_ex g2) (by decide)) (xf_trans (xf_mono (xf_ex a3) (by decide)) (xf_trans (xf_mono (xf_ex b2) (by decide)) (xf_mono d2 (by decide))))), ?_⟩
    · cases e : fmin (vT V S (fun _ => V 3 b) 0 0) none (rg S (V 0 3).toNat 0 0) with
      | none =>
        rw [e] at es
        rw [es]
        exact if_pos rfl
      | some p =>
        obtain ⟨v, t⟩ := p
        rw [e] at es
        have hv := xP_in h.1 (show xP V S true 7 (fun _ => V 3 b) = some (v, encl S 0 t) by have := es; unfold sTr at this; rw [if_pos hb'] at this; exact this)
        rw [es]
        show (if iN v = iN 1000000 then _ else _) = _
        rw [if_neg (by rw [iN_eq (by omega) (by omega) (by omega) (by omega)]; omega)]
        rfl
    · rw [es]
      cases e : fmin (vT V S (fun _ => V 3 b) 0 0) none (rg S (V 0 3).toNat 0 0) with
      | none => rw [e] at d3; exact d3
      | some p => rw [e] at d3; exact d3
  · rw [if_neg hb', ite_p rfl]
    have : sTr V S b = none := by unfold sTr; rw [if_neg hb']
    rw [this]
    exact ⟨_, rfl, x1, rl_0⟩
end TRJ
