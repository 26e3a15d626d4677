/-! How the first board had been steered: the tree of the class. -/
def st3 (V : (Nat → Int → Int)) (x : Int × Int × Int) (m a : Int) : Int × Int × Int :=
  (if V 2 (8 * (x.2.1 + 1) + lead V x.1 x.2.1 (a - 1) 1) = 1 then x.1 else lead V x.1 x.2.1 (a - 1) 1, if V 2 (8 * (x.2.1 + 1) + lead V x.1 x.2.1 (a - 1) 1) = 1 then x.2.1 else x.2.1 + 1, if V 5 0 < nht V 0 0 x.1 x.2.1 x.2.2 m then 0 else nht V 0 0 x.1 x.2.1 x.2.2 m)
def tr (V : (Nat → Int → Int)) (m : Nat) (k : Nat) : Int × Int × Int := match m with
  | 0 => (V 4 0, 0, 0)
  | m + 1 => st3 V (tr V m (k / 3)) m ((k % 3 : Nat) : Int)
def in3 (V : (Nat → Int → Int)) (m : Int) (x : Int × Int × Int) : Prop := (0 ≤ x.1 ∧ x.1 < V 0 0) ∧ (0 ≤ x.2.1 ∧ x.2.1 ≤ m) ∧ 0 ≤ x.2.2 ∧ x.2.2 ≤ 99
theorem st3_in {V : (Nat → Int → Int)} (hw : wfV V) {x : Int × Int × Int} {m a : Int} (h : in3 V m x) : in3 V (m + 1) (st3 V x m a) := by
  obtain ⟨h1, h2, h3⟩ := h
  have hn := nht_lo (V := V) (b := 0) (B := 0) (c := x.1) (r := x.2.1) (m := m) h3.1
  have l1 := lead_lo hw (c := x.1) (r := x.2.1) (s := a - 1) (k := 1)
  have l2 := lead_hi hw (c := x.1) (r := x.2.1) (s := a - 1) (k := 1)
  unfold in3 st3
  dsimp only
  refine ⟨?_, ?_, ?_⟩
  · split <;> omega
  · split <;> omega
  · split <;> omega
theorem tr_in {V : (Nat → Int → Int)} (hw : wfV V) (hb : 0 < V 0 2) (m : Nat) : ∀ k, in3 V m (tr V m k) := by
  induction m with
  | zero =>
    intro k
    have := hw.2.2.2.1 0 (by omega) hb
    exact ⟨⟨by show 0 ≤ V 4 0; omega, by show V 4 0 < _; omega⟩, ⟨Int.le_refl _, by show (0 : Int) ≤ ((0 : Nat) : Int); omega⟩, Int.le_refl _, by show (0 : Int) ≤ 99; omega⟩
  | succ m ih =>
    intro k
    have := st3_in hw (a := ((k % 3 : Nat) : Int)) (ih (k / 3))
    rw [show (m : Int) + 1 = ((m + 1 : Nat) : Int) by omega] at this
    exact this
def fst3 (m : Nat) : Nat := match m with
  | 0 => 0
  | m + 1 => fst3 m + 3 ^ m
theorem fst3_3 (m : Nat) : 3 * fst3 m + 1 = fst3 (m + 1) := by
  induction m with
  | zero => rfl
  | succ m ih =>
    have ih' : 3 * fst3 m + 1 = fst3 m + 3 ^ m := ih
    show 3 * (fst3 m + 3 ^ m) + 1 = fst3 m + 3 ^ m + 3 ^ (m + 1)
    rw [Nat.pow_succ]
    omega
theorem fst3_le {m : Nat} (h : m ≤ 6) : fst3 m + 3 ^ m ≤ 1093 := by
  have : ∀ k : Fin 7, fst3 k.val + 3 ^ k.val ≤ 1093 := by decide
  exact this ⟨m, by omega⟩
theorem fst3_mono {m m' : Nat} (h : m < m') : fst3 m + 3 ^ m ≤ fst3 m' := by
  induction m' with
  | zero => omega
  | succ m' ih =>
    rw [fst3]
    by_cases e : m = m'
    · subst e; exact Nat.le_refl _
    · exact Nat.le_trans (ih (by omega)) (Nat.le_add_right _ _)
/-- a node holds x -/
def nod (I : (Nat → Nat → Int32)) (i : Nat) (x : Int × Int × Int) : Prop := I 56 i = iN x.1 ∧ I 57 i = iN x.2.1 ∧ I 58 i = iN x.2.2
/-- the tree stands, to the depth m -/
def tree (V : (Nat → Int → Int)) (m : Nat) (I : (Nat → Nat → Int32)) : Prop := ∀ j, j ≤ m → ∀ k, k < 3 ^ j → nod I (fst3 j + k) (tr V j k)
section TRE
variable {V : (Nat → Int → Int)} {S : Int → Int} {r : Nat}
theorem cl_branch_s (hr0 : r = 3 ∨ r = 19) (hb : 0 < V 0 2) {node : Nat} (hnd : 3 * node + 3 < 1093) {x : Int × Int × Int} {m : Int} (hm : 0 ≤ m ∧ m + 1 ≤ V 0 1) (hx : in3 V m x) (s : Int) (hs : -1 ≤ s ∧ s ≤ 1) (n : Nat) (I : (Nat → Nat → Int32)) (h : cOK V S r I) :
    ∃ I', fX10_branch_L64 (n + 1) (iN node) (iN x.1) (iN x.2.1) (iN (nht V 0 0 x.1 x.2.1 x.2.2 m)) (iN s) I r = fX10_branch_L64 n (iN node) (iN x.1) (iN x.2.1) (iN (nht V 0 0 x.1 x.2.1 x.2.2 m)) (iN (s + 1)) I' r ∧ ex [56, 57, 58] I I' ∧ nod I' (3 * (node : Int) + 2 + s).toNat (st3 V x m (s + 1)) ∧ ∀ z : Nat, z ≠ (3 * (node : Int) + 2 + s).toNat → ∀ a, I' a z = I a z := by
  have hu := h.1.1
  obtain ⟨h1, h2, h3⟩ := hx
  have hn := nht_lo (V := V) (b := 0) (B := 0) (c := x.1) (r := x.2.1) (m := m) h3.1
  have hbe := h.1.2.2.2.1 0 (by omega) hb
  have l1 := lead_lo h.1 (c := x.1) (r := x.2.1) (s := s) (k := 1)
  have l2 := lead_hi h.1 (c := x.1) (r := x.2.1) (s := s) (k := 1)
  have ld := cl_lead h.1 h.2.2.1 (c := x.1) (w := x.2.1) (s := s) (k := 1) h1.1 h1.2 h2.1 (by omega) hs (by omega)
  have hi := cl_hiss h.1 h.2.2.1 (c := x.1) (w := x.2.1) (s := s) (k := 1) h1.1 h1.2 h2.1 (by omega) hs (by omega)
  have put3 : ∀ (c w e : Int), mf_put (mf_put (mf_put I 56 1093 (iN (3 * (node : Int) + 2 + s)) (iN c)) 57 1093 (iN (3 * (node : Int) + 2 + s)) (iN w)) 58 1093 (iN (3 * (node : Int) + 2 + s)) (iN e) = mm_up (mm_up (mm_up I 56 (3 * (node : Int) + 2 + s).toNat (iN c)) 57 (3 * (node : Int) + 2 + s).toNat (iN w)) 58 (3 * (node : Int) + 2 + s).toNat (iN e) := by
    intro c w e
    rw [iN_put (by omega) (by omega) (by omega), iN_put (by omega) (by omega) (by omega), iN_put (by omega) (by omega) (by omega)]
  have put2 : ∀ (c w : Int), mf_put (mf_put I 56 1093 (iN (3 * (node : Int) + 2 + s)) (iN c)) 57 1093 (iN (3 * (node : Int) + 2 + s)) (iN w) = mm_up (mm_up I 56 (3 * (node : Int) + 2 + s).toNat (iN c)) 57 (3 * (node : Int) + 2 + s).toNat (iN w) := by
    intro c w
    rw [iN_put (by omega) (by omega) (by omega), iN_put (by omega) (by omega) (by omega)]
  have bears : ∀ (c w : Int), fX5_bearsOf (iN 0) r (mm_up (mm_up I 56 (3 * (node : Int) + 2 + s).toNat (iN c)) 57 (3 * (node : Int) + 2 + s).toNat (iN w)) = iN (V 5 0) := by
    intro c w
    exact cl_bears (cOK_ex h (ex_trans (ex_up (l := [56, 57]) (by decide)) (ex_up (by decide))) (by rcases hr0 with rfl | rfl <;> decide)) (by omega) hb
  have fin : ∀ (c w e : Int), c = (st3 V x m (s + 1)).1 → w = (st3 V x m (s + 1)).2.1 → e = (st3 V x m (s + 1)).2.2 → ex [56, 57, 58] I (mm_up (mm_up (mm_up I 56 (3 * (node : Int) + 2 + s).toNat (iN c)) 57 (3 * (node : Int) + 2 + s).toNat (iN w)) 58 (3 * (node : Int) + 2 + s).toNat (iN e)) ∧ nod (mm_up (mm_up (mm_up I 56 (3 * (node : Int) + 2 + s).toNat (iN c)) 57 (3 * (node : Int) + 2 + s).toNat (iN w)) 58 (3 * (node : Int) + 2 + s).toNat (iN e)) (3 * (node : Int) + 2 + s).toNat (st3 V x m (s + 1)) ∧ ∀ z : Nat, z ≠ (3 * (node : Int) + 2 + s).toNat → ∀ a, mm_up (mm_up (mm_up I 56 (3 * (node : Int) + 2 + s).toNat (iN c)) 57 (3 * (node : Int) + 2 + s).toNat (iN w)) 58 (3 * (node : Int) + 2 + s).toNat (iN e) a z = I a z := by
    intro c w e ec ew ee
    refine ⟨ex_trans (ex_trans (ex_up (by decide)) (ex_up (by decide))) (ex_up (by decide)), ⟨?_, ?_, ?_⟩, ?_⟩
    · rw [up_a (by decide), up_a (by decide), up_eq, ec]
    · rw [up_a (by decide), up_eq, ew]
    · rw [up_eq, ee]
    · intro z hz a
      rw [up_k hz, up_k hz, up_k hz]
  rw [fX10_branch_L64]
  simp only [iN_lit, iN_add, iN_mul, ld, hi]
  rw [ite_n (by rw [iN_lt (by omega) (by omega) (by omega) (by omega)]; omega)]
  unfold st3 at fin ⊢
  rw [show s + 1 - 1 = s by omega] at fin ⊢
  by_cases hh : V 2 (8 * (x.2.1 + 1) + lead V x.1 x.2.1 s 1) = 1
  · simp only [if_pos hh] at fin ⊢
    rw [ite_n n10, ite_n n10, put2, bears]
    by_cases hs2 : V 5 0 < nht V 0 0 x.1 x.2.1 x.2.2 m
    · rw [ite_p (by rw [iN_lt (by omega) (by omega) (by omega) (by omega)]; exact hs2)]
      simp only [if_pos hs2] at fin ⊢
      refine ⟨_, rfl, ?_⟩
      rw [iN_put (by omega) (by omega) (by omega)]
      exact fin _ _ _ rfl rfl rfl
    · rw [ite_n (by rw [iN_lt (by omega) (by omega) (by omega) (by omega)]; exact hs2)]
      simp only [if_neg hs2] at fin ⊢
      refine ⟨_, rfl, ?_⟩
      rw [iN_put (by omega) (by omega) (by omega)]
      exact fin _ _ _ rfl rfl rfl
  · simp only [if_neg hh] at fin ⊢
    rw [ite_p trivial, ite_p trivial, put2, bears]
    by_cases hs2 : V 5 0 < nht V 0 0 x.1 x.2.1 x.2.2 m
    · rw [ite_p (by rw [iN_lt (by omega) (by omega) (by omega) (by omega)]; exact hs2)]
      simp only [if_pos hs2] at fin ⊢
      refine ⟨_, rfl, ?_⟩
      rw [iN_put (by omega) (by omega) (by omega)]
      exact fin _ _ _ rfl rfl rfl
    · rw [ite_n (by rw [iN_lt (by omega) (by omega) (by omega) (by omega)]; exact hs2)]
      simp only [if_neg hs2] at fin ⊢
      refine ⟨_, rfl, ?_⟩
      rw [iN_put (by omega) (by omega) (by omega)]
      exact fin _ _ _ rfl rfl rfl
theorem cl_branch (hr0 : r = 3 ∨ r = 19) (hb : 0 < V 0 2) {node : Nat} (hnd : 3 * node + 3 < 1093) {x : Int × Int × Int} {m : Int} (hm : 0 ≤ m ∧ m + 1 ≤ V 0 1) (hx : in3 V m x) {I : (Nat → Nat → Int32)} (h : cOK V S r I) (hxI : nod I node x) {n : Nat} (hn : 310 ≤ n) :
    ∃ I', fX10_branch n (iN node) (iN m) I r = some I' ∧ ex [56, 57, 58, r + 3, r + 4] I I' ∧ nod I' (3 * node + 1) (st3 V x m 0) ∧ nod I' (3 * node + 2) (st3 V x m 1) ∧ nod I' (3 * node + 3) (st3 V x m 2) ∧ ∀ z : Nat, z ≠ 3 * node + 1 → z ≠ 3 * node + 2 → z ≠ 3 * node + 3 → ∀ y, nod I z y → nod I' z y := by
  have hu := h.1.1
  obtain ⟨h1, h2, h3⟩ := hx
  have pk : ∀ a, mf_pick I a 1093 (iN node) = I a node := fun a => by rw [iN_pick (by omega) (by omega) (by omega), Int.toNat_natCast]
  obtain ⟨I1, w1, w2⟩ := cl_warm h.1 h.2.2.1 (b := 0) (row := x.2.1) (col := x.1) (load := 0) (made := m) (hot := x.2.2) (by omega) hb (n := n) (by omega)
  have hwl := warm_lo (V := V) (row := x.2.1) (col := x.1) (load := 0) (wide := V 3 0) (made := m) (hot := x.2.2)
  have hwh := warm_hi (V := V) (row := x.2.1) (col := x.1) (load := 0) (wide := V 3 0) (made := m) (hot := x.2.2)
  have c1 : cOK V S r I1 := cOK_ex h w2 (by rcases hr0 with rfl | rfl <;> decide)
  have hmin : fJ9_min (iN 99) (iN (x.2.2 + warm V x.2.1 x.1 0 (V 3 0) m x.2.2)) = iN (nht V 0 0 x.1 x.2.1 x.2.2 m) := by
    rw [cl_min _ _ (by omega) (by omega)]
    congr 1
    unfold nht
    split <;> split <;> omega
  obtain ⟨n, rfl⟩ : ∃ k, n = k + 4 := ⟨n - 4, by omega⟩
  obtain ⟨J1, a1, a2, a3, a4⟩ := cl_branch_s hr0 hb hnd hm ⟨h1, h2, h3⟩ (-1) (by omega) (n + 3) I1 c1
  have c2 := cOK_ex c1 a2 (by rcases hr0 with rfl | rfl <;> decide)
  obtain ⟨J2, b1, b2, b3, b4⟩ := cl_branch_s hr0 hb hnd hm ⟨h1, h2, h3⟩ 0 (by omega) (n + 2) J1 c2
  have c3 := cOK_ex c2 b2 (by rcases hr0 with rfl | rfl <;> decide)
  obtain ⟨J3, d1, d2, d3, d4⟩ := cl_branch_s hr0 hb hnd hm ⟨h1, h2, h3⟩ 1 (by omega) (n + 1) J2 c3
  have keep : ∀ (J K : (Nat → Nat → Int32)) (q z : Nat) (y : Int × Int × Int), (∀ z : Nat, z ≠ q → ∀ a, K a z = J a z) → z ≠ q → nod J z y → nod K z y := by
    intro J K q z y hq hz hy
    exact ⟨by rw [hq z hz]; exact hy.1, by rw [hq z hz]; exact hy.2.1, by rw [hq z hz]; exact hy.2.2⟩
  refine ⟨J3, ?_, ?_, ?_, ?_, ?_, ?_⟩
  · rw [fX10_branch, pk, pk, pk, hxI.1, hxI.2.1, hxI.2.2]
    simp only [iN_lit, iN_neg]
    rw [w1, Option.bind_some]
    simp only [iN_add]
    rw [hmin, a1, show (-1 : Int) + 1 = 0 from rfl, b1, show (0 : Int) + 1 = 1 from rfl, d1, fX10_branch_L64]
    simp (disch := omega) only [iN_lit, iN_add, iN_sub, iN_mul, iN_neg, iN_lt, iN_eq, iN_tn, if_true, if_false, if_pos, if_neg]
    rfl
  · exact ex_trans (ex_mono w2 (by simp)) (ex_trans (ex_mono a2 (by simp)) (ex_trans (ex_mono b2 (by simp)) (ex_mono d2 (by simp))))
  · rw [show 3 * node + 1 = (3 * (node : Int) + 2 + -1).toNat by omega]
    exact keep J2 J3 _ _ _ d4 (by omega) (keep J1 J2 _ _ _ b4 (by omega) a3)
  · rw [show 3 * node + 2 = (3 * (node : Int) + 2 + 0).toNat by omega]
    exact keep J2 J3 _ _ _ d4 (by omega) b3
  · rw [show 3 * node + 3 = (3 * (node : Int) + 2 + 1).toNat by omega]
    exact d3
  · intro z z1 z2 z3 y hy
    have hy1 : nod I1 z y := by
      have e56 := w2 56 (by rcases hr0 with rfl | rfl <;> decide)
      have e57 := w2 57 (by rcases hr0 with rfl | rfl <;> decide)
      have e58 := w2 58 (by rcases hr0 with rfl | rfl <;> decide)
      exact ⟨by rw [e56]; exact hy.1, by rw [e57]; exact hy.2.1, by rw [e58]; exact hy.2.2⟩
    exact keep J2 J3 _ _ _ d4 (by omega) (keep J1 J2 _ _ _ b4 (by omega) (keep I1 J1 _ _ _ a4 (by omega) hy1))
theorem cl_level (hr0 : r = 3 ∨ r = 19) (hb : 0 < V 0 2) {m : Nat} (hm : (m : Int) + 1 ≤ V 0 1) {I : (Nat → Nat → Int32)} (h : cOK V S r I) (ht : tree V m I) {n : Nat} (hn : 1100 ≤ n) :
    ∃ I', fX10_grow_L73 n (iN (fst3 m)) (iN ((3 ^ m : Nat) : Int)) (iN m) (iN (fst3 m)) I r = some I' ∧ ex [56, 57, 58, r + 3, r + 4] I I' ∧ tree V (m + 1) I' := by
  have hu := h.1.1
  have p3 := p3_le (k := m) (by omega)
  have f1 := fst3_le (m := m + 1) (by omega)
  have f3 := fst3_3 m
  rw [Nat.pow_succ] at f1
  have hsafe : ∀ a ∈ [32, r, r + 1, r + 2, r + 5, r + 6, r + 7, r + 8, r + 9, r + 11], a ∉ [56, 57, 58, r + 3, r + 4] := by rcases hr0 with rfl | rfl <;> decide
  obtain ⟨n', I', q1, q2, q3, q4, q5⟩ := loop (fun n k J => fX10_grow_L73 n (iN (fst3 m)) (iN ((3 ^ m : Nat) : Int)) (iN m) (iN ((fst3 m : Int) + k)) J r) 320 (P := ((3 ^ m : Nat) : Int)) (fun k J => ex [56, 57, 58, r + 3, r + 4] I J ∧ tree V m J ∧ ∀ j : Nat, (j : Int) < 3 * k → nod J (fst3 (m + 1) + j) (tr V (m + 1) j))
    (by
      intro n k J hn k0 k1 ⟨hx, htj, hz⟩
      have hc := cOK_ex h hx hsafe
      have ek : ((fst3 m + k.toNat : Nat) : Int) = (fst3 m : Int) + k := by omega
      obtain ⟨J', g1, g2, g3, g4, g5, g6⟩ := cl_branch hr0 hb (node := fst3 m + k.toNat) (by omega) (x := tr V m k.toNat) (m := m) (by omega) (tr_in h.1 hb m _) hc (htj m (Nat.le_refl _) k.toNat (by omega)) (n := n) (by omega)
      rw [ek] at g1
      have e1 : 3 * (fst3 m + k.toNat) + 1 = fst3 (m + 1) + 3 * k.toNat := by omega
      refine ⟨J', ?_, ex_trans hx g2, ?_, ?_⟩
      · show fX10_grow_L73 (n + 1) _ _ _ _ _ _ = _
        rw [fX10_grow_L73, iN_add, ite_p (by rw [iN_lt (by omega) (by omega) (by omega) (by omega)]; omega), g1, Option.bind_some, iN_lit, iN_add, show (fst3 m : Int) + k + 1 = (fst3 m : Int) + (k + 1) by omega]
      · intro j hj q hq
        have := fst3_mono (m := j) (m' := m + 1) (by omega)
        exact g6 _ (by omega) (by omega) (by omega) _ (htj j hj q hq)
      · intro j hj
        by_cases e0 : j = 3 * k.toNat
        · subst e0
          rw [show fst3 (m + 1) + 3 * k.toNat = 3 * (fst3 m + k.toNat) + 1 by omega, tr, show 3 * k.toNat / 3 = k.toNat by omega, show 3 * k.toNat % 3 = 0 by omega]
          exact g3
        · by_cases e1 : j = 3 * k.toNat + 1
          · subst e1
            rw [show fst3 (m + 1) + (3 * k.toNat + 1) = 3 * (fst3 m + k.toNat) + 2 by omega, tr, show (3 * k.toNat + 1) / 3 = k.toNat by omega, show (3 * k.toNat + 1) % 3 = 1 by omega]
            exact g4
          · by_cases e2 : j = 3 * k.toNat + 2
            · subst e2
              rw [show fst3 (m + 1) + (3 * k.toNat + 2) = 3 * (fst3 m + k.toNat) + 3 by omega, tr, show (3 * k.toNat + 2) / 3 = k.toNat by omega, show (3 * k.toNat + 2) % 3 = 2 by omega]
              exact g5
            · exact g6 _ (by omega) (by omega) (by omega) _ (hz j (by omega))) (3 ^ m) n 0 I (by omega) (by omega) ⟨ex_refl, ht, by intro j hj; omega⟩ (by omega)
  refine ⟨I', ?_, q3, ?_⟩
  · have q2' : fX10_grow_L73 n (iN (fst3 m)) (iN ((3 ^ m : Nat) : Int)) (iN m) (iN ((fst3 m : Int) + 0)) I r = fX10_grow_L73 n' (iN (fst3 m)) (iN ((3 ^ m : Nat) : Int)) (iN m) (iN ((fst3 m : Int) + ((3 ^ m : Nat) : Int))) I' r := q2
    rw [Int.add_zero] at q2'
    rw [q2']
    obtain ⟨n', rfl⟩ : ∃ m, n' = m + 1 := ⟨n' - 1, by omega⟩
    rw [fX10_grow_L73, iN_add, if_neg (iN_ir _)]
  · intro j hj k hk
    by_cases e : j = m + 1
    · subst e
      rw [Nat.pow_succ] at hk
      exact q5 k (by omega)
    · exact q4 j (by omega) k hk
theorem cl_grow (hr0 : r = 3 ∨ r = 19) (hb : 0 < V 0 2) {I : (Nat → Nat → Int32)} (h : cOK V S r I) (hg : (I 54 5 = iN 0) ∨ (I 54 5 = iN 1 ∧ tree V (V 0 1).toNat I)) {n : Nat} (hn : 1200 ≤ n) :
    ∃ I', fX10_grow n I r = some I' ∧ ex [54, 56, 57, 58, r + 3, r + 4] I I' ∧ I' 54 5 = iN 1 ∧ I' 54 9 = I 54 9 ∧ I' 54 10 = I 54 10 ∧ tree V (V 0 1).toNat I' := by
  have hu := h.1.1
  have hsafe : ∀ a ∈ [32, r, r + 1, r + 2, r + 5, r + 6, r + 7, r + 8, r + 9, r + 11], a ∉ [54, 56, 57, 58, r + 3, r + 4] := by rcases hr0 with rfl | rfl <;> decide
  rw [fX10_grow]
  simp only [iN_lit]
  rcases hg with hg | ⟨hg, ht⟩
  · rw [hg, ite_p rfl]
    have c1 : cOK V S r (mm_up I 54 5 (iN 1)) := cOK_ex h (ex_up (l := [54]) (by decide)) (by rcases hr0 with rfl | rfl <;> decide)
    have hst : fX5_startOf (iN 0) r (mm_up I 54 5 (iN 1)) = iN (V 4 0) := by
      have := c1.2.2.1.2.2.2.2.1
      rw [fX5_startOf]
      simp (disch := omega) only [iN_pick, this]
    rw [hst, iN_put (by omega) (by omega) (by omega), iN_put (by omega) (by omega) (by omega), iN_put (by omega) (by omega) (by omega)]
    generalize hK : mm_up (mm_up (mm_up (mm_up I 54 5 (iN 1)) 56 (0 : Int).toNat (iN (V 4 0))) 57 (0 : Int).toNat (iN 0)) 58 (0 : Int).toNat (iN 0) = K
    have xK : ex [54, 56, 57, 58, r + 3, r + 4] I K := by
      rw [← hK]
      exact ex_trans (ex_trans (ex_trans (ex_up (by simp)) (ex_up (by simp))) (ex_up (by simp))) (ex_up (by simp))
    have k54 : K 54 = mm_up I 54 5 (iN 1) 54 := by rw [← hK, up_a (by decide), up_a (by decide), up_a (by decide)]
    have tK : tree V 0 K := by
      intro j hj k hk
      have : j = 0 := by omega
      subst this
      have : k = 0 := by rw [Nat.pow_zero] at hk; omega
      subst this
      rw [← hK]
      refine ⟨?_, ?_, ?_⟩
      · rw [up_a (by decide), up_a (by decide)]; exact up_eq
      · rw [up_a (by decide)]; exact up_eq
      · exact up_eq
    have key : ∀ (j n m : Nat) (J : (Nat → Nat → Int32)), m + j = (V 0 1).toNat → 1101 + j ≤ n → ex [54, 56, 57, 58, r + 3, r + 4] I J → J 54 = K 54 → tree V m J → ∃ I', fX10_grow_L56 n (iN (fst3 m)) (iN ((3 ^ m : Nat) : Int)) (iN m) J r = some I' ∧ ex [54, 56, 57, 58, r + 3, r + 4] I I' ∧ I' 54 = K 54 ∧ tree V (V 0 1).toNat I' := by
      intro j
      induction j with
      | zero =>
        intro n m J hm hn hx h54 ht
        obtain ⟨n, rfl⟩ : ∃ k, n = k + 1 := ⟨n - 1, by omega⟩
        have hc := cOK_ex h hx hsafe
        have em : m = (V 0 1).toNat := by omega
        refine ⟨J, ?_, hx, h54, by rw [← em]; exact ht⟩
        rw [fX10_grow_L56, hc.2.2.1.1.2.1, show iN (m : Int) = iN (V 0 1) by congr 1; omega, if_neg (iN_ir _)]
      | succ j ih =>
        intro n m J hm hn hx h54 ht
        obtain ⟨n, rfl⟩ : ∃ k, n = k + 1 := ⟨n - 1, by omega⟩
        have hc := cOK_ex h hx hsafe
        obtain ⟨J1, g1, g2, g3⟩ := cl_level hr0 hb (m := m) (by omega) hc ht (n := n) (by omega)
        obtain ⟨I', f1, f2, f3, f4⟩ := ih n (m + 1) J1 (by omega) (by omega) (ex_trans hx (ex_mono g2 (by intro a ha; simp at ha ⊢; omega))) (by rw [g2 54 (by rcases hr0 with rfl | rfl <;> decide)]; exact h54) g3
        refine ⟨I', ?_, f2, f3, f4⟩
        rw [fX10_grow_L56, hc.2.2.1.1.2.1, ite_p (by rw [iN_lt (by omega) (by omega) (by omega) (by omega)]; omega), g1, Option.bind_some]
        simp only [iN_lit, iN_add, iN_mul]
        rw [show (fst3 m : Int) + ((3 ^ m : Nat) : Int) = ((fst3 (m + 1) : Nat) : Int) by rw [fst3]; omega, show ((3 ^ m : Nat) : Int) * 3 = ((3 ^ (m + 1) : Nat) : Int) by rw [Nat.pow_succ]; omega]
        exact f1
    obtain ⟨I', f1, f2, f3, f4⟩ := key (V 0 1).toNat n 0 K (by omega) (by omega) xK rfl tK
    have f1' : fX10_grow_L56 n (iN 0) (iN 1) (iN 0) K r = some I' := f1
    rw [f1', Option.bind_some]
    refine ⟨I', rfl, f2, ?_, ?_, ?_, f4⟩
    · rw [f3, k54, up_eq]
    · rw [f3, k54, up_k (by decide)]
    · rw [f3, k54, up_k (by decide)]
  · rw [hg, ite_n n10]
    exact ⟨I, rfl, ex_refl, hg, rfl, rfl, ht⟩
end TRE
