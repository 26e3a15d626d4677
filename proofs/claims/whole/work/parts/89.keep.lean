/-! What is kept: acts and boxes of the class. -/
def slt (V : (Nat → Int → Int)) (X : Int → Int) (w : Int) (I : (Nat → Nat → Int32)) : Prop := ∃ T : Int → Int, (∀ i : Int, 0 ≤ i → i < 28 → I 34 (w * 28 + i).toNat = iN (T i)) ∧ lay V X T
def cU (V : (Nat → Int → Int)) (Ls : Nat → Int → Int) (a u : Nat) (I : (Nat → Nat → Int32)) : Prop := a + u ≤ 40 ∧ ∃ q : Nat, q < 41 ∧ I 33 3 = iN q ∧ I 33 4 = iN a ∧ I 33 5 = iN u ∧ (∀ i, i < a → slt V (Ls i) (((q + 41 - (a - i)) % 41 : Nat) : Int) I) ∧ ∀ j, j < u → slt V (Ls (a + j)) (((q + 1 + j) % 41 : Nat) : Int) I
def cB (V : (Nat → Int → Int)) (hb : Int → Bool) (Bs : Int → Int → Int) (I : (Nat → Nat → Int32)) : Prop := (∀ b, 0 ≤ b → b < 3 → bit (I 33 2) b = hb b) ∧ ∀ b, 0 ≤ b → b < 3 → hb b = true → slt V (Bs b) (41 + b) I
section KEE
variable {V : (Nat → Int → Int)} {S : Int → Int} {I : (Nat → Nat → Int32)} {r : Nat}
theorem slt_of {X : Int → Int} {w : Int} {I' : (Nat → Nat → Int32)} (h : slt V X w I) (e : ∀ z : Nat, w * 28 ≤ z → (z : Int) < w * 28 + 28 → I' 34 z = I 34 z) (hw : 0 ≤ w) : slt V X w I' := by
  obtain ⟨T, h1, h2⟩ := h
  exact ⟨T, fun i i0 i1 => by rw [e _ (by omega) (by omega)]; exact h1 i i0 i1, h2⟩
theorem cl_keep {w : Int} (hw : 0 ≤ w ∧ w < 44) (h : clsS V S I) {n : Nat} (hn : 30 ≤ n) : ∃ I', fX2_keep n (iN w) I = some I' ∧ ex [34] I I' ∧ slt V S w I' ∧ ∀ z : Nat, ¬ (w * 28 ≤ z ∧ (z : Int) < w * 28 + 28) → I' 34 z = I 34 z := by
  obtain ⟨T, h1, h2⟩ := h
  obtain ⟨n', I', q1, q2, q3, q4, q5⟩ := loop (fun n k J => fX2_keep_L2 n (iN w) (iN k) J) 1 (P := 28) (fun k J => ex [34] I J ∧ (∀ i : Int, 0 ≤ i → i < k → J 34 (w * 28 + i).toNat = iN (T i)) ∧ ∀ z : Nat, ¬ (w * 28 ≤ z ∧ (z : Int) < w * 28 + 28) → J 34 z = I 34 z)
    (by
      intro n k J hn k0 k1 ⟨hx, hz, ho⟩
      have j32 : mf_pick J 32 28 (iN k) = iN (T k) := by rw [iN_pick k0 (by omega) (by omega), hx 32 (by decide)]; exact h1 k k0 (by omega)
      refine ⟨mm_up J 34 (w * 28 + k).toNat (iN (T k)), ?_, ex_trans hx (ex_up (by decide)), ?_, ?_⟩
      · show fX2_keep_L2 (n + 1) _ _ _ = _
        rw [fX2_keep_L2, j32]
        simp (disch := omega) only [iN_lit, iN_add, iN_sub, iN_mul, iN_neg, iN_lt, iN_eq, iN_tn, if_true, if_false, if_pos, if_neg, iN_put]
      · intro i i0 i1
        rw [up_c]
        by_cases e : i = k
        · rw [if_pos (by omega), e]
        · rw [if_neg (by omega)]; exact hz i i0 (by omega)
      · intro z hz'
        rw [up_k (by omega)]
        exact ho z hz') 28 n 0 I (by omega) (by omega) ⟨ex_refl, by intro i h1 h2; omega, fun _ _ => rfl⟩ (by omega)
  refine ⟨I', ?_, q3, ⟨T, q4, h2⟩, q5⟩
  have q2' : fX2_keep_L2 n (iN w) (iN 0) I = fX2_keep_L2 n' (iN w) (iN 28) I' := q2
  rw [fX2_keep, iN_lit, q2']
  obtain ⟨n', rfl⟩ : ∃ m, n' = m + 1 := ⟨n' - 1, by omega⟩
  rw [fX2_keep_L2]
  simp (disch := omega) only [iN_lit, iN_add, iN_sub, iN_mul, iN_neg, iN_lt, iN_eq, iN_tn, if_true, if_false, if_pos, if_neg, Option.bind_some]
theorem cl_bring {X : Int → Int} {w : Int} (hw : 0 ≤ w ∧ w < 44) (h : slt V X w I) {n : Nat} (hn : 30 ≤ n) : ∃ I', fX2_bring n (iN w) I = some I' ∧ ex [32] I I' ∧ clsS V X I' := by
  obtain ⟨T, h1, h2⟩ := h
  obtain ⟨n', I', q1, q2, q3, q4⟩ := loop (fun n k J => fX2_bring_L2 n (iN w) (iN k) J) 1 (P := 28) (fun k J => ex [32] I J ∧ ∀ i : Int, 0 ≤ i → i < k → J 32 i.toNat = iN (T i))
    (by
      intro n k J hn k0 k1 ⟨hx, hz⟩
      have j34 : mf_pick J 34 1232 (iN (w * 28 + k)) = iN (T k) := by rw [iN_pick (by omega) (by omega) (by omega), hx 34 (by decide)]; exact h1 k k0 (by omega)
      refine ⟨mm_up J 32 k.toNat (iN (T k)), ?_, ex_trans hx (ex_up (by decide)), ?_⟩
      · show fX2_bring_L2 (n + 1) _ _ _ = _
        rw [fX2_bring_L2]
        simp only [iN_lit, iN_mul, iN_add]
        rw [j34, iN_put k0 (by omega) (by omega), ite_p (by rw [iN_lt (by omega) (by omega) (by omega) (by omega)]; exact k1)]
      · intro i i0 i1
        rw [up_c]
        by_cases e : i = k
        · rw [if_pos (by omega), e]
        · rw [if_neg (by omega)]; exact hz i i0 (by omega)) 28 n 0 I (by omega) (by omega) ⟨ex_refl, by intro i h1 h2; omega⟩ (by omega)
  refine ⟨I', ?_, q3, T, q4, h2⟩
  have q2' : fX2_bring_L2 n (iN w) (iN 0) I = fX2_bring_L2 n' (iN w) (iN 28) I' := q2
  rw [fX2_bring, iN_lit, q2']
  obtain ⟨n', rfl⟩ : ∃ m, n' = m + 1 := ⟨n' - 1, by omega⟩
  rw [fX2_bring_L2]
  simp (disch := omega) only [iN_lit, iN_add, iN_sub, iN_mul, iN_neg, iN_lt, iN_eq, iN_tn, if_true, if_false, if_pos, if_neg, Option.bind_some]
/-- the acts behind one act more -/
def Lact (Ls : Nat → Int → Int) (a : Nat) (S : Int → Int) : Nat → Int → Int := fun i => if a < 40 then (if i = a then S else Ls i) else (if i = 39 then S else Ls (i + 1))
def aact (a : Nat) : Nat := if a < 40 then a + 1 else 40
theorem cB_of {hb : Int → Bool} {Bs : Int → Int → Int} {I' : (Nat → Nat → Int32)} (h : cB V hb Bs I) (e1 : I' 33 2 = I 33 2) (e2 : ∀ z : Nat, 41 * 28 ≤ z → I' 34 z = I 34 z) : cB V hb Bs I' :=
  ⟨fun b b0 b1 => by rw [e1]; exact h.1 b b0 b1, fun b b0 b1 hh => slt_of (h.2 b b0 b1 hh) (fun z z0 _ => e2 z (by omega)) (by omega)⟩
theorem cl_act {Ls : Nat → Int → Int} {a u : Nat} (h : cU V Ls a u I) (hS : clsS V S I) {hb : Int → Bool} {Bs : Int → Int → Int} (hB : cB V hb Bs I) {n : Nat} (hn : 40 ≤ n) : ∃ I', fX2_beginAct n I = some I' ∧ ex [33, 34] I I' ∧ cU V (Lact Ls a S) (aact a) 0 I' ∧ cB V hb Bs I' := by
  obtain ⟨h40, q, hq, e3, e4, e5, hp, _⟩ := h
  obtain ⟨I1, g1, g2, g3, g4⟩ := cl_keep (w := q) (by omega) hS (n := n) (by omega)
  have e33 := g2 33 (by decide)
  rw [fX2_beginAct, e3, g1, Option.bind_some, e33, e3, e4]
  simp only [iN_lit, iN_add]
  rw [iN_rem (by omega) (by omega) (by omega) (by omega), cl_min _ _ (by omega) (by omega)]
  refine ⟨_, rfl, ex_trans (ex_mono g2 (by decide)) (ex_trans (ex_trans (ex_up (by decide)) (ex_up (by decide))) (ex_up (by decide))), ⟨?_, (q + 1) % 41, by omega, ?_, ?_, ?_, ?_, ?_⟩, ?_⟩
  · unfold aact; split <;> omega
  · rw [up_k (by decide), up_k (by decide), up_eq]
    congr 1
  · rw [up_k (by decide), up_eq]
    congr 1
    unfold aact
    split <;> split <;> omega
  · rw [up_eq]; rfl
  · intro i hi
    have mv : ∀ (X : Int → Int) (w : Int), 0 ≤ w → slt V X w I1 → slt V X w (mm_up (mm_up (mm_up I1 33 3 (iN (((q : Int) + 1) % 41))) 33 4 (iN (if (a : Int) + 1 < 40 then (a : Int) + 1 else 40))) 33 5 (iN 0)) := fun X w hw h => slt_of h (fun z _ _ => by rw [up_a (by decide), up_a (by decide), up_a (by decide)]) hw
    apply mv _ _ (by omega)
    unfold aact at hi ⊢
    unfold Lact
    by_cases ha : a < 40
    · rw [if_pos ha] at hi ⊢
      rw [if_pos ha]
      by_cases e : i = a
      · rw [if_pos e, show (((q + 1) % 41 + 41 - (a + 1 - i)) % 41 : Nat) = q by omega]
        exact g3
      · rw [if_neg e, show (((q + 1) % 41 + 41 - (a + 1 - i)) % 41 : Nat) = (q + 41 - (a - i)) % 41 by omega]
        exact slt_of (hp i (by omega)) (fun z z0 z1 => g4 z (by omega)) (by omega)
    · rw [if_neg ha] at hi ⊢
      rw [if_neg ha]
      by_cases e : i = 39
      · rw [if_pos e, show (((q + 1) % 41 + 41 - (40 - i)) % 41 : Nat) = q by omega]
        exact g3
      · rw [if_neg e, show (((q + 1) % 41 + 41 - (40 - i)) % 41 : Nat) = (q + 41 - (a - (i + 1))) % 41 by omega]
        exact slt_of (hp (i + 1) (by omega)) (fun z z0 z1 => g4 z (by omega)) (by omega)
  · intro j hj; omega
  · refine cB_of hB ?_ ?_
    · rw [up_k (by decide), up_k (by decide), up_k (by decide), e33]
    · intro z hz
      rw [up_a (by decide), up_a (by decide), up_a (by decide)]
      exact g4 z (by omega)
def Lswp (Ls : Nat → Int → Int) (k : Nat) (S : Int → Int) : Nat → Int → Int := fun i => if i = k then S else Ls i
theorem cl_undo {Ls : Nat → Int → Int} {a u : Nat} (h : cU V Ls a u I) (hS : clsS V S I) {hb : Int → Bool} {Bs : Int → Int → Int} (hB : cB V hb Bs I) {n : Nat} (hn : 40 ≤ n) : ∃ I', fX11_undo n I = some (if a = 0 then iN 0 else iN 1, I') ∧ ex [32, 33, 34] I I' ∧ clsS V (if a = 0 then S else Ls (a - 1)) I' ∧ cU V (if a = 0 then Ls else Lswp Ls (a - 1) S) (if a = 0 then a else a - 1) (if a = 0 then u else u + 1) I' ∧ cB V hb Bs I' := by
  have h0 := h
  obtain ⟨h40, q, hq, e3, e4, e5, hp, hr'⟩ := h
  rw [fX11_undo, fX2_takeBack, e4]
  simp (disch := omega) only [iN_lit, iN_lt]
  by_cases ha : a = 0
  · rw [if_neg (by omega), Option.bind_some, ite_p (Or.inl rfl)]
    simp only [if_pos ha]
    exact ⟨I, rfl, ex_refl, hS, h0, hB⟩
  · rw [if_pos (by omega), e3]
    simp only [if_neg ha]
    obtain ⟨I1, g1, g2, g3, g4⟩ := cl_keep (w := q) (by omega) hS (n := n) (by omega)
    have e33 := g2 33 (by decide)
    rw [g1, Option.bind_some, e33, e3]
    simp only [iN_add, iN_sub]
    rw [iN_rem (by omega) (by omega) (by omega) (by omega), show ((q : Int) + 41 - 1) % 41 = (((q + 40) % 41 : Nat) : Int) by omega]
    have sl : slt V (Ls (a - 1)) (((q + 40) % 41 : Nat) : Int) (mm_up I1 33 3 (iN (((q + 40) % 41 : Nat) : Int))) := by
      have := hp (a - 1) (by omega)
      rw [show (q + 41 - (a - (a - 1))) % 41 = (q + 40) % 41 by omega] at this
      exact slt_of this (fun z z0 z1 => by rw [up_a (by decide)]; exact g4 z (by omega)) (by omega)
    obtain ⟨I2, f1, f2, f3⟩ := cl_bring (w := (((q + 40) % 41 : Nat) : Int)) (by omega) sl (n := n) (by omega)
    rw [f1, Option.bind_some, Option.bind_some]
    dsimp only
    rw [ite_p (Or.inr rfl)]
    have k33 : ∀ k, k ≠ 3 → I2 33 k = I 33 k := fun k hk => by rw [f2 33 (by decide), up_k hk, e33]
    rw [k33 4 (by decide), e4, k33 5 (by decide), e5, iN_sub, iN_add]
    have keep : ∀ (X : Int → Int) (w : Nat), w < 41 → w ≠ q → slt V X (w : Int) I → slt V X (w : Int) (mm_up (mm_up I2 33 4 (iN ((a : Int) - 1))) 33 5 (iN ((u : Int) + 1))) := fun X w h1 h2 h3 => slt_of h3 (fun z z0 z1 => by rw [up_a (by decide), up_a (by decide), f2 34 (by decide), up_a (by decide)]; exact g4 z (by omega)) (by omega)
    refine ⟨_, rfl, ?_, clsS_of f3 (by rw [up_a (by decide), up_a (by decide)]), ⟨by omega, (q + 40) % 41, by omega, ?_, ?_, ?_, ?_, ?_⟩, ?_⟩
    · exact ex_trans (ex_mono g2 (by decide)) (ex_trans (ex_up (a := 33) (by decide)) (ex_trans (ex_mono f2 (by decide)) (ex_trans (ex_up (by decide)) (ex_up (by decide)))))
    · rw [up_k (by decide), up_k (by decide), f2 33 (by decide), up_eq]
    · rw [up_k (by decide), up_eq]; congr 1; omega
    · rw [up_eq]; rfl
    · intro i hi
      unfold Lswp
      rw [if_neg (by omega), show ((q + 40) % 41 + 41 - (a - 1 - i)) % 41 = (q + 41 - (a - i)) % 41 by omega]
      exact keep _ _ (by omega) (by omega) (hp i (by omega))
    · intro j hj
      unfold Lswp
      by_cases ej : j = 0
      · subst ej
        rw [if_pos (by omega), show ((q + 40) % 41 + 1 + 0) % 41 = q by omega]
        exact slt_of g3 (fun z z0 z1 => by rw [up_a (by decide), up_a (by decide), f2 34 (by decide), up_a (by decide)]) (by omega)
      · rw [if_neg (by omega), show a - 1 + j = a + (j - 1) by omega, show ((q + 40) % 41 + 1 + j) % 41 = (q + 1 + (j - 1)) % 41 by omega]
        exact keep _ _ (by omega) (by omega) (hr' (j - 1) (by omega))
    · refine cB_of hB ?_ ?_
      · rw [up_k (by decide), up_k (by decide), k33 2 (by decide)]
      · intro z hz
        rw [up_a (by decide), up_a (by decide), f2 34 (by decide), up_a (by decide)]
        exact g4 z (by omega)
theorem cl_redo {Ls : Nat → Int → Int} {a u : Nat} (h : cU V Ls a u I) (hS : clsS V S I) {hb : Int → Bool} {Bs : Int → Int → Int} (hB : cB V hb Bs I) {n : Nat} (hn : 40 ≤ n) : ∃ I', fX11_redo n I = some (if u = 0 then iN 0 else iN 1, I') ∧ ex [32, 33, 34] I I' ∧ clsS V (if u = 0 then S else Ls a) I' ∧ cU V (if u = 0 then Ls else Lswp Ls a S) (if u = 0 then a else a + 1) (if u = 0 then u else u - 1) I' ∧ cB V hb Bs I' := by
  have h0 := h
  obtain ⟨h40, q, hq, e3, e4, e5, hp, hr'⟩ := h
  rw [fX11_redo, fX2_doAgain, e5]
  simp (disch := omega) only [iN_lit, iN_lt]
  by_cases ha : u = 0
  · rw [if_neg (by omega), Option.bind_some, ite_p (Or.inl rfl)]
    simp only [if_pos ha]
    exact ⟨I, rfl, ex_refl, hS, h0, hB⟩
  · rw [if_pos (by omega), e3]
    simp only [if_neg ha]
    obtain ⟨I1, g1, g2, g3, g4⟩ := cl_keep (w := q) (by omega) hS (n := n) (by omega)
    have e33 := g2 33 (by decide)
    rw [g1, Option.bind_some, e33, e3]
    simp only [iN_add, iN_sub]
    rw [iN_rem (by omega) (by omega) (by omega) (by omega), show ((q : Int) + 1) % 41 = (((q + 1) % 41 : Nat) : Int) by omega]
    have sl : slt V (Ls a) (((q + 1) % 41 : Nat) : Int) (mm_up I1 33 3 (iN (((q + 1) % 41 : Nat) : Int))) := by
      have := hr' 0 (by omega)
      rw [show (q + 1 + 0) % 41 = (q + 1) % 41 by omega, Nat.add_zero] at this
      exact slt_of this (fun z z0 z1 => by rw [up_a (by decide)]; exact g4 z (by omega)) (by omega)
    obtain ⟨I2, f1, f2, f3⟩ := cl_bring (w := (((q + 1) % 41 : Nat) : Int)) (by omega) sl (n := n) (by omega)
    rw [f1, Option.bind_some, Option.bind_some]
    dsimp only
    rw [ite_p (Or.inr rfl)]
    have k33 : ∀ k, k ≠ 3 → I2 33 k = I 33 k := fun k hk => by rw [f2 33 (by decide), up_k hk, e33]
    rw [k33 4 (by decide), e4, iN_add, k33 5 (by decide), e5, iN_sub]
    have keep : ∀ (X : Int → Int) (w : Nat), w < 41 → w ≠ q → slt V X (w : Int) I → slt V X (w : Int) (mm_up (mm_up I2 33 4 (iN ((a : Int) + 1))) 33 5 (iN ((u : Int) - 1))) := fun X w h1 h2 h3 => slt_of h3 (fun z z0 z1 => by rw [up_a (by decide), up_a (by decide), f2 34 (by decide), up_a (by decide)]; exact g4 z (by omega)) (by omega)
    refine ⟨_, rfl, ?_, clsS_of f3 (by rw [up_a (by decide), up_a (by decide)]), ⟨by omega, (q + 1) % 41, by omega, ?_, ?_, ?_, ?_, ?_⟩, ?_⟩
    · exact ex_trans (ex_mono g2 (by decide)) (ex_trans (ex_up (a := 33) (by decide)) (ex_trans (ex_mono f2 (by decide)) (ex_trans (ex_up (by decide)) (ex_up (by decide)))))
    · rw [up_k (by decide), up_k (by decide), f2 33 (by decide), up_eq]
    · rw [up_k (by decide), up_eq]; rfl
    · rw [up_eq]; congr 1; omega
    · intro i hi
      unfold Lswp
      by_cases ei : i = a
      · rw [if_pos ei, show ((q + 1) % 41 + 41 - (a + 1 - i)) % 41 = q by omega]
        exact slt_of g3 (fun z z0 z1 => by rw [up_a (by decide), up_a (by decide), f2 34 (by decide), up_a (by decide)]) (by omega)
      · rw [if_neg ei, show ((q + 1) % 41 + 41 - (a + 1 - i)) % 41 = (q + 41 - (a - i)) % 41 by omega]
        exact keep _ _ (by omega) (by omega) (hp i (by omega))
    · intro j hj
      unfold Lswp
      rw [if_neg (by omega), show a + 1 + j = a + (j + 1) by omega, show ((q + 1) % 41 + 1 + j) % 41 = (q + 1 + (j + 1)) % 41 by omega]
      exact keep _ _ (by omega) (by omega) (hr' (j + 1) (by omega))
    · refine cB_of hB ?_ ?_
      · rw [up_k (by decide), up_k (by decide), k33 2 (by decide)]
      · intro z hz
        rw [up_a (by decide), up_a (by decide), f2 34 (by decide), up_a (by decide)]
        exact g4 z (by omega)
theorem bc_mem : ∀ m : Fin 128, fJ6_bitCount (iN (m.val : Int)) = iN (mem (iN (m.val : Int)) 8) := by decide +kernel
theorem cl_over (h : cOK V S r I) {n : Nat} (hn : 20 ≤ n) : fX7_countOver n I r = some (iN (mem (lds S (-2) (V 0 3).toNat) 8)) := by
  have hu := h.1.1
  obtain ⟨m, m1, m2⟩ := lds_nat S (-2) (V 0 3).toNat (by omega)
  have p2 := pw2 (n := (V 0 3).toNat) (by omega)
  rw [fX7_countOver]
  simp only [iN_lit, iN_neg]
  rw [cl_loads h (by omega) (by omega), Option.bind_some, m2]
  have := bc_mem ⟨m, by omega⟩
  simp only at this
  rw [this]
def hbu (hb : Int → Bool) (b : Int) : Int → Bool := fun z => if z = b then true else hb z
def aIm (V : (Nat → Int → Int)) (S : Int → Int) (b : Int) : Int := if 0 ≤ b ∧ b < 3 then mem (lds S (-2) (V 0 3).toNat) 8 else -1
theorem cl_Image (hr0 : r = 3 ∨ r = 19) (h : cOK V S r I) {Ls : Nat → Int → Int} {a u : Nat} (hU : cU V Ls a u I) {hb : Int → Bool} {Bs : Int → Int → Int} (hB : cB V hb Bs I) {b : Int} (hb' : -2147483648 ≤ b ∧ b < 2147483648) {n : Nat} (hn : 60 ≤ n) :
    ∃ I', fX11_image n (iN b) I r = some (iN (aIm V S b), I') ∧ ex [33, 34] I I' ∧ cU V Ls a u I' ∧ cB V (if 0 ≤ b ∧ b < 3 then hbu hb b else hb) (if 0 ≤ b ∧ b < 3 then ud Bs b S else Bs) I' := by
  rw [fX11_image, fX2_fillBox]
  simp (disch := omega) only [iN_lit, iN_neg, iN_lt, iN_add]
  unfold aIm
  by_cases b0 : b < 0
  · rw [if_pos b0, Option.bind_some, ite_p rfl, if_neg (by omega), if_neg (by omega), if_neg (by omega)]
    exact ⟨I, rfl, ex_refl, hU, hB⟩
  · rw [if_neg b0]
    by_cases b1 : b < 3
    · rw [if_pos b1, if_pos (show 0 ≤ b ∧ b < 3 by omega), if_pos (show 0 ≤ b ∧ b < 3 by omega), if_pos (show 0 ≤ b ∧ b < 3 by omega)]
      obtain ⟨I1, g1, g2, g3, g4⟩ := cl_keep (w := 41 + b) (by omega) h.2.2.2 (n := n) (by omega)
      have e33 := g2 33 (by decide)
      rw [g1, Option.bind_some, Option.bind_some]
      dsimp only
      rw [ite_n n10, iN_31 (by omega) (by omega), e33]
      have x2 : ex [33, 34] I (mm_up I1 33 2 (I 33 2 ||| iN 1 <<< iN b)) := ex_trans (ex_mono g2 (by decide)) (ex_up (by decide))
      have c2 := cOK_ex h x2 (by rcases hr0 with rfl | rfl <;> decide)
      rw [cl_over c2 (by omega), Option.bind_some]
      refine ⟨_, rfl, x2, ?_, ?_, ?_⟩
      · obtain ⟨h40, q, hq, e3, e4, e5, hp, hr'⟩ := hU
        refine ⟨h40, q, hq, by rw [up_k (by decide), e33]; exact e3, by rw [up_k (by decide), e33]; exact e4, by rw [up_k (by decide), e33]; exact e5, ?_, ?_⟩
        · intro i hi
          exact slt_of (hp i hi) (fun z z0 z1 => by rw [up_a (by decide)]; exact g4 z (by omega)) (by omega)
        · intro j hj
          exact slt_of (hr' j hj) (fun z z0 z1 => by rw [up_a (by decide)]; exact g4 z (by omega)) (by omega)
      · intro z z0 z1
        rw [up_eq, bit_or, bit_shl1 (by omega) (by omega) z0 (by omega), hB.1 z z0 z1]
        unfold hbu
        by_cases e : z = b
        · rw [if_pos e, decide_eq_true e, Bool.or_true]
        · rw [if_neg e, decide_eq_false e, Bool.or_false]
      · intro z z0 z1 hz
        unfold ud
        by_cases e : z = b
        · rw [if_pos e, e]
          exact slt_of g3 (fun z z0 z1 => by rw [up_a (by decide)]) (by omega)
        · unfold hbu at hz
          rw [if_neg e] at hz
          rw [if_neg e]
          exact slt_of (hB.2 z z0 z1 hz) (fun y y0 y1 => by rw [up_a (by decide)]; exact g4 y (by omega)) (by omega)
    · rw [if_neg b1, Option.bind_some, ite_p rfl, if_neg (by omega), if_neg (by omega), if_neg (by omega)]
      exact ⟨I, rfl, ex_refl, hU, hB⟩
theorem cl_Back (hr0 : r = 3 ∨ r = 19) (h : cOK V S r I) {Ls : Nat → Int → Int} {a u : Nat} (hU : cU V Ls a u I) {hb : Int → Bool} {Bs : Int → Int → Int} (hB : cB V hb Bs I) (hBw : ∀ b, 0 ≤ b → b < 3 → hb b = true → wfS V 600 (Bs b)) {b : Int} (hb' : -2147483648 ≤ b ∧ b < 2147483648) {n : Nat} (hn : 60 ≤ n) :
    (((0 ≤ b ∧ b < 3) ∧ hb b = true) → ∃ I', fX11_back n (iN b) I r = some (iN (aIm V (Bs b) b), I') ∧ ex [32, 33] I I' ∧ clsS V (Bs b) I' ∧ cU V Ls 0 0 I' ∧ cB V hb Bs I') ∧ (¬ ((0 ≤ b ∧ b < 3) ∧ hb b = true) → fX11_back n (iN b) I r = some (iN (-1), I)) := by
  rw [fX11_back, fX2_openBox]
  simp (disch := omega) only [iN_lit, iN_neg, iN_lt, iN_add]
  by_cases b0 : b < 0
  · rw [if_pos b0, Option.bind_some, ite_p rfl]
    exact ⟨fun hh => by omega, fun _ => rfl⟩
  · rw [if_neg b0]
    by_cases b1 : b < 3
    · rw [if_pos b1]
      simp (disch := omega) only [iN_31, bit_t0]
      rw [hB.1 b (by omega) b1]
      cases eb : hb b with
      | false =>
        rw [ite_p rfl, Option.bind_some, ite_p rfl]
        exact ⟨fun hh => absurd hh.2 (by decide), fun _ => rfl⟩
      | true =>
        refine ⟨fun _ => ?_, fun hh => absurd ⟨by omega, rfl⟩ hh⟩
        rw [ite_n (by decide)]
        obtain ⟨I1, g1, g2, g3⟩ := cl_bring (w := 41 + b) (by omega) (hB.2 b (by omega) b1 eb) (n := n) (by omega)
        rw [g1, Option.bind_some, Option.bind_some]
        dsimp only
        rw [ite_n n10, fX2_forgetActs]
        simp only [iN_lit]
        have x2 : ex [33] I1 (mm_up (mm_up (mm_up I1 33 3 (iN 0)) 33 4 (iN 0)) 33 5 (iN 0)) := ex_trans (ex_trans (ex_up (by decide)) (ex_up (by decide))) (ex_up (by decide))
        have x1 : ex [32, 33] I (mm_up (mm_up (mm_up I1 33 3 (iN 0)) 33 4 (iN 0)) 33 5 (iN 0)) := ex_trans (ex_mono g2 (by decide)) (ex_mono x2 (by decide))
        have cS : clsS V (Bs b) (mm_up (mm_up (mm_up I1 33 3 (iN 0)) 33 4 (iN 0)) 33 5 (iN 0)) := clsS_of g3 (x2 32 (by decide))
        have c2 : cOK V (Bs b) r (mm_up (mm_up (mm_up I1 33 3 (iN 0)) 33 4 (iN 0)) 33 5 (iN 0)) := ⟨h.1, hBw b (by omega) b1 eb, clsV_of h.2.2.1 x1 (by rcases hr0 with rfl | rfl <;> decide), cS⟩
        rw [cl_over c2 (by omega), Option.bind_some]
        unfold aIm
        rw [if_pos (by omega)]
        refine ⟨_, rfl, x1, cS, ⟨by omega, 0, by omega, ?_, ?_, ?_, by intro i hi; omega, by intro j hj; omega⟩, ?_⟩
        · rw [up_k (by decide), up_k (by decide), up_eq]; rfl
        · rw [up_k (by decide), up_eq]; rfl
        · rw [up_eq]; rfl
        · refine cB_of hB ?_ ?_
          · rw [up_k (by decide), up_k (by decide), up_k (by decide), g2 33 (by decide)]
          · intro z _
            rw [up_a (by decide), up_a (by decide), up_a (by decide), g2 34 (by decide)]
    · rw [if_neg b1, Option.bind_some, ite_p rfl]
      exact ⟨fun hh => by omega, fun _ => rfl⟩
end KEE
