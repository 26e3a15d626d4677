/-! The reference's small methods. -/
theorem rf_bur {V : (Nat → Int → Int)} {A : Int → Int} {I : (Nat → Nat → Int32)} (hw : wfV V) (hV : refV V I) {b : Int} (hb : -3 ≤ b ∧ b < 8) (ha : hr I 85 28 A) (hp : ∀ l, 0 ≤ l → l < V 0 3 → -2 ≤ A (20 + l) ∧ A (20 + l) < 4) :
    ∀ (k n l : Nat), (l : Int) + k = V 0 3 → k < n → fX12_burdenOf_L4 n (iN b) (iN (bur V A b l)) (iN l) I = some (iN (burd V A b)) := by
  obtain ⟨⟨v0, v1, v2, v3, v4, v5, v6⟩, w1, w2, w3, w4, w5, w6, w7, w8⟩ := hV
  obtain ⟨u0, u1, u2, u3, u4, u5, u6⟩ := hw
  intro k
  induction k with
  | zero =>
    intro n l hl hn
    obtain ⟨n, rfl⟩ : ∃ n', n = n' + 1 := ⟨n - 1, by omega⟩
    have e : (V 0 3).toNat = l := by omega
    rw [fX12_burdenOf_L4]
    simp (disch := omega) only [v3, iN_lit, iN_add, iN_sub, iN_mul, iN_neg, iN_lt, iN_eq, iN_tn, if_true, if_false, if_pos, if_neg, burd, e]
  | succ k ih =>
    intro n l hl hn
    obtain ⟨n, rfl⟩ : ∃ n', n = n' + 1 := ⟨n - 1, by omega⟩
    have h1 := hp l (by omega) (by omega)
    have h2 := ih n (l + 1) (by omega) (by omega)
    have e : ((l + 1 : Nat) : Int) = (l : Int) + 1 := by omega
    rw [e, bur] at h2
    rw [fX12_burdenOf_L4]
    simp (disch := omega) only [v3, ha, w6, iN_lit, iN_add, iN_sub, iN_mul, iN_neg, iN_lt, iN_eq, iN_tn, if_true, if_false, if_pos, if_neg]
    by_cases h : A (20 + l) = b
    · rw [if_pos h] at h2 ⊢
      exact h2
    · rw [if_neg h] at h2 ⊢
      exact h2
theorem rf_burden {V : (Nat → Int → Int)} {A : Int → Int} {I : (Nat → Nat → Int32)} (hw : wfV V) (hV : refV V I) {b : Int} (hb : -3 ≤ b ∧ b < 8) (ha : hr I 85 28 A) (hp : ∀ l, 0 ≤ l → l < V 0 3 → -2 ≤ A (20 + l) ∧ A (20 + l) < 4) {n : Nat} (hn : 8 ≤ n) : fX12_burdenOf n (iN b) I = some (iN (burd V A b)) := by
  have h := hw.1
  have := rf_bur hw hV hb ha hp (V 0 3).toNat n 0 (by omega) (by omega)
  rw [fX12_burdenOf]
  simp only [iN_lit]
  rw [bur] at this
  rw [show ((0 : Nat) : Int) = 0 from rfl] at this
  rw [this]
  rfl
theorem rf_within {x m : Int} (hm : 0 ≤ m ∧ m < 100000) (hx : -2147483648 ≤ x ∧ x < 2147483648) : fX12_within (iN x) (iN m) = iN (clamp m x) := by
  unfold fX12_within clamp
  simp (disch := omega) only [iN_lit, iN_add, iN_sub, iN_mul, iN_neg, iN_lt, iN_eq, iN_tn]
  split
  · rfl
  · split <;> rfl
theorem rf_done {c : Int} (h1 : -17 ≤ c) (h2 : c < -7) (a b : Int32) : fX12_done (iN (rsg c)) a b = some (jn c a b) := by
  have : c = -17 ∨ c = -16 ∨ c = -15 ∨ c = -14 ∨ c = -13 ∨ c = -12 ∨ c = -11 ∨ c = -10 ∨ c = -9 ∨ c = -8 := by omega
  have t0 : fX12_truth (iN 0) = iN 0 := rfl
  have t1 : fX12_truth (iN 1) = iN 1 := rfl
  unfold fX12_done jn rsg
  rcases this with rfl | rfl | rfl | rfl | rfl | rfl | rfl | rfl | rfl | rfl <;> simp (disch := decide) only [iN_lit, iN_neg, iN_eq, Int.reduceNeg, Int.reduceEq, if_true, if_false, t0, t1] <;> (by_cases ha : a = iN 0) <;> (by_cases hb : b = iN 0) <;> (try simp only [ha, hb, if_true, if_false]) <;> (try split) <;> rfl
theorem fstk_dep (V : (Nat → Int → Int)) (g : Int → Int32) (z : Nat) : (fstk V g z).1 = fdep V z := by
  induction z with
  | zero => rfl
  | succ z ih =>
    rw [fstk, fdep, fst1, ← ih]
    split
    · split <;> rfl
    · rfl
theorem rf_hot_l {V : (Nat → Int → Int)} (hw : wfV V) (g : Int → Int32) : ∀ (k n z : Nat) (I : (Nat → Nat → Int32)), (z : Int) + k = V 0 5 → k < n → refV V I → (∀ j : Int, 0 ≤ j → j < 6 → I 71 j.toNat = g j) → (∀ j : Int, 0 ≤ j → j < fdep V z → I 70 j.toNat = (fstk V g z).2 j) →
    ∃ I', fX12_hotterOf_L90 n (iN (fdep V z)) (iN z) I = some I' ∧ ex [70] I I' ∧ (∀ j : Int, 0 ≤ j → j < fdep V (z + k) → I' 70 j.toNat = (fstk V g (z + k)).2 j) := by
  intro k
  induction k with
  | zero =>
    intro n z I hz hn hV hg hs
    obtain ⟨⟨v0, v1, v2, v3, v4, v5, v6⟩, w1, w2, w3, w4, w5, w6, w7, w8⟩ := hV
    obtain ⟨u0, u1, u2, u3, u4, u5, u6⟩ := hw
    obtain ⟨n, rfl⟩ : ∃ n', n = n' + 1 := ⟨n - 1, by omega⟩
    refine ⟨I, ?_, ex_refl, hs⟩
    rw [fX12_hotterOf_L90]
    simp (disch := omega) only [v5, iN_lit, iN_add, iN_sub, iN_mul, iN_neg, iN_lt, iN_eq, iN_tn, if_true, if_false, if_pos, if_neg]
  | succ k ih =>
    intro n z I hz hn hV hg hs
    have hV0 := hV
    obtain ⟨⟨v0, v1, v2, v3, v4, v5, v6⟩, w1, w2, w3, w4, w5, w6, w7, w8⟩ := hV
    obtain ⟨u0, u1, u2, u3, u4, u5, u6⟩ := hw
    obtain ⟨n, rfl⟩ : ∃ n', n = n' + 1 := ⟨n - 1, by omega⟩
    have hc := u5 z (by omega)
    have a1 : I 67 ((z : Int)).toNat = iN (rcs (V 7 z)) := w7 z (by omega) (by omega)
    have a2 : I 68 ((z : Int)).toNat = iN (rca (V 7 z)) := w8 z (by omega) (by omega)
    have e1 : ((z + 1 : Nat) : Int) = (z : Int) + 1 := by omega
    have e2 : z + (k + 1) = z + 1 + k := by omega
    have hd : ∀ x, fstk V g (z + 1) = x → x = fst1 g (V 7 z) (fstk V g z) := fun x h => h ▸ rfl
    have hf : (fstk V g z).1 = fdep V z := fstk_dep V g z
    rw [e2]
    by_cases c1 : V 7 z < -6
    · by_cases c2 : V 7 z = -7
      · have r1 : rcs (V 7 z) = 2 := by unfold rcs; rw [if_pos c1, if_pos c2]
        have hdp : fdep V (z + 1) = fdep V z := by rw [fdep, if_pos c1, if_pos c2]
        rw [r1] at a1
        have s1 := hs (fdep V z - 1) (by omega) (by omega)
        have hup : ∀ x : Int32, x = (if (fstk V g z).2 (fdep V z - 1) = 0 then 1 else 0) → ∀ j : Int, 0 ≤ j → j < fdep V (z + 1) → mm_up I 70 (fdep V z - 1).toNat x 70 j.toNat = (fstk V g (z + 1)).2 j := by
          intro x hx j h1 h2
          simp only [fstk, fst1, if_pos c1, if_pos c2, up_c, hf, ud]
          by_cases hj : j = fdep V z - 1
          · rw [if_pos hj, if_pos (by omega), hx]
          · rw [if_neg hj, if_neg (by omega)]; exact hs j h1 (by omega)
        have stp : ∀ x : Int32, x = (if (fstk V g z).2 (fdep V z - 1) = 0 then 1 else 0) → ∃ I', fX12_hotterOf_L90 n (iN (fdep V z)) (iN ((z : Int) + 1)) (mm_up I 70 (fdep V z - 1).toNat x) = some I' ∧ ex [70] I I' ∧ (∀ j : Int, 0 ≤ j → j < fdep V (z + 1 + k) → I' 70 j.toNat = (fstk V g (z + 1 + k)).2 j) := by
          intro x hx
          obtain ⟨I', h1, h2, h3⟩ := ih n (z + 1) (mm_up I 70 (fdep V z - 1).toNat x) (by omega) (by omega) (refV_of hV0 (l := [70]) (ex_up (by decide)) (by decide)) (fun j h1 h2 => by rw [up_a (by decide)]; exact hg j h1 h2) (hup x hx)
          rw [hdp, e1] at h1
          exact ⟨I', h1, ex_trans (ex_up (by decide)) h2, h3⟩
        rw [fX12_hotterOf_L90]
        have t0 : fX12_truth (iN 0) = 0 := rfl
        have t1 : fX12_truth (iN 1) = 1 := rfl
        simp (disch := omega) only [v5, a1, a2, s1, iN_lit, iN_add, iN_sub, iN_mul, iN_neg, iN_lt, iN_eq, iN_tn, if_true, if_false, if_pos, if_neg, Int.reduceNeg, Int.reduceEq, t0, t1]
        split
        · next h => exact stp 1 (if_pos h).symm
        · next h => exact stp 0 (if_neg h).symm
      · have r1 : rcs (V 7 z) = 3 := by unfold rcs; rw [if_pos c1, if_neg c2]
        have r2 : rca (V 7 z) = rsg (V 7 z) := by unfold rca; rw [if_pos c1, if_neg c2]
        have hdp : fdep V (z + 1) = fdep V z - 1 := by rw [fdep, if_pos c1, if_neg c2]
        rw [r1] at a1
        rw [r2] at a2
        have s1 := hs (fdep V z - 1) (by omega) (by omega)
        have s2 := hs (fdep V z - 1 - 1) (by omega) (by omega)
        have hup : ∀ j : Int, 0 ≤ j → j < fdep V (z + 1) → mm_up I 70 (fdep V z - 1 - 1).toNat (jn (V 7 z) ((fstk V g z).2 (fdep V z - 1 - 1)) ((fstk V g z).2 (fdep V z - 1))) 70 j.toNat = (fstk V g (z + 1)).2 j := by
          intro j h1 h2
          have e3 : fdep V z - 1 - 1 = fdep V z - 2 := by omega
          simp only [fstk, fst1, if_pos c1, if_neg c2, up_c, hf, ud, e3]
          by_cases hj : j = fdep V z - 2
          · rw [if_pos hj, if_pos (by omega)]
          · rw [if_neg hj, if_neg (by omega)]; exact hs j h1 (by omega)
        obtain ⟨I', h1, h2, h3⟩ := ih n (z + 1) _ (by omega) (by omega) (refV_of hV0 (l := [70]) (ex_up (by decide)) (by decide)) (fun j h1 h2 => by rw [up_a (by decide)]; exact hg j h1 h2) hup
        rw [hdp, e1] at h1
        refine ⟨I', ?_, ex_trans (ex_up (by decide)) h2, h3⟩
        rw [fX12_hotterOf_L90]
        simp (disch := omega) only [v5, a1, a2, s1, s2, iN_lit, iN_add, iN_sub, iN_mul, iN_neg, iN_lt, iN_eq, iN_tn, if_true, if_false, if_pos, if_neg, Int.reduceNeg, Int.reduceEq, Int.add_neg_eq_sub, rf_done hc.1 (by omega), Option.bind_some]
        exact h1
    · have hdp : fdep V (z + 1) = fdep V z + 1 := by rw [fdep, if_neg c1]
      have hup : ∀ x : Int32, x = (if V 7 z < 0 then g (-1 - V 7 z) else iN (V 7 z)) → ∀ j : Int, 0 ≤ j → j < fdep V (z + 1) → mm_up I 70 (fdep V z).toNat x 70 j.toNat = (fstk V g (z + 1)).2 j := by
        intro x hx j h1 h2
        simp only [fstk, fst1, if_neg c1, up_c, hf, ud]
        by_cases hj : j = fdep V z
        · rw [if_pos hj, if_pos (by omega), hx]
        · rw [if_neg hj, if_neg (by omega)]; exact hs j h1 (by omega)
      have stp : ∀ x : Int32, x = (if V 7 z < 0 then g (-1 - V 7 z) else iN (V 7 z)) → ∃ I', fX12_hotterOf_L90 n (iN (fdep V z + 1)) (iN ((z : Int) + 1)) (mm_up I 70 (fdep V z).toNat x) = some I' ∧ ex [70] I I' ∧ (∀ j : Int, 0 ≤ j → j < fdep V (z + 1 + k) → I' 70 j.toNat = (fstk V g (z + 1 + k)).2 j) := by
        intro x hx
        obtain ⟨I', h1, h2, h3⟩ := ih n (z + 1) (mm_up I 70 (fdep V z).toNat x) (by omega) (by omega) (refV_of hV0 (l := [70]) (ex_up (by decide)) (by decide)) (fun j h1 h2 => by rw [up_a (by decide)]; exact hg j h1 h2) (hup x hx)
        rw [hdp, e1] at h1
        exact ⟨I', h1, ex_trans (ex_up (by decide)) h2, h3⟩
      by_cases c2 : V 7 z < 0
      · have r1 : rcs (V 7 z) = 1 := by unfold rcs; rw [if_neg c1, if_pos c2]
        have r2 : rca (V 7 z) = -1 - V 7 z := by unfold rca; rw [if_neg c1, if_pos c2]
        rw [r1] at a1
        rw [r2] at a2
        have s1 := hg (-1 - V 7 z) (by omega) (by omega)
        rw [fX12_hotterOf_L90]
        simp (disch := omega) only [v5, a1, a2, s1, iN_lit, iN_add, iN_sub, iN_mul, iN_neg, iN_lt, iN_eq, iN_tn, if_true, if_false, if_pos, if_neg, Int.reduceNeg, Int.reduceEq]
        exact stp _ (by rw [if_pos c2])
      · have r1 : rcs (V 7 z) = 0 := by unfold rcs; rw [if_neg c1, if_neg c2]
        have r2 : rca (V 7 z) = V 7 z := by unfold rca; rw [if_neg c1, if_neg c2]
        rw [r1] at a1
        rw [r2] at a2
        rw [fX12_hotterOf_L90]
        simp (disch := omega) only [v5, a1, a2, iN_lit, iN_add, iN_sub, iN_mul, iN_neg, iN_lt, iN_eq, iN_tn, if_true, if_false, if_pos, if_neg, Int.reduceNeg, Int.reduceEq]
        exact stp _ (by rw [if_neg c2])
theorem rf_hot {V : (Nat → Int → Int)} {A : Int → Int} {I : (Nat → Nat → Int32)} (hw : wfV V) (hV : refV V I) {b : Int} (hb1 : 0 ≤ b) (hb2 : b < V 0 2) (ha : hr I 85 28 A) (hp : ∀ l, 0 ≤ l → l < V 0 3 → -2 ≤ A (20 + l) ∧ A (20 + l) < 4) {n : Nat} (hn : 302 ≤ n) :
    ∃ I', fX12_hotterOf n (iN b) I = some (iN (warm V (A (4 + b)) (A b) (burd V A b) (V 3 b) (A (16 + b)) (A (8 + b))), I') ∧ ex [70, 71] I I' := by
  have hV0 := hV
  have hw0 := hw
  obtain ⟨⟨v0, v1, v2, v3, v4, v5, v6⟩, w1, w2, w3, w4, w5, w6, w7, w8⟩ := hV
  obtain ⟨u0, u1, u2, u3, u4, u5, u6⟩ := hw
  have hx0 : ∀ x y, ex [71] I (mm_up (mm_up I 71 0 x) 71 1 y) := fun x y => ex_trans (ex_up (by decide)) (ex_up (by decide))
  have ha0 : ∀ x y, hr (mm_up (mm_up I 71 0 x) 71 1 y) 85 28 A := fun x y => hr_a (hr_a ha (by decide)) (by decide)
  have hbu : ∀ x y, fX12_burdenOf n (iN b) (mm_up (mm_up I 71 0 x) 71 1 y) = some (iN (burd V A b)) := fun x y => rf_burden hw0 (refV_of hV0 (hx0 x y) (by decide)) (by omega) (ha0 x y) hp (by omega)
  rw [fX12_hotterOf]
  simp (disch := omega) only [ha, w3, iN_lit, iN_add, iN_sub, iN_mul, iN_neg, iN_lt, iN_eq, iN_tn, if_true, if_false, if_pos, if_neg, hbu, Option.bind_some]
  have hx1 : ∀ I1, I1 = (mm_up (mm_up (mm_up (mm_up (mm_up (mm_up (mm_up I 71 0 (iN (A (4 + b)))) 71 1 (iN (A b))) 71 2 (iN (burd V A b))) 71 3 (iN (V 3 b))) 71 4 (iN (A (16 + b)))) 71 5 (iN (A (8 + b)))) 70 0 (iN 1)) →
      (∃ I', fX12_hotterOf_L90 n (iN 0) (iN 0) I1 = some I' ∧ ex [70] I1 I' ∧ I' 70 0 = if V 0 5 = 0 then 1 else (fstk V (giv (A (4 + b)) (A b) (burd V A b) (V 3 b) (A (16 + b)) (A (8 + b))) (V 0 5).toNat).2 0) ∧ ex [70, 71] I I1 := by
    intro I1 e
    have hx : ex [70, 71] I I1 := by
      rw [e]
      exact ex_trans (ex_trans (ex_trans (ex_trans (ex_trans (ex_trans (ex_up (by decide)) (ex_up (by decide))) (ex_up (by decide))) (ex_up (by decide))) (ex_up (by decide))) (ex_up (by decide))) (ex_up (by decide))
    refine ⟨?_, hx⟩
    have hV1 : refV V I1 := refV_of hV0 hx (by decide)
    by_cases h0 : V 0 5 = 0
    · refine ⟨I1, ?_, ex_refl, ?_⟩
      · obtain ⟨n, rfl⟩ : ∃ n', n = n' + 1 := ⟨n - 1, by omega⟩
        rw [fX12_hotterOf_L90, hV1.1.2.2.2.2.2.1, h0]
        simp (disch := omega) only [iN_lit, iN_add, iN_sub, iN_mul, iN_neg, iN_lt, iN_eq, iN_tn, if_true, if_false, if_pos, if_neg]
      · rw [if_pos h0, e, up_eq]; rfl
    · obtain ⟨I', q1, q2, q3⟩ := rf_hot_l hw0 (giv (A (4 + b)) (A b) (burd V A b) (V 3 b) (A (16 + b)) (A (8 + b))) (V 0 5).toNat n 0 I1 (by omega) (by omega) hV1 (by
        intro j h1 h2
        have : j = 0 ∨ j = 1 ∨ j = 2 ∨ j = 3 ∨ j = 4 ∨ j = 5 := by omega
        rw [e]
        rcases this with rfl | rfl | rfl | rfl | rfl | rfl <;> simp [mm_up, giv]) (by intro j h1 h2; rw [fdep] at h2; omega)
      rw [fdep] at q1
      refine ⟨I', q1, q2, ?_⟩
      rw [if_neg h0]
      have := q3 0 (by omega) (by rw [Nat.zero_add]; have := u6; omega)
      rw [Nat.zero_add] at this
      exact this
  obtain ⟨⟨I', q1, q2, q3⟩, q4⟩ := hx1 _ rfl
  refine ⟨I', ?_, ex_trans q4 (ex_mono q2 (by intro a h; simp at h ⊢; omega))⟩
  simp only [q1, Option.bind_some]
  rw [q3, warm]
  by_cases h0 : V 0 5 = 0
  · rw [if_pos h0, if_pos h0]; rfl
  · rw [if_neg h0, if_neg h0, ← iN_of ((fstk V _ (V 0 5).toNat).2 0), rf_within (by omega) ⟨iN_lo _, iN_hi _⟩, iN_of]
