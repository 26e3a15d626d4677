/-! THE RIVER that was told, in the reference. -/
section RVR
variable {I : (Nat → Nat → Int32)} {J : mJ} {W : (Nat → Int → Int)} {X : Int32} {NB NL : Nat → List Int}
theorem gi {k : Int} {c : Nat} (h0 : 0 ≤ k) (h1 : k < c) (hc : c ≤ 1600) : ¬ (iN k < (0 : Int32) ∨ c ≤ (iN k).toNatClampNeg) := by
  show ¬ (iN _ < iN 0 ∨ _)
  rw [iN_lt (by omega) (by omega) (by omega) (by omega), iN_tn (by omega) (by omega)]; omega
theorem gl1 {k : Int} (h0 : -100 ≤ k) (h1 : k < 100000) : (iN k + 1 : Int32) = iN (k + 1) := iN_add k 1
theorem rv_82 {F G : Int → Int} {P : Int} (hP : 0 ≤ P ∧ P ≤ 300) (h18 : I 62 18 = iN P) (h5 : hr I 65 P F) (h6 : hr I 66 P G) {n : Nat} (hn : 310 ≤ n) : ∃ I1, fX12_river_L82 n 0 I = some I1 ∧ hr I1 67 P F ∧ hr I1 68 P G ∧ (∀ a k, ¬ a = 67 → ¬ a = 68 → I1 a k = I a k) := by
  obtain ⟨n2, M, q1, q2, q3, q4, q5⟩ := loop (fun n (k : Int) (s : (Nat → Nat → Int32)) => fX12_river_L82 n (iN k) s) 1 (P := P) (fun k s => hr s 67 k F ∧ hr s 68 k G ∧ (∀ a j, ¬ a = 67 → ¬ a = 68 → s a j = I a j)) (by
    intro n k s hn h0 h1 ⟨i1, i2, i3⟩
    refine ⟨mm_up (mm_up s 67 k.toNat (iN (F k))) 68 k.toNat (iN (G k)), ?_, ?_, ?_, ?_⟩
    · show fX12_river_L82 (n + 1) (iN k) s = _
      rw [fX12_river_L82, i3 62 18 (by omega) (by omega), h18, ite_p (by rw [iN_lt (by omega) (by omega) (by omega) (by omega)]; exact h1), ite_n (gi h0 (by omega) (by omega)), ite_n (gi h0 (by omega) (by omega)), ite_n (gi h0 (by omega) (by omega)), ite_n (gi h0 (by omega) (by omega)), iN_tn (by omega) (by omega), i3 65 _ (by omega) (by omega), i3 66 _ (by omega) (by omega), h5 k h0 h1, h6 k h0 h1, gl1 (by omega) (by omega)]
    · intro z z1 z2
      rw [up_a (by omega), up_c]
      by_cases e : z.toNat = k.toNat
      · rw [if_pos e, show z = k by omega]
      · rw [if_neg e]; exact i1 z z1 (by omega)
    · intro z z1 z2
      rw [up_c]
      by_cases e : z.toNat = k.toNat
      · rw [if_pos e, show z = k by omega]
      · rw [if_neg e, up_a (by omega)]; exact i2 z z1 (by omega)
    · intro a j g1 g2
      rw [up_a (by omega), up_a (by omega)]; exact i3 a j g1 g2) P.toNat n 0 I (by omega) (by omega) ⟨fun z z1 z2 => by omega, fun z z1 z2 => by omega, fun _ _ _ _ => rfl⟩ (by omega)
  refine ⟨M, ?_, q3, q4, q5⟩
  obtain ⟨n2, rfl⟩ : ∃ k, n2 = k + 1 := ⟨n2 - 1, by omega⟩
  have q2 : fX12_river_L82 n 0 I = fX12_river_L82 (n2 + 1) (iN P) M := q2
  rw [q2, fX12_river_L82, q5 62 18 (by omega) (by omega), h18, ite_n (iN_ir _)]
theorem rv_122 {F : Int → Int} {G : Int → Int} (hF : ∀ z, 0 ≤ z → z < 56 → -1 ≤ F z ∧ F z ≤ 7) (hG : ∀ z, 0 ≤ z → z < 56 → G z = 0 ∨ G z = 1) (h5 : hr I 72 56 F) (h6 : hr I 73 56 (fun z => if G z = 1 then 1 else -1)) {n : Nat} (hn : 60 ≤ n) : ∃ I1, fX12_river_L122 n 0 I = some I1 ∧ hr I1 78 56 (fun z => if F z < 0 then 0 else F z) ∧ hr I1 79 56 G ∧ (∀ a k, ¬ a = 78 → ¬ a = 79 → I1 a k = I a k) := by
  obtain ⟨n2, M, q1, q2, q3, q4, q5⟩ := loop (fun n (k : Int) (s : (Nat → Nat → Int32)) => fX12_river_L122 n (iN k) s) 1 (P := 56) (fun k s => hr s 78 k (fun z => if F z < 0 then 0 else F z) ∧ hr s 79 k G ∧ (∀ a j, ¬ a = 78 → ¬ a = 79 → s a j = I a j)) (by
    intro n k s hn h0 h1 ⟨i1, i2, i3⟩
    have hFk := hF k h0 h1
    have hGk := hG k h0 h1
    refine ⟨mm_up (mm_up s 78 k.toNat (iN (if F k < 0 then 0 else F k))) 79 k.toNat (iN (G k)), ?_, ?_, ?_, ?_⟩
    · show fX12_river_L122 (n + 1) (iN k) s = _
      have e72 : s 72 k.toNat = iN (F k) := by rw [i3 72 _ (by omega) (by omega)]; exact h5 k h0 h1
      have e73 : s 73 k.toNat = iN (if G k = 1 then 1 else -1) := by rw [i3 73 _ (by omega) (by omega)]; exact h6 k h0 h1
      have n73 : (s 73 k.toNat < (0 : Int32)) = ¬ G k = 1 := by
        rw [e73]
        show (iN _ < iN 0) = _
        by_cases c : G k = 1
        · rw [if_pos c]; exact propext ⟨fun z => absurd z (by decide), fun z => absurd c z⟩
        · rw [if_neg c]; exact propext ⟨fun _ => c, fun _ => by decide⟩
      have n72 : (s 72 k.toNat < (0 : Int32)) = (F k < 0) := by
        rw [e72]
        show (iN _ < iN 0) = _
        rw [iN_lt (by omega) (by omega) (by omega) (by omega)]
      have g56 := gi (k := k) (c := 56) h0 h1 (by omega)
      have tn : (iN k).toNatClampNeg = k.toNat := iN_tn (by omega) (by omega)
      rw [tn] at g56
      rw [fX12_river_L122, ite_p (show iN k < (56 : Int32) by show iN k < iN 56; rw [iN_lt (by omega) (by omega) (by omega) (by omega)]; exact h1), tn, ite_n g56, gl1 (by omega) (by omega)]
      by_cases c1 : F k < 0
      · rw [ite_p (n72.mpr c1), ite_n g56, ite_n g56, if_pos c1]
        by_cases c2 : G k = 1
        · rw [ite_n (fun z => (n73.mp z) c2), ite_n g56, c2]; rfl
        · rw [ite_p (n73.mpr c2), ite_n g56, show G k = 0 by omega]; rfl
      · rw [ite_n (fun z => c1 (n72.mp z)), ite_n g56, ite_n g56, ite_n g56, if_neg c1, e72]
        by_cases c2 : G k = 1
        · rw [ite_n (fun z => (n73.mp z) c2), ite_n g56, c2]; rfl
        · rw [ite_p (n73.mpr c2), ite_n g56, show G k = 0 by omega]; rfl
    · intro z z1 z2
      rw [up_a (by omega), up_c]
      by_cases e : z.toNat = k.toNat
      · rw [if_pos e, show z = k by omega]
      · rw [if_neg e]; exact i1 z z1 (by omega)
    · intro z z1 z2
      rw [up_c]
      by_cases e : z.toNat = k.toNat
      · rw [if_pos e, show z = k by omega]
      · rw [if_neg e, up_a (by omega)]; exact i2 z z1 (by omega)
    · intro a j g1 g2
      rw [up_a (by omega), up_a (by omega)]; exact i3 a j g1 g2) 56 n 0 I (by omega) (by omega) ⟨fun z z1 z2 => by omega, fun z z1 z2 => by omega, fun _ _ _ _ => rfl⟩ (by omega)
  refine ⟨M, ?_, q3, q4, q5⟩
  obtain ⟨n2, rfl⟩ : ∃ k, n2 = k + 1 := ⟨n2 - 1, by omega⟩
  have q2 : fX12_river_L122 n 0 I = fX12_river_L122 (n2 + 1) (iN 56) M := q2
  rw [q2, fX12_river_L122]
  exact if_neg (by decide)
theorem rv_181 {n : Nat} (hn : 40 ≤ n) : ∃ I1, fX12_river_L181 n 0 I = some I1 ∧ hr I1 84 28 (fun _ => 0) ∧ (∀ a k, ¬ a = 84 → I1 a k = I a k) := by
  obtain ⟨n2, M, q1, q2, q3, q5⟩ := loop (fun n (k : Int) (s : (Nat → Nat → Int32)) => fX12_river_L181 n (iN k) s) 1 (P := 28) (fun k s => hr s 84 k (fun _ => 0) ∧ (∀ a j, ¬ a = 84 → s a j = I a j)) (by
    intro n k s hn h0 h1 ⟨i1, i3⟩
    refine ⟨mm_up s 84 k.toNat (iN 0), ?_, ?_, ?_⟩
    · show fX12_river_L181 (n + 1) (iN k) s = _
      rw [fX12_river_L181, ite_p (show iN k < (28 : Int32) by show iN k < iN 28; rw [iN_lt (by omega) (by omega) (by omega) (by omega)]; exact h1), ite_n (gi (c := 28) h0 h1 (by omega)), iN_tn (by omega) (by omega), gl1 (by omega) (by omega)]
      rfl
    · intro z z1 z2
      rw [up_c]
      by_cases e : z.toNat = k.toNat
      · rw [if_pos e]
      · rw [if_neg e]; exact i1 z z1 (by omega)
    · intro a j g1
      rw [up_a (by omega)]; exact i3 a j g1) 28 n 0 I (by omega) (by omega) ⟨fun z z1 z2 => by omega, fun _ _ _ => rfl⟩ (by omega)
  refine ⟨M, ?_, q3, q5⟩
  obtain ⟨n2, rfl⟩ : ∃ k, n2 = k + 1 := ⟨n2 - 1, by omega⟩
  have q2 : fX12_river_L181 n 0 I = fX12_river_L181 (n2 + 1) (iN 28) M := q2
  rw [q2, fX12_river_L181]
  exact if_neg (by decide)
theorem rv_202 {P : Int} {A C D G : Int → Int} (hP : 0 ≤ P ∧ P ≤ 4) (h48 : I 62 48 = iN P) (hA : hr I 74 P A) (hC : hr I 75 P C) (hD : hr I 76 P D) (hG : hr I 84 28 G) {n : Nat} (hn : 10 ≤ n) : ∃ I1, fX12_river_L202 n 0 I = some I1 ∧ hr I1 80 P A ∧ hr I1 81 P C ∧ hr I1 82 P D ∧ hr I1 84 28 (fun z => if z < P then C z else G z) ∧ (∀ a k, ¬ a = 80 → ¬ a = 81 → ¬ a = 82 → ¬ a = 84 → I1 a k = I a k) := by
  obtain ⟨n2, M, q1, q2, q3, q4, q5, q6, q7⟩ := loop (fun n (k : Int) (s : (Nat → Nat → Int32)) => fX12_river_L202 n (iN k) s) 1 (P := P) (fun k s => hr s 80 k A ∧ hr s 81 k C ∧ hr s 82 k D ∧ hr s 84 28 (fun z => if z < k then C z else G z) ∧ (∀ a j, ¬ a = 80 → ¬ a = 81 → ¬ a = 82 → ¬ a = 84 → s a j = I a j)) (by
    intro n k s hn h0 h1 ⟨i1, i2, i3, i4, i5⟩
    have g4 := gi (k := k) (c := 4) h0 (by omega) (by omega)
    have g28 := gi (k := k) (c := 28) h0 (by omega) (by omega)
    have eA : s 74 k.toNat = iN (A k) := by rw [i5 _ _ (by omega) (by omega) (by omega) (by omega)]; exact hA k h0 h1
    have eC : s 75 k.toNat = iN (C k) := by rw [i5 _ _ (by omega) (by omega) (by omega) (by omega)]; exact hC k h0 h1
    have eD : s 76 k.toNat = iN (D k) := by rw [i5 _ _ (by omega) (by omega) (by omega) (by omega)]; exact hD k h0 h1
    refine ⟨mm_up (mm_up (mm_up (mm_up s 80 k.toNat (iN (A k))) 81 k.toNat (iN (C k))) 82 k.toNat (iN (D k))) 84 k.toNat (iN (C k)), ?_, ?_, ?_, ?_, ?_, ?_⟩
    · show fX12_river_L202 (n + 1) (iN k) s = _
      rw [fX12_river_L202, i5 62 48 (by omega) (by omega) (by omega) (by omega), h48, ite_p (by rw [iN_lt (by omega) (by omega) (by omega) (by omega)]; exact h1), ite_n g4, ite_n g4, ite_n g4, ite_n g4, ite_n g4, ite_n g4, ite_n g4, ite_n g28, iN_tn (by omega) (by omega), eA, eC, eD, up_eq, gl1 (by omega) (by omega)]
    · intro z z1 z2
      rw [up_a (by omega), up_a (by omega), up_a (by omega), up_c]
      by_cases e : z.toNat = k.toNat
      · rw [if_pos e, show z = k by omega]
      · rw [if_neg e]; exact i1 z z1 (by omega)
    · intro z z1 z2
      rw [up_a (by omega), up_a (by omega), up_c]
      by_cases e : z.toNat = k.toNat
      · rw [if_pos e, show z = k by omega]
      · rw [if_neg e, up_a (by omega)]; exact i2 z z1 (by omega)
    · intro z z1 z2
      rw [up_a (by omega), up_c]
      by_cases e : z.toNat = k.toNat
      · rw [if_pos e, show z = k by omega]
      · rw [if_neg e, up_a (by omega), up_a (by omega)]; exact i3 z z1 (by omega)
    · intro z z1 z2
      rw [up_c]
      dsimp only
      by_cases e : z.toNat = k.toNat
      · rw [if_pos e, if_pos (by omega), show z = k by omega]
      · rw [if_neg e, up_a (by omega), up_a (by omega), up_a (by omega), i4 z z1 z2]
        congr 1
        dsimp only
        by_cases c : z < k
        · rw [if_pos c, if_pos (show z < k + 1 by omega)]
        · rw [if_neg c, if_neg (show ¬ z < k + 1 by omega)]
    · intro a j g1 g2 g3 g5
      rw [up_a (by omega), up_a (by omega), up_a (by omega), up_a (by omega)]; exact i5 a j g1 g2 g3 g5) P.toNat n 0 I (by omega) (by omega) ⟨fun z z1 z2 => by omega, fun z z1 z2 => by omega, fun z z1 z2 => by omega, fun z z1 z2 => by dsimp only; rw [if_neg (by omega)]; exact hG z z1 z2, fun _ _ _ _ _ _ => rfl⟩ (by omega)
  refine ⟨M, ?_, q3, q4, q5, q6, q7⟩
  obtain ⟨n2, rfl⟩ : ∃ k, n2 = k + 1 := ⟨n2 - 1, by omega⟩
  have q2 : fX12_river_L202 n 0 I = fX12_river_L202 (n2 + 1) (iN P) M := q2
  rw [q2, fX12_river_L202, q7 62 48 (by omega) (by omega) (by omega) (by omega), h48, ite_n (iN_ir _)]
theorem rv_266 {P : Int} {A G : Int → Int} (hP : 0 ≤ P ∧ P ≤ 7) (h49 : I 62 49 = iN P) (hA : hr I 77 P A) (hG : hr I 84 28 G) {n : Nat} (hn : 10 ≤ n) : ∃ I1, fX12_river_L266 n 0 I = some I1 ∧ hr I1 83 P A ∧ hr I1 84 28 (fun z => if 20 ≤ z ∧ z < 20 + P then -1 else G z) ∧ (∀ a k, ¬ a = 83 → ¬ a = 84 → I1 a k = I a k) := by
  obtain ⟨n2, M, q1, q2, q3, q4, q5⟩ := loop (fun n (k : Int) (s : (Nat → Nat → Int32)) => fX12_river_L266 n (iN k) s) 1 (P := P) (fun k s => hr s 83 k A ∧ hr s 84 28 (fun z => if 20 ≤ z ∧ z < 20 + k then -1 else G z) ∧ (∀ a j, ¬ a = 83 → ¬ a = 84 → s a j = I a j)) (by
    intro n k s hn h0 h1 ⟨i1, i4, i5⟩
    have g7 := gi (k := k) (c := 7) h0 (by omega) (by omega)
    have e20 : ((20 : Int32) + iN k) = iN (20 + k) := iN_add 20 k
    have g28 := gi (k := 20 + k) (c := 28) (by omega) (by omega) (by omega)
    have eA : s 77 k.toNat = iN (A k) := by rw [i5 _ _ (by omega) (by omega)]; exact hA k h0 h1
    refine ⟨mm_up (mm_up s 83 k.toNat (iN (A k))) 84 (20 + k).toNat (iN (-1)), ?_, ?_, ?_, ?_⟩
    · show fX12_river_L266 (n + 1) (iN k) s = _
      rw [fX12_river_L266, i5 62 49 (by omega) (by omega), h49, ite_p (by rw [iN_lt (by omega) (by omega) (by omega) (by omega)]; exact h1), ite_n g7, ite_n g7, e20, ite_n g28, iN_tn (a := k) (by omega) (by omega), iN_tn (a := 20 + k) (by omega) (by omega), eA, gl1 (by omega) (by omega)]
      rfl
    · intro z z1 z2
      rw [up_a (by omega), up_c]
      by_cases e : z.toNat = k.toNat
      · rw [if_pos e, show z = k by omega]
      · rw [if_neg e]; exact i1 z z1 (by omega)
    · intro z z1 z2
      rw [up_c]
      dsimp only
      by_cases e : z.toNat = (20 + k).toNat
      · rw [if_pos e, if_pos (by omega)]
      · rw [if_neg e, up_a (by omega), i4 z z1 z2]
        congr 1
        dsimp only
        by_cases c : 20 ≤ z ∧ z < 20 + k
        · rw [if_pos c, if_pos (show 20 ≤ z ∧ z < 20 + (k + 1) by omega)]
        · rw [if_neg c, if_neg (show ¬ (20 ≤ z ∧ z < 20 + (k + 1)) by omega)]
    · intro a j g1 g2
      rw [up_a (by omega), up_a (by omega)]; exact i5 a j g1 g2) P.toNat n 0 I (by omega) (by omega) ⟨fun z z1 z2 => by omega, fun z z1 z2 => by dsimp only; rw [if_neg (by omega)]; exact hG z z1 z2, fun _ _ _ _ => rfl⟩ (by omega)
  refine ⟨M, ?_, q3, q4, q5⟩
  obtain ⟨n2, rfl⟩ : ∃ k, n2 = k + 1 := ⟨n2 - 1, by omega⟩
  have q2 : fX12_river_L266 n 0 I = fX12_river_L266 (n2 + 1) (iN P) M := q2
  rw [q2, fX12_river_L266, q5 62 49 (by omega) (by omega), h49, ite_n (iN_ir _)]
theorem nar_z : vp_nar .boolean 0 = iN 0 := rfl
theorem rv_335 {n : Nat} (hn : 10 ≤ n) : ∃ I1, fX12_river_L335 n 0 I = some I1 ∧ hr I1 105 3 (fun _ => 0) ∧ (∀ a k, ¬ a = 105 → I1 a k = I a k) := by
  obtain ⟨n2, M, q1, q2, q3, q5⟩ := loop (fun n (k : Int) (s : (Nat → Nat → Int32)) => fX12_river_L335 n (iN k) s) 1 (P := 3) (fun k s => hr s 105 k (fun _ => 0) ∧ (∀ a j, ¬ a = 105 → s a j = I a j)) (by
    intro n k s hn h0 h1 ⟨i1, i3⟩
    refine ⟨mm_up s 105 k.toNat (iN 0), ?_, ?_, ?_⟩
    · show fX12_river_L335 (n + 1) (iN k) s = _
      rw [fX12_river_L335, ite_p (show iN k < (3 : Int32) by show iN k < iN 3; rw [iN_lt (by omega) (by omega) (by omega) (by omega)]; exact h1), ite_n (gi (c := 3) h0 h1 (by omega)), iN_tn (by omega) (by omega), gl1 (by omega) (by omega), nar_z]
    · intro z z1 z2
      rw [up_c]
      by_cases e : z.toNat = k.toNat
      · rw [if_pos e]
      · rw [if_neg e]; exact i1 z z1 (by omega)
    · intro a j g1
      rw [up_a (by omega)]; exact i3 a j g1) 3 n 0 I (by omega) (by omega) ⟨fun z z1 z2 => by omega, fun _ _ _ => rfl⟩ (by omega)
  refine ⟨M, ?_, q3, q5⟩
  obtain ⟨n2, rfl⟩ : ∃ k, n2 = k + 1 := ⟨n2 - 1, by omega⟩
  have q2 : fX12_river_L335 n 0 I = fX12_river_L335 (n2 + 1) (iN 3) M := q2
  rw [q2, fX12_river_L335]
  exact if_neg (by decide)
/-- the reference's river, behind a clean text -/
def rTail (n : Nat) (I : (Nat → Nat → Int32)) (J : mJ) : Option (Int32 × (Nat → Nat → Int32) × mJ) := if (I 62 24) = 0 then (fX12_river_J77 n 0 (mm_up (mm_up (mm_up (mm_up (mm_up (mm_up I 62 46 (I 62 38)) 62 47 (I 62 39)) 62 48 (I 62 42)) 62 49 (I 62 43)) 62 50 (I 62 44)) 62 21 (I 62 20)) J) else (fX12_river_J77 n (I 62 17) (mm_up (mm_up (mm_up (mm_up (mm_up (mm_up I 62 46 (I 62 38)) 62 47 (I 62 39)) 62 48 (I 62 42)) 62 49 (I 62 43)) 62 50 (I 62 44)) 62 21 (I 62 20)) J)
theorem rf_fin (hw : wfB W X NB NL) (h : rBd W X NB NL I J) {n : Nat} (hn : 400 ≤ n) : ∃ I1, rTail n I J = some (iN (W 0 2), I1, J) ∧ refV (vW W) I1 ∧ hr I1 84 28 (sW W) ∧ (I1 62 57 = iN 0 ∧ I1 62 58 = iN 0 ∧ I1 62 75 = iN 0 ∧ I1 62 61 = iN 0) ∧ hr I1 105 3 (fun _ => 0) ∧ (∀ a k, ¬ (a = 67 ∨ a = 68 ∨ (78 ≤ a ∧ a ≤ 84) ∨ a = 105) → ¬ (a = 62 ∧ (k = 18 ∨ k = 21 ∨ (46 ≤ k ∧ k ≤ 50) ∨ k = 57 ∨ k = 58 ∨ k = 61 ∨ k = 75)) → I1 a k = I a k) := by
  obtain ⟨⟨a1, a2, a3, a4, a5, a6, a7, a8, a9⟩, ⟨c1, c2, c3⟩, ⟨b1, b2, b3, b4, b5, b6⟩, d, n1, n2⟩ := h
  have hb := hw.1
  have hgo : rTail n I J = fX12_river_J77 n (iN (W 0 5)) (mm_up (mm_up (mm_up (mm_up (mm_up (mm_up I 62 46 (iN (W 0 0))) 62 47 (iN (W 0 1))) 62 48 (iN (W 0 2))) 62 49 (iN (W 0 3))) 62 50 (iN (W 0 4))) 62 21 (iN (W 0 6))) J := by
    rw [rTail, a1, a2, a5, a6, a7, a9, c1]
    rcases hw.2.2.2.2.2.2.1 with ⟨q1, q2, q3⟩ | ⟨q1, q2, q3⟩
    · rw [q1, ite_p (show iN (bi false) = (0 : Int32) from rfl), q2]; rfl
    · rw [q1, ite_n (show ¬ iN (bi true) = (0 : Int32) from n10), (d q1).1]
  have h65 : hr I 65 (W 0 5) (fun z => rcs (W 7 z)) ∧ hr I 66 (W 0 5) (fun z => rca (W 7 z)) := by
    rcases hw.2.2.2.2.2.2.1 with ⟨q1, q2, q3⟩ | ⟨q1, q2, q3⟩
    · rw [q2]; exact ⟨fun z z1 z2 => by omega, fun z z1 z2 => by omega⟩
    · exact (d q1).2
  rw [hgo, fX12_river_J77]
  have fr0 : ∀ a k, ¬ (a = 62 ∧ (k = 18 ∨ k = 21 ∨ (46 ≤ k ∧ k ≤ 50))) → (mm_up (mm_up (mm_up (mm_up (mm_up (mm_up (mm_up I 62 46 (iN (W 0 0))) 62 47 (iN (W 0 1))) 62 48 (iN (W 0 2))) 62 49 (iN (W 0 3))) 62 50 (iN (W 0 4))) 62 21 (iN (W 0 6))) 62 18 (iN (W 0 5))) a k = I a k := fun a k g => by rw [up_o (by omega), up_o (by omega), up_o (by omega), up_o (by omega), up_o (by omega), up_o (by omega), up_o (by omega)]
  have v18 : (mm_up (mm_up (mm_up (mm_up (mm_up (mm_up (mm_up I 62 46 (iN (W 0 0))) 62 47 (iN (W 0 1))) 62 48 (iN (W 0 2))) 62 49 (iN (W 0 3))) 62 50 (iN (W 0 4))) 62 21 (iN (W 0 6))) 62 18 (iN (W 0 5))) 62 18 = iN (W 0 5) := up_eq
  have v21 : (mm_up (mm_up (mm_up (mm_up (mm_up (mm_up (mm_up I 62 46 (iN (W 0 0))) 62 47 (iN (W 0 1))) 62 48 (iN (W 0 2))) 62 49 (iN (W 0 3))) 62 50 (iN (W 0 4))) 62 21 (iN (W 0 6))) 62 18 (iN (W 0 5))) 62 21 = iN (W 0 6) := by rw [up_k (by omega), up_eq]
  have v50 : (mm_up (mm_up (mm_up (mm_up (mm_up (mm_up (mm_up I 62 46 (iN (W 0 0))) 62 47 (iN (W 0 1))) 62 48 (iN (W 0 2))) 62 49 (iN (W 0 3))) 62 50 (iN (W 0 4))) 62 21 (iN (W 0 6))) 62 18 (iN (W 0 5))) 62 50 = iN (W 0 4) := by rw [up_k (by omega), up_k (by omega), up_eq]
  have v49 : (mm_up (mm_up (mm_up (mm_up (mm_up (mm_up (mm_up I 62 46 (iN (W 0 0))) 62 47 (iN (W 0 1))) 62 48 (iN (W 0 2))) 62 49 (iN (W 0 3))) 62 50 (iN (W 0 4))) 62 21 (iN (W 0 6))) 62 18 (iN (W 0 5))) 62 49 = iN (W 0 3) := by rw [up_k (by omega), up_k (by omega), up_k (by omega), up_eq]
  have v48 : (mm_up (mm_up (mm_up (mm_up (mm_up (mm_up (mm_up I 62 46 (iN (W 0 0))) 62 47 (iN (W 0 1))) 62 48 (iN (W 0 2))) 62 49 (iN (W 0 3))) 62 50 (iN (W 0 4))) 62 21 (iN (W 0 6))) 62 18 (iN (W 0 5))) 62 48 = iN (W 0 2) := by rw [up_k (by omega), up_k (by omega), up_k (by omega), up_k (by omega), up_eq]
  have v47 : (mm_up (mm_up (mm_up (mm_up (mm_up (mm_up (mm_up I 62 46 (iN (W 0 0))) 62 47 (iN (W 0 1))) 62 48 (iN (W 0 2))) 62 49 (iN (W 0 3))) 62 50 (iN (W 0 4))) 62 21 (iN (W 0 6))) 62 18 (iN (W 0 5))) 62 47 = iN (W 0 1) := by rw [up_k (by omega), up_k (by omega), up_k (by omega), up_k (by omega), up_k (by omega), up_eq]
  have v46 : (mm_up (mm_up (mm_up (mm_up (mm_up (mm_up (mm_up I 62 46 (iN (W 0 0))) 62 47 (iN (W 0 1))) 62 48 (iN (W 0 2))) 62 49 (iN (W 0 3))) 62 50 (iN (W 0 4))) 62 21 (iN (W 0 6))) 62 18 (iN (W 0 5))) 62 46 = iN (W 0 0) := by rw [up_k (by omega), up_k (by omega), up_k (by omega), up_k (by omega), up_k (by omega), up_k (by omega), up_eq]
  generalize (mm_up (mm_up (mm_up (mm_up (mm_up (mm_up (mm_up I 62 46 (iN (W 0 0))) 62 47 (iN (W 0 1))) 62 48 (iN (W 0 2))) 62 49 (iN (W 0 3))) 62 50 (iN (W 0 4))) 62 21 (iN (W 0 6))) 62 18 (iN (W 0 5))) = M0 at fr0 v18 v21 v46 v47 v48 v49 v50 ⊢
  obtain ⟨M1, e1, e2, e3, e4⟩ := rv_82 (I := M0) (P := W 0 5) (by omega) v18 (F := fun z => rcs (W 7 z)) (G := fun z => rca (W 7 z)) (fun z z1 z2 => by rw [fr0 _ _ (by omega)]; exact h65.1 z z1 z2) (fun z z1 z2 => by rw [fr0 _ _ (by omega)]; exact h65.2 z z1 z2) (n := n) (by omega)
  obtain ⟨M2, f1, f2, f3, f4⟩ := rv_122 (I := M1) (F := W 1) (G := W 2) hw.2.1 hw.2.2.1 (fun z z1 z2 => by rw [e4 _ _ (by omega) (by omega), fr0 _ _ (by omega)]; exact b1 z z1 z2) (fun z z1 z2 => by rw [e4 _ _ (by omega) (by omega), fr0 _ _ (by omega)]; exact b2 z z1 z2) (n := n) (by omega)
  obtain ⟨M3, g1, g2, g3⟩ := rv_181 (I := M2) (n := n) (by omega)
  have t3 : ∀ a k, ¬ a = 84 → ¬ a = 78 → ¬ a = 79 → ¬ a = 67 → ¬ a = 68 → M3 a k = M0 a k := fun a k q1 q2 q3 q4 q5 => by rw [g3 _ _ q1, f4 _ _ q2 q3, e4 _ _ q4 q5]
  obtain ⟨M4, i1, i2, i3, i4, i5, i6⟩ := rv_202 (I := M3) (P := W 0 2) (A := W 3) (C := W 4) (D := W 5) (by omega) (by rw [t3 _ _ (by omega) (by omega) (by omega) (by omega) (by omega)]; exact v48) (fun z z1 z2 => by rw [t3 _ _ (by omega) (by omega) (by omega) (by omega) (by omega), fr0 _ _ (by omega)]; exact b3 z z1 z2) (fun z z1 z2 => by rw [t3 _ _ (by omega) (by omega) (by omega) (by omega) (by omega), fr0 _ _ (by omega)]; exact b4 z z1 z2) (fun z z1 z2 => by rw [t3 _ _ (by omega) (by omega) (by omega) (by omega) (by omega), fr0 _ _ (by omega)]; exact b5 z z1 z2) g2 (n := n) (by omega)
  have t4 : ∀ a k, ¬ (a = 84 ∨ (78 ≤ a ∧ a ≤ 82) ∨ a = 67 ∨ a = 68) → M4 a k = M0 a k := fun a k q => by rw [i6 _ _ (by omega) (by omega) (by omega) (by omega), t3 _ _ (by omega) (by omega) (by omega) (by omega) (by omega)]
  obtain ⟨M5, j1, j2, j3, j4⟩ := rv_266 (I := M4) (P := W 0 3) (A := W 6) (by omega) (by rw [t4 _ _ (by omega)]; exact v49) (fun z z1 z2 => by rw [t4 _ _ (by omega), fr0 _ _ (by omega)]; exact b6 z z1 z2) i5 (n := n) (by omega)
  have t5 : ∀ a k, ¬ (a = 84 ∨ (78 ≤ a ∧ a ≤ 83) ∨ a = 67 ∨ a = 68) → M5 a k = M0 a k := fun a k q => by rw [j4 _ _ (by omega) (by omega), t4 _ _ (by omega)]
  have e45 : M5 62 45 = iN (W 0 7) := by rw [t5 _ _ (by omega), fr0 _ _ (by omega)]; exact a8
  obtain ⟨M6, k1, k2, k3⟩ := rv_335 (I := mm_up (mm_up (mm_up (mm_up (mm_up M5 84 27 (iN (W 0 7))) 62 57 0) 62 58 0) 62 75 0) 62 61 0) (n := n) (by omega)
  rw [e1, Option.bind_some, f1, Option.bind_some, g1, Option.bind_some, i1, Option.bind_some, j1, Option.bind_some, e45, k1, Option.bind_some]
  have t6 : ∀ a k, ¬ (a = 105) → ¬ (a = 62 ∧ (k = 57 ∨ k = 58 ∨ k = 75 ∨ k = 61)) → ¬ (a = 84 ∧ k = 27) → M6 a k = M5 a k := fun a k q1 q2 q3 => by rw [k3 _ _ q1, up_o (by omega), up_o (by omega), up_o (by omega), up_o (by omega), up_o (by omega)]
  have r48 : M6 62 48 = iN (W 0 2) := by rw [t6 _ _ (by omega) (by omega) (by omega), t5 _ _ (by omega)]; exact v48
  rw [r48]
  refine ⟨M6, rfl, ?_, ?_, ⟨?_, ?_, ?_, ?_⟩, k2, fun a k q1 q2 => by rw [t6 _ _ (by omega) (by omega) (by omega), t5 _ _ (by omega), fr0 _ _ (by omega)]⟩
  · rw [refV, vW_r (k := 0) (by omega), vW_r (k := 2) (by omega), vW_r (k := 3) (by omega), vW_r (k := 4) (by omega), vW_r (k := 5) (by omega), vW_r (k := 6) (by omega), vW_r (k := 7) (by omega)]
    refine ⟨⟨?_, ?_, r48, ?_, ?_, ?_, ?_⟩, fun z z1 z2 => ?_, fun z z1 z2 => ?_, fun z z1 z2 => ?_, fun z z1 z2 => ?_, fun z z1 z2 => ?_, fun z z1 z2 => ?_, fun z z1 z2 => ?_, fun z z1 z2 => ?_⟩
    · rw [t6 _ _ (by omega) (by omega) (by omega), t5 _ _ (by omega)]; exact v46
    · rw [t6 _ _ (by omega) (by omega) (by omega), t5 _ _ (by omega)]; exact v47
    · rw [t6 _ _ (by omega) (by omega) (by omega), t5 _ _ (by omega)]; exact v49
    · rw [t6 _ _ (by omega) (by omega) (by omega), t5 _ _ (by omega)]; exact v50
    · rw [t6 _ _ (by omega) (by omega) (by omega), t5 _ _ (by omega)]; exact v18
    · rw [t6 _ _ (by omega) (by omega) (by omega), t5 _ _ (by omega)]; exact v21
    · rw [t6 _ _ (by omega) (by omega) (by omega), j4 _ _ (by omega) (by omega), i6 _ _ (by omega) (by omega) (by omega) (by omega), g3 _ _ (by omega), vW_1]; exact f2 z z1 z2
    · rw [t6 _ _ (by omega) (by omega) (by omega), j4 _ _ (by omega) (by omega), i6 _ _ (by omega) (by omega) (by omega) (by omega), g3 _ _ (by omega)]; exact f3 z z1 z2
    · rw [t6 _ _ (by omega) (by omega) (by omega), j4 _ _ (by omega) (by omega)]; exact i2 z z1 z2
    · rw [t6 _ _ (by omega) (by omega) (by omega), j4 _ _ (by omega) (by omega)]; exact i3 z z1 z2
    · rw [t6 _ _ (by omega) (by omega) (by omega), j4 _ _ (by omega) (by omega)]; exact i4 z z1 z2
    · rw [t6 _ _ (by omega) (by omega) (by omega)]; exact j2 z z1 z2
    · rw [t6 _ _ (by omega) (by omega) (by omega), j4 _ _ (by omega) (by omega), i6 _ _ (by omega) (by omega) (by omega) (by omega), g3 _ _ (by omega), f4 _ _ (by omega) (by omega)]; exact e2 z z1 z2
    · rw [t6 _ _ (by omega) (by omega) (by omega), j4 _ _ (by omega) (by omega), i6 _ _ (by omega) (by omega) (by omega) (by omega), g3 _ _ (by omega), f4 _ _ (by omega) (by omega)]; exact e3 z z1 z2
  · intro z z1 z2
    rw [k3 _ _ (by omega), up_o (by omega), up_o (by omega), up_o (by omega), up_o (by omega), up_c]
    unfold sW
    by_cases e : z.toNat = 27
    · rw [if_pos e, if_neg (by omega), if_neg (by omega), if_pos (by omega)]
    · rw [if_neg e, j3 z z1 z2]
      congr 1
      dsimp only
      by_cases c : 0 ≤ z ∧ z < W 0 2
      · rw [if_pos c, if_neg (show ¬ (20 ≤ z ∧ z < 20 + W 0 3) by omega), if_pos c.2]
      · rw [if_neg c]
        by_cases c2 : 20 ≤ z ∧ z < 20 + W 0 3
        · rw [if_pos c2, if_pos c2]
        · rw [if_neg c2, if_neg c2, if_neg (show ¬ z < W 0 2 by omega), if_neg (show ¬ z = 27 by omega)]
  · rw [k3 _ _ (by omega), up_k (by omega), up_k (by omega), up_k (by omega), up_eq]; rfl
  · rw [k3 _ _ (by omega), up_k (by omega), up_k (by omega), up_eq]; rfl
  · rw [k3 _ _ (by omega), up_k (by omega), up_eq]; rfl
  · rw [k3 _ _ (by omega), up_eq]; rfl
end RVR
