/-! What is kept: acts and boxes of the reference. -/
def rU (Ls : Nat → Int → Int) (a u : Nat) (I : (Nat → Nat → Int32)) : Prop := a + u ≤ 40 ∧ I 62 57 = iN a ∧ I 62 58 = iN u ∧ ∀ i, i < a + u → ∀ z : Int, 0 ≤ z → z < 28 → I 86 (28 * (i : Int) + z).toNat = iN (Ls i z)
def rB (hb : Int → Bool) (Bs : Int → Int → Int) (I : (Nat → Nat → Int32)) : Prop := ∀ b, 0 ≤ b → b < 3 → I 105 b.toNat = iN (if hb b = true then 1 else 0) ∧ (hb b = true → ∀ z : Int, 0 ≤ z → z < 28 → I 106 (28 * b + z).toNat = iN (Bs b z))
section KER
variable {V : (Nat → Int → Int)} {S : Int → Int} {I : (Nat → Nat → Int32)}
theorem rB_of {hb : Int → Bool} {Bs : Int → Int → Int} {I' : (Nat → Nat → Int32)} (h : rB hb Bs I) (e1 : I' 105 = I 105) (e2 : I' 106 = I 106) : rB hb Bs I' := fun b b0 b1 => ⟨by rw [e1]; exact (h b b0 b1).1, fun hh z z0 z1 => by rw [e2]; exact (h b b0 b1).2 hh z z0 z1⟩
theorem rf_shift (I : (Nat → Nat → Int32)) {n : Nat} (hn : 1100 ≤ n) : ∃ I', fX12_act_L11 n (iN 0) I = some I' ∧ ex [86] I I' ∧ ∀ z : Int, 0 ≤ z → z < 1092 → I' 86 z.toNat = I 86 (28 + z).toNat := by
  obtain ⟨n', I', q1, q2, q3, q4, q5⟩ := loop (fun n k J => fX12_act_L11 n (iN k) J) 1 (P := 1092) (fun k J => ex [86] I J ∧ (∀ z : Int, 0 ≤ z → z < k → J 86 z.toNat = I 86 (28 + z).toNat) ∧ ∀ z : Int, k ≤ z → J 86 z.toNat = I 86 z.toNat)
    (by
      intro n k J hn k0 k1 ⟨hx, hz, ho⟩
      refine ⟨mm_up J 86 k.toNat (J 86 (28 + k).toNat), ?_, ex_trans hx (ex_up (by decide)), ?_, ?_⟩
      · show fX12_act_L11 (n + 1) _ _ = _
        rw [fX12_act_L11]
        simp (disch := omega) only [iN_lit, iN_add, iN_sub, iN_mul, iN_neg, iN_lt, iN_eq, iN_tn, if_true, if_false, if_pos, if_neg]
      · intro z z0 z1
        rw [up_c]
        by_cases e : z = k
        · rw [if_pos (by omega), ho (28 + k) (by omega), e]
        · rw [if_neg (by omega)]; exact hz z z0 (by omega)
      · intro z z0
        rw [up_k (by omega)]
        exact ho z (by omega)) 1092 n 0 I (by omega) (by omega) ⟨ex_refl, by intro z h1 h2; omega, fun _ _ => rfl⟩ (by omega)
  refine ⟨I', ?_, q3, q4⟩
  have q2' : fX12_act_L11 n (iN 0) I = fX12_act_L11 n' (iN 1092) I' := q2
  rw [q2']
  obtain ⟨n', rfl⟩ : ∃ m, n' = m + 1 := ⟨n' - 1, by omega⟩
  rw [fX12_act_L11]
  simp (disch := omega) only [iN_lit, iN_add, iN_sub, iN_mul, iN_neg, iN_lt, iN_eq, iN_tn, if_true, if_false, if_pos, if_neg]
theorem rf_store {a : Nat} (ha : a < 40) (h57 : I 62 57 = iN a) (h84 : hr I 84 28 S) {n : Nat} (hn : 30 ≤ n) : ∃ I', fX12_act_L51 n (iN 0) I = some I' ∧ ex [86] I I' ∧ (∀ z : Int, 0 ≤ z → z < 28 → I' 86 (28 * (a : Int) + z).toNat = iN (S z)) ∧ ∀ z : Nat, ¬ (28 * a ≤ z ∧ z < 28 * a + 28) → I' 86 z = I 86 z := by
  obtain ⟨n', I', q1, q2, q3, q4, q5⟩ := loop (fun n k J => fX12_act_L51 n (iN k) J) 1 (P := 28) (fun k J => ex [86] I J ∧ (∀ z : Int, 0 ≤ z → z < k → J 86 (28 * (a : Int) + z).toNat = iN (S z)) ∧ ∀ z : Nat, ¬ (28 * a ≤ z ∧ z < 28 * a + 28) → J 86 z = I 86 z)
    (by
      intro n k J hn k0 k1 ⟨hx, hz, ho⟩
      have j57 : J 62 57 = iN a := by rw [hx 62 (by decide)]; exact h57
      have j84 : J 84 k.toNat = iN (S k) := by rw [hx 84 (by decide)]; exact h84 k k0 k1
      refine ⟨mm_up J 86 (28 * (a : Int) + k).toNat (iN (S k)), ?_, ex_trans hx (ex_up (by decide)), ?_, ?_⟩
      · show fX12_act_L51 (n + 1) _ _ = _
        rw [fX12_act_L51, j57]
        simp (disch := omega) only [iN_lit, iN_add, iN_sub, iN_mul, iN_neg, iN_lt, iN_eq, iN_tn, if_true, if_false, if_pos, if_neg, j84]
      · intro z z0 z1
        rw [up_c]
        by_cases e : z = k
        · rw [if_pos (by omega), e]
        · rw [if_neg (by omega)]; exact hz z z0 (by omega)
      · intro z hz'
        rw [up_k (by omega)]
        exact ho z hz') 28 n 0 I (by omega) (by omega) ⟨ex_refl, by intro z h1 h2; omega, fun _ _ => rfl⟩ (by omega)
  refine ⟨I', ?_, q3, q4, q5⟩
  have q2' : fX12_act_L51 n (iN 0) I = fX12_act_L51 n' (iN 28) I' := q2
  rw [q2']
  obtain ⟨n', rfl⟩ : ∃ m, n' = m + 1 := ⟨n' - 1, by omega⟩
  rw [fX12_act_L51]
  simp (disch := omega) only [iN_lit, iN_add, iN_sub, iN_mul, iN_neg, iN_lt, iN_eq, iN_tn, if_true, if_false, if_pos, if_neg]
theorem rf_act (h : rOK V S I) {Ls : Nat → Int → Int} {a u : Nat} (hU : rU Ls a u I) {n : Nat} (hn : 1200 ≤ n) : ∃ I', fX12_act n I = some I' ∧ xf [85, 86, 1057, 1058] I I' ∧ rU (Lact Ls a S) (aact a) 0 I' ∧ rOK V S I' ∧ hr I' 85 28 S := by
  obtain ⟨h40, e57, e58, hw⟩ := hU
  rw [fX12_act, e57]
  simp only [iN_lit]
  have fin : ∀ (J : (Nat → Nat → Int32)) (a' : Nat) (L' : Nat → Int → Int), xf [85, 86, 1057, 1058] I J → J 62 57 = iN ((a' : Int)) → a' < 40 → (∀ i, i < a' → ∀ z : Int, 0 ≤ z → z < 28 → J 86 (28 * (i : Int) + z).toNat = iN (L' i z)) → (∀ z : Int, 0 ≤ z → z < 28 → J 86 (28 * (a' : Int) + z).toNat = iN (S z)) → (∀ i, i < a' → Lact Ls a S i = L' i) → Lact Ls a S a' = S → aact a = a' + 1 → ∃ I', ((fX12_fill n (mm_up (mm_up J 62 57 (J 62 57 + iN 1)) 62 58 (iN 0))).bind fun o => some o) = some I' ∧ xf [85, 86, 1057, 1058] I I' ∧ rU (Lact Ls a S) (aact a) 0 I' ∧ rOK V S I' ∧ hr I' 85 28 S := by
    intro J a' L' hx h57 ha' hp ha eL eS ea
    rw [h57, iN_add]
    have x2 : xf [85, 86, 1057, 1058] I (mm_up (mm_up J 62 57 (iN ((a' : Int) + 1))) 62 58 (iN 0)) := xf_trans hx (xf_trans (xf_u62 (by decide)) (xf_u62 (by decide)))
    have R2 := rOK_xf h x2 (by decide)
    obtain ⟨I', g1, g2, g3, g4⟩ := rf_filled R2 (n := n) (by omega)
    rw [g1, Option.bind_some]
    have k62 : ∀ k, I' 62 k = mm_up (mm_up J 62 57 (iN ((a' : Int) + 1))) 62 58 (iN 0) 62 k := fun k => by rw [g2 62 (by decide)]
    have k86 : I' 86 = J 86 := by rw [g2 86 (by decide), up_a (by decide), up_a (by decide)]
    refine ⟨I', rfl, xf_trans x2 (xf_mono (xf_ex g2) (by decide)), ⟨by rw [ea]; omega, ?_, ?_, ?_⟩, g3, g4⟩
    · rw [k62, up_k (by decide), up_eq, ea]; congr 1
    · rw [k62, up_eq]; rfl
    · intro i hi z z0 z1
      rw [k86]
      by_cases e : i = a'
      · subst e; rw [ha z z0 z1, eS]
      · rw [hp i (by omega) z z0 z1, eL i (by omega)]
  by_cases ha : a = 40
  · subst ha
    rw [ite_p (show iN ((40 : Nat) : Int) = iN 40 from rfl)]
    obtain ⟨I1, g1, g2, g3⟩ := rf_shift I (n := n) (by omega)
    rw [g1, Option.bind_some, g2 62 (by decide), e57, iN_sub, show ((40 : Nat) : Int) - 1 = ((39 : Nat) : Int) from rfl]
    have h84 : hr (mm_up I1 62 57 (iN ((39 : Nat) : Int))) 84 28 S := hr_a (hr_of h.2.2.2 (g2 84 (by decide))) (by decide)
    obtain ⟨I2, f1, f2, f3, f4⟩ := rf_store (a := 39) (by omega) up_eq h84 (n := n) (by omega)
    rw [f1, Option.bind_some]
    refine fin I2 39 (fun i => Ls (i + 1)) (xf_trans (xf_mono (xf_ex g2) (by decide)) (xf_trans (xf_u62 (by decide)) (xf_mono (xf_ex f2) (by decide)))) (by rw [f2 62 (by decide), up_eq]) (by omega) ?_ f3 ?_ ?_ rfl
    · intro i hi z z0 z1
      rw [f4 _ (by omega), up_a (by decide), g3 _ (by omega) (by omega), show (28 + (28 * (i : Int) + z)) = 28 * ((i + 1 : Nat) : Int) + z by omega]
      exact hw (i + 1) (by omega) z z0 z1
    · intro i hi
      unfold Lact
      rw [if_neg (by omega), if_neg (by omega)]
    · unfold Lact
      rw [if_neg (by omega), if_pos rfl]
  · rw [ite_n (by rw [iN_eq (by omega) (by omega) (by omega) (by omega)]; omega)]
    obtain ⟨I2, f1, f2, f3, f4⟩ := rf_store (a := a) (by omega) e57 h.2.2.2 (n := n) (by omega)
    rw [f1, Option.bind_some]
    refine fin I2 a Ls (xf_mono (xf_ex f2) (by decide)) (by rw [f2 62 (by decide)]; exact e57) (by omega) ?_ f3 ?_ ?_ ?_
    · intro i hi z z0 z1
      rw [f4 _ (by omega)]
      exact hw i (by omega) z z0 z1
    · intro i hi
      unfold Lact
      rw [if_pos (by omega), if_neg (by omega)]
    · unfold Lact
      rw [if_pos (by omega), if_pos rfl]
    · unfold aact
      rw [if_pos (by omega)]
theorem rf_swap {k : Nat} (hk : k < 40) {X : Int → Int} (h84 : hr I 84 28 S) (h86 : ∀ z : Int, 0 ≤ z → z < 28 → I 86 (28 * (k : Int) + z).toNat = iN (X z)) {n : Nat} (hn : 30 ≤ n) : ∃ I', fX12_exchange n (iN (28 * (k : Int))) I = some I' ∧ ex [84, 86] I I' ∧ hr I' 84 28 X ∧ (∀ z : Int, 0 ≤ z → z < 28 → I' 86 (28 * (k : Int) + z).toNat = iN (S z)) ∧ ∀ z : Nat, ¬ (28 * k ≤ z ∧ z < 28 * k + 28) → I' 86 z = I 86 z := by
  obtain ⟨n', I', q1, q2, q3, q4, q5, q6, q7⟩ := loop (fun n j J => fX12_exchange_L2 n (iN (28 * (k : Int))) (iN j) J) 1 (P := 28) (fun j J => ex [84, 86] I J ∧ (∀ z : Int, 0 ≤ z → z < j → J 84 z.toNat = iN (X z) ∧ J 86 (28 * (k : Int) + z).toNat = iN (S z)) ∧ (∀ z : Int, j ≤ z → J 84 z.toNat = I 84 z.toNat) ∧ (∀ z : Int, j ≤ z → z < 28 → J 86 (28 * (k : Int) + z).toNat = I 86 (28 * (k : Int) + z).toNat) ∧ ∀ z : Nat, ¬ (28 * k ≤ z ∧ z < 28 * k + 28) → J 86 z = I 86 z)
    (by
      intro n j J hn j0 j1 ⟨hx, hz, h1, h2, ho⟩
      have a84 : J 84 j.toNat = iN (S j) := by rw [h1 j (by omega)]; exact h84 j j0 j1
      have a86 : J 86 (28 * (k : Int) + j).toNat = iN (X j) := by rw [h2 j (by omega) j1]; exact h86 j j0 j1
      refine ⟨mm_up (mm_up J 86 (28 * (k : Int) + j).toNat (iN (S j))) 84 j.toNat (iN (X j)), ?_, ex_trans hx (ex_trans (ex_up (by decide)) (ex_up (by decide))), ?_, ?_, ?_, ?_⟩
      · show fX12_exchange_L2 (n + 1) _ _ _ = _
        rw [fX12_exchange_L2]
        simp (disch := omega) only [iN_lit, iN_add, iN_sub, iN_mul, iN_neg, iN_lt, iN_eq, iN_tn, if_true, if_false, if_pos, if_neg, a84, a86]
      · intro z z0 z1
        by_cases e : z = j
        · subst e
          exact ⟨up_eq, by rw [up_a (by decide), up_eq]⟩
        · refine ⟨by rw [up_k (by omega), up_a (by decide)]; exact (hz z z0 (by omega)).1, by rw [up_a (by decide), up_k (by omega)]; exact (hz z z0 (by omega)).2⟩
      · intro z z0
        rw [up_k (by omega), up_a (by decide)]
        exact h1 z (by omega)
      · intro z z0 z1
        rw [up_a (by decide), up_k (by omega)]
        exact h2 z (by omega) z1
      · intro z hz'
        rw [up_a (by decide), up_k (by omega)]
        exact ho z hz') 28 n 0 I (by omega) (by omega) ⟨ex_refl, by intro z h1 h2; omega, fun _ _ => rfl, fun _ _ _ => rfl, fun _ _ => rfl⟩ (by omega)
  refine ⟨I', ?_, q3, fun z z0 z1 => (q4 z z0 z1).1, fun z z0 z1 => (q4 z z0 z1).2, q7⟩
  have q2' : fX12_exchange_L2 n (iN (28 * (k : Int))) (iN 0) I = fX12_exchange_L2 n' (iN (28 * (k : Int))) (iN 28) I' := q2
  rw [fX12_exchange, iN_lit, q2']
  obtain ⟨n', rfl⟩ : ∃ m, n' = m + 1 := ⟨n' - 1, by omega⟩
  rw [fX12_exchange_L2]
  simp (disch := omega) only [iN_lit, iN_add, iN_sub, iN_mul, iN_neg, iN_lt, iN_eq, iN_tn, if_true, if_false, if_pos, if_neg, Option.bind_some]
theorem rf_Undo (h : hr I 84 28 S) {Ls : Nat → Int → Int} {a u : Nat} (hU : rU Ls a u I) {n : Nat} (hn : 40 ≤ n) : ∃ I', fX12_undo n I = some (if a = 0 then iN 0 else iN 1, I') ∧ xf [84, 86, 1057, 1058] I I' ∧ hr I' 84 28 (if a = 0 then S else Ls (a - 1)) ∧ rU (if a = 0 then Ls else Lswp Ls (a - 1) S) (if a = 0 then a else a - 1) (if a = 0 then u else u + 1) I' := by
  have hU0 := hU
  obtain ⟨h40, e57, e58, hw⟩ := hU
  rw [fX12_undo, e57, e58]
  simp only [iN_lit]
  by_cases ha : a = 0
  · rw [ite_p (by rw [ha]; rfl)]
    simp only [if_pos ha]
    exact ⟨I, rfl, xf_refl, h, hU0⟩
  · rw [ite_n (by rw [iN_eq (by omega) (by omega) (by omega) (by omega)]; omega)]
    simp only [if_neg ha]
    rw [iN_sub, iN_add, iN_mul]
    have x1 : xf [84, 86, 1057, 1058] I (mm_up (mm_up I 62 57 (iN ((a : Int) - 1))) 62 58 (iN ((u : Int) + 1))) := xf_trans (xf_u62 (by decide)) (xf_u62 (by decide))
    obtain ⟨I', g1, g2, g3, g4, g5⟩ := rf_swap (I := mm_up (mm_up I 62 57 (iN ((a : Int) - 1))) 62 58 (iN ((u : Int) + 1))) (S := S) (k := a - 1) (by omega) (hr_a (hr_a h (by decide)) (by decide)) (X := Ls (a - 1)) (fun z z0 z1 => by rw [up_a (by decide), up_a (by decide)]; exact hw (a - 1) (by omega) z z0 z1) (n := n) (by omega)
    rw [show (((a - 1 : Nat)) : Int) = (a : Int) - 1 by omega] at g1
    rw [g1, Option.bind_some]
    refine ⟨I', rfl, xf_trans x1 (xf_mono (xf_ex g2) (by decide)), g3, by omega, ?_, ?_, ?_⟩
    · rw [g2 62 (by decide), up_k (by decide), up_eq]; congr 1; omega
    · rw [g2 62 (by decide), up_eq]; rfl
    · intro i hi z z0 z1
      unfold Lswp
      by_cases e : i = a - 1
      · rw [if_pos e, e]; exact g4 z z0 z1
      · rw [if_neg e, g5 _ (by omega), up_a (by decide), up_a (by decide)]
        exact hw i (by omega) z z0 z1
theorem rf_Redo (h : hr I 84 28 S) {Ls : Nat → Int → Int} {a u : Nat} (hU : rU Ls a u I) {n : Nat} (hn : 40 ≤ n) : ∃ I', fX12_redo n I = some (if u = 0 then iN 0 else iN 1, I') ∧ xf [84, 86, 1057, 1058] I I' ∧ hr I' 84 28 (if u = 0 then S else Ls a) ∧ rU (if u = 0 then Ls else Lswp Ls a S) (if u = 0 then a else a + 1) (if u = 0 then u else u - 1) I' := by
  have hU0 := hU
  obtain ⟨h40, e57, e58, hw⟩ := hU
  rw [fX12_redo, e57, e58]
  simp only [iN_lit]
  by_cases ha : u = 0
  · rw [ite_p (by rw [ha]; rfl)]
    simp only [if_pos ha]
    exact ⟨I, rfl, xf_refl, h, hU0⟩
  · rw [ite_n (by rw [iN_eq (by omega) (by omega) (by omega) (by omega)]; omega)]
    simp only [if_neg ha]
    rw [iN_mul]
    obtain ⟨I', g1, g2, g3, g4, g5⟩ := rf_swap (I := I) (S := S) (k := a) (by omega) h (X := Ls a) (fun z z0 z1 => hw a (by omega) z z0 z1) (n := n) (by omega)
    rw [g1, Option.bind_some, g2 62 (by decide), e57, e58, iN_add, iN_sub]
    refine ⟨_, rfl, xf_trans (xf_mono (xf_ex g2) (by decide)) (xf_trans (xf_u62 (by decide)) (xf_u62 (by decide))), hr_a (hr_a g3 (by decide)) (by decide), by omega, ?_, ?_, ?_⟩
    · rw [up_k (by decide), up_eq]; rfl
    · rw [up_eq]; congr 1; omega
    · intro i hi z z0 z1
      rw [up_a (by decide), up_a (by decide)]
      unfold Lswp
      by_cases e : i = a
      · rw [if_pos e, e]; exact g4 z z0 z1
      · rw [if_neg e, g5 _ (by omega)]
        exact hw i (by omega) z z0 z1
theorem rf_box {b : Int} (hb : -2147483648 ≤ b ∧ b < 2147483648) : fX12_isBox (iN b) = if 0 ≤ b ∧ b < 3 then iN 1 else iN 0 := by
  rw [fX12_isBox]
  simp (disch := omega) only [iN_lit, iN_lt]
  by_cases b0 : b < 0
  · rw [if_pos b0, if_neg (by omega)]
  · rw [if_neg b0]
    by_cases b1 : b < 3
    · rw [if_pos b1, if_pos (by omega)]
    · rw [if_neg b1, if_neg (by omega)]
theorem rf_Image (h : rOK V S I) {hb : Int → Bool} {Bs : Int → Int → Int} (hB : rB hb Bs I) {b : Int} (hb' : -2147483648 ≤ b ∧ b < 2147483648) {n : Nat} (hn : 60 ≤ n) :
    ∃ I', fX12_image n (iN b) I = some (iN (aIm V S b), I') ∧ ex [85, 105, 106] I I' ∧ rB (if 0 ≤ b ∧ b < 3 then hbu hb b else hb) (if 0 ≤ b ∧ b < 3 then ud Bs b S else Bs) I' := by
  rw [fX12_image, rf_box hb']
  simp only [iN_lit, iN_neg]
  unfold aIm
  by_cases hh : 0 ≤ b ∧ b < 3
  · rw [if_pos hh, ite_n n10, if_pos hh, if_pos hh, if_pos hh, nar1]
    simp (disch := omega) only [iN_lt, iN_tn, if_neg]
    obtain ⟨n', I1, q1, q2, q3, q4, q5⟩ := loop (fun n j J => fX12_image_L18 n (iN b) (iN j) J) 1 (P := 28) (fun j J => ex [106] (mm_up I 105 b.toNat (iN 1)) J ∧ (∀ z : Int, 0 ≤ z → z < j → J 106 (28 * b + z).toNat = iN (S z)) ∧ ∀ z : Nat, ¬ (28 * b ≤ z ∧ (z : Int) < 28 * b + 28) → J 106 z = I 106 z)
      (by
        intro n j J hn j0 j1 ⟨hx, hz, ho⟩
        have a84 : J 84 j.toNat = iN (S j) := by rw [hx 84 (by decide), up_a (by decide)]; exact h.2.2.2 j j0 j1
        refine ⟨mm_up J 106 (28 * b + j).toNat (iN (S j)), ?_, ex_trans hx (ex_up (by decide)), ?_, ?_⟩
        · show fX12_image_L18 (n + 1) _ _ _ = _
          rw [fX12_image_L18]
          simp (disch := omega) only [iN_lit, iN_add, iN_sub, iN_mul, iN_neg, iN_lt, iN_eq, iN_tn, if_true, if_false, if_pos, if_neg, a84]
        · intro z z0 z1
          rw [up_c]
          by_cases e : z = j
          · rw [if_pos (by omega), e]
          · rw [if_neg (by omega)]; exact hz z z0 (by omega)
        · intro z hz'
          rw [up_k (by omega)]
          exact ho z hz') 28 n 0 (mm_up I 105 b.toNat (iN 1)) (by omega) (by omega) ⟨ex_refl, by intro z h1 h2; omega, fun z _ => by rw [up_a (by decide)]⟩ (by omega)
    have q2' : fX12_image_L18 n (iN b) (iN 0) (mm_up I 105 b.toNat (iN 1)) = some I1 := by
      have : fX12_image_L18 n (iN b) (iN 0) (mm_up I 105 b.toNat (iN 1)) = fX12_image_L18 n' (iN b) (iN 28) I1 := q2
      rw [this]
      obtain ⟨n', rfl⟩ : ∃ m, n' = m + 1 := ⟨n' - 1, by omega⟩
      rw [fX12_image_L18]
      simp (disch := omega) only [iN_lit, iN_add, iN_sub, iN_mul, iN_neg, iN_lt, iN_eq, iN_tn, if_true, if_false, if_pos, if_neg]
    have x1 : ex [85, 105, 106] I I1 := ex_trans (ex_up (a := 105) (by decide)) (ex_mono q3 (by decide))
    have R1 := rOK_ex h x1 (by decide)
    obtain ⟨I2, f1, f2⟩ := rf_Over R1 (n := n) (by omega)
    rw [q2', Option.bind_some, f1, Option.bind_some]
    dsimp only
    rw [rf_mem _ (by omega), Option.bind_some]
    refine ⟨I2, rfl, ex_trans x1 (ex_mono f2 (by decide)), ?_⟩
    intro z z0 z1
    rw [f2 105 (by decide), q3 105 (by decide), f2 106 (by decide)]
    unfold hbu ud
    by_cases e : z = b
    · rw [if_pos e, if_pos e, if_pos rfl, e]
      exact ⟨up_eq, fun _ y y0 y1 => q4 y y0 y1⟩
    · rw [if_neg e, if_neg e, up_k (by omega)]
      refine ⟨(hB z z0 z1).1, fun hh' y y0 y1 => ?_⟩
      rw [q5 _ (by omega)]
      exact (hB z z0 z1).2 hh' y y0 y1
  · rw [if_neg hh, ite_p rfl, if_neg hh, if_neg hh, if_neg hh]
    exact ⟨I, rfl, ex_refl, hB⟩
theorem rf_Back (h : rOK V S I) {hb : Int → Bool} {Bs : Int → Int → Int} (hB : rB hb Bs I) (hBw : ∀ b, 0 ≤ b → b < 3 → hb b = true → wfS V 600 (Bs b)) {b : Int} (hb' : -2147483648 ≤ b ∧ b < 2147483648) {Ls : Nat → Int → Int} {n : Nat} (hn : 60 ≤ n) :
    (((0 ≤ b ∧ b < 3) ∧ hb b = true) → ∃ I', fX12_back n (iN b) I = some (iN (aIm V (Bs b) b), I') ∧ xf [84, 85, 1057, 1058] I I' ∧ hr I' 84 28 (Bs b) ∧ rU Ls 0 0 I' ∧ rB hb Bs I') ∧ (¬ ((0 ≤ b ∧ b < 3) ∧ hb b = true) → fX12_back n (iN b) I = some (iN (-1), I)) := by
  rw [fX12_back, rf_box hb']
  simp only [iN_lit, iN_neg]
  by_cases hh : 0 ≤ b ∧ b < 3
  · rw [if_pos hh, ite_n n10]
    simp (disch := omega) only [iN_lt, iN_tn, if_neg, (hB b hh.1 hh.2).1]
    cases eb : hb b with
    | false =>
      rw [ite_p (show iN (if false = true then 1 else 0) = iN 0 from rfl)]
      exact ⟨fun q => absurd q.2 (by decide), fun _ => rfl⟩
    | true =>
      refine ⟨fun _ => ?_, fun q => absurd ⟨hh, rfl⟩ q⟩
      rw [ite_n (show ¬ iN (if true = true then 1 else 0) = iN 0 from n10)]
      have hbx := (hB b hh.1 hh.2).2 eb
      obtain ⟨n', I1, q1, q2, q3, q4⟩ := loop (fun n j J => fX12_back_L20 n (iN b) (iN j) J) 1 (P := 28) (fun j J => ex [84] I J ∧ ∀ z : Int, 0 ≤ z → z < j → J 84 z.toNat = iN (Bs b z))
        (by
          intro n j J hn j0 j1 ⟨hx, hz⟩
          have a106 : J 106 (28 * b + j).toNat = iN (Bs b j) := by rw [hx 106 (by decide)]; exact hbx j j0 j1
          refine ⟨mm_up J 84 j.toNat (iN (Bs b j)), ?_, ex_trans hx (ex_up (by decide)), ?_⟩
          · show fX12_back_L20 (n + 1) _ _ _ = _
            rw [fX12_back_L20]
            simp (disch := omega) only [iN_lit, iN_add, iN_sub, iN_mul, iN_neg, iN_lt, iN_eq, iN_tn, if_true, if_false, if_pos, if_neg, a106]
          · intro z z0 z1
            rw [up_c]
            by_cases e : z = j
            · rw [if_pos (by omega), e]
            · rw [if_neg (by omega)]; exact hz z z0 (by omega)) 28 n 0 I (by omega) (by omega) ⟨ex_refl, by intro z h1 h2; omega⟩ (by omega)
      have q2' : fX12_back_L20 n (iN b) (iN 0) I = some I1 := by
        have : fX12_back_L20 n (iN b) (iN 0) I = fX12_back_L20 n' (iN b) (iN 28) I1 := q2
        rw [this]
        obtain ⟨n', rfl⟩ : ∃ m, n' = m + 1 := ⟨n' - 1, by omega⟩
        rw [fX12_back_L20]
        simp (disch := omega) only [iN_lit, iN_add, iN_sub, iN_mul, iN_neg, iN_lt, iN_eq, iN_tn, if_true, if_false, if_pos, if_neg]
      rw [q2', Option.bind_some]
      have x2 : xf [84, 1057, 1058] I (mm_up (mm_up I1 62 57 (iN 0)) 62 58 (iN 0)) := xf_trans (xf_mono (xf_ex q3) (by decide)) (xf_trans (xf_u62 (by decide)) (xf_u62 (by decide)))
      have h84 : hr (mm_up (mm_up I1 62 57 (iN 0)) 62 58 (iN 0)) 84 28 (Bs b) := hr_a (hr_a q4 (by decide)) (by decide)
      have R2 : rOK V (Bs b) (mm_up (mm_up I1 62 57 (iN 0)) 62 58 (iN 0)) := ⟨h.1, hBw b hh.1 hh.2 eb, refV_xf h.2.2.1 x2 (by decide), h84⟩
      obtain ⟨I2, f1, f2⟩ := rf_Over R2 (n := n) (by omega)
      rw [f1, Option.bind_some]
      dsimp only
      rw [rf_mem _ (by omega), Option.bind_some]
      unfold aIm
      rw [if_pos hh]
      refine ⟨I2, rfl, xf_trans (xf_mono x2 (by decide)) (xf_mono (xf_ex f2) (by decide)), hr_of h84 (f2 84 (by decide)), ⟨by omega, ?_, ?_, by intro i hi; omega⟩, ?_⟩
      · rw [f2 62 (by decide), up_k (by decide), up_eq]; rfl
      · rw [f2 62 (by decide), up_eq]; rfl
      · exact rB_of hB (by rw [f2 105 (by decide), up_a (by decide), up_a (by decide), q3 105 (by decide)]) (by rw [f2 106 (by decide), up_a (by decide), up_a (by decide), q3 106 (by decide)])
  · rw [if_neg hh, ite_p rfl]
    exact ⟨fun q => absurd q.1 hh, fun _ => rfl⟩
end KER
