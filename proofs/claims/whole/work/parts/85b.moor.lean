/-! Moorings of all: the class, and the method of both. -/
theorem fmin_some {α : Type} (f : α → Option Int) (l : List α) : ∀ (x : Option (Int × α)), (x ≠ none ∨ ∃ t ∈ l, f t ≠ none) → fmin f x l ≠ none := by
  induction l with
  | nil =>
    intro x h
    rcases h with h | ⟨t, ht, _⟩
    · exact h
    · cases ht
  | cons t l ih =>
    intro x h
    have up : x ≠ none → fm f x t ≠ none := by
      intro hx
      rw [fm]
      split
      · exact hx
      · rcases x with _ | ⟨w, s⟩
        · exact absurd rfl hx
        · show (if _ then _ else _) ≠ none
          split <;> (intro h; cases h)
    have fr : f t ≠ none → fm f x t ≠ none := by
      intro ht
      rw [fm]
      split
      · next e => exact absurd e ht
      · rcases x with _ | ⟨w, s⟩
        · intro h; cases h
        · show (if _ then _ else _) ≠ none
          split <;> (intro h; cases h)
    show fmin f (fm f x t) l ≠ none
    rcases h with h | ⟨s, hs, hf⟩
    · exact ih _ (Or.inl (up h))
    · rw [List.mem_cons] at hs
      rcases hs with rfl | hs
      · exact ih _ (Or.inl (fr hf))
      · exact ih _ (Or.inr ⟨s, hs, hf⟩)
theorem lex_rep (n : Nat) : List.replicate n (8 : Int) ∈ lex 9 n := by
  induction n with
  | zero => exact List.mem_singleton.mpr rfl
  | succ n ih =>
    rw [lex, List.replicate_succ, List.mem_flatMap]
    exact ⟨8, List.mem_range.mpr (by omega), List.mem_map.mpr ⟨_, ih, rfl⟩⟩
theorem vM_rep (A : Int → Int32) (n : Nat) : ∀ (b : Int) (X : Int32), vM A b X (List.replicate n 8) = true := by
  induction n with
  | zero => intro b X; rfl
  | succ n ih => intro b X; rw [List.replicate_succ, vM, if_pos rfl]; exact ih _ _
theorem moor_some (V : (Nat → Int → Int)) (S : Int → Int) : ∃ v t, fmin (fM V S) none (lex 9 (V 0 2).toNat) = some (v, t) := by
  have := fmin_some (fM V S) (lex 9 (V 0 2).toNat) none (Or.inr ⟨_, lex_rep _, by unfold fM; rw [vM_rep, if_pos rfl]; intro h; cases h⟩)
  cases e : fmin (fM V S) none (lex 9 (V 0 2).toNat) with
  | none => exact absurd e this
  | some p => exact ⟨p.1, p.2, rfl⟩
def stM (V : (Nat → Int → Int)) (S : Int → Int) (x : Option (Int × List Int)) (I : (Nat → Nat → Int32)) : Prop := I 50 5 = iN (most x) ∧ I 50 6 = iN (leas S x) ∧ match x with
  | none => True
  | some (v, t) => v = -1000 * ct t + bt S 0 t ∧ (0 ≤ ct t ∧ ct t ≤ 4) ∧ (0 ≤ bt S 0 t ∧ bt S 0 t ≤ 32) ∧ ∀ z : Nat, z < (V 0 2).toNat → I 53 z = iN (enc (t.getD z 0))
theorem stM_of {V : (Nat → Int → Int)} {S : Int → Int} {x : Option (Int × List Int)} {I I' : (Nat → Nat → Int32)} (h : stM V S x I) (e1 : I' 50 = I 50) (e2 : I' 53 = I 53) : stM V S x I' := by
  rcases x with _ | ⟨v, t⟩
  · unfold stM at *; rw [e1]; exact h
  · unfold stM at *; rw [e1, e2]; exact h
section MOC
variable {V : (Nat → Int → Int)} {S : Int → Int} {r : Nat}
theorem bit_free {A X : Int32} {c : Int} (h1 : 0 ≤ c) (h2 : c < 32) : bit (A &&& (X ^^^ iN (-1))) c = (bit A c && !bit X c) := by
  rw [bit_and, bit_xor, bit_m1 h1 h2]
  cases bit A c <;> cases bit X c <;> rfl
theorem cl_moor (hr0 : r = 3 ∨ r = 19) {n : Nat} (hn : 30 ≤ n) (k : Nat) : ∀ (d : Nat) (p : List Int) (X : Int32) (x : Option (Int × List Int)) (I : (Nat → Nat → Int32)), cOK V S r I → p.length + k = (V 0 2).toNat → k < d → (∀ b : Nat, b < (V 0 2).toNat → I 51 b = lA V S b) → stM V S x I → (∀ a ∈ p, 0 ≤ a ∧ a < 9) → (∀ z : Nat, z < p.length → I 52 z = iN (enc (p.getD z 0))) → (∀ s, vM (lA V S) 0 (iN 0) (p ++ s) = vM (lA V S) p.length X s) →
    ∃ I', fX1_moor n d (iN p.length) X (iN (ct p)) (iN (bt S 0 p)) I r = some I' ∧ ex [50, 52, 53] I I' ∧ stM V S (fmin (fM V S) x ((lex 9 k).map (fun s => p ++ s))) I' ∧ ∀ z : Nat, z < p.length → I' 52 z = I 52 z := by
  induction k with
  | zero =>
    intro d p X x I h hp hd h51 hx hpm h52 hf
    have hu := h.1.1
    obtain ⟨d, rfl⟩ : ∃ m, d = m + 1 := ⟨d - 1, by omega⟩
    have c1 := ct_in p
    have b1 := bt_in (S := S) (m := V 0 2) (fun b b1 b2 => by have := h.2.1.1 b b1 b2; omega) p 0 (by omega) (by omega) hpm
    have hf0 := hf []
    rw [List.append_nil, vM] at hf0
    have ef : fM V S p = some (-1000 * ct p + bt S 0 p) := by unfold fM; rw [hf0]; rfl
    have e0 : (lex 9 0).map (fun s => p ++ s) = [p] := by rw [lex, List.map_singleton, List.append_nil]
    rw [e0]
    show ∃ I', fX1_moor_B n _ _ _ _ _ I r = some I' ∧ _
    have hv := h.2.2.1.1.2.2.1
    obtain ⟨m1, m2, m3⟩ := hx
    have mo : (-1 ≤ most x ∧ most x ≤ 4) ∧ (0 ≤ leas S x ∧ leas S x ≤ 32) := by
      rcases x with _ | ⟨v, t⟩
      · simp [most, leas]
      · simp only [most, leas]; omega
    have stay : (ct p < most x ∨ (ct p = most x ∧ ¬ bt S 0 p < leas S x)) → ∃ I', some I = some I' ∧ ex [50, 52, 53] I I' ∧ stM V S (fmin (fM V S) x [p]) I' ∧ ∀ z : Nat, z < p.length → I' 52 z = I 52 z := by
      intro hh
      refine ⟨I, rfl, ex_refl, ?_, fun _ _ => rfl⟩
      have : fmin (fM V S) x [p] = x := by
        show fm (fM V S) x p = x
        rw [fm, ef]
        rcases x with _ | ⟨w, t⟩
        · simp only [most, leas] at hh; omega
        · simp only [most, leas] at hh
          show (if _ < w then _ else _) = _
          rw [if_neg (by omega)]
      rw [this]
      exact ⟨m1, m2, m3⟩
    have hit : ¬ (ct p < most x ∨ (ct p = most x ∧ ¬ bt S 0 p < leas S x)) → ∃ I', some (mm_row (mm_up (mm_up I 50 5 (iN (ct p))) 50 6 (iN (bt S 0 p))) 53 (va_cpy ((mm_up (mm_up I 50 5 (iN (ct p))) 50 6 (iN (bt S 0 p))) 52) ((mm_up (mm_up I 50 5 (iN (ct p))) 50 6 (iN (bt S 0 p))) 53) 0 0 4)) = some I' ∧ ex [50, 52, 53] I I' ∧ stM V S (fmin (fM V S) x [p]) I' ∧ ∀ z : Nat, z < p.length → I' 52 z = I 52 z := by
      intro hh
      refine ⟨_, rfl, ?_, ?_, ?_⟩
      · intro a ha
        rw [row_a (fun e => ha (by rw [e]; simp)), up_a (fun e => ha (by rw [e]; simp)), up_a (fun e => ha (by rw [e]; simp))]
      · have : fmin (fM V S) x [p] = some (-1000 * ct p + bt S 0 p, p) := by
          show fm (fM V S) x p = _
          rw [fm, ef]
          rcases x with _ | ⟨w, t⟩
          · rfl
          · simp only [most, leas] at hh
            show (if _ < w then _ else _) = _
            rw [if_pos (by omega)]
        rw [this]
        refine ⟨?_, ?_, rfl, by omega, by omega, ?_⟩
        · rw [row_a (by decide), up_k (by decide), up_eq]; rfl
        · rw [row_a (by decide), up_eq]; rfl
        · intro z hz
          rw [row_eq, va_cpy, if_pos (by omega), up_a (by decide), up_a (by decide), show 0 + (z - 0) = z by omega]
          exact h52 z (by omega)
      · intro z hz
        rw [row_a (by decide), up_a (by decide), up_a (by decide)]
    rw [fX1_moor_B, hv, m1, m2]
    simp (disch := omega) only [iN_add, iN_sub, iN_lt, iN_eq]
    rw [show ct p + V 0 2 - (p.length : Int) = ct p by omega]
    by_cases e1 : ct p < most x
    · rw [if_pos e1]; exact stay (Or.inl e1)
    · rw [if_neg e1]
      by_cases e2 : ct p = most x
      · rw [if_pos e2]
        by_cases e3 : bt S 0 p < leas S x
        · rw [if_pos e3, if_neg (by omega)]; exact hit (by omega)
        · rw [if_neg e3]; exact stay (Or.inr ⟨e2, e3⟩)
      · rw [if_neg e2, if_neg (by omega)]; exact hit (by omega)
  | succ k ih =>
    intro d p X x I h hp hd h51 hx hpm h52 hf
    have hu := h.1.1
    obtain ⟨d, rfl⟩ : ∃ m, d = m + 1 := ⟨d - 1, by omega⟩
    have c1 := ct_in p
    have b1 := bt_in (S := S) (m := V 0 2) (fun b b1 b2 => by have := h.2.1.1 b b1 b2; omega) p 0 (by omega) (by omega) hpm
    have hsp := h.2.1.1 (p.length : Int) (by omega) (by omega)
    have hv := h.2.2.1.1.2.2.1
    have hlA := lA_hi h.1 h.2.1 (b := (p.length : Int)) (by omega) (by omega)
    obtain ⟨m1, m2, m3⟩ := hx
    have mo : (-1 ≤ most x ∧ most x ≤ 4) ∧ (0 ≤ leas S x ∧ leas S x ≤ 32) := by
      rcases x with _ | ⟨v, t⟩
      · simp [most, leas]
      · simp only [most, leas]; omega
    have stay : (ct p + (V 0 2 - p.length) < most x ∨ (ct p + (V 0 2 - p.length) = most x ∧ ¬ bt S 0 p < leas S x)) → ∃ I', some I = some I' ∧ ex [50, 52, 53] I I' ∧ stM V S (fmin (fM V S) x ((lex 9 (k + 1)).map (fun s => p ++ s))) I' ∧ ∀ z : Nat, z < p.length → I' 52 z = I 52 z := by
      intro hh
      refine ⟨I, rfl, ex_refl, ?_, fun _ _ => rfl⟩
      have : fmin (fM V S) x ((lex 9 (k + 1)).map (fun s => p ++ s)) = x := by
        rcases x with _ | ⟨w, t⟩
        · simp only [most, leas] at hh; omega
        · apply fmin_keep
          intro t' ht v hv'
          rw [List.mem_map] at ht
          obtain ⟨s, hs, rfl⟩ := ht
          obtain ⟨sl, sm⟩ := lex_mem (d := 9) _ s hs
          have c2 := ct_in s
          have b2 := bt_in (S := S) (m := V 0 2) (fun b b1 b2 => by have := h.2.1.1 b b1 b2; omega) s p.length (by omega) (by omega) (fun a ha => by have := sm a ha; omega)
          unfold fM at hv'
          split at hv'
          · injection hv' with hv'
            rw [ct_app, bt_app, Int.zero_add] at hv'
            simp only [most, leas] at hh
            omega
          · cases hv'
      rw [this]
      exact ⟨m1, m2, m3⟩
    have body : ∃ I', (fX1_moor_L101 n (fX1_moor n d) (iN p.length) X (iN (ct p)) (iN (bt S 0 p)) ((mf_pick I 51 4 (iN p.length)) &&& (X ^^^ (-1))) 0 I r).bind (fun o => (fX1_moor n d (iN p.length + 1) X (iN (ct p)) (iN (bt S 0 p)) (mf_put o 52 4 (iN p.length) (-1)) r).bind fun o' => some o') = some I' ∧ ex [50, 52, 53] I I' ∧ stM V S (fmin (fM V S) x ((lex 9 (k + 1)).map (fun s => p ++ s))) I' ∧ ∀ z : Nat, z < p.length → I' 52 z = I 52 z := by
      rw [iN_pick (by omega) (by omega) (by omega), Int.toNat_natCast, h51 p.length (by omega)]
      simp only [iN_lit, iN_neg, iN_add]
      rw [dgs_lex]
      -- one more digit a, with the set X'
      have rec1 : ∀ (a : Int) (X' : Int32) (c' b' : Int) (x : Option (Int × List Int)) (J : (Nat → Nat → Int32)), 0 ≤ a → a < 9 → ex [50, 52, 53] I J → stM V S x J → (∀ z : Nat, z < p.length → J 52 z = I 52 z) → c' = ct (p ++ [a]) → b' = bt S 0 (p ++ [a]) → (∀ s, vM (lA V S) p.length X (a :: s) = vM (lA V S) (p.length + 1) X' s) →
          ∃ I', fX1_moor n d (iN (p.length + 1)) X' (iN c') (iN b') (mm_up J 52 p.length (iN (enc a))) r = some I' ∧ ex [50, 52, 53] I I' ∧ stM V S (fmin (fM V S) x ((lex 9 k).map (fun s => p ++ a :: s))) I' ∧ ∀ z : Nat, z < p.length → I' 52 z = I 52 z := by
        intro a X' c' b' x J a0 a9 hxJ hst hJ ec eb hvM
        have pl : (p ++ [a]).length = p.length + 1 := by simp
        obtain ⟨I', g1, g2, g3, g4⟩ := ih d (p ++ [a]) X' x (mm_up J 52 p.length (iN (enc a))) (cOK_ex h (ex_trans hxJ (ex_up (by decide))) (by rcases hr0 with rfl | rfl <;> decide)) (by omega) (by omega) (fun b hb => by rw [up_a (by decide), hxJ 51 (by decide)]; exact h51 b hb) (stM_of hst (up_a (by decide)) (up_a (by decide))) (by
          intro c hc
          rw [List.mem_append, List.mem_singleton] at hc
          rcases hc with hc | rfl
          · exact hpm c hc
          · exact ⟨a0, a9⟩) (by
          intro z hz
          rw [pl] at hz
          by_cases e : z = p.length
          · subst e; rw [up_eq, gd_r rfl]
          · rw [up_k e, gd_l (by omega), hJ z (by omega)]; exact h52 z (by omega)) (by
          intro s
          rw [List.append_assoc, hf, pl]
          show vM (lA V S) p.length X (a :: s) = _
          rw [hvM, show (((p.length + 1 : Nat) : Int)) = (p.length : Int) + 1 by omega])
        rw [pl] at g1 g4
        refine ⟨I', by rw [ec, eb, show ((p.length : Int) + 1) = ((p.length + 1 : Nat) : Int) by omega]; exact g1, ex_trans hxJ (ex_trans (ex_up (by decide)) g2), ?_, ?_⟩
        · have : (fun s => p ++ [a] ++ s) = (fun t => p ++ a :: t) := by funext t; rw [List.append_assoc]; rfl
          rw [this] at g3
          exact g3
        · intro z hz
          rw [g4 z (by omega), up_k (by omega)]
          exact hJ z hz
      have noblk : ∀ a : Int, 0 ≤ a → a < 8 → (bit (lA V S p.length) a && !bit X a) = false → ∀ y, fmin (fM V S) y ((lex 9 k).map (fun s => p ++ a :: s)) = y := by
        intro a a0 a8 hb y
        apply fmin_none
        intro t ht
        rw [List.mem_map] at ht
        obtain ⟨s, _, rfl⟩ := ht
        unfold fM
        rw [hf, vM, if_neg (show ¬ a = 8 by omega), hb]
        rfl
      obtain ⟨n', J, q1, q2, q3, q4, q5⟩ := loop (fun m c J => fX1_moor_L101 m (fX1_moor n d) (iN p.length) X (iN (ct p)) (iN (bt S 0 p)) (lA V S p.length &&& (X ^^^ iN (-1))) (iN c) J r) 1 (P := V 0 0) (fun c J => ex [50, 52, 53] I J ∧ stM V S (dgs (fM V S) (lex 9 k) (fun n => (n : Int)) p x c.toNat) J ∧ ∀ z : Nat, z < p.length → J 52 z = I 52 z)
        (by
          intro m c J hm c0 c1' ⟨hxJ, hst, hJ⟩
          have hcJ : cOK V S r J := cOK_ex h hxJ (by rcases hr0 with rfl | rfl <;> decide)
          have ec : ((c.toNat : Nat) : Int) = c := by omega
          rw [show (c + 1).toNat = c.toNat + 1 by omega, dgs, ec]
          have unf := fX1_moor_L101.eq_def (m + 1) (fX1_moor n d) (iN p.length) X (iN (ct p)) (iN (bt S 0 p)) (lA V S p.length &&& (X ^^^ iN (-1))) (iN c) J r
          dsimp only at unf
          simp only [iN_lit] at unf
          have pz : mf_put J 52 4 (iN p.length) (iN c) = mm_up J 52 p.length (iN c) := by rw [iN_put (by omega) (by omega) (by omega), Int.toNat_natCast]
          have hcp : cOK V S r (mm_up J 52 p.length (iN c)) := cOK_ex hcJ (ex_up (l := [52]) (by decide)) (by rcases hr0 with rfl | rfl <;> decide)
          rw [hcJ.2.2.1.1.1, ite_p (by rw [iN_lt (by omega) (by omega) (by omega) (by omega)]; exact c1'), pz, cl_col h.1 hcp.2.2.2 (by omega) (by omega), iN_sub, cl_abs (by omega) (by omega)] at unf
          simp (disch := omega) only [iN_31, bit_t0, bit_free, iN_add] at unf
          cases eb : (bit (lA V S p.length) c && !bit X c) with
          | false =>
            rw [eb, ite_p rfl] at unf
            rw [noblk c c0 (by omega) eb]
            exact ⟨J, unf, hxJ, hst, hJ⟩
          | true =>
            rw [eb, ite_n (by decide)] at unf
            obtain ⟨J', g1, g2, g3, g4⟩ := rec1 c (X ||| iN 1 <<< iN c) (ct p + 1) (bt S 0 p + ab (c - S p.length)) _ J c0 (by omega) hxJ hst hJ (by rw [ct_app, ct, ct, if_neg (by omega)]; omega) (by rw [bt_app, bt, bt, if_neg (by omega), Int.zero_add]; omega) (by intro s; rw [vM, if_neg (by omega), eb, Bool.true_and])
            have ee : enc c = c := by unfold enc; rw [if_neg (by omega)]
            rw [ee] at g1
            rw [g1, Option.bind_some] at unf
            exact ⟨J', unf, g2, g3, g4⟩) (V 0 0).toNat n 0 I (by omega) (by omega) ⟨ex_refl, ⟨m1, m2, m3⟩, fun _ _ => rfl⟩ (by omega)
      have q2' : fX1_moor_L101 n (fX1_moor n d) (iN p.length) X (iN (ct p)) (iN (bt S 0 p)) (lA V S p.length &&& (X ^^^ iN (-1))) (iN 0) I r = some J := by
        have : fX1_moor_L101 n (fX1_moor n d) (iN p.length) X (iN (ct p)) (iN (bt S 0 p)) (lA V S p.length &&& (X ^^^ iN (-1))) (iN 0) I r = fX1_moor_L101 n' (fX1_moor n d) (iN p.length) X (iN (ct p)) (iN (bt S 0 p)) (lA V S p.length &&& (X ^^^ iN (-1))) (iN (V 0 0)) J r := q2
        rw [this]
        have hcJ : cOK V S r J := cOK_ex h q3 (by rcases hr0 with rfl | rfl <;> decide)
        obtain ⟨n', rfl⟩ : ∃ m, n' = m + 1 := ⟨n' - 1, by omega⟩
        rw [fX1_moor_L101, hcJ.2.2.1.1.1, if_neg (iN_ir _)]
      have d8 : ∀ j, (V 0 0).toNat + j ≤ 8 → dgs (fM V S) (lex 9 k) (fun n => (n : Int)) p x ((V 0 0).toNat + j) = dgs (fM V S) (lex 9 k) (fun n => (n : Int)) p x (V 0 0).toNat := by
        intro j
        induction j with
        | zero => intro _; rfl
        | succ j ihj =>
          intro hj
          rw [show (V 0 0).toNat + (j + 1) = (V 0 0).toNat + j + 1 by omega, dgs, noblk _ (by omega) (by omega), ihj (by omega)]
          cases e : bit (lA V S p.length) (((V 0 0).toNat + j : Nat) : Int) with
          | false => rfl
          | true => have := hlA _ (by omega) (by omega) e; omega
      have d88 := d8 (8 - (V 0 0).toNat) (by omega)
      rw [show (V 0 0).toNat + (8 - (V 0 0).toNat) = 8 by omega] at d88
      rw [← d88] at q4
      obtain ⟨J', g1, g2, g3, g4⟩ := rec1 8 X (ct p) (bt S 0 p) _ J (by omega) (by omega) q3 q4 q5 (by rw [ct_app, ct, ct, if_pos rfl]; omega) (by rw [bt_app, bt, bt, if_pos rfl]; omega) (by intro s; rw [vM, if_pos rfl])
      have ee : enc 8 = -1 := rfl
      rw [ee] at g1
      rw [q2', Option.bind_some, iN_put (by omega) (by omega) (by omega), Int.toNat_natCast, g1, Option.bind_some]
      exact ⟨J', rfl, g2, g3, g4⟩
    rw [show fX1_moor n (d + 1) (iN p.length) X (iN (ct p)) (iN (bt S 0 p)) I r = fX1_moor_B n (fX1_moor n d) (iN p.length) X (iN (ct p)) (iN (bt S 0 p)) I r from rfl, fX1_moor_B, hv, m1, m2, iN_add, iN_sub]
    by_cases e1 : ct p + V 0 2 - p.length < most x
    · rw [ite_p (by rw [iN_lt (by omega) (by omega) (by omega) (by omega)]; exact e1)]
      exact stay (Or.inl (by omega))
    · rw [ite_n (by rw [iN_lt (by omega) (by omega) (by omega) (by omega)]; exact e1)]
      by_cases e2 : ct p + V 0 2 - p.length = most x
      · rw [ite_p (by rw [iN_eq (by omega) (by omega) (by omega) (by omega)]; exact e2)]
        by_cases e3 : bt S 0 p < leas S x
        · rw [ite_p (by rw [iN_lt (by omega) (by omega) (by omega) (by omega)]; exact e3), ite_p (by rw [iN_lt (by omega) (by omega) (by omega) (by omega)]; omega)]
          exact body
        · rw [ite_n (by rw [iN_lt (by omega) (by omega) (by omega) (by omega)]; exact e3)]
          exact stay (Or.inr ⟨by omega, e3⟩)
      · rw [ite_n (by rw [iN_eq (by omega) (by omega) (by omega) (by omega)]; exact e2), ite_p (by rw [iN_lt (by omega) (by omega) (by omega) (by omega)]; omega)]
        exact body
theorem cl_mlands (hr0 : r = 3 ∨ r = 19) {I : (Nat → Nat → Int32)} (h : cOK V S r I) {n : Nat} (hn : 60 ≤ n) : ∃ I', fX1_findMooring_L2 n (iN 0) I r = some I' ∧ ex [51] I I' ∧ ∀ b : Nat, b < (V 0 2).toNat → I' 51 b = lA V S b := by
  have hu := h.1.1
  obtain ⟨n', I', q1, q2, q3, q4⟩ := loop (fun n k I => fX1_findMooring_L2 n (iN k) I r) 40 (P := V 0 2) (fun k J => ex [51] I J ∧ ∀ b : Nat, b < k → J 51 b = lA V S b)
    (by
      intro n k J hn k0 k1 ⟨hx, hz⟩
      have hc := cOK_ex h hx (by rcases hr0 with rfl | rfl <;> decide)
      have hs := h.2.1.1 k k0 k1
      have ek : ((k.toNat : Nat) : Int) = k := by omega
      refine ⟨mm_up J 51 k.toNat (lA V S k), ?_, ex_trans hx (ex_up (by decide)), ?_⟩
      · show fX1_findMooring_L2 (n + 1) _ _ _ = _
        rw [fX1_findMooring_L2, hc.2.2.1.1.2.2.1, cl_row h.1 hc.2.2.2 k0 k1, cl_land hc k0 k1 (by omega)]
        simp (disch := omega) only [iN_lit, iN_add, iN_sub, iN_mul, iN_neg, iN_lt, iN_eq, iN_tn, if_true, if_false, if_pos, if_neg, iN_put, Option.bind_some]
        unfold lA
        by_cases e : S (4 + k) = 0
        · rw [if_pos e, if_pos e]
        · rw [if_neg e, if_neg e]
      · intro b hb
        rw [up_c]
        by_cases eb : b = k.toNat
        · rw [if_pos eb, eb, ek]
        · rw [if_neg eb]; exact hz b (by omega)) (V 0 2).toNat n 0 I (by omega) (by omega) ⟨ex_refl, by intro z h; omega⟩ (by omega)
  refine ⟨I', ?_, q3, fun b hb => q4 b (by omega)⟩
  have hc := cOK_ex h q3 (by rcases hr0 with rfl | rfl <;> decide)
  have q2' : fX1_findMooring_L2 n (iN 0) I r = fX1_findMooring_L2 n' (iN (V 0 2)) I' r := q2
  rw [q2']
  obtain ⟨n', rfl⟩ : ∃ m, n' = m + 1 := ⟨n' - 1, by omega⟩
  rw [fX1_findMooring_L2, hc.2.2.1.1.2.2.1]
  simp (disch := omega) only [iN_lit, iN_add, iN_sub, iN_mul, iN_neg, iN_lt, iN_eq, iN_tn, if_true, if_false, if_pos, if_neg]
def sMo (V : (Nat → Int → Int)) (S : Int → Int) : Option (Int × List Int) := fmin (fM V S) none (lex 9 (V 0 2).toNat)
def aMo (V : (Nat → Int → Int)) (S : Int → Int) (w : Int) : Int := if 0 ≤ w ∧ w ≤ 1 then (if w = 0 then most (sMo V S) else leas S (sMo V S)) else -1
/-- what lies behind mooring -/
def lMo (V : (Nat → Int → Int)) (S : Int → Int) (w : Int) (l : List Int) : List Int := if 0 ≤ w ∧ w ≤ 1 then mlay (sMo V S) else l
theorem cl_Moor (hr0 : r = 3 ∨ r = 19) {I : (Nat → Nat → Int32)} (h : cOK V S r I) {l : List Int} (hl : cl l I) {w : Int} (hw : -2147483648 ≤ w ∧ w < 2147483648) {n : Nat} (hn : 100 ≤ n) : ∃ I', fX11_mooring n (iN w) I r = some (iN (aMo V S w), I') ∧ ex [35, 36, 50, 51, 52, 53] I I' ∧ cl (lMo V S w l) I' := by
  have hu := h.1.1
  rw [fX11_mooring]
  simp (disch := omega) only [iN_lit, iN_neg, iN_lt]
  unfold aMo lMo
  by_cases w0 : w < 0
  · rw [if_pos w0, if_neg (by omega), if_neg (by omega)]
    exact ⟨I, rfl, ex_refl, hl⟩
  · rw [if_neg w0]
    by_cases w1 : 1 < w
    · rw [if_pos w1, if_neg (by omega), if_neg (by omega)]
      exact ⟨I, rfl, ex_refl, hl⟩
    · rw [if_neg w1, if_pos (show 0 ≤ w ∧ w ≤ 1 by omega), if_pos (show 0 ≤ w ∧ w ≤ 1 by omega), fX1_findMooring]
      obtain ⟨I1, g1, g2, g3⟩ := cl_mlands hr0 h (n := n) (by omega)
      simp only [iN_lit, iN_neg]
      rw [g1, Option.bind_some]
      have x2 : ex [50, 51] I (mm_up (mm_up I1 50 5 (iN (-1))) 50 6 (iN 0)) := ex_trans (ex_mono g2 (by decide)) (ex_trans (ex_up (by decide)) (ex_up (by decide)))
      have c2 := cOK_ex h x2 (by rcases hr0 with rfl | rfl <;> decide)
      obtain ⟨I2, f1, f2, f3, _⟩ := cl_moor hr0 (n := n) (by omega) (V 0 2).toNat 6 [] (iN 0) none (mm_up (mm_up I1 50 5 (iN (-1))) 50 6 (iN 0)) c2 (by simp) (by omega) (fun b hb => by rw [up_a (by decide), up_a (by decide)]; exact g3 b hb) ⟨by rw [up_k (by decide), up_eq]; rfl, by rw [up_eq]; rfl, trivial⟩ (by intro a ha; cases ha) (by intro z hz; exact absurd hz (by simp)) (by intro s; rfl)
      have em : (lex 9 (V 0 2).toNat).map (fun s => ([] : List Int) ++ s) = lex 9 (V 0 2).toNat := by simp
      rw [em] at f3
      have es : fmin (fM V S) none (lex 9 (V 0 2).toNat) = sMo V S := rfl
      rw [es] at f3
      have f1' : fX1_moor n 6 (iN 0) (iN 0) (iN 0) (iN 0) (mm_up (mm_up I1 50 5 (iN (-1))) 50 6 (iN 0)) r = some I2 := f1
      rw [f1', Option.bind_some, Option.bind_some]
      have x3 : ex [50, 51, 52, 53] I I2 := ex_trans (ex_mono x2 (by decide)) (ex_mono f2 (by decide))
      have c3 := cOK_ex h x3 (by rcases hr0 with rfl | rfl <;> decide)
      have c4 : cOK V S r (fX3_clear I2) := cOK_ex c3 clr_ex (by rcases hr0 with rfl | rfl <;> decide)
      obtain ⟨v, t, e⟩ := moor_some V S
      rw [es] at e
      have hok := fM_ok (h1 := h.1) (h2 := h.2.1) (fun t ht => ⟨(lex_mem (d := 9) _ t ht).1, fun a ha => by have := (lex_mem (d := 9) _ t ht).2 a ha; omega⟩) (es.trans e)
      rw [e] at f3
      obtain ⟨y1, y2, _, _, _, y3⟩ := f3
      have ll : (mlay (sMo V S)).length = (V 0 2).toNat := by rw [e, mlay, List.length_map]; exact hok.2.2.2.1
      obtain ⟨I3, a1, a2, a3⟩ := cl_all_53 (I := fX3_clear I2) (l := mlay (sMo V S)) (by omega) clr_cl.1 (by
        intro z hz
        rw [ll] at hz
        rw [clr_ex 53 (by decide), y3 z hz, e, mlay, List.getD_eq_getElem?_getD, List.getD_eq_getElem?_getD, List.getElem?_map, List.getElem?_eq_getElem (by omega)]
        rfl) (n := n) (by omega)
      rw [c4.2.2.1.1.2.2.1, show iN (V 0 2) = iN ((mlay (sMo V S)).length : Int) by rw [ll]; congr 1; omega, a1, Option.bind_some]
      have e50 : I3 50 = I2 50 := by rw [a2 50 (by decide), clr_ex 50 (by decide)]
      rw [e50, y1, y2]
      refine ⟨I3, ?_, ex_trans (ex_mono x3 (by decide)) (ex_trans (ex_mono clr_ex (by decide)) (ex_mono a2 (by decide))), a3⟩
      simp (disch := omega) only [iN_eq]
      rw [e]
      by_cases w2 : w = 0
      · rw [if_pos w2, if_pos w2]
      · rw [if_neg w2, if_neg w2]
theorem rf_Moor {I : (Nat → Nat → Int32)} (h : rOK V S I) {l : List Int} (hl : rl l I) {w : Int} (hw : -2147483648 ≤ w ∧ w < 2147483648) {n : Nat} (hn : 8000 ≤ n) : ∃ I', fX12_mooring n (iN w) I = some (iN (aMo V S w), I') ∧ xf [70, 71, 85, 87, 88, 94, 95, 1061] I I' ∧ rl (lMo V S w l) I' := by
  have hu := h.1.1
  rw [fX12_mooring]
  simp only [iN_lit, iN_neg]
  rw [rf_in hw (by omega) (by omega)]
  unfold aMo lMo
  by_cases w0 : 0 ≤ w ∧ w ≤ 1
  · rw [if_pos w0, ite_n n10, if_pos w0, if_pos w0]
    obtain ⟨I1, g1, g2, g3⟩ := rf_mlands h (y := iN w) (n := n) (by omega)
    have R1 := rOK_ex h g2 (by decide)
    obtain ⟨I2, f1, f2, f3⟩ := rf_moor R1 g3 (y := iN w) (n := n) (by omega)
    rw [g1, Option.bind_some, f1, Option.bind_some]
    dsimp only
    have es : fmin (fM V S) none (lex 9 (V 0 2).toNat) = sMo V S := rfl
    rw [es] at *
    refine ⟨I2, ?_, xf_trans (xf_mono (xf_ex g2) (by decide)) (xf_mono f2 (by decide)), f3 (moor_some V S)⟩
    simp (disch := omega) only [iN_eq]
    by_cases w2 : w = 0
    · rw [if_pos w2, if_pos w2]
    · rw [if_neg w2, if_neg w2]
  · rw [if_neg w0, ite_p rfl, if_neg w0, if_neg w0]
    exact ⟨I, rfl, xf_refl, hl⟩
end MOC
