/-! The coolest row of strokes: the reference, and the method of both. -/
def xc (V : (Nat → Int → Int)) (S : Int → Int) (b : Int) (x : Option (Int × List Int)) : Int := match x with
  | none => -1
  | some (_, t) => cC V S b t
/-- what coolest finds -/
def sCo (V : (Nat → Int → Int)) (S : Int → Int) (b w : Int) : Option (Int × List Int) := if (0 ≤ b ∧ b < V 0 2) ∧ 0 ≤ w ∧ w ≤ 2 then fmin (fC V S b) none (lex 3 (lft V S b)) else none
def aCo (V : (Nat → Int → Int)) (S : Int → Int) (b w : Int) : Int := match sCo V S b w with
  | none => -1
  | some (v, t) => if w = 0 then v / 100 else if w = 1 then v % 100 else cC V S b t
section COO
variable {V : (Nat → Int → Int)} {S : Int → Int} {r : Nat} {I : (Nat → Nat → Int32)} {b : Int}
theorem fC_ok (hw : wfV V) (hS : wfS V 600 S) (hb1 : 0 ≤ b) (hb2 : b < V 0 2) {l : List (List Int)} (hl : ∀ t ∈ l, t.length = lft V S b) {v : Int} {t : List Int} (h : fmin (fC V S b) none l = some (v, t)) : (0 ≤ v ∧ v < 10000) ∧ t.length = lft V S b ∧ 0 ≤ cC V S b t ∧ cC V S b t < V 0 0 := by
  obtain ⟨l6, _⟩ := lft_le hw hS hb1 hb2
  have hm := fmin_mem _ _ _ _ _ h
  rcases hm with hm | ⟨m1, m2⟩
  · cases hm
  have := fC_in hw hS hb1 hb2 m2
  have tl := hl t m1
  omega
theorem rf_cool (h : rOK V S I) (hb1 : 0 ≤ b) (hb2 : b < V 0 2) (hr0 : rl [] I) {w : Int32} {n : Nat} (hn : 1100 ≤ n) :
    ∃ I', fX12_coolest_L34 n (iN b) w (iN 1000000) (iN (-1)) (iN 0) I = some (iN (worth 1000000 (fmin (fC V S b) none (lex 3 (lft V S b)))), iN (xc V S b (fmin (fC V S b) none (lex 3 (lft V S b)))), I') ∧ xf [70, 71, 85, 87, 88, 1061] I I' ∧ rl (lays (fmin (fC V S b) none (lex 3 (lft V S b)))) I' := by
  have hu := h.1.1
  have hs := h.2.1.1 b hb1 hb2
  obtain ⟨l6, _⟩ := lft_le h.1 h.2.1 hb1 hb2
  have p3 := p3_le l6
  have hok : ∀ (k : Int) (v : Int) (t : List Int), ((List.range k.toNat).map (dig 3 (lft V S b))).foldl (fm (fC V S b)) none = some (v, t) → (0 ≤ v ∧ v < 10000) ∧ t.length = lft V S b ∧ 0 ≤ cC V S b t ∧ cC V S b t < V 0 0 := by
    intro k v t e
    exact fC_ok h.1 h.2.1 hb1 hb2 (by
      intro t ht
      rw [List.mem_map] at ht
      obtain ⟨k', _, rfl⟩ := ht
      exact dig_len _ _ _) e
  obtain ⟨n', s, h1, h2, h3, h4, h5, h6⟩ := loop (fun n k (s : Int × Int × (Nat → Nat → Int32)) => fX12_coolest_L34 n (iN b) w (iN s.1) (iN s.2.1) (iN k) s.2.2) 340 (P := ((3 ^ lft V S b : Nat) : Int)) (fun k s => xf [70, 71, 85, 87, 88, 1061] I s.2.2 ∧ s.1 = worth 1000000 (((List.range k.toNat).map (dig 3 (lft V S b))).foldl (fm (fC V S b)) none) ∧ s.2.1 = xc V S b (((List.range k.toNat).map (dig 3 (lft V S b))).foldl (fm (fC V S b)) none) ∧ rl (lays (((List.range k.toNat).map (dig 3 (lft V S b))).foldl (fm (fC V S b)) none)) s.2.2)
    (by
      intro n k s hn h0 h1 ⟨hx, hz, hy, hl⟩
      have R := rOK_xf h hx (by decide)
      obtain ⟨I', g1, g2, g3, g4⟩ := rf_row R hb1 hb2 (k := k.toNat) (by omega) (n := n) (by omega)
      rw [show ((k.toNat : Nat) : Int) = k by omega] at g1
      have R' := rOK_ex R g2 (by decide)
      have hx' : xf [70, 71, 85, 87, 88, 1061] I I' := xf_trans hx (xf_mono (xf_ex g2) (by decide))
      have tl := dig_len 3 (lft V S b) k.toNat
      have hwk : 0 ≤ s.1 ∧ s.1 ≤ 1000000 := by
        rw [hz]
        cases e : ((List.range k.toNat).map (dig 3 (lft V S b))).foldl (fm (fC V S b)) none with
        | none => exact ⟨by rw [worth]; omega, by rw [worth]; omega⟩
        | some p => obtain ⟨v, t⟩ := p; have := hok k v t e; rw [worth]; omega
      rw [fold_s _ _ _ _ h0]
      generalize hX : ((List.range k.toNat).map (dig 3 (lft V S b))).foldl (fm (fC V S b)) none = X at *
      generalize hT : dig 3 (lft V S b) k.toNat = T at *
      have hl' : rl (lays X) I' := ⟨by rw [g2 62 (by decide)]; exact hl.1, fun z hz => by rw [g2 88 (by decide)]; exact hl.2 z hz⟩
      have unf := fX12_coolest_L34.eq_def (n + 1) (iN b) w (iN s.1) (iN s.2.1) (iN k) s.2.2
      dsimp only at unf
      rw [rf_left2 R hb1 hb2, Option.bind_some, iN_lit, rf_pow3 l6 (by omega), Option.bind_some] at unf
      simp (disch := omega) only [iN_lit, iN_add, iN_sub, iN_mul, iN_neg, iN_lt, iN_eq, iN_tn, if_true, if_false, if_pos, if_neg] at unf
      rw [g1, Option.bind_some] at unf
      cases e : rn V S b T with
      | none =>
        have ef : fC V S b T = none := by unfold fC; rw [e]
        have er : rc V T (S b) (S (4 + b)) = none := by
          have e2 := run_rc V b (burd V S b) T (S b) (S (4 + b)) (S (8 + b)) (S (12 + b)) (S (16 + b))
          rw [show run V b (burd V S b) T (S b) (S (4 + b)) (S (8 + b)) (S (12 + b)) (S (16 + b)) = none from e] at e2
          exact e2.symm
        have fe : fm (fC V S b) X T = X := by rw [fm, ef]
        rw [fe]
        rw [er] at unf
        exact ⟨(s.1, s.2.1, I'), unf, hx', hz, hy, hl'⟩
      | some y =>
        obtain ⟨c', h', q'⟩ := y
        have yin := run_in h.1 T (by omega) (by omega) (by omega) (by omega) e
        have ef : fC V S b T = some (100 * (q' - S (12 + b)) + h') := by unfold fC; rw [e]
        have ec : cC V S b T = c' := by unfold cC; rw [e]
        obtain ⟨j1, j2, j3⟩ := g4 c' h' q' e
        have j4 := R'.2.2.2 (12 + b) (by omega) (by omega)
        have er : (rc V T (S b) (S (4 + b))).isSome = true := by
          have e2 := run_rc V b (burd V S b) T (S b) (S (4 + b)) (S (8 + b)) (S (12 + b)) (S (16 + b))
          rw [show run V b (burd V S b) T (S b) (S (4 + b)) (S (8 + b)) (S (12 + b)) (S (16 + b)) = some (c', h', q') from e] at e2
          rw [← e2]
          rfl
        rw [if_pos er, ite_n n10] at unf
        simp (disch := omega) only [iN_lit, iN_add, iN_sub, iN_mul, iN_neg, iN_lt, iN_eq, iN_tn, if_true, if_false, if_pos, if_neg, j1, j2, j3, j4] at unf
        by_cases hlt : 100 * (q' - S (12 + b)) + h' < s.1
        · have fe : fm (fC V S b) X T = some (100 * (q' - S (12 + b)) + h', T) := by
            rw [fm, ef]
            rw [hz] at hlt
            rcases X with _ | ⟨w, t⟩
            · rfl
            · rw [worth] at hlt
              show (if _ < w then _ else _) = _
              rw [if_pos hlt]
          obtain ⟨I2, q1, q2, q3⟩ := rf_put R' hb1 hb2 (l := T.map (fun a => a - 1)) (by rw [List.length_map, tl]) (by
            intro z hz
            rw [List.length_map, tl] at hz
            rw [g3 z hz, List.getD_eq_getElem?_getD, List.getD_eq_getElem?_getD, List.getElem?_map, List.getElem?_eq_getElem (by omega)]
            rfl) (n := n) (by omega)
          rw [if_pos hlt, q1, Option.bind_some] at unf
          rw [fe]
          exact ⟨(100 * (q' - S (12 + b)) + h', c', I2), unf, xf_trans hx' (xf_mono q2 (by decide)), rfl, by rw [xc, ec], q3⟩
        · have fe : fm (fC V S b) X T = X := by
            rw [fm, ef]
            rw [hz] at hlt
            rcases X with _ | ⟨w, t⟩
            · rw [worth] at hlt; omega
            · rw [worth] at hlt
              show (if _ < w then _ else _) = _
              rw [if_neg hlt]
          rw [fe]
          rw [if_neg hlt] at unf
          exact ⟨(s.1, s.2.1, I'), unf, hx', hz, hy, hl'⟩) (3 ^ lft V S b) n 0 (1000000, -1, I) (by omega) (by omega) ⟨xf_refl, rfl, rfl, hr0⟩ (by omega)
  rw [fold_a _ _ (by omega)] at h4 h5 h6
  refine ⟨s.2.2, ?_, h3, h6⟩
  have R := rOK_xf h h3 (by decide)
  have h2' : fX12_coolest_L34 n (iN b) w (iN 1000000) (iN (-1)) (iN 0) I = fX12_coolest_L34 n' (iN b) w (iN s.1) (iN s.2.1) (iN ((3 ^ lft V S b : Nat) : Int)) s.2.2 := h2
  rw [h2']
  obtain ⟨n', rfl⟩ : ∃ m, n' = m + 1 := ⟨n' - 1, by omega⟩
  rw [fX12_coolest_L34, rf_left2 R hb1 hb2, Option.bind_some, iN_lit, rf_pow3 l6 (by omega), Option.bind_some]
  rw [if_neg (iN_ir _), h4, h5]
  rfl
theorem rf_Cool (h : rOK V S I) {w : Int} (hb : -2147483648 ≤ b ∧ b < 2147483648) (hw : -2147483648 ≤ w ∧ w < 2147483648) {n : Nat} (hn : 1100 ≤ n) :
    ∃ I', fX12_coolest n (iN b) (iN w) I = some (iN (aCo V S b w), I') ∧ xf [70, 71, 85, 87, 88, 1061] I I' ∧ rl (lays (sCo V S b w)) I' := by
  have hu := h.1.1
  have x1 : xf [70, 71, 85, 87, 88, 1061] I (mm_up I 62 61 (iN 0)) := xf_u62 (by decide)
  have h1 : rOK V S (mm_up I 62 61 (iN 0)) := rOK_xf h x1 (by decide)
  have no : ¬ ((0 ≤ b ∧ b < V 0 2) ∧ 0 ≤ w ∧ w ≤ 2) → sCo V S b w = none := fun hh => by unfold sCo; rw [if_neg hh]
  rw [fX12_coolest]
  simp only [iN_lit, iN_neg]
  rw [rf_board h1 hb, Option.bind_some, rf_in hw (by omega) (by omega)]
  unfold aCo
  by_cases hb' : 0 ≤ b ∧ b < V 0 2
  · rw [if_pos hb', ite_n n10]
    by_cases hd' : 0 ≤ w ∧ w ≤ 2
    · rw [if_pos hd', ite_n n10]
      have es : sCo V S b w = fmin (fC V S b) none (lex 3 (lft V S b)) := by unfold sCo; rw [if_pos ⟨hb', hd'⟩]
      obtain ⟨I2, g1, g2, g3⟩ := rf_cool h1 hb'.1 hb'.2 rl_0 (w := iN w) hn
      rw [← es] at g1 g3
      rw [g1, Option.bind_some]
      refine ⟨I2, ?_, xf_trans x1 g2, g3⟩
      cases e : sCo V S b w with
      | none => exact if_pos (by show iN (-1) < iN 0; rw [iN_lt (by omega) (by omega) (by omega) (by omega)]; omega)
      | some p =>
        obtain ⟨v, t⟩ := p
        rw [e] at es
        have hok := fC_ok h.1 h.2.1 hb'.1 hb'.2 (fun t ht => (lex_mem _ t ht).1) es.symm
        show (if iN (cC V S b t) < iN 0 then _ else if iN w = iN 0 then some (iN v / iN 100, I2) else if iN w = iN 1 then some (iN v - iN v / iN 100 * iN 100, I2) else some (iN (cC V S b t), I2)) = _
        simp (disch := omega) only [iN_lt, iN_eq, iN_rem, iN_div]
        rw [if_neg (by omega)]
        by_cases w0 : w = 0
        · rw [if_pos w0, if_pos w0]
        · rw [if_neg w0, if_neg w0]
          by_cases w1 : w = 1
          · rw [if_pos w1, if_pos w1, iN_mul, iN_sub, show v - v / 100 * 100 = v % 100 by omega]
          · rw [if_neg w1, if_neg w1]
    · rw [if_neg hd', ite_p rfl, no (fun hh => hd' hh.2)]
      exact ⟨_, rfl, x1, rl_0⟩
  · rw [if_neg hb', ite_p rfl, no (fun hh => hb' hh.1)]
    exact ⟨_, rfl, x1, rl_0⟩
theorem cl_Cool (hr0 : r = 3 ∨ r = 19) (h : cOK V S r I) {w : Int} (hb : -2147483648 ≤ b ∧ b < 2147483648) (hw : -2147483648 ≤ w ∧ w < 2147483648) {n : Nat} (hn : 400 ≤ n) :
    ∃ I', fX11_coolest n (iN b) (iN w) I r = some (iN (aCo V S b w), I') ∧ ex [35, 36, 42, 43, 44, r + 3, r + 4] I I' ∧ cl (lays (sCo V S b w)) I' := by
  have hu := h.1.1
  have h1 : cOK V S r (fX3_clear I) := cOK_ex h clr_ex (by rcases hr0 with rfl | rfl <;> decide)
  have no : ¬ ((0 ≤ b ∧ b < V 0 2) ∧ 0 ≤ w ∧ w ≤ 2) → sCo V S b w = none := fun hh => by unfold sCo; rw [if_neg hh]
  have xx : ex [35, 36, 42, 43, 44, r + 3, r + 4] I (fX3_clear I) := ex_mono clr_ex (by intro a ha; simp at ha ⊢; omega)
  rw [fX11_coolest, cl_board h1 hb]
  simp (disch := omega) only [fX11_coolest_J38, iN_lit, iN_neg, iN_lt]
  unfold aCo
  by_cases w0 : w < 0
  · rw [if_pos w0, no (by omega)]
    exact ⟨_, rfl, xx, clr_cl⟩
  · rw [if_neg w0]
    by_cases w2 : 2 < w
    · rw [if_pos w2, no (by omega)]
      exact ⟨_, rfl, xx, clr_cl⟩
    · rw [if_neg w2]
      by_cases hb' : 0 ≤ b ∧ b < V 0 2
      · have hb1 := hb'.1
        have hb2 := hb'.2
        have hs := h.2.1.1 b hb1 hb2
        obtain ⟨l6, l7⟩ := lft_le h.1 h.2.1 hb1 hb2
        have hpl : ∀ l, 0 ≤ l → l < V 0 3 → -2 ≤ S (20 + l) ∧ S (20 + l) < 4 := fun l h1 h2 => by have := h.2.1.2.1 l h1 h2; omega
        have es : sCo V S b w = fmin (fC V S b) none (lex 3 (lft V S b)) := by unfold sCo; rw [if_pos ⟨hb', by omega⟩]
        rw [if_pos hb', ite_n n10, fX8_findCoolest]
        have c2 : cOK V S r (mm_up (fX3_clear I) 42 2 (iN b)) := cOK_ex h1 (ex_up (l := [42]) (by decide)) (by rcases hr0 with rfl | rfl <;> decide)
        rw [cl_burden h.1 c2.2.2.1 c2.2.2.2 (by omega) hpl (by omega), Option.bind_some]
        have c3 : cOK V S r (mm_up (mm_up (mm_up (fX3_clear I) 42 2 (iN b)) 42 3 (iN (burd V S b))) 42 4 0) := cOK_ex h1 (ex_trans (ex_trans (ex_up (l := [42]) (by decide)) (ex_up (by decide))) (ex_up (by decide))) (by rcases hr0 with rfl | rfl <;> decide)
        rw [cl_col h.1 c3.2.2.2 hb1 hb2, cl_heat h.1 c3.2.2.2 hb1 hb2]
        obtain ⟨I2, g1, g2, g3, g4, g5, g6⟩ := cl_goOn hr0 hb1 hb2 (n := n) (by omega) (lft V S b) 8 [] (S b) (S (8 + b)) 0 none _ c3 (by simp) (by omega) (by simp [mm_up]) (by simp [mm_up]) (by show (mm_up (mm_up (mm_up (fX3_clear I) 42 2 (iN b)) 42 3 (iN (burd V S b))) 42 4 0) 42 4 = iN 0; simp only [iN_lit, up_eq]) (by omega) (by omega) (by simp) (by intro z hz; exact absurd hz (by simp)) (by intro s; show run V b _ s _ _ _ _ _ = run V b _ s _ _ _ _ _; simp)
        have em : (lex 3 (lft V S b)).map (fun s => ([] : List Int) ++ s) = lex 3 (lft V S b) := by simp
        rw [em, ← es] at g5
        have y3 : ex [42, 43, 44, r + 3, r + 4] (fX3_clear I) I2 := ex_trans (ex_trans (ex_trans (ex_up (a := 42) (by simp)) (ex_up (by simp))) (ex_up (by simp))) g2
        have y4 : ex [35, 36, 42, 43, 44, r + 3, r + 4] I I2 := ex_trans xx (ex_mono y3 (by intro a ha; simp at ha ⊢; omega))
        have e35 : I2 35 = (fX3_clear I) 35 := y3 35 (by rcases hr0 with rfl | rfl <;> decide)
        have c4 : cOK V S r I2 := cOK_ex h1 y3 (by rcases hr0 with rfl | rfl <;> decide)
        have g1' : fX8_goOn n 8 0 (iN (S b)) (iN (S (8 + b))) 0 (mm_up (mm_up (mm_up (fX3_clear I) 42 2 (iN b)) 42 3 (iN (burd V S b))) 42 4 0) r = some I2 := g1
        rw [g1', Option.bind_some]
        cases e : sCo V S b w with
        | none =>
          rw [e] at g5
          have g5' : I2 42 4 = iN 0 := g5
          rw [g5', ite_p (show iN 0 = 0 ∨ iN 0 = 1 from Or.inl rfl), Option.bind_some, ite_p rfl]
          exact ⟨I2, rfl, y4, by rw [e35]; exact clr_cl.1, by intro z hz; exact absurd hz (by rw [lays]; simp)⟩
        | some p =>
          obtain ⟨v, t⟩ := p
          rw [e] at g5 es
          have hok := fC_ok h.1 h.2.1 hb1 hb2 (fun t ht => (lex_mem _ t ht).1) es.symm
          obtain ⟨z0, z1, z2, z3, z4, z5⟩ := g5
          rw [z1, ite_p (show iN 1 = 0 ∨ iN 1 = 1 from Or.inr rfl), Option.bind_some, ite_n n10]
          have ll : (lays (some (v, t))).length = lft V S b := by rw [lays, List.length_map]; exact hok.2.1
          obtain ⟨I3, a1, a2, a3⟩ := cl_all_44 (I := I2) (l := lays (some (v, t))) (by omega) (by rw [e35]; exact clr_cl.1) (by
            intro z hz
            rw [ll] at hz
            rw [z5 z hz, lays, List.getD_eq_getElem?_getD, List.getD_eq_getElem?_getD, List.getElem?_map, List.getElem?_eq_getElem (by omega)]
            rfl) (n := n) (by omega)
          refine ⟨I3, ?_, ex_trans y4 (ex_mono a2 (by intro a ha; simp at ha ⊢; omega)), a3⟩
          dsimp only
          rw [fX7_strokesLeft, cl_row h.1 c4.2.2.2 hb1 hb2, c4.2.2.1.1.2.1, iN_sub, show V 0 1 - S (4 + b) = ((lays (some (v, t))).length : Int) by rw [ll]; omega, a1, Option.bind_some]
          have e42 := a2 42 (by decide)
          rw [e42, z2, z3, z4]
          simp (disch := omega) only [iN_eq]
          by_cases w0 : w = 0
          · rw [if_pos w0]; rw [if_pos w0]
          · rw [if_neg w0]
            rw [if_neg w0]
            by_cases w1 : w = 1
            · rw [if_pos w1, if_pos w1]
            · rw [if_neg w1, if_neg w1]
      · rw [if_neg hb', ite_p rfl, no (fun hh => hb' hh.1)]
        exact ⟨_, rfl, xx, clr_cl⟩
end COO
