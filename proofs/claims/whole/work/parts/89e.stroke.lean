/-! Strokes of the class. -/
section CST
variable {V : (Nat → Int → Int)} {S : Int → Int} {I : (Nat → Nat → Int32)} {r : Nat}
theorem cU_of {Ls : Nat → Int → Int} {a u : Nat} {I' : (Nat → Nat → Int32)} (h : cU V Ls a u I) (e1 : I' 33 = I 33) (e2 : I' 34 = I 34) : cU V Ls a u I' := by
  obtain ⟨h0, q, h1, h2, h3, h4, h5, h6⟩ := h
  exact ⟨h0, q, h1, by rw [e1]; exact h2, by rw [e1]; exact h3, by rw [e1]; exact h4, fun i hi => slt_of (h5 i hi) (fun z _ _ => by rw [e2]) (by omega), fun i hi => slt_of (h6 i hi) (fun z _ _ => by rw [e2]) (by omega)⟩
theorem cl_set (hw : wfV V) (hS : clsS V S I) {b w : Int} (hb1 : 0 ≤ b) (hb2 : b < V 0 2) (w0 : 0 ≤ w) (w1 : w < 5) (x : Int) : clsS V (ud S (4 * w + b) x) (fX7_set (iN b) (iN w) (iN x) I) ∧ ex [32] I (fX7_set (iN b) (iN w) (iN x) I) := by
  have hu := hw.1
  obtain ⟨T, h1, h2, h3, h4⟩ := hS
  have e : fX7_set (iN b) (iN w) (iN x) I = mm_up I 32 (b * 5 + w).toNat (iN x) := by
    rw [fX7_set]
    simp only [iN_lit, iN_mul, iN_add]
    rw [iN_put (by omega) (by omega) (by omega)]
  rw [e]
  refine ⟨⟨ud T (b * 5 + w) x, hr_up h1 (by omega) x, ?_, ?_, ?_⟩, ex_up (by decide)⟩
  · intro b' w' c1 c2 c3 c4
    unfold ud
    by_cases q : b' * 5 + w' = b * 5 + w
    · rw [if_pos q, if_pos (by omega)]
    · rw [if_neg q, if_neg (by omega)]
      exact h2 b' w' c1 c2 c3 c4
  · intro l c1 c2
    unfold ud
    rw [if_neg (by omega), if_neg (by omega)]
    exact h3 l c1 c2
  · unfold ud
    rw [if_neg (by omega), if_neg (by omega)]
    exact h4
theorem cl_setP (hw : wfV V) (hS : clsS V S I) {l : Int} (hb1 : 0 ≤ l) (hb2 : l < V 0 3) (x : Int) : clsS V (ud S (20 + l) x) (fX7_setPlace (iN l) (iN x) I) ∧ ex [32] I (fX7_setPlace (iN l) (iN x) I) := by
  have hu := hw.1
  obtain ⟨T, h1, h2, h3, h4⟩ := hS
  have e : fX7_setPlace (iN l) (iN x) I = mm_up I 32 (20 + l).toNat (iN x) := by
    rw [fX7_setPlace]
    simp only [iN_lit, iN_mul, iN_add]
    rw [iN_put (by omega) (by omega) (by omega)]
  rw [e]
  refine ⟨⟨ud T (20 + l) x, hr_up h1 (by omega) x, ?_, ?_, ?_⟩, ex_up (by decide)⟩
  · intro b' w' c1 c2 c3 c4
    unfold ud
    rw [if_neg (by omega), if_neg (by omega)]
    exact h2 b' w' c1 c2 c3 c4
  · intro l' c1 c2
    unfold ud
    by_cases q : 20 + l' = 20 + l
    · rw [if_pos q, if_pos q]
    · rw [if_neg q, if_neg q]
      exact h3 l' c1 c2
  · unfold ud
    rw [if_neg (by omega), if_neg (by omega)]
    exact h4
theorem cl_setS (hS : clsS V S I) (hw : wfV V) (x : Int) : clsS V (ud S 27 x) (mf_put I 32 28 (iN 27) (iN x)) ∧ ex [32] I (mf_put I 32 28 (iN 27) (iN x)) := by
  have hu := hw.1
  obtain ⟨T, h1, h2, h3, h4⟩ := hS
  rw [iN_put (by omega) (by omega) (by omega)]
  refine ⟨⟨ud T 27 x, hr_up h1 (by omega) x, ?_, ?_, ?_⟩, ex_up (by decide)⟩
  · intro b' w' c1 c2 c3 c4
    unfold ud
    rw [if_neg (by omega), if_neg (by omega)]
    exact h2 b' w' c1 c2 c3 c4
  · intro l' c1 c2
    unfold ud
    rw [if_neg (by omega), if_neg (by omega)]
    exact h3 l' c1 c2
  · unfold ud
    rw [if_pos rfl, if_pos rfl]
/-- the stroke from the place where it hisses or not, and is scorched or not -/
theorem cl_stk136 (hw : wfV V) (hs : wfS V 600 S) (hS : clsS V S I) {b y5 c' r' : Int} {p q : Prop} [Decidable p] [Decidable q] (hb1 : 0 ≤ b) (hb2 : b < V 0 2) :
    ∃ I', fX7_makeStroke_J136 (iN b) (iN y5) (iN c') (iN r') (if p then iN 1 else iN 0) (if q then iN 1 else iN 0) I = some (iN ((if p then 1 else 0) + (if q then 2 else 0)), I') ∧ ex [32] I I' ∧ clsS V (air S b (if p then S b else c') (if p then S (4 + b) else r') (if q then 0 else y5) (if q then S (12 + b) + 1 else S (12 + b)) (S (16 + b) + 1)) I' := by
  have hu := hw.1
  have hsb := hs.1 b hb1 hb2
  have hS' : clsS V (air S b (S b) (S (4 + b)) (S (8 + b)) (S (12 + b)) (S (16 + b))) I := by rw [air_self]; exact hS
  have last : ∀ (J : (Nat → Nat → Int32)) (c w h m : Int), clsS V (air S b c w h m (S (16 + b))) J → fX7_strokesOf (iN b) J = iN (S (16 + b)) := by
    intro J c w h m hJ
    have := cl_made hw hJ hb1 hb2
    rw [air_16] at this
    exact this
  have end1 : ∀ (J : (Nat → Nat → Int32)) (c w h m : Int), ex [32] I J → clsS V (air S b c w h m (S (16 + b))) J → ∀ y8 : Int, (y8 = 0 ∨ y8 = 1) → ∃ I', fX7_makeStroke_J183 (iN b) (iN y5) (iN y8) (if q then iN 1 else iN 0) J = some (iN (y8 + (if q then 2 else 0)), I') ∧ ex [32] I I' ∧ clsS V (air S b c w (if q then 0 else y5) m (S (16 + b) + 1)) I' := by
    intro J c w h m hx hJ y8 hy
    rw [fX7_makeStroke_J183]
    simp only [iN_lit, fX7_makeStroke_J197]
    by_cases hq : q
    · simp only [if_pos hq]
      rw [ite_n n10]
      obtain ⟨s1, x1⟩ := cl_set hw hJ (w := 2) hb1 hb2 (by omega) (by omega) 0
      rw [show 4 * 2 + b = 8 + b by omega, ud_8] at s1
      rw [last _ _ _ _ _ s1, iN_add]
      obtain ⟨s2, x2⟩ := cl_set hw s1 (w := 4) hb1 hb2 (by omega) (by omega) (S (16 + b) + 1)
      rw [show 4 * 4 + b = 16 + b by omega, ud_16] at s2
      simp only [fX7_makeStroke_J223, iN_lit, iN_add]
      rw [ite_n (show ¬ iN 1 = iN 0 from n10), ite_n (show ¬ iN 1 = iN 0 from n10)]
      rcases hy with rfl | rfl
      · rw [ite_p rfl]
        exact ⟨_, rfl, ex_trans hx (ex_trans x1 x2), s2⟩
      · rw [ite_n n10]
        exact ⟨_, rfl, ex_trans hx (ex_trans x1 x2), s2⟩
    · simp only [if_neg hq]
      rw [ite_p trivial]
      obtain ⟨s1, x1⟩ := cl_set hw hJ (w := 2) hb1 hb2 (by omega) (by omega) y5
      rw [show 4 * 2 + b = 8 + b by omega, ud_8] at s1
      rw [last _ _ _ _ _ s1, iN_add]
      obtain ⟨s2, x2⟩ := cl_set hw s1 (w := 4) hb1 hb2 (by omega) (by omega) (S (16 + b) + 1)
      rw [show 4 * 4 + b = 16 + b by omega, ud_16] at s2
      simp only [fX7_makeStroke_J223, iN_lit, iN_add, ite_true]
      rcases hy with rfl | rfl
      · rw [ite_p rfl]
        exact ⟨_, rfl, ex_trans hx (ex_trans x1 x2), s2⟩
      · rw [ite_n n10]
        exact ⟨_, rfl, ex_trans hx (ex_trans x1 x2), s2⟩
  have end2 : ∀ (J : (Nat → Nat → Int32)) (c w : Int), ex [32] I J → clsS V (air S b c w (S (8 + b)) (S (12 + b)) (S (16 + b))) J → ∀ y8 : Int, (y8 = 0 ∨ y8 = 1) → ∃ I', fX7_makeStroke_J159 (iN b) (iN y5) (iN y8) (if q then iN 1 else iN 0) J = some (iN (y8 + (if q then 2 else 0)), I') ∧ ex [32] I I' ∧ clsS V (air S b c w (if q then 0 else y5) (if q then S (12 + b) + 1 else S (12 + b)) (S (16 + b) + 1)) I' := by
    intro J c w hx hJ y8 hy
    rw [fX7_makeStroke_J159]
    simp only [iN_lit]
    have hsc : fX7_scorchesOf (iN b) J = iN (S (12 + b)) := by
      have := cl_scor hw hJ hb1 hb2
      rw [air_12] at this
      exact this
    rw [hsc, iN_add, cl_min _ _ (by omega) (by omega), if_pos (show S (12 + b) + 1 < 999 by omega)]
    by_cases hq : q
    · rw [ite_n (show ¬ (if q then iN 1 else iN 0) = iN 0 by rw [if_pos hq]; exact n10)]
      obtain ⟨s1, x1⟩ := cl_set hw hJ (w := 3) hb1 hb2 (by omega) (by omega) (S (12 + b) + 1)
      rw [show 4 * 3 + b = 12 + b by omega, ud_12] at s1
      obtain ⟨I', g1, g2, g3⟩ := end1 _ _ _ _ _ (ex_trans hx x1) s1 y8 hy
      refine ⟨I', g1, g2, ?_⟩
      rw [if_pos hq] at g3 ⊢
      rw [if_pos hq]
      exact g3
    · rw [ite_p (show (if q then iN 1 else iN 0) = iN 0 by rw [if_neg hq])]
      obtain ⟨I', g1, g2, g3⟩ := end1 _ _ _ _ _ hx hJ y8 hy
      refine ⟨I', g1, g2, ?_⟩
      rw [if_neg hq] at g3 ⊢
      rw [if_neg hq]
      exact g3
  rw [fX7_makeStroke_J136]
  simp only [iN_lit]
  by_cases hp : p
  · simp only [if_pos hp]
    rw [ite_n n10]
    exact end2 I _ _ ex_refl hS' 1 (by omega)
  · simp only [if_neg hp]
    rw [ite_p trivial]
    obtain ⟨s1, x1⟩ := cl_set hw hS' (w := 0) hb1 hb2 (by omega) (by omega) c'
    rw [show 4 * 0 + b = b by omega, ud_0] at s1
    obtain ⟨s2, x2⟩ := cl_set hw s1 (w := 1) hb1 hb2 (by omega) (by omega) r'
    rw [show 4 * 1 + b = 4 + b by omega, ud_4] at s2
    exact end2 _ _ _ (ex_trans x1 x2) s2 0 (by omega)
theorem cl_stk46 (hr0 : r = 3 ∨ r = 19) (h : cOK V S r I) {b s k : Int} {x : Int32} (hb1 : 0 ≤ b) (hb2 : b < V 0 2) (hs : -1 ≤ s ∧ s ≤ 1) (hk : 1 ≤ k ∧ k ≤ 2) (hro : 0 ≤ S (4 + b) + (if x = iN 0 then -1 else 1) ∧ S (4 + b) + (if x = iN 0 then -1 else 1) ≤ V 0 1) {n : Nat} (hn : 310 ≤ n) :
    ∃ I', fX7_makeStroke_J46 n (iN b) (iN s) x (iN k) I r = some (iN (aSk V S b s (if x = iN 0 then -1 else 1) k), I') ∧ ex [32, r + 3, r + 4] I I' ∧ clsS V (sSk V S b s (if x = iN 0 then -1 else 1) k) I' := by
  have hu := h.1.1
  have hsb := h.2.1.1 b hb1 hb2
  obtain ⟨I1, g1, g2⟩ := cl_next h hb1 hb2 (n := n) (by omega)
  have C1 : cOK V S r I1 := cOK_ex h g2 (by rcases hr0 with rfl | rfl <;> decide)
  have nl := nht_lo (V := V) (b := b) (B := burd V S b) (c := S b) (r := S (4 + b)) (m := S (16 + b)) (h := S (8 + b)) (by omega)
  have wl := warm_lo (V := V) (row := S (4 + b)) (col := S b) (load := burd V S b) (wide := V 3 b) (made := S (16 + b)) (hot := S (8 + b))
  have wh := warm_hi (V := V) (row := S (4 + b)) (col := S b) (load := burd V S b) (wide := V 3 b) (made := S (16 + b)) (hot := S (8 + b))
  have hh : fJ9_min (iN 99) (iN (S (8 + b)) + iN (warm V (S (4 + b)) (S b) (burd V S b) (V 3 b) (S (16 + b)) (S (8 + b)))) = iN (nht V b (burd V S b) (S b) (S (4 + b)) (S (8 + b)) (S (16 + b))) := by
    rw [iN_add, cl_min _ _ (by omega) (by omega)]
    unfold nht
    by_cases e : 99 < S (8 + b) + warm V (S (4 + b)) (S b) (burd V S b) (V 3 b) (S (16 + b)) (S (8 + b))
    · rw [if_pos e, if_neg (by omega)]
    · rw [if_neg e]
      by_cases e' : S (8 + b) + warm V (S (4 + b)) (S b) (burd V S b) (V 3 b) (S (16 + b)) (S (8 + b)) < 99
      · rw [if_pos e']
      · rw [if_neg e']; congr 1; omega
  have v5 := h.1.2.2.2.1 b hb1 hb2
  have J102 : ∀ on : Int, 0 ≤ S (4 + b) + on → S (4 + b) + on ≤ V 0 1 → ∃ I', fX7_makeStroke_J102 (iN b) (iN (nht V b (burd V S b) (S b) (S (4 + b)) (S (8 + b)) (S (16 + b)))) (iN (lead V (S b) (S (4 + b)) s k)) (iN on) (iN (S (4 + b))) I1 r = some (iN (aSk V S b s on k), I') ∧ ex [32, r + 3, r + 4] I I' ∧ clsS V (sSk V S b s on k) I' := by
    intro on o1 o2
    have l1 := lead_lo h.1 (c := S b) (r := S (4 + b)) (s := s) (k := k)
    have l2 := lead_hi h.1 (c := S b) (r := S (4 + b)) (s := s) (k := k)
    rw [fX7_makeStroke_J102, cl_bears C1 hb1 hb2, iN_add, cl_iron h.1 C1.2.2.1 l1 l2 o1 o2]
    simp only [iN_lit]
    obtain ⟨I', f1, f2, f3⟩ := cl_stk136 h.1 h.2.1 C1.2.2.2 (b := b) (y5 := nht V b (burd V S b) (S b) (S (4 + b)) (S (8 + b)) (S (16 + b))) (c' := lead V (S b) (S (4 + b)) s k) (r' := S (4 + b) + on) (p := V 2 (8 * (S (4 + b) + on) + lead V (S b) (S (4 + b)) s k) = 1) (q := V 5 b < nht V b (burd V S b) (S b) (S (4 + b)) (S (8 + b)) (S (16 + b))) hb1 hb2
    refine ⟨I', ?_, ex_trans (ex_mono g2 (by intro a ha; simp only [List.mem_cons, List.not_mem_nil, or_false] at ha ⊢; omega)) (ex_mono f2 (by intro a ha; simp only [List.mem_cons, List.not_mem_nil, or_false] at ha ⊢; omega)), f3⟩
    unfold aSk
    rw [← f1]
    by_cases hq : V 5 b < nht V b (burd V S b) (S b) (S (4 + b)) (S (8 + b)) (S (16 + b))
    · rw [ite_p (by rw [iN_lt (by omega) (by omega) (by omega) (by omega)]; exact hq), if_pos hq]
    · rw [ite_n (by rw [iN_lt (by omega) (by omega) (by omega) (by omega)]; exact hq), if_neg hq]
  rw [fX7_makeStroke_J46, g1, Option.bind_some]
  dsimp only
  simp only [iN_lit, iN_neg]
  rw [cl_heat h.1 h.2.2.2 hb1 hb2, hh, cl_col h.1 C1.2.2.2 hb1 hb2, cl_row h.1 C1.2.2.2 hb1 hb2, cl_lead h.1 C1.2.2.1 hsb.1 hsb.2.1 hsb.2.2.1 hsb.2.2.2.1 hs hk]
  by_cases hx : x = iN 0
  · simp only [if_pos hx] at hro ⊢
    exact J102 (-1) hro.1 hro.2
  · simp only [if_neg hx] at hro ⊢
    exact J102 1 hro.1 hro.2
theorem cl_Stroke (hr0 : r = 3 ∨ r = 19) (h : cOK V S r I) {Ls : Nat → Int → Int} {a u : Nat} (hU : cU V Ls a u I) {hb : Int → Bool} {Bs : Int → Int → Int} (hB : cB V hb Bs I) {b s : Int} {x : Int32} (hb' : -2147483648 ≤ b ∧ b < 2147483648) (hs : -2147483648 ≤ s ∧ s < 2147483648) {n : Nat} (hn : 1200 ≤ n) :
    (kSt V S b s x → ∃ I', fX11_stroke n (iN b) (iN s) x I r = some (iN (aSk V (sOne S) b s (if x = iN 0 then -1 else 1) (kOf V (sOne S))), I') ∧ ex [32, 33, 34, r + 3, r + 4] I I' ∧ clsS V (sSk V (sOne S) b s (if x = iN 0 then -1 else 1) (kOf V (sOne S))) I' ∧ cU V (Lact Ls a S) (aact a) 0 I' ∧ cB V hb Bs I') ∧
    (¬ kSt V S b s x → fX11_stroke n (iN b) (iN s) x I r = some (iN (-1), I)) := by
  have hu := h.1.1
  have h27 := h.2.1.2.2
  rw [fX11_stroke, cl_board h hb']
  simp only [iN_lit, iN_neg]
  have st : fX11_isSteer (iN s) = if -1 ≤ s ∧ s ≤ 1 then iN 1 else iN 0 := by
    rw [fX11_isSteer]
    simp (disch := omega) only [iN_lit, iN_neg, iN_lt]
    by_cases s0 : s < -1
    · rw [if_pos s0, if_neg (by omega)]
    · rw [if_neg s0]
      by_cases s1 : 1 < s
      · rw [if_pos s1, if_neg (by omega)]
      · rw [if_neg s1, if_pos (by omega)]
  rw [st]
  unfold kSt
  by_cases hh : 0 ≤ b ∧ b < V 0 2
  · rw [if_pos hh, ite_n n10]
    have hsb := h.2.1.1 b hh.1 hh.2
    by_cases h2 : -1 ≤ s ∧ s ≤ 1
    · rw [if_pos h2, ite_n n10]
      have cs : fX7_canStroke (iN b) x I r = if (x = iN 0 → 0 < S (4 + b)) ∧ (¬ x = iN 0 → S (4 + b) < V 0 1) then iN 1 else iN 0 := by
        rw [fX7_canStroke, cl_row h.1 h.2.2.2 hh.1 hh.2, h.2.2.1.1.2.1]
        simp (disch := omega) only [iN_lit, iN_lt]
        by_cases hx : x = iN 0
        · rw [if_pos hx]
          by_cases e : 0 < S (4 + b)
          · rw [if_pos e, if_pos ⟨fun _ => e, fun q => absurd hx q⟩]
          · rw [if_neg e, if_neg (fun q => e (q.1 hx))]
        · rw [if_neg hx]
          by_cases e : S (4 + b) < V 0 1
          · rw [if_pos e, if_pos ⟨fun q => absurd q hx, fun _ => e⟩]
          · rw [if_neg e, if_neg (fun q => e (q.2 hx))]
      rw [cs]
      by_cases h3 : (x = iN 0 → 0 < S (4 + b)) ∧ (¬ x = iN 0 → S (4 + b) < V 0 1)
      · rw [if_pos h3, ite_n n10]
        refine ⟨fun _ => ?_, fun q => absurd ⟨hh, h2, h3⟩ q⟩
        obtain ⟨I1, g1, g2, g3, g4⟩ := cl_act hU h.2.2.2 hB (n := n) (by omega)
        have C1 : cOK V S r I1 := cOK_ex h g2 (by rcases hr0 with rfl | rfl <;> decide)
        have sd := cl_seed C1.2.2.2
        have e27 : iN (S 27) * iN 137 + iN 71 - (iN (S 27) * iN 137 + iN 71) / iN 1000 * iN 1000 = iN ((S 27 * 137 + 71) % 1000) := by rw [iN_mul, iN_add, iN_rem (by omega) (by omega) (by omega) (by omega)]
        obtain ⟨s1, x1⟩ := cl_setS C1.2.2.2 h.1 ((S 27 * 137 + 71) % 1000)
        have C2 : cOK V (sOne S) r (mf_put I1 32 28 (iN 27) (iN ((S 27 * 137 + 71) % 1000))) := ⟨h.1, wfS_one h.1 h.2.1, clsV_of C1.2.2.1 x1 (by rcases hr0 with rfl | rfl <;> decide), s1⟩
        have sd2 := cl_seed C2.2.2.2
        have hro : 0 ≤ sOne S (4 + b) + (if x = iN 0 then -1 else 1) ∧ sOne S (4 + b) + (if x = iN 0 then -1 else 1) ≤ V 0 1 := by
          rw [sOne_lo (by omega)]
          by_cases hx : x = iN 0
          · have := h3.1 hx; rw [if_pos hx]; omega
          · have := h3.2 hx; rw [if_neg hx]; omega
        have q27 := C2.2.1.2.2
        rw [g1, Option.bind_some, fX7_makeStroke]
        simp only [iN_lit]
        rw [sd, e27, sd2, C2.2.2.1.1.2.2.2.2.1, iN_rem (by omega) (by omega) (by omega) (by omega)]
        have key : ∀ k : Int, 1 ≤ k ∧ k ≤ 2 → ∃ I', ((fX7_makeStroke_J46 n (iN b) (iN s) x (iN k) (mf_put I1 32 28 (iN 27) (iN ((S 27 * 137 + 71) % 1000))) r).bind fun o2310 => some (o2310.1, o2310.2)) = some (iN (aSk V (sOne S) b s (if x = iN 0 then -1 else 1) k), I') ∧ ex [32, 33, 34, r + 3, r + 4] I I' ∧ clsS V (sSk V (sOne S) b s (if x = iN 0 then -1 else 1) k) I' ∧ cU V (Lact Ls a S) (aact a) 0 I' ∧ cB V hb Bs I' := by
          intro k hk
          obtain ⟨I2, f1, f2, f3⟩ := cl_stk46 hr0 C2 (x := x) hh.1 hh.2 h2 hk hro (n := n) (by omega)
          rw [f1, Option.bind_some]
          have x2 : ex [32, r + 3, r + 4] I1 I2 := ex_trans (ex_mono x1 (by intro a ha; simp only [List.mem_cons, List.not_mem_nil, or_false] at ha ⊢; omega)) f2
          have e33 : I2 33 = I1 33 := x2 33 (by rcases hr0 with rfl | rfl <;> decide)
          have e34 : I2 34 = I1 34 := x2 34 (by rcases hr0 with rfl | rfl <;> decide)
          refine ⟨I2, rfl, ex_trans (ex_mono g2 (by intro a ha; simp only [List.mem_cons, List.not_mem_nil, or_false] at ha ⊢; omega)) (ex_mono x2 (by intro a ha; simp only [List.mem_cons, List.not_mem_nil, or_false] at ha ⊢; omega)), f3, cU_of g3 e33 e34, cB_of g4 (by rw [e33]) (fun z _ => by rw [e34])⟩
        unfold kOf
        by_cases hk : sOne S 27 % 100 < V 0 4
        · rw [ite_p (by rw [iN_lt (by omega) (by omega) (by omega) (by omega)]; exact hk), if_pos hk]
          exact key 2 (by omega)
        · rw [ite_n (by rw [iN_lt (by omega) (by omega) (by omega) (by omega)]; exact hk), if_neg hk]
          exact key 1 (by omega)
      · rw [if_neg h3, ite_p rfl]
        exact ⟨fun q => absurd q.2.2 h3, fun _ => rfl⟩
    · rw [if_neg h2, ite_p rfl]
      exact ⟨fun q => absurd q.2.1 h2, fun _ => rfl⟩
  · rw [if_neg hh, ite_p rfl]
    exact ⟨fun q => absurd q.1 hh, fun _ => rfl⟩
end CST
