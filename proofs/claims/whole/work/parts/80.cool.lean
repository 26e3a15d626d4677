/-! The coolest row of strokes, in both. -/
def fC (V : (Nat → Int → Int)) (S : Int → Int) (b : Int) (t : List Int) : Option Int := match rn V S b t with
  | none => none
  | some (_, h, q) => some (100 * (q - S (12 + b)) + h)
def cC (V : (Nat → Int → Int)) (S : Int → Int) (b : Int) (t : List Int) : Int := match rn V S b t with
  | none => -1
  | some (c, _, _) => c
theorem fC_in {V : (Nat → Int → Int)} {S : Int → Int} {b v : Int} {t : List Int} (hw : wfV V) (hS : wfS V 600 S) (hb1 : 0 ≤ b) (hb2 : b < V 0 2) (h : fC V S b t = some v) : 0 ≤ v ∧ v ≤ 100 * t.length + 99 ∧ 0 ≤ cC V S b t ∧ cC V S b t < V 0 0 := by
  have hs := hS.1 b hb1 hb2
  unfold fC at h
  unfold cC
  cases e : rn V S b t with
  | none => rw [e] at h; cases h
  | some p =>
    obtain ⟨c, h', q⟩ := p
    rw [e] at h
    have := run_in hw t (by omega) (by omega) (by omega) (by omega) e
    injection h with h
    show _ ∧ _ ∧ 0 ≤ c ∧ c < V 0 0
    omega
/-- the class's best so far is x -/
def stC (V : (Nat → Int → Int)) (S : Int → Int) (b : Int) (x : Option (Int × List Int)) (I : (Nat → Nat → Int32)) : Prop := match x with
  | none => I 42 4 = iN 0
  | some (v, t) => (0 ≤ v ∧ v < 10000) ∧ I 42 4 = iN 1 ∧ I 42 6 = iN (v / 100) ∧ I 42 7 = iN (v % 100) ∧ I 42 8 = iN (cC V S b t) ∧ ∀ z : Nat, z < lft V S b → I 44 z = iN (t.getD z 0 - 1)
theorem stC_of {V : (Nat → Int → Int)} {S : Int → Int} {b : Int} {x : Option (Int × List Int)} {I I' : (Nat → Nat → Int32)} (h : stC V S b x I) (e1 : I' 42 = I 42) (e2 : I' 44 = I 44) : stC V S b x I' := by
  rcases x with _ | ⟨v, t⟩
  · unfold stC at *; rw [e1]; exact h
  · unfold stC at *; rw [e1, e2]; exact h
theorem cl_copy {I : (Nat → Nat → Int32)} {n : Nat} (hn : 8 ≤ n) : ∃ I', fX8_noteIfCooler_L55 n (iN 0) I = some I' ∧ ex [44] I I' ∧ ∀ z : Nat, z < 6 → I' 44 z = I 43 z := by
  obtain ⟨n', I', h1, h2, h3, h4⟩ := loop (fun n k I => fX8_noteIfCooler_L55 n (iN k) I) 1 (P := 6) (fun k I1 => ex [44] I I1 ∧ ∀ z : Nat, z < k → I1 44 z = I 43 z)
    (by
      intro n k I1 hn h0 h1 ⟨hx, hz⟩
      refine ⟨mm_up I1 44 k.toNat (I1 43 k.toNat), ?_, ex_trans hx (ex_up (by decide)), ?_⟩
      · show fX8_noteIfCooler_L55 (n + 1) _ _ = _
        rw [fX8_noteIfCooler_L55]
        simp (disch := omega) only [iN_lit, iN_add, iN_sub, iN_mul, iN_neg, iN_lt, iN_eq, iN_tn, if_true, if_false, if_pos, if_neg, iN_put, iN_pick]
      · intro z z1
        rw [up_c]
        by_cases e : z = k.toNat
        · subst e; rw [if_pos rfl, hx 43 (by decide)]
        · rw [if_neg (by omega)]; exact hz z (by omega)) 6 n 0 I (by omega) (by omega) ⟨ex_refl, by intro z h; omega⟩ (by omega)
  refine ⟨I', ?_, h3, fun z hz => h4 z (by omega)⟩
  have h2' : fX8_noteIfCooler_L55 n (iN 0) I = fX8_noteIfCooler_L55 n' (iN 6) I' := h2
  rw [h2']
  obtain ⟨n', rfl⟩ : ∃ m, n' = m + 1 := ⟨n' - 1, by omega⟩
  rw [fX8_noteIfCooler_L55]
  simp (disch := omega) only [iN_lit, iN_add, iN_sub, iN_mul, iN_neg, iN_lt, iN_eq, iN_tn, if_true, if_false, if_pos, if_neg]
section CLE
variable {V : (Nat → Int → Int)} {S : Int → Int} {r : Nat} {b : Int}
theorem cl_note {I : (Nat → Nat → Int32)} (h : cOK V S r I) (hb1 : 0 ≤ b) (hb2 : b < V 0 2) {p : List Int} (hp : p.length = lft V S b) {x : Option (Int × List Int)} (hx : stC V S b x I) {c h' q : Int} (hc : 0 ≤ c ∧ c < V 0 0) (hh : 0 ≤ h' ∧ h' ≤ 99) (hq : 0 ≤ q ∧ q ≤ 6) (h43 : ∀ z : Nat, z < p.length → I 43 z = iN (p.getD z 0 - 1)) (hf : rn V S b p = some (c, h', S (12 + b) + q)) {n : Nat} (hn : 8 ≤ n) :
    ∃ I', fX8_noteIfCooler n (iN c) (iN h') (iN q) I = some I' ∧ ex [42, 44] I I' ∧ I' 42 2 = I 42 2 ∧ I' 42 3 = I 42 3 ∧ stC V S b (fm (fC V S b) x p) I' := by
  have hv : fC V S b p = some (100 * q + h') := by unfold fC; rw [hf]; show some _ = some _; congr 1; omega
  have hcc : cC V S b p = c := by unfold cC; rw [hf]
  obtain ⟨l6, _⟩ := lft_le h.1 h.2.1 hb1 hb2
  have hit : ∃ I', (fX8_noteIfCooler_L55 n (iN 0) (mm_up (mm_up (mm_up (mm_up I 42 4 (iN 1)) 42 6 (iN q)) 42 7 (iN h')) 42 8 (iN c))).bind (fun o => some o) = some I' ∧ ex [42, 44] I I' ∧ I' 42 2 = I 42 2 ∧ I' 42 3 = I 42 3 ∧ stC V S b (some (100 * q + h', p)) I' := by
    obtain ⟨I', g1, g2, g3⟩ := cl_copy (I := mm_up (mm_up (mm_up (mm_up I 42 4 (iN 1)) 42 6 (iN q)) 42 7 (iN h')) 42 8 (iN c)) hn
    have e42 := g2 42 (by decide)
    refine ⟨I', by rw [g1]; rfl, ex_trans (ex_trans (ex_trans (ex_trans (ex_up (by decide)) (ex_up (by decide))) (ex_up (by decide))) (ex_up (by decide))) (ex_mono g2 (by decide)), by rw [e42]; simp [mm_up], by rw [e42]; simp [mm_up], ?_⟩
    unfold stC
    refine ⟨by omega, by rw [e42]; simp [mm_up], ?_, ?_, ?_, ?_⟩
    · rw [e42, show (100 * q + h') / 100 = q by omega]; simp [mm_up]
    · rw [e42, show (100 * q + h') % 100 = h' by omega]; simp [mm_up]
    · rw [e42, hcc]; simp [mm_up]
    · intro z hz
      rw [g3 z (by omega), up_a (by decide), up_a (by decide), up_a (by decide), up_a (by decide)]
      exact h43 z (by omega)
  rw [fX8_noteIfCooler]
  rcases x with _ | ⟨v, t⟩
  · have hx' : I 42 4 = iN 0 := hx
    simp only [iN_lit, hx', if_true]
    have : fm (fC V S b) none p = some (100 * q + h', p) := by rw [fm, hv]
    rw [this]
    exact hit
  · obtain ⟨hv0, x1, x2, x3, x4, x5⟩ := hx
    simp (disch := omega) only [iN_lit, x1, x2, x3, iN_lt, iN_eq]
    rw [if_neg (by omega)]
    have fe : fm (fC V S b) (some (v, t)) p = if 100 * q + h' < v then some (100 * q + h', p) else some (v, t) := by rw [fm, hv]
    rw [fe]
    have stay : ∃ I', some I = some I' ∧ ex [42, 44] I I' ∧ I' 42 2 = I 42 2 ∧ I' 42 3 = I 42 3 ∧ stC V S b (some (v, t)) I' := ⟨I, rfl, ex_refl, rfl, rfl, hv0, x1, x2, x3, x4, x5⟩
    by_cases c1 : v / 100 < q
    · rw [if_pos c1, if_neg (by omega)]; exact stay
    · rw [if_neg c1]
      by_cases c2 : q = v / 100
      · rw [if_pos c2]
        by_cases c3 : h' < v % 100
        · rw [if_pos c3, if_pos (by omega)]; exact hit
        · rw [if_neg c3, if_neg (by omega)]; exact stay
      · rw [if_neg c2, if_pos (by omega)]; exact hit
theorem cl_goOn (hr0 : r = 3 ∨ r = 19) (hb1 : 0 ≤ b) (hb2 : b < V 0 2) {n : Nat} (hn : 310 ≤ n) (k : Nat) : ∀ (d : Nat) (p : List Int) (c h' q : Int) (x : Option (Int × List Int)) (I : (Nat → Nat → Int32)), cOK V S r I → p.length + k = lft V S b → k < d → I 42 2 = iN b → I 42 3 = iN (burd V S b) → stC V S b x I → (0 ≤ c ∧ c < V 0 0) → (0 ≤ h' ∧ h' ≤ 99) → (0 ≤ q ∧ q ≤ p.length) → (∀ z : Nat, z < p.length → I 43 z = iN (p.getD z 0 - 1)) → (∀ s, rn V S b (p ++ s) = run V b (burd V S b) s c (S (4 + b) + p.length) h' (S (12 + b) + q) (S (16 + b) + p.length)) →
    ∃ I', fX8_goOn n d (iN p.length) (iN c) (iN h') (iN q) I r = some I' ∧ ex [42, 43, 44, r + 3, r + 4] I I' ∧ I' 42 2 = iN b ∧ I' 42 3 = iN (burd V S b) ∧ stC V S b (fmin (fC V S b) x ((lex 3 k).map (fun s => p ++ s))) I' ∧ ∀ z : Nat, z < p.length → I' 43 z = I 43 z := by
  induction k with
  | zero =>
    intro d p c h' q x I h hp hd h2 h3 hx hc hh hq h43 hf
    have hu := h.1.1
    have hs := h.2.1.1 b hb1 hb2
    obtain ⟨l6, l7⟩ := lft_le h.1 h.2.1 hb1 hb2
    obtain ⟨d, rfl⟩ : ∃ m, d = m + 1 := ⟨d - 1, by omega⟩
    have hf0 := hf []
    rw [List.append_nil, run] at hf0
    obtain ⟨I', g1, g2, g3, g4, g5⟩ := cl_note h hb1 hb2 (by omega) hx hc hh (by omega) h43 hf0 (n := n) (by omega)
    have e0 : (lex 3 0).map (fun s => p ++ s) = [p] := by rw [lex, List.map_singleton, List.append_nil]
    rw [e0]
    show ∃ I', fX8_goOn_B n _ _ _ _ _ I r = some I' ∧ _
    rw [fX8_goOn_B, h2, fX7_strokesLeft, cl_row h.1 h.2.2.2 hb1 hb2, h.2.2.1.1.2.1]
    rcases x with _ | ⟨v, t⟩
    · have hx' : I 42 4 = iN 0 := hx
      simp (disch := omega) only [iN_lit, hx', if_true, iN_sub, iN_lt]
      rw [if_neg (by omega), g1]
      exact ⟨I', rfl, ex_mono g2 (by intro a ha; simp at ha ⊢; omega), by rw [g3, h2], by rw [g4, h3], g5, fun z hz => by rw [g2 43 (by decide)]⟩
    · have hx0 := hx
      obtain ⟨hv0, x1, x2, x3, x4, x5⟩ := hx
      simp (disch := omega) only [iN_lit, x1, x2, iN_eq, iN_sub, iN_lt]
      rw [if_neg (by omega)]
      by_cases c1 : v / 100 < q
      · rw [if_pos c1]
        have hv : fC V S b p = some (100 * q + h') := by unfold fC; rw [hf0]; show some _ = some _; congr 1; omega
        have : fmin (fC V S b) (some (v, t)) [p] = some (v, t) := fmin_keep _ _ _ _ (by
          intro t' ht v' hv'
          rw [List.mem_singleton] at ht
          subst ht
          rw [hv] at hv'
          injection hv' with hv'
          omega)
        rw [this]
        exact ⟨I, rfl, ex_refl, h2, h3, hx0, fun _ _ => rfl⟩
      · rw [if_neg c1, if_neg (by omega), g1]
        exact ⟨I', rfl, ex_mono g2 (by intro a ha; simp at ha ⊢; omega), by rw [g3, h2], by rw [g4, h3], g5, fun z hz => by rw [g2 43 (by decide)]⟩
  | succ k ih =>
    intro d p c h' q x I h hp hd h2 h3 hx hc hh hq h43 hf
    have hu := h.1.1
    have hs := h.2.1.1 b hb1 hb2
    obtain ⟨l6, l7⟩ := lft_le h.1 h.2.1 hb1 hb2
    obtain ⟨d, rfl⟩ : ∃ m, d = m + 1 := ⟨d - 1, by omega⟩
    have hbe := h.1.2.2.2.1 b hb1 hb2
    have hB := bur_lo h.1 (S := S) (b := b) (V 0 3).toNat (by omega)
    have hnn := nht_lo (V := V) (b := b) (B := burd V S b) (c := c) (r := S (4 + b) + p.length) (m := S (16 + b) + p.length) hh.1
    -- the three steers
    have body : (∀ v t, x = some (v, t) → ¬ v / 100 < q) → ∃ I', (fX5_warmth n (iN b) (iN (S (4 + b)) + iN p.length) (iN c) (I 42 3) (iN (S (16 + b)) + iN p.length) (iN h') r I).bind (fun o => if (fX5_bearsOf (o.2 42 2) r o.2) < (fJ9_min 99 (iN h' + o.1)) then (fX8_goOn_L132 n (fX8_goOn n d) (iN p.length) (iN c) (iN q) (iN (S (4 + b)) + iN p.length) (fJ9_min 99 (iN h' + o.1)) 1 (-1) o.2 r).bind (fun o => some o) else (fX8_goOn_L132 n (fX8_goOn n d) (iN p.length) (iN c) (iN q) (iN (S (4 + b)) + iN p.length) (fJ9_min 99 (iN h' + o.1)) 0 (-1) o.2 r).bind (fun o => some o)) = some I' ∧ ex [42, 43, 44, r + 3, r + 4] I I' ∧ I' 42 2 = iN b ∧ I' 42 3 = iN (burd V S b) ∧ stC V S b (fmin (fC V S b) x ((lex 3 (k + 1)).map (fun s => p ++ s))) I' ∧ ∀ z : Nat, z < p.length → I' 43 z = I 43 z := by
      intro _
      obtain ⟨I1, w1, w2⟩ := cl_warm h.1 h.2.2.1 (b := b) (row := S (4 + b) + p.length) (col := c) (load := burd V S b) (made := S (16 + b) + p.length) (hot := h') hb1 hb2 (n := n) (by omega)
      have hwl := warm_lo (V := V) (row := S (4 + b) + p.length) (col := c) (load := burd V S b) (wide := V 3 b) (made := S (16 + b) + p.length) (hot := h')
      have hwh := warm_hi (V := V) (row := S (4 + b) + p.length) (col := c) (load := burd V S b) (wide := V 3 b) (made := S (16 + b) + p.length) (hot := h')
      have hc1 : cOK V S r I1 := cOK_ex h w2 (by rcases hr0 with rfl | rfl <;> decide)
      have e42 : I1 42 = I 42 := w2 42 (by rcases hr0 with rfl | rfl <;> decide)
      have e43 : I1 43 = I 43 := w2 43 (by rcases hr0 with rfl | rfl <;> decide)
      have e44 : I1 44 = I 44 := w2 44 (by rcases hr0 with rfl | rfl <;> decide)
      have hmin : fJ9_min (iN 99) (iN (h' + warm V (S (4 + b) + p.length) c (burd V S b) (V 3 b) (S (16 + b) + p.length) h')) = iN (nht V b (burd V S b) c (S (4 + b) + p.length) h' (S (16 + b) + p.length)) := by
        rw [cl_min _ _ (by omega) (by omega)]
        congr 1
        unfold nht
        split <;> split <;> omega
      have hbear : fX5_bearsOf (iN b) r I1 = iN (V 5 b) := by
        rw [fX5_bearsOf]
        have := hc1.2.2.1.2.2.2.2.2.1
        simp (disch := omega) only [iN_pick, this]
      rw [h3]
      simp only [iN_add]
      rw [w1, Option.bind_some]
      simp only [iN_lit, iN_neg, iN_add, e42, h2, hmin, hbear]
      -- one steer
      have step : ∀ (g : Int) (m : Nat) (s : Int) (x : Option (Int × List Int)) (I1 : (Nat → Nat → Int32)), (g = 0 ∨ g = 1) → (g = 1 ↔ V 5 b < nht V b (burd V S b) c (S (4 + b) + p.length) h' (S (16 + b) + p.length)) → -1 ≤ s → s ≤ 1 → cOK V S r I1 → I1 42 2 = iN b → I1 42 3 = iN (burd V S b) → stC V S b x I1 → (∀ z : Nat, z < p.length → I1 43 z = iN (p.getD z 0 - 1)) →
          ∃ I', fX8_goOn_L132 (m + 1) (fX8_goOn n d) (iN p.length) (iN c) (iN q) (iN (S (4 + b) + p.length)) (iN (nht V b (burd V S b) c (S (4 + b) + p.length) h' (S (16 + b) + p.length))) (iN g) (iN s) I1 r = fX8_goOn_L132 m (fX8_goOn n d) (iN p.length) (iN c) (iN q) (iN (S (4 + b) + p.length)) (iN (nht V b (burd V S b) c (S (4 + b) + p.length) h' (S (16 + b) + p.length))) (iN g) (iN (s + 1)) I' r ∧ ex [42, 43, 44, r + 3, r + 4] I1 I' ∧ cOK V S r I' ∧ I' 42 2 = iN b ∧ I' 42 3 = iN (burd V S b) ∧ stC V S b (fmin (fC V S b) x ((lex 3 k).map (fun t => p ++ (s + 1) :: t))) I' ∧ ∀ z : Nat, z < p.length → I' 43 z = I1 43 z := by
        intro g m s x I1 hg hg2 hs1 hs2 hc1 h2 h3 hx h43
        have hl1 := lead_lo h.1 (c := c) (r := S (4 + b) + p.length) (s := s) (k := 1)
        have hl2 := lead_hi h.1 (c := c) (r := S (4 + b) + p.length) (s := s) (k := 1)
        rw [fX8_goOn_L132]
        simp only [iN_lit, iN_add]
        rw [cl_lead h.1 hc1.2.2.1 hc.1 hc.2 (by omega) (by omega) ⟨hs1, hs2⟩ (by omega), cl_hiss h.1 hc1.2.2.1 hc.1 hc.2 (by omega) (by omega) ⟨hs1, hs2⟩ (by omega)]
        simp (disch := omega) only [iN_lt, if_neg]
        by_cases hi : V 2 (8 * (S (4 + b) + p.length + 1) + lead V c (S (4 + b) + p.length) s 1) = 1
        · rw [if_pos hi, ite_n n10]
          refine ⟨I1, rfl, ex_refl, hc1, h2, h3, ?_, fun _ _ => rfl⟩
          rw [fmin_none]
          · exact hx
          · intro t ht
            rw [List.mem_map] at ht
            obtain ⟨t', _, rfl⟩ := ht
            unfold fC
            rw [hf, run, show s + 1 - 1 = s by omega, if_pos hi]
        · rw [if_neg hi, ite_p rfl]
          have key : ∀ (h2' q2 : Int), (0 ≤ h2' ∧ h2' ≤ 99) → (0 ≤ q2 ∧ q2 ≤ p.length + 1) → h2' = (if V 5 b < nht V b (burd V S b) c (S (4 + b) + p.length) h' (S (16 + b) + p.length) then 0 else nht V b (burd V S b) c (S (4 + b) + p.length) h' (S (16 + b) + p.length)) → S (12 + b) + q2 = (if V 5 b < nht V b (burd V S b) c (S (4 + b) + p.length) h' (S (16 + b) + p.length) then S (12 + b) + q + 1 else S (12 + b) + q) →
              ∃ I', fX8_goOn n d (iN (p.length + 1)) (iN (lead V c (S (4 + b) + p.length) s 1)) (iN h2') (iN q2) (mm_up I1 43 p.length (iN s)) r = some I' ∧ ex [42, 43, 44, r + 3, r + 4] I1 I' ∧ cOK V S r I' ∧ I' 42 2 = iN b ∧ I' 42 3 = iN (burd V S b) ∧ stC V S b (fmin (fC V S b) x ((lex 3 k).map (fun t => p ++ (s + 1) :: t))) I' ∧ ∀ z : Nat, z < p.length → I' 43 z = I1 43 z := by
            intro h2' q2 hh2 hq2 eh eq
            have pl : (p ++ [s + 1]).length = p.length + 1 := by simp
            have hup : ex [42, 43, 44, r + 3, r + 4] I1 (mm_up I1 43 p.length (iN s)) := ex_up (by simp)
            obtain ⟨I', g1, g2, g3, g4, g5, g6⟩ := ih d (p ++ [s + 1]) (lead V c (S (4 + b) + p.length) s 1) h2' q2 x (mm_up I1 43 p.length (iN s)) (cOK_ex hc1 (ex_up (l := [43]) (by decide)) (by rcases hr0 with rfl | rfl <;> decide)) (by omega) (by omega) (by rw [up_a (by decide)]; exact h2) (by rw [up_a (by decide)]; exact h3) (stC_of hx (up_a (by decide)) (up_a (by decide))) ⟨hl1, hl2⟩ hh2 (by omega) (by
              intro z hz
              rw [pl] at hz
              by_cases e : z = p.length
              · subst e; rw [up_eq, gd_r rfl, Int.add_sub_cancel]
              · rw [up_k e, gd_l (by omega)]; exact h43 z (by omega)) (by
              intro t
              rw [List.append_assoc, hf, pl]
              show run V b _ ((s + 1) :: t) _ _ _ _ _ = _
              rw [run, show s + 1 - 1 = s by omega, if_neg hi, ← eh, ← eq]
              congr 1 <;> omega)
            rw [pl] at g1 g6
            refine ⟨I', by rw [show ((p.length : Int) + 1) = ((p.length + 1 : Nat) : Int) by omega]; exact g1, ex_trans hup g2, cOK_ex hc1 (ex_trans hup g2) (by rcases hr0 with rfl | rfl <;> simp <;> omega), g3, g4, ?_, ?_⟩
            · have : (fun s_1 => p ++ [s + 1] ++ s_1) = (fun t => p ++ (s + 1) :: t) := by funext t; rw [List.append_assoc]; rfl
              rw [this] at g5
              exact g5
            · intro z hz
              rw [g6 z (by omega), up_k (by omega)]
          have pz : mf_put I1 43 6 (iN p.length) (iN s) = mm_up I1 43 p.length (iN s) := by
            rw [iN_put (by omega) (by omega) (by omega), Int.toNat_natCast]
          rw [pz]
          rcases hg with rfl | rfl
          · have hns : ¬ V 5 b < nht V b (burd V S b) c (S (4 + b) + p.length) h' (S (16 + b) + p.length) := fun hh => absurd (hg2.mpr hh) (by omega)
            obtain ⟨I', g1, g2⟩ := key (nht V b (burd V S b) c (S (4 + b) + p.length) h' (S (16 + b) + p.length)) q hnn (by omega) (by rw [if_neg hns]) (by rw [if_neg hns])
            refine ⟨I', ?_, g2⟩
            rw [ite_p rfl, ite_p rfl, g1, Option.bind_some]
          · have hns : V 5 b < nht V b (burd V S b) c (S (4 + b) + p.length) h' (S (16 + b) + p.length) := hg2.mp rfl
            obtain ⟨I', g1, g2⟩ := key 0 (q + 1) (by omega) (by omega) (by rw [if_pos hns]) (by rw [if_pos hns]; omega)
            refine ⟨I', ?_, g2⟩
            rw [ite_n n10, g1, Option.bind_some]
      have all : ∀ g : Int, (g = 0 ∨ g = 1) → (g = 1 ↔ V 5 b < nht V b (burd V S b) c (S (4 + b) + p.length) h' (S (16 + b) + p.length)) → ∃ I', (fX8_goOn_L132 n (fX8_goOn n d) (iN p.length) (iN c) (iN q) (iN (S (4 + b) + p.length)) (iN (nht V b (burd V S b) c (S (4 + b) + p.length) h' (S (16 + b) + p.length))) (iN g) (iN (-1)) I1 r).bind (fun o => some o) = some I' ∧ ex [42, 43, 44, r + 3, r + 4] I I' ∧ I' 42 2 = iN b ∧ I' 42 3 = iN (burd V S b) ∧ stC V S b (fmin (fC V S b) x ((lex 3 (k + 1)).map (fun s => p ++ s))) I' ∧ ∀ z : Nat, z < p.length → I' 43 z = I 43 z := by
        intro g hg hg2
        obtain ⟨n, rfl⟩ : ∃ m, n = m + 4 := ⟨n - 4, by omega⟩
        obtain ⟨J1, a1, a2, a3, a4, a5, a6, a7⟩ := step g (n + 3) (-1) x I1 hg hg2 (by omega) (by omega) hc1 (by rw [e42]; exact h2) (by rw [e42]; exact h3) (stC_of hx e42 e44) (by rw [e43]; exact h43)
        obtain ⟨J2, b1, b2, b3, b4, b5, b6, b7⟩ := step g (n + 2) 0 _ J1 hg hg2 (by omega) (by omega) a3 a4 a5 a6 (by intro z hz; rw [a7 z hz, e43]; exact h43 z hz)
        obtain ⟨J3, d1, d2, d3, d4, d5, d6, d7⟩ := step g (n + 1) 1 _ J2 hg hg2 (by omega) (by omega) b3 b4 b5 b6 (by intro z hz; rw [b7 z hz, a7 z hz, e43]; exact h43 z hz)
        refine ⟨J3, ?_, ?_, d4, d5, ?_, ?_⟩
        · rw [a1, show (-1 : Int) + 1 = 0 from rfl, b1, show (0 : Int) + 1 = 1 from rfl, d1, fX8_goOn_L132]
          simp (disch := omega) only [iN_lit, iN_add, iN_sub, iN_mul, iN_neg, iN_lt, iN_eq, iN_tn, if_true, if_false, if_pos, if_neg]
          rfl
        · exact ex_trans (ex_mono w2 (by simp)) (ex_trans a2 (ex_trans b2 d2))
        · rw [lex3, List.map_append, List.map_append, fmin_app, fmin_app, List.map_map, List.map_map, List.map_map]
          exact d6
        · intro z hz
          rw [d7 z hz, b7 z hz, a7 z hz, e43]
      simp (disch := omega) only [iN_lt]
      by_cases hsc : V 5 b < nht V b (burd V S b) c (S (4 + b) + p.length) h' (S (16 + b) + p.length)
      · rw [if_pos hsc]
        exact all 1 (by omega) (by simp [hsc])
      · rw [if_neg hsc]
        exact all 0 (by omega) (by simp [hsc])
    show ∃ I', fX8_goOn_B n _ _ _ _ _ I r = some I' ∧ _
    rw [fX8_goOn_B, h2, fX7_strokesLeft, cl_row h.1 h.2.2.2 hb1 hb2, h.2.2.1.1.2.1, cl_made h.1 h.2.2.2 hb1 hb2]
    rcases x with _ | ⟨v, t⟩
    · have hx' : I 42 4 = iN 0 := hx
      rw [hx', ite_p (show iN 0 = 0 from rfl), ite_p (by rw [iN_sub, iN_lt (by omega) (by omega) (by omega) (by omega)]; omega)]
      exact body (by intro v t e; cases e)
    · have hx0 := hx
      obtain ⟨hv0, x1, x2, x3, x4, x5⟩ := hx
      rw [x1, x2, ite_n (show ¬ iN 1 = 0 from n10)]
      by_cases c1 : v / 100 < q
      · rw [ite_p (by rw [iN_lt (by omega) (by omega) (by omega) (by omega)]; exact c1)]
        have : fmin (fC V S b) (some (v, t)) ((lex 3 (k + 1)).map (fun s => p ++ s)) = some (v, t) := fmin_keep _ _ _ _ (by
          intro t' ht v' hv'
          rw [List.mem_map] at ht
          obtain ⟨s, _, rfl⟩ := ht
          unfold fC at hv'
          rw [hf] at hv'
          cases e : run V b (burd V S b) s c (S (4 + b) + p.length) h' (S (12 + b) + q) (S (16 + b) + p.length) with
          | none => rw [e] at hv'; cases hv'
          | some y =>
            obtain ⟨y1, y2, y3⟩ := y
            rw [e] at hv'
            injection hv' with hv'
            have := run_in h.1 s hc.1 hc.2 hh.1 hh.2 e
            omega)
        rw [this]
        exact ⟨I, rfl, ex_refl, h2, h3, hx0, fun _ _ => rfl⟩
      · rw [ite_n (by rw [iN_lt (by omega) (by omega) (by omega) (by omega)]; exact c1), ite_p (by rw [iN_sub, iN_lt (by omega) (by omega) (by omega) (by omega)]; omega)]
        exact body (by intro v' t' e; injection e with e; injection e with e1 e2; omega)
end CLE
