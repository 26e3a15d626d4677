/-! The class's formula whole. -/
section PXO
variable {B : Nat → Int} {m r : Nat}
theorem iss_ft {p : Nat} {I : (Nat → Nat → Int32)} {J : mJ} (hT : cT B m p I J) {c k : Int} (h : (c = 60 ∧ k = -10) ∨ (c = 62 ∧ k = -11) ∨ (c = 61 ∧ k = -12) ∨ (c = 43 ∧ k = -13) ∨ (c = 45 ∧ k = -14) ∨ (c = 42 ∧ k = -15) ∨ (c = 47 ∧ k = -16) ∨ (c = 37 ∧ k = -17) ∨ (c = 40 ∧ k = 100000) ∨ (c = 41 ∧ k = 100001)) : fX4_isSign (iN c) I = some (if ft B m p = k then iN 1 else iN 0) := by
  have := cl_iss hT (c := c) (by omega)
  have e : (tK B m p = 3 ∧ B (tP B m p) = c) = (ft B m p = k) := propext (ft_s1 h)
  simp only [e] at this
  exact this
theorem isw_ft {p : Nat} {I : (Nat → Nat → Int32)} {J : mJ} (hT : cT B m p I J) {c k : Int} (h : (c = 15 ∧ k = -1) ∨ (c = 16 ∧ k = -2) ∨ (c = 4 ∧ k = -3) ∨ (c = 10 ∧ k = -4) ∨ (c = 17 ∧ k = -5) ∨ (c = 18 ∧ k = -6) ∨ (c = 14 ∧ k = -7) ∨ (c = 12 ∧ k = -8) ∨ (c = 13 ∧ k = -9)) : fX4_isWord (iN c) I = if ft B m p = k then iN 1 else iN 0 := by
  have := cl_isw hT (k := c) (by omega)
  have e : (tO B m p = c) = (ft B m p = k) := propext (ft_w1 h)
  simp only [e] at this
  exact this
theorem tg_6 {c : Int} (h : -17 ≤ c ∧ c ≤ -8) : tg c = 6 ↔ c = -15 ∨ c = -16 ∨ c = -17 := by
  unfold tg
  repeat' split
  all_goals omega
theorem tg_5 {c : Int} (h : -17 ≤ c ∧ c ≤ -8) : tg c = 5 ↔ c = -13 ∨ c = -14 := by
  unfold tg
  repeat' split
  all_goals omega
theorem tg_4 {c : Int} (h : -17 ≤ c ∧ c ≤ -8) : tg c = 4 ↔ c = -10 ∨ c = -11 ∨ c = -12 := by
  unfold tg
  repeat' split
  all_goals omega
theorem tg_2 {c : Int} (h : -17 ≤ c ∧ c ≤ -8) : tg c = 2 ↔ c = -9 := by
  unfold tg
  repeat' split
  all_goals omega
theorem tg_1 {c : Int} (h : -17 ≤ c ∧ c ≤ -8) : tg c = 1 ↔ c = -8 := by
  unfold tg
  repeat' split
  all_goals omega
variable {rc0 : Int32 → (Nat → Nat → Int32) → mJ → Nat → Option (Int32 × (Nat → Nat → Int32) × mJ)}
theorem px_term (hr0 : r = 3 ∨ r = 19) {w : Nat} (hg : px B m r 7 7 w true (fun n I J => fX4_readUnit n rc0 (iN w) I J r)) : px B m r 6 6 w true (fun n I J => fX4_readTerm n rc0 (iN w) I J r) := by
  refine px_bin hr0 (lw := 7) (by omega) (by omega) (fun _ => by omega) hg (Lp := fun n y I J => fX4_readTerm_L12 n rc0 (iN w) y I J r) ?_ (fun n I J => rfl)
  intro n y p I J hT hy0 hy1
  show fX4_readTerm_L12 (n + 1) rc0 (iN w) (iN y) I J r = _
  have s1 := iss_ft hT (c := 42) (k := -15) (by omega)
  have s2 := iss_ft hT (c := 47) (k := -16) (by omega)
  have s3 := iss_ft hT (c := 37) (k := -17) (by omega)
  rw [fX4_readTerm_L12]
  simp only [iN_lit, iN_neg, iN_add]
  rw [ite_p (by rw [iN_lt (by omega) (by omega) (by omega) (by omega)]; omega)]
  have hbd := ft_bd (B := B) (m := m) (p := p)
  by_cases e1 : ft B m p = -15
  · rw [if_pos e1] at s1
    rw [if_neg (by omega)] at s2
    rw [if_neg (by omega)] at s3
    rw [ite_p (by rw [e1]; decide)]
    simp only [s1, s2, s3, Option.bind_some, n10, eq_self, if_true, if_false, e1]
  · by_cases e2 : ft B m p = -16
    · rw [if_neg e1] at s1
      rw [if_pos e2] at s2
      rw [if_neg (by omega)] at s3
      rw [ite_p (by rw [e2]; decide)]
      simp only [s1, s2, s3, Option.bind_some, n10, eq_self, if_true, if_false, e2]
    · by_cases e3 : ft B m p = -17
      · rw [if_neg e1] at s1
        rw [if_neg e2] at s2
        rw [if_pos e3] at s3
        rw [ite_p (by rw [e3]; decide)]
        simp only [s1, s2, s3, Option.bind_some, n10, eq_self, if_true, if_false, e3]
      · rw [if_neg e1] at s1
        rw [if_neg e2] at s2
        rw [if_neg e3] at s3
        rw [ite_n (fun z => by have := (tg_6 z.1).mp z.2; omega)]
        simp only [s1, s2, s3, Option.bind_some, n10, eq_self, if_true, if_false]
theorem px_sum (hr0 : r = 3 ∨ r = 19) {w : Nat} (hg : px B m r 6 6 w true (fun n I J => fX4_readTerm n rc0 (iN w) I J r)) : px B m r 5 5 w true (fun n I J => fX4_readSum n rc0 (iN w) I J r) := by
  refine px_bin hr0 (lw := 6) (by omega) (by omega) (fun _ => by omega) hg (Lp := fun n y I J => fX4_readSum_L12 n rc0 (iN w) y I J r) ?_ (fun n I J => rfl)
  intro n y p I J hT hy0 hy1
  show fX4_readSum_L12 (n + 1) rc0 (iN w) (iN y) I J r = _
  have s1 := iss_ft hT (c := 43) (k := -13) (by omega)
  have s2 := iss_ft hT (c := 45) (k := -14) (by omega)
  rw [fX4_readSum_L12]
  simp only [iN_lit, iN_neg, iN_add]
  rw [ite_p (by rw [iN_lt (by omega) (by omega) (by omega) (by omega)]; omega)]
  have hbd := ft_bd (B := B) (m := m) (p := p)
  by_cases e1 : ft B m p = -13
  · rw [if_pos e1] at s1
    rw [if_neg (by omega)] at s2
    rw [ite_p (by rw [e1]; decide)]
    simp only [s1, s2, Option.bind_some, n10, eq_self, if_true, if_false, e1]
  · by_cases e2 : ft B m p = -14
    · rw [if_neg e1] at s1
      rw [if_pos e2] at s2
      rw [ite_p (by rw [e2]; decide)]
      simp only [s1, s2, Option.bind_some, n10, eq_self, if_true, if_false, e2]
    · rw [if_neg e1] at s1
      rw [if_neg e2] at s2
      rw [ite_n (fun z => by have := (tg_5 z.1).mp z.2; omega)]
      simp only [s1, s2, Option.bind_some, n10, eq_self, if_true, if_false]
theorem px_both (hr0 : r = 3 ∨ r = 19) {w : Nat} (hg : px B m r 3 4 w false (fun _ I J => rc0 (iN w) I J r)) : px B m r 2 2 w false (fun n I J => fX4_readBoth n rc0 (iN w) I J r) := by
  refine px_bin hr0 (lw := 4) (by omega) (by omega) (fun h => absurd h (by decide)) hg (Lp := fun n y I J => fX4_readBoth_L12 n rc0 (iN w) y I J r) ?_ (fun n I J => rfl)
  intro n y p I J hT hy0 hy1
  show fX4_readBoth_L12 (n + 1) rc0 (iN w) (iN y) I J r = _
  have s1 := isw_ft hT (c := 13) (k := -9) (by omega)
  rw [fX4_readBoth_L12]
  simp only [iN_lit, iN_neg, iN_add]
  rw [ite_p (by rw [iN_lt (by omega) (by omega) (by omega) (by omega)]; omega)]
  have hbd := ft_bd (B := B) (m := m) (p := p)
  by_cases e1 : ft B m p = -9
  · rw [if_pos e1] at s1
    rw [s1, ite_n n10, ite_p (by rw [e1]; decide), e1]
  · rw [if_neg e1] at s1
    rw [s1, ite_p rfl, ite_n (fun z => by have := (tg_2 z.1).mp z.2; omega)]
theorem px_any (hr0 : r = 3 ∨ r = 19) {w : Nat} (hg : px B m r 2 2 w false (fun n I J => fX4_readBoth n rc0 (iN w) I J r)) : px B m r 1 1 w false (fun n I J => fX4_readAny n rc0 (iN w) I J r) := by
  refine px_bin hr0 (lw := 2) (by omega) (by omega) (fun h => absurd h (by decide)) hg (Lp := fun n y I J => fX4_readAny_L12 n rc0 (iN w) y I J r) ?_ (fun n I J => rfl)
  intro n y p I J hT hy0 hy1
  show fX4_readAny_L12 (n + 1) rc0 (iN w) (iN y) I J r = _
  have s1 := isw_ft hT (c := 12) (k := -8) (by omega)
  rw [fX4_readAny_L12]
  simp only [iN_lit, iN_neg, iN_add]
  rw [ite_p (by rw [iN_lt (by omega) (by omega) (by omega) (by omega)]; omega)]
  have hbd := ft_bd (B := B) (m := m) (p := p)
  by_cases e1 : ft B m p = -8
  · rw [if_pos e1] at s1
    rw [s1, ite_n n10, ite_p (by rw [e1]; decide), e1]
  · rw [if_neg e1] at s1
    rw [s1, ite_p rfl, ite_n (fun z => by have := (tg_1 z.1).mp z.2; omega)]
theorem px_one (hr0 : r = 3 ∨ r = 19) {w : Nat} (hw : w ≤ 7) (hs : px B m r 5 5 w true (fun n I J => fX4_readSum n rc0 (iN w) I J r)) (hrec : w < 7 → px B m r 3 4 (w + 1) false (fun _ I J => rc0 (iN ((w + 1 : Nat) : Int)) I J r)) : px B m r 3 4 w false (fun n I J => fX4_readOne_B n rc0 (iN w) I J r) := by
  intro n p st out u d I J hn hT hF hg0 hdp hlo hnb
  show (∃ I' J', fX4_readOne_B n rc0 (iN w) I J r = some (iN 0, I', J') ∧ _) ∨ (∃ I' J', fX4_readOne_B n rc0 (iN w) I J r = some (iN 1, I', J') ∧ _)
  have hpm := hT.1
  have s14 := isw_ft hT (c := 14) (k := -7) (by omega)
  rw [fX4_readOne_B]
  simp only [iN_lit, iN_neg]
  rw [s14]
  by_cases hnt : ft B m p = -7
  · rw [if_pos hnt, ite_n n10, fX4_readNot]
    simp only [iN_lit, iN_neg, iN_add]
    by_cases hw7 : w < 7
    · rw [ite_p (by rw [iN_lt (by omega) (by omega) (by omega) (by omega)]; omega)]
      obtain ⟨q1, q2, q3⟩ := ft_lt (B := B) hpm (by omega)
      obtain ⟨I2, J2, a1, a2, a3, a4⟩ := cl_next_t hT (n := n) (by omega)
      rw [a1, Option.bind_some, show (w : Int) + 1 = ((w + 1 : Nat) : Int) by omega]
      dsimp only
      have hU : ∀ f, am (ft B m) (tN B m) (f + 1) true st out u p = am (ft B m) (tN B m) f true (-7 :: st) out u (tN B m p) := fun f => by
        rw [am_U, if_pos ⟨hnt, mayN_low hlo⟩, if_neg (by omega)]
      rcases hrec hw7 n (tN B m p) (-7 :: st) out u d I2 J2 (by omega) a2 (cF_k hr0 hF a3) hg0 (by rw [dp, if_pos (Or.inr rfl), hdp]) (Or.inr (by decide)) (fun e => absurd e (by decide)) with ⟨I3, J3, b1, q, b2, b3, b4, b5, j, b6, b7⟩ | ⟨I3, J3, b1, p2, l2, o2, u2, b2, b3, b4, b5, b6, b7, b8, b9, b10, j, b11, b12⟩
      · left
        have b1 : rc0 (iN ((w + 1 : Nat) : Int)) I2 J2 r = some (iN 0, I3, J3) := b1
        rw [b1, Option.bind_some]
        dsimp only
        rw [ite_p rfl, Option.bind_some, ite_p (Or.inl rfl)]
        refine ⟨I3, J3, rfl, q, b2, by omega, xq_trans (xq_k a3) b4, xJ_trans a4 b5, j + 1, by omega, fun f => ?_⟩
        rw [show f + (j + 1) = f + j + 1 by omega, hU, b7]
      · right
        have b1 : rc0 (iN ((w + 1 : Nat) : Int)) I2 J2 r = some (iN 1, I3, J3) := b1
        rw [b1, Option.bind_some]
        dsimp only
        have hlen2 : (o2 ++ l2).length < 300 := by have := b4.1; have := b4.2.1; omega
        obtain ⟨I4, c1, c2, c3⟩ := cl_add0 hr0 b3 hlen2 (-7)
        rw [ite_n n10, c1, Option.bind_some, Option.bind_some]
        dsimp only
        rw [ite_p (Or.inr rfl)]
        have hT3 : cT B m p2 I4 J3 := cT_of hr0 b2 (fun a k h1 h2 => c3 a k (by omega) (by omega)) (fun _ _ _ => rfl)
        have hgl := hg0.2.1
        have hg3 := gd_not b4 hg0.2.2.2.1 (by omega)
        rw [List.append_assoc] at c2 hg3
        have hlen3 : ((o2 ++ (l2 ++ [-7])).length : Int) = (o2 ++ l2).length + 1 := by rw [← List.append_assoc, List.length_append]; rfl
        have e1 : l2 ++ -7 :: st = l2 ++ [-7] ++ st := by rw [List.append_assoc]; rfl
        rw [e1] at b10
        refine ⟨I4, J3, rfl, p2, l2 ++ [-7], o2, u2, hT3, c2, hg3, by omega, pis_snoc b6 ⟨by omega, by decide⟩, by omega, xq_trans (xq_k a3) (xq_trans b8 (fun a k _ h2 h3 => c3 a k (by omega) h3)), xJ_trans a4 b9, b10, j + 1, by omega, fun f => ?_⟩
        rw [show f + (j + 1) = f + j + 1 by omega, hU, b12, e1]
    · rw [ite_n (by rw [iN_lt (by omega) (by omega) (by omega) (by omega)]; omega)]
      left
      obtain ⟨I4, c1, c2, c3⟩ := cl_rfs hT 2
      have c1 : (if (fX4_refuse (iN 2) I).1 = iN 0 ∨ (fX4_refuse (iN 2) I).1 = iN 1 then some ((fX4_refuse (iN 2) I).1, (fX4_refuse (iN 2) I).2, J) else none) = some (iN 0, I4, J) := c1
      rw [c1, Option.bind_some]
      dsimp only
      rw [ite_p (Or.inl rfl)]
      refine ⟨I4, J, rfl, p, c2, ⟨Nat.le_refl _, hpm⟩, fun a k h1 _ _ => c3 a k (by omega), xJ_refl, 1, by omega, fun f => ?_⟩
      rw [am_U, if_pos ⟨hnt, mayN_low hlo⟩, if_pos (by omega)]
  · rw [if_neg hnt, ite_p rfl]
    have hs1 := hs n p st out u d I J hn hT hF hg0 hdp (low_mono hlo (by omega)) (fun _ e => absurd e hnt)
    rcases hs1 with ⟨I2, J2, b1, b2⟩ | ⟨I2, J2, b1, p2, l2, o2, u2, b2, b3, b4, b5, b6, b7, b8, b9, b10, j, b11, b12⟩
    · left
      have b1 : fX4_readSum n rc0 (iN w) I J r = some (iN 0, I2, J2) := b1
      rw [b1, Option.bind_some]
      dsimp only
      rw [ite_p rfl]
      exact ⟨I2, J2, rfl, b2⟩
    · have b1 : fX4_readSum n rc0 (iN w) I J r = some (iN 1, I2, J2) := b1
      have t1 := iss_ft b2 (c := 60) (k := -10) (by omega)
      have t2 := iss_ft b2 (c := 62) (k := -11) (by omega)
      have t3 := iss_ft b2 (c := 61) (k := -12) (by omega)
      have hgl := hg0.2.1
      /- a relation -/
      have rel : ∀ c : Int, ft B m p2 = c → (-17 ≤ c ∧ c ≤ -8) ∧ tg c = 4 → (∃ I' J', fX4_readOne_J68 n rc0 (iN w) (iN c) I2 J2 r = some (iN 0, I', J') ∧ pF B m r true st out u p I J I' J') ∨ (∃ I' J', fX4_readOne_J68 n rc0 (iN w) (iN c) I2 J2 r = some (iN 1, I', J') ∧ pS B m r true st out u p 3 st d I J I' J' (1 + w + (9 * u - out.length)) 1) := by
        intro c hc hc2
        rw [fX4_readOne_J68, ite_n (by show ¬ iN c = iN 0; rw [iN_eq (by omega) (by omega) (by omega) (by omega)]; omega)]
        obtain ⟨q1, q2, q3⟩ := ft_lt (B := B) b2.1 (by omega)
        obtain ⟨I3, J3, a1, a2, a3, a4⟩ := cl_next_t b2 (n := n) (by omega)
        rw [a1, Option.bind_some]
        dsimp only
        have hB : ∀ f, am (ft B m) (tN B m) (f + 1) false (l2 ++ st) o2 u2 p2 = am (ft B m) (tN B m) f true (c :: st) (o2 ++ l2) u2 (tN B m p2) := fun f => by
          have := am_bin (B := B) (m := m) (l := l2) (st := st) (o := o2) (u := u2) (p := p2) (by omega) (fun z => by rw [hasR_app hlo l2 b6] at z; exact absurd z.2 (by decide)) (by rw [hc, hc2.2]; exact pis_mono b6 (by omega)) (by rw [hc, hc2.2]; exact hlo) f
          rw [hc] at this
          exact this
        have hs2 := hs n (tN B m p2) (c :: st) (o2 ++ l2) u2 (d + 1) I3 J3 (by omega) a2 (cF_k hr0 b3 a3) b4 (by rw [dp, if_neg (by omega)]; omega) (Or.inr (by omega)) (fun _ _ => mayN_no (by omega) (by omega))
        rcases hs2 with ⟨I4, J4, c1, q, c2, c3, c4, c5, j2, c6, c7⟩ | ⟨I4, J4, c1, p3, l3, o3, u3, c2, c3, c4, c5, c6, c7, c8, c9, c10, j2, c11, c12⟩
        · left
          have c1 : fX4_readSum n rc0 (iN w) I3 J3 r = some (iN 0, I4, J4) := c1
          rw [c1, Option.bind_some]
          dsimp only
          rw [ite_p (show iN 0 = (0 : Int32) from rfl)]
          refine ⟨I4, J4, rfl, q, c2, by omega, xq_trans b8 (xq_trans (xq_k a3) c4), xJ_trans b9 (xJ_trans a4 c5), j2 + 1 + j, by omega, fun f => ?_⟩
          rw [show f + (j2 + 1 + j) = (f + j2 + 1) + j by omega, b12, hB, c7]
        · right
          have c1 : fX4_readSum n rc0 (iN w) I3 J3 r = some (iN 1, I4, J4) := c1
          rw [c1, Option.bind_some]
          dsimp only
          have hlen2 : (o3 ++ l3).length < 300 := by have := c4.1; have := c4.2.1; omega
          obtain ⟨I5, d1, d2, d3⟩ := cl_add0 hr0 c3 hlen2 c
          rw [ite_n (show ¬ iN 1 = (0 : Int32) from n10), d1, Option.bind_some]
          have hT3 : cT B m p3 I5 J4 := cT_of hr0 c2 (fun a k h1 h2 => d3 a k (by omega) (by omega)) (fun _ _ _ => rfl)
          have hg3 := gd_bin (c := c) (d := d) (by rw [show d + 2 = d + 1 + 1 by omega]; exact c4) hg0.2.2.2.1 (by omega) (by omega)
          rw [List.append_assoc] at d2 hg3
          have hlen3 : ((o3 ++ (l3 ++ [c])).length : Int) = (o3 ++ l3).length + 1 := by rw [← List.append_assoc, List.length_append]; rfl
          have e1 : l3 ++ c :: st = l3 ++ [c] ++ st := by rw [List.append_assoc]; rfl
          refine ⟨I5, J4, rfl, p3, l3 ++ [c], o3, u3, hT3, d2, hg3, by omega, pis_snoc (pis_mono c6 (by omega)) ⟨by omega, by omega⟩, by omega, xq_trans b8 (xq_trans (xq_k a3) (xq_trans c8 (fun a k _ h2 h3 => d3 a k (by omega) h3))), xJ_trans b9 (xJ_trans a4 c9), ?_, j2 + 1 + j, by omega, fun f => ?_⟩
          · intro hz
            have hhr := hasR_rel (st := st) hc2.2 (by omega) l3 c6
            rw [e1] at hhr
            rcases c10 hz with h | h
            · by_cases h4 : tg (ft B m p3) = 4
              · exact Or.inr ⟨h4, hhr⟩
              · left
                have h7 : ¬ ft B m p3 = -7 := by omega
                have h3 : ¬ tg (ft B m p3) = 3 := by
                  unfold tg
                  repeat' split
                  all_goals omega
                omega
            · exact Or.inr ⟨h.1, hhr⟩
          · rw [show f + (j2 + 1 + j) = (f + j2 + 1) + j by omega, b12, hB, c12, e1]
      rw [b1, Option.bind_some]
      dsimp only
      rw [ite_n n10]
      by_cases e1 : ft B m p2 = -10
      · rw [if_pos e1] at t1
        rw [t1, Option.bind_some, ite_n n10]
        exact rel (-10) e1 (by decide)
      · rw [if_neg e1] at t1
        rw [t1, Option.bind_some, ite_p rfl]
        by_cases e2 : ft B m p2 = -11
        · rw [if_pos e2] at t2
          rw [t2, Option.bind_some, ite_n n10]
          exact rel (-11) e2 (by decide)
        · rw [if_neg e2] at t2
          rw [t2, Option.bind_some, ite_p rfl]
          by_cases e3 : ft B m p2 = -12
          · rw [if_pos e3] at t3
            rw [t3, Option.bind_some, ite_n n10]
            exact rel (-12) e3 (by decide)
          · rw [if_neg e3] at t3
            rw [t3, Option.bind_some, ite_p rfl, fX4_readOne_J68, ite_p (show iN 0 = (0 : Int32) from rfl)]
            right
            refine ⟨I2, J2, rfl, p2, l2, o2, u2, b2, b3, b4, b5, pis_mono b6 (by omega), b7, b8, b9, ?_, j, b11, b12⟩
            intro hz
            rcases b10 hz with h | h
            · left
              have h4 : ¬ tg (ft B m p2) = 4 := fun z => by have := (tg_4 hz).mp z; omega
              have h3 : ¬ tg (ft B m p2) = 3 := by
                unfold tg
                repeat' split
                all_goals omega
              omega
            · have := (tg_4 hz).mp h.1; omega
theorem px_rec (hr0 : r = 3 ∨ r = 19) {N : Nat} (hN : 1700 + m ≤ N) : ∀ (q w : Nat), w ≤ 7 → 9 ≤ w + q → px B m r 3 4 w false (fun _ I J => fX4_readOne N q (iN w) I J r) := by
  intro q
  induction q with
  | zero => intro w h1 h2; omega
  | succ q ih =>
    intro w h1 h2
    have hrec : w < 7 → px B m r 3 4 (w + 1) false (fun _ I J => fX4_readOne N q (iN ((w + 1 : Nat) : Int)) I J r) := fun h => ih (w + 1) (by omega) (by omega)
    have hany : w < 7 → px B m r 1 1 (w + 1) false (fun n I J => fX4_readAny n (fX4_readOne N q) (iN ((w + 1 : Nat) : Int)) I J r) := fun h => px_any hr0 (px_both hr0 (hrec h))
    have ho := px_one hr0 h1 (px_sum hr0 (px_term hr0 (px_unit hr0 h1 hany))) hrec
    intro n p st out u d I J hn hT hF hg0 hdp hlo hnb
    exact ho N p st out u d I J (by omega) hT hF hg0 hdp hlo hnb
/-- the whole formula: the class's reading and the stack's come to one end -/
theorem cl_form (hr0 : r = 3 ∨ r = 19) {N p : Nat} (hN : 1700 + m ≤ N) {I : (Nat → Nat → Int32)} {J : mJ} (hT : cT B m p I J) (hF : cF r [] 0 I) :
    (∃ I' J', fX4_readAny N (fX4_readOne N 9) (iN 0) I J r = some (iN 0, I', J') ∧ ∃ q, cFl B m q 2 I' ∧ (p ≤ q ∧ q ≤ m) ∧ xq 1 r I I' ∧ xJ J J' ∧ ∃ j, j ≤ 1601 ∧ am (ft B m) (tN B m) j true [] [] 0 p = some (.inl q)) ∨
    (∃ I' J', fX4_readAny N (fX4_readOne N 9) (iN 0) I J r = some (iN 1, I', J') ∧ ∃ p' out u, cT B m p' I' J' ∧ cF r out u I' ∧ gd out u 1 ∧ 0 < out.length ∧ p < p' ∧ xq 0 r I I' ∧ xJ J J' ∧ ∃ j, j ≤ 1601 ∧ am (ft B m) (tN B m) j true [] [] 0 p = some (.inr (out, u, p'))) := by
  have hm := hT.2.1.1
  have hany := px_any (B := B) hr0 (px_both hr0 (px_rec hr0 hN 9 0 (by omega) (by omega)))
  have h00 : gd [] 0 0 := ⟨by omega, by simp, ⟨fun z hz => absurd hz (by simp), rfl⟩, by omega, by omega⟩
  rcases hany N p [] [] 0 0 I J (by omega) hT hF h00 rfl trivial (fun e => absurd e (by decide)) with ⟨I2, J2, b1, q, b2, b3, b4, b5, j, b6, b7⟩ | ⟨I2, J2, b1, p2, l2, o2, u2, b2, b3, b4, b5, b6, b7, b8, b9, b10, j, b11, b12⟩
  · left
    exact ⟨I2, J2, b1, q, b2, b3, b4, b5, j, by omega, by have := b7 0; rw [Nat.zero_add] at this; exact this⟩
  · right
    have hpm := b2.1
    have hpos : 0 < (o2 ++ l2).length := by
      have h := b4.2.2.1
      by_cases e : (o2 ++ l2).length = 0
      · have e' := h.2
        rw [e] at e'
        have : fdep (lV (o2 ++ l2)) 0 = 0 := rfl
        omega
      · omega
    refine ⟨I2, J2, b1, p2, o2 ++ l2, u2, b2, b3, b4, hpos, b7, b8, b9, j + 1, by omega, ?_⟩
    have e1 := b12 1
    rw [show j + 1 = 1 + j by omega, e1]
    have hno : ¬ 0 ∈ l2 ++ [] := by rw [List.append_nil]; exact pis_no0 b6
    have e2 := am_stop (o := o2) (u := u2) (fun z => hno z.2) b10 0
    rw [show (1 : Nat) = 0 + 1 from rfl, e2, if_neg hno, cls_app (t := 0) (st := []) trivial l2 o2 (pis_mono b6 (by omega))]
end PXO
