/-! Loads put on and taken off, boards cooled. -/
def kSw (V : (Nat → Int → Int)) (S : Int → Int) (l b : Int) : Prop := (0 ≤ l ∧ l < V 0 3) ∧ (0 ≤ b ∧ b < V 0 2) ∧ (S (4 + b) = 0 ∨ S (4 + b) = V 0 1) ∧ S (20 + l) = bnk S b ∧ ¬ V 3 b < burd V S b + V 6 l
def kTk (V : (Nat → Int → Int)) (S : Int → Int) (l : Int) : Prop := (0 ≤ l ∧ l < V 0 3) ∧ 0 ≤ S (20 + l) ∧ (S (4 + S (20 + l)) = 0 ∨ S (4 + S (20 + l)) = V 0 1)
def kCo (V : (Nat → Int → Int)) (b x : Int) : Prop := (0 ≤ b ∧ b < V 0 2) ∧ 1 ≤ x ∧ x ≤ 9
section SWT
variable {V : (Nat → Int → Int)} {S : Int → Int} {I : (Nat → Nat → Int32)} {r : Nat}
theorem wfS_ld {t : Int} (hw : wfV V) (h : wfS V t S) {l x : Int} (h1 : 0 ≤ l ∧ l < V 0 3) (h2 : -2 ≤ x ∧ x < V 0 2) : wfS V t (ud S (20 + l) x) := by
  have hu := hw.1
  have o : ∀ z, z ≠ 20 + l → ud S (20 + l) x z = S z := fun z hz => by unfold ud; rw [if_neg hz]
  refine ⟨?_, ?_, ?_⟩
  · intro b b1 b2
    rw [o _ (by omega), o _ (by omega), o _ (by omega), o _ (by omega), o _ (by omega)]
    exact h.1 b b1 b2
  · intro l' l1 l2
    unfold ud
    by_cases e : 20 + l' = 20 + l
    · rw [if_pos e]; exact h2
    · rw [if_neg e]; exact h.2.1 l' l1 l2
  · rw [o _ (by omega)]; exact h.2.2
theorem wfS_co {t : Int} (hw : wfV V) (h : wfS V t S) {b x : Int} (h1 : 0 ≤ b ∧ b < V 0 2) (h2 : 0 ≤ x ∧ x ≤ 99) : wfS V t (ud S (8 + b) x) := by
  have hu := hw.1
  have o : ∀ z, z ≠ 8 + b → ud S (8 + b) x z = S z := fun z hz => by unfold ud; rw [if_neg hz]
  refine ⟨?_, ?_, ?_⟩
  · intro b' b1 b2
    have := h.1 b' b1 b2
    rw [o _ (by omega), o _ (by omega), o (12 + b') (by omega), o (16 + b') (by omega)]
    unfold ud
    by_cases e : 8 + b' = 8 + b
    · rw [if_pos e]; omega
    · rw [if_neg e]; omega
  · intro l' l1 l2
    rw [o _ (by omega)]; exact h.2.1 l' l1 l2
  · rw [o _ (by omega)]; exact h.2.2
theorem rU_xf {Ls : Nat → Int → Int} {a u : Nat} {I' : (Nat → Nat → Int32)} (h : rU Ls a u I) {l : List Nat} (e : xf l I I') (d : 62 ∉ l ∧ 86 ∉ l ∧ 1057 ∉ l ∧ 1058 ∉ l) : rU Ls a u I' :=
  ⟨h.1, by rw [e 62 57 d.1 (fun _ => d.2.2.1)]; exact h.2.1, by rw [e 62 58 d.1 (fun _ => d.2.2.2)]; exact h.2.2.1, fun i hi z z0 z1 => by rw [xf_row e d.2.1 (by omega)]; exact h.2.2.2 i hi z z0 z1⟩
theorem rf_StowM (h : rOK V S I) {Ls : Nat → Int → Int} {a u : Nat} (hU : rU Ls a u I) {l b : Int} (hl : -2147483648 ≤ l ∧ l < 2147483648) (hb : -2147483648 ≤ b ∧ b < 2147483648) {n : Nat} (hn : 1200 ≤ n) :
    (kSw V S l b → ∃ I', fX12_stow n (iN l) (iN b) I = some (iN (burd V (ud S (20 + l) b) b), I') ∧ xf [84, 85, 86, 1057, 1058] I I' ∧ hr I' 84 28 (ud S (20 + l) b) ∧ rU (Lact Ls a S) (aact a) 0 I') ∧
    (¬ kSw V S l b → ∃ I', fX12_stow n (iN l) (iN b) I = some (iN (-1), I') ∧ ex [85] I I') := by
  have hu := h.1.1
  obtain ⟨I0, d1, d2, d3, d4⟩ := rf_filled h (n := n) (by omega)
  rw [fX12_stow, d1, Option.bind_some, rf_load d3 hl, Option.bind_some, rf_board d3 hb, Option.bind_some]
  simp only [iN_lit, iN_neg]
  unfold kSw
  by_cases hh : 0 ≤ l ∧ l < V 0 3
  · rw [if_pos hh, ite_n n10]
    by_cases h2 : 0 ≤ b ∧ b < V 0 2
    · have hsb := h.2.1.1 b h2.1 h2.2
      rw [if_pos h2, ite_n n10, rf_bank d3 h2.1 h2.2, Option.bind_some]
      by_cases h3 : S (4 + b) = 0 ∨ S (4 + b) = V 0 1
      · rw [if_pos h3, ite_n n10]
        have a20 := d3.2.2.2 (20 + l) (by omega) (by omega)
        have a4 := d3.2.2.2 (4 + b) (by omega) (by omega)
        have p20 := h.2.1.2.1 l hh.1 hh.2
        have v3 := d3.2.2.1.2.2.2.1 b h2.1 h2.2
        have v6 := d3.2.2.1.2.2.2.2.2.2.1 l hh.1 hh.2
        have w3 := h.1.2.2.2.1 b h2.1 h2.2
        have w6 := h.1.2.2.2.2.1 l hh.1 hh.2
        have bl := bur_lo h.1 (S := S) (b := b) (V 0 3).toNat (by omega)
        have bl' : 0 ≤ burd V S b ∧ burd V S b ≤ 700 := by unfold burd; omega
        simp (disch := omega) only [iN_add, iN_lt, iN_tn, if_neg, a20, a4]
        rw [rf_bk (by omega)]
        by_cases h4 : S (20 + l) = bnk S b
        · have h4' : iN (S (20 + l)) = iN (if S (4 + b) = 0 then -1 else -2) := by rw [h4]; rfl
          rw [ite_p h4', rf_burden h.1 d3.2.2.1 (b := b) (by omega) d4 (wfS_pl h.2.1 h.1) (by omega), Option.bind_some, v3, v6, iN_add]
          by_cases h5 : V 3 b < burd V S b + V 6 l
          · rw [ite_p (by rw [iN_lt (by omega) (by omega) (by omega) (by omega)]; exact h5)]
            exact ⟨fun q => absurd h5 q.2.2.2.2, fun _ => ⟨I0, rfl, d2⟩⟩
          · rw [ite_n (by rw [iN_lt (by omega) (by omega) (by omega) (by omega)]; exact h5)]
            refine ⟨fun _ => ?_, fun q => absurd ⟨hh, h2, h3, h4, h5⟩ q⟩
            obtain ⟨I1, g1, g2, g3, g4, g5⟩ := rf_act d3 (rU_xf hU (xf_ex d2) (by decide)) (n := n) (by omega)
            have S1 : hr (mm_up I1 85 (20 + l).toNat (iN b)) 85 28 (ud S (20 + l) b) := hr_up g5 (k := 20 + l) (by omega) _
            obtain ⟨I2, f1, f2, f3⟩ := rf_keepAir S1 (n := n) (by omega)
            have x2 : ex [84, 85] I1 I2 := ex_trans (ex_up (by decide)) (ex_mono f2 (by decide))
            have S2 : hr I2 85 28 (ud S (20 + l) b) := hr_of S1 (f2 85 (by decide))
            rw [g1, Option.bind_some, f1, Option.bind_some, rf_burden h.1 (refV_of g4.2.2.1 x2 (by decide)) (b := b) (by omega) S2 (wfS_pl (wfS_ld h.1 h.2.1 hh (by omega)) h.1) (by omega), Option.bind_some]
            refine ⟨I2, rfl, xf_trans (xf_mono (xf_ex d2) (by decide)) (xf_trans (xf_mono g2 (by decide)) (xf_mono (xf_ex x2) (by decide))), f3, rU_xf g3 (xf_ex x2) (by decide)⟩
        · rw [ite_n (by rw [iN_eq (by omega) (by omega) (by split <;> omega) (by split <;> omega)]; exact h4)]
          exact ⟨fun q => absurd q.2.2.2.1 h4, fun _ => ⟨I0, rfl, d2⟩⟩
      · rw [if_neg h3, ite_p rfl]
        exact ⟨fun q => absurd q.2.2.1 h3, fun _ => ⟨I0, rfl, d2⟩⟩
    · rw [if_neg h2, ite_p rfl]
      exact ⟨fun q => absurd q.2.1 h2, fun _ => ⟨I0, rfl, d2⟩⟩
  · rw [if_neg hh, ite_p rfl]
    exact ⟨fun q => absurd q.1 hh, fun _ => ⟨I0, rfl, d2⟩⟩
theorem cl_StowM (hr0 : r = 3 ∨ r = 19) (h : cOK V S r I) {Ls : Nat → Int → Int} {a u : Nat} (hU : cU V Ls a u I) {hb : Int → Bool} {Bs : Int → Int → Int} (hB : cB V hb Bs I) {l b : Int} (hl : -2147483648 ≤ l ∧ l < 2147483648) (hb' : -2147483648 ≤ b ∧ b < 2147483648) {n : Nat} (hn : 1200 ≤ n) :
    (kSw V S l b → ∃ I', fX11_stow n (iN l) (iN b) I r = some (iN (burd V (ud S (20 + l) b) b), I') ∧ ex [32, 33, 34] I I' ∧ clsS V (ud S (20 + l) b) I' ∧ cU V (Lact Ls a S) (aact a) 0 I' ∧ cB V hb Bs I') ∧
    (¬ kSw V S l b → fX11_stow n (iN l) (iN b) I r = some (iN (-1), I)) := by
  have hu := h.1.1
  rw [fX11_stow, cl_ld h hl, cl_board h hb']
  simp only [iN_lit, iN_neg]
  unfold kSw
  by_cases hh : 0 ≤ l ∧ l < V 0 3
  · rw [if_pos hh, ite_n n10]
    by_cases h2 : 0 ≤ b ∧ b < V 0 2
    · have hsb := h.2.1.1 b h2.1 h2.2
      rw [if_pos h2, ite_n n10, fX7_canPut, cl_bank h h2.1 h2.2]
      simp only [iN_lit]
      by_cases h3 : S (4 + b) = 0 ∨ S (4 + b) = V 0 1
      · rw [if_pos h3, ite_n n10]
        have p20 := h.2.1.2.1 l hh.1 hh.2
        have w3 := h.1.2.2.2.1 b h2.1 h2.2
        have w6 := h.1.2.2.2.2.1 l hh.1 hh.2
        have bl := bur_lo h.1 (S := S) (b := b) (V 0 3).toNat (by omega)
        have bl' : 0 ≤ burd V S b ∧ burd V S b ≤ 700 := by unfold burd; omega
        rw [cl_place h.1 h.2.2.2 hh.1 hh.2, cl_bk h h2.1 h2.2]
        by_cases h4 : S (20 + l) = bnk S b
        · rw [ite_p (congrArg iN h4), cl_burden h.1 h.2.2.1 h.2.2.2 (b := b) (by omega) (wfS_pl h.2.1 h.1) (by omega), Option.bind_some, cl_wd h h2.1 h2.2, cl_lwd h hh.1 hh.2, iN_add]
          by_cases h5 : V 3 b < burd V S b + V 6 l
          · rw [ite_p (by rw [iN_lt (by omega) (by omega) (by omega) (by omega)]; exact h5), Option.bind_some, ite_p rfl]
            exact ⟨fun q => absurd h5 q.2.2.2.2, fun _ => rfl⟩
          · rw [ite_n (by rw [iN_lt (by omega) (by omega) (by omega) (by omega)]; exact h5), Option.bind_some, ite_n n10]
            refine ⟨fun _ => ?_, fun q => absurd ⟨hh, h2, h3, h4, h5⟩ q⟩
            obtain ⟨I1, g1, g2, g3, g4⟩ := cl_act hU h.2.2.2 hB (n := n) (by omega)
            have C1 : cOK V S r I1 := cOK_ex h g2 (by rcases hr0 with rfl | rfl <;> decide)
            obtain ⟨s1, x1⟩ := cl_setP h.1 C1.2.2.2 hh.1 hh.2 b
            have W1 := wfS_ld h.1 h.2.1 hh (x := b) (by omega)
            have V1 := clsV_of C1.2.2.1 x1 (by rcases hr0 with rfl | rfl <;> decide)
            rw [g1, Option.bind_some, cl_burden h.1 V1 s1 (b := b) (by omega) (wfS_pl W1 h.1) (by omega), Option.bind_some]
            refine ⟨_, rfl, ex_trans (ex_mono g2 (by decide)) (ex_mono x1 (by decide)), s1, cU_of g3 (x1 33 (by decide)) (x1 34 (by decide)), cB_of g4 (by rw [x1 33 (by decide)]) (fun z _ => by rw [x1 34 (by decide)])⟩
        · have : -2 ≤ bnk S b ∧ bnk S b ≤ -1 := by unfold bnk; split <;> omega
          rw [ite_n (by rw [iN_eq (by omega) (by omega) (by omega) (by omega)]; exact h4), Option.bind_some, ite_p rfl]
          exact ⟨fun q => absurd q.2.2.2.1 h4, fun _ => rfl⟩
      · rw [if_neg h3, ite_p rfl, Option.bind_some, ite_p rfl]
        exact ⟨fun q => absurd q.2.2.1 h3, fun _ => rfl⟩
    · rw [if_neg h2, ite_p rfl]
      exact ⟨fun q => absurd q.2.1 h2, fun _ => rfl⟩
  · rw [if_neg hh, ite_p rfl]
    exact ⟨fun q => absurd q.1 hh, fun _ => rfl⟩
theorem rf_Take (h : rOK V S I) {Ls : Nat → Int → Int} {a u : Nat} (hU : rU Ls a u I) {l : Int} (hl : -2147483648 ≤ l ∧ l < 2147483648) {n : Nat} (hn : 1200 ≤ n) :
    (kTk V S l → ∃ I', fX12_take n (iN l) I = some (iN (S (20 + l)), I') ∧ xf [84, 85, 86, 1057, 1058] I I' ∧ hr I' 84 28 (ud S (20 + l) (bnk S (S (20 + l)))) ∧ rU (Lact Ls a S) (aact a) 0 I') ∧
    (¬ kTk V S l → fX12_take n (iN l) I = some (iN (-1), I)) := by
  have hu := h.1.1
  rw [fX12_take, rf_load h hl, Option.bind_some]
  simp only [iN_lit, iN_neg]
  unfold kTk
  by_cases hh : 0 ≤ l ∧ l < V 0 3
  · rw [if_pos hh, ite_n n10]
    have a20 := h.2.2.2 (20 + l) (by omega) (by omega)
    have p20 := h.2.1.2.1 l hh.1 hh.2
    simp (disch := omega) only [iN_add, iN_tn, a20]
    rw [ite_n (by simp (disch := omega) only [iN_lt]; omega)]
    by_cases h2 : 0 ≤ S (20 + l)
    · rw [ite_n (by rw [iN_lt (by omega) (by omega) (by omega) (by omega)]; omega), ite_n (by simp (disch := omega) only [iN_lt]; omega), rf_bank h h2 (by omega), Option.bind_some]
      have hsb := h.2.1.1 _ h2 p20.2
      by_cases h3 : S (4 + S (20 + l)) = 0 ∨ S (4 + S (20 + l)) = V 0 1
      · rw [if_pos h3, ite_n n10]
        refine ⟨fun _ => ?_, fun q => absurd ⟨hh, h2, h3⟩ q⟩
        obtain ⟨I1, g1, g2, g3, g4, g5⟩ := rf_act h hU (n := n) (by omega)
        have b20 := g4.2.2.2 (20 + l) (by omega) (by omega)
        have b4 := g4.2.2.2 (4 + S (20 + l)) (by omega) (by omega)
        rw [g1, Option.bind_some]
        simp (disch := omega) only [iN_add, iN_tn, b20, iN_lt, if_neg, b4]
        rw [rf_bk (by omega)]
        refine ⟨_, rfl, xf_trans (xf_mono g2 (by decide)) (xf_up (by decide)), hr_up g4.2.2.2 (k := 20 + l) (by omega) _, rU_xf g3 (xf_up (l := [84]) (by decide)) (by decide)⟩
      · rw [if_neg h3, ite_p rfl]
        exact ⟨fun q => absurd q.2.2 h3, fun _ => rfl⟩
    · rw [ite_p (by rw [iN_lt (by omega) (by omega) (by omega) (by omega)]; omega)]
      exact ⟨fun q => absurd q.2.1 h2, fun _ => rfl⟩
  · rw [if_neg hh, ite_p rfl]
    exact ⟨fun q => absurd q.1 hh, fun _ => rfl⟩
theorem cl_Take (hr0 : r = 3 ∨ r = 19) (h : cOK V S r I) {Ls : Nat → Int → Int} {a u : Nat} (hU : cU V Ls a u I) {hb : Int → Bool} {Bs : Int → Int → Int} (hB : cB V hb Bs I) {l : Int} (hl : -2147483648 ≤ l ∧ l < 2147483648) {n : Nat} (hn : 1200 ≤ n) :
    (kTk V S l → ∃ I', fX11_take n (iN l) I r = some (iN (S (20 + l)), I') ∧ ex [32, 33, 34] I I' ∧ clsS V (ud S (20 + l) (bnk S (S (20 + l)))) I' ∧ cU V (Lact Ls a S) (aact a) 0 I' ∧ cB V hb Bs I') ∧
    (¬ kTk V S l → fX11_take n (iN l) I r = some (iN (-1), I)) := by
  have hu := h.1.1
  rw [fX11_take, cl_ld h hl]
  simp only [iN_lit, iN_neg]
  unfold kTk
  by_cases hh : 0 ≤ l ∧ l < V 0 3
  · have p20 := h.2.1.2.1 l hh.1 hh.2
    rw [if_pos hh, ite_n n10, cl_place h.1 h.2.2.2 hh.1 hh.2, cl_board h (by omega)]
    by_cases h2 : 0 ≤ S (20 + l)
    · rw [if_pos (show 0 ≤ S (20 + l) ∧ S (20 + l) < V 0 2 by omega), ite_n n10, cl_bank h h2 (by omega)]
      by_cases h3 : S (4 + S (20 + l)) = 0 ∨ S (4 + S (20 + l)) = V 0 1
      · rw [if_pos h3, ite_n n10]
        refine ⟨fun _ => ?_, fun q => absurd ⟨hh, h2, h3⟩ q⟩
        obtain ⟨I1, g1, g2, g3, g4⟩ := cl_act hU h.2.2.2 hB (n := n) (by omega)
        have C1 : cOK V S r I1 := cOK_ex h g2 (by rcases hr0 with rfl | rfl <;> decide)
        rw [g1, Option.bind_some, cl_bk C1 h2 (by omega)]
        obtain ⟨s1, x1⟩ := cl_setP h.1 C1.2.2.2 hh.1 hh.2 (bnk S (S (20 + l)))
        refine ⟨_, rfl, ex_trans (ex_mono g2 (by decide)) (ex_mono x1 (by decide)), s1, cU_of g3 (x1 33 (by decide)) (x1 34 (by decide)), cB_of g4 (by rw [x1 33 (by decide)]) (fun z _ => by rw [x1 34 (by decide)])⟩
      · rw [if_neg h3, ite_p rfl]
        exact ⟨fun q => absurd q.2.2 h3, fun _ => rfl⟩
    · rw [if_neg (show ¬ (0 ≤ S (20 + l) ∧ S (20 + l) < V 0 2) by omega), ite_p rfl]
      exact ⟨fun q => absurd q.2.1 h2, fun _ => rfl⟩
  · rw [if_neg hh, ite_p rfl]
    exact ⟨fun q => absurd q.1 hh, fun _ => rfl⟩
theorem rf_CoolM (h : rOK V S I) {Ls : Nat → Int → Int} {a u : Nat} (hU : rU Ls a u I) {b x : Int} (hb : -2147483648 ≤ b ∧ b < 2147483648) (hx : -2147483648 ≤ x ∧ x < 2147483648) {n : Nat} (hn : 1200 ≤ n) :
    (kCo V b x → ∃ I', fX12_cool n (iN b) (iN x) I = some (iN (clamp 99 (S (8 + b) - x)), I') ∧ xf [84, 85, 86, 1057, 1058] I I' ∧ hr I' 84 28 (ud S (8 + b) (clamp 99 (S (8 + b) - x))) ∧ rU (Lact Ls a S) (aact a) 0 I') ∧
    (¬ kCo V b x → fX12_cool n (iN b) (iN x) I = some (iN (-1), I)) := by
  have hu := h.1.1
  rw [fX12_cool, rf_board h hb, Option.bind_some]
  simp only [iN_lit, iN_neg]
  rw [rf_in hx (by omega) (by omega)]
  unfold kCo
  by_cases hh : 0 ≤ b ∧ b < V 0 2
  · rw [if_pos hh, ite_n n10]
    by_cases h2 : 1 ≤ x ∧ x ≤ 9
    · rw [if_pos h2, ite_n n10]
      refine ⟨fun _ => ?_, fun q => absurd ⟨hh, h2⟩ q⟩
      obtain ⟨I1, g1, g2, g3, g4, g5⟩ := rf_act h hU (n := n) (by omega)
      have hsb := h.2.1.1 b hh.1 hh.2
      have b8 := g4.2.2.2 (8 + b) (by omega) (by omega)
      rw [g1, Option.bind_some]
      simp (disch := omega) only [iN_add, iN_tn, b8, iN_lt, if_neg, iN_sub]
      rw [rf_within (by omega) (by omega)]
      refine ⟨_, by rw [up_eq], xf_trans (xf_mono g2 (by decide)) (xf_up (by decide)), hr_up g4.2.2.2 (k := 8 + b) (by omega) _, rU_xf g3 (xf_up (l := [84]) (by decide)) (by decide)⟩
    · rw [if_neg h2, ite_p rfl]
      exact ⟨fun q => absurd q.2 h2, fun _ => rfl⟩
  · rw [if_neg hh, ite_p rfl]
    exact ⟨fun q => absurd q.1 hh, fun _ => rfl⟩
theorem cl_CoolM (hr0 : r = 3 ∨ r = 19) (h : cOK V S r I) {Ls : Nat → Int → Int} {a u : Nat} (hU : cU V Ls a u I) {hb : Int → Bool} {Bs : Int → Int → Int} (hB : cB V hb Bs I) {b x : Int} (hb' : -2147483648 ≤ b ∧ b < 2147483648) (hx : -2147483648 ≤ x ∧ x < 2147483648) {n : Nat} (hn : 1200 ≤ n) :
    (kCo V b x → ∃ I', fX11_cool n (iN b) (iN x) I r = some (iN (clamp 99 (S (8 + b) - x)), I') ∧ ex [32, 33, 34] I I' ∧ clsS V (ud S (8 + b) (clamp 99 (S (8 + b) - x))) I' ∧ cU V (Lact Ls a S) (aact a) 0 I' ∧ cB V hb Bs I') ∧
    (¬ kCo V b x → fX11_cool n (iN b) (iN x) I r = some (iN (-1), I)) := by
  have hu := h.1.1
  rw [fX11_cool, cl_board h hb']
  simp only [iN_lit, iN_neg]
  unfold kCo
  by_cases hh : 0 ≤ b ∧ b < V 0 2
  · rw [if_pos hh, ite_n n10]
    by_cases h1 : x < 1
    · rw [ite_p (by rw [iN_lt (by omega) (by omega) (by omega) (by omega)]; exact h1)]
      exact ⟨fun q => by omega, fun _ => rfl⟩
    by_cases h2 : 9 < x
    · rw [ite_n (by rw [iN_lt (by omega) (by omega) (by omega) (by omega)]; exact h1), ite_p (by rw [iN_lt (by omega) (by omega) (by omega) (by omega)]; exact h2)]
      exact ⟨fun q => by omega, fun _ => rfl⟩
    · rw [ite_n (by rw [iN_lt (by omega) (by omega) (by omega) (by omega)]; exact h1), ite_n (by rw [iN_lt (by omega) (by omega) (by omega) (by omega)]; exact h2)]
      refine ⟨fun _ => ?_, fun q => absurd ⟨hh, by omega, by omega⟩ q⟩
      obtain ⟨I1, g1, g2, g3, g4⟩ := cl_act hU h.2.2.2 hB (n := n) (by omega)
      have hsb := h.2.1.1 b hh.1 hh.2
      have C1 : cOK V S r I1 := cOK_ex h g2 (by rcases hr0 with rfl | rfl <;> decide)
      have e : fJ9_max (iN 0) (iN (S (8 + b)) - iN x) = iN (clamp 99 (S (8 + b) - x)) := by
        rw [iN_sub, cl_max _ _ (by omega) (by omega)]
        unfold clamp
        by_cases q : S (8 + b) - x < 0
        · rw [if_pos q, if_neg (by omega)]
        · rw [if_neg q, if_neg (show ¬ 99 < S (8 + b) - x by omega)]
          by_cases q' : 0 < S (8 + b) - x
          · rw [if_pos q']
          · rw [if_neg q']; congr 1; omega
      rw [g1, Option.bind_some, cl_heat h.1 C1.2.2.2 hh.1 hh.2, e]
      obtain ⟨s1, x1⟩ := cl_set h.1 C1.2.2.2 (w := 2) hh.1 hh.2 (by omega) (by omega) (clamp 99 (S (8 + b) - x))
      rw [show 4 * 2 + b = 8 + b by omega] at s1
      have e2 : fX7_setHeat (iN b) (iN (clamp 99 (S (8 + b) - x))) I1 = fX7_set (iN b) (iN 2) (iN (clamp 99 (S (8 + b) - x))) I1 := rfl
      rw [e2, cl_heat h.1 s1 hh.1 hh.2]
      refine ⟨_, by unfold ud; rw [if_pos rfl], ex_trans (ex_mono g2 (by decide)) (ex_mono x1 (by decide)), s1, cU_of g3 (x1 33 (by decide)) (x1 34 (by decide)), cB_of g4 (by rw [x1 33 (by decide)]) (fun z _ => by rw [x1 34 (by decide)])⟩
  · rw [if_neg hh, ite_p rfl]
    exact ⟨fun q => absurd q.1 hh, fun _ => rfl⟩
end SWT
