/-! What lies: both programs' list. -/
def cl (l : List Int) (I : (Nat → Nat → Int32)) : Prop := I 35 1 = iN l.length ∧ ∀ z : Nat, z < l.length → I 36 z = iN (l.getD z 0)
def rl (l : List Int) (I : (Nat → Nat → Int32)) : Prop := I 62 61 = iN l.length ∧ ∀ z : Nat, z < l.length → I 88 z = iN (l.getD z 0)
theorem rf_put {V : (Nat → Int → Int)} {S : Int → Int} {I : (Nat → Nat → Int32)} (h : rOK V S I) {b : Int} (hb1 : 0 ≤ b) (hb2 : b < V 0 2) {l : List Int} (hl : l.length = lft V S b) (hr : ∀ z : Nat, z < l.length → I 87 z = iN (l.getD z 0)) {n : Nat} (hn : 12 ≤ n) : ∃ I', fX12_putSteers n (iN b) I = some I' ∧ xf [88, 1061] I I' ∧ rl l I' := by
  obtain ⟨l6, _⟩ := lft_le h.1 h.2.1 hb1 hb2
  rw [fX12_putSteers, rf_left2 h hb1 hb2, Option.bind_some, iN_lit, ← hl]
  have h62 : ∀ I1 : (Nat → Nat → Int32), ex [88] (mm_up I 62 61 (iN l.length)) I1 → I1 62 61 = iN l.length := fun I1 e => by rw [e 62 (by decide), up_eq]
  obtain ⟨n', I', h1, h2, h3, h5⟩ := loop (fun n k I => fX12_putSteers_L11 n (iN k) I) 2 (P := l.length) (fun k I1 => ex [88] (mm_up I 62 61 (iN l.length)) I1 ∧ ∀ z : Nat, z < k → I1 88 z = iN (l.getD z 0))
    (by
      intro n k I1 hn h0 h1 ⟨hx, hz⟩
      have hk := hr k.toNat (by omega)
      refine ⟨mm_up I1 88 k.toNat (iN (l.getD k.toNat 0)), ?_, ex_trans hx (ex_up (by decide)), ?_⟩
      · show fX12_putSteers_L11 (n + 1) _ _ = _
        have h87 : I1 87 k.toNat = iN (l.getD k.toNat 0) := by rw [hx 87 (by decide), up_a (by decide)]; exact hk
        rw [fX12_putSteers_L11, h62 I1 hx]
        simp (disch := omega) only [iN_lit, iN_add, iN_sub, iN_mul, iN_neg, iN_lt, iN_eq, iN_tn, if_true, if_false, if_pos, if_neg, h87]
      · intro z z1
        rw [up_c]
        by_cases e : z = k.toNat
        · rw [if_pos e, e]
        · rw [if_neg e]; exact hz z (by omega)) l.length n 0 (mm_up I 62 61 (iN l.length)) (by omega) (by omega) ⟨ex_refl, by intro z h; omega⟩ (by omega)
  refine ⟨I', ?_, xf_trans (xf_u62 (by decide)) (xf_mono (xf_ex h3) (by decide)), h62 I' h3, fun z hz => h5 z (by omega)⟩
  rw [h2]
  obtain ⟨n', rfl⟩ : ∃ m, n' = m + 1 := ⟨n' - 1, by omega⟩
  show (fX12_putSteers_L11 (n' + 1) _ _).bind _ = _
  rw [fX12_putSteers_L11, h62 I' h3]
  simp (disch := omega) only [iN_lit, iN_add, iN_sub, iN_mul, iN_neg, iN_lt, iN_eq, iN_tn, if_true, if_false, if_pos, if_neg, Option.bind_some]
theorem cl_all_44 {I : (Nat → Nat → Int32)} {l : List Int} (hl : l.length ≤ 6) (h0 : I 35 1 = iN 0) (hr : ∀ z : Nat, z < l.length → I 44 z = iN (l.getD z 0)) {n : Nat} (hn : 12 ≤ n) : ∃ I', fX3_addAll_44 n (iN l.length) I = some I' ∧ ex [35, 36] I I' ∧ cl l I' := by
  obtain ⟨n', I', h1, h2, h3, h4, h5⟩ := loop (fun n k I => fX3_addAll_44_L2 n (iN l.length) (iN k) I) 2 (P := l.length) (fun k I1 => ex [35, 36] I I1 ∧ I1 35 1 = iN k ∧ ∀ z : Nat, z < k → I1 36 z = iN (l.getD z 0))
    (by
      intro n k I1 hn h0 h1 ⟨hx, hc, hz⟩
      have hk := hr k.toNat (by omega)
      refine ⟨mm_up (mm_up I1 36 k.toNat (iN (l.getD k.toNat 0))) 35 1 (iN (k + 1)), ?_, ex_trans hx (ex_trans (ex_up (by decide)) (ex_up (by decide))), up_eq, ?_⟩
      · show fX3_addAll_44_L2 (n + 1) _ _ _ = _
        rw [fX3_addAll_44_L2, fX3_add, hc, hx 44 (by decide)]
        simp (disch := omega) only [iN_lit, iN_add, iN_sub, iN_mul, iN_neg, iN_lt, iN_eq, iN_tn, if_true, if_false, if_pos, if_neg, hk, Option.bind_some]
      · intro z z1
        rw [up_a (by decide), up_c]
        by_cases e : z = k.toNat
        · rw [if_pos e, e]
        · rw [if_neg e]; exact hz z (by omega)) l.length n 0 I (by omega) (by omega) ⟨ex_refl, h0, by intro z h; omega⟩ (by omega)
  refine ⟨I', ?_, h3, h4, fun z hz => h5 z (by omega)⟩
  rw [fX3_addAll_44, iN_lit, h2]
  obtain ⟨n', rfl⟩ : ∃ m, n' = m + 1 := ⟨n' - 1, by omega⟩
  show (fX3_addAll_44_L2 (n' + 1) _ _ _).bind _ = _
  rw [fX3_addAll_44_L2]
  simp (disch := omega) only [iN_lit, iN_add, iN_sub, iN_mul, iN_neg, iN_lt, iN_eq, iN_tn, if_true, if_false, if_pos, if_neg, Option.bind_some]
theorem cl_all_41 {I : (Nat → Nat → Int32)} {l : List Int} (hl : l.length ≤ 6) (h0 : I 35 1 = iN 0) (hr : ∀ z : Nat, z < l.length → I 41 z = iN (l.getD z 0)) {n : Nat} (hn : 12 ≤ n) : ∃ I', fX3_addAll_41 n (iN l.length) I = some I' ∧ ex [35, 36] I I' ∧ cl l I' := by
  obtain ⟨n', I', h1, h2, h3, h4, h5⟩ := loop (fun n k I => fX3_addAll_41_L2 n (iN l.length) (iN k) I) 2 (P := l.length) (fun k I1 => ex [35, 36] I I1 ∧ I1 35 1 = iN k ∧ ∀ z : Nat, z < k → I1 36 z = iN (l.getD z 0))
    (by
      intro n k I1 hn h0 h1 ⟨hx, hc, hz⟩
      have hk := hr k.toNat (by omega)
      refine ⟨mm_up (mm_up I1 36 k.toNat (iN (l.getD k.toNat 0))) 35 1 (iN (k + 1)), ?_, ex_trans hx (ex_trans (ex_up (by decide)) (ex_up (by decide))), up_eq, ?_⟩
      · show fX3_addAll_41_L2 (n + 1) _ _ _ = _
        rw [fX3_addAll_41_L2, fX3_add, hc, hx 41 (by decide)]
        simp (disch := omega) only [iN_lit, iN_add, iN_sub, iN_mul, iN_neg, iN_lt, iN_eq, iN_tn, if_true, if_false, if_pos, if_neg, hk, Option.bind_some]
      · intro z z1
        rw [up_a (by decide), up_c]
        by_cases e : z = k.toNat
        · rw [if_pos e, e]
        · rw [if_neg e]; exact hz z (by omega)) l.length n 0 I (by omega) (by omega) ⟨ex_refl, h0, by intro z h; omega⟩ (by omega)
  refine ⟨I', ?_, h3, h4, fun z hz => h5 z (by omega)⟩
  rw [fX3_addAll_41, iN_lit, h2]
  obtain ⟨n', rfl⟩ : ∃ m, n' = m + 1 := ⟨n' - 1, by omega⟩
  show (fX3_addAll_41_L2 (n' + 1) _ _ _).bind _ = _
  rw [fX3_addAll_41_L2]
  simp (disch := omega) only [iN_lit, iN_add, iN_sub, iN_mul, iN_neg, iN_lt, iN_eq, iN_tn, if_true, if_false, if_pos, if_neg, Option.bind_some]
theorem cl_all_49 {I : (Nat → Nat → Int32)} {l : List Int} (hl : l.length ≤ 7) (h0 : I 35 1 = iN 0) (hr : ∀ z : Nat, z < l.length → I 49 z = iN (l.getD z 0)) {n : Nat} (hn : 12 ≤ n) : ∃ I', fX3_addAll_49 n (iN l.length) I = some I' ∧ ex [35, 36] I I' ∧ cl l I' := by
  obtain ⟨n', I', h1, h2, h3, h4, h5⟩ := loop (fun n k I => fX3_addAll_49_L2 n (iN l.length) (iN k) I) 2 (P := l.length) (fun k I1 => ex [35, 36] I I1 ∧ I1 35 1 = iN k ∧ ∀ z : Nat, z < k → I1 36 z = iN (l.getD z 0))
    (by
      intro n k I1 hn h0 h1 ⟨hx, hc, hz⟩
      have hk := hr k.toNat (by omega)
      refine ⟨mm_up (mm_up I1 36 k.toNat (iN (l.getD k.toNat 0))) 35 1 (iN (k + 1)), ?_, ex_trans hx (ex_trans (ex_up (by decide)) (ex_up (by decide))), up_eq, ?_⟩
      · show fX3_addAll_49_L2 (n + 1) _ _ _ = _
        rw [fX3_addAll_49_L2, fX3_add, hc, hx 49 (by decide)]
        simp (disch := omega) only [iN_lit, iN_add, iN_sub, iN_mul, iN_neg, iN_lt, iN_eq, iN_tn, if_true, if_false, if_pos, if_neg, hk, Option.bind_some]
      · intro z z1
        rw [up_a (by decide), up_c]
        by_cases e : z = k.toNat
        · rw [if_pos e, e]
        · rw [if_neg e]; exact hz z (by omega)) l.length n 0 I (by omega) (by omega) ⟨ex_refl, h0, by intro z h; omega⟩ (by omega)
  refine ⟨I', ?_, h3, h4, fun z hz => h5 z (by omega)⟩
  rw [fX3_addAll_49, iN_lit, h2]
  obtain ⟨n', rfl⟩ : ∃ m, n' = m + 1 := ⟨n' - 1, by omega⟩
  show (fX3_addAll_49_L2 (n' + 1) _ _ _).bind _ = _
  rw [fX3_addAll_49_L2]
  simp (disch := omega) only [iN_lit, iN_add, iN_sub, iN_mul, iN_neg, iN_lt, iN_eq, iN_tn, if_true, if_false, if_pos, if_neg, Option.bind_some]
theorem cl_all_53 {I : (Nat → Nat → Int32)} {l : List Int} (hl : l.length ≤ 4) (h0 : I 35 1 = iN 0) (hr : ∀ z : Nat, z < l.length → I 53 z = iN (l.getD z 0)) {n : Nat} (hn : 12 ≤ n) : ∃ I', fX3_addAll_53 n (iN l.length) I = some I' ∧ ex [35, 36] I I' ∧ cl l I' := by
  obtain ⟨n', I', h1, h2, h3, h4, h5⟩ := loop (fun n k I => fX3_addAll_53_L2 n (iN l.length) (iN k) I) 2 (P := l.length) (fun k I1 => ex [35, 36] I I1 ∧ I1 35 1 = iN k ∧ ∀ z : Nat, z < k → I1 36 z = iN (l.getD z 0))
    (by
      intro n k I1 hn h0 h1 ⟨hx, hc, hz⟩
      have hk := hr k.toNat (by omega)
      refine ⟨mm_up (mm_up I1 36 k.toNat (iN (l.getD k.toNat 0))) 35 1 (iN (k + 1)), ?_, ex_trans hx (ex_trans (ex_up (by decide)) (ex_up (by decide))), up_eq, ?_⟩
      · show fX3_addAll_53_L2 (n + 1) _ _ _ = _
        rw [fX3_addAll_53_L2, fX3_add, hc, hx 53 (by decide)]
        simp (disch := omega) only [iN_lit, iN_add, iN_sub, iN_mul, iN_neg, iN_lt, iN_eq, iN_tn, if_true, if_false, if_pos, if_neg, hk, Option.bind_some]
      · intro z z1
        rw [up_a (by decide), up_c]
        by_cases e : z = k.toNat
        · rw [if_pos e, e]
        · rw [if_neg e]; exact hz z (by omega)) l.length n 0 I (by omega) (by omega) ⟨ex_refl, h0, by intro z h; omega⟩ (by omega)
  refine ⟨I', ?_, h3, h4, fun z hz => h5 z (by omega)⟩
  rw [fX3_addAll_53, iN_lit, h2]
  obtain ⟨n', rfl⟩ : ∃ m, n' = m + 1 := ⟨n' - 1, by omega⟩
  show (fX3_addAll_53_L2 (n' + 1) _ _ _).bind _ = _
  rw [fX3_addAll_53_L2]
  simp (disch := omega) only [iN_lit, iN_add, iN_sub, iN_mul, iN_neg, iN_lt, iN_eq, iN_tn, if_true, if_false, if_pos, if_neg, Option.bind_some]
