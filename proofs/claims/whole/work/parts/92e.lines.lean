/-! LINES: names (written by gen92e.py). -/
section LNN
variable {B : Nat → Int} {m r p : Nat} {I : (Nat → Nat → Int32)} {J : mJ} {I' : (Nat → Nat → Int32)} {J' : mJ} {W : (Nat → Int → Int)} {X : Int32} {NB NL : Nat → List Int}
theorem rf_own (h : rT B m p I J) (hk : tK B m p = 1) : (fX12_isOwn J = 0) = (tO B m p = -1) := by
  have g : ∀ {k : Nat} {x : Int64}, k < 19 → x = iL (c256 (ownI k)) → (lg_cmp (J 62 9) x = iN 0) = (tO B m p = k) := fun hk2 hx => by rw [hx]; exact rf_lg h hk hk2
  have k0 := g (k := 0) (x := 512736126322) (by omega) (by decide)
  have k8 := g (k := 8) (x := 25209) (by omega) (by decide)
  have k1 := g (k := 1) (x := 27995157100326516) (by omega) (by decide)
  have k9 := g (k := 9) (x := 24948) (by omega) (by decide)
  have k2 := g (k := 2) (x := 1769107310) (by omega) (by decide)
  have k3 := g (k := 3) (x := 422775452260) (by omega) (by decide)
  have k10 := g (k := 10) (x := 2003395685) (by omega) (by decide)
  have k11 := g (k := 11) (x := 422607680115) (by omega) (by decide)
  have k4 := g (k := 4) (x := 1819238756) (by omega) (by decide)
  have k5 := g (k := 5) (x := 1751474548) (by omega) (by decide)
  have k6 := g (k := 6) (x := 439905906532) (by omega) (by decide)
  have k7 := g (k := 7) (x := 1685217655) (by omega) (by decide)
  have k15 := g (k := 15) (x := 7499639) (by omega) (by decide)
  have k16 := g (k := 16) (x := 109330212154734) (by omega) (by decide)
  have k17 := g (k := 17) (x := 32497657166128499) (by omega) (by decide)
  have k18 := g (k := 18) (x := 6844276) (by omega) (by decide)
  have k13 := g (k := 13) (x := 6385252) (by omega) (by decide)
  have k12 := g (k := 12) (x := 28530) (by omega) (by decide)
  have k14 := g (k := 14) (x := 7237492) (by omega) (by decide)
  have hO := tO_in B m p
  rw [fX12_isOwn]
  simp only [iN_lit, k0, k8, k1, k9, k2, k3, k10, k11, k4, k5, k6, k7, k15, k16, k17, k18, k13, k12, k14]
  apply propext
  constructor
  · intro e
    by_cases ho : tO B m p = -1
    · exact ho
    · exfalso
      have hh : tO B m p = 0 ∨ tO B m p = 1 ∨ tO B m p = 2 ∨ tO B m p = 3 ∨ tO B m p = 4 ∨ tO B m p = 5 ∨ tO B m p = 6 ∨ tO B m p = 7 ∨ tO B m p = 8 ∨ tO B m p = 9 ∨ tO B m p = 10 ∨ tO B m p = 11 ∨ tO B m p = 12 ∨ tO B m p = 13 ∨ tO B m p = 14 ∨ tO B m p = 15 ∨ tO B m p = 16 ∨ tO B m p = 17 ∨ tO B m p = 18 := by omega
      rcases hh with h | h | h | h | h | h | h | h | h | h | h | h | h | h | h | h | h | h | h
      all_goals (simp only [h] at e; revert e; decide)
  · intro e
    rw [if_neg (by omega), if_neg (by omega), if_neg (by omega), if_neg (by omega), if_neg (by omega), if_neg (by omega), if_neg (by omega), if_neg (by omega), if_neg (by omega), if_neg (by omega), if_neg (by omega), if_neg (by omega), if_neg (by omega), if_neg (by omega), if_neg (by omega), if_neg (by omega), if_neg (by omega), if_neg (by omega), if_neg (by omega)]
theorem rf_name (h : rT B m p I J) : (fX12_isName I J = 0) = ¬ (tK B m p = 1 ∧ tO B m p = -1) := by
  obtain ⟨h1, h2, h3, h4, -⟩ := id h
  obtain ⟨s1, -, -, -, -, s6, s7⟩ := tS_sp h2 h1
  rw [fX12_isName, h4]
  by_cases hk : tK B m p = 1
  · rw [ite_p (show iN (tS B m p) = (1 : Int32) by rw [s1.mpr hk]; rfl)]
    by_cases ho : tO B m p = -1
    · rw [ite_p ((rf_own h hk).mpr ho)]
      exact propext ⟨fun z => absurd z (by decide), fun z => absurd ⟨hk, ho⟩ z⟩
    · rw [ite_n (fun z => ho ((rf_own h hk).mp z))]
      exact propext ⟨fun _ z => ho z.2, fun _ => rfl⟩
  · rw [ite_n (show ¬ iN (tS B m p) = (1 : Int32) by show ¬ iN _ = iN 1; rw [iN_eq (by omega) (by omega) (by omega) (by omega)]; exact fun z => hk (s1.mp z))]
    exact propext ⟨fun _ z => hk z.1, fun _ => rfl⟩
theorem w27 {w w' : List Int} (h : wrd w) (h' : wrd w') : (lg_cmp (iL (c27 w)) (iL (c27 w')) = iN 0) = (w = w') := by
  rw [lgc]
  have h1 := c27_in h
  have h2 := c27_in h'
  exact propext ⟨fun e => c27_inj h h' (iL_inj h1.1 (by omega) h2.1 (by omega) e), fun e => by rw [e]⟩
theorem w256 {w w' : List Int} (h : wrd w) (h' : wrd w') : (lg_cmp (iL (c256 w)) (iL (c256 w')) = iN 0) = (w = w') := by
  rw [lgc]
  have h1 := c256_in h
  have h2 := c256_in h'
  exact propext ⟨fun e => c256_inj h h' (iL_inj h1.1 h1.2 h2.1 h2.2 e), fun e => by rw [e]⟩
/-- the reference's look through the names -/
theorem rf_nms {N : Nat → List Int} {c fr : Nat} {w : List Int} (hw : wrd w) (hc : c ≤ 7) (hfr : fr + c ≤ 11) (hN : ∀ k : Nat, k < c → wrd (N k)) (hJ : ∀ k : Nat, k < c → J (64) (fr + k) = iL (c256 (N k))) (h9 : J 62 9 = iL (c256 w)) : ∀ (d k n : Nat) (I : (Nat → Nat → Int32)), k + d = c → d < n → I 62 2 = iN 0 → (hasF (fX12_wrong 3 I)) →
    ((∃ j, k ≤ j ∧ j < c ∧ N j = w) → fX12_newName_L18 n (iN fr) (iN c) (iN k) I J = some (fX12_wrong 3 I)) ∧ ((¬ ∃ j, k ≤ j ∧ j < c ∧ N j = w) → fX12_newName_L18 n (iN fr) (iN c) (iN k) I J = some I) := by
  intro d
  induction d with
  | zero =>
    intro k n I hk hn h2 hf
    obtain ⟨n, rfl⟩ : ∃ q, n = q + 1 := ⟨n - 1, by omega⟩
    rw [fX12_newName_L18, ite_n (by rw [iN_lt (by omega) (by omega) (by omega) (by omega)]; omega)]
    exact ⟨fun ⟨j, j1, j2, _⟩ => by omega, fun _ => rfl⟩
  | succ d ih =>
    intro k n I hk hn h2 hf
    obtain ⟨n, rfl⟩ : ∃ q, n = q + 1 := ⟨n - 1, by omega⟩
    rw [fX12_newName_L18, ite_p (by rw [iN_lt (by omega) (by omega) (by omega) (by omega)]; omega), ite_p (show I 62 2 = (0 : Int32) from h2), iN_add]
    have eg : ¬ (iN ((fr : Int) + k) < (0 : Int32) ∨ 11 ≤ (iN ((fr : Int) + k)).toNatClampNeg) := by
      show ¬ (iN _ < iN 0 ∨ _)
      rw [iN_lt (by omega) (by omega) (by omega) (by omega), iN_tn (by omega) (by omega)]; omega
    have e1 : (iN (k : Nat) + 1 : Int32) = iN ((k + 1 : Nat) : Int) := by
      have := iN_add (k : Nat) 1
      rw [show ((k : Nat) : Int) + 1 = ((k + 1 : Nat) : Int) by omega] at this
      exact this
    rw [ite_n eg, iN_tn (by omega) (by omega), show ((fr : Int) + k).toNat = fr + k by omega, hJ k (by omega), h9, e1]
    by_cases e : N k = w
    · rw [ite_p (show lg_cmp (iL (c256 (N k))) (iL (c256 w)) = (0 : Int32) from (w256 (hN k (by omega)) hw).mpr e)]
      refine ⟨fun _ => ?_, fun z => absurd ⟨k, by omega, by omega, e⟩ z⟩
      obtain ⟨n, rfl⟩ : ∃ q, n = q + 1 := ⟨n - 1, by omega⟩
      rw [fX12_newName_L18]
      by_cases hlt : iN ((k + 1 : Nat) : Int) < iN (c : Nat)
      · rw [ite_p hlt, ite_n (hasF_no hf).1]
      · rw [ite_n hlt]
    · rw [ite_n (show ¬ lg_cmp (iL (c256 (N k))) (iL (c256 w)) = (0 : Int32) from fun z => e ((w256 (hN k (by omega)) hw).mp z))]
      obtain ⟨i1, i2⟩ := ih (k + 1) n I (by omega) (by omega) h2 hf
      constructor
      · rintro ⟨j, j1, j2, j3⟩
        refine i1 ⟨j, ?_, j2, j3⟩
        by_cases ej : j = k
        · rw [ej] at j3; exact absurd j3 e
        · omega
      · intro z
        exact i2 (fun ⟨j, j1, j2, j3⟩ => z ⟨j, by omega, j2, j3⟩)
theorem cl_nms_b {c : Nat} {w : List Int} (hw : wrd w) (hc : c ≤ 4) (hN : ∀ k : Nat, k < c → wrd (NB k)) (hJ : ∀ k : Nat, k < c → J (r + 10) k = iL (c27 (NB k))) : ∀ (d k n : Nat), k + d = c → d < n →
    ((∃ j, k ≤ j ∧ j < c ∧ NB j = w) → fX5_isAmong_10_L3 n (iN c) (iL (c27 w)) (iN k) r J = some (.inl 1)) ∧ ((¬ ∃ j, k ≤ j ∧ j < c ∧ NB j = w) → fX5_isAmong_10_L3 n (iN c) (iL (c27 w)) (iN k) r J = some (.inr ())) := by
  intro d
  induction d with
  | zero =>
    intro k n hk hn
    obtain ⟨n, rfl⟩ : ∃ q, n = q + 1 := ⟨n - 1, by omega⟩
    rw [fX5_isAmong_10_L3, ite_n (by rw [iN_lt (by omega) (by omega) (by omega) (by omega)]; omega)]
    exact ⟨fun ⟨j, j1, j2, _⟩ => by omega, fun _ => rfl⟩
  | succ d ih =>
    intro k n hk hn
    obtain ⟨n, rfl⟩ : ∃ q, n = q + 1 := ⟨n - 1, by omega⟩
    have eg : ¬ (iN (k : Nat) < (0 : Int32) ∨ 4 ≤ (iN (k : Nat)).toNatClampNeg) := by
      show ¬ (iN _ < iN 0 ∨ _)
      rw [iN_lt (by omega) (by omega) (by omega) (by omega), iN_tn (by omega) (by omega)]; omega
    have e1 : (iN (k : Nat) + 1 : Int32) = iN ((k + 1 : Nat) : Int) := by
      have := iN_add (k : Nat) 1
      rw [show ((k : Nat) : Int) + 1 = ((k + 1 : Nat) : Int) by omega] at this
      exact this
    rw [fX5_isAmong_10_L3, ite_p (by rw [iN_lt (by omega) (by omega) (by omega) (by omega)]; omega), ite_p (show iN (k : Nat) < (4 : Int32) by show iN _ < iN 4; rw [iN_lt (by omega) (by omega) (by omega) (by omega)]; omega), ite_n eg, iN_tn (by omega) (by omega), show ((k : Nat) : Int).toNat = k by omega, hJ k (by omega), e1]
    by_cases e : NB k = w
    · rw [ite_p (show lg_cmp (iL (c27 (NB k))) (iL (c27 w)) = (0 : Int32) from (w27 (hN k (by omega)) hw).mpr e)]
      exact ⟨fun _ => rfl, fun z => absurd ⟨k, by omega, by omega, e⟩ z⟩
    · rw [ite_n (show ¬ lg_cmp (iL (c27 (NB k))) (iL (c27 w)) = (0 : Int32) from fun z => e ((w27 (hN k (by omega)) hw).mp z))]
      obtain ⟨i1, i2⟩ := ih (k + 1) n (by omega) (by omega)
      constructor
      · rintro ⟨j, j1, j2, j3⟩
        refine i1 ⟨j, ?_, j2, j3⟩
        by_cases ej : j = k
        · rw [ej] at j3; exact absurd j3 e
        · omega
      · intro z
        exact i2 (fun ⟨j, j1, j2, j3⟩ => z ⟨j, by omega, j2, j3⟩)
/-- a new name -/
theorem bt_name_b (hT : TT B m p I J I' J') (hw : wfB W X NB NL) (hm : W 0 2 < 4) (hc : cBd W X NB NL r I J) (hR : rBd W X NB NL I' J') {n : Nat} (hn : 1700 ≤ n) :
    (∃ I1 I1', fX4_isNewName n (iN 1) I J r = some (iN 0, I1) ∧ (if (fX12_isName I' J') = 0 then (fX12_newName_J16 n 0 (iN (W 0 2)) (fX12_wrong 2 I') J') else (fX12_newName_J16 n 0 (iN (W 0 2)) I' J')) = some (I1', J') ∧ FF I1 I1' ∧ xf2 I I1 ∧ rf2 I' I1') ∨
    (wrd (tW B m p) ∧ tK B m p = 1 ∧ fX4_isNewName n (iN 1) I J r = some (iN 1, I) ∧ ∃ I1 J1 I1' J1', fX4_advance n I J = some (I1, J1) ∧ (if (fX12_isName I' J') = 0 then (fX12_newName_J16 n 0 (iN (W 0 2)) (fX12_wrong 2 I') J') else (fX12_newName_J16 n 0 (iN (W 0 2)) I' J')) = some (I1', J1') ∧ TT B m (tN B m p) I1 J1 I1' J1' ∧ p < tN B m p ∧ xk I I1 ∧ xJ J J1 ∧ xr I' I1' ∧ xJr (mm_up J' 64 (0 + (W 0 2).toNat) (iL (c256 (tW B m p)))) J1') := by
  have hb := hw.1
  have hK : tK B m p = 0 ∨ tK B m p = 1 ∨ tK B m p = 2 ∨ tK B m p = 3 ∨ tK B m p = 4 := tKq_in
  have hO := tO_in B m p
  have h5 : I 16 5 = iN (tK B m p) := hT.1.2.2.2.2.1
  have h7 : I 16 7 = iN (tO B m p) := hT.1.2.2.2.2.2.2.2.1
  have hnm := rf_name hT.2.1
  have ec : ((W 0 2).toNat : Int) = W 0 2 := by omega
  by_cases hnew : tK B m p = 1 ∧ tO B m p = -1
  · obtain ⟨k1, o1⟩ := hnew
    have hwd := tW_wrd k1
    rw [ite_n (fun z => (hnm.mp z) ⟨k1, o1⟩), fX4_isNewName, h5, h7, ite_p (show iN (tK B m p) = (1 : Int32) by rw [k1]; rfl), ite_p (show iN (tO B m p) = (-1 : Int32) by rw [o1]; rfl), ite_n (show ¬ iN 1 = (0 : Int32) from n10), hT.1.2.2.2.2.2.2.2.2 k1]
    obtain ⟨i1, i2⟩ := cl_nms_b (r := r) (J := J) (c := (W 0 2).toNat) hwd (by omega) (fun k hk => hw.2.2.2.2.2.2.2.2.1 k (by omega)) (fun k hk => hc.2.2.2.1 k (by omega)) (W 0 2).toNat 0 n (by omega) (by omega)
    obtain ⟨w1, w2⟩ := rf_wrong hT.2.1 hT.2.2 3
    obtain ⟨j1, j2⟩ := rf_nms (J := J') (N := NB) (c := (W 0 2).toNat) (fr := 0) hwd (by omega) (by omega) (fun k hk => hw.2.2.2.2.2.2.2.2.1 k (by omega)) (fun k hk => by rw [Nat.zero_add]; exact hR.2.2.2.2.1 k (by omega)) (hT.2.1.2.2.2.2.2.2 k1) (W 0 2).toNat 0 n I' (by omega) (by omega) hT.2.2 (rFl_has w1 (by omega))
    rw [ec] at i1 i2 j1 j2
    have hcnt : I r 4 = iN (W 0 2) := hc.2.1.2.2.2.2.1
    rw [fX5_hasBoard, fX5_isAmong_10, hcnt, fX12_newName_J16]
    have z32 : fX12_newName_L18 n 0 (iN (W 0 2)) 0 I' J' = fX12_newName_L18 n (iN (0 : Nat)) (iN (W 0 2)) (iN (0 : Nat)) I' J' := rfl
    have z33 : fX5_isAmong_10_L3 n (iN (W 0 2)) (iL (c27 (tW B m p))) 0 r J = fX5_isAmong_10_L3 n (iN (W 0 2)) (iL (c27 (tW B m p))) (iN (0 : Nat)) r J := rfl
    rw [z32, z33]
    by_cases hex : ∃ j, 0 ≤ j ∧ j < (W 0 2).toNat ∧ NB j = tW B m p
    · left
      obtain ⟨I1, I1', b1, b2, b3, b4, b5⟩ := bt_ref hT (j := 3) (by omega)
      have b1 : fX4_refuse 3 I = (iN 0, I1) := b1
      have b2 : fX12_wrong 3 I' = I1' := b2
      rw [i1 hex, j1 hex, Option.bind_some, Option.bind_some, Option.bind_some]
      rw [ite_p (show (1 : Int32) = 0 ∨ (1 : Int32) = 1 from Or.inr rfl), Option.bind_some, ite_n (show ¬ (1 : Int32) = 0 by decide), b1, b2, fX12_newName_J57, ite_p (hasF_no (FF_has b3)).2]
      exact ⟨I1, I1', rfl, rfl, b3, b4, b5⟩
    · right
      rw [i2 hex, j2 hex, Option.bind_some, Option.bind_some, Option.bind_some]
      rw [ite_p (show (0 : Int32) = 0 ∨ (0 : Int32) = 1 from Or.inl rfl), Option.bind_some, ite_p rfl, fX12_newName_J57, ite_n (show ¬ (0 : Int32) < I' 62 2 by rw [hT.2.2]; decide)]
      have e0 : ((0 : Int32) + iN (W 0 2)) = iN (0 + W 0 2) := iN_add 0 _
      have eg : ¬ (iN (0 + W 0 2) < (0 : Int32) ∨ 11 ≤ (iN (0 + W 0 2)).toNatClampNeg) := by
        show ¬ (iN _ < iN 0 ∨ _)
        rw [iN_lt (by omega) (by omega) (by omega) (by omega), iN_tn (by omega) (by omega)]; omega
      rw [e0, ite_n eg, iN_tn (by omega) (by omega), show (0 + W 0 2).toNat = 0 + (W 0 2).toNat by omega, hT.2.1.2.2.2.2.2.2 k1]
      have hT1 : TT B m p I J I' (mm_up J' 64 (0 + (W 0 2).toNat) (iL (c256 (tW B m p)))) := ⟨hT.1, rT_of hT.2.1 (fun _ _ => rfl) (fun _ => rfl) (by rw [up_a (by omega)]), hT.2.2⟩
      obtain ⟨I1, J1, I1', J1', a1, a2, a3, a4, a5, a6, a7⟩ := bt_adv hT1 (by omega) hn
      rw [a2, Option.bind_some]
      exact ⟨hwd, k1, rfl, I1, J1, I1', J1', a1, rfl, a3, ((tN_in (B := B) hT.1.1).2.2 (by omega)).2.2, a4, a5, a6, a7⟩
  · left
    obtain ⟨I1, I1', b1, b2, b3, b4, b5⟩ := bt_ref hT (j := 2) (by omega)
    have b1 : fX4_refuse 2 I = (iN 0, I1) := b1
    have b2 : fX12_wrong 2 I' = I1' := b2
    have hcl : fX4_isNewName n (iN 1) I J r = some (iN 0, I1) := by
      rw [fX4_isNewName, h5, h7, b1]
      have hlast : (if iN 0 = (0 : Int32) ∨ iN 0 = (1 : Int32) then some (iN 0, I1) else none) = some (iN 0, I1) := if_pos (Or.inl rfl)
      by_cases k1 : tK B m p = 1
      · have o1 : ¬ tO B m p = -1 := fun z => hnew ⟨k1, z⟩
        rw [ite_p (show iN (tK B m p) = (1 : Int32) by rw [k1]; rfl), ite_n (show ¬ iN (tO B m p) = (-1 : Int32) by show ¬ iN _ = iN (-1); rw [iN_eq (by omega) (by omega) (by omega) (by omega)]; exact o1)]
        exact hlast
      · rw [ite_n (show ¬ iN (tK B m p) = (1 : Int32) by show ¬ iN _ = iN 1; rw [iN_eq (by omega) (by omega) (by omega) (by omega)]; exact k1)]
        exact hlast
    rw [hcl, ite_p (hnm.mpr hnew), b2, fX12_newName_J16]
    have hl : fX12_newName_L18 n 0 (iN (W 0 2)) 0 I1' J' = some I1' := by
      obtain ⟨n, rfl⟩ : ∃ q, n = q + 1 := ⟨n - 1, by omega⟩
      rw [fX12_newName_L18]
      by_cases hlt : (0 : Int32) < iN (W 0 2)
      · rw [ite_p hlt, ite_n (hasF_no (FF_has b3)).1]
      · rw [ite_n hlt]
    rw [hl, Option.bind_some, fX12_newName_J57, ite_p (hasF_no (FF_has b3)).2]
    exact ⟨I1, I1', rfl, rfl, b3, b4, b5⟩
theorem cl_nms_l {c : Nat} {w : List Int} (hw : wrd w) (hc : c ≤ 7) (hN : ∀ k : Nat, k < c → wrd (NL k)) (hJ : ∀ k : Nat, k < c → J (r + 12) k = iL (c27 (NL k))) : ∀ (d k n : Nat), k + d = c → d < n →
    ((∃ j, k ≤ j ∧ j < c ∧ NL j = w) → fX5_isAmong_12_L3 n (iN c) (iL (c27 w)) (iN k) r J = some (.inl 1)) ∧ ((¬ ∃ j, k ≤ j ∧ j < c ∧ NL j = w) → fX5_isAmong_12_L3 n (iN c) (iL (c27 w)) (iN k) r J = some (.inr ())) := by
  intro d
  induction d with
  | zero =>
    intro k n hk hn
    obtain ⟨n, rfl⟩ : ∃ q, n = q + 1 := ⟨n - 1, by omega⟩
    rw [fX5_isAmong_12_L3, ite_n (by rw [iN_lt (by omega) (by omega) (by omega) (by omega)]; omega)]
    exact ⟨fun ⟨j, j1, j2, _⟩ => by omega, fun _ => rfl⟩
  | succ d ih =>
    intro k n hk hn
    obtain ⟨n, rfl⟩ : ∃ q, n = q + 1 := ⟨n - 1, by omega⟩
    have eg : ¬ (iN (k : Nat) < (0 : Int32) ∨ 7 ≤ (iN (k : Nat)).toNatClampNeg) := by
      show ¬ (iN _ < iN 0 ∨ _)
      rw [iN_lt (by omega) (by omega) (by omega) (by omega), iN_tn (by omega) (by omega)]; omega
    have e1 : (iN (k : Nat) + 1 : Int32) = iN ((k + 1 : Nat) : Int) := by
      have := iN_add (k : Nat) 1
      rw [show ((k : Nat) : Int) + 1 = ((k + 1 : Nat) : Int) by omega] at this
      exact this
    rw [fX5_isAmong_12_L3, ite_p (by rw [iN_lt (by omega) (by omega) (by omega) (by omega)]; omega), ite_p (show iN (k : Nat) < (7 : Int32) by show iN _ < iN 7; rw [iN_lt (by omega) (by omega) (by omega) (by omega)]; omega), ite_n eg, iN_tn (by omega) (by omega), show ((k : Nat) : Int).toNat = k by omega, hJ k (by omega), e1]
    by_cases e : NL k = w
    · rw [ite_p (show lg_cmp (iL (c27 (NL k))) (iL (c27 w)) = (0 : Int32) from (w27 (hN k (by omega)) hw).mpr e)]
      exact ⟨fun _ => rfl, fun z => absurd ⟨k, by omega, by omega, e⟩ z⟩
    · rw [ite_n (show ¬ lg_cmp (iL (c27 (NL k))) (iL (c27 w)) = (0 : Int32) from fun z => e ((w27 (hN k (by omega)) hw).mp z))]
      obtain ⟨i1, i2⟩ := ih (k + 1) n (by omega) (by omega)
      constructor
      · rintro ⟨j, j1, j2, j3⟩
        refine i1 ⟨j, ?_, j2, j3⟩
        by_cases ej : j = k
        · rw [ej] at j3; exact absurd j3 e
        · omega
      · intro z
        exact i2 (fun ⟨j, j1, j2, j3⟩ => z ⟨j, by omega, j2, j3⟩)
/-- a new name -/
theorem bt_name_l (hT : TT B m p I J I' J') (hw : wfB W X NB NL) (hm : W 0 3 < 7) (hc : cBd W X NB NL r I J) (hR : rBd W X NB NL I' J') {n : Nat} (hn : 1700 ≤ n) :
    (∃ I1 I1', fX4_isNewName n (iN 0) I J r = some (iN 0, I1) ∧ (if (fX12_isName I' J') = 0 then (fX12_newName_J16 n 4 (iN (W 0 3)) (fX12_wrong 2 I') J') else (fX12_newName_J16 n 4 (iN (W 0 3)) I' J')) = some (I1', J') ∧ FF I1 I1' ∧ xf2 I I1 ∧ rf2 I' I1') ∨
    (wrd (tW B m p) ∧ tK B m p = 1 ∧ fX4_isNewName n (iN 0) I J r = some (iN 1, I) ∧ ∃ I1 J1 I1' J1', fX4_advance n I J = some (I1, J1) ∧ (if (fX12_isName I' J') = 0 then (fX12_newName_J16 n 4 (iN (W 0 3)) (fX12_wrong 2 I') J') else (fX12_newName_J16 n 4 (iN (W 0 3)) I' J')) = some (I1', J1') ∧ TT B m (tN B m p) I1 J1 I1' J1' ∧ p < tN B m p ∧ xk I I1 ∧ xJ J J1 ∧ xr I' I1' ∧ xJr (mm_up J' 64 (4 + (W 0 3).toNat) (iL (c256 (tW B m p)))) J1') := by
  have hb := hw.1
  have hK : tK B m p = 0 ∨ tK B m p = 1 ∨ tK B m p = 2 ∨ tK B m p = 3 ∨ tK B m p = 4 := tKq_in
  have hO := tO_in B m p
  have h5 : I 16 5 = iN (tK B m p) := hT.1.2.2.2.2.1
  have h7 : I 16 7 = iN (tO B m p) := hT.1.2.2.2.2.2.2.2.1
  have hnm := rf_name hT.2.1
  have ec : ((W 0 3).toNat : Int) = W 0 3 := by omega
  by_cases hnew : tK B m p = 1 ∧ tO B m p = -1
  · obtain ⟨k1, o1⟩ := hnew
    have hwd := tW_wrd k1
    rw [ite_n (fun z => (hnm.mp z) ⟨k1, o1⟩), fX4_isNewName, h5, h7, ite_p (show iN (tK B m p) = (1 : Int32) by rw [k1]; rfl), ite_p (show iN (tO B m p) = (-1 : Int32) by rw [o1]; rfl), ite_p (show iN 0 = (0 : Int32) from rfl), hT.1.2.2.2.2.2.2.2.2 k1]
    obtain ⟨i1, i2⟩ := cl_nms_l (r := r) (J := J) (c := (W 0 3).toNat) hwd (by omega) (fun k hk => hw.2.2.2.2.2.2.2.2.2 k (by omega)) (fun k hk => hc.2.2.2.2 k (by omega)) (W 0 3).toNat 0 n (by omega) (by omega)
    obtain ⟨w1, w2⟩ := rf_wrong hT.2.1 hT.2.2 3
    obtain ⟨j1, j2⟩ := rf_nms (J := J') (N := NL) (c := (W 0 3).toNat) (fr := 4) hwd (by omega) (by omega) (fun k hk => hw.2.2.2.2.2.2.2.2.2 k (by omega)) (fun k hk => hR.2.2.2.2.2 k (by omega)) (hT.2.1.2.2.2.2.2.2 k1) (W 0 3).toNat 0 n I' (by omega) (by omega) hT.2.2 (rFl_has w1 (by omega))
    rw [ec] at i1 i2 j1 j2
    have hcnt : I r 5 = iN (W 0 3) := hc.2.1.2.2.2.2.2.1
    rw [fX5_hasLoad, fX5_isAmong_12, hcnt, fX12_newName_J16]
    have z32 : fX12_newName_L18 n 4 (iN (W 0 3)) 0 I' J' = fX12_newName_L18 n (iN (4 : Nat)) (iN (W 0 3)) (iN (0 : Nat)) I' J' := rfl
    have z33 : fX5_isAmong_12_L3 n (iN (W 0 3)) (iL (c27 (tW B m p))) 0 r J = fX5_isAmong_12_L3 n (iN (W 0 3)) (iL (c27 (tW B m p))) (iN (0 : Nat)) r J := rfl
    rw [z32, z33]
    by_cases hex : ∃ j, 0 ≤ j ∧ j < (W 0 3).toNat ∧ NL j = tW B m p
    · left
      obtain ⟨I1, I1', b1, b2, b3, b4, b5⟩ := bt_ref hT (j := 3) (by omega)
      have b1 : fX4_refuse 3 I = (iN 0, I1) := b1
      have b2 : fX12_wrong 3 I' = I1' := b2
      rw [i1 hex, j1 hex, Option.bind_some, Option.bind_some, Option.bind_some]
      rw [ite_p (show (1 : Int32) = 0 ∨ (1 : Int32) = 1 from Or.inr rfl), Option.bind_some, ite_n (show ¬ (1 : Int32) = 0 by decide), b1, b2, fX12_newName_J57, ite_p (hasF_no (FF_has b3)).2]
      exact ⟨I1, I1', rfl, rfl, b3, b4, b5⟩
    · right
      rw [i2 hex, j2 hex, Option.bind_some, Option.bind_some, Option.bind_some]
      rw [ite_p (show (0 : Int32) = 0 ∨ (0 : Int32) = 1 from Or.inl rfl), Option.bind_some, ite_p rfl, fX12_newName_J57, ite_n (show ¬ (0 : Int32) < I' 62 2 by rw [hT.2.2]; decide)]
      have e0 : ((4 : Int32) + iN (W 0 3)) = iN (4 + W 0 3) := iN_add 4 _
      have eg : ¬ (iN (4 + W 0 3) < (0 : Int32) ∨ 11 ≤ (iN (4 + W 0 3)).toNatClampNeg) := by
        show ¬ (iN _ < iN 0 ∨ _)
        rw [iN_lt (by omega) (by omega) (by omega) (by omega), iN_tn (by omega) (by omega)]; omega
      rw [e0, ite_n eg, iN_tn (by omega) (by omega), show (4 + W 0 3).toNat = 4 + (W 0 3).toNat by omega, hT.2.1.2.2.2.2.2.2 k1]
      have hT1 : TT B m p I J I' (mm_up J' 64 (4 + (W 0 3).toNat) (iL (c256 (tW B m p)))) := ⟨hT.1, rT_of hT.2.1 (fun _ _ => rfl) (fun _ => rfl) (by rw [up_a (by omega)]), hT.2.2⟩
      obtain ⟨I1, J1, I1', J1', a1, a2, a3, a4, a5, a6, a7⟩ := bt_adv hT1 (by omega) hn
      rw [a2, Option.bind_some]
      exact ⟨hwd, k1, rfl, I1, J1, I1', J1', a1, rfl, a3, ((tN_in (B := B) hT.1.1).2.2 (by omega)).2.2, a4, a5, a6, a7⟩
  · left
    obtain ⟨I1, I1', b1, b2, b3, b4, b5⟩ := bt_ref hT (j := 2) (by omega)
    have b1 : fX4_refuse 2 I = (iN 0, I1) := b1
    have b2 : fX12_wrong 2 I' = I1' := b2
    have hcl : fX4_isNewName n (iN 0) I J r = some (iN 0, I1) := by
      rw [fX4_isNewName, h5, h7, b1]
      have hlast : (if iN 0 = (0 : Int32) ∨ iN 0 = (1 : Int32) then some (iN 0, I1) else none) = some (iN 0, I1) := if_pos (Or.inl rfl)
      by_cases k1 : tK B m p = 1
      · have o1 : ¬ tO B m p = -1 := fun z => hnew ⟨k1, z⟩
        rw [ite_p (show iN (tK B m p) = (1 : Int32) by rw [k1]; rfl), ite_n (show ¬ iN (tO B m p) = (-1 : Int32) by show ¬ iN _ = iN (-1); rw [iN_eq (by omega) (by omega) (by omega) (by omega)]; exact o1)]
        exact hlast
      · rw [ite_n (show ¬ iN (tK B m p) = (1 : Int32) by show ¬ iN _ = iN 1; rw [iN_eq (by omega) (by omega) (by omega) (by omega)]; exact k1)]
        exact hlast
    rw [hcl, ite_p (hnm.mpr hnew), b2, fX12_newName_J16]
    have hl : fX12_newName_L18 n 4 (iN (W 0 3)) 0 I1' J' = some I1' := by
      obtain ⟨n, rfl⟩ : ∃ q, n = q + 1 := ⟨n - 1, by omega⟩
      rw [fX12_newName_L18]
      by_cases hlt : (0 : Int32) < iN (W 0 3)
      · rw [ite_p hlt, ite_n (hasF_no (FF_has b3)).1]
      · rw [ite_n hlt]
    rw [hl, Option.bind_some, fX12_newName_J57, ite_p (hasF_no (FF_has b3)).2]
    exact ⟨I1, I1', rfl, rfl, b3, b4, b5⟩
end LNN
