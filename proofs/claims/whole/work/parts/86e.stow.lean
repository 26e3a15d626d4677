/-! Stowing: the method of the reference. -/
theorem encl_get (S : Int → Int) (t : List Int) : ∀ (l : Int) (j : Nat), j < t.length → (encl S l t).getD j 0 = if S (20 + (l + j)) = -1 then t.getD j 0 else -1 := by
  induction t with
  | nil => intro l j h; simp at h
  | cons a t ih =>
    intro l j h
    rw [encl]
    rcases j with _ | j
    · rw [List.getD_cons_zero, List.getD_cons_zero, show l + ((0 : Nat) : Int) = l by omega]
    · rw [List.getD_cons_succ, List.getD_cons_succ, ih (l + 1) j (by simpa using h), show l + 1 + (j : Int) = l + ((j + 1 : Nat) : Int) by omega]
theorem encl_len (S : Int → Int) (t : List Int) : ∀ l : Int, (encl S l t).length = t.length := by
  induction t with
  | nil => intro l; rfl
  | cons a t ih => intro l; rw [encl, List.length_cons, List.length_cons, ih]
section STX
variable {V : (Nat → Int → Int)} {S : Int → Int}
theorem rf_stowby {I : (Nat → Nat → Int32)} (h : rOK V S I) {near : Int32} (hnear : ∀ l : Int, 0 ≤ l → l < V 0 3 → bit near l = decide (S (20 + l) = -1)) {k : Nat} (hk : k < 2147483648) {n : Nat} (hn : 60 ≤ n) :
    ∃ I', fX12_stowBy n near (iN k) I = some (if okD V S (dig 4 (V 0 3).toNat k) 0 = true ∧ fitb V S (dig 4 (V 0 3).toNat k) (V 0 2).toNat = true then setD S (dig 4 (V 0 3).toNat k) 0 else iN (-1), I') ∧ ex [85] I I' ∧ (okD V S (dig 4 (V 0 3).toNat k) 0 = true → ∀ j : Nat, j < (V 0 3).toNat → S (20 + j) = -1 → I' 85 (20 + j) = iN ((dig 4 (V 0 3).toNat k).getD j 0)) := by
  have hu := h.1.1
  obtain ⟨I1, f1, f2, f3, f4⟩ := rf_filled h (n := n) (by omega)
  obtain ⟨z, I2, g1, g2, g3⟩ := rf_sby near (V 0 3).toNat n k (iN 0) I1 (by omega) (by omega) hk f3 hnear
  have tl := dig_len 4 (V 0 3).toNat k
  have tm : ∀ a ∈ dig 4 (V 0 3).toNat k, 0 ≤ a ∧ a < 4 := fun a ha => by have := dig_mem (d := 4) (by omega) _ _ a ha; omega
  rw [fX12_stowBy, f1, Option.bind_some, f3.2.2.1.1.2.2.2.1]
  simp only [iN_lit, iN_sub]
  rw [show (((V 0 3).toNat : Nat) : Int) - 1 = V 0 3 - 1 by omega] at g1
  rw [g1, Option.bind_some]
  generalize hT : dig 4 (V 0 3).toNat k = T at *
  rcases g3 with ⟨q1, q2, q3, q4⟩ | ⟨q1, q2⟩
  · subst q2
    rw [or_z]
    dsimp only
    have R2 := rOK_ex f3 g2 (by decide)
    have h85 : hr I2 85 28 (stwA S T) := by
      intro z z0 z1
      unfold stwA
      by_cases e : 20 ≤ z ∧ z < 20 + T.length
      · have := q3 (z - 20).toNat (by omega)
        rw [show 20 + (z - 20).toNat = z.toNat by omega] at this
        rw [this]
        by_cases e2 : S z = -1
        · rw [if_pos (by rw [show (20 : Int) + (((z - 20).toNat : Nat) : Int) = z by omega]; exact e2), if_pos ⟨e.1, e.2, e2⟩]
        · rw [if_neg (by rw [show (20 : Int) + (((z - 20).toNat : Nat) : Int) = z by omega]; exact e2), if_neg (fun hh => e2 hh.2.2)]
          exact f4 z z0 z1
      · rw [if_neg (fun hh => e ⟨hh.1, hh.2.1⟩), q4 z.toNat (by omega)]
        exact f4 z z0 z1
    have hp : ∀ l, 0 ≤ l → l < V 0 3 → -2 ≤ stwA S T (20 + l) ∧ stwA S T (20 + l) < 4 := by
      intro l l0 l1
      have := wfS_pl h.2.1 h.1 l l0 l1
      unfold stwA
      split
      · have hg : T.getD (20 + l - 20).toNat 0 ∈ T := by
          rw [List.getD_eq_getElem?_getD, List.getElem?_eq_getElem (by omega)]
          exact List.getElem_mem _
        have := tm _ hg
        omega
      · omega
    refine ⟨I2, ?_, ex_trans f2 g2, ?_⟩
    · rcases rf_sfit R2 tl tm h85 hp (n := n) (by omega) with ⟨a1, a2⟩ | ⟨a1, a2⟩
      · rw [a1, Option.bind_some, if_pos ⟨q1, a2⟩]
      · rw [a1, Option.bind_some, if_neg (fun hh => by rw [a2] at hh; exact absurd hh.2 (by decide))]
    · intro _ j hj hn
      rw [q3 j hj, if_pos hn]
  · subst q2
    refine ⟨I2, ?_, ex_trans f2 g2, fun hh => by rw [q1] at hh; cases hh⟩
    rw [if_neg (fun hh => by rw [q1] at hh; exact absurd hh.1 (by decide))]
theorem rf_slay {I : (Nat → Nat → Int32)} (h : rOK V S I) {near : Int32} (hnear : ∀ l : Int, 0 ≤ l → l < V 0 3 → bit near l = decide (S (20 + l) = -1)) {T : List Int} (tl : T.length = (V 0 3).toNat) (h85 : ∀ j : Nat, j < (V 0 3).toNat → S (20 + j) = -1 → I 85 (20 + j) = iN (T.getD j 0)) {y2 y3 : Int32} {n : Nat} (hn : 12 ≤ n) :
    ∃ I', fX12_stowing_L62 n near y2 y3 (iN 0) I = some I' ∧ ex [88] I I' ∧ ∀ z : Nat, z < (V 0 3).toNat → I' 88 z = iN ((encl S 0 T).getD z 0) := by
  have hu := h.1.1
  obtain ⟨n', I', q1, q2, q3, q4⟩ := loop (fun n k I => fX12_stowing_L62 n near y2 y3 (iN k) I) 1 (P := V 0 3) (fun k J => ex [88] I J ∧ ∀ z : Nat, z < k → J 88 z = iN ((encl S 0 T).getD z 0))
    (by
      intro n k J hn k0 k1 ⟨hx, hz⟩
      have hv : J 62 49 = iN (V 0 3) := by rw [hx 62 (by decide)]; exact h.2.2.1.1.2.2.2.1
      have he := encl_get S T 0 k.toNat (by omega)
      rw [show (0 : Int) + ((k.toNat : Nat) : Int) = k by omega] at he
      refine ⟨mm_up J 88 k.toNat (iN ((encl S 0 T).getD k.toNat 0)), ?_, ex_trans hx (ex_up (by decide)), ?_⟩
      · show fX12_stowing_L62 (n + 1) _ _ _ _ _ = _
        rw [fX12_stowing_L62, hv]
        simp (disch := omega) only [iN_lit, iN_add, iN_sub, iN_mul, iN_neg, iN_lt, iN_eq, iN_tn, if_true, if_false, if_pos, if_neg, iN_31, bit_t1]
        rw [hnear k k0 k1, he]
        by_cases e : S (20 + k) = -1
        · have e85 : J 85 (20 + k).toNat = iN (T.getD k.toNat 0) := by
            rw [hx 85 (by decide), show (20 + k).toNat = 20 + k.toNat by omega]
            exact h85 k.toNat (by omega) (by rw [show ((k.toNat : Nat) : Int) = k by omega]; exact e)
          rw [if_pos (decide_eq_true e), if_pos e, e85]
        · rw [if_neg (by rw [decide_eq_false e]; decide), if_neg e]
      · intro z z1
        rw [up_c]
        by_cases e : z = k.toNat
        · rw [if_pos e, e]
        · rw [if_neg e]; exact hz z (by omega)) (V 0 3).toNat n 0 I (by omega) (by omega) ⟨ex_refl, by intro z h; omega⟩ (by omega)
  refine ⟨I', ?_, q3, fun z hz => q4 z (by omega)⟩
  have q2' : fX12_stowing_L62 n near y2 y3 (iN 0) I = fX12_stowing_L62 n' near y2 y3 (iN (V 0 3)) I' := q2
  have hv : I' 62 49 = iN (V 0 3) := by rw [q3 62 (by decide)]; exact h.2.2.1.1.2.2.2.1
  rw [q2']
  obtain ⟨n', rfl⟩ : ∃ m, n' = m + 1 := ⟨n' - 1, by omega⟩
  rw [fX12_stowing_L62, hv]
  simp (disch := omega) only [iN_lit, iN_add, iN_sub, iN_mul, iN_neg, iN_lt, iN_eq, iN_tn, if_true, if_false, if_pos, if_neg]
def elay (S : Int → Int) (x : Option (Int × List Int)) : List Int := match x with
  | none => []
  | some (_, t) => encl S 0 t
theorem rf_stow_l {I : (Nat → Nat → Int32)} (h : rOK V S I) {near : Int32} (hnear : ∀ l : Int, 0 ≤ l → l < V 0 3 → bit near l = decide (S (20 + l) = -1)) (hr0 : rl [] I) {n : Nat} (hn : 17000 ≤ n) :
    ∃ I', fX12_stowing_L16 n near (iN 1000000) (iN 0) I = some (iN (worth 1000000 (fmin (fR V S) none (lex 4 (V 0 3).toNat))), I') ∧ xf [85, 88, 1061] I I' ∧ rl (elay S (fmin (fR V S) none (lex 4 (V 0 3).toNat))) I' := by
  have hu := h.1.1
  have p4 : 4 ^ (V 0 3).toNat ≤ 16384 := Nat.le_trans (Nat.pow_le_pow_right (by omega) (by omega : (V 0 3).toNat ≤ 7)) (by decide)
  have hok : ∀ (k : Int) (v : Int) (t : List Int), ((List.range k.toNat).map (dig 4 (V 0 3).toNat)).foldl (fm (fR V S)) none = some (v, t) → 0 ≤ v ∧ v ≤ 8 := by
    intro k v t e
    have hm := fmin_mem _ _ _ _ _ e
    rcases hm with hm | ⟨m1, m2⟩
    · cases hm
    rw [List.mem_map] at m1
    obtain ⟨k', _, rfl⟩ := m1
    rw [ok_eq h.1 h.2.1 _ (fun a ha => by have := dig_mem (d := 4) (by omega) _ _ a ha; omega) (dig_len _ _ _)] at m2
    split at m2
    · injection m2 with m2
      have := mem_in (setD S (dig 4 (V 0 3).toNat k') 0) 8
      omega
    · cases m2
  obtain ⟨n', s, h1, h2, h3, h4, h5⟩ := loop (fun n k (s : Int × (Nat → Nat → Int32)) => fX12_stowing_L16 n near (iN s.1) (iN k) s.2) 80 (P := ((4 ^ (V 0 3).toNat : Nat) : Int)) (fun k s => xf [85, 88, 1061] I s.2 ∧ s.1 = worth 1000000 (((List.range k.toNat).map (dig 4 (V 0 3).toNat)).foldl (fm (fR V S)) none) ∧ rl (elay S (((List.range k.toNat).map (dig 4 (V 0 3).toNat)).foldl (fm (fR V S)) none)) s.2)
    (by
      intro n k s hn h0 h1 ⟨hx, hz, hl⟩
      have R := rOK_xf h hx (by decide)
      obtain ⟨I', g1, g2, g3⟩ := rf_stowby R hnear (k := k.toNat) (by omega) (n := n) (by omega)
      rw [show ((k.toNat : Nat) : Int) = k by omega] at g1
      have R' := rOK_ex R g2 (by decide)
      have hx' : xf [85, 88, 1061] I I' := xf_trans hx (xf_mono (xf_ex g2) (by decide))
      have tl := dig_len 4 (V 0 3).toNat k.toNat
      have tm : ∀ a ∈ dig 4 (V 0 3).toNat k.toNat, 0 ≤ a ∧ a < 4 := fun a ha => by have := dig_mem (d := 4) (by omega) _ _ a ha; omega
      have ok := ok_eq h.1 h.2.1 _ tm tl
      rw [fold_s _ _ _ _ h0]
      have hok' := hok k
      generalize hX : ((List.range k.toNat).map (dig 4 (V 0 3).toNat)).foldl (fm (fR V S)) none = X at *
      generalize hT : dig 4 (V 0 3).toNat k.toNat = T at *
      have hs1 : 0 ≤ s.1 ∧ s.1 ≤ 1000000 := by
        rw [hz]
        rcases X with _ | ⟨v, t⟩
        · rw [worth]; omega
        · have := hok' v t rfl; rw [worth]; omega
      have hl' : rl (elay S X) I' := ⟨by rw [g2 62 (by decide)]; exact hl.1, fun z hz => by rw [g2 88 (by decide)]; exact hl.2 z hz⟩
      have unf := fX12_stowing_L16.eq_def (n + 1) near (iN s.1) (iN k) s.2
      dsimp only at unf
      rw [R.2.2.1.1.2.2.2.1, iN_lit, show iN (V 0 3) = iN (((V 0 3).toNat : Nat) : Int) by congr 1; omega, show iN (4 : Int) = iN ((4 : Nat) : Int) from rfl, rf_pow (by omega) (by omega) (by omega), Option.bind_some, ite_p (by rw [iN_lt (by omega) (by omega) (by omega) (by omega)]; exact h1), g1, Option.bind_some] at unf
      simp only [iN_lit, iN_add] at unf
      by_cases hh : okD V S T 0 = true ∧ fitb V S T (V 0 2).toNat = true
      · rw [if_pos hh] at ok unf
        obtain ⟨q, hq⟩ := setD_nat S T tm 0
        have hm8 := mem_in (setD S T 0) 8
        rw [ite_n (show ¬ setD S T 0 < iN 0 by rw [hq, iN_lt (by omega) (by omega) (by omega) (by omega)]; omega), rf_mem _ (by omega), Option.bind_some] at unf
        by_cases hlt : mem (setD S T 0) 8 < s.1
        · have fe : fm (fR V S) X T = some (mem (setD S T 0) 8, T) := by
            rw [fm, ok]
            rw [hz] at hlt
            rcases X with _ | ⟨w, t⟩
            · rfl
            · rw [worth] at hlt
              show (if _ < w then _ else _) = _
              rw [if_pos hlt]
          rw [ite_p (by rw [iN_lt (by omega) (by omega) (by omega) (by omega)]; exact hlt), Option.bind_some] at unf
          obtain ⟨I3, b1, b2, b3⟩ := rf_slay R' hnear tl (fun j hj hn => g3 hh.1 j hj hn) (y2 := iN (mem (setD S T 0) 8)) (y3 := iN k) (n := n) (by omega)
          have hv : I3 62 49 = iN (V 0 3) := by rw [b2 62 (by decide)]; exact R'.2.2.1.1.2.2.2.1
          rw [b1, Option.bind_some, hv] at unf
          rw [fe]
          refine ⟨(mem (setD S T 0) 8, mm_up I3 62 61 (iN (V 0 3))), unf, xf_trans hx' (xf_trans (xf_mono (xf_ex b2) (by decide)) (xf_u62 (by decide))), rfl, ?_, ?_⟩
          · dsimp only
            rw [up_eq, elay, encl_len, tl]; congr 1; omega
          · intro z hz
            rw [elay, encl_len, tl] at hz
            dsimp only
            rw [up_a (by decide)]
            exact b3 z hz
        · have fe : fm (fR V S) X T = X := by
            rw [fm, ok]
            rw [hz] at hlt
            rcases X with _ | ⟨w, t⟩
            · rw [worth] at hlt; omega
            · rw [worth] at hlt
              show (if _ < w then _ else _) = _
              rw [if_neg hlt]
          rw [ite_n (by rw [iN_lt (by omega) (by omega) (by omega) (by omega)]; exact hlt)] at unf
          rw [fe]
          exact ⟨(s.1, I'), unf, hx', hz, hl'⟩
      · rw [if_neg hh] at ok unf
        have fe : fm (fR V S) X T = X := by rw [fm, ok]
        rw [ite_p (show iN (-1) < iN 0 by rw [iN_lt (by omega) (by omega) (by omega) (by omega)]; omega)] at unf
        rw [fe]
        exact ⟨(s.1, I'), unf, hx', hz, hl'⟩) (4 ^ (V 0 3).toNat) n 0 (1000000, I) (by omega) (by omega) ⟨xf_refl, rfl, hr0⟩ (by omega)
  rw [fold_a _ _ (by omega)] at h4 h5
  refine ⟨s.2, ?_, h3, h5⟩
  have R := rOK_xf h h3 (by decide)
  have h2' : fX12_stowing_L16 n near (iN 1000000) (iN 0) I = fX12_stowing_L16 n' near (iN s.1) (iN ((4 ^ (V 0 3).toNat : Nat) : Int)) s.2 := h2
  rw [h2']
  obtain ⟨n', rfl⟩ : ∃ m, n' = m + 1 := ⟨n' - 1, by omega⟩
  rw [fX12_stowing_L16, R.2.2.1.1.2.2.2.1, iN_lit, show iN (V 0 3) = iN (((V 0 3).toNat : Nat) : Int) by congr 1; omega, show iN (4 : Int) = iN ((4 : Nat) : Int) from rfl, rf_pow (by omega) (by omega) (by omega), Option.bind_some, if_neg (iN_ir _), h4]
  rfl
theorem near_bit (hw : wfV V) : ∀ l : Int, 0 ≤ l → l < V 0 3 → bit (lds S (-1) (V 0 3).toNat) l = decide (S (20 + l) = -1) := by
  have hu := hw.1
  intro l l0 l1
  rw [bit_lds S (-1) _ (by omega) l0 (by omega)]
  congr 1
  apply propext
  constructor
  · exact fun hh => hh.2
  · exact fun hh => ⟨by omega, hh⟩
theorem rf_near {I : (Nat → Nat → Int32)} (h : rOK V S I) {n : Nat} (hn : 40 ≤ n) : ∃ I', fX12_nearLoads n I = some (lds S (-1) (V 0 3).toNat, I') ∧ ex [85] I I' := by
  obtain ⟨I', g1, g2, g3, g4⟩ := rf_filled h (n := n) (by omega)
  refine ⟨I', ?_, g2⟩
  rw [fX12_nearLoads, g1, Option.bind_some]
  simp only [iN_lit, iN_neg]
  rw [rf_loads h.1 g3.2.2.1 g4 (wfS_pl h.2.1 h.1) (by omega) (by omega)]
  rfl
theorem sSw_eq (hw : wfV V) : sSw V S = (fmin (fR V S) none (lex 4 (V 0 3).toNat)).map (fun p => (p.1, encl S 0 p.2)) := by
  have hu := hw.1
  have := lex_cs (V := V) (S := S) (B := (V 0 2).toNat) (by omega) (V 0 3).toNat (rmS V S) (fun _ => 0) 0 0
  rw [show (((V 0 2).toNat : Nat) : Int) = V 0 2 by omega] at this
  exact this.symm
theorem rf_Stow {I : (Nat → Nat → Int32)} (h : rOK V S I) {n : Nat} (hn : 18000 ≤ n) : ∃ I', fX12_stowing n I = some (iN (worth (-1) (sSw V S)), I') ∧ xf [85, 88, 1061] I I' ∧ rl (lay0 (sSw V S)) I' := by
  have hu := h.1.1
  have x1 : xf [85, 88, 1061] I (mm_up I 62 61 (iN 0)) := xf_u62 (by decide)
  have h1 : rOK V S (mm_up I 62 61 (iN 0)) := rOK_xf h x1 (by decide)
  rw [fX12_stowing]
  simp only [iN_lit, iN_neg]
  obtain ⟨I2, g1, g2⟩ := rf_near h1 (n := n) (by omega)
  have h2 := rOK_ex h1 g2 (by decide)
  obtain ⟨I3, f1, f2, f3⟩ := rf_stow_l h2 (near_bit h.1) ⟨by rw [g2 62 (by decide)]; exact rl_0.1, by intro z hz; exact absurd hz (by simp)⟩ (n := n) (by omega)
  rw [g1, Option.bind_some]
  dsimp only
  rw [f1, Option.bind_some]
  have es := sSw_eq (S := S) h.1
  refine ⟨I3, ?_, xf_trans x1 (xf_trans (xf_mono (xf_ex g2) (by decide)) f2), ?_⟩
  · cases e : fmin (fR V S) none (lex 4 (V 0 3).toNat) with
    | none =>
      rw [e] at es
      rw [es]
      exact if_pos rfl
    | some p =>
      obtain ⟨v, t⟩ := p
      rw [e] at es
      have hv := xP_in h.1 (show xP V S false (V 0 2).toNat (rmS V S) = some (v, encl S 0 t) from es)
      rw [es]
      show (if iN v = iN 1000000 then _ else _) = _
      rw [if_neg (by rw [iN_eq (by omega) (by omega) (by omega) (by omega)]; omega)]
      rfl
  · rw [es]
    cases e : fmin (fR V S) none (lex 4 (V 0 3).toNat) with
    | none => rw [e] at f3; exact f3
    | some p => rw [e] at f3; exact f3
end STX
