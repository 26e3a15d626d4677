/-! Strokes, loads put on and taken off, boards cooled. -/
def sOne (S : Int → Int) : Int → Int := ud S 27 ((S 27 * 137 + 71) % 1000)
def kOf (V : (Nat → Int → Int)) (S : Int → Int) : Int := if S 27 % 100 < V 0 4 then 2 else 1
def aSk (V : (Nat → Int → Int)) (S : Int → Int) (b s on k : Int) : Int := (if V 2 (8 * (S (4 + b) + on) + lead V (S b) (S (4 + b)) s k) = 1 then 1 else 0) + (if V 5 b < nht V b (burd V S b) (S b) (S (4 + b)) (S (8 + b)) (S (16 + b)) then 2 else 0)
def sSk (V : (Nat → Int → Int)) (S : Int → Int) (b s on k : Int) : Int → Int :=
  air S b (if V 2 (8 * (S (4 + b) + on) + lead V (S b) (S (4 + b)) s k) = 1 then S b else lead V (S b) (S (4 + b)) s k) (if V 2 (8 * (S (4 + b) + on) + lead V (S b) (S (4 + b)) s k) = 1 then S (4 + b) else S (4 + b) + on)
    (if V 5 b < nht V b (burd V S b) (S b) (S (4 + b)) (S (8 + b)) (S (16 + b)) then 0 else nht V b (burd V S b) (S b) (S (4 + b)) (S (8 + b)) (S (16 + b))) (if V 5 b < nht V b (burd V S b) (S b) (S (4 + b)) (S (8 + b)) (S (16 + b)) then S (12 + b) + 1 else S (12 + b)) (S (16 + b) + 1)
def kSt (V : (Nat → Int → Int)) (S : Int → Int) (b s : Int) (x : Int32) : Prop := (0 ≤ b ∧ b < V 0 2) ∧ (-1 ≤ s ∧ s ≤ 1) ∧ (x = iN 0 → 0 < S (4 + b)) ∧ (¬ x = iN 0 → S (4 + b) < V 0 1)
section STR
variable {V : (Nat → Int → Int)} {S : Int → Int} {I : (Nat → Nat → Int32)} {r : Nat}
theorem wfS_mono {t t' : Int} (h : wfS V t S) (ht : t ≤ t') : wfS V t' S := ⟨fun b h1 h2 => by have := h.1 b h1 h2; omega, h.2⟩
theorem sOne_lo {z : Int} (h : z ≠ 27) : sOne S z = S z := by unfold sOne ud; rw [if_neg h]
theorem sOne_27 : sOne S 27 = (S 27 * 137 + 71) % 1000 := by unfold sOne ud; rw [if_pos rfl]
theorem wfS_one (hw : wfV V) {t : Int} (h : wfS V t S) : wfS V t (sOne S) := by
  have hu := hw.1
  refine ⟨?_, ?_, ?_, ?_⟩
  · intro b h1 h2
    rw [sOne_lo (by omega), sOne_lo (by omega), sOne_lo (by omega), sOne_lo (by omega), sOne_lo (by omega)]
    exact h.1 b h1 h2
  · intro l h1 h2
    rw [sOne_lo (by omega)]
    exact h.2.1 l h1 h2
  · rw [sOne_27]; omega
  · rw [sOne_27]; omega
theorem wfS_sk (hw : wfV V) {t : Int} (h : wfS V t S) {b s on k : Int} (hb1 : 0 ≤ b) (hb2 : b < V 0 2) (hro : 0 ≤ S (4 + b) + on ∧ S (4 + b) + on ≤ V 0 1) : wfS V (t + 1) (sSk V S b s on k) := by
  have hu := hw.1
  have hs := h.1 b hb1 hb2
  have l1 := lead_lo hw (c := S b) (r := S (4 + b)) (s := s) (k := k)
  have l2 := lead_hi hw (c := S b) (r := S (4 + b)) (s := s) (k := k)
  have nl := nht_lo (V := V) (b := b) (B := burd V S b) (c := S b) (r := S (4 + b)) (m := S (16 + b)) (h := S (8 + b)) (by omega)
  refine ⟨?_, ?_, ?_⟩
  · intro b' h1 h2
    unfold sSk
    by_cases e : b' = b
    · subst e
      rw [air_0, air_4, air_8, air_12, air_16]
      refine ⟨?_, ?_, ?_, ?_, ?_, ?_, ?_, ?_, by omega, by omega⟩ <;> split <;> omega
    · have hs' := h.1 b' h1 h2
      have o : ∀ (w : Int) {c q y m x : Int}, 0 ≤ w → w < 5 → air S b c q y m x (4 * w + b') = S (4 * w + b') := by
        intro w c q y m x w0 w1
        unfold air
        rw [if_neg (by omega), if_neg (by omega), if_neg (by omega), if_neg (by omega), if_neg (by omega)]
      have o0 := fun c q y m x => o 0 (c := c) (q := q) (y := y) (m := m) (x := x) (by omega) (by omega)
      simp only [show 4 * (0 : Int) + b' = b' by omega] at o0
      rw [o0, show 4 + b' = 4 * 1 + b' by omega, show 8 + b' = 4 * 2 + b' by omega, show 12 + b' = 4 * 3 + b' by omega, show 16 + b' = 4 * 4 + b' by omega, o 1 (by omega) (by omega), o 2 (by omega) (by omega), o 3 (by omega) (by omega), o 4 (by omega) (by omega)]
      rw [show 4 * 1 + b' = 4 + b' by omega, show 4 * 2 + b' = 8 + b' by omega, show 4 * 3 + b' = 12 + b' by omega, show 4 * 4 + b' = 16 + b' by omega]
      omega
  · intro l h1 h2
    unfold sSk
    rw [air_20 hb1 (by omega) h1]
    exact h.2.1 l h1 h2
  · unfold sSk
    have : ∀ {c q y m x : Int}, air S b c q y m x 27 = S 27 := by
      intro c q y m x
      unfold air
      rw [if_neg (by omega), if_neg (by omega), if_neg (by omega), if_neg (by omega), if_neg (by omega)]
    rw [this]
    exact h.2.2
theorem rf_keepAir {X : Int → Int} (h : hr I 85 28 X) {n : Nat} (hn : 30 ≤ n) : ∃ I', fX12_keepAir n I = some I' ∧ ex [84] I I' ∧ hr I' 84 28 X := by
  obtain ⟨n', I', q1, q2, q3, q4⟩ := loop (fun n j J => fX12_keepAir_L2 n (iN j) J) 1 (P := 28) (fun j J => ex [84] I J ∧ ∀ z : Int, 0 ≤ z → z < j → J 84 z.toNat = iN (X z))
    (by
      intro n j J hn j0 j1 ⟨hx, hz⟩
      have a85 : J 85 j.toNat = iN (X j) := by rw [hx 85 (by decide)]; exact h j j0 j1
      refine ⟨mm_up J 84 j.toNat (iN (X j)), ?_, ex_trans hx (ex_up (by decide)), ?_⟩
      · show fX12_keepAir_L2 (n + 1) _ _ = _
        rw [fX12_keepAir_L2]
        simp (disch := omega) only [iN_lit, iN_add, iN_sub, iN_mul, iN_neg, iN_lt, iN_eq, iN_tn, if_true, if_false, if_pos, if_neg, a85]
      · intro z z0 z1
        rw [up_c]
        by_cases e : z = j
        · rw [if_pos (by omega), e]
        · rw [if_neg (by omega)]; exact hz z z0 (by omega)) 28 n 0 I (by omega) (by omega) ⟨ex_refl, by intro z h1 h2; omega⟩ (by omega)
  refine ⟨I', ?_, q3, q4⟩
  have q2' : fX12_keepAir_L2 n (iN 0) I = fX12_keepAir_L2 n' (iN 28) I' := q2
  rw [fX12_keepAir, iN_lit, q2']
  obtain ⟨n', rfl⟩ : ∃ m, n' = m + 1 := ⟨n' - 1, by omega⟩
  rw [fX12_keepAir_L2]
  simp (disch := omega) only [iN_lit, iN_add, iN_sub, iN_mul, iN_neg, iN_lt, iN_eq, iN_tn, if_true, if_false, if_pos, if_neg, Option.bind_some]
theorem rf_stroke83' (hw : wfV V) (hS : wfS V 600 S) (hV : refV V I) (h85 : hr I 85 28 S) {b s on : Int} (hb1 : 0 ≤ b) (hb2 : b < V 0 2) (hs : -1 ≤ s ∧ s ≤ 1) (hon : -1 ≤ on ∧ on ≤ 1) (hro : 0 ≤ S (4 + b) + on ∧ S (4 + b) + on ≤ V 0 1) {n : Nat} (hn : 310 ≤ n) :
    ∃ I', fX12_stroke_J83 n (iN on) (iN s) (iN b) I = some (iN (aSk V S b s on (kOf V S)), I') ∧ ex [70, 71, 84, 85] I I' ∧ hr I' 84 28 (sSk V S b s on (kOf V S)) := by
  have hu := hw.1
  have hsb := hS.1 b hb1 hb2
  have h27 := hS.2.2
  have a27 : I 85 27 = iN (S 27) := h85 27 (by omega) (by omega)
  have v4 := hV.1.2.2.2.2.1
  have ha : hr I 85 28 (air S b (S b) (S (4 + b)) (S (8 + b)) (S (12 + b)) (S (16 + b))) := by rw [air_self]; exact h85
  rw [fX12_stroke_J83, a27, v4]
  simp only [iN_lit]
  rw [iN_rem (by omega) (by omega) (by omega) (by omega)]
  have e12 : ∀ p : Prop, ∀ [Decidable p], (if p ∧ S (12 + b) < 999 then S (12 + b) + 1 else S (12 + b)) = if p then S (12 + b) + 1 else S (12 + b) := by
    intro p _
    by_cases hp : p
    · rw [if_pos ⟨hp, by omega⟩, if_pos hp]
    · rw [if_neg (fun q => hp q.1), if_neg hp]
  have key : ∀ k : Int, 1 ≤ k ∧ k ≤ 2 → ∃ I', ((fX12_goStroke n (iN b) (iN s) (iN on) (iN k) I).bind fun o616 => (fX12_keepAir n o616.2).bind fun o617 => some (o616.1, o617)) = some (iN (aSk V S b s on k), I') ∧ ex [70, 71, 84, 85] I I' ∧ hr I' 84 28 (sSk V S b s on k) := by
    intro k hk
    obtain ⟨I1, g1, g2, g3⟩ := rf_stroke hw hV (k := k) hb1 hb2 (wfS_pl hS hw) ⟨hsb.1, hsb.2.1⟩ ⟨hsb.2.2.1, hsb.2.2.2.1⟩ hro ⟨hsb.2.2.2.2.1, hsb.2.2.2.2.2.1⟩ ⟨hsb.2.2.2.2.2.2.1, by omega⟩ ⟨hsb.2.2.2.2.2.2.2.2.1, by omega⟩ hs hk hon ha (n := n) (by omega)
    rw [e12] at g3
    obtain ⟨I2, f1, f2, f3⟩ := rf_keepAir g3 (n := n) (by omega)
    rw [g1, Option.bind_some]
    dsimp only
    rw [f1, Option.bind_some]
    exact ⟨I2, rfl, ex_trans (ex_mono g2 (by decide)) (ex_mono f2 (by decide)), f3⟩
  unfold kOf
  by_cases hk : S 27 % 100 < V 0 4
  · rw [ite_p (by rw [iN_lt (by omega) (by omega) (by omega) (by omega)]; exact hk), if_pos hk]
    exact key 2 (by omega)
  · rw [ite_n (by rw [iN_lt (by omega) (by omega) (by omega) (by omega)]; exact hk), if_neg hk]
    exact key 1 (by omega)
theorem rf_Stroke (h : rOK V S I) {Ls : Nat → Int → Int} {a u : Nat} (hU : rU Ls a u I) {b s : Int} {x : Int32} (hb : -2147483648 ≤ b ∧ b < 2147483648) (hs : -2147483648 ≤ s ∧ s < 2147483648) {n : Nat} (hn : 1200 ≤ n) :
    (kSt V S b s x → ∃ I', fX12_stroke n (iN b) (iN s) x I = some (iN (aSk V (sOne S) b s (if x = iN 0 then -1 else 1) (kOf V (sOne S))), I') ∧ xf [70, 71, 84, 85, 86, 1057, 1058] I I' ∧ hr I' 84 28 (sSk V (sOne S) b s (if x = iN 0 then -1 else 1) (kOf V (sOne S))) ∧ rU (Lact Ls a S) (aact a) 0 I') ∧
    (¬ kSt V S b s x → fX12_stroke n (iN b) (iN s) x I = some (iN (-1), I)) := by
  have hu := h.1.1
  have h27 := h.2.1.2.2
  have v1 := h.2.2.1.1.2.1
  rw [fX12_stroke, rf_board h hb, Option.bind_some, fX12_stroke_J40]
  simp only [iN_lit, iN_neg]
  rw [rf_in hs (by omega) (by omega)]
  unfold kSt
  by_cases hh : 0 ≤ b ∧ b < V 0 2
  · rw [if_pos hh, ite_n n10]
    have hsb := h.2.1.1 b hh.1 hh.2
    by_cases h2 : -1 ≤ s ∧ s ≤ 1
    · rw [if_pos h2, ite_n n10]
      have a4 := h.2.2.2 (4 + b) (by omega) (by omega)
      simp (disch := omega) only [iN_add, iN_lt, iN_tn, if_neg, a4, v1]
      -- the act and the stroke
      obtain ⟨I1, g1, g2, g3, g4, g5⟩ := rf_act h hU (n := n) (by omega)
      have a27 : I1 85 27 = iN (S 27) := g5 27 (by omega) (by omega)
      have S1 : hr (mm_up I1 85 27 (iN ((S 27 * 137 + 71) % 1000))) 85 28 (sOne S) := hr_up g5 (k := 27) (by omega) _
      have key : ∀ on : Int, (on = -1 ∨ on = 1) → 0 ≤ S (4 + b) + on → S (4 + b) + on ≤ V 0 1 → ∃ I', fX12_stroke_J83 n (iN on) (iN s) (iN b) (mm_up I1 85 27 (iN ((S 27 * 137 + 71) % 1000))) = some (iN (aSk V (sOne S) b s on (kOf V (sOne S))), I') ∧ xf [70, 71, 84, 85, 86, 1057, 1058] I I' ∧ hr I' 84 28 (sSk V (sOne S) b s on (kOf V (sOne S))) ∧ rU (Lact Ls a S) (aact a) 0 I' := by
        intro on ho o1 o2
        obtain ⟨I2, f1, f2, f3⟩ := rf_stroke83' g4.1 (wfS_one h.1 h.2.1) (refV_of g4.2.2.1 (ex_up (l := [85]) (by decide)) (by decide)) S1 (b := b) (s := s) (on := on) hh.1 hh.2 h2 (by omega) (by rw [sOne_lo (by omega)]; omega) (n := n) (by omega)
        refine ⟨I2, f1, xf_trans (xf_mono g2 (by decide)) (xf_trans (xf_up (by decide)) (xf_mono (xf_ex f2) (by decide))), f3, ?_⟩
        obtain ⟨k1, k2, k3, k4⟩ := g3
        refine ⟨k1, by rw [f2 62 (by decide), up_a (by decide)]; exact k2, by rw [f2 62 (by decide), up_a (by decide)]; exact k3, ?_⟩
        intro i hi z z0 z1
        rw [f2 86 (by decide), up_a (by decide)]
        exact k4 i hi z z0 z1
      have sd : ∀ on : Int32, fX12_stroke_J83 n on (iN s) (iN b) (mm_up I1 85 27 ((I1 85 27 * iN 137 + iN 71) - (I1 85 27 * iN 137 + iN 71) / iN 1000 * iN 1000)) = fX12_stroke_J83 n on (iN s) (iN b) (mm_up I1 85 27 (iN ((S 27 * 137 + 71) % 1000))) := by
        intro on
        rw [a27, iN_mul, iN_add, iN_rem (by omega) (by omega) (by omega) (by omega)]
      by_cases hx : x = iN 0
      · rw [if_pos hx, if_pos hx, fX12_stroke_J37, fX12_stroke_J40]
        simp only [iN_lit, iN_neg]
        by_cases hr0 : S (4 + b) = 0
        · rw [hr0, ite_p rfl]
          refine ⟨fun q => ?_, fun _ => rfl⟩
          have := q.2.2.1 hx
          omega
        · rw [ite_n (by rw [iN_eq (by omega) (by omega) (by omega) (by omega)]; exact hr0), g1, Option.bind_some, if_pos hx, sd]
          refine ⟨fun _ => key (-1) (by omega) (by omega) (by omega), fun q => absurd ⟨hh, h2, fun _ => by omega, fun q' => absurd hx q'⟩ q⟩
      · rw [if_neg hx, if_neg hx, fX12_stroke_J37, fX12_stroke_J40]
        simp only [iN_lit, iN_neg]
        by_cases hr0 : S (4 + b) = V 0 1
        · rw [hr0, ite_p rfl]
          refine ⟨fun q => ?_, fun _ => rfl⟩
          have := q.2.2.2 hx
          omega
        · rw [ite_n (by rw [iN_eq (by omega) (by omega) (by omega) (by omega)]; exact hr0), g1, Option.bind_some, if_neg hx, sd]
          refine ⟨fun _ => key 1 (by omega) (by omega) (by omega), fun q => absurd ⟨hh, h2, fun q' => absurd q' hx, fun _ => by omega⟩ q⟩
    · rw [if_neg h2, ite_p rfl]
      exact ⟨fun q => absurd q.2.1 h2, fun _ => rfl⟩
  · rw [if_neg hh, ite_p rfl]
    exact ⟨fun q => absurd q.1 hh, fun _ => rfl⟩
end STR
