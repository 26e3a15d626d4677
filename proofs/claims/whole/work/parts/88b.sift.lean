/-! What was seen; how many rows of strokes fit: the class. -/
/-- Wt 0 sort, 1 strokes, 2 much, 3 is, 4 told, 5 untold -/
def wfW (V : (Nat → Int → Int)) (Wt : (Nat → Int → Int)) (N T : Int) : Prop := (0 ≤ N ∧ N ≤ 30) ∧ (0 ≤ T ∧ T ≤ 100000) ∧ (∀ j, 0 ≤ j → j < N → (Wt 0 j = 0 ∨ Wt 0 j = 1) ∧ (1 ≤ Wt 1 j ∧ Wt 1 j ≤ V 0 1) ∧ (0 ≤ Wt 2 j ∧ Wt 2 j ≤ 99) ∧ (Wt 3 j = 0 ∨ Wt 3 j = 1) ∧ (0 ≤ Wt 4 j ∧ Wt 4 j ≤ T) ∧ -1 ≤ Wt 5 j ∧ Wt 5 j ≤ T)
def cW (Wt : (Nat → Int → Int)) (N T : Int) (I : (Nat → Nat → Int32)) : Prop := I 54 9 = iN N ∧ I 54 10 = iN T ∧ ∀ (j : Int) (w : Nat), 0 ≤ j → j < N → w < 6 → I 55 (j * 6 + w).toNat = iN (Wt w j)
def rW (Wt : (Nat → Int → Int)) (N T : Int) (I : (Nat → Nat → Int32)) : Prop := I 62 75 = iN N ∧ I 62 76 = iN T ∧ hr I 96 N (Wt 0) ∧ hr I 97 N (Wt 1) ∧ hr I 98 N (Wt 2) ∧ hr I 101 N (Wt 3) ∧ hr I 99 N (Wt 4) ∧ hr I 100 N (Wt 5)
def cnts (Wt : (Nat → Int → Int)) (k j : Int) : Bool := decide (Wt 4 j ≤ k) && (decide (Wt 5 j = -1) || decide (k < Wt 5 j))
def okj (Wt : (Nat → Int → Int)) (k j s c h : Int) : Bool := !(cnts Wt k j && decide (Wt 1 j = s)) || (decide (Wt 2 j ≤ (if Wt 0 j = 0 then c else h)) == decide (Wt 3 j = 1))
def Zn (Wt : (Nat → Int → Int)) (k : Int) (n : Nat) (s c h : Int) : Bool := match n with
  | 0 => true
  | n + 1 => Zn Wt k n s c h && okj Wt k n s c h
def ma (a b : Int) : Int := if a < b then b else a
def lo (Wt : (Nat → Int → Int)) (k : Int) (n : Nat) (i : Int) : Int := match n with
  | 0 => 0
  | n + 1 => if cnts Wt k n = true ∧ Wt 0 n * 7 + Wt 1 n = i ∧ ¬ Wt 3 n = 0 then ma (lo Wt k n i) (Wt 2 n) else lo Wt k n i
def hi (Wt : (Nat → Int → Int)) (k : Int) (n : Nat) (i : Int) : Int := match n with
  | 0 => 99
  | n + 1 => if cnts Wt k n = true ∧ Wt 0 n * 7 + Wt 1 n = i ∧ Wt 3 n = 0 then mi (hi Wt k n i) (Wt 2 n - 1) else hi Wt k n i
section SIF
variable {V Wt : (Nat → Int → Int)} {S : Int → Int} {r : Nat} {N T : Int}
theorem lohi_in (hW : wfW V Wt N T) (k : Int) (n : Nat) (hn : n ≤ N) (i : Int) : (0 ≤ lo Wt k n i ∧ lo Wt k n i ≤ 99) ∧ -1 ≤ hi Wt k n i ∧ hi Wt k n i ≤ 99 := by
  induction n with
  | zero => rw [lo, hi]; omega
  | succ n ih =>
    have := ih (by omega)
    have hj := hW.2.2 n (by omega) (by omega)
    rw [lo, hi]
    unfold ma mi
    split <;> split <;> (try split) <;> (try split) <;> omega
theorem Z_iff (hu : V 0 1 ≤ 6) (hW : wfW V Wt N T) (k : Int) (n : Nat) (hn : n ≤ N) {s c h : Int} (hs : 1 ≤ s ∧ s ≤ 6) (hc : 0 ≤ c ∧ c ≤ 99) (hh : 0 ≤ h ∧ h ≤ 99) : Zn Wt k n s c h = true ↔ (lo Wt k n s ≤ c ∧ c ≤ hi Wt k n s) ∧ lo Wt k n (7 + s) ≤ h ∧ h ≤ hi Wt k n (7 + s) := by
  induction n with
  | zero => rw [Zn, lo, hi, lo, hi]; simp; omega
  | succ n ih =>
    have ihn := ih (by omega)
    obtain ⟨j0, j1, j2, j3, _⟩ := hW.2.2 n (by omega) (by omega)
    rw [Zn, Bool.and_eq_true, ihn]
    unfold okj
    rw [lo, hi, lo, hi]
    by_cases ec : cnts Wt k n = true
    · by_cases es : Wt 1 n = s
      · rw [ec, decide_eq_true es, Bool.true_and, Bool.not_true, Bool.false_or]
        rcases j0 with e0 | e0 <;> rcases j3 with e3 | e3
        · rw [e0, e3, if_pos rfl, if_neg (by omega), if_pos ⟨rfl, by omega, rfl⟩, if_neg (by omega), if_neg (by omega)]
          have : decide ((0 : Int) = 1) = false := rfl
          rw [this]
          unfold mi
          by_cases q : Wt 2 n ≤ c
          · rw [decide_eq_true q]; simp; split <;> omega
          · rw [decide_eq_false q]; simp; split <;> omega
        · rw [e0, e3, if_pos rfl, if_pos ⟨rfl, by omega, by omega⟩, if_neg (by omega), if_neg (by omega), if_neg (by omega)]
          unfold ma
          by_cases q : Wt 2 n ≤ c
          · rw [decide_eq_true q]; simp; split <;> omega
          · rw [decide_eq_false q]; simp; split <;> omega
        · rw [e0, e3, if_neg (by omega), if_neg (by omega), if_neg (by omega), if_neg (by omega), if_pos ⟨rfl, by omega, rfl⟩]
          have : decide ((0 : Int) = 1) = false := rfl
          rw [this]
          unfold mi
          by_cases q : Wt 2 n ≤ h
          · rw [decide_eq_true q]; simp; split <;> omega
          · rw [decide_eq_false q]; simp; split <;> omega
        · rw [e0, e3, if_neg (by omega), if_neg (by omega), if_neg (by omega), if_pos ⟨rfl, by omega, by omega⟩, if_neg (by omega)]
          unfold ma
          by_cases q : Wt 2 n ≤ h
          · rw [decide_eq_true q]; simp; split <;> omega
          · rw [decide_eq_false q]; simp; split <;> omega
      · rw [ec, decide_eq_false es, Bool.and_false, Bool.not_false, Bool.true_or]
        rcases j0 with e0 | e0
        · rw [e0, if_neg (by omega), if_neg (by omega), if_neg (by omega), if_neg (by omega)]; simp
        · rw [e0, if_neg (by omega), if_neg (by omega), if_neg (by omega), if_neg (by omega)]; simp
    · have ec' : cnts Wt k n = false := by simpa using ec
      rw [ec', Bool.false_and, Bool.not_false, Bool.true_or, if_neg (fun q => by cases q.1), if_neg (fun q => by cases q.1), if_neg (fun q => by cases q.1), if_neg (fun q => by cases q.1)]
      simp
theorem cW_get (hW : wfW V Wt N T) {I : (Nat → Nat → Int32)} (h : cW Wt N T I) {j : Int} {w : Nat} (h1 : 0 ≤ j) (h2 : j < N) (h3 : w < 6) : fX10_get (iN j) (iN w) I = iN (Wt w j) := by
  have hN := hW.1
  rw [fX10_get]
  simp (disch := omega) only [iN_lit, iN_mul, iN_add, iN_pick]
  exact h.2.2 j w h1 h2 h3
theorem cl_counts (hW : wfW V Wt N T) {I : (Nat → Nat → Int32)} (h : cW Wt N T I) {j k : Int} (h1 : 0 ≤ j) (h2 : j < N) (hk : -2147483648 ≤ k ∧ k < 2147483648) : fX10_countsAt (iN j) (iN k) I = if cnts Wt k j = true then iN 1 else iN 0 := by
  obtain ⟨_, _, _, _, j4, j5⟩ := hW.2.2 j h1 h2
  have hT := hW.2.1
  have g4 : fX10_get (iN j) (iN 4) I = iN (Wt 4 j) := cW_get hW h h1 h2 (w := 4) (by omega)
  have g5 : fX10_get (iN j) (iN 5) I = iN (Wt 5 j) := cW_get hW h h1 h2 (w := 5) (by omega)
  rw [fX10_countsAt]
  simp only [iN_lit, iN_neg, g4, g5]
  simp (disch := omega) only [iN_lt, iN_eq]
  unfold cnts
  by_cases e1 : k < Wt 4 j
  · rw [if_pos e1, decide_eq_false (show ¬ Wt 4 j ≤ k by omega)]; rfl
  · rw [if_neg e1, decide_eq_true (show Wt 4 j ≤ k by omega)]
    by_cases e2 : Wt 5 j = -1
    · rw [if_pos e2, decide_eq_true e2]; rfl
    · rw [if_neg e2, decide_eq_false e2]
      by_cases e3 : k < Wt 5 j
      · rw [if_pos e3, decide_eq_true e3]; rfl
      · rw [if_neg e3, decide_eq_false e3]; rfl
theorem cl_narrow (hu : V 0 1 ≤ 6) (hW : wfW V Wt N T) {I : (Nat → Nat → Int32)} (h : cW Wt N T I) {k : Int} (hk : -2147483648 ≤ k ∧ k < 2147483648) {n : Nat} (hn : 60 ≤ n) : ∃ I', fX10_narrow n (iN k) I = some I' ∧ ex [59, 60] I I' ∧ hr I' 59 14 (lo Wt k N.toNat) ∧ hr I' 60 14 (hi Wt k N.toNat) := by
  have hN := hW.1
  have x0 : ex [59, 60] I (mf_fill (mf_fill I 59 14 (iN 0)) 60 14 (iN 99)) := ex_trans (ex_fill (by decide)) (ex_fill (by decide))
  obtain ⟨n', I', q1, q2, q3, q4, q5⟩ := loop (fun n j J => fX10_narrow_L19 n (iN k) (iN j) J) 1 (P := N) (fun j J => ex [59, 60] I J ∧ hr J 59 14 (lo Wt k j.toNat) ∧ hr J 60 14 (hi Wt k j.toNat))
    (by
      intro n j J hn j0 j1 ⟨hx, hl, hh⟩
      have hJ : cW Wt N T J := ⟨by rw [hx 54 (by decide)]; exact h.1, by rw [hx 54 (by decide)]; exact h.2.1, fun a w a0 a1 w0 => by rw [hx 55 (by decide)]; exact h.2.2 a w a0 a1 w0⟩
      obtain ⟨w0, w1, w2, w3, _⟩ := hW.2.2 j j0 j1
      have g0 : fX10_get (iN j) (iN 0) J = iN (Wt 0 j) := cW_get hW hJ j0 j1 (w := 0) (by omega)
      have g1 : fX10_get (iN j) (iN 1) J = iN (Wt 1 j) := cW_get hW hJ j0 j1 (w := 1) (by omega)
      have g2 : fX10_get (iN j) (iN 2) J = iN (Wt 2 j) := cW_get hW hJ j0 j1 (w := 2) (by omega)
      have g3 : fX10_get (iN j) (iN 3) J = iN (Wt 3 j) := cW_get hW hJ j0 j1 (w := 3) (by omega)
      have ej : ((j.toNat : Nat) : Int) = j := by omega
      have bd : 1 ≤ Wt 0 j * 7 + Wt 1 j ∧ Wt 0 j * 7 + Wt 1 j < 14 := by rcases w0 with e | e <;> rw [e] <;> omega
      have lhi := lohi_in hW k j.toNat (by omega) (Wt 0 j * 7 + Wt 1 j)
      have pl := hl (Wt 0 j * 7 + Wt 1 j) (by omega) bd.2
      have ph := hh (Wt 0 j * 7 + Wt 1 j) (by omega) bd.2
      have unf := fX10_narrow_L19.eq_def (n + 1) (iN k) (iN j) J
      dsimp only at unf
      rw [hJ.1, ite_p (by rw [iN_lt (by omega) (by omega) (by omega) (by omega)]; exact j1), cl_counts hW hJ j0 j1 hk] at unf
      simp only [iN_lit, g0, g1, g2, g3, fX10_boundOf, iN_mul, iN_add, iN_sub] at unf
      rw [iN_pick (by omega) (by omega) (by omega), iN_pick (by omega) (by omega) (by omega), iN_put (by omega) (by omega) (by omega), iN_put (by omega) (by omega) (by omega), pl, ph, cl_min _ _ (by omega) (by omega), cl_max _ _ (by omega) (by omega)] at unf
      rw [show (j + 1).toNat = j.toNat + 1 by omega]
      by_cases ec : cnts Wt k j = true
      · rw [if_pos ec, ite_n n10] at unf
        by_cases e3 : Wt 3 j = 0
        · rw [ite_p (by rw [e3])] at unf
          refine ⟨_, unf, ex_trans hx (ex_up (by decide)), ?_, ?_⟩
          · intro z z0 z1
            rw [up_a (by decide), hl z z0 z1, lo, if_neg (by rw [ej]; exact fun q => q.2.2 e3)]
          · intro z z0 z1
            rw [up_c, hi, ej]
            by_cases ez : Wt 0 j * 7 + Wt 1 j = z
            · rw [if_pos (show z.toNat = (Wt 0 j * 7 + Wt 1 j).toNat by omega), if_pos (show cnts Wt k j = true ∧ Wt 0 j * 7 + Wt 1 j = z ∧ Wt 3 j = 0 from ⟨ec, ez, e3⟩), ez]; rfl
            · rw [if_neg (by omega), if_neg (fun q => ez q.2.1)]; exact hh z z0 z1
        · rw [ite_n (by rw [iN_eq (by omega) (by omega) (by omega) (by omega)]; exact e3)] at unf
          refine ⟨_, unf, ex_trans hx (ex_up (by decide)), ?_, ?_⟩
          · intro z z0 z1
            rw [up_c, lo, ej]
            by_cases ez : Wt 0 j * 7 + Wt 1 j = z
            · rw [if_pos (show z.toNat = (Wt 0 j * 7 + Wt 1 j).toNat by omega), if_pos (show cnts Wt k j = true ∧ Wt 0 j * 7 + Wt 1 j = z ∧ ¬ Wt 3 j = 0 from ⟨ec, ez, e3⟩), ez]; rfl
            · rw [if_neg (by omega), if_neg (fun q => ez q.2.1)]; exact hl z z0 z1
          · intro z z0 z1
            rw [up_a (by decide), hh z z0 z1, hi, if_neg (by rw [ej]; exact fun q => e3 q.2.2)]
      · rw [if_neg ec, ite_p rfl] at unf
        refine ⟨J, unf, hx, ?_, ?_⟩
        · intro z z0 z1
          rw [hl z z0 z1, lo, if_neg (by rw [ej]; exact fun q => ec q.1)]
        · intro z z0 z1
          rw [hh z z0 z1, hi, if_neg (by rw [ej]; exact fun q => ec q.1)]) N.toNat n 0 (mf_fill (mf_fill I 59 14 (iN 0)) 60 14 (iN 99)) (by omega) (by omega) ⟨x0, fun z z0 z1 => by rw [fill_a (by decide), fill_eq (by omega)]; rfl, fun z z0 z1 => by rw [fill_eq (by omega)]; rfl⟩ (by omega)
  refine ⟨I', ?_, q3, q4, q5⟩
  rw [fX10_narrow]
  simp only [iN_lit]
  have q2' : fX10_narrow_L19 n (iN k) (iN 0) (mf_fill (mf_fill I 59 14 (iN 0)) 60 14 (iN 99)) = fX10_narrow_L19 n' (iN k) (iN N) I' := q2
  rw [q2']
  obtain ⟨n', rfl⟩ : ∃ m, n' = m + 1 := ⟨n' - 1, by omega⟩
  rw [fX10_narrow_L19, q3 54 (by decide), h.1, if_neg (iN_ir _), Option.bind_some]
/-- how many rows of strokes fit from here -/
def fc (V : (Nat → Int → Int)) (Z : Int → Int → Int → Bool) (n : Nat) (x : Int × Int × Int) (m : Int) : Int := match n with
  | 0 => 1
  | n + 1 => (if Z (m + 1) (st3 V x m 0).1 (st3 V x m 0).2.2 = true then fc V Z n (st3 V x m 0) (m + 1) else 0) + (if Z (m + 1) (st3 V x m 1).1 (st3 V x m 1).2.2 = true then fc V Z n (st3 V x m 1) (m + 1) else 0) + (if Z (m + 1) (st3 V x m 2).1 (st3 V x m 2).2.2 = true then fc V Z n (st3 V x m 2) (m + 1) else 0)
/-- how many of them have the steer a at the stroke s -/
def ta (V : (Nat → Int → Int)) (Z : Int → Int → Int → Bool) (n : Nat) (x : Int × Int × Int) (m s a : Int) : Int := match n with
  | 0 => 0
  | n + 1 => (if Z (m + 1) (st3 V x m 0).1 (st3 V x m 0).2.2 = true then (if s = m + 1 then (if a = 0 then fc V Z n (st3 V x m 0) (m + 1) else 0) else ta V Z n (st3 V x m 0) (m + 1) s a) else 0) + (if Z (m + 1) (st3 V x m 1).1 (st3 V x m 1).2.2 = true then (if s = m + 1 then (if a = 1 then fc V Z n (st3 V x m 1) (m + 1) else 0) else ta V Z n (st3 V x m 1) (m + 1) s a) else 0) + (if Z (m + 1) (st3 V x m 2).1 (st3 V x m 2).2.2 = true then (if s = m + 1 then (if a = 2 then fc V Z n (st3 V x m 2) (m + 1) else 0) else ta V Z n (st3 V x m 2) (m + 1) s a) else 0)
theorem fc_in (V : (Nat → Int → Int)) (Z : Int → Int → Int → Bool) (n : Nat) : ∀ (x : Int × Int × Int) (m : Int), 0 ≤ fc V Z n x m ∧ fc V Z n x m ≤ ((3 ^ n : Nat) : Int) := by
  induction n with
  | zero => intro x m; rw [fc]; simp
  | succ n ih =>
    intro x m
    have a := ih (st3 V x m 0) (m + 1)
    have b := ih (st3 V x m 1) (m + 1)
    have c := ih (st3 V x m 2) (m + 1)
    have : ((3 ^ (n + 1) : Nat) : Int) = 3 * ((3 ^ n : Nat) : Int) := by rw [Nat.pow_succ, Nat.mul_comm]; exact Int.natCast_mul ..
    rw [fc, this]
    generalize ((3 ^ n : Nat) : Int) = P at *
    constructor <;> (split <;> split <;> split <;> omega)
theorem ta_old (V : (Nat → Int → Int)) (Z : Int → Int → Int → Bool) (n : Nat) : ∀ (x : Int × Int × Int) (m s a : Int), s ≤ m → ta V Z n x m s a = 0 := by
  induction n with
  | zero => intro x m s a _; rfl
  | succ n ih =>
    intro x m s a h
    rw [ta, if_neg (show ¬ s = m + 1 by omega), if_neg (show ¬ s = m + 1 by omega), if_neg (show ¬ s = m + 1 by omega), ih _ _ _ _ (by omega), ih _ _ _ _ (by omega), ih _ _ _ _ (by omega)]
    split <;> split <;> split <;> rfl
theorem ta_sum (V : (Nat → Int → Int)) (Z : Int → Int → Int → Bool) (n : Nat) : ∀ (x : Int × Int × Int) (m s : Int), m + 1 ≤ s → s ≤ m + n → ta V Z n x m s 0 + ta V Z n x m s 1 + ta V Z n x m s 2 = fc V Z n x m := by
  induction n with
  | zero => intro x m s h1 h2; omega
  | succ n ih =>
    intro x m s h1 h2
    rw [ta, ta, ta, fc]
    by_cases e : s = m + 1
    · simp only [if_pos e]
      simp
    · simp only [if_neg e]
      have a := ih (st3 V x m 0) (m + 1) s (by omega) (by omega)
      have b := ih (st3 V x m 1) (m + 1) s (by omega) (by omega)
      have c := ih (st3 V x m 2) (m + 1) s (by omega) (by omega)
      split <;> split <;> split <;> omega
theorem ta_in (V : (Nat → Int → Int)) (Z : Int → Int → Int → Bool) (n : Nat) : ∀ (x : Int × Int × Int) (m s a : Int), 0 ≤ ta V Z n x m s a ∧ ta V Z n x m s a ≤ ((3 ^ n : Nat) : Int) := by
  induction n with
  | zero => intro x m s a; rw [ta]; simp
  | succ n ih =>
    intro x m s a
    have h0 := ih (st3 V x m 0) (m + 1) s a
    have h1 := ih (st3 V x m 1) (m + 1) s a
    have h2 := ih (st3 V x m 2) (m + 1) s a
    have f0 := fc_in V Z n (st3 V x m 0) (m + 1)
    have f1 := fc_in V Z n (st3 V x m 1) (m + 1)
    have f2 := fc_in V Z n (st3 V x m 2) (m + 1)
    have : ((3 ^ (n + 1) : Nat) : Int) = 3 * ((3 ^ n : Nat) : Int) := by rw [Nat.pow_succ, Nat.mul_comm]; exact Int.natCast_mul ..
    rw [ta, this]
    generalize ((3 ^ n : Nat) : Int) = P at *
    by_cases e : s = m + 1
    · simp only [if_pos e]
      constructor <;> (split <;> split <;> split <;> (try split) <;> (try split) <;> (try split) <;> omega)
    · simp only [if_neg e]
      constructor <;> (split <;> split <;> split <;> omega)
theorem cl_sift (hr0 : r = 3 ∨ r = 19) (hb : 0 < V 0 2) (hW : wfW V Wt N T) {k : Int} {n : Nat} (hn : 20 ≤ n) (j : Nat) : ∀ (d m q : Nat) (F : Int → Int) (I : (Nat → Nat → Int32)), cOK V S r I → (m : Int) + j = V 0 1 → q < 3 ^ m → j < d → tree V (V 0 1).toNat I → hr I 59 14 (lo Wt k N.toNat) → hr I 60 14 (hi Wt k N.toNat) → hr I 61 21 F →
    ∃ I', fX10_sift n d (iN ((fst3 m + q : Nat) : Int)) (iN m) I r = some (iN (fc V (Zn Wt k N.toNat) j (tr V m q) m), I') ∧ ex [61] I I' ∧ hr I' 61 21 (fun i => F i + ta V (Zn Wt k N.toNat) j (tr V m q) m (i / 3) (i % 3)) := by
  induction j with
  | zero =>
    intro d m q F I h hm hq hd ht hl hh hF
    have hu := h.1.1
    obtain ⟨d, rfl⟩ : ∃ m, d = m + 1 := ⟨d - 1, by omega⟩
    refine ⟨I, ?_, ex_refl, ?_⟩
    · show fX10_sift_B n _ _ _ I r = _
      rw [fX10_sift_B, h.2.2.1.1.2.1, show iN (m : Int) = iN (V 0 1) by rw [show (m : Int) = V 0 1 by omega], if_neg (iN_ir _), iN_lit]
      rfl
    · intro z z0 z1
      dsimp only
      rw [ta, Int.add_zero]
      exact hF z z0 z1
  | succ j ih =>
    intro d m q F I h hm hq hd ht hl hh hF
    have hu := h.1.1
    obtain ⟨d, rfl⟩ : ∃ m, d = m + 1 := ⟨d - 1, by omega⟩
    obtain ⟨n, rfl⟩ : ∃ k, n = k + 4 := ⟨n - 4, by omega⟩
    have f3 := fst3_3 m
    have fl := fst3_le (m := m + 1) (by omega)
    have pq : 3 * q + 3 ≤ 3 ^ (m + 1) := by rw [Nat.pow_succ]; omega
    have N0 := hW.1
    -- one steer
    have step : ∀ (s : Int) (p : Nat) (y : Int) (F : Int → Int) (I : (Nat → Nat → Int32)), -1 ≤ s → s ≤ 1 → cOK V S r I → tree V (V 0 1).toNat I → hr I 59 14 (lo Wt k N.toNat) → hr I 60 14 (hi Wt k N.toNat) → hr I 61 21 F →
        ∃ I', fX10_sift_L21 (p + 1) (fX10_sift (n + 4) d) (iN ((fst3 m + q : Nat) : Int)) (iN m) (iN y) (iN s) I r = fX10_sift_L21 p (fX10_sift (n + 4) d) (iN ((fst3 m + q : Nat) : Int)) (iN m) (iN (y + if Zn Wt k N.toNat (m + 1) (st3 V (tr V m q) m (s + 1)).1 (st3 V (tr V m q) m (s + 1)).2.2 = true then fc V (Zn Wt k N.toNat) j (st3 V (tr V m q) m (s + 1)) (m + 1) else 0)) (iN (s + 1)) I' r ∧ ex [61] I I' ∧ hr I' 61 21 (fun i => F i + if Zn Wt k N.toNat (m + 1) (st3 V (tr V m q) m (s + 1)).1 (st3 V (tr V m q) m (s + 1)).2.2 = true then (if i / 3 = m + 1 then (if i % 3 = s + 1 then fc V (Zn Wt k N.toNat) j (st3 V (tr V m q) m (s + 1)) (m + 1) else 0) else ta V (Zn Wt k N.toNat) j (st3 V (tr V m q) m (s + 1)) (m + 1) (i / 3) (i % 3)) else 0) := by
      intro s p y F I hs1 hs2 h ht hl hh hF
      have esn : (3 * ((fst3 m + q : Nat) : Int) + 2 + s) = ((fst3 (m + 1) + (3 * q + (s + 1).toNat) : Nat) : Int) := by omega
      have etr : tr V (m + 1) (3 * q + (s + 1).toNat) = st3 V (tr V m q) m (s + 1) := by
        rw [tr, show (3 * q + (s + 1).toNat) / 3 = q by omega, show (((3 * q + (s + 1).toNat) % 3 : Nat) : Int) = s + 1 by omega]
      have hnod := ht (m + 1) (by omega) (3 * q + (s + 1).toNat) (by omega)
      rw [etr] at hnod
      have xin : in3 V (m + 1 : Nat) (st3 V (tr V m q) m (s + 1)) := by rw [← etr]; exact tr_in h.1 hb (m + 1) _
      obtain ⟨i1, i2, i3⟩ := xin
      have l0 := lohi_in hW k N.toNat (by omega) (m + 1)
      have l1 := lohi_in hW k N.toNat (by omega) (7 + (m + 1))
      have zi := Z_iff (V := V) (by omega) hW k N.toNat (by omega) (s := (m : Int) + 1) (c := (st3 V (tr V m q) m (s + 1)).1) (h := (st3 V (tr V m q) m (s + 1)).2.2) (by omega) (by omega) (by omega)
      have pk : ∀ a, mf_pick I a 1093 (iN ((fst3 (m + 1) + (3 * q + (s + 1).toNat) : Nat) : Int)) = I a (fst3 (m + 1) + (3 * q + (s + 1).toNat)) := fun a => by rw [iN_pick (by omega) (by omega) (by omega), Int.toNat_natCast]
      have b0 : fX10_boundOf (iN 0) (iN ((m : Int) + 1)) = iN ((m : Int) + 1) := by rw [fX10_boundOf, iN_lit, iN_mul, iN_add, Int.zero_mul, Int.zero_add]
      have b1 : fX10_boundOf (iN 1) (iN ((m : Int) + 1)) = iN (7 + ((m : Int) + 1)) := by rw [fX10_boundOf, iN_lit, iN_mul, iN_add, Int.one_mul]
      have w0 : fX10_isWithin (iN 0) (iN ((m : Int) + 1)) (iN (st3 V (tr V m q) m (s + 1)).1) I = if lo Wt k N.toNat (m + 1) ≤ (st3 V (tr V m q) m (s + 1)).1 ∧ (st3 V (tr V m q) m (s + 1)).1 ≤ hi Wt k N.toNat (m + 1) then iN 1 else iN 0 := by
        rw [fX10_isWithin, b0, iN_pick (by omega) (by omega) (by omega), iN_pick (by omega) (by omega) (by omega), hl _ (by omega) (by omega), hh _ (by omega) (by omega)]
        simp (disch := omega) only [iN_lit, iN_lt]
        split
        · rw [if_neg (by omega)]
        · split
          · rw [if_neg (by omega)]
          · rw [if_pos (by omega)]
      have w1 : fX10_isWithin (iN 1) (iN ((m : Int) + 1)) (iN (st3 V (tr V m q) m (s + 1)).2.2) I = if lo Wt k N.toNat (7 + (m + 1)) ≤ (st3 V (tr V m q) m (s + 1)).2.2 ∧ (st3 V (tr V m q) m (s + 1)).2.2 ≤ hi Wt k N.toNat (7 + (m + 1)) then iN 1 else iN 0 := by
        rw [fX10_isWithin, b1, iN_pick (by omega) (by omega) (by omega), iN_pick (by omega) (by omega) (by omega), hl _ (by omega) (by omega), hh _ (by omega) (by omega)]
        simp (disch := omega) only [iN_lit, iN_lt]
        split
        · rw [if_neg (by omega)]
        · split
          · rw [if_neg (by omega)]
          · rw [if_pos (by omega)]
      have unf := fX10_sift_L21.eq_def (p + 1) (fX10_sift (n + 4) d) (iN ((fst3 m + q : Nat) : Int)) (iN m) (iN y) (iN s) I r
      dsimp only at unf
      simp only [iN_lit, iN_mul, iN_add] at unf
      rw [ite_n (by rw [iN_lt (by omega) (by omega) (by omega) (by omega)]; omega), esn, pk, pk, hnod.1, hnod.2.2, w0, w1] at unf
      by_cases zt : Zn Wt k N.toNat (m + 1) (st3 V (tr V m q) m (s + 1)).1 (st3 V (tr V m q) m (s + 1)).2.2 = true
      · obtain ⟨z1, z2⟩ := zi.mp zt
        rw [if_pos z1, ite_n n10, if_pos z2, ite_n n10] at unf
        obtain ⟨I1, g1, g2, g3⟩ := ih d (m + 1) (3 * q + (s + 1).toNat) F I h (by omega) (by omega) (by omega) ht hl hh hF
        rw [etr, show ((m + 1 : Nat) : Int) = (m : Int) + 1 by omega] at g1 g3
        rw [g1, Option.bind_some] at unf
        have to : fX10_tallyOf (iN ((m : Int) + 1)) (iN s) = iN (3 * ((m : Int) + 1) + (s + 1)) := by
          rw [fX10_tallyOf]
          simp only [iN_lit, iN_mul, iN_add]
          congr 1; omega
        dsimp only at unf
        have old : ta V (Zn Wt k N.toNat) j (st3 V (tr V m q) m (s + 1)) ((m : Int) + 1) ((m : Int) + 1) (s + 1) = 0 := ta_old _ _ _ _ _ _ _ (by omega)
        have pt := g3 (3 * ((m : Int) + 1) + (s + 1)) (by omega) (by omega)
        dsimp only at pt
        rw [show (3 * ((m : Int) + 1) + (s + 1)) / 3 = (m : Int) + 1 by omega, show (3 * ((m : Int) + 1) + (s + 1)) % 3 = s + 1 by omega, old, Int.add_zero] at pt
        rw [to, iN_pick (by omega) (by omega) (by omega), iN_put (by omega) (by omega) (by omega), pt, iN_add, iN_add] at unf
        rw [if_pos zt]
        refine ⟨_, unf, ex_trans g2 (ex_up (by decide)), ?_⟩
        intro z z0 z1
        dsimp only
        rw [up_c, if_pos zt]
        by_cases ez : z = 3 * ((m : Int) + 1) + (s + 1)
        · rw [if_pos (by omega), if_pos (by omega), if_pos (by omega), ez]
        · rw [if_neg (by omega), g3 z z0 z1]
          dsimp only
          congr 2
          by_cases e1 : z / 3 = (m : Int) + 1
          · rw [if_pos e1, if_neg (by omega), ta_old _ _ _ _ _ _ _ (by omega)]
          · rw [if_neg e1]
      · have hno : ¬ ((lo Wt k N.toNat (m + 1) ≤ (st3 V (tr V m q) m (s + 1)).1 ∧ (st3 V (tr V m q) m (s + 1)).1 ≤ hi Wt k N.toNat (m + 1)) ∧ lo Wt k N.toNat (7 + (m + 1)) ≤ (st3 V (tr V m q) m (s + 1)).2.2 ∧ (st3 V (tr V m q) m (s + 1)).2.2 ≤ hi Wt k N.toNat (7 + (m + 1))) := fun hh => zt (zi.mpr hh)
        rw [if_neg zt, Int.add_zero]
        have row : hr I 61 21 (fun i => F i + if Zn Wt k N.toNat (m + 1) (st3 V (tr V m q) m (s + 1)).1 (st3 V (tr V m q) m (s + 1)).2.2 = true then (if i / 3 = m + 1 then (if i % 3 = s + 1 then fc V (Zn Wt k N.toNat) j (st3 V (tr V m q) m (s + 1)) (m + 1) else 0) else ta V (Zn Wt k N.toNat) j (st3 V (tr V m q) m (s + 1)) (m + 1) (i / 3) (i % 3)) else 0) := by
          intro z z0 z1
          dsimp only
          rw [if_neg zt, Int.add_zero]
          exact hF z z0 z1
        by_cases c0 : lo Wt k N.toNat (m + 1) ≤ (st3 V (tr V m q) m (s + 1)).1 ∧ (st3 V (tr V m q) m (s + 1)).1 ≤ hi Wt k N.toNat (m + 1)
        · rw [if_pos c0, ite_n n10, if_neg (fun c1 => hno ⟨c0, c1⟩), ite_p rfl] at unf
          exact ⟨I, unf, ex_refl, row⟩
        · rw [if_neg c0, ite_p rfl] at unf
          exact ⟨I, unf, ex_refl, row⟩
    have keep : ∀ J K : (Nat → Nat → Int32), ex [61] J K → cOK V S r J → tree V (V 0 1).toNat J → hr J 59 14 (lo Wt k N.toNat) → hr J 60 14 (hi Wt k N.toNat) → cOK V S r K ∧ tree V (V 0 1).toNat K ∧ hr K 59 14 (lo Wt k N.toNat) ∧ hr K 60 14 (hi Wt k N.toNat) := by
      intro J K hx hc ht hl hh
      refine ⟨cOK_ex hc hx (by rcases hr0 with rfl | rfl <;> decide), ?_, hr_of hl (hx 59 (by decide)), hr_of hh (hx 60 (by decide))⟩
      intro a ha b hb'
      obtain ⟨t1, t2, t3⟩ := ht a ha b hb'
      exact ⟨by rw [hx 56 (by decide)]; exact t1, by rw [hx 57 (by decide)]; exact t2, by rw [hx 58 (by decide)]; exact t3⟩
    obtain ⟨J1, a1, a2, a3⟩ := step (-1) (n + 3) 0 F I (by omega) (by omega) h ht hl hh hF
    obtain ⟨k1, k2, k3, k4⟩ := keep I J1 a2 h ht hl hh
    obtain ⟨J2, b1, b2, b3⟩ := step 0 (n + 2) _ _ J1 (by omega) (by omega) k1 k2 k3 k4 a3
    obtain ⟨k5, k6, k7, k8⟩ := keep J1 J2 b2 k1 k2 k3 k4
    obtain ⟨J3, d1, d2, d3⟩ := step 1 (n + 1) _ _ J2 (by omega) (by omega) k5 k6 k7 k8 b3
    refine ⟨J3, ?_, ex_trans a2 (ex_trans b2 d2), ?_⟩
    · show fX10_sift_B (n + 4) _ _ _ I r = _
      rw [fX10_sift_B, h.2.2.1.1.2.1, ite_p (by rw [iN_lt (by omega) (by omega) (by omega) (by omega)]; omega)]
      simp only [iN_lit, iN_neg]
      rw [a1, show (-1 : Int) + 1 = 0 from rfl, b1, show (0 : Int) + 1 = 1 from rfl, d1, show (1 : Int) + 1 = 2 from rfl, fX10_sift_L21]
      simp (disch := omega) only [iN_lit, iN_add, iN_sub, iN_mul, iN_neg, iN_lt, iN_eq, iN_tn, if_true, if_false, if_pos, if_neg, Option.bind_some]
      rw [fc, Int.zero_add]
    · intro z z0 z1
      rw [d3 z z0 z1]
      dsimp only
      rw [ta, show (-1 : Int) + 1 = 0 from rfl, show (0 : Int) + 1 = 1 from rfl, show (1 : Int) + 1 = 2 from rfl, Int.add_assoc, Int.add_assoc, Int.add_assoc]
end SIF
