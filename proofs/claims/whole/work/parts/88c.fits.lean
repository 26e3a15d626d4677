/-! fits, sure and ask: the class. -/
def aFit (V Wt : (Nat → Int → Int)) (N k : Int) : Int := if V 0 2 = 0 then 0 else fc V (Zn Wt k N.toNat) (V 0 1).toNat (V 4 0, 0, 0) 0
def tal (V Wt : (Nat → Int → Int)) (N k s a : Int) : Int := ta V (Zn Wt k N.toNat) (V 0 1).toNat (V 4 0, 0, 0) 0 s a
def aSu (V Wt : (Nat → Int → Int)) (N s k : Int) : Int := if 1 ≤ s ∧ s ≤ V 0 1 then (if aFit V Wt N k = 0 then -3 else if tal V Wt N k s 0 = aFit V Wt N k then -1 else if tal V Wt N k s 1 = aFit V Wt N k then 0 else if tal V Wt N k s 2 = aFit V Wt N k then 1 else -2) else -3
def ml (V Wt : (Nat → Int → Int)) (N k s : Int) : Int := ma (ma (ma 0 (tal V Wt N k s 0)) (tal V Wt N k s 1)) (tal V Wt N k s 2)
def bs (V Wt : (Nat → Int → Int)) (N k : Int) (j : Nat) : Int := match j with
  | 0 => 1
  | j + 1 => if ml V Wt N k ((j : Int) + 2) < ml V Wt N k (bs V Wt N k j) then (j : Int) + 2 else bs V Wt N k j
def aAsk (V Wt : (Nat → Int → Int)) (N w k : Int) : Int := if 0 ≤ w ∧ w ≤ 1 then (if aFit V Wt N k = 0 then -1 else if w = 0 then bs V Wt N k ((V 0 1).toNat - 1) else ml V Wt N k (bs V Wt N k ((V 0 1).toNat - 1))) else -1
def gT (V : (Nat → Int → Int)) (I : (Nat → Nat → Int32)) : Prop := I 54 5 = iN 0 ∨ (I 54 5 = iN 1 ∧ tree V (V 0 1).toNat I)
theorem bs_in (V Wt : (Nat → Int → Int)) (N k : Int) (j : Nat) : 1 ≤ bs V Wt N k j ∧ bs V Wt N k j ≤ (j : Int) + 1 := by
  induction j with
  | zero => rw [bs]; omega
  | succ j ih => rw [bs]; split <;> omega
section FIT
variable {V Wt : (Nat → Int → Int)} {S : Int → Int} {r : Nat} {N T : Int}
theorem fit_in (hw : wfV V) (N k : Int) : 0 ≤ aFit V Wt N k ∧ aFit V Wt N k ≤ 729 := by
  have hu := hw.1
  have := fc_in V (Zn Wt k N.toNat) (V 0 1).toNat (V 4 0, 0, 0) 0
  have p3 := p3_le (k := (V 0 1).toNat) (by omega)
  unfold aFit
  split <;> omega
theorem tal_in (hw : wfV V) (N k s a : Int) : 0 ≤ tal V Wt N k s a ∧ tal V Wt N k s a ≤ 729 := by
  have hu := hw.1
  have := ta_in V (Zn Wt k N.toNat) (V 0 1).toNat (V 4 0, 0, 0) 0 s a
  have p3 := p3_le (k := (V 0 1).toNat) (by omega)
  unfold tal
  omega
theorem ml_in (hw : wfV V) (N k s : Int) : 0 ≤ ml V Wt N k s ∧ ml V Wt N k s ≤ 729 := by
  have h0 := tal_in (Wt := Wt) hw N k s 0
  have h1 := tal_in (Wt := Wt) hw N k s 1
  have h2 := tal_in (Wt := Wt) hw N k s 2
  unfold ml ma
  split <;> split <;> split <;> omega
theorem cl_count (hr0 : r = 3 ∨ r = 19) {I : (Nat → Nat → Int32)} (h : cOK V S r I) (hW : wfW V Wt N T) (hc : cW Wt N T I) (hg : gT V I) {k : Int} (hk : -2147483648 ≤ k ∧ k < 2147483648) {n : Nat} (hn : 1300 ≤ n) :
    ∃ I', fX10_countFits n (iN k) I r = some (iN (aFit V Wt N k), I') ∧ ex [54, 56, 57, 58, 59, 60, 61, r + 3, r + 4] I I' ∧ cW Wt N T I' ∧ gT V I' ∧ (¬ V 0 2 = 0 → hr I' 61 21 (fun i => tal V Wt N k (i / 3) (i % 3))) := by
  have hu := h.1.1
  rw [fX10_countFits]
  simp only [iN_lit]
  have x1 : ex [61] I (mf_fill I 61 21 (iN 0)) := ex_fill (by decide)
  have c1 := cOK_ex h x1 (by rcases hr0 with rfl | rfl <;> decide)
  have gT1 : gT V (mf_fill I 61 21 (iN 0)) := by
    rcases hg with e | ⟨e, t⟩
    · left; rw [x1 54 (by decide)]; exact e
    · right
      refine ⟨by rw [x1 54 (by decide)]; exact e, ?_⟩
      intro a ha b hb'
      obtain ⟨t1, t2, t3⟩ := t a ha b hb'
      exact ⟨by rw [x1 56 (by decide)]; exact t1, by rw [x1 57 (by decide)]; exact t2, by rw [x1 58 (by decide)]; exact t3⟩
  have w1 : cW Wt N T (mf_fill I 61 21 (iN 0)) := ⟨by rw [x1 54 (by decide)]; exact hc.1, by rw [x1 54 (by decide)]; exact hc.2.1, fun a w a0 a1 w0 => by rw [x1 55 (by decide)]; exact hc.2.2 a w a0 a1 w0⟩
  rw [c1.2.2.1.1.2.2.1]
  unfold aFit
  by_cases hb : V 0 2 = 0
  · rw [ite_p (by rw [hb]), if_pos hb]
    exact ⟨_, rfl, ex_mono x1 (by intro a ha; simp at ha ⊢; omega), w1, gT1, fun hh => absurd hb hh⟩
  · rw [ite_n (by rw [iN_eq (by omega) (by omega) (by omega) (by omega)]; exact hb), if_neg hb]
    obtain ⟨I2, g1, g2, g3, g4, g5, g6⟩ := cl_grow hr0 (by omega) c1 gT1 (n := n) (by omega)
    have c2 := cOK_ex c1 g2 (by rcases hr0 with rfl | rfl <;> decide)
    have w2 : cW Wt N T I2 := ⟨by rw [g4]; exact w1.1, by rw [g5]; exact w1.2.1, fun a w a0 a1 w0 => by rw [g2 55 (by rcases hr0 with rfl | rfl <;> decide)]; exact w1.2.2 a w a0 a1 w0⟩
    obtain ⟨I3, f1, f2, f3, f4⟩ := cl_narrow (by omega) hW w2 hk (n := n) (by omega)
    have c3 := cOK_ex c2 f2 (by rcases hr0 with rfl | rfl <;> decide)
    have t3 : tree V (V 0 1).toNat I3 := by
      intro a ha b hb'
      obtain ⟨t1, t2, t3⟩ := g6 a ha b hb'
      exact ⟨by rw [f2 56 (by decide)]; exact t1, by rw [f2 57 (by decide)]; exact t2, by rw [f2 58 (by decide)]; exact t3⟩
    have F0 : hr I3 61 21 (fun _ => 0) := by
      intro z z0 z1
      rw [f2 61 (by decide), g2 61 (by rcases hr0 with rfl | rfl <;> decide), fill_eq (by omega)]
    obtain ⟨I4, e1, e2, e3⟩ := cl_sift hr0 (by omega) hW (k := k) (n := n) (by omega) (V 0 1).toNat 8 0 0 (fun _ => 0) I3 c3 (by omega) (by decide) (by omega) t3 f3 f4 F0
    have e1' : fX10_sift n 8 (iN 0) (iN 0) I3 r = some (iN (fc V (Zn Wt k N.toNat) (V 0 1).toNat (V 4 0, 0, 0) 0), I4) := e1
    rw [g1, Option.bind_some, f1, Option.bind_some, e1', Option.bind_some]
    have h54 : I4 54 = I2 54 := by rw [e2 54 (by decide), f2 54 (by decide)]
    refine ⟨I4, rfl, ?_, ?_, ?_, ?_⟩
    · exact ex_trans (ex_mono x1 (by intro a ha; simp at ha ⊢; omega)) (ex_trans (ex_mono g2 (by intro a ha; simp at ha ⊢; omega)) (ex_trans (ex_mono f2 (by intro a ha; simp at ha ⊢; omega)) (ex_mono e2 (by intro a ha; simp at ha ⊢; omega))))
    · exact ⟨by rw [h54]; exact w2.1, by rw [h54]; exact w2.2.1, fun a w a0 a1 w0 => by rw [e2 55 (by decide), f2 55 (by decide)]; exact w2.2.2 a w a0 a1 w0⟩
    · right
      refine ⟨by rw [h54]; exact g3, ?_⟩
      intro a ha b hb'
      obtain ⟨t1, t2, t3⟩ := t3 a ha b hb'
      exact ⟨by rw [e2 56 (by decide)]; exact t1, by rw [e2 57 (by decide)]; exact t2, by rw [e2 58 (by decide)]; exact t3⟩
    · intro _ z z0 z1
      rw [e3 z z0 z1]
      dsimp only
      rw [Int.zero_add]
      rfl
theorem cl_Fits (hr0 : r = 3 ∨ r = 19) {I : (Nat → Nat → Int32)} (h : cOK V S r I) (hW : wfW V Wt N T) (hc : cW Wt N T I) (hg : gT V I) {k : Int} (hk : -2147483648 ≤ k ∧ k < 2147483648) {n : Nat} (hn : 1300 ≤ n) :
    ∃ I', fX11_fits n (iN k) I r = some (iN (aFit V Wt N k), I') ∧ ex [54, 56, 57, 58, 59, 60, 61, r + 3, r + 4] I I' ∧ cW Wt N T I' ∧ gT V I' := by
  obtain ⟨I', g1, g2, g3, g4, _⟩ := cl_count hr0 h hW hc hg hk hn
  rw [fX11_fits, g1]
  exact ⟨I', rfl, g2, g3, g4⟩
theorem tly {s a : Int} (hs : 0 ≤ s ∧ s ≤ 6) (ha : 0 ≤ a ∧ a ≤ 2) {I : (Nat → Nat → Int32)} {F : Int → Int → Int} (hF : hr I 61 21 (fun i => F (i / 3) (i % 3))) : mf_pick I 61 21 (fX10_tallyOf (iN s) (iN (a - 1))) = iN (F s a) := by
  rw [fX10_tallyOf]
  simp only [iN_lit, iN_mul, iN_add]
  rw [iN_pick (by omega) (by omega) (by omega), hF _ (by omega) (by omega)]
  dsimp only
  rw [show (s * 3 + (a - 1) + 1) / 3 = s by omega, show (s * 3 + (a - 1) + 1) % 3 = a by omega]
theorem cl_Sure (hr0 : r = 3 ∨ r = 19) {I : (Nat → Nat → Int32)} (h : cOK V S r I) (hW : wfW V Wt N T) (hc : cW Wt N T I) (hg : gT V I) {s k : Int} (hs : -2147483648 ≤ s ∧ s < 2147483648) (hk : -2147483648 ≤ k ∧ k < 2147483648) {n : Nat} (hn : 1300 ≤ n) :
    ∃ I', fX11_sure n (iN s) (iN k) I r = some (iN (aSu V Wt N s k), I') ∧ ex [54, 56, 57, 58, 59, 60, 61, r + 3, r + 4] I I' ∧ cW Wt N T I' ∧ gT V I' := by
  have hu := h.1.1
  rw [fX11_sure, fX10_sureSteer, h.2.2.1.1.2.1]
  simp only [iN_lit, iN_neg]
  unfold aSu
  by_cases s1 : s < 1
  · rw [ite_p (by rw [iN_lt (by omega) (by omega) (by omega) (by omega)]; exact s1), if_neg (by omega)]
    exact ⟨I, rfl, ex_refl, hc, hg⟩
  · rw [ite_n (by rw [iN_lt (by omega) (by omega) (by omega) (by omega)]; exact s1)]
    by_cases s2 : V 0 1 < s
    · rw [ite_p (by rw [iN_lt (by omega) (by omega) (by omega) (by omega)]; exact s2), if_neg (by omega)]
      exact ⟨I, rfl, ex_refl, hc, hg⟩
    · rw [ite_n (by rw [iN_lt (by omega) (by omega) (by omega) (by omega)]; exact s2), if_pos (by omega)]
      obtain ⟨I', g1, g2, g3, g4, g5⟩ := cl_count hr0 h hW hc hg hk hn
      have fi := fit_in (Wt := Wt) h.1 N k
      rw [g1, Option.bind_some]
      dsimp only
      by_cases e0 : aFit V Wt N k = 0
      · rw [ite_p (by rw [e0]), if_pos e0]
        exact ⟨I', rfl, g2, g3, g4⟩
      · have hb : ¬ V 0 2 = 0 := fun hh => e0 (by unfold aFit; rw [if_pos hh])
        have hF := g5 hb
        have t0 := tal_in (Wt := Wt) h.1 N k s 0
        have t1 := tal_in (Wt := Wt) h.1 N k s 1
        have t2 := tal_in (Wt := Wt) h.1 N k s 2
        rw [ite_n (by rw [iN_eq (by omega) (by omega) (by omega) (by omega)]; exact e0), if_neg e0]
        obtain ⟨n, rfl⟩ : ∃ m, n = m + 4 := ⟨n - 4, by omega⟩
        have p0 := tly (s := s) (a := 0) (by omega) (by omega) (F := fun a b => tal V Wt N k a b) hF
        have p1 := tly (s := s) (a := 1) (by omega) (by omega) (F := fun a b => tal V Wt N k a b) hF
        have p2 := tly (s := s) (a := 2) (by omega) (by omega) (F := fun a b => tal V Wt N k a b) hF
        rw [show (0 : Int) - 1 = -1 from rfl] at p0
        rw [show (1 : Int) - 1 = 0 from rfl] at p1
        rw [show (2 : Int) - 1 = 1 from rfl] at p2
        rw [fX10_sureSteer_L39, p0]
        simp (disch := omega) only [iN_lit, iN_add, iN_sub, iN_mul, iN_neg, iN_lt, iN_eq, iN_tn, if_true, if_false, if_pos, if_neg]
        by_cases q0 : tal V Wt N k s 0 = aFit V Wt N k
        · rw [if_pos q0, if_pos q0]; exact ⟨I', rfl, g2, g3, g4⟩
        · rw [if_neg q0, if_neg q0, show (-1 : Int) + 1 = 0 from rfl, fX10_sureSteer_L39, p1]
          simp (disch := omega) only [iN_lit, iN_add, iN_sub, iN_mul, iN_neg, iN_lt, iN_eq, iN_tn, if_true, if_false, if_pos, if_neg]
          by_cases q1 : tal V Wt N k s 1 = aFit V Wt N k
          · rw [if_pos q1, if_pos q1]; exact ⟨I', rfl, g2, g3, g4⟩
          · rw [if_neg q1, if_neg q1, show (0 : Int) + 1 = 1 from rfl, fX10_sureSteer_L39, p2]
            simp (disch := omega) only [iN_lit, iN_add, iN_sub, iN_mul, iN_neg, iN_lt, iN_eq, iN_tn, if_true, if_false, if_pos, if_neg]
            by_cases q2 : tal V Wt N k s 2 = aFit V Wt N k
            · rw [if_pos q2, if_pos q2]; exact ⟨I', rfl, g2, g3, g4⟩
            · rw [if_neg q2, if_neg q2, fX10_sureSteer_L39]
              simp (disch := omega) only [iN_lit, iN_add, iN_sub, iN_mul, iN_neg, iN_lt, iN_eq, iN_tn, if_true, if_false, if_pos, if_neg]
              exact ⟨I', rfl, g2, g3, g4⟩
theorem cl_ml (hw : wfV V) {I : (Nat → Nat → Int32)} {k : Int} (hF : hr I 61 21 (fun i => tal V Wt N k (i / 3) (i % 3))) {s : Int} (hs : 1 ≤ s ∧ s ≤ 6) {n : Nat} (hn : 10 ≤ n) : fX10_mostLeft n (iN s) I = some (iN (ml V Wt N k s)) := by
  have t0 := tal_in (Wt := Wt) hw N k s 0
  have t1 := tal_in (Wt := Wt) hw N k s 1
  have t2 := tal_in (Wt := Wt) hw N k s 2
  obtain ⟨n, rfl⟩ : ∃ m, n = m + 4 := ⟨n - 4, by omega⟩
  have p0 := tly (s := s) (a := 0) (by omega) (by omega) (F := fun a b => tal V Wt N k a b) hF
  have p1 := tly (s := s) (a := 1) (by omega) (by omega) (F := fun a b => tal V Wt N k a b) hF
  have p2 := tly (s := s) (a := 2) (by omega) (by omega) (F := fun a b => tal V Wt N k a b) hF
  rw [show (0 : Int) - 1 = -1 from rfl] at p0
  rw [show (1 : Int) - 1 = 0 from rfl] at p1
  rw [show (2 : Int) - 1 = 1 from rfl] at p2
  have m0 : 0 ≤ ma 0 (tal V Wt N k s 0) ∧ ma 0 (tal V Wt N k s 0) ≤ 729 := by unfold ma; split <;> omega
  have m1 : 0 ≤ ma (ma 0 (tal V Wt N k s 0)) (tal V Wt N k s 1) ∧ ma (ma 0 (tal V Wt N k s 0)) (tal V Wt N k s 1) ≤ 729 := by
    generalize ma 0 (tal V Wt N k s 0) = y at *
    unfold ma; split <;> omega
  have mx : ∀ a b : Int, 0 ≤ a ∧ a ≤ 729 → 0 ≤ b ∧ b ≤ 729 → fJ9_max (iN a) (iN b) = iN (ma a b) := fun a b h1 h2 => by rw [cl_max _ _ (by omega) (by omega)]; rfl
  rw [fX10_mostLeft]
  simp only [iN_lit, iN_neg]
  rw [fX10_mostLeft_L4, p0, mx _ _ (by omega) t0]
  simp (disch := omega) only [iN_lit, iN_add, iN_sub, iN_mul, iN_neg, iN_lt, iN_eq, iN_tn, if_true, if_false, if_pos, if_neg]
  rw [show (-1 : Int) + 1 = 0 from rfl, fX10_mostLeft_L4, p1, mx _ _ m0 t1]
  simp (disch := omega) only [iN_lit, iN_add, iN_sub, iN_mul, iN_neg, iN_lt, iN_eq, iN_tn, if_true, if_false, if_pos, if_neg]
  rw [show (0 : Int) + 1 = 1 from rfl, fX10_mostLeft_L4, p2, mx _ _ m1 t2]
  simp (disch := omega) only [iN_lit, iN_add, iN_sub, iN_mul, iN_neg, iN_lt, iN_eq, iN_tn, if_true, if_false, if_pos, if_neg]
  rw [fX10_mostLeft_L4]
  simp (disch := omega) only [iN_lit, iN_add, iN_sub, iN_mul, iN_neg, iN_lt, iN_eq, iN_tn, if_true, if_false, if_pos, if_neg]
  rfl
theorem cl_Ask (hr0 : r = 3 ∨ r = 19) {I : (Nat → Nat → Int32)} (h : cOK V S r I) (hW : wfW V Wt N T) (hc : cW Wt N T I) (hg : gT V I) {w k : Int} (hw : -2147483648 ≤ w ∧ w < 2147483648) (hk : -2147483648 ≤ k ∧ k < 2147483648) {n : Nat} (hn : 1300 ≤ n) :
    ∃ I', fX11_ask n (iN w) (iN k) I r = some (iN (aAsk V Wt N w k), I') ∧ ex [54, 56, 57, 58, 59, 60, 61, r + 3, r + 4] I I' ∧ cW Wt N T I' ∧ gT V I' := by
  have hu := h.1.1
  rw [fX11_ask]
  simp (disch := omega) only [iN_lit, iN_neg, iN_lt]
  unfold aAsk
  by_cases w0 : w < 0
  · rw [if_pos w0, if_neg (by omega)]
    exact ⟨I, rfl, ex_refl, hc, hg⟩
  · rw [if_neg w0]
    by_cases w1 : 1 < w
    · rw [if_pos w1, if_neg (by omega)]
      exact ⟨I, rfl, ex_refl, hc, hg⟩
    · rw [if_neg w1, if_pos (show 0 ≤ w ∧ w ≤ 1 by omega), fX10_strokeToAsk]
      obtain ⟨I', g1, g2, g3, g4, g5⟩ := cl_count hr0 h hW hc hg hk hn
      have fi := fit_in (Wt := Wt) h.1 N k
      have c1 := cOK_ex h g2 (by rcases hr0 with rfl | rfl <;> decide)
      rw [g1, Option.bind_some]
      simp only [iN_lit, iN_neg]
      by_cases e0 : aFit V Wt N k = 0
      · rw [ite_p (by rw [e0]), if_pos e0, Option.bind_some]
        refine ⟨I', ?_, g2, g3, g4⟩
        dsimp only
        rw [ite_p (show iN (-1) = iN (-1) from rfl)]
        split <;> rfl
      · have hb : ¬ V 0 2 = 0 := fun hh => e0 (by unfold aFit; rw [if_pos hh])
        have hF := g5 hb
        rw [ite_n (by rw [iN_eq (by omega) (by omega) (by omega) (by omega)]; exact e0), if_neg e0]
        obtain ⟨n', s, q1, q2, q3⟩ := loop (fun n j s => fX10_strokeToAsk_L14 n (iN s) (iN (j + 2)) I' r) 20 (P := V 0 1 - 1) (fun j s => s = bs V Wt N k j.toNat)
          (by
            intro n j s hn j0 j1 hs
            have bi := bs_in V Wt N k j.toNat
            have m1 := ml_in (Wt := Wt) h.1 N k (j + 2)
            have m2 := ml_in (Wt := Wt) h.1 N k s
            refine ⟨_, ?_, rfl⟩
            show fX10_strokeToAsk_L14 (n + 1) _ _ _ _ = _
            rw [fX10_strokeToAsk_L14, c1.2.2.1.1.2.1, cl_ml h.1 hF (s := j + 2) (by omega) (by omega), cl_ml h.1 hF (s := s) (by omega) (by omega), show (j + 1).toNat = j.toNat + 1 by omega, bs, ← hs, show ((j.toNat : Nat) : Int) = j by omega]
            simp (disch := omega) only [iN_lit, iN_add, iN_sub, iN_mul, iN_neg, iN_lt, iN_eq, iN_tn, if_true, if_false, if_pos, if_neg, Option.bind_some]
            rw [show j + 2 + 1 = j + 1 + 2 by omega]
            by_cases e : ml V Wt N k (j + 2) < ml V Wt N k s
            · rw [if_pos e, if_pos e]
            · rw [if_neg e, if_neg e]) (V 0 1 - 1).toNat n 0 1 (by omega) (by omega) rfl (by omega)
        have q2' : fX10_strokeToAsk_L14 n (iN 1) (iN 2) I' r = some (iN (bs V Wt N k ((V 0 1).toNat - 1))) := by
          have : fX10_strokeToAsk_L14 n (iN 1) (iN 2) I' r = fX10_strokeToAsk_L14 n' (iN s) (iN (V 0 1 - 1 + 2)) I' r := q2
          rw [this]
          obtain ⟨n', rfl⟩ : ∃ m, n' = m + 1 := ⟨n' - 1, by omega⟩
          rw [fX10_strokeToAsk_L14, c1.2.2.1.1.2.1, ite_p (by rw [iN_lt (by omega) (by omega) (by omega) (by omega)]; omega), q3, show (V 0 1 - 1).toNat = (V 0 1).toNat - 1 by omega]
        have bi := bs_in V Wt N k ((V 0 1).toNat - 1)
        rw [q2', Option.bind_some, Option.bind_some]
        dsimp only
        by_cases e : w = 0
        · rw [ite_p (by rw [e]), if_pos e]
          exact ⟨I', rfl, g2, g3, g4⟩
        · rw [ite_n (by rw [iN_eq (by omega) (by omega) (by omega) (by omega)]; exact e), ite_n (by rw [iN_eq (by omega) (by omega) (by omega) (by omega)]; omega), if_neg e, cl_ml h.1 hF (by omega) (by omega), Option.bind_some]
          exact ⟨I', rfl, g2, g3, g4⟩
end FIT
