/-! Exact odds, in both. -/
def sg (F : Nat → Int) (n : Nat) : Int := match n with
  | 0 => 0
  | n + 1 => sg F n + F n
theorem sg_congr {F G : Nat → Int} (n : Nat) (h : ∀ i, i < n → F i = G i) : sg F n = sg G n := by
  induction n with
  | zero => rfl
  | succ n ih => rw [sg, sg, ih (fun i hi => h i (by omega)), h n (by omega)]
theorem sg_add (F G : Nat → Int) (n : Nat) : sg (fun i => F i + G i) n = sg F n + sg G n := by
  induction n with
  | zero => rfl
  | succ n ih => rw [sg, sg, sg, ih]; omega
theorem sg_mul (a : Int) (F : Nat → Int) (n : Nat) : sg (fun i => a * F i) n = a * sg F n := by
  induction n with
  | zero => rw [sg, sg, Int.mul_zero]
  | succ n ih => rw [sg, sg, ih, Int.mul_add]
theorem sg_zero (n : Nat) : sg (fun _ => 0) n = 0 := by
  induction n with
  | zero => rfl
  | succ n ih => rw [sg, ih]; rfl
theorem sg_swap (F : Nat → Nat → Int) (n m : Nat) : sg (fun i => sg (fun j => F i j) m) n = sg (fun j => sg (fun i => F i j) n) m := by
  induction n with
  | zero => rw [sg]; rw [show (fun j => sg (fun i => F i j) 0) = fun _ => (0 : Int) from rfl, sg_zero]
  | succ n ih =>
    rw [sg, ih, ← sg_add]
    apply sg_congr
    intro j _
    rfl
theorem sg_pick (G : Nat → Int) (n : Nat) (e : Nat) (h : e < n) : sg (fun i => (if e = i then 1 else 0) * G i) n = G e := by
  induction n with
  | zero => omega
  | succ n ih =>
    rw [sg]
    by_cases he : e = n
    · subst he
      have : sg (fun i => (if e = i then 1 else 0) * G i) e = 0 := by
        rw [sg_congr e (G := fun _ => 0) (by intro i hi; rw [if_neg (by omega), Int.zero_mul]), sg_zero]
      rw [this, if_pos rfl]; omega
    · rw [ih (by omega), if_neg he]; omega
/-- one stroke's weight by the current's strength k -/
def w1 (V : (Nat → Int → Int)) (k : Int) (c r : Int) (G : Int → Int) : Int := if V 2 (8 * (r + 1) + lead V c r 0 k) = 1 then 0 else G (lead V c r 0 k)
def wt (V : (Nat → Int → Int)) (d : Int) (n : Nat) (c r : Int) : Int := match n with
  | 0 => if c = d then 1 else 0
  | n + 1 => (100 - V 0 4) * w1 V 1 c r (fun e => wt V d n e (r + 1)) + V 0 4 * w1 V 2 c r (fun e => wt V d n e (r + 1))
theorem wt_in {V : (Nat → Int → Int)} (hw : wfV V) (d : Int) (n : Nat) : ∀ (c r : Int), 0 ≤ wt V d n c r ∧ wt V d n c r ≤ ((100 ^ n : Nat) : Int) := by
  have hu := hw.1
  induction n with
  | zero => intro c r; rw [wt]; split <;> simp
  | succ n ih =>
    intro c r
    have g : ∀ k, 0 ≤ w1 V k c r (fun e => wt V d n e (r + 1)) ∧ w1 V k c r (fun e => wt V d n e (r + 1)) ≤ ((100 ^ n : Nat) : Int) := by
      intro k
      unfold w1
      split
      · exact ⟨Int.le_refl _, Int.natCast_nonneg _⟩
      · exact ih _ _
    have g1 := g 1
    have g2 := g 2
    have hp : ((100 ^ (n + 1) : Nat) : Int) = 100 * ((100 ^ n : Nat) : Int) := by rw [Nat.pow_succ, Nat.mul_comm]; exact Int.natCast_mul ..
    rw [wt, hp]
    generalize ((100 ^ n : Nat) : Int) = P at *
    generalize w1 V 1 c r (fun e => wt V d n e (r + 1)) = x at *
    generalize w1 V 2 c r (fun e => wt V d n e (r + 1)) = y at *
    have a1 : 0 ≤ (100 - V 0 4) * x := Int.mul_nonneg (by omega) g1.1
    have a2 : 0 ≤ V 0 4 * y := Int.mul_nonneg (by omega) g2.1
    have a3 : (100 - V 0 4) * x ≤ (100 - V 0 4) * P := Int.mul_le_mul_of_nonneg_left g1.2 (by omega)
    have a4 : V 0 4 * y ≤ V 0 4 * P := Int.mul_le_mul_of_nonneg_left g2.2 (by omega)
    have a5 : (100 - V 0 4) * P + V 0 4 * P = 100 * P := by rw [← Int.add_mul]; congr 1; omega
    omega
/-- the class's loop and method (its rows w and nw change places) -/
def fX6_oddsPart_L51 (n : Nat) (y4 y5 : Int32) (I : (Nat → Nat → Int32)) (rv w nw : Nat) : Option (Int32 × Nat × Nat × (Nat → Nat → Int32)) := match n with
  | 0 => none
  | n + 1 => if y5 < I rv 1 then (fX6_flowOn n y5 I rv w nw).bind fun o => fX6_oddsPart_L51 n (y4 * 100) (y5 + 1) o rv nw w else some (y4, w, nw, I)
def fX6_oddsPart (n : Nat) (x1 x2 x3 : Int32) (I : (Nat → Nat → Int32)) (rv w nw : Nat) : Option (Int32 × Nat × Nat × (Nat → Nat → Int32)) := if 4 < fX7_strokesLeft x1 I rv then some (-1, w, nw, I) else (fX6_oddsPart_L51 n 1 (fX7_rowOf x1 (mf_put (mf_fill I w 8 0) w 8 (fX7_columnOf x1 (mf_fill I w 8 0)) 1)) (mf_put (mf_fill I w 8 0) w 8 (fX7_columnOf x1 (mf_fill I w 8 0)) 1) rv w nw).bind fun o => (fX6_commonPart n (mf_pick o.2.2.2 o.2.1 8 x2) o.1).bind fun g => if x3 = 0 then (if fJ9_max 1 g = 0 then none else some ((mf_pick o.2.2.2 o.2.1 8 x2) / fJ9_max 1 g, o.2.1, o.2.2.1, o.2.2.2)) else (if fJ9_max 1 g = 0 then none else some (o.1 / fJ9_max 1 g, o.2.1, o.2.2.1, o.2.2.2))
section ODC
variable {V : (Nat → Int → Int)} {S : Int → Int} {r : Nat}
theorem cl_flowTo {I : (Nat → Nat → Int32)} {nw : Nat} (hnw : nw = 39 ∨ nw = 40) (h : cOK V S r I) {e w x : Int} {F : Int → Int} (h1 : 0 ≤ e) (h2 : e < V 0 0) (h3 : 0 ≤ w) (h4 : w ≤ V 0 1) (hF : hr I nw 8 F) : ex [nw] I (fX6_flowTo (iN e) (iN w) (iN x) I r nw) ∧ hr (fX6_flowTo (iN e) (iN w) (iN x) I r nw) nw 8 (fun z => F z + (if V 2 (8 * w + e) = 1 then 0 else if z = e then x else 0)) := by
  have hu := h.1.1
  have k := hF e h1 (by omega)
  rw [fX6_flowTo, cl_iron h.1 h.2.2.1 h1 h2 h3 h4]
  simp only [iN_lit]
  by_cases hi : V 2 (8 * w + e) = 1
  · rw [if_pos hi, ite_n n10]
    refine ⟨ex_refl, ?_⟩
    intro z z0 z8
    dsimp only
    rw [if_pos hi, Int.add_zero]
    exact hF z z0 z8
  · rw [if_neg hi, ite_p rfl, iN_pick h1 (by omega) (by omega), iN_put h1 (by omega) (by omega), k, iN_add]
    refine ⟨ex_up (by simp), ?_⟩
    intro z z0 z8
    dsimp only
    rw [up_c, if_neg hi]
    by_cases ez : z = e
    · rw [if_pos (by omega), if_pos ez, ez]
    · rw [if_neg (by omega), if_neg ez, Int.add_zero]
      exact hF z z0 z8
def wOk (w nw : Nat) : Prop := (w = 39 ∧ nw = 40) ∨ (w = 40 ∧ nw = 39)
theorem cl_flow (hr0 : r = 3 ∨ r = 19) {I : (Nat → Nat → Int32)} {w nw : Nat} (hww : wOk w nw) (h : cOK V S r I) {row : Int} (h3 : 0 ≤ row) (h4 : row + 1 ≤ V 0 1) {W : Int → Int} (hW : hr I w 8 W) {n : Nat} (hn : 20 ≤ n) :
    ∃ I', fX6_flowOn n (iN row) I r w nw = some I' ∧ ex [nw] I I' ∧ hr I' nw 8 (fun z => sg (fun c => W c * wt V z 1 c row) (V 0 0).toNat) := by
  have hu := h.1.1
  have hnw : nw = 39 ∨ nw = 40 := by unfold wOk at hww; omega
  have hne : w ≠ nw := by unfold wOk at hww; omega
  have hsafe : ∀ a ∈ [32, r, r + 1, r + 2, r + 5, r + 6, r + 7, r + 8, r + 9, r + 11], a ∉ [nw] := by rcases hr0 with rfl | rfl <;> rcases hnw with rfl | rfl <;> decide
  rw [fX6_flowOn]
  simp only [iN_lit]
  have x0 : ex [nw] I (mf_fill I nw 8 (iN 0)) := ex_fill (by simp)
  obtain ⟨n', I', q1, q2, q3, q4⟩ := loop (fun n k J => fX6_flowOn_L18 n (iN row) (iN k) J r w nw) 1 (P := V 0 0) (fun k J => ex [nw] I J ∧ hr J nw 8 (fun z => sg (fun c => W c * wt V z 1 c row) k.toNat))
    (by
      intro n k J hn k0 k1 ⟨hx, hz⟩
      have hc := cOK_ex h hx hsafe
      have hWk : mf_pick J w 8 (iN k) = iN (W k) := by
        rw [iN_pick k0 (by omega) (by omega), hx w (by simp [hne])]
        exact hW k k0 (by omega)
      have ld1 := cl_lead h.1 hc.2.2.1 (c := k) (w := row) (s := 0) (k := 1) k0 k1 h3 (by omega) (by omega) (by omega)
      have a1 := lead_lo h.1 (c := k) (r := row) (s := 0) (k := 1)
      have a2 := lead_hi h.1 (c := k) (r := row) (s := 0) (k := 1)
      have b1 := lead_lo h.1 (c := k) (r := row) (s := 0) (k := 2)
      have b2 := lead_hi h.1 (c := k) (r := row) (s := 0) (k := 2)
      obtain ⟨f1, f2⟩ := cl_flowTo hnw hc (e := lead V k row 0 1) (w := row + 1) (x := W k * (100 - V 0 4)) a1 a2 (by omega) h4 hz
      have hc1 := cOK_ex hc f1 hsafe
      have ld2 := cl_lead h.1 hc1.2.2.1 (c := k) (w := row) (s := 0) (k := 2) k0 k1 h3 (by omega) (by omega) (by omega)
      obtain ⟨g1, g2⟩ := cl_flowTo hnw hc1 (e := lead V k row 0 2) (w := row + 1) (x := W k * V 0 4) b1 b2 (by omega) h4 f2
      refine ⟨_, ?_, ex_trans hx (ex_trans f1 g1), ?_⟩
      · show fX6_flowOn_L18 (n + 1) _ _ _ _ _ _ = _
        rw [fX6_flowOn_L18]
        simp only [iN_lit]
        rw [hc.2.2.1.1.1, ite_p (by rw [iN_lt (by omega) (by omega) (by omega) (by omega)]; exact k1), hWk, ld1, hc.2.2.1.1.2.2.2.2.1]
        simp only [iN_add, iN_sub, iN_mul]
        rw [ld2, hc1.2.2.1.1.2.2.2.2.1, iN_mul]
      · intro z z0 z8
        rw [g2 z z0 z8]
        dsimp only
        rw [show (k + 1).toNat = k.toNat + 1 by omega, sg, show ((k.toNat : Nat) : Int) = k by omega, Int.add_assoc]
        congr 1
        rw [wt]
        unfold w1
        have e0 : ∀ e : Int, wt V z 0 e (row + 1) = if e = z then 1 else 0 := fun e => rfl
        simp only [e0]
        have key : ∀ (e f : Int) , (if V 2 (8 * (row + 1) + e) = 1 then 0 else if z = e then W k * f else 0) = W k * (f * (if V 2 (8 * (row + 1) + e) = 1 then 0 else if e = z then 1 else 0)) := by
          intro e f
          split
          · rw [Int.mul_zero, Int.mul_zero]
          · by_cases ez : z = e
            · rw [if_pos ez, if_pos ez.symm, Int.mul_one]
            · rw [if_neg ez, if_neg (fun hh => ez hh.symm), Int.mul_zero, Int.mul_zero]
        rw [key, key, ← Int.mul_add]) (V 0 0).toNat n 0 (mf_fill I nw 8 (iN 0)) (by omega) (by omega) ⟨x0, fun z z0 z8 => by rw [fill_eq (by omega)]; rfl⟩ (by omega)
  refine ⟨I', ?_, q3, q4⟩
  have q2' : fX6_flowOn_L18 n (iN row) (iN 0) (mf_fill I nw 8 (iN 0)) r w nw = fX6_flowOn_L18 n' (iN row) (iN (V 0 0)) I' r w nw := q2
  have hc := cOK_ex h q3 hsafe
  rw [q2']
  obtain ⟨n', rfl⟩ : ∃ m, n' = m + 1 := ⟨n' - 1, by omega⟩
  rw [fX6_flowOn_L18, hc.2.2.1.1.1, if_neg (iN_ir _), Option.bind_some]
theorem wt_two (hw : wfV V) (d : Int) (n : Nat) {c row : Int} (h1 : 0 ≤ c) (h2 : c < V 0 0) : sg (fun e => wt V e 1 c row * wt V d n e (row + 1)) (V 0 0).toNat = wt V d (n + 1) c row := by
  have hu := hw.1
  have key : ∀ k : Int, sg (fun e => w1 V k c row (fun x => wt V (e : Int) 0 x (row + 1)) * wt V d n e (row + 1)) (V 0 0).toNat = w1 V k c row (fun e => wt V d n e (row + 1)) := by
    intro k
    have a1 := lead_lo hw (c := c) (r := row) (s := 0) (k := k)
    have a2 := lead_hi hw (c := c) (r := row) (s := 0) (k := k)
    unfold w1
    by_cases hi : V 2 (8 * (row + 1) + lead V c row 0 k) = 1
    · simp only [if_pos hi]
      rw [sg_congr _ (G := fun _ => 0) (by intro i _; rw [Int.zero_mul]), sg_zero]
    · simp only [if_neg hi]
      have := sg_pick (fun e => wt V d n e (row + 1)) (V 0 0).toNat (lead V c row 0 k).toNat (by omega)
      rw [show (((lead V c row 0 k).toNat : Nat) : Int) = lead V c row 0 k by omega] at this
      rw [← this]
      apply sg_congr
      intro i hi'
      congr 1
      rw [wt]
      by_cases e : (lead V c row 0 k).toNat = i
      · rw [if_pos (by omega), if_pos e]
      · rw [if_neg (by omega), if_neg e]
  have : (fun (e : Nat) => wt V e 1 c row * wt V d n e (row + 1)) = fun (e : Nat) => (100 - V 0 4) * (w1 V 1 c row (fun x => wt V (e : Int) 0 x (row + 1)) * wt V d n e (row + 1)) + V 0 4 * (w1 V 2 c row (fun x => wt V (e : Int) 0 x (row + 1)) * wt V d n e (row + 1)) := by
    funext e
    rw [show wt V (e : Int) 1 c row = (100 - V 0 4) * w1 V 1 c row (fun x => wt V (e : Int) 0 x (row + 1)) + V 0 4 * w1 V 2 c row (fun x => wt V (e : Int) 0 x (row + 1)) from rfl, Int.add_mul, Int.mul_assoc, Int.mul_assoc]
  rw [this, sg_add, sg_mul, sg_mul, key, key]
  rfl
theorem cl_odds_l (hr0 : r = 3 ∨ r = 19) (k : Nat) : ∀ (n : Nat) (p row : Int) (W : Int → Int) (w nw : Nat) (I : (Nat → Nat → Int32)), wOk w nw → cOK V S r I → 0 ≤ row → row + k = V 0 1 → 30 + k ≤ n → hr I w 8 W →
    ∃ w' nw' I', fX6_oddsPart_L51 n (iN p) (iN row) I r w nw = some (iN (p * ((100 ^ k : Nat) : Int)), w', nw', I') ∧ wOk w' nw' ∧ ex [39, 40] I I' ∧ ∀ d : Int, 0 ≤ d → d < V 0 0 → I' w' d.toNat = iN (sg (fun c => W c * wt V d k c row) (V 0 0).toNat) := by
  induction k with
  | zero =>
    intro n p row W w nw I hww h h1 h2 hn hW
    have hu := h.1.1
    obtain ⟨n, rfl⟩ : ∃ m, n = m + 1 := ⟨n - 1, by omega⟩
    refine ⟨w, nw, I, ?_, hww, ex_refl, ?_⟩
    · rw [fX6_oddsPart_L51, h.2.2.1.1.2.1, show iN row = iN (V 0 1) by congr 1; omega, if_neg (iN_ir _), Nat.pow_zero]
      congr 2
      show iN p = iN (p * 1)
      rw [Int.mul_one]
    · intro d d0 d1
      rw [hW d d0 (by omega)]
      congr 1
      have := sg_pick (fun c => W c) (V 0 0).toNat d.toNat (by omega)
      rw [show ((d.toNat : Nat) : Int) = d by omega] at this
      rw [← this]
      apply sg_congr
      intro i _
      show (if d.toNat = i then 1 else 0) * W i = W i * (if (i : Int) = d then 1 else 0)
      by_cases e : d.toNat = i
      · rw [if_pos e, if_pos (by omega), Int.mul_comm]
      · rw [if_neg e, if_neg (by omega), Int.mul_comm]
  | succ k ih =>
    intro n p row W w nw I hww h h1 h2 hn hW
    have hu := h.1.1
    obtain ⟨n, rfl⟩ : ∃ m, n = m + 1 := ⟨n - 1, by omega⟩
    obtain ⟨I1, g1, g2, g3⟩ := cl_flow hr0 hww h (row := row) h1 (by omega) hW (n := n) (by omega)
    have x1 : ex [39, 40] I I1 := ex_mono g2 (by intro a ha; unfold wOk at hww; simp at ha ⊢; omega)
    have c1 := cOK_ex h x1 (by rcases hr0 with rfl | rfl <;> decide)
    obtain ⟨w', nw', I', f1, f2, f3, f4⟩ := ih n (p * 100) (row + 1) (fun z => sg (fun c => W c * wt V z 1 c row) (V 0 0).toNat) nw w I1 (by unfold wOk at hww ⊢; omega) c1 (by omega) (by omega) (by omega) g3
    refine ⟨w', nw', I', ?_, f2, ex_trans x1 f3, ?_⟩
    · rw [fX6_oddsPart_L51, h.2.2.1.1.2.1, ite_p (by rw [iN_lt (by omega) (by omega) (by omega) (by omega)]; omega), g1, Option.bind_some]
      simp only [iN_lit, iN_add, iN_mul]
      rw [f1, show p * 100 * ((100 ^ k : Nat) : Int) = p * ((100 ^ (k + 1) : Nat) : Int) by rw [Nat.pow_succ, Int.natCast_mul, Int.mul_assoc, Int.mul_comm (100 : Int)]; rfl]
    · intro d d0 d1
      rw [f4 d d0 d1]
      congr 1
      have : ∀ e : Nat, sg (fun c => W c * wt V e 1 c row) (V 0 0).toNat * wt V d k e (row + 1) = sg (fun c => W c * (wt V e 1 c row * wt V d k e (row + 1))) (V 0 0).toNat := by
        intro e
        rw [Int.mul_comm, ← sg_mul]
        apply sg_congr
        intro c _
        rw [Int.mul_comm, Int.mul_assoc]
      rw [sg_congr (V 0 0).toNat (G := fun e => sg (fun c => W c * (wt V e 1 c row * wt V d k e (row + 1))) (V 0 0).toNat) (fun e _ => this e), sg_swap]
      apply sg_congr
      intro c hc
      rw [sg_mul, wt_two h.1 d k (by omega) (by omega)]
end ODC
