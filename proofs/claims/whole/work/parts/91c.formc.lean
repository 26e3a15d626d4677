/-! A piece of the formula: the class's reading of it and the stack's. -/
def pF (B : Nat → Int) (m r : Nat) (md : Bool) (st out : List Int) (u : Int) (p : Nat) (I : (Nat → Nat → Int32)) (J : mJ) (I' : (Nat → Nat → Int32)) (J' : mJ) : Prop :=
  ∃ q, cFl B m q 2 I' ∧ (p ≤ q ∧ q ≤ m) ∧ xq 1 r I I' ∧ xJ J J' ∧ ∃ j, j + p ≤ q + 1 ∧ ∀ f, am (ft B m) (tN B m) (f + j) md st out u p = some (.inl q)
def pS (B : Nat → Int) (m r : Nat) (md : Bool) (s0 o0 : List Int) (u0 : Int) (p0 : Nat) (lev : Int) (st : List Int) (d : Int) (I : (Nat → Nat → Int32)) (J : mJ) (I' : (Nat → Nat → Int32)) (J' : mJ) (K : Int) (e : Nat) : Prop :=
  ∃ (p' : Nat) (l o' : List Int) (u' : Int), cT B m p' I' J' ∧ cF r (o' ++ l) u' I' ∧ gd (o' ++ l) u' (d + 1) ∧ ((o' ++ l).length : Int) + K ≤ 9 * u' ∧ pis lev l ∧ p0 + e ≤ p' ∧ xq 0 r I I' ∧ xJ J J' ∧ exq B m lev (l ++ st) p' ∧
    ∃ j, j + p0 ≤ p' ∧ ∀ f, am (ft B m) (tN B m) (f + j) md s0 o0 u0 p0 = am (ft B m) (tN B m) f false (l ++ st) o' u' p'
def px (B : Nat → Int) (m r : Nat) (lev lw : Int) (w : Nat) (b : Bool) (g : Nat → (Nat → Nat → Int32) → mJ → Option (Int32 × (Nat → Nat → Int32) × mJ)) : Prop :=
  ∀ (n p : Nat) (st out : List Int) (u d : Int) (I : (Nat → Nat → Int32)) (J : mJ), 1700 + (m - p) ≤ n → cT B m p I J → cF r out u I → gd out u d → dp st = w → low lw st → (b = true → ft B m p = -7 → mayN st = false) →
    (∃ I' J', g n I J = some (iN 0, I', J') ∧ pF B m r true st out u p I J I' J') ∨
    (∃ I' J', g n I J = some (iN 1, I', J') ∧ pS B m r true st out u p lev st d I J I' J' (1 + w + (9 * u - out.length)) 1)
section PXB
variable {B : Nat → Int} {m r : Nat}
theorem mayN_no {c : Int} {st : List Int} (h0 : ¬ c = 0) (h4 : 4 ≤ tg c) : mayN (c :: st) = false := by
  show (decide (c = 0) || decide (tg c < 4)) = false
  rw [decide_eq_false h0, decide_eq_false (by omega)]; rfl
theorem am_bin {l st o : List Int} {u : Int} {p : Nat} (hc : -17 ≤ ft B m p ∧ ft B m p ≤ -8) (h4 : ¬ (tg (ft B m p) = 4 ∧ hasR (l ++ st) = true)) (hl : pis (tg (ft B m p)) l) (hs : low (tg (ft B m p)) st) (f : Nat) : am (ft B m) (tN B m) (f + 1) false (l ++ st) o u p = am (ft B m) (tN B m) f true (ft B m p :: st) (o ++ l) u (tN B m p) := by
  rw [am, if_neg (by decide), if_neg (by omega), if_pos ⟨hc, h4⟩, cls_app hs l o hl]
theorem px_bin (hr0 : r = 3 ∨ r = 19) {lev lw : Int} {w : Nat} {b : Bool} (hlev : lev = 1 ∨ lev = 2 ∨ lev = 5 ∨ lev = 6) (hlw : lev < lw) (hb : b = true → 4 ≤ lev) {g G : Nat → (Nat → Nat → Int32) → mJ → Option (Int32 × (Nat → Nat → Int32) × mJ)} (hg : px B m r (lev + 1) lw w b g)
    {Lp : Nat → Int32 → (Nat → Nat → Int32) → mJ → Option ((Int32 ⊕ Unit) × (Nat → Nat → Int32) × mJ)}
    (HL : ∀ (n : Nat) (y : Int) (p : Nat) (I : (Nat → Nat → Int32)) (J : mJ), cT B m p I J → 0 ≤ y → y < 1600 → Lp (n + 1) (iN y) I J = if (-17 ≤ ft B m p ∧ ft B m p ≤ -8) ∧ tg (ft B m p) = lev then (fX4_advance n I J).bind (fun o => (g n o.1 o.2).bind (fun o2 => (if o2.1 = iN 0 then some (.inl (iN 0), o2.2.1, o2.2.2) else (fX0_add (iN (ft B m p)) (r + 1) o2.2.1).bind (fun o3 => Lp n (iN (y + 1)) o3 o2.2.2)))) else some (.inr (), I, J))
    (HG : ∀ (n : Nat) (I : (Nat → Nat → Int32)) (J : mJ), G n I J = (g n I J).bind (fun o => (if o.1 = iN 0 then some (iN 0, o.2.1, o.2.2) else (Lp n (iN 0) o.2.1 o.2.2).bind (fun o => (match o with | (.inl va, v0, v1) => some (va, v0, v1) | (.inr _, v0, v1) => some (iN 1, v0, v1)))))) : px B m r lev lev w b G := by
  have loopL : ∀ (k n p : Nat) (y : Int) (st l o : List Int) (u d K : Int) (I : (Nat → Nat → Int32)) (J : mJ), m - p ≤ k → 1700 + (m - p) ≤ n → 0 ≤ y → y + 1 ≤ p → cT B m p I J → cF r (o ++ l) u I → gd (o ++ l) u (d + 1) → 0 ≤ d → ((o ++ l).length : Int) + K ≤ 9 * u → 1 ≤ K → pis lev l → exq B m (lev + 1) (l ++ st) p → dp st = w → low lev st →
      (∃ I' J', Lp n (iN y) I J = some (.inl (iN 0), I', J') ∧ pF B m r false (l ++ st) o u p I J I' J') ∨ (∃ I' J', Lp n (iN y) I J = some (.inr (), I', J') ∧ pS B m r false (l ++ st) o u p lev st d I J I' J' K 0) := by
    intro k
    induction k with
    | zero =>
      intro n p y st l o u d K I J hk hn hy hyp hT hF hg0 hd hK hK1 hl hx hdp hlo
      obtain ⟨n, rfl⟩ : ∃ k, n = k + 1 := ⟨n - 1, by omega⟩
      have hm := hT.2.1.1
      have hpm := hT.1
      right
      have hno : ¬ ((-17 ≤ ft B m p ∧ ft B m p ≤ -8) ∧ tg (ft B m p) = lev) := by
        intro h
        have := ft_lt (B := B) hpm (by omega)
        omega
      rw [HL n y p I J hT hy (by omega), if_neg hno]
      refine ⟨I, J, rfl, p, l, o, u, hT, hF, hg0, hK, hl, by omega, xq_refl, xJ_refl, ?_, 0, by omega, fun f => rfl⟩
      intro hc
      rcases hx hc with h | h
      · left
        have : ¬ tg (ft B m p) = lev := fun e => hno ⟨hc, e⟩
        omega
      · exact Or.inr h
    | succ k ih =>
      intro n p y st l o u d K I J hk hn hy hyp hT hF hg0 hd hK hK1 hl hx hdp hlo
      obtain ⟨n, rfl⟩ : ∃ k, n = k + 1 := ⟨n - 1, by omega⟩
      have hm := hT.2.1.1
      have hpm := hT.1
      rw [HL n y p I J hT hy (by omega)]
      by_cases hop : (-17 ≤ ft B m p ∧ ft B m p ≤ -8) ∧ tg (ft B m p) = lev
      · rw [if_pos hop]
        obtain ⟨hc, htg⟩ := hop
        obtain ⟨q1, q2, q3⟩ := ft_lt (B := B) hpm (by omega)
        obtain ⟨I1, J1, a1, a2, a3, a4⟩ := cl_next_t hT (n := n) (by omega)
        rw [a1, Option.bind_some]
        dsimp only
        have hstep : ∀ f, am (ft B m) (tN B m) (f + 1) false (l ++ st) o u p = am (ft B m) (tN B m) f true (ft B m p :: st) (o ++ l) u (tN B m p) := am_bin hc (by omega) (by rw [htg]; exact hl) (by rw [htg]; exact hlo)
        have hdp1 : dp (ft B m p :: st) = w := by rw [dp, if_neg (by omega)]; omega
        rcases hg n (tN B m p) (ft B m p :: st) (o ++ l) u (d + 1) I1 J1 (by omega) a2 (cF_k hr0 hF a3) hg0 hdp1 (Or.inr (by omega)) (fun e _ => by have := hb e; exact mayN_no (by omega) (by omega)) with ⟨I2, J2, b1, q, b2, b3, b4, b5, j, b6, b7⟩ | ⟨I2, J2, b1, p2, l2, o2, u2, b2, b3, b4, b5, b6, b7, b8, b9, b10, j, b11, b12⟩
        · left
          rw [b1, Option.bind_some]
          dsimp only
          rw [ite_p rfl]
          refine ⟨I2, J2, rfl, q, b2, by omega, xq_trans (xq_k a3) b4, xJ_trans a4 b5, j + 1, by omega, fun f => ?_⟩
          rw [show f + (j + 1) = f + j + 1 by omega, hstep, b7]
        · rw [b1, Option.bind_some]
          dsimp only
          rw [ite_n n10]
          have hlen2 : (o2 ++ l2).length < 300 := by have := b4.1; have := b4.2.1; omega
          obtain ⟨I3, c1, c2, c3⟩ := cl_add0 hr0 b3 hlen2 (ft B m p)
          rw [c1, Option.bind_some]
          have hT3 : cT B m p2 I3 J2 := cT_of hr0 b2 (fun a k h1 h2 => c3 a k (by omega) (by omega)) (fun _ _ _ => rfl)
          have x3 : xq 0 r I2 I3 := fun a k _ h2 h3 => c3 a k (by omega) h3
          rw [List.append_assoc] at c2
          have hg3 := gd_bin (c := ft B m p) (d := d) (by rw [show d + 2 = d + 1 + 1 by omega]; exact b4) hd (by omega) (by omega)
          rw [List.append_assoc] at hg3
          have hlen3 : ((o2 ++ (l2 ++ [ft B m p])).length : Int) = (o2 ++ l2).length + 1 := by rw [← List.append_assoc, List.length_append]; rfl
          have e1 : l2 ++ ft B m p :: st = l2 ++ [ft B m p] ++ st := by rw [List.append_assoc]; rfl
          rw [e1] at b10
          have b12' : ∀ f, am (ft B m) (tN B m) (f + j) true (ft B m p :: st) (o ++ l) u (tN B m p) = am (ft B m) (tN B m) f false (l2 ++ [ft B m p] ++ st) o2 u2 p2 := fun f => by rw [b12, e1]
          rcases ih n p2 (y + 1) st (l2 ++ [ft B m p]) o2 u2 d K I3 J2 (by omega) (by omega) (by omega) (by omega) hT3 c2 hg3 hd (by omega) hK1 (pis_snoc (pis_mono b6 (by omega)) ⟨by omega, by omega⟩) b10 hdp hlo with ⟨I4, J4, d1, q, d2, d3, d4, d5, j', d6, d7⟩ | ⟨I4, J4, d1, p3, l3, o3, u3, d2, d3, d4, d5, d6, d7, d8, d9, d10, j', d11, d12⟩
          · left
            refine ⟨I4, J4, d1, q, d2, by omega, xq_trans (xq_k a3) (xq_trans b8 (xq_trans x3 d4)), xJ_trans a4 (xJ_trans b9 d5), j' + j + 1, by omega, fun f => ?_⟩
            rw [show f + (j' + j + 1) = (f + j') + j + 1 by omega, hstep, b12', d7]
          · right
            refine ⟨I4, J4, d1, p3, l3, o3, u3, d2, d3, d4, d5, d6, by omega, xq_trans (xq_k a3) (xq_trans b8 (xq_trans x3 d8)), xJ_trans a4 (xJ_trans b9 d9), d10, j' + j + 1, by omega, fun f => ?_⟩
            rw [show f + (j' + j + 1) = (f + j') + j + 1 by omega, hstep, b12', d12]
      · rw [if_neg hop]
        right
        refine ⟨I, J, rfl, p, l, o, u, hT, hF, hg0, hK, hl, by omega, xq_refl, xJ_refl, ?_, 0, by omega, fun f => rfl⟩
        intro hc
        rcases hx hc with h | h
        · left
          have : ¬ tg (ft B m p) = lev := fun e => hop ⟨hc, e⟩
          omega
        · exact Or.inr h
  intro n p st out u d I J hn hT hF hg0 hdp hlo hnb
  rw [HG]
  rcases hg n p st out u d I J hn hT hF hg0 hdp (low_mono hlo (by omega)) hnb with ⟨I2, J2, b1, b2⟩ | ⟨I2, J2, b1, p2, l2, o2, u2, b2, b3, b4, b5, b6, b7, b8, b9, b10, j, b11, b12⟩
  · left
    rw [b1, Option.bind_some]
    dsimp only
    rw [ite_p rfl]
    exact ⟨I2, J2, rfl, b2⟩
  · rw [b1, Option.bind_some]
    dsimp only
    rw [ite_n n10]
    have hlen := hg0.2.1
    rcases loopL (m - p2) n p2 0 st l2 o2 u2 d (1 + w + (9 * u - out.length)) I2 J2 (Nat.le_refl _) (by have := b2.1; omega) (by omega) (by omega) b2 b3 b4 hg0.2.2.2.1 b5 (by omega) (pis_mono b6 (by omega)) b10 hdp hlo with ⟨I4, J4, d1, q, d2, d3, d4, d5, j', d6, d7⟩ | ⟨I4, J4, d1, p3, l3, o3, u3, d2, d3, d4, d5, d6, d7, d8, d9, d10, j', d11, d12⟩
    · left
      rw [d1]
      refine ⟨I4, J4, rfl, q, d2, by omega, xq_trans b8 d4, xJ_trans b9 d5, j' + j, by omega, fun f => ?_⟩
      rw [show f + (j' + j) = (f + j') + j by omega, b12, d7]
    · right
      rw [d1]
      refine ⟨I4, J4, rfl, p3, l3, o3, u3, d2, d3, d4, d5, d6, by omega, xq_trans b8 d8, xJ_trans b9 d9, d10, j' + j, by omega, fun f => ?_⟩
      rw [show f + (j' + j) = (f + j') + j by omega, b12, d12]
end PXB
