/-! Two who want one landing, in both. -/
def ab (x : Int) : Int := if x < 0 then -x else x
theorem rf_plain {x : Int} (h1 : -1000000 ≤ x) (h2 : x ≤ 1000000) : fX12_plain (iN x) = iN (ab x) := by
  rw [fX12_plain]
  simp (disch := omega) only [iN_lit, iN_lt, iN_neg]
  unfold ab
  split <;> rfl
theorem cl_abs {x : Int} (h1 : -1000000 ≤ x) (h2 : x ≤ 1000000) : fJ9_abs (iN x) = iN (ab x) := by
  rw [fJ9_abs]
  simp (disch := omega) only [iN_lit, iN_lt, iN_neg]
  unfold ab
  split <;> rfl
def gn (own oth f : Int) : Int := (if own = oth then 3 else 9) - ab (own - f)
def sbt (X : Int32) (f own oth : Int) (n : Nat) : Bool := match n with
  | 0 => true
  | n + 1 => sbt X f own oth n && (!bit X n || decide (gn n oth f ≤ gn own oth f))
theorem sbt_more {X : Int32} {f own oth : Int} {m : Nat} (hX : ∀ d : Int, 0 ≤ d → d < 32 → bit X d = true → d < m) (k : Nat) (hk : m + k ≤ 32) : sbt X f own oth (m + k) = sbt X f own oth m := by
  induction k with
  | zero => rfl
  | succ k ih =>
    have : bit X ((m + k : Nat) : Int) = false := by
      cases e : bit X ((m + k : Nat) : Int) with
      | false => rfl
      | true => have := hX _ (by omega) (by omega) e; omega
    rw [show m + (k + 1) = m + k + 1 by omega, sbt, ih (by omega), this]
    simp
def gs (A B : Int32) (fa fb : Int) (x y : Int) (st : Int × Int × Int) : Int × Int × Int :=
  if (bit A x && bit B y && (sbt A fa x y 8 && sbt B fb y x 8)) = true then (st.1 + 1, if st.1 = 0 then x else st.2.1, if st.1 = 0 then y else st.2.2) else st
def gy (A B : Int32) (fa fb : Int) (x : Int) (n : Nat) (st : Int × Int × Int) : Int × Int × Int := match n with
  | 0 => st
  | n + 1 => gs A B fa fb x n (gy A B fa fb x n st)
def gx (A B : Int32) (fa fb : Int) (m n : Nat) (st : Int × Int × Int) : Int × Int × Int := match n with
  | 0 => st
  | n + 1 => gy A B fa fb n m (gx A B fa fb m n st)
theorem gs_in (A B : Int32) (fa fb x y : Int) (st : Int × Int × Int) : st.1 ≤ (gs A B fa fb x y st).1 ∧ (gs A B fa fb x y st).1 ≤ st.1 + 1 := by unfold gs; split <;> simp <;> omega
theorem gy_in (A B : Int32) (fa fb x : Int) (n : Nat) (st : Int × Int × Int) : st.1 ≤ (gy A B fa fb x n st).1 ∧ (gy A B fa fb x n st).1 ≤ st.1 + n := by
  induction n with
  | zero => rw [gy]; omega
  | succ n ih => rw [gy]; have := gs_in A B fa fb x n (gy A B fa fb x n st); omega
theorem gx_in (A B : Int32) (fa fb : Int) (m n : Nat) (st : Int × Int × Int) : st.1 ≤ (gx A B fa fb m n st).1 ∧ (gx A B fa fb m n st).1 ≤ st.1 + n * m := by
  induction n with
  | zero => rw [gx]; simp
  | succ n ih => rw [gx]; have := gy_in A B fa fb n m (gx A B fa fb m n st); rw [Int.natCast_succ, Int.add_mul, Int.one_mul]; omega
theorem gy_more {A B : Int32} {fa fb : Int} {m : Nat} (hB : ∀ d : Int, 0 ≤ d → d < 32 → bit B d = true → d < m) (x : Int) (st : Int × Int × Int) (k : Nat) (hk : m + k ≤ 32) : gy A B fa fb x (m + k) st = gy A B fa fb x m st := by
  induction k with
  | zero => rfl
  | succ k ih =>
    have : bit B ((m + k : Nat) : Int) = false := by
      cases e : bit B ((m + k : Nat) : Int) with
      | false => rfl
      | true => have := hB _ (by omega) (by omega) e; omega
    rw [show m + (k + 1) = m + k + 1 by omega, gy, ih (by omega), gs, this]
    simp
theorem gy_none {A B : Int32} {fa fb x : Int} (h : bit A x = false) (n : Nat) (st : Int × Int × Int) : gy A B fa fb x n st = st := by
  induction n with
  | zero => rfl
  | succ n ih => rw [gy, ih, gs, h]; simp
theorem gx_more {A B : Int32} {fa fb : Int} {m : Nat} (hA : ∀ d : Int, 0 ≤ d → d < 32 → bit A d = true → d < m) (hB : ∀ d : Int, 0 ≤ d → d < 32 → bit B d = true → d < m) (hm : m ≤ 8) (st : Int × Int × Int) : gx A B fa fb 8 8 st = gx A B fa fb m m st := by
  have h1 : ∀ k, m + k ≤ 8 → gx A B fa fb m (m + k) st = gx A B fa fb m m st := by
    intro k
    induction k with
    | zero => intro _; rfl
    | succ k ih =>
      intro hk
      have : bit A ((m + k : Nat) : Int) = false := by
        cases e : bit A ((m + k : Nat) : Int) with
        | false => rfl
        | true => have := hA _ (by omega) (by omega) e; omega
      rw [show m + (k + 1) = m + k + 1 by omega, gx, ih (by omega), gy_none this]
  have h2 : ∀ k, gx A B fa fb 8 k st = gx A B fa fb m k st := by
    intro k
    induction k with
    | zero => rfl
    | succ k ih => rw [gx, gx, ih, show 8 = m + (8 - m) by omega, gy_more hB _ _ _ (by omega)]
  rw [h2, ← h1 (8 - m) (by omega), show m + (8 - m) = 8 by omega]
def gFin (V : (Nat → Int → Int)) (S : Int → Int) (b d : Int) : Int × Int × Int := gx (lnd V (lft V S b) (S b) (S (4 + b))) (lnd V (lft V S d) (S d) (S (4 + d))) (S b) (S d) 8 8 (0, 0, 0)
def gOk (V : (Nat → Int → Int)) (S : Int → Int) (b d : Int) : Prop := (0 ≤ b ∧ b < V 0 2) ∧ (0 ≤ d ∧ d < V 0 2) ∧ ¬ b = d ∧ ¬ lnd V (lft V S b) (S b) (S (4 + b)) = iN 0 ∧ ¬ lnd V (lft V S d) (S d) (S (4 + d)) = iN 0
def gDec (V : (Nat → Int → Int)) (S : Int → Int) (b d : Int) : Decidable (gOk V S b d) := by unfold gOk; exact inferInstance
def aGu (V : (Nat → Int → Int)) (S : Int → Int) (b d : Int) : Int := @ite _ (gOk V S b d) (gDec V S b d) (gFin V S b d).1 (-1)
def gLay (st : Int × Int × Int) : List Int := if 0 < st.1 then [st.2.1, st.2.2] else []
def lGu (V : (Nat → Int → Int)) (S : Int → Int) (b d : Int) : List Int := @ite _ (gOk V S b d) (gDec V S b d) (gLay (gFin V S b d)) []
section GUE
variable {V : (Nat → Int → Int)} {S : Int → Int} {r : Nat} {I : (Nat → Nat → Int32)}
theorem cl_gain {own oth f : Int} (h1 : 0 ≤ own ∧ own < 8) (h2 : 0 ≤ oth ∧ oth < 8) (h3 : 0 ≤ f ∧ f < 8) : fX1_gain (iN own) (iN oth) (iN f) = iN (gn own oth f) := by
  rw [fX1_gain, iN_sub, cl_abs (by omega) (by omega)]
  simp (disch := omega) only [iN_lit, iN_eq, iN_sub]
  unfold gn
  split <;> rfl
theorem gn_in {own oth f : Int} (h1 : 0 ≤ own ∧ own < 8) (h3 : 0 ≤ f ∧ f < 8) : -8 ≤ gn own oth f ∧ gn own oth f ≤ 9 := by
  unfold gn ab
  split <;> split <;> omega
theorem cl_stays (X : Int32) {f own oth : Int} (h1 : 0 ≤ own ∧ own < 8) (h2 : 0 ≤ oth ∧ oth < 8) (h3 : 0 ≤ f ∧ f < 8) {n : Nat} (hn : 12 ≤ n) : fX1_staysBest n X (iN f) (iN own) (iN oth) = some (if sbt X f own oth 8 = true then iN 1 else iN 0) := by
  have key : ∀ (k n c : Nat), c + k = 8 → k < n → sbt X f own oth c = true → ∃ y, fX1_staysBest_L3 n X (iN f) (iN own) (iN oth) (iN c) = some y ∧ (match y with | .inl va => va | .inr _ => iN 1) = if sbt X f own oth 8 = true then iN 1 else iN 0 := by
    intro k
    induction k with
    | zero =>
      intro n c hc hn hs
      obtain ⟨n, rfl⟩ : ∃ m, n = m + 1 := ⟨n - 1, by omega⟩
      rw [fX1_staysBest_L3]
      simp (disch := omega) only [iN_lit, iN_add, iN_sub, iN_mul, iN_neg, iN_lt, iN_eq, iN_tn, if_true, if_false, if_pos, if_neg]
      rw [show c = 8 by omega] at hs
      exact ⟨_, rfl, by rw [if_pos hs]⟩
    | succ k ih =>
      intro n c hc hn hs
      obtain ⟨n, rfl⟩ : ∃ m, n = m + 1 := ⟨n - 1, by omega⟩
      have g1 := gn_in (oth := oth) h1 h3
      have g2 := gn_in (own := c) (oth := oth) (by omega) h3
      rw [fX1_staysBest_L3, cl_gain h1 h2 h3, cl_gain (by omega) h2 h3]
      simp (disch := omega) only [iN_lit, iN_add, iN_sub, iN_mul, iN_neg, iN_lt, iN_eq, iN_tn, if_true, if_false, if_pos, if_neg, iN_31, bit_t0]
      by_cases e : bit X c = true
      · rw [e, ite_n (by decide)]
        by_cases e2 : gn own oth f < gn c oth f
        · rw [if_pos e2]
          have : ∀ j, sbt X f own oth (c + 1 + j) = false := by
            intro j
            induction j with
            | zero => rw [Nat.add_zero, sbt, e, hs]; simp; omega
            | succ j ihj => rw [show c + 1 + (j + 1) = c + 1 + j + 1 by omega, sbt, ihj]; rfl
          have h8 := this k
          rw [show c + 1 + k = 8 by omega] at h8
          exact ⟨_, rfl, by rw [h8]; rfl⟩
        · rw [if_neg e2]
          exact ih n (c + 1) (by omega) (by omega) (by rw [sbt, hs, e]; simp; omega)
      · have e' : bit X c = false := by simpa using e
        rw [e', ite_p rfl]
        exact ih n (c + 1) (by omega) (by omega) (by rw [sbt, hs, e']; rfl)
  obtain ⟨y, y1, y2⟩ := key 8 n 0 (by omega) (by omega) rfl
  rw [fX1_staysBest]
  simp only [iN_lit]
  have y1' : fX1_staysBest_L3 n X (iN f) (iN own) (iN oth) (iN 0) = some y := y1
  rw [y1', Option.bind_some, ← y2]
  cases y <;> rfl
theorem cl_rest_y (A B : Int32) {fa fb x : Int} (h1 : 0 ≤ fa ∧ fa < 8) (h2 : 0 ≤ fb ∧ fb < 8) (hx : 0 ≤ x ∧ x < 8) (st : Int × Int × Int) (hst : 0 ≤ st.1 ∧ st.1 ≤ 64) (hI : 0 < st.1 → I 50 7 = iN st.2.1 ∧ I 50 8 = iN st.2.2) {n : Nat} (hn : 30 ≤ n) :
    ∃ I', fX1_countRests_L66 n A B (iN fa) (iN fb) (iN st.1) (iN x) (iN 0) I = some (iN (gy A B fa fb x 8 st).1, I') ∧ ex [50] I I' ∧ (0 < (gy A B fa fb x 8 st).1 → I' 50 7 = iN (gy A B fa fb x 8 st).2.1 ∧ I' 50 8 = iN (gy A B fa fb x 8 st).2.2) := by
  obtain ⟨n', s, q1, q2, q3, q4, q5⟩ := loop (fun n k (s : Int × (Nat → Nat → Int32)) => fX1_countRests_L66 n A B (iN fa) (iN fb) (iN s.1) (iN x) (iN k) s.2) 15 (P := 8) (fun k s => ex [50] I s.2 ∧ s.1 = (gy A B fa fb x k.toNat st).1 ∧ (0 < (gy A B fa fb x k.toNat st).1 → s.2 50 7 = iN (gy A B fa fb x k.toNat st).2.1 ∧ s.2 50 8 = iN (gy A B fa fb x k.toNat st).2.2))
    (by
      intro n k s hn k0 k1 ⟨hx', hs, hp⟩
      have hin := gy_in A B fa fb x k.toNat st
      have unf := fX1_countRests_L66.eq_def (n + 1) A B (iN fa) (iN fb) (iN s.1) (iN x) (iN k) s.2
      dsimp only at unf
      rw [cl_stays A hx (by omega) h1 (by omega), cl_stays B (by omega) hx h2 (by omega)] at unf
      simp (disch := omega) only [iN_lit, iN_add, iN_sub, iN_mul, iN_neg, iN_lt, iN_eq, iN_tn, iN_31, bit_t0, if_pos, Option.bind_some] at unf
      rw [show (k + 1).toNat = k.toNat + 1 by omega, gy, show ((k.toNat : Nat) : Int) = k by omega]
      generalize gy A B fa fb x k.toNat st = g at *
      have no : (bit A x && bit B k && (sbt A fa x k 8 && sbt B fb k x 8)) = false → gs A B fa fb x k g = g := by intro h; unfold gs; rw [h]; rfl
      have yes : (bit A x && bit B k && (sbt A fa x k 8 && sbt B fb k x 8)) = true → gs A B fa fb x k g = (g.1 + 1, if g.1 = 0 then x else g.2.1, if g.1 = 0 then k else g.2.2) := by intro h; unfold gs; rw [if_pos h]
      cases eA : bit A x with
      | false =>
        rw [eA, ite_p rfl] at unf
        rw [no (by rw [eA]; rfl)]
        exact ⟨s, unf, hx', hs, hp⟩
      | true =>
        rw [eA, ite_n (by decide)] at unf
        cases eB : bit B k with
        | false =>
          rw [eB, ite_p rfl] at unf
          rw [no (by rw [eA, eB]; rfl)]
          exact ⟨s, unf, hx', hs, hp⟩
        | true =>
          rw [eB, ite_n (by decide)] at unf
          cases e1 : sbt A fa x k 8 with
          | false =>
            rw [e1, ite_p (show (if false = true then iN 1 else iN 0) = iN 0 from rfl)] at unf
            rw [no (by rw [eA, eB, e1]; rfl)]
            exact ⟨s, unf, hx', hs, hp⟩
          | true =>
            rw [e1, ite_n (show ¬ (if true = true then iN 1 else iN 0) = iN 0 from n10)] at unf
            cases e2 : sbt B fb k x 8 with
            | false =>
              rw [e2, ite_p (show (if false = true then iN 1 else iN 0) = iN 0 from rfl)] at unf
              rw [no (by rw [eA, eB, e1, e2]; rfl)]
              exact ⟨s, unf, hx', hs, hp⟩
            | true =>
              rw [e2, ite_n (show ¬ (if true = true then iN 1 else iN 0) = iN 0 from n10)] at unf
              rw [yes (by rw [eA, eB, e1, e2]; rfl)]
              by_cases e0 : g.1 = 0
              · rw [ite_p (by omega)] at unf
                rw [if_pos e0, if_pos e0]
                exact ⟨(s.1 + 1, mm_up (mm_up s.2 50 7 (iN x)) 50 8 (iN k)), unf, ex_trans hx' (ex_trans (ex_up (by decide)) (ex_up (by decide))), by rw [hs], fun _ => ⟨by dsimp only; rw [up_k (by decide), up_eq], by dsimp only; rw [up_eq]⟩⟩
              · rw [ite_n (by omega), ite_n (by omega)] at unf
                rw [if_neg e0, if_neg e0]
                have hp' := hp (by omega)
                exact ⟨(s.1 + 1, mm_up (mm_up s.2 50 7 (s.2 50 7)) 50 8 (s.2 50 8)), unf, ex_trans hx' (ex_trans (ex_up (by decide)) (ex_up (by decide))), by rw [hs], fun _ => ⟨by dsimp only; rw [up_k (by decide), up_eq]; exact hp'.1, by dsimp only; rw [up_eq]; exact hp'.2⟩⟩) 8 n 0 (st.1, I) (by omega) (by omega) ⟨ex_refl, rfl, hI⟩ (by omega)
  refine ⟨s.2, ?_, q3, q5⟩
  have q2' : fX1_countRests_L66 n A B (iN fa) (iN fb) (iN st.1) (iN x) (iN 0) I = fX1_countRests_L66 n' A B (iN fa) (iN fb) (iN s.1) (iN x) (iN 8) s.2 := q2
  rw [q2']
  obtain ⟨n', rfl⟩ : ∃ m, n' = m + 1 := ⟨n' - 1, by omega⟩
  rw [fX1_countRests_L66]
  simp (disch := omega) only [iN_lit, iN_add, iN_sub, iN_mul, iN_neg, iN_lt, iN_eq, iN_tn, if_true, if_false, if_pos, if_neg]
  rw [q4]
  rfl
theorem cl_rests (A B : Int32) {fa fb : Int} (h1 : 0 ≤ fa ∧ fa < 8) (h2 : 0 ≤ fb ∧ fb < 8) {n : Nat} (hn : 60 ≤ n) :
    ∃ I', fX1_countRests_L56 n A B (iN fa) (iN fb) (iN 0) (iN 0) I = some (iN (gx A B fa fb 8 8 (0, 0, 0)).1, I') ∧ ex [50] I I' ∧ (0 < (gx A B fa fb 8 8 (0, 0, 0)).1 → I' 50 7 = iN (gx A B fa fb 8 8 (0, 0, 0)).2.1 ∧ I' 50 8 = iN (gx A B fa fb 8 8 (0, 0, 0)).2.2) := by
  obtain ⟨n', s, q1, q2, q3, q4, q5⟩ := loop (fun n k (s : Int × (Nat → Nat → Int32)) => fX1_countRests_L56 n A B (iN fa) (iN fb) (iN s.1) (iN k) s.2) 40 (P := 8) (fun k s => ex [50] I s.2 ∧ s.1 = (gx A B fa fb 8 k.toNat (0, 0, 0)).1 ∧ (0 < (gx A B fa fb 8 k.toNat (0, 0, 0)).1 → s.2 50 7 = iN (gx A B fa fb 8 k.toNat (0, 0, 0)).2.1 ∧ s.2 50 8 = iN (gx A B fa fb 8 k.toNat (0, 0, 0)).2.2))
    (by
      intro n k s hn k0 k1 ⟨hx', hs, hp⟩
      have hin := gx_in A B fa fb 8 k.toNat (0, 0, 0)
      have hle : ((k.toNat : Nat) : Int) * ((8 : Nat) : Int) ≤ 56 := by omega
      obtain ⟨I', g1, g2, g3⟩ := cl_rest_y (I := s.2) A B h1 h2 (x := k) (by omega) (gx A B fa fb 8 k.toNat (0, 0, 0)) (by simp only at hin; omega) hp (n := n) (by omega)
      refine ⟨((gy A B fa fb k 8 (gx A B fa fb 8 k.toNat (0, 0, 0))).1, I'), ?_, ex_trans hx' g2, ?_, ?_⟩
      · show fX1_countRests_L56 (n + 1) _ _ _ _ _ _ _ = _
        rw [fX1_countRests_L56, hs]
        simp only [iN_lit]
        rw [ite_p (by rw [iN_lt (by omega) (by omega) (by omega) (by omega)]; omega), g1, Option.bind_some, iN_add]
      · rw [show (k + 1).toNat = k.toNat + 1 by omega, gx, show ((k.toNat : Nat) : Int) = k by omega]
      · rw [show (k + 1).toNat = k.toNat + 1 by omega, gx, show ((k.toNat : Nat) : Int) = k by omega]
        exact g3) 8 n 0 (0, I) (by omega) (by omega) ⟨ex_refl, rfl, fun h => absurd h (by simp [gx])⟩ (by omega)
  refine ⟨s.2, ?_, q3, q5⟩
  have q2' : fX1_countRests_L56 n A B (iN fa) (iN fb) (iN 0) (iN 0) I = fX1_countRests_L56 n' A B (iN fa) (iN fb) (iN s.1) (iN 8) s.2 := q2
  rw [q2']
  obtain ⟨n', rfl⟩ : ∃ m, n' = m + 1 := ⟨n' - 1, by omega⟩
  rw [fX1_countRests_L56]
  simp (disch := omega) only [iN_lit, iN_add, iN_sub, iN_mul, iN_neg, iN_lt, iN_eq, iN_tn, if_true, if_false, if_pos, if_neg]
  rw [q4]
  rfl
theorem gx_pos (A B : Int32) (fa fb : Int) (m n : Nat) : 0 ≤ (gx A B fa fb m n (0, 0, 0)).1 := (gx_in A B fa fb m n (0, 0, 0)).1
theorem cl_Guests (hr0 : r = 3 ∨ r = 19) (h : cOK V S r I) {b d : Int} (hb : -2147483648 ≤ b ∧ b < 2147483648) (hd : -2147483648 ≤ d ∧ d < 2147483648) {n : Nat} (hn : 100 ≤ n) :
    ∃ I', fX11_guests n (iN b) (iN d) I r = some (iN (aGu V S b d), I') ∧ ex [35, 36, 50] I I' ∧ cl (lGu V S b d) I' := by
  have hu := h.1.1
  have h1 : cOK V S r (fX3_clear I) := cOK_ex h clr_ex (by rcases hr0 with rfl | rfl <;> decide)
  have xx : ex [35, 36, 50] I (fX3_clear I) := ex_mono clr_ex (by decide)
  have no : ¬ gOk V S b d → aGu V S b d = -1 ∧ lGu V S b d = [] := fun hh => ⟨by unfold aGu; rw [ite_n hh], by unfold lGu; rw [ite_n hh]⟩
  rw [fX11_guests, cl_board h1 hb, cl_board h1 hd]
  simp only [fX11_guests_J34, iN_lit, iN_neg]
  by_cases hb' : 0 ≤ b ∧ b < V 0 2
  · rw [if_pos hb', ite_n n10]
    by_cases hd' : 0 ≤ d ∧ d < V 0 2
    · rw [if_pos hd', ite_n n10]
      simp (disch := omega) only [iN_eq]
      by_cases e : b = d
      · rw [if_pos e, (no (fun hh => hh.2.2.1 e)).1, (no (fun hh => hh.2.2.1 e)).2]
        exact ⟨_, rfl, xx, clr_cl⟩
      · have hsb := h.2.1.1 b hb'.1 hb'.2
        have hsd := h.2.1.1 d hd'.1 hd'.2
        rw [if_neg e, fX1_countRests, cl_land h1 hb'.1 hb'.2 (by omega), Option.bind_some, cl_land h1 hd'.1 hd'.2 (by omega), Option.bind_some, cl_col h.1 h1.2.2.2 hb'.1 hb'.2, cl_col h.1 h1.2.2.2 hd'.1 hd'.2]
        simp only [iN_lit, iN_neg]
        have nn : iN (-1) < iN 0 ∧ ¬ iN 0 < iN (-1) := ⟨by rw [iN_lt (by omega) (by omega) (by omega) (by omega)]; omega, by rw [iN_lt (by omega) (by omega) (by omega) (by omega)]; omega⟩
        by_cases eA : lnd V (lft V S b) (S b) (S (4 + b)) = iN 0
        · have nk : ¬ gOk V S b d := fun hh => hh.2.2.2.1 eA
          rw [ite_p eA, Option.bind_some, ite_n nn.2, (no nk).1, (no nk).2]
          exact ⟨_, rfl, xx, clr_cl⟩
        · rw [ite_n eA]
          by_cases eB : lnd V (lft V S d) (S d) (S (4 + d)) = iN 0
          · have nk : ¬ gOk V S b d := fun hh => hh.2.2.2.2 eB
            rw [ite_p eB, Option.bind_some, ite_n nn.2, (no nk).1, (no nk).2]
            exact ⟨_, rfl, xx, clr_cl⟩
          · rw [ite_n eB]
            have ok : gOk V S b d := ⟨hb', hd', e, eA, eB⟩
            obtain ⟨I1, g1, g2, g3⟩ := cl_rests (I := fX3_clear I) (lnd V (lft V S b) (S b) (S (4 + b))) (lnd V (lft V S d) (S d) (S (4 + d))) (fa := S b) (fb := S d) (by omega) (by omega) (n := n) (by omega)
            rw [g1, Option.bind_some, Option.bind_some]
            dsimp only
            have ea : aGu V S b d = (gFin V S b d).1 := by unfold aGu; rw [ite_p ok]
            have el : lGu V S b d = gLay (gFin V S b d) := by unfold lGu; rw [ite_p ok]
            rw [ea, el]
            have hpos := gx_pos (lnd V (lft V S b) (S b) (S (4 + b))) (lnd V (lft V S d) (S d) (S (4 + d))) (S b) (S d) 8 8
            have hin := (gx_in (lnd V (lft V S b) (S b) (S (4 + b))) (lnd V (lft V S d) (S d) (S (4 + d))) (S b) (S d) 8 8 (0, 0, 0)).2
            have hfin : gx (lnd V (lft V S b) (S b) (S (4 + b))) (lnd V (lft V S d) (S d) (S (4 + d))) (S b) (S d) 8 8 (0, 0, 0) = gFin V S b d := rfl
            rw [hfin] at hpos hin g3 ⊢
            have e35 : I1 35 1 = iN 0 := by rw [g2 35 (by decide)]; exact clr_cl.1
            simp only at hin
            by_cases e0 : 0 < (gFin V S b d).1
            · obtain ⟨j1, j2⟩ := g3 e0
              rw [ite_p (by rw [iN_lt (by omega) (by omega) (by omega) (by omega)]; exact e0), fX3_add, e35, j1]
              simp (disch := omega) only [iN_lit, iN_add, iN_sub, iN_mul, iN_neg, iN_lt, iN_eq, iN_tn, if_true, if_false, if_pos, if_neg, Option.bind_some]
              rw [fX3_add]
              have k1 : ∀ x, mm_up (mm_up I1 36 (0 : Int).toNat x) 35 1 (iN (0 + 1)) 35 1 = iN 1 := fun x => up_eq
              have k2 : ∀ x y, mm_up (mm_up I1 36 (0 : Int).toNat x) 35 1 y 50 8 = I1 50 8 := fun x y => by rw [up_a (by decide), up_a (by decide)]
              rw [k1, k2, j2]
              simp (disch := omega) only [iN_lit, iN_add, iN_sub, iN_mul, iN_neg, iN_lt, iN_eq, iN_tn, if_true, if_false, if_pos, if_neg, Option.bind_some]
              refine ⟨_, rfl, ?_, ?_⟩
              · exact ex_trans xx (ex_trans (ex_mono g2 (by decide)) (ex_trans (ex_trans (ex_trans (ex_up (by decide)) (ex_up (by decide))) (ex_up (by decide))) (ex_up (by decide))))
              · unfold gLay
                rw [if_pos e0]
                refine ⟨by simp [mm_up], ?_⟩
                intro z hz
                have : z = 0 ∨ z = 1 := by simp at hz; omega
                rcases this with rfl | rfl <;> simp [mm_up]
            · rw [ite_n (by rw [iN_lt (by omega) (by omega) (by omega) (by omega)]; exact e0)]
              unfold gLay
              rw [if_neg e0]
              exact ⟨I1, rfl, ex_trans xx (ex_mono g2 (by decide)), e35, by intro z hz; exact absurd hz (by simp)⟩
    · have nk : ¬ gOk V S b d := fun hh => hd' hh.2.1
      rw [if_neg hd', ite_p rfl, (no nk).1, (no nk).2]
      exact ⟨_, rfl, xx, clr_cl⟩
  · have nk : ¬ gOk V S b d := fun hh => hb' hh.1
    rw [if_neg hb', ite_p rfl, (no nk).1, (no nk).2]
    exact ⟨_, rfl, xx, clr_cl⟩
theorem rf_worth (h : rOK V S I) {b own oth : Int} (hb1 : 0 ≤ b) (hb2 : b < V 0 2) (h1 : 0 ≤ own ∧ own < 8) (h2 : 0 ≤ oth ∧ oth < 8) : fX12_guestWorth (iN b) (iN own) (iN oth) I = some (iN (gn own oth (S b))) := by
  have hu := h.1.1
  have hs := h.2.1.1 b hb1 hb2
  have h84 := h.2.2.2 b (by omega) (by omega)
  rw [fX12_guestWorth]
  simp (disch := omega) only [iN_lit, iN_lt, iN_tn, iN_eq, if_neg, h84, iN_sub]
  rw [rf_plain (by omega) (by omega)]
  unfold gn
  by_cases e : own = oth
  · rw [if_pos e, if_pos e, iN_sub]
  · rw [if_neg e, if_neg e, iN_sub]
theorem rf_rest (h : rOK V S I) (A B : Int32) {b d x y : Int} (hb1 : 0 ≤ b) (hb2 : b < V 0 2) (hd1 : 0 ≤ d) (hd2 : d < V 0 2) (hx : 0 ≤ x ∧ x < V 0 0) (hy : 0 ≤ y ∧ y < V 0 0) {n : Nat} (hn : 12 ≤ n) :
    fX12_isRest n (iN b) A (iN d) B (iN x) (iN y) I = some (if (sbt A (S b) x y (V 0 0).toNat && sbt B (S d) y x (V 0 0).toNat) = true then iN 1 else iN 0) := by
  have hu := h.1.1
  have hsb := h.2.1.1 b hb1 hb2
  have hsd := h.2.1.1 d hd1 hd2
  have hv := h.2.2.1.1.1
  obtain ⟨n', s, q1, q2, q3⟩ := loop (fun n k s => fX12_isRest_L6 n (iN b) A (iN d) B (iN x) (iN y) s (iN k) I) 1 (P := V 0 0) (fun k s => s = if (sbt A (S b) x y k.toNat && sbt B (S d) y x k.toNat) = true then iN 1 else iN 0)
    (by
      intro n k s hn k0 k1 hs
      have g1 := gn_in (own := x) (oth := y) (f := S b) (by omega) (by omega)
      have g2 := gn_in (own := k) (oth := y) (f := S b) (by omega) (by omega)
      have g3 := gn_in (own := y) (oth := x) (f := S d) (by omega) (by omega)
      have g4 := gn_in (own := k) (oth := x) (f := S d) (by omega) (by omega)
      have unf := fX12_isRest_L6.eq_def (n + 1) (iN b) A (iN d) B (iN x) (iN y) s (iN k) I
      dsimp only at unf
      rw [rf_worth h hb1 hb2 (own := k) (oth := y) (by omega) (by omega), rf_worth h hb1 hb2 (own := x) (oth := y) (by omega) (by omega), rf_worth h hd1 hd2 (own := k) (oth := x) (by omega) (by omega), rf_worth h hd1 hd2 (own := y) (oth := x) (by omega) (by omega)] at unf
      simp (disch := omega) only [iN_lit, iN_add, iN_sub, iN_mul, iN_neg, iN_lt, iN_eq, iN_tn, hv, if_pos, iN_31, bit_t1, Option.bind_some] at unf
      rw [show (k + 1).toNat = k.toNat + 1 by omega, sbt, sbt, show ((k.toNat : Nat) : Int) = k by omega]
      refine ⟨_, ?_, rfl⟩
      refine Eq.trans unf ?_
      generalize sbt A (S b) x y k.toNat = fA at *
      generalize sbt B (S d) y x k.toNat = fB at *
      cases eA : bit A k <;> cases eB : bit B k <;> cases fA <;> cases fB <;> simp only [Bool.and_true, Bool.true_and, Bool.and_false, Bool.false_and, if_true, if_false, Bool.false_eq_true] at hs <;> subst hs <;> simp only [n10, if_true, if_false, Bool.and_true, Bool.true_and, Bool.and_false, Bool.false_and, Bool.not_true, Bool.not_false, Bool.false_or, Bool.true_or, Bool.false_eq_true, decide_eq_true_eq, Bool.and_eq_true] <;> (by_cases c1 : gn x y (S b) < gn k y (S b)) <;> (by_cases c2 : gn y x (S d) < gn k x (S d)) <;> simp only [c1, c2, if_true, if_false] <;> first | rfl | rw [if_pos (by omega)] | rw [if_neg (by omega)]) (V 0 0).toNat n 0 (iN 1) (by omega) (by omega) rfl (by omega)
  rw [fX12_isRest]
  simp only [iN_lit]
  have q2' : fX12_isRest_L6 n (iN b) A (iN d) B (iN x) (iN y) (iN 1) (iN 0) I = fX12_isRest_L6 n' (iN b) A (iN d) B (iN x) (iN y) s (iN (V 0 0)) I := q2
  rw [q2']
  obtain ⟨n', rfl⟩ : ∃ m, n' = m + 1 := ⟨n' - 1, by omega⟩
  rw [fX12_isRest_L6]
  simp (disch := omega) only [iN_lit, iN_add, iN_sub, iN_mul, iN_neg, iN_lt, iN_eq, iN_tn, if_true, if_false, if_pos, if_neg, hv, Option.bind_some]
  rw [q3, bool_ok]
theorem rf_gs_y (h : rOK V S I) {b d x : Int} (hb1 : 0 ≤ b) (hb2 : b < V 0 2) (hd1 : 0 ≤ d) (hd2 : d < V 0 2) (hx : 0 ≤ x ∧ x < V 0 0) (A B : Int32) (hA : ∀ d : Int, 0 ≤ d → d < 32 → bit A d = true → d < V 0 0) (hB : ∀ d : Int, 0 ≤ d → d < 32 → bit B d = true → d < V 0 0) (st : Int × Int × Int) (hst : 0 ≤ st.1 ∧ st.1 ≤ 64) (hI : rl (gLay st) I) {n : Nat} (hn : 40 ≤ n) :
    ∃ I', fX12_guests_L70 n (iN b) (iN d) A B (iN st.1) (iN x) (iN 0) I = some (iN (gy A B (S b) (S d) x (V 0 0).toNat st).1, I') ∧ xf [88, 1061] I I' ∧ rl (gLay (gy A B (S b) (S d) x (V 0 0).toNat st)) I' := by
  have hu := h.1.1
  obtain ⟨n', s, q1, q2, q3, q4, q5⟩ := loop (fun n k (s : Int × (Nat → Nat → Int32)) => fX12_guests_L70 n (iN b) (iN d) A B (iN s.1) (iN x) (iN k) s.2) 15 (P := V 0 0) (fun k s => xf [88, 1061] I s.2 ∧ s.1 = (gy A B (S b) (S d) x k.toNat st).1 ∧ rl (gLay (gy A B (S b) (S d) x k.toNat st)) s.2)
    (by
      intro n k s hn k0 k1 ⟨hx', hs, hp⟩
      have R := rOK_xf h hx' (by decide)
      have hin := gy_in A B (S b) (S d) x k.toNat st
      have unf := fX12_guests_L70.eq_def (n + 1) (iN b) (iN d) A B (iN s.1) (iN x) (iN k) s.2
      dsimp only at unf
      rw [rf_rest R A B hb1 hb2 hd1 hd2 hx ⟨k0, k1⟩ (by omega)] at unf
      simp (disch := omega) only [iN_lit, iN_add, iN_sub, iN_mul, iN_neg, iN_lt, iN_eq, iN_tn, R.2.2.1.1.1, iN_31, bit_t0, if_pos, Option.bind_some] at unf
      have m1 : sbt A (S b) x k (V 0 0).toNat = sbt A (S b) x k 8 := by
        rw [← sbt_more (m := (V 0 0).toNat) (fun e e1 e2 e3 => by have := hA e e1 e2 e3; omega) (8 - (V 0 0).toNat) (by omega), show (V 0 0).toNat + (8 - (V 0 0).toNat) = 8 by omega]
      have m2 : sbt B (S d) k x (V 0 0).toNat = sbt B (S d) k x 8 := by
        rw [← sbt_more (m := (V 0 0).toNat) (fun e e1 e2 e3 => by have := hB e e1 e2 e3; omega) (8 - (V 0 0).toNat) (by omega), show (V 0 0).toNat + (8 - (V 0 0).toNat) = 8 by omega]
      rw [m1, m2] at unf
      rw [show (k + 1).toNat = k.toNat + 1 by omega, gy, show ((k.toNat : Nat) : Int) = k by omega]
      generalize gy A B (S b) (S d) x k.toNat st = g at *
      have no : (bit A x && bit B k && (sbt A (S b) x k 8 && sbt B (S d) k x 8)) = false → gs A B (S b) (S d) x k g = g := by intro h; unfold gs; rw [h]; rfl
      have yes : (bit A x && bit B k && (sbt A (S b) x k 8 && sbt B (S d) k x 8)) = true → gs A B (S b) (S d) x k g = (g.1 + 1, if g.1 = 0 then x else g.2.1, if g.1 = 0 then k else g.2.2) := by intro h; unfold gs; rw [if_pos h]
      cases eA : bit A x with
      | false =>
        rw [eA, ite_p rfl] at unf
        rw [no (by rw [eA]; rfl)]
        exact ⟨s, unf, hx', hs, hp⟩
      | true =>
        rw [eA, ite_n (by decide)] at unf
        cases eB : bit B k with
        | false =>
          rw [eB, ite_p rfl] at unf
          rw [no (by rw [eA, eB]; rfl)]
          exact ⟨s, unf, hx', hs, hp⟩
        | true =>
          rw [eB, ite_n (by decide)] at unf
          cases e1 : (sbt A (S b) x k 8 && sbt B (S d) k x 8) with
          | false =>
            rw [e1, ite_p (show (if false = true then iN 1 else iN 0) = iN 0 from rfl)] at unf
            rw [no (by rw [eA, eB, e1]; rfl)]
            exact ⟨s, unf, hx', hs, hp⟩
          | true =>
            rw [e1, ite_n (show ¬ (if true = true then iN 1 else iN 0) = iN 0 from n10)] at unf
            rw [yes (by rw [eA, eB, e1]; rfl)]
            by_cases e0 : g.1 = 0
            · rw [ite_p (by omega)] at unf
              rw [if_pos e0, if_pos e0]
              refine ⟨(s.1 + 1, mm_up (mm_up (mm_up s.2 88 0 (iN x)) 88 1 (iN k)) 62 61 (iN 2)), unf, xf_trans hx' (xf_trans (xf_trans (xf_up (by decide)) (xf_up (by decide))) (xf_u62 (by decide))), by rw [hs], ?_⟩
              have : gLay (g.1 + 1, x, k) = [x, k] := by unfold gLay; rw [if_pos (by show 0 < g.1 + 1; omega)]
              rw [this]
              dsimp only
              refine ⟨by rw [up_eq]; rfl, ?_⟩
              intro z hz
              have : z = 0 ∨ z = 1 := by simp at hz; omega
              rcases this with rfl | rfl
              · rw [up_a (by decide), up_k (by decide), up_eq]; rfl
              · rw [up_a (by decide), up_eq]; rfl
            · rw [ite_n (by omega)] at unf
              rw [if_neg e0, if_neg e0]
              refine ⟨(s.1 + 1, s.2), unf, hx', by rw [hs], ?_⟩
              have : gLay (g.1 + 1, g.2.1, g.2.2) = gLay g := by unfold gLay; rw [if_pos (show 0 < g.1 by omega), if_pos (by show 0 < g.1 + 1; omega)]
              rw [this]
              exact hp) (V 0 0).toNat n 0 (st.1, I) (by omega) (by omega) ⟨xf_refl, rfl, hI⟩ (by omega)
  refine ⟨s.2, ?_, q3, q5⟩
  have R := rOK_xf h q3 (by decide)
  have q2' : fX12_guests_L70 n (iN b) (iN d) A B (iN st.1) (iN x) (iN 0) I = fX12_guests_L70 n' (iN b) (iN d) A B (iN s.1) (iN x) (iN (V 0 0)) s.2 := q2
  rw [q2']
  obtain ⟨n', rfl⟩ : ∃ m, n' = m + 1 := ⟨n' - 1, by omega⟩
  rw [fX12_guests_L70]
  simp (disch := omega) only [iN_lit, iN_add, iN_sub, iN_mul, iN_neg, iN_lt, iN_eq, iN_tn, if_true, if_false, if_pos, if_neg, R.2.2.1.1.1]
  rw [q4]
theorem rf_gs_x (h : rOK V S I) {b d : Int} (hb1 : 0 ≤ b) (hb2 : b < V 0 2) (hd1 : 0 ≤ d) (hd2 : d < V 0 2) (A B : Int32) (hA : ∀ d : Int, 0 ≤ d → d < 32 → bit A d = true → d < V 0 0) (hB : ∀ d : Int, 0 ≤ d → d < 32 → bit B d = true → d < V 0 0) (hI : rl [] I) {n : Nat} (hn : 60 ≤ n) :
    ∃ I', fX12_guests_L58 n (iN b) (iN d) A B (iN 0) (iN 0) I = some (iN (gx A B (S b) (S d) 8 8 (0, 0, 0)).1, I') ∧ xf [88, 1061] I I' ∧ rl (gLay (gx A B (S b) (S d) 8 8 (0, 0, 0))) I' := by
  have hu := h.1.1
  obtain ⟨n', s, q1, q2, q3, q4, q5⟩ := loop (fun n k (s : Int × (Nat → Nat → Int32)) => fX12_guests_L58 n (iN b) (iN d) A B (iN s.1) (iN k) s.2) 45 (P := V 0 0) (fun k s => xf [88, 1061] I s.2 ∧ s.1 = (gx A B (S b) (S d) (V 0 0).toNat k.toNat (0, 0, 0)).1 ∧ rl (gLay (gx A B (S b) (S d) (V 0 0).toNat k.toNat (0, 0, 0))) s.2)
    (by
      intro n k s hn k0 k1 ⟨hx', hs, hp⟩
      have R := rOK_xf h hx' (by decide)
      have hin := gx_in A B (S b) (S d) (V 0 0).toNat k.toNat (0, 0, 0)
      have hle : ((k.toNat : Nat) : Int) * (((V 0 0).toNat : Nat) : Int) ≤ 8 * 8 := Int.mul_le_mul (by omega) (by omega) (by omega) (by omega)
      obtain ⟨I', g1, g2, g3⟩ := rf_gs_y R hb1 hb2 hd1 hd2 (x := k) ⟨k0, k1⟩ A B hA hB (gx A B (S b) (S d) (V 0 0).toNat k.toNat (0, 0, 0)) (by simp only at hin; omega) hp (n := n) (by omega)
      refine ⟨((gy A B (S b) (S d) k (V 0 0).toNat (gx A B (S b) (S d) (V 0 0).toNat k.toNat (0, 0, 0))).1, I'), ?_, xf_trans hx' g2, ?_, ?_⟩
      · show fX12_guests_L58 (n + 1) _ _ _ _ _ _ _ = _
        rw [fX12_guests_L58, hs, R.2.2.1.1.1]
        simp only [iN_lit]
        rw [ite_p (by rw [iN_lt (by omega) (by omega) (by omega) (by omega)]; omega), g1, Option.bind_some, iN_add]
      · rw [show (k + 1).toNat = k.toNat + 1 by omega, gx, show ((k.toNat : Nat) : Int) = k by omega]
      · rw [show (k + 1).toNat = k.toNat + 1 by omega, gx, show ((k.toNat : Nat) : Int) = k by omega]
        exact g3) (V 0 0).toNat n 0 (0, I) (by omega) (by omega) ⟨xf_refl, rfl, hI⟩ (by omega)
  rw [gx_more (m := (V 0 0).toNat) (fun e e1 e2 e3 => by have := hA e e1 e2 e3; omega) (fun e e1 e2 e3 => by have := hB e e1 e2 e3; omega) (by omega)]
  refine ⟨s.2, ?_, q3, q5⟩
  have R := rOK_xf h q3 (by decide)
  have q2' : fX12_guests_L58 n (iN b) (iN d) A B (iN 0) (iN 0) I = fX12_guests_L58 n' (iN b) (iN d) A B (iN s.1) (iN (V 0 0)) s.2 := q2
  rw [q2']
  obtain ⟨n', rfl⟩ : ∃ m, n' = m + 1 := ⟨n' - 1, by omega⟩
  rw [fX12_guests_L58]
  simp (disch := omega) only [iN_lit, iN_add, iN_sub, iN_mul, iN_neg, iN_lt, iN_eq, iN_tn, if_true, if_false, if_pos, if_neg, R.2.2.1.1.1]
  rw [q4]
theorem rf_Guests (h : rOK V S I) {b d : Int} (hb : -2147483648 ≤ b ∧ b < 2147483648) (hd : -2147483648 ≤ d ∧ d < 2147483648) {n : Nat} (hn : 1200 ≤ n) :
    ∃ I', fX12_guests n (iN b) (iN d) I = some (iN (aGu V S b d), I') ∧ xf [70, 71, 85, 87, 88, 1061] I I' ∧ rl (lGu V S b d) I' := by
  have hu := h.1.1
  have x1 : xf [70, 71, 85, 87, 88, 1061] I (mm_up I 62 61 (iN 0)) := xf_u62 (by decide)
  have h1 : rOK V S (mm_up I 62 61 (iN 0)) := rOK_xf h x1 (by decide)
  have no : ¬ gOk V S b d → aGu V S b d = -1 ∧ lGu V S b d = [] := fun hh => ⟨by unfold aGu; rw [ite_n hh], by unfold lGu; rw [ite_n hh]⟩
  rw [fX12_guests]
  simp only [iN_lit, iN_neg]
  rw [rf_board h1 hb, Option.bind_some, rf_board h1 hd]
  by_cases hb' : 0 ≤ b ∧ b < V 0 2
  · rw [if_pos hb', ite_n n10, Option.bind_some]
    by_cases hd' : 0 ≤ d ∧ d < V 0 2
    · rw [if_pos hd', ite_n n10]
      simp (disch := omega) only [iN_eq]
      by_cases e : b = d
      · rw [if_pos e, (no (fun hh => hh.2.2.1 e)).1, (no (fun hh => hh.2.2.1 e)).2]
        exact ⟨_, rfl, x1, rl_0⟩
      · have hsb := h.2.1.1 b hb'.1 hb'.2
        have hsd := h.2.1.1 d hd'.1 hd'.2
        obtain ⟨I2, g1, g2⟩ := rf_land h1 hb'.1 hb'.2 (n := n) (by omega)
        have h2 := rOK_ex h1 g2 (by decide)
        obtain ⟨I3, f1, f2⟩ := rf_land h2 hd'.1 hd'.2 (n := n) (by omega)
        have h3 := rOK_ex h2 f2 (by decide)
        have x3 : xf [70, 71, 85, 87, 88, 1061] I I3 := xf_trans x1 (xf_trans (xf_mono (xf_ex g2) (by decide)) (xf_mono (xf_ex f2) (by decide)))
        have r3 : rl [] I3 := ⟨by rw [f2 62 (by decide), g2 62 (by decide)]; exact rl_0.1, by intro z hz; exact absurd hz (by simp)⟩
        rw [if_neg e, g1, Option.bind_some]
        dsimp only
        rw [f1, Option.bind_some]
        dsimp only
        by_cases eA : lnd V (lft V S b) (S b) (S (4 + b)) = iN 0
        · have nk : ¬ gOk V S b d := fun hh => hh.2.2.2.1 eA
          rw [ite_p eA, (no nk).1, (no nk).2]
          exact ⟨_, rfl, x3, r3⟩
        · rw [ite_n eA]
          by_cases eB : lnd V (lft V S d) (S d) (S (4 + d)) = iN 0
          · have nk : ¬ gOk V S b d := fun hh => hh.2.2.2.2 eB
            rw [ite_p eB, (no nk).1, (no nk).2]
            exact ⟨_, rfl, x3, r3⟩
          · rw [ite_n eB]
            have ok : gOk V S b d := ⟨hb', hd', e, eA, eB⟩
            obtain ⟨I4, e1, e2, e3⟩ := rf_gs_x h3 hb'.1 hb'.2 hd'.1 hd'.2 (lnd V (lft V S b) (S b) (S (4 + b))) (lnd V (lft V S d) (S d) (S (4 + d))) (lnd_8 h.1 (by omega) (by omega)) (lnd_8 h.1 (by omega) (by omega)) r3 (n := n) (by omega)
            rw [e1, Option.bind_some]
            have ea : aGu V S b d = (gFin V S b d).1 := by unfold aGu; rw [ite_p ok]
            have el : lGu V S b d = gLay (gFin V S b d) := by unfold lGu; rw [ite_p ok]
            rw [ea, el]
            exact ⟨I4, rfl, xf_trans x3 (xf_mono e2 (by decide)), e3⟩
    · have nk : ¬ gOk V S b d := fun hh => hd' hh.2.1
      rw [if_neg hd', ite_p rfl, (no nk).1, (no nk).2]
      exact ⟨_, rfl, x1, rl_0⟩
  · have nk : ¬ gOk V S b d := fun hh => hb' hh.1
    rw [if_neg hb', ite_p rfl, (no nk).1, (no nk).2]
    exact ⟨_, rfl, x1, rl_0⟩
end GUE
