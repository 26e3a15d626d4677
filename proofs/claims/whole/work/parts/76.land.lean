/-! Landings, drift and rows of both. -/
theorem rf_left2 {V : (Nat → Int → Int)} {S : Int → Int} {I : (Nat → Nat → Int32)} (h : rOK V S I) {b : Int} (h1 : 0 ≤ b) (h2 : b < V 0 2) : fX12_leftOf (iN b) I = some (iN (lft V S b : Nat)) := by
  have hs := h.2.1.1 b h1 h2
  rw [rf_left h h1 h2, show ((lft V S b : Nat) : Int) = V 0 1 - S (4 + b) by unfold lft; omega]
theorem lft_le {V : (Nat → Int → Int)} {S : Int → Int} {b : Int} (h : wfV V) (hs : wfS V 600 S) (h1 : 0 ≤ b) (h2 : b < V 0 2) : lft V S b ≤ 6 ∧ S (4 + b) + lft V S b = V 0 1 := by
  have h3 := hs.1 b h1 h2
  have h4 := h.1
  unfold lft
  omega
theorem rf_pow3 {k : Nat} (hk : k ≤ 6) {n : Nat} (hn : 10 ≤ n) : fX12_power n (iN 3) (iN k) = some (iN ((3 ^ k : Nat) : Int)) := rf_pow (d := 3) (by omega) (by omega) hn
theorem p3_le {k : Nat} (hk : k ≤ 6) : 3 ^ k ≤ 729 := Nat.le_trans (Nat.pow_le_pow_right (by omega) hk) (by decide)
theorem fold_s {β : Type} (g : β → List Int → β) (x : β) (d L : Nat) {k : Int} (hk : 0 ≤ k) : ((List.range (k + 1).toNat).map (dig d L)).foldl g x = g (((List.range k.toNat).map (dig d L)).foldl g x) (dig d L k.toNat) := by
  rw [show (k + 1).toNat = k.toNat + 1 by omega, List.range_succ, List.map_append, List.foldl_append]
  rfl
theorem fold_a {β : Type} (g : β → List Int → β) (x : β) {d : Nat} (hd : 0 < d) (L : Nat) : ((List.range ((d ^ L : Nat) : Int).toNat).map (dig d L)).foldl g x = (lex d L).foldl g x := by
  rw [Int.toNat_natCast, lex_eq hd]
/-- the columns where a board can land, n strokes on -/
def lnd (V : (Nat → Int → Int)) (n : Nat) (c r : Int) : Int32 := match n with
  | 0 => iN 1 <<< iN c
  | n + 1 => (if V 2 (8 * (r + 1) + lead V c r (-1) 1) = 1 then iN 0 else lnd V n (lead V c r (-1) 1) (r + 1)) ||| ((if V 2 (8 * (r + 1) + lead V c r 0 1) = 1 then iN 0 else lnd V n (lead V c r 0 1) (r + 1)) ||| (if V 2 (8 * (r + 1) + lead V c r 1 1) = 1 then iN 0 else lnd V n (lead V c r 1 1) (r + 1)))
/-- how many rows of strokes land, n strokes on -/
def cnt (V : (Nat → Int → Int)) (n : Nat) (c r : Int) : Int := match n with
  | 0 => 1
  | n + 1 => (if V 2 (8 * (r + 1) + lead V c r (-1) 1) = 1 then 0 else cnt V n (lead V c r (-1) 1) (r + 1)) + ((if V 2 (8 * (r + 1) + lead V c r 0 1) = 1 then 0 else cnt V n (lead V c r 0 1) (r + 1)) + (if V 2 (8 * (r + 1) + lead V c r 1 1) = 1 then 0 else cnt V n (lead V c r 1 1) (r + 1)))
theorem cnt_in (V : (Nat → Int → Int)) (n : Nat) : ∀ (c r : Int), 0 ≤ cnt V n c r ∧ cnt V n c r ≤ ((3 ^ n : Nat) : Int) := by
  induction n with
  | zero => intro c r; exact ⟨by rw [cnt]; omega, by rw [cnt]; simp⟩
  | succ n ih =>
    intro c r
    have a := ih (lead V c r (-1) 1) (r + 1)
    have b := ih (lead V c r 0 1) (r + 1)
    have d := ih (lead V c r 1 1) (r + 1)
    have : ((3 ^ (n + 1) : Nat) : Int) = 3 * ((3 ^ n : Nat) : Int) := by rw [Nat.pow_succ, Nat.mul_comm]; exact Int.natCast_mul ..
    rw [cnt, this]
    constructor <;> (split <;> split <;> split <;> omega)
def gl (V : (Nat → Int → Int)) (c r : Int) (x : Int32) (t : List Int) : Int32 := match rc V t c r with
  | none => x
  | some d => x ||| (iN 1 <<< iN d)
theorem or_0 (x : Int32) : x ||| iN 0 = x := bit_ext (fun c _ _ => by rw [bit_or, bit_0, Bool.or_false])
theorem or_z (x : Int32) : iN 0 ||| x = x := bit_ext (fun c _ _ => by rw [bit_or, bit_0, Bool.false_or])
theorem or_as (x y z : Int32) : x ||| y ||| z = x ||| (y ||| z) := bit_ext (fun c _ _ => by rw [bit_or, bit_or, bit_or, bit_or, Bool.or_assoc])
theorem gl_lex (V : (Nat → Int → Int)) (n : Nat) : ∀ (c r : Int) (x : Int32), (lex 3 n).foldl (gl V c r) x = x ||| lnd V n c r := by
  induction n with
  | zero => intro c r x; rfl
  | succ n ih =>
    intro c r x
    have key : ∀ (a : Int) (x : Int32), ((lex 3 n).map (fun t => a :: t)).foldl (gl V c r) x = x ||| (if V 2 (8 * (r + 1) + lead V c r (a - 1) 1) = 1 then iN 0 else lnd V n (lead V c r (a - 1) 1) (r + 1)) := by
      intro a x
      rw [List.foldl_map]
      by_cases hi : V 2 (8 * (r + 1) + lead V c r (a - 1) 1) = 1
      · rw [if_pos hi, or_0]
        have : ∀ l : List (List Int), l.foldl (fun x t => gl V c r x (a :: t)) x = x := by
          intro l
          induction l with
          | nil => rfl
          | cons t l ih2 =>
            have : gl V c r x (a :: t) = x := by rw [gl, rc, if_pos hi]
            rw [List.foldl_cons, this, ih2]
        exact this _
      · rw [if_neg hi, ← ih]
        have : (fun x t => gl V c r x (a :: t)) = gl V (lead V c r (a - 1) 1) (r + 1) := by
          funext x t; rw [gl, gl, rc, if_neg hi]
        rw [this]
    rw [lex3, List.foldl_append, List.foldl_append, key, key, key, lnd, or_as, or_as]
    rfl
theorem rf_land {V : (Nat → Int → Int)} {S : Int → Int} {I : (Nat → Nat → Int32)} (h : rOK V S I) {b : Int} (hb1 : 0 ≤ b) (hb2 : b < V 0 2) {n : Nat} (hn : 1100 ≤ n) :
    ∃ I', fX12_landingsOf n (iN b) I = some (lnd V (lft V S b) (S b) (S (4 + b)), I') ∧ ex [70, 71, 85, 87] I I' := by
  have hu := h.1.1
  have hs := h.2.1.1 b hb1 hb2
  obtain ⟨l6, _⟩ := lft_le h.1 h.2.1 hb1 hb2
  have p3 := p3_le l6
  obtain ⟨n', s, h1, h2, h3, h4⟩ := loop (fun n k (s : Int32 × (Nat → Nat → Int32)) => fX12_landingsOf_L4 n (iN b) s.1 (iN k) s.2) 340 (P := ((3 ^ lft V S b : Nat) : Int)) (fun k s => ex [70, 71, 85, 87] I s.2 ∧ s.1 = ((List.range k.toNat).map (dig 3 (lft V S b))).foldl (gl V (S b) (S (4 + b))) (iN 0))
    (by
      intro n k s hn h0 h1 ⟨hx, hz⟩
      have R := rOK_ex h hx (by decide)
      obtain ⟨I', g1, g2, g3, g4⟩ := rf_row R hb1 hb2 (k := k.toNat) (by omega) (n := n) (by omega)
      rw [show ((k.toNat : Nat) : Int) = k by omega] at g1
      refine ⟨(gl V (S b) (S (4 + b)) s.1 (dig 3 (lft V S b) k.toNat), I'), ?_, ex_trans hx g2, ?_⟩
      · show fX12_landingsOf_L4 (n + 1) _ _ _ _ = _
        rw [fX12_landingsOf_L4, rf_left2 R hb1 hb2, Option.bind_some, iN_lit, rf_pow3 l6 (by omega), Option.bind_some]
        simp (disch := omega) only [iN_lit, iN_add, iN_sub, iN_mul, iN_neg, iN_lt, iN_eq, iN_tn, if_true, if_false, if_pos, if_neg]
        rw [g1, Option.bind_some]
        cases e : rc V (dig 3 (lft V S b) k.toNat) (S b) (S (4 + b)) with
        | none =>
          have : gl V (S b) (S (4 + b)) s.1 (dig 3 (lft V S b) k.toNat) = s.1 := by rw [gl, e]
          rw [this]
          rfl
        | some d =>
          have : gl V (S b) (S (4 + b)) s.1 (dig 3 (lft V S b) k.toNat) = s.1 ||| (iN 1 <<< iN d) := by rw [gl, e]
          rw [this]
          have hd := rc_in h.1 _ (by omega) (by omega) e
          have e2 := run_rc V b (burd V S b) (dig 3 (lft V S b) k.toNat) (S b) (S (4 + b)) (S (8 + b)) (S (12 + b)) (S (16 + b))
          rw [e] at e2
          obtain ⟨x, hx1, hx2⟩ := Option.map_eq_some_iff.mp e2
          have := (g4 x.1 x.2.1 x.2.2 hx1).1
          rw [hx2] at this
          simp (disch := omega) only [Option.isSome_some, if_true, this, iN_31]
          rw [if_neg (by decide)]
      · rw [fold_s _ _ _ _ h0, ← hz]) (3 ^ lft V S b) n 0 (iN 0, I) (by omega) (by omega) ⟨ex_refl, rfl⟩ (by omega)
  refine ⟨s.2, ?_, h3⟩
  have R := rOK_ex h h3 (by decide)
  rw [fX12_landingsOf]
  simp only [iN_lit]
  rw [h2]
  obtain ⟨n', rfl⟩ : ∃ m, n' = m + 1 := ⟨n' - 1, by omega⟩
  show (fX12_landingsOf_L4 (n' + 1) _ _ _ _).bind _ = _
  rw [fX12_landingsOf_L4, rf_left2 R hb1 hb2, Option.bind_some, iN_lit, rf_pow3 l6 (by omega), Option.bind_some]
  simp only [iN_lit]
  rw [if_neg (iN_ir _)]
  rw [h4, fold_a _ _ (by omega), gl_lex, or_z]
  rfl
/-- a set's members' sets together -/
def orf (X : Int32) (f : Int → Int32) (n : Nat) : Int32 := match n with
  | 0 => iN 0
  | n + 1 => orf X f n ||| (if bit X n = true then f n else iN 0)
theorem bit_orf (X : Int32) (f : Int → Int32) (n : Nat) (d : Int) : bit (orf X f n) d = true ↔ ∃ c : Nat, c < n ∧ bit X c = true ∧ bit (f c) d = true := by
  induction n with
  | zero => rw [orf, bit_0]; constructor
            · intro h; cases h
            · rintro ⟨c, h, _⟩; omega
  | succ n ih =>
    rw [orf, bit_or, Bool.or_eq_true, ih]
    constructor
    · rintro (⟨c, h1, h2, h3⟩ | h)
      · exact ⟨c, by omega, h2, h3⟩
      · by_cases e : bit X n = true
        · rw [if_pos e] at h; exact ⟨n, by omega, e, h⟩
        · rw [if_neg e, bit_0] at h; cases h
    · rintro ⟨c, h1, h2, h3⟩
      by_cases e : c = n
      · subst e; right; rw [if_pos h2]; exact h3
      · left; exact ⟨c, by omega, h2, h3⟩
section CLB
variable {V : (Nat → Int → Int)} {S : Int → Int} {r : Nat} {I : (Nat → Nat → Int32)}
theorem cl_hiss (hw : wfV V) (hV : clsV V r I) {c w s k : Int} (h1 : 0 ≤ c) (h2 : c < V 0 0) (h3 : 0 ≤ w) (h4 : w + 1 ≤ V 0 1) (hs : -1 ≤ s ∧ s ≤ 1) (hk : 1 ≤ k ∧ k ≤ 2) : fX5_ironAt (iN (lead V c w s k)) (iN (w + 1)) r I = if V 2 (8 * (w + 1) + lead V c w s k) = 1 then iN 1 else iN 0 :=
  cl_iron hw hV (lead_lo hw) (lead_hi hw) (by omega) h4
theorem cl_spr1 (hw : wfV V) (hV : clsV V r I) {X : Int32} {c w : Int} (h1 : 0 ≤ c) (h2 : c < V 0 0) (h3 : 0 ≤ w) (h4 : w + 1 ≤ V 0 1) {n : Nat} (hn : 4 ≤ n) (y : Int32) : fX6_spread_L26 n X (iN w) y (iN c) (iN (-1)) I r = some (y ||| if bit X c = true then lnd V 1 c w else iN 0) := by
  have hu := hw.1
  obtain ⟨n, rfl⟩ : ∃ n', n = n' + 4 := ⟨n - 4, by omega⟩
  by_cases hb : bit X c = true
  · have key : ∀ (s : Int) (m : Nat) (y : Int32), -1 ≤ s → s ≤ 1 → fX6_spread_L26 (m + 1) X (iN w) y (iN c) (iN s) I r = fX6_spread_L26 m X (iN w) (y ||| if V 2 (8 * (w + 1) + lead V c w s 1) = 1 then iN 0 else lnd V 0 (lead V c w s 1) (w + 1)) (iN c) (iN (s + 1)) I r := by
      intro s m y hs1 hs2
      have hl1 := lead_lo hw (c := c) (r := w) (s := s) (k := 1)
      have hl2 := lead_hi hw (c := c) (r := w) (s := s) (k := 1)
      rw [fX6_spread_L26]
      simp (disch := omega) only [iN_lit, iN_add, iN_sub, iN_mul, iN_neg, iN_lt, iN_eq, iN_tn, if_true, if_false, if_pos, if_neg, iN_31, bit_t0, hb, cl_lead hw hV h1 h2 h3 (by omega) (s := s) (k := 1) ⟨hs1, hs2⟩ (by omega), cl_hiss hw hV h1 h2 h3 h4 (s := s) (k := 1) ⟨hs1, hs2⟩ (by omega)]
      by_cases hi : V 2 (8 * (w + 1) + lead V c w s 1) = 1
      · simp only [if_pos hi, or_0]
        rw [if_neg (by decide), if_neg (by decide)]
      · simp only [if_neg hi, if_true]
        rw [if_neg (by decide)]
        rfl
    rw [key (-1) _ _ (by omega) (by omega), key (-1 + 1) _ _ (by omega) (by omega), key (-1 + 1 + 1) _ _ (by omega) (by omega), fX6_spread_L26]
    simp (disch := omega) only [iN_lit, iN_add, iN_sub, iN_mul, iN_neg, iN_lt, iN_eq, iN_tn, if_true, if_false, if_pos, if_neg]
    rw [lnd, or_as, or_as]
    rfl
  · rw [fX6_spread_L26]
    have hb' : bit X c = false := by simpa using hb
    simp (disch := omega) only [iN_lit, iN_add, iN_sub, iN_mul, iN_neg, iN_lt, iN_eq, iN_tn, if_true, if_false, if_pos, if_neg, iN_31, bit_t0, hb']
    rw [if_neg (by decide), or_0]
theorem cl_spread (hw : wfV V) (hV : clsV V r I) (X : Int32) {w : Int} (h3 : 0 ≤ w) (h4 : w + 1 ≤ V 0 1) {n : Nat} (hn : 20 ≤ n) : fX6_spread n X (iN w) I r = some (orf X (fun c => lnd V 1 c w) (V 0 0).toNat) := by
  have hu := hw.1
  obtain ⟨n', s, q1, q2, q3⟩ := loop (fun n k s => fX6_spread_L14 n X (iN w) s (iN k) I r) 5 (P := V 0 0) (fun k s => s = orf X (fun c => lnd V 1 c w) k.toNat)
    (by
      intro n k s hn h0 h1 hs
      refine ⟨_, ?_, rfl⟩
      show fX6_spread_L14 (n + 1) _ _ _ _ _ _ = _
      rw [fX6_spread_L14]
      simp (disch := omega) only [iN_lit, iN_add, iN_sub, iN_mul, iN_neg, iN_lt, iN_eq, iN_tn, if_true, if_false, if_pos, if_neg, hV.1.1, Int.reduceNeg]
      rw [cl_spr1 hw hV h0 h1 h3 h4 (by omega), Option.bind_some, hs, show (k + 1).toNat = k.toNat + 1 by omega, orf]
      rw [show ((k.toNat : Nat) : Int) = k by omega]) (V 0 0).toNat n 0 (iN 0) (by omega) (by omega) rfl (by omega)
  rw [fX6_spread]
  simp only [iN_lit]
  rw [q2]
  obtain ⟨n', rfl⟩ : ∃ m, n' = m + 1 := ⟨n' - 1, by omega⟩
  show (fX6_spread_L14 (n' + 1) _ _ _ _ _ _).bind _ = _
  rw [fX6_spread_L14]
  simp (disch := omega) only [iN_lit, iN_add, iN_sub, iN_mul, iN_neg, iN_lt, iN_eq, iN_tn, if_true, if_false, if_pos, if_neg, hV.1.1, Option.bind_some]
  rw [q3]
theorem lnd_hi (hw : wfV V) (n : Nat) : ∀ (c w d : Int), 0 ≤ c → c < V 0 0 → 0 ≤ d → d < 32 → bit (lnd V n c w) d = true → d < V 0 0 := by
  have hu := hw.1
  induction n with
  | zero => intro c w d h1 h2 h3 h4 h; rw [lnd, bit_shl1 (by omega) (by omega) h3 h4] at h; have := of_decide_eq_true h; omega
  | succ n ih =>
    intro c w d h1 h2 h3 h4 h
    rw [lnd, bit_or, bit_or, Bool.or_eq_true, Bool.or_eq_true] at h
    rcases h with h | h | h
    · split at h
      · rw [bit_0] at h; cases h
      · exact ih _ _ d (lead_lo hw) (lead_hi hw) h3 h4 h
    · split at h
      · rw [bit_0] at h; cases h
      · exact ih _ _ d (lead_lo hw) (lead_hi hw) h3 h4 h
    · split at h
      · rw [bit_0] at h; cases h
      · exact ih _ _ d (lead_lo hw) (lead_hi hw) h3 h4 h
/-- one stroke and then n: the same as n + 1 -/
theorem lnd_step (hw : wfV V) (n : Nat) {c w d : Int} (h1 : 0 ≤ c) (h2 : c < V 0 0) : bit (lnd V (n + 1) c w) d = true ↔ ∃ e : Int, 0 ≤ e ∧ e < V 0 0 ∧ bit (lnd V 1 c w) e = true ∧ bit (lnd V n e (w + 1)) d = true := by
  have hu := hw.1
  have b1 : ∀ s e : Int, 0 ≤ e → e < V 0 0 → (bit (if V 2 (8 * (w + 1) + lead V c w s 1) = 1 then iN 0 else lnd V 0 (lead V c w s 1) (w + 1)) e = true ↔ (¬ V 2 (8 * (w + 1) + lead V c w s 1) = 1) ∧ e = lead V c w s 1) := by
    intro s e e1 e2
    have hl1 := lead_lo hw (c := c) (r := w) (s := s) (k := 1)
    have hl2 := lead_hi hw (c := c) (r := w) (s := s) (k := 1)
    split
    · next hi => rw [bit_0]; constructor
                 · intro h; cases h
                 · intro h; exact absurd hi h.1
    · next hi => rw [lnd, bit_shl1 hl1 (by omega) e1 (by omega), decide_eq_true_iff]; exact ⟨fun h => ⟨hi, h⟩, fun h => h.2⟩
  have b2 : ∀ s : Int, (bit (if V 2 (8 * (w + 1) + lead V c w s 1) = 1 then iN 0 else lnd V n (lead V c w s 1) (w + 1)) d = true ↔ (¬ V 2 (8 * (w + 1) + lead V c w s 1) = 1) ∧ bit (lnd V n (lead V c w s 1) (w + 1)) d = true) := by
    intro s
    split
    · next hi => rw [bit_0]; constructor
                 · intro h; cases h
                 · intro h; exact absurd hi h.1
    · next hi => exact ⟨fun h => ⟨hi, h⟩, fun h => h.2⟩
  rw [lnd, bit_or, bit_or, Bool.or_eq_true, Bool.or_eq_true, b2, b2, b2]
  constructor
  · rintro (⟨x, y⟩ | ⟨x, y⟩ | ⟨x, y⟩)
    · refine ⟨_, lead_lo hw, lead_hi hw, ?_, y⟩
      rw [lnd, bit_or, bit_or, Bool.or_eq_true, Bool.or_eq_true, b1 _ _ (lead_lo hw) (lead_hi hw)]; exact Or.inl ⟨x, rfl⟩
    · refine ⟨_, lead_lo hw, lead_hi hw, ?_, y⟩
      rw [lnd, bit_or, bit_or, Bool.or_eq_true, Bool.or_eq_true, b1 0 _ (lead_lo hw) (lead_hi hw)]; exact Or.inr (Or.inl ⟨x, rfl⟩)
    · refine ⟨_, lead_lo hw, lead_hi hw, ?_, y⟩
      rw [lnd, bit_or, bit_or, Bool.or_eq_true, Bool.or_eq_true, b1 1 _ (lead_lo hw) (lead_hi hw)]; exact Or.inr (Or.inr ⟨x, rfl⟩)
  · rintro ⟨e, e1, e2, e3, e4⟩
    rw [lnd, bit_or, bit_or, Bool.or_eq_true, Bool.or_eq_true, b1 _ _ e1 e2, b1 _ _ e1 e2, b1 _ _ e1 e2] at e3
    rcases e3 with ⟨x, rfl⟩ | ⟨x, rfl⟩ | ⟨x, rfl⟩
    · exact Or.inl ⟨x, e4⟩
    · exact Or.inr (Or.inl ⟨x, e4⟩)
    · exact Or.inr (Or.inr ⟨x, e4⟩)
theorem orf_step (hw : wfV V) (X : Int32) (n : Nat) (w : Int) : orf (orf X (fun c => lnd V 1 c w) (V 0 0).toNat) (fun c => lnd V n c (w + 1)) (V 0 0).toNat = orf X (fun c => lnd V (n + 1) c w) (V 0 0).toNat := by
  have hu := hw.1
  apply bit_ext
  intro d d1 d2
  rw [Bool.eq_iff_iff, bit_orf, bit_orf]
  constructor
  · rintro ⟨e, e1, e2, e3⟩
    rw [bit_orf] at e2
    obtain ⟨c, c1, c2, c3⟩ := e2
    exact ⟨c, c1, c2, (lnd_step hw n (by omega) (by omega)).mpr ⟨e, by omega, by omega, c3, e3⟩⟩
  · rintro ⟨c, c1, c2, c3⟩
    obtain ⟨e, e1, e2, e3, e4⟩ := (lnd_step hw n (by omega) (by omega)).mp c3
    have ee : ((e.toNat : Nat) : Int) = e := by omega
    refine ⟨e.toNat, by omega, ?_, by rw [ee]; exact e4⟩
    rw [bit_orf]
    exact ⟨c, c1, c2, by rw [ee]; exact e3⟩
theorem cl_land_l (hw : wfV V) (hV : clsV V r I) (k : Nat) : ∀ (n : Nat) (X : Int32) (w : Int), 0 ≤ w → w + k = V 0 1 → 22 + k ≤ n → (∀ d : Int, 0 ≤ d → d < 32 → bit X d = true → d < V 0 0) → fX6_landingBits_L20 n X (iN w) I r = some (orf X (fun c => lnd V k c w) (V 0 0).toNat) := by
  have hu := hw.1
  induction k with
  | zero =>
    intro n X w h1 h2 hn hX
    obtain ⟨n, rfl⟩ : ∃ m, n = m + 1 := ⟨n - 1, by omega⟩
    rw [fX6_landingBits_L20]
    simp (disch := omega) only [iN_lit, iN_add, iN_sub, iN_mul, iN_neg, iN_lt, iN_eq, iN_tn, if_true, if_false, if_pos, if_neg, hV.1.2.1]
    congr 1
    apply bit_ext
    intro d d1 d2
    rw [Bool.eq_iff_iff, bit_orf]
    constructor
    · intro h
      have := hX d d1 d2 h
      have ee : ((d.toNat : Nat) : Int) = d := by omega
      exact ⟨d.toNat, by omega, by rw [ee]; exact h, by rw [ee, lnd, bit_shl1 d1 d2 d1 d2, decide_eq_true_iff]⟩
    · rintro ⟨c, c1, c2, c3⟩
      rw [lnd, bit_shl1 (by omega) (by omega) d1 d2, decide_eq_true_iff] at c3
      rw [c3]; exact c2
  | succ k ih =>
    intro n X w h1 h2 hn hX
    obtain ⟨n, rfl⟩ : ∃ m, n = m + 1 := ⟨n - 1, by omega⟩
    rw [fX6_landingBits_L20]
    simp (disch := omega) only [iN_lit, iN_add, iN_sub, iN_mul, iN_neg, iN_lt, iN_eq, iN_tn, if_true, if_false, if_pos, if_neg, hV.1.2.1]
    rw [cl_spread hw hV X h1 (by omega) (by omega), Option.bind_some, ih n _ (w + 1) (by omega) (by omega) (by omega) ?_, orf_step hw]
    intro d d1 d2 h
    rw [bit_orf] at h
    obtain ⟨c, c1, c2, c3⟩ := h
    exact lnd_hi hw 1 c w d (by omega) (by omega) d1 d2 c3
theorem orf_1 {f : Int → Int32} {m : Nat} {c : Int} (h1 : 0 ≤ c) (h2 : c < m) (hm : m ≤ 32) : orf (iN 1 <<< iN c) f m = f c := by
  apply bit_ext
  intro d d1 d2
  rw [Bool.eq_iff_iff, bit_orf]
  have ee : ((c.toNat : Nat) : Int) = c := by omega
  constructor
  · rintro ⟨e, e1, e2, e3⟩
    rw [bit_shl1 h1 (by omega) (by omega) (by omega), decide_eq_true_iff] at e2
    rw [← e2]; exact e3
  · intro h
    exact ⟨c.toNat, by omega, by rw [ee, bit_shl1 h1 (by omega) h1 (by omega), decide_eq_true_iff], by rw [ee]; exact h⟩
theorem cl_land (h : cOK V S r I) {b : Int} (hb1 : 0 ≤ b) (hb2 : b < V 0 2) {n : Nat} (hn : 30 ≤ n) : fX6_landingBits n (iN b) I r = some (lnd V (lft V S b) (S b) (S (4 + b))) := by
  have hu := h.1.1
  have hs := h.2.1.1 b hb1 hb2
  obtain ⟨l6, l7⟩ := lft_le h.1 h.2.1 hb1 hb2
  rw [fX6_landingBits, cl_col h.1 h.2.2.2 hb1 hb2, cl_row h.1 h.2.2.2 hb1 hb2]
  simp (disch := omega) only [iN_lit, iN_31]
  rw [cl_land_l h.1 h.2.2.1 (lft V S b) n _ _ (by omega) l7 (by omega) ?_, Option.bind_some, orf_1 (by omega) (by omega) (by omega)]
  intro d d1 d2 hd
  rw [bit_shl1 (by omega) (by omega) d1 d2, decide_eq_true_iff] at hd
  omega
end CLB
