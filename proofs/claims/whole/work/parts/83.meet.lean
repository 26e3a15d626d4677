/-! Where two meet, in both. -/
theorem bit_shlone {X : Int32} {c : Int} (h1 : 0 ≤ c) (h2 : c < 32) : bit (X <<< iN 1) c = (decide (1 ≤ c) && bit X (c - 1)) := by
  have e : ((iN 1).toBitVec.smod 32) = 1#32 := by decide
  have h3 : (X <<< iN 1).toBitVec = X.toBitVec <<< (1#32) := by rw [Int32.toBitVec_shiftLeft, e]
  unfold bit
  rw [h3, BitVec.shiftLeft_eq', BitVec.getLsbD_shiftLeft]
  have e1 : (1#32).toNat = 1 := rfl
  rw [e1]
  by_cases hc : 1 ≤ c
  · have a1 : c.toNat < 32 := by omega
    have a2 : ¬ c.toNat < 1 := by omega
    have a3 : (c - 1).toNat = c.toNat - 1 := by omega
    simp [a1, a2, a3, hc]
  · have a2 : c.toNat < 1 := by omega
    simp [a2, hc]
theorem bit_shrone {X : Int32} {c : Int} (h1 : 0 ≤ c) (h2 : c < 31) : bit (X >>> iN 1) c = bit X (c + 1) := by
  have e : ((iN 1).toBitVec.smod 32).toNat = 1 := by decide
  have h3 : (X >>> iN 1).toBitVec = X.toBitVec.sshiftRight 1 := by rw [Int32.toBitVec_shiftRight, BitVec.sshiftRight', e]
  unfold bit
  rw [h3, BitVec.getLsbD_sshiftRight]
  have a1 : c.toNat < 32 := by omega
  have a2 : 1 + c.toNat < 32 := by omega
  have a3 : (c + 1).toNat = 1 + c.toNat := by omega
  simp [a1, a2, a3]
def sd (A B : Int32) : Bool := decide (¬ ((A <<< iN 1 ||| A >>> iN 1) &&& B) = iN 0)
theorem sd_iff {A B : Int32} (hA : ∀ d : Int, 0 ≤ d → d < 32 → bit A d = true → d < 8) (hB : ∀ d : Int, 0 ≤ d → d < 32 → bit B d = true → d < 8) : sd A B = true ↔ ∃ a b : Int, (0 ≤ a ∧ a < 8) ∧ (0 ≤ b ∧ b < 8) ∧ bit A a = true ∧ bit B b = true ∧ (a = b + 1 ∨ b = a + 1) := by
  unfold sd
  rw [decide_eq_true_iff]
  constructor
  · intro h
    have : ¬ ∀ c : Int, 0 ≤ c → c < 32 → bit ((A <<< iN 1 ||| A >>> iN 1) &&& B) c = bit (iN 0) c := fun hh => h (bit_ext hh)
    have ⟨c, hc⟩ := Classical.not_forall.mp this
    have ⟨c1, hc⟩ := Classical.not_imp.mp hc
    have ⟨c2, hc⟩ := Classical.not_imp.mp hc
    rw [bit_0, bit_and, bit_or] at hc
    have hb : bit B c = true := by
      cases e : bit B c with
      | true => rfl
      | false => rw [e, Bool.and_false] at hc; exact absurd rfl hc
    have c8 := hB c c1 c2 hb
    rw [hb, Bool.and_true, bit_shlone c1 c2, bit_shrone c1 (by omega)] at hc
    by_cases e1 : bit A (c + 1) = true
    · exact ⟨c + 1, c, ⟨by omega, hA _ (by omega) (by omega) e1⟩, ⟨c1, c8⟩, e1, hb, Or.inl rfl⟩
    · have e1' : bit A (c + 1) = false := by simpa using e1
      rw [e1', Bool.or_false] at hc
      have hc' : (decide (1 ≤ c) && bit A (c - 1)) = true := by simpa using hc
      rw [Bool.and_eq_true, decide_eq_true_iff] at hc'
      exact ⟨c - 1, c, ⟨by omega, by omega⟩, ⟨c1, c8⟩, hc'.2, hb, Or.inr (by omega)⟩
  · rintro ⟨a, b, ⟨a1, a2⟩, ⟨b1, b2⟩, ha, hb, hab⟩ h
    have := congrArg (fun x => bit x b) h
    simp only [bit_0, bit_and, bit_or, hb, Bool.and_true] at this
    rw [bit_shlone b1 (by omega), bit_shrone b1 (by omega), Bool.or_eq_false_iff] at this
    rcases hab with rfl | rfl
    · rw [ha] at this; exact absurd this.2 (by decide)
    · rw [show a + 1 - 1 = a by omega, ha, Bool.and_true, decide_eq_false_iff_not] at this
      omega
theorem lnd_8 {V : (Nat → Int → Int)} (hw : wfV V) {k : Nat} {c w : Int} (h1 : 0 ≤ c) (h2 : c < V 0 0) : ∀ d : Int, 0 ≤ d → d < 32 → bit (lnd V k c w) d = true → d < V 0 0 := fun d d1 d2 h => lnd_hi hw k c w d h1 h2 d1 d2 h
theorem lnd_last {V : (Nat → Int → Int)} (hw : wfV V) (k : Nat) : ∀ {c w d : Int}, 0 ≤ c → c < V 0 0 → (bit (lnd V (k + 1) c w) d = true ↔ ∃ e : Int, 0 ≤ e ∧ e < V 0 0 ∧ bit (lnd V k c w) e = true ∧ bit (lnd V 1 e (w + k)) d = true) := by
  have hu := hw.1
  induction k with
  | zero =>
    intro c w d h1 h2
    constructor
    · intro h
      exact ⟨c, h1, h2, by rw [lnd, bit_shl1 h1 (by omega) h1 (by omega), decide_eq_true_iff], by rw [show w + ((0 : Nat) : Int) = w by omega]; exact h⟩
    · rintro ⟨e, e1, e2, e3, e4⟩
      rw [lnd, bit_shl1 h1 (by omega) e1 (by omega), decide_eq_true_iff] at e3
      subst e3
      rw [show w + ((0 : Nat) : Int) = w by omega] at e4
      exact e4
  | succ k ih =>
    intro c w d h1 h2
    rw [lnd_step hw (k + 1) h1 h2]
    constructor
    · rintro ⟨e, e1, e2, e3, e4⟩
      obtain ⟨f, f1, f2, f3, f4⟩ := (ih e1 e2).mp e4
      refine ⟨f, f1, f2, (lnd_step hw k h1 h2).mpr ⟨e, e1, e2, e3, f3⟩, ?_⟩
      rw [show w + ((k + 1 : Nat) : Int) = w + 1 + k by omega]
      exact f4
    · rintro ⟨f, f1, f2, f3, f4⟩
      obtain ⟨e, e1, e2, e3, e4⟩ := (lnd_step hw k h1 h2).mp f3
      refine ⟨e, e1, e2, e3, (ih e1 e2).mpr ⟨f, f1, f2, e4, ?_⟩⟩
      rw [show w + 1 + (k : Int) = w + ((k + 1 : Nat) : Int) by omega]
      exact f4
theorem spr_last {V : (Nat → Int → Int)} (hw : wfV V) (k : Nat) {c w : Int} (h1 : 0 ≤ c) (h2 : c < V 0 0) : orf (lnd V k c w) (fun e => lnd V 1 e (w + k)) (V 0 0).toNat = lnd V (k + 1) c w := by
  have hu := hw.1
  apply bit_ext
  intro d d1 d2
  rw [Bool.eq_iff_iff, bit_orf, lnd_last hw k h1 h2]
  constructor
  · rintro ⟨e, e1, e2, e3⟩; exact ⟨e, by omega, by omega, e2, e3⟩
  · rintro ⟨e, e1, e2, e3, e4⟩
    have ee : ((e.toNat : Nat) : Int) = e := by omega
    exact ⟨e.toNat, by omega, by rw [ee]; exact e3, by rw [ee]; exact e4⟩
/-- how many strokes until two are side by side -/
def met (V : (Nat → Int → Int)) (a b w : Int) (k : Nat) (n : Nat) : Int := match n with
  | 0 => if sd (lnd V k a w) (lnd V k b w) = true then (k : Int) else -1
  | n + 1 => if sd (lnd V k a w) (lnd V k b w) = true then (k : Int) else met V a b w (k + 1) n
def aMet (V : (Nat → Int → Int)) (S : Int → Int) (b d : Int) : Int := if (0 ≤ b ∧ b < V 0 2) ∧ (0 ≤ d ∧ d < V 0 2) ∧ ¬ b = d ∧ S (4 + b) = S (4 + d) then met V (S b) (S d) (S (4 + b)) 0 (lft V S b) else -1
section MET
variable {V : (Nat → Int → Int)} {S : Int → Int} {r : Nat} {I : (Nat → Nat → Int32)}
theorem cl_meet_l (h : cOK V S r I) {a b w : Int} (ha : 0 ≤ a ∧ a < V 0 0) (hb : 0 ≤ b ∧ b < V 0 0) (hw0 : 0 ≤ w) (k : Nat) : ∀ (n j : Nat), w + j + k = V 0 1 → 30 + k ≤ n →
    ∃ y, fX6_strokesToMeet_L50 n (iN w) (lnd V j a w) (lnd V j b w) (iN j) I r = some y ∧ (match y with | .inl va => va | .inr _ => iN (-1)) = iN (met V a b w j k) := by
  have hu := h.1.1
  have hv := h.2.2.1.1.2.1
  have i31 : iN 1 &&& iN 31 = iN 1 := by decide
  induction k with
  | zero =>
    intro n j hj hn
    obtain ⟨n, rfl⟩ : ∃ m, n = m + 2 := ⟨n - 2, by omega⟩
    rw [fX6_strokesToMeet_L50, met]
    simp (disch := omega) only [iN_lit, iN_add, iN_sub, iN_mul, iN_neg, iN_lt, iN_eq, iN_tn, if_true, if_false, if_pos, if_neg, hv, i31]
    unfold sd
    by_cases e : ((lnd V j a w <<< iN 1 ||| lnd V j a w >>> iN 1) &&& lnd V j b w) = iN 0
    · rw [if_pos e, if_neg (by rw [decide_eq_true_iff]; exact fun hh => hh e), fX6_strokesToMeet_L50]
      simp (disch := omega) only [iN_lit, iN_add, iN_sub, iN_mul, iN_neg, iN_lt, iN_eq, iN_tn, if_true, if_false, if_pos, if_neg, hv]
      exact ⟨_, rfl, rfl⟩
    · rw [if_neg e, if_pos (by rw [decide_eq_true_iff]; exact e)]
      exact ⟨_, rfl, rfl⟩
  | succ k ih =>
    intro n j hj hn
    obtain ⟨n, rfl⟩ : ∃ m, n = m + 1 := ⟨n - 1, by omega⟩
    rw [fX6_strokesToMeet_L50, met]
    simp (disch := omega) only [iN_lit, iN_add, iN_sub, iN_mul, iN_neg, iN_lt, iN_eq, iN_tn, if_true, if_false, if_pos, if_neg, hv, i31]
    unfold sd
    by_cases e : ((lnd V j a w <<< iN 1 ||| lnd V j a w >>> iN 1) &&& lnd V j b w) = iN 0
    · rw [if_pos e, if_neg (by rw [decide_eq_true_iff]; exact fun hh => hh e)]
      rw [cl_spread h.1 h.2.2.1 _ (by omega) (by omega) (by omega), Option.bind_some, cl_spread h.1 h.2.2.1 _ (by omega) (by omega) (by omega), Option.bind_some, spr_last h.1 j ha.1 ha.2, spr_last h.1 j hb.1 hb.2]
      obtain ⟨y, y1, y2⟩ := ih n (j + 1) (by omega) (by omega)
      exact ⟨y, y1, y2⟩
    · rw [if_neg e, if_pos (by rw [decide_eq_true_iff]; exact e)]
      exact ⟨_, rfl, rfl⟩
theorem cl_Meet (h : cOK V S r I) {b d : Int} (hb : -2147483648 ≤ b ∧ b < 2147483648) (hd : -2147483648 ≤ d ∧ d < 2147483648) {n : Nat} (hn : 60 ≤ n) : fX11_meet n (iN b) (iN d) I r = some (iN (aMet V S b d)) := by
  have hu := h.1.1
  rw [fX11_meet, cl_board h hb, cl_board h hd]
  unfold aMet
  simp only [iN_lit, iN_neg]
  by_cases hb' : 0 ≤ b ∧ b < V 0 2
  · rw [if_pos hb', ite_n n10]
    by_cases hd' : 0 ≤ d ∧ d < V 0 2
    · rw [if_pos hd', ite_n n10]
      simp (disch := omega) only [iN_eq]
      by_cases e : b = d
      · rw [if_pos e, if_neg (fun hh => hh.2.2.1 e)]
      · have hsb := h.2.1.1 b hb'.1 hb'.2
        have hsd := h.2.1.1 d hd'.1 hd'.2
        obtain ⟨l6, l7⟩ := lft_le h.1 h.2.1 hb'.1 hb'.2
        rw [if_neg e, fX6_strokesToMeet, cl_row h.1 h.2.2.2 hb'.1 hb'.2, cl_row h.1 h.2.2.2 hd'.1 hd'.2, cl_col h.1 h.2.2.2 hb'.1 hb'.2, cl_col h.1 h.2.2.2 hd'.1 hd'.2]
        simp (disch := omega) only [iN_lit, iN_neg, iN_eq, iN_31]
        by_cases e2 : S (4 + b) = S (4 + d)
        · rw [if_pos e2, if_pos ⟨hb', hd', e, e2⟩]
          obtain ⟨y, y1, y2⟩ := cl_meet_l h (a := S b) (b := S d) (w := S (4 + b)) (by omega) (by omega) (by omega) (lft V S b) n 0 (by omega) (by omega)
          have y1' : fX6_strokesToMeet_L50 n (iN (S (4 + b))) (iN 1 <<< iN (S b)) (iN 1 <<< iN (S d)) (iN 0) I r = some y := y1
          rw [y1', Option.bind_some, ← y2]
          cases y <;> rfl
        · rw [if_neg e2, if_neg (fun hh => e2 hh.2.2.2)]
          rfl
    · rw [if_neg hd', ite_p rfl, if_neg (fun hh => hd' hh.2.1)]
  · rw [if_neg hb', ite_p rfl, if_neg (fun hh => hb' hh.1)]
/-- a flag that says P -/
def tv (x : Int32) (P : Prop) : Prop := (x = iN 1 ∧ P) ∨ (x = iN 0 ∧ ¬ P)
theorem tv_iff {x : Int32} {P Q : Prop} (h : tv x P) (e : P ↔ Q) : tv x Q := by
  rcases h with ⟨a, b⟩ | ⟨a, b⟩
  · exact Or.inl ⟨a, e.mp b⟩
  · exact Or.inr ⟨a, fun q => b (e.mpr q)⟩
theorem tv_1 {P : Prop} (h : P) : tv (iN 1) P := Or.inl ⟨rfl, h⟩
theorem tv_0 {P : Prop} (h : ¬ P) : tv (iN 0) P := Or.inr ⟨rfl, h⟩
theorem nar0 : vp_nar .boolean (iN 0) = iN 0 := by decide
theorem nar1 : vp_nar .boolean (iN 1) = iN 1 := by decide
/-- the pairs of columns that are in A and B -/
def can (A B : Int32) (I : (Nat → Nat → Int32)) : Prop := ∀ z : Int, 0 ≤ z → z < 64 → tv (I 92 z.toNat) (bit A (z / 8) = true ∧ bit B (z % 8) = true)
theorem rf_beside {A B : Int32} (hA : ∀ d : Int, 0 ≤ d → d < 32 → bit A d = true → d < 8) (hB : ∀ d : Int, 0 ≤ d → d < 32 → bit B d = true → d < 8) (hc : can A B I) {n : Nat} (hn : 70 ≤ n) : fX12_areBeside n I = some (if sd A B = true then iN 1 else iN 0) := by
  obtain ⟨n', s, h1, h2, h3⟩ := loop (fun n k s => fX12_areBeside_L4 n s (iN k) I) 1 (P := 64) (fun k s => tv s (∃ z : Int, 0 ≤ z ∧ z < k ∧ bit A (z / 8) = true ∧ bit B (z % 8) = true ∧ (z / 8 = z % 8 + 1 ∨ z % 8 = z / 8 + 1)))
    (by
      intro n k s hn h0 h1 hs
      have unf := fX12_areBeside_L4.eq_def (n + 1) s (iN k) I
      dsimp only at unf
      have pl : fX12_plain (iN (k / 8) - iN (k % 8)) = iN (if k / 8 - k % 8 < 0 then -(k / 8 - k % 8) else k / 8 - k % 8) := by
        rw [fX12_plain, iN_sub]
        simp (disch := omega) only [iN_lit, iN_lt, iN_neg]
        split <;> rfl
      have e8 : iN k - iN k / iN 8 * iN 8 = iN (k % 8) := iN_rem h0 (by omega) (by omega) (by omega)
      have d8 : iN k / iN 8 = iN (k / 8) := iN_div h0 (by omega) (by omega) (by omega)
      simp only [iN_lit] at unf
      rw [ite_p (show iN k < iN 64 by rw [iN_lt (by omega) (by omega) (by omega) (by omega)]; exact h1)] at unf
      rcases hs with ⟨rfl, z, z1, z2, z3⟩ | ⟨rfl, hno⟩
      · rw [ite_n n10, iN_add] at unf
        exact ⟨iN 1, unf, tv_1 ⟨z, z1, by omega, z3⟩⟩
      · rw [ite_p rfl, e8, d8, pl] at unf
        simp (disch := omega) only [iN_lt, iN_tn, if_neg, iN_add] at unf
        rcases hc k h0 (by omega) with ⟨e, c1, c2⟩ | ⟨e, c1⟩
        · rw [e, ite_n n10] at unf
          have q : (iN (if k / 8 - k % 8 < 0 then -(k / 8 - k % 8) else k / 8 - k % 8) = iN 1) = ((if k / 8 - k % 8 < 0 then -(k / 8 - k % 8) else k / 8 - k % 8) = 1) := iN_eq (by split <;> omega) (by split <;> omega) (by omega) (by omega)
          by_cases hh : (if k / 8 - k % 8 < 0 then -(k / 8 - k % 8) else k / 8 - k % 8) = 1
          · rw [ite_p (by rw [q]; exact hh)] at unf
            exact ⟨iN 1, unf, tv_1 ⟨k, h0, by omega, c1, c2, by split at hh <;> omega⟩⟩
          · rw [ite_n (by rw [q]; exact hh)] at unf
            refine ⟨iN 0, unf, tv_0 ?_⟩
            rintro ⟨z, z1, z2, z3, z4, z5⟩
            by_cases ez : z = k
            · subst ez; apply hh; split <;> omega
            · exact hno ⟨z, z1, by omega, z3, z4, z5⟩
        · rw [e, ite_p rfl] at unf
          refine ⟨iN 0, unf, tv_0 ?_⟩
          rintro ⟨z, z1, z2, z3, z4, z5⟩
          by_cases ez : z = k
          · subst ez; exact c1 ⟨z3, z4⟩
          · exact hno ⟨z, z1, by omega, z3, z4, z5⟩) 64 n 0 (iN 0) (by omega) (by omega) (tv_0 (by rintro ⟨z, z1, z2, _⟩; omega)) (by omega)
  have h2' : fX12_areBeside_L4 n (iN 0) (iN 0) I = fX12_areBeside_L4 n' s (iN 64) I := h2
  rw [fX12_areBeside]
  simp only [iN_lit]
  rw [h2']
  obtain ⟨n', rfl⟩ : ∃ m, n' = m + 1 := ⟨n' - 1, by omega⟩
  rw [fX12_areBeside_L4]
  simp (disch := omega) only [iN_lit, iN_add, iN_sub, iN_mul, iN_neg, iN_lt, iN_eq, iN_tn, if_true, if_false, if_pos, if_neg, Option.bind_some]
  have h4 : tv s (sd A B = true) := tv_iff h3 (by
    rw [sd_iff hA hB]
    constructor
    · rintro ⟨z, z1, z2, z3, z4, z5⟩; exact ⟨z / 8, z % 8, by omega, by omega, z3, z4, z5⟩
    · rintro ⟨a, b, a1, b1, a2, b2, ab⟩
      have q1 : (8 * a + b) / 8 = a := by omega
      have q2 : (8 * a + b) % 8 = b := by omega
      exact ⟨8 * a + b, by omega, by omega, by rw [q1]; exact a2, by rw [q2]; exact b2, by omega⟩)
  rcases h4 with ⟨rfl, e⟩ | ⟨rfl, e⟩
  · rw [ite_p (Or.inr rfl), if_pos e]
  · rw [ite_p (Or.inl rfl), if_neg e]
theorem rf_col (hw : wfV V) (hV : refV V I) {c w s k : Int} (h1 : 0 ≤ c) (h2 : c < V 0 0) (h3 : 0 ≤ w) (h4 : w ≤ V 0 1) (hs : -1 ≤ s ∧ s ≤ 1) (hk : 1 ≤ k ∧ k ≤ 2) : fX12_columnBy (iN c) (iN w) (iN s) (iN k) I = some (iN (lead V c w s k)) := by
  have hu := hw.1
  have hcu := hw.2.1 (8 * w + c) (by omega) (by omega)
  have h78 := hV.2.1
  have hkc : 0 ≤ k * V 1 (8 * w + c) ∧ k * V 1 (8 * w + c) ≤ 14 := by
    have : k = 1 ∨ k = 2 := by omega
    rcases this with rfl | rfl <;> omega
  rw [fX12_columnBy, fX12_currentAt]
  simp (disch := omega) only [iN_lit, iN_add, iN_sub, iN_mul, iN_neg, iN_lt, iN_eq, iN_tn, if_true, if_false, if_pos, if_neg, h78, hV.1.1, Option.bind_some]
  rw [rf_within (by omega) (by omega)]
  rfl
theorem rf_iron (hw : wfV V) (hV : refV V I) {c w : Int} (h1 : 0 ≤ c) (h2 : c < V 0 0) (h3 : 0 ≤ w) (h4 : w ≤ V 0 1) : fX12_isIron (iN c) (iN w) I = some (if V 2 (8 * w + c) = 1 then iN 1 else iN 0) := by
  have hu := hw.1
  have hir := hw.2.2.1 (8 * w + c) (by omega) (by omega)
  have h79 := hV.2.2.1
  rw [fX12_isIron]
  simp (disch := omega) only [iN_lit, iN_add, iN_sub, iN_mul, iN_neg, iN_lt, iN_eq, iN_tn, if_true, if_false, if_pos, if_neg, h79]
  rcases hir with e | e
  · rw [if_neg (by omega), if_neg (by omega)]
  · rw [if_pos (by omega), if_pos (by omega)]
/-- a pair k goes by the steers s to z -/
def hits (V : (Nat → Int → Int)) (w k s z : Int) : Prop := z = 8 * lead V (k / 8) w (s / 3 - 1) 1 + lead V (k % 8) w (s % 3 - 1) 1 ∧ ¬ V 2 (8 * (w + 1) + lead V (k / 8) w (s / 3 - 1) 1) = 1 ∧ ¬ V 2 (8 * (w + 1) + lead V (k % 8) w (s % 3 - 1) 1) = 1
theorem rf_both_a (I : (Nat → Nat → Int32)) {w : Int32} {n : Nat} (hn : 66 ≤ n) : ∃ I', fX12_goBoth_L2 n w (iN 0) I = some I' ∧ ex [93] I I' ∧ ∀ z : Int, 0 ≤ z → z < 64 → I' 93 z.toNat = iN 0 := by
  obtain ⟨n', I', h1, h2, h3, h4⟩ := loop (fun n k I => fX12_goBoth_L2 n w (iN k) I) 1 (P := 64) (fun k I1 => ex [93] I I1 ∧ ∀ z : Int, 0 ≤ z → z < k → I1 93 z.toNat = iN 0)
    (by
      intro n k I1 hn h0 h1 ⟨hx, hz⟩
      refine ⟨mm_up I1 93 k.toNat (iN 0), ?_, ex_trans hx (ex_up (by decide)), ?_⟩
      · show fX12_goBoth_L2 (n + 1) _ _ _ = _
        rw [fX12_goBoth_L2]
        simp (disch := omega) only [iN_lit, iN_add, iN_sub, iN_mul, iN_neg, iN_lt, iN_eq, iN_tn, if_true, if_false, if_pos, if_neg, nar0]
      · intro z z0 z1
        rw [up_c]
        by_cases e : z = k
        · rw [if_pos (by omega)]
        · rw [if_neg (by omega)]; exact hz z z0 (by omega)) 64 n 0 I (by omega) (by omega) ⟨ex_refl, by intro z h1 h2; omega⟩ (by omega)
  refine ⟨I', ?_, h3, h4⟩
  have h2' : fX12_goBoth_L2 n w (iN 0) I = fX12_goBoth_L2 n' w (iN 64) I' := h2
  rw [h2']
  obtain ⟨n', rfl⟩ : ∃ m, n' = m + 1 := ⟨n' - 1, by omega⟩
  rw [fX12_goBoth_L2]
  simp (disch := omega) only [iN_lit, iN_add, iN_sub, iN_mul, iN_neg, iN_lt, iN_eq, iN_tn, if_true, if_false, if_pos, if_neg]
theorem rf_both_b (hw : wfV V) {A B : Int32} (hA : ∀ d : Int, 0 ≤ d → d < 32 → bit A d = true → d < V 0 0) (hB : ∀ d : Int, 0 ≤ d → d < 32 → bit B d = true → d < V 0 0) {w : Int} (h3 : 0 ≤ w) (h4 : w + 1 ≤ V 0 1) {k : Int} (k0 : 0 ≤ k) (k1 : k < 64) (hV : refV V I) (hc : can A B I) {P : Int → Prop} (hp : ∀ z : Int, 0 ≤ z → z < 64 → tv (I 93 z.toNat) (P z)) {n : Nat} (hn : 12 ≤ n) :
    ∃ I', fX12_goBoth_L31 n (iN w) (iN k) (iN 0) I = some I' ∧ ex [93] I I' ∧ ∀ z : Int, 0 ≤ z → z < 64 → tv (I' 93 z.toNat) (P z ∨ ((bit A (k / 8) = true ∧ bit B (k % 8) = true) ∧ ∃ s : Int, 0 ≤ s ∧ s < 9 ∧ hits V w k s z)) := by
  have hu := hw.1
  have e8 : iN k - iN k / iN 8 * iN 8 = iN (k % 8) := iN_rem k0 (by omega) (by omega) (by omega)
  have d8 : iN k / iN 8 = iN (k / 8) := iN_div k0 (by omega) (by omega) (by omega)
  rcases hc k k0 k1 with ⟨e, c1, c2⟩ | ⟨e, c1⟩
  · have hA' := hA (k / 8) (by omega) (by omega) c1
    have hB' := hB (k % 8) (by omega) (by omega) c2
    obtain ⟨n', I', h1, h2, hx, hz⟩ := loop (fun n j I => fX12_goBoth_L31 n (iN w) (iN k) (iN j) I) 1 (P := 9) (fun j I1 => ex [93] I I1 ∧ ∀ z : Int, 0 ≤ z → z < 64 → tv (I1 93 z.toNat) (P z ∨ ∃ s : Int, 0 ≤ s ∧ s < j ∧ hits V w k s z))
      (by
        intro n j I1 hn j0 j1 ⟨hx, hz⟩
        have hV1 : refV V I1 := refV_of hV hx (by decide)
        have e3 : iN j - iN j / iN 3 * iN 3 = iN (j % 3) := iN_rem j0 (by omega) (by omega) (by omega)
        have d3 : iN j / iN 3 = iN (j / 3) := iN_div j0 (by omega) (by omega) (by omega)
        have unf := fX12_goBoth_L31.eq_def (n + 1) (iN w) (iN k) (iN j) I1
        dsimp only at unf
        simp only [iN_lit] at unf
        rw [e8, d8, e3, d3, hx 92 (by decide)] at unf
        simp (disch := omega) only [iN_lt, iN_tn, if_neg, if_pos, iN_add, iN_sub, e] at unf
        rw [ite_n n10, rf_col hw hV1 (by omega) hA' h3 (by omega) (by omega) (by omega), Option.bind_some, rf_col hw hV1 (by omega) hB' h3 (by omega) (by omega) (by omega), Option.bind_some, rf_iron hw hV1 (lead_lo hw) (lead_hi hw) (by omega) h4, Option.bind_some] at unf
        have hl1 := lead_lo hw (c := k / 8) (r := w) (s := j / 3 - 1) (k := 1)
        have hl2 := lead_hi hw (c := k / 8) (r := w) (s := j / 3 - 1) (k := 1)
        have hl3 := lead_lo hw (c := k % 8) (r := w) (s := j % 3 - 1) (k := 1)
        have hl4 := lead_hi hw (c := k % 8) (r := w) (s := j % 3 - 1) (k := 1)
        have keep : (¬ ∃ z, hits V w k j z) → ∀ z : Int, 0 ≤ z → z < 64 → tv (I1 93 z.toNat) (P z ∨ ∃ s : Int, 0 ≤ s ∧ s < j + 1 ∧ hits V w k s z) := by
          intro hno z z0 z1
          refine tv_iff (hz z z0 z1) ⟨?_, ?_⟩
          · rintro (hh | ⟨s, s0, s1, s2⟩)
            · exact Or.inl hh
            · exact Or.inr ⟨s, s0, by omega, s2⟩
          · rintro (hh | ⟨s, s0, s1, s2⟩)
            · exact Or.inl hh
            · by_cases es : s = j
              · subst es; exact absurd ⟨z, s2⟩ hno
              · exact Or.inr ⟨s, s0, by omega, s2⟩
        by_cases i1 : V 2 (8 * (w + 1) + lead V (k / 8) w (j / 3 - 1) 1) = 1
        · rw [if_pos i1, ite_n n10] at unf
          exact ⟨I1, unf, hx, keep (by rintro ⟨z, _, hh, _⟩; exact hh i1)⟩
        · rw [if_neg i1, ite_p rfl, rf_iron hw hV1 hl3 hl4 (by omega) h4, Option.bind_some] at unf
          by_cases i2 : V 2 (8 * (w + 1) + lead V (k % 8) w (j % 3 - 1) 1) = 1
          · rw [if_pos i2, ite_n n10] at unf
            exact ⟨I1, unf, hx, keep (by rintro ⟨z, _, _, hh⟩; exact hh i2)⟩
          · rw [if_neg i2, ite_p rfl, nar1] at unf
            simp (disch := omega) only [iN_mul, iN_add, iN_lt, iN_tn, if_neg] at unf
            refine ⟨_, unf, ex_trans hx (ex_up (by decide)), ?_⟩
            intro z z0 z1
            rw [up_c]
            by_cases ez : z = 8 * lead V (k / 8) w (j / 3 - 1) 1 + lead V (k % 8) w (j % 3 - 1) 1
            · rw [if_pos (by omega)]
              exact tv_1 (Or.inr ⟨j, j0, by omega, ez, i1, i2⟩)
            · rw [if_neg (by omega)]
              refine tv_iff (hz z z0 z1) ⟨?_, ?_⟩
              · rintro (hh | ⟨s, s0, s1, s2⟩)
                · exact Or.inl hh
                · exact Or.inr ⟨s, s0, by omega, s2⟩
              · rintro (hh | ⟨s, s0, s1, s2⟩)
                · exact Or.inl hh
                · by_cases es : s = j
                  · subst es; exact absurd s2.1 ez
                  · exact Or.inr ⟨s, s0, by omega, s2⟩) 9 n 0 I (by omega) (by omega) ⟨ex_refl, fun z z0 z1 => tv_iff (hp z z0 z1) ⟨Or.inl, by rintro (hh | ⟨s, s0, s1, _⟩); exact hh; omega⟩⟩ (by omega)
    refine ⟨I', ?_, hx, fun z z0 z1 => tv_iff (hz z z0 z1) ⟨?_, ?_⟩⟩
    · have h2' : fX12_goBoth_L31 n (iN w) (iN k) (iN 0) I = fX12_goBoth_L31 n' (iN w) (iN k) (iN 9) I' := h2
      rw [h2']
      obtain ⟨n', rfl⟩ : ∃ m, n' = m + 1 := ⟨n' - 1, by omega⟩
      rw [fX12_goBoth_L31]
      simp (disch := omega) only [iN_lit, iN_add, iN_sub, iN_mul, iN_neg, iN_lt, iN_eq, iN_tn, if_true, if_false, if_pos, if_neg]
    · rintro (hh | hh)
      · exact Or.inl hh
      · exact Or.inr ⟨⟨c1, c2⟩, hh⟩
    · rintro (hh | hh)
      · exact Or.inl hh
      · exact Or.inr hh.2
  · refine ⟨I, ?_, ex_refl, fun z z0 z1 => tv_iff (hp z z0 z1) ⟨Or.inl, ?_⟩⟩
    · obtain ⟨n, rfl⟩ : ∃ m, n = m + 1 := ⟨n - 1, by omega⟩
      rw [fX12_goBoth_L31]
      simp (disch := omega) only [iN_lit, iN_lt, iN_tn, if_neg, if_pos, e, if_true]
    · rintro (hh | hh)
      · exact hh
      · exact absurd hh.1 c1
theorem rf_both (hw : wfV V) {A B : Int32} (hA : ∀ d : Int, 0 ≤ d → d < 32 → bit A d = true → d < V 0 0) (hB : ∀ d : Int, 0 ≤ d → d < 32 → bit B d = true → d < V 0 0) {w : Int} (h3 : 0 ≤ w) (h4 : w + 1 ≤ V 0 1) (hV : refV V I) (hc : can A B I) {n : Nat} (hn : 100 ≤ n) :
    ∃ I', fX12_goBoth n (iN w) I = some I' ∧ ex [92, 93] I I' ∧ can (orf A (fun c => lnd V 1 c w) (V 0 0).toNat) (orf B (fun c => lnd V 1 c w) (V 0 0).toNat) I' := by
  have hu := hw.1
  obtain ⟨I1, a1, a2, a3⟩ := rf_both_a I (w := iN w) (n := n) (by omega)
  have hV1 : refV V I1 := refV_of hV a2 (by decide)
  have hc1 : can A B I1 := fun z z0 z1 => by rw [a2 92 (by decide)]; exact hc z z0 z1
  obtain ⟨n', I2, h1, h2, b2, b3⟩ := loop (fun n k I => fX12_goBoth_L23 n (iN w) (iN k) I) 20 (P := 64) (fun k I2 => ex [93] I1 I2 ∧ ∀ z : Int, 0 ≤ z → z < 64 → tv (I2 93 z.toNat) (∃ j : Int, 0 ≤ j ∧ j < k ∧ (bit A (j / 8) = true ∧ bit B (j % 8) = true) ∧ ∃ s : Int, 0 ≤ s ∧ s < 9 ∧ hits V w j s z))
    (by
      intro n k J hn k0 k1 ⟨hx, hz⟩
      obtain ⟨I', g1, g2, g3⟩ := rf_both_b hw hA hB h3 h4 k0 k1 (refV_of hV1 hx (by decide)) (fun z z0 z1 => by rw [hx 92 (by decide)]; exact hc1 z z0 z1) hz (n := n) (by omega)
      refine ⟨I', ?_, ex_trans hx g2, fun z z0 z1 => tv_iff (g3 z z0 z1) ⟨?_, ?_⟩⟩
      · show fX12_goBoth_L23 (n + 1) _ _ _ = _
        rw [fX12_goBoth_L23]
        simp only [iN_lit]
        rw [ite_p (by rw [iN_lt (by omega) (by omega) (by omega) (by omega)]; exact k1), g1, Option.bind_some, iN_add]
      · rintro (⟨j, j0, j1, j2⟩ | hh)
        · exact ⟨j, j0, by omega, j2⟩
        · exact ⟨k, k0, by omega, hh⟩
      · rintro ⟨j, j0, j1, j2⟩
        by_cases ej : j = k
        · subst ej; exact Or.inr j2
        · exact Or.inl ⟨j, j0, by omega, j2⟩) 64 n 0 I1 (by omega) (by omega) ⟨ex_refl, fun z z0 z1 => by rw [a3 z z0 z1]; exact tv_0 (by rintro ⟨j, j0, j1, _⟩; omega)⟩ (by omega)
  have h2' : fX12_goBoth_L23 n (iN w) (iN 0) I1 = some I2 := by
    have : fX12_goBoth_L23 n (iN w) (iN 0) I1 = fX12_goBoth_L23 n' (iN w) (iN 64) I2 := h2
    rw [this]
    obtain ⟨n', rfl⟩ : ∃ m, n' = m + 1 := ⟨n' - 1, by omega⟩
    rw [fX12_goBoth_L23]
    simp (disch := omega) only [iN_lit, iN_add, iN_sub, iN_mul, iN_neg, iN_lt, iN_eq, iN_tn, if_true, if_false, if_pos, if_neg]
  obtain ⟨n3, I3, h5, h6, c2, c3⟩ := loop (fun n k I => fX12_goBoth_L132 n (iN k) I) 1 (P := 64) (fun k J => ex [92] I2 J ∧ ∀ z : Int, 0 ≤ z → z < k → J 92 z.toNat = I2 93 z.toNat)
    (by
      intro n k J hn k0 k1 ⟨hx, hz⟩
      have hna : vp_nar .boolean (J 93 k.toNat) = I2 93 k.toNat := by
        rw [hx 93 (by decide)]
        rcases b3 k k0 k1 with ⟨e, _⟩ | ⟨e, _⟩ <;> rw [e]
        · exact nar1
        · exact nar0
      refine ⟨mm_up J 92 k.toNat (I2 93 k.toNat), ?_, ex_trans hx (ex_up (by decide)), ?_⟩
      · show fX12_goBoth_L132 (n + 1) _ _ = _
        rw [fX12_goBoth_L132]
        simp (disch := omega) only [iN_lit, iN_add, iN_sub, iN_mul, iN_neg, iN_lt, iN_eq, iN_tn, if_true, if_false, if_pos, if_neg, hna]
      · intro z z0 z1
        rw [up_c]
        by_cases e : z = k
        · rw [if_pos (by omega), e]
        · rw [if_neg (by omega)]; exact hz z z0 (by omega)) 64 n 0 I2 (by omega) (by omega) ⟨ex_refl, by intro z h1 h2; omega⟩ (by omega)
  refine ⟨I3, ?_, ex_trans (ex_mono a2 (by decide)) (ex_trans (ex_mono b2 (by decide)) (ex_mono c2 (by decide))), ?_⟩
  · rw [fX12_goBoth]
    simp only [iN_lit]
    rw [a1, Option.bind_some, h2', Option.bind_some]
    have : fX12_goBoth_L132 n (iN 0) I2 = fX12_goBoth_L132 n3 (iN 64) I3 := h6
    rw [this]
    obtain ⟨n3, rfl⟩ : ∃ m, n3 = m + 1 := ⟨n3 - 1, by omega⟩
    rw [fX12_goBoth_L132]
    simp (disch := omega) only [iN_lit, iN_add, iN_sub, iN_mul, iN_neg, iN_lt, iN_eq, iN_tn, if_true, if_false, if_pos, if_neg, Option.bind_some]
  · intro z z0 z1
    rw [c3 z z0 z1]
    refine tv_iff (b3 z z0 z1) ?_
    have b1 : ∀ (c e : Int), 0 ≤ c → c < V 0 0 → 0 ≤ e → e < 8 → (bit (lnd V 1 c w) e = true ↔ ∃ s : Int, -1 ≤ s ∧ s ≤ 1 ∧ e = lead V c w s 1 ∧ ¬ V 2 (8 * (w + 1) + lead V c w s 1) = 1) := by
      intro c e c1 c2 e1 e2
      have q : ∀ s : Int, (bit (if V 2 (8 * (w + 1) + lead V c w s 1) = 1 then iN 0 else lnd V 0 (lead V c w s 1) (w + 1)) e = true ↔ e = lead V c w s 1 ∧ ¬ V 2 (8 * (w + 1) + lead V c w s 1) = 1) := by
        intro s
        have hl1 := lead_lo hw (c := c) (r := w) (s := s) (k := 1)
        have hl2 := lead_hi hw (c := c) (r := w) (s := s) (k := 1)
        split
        · next hi => rw [bit_0]; exact ⟨fun h => absurd h (by decide), fun h => absurd hi h.2⟩
        · next hi => rw [lnd, bit_shl1 hl1 (by omega) e1 (by omega), decide_eq_true_iff]; exact ⟨fun h => ⟨h, hi⟩, fun h => h.1⟩
      rw [lnd, bit_or, bit_or, Bool.or_eq_true, Bool.or_eq_true, q, q, q]
      constructor
      · rintro (h | h | h)
        · exact ⟨-1, by omega, by omega, h⟩
        · exact ⟨0, by omega, by omega, h⟩
        · exact ⟨1, by omega, by omega, h⟩
      · rintro ⟨s, s1, s2, h⟩
        have : s = -1 ∨ s = 0 ∨ s = 1 := by omega
        rcases this with rfl | rfl | rfl
        · exact Or.inl h
        · exact Or.inr (Or.inl h)
        · exact Or.inr (Or.inr h)
    rw [bit_orf, bit_orf]
    constructor
    · rintro ⟨j, j0, j1, ⟨jA, jB⟩, s, s0, s1, t1, t2, t3⟩
      have hl3 := lead_lo hw (c := j / 8) (r := w) (s := s / 3 - 1) (k := 1)
      have hl4 := lead_hi hw (c := j / 8) (r := w) (s := s / 3 - 1) (k := 1)
      have hl1 := lead_lo hw (c := j % 8) (r := w) (s := s % 3 - 1) (k := 1)
      have hl2 := lead_hi hw (c := j % 8) (r := w) (s := s % 3 - 1) (k := 1)
      have hA' := hA (j / 8) (by omega) (by omega) jA
      have hB' := hB (j % 8) (by omega) (by omega) jB
      have ea : (((j / 8).toNat : Nat) : Int) = j / 8 := by omega
      have eb : (((j % 8).toNat : Nat) : Int) = j % 8 := by omega
      refine ⟨⟨(j / 8).toNat, by omega, by rw [ea]; exact jA, ?_⟩, ⟨(j % 8).toNat, by omega, by rw [eb]; exact jB, ?_⟩⟩
      · rw [ea, b1 _ _ (by omega) hA' (by omega) (by omega)]
        exact ⟨s / 3 - 1, by omega, by omega, by omega, t2⟩
      · rw [eb, b1 _ _ (by omega) hB' (by omega) (by omega)]
        exact ⟨s % 3 - 1, by omega, by omega, by omega, t3⟩
    · rintro ⟨⟨a, a1, a2, a3⟩, ⟨b, b1', b2', b3'⟩⟩
      rw [b1 _ _ (by omega) (by omega) (by omega) (by omega)] at a3 b3'
      obtain ⟨s, s1, s2, s3, s4⟩ := a3
      obtain ⟨t, t1, t2, t3, t4⟩ := b3'
      have q1 : (8 * (a : Int) + b) / 8 = a := by omega
      have q2 : (8 * (a : Int) + b) % 8 = b := by omega
      have q3 : (3 * (s + 1) + (t + 1)) / 3 - 1 = s := by omega
      have q4 : (3 * (s + 1) + (t + 1)) % 3 - 1 = t := by omega
      refine ⟨8 * a + b, by omega, by omega, ⟨by rw [q1]; exact a2, by rw [q2]; exact b2'⟩, 3 * (s + 1) + (t + 1), by omega, by omega, ?_⟩
      unfold hits
      rw [q1, q2, q3, q4]
      exact ⟨by omega, s4, t4⟩
theorem rf_meet_l {b d : Int} (hb1 : 0 ≤ b) (hb2 : b < V 0 2) (hd1 : 0 ≤ d) (hd2 : d < V 0 2) (k : Nat) : ∀ (n j : Nat) (I : (Nat → Nat → Int32)), rOK V S I → j + k = lft V S b → 110 + k ≤ n → can (lnd V j (S b) (S (4 + b))) (lnd V j (S d) (S (4 + b))) I →
    ∃ y I', fX12_meet_L89 n (iN b) (iN j) I = some (y, I') ∧ (match y with | .inl va => va | .inr _ => iN (-1)) = iN (met V (S b) (S d) (S (4 + b)) j k) ∧ ex [92, 93] I I' := by
  induction k with
  | zero =>
    intro n j I h hj hn hc
    have hu := h.1.1
    have hsb := h.2.1.1 b hb1 hb2
    have hsd := h.2.1.1 d hd1 hd2
    obtain ⟨l6, l7⟩ := lft_le h.1 h.2.1 hb1 hb2
    obtain ⟨n, rfl⟩ : ∃ m, n = m + 2 := ⟨n - 2, by omega⟩
    rw [fX12_meet_L89, rf_left2 h hb1 hb2, Option.bind_some, ite_n (by rw [iN_lt (by omega) (by omega) (by omega) (by omega)]; omega)]
    rw [rf_beside (fun e e1 e2 e3 => by have := lnd_8 h.1 (by omega) (by omega) e e1 e2 e3; omega) (fun e e1 e2 e3 => by have := lnd_8 h.1 (by omega) (by omega) e e1 e2 e3; omega) hc (by omega), Option.bind_some, met]
    simp only [iN_lit]
    by_cases e : sd (lnd V j (S b) (S (4 + b))) (lnd V j (S d) (S (4 + b))) = true
    · rw [if_pos e, ite_n n10, if_pos e]
      exact ⟨_, I, rfl, rfl, ex_refl⟩
    · rw [if_neg e, ite_p rfl, if_neg e, Option.bind_some, ite_n (by rw [iN_lt (by omega) (by omega) (by omega) (by omega)]; omega), iN_add, fX12_meet_L89, rf_left2 h hb1 hb2, Option.bind_some, ite_p (by rw [iN_lt (by omega) (by omega) (by omega) (by omega)]; omega)]
      exact ⟨_, I, rfl, rfl, ex_refl⟩
  | succ k ih =>
    intro n j I h hj hn hc
    have hu := h.1.1
    have hsb := h.2.1.1 b hb1 hb2
    have hsd := h.2.1.1 d hd1 hd2
    obtain ⟨l6, l7⟩ := lft_le h.1 h.2.1 hb1 hb2
    obtain ⟨n, rfl⟩ : ∃ m, n = m + 1 := ⟨n - 1, by omega⟩
    have h84 := h.2.2.2 (4 + b) (by omega) (by omega)
    rw [fX12_meet_L89, rf_left2 h hb1 hb2, Option.bind_some, ite_n (by rw [iN_lt (by omega) (by omega) (by omega) (by omega)]; omega)]
    rw [rf_beside (fun e e1 e2 e3 => by have := lnd_8 h.1 (by omega) (by omega) e e1 e2 e3; omega) (fun e e1 e2 e3 => by have := lnd_8 h.1 (by omega) (by omega) e e1 e2 e3; omega) hc (by omega), Option.bind_some, met]
    simp only [iN_lit]
    by_cases e : sd (lnd V j (S b) (S (4 + b))) (lnd V j (S d) (S (4 + b))) = true
    · rw [if_pos e, ite_n n10, if_pos e]
      exact ⟨_, I, rfl, rfl, ex_refl⟩
    · rw [if_neg e, ite_p rfl, if_neg e, Option.bind_some, ite_p (by rw [iN_lt (by omega) (by omega) (by omega) (by omega)]; omega)]
      simp (disch := omega) only [iN_add, iN_lt, iN_tn, if_neg, h84]
      obtain ⟨I1, g1, g2, g3⟩ := rf_both h.1 (lnd_8 h.1 (by omega) (by omega)) (lnd_8 h.1 (by omega) (by omega)) (w := S (4 + b) + j) (by omega) (by omega) h.2.2.1 hc (n := n) (by omega)
      rw [spr_last h.1 j (by omega) (by omega), spr_last h.1 j (by omega) (by omega)] at g3
      obtain ⟨y, I2, f1, f2, f3⟩ := ih n (j + 1) I1 (rOK_ex h g2 (by decide)) (by omega) (by omega) g3
      rw [g1, Option.bind_some]
      exact ⟨y, I2, f1, f2, ex_trans g2 f3⟩
theorem rf_Meet (h : rOK V S I) {b d : Int} (hb : -2147483648 ≤ b ∧ b < 2147483648) (hd : -2147483648 ≤ d ∧ d < 2147483648) {n : Nat} (hn : 140 ≤ n) : ∃ I', fX12_meet n (iN b) (iN d) I = some (iN (aMet V S b d), I') ∧ ex [92, 93] I I' := by
  have hu := h.1.1
  rw [fX12_meet, rf_board h hb, Option.bind_some, rf_board h hd]
  unfold aMet
  simp only [iN_lit, iN_neg]
  by_cases hb' : 0 ≤ b ∧ b < V 0 2
  · rw [if_pos hb', ite_n n10, Option.bind_some]
    by_cases hd' : 0 ≤ d ∧ d < V 0 2
    · rw [if_pos hd', ite_n n10]
      simp (disch := omega) only [iN_eq]
      by_cases e : b = d
      · rw [if_pos e, if_neg (fun hh => hh.2.2.1 e)]
        exact ⟨I, rfl, ex_refl⟩
      · have hsb := h.2.1.1 b hb'.1 hb'.2
        have hsd := h.2.1.1 d hd'.1 hd'.2
        obtain ⟨l6, l7⟩ := lft_le h.1 h.2.1 hb'.1 hb'.2
        have h4b := h.2.2.2 (4 + b) (by omega) (by omega)
        have h4d := h.2.2.2 (4 + d) (by omega) (by omega)
        rw [if_neg e]
        simp (disch := omega) only [iN_add, iN_lt, iN_tn, if_neg, h4b, h4d, iN_eq]
        by_cases e2 : S (4 + b) = S (4 + d)
        · rw [if_pos e2, if_pos ⟨hb', hd', e, e2⟩]
          obtain ⟨n', I1, q1, q2, q3, q4⟩ := loop (fun n k I => fX12_meet_L44 n (iN b) (iN d) (iN k) I) 1 (P := 64) (fun k J => ex [92] I J ∧ ∀ z : Int, 0 ≤ z → z < k → tv (J 92 z.toNat) (z = 8 * S b + S d))
            (by
              intro n k J hn k0 k1 ⟨hx, hz⟩
              have j1 : J 84 b.toNat = iN (S b) := by rw [hx 84 (by decide)]; exact h.2.2.2 b (by omega) (by omega)
              have j2 : J 84 d.toNat = iN (S d) := by rw [hx 84 (by decide)]; exact h.2.2.2 d (by omega) (by omega)
              have unf := fX12_meet_L44.eq_def (n + 1) (iN b) (iN d) (iN k) J
              dsimp only at unf
              simp (disch := omega) only [iN_lit, iN_add, iN_sub, iN_mul, iN_neg, iN_lt, iN_eq, iN_tn, if_true, if_false, if_pos, if_neg, j1, j2, nar0, nar1] at unf
              by_cases ek : k = 8 * S b + S d
              · rw [if_pos ek] at unf
                refine ⟨_, unf, ex_trans hx (ex_up (by decide)), ?_⟩
                intro z z0 z1
                rw [up_c]
                by_cases e : z = k
                · rw [if_pos (by omega)]; exact tv_1 (by omega)
                · rw [if_neg (by omega)]; exact hz z z0 (by omega)
              · rw [if_neg ek] at unf
                refine ⟨_, unf, ex_trans hx (ex_up (by decide)), ?_⟩
                intro z z0 z1
                rw [up_c]
                by_cases e : z = k
                · rw [if_pos (by omega)]; exact tv_0 (by omega)
                · rw [if_neg (by omega)]; exact hz z z0 (by omega)) 64 n 0 I (by omega) (by omega) ⟨ex_refl, by intro z h1 h2; omega⟩ (by omega)
          have q2' : fX12_meet_L44 n (iN b) (iN d) (iN 0) I = some I1 := by
            have : fX12_meet_L44 n (iN b) (iN d) (iN 0) I = fX12_meet_L44 n' (iN b) (iN d) (iN 64) I1 := q2
            rw [this]
            obtain ⟨n', rfl⟩ : ∃ m, n' = m + 1 := ⟨n' - 1, by omega⟩
            rw [fX12_meet_L44]
            simp (disch := omega) only [iN_lit, iN_add, iN_sub, iN_mul, iN_neg, iN_lt, iN_eq, iN_tn, if_true, if_false, if_pos, if_neg]
          obtain ⟨y, I2, f1, f2, f3⟩ := rf_meet_l hb'.1 hb'.2 hd'.1 hd'.2 (lft V S b) n 0 I1 (rOK_ex h q3 (by decide)) (by omega) (by omega) (by
            intro z z0 z1
            refine tv_iff (q4 z z0 z1) ?_
            rw [lnd, lnd, bit_shl1 (by omega) (by omega) (by omega) (by omega), bit_shl1 (by omega) (by omega) (by omega) (by omega), decide_eq_true_iff, decide_eq_true_iff]
            omega)
          have f1' : fX12_meet_L89 n (iN b) (iN 0) I1 = some (y, I2) := f1
          rw [q2', Option.bind_some, f1', Option.bind_some]
          refine ⟨I2, ?_, ex_trans (ex_mono q3 (by decide)) f3⟩
          rw [← f2]
          cases y <;> rfl
        · rw [if_neg e2, if_neg (fun hh => e2 hh.2.2.2)]
          exact ⟨I, rfl, ex_refl⟩
    · rw [if_neg hd', ite_p rfl, if_neg (fun hh => hd' hh.2.1)]
      exact ⟨I, rfl, ex_refl⟩
  · rw [if_neg hb', ite_p rfl, if_neg (fun hh => hb' hh.1)]
    exact ⟨I, rfl, ex_refl⟩
end MET
