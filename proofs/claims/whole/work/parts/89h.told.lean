/-! Seen and felt, untold, later; the tape; faults; what it is about. -/
def rTp (B : Nat → Int) (m : Nat) (I : (Nat → Nat → Int32)) : Prop := m ≤ 1600 ∧ I 62 1 = iN m ∧ ∀ k, k < m → 0 ≤ B k ∧ B k < 256 ∧ I 63 k = iN (B k)
def cTp (B : Nat → Int) (m : Nat) (I : (Nat → Nat → Int32)) : Prop := m ≤ 1600 ∧ I 1 1 = iN m ∧ ∀ k, k < m → 0 ≤ B k ∧ B k < 256 ∧ I 2 k &&& iN 255 = iN (B k)
/-- four bytes of x laid at m -/
def b4 (B : Nat → Int) (m : Nat) (x : Int32) : Nat → Int := fun k => if m ≤ k ∧ k < m + 4 then ((x >>> iN (24 - 8 * ((k : Int) - m))) &&& iN 255).toInt else B k
def aAb (V : (Nat → Int → Int)) (S : Int → Int) (a u : Nat) (N T : Int) (m : Nat) (c : Nat) (x : Int) : Int := if x = 0 then V 0 2 else if x = 1 then V 0 3 else if x = 2 then V 0 0 else if x = 3 then V 0 1 else if x = 4 then V 0 4 else if x = 5 then S 27 else if x = 6 then a else if x = 7 then u else if x = 8 then N else if x = 9 then T else if x = 10 then m else if x = 11 then V 0 6 else if x = 12 then c else -1
theorem nar_b (y : Int32) : vp_nar .byte y = y.toInt8.toInt32 := rfl
theorem bit_255 {c : Int} (h1 : 0 ≤ c) (h2 : c < 32) : bit (iN 255) c = decide (c < 8) := by
  have : ∀ k : Fin 32, bit (iN 255) (k.val : Int) = decide (k.val < 8) := by decide +kernel
  have h := this ⟨c.toNat, by omega⟩
  have e : ((c.toNat : Nat) : Int) = c := by omega
  simp only [e] at h
  rw [h]
  congr 1
  simp only [eq_iff_iff]
  omega
theorem and_255 (y : Int32) : 0 ≤ (y &&& iN 255).toInt ∧ (y &&& iN 255).toInt < 256 := by
  have e : (y &&& iN 255).toBitVec.toNat ≤ 255 := by
    rw [Int32.toBitVec_and, BitVec.toNat_and]
    exact Nat.and_le_right
  have e2 : (y &&& iN 255).toInt = ((y &&& iN 255).toBitVec.toNat : Int) := by
    show (y &&& iN 255).toBitVec.toInt = _
    rw [BitVec.toInt_eq_toNat_cond, if_pos (by omega)]
  omega
theorem byte_255 (y : Int32) : vp_nar .byte y.toInt8.toInt32 &&& iN 255 = y &&& iN 255 := by
  rw [nar_b]
  apply bit_ext
  intro c c0 c1
  rw [bit_and, bit_and, bit_255 c0 c1]
  by_cases hc : c < 8
  · simp only [hc, decide_true, Bool.and_true]
    have e : ∀ z : Int32, bit z.toInt8.toInt32 c = bit z c := by
      intro z
      unfold bit
      rw [Int8.toBitVec_toInt32, Int32.toBitVec_toInt8, BitVec.getLsbD_signExtend, BitVec.getLsbD_signExtend]
      have q1 : c.toNat < 32 := by omega
      have q2 : c.toNat < 8 := by omega
      simp [q1, q2]
    rw [e, e]
  · simp only [hc, decide_false, Bool.and_false]
section TPE
variable {V : (Nat → Int → Int)} {S : Int → Int} {I : (Nat → Nat → Int32)} {r : Nat} {Wt : (Nat → Int → Int)} {N T : Int} {B : Nat → Int} {m : Nat}
theorem b4_in {k : Nat} (x : Int32) (h : k < m → 0 ≤ B k ∧ B k < 256) (hk : k < m + 4) : 0 ≤ b4 B m x k ∧ b4 B m x k < 256 := by
  unfold b4
  by_cases e : m ≤ k ∧ k < m + 4
  · rw [if_pos e]; exact and_255 _
  · rw [if_neg e]; exact h (by omega)
theorem rf_four (h : rTp B m I) (hm : m + 4 ≤ 1600) (x : Int32) {n : Nat} (hn : 6 ≤ n) : ∃ I', fX12_four n x I = some I' ∧ xf [63, 1001] I I' ∧ rTp (b4 B m x) (m + 4) I' := by
  obtain ⟨h1, h2, h3⟩ := h
  have st : ∀ (j n : Nat) (J : (Nat → Nat → Int32)), j < 4 → J 62 1 = iN ((m + j : Nat) : Int) → fX12_four_L3 (n + 1) x (iN (24 - 8 * (j : Int))) J = fX12_four_L3 n x (iN (24 - 8 * ((j + 1 : Nat) : Int))) (mm_up (mm_up J 63 (m + j) ((x >>> iN (24 - 8 * (j : Int))) &&& iN 255)) 62 1 (iN ((m + (j + 1) : Nat) : Int))) := by
    intro j n J hj e
    rw [fX12_four_L3, e]
    simp only [iN_lit, iN_neg, iN_add]
    rw [iN_31 (by omega) (by omega)]
    simp (disch := omega) only [iN_lt, iN_tn, if_neg]
    rw [show (((m + j : Nat) : Int)).toNat = m + j by omega, show (24 - 8 * (j : Int) + -8) = 24 - 8 * ((j + 1 : Nat) : Int) by omega, show ((m + j : Nat) : Int) + 1 = ((m + (j + 1) : Nat) : Int) by omega]
  obtain ⟨n, rfl⟩ : ∃ k, n = k + 5 := ⟨n - 5, by omega⟩
  have s0 := st 0 (n + 4) I (by omega) (by rw [h2]; rfl)
  have s1 := st 1 (n + 3) _ (by omega) (up_eq (M := mm_up I 63 (m + 0) ((x >>> iN (24 - 8 * ((0 : Nat) : Int))) &&& iN 255)) (a := 62) (k := 1) (x := iN ((m + (0 + 1) : Nat) : Int)))
  have s2 := st 2 (n + 2) _ (by omega) (up_eq (M := mm_up (mm_up (mm_up I 63 (m + 0) ((x >>> iN (24 - 8 * ((0 : Nat) : Int))) &&& iN 255)) 62 1 (iN ((m + (0 + 1) : Nat) : Int))) 63 (m + 1) ((x >>> iN (24 - 8 * ((1 : Nat) : Int))) &&& iN 255)) (a := 62) (k := 1) (x := iN ((m + (1 + 1) : Nat) : Int)))
  have s3 := st 3 (n + 1) _ (by omega) (up_eq (M := mm_up (mm_up (mm_up (mm_up (mm_up I 63 (m + 0) ((x >>> iN (24 - 8 * ((0 : Nat) : Int))) &&& iN 255)) 62 1 (iN ((m + (0 + 1) : Nat) : Int))) 63 (m + 1) ((x >>> iN (24 - 8 * ((1 : Nat) : Int))) &&& iN 255)) 62 1 (iN ((m + (1 + 1) : Nat) : Int))) 63 (m + 2) ((x >>> iN (24 - 8 * ((2 : Nat) : Int))) &&& iN 255)) (a := 62) (k := 1) (x := iN ((m + (2 + 1) : Nat) : Int)))
  have e4 : ∀ J, fX12_four_L3 (n + 1) x (iN (24 - 8 * ((3 + 1 : Nat) : Int))) J = some J := by
    intro J
    rw [fX12_four_L3]
    simp (disch := omega) only [iN_lit, iN_lt]
    rw [if_pos (by decide)]
  have go := (((s0.trans s1).trans s2).trans s3).trans (e4 _)
  rw [fX12_four]
  have e24 : fX12_four_L3 (n + 5) x 24 I = fX12_four_L3 (n + 4 + 1) x (iN (24 - 8 * ((0 : Nat) : Int))) I := rfl
  rw [e24, go, Option.bind_some]
  refine ⟨_, rfl, ?_, by omega, by rw [up_eq], ?_⟩
  · exact xf_trans (xf_up (by decide)) (xf_trans (xf_u62 (by decide)) (xf_trans (xf_up (by decide)) (xf_trans (xf_u62 (by decide)) (xf_trans (xf_up (by decide)) (xf_trans (xf_u62 (by decide)) (xf_trans (xf_up (by decide)) (xf_u62 (by decide))))))))
  · intro k hk
    have bi := b4_in x (k := k) (fun q => ⟨(h3 k q).1, (h3 k q).2.1⟩) hk
    refine ⟨bi.1, bi.2, ?_⟩
    rw [up_a (by decide), up_c, up_a (by decide), up_c, up_a (by decide), up_c, up_a (by decide), up_c]
    unfold b4
    by_cases k3 : k = m + 3
    · rw [if_pos k3, if_pos (by omega), k3, iN_of, show ((m + 3 : Nat) : Int) - m = ((3 : Nat) : Int) by omega]
    rw [if_neg k3]
    by_cases k2 : k = m + 2
    · rw [if_pos k2, if_pos (by omega), k2, iN_of, show ((m + 2 : Nat) : Int) - m = ((2 : Nat) : Int) by omega]
    rw [if_neg k2]
    by_cases k1 : k = m + 1
    · rw [if_pos k1, if_pos (by omega), k1, iN_of, show ((m + 1 : Nat) : Int) - m = ((1 : Nat) : Int) by omega]
    rw [if_neg k1]
    by_cases k0 : k = m + 0
    · rw [if_pos k0, if_pos (by omega), k0, iN_of, show ((m + 0 : Nat) : Int) - m = ((0 : Nat) : Int) by omega]
    · rw [if_neg k0, if_neg (by omega)]
      exact (h3 k (by omega)).2.2
theorem rf_Feed (h : rTp B m I) (x1 x2 x3 x4 x5 : Int32) {n : Nat} (hn : 6 ≤ n) :
    (m + 20 ≤ 1600 → ∃ I', fX12_feed n x1 x2 x3 x4 x5 I = some (iN ((m + 20 : Nat) : Int), I') ∧ xf [63, 1001] I I' ∧ rTp (b4 (b4 (b4 (b4 (b4 B m x1) (m + 4) x2) (m + 8) x3) (m + 12) x4) (m + 16) x5) (m + 20) I') ∧ (¬ m + 20 ≤ 1600 → fX12_feed n x1 x2 x3 x4 x5 I = some (iN (-1), I)) := by
  have h1 := h.1
  have h2 := h.2.1
  rw [fX12_feed, h2]
  simp only [iN_lit, iN_neg, iN_add]
  by_cases hm : m + 20 ≤ 1600
  · rw [ite_n (by rw [iN_lt (by omega) (by omega) (by omega) (by omega)]; omega)]
    refine ⟨fun _ => ?_, fun q => absurd hm q⟩
    obtain ⟨I1, a1, a2, a3⟩ := rf_four h (by omega) x1 hn
    obtain ⟨I2, b1, b2, b3⟩ := rf_four a3 (by omega) x2 hn
    obtain ⟨I3, c1, c2, c3⟩ := rf_four b3 (by omega) x3 hn
    obtain ⟨I4, d1, d2, d3⟩ := rf_four c3 (by omega) x4 hn
    obtain ⟨I5, e1, e2, e3⟩ := rf_four d3 (by omega) x5 hn
    rw [a1, Option.bind_some, b1, Option.bind_some, c1, Option.bind_some, d1, Option.bind_some, e1, Option.bind_some, e3.2.1]
    exact ⟨I5, rfl, xf_trans a2 (xf_trans b2 (xf_trans c2 (xf_trans d2 e2))), e3⟩
  · rw [ite_p (by rw [iN_lt (by omega) (by omega) (by omega) (by omega)]; omega)]
    exact ⟨fun q => absurd q hm, fun _ => rfl⟩
theorem cl_four (h : cTp B m I) (hm : m + 4 ≤ 1600) (x : Int32) {n : Nat} (hn : 6 ≤ n) : ∃ I', fX11_putFour n x I = some I' ∧ ex [1, 2] I I' ∧ I' 1 2 = I 1 2 ∧ I' 1 3 = I 1 3 ∧ cTp (b4 B m x) (m + 4) I' := by
  obtain ⟨h1, h2, h3⟩ := h
  have st : ∀ (j n : Nat) (J : (Nat → Nat → Int32)), j < 4 → J 1 1 = iN ((m + j : Nat) : Int) → fX11_putFour_L3 (n + 1) x (iN (24 - 8 * (j : Int))) J = fX11_putFour_L3 n x (iN (24 - 8 * ((j + 1 : Nat) : Int))) (mm_up (mm_up J 2 (m + j) (vp_nar .byte (x >>> iN (24 - 8 * (j : Int))).toInt8.toInt32)) 1 1 (iN ((m + (j + 1) : Nat) : Int))) := by
    intro j n J hj e
    rw [fX11_putFour_L3, e]
    simp only [iN_lit, iN_neg, iN_add]
    rw [iN_31 (by omega) (by omega)]
    simp (disch := omega) only [iN_lt, iN_tn, if_neg, if_pos]
    rw [show (((m + j : Nat) : Int)).toNat = m + j by omega, show (24 - 8 * (j : Int) + -8) = 24 - 8 * ((j + 1 : Nat) : Int) by omega, show ((m + j : Nat) : Int) + 1 = ((m + (j + 1) : Nat) : Int) by omega]
  obtain ⟨n, rfl⟩ : ∃ k, n = k + 5 := ⟨n - 5, by omega⟩
  have s0 := st 0 (n + 4) I (by omega) (by rw [h2]; rfl)
  have s1 := st 1 (n + 3) _ (by omega) (up_eq (M := mm_up I 2 (m + 0) (vp_nar .byte (x >>> iN (24 - 8 * ((0 : Nat) : Int))).toInt8.toInt32)) (a := 1) (k := 1) (x := iN ((m + (0 + 1) : Nat) : Int)))
  have s2 := st 2 (n + 2) _ (by omega) (up_eq (M := mm_up (mm_up (mm_up I 2 (m + 0) (vp_nar .byte (x >>> iN (24 - 8 * ((0 : Nat) : Int))).toInt8.toInt32)) 1 1 (iN ((m + (0 + 1) : Nat) : Int))) 2 (m + 1) (vp_nar .byte (x >>> iN (24 - 8 * ((1 : Nat) : Int))).toInt8.toInt32)) (a := 1) (k := 1) (x := iN ((m + (1 + 1) : Nat) : Int)))
  have s3 := st 3 (n + 1) _ (by omega) (up_eq (M := mm_up (mm_up (mm_up (mm_up (mm_up I 2 (m + 0) (vp_nar .byte (x >>> iN (24 - 8 * ((0 : Nat) : Int))).toInt8.toInt32)) 1 1 (iN ((m + (0 + 1) : Nat) : Int))) 2 (m + 1) (vp_nar .byte (x >>> iN (24 - 8 * ((1 : Nat) : Int))).toInt8.toInt32)) 1 1 (iN ((m + (1 + 1) : Nat) : Int))) 2 (m + 2) (vp_nar .byte (x >>> iN (24 - 8 * ((2 : Nat) : Int))).toInt8.toInt32)) (a := 1) (k := 1) (x := iN ((m + (2 + 1) : Nat) : Int)))
  have e4 : ∀ J, fX11_putFour_L3 (n + 1) x (iN (24 - 8 * ((3 + 1 : Nat) : Int))) J = some J := by
    intro J
    rw [fX11_putFour_L3]
    simp (disch := omega) only [iN_lit, iN_lt]
    rw [if_pos (by decide)]
  have go := (((s0.trans s1).trans s2).trans s3).trans (e4 _)
  rw [fX11_putFour]
  have e24 : fX11_putFour_L3 (n + 5) x 24 I = fX11_putFour_L3 (n + 4 + 1) x (iN (24 - 8 * ((0 : Nat) : Int))) I := rfl
  rw [e24, go, Option.bind_some]
  refine ⟨_, rfl, ?_, ?_, ?_, by omega, by rw [up_eq], ?_⟩
  · exact ex_trans (ex_up (by decide)) (ex_trans (ex_up (by decide)) (ex_trans (ex_up (by decide)) (ex_trans (ex_up (by decide)) (ex_trans (ex_up (by decide)) (ex_trans (ex_up (by decide)) (ex_trans (ex_up (by decide)) (ex_up (by decide))))))))
  · rw [up_k (by decide), up_a (by decide), up_k (by decide), up_a (by decide), up_k (by decide), up_a (by decide), up_k (by decide), up_a (by decide)]
  · rw [up_k (by decide), up_a (by decide), up_k (by decide), up_a (by decide), up_k (by decide), up_a (by decide), up_k (by decide), up_a (by decide)]
  · intro k hk
    have bi := b4_in x (k := k) (fun q => ⟨(h3 k q).1, (h3 k q).2.1⟩) hk
    refine ⟨bi.1, bi.2, ?_⟩
    rw [up_a (by decide), up_c, up_a (by decide), up_c, up_a (by decide), up_c, up_a (by decide), up_c]
    unfold b4
    by_cases k3 : k = m + 3
    · rw [if_pos k3, if_pos (by omega), k3, iN_of, show ((m + 3 : Nat) : Int) - m = ((3 : Nat) : Int) by omega, byte_255]
    rw [if_neg k3]
    by_cases k2 : k = m + 2
    · rw [if_pos k2, if_pos (by omega), k2, iN_of, show ((m + 2 : Nat) : Int) - m = ((2 : Nat) : Int) by omega, byte_255]
    rw [if_neg k2]
    by_cases k1 : k = m + 1
    · rw [if_pos k1, if_pos (by omega), k1, iN_of, show ((m + 1 : Nat) : Int) - m = ((1 : Nat) : Int) by omega, byte_255]
    rw [if_neg k1]
    by_cases k0 : k = m + 0
    · rw [if_pos k0, if_pos (by omega), k0, iN_of, show ((m + 0 : Nat) : Int) - m = ((0 : Nat) : Int) by omega, byte_255]
    · rw [if_neg k0, if_neg (by omega)]
      exact (h3 k (by omega)).2.2
theorem cl_Feed (h : cTp B m I) (x1 x2 x3 x4 x5 : Int32) {n : Nat} (hn : 6 ≤ n) :
    (m + 20 ≤ 1600 → ∃ I', fX11_feed n x1 x2 x3 x4 x5 I = some (iN ((m + 20 : Nat) : Int), I') ∧ ex [1, 2] I I' ∧ I' 1 2 = I 1 2 ∧ I' 1 3 = I 1 3 ∧ cTp (b4 (b4 (b4 (b4 (b4 B m x1) (m + 4) x2) (m + 8) x3) (m + 12) x4) (m + 16) x5) (m + 20) I') ∧ (¬ m + 20 ≤ 1600 → fX11_feed n x1 x2 x3 x4 x5 I = some (iN (-1), I)) := by
  have h1 := h.1
  have h2 := h.2.1
  rw [fX11_feed, h2]
  simp only [iN_lit, iN_neg]
  by_cases hm : m + 20 ≤ 1600
  · rw [ite_n (by rw [iN_lt (by omega) (by omega) (by omega) (by omega)]; omega)]
    refine ⟨fun _ => ?_, fun q => absurd hm q⟩
    obtain ⟨I1, a1, a2, p1, r1, a3⟩ := cl_four h (by omega) x1 hn
    obtain ⟨I2, b1, b2, p2, r2, b3⟩ := cl_four a3 (by omega) x2 hn
    obtain ⟨I3, c1, c2, p3, r3, c3⟩ := cl_four b3 (by omega) x3 hn
    obtain ⟨I4, d1, d2, p4, r4, d3⟩ := cl_four c3 (by omega) x4 hn
    obtain ⟨I5, e1, e2, p5, r5, e3⟩ := cl_four d3 (by omega) x5 hn
    rw [a1, Option.bind_some, b1, Option.bind_some, c1, Option.bind_some, d1, Option.bind_some, e1, Option.bind_some, e3.2.1]
    exact ⟨I5, rfl, ex_trans a2 (ex_trans b2 (ex_trans c2 (ex_trans d2 e2))), by rw [p5, p4, p3, p2, p1], by rw [r5, r4, r3, r2, r1], e3⟩
  · rw [ite_p (by rw [iN_lt (by omega) (by omega) (by omega) (by omega)]; omega)]
    exact ⟨fun q => absurd q hm, fun _ => rfl⟩
theorem rf_End (h : rTp B m I) {x : Int} (hx : -2147483648 ≤ x ∧ x < 2147483648) : (0 ≤ x ∧ x ≤ m → fX12_end (iN x) I = (iN x, mm_up I 62 1 (iN x)) ∧ rTp B x.toNat (mm_up I 62 1 (iN x))) ∧ (¬ (0 ≤ x ∧ x ≤ m) → fX12_end (iN x) I = (iN (-1), I)) := by
  obtain ⟨h1, h2, h3⟩ := h
  rw [fX12_end, h2]
  simp (disch := omega) only [iN_lit, iN_neg, iN_lt]
  by_cases x0 : x < 0
  · rw [if_pos x0]; exact ⟨fun q => by omega, fun _ => rfl⟩
  · rw [if_neg x0]
    by_cases x1 : m < x
    · rw [if_pos x1]; exact ⟨fun q => by omega, fun _ => rfl⟩
    · rw [if_neg x1]
      refine ⟨fun _ => ⟨rfl, by omega, by rw [up_eq]; congr 1; omega, ?_⟩, fun q => absurd ⟨by omega, by omega⟩ q⟩
      intro k hk
      rw [up_a (by decide)]
      exact h3 k (by omega)
theorem cl_End (h : cTp B m I) {x : Int} (hx : -2147483648 ≤ x ∧ x < 2147483648) : (0 ≤ x ∧ x ≤ m → fX11_end (iN x) I = (iN x, mm_up I 1 1 (iN x)) ∧ cTp B x.toNat (mm_up I 1 1 (iN x))) ∧ (¬ (0 ≤ x ∧ x ≤ m) → fX11_end (iN x) I = (iN (-1), I)) := by
  obtain ⟨h1, h2, h3⟩ := h
  rw [fX11_end, h2]
  simp (disch := omega) only [iN_lit, iN_neg, iN_lt]
  by_cases x0 : x < 0
  · rw [if_pos x0]; exact ⟨fun q => by omega, fun _ => rfl⟩
  · rw [if_neg x0]
    by_cases x1 : m < x
    · rw [if_pos x1]; exact ⟨fun q => by omega, fun _ => rfl⟩
    · rw [if_neg x1]
      refine ⟨fun _ => ⟨rfl, by omega, by rw [up_eq]; congr 1; omega, ?_⟩, fun q => absurd ⟨by omega, by omega⟩ q⟩
      intro k hk
      rw [up_a (by decide)]
      exact h3 k (by omega)
theorem Fault (e2 : I 62 2 = I 1 2) (e3 : I 62 3 = I 1 3) (x : Int32) : fX12_fault x I = fX11_fault x I := by
  rw [fX12_fault, fX11_fault, e2, e3]
theorem ite_iN {x k c d : Int} {a b : Int32} {dd : Decidable (iN x = iN k)} (hx : -2147483648 ≤ x ∧ x < 2147483648) (hk : 0 ≤ k ∧ k < 100) (e1 : a = iN c) (e2 : b = iN d) : @ite _ (iN x = iN k) dd a b = iN (if x = k then c else d) := by
  by_cases e : x = k
  · rw [ite_p (by rw [e]), if_pos e, e1]
  · rw [ite_n (by rw [iN_eq (by omega) (by omega) (by omega) (by omega)]; exact e), if_neg e, e2]
theorem rf_About (h : rOK V S I) {Ls : Nat → Int → Int} {a u : Nat} (hU : rU Ls a u I) (hW : rW Wt N T I) (hT : rTp B m I) {l : List Int} (hl : rl l I) {x : Int} (hx : -2147483648 ≤ x ∧ x < 2147483648) : fX12_about (iN x) I = iN (aAb V S a u N T m l.length x) := by
  obtain ⟨⟨v0, v1, v2, v3, v4, v5, v6⟩, w1, w2, w3, w4, w5, w6, w7, w8⟩ := h.2.2.1
  have a27 : I 84 27 = iN (S 27) := h.2.2.2 27 (by omega) (by omega)
  rw [fX12_about]
  simp only [iN_lit, iN_neg]
  exact ite_iN hx (by decide) v2 (ite_iN hx (by decide) v3 (ite_iN hx (by decide) v0 (ite_iN hx (by decide) v1 (ite_iN hx (by decide) v4 (ite_iN hx (by decide) a27 (ite_iN hx (by decide) hU.2.1 (ite_iN hx (by decide) hU.2.2.1 (ite_iN hx (by decide) hW.1 (ite_iN hx (by decide) hW.2.1 (ite_iN hx (by decide) hT.2.1 (ite_iN hx (by decide) v6 (ite_iN hx (by decide) hl.1 rfl))))))))))))
theorem cl_About (h : cOK V S r I) {Ls : Nat → Int → Int} {a u : Nat} (hU : cU V Ls a u I) (hW : cW Wt N T I) (hT : cTp B m I) {l : List Int} (hl : cl l I) {x : Int} (hx : -2147483648 ≤ x ∧ x < 2147483648) : fX11_about (iN x) I r = iN (aAb V S a u N T m l.length x) := by
  obtain ⟨⟨v0, v1, v2, v3, v4, v5, v6⟩, -⟩ := h.2.2.1
  obtain ⟨-, q, -, -, u1, u2, -⟩ := hU
  rw [fX11_about]
  simp only [iN_lit, iN_neg]
  exact ite_iN hx (by decide) v2 (ite_iN hx (by decide) v3 (ite_iN hx (by decide) v0 (ite_iN hx (by decide) v1 (ite_iN hx (by decide) v4 (ite_iN hx (by decide) (cl_seed h.2.2.2) (ite_iN hx (by decide) u1 (ite_iN hx (by decide) u2 (ite_iN hx (by decide) hW.1 (ite_iN hx (by decide) hW.2.1 (ite_iN hx (by decide) hT.2.1 (ite_iN hx (by decide) v6 (ite_iN hx (by decide) hl.1 rfl))))))))))))
theorem rf_Passed (h : rOK V S I) (hW : wfW V Wt N T) (hc : rW Wt N T I) {y z q : Int} (hy : -2147483648 ≤ y ∧ y < 2147483648) (hz : -2147483648 ≤ z ∧ z < 2147483648) (hq : q = 0 ∨ q = 1) :
    ((0 ≤ z ∧ z ≤ 7) ∧ kSe V N y → ∃ I', fX12_passed (iN y) (iN z) (iN q) I = some (iN N, I') ∧ xf [96, 97, 98, 99, 100, 101, 1075] I I' ∧ rW (Wadd Wt N (wv 0 y z q T)) (N + 1) T I') ∧
    (¬ ((0 ≤ z ∧ z ≤ 7) ∧ kSe V N y) → fX12_passed (iN y) (iN z) (iN q) I = some (iN (-1), I)) := by
  have s := rf_see h hW hc (x := 0) (z := z) hy hq
  rw [fX12_passed]
  simp only [iN_lit, iN_neg]
  rw [rf_in hz (by omega) (by omega)]
  by_cases k : 0 ≤ z ∧ z ≤ 7
  · rw [if_pos k, ite_n n10]
    refine ⟨fun q => ?_, fun q => ?_⟩
    · obtain ⟨I', g1, g2, g3⟩ := s.1 q.2
      rw [g1, Option.bind_some]
      exact ⟨I', rfl, g2, g3⟩
    · rw [s.2 (fun q' => q ⟨k, q'⟩), Option.bind_some]
  · rw [if_neg k, ite_p rfl]
    exact ⟨fun q => absurd q.1 k, fun _ => rfl⟩
theorem rf_Felt (h : rOK V S I) (hW : wfW V Wt N T) (hc : rW Wt N T I) {y z q : Int} (hy : -2147483648 ≤ y ∧ y < 2147483648) (hz : -2147483648 ≤ z ∧ z < 2147483648) (hq : q = 0 ∨ q = 1) :
    ((0 ≤ z ∧ z ≤ 99) ∧ kSe V N y → ∃ I', fX12_felt (iN y) (iN z) (iN q) I = some (iN N, I') ∧ xf [96, 97, 98, 99, 100, 101, 1075] I I' ∧ rW (Wadd Wt N (wv 1 y z q T)) (N + 1) T I') ∧
    (¬ ((0 ≤ z ∧ z ≤ 99) ∧ kSe V N y) → fX12_felt (iN y) (iN z) (iN q) I = some (iN (-1), I)) := by
  have s := rf_see h hW hc (x := 1) (z := z) hy hq
  rw [fX12_felt]
  simp only [iN_lit, iN_neg]
  rw [rf_in hz (by omega) (by omega)]
  by_cases k : 0 ≤ z ∧ z ≤ 99
  · rw [if_pos k, ite_n n10]
    refine ⟨fun q => ?_, fun q => ?_⟩
    · obtain ⟨I', g1, g2, g3⟩ := s.1 q.2
      rw [g1, Option.bind_some]
      exact ⟨I', rfl, g2, g3⟩
    · rw [s.2 (fun q' => q ⟨k, q'⟩), Option.bind_some]
  · rw [if_neg k, ite_p rfl]
    exact ⟨fun q => absurd q.1 k, fun _ => rfl⟩
theorem cl_Passed (h : cOK V S r I) (hW : wfW V Wt N T) (hc : cW Wt N T I) {y z q : Int} (hy : -2147483648 ≤ y ∧ y < 2147483648) (hz : -2147483648 ≤ z ∧ z < 2147483648) (hq : q = 0 ∨ q = 1) :
    ((0 ≤ z ∧ z ≤ 7) ∧ kSe V N y → ∃ I', fX11_passed (iN y) (iN z) (iN q) I r = (iN N, I') ∧ ex [54, 55] I I' ∧ I' 54 5 = I 54 5 ∧ cW (Wadd Wt N (wv 0 y z q T)) (N + 1) T I') ∧
    (¬ ((0 ≤ z ∧ z ≤ 7) ∧ kSe V N y) → fX11_passed (iN y) (iN z) (iN q) I r = (iN (-1), I)) := by
  have s := cl_tell h hW hc (x := 0) (z := z) hy hq
  rw [fX11_passed]
  simp (disch := omega) only [iN_lit, iN_neg, iN_lt]
  by_cases k0 : z < 0
  · rw [if_pos k0]; exact ⟨fun q => by omega, fun _ => rfl⟩
  by_cases k1 : 7 < z
  · rw [if_neg k0, if_pos k1]; exact ⟨fun q => by omega, fun _ => rfl⟩
  · rw [if_neg k0, if_neg k1]
    refine ⟨fun q => ?_, fun q => ?_⟩
    · obtain ⟨I', g1, g2⟩ := s.1 q.2
      rw [g1]
      exact ⟨I', rfl, g2⟩
    · rw [s.2 (fun q' => q ⟨by omega, q'⟩)]
theorem cl_Felt (h : cOK V S r I) (hW : wfW V Wt N T) (hc : cW Wt N T I) {y z q : Int} (hy : -2147483648 ≤ y ∧ y < 2147483648) (hz : -2147483648 ≤ z ∧ z < 2147483648) (hq : q = 0 ∨ q = 1) :
    ((0 ≤ z ∧ z ≤ 99) ∧ kSe V N y → ∃ I', fX11_felt (iN y) (iN z) (iN q) I r = (iN N, I') ∧ ex [54, 55] I I' ∧ I' 54 5 = I 54 5 ∧ cW (Wadd Wt N (wv 1 y z q T)) (N + 1) T I') ∧
    (¬ ((0 ≤ z ∧ z ≤ 99) ∧ kSe V N y) → fX11_felt (iN y) (iN z) (iN q) I r = (iN (-1), I)) := by
  have s := cl_tell h hW hc (x := 1) (z := z) hy hq
  rw [fX11_felt]
  simp (disch := omega) only [iN_lit, iN_neg, iN_lt]
  by_cases k0 : z < 0
  · rw [if_pos k0]; exact ⟨fun q => by omega, fun _ => rfl⟩
  by_cases k1 : 99 < z
  · rw [if_neg k0, if_pos k1]; exact ⟨fun q => by omega, fun _ => rfl⟩
  · rw [if_neg k0, if_neg k1]
    refine ⟨fun q => ?_, fun q => ?_⟩
    · obtain ⟨I', g1, g2⟩ := s.1 q.2
      rw [g1]
      exact ⟨I', rfl, g2⟩
    · rw [s.2 (fun q' => q ⟨by omega, q'⟩)]
theorem rf_Untell (hW : wfW V Wt N T) (hc : rW Wt N T I) {x : Int} (hx : -2147483648 ≤ x ∧ x < 2147483648) :
    (kUn Wt N x → ∃ I', fX12_untell (iN x) I = some (iN 1, I') ∧ ex [100] I I' ∧ rW (Wun Wt x T) N T I') ∧ (¬ kUn Wt N x → fX12_untell (iN x) I = some (iN 0, I)) := by
  obtain ⟨h1, h2, h3⟩ := hW
  obtain ⟨c1, c2, c3, c4, c5, c6, c7, c8⟩ := hc
  rw [fX12_untell, c1, c2]
  simp only [iN_lit, iN_neg, iN_sub]
  rw [rf_in hx (by omega) (by omega)]
  unfold kUn
  by_cases k : 0 ≤ x ∧ x ≤ N - 1
  · rw [if_pos k, ite_n n10]
    have w5 := (h3 x k.1 (by omega)).2.2.2.2.2
    have b := c8 x k.1 (by omega)
    simp (disch := omega) only [iN_tn, b, iN_lt, if_neg]
    by_cases e : Wt 5 x < 0
    · rw [if_pos e]
      refine ⟨fun _ => ⟨_, rfl, ex_up (by decide), ?_⟩, fun q => absurd ⟨by omega, e⟩ q⟩
      exact ⟨by rw [up_a (by decide)]; exact c1, by rw [up_a (by decide)]; exact c2, hr_a c3 (by decide), hr_a c4 (by decide), hr_a c5 (by decide), hr_a c6 (by decide), hr_a c7 (by decide), hr_up c8 k.1 T⟩
    · rw [if_neg e]
      exact ⟨fun q => absurd q.2 e, fun _ => rfl⟩
  · rw [if_neg k, ite_p rfl]
    exact ⟨fun q => by omega, fun _ => rfl⟩
theorem cl_Untell (hW : wfW V Wt N T) (hc : cW Wt N T I) {x : Int} (hx : -2147483648 ≤ x ∧ x < 2147483648) :
    (kUn Wt N x → ∃ I', fX11_untell (iN x) I = some (iN 1, I') ∧ ex [55] I I' ∧ cW (Wun Wt x T) N T I') ∧ (¬ kUn Wt N x → fX11_untell (iN x) I = some (iN 0, I)) := by
  obtain ⟨h1, h2, h3⟩ := hW
  obtain ⟨c1, c2, c3⟩ := hc
  have tb : (kUn Wt N x → ∃ I', fX10_takeBack (iN x) I = (iN 1, I') ∧ ex [55] I I' ∧ cW (Wun Wt x T) N T I') ∧ (¬ kUn Wt N x → fX10_takeBack (iN x) I = (iN 0, I)) := by
    rw [fX10_takeBack, c1, c2]
    simp only [iN_lit, iN_neg]
    unfold kUn
    by_cases k0 : x < 0
    · rw [ite_p (by rw [iN_lt (by omega) (by omega) (by omega) (by omega)]; exact k0)]
      exact ⟨fun q => by omega, fun _ => rfl⟩
    rw [ite_n (by rw [iN_lt (by omega) (by omega) (by omega) (by omega)]; exact k0)]
    by_cases k1 : x < N
    · rw [ite_p (by rw [iN_lt (by omega) (by omega) (by omega) (by omega)]; exact k1)]
      have w5 := (h3 x (by omega) k1).2.2.2.2.2
      have b : fX10_get (iN x) (iN 5) I = iN (Wt 5 x) := by
        rw [fX10_get]
        simp only [iN_lit, iN_mul, iN_add]
        rw [iN_pick (by omega) (by omega) (by omega)]
        exact c3 x 5 (by omega) k1 (by omega)
      rw [b, cl_wput (by omega) (by omega)]
      by_cases e : Wt 5 x < 0
      · rw [ite_p (by rw [iN_eq (by omega) (by omega) (by omega) (by omega)]; omega)]
        refine ⟨fun _ => ⟨_, rfl, ex_up (by decide), by rw [up_a (by decide)]; exact c1, by rw [up_a (by decide)]; exact c2, ?_⟩, fun q => absurd ⟨by omega, e⟩ q⟩
        intro j w j0 j1 w1
        rw [up_c]
        unfold Wun ud
        by_cases q : j = x ∧ w = 5
        · rw [if_pos (by omega), if_pos q.2, if_pos q.1]
        · rw [if_neg (by omega)]
          by_cases q5 : w = 5
          · rw [if_pos q5, if_neg (by omega), ← q5]; exact c3 j w j0 j1 w1
          · rw [if_neg q5]; exact c3 j w j0 j1 w1
      · rw [ite_n (by rw [iN_eq (by omega) (by omega) (by omega) (by omega)]; omega)]
        exact ⟨fun q => absurd q.2 e, fun _ => rfl⟩
    · rw [ite_n (by rw [iN_lt (by omega) (by omega) (by omega) (by omega)]; exact k1)]
      exact ⟨fun q => by omega, fun _ => rfl⟩
  rw [fX11_untell]
  simp only [iN_lit]
  refine ⟨fun q => ?_, fun q => ?_⟩
  · obtain ⟨I', g1, g2⟩ := tb.1 q
    rw [g1]
    rw [ite_p (Or.inr rfl)]
    exact ⟨I', rfl, g2⟩
  · rw [tb.2 q, ite_p (Or.inl rfl)]
theorem rf_Later (hW : wfW V Wt N T) (hc : rW Wt N T I) {x : Int} (hx : -2147483648 ≤ x ∧ x < 2147483648) :
    (kLa T x → fX12_later (iN x) I = (iN (T + x), mm_up I 62 76 (iN (T + x))) ∧ rW Wt N (T + x) (mm_up I 62 76 (iN (T + x)))) ∧ (¬ kLa T x → fX12_later (iN x) I = (iN (-1), I)) := by
  obtain ⟨h1, h2, h3⟩ := hW
  obtain ⟨c1, c2, c3, c4, c5, c6, c7, c8⟩ := hc
  rw [fX12_later, c2]
  simp only [iN_lit, iN_neg, iN_add]
  unfold kLa
  by_cases k0 : x < 0
  · rw [ite_p (by rw [iN_lt (by omega) (by omega) (by omega) (by omega)]; exact k0)]
    exact ⟨fun q => by omega, fun _ => rfl⟩
  rw [ite_n (by rw [iN_lt (by omega) (by omega) (by omega) (by omega)]; exact k0)]
  by_cases k1 : 1000 < x
  · rw [ite_p (by rw [iN_lt (by omega) (by omega) (by omega) (by omega)]; exact k1)]
    exact ⟨fun q => by omega, fun _ => rfl⟩
  rw [ite_n (by rw [iN_lt (by omega) (by omega) (by omega) (by omega)]; exact k1)]
  by_cases k2 : 100000 < T + x
  · rw [ite_p (by rw [iN_lt (by omega) (by omega) (by omega) (by omega)]; exact k2)]
    exact ⟨fun q => by omega, fun _ => rfl⟩
  rw [ite_n (by rw [iN_lt (by omega) (by omega) (by omega) (by omega)]; exact k2)]
  refine ⟨fun _ => ⟨rfl, by rw [up_k (by decide)]; exact c1, by rw [up_eq], hr_a c3 (by decide), hr_a c4 (by decide), hr_a c5 (by decide), hr_a c6 (by decide), hr_a c7 (by decide), hr_a c8 (by decide)⟩, fun q => absurd ⟨by omega, by omega⟩ q⟩
theorem cl_Later (hW : wfW V Wt N T) (hc : cW Wt N T I) {x : Int} (hx : -2147483648 ≤ x ∧ x < 2147483648) :
    (kLa T x → fX11_later (iN x) I = (iN (T + x), mm_up I 54 10 (iN (T + x))) ∧ cW Wt N (T + x) (mm_up I 54 10 (iN (T + x)))) ∧ (¬ kLa T x → fX11_later (iN x) I = (iN (-1), I)) := by
  obtain ⟨h1, h2, h3⟩ := hW
  obtain ⟨c1, c2, c3⟩ := hc
  rw [fX11_later, fX10_goOn, c2]
  simp only [iN_lit, iN_neg, iN_add]
  unfold kLa
  by_cases k0 : x < 0
  · rw [ite_p (by rw [iN_lt (by omega) (by omega) (by omega) (by omega)]; exact k0)]
    exact ⟨fun q => by omega, fun _ => rfl⟩
  rw [ite_n (by rw [iN_lt (by omega) (by omega) (by omega) (by omega)]; exact k0)]
  by_cases k1 : 1000 < x
  · rw [ite_p (by rw [iN_lt (by omega) (by omega) (by omega) (by omega)]; exact k1)]
    exact ⟨fun q => by omega, fun _ => rfl⟩
  rw [ite_n (by rw [iN_lt (by omega) (by omega) (by omega) (by omega)]; exact k1)]
  by_cases k2 : 100000 < T + x
  · rw [ite_p (by rw [iN_lt (by omega) (by omega) (by omega) (by omega)]; exact k2)]
    exact ⟨fun q => by omega, fun _ => rfl⟩
  rw [ite_n (by rw [iN_lt (by omega) (by omega) (by omega) (by omega)]; exact k2)]
  refine ⟨fun _ => ⟨rfl, by rw [up_k (by decide)]; exact c1, by rw [up_eq], fun j w j0 j1 w1 => by rw [up_a (by decide)]; exact c3 j w j0 j1 w1⟩, fun q => absurd ⟨by omega, by omega⟩ q⟩
end TPE
