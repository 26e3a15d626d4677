/-! The widest load, in both. -/
theorem nib_or : ∀ (n : Fin 7) (m : Fin 128), m.val < 2 ^ n.val → iN (m.val : Int) ||| iN 1 <<< iN (n.val : Int) = iN ((m.val + 2 ^ n.val : Nat) : Int) := by decide +kernel
theorem nib_sub : ∀ (k m : Fin 128), iN (k.val : Int) &&& (iN (m.val : Int) ^^^ iN (-1)) = iN 0 → k.val ≤ m.val := by decide +kernel
theorem nib_all : ∀ n : Fin 8, iN 1 <<< iN (n.val : Int) - iN 1 = iN ((2 ^ n.val - 1 : Nat) : Int) := by decide
theorem lds_nat (S : Int → Int) (w : Int) (n : Nat) (hn : n ≤ 7) : ∃ m : Nat, m < 2 ^ n ∧ lds S w n = iN m := by
  induction n with
  | zero => exact ⟨0, by decide, rfl⟩
  | succ n ih =>
    obtain ⟨m, h1, h2⟩ := ih (by omega)
    have h3 : (2 : Nat) ^ n ≤ 64 := Nat.le_trans (Nat.pow_le_pow_right (by omega) (by omega : n ≤ 6)) (by decide)
    have h4 : (2 : Nat) ^ (n + 1) = 2 ^ n + 2 ^ n := by rw [Nat.pow_succ]; omega
    rw [lds, h2]
    split
    · have := nib_or ⟨n, by omega⟩ ⟨m, by omega⟩ h1
      exact ⟨m + 2 ^ n, by omega, this⟩
    · exact ⟨m, by omega, or_0 _⟩
/-- the widest set of loads after the sets up to k -/
def wst (V : (Nat → Int → Int)) (m : Int32) (B W : Int) (k : Nat) : Nat := match k with
  | 0 => 0
  | k + 1 => if iN ((k + 1 : Nat) : Int) &&& (m ^^^ iN (-1)) = iN 0 ∧ B + wid V (iN ((k + 1 : Nat) : Int)) (V 0 3).toNat ≤ W ∧ wid V (iN (wst V m B W k : Int)) (V 0 3).toNat < wid V (iN ((k + 1 : Nat) : Int)) (V 0 3).toNat then k + 1 else wst V m B W k
theorem wst_in (V : (Nat → Int → Int)) (m : Int32) (B W : Int) (k : Nat) : wst V m B W k ≤ k := by
  induction k with
  | zero => exact Nat.le_refl _
  | succ k ih => rw [wst]; split <;> omega
theorem wst_more (V : (Nat → Int → Int)) {m : Nat} (hm : m < 128) (B W : Int) (k : Nat) (hk : m + k < 128) : wst V (iN m) B W (m + k) = wst V (iN m) B W m := by
  induction k with
  | zero => rfl
  | succ k ih =>
    rw [show m + (k + 1) = m + k + 1 by omega, wst, if_neg, ih (by omega)]
    intro hh
    have := nib_sub ⟨m + k + 1, by omega⟩ ⟨m, hm⟩ hh.1
    simp only at this
    omega
def bnk (S : Int → Int) (b : Int) : Int := if S (4 + b) = 0 then -1 else -2
def aWs (V : (Nat → Int → Int)) (S : Int → Int) (b : Int) : Nat := wst V (lds S (bnk S b) (V 0 3).toNat) (burd V S b) (V 3 b) (2 ^ (V 0 3).toNat - 1)
def aWi (V : (Nat → Int → Int)) (S : Int → Int) (b w : Int) : Int := if (0 ≤ b ∧ b < V 0 2) ∧ (S (4 + b) = 0 ∨ S (4 + b) = V 0 1) ∧ 0 ≤ w ∧ w ≤ 1 then (if w = 0 then wid V (iN (aWs V S b : Nat)) (V 0 3).toNat else (aWs V S b : Nat)) else -1
section WID
variable {V : (Nat → Int → Int)} {S : Int → Int} {r : Nat} {I : (Nat → Nat → Int32)}
theorem cl_bank (h : cOK V S r I) {b : Int} (hb1 : 0 ≤ b) (hb2 : b < V 0 2) : fX7_isAtBank (iN b) I r = if S (4 + b) = 0 ∨ S (4 + b) = V 0 1 then iN 1 else iN 0 := by
  have hu := h.1.1
  have hs := h.2.1.1 b hb1 hb2
  rw [fX7_isAtBank, cl_row h.1 h.2.2.2 hb1 hb2, h.2.2.1.1.2.1]
  simp (disch := omega) only [iN_lit, iN_eq]
  by_cases e : S (4 + b) = 0
  · rw [if_pos e, if_pos (Or.inl e)]
  · rw [if_neg e]
    by_cases e2 : S (4 + b) = V 0 1
    · rw [if_pos e2, if_pos (Or.inr e2)]
    · rw [if_neg e2, if_neg (by omega)]
theorem rf_bank (h : rOK V S I) {b : Int} (hb1 : 0 ≤ b) (hb2 : b < V 0 2) : fX12_isAtBank (iN b) I = some (if S (4 + b) = 0 ∨ S (4 + b) = V 0 1 then iN 1 else iN 0) := by
  have hu := h.1.1
  have hs := h.2.1.1 b hb1 hb2
  have h84 := h.2.2.2 (4 + b) (by omega) (by omega)
  rw [fX12_isAtBank]
  simp (disch := omega) only [iN_lit, iN_add, iN_lt, iN_tn, if_neg, h84, h.2.2.1.1.2.1, iN_eq]
  by_cases e : S (4 + b) = 0
  · rw [if_pos e, if_pos (Or.inl e)]
  · rw [if_neg e]
    by_cases e2 : S (4 + b) = V 0 1
    · rw [if_pos e2, if_pos (Or.inr e2)]
    · rw [if_neg e2, if_neg (by omega)]
theorem cl_bk (h : cOK V S r I) {b : Int} (hb1 : 0 ≤ b) (hb2 : b < V 0 2) : fX7_bankOf (iN b) I = iN (bnk S b) := by
  have hu := h.1.1
  have hs := h.2.1.1 b hb1 hb2
  rw [fX7_bankOf, cl_row h.1 h.2.2.2 hb1 hb2]
  simp (disch := omega) only [iN_lit, iN_neg, iN_eq]
  unfold bnk
  split <;> rfl
theorem rf_bk {x : Int} (h1 : 0 ≤ x ∧ x < 1000) : fX12_bankOf (iN x) = iN (if x = 0 then -1 else -2) := by
  rw [fX12_bankOf]
  simp (disch := omega) only [iN_lit, iN_neg, iN_eq]
  split <;> rfl
theorem pw2 {n : Nat} (h : n ≤ 7) : 1 ≤ 2 ^ n ∧ 2 ^ n ≤ 128 := ⟨Nat.one_le_two_pow, Nat.le_trans (Nat.pow_le_pow_right (by omega) h) (by decide)⟩
theorem cl_wset (h : cOK V S r I) {b : Int} (hb1 : 0 ≤ b) (hb2 : b < V 0 2) {n : Nat} (hn : 170 ≤ n) : fX9_widestSet n (iN b) I r = some (iN (aWs V S b : Nat)) := by
  have hu := h.1.1
  have hs := h.2.1.1 b hb1 hb2
  have hbe := h.1.2.2.2.1 b hb1 hb2
  have hB := bur_lo h.1 (S := S) (b := b) (V 0 3).toNat (by omega)
  have hv := h.2.2.1.1.2.2.2.1
  have p2 := pw2 (n := (V 0 3).toNat) (by omega)
  have hall : fX7_allLoads I r = iN ((2 ^ (V 0 3).toNat - 1 : Nat) : Int) := by
    rw [fX7_allLoads, hv]
    simp (disch := omega) only [iN_lit, iN_31]
    have := nib_all ⟨(V 0 3).toNat, by omega⟩
    simp only at this
    rw [show (((V 0 3).toNat : Nat) : Int) = V 0 3 by omega] at this
    exact this
  have hbk : -2 ≤ bnk S b ∧ bnk S b ≤ -1 := by unfold bnk; split <;> omega
  rw [fX9_widestSet, cl_bk h hb1 hb2, cl_loads h (by omega) (by omega), Option.bind_some, cl_burden h.1 h.2.2.1 h.2.2.2 (by omega) (wfS_pl h.2.1 h.1) (by omega), Option.bind_some, cl_wd h hb1 hb2]
  simp only [iN_lit, iN_sub]
  unfold aWs
  have hBd : burd V S b = bur V S b (V 0 3).toNat := rfl
  rw [← hBd] at hB
  generalize lds S (bnk S b) (V 0 3).toNat = m
  obtain ⟨n', s, q1, q2, q3, q4⟩ := loop (fun n k (s : Nat × Int) => fX9_widestSet_L46 n m (iN (V 3 b - burd V S b)) (iN s.1) (iN s.2) (iN (k + 1)) I r) 20 (P := ((2 ^ (V 0 3).toNat - 1 : Nat) : Int)) (fun k s => s.1 = wst V m (burd V S b) (V 3 b) k.toNat ∧ s.2 = wid V (iN (s.1 : Int)) (V 0 3).toNat)
    (by
      intro n k s hn k0 k1 ⟨hs1, hs2⟩
      have w1 := wid_in h.1 (iN (k + 1)) (V 0 3).toNat (by omega)
      have w2 := wid_in h.1 (iN (s.1 : Int)) (V 0 3).toNat (by omega)
      have unf := fX9_widestSet_L46.eq_def (n + 1) m (iN (V 3 b - burd V S b)) (iN s.1) (iN s.2) (iN (k + 1)) I r
      dsimp only at unf
      rw [hall, cl_wide h _ (by omega)] at unf
      simp (disch := omega) only [iN_lit, iN_add, iN_sub, iN_mul, iN_neg, iN_lt, iN_eq, iN_tn, if_neg, Option.bind_some] at unf
      have ek : ((k.toNat + 1 : Nat) : Int) = k + 1 := by omega
      rw [show (k + 1).toNat = k.toNat + 1 by omega, wst, ← hs1, ek]
      by_cases e1 : iN (k + 1) &&& (m ^^^ iN (-1)) = iN 0
      · rw [ite_p e1] at unf
        by_cases e2 : V 3 b - burd V S b < wid V (iN (k + 1)) (V 0 3).toNat
        · rw [ite_p e2] at unf
          rw [if_neg (by omega)]
          exact ⟨s, unf, rfl, hs2⟩
        · rw [ite_n e2] at unf
          by_cases e3 : s.2 < wid V (iN (k + 1)) (V 0 3).toNat
          · rw [ite_p e3] at unf
            rw [if_pos ⟨e1, by omega, by omega⟩]
            refine ⟨(k.toNat + 1, wid V (iN (k + 1)) (V 0 3).toNat), ?_, rfl, ?_⟩
            · show _ = fX9_widestSet_L46 n m _ (iN ((k.toNat + 1 : Nat) : Int)) _ _ _ _
              rw [ek]; exact unf
            · show _ = wid V (iN ((k.toNat + 1 : Nat) : Int)) _
              rw [ek]
          · rw [ite_n e3] at unf
            rw [if_neg (by omega)]
            exact ⟨s, unf, rfl, hs2⟩
      · rw [ite_n e1] at unf
        rw [if_neg (fun hh => e1 hh.1)]
        by_cases e2 : V 3 b - burd V S b < 0
        · rw [ite_p e2] at unf
          exact ⟨s, unf, rfl, hs2⟩
        · rw [ite_n e2] at unf
          exact ⟨s, unf, rfl, hs2⟩) (2 ^ (V 0 3).toNat - 1) n 0 (0, 0) (by omega) (by omega) ⟨rfl, by
        show 0 = wid V (iN 0) _
        have : ∀ k, wid V (iN 0) k = 0 := by intro k; induction k with | zero => rfl | succ k ih => rw [wid, ih, bit_0]; rfl
        rw [this]⟩ (by omega)
  have q2' : fX9_widestSet_L46 n m (iN (V 3 b - burd V S b)) (iN 0) (iN 0) (iN 1) I r = fX9_widestSet_L46 n' m (iN (V 3 b - burd V S b)) (iN s.1) (iN s.2) (iN (((2 ^ (V 0 3).toNat - 1 : Nat) : Int) + 1)) I r := q2
  rw [q2']
  obtain ⟨n', rfl⟩ : ∃ m, n' = m + 1 := ⟨n' - 1, by omega⟩
  rw [fX9_widestSet_L46, hall, ite_p (by rw [iN_lt (by omega) (by omega) (by omega) (by omega)]; omega), Option.bind_some, q3]
  rw [show (((2 ^ (V 0 3).toNat - 1 : Nat) : Int)).toNat = 2 ^ (V 0 3).toNat - 1 by omega]
theorem cl_Widest (h : cOK V S r I) {b w : Int} (hb : -2147483648 ≤ b ∧ b < 2147483648) (hw : -2147483648 ≤ w ∧ w < 2147483648) {n : Nat} (hn : 200 ≤ n) : fX11_widest n (iN b) (iN w) I r = some (iN (aWi V S b w)) := by
  have hu := h.1.1
  rw [fX11_widest]
  simp (disch := omega) only [iN_lit, iN_neg, iN_lt]
  unfold aWi
  by_cases w0 : w < 0
  · rw [if_pos w0, if_neg (by omega)]
  · rw [if_neg w0]
    by_cases w1 : 1 < w
    · rw [if_pos w1, if_neg (by omega)]
    · rw [if_neg w1, cl_board h hb]
      by_cases hb' : 0 ≤ b ∧ b < V 0 2
      · rw [if_pos hb', ite_n n10, cl_bank h hb'.1 hb'.2]
        by_cases hk : S (4 + b) = 0 ∨ S (4 + b) = V 0 1
        · rw [if_pos hk, ite_n n10, cl_wset h hb'.1 hb'.2 (by omega), Option.bind_some, if_pos (show (0 ≤ b ∧ b < V 0 2) ∧ (S (4 + b) = 0 ∨ S (4 + b) = V 0 1) ∧ 0 ≤ w ∧ w ≤ 1 from ⟨hb', hk, by omega⟩)]
          simp (disch := omega) only [iN_eq]
          by_cases e : w = 0
          · rw [if_pos e, if_pos e, cl_wide h _ (by omega), Option.bind_some]
          · rw [if_neg e, if_neg e]
        · rw [if_neg hk, ite_p rfl, if_neg (fun hh => hk hh.2.1)]
      · rw [if_neg hb', ite_p rfl, if_neg (fun hh => hb' hh.1)]
theorem rf_Widest (h : rOK V S I) {b w : Int} (hb : -2147483648 ≤ b ∧ b < 2147483648) (hw : -2147483648 ≤ w ∧ w < 2147483648) {n : Nat} (hn : 200 ≤ n) : ∃ I', fX12_widest n (iN b) (iN w) I = some (iN (aWi V S b w), I') ∧ ex [85] I I' := by
  have hu := h.1.1
  rw [fX12_widest, rf_board h hb, Option.bind_some]
  simp only [iN_lit, iN_neg]
  unfold aWi
  by_cases hb' : 0 ≤ b ∧ b < V 0 2
  · have hs := h.2.1.1 b hb'.1 hb'.2
    have hbe := h.1.2.2.2.1 b hb'.1 hb'.2
    have hB := bur_lo h.1 (S := S) (b := b) (V 0 3).toNat (by omega)
    have p2 := pw2 (n := (V 0 3).toNat) (by omega)
    rw [if_pos hb', ite_n n10, rf_bank h hb'.1 hb'.2, Option.bind_some]
    by_cases hk : S (4 + b) = 0 ∨ S (4 + b) = V 0 1
    · rw [if_pos hk, ite_n n10, rf_in hw (by omega) (by omega)]
      by_cases hw' : 0 ≤ w ∧ w ≤ 1
      · rw [if_pos hw', ite_n n10, if_pos ⟨hb', hk, hw'⟩]
        obtain ⟨I', g1, g2, g3, g4⟩ := rf_filled h (n := n) (by omega)
        have h84 := g3.2.2.2 (4 + b) (by omega) (by omega)
        have h80 := g3.2.2.1.2.2.2.1 b hb'.1 hb'.2
        rw [g1, Option.bind_some]
        simp (disch := omega) only [iN_add, iN_lt, iN_tn, if_neg, h84]
        have hbk : -2 ≤ bnk S b ∧ bnk S b ≤ -1 := by unfold bnk; split <;> omega
        rw [rf_bk (by omega), show (if S (4 + b) = 0 then (-1 : Int) else -2) = bnk S b from rfl, rf_loads h.1 g3.2.2.1 g4 (wfS_pl h.2.1 h.1) (by omega) (by omega), Option.bind_some]
        obtain ⟨m, m1, m2⟩ := lds_nat S (bnk S b) (V 0 3).toNat (by omega)
        have hBd : burd V S b = bur V S b (V 0 3).toNat := rfl
        rw [← hBd] at hB
        obtain ⟨n', s, q1, q2, q3⟩ := loop (fun n k (s : Nat) => fX12_widest_L54 n (iN b) (iN w) (iN m) (iN s) (iN (k + 1)) I') 20 (P := (m : Int)) (fun k s => s = wst V (iN m) (burd V S b) (V 3 b) k.toNat)
          (by
            intro n k s hn k0 k1 hs1
            have w1 := wid_in h.1 (iN (k + 1)) (V 0 3).toNat (by omega)
            have w2 := wid_in h.1 (iN (s : Int)) (V 0 3).toNat (by omega)
            have unf := fX12_widest_L54.eq_def (n + 1) (iN b) (iN w) (iN m) (iN s) (iN (k + 1)) I'
            dsimp only at unf
            rw [rf_burden h.1 g3.2.2.1 (by omega) g4 (wfS_pl h.2.1 h.1) (by omega), rf_wide h.1 g3.2.2.1 _ (by omega), rf_wide h.1 g3.2.2.1 _ (by omega)] at unf
            simp (disch := omega) only [iN_lit, iN_add, iN_sub, iN_mul, iN_neg, iN_lt, iN_eq, iN_tn, if_neg, Option.bind_some, h80] at unf
            have ek : ((k.toNat + 1 : Nat) : Int) = k + 1 := by omega
            rw [show (k + 1).toNat = k.toNat + 1 by omega, wst, ← hs1, ek]
            by_cases e1 : iN (k + 1) &&& (iN m ^^^ iN (-1)) = iN 0
            · rw [ite_p e1] at unf
              by_cases e2 : V 3 b < burd V S b + wid V (iN (k + 1)) (V 0 3).toNat
              · rw [ite_p e2] at unf
                rw [if_neg (by omega)]
                exact ⟨s, unf, rfl⟩
              · rw [ite_n e2] at unf
                by_cases e3 : wid V (iN (s : Int)) (V 0 3).toNat < wid V (iN (k + 1)) (V 0 3).toNat
                · rw [ite_p e3] at unf
                  rw [if_pos ⟨e1, by omega, e3⟩]
                  refine ⟨k.toNat + 1, ?_, rfl⟩
                  rw [ek]; exact unf
                · rw [ite_n e3] at unf
                  rw [if_neg (fun hh => e3 hh.2.2)]
                  exact ⟨s, unf, rfl⟩
            · rw [ite_n e1] at unf
              rw [if_neg (fun hh => e1 hh.1)]
              exact ⟨s, unf, rfl⟩) m n 0 0 (by omega) (by omega) rfl (by omega)
        have q2' : fX12_widest_L54 n (iN b) (iN w) (iN m) (iN 0) (iN 1) I' = some (iN (aWs V S b : Nat)) := by
          have : fX12_widest_L54 n (iN b) (iN w) (iN m) (iN 0) (iN 1) I' = fX12_widest_L54 n' (iN b) (iN w) (iN m) (iN s) (iN ((m : Int) + 1)) I' := q2
          rw [this]
          obtain ⟨n', rfl⟩ : ∃ m, n' = m + 1 := ⟨n' - 1, by omega⟩
          rw [fX12_widest_L54, ite_p (by rw [iN_lt (by omega) (by omega) (by omega) (by omega)]; omega), q3]
          unfold aWs
          rw [m2, Int.toNat_natCast, show 2 ^ (V 0 3).toNat - 1 = m + (2 ^ (V 0 3).toNat - 1 - m) by omega, wst_more V (by omega) _ _ _ (by omega)]
        rw [m2, q2', Option.bind_some]
        refine ⟨I', ?_, g2⟩
        simp (disch := omega) only [iN_eq]
        by_cases e : w = 0
        · rw [if_pos e, if_pos e, rf_wide h.1 g3.2.2.1 _ (by omega), Option.bind_some]
        · rw [if_neg e, if_neg e]
      · rw [if_neg hw', ite_p rfl, if_neg (fun hh => hw' hh.2.2)]
        exact ⟨I, rfl, ex_refl⟩
    · rw [if_neg hk, ite_p rfl, if_neg (fun hh => hk hh.2.1)]
      exact ⟨I, rfl, ex_refl⟩
  · rw [if_neg hb', ite_p rfl, if_neg (fun hh => hb' hh.1)]
    exact ⟨I, rfl, ex_refl⟩
end WID
