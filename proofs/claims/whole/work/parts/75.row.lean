/-! Frames with fields of cell 62 (written 1000 + k); both programs in order; a row of strokes in the reference. -/
def xf (l : List Nat) (I I' : (Nat → Nat → Int32)) : Prop := ∀ a k, a ∉ l → (a = 62 → 1000 + k ∉ l) → I' a k = I a k
theorem xf_refl {l : List Nat} {I : (Nat → Nat → Int32)} : xf l I I := fun _ _ _ _ => rfl
theorem xf_ex {l : List Nat} {I I' : (Nat → Nat → Int32)} (h : ex l I I') : xf l I I' := fun a k ha _ => by rw [h a ha]
theorem xf_mono {l l' : List Nat} {I I' : (Nat → Nat → Int32)} (h : xf l I I') (s : ∀ a, a ∈ l → a ∈ l') : xf l' I I' := fun a k ha hk => h a k (fun hm => ha (s a hm)) (fun e hm => hk e (s _ hm))
theorem xf_trans {l : List Nat} {I I' I'' : (Nat → Nat → Int32)} (h : xf l I I') (h' : xf l I' I'') : xf l I I'' := fun a k ha hk => by rw [h' a k ha hk, h a k ha hk]
theorem xf_up {l : List Nat} {I : (Nat → Nat → Int32)} {a k : Nat} {x : Int32} (h : a ∈ l) : xf l I (mm_up I a k x) := xf_ex (ex_up h)
theorem xf_u62 {l : List Nat} {I : (Nat → Nat → Int32)} {k : Nat} {x : Int32} (h : 1000 + k ∈ l) : xf l I (mm_up I 62 k x) := by
  intro a j ha hk
  by_cases e : a = 62
  · subst e
    exact up_k (fun e => hk rfl (e ▸ h))
  · rw [up_a e]
theorem xf_row {l : List Nat} {I I' : (Nat → Nat → Int32)} (h : xf l I I') {a : Nat} (ha : a ∉ l) (h62 : a ≠ 62) : I' a = I a := by
  funext k
  exact h a k ha (fun e => absurd e h62)
theorem hr_xf {l : List Nat} {I I' : (Nat → Nat → Int32)} (h : xf l I I') {a : Nat} (ha : a ∉ l) (h62 : a ≠ 62) {n : Int} {F : Int → Int} (hh : hr I a n F) : hr I' a n F := hr_of hh (xf_row h ha h62)
theorem refV_xf {V : (Nat → Int → Int)} {I I' : (Nat → Nat → Int32)} (h : refV V I) {l : List Nat} (e : xf l I I') (d : ∀ a ∈ [62, 67, 68, 78, 79, 80, 81, 82, 83, 1046, 1047, 1048, 1049, 1050, 1018, 1021], a ∉ l) : refV V I' := by
  obtain ⟨⟨a1, a2, a3, a4, a5, a6, a7⟩, b1, b2, b3, b4, b5, b6, b7, b8⟩ := h
  have f : ∀ k, 1000 + k ∈ [62, 67, 68, 78, 79, 80, 81, 82, 83, 1046, 1047, 1048, 1049, 1050, 1018, 1021] → I' 62 k = I 62 k := fun k hk => e 62 k (d 62 (by decide)) (fun _ => d _ hk)
  refine ⟨⟨by rw [f 46 (by decide)]; exact a1, by rw [f 47 (by decide)]; exact a2, by rw [f 48 (by decide)]; exact a3, by rw [f 49 (by decide)]; exact a4, by rw [f 50 (by decide)]; exact a5, by rw [f 18 (by decide)]; exact a6, by rw [f 21 (by decide)]; exact a7⟩, ?_⟩
  exact ⟨hr_xf e (d _ (by decide)) (by decide) b1, hr_xf e (d _ (by decide)) (by decide) b2, hr_xf e (d _ (by decide)) (by decide) b3, hr_xf e (d _ (by decide)) (by decide) b4, hr_xf e (d _ (by decide)) (by decide) b5, hr_xf e (d _ (by decide)) (by decide) b6, hr_xf e (d _ (by decide)) (by decide) b7, hr_xf e (d _ (by decide)) (by decide) b8⟩
/-- the reference is in order, its river is V and its scene S -/
def rOK (V : (Nat → Int → Int)) (S : Int → Int) (I : (Nat → Nat → Int32)) : Prop := wfV V ∧ wfS V 600 S ∧ refV V I ∧ hr I 84 28 S
/-- the class is -/
def cOK (V : (Nat → Int → Int)) (S : Int → Int) (r : Nat) (I : (Nat → Nat → Int32)) : Prop := wfV V ∧ wfS V 600 S ∧ clsV V r I ∧ clsS V S I
theorem rOK_xf {V : (Nat → Int → Int)} {S : Int → Int} {I I' : (Nat → Nat → Int32)} (h : rOK V S I) {l : List Nat} (e : xf l I I') (d : ∀ a ∈ [62, 67, 68, 78, 79, 80, 81, 82, 83, 84, 1046, 1047, 1048, 1049, 1050, 1018, 1021], a ∉ l) : rOK V S I' :=
  ⟨h.1, h.2.1, refV_xf h.2.2.1 e (fun a ha => d a (by simp at ha ⊢; omega)), hr_xf e (d 84 (by decide)) (by decide) h.2.2.2⟩
theorem rOK_ex {V : (Nat → Int → Int)} {S : Int → Int} {I I' : (Nat → Nat → Int32)} (h : rOK V S I) {l : List Nat} (e : ex l I I') (d : ∀ a ∈ [62, 67, 68, 78, 79, 80, 81, 82, 83, 84], a ∉ l) : rOK V S I' :=
  ⟨h.1, h.2.1, refV_of h.2.2.1 e (fun a ha => d a (by simp at ha ⊢; omega)), hr_of h.2.2.2 (e 84 (d 84 (by decide)))⟩
theorem cOK_ex {V : (Nat → Int → Int)} {S : Int → Int} {r : Nat} {I I' : (Nat → Nat → Int32)} (h : cOK V S r I) {l : List Nat} (e : ex l I I') (d : ∀ a ∈ [32, r, r + 1, r + 2, r + 5, r + 6, r + 7, r + 8, r + 9, r + 11], a ∉ l) : cOK V S r I' :=
  ⟨h.1, h.2.1, clsV_of h.2.2.1 e (fun a ha => d a (by simp at ha ⊢; omega)), clsS_of h.2.2.2 (e 32 (d 32 (by simp)))⟩
theorem rf_fill (I : (Nat → Nat → Int32)) {n : Nat} (hn : 30 ≤ n) : ∃ I', fX12_fill n I = some I' ∧ ex [85] I I' ∧ ∀ z : Int, 0 ≤ z → z < 28 → I' 85 z.toNat = I 84 z.toNat := by
  obtain ⟨n', I', h1, h2, h3, h4⟩ := loop (fun n k I => fX12_fill_L2 n (iN k) I) 1 (P := 28) (fun k I1 => ex [85] I I1 ∧ ∀ z : Int, 0 ≤ z → z < k → I1 85 z.toNat = I 84 z.toNat)
    (by
      intro n k I1 hn h0 h1 ⟨hx, hz⟩
      refine ⟨mm_up I1 85 k.toNat (I1 84 k.toNat), ?_, ex_trans hx (ex_up (by decide)), ?_⟩
      · show fX12_fill_L2 (n + 1) _ _ = _
        rw [fX12_fill_L2]
        simp (disch := omega) only [iN_lit, iN_add, iN_sub, iN_mul, iN_neg, iN_lt, iN_eq, iN_tn, if_true, if_false, if_pos, if_neg]
      · intro z z0 z1
        rw [up_c]
        by_cases e : z = k
        · subst e; rw [if_pos rfl, hx 84 (by decide)]
        · rw [if_neg (by omega)]; exact hz z z0 (by omega)) 28 n 0 I (by omega) (by omega) ⟨ex_refl, by intro z h1 h2; omega⟩ (by omega)
  refine ⟨I', ?_, h3, h4⟩
  rw [fX12_fill, iN_lit]
  rw [h2]
  obtain ⟨n', rfl⟩ : ∃ m, n' = m + 1 := ⟨n' - 1, by omega⟩
  show (fX12_fill_L2 (n' + 1) (iN 28) I').bind _ = _
  rw [fX12_fill_L2]
  simp (disch := omega) only [iN_lit, iN_add, iN_sub, iN_mul, iN_neg, iN_lt, iN_eq, iN_tn, if_true, if_false, if_pos, if_neg, Option.bind_some]
theorem rf_left {V : (Nat → Int → Int)} {S : Int → Int} {I : (Nat → Nat → Int32)} (h : rOK V S I) {b : Int} (h1 : 0 ≤ b) (h2 : b < V 0 2) : fX12_leftOf (iN b) I = some (iN (V 0 1 - S (4 + b))) := by
  have hu := h.1.1
  have hs := h.2.1.1 b h1 h2
  rw [fX12_leftOf]
  simp (disch := omega) only [iN_lit, iN_add, iN_sub, iN_mul, iN_neg, iN_lt, iN_eq, iN_tn, if_true, if_false, if_pos, if_neg, h.2.2.1.1.2.1, h.2.2.2 (4 + b)]
theorem pow_le9 {d : Nat} (k : Nat) (hd : 1 ≤ d ∧ d ≤ 100) (hk : k ≤ 4 ∨ (d ≤ 4 ∧ k ≤ 7)) : d ^ k ≤ 100000000 := by
  rcases hk with h | ⟨h, h'⟩
  · exact Nat.le_trans (Nat.pow_le_pow_left hd.2 k) (Nat.le_trans (Nat.pow_le_pow_right (by omega) h) (by decide))
  · exact Nat.le_trans (Nat.pow_le_pow_left h k) (Nat.le_trans (Nat.pow_le_pow_right (by omega) h') (by decide))
theorem rf_pow {d k : Nat} (hd : d ≤ 100) (hk : k ≤ 4 ∨ (d ≤ 4 ∧ k ≤ 7)) {n : Nat} (hn : 10 ≤ n) : fX12_power n (iN d) (iN k) = some (iN ((d ^ k : Nat) : Int)) := by
  obtain ⟨n', s, h1, h2, h3⟩ := loop (fun n j s => fX12_power_L4 n (iN d) (iN k) (iN s) (iN j)) 1 (P := k) (fun j s => s = ((d ^ j.toNat : Nat) : Int))
    (by
      intro n j s hn h0 h1 hs
      refine ⟨s * d, ?_, ?_⟩
      · show fX12_power_L4 (n + 1) _ _ _ _ = _
        rw [fX12_power_L4]
        simp (disch := omega) only [iN_lit, iN_add, iN_sub, iN_mul, iN_neg, iN_lt, iN_eq, iN_tn, if_true, if_false, if_pos, if_neg]
      · rw [hs, show (j + 1).toNat = j.toNat + 1 by omega, Nat.pow_succ]; exact (Int.natCast_mul ..).symm) k n 0 1 (by omega) (by omega) (by rw [show (0 : Int).toNat = 0 from rfl, Nat.pow_zero]; rfl) (by omega)
  rw [fX12_power]
  simp only [iN_lit]
  rw [h2]
  obtain ⟨n', rfl⟩ : ∃ m, n' = m + 1 := ⟨n' - 1, by omega⟩
  show (fX12_power_L4 (n' + 1) _ _ _ _).bind _ = _
  rw [fX12_power_L4]
  simp (disch := omega) only [iN_lit, iN_add, iN_sub, iN_mul, iN_neg, iN_lt, iN_eq, iN_tn, if_true, if_false, if_pos, if_neg, Option.bind_some]
  rw [h3, show ((k : Int)).toNat = k by omega]
theorem gd_l {α : Type} {l l' : List α} {i : Nat} {d : α} (h : i < l.length) : (l ++ l').getD i d = l.getD i d := by
  rw [List.getD_eq_getElem?_getD, List.getD_eq_getElem?_getD, List.getElem?_append_left h]
theorem gd_r {α : Type} {l : List α} {i : Nat} {x d : α} (h : i = l.length) : (l ++ [x]).getD i d = x := by
  subst h
  rw [List.getD_eq_getElem?_getD, List.getElem?_append_right (by omega), Nat.sub_self]
  rfl
theorem rf_dig {b l : Int32} : ∀ (m n k : Nat) (I : (Nat → Nat → Int32)), m ≤ 6 → m < n → k < 2147483648 → ∃ I', fX12_goRow_L18 n b l (iN k) (iN ((m : Int) - 1)) I = some I' ∧ ex [87] I I' ∧ (∀ z : Nat, z < m → I' 87 z = iN ((dig 3 m k).getD z 0 - 1)) ∧ (∀ z : Nat, m ≤ z → I' 87 z = I 87 z) := by
  intro m
  induction m with
  | zero =>
    intro n k I hm hn hk
    obtain ⟨n, rfl⟩ : ∃ n', n = n' + 1 := ⟨n - 1, by omega⟩
    refine ⟨I, ?_, ex_refl, by intro z h; omega, fun _ _ => rfl⟩
    rw [fX12_goRow_L18]
    simp (disch := omega) only [iN_lit, iN_add, iN_sub, iN_mul, iN_neg, iN_lt, iN_eq, iN_tn, if_true, if_false, if_pos, if_neg]
  | succ m ih =>
    intro n k I hm hn hk
    obtain ⟨n, rfl⟩ : ∃ n', n = n' + 1 := ⟨n - 1, by omega⟩
    obtain ⟨I', h1, h2, h3, h4⟩ := ih n (k / 3) (mm_up I 87 m (iN ((k : Int) % 3 - 1))) (by omega) (by omega) (by omega)
    refine ⟨I', ?_, ex_trans (ex_up (by decide)) h2, ?_, ?_⟩
    · rw [fX12_goRow_L18]
      simp (disch := omega) only [iN_lit, iN_add, iN_sub, iN_mul, iN_neg, iN_lt, iN_eq, iN_tn, if_true, if_false, if_pos, if_neg, iN_rem, iN_div]
      rw [show (((m + 1 : Nat) : Int) - 1).toNat = m by omega, show ((m + 1 : Nat) : Int) - 1 + -1 = (m : Int) - 1 by omega]
      rw [show (k : Int) - (k : Int) / 3 * 3 - 1 = (k : Int) % 3 - 1 by omega]
      rw [show ((k / 3 : Nat) : Int) = (k : Int) / 3 by omega] at h1
      exact h1
    · intro z hz
      rw [dig]
      by_cases e : z = m
      · subst e
        rw [h4 z (by omega), up_eq, gd_r (by rw [dig_len])]
        congr 1
      · rw [h3 z (by omega), gd_l (by rw [dig_len]; omega)]
    · intro z hz
      rw [h4 z (by omega), up_k (by omega)]
theorem rf_run {V : (Nat → Int → Int)} {S : Int → Int} (hw : wfV V) {b left : Int} (hb1 : 0 ≤ b) (hb2 : b < V 0 2) (hp : ∀ l, 0 ≤ l → l < V 0 3 → -2 ≤ S (20 + l) ∧ S (20 + l) < 4) (hl : left ≤ 6) :
    ∀ (t : List Int) (n : Nat) (z c r h q m : Int) (I : (Nat → Nat → Int32)), refV V I → 0 ≤ z → z + t.length = left → 303 + t.length ≤ n → (0 ≤ c ∧ c < V 0 0) → 0 ≤ r → r + t.length ≤ V 0 1 → (0 ≤ h ∧ h ≤ 99) → (0 ≤ q ∧ q + t.length ≤ 999) → (0 ≤ m ∧ m + t.length < 2000) → (∀ a ∈ t, 0 ≤ a ∧ a < 3) → (∀ i : Nat, i < t.length → I 87 (z.toNat + i) = iN (t.getD i 0 - 1)) → hr I 85 28 (air S b c r h q m) →
    ∃ I', fX12_goRow_L54 n (iN b) (iN left) (iN 1) (iN z) I = some (if (rc V t c r).isSome = true then iN 1 else iN 0, I') ∧ ex [70, 71, 85] I I' ∧ ∀ c' h' q', run V b (burd V S b) t c r h q m = some (c', h', q') → hr I' 85 28 (air S b c' (r + t.length) h' q' (m + t.length)) := by
  intro t
  induction t with
  | nil =>
    intro n z c r h q m I hV hz hzl hn hc hr0 hr1 hh hq hm ht hs ha
    obtain ⟨n, rfl⟩ : ∃ n', n = n' + 1 := ⟨n - 1, by omega⟩
    rw [List.length_nil] at *
    refine ⟨I, ?_, ex_refl, ?_⟩
    · rw [fX12_goRow_L54]
      simp (disch := omega) only [iN_lit, iN_add, iN_sub, iN_mul, iN_neg, iN_lt, iN_eq, iN_tn, if_true, if_false, if_pos, if_neg]
      rfl
    · intro c' h' q' e
      rw [run] at e
      injection e with e; injection e with e1 e; injection e with e2 e3
      subst e1 e2 e3
      rw [show r + ((0 : Nat) : Int) = r by omega, show m + ((0 : Nat) : Int) = m by omega]
      exact ha
  | cons a t ih =>
    intro n z c r h q m I hV hz hzl hn hc hr0 hr1 hh hq hm ht hs ha
    obtain ⟨n, rfl⟩ : ∃ n', n = n' + 1 := ⟨n - 1, by omega⟩
    rw [List.length_cons] at *
    have ha3 := ht a (List.mem_cons_self ..)
    have hu := hw.1
    obtain ⟨I1, g1, g2, g3⟩ := rf_stroke hw hV (b := b) (c := c) (r := r) (h := h) (q := q) (m := m) (s := a - 1) (on := 1) (k := 1) (S := S) hb1 hb2 hp hc (by omega) (by omega) hh (by omega) (by omega) (by omega) (by omega) (by omega) ha (n := n) (by omega)
    have s0 := hs 0 (by omega)
    rw [Nat.add_zero, List.getD_cons_zero] at s0
    have hn0 := nht_lo (V := V) (b := b) (B := burd V S b) (c := c) (r := r) (m := m) hh.1
    have V1 : refV V I1 := refV_of hV g2 (by decide)
    rw [fX12_goRow_L54]
    simp (disch := omega) only [iN_lit, iN_add, iN_sub, iN_mul, iN_neg, iN_lt, iN_eq, iN_tn, if_true, if_false, if_pos, if_neg, s0, Int.reduceNeg]
    rw [g1, Option.bind_some]
    by_cases hi : V 2 (8 * (r + 1) + lead V c r (a - 1) 1) = 1
    · have e1 : rc V (a :: t) c r = none := by rw [rc, if_pos hi]
      have e2 : run V b (burd V S b) (a :: t) c r h q m = none := by rw [run, if_pos hi]
      simp only [if_pos hi]
      have e3 : (iN (1 + (if V 5 b < nht V b (burd V S b) c r h m then 2 else 0)) - iN (1 + (if V 5 b < nht V b (burd V S b) c r h m then 2 else 0)) / iN 2 * iN 2) = iN 1 := by split <;> decide
      simp only [e3]
      rw [if_neg (by decide)]
      refine ⟨I1, ?_, g2, by intro c' h' q' e; rw [e2] at e; cases e⟩
      rw [e1]
      obtain ⟨n, rfl⟩ : ∃ n', n = n' + 1 := ⟨n - 1, by omega⟩
      rw [fX12_goRow_L54]
      simp only [iN_lit]
      by_cases hz2 : iN (z + 1) < iN left
      · rw [if_pos hz2, if_pos trivial]; rfl
      · rw [if_neg hz2]; rfl
    · have e1 : rc V (a :: t) c r = rc V t (lead V c r (a - 1) 1) (r + 1) := by rw [rc, if_neg hi]
      simp only [if_neg hi] at g3 ⊢
      have e3 : (iN (0 + (if V 5 b < nht V b (burd V S b) c r h m then 2 else 0)) - iN (0 + (if V 5 b < nht V b (burd V S b) c r h m then 2 else 0)) / iN 2 * iN 2) = iN 0 := by split <;> decide
      simp only [e3]
      rw [if_pos trivial]
      have e4 : (if V 5 b < nht V b (burd V S b) c r h m ∧ q < 999 then q + 1 else q) = (if V 5 b < nht V b (burd V S b) c r h m then q + 1 else q) := by
        by_cases hx : V 5 b < nht V b (burd V S b) c r h m
        · rw [if_pos hx, if_pos ⟨hx, by omega⟩]
        · rw [if_neg hx, if_neg (fun hh => hx hh.1)]
      rw [e4] at g3
      obtain ⟨I', f1, f2, f3⟩ := ih n (z + 1) (lead V c r (a - 1) 1) (r + 1) (if V 5 b < nht V b (burd V S b) c r h m then 0 else nht V b (burd V S b) c r h m) (if V 5 b < nht V b (burd V S b) c r h m then q + 1 else q) (m + 1) I1 V1 (by omega) (by omega) (by omega) ⟨lead_lo hw, lead_hi hw⟩ (by omega) (by omega) (by split <;> omega) (by split <;> omega) (by omega) (fun x hx => ht x (List.mem_cons_of_mem _ hx)) (by
        intro i hi
        have := hs (i + 1) (by omega)
        rw [List.getD_cons_succ] at this
        rw [g2 87 (by decide), show (z + 1).toNat + i = z.toNat + (i + 1) by omega]
        exact this) g3
      refine ⟨I', by rw [e1]; exact f1, ex_trans g2 f2, ?_⟩
      intro c' h' q' e
      rw [run, if_neg hi] at e
      have := f3 c' h' q' e
      rw [show r + ((t.length + 1 : Nat) : Int) = r + 1 + t.length by omega, show m + ((t.length + 1 : Nat) : Int) = m + 1 + t.length by omega]
      exact this
/-- how many strokes are left; what comes of a row -/
def lft (V : (Nat → Int → Int)) (S : Int → Int) (b : Int) : Nat := (V 0 1 - S (4 + b)).toNat
def rn (V : (Nat → Int → Int)) (S : Int → Int) (b : Int) (t : List Int) : Option (Int × Int × Int) := run V b (burd V S b) t (S b) (S (4 + b)) (S (8 + b)) (S (12 + b)) (S (16 + b))
theorem rf_row {V : (Nat → Int → Int)} {S : Int → Int} {I : (Nat → Nat → Int32)} (h : rOK V S I) {b : Int} (hb1 : 0 ≤ b) (hb2 : b < V 0 2) {k : Nat} (hk : k < 2147483648) {n : Nat} (hn : 330 ≤ n) :
    ∃ I', fX12_goRow n (iN b) (iN k) I = some (if (rc V (dig 3 (lft V S b) k) (S b) (S (4 + b))).isSome = true then iN 1 else iN 0, I') ∧ ex [70, 71, 85, 87] I I' ∧ (∀ z : Nat, z < lft V S b → I' 87 z = iN ((dig 3 (lft V S b) k).getD z 0 - 1)) ∧
      ∀ c' h' q', rn V S b (dig 3 (lft V S b) k) = some (c', h', q') → I' 85 b.toNat = iN c' ∧ I' 85 (8 + b).toNat = iN h' ∧ I' 85 (12 + b).toNat = iN q' := by
  have hu := h.1.1
  have hs := h.2.1.1 b hb1 hb2
  have hpl : ∀ l, 0 ≤ l → l < V 0 3 → -2 ≤ S (20 + l) ∧ S (20 + l) < 4 := fun l h1 h2 => by have := h.2.1.2.1 l h1 h2; omega
  obtain ⟨I1, f1, f2, f3⟩ := rf_fill I (n := n) (by omega)
  have R1 : rOK V S I1 := rOK_ex h f2 (by decide)
  have hL : (lft V S b : Int) = V 0 1 - S (4 + b) := by unfold lft; omega
  obtain ⟨I2, d1, d2, d3, d4⟩ := rf_dig (b := iN b) (l := iN (V 0 1 - S (4 + b))) (lft V S b) n k I1 (by omega) (by omega) hk
  have R2 : rOK V S I2 := rOK_ex R1 d2 (by decide)
  have ha2 : hr I2 85 28 (air S b (S b) (S (4 + b)) (S (8 + b)) (S (12 + b)) (S (16 + b))) := by
    rw [air_self]
    intro z h1 h2
    rw [d2 85 (by decide), f3 z h1 h2]
    exact h.2.2.2 z h1 h2
  obtain ⟨I3, g1, g2, g3⟩ := rf_run (S := S) h.1 (left := V 0 1 - S (4 + b)) hb1 hb2 hpl (by omega) (dig 3 (lft V S b) k) n 0 (S b) (S (4 + b)) (S (8 + b)) (S (12 + b)) (S (16 + b)) I2 R2.2.2.1 (by omega) (by rw [dig_len]; omega) (by rw [dig_len]; omega) (by omega) (by omega) (by rw [dig_len]; omega) (by omega) (by rw [dig_len]; omega) (by rw [dig_len]; omega) (dig_mem (by omega) _ _) (by
      intro i hi
      rw [dig_len] at hi
      rw [show (0 : Int).toNat + i = i by omega]
      exact d3 i hi) ha2
  refine ⟨I3, ?_, ?_, ?_, ?_⟩
  · rw [fX12_goRow, f1, Option.bind_some, rf_left R1 hb1 hb2, Option.bind_some]
    simp only [iN_lit, iN_sub]
    rw [hL] at d1
    rw [d1, Option.bind_some, g1, Option.bind_some]
    split
    · rw [if_pos (Or.inr rfl)]
    · rw [if_pos (Or.inl rfl)]
  · exact ex_trans (ex_mono f2 (by decide)) (ex_trans (ex_mono d2 (by decide)) (ex_mono g2 (by decide)))
  · intro z hz
    rw [g2 87 (by decide)]
    exact d3 z hz
  · intro c' h' q' e
    have := g3 c' h' q' e
    refine ⟨?_, ?_, ?_⟩
    · rw [this b (by omega) (by omega), air_0]
    · rw [this (8 + b) (by omega) (by omega), air_8]
    · rw [this (12 + b) (by omega) (by omega), air_12]
