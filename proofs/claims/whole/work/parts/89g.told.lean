/-! What is told and untold, time, the tape, what it is about. -/
def Wadd (Wt : (Nat → Int → Int)) (N : Int) (f : Nat → Int) : (Nat → Int → Int) := fun w => ud (Wt w) N (f w)
def wv (x y z q T : Int) : Nat → Int := fun w => if w = 0 then x else if w = 1 then y else if w = 2 then z else if w = 3 then q else if w = 4 then T else -1
def Wun (Wt : (Nat → Int → Int)) (x T : Int) : (Nat → Int → Int) := fun w => if w = 5 then ud (Wt 5) x T else Wt w
def kSe (V : (Nat → Int → Int)) (N y : Int) : Prop := 0 < V 0 2 ∧ (1 ≤ y ∧ y ≤ V 0 1) ∧ N < 30
def kUn (Wt : (Nat → Int → Int)) (N x : Int) : Prop := (0 ≤ x ∧ x < N) ∧ Wt 5 x < 0
def kLa (T x : Int) : Prop := (0 ≤ x ∧ x ≤ 1000) ∧ T + x ≤ 100000
section TLD
variable {V : (Nat → Int → Int)} {S : Int → Int} {I : (Nat → Nat → Int32)} {r : Nat} {Wt : (Nat → Int → Int)} {N T : Int}
theorem wfW_add (hw : wfV V) (h : wfW V Wt N T) {x y z q : Int} (hk : kSe V N y) (hx : x = 0 ∨ x = 1) (hz : 0 ≤ z ∧ z ≤ 99) (hq : q = 0 ∨ q = 1) : wfW V (Wadd Wt N (wv x y z q T)) (N + 1) T := by
  obtain ⟨h1, h2, h3⟩ := h
  obtain ⟨k1, k2, k3⟩ := hk
  refine ⟨by omega, h2, ?_⟩
  intro j j0 j1
  by_cases e : j = N
  · subst e
    show (ud (Wt 0) j _ j = 0 ∨ ud (Wt 0) j _ j = 1) ∧ (1 ≤ ud (Wt 1) j _ j ∧ ud (Wt 1) j _ j ≤ V 0 1) ∧ (0 ≤ ud (Wt 2) j _ j ∧ ud (Wt 2) j _ j ≤ 99) ∧ (ud (Wt 3) j _ j = 0 ∨ ud (Wt 3) j _ j = 1) ∧ (0 ≤ ud (Wt 4) j _ j ∧ ud (Wt 4) j _ j ≤ T) ∧ -1 ≤ ud (Wt 5) j _ j ∧ ud (Wt 5) j _ j ≤ T
    simp only [ud, if_pos, wv]
    refine ⟨hx, k2, hz, hq, ⟨h2.1, Int.le_refl _⟩, Int.le_refl _, ?_⟩
    show (-1 : Int) ≤ T
    omega
  · have := h3 j j0 (by omega)
    show (ud (Wt 0) N _ j = 0 ∨ ud (Wt 0) N _ j = 1) ∧ (1 ≤ ud (Wt 1) N _ j ∧ ud (Wt 1) N _ j ≤ V 0 1) ∧ (0 ≤ ud (Wt 2) N _ j ∧ ud (Wt 2) N _ j ≤ 99) ∧ (ud (Wt 3) N _ j = 0 ∨ ud (Wt 3) N _ j = 1) ∧ (0 ≤ ud (Wt 4) N _ j ∧ ud (Wt 4) N _ j ≤ T) ∧ -1 ≤ ud (Wt 5) N _ j ∧ ud (Wt 5) N _ j ≤ T
    simp only [ud, if_neg e]
    exact this
theorem wfW_un (h : wfW V Wt N T) {x : Int} : wfW V (Wun Wt x T) N T := by
  obtain ⟨h1, h2, h3⟩ := h
  refine ⟨h1, h2, ?_⟩
  intro j j0 j1
  have := h3 j j0 j1
  refine ⟨this.1, this.2.1, this.2.2.1, this.2.2.2.1, this.2.2.2.2.1, ?_⟩
  show -1 ≤ ud (Wt 5) x T j ∧ ud (Wt 5) x T j ≤ T
  unfold ud
  by_cases e : j = x
  · rw [if_pos e]; omega
  · rw [if_neg e]; exact this.2.2.2.2.2
theorem wfW_la (h : wfW V Wt N T) {x : Int} (hk : kLa T x) : wfW V Wt N (T + x) := by
  obtain ⟨h1, h2, h3⟩ := h
  obtain ⟨k1, k2⟩ := hk
  refine ⟨h1, by omega, ?_⟩
  intro j j0 j1
  have := h3 j j0 j1
  refine ⟨this.1, this.2.1, this.2.2.1, this.2.2.2.1, by omega, by omega⟩
theorem rf_see (h : rOK V S I) (hW : wfW V Wt N T) (hc : rW Wt N T I) {x y z q : Int} (hy : -2147483648 ≤ y ∧ y < 2147483648) (hq : q = 0 ∨ q = 1) :
    (kSe V N y → ∃ I', fX12_see (iN x) (iN y) (iN z) (iN q) I = some (iN N, I') ∧ xf [96, 97, 98, 99, 100, 101, 1075] I I' ∧ rW (Wadd Wt N (wv x y z q T)) (N + 1) T I') ∧
    (¬ kSe V N y → fX12_see (iN x) (iN y) (iN z) (iN q) I = some (iN (-1), I)) := by
  have hu := h.1.1
  obtain ⟨h1, h2, -⟩ := hW
  obtain ⟨c1, c2, c3, c4, c5, c6, c7, c8⟩ := hc
  have v1 := h.2.2.1.1.2.1
  have v2 := h.2.2.1.1.2.2.1
  have qn : vp_nar .boolean (iN q) = iN q := by rcases hq with rfl | rfl <;> decide
  rw [fX12_see, v2, v1, c1, c2, qn]
  simp only [iN_lit, iN_neg]
  rw [rf_in hy (by omega) (by omega)]
  unfold kSe
  by_cases k1 : 0 < V 0 2
  · rw [ite_n (by rw [iN_eq (by omega) (by omega) (by omega) (by omega)]; omega)]
    by_cases k2 : 1 ≤ y ∧ y ≤ V 0 1
    · rw [if_pos k2, ite_n n10]
      by_cases k3 : N < 30
      · rw [ite_n (by rw [iN_eq (by omega) (by omega) (by omega) (by omega)]; omega)]
        refine ⟨fun _ => ?_, fun q => absurd ⟨k1, k2, k3⟩ q⟩
        simp (disch := omega) only [iN_tn, iN_lt, if_neg, iN_add, iN_sub]
        refine ⟨_, by rw [show N + 1 - 1 = N by omega], ?_, ?_⟩
        · exact xf_trans (xf_up (by decide)) (xf_trans (xf_up (by decide)) (xf_trans (xf_up (by decide)) (xf_trans (xf_up (by decide)) (xf_trans (xf_up (by decide)) (xf_trans (xf_up (by decide)) (xf_u62 (by decide)))))))
        · have o : ∀ (I : (Nat → Nat → Int32)) (a : Nat) (F : Int → Int) (v : Int), hr I a N F → hr (mm_up I a N.toNat (iN v)) a (N + 1) (ud F N v) := by
            intro I a F v hh z z0 z1
            rw [up_c]
            unfold ud
            by_cases e : z = N
            · rw [if_pos (by omega), if_pos e]
            · rw [if_neg (by omega), if_neg e]; exact hh z z0 (by omega)
          refine ⟨by rw [up_eq], ?_, ?_, ?_, ?_, ?_, ?_, ?_⟩
          · rw [up_k (by decide), up_a (by decide), up_a (by decide), up_a (by decide), up_a (by decide), up_a (by decide), up_a (by decide)]; exact c2
          · exact hr_a (hr_a (hr_a (hr_a (hr_a (hr_a (o _ _ _ _ c3) (by decide)) (by decide)) (by decide)) (by decide)) (by decide)) (by decide)
          · exact hr_a (hr_a (hr_a (hr_a (hr_a (o _ _ _ _ (hr_a c4 (by decide))) (by decide)) (by decide)) (by decide)) (by decide)) (by decide)
          · exact hr_a (hr_a (hr_a (hr_a (o _ _ _ _ (hr_a (hr_a c5 (by decide)) (by decide))) (by decide)) (by decide)) (by decide)) (by decide)
          · exact hr_a (hr_a (hr_a (o _ _ _ _ (hr_a (hr_a (hr_a c6 (by decide)) (by decide)) (by decide))) (by decide)) (by decide)) (by decide)
          · exact hr_a (hr_a (o _ _ _ _ (hr_a (hr_a (hr_a (hr_a c7 (by decide)) (by decide)) (by decide)) (by decide))) (by decide)) (by decide)
          · exact hr_a (o _ _ _ _ (hr_a (hr_a (hr_a (hr_a (hr_a c8 (by decide)) (by decide)) (by decide)) (by decide)) (by decide))) (by decide)
      · rw [ite_p (by rw [iN_eq (by omega) (by omega) (by omega) (by omega)]; omega)]
        exact ⟨fun q => absurd q.2.2 k3, fun _ => rfl⟩
    · rw [if_neg k2, ite_p rfl]
      exact ⟨fun q => absurd q.2.1 k2, fun _ => rfl⟩
  · rw [ite_p (by rw [iN_eq (by omega) (by omega) (by omega) (by omega)]; omega)]
    exact ⟨fun q => absurd q.1 k1, fun _ => rfl⟩
theorem cl_wput {I : (Nat → Nat → Int32)} {j w : Int} (hj : 0 ≤ j ∧ j < 30) (hw : 0 ≤ w ∧ w < 6) (x : Int32) : fX10_set (iN j) (iN w) x I = mm_up I 55 (j * 6 + w).toNat x := by
  rw [fX10_set]
  simp only [iN_lit, iN_mul, iN_add]
  rw [iN_put (by omega) (by omega) (by omega)]
theorem cl_tell (h : cOK V S r I) (hW : wfW V Wt N T) (hc : cW Wt N T I) {x y z q : Int} (hy : -2147483648 ≤ y ∧ y < 2147483648) (hq : q = 0 ∨ q = 1) :
    (kSe V N y → ∃ I', fX10_tell (iN x) (iN y) (iN z) (iN q) I r = (iN N, I') ∧ ex [54, 55] I I' ∧ I' 54 5 = I 54 5 ∧ cW (Wadd Wt N (wv x y z q T)) (N + 1) T I') ∧
    (¬ kSe V N y → fX10_tell (iN x) (iN y) (iN z) (iN q) I r = (iN (-1), I)) := by
  have hu := h.1.1
  obtain ⟨h1, h2, -⟩ := hW
  obtain ⟨c1, c2, c3⟩ := hc
  have v1 := h.2.2.1.1.2.1
  have v2 := h.2.2.1.1.2.2.1
  have no : fX10_tell_J36 (iN x) (iN y) (iN z) (iN q) I = (iN (-1), I) := by
    rw [fX10_tell_J36, fX10_tell_J37]
    exact if_pos rfl
  rw [fX10_tell, v2, v1, no]
  simp only [iN_lit]
  unfold kSe
  by_cases k0 : y < 1
  · rw [ite_p (by rw [iN_lt (by omega) (by omega) (by omega) (by omega)]; exact k0)]
    exact ⟨fun q => by omega, fun _ => rfl⟩
  · rw [ite_n (by rw [iN_lt (by omega) (by omega) (by omega) (by omega)]; exact k0)]
    by_cases k2 : V 0 1 < y
    · rw [ite_p (by rw [iN_lt (by omega) (by omega) (by omega) (by omega)]; exact k2)]
      exact ⟨fun q => by omega, fun _ => rfl⟩
    · rw [ite_n (by rw [iN_lt (by omega) (by omega) (by omega) (by omega)]; exact k2)]
      by_cases k1 : 0 < V 0 2
      · rw [ite_p (by rw [iN_lt (by omega) (by omega) (by omega) (by omega)]; exact k1), fX10_tell_J37, c1]
        simp only [iN_lit]
        rw [ite_n n10]
        by_cases k3 : N < 30
        · rw [ite_p (by rw [iN_lt (by omega) (by omega) (by omega) (by omega)]; exact k3)]
          refine ⟨fun _ => ?_, fun q => absurd ⟨k1, by omega, k3⟩ q⟩
          have s : ∀ (J : (Nat → Nat → Int32)) (w : Int) (v : Int32), 0 ≤ w ∧ w < 6 → J 54 9 = iN N → fX10_set (J 54 9) (iN w) v J = mm_up J 55 (N * 6 + w).toNat v ∧ (mm_up J 55 (N * 6 + w).toNat v) 54 9 = iN N ∧ (mm_up J 55 (N * 6 + w).toNat v) 54 10 = J 54 10 := by
            intro J w v hw e
            rw [e, cl_wput (by omega) hw]
            exact ⟨rfl, by rw [up_a (by decide)]; exact e, by rw [up_a (by decide)]⟩
          obtain ⟨a1, a2, a3⟩ := s I 0 (iN x) (by omega) c1
          obtain ⟨b1, b2, b3⟩ := s _ 1 (iN y) (by omega) a2
          obtain ⟨d1, d2, d3⟩ := s _ 2 (iN z) (by omega) b2
          obtain ⟨e1, e2, e3⟩ := s _ 3 (iN q) (by omega) d2
          obtain ⟨f1, f2, f3⟩ := s _ 4 (iN T) (by omega) e2
          obtain ⟨g1, g2, g3⟩ := s _ 5 (iN (-1)) (by omega) f2
          have fin : ∃ I', fX10_tell_J101 (iN q) (iN 3) (iN N) (mm_up (mm_up (mm_up I 55 (N * 6 + 0).toNat (iN x)) 55 (N * 6 + 1).toNat (iN y)) 55 (N * 6 + 2).toNat (iN z)) = (iN N, I') ∧ ex [54, 55] I I' ∧ I' 54 5 = I 54 5 ∧ cW (Wadd Wt N (wv x y z q T)) (N + 1) T I' := by
            rw [d2] at e1
            rw [fX10_tell_J101]
            simp only [iN_lit, iN_neg]
            have t10 := e3.trans (d3.trans (b3.trans (a3.trans c2)))
            simp only [e1, t10, f1, g1, g2]
            rw [iN_add, iN_sub, show N + 1 - 1 = N by omega]
            refine ⟨_, rfl, ?_, ?_, ?_, ?_, ?_⟩
            · exact ex_trans (ex_up (by decide)) (ex_trans (ex_up (by decide)) (ex_trans (ex_up (by decide)) (ex_trans (ex_up (by decide)) (ex_trans (ex_up (by decide)) (ex_trans (ex_up (by decide)) (ex_up (by decide)))))))
            · rw [up_k (by decide), up_a (by decide), up_a (by decide), up_a (by decide), up_a (by decide), up_a (by decide), up_a (by decide)]
            · rw [up_eq]
            · rw [up_k (by decide), up_a (by decide), up_a (by decide), up_a (by decide), up_a (by decide), up_a (by decide), up_a (by decide)]; exact c2
            · intro j w j0 j1 w1
              rw [up_a (by decide)]
              unfold Wadd ud
              simp only [up_c]
              by_cases e : j = N
              · rw [if_pos e]
                unfold wv
                by_cases w5 : w = 5
                · rw [if_pos (by omega), if_neg (by omega), if_neg (by omega), if_neg (by omega), if_neg (by omega), if_neg (by omega)]
                rw [if_neg (by omega)]
                by_cases w4 : w = 4
                · rw [if_pos (by omega), if_neg (by omega), if_neg (by omega), if_neg (by omega), if_neg (by omega), if_pos w4]
                rw [if_neg (by omega)]
                by_cases w3 : w = 3
                · rw [if_pos (by omega), if_neg (by omega), if_neg (by omega), if_neg (by omega), if_pos w3]
                rw [if_neg (by omega)]
                by_cases w2 : w = 2
                · rw [if_pos (by omega), if_neg (by omega), if_neg (by omega), if_pos w2]
                rw [if_neg (by omega)]
                by_cases w1 : w = 1
                · rw [if_pos (by omega), if_neg (by omega), if_pos w1]
                rw [if_neg (by omega), if_pos (by omega), if_pos (by omega)]
              · rw [if_neg e, if_neg (by omega), if_neg (by omega), if_neg (by omega), if_neg (by omega), if_neg (by omega), if_neg (by omega)]
                exact c3 j w j0 (by omega) w1
          rw [c1] at a1
          simp only [a1, b1, d1, d2]
          rcases hq with rfl | rfl
          · rw [ite_p rfl]; exact fin
          · rw [ite_n n10]; exact fin
        · rw [ite_n (by rw [iN_lt (by omega) (by omega) (by omega) (by omega)]; exact k3)]
          exact ⟨fun q => absurd q.2.2 k3, fun _ => rfl⟩
      · rw [ite_n (by rw [iN_lt (by omega) (by omega) (by omega) (by omega)]; exact k1)]
        exact ⟨fun q => absurd q.1 k1, fun _ => rfl⟩
end TLD
