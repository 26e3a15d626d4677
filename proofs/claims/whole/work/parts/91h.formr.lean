/-! THE FORMULA as the reference reads it is the stack's. -/
def nz (st : List Int) : Nat := match st with
  | [] => 0
  | c :: r => nz r + if c = 0 then 0 else 1
theorem nz_app (l st : List Int) : nz (l ++ st) = nz l + nz st := by
  induction l with
  | nil => rw [List.nil_append]; show nz st = 0 + nz st; omega
  | cons c l ih => rw [List.cons_append, nz, nz, ih]; omega
theorem nz_no (l : List Int) (h : ∀ c ∈ l, ¬ c = 0) : nz l = l.length := by
  induction l with
  | nil => rfl
  | cons c l ih => rw [nz, ih (fun d hd => h d (by simp [hd])), if_neg (h c (by simp)), List.length_cons]
theorem dp_le (l : List Int) : dp l ≤ l.length := by
  induction l with
  | nil => exact Nat.le_refl 0
  | cons c l ih => rw [dp, List.length_cons]; split <;> omega
/-- the stack's bounds -/
def ri (md : Bool) (st out : List Int) (u : Int) : Prop := (0 ≤ u ∧ u ≤ 30) ∧ dp st ≤ 7 ∧ scd st ∧
  (if md = true then (st.length : Int) ≤ u + dp st ∧ (out.length : Int) + nz st ≤ 9 * u + dp st else (st.length : Int) + 1 ≤ u + dp st ∧ (out.length : Int) + nz st + 1 ≤ 9 * u)
theorem ri_cls {st out : List Int} {u : Int} (h : ri false st out u) (t : Int) : ∃ l, st = l ++ (cls t st out).1 ∧ (cls t st out).2 = out ++ l ∧ (∀ c ∈ l, ¬ c = 0) ∧ low t (cls t st out).1 ∧ ri false (cls t st out).1 (cls t st out).2 u := by
  obtain ⟨l, e1, e2, e3, e4⟩ := cls_spec t st out
  refine ⟨l, e1, e2, e3, e4, ?_⟩
  obtain ⟨h1, h2, h3, h4⟩ := h
  rw [if_neg (by decide)] at h4
  have d1 : dp st = dp l + dp (cls t st out).1 := by rw [← dp_app, ← e1]
  have d2 : nz st = nz l + nz (cls t st out).1 := by rw [← nz_app, ← e1]
  have d3 : st.length = l.length + (cls t st out).1.length := by rw [← List.length_append, ← e1]
  have d4 := nz_no l e3
  have d5 := dp_le l
  have d6 : (cls t st out).2.length = out.length + l.length := by rw [e2, List.length_append]
  refine ⟨h1, by omega, fun c hc => h3 c (by rw [e1]; exact List.mem_append.mpr (Or.inr hc)), ?_⟩
  rw [if_neg (by decide)]
  omega
theorem ri_len {md : Bool} {st out : List Int} {u : Int} (h : ri md st out u) : st.length ≤ 37 ∧ out.length ≤ 277 := by
  obtain ⟨h1, h2, h3, h4⟩ := h
  cases md
  · rw [if_neg (by decide)] at h4; omega
  · rw [if_pos rfl] at h4; omega
section RFA
variable {B : Nat → Int} {m : Nat}
def rS (B : Nat → Int) (m : Nat) (st out : List Int) (u : Int) (p : Nat) (I : (Nat → Nat → Int32)) (J : mJ) : Prop := rT B m p I J ∧ rF st out u I ∧ I 62 2 = iN 0
def RUf (k n N : Nat) (I : (Nat → Nat → Int32)) (J : mJ) : Option ((Nat → Nat → Int32) × mJ) := ((fX12_unit_L2 k 1 I J).bind fun o => fX12_unit_J101 n o.1 o.2).bind fun o => (fX12_formula_L35 n 1 o.1 o.2).bind fun o => fX12_formula_J162 N o.1 o.2
def RLf (n N : Nat) (I : (Nat → Nat → Int32)) (J : mJ) : Option ((Nat → Nat → Int32) × mJ) := (fX12_formula_L35 n 1 I J).bind fun o => fX12_formula_J162 N o.1 o.2
variable {st out : List Int} {u : Int} {p : Nat} {I : (Nat → Nat → Int32)} {J : mJ}
theorem RLf_F {n N : Nat} (hf : hasF I) : RLf (n + 1) N I J = some (I, J) := by
  obtain ⟨f1, f2⟩ := hasF_no hf
  rw [RLf, fX12_formula_L35, ite_n (by decide), ite_n f1, Option.bind_some, fX12_formula_J162]
  dsimp only
  rw [ite_n f1, fX12_formula_J181, ite_n f1]
theorem RUf_F {k n N : Nat} (hf : hasF I) : RUf (k + 1) (n + 1) N I J = some (I, J) := by
  obtain ⟨f1, f2⟩ := hasF_no hf
  have := RLf_F (n := n) (N := N) (J := J) hf
  rw [RUf, fX12_unit_L2, ite_n (by decide), ite_n f1, Option.bind_some, fX12_unit_J101]
  dsimp only
  rw [ite_p f2, Option.bind_some]
  exact this
theorem J101_F {n : Nat} (hf : hasF I) : fX12_unit_J101 n I J = some (I, J) := by
  obtain ⟨f1, f2⟩ := hasF_no hf
  rw [fX12_unit_J101, ite_p f2]
theorem rf_full (hu : 0 ≤ u ∧ u ≤ 30) (hF : rF st out u I) : fX12_isFull I = if u = 30 then iN 1 else iN 0 := by
  obtain ⟨-, -, -, f4, f5, -⟩ := hF
  rw [fX12_isFull, f4, f5]
  simp only [iN_lit]
  rw [ite_n (by rw [iN_eq (by omega) (by omega) (by omega) (by omega)]; omega)]
  by_cases e : u = 30
  · rw [ite_p (by rw [e]), if_pos e]
  · rw [ite_n (by rw [iN_eq (by omega) (by omega) (by omega) (by omega)]; exact e), if_neg e]
/-- an operand is taken -/
theorem rf_J101 (h : rS B m st out u p I J) (hi : ri true st out u) (hop : ¬ ft B m p = 100000) {n : Nat} (hn : 1700 ≤ n) :
    ((ft B m p < -6 ∨ 99999 < ft B m p) ∨ u = 30 → ∃ I', fX12_unit_J101 n I J = some (I', J) ∧ rFl B m p 2 I' ∧ xp 1 I I') ∧
    (¬ ((ft B m p < -6 ∨ 99999 < ft B m p) ∨ u = 30) → ∃ I' J', fX12_unit_J101 n I J = some (I', J') ∧ rS B m st (out ++ [ft B m p]) (u + 1) (tN B m p) I' J' ∧ xp 0 I I' ∧ xJr J J') := by
  obtain ⟨hT, hF, h2⟩ := h
  have hu := hi.1
  have hlen := ri_len hi
  have hbd := ft_bd (B := B) (m := m) (p := p)
  have hfull := rf_full hu hF
  have hask := rf_asked hT
  have hnum : (I 62 6 = 2) = (tK B m p = 2) := rf_num hT
  have f0 : ¬ (0 : Int32) < I 62 2 := by rw [h2]; decide
  have J133 : ∀ y, ∃ I', fX12_unit_J133 n y I J = some (I', J) ∧ rFl B m p 2 I' ∧ xp 1 I I' := by
    intro y
    obtain ⟨w1, w2⟩ := rf_wrong hT h2 2
    have w1 : rFl B m p 2 (fX12_wrong 2 I) := w1
    have w2 : ∀ a k, ¬ (a = 62 ∧ (k = 2 ∨ k = 3)) → fX12_wrong 2 I a k = I a k := w2
    refine ⟨fX12_wrong 2 I, ?_, w1, fun a k _ g2 => w2 a k (by omega)⟩
    rw [fX12_unit_J133, fX12_unit_J138, ite_p (hasF_no (rFl_has w1 (by omega))).2]
  constructor
  · intro hbad
    rw [fX12_unit_J101, ite_n f0]
    by_cases k2 : tK B m p = 2
    · rw [ite_p (hnum.mpr k2), fX12_unit_J126, hfull]
      have : u = 30 := by
        have := tV_in k2
        have := ft_num k2
        omega
      rw [if_pos this, ite_n (show ¬ iN 1 = (0 : Int32) from n10)]
      exact J133 _
    · rw [ite_n (fun z => k2 (hnum.mp z)), hask]
      by_cases hg : -6 ≤ ft B m p ∧ ft B m p ≤ -1
      · have hu30 : u = 30 := by omega
        rw [if_pos hg, ite_n (by show ¬ iN _ < iN 0; rw [iN_lt (by omega) (by omega) (by omega) (by omega)]; omega), fX12_unit_J126, hfull, if_pos hu30, ite_n (show ¬ iN 1 = (0 : Int32) from n10)]
        exact J133 _
      · rw [if_neg hg, ite_p (by decide)]
        exact J133 _
  · intro hok
    have hod : -6 ≤ ft B m p ∧ ft B m p ≤ 99999 := by omega
    have hu30 : ¬ u = 30 := by omega
    obtain ⟨c1, c2, c3, c4, c5, c6⟩ := id hF
    have hcu : rF st out (u + 1) (fX12_countUnit I) ∧ (∀ a k, ¬ (a = 62 ∧ (k = 20 ∨ k = 22)) → fX12_countUnit I a k = I a k) := by
      unfold fX12_countUnit
      rw [c4, c5]
      simp only [iN_lit, iN_add]
      have fr : ∀ a k, ¬ (a = 62 ∧ (k = 20 ∨ k = 22)) → (mm_up (mm_up I 62 20 (iN (u + 1))) 62 22 (iN (u + 1))) a k = I a k := fun a k g => by rw [up_o (by omega), up_o (by omega)]
      refine ⟨⟨rOut_of c1 (fr _ _ (by omega)) (fun j => fr _ _ (by omega)) (fun j => fr _ _ (by omega)), by rw [fr _ _ (by omega)]; exact c2, stkr_of c3 (fun j => fr _ _ (by omega)), by rw [up_k (by omega), up_eq], up_eq, by rw [fr _ _ (by omega)]; exact c6⟩, fr⟩
    have hlt := ft_lt (B := B) hT.1 (show ¬ ft B m p = 100002 by omega)
    have hk4 : ¬ tK B m p = 4 := fun e => by have := ft_in (B := B) (m := m) (p := p) (Or.inl e); omega
    have J160 : ∀ (x y : Int32), x = iN (rcs (ft B m p)) → y = iN (rca (ft B m p)) → ∃ I' J', ((fX12_add x y (fX12_countUnit I)).bind fun o => (fX12_token n o J).bind fun o1 => some (o1.1, o1.2)) = some (I', J') ∧ rS B m st (out ++ [ft B m p]) (u + 1) (tN B m p) I' J' ∧ xp 0 I I' ∧ xJr J J' := by
      intro x y hx hy
      obtain ⟨d1, d2, d3, d4, d5, d6⟩ := hcu.1
      obtain ⟨I1, a1, a2, a3⟩ := rf_add d1 (by omega) (c := ft B m p) hx hy
      have hT1 : rT B m p I1 J := rT_of hT (fun k hk => by rw [a3 62 k (by omega) (by omega), hcu.2 62 k (by omega)]) (fun j => by rw [a3 63 j (by omega) (by omega), hcu.2 63 j (by omega)]) rfl
      obtain ⟨I2, J2, b1, b2, b3, b4⟩ := rf_next_t hT1 hk4 hn
      refine ⟨I2, J2, by rw [a1, Option.bind_some, b1, Option.bind_some], ⟨b2, ⟨?_, ?_, ?_, ?_, ?_, ?_⟩, ?_⟩, ?_, b4⟩
      · exact rOut_of a2 (b3 _ _ (by omega)) (fun j => b3 _ _ (by omega)) (fun j => b3 _ _ (by omega))
      · rw [b3 _ _ (by omega), a3 _ _ (by omega) (by omega)]; exact d2
      · exact stkr_of d3 (fun j => by rw [b3 _ _ (by omega), a3 _ _ (by omega) (by omega)])
      · rw [b3 _ _ (by omega), a3 _ _ (by omega) (by omega)]; exact d4
      · rw [b3 _ _ (by omega), a3 _ _ (by omega) (by omega)]; exact d5
      · rw [b3 _ _ (by omega), a3 _ _ (by omega) (by omega)]; exact d6
      · rw [b3 _ _ (by omega), a3 _ _ (by omega) (by omega), hcu.2 _ _ (by omega)]; exact h2
      · intro a k g1 g2
        rw [b3 _ _ (by omega), a3 _ _ (by omega) (by omega), hcu.2 _ _ (by omega)]
    rw [fX12_unit_J101, ite_n f0]
    rcases ft_opd hod.1 hod.2 with ⟨t1, t2, t3⟩ | ⟨t1, t2, t3⟩
    · rw [ite_p (hnum.mpr t1), fX12_unit_J126, hfull, if_neg hu30, ite_p (show iN 0 = (0 : Int32) from rfl), hask, if_neg (by omega), fX12_unit_J138, ite_n f0, ite_p (by decide), fX12_unit_J160, ite_p (by decide)]
      refine J160 _ _ ?_ ?_
      · show iN 0 = _; congr 1; unfold rcs; rw [if_neg (by omega), if_neg (by omega)]
      · rw [hcu.2 62 8 (by omega), hT.2.2.2.2.2.1 t1, ← t3]
        congr 1; unfold rca; rw [if_neg (by omega), if_neg (by omega)]
    · have hl0 : ¬ (iN (-1 - ft B m p) < (0 : Int32)) := by show ¬ iN _ < iN 0; rw [iN_lt (by omega) (by omega) (by omega) (by omega)]; omega
      rw [if_pos ⟨t2, t3⟩] at hask
      rw [ite_n (fun z => by have := hnum.mp z; omega), hask, ite_n hl0, fX12_unit_J126, hfull, if_neg hu30, ite_p (show iN 0 = (0 : Int32) from rfl), fX12_unit_J138, ite_n f0, ite_n hl0, fX12_unit_J160, ite_n hl0]
      refine J160 _ _ ?_ ?_
      · show iN 1 = _; congr 1; unfold rcs; rw [if_neg (by omega), if_pos (by omega)]
      · congr 1; unfold rca; rw [if_neg (by omega), if_pos (by omega)]
/-- something is opened -/
theorem rf_open (hT : rT B m p I J) (hF : rF st out u I) (h2 : I 62 2 = iN 0) (hl : st.length ≤ 37) (hk4 : ¬ tK B m p = 4) {c : Int} (hc : c = 0 ∨ c = -7) {x : Int32} (hx : x = iN (sne c)) {n : Nat} (hn : 1700 ≤ n) : ∃ I' J', fX12_openUp n x I J = some (I', J') ∧ rS B m (c :: st) out u (tN B m p) I' J' ∧ xp 0 I I' ∧ xJr J J' := by
  obtain ⟨c1, c2, c3, c4, c5, c6⟩ := hF
  rw [fX12_openUp, c2, h2, c6]
  simp only [iN_lit, iN_add]
  have e1 : ¬ (iN (st.length : Nat) < iN 0 ∨ 160 ≤ (iN (st.length : Nat)).toNatClampNeg) := by rw [iN_lt (by omega) (by omega) (by omega) (by omega), iN_tn (by omega) (by omega)]; omega
  rw [ite_n e1, if_true, iN_tn (by omega) (by omega), show (((st.length : Nat) : Int)).toNat = st.length by omega]
  have fr : ∀ a k, ¬ (a = 69) → ¬ (a = 62 ∧ (k = 19 ∨ k = 23)) → (mm_up (mm_up (mm_up I 69 st.length x) 62 19 (iN ((st.length : Nat) + 1))) 62 23 (iN ((dp st : Nat) + 1))) a k = I a k := fun a k g1 g2 => by rw [up_o (by omega), up_o (by omega), up_o (by omega)]
  have hT1 : rT B m p (mm_up (mm_up (mm_up I 69 st.length x) 62 19 (iN ((st.length : Nat) + 1))) 62 23 (iN ((dp st : Nat) + 1))) J := rT_of hT (fun k hk => fr _ _ (by omega) (by omega)) (fun j => fr _ _ (by omega) (by omega)) rfl
  obtain ⟨I2, J2, b1, b2, b3, b4⟩ := rf_next_t hT1 hk4 hn
  rw [b1, Option.bind_some]
  refine ⟨I2, J2, rfl, ⟨b2, ⟨?_, ?_, ?_, ?_, ?_, ?_⟩, ?_⟩, ?_, b4⟩
  · exact rOut_of c1 (by rw [b3 _ _ (by omega), fr _ _ (by omega) (by omega)]) (fun j => by rw [b3 _ _ (by omega), fr _ _ (by omega) (by omega)]) (fun j => by rw [b3 _ _ (by omega), fr _ _ (by omega) (by omega)])
  · rw [b3 _ _ (by omega), up_k (by omega), up_eq, List.length_cons]; rfl
  · exact stkr_of (stkr_push c3 hx) (fun j => by rw [b3 _ _ (by omega), up_a (by omega), up_a (by omega)])
  · rw [b3 _ _ (by omega), fr _ _ (by omega) (by omega)]; exact c4
  · rw [b3 _ _ (by omega), fr _ _ (by omega) (by omega)]; exact c5
  · rw [b3 _ _ (by omega), up_eq, dp, if_pos hc]; rfl
  · rw [b3 _ _ (by omega), fr _ _ (by omega) (by omega)]; exact h2
  · intro a k g1 g2
    rw [b3 _ _ (by omega), fr _ _ (by omega) (by omega)]
/-- something is opened behind a fault -/
theorem rf_openF (hf : hasF I) (h19 : I 62 19 = iN st.length) (hl : st.length ≤ 37) (x : Int32) {n : Nat} : ∃ I', fX12_openUp n x I J = some (I', J) ∧ (∀ a k, ¬ a = 69 → ¬ (a = 62 ∧ (k = 19 ∨ k = 23)) → I' a k = I a k) := by
  rw [fX12_openUp, h19]
  simp only [iN_lit, iN_add]
  have e1 : ¬ (iN (st.length : Nat) < iN 0 ∨ 160 ≤ (iN (st.length : Nat)).toNatClampNeg) := by rw [iN_lt (by omega) (by omega) (by omega) (by omega), iN_tn (by omega) (by omega)]; omega
  rw [ite_n e1, ite_n (show ¬ I 62 2 = iN 0 from (hasF_no hf).1)]
  exact ⟨_, rfl, fun a k g1 g2 => by rw [up_o (by omega), up_o (by omega), up_o (by omega)]⟩
end RFA
