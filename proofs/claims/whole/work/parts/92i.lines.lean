/-! LINES: which line it is (written by a program in b92). -/
section LNL
variable {B : Nat → Int} {m r p : Nat} {I : (Nat → Nat → Int32)} {J : mJ} {I' : (Nat → Nat → Int32)} {J' : mJ} {W : (Nat → Int → Int)} {X : Int32} {NB NL : Nat → List Int}
theorem fl_0 {b : Bool} : (iN (bi b) = iN 0) = (b = false) := by cases b <;> simp [bi, n10]
theorem ln_0 (hT : rT B m p I' J') (hw : wfB W X NB NL) (hR : rBd W X NB NL I' J') (h51 : I' 62 51 = iN (if X = iN 0 then 0 else 1)) {n : Nat} : (tO B m p = 0 ∧ bgn W X 0 → fX12_readLine n I' J' = ((fX12_readWater n I' J').bind fun o448 => fX12_readLine_J235 n o448.1 o448.2)) ∧ (¬ (tO B m p = 0 ∧ bgn W X 0) → fX12_readLine n I' J' = fX12_readLine_J24 n I' J') := by
  have hb := hw.1
  have w1 : fX12_isWord 512736126322 I' J' = if tO B m p = 0 then iN 1 else iN 0 := rf_isw hT (k := 0) (by omega) (by decide)
  have c1 : (I' 62 51 = 0) = bgn W X 0 := by
    show (I' 62 51 = iN 0) = _
    rw [h51]
    by_cases e : X = iN 0
    · rw [if_pos e]; exact propext ⟨fun _ => e, fun _ => rfl⟩
    · rw [if_neg e]; exact propext ⟨fun z => absurd z n10, fun z => absurd z e⟩
  rw [fX12_readLine, w1]
  constructor
  · rintro ⟨e1, e2⟩
    rw [if_pos e1, ite_n (show ¬ iN 1 = (0 : Int32) from n10), ite_p (c1.mpr e2)]
  · intro h
    by_cases e1 : tO B m p = 0
    · rw [if_pos e1, ite_n (show ¬ iN 1 = (0 : Int32) from n10), ite_n (fun z => h ⟨e1, c1.mp z⟩)]
    · rw [if_neg e1, ite_p (show iN 0 = (0 : Int32) from rfl)]
theorem ln_1 (hT : rT B m p I' J') (hw : wfB W X NB NL) (hR : rBd W X NB NL I' J') (h51 : I' 62 51 = iN (if X = iN 0 then 0 else 1)) {n : Nat} : (tO B m p = 1 ∧ bgn W X 1 → fX12_readLine_J24 n I' J' = ((fX12_readCurrent n I' J').bind fun o446 => fX12_readLine_J235 n o446.1 o446.2)) ∧ (¬ (tO B m p = 1 ∧ bgn W X 1) → fX12_readLine_J24 n I' J' = fX12_readLine_J50 n I' J') := by
  have hb := hw.1
  have w1 : fX12_isWord 27995157100326516 I' J' = if tO B m p = 1 then iN 1 else iN 0 := rf_isw hT (k := 1) (by omega) (by decide)
  have c1 : (I' 62 40 < 16) = bgn W X 1 := by
    show (I' 62 40 < iN 16) = _
    rw [hR.1.2.2.1, iN_lt (by omega) (by omega) (by omega) (by omega)]
    rfl
  rw [fX12_readLine_J24, w1]
  constructor
  · rintro ⟨e1, e2⟩
    rw [if_pos e1, ite_n (show ¬ iN 1 = (0 : Int32) from n10), ite_p (c1.mpr e2)]
  · intro h
    by_cases e1 : tO B m p = 1
    · rw [if_pos e1, ite_n (show ¬ iN 1 = (0 : Int32) from n10), ite_n (fun z => h ⟨e1, c1.mp z⟩)]
    · rw [if_neg e1, ite_p (show iN 0 = (0 : Int32) from rfl)]
theorem ln_2 (hT : rT B m p I' J') (hw : wfB W X NB NL) (hR : rBd W X NB NL I' J') (h51 : I' 62 51 = iN (if X = iN 0 then 0 else 1)) {n : Nat} : (tO B m p = 2 ∧ bgn W X 2 → fX12_readLine_J50 n I' J' = ((fX12_readIron n I' J').bind fun o444 => fX12_readLine_J235 n o444.1 o444.2)) ∧ (¬ (tO B m p = 2 ∧ bgn W X 2) → fX12_readLine_J50 n I' J' = fX12_readLine_J76 n I' J') := by
  have hb := hw.1
  have w1 : fX12_isWord 1769107310 I' J' = if tO B m p = 2 then iN 1 else iN 0 := rf_isw hT (k := 2) (by omega) (by decide)
  have c1 : (I' 62 41 < 6) = bgn W X 2 := by
    show (I' 62 41 < iN 6) = _
    rw [hR.1.2.2.2.1, iN_lt (by omega) (by omega) (by omega) (by omega)]
    rfl
  rw [fX12_readLine_J50, w1]
  constructor
  · rintro ⟨e1, e2⟩
    rw [if_pos e1, ite_n (show ¬ iN 1 = (0 : Int32) from n10), ite_p (c1.mpr e2)]
  · intro h
    by_cases e1 : tO B m p = 2
    · rw [if_pos e1, ite_n (show ¬ iN 1 = (0 : Int32) from n10), ite_n (fun z => h ⟨e1, c1.mp z⟩)]
    · rw [if_neg e1, ite_p (show iN 0 = (0 : Int32) from rfl)]
theorem ln_3 (hT : rT B m p I' J') (hw : wfB W X NB NL) (hR : rBd W X NB NL I' J') (h51 : I' 62 51 = iN (if X = iN 0 then 0 else 1)) {n : Nat} : (tO B m p = 3 ∧ bgn W X 3 → fX12_readLine_J76 n I' J' = ((fX12_readBoard n I' J').bind fun o442 => fX12_readLine_J235 n o442.1 o442.2)) ∧ (¬ (tO B m p = 3 ∧ bgn W X 3) → fX12_readLine_J76 n I' J' = fX12_readLine_J101 n I' J') := by
  have hb := hw.1
  have w1 : fX12_isWord 422775452260 I' J' = if tO B m p = 3 then iN 1 else iN 0 := rf_isw hT (k := 3) (by omega) (by decide)
  have c1 : (I' 62 42 < 4) = bgn W X 3 := by
    show (I' 62 42 < iN 4) = _
    rw [hR.1.2.2.2.2.1, iN_lt (by omega) (by omega) (by omega) (by omega)]
    rfl
  rw [fX12_readLine_J76, w1]
  constructor
  · rintro ⟨e1, e2⟩
    rw [if_pos e1, ite_n (show ¬ iN 1 = (0 : Int32) from n10), ite_p (c1.mpr e2)]
  · intro h
    by_cases e1 : tO B m p = 3
    · rw [if_pos e1, ite_n (show ¬ iN 1 = (0 : Int32) from n10), ite_n (fun z => h ⟨e1, c1.mp z⟩)]
    · rw [if_neg e1, ite_p (show iN 0 = (0 : Int32) from rfl)]
theorem ln_4 (hT : rT B m p I' J') (hw : wfB W X NB NL) (hR : rBd W X NB NL I' J') (h51 : I' 62 51 = iN (if X = iN 0 then 0 else 1)) {n : Nat} : (tO B m p = 4 ∧ bgn W X 4 → fX12_readLine_J101 n I' J' = ((fX12_readLoad n I' J').bind fun o440 => fX12_readLine_J235 n o440.1 o440.2)) ∧ (¬ (tO B m p = 4 ∧ bgn W X 4) → fX12_readLine_J101 n I' J' = fX12_readLine_J127 n I' J') := by
  have hb := hw.1
  have w1 : fX12_isWord 1819238756 I' J' = if tO B m p = 4 then iN 1 else iN 0 := rf_isw hT (k := 4) (by omega) (by decide)
  have c1 : (I' 62 43 < 7) = bgn W X 4 := by
    show (I' 62 43 < iN 7) = _
    rw [hR.1.2.2.2.2.2.1, iN_lt (by omega) (by omega) (by omega) (by omega)]
    rfl
  rw [fX12_readLine_J101, w1]
  constructor
  · rintro ⟨e1, e2⟩
    rw [if_pos e1, ite_n (show ¬ iN 1 = (0 : Int32) from n10), ite_p (c1.mpr e2)]
  · intro h
    by_cases e1 : tO B m p = 4
    · rw [if_pos e1, ite_n (show ¬ iN 1 = (0 : Int32) from n10), ite_n (fun z => h ⟨e1, c1.mp z⟩)]
    · rw [if_neg e1, ite_p (show iN 0 = (0 : Int32) from rfl)]
theorem ln_5 (hT : rT B m p I' J') (hw : wfB W X NB NL) (hR : rBd W X NB NL I' J') (h51 : I' 62 51 = iN (if X = iN 0 then 0 else 1)) {n : Nat} : (tO B m p = 5 ∧ bgn W X 5 → fX12_readLine_J127 n I' J' = ((fX12_formula n I' J').bind fun o438 => fX12_readLine_J235 n o438.1 o438.2)) ∧ (¬ (tO B m p = 5 ∧ bgn W X 5) → fX12_readLine_J127 n I' J' = fX12_readLine_J151 n I' J') := by
  have hb := hw.1
  have w1 : fX12_isWord 1751474548 I' J' = if tO B m p = 5 then iN 1 else iN 0 := rf_isw hT (k := 5) (by omega) (by decide)
  have c1 : (I' 62 24 = 0) = bgn W X 5 := by
    show (I' 62 24 = iN 0) = _
    rw [hR.2.1.1, fl_0]
    rfl
  rw [fX12_readLine_J127, w1]
  constructor
  · rintro ⟨e1, e2⟩
    rw [if_pos e1, ite_n (show ¬ iN 1 = (0 : Int32) from n10), ite_p (c1.mpr e2)]
  · intro h
    by_cases e1 : tO B m p = 5
    · rw [if_pos e1, ite_n (show ¬ iN 1 = (0 : Int32) from n10), ite_n (fun z => h ⟨e1, c1.mp z⟩)]
    · rw [if_neg e1, ite_p (show iN 0 = (0 : Int32) from rfl)]
theorem ln_6 (hT : rT B m p I' J') (hw : wfB W X NB NL) (hR : rBd W X NB NL I' J') (h51 : I' 62 51 = iN (if X = iN 0 then 0 else 1)) {n : Nat} : (tO B m p = 6 ∧ bgn W X 6 → fX12_readLine_J151 n I' J' = ((fX12_told n 439905906532 0 100 (mm_up I' 62 52 1) J').bind fun o436 => fX12_readLine_J235 n (mm_up o436.2.1 62 44 o436.1) o436.2.2)) ∧ (¬ (tO B m p = 6 ∧ bgn W X 6) → fX12_readLine_J151 n I' J' = fX12_readLine_J190 n I' J') := by
  have hb := hw.1
  have w1 : fX12_isWord 439905906532 I' J' = if tO B m p = 6 then iN 1 else iN 0 := rf_isw hT (k := 6) (by omega) (by decide)
  have c1 : (I' 62 52 = 0) = bgn W X 6 := by
    show (I' 62 52 = iN 0) = _
    rw [hR.2.1.2.1, fl_0]
    rfl
  rw [fX12_readLine_J151, w1]
  constructor
  · rintro ⟨e1, e2⟩
    rw [if_pos e1, ite_n (show ¬ iN 1 = (0 : Int32) from n10), ite_p (c1.mpr e2)]
  · intro h
    by_cases e1 : tO B m p = 6
    · rw [if_pos e1, ite_n (show ¬ iN 1 = (0 : Int32) from n10), ite_n (fun z => h ⟨e1, c1.mp z⟩)]
    · rw [if_neg e1, ite_p (show iN 0 = (0 : Int32) from rfl)]
theorem ln_7 (hT : rT B m p I' J') (hw : wfB W X NB NL) (hR : rBd W X NB NL I' J') (h51 : I' 62 51 = iN (if X = iN 0 then 0 else 1)) {n : Nat} : (tO B m p = 7 ∧ bgn W X 7 → fX12_readLine_J190 n I' J' = ((fX12_told n 1685217655 0 999 (mm_up I' 62 53 1) J').bind fun o434 => fX12_readLine_J235 n (mm_up o434.2.1 62 45 o434.1) o434.2.2)) ∧ (¬ (tO B m p = 7 ∧ bgn W X 7) → fX12_readLine_J190 n I' J' = fX12_readLine_J230 n I' J') := by
  have hb := hw.1
  have w1 : fX12_isWord 1685217655 I' J' = if tO B m p = 7 then iN 1 else iN 0 := rf_isw hT (k := 7) (by omega) (by decide)
  have c1 : (I' 62 53 = 0) = bgn W X 7 := by
    show (I' 62 53 = iN 0) = _
    rw [hR.2.1.2.2, fl_0]
    rfl
  rw [fX12_readLine_J190, w1]
  constructor
  · rintro ⟨e1, e2⟩
    rw [if_pos e1, ite_n (show ¬ iN 1 = (0 : Int32) from n10), ite_p (c1.mpr e2)]
  · intro h
    by_cases e1 : tO B m p = 7
    · rw [if_pos e1, ite_n (show ¬ iN 1 = (0 : Int32) from n10), ite_n (fun z => h ⟨e1, c1.mp z⟩)]
    · rw [if_neg e1, ite_p (show iN 0 = (0 : Int32) from rfl)]
/-- no line may begin so -/
theorem ln_no (hT : rT B m p I' J') (hw : wfB W X NB NL) (hR : rBd W X NB NL I' J') (h51 : I' 62 51 = iN (if X = iN 0 then 0 else 1)) {n : Nat} (h : ∀ k : Nat, k < 8 → ¬ (tO B m p = k ∧ bgn W X k)) : fX12_readLine n I' J' = fX12_readLine_J235 n (fX12_wrong 2 I') J' := by
  rw [(ln_0 hT hw hR h51).2 (h 0 (by omega)), (ln_1 hT hw hR h51).2 (h 1 (by omega)), (ln_2 hT hw hR h51).2 (h 2 (by omega)), (ln_3 hT hw hR h51).2 (h 3 (by omega)), (ln_4 hT hw hR h51).2 (h 4 (by omega)), (ln_5 hT hw hR h51).2 (h 5 (by omega)), (ln_6 hT hw hR h51).2 (h 6 (by omega)), (ln_7 hT hw hR h51).2 (h 7 (by omega)), fX12_readLine_J230]
theorem ln_at0 (hT : rT B m p I' J') (hw : wfB W X NB NL) (hR : rBd W X NB NL I' J') (h51 : I' 62 51 = iN (if X = iN 0 then 0 else 1)) {n : Nat} (h : tO B m p = 0 ∧ bgn W X 0) : fX12_readLine n I' J' = ((fX12_readWater n I' J').bind fun o448 => fX12_readLine_J235 n o448.1 o448.2) := by
  rw [(ln_0 hT hw hR h51).1 h]
theorem ln_at1 (hT : rT B m p I' J') (hw : wfB W X NB NL) (hR : rBd W X NB NL I' J') (h51 : I' 62 51 = iN (if X = iN 0 then 0 else 1)) {n : Nat} (h : tO B m p = 1 ∧ bgn W X 1) : fX12_readLine n I' J' = ((fX12_readCurrent n I' J').bind fun o446 => fX12_readLine_J235 n o446.1 o446.2) := by
  rw [(ln_0 hT hw hR h51).2 (fun z => by have := z.1; omega), (ln_1 hT hw hR h51).1 h]
theorem ln_at2 (hT : rT B m p I' J') (hw : wfB W X NB NL) (hR : rBd W X NB NL I' J') (h51 : I' 62 51 = iN (if X = iN 0 then 0 else 1)) {n : Nat} (h : tO B m p = 2 ∧ bgn W X 2) : fX12_readLine n I' J' = ((fX12_readIron n I' J').bind fun o444 => fX12_readLine_J235 n o444.1 o444.2) := by
  rw [(ln_0 hT hw hR h51).2 (fun z => by have := z.1; omega), (ln_1 hT hw hR h51).2 (fun z => by have := z.1; omega), (ln_2 hT hw hR h51).1 h]
theorem ln_at3 (hT : rT B m p I' J') (hw : wfB W X NB NL) (hR : rBd W X NB NL I' J') (h51 : I' 62 51 = iN (if X = iN 0 then 0 else 1)) {n : Nat} (h : tO B m p = 3 ∧ bgn W X 3) : fX12_readLine n I' J' = ((fX12_readBoard n I' J').bind fun o442 => fX12_readLine_J235 n o442.1 o442.2) := by
  rw [(ln_0 hT hw hR h51).2 (fun z => by have := z.1; omega), (ln_1 hT hw hR h51).2 (fun z => by have := z.1; omega), (ln_2 hT hw hR h51).2 (fun z => by have := z.1; omega), (ln_3 hT hw hR h51).1 h]
theorem ln_at4 (hT : rT B m p I' J') (hw : wfB W X NB NL) (hR : rBd W X NB NL I' J') (h51 : I' 62 51 = iN (if X = iN 0 then 0 else 1)) {n : Nat} (h : tO B m p = 4 ∧ bgn W X 4) : fX12_readLine n I' J' = ((fX12_readLoad n I' J').bind fun o440 => fX12_readLine_J235 n o440.1 o440.2) := by
  rw [(ln_0 hT hw hR h51).2 (fun z => by have := z.1; omega), (ln_1 hT hw hR h51).2 (fun z => by have := z.1; omega), (ln_2 hT hw hR h51).2 (fun z => by have := z.1; omega), (ln_3 hT hw hR h51).2 (fun z => by have := z.1; omega), (ln_4 hT hw hR h51).1 h]
theorem ln_at5 (hT : rT B m p I' J') (hw : wfB W X NB NL) (hR : rBd W X NB NL I' J') (h51 : I' 62 51 = iN (if X = iN 0 then 0 else 1)) {n : Nat} (h : tO B m p = 5 ∧ bgn W X 5) : fX12_readLine n I' J' = ((fX12_formula n I' J').bind fun o438 => fX12_readLine_J235 n o438.1 o438.2) := by
  rw [(ln_0 hT hw hR h51).2 (fun z => by have := z.1; omega), (ln_1 hT hw hR h51).2 (fun z => by have := z.1; omega), (ln_2 hT hw hR h51).2 (fun z => by have := z.1; omega), (ln_3 hT hw hR h51).2 (fun z => by have := z.1; omega), (ln_4 hT hw hR h51).2 (fun z => by have := z.1; omega), (ln_5 hT hw hR h51).1 h]
theorem ln_at6 (hT : rT B m p I' J') (hw : wfB W X NB NL) (hR : rBd W X NB NL I' J') (h51 : I' 62 51 = iN (if X = iN 0 then 0 else 1)) {n : Nat} (h : tO B m p = 6 ∧ bgn W X 6) : fX12_readLine n I' J' = ((fX12_told n 439905906532 0 100 (mm_up I' 62 52 1) J').bind fun o436 => fX12_readLine_J235 n (mm_up o436.2.1 62 44 o436.1) o436.2.2) := by
  rw [(ln_0 hT hw hR h51).2 (fun z => by have := z.1; omega), (ln_1 hT hw hR h51).2 (fun z => by have := z.1; omega), (ln_2 hT hw hR h51).2 (fun z => by have := z.1; omega), (ln_3 hT hw hR h51).2 (fun z => by have := z.1; omega), (ln_4 hT hw hR h51).2 (fun z => by have := z.1; omega), (ln_5 hT hw hR h51).2 (fun z => by have := z.1; omega), (ln_6 hT hw hR h51).1 h]
theorem ln_at7 (hT : rT B m p I' J') (hw : wfB W X NB NL) (hR : rBd W X NB NL I' J') (h51 : I' 62 51 = iN (if X = iN 0 then 0 else 1)) {n : Nat} (h : tO B m p = 7 ∧ bgn W X 7) : fX12_readLine n I' J' = ((fX12_told n 1685217655 0 999 (mm_up I' 62 53 1) J').bind fun o434 => fX12_readLine_J235 n (mm_up o434.2.1 62 45 o434.1) o434.2.2) := by
  rw [(ln_0 hT hw hR h51).2 (fun z => by have := z.1; omega), (ln_1 hT hw hR h51).2 (fun z => by have := z.1; omega), (ln_2 hT hw hR h51).2 (fun z => by have := z.1; omega), (ln_3 hT hw hR h51).2 (fun z => by have := z.1; omega), (ln_4 hT hw hR h51).2 (fun z => by have := z.1; omega), (ln_5 hT hw hR h51).2 (fun z => by have := z.1; omega), (ln_6 hT hw hR h51).2 (fun z => by have := z.1; omega), (ln_7 hT hw hR h51).1 h]
theorem LN_cur (hr0 : r = 3 ∨ r = 19) (hw : wfB W X NB NL) (hX : ¬ X = iN 0) (hm : W 0 8 < 16) (hT : TT B m p I J I' J') (hc : cBd W X NB NL r I J) (hR : rBd W X NB NL I' J') (f1 : I 16 11 = iN 0) (f2 : I 16 12 = iN (-1)) (f3 : I' 62 3 = iN (-1)) {n : Nat} (hn : 1700 ≤ n) :
    LN B m r p I J I' J' (fX4_readCurrent n I J r) ((fX12_toldNumber n 0 7 I' J').bind fun o378 => (fX12_want n 24948 o378.2.1 o378.2.2).bind fun o379 => (fX12_readCell_72 n 0 ((o379.1 62 39) - 1) o379.1 o379.2).bind fun o388 => (if 0 < (o388.2.1 62 2) then some (o388.2.1, o388.2.2) else (if o388.1 < 0 ∨ 56 ≤ o388.1.toNatClampNeg then none else some ((mm_up (mm_up o388.2.1 72 o388.1.toNatClampNeg o378.1) 62 40 ((o388.2.1 62 40) + 1)), o388.2.2))).bind fun o446 => fX12_readLine_J235 n o446.1 o446.2) := by
  /- a fault: the reference is through -/
  have tail : ∀ (v : Int32) (M : (Nat → Nat → Int32)) (L : mJ), hasF M → (fX12_readCell_72 n 0 ((M 62 39) - 1) M L).bind (fun o388 => (if 0 < (o388.2.1 62 2) then some (o388.2.1, o388.2.2) else (if o388.1 < 0 ∨ 56 ≤ o388.1.toNatClampNeg then none else some ((mm_up (mm_up o388.2.1 72 o388.1.toNatClampNeg v) 62 40 ((o388.2.1 62 40) + 1)), o388.2.2))).bind fun o446 => fX12_readLine_J235 n o446.1 o446.2) = fX12_readLine_J235 n M L := by
    intro v M L hf
    rw [fX12_readCell_72, num_F hf, Option.bind_some]
    dsimp only
    rw [ite_n (hasF_no hf).1, fX12_readCell_72_J64, num_F hf, Option.bind_some, Option.bind_some]
    dsimp only
    rw [ite_p (hasF_no hf).2, Option.bind_some]
  rw [fX4_readCurrent]
  rcases bt_num hT (lo := 0) (hi := 7) (by omega) (by omega) hn with ⟨I1, x, I1', b1, b2, b3, b4, b5⟩ | ⟨v, I1, J1, I1', J1', hv, b1, b2, b3, b4, b5, b6, b7, b8⟩
  · have b1 : fX4_passNumber n 0 7 I J = some (iN (-1), I1, J) := b1
    have b2 : fX12_toldNumber n 0 7 I' J' = some (x, I1', J') := b2
    rw [b1, b2, Option.bind_some, Option.bind_some]
    dsimp only
    rw [ite_p (show iN (-1) = (-1 : Int32) from rfl), want_F (FF_has b3), Option.bind_some]
    dsimp only
    rw [tail _ _ _ (FF_has b3)]
    exact LN_F b3 (lC_f b4) lCJ_refl (lR_f b5) lRJ_refl
  · have b1 : fX4_passNumber n 0 7 I J = some (iN v, I1, J1) := b1
    have b2 : fX12_toldNumber n 0 7 I' J' = some (iN v, I1', J1') := b2
    rw [b1, b2, Option.bind_some, Option.bind_some]
    dsimp only
    rw [ite_n (show ¬ iN v = (-1 : Int32) by show ¬ iN v = iN (-1); rw [iN_eq (by omega) (by omega) (by omega) (by omega)]; omega)]
    rcases bt_word b3 (k := 9) (by omega) (x := 24948) (by decide) hn with ⟨I2, I2', c1, c2, c3, c4, c5⟩ | ⟨I2, J2, I2', J2', c1, c2, c3, c4, c5, c6, c7, c8⟩
    · have c1 : fX4_passWord n 9 I1 J1 = some (iN 0, I2, J1) := c1
      rw [c1, c2, Option.bind_some, Option.bind_some]
      dsimp only
      rw [ite_p (show iN 0 = (0 : Int32) from rfl), tail _ _ _ (FF_has c3)]
      exact LN_F c3 (lC_trans (lC_k b5) (lC_f c4)) (lCJ_k b6) (lR_trans (lR_r b7) (lR_f c5)) (lRJ_r b8)
    · have c1 : fX4_passWord n 9 I1 J1 = some (iN 1, I2, J2) := c1
      rw [c1, c2, Option.bind_some, Option.bind_some]
      dsimp only
      rw [ite_n (show ¬ iN 1 = (0 : Int32) from n10)]
      have := LN_cur0 hr0 hw hX hm hv c3 (cBd_k hr0 (cBd_k hr0 hc b5 b6) c5 c6) (rBd_r (rBd_r hR b7 b8) c7 c8) (by rw [c5 _ _ (by omega), b5 _ _ (by omega)]; exact f1) (by rw [c5 _ _ (by omega), b5 _ _ (by omega)]; exact f2) (by rw [c7 _ _ (by omega), b7 _ _ (by omega)]; exact f3) hn
      exact LN_x this (by omega) (lC_trans (lC_k b5) (lC_k c5)) (lCJ_trans (lCJ_k b6) (lCJ_k c6)) (lR_trans (lR_r b7) (lR_r c7)) (lRJ_trans (lRJ_r b8) (lRJ_r c8))
theorem bit_set {k c : Int} (hk : 0 ≤ k ∧ k < 32) (hc : 0 ≤ c ∧ c < 32) : bit (X ||| (iN 1 <<< iN k)) c = (bit X c || decide (c = k)) := by rw [bit_or, bit_shl1 hk.1 hk.2 hc.1 hc.2]
set_option maxHeartbeats 4000000 in
/-- A LINE -/
theorem LN_line (hr0 : r = 3 ∨ r = 19) (h : sm2 B m r W X NB NL p I J I' J') {n : Nat} (hn : 3500 ≤ n) : LN B m r p I J I' J' (fX4_readLine n I J r) (fX12_readLine n I' J') := by
  obtain ⟨hw, hT, hc, hR, h51, f1, f2, f3⟩ := h
  have hb := hw.1
  have hK : tK B m p = 0 ∨ tK B m p = 1 ∨ tK B m p = 2 ∨ tK B m p = 3 ∨ tK B m p = 4 := tKq_in
  have hO := tO_in B m p
  have h5 : I 16 5 = iN (tK B m p) := hT.1.2.2.2.2.1
  have h7 : I 16 7 = iN (tO B m p) := hT.1.2.2.2.2.2.2.2.1
  have h9 : I 16 9 = X := hc.1
  by_cases hbg : ∃ k : Nat, k < 8 ∧ tO B m p = k ∧ bgn W X k
  · obtain ⟨k, k8, ok, bk⟩ := hbg
    have k1 : tK B m p = 1 := ((tO_word (by omega)).mp ok).1
    have hmb : ¬ fX4_mayBegin (I 16 7) I r = 0 := by rw [h7, ok]; exact fun z => (cl_bgn hw hc k8).mp z bk
    have e31 : (I 16 7) &&& (31 : Int32) = iN k := by rw [h7, ok]; exact iN_31 (by omega) (by omega)
    rw [fX4_readLine, ite_p (show I 16 5 = (1 : Int32) by rw [h5, k1]; rfl), ite_n hmb, e31, h9]
    have hbits : ∀ c : Int, 0 ≤ c ∧ c < 32 → bit (X ||| (iN 1 <<< iN k)) c = (bit X c || decide (c = k)) := fun c hc => bit_set (by omega) hc
    have hX' : ¬ (X ||| (iN 1 <<< iN k)) = iN 0 := by
      intro z
      have := hbits k (by omega)
      rw [z, bit_0] at this
      simp at this
    obtain ⟨X', hXe⟩ : ∃ X', X' = (X ||| (iN 1 <<< iN (k : Nat))) := ⟨_, rfl⟩
    rw [← hXe] at hX'
    rw [show (X ||| ((1 : Int32) <<< iN (k : Nat))) = X' from hXe.symm]
    have hbits : ∀ c : Int, 0 ≤ c ∧ c < 32 → bit X' c = (bit X c || decide (c = k)) := fun c hc => by rw [hXe]; exact hbits c hc
    have hT0 : TT B m p (mm_up I 16 9 X') J I' J' := TT_up hT hr0 (fun a q _ h2 => up_o (by omega)) (fun _ _ _ _ => rfl)
    have hc0 := cBd_9 hr0 hc X'
    obtain ⟨I1, J1, I1', J1', a1, a2, a3, a4, a5, a6, a7⟩ := bt_adv hT0 (by omega) (n := n) (by omega)
    have hlt := ((tN_in (B := B) hT.1.1).2.2 (by omega)).2.2
    have hc1 := cBd_k hr0 hc0 a4 a5
    have hR1 := rBd_r hR a6 a7
    have g1 : I1 16 11 = iN 0 := by rw [a4 _ _ (by omega), up_k (by omega)]; exact f1
    have g2 : I1 16 12 = iN (-1) := by rw [a4 _ _ (by omega), up_k (by omega)]; exact f2
    have g3 : I1' 62 3 = iN (-1) := by rw [a6 _ _ (by omega)]; exact f3
    have xx : ∀ {c : Option (Int32 × (Nat → Nat → Int32) × mJ)} {f : Option ((Nat → Nat → Int32) × mJ)}, LN B m r (tN B m p) I1 J1 I1' J1' c f → LN B m r p I J I' J' c f := fun q => LN_x q (by omega) (lC_trans (fun a q h1 _ => up_o (by omega)) (lC_k a4)) (lCJ_k a5) (lR_r a6) (lRJ_r a7)
    rw [a1, Option.bind_some]
    dsimp only
    have i7 : ∀ j : Int, 0 ≤ j ∧ j < 8 → (I 16 7 = iN j) = ((k : Int) = j) := fun j hj => by rw [h7, ok, iN_eq (by omega) (by omega) (by omega) (by omega)]
    have n7 : ∀ j : Int, 0 ≤ j ∧ j < 8 → ¬ (k : Int) = j → ¬ I 16 7 = iN j := fun j hj hk z => hk ((i7 j hj).mp z)
    have keep5 : ¬ k = 5 → bit X' 5 = bit X 5 := fun z => by rw [hbits 5 (by omega), decide_eq_false (by omega), Bool.or_false]
    have keep6 : ¬ k = 6 → bit X' 6 = bit X 6 := fun z => by rw [hbits 6 (by omega), decide_eq_false (by omega), Bool.or_false]
    have keep7 : ¬ k = 7 → bit X' 7 = bit X 7 := fun z => by rw [hbits 7 (by omega), decide_eq_false (by omega), Bool.or_false]
    rcases (show k = 0 ∨ k = 1 ∨ k = 2 ∨ k = 3 ∨ k = 4 ∨ k = 5 ∨ k = 6 ∨ k = 7 by omega) with rfl | rfl | rfl | rfl | rfl | rfl | rfl | rfl
    · rw [ite_p (show I 16 7 = (0 : Int32) from (i7 0 (by omega)).mpr rfl), ln_at0 hT.2.1 hw hR h51 ⟨ok, bk⟩, fX12_readWater, a2, Option.bind_some]
      have hq := LN_w (LN_water hr0 (wfB_X hw (keep5 (by omega)) hX') hX' (hw.2.2.2.2.2.2.2.1 bk) a3 hc1 (rBd_X hR1 (keep5 (by omega)) (keep6 (by omega)) (keep7 (by omega))) g1 g2 g3 (n := n) (by omega))
      simp only [Option.bind_assoc, Option.bind_some]
      exact xx hq
    · rw [ite_n (show ¬ I 16 7 = (0 : Int32) from n7 0 (by omega) (by omega)), ite_p (show I 16 7 = (1 : Int32) from (i7 1 (by omega)).mpr rfl), ln_at1 hT.2.1 hw hR h51 ⟨ok, bk⟩, fX12_readCurrent, a2, Option.bind_some]
      simp only [Option.bind_assoc]
      refine xx (LN_w ?_)
      exact LN_cur hr0 (wfB_X hw (keep5 (by omega)) hX') hX' bk a3 hc1 (rBd_X hR1 (keep5 (by omega)) (keep6 (by omega)) (keep7 (by omega))) g1 g2 g3 (n := n) (by omega)
    · rw [ite_n (show ¬ I 16 7 = (0 : Int32) from n7 0 (by omega) (by omega)), ite_n (show ¬ I 16 7 = (1 : Int32) from n7 1 (by omega) (by omega)), ite_p (show I 16 7 = (2 : Int32) from (i7 2 (by omega)).mpr rfl), ln_at2 hT.2.1 hw hR h51 ⟨ok, bk⟩, fX12_readIron, a2, Option.bind_some]
      simp only [Option.bind_assoc]
      refine xx (LN_w ?_)
      rw [fX4_readIron]
      exact LN_iro0 hr0 (wfB_X hw (keep5 (by omega)) hX') hX' bk (v := 1) rfl a3 hc1 (rBd_X hR1 (keep5 (by omega)) (keep6 (by omega)) (keep7 (by omega))) g1 g2 g3 (n := n) (by omega)
    · rw [ite_n (show ¬ I 16 7 = (0 : Int32) from n7 0 (by omega) (by omega)), ite_n (show ¬ I 16 7 = (1 : Int32) from n7 1 (by omega) (by omega)), ite_n (show ¬ I 16 7 = (2 : Int32) from n7 2 (by omega) (by omega)), ite_p (show I 16 7 = (3 : Int32) from (i7 3 (by omega)).mpr rfl), ln_at3 hT.2.1 hw hR h51 ⟨ok, bk⟩, fX12_readBoard, fX12_newName, a2, Option.bind_some, hR.1.2.2.2.2.1]
      refine xx (LN_w ?_)
      have hq := LN_board hr0 (wfB_X hw (keep5 (by omega)) hX') hX' bk a3 hc1 (rBd_X hR1 (keep5 (by omega)) (keep6 (by omega)) (keep7 (by omega))) g1 g2 g3 (n := n) (by omega)
      rw [Option.bind_assoc]
      exact hq
    · rw [ite_n (show ¬ I 16 7 = (0 : Int32) from n7 0 (by omega) (by omega)), ite_n (show ¬ I 16 7 = (1 : Int32) from n7 1 (by omega) (by omega)), ite_n (show ¬ I 16 7 = (2 : Int32) from n7 2 (by omega) (by omega)), ite_n (show ¬ I 16 7 = (3 : Int32) from n7 3 (by omega) (by omega)), ite_p (show I 16 7 = (4 : Int32) from (i7 4 (by omega)).mpr rfl), ln_at4 hT.2.1 hw hR h51 ⟨ok, bk⟩, fX12_readLoad, fX12_newName, a2, Option.bind_some, hR.1.2.2.2.2.2.1]
      refine xx (LN_w ?_)
      have hq := LN_load hr0 (wfB_X hw (keep5 (by omega)) hX') hX' bk a3 hc1 (rBd_X hR1 (keep5 (by omega)) (keep6 (by omega)) (keep7 (by omega))) g1 g2 g3 (n := n) (by omega)
      simp only [Option.bind_assoc]
      exact hq
    · rw [ite_n (show ¬ I 16 7 = (0 : Int32) from n7 0 (by omega) (by omega)), ite_n (show ¬ I 16 7 = (1 : Int32) from n7 1 (by omega) (by omega)), ite_n (show ¬ I 16 7 = (2 : Int32) from n7 2 (by omega) (by omega)), ite_n (show ¬ I 16 7 = (3 : Int32) from n7 3 (by omega) (by omega)), ite_n (show ¬ I 16 7 = (4 : Int32) from n7 4 (by omega) (by omega)), ite_p (show I 16 7 = (5 : Int32) from (i7 5 (by omega)).mpr rfl), ln_at5 hT.2.1 hw hR h51 ⟨ok, bk⟩, fX12_formula, a2, Option.bind_some]
      have h55 : bit X' 5 = true := by rw [hbits 5 (by omega), decide_eq_true (by omega), Bool.or_true]
      exact xx (LN_heat hr0 hw hX' bk h55 (keep6 (by omega)) (keep7 (by omega)) a3 hc1 hR1 g1 g2 g3 hn)
    · rw [ite_n (show ¬ I 16 7 = (0 : Int32) from n7 0 (by omega) (by omega)), ite_n (show ¬ I 16 7 = (1 : Int32) from n7 1 (by omega) (by omega)), ite_n (show ¬ I 16 7 = (2 : Int32) from n7 2 (by omega) (by omega)), ite_n (show ¬ I 16 7 = (3 : Int32) from n7 3 (by omega) (by omega)), ite_n (show ¬ I 16 7 = (4 : Int32) from n7 4 (by omega) (by omega)), ite_n (show ¬ I 16 7 = (5 : Int32) from n7 5 (by omega) (by omega)), ite_p (show I 16 7 = (6 : Int32) from (i7 6 (by omega)).mpr rfl), ln_at6 hT.2.1 hw hR h51 ⟨ok, bk⟩, fX12_told]
      have hTm : TT B m p (mm_up I 16 9 X') J (mm_up I' 62 52 1) J' := TT_up hT0 hr0 (fun _ _ _ _ => rfl) (fun a q h1 h2 => up_o (by omega))
      obtain ⟨I2, J2, I2', J2', c1, c2, c3, c4, c5, c6, c7⟩ := bt_adv hTm (by omega) (n := n) (by omega)
      rw [a1] at c1
      have c1 := Option.some.inj c1
      cases c1
      have hwant : fX12_want n 439905906532 (mm_up I' 62 52 1) J' = some (I2', J2') := by
        rw [fX12_want, ite_n (show ¬ (0 : Int32) < (mm_up I' 62 52 1) 62 2 by rw [hTm.2.2]; decide), rf_isw hTm.2.1 (k := 6) (by omega) (by decide), if_pos ok, ite_n (show ¬ iN 1 = (0 : Int32) from n10), c2, Option.bind_some]
      rw [hwant, Option.bind_some]
      have hkk : bit X' 6 = true := by rw [hbits 6 (by omega), decide_eq_true (by omega), Bool.or_true]
      have hRm : rBd W X' NB NL (mm_up I' 62 52 1) J' := by
        obtain ⟨⟨q1, q2, q3, q4, q5, q6, q7, q8, q9⟩, ⟨r1, r2, r3⟩, ⟨b1, b2, b3, b4, b5, b6⟩, d, n1, n2⟩ := hR
        have hh : ∀ {a : Nat} {n : Int} {F : Int → Int}, ¬ a = 62 → hr I' a n F → hr (mm_up I' 62 52 1) a n F := fun ha h z h1 h2 => by rw [up_a ha]; exact h z h1 h2
        refine ⟨⟨?_, ?_, ?_, ?_, ?_, ?_, ?_, ?_, ?_⟩, ⟨?_, ?_, ?_⟩, ⟨hh (by omega) b1, hh (by omega) b2, hh (by omega) b3, hh (by omega) b4, hh (by omega) b5, hh (by omega) b6⟩, ?_, n1, n2⟩
        any_goals (rw [up_k (by omega)]; assumption)
        · rw [up_k (by omega), keep5 (by omega)]; exact r1
        · rw [up_eq, hkk]; rfl
        · rw [up_k (by omega), keep7 (by omega)]; exact r3
        · rw [keep5 (by omega)]; exact fun z => ⟨by rw [up_k (by omega)]; exact (d z).1, hh (by omega) (d z).2.1, hh (by omega) (d z).2.2⟩
      have hq := LN_one hr0 (wfB_X hw (keep5 (by omega)) hX') hX' c3 hc1 (rBd_r hRm c6 c7) g1 g2 (by rw [c6 _ _ (by omega), up_k (by omega)]; exact f3) (n := n) (by omega) (hi := 100) (i := 4) (j := 44) (k := 6) (by omega)
      have hq := LN_w (LN_x hq (p0 := p) (by omega) (I0 := I) (J0 := J) (I0' := I') (J0' := J') (lC_trans (fun a q h1 _ => up_o (by omega)) (lC_k a4)) (lCJ_k a5) (lR_trans (lR_up (by omega)) (lR_r c6)) (lRJ_r c7))
      simp only [Option.bind_assoc, Option.bind_some]
      exact hq
    · rw [ite_n (show ¬ I 16 7 = (0 : Int32) from n7 0 (by omega) (by omega)), ite_n (show ¬ I 16 7 = (1 : Int32) from n7 1 (by omega) (by omega)), ite_n (show ¬ I 16 7 = (2 : Int32) from n7 2 (by omega) (by omega)), ite_n (show ¬ I 16 7 = (3 : Int32) from n7 3 (by omega) (by omega)), ite_n (show ¬ I 16 7 = (4 : Int32) from n7 4 (by omega) (by omega)), ite_n (show ¬ I 16 7 = (5 : Int32) from n7 5 (by omega) (by omega)), ite_n (show ¬ I 16 7 = (6 : Int32) from n7 6 (by omega) (by omega)), ln_at7 hT.2.1 hw hR h51 ⟨ok, bk⟩, fX12_told]
      have hTm : TT B m p (mm_up I 16 9 X') J (mm_up I' 62 53 1) J' := TT_up hT0 hr0 (fun _ _ _ _ => rfl) (fun a q h1 h2 => up_o (by omega))
      obtain ⟨I2, J2, I2', J2', c1, c2, c3, c4, c5, c6, c7⟩ := bt_adv hTm (by omega) (n := n) (by omega)
      rw [a1] at c1
      have c1 := Option.some.inj c1
      cases c1
      have hwant : fX12_want n 1685217655 (mm_up I' 62 53 1) J' = some (I2', J2') := by
        rw [fX12_want, ite_n (show ¬ (0 : Int32) < (mm_up I' 62 53 1) 62 2 by rw [hTm.2.2]; decide), rf_isw hTm.2.1 (k := 7) (by omega) (by decide), if_pos ok, ite_n (show ¬ iN 1 = (0 : Int32) from n10), c2, Option.bind_some]
      rw [hwant, Option.bind_some]
      have hkk : bit X' 7 = true := by rw [hbits 7 (by omega), decide_eq_true (by omega), Bool.or_true]
      have hRm : rBd W X' NB NL (mm_up I' 62 53 1) J' := by
        obtain ⟨⟨q1, q2, q3, q4, q5, q6, q7, q8, q9⟩, ⟨r1, r2, r3⟩, ⟨b1, b2, b3, b4, b5, b6⟩, d, n1, n2⟩ := hR
        have hh : ∀ {a : Nat} {n : Int} {F : Int → Int}, ¬ a = 62 → hr I' a n F → hr (mm_up I' 62 53 1) a n F := fun ha h z h1 h2 => by rw [up_a ha]; exact h z h1 h2
        refine ⟨⟨?_, ?_, ?_, ?_, ?_, ?_, ?_, ?_, ?_⟩, ⟨?_, ?_, ?_⟩, ⟨hh (by omega) b1, hh (by omega) b2, hh (by omega) b3, hh (by omega) b4, hh (by omega) b5, hh (by omega) b6⟩, ?_, n1, n2⟩
        any_goals (rw [up_k (by omega)]; assumption)
        · rw [up_k (by omega), keep5 (by omega)]; exact r1
        · rw [up_k (by omega), keep6 (by omega)]; exact r2
        · rw [up_eq, hkk]; rfl
        · rw [keep5 (by omega)]; exact fun z => ⟨by rw [up_k (by omega)]; exact (d z).1, hh (by omega) (d z).2.1, hh (by omega) (d z).2.2⟩
      have hq := LN_one hr0 (wfB_X hw (keep5 (by omega)) hX') hX' c3 hc1 (rBd_r hRm c6 c7) g1 g2 (by rw [c6 _ _ (by omega), up_k (by omega)]; exact f3) (n := n) (by omega) (hi := 999) (i := 7) (j := 45) (k := 7) (by omega)
      have hq := LN_w (LN_x hq (p0 := p) (by omega) (I0 := I) (J0 := J) (I0' := I') (J0' := J') (lC_trans (fun a q h1 _ => up_o (by omega)) (lC_k a4)) (lCJ_k a5) (lR_trans (lR_up (by omega)) (lR_r c6)) (lRJ_r c7))
      simp only [Option.bind_assoc, Option.bind_some]
      exact hq
  · have hno : ∀ k : Nat, k < 8 → ¬ (tO B m p = k ∧ bgn W X k) := fun k hk z => hbg ⟨k, hk, z⟩
    rw [ln_no hT.2.1 hw hR h51 hno]
    obtain ⟨I1, I1', b1, b2, b3, b4, b5⟩ := bt_ref hT (j := 2) (by omega)
    have b1 : fX4_refuse 2 I = (iN 0, I1) := b1
    have b2 : fX12_wrong 2 I' = I1' := b2
    have hcl : fX4_readLine n I J r = some (iN 0, I1, J) := by
      have last : (if (fX4_refuse 2 I).1 = 0 ∨ (fX4_refuse 2 I).1 = 1 then some ((fX4_refuse 2 I).1, (fX4_refuse 2 I).2, J) else none) = some (iN 0, I1, J) := by rw [b1]; exact if_pos (Or.inl rfl)
      rw [fX4_readLine]
      by_cases k1 : tK B m p = 1
      · have hmb : fX4_mayBegin (I 16 7) I r = 0 := by
          rw [h7]
          by_cases k8 : 0 ≤ tO B m p ∧ tO B m p < 8
          · have := cl_bgn hw hc (k := (tO B m p).toNat) (by omega)
            rw [show (((tO B m p).toNat : Nat) : Int) = tO B m p by omega] at this
            exact this.mpr (fun z => hno (tO B m p).toNat (by omega) ⟨by omega, z⟩)
          · exact cl_bgn_no (by omega)
        rw [ite_p (show I 16 5 = (1 : Int32) by rw [h5, k1]; rfl), ite_p hmb, last]
      · rw [ite_n (show ¬ I 16 5 = (1 : Int32) by rw [h5]; show ¬ iN _ = iN 1; rw [iN_eq (by omega) (by omega) (by omega) (by omega)]; exact k1), ite_p (show fX4_mayBegin (-1) I r = 0 from (cl_bgn_no (k := -1) (by omega) : fX4_mayBegin (iN (-1)) I r = 0)), last]
    rw [hcl, b2]
    exact LN_F b3 (lC_f b4) lCJ_refl (lR_f b5) lRJ_refl
end LNL
