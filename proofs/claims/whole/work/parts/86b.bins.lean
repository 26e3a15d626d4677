/-! Trips and stowing: the class. -/
theorem vP_room {V : (Nat → Int → Int)} (hw : wfV V) (S : Int → Int) (tm : Bool) (B n : Nat) : ∀ (R H : Int → Int) (u l : Int) (t : List Int) (v : Int), 0 ≤ l → l + n ≤ V 0 3 → t ∈ cs S B n l → vP V S tm R H u l t = some v → ∀ i : Nat, i < n → S (20 + (l + i)) = -1 → ∃ b : Nat, b < B ∧ V 6 (l + i) ≤ R b := by
  induction n with
  | zero => intro R H u l t v _ _ _ _ i hi; omega
  | succ n ih =>
    intro R H u l t v l0 l1 ht hv i hi hn
    have hw6 := hw.2.2.2.2.1 l l0 (by omega)
    rw [cs] at ht
    split at ht
    · next en =>
      rw [List.mem_flatMap] at ht
      obtain ⟨a, ha, ht⟩ := ht
      rw [List.mem_map] at ht
      obtain ⟨s, hs, rfl⟩ := ht
      rw [vP, if_pos en] at hv
      split at hv
      · next hc =>
        obtain ⟨v0, h1, _⟩ := Option.map_eq_some_iff.mp hv
        by_cases e : i = 0
        · subst e
          exact ⟨a, List.mem_range.mp ha, by rw [show l + ((0 : Nat) : Int) = l by omega]; exact hc.1⟩
        · obtain ⟨j, rfl⟩ : ∃ j, i = j + 1 := ⟨i - 1, by omega⟩
          have eq : l + ((j + 1 : Nat) : Int) = l + 1 + j := by omega
          rw [eq] at hn ⊢
          obtain ⟨b, b1, b2⟩ := ih _ _ _ (l + 1) s v0 (by omega) (by omega) hs h1 j (by omega) hn
          refine ⟨b, b1, ?_⟩
          unfold ud at b2
          split at b2
          · next e => rw [e]; omega
          · exact b2
      · cases hv
    · next en =>
      rw [List.mem_map] at ht
      obtain ⟨s, hs, rfl⟩ := ht
      rw [vP, if_neg en] at hv
      by_cases e : i = 0
      · subst e
        rw [show l + ((0 : Nat) : Int) = l by omega] at hn
        exact absurd hn en
      · obtain ⟨j, rfl⟩ : ∃ j, i = j + 1 := ⟨i - 1, by omega⟩
        have eq : l + ((j + 1 : Nat) : Int) = l + 1 + j := by omega
        rw [eq] at hn ⊢
        exact ih _ _ _ (l + 1) s v (by omega) (by omega) hs hv j (by omega) hn
def lay0 (x : Option (Int × List Int)) : List Int := match x with
  | none => []
  | some (_, t) => t
def xP (V : (Nat → Int → Int)) (S : Int → Int) (tm : Bool) (B : Nat) (R : Int → Int) : Option (Int × List Int) := fmin (vP V S tm R (fun _ => 0) 0 0) none (cs S B (V 0 3).toNat 0)
theorem xP_in {V : (Nat → Int → Int)} (hw : wfV V) {S : Int → Int} {tm : Bool} {B : Nat} {R : Int → Int} {v : Int} {t : List Int} (h : xP V S tm B R = some (v, t)) : (0 ≤ v ∧ v ≤ 7) ∧ t.length = (V 0 3).toNat := by
  have hu := hw.1
  have hm := fmin_mem _ _ _ _ _ h
  rcases hm with hm | ⟨m1, m2⟩
  · cases hm
  have h1 := vP_in S tm t R (fun _ => 0) 0 0 v m2
  have h2 := cs_len S B _ 0 t m1
  exact ⟨by omega, h2⟩
section BIN
variable {V : (Nat → Int → Int)} {S : Int → Int} {r : Nat} {I : (Nat → Nat → Int32)}
theorem cl_room {B : Nat} (hB : B ≤ 7) {R : Int → Int} (h4 : I 45 4 = iN B) (hR : hr I 46 B R) (hb : ∀ b : Int, 0 ≤ b → b < B → -1000 ≤ R b ∧ R b ≤ 1000) {w : Int} (hw : 0 ≤ w ∧ w ≤ 99) {n : Nat} (hn : 12 ≤ n) : (fX9_hasRoomFor n (iN w) I = some (iN 1) ∧ ∃ b : Nat, b < B ∧ w ≤ R b) ∨ (fX9_hasRoomFor n (iN w) I = some (iN 0) ∧ ¬ ∃ b : Nat, b < B ∧ w ≤ R b) := by
  have key : ∀ (j m a : Nat), a + j = B → j < m → (¬ ∃ b : Nat, b < a ∧ w ≤ R b) → (fX9_hasRoomFor_L2 m (iN w) (iN a) I = some (.inl (iN 1)) ∧ ∃ b : Nat, b < B ∧ w ≤ R b) ∨ (fX9_hasRoomFor_L2 m (iN w) (iN a) I = some (.inr ()) ∧ ¬ ∃ b : Nat, b < B ∧ w ≤ R b) := by
    intro j
    induction j with
    | zero =>
      intro m a ha hm hno
      obtain ⟨m, rfl⟩ : ∃ m', m = m' + 1 := ⟨m - 1, by omega⟩
      right
      refine ⟨?_, by rw [← show a = B by omega]; exact hno⟩
      rw [fX9_hasRoomFor_L2, h4, show iN (a : Int) = iN (B : Int) by congr 1; omega, if_neg (iN_ir _)]
    | succ j ih =>
      intro m a ha hm hno
      obtain ⟨m, rfl⟩ : ∃ m', m = m' + 1 := ⟨m - 1, by omega⟩
      have hba := hb a (by omega) (by omega)
      have k46 : mf_pick I 46 7 (iN a) = iN (R a) := by rw [iN_pick (by omega) (by omega) (by omega)]; exact hR a (by omega) (by omega)
      rw [fX9_hasRoomFor_L2, h4, k46]
      simp (disch := omega) only [iN_lit, iN_add, iN_sub, iN_mul, iN_neg, iN_lt, iN_eq, iN_tn, if_true, if_false, if_pos, if_neg]
      by_cases e : R a < w
      · rw [if_pos e]
        exact ih m (a + 1) (by omega) (by omega) (by
          rintro ⟨b, b1, b2⟩
          by_cases eb : b = a
          · subst eb; omega
          · exact hno ⟨b, by omega, b2⟩)
      · rw [if_neg e]
        left
        exact ⟨rfl, a, by omega, by omega⟩
  have := key B n 0 (by omega) (by omega) (by rintro ⟨b, b1, _⟩; omega)
  rw [fX9_hasRoomFor]
  simp only [iN_lit]
  rcases this with ⟨h1, h2⟩ | ⟨h1, h2⟩
  · left
    have h1' : fX9_hasRoomFor_L2 n (iN w) (iN 0) I = some (.inl (iN 1)) := h1
    rw [h1']
    exact ⟨rfl, h2⟩
  · right
    have h1' : fX9_hasRoomFor_L2 n (iN w) (iN 0) I = some (.inr ()) := h1
    rw [h1']
    exact ⟨rfl, h2⟩
theorem cl_fewst (hr0 : r = 3 ∨ r = 19) (h : cOK V S r I) {B : Nat} (hB : B ≤ 7) {tm : Bool} {R : Int → Int} (h4 : I 45 4 = iN B) (h5 : I 45 5 = iN (if tm = true then 1 else 0)) (hR : hr I 46 B R) (hb : ∀ b : Int, 0 ≤ b → b < B → -1000 ≤ R b ∧ R b ≤ 1000) {n : Nat} (hn : 60 ≤ n) :
    ∃ I', fX9_findFewest n I r = some (iN (worth (-1) (xP V S tm B R)), I') ∧ ex [45, 46, 47, 48, 49] I I' ∧ ∀ z : Nat, z < (lay0 (xP V S tm B R)).length → I' 49 z = iN ((lay0 (xP V S tm B R)).getD z 0) := by
  have hu := h.1.1
  have hv := h.2.2.1.1.2.2.2.1
  -- a quick look
  have key : ∀ (j m l : Nat), l + j = (V 0 3).toNat → 20 + j ≤ m → (fX9_findFewest_L2 m (iN l) I r = some (.inr ())) ∨ (fX9_findFewest_L2 m (iN l) I r = some (.inl (iN (-1))) ∧ ∃ i : Nat, i < (V 0 3).toNat ∧ S (20 + i) = -1 ∧ ¬ ∃ b : Nat, b < B ∧ V 6 i ≤ R b) := by
    intro j
    induction j with
    | zero =>
      intro m l hl hm
      obtain ⟨m, rfl⟩ : ∃ m', m = m' + 1 := ⟨m - 1, by omega⟩
      left
      rw [fX9_findFewest_L2, hv]
      simp (disch := omega) only [iN_lit, iN_add, iN_sub, iN_mul, iN_neg, iN_lt, iN_eq, iN_tn, if_true, if_false, if_pos, if_neg]
    | succ j ih =>
      intro m l hl hm
      obtain ⟨m, rfl⟩ : ∃ m', m = m' + 1 := ⟨m - 1, by omega⟩
      have hw6 := h.1.2.2.2.2.1 (l : Int) (by omega) (by omega)
      have hpl := h.2.1.2.1 (l : Int) (by omega) (by omega)
      rw [fX9_findFewest_L2, hv, cl_place h.1 h.2.2.2 (by omega) (by omega), cl_lwd h (by omega) (by omega)]
      simp (disch := omega) only [iN_lit, iN_add, iN_sub, iN_mul, iN_neg, iN_lt, iN_eq, iN_tn, if_true, if_false, if_pos, if_neg]
      by_cases e : S (20 + l) = -1
      · rw [if_pos e]
        rcases cl_room hB h4 hR hb (w := V 6 l) (by omega) (n := m) (by omega) with ⟨q1, q2⟩ | ⟨q1, q2⟩
        · rw [q1, Option.bind_some, ite_n n10]
          exact ih m (l + 1) (by omega) (by omega)
        · rw [q1, Option.bind_some, ite_p rfl]
          right
          exact ⟨rfl, l, by omega, e, q2⟩
      · rw [if_neg e]
        exact ih m (l + 1) (by omega) (by omega)
  rw [fX9_findFewest]
  simp only [iN_lit, iN_neg]
  rcases key (V 0 3).toNat n 0 (by omega) (by omega) with q | ⟨q, i, i1, i2, i3⟩
  · have q' : fX9_findFewest_L2 n (iN 0) I r = some (.inr ()) := q
    rw [q', Option.bind_some]
    dsimp only
    have x1 : ex [45, 46, 47, 48, 49] I (mf_fill (mm_up I 45 6 (iN 8)) 47 7 (iN 0)) := ex_trans (ex_up (by decide)) (ex_fill (by decide))
    have c1 := cOK_ex h x1 (by rcases hr0 with rfl | rfl <;> decide)
    obtain ⟨I', g1, g2, g3, g4, _⟩ := cl_plc hr0 hB (tm := tm) (F := vP V S tm R (fun _ => 0) 0 0) (n := n) (by omega) (V 0 3).toNat 9 [] 0 none R (fun _ => 0) (mf_fill (mm_up I 45 6 (iN 8)) 47 7 (iN 0)) c1 (by simp) (by omega) ⟨by rw [fill_a (by decide), up_k (by decide)]; exact h4, by rw [fill_a (by decide), up_k (by decide)]; exact h5, fun z z0 z1 => by rw [fill_a (by decide), up_a (by decide)]; exact hR z z0 z1, fun z z0 z1 => by rw [fill_eq (by omega)]⟩ (fun b b0 b1 => by have := hb b b0 b1; simp; omega) (by simp) (by intro _ b b0 b1; simp; omega) ⟨by rw [fill_a (by decide), up_eq]; rfl, by rw [worth]; omega, by intro v t e; cases e⟩ (by intro z hz; exact absurd hz (by simp)) (by
        intro s
        rw [List.nil_append]
        have : (fun v : Int => v + 0) = id := by funext v; show v + 0 = v; omega
        rw [this, Option.map_id]
        rfl)
    have em : (cs S B (V 0 3).toNat (([] : List Int).length : Int)).map (fun s => ([] : List Int) ++ s) = cs S B (V 0 3).toNat 0 := by simp
    rw [em] at g4
    have g4' : stP V (xP V S tm B R) I' := g4
    have g1' : fX9_place n 9 (iN 0) (iN 0) (mf_fill (mm_up I 45 6 (iN 8)) 47 7 (iN 0)) r = some I' := g1
    rw [g1', Option.bind_some]
    obtain ⟨y1, y2, y3⟩ := g4'
    refine ⟨I', ?_, ex_trans x1 g2, ?_⟩
    · rw [y1]
      cases e : xP V S tm B R with
      | none => exact if_pos rfl
      | some p =>
        obtain ⟨v, t⟩ := p
        have := xP_in h.1 e
        show (if iN v = iN 8 then _ else _) = _
        rw [if_neg (by rw [iN_eq (by omega) (by omega) (by omega) (by omega)]; omega)]
        rfl
    · intro z hz
      cases e : xP V S tm B R with
      | none => rw [e] at hz; exact absurd hz (by simp [lay0])
      | some p =>
        obtain ⟨v, t⟩ := p
        have := xP_in h.1 e
        rw [e] at hz
        have hz' : z < t.length := hz
        exact (y3 v t e).2 z (by omega)
  · have q' : fX9_findFewest_L2 n (iN 0) I r = some (.inl (iN (-1))) := q
    rw [q', Option.bind_some]
    have : xP V S tm B R = none := by
      apply fmin_none
      intro t ht
      cases e : vP V S tm R (fun _ => 0) 0 0 t with
      | none => rfl
      | some v =>
        have := vP_room h.1 S tm B (V 0 3).toNat R (fun _ => 0) 0 0 t v (by omega) (by omega) ht e i i1 (by rw [Int.zero_add]; exact i2)
        rw [Int.zero_add] at this
        exact absurd this i3
    rw [this]
    exact ⟨I, rfl, ex_refl, by intro z hz; exact absurd hz (by simp [lay0])⟩
def sTr (V : (Nat → Int → Int)) (S : Int → Int) (b : Int) : Option (Int × List Int) := if 0 ≤ b ∧ b < V 0 2 then xP V S true 7 (fun _ => V 3 b) else none
def rmS (V : (Nat → Int → Int)) (S : Int → Int) (b : Int) : Int := if S (4 + b) = 0 then V 3 b - burd V S b else -1
def sSw (V : (Nat → Int → Int)) (S : Int → Int) : Option (Int × List Int) := xP V S false (V 0 2).toNat (rmS V S)
theorem cl_binlay (hr0 : r = 3 ∨ r = 19) {I2 : (Nat → Nat → Int32)} (h2 : cOK V S r I2) (h35 : I2 35 1 = iN 0) {x : Option (Int × List Int)} (hx : ∀ v t, x = some (v, t) → (0 ≤ v ∧ v ≤ 7) ∧ t.length = (V 0 3).toNat) (h49 : ∀ z : Nat, z < (lay0 x).length → I2 49 z = iN ((lay0 x).getD z 0)) {n : Nat} (hn : 12 ≤ n) :
    ∃ I', (if iN (worth (-1) x) = iN (-1) then some (iN (worth (-1) x), I2) else (fX3_addAll_49 n (I2 r 5) I2).bind fun o => some (iN (worth (-1) x), o)) = some (iN (worth (-1) x), I') ∧ ex [35, 36] I2 I' ∧ cl (lay0 x) I' := by
  have hu := h2.1.1
  rcases x with _ | ⟨v, t⟩
  · exact ⟨I2, if_pos rfl, ex_refl, h35, by intro z hz; exact absurd hz (by simp [lay0])⟩
  · obtain ⟨hv, ht⟩ := hx v t rfl
    obtain ⟨I3, a1, a2, a3⟩ := cl_all_49 (I := I2) (l := lay0 (some (v, t))) (by rw [lay0]; omega) h35 h49 hn
    refine ⟨I3, ?_, a2, a3⟩
    show (if iN v = iN (-1) then _ else _) = _
    rw [if_neg (by rw [iN_eq (by omega) (by omega) (by omega) (by omega)]; omega), h2.2.2.1.1.2.2.2.1, show iN (V 0 3) = iN ((lay0 (some (v, t))).length : Int) by rw [lay0, ht]; congr 1; omega, a1, Option.bind_some]
theorem cl_Trips (hr0 : r = 3 ∨ r = 19) (h : cOK V S r I) {b : Int} (hb : -2147483648 ≤ b ∧ b < 2147483648) {n : Nat} (hn : 100 ≤ n) : ∃ I', fX11_trips n (iN b) I r = some (iN (worth (-1) (sTr V S b)), I') ∧ ex [35, 36, 45, 46, 47, 48, 49] I I' ∧ cl (lay0 (sTr V S b)) I' := by
  have hu := h.1.1
  have h1 : cOK V S r (fX3_clear I) := cOK_ex h clr_ex (by rcases hr0 with rfl | rfl <;> decide)
  have xx : ex [35, 36, 45, 46, 47, 48, 49] I (fX3_clear I) := ex_mono clr_ex (by decide)
  rw [fX11_trips, cl_board h1 hb]
  simp only [iN_lit, iN_neg]
  by_cases hb' : 0 ≤ b ∧ b < V 0 2
  · have hbe := h.1.2.2.2.1 b hb'.1 hb'.2
    rw [if_pos hb', ite_n n10, fX9_findTrips]
    simp only [iN_lit]
    have e2 : ex [45] (fX3_clear I) (mm_up (mm_up (fX3_clear I) 45 4 (iN 7)) 45 5 (iN 1)) := ex_trans (ex_up (by decide)) (ex_up (by decide))
    have c2 := cOK_ex h1 e2 (by rcases hr0 with rfl | rfl <;> decide)
    rw [cl_wd c2 hb'.1 hb'.2]
    have e3 : ex [45, 46] (fX3_clear I) (mf_fill (mm_up (mm_up (fX3_clear I) 45 4 (iN 7)) 45 5 (iN 1)) 46 7 (iN (V 3 b))) := ex_trans (ex_mono e2 (by decide)) (ex_fill (by decide))
    have c3 := cOK_ex h1 e3 (by rcases hr0 with rfl | rfl <;> decide)
    obtain ⟨I2, g1, g2, g3⟩ := cl_fewst hr0 c3 (B := 7) (by omega) (tm := true) (R := fun _ => V 3 b) (by rw [fill_a (by decide), up_k (by decide), up_eq]; rfl) (by rw [fill_a (by decide), up_eq]; rfl) (fun z z0 z1 => by rw [fill_eq (by omega)]) (by intro z _ _; show -1000 ≤ V 3 b ∧ V 3 b ≤ 1000; omega) (n := n) (by omega)
    have es : sTr V S b = xP V S true 7 (fun _ => V 3 b) := by unfold sTr; rw [if_pos hb']
    rw [← es] at g1 g3
    rw [g1, Option.bind_some, Option.bind_some]
    have e4 : ex [45, 46, 47, 48, 49] (fX3_clear I) I2 := ex_trans (ex_mono e3 (by decide)) g2
    have c4 := cOK_ex h1 e4 (by rcases hr0 with rfl | rfl <;> decide)
    obtain ⟨I3, f1, f2, f3⟩ := cl_binlay hr0 c4 (by rw [e4 35 (by decide)]; exact clr_cl.1) (x := sTr V S b) (fun v t e => xP_in h.1 (es ▸ e)) g3 (n := n) (by omega)
    exact ⟨I3, f1, ex_trans xx (ex_trans (ex_mono e4 (by decide)) (ex_mono f2 (by decide))), f3⟩
  · rw [if_neg hb', ite_p rfl]
    have : sTr V S b = none := by unfold sTr; rw [if_neg hb']
    rw [this]
    exact ⟨_, rfl, xx, clr_cl⟩
theorem cl_Stow (hr0 : r = 3 ∨ r = 19) (h : cOK V S r I) {n : Nat} (hn : 100 ≤ n) : ∃ I', fX11_stowing n I r = some (iN (worth (-1) (sSw V S)), I') ∧ ex [35, 36, 45, 46, 47, 48, 49] I I' ∧ cl (lay0 (sSw V S)) I' := by
  have hu := h.1.1
  have h1 : cOK V S r (fX3_clear I) := cOK_ex h clr_ex (by rcases hr0 with rfl | rfl <;> decide)
  have xx : ex [35, 36, 45, 46, 47, 48, 49] I (fX3_clear I) := ex_mono clr_ex (by decide)
  rw [fX11_stowing, fX9_findStowing, h1.2.2.1.1.2.2.1]
  simp only [iN_lit, iN_neg]
  have e2 : ex [45] (fX3_clear I) (mm_up (mm_up (fX3_clear I) 45 4 (iN (V 0 2))) 45 5 (iN 0)) := ex_trans (ex_up (by decide)) (ex_up (by decide))
  have c2 := cOK_ex h1 e2 (by rcases hr0 with rfl | rfl <;> decide)
  have hrm : ∀ b : Int, 0 ≤ b → b < V 0 2 → -1000 ≤ rmS V S b ∧ rmS V S b ≤ 1000 := by
    intro b b0 b1
    have hbe := h.1.2.2.2.1 b b0 b1
    have hB := bur_lo h.1 (S := S) (b := b) (V 0 3).toNat (by omega)
    have hBd : burd V S b = bur V S b (V 0 3).toNat := rfl
    unfold rmS
    split <;> omega
  obtain ⟨n', I', q1, q2, q3, q4⟩ := loop (fun n k J => fX9_findStowing_L21 n (iN k) J r) 20 (P := V 0 2) (fun k J => ex [46] (mm_up (mm_up (fX3_clear I) 45 4 (iN (V 0 2))) 45 5 (iN 0)) J ∧ ∀ b : Int, 0 ≤ b → b < k → J 46 b.toNat = iN (rmS V S b))
    (by
      intro n k J hn k0 k1 ⟨hx, hz⟩
      have hc := cOK_ex c2 hx (by rcases hr0 with rfl | rfl <;> decide)
      have hs := h.2.1.1 k k0 k1
      have h45 : J 45 4 = iN (V 0 2) := by rw [hx 45 (by decide), up_k (by decide), up_eq]
      refine ⟨mm_up J 46 k.toNat (iN (rmS V S k)), ?_, ex_trans hx (ex_up (by decide)), ?_⟩
      · show fX9_findStowing_L21 (n + 1) _ _ _ = _
        rw [fX9_findStowing_L21, h45, cl_burden h.1 hc.2.2.1 hc.2.2.2 (by omega) (wfS_pl h.2.1 h.1) (by omega), cl_row h.1 hc.2.2.2 k0 k1, cl_wd hc k0 k1]
        simp (disch := omega) only [iN_lit, iN_add, iN_sub, iN_mul, iN_neg, iN_lt, iN_eq, iN_tn, if_true, if_false, if_pos, if_neg, iN_put, Option.bind_some]
        unfold rmS
        by_cases e : S (4 + k) = 0
        · rw [if_pos e, if_pos e]
        · rw [if_neg e, if_neg e]
      · intro b b0 b1
        rw [up_c]
        by_cases eb : b = k
        · rw [if_pos (by omega), eb]
        · rw [if_neg (by omega)]; exact hz b b0 (by omega)) (V 0 2).toNat n 0 (mm_up (mm_up (fX3_clear I) 45 4 (iN (V 0 2))) 45 5 (iN 0)) (by omega) (by omega) ⟨ex_refl, by intro z h1 h2; omega⟩ (by omega)
  have q2' : fX9_findStowing_L21 n (iN 0) (mm_up (mm_up (fX3_clear I) 45 4 (iN (V 0 2))) 45 5 (iN 0)) r = some I' := by
    have : fX9_findStowing_L21 n (iN 0) (mm_up (mm_up (fX3_clear I) 45 4 (iN (V 0 2))) 45 5 (iN 0)) r = fX9_findStowing_L21 n' (iN (V 0 2)) I' r := q2
    rw [this]
    obtain ⟨n', rfl⟩ : ∃ m, n' = m + 1 := ⟨n' - 1, by omega⟩
    rw [fX9_findStowing_L21, q3 45 (by decide), up_k (by decide), up_eq]
    simp (disch := omega) only [iN_lit, iN_add, iN_sub, iN_mul, iN_neg, iN_lt, iN_eq, iN_tn, if_true, if_false, if_pos, if_neg]
  rw [q2', Option.bind_some]
  have e3 : ex [45, 46] (fX3_clear I) I' := ex_trans (ex_mono e2 (by decide)) (ex_mono q3 (by decide))
  have c3 := cOK_ex h1 e3 (by rcases hr0 with rfl | rfl <;> decide)
  obtain ⟨I2, g1, g2, g3⟩ := cl_fewst hr0 c3 (B := (V 0 2).toNat) (by omega) (tm := false) (R := rmS V S) (by rw [q3 45 (by decide), up_k (by decide), up_eq]; congr 1; omega) (by rw [q3 45 (by decide), up_eq]; rfl) (fun z z0 z1 => q4 z z0 (by omega)) (fun b b0 b1 => hrm b b0 (by omega)) (n := n) (by omega)
  have es : sSw V S = xP V S false (V 0 2).toNat (rmS V S) := rfl
  rw [← es] at g1 g3
  rw [g1, Option.bind_some, Option.bind_some]
  have e4 : ex [45, 46, 47, 48, 49] (fX3_clear I) I2 := ex_trans (ex_mono e3 (by decide)) g2
  have c4 := cOK_ex h1 e4 (by rcases hr0 with rfl | rfl <;> decide)
  obtain ⟨I3, f1, f2, f3⟩ := cl_binlay hr0 c4 (by rw [e4 35 (by decide)]; exact clr_cl.1) (x := sSw V S) (fun v t e => xP_in h.1 (es ▸ e)) g3 (n := n) (by omega)
  exact ⟨I3, f1, ex_trans xx (ex_trans (ex_mono e4 (by decide)) (ex_mono f2 (by decide))), f3⟩
end BIN
