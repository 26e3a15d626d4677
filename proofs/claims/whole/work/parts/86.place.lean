/-! Loads into bins: the class's search. -/
theorem ud_back {R : Int → Int} {a x y : Int} (h : y = R a) : ud (ud R a x) a y = R := by
  funext j
  unfold ud
  by_cases e : j = a
  · rw [if_pos e, h, e]
  · rw [if_neg e, if_neg e]
/-- how many bins more are used by a list of bins, or none if it can't be so -/
def vP (V : (Nat → Int → Int)) (S : Int → Int) (tm : Bool) (R H : Int → Int) (u l : Int) (t : List Int) : Option Int := match t with
  | [] => some 0
  | a :: t => if S (20 + l) = -1 then (if V 6 l ≤ R a ∧ (tm = true → a ≤ u) then (vP V S tm (ud R a (R a - V 6 l)) (ud H a (H a + 1)) (if H a = 0 then u + 1 else u) (l + 1) t).map (fun v => v + (if H a = 0 then 1 else 0)) else none) else vP V S tm R H u (l + 1) t
/-- the lists of bins; -1 for what isn't near -/
def cs (S : Int → Int) (B : Nat) (n : Nat) (l : Int) : List (List Int) := match n with
  | 0 => [[]]
  | n + 1 => if S (20 + l) = -1 then (List.range B).flatMap (fun (a : Nat) => (cs S B n (l + 1)).map (fun t => (a : Int) :: t)) else (cs S B n (l + 1)).map (fun t => (-1 : Int) :: t)
theorem dgs_gen (f : List Int → Option Int) (L : List (List Int)) (p : List Int) (x : Option (Int × List Int)) (m : Nat) : fmin f x (((List.range m).flatMap (fun (a : Nat) => L.map (fun t => (a : Int) :: t))).map (fun s => p ++ s)) = dgs f L (fun n => (n : Int)) p x m := by
  induction m with
  | zero => rfl
  | succ m ih =>
    rw [List.range_succ, List.flatMap_append, List.map_append, fmin_app, ih, dgs]
    congr 1
    rw [List.flatMap_cons, List.flatMap_nil, List.append_nil, List.map_map]
    rfl
theorem vP_in {V : (Nat → Int → Int)} (S : Int → Int) (tm : Bool) (t : List Int) : ∀ (R H : Int → Int) (u l v : Int), vP V S tm R H u l t = some v → 0 ≤ v ∧ v ≤ t.length := by
  induction t with
  | nil => intro R H u l v h; rw [vP] at h; injection h with h; simp; omega
  | cons a t ih =>
    intro R H u l v h
    rw [vP] at h
    rw [List.length_cons]
    split at h
    · split at h
      · obtain ⟨w, h1, h2⟩ := Option.map_eq_some_iff.mp h
        have := ih _ _ _ _ _ h1
        split at h2 <;> omega
      · cases h
    · have := ih _ _ _ _ _ h
      omega
theorem cs_len (S : Int → Int) (B n : Nat) : ∀ (l : Int), ∀ t ∈ cs S B n l, t.length = n := by
  induction n with
  | zero => intro l t h; rw [cs, List.mem_singleton] at h; rw [h]; rfl
  | succ n ih =>
    intro l t h
    rw [cs] at h
    split at h
    · rw [List.mem_flatMap] at h
      obtain ⟨a, _, h⟩ := h
      rw [List.mem_map] at h
      obtain ⟨s, hs, rfl⟩ := h
      rw [List.length_cons, ih _ s hs]
    · rw [List.mem_map] at h
      obtain ⟨s, hs, rfl⟩ := h
      rw [List.length_cons, ih _ s hs]
/-- the class's fewest so far -/
def stP (V : (Nat → Int → Int)) (x : Option (Int × List Int)) (I : (Nat → Nat → Int32)) : Prop := I 45 6 = iN (worth 8 x) ∧ (0 ≤ worth 8 x ∧ worth 8 x ≤ 8) ∧ ∀ v t, x = some (v, t) → v ≤ 7 ∧ ∀ z : Nat, z < (V 0 3).toNat → I 49 z = iN (t.getD z 0)
theorem stP_of {V : (Nat → Int → Int)} {x : Option (Int × List Int)} {I I' : (Nat → Nat → Int32)} (h : stP V x I) (e1 : I' 45 = I 45) (e2 : I' 49 = I 49) : stP V x I' := by
  unfold stP at *
  rw [e1, e2]
  exact h
/-- the search's state: bins, turn, room, held -/
def sP (B : Nat) (tm : Bool) (R H : Int → Int) (I : (Nat → Nat → Int32)) : Prop := I 45 4 = iN B ∧ I 45 5 = iN (if tm = true then 1 else 0) ∧ hr I 46 B R ∧ hr I 47 B H
section PLA
variable {V : (Nat → Int → Int)} {S : Int → Int} {r : Nat}
theorem cl_plc (hr0 : r = 3 ∨ r = 19) {B : Nat} (hB : B ≤ 7) {tm : Bool} {F : List Int → Option Int} {n : Nat} (hn : 30 ≤ n) (k : Nat) : ∀ (d : Nat) (p : List Int) (u : Int) (x : Option (Int × List Int)) (R H : Int → Int) (I : (Nat → Nat → Int32)), cOK V S r I → p.length + k = (V 0 3).toNat → k < d → sP B tm R H I → (∀ b : Int, 0 ≤ b → b < B → -1000 ≤ R b ∧ R b ≤ 1000 ∧ 0 ≤ H b ∧ H b ≤ p.length) → (0 ≤ u ∧ u ≤ p.length) → (tm = true → ∀ b : Int, 0 ≤ b → b < B → (H b = 0 ↔ u ≤ b)) → stP V x I → (∀ z : Nat, z < p.length → I 48 z = iN (p.getD z 0)) → (∀ s, F (p ++ s) = (vP V S tm R H u p.length s).map (fun v => v + u)) →
    ∃ I', fX9_place n d (iN p.length) (iN u) I r = some I' ∧ ex [45, 46, 47, 48, 49] I I' ∧ sP B tm R H I' ∧ stP V (fmin F x ((cs S B k p.length).map (fun s => p ++ s))) I' ∧ ∀ z : Nat, z < p.length → I' 48 z = I 48 z := by
  induction k with
  | zero =>
    intro d p u x R H I h hp hd hs hb hu0 htm hx h48 hf
    have hu := h.1.1
    obtain ⟨d, rfl⟩ : ∃ m, d = m + 1 := ⟨d - 1, by omega⟩
    have hf0 := hf []
    rw [List.append_nil, vP, Option.map_some, Int.zero_add] at hf0
    have e0 : (cs S B 0 p.length).map (fun s => p ++ s) = [p] := by rw [cs, List.map_singleton, List.append_nil]
    rw [e0]
    show ∃ I', fX9_place_B n _ _ _ I r = some I' ∧ _
    have hv := h.2.2.1.1.2.2.2.1
    obtain ⟨x1, x2, x3⟩ := hx
    rw [fX9_place_B, x1, hv]
    simp (disch := omega) only [iN_lt]
    by_cases e : u < worth 8 x
    · rw [if_pos e, if_neg (by omega)]
      have fe : fmin F x [p] = some (u, p) := by
        show fm F x p = _
        rw [fm, hf0]
        rcases x with _ | ⟨w, t⟩
        · rfl
        · rw [worth] at e
          show (if _ < w then _ else _) = _
          rw [if_pos e]
      rw [fe]
      refine ⟨_, rfl, ?_, ?_, ?_, ?_⟩
      · intro a ha
        rw [row_a (fun e => ha (by rw [e]; simp)), up_a (fun e => ha (by rw [e]; simp))]
      · obtain ⟨s1, s2, s3, s4⟩ := hs
        exact ⟨by rw [row_a (by decide), up_k (by decide)]; exact s1, by rw [row_a (by decide), up_k (by decide)]; exact s2, fun z z0 z1 => by rw [row_a (by decide), up_a (by decide)]; exact s3 z z0 z1, fun z z0 z1 => by rw [row_a (by decide), up_a (by decide)]; exact s4 z z0 z1⟩
      · refine ⟨by rw [row_a (by decide), up_eq]; rfl, by rw [worth]; omega, ?_⟩
        intro v t e2
        injection e2 with e2
        injection e2 with e3 e4
        subst e3 e4
        refine ⟨by omega, ?_⟩
        intro z hz
        rw [row_eq, va_cpy, if_pos (by omega), up_a (by decide), show 0 + (z - 0) = z by omega]
        exact h48 z (by omega)
      · intro z hz
        rw [row_a (by decide), up_a (by decide)]
    · rw [if_neg e]
      have fe : fmin F x [p] = x := by
        show fm F x p = _
        rw [fm, hf0]
        rcases x with _ | ⟨w, t⟩
        · rw [worth] at e; omega
        · rw [worth] at e
          show (if _ < w then _ else _) = _
          rw [if_neg e]
      rw [fe]
      exact ⟨I, rfl, ex_refl, hs, ⟨x1, x2, x3⟩, fun _ _ => rfl⟩
  | succ k ih =>
    intro d p u x R H I h hp hd hs hb hu0 htm hx h48 hf
    have hu := h.1.1
    obtain ⟨d, rfl⟩ : ∃ m, d = m + 1 := ⟨d - 1, by omega⟩
    have hv := h.2.2.1.1.2.2.2.1
    have hpl := h.2.1.2.1 (p.length : Int) (by omega) (by omega)
    have hw6 := h.1.2.2.2.2.1 (p.length : Int) (by omega) (by omega)
    have hx0 := hx
    obtain ⟨x1, x2, x3⟩ := hx
    -- one more entry
    have rec1 : ∀ (a : Int) (u' : Int) (R' H' : Int → Int) (x : Option (Int × List Int)) (J : (Nat → Nat → Int32)), ex [45, 46, 47, 48, 49] I J → sP B tm R' H' J → (∀ b : Int, 0 ≤ b → b < B → -1000 ≤ R' b ∧ R' b ≤ 1000 ∧ 0 ≤ H' b ∧ H' b ≤ p.length + 1) → (0 ≤ u' ∧ u' ≤ p.length + 1) → (tm = true → ∀ b : Int, 0 ≤ b → b < B → (H' b = 0 ↔ u' ≤ b)) → stP V x J → (∀ z : Nat, z < p.length → J 48 z = I 48 z) → J 48 p.length = iN a → (∀ s, F (p ++ a :: s) = (vP V S tm R' H' u' (p.length + 1) s).map (fun v => v + u')) →
        ∃ I', fX9_place n d (iN (p.length + 1)) (iN u') J r = some I' ∧ ex [45, 46, 47, 48, 49] I I' ∧ sP B tm R' H' I' ∧ stP V (fmin F x ((cs S B k (p.length + 1)).map (fun s => p ++ a :: s))) I' ∧ ∀ z : Nat, z < p.length → I' 48 z = I 48 z := by
      intro a u' R' H' x J hxJ hsJ hbJ huJ htJ hxx hJ hJa hF
      have pl : (p ++ [a]).length = p.length + 1 := by simp
      have pl' : ((p ++ [a]).length : Int) = (p.length : Int) + 1 := by rw [pl]; omega
      obtain ⟨I', g1, g2, g3, g4, g5⟩ := ih d (p ++ [a]) u' x R' H' J (cOK_ex h hxJ (by rcases hr0 with rfl | rfl <;> decide)) (by omega) (by omega) hsJ (by rw [pl']; exact hbJ) (by rw [pl']; exact huJ) htJ hxx (by
        intro z hz
        rw [pl] at hz
        by_cases e : z = p.length
        · subst e; rw [hJa, gd_r rfl]
        · rw [gd_l (by omega), hJ z (by omega)]; exact h48 z (by omega)) (by
        intro s
        rw [List.append_assoc, pl']
        exact hF s)
      rw [pl'] at g1 g4
      rw [pl] at g5
      refine ⟨I', g1, ex_trans hxJ g2, g3, ?_, ?_⟩
      · have : (fun s => p ++ [a] ++ s) = (fun t => p ++ a :: t) := by funext t; rw [List.append_assoc]; rfl
        rw [this] at g4
        exact g4
      · intro z hz
        rw [g5 z (by omega)]
        exact hJ z hz
    rw [show fX9_place n (d + 1) (iN p.length) (iN u) I r = fX9_place_B n (fX9_place n d) (iN p.length) (iN u) I r from rfl, fX9_place_B, x1, hv, cl_place h.1 h.2.2.2 (by omega) (by omega)]
    by_cases e : u < worth 8 x
    · rw [ite_p (by rw [iN_lt (by omega) (by omega) (by omega) (by omega)]; exact e), ite_p (by rw [iN_lt (by omega) (by omega) (by omega) (by omega)]; omega)]
      simp only [iN_lit, iN_neg, iN_add]
      by_cases en : S (20 + p.length) = -1
      · rw [ite_p (by rw [en]), cs, if_pos en, dgs_gen]
        have blkno : ∀ a : Int, ¬ (V 6 p.length ≤ R a ∧ (tm = true → a ≤ u)) → ∀ y, fmin F y ((cs S B k (p.length + 1)).map (fun s => p ++ a :: s)) = y := by
          intro a ha y
          apply fmin_none
          intro t ht
          rw [List.mem_map] at ht
          obtain ⟨s, _, rfl⟩ := ht
          rw [hf, vP, if_pos en, if_neg ha]
          rfl
        -- one bin
        have bin1 : ∀ (a : Int) (x : Option (Int × List Int)) (J : (Nat → Nat → Int32)) (m : Nat), 0 ≤ a → a < B → V 6 p.length ≤ R a → (tm = true → a ≤ u) → ex [45, 46, 47, 48, 49] I J → sP B tm R H J → stP V x J → (∀ z : Nat, z < p.length → J 48 z = I 48 z) →
            ∃ I', fX9_placeIn m (fX9_place n d) (iN a) (iN p.length) (iN (if H a = 0 then u + 1 else u)) J r = some I' ∧ ex [45, 46, 47, 48, 49] I I' ∧ sP B tm R H I' ∧ stP V (fmin F x ((cs S B k (p.length + 1)).map (fun s => p ++ a :: s))) I' ∧ ∀ z : Nat, z < p.length → I' 48 z = I 48 z := by
          intro a x J m a0 aB hR ht hxJ hsJ hxx hJ
          obtain ⟨s1, s2, s3, s4⟩ := hsJ
          have hba := hb a a0 (by omega)
          have hcJ := cOK_ex h hxJ (by rcases hr0 with rfl | rfl <;> decide)
          have lw := cl_lwd hcJ (b := (p.length : Int)) (by omega) (by omega)
          have E1 : mf_put J 48 7 (iN p.length) (iN a) = mm_up J 48 p.length (iN a) := by rw [iN_put (by omega) (by omega) (by omega), Int.toNat_natCast]
          have E2 : mf_pick (mm_up J 48 p.length (iN a)) 47 7 (iN a) = iN (H a) := by rw [iN_pick a0 (by omega) (by omega), up_a (by decide)]; exact s4 a a0 (by omega)
          have E3 : mf_put (mm_up J 48 p.length (iN a)) 47 7 (iN a) (iN (H a + 1)) = mm_up (mm_up J 48 p.length (iN a)) 47 a.toNat (iN (H a + 1)) := iN_put a0 (by omega) (by omega)
          have E4 : mf_pick (mm_up (mm_up J 48 p.length (iN a)) 47 a.toNat (iN (H a + 1))) 46 7 (iN a) = iN (R a) := by rw [iN_pick a0 (by omega) (by omega), up_a (by decide), up_a (by decide)]; exact s3 a a0 (by omega)
          have E5 : mf_put (mm_up (mm_up J 48 p.length (iN a)) 47 a.toNat (iN (H a + 1))) 46 7 (iN a) (iN (R a - V 6 p.length)) = mm_up (mm_up (mm_up J 48 p.length (iN a)) 47 a.toNat (iN (H a + 1))) 46 a.toNat (iN (R a - V 6 p.length)) := iN_put a0 (by omega) (by omega)
          have xJ3 : ex [45, 46, 47, 48, 49] I (mm_up (mm_up (mm_up J 48 p.length (iN a)) 47 a.toNat (iN (H a + 1))) 46 a.toNat (iN (R a - V 6 p.length))) := ex_trans hxJ (ex_trans (ex_trans (ex_up (by decide)) (ex_up (by decide))) (ex_up (by decide)))
          have sJ3 : sP B tm (ud R a (R a - V 6 p.length)) (ud H a (H a + 1)) (mm_up (mm_up (mm_up J 48 p.length (iN a)) 47 a.toNat (iN (H a + 1))) 46 a.toNat (iN (R a - V 6 p.length))) := ⟨by rw [up_a (by decide), up_a (by decide), up_a (by decide)]; exact s1, by rw [up_a (by decide), up_a (by decide), up_a (by decide)]; exact s2, hr_up (hr_a (hr_a s3 (by decide)) (by decide)) a0 _, hr_a (hr_up (hr_a s4 (by decide)) a0 _) (by decide)⟩
          obtain ⟨I', g1, g2, g3, g4, g5⟩ := rec1 a (if H a = 0 then u + 1 else u) (ud R a (R a - V 6 p.length)) (ud H a (H a + 1)) x _ xJ3 sJ3 (by
            intro b b0 b7
            have := hb b b0 b7
            unfold ud
            by_cases eb : b = a
            · rw [if_pos eb, if_pos eb]; omega
            · rw [if_neg eb, if_neg eb]; omega) (by split <;> omega) (by
            intro htt b b0 b7
            have h1 := htm htt b b0 b7
            have h2 := htm htt a a0 (by omega)
            have h3 := ht htt
            unfold ud
            by_cases eb : b = a
            · rw [if_pos eb, eb]
              split <;> omega
            · rw [if_neg eb, h1]
              split <;> omega) (stP_of hxx (by rw [up_a (by decide), up_a (by decide), up_a (by decide)]) (by rw [up_a (by decide), up_a (by decide), up_a (by decide)])) (by
            intro z hz
            rw [up_a (by decide), up_a (by decide), up_k (by omega)]
            exact hJ z hz) (by rw [up_a (by decide), up_a (by decide), up_eq]) (by
            intro s
            rw [hf, vP, if_pos en, if_pos ⟨hR, ht⟩, Option.map_map]
            congr 1
            funext v
            show v + _ + u = v + _
            split <;> omega)
          obtain ⟨t1, t2, t3, t4⟩ := g3
          have cI' := cOK_ex h g2 (by rcases hr0 with rfl | rfl <;> decide)
          have G1 : mf_pick I' 46 7 (iN a) = iN (R a - V 6 p.length) := by rw [iN_pick a0 (by omega) (by omega), t3 a a0 (by omega), ud, if_pos rfl]
          have G2 : mf_put I' 46 7 (iN a) (iN (R a)) = mm_up I' 46 a.toNat (iN (R a)) := iN_put a0 (by omega) (by omega)
          have G3 : mf_pick (mm_up I' 46 a.toNat (iN (R a))) 47 7 (iN a) = iN (H a + 1) := by rw [iN_pick a0 (by omega) (by omega), up_a (by decide), t4 a a0 (by omega), ud, if_pos rfl]
          have G4 : mf_put (mm_up I' 46 a.toNat (iN (R a))) 47 7 (iN a) (iN (H a)) = mm_up (mm_up I' 46 a.toNat (iN (R a))) 47 a.toNat (iN (H a)) := iN_put a0 (by omega) (by omega)
          refine ⟨mm_up (mm_up I' 46 a.toNat (iN (R a))) 47 a.toNat (iN (H a)), ?_, ex_trans g2 (ex_trans (ex_up (by decide)) (ex_up (by decide))), ?_, stP_of g4 (by rw [up_a (by decide), up_a (by decide)]) (by rw [up_a (by decide), up_a (by decide)]), ?_⟩
          · rw [fX9_placeIn, lw]
            simp only [iN_lit, iN_add]
            rw [E1, E2, iN_add, E3, E4, iN_sub, E5, g1, Option.bind_some, G1, iN_add, show R a - V 6 p.length + V 6 p.length = R a by omega, G2, G3, iN_sub, show H a + 1 - 1 = H a by omega, G4]
          · refine ⟨by rw [up_a (by decide), up_a (by decide)]; exact t1, by rw [up_a (by decide), up_a (by decide)]; exact t2, ?_, ?_⟩
            · have := hr_up t3 a0 (R a)
              rw [ud_back rfl] at this
              exact hr_a this (by decide)
            · have := hr_up (k := a) (hr_a (b := 46) (k := a.toNat) (x := iN (R a)) t4 (by decide)) a0 (H a)
              rw [ud_back rfl] at this
              exact this
          · intro z hz
            rw [up_a (by decide), up_a (by decide)]
            exact g5 z hz
        -- all bins
        have all : ∀ (j m a : Nat) (J : (Nat → Nat → Int32)), a + j = B → j < m → ex [45, 46, 47, 48, 49] I J → sP B tm R H J → (tm = true → (a : Int) ≤ u) → stP V (dgs F (cs S B k (p.length + 1)) (fun n => (n : Int)) p x a) J → (∀ z : Nat, z < p.length → J 48 z = I 48 z) →
            ∃ y I', fX9_place_L76 m (fX9_place n d) (iN p.length) (iN u) (iN a) J r = some (y, I') ∧ ex [45, 46, 47, 48, 49] I I' ∧ sP B tm R H I' ∧ stP V (dgs F (cs S B k (p.length + 1)) (fun n => (n : Int)) p x B) I' ∧ ∀ z : Nat, z < p.length → I' 48 z = I 48 z := by
          intro j
          induction j with
          | zero =>
            intro m a J ha hm hxJ hsJ hta hst hJ
            obtain ⟨m, rfl⟩ : ∃ m', m = m' + 1 := ⟨m - 1, by omega⟩
            have e : a = B := by omega
            rw [e] at hst
            refine ⟨.inr (), J, ?_, hxJ, hsJ, hst, hJ⟩
            rw [fX9_place_L76, hsJ.1, show iN (a : Int) = iN (B : Int) by congr 1; omega, if_neg (iN_ir _)]
          | succ j ihj =>
            intro m a J ha hm hxJ hsJ hta hst hJ
            obtain ⟨m, rfl⟩ : ∃ m', m = m' + 1 := ⟨m - 1, by omega⟩
            have hba := hb a (by omega) (by omega)
            have hcJ := cOK_ex h hxJ (by rcases hr0 with rfl | rfl <;> decide)
            have lw := cl_lwd hcJ (b := (p.length : Int)) (by omega) (by omega)
            have k46 : mf_pick J 46 7 (iN a) = iN (R a) := by rw [iN_pick (by omega) (by omega) (by omega)]; exact hsJ.2.2.1 a (by omega) (by omega)
            have k47 : mf_pick J 47 7 (iN a) = iN (H a) := by rw [iN_pick (by omega) (by omega) (by omega)]; exact hsJ.2.2.2 a (by omega) (by omega)
            have unf := fX9_place_L76.eq_def (m + 1) (fX9_place n d) (iN p.length) (iN u) (iN a) J r
            dsimp only at unf
            simp only [iN_lit, iN_add] at unf
            rw [hsJ.1, ite_p (by rw [iN_lt (by omega) (by omega) (by omega) (by omega)]; omega), k46, k47, lw] at unf
            -- the last blocks when it is in turn
            have last : tm = true → H a = 0 → ∀ i, a + 1 + i ≤ B → dgs F (cs S B k (p.length + 1)) (fun n => (n : Int)) p x (a + 1 + i) = dgs F (cs S B k (p.length + 1)) (fun n => (n : Int)) p x (a + 1) := by
              intro ht h0 i
              have hua := (htm ht a (by omega) (by omega)).mp h0
              induction i with
              | zero => intro _; rfl
              | succ i ihi =>
                intro hi
                rw [show a + 1 + (i + 1) = a + 1 + i + 1 by omega, dgs, blkno _ (by intro hh; have := hh.2 ht; omega), ihi (by omega)]
            have nexta : (tm = true → ¬ H a = 0) → tm = true → ((a + 1 : Nat) : Int) ≤ u := by
              intro h1 ht
              have := (htm ht a (by omega) (by omega))
              have := h1 ht
              omega
            by_cases eR : R a < V 6 p.length
            · have sk : stP V (dgs F (cs S B k (p.length + 1)) (fun n => (n : Int)) p x (a + 1)) J := by rw [dgs, blkno _ (by omega)]; exact hst
              by_cases eH : H a = 0
              · rw [ite_p (by rw [eH]), ite_p (by rw [iN_lt (by omega) (by omega) (by omega) (by omega)]; exact eR), hsJ.2.1] at unf
                cases tm with
                | false =>
                  rw [ite_p (show iN (if false = true then 1 else 0) = iN 0 from rfl)] at unf
                  obtain ⟨y, I', q1, q2⟩ := ihj m (a + 1) J (by omega) (by omega) hxJ hsJ (by intro h; cases h) sk hJ
                  exact ⟨y, I', unf.trans q1, q2⟩
                | true =>
                  rw [ite_n (show ¬ iN (if true = true then 1 else 0) = iN 0 from n10)] at unf
                  have := last rfl eH (B - (a + 1)) (by omega)
                  rw [show a + 1 + (B - (a + 1)) = B by omega] at this
                  exact ⟨_, J, unf, hxJ, hsJ, by rw [this]; exact sk, hJ⟩
              · rw [ite_n (by rw [iN_eq (by omega) (by omega) (by omega) (by omega)]; exact eH), ite_p (by rw [iN_lt (by omega) (by omega) (by omega) (by omega)]; exact eR)] at unf
                obtain ⟨y, I', q1, q2⟩ := ihj m (a + 1) J (by omega) (by omega) hxJ hsJ (nexta (fun _ => eH)) sk hJ
                exact ⟨y, I', unf.trans q1, q2⟩
            · obtain ⟨J', g1, g2, g3, g4, g5⟩ := bin1 a _ J m (by omega) (by omega) (by omega) hta hxJ hsJ hst hJ
              have g4' : stP V (dgs F (cs S B k (p.length + 1)) (fun n => (n : Int)) p x (a + 1)) J' := g4
              by_cases eH : H a = 0
              · rw [if_pos eH] at g1
                rw [ite_p (by rw [eH]), ite_n (by rw [iN_lt (by omega) (by omega) (by omega) (by omega)]; exact eR), g1, Option.bind_some, g3.2.1] at unf
                cases tm with
                | false =>
                  rw [ite_p (show iN (if false = true then 1 else 0) = iN 0 from rfl)] at unf
                  obtain ⟨y, I', q1, q2⟩ := ihj m (a + 1) J' (by omega) (by omega) g2 g3 (by intro h; cases h) g4' g5
                  exact ⟨y, I', unf.trans q1, q2⟩
                | true =>
                  rw [ite_n (show ¬ iN (if true = true then 1 else 0) = iN 0 from n10)] at unf
                  have := last rfl eH (B - (a + 1)) (by omega)
                  rw [show a + 1 + (B - (a + 1)) = B by omega] at this
                  exact ⟨_, J', unf, g2, g3, by rw [this]; exact g4', g5⟩
              · rw [if_neg eH] at g1
                rw [ite_n (by rw [iN_eq (by omega) (by omega) (by omega) (by omega)]; exact eH), ite_n (by rw [iN_lt (by omega) (by omega) (by omega) (by omega)]; exact eR), g1, Option.bind_some] at unf
                obtain ⟨y, I', q1, q2⟩ := ihj m (a + 1) J' (by omega) (by omega) g2 g3 (nexta (fun _ => eH)) g4' g5
                exact ⟨y, I', unf.trans q1, q2⟩
        obtain ⟨y, I', q1, q2⟩ := all B n 0 I (by omega) (by omega) ex_refl hs (by intro _; omega) hx0 (fun _ _ => rfl)
        have q1' : fX9_place_L76 n (fX9_place n d) (iN p.length) (iN u) (iN 0) I r = some (y, I') := q1
        rw [q1', Option.bind_some]
        exact ⟨I', by cases y <;> rfl, q2⟩
      · rw [ite_n (by rw [iN_eq (by omega) (by omega) (by omega) (by omega)]; exact en), cs, if_neg en, List.map_map]
        have E1 : mf_put I 48 7 (iN p.length) (iN (-1)) = mm_up I 48 p.length (iN (-1)) := by rw [iN_put (by omega) (by omega) (by omega), Int.toNat_natCast]
        obtain ⟨s1, s2, s3, s4⟩ := hs
        obtain ⟨I', g1, g2, g3, g4, g5⟩ := rec1 (-1) u R H x (mm_up I 48 p.length (iN (-1))) (ex_up (by decide)) ⟨by rw [up_a (by decide)]; exact s1, by rw [up_a (by decide)]; exact s2, hr_a s3 (by decide), hr_a s4 (by decide)⟩ (fun b b0 b7 => by have := hb b b0 b7; omega) (by omega) htm (stP_of hx0 (up_a (by decide)) (up_a (by decide))) (fun z hz => up_k (by omega)) up_eq (by
          intro s
          rw [hf, vP, if_neg en])
        rw [E1, g1, Option.bind_some]
        exact ⟨I', rfl, g2, g3, g4, g5⟩
    · rw [ite_n (by rw [iN_lt (by omega) (by omega) (by omega) (by omega)]; exact e)]
      have fe : fmin F x ((cs S B (k + 1) p.length).map (fun s => p ++ s)) = x := by
        rcases x with _ | ⟨w, t⟩
        · rw [worth] at e; omega
        · rw [worth] at e
          apply fmin_keep
          intro t' ht v hv'
          rw [List.mem_map] at ht
          obtain ⟨s, _, rfl⟩ := ht
          rw [hf] at hv'
          obtain ⟨v0, h1, h2⟩ := Option.map_eq_some_iff.mp hv'
          have := vP_in S tm s R H u p.length v0 h1
          omega
      rw [fe]
      exact ⟨I, rfl, ex_refl, hs, hx0, fun _ _ => rfl⟩
end PLA
