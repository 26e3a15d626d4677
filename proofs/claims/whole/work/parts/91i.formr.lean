/-! THE FORMULA: the reference goes as the stack goes. -/
section RAM
variable {B : Nat → Int} {m : Nat}
/-- what the reference's formula leaves -/
def rEnd (B : Nat → Int) (m : Nat) (res : Nat ⊕ (List Int × Int × Nat)) (I : (Nat → Nat → Int32)) (J : mJ) (I' : (Nat → Nat → Int32)) (J' : mJ) : Prop := xJr J J' ∧ match res with
  | .inl q => xp 1 I I' ∧ rFl B m q 2 I'
  | .inr (out, u, p) => xp 0 I I' ∧ rT B m p I' J' ∧ I' 62 2 = iN 0 ∧ rOut out I' ∧ I' 62 20 = iN u
theorem rEnd_x {res : Nat ⊕ (List Int × Int × Nat)} {I I1 I' : (Nat → Nat → Int32)} {J J1 J' : mJ} (h : rEnd B m res I1 J1 I' J') (e : xp 0 I I1) (e' : xJr J J1) : rEnd B m res I J I' J' := by
  refine ⟨xJr_trans e' h.1, ?_⟩
  have h := h.2
  cases res with
  | inl q => exact ⟨xp_trans e h.1, h.2⟩
  | inr x => exact ⟨xp_trans e h.1, h.2⟩
variable {st out : List Int} {u : Int} {p : Nat} {I : (Nat → Nat → Int32)} {J : mJ}
/-- the loop stops -/
theorem rf_stop (h : rS B m st out u p I J) (hi : ri false st out u) {n N : Nat} (hN : 200 ≤ N) : ∃ I' J', ((fX12_formula_L35 (n + 1) 0 I J).bind fun o => fX12_formula_J162 N o.1 o.2) = some (I', J') ∧ rEnd B m (if 0 ∈ st then .inl p else .inr ((cls 0 st out).2, u, p)) I J I' J' := by
  obtain ⟨hT, hF, h2⟩ := h
  obtain ⟨c1, c2, c3, c4, c5, c6⟩ := id hF
  have hlen := ri_len hi
  have f0 : I 62 2 = (0 : Int32) := h2
  rw [fX12_formula_L35, ite_p rfl, Option.bind_some, fX12_formula_J162]
  dsimp only
  rw [ite_p f0, rf_hasB (by omega) hi.2.2.1 c3 c2 hN, Option.bind_some]
  by_cases h0 : 0 ∈ st
  · rw [if_pos h0, if_pos h0, ite_n (show ¬ iN 1 = (0 : Int32) from n10)]
    obtain ⟨w1, w2⟩ := rf_wrong hT h2 2
    have w1 : rFl B m p 2 (fX12_wrong 2 I) := w1
    have w2 : ∀ a k, ¬ (a = 62 ∧ (k = 2 ∨ k = 3)) → fX12_wrong 2 I a k = I a k := w2
    rw [fX12_formula_J181, ite_n (hasF_no (rFl_has w1 (by omega))).1]
    exact ⟨_, _, rfl, xJr_refl, fun a k _ g2 => w2 a k (by omega), w1⟩
  · rw [if_neg h0, if_neg h0, ite_p (show iN 0 = (0 : Int32) from rfl), fX12_formula_J181, ite_p f0, fX12_close]
    obtain ⟨I1, a1, a2, a3⟩ := rf_close (t := 0) (by omega) st out I N (by omega) (by omega) (by omega) hi.2.2.1 hF
    have a1 : fX12_close_L0 N 0 I = some I1 := a1
    rw [a1]
    refine ⟨I1, J, rfl, xJr_refl, fun a k g1 g2 => a3 a k (by omega) (by omega), ?_, ?_, a2.1, a2.2.2.2.1⟩
    · exact rT_of hT (fun k hk => a3 _ _ (by omega) (by omega)) (fun j => a3 _ _ (by omega) (by omega)) rfl
    · rw [a3 _ _ (by omega) (by omega)]; exact h2
theorem rf_am : ∀ (f : Nat), (∀ (st out : List Int) (u : Int) (p : Nat) (I : (Nat → Nat → Int32)) (J : mJ) (k n N : Nat) (res : Nat ⊕ (List Int × Int × Nat)), am (ft B m) (tN B m) f true st out u p = some res → ri true st out u → rS B m st out u p I J → 1701 + f ≤ k → 1701 + f ≤ n → 200 ≤ N → ∃ I' J', RUf k n N I J = some (I', J') ∧ rEnd B m res I J I' J') ∧
    (∀ (st out : List Int) (u : Int) (p : Nat) (I : (Nat → Nat → Int32)) (J : mJ) (n N : Nat) (res : Nat ⊕ (List Int × Int × Nat)), am (ft B m) (tN B m) f false st out u p = some res → ri false st out u → rS B m st out u p I J → 1701 + f ≤ n → 200 ≤ N → ∃ I' J', RLf n N I J = some (I', J') ∧ rEnd B m res I J I' J') := by
  intro f
  induction f with
  | zero => exact ⟨fun st out u p I J k n N res h => (by rw [am] at h; cases h), fun st out u p I J n N res h => (by rw [am] at h; cases h)⟩
  | succ f ih =>
    obtain ⟨ihU, ihL⟩ := ih
    constructor
    · intro st out u p I J k n N res ha hi h hk hn hN
      obtain ⟨k, rfl⟩ : ∃ q, k = q + 1 := ⟨k - 1, by omega⟩
      obtain ⟨k', rfl⟩ : ∃ q, k = q + 1 := ⟨k - 1, by omega⟩
      obtain ⟨n, rfl⟩ : ∃ q, n = q + 1 := ⟨n - 1, by omega⟩
      obtain ⟨hT, hF, h2⟩ := id h
      obtain ⟨c1, c2, c3, c4, c5, c6⟩ := id hF
      have hlen := ri_len hi
      obtain ⟨r1, r2, r3, r4⟩ := id hi
      rw [if_pos rfl] at r4
      have hbd := ft_bd (B := B) (m := m) (p := p)
      have f0 : I 62 2 = (0 : Int32) := h2
      have hnot := rf_not hT
      have hmay := rf_mayN (by omega) r3 c3 c2
      have h40 : (I 62 6 = (40 : Int32)) = (ft B m p = 100000) := rf_sort hT (c := 40) (by omega)
      have hfull := rf_full r1 hF
      rw [am_U] at ha
      /- a fault, then something opened: nothing more comes -/
      have flt : ∀ (M : (Nat → Nat → Int32)) (x : Int32), rFl B m p 2 M → M 62 19 = iN st.length → (∀ a k, ¬ (a = 62 ∧ (k = 2 ∨ k = 3 ∨ k = 20 ∨ k = 22)) → M a k = I a k) → ∃ I' J', (((fX12_openUp (k' + 1) x M J).bind fun o => fX12_unit_L2 (k' + 1) 1 o.1 o.2).bind fun o => fX12_unit_J101 (n + 1) o.1 o.2).bind (fun o => (fX12_formula_L35 (n + 1) 1 o.1 o.2).bind fun o => fX12_formula_J162 N o.1 o.2) = some (I', J') ∧ rEnd B m (.inl p) I J I' J' := by
        intro M x g1 g2 g3
        obtain ⟨I1, a1, a2⟩ := rf_openF (J := J) (rFl_has g1 (by omega)) g2 hlen.1 x (n := k' + 1)
        have g4 : rFl B m p 2 I1 := ⟨by rw [a2 62 2 (by omega) (by omega)]; exact g1.1, by rw [a2 62 3 (by omega) (by omega)]; exact g1.2⟩
        have hU := RUf_F (k := k') (n := n) (N := N) (J := J) (rFl_has g4 (by omega))
        rw [a1, Option.bind_some]
        refine ⟨I1, J, hU, xJr_refl, fun a k q1 q2 => ?_, g4⟩
        rw [a2 _ _ (by omega) (by omega), g3 _ _ (by omega)]
      /- nothing is opened -/
      have opd : ¬ (ft B m p = -7 ∧ mayN st = true) → ¬ ft B m p = 100000 → ∃ I' J', ((fX12_unit_L2 (k' + 1) 0 I J).bind fun o => fX12_unit_J101 (n + 1) o.1 o.2).bind (fun o => (fX12_formula_L35 (n + 1) 1 o.1 o.2).bind fun o => fX12_formula_J162 N o.1 o.2) = some (I', J') ∧ rEnd B m res I J I' J' := by
        intro z1 z2
        rw [if_neg z1, if_neg z2] at ha
        obtain ⟨w1, w2⟩ := rf_J101 h hi z2 (n := n + 1) (by omega)
        rw [fX12_unit_L2, ite_p rfl, Option.bind_some]
        by_cases hbad : (ft B m p < -6 ∨ 99999 < ft B m p) ∨ u = 30
        · rw [if_pos hbad] at ha
          cases ha
          obtain ⟨I1, a1, a2, a3⟩ := w1 hbad
          rw [a1, Option.bind_some]
          have hL := RLf_F (n := n) (N := N) (J := J) (rFl_has a2 (by omega))
          exact ⟨I1, J, hL, xJr_refl, a3, a2⟩
        · rw [if_neg hbad] at ha
          obtain ⟨I1, J1, a1, a2, a3, a4⟩ := w2 hbad
          rw [a1, Option.bind_some]
          have hi1 : ri false st (out ++ [ft B m p]) (u + 1) := by
            refine ⟨by omega, r2, r3, ?_⟩
            rw [if_neg (by decide), List.length_append]
            show _ ∧ ((out.length + 1 : Nat) : Int) + _ + _ ≤ _
            omega
          obtain ⟨I2, J2, b1, b2⟩ := ihL st (out ++ [ft B m p]) (u + 1) (tN B m p) I1 J1 (n + 1) N res ha hi1 a2 (by omega) hN
          exact ⟨I2, J2, b1, rEnd_x b2 a3 a4⟩
      /- a bracket -/
      have brk : ¬ (ft B m p = -7 ∧ mayN st = true) → ft B m p = 100000 → ∃ I' J', ((if (fX12_isFull I) = 0 then (if 6 < (I 62 23) then (fX12_openUp (k' + 1) 20 (fX12_countUnit (fX12_wrong 2 I)) J).bind (fun o168 => fX12_unit_L2 (k' + 1) 1 o168.1 o168.2) else (fX12_openUp (k' + 1) 20 (fX12_countUnit I) J).bind fun o169 => fX12_unit_L2 (k' + 1) 1 o169.1 o169.2) else (fX12_openUp (k' + 1) 20 (fX12_countUnit (fX12_wrong 2 I)) J).bind fun o170 => fX12_unit_L2 (k' + 1) 1 o170.1 o170.2).bind fun o => fX12_unit_J101 (n + 1) o.1 o.2).bind (fun o => (fX12_formula_L35 (n + 1) 1 o.1 o.2).bind fun o => fX12_formula_J162 N o.1 o.2) = some (I', J') ∧ rEnd B m res I J I' J' := by
        intro z1 z2
        rw [if_neg z1, if_pos z2] at ha
        have wf : ∃ I' J', (((fX12_openUp (k' + 1) 20 (fX12_countUnit (fX12_wrong 2 I)) J).bind fun o => fX12_unit_L2 (k' + 1) 1 o.1 o.2).bind fun o => fX12_unit_J101 (n + 1) o.1 o.2).bind (fun o => (fX12_formula_L35 (n + 1) 1 o.1 o.2).bind fun o => fX12_formula_J162 N o.1 o.2) = some (I', J') ∧ rEnd B m (.inl p) I J I' J' := by
          obtain ⟨w1, w2⟩ := rf_wrong hT h2 2
          have w1 : rFl B m p 2 (fX12_wrong 2 I) := w1
          have w2 : ∀ a k, ¬ (a = 62 ∧ (k = 2 ∨ k = 3)) → fX12_wrong 2 I a k = I a k := w2
          have cu : ∀ a k, ¬ (a = 62 ∧ (k = 20 ∨ k = 22)) → fX12_countUnit (fX12_wrong 2 I) a k = fX12_wrong 2 I a k := fun a k g => by unfold fX12_countUnit; rw [up_o (by omega), up_o (by omega)]
          refine flt _ 20 ⟨by rw [cu _ _ (by omega)]; exact w1.1, by rw [cu _ _ (by omega)]; exact w1.2⟩ (by rw [cu _ _ (by omega), w2 _ _ (by omega)]; exact c2) (fun a k g => by rw [cu _ _ (by omega), w2 _ _ (by omega)])
        rw [hfull]
        by_cases hu : u = 30
        · rw [if_pos (Or.inl hu)] at ha
          cases ha
          rw [if_pos hu, ite_n (show ¬ iN 1 = (0 : Int32) from n10)]
          exact wf
        · rw [if_neg hu, ite_p (show iN 0 = (0 : Int32) from rfl), c6]
          by_cases hd : 6 < dp st
          · rw [if_pos (Or.inr hd)] at ha
            cases ha
            rw [ite_p (show (6 : Int32) < iN (dp st : Nat) by show iN 6 < _; rw [iN_lt (by omega) (by omega) (by omega) (by omega)]; omega)]
            exact wf
          · rw [if_neg (by omega)] at ha
            rw [ite_n (show ¬ (6 : Int32) < iN (dp st : Nat) by show ¬ iN 6 < _; rw [iN_lt (by omega) (by omega) (by omega) (by omega)]; omega)]
            have fr : ∀ a k, ¬ (a = 62 ∧ (k = 20 ∨ k = 22)) → fX12_countUnit I a k = I a k := fun a k g => by unfold fX12_countUnit; rw [up_o (by omega), up_o (by omega)]
            have hF1 : rF st out (u + 1) (fX12_countUnit I) := by
              refine ⟨rOut_of c1 (fr _ _ (by omega)) (fun j => fr _ _ (by omega)) (fun j => fr _ _ (by omega)), by rw [fr _ _ (by omega)]; exact c2, stkr_of c3 (fun j => fr _ _ (by omega)), ?_, ?_, by rw [fr _ _ (by omega)]; exact c6⟩
              · unfold fX12_countUnit; rw [up_k (by omega), up_eq, c4]; exact iN_add u 1
              · unfold fX12_countUnit; rw [up_eq, c5]; exact iN_add u 1
            have hT1 : rT B m p (fX12_countUnit I) J := rT_of hT (fun k hk => fr _ _ (by omega)) (fun j => fr _ _ (by omega)) rfl
            have hk4 : ¬ tK B m p = 4 := fun e => by have := ft_in (B := B) (m := m) (p := p) (Or.inl e); omega
            obtain ⟨I1, J1, a1, a2, a3, a4⟩ := rf_open hT1 hF1 (by rw [fr _ _ (by omega)]; exact h2) hlen.1 hk4 (c := 0) (Or.inl rfl) (x := 20) rfl (n := k' + 1) (by omega)
            rw [a1, Option.bind_some]
            have hi1 : ri true (0 :: st) out (u + 1) := by
              have d0 : dp (0 :: st) = dp st + 1 := by rw [dp, if_pos (Or.inl rfl)]
              have d1 : nz (0 :: st) = nz st := by rw [nz, if_pos rfl]; rfl
              refine ⟨by omega, by omega, fun c hc => ?_, ?_⟩
              · rcases List.mem_cons.mp hc with rfl | hc
                · exact Or.inl rfl
                · exact r3 c hc
              · rw [if_pos rfl, List.length_cons, d0, d1]
                omega
            obtain ⟨I2, J2, b1, b2⟩ := ihU (0 :: st) out (u + 1) (tN B m p) I1 J1 (k' + 1) (n + 1) N res ha hi1 a2 (by omega) (by omega) hN
            exact ⟨I2, J2, b1, rEnd_x b2 (xp_trans (fun a k _ g2 => fr a k (by omega)) a3) a4⟩
      rw [RUf, fX12_unit_L2, ite_n (by decide), ite_p f0, hnot]
      by_cases hn7 : ft B m p = -7
      · rw [if_pos hn7, ite_n (show ¬ iN 1 = (0 : Int32) from n10), hmay, Option.bind_some]
        by_cases hm7 : mayN st = true
        · rw [if_pos hm7, ite_n (show ¬ iN 1 = (0 : Int32) from n10), c6]
          rw [if_pos ⟨hn7, hm7⟩] at ha
          by_cases hd : 6 < dp st
          · rw [if_pos hd] at ha
            cases ha
            rw [ite_p (show (6 : Int32) < iN (dp st : Nat) by show iN 6 < _; rw [iN_lt (by omega) (by omega) (by omega) (by omega)]; omega)]
            obtain ⟨w1, w2⟩ := rf_wrong hT h2 2
            have w1 : rFl B m p 2 (fX12_wrong 2 I) := w1
            have w2 : ∀ a k, ¬ (a = 62 ∧ (k = 2 ∨ k = 3)) → fX12_wrong 2 I a k = I a k := w2
            exact flt _ 21 w1 (by rw [w2 _ _ (by omega)]; exact c2) (fun a k g => w2 a k (by omega))
          · rw [if_neg hd] at ha
            rw [ite_n (show ¬ (6 : Int32) < iN (dp st : Nat) by show ¬ iN 6 < _; rw [iN_lt (by omega) (by omega) (by omega) (by omega)]; omega)]
            have hk4 : ¬ tK B m p = 4 := fun e => by have := ft_in (B := B) (m := m) (p := p) (Or.inl e); omega
            obtain ⟨I1, J1, a1, a2, a3, a4⟩ := rf_open hT hF h2 hlen.1 hk4 (c := -7) (Or.inr rfl) (x := 21) rfl (n := k' + 1) (by omega)
            rw [a1, Option.bind_some]
            have hi1 : ri true (-7 :: st) out u := by
              have d0 : dp (-7 :: st) = dp st + 1 := by rw [dp, if_pos (Or.inr rfl)]
              have d1 : nz (-7 :: st) = nz st + 1 := by rw [nz, if_neg (by decide)]
              refine ⟨by omega, by omega, fun c hc => ?_, ?_⟩
              · rcases List.mem_cons.mp hc with rfl | hc
                · exact Or.inr (by omega)
                · exact r3 c hc
              · rw [if_pos rfl, List.length_cons, d0, d1]
                omega
            obtain ⟨I2, J2, b1, b2⟩ := ihU (-7 :: st) out u (tN B m p) I1 J1 (k' + 1) (n + 1) N res ha hi1 a2 (by omega) (by omega) hN
            exact ⟨I2, J2, b1, rEnd_x b2 a3 a4⟩
        · rw [if_neg hm7, ite_p (show iN 0 = (0 : Int32) from rfl), ite_n (fun z => by have := h40.mp z; omega)]
          exact opd (fun z => hm7 z.2) (by omega)
      · rw [if_neg hn7, ite_p (show iN 0 = (0 : Int32) from rfl)]
        by_cases hop : ft B m p = 100000
        · rw [ite_p (h40.mpr hop)]
          exact brk (fun z => hn7 z.1) hop
        · rw [ite_n (fun z => hop (h40.mp z))]
          exact opd (fun z => hn7 z.1) hop
    · intro st out u p I J n N res ha hi h hn hN
      obtain ⟨n, rfl⟩ : ∃ q, n = q + 1 := ⟨n - 1, by omega⟩
      obtain ⟨n', rfl⟩ : ∃ q, n = q + 1 := ⟨n - 1, by omega⟩
      obtain ⟨hT, hF, h2⟩ := id h
      obtain ⟨c1, c2, c3, c4, c5, c6⟩ := id hF
      have hlen := ri_len hi
      obtain ⟨r1, r2, r3, r4⟩ := id hi
      have hbd := ft_bd (B := B) (m := m) (p := p)
      have f0 : I 62 2 = (0 : Int32) := h2
      have h41 : (I 62 6 = (41 : Int32)) = (ft B m p = 100001) := rf_sort hT (c := 41) (by omega)
      have hsg := rf_sign hT
      rw [am, if_neg (by decide)] at ha
      have stop := rf_stop h hi (n := n') hN
      /- a sign -/
      have sgn : ∀ c : Int, ft B m p = c → (-17 ≤ c ∧ c ≤ -8) → ¬ (tg c = 4 ∧ hasR st = true) → ∃ I' J', (((fX12_close (n' + 1) (fX12_tight (fX12_sign I J)) I).bind fun o225 => (if (o225 62 19) < 0 ∨ 160 ≤ (o225 62 19).toNatClampNeg then none else (fX12_token (n' + 1) (mm_up (mm_up o225 69 (o225 62 19).toNatClampNeg (fX12_sign I J)) 62 19 ((o225 62 19) + 1)) J).bind fun o227 => (fX12_unit (n' + 1) o227.1 o227.2).bind fun o228 => fX12_formula_L35 (n' + 1) 1 o228.1 o228.2))).bind (fun o => fX12_formula_J162 N o.1 o.2) = some (I', J') ∧ rEnd B m res I J I' J' := by
        intro c hc hc2 hc3
        rw [if_neg (by omega), hc, if_pos ⟨hc2, hc3⟩] at ha
        obtain ⟨s1, s2, s3, s4⟩ := sne_tg (c := c) (by omega)
        obtain ⟨s5, s6, s7⟩ := s4 (by omega)
        have htg := tg_in c
        rw [if_pos (by omega), hc, ← s5] at hsg
        rw [hsg, s1, fX12_close]
        obtain ⟨I1, a1, a2, a3⟩ := rf_close (t := tg c) (by omega) st out I (n' + 1) (by omega) (by omega) (by omega) r3 hF
        rw [a1, Option.bind_some, Option.bind_some]
        obtain ⟨l, l1, l2, l3, l4, l5⟩ := ri_cls hi (tg c)
        have hlen1 := ri_len l5
        obtain ⟨d1, d2, d3, d4, d5, d6⟩ := a2
        rw [d2]
        have e1 : ¬ (iN ((cls (tg c) st out).1.length : Nat) < (0 : Int32) ∨ 160 ≤ (iN ((cls (tg c) st out).1.length : Nat)).toNatClampNeg) := by show ¬ (iN _ < iN 0 ∨ _); rw [iN_lt (by omega) (by omega) (by omega) (by omega), iN_tn (by omega) (by omega)]; omega
        rw [ite_n e1, iN_tn (by omega) (by omega), show ((((cls (tg c) st out).1.length : Nat) : Int)).toNat = (cls (tg c) st out).1.length by omega]
        have e2 : (iN ((cls (tg c) st out).1.length : Nat) + 1 : Int32) = iN (((cls (tg c) st out).1.length : Nat) + 1) := iN_add _ 1
        rw [e2]
        have fr : ∀ a k, ¬ a = 69 → ¬ (a = 62 ∧ k = 19) → (mm_up (mm_up I1 69 (cls (tg c) st out).1.length (iN (sne c))) 62 19 (iN (((cls (tg c) st out).1.length : Nat) + 1))) a k = I1 a k := fun a k g1 g2 => by rw [up_o (by omega), up_o (by omega)]
        have hT1 : rT B m p (mm_up (mm_up I1 69 (cls (tg c) st out).1.length (iN (sne c))) 62 19 (iN (((cls (tg c) st out).1.length : Nat) + 1))) J := rT_of hT (fun k hk => by rw [fr _ _ (by omega) (by omega), a3 _ _ (by omega) (by omega)]) (fun j => by rw [fr _ _ (by omega) (by omega), a3 _ _ (by omega) (by omega)]) rfl
        have hk4 : ¬ tK B m p = 4 := fun e => by have := ft_in (B := B) (m := m) (p := p) (Or.inl e); omega
        obtain ⟨I2, J2, b1, b2, b3, b4⟩ := rf_next_t hT1 hk4 (n := n' + 1) (by omega)
        rw [b1, Option.bind_some]
        have hS2 : rS B m (c :: (cls (tg c) st out).1) (cls (tg c) st out).2 u (tN B m p) I2 J2 := by
          refine ⟨b2, ⟨?_, ?_, ?_, ?_, ?_, ?_⟩, ?_⟩
          · exact rOut_of d1 (by rw [b3 _ _ (by omega), fr _ _ (by omega) (by omega)]) (fun j => by rw [b3 _ _ (by omega), fr _ _ (by omega) (by omega)]) (fun j => by rw [b3 _ _ (by omega), fr _ _ (by omega) (by omega)])
          · rw [b3 _ _ (by omega), up_eq, List.length_cons]; rfl
          · exact stkr_of (stkr_push d3 rfl) (fun j => by rw [b3 _ _ (by omega), up_a (by omega)])
          · rw [b3 _ _ (by omega), fr _ _ (by omega) (by omega)]; exact d4
          · rw [b3 _ _ (by omega), fr _ _ (by omega) (by omega)]; exact d5
          · rw [b3 _ _ (by omega), fr _ _ (by omega) (by omega), d6, dp, if_neg (by omega)]; rfl
          · rw [b3 _ _ (by omega), fr _ _ (by omega) (by omega), a3 _ _ (by omega) (by omega)]; exact h2
        have hi2 : ri true (c :: (cls (tg c) st out).1) (cls (tg c) st out).2 u := by
          obtain ⟨t1, t2, t3, t4⟩ := l5
          rw [if_neg (by decide)] at t4
          have q0 : dp (c :: (cls (tg c) st out).1) = dp (cls (tg c) st out).1 := by rw [dp, if_neg (by omega)]; rfl
          have q1 : nz (c :: (cls (tg c) st out).1) = nz (cls (tg c) st out).1 + 1 := by rw [nz, if_neg (by omega)]
          refine ⟨t1, by omega, fun d hd => ?_, ?_⟩
          · rcases List.mem_cons.mp hd with rfl | hd
            · exact Or.inr (by omega)
            · exact t3 d hd
          · rw [if_pos rfl, List.length_cons, q0, q1]
            omega
        obtain ⟨I3, J3, g1, g2⟩ := ihU _ _ _ _ I2 J2 (n' + 1) (n' + 1) N res ha hi2 hS2 (by omega) (by omega) hN
        refine ⟨I3, J3, ?_, rEnd_x g2 ?_ b4⟩
        · rw [← g1, RUf, Option.bind_assoc]
          rfl
        · intro a k q1 q2
          rw [b3 _ _ (by omega), fr _ _ (by omega) (by omega), a3 _ _ (by omega) (by omega)]
      /- all but a bracket's end -/
      have rest : ¬ (ft B m p = 100001 ∧ 0 ∈ st) → ∃ I' J', (if (fX12_sign I J) = 0 then fX12_formula_L35 (n' + 1) 0 I J else (if (fX12_tight (fX12_sign I J)) = 4 then (fX12_hasRelation (n' + 1) I).bind fun o223 => (if o223 = 0 then (fX12_close (n' + 1) (fX12_tight (fX12_sign I J)) I).bind fun o225 => (if (o225 62 19) < 0 ∨ 160 ≤ (o225 62 19).toNatClampNeg then none else (fX12_token (n' + 1) (mm_up (mm_up o225 69 (o225 62 19).toNatClampNeg (fX12_sign I J)) 62 19 ((o225 62 19) + 1)) J).bind fun o227 => (fX12_unit (n' + 1) o227.1 o227.2).bind fun o228 => fX12_formula_L35 (n' + 1) 1 o228.1 o228.2) else fX12_formula_L35 (n' + 1) 0 I J) else (fX12_close (n' + 1) (fX12_tight (fX12_sign I J)) I).bind fun o229 => (if (o229 62 19) < 0 ∨ 160 ≤ (o229 62 19).toNatClampNeg then none else (fX12_token (n' + 1) (mm_up (mm_up o229 69 (o229 62 19).toNatClampNeg (fX12_sign I J)) 62 19 ((o229 62 19) + 1)) J).bind fun o231 => (fX12_unit (n' + 1) o231.1 o231.2).bind fun o232 => fX12_formula_L35 (n' + 1) 1 o232.1 o232.2))).bind (fun o => fX12_formula_J162 N o.1 o.2) = some (I', J') ∧ rEnd B m res I J I' J' := by
        intro hnb
        by_cases hc : -17 ≤ ft B m p ∧ ft B m p ≤ -8
        · obtain ⟨s1, s2, s3, s4⟩ := sne_tg (c := ft B m p) (by omega)
          obtain ⟨s5, s6, s7⟩ := s4 (by omega)
          have htg := tg_in (ft B m p)
          have hsg' := hsg
          rw [if_pos hc, ← s5] at hsg'
          have hs0 : ¬ fX12_sign I J = 0 := by
            rw [hsg']
            intro z
            have z : iN (sne (ft B m p)) = iN 0 := z
            have : 0 < rsg (ft B m p) ∧ rsg (ft B m p) < 200 := by
              unfold rsg
              repeat' split
              all_goals omega
            rw [s5, iN_eq (by omega) (by omega) (by omega) (by omega)] at z
            omega
          have ht4 : (fX12_tight (fX12_sign I J) = 4) = (tg (ft B m p) = 4) := by
            rw [hsg', s1]
            show (iN _ = iN 4) = _
            rw [iN_eq (by omega) (by omega) (by omega) (by omega)]
          rw [ite_n hs0]
          by_cases h4 : tg (ft B m p) = 4
          · rw [ite_p (ht4.mpr h4)]
            have hR : fX12_hasRelation (n' + 1) I = some (if hasR st = true then iN 1 else iN 0) := by
              rw [fX12_hasRelation, c2, show (iN (st.length : Nat) - 1 : Int32) = iN ((st.length : Nat) - 1) from iN_sub _ 1]
              exact rf_hasR st (n' + 1) (by omega) (by omega) r3 c3
            rw [hR, Option.bind_some]
            by_cases hr : hasR st = true
            · rw [if_pos hr, ite_n (show ¬ iN 1 = (0 : Int32) from n10)]
              rw [if_neg hnb, if_neg (fun z => z.2 ⟨h4, hr⟩)] at ha
              obtain ⟨I1, J1, a1, a2⟩ := stop
              refine ⟨I1, J1, a1, ?_⟩
              have : res = if 0 ∈ st then .inl p else .inr ((cls 0 st out).2, u, p) := by
                by_cases h0 : 0 ∈ st
                · rw [if_pos h0] at ha ⊢; cases ha; rfl
                · rw [if_neg h0] at ha ⊢; cases ha; rfl
              rw [this]; exact a2
            · rw [if_neg hr, ite_p (show iN 0 = (0 : Int32) from rfl)]
              exact sgn _ rfl hc (fun z => hr z.2)
          · rw [ite_n (fun z => h4 (ht4.mp z))]
            exact sgn _ rfl hc (fun z => h4 z.1)
        · rw [if_neg hc] at hsg
          rw [ite_p (show fX12_sign I J = 0 from hsg)]
          rw [if_neg hnb, if_neg (fun z => hc z.1)] at ha
          obtain ⟨I1, J1, a1, a2⟩ := stop
          refine ⟨I1, J1, a1, ?_⟩
          have : res = if 0 ∈ st then .inl p else .inr ((cls 0 st out).2, u, p) := by
            by_cases h0 : 0 ∈ st
            · rw [if_pos h0] at ha ⊢; cases ha; rfl
            · rw [if_neg h0] at ha ⊢; cases ha; rfl
          rw [this]; exact a2
      rw [RLf, fX12_formula_L35, ite_n (by decide), ite_p f0]
      by_cases hcl : ft B m p = 100001
      · rw [ite_p (h41.mpr hcl), rf_hasB (by omega) r3 c3 c2 (by omega), Option.bind_some]
        by_cases h0 : 0 ∈ st
        · rw [if_pos h0, ite_n (show ¬ iN 1 = (0 : Int32) from n10), fX12_close]
          rw [if_pos ⟨hcl, h0⟩] at ha
          obtain ⟨I1, a1, a2, a3⟩ := rf_close (t := 0) (by omega) st out I (n' + 1) (by omega) (by omega) (by omega) r3 hF
          have a1 : fX12_close_L0 (n' + 1) 0 I = some I1 := a1
          rw [a1, Option.bind_some, Option.bind_some]
          obtain ⟨l, l1, l2, l3, l4, l5⟩ := ri_cls hi 0
          have hlen1 := ri_len l5
          have hex : ∃ r, (cls 0 st out).1 = 0 :: r := by
            cases hcs : (cls 0 st out).1 with
            | nil =>
              rw [hcs, List.append_nil] at l1
              rw [l1] at h0
              exact absurd rfl (l3 0 h0)
            | cons c r =>
              rw [hcs] at l4
              have htg := tg_in c
              rcases l4 with h | h
              · exact ⟨r, by rw [h]⟩
              · omega
          obtain ⟨r, hr⟩ := hex
          rw [hr] at a2 l5 ha
          obtain ⟨d1, d2, d3, d4, d5, d6⟩ := a2
          rw [List.length_cons] at d2
          have d2 : I1 62 19 = iN ((r.length : Nat) + 1) := d2
          have hd0 : dp (0 :: r) = dp r + 1 := by rw [dp, if_pos (Or.inl rfl)]
          rw [hd0] at d6
          have d6 : I1 62 23 = iN ((dp r : Nat) + 1) := d6
          rw [d2, d6]
          have e2 : (iN ((r.length : Nat) + 1) - 1 : Int32) = iN (r.length : Nat) := by
            have := iN_sub ((r.length : Nat) + 1) 1
            rw [show ((r.length : Nat) : Int) + 1 - 1 = (r.length : Nat) by omega] at this
            exact this
          have e3 : (iN ((dp r : Nat) + 1) - 1 : Int32) = iN (dp r : Nat) := by
            have := iN_sub ((dp r : Nat) + 1) 1
            rw [show ((dp r : Nat) : Int) + 1 - 1 = (dp r : Nat) by omega] at this
            exact this
          rw [e2, e3]
          have fr : ∀ a k, ¬ (a = 62 ∧ (k = 19 ∨ k = 23)) → (mm_up (mm_up I1 62 19 (iN (r.length : Nat))) 62 23 (iN (dp r : Nat))) a k = I1 a k := fun a k g => by rw [up_o (by omega), up_o (by omega)]
          have hT1 : rT B m p (mm_up (mm_up I1 62 19 (iN (r.length : Nat))) 62 23 (iN (dp r : Nat))) J := rT_of hT (fun k hk => by rw [fr _ _ (by omega), a3 _ _ (by omega) (by omega)]) (fun j => by rw [fr _ _ (by omega), a3 _ _ (by omega) (by omega)]) rfl
          have hk4 : ¬ tK B m p = 4 := fun e => by have := ft_in (B := B) (m := m) (p := p) (Or.inl e); omega
          obtain ⟨I2, J2, b1, b2, b3, b4⟩ := rf_next_t hT1 hk4 (n := n' + 1) (by omega)
          rw [b1, Option.bind_some]
          have hS2 : rS B m r (cls 0 st out).2 u (tN B m p) I2 J2 := by
            refine ⟨b2, ⟨?_, ?_, ?_, ?_, ?_, ?_⟩, ?_⟩
            · exact rOut_of d1 (by rw [b3 _ _ (by omega), fr _ _ (by omega)]) (fun j => by rw [b3 _ _ (by omega), fr _ _ (by omega)]) (fun j => by rw [b3 _ _ (by omega), fr _ _ (by omega)])
            · rw [b3 _ _ (by omega), up_k (by omega), up_eq]
            · exact stkr_of (stkr_top d3).2 (fun j => by rw [b3 _ _ (by omega), fr _ _ (by omega)])
            · rw [b3 _ _ (by omega), fr _ _ (by omega)]; exact d4
            · rw [b3 _ _ (by omega), fr _ _ (by omega)]; exact d5
            · rw [b3 _ _ (by omega), up_eq]
            · rw [b3 _ _ (by omega), fr _ _ (by omega), a3 _ _ (by omega) (by omega)]; exact h2
          have hi2 : ri false r (cls 0 st out).2 u := by
            obtain ⟨t1, t2, t3, t4⟩ := l5
            rw [if_neg (by decide), List.length_cons, hd0] at t4
            have q1 : nz (0 :: r) = nz r := by rw [nz, if_pos rfl]; rfl
            refine ⟨t1, by omega, fun d hd => t3 d (by simp [hd]), ?_⟩
            rw [if_neg (by decide)]
            omega
          obtain ⟨I3, J3, g1, g2⟩ := ihL r (cls 0 st out).2 u (tN B m p) I2 J2 (n' + 1) N res ha hi2 hS2 (by omega) hN
          refine ⟨I3, J3, g1, rEnd_x g2 ?_ b4⟩
          intro a k q1 q2
          rw [b3 _ _ (by omega), fr _ _ (by omega), a3 _ _ (by omega) (by omega)]
        · rw [if_neg h0, ite_p (show iN 0 = (0 : Int32) from rfl)]
          exact rest (fun z => h0 z.2)
      · rw [ite_n (fun z => hcl (h41.mp z))]
        exact rest (fun z => hcl z.1)
end RAM
