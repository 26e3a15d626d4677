/-! The pieces of the formula, one by one. -/
section PXU
variable {B : Nat → Int} {m r : Nat}
theorem am_close {l st o : List Int} {u : Int} {p : Nat} (hc : ft B m p = 100001) (hl : pis 0 l) (f : Nat) : am (ft B m) (tN B m) (f + 1) false (l ++ 0 :: st) o u p = am (ft B m) (tN B m) f false st (o ++ l) u (tN B m p) := by
  rw [am, if_neg (by decide), if_pos ⟨hc, by simp⟩, cls_app (st := 0 :: st) (Or.inl rfl) l o hl]
  rfl
theorem am_stop {s o : List Int} {u : Int} {p : Nat} (hc : ¬ (ft B m p = 100001 ∧ 0 ∈ s)) (hx : exq B m 1 s p) (f : Nat) : am (ft B m) (tN B m) (f + 1) false s o u p = if 0 ∈ s then some (.inl p) else some (.inr ((cls 0 s o).2, u, p)) := by
  rw [am, if_neg (by decide), if_neg hc, if_neg]
  rintro ⟨h1, h2⟩
  rcases hx h1 with h | h
  · have := tg_in (ft B m p); omega
  · exact h2 h
theorem am_U {st o : List Int} {u : Int} {p : Nat} (f : Nat) : am (ft B m) (tN B m) (f + 1) true st o u p = (if ft B m p = -7 ∧ mayN st = true then (if 6 < dp st then some (.inl p) else am (ft B m) (tN B m) f true (-7 :: st) o u (tN B m p))
       else if ft B m p = 100000 then (if u = 30 ∨ 6 < dp st then some (.inl p) else am (ft B m) (tN B m) f true (0 :: st) o (u + 1) (tN B m p))
       else if (ft B m p < -6 ∨ 99999 < ft B m p) ∨ u = 30 then some (.inl p)
       else am (ft B m) (tN B m) f false st (o ++ [ft B m p]) (u + 1) (tN B m p)) := by
  rw [am, if_pos rfl]
theorem gd_u {out : List Int} {u d : Int} (h : gd out u d) (hu : u < 30) : gd out (u + 1) d := by
  obtain ⟨h1, h2, h3, h4, h5⟩ := h
  exact ⟨by omega, by omega, h3, h4, by omega⟩
theorem exq_7 {s : List Int} {p : Nat} : exq B m 7 s p := fun _ => Or.inl (by have := tg_in (ft B m p); omega)
theorem px_unit (hr0 : r = 3 ∨ r = 19) {w : Nat} (hw : w ≤ 7) {rc0 : Int32 → (Nat → Nat → Int32) → mJ → Nat → Option (Int32 × (Nat → Nat → Int32) × mJ)} (hany : w < 7 → px B m r 1 1 (w + 1) false (fun n I J => fX4_readAny n rc0 (iN ((w + 1 : Nat) : Int)) I J r)) : px B m r 7 7 w true (fun n I J => fX4_readUnit n rc0 (iN w) I J r) := by
  intro n p st out u d I J hn hT hF hg0 hdp hlo hnb
  have hnb := hnb rfl
  show (∃ I' J', fX4_readUnit n rc0 (iN w) I J r = some (iN 0, I', J') ∧ _) ∨ (∃ I' J', fX4_readUnit n rc0 (iN w) I J r = some (iN 1, I', J') ∧ _)
  obtain ⟨hpm, -, -, -, h5, -, h7, h8, -⟩ := id hT
  have hu0 := hg0.1
  have hK : tK B m p = 0 ∨ tK B m p = 1 ∨ tK B m p = 2 ∨ tK B m p = 3 ∨ tK B m p = 4 := tKq_in
  have s40 : fX4_isSign 40 I = some (if ft B m p = 100000 then iN 1 else iN 0) := by
    have := cl_iss hT (c := 40) (by omega)
    have e : (tK B m p = 3 ∧ B (tP B m p) = 40) = (ft B m p = 100000) := propext (ft_s1 (by omega))
    simp only [e] at this
    exact this
  rw [fX4_readUnit, s40, Option.bind_some]
  have hF4 : I (r + 1) 4 = iN u := hF.2.1
  /- refused here -/
  have rfs : (∀ f, am (ft B m) (tN B m) (f + 1) true st out u p = some (.inl p)) → ∃ I', (if (fX4_refuse 2 I).1 = 0 ∨ (fX4_refuse 2 I).1 = 1 then some ((fX4_refuse 2 I).1, (fX4_refuse 2 I).2, J) else none) = some (iN 0, I', J) ∧ pF B m r true st out u p I J I' J := by
    intro ha
    obtain ⟨I', e1, e2, e3⟩ := cl_rfs hT 2
    exact ⟨I', e1, p, e2, ⟨Nat.le_refl _, hpm⟩, fun a k h1 _ _ => e3 a k (by omega), xJ_refl, 1, by omega, ha⟩
  /- a unit more -/
  have hI1 : u < 30 → cT B m p (mm_up I (r + 1) 4 (iN (u + 1))) J ∧ cF r out (u + 1) (mm_up I (r + 1) 4 (iN (u + 1))) ∧ xq 0 r I (mm_up I (r + 1) 4 (iN (u + 1))) ∧ (mm_up I (r + 1) 4 (iN (u + 1))) 16 6 = I 16 6 := by
    intro hu
    have fr : ∀ a k, ¬ (a = r + 1 ∧ k = 4) → (mm_up I (r + 1) 4 (iN (u + 1))) a k = I a k := by
      intro a k hk
      show (if a = r + 1 ∧ k = 4 then _ else I a k) = I a k
      rw [if_neg hk]
    refine ⟨cT_of hr0 hT (fun a k h1 _ => fr a k (by omega)) (fun _ _ _ => rfl), ⟨?_, up_eq, fun z hz => ?_⟩, fun a k _ h2 _ => fr a k (by omega), fr 16 6 (by omega)⟩
    · rw [fr _ _ (by omega)]; exact hF.1
    · rw [fr _ _ (by omega)]; exact hF.2.2 z hz
  by_cases hop : ft B m p = 100000
  · rw [if_pos hop]
    have h3 : tK B m p = 3 := ((ft_s1 (c := 40) (k := 100000) (by omega)).mpr hop).1
    have e51 : ¬ I 16 5 = 1 := by rw [h5, h3]; decide
    rw [ite_n e51, fX4_readUnit_J23, ite_n (by decide), fX4_readUnit_J49, hF4]
    simp only [iN_lit]
    by_cases hu : u < 30
    · rw [ite_p (by rw [iN_lt (by omega) (by omega) (by omega) (by omega)]; exact hu), ite_n n10]
      by_cases hw7 : w < 7
      · rw [ite_p (by rw [iN_lt (by omega) (by omega) (by omega) (by omega)]; omega), fX4_readUnit_J80, hF4]
        simp only [iN_lit, iN_add]
        rw [ite_n n10]
        obtain ⟨hT1, hF1, hx1, h16⟩ := hI1 hu
        generalize mm_up I (r + 1) 4 (iN (u + 1)) = I1 at hT1 hF1 hx1 h16 ⊢
        obtain ⟨q1, q2, q3⟩ := ft_lt (B := B) hpm (by omega)
        obtain ⟨I2, J2, a1, a2, a3, a4⟩ := cl_next_t hT1 (n := n) (by omega)
        rw [fX4_readInner, a1, Option.bind_some]
        simp only [iN_lit, iN_add]
        rw [show (w : Int) + 1 = ((w + 1 : Nat) : Int) by omega]
        have hU : ∀ f, am (ft B m) (tN B m) (f + 1) true st out u p = am (ft B m) (tN B m) f true (0 :: st) out (u + 1) (tN B m p) := fun f => by
          rw [am_U, if_neg (by omega), if_pos hop, if_neg (by omega)]
        rcases hany hw7 n (tN B m p) (0 :: st) out (u + 1) d I2 J2 (by omega) a2 (cF_k hr0 hF1 a3) (gd_u hg0 hu) (by rw [dp, if_pos (Or.inl rfl), hdp]) (Or.inl rfl) (fun e => absurd e (by decide)) with ⟨I3, J3, b1, q, b2, b3, b4, b5, j, b6, b7⟩ | ⟨I3, J3, b1, p2, l2, o2, u2, b2, b3, b4, b5, b6, b7, b8, b9, b10, j, b11, b12⟩
        · left
          have b1 : fX4_readAny n rc0 (iN ((w + 1 : Nat) : Int)) I2 J2 r = some (iN 0, I3, J3) := b1
          rw [b1, Option.bind_some]
          dsimp only
          rw [ite_p rfl, Option.bind_some, ite_p (Or.inl rfl)]
          refine ⟨I3, J3, rfl, q, b2, by omega, xq_trans hx1 (xq_trans (xq_k a3) b4), xJ_trans a4 b5, j + 1, by omega, fun f => ?_⟩
          rw [show f + (j + 1) = f + j + 1 by omega, hU, b7]
        · have b1 : fX4_readAny n rc0 (iN ((w + 1 : Nat) : Int)) I2 J2 r = some (iN 1, I3, J3) := b1
          rw [b1, Option.bind_some]
          dsimp only
          have s41 : fX4_isSign (iN 41) I3 = some (if ft B m p2 = 100001 then iN 1 else iN 0) := by
            have := cl_iss b2 (c := 41) (by omega)
            have e : (tK B m p2 = 3 ∧ B (tP B m p2) = 41) = (ft B m p2 = 100001) := propext (ft_s1 (by omega))
            simp only [e] at this
            exact this
          rw [ite_n n10, s41, Option.bind_some]
          have hpm2 := b2.1
          by_cases hcl : ft B m p2 = 100001
          · right
            rw [if_pos hcl, ite_n n10]
            obtain ⟨q4, q5, q6⟩ := ft_lt (B := B) hpm2 (by omega)
            obtain ⟨I4, J4, c1, c2, c3, c4⟩ := cl_next_t b2 (n := n) (by omega)
            rw [c1, Option.bind_some, Option.bind_some]
            dsimp only
            rw [ite_p (Or.inr rfl)]
            refine ⟨I4, J4, rfl, tN B m p2, [], o2 ++ l2, u2, c2, by rw [List.append_nil]; exact cF_k hr0 b3 c3, by rw [List.append_nil]; exact b4, by rw [List.append_nil]; omega, fun c hc => absurd hc (by simp), by omega, xq_trans hx1 (xq_trans (xq_k a3) (xq_trans b8 (xq_k c3))), xJ_trans a4 (xJ_trans b9 c4), exq_7, j + 2, by omega, fun f => ?_⟩
            rw [show f + (j + 2) = (f + 1) + j + 1 by omega, hU, b12, am_close hcl (pis_mono b6 (by omega))]
            rfl
          · left
            rw [if_neg hcl, ite_p rfl]
            obtain ⟨I4, c1, c2, c3⟩ := cl_rfs b2 2
            have c1 : (if (fX4_refuse (iN 2) I3).1 = iN 0 ∨ (fX4_refuse (iN 2) I3).1 = iN 1 then some ((fX4_refuse (iN 2) I3).1, (fX4_refuse (iN 2) I3).2, J3) else none) = some (iN 0, I4, J3) := c1
            rw [c1, Option.bind_some]
            dsimp only
            rw [ite_p (Or.inl rfl)]
            refine ⟨I4, J3, rfl, p2, c2, by omega, xq_trans hx1 (xq_trans (xq_k a3) (xq_trans b8 (fun a k h1 _ _ => c3 a k (by omega)))), xJ_trans a4 b9, j + 2, by omega, fun f => ?_⟩
            rw [show f + (j + 2) = (f + 1) + j + 1 by omega, hU, b12, am_stop (fun z => hcl z.1) b10, if_pos (by simp)]
      · rw [ite_n (by rw [iN_lt (by omega) (by omega) (by omega) (by omega)]; omega), fX4_readUnit_J74]
        left
        obtain ⟨I', e1, e2⟩ := rfs (fun f => by rw [am_U, if_neg (by omega), if_pos hop, if_pos (by omega)])
        exact ⟨I', J, e1, e2⟩
    · rw [ite_n (by rw [iN_lt (by omega) (by omega) (by omega) (by omega)]; omega), fX4_readUnit_J74]
      left
      obtain ⟨I', e1, e2⟩ := rfs (fun f => by rw [am_U, if_neg (by omega), if_pos hop, if_pos (by omega)])
      exact ⟨I', J, e1, e2⟩
  · rw [if_neg hop]
    by_cases hod : -6 ≤ ft B m p ∧ ft B m p ≤ 99999
    · /- an operand -/
      have hcb : -6 ≤ ft B m p ∧ ft B m p ≤ 9999 := by
        rcases ft_opd hod.1 hod.2 with ⟨t1, t2, t3⟩ | ⟨t1, t2, t3⟩
        · have := tV_in t1; omega
        · omega
      have key : ∀ y3 : Int32, (y3 = iN 0 ∧ I 16 6 = iN (ft B m p)) ∨ (¬ y3 = iN 0 ∧ y3 = iN (ft B m p)) →
          (∃ I' J', fX4_readUnit_J49 n rc0 (iN w) (iN 0) y3 I J r = some (iN 0, I', J') ∧ pF B m r true st out u p I J I' J') ∨ (∃ I' J', fX4_readUnit_J49 n rc0 (iN w) (iN 0) y3 I J r = some (iN 1, I', J') ∧ pS B m r true st out u p 7 st d I J I' J' (1 + w + (9 * u - out.length)) 1) := by
        intro y3 hy
        rw [fX4_readUnit_J49, hF4]
        simp only [iN_lit]
        by_cases hu : u < 30
        · rw [ite_p (by rw [iN_lt (by omega) (by omega) (by omega) (by omega)]; exact hu), if_true, fX4_readUnit_J80, hF4]
          simp only [iN_lit, iN_add, if_true]
          obtain ⟨hT1, hF1, hx1, h16⟩ := hI1 hu
          generalize mm_up I (r + 1) 4 (iN (u + 1)) = I1 at hT1 hF1 hx1 h16 ⊢
          obtain ⟨q1, q2, q3⟩ := ft_lt (B := B) hpm (by omega)
          have hlen : out.length < 300 := by have := hg0.2.1; omega
          obtain ⟨I2, c1, c2, c3⟩ := cl_add0 hr0 hF1 hlen (ft B m p)
          have hT2 : cT B m p I2 J := cT_of hr0 hT1 (fun a k h1 h2 => c3 a k (by omega) (by omega)) (fun _ _ _ => rfl)
          obtain ⟨I3, J3, a1, a2, a3, a4⟩ := cl_next_t hT2 (n := n) (by omega)
          right
          have fin : pS B m r true st out u p 7 st d I J I3 J3 (1 + w + (9 * u - out.length)) 1 := by
            refine ⟨tN B m p, [], out ++ [ft B m p], u + 1, a2, by rw [List.append_nil]; exact cF_k hr0 c2 a3, by rw [List.append_nil]; exact gd_opd hg0 hu hcb, ?_, fun c hc => absurd hc (by simp), by omega, xq_trans hx1 (xq_trans (fun a k _ h2 h3 => c3 a k (by omega) h3) (xq_k a3)), a4, exq_7, 1, by omega, fun f => ?_⟩
            · rw [List.append_nil, List.length_append]
              show ((out.length + 1 : Nat) : Int) + _ ≤ _
              omega
            · rw [am_U, if_neg (by omega), if_neg hop, if_neg (by omega)]
              rfl
          refine ⟨I3, J3, ?_, fin⟩
          have hlast : ((some I2 : Option (Nat → Nat → Int32)).bind fun o => (fX4_advance n o J).bind fun o1 => some (iN 1, o1.1, o1.2)) = some (iN 1, I3, J3) := by rw [Option.bind_some, a1, Option.bind_some]
          rcases hy with ⟨y1, y2⟩ | ⟨y1, y2⟩
          · rw [ite_p y1]
            rw [y2, c1]
            exact hlast
          · rw [ite_n y1, y2, c1]
            exact hlast
        · rw [ite_n (by rw [iN_lt (by omega) (by omega) (by omega) (by omega)]; omega), fX4_readUnit_J74]
          left
          obtain ⟨I', e1, e2⟩ := rfs (fun f => by rw [am_U, if_neg (by omega), if_neg hop, if_pos (by omega)])
          exact ⟨I', J, e1, e2⟩
      rcases ft_opd hod.1 hod.2 with ⟨t1, t2, t3⟩ | ⟨t1, t2, t3⟩
      · have e51 : ¬ I 16 5 = 1 := by rw [h5, t1]; decide
        have e52 : I 16 5 = 2 := by rw [h5, t1]; rfl
        rw [ite_n e51, fX4_readUnit_J23, ite_p (show iN 0 = (0 : Int32) from rfl), ite_p e52]
        have : fX4_givenBy (-1) = iN 0 := by decide
        rw [this]
        exact key (iN 0) (Or.inl ⟨rfl, by rw [h7 t1, t3]⟩)
      · have e51 : I 16 5 = 1 := by rw [h5, t1]; rfl
        have e52 : ¬ I 16 5 = 2 := by rw [h5, t1]; decide
        have hO := tO_in B m p
        have eg : fX4_givenBy (I 16 7) = iN (ft B m p) := by rw [h8, cl_gv hO.1 hO.2, gv_ft, if_pos ⟨t2, t3⟩]
        have ne : ¬ iN (ft B m p) = iN 0 := by rw [iN_eq (by omega) (by omega) (by omega) (by omega)]; omega
        rw [ite_p e51, fX4_readUnit_J23, ite_p (show iN 0 = (0 : Int32) from rfl), ite_n e52, eg, ite_n (show ¬ iN (ft B m p) = (0 : Int32) from ne)]
        exact key (iN (ft B m p)) (Or.inr ⟨ne, rfl⟩)
    · left
      have hbd := ft_bd (B := B) (m := m) (p := p)
      have n2 : ¬ tK B m p = 2 := fun e => by have := tV_in e; rw [← ft_num e] at this; omega
      have e52 : ¬ I 16 5 = 2 := by rw [h5]; show ¬ iN (tK B m p) = iN 2; rw [iN_eq (by omega) (by omega) (by omega) (by omega)]; exact n2
      obtain ⟨I', e1, e2⟩ := rfs (fun f => by
        rw [am_U, if_neg, if_neg hop, if_pos (by omega)]
        rintro ⟨z1, z2⟩
        have := hnb z1
        rw [this] at z2
        exact absurd z2 (by decide))
      refine ⟨I', J, ?_, e2⟩
      by_cases e1' : I 16 5 = 1
      · have hO := tO_in B m p
        have eg : fX4_givenBy (I 16 7) = 0 := by rw [h8, cl_gv hO.1 hO.2, gv_ft, if_neg (by omega)]; rfl
        rw [ite_p e1', fX4_readUnit_J23, ite_p (show iN 0 = (0 : Int32) from rfl), ite_n e52, ite_p eg]
        exact e1
      · rw [ite_n e1', fX4_readUnit_J23, ite_p (show iN 0 = (0 : Int32) from rfl), ite_n e52, ite_p (by decide)]
        exact e1
end PXU
