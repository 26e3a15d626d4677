/-! fits, sure and ask: the methods of the reference. -/
section FIX
variable {V Wt : (Nat → Int → Int)} {S : Int → Int} {N T : Int}
theorem rf_air0 {I : (Nat → Nat → Int32)} (h : rOK V S I) (hb : 0 < V 0 2) {y1 y2 y3 : Int32} {n : Nat} (hn : 60 ≤ n) :
    ∃ I1 I2, fX12_layFits_L47 n y1 y2 y3 (iN 0) I = some I1 ∧ fX12_layFits_L71 n y1 y2 y3 (iN 0) I1 = some I2 ∧ ex [85] I (mm_up I2 85 0 (I2 81 0)) ∧ hr (mm_up I2 85 0 (I2 81 0)) 85 28 (air (S0 V) 0 (V 4 0) 0 0 0 0) := by
  have hu := h.1.1
  obtain ⟨n1, I1, a1, a2, a3, a4⟩ := loop (fun n k J => fX12_layFits_L47 n y1 y2 y3 (iN k) J) 1 (P := 28) (fun k J => ex [85] I J ∧ ∀ z : Int, 0 ≤ z → z < k → J 85 z.toNat = iN 0)
    (by
      intro n k J hn k0 k1 ⟨hx, hz⟩
      refine ⟨mm_up J 85 k.toNat (iN 0), ?_, ex_trans hx (ex_up (by decide)), ?_⟩
      · show fX12_layFits_L47 (n + 1) _ _ _ _ _ = _
        rw [fX12_layFits_L47]
        simp (disch := omega) only [iN_lit, iN_add, iN_sub, iN_mul, iN_neg, iN_lt, iN_eq, iN_tn, if_true, if_false, if_pos, if_neg]
      · intro z z0 z1
        rw [up_c]
        by_cases e : z = k
        · rw [if_pos (by omega)]
        · rw [if_neg (by omega)]; exact hz z z0 (by omega)) 28 n 0 I (by omega) (by omega) ⟨ex_refl, by intro z h1 h2; omega⟩ (by omega)
  have a2' : fX12_layFits_L47 n y1 y2 y3 (iN 0) I = some I1 := by
    have : fX12_layFits_L47 n y1 y2 y3 (iN 0) I = fX12_layFits_L47 n1 y1 y2 y3 (iN 28) I1 := a2
    rw [this]
    obtain ⟨n1, rfl⟩ : ∃ m, n1 = m + 1 := ⟨n1 - 1, by omega⟩
    rw [fX12_layFits_L47]
    simp (disch := omega) only [iN_lit, iN_add, iN_sub, iN_mul, iN_neg, iN_lt, iN_eq, iN_tn, if_true, if_false, if_pos, if_neg]
  obtain ⟨n2, I2, b1, b2, b3, b4⟩ := loop (fun n k J => fX12_layFits_L71 n y1 y2 y3 (iN k) J) 1 (P := V 0 3) (fun k J => ex [85] I J ∧ ∀ z : Int, 0 ≤ z → z < 28 → J 85 z.toNat = iN (if 20 ≤ z ∧ z < 20 + k then -1 else 0))
    (by
      intro n k J hn k0 k1 ⟨hx, hz⟩
      have hv : J 62 49 = iN (V 0 3) := by rw [hx 62 (by decide)]; exact h.2.2.1.1.2.2.2.1
      refine ⟨mm_up J 85 (20 + k).toNat (iN (-1)), ?_, ex_trans hx (ex_up (by decide)), ?_⟩
      · show fX12_layFits_L71 (n + 1) _ _ _ _ _ = _
        rw [fX12_layFits_L71, hv]
        simp (disch := omega) only [iN_lit, iN_add, iN_sub, iN_mul, iN_neg, iN_lt, iN_eq, iN_tn, if_true, if_false, if_pos, if_neg]
      · intro z z0 z1
        rw [up_c]
        by_cases e : z = 20 + k
        · rw [if_pos (by omega), if_pos (by omega)]
        · rw [if_neg (by omega), hz z z0 z1]
          congr 1
          by_cases e2 : 20 ≤ z ∧ z < 20 + k
          · rw [if_pos e2, if_pos (by omega)]
          · rw [if_neg e2, if_neg (by omega)]) (V 0 3).toNat n 0 I1 (by omega) (by omega) ⟨a3, fun z z0 z1 => by rw [a4 z z0 z1, if_neg (by omega)]⟩ (by omega)
  have b2' : fX12_layFits_L71 n y1 y2 y3 (iN 0) I1 = some I2 := by
    have : fX12_layFits_L71 n y1 y2 y3 (iN 0) I1 = fX12_layFits_L71 n2 y1 y2 y3 (iN (V 0 3)) I2 := b2
    have hv : I2 62 49 = iN (V 0 3) := by rw [b3 62 (by decide)]; exact h.2.2.1.1.2.2.2.1
    rw [this]
    obtain ⟨n2, rfl⟩ : ∃ m, n2 = m + 1 := ⟨n2 - 1, by omega⟩
    rw [fX12_layFits_L71, hv, if_neg (iN_ir _)]
  have h81 : I2 81 0 = iN (V 4 0) := by
    have := h.2.2.1.2.2.2.2.1 0 (by omega) hb
    rw [b3 81 (by decide)]
    exact this
  refine ⟨I1, I2, a2', b2', ex_trans b3 (ex_up (by decide)), ?_⟩
  intro z z0 z1
  rw [up_c, h81]
  unfold air S0
  by_cases e : z = 0
  · rw [if_pos (by omega), if_pos e]
  · rw [if_neg (by omega), if_neg e, b4 z z0 z1]
    by_cases e4 : z = 4 + 0
    · rw [if_pos e4, if_neg (by omega)]
    · rw [if_neg e4]
      by_cases e8 : z = 8 + 0
      · rw [if_pos e8, if_neg (by omega)]
      · rw [if_neg e8]
        by_cases e12 : z = 12 + 0
        · rw [if_pos e12, if_neg (by omega)]
        · rw [if_neg e12]
          by_cases e16 : z = 16 + 0
          · rw [if_pos e16, if_neg (by omega)]
          · rw [if_neg e16]
theorem rf_tally {I : (Nat → Nat → Int32)} (h : rOK V S I) {q : Nat} (h87 : ∀ i : Nat, i < (V 0 1).toNat → I 87 i = iN (((q / 3 ^ i % 3 : Nat) : Int) - 1)) {F : Int → Int} (hF : hr I 104 18 F) {y1 y2 y3 : Int32} {n : Nat} (hn : 12 ≤ n) :
    ∃ I', fX12_layFits_L286 n y1 y2 y3 (iN 0) I = some I' ∧ ex [104] I I' ∧ hr I' 104 18 (fun z => F z + if z / 3 < V 0 1 ∧ q / 3 ^ (z / 3).toNat % 3 = (z % 3).toNat then 1 else 0) := by
  have hu := h.1.1
  obtain ⟨n1, I', a1, a2, a3, a4⟩ := loop (fun n k J => fX12_layFits_L286 n y1 y2 y3 (iN k) J) 1 (P := V 0 1) (fun k J => ex [104] I J ∧ hr J 104 18 (fun z => F z + if z / 3 < k ∧ q / 3 ^ (z / 3).toNat % 3 = (z % 3).toNat then 1 else 0))
    (by
      intro n k J hn k0 k1 ⟨hx, hz⟩
      have hv : J 62 47 = iN (V 0 1) := by rw [hx 62 (by decide)]; exact h.2.2.1.1.2.1
      have j87 : J 87 k.toNat = iN (((q / 3 ^ k.toNat % 3 : Nat) : Int) - 1) := by rw [hx 87 (by decide)]; exact h87 k.toNat (by omega)
      have hd := Nat.mod_lt (q / 3 ^ k.toNat) (show 0 < 3 by omega)
      generalize hD : q / 3 ^ k.toNat % 3 = D at *
      have pt := hz (3 * k + D) (by omega) (by omega)
      dsimp only at pt
      rw [show (3 * k + (D : Int)) / 3 = k by omega, if_neg (fun hh => absurd hh.1 (by omega)), Int.add_zero] at pt
      refine ⟨mm_up J 104 (3 * k + (D : Int)).toNat (iN (F (3 * k + D) + 1)), ?_, ex_trans hx (ex_up (by decide)), ?_⟩
      · show fX12_layFits_L286 (n + 1) _ _ _ _ _ = _
        rw [fX12_layFits_L286, hv]
        simp (disch := omega) only [iN_lit, iN_add, iN_sub, iN_mul, iN_neg, iN_lt, iN_eq, iN_tn, if_true, if_false, if_pos, if_neg, j87]
        rw [show 3 * k + ((D : Int) - 1) + 1 = 3 * k + (D : Int) by omega, pt, iN_add]
      · intro z z0 z1
        dsimp only
        rw [up_c]
        by_cases e : z = 3 * k + (D : Int)
        · rw [if_pos (by omega), if_pos ⟨by omega, by rw [show (z / 3).toNat = k.toNat by omega, hD]; omega⟩, e]
        · rw [if_neg (by omega), hz z z0 z1]
          dsimp only
          congr 2
          by_cases e2 : z / 3 < k ∧ q / 3 ^ (z / 3).toNat % 3 = (z % 3).toNat
          · rw [if_pos e2, if_pos ⟨by omega, e2.2⟩]
          · rw [if_neg e2, if_neg]
            rintro ⟨c1, c2⟩
            by_cases e3 : z / 3 = k
            · rw [show (z / 3).toNat = k.toNat by omega, hD] at c2; omega
            · exact e2 ⟨by omega, c2⟩) (V 0 1).toNat n 0 I (by omega) (by omega) ⟨ex_refl, fun z z0 z1 => by dsimp only; rw [if_neg (fun hh => absurd hh.1 (by omega)), Int.add_zero]; exact hF z z0 z1⟩ (by omega)
  refine ⟨I', ?_, a3, a4⟩
  have a2' : fX12_layFits_L286 n y1 y2 y3 (iN 0) I = fX12_layFits_L286 n1 y1 y2 y3 (iN (V 0 1)) I' := a2
  have hv : I' 62 47 = iN (V 0 1) := by rw [a3 62 (by decide)]; exact h.2.2.1.1.2.1
  rw [a2']
  obtain ⟨n1, rfl⟩ : ∃ m, n1 = m + 1 := ⟨n1 - 1, by omega⟩
  rw [fX12_layFits_L286, hv, if_neg (iN_ir _)]
theorem rW_ex {I I' : (Nat → Nat → Int32)} (h : rW Wt N T I) {l : List Nat} (e : ex l I I') (d : ∀ a ∈ [62, 96, 97, 98, 99, 100, 101], a ∉ l) : rW Wt N T I' := by
  obtain ⟨r0, r9, r1, r2, r3, r4, r5, r6⟩ := h
  have e62 := e 62 (d 62 (by decide))
  exact ⟨by rw [e62]; exact r0, by rw [e62]; exact r9, hr_of r1 (e _ (d _ (by decide))), hr_of r2 (e _ (d _ (by decide))), hr_of r3 (e _ (d _ (by decide))), hr_of r4 (e _ (d _ (by decide))), hr_of r5 (e _ (d _ (by decide))), hr_of r6 (e _ (d _ (by decide)))⟩
theorem rf_count {I : (Nat → Nat → Int32)} (h : rOK V S I) (hW : wfW V Wt N T) (hc : rW Wt N T I) {k : Int} (hk : -2147483648 ≤ k ∧ k < 2147483648) {n : Nat} (hn : 1300 ≤ n) :
    ∃ I', fX12_layFits n (iN k) I = some (iN (aFit V Wt N k), I') ∧ ex [70, 71, 85, 87, 102, 103, 104] I I' ∧ (¬ V 0 2 = 0 → hr I' 104 18 (fun z => if z / 3 < V 0 1 then tal V Wt N k (z / 3 + 1) (z % 3) else 0)) := by
  have hu := h.1.1
  have p3 := p3_le (k := (V 0 1).toNat) (by omega)
  obtain ⟨n0, I0, z1, z2, z3, z4⟩ := loop (fun n j J => fX12_layFits_L4 n (iN k) (iN 0) (iN j) J) 1 (P := 18) (fun j J => ex [104] I J ∧ ∀ z : Int, 0 ≤ z → z < j → J 104 z.toNat = iN 0)
    (by
      intro n j J hn j0 j1 ⟨hx, hz⟩
      refine ⟨mm_up J 104 j.toNat (iN 0), ?_, ex_trans hx (ex_up (by decide)), ?_⟩
      · show fX12_layFits_L4 (n + 1) _ _ _ _ = _
        rw [fX12_layFits_L4]
        simp (disch := omega) only [iN_lit, iN_add, iN_sub, iN_mul, iN_neg, iN_lt, iN_eq, iN_tn, if_true, if_false, if_pos, if_neg]
      · intro z z0 z1
        rw [up_c]
        by_cases e : z = j
        · rw [if_pos (by omega)]
        · rw [if_neg (by omega)]; exact hz z z0 (by omega)) 18 n 0 I (by omega) (by omega) ⟨ex_refl, by intro z h1 h2; omega⟩ (by omega)
  have z2' : fX12_layFits_L4 n (iN k) (iN 0) (iN 0) I = some I0 := by
    have : fX12_layFits_L4 n (iN k) (iN 0) (iN 0) I = fX12_layFits_L4 n0 (iN k) (iN 0) (iN 18) I0 := z2
    rw [this]
    obtain ⟨n0, rfl⟩ : ∃ m, n0 = m + 1 := ⟨n0 - 1, by omega⟩
    rw [fX12_layFits_L4]
    simp (disch := omega) only [iN_lit, iN_add, iN_sub, iN_mul, iN_neg, iN_lt, iN_eq, iN_tn, if_true, if_false, if_pos, if_neg]
  have x0 : ex [70, 71, 85, 87, 102, 103, 104] I I0 := ex_mono z3 (by decide)
  have R0 := rOK_ex h x0 (by decide)
  rw [fX12_layFits]
  simp only [iN_lit]
  rw [z2', Option.bind_some]
  have hpow : ∀ (J : (Nat → Nat → Int32)) (m : Nat), rOK V S J → 10 ≤ m → fX12_power m (iN 3) (J 62 47) = some (iN ((3 ^ (V 0 1).toNat : Nat) : Int)) := by
    intro J m hJ hm
    rw [hJ.2.2.1.1.2.1, show iN (V 0 1) = iN (((V 0 1).toNat : Nat) : Int) by rw [show (((V 0 1).toNat : Nat) : Int) = V 0 1 by omega]]
    exact rf_pow3 (by omega) hm
  unfold aFit
  by_cases hb : V 0 2 = 0
  · rw [if_pos hb]
    obtain ⟨n, rfl⟩ : ∃ m, n = m + 1 := ⟨n - 1, by omega⟩
    rw [fX12_layFits_L25]
    simp only [iN_lit]
    have h3 : (1 : Nat) ≤ 3 ^ (V 0 1).toNat := Nat.one_le_pow _ _ (by omega)
    rw [hpow I0 n R0 (by omega), Option.bind_some, R0.2.2.1.1.2.2.1, hb, ite_p (by rw [iN_lt (by omega) (by omega) (by omega) (by omega)]; omega), if_neg (iN_ir _), Option.bind_some]
    exact ⟨I0, rfl, x0, fun hh => absurd rfl hh⟩
  · rw [if_neg hb]
    obtain ⟨n1, s, q1, q2, q3, q4, q5⟩ := loop (fun n j (s : Int × (Nat → Nat → Int32)) => fX12_layFits_L25 n (iN k) (iN s.1) (iN j) s.2) 400 (P := ((3 ^ (V 0 1).toNat : Nat) : Int)) (fun j s => ex [70, 71, 85, 87, 102, 103, 104] I s.2 ∧ s.1 = sg (fun q => if gf V (Zn Wt k N.toNat) (V 0 1).toNat (V 4 0, 0, 0) 0 q = true then 1 else 0) j.toNat ∧ hr s.2 104 18 (fun z => if z / 3 < V 0 1 then sg (fun q => if gf V (Zn Wt k N.toNat) (V 0 1).toNat (V 4 0, 0, 0) 0 q = true ∧ q / 3 ^ (z / 3).toNat % 3 = (z % 3).toNat then 1 else 0) j.toNat else 0))
      (by
        intro n j s hn j0 j1 ⟨hx, hs, hT⟩
        have R := rOK_ex h hx (by decide)
        obtain ⟨A1, A2, a1, a2, a3, a4⟩ := rf_air0 R (by omega) (y1 := iN k) (y2 := iN s.1) (y3 := iN j) (n := n) (by omega)
        have RA := rOK_ex R a3 (by decide)
        have hst := h.1.2.2.2.1 0 (by omega) (by omega)
        have in0 : in3 V ((0 : Nat) : Int) (V 4 0, 0, 0) := tr_in h.1 (by omega) 0 0
        obtain ⟨A3, b1, b2, b3, _⟩ := rf_path (y1 := iN k) (y2 := iN s.1) (y3 := iN j) (by omega) (V 0 1).toNat n 0 j.toNat (V 4 0, 0, 0) 0 _ RA (by omega) (by omega) (by omega) in0 (by omega) a4
        have ej : ((j.toNat : Nat) : Int) = j := by omega
        rw [ej] at b1
        have b1' : fX12_layFits_L115 n (iN k) (iN s.1) (iN j) (iN j) (iN 0) (mm_up A2 85 0 (A2 81 0)) = some A3 := b1
        have x3 : ex [70, 71, 85, 87, 102, 103, 104] I A3 := ex_trans hx (ex_trans (ex_mono a3 (by decide)) (ex_mono b2 (by decide)))
        have R3 := rOK_ex h x3 (by decide)
        have W3 := rW_ex hc x3 (by decide)
        have sgt := rf_sight (V := V) (by omega) hW W3 hk (P := fun i => pt V (V 4 0, 0, 0) 0 j.toNat i.toNat) (by
          intro i i1 i2
          have := b3 (i - 1).toNat (by omega)
          rw [Nat.zero_add, show (i - 1).toNat + 1 = i.toNat by omega] at this
          have pin := pt_in h.1 i.toNat (k := j.toNat) in0
          obtain ⟨p1, p2, p3'⟩ := pin
          exact ⟨⟨this.2.1, this.2.2⟩, ⟨p1.1, Int.le_trans (Int.le_of_lt p1.2) (by omega)⟩, p3'⟩) (y2 := iN s.1) (y3 := iN j) (n := n) (by omega)
        rw [alls_gf (V := V) (by omega) hW] at sgt
        have hT3 : hr A3 104 18 _ := hr_of hT (by rw [b2 104 (by decide), a3 104 (by decide)])
        have unf := fX12_layFits_L25.eq_def (n + 1) (iN k) (iN s.1) (iN j) s.2
        dsimp only at unf
        simp only [iN_lit] at unf
        rw [hpow s.2 n R (by omega), Option.bind_some, R.2.2.1.1.2.2.1, ite_p (by rw [iN_lt (by omega) (by omega) (by omega) (by omega)]; exact j1), ite_p (by rw [iN_lt (by omega) (by omega) (by omega) (by omega)]; omega), a1, Option.bind_some, a2, Option.bind_some, b1', Option.bind_some, sgt, Option.bind_some, iN_add, iN_add] at unf
        rw [show (j + 1).toNat = j.toNat + 1 by omega]
        by_cases eg : gf V (Zn Wt k N.toNat) (V 0 1).toNat (V 4 0, 0, 0) 0 j.toNat = true
        · rw [if_pos eg, ite_n n10] at unf
          obtain ⟨A4, d1, d2, d3⟩ := rf_tally R3 (q := j.toNat) (fun i hi => by have := (b3 i hi).1; rw [Nat.zero_add] at this; exact this) hT3 (y1 := iN k) (y2 := iN (s.1 + 1)) (y3 := iN j) (n := n) (by omega)
          rw [d1, Option.bind_some] at unf
          refine ⟨(s.1 + 1, A4), unf, ex_trans x3 (ex_mono d2 (by decide)), ?_, ?_⟩
          · rw [sg, if_pos eg, ← hs]
          · intro z z0 z1
            dsimp only
            rw [d3 z z0 z1]
            dsimp only
            congr 1
            by_cases e1 : z / 3 < V 0 1
            · rw [if_pos e1, if_pos e1, sg]
              congr 1
              by_cases e2 : j.toNat / 3 ^ (z / 3).toNat % 3 = (z % 3).toNat
              · rw [if_pos ⟨e1, e2⟩, if_pos ⟨eg, e2⟩]
              · rw [if_neg (fun hh => e2 hh.2), if_neg (fun hh => e2 hh.2)]
            · rw [if_neg e1, if_neg e1, if_neg (fun hh => e1 hh.1)]
              rfl
        · rw [if_neg eg, ite_p rfl] at unf
          refine ⟨(s.1, A3), unf, x3, ?_, ?_⟩
          · rw [sg, if_neg eg, Int.add_zero, ← hs]
          · intro z z0 z1
            dsimp only
            rw [hT3 z z0 z1]
            congr 1
            by_cases e1 : z / 3 < V 0 1
            · rw [if_pos e1, if_pos e1, sg, if_neg (fun hh => eg hh.1), Int.add_zero]
            · rw [if_neg e1, if_neg e1]) (3 ^ (V 0 1).toNat) n 0 (0, I0) (by omega) (by omega) ⟨x0, rfl, fun z z0 z1 => by dsimp only; rw [z4 z z0 z1]; split <;> rfl⟩ (by omega)
    have R1 := rOK_ex h q3 (by decide)
    have q2' : fX12_layFits_L25 n (iN k) (iN 0) (iN 0) I0 = some (iN (fc V (Zn Wt k N.toNat) (V 0 1).toNat (V 4 0, 0, 0) 0), s.2) := by
      have : fX12_layFits_L25 n (iN k) (iN 0) (iN 0) I0 = fX12_layFits_L25 n1 (iN k) (iN s.1) (iN ((3 ^ (V 0 1).toNat : Nat) : Int)) s.2 := q2
      rw [this]
      obtain ⟨n1, rfl⟩ : ∃ m, n1 = m + 1 := ⟨n1 - 1, by omega⟩
      rw [fX12_layFits_L25]
      simp only [iN_lit]
      rw [hpow s.2 n1 R1 (by omega), Option.bind_some, if_neg (iN_ir _), q4, Int.toNat_natCast, gf_sum]
    rw [q2', Option.bind_some]
    refine ⟨s.2, rfl, q3, ?_⟩
    intro _ z z0 z1
    rw [q5 z z0 z1]
    dsimp only
    congr 1
    by_cases e1 : z / 3 < V 0 1
    · rw [if_pos e1, if_pos e1, Int.toNat_natCast]
      have := gf_tal V (Zn Wt k N.toNat) (V 0 1).toNat (V 4 0, 0, 0) 0 (z / 3).toNat (z % 3).toNat (by omega) (by omega)
      rw [this]
      unfold tal
      rw [show (0 : Int) + 1 + (((z / 3).toNat : Nat) : Int) = z / 3 + 1 by omega, show (((z % 3).toNat : Nat) : Int) = z % 3 by omega]
    · rw [if_neg e1, if_neg e1]
theorem rf_Fits {I : (Nat → Nat → Int32)} (h : rOK V S I) (hW : wfW V Wt N T) (hc : rW Wt N T I) {k : Int} (hk : -2147483648 ≤ k ∧ k < 2147483648) {n : Nat} (hn : 1300 ≤ n) : ∃ I', fX12_fits n (iN k) I = some (iN (aFit V Wt N k), I') ∧ ex [70, 71, 85, 87, 102, 103, 104] I I' := by
  obtain ⟨I', g1, g2, _⟩ := rf_count h hW hc hk hn
  rw [fX12_fits, g1]
  exact ⟨I', rfl, g2⟩
theorem rf_Sure {I : (Nat → Nat → Int32)} (h : rOK V S I) (hW : wfW V Wt N T) (hc : rW Wt N T I) {s k : Int} (hs : -2147483648 ≤ s ∧ s < 2147483648) (hk : -2147483648 ≤ k ∧ k < 2147483648) {n : Nat} (hn : 1300 ≤ n) : ∃ I', fX12_sure n (iN s) (iN k) I = some (iN (aSu V Wt N s k), I') ∧ ex [70, 71, 85, 87, 102, 103, 104] I I' := by
  have hu := h.1.1
  rw [fX12_sure, h.2.2.1.1.2.1]
  simp only [iN_lit, iN_neg]
  rw [rf_in hs (by omega) (by omega)]
  unfold aSu
  by_cases s1 : 1 ≤ s ∧ s ≤ V 0 1
  · rw [if_pos s1, ite_n n10, if_pos s1]
    obtain ⟨I', g1, g2, g3⟩ := rf_count h hW hc hk hn
    have fi := fit_in (Wt := Wt) h.1 N k
    rw [g1, Option.bind_some]
    dsimp only
    by_cases e0 : aFit V Wt N k = 0
    · rw [ite_p (by rw [e0]), if_pos e0]
      exact ⟨I', rfl, g2⟩
    · have hb : ¬ V 0 2 = 0 := fun hh => e0 (by unfold aFit; rw [if_pos hh])
      have hF := g3 hb
      have t0 := tal_in (Wt := Wt) h.1 N k s 0
      have t1 := tal_in (Wt := Wt) h.1 N k s 1
      have t2 := tal_in (Wt := Wt) h.1 N k s 2
      have hsum : tal V Wt N k s 0 + tal V Wt N k s 1 + tal V Wt N k s 2 = aFit V Wt N k := by
        unfold aFit tal
        rw [if_neg hb]
        exact ta_sum _ _ _ _ _ _ (by omega) (by omega)
      rw [ite_n (by rw [iN_eq (by omega) (by omega) (by omega) (by omega)]; exact e0), if_neg e0]
      obtain ⟨n, rfl⟩ : ∃ m, n = m + 4 := ⟨n - 4, by omega⟩
      have pk : ∀ a : Int, 0 ≤ a → a ≤ 2 → I' 104 (3 * (s - 1) + a).toNat = iN (tal V Wt N k s a) := by
        intro a a0 a2
        rw [hF _ (by omega) (by omega)]
        dsimp only
        rw [show (3 * (s - 1) + a) / 3 = s - 1 by omega, if_pos (by omega), show (3 * (s - 1) + a) % 3 = a by omega, show s - 1 + 1 = s by omega]
      have step : ∀ (a : Int) (m : Nat) (y : Int), 0 ≤ a → a ≤ 2 → fX12_sure_L35 (m + 1) (iN s) (iN (aFit V Wt N k)) (iN y) (iN (a - 1)) I' = fX12_sure_L35 m (iN s) (iN (aFit V Wt N k)) (iN (if tal V Wt N k s a = aFit V Wt N k then a - 1 else y)) (iN a) I' := by
        intro a m y a0 a2
        have ta' := tal_in (Wt := Wt) h.1 N k s a
        have p := pk a a0 a2
        rw [fX12_sure_L35]
        simp (disch := omega) only [iN_lit, iN_add, iN_sub, iN_mul, iN_neg, iN_lt, iN_eq, iN_tn, if_true, if_false, if_pos, if_neg]
        rw [show 3 * (s - 1) + (a - 1) + 1 = 3 * (s - 1) + a by omega, show a - 1 + 1 = a by omega, p]
        by_cases e : tal V Wt N k s a = aFit V Wt N k
        · rw [ite_p (by rw [e]), if_pos e]
        · rw [ite_n (by rw [iN_eq (by omega) (by omega) (by omega) (by omega)]; exact e), if_neg e]
      have s0 := step 0 (n + 3) (-2) (by omega) (by omega)
      have s2 := fun y => step 1 (n + 2) y (by omega) (by omega)
      have s3 := fun y => step 2 (n + 1) y (by omega) (by omega)
      rw [show (0 : Int) - 1 = -1 from rfl] at s0
      rw [show (1 : Int) - 1 = 0 from rfl] at s2
      rw [show (2 : Int) - 1 = 1 from rfl] at s3
      rw [s0, s2, s3, fX12_sure_L35]
      simp (disch := omega) only [iN_lit, iN_add, iN_sub, iN_mul, iN_neg, iN_lt, iN_eq, iN_tn, if_true, if_false, if_pos, if_neg, Option.bind_some]
      have hv : (if tal V Wt N k s 2 = aFit V Wt N k then (1 : Int) else if tal V Wt N k s 1 = aFit V Wt N k then 0 else if tal V Wt N k s 0 = aFit V Wt N k then -1 else -2) = if tal V Wt N k s 0 = aFit V Wt N k then -1 else if tal V Wt N k s 1 = aFit V Wt N k then 0 else if tal V Wt N k s 2 = aFit V Wt N k then 1 else -2 := by
        by_cases q0 : tal V Wt N k s 0 = aFit V Wt N k
        · rw [if_pos q0, if_pos q0, if_neg (by omega), if_neg (by omega)]
        · rw [if_neg q0, if_neg q0]
          by_cases q1 : tal V Wt N k s 1 = aFit V Wt N k
          · rw [if_pos q1, if_pos q1, if_neg (by omega)]
          · rw [if_neg q1, if_neg q1]
      rw [hv]
      exact ⟨I', rfl, g2⟩
  · rw [if_neg s1, ite_p rfl, if_neg s1]
    exact ⟨I, rfl, ex_refl⟩
theorem rf_ml (hw : wfV V) {I : (Nat → Nat → Int32)} {k : Int} (hF : hr I 104 18 (fun z => if z / 3 < V 0 1 then tal V Wt N k (z / 3 + 1) (z % 3) else 0)) {s : Int} (hs : 0 ≤ s ∧ s < V 0 1) {n : Nat} (hn : 10 ≤ n) : fX12_leftBy n (iN s) I = some (iN (ml V Wt N k (s + 1))) := by
  have hu := hw.1
  obtain ⟨n, rfl⟩ : ∃ m, n = m + 4 := ⟨n - 4, by omega⟩
  have step : ∀ (a : Int) (m : Nat) (y : Int), 0 ≤ a → a ≤ 2 → (0 ≤ y ∧ y ≤ 729) → fX12_leftBy_L4 (m + 1) (iN s) (iN y) (iN a) I = fX12_leftBy_L4 m (iN s) (iN (ma y (tal V Wt N k (s + 1) a))) (iN (a + 1)) I := by
    intro a m y a0 a2 hy
    have ta' := tal_in (Wt := Wt) hw N k (s + 1) a
    have p := hF (3 * s + a) (by omega) (by omega)
    dsimp only at p
    rw [show (3 * s + a) / 3 = s by omega, if_pos (by omega), show (3 * s + a) % 3 = a by omega] at p
    rw [fX12_leftBy_L4]
    simp (disch := omega) only [iN_lit, iN_add, iN_sub, iN_mul, iN_neg, iN_lt, iN_eq, iN_tn, if_true, if_false, if_pos, if_neg, p]
    unfold ma
    by_cases e : y < tal V Wt N k (s + 1) a
    · rw [if_pos e, if_pos e]
    · rw [if_neg e, if_neg e]
  have mm : ∀ y a : Int, 0 ≤ y ∧ y ≤ 729 → 0 ≤ ma y (tal V Wt N k (s + 1) a) ∧ ma y (tal V Wt N k (s + 1) a) ≤ 729 := by
    intro y a hy
    have ta' := tal_in (Wt := Wt) hw N k (s + 1) a
    unfold ma
    split <;> omega
  have m0 := mm 0 0 (by omega)
  have m1 := mm _ 1 m0
  rw [fX12_leftBy]
  simp only [iN_lit]
  rw [step 0 (n + 3) 0 (by omega) (by omega) (by omega), show (0 : Int) + 1 = 1 from rfl, step 1 (n + 2) _ (by omega) (by omega) m0, show (1 : Int) + 1 = 2 from rfl, step 2 (n + 1) _ (by omega) (by omega) m1, fX12_leftBy_L4]
  simp (disch := omega) only [iN_lit, iN_add, iN_sub, iN_mul, iN_neg, iN_lt, iN_eq, iN_tn, if_true, if_false, if_pos, if_neg, Option.bind_some]
  rfl
theorem rf_Ask {I : (Nat → Nat → Int32)} (h : rOK V S I) (hW : wfW V Wt N T) (hc : rW Wt N T I) {w k : Int} (hw : -2147483648 ≤ w ∧ w < 2147483648) (hk : -2147483648 ≤ k ∧ k < 2147483648) {n : Nat} (hn : 1300 ≤ n) : ∃ I', fX12_ask n (iN w) (iN k) I = some (iN (aAsk V Wt N w k), I') ∧ ex [70, 71, 85, 87, 102, 103, 104] I I' := by
  have hu := h.1.1
  rw [fX12_ask]
  simp only [iN_lit, iN_neg]
  rw [rf_in hw (by omega) (by omega)]
  unfold aAsk
  by_cases w0 : 0 ≤ w ∧ w ≤ 1
  · rw [if_pos w0, ite_n n10, if_pos w0]
    obtain ⟨I', g1, g2, g3⟩ := rf_count h hW hc hk hn
    have fi := fit_in (Wt := Wt) h.1 N k
    have R1 := rOK_ex h g2 (by decide)
    rw [g1, Option.bind_some]
    dsimp only
    by_cases e0 : aFit V Wt N k = 0
    · rw [ite_p (by rw [e0]), if_pos e0]
      exact ⟨I', rfl, g2⟩
    · have hb : ¬ V 0 2 = 0 := fun hh => e0 (by unfold aFit; rw [if_pos hh])
      have hF := g3 hb
      rw [ite_n (by rw [iN_eq (by omega) (by omega) (by omega) (by omega)]; exact e0), if_neg e0]
      obtain ⟨n', s, q1, q2, q3⟩ := loop (fun n j s => fX12_ask_L24 n (iN w) (iN s) (iN (j + 1)) I') 20 (P := V 0 1 - 1) (fun j s => s = bs V Wt N k j.toNat - 1)
        (by
          intro n j s hn j0 j1 hs
          have bi := bs_in V Wt N k j.toNat
          have m1 := ml_in (Wt := Wt) h.1 N k (j + 1 + 1)
          have m2 := ml_in (Wt := Wt) h.1 N k (s + 1)
          refine ⟨_, ?_, rfl⟩
          show fX12_ask_L24 (n + 1) _ _ _ _ = _
          rw [fX12_ask_L24, R1.2.2.1.1.2.1, rf_ml h.1 hF (s := j + 1) (by omega) (by omega), rf_ml h.1 hF (s := s) (by omega) (by omega), show (j + 1).toNat = j.toNat + 1 by omega, bs, show bs V Wt N k j.toNat = s + 1 by omega, show ((j.toNat : Nat) : Int) = j by omega]
          simp (disch := omega) only [iN_lit, iN_add, iN_sub, iN_mul, iN_neg, iN_lt, iN_eq, iN_tn, if_true, if_false, if_pos, if_neg, Option.bind_some]
          rw [show j + 1 + 1 = j + 2 by omega]
          by_cases e : ml V Wt N k (j + 2) < ml V Wt N k (s + 1)
          · rw [if_pos e, if_pos e, show j + 2 - 1 = j + 1 by omega]
          · rw [if_neg e, if_neg e, show s + 1 - 1 = s by omega]) (V 0 1 - 1).toNat n 0 0 (by omega) (by omega) rfl (by omega)
      have q2' : fX12_ask_L24 n (iN w) (iN 0) (iN 1) I' = some (iN (bs V Wt N k ((V 0 1).toNat - 1) - 1)) := by
        have : fX12_ask_L24 n (iN w) (iN 0) (iN 1) I' = fX12_ask_L24 n' (iN w) (iN s) (iN (V 0 1 - 1 + 1)) I' := q2
        rw [this]
        obtain ⟨n', rfl⟩ : ∃ m, n' = m + 1 := ⟨n' - 1, by omega⟩
        rw [fX12_ask_L24, R1.2.2.1.1.2.1, show V 0 1 - 1 + 1 = V 0 1 by omega, if_neg (iN_ir _), q3, show (V 0 1 - 1).toNat = (V 0 1).toNat - 1 by omega]
      have bi := bs_in V Wt N k ((V 0 1).toNat - 1)
      rw [q2', Option.bind_some]
      by_cases e : w = 0
      · rw [ite_p (by rw [e]), if_pos e, iN_add, show bs V Wt N k ((V 0 1).toNat - 1) - 1 + 1 = bs V Wt N k ((V 0 1).toNat - 1) by omega]
        exact ⟨I', rfl, g2⟩
      · rw [ite_n (by rw [iN_eq (by omega) (by omega) (by omega) (by omega)]; exact e), if_neg e, rf_ml h.1 hF (by omega) (by omega), Option.bind_some, show bs V Wt N k ((V 0 1).toNat - 1) - 1 + 1 = bs V Wt N k ((V 0 1).toNat - 1) by omega]
        exact ⟨I', rfl, g2⟩
  · rw [if_neg w0, ite_p rfl, if_neg w0]
    exact ⟨I, rfl, ex_refl⟩
end FIX
