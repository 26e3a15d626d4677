/-! THE CALLS that change nothing but what lies there (written by gen97b.py). -/
section LEN
variable {V : (Nat → Int → Int)} {S : Int → Int}
theorem len_lays {x : Option (Int × List Int)} {n : Nat} (h : ∀ v t, x = some (v, t) → t.length ≤ n) : (lays x).length ≤ n := by
  cases x with
  | none => exact Nat.zero_le _
  | some y => rw [lays, List.length_map]; exact h y.1 y.2 rfl
theorem len_lex {f : List Int → Option Int} {d n : Nat} {v : Int} {t : List Int} (h : fmin f none (lex d n) = some (v, t)) : t.length = n := by
  rcases fmin_mem f none (lex d n) v t h with h | h
  · cases h
  · exact (lex_mem n t h.1).1
theorem len_St (hw : wfV V) (hs : wfS V 600 S) {b d : Int} : (lays (sSt V S b d)).length ≤ 7 := by
  refine len_lays (fun v t h => ?_)
  unfold sSt at h
  split at h
  · next c => have := len_lex h; have := lft_le hw hs c.1.1 c.1.2; omega
  · cases h
theorem len_Co (hw : wfV V) (hs : wfS V 600 S) {b w : Int} : (lays (sCo V S b w)).length ≤ 7 := by
  refine len_lays (fun v t h => ?_)
  unfold sCo at h
  split at h
  · next c => have := len_lex h; have := lft_le hw hs c.1.1 c.1.2; omega
  · cases h
theorem len_xP (hw : wfV V) {tm : Bool} {B : Nat} {R : Int → Int} : (lay0 (xP V S tm B R)).length ≤ 7 := by
  have h3 := hw.1
  cases h : xP V S tm B R with
  | none => exact Nat.zero_le _
  | some y => have := (xP_in hw (v := y.1) (t := y.2) h).2; show y.2.length ≤ 7; omega
theorem len_Tr (hw : wfV V) {b : Int} : (lay0 (sTr V S b)).length ≤ 7 := by
  unfold sTr
  split
  · exact len_xP hw
  · exact Nat.zero_le _
theorem len_Mo (hw : wfV V) {w : Int} {l : List Int} (hl : l.length ≤ 7) : (lMo V S w l).length ≤ 7 := by
  have h3 := hw.1
  unfold lMo
  split
  · cases h : sMo V S with
    | none => exact Nat.zero_le _
    | some y =>
      have := len_lex (v := y.1) (t := y.2) h
      show (y.2.map enc).length ≤ 7
      rw [List.length_map]; omega
  · exact hl
theorem len_Gu {b d : Int} : (lGu V S b d).length ≤ 7 := by
  unfold lGu
  by_cases h : gOk V S b d
  · rw [if_pos h]; unfold gLay; split <;> simp
  · rw [if_neg h]; exact Nat.zero_le _
end LEN
section FIT
variable {V : (Nat → Int → Int)} {S : Int → Int} {Ls : Nat → Int → Int} {a u : Nat} {hb : Int → Bool} {Bs : Int → Int → Int} {Wt Wt1 : (Nat → Int → Int)} {N T N1 T1 : Int} {B : Nat → Int} {m : Nat} {l : List Int} {fk fp : Int32} {rv : Nat} {I I1 : (Nat → Nat → Int32)}
theorem CS_w {lc : List Nat} (h : CS V S Ls a u hb Bs Wt N T B m l fk fp rv I) (hrv : rv = 3 ∨ rv = 19) (e : ex lc I I1) (d : ∀ c ∈ lc, (54 ≤ c ∧ c ≤ 61) ∨ c = rv + 3 ∨ c = rv + 4) (hw : cW Wt1 N1 T1 I1) (hg : gT V I1) : CS V S Ls a u hb Bs Wt1 N1 T1 B m l fk fp rv I1 := by
  obtain ⟨h1, h2, h3, h4, h5, h6, h7, h8, h9, h10⟩ := h
  have g : ∀ c, ¬ ((54 ≤ c ∧ c ≤ 61) ∨ c = rv + 3 ∨ c = rv + 4) → I1 c = I c := fun c hc => e c (fun hm => hc (d c hm))
  exact ⟨clsV_s h1 (fun c q1 q2 q3 q4 => g c (by omega)), clsS_of h2 (g _ (by omega)), cU_s h3 (g _ (by omega)) (g _ (by omega)), cB_s h4 (g _ (by omega)) (g _ (by omega)), hw, hg, cTp_s h7 (by rw [g 1 (by omega)]) (g _ (by omega)), cl_s h8 (g _ (by omega)) (g _ (by omega)), by rw [g 1 (by omega)]; exact h9, by rw [g 1 (by omega)]; exact h10⟩
end FIT
theorem C_board {t : Int} (ht : 0 ≤ t ∧ t < 600) {h : mm_H} (hi : INV t h) (x1 x2 : Int32) : CALL2 164 263 [.int x1, .int x2] h (INV (t + 1)) := by
  obtain ⟨V, S, Ls, a, u, hb, Bs, Wt, N, T, B, m, l, fk, fp, I, J, rv, sp, rr, w, nw, rfl, hrs, hrr, hww, hcw, hP, hC, hR⟩ := hi
  obtain ⟨z1, hz1, rfl⟩ := in_iN x1
  obtain ⟨z2, hz2, rfl⟩ := in_iN x2
  have hrv : rv = 3 ∨ rv = 19 := by omega
  obtain ⟨n, hn⟩ : ∃ n : Nat, 900000 ≤ n := ⟨_, Nat.le_refl _⟩
  have hcO := PS_cOK hP (by omega) hC
  have c1 := cl_Board hcO hz1 hz2 (n := n) (by omega)
  have T1 := tX11_board 897 n (iN z1) (iN z2) I J rv sp rr w nw hrv _ c1
  have hC1 := hC
  have hR1 := hR
  have hrO := PS_rOK hP (by omega) hR1
  obtain ⟨I2, d1, d2⟩ := rf_Board hrO hz1 hz2 (n := n) (by omega)
  have T2 := tX12_board 898 n (iN z1) (iN z2) I J rv sp rr w nw _ d1
  have hR2 := RS_x hR1 (xf_ex d2) (by decide) (rl_x hR1.2.2.2.2.2.2.1 (xf_ex d2) (by decide))
  have hC2 := CS_lo hC1 hrv (xf_lo (xf_ex d2) (by decide))
  exact ⟨_, _, _, T1, T2, rfl, V, S, Ls, a, u, hb, Bs, Wt, N, T, B, m, _, fk, fp, I2, J, rv, sp, rr, w, nw, rfl, hrs, hrr, hww, hcw, PS_mono hP (by omega) (hP.2.2.2.2.2), hC2, hR2⟩
theorem C_load {t : Int} (ht : 0 ≤ t ∧ t < 600) {h : mm_H} (hi : INV t h) (x1 x2 : Int32) : CALL2 165 264 [.int x1, .int x2] h (INV (t + 1)) := by
  obtain ⟨V, S, Ls, a, u, hb, Bs, Wt, N, T, B, m, l, fk, fp, I, J, rv, sp, rr, w, nw, rfl, hrs, hrr, hww, hcw, hP, hC, hR⟩ := hi
  obtain ⟨z1, hz1, rfl⟩ := in_iN x1
  obtain ⟨z2, hz2, rfl⟩ := in_iN x2
  have hrv : rv = 3 ∨ rv = 19 := by omega
  obtain ⟨n, hn⟩ : ∃ n : Nat, 900000 ≤ n := ⟨_, Nat.le_refl _⟩
  have hcO := PS_cOK hP (by omega) hC
  have c1 := cl_Load hcO hz1 hz2
  have T1 := tX11_load 898 (iN z1) (iN z2) I J rv sp rr w nw hrv _ c1
  have hC1 := hC
  have hR1 := hR
  have hrO := PS_rOK hP (by omega) hR1
  have d1 := rf_Load hrO hz1 hz2
  have T2 := tX12_load 898 (iN z1) (iN z2) I J rv sp rr w nw _ d1
  have hC2 := hC1
  have hR2 := hR1
  exact ⟨_, _, _, T1, T2, rfl, V, S, Ls, a, u, hb, Bs, Wt, N, T, B, m, _, fk, fp, I, J, rv, sp, rr, w, nw, rfl, hrs, hrr, hww, hcw, PS_mono hP (by omega) (hP.2.2.2.2.2), hC2, hR2⟩
theorem C_spot {t : Int} (ht : 0 ≤ t ∧ t < 600) {h : mm_H} (hi : INV t h) (x1 x2 x3 : Int32) : CALL2 166 265 [.int x1, .int x2, .int x3] h (INV (t + 1)) := by
  obtain ⟨V, S, Ls, a, u, hb, Bs, Wt, N, T, B, m, l, fk, fp, I, J, rv, sp, rr, w, nw, rfl, hrs, hrr, hww, hcw, hP, hC, hR⟩ := hi
  obtain ⟨z1, hz1, rfl⟩ := in_iN x1
  obtain ⟨z2, hz2, rfl⟩ := in_iN x2
  obtain ⟨z3, hz3, rfl⟩ := in_iN x3
  have hrv : rv = 3 ∨ rv = 19 := by omega
  obtain ⟨n, hn⟩ : ∃ n : Nat, 900000 ≤ n := ⟨_, Nat.le_refl _⟩
  have hcO := PS_cOK hP (by omega) hC
  have c1 := cl_Spot hcO hz1 hz2 hz3
  have T1 := tX11_spot 898 (iN z1) (iN z2) (iN z3) I J rv sp rr w nw hrv _ c1
  have hC1 := hC
  have hR1 := hR
  have hrO := PS_rOK hP (by omega) hR1
  have d1 := rf_Spot hrO hz1 hz2 hz3
  have T2 := tX12_spot 899 (iN z1) (iN z2) (iN z3) I J rv sp rr w nw _ d1
  have hC2 := hC1
  have hR2 := hR1
  exact ⟨_, _, _, T1, T2, rfl, V, S, Ls, a, u, hb, Bs, Wt, N, T, B, m, _, fk, fp, I, J, rv, sp, rr, w, nw, rfl, hrs, hrr, hww, hcw, PS_mono hP (by omega) (hP.2.2.2.2.2), hC2, hR2⟩
theorem C_hotter {t : Int} (ht : 0 ≤ t ∧ t < 600) {h : mm_H} (hi : INV t h) (x1 : Int32) : CALL2 167 266 [.int x1] h (INV (t + 1)) := by
  obtain ⟨V, S, Ls, a, u, hb, Bs, Wt, N, T, B, m, l, fk, fp, I, J, rv, sp, rr, w, nw, rfl, hrs, hrr, hww, hcw, hP, hC, hR⟩ := hi
  obtain ⟨z1, hz1, rfl⟩ := in_iN x1
  have hrv : rv = 3 ∨ rv = 19 := by omega
  obtain ⟨n, hn⟩ : ∃ n : Nat, 900000 ≤ n := ⟨_, Nat.le_refl _⟩
  have hcO := PS_cOK hP (by omega) hC
  obtain ⟨I1, c1, c2⟩ := cl_Hotter hcO hz1 (n := n) (by omega)
  have T1 := tX11_hotter 896 n (iN z1) I J rv sp rr w nw hrv _ c1
  have hC1 := CS_q0 hC hrv c2 (by intro c hc; simp only [List.mem_cons, List.not_mem_nil, or_false] at hc; omega)
  have hR1 := RS_hi hR (ex_hi c2 (by intro c hc; simp only [List.mem_cons, List.not_mem_nil, or_false] at hc; omega))
  have hrO := PS_rOK hP (by omega) hR1
  obtain ⟨I2, d1, d2⟩ := rf_Hotter hrO hz1 (n := n) (by omega)
  have T2 := tX12_hotter 897 n (iN z1) I1 J rv sp rr w nw _ d1
  have hR2 := RS_x hR1 (xf_ex d2) (by decide) (rl_x hR1.2.2.2.2.2.2.1 (xf_ex d2) (by decide))
  have hC2 := CS_lo hC1 hrv (xf_lo (xf_ex d2) (by decide))
  exact ⟨_, _, _, T1, T2, rfl, V, S, Ls, a, u, hb, Bs, Wt, N, T, B, m, _, fk, fp, I2, J, rv, sp, rr, w, nw, rfl, hrs, hrr, hww, hcw, PS_mono hP (by omega) (hP.2.2.2.2.2), hC2, hR2⟩
theorem C_landings {t : Int} (ht : 0 ≤ t ∧ t < 600) {h : mm_H} (hi : INV t h) (x1 : Int32) : CALL2 175 282 [.int x1] h (INV (t + 1)) := by
  obtain ⟨V, S, Ls, a, u, hb, Bs, Wt, N, T, B, m, l, fk, fp, I, J, rv, sp, rr, w, nw, rfl, hrs, hrr, hww, hcw, hP, hC, hR⟩ := hi
  obtain ⟨z1, hz1, rfl⟩ := in_iN x1
  have hrv : rv = 3 ∨ rv = 19 := by omega
  obtain ⟨n, hn⟩ : ∃ n : Nat, 900000 ≤ n := ⟨_, Nat.le_refl _⟩
  have hcO := PS_cOK hP (by omega) hC
  have c1 := cl_Landings hcO hz1 (n := n) (by omega)
  have T1 := tX11_landings 896 n (iN z1) I J rv sp rr w nw hrv _ c1
  have hC1 := hC
  have hR1 := hR
  have hrO := PS_rOK hP (by omega) hR1
  obtain ⟨I2, d1, d2⟩ := rf_Landings hrO hz1 (n := n) (by omega)
  have T2 := tX12_landings 894 n (iN z1) I J rv sp rr w nw _ d1
  have hR2 := RS_x hR1 (xf_ex d2) (by decide) (rl_x hR1.2.2.2.2.2.2.1 (xf_ex d2) (by decide))
  have hC2 := CS_lo hC1 hrv (xf_lo (xf_ex d2) (by decide))
  exact ⟨_, _, _, T1, T2, rfl, V, S, Ls, a, u, hb, Bs, Wt, N, T, B, m, _, fk, fp, I2, J, rv, sp, rr, w, nw, rfl, hrs, hrr, hww, hcw, PS_mono hP (by omega) (hP.2.2.2.2.2), hC2, hR2⟩
theorem C_drift {t : Int} (ht : 0 ≤ t ∧ t < 600) {h : mm_H} (hi : INV t h) (x1 : Int32) : CALL2 176 285 [.int x1] h (INV (t + 1)) := by
  obtain ⟨V, S, Ls, a, u, hb, Bs, Wt, N, T, B, m, l, fk, fp, I, J, rv, sp, rr, w, nw, rfl, hrs, hrr, hww, hcw, hP, hC, hR⟩ := hi
  obtain ⟨z1, hz1, rfl⟩ := in_iN x1
  have hrv : rv = 3 ∨ rv = 19 := by omega
  obtain ⟨n, hn⟩ : ∃ n : Nat, 900000 ≤ n := ⟨_, Nat.le_refl _⟩
  have hcO := PS_cOK hP (by omega) hC
  have c1 := cl_drift hcO hz1 (n := n) (by omega)
  have T1 := tX11_drift 896 n (iN z1) I J rv sp rr w nw hrv _ c1
  have hC1 := hC
  have hR1 := hR
  have hrO := PS_rOK hP (by omega) hR1
  obtain ⟨I2, d1, d2⟩ := rf_drift hrO hz1 (n := n) (by omega)
  have T2 := tX12_drift 895 n (iN z1) I J rv sp rr w nw _ d1
  have hR2 := RS_x hR1 (xf_ex d2) (by decide) (rl_x hR1.2.2.2.2.2.2.1 (xf_ex d2) (by decide))
  have hC2 := CS_lo hC1 hrv (xf_lo (xf_ex d2) (by decide))
  exact ⟨_, _, _, T1, T2, rfl, V, S, Ls, a, u, hb, Bs, Wt, N, T, B, m, _, fk, fp, I2, J, rv, sp, rr, w, nw, rfl, hrs, hrr, hww, hcw, PS_mono hP (by omega) (hP.2.2.2.2.2), hC2, hR2⟩
theorem C_rows {t : Int} (ht : 0 ≤ t ∧ t < 600) {h : mm_H} (hi : INV t h) (x1 : Int32) : CALL2 177 283 [.int x1] h (INV (t + 1)) := by
  obtain ⟨V, S, Ls, a, u, hb, Bs, Wt, N, T, B, m, l, fk, fp, I, J, rv, sp, rr, w, nw, rfl, hrs, hrr, hww, hcw, hP, hC, hR⟩ := hi
  obtain ⟨z1, hz1, rfl⟩ := in_iN x1
  have hrv : rv = 3 ∨ rv = 19 := by omega
  obtain ⟨n, hn⟩ : ∃ n : Nat, 900000 ≤ n := ⟨_, Nat.le_refl _⟩
  have hcO := PS_cOK hP (by omega) hC
  obtain ⟨I1, c1, c2⟩ := cl_rows hrv hcO hz1 (n := n) (by omega)
  have T1 := tX11_rows 896 n (iN z1) I J rv sp rr w nw hrv _ c1
  have hC1 := CS_q0 hC hrv c2 (by intro c hc; simp only [List.mem_cons, List.not_mem_nil, or_false] at hc; omega)
  have hR1 := RS_hi hR (ex_hi c2 (by intro c hc; simp only [List.mem_cons, List.not_mem_nil, or_false] at hc; omega))
  have hrO := PS_rOK hP (by omega) hR1
  obtain ⟨I2, d1, d2⟩ := rf_rows hrO hz1 (n := n) (by omega)
  have T2 := tX12_rows 895 n (iN z1) I1 J rv sp rr w nw _ d1
  have hR2 := RS_x hR1 (xf_ex d2) (by decide) (rl_x hR1.2.2.2.2.2.2.1 (xf_ex d2) (by decide))
  have hC2 := CS_lo hC1 hrv (xf_lo (xf_ex d2) (by decide))
  exact ⟨_, _, _, T1, T2, rfl, V, S, Ls, a, u, hb, Bs, Wt, N, T, B, m, _, fk, fp, I2, J, rv, sp, rr, w, nw, rfl, hrs, hrr, hww, hcw, PS_mono hP (by omega) (hP.2.2.2.2.2), hC2, hR2⟩
theorem C_coolest {t : Int} (ht : 0 ≤ t ∧ t < 600) {h : mm_H} (hi : INV t h) (x1 x2 : Int32) : CALL2 178 286 [.int x1, .int x2] h (INV (t + 1)) := by
  obtain ⟨V, S, Ls, a, u, hb, Bs, Wt, N, T, B, m, l, fk, fp, I, J, rv, sp, rr, w, nw, rfl, hrs, hrr, hww, hcw, hP, hC, hR⟩ := hi
  obtain ⟨z1, hz1, rfl⟩ := in_iN x1
  obtain ⟨z2, hz2, rfl⟩ := in_iN x2
  have hrv : rv = 3 ∨ rv = 19 := by omega
  obtain ⟨n, hn⟩ : ∃ n : Nat, 900000 ≤ n := ⟨_, Nat.le_refl _⟩
  have hcO := PS_cOK hP (by omega) hC
  obtain ⟨I1, c1, c2, c3⟩ := cl_Cool hrv hcO hz1 hz2 (n := n) (by omega)
  have T1 := tX11_coolest 866 n (iN z1) (iN z2) I J rv sp rr w nw hrv _ c1
  have hC1 := CS_q hC hrv c2 (by intro c hc; simp only [List.mem_cons, List.not_mem_nil, or_false] at hc; omega) c3
  have hR1 := RS_hi hR (ex_hi c2 (by intro c hc; simp only [List.mem_cons, List.not_mem_nil, or_false] at hc; omega))
  have hrO := PS_rOK hP (by omega) hR1
  obtain ⟨I2, d1, d2, d3⟩ := rf_Cool hrO hz1 hz2 (n := n) (by omega)
  have T2 := tX12_coolest 895 n (iN z1) (iN z2) I1 J rv sp rr w nw _ d1
  have hR2 := RS_x hR1 d2 (by decide) d3
  have hC2 := CS_lo hC1 hrv (xf_lo d2 (by decide))
  exact ⟨_, _, _, T1, T2, rfl, V, S, Ls, a, u, hb, Bs, Wt, N, T, B, m, _, fk, fp, I2, J, rv, sp, rr, w, nw, rfl, hrs, hrr, hww, hcw, PS_mono hP (by omega) (len_Co hP.1 (wfS_mono hP.2.1 (by omega))), hC2, hR2⟩
theorem C_straight {t : Int} (ht : 0 ≤ t ∧ t < 600) {h : mm_H} (hi : INV t h) (x1 x2 : Int32) : CALL2 179 288 [.int x1, .int x2] h (INV (t + 1)) := by
  obtain ⟨V, S, Ls, a, u, hb, Bs, Wt, N, T, B, m, l, fk, fp, I, J, rv, sp, rr, w, nw, rfl, hrs, hrr, hww, hcw, hP, hC, hR⟩ := hi
  obtain ⟨z1, hz1, rfl⟩ := in_iN x1
  obtain ⟨z2, hz2, rfl⟩ := in_iN x2
  have hrv : rv = 3 ∨ rv = 19 := by omega
  obtain ⟨n, hn⟩ : ∃ n : Nat, 900000 ≤ n := ⟨_, Nat.le_refl _⟩
  have hcO := PS_cOK hP (by omega) hC
  obtain ⟨I1, c1, c2, c3⟩ := cl_Straight hrv hcO hz1 hz2 (n := n) (by omega)
  have T1 := tX11_straight 895 n (iN z1) (iN z2) I J rv sp rr w nw hrv _ c1
  have hC1 := CS_q hC hrv c2 (by intro c hc; simp only [List.mem_cons, List.not_mem_nil, or_false] at hc; omega) c3
  have hR1 := RS_hi hR (ex_hi c2 (by intro c hc; simp only [List.mem_cons, List.not_mem_nil, or_false] at hc; omega))
  have hrO := PS_rOK hP (by omega) hR1
  obtain ⟨I2, d1, d2, d3⟩ := rf_Straight hrO hz1 hz2 (n := n) (by omega)
  have T2 := tX12_straight 895 n (iN z1) (iN z2) I1 J rv sp rr w nw _ d1
  have hR2 := RS_x hR1 d2 (by decide) d3
  have hC2 := CS_lo hC1 hrv (xf_lo d2 (by decide))
  exact ⟨_, _, _, T1, T2, rfl, V, S, Ls, a, u, hb, Bs, Wt, N, T, B, m, _, fk, fp, I2, J, rv, sp, rr, w, nw, rfl, hrs, hrr, hww, hcw, PS_mono hP (by omega) (len_St hP.1 (wfS_mono hP.2.1 (by omega))), hC2, hR2⟩
theorem C_widest {t : Int} (ht : 0 ≤ t ∧ t < 600) {h : mm_H} (hi : INV t h) (x1 x2 : Int32) : CALL2 180 290 [.int x1, .int x2] h (INV (t + 1)) := by
  obtain ⟨V, S, Ls, a, u, hb, Bs, Wt, N, T, B, m, l, fk, fp, I, J, rv, sp, rr, w, nw, rfl, hrs, hrr, hww, hcw, hP, hC, hR⟩ := hi
  obtain ⟨z1, hz1, rfl⟩ := in_iN x1
  obtain ⟨z2, hz2, rfl⟩ := in_iN x2
  have hrv : rv = 3 ∨ rv = 19 := by omega
  obtain ⟨n, hn⟩ : ∃ n : Nat, 900000 ≤ n := ⟨_, Nat.le_refl _⟩
  have hcO := PS_cOK hP (by omega) hC
  have c1 := cl_Widest hcO hz1 hz2 (n := n) (by omega)
  have T1 := tX11_widest 895 n (iN z1) (iN z2) I J rv sp rr w nw hrv _ c1
  have hC1 := hC
  have hR1 := hR
  have hrO := PS_rOK hP (by omega) hR1
  obtain ⟨I2, d1, d2⟩ := rf_Widest hrO hz1 hz2 (n := n) (by omega)
  have T2 := tX12_widest 898 n (iN z1) (iN z2) I J rv sp rr w nw _ d1
  have hR2 := RS_x hR1 (xf_ex d2) (by decide) (rl_x hR1.2.2.2.2.2.2.1 (xf_ex d2) (by decide))
  have hC2 := CS_lo hC1 hrv (xf_lo (xf_ex d2) (by decide))
  exact ⟨_, _, _, T1, T2, rfl, V, S, Ls, a, u, hb, Bs, Wt, N, T, B, m, _, fk, fp, I2, J, rv, sp, rr, w, nw, rfl, hrs, hrr, hww, hcw, PS_mono hP (by omega) (hP.2.2.2.2.2), hC2, hR2⟩
theorem C_trips {t : Int} (ht : 0 ≤ t ∧ t < 600) {h : mm_H} (hi : INV t h) (x1 : Int32) : CALL2 181 295 [.int x1] h (INV (t + 1)) := by
  obtain ⟨V, S, Ls, a, u, hb, Bs, Wt, N, T, B, m, l, fk, fp, I, J, rv, sp, rr, w, nw, rfl, hrs, hrr, hww, hcw, hP, hC, hR⟩ := hi
  obtain ⟨z1, hz1, rfl⟩ := in_iN x1
  have hrv : rv = 3 ∨ rv = 19 := by omega
  obtain ⟨n, hn⟩ : ∃ n : Nat, 900000 ≤ n := ⟨_, Nat.le_refl _⟩
  have hcO := PS_cOK hP (by omega) hC
  obtain ⟨I1, c1, c2, c3⟩ := cl_Trips hrv hcO hz1 (n := n) (by omega)
  have T1 := tX11_trips 870 n (iN z1) I J rv sp rr w nw hrv _ c1
  have hC1 := CS_q hC hrv c2 (by intro c hc; simp only [List.mem_cons, List.not_mem_nil, or_false] at hc; omega) c3
  have hR1 := RS_hi hR (ex_hi c2 (by intro c hc; simp only [List.mem_cons, List.not_mem_nil, or_false] at hc; omega))
  have hrO := PS_rOK hP (by omega) hR1
  obtain ⟨I2, d1, d2, d3⟩ := rf_Trips hrO hz1 (n := n) (by omega)
  have T2 := tX12_trips 897 n (iN z1) I1 J rv sp rr w nw _ d1
  have hR2 := RS_x hR1 d2 (by decide) d3
  have hC2 := CS_lo hC1 hrv (xf_lo d2 (by decide))
  exact ⟨_, _, _, T1, T2, rfl, V, S, Ls, a, u, hb, Bs, Wt, N, T, B, m, _, fk, fp, I2, J, rv, sp, rr, w, nw, rfl, hrs, hrr, hww, hcw, PS_mono hP (by omega) (len_Tr hP.1), hC2, hR2⟩
theorem C_stowing {t : Int} (ht : 0 ≤ t ∧ t < 600) {h : mm_H} (hi : INV t h) : CALL2 182 297 [] h (INV (t + 1)) := by
  obtain ⟨V, S, Ls, a, u, hb, Bs, Wt, N, T, B, m, l, fk, fp, I, J, rv, sp, rr, w, nw, rfl, hrs, hrr, hww, hcw, hP, hC, hR⟩ := hi
  have hrv : rv = 3 ∨ rv = 19 := by omega
  obtain ⟨n, hn⟩ : ∃ n : Nat, 900000 ≤ n := ⟨_, Nat.le_refl _⟩
  have hcO := PS_cOK hP (by omega) hC
  obtain ⟨I1, c1, c2, c3⟩ := cl_Stow hrv hcO (n := n) (by omega)
  have T1 := tX11_stowing 870 n I J rv sp rr w nw hrv _ c1
  have hC1 := CS_q hC hrv c2 (by intro c hc; simp only [List.mem_cons, List.not_mem_nil, or_false] at hc; omega) c3
  have hR1 := RS_hi hR (ex_hi c2 (by intro c hc; simp only [List.mem_cons, List.not_mem_nil, or_false] at hc; omega))
  have hrO := PS_rOK hP (by omega) hR1
  obtain ⟨I2, d1, d2, d3⟩ := rf_Stow hrO (n := n) (by omega)
  have T2 := tX12_stowing 897 n I1 J rv sp rr w nw _ d1
  have hR2 := RS_x hR1 d2 (by decide) d3
  have hC2 := CS_lo hC1 hrv (xf_lo d2 (by decide))
  exact ⟨_, _, _, T1, T2, rfl, V, S, Ls, a, u, hb, Bs, Wt, N, T, B, m, _, fk, fp, I2, J, rv, sp, rr, w, nw, rfl, hrs, hrr, hww, hcw, PS_mono hP (by omega) (len_xP hP.1), hC2, hR2⟩
theorem C_meet {t : Int} (ht : 0 ≤ t ∧ t < 600) {h : mm_H} (hi : INV t h) (x1 x2 : Int32) : CALL2 183 300 [.int x1, .int x2] h (INV (t + 1)) := by
  obtain ⟨V, S, Ls, a, u, hb, Bs, Wt, N, T, B, m, l, fk, fp, I, J, rv, sp, rr, w, nw, rfl, hrs, hrr, hww, hcw, hP, hC, hR⟩ := hi
  obtain ⟨z1, hz1, rfl⟩ := in_iN x1
  obtain ⟨z2, hz2, rfl⟩ := in_iN x2
  have hrv : rv = 3 ∨ rv = 19 := by omega
  obtain ⟨n, hn⟩ : ∃ n : Nat, 900000 ≤ n := ⟨_, Nat.le_refl _⟩
  have hcO := PS_cOK hP (by omega) hC
  have c1 := cl_Meet hcO hz1 hz2 (n := n) (by omega)
  have T1 := tX11_meet 896 n (iN z1) (iN z2) I J rv sp rr w nw hrv _ c1
  have hC1 := hC
  have hR1 := hR
  have hrO := PS_rOK hP (by omega) hR1
  obtain ⟨I2, d1, d2⟩ := rf_Meet hrO hz1 hz2 (n := n) (by omega)
  have T2 := tX12_meet 897 n (iN z1) (iN z2) I J rv sp rr w nw _ d1
  have hR2 := RS_x hR1 (xf_ex d2) (by decide) (rl_x hR1.2.2.2.2.2.2.1 (xf_ex d2) (by decide))
  have hC2 := CS_lo hC1 hrv (xf_lo (xf_ex d2) (by decide))
  exact ⟨_, _, _, T1, T2, rfl, V, S, Ls, a, u, hb, Bs, Wt, N, T, B, m, _, fk, fp, I2, J, rv, sp, rr, w, nw, rfl, hrs, hrr, hww, hcw, PS_mono hP (by omega) (hP.2.2.2.2.2), hC2, hR2⟩
theorem C_mooring {t : Int} (ht : 0 ≤ t ∧ t < 600) {h : mm_H} (hi : INV t h) (x1 : Int32) : CALL2 184 303 [.int x1] h (INV (t + 1)) := by
  obtain ⟨V, S, Ls, a, u, hb, Bs, Wt, N, T, B, m, l, fk, fp, I, J, rv, sp, rr, w, nw, rfl, hrs, hrr, hww, hcw, hP, hC, hR⟩ := hi
  obtain ⟨z1, hz1, rfl⟩ := in_iN x1
  have hrv : rv = 3 ∨ rv = 19 := by omega
  obtain ⟨n, hn⟩ : ∃ n : Nat, 900000 ≤ n := ⟨_, Nat.le_refl _⟩
  have hcO := PS_cOK hP (by omega) hC
  obtain ⟨I1, c1, c2, c3⟩ := cl_Moor hrv hcO hC.2.2.2.2.2.2.2.1 hz1 (n := n) (by omega)
  have T1 := tX11_mooring 880 n (iN z1) I J rv sp rr w nw hrv _ c1
  have hC1 := CS_q hC hrv c2 (by intro c hc; simp only [List.mem_cons, List.not_mem_nil, or_false] at hc; omega) c3
  have hR1 := RS_hi hR (ex_hi c2 (by intro c hc; simp only [List.mem_cons, List.not_mem_nil, or_false] at hc; omega))
  have hrO := PS_rOK hP (by omega) hR1
  obtain ⟨I2, d1, d2, d3⟩ := rf_Moor hrO hR1.2.2.2.2.2.2.1 hz1 (n := n) (by omega)
  have T2 := tX12_mooring 894 n (iN z1) I1 J rv sp rr w nw _ d1
  have hR2 := RS_x hR1 d2 (by decide) d3
  have hC2 := CS_lo hC1 hrv (xf_lo d2 (by decide))
  exact ⟨_, _, _, T1, T2, rfl, V, S, Ls, a, u, hb, Bs, Wt, N, T, B, m, _, fk, fp, I2, J, rv, sp, rr, w, nw, rfl, hrs, hrr, hww, hcw, PS_mono hP (by omega) (len_Mo hP.1 hP.2.2.2.2.2), hC2, hR2⟩
theorem C_guests {t : Int} (ht : 0 ≤ t ∧ t < 600) {h : mm_H} (hi : INV t h) (x1 x2 : Int32) : CALL2 185 306 [.int x1, .int x2] h (INV (t + 1)) := by
  obtain ⟨V, S, Ls, a, u, hb, Bs, Wt, N, T, B, m, l, fk, fp, I, J, rv, sp, rr, w, nw, rfl, hrs, hrr, hww, hcw, hP, hC, hR⟩ := hi
  obtain ⟨z1, hz1, rfl⟩ := in_iN x1
  obtain ⟨z2, hz2, rfl⟩ := in_iN x2
  have hrv : rv = 3 ∨ rv = 19 := by omega
  obtain ⟨n, hn⟩ : ∃ n : Nat, 900000 ≤ n := ⟨_, Nat.le_refl _⟩
  have hcO := PS_cOK hP (by omega) hC
  obtain ⟨I1, c1, c2, c3⟩ := cl_Guests hrv hcO hz1 hz2 (n := n) (by omega)
  have T1 := tX11_guests 895 n (iN z1) (iN z2) I J rv sp rr w nw hrv _ c1
  have hC1 := CS_q hC hrv c2 (by intro c hc; simp only [List.mem_cons, List.not_mem_nil, or_false] at hc; omega) c3
  have hR1 := RS_hi hR (ex_hi c2 (by intro c hc; simp only [List.mem_cons, List.not_mem_nil, or_false] at hc; omega))
  have hrO := PS_rOK hP (by omega) hR1
  obtain ⟨I2, d1, d2, d3⟩ := rf_Guests hrO hz1 hz2 (n := n) (by omega)
  have T2 := tX12_guests 894 n (iN z1) (iN z2) I1 J rv sp rr w nw _ d1
  have hR2 := RS_x hR1 d2 (by decide) d3
  have hC2 := CS_lo hC1 hrv (xf_lo d2 (by decide))
  exact ⟨_, _, _, T1, T2, rfl, V, S, Ls, a, u, hb, Bs, Wt, N, T, B, m, _, fk, fp, I2, J, rv, sp, rr, w, nw, rfl, hrs, hrr, hww, hcw, PS_mono hP (by omega) (len_Gu), hC2, hR2⟩
theorem C_singe {t : Int} (ht : 0 ≤ t ∧ t < 600) {h : mm_H} (hi : INV t h) (x1 : Int32) : CALL2 186 307 [.int x1] h (INV (t + 1)) := by
  obtain ⟨V, S, Ls, a, u, hb, Bs, Wt, N, T, B, m, l, fk, fp, I, J, rv, sp, rr, w, nw, rfl, hrs, hrr, hww, hcw, hP, hC, hR⟩ := hi
  obtain ⟨z1, hz1, rfl⟩ := in_iN x1
  have hrv : rv = 3 ∨ rv = 19 := by omega
  obtain ⟨n, hn⟩ : ∃ n : Nat, 900000 ≤ n := ⟨_, Nat.le_refl _⟩
  have hcO := PS_cOK hP (by omega) hC
  obtain ⟨I1, c1, c2⟩ := cl_Singe hrv hcO hz1 (n := n) (by omega)
  have T1 := tX11_singe 896 n (iN z1) I J rv sp rr w nw hrv _ c1
  have hC1 := CS_q0 hC hrv c2 (by intro c hc; simp only [List.mem_cons, List.not_mem_nil, or_false] at hc; omega)
  have hR1 := RS_hi hR (ex_hi c2 (by intro c hc; simp only [List.mem_cons, List.not_mem_nil, or_false] at hc; omega))
  have hrO := PS_rOK hP (by omega) hR1
  obtain ⟨I2, d1, d2⟩ := rf_Singe hrO hz1 (n := n) (by omega)
  have T2 := tX12_singe 896 n (iN z1) I1 J rv sp rr w nw _ d1
  have hR2 := RS_x hR1 (xf_ex d2) (by decide) (rl_x hR1.2.2.2.2.2.2.1 (xf_ex d2) (by decide))
  have hC2 := CS_lo hC1 hrv (xf_lo (xf_ex d2) (by decide))
  exact ⟨_, _, _, T1, T2, rfl, V, S, Ls, a, u, hb, Bs, Wt, N, T, B, m, _, fk, fp, I2, J, rv, sp, rr, w, nw, rfl, hrs, hrr, hww, hcw, PS_mono hP (by omega) (hP.2.2.2.2.2), hC2, hR2⟩
theorem C_over {t : Int} (ht : 0 ≤ t ∧ t < 600) {h : mm_H} (hi : INV t h) : CALL2 188 311 [] h (INV (t + 1)) := by
  obtain ⟨V, S, Ls, a, u, hb, Bs, Wt, N, T, B, m, l, fk, fp, I, J, rv, sp, rr, w, nw, rfl, hrs, hrr, hww, hcw, hP, hC, hR⟩ := hi
  have hrv : rv = 3 ∨ rv = 19 := by omega
  obtain ⟨n, hn⟩ : ∃ n : Nat, 900000 ≤ n := ⟨_, Nat.le_refl _⟩
  have hcO := PS_cOK hP (by omega) hC
  have c1 := cl_Over hcO (n := n) (by omega)
  have T1 := tX11_over 897 n I J rv sp rr w nw hrv _ c1
  have hC1 := hC
  have hR1 := hR
  have hrO := PS_rOK hP (by omega) hR1
  obtain ⟨I2, d1, d2⟩ := rf_Over hrO (n := n) (by omega)
  have T2 := tX12_over 898 n I J rv sp rr w nw _ d1
  have hR2 := RS_x hR1 (xf_ex d2) (by decide) (rl_x hR1.2.2.2.2.2.2.1 (xf_ex d2) (by decide))
  have hC2 := CS_lo hC1 hrv (xf_lo (xf_ex d2) (by decide))
  exact ⟨_, _, _, T1, T2, rfl, V, S, Ls, a, u, hb, Bs, Wt, N, T, B, m, _, fk, fp, I2, J, rv, sp, rr, w, nw, rfl, hrs, hrr, hww, hcw, PS_mono hP (by omega) (hP.2.2.2.2.2), hC2, hR2⟩
theorem C_left {t : Int} (ht : 0 ≤ t ∧ t < 600) {h : mm_H} (hi : INV t h) : CALL2 189 312 [] h (INV (t + 1)) := by
  obtain ⟨V, S, Ls, a, u, hb, Bs, Wt, N, T, B, m, l, fk, fp, I, J, rv, sp, rr, w, nw, rfl, hrs, hrr, hww, hcw, hP, hC, hR⟩ := hi
  have hrv : rv = 3 ∨ rv = 19 := by omega
  obtain ⟨n, hn⟩ : ∃ n : Nat, 900000 ≤ n := ⟨_, Nat.le_refl _⟩
  have hcO := PS_cOK hP (by omega) hC
  have c1 := cl_Left hcO (n := n) (by omega)
  have T1 := tX11_left 897 n I J rv sp rr w nw hrv _ c1
  have hC1 := hC
  have hR1 := hR
  have hrO := PS_rOK hP (by omega) hR1
  obtain ⟨I2, d1, d2⟩ := rf_Left hrO (n := n) (by omega)
  have T2 := tX12_left 898 n I J rv sp rr w nw _ d1
  have hR2 := RS_x hR1 (xf_ex d2) (by decide) (rl_x hR1.2.2.2.2.2.2.1 (xf_ex d2) (by decide))
  have hC2 := CS_lo hC1 hrv (xf_lo (xf_ex d2) (by decide))
  exact ⟨_, _, _, T1, T2, rfl, V, S, Ls, a, u, hb, Bs, Wt, N, T, B, m, _, fk, fp, I2, J, rv, sp, rr, w, nw, rfl, hrs, hrr, hww, hcw, PS_mono hP (by omega) (hP.2.2.2.2.2), hC2, hR2⟩
theorem C_pulled {t : Int} (ht : 0 ≤ t ∧ t < 600) {h : mm_H} (hi : INV t h) : CALL2 190 313 [] h (INV (t + 1)) := by
  obtain ⟨V, S, Ls, a, u, hb, Bs, Wt, N, T, B, m, l, fk, fp, I, J, rv, sp, rr, w, nw, rfl, hrs, hrr, hww, hcw, hP, hC, hR⟩ := hi
  have hrv : rv = 3 ∨ rv = 19 := by omega
  obtain ⟨n, hn⟩ : ∃ n : Nat, 900000 ≤ n := ⟨_, Nat.le_refl _⟩
  have hcO := PS_cOK hP (by omega) hC
  have c1 := cl_Pull hcO (n := n) (by omega)
  have T1 := tX11_pulled 897 n I J rv sp rr w nw hrv _ c1
  have hC1 := hC
  have hR1 := hR
  have hrO := PS_rOK hP (by omega) hR1
  have d1 := rf_Pull hrO (n := n) (by omega)
  have T2 := tX12_pulled 899 n I J rv sp rr w nw _ d1
  have hC2 := hC1
  have hR2 := hR1
  exact ⟨_, _, _, T1, T2, rfl, V, S, Ls, a, u, hb, Bs, Wt, N, T, B, m, _, fk, fp, I, J, rv, sp, rr, w, nw, rfl, hrs, hrr, hww, hcw, PS_mono hP (by omega) (hP.2.2.2.2.2), hC2, hR2⟩
theorem C_hottest {t : Int} (ht : 0 ≤ t ∧ t < 600) {h : mm_H} (hi : INV t h) : CALL2 191 314 [] h (INV (t + 1)) := by
  obtain ⟨V, S, Ls, a, u, hb, Bs, Wt, N, T, B, m, l, fk, fp, I, J, rv, sp, rr, w, nw, rfl, hrs, hrr, hww, hcw, hP, hC, hR⟩ := hi
  have hrv : rv = 3 ∨ rv = 19 := by omega
  obtain ⟨n, hn⟩ : ∃ n : Nat, 900000 ≤ n := ⟨_, Nat.le_refl _⟩
  have hcO := PS_cOK hP (by omega) hC
  have c1 := cl_Hot hcO (n := n) (by omega)
  have T1 := tX11_hottest 897 n I J rv sp rr w nw hrv _ c1
  have hC1 := hC
  have hR1 := hR
  have hrO := PS_rOK hP (by omega) hR1
  have d1 := rf_Hot hrO (n := n) (by omega)
  have T2 := tX12_hottest 900 n I J rv sp rr w nw _ d1
  have hC2 := hC1
  have hR2 := hR1
  exact ⟨_, _, _, T1, T2, rfl, V, S, Ls, a, u, hb, Bs, Wt, N, T, B, m, _, fk, fp, I, J, rv, sp, rr, w, nw, rfl, hrs, hrr, hww, hcw, PS_mono hP (by omega) (hP.2.2.2.2.2), hC2, hR2⟩
theorem C_law {t : Int} (ht : 0 ≤ t ∧ t < 600) {h : mm_H} (hi : INV t h) (x1 : Int32) : CALL2 192 315 [.int x1] h (INV (t + 1)) := by
  obtain ⟨V, S, Ls, a, u, hb, Bs, Wt, N, T, B, m, l, fk, fp, I, J, rv, sp, rr, w, nw, rfl, hrs, hrr, hww, hcw, hP, hC, hR⟩ := hi
  obtain ⟨z1, hz1, rfl⟩ := in_iN x1
  have hrv : rv = 3 ∨ rv = 19 := by omega
  obtain ⟨n, hn⟩ : ∃ n : Nat, 900000 ≤ n := ⟨_, Nat.le_refl _⟩
  have hcO := PS_cOK hP (by omega) hC
  have c1 := cl_Law hcO hz1 (n := n) (by omega)
  have T1 := tX11_law 898 n (iN z1) I J rv sp rr w nw hrv _ c1
  have hC1 := hC
  have hR1 := hR
  have hrO := PS_rOK hP (by omega) hR1
  obtain ⟨I2, d1, d2⟩ := rf_Law hrO hz1 (n := n) (by omega)
  have T2 := tX12_law 897 n (iN z1) I J rv sp rr w nw _ d1
  have hR2 := RS_x hR1 (xf_ex d2) (by decide) (rl_x hR1.2.2.2.2.2.2.1 (xf_ex d2) (by decide))
  have hC2 := CS_lo hC1 hrv (xf_lo (xf_ex d2) (by decide))
  exact ⟨_, _, _, T1, T2, rfl, V, S, Ls, a, u, hb, Bs, Wt, N, T, B, m, _, fk, fp, I2, J, rv, sp, rr, w, nw, rfl, hrs, hrr, hww, hcw, PS_mono hP (by omega) (hP.2.2.2.2.2), hC2, hR2⟩
theorem C_fits {t : Int} (ht : 0 ≤ t ∧ t < 600) {h : mm_H} (hi : INV t h) (x1 : Int32) : CALL2 198 324 [.int x1] h (INV (t + 1)) := by
  obtain ⟨V, S, Ls, a, u, hb, Bs, Wt, N, T, B, m, l, fk, fp, I, J, rv, sp, rr, w, nw, rfl, hrs, hrr, hww, hcw, hP, hC, hR⟩ := hi
  obtain ⟨z1, hz1, rfl⟩ := in_iN x1
  have hrv : rv = 3 ∨ rv = 19 := by omega
  obtain ⟨n, hn⟩ : ∃ n : Nat, 900000 ≤ n := ⟨_, Nat.le_refl _⟩
  have hcO := PS_cOK hP (by omega) hC
  obtain ⟨I1, c1, c2, c3, c4⟩ := cl_Fits hrv hcO hP.2.2.2.2.1 hC.2.2.2.2.1 hC.2.2.2.2.2.1 hz1 (n := n) (by omega)
  have T1 := tX11_fits 882 n (iN z1) I J rv sp rr w nw hrv _ c1
  have hC1 := CS_w hC hrv c2 (by intro c hc; simp only [List.mem_cons, List.not_mem_nil, or_false] at hc; omega) c3 c4
  have hR1 := RS_hi hR (ex_hi c2 (by intro c hc; simp only [List.mem_cons, List.not_mem_nil, or_false] at hc; omega))
  have hrO := PS_rOK hP (by omega) hR1
  obtain ⟨I2, d1, d2⟩ := rf_Fits hrO hP.2.2.2.2.1 hR1.2.2.2.2.1 hz1 (n := n) (by omega)
  have T2 := tX12_fits 895 n (iN z1) I1 J rv sp rr w nw _ d1
  have hR2 := RS_x hR1 (xf_ex d2) (by decide) (rl_x hR1.2.2.2.2.2.2.1 (xf_ex d2) (by decide))
  have hC2 := CS_lo hC1 hrv (xf_lo (xf_ex d2) (by decide))
  exact ⟨_, _, _, T1, T2, rfl, V, S, Ls, a, u, hb, Bs, Wt, N, T, B, m, _, fk, fp, I2, J, rv, sp, rr, w, nw, rfl, hrs, hrr, hww, hcw, PS_mono hP (by omega) (hP.2.2.2.2.2), hC2, hR2⟩
theorem C_sure {t : Int} (ht : 0 ≤ t ∧ t < 600) {h : mm_H} (hi : INV t h) (x1 x2 : Int32) : CALL2 199 325 [.int x1, .int x2] h (INV (t + 1)) := by
  obtain ⟨V, S, Ls, a, u, hb, Bs, Wt, N, T, B, m, l, fk, fp, I, J, rv, sp, rr, w, nw, rfl, hrs, hrr, hww, hcw, hP, hC, hR⟩ := hi
  obtain ⟨z1, hz1, rfl⟩ := in_iN x1
  obtain ⟨z2, hz2, rfl⟩ := in_iN x2
  have hrv : rv = 3 ∨ rv = 19 := by omega
  obtain ⟨n, hn⟩ : ∃ n : Nat, 900000 ≤ n := ⟨_, Nat.le_refl _⟩
  have hcO := PS_cOK hP (by omega) hC
  obtain ⟨I1, c1, c2, c3, c4⟩ := cl_Sure hrv hcO hP.2.2.2.2.1 hC.2.2.2.2.1 hC.2.2.2.2.2.1 hz1 hz2 (n := n) (by omega)
  have T1 := tX11_sure 881 n (iN z1) (iN z2) I J rv sp rr w nw hrv _ c1
  have hC1 := CS_w hC hrv c2 (by intro c hc; simp only [List.mem_cons, List.not_mem_nil, or_false] at hc; omega) c3 c4
  have hR1 := RS_hi hR (ex_hi c2 (by intro c hc; simp only [List.mem_cons, List.not_mem_nil, or_false] at hc; omega))
  have hrO := PS_rOK hP (by omega) hR1
  obtain ⟨I2, d1, d2⟩ := rf_Sure hrO hP.2.2.2.2.1 hR1.2.2.2.2.1 hz1 hz2 (n := n) (by omega)
  have T2 := tX12_sure 895 n (iN z1) (iN z2) I1 J rv sp rr w nw _ d1
  have hR2 := RS_x hR1 (xf_ex d2) (by decide) (rl_x hR1.2.2.2.2.2.2.1 (xf_ex d2) (by decide))
  have hC2 := CS_lo hC1 hrv (xf_lo (xf_ex d2) (by decide))
  exact ⟨_, _, _, T1, T2, rfl, V, S, Ls, a, u, hb, Bs, Wt, N, T, B, m, _, fk, fp, I2, J, rv, sp, rr, w, nw, rfl, hrs, hrr, hww, hcw, PS_mono hP (by omega) (hP.2.2.2.2.2), hC2, hR2⟩
theorem C_ask {t : Int} (ht : 0 ≤ t ∧ t < 600) {h : mm_H} (hi : INV t h) (x1 x2 : Int32) : CALL2 200 327 [.int x1, .int x2] h (INV (t + 1)) := by
  obtain ⟨V, S, Ls, a, u, hb, Bs, Wt, N, T, B, m, l, fk, fp, I, J, rv, sp, rr, w, nw, rfl, hrs, hrr, hww, hcw, hP, hC, hR⟩ := hi
  obtain ⟨z1, hz1, rfl⟩ := in_iN x1
  obtain ⟨z2, hz2, rfl⟩ := in_iN x2
  have hrv : rv = 3 ∨ rv = 19 := by omega
  obtain ⟨n, hn⟩ : ∃ n : Nat, 900000 ≤ n := ⟨_, Nat.le_refl _⟩
  have hcO := PS_cOK hP (by omega) hC
  obtain ⟨I1, c1, c2, c3, c4⟩ := cl_Ask hrv hcO hP.2.2.2.2.1 hC.2.2.2.2.1 hC.2.2.2.2.2.1 hz1 hz2 (n := n) (by omega)
  have T1 := tX11_ask 881 n (iN z1) (iN z2) I J rv sp rr w nw hrv _ c1
  have hC1 := CS_w hC hrv c2 (by intro c hc; simp only [List.mem_cons, List.not_mem_nil, or_false] at hc; omega) c3 c4
  have hR1 := RS_hi hR (ex_hi c2 (by intro c hc; simp only [List.mem_cons, List.not_mem_nil, or_false] at hc; omega))
  have hrO := PS_rOK hP (by omega) hR1
  obtain ⟨I2, d1, d2⟩ := rf_Ask hrO hP.2.2.2.2.1 hR1.2.2.2.2.1 hz1 hz2 (n := n) (by omega)
  have T2 := tX12_ask 895 n (iN z1) (iN z2) I1 J rv sp rr w nw _ d1
  have hR2 := RS_x hR1 (xf_ex d2) (by decide) (rl_x hR1.2.2.2.2.2.2.1 (xf_ex d2) (by decide))
  have hC2 := CS_lo hC1 hrv (xf_lo (xf_ex d2) (by decide))
  exact ⟨_, _, _, T1, T2, rfl, V, S, Ls, a, u, hb, Bs, Wt, N, T, B, m, _, fk, fp, I2, J, rv, sp, rr, w, nw, rfl, hrs, hrr, hww, hcw, PS_mono hP (by omega) (hP.2.2.2.2.2), hC2, hR2⟩
theorem C_lies {t : Int} (ht : 0 ≤ t ∧ t < 600) {h : mm_H} (hi : INV t h) (x1 : Int32) : CALL2 193 316 [.int x1] h (INV (t + 1)) := by
  obtain ⟨V, S, Ls, a, u, hb, Bs, Wt, N, T, B, m, l, fk, fp, I, J, rv, sp, rr, w, nw, rfl, hrs, hrr, hww, hcw, hP, hC, hR⟩ := hi
  obtain ⟨z1, hz1, rfl⟩ := in_iN x1
  have hrv : rv = 3 ∨ rv = 19 := by omega
  have hcO := PS_cOK hP (by omega) hC
  have hrO := PS_rOK hP (by omega) hR
  have c1 := cl_Lies hP.2.2.2.2.2 hC.2.2.2.2.2.2.2.1 hz1
  have d1 := rf_Lies hP.2.2.2.2.2 hR.2.2.2.2.2.2.1 hz1
  have T1 := tX11_lies 898 (iN z1) I J rv sp rr w nw _ c1
  have T2 := tX12_lies 899 (iN z1) I J rv sp rr w nw _ d1
  exact ⟨_, _, _, T1, T2, rfl, V, S, Ls, a, u, hb, Bs, Wt, N, T, B, m, l, fk, fp, I, J, rv, sp, rr, w, nw, rfl, hrs, hrr, hww, hcw, PS_mono hP (by omega) hP.2.2.2.2.2, hC, hR⟩
theorem C_about {t : Int} (ht : 0 ≤ t ∧ t < 600) {h : mm_H} (hi : INV t h) (x1 : Int32) : CALL2 203 331 [.int x1] h (INV (t + 1)) := by
  obtain ⟨V, S, Ls, a, u, hb, Bs, Wt, N, T, B, m, l, fk, fp, I, J, rv, sp, rr, w, nw, rfl, hrs, hrr, hww, hcw, hP, hC, hR⟩ := hi
  obtain ⟨z1, hz1, rfl⟩ := in_iN x1
  have hrv : rv = 3 ∨ rv = 19 := by omega
  have hcO := PS_cOK hP (by omega) hC
  have hrO := PS_rOK hP (by omega) hR
  have c1 := cl_About hcO hC.2.2.1 hC.2.2.2.2.1 hC.2.2.2.2.2.2.1 hC.2.2.2.2.2.2.2.1 hz1
  have d1 := rf_About hrO hR.2.2.1 hR.2.2.2.2.1 hR.2.2.2.2.2.1 hR.2.2.2.2.2.2.1 hz1
  have T1 := tX11_about 898 (iN z1) I J rv sp rr w nw hrv _ c1
  have T2 := tX12_about 900 (iN z1) I J rv sp rr w nw _ d1
  exact ⟨_, _, _, T1, T2, rfl, V, S, Ls, a, u, hb, Bs, Wt, N, T, B, m, l, fk, fp, I, J, rv, sp, rr, w, nw, rfl, hrs, hrr, hww, hcw, PS_mono hP (by omega) hP.2.2.2.2.2, hC, hR⟩
theorem C_fault {t : Int} (ht : 0 ≤ t ∧ t < 600) {h : mm_H} (hi : INV t h) (x1 : Int32) : CALL2 163 251 [.int x1] h (INV (t + 1)) := by
  obtain ⟨V, S, Ls, a, u, hb, Bs, Wt, N, T, B, m, l, fk, fp, I, J, rv, sp, rr, w, nw, rfl, hrs, hrr, hww, hcw, hP, hC, hR⟩ := hi
  obtain ⟨z1, hz1, rfl⟩ := in_iN x1
  have hrv : rv = 3 ∨ rv = 19 := by omega
  have hcO := PS_cOK hP (by omega) hC
  have hrO := PS_rOK hP (by omega) hR
  have c1 : fX11_fault (iN z1) I = fX11_fault (iN z1) I := rfl
  have d1 := Fault (I := I) (by rw [hR.2.2.2.2.2.2.2.1, hC.2.2.2.2.2.2.2.2.1]) (by rw [hR.2.2.2.2.2.2.2.2, hC.2.2.2.2.2.2.2.2.2]) (iN z1)
  have T1 := tX11_fault 900 (iN z1) I J rv sp rr w nw _ c1
  have T2 := tX12_fault 900 (iN z1) I J rv sp rr w nw _ d1
  exact ⟨_, _, _, T1, T2, rfl, V, S, Ls, a, u, hb, Bs, Wt, N, T, B, m, l, fk, fp, I, J, rv, sp, rr, w, nw, rfl, hrs, hrr, hww, hcw, PS_mono hP (by omega) hP.2.2.2.2.2, hC, hR⟩
