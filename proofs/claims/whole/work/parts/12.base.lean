/-! What the machine's functions are made of: rows read and written with care, references. -/
def mf_pick (I : Nat → Nat → Int32) (a n : Nat) (i : Int32) : Int32 := if i < 0 then 0 else if i < Int32.ofNat n then I a i.toNatClampNeg else 0
def mf_put (I : Nat → Nat → Int32) (a n : Nat) (i x : Int32) : Nat → Nat → Int32 := if i < 0 then I else if i < Int32.ofNat n then mm_up I a i.toNatClampNeg x else I
def mf_fill (I : Nat → Nat → Int32) (a n : Nat) (x : Int32) : Nat → Nat → Int32 := mm_row I a (fun j => if j < n then x else I a j)
def mm_rfT : Lean.RArray (Nat × Nat) := (.branch 5003 (.branch 1910 (.branch 311 (.branch 110 (.branch 107 (.branch 105 (.leaf (100, 2)) (.branch 106 (.leaf (105, 16)) (.leaf (106, 18)))) (.branch 108 (.leaf (107, 33)) (.branch 109 (.leaf (108, 35)) (.leaf (109, 37))))) (.branch 113 (.branch 111 (.leaf (110, 42)) (.branch 112 (.leaf (111, 45)) (.leaf (112, 50)))) (.branch 309 (.branch 308 (.leaf (113, 54)) (.leaf (308, 4))) (.branch 310 (.leaf (309, 8)) (.leaf (310, 9)))))) (.branch 401 (.branch 314 (.branch 312 (.leaf (311, 10)) (.branch 313 (.leaf (312, 11)) (.leaf (313, 12)))) (.branch 316 (.branch 315 (.leaf (314, 13)) (.leaf (315, 14))) (.branch 400 (.leaf (316, 15)) (.leaf (400, 5))))) (.branch 1601 (.branch 402 (.leaf (401, 6)) (.branch 1600 (.leaf (402, 7)) (.leaf (1600, 17)))) (.branch 1908 (.branch 1800 (.leaf (1601, 2)) (.leaf (1800, 32))) (.branch 1909 (.leaf (1908, 20)) (.leaf (1909, 24))))))) (.branch 3700 (.branch 1916 (.branch 1913 (.branch 1911 (.leaf (1910, 25)) (.branch 1912 (.leaf (1911, 26)) (.leaf (1912, 27)))) (.branch 1914 (.leaf (1913, 28)) (.branch 1915 (.leaf (1914, 29)) (.leaf (1915, 30))))) (.branch 2002 (.branch 2000 (.leaf (1916, 31)) (.branch 2001 (.leaf (2000, 21)) (.leaf (2001, 22)))) (.branch 3301 (.branch 3300 (.leaf (2002, 23)) (.leaf (3300, 18))) (.branch 3500 (.leaf (3301, 34)) (.leaf (3500, 36)))))) (.branch 4501 (.branch 4200 (.branch 3701 (.leaf (3700, 18)) (.branch 3704 (.leaf (3701, 38)) (.leaf (3704, 41)))) (.branch 4205 (.branch 4201 (.leaf (4200, 18)) (.leaf (4201, 43))) (.branch 4500 (.leaf (4205, 44)) (.leaf (4500, 18))))) (.branch 4507 (.branch 4502 (.leaf (4501, 46)) (.branch 4503 (.leaf (4502, 47)) (.leaf (4503, 48)))) (.branch 5001 (.branch 5000 (.leaf (4507, 49)) (.leaf (5000, 18))) (.branch 5002 (.leaf (5001, 37)) (.leaf (5002, 51)))))))) (.branch 6234 (.branch 6212 (.branch 5404 (.branch 5401 (.branch 5004 (.leaf (5003, 52)) (.branch 5400 (.leaf (5004, 53)) (.leaf (5400, 18)))) (.branch 5402 (.leaf (5401, 55)) (.branch 5403 (.leaf (5402, 56)) (.leaf (5403, 57))))) (.branch 5408 (.branch 5406 (.leaf (5404, 58)) (.branch 5407 (.leaf (5406, 59)) (.leaf (5407, 60)))) (.branch 6210 (.branch 6200 (.leaf (5408, 61)) (.leaf (6200, 63))) (.branch 6211 (.leaf (6210, 64)) (.leaf (6211, 65)))))) (.branch 6227 (.branch 6215 (.branch 6213 (.leaf (6212, 66)) (.branch 6214 (.leaf (6213, 67)) (.leaf (6214, 68)))) (.branch 6225 (.branch 6216 (.leaf (6215, 69)) (.leaf (6216, 70))) (.branch 6226 (.leaf (6225, 71)) (.leaf (6226, 72))))) (.branch 6230 (.branch 6228 (.leaf (6227, 73)) (.branch 6229 (.leaf (6228, 74)) (.leaf (6229, 75)))) (.branch 6232 (.branch 6231 (.leaf (6230, 76)) (.leaf (6231, 77))) (.branch 6233 (.leaf (6232, 78)) (.leaf (6233, 79))))))) (.branch 6266 (.branch 6256 (.branch 6237 (.branch 6235 (.leaf (6234, 80)) (.branch 6236 (.leaf (6235, 81)) (.leaf (6236, 82)))) (.branch 6254 (.leaf (6237, 83)) (.branch 6255 (.leaf (6254, 84)) (.leaf (6255, 85))))) (.branch 6262 (.branch 6259 (.leaf (6256, 86)) (.branch 6260 (.leaf (6259, 87)) (.leaf (6260, 88)))) (.branch 6264 (.branch 6263 (.leaf (6262, 89)) (.leaf (6263, 90))) (.branch 6265 (.leaf (6264, 91)) (.leaf (6265, 92)))))) (.branch 6273 (.branch 6269 (.branch 6267 (.leaf (6266, 93)) (.branch 6268 (.leaf (6267, 94)) (.leaf (6268, 95)))) (.branch 6271 (.branch 6270 (.leaf (6269, 96)) (.leaf (6270, 97))) (.branch 6272 (.leaf (6271, 98)) (.leaf (6272, 99))))) (.branch 6278 (.branch 6274 (.leaf (6273, 100)) (.branch 6277 (.leaf (6274, 101)) (.leaf (6277, 102)))) (.branch 6280 (.branch 6279 (.leaf (6278, 103)) (.leaf (6279, 104))) (.branch 6281 (.leaf (6280, 105)) (.leaf (6281, 106)))))))))
def mm_rf0 (a k : Nat) : Nat := cond (Nat.blt k 100 && Nat.beq (mm_rfT.get (a * 100 + k)).1 (a * 100 + k)) (mm_rfT.get (a * 100 + k)).2 0
def mm_rf (rv sp rr w nw : Nat) : Nat → Nat → Nat := fun a k => if a = 18 ∧ k = 1 then rv else if a = 1 ∧ k = 4 then sp else if a = 16 ∧ k = 10 then rr else if a = 37 ∧ k = 2 then w else if a = 37 ∧ k = 3 then nw else mm_rf0 a k
theorem mm_rf_rv {rv sp rr w nw x : Nat} : mm_up (mm_rf rv sp rr w nw) 18 1 x = mm_rf x sp rr w nw := by
  funext a k
  simp only [mm_up, mm_rf]
  by_cases h : a = 18 ∧ k = 1
  · simp only [if_pos h]
  · simp only [if_neg h]
theorem mm_rf_sp {rv sp rr w nw x : Nat} : mm_up (mm_rf rv sp rr w nw) 1 4 x = mm_rf rv x rr w nw := by
  funext a k
  simp only [mm_up, mm_rf]
  by_cases h : a = 1 ∧ k = 4
  · obtain ⟨rfl, rfl⟩ := h; rfl
  · simp only [if_neg h]
theorem mm_rf_rr {rv sp rr w nw x : Nat} : mm_up (mm_rf rv sp rr w nw) 16 10 x = mm_rf rv sp x w nw := by
  funext a k
  simp only [mm_up, mm_rf]
  by_cases h : a = 16 ∧ k = 10
  · obtain ⟨rfl, rfl⟩ := h; rfl
  · simp only [if_neg h]
theorem mm_rf_w {rv sp rr w nw x : Nat} : mm_up (mm_rf rv sp rr w nw) 37 2 x = mm_rf rv sp rr x nw := by
  funext a k
  simp only [mm_up, mm_rf]
  by_cases h : a = 37 ∧ k = 2
  · obtain ⟨rfl, rfl⟩ := h; rfl
  · simp only [if_neg h]
theorem mm_rf_nw {rv sp rr w nw x : Nat} : mm_up (mm_rf rv sp rr w nw) 37 3 x = mm_rf rv sp rr w x := by
  funext a k
  simp only [mm_up, mm_rf]
  by_cases h : a = 37 ∧ k = 3
  · obtain ⟨rfl, rfl⟩ := h; rfl
  · simp only [if_neg h]
theorem mm_rf_keep {rv sp rr w nw : Nat} (a k x : Nat) (h : mm_rf rv sp rr w nw a k = x) : mm_up (mm_rf rv sp rr w nw) a k x = mm_rf rv sp rr w nw := by
  funext b j
  simp only [mm_up]
  by_cases hb : b = a ∧ j = k
  · obtain ⟨rfl, rfl⟩ := hb; rw [if_pos ⟨rfl, rfl⟩]; exact h.symm
  · rw [if_neg hb]
theorem mm_bind {α β : Type} {x : Option α} {f : α → Option β} {b : β} (e : x.bind f = some b) : ∃ a, x = some a ∧ f a = some b := by
  cases x with
  | none => cases e
  | some a => exact ⟨a, rfl, e⟩
section MMB
variable {X : mm_X} {d m : Nat} {f f' : mm_F} {h h' : mm_H} {Q : Option Value → mm_H → Prop}
theorem mm_T.guardN {c : Prop} [Decidable c] {y : mm_F × mm_H} (e : mm_stp X m f h = if c then some (.inl y) else none) (hc : c) (k : mm_T X d m y.1 y.2 Q) : mm_T X d m f h Q := by
  rw [if_pos hc] at e; exact mm_T.step e k
theorem mm_T.retZ {c : Prop} [Decidable c] {v : Option Value} (e : mm_stp X m f h = if c then some (.inr (.inl v)) else none) (hc : c) (q : Q v h) : mm_T X d m f h Q := by
  rw [if_pos hc] at e; exact mm_T.ret e q
theorem mm_T.tabs {x : Int32} {lo hi : Int} {y : mm_F × mm_H} {z : mm_R} (e : mm_stp X m f h = if x.toInt < lo ∨ hi < x.toInt then some (.inl y) else z) (hx : x.toInt < lo ∨ hi < x.toInt) (k : mm_T X d m y.1 y.2 Q) : mm_T X d m f h Q := by
  rw [if_pos hx] at e; exact mm_T.step e k
end MMB
theorem mm_swo (lo hi : Int) (x : Int32) (cs : List Int32) (hc : ∀ k : Nat, k < (hi - lo + 1).toNat → ∃ z ∈ cs, z.toInt = lo + k) (h : ∀ z ∈ cs, ¬ x = z) : x.toInt < lo ∨ hi < x.toInt := by
  by_cases h1 : x.toInt < lo
  · exact Or.inl h1
  · by_cases h2 : hi < x.toInt
    · exact Or.inr h2
    · obtain ⟨z, hz, e⟩ := hc (x.toInt - lo).toNat (by omega)
      refine absurd (Int32.toInt_inj.mp ?_) (h z hz)
      rw [e]; omega
theorem mm_isA_lit {a kd na : Nat} (h : mm_isA a kd na = true) : mm_isA a kd na = true := h
set_option maxRecDepth 100000 in
theorem t_pick (d a n : Nat) (i : Int32) (I : Nat → Nat → Int32) (J : Nat → Nat → Int64) (R : Nat → Nat → Nat) (ha : mm_isA a 1 107 = true) (hn : mm_len a = n) : mm_T none d 204 (mm_ent 204 [.ref a, .int i]) (107, I, J, R) (fun v h => v = some (.int (mf_pick I a n i)) ∧ h = (107, I, J, R)) := by
  subst hn
  obtain ⟨ha0, ha1, hsh⟩ := mm_isA_spec ha (by omega)
  have hlen : mm_stp none 204 (6, [some (.ref a), some (.int i)], [.ref a, .int i]) (107, I, J, R) = some (.inl ((7, [some (.ref a), some (.int i)], [.int (Int32.ofNat (mm_len a)), .int i]), (107, I, J, R))) := by
    show mm_alen 6 [some (.ref a), some (.int i)] [.ref a, .int i] (107, I, J, R) none = _
    unfold mm_alen
    have : (Nat.blt a 107 && Nat.ble 1 (mm_sh a).1 && Nat.ble (mm_sh a).1 4) = true := by
      rw [hsh]
      simp only [Bool.and_eq_true]
      exact ⟨⟨Nat.ble_eq_true_of_le ha1, rfl⟩, rfl⟩
    simp only [this, cond_true]
    rfl
  have hld : mm_stp none 204 (12, [some (.ref a), some (.int i)], [.int i, .ref a]) (107, I, J, R) = if i < 0 ∨ mm_len a ≤ i.toNatClampNeg then none else some (.inl ((13, [some (.ref a), some (.int i)], [.int (I a i.toNatClampNeg)]), (107, I, J, R))) := by
    show mm_ald 12 [some (.ref a), some (.int i)] [.int i, .ref a] (107, I, J, R) none false = _
    unfold mm_ald
    simp only [cond_false, ha, cond_true]
    rfl
  refine mm_T.seg (f' := (1, [some (.ref a), some (.int i)], [.int i])) (h' := (107, I, J, R)) 1 rfl ?_
  refine mm_T.br (c := i < 0) (a := ((16, [some (.ref a), some (.int i)], []), (107, I, J, R))) (b := ((4, [some (.ref a), some (.int i)], []), (107, I, J, R))) rfl (fun h1 => ?_) (fun h1 => ?_)
  · refine mm_T.seg (f' := (17, [some (.ref a), some (.int i)], [.int 0])) (h' := (107, I, J, R)) 1 rfl ?_
    refine mm_T.ret rfl ⟨?_, rfl⟩
    rw [mf_pick, if_pos h1]
  · refine mm_T.seg (f' := (6, [some (.ref a), some (.int i)], [.ref a, .int i])) (h' := (107, I, J, R)) 2 rfl ?_
    refine mm_T.step hlen ?_
    refine mm_T.br (c := i < Int32.ofNat (mm_len a)) (a := ((10, [some (.ref a), some (.int i)], []), (107, I, J, R))) (b := ((16, [some (.ref a), some (.int i)], []), (107, I, J, R))) rfl (fun h2 => ?_) (fun h2 => ?_)
    · refine mm_T.seg (f' := (12, [some (.ref a), some (.int i)], [.int i, .ref a])) (h' := (107, I, J, R)) 2 rfl ?_
      refine mm_T.guard hld ?_ ?_
      · have hl : mm_len a ≤ 1600 := mm_len_le a
        have e1 : (Int32.ofNat (mm_len a)).toInt = (mm_len a : Int) := nI_toInt (by omega)
        have h3 := Int32.lt_iff_toInt_lt.mp h2
        rw [e1] at h3
        have h4 : 0 ≤ i.toInt := by
          have := Int32.not_lt.mp h1
          simpa using Int32.le_iff_toInt_le.mp this
        rintro (h5 | h5)
        · exact h1 h5
        · have : i.toNatClampNeg = i.toInt.toNat := rfl
          omega
      · refine mm_T.seg (f' := (17, [some (.ref a), some (.int i)], [.int (I a i.toNatClampNeg)])) (h' := (107, I, J, R)) 1 rfl ?_
        refine mm_T.ret rfl ⟨?_, rfl⟩
        rw [mf_pick, if_neg h1, if_pos h2]
    · refine mm_T.seg (f' := (17, [some (.ref a), some (.int i)], [.int 0])) (h' := (107, I, J, R)) 1 rfl ?_
      refine mm_T.ret rfl ⟨?_, rfl⟩
      rw [mf_pick, if_neg h1, if_neg h2]
set_option maxRecDepth 100000 in
theorem t_put (d a n : Nat) (i x : Int32) (I : Nat → Nat → Int32) (J : Nat → Nat → Int64) (R : Nat → Nat → Nat) (ha : mm_isA a 1 107 = true) (hn : mm_len a = n) : mm_T none d 205 (mm_ent 205 [.ref a, .int i, .int x]) (107, I, J, R) (fun v h => v = none ∧ h = (107, mf_put I a n i x, J, R)) := by
  subst hn
  obtain ⟨ha0, ha1, hsh⟩ := mm_isA_spec ha (by omega)
  have hlen : mm_stp none 205 (6, [some (.ref a), some (.int i), some (.int x)], [.ref a, .int i]) (107, I, J, R) = some (.inl ((7, [some (.ref a), some (.int i), some (.int x)], [.int (Int32.ofNat (mm_len a)), .int i]), (107, I, J, R))) := by
    show mm_alen 6 [some (.ref a), some (.int i), some (.int x)] [.ref a, .int i] (107, I, J, R) none = _
    unfold mm_alen
    have : (Nat.blt a 107 && Nat.ble 1 (mm_sh a).1 && Nat.ble (mm_sh a).1 4) = true := by
      rw [hsh]
      simp only [Bool.and_eq_true]
      exact ⟨⟨Nat.ble_eq_true_of_le ha1, rfl⟩, rfl⟩
    simp only [this, cond_true]
    rfl
  have hst : mm_stp none 205 (13, [some (.ref a), some (.int i), some (.int x)], [.int x, .int i, .ref a]) (107, I, J, R) = if i < 0 ∨ mm_len a ≤ i.toNatClampNeg then none else some (.inl ((14, [some (.ref a), some (.int i), some (.int x)], []), (107, mm_up I a i.toNatClampNeg x, J, R))) := by
    show mm_ast 13 [some (.ref a), some (.int i), some (.int x)] [.int x, .int i, .ref a] (107, I, J, R) 1 (fun x => x) = _
    unfold mm_ast
    simp only [ha, cond_true]
    rfl
  refine mm_T.seg (f' := (1, [some (.ref a), some (.int i), some (.int x)], [.int i])) (h' := (107, I, J, R)) 1 rfl ?_
  refine mm_T.br (c := i < 0) (a := ((14, [some (.ref a), some (.int i), some (.int x)], []), (107, I, J, R))) (b := ((4, [some (.ref a), some (.int i), some (.int x)], []), (107, I, J, R))) rfl (fun h1 => ?_) (fun h1 => ?_)
  · refine mm_T.ret rfl ⟨rfl, ?_⟩
    rw [mf_put, if_pos h1]
  · refine mm_T.seg (f' := (6, [some (.ref a), some (.int i), some (.int x)], [.ref a, .int i])) (h' := (107, I, J, R)) 2 rfl ?_
    refine mm_T.step hlen ?_
    refine mm_T.br (c := i < Int32.ofNat (mm_len a)) (a := ((10, [some (.ref a), some (.int i), some (.int x)], []), (107, I, J, R))) (b := ((14, [some (.ref a), some (.int i), some (.int x)], []), (107, I, J, R))) rfl (fun h2 => ?_) (fun h2 => ?_)
    · refine mm_T.seg (f' := (13, [some (.ref a), some (.int i), some (.int x)], [.int x, .int i, .ref a])) (h' := (107, I, J, R)) 3 rfl ?_
      refine mm_T.guard hst ?_ ?_
      · have hl : mm_len a ≤ 1600 := mm_len_le a
        have e1 : (Int32.ofNat (mm_len a)).toInt = (mm_len a : Int) := nI_toInt (by omega)
        have h3 := Int32.lt_iff_toInt_lt.mp h2
        rw [e1] at h3
        have h4 : 0 ≤ i.toInt := by
          have := Int32.not_lt.mp h1
          simpa using Int32.le_iff_toInt_le.mp this
        rintro (h5 | h5)
        · exact h1 h5
        · have : i.toNatClampNeg = i.toInt.toNat := rfl
          omega
      · refine mm_T.ret rfl ⟨rfl, ?_⟩
        rw [mf_put, if_neg h1, if_pos h2]
    · refine mm_T.ret rfl ⟨rfl, ?_⟩
      rw [mf_put, if_neg h1, if_neg h2]
set_option maxRecDepth 100000 in
theorem t_fill (d a n : Nat) (x : Int32) (I : Nat → Nat → Int32) (J : Nat → Nat → Int64) (R : Nat → Nat → Nat) (ha : mm_isA a 1 107 = true) (hn : mm_len a = n) : mm_T none d 344 (mm_ent 344 [.ref a, .int x]) (107, I, J, R) (fun v h => v = none ∧ h = (107, mf_fill I a n x, J, R)) := by
  subst hn
  obtain ⟨ha0, ha1, hsh⟩ := mm_isA_spec ha (by omega)
  have hl : mm_len a ≤ 1600 := mm_len_le a
  have hlen : mm_stp none 344 (3, [some (.ref a), some (.int x), some (.int 0), none], [.ref a]) (107, I, J, R) = some (.inl ((4, [some (.ref a), some (.int x), some (.int 0), none], [.int (Int32.ofNat (mm_len a))]), (107, I, J, R))) := by
    show mm_alen 3 [some (.ref a), some (.int x), some (.int 0), none] [.ref a] (107, I, J, R) none = _
    unfold mm_alen
    have : (Nat.blt a 107 && Nat.ble 1 (mm_sh a).1 && Nat.ble (mm_sh a).1 4) = true := by
      rw [hsh]
      simp only [Bool.and_eq_true]
      exact ⟨⟨Nat.ble_eq_true_of_le ha1, rfl⟩, rfl⟩
    simp only [this, cond_true]
    rfl
  have hst : ∀ (i : Int32) (M : Nat → Nat → Int32) (z : Int32), mm_stp none 344 (13, [some (.ref a), some (.int x), some (.int i), some (.int z)], [.int x, .int i, .ref a]) (107, M, J, R) = if i < 0 ∨ mm_len a ≤ i.toNatClampNeg then none else some (.inl ((14, [some (.ref a), some (.int x), some (.int i), some (.int z)], []), (107, mm_up M a i.toNatClampNeg x, J, R))) := by
    intro i M z
    show mm_ast 13 [some (.ref a), some (.int x), some (.int i), some (.int z)] [.int x, .int i, .ref a] (107, M, J, R) 1 (fun x => x) = _
    unfold mm_ast
    simp only [ha, cond_true]
    rfl
  have loop : ∀ (k j : Nat) (M : Nat → Nat → Int32), j + k = mm_len a → M = mm_row I a (fun q => if q < j then x else I a q) → mm_T none d 344 (5, [some (.ref a), some (.int x), some (.int (nI j)), some (.int (nI (mm_len a)))], []) (107, M, J, R) (fun v h => v = none ∧ h = (107, mf_fill I a (mm_len a) x, J, R)) := by
    intro k
    induction k with
    | zero =>
      intro j M hj hM
      refine mm_T.seg (f' := (7, [some (.ref a), some (.int x), some (.int (nI j)), some (.int (nI (mm_len a)))], [.int (nI (mm_len a)), .int (nI j)])) (h' := (107, M, J, R)) 2 rfl ?_
      refine mm_T.br (c := nI j < nI (mm_len a)) (a := ((10, [some (.ref a), some (.int x), some (.int (nI j)), some (.int (nI (mm_len a)))], []), (107, M, J, R))) (b := ((20, [some (.ref a), some (.int x), some (.int (nI j)), some (.int (nI (mm_len a)))], []), (107, M, J, R))) rfl (fun h2 => ?_) (fun h2 => ?_)
      · exact absurd h2 (nI_nlt (by omega) (by omega))
      · refine mm_T.ret rfl ⟨rfl, ?_⟩
        rw [hM, mf_fill, show j = mm_len a by omega]
    | succ k ih =>
      intro j M hj hM
      refine mm_T.seg (f' := (7, [some (.ref a), some (.int x), some (.int (nI j)), some (.int (nI (mm_len a)))], [.int (nI (mm_len a)), .int (nI j)])) (h' := (107, M, J, R)) 2 rfl ?_
      refine mm_T.br (c := nI j < nI (mm_len a)) (a := ((10, [some (.ref a), some (.int x), some (.int (nI j)), some (.int (nI (mm_len a)))], []), (107, M, J, R))) (b := ((20, [some (.ref a), some (.int x), some (.int (nI j)), some (.int (nI (mm_len a)))], []), (107, M, J, R))) rfl (fun h2 => ?_) (fun h2 => ?_)
      · refine mm_T.seg (f' := (13, [some (.ref a), some (.int x), some (.int (nI j)), some (.int (nI (mm_len a)))], [.int x, .int (nI j), .ref a])) (h' := (107, M, J, R)) 3 rfl ?_
        refine mm_T.guard (hst (nI j) M _) (nI_in (by omega) (by omega)) ?_
        refine mm_T.seg (f' := (5, [some (.ref a), some (.int x), some (.int (nI j + 1)), some (.int (nI (mm_len a)))], [])) (h' := (107, mm_up M a (nI j).toNatClampNeg x, J, R)) 2 rfl ?_
        rw [nI_1, nI_clamp (by omega)]
        refine ih (j + 1) _ (by omega) ?_
        rw [hM]
        funext b q
        simp only [mm_up, mm_row]
        by_cases hb : b = a
        · subst hb
          by_cases hq : q = j
          · subst hq; simp
          · simp only [if_true, true_and, hq, if_false]
            by_cases h3 : q < j
            · rw [if_pos h3, if_pos (by omega)]
            · rw [if_neg h3, if_neg (by omega)]
        · simp [hb]
      · exact absurd (nI_lt (by omega) (by omega)) h2
  refine mm_T.seg (f' := (3, [some (.ref a), some (.int x), some (.int 0), none], [.ref a])) (h' := (107, I, J, R)) 3 rfl ?_
  refine mm_T.step hlen ?_
  refine mm_T.seg (f' := (5, [some (.ref a), some (.int x), some (.int 0), some (.int (Int32.ofNat (mm_len a)))], [])) (h' := (107, I, J, R)) 1 rfl ?_
  refine loop (mm_len a) 0 I (by omega) ?_
  funext b q
  simp only [mm_row]
  by_cases hb : b = a
  · subst hb; simp
  · simp [hb]
