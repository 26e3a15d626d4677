set_option maxRecDepth 100000 in
set_option maxHeartbeats 4000000 in
theorem tlX12_stowBy_L17 (d : Nat) (Q : Option Value → mm_H → Prop) : ∀ (n : Nat) (y1 : Int32) (y3 : Int32) (y4 : Int32) (y5 : Int32) (I : Nat → Nat → Int32) (J : Nat → Nat → Int64) (rv sp rr w nw : Nat), ∀ (out : (Int32 ⊕ (Int32)) × (Nat → Nat → Int32)), fX12_stowBy_L17 n y1 y3 y4 y5 I = some out → (∀ (r : Int32) (s0 : Nat → Nat → Int32), out = (.inl r, s0) → Q (some (.int r)) (107, s0, J, mm_rf rv sp rr w nw)) → (∀ (y : Int32) (s0 : Nat → Nat → Int32), out = (.inr y, s0) → mm_T none (d + 1) 296 (97, [some (.ref 62), none, none, none, some (.int y), none, none], []) (107, s0, J, mm_rf rv sp rr w nw) Q) → mm_T none (d + 1) 296 (17, [some (.ref 62), some (.int y1), none, some (.int y3), some (.int y4), some (.int y5), none], []) (107, I, J, mm_rf rv sp rr w nw) Q := by
  intro n
  induction n with
  | zero =>
    intro y1 y3 y4 y5 I J rv sp rr w nw out e kr ke
    rw [fX12_stowBy_L17] at e; cases e
  | succ n ih =>
    intro y1 y3 y4 y5 I J rv sp rr w nw out e kr ke
    rw [fX12_stowBy_L17] at e
    refine mm_T.seg (f' := (19, [some (.ref 62), some (.int y1), none, some (.int y3), some (.int y4), some (.int y5), none], [(.int y5)])) (h' := (107, I, J, mm_rf rv sp rr w nw)) 1 rfl ?_
    refine mm_T.br (c := y5 < 0) (a := ((97, [some (.ref 62), some (.int y1), none, some (.int y3), some (.int y4), some (.int y5), none], []), (107, I, J, mm_rf rv sp rr w nw))) (b := ((22, [some (.ref 62), some (.int y1), none, some (.int y3), some (.int y4), some (.int y5), none], []), (107, I, J, mm_rf rv sp rr w nw))) rfl (fun h855 => ?_) (fun h855 => ?_)
    · rw [if_pos h855] at e
      cases e
      refine mm_T.mask [true, false, false, false, true, false, false] ?_
      exact ke _ _ rfl
    · rw [if_neg h855] at e
      refine mm_T.seg (f' := (37, [some (.ref 62), some (.int y1), none, some (.int (y3 / 4)), some (.int y4), some (.int y5), some (.int (y3 - y3 / 4 * 4))], [(.int ((y1 >>> (y5 &&& 31)) &&& 1))])) (h' := (107, I, J, mm_rf rv sp rr w nw)) 13 rfl ?_
      refine mm_T.br (c := ((y1 >>> (y5 &&& 31)) &&& 1) = 0) (a := ((40, [some (.ref 62), some (.int y1), none, some (.int (y3 / 4)), some (.int y4), some (.int y5), some (.int (y3 - y3 / 4 * 4))], []), (107, I, J, mm_rf rv sp rr w nw))) (b := ((47, [some (.ref 62), some (.int y1), none, some (.int (y3 / 4)), some (.int y4), some (.int y5), some (.int (y3 - y3 / 4 * 4))], []), (107, I, J, mm_rf rv sp rr w nw))) rfl (fun h856 => ?_) (fun h856 => ?_)
      · rw [if_pos h856] at e
        refine mm_T.seg (f' := (42, [some (.ref 62), some (.int y1), none, some (.int (y3 / 4)), some (.int y4), some (.int y5), some (.int (y3 - y3 / 4 * 4))], [(.int (y3 - y3 / 4 * 4))])) (h' := (107, I, J, mm_rf rv sp rr w nw)) 1 rfl ?_
        refine mm_T.br (c := 0 < (y3 - y3 / 4 * 4)) (a := ((45, [some (.ref 62), some (.int y1), none, some (.int (y3 / 4)), some (.int y4), some (.int y5), some (.int (y3 - y3 / 4 * 4))], []), (107, I, J, mm_rf rv sp rr w nw))) (b := ((91, [some (.ref 62), some (.int y1), none, some (.int (y3 / 4)), some (.int y4), some (.int y5), some (.int (y3 - y3 / 4 * 4))], []), (107, I, J, mm_rf rv sp rr w nw))) rfl (fun h857 => ?_) (fun h857 => ?_)
        · rw [if_pos h857] at e
          refine mm_T.seg (f' := (46, [some (.ref 62), some (.int y1), none, some (.int (y3 / 4)), some (.int y4), some (.int y5), some (.int (y3 - y3 / 4 * 4))], [(.int (-1))])) (h' := (107, I, J, mm_rf rv sp rr w nw)) 1 rfl ?_
          cases e
          exact mm_T.ret rfl (kr _ _ rfl)
        · rw [if_neg h857] at e
          refine mm_T.seg (f' := (17, [some (.ref 62), some (.int y1), none, some (.int (y3 / 4)), some (.int y4), some (.int (y5 + (-1))), some (.int (y3 - y3 / 4 * 4))], [])) (h' := (107, I, J, mm_rf rv sp rr w nw)) 2 rfl ?_
          refine mm_T.mask [true, true, false, true, true, true, false] ?_
          exact ih y1 (y3 / 4) y4 (y5 + (-1)) I J rv sp rr w nw out e kr ke
      · rw [if_neg h856] at e
        refine mm_T.seg (f' := (53, [some (.ref 62), some (.int y1), none, some (.int (y3 / 4)), some (.int y4), some (.int y5), some (.int (y3 - y3 / 4 * 4))], [(.int (I 62 48)), (.int (y3 - y3 / 4 * 4))])) (h' := (107, I, J, mm_rf rv sp rr w nw)) 3 rfl ?_
        refine mm_T.br (c := (y3 - y3 / 4 * 4) < (I 62 48)) (a := ((56, [some (.ref 62), some (.int y1), none, some (.int (y3 / 4)), some (.int y4), some (.int y5), some (.int (y3 - y3 / 4 * 4))], []), (107, I, J, mm_rf rv sp rr w nw))) (b := ((68, [some (.ref 62), some (.int y1), none, some (.int (y3 / 4)), some (.int y4), some (.int y5), some (.int (y3 - y3 / 4 * 4))], []), (107, I, J, mm_rf rv sp rr w nw))) rfl (fun h858 => ?_) (fun h858 => ?_)
        · rw [if_pos h858] at e
          refine mm_T.seg (f' := (60, [some (.ref 62), some (.int y1), none, some (.int (y3 / 4)), some (.int y4), some (.int y5), some (.int (y3 - y3 / 4 * 4))], [(.ref 84)])) (h' := (107, I, J, mm_rf rv sp rr w nw)) 2 rfl ?_
          refine mm_T.seg (f' := (64, [some (.ref 62), some (.int y1), none, some (.int (y3 / 4)), some (.int y4), some (.int y5), some (.int (y3 - y3 / 4 * 4))], [(.int (4 + (y3 - y3 / 4 * 4))), (.ref 84)])) (h' := (107, I, J, mm_rf rv sp rr w nw)) 3 rfl ?_
          by_cases h859 : (4 + (y3 - y3 / 4 * 4)) < 0 ∨ 28 ≤ (4 + (y3 - y3 / 4 * 4)).toNatClampNeg
          · rw [if_pos h859] at e; cases e
          rw [if_neg h859] at e
          refine mm_T.guard (c := (4 + (y3 - y3 / 4 * 4)) < 0 ∨ 28 ≤ (4 + (y3 - y3 / 4 * 4)).toNatClampNeg) (y := ((65, [some (.ref 62), some (.int y1), none, some (.int (y3 / 4)), some (.int y4), some (.int y5), some (.int (y3 - y3 / 4 * 4))], [(.int (I 84 (4 + (y3 - y3 / 4 * 4)).toNatClampNeg))]), (107, I, J, mm_rf rv sp rr w nw))) (mm_gen (P := fun z => mm_stp none 296 (64, [some (.ref 62), some (.int y1), none, some (.int (y3 / 4)), some (.int y4), some (.int y5), some (.int (y3 - y3 / 4 * 4))], [(.int z), (.ref 84)]) (107, I, J, mm_rf rv sp rr w nw) = if z < 0 ∨ 28 ≤ z.toNatClampNeg then none else some (.inl ((65, [some (.ref 62), some (.int y1), none, some (.int (y3 / 4)), some (.int y4), some (.int y5), some (.int (y3 - y3 / 4 * 4))], [(.int (I 84 z.toNatClampNeg))]), (107, I, J, mm_rf rv sp rr w nw)))) (4 + (y3 - y3 / 4 * 4)) (fun z => rfl)) h859 ?_
          refine mm_T.br (c := 0 < (I 84 (4 + (y3 - y3 / 4 * 4)).toNatClampNeg)) (a := ((68, [some (.ref 62), some (.int y1), none, some (.int (y3 / 4)), some (.int y4), some (.int y5), some (.int (y3 - y3 / 4 * 4))], []), (107, I, J, mm_rf rv sp rr w nw))) (b := ((70, [some (.ref 62), some (.int y1), none, some (.int (y3 / 4)), some (.int y4), some (.int y5), some (.int (y3 - y3 / 4 * 4))], []), (107, I, J, mm_rf rv sp rr w nw))) rfl (fun h860 => ?_) (fun h860 => ?_)
          · rw [if_pos h860] at e
            refine mm_T.seg (f' := (69, [some (.ref 62), some (.int y1), none, some (.int (y3 / 4)), some (.int y4), some (.int y5), some (.int (y3 - y3 / 4 * 4))], [(.int (-1))])) (h' := (107, I, J, mm_rf rv sp rr w nw)) 1 rfl ?_
            cases e
            exact mm_T.ret rfl (kr _ _ rfl)
          · rw [if_neg h860] at e
            refine mm_T.seg (f' := (74, [some (.ref 62), some (.int y1), none, some (.int (y3 / 4)), some (.int y4), some (.int y5), some (.int (y3 - y3 / 4 * 4))], [(.ref 85)])) (h' := (107, I, J, mm_rf rv sp rr w nw)) 2 rfl ?_
            refine mm_T.seg (f' := (81, [some (.ref 62), some (.int y1), none, some (.int (y3 / 4)), some (.int y4), some (.int y5), some (.int (y3 - y3 / 4 * 4))], [(.int (y3 - y3 / 4 * 4)), (.int (20 + y5)), (.ref 85)])) (h' := (107, I, J, mm_rf rv sp rr w nw)) 4 rfl ?_
            by_cases h861 : (20 + y5) < 0 ∨ 28 ≤ (20 + y5).toNatClampNeg
            · rw [if_pos h861] at e; cases e
            rw [if_neg h861] at e
            refine mm_T.guard (c := (20 + y5) < 0 ∨ 28 ≤ (20 + y5).toNatClampNeg) (y := ((82, [some (.ref 62), some (.int y1), none, some (.int (y3 / 4)), some (.int y4), some (.int y5), some (.int (y3 - y3 / 4 * 4))], []), (107, (mm_up I 85 (20 + y5).toNatClampNeg (y3 - y3 / 4 * 4)), J, mm_rf rv sp rr w nw))) (mm_gen (P := fun z => mm_stp none 296 (81, [some (.ref 62), some (.int y1), none, some (.int (y3 / 4)), some (.int y4), some (.int y5), some (.int (y3 - y3 / 4 * 4))], [(.int (y3 - y3 / 4 * 4)), (.int z), (.ref 85)]) (107, I, J, mm_rf rv sp rr w nw) = if z < 0 ∨ 28 ≤ z.toNatClampNeg then none else some (.inl ((82, [some (.ref 62), some (.int y1), none, some (.int (y3 / 4)), some (.int y4), some (.int y5), some (.int (y3 - y3 / 4 * 4))], []), (107, (mm_up I 85 z.toNatClampNeg (y3 - y3 / 4 * 4)), J, mm_rf rv sp rr w nw)))) (20 + y5) (fun z => rfl)) h861 ?_
            refine mm_T.seg (f' := (17, [some (.ref 62), some (.int y1), none, some (.int (y3 / 4)), some (.int (y4 ||| ((1 : Int32) <<< ((y3 - y3 / 4 * 4) &&& 31)))), some (.int (y5 + (-1))), some (.int (y3 - y3 / 4 * 4))], [])) (h' := (107, (mm_up I 85 (20 + y5).toNatClampNeg (y3 - y3 / 4 * 4)), J, mm_rf rv sp rr w nw)) 8 rfl ?_
            refine mm_T.mask [true, true, false, true, true, true, false] ?_
            exact ih y1 (y3 / 4) (y4 ||| ((1 : Int32) <<< ((y3 - y3 / 4 * 4) &&& 31))) (y5 + (-1)) (mm_up I 85 (20 + y5).toNatClampNeg (y3 - y3 / 4 * 4)) J rv sp rr w nw out e kr ke
        · rw [if_neg h858] at e
          refine mm_T.seg (f' := (69, [some (.ref 62), some (.int y1), none, some (.int (y3 / 4)), some (.int y4), some (.int y5), some (.int (y3 - y3 / 4 * 4))], [(.int (-1))])) (h' := (107, I, J, mm_rf rv sp rr w nw)) 1 rfl ?_
          cases e
          exact mm_T.ret rfl (kr _ _ rfl)
set_option maxRecDepth 100000 in
set_option maxHeartbeats 4000000 in
theorem tlX12_stowBy_L100 (d : Nat) (Q : Option Value → mm_H → Prop) : ∀ (n : Nat) (y4 : Int32) (y5 : Int32) (I : Nat → Nat → Int32) (J : Nat → Nat → Int64) (rv sp rr w nw : Nat), ∀ (out : (Int32 ⊕ (Unit))), fX12_stowBy_L100 n y4 y5 I = some out → (∀ (r : Int32), out = .inl r → Q (some (.int r)) (107, I, J, mm_rf rv sp rr w nw)) → (∀ (y : Unit), out = .inr y → mm_T none (d + 1) 296 (144, [none, none, none, none, some (.int y4), none, none], []) (107, I, J, mm_rf rv sp rr w nw) Q) → mm_T none (d + 1) 296 (100, [some (.ref 62), none, none, none, some (.int y4), some (.int y5), none], []) (107, I, J, mm_rf rv sp rr w nw) Q := by
  intro n
  induction n with
  | zero =>
    intro y4 y5 I J rv sp rr w nw out e kr ke
    rw [fX12_stowBy_L100] at e; cases e
  | succ n ih =>
    intro y4 y5 I J rv sp rr w nw out e kr ke
    rw [fX12_stowBy_L100] at e
    refine mm_T.seg (f' := (106, [some (.ref 62), none, none, none, some (.int y4), some (.int y5), none], [(.int (I 62 48)), (.int y5)])) (h' := (107, I, J, mm_rf rv sp rr w nw)) 3 rfl ?_
    refine mm_T.br (c := y5 < (I 62 48)) (a := ((109, [some (.ref 62), none, none, none, some (.int y4), some (.int y5), none], []), (107, I, J, mm_rf rv sp rr w nw))) (b := ((144, [some (.ref 62), none, none, none, some (.int y4), some (.int y5), none], []), (107, I, J, mm_rf rv sp rr w nw))) rfl (fun h869 => ?_) (fun h869 => ?_)
    · rw [if_pos h869] at e
      refine mm_T.seg (f' := (117, [some (.ref 62), none, none, none, some (.int y4), some (.int y5), none], [(.int 1), (.int ((y4 >>> (y5 &&& 31)) &&& 1))])) (h' := (107, I, J, mm_rf rv sp rr w nw)) 6 rfl ?_
      refine mm_T.br (c := ((y4 >>> (y5 &&& 31)) &&& 1) = 1) (a := ((120, [some (.ref 62), none, none, none, some (.int y4), some (.int y5), none], []), (107, I, J, mm_rf rv sp rr w nw))) (b := ((138, [some (.ref 62), none, none, none, some (.int y4), some (.int y5), none], []), (107, I, J, mm_rf rv sp rr w nw))) rfl (fun h870 => ?_) (fun h870 => ?_)
      · rw [if_pos h870] at e
        refine mm_T.seg (f' := (123, [some (.ref 62), none, none, none, some (.int y4), some (.int y5), none], [(.int y5), (.ref 62)])) (h' := (107, I, J, mm_rf rv sp rr w nw)) 2 rfl ?_
        obtain ⟨o871, eo871, e⟩ := mm_bind e
        refine mm_T.call (t := 240) (as := [(.ref 62), (.int y5)]) (f' := (126, [some (.ref 62), none, none, none, some (.int y4), some (.int y5), none], [])) rfl (tX12_burdenOf (d + 0) n y5 I J rv sp rr w nw o871 eo871) (fun v h hq => ?_)
        obtain ⟨rfl, rfl⟩ := hq
        refine mm_T.seg (f' := (130, [some (.ref 62), none, none, none, some (.int y4), some (.int y5), none], [(.ref 80), (.int o871)])) (h' := (107, I, J, mm_rf rv sp rr w nw)) 2 rfl ?_
        refine mm_T.seg (f' := (132, [some (.ref 62), none, none, none, some (.int y4), some (.int y5), none], [(.int y5), (.ref 80), (.int o871)])) (h' := (107, I, J, mm_rf rv sp rr w nw)) 1 rfl ?_
        by_cases h872 : y5 < 0 ∨ 4 ≤ y5.toNatClampNeg
        · rw [if_pos h872] at e; cases e
        rw [if_neg h872] at e
        refine mm_T.guard (y := ((133, [some (.ref 62), none, none, none, some (.int y4), some (.int y5), none], [(.int (I 80 y5.toNatClampNeg)), (.int o871)]), (107, I, J, mm_rf rv sp rr w nw))) rfl h872 ?_
        refine mm_T.br (c := (I 80 y5.toNatClampNeg) < o871) (a := ((136, [some (.ref 62), none, none, none, some (.int y4), some (.int y5), none], []), (107, I, J, mm_rf rv sp rr w nw))) (b := ((138, [some (.ref 62), none, none, none, some (.int y4), some (.int y5), none], []), (107, I, J, mm_rf rv sp rr w nw))) rfl (fun h873 => ?_) (fun h873 => ?_)
        · rw [if_pos h873] at e
          refine mm_T.seg (f' := (137, [some (.ref 62), none, none, none, some (.int y4), some (.int y5), none], [(.int (-1))])) (h' := (107, I, J, mm_rf rv sp rr w nw)) 1 rfl ?_
          cases e
          exact mm_T.ret rfl (kr _ rfl)
        · rw [if_neg h873] at e
          refine mm_T.seg (f' := (100, [some (.ref 62), none, none, none, some (.int y4), some (.int (y5 + 1)), none], [])) (h' := (107, I, J, mm_rf rv sp rr w nw)) 2 rfl ?_
          refine mm_T.mask [true, false, false, false, true, true, false] ?_
          exact ih y4 (y5 + 1) I J rv sp rr w nw out e kr ke
      · rw [if_neg h870] at e
        refine mm_T.seg (f' := (100, [some (.ref 62), none, none, none, some (.int y4), some (.int (y5 + 1)), none], [])) (h' := (107, I, J, mm_rf rv sp rr w nw)) 2 rfl ?_
        refine mm_T.mask [true, false, false, false, true, true, false] ?_
        exact ih y4 (y5 + 1) I J rv sp rr w nw out e kr ke
    · rw [if_neg h869] at e
      cases e
      refine mm_T.mask [false, false, false, false, true, false, false] ?_
      exact ke _ rfl
set_option maxRecDepth 100000 in
set_option maxHeartbeats 4000000 in
theorem tX12_stowBy (d n : Nat) (x1 : Int32) (x2 : Int32) (I : Nat → Nat → Int32) (J : Nat → Nat → Int64) (rv sp rr w nw : Nat) (out : Int32 × (Nat → Nat → Int32)) (e : fX12_stowBy n x1 x2 I = some out) : mm_T none (d + 1) 296 (mm_ent 296 [(.ref 62), (.int x1), (.int x2)]) (107, I, J, mm_rf rv sp rr w nw) (fun v h => v = some (.int out.1) ∧ h = (107, out.2, J, mm_rf rv sp rr w nw)) := by
  unfold fX12_stowBy at e
  refine mm_T.seg (f' := (1, [some (.ref 62), some (.int x1), some (.int x2), none, none, none, none], [(.ref 62)])) (h' := (107, I, J, mm_rf rv sp rr w nw)) 1 rfl ?_
  obtain ⟨o854, eo854, e⟩ := mm_bind e
  refine mm_T.call (t := 256) (as := [(.ref 62)]) (f' := (4, [some (.ref 62), some (.int x1), some (.int x2), none, none, none, none], [])) rfl (tX12_fill (d + 0) n I J rv sp rr w nw o854 eo854) (fun v h hq => ?_)
  obtain ⟨rfl, rfl⟩ := hq
  refine mm_T.seg (f' := (17, [some (.ref 62), some (.int x1), some (.int x2), some (.int x2), some (.int 0), some (.int ((o854 62 49) - 1)), none], [])) (h' := (107, o854, J, mm_rf rv sp rr w nw)) 9 rfl ?_
  refine mm_T.mask [true, true, false, true, true, true, false] ?_
  obtain ⟨o862, eo862, e⟩ := mm_bind e
  rcases o862 with ⟨va863 | vb863, vs863_0⟩
  · cases e
    refine tlX12_stowBy_L17 d _ n x1 x2 0 ((o854 62 49) - 1) o854 J rv sp rr w nw _ eo862 (fun z z0 hz => ?_) (fun z z0 hz => ?_)
    · cases hz; exact ⟨rfl, rfl⟩
    · cases hz
  · refine tlX12_stowBy_L17 d _ n x1 x2 0 ((o854 62 49) - 1) o854 J rv sp rr w nw (.inr vb863, vs863_0) eo862 (fun z z0 hz => ?_) (fun z z0 hz => ?_)
    · cases hz
    · cases hz
      refine mm_T.seg (f' := (100, [some (.ref 62), none, none, none, some (.int vb863), some (.int 0), none], [])) (h' := (107, vs863_0, J, mm_rf rv sp rr w nw)) 2 rfl ?_
      refine mm_T.mask [true, false, false, false, true, true, false] ?_
      obtain ⟨o874, eo874, e⟩ := mm_bind e
      rcases o874 with va875 | vb875
      · cases e
        refine tlX12_stowBy_L100 d _ n vb863 0 vs863_0 J rv sp rr w nw _ eo874 (fun z hz => ?_) (fun z hz => ?_)
        · cases hz; exact ⟨rfl, rfl⟩
        · cases hz
      · refine tlX12_stowBy_L100 d _ n vb863 0 vs863_0 J rv sp rr w nw (.inr vb875) eo874 (fun z hz => ?_) (fun z hz => ?_)
        · cases hz
        · cases hz
          refine mm_T.seg (f' := (146, [none, none, none, none, some (.int vb863), none, none], [(.int vb863)])) (h' := (107, vs863_0, J, mm_rf rv sp rr w nw)) 1 rfl ?_
          cases e
          exact mm_T.ret rfl ⟨rfl, rfl⟩
set_option maxRecDepth 100000 in
set_option maxHeartbeats 4000000 in
theorem tlX12_stowing_L62 (d : Nat) (Q : Option Value → mm_H → Prop) : ∀ (n : Nat) (y1 : Int32) (y2 : Int32) (y3 : Int32) (y5 : Int32) (I : Nat → Nat → Int32) (J : Nat → Nat → Int64) (rv sp rr w nw : Nat), ∀ (out : (Nat → Nat → Int32)), fX12_stowing_L62 n y1 y2 y3 y5 I = some out → mm_T none (d + 3) 297 (108, [some (.ref 62), some (.int y1), some (.int y2), some (.int y3), none, none], []) (107, out, J, mm_rf rv sp rr w nw) Q → mm_T none (d + 3) 297 (62, [some (.ref 62), some (.int y1), some (.int y2), some (.int y3), none, some (.int y5)], []) (107, I, J, mm_rf rv sp rr w nw) Q := by
  intro n
  induction n with
  | zero =>
    intro y1 y2 y3 y5 I J rv sp rr w nw out e k
    rw [fX12_stowing_L62] at e; cases e
  | succ n ih =>
    intro y1 y2 y3 y5 I J rv sp rr w nw out e k
    rw [fX12_stowing_L62] at e
    refine mm_T.seg (f' := (68, [some (.ref 62), some (.int y1), some (.int y2), some (.int y3), none, some (.int y5)], [(.int (I 62 49)), (.int y5)])) (h' := (107, I, J, mm_rf rv sp rr w nw)) 3 rfl ?_
    refine mm_T.br (c := y5 < (I 62 49)) (a := ((71, [some (.ref 62), some (.int y1), some (.int y2), some (.int y3), none, some (.int y5)], []), (107, I, J, mm_rf rv sp rr w nw))) (b := ((108, [some (.ref 62), some (.int y1), some (.int y2), some (.int y3), none, some (.int y5)], []), (107, I, J, mm_rf rv sp rr w nw))) rfl (fun h884 => ?_) (fun h884 => ?_)
    · rw [if_pos h884] at e
      refine mm_T.seg (f' := (75, [some (.ref 62), some (.int y1), some (.int y2), some (.int y3), none, some (.int y5)], [(.ref 88)])) (h' := (107, I, J, mm_rf rv sp rr w nw)) 2 rfl ?_
      refine mm_T.seg (f' := (84, [some (.ref 62), some (.int y1), some (.int y2), some (.int y3), none, some (.int y5)], [(.int 1), (.int ((y1 >>> (y5 &&& 31)) &&& 1)), (.int y5), (.ref 88)])) (h' := (107, I, J, mm_rf rv sp rr w nw)) 7 rfl ?_
      refine mm_T.br (c := ((y1 >>> (y5 &&& 31)) &&& 1) = 1) (a := ((87, [some (.ref 62), some (.int y1), some (.int y2), some (.int y3), none, some (.int y5)], [(.int y5), (.ref 88)]), (107, I, J, mm_rf rv sp rr w nw))) (b := ((100, [some (.ref 62), some (.int y1), some (.int y2), some (.int y3), none, some (.int y5)], [(.int y5), (.ref 88)]), (107, I, J, mm_rf rv sp rr w nw))) rfl (fun h885 => ?_) (fun h885 => ?_)
      · rw [if_pos h885] at e
        refine mm_T.seg (f' := (91, [some (.ref 62), some (.int y1), some (.int y2), some (.int y3), none, some (.int y5)], [(.ref 85), (.int y5), (.ref 88)])) (h' := (107, I, J, mm_rf rv sp rr w nw)) 2 rfl ?_
        refine mm_T.seg (f' := (96, [some (.ref 62), some (.int y1), some (.int y2), some (.int y3), none, some (.int y5)], [(.int (20 + y5)), (.ref 85), (.int y5), (.ref 88)])) (h' := (107, I, J, mm_rf rv sp rr w nw)) 3 rfl ?_
        by_cases h886 : (20 + y5) < 0 ∨ 28 ≤ (20 + y5).toNatClampNeg
        · rw [if_pos h886] at e; cases e
        rw [if_neg h886] at e
        refine mm_T.guard (c := (20 + y5) < 0 ∨ 28 ≤ (20 + y5).toNatClampNeg) (y := ((97, [some (.ref 62), some (.int y1), some (.int y2), some (.int y3), none, some (.int y5)], [(.int (I 85 (20 + y5).toNatClampNeg)), (.int y5), (.ref 88)]), (107, I, J, mm_rf rv sp rr w nw))) (mm_gen (P := fun z => mm_stp none 297 (96, [some (.ref 62), some (.int y1), some (.int y2), some (.int y3), none, some (.int y5)], [(.int z), (.ref 85), (.int y5), (.ref 88)]) (107, I, J, mm_rf rv sp rr w nw) = if z < 0 ∨ 28 ≤ z.toNatClampNeg then none else some (.inl ((97, [some (.ref 62), some (.int y1), some (.int y2), some (.int y3), none, some (.int y5)], [(.int (I 85 z.toNatClampNeg)), (.int y5), (.ref 88)]), (107, I, J, mm_rf rv sp rr w nw)))) (20 + y5) (fun z => rfl)) h886 ?_
        refine mm_T.seg (f' := (101, [some (.ref 62), some (.int y1), some (.int y2), some (.int y3), none, some (.int y5)], [(.int (I 85 (20 + y5).toNatClampNeg)), (.int y5), (.ref 88)])) (h' := (107, I, J, mm_rf rv sp rr w nw)) 1 rfl ?_
        by_cases h887 : y5 < 0 ∨ 7 ≤ y5.toNatClampNeg
        · rw [if_pos h887] at e; cases e
        rw [if_neg h887] at e
        refine mm_T.guard (y := ((102, [some (.ref 62), some (.int y1), some (.int y2), some (.int y3), none, some (.int y5)], []), (107, (mm_up I 88 y5.toNatClampNeg (I 85 (20 + y5).toNatClampNeg)), J, mm_rf rv sp rr w nw))) rfl h887 ?_
        refine mm_T.seg (f' := (62, [some (.ref 62), some (.int y1), some (.int y2), some (.int y3), none, some (.int (y5 + 1))], [])) (h' := (107, (mm_up I 88 y5.toNatClampNeg (I 85 (20 + y5).toNatClampNeg)), J, mm_rf rv sp rr w nw)) 2 rfl ?_
        refine mm_T.mask [true, true, true, true, false, true] ?_
        exact ih y1 y2 y3 (y5 + 1) (mm_up I 88 y5.toNatClampNeg (I 85 (20 + y5).toNatClampNeg)) J rv sp rr w nw out e k
      · rw [if_neg h885] at e
        refine mm_T.seg (f' := (101, [some (.ref 62), some (.int y1), some (.int y2), some (.int y3), none, some (.int y5)], [(.int (-1)), (.int y5), (.ref 88)])) (h' := (107, I, J, mm_rf rv sp rr w nw)) 1 rfl ?_
        by_cases h888 : y5 < 0 ∨ 7 ≤ y5.toNatClampNeg
        · rw [if_pos h888] at e; cases e
        rw [if_neg h888] at e
        refine mm_T.guard (y := ((102, [some (.ref 62), some (.int y1), some (.int y2), some (.int y3), none, some (.int y5)], []), (107, (mm_up I 88 y5.toNatClampNeg (-1)), J, mm_rf rv sp rr w nw))) rfl h888 ?_
        refine mm_T.seg (f' := (62, [some (.ref 62), some (.int y1), some (.int y2), some (.int y3), none, some (.int (y5 + 1))], [])) (h' := (107, (mm_up I 88 y5.toNatClampNeg (-1)), J, mm_rf rv sp rr w nw)) 2 rfl ?_
        refine mm_T.mask [true, true, true, true, false, true] ?_
        exact ih y1 y2 y3 (y5 + 1) (mm_up I 88 y5.toNatClampNeg (-1)) J rv sp rr w nw out e k
    · rw [if_neg h884] at e
      cases e
      refine mm_T.mask [true, true, true, true, false, false] ?_
      exact k
set_option maxRecDepth 100000 in
set_option maxHeartbeats 4000000 in
theorem tlX12_stowing_L16 (d : Nat) (Q : Option Value → mm_H → Prop) : ∀ (n : Nat) (y1 : Int32) (y2 : Int32) (y3 : Int32) (I : Nat → Nat → Int32) (J : Nat → Nat → Int64) (rv sp rr w nw : Nat), ∀ (out : Int32 × (Nat → Nat → Int32)), fX12_stowing_L16 n y1 y2 y3 I = some out → mm_T none (d + 3) 297 (122, [none, none, some (.int out.1), none, none, none], []) (107, out.2, J, mm_rf rv sp rr w nw) Q → mm_T none (d + 3) 297 (16, [some (.ref 62), some (.int y1), some (.int y2), some (.int y3), none, none], []) (107, I, J, mm_rf rv sp rr w nw) Q := by
  intro n
  induction n with
  | zero =>
    intro y1 y2 y3 I J rv sp rr w nw out e k
    rw [fX12_stowing_L16] at e; cases e
  | succ n ih =>
    intro y1 y2 y3 I J rv sp rr w nw out e k
    rw [fX12_stowing_L16] at e
    refine mm_T.seg (f' := (22, [some (.ref 62), some (.int y1), some (.int y2), some (.int y3), none, none], [(.int (I 62 49)), (.int 4), (.int y3)])) (h' := (107, I, J, mm_rf rv sp rr w nw)) 4 rfl ?_
    obtain ⟨o877, eo877, e⟩ := mm_bind e
    refine mm_T.call (t := 277) (as := [(.int 4), (.int (I 62 49))]) (f' := (25, [some (.ref 62), some (.int y1), some (.int y2), some (.int y3), none, none], [(.int y3)])) rfl (tX12_power (d + 2) n 4 (I 62 49) I J rv sp rr w nw o877 eo877) (fun v h hq => ?_)
    obtain ⟨rfl, rfl⟩ := hq
    refine mm_T.br (c := y3 < o877) (a := ((28, [some (.ref 62), some (.int y1), some (.int y2), some (.int y3), none, none], []), (107, I, J, mm_rf rv sp rr w nw))) (b := ((122, [some (.ref 62), some (.int y1), some (.int y2), some (.int y3), none, none], []), (107, I, J, mm_rf rv sp rr w nw))) rfl (fun h878 => ?_) (fun h878 => ?_)
    · rw [if_pos h878] at e
      refine mm_T.seg (f' := (31, [some (.ref 62), some (.int y1), some (.int y2), some (.int y3), none, none], [(.int y3), (.int y1), (.ref 62)])) (h' := (107, I, J, mm_rf rv sp rr w nw)) 3 rfl ?_
      obtain ⟨o879, eo879, e⟩ := mm_bind e
      refine mm_T.call (t := 296) (as := [(.ref 62), (.int y1), (.int y3)]) (f' := (34, [some (.ref 62), some (.int y1), some (.int y2), some (.int y3), none, none], [])) rfl (tX12_stowBy (d + 1) n y1 y3 I J rv sp rr w nw o879 eo879) (fun v h hq => ?_)
      obtain ⟨rfl, rfl⟩ := hq
      refine mm_T.seg (f' := (38, [some (.ref 62), some (.int y1), some (.int y2), some (.int y3), some (.int o879.1), none], [(.int o879.1)])) (h' := (107, o879.2, J, mm_rf rv sp rr w nw)) 2 rfl ?_
      refine mm_T.br (c := o879.1 < 0) (a := ((116, [some (.ref 62), some (.int y1), some (.int y2), some (.int y3), some (.int o879.1), none], []), (107, o879.2, J, mm_rf rv sp rr w nw))) (b := ((41, [some (.ref 62), some (.int y1), some (.int y2), some (.int y3), some (.int o879.1), none], []), (107, o879.2, J, mm_rf rv sp rr w nw))) rfl (fun h880 => ?_) (fun h880 => ?_)
      · rw [if_pos h880] at e
        refine mm_T.seg (f' := (16, [some (.ref 62), some (.int y1), some (.int y2), some (.int (y3 + 1)), some (.int o879.1), none], [])) (h' := (107, o879.2, J, mm_rf rv sp rr w nw)) 2 rfl ?_
        refine mm_T.mask [true, true, true, true, false, false] ?_
        exact ih y1 y2 (y3 + 1) o879.2 J rv sp rr w nw out e k
      · rw [if_neg h880] at e
        refine mm_T.seg (f' := (43, [some (.ref 62), some (.int y1), some (.int y2), some (.int y3), some (.int o879.1), none], [(.int o879.1)])) (h' := (107, o879.2, J, mm_rf rv sp rr w nw)) 1 rfl ?_
        obtain ⟨o881, eo881, e⟩ := mm_bind e
        refine mm_T.call (t := 255) (as := [(.int o879.1)]) (f' := (46, [some (.ref 62), some (.int y1), some (.int y2), some (.int y3), some (.int o879.1), none], [])) rfl (tX12_members (d + 2) n o879.1 o879.2 J rv sp rr w nw o881 eo881) (fun v h hq => ?_)
        obtain ⟨rfl, rfl⟩ := hq
        refine mm_T.seg (f' := (47, [some (.ref 62), some (.int y1), some (.int y2), some (.int y3), some (.int o879.1), none], [(.int y2), (.int o881)])) (h' := (107, o879.2, J, mm_rf rv sp rr w nw)) 1 rfl ?_
        refine mm_T.br (c := o881 < y2) (a := ((53, [some (.ref 62), some (.int y1), some (.int y2), some (.int y3), some (.int o879.1), none], []), (107, o879.2, J, mm_rf rv sp rr w nw))) (b := ((50, [some (.ref 62), some (.int y1), some (.int y2), some (.int y3), some (.int o879.1), none], []), (107, o879.2, J, mm_rf rv sp rr w nw))) rfl (fun h882 => ?_) (fun h882 => ?_)
        · rw [if_pos h882] at e
          refine mm_T.seg (f' := (55, [some (.ref 62), some (.int y1), some (.int y2), some (.int y3), some (.int o879.1), none], [(.int o879.1)])) (h' := (107, o879.2, J, mm_rf rv sp rr w nw)) 1 rfl ?_
          obtain ⟨o883, eo883, e⟩ := mm_bind e
          refine mm_T.call (t := 255) (as := [(.int o879.1)]) (f' := (58, [some (.ref 62), some (.int y1), some (.int y2), some (.int y3), some (.int o879.1), none], [])) rfl (tX12_members (d + 2) n o879.1 o879.2 J rv sp rr w nw o883 eo883) (fun v h hq => ?_)
          obtain ⟨rfl, rfl⟩ := hq
          refine mm_T.seg (f' := (62, [some (.ref 62), some (.int y1), some (.int o883), some (.int y3), some (.int o879.1), some (.int 0)], [])) (h' := (107, o879.2, J, mm_rf rv sp rr w nw)) 3 rfl ?_
          refine mm_T.mask [true, true, true, true, false, true] ?_
          obtain ⟨o889, eo889, e⟩ := mm_bind e
          refine tlX12_stowing_L62 d _ n y1 o883 y3 0 o879.2 J rv sp rr w nw o889 eo889 ?_
          refine mm_T.seg (f' := (16, [some (.ref 62), some (.int y1), some (.int o883), some (.int (y3 + 1)), none, none], [])) (h' := (107, (mm_up o889 62 61 (o889 62 49)), J, mm_rf rv sp rr w nw)) 6 rfl ?_
          refine mm_T.mask [true, true, true, true, false, false] ?_
          exact ih y1 o883 (y3 + 1) (mm_up o889 62 61 (o889 62 49)) J rv sp rr w nw out e k
        · rw [if_neg h882] at e
          refine mm_T.seg (f' := (16, [some (.ref 62), some (.int y1), some (.int y2), some (.int (y3 + 1)), some (.int o879.1), none], [])) (h' := (107, o879.2, J, mm_rf rv sp rr w nw)) 3 rfl ?_
          refine mm_T.mask [true, true, true, true, false, false] ?_
          exact ih y1 y2 (y3 + 1) o879.2 J rv sp rr w nw out e k
    · rw [if_neg h878] at e
      cases e
      refine mm_T.mask [false, false, true, false, false, false] ?_
      exact k
set_option maxRecDepth 100000 in
set_option maxHeartbeats 4000000 in
theorem tX12_stowing (d n : Nat) (I : Nat → Nat → Int32) (J : Nat → Nat → Int64) (rv sp rr w nw : Nat) (out : Int32 × (Nat → Nat → Int32)) (e : fX12_stowing n I = some out) : mm_T none (d + 3) 297 (mm_ent 297 [(.ref 62)]) (107, I, J, mm_rf rv sp rr w nw) (fun v h => v = some (.int out.1) ∧ h = (107, out.2, J, mm_rf rv sp rr w nw)) := by
  unfold fX12_stowing at e
  refine mm_T.seg (f' := (6, [some (.ref 62), none, none, none, none, none], [(.ref 62)])) (h' := (107, (mm_up I 62 61 0), J, mm_rf rv sp rr w nw)) 4 rfl ?_
  obtain ⟨o876, eo876, e⟩ := mm_bind e
  refine mm_T.call (t := 291) (as := [(.ref 62)]) (f' := (9, [some (.ref 62), none, none, none, none, none], [])) rfl (tX12_nearLoads (d + 0) n (mm_up I 62 61 0) J rv sp rr w nw o876 eo876) (fun v h hq => ?_)
  obtain ⟨rfl, rfl⟩ := hq
  refine mm_T.seg (f' := (16, [some (.ref 62), some (.int o876.1), some (.int 1000000), some (.int 0), none, none], [])) (h' := (107, o876.2, J, mm_rf rv sp rr w nw)) 5 rfl ?_
  refine mm_T.mask [true, true, true, true, false, false] ?_
  obtain ⟨o890, eo890, e⟩ := mm_bind e
  refine tlX12_stowing_L16 d _ n o876.1 1000000 0 o876.2 J rv sp rr w nw o890 eo890 ?_
  refine mm_T.seg (f' := (126, [none, none, some (.int o890.1), none, none, none], [(.int 1000000), (.int o890.1)])) (h' := (107, o890.2, J, mm_rf rv sp rr w nw)) 2 rfl ?_
  refine mm_T.br (c := o890.1 = 1000000) (a := ((129, [none, none, some (.int o890.1), none, none, none], []), (107, o890.2, J, mm_rf rv sp rr w nw))) (b := ((133, [none, none, some (.int o890.1), none, none, none], []), (107, o890.2, J, mm_rf rv sp rr w nw))) rfl (fun h891 => ?_) (fun h891 => ?_)
  · rw [if_pos h891] at e
    refine mm_T.seg (f' := (134, [none, none, some (.int o890.1), none, none, none], [(.int (-1))])) (h' := (107, o890.2, J, mm_rf rv sp rr w nw)) 2 rfl ?_
    cases e
    exact mm_T.ret rfl ⟨rfl, rfl⟩
  · rw [if_neg h891] at e
    refine mm_T.seg (f' := (134, [none, none, some (.int o890.1), none, none, none], [(.int o890.1)])) (h' := (107, o890.2, J, mm_rf rv sp rr w nw)) 1 rfl ?_
    cases e
    exact mm_T.ret rfl ⟨rfl, rfl⟩
set_option maxRecDepth 100000 in
set_option maxHeartbeats 4000000 in
theorem tlX12_areBeside_L4 (d : Nat) (Q : Option Value → mm_H → Prop) : ∀ (n : Nat) (y1 : Int32) (y2 : Int32) (I : Nat → Nat → Int32) (J : Nat → Nat → Int64) (rv sp rr w nw : Nat), ∀ (out : Int32), fX12_areBeside_L4 n y1 y2 I = some out → mm_T none (d + 1) 298 (51, [none, some (.int out), none], []) (107, I, J, mm_rf rv sp rr w nw) Q → mm_T none (d + 1) 298 (4, [some (.ref 62), some (.int y1), some (.int y2)], []) (107, I, J, mm_rf rv sp rr w nw) Q := by
  intro n
  induction n with
  | zero =>
    intro y1 y2 I J rv sp rr w nw out e k
    rw [fX12_areBeside_L4] at e; cases e
  | succ n ih =>
    intro y1 y2 I J rv sp rr w nw out e k
    rw [fX12_areBeside_L4] at e
    refine mm_T.seg (f' := (7, [some (.ref 62), some (.int y1), some (.int y2)], [(.int 64), (.int y2)])) (h' := (107, I, J, mm_rf rv sp rr w nw)) 2 rfl ?_
    refine mm_T.br (c := y2 < 64) (a := ((10, [some (.ref 62), some (.int y1), some (.int y2)], []), (107, I, J, mm_rf rv sp rr w nw))) (b := ((51, [some (.ref 62), some (.int y1), some (.int y2)], []), (107, I, J, mm_rf rv sp rr w nw))) rfl (fun h897 => ?_) (fun h897 => ?_)
    · rw [if_pos h897] at e
      refine mm_T.seg (f' := (11, [some (.ref 62), some (.int y1), some (.int y2)], [(.int y1)])) (h' := (107, I, J, mm_rf rv sp rr w nw)) 1 rfl ?_
      refine mm_T.br (c := y1 = 0) (a := ((14, [some (.ref 62), some (.int y1), some (.int y2)], []), (107, I, J, mm_rf rv sp rr w nw))) (b := ((39, [some (.ref 62), some (.int y1), some (.int y2)], []), (107, I, J, mm_rf rv sp rr w nw))) rfl (fun h898 => ?_) (fun h898 => ?_)
      · rw [if_pos h898] at e
        refine mm_T.seg (f' := (18, [some (.ref 62), some (.int y1), some (.int y2)], [(.ref 92)])) (h' := (107, I, J, mm_rf rv sp rr w nw)) 2 rfl ?_
        refine mm_T.seg (f' := (19, [some (.ref 62), some (.int y1), some (.int y2)], [(.int y2), (.ref 92)])) (h' := (107, I, J, mm_rf rv sp rr w nw)) 1 rfl ?_
        by_cases h899 : y2 < 0 ∨ 64 ≤ y2.toNatClampNeg
        · rw [if_pos h899] at e; cases e
        rw [if_neg h899] at e
        refine mm_T.guard (y := ((20, [some (.ref 62), some (.int y1), some (.int y2)], [(.int (I 92 y2.toNatClampNeg))]), (107, I, J, mm_rf rv sp rr w nw))) rfl h899 ?_
        refine mm_T.br (c := (I 92 y2.toNatClampNeg) = 0) (a := ((43, [some (.ref 62), some (.int y1), some (.int y2)], []), (107, I, J, mm_rf rv sp rr w nw))) (b := ((23, [some (.ref 62), some (.int y1), some (.int y2)], []), (107, I, J, mm_rf rv sp rr w nw))) rfl (fun h900 => ?_) (fun h900 => ?_)
        · rw [if_pos h900] at e
          refine mm_T.seg (f' := (4, [some (.ref 62), some (.int 0), some (.int (y2 + 1))], [])) (h' := (107, I, J, mm_rf rv sp rr w nw)) 4 rfl ?_
          refine mm_T.mask [true, true, true] ?_
          exact ih 0 (y2 + 1) I J rv sp rr w nw out e k
        · rw [if_neg h900] at e
          refine mm_T.seg (f' := (32, [some (.ref 62), some (.int y1), some (.int y2)], [(.int ((y2 / 8) - (y2 - y2 / 8 * 8)))])) (h' := (107, I, J, mm_rf rv sp rr w nw)) 7 rfl ?_
          obtain ⟨g147, hg147⟩ : ∃ z, fX12_plain ((y2 / 8) - (y2 - y2 / 8 * 8)) = z := ⟨_, rfl⟩
          try rw [hg147] at e
          refine mm_T.call (t := 239) (as := [(.int ((y2 / 8) - (y2 - y2 / 8 * 8)))]) (f' := (35, [some (.ref 62), some (.int y1), some (.int y2)], [])) rfl (tX12_plain (d + 0) ((y2 / 8) - (y2 - y2 / 8 * 8)) I J rv sp rr w nw g147 hg147) (fun v h hq => ?_)
          obtain ⟨rfl, rfl⟩ := hq
          refine mm_T.seg (f' := (36, [some (.ref 62), some (.int y1), some (.int y2)], [(.int 1), (.int g147)])) (h' := (107, I, J, mm_rf rv sp rr w nw)) 1 rfl ?_
          refine mm_T.br (c := g147 = 1) (a := ((39, [some (.ref 62), some (.int y1), some (.int y2)], []), (107, I, J, mm_rf rv sp rr w nw))) (b := ((43, [some (.ref 62), some (.int y1), some (.int y2)], []), (107, I, J, mm_rf rv sp rr w nw))) rfl (fun h901 => ?_) (fun h901 => ?_)
          · rw [if_pos h901] at e
            refine mm_T.seg (f' := (4, [some (.ref 62), some (.int 1), some (.int (y2 + 1))], [])) (h' := (107, I, J, mm_rf rv sp rr w nw)) 5 rfl ?_
            refine mm_T.mask [true, true, true] ?_
            exact ih 1 (y2 + 1) I J rv sp rr w nw out e k
          · rw [if_neg h901] at e
            refine mm_T.seg (f' := (4, [some (.ref 62), some (.int 0), some (.int (y2 + 1))], [])) (h' := (107, I, J, mm_rf rv sp rr w nw)) 4 rfl ?_
            refine mm_T.mask [true, true, true] ?_
            exact ih 0 (y2 + 1) I J rv sp rr w nw out e k
      · rw [if_neg h898] at e
        refine mm_T.seg (f' := (4, [some (.ref 62), some (.int 1), some (.int (y2 + 1))], [])) (h' := (107, I, J, mm_rf rv sp rr w nw)) 5 rfl ?_
        refine mm_T.mask [true, true, true] ?_
        exact ih 1 (y2 + 1) I J rv sp rr w nw out e k
    · rw [if_neg h897] at e
      cases e
      refine mm_T.mask [false, true, false] ?_
      exact k
set_option maxRecDepth 100000 in
set_option maxHeartbeats 4000000 in
theorem tX12_areBeside (d n : Nat) (I : Nat → Nat → Int32) (J : Nat → Nat → Int64) (rv sp rr w nw : Nat) (out : Int32) (e : fX12_areBeside n I = some out) : mm_T none (d + 1) 298 (mm_ent 298 [(.ref 62)]) (107, I, J, mm_rf rv sp rr w nw) (fun v h => v = some (.int out) ∧ h = (107, I, J, mm_rf rv sp rr w nw)) := by
  unfold fX12_areBeside at e
  refine mm_T.seg (f' := (4, [some (.ref 62), some (.int 0), some (.int 0)], [])) (h' := (107, I, J, mm_rf rv sp rr w nw)) 4 rfl ?_
  refine mm_T.mask [true, true, true] ?_
  obtain ⟨o902, eo902, e⟩ := mm_bind e
  refine tlX12_areBeside_L4 d _ n 0 0 I J rv sp rr w nw o902 eo902 ?_
  refine mm_T.seg (f' := (52, [none, some (.int o902), none], [(.int o902)])) (h' := (107, I, J, mm_rf rv sp rr w nw)) 1 rfl ?_
  by_cases h903 : o902 = 0 ∨ o902 = 1
  case neg => rw [if_neg h903] at e; cases e
  rw [if_pos h903] at e
  cases e
  first | exact mm_T.retZ (v := some (.int o902)) rfl h903 ⟨rfl, rfl⟩ | exact mm_T.retZ (v := some (.int out)) rfl h903 ⟨rfl, rfl⟩
set_option maxRecDepth 100000 in
set_option maxHeartbeats 4000000 in
theorem tlX12_goBoth_L2 (d : Nat) (Q : Option Value → mm_H → Prop) : ∀ (n : Nat) (y1 : Int32) (y2 : Int32) (I : Nat → Nat → Int32) (J : Nat → Nat → Int64) (rv sp rr w nw : Nat), ∀ (out : (Nat → Nat → Int32)), fX12_goBoth_L2 n y1 y2 I = some out → mm_T none (d + 2) 299 (21, [some (.ref 62), some (.int y1), none, none, none, none], []) (107, out, J, mm_rf rv sp rr w nw) Q → mm_T none (d + 2) 299 (2, [some (.ref 62), some (.int y1), some (.int y2), none, none, none], []) (107, I, J, mm_rf rv sp rr w nw) Q := by
  intro n
  induction n with
  | zero =>
    intro y1 y2 I J rv sp rr w nw out e k
    rw [fX12_goBoth_L2] at e; cases e
  | succ n ih =>
    intro y1 y2 I J rv sp rr w nw out e k
    rw [fX12_goBoth_L2] at e
    refine mm_T.seg (f' := (5, [some (.ref 62), some (.int y1), some (.int y2), none, none, none], [(.int 64), (.int y2)])) (h' := (107, I, J, mm_rf rv sp rr w nw)) 2 rfl ?_
    refine mm_T.br (c := y2 < 64) (a := ((8, [some (.ref 62), some (.int y1), some (.int y2), none, none, none], []), (107, I, J, mm_rf rv sp rr w nw))) (b := ((21, [some (.ref 62), some (.int y1), some (.int y2), none, none, none], []), (107, I, J, mm_rf rv sp rr w nw))) rfl (fun h904 => ?_) (fun h904 => ?_)
    · rw [if_pos h904] at e
      refine mm_T.seg (f' := (12, [some (.ref 62), some (.int y1), some (.int y2), none, none, none], [(.ref 93)])) (h' := (107, I, J, mm_rf rv sp rr w nw)) 2 rfl ?_
      refine mm_T.seg (f' := (14, [some (.ref 62), some (.int y1), some (.int y2), none, none, none], [(.int 0), (.int y2), (.ref 93)])) (h' := (107, I, J, mm_rf rv sp rr w nw)) 2 rfl ?_
      by_cases h905 : y2 < 0 ∨ 64 ≤ y2.toNatClampNeg
      · rw [if_pos h905] at e; cases e
      rw [if_neg h905] at e
      refine mm_T.guard (y := ((15, [some (.ref 62), some (.int y1), some (.int y2), none, none, none], []), (107, (mm_up I 93 y2.toNatClampNeg (vp_nar .boolean 0)), J, mm_rf rv sp rr w nw))) rfl h905 ?_
      refine mm_T.seg (f' := (2, [some (.ref 62), some (.int y1), some (.int (y2 + 1)), none, none, none], [])) (h' := (107, (mm_up I 93 y2.toNatClampNeg (vp_nar .boolean 0)), J, mm_rf rv sp rr w nw)) 2 rfl ?_
      refine mm_T.mask [true, true, true, false, false, false] ?_
      exact ih y1 (y2 + 1) (mm_up I 93 y2.toNatClampNeg (vp_nar .boolean 0)) J rv sp rr w nw out e k
    · rw [if_neg h904] at e
      cases e
      refine mm_T.mask [true, true, false, false, false, false] ?_
      exact k
set_option maxRecDepth 100000 in
set_option maxHeartbeats 4000000 in
theorem tlX12_goBoth_L31 (d : Nat) (Q : Option Value → mm_H → Prop) : ∀ (n : Nat) (y1 : Int32) (y2 : Int32) (y3 : Int32) (I : Nat → Nat → Int32) (J : Nat → Nat → Int64) (rv sp rr w nw : Nat), ∀ (out : (Nat → Nat → Int32)), fX12_goBoth_L31 n y1 y2 y3 I = some out → mm_T none (d + 2) 299 (124, [some (.ref 62), some (.int y1), some (.int y2), none, none, none], []) (107, out, J, mm_rf rv sp rr w nw) Q → mm_T none (d + 2) 299 (31, [some (.ref 62), some (.int y1), some (.int y2), some (.int y3), none, none], []) (107, I, J, mm_rf rv sp rr w nw) Q := by
  intro n
  induction n with
  | zero =>
    intro y1 y2 y3 I J rv sp rr w nw out e k
    rw [fX12_goBoth_L31] at e; cases e
  | succ n ih =>
    intro y1 y2 y3 I J rv sp rr w nw out e k
    rw [fX12_goBoth_L31] at e
    refine mm_T.seg (f' := (34, [some (.ref 62), some (.int y1), some (.int y2), some (.int y3), none, none], [(.int 9), (.int y3)])) (h' := (107, I, J, mm_rf rv sp rr w nw)) 2 rfl ?_
    refine mm_T.br (c := y3 < 9) (a := ((37, [some (.ref 62), some (.int y1), some (.int y2), some (.int y3), none, none], []), (107, I, J, mm_rf rv sp rr w nw))) (b := ((124, [some (.ref 62), some (.int y1), some (.int y2), some (.int y3), none, none], []), (107, I, J, mm_rf rv sp rr w nw))) rfl (fun h908 => ?_) (fun h908 => ?_)
    · rw [if_pos h908] at e
      refine mm_T.seg (f' := (41, [some (.ref 62), some (.int y1), some (.int y2), some (.int y3), none, none], [(.ref 92)])) (h' := (107, I, J, mm_rf rv sp rr w nw)) 2 rfl ?_
      refine mm_T.seg (f' := (42, [some (.ref 62), some (.int y1), some (.int y2), some (.int y3), none, none], [(.int y2), (.ref 92)])) (h' := (107, I, J, mm_rf rv sp rr w nw)) 1 rfl ?_
      by_cases h909 : y2 < 0 ∨ 64 ≤ y2.toNatClampNeg
      · rw [if_pos h909] at e; cases e
      rw [if_neg h909] at e
      refine mm_T.guard (y := ((43, [some (.ref 62), some (.int y1), some (.int y2), some (.int y3), none, none], [(.int (I 92 y2.toNatClampNeg))]), (107, I, J, mm_rf rv sp rr w nw))) rfl h909 ?_
      refine mm_T.br (c := (I 92 y2.toNatClampNeg) = 0) (a := ((124, [some (.ref 62), some (.int y1), some (.int y2), some (.int y3), none, none], []), (107, I, J, mm_rf rv sp rr w nw))) (b := ((46, [some (.ref 62), some (.int y1), some (.int y2), some (.int y3), none, none], []), (107, I, J, mm_rf rv sp rr w nw))) rfl (fun h910 => ?_) (fun h910 => ?_)
      · rw [if_pos h910] at e
        cases e
        refine mm_T.mask [true, true, true, false, false, false] ?_
        exact k
      · rw [if_neg h910] at e
        refine mm_T.seg (f' := (58, [some (.ref 62), some (.int y1), some (.int y2), some (.int y3), none, none], [(.int 1), (.int ((y3 / 3) - 1)), (.int y1), (.int (y2 / 8)), (.ref 62)])) (h' := (107, I, J, mm_rf rv sp rr w nw)) 11 rfl ?_
        obtain ⟨o911, eo911, e⟩ := mm_bind e
        refine mm_T.call (t := 259) (as := [(.ref 62), (.int (y2 / 8)), (.int y1), (.int ((y3 / 3) - 1)), (.int 1)]) (f' := (61, [some (.ref 62), some (.int y1), some (.int y2), some (.int y3), none, none], [])) rfl (tX12_columnBy (d + 0) (y2 / 8) y1 ((y3 / 3) - 1) 1 I J rv sp rr w nw o911 eo911) (fun v h hq => ?_)
        obtain ⟨rfl, rfl⟩ := hq
        refine mm_T.seg (f' := (75, [some (.ref 62), some (.int y1), some (.int y2), some (.int y3), some (.int o911), none], [(.int 1), (.int ((y3 - y3 / 3 * 3) - 1)), (.int y1), (.int (y2 - y2 / 8 * 8)), (.ref 62)])) (h' := (107, I, J, mm_rf rv sp rr w nw)) 12 rfl ?_
        obtain ⟨o912, eo912, e⟩ := mm_bind e
        refine mm_T.call (t := 259) (as := [(.ref 62), (.int (y2 - y2 / 8 * 8)), (.int y1), (.int ((y3 - y3 / 3 * 3) - 1)), (.int 1)]) (f' := (78, [some (.ref 62), some (.int y1), some (.int y2), some (.int y3), some (.int o911), none], [])) rfl (tX12_columnBy (d + 0) (y2 - y2 / 8 * 8) y1 ((y3 - y3 / 3 * 3) - 1) 1 I J rv sp rr w nw o912 eo912) (fun v h hq => ?_)
        obtain ⟨rfl, rfl⟩ := hq
        refine mm_T.seg (f' := (86, [some (.ref 62), some (.int y1), some (.int y2), some (.int y3), some (.int o911), some (.int o912)], [(.int (y1 + 1)), (.int o911), (.ref 62)])) (h' := (107, I, J, mm_rf rv sp rr w nw)) 6 rfl ?_
        obtain ⟨o913, eo913, e⟩ := mm_bind e
        refine mm_T.call (t := 260) (as := [(.ref 62), (.int o911), (.int (y1 + 1))]) (f' := (89, [some (.ref 62), some (.int y1), some (.int y2), some (.int y3), some (.int o911), some (.int o912)], [])) rfl (tX12_isIron (d + 1) o911 (y1 + 1) I J rv sp rr w nw o913 eo913) (fun v h hq => ?_)
        obtain ⟨rfl, rfl⟩ := hq
        refine mm_T.br (c := o913 = 0) (a := ((92, [some (.ref 62), some (.int y1), some (.int y2), some (.int y3), some (.int o911), some (.int o912)], []), (107, I, J, mm_rf rv sp rr w nw))) (b := ((118, [some (.ref 62), some (.int y1), some (.int y2), some (.int y3), some (.int o911), some (.int o912)], []), (107, I, J, mm_rf rv sp rr w nw))) rfl (fun h914 => ?_) (fun h914 => ?_)
        · rw [if_pos h914] at e
          refine mm_T.seg (f' := (98, [some (.ref 62), some (.int y1), some (.int y2), some (.int y3), some (.int o911), some (.int o912)], [(.int (y1 + 1)), (.int o912), (.ref 62)])) (h' := (107, I, J, mm_rf rv sp rr w nw)) 5 rfl ?_
          obtain ⟨o915, eo915, e⟩ := mm_bind e
          refine mm_T.call (t := 260) (as := [(.ref 62), (.int o912), (.int (y1 + 1))]) (f' := (101, [some (.ref 62), some (.int y1), some (.int y2), some (.int y3), some (.int o911), some (.int o912)], [])) rfl (tX12_isIron (d + 1) o912 (y1 + 1) I J rv sp rr w nw o915 eo915) (fun v h hq => ?_)
          obtain ⟨rfl, rfl⟩ := hq
          refine mm_T.br (c := o915 = 0) (a := ((104, [some (.ref 62), some (.int y1), some (.int y2), some (.int y3), some (.int o911), some (.int o912)], []), (107, I, J, mm_rf rv sp rr w nw))) (b := ((118, [some (.ref 62), some (.int y1), some (.int y2), some (.int y3), some (.int o911), some (.int o912)], []), (107, I, J, mm_rf rv sp rr w nw))) rfl (fun h916 => ?_) (fun h916 => ?_)
          · rw [if_pos h916] at e
            refine mm_T.seg (f' := (108, [some (.ref 62), some (.int y1), some (.int y2), some (.int y3), some (.int o911), some (.int o912)], [(.ref 93)])) (h' := (107, I, J, mm_rf rv sp rr w nw)) 2 rfl ?_
            refine mm_T.seg (f' := (117, [some (.ref 62), some (.int y1), some (.int y2), some (.int y3), some (.int o911), some (.int o912)], [(.int 1), (.int ((8 * o911) + o912)), (.ref 93)])) (h' := (107, I, J, mm_rf rv sp rr w nw)) 6 rfl ?_
            by_cases h917 : ((8 * o911) + o912) < 0 ∨ 64 ≤ ((8 * o911) + o912).toNatClampNeg
            · rw [if_pos h917] at e; cases e
            rw [if_neg h917] at e
            refine mm_T.guard (c := ((8 * o911) + o912) < 0 ∨ 64 ≤ ((8 * o911) + o912).toNatClampNeg) (y := ((118, [some (.ref 62), some (.int y1), some (.int y2), some (.int y3), some (.int o911), some (.int o912)], []), (107, (mm_up I 93 ((8 * o911) + o912).toNatClampNeg (vp_nar .boolean 1)), J, mm_rf rv sp rr w nw))) (mm_gen (P := fun z => mm_stp none 299 (117, [some (.ref 62), some (.int y1), some (.int y2), some (.int y3), some (.int o911), some (.int o912)], [(.int 1), (.int z), (.ref 93)]) (107, I, J, mm_rf rv sp rr w nw) = if z < 0 ∨ 64 ≤ z.toNatClampNeg then none else some (.inl ((118, [some (.ref 62), some (.int y1), some (.int y2), some (.int y3), some (.int o911), some (.int o912)], []), (107, (mm_up I 93 z.toNatClampNeg (vp_nar .boolean 1)), J, mm_rf rv sp rr w nw)))) ((8 * o911) + o912) (fun z => rfl)) h917 ?_
            refine mm_T.seg (f' := (31, [some (.ref 62), some (.int y1), some (.int y2), some (.int (y3 + 1)), some (.int o911), some (.int o912)], [])) (h' := (107, (mm_up I 93 ((8 * o911) + o912).toNatClampNeg (vp_nar .boolean 1)), J, mm_rf rv sp rr w nw)) 2 rfl ?_
            refine mm_T.mask [true, true, true, true, false, false] ?_
            exact ih y1 y2 (y3 + 1) (mm_up I 93 ((8 * o911) + o912).toNatClampNeg (vp_nar .boolean 1)) J rv sp rr w nw out e k
          · rw [if_neg h916] at e
            refine mm_T.seg (f' := (31, [some (.ref 62), some (.int y1), some (.int y2), some (.int (y3 + 1)), some (.int o911), some (.int o912)], [])) (h' := (107, I, J, mm_rf rv sp rr w nw)) 2 rfl ?_
            refine mm_T.mask [true, true, true, true, false, false] ?_
            exact ih y1 y2 (y3 + 1) I J rv sp rr w nw out e k
        · rw [if_neg h914] at e
          refine mm_T.seg (f' := (31, [some (.ref 62), some (.int y1), some (.int y2), some (.int (y3 + 1)), some (.int o911), some (.int o912)], [])) (h' := (107, I, J, mm_rf rv sp rr w nw)) 2 rfl ?_
          refine mm_T.mask [true, true, true, true, false, false] ?_
          exact ih y1 y2 (y3 + 1) I J rv sp rr w nw out e k
    · rw [if_neg h908] at e
      cases e
      refine mm_T.mask [true, true, true, false, false, false] ?_
      exact k
set_option maxRecDepth 100000 in
set_option maxHeartbeats 4000000 in
theorem tlX12_goBoth_L23 (d : Nat) (Q : Option Value → mm_H → Prop) : ∀ (n : Nat) (y1 : Int32) (y2 : Int32) (I : Nat → Nat → Int32) (J : Nat → Nat → Int64) (rv sp rr w nw : Nat), ∀ (out : (Nat → Nat → Int32)), fX12_goBoth_L23 n y1 y2 I = some out → mm_T none (d + 2) 299 (130, [some (.ref 62), none, none, none, none, none], []) (107, out, J, mm_rf rv sp rr w nw) Q → mm_T none (d + 2) 299 (23, [some (.ref 62), some (.int y1), some (.int y2), none, none, none], []) (107, I, J, mm_rf rv sp rr w nw) Q := by
  intro n
  induction n with
  | zero =>
    intro y1 y2 I J rv sp rr w nw out e k
    rw [fX12_goBoth_L23] at e; cases e
  | succ n ih =>
    intro y1 y2 I J rv sp rr w nw out e k
    rw [fX12_goBoth_L23] at e
    refine mm_T.seg (f' := (26, [some (.ref 62), some (.int y1), some (.int y2), none, none, none], [(.int 64), (.int y2)])) (h' := (107, I, J, mm_rf rv sp rr w nw)) 2 rfl ?_
    refine mm_T.br (c := y2 < 64) (a := ((29, [some (.ref 62), some (.int y1), some (.int y2), none, none, none], []), (107, I, J, mm_rf rv sp rr w nw))) (b := ((130, [some (.ref 62), some (.int y1), some (.int y2), none, none, none], []), (107, I, J, mm_rf rv sp rr w nw))) rfl (fun h907 => ?_) (fun h907 => ?_)
    · rw [if_pos h907] at e
      refine mm_T.seg (f' := (31, [some (.ref 62), some (.int y1), some (.int y2), some (.int 0), none, none], [])) (h' := (107, I, J, mm_rf rv sp rr w nw)) 2 rfl ?_
      refine mm_T.mask [true, true, true, true, false, false] ?_
      obtain ⟨o918, eo918, e⟩ := mm_bind e
      refine tlX12_goBoth_L31 d _ n y1 y2 0 I J rv sp rr w nw o918 eo918 ?_
      refine mm_T.seg (f' := (23, [some (.ref 62), some (.int y1), some (.int (y2 + 1)), none, none, none], [])) (h' := (107, o918, J, mm_rf rv sp rr w nw)) 2 rfl ?_
      refine mm_T.mask [true, true, true, false, false, false] ?_
      exact ih y1 (y2 + 1) o918 J rv sp rr w nw out e k
    · rw [if_neg h907] at e
      cases e
      refine mm_T.mask [true, false, false, false, false, false] ?_
      exact k
set_option maxRecDepth 100000 in
set_option maxHeartbeats 4000000 in
theorem tlX12_goBoth_L132 (d : Nat) (Q : Option Value → mm_H → Prop) : ∀ (n : Nat) (y2 : Int32) (I : Nat → Nat → Int32) (J : Nat → Nat → Int64) (rv sp rr w nw : Nat), ∀ (out : (Nat → Nat → Int32)), fX12_goBoth_L132 n y2 I = some out → mm_T none (d + 2) 299 (156, [none, none, none, none, none, none], []) (107, out, J, mm_rf rv sp rr w nw) Q → mm_T none (d + 2) 299 (132, [some (.ref 62), none, some (.int y2), none, none, none], []) (107, I, J, mm_rf rv sp rr w nw) Q := by
  intro n
  induction n with
  | zero =>
    intro y2 I J rv sp rr w nw out e k
    rw [fX12_goBoth_L132] at e; cases e
  | succ n ih =>
    intro y2 I J rv sp rr w nw out e k
    rw [fX12_goBoth_L132] at e
    refine mm_T.seg (f' := (135, [some (.ref 62), none, some (.int y2), none, none, none], [(.int 64), (.int y2)])) (h' := (107, I, J, mm_rf rv sp rr w nw)) 2 rfl ?_
    refine mm_T.br (c := y2 < 64) (a := ((138, [some (.ref 62), none, some (.int y2), none, none, none], []), (107, I, J, mm_rf rv sp rr w nw))) (b := ((156, [some (.ref 62), none, some (.int y2), none, none, none], []), (107, I, J, mm_rf rv sp rr w nw))) rfl (fun h920 => ?_) (fun h920 => ?_)
    · rw [if_pos h920] at e
      refine mm_T.seg (f' := (142, [some (.ref 62), none, some (.int y2), none, none, none], [(.ref 92)])) (h' := (107, I, J, mm_rf rv sp rr w nw)) 2 rfl ?_
      refine mm_T.seg (f' := (147, [some (.ref 62), none, some (.int y2), none, none, none], [(.ref 93), (.int y2), (.ref 92)])) (h' := (107, I, J, mm_rf rv sp rr w nw)) 3 rfl ?_
      refine mm_T.seg (f' := (148, [some (.ref 62), none, some (.int y2), none, none, none], [(.int y2), (.ref 93), (.int y2), (.ref 92)])) (h' := (107, I, J, mm_rf rv sp rr w nw)) 1 rfl ?_
      by_cases h921 : y2 < 0 ∨ 64 ≤ y2.toNatClampNeg
      · rw [if_pos h921] at e; cases e
      rw [if_neg h921] at e
      refine mm_T.guard (y := ((149, [some (.ref 62), none, some (.int y2), none, none, none], [(.int (I 93 y2.toNatClampNeg)), (.int y2), (.ref 92)]), (107, I, J, mm_rf rv sp rr w nw))) rfl h921 ?_
      by_cases h922 : y2 < 0 ∨ 64 ≤ y2.toNatClampNeg
      · rw [if_pos h922] at e; cases e
      rw [if_neg h922] at e
      refine mm_T.guard (y := ((150, [some (.ref 62), none, some (.int y2), none, none, none], []), (107, (mm_up I 92 y2.toNatClampNeg (vp_nar .boolean (I 93 y2.toNatClampNeg))), J, mm_rf rv sp rr w nw))) rfl h922 ?_
      refine mm_T.seg (f' := (132, [some (.ref 62), none, some (.int (y2 + 1)), none, none, none], [])) (h' := (107, (mm_up I 92 y2.toNatClampNeg (vp_nar .boolean (I 93 y2.toNatClampNeg))), J, mm_rf rv sp rr w nw)) 2 rfl ?_
      refine mm_T.mask [true, false, true, false, false, false] ?_
      exact ih (y2 + 1) (mm_up I 92 y2.toNatClampNeg (vp_nar .boolean (I 93 y2.toNatClampNeg))) J rv sp rr w nw out e k
    · rw [if_neg h920] at e
      cases e
      refine mm_T.mask [false, false, false, false, false, false] ?_
      exact k
set_option maxRecDepth 100000 in
set_option maxHeartbeats 4000000 in
theorem tX12_goBoth (d n : Nat) (x1 : Int32) (I : Nat → Nat → Int32) (J : Nat → Nat → Int64) (rv sp rr w nw : Nat) (out : (Nat → Nat → Int32)) (e : fX12_goBoth n x1 I = some out) : mm_T none (d + 2) 299 (mm_ent 299 [(.ref 62), (.int x1)]) (107, I, J, mm_rf rv sp rr w nw) (fun v h => v = none ∧ h = (107, out, J, mm_rf rv sp rr w nw)) := by
  unfold fX12_goBoth at e
  refine mm_T.seg (f' := (2, [some (.ref 62), some (.int x1), some (.int 0), none, none, none], [])) (h' := (107, I, J, mm_rf rv sp rr w nw)) 2 rfl ?_
  refine mm_T.mask [true, true, true, false, false, false] ?_
  obtain ⟨o906, eo906, e⟩ := mm_bind e
  refine tlX12_goBoth_L2 d _ n x1 0 I J rv sp rr w nw o906 eo906 ?_
  refine mm_T.seg (f' := (23, [some (.ref 62), some (.int x1), some (.int 0), none, none, none], [])) (h' := (107, o906, J, mm_rf rv sp rr w nw)) 2 rfl ?_
  refine mm_T.mask [true, true, true, false, false, false] ?_
  obtain ⟨o919, eo919, e⟩ := mm_bind e
  refine tlX12_goBoth_L23 d _ n x1 0 o906 J rv sp rr w nw o919 eo919 ?_
  refine mm_T.seg (f' := (132, [some (.ref 62), none, some (.int 0), none, none, none], [])) (h' := (107, o919, J, mm_rf rv sp rr w nw)) 2 rfl ?_
  refine mm_T.mask [true, false, true, false, false, false] ?_
  obtain ⟨o923, eo923, e⟩ := mm_bind e
  refine tlX12_goBoth_L132 d _ n 0 o919 J rv sp rr w nw o923 eo923 ?_
  cases e
  exact mm_T.ret rfl ⟨rfl, rfl⟩
set_option maxRecDepth 100000 in
set_option maxHeartbeats 4000000 in
theorem tlX12_meet_L44 (d : Nat) (Q : Option Value → mm_H → Prop) : ∀ (n : Nat) (y1 : Int32) (y2 : Int32) (y3 : Int32) (I : Nat → Nat → Int32) (J : Nat → Nat → Int64) (rv sp rr w nw : Nat), ∀ (out : (Nat → Nat → Int32)), fX12_meet_L44 n y1 y2 y3 I = some out → mm_T none (d + 3) 300 (87, [some (.ref 62), some (.int y1), none, none], []) (107, out, J, mm_rf rv sp rr w nw) Q → mm_T none (d + 3) 300 (44, [some (.ref 62), some (.int y1), some (.int y2), some (.int y3)], []) (107, I, J, mm_rf rv sp rr w nw) Q := by
  intro n
  induction n with
  | zero =>
    intro y1 y2 y3 I J rv sp rr w nw out e k
    rw [fX12_meet_L44] at e; cases e
  | succ n ih =>
    intro y1 y2 y3 I J rv sp rr w nw out e k
    rw [fX12_meet_L44] at e
    refine mm_T.seg (f' := (47, [some (.ref 62), some (.int y1), some (.int y2), some (.int y3)], [(.int 64), (.int y3)])) (h' := (107, I, J, mm_rf rv sp rr w nw)) 2 rfl ?_
    refine mm_T.br (c := y3 < 64) (a := ((50, [some (.ref 62), some (.int y1), some (.int y2), some (.int y3)], []), (107, I, J, mm_rf rv sp rr w nw))) (b := ((87, [some (.ref 62), some (.int y1), some (.int y2), some (.int y3)], []), (107, I, J, mm_rf rv sp rr w nw))) rfl (fun h932 => ?_) (fun h932 => ?_)
    · rw [if_pos h932] at e
      refine mm_T.seg (f' := (54, [some (.ref 62), some (.int y1), some (.int y2), some (.int y3)], [(.ref 92)])) (h' := (107, I, J, mm_rf rv sp rr w nw)) 2 rfl ?_
      refine mm_T.seg (f' := (62, [some (.ref 62), some (.int y1), some (.int y2), some (.int y3)], [(.ref 84), (.int 8), (.int y3), (.int y3), (.ref 92)])) (h' := (107, I, J, mm_rf rv sp rr w nw)) 5 rfl ?_
      refine mm_T.seg (f' := (63, [some (.ref 62), some (.int y1), some (.int y2), some (.int y3)], [(.int y1), (.ref 84), (.int 8), (.int y3), (.int y3), (.ref 92)])) (h' := (107, I, J, mm_rf rv sp rr w nw)) 1 rfl ?_
      by_cases h933 : y1 < 0 ∨ 28 ≤ y1.toNatClampNeg
      · rw [if_pos h933] at e; cases e
      rw [if_neg h933] at e
      refine mm_T.guard (y := ((64, [some (.ref 62), some (.int y1), some (.int y2), some (.int y3)], [(.int (I 84 y1.toNatClampNeg)), (.int 8), (.int y3), (.int y3), (.ref 92)]), (107, I, J, mm_rf rv sp rr w nw))) rfl h933 ?_
      refine mm_T.seg (f' := (69, [some (.ref 62), some (.int y1), some (.int y2), some (.int y3)], [(.ref 84), (.int (8 * (I 84 y1.toNatClampNeg))), (.int y3), (.int y3), (.ref 92)])) (h' := (107, I, J, mm_rf rv sp rr w nw)) 3 rfl ?_
      refine mm_T.seg (f' := (70, [some (.ref 62), some (.int y1), some (.int y2), some (.int y3)], [(.int y2), (.ref 84), (.int (8 * (I 84 y1.toNatClampNeg))), (.int y3), (.int y3), (.ref 92)])) (h' := (107, I, J, mm_rf rv sp rr w nw)) 1 rfl ?_
      by_cases h934 : y2 < 0 ∨ 28 ≤ y2.toNatClampNeg
      · rw [if_pos h934] at e; cases e
      rw [if_neg h934] at e
      refine mm_T.guard (y := ((71, [some (.ref 62), some (.int y1), some (.int y2), some (.int y3)], [(.int (I 84 y2.toNatClampNeg)), (.int (8 * (I 84 y1.toNatClampNeg))), (.int y3), (.int y3), (.ref 92)]), (107, I, J, mm_rf rv sp rr w nw))) rfl h934 ?_
      refine mm_T.seg (f' := (72, [some (.ref 62), some (.int y1), some (.int y2), some (.int y3)], [(.int ((8 * (I 84 y1.toNatClampNeg)) + (I 84 y2.toNatClampNeg))), (.int y3), (.int y3), (.ref 92)])) (h' := (107, I, J, mm_rf rv sp rr w nw)) 1 rfl ?_
      refine mm_T.br (c := y3 = ((8 * (I 84 y1.toNatClampNeg)) + (I 84 y2.toNatClampNeg))) (a := ((75, [some (.ref 62), some (.int y1), some (.int y2), some (.int y3)], [(.int y3), (.ref 92)]), (107, I, J, mm_rf rv sp rr w nw))) (b := ((79, [some (.ref 62), some (.int y1), some (.int y2), some (.int y3)], [(.int y3), (.ref 92)]), (107, I, J, mm_rf rv sp rr w nw))) rfl (fun h935 => ?_) (fun h935 => ?_)
      · rw [if_pos h935] at e
        refine mm_T.seg (f' := (80, [some (.ref 62), some (.int y1), some (.int y2), some (.int y3)], [(.int 1), (.int y3), (.ref 92)])) (h' := (107, I, J, mm_rf rv sp rr w nw)) 2 rfl ?_
        by_cases h936 : y3 < 0 ∨ 64 ≤ y3.toNatClampNeg
        · rw [if_pos h936] at e; cases e
        rw [if_neg h936] at e
        refine mm_T.guard (y := ((81, [some (.ref 62), some (.int y1), some (.int y2), some (.int y3)], []), (107, (mm_up I 92 y3.toNatClampNeg (vp_nar .boolean 1)), J, mm_rf rv sp rr w nw))) rfl h936 ?_
        refine mm_T.seg (f' := (44, [some (.ref 62), some (.int y1), some (.int y2), some (.int (y3 + 1))], [])) (h' := (107, (mm_up I 92 y3.toNatClampNeg (vp_nar .boolean 1)), J, mm_rf rv sp rr w nw)) 2 rfl ?_
        refine mm_T.mask [true, true, true, true] ?_
        exact ih y1 y2 (y3 + 1) (mm_up I 92 y3.toNatClampNeg (vp_nar .boolean 1)) J rv sp rr w nw out e k
      · rw [if_neg h935] at e
        refine mm_T.seg (f' := (80, [some (.ref 62), some (.int y1), some (.int y2), some (.int y3)], [(.int 0), (.int y3), (.ref 92)])) (h' := (107, I, J, mm_rf rv sp rr w nw)) 1 rfl ?_
        by_cases h937 : y3 < 0 ∨ 64 ≤ y3.toNatClampNeg
        · rw [if_pos h937] at e; cases e
        rw [if_neg h937] at e
        refine mm_T.guard (y := ((81, [some (.ref 62), some (.int y1), some (.int y2), some (.int y3)], []), (107, (mm_up I 92 y3.toNatClampNeg (vp_nar .boolean 0)), J, mm_rf rv sp rr w nw))) rfl h937 ?_
        refine mm_T.seg (f' := (44, [some (.ref 62), some (.int y1), some (.int y2), some (.int (y3 + 1))], [])) (h' := (107, (mm_up I 92 y3.toNatClampNeg (vp_nar .boolean 0)), J, mm_rf rv sp rr w nw)) 2 rfl ?_
        refine mm_T.mask [true, true, true, true] ?_
        exact ih y1 y2 (y3 + 1) (mm_up I 92 y3.toNatClampNeg (vp_nar .boolean 0)) J rv sp rr w nw out e k
    · rw [if_neg h932] at e
      cases e
      refine mm_T.mask [true, true, false, false] ?_
      exact k
set_option maxRecDepth 100000 in
set_option maxHeartbeats 4000000 in
theorem tlX12_meet_L89 (d : Nat) (Q : Option Value → mm_H → Prop) : ∀ (n : Nat) (y1 : Int32) (y3 : Int32) (I : Nat → Nat → Int32) (J : Nat → Nat → Int64) (rv sp rr w nw : Nat), ∀ (out : (Int32 ⊕ (Unit)) × (Nat → Nat → Int32)), fX12_meet_L89 n y1 y3 I = some out → (∀ (r : Int32) (s0 : Nat → Nat → Int32), out = (.inl r, s0) → Q (some (.int r)) (107, s0, J, mm_rf rv sp rr w nw)) → (∀ (y : Unit) (s0 : Nat → Nat → Int32), out = (.inr y, s0) → mm_T none (d + 3) 300 (136, [none, none, none, none], []) (107, s0, J, mm_rf rv sp rr w nw) Q) → mm_T none (d + 3) 300 (89, [some (.ref 62), some (.int y1), none, some (.int y3)], []) (107, I, J, mm_rf rv sp rr w nw) Q := by
  intro n
  induction n with
  | zero =>
    intro y1 y3 I J rv sp rr w nw out e kr ke
    rw [fX12_meet_L89] at e; cases e
  | succ n ih =>
    intro y1 y3 I J rv sp rr w nw out e kr ke
    rw [fX12_meet_L89] at e
    refine mm_T.seg (f' := (92, [some (.ref 62), some (.int y1), none, some (.int y3)], [(.int y1), (.ref 62), (.int y3)])) (h' := (107, I, J, mm_rf rv sp rr w nw)) 3 rfl ?_
    obtain ⟨o939, eo939, e⟩ := mm_bind e
    refine mm_T.call (t := 278) (as := [(.ref 62), (.int y1)]) (f' := (95, [some (.ref 62), some (.int y1), none, some (.int y3)], [(.int y3)])) rfl (tX12_leftOf (d + 2) y1 I J rv sp rr w nw o939 eo939) (fun v h hq => ?_)
    obtain ⟨rfl, rfl⟩ := hq
    refine mm_T.br (c := o939 < y3) (a := ((136, [some (.ref 62), some (.int y1), none, some (.int y3)], []), (107, I, J, mm_rf rv sp rr w nw))) (b := ((98, [some (.ref 62), some (.int y1), none, some (.int y3)], []), (107, I, J, mm_rf rv sp rr w nw))) rfl (fun h940 => ?_) (fun h940 => ?_)
    · rw [if_pos h940] at e
      cases e
      refine mm_T.mask [false, false, false, false] ?_
      exact ke _ _ rfl
    · rw [if_neg h940] at e
      refine mm_T.seg (f' := (99, [some (.ref 62), some (.int y1), none, some (.int y3)], [(.ref 62)])) (h' := (107, I, J, mm_rf rv sp rr w nw)) 1 rfl ?_
      obtain ⟨o941, eo941, e⟩ := mm_bind e
      refine mm_T.call (t := 298) (as := [(.ref 62)]) (f' := (102, [some (.ref 62), some (.int y1), none, some (.int y3)], [])) rfl (tX12_areBeside (d + 1) n I J rv sp rr w nw o941 eo941) (fun v h hq => ?_)
      obtain ⟨rfl, rfl⟩ := hq
      refine mm_T.br (c := o941 = 0) (a := ((107, [some (.ref 62), some (.int y1), none, some (.int y3)], []), (107, I, J, mm_rf rv sp rr w nw))) (b := ((105, [some (.ref 62), some (.int y1), none, some (.int y3)], []), (107, I, J, mm_rf rv sp rr w nw))) rfl (fun h942 => ?_) (fun h942 => ?_)
      · rw [if_pos h942] at e
        refine mm_T.seg (f' := (110, [some (.ref 62), some (.int y1), none, some (.int y3)], [(.int y1), (.ref 62), (.int y3)])) (h' := (107, I, J, mm_rf rv sp rr w nw)) 3 rfl ?_
        obtain ⟨o943, eo943, e⟩ := mm_bind e
        refine mm_T.call (t := 278) (as := [(.ref 62), (.int y1)]) (f' := (113, [some (.ref 62), some (.int y1), none, some (.int y3)], [(.int y3)])) rfl (tX12_leftOf (d + 2) y1 I J rv sp rr w nw o943 eo943) (fun v h hq => ?_)
        obtain ⟨rfl, rfl⟩ := hq
        refine mm_T.br (c := y3 < o943) (a := ((116, [some (.ref 62), some (.int y1), none, some (.int y3)], []), (107, I, J, mm_rf rv sp rr w nw))) (b := ((130, [some (.ref 62), some (.int y1), none, some (.int y3)], []), (107, I, J, mm_rf rv sp rr w nw))) rfl (fun h944 => ?_) (fun h944 => ?_)
        · rw [if_pos h944] at e
          refine mm_T.seg (f' := (121, [some (.ref 62), some (.int y1), none, some (.int y3)], [(.ref 84), (.ref 62)])) (h' := (107, I, J, mm_rf rv sp rr w nw)) 3 rfl ?_
          refine mm_T.seg (f' := (124, [some (.ref 62), some (.int y1), none, some (.int y3)], [(.int (4 + y1)), (.ref 84), (.ref 62)])) (h' := (107, I, J, mm_rf rv sp rr w nw)) 3 rfl ?_
          by_cases h945 : (4 + y1) < 0 ∨ 28 ≤ (4 + y1).toNatClampNeg
          · rw [if_pos h945] at e; cases e
          rw [if_neg h945] at e
          refine mm_T.guard (c := (4 + y1) < 0 ∨ 28 ≤ (4 + y1).toNatClampNeg) (y := ((125, [some (.ref 62), some (.int y1), none, some (.int y3)], [(.int (I 84 (4 + y1).toNatClampNeg)), (.ref 62)]), (107, I, J, mm_rf rv sp rr w nw))) (mm_gen (P := fun z => mm_stp none 300 (124, [some (.ref 62), some (.int y1), none, some (.int y3)], [(.int z), (.ref 84), (.ref 62)]) (107, I, J, mm_rf rv sp rr w nw) = if z < 0 ∨ 28 ≤ z.toNatClampNeg then none else some (.inl ((125, [some (.ref 62), some (.int y1), none, some (.int y3)], [(.int (I 84 z.toNatClampNeg)), (.ref 62)]), (107, I, J, mm_rf rv sp rr w nw)))) (4 + y1) (fun z => rfl)) h945 ?_
          refine mm_T.seg (f' := (127, [some (.ref 62), some (.int y1), none, some (.int y3)], [(.int ((I 84 (4 + y1).toNatClampNeg) + y3)), (.ref 62)])) (h' := (107, I, J, mm_rf rv sp rr w nw)) 2 rfl ?_
          obtain ⟨o946, eo946, e⟩ := mm_bind e
          refine mm_T.call (t := 299) (as := [(.ref 62), (.int ((I 84 (4 + y1).toNatClampNeg) + y3))]) (f' := (130, [some (.ref 62), some (.int y1), none, some (.int y3)], [])) rfl (tX12_goBoth (d + 0) n ((I 84 (4 + y1).toNatClampNeg) + y3) I J rv sp rr w nw o946 eo946) (fun v h hq => ?_)
          obtain ⟨rfl, rfl⟩ := hq
          refine mm_T.seg (f' := (89, [some (.ref 62), some (.int y1), none, some (.int (y3 + 1))], [])) (h' := (107, o946, J, mm_rf rv sp rr w nw)) 2 rfl ?_
          refine mm_T.mask [true, true, false, true] ?_
          exact ih y1 (y3 + 1) o946 J rv sp rr w nw out e kr ke
        · rw [if_neg h944] at e
          refine mm_T.seg (f' := (89, [some (.ref 62), some (.int y1), none, some (.int (y3 + 1))], [])) (h' := (107, I, J, mm_rf rv sp rr w nw)) 2 rfl ?_
          refine mm_T.mask [true, true, false, true] ?_
          exact ih y1 (y3 + 1) I J rv sp rr w nw out e kr ke
      · rw [if_neg h942] at e
        refine mm_T.seg (f' := (106, [some (.ref 62), some (.int y1), none, some (.int y3)], [(.int y3)])) (h' := (107, I, J, mm_rf rv sp rr w nw)) 1 rfl ?_
        cases e
        exact mm_T.ret rfl (kr _ _ rfl)
set_option maxRecDepth 100000 in
set_option maxHeartbeats 4000000 in
theorem tX12_meet (d n : Nat) (x1 : Int32) (x2 : Int32) (I : Nat → Nat → Int32) (J : Nat → Nat → Int64) (rv sp rr w nw : Nat) (out : Int32 × (Nat → Nat → Int32)) (e : fX12_meet n x1 x2 I = some out) : mm_T none (d + 3) 300 (mm_ent 300 [(.ref 62), (.int x1), (.int x2)]) (107, I, J, mm_rf rv sp rr w nw) (fun v h => v = some (.int out.1) ∧ h = (107, out.2, J, mm_rf rv sp rr w nw)) := by
  unfold fX12_meet at e
  refine mm_T.seg (f' := (2, [some (.ref 62), some (.int x1), some (.int x2), none], [(.int x1), (.ref 62)])) (h' := (107, I, J, mm_rf rv sp rr w nw)) 2 rfl ?_
  obtain ⟨o924, eo924, e⟩ := mm_bind e
  refine mm_T.call (t := 253) (as := [(.ref 62), (.int x1)]) (f' := (5, [some (.ref 62), some (.int x1), some (.int x2), none], [])) rfl (tX12_isBoard (d + 1) x1 I J rv sp rr w nw o924 eo924) (fun v h hq => ?_)
  obtain ⟨rfl, rfl⟩ := hq
  refine mm_T.br (c := o924 = 0) (a := ((40, [some (.ref 62), some (.int x1), some (.int x2), none], []), (107, I, J, mm_rf rv sp rr w nw))) (b := ((8, [some (.ref 62), some (.int x1), some (.int x2), none], []), (107, I, J, mm_rf rv sp rr w nw))) rfl (fun h925 => ?_) (fun h925 => ?_)
  · rw [if_pos h925] at e
    refine mm_T.seg (f' := (41, [some (.ref 62), some (.int x1), some (.int x2), none], [(.int (-1))])) (h' := (107, I, J, mm_rf rv sp rr w nw)) 1 rfl ?_
    cases e
    exact mm_T.ret rfl ⟨rfl, rfl⟩
  · rw [if_neg h925] at e
    refine mm_T.seg (f' := (10, [some (.ref 62), some (.int x1), some (.int x2), none], [(.int x2), (.ref 62)])) (h' := (107, I, J, mm_rf rv sp rr w nw)) 2 rfl ?_
    obtain ⟨o926, eo926, e⟩ := mm_bind e
    refine mm_T.call (t := 253) (as := [(.ref 62), (.int x2)]) (f' := (13, [some (.ref 62), some (.int x1), some (.int x2), none], [])) rfl (tX12_isBoard (d + 1) x2 I J rv sp rr w nw o926 eo926) (fun v h hq => ?_)
    obtain ⟨rfl, rfl⟩ := hq
    refine mm_T.br (c := o926 = 0) (a := ((40, [some (.ref 62), some (.int x1), some (.int x2), none], []), (107, I, J, mm_rf rv sp rr w nw))) (b := ((16, [some (.ref 62), some (.int x1), some (.int x2), none], []), (107, I, J, mm_rf rv sp rr w nw))) rfl (fun h927 => ?_) (fun h927 => ?_)
    · rw [if_pos h927] at e
      refine mm_T.seg (f' := (41, [some (.ref 62), some (.int x1), some (.int x2), none], [(.int (-1))])) (h' := (107, I, J, mm_rf rv sp rr w nw)) 1 rfl ?_
      cases e
      exact mm_T.ret rfl ⟨rfl, rfl⟩
    · rw [if_neg h927] at e
      refine mm_T.seg (f' := (18, [some (.ref 62), some (.int x1), some (.int x2), none], [(.int x2), (.int x1)])) (h' := (107, I, J, mm_rf rv sp rr w nw)) 2 rfl ?_
      refine mm_T.br (c := x1 = x2) (a := ((40, [some (.ref 62), some (.int x1), some (.int x2), none], []), (107, I, J, mm_rf rv sp rr w nw))) (b := ((21, [some (.ref 62), some (.int x1), some (.int x2), none], []), (107, I, J, mm_rf rv sp rr w nw))) rfl (fun h928 => ?_) (fun h928 => ?_)
      · rw [if_pos h928] at e
        refine mm_T.seg (f' := (41, [some (.ref 62), some (.int x1), some (.int x2), none], [(.int (-1))])) (h' := (107, I, J, mm_rf rv sp rr w nw)) 1 rfl ?_
        cases e
        exact mm_T.ret rfl ⟨rfl, rfl⟩
      · rw [if_neg h928] at e
        refine mm_T.seg (f' := (25, [some (.ref 62), some (.int x1), some (.int x2), none], [(.ref 84)])) (h' := (107, I, J, mm_rf rv sp rr w nw)) 2 rfl ?_
        refine mm_T.seg (f' := (28, [some (.ref 62), some (.int x1), some (.int x2), none], [(.int (4 + x1)), (.ref 84)])) (h' := (107, I, J, mm_rf rv sp rr w nw)) 3 rfl ?_
        by_cases h929 : (4 + x1) < 0 ∨ 28 ≤ (4 + x1).toNatClampNeg
        · rw [if_pos h929] at e; cases e
        rw [if_neg h929] at e
        refine mm_T.guard (c := (4 + x1) < 0 ∨ 28 ≤ (4 + x1).toNatClampNeg) (y := ((29, [some (.ref 62), some (.int x1), some (.int x2), none], [(.int (I 84 (4 + x1).toNatClampNeg))]), (107, I, J, mm_rf rv sp rr w nw))) (mm_gen (P := fun z => mm_stp none 300 (28, [some (.ref 62), some (.int x1), some (.int x2), none], [(.int z), (.ref 84)]) (107, I, J, mm_rf rv sp rr w nw) = if z < 0 ∨ 28 ≤ z.toNatClampNeg then none else some (.inl ((29, [some (.ref 62), some (.int x1), some (.int x2), none], [(.int (I 84 z.toNatClampNeg))]), (107, I, J, mm_rf rv sp rr w nw)))) (4 + x1) (fun z => rfl)) h929 ?_
        refine mm_T.seg (f' := (33, [some (.ref 62), some (.int x1), some (.int x2), none], [(.ref 84), (.int (I 84 (4 + x1).toNatClampNeg))])) (h' := (107, I, J, mm_rf rv sp rr w nw)) 2 rfl ?_
        refine mm_T.seg (f' := (36, [some (.ref 62), some (.int x1), some (.int x2), none], [(.int (4 + x2)), (.ref 84), (.int (I 84 (4 + x1).toNatClampNeg))])) (h' := (107, I, J, mm_rf rv sp rr w nw)) 3 rfl ?_
        by_cases h930 : (4 + x2) < 0 ∨ 28 ≤ (4 + x2).toNatClampNeg
        · rw [if_pos h930] at e; cases e
        rw [if_neg h930] at e
        refine mm_T.guard (c := (4 + x2) < 0 ∨ 28 ≤ (4 + x2).toNatClampNeg) (y := ((37, [some (.ref 62), some (.int x1), some (.int x2), none], [(.int (I 84 (4 + x2).toNatClampNeg)), (.int (I 84 (4 + x1).toNatClampNeg))]), (107, I, J, mm_rf rv sp rr w nw))) (mm_gen (P := fun z => mm_stp none 300 (36, [some (.ref 62), some (.int x1), some (.int x2), none], [(.int z), (.ref 84), (.int (I 84 (4 + x1).toNatClampNeg))]) (107, I, J, mm_rf rv sp rr w nw) = if z < 0 ∨ 28 ≤ z.toNatClampNeg then none else some (.inl ((37, [some (.ref 62), some (.int x1), some (.int x2), none], [(.int (I 84 z.toNatClampNeg)), (.int (I 84 (4 + x1).toNatClampNeg))]), (107, I, J, mm_rf rv sp rr w nw)))) (4 + x2) (fun z => rfl)) h930 ?_
        refine mm_T.br (c := (I 84 (4 + x1).toNatClampNeg) = (I 84 (4 + x2).toNatClampNeg)) (a := ((42, [some (.ref 62), some (.int x1), some (.int x2), none], []), (107, I, J, mm_rf rv sp rr w nw))) (b := ((40, [some (.ref 62), some (.int x1), some (.int x2), none], []), (107, I, J, mm_rf rv sp rr w nw))) rfl (fun h931 => ?_) (fun h931 => ?_)
        · rw [if_pos h931] at e
          refine mm_T.seg (f' := (44, [some (.ref 62), some (.int x1), some (.int x2), some (.int 0)], [])) (h' := (107, I, J, mm_rf rv sp rr w nw)) 2 rfl ?_
          refine mm_T.mask [true, true, true, true] ?_
          obtain ⟨o938, eo938, e⟩ := mm_bind e
          refine tlX12_meet_L44 d _ n x1 x2 0 I J rv sp rr w nw o938 eo938 ?_
          refine mm_T.seg (f' := (89, [some (.ref 62), some (.int x1), none, some (.int 0)], [])) (h' := (107, o938, J, mm_rf rv sp rr w nw)) 2 rfl ?_
          refine mm_T.mask [true, true, false, true] ?_
          obtain ⟨o947, eo947, e⟩ := mm_bind e
          rcases o947 with ⟨va948 | vb948, vs948_0⟩
          · cases e
            refine tlX12_meet_L89 d _ n x1 0 o938 J rv sp rr w nw _ eo947 (fun z z0 hz => ?_) (fun z z0 hz => ?_)
            · cases hz; exact ⟨rfl, rfl⟩
            · cases hz
          · refine tlX12_meet_L89 d _ n x1 0 o938 J rv sp rr w nw (.inr vb948, vs948_0) eo947 (fun z z0 hz => ?_) (fun z z0 hz => ?_)
            · cases hz
            · cases hz
              refine mm_T.seg (f' := (137, [none, none, none, none], [(.int (-1))])) (h' := (107, vs948_0, J, mm_rf rv sp rr w nw)) 1 rfl ?_
              cases e
              exact mm_T.ret rfl ⟨rfl, rfl⟩
        · rw [if_neg h931] at e
          refine mm_T.seg (f' := (41, [some (.ref 62), some (.int x1), some (.int x2), none], [(.int (-1))])) (h' := (107, I, J, mm_rf rv sp rr w nw)) 1 rfl ?_
          cases e
          exact mm_T.ret rfl ⟨rfl, rfl⟩
set_option maxRecDepth 100000 in
set_option maxHeartbeats 4000000 in
theorem tlX12_layMooring_L15 (d : Nat) (Q : Option Value → mm_H → Prop) : ∀ (n : Nat) (y2 : Int32) (y3 : Int32) (y4 : Int32) (y5 : Int32) (I : Nat → Nat → Int32) (J : Nat → Nat → Int64) (rv sp rr w nw : Nat), ∀ (out : (Int32 ⊕ (Int32)) × (Nat → Nat → Int32)), fX12_layMooring_L15 n y2 y3 y4 y5 I = some out → (∀ (r : Int32) (s0 : Nat → Nat → Int32), out = (.inl r, s0) → Q (some (.int r)) (107, s0, J, mm_rf rv sp rr w nw)) → (∀ (y : Int32) (s0 : Nat → Nat → Int32), out = (.inr y, s0) → mm_T none (d + 0) 301 (109, [none, none, none, none, some (.int y), none], []) (107, s0, J, mm_rf rv sp rr w nw) Q) → mm_T none (d + 0) 301 (15, [some (.ref 62), none, some (.int y2), some (.int y3), some (.int y4), some (.int y5)], []) (107, I, J, mm_rf rv sp rr w nw) Q := by
  intro n
  induction n with
  | zero =>
    intro y2 y3 y4 y5 I J rv sp rr w nw out e kr ke
    rw [fX12_layMooring_L15] at e; cases e
  | succ n ih =>
    intro y2 y3 y4 y5 I J rv sp rr w nw out e kr ke
    rw [fX12_layMooring_L15] at e
    refine mm_T.seg (f' := (17, [some (.ref 62), none, some (.int y2), some (.int y3), some (.int y4), some (.int y5)], [(.int y5)])) (h' := (107, I, J, mm_rf rv sp rr w nw)) 1 rfl ?_
    refine mm_T.br (c := y5 < 0) (a := ((109, [some (.ref 62), none, some (.int y2), some (.int y3), some (.int y4), some (.int y5)], []), (107, I, J, mm_rf rv sp rr w nw))) (b := ((20, [some (.ref 62), none, some (.int y2), some (.int y3), some (.int y4), some (.int y5)], []), (107, I, J, mm_rf rv sp rr w nw))) rfl (fun h949 => ?_) (fun h949 => ?_)
    · rw [if_pos h949] at e
      cases e
      refine mm_T.mask [false, false, false, false, true, false] ?_
      exact ke _ _ rfl
    · rw [if_neg h949] at e
      refine mm_T.seg (f' := (24, [some (.ref 62), none, some (.int y2), some (.int y3), some (.int y4), some (.int y5)], [(.ref 95)])) (h' := (107, I, J, mm_rf rv sp rr w nw)) 2 rfl ?_
      refine mm_T.seg (f' := (30, [some (.ref 62), none, some (.int y2), some (.int y3), some (.int y4), some (.int y5)], [(.int (y2 - y2 / 9 * 9)), (.int y5), (.ref 95)])) (h' := (107, I, J, mm_rf rv sp rr w nw)) 4 rfl ?_
      by_cases h950 : y5 < 0 ∨ 4 ≤ y5.toNatClampNeg
      · rw [if_pos h950] at e; cases e
      rw [if_neg h950] at e
      refine mm_T.guard (y := ((31, [some (.ref 62), none, some (.int y2), some (.int y3), some (.int y4), some (.int y5)], []), (107, (mm_up I 95 y5.toNatClampNeg (y2 - y2 / 9 * 9)), J, mm_rf rv sp rr w nw))) rfl h950 ?_
      refine mm_T.seg (f' := (40, [some (.ref 62), none, some (.int (y2 / 9)), some (.int y3), some (.int y4), some (.int y5)], [(.ref 95)])) (h' := (107, (mm_up I 95 y5.toNatClampNeg (y2 - y2 / 9 * 9)), J, mm_rf rv sp rr w nw)) 6 rfl ?_
      refine mm_T.seg (f' := (42, [some (.ref 62), none, some (.int (y2 / 9)), some (.int y3), some (.int y4), some (.int y5)], [(.int y5), (.ref 95)])) (h' := (107, (mm_up I 95 y5.toNatClampNeg (y2 - y2 / 9 * 9)), J, mm_rf rv sp rr w nw)) 1 rfl ?_
      by_cases h951 : y5 < 0 ∨ 4 ≤ y5.toNatClampNeg
      · rw [if_pos h951] at e; cases e
      rw [if_neg h951] at e
      refine mm_T.guard (y := ((43, [some (.ref 62), none, some (.int (y2 / 9)), some (.int y3), some (.int y4), some (.int y5)], [(.int ((mm_up I 95 y5.toNatClampNeg (y2 - y2 / 9 * 9)) 95 y5.toNatClampNeg))]), (107, (mm_up I 95 y5.toNatClampNeg (y2 - y2 / 9 * 9)), J, mm_rf rv sp rr w nw))) rfl h951 ?_
      refine mm_T.seg (f' := (45, [some (.ref 62), none, some (.int (y2 / 9)), some (.int y3), some (.int y4), some (.int y5)], [(.int 8), (.int ((mm_up I 95 y5.toNatClampNeg (y2 - y2 / 9 * 9)) 95 y5.toNatClampNeg))])) (h' := (107, (mm_up I 95 y5.toNatClampNeg (y2 - y2 / 9 * 9)), J, mm_rf rv sp rr w nw)) 1 rfl ?_
      refine mm_T.br (c := ((mm_up I 95 y5.toNatClampNeg (y2 - y2 / 9 * 9)) 95 y5.toNatClampNeg) = 8) (a := ((48, [some (.ref 62), none, some (.int (y2 / 9)), some (.int y3), some (.int y4), some (.int y5)], []), (107, (mm_up I 95 y5.toNatClampNeg (y2 - y2 / 9 * 9)), J, mm_rf rv sp rr w nw))) (b := ((51, [some (.ref 62), none, some (.int (y2 / 9)), some (.int y3), some (.int y4), some (.int y5)], []), (107, (mm_up I 95 y5.toNatClampNeg (y2 - y2 / 9 * 9)), J, mm_rf rv sp rr w nw))) rfl (fun h952 => ?_) (fun h952 => ?_)
      · rw [if_pos h952] at e
        refine mm_T.seg (f' := (15, [some (.ref 62), none, some (.int (y2 / 9)), some (.int y3), some (.int y4), some (.int (y5 + (-1)))], [])) (h' := (107, (mm_up I 95 y5.toNatClampNeg (y2 - y2 / 9 * 9)), J, mm_rf rv sp rr w nw)) 3 rfl ?_
        refine mm_T.mask [true, false, true, true, true, true] ?_
        exact ih (y2 / 9) y3 y4 (y5 + (-1)) (mm_up I 95 y5.toNatClampNeg (y2 - y2 / 9 * 9)) J rv sp rr w nw out e kr ke
      · rw [if_neg h952] at e
        refine mm_T.seg (f' := (55, [some (.ref 62), none, some (.int (y2 / 9)), some (.int y3), some (.int y4), some (.int y5)], [(.ref 94)])) (h' := (107, (mm_up I 95 y5.toNatClampNeg (y2 - y2 / 9 * 9)), J, mm_rf rv sp rr w nw)) 2 rfl ?_
        refine mm_T.seg (f' := (57, [some (.ref 62), none, some (.int (y2 / 9)), some (.int y3), some (.int y4), some (.int y5)], [(.int y5), (.ref 94)])) (h' := (107, (mm_up I 95 y5.toNatClampNeg (y2 - y2 / 9 * 9)), J, mm_rf rv sp rr w nw)) 1 rfl ?_
        by_cases h953 : y5 < 0 ∨ 4 ≤ y5.toNatClampNeg
        · rw [if_pos h953] at e; cases e
        rw [if_neg h953] at e
        refine mm_T.guard (y := ((58, [some (.ref 62), none, some (.int (y2 / 9)), some (.int y3), some (.int y4), some (.int y5)], [(.int (I 94 y5.toNatClampNeg))]), (107, (mm_up I 95 y5.toNatClampNeg (y2 - y2 / 9 * 9)), J, mm_rf rv sp rr w nw))) rfl h953 ?_
        refine mm_T.seg (f' := (62, [some (.ref 62), none, some (.int (y2 / 9)), some (.int y3), some (.int y4), some (.int y5)], [(.ref 95), (.int (I 94 y5.toNatClampNeg))])) (h' := (107, (mm_up I 95 y5.toNatClampNeg (y2 - y2 / 9 * 9)), J, mm_rf rv sp rr w nw)) 2 rfl ?_
        refine mm_T.seg (f' := (64, [some (.ref 62), none, some (.int (y2 / 9)), some (.int y3), some (.int y4), some (.int y5)], [(.int y5), (.ref 95), (.int (I 94 y5.toNatClampNeg))])) (h' := (107, (mm_up I 95 y5.toNatClampNeg (y2 - y2 / 9 * 9)), J, mm_rf rv sp rr w nw)) 1 rfl ?_
        by_cases h954 : y5 < 0 ∨ 4 ≤ y5.toNatClampNeg
        · rw [if_pos h954] at e; cases e
        rw [if_neg h954] at e
        refine mm_T.guard (y := ((65, [some (.ref 62), none, some (.int (y2 / 9)), some (.int y3), some (.int y4), some (.int y5)], [(.int ((mm_up I 95 y5.toNatClampNeg (y2 - y2 / 9 * 9)) 95 y5.toNatClampNeg)), (.int (I 94 y5.toNatClampNeg))]), (107, (mm_up I 95 y5.toNatClampNeg (y2 - y2 / 9 * 9)), J, mm_rf rv sp rr w nw))) rfl h954 ?_
        refine mm_T.seg (f' := (68, [some (.ref 62), none, some (.int (y2 / 9)), some (.int y3), some (.int y4), some (.int y5)], [(.int (((I 94 y5.toNatClampNeg) >>> (((mm_up I 95 y5.toNatClampNeg (y2 - y2 / 9 * 9)) 95 y5.toNatClampNeg) &&& 31)) &&& 1))])) (h' := (107, (mm_up I 95 y5.toNatClampNeg (y2 - y2 / 9 * 9)), J, mm_rf rv sp rr w nw)) 3 rfl ?_
        refine mm_T.br (c := (((I 94 y5.toNatClampNeg) >>> (((mm_up I 95 y5.toNatClampNeg (y2 - y2 / 9 * 9)) 95 y5.toNatClampNeg) &&& 31)) &&& 1) = 0) (a := ((86, [some (.ref 62), none, some (.int (y2 / 9)), some (.int y3), some (.int y4), some (.int y5)], []), (107, (mm_up I 95 y5.toNatClampNeg (y2 - y2 / 9 * 9)), J, mm_rf rv sp rr w nw))) (b := ((71, [some (.ref 62), none, some (.int (y2 / 9)), some (.int y3), some (.int y4), some (.int y5)], []), (107, (mm_up I 95 y5.toNatClampNeg (y2 - y2 / 9 * 9)), J, mm_rf rv sp rr w nw))) rfl (fun h955 => ?_) (fun h955 => ?_)
        · rw [if_pos h955] at e
          refine mm_T.seg (f' := (87, [some (.ref 62), none, some (.int (y2 / 9)), some (.int y3), some (.int y4), some (.int y5)], [(.int (-1))])) (h' := (107, (mm_up I 95 y5.toNatClampNeg (y2 - y2 / 9 * 9)), J, mm_rf rv sp rr w nw)) 1 rfl ?_
          cases e
          exact mm_T.ret rfl (kr _ _ rfl)
        · rw [if_neg h955] at e
          refine mm_T.seg (f' := (76, [some (.ref 62), none, some (.int (y2 / 9)), some (.int y3), some (.int y4), some (.int y5)], [(.ref 95), (.int y3)])) (h' := (107, (mm_up I 95 y5.toNatClampNeg (y2 - y2 / 9 * 9)), J, mm_rf rv sp rr w nw)) 3 rfl ?_
          refine mm_T.seg (f' := (78, [some (.ref 62), none, some (.int (y2 / 9)), some (.int y3), some (.int y4), some (.int y5)], [(.int y5), (.ref 95), (.int y3)])) (h' := (107, (mm_up I 95 y5.toNatClampNeg (y2 - y2 / 9 * 9)), J, mm_rf rv sp rr w nw)) 1 rfl ?_
          by_cases h956 : y5 < 0 ∨ 4 ≤ y5.toNatClampNeg
          · rw [if_pos h956] at e; cases e
          rw [if_neg h956] at e
          refine mm_T.guard (y := ((79, [some (.ref 62), none, some (.int (y2 / 9)), some (.int y3), some (.int y4), some (.int y5)], [(.int ((mm_up I 95 y5.toNatClampNeg (y2 - y2 / 9 * 9)) 95 y5.toNatClampNeg)), (.int y3)]), (107, (mm_up I 95 y5.toNatClampNeg (y2 - y2 / 9 * 9)), J, mm_rf rv sp rr w nw))) rfl h956 ?_
          refine mm_T.seg (f' := (83, [some (.ref 62), none, some (.int (y2 / 9)), some (.int y3), some (.int y4), some (.int y5)], [(.int 1), (.int ((y3 >>> (((mm_up I 95 y5.toNatClampNeg (y2 - y2 / 9 * 9)) 95 y5.toNatClampNeg) &&& 31)) &&& 1))])) (h' := (107, (mm_up I 95 y5.toNatClampNeg (y2 - y2 / 9 * 9)), J, mm_rf rv sp rr w nw)) 4 rfl ?_
          refine mm_T.br (c := ((y3 >>> (((mm_up I 95 y5.toNatClampNeg (y2 - y2 / 9 * 9)) 95 y5.toNatClampNeg) &&& 31)) &&& 1) = 1) (a := ((86, [some (.ref 62), none, some (.int (y2 / 9)), some (.int y3), some (.int y4), some (.int y5)], []), (107, (mm_up I 95 y5.toNatClampNeg (y2 - y2 / 9 * 9)), J, mm_rf rv sp rr w nw))) (b := ((88, [some (.ref 62), none, some (.int (y2 / 9)), some (.int y3), some (.int y4), some (.int y5)], []), (107, (mm_up I 95 y5.toNatClampNeg (y2 - y2 / 9 * 9)), J, mm_rf rv sp rr w nw))) rfl (fun h957 => ?_) (fun h957 => ?_)
          · rw [if_pos h957] at e
            refine mm_T.seg (f' := (87, [some (.ref 62), none, some (.int (y2 / 9)), some (.int y3), some (.int y4), some (.int y5)], [(.int (-1))])) (h' := (107, (mm_up I 95 y5.toNatClampNeg (y2 - y2 / 9 * 9)), J, mm_rf rv sp rr w nw)) 1 rfl ?_
            cases e
            exact mm_T.ret rfl (kr _ _ rfl)
          · rw [if_neg h957] at e
            refine mm_T.seg (f' := (94, [some (.ref 62), none, some (.int (y2 / 9)), some (.int y3), some (.int y4), some (.int y5)], [(.ref 95), (.int 1), (.int y3)])) (h' := (107, (mm_up I 95 y5.toNatClampNeg (y2 - y2 / 9 * 9)), J, mm_rf rv sp rr w nw)) 4 rfl ?_
            refine mm_T.seg (f' := (96, [some (.ref 62), none, some (.int (y2 / 9)), some (.int y3), some (.int y4), some (.int y5)], [(.int y5), (.ref 95), (.int 1), (.int y3)])) (h' := (107, (mm_up I 95 y5.toNatClampNeg (y2 - y2 / 9 * 9)), J, mm_rf rv sp rr w nw)) 1 rfl ?_
            by_cases h958 : y5 < 0 ∨ 4 ≤ y5.toNatClampNeg
            · rw [if_pos h958] at e; cases e
            rw [if_neg h958] at e
            refine mm_T.guard (y := ((97, [some (.ref 62), none, some (.int (y2 / 9)), some (.int y3), some (.int y4), some (.int y5)], [(.int ((mm_up I 95 y5.toNatClampNeg (y2 - y2 / 9 * 9)) 95 y5.toNatClampNeg)), (.int 1), (.int y3)]), (107, (mm_up I 95 y5.toNatClampNeg (y2 - y2 / 9 * 9)), J, mm_rf rv sp rr w nw))) rfl h958 ?_
            refine mm_T.seg (f' := (15, [some (.ref 62), none, some (.int (y2 / 9)), some (.int (y3 ||| ((1 : Int32) <<< (((mm_up I 95 y5.toNatClampNeg (y2 - y2 / 9 * 9)) 95 y5.toNatClampNeg) &&& 31)))), some (.int (y4 + 1)), some (.int (y5 + (-1)))], [])) (h' := (107, (mm_up I 95 y5.toNatClampNeg (y2 - y2 / 9 * 9)), J, mm_rf rv sp rr w nw)) 6 rfl ?_
            refine mm_T.mask [true, false, true, true, true, true] ?_
            exact ih (y2 / 9) (y3 ||| ((1 : Int32) <<< (((mm_up I 95 y5.toNatClampNeg (y2 - y2 / 9 * 9)) 95 y5.toNatClampNeg) &&& 31))) (y4 + 1) (y5 + (-1)) (mm_up I 95 y5.toNatClampNeg (y2 - y2 / 9 * 9)) J rv sp rr w nw out e kr ke
set_option maxRecDepth 100000 in
set_option maxHeartbeats 4000000 in
theorem tX12_layMooring (d n : Nat) (x1 : Int32) (I : Nat → Nat → Int32) (J : Nat → Nat → Int64) (rv sp rr w nw : Nat) (out : Int32 × (Nat → Nat → Int32)) (e : fX12_layMooring n x1 I = some out) : mm_T none (d + 0) 301 (mm_ent 301 [(.ref 62), (.int x1)]) (107, I, J, mm_rf rv sp rr w nw) (fun v h => v = some (.int out.1) ∧ h = (107, out.2, J, mm_rf rv sp rr w nw)) := by
  unfold fX12_layMooring at e
  refine mm_T.seg (f' := (15, [some (.ref 62), some (.int x1), some (.int x1), some (.int 0), some (.int 0), some (.int ((I 62 48) - 1))], [])) (h' := (107, I, J, mm_rf rv sp rr w nw)) 11 rfl ?_
  refine mm_T.mask [true, false, true, true, true, true] ?_
  obtain ⟨o959, eo959, e⟩ := mm_bind e
  rcases o959 with ⟨va960 | vb960, vs960_0⟩
  · cases e
    refine tlX12_layMooring_L15 d _ n x1 0 0 ((I 62 48) - 1) I J rv sp rr w nw _ eo959 (fun z z0 hz => ?_) (fun z z0 hz => ?_)
    · cases hz; exact ⟨rfl, rfl⟩
    · cases hz
  · refine tlX12_layMooring_L15 d _ n x1 0 0 ((I 62 48) - 1) I J rv sp rr w nw (.inr vb960, vs960_0) eo959 (fun z z0 hz => ?_) (fun z z0 hz => ?_)
    · cases hz
    · cases hz
      refine mm_T.seg (f' := (111, [none, none, none, none, some (.int vb960), none], [(.int vb960)])) (h' := (107, vs960_0, J, mm_rf rv sp rr w nw)) 1 rfl ?_
      cases e
      exact mm_T.ret rfl ⟨rfl, rfl⟩
set_option maxRecDepth 100000 in
set_option maxHeartbeats 4000000 in
theorem tlX12_betweenAll_L4 (d : Nat) (Q : Option Value → mm_H → Prop) : ∀ (n : Nat) (y1 : Int32) (y2 : Int32) (I : Nat → Nat → Int32) (J : Nat → Nat → Int64) (rv sp rr w nw : Nat), ∀ (out : Int32), fX12_betweenAll_L4 n y1 y2 I = some out → mm_T none (d + 1) 302 (52, [none, some (.int out), none], []) (107, I, J, mm_rf rv sp rr w nw) Q → mm_T none (d + 1) 302 (4, [some (.ref 62), some (.int y1), some (.int y2)], []) (107, I, J, mm_rf rv sp rr w nw) Q := by
  intro n
  induction n with
  | zero =>
    intro y1 y2 I J rv sp rr w nw out e k
    rw [fX12_betweenAll_L4] at e; cases e
  | succ n ih =>
    intro y1 y2 I J rv sp rr w nw out e k
    rw [fX12_betweenAll_L4] at e
    refine mm_T.seg (f' := (9, [some (.ref 62), some (.int y1), some (.int y2)], [(.int (I 62 48)), (.int y2)])) (h' := (107, I, J, mm_rf rv sp rr w nw)) 3 rfl ?_
    refine mm_T.br (c := y2 < (I 62 48)) (a := ((12, [some (.ref 62), some (.int y1), some (.int y2)], []), (107, I, J, mm_rf rv sp rr w nw))) (b := ((52, [some (.ref 62), some (.int y1), some (.int y2)], []), (107, I, J, mm_rf rv sp rr w nw))) rfl (fun h966 => ?_) (fun h966 => ?_)
    · rw [if_pos h966] at e
      refine mm_T.seg (f' := (17, [some (.ref 62), some (.int y1), some (.int y2)], [(.ref 95), (.int y1)])) (h' := (107, I, J, mm_rf rv sp rr w nw)) 3 rfl ?_
      refine mm_T.seg (f' := (18, [some (.ref 62), some (.int y1), some (.int y2)], [(.int y2), (.ref 95), (.int y1)])) (h' := (107, I, J, mm_rf rv sp rr w nw)) 1 rfl ?_
      by_cases h967 : y2 < 0 ∨ 4 ≤ y2.toNatClampNeg
      · rw [if_pos h967] at e; cases e
      rw [if_neg h967] at e
      refine mm_T.guard (y := ((19, [some (.ref 62), some (.int y1), some (.int y2)], [(.int (I 95 y2.toNatClampNeg)), (.int y1)]), (107, I, J, mm_rf rv sp rr w nw))) rfl h967 ?_
      refine mm_T.seg (f' := (21, [some (.ref 62), some (.int y1), some (.int y2)], [(.int 8), (.int (I 95 y2.toNatClampNeg)), (.int y1)])) (h' := (107, I, J, mm_rf rv sp rr w nw)) 1 rfl ?_
      refine mm_T.br (c := (I 95 y2.toNatClampNeg) = 8) (a := ((24, [some (.ref 62), some (.int y1), some (.int y2)], [(.int y1)]), (107, I, J, mm_rf rv sp rr w nw))) (b := ((28, [some (.ref 62), some (.int y1), some (.int y2)], [(.int y1)]), (107, I, J, mm_rf rv sp rr w nw))) rfl (fun h968 => ?_) (fun h968 => ?_)
      · rw [if_pos h968] at e
        refine mm_T.seg (f' := (4, [some (.ref 62), some (.int (y1 + 0)), some (.int (y2 + 1))], [])) (h' := (107, I, J, mm_rf rv sp rr w nw)) 6 rfl ?_
        refine mm_T.mask [true, true, true] ?_
        exact ih (y1 + 0) (y2 + 1) I J rv sp rr w nw out e k
      · rw [if_neg h968] at e
        refine mm_T.seg (f' := (32, [some (.ref 62), some (.int y1), some (.int y2)], [(.ref 95), (.int y1)])) (h' := (107, I, J, mm_rf rv sp rr w nw)) 2 rfl ?_
        refine mm_T.seg (f' := (33, [some (.ref 62), some (.int y1), some (.int y2)], [(.int y2), (.ref 95), (.int y1)])) (h' := (107, I, J, mm_rf rv sp rr w nw)) 1 rfl ?_
        by_cases h969 : y2 < 0 ∨ 4 ≤ y2.toNatClampNeg
        · rw [if_pos h969] at e; cases e
        rw [if_neg h969] at e
        refine mm_T.guard (y := ((34, [some (.ref 62), some (.int y1), some (.int y2)], [(.int (I 95 y2.toNatClampNeg)), (.int y1)]), (107, I, J, mm_rf rv sp rr w nw))) rfl h969 ?_
        refine mm_T.seg (f' := (38, [some (.ref 62), some (.int y1), some (.int y2)], [(.ref 84), (.int (I 95 y2.toNatClampNeg)), (.int y1)])) (h' := (107, I, J, mm_rf rv sp rr w nw)) 2 rfl ?_
        refine mm_T.seg (f' := (39, [some (.ref 62), some (.int y1), some (.int y2)], [(.int y2), (.ref 84), (.int (I 95 y2.toNatClampNeg)), (.int y1)])) (h' := (107, I, J, mm_rf rv sp rr w nw)) 1 rfl ?_
        by_cases h970 : y2 < 0 ∨ 28 ≤ y2.toNatClampNeg
        · rw [if_pos h970] at e; cases e
        rw [if_neg h970] at e
        refine mm_T.guard (y := ((40, [some (.ref 62), some (.int y1), some (.int y2)], [(.int (I 84 y2.toNatClampNeg)), (.int (I 95 y2.toNatClampNeg)), (.int y1)]), (107, I, J, mm_rf rv sp rr w nw))) rfl h970 ?_
        refine mm_T.seg (f' := (41, [some (.ref 62), some (.int y1), some (.int y2)], [(.int ((I 95 y2.toNatClampNeg) - (I 84 y2.toNatClampNeg))), (.int y1)])) (h' := (107, I, J, mm_rf rv sp rr w nw)) 1 rfl ?_
        obtain ⟨g149, hg149⟩ : ∃ z, fX12_plain ((I 95 y2.toNatClampNeg) - (I 84 y2.toNatClampNeg)) = z := ⟨_, rfl⟩
        try rw [hg149] at e
        refine mm_T.call (t := 239) (as := [(.int ((I 95 y2.toNatClampNeg) - (I 84 y2.toNatClampNeg)))]) (f' := (44, [some (.ref 62), some (.int y1), some (.int y2)], [(.int y1)])) rfl (tX12_plain (d + 0) ((I 95 y2.toNatClampNeg) - (I 84 y2.toNatClampNeg)) I J rv sp rr w nw g149 hg149) (fun v h hq => ?_)
        obtain ⟨rfl, rfl⟩ := hq
        refine mm_T.seg (f' := (4, [some (.ref 62), some (.int (y1 + g149)), some (.int (y2 + 1))], [])) (h' := (107, I, J, mm_rf rv sp rr w nw)) 4 rfl ?_
        refine mm_T.mask [true, true, true] ?_
        exact ih (y1 + g149) (y2 + 1) I J rv sp rr w nw out e k
    · rw [if_neg h966] at e
      cases e
      refine mm_T.mask [false, true, false] ?_
      exact k
set_option maxRecDepth 100000 in
set_option maxHeartbeats 4000000 in
theorem tX12_betweenAll (d n : Nat) (I : Nat → Nat → Int32) (J : Nat → Nat → Int64) (rv sp rr w nw : Nat) (out : Int32) (e : fX12_betweenAll n I = some out) : mm_T none (d + 1) 302 (mm_ent 302 [(.ref 62)]) (107, I, J, mm_rf rv sp rr w nw) (fun v h => v = some (.int out) ∧ h = (107, I, J, mm_rf rv sp rr w nw)) := by
  unfold fX12_betweenAll at e
  refine mm_T.seg (f' := (4, [some (.ref 62), some (.int 0), some (.int 0)], [])) (h' := (107, I, J, mm_rf rv sp rr w nw)) 4 rfl ?_
  refine mm_T.mask [true, true, true] ?_
  obtain ⟨o971, eo971, e⟩ := mm_bind e
  refine tlX12_betweenAll_L4 d _ n 0 0 I J rv sp rr w nw o971 eo971 ?_
  refine mm_T.seg (f' := (53, [none, some (.int o971), none], [(.int o971)])) (h' := (107, I, J, mm_rf rv sp rr w nw)) 1 rfl ?_
  cases e
  exact mm_T.ret rfl ⟨rfl, rfl⟩
set_option maxRecDepth 100000 in
set_option maxHeartbeats 4000000 in
theorem tlX12_mooring_L13 (d : Nat) (Q : Option Value → mm_H → Prop) : ∀ (n : Nat) (y1 : Int32) (y2 : Int32) (I : Nat → Nat → Int32) (J : Nat → Nat → Int64) (rv sp rr w nw : Nat), ∀ (out : (Nat → Nat → Int32)), fX12_mooring_L13 n y1 y2 I = some out → mm_T none (d + 6) 303 (53, [some (.ref 62), some (.int y1), none, none, none, none, none], []) (107, out, J, mm_rf rv sp rr w nw) Q → mm_T none (d + 6) 303 (13, [some (.ref 62), some (.int y1), some (.int y2), none, none, none, none], []) (107, I, J, mm_rf rv sp rr w nw) Q := by
  intro n
  induction n with
  | zero =>
    intro y1 y2 I J rv sp rr w nw out e k
    rw [fX12_mooring_L13] at e; cases e
  | succ n ih =>
    intro y1 y2 I J rv sp rr w nw out e k
    rw [fX12_mooring_L13] at e
    refine mm_T.seg (f' := (18, [some (.ref 62), some (.int y1), some (.int y2), none, none, none, none], [(.int (I 62 48)), (.int y2)])) (h' := (107, I, J, mm_rf rv sp rr w nw)) 3 rfl ?_
    refine mm_T.br (c := y2 < (I 62 48)) (a := ((21, [some (.ref 62), some (.int y1), some (.int y2), none, none, none, none], []), (107, I, J, mm_rf rv sp rr w nw))) (b := ((53, [some (.ref 62), some (.int y1), some (.int y2), none, none, none, none], []), (107, I, J, mm_rf rv sp rr w nw))) rfl (fun h973 => ?_) (fun h973 => ?_)
    · rw [if_pos h973] at e
      refine mm_T.seg (f' := (25, [some (.ref 62), some (.int y1), some (.int y2), none, none, none, none], [(.ref 94)])) (h' := (107, I, J, mm_rf rv sp rr w nw)) 2 rfl ?_
      refine mm_T.seg (f' := (30, [some (.ref 62), some (.int y1), some (.int y2), none, none, none, none], [(.ref 84), (.int y2), (.ref 94)])) (h' := (107, I, J, mm_rf rv sp rr w nw)) 3 rfl ?_
      refine mm_T.seg (f' := (33, [some (.ref 62), some (.int y1), some (.int y2), none, none, none, none], [(.int (4 + y2)), (.ref 84), (.int y2), (.ref 94)])) (h' := (107, I, J, mm_rf rv sp rr w nw)) 3 rfl ?_
      by_cases h974 : (4 + y2) < 0 ∨ 28 ≤ (4 + y2).toNatClampNeg
      · rw [if_pos h974] at e; cases e
      rw [if_neg h974] at e
      refine mm_T.guard (c := (4 + y2) < 0 ∨ 28 ≤ (4 + y2).toNatClampNeg) (y := ((34, [some (.ref 62), some (.int y1), some (.int y2), none, none, none, none], [(.int (I 84 (4 + y2).toNatClampNeg)), (.int y2), (.ref 94)]), (107, I, J, mm_rf rv sp rr w nw))) (mm_gen (P := fun z => mm_stp none 303 (33, [some (.ref 62), some (.int y1), some (.int y2), none, none, none, none], [(.int z), (.ref 84), (.int y2), (.ref 94)]) (107, I, J, mm_rf rv sp rr w nw) = if z < 0 ∨ 28 ≤ z.toNatClampNeg then none else some (.inl ((34, [some (.ref 62), some (.int y1), some (.int y2), none, none, none, none], [(.int (I 84 z.toNatClampNeg)), (.int y2), (.ref 94)]), (107, I, J, mm_rf rv sp rr w nw)))) (4 + y2) (fun z => rfl)) h974 ?_
      refine mm_T.br (c := (I 84 (4 + y2).toNatClampNeg) = 0) (a := ((37, [some (.ref 62), some (.int y1), some (.int y2), none, none, none, none], [(.int y2), (.ref 94)]), (107, I, J, mm_rf rv sp rr w nw))) (b := ((45, [some (.ref 62), some (.int y1), some (.int y2), none, none, none, none], [(.int y2), (.ref 94)]), (107, I, J, mm_rf rv sp rr w nw))) rfl (fun h975 => ?_) (fun h975 => ?_)
      · rw [if_pos h975] at e
        refine mm_T.seg (f' := (39, [some (.ref 62), some (.int y1), some (.int y2), none, none, none, none], [(.int y2), (.ref 62), (.int y2), (.ref 94)])) (h' := (107, I, J, mm_rf rv sp rr w nw)) 2 rfl ?_
        obtain ⟨o976, eo976, e⟩ := mm_bind e
        refine mm_T.call (t := 281) (as := [(.ref 62), (.int y2)]) (f' := (42, [some (.ref 62), some (.int y1), some (.int y2), none, none, none, none], [(.int y2), (.ref 94)])) rfl (tX12_landingsOf (d + 0) n y2 I J rv sp rr w nw o976 eo976) (fun v h hq => ?_)
        obtain ⟨rfl, rfl⟩ := hq
        refine mm_T.seg (f' := (46, [some (.ref 62), some (.int y1), some (.int y2), none, none, none, none], [(.int o976.1), (.int y2), (.ref 94)])) (h' := (107, o976.2, J, mm_rf rv sp rr w nw)) 1 rfl ?_
        by_cases h977 : y2 < 0 ∨ 4 ≤ y2.toNatClampNeg
        · rw [if_pos h977] at e; cases e
        rw [if_neg h977] at e
        refine mm_T.guard (y := ((47, [some (.ref 62), some (.int y1), some (.int y2), none, none, none, none], []), (107, (mm_up o976.2 94 y2.toNatClampNeg o976.1), J, mm_rf rv sp rr w nw))) rfl h977 ?_
        refine mm_T.seg (f' := (13, [some (.ref 62), some (.int y1), some (.int (y2 + 1)), none, none, none, none], [])) (h' := (107, (mm_up o976.2 94 y2.toNatClampNeg o976.1), J, mm_rf rv sp rr w nw)) 2 rfl ?_
        refine mm_T.mask [true, true, true, false, false, false, false] ?_
        exact ih y1 (y2 + 1) (mm_up o976.2 94 y2.toNatClampNeg o976.1) J rv sp rr w nw out e k
      · rw [if_neg h975] at e
        refine mm_T.seg (f' := (46, [some (.ref 62), some (.int y1), some (.int y2), none, none, none, none], [(.int 0), (.int y2), (.ref 94)])) (h' := (107, I, J, mm_rf rv sp rr w nw)) 1 rfl ?_
        by_cases h978 : y2 < 0 ∨ 4 ≤ y2.toNatClampNeg
        · rw [if_pos h978] at e; cases e
        rw [if_neg h978] at e
        refine mm_T.guard (y := ((47, [some (.ref 62), some (.int y1), some (.int y2), none, none, none, none], []), (107, (mm_up I 94 y2.toNatClampNeg 0), J, mm_rf rv sp rr w nw))) rfl h978 ?_
        refine mm_T.seg (f' := (13, [some (.ref 62), some (.int y1), some (.int (y2 + 1)), none, none, none, none], [])) (h' := (107, (mm_up I 94 y2.toNatClampNeg 0), J, mm_rf rv sp rr w nw)) 2 rfl ?_
        refine mm_T.mask [true, true, true, false, false, false, false] ?_
        exact ih y1 (y2 + 1) (mm_up I 94 y2.toNatClampNeg 0) J rv sp rr w nw out e k
    · rw [if_neg h973] at e
      cases e
      refine mm_T.mask [true, true, false, false, false, false, false] ?_
      exact k
set_option maxRecDepth 100000 in
set_option maxHeartbeats 4000000 in
theorem tlX12_mooring_L121 (d : Nat) (Q : Option Value → mm_H → Prop) : ∀ (n : Nat) (y1 : Int32) (y2 : Int32) (y3 : Int32) (y4 : Int32) (y6 : Int32) (I : Nat → Nat → Int32) (J : Nat → Nat → Int64) (rv sp rr w nw : Nat), ∀ (out : (Nat → Nat → Int32)), fX12_mooring_L121 n y1 y2 y3 y4 y6 I = some out → mm_T none (d + 6) 303 (166, [some (.ref 62), some (.int y1), some (.int y2), some (.int y3), some (.int y4), none, none], []) (107, out, J, mm_rf rv sp rr w nw) Q → mm_T none (d + 6) 303 (121, [some (.ref 62), some (.int y1), some (.int y2), some (.int y3), some (.int y4), none, some (.int y6)], []) (107, I, J, mm_rf rv sp rr w nw) Q := by
  intro n
  induction n with
  | zero =>
    intro y1 y2 y3 y4 y6 I J rv sp rr w nw out e k
    rw [fX12_mooring_L121] at e; cases e
  | succ n ih =>
    intro y1 y2 y3 y4 y6 I J rv sp rr w nw out e k
    rw [fX12_mooring_L121] at e
    refine mm_T.seg (f' := (127, [some (.ref 62), some (.int y1), some (.int y2), some (.int y3), some (.int y4), none, some (.int y6)], [(.int (I 62 48)), (.int y6)])) (h' := (107, I, J, mm_rf rv sp rr w nw)) 3 rfl ?_
    refine mm_T.br (c := y6 < (I 62 48)) (a := ((130, [some (.ref 62), some (.int y1), some (.int y2), some (.int y3), some (.int y4), none, some (.int y6)], []), (107, I, J, mm_rf rv sp rr w nw))) (b := ((166, [some (.ref 62), some (.int y1), some (.int y2), some (.int y3), some (.int y4), none, some (.int y6)], []), (107, I, J, mm_rf rv sp rr w nw))) rfl (fun h989 => ?_) (fun h989 => ?_)
    · rw [if_pos h989] at e
      refine mm_T.seg (f' := (134, [some (.ref 62), some (.int y1), some (.int y2), some (.int y3), some (.int y4), none, some (.int y6)], [(.ref 88)])) (h' := (107, I, J, mm_rf rv sp rr w nw)) 2 rfl ?_
      refine mm_T.seg (f' := (140, [some (.ref 62), some (.int y1), some (.int y2), some (.int y3), some (.int y4), none, some (.int y6)], [(.ref 95), (.int y6), (.ref 88)])) (h' := (107, I, J, mm_rf rv sp rr w nw)) 3 rfl ?_
      refine mm_T.seg (f' := (142, [some (.ref 62), some (.int y1), some (.int y2), some (.int y3), some (.int y4), none, some (.int y6)], [(.int y6), (.ref 95), (.int y6), (.ref 88)])) (h' := (107, I, J, mm_rf rv sp rr w nw)) 1 rfl ?_
      by_cases h990 : y6 < 0 ∨ 4 ≤ y6.toNatClampNeg
      · rw [if_pos h990] at e; cases e
      rw [if_neg h990] at e
      refine mm_T.guard (y := ((143, [some (.ref 62), some (.int y1), some (.int y2), some (.int y3), some (.int y4), none, some (.int y6)], [(.int (I 95 y6.toNatClampNeg)), (.int y6), (.ref 88)]), (107, I, J, mm_rf rv sp rr w nw))) rfl h990 ?_
      refine mm_T.seg (f' := (145, [some (.ref 62), some (.int y1), some (.int y2), some (.int y3), some (.int y4), none, some (.int y6)], [(.int 8), (.int (I 95 y6.toNatClampNeg)), (.int y6), (.ref 88)])) (h' := (107, I, J, mm_rf rv sp rr w nw)) 1 rfl ?_
      refine mm_T.br (c := (I 95 y6.toNatClampNeg) = 8) (a := ((148, [some (.ref 62), some (.int y1), some (.int y2), some (.int y3), some (.int y4), none, some (.int y6)], [(.int y6), (.ref 88)]), (107, I, J, mm_rf rv sp rr w nw))) (b := ((152, [some (.ref 62), some (.int y1), some (.int y2), some (.int y3), some (.int y4), none, some (.int y6)], [(.int y6), (.ref 88)]), (107, I, J, mm_rf rv sp rr w nw))) rfl (fun h991 => ?_) (fun h991 => ?_)
      · rw [if_pos h991] at e
        refine mm_T.seg (f' := (159, [some (.ref 62), some (.int y1), some (.int y2), some (.int y3), some (.int y4), none, some (.int y6)], [(.int (-1)), (.int y6), (.ref 88)])) (h' := (107, I, J, mm_rf rv sp rr w nw)) 2 rfl ?_
        by_cases h992 : y6 < 0 ∨ 7 ≤ y6.toNatClampNeg
        · rw [if_pos h992] at e; cases e
        rw [if_neg h992] at e
        refine mm_T.guard (y := ((160, [some (.ref 62), some (.int y1), some (.int y2), some (.int y3), some (.int y4), none, some (.int y6)], []), (107, (mm_up I 88 y6.toNatClampNeg (-1)), J, mm_rf rv sp rr w nw))) rfl h992 ?_
        refine mm_T.seg (f' := (121, [some (.ref 62), some (.int y1), some (.int y2), some (.int y3), some (.int y4), none, some (.int (y6 + 1))], [])) (h' := (107, (mm_up I 88 y6.toNatClampNeg (-1)), J, mm_rf rv sp rr w nw)) 2 rfl ?_
        refine mm_T.mask [true, true, true, true, true, false, true] ?_
        exact ih y1 y2 y3 y4 (y6 + 1) (mm_up I 88 y6.toNatClampNeg (-1)) J rv sp rr w nw out e k
      · rw [if_neg h991] at e
        refine mm_T.seg (f' := (156, [some (.ref 62), some (.int y1), some (.int y2), some (.int y3), some (.int y4), none, some (.int y6)], [(.ref 95), (.int y6), (.ref 88)])) (h' := (107, I, J, mm_rf rv sp rr w nw)) 2 rfl ?_
        refine mm_T.seg (f' := (158, [some (.ref 62), some (.int y1), some (.int y2), some (.int y3), some (.int y4), none, some (.int y6)], [(.int y6), (.ref 95), (.int y6), (.ref 88)])) (h' := (107, I, J, mm_rf rv sp rr w nw)) 1 rfl ?_
        by_cases h993 : y6 < 0 ∨ 4 ≤ y6.toNatClampNeg
        · rw [if_pos h993] at e; cases e
        rw [if_neg h993] at e
        refine mm_T.guard (y := ((159, [some (.ref 62), some (.int y1), some (.int y2), some (.int y3), some (.int y4), none, some (.int y6)], [(.int (I 95 y6.toNatClampNeg)), (.int y6), (.ref 88)]), (107, I, J, mm_rf rv sp rr w nw))) rfl h993 ?_
        by_cases h994 : y6 < 0 ∨ 7 ≤ y6.toNatClampNeg
        · rw [if_pos h994] at e; cases e
        rw [if_neg h994] at e
        refine mm_T.guard (y := ((160, [some (.ref 62), some (.int y1), some (.int y2), some (.int y3), some (.int y4), none, some (.int y6)], []), (107, (mm_up I 88 y6.toNatClampNeg (I 95 y6.toNatClampNeg)), J, mm_rf rv sp rr w nw))) rfl h994 ?_
        refine mm_T.seg (f' := (121, [some (.ref 62), some (.int y1), some (.int y2), some (.int y3), some (.int y4), none, some (.int (y6 + 1))], [])) (h' := (107, (mm_up I 88 y6.toNatClampNeg (I 95 y6.toNatClampNeg)), J, mm_rf rv sp rr w nw)) 2 rfl ?_
        refine mm_T.mask [true, true, true, true, true, false, true] ?_
        exact ih y1 y2 y3 y4 (y6 + 1) (mm_up I 88 y6.toNatClampNeg (I 95 y6.toNatClampNeg)) J rv sp rr w nw out e k
    · rw [if_neg h989] at e
      cases e
      refine mm_T.mask [true, true, true, true, true, false, false] ?_
      exact k
set_option maxRecDepth 100000 in
set_option maxHeartbeats 4000000 in
theorem tlX12_mooring_L60 (d : Nat) (Q : Option Value → mm_H → Prop) : ∀ (n : Nat) (y1 : Int32) (y2 : Int32) (y3 : Int32) (y4 : Int32) (I : Nat → Nat → Int32) (J : Nat → Nat → Int64) (rv sp rr w nw : Nat), ∀ (out : Int32 × Int32 × (Nat → Nat → Int32)), fX12_mooring_L60 n y1 y2 y3 y4 I = some out → mm_T none (d + 6) 303 (180, [none, some (.int y1), some (.int out.1), some (.int out.2.1), none, none, none], []) (107, out.2.2, J, mm_rf rv sp rr w nw) Q → mm_T none (d + 6) 303 (60, [some (.ref 62), some (.int y1), some (.int y2), some (.int y3), some (.int y4), none, none], []) (107, I, J, mm_rf rv sp rr w nw) Q := by
  intro n
  induction n with
  | zero =>
    intro y1 y2 y3 y4 I J rv sp rr w nw out e k
    rw [fX12_mooring_L60] at e; cases e
  | succ n ih =>
    intro y1 y2 y3 y4 I J rv sp rr w nw out e k
    rw [fX12_mooring_L60] at e
    refine mm_T.seg (f' := (68, [some (.ref 62), some (.int y1), some (.int y2), some (.int y3), some (.int y4), none, none], [(.int (I 62 48)), (.int 9), (.int y4)])) (h' := (107, I, J, mm_rf rv sp rr w nw)) 4 rfl ?_
    obtain ⟨o980, eo980, e⟩ := mm_bind e
    refine mm_T.call (t := 277) (as := [(.int 9), (.int (I 62 48))]) (f' := (71, [some (.ref 62), some (.int y1), some (.int y2), some (.int y3), some (.int y4), none, none], [(.int y4)])) rfl (tX12_power (d + 5) n 9 (I 62 48) I J rv sp rr w nw o980 eo980) (fun v h hq => ?_)
    obtain ⟨rfl, rfl⟩ := hq
    refine mm_T.br (c := y4 < o980) (a := ((74, [some (.ref 62), some (.int y1), some (.int y2), some (.int y3), some (.int y4), none, none], []), (107, I, J, mm_rf rv sp rr w nw))) (b := ((180, [some (.ref 62), some (.int y1), some (.int y2), some (.int y3), some (.int y4), none, none], []), (107, I, J, mm_rf rv sp rr w nw))) rfl (fun h981 => ?_) (fun h981 => ?_)
    · rw [if_pos h981] at e
      refine mm_T.seg (f' := (77, [some (.ref 62), some (.int y1), some (.int y2), some (.int y3), some (.int y4), none, none], [(.int y4), (.ref 62)])) (h' := (107, I, J, mm_rf rv sp rr w nw)) 2 rfl ?_
      obtain ⟨o982, eo982, e⟩ := mm_bind e
      refine mm_T.call (t := 301) (as := [(.ref 62), (.int y4)]) (f' := (80, [some (.ref 62), some (.int y1), some (.int y2), some (.int y3), some (.int y4), none, none], [])) rfl (tX12_layMooring (d + 5) n y4 I J rv sp rr w nw o982 eo982) (fun v h hq => ?_)
      obtain ⟨rfl, rfl⟩ := hq
      refine mm_T.seg (f' := (84, [some (.ref 62), some (.int y1), some (.int y2), some (.int y3), some (.int y4), some (.int o982.1), none], [(.int o982.1)])) (h' := (107, o982.2, J, mm_rf rv sp rr w nw)) 2 rfl ?_
      refine mm_T.br (c := o982.1 < 0) (a := ((174, [some (.ref 62), some (.int y1), some (.int y2), some (.int y3), some (.int y4), some (.int o982.1), none], []), (107, o982.2, J, mm_rf rv sp rr w nw))) (b := ((87, [some (.ref 62), some (.int y1), some (.int y2), some (.int y3), some (.int y4), some (.int o982.1), none], []), (107, o982.2, J, mm_rf rv sp rr w nw))) rfl (fun h983 => ?_) (fun h983 => ?_)
      · rw [if_pos h983] at e
        refine mm_T.seg (f' := (60, [some (.ref 62), some (.int y1), some (.int y2), some (.int y3), some (.int (y4 + 1)), some (.int o982.1), none], [])) (h' := (107, o982.2, J, mm_rf rv sp rr w nw)) 2 rfl ?_
        refine mm_T.mask [true, true, true, true, true, false, false] ?_
        exact ih y1 y2 y3 (y4 + 1) o982.2 J rv sp rr w nw out e k
      · rw [if_neg h983] at e
        refine mm_T.seg (f' := (90, [some (.ref 62), some (.int y1), some (.int y2), some (.int y3), some (.int y4), some (.int o982.1), none], [(.int y2), (.int o982.1)])) (h' := (107, o982.2, J, mm_rf rv sp rr w nw)) 2 rfl ?_
        refine mm_T.br (c := o982.1 < y2) (a := ((174, [some (.ref 62), some (.int y1), some (.int y2), some (.int y3), some (.int y4), some (.int o982.1), none], []), (107, o982.2, J, mm_rf rv sp rr w nw))) (b := ((93, [some (.ref 62), some (.int y1), some (.int y2), some (.int y3), some (.int y4), some (.int o982.1), none], []), (107, o982.2, J, mm_rf rv sp rr w nw))) rfl (fun h984 => ?_) (fun h984 => ?_)
        · rw [if_pos h984] at e
          refine mm_T.seg (f' := (60, [some (.ref 62), some (.int y1), some (.int y2), some (.int y3), some (.int (y4 + 1)), some (.int o982.1), none], [])) (h' := (107, o982.2, J, mm_rf rv sp rr w nw)) 2 rfl ?_
          refine mm_T.mask [true, true, true, true, true, false, false] ?_
          exact ih y1 y2 y3 (y4 + 1) o982.2 J rv sp rr w nw out e k
        · rw [if_neg h984] at e
          refine mm_T.seg (f' := (96, [some (.ref 62), some (.int y1), some (.int y2), some (.int y3), some (.int y4), some (.int o982.1), none], [(.int y2), (.int o982.1)])) (h' := (107, o982.2, J, mm_rf rv sp rr w nw)) 2 rfl ?_
          refine mm_T.br (c := o982.1 = y2) (a := ((99, [some (.ref 62), some (.int y1), some (.int y2), some (.int y3), some (.int y4), some (.int o982.1), none], []), (107, o982.2, J, mm_rf rv sp rr w nw))) (b := ((110, [some (.ref 62), some (.int y1), some (.int y2), some (.int y3), some (.int y4), some (.int o982.1), none], []), (107, o982.2, J, mm_rf rv sp rr w nw))) rfl (fun h985 => ?_) (fun h985 => ?_)
          · rw [if_pos h985] at e
            refine mm_T.seg (f' := (100, [some (.ref 62), some (.int y1), some (.int y2), some (.int y3), some (.int y4), some (.int o982.1), none], [(.ref 62)])) (h' := (107, o982.2, J, mm_rf rv sp rr w nw)) 1 rfl ?_
            obtain ⟨o986, eo986, e⟩ := mm_bind e
            refine mm_T.call (t := 302) (as := [(.ref 62)]) (f' := (103, [some (.ref 62), some (.int y1), some (.int y2), some (.int y3), some (.int y4), some (.int o982.1), none], [])) rfl (tX12_betweenAll (d + 4) n o982.2 J rv sp rr w nw o986 eo986) (fun v h hq => ?_)
            obtain ⟨rfl, rfl⟩ := hq
            refine mm_T.seg (f' := (104, [some (.ref 62), some (.int y1), some (.int y2), some (.int y3), some (.int y4), some (.int o982.1), none], [(.int y3), (.int o986)])) (h' := (107, o982.2, J, mm_rf rv sp rr w nw)) 1 rfl ?_
            refine mm_T.br (c := o986 < y3) (a := ((110, [some (.ref 62), some (.int y1), some (.int y2), some (.int y3), some (.int y4), some (.int o982.1), none], []), (107, o982.2, J, mm_rf rv sp rr w nw))) (b := ((107, [some (.ref 62), some (.int y1), some (.int y2), some (.int y3), some (.int y4), some (.int o982.1), none], []), (107, o982.2, J, mm_rf rv sp rr w nw))) rfl (fun h987 => ?_) (fun h987 => ?_)
            · rw [if_pos h987] at e
              refine mm_T.seg (f' := (114, [some (.ref 62), some (.int y1), some (.int o982.1), some (.int y3), some (.int y4), some (.int o982.1), none], [(.ref 62)])) (h' := (107, o982.2, J, mm_rf rv sp rr w nw)) 3 rfl ?_
              obtain ⟨o988, eo988, e⟩ := mm_bind e
              refine mm_T.call (t := 302) (as := [(.ref 62)]) (f' := (117, [some (.ref 62), some (.int y1), some (.int o982.1), some (.int y3), some (.int y4), some (.int o982.1), none], [])) rfl (tX12_betweenAll (d + 4) n o982.2 J rv sp rr w nw o988 eo988) (fun v h hq => ?_)
              obtain ⟨rfl, rfl⟩ := hq
              refine mm_T.seg (f' := (121, [some (.ref 62), some (.int y1), some (.int o982.1), some (.int o988), some (.int y4), some (.int o982.1), some (.int 0)], [])) (h' := (107, o982.2, J, mm_rf rv sp rr w nw)) 3 rfl ?_
              refine mm_T.mask [true, true, true, true, true, false, true] ?_
              obtain ⟨o995, eo995, e⟩ := mm_bind e
              refine tlX12_mooring_L121 d _ n y1 o982.1 o988 y4 0 o982.2 J rv sp rr w nw o995 eo995 ?_
              refine mm_T.seg (f' := (60, [some (.ref 62), some (.int y1), some (.int o982.1), some (.int o988), some (.int (y4 + 1)), none, none], [])) (h' := (107, (mm_up o995 62 61 (o995 62 48)), J, mm_rf rv sp rr w nw)) 6 rfl ?_
              refine mm_T.mask [true, true, true, true, true, false, false] ?_
              exact ih y1 o982.1 o988 (y4 + 1) (mm_up o995 62 61 (o995 62 48)) J rv sp rr w nw out e k
            · rw [if_neg h987] at e
              refine mm_T.seg (f' := (60, [some (.ref 62), some (.int y1), some (.int y2), some (.int y3), some (.int (y4 + 1)), some (.int o982.1), none], [])) (h' := (107, o982.2, J, mm_rf rv sp rr w nw)) 3 rfl ?_
              refine mm_T.mask [true, true, true, true, true, false, false] ?_
              exact ih y1 y2 y3 (y4 + 1) o982.2 J rv sp rr w nw out e k
          · rw [if_neg h985] at e
            refine mm_T.seg (f' := (114, [some (.ref 62), some (.int y1), some (.int o982.1), some (.int y3), some (.int y4), some (.int o982.1), none], [(.ref 62)])) (h' := (107, o982.2, J, mm_rf rv sp rr w nw)) 3 rfl ?_
            obtain ⟨o996, eo996, e⟩ := mm_bind e
            refine mm_T.call (t := 302) (as := [(.ref 62)]) (f' := (117, [some (.ref 62), some (.int y1), some (.int o982.1), some (.int y3), some (.int y4), some (.int o982.1), none], [])) rfl (tX12_betweenAll (d + 4) n o982.2 J rv sp rr w nw o996 eo996) (fun v h hq => ?_)
            obtain ⟨rfl, rfl⟩ := hq
            refine mm_T.seg (f' := (121, [some (.ref 62), some (.int y1), some (.int o982.1), some (.int o996), some (.int y4), some (.int o982.1), some (.int 0)], [])) (h' := (107, o982.2, J, mm_rf rv sp rr w nw)) 3 rfl ?_
            refine mm_T.mask [true, true, true, true, true, false, true] ?_
            obtain ⟨o997, eo997, e⟩ := mm_bind e
            refine tlX12_mooring_L121 d _ n y1 o982.1 o996 y4 0 o982.2 J rv sp rr w nw o997 eo997 ?_
            refine mm_T.seg (f' := (60, [some (.ref 62), some (.int y1), some (.int o982.1), some (.int o996), some (.int (y4 + 1)), none, none], [])) (h' := (107, (mm_up o997 62 61 (o997 62 48)), J, mm_rf rv sp rr w nw)) 6 rfl ?_
            refine mm_T.mask [true, true, true, true, true, false, false] ?_
            exact ih y1 o982.1 o996 (y4 + 1) (mm_up o997 62 61 (o997 62 48)) J rv sp rr w nw out e k
    · rw [if_neg h981] at e
      cases e
      refine mm_T.mask [false, true, true, true, false, false, false] ?_
      exact k
set_option maxRecDepth 100000 in
set_option maxHeartbeats 4000000 in
theorem tX12_mooring (d n : Nat) (x1 : Int32) (I : Nat → Nat → Int32) (J : Nat → Nat → Int64) (rv sp rr w nw : Nat) (out : Int32 × (Nat → Nat → Int32)) (e : fX12_mooring n x1 I = some out) : mm_T none (d + 6) 303 (mm_ent 303 [(.ref 62), (.int x1)]) (107, I, J, mm_rf rv sp rr w nw) (fun v h => v = some (.int out.1) ∧ h = (107, out.2, J, mm_rf rv sp rr w nw)) := by
  unfold fX12_mooring at e
  refine mm_T.seg (f' := (3, [some (.ref 62), some (.int x1), none, none, none, none, none], [(.int 1), (.int 0), (.int x1)])) (h' := (107, I, J, mm_rf rv sp rr w nw)) 3 rfl ?_
  obtain ⟨g150, hg150⟩ : ∃ z, fX12_isIn x1 0 1 = z := ⟨_, rfl⟩
  try rw [hg150] at e
  refine mm_T.call (t := 252) (as := [(.int x1), (.int 0), (.int 1)]) (f' := (6, [some (.ref 62), some (.int x1), none, none, none, none, none], [])) rfl (tX12_isIn (d + 5) x1 0 1 I J rv sp rr w nw g150 hg150) (fun v h hq => ?_)
  obtain ⟨rfl, rfl⟩ := hq
  refine mm_T.br (c := g150 = 0) (a := ((9, [some (.ref 62), some (.int x1), none, none, none, none, none], []), (107, I, J, mm_rf rv sp rr w nw))) (b := ((11, [some (.ref 62), some (.int x1), none, none, none, none, none], []), (107, I, J, mm_rf rv sp rr w nw))) rfl (fun h972 => ?_) (fun h972 => ?_)
  · rw [if_pos h972] at e
    refine mm_T.seg (f' := (10, [some (.ref 62), some (.int x1), none, none, none, none, none], [(.int (-1))])) (h' := (107, I, J, mm_rf rv sp rr w nw)) 1 rfl ?_
    cases e
    exact mm_T.ret rfl ⟨rfl, rfl⟩
  · rw [if_neg h972] at e
    refine mm_T.seg (f' := (13, [some (.ref 62), some (.int x1), some (.int 0), none, none, none, none], [])) (h' := (107, I, J, mm_rf rv sp rr w nw)) 2 rfl ?_
    refine mm_T.mask [true, true, true, false, false, false, false] ?_
    obtain ⟨o979, eo979, e⟩ := mm_bind e
    refine tlX12_mooring_L13 d _ n x1 0 I J rv sp rr w nw o979 eo979 ?_
    refine mm_T.seg (f' := (60, [some (.ref 62), some (.int x1), some (.int (-1)), some (.int 0), some (.int 0), none, none], [])) (h' := (107, o979, J, mm_rf rv sp rr w nw)) 6 rfl ?_
    refine mm_T.mask [true, true, true, true, true, false, false] ?_
    obtain ⟨o998, eo998, e⟩ := mm_bind e
    refine tlX12_mooring_L60 d _ n x1 (-1) 0 0 o979 J rv sp rr w nw o998 eo998 ?_
    refine mm_T.seg (f' := (181, [none, some (.int x1), some (.int o998.1), some (.int o998.2.1), none, none, none], [(.int x1)])) (h' := (107, o998.2.2, J, mm_rf rv sp rr w nw)) 1 rfl ?_
    refine mm_T.br (c := x1 = 0) (a := ((184, [none, some (.int x1), some (.int o998.1), some (.int o998.2.1), none, none, none], []), (107, o998.2.2, J, mm_rf rv sp rr w nw))) (b := ((188, [none, some (.int x1), some (.int o998.1), some (.int o998.2.1), none, none, none], []), (107, o998.2.2, J, mm_rf rv sp rr w nw))) rfl (fun h999 => ?_) (fun h999 => ?_)
    · rw [if_pos h999] at e
      refine mm_T.seg (f' := (189, [none, some (.int x1), some (.int o998.1), some (.int o998.2.1), none, none, none], [(.int o998.1)])) (h' := (107, o998.2.2, J, mm_rf rv sp rr w nw)) 2 rfl ?_
      cases e
      exact mm_T.ret rfl ⟨rfl, rfl⟩
    · rw [if_neg h999] at e
      refine mm_T.seg (f' := (189, [none, some (.int x1), some (.int o998.1), some (.int o998.2.1), none, none, none], [(.int o998.2.1)])) (h' := (107, o998.2.2, J, mm_rf rv sp rr w nw)) 1 rfl ?_
      cases e
      exact mm_T.ret rfl ⟨rfl, rfl⟩
