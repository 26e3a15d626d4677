def fX12_guests_L70 (n : Nat) (y1 : Int32) (y2 : Int32) (y3 : Int32) (y4 : Int32) (y5 : Int32) (y6 : Int32) (y7 : Int32) (I : Nat → Nat → Int32) : Option (Int32 × (Nat → Nat → Int32)) := match n with
  | 0 => none
  | n + 1 => (if y7 < (I 62 46) then (if ((y3 >>> (y6 &&& 31)) &&& 1) = 0 then fX12_guests_L70 n y1 y2 y3 y4 y5 y6 (y7 + 1) I else (if ((y4 >>> (y7 &&& 31)) &&& 1) = 0 then fX12_guests_L70 n y1 y2 y3 y4 y5 y6 (y7 + 1) I else (fX12_isRest n y1 y3 y2 y4 y6 y7 I).bind fun o972 => (if o972 = 0 then fX12_guests_L70 n y1 y2 y3 y4 y5 y6 (y7 + 1) I else (if y5 = 0 then fX12_guests_L70 n y1 y2 y3 y4 (y5 + 1) y6 (y7 + 1) (mm_up (mm_up (mm_up I 88 0 y6) 88 1 y7) 62 61 2) else fX12_guests_L70 n y1 y2 y3 y4 (y5 + 1) y6 (y7 + 1) I)))) else some (y5, I))
def fX12_guests_L58 (n : Nat) (y1 : Int32) (y2 : Int32) (y3 : Int32) (y4 : Int32) (y5 : Int32) (y6 : Int32) (I : Nat → Nat → Int32) : Option (Int32 × (Nat → Nat → Int32)) := match n with
  | 0 => none
  | n + 1 => (if y6 < (I 62 46) then (fX12_guests_L70 n y1 y2 y3 y4 y5 y6 0 I).bind fun o975 => fX12_guests_L58 n y1 y2 y3 y4 o975.1 (y6 + 1) o975.2 else some (y5, I))
def fX12_guests (n : Nat) (x1 : Int32) (x2 : Int32) (I : Nat → Nat → Int32) : Option (Int32 × (Nat → Nat → Int32)) := (fX12_isBoard x1 (mm_up I 62 61 0)).bind fun o959 => (if o959 = 0 then some ((-1), (mm_up I 62 61 0)) else (fX12_isBoard x2 (mm_up I 62 61 0)).bind fun o961 => (if o961 = 0 then some ((-1), (mm_up I 62 61 0)) else (if x1 = x2 then some ((-1), (mm_up I 62 61 0)) else (fX12_landingsOf n x1 (mm_up I 62 61 0)).bind fun o964 => (fX12_landingsOf n x2 o964.2).bind fun o965 => (if o964.1 = 0 then some ((-1), o965.2) else (if o965.1 = 0 then some ((-1), o965.2) else (fX12_guests_L58 n x1 x2 o964.1 o965.1 0 0 o965.2).bind fun o976 => some (o976.1, o976.2))))))
set_option maxRecDepth 100000 in
set_option maxHeartbeats 4000000 in
theorem tlX12_guests_L70 (d : Nat) (Q : Option Value → mm_H → Prop) : ∀ (n : Nat) (y1 : Int32) (y2 : Int32) (y3 : Int32) (y4 : Int32) (y5 : Int32) (y6 : Int32) (y7 : Int32) (I : Nat → Nat → Int32) (J : Nat → Nat → Int64) (rv sp rr w nw : Nat), ∀ (out : Int32 × (Nat → Nat → Int32)), fX12_guests_L70 n y1 y2 y3 y4 y5 y6 y7 I = some out → mm_T none (d + 6) 306 (152, [some (.ref 62), some (.int y1), some (.int y2), some (.int y3), some (.int y4), some (.int out.1), some (.int y6), none], []) (107, out.2, J, mm_rf rv sp rr w nw) Q → mm_T none (d + 6) 306 (70, [some (.ref 62), some (.int y1), some (.int y2), some (.int y3), some (.int y4), some (.int y5), some (.int y6), some (.int y7)], []) (107, I, J, mm_rf rv sp rr w nw) Q := by
  intro n
  induction n with
  | zero =>
    intro y1 y2 y3 y4 y5 y6 y7 I J rv sp rr w nw out e k
    rw [fX12_guests_L70] at e; cases e
  | succ n ih =>
    intro y1 y2 y3 y4 y5 y6 y7 I J rv sp rr w nw out e k
    rw [fX12_guests_L70] at e
    refine mm_T.seg (f' := (76, [some (.ref 62), some (.int y1), some (.int y2), some (.int y3), some (.int y4), some (.int y5), some (.int y6), some (.int y7)], [(.int (I 62 46)), (.int y7)])) (h' := (107, I, J, mm_rf rv sp rr w nw)) 3 rfl ?_
    refine mm_T.br (c := y7 < (I 62 46)) (a := ((79, [some (.ref 62), some (.int y1), some (.int y2), some (.int y3), some (.int y4), some (.int y5), some (.int y6), some (.int y7)], []), (107, I, J, mm_rf rv sp rr w nw))) (b := ((152, [some (.ref 62), some (.int y1), some (.int y2), some (.int y3), some (.int y4), some (.int y5), some (.int y6), some (.int y7)], []), (107, I, J, mm_rf rv sp rr w nw))) rfl (fun h969 => ?_) (fun h969 => ?_)
    · rw [if_pos h969] at e
      refine mm_T.seg (f' := (85, [some (.ref 62), some (.int y1), some (.int y2), some (.int y3), some (.int y4), some (.int y5), some (.int y6), some (.int y7)], [(.int ((y3 >>> (y6 &&& 31)) &&& 1))])) (h' := (107, I, J, mm_rf rv sp rr w nw)) 5 rfl ?_
      refine mm_T.br (c := ((y3 >>> (y6 &&& 31)) &&& 1) = 0) (a := ((146, [some (.ref 62), some (.int y1), some (.int y2), some (.int y3), some (.int y4), some (.int y5), some (.int y6), some (.int y7)], []), (107, I, J, mm_rf rv sp rr w nw))) (b := ((88, [some (.ref 62), some (.int y1), some (.int y2), some (.int y3), some (.int y4), some (.int y5), some (.int y6), some (.int y7)], []), (107, I, J, mm_rf rv sp rr w nw))) rfl (fun h970 => ?_) (fun h970 => ?_)
      · rw [if_pos h970] at e
        refine mm_T.seg (f' := (70, [some (.ref 62), some (.int y1), some (.int y2), some (.int y3), some (.int y4), some (.int y5), some (.int y6), some (.int (y7 + 1))], [])) (h' := (107, I, J, mm_rf rv sp rr w nw)) 2 rfl ?_
        refine mm_T.mask [true, true, true, true, true, true, true, true] ?_
        exact ih y1 y2 y3 y4 y5 y6 (y7 + 1) I J rv sp rr w nw out e k
      · rw [if_neg h970] at e
        refine mm_T.seg (f' := (95, [some (.ref 62), some (.int y1), some (.int y2), some (.int y3), some (.int y4), some (.int y5), some (.int y6), some (.int y7)], [(.int ((y4 >>> (y7 &&& 31)) &&& 1))])) (h' := (107, I, J, mm_rf rv sp rr w nw)) 5 rfl ?_
        refine mm_T.br (c := ((y4 >>> (y7 &&& 31)) &&& 1) = 0) (a := ((146, [some (.ref 62), some (.int y1), some (.int y2), some (.int y3), some (.int y4), some (.int y5), some (.int y6), some (.int y7)], []), (107, I, J, mm_rf rv sp rr w nw))) (b := ((98, [some (.ref 62), some (.int y1), some (.int y2), some (.int y3), some (.int y4), some (.int y5), some (.int y6), some (.int y7)], []), (107, I, J, mm_rf rv sp rr w nw))) rfl (fun h971 => ?_) (fun h971 => ?_)
        · rw [if_pos h971] at e
          refine mm_T.seg (f' := (70, [some (.ref 62), some (.int y1), some (.int y2), some (.int y3), some (.int y4), some (.int y5), some (.int y6), some (.int (y7 + 1))], [])) (h' := (107, I, J, mm_rf rv sp rr w nw)) 2 rfl ?_
          refine mm_T.mask [true, true, true, true, true, true, true, true] ?_
          exact ih y1 y2 y3 y4 y5 y6 (y7 + 1) I J rv sp rr w nw out e k
        · rw [if_neg h971] at e
          refine mm_T.seg (f' := (108, [some (.ref 62), some (.int y1), some (.int y2), some (.int y3), some (.int y4), some (.int y5), some (.int y6), some (.int y7)], [(.int y7), (.int y6), (.int y4), (.int y2), (.int y3), (.int y1), (.ref 62)])) (h' := (107, I, J, mm_rf rv sp rr w nw)) 7 rfl ?_
          obtain ⟨o972, eo972, e⟩ := mm_bind e
          refine mm_T.call (t := 305) (as := [(.ref 62), (.int y1), (.int y3), (.int y2), (.int y4), (.int y6), (.int y7)]) (f' := (111, [some (.ref 62), some (.int y1), some (.int y2), some (.int y3), some (.int y4), some (.int y5), some (.int y6), some (.int y7)], [])) rfl (tX12_isRest (d + 3) n y1 y3 y2 y4 y6 y7 I J rv sp rr w nw o972 eo972) (fun v h hq => ?_)
          obtain ⟨rfl, rfl⟩ := hq
          refine mm_T.br (c := o972 = 0) (a := ((114, [some (.ref 62), some (.int y1), some (.int y2), some (.int y3), some (.int y4), some (.int y5), some (.int y6), some (.int y7)], []), (107, I, J, mm_rf rv sp rr w nw))) (b := ((117, [some (.ref 62), some (.int y1), some (.int y2), some (.int y3), some (.int y4), some (.int y5), some (.int y6), some (.int y7)], []), (107, I, J, mm_rf rv sp rr w nw))) rfl (fun h973 => ?_) (fun h973 => ?_)
          · rw [if_pos h973] at e
            refine mm_T.seg (f' := (70, [some (.ref 62), some (.int y1), some (.int y2), some (.int y3), some (.int y4), some (.int y5), some (.int y6), some (.int (y7 + 1))], [])) (h' := (107, I, J, mm_rf rv sp rr w nw)) 3 rfl ?_
            refine mm_T.mask [true, true, true, true, true, true, true, true] ?_
            exact ih y1 y2 y3 y4 y5 y6 (y7 + 1) I J rv sp rr w nw out e k
          · rw [if_neg h973] at e
            refine mm_T.seg (f' := (119, [some (.ref 62), some (.int y1), some (.int y2), some (.int y3), some (.int y4), some (.int y5), some (.int y6), some (.int y7)], [(.int y5)])) (h' := (107, I, J, mm_rf rv sp rr w nw)) 1 rfl ?_
            refine mm_T.br (c := y5 = 0) (a := ((122, [some (.ref 62), some (.int y1), some (.int y2), some (.int y3), some (.int y4), some (.int y5), some (.int y6), some (.int y7)], []), (107, I, J, mm_rf rv sp rr w nw))) (b := ((143, [some (.ref 62), some (.int y1), some (.int y2), some (.int y3), some (.int y4), some (.int y5), some (.int y6), some (.int y7)], []), (107, I, J, mm_rf rv sp rr w nw))) rfl (fun h974 => ?_) (fun h974 => ?_)
            · rw [if_pos h974] at e
              refine mm_T.seg (f' := (70, [some (.ref 62), some (.int y1), some (.int y2), some (.int y3), some (.int y4), some (.int (y5 + 1)), some (.int y6), some (.int (y7 + 1))], [])) (h' := (107, (mm_up (mm_up (mm_up I 88 0 y6) 88 1 y7) 62 61 2), J, mm_rf rv sp rr w nw)) 16 rfl ?_
              refine mm_T.mask [true, true, true, true, true, true, true, true] ?_
              exact ih y1 y2 y3 y4 (y5 + 1) y6 (y7 + 1) (mm_up (mm_up (mm_up I 88 0 y6) 88 1 y7) 62 61 2) J rv sp rr w nw out e k
            · rw [if_neg h974] at e
              refine mm_T.seg (f' := (70, [some (.ref 62), some (.int y1), some (.int y2), some (.int y3), some (.int y4), some (.int (y5 + 1)), some (.int y6), some (.int (y7 + 1))], [])) (h' := (107, I, J, mm_rf rv sp rr w nw)) 3 rfl ?_
              refine mm_T.mask [true, true, true, true, true, true, true, true] ?_
              exact ih y1 y2 y3 y4 (y5 + 1) y6 (y7 + 1) I J rv sp rr w nw out e k
    · rw [if_neg h969] at e
      cases e
      refine mm_T.mask [true, true, true, true, true, true, true, false] ?_
      exact k
set_option maxRecDepth 100000 in
set_option maxHeartbeats 4000000 in
theorem tlX12_guests_L58 (d : Nat) (Q : Option Value → mm_H → Prop) : ∀ (n : Nat) (y1 : Int32) (y2 : Int32) (y3 : Int32) (y4 : Int32) (y5 : Int32) (y6 : Int32) (I : Nat → Nat → Int32) (J : Nat → Nat → Int64) (rv sp rr w nw : Nat), ∀ (out : Int32 × (Nat → Nat → Int32)), fX12_guests_L58 n y1 y2 y3 y4 y5 y6 I = some out → mm_T none (d + 6) 306 (158, [none, none, none, none, none, some (.int out.1), none, none], []) (107, out.2, J, mm_rf rv sp rr w nw) Q → mm_T none (d + 6) 306 (58, [some (.ref 62), some (.int y1), some (.int y2), some (.int y3), some (.int y4), some (.int y5), some (.int y6), none], []) (107, I, J, mm_rf rv sp rr w nw) Q := by
  intro n
  induction n with
  | zero =>
    intro y1 y2 y3 y4 y5 y6 I J rv sp rr w nw out e k
    rw [fX12_guests_L58] at e; cases e
  | succ n ih =>
    intro y1 y2 y3 y4 y5 y6 I J rv sp rr w nw out e k
    rw [fX12_guests_L58] at e
    refine mm_T.seg (f' := (64, [some (.ref 62), some (.int y1), some (.int y2), some (.int y3), some (.int y4), some (.int y5), some (.int y6), none], [(.int (I 62 46)), (.int y6)])) (h' := (107, I, J, mm_rf rv sp rr w nw)) 3 rfl ?_
    refine mm_T.br (c := y6 < (I 62 46)) (a := ((67, [some (.ref 62), some (.int y1), some (.int y2), some (.int y3), some (.int y4), some (.int y5), some (.int y6), none], []), (107, I, J, mm_rf rv sp rr w nw))) (b := ((158, [some (.ref 62), some (.int y1), some (.int y2), some (.int y3), some (.int y4), some (.int y5), some (.int y6), none], []), (107, I, J, mm_rf rv sp rr w nw))) rfl (fun h968 => ?_) (fun h968 => ?_)
    · rw [if_pos h968] at e
      refine mm_T.seg (f' := (70, [some (.ref 62), some (.int y1), some (.int y2), some (.int y3), some (.int y4), some (.int y5), some (.int y6), some (.int 0)], [])) (h' := (107, I, J, mm_rf rv sp rr w nw)) 2 rfl ?_
      refine mm_T.mask [true, true, true, true, true, true, true, true] ?_
      obtain ⟨o975, eo975, e⟩ := mm_bind e
      refine tlX12_guests_L70 d _ n y1 y2 y3 y4 y5 y6 0 I J rv sp rr w nw o975 eo975 ?_
      refine mm_T.seg (f' := (58, [some (.ref 62), some (.int y1), some (.int y2), some (.int y3), some (.int y4), some (.int o975.1), some (.int (y6 + 1)), none], [])) (h' := (107, o975.2, J, mm_rf rv sp rr w nw)) 2 rfl ?_
      refine mm_T.mask [true, true, true, true, true, true, true, false] ?_
      exact ih y1 y2 y3 y4 o975.1 (y6 + 1) o975.2 J rv sp rr w nw out e k
    · rw [if_neg h968] at e
      cases e
      refine mm_T.mask [false, false, false, false, false, true, false, false] ?_
      exact k
set_option maxRecDepth 100000 in
set_option maxHeartbeats 4000000 in
theorem tX12_guests (d n : Nat) (x1 : Int32) (x2 : Int32) (I : Nat → Nat → Int32) (J : Nat → Nat → Int64) (rv sp rr w nw : Nat) (out : Int32 × (Nat → Nat → Int32)) (e : fX12_guests n x1 x2 I = some out) : mm_T none (d + 6) 306 (mm_ent 306 [(.ref 62), (.int x1), (.int x2)]) (107, I, J, mm_rf rv sp rr w nw) (fun v h => v = some (.int out.1) ∧ h = (107, out.2, J, mm_rf rv sp rr w nw)) := by
  unfold fX12_guests at e
  refine mm_T.seg (f' := (7, [some (.ref 62), some (.int x1), some (.int x2), none, none, none, none, none], [(.int x1), (.ref 62)])) (h' := (107, (mm_up I 62 61 0), J, mm_rf rv sp rr w nw)) 5 rfl ?_
  obtain ⟨o959, eo959, e⟩ := mm_bind e
  refine mm_T.call (t := 253) (as := [(.ref 62), (.int x1)]) (f' := (10, [some (.ref 62), some (.int x1), some (.int x2), none, none, none, none, none], [])) rfl (tX12_isBoard (d + 4) x1 (mm_up I 62 61 0) J rv sp rr w nw o959 eo959) (fun v h hq => ?_)
  obtain ⟨rfl, rfl⟩ := hq
  refine mm_T.br (c := o959 = 0) (a := ((26, [some (.ref 62), some (.int x1), some (.int x2), none, none, none, none, none], []), (107, (mm_up I 62 61 0), J, mm_rf rv sp rr w nw))) (b := ((13, [some (.ref 62), some (.int x1), some (.int x2), none, none, none, none, none], []), (107, (mm_up I 62 61 0), J, mm_rf rv sp rr w nw))) rfl (fun h960 => ?_) (fun h960 => ?_)
  · rw [if_pos h960] at e
    refine mm_T.seg (f' := (27, [some (.ref 62), some (.int x1), some (.int x2), none, none, none, none, none], [(.int (-1))])) (h' := (107, (mm_up I 62 61 0), J, mm_rf rv sp rr w nw)) 1 rfl ?_
    cases e
    exact mm_T.ret rfl ⟨rfl, rfl⟩
  · rw [if_neg h960] at e
    refine mm_T.seg (f' := (15, [some (.ref 62), some (.int x1), some (.int x2), none, none, none, none, none], [(.int x2), (.ref 62)])) (h' := (107, (mm_up I 62 61 0), J, mm_rf rv sp rr w nw)) 2 rfl ?_
    obtain ⟨o961, eo961, e⟩ := mm_bind e
    refine mm_T.call (t := 253) (as := [(.ref 62), (.int x2)]) (f' := (18, [some (.ref 62), some (.int x1), some (.int x2), none, none, none, none, none], [])) rfl (tX12_isBoard (d + 4) x2 (mm_up I 62 61 0) J rv sp rr w nw o961 eo961) (fun v h hq => ?_)
    obtain ⟨rfl, rfl⟩ := hq
    refine mm_T.br (c := o961 = 0) (a := ((26, [some (.ref 62), some (.int x1), some (.int x2), none, none, none, none, none], []), (107, (mm_up I 62 61 0), J, mm_rf rv sp rr w nw))) (b := ((21, [some (.ref 62), some (.int x1), some (.int x2), none, none, none, none, none], []), (107, (mm_up I 62 61 0), J, mm_rf rv sp rr w nw))) rfl (fun h962 => ?_) (fun h962 => ?_)
    · rw [if_pos h962] at e
      refine mm_T.seg (f' := (27, [some (.ref 62), some (.int x1), some (.int x2), none, none, none, none, none], [(.int (-1))])) (h' := (107, (mm_up I 62 61 0), J, mm_rf rv sp rr w nw)) 1 rfl ?_
      cases e
      exact mm_T.ret rfl ⟨rfl, rfl⟩
    · rw [if_neg h962] at e
      refine mm_T.seg (f' := (23, [some (.ref 62), some (.int x1), some (.int x2), none, none, none, none, none], [(.int x2), (.int x1)])) (h' := (107, (mm_up I 62 61 0), J, mm_rf rv sp rr w nw)) 2 rfl ?_
      refine mm_T.br (c := x1 = x2) (a := ((26, [some (.ref 62), some (.int x1), some (.int x2), none, none, none, none, none], []), (107, (mm_up I 62 61 0), J, mm_rf rv sp rr w nw))) (b := ((28, [some (.ref 62), some (.int x1), some (.int x2), none, none, none, none, none], []), (107, (mm_up I 62 61 0), J, mm_rf rv sp rr w nw))) rfl (fun h963 => ?_) (fun h963 => ?_)
      · rw [if_pos h963] at e
        refine mm_T.seg (f' := (27, [some (.ref 62), some (.int x1), some (.int x2), none, none, none, none, none], [(.int (-1))])) (h' := (107, (mm_up I 62 61 0), J, mm_rf rv sp rr w nw)) 1 rfl ?_
        cases e
        exact mm_T.ret rfl ⟨rfl, rfl⟩
      · rw [if_neg h963] at e
        refine mm_T.seg (f' := (30, [some (.ref 62), some (.int x1), some (.int x2), none, none, none, none, none], [(.int x1), (.ref 62)])) (h' := (107, (mm_up I 62 61 0), J, mm_rf rv sp rr w nw)) 2 rfl ?_
        obtain ⟨o964, eo964, e⟩ := mm_bind e
        refine mm_T.call (t := 281) (as := [(.ref 62), (.int x1)]) (f' := (33, [some (.ref 62), some (.int x1), some (.int x2), none, none, none, none, none], [])) rfl (tX12_landingsOf (d + 0) n x1 (mm_up I 62 61 0) J rv sp rr w nw o964 eo964) (fun v h hq => ?_)
        obtain ⟨rfl, rfl⟩ := hq
        refine mm_T.seg (f' := (36, [some (.ref 62), some (.int x1), some (.int x2), some (.int o964.1), none, none, none, none], [(.int x2), (.ref 62)])) (h' := (107, o964.2, J, mm_rf rv sp rr w nw)) 3 rfl ?_
        obtain ⟨o965, eo965, e⟩ := mm_bind e
        refine mm_T.call (t := 281) (as := [(.ref 62), (.int x2)]) (f' := (39, [some (.ref 62), some (.int x1), some (.int x2), some (.int o964.1), none, none, none, none], [])) rfl (tX12_landingsOf (d + 0) n x2 o964.2 J rv sp rr w nw o965 eo965) (fun v h hq => ?_)
        obtain ⟨rfl, rfl⟩ := hq
        refine mm_T.seg (f' := (42, [some (.ref 62), some (.int x1), some (.int x2), some (.int o964.1), some (.int o965.1), none, none, none], [(.int o964.1)])) (h' := (107, o965.2, J, mm_rf rv sp rr w nw)) 2 rfl ?_
        refine mm_T.br (c := o964.1 = 0) (a := ((50, [some (.ref 62), some (.int x1), some (.int x2), some (.int o964.1), some (.int o965.1), none, none, none], []), (107, o965.2, J, mm_rf rv sp rr w nw))) (b := ((45, [some (.ref 62), some (.int x1), some (.int x2), some (.int o964.1), some (.int o965.1), none, none, none], []), (107, o965.2, J, mm_rf rv sp rr w nw))) rfl (fun h966 => ?_) (fun h966 => ?_)
        · rw [if_pos h966] at e
          refine mm_T.seg (f' := (51, [some (.ref 62), some (.int x1), some (.int x2), some (.int o964.1), some (.int o965.1), none, none, none], [(.int (-1))])) (h' := (107, o965.2, J, mm_rf rv sp rr w nw)) 1 rfl ?_
          cases e
          exact mm_T.ret rfl ⟨rfl, rfl⟩
        · rw [if_neg h966] at e
          refine mm_T.seg (f' := (47, [some (.ref 62), some (.int x1), some (.int x2), some (.int o964.1), some (.int o965.1), none, none, none], [(.int o965.1)])) (h' := (107, o965.2, J, mm_rf rv sp rr w nw)) 1 rfl ?_
          refine mm_T.br (c := o965.1 = 0) (a := ((50, [some (.ref 62), some (.int x1), some (.int x2), some (.int o964.1), some (.int o965.1), none, none, none], []), (107, o965.2, J, mm_rf rv sp rr w nw))) (b := ((52, [some (.ref 62), some (.int x1), some (.int x2), some (.int o964.1), some (.int o965.1), none, none, none], []), (107, o965.2, J, mm_rf rv sp rr w nw))) rfl (fun h967 => ?_) (fun h967 => ?_)
          · rw [if_pos h967] at e
            refine mm_T.seg (f' := (51, [some (.ref 62), some (.int x1), some (.int x2), some (.int o964.1), some (.int o965.1), none, none, none], [(.int (-1))])) (h' := (107, o965.2, J, mm_rf rv sp rr w nw)) 1 rfl ?_
            cases e
            exact mm_T.ret rfl ⟨rfl, rfl⟩
          · rw [if_neg h967] at e
            refine mm_T.seg (f' := (58, [some (.ref 62), some (.int x1), some (.int x2), some (.int o964.1), some (.int o965.1), some (.int 0), some (.int 0), none], [])) (h' := (107, o965.2, J, mm_rf rv sp rr w nw)) 4 rfl ?_
            refine mm_T.mask [true, true, true, true, true, true, true, false] ?_
            obtain ⟨o976, eo976, e⟩ := mm_bind e
            refine tlX12_guests_L58 d _ n x1 x2 o964.1 o965.1 0 0 o965.2 J rv sp rr w nw o976 eo976 ?_
            refine mm_T.seg (f' := (160, [none, none, none, none, none, some (.int o976.1), none, none], [(.int o976.1)])) (h' := (107, o976.2, J, mm_rf rv sp rr w nw)) 1 rfl ?_
            cases e
            exact mm_T.ret rfl ⟨rfl, rfl⟩
def fX12_singe_L16 (n : Nat) (y1 : Int32) (y2 : Int32) (I : Nat → Nat → Int32) : Option ((Int32 ⊕ (Unit)) × (Nat → Nat → Int32)) := match n with
  | 0 => none
  | n + 1 => (fX12_leftOf y1 I).bind fun o980 => (if o980 < y2 then some (.inr (), I) else (fX12_goStroke n y1 0 1 1 I).bind fun o982 => (if (o982.1 - o982.1 / 2 * 2) = 1 then some (.inl (-1), o982.2) else (if o982.1 = 2 then some (.inl y2, o982.2) else fX12_singe_L16 n y1 (y2 + 1) o982.2)))
def fX12_singe (n : Nat) (x1 : Int32) (I : Nat → Nat → Int32) : Option (Int32 × (Nat → Nat → Int32)) := (fX12_isBoard x1 I).bind fun o977 => (if o977 = 0 then some ((-1), I) else (fX12_fill n I).bind fun o979 => (fX12_singe_L16 n x1 1 o979).bind fun o985 => (match o985 with | (.inl r, s0) => some (r, s0) | (.inr y, s0) => some ((-1), s0)))
set_option maxRecDepth 100000 in
set_option maxHeartbeats 4000000 in
theorem tlX12_singe_L16 (d : Nat) (Q : Option Value → mm_H → Prop) : ∀ (n : Nat) (y1 : Int32) (y2 : Int32) (I : Nat → Nat → Int32) (J : Nat → Nat → Int64) (rv sp rr w nw : Nat), ∀ (out : (Int32 ⊕ (Unit)) × (Nat → Nat → Int32)), fX12_singe_L16 n y1 y2 I = some out → (∀ (r : Int32) (s0 : Nat → Nat → Int32), out = (.inl r, s0) → Q (some (.int r)) (107, s0, J, mm_rf rv sp rr w nw)) → (∀ (y : Unit) (s0 : Nat → Nat → Int32), out = (.inr y, s0) → mm_T none (d + 4) 307 (56, [none, none, none, none], []) (107, s0, J, mm_rf rv sp rr w nw) Q) → mm_T none (d + 4) 307 (16, [some (.ref 62), some (.int y1), some (.int y2), none], []) (107, I, J, mm_rf rv sp rr w nw) Q := by
  intro n
  induction n with
  | zero =>
    intro y1 y2 I J rv sp rr w nw out e kr ke
    rw [fX12_singe_L16] at e; cases e
  | succ n ih =>
    intro y1 y2 I J rv sp rr w nw out e kr ke
    rw [fX12_singe_L16] at e
    refine mm_T.seg (f' := (19, [some (.ref 62), some (.int y1), some (.int y2), none], [(.int y1), (.ref 62), (.int y2)])) (h' := (107, I, J, mm_rf rv sp rr w nw)) 3 rfl ?_
    obtain ⟨o980, eo980, e⟩ := mm_bind e
    refine mm_T.call (t := 278) (as := [(.ref 62), (.int y1)]) (f' := (22, [some (.ref 62), some (.int y1), some (.int y2), none], [(.int y2)])) rfl (tX12_leftOf (d + 3) y1 I J rv sp rr w nw o980 eo980) (fun v h hq => ?_)
    obtain ⟨rfl, rfl⟩ := hq
    refine mm_T.br (c := o980 < y2) (a := ((56, [some (.ref 62), some (.int y1), some (.int y2), none], []), (107, I, J, mm_rf rv sp rr w nw))) (b := ((25, [some (.ref 62), some (.int y1), some (.int y2), none], []), (107, I, J, mm_rf rv sp rr w nw))) rfl (fun h981 => ?_) (fun h981 => ?_)
    · rw [if_pos h981] at e
      cases e
      refine mm_T.mask [false, false, false, false] ?_
      exact ke _ _ rfl
    · rw [if_neg h981] at e
      refine mm_T.seg (f' := (30, [some (.ref 62), some (.int y1), some (.int y2), none], [(.int 1), (.int 1), (.int 0), (.int y1), (.ref 62)])) (h' := (107, I, J, mm_rf rv sp rr w nw)) 5 rfl ?_
      obtain ⟨o982, eo982, e⟩ := mm_bind e
      refine mm_T.call (t := 261) (as := [(.ref 62), (.int y1), (.int 0), (.int 1), (.int 1)]) (f' := (33, [some (.ref 62), some (.int y1), some (.int y2), none], [])) rfl (tX12_goStroke (d + 0) n y1 0 1 1 I J rv sp rr w nw o982 eo982) (fun v h hq => ?_)
      obtain ⟨rfl, rfl⟩ := hq
      refine mm_T.seg (f' := (38, [some (.ref 62), some (.int y1), some (.int y2), some (.int o982.1)], [(.int 1), (.int (o982.1 - o982.1 / 2 * 2))])) (h' := (107, o982.2, J, mm_rf rv sp rr w nw)) 5 rfl ?_
      refine mm_T.br (c := (o982.1 - o982.1 / 2 * 2) = 1) (a := ((41, [some (.ref 62), some (.int y1), some (.int y2), some (.int o982.1)], []), (107, o982.2, J, mm_rf rv sp rr w nw))) (b := ((43, [some (.ref 62), some (.int y1), some (.int y2), some (.int o982.1)], []), (107, o982.2, J, mm_rf rv sp rr w nw))) rfl (fun h983 => ?_) (fun h983 => ?_)
      · rw [if_pos h983] at e
        refine mm_T.seg (f' := (42, [some (.ref 62), some (.int y1), some (.int y2), some (.int o982.1)], [(.int (-1))])) (h' := (107, o982.2, J, mm_rf rv sp rr w nw)) 1 rfl ?_
        cases e
        exact mm_T.ret rfl (kr _ _ rfl)
      · rw [if_neg h983] at e
        refine mm_T.seg (f' := (45, [some (.ref 62), some (.int y1), some (.int y2), some (.int o982.1)], [(.int 2), (.int o982.1)])) (h' := (107, o982.2, J, mm_rf rv sp rr w nw)) 2 rfl ?_
        refine mm_T.br (c := o982.1 = 2) (a := ((48, [some (.ref 62), some (.int y1), some (.int y2), some (.int o982.1)], []), (107, o982.2, J, mm_rf rv sp rr w nw))) (b := ((50, [some (.ref 62), some (.int y1), some (.int y2), some (.int o982.1)], []), (107, o982.2, J, mm_rf rv sp rr w nw))) rfl (fun h984 => ?_) (fun h984 => ?_)
        · rw [if_pos h984] at e
          refine mm_T.seg (f' := (49, [some (.ref 62), some (.int y1), some (.int y2), some (.int o982.1)], [(.int y2)])) (h' := (107, o982.2, J, mm_rf rv sp rr w nw)) 1 rfl ?_
          cases e
          exact mm_T.ret rfl (kr _ _ rfl)
        · rw [if_neg h984] at e
          refine mm_T.seg (f' := (16, [some (.ref 62), some (.int y1), some (.int (y2 + 1)), some (.int o982.1)], [])) (h' := (107, o982.2, J, mm_rf rv sp rr w nw)) 2 rfl ?_
          refine mm_T.mask [true, true, true, false] ?_
          exact ih y1 (y2 + 1) o982.2 J rv sp rr w nw out e kr ke
set_option maxRecDepth 100000 in
set_option maxHeartbeats 4000000 in
theorem tX12_singe (d n : Nat) (x1 : Int32) (I : Nat → Nat → Int32) (J : Nat → Nat → Int64) (rv sp rr w nw : Nat) (out : Int32 × (Nat → Nat → Int32)) (e : fX12_singe n x1 I = some out) : mm_T none (d + 4) 307 (mm_ent 307 [(.ref 62), (.int x1)]) (107, I, J, mm_rf rv sp rr w nw) (fun v h => v = some (.int out.1) ∧ h = (107, out.2, J, mm_rf rv sp rr w nw)) := by
  unfold fX12_singe at e
  refine mm_T.seg (f' := (2, [some (.ref 62), some (.int x1), none, none], [(.int x1), (.ref 62)])) (h' := (107, I, J, mm_rf rv sp rr w nw)) 2 rfl ?_
  obtain ⟨o977, eo977, e⟩ := mm_bind e
  refine mm_T.call (t := 253) (as := [(.ref 62), (.int x1)]) (f' := (5, [some (.ref 62), some (.int x1), none, none], [])) rfl (tX12_isBoard (d + 2) x1 I J rv sp rr w nw o977 eo977) (fun v h hq => ?_)
  obtain ⟨rfl, rfl⟩ := hq
  refine mm_T.br (c := o977 = 0) (a := ((8, [some (.ref 62), some (.int x1), none, none], []), (107, I, J, mm_rf rv sp rr w nw))) (b := ((10, [some (.ref 62), some (.int x1), none, none], []), (107, I, J, mm_rf rv sp rr w nw))) rfl (fun h978 => ?_) (fun h978 => ?_)
  · rw [if_pos h978] at e
    refine mm_T.seg (f' := (9, [some (.ref 62), some (.int x1), none, none], [(.int (-1))])) (h' := (107, I, J, mm_rf rv sp rr w nw)) 1 rfl ?_
    cases e
    exact mm_T.ret rfl ⟨rfl, rfl⟩
  · rw [if_neg h978] at e
    refine mm_T.seg (f' := (11, [some (.ref 62), some (.int x1), none, none], [(.ref 62)])) (h' := (107, I, J, mm_rf rv sp rr w nw)) 1 rfl ?_
    obtain ⟨o979, eo979, e⟩ := mm_bind e
    refine mm_T.call (t := 256) (as := [(.ref 62)]) (f' := (14, [some (.ref 62), some (.int x1), none, none], [])) rfl (tX12_fill (d + 3) n I J rv sp rr w nw o979 eo979) (fun v h hq => ?_)
    obtain ⟨rfl, rfl⟩ := hq
    refine mm_T.seg (f' := (16, [some (.ref 62), some (.int x1), some (.int 1), none], [])) (h' := (107, o979, J, mm_rf rv sp rr w nw)) 2 rfl ?_
    refine mm_T.mask [true, true, true, false] ?_
    obtain ⟨o985, eo985, e⟩ := mm_bind e
    rcases o985 with ⟨r | y, s0⟩
    · cases e
      refine tlX12_singe_L16 d _ n x1 1 o979 J rv sp rr w nw (.inl r, s0) eo985 (fun z z0 hz => ?_) (fun z z0 hz => ?_)
      · cases hz; exact ⟨rfl, rfl⟩
      · cases hz
    · refine tlX12_singe_L16 d _ n x1 1 o979 J rv sp rr w nw (.inr y, s0) eo985 (fun z z0 hz => ?_) (fun z z0 hz => ?_)
      · cases hz
      · cases hz
        refine mm_T.seg (f' := (57, [none, none, none, none], [(.int (-1))])) (h' := (107, s0, J, mm_rf rv sp rr w nw)) 1 rfl ?_
        cases e
        exact mm_T.ret rfl ⟨rfl, rfl⟩
def fX12_divisor_L4 (n : Nat) (y2 : Int32) (y3 : Int32) : Option (Int32) := match n with
  | 0 => none
  | n + 1 => (if 0 < y3 then (if y3 = 0 then none else fX12_divisor_L4 n y3 (y2 - y2 / y3 * y3)) else some y2)
def fX12_divisor (n : Nat) (x0 : Int32) (x1 : Int32) : Option (Int32) := (fX12_divisor_L4 n x0 x1).bind fun o988 => some o988
set_option maxRecDepth 100000 in
set_option maxHeartbeats 4000000 in
theorem tlX12_divisor_L4 (d : Nat) (Q : Option Value → mm_H → Prop) : ∀ (n : Nat) (y2 : Int32) (y3 : Int32) (I : Nat → Nat → Int32) (J : Nat → Nat → Int64) (rv sp rr w nw : Nat), ∀ (out : Int32), fX12_divisor_L4 n y2 y3 = some out → mm_T none (d + 0) 308 (21, [none, none, some (.int out), none, none], []) (107, I, J, mm_rf rv sp rr w nw) Q → mm_T none (d + 0) 308 (4, [none, none, some (.int y2), some (.int y3), none], []) (107, I, J, mm_rf rv sp rr w nw) Q := by
  intro n
  induction n with
  | zero =>
    intro y2 y3 I J rv sp rr w nw out e k
    rw [fX12_divisor_L4] at e; cases e
  | succ n ih =>
    intro y2 y3 I J rv sp rr w nw out e k
    rw [fX12_divisor_L4] at e
    refine mm_T.seg (f' := (5, [none, none, some (.int y2), some (.int y3), none], [(.int y3)])) (h' := (107, I, J, mm_rf rv sp rr w nw)) 1 rfl ?_
    refine mm_T.br (c := 0 < y3) (a := ((8, [none, none, some (.int y2), some (.int y3), none], []), (107, I, J, mm_rf rv sp rr w nw))) (b := ((21, [none, none, some (.int y2), some (.int y3), none], []), (107, I, J, mm_rf rv sp rr w nw))) rfl (fun h986 => ?_) (fun h986 => ?_)
    · rw [if_pos h986] at e
      refine mm_T.seg (f' := (10, [none, none, some (.int y2), some (.int y3), none], [(.int y3), (.int y2)])) (h' := (107, I, J, mm_rf rv sp rr w nw)) 2 rfl ?_
      by_cases h987 : y3 = 0
      · rw [if_pos h987] at e; cases e
      rw [if_neg h987] at e
      refine mm_T.guard (y := ((11, [none, none, some (.int y2), some (.int y3), none], [(.int (y2 - y2 / y3 * y3))]), (107, I, J, mm_rf rv sp rr w nw))) rfl h987 ?_
      refine mm_T.seg (f' := (4, [none, none, some (.int y3), some (.int (y2 - y2 / y3 * y3)), some (.int (y2 - y2 / y3 * y3))], [])) (h' := (107, I, J, mm_rf rv sp rr w nw)) 6 rfl ?_
      refine mm_T.mask [false, false, true, true, false] ?_
      exact ih y3 (y2 - y2 / y3 * y3) I J rv sp rr w nw out e k
    · rw [if_neg h986] at e
      cases e
      refine mm_T.mask [false, false, true, false, false] ?_
      exact k
set_option maxRecDepth 100000 in
set_option maxHeartbeats 4000000 in
theorem tX12_divisor (d n : Nat) (x0 : Int32) (x1 : Int32) (I : Nat → Nat → Int32) (J : Nat → Nat → Int64) (rv sp rr w nw : Nat) (out : Int32) (e : fX12_divisor n x0 x1 = some out) : mm_T none (d + 0) 308 (mm_ent 308 [(.int x0), (.int x1)]) (107, I, J, mm_rf rv sp rr w nw) (fun v h => v = some (.int out) ∧ h = (107, I, J, mm_rf rv sp rr w nw)) := by
  unfold fX12_divisor at e
  refine mm_T.seg (f' := (4, [some (.int x0), some (.int x1), some (.int x0), some (.int x1), none], [])) (h' := (107, I, J, mm_rf rv sp rr w nw)) 4 rfl ?_
  refine mm_T.mask [false, false, true, true, false] ?_
  obtain ⟨o988, eo988, e⟩ := mm_bind e
  refine tlX12_divisor_L4 d _ n x0 x1 I J rv sp rr w nw o988 eo988 ?_
  refine mm_T.seg (f' := (22, [none, none, some (.int o988), none, none], [(.int o988)])) (h' := (107, I, J, mm_rf rv sp rr w nw)) 1 rfl ?_
  cases e
  exact mm_T.ret rfl ⟨rfl, rfl⟩
def fX12_landsBy_L10 (n : Nat) (y1 : Int32) (y2 : Int32) (y3 : Int32) (y4 : Int32) (y5 : Int32) (I : Nat → Nat → Int32) : Option (Int32 × (Nat → Nat → Int32)) := match n with
  | 0 => none
  | n + 1 => (fX12_leftOf y1 I).bind fun o990 => (if y5 < o990 then (if y4 = 0 then some (y4, I) else (fX12_goStroke n y1 0 1 (1 + ((y3 >>> (y5 &&& 31)) &&& 1)) I).bind fun o993 => (if (o993.1 - o993.1 / 2 * 2) = 0 then fX12_landsBy_L10 n y1 y2 y3 1 (y5 + 1) o993.2 else fX12_landsBy_L10 n y1 y2 y3 0 (y5 + 1) o993.2)) else some (y4, I))
def fX12_landsBy (n : Nat) (x1 : Int32) (x2 : Int32) (x3 : Int32) (I : Nat → Nat → Int32) : Option (Int32 × (Nat → Nat → Int32)) := (fX12_fill n I).bind fun o989 => (fX12_landsBy_L10 n x1 x2 x3 1 0 o989).bind fun o995 => (if o995.1 = 0 then some (0, o995.2) else (if x1 < 0 ∨ 28 ≤ x1.toNatClampNeg then none else (if (o995.2 85 x1.toNatClampNeg) = x2 then some (1, o995.2) else some (0, o995.2))))
set_option maxRecDepth 100000 in
set_option maxHeartbeats 4000000 in
theorem tlX12_landsBy_L10 (d : Nat) (Q : Option Value → mm_H → Prop) : ∀ (n : Nat) (y1 : Int32) (y2 : Int32) (y3 : Int32) (y4 : Int32) (y5 : Int32) (I : Nat → Nat → Int32) (J : Nat → Nat → Int64) (rv sp rr w nw : Nat), ∀ (out : Int32 × (Nat → Nat → Int32)), fX12_landsBy_L10 n y1 y2 y3 y4 y5 I = some out → mm_T none (d + 4) 309 (58, [some (.ref 62), some (.int y1), some (.int y2), none, some (.int out.1), none], []) (107, out.2, J, mm_rf rv sp rr w nw) Q → mm_T none (d + 4) 309 (10, [some (.ref 62), some (.int y1), some (.int y2), some (.int y3), some (.int y4), some (.int y5)], []) (107, I, J, mm_rf rv sp rr w nw) Q := by
  intro n
  induction n with
  | zero =>
    intro y1 y2 y3 y4 y5 I J rv sp rr w nw out e k
    rw [fX12_landsBy_L10] at e; cases e
  | succ n ih =>
    intro y1 y2 y3 y4 y5 I J rv sp rr w nw out e k
    rw [fX12_landsBy_L10] at e
    refine mm_T.seg (f' := (14, [some (.ref 62), some (.int y1), some (.int y2), some (.int y3), some (.int y4), some (.int y5)], [(.int y1), (.ref 62), (.int y5)])) (h' := (107, I, J, mm_rf rv sp rr w nw)) 3 rfl ?_
    obtain ⟨o990, eo990, e⟩ := mm_bind e
    refine mm_T.call (t := 278) (as := [(.ref 62), (.int y1)]) (f' := (17, [some (.ref 62), some (.int y1), some (.int y2), some (.int y3), some (.int y4), some (.int y5)], [(.int y5)])) rfl (tX12_leftOf (d + 3) y1 I J rv sp rr w nw o990 eo990) (fun v h hq => ?_)
    obtain ⟨rfl, rfl⟩ := hq
    refine mm_T.br (c := y5 < o990) (a := ((20, [some (.ref 62), some (.int y1), some (.int y2), some (.int y3), some (.int y4), some (.int y5)], []), (107, I, J, mm_rf rv sp rr w nw))) (b := ((58, [some (.ref 62), some (.int y1), some (.int y2), some (.int y3), some (.int y4), some (.int y5)], []), (107, I, J, mm_rf rv sp rr w nw))) rfl (fun h991 => ?_) (fun h991 => ?_)
    · rw [if_pos h991] at e
      refine mm_T.seg (f' := (22, [some (.ref 62), some (.int y1), some (.int y2), some (.int y3), some (.int y4), some (.int y5)], [(.int y4)])) (h' := (107, I, J, mm_rf rv sp rr w nw)) 1 rfl ?_
      refine mm_T.br (c := y4 = 0) (a := ((58, [some (.ref 62), some (.int y1), some (.int y2), some (.int y3), some (.int y4), some (.int y5)], []), (107, I, J, mm_rf rv sp rr w nw))) (b := ((25, [some (.ref 62), some (.int y1), some (.int y2), some (.int y3), some (.int y4), some (.int y5)], []), (107, I, J, mm_rf rv sp rr w nw))) rfl (fun h992 => ?_) (fun h992 => ?_)
      · rw [if_pos h992] at e
        cases e
        refine mm_T.mask [true, true, true, false, true, false] ?_
        exact k
      · rw [if_neg h992] at e
        refine mm_T.seg (f' := (37, [some (.ref 62), some (.int y1), some (.int y2), some (.int y3), some (.int y4), some (.int y5)], [(.int (1 + ((y3 >>> (y5 &&& 31)) &&& 1))), (.int 1), (.int 0), (.int y1), (.ref 62)])) (h' := (107, I, J, mm_rf rv sp rr w nw)) 11 rfl ?_
        obtain ⟨o993, eo993, e⟩ := mm_bind e
        refine mm_T.call (t := 261) (as := [(.ref 62), (.int y1), (.int 0), (.int 1), (.int (1 + ((y3 >>> (y5 &&& 31)) &&& 1)))]) (f' := (40, [some (.ref 62), some (.int y1), some (.int y2), some (.int y3), some (.int y4), some (.int y5)], [])) rfl (tX12_goStroke (d + 0) n y1 0 1 (1 + ((y3 >>> (y5 &&& 31)) &&& 1)) I J rv sp rr w nw o993 eo993) (fun v h hq => ?_)
        obtain ⟨rfl, rfl⟩ := hq
        refine mm_T.seg (f' := (42, [some (.ref 62), some (.int y1), some (.int y2), some (.int y3), some (.int y4), some (.int y5)], [(.int (o993.1 - o993.1 / 2 * 2))])) (h' := (107, o993.2, J, mm_rf rv sp rr w nw)) 2 rfl ?_
        refine mm_T.br (c := (o993.1 - o993.1 / 2 * 2) = 0) (a := ((45, [some (.ref 62), some (.int y1), some (.int y2), some (.int y3), some (.int y4), some (.int y5)], []), (107, o993.2, J, mm_rf rv sp rr w nw))) (b := ((49, [some (.ref 62), some (.int y1), some (.int y2), some (.int y3), some (.int y4), some (.int y5)], []), (107, o993.2, J, mm_rf rv sp rr w nw))) rfl (fun h994 => ?_) (fun h994 => ?_)
        · rw [if_pos h994] at e
          refine mm_T.seg (f' := (10, [some (.ref 62), some (.int y1), some (.int y2), some (.int y3), some (.int 1), some (.int (y5 + 1))], [])) (h' := (107, o993.2, J, mm_rf rv sp rr w nw)) 5 rfl ?_
          refine mm_T.mask [true, true, true, true, true, true] ?_
          exact ih y1 y2 y3 1 (y5 + 1) o993.2 J rv sp rr w nw out e k
        · rw [if_neg h994] at e
          refine mm_T.seg (f' := (10, [some (.ref 62), some (.int y1), some (.int y2), some (.int y3), some (.int 0), some (.int (y5 + 1))], [])) (h' := (107, o993.2, J, mm_rf rv sp rr w nw)) 4 rfl ?_
          refine mm_T.mask [true, true, true, true, true, true] ?_
          exact ih y1 y2 y3 0 (y5 + 1) o993.2 J rv sp rr w nw out e k
    · rw [if_neg h991] at e
      cases e
      refine mm_T.mask [true, true, true, false, true, false] ?_
      exact k
set_option maxRecDepth 100000 in
set_option maxHeartbeats 4000000 in
theorem tX12_landsBy (d n : Nat) (x1 : Int32) (x2 : Int32) (x3 : Int32) (I : Nat → Nat → Int32) (J : Nat → Nat → Int64) (rv sp rr w nw : Nat) (out : Int32 × (Nat → Nat → Int32)) (e : fX12_landsBy n x1 x2 x3 I = some out) : mm_T none (d + 4) 309 (mm_ent 309 [(.ref 62), (.int x1), (.int x2), (.int x3)]) (107, I, J, mm_rf rv sp rr w nw) (fun v h => v = some (.int out.1) ∧ h = (107, out.2, J, mm_rf rv sp rr w nw)) := by
  unfold fX12_landsBy at e
  refine mm_T.seg (f' := (1, [some (.ref 62), some (.int x1), some (.int x2), some (.int x3), none, none], [(.ref 62)])) (h' := (107, I, J, mm_rf rv sp rr w nw)) 1 rfl ?_
  obtain ⟨o989, eo989, e⟩ := mm_bind e
  refine mm_T.call (t := 256) (as := [(.ref 62)]) (f' := (4, [some (.ref 62), some (.int x1), some (.int x2), some (.int x3), none, none], [])) rfl (tX12_fill (d + 3) n I J rv sp rr w nw o989 eo989) (fun v h hq => ?_)
  obtain ⟨rfl, rfl⟩ := hq
  refine mm_T.seg (f' := (10, [some (.ref 62), some (.int x1), some (.int x2), some (.int x3), some (.int 1), some (.int 0)], [])) (h' := (107, o989, J, mm_rf rv sp rr w nw)) 4 rfl ?_
  refine mm_T.mask [true, true, true, true, true, true] ?_
  obtain ⟨o995, eo995, e⟩ := mm_bind e
  refine tlX12_landsBy_L10 d _ n x1 x2 x3 1 0 o989 J rv sp rr w nw o995 eo995 ?_
  refine mm_T.seg (f' := (60, [some (.ref 62), some (.int x1), some (.int x2), none, some (.int o995.1), none], [(.int o995.1)])) (h' := (107, o995.2, J, mm_rf rv sp rr w nw)) 1 rfl ?_
  refine mm_T.br (c := o995.1 = 0) (a := ((77, [some (.ref 62), some (.int x1), some (.int x2), none, some (.int o995.1), none], []), (107, o995.2, J, mm_rf rv sp rr w nw))) (b := ((63, [some (.ref 62), some (.int x1), some (.int x2), none, some (.int o995.1), none], []), (107, o995.2, J, mm_rf rv sp rr w nw))) rfl (fun h996 => ?_) (fun h996 => ?_)
  · rw [if_pos h996] at e
    refine mm_T.seg (f' := (78, [some (.ref 62), some (.int x1), some (.int x2), none, some (.int o995.1), none], [(.int 0)])) (h' := (107, o995.2, J, mm_rf rv sp rr w nw)) 1 rfl ?_
    cases e
    exact mm_T.ret rfl ⟨rfl, rfl⟩
  · rw [if_neg h996] at e
    refine mm_T.seg (f' := (68, [some (.ref 62), some (.int x1), some (.int x2), none, some (.int o995.1), none], [(.int x1), (.ref 85)])) (h' := (107, o995.2, J, mm_rf rv sp rr w nw)) 3 rfl ?_
    by_cases h997 : x1 < 0 ∨ 28 ≤ x1.toNatClampNeg
    · rw [if_pos h997] at e; cases e
    rw [if_neg h997] at e
    refine mm_T.guard (y := ((69, [some (.ref 62), some (.int x1), some (.int x2), none, some (.int o995.1), none], [(.int (o995.2 85 x1.toNatClampNeg))]), (107, o995.2, J, mm_rf rv sp rr w nw))) rfl h997 ?_
    refine mm_T.seg (f' := (70, [some (.ref 62), some (.int x1), some (.int x2), none, some (.int o995.1), none], [(.int x2), (.int (o995.2 85 x1.toNatClampNeg))])) (h' := (107, o995.2, J, mm_rf rv sp rr w nw)) 1 rfl ?_
    refine mm_T.br (c := (o995.2 85 x1.toNatClampNeg) = x2) (a := ((73, [some (.ref 62), some (.int x1), some (.int x2), none, some (.int o995.1), none], []), (107, o995.2, J, mm_rf rv sp rr w nw))) (b := ((77, [some (.ref 62), some (.int x1), some (.int x2), none, some (.int o995.1), none], []), (107, o995.2, J, mm_rf rv sp rr w nw))) rfl (fun h998 => ?_) (fun h998 => ?_)
    · rw [if_pos h998] at e
      refine mm_T.seg (f' := (78, [some (.ref 62), some (.int x1), some (.int x2), none, some (.int o995.1), none], [(.int 1)])) (h' := (107, o995.2, J, mm_rf rv sp rr w nw)) 2 rfl ?_
      cases e
      exact mm_T.ret rfl ⟨rfl, rfl⟩
    · rw [if_neg h998] at e
      refine mm_T.seg (f' := (78, [some (.ref 62), some (.int x1), some (.int x2), none, some (.int o995.1), none], [(.int 0)])) (h' := (107, o995.2, J, mm_rf rv sp rr w nw)) 1 rfl ?_
      cases e
      exact mm_T.ret rfl ⟨rfl, rfl⟩
def fX12_odds_L55 (n : Nat) (y1 : Int32) (y2 : Int32) (y3 : Int32) (y4 : Int32) (y5 : Int32) (y6 : Int32) (I : Nat → Nat → Int32) : Option (Int32 × (Nat → Nat → Int32)) := match n with
  | 0 => none
  | n + 1 => (if y6 < (1 <<< (y4 &&& 31)) then (fX12_landsBy n y1 y2 y6 I).bind fun o1007 => (if o1007.1 = 0 then fX12_odds_L55 n y1 y2 y3 y4 y5 (y6 + 1) o1007.2 else (fX12_members n y6).bind fun o1009 => (fX12_power n (o1007.2 62 50) o1009).bind fun o1010 => (fX12_members n y6).bind fun o1011 => (fX12_power n (100 - (o1007.2 62 50)) (y4 - o1011)).bind fun o1012 => fX12_odds_L55 n y1 y2 y3 y4 (y5 + (o1010 * o1012)) (y6 + 1) o1007.2) else some (y5, I))
def fX12_odds (n : Nat) (x1 : Int32) (x2 : Int32) (x3 : Int32) (I : Nat → Nat → Int32) : Option (Int32 × (Nat → Nat → Int32)) := (fX12_isBoard x1 I).bind fun o999 => (if o999 = 0 then some ((-1), I) else (fX12_leftOf x1 I).bind fun o1001 => (if 4 < o1001 then some ((-1), I) else (if (fX12_isIn x2 0 ((I 62 46) - 1)) = 0 then some ((-1), I) else (if (fX12_isIn x3 0 1) = 0 then some ((-1), I) else (fX12_leftOf x1 I).bind fun o1005 => (fX12_odds_L55 n x1 x2 x3 o1005 0 0 I).bind fun o1013 => (fX12_power n 100 o1005).bind fun o1014 => (fX12_divisor n o1014 o1013.1).bind fun o1015 => (if x3 = 0 then (if o1015 = 0 then none else some ((o1013.1 / o1015), o1013.2)) else (if o1015 = 0 then none else some ((o1014 / o1015), o1013.2)))))))
set_option maxRecDepth 100000 in
set_option maxHeartbeats 4000000 in
theorem tlX12_odds_L55 (d : Nat) (Q : Option Value → mm_H → Prop) : ∀ (n : Nat) (y1 : Int32) (y2 : Int32) (y3 : Int32) (y4 : Int32) (y5 : Int32) (y6 : Int32) (I : Nat → Nat → Int32) (J : Nat → Nat → Int64) (rv sp rr w nw : Nat), ∀ (out : Int32 × (Nat → Nat → Int32)), fX12_odds_L55 n y1 y2 y3 y4 y5 y6 I = some out → mm_T none (d + 5) 310 (117, [none, none, none, some (.int y3), some (.int y4), some (.int out.1), none, none], []) (107, out.2, J, mm_rf rv sp rr w nw) Q → mm_T none (d + 5) 310 (55, [some (.ref 62), some (.int y1), some (.int y2), some (.int y3), some (.int y4), some (.int y5), some (.int y6), none], []) (107, I, J, mm_rf rv sp rr w nw) Q := by
  intro n
  induction n with
  | zero =>
    intro y1 y2 y3 y4 y5 y6 I J rv sp rr w nw out e k
    rw [fX12_odds_L55] at e; cases e
  | succ n ih =>
    intro y1 y2 y3 y4 y5 y6 I J rv sp rr w nw out e k
    rw [fX12_odds_L55] at e
    refine mm_T.seg (f' := (61, [some (.ref 62), some (.int y1), some (.int y2), some (.int y3), some (.int y4), some (.int y5), some (.int y6), none], [(.int (1 <<< (y4 &&& 31))), (.int y6)])) (h' := (107, I, J, mm_rf rv sp rr w nw)) 4 rfl ?_
    refine mm_T.br (c := y6 < (1 <<< (y4 &&& 31))) (a := ((64, [some (.ref 62), some (.int y1), some (.int y2), some (.int y3), some (.int y4), some (.int y5), some (.int y6), none], []), (107, I, J, mm_rf rv sp rr w nw))) (b := ((117, [some (.ref 62), some (.int y1), some (.int y2), some (.int y3), some (.int y4), some (.int y5), some (.int y6), none], []), (107, I, J, mm_rf rv sp rr w nw))) rfl (fun h1006 => ?_) (fun h1006 => ?_)
    · rw [if_pos h1006] at e
      refine mm_T.seg (f' := (69, [some (.ref 62), some (.int y1), some (.int y2), some (.int y3), some (.int y4), some (.int y5), some (.int y6), none], [(.int y6), (.int y2), (.int y1), (.ref 62)])) (h' := (107, I, J, mm_rf rv sp rr w nw)) 4 rfl ?_
      obtain ⟨o1007, eo1007, e⟩ := mm_bind e
      refine mm_T.call (t := 309) (as := [(.ref 62), (.int y1), (.int y2), (.int y6)]) (f' := (72, [some (.ref 62), some (.int y1), some (.int y2), some (.int y3), some (.int y4), some (.int y5), some (.int y6), none], [])) rfl (tX12_landsBy (d + 0) n y1 y2 y6 I J rv sp rr w nw o1007 eo1007) (fun v h hq => ?_)
      obtain ⟨rfl, rfl⟩ := hq
      refine mm_T.br (c := o1007.1 = 0) (a := ((111, [some (.ref 62), some (.int y1), some (.int y2), some (.int y3), some (.int y4), some (.int y5), some (.int y6), none], []), (107, o1007.2, J, mm_rf rv sp rr w nw))) (b := ((75, [some (.ref 62), some (.int y1), some (.int y2), some (.int y3), some (.int y4), some (.int y5), some (.int y6), none], []), (107, o1007.2, J, mm_rf rv sp rr w nw))) rfl (fun h1008 => ?_) (fun h1008 => ?_)
      · rw [if_pos h1008] at e
        refine mm_T.seg (f' := (55, [some (.ref 62), some (.int y1), some (.int y2), some (.int y3), some (.int y4), some (.int y5), some (.int (y6 + 1)), none], [])) (h' := (107, o1007.2, J, mm_rf rv sp rr w nw)) 2 rfl ?_
        refine mm_T.mask [true, true, true, true, true, true, true, false] ?_
        exact ih y1 y2 y3 y4 y5 (y6 + 1) o1007.2 J rv sp rr w nw out e k
      · rw [if_neg h1008] at e
        refine mm_T.seg (f' := (83, [some (.ref 62), some (.int y1), some (.int y2), some (.int y3), some (.int y4), some (.int y5), some (.int y6), none], [(.int y6), (.int (o1007.2 62 50)), (.int y5)])) (h' := (107, o1007.2, J, mm_rf rv sp rr w nw)) 4 rfl ?_
        obtain ⟨o1009, eo1009, e⟩ := mm_bind e
        refine mm_T.call (t := 255) (as := [(.int y6)]) (f' := (86, [some (.ref 62), some (.int y1), some (.int y2), some (.int y3), some (.int y4), some (.int y5), some (.int y6), none], [(.int (o1007.2 62 50)), (.int y5)])) rfl (tX12_members (d + 4) n y6 o1007.2 J rv sp rr w nw o1009 eo1009) (fun v h hq => ?_)
        obtain ⟨rfl, rfl⟩ := hq
        obtain ⟨o1010, eo1010, e⟩ := mm_bind e
        refine mm_T.call (t := 277) (as := [(.int (o1007.2 62 50)), (.int o1009)]) (f' := (89, [some (.ref 62), some (.int y1), some (.int y2), some (.int y3), some (.int y4), some (.int y5), some (.int y6), none], [(.int y5)])) rfl (tX12_power (d + 4) n (o1007.2 62 50) o1009 o1007.2 J rv sp rr w nw o1010 eo1010) (fun v h hq => ?_)
        obtain ⟨rfl, rfl⟩ := hq
        refine mm_T.seg (f' := (100, [some (.ref 62), some (.int y1), some (.int y2), some (.int y3), some (.int y4), some (.int y5), some (.int y6), none], [(.int y6), (.int y4), (.int (100 - (o1007.2 62 50))), (.int o1010), (.int y5)])) (h' := (107, o1007.2, J, mm_rf rv sp rr w nw)) 6 rfl ?_
        obtain ⟨o1011, eo1011, e⟩ := mm_bind e
        refine mm_T.call (t := 255) (as := [(.int y6)]) (f' := (103, [some (.ref 62), some (.int y1), some (.int y2), some (.int y3), some (.int y4), some (.int y5), some (.int y6), none], [(.int y4), (.int (100 - (o1007.2 62 50))), (.int o1010), (.int y5)])) rfl (tX12_members (d + 4) n y6 o1007.2 J rv sp rr w nw o1011 eo1011) (fun v h hq => ?_)
        obtain ⟨rfl, rfl⟩ := hq
        refine mm_T.seg (f' := (104, [some (.ref 62), some (.int y1), some (.int y2), some (.int y3), some (.int y4), some (.int y5), some (.int y6), none], [(.int (y4 - o1011)), (.int (100 - (o1007.2 62 50))), (.int o1010), (.int y5)])) (h' := (107, o1007.2, J, mm_rf rv sp rr w nw)) 1 rfl ?_
        obtain ⟨o1012, eo1012, e⟩ := mm_bind e
        refine mm_T.call (t := 277) (as := [(.int (100 - (o1007.2 62 50))), (.int (y4 - o1011))]) (f' := (107, [some (.ref 62), some (.int y1), some (.int y2), some (.int y3), some (.int y4), some (.int y5), some (.int y6), none], [(.int o1010), (.int y5)])) rfl (tX12_power (d + 4) n (100 - (o1007.2 62 50)) (y4 - o1011) o1007.2 J rv sp rr w nw o1012 eo1012) (fun v h hq => ?_)
        obtain ⟨rfl, rfl⟩ := hq
        refine mm_T.seg (f' := (55, [some (.ref 62), some (.int y1), some (.int y2), some (.int y3), some (.int y4), some (.int (y5 + (o1010 * o1012))), some (.int (y6 + 1)), none], [])) (h' := (107, o1007.2, J, mm_rf rv sp rr w nw)) 5 rfl ?_
        refine mm_T.mask [true, true, true, true, true, true, true, false] ?_
        exact ih y1 y2 y3 y4 (y5 + (o1010 * o1012)) (y6 + 1) o1007.2 J rv sp rr w nw out e k
    · rw [if_neg h1006] at e
      cases e
      refine mm_T.mask [false, false, false, true, true, true, false, false] ?_
      exact k
set_option maxRecDepth 100000 in
set_option maxHeartbeats 4000000 in
theorem tX12_odds (d n : Nat) (x1 : Int32) (x2 : Int32) (x3 : Int32) (I : Nat → Nat → Int32) (J : Nat → Nat → Int64) (rv sp rr w nw : Nat) (out : Int32 × (Nat → Nat → Int32)) (e : fX12_odds n x1 x2 x3 I = some out) : mm_T none (d + 5) 310 (mm_ent 310 [(.ref 62), (.int x1), (.int x2), (.int x3)]) (107, I, J, mm_rf rv sp rr w nw) (fun v h => v = some (.int out.1) ∧ h = (107, out.2, J, mm_rf rv sp rr w nw)) := by
  unfold fX12_odds at e
  refine mm_T.seg (f' := (2, [some (.ref 62), some (.int x1), some (.int x2), some (.int x3), none, none, none, none], [(.int x1), (.ref 62)])) (h' := (107, I, J, mm_rf rv sp rr w nw)) 2 rfl ?_
  obtain ⟨o999, eo999, e⟩ := mm_bind e
  refine mm_T.call (t := 253) (as := [(.ref 62), (.int x1)]) (f' := (5, [some (.ref 62), some (.int x1), some (.int x2), some (.int x3), none, none, none, none], [])) rfl (tX12_isBoard (d + 3) x1 I J rv sp rr w nw o999 eo999) (fun v h hq => ?_)
  obtain ⟨rfl, rfl⟩ := hq
  refine mm_T.br (c := o999 = 0) (a := ((40, [some (.ref 62), some (.int x1), some (.int x2), some (.int x3), none, none, none, none], []), (107, I, J, mm_rf rv sp rr w nw))) (b := ((8, [some (.ref 62), some (.int x1), some (.int x2), some (.int x3), none, none, none, none], []), (107, I, J, mm_rf rv sp rr w nw))) rfl (fun h1000 => ?_) (fun h1000 => ?_)
  · rw [if_pos h1000] at e
    refine mm_T.seg (f' := (41, [some (.ref 62), some (.int x1), some (.int x2), some (.int x3), none, none, none, none], [(.int (-1))])) (h' := (107, I, J, mm_rf rv sp rr w nw)) 1 rfl ?_
    cases e
    exact mm_T.ret rfl ⟨rfl, rfl⟩
  · rw [if_neg h1000] at e
    refine mm_T.seg (f' := (10, [some (.ref 62), some (.int x1), some (.int x2), some (.int x3), none, none, none, none], [(.int x1), (.ref 62)])) (h' := (107, I, J, mm_rf rv sp rr w nw)) 2 rfl ?_
    obtain ⟨o1001, eo1001, e⟩ := mm_bind e
    refine mm_T.call (t := 278) (as := [(.ref 62), (.int x1)]) (f' := (13, [some (.ref 62), some (.int x1), some (.int x2), some (.int x3), none, none, none, none], [])) rfl (tX12_leftOf (d + 4) x1 I J rv sp rr w nw o1001 eo1001) (fun v h hq => ?_)
    obtain ⟨rfl, rfl⟩ := hq
    refine mm_T.seg (f' := (14, [some (.ref 62), some (.int x1), some (.int x2), some (.int x3), none, none, none, none], [(.int 4), (.int o1001)])) (h' := (107, I, J, mm_rf rv sp rr w nw)) 1 rfl ?_
    refine mm_T.br (c := 4 < o1001) (a := ((40, [some (.ref 62), some (.int x1), some (.int x2), some (.int x3), none, none, none, none], []), (107, I, J, mm_rf rv sp rr w nw))) (b := ((17, [some (.ref 62), some (.int x1), some (.int x2), some (.int x3), none, none, none, none], []), (107, I, J, mm_rf rv sp rr w nw))) rfl (fun h1002 => ?_) (fun h1002 => ?_)
    · rw [if_pos h1002] at e
      refine mm_T.seg (f' := (41, [some (.ref 62), some (.int x1), some (.int x2), some (.int x3), none, none, none, none], [(.int (-1))])) (h' := (107, I, J, mm_rf rv sp rr w nw)) 1 rfl ?_
      cases e
      exact mm_T.ret rfl ⟨rfl, rfl⟩
    · rw [if_neg h1002] at e
      refine mm_T.seg (f' := (25, [some (.ref 62), some (.int x1), some (.int x2), some (.int x3), none, none, none, none], [(.int ((I 62 46) - 1)), (.int 0), (.int x2)])) (h' := (107, I, J, mm_rf rv sp rr w nw)) 6 rfl ?_
      refine mm_T.call (t := 252) (as := [(.int x2), (.int 0), (.int ((I 62 46) - 1))]) (f' := (28, [some (.ref 62), some (.int x1), some (.int x2), some (.int x3), none, none, none, none], [])) rfl (tX12_isIn (d + 4) x2 0 ((I 62 46) - 1) I J rv sp rr w nw _ rfl) (fun v h hq => ?_)
      obtain ⟨rfl, rfl⟩ := hq
      refine mm_T.br (c := (fX12_isIn x2 0 ((I 62 46) - 1)) = 0) (a := ((40, [some (.ref 62), some (.int x1), some (.int x2), some (.int x3), none, none, none, none], []), (107, I, J, mm_rf rv sp rr w nw))) (b := ((31, [some (.ref 62), some (.int x1), some (.int x2), some (.int x3), none, none, none, none], []), (107, I, J, mm_rf rv sp rr w nw))) rfl (fun h1003 => ?_) (fun h1003 => ?_)
      · rw [if_pos h1003] at e
        refine mm_T.seg (f' := (41, [some (.ref 62), some (.int x1), some (.int x2), some (.int x3), none, none, none, none], [(.int (-1))])) (h' := (107, I, J, mm_rf rv sp rr w nw)) 1 rfl ?_
        cases e
        exact mm_T.ret rfl ⟨rfl, rfl⟩
      · rw [if_neg h1003] at e
        refine mm_T.seg (f' := (34, [some (.ref 62), some (.int x1), some (.int x2), some (.int x3), none, none, none, none], [(.int 1), (.int 0), (.int x3)])) (h' := (107, I, J, mm_rf rv sp rr w nw)) 3 rfl ?_
        refine mm_T.call (t := 252) (as := [(.int x3), (.int 0), (.int 1)]) (f' := (37, [some (.ref 62), some (.int x1), some (.int x2), some (.int x3), none, none, none, none], [])) rfl (tX12_isIn (d + 4) x3 0 1 I J rv sp rr w nw _ rfl) (fun v h hq => ?_)
        obtain ⟨rfl, rfl⟩ := hq
        refine mm_T.br (c := (fX12_isIn x3 0 1) = 0) (a := ((40, [some (.ref 62), some (.int x1), some (.int x2), some (.int x3), none, none, none, none], []), (107, I, J, mm_rf rv sp rr w nw))) (b := ((42, [some (.ref 62), some (.int x1), some (.int x2), some (.int x3), none, none, none, none], []), (107, I, J, mm_rf rv sp rr w nw))) rfl (fun h1004 => ?_) (fun h1004 => ?_)
        · rw [if_pos h1004] at e
          refine mm_T.seg (f' := (41, [some (.ref 62), some (.int x1), some (.int x2), some (.int x3), none, none, none, none], [(.int (-1))])) (h' := (107, I, J, mm_rf rv sp rr w nw)) 1 rfl ?_
          cases e
          exact mm_T.ret rfl ⟨rfl, rfl⟩
        · rw [if_neg h1004] at e
          refine mm_T.seg (f' := (44, [some (.ref 62), some (.int x1), some (.int x2), some (.int x3), none, none, none, none], [(.int x1), (.ref 62)])) (h' := (107, I, J, mm_rf rv sp rr w nw)) 2 rfl ?_
          obtain ⟨o1005, eo1005, e⟩ := mm_bind e
          refine mm_T.call (t := 278) (as := [(.ref 62), (.int x1)]) (f' := (47, [some (.ref 62), some (.int x1), some (.int x2), some (.int x3), none, none, none, none], [])) rfl (tX12_leftOf (d + 4) x1 I J rv sp rr w nw o1005 eo1005) (fun v h hq => ?_)
          obtain ⟨rfl, rfl⟩ := hq
          refine mm_T.seg (f' := (55, [some (.ref 62), some (.int x1), some (.int x2), some (.int x3), some (.int o1005), some (.int 0), some (.int 0), none], [])) (h' := (107, I, J, mm_rf rv sp rr w nw)) 5 rfl ?_
          refine mm_T.mask [true, true, true, true, true, true, true, false] ?_
          obtain ⟨o1013, eo1013, e⟩ := mm_bind e
          refine tlX12_odds_L55 d _ n x1 x2 x3 o1005 0 0 I J rv sp rr w nw o1013 eo1013 ?_
          refine mm_T.seg (f' := (121, [none, none, none, some (.int x3), some (.int o1005), some (.int o1013.1), none, none], [(.int o1005), (.int 100)])) (h' := (107, o1013.2, J, mm_rf rv sp rr w nw)) 2 rfl ?_
          obtain ⟨o1014, eo1014, e⟩ := mm_bind e
          refine mm_T.call (t := 277) (as := [(.int 100), (.int o1005)]) (f' := (124, [none, none, none, some (.int x3), some (.int o1005), some (.int o1013.1), none, none], [])) rfl (tX12_power (d + 4) n 100 o1005 o1013.2 J rv sp rr w nw o1014 eo1014) (fun v h hq => ?_)
          obtain ⟨rfl, rfl⟩ := hq
          refine mm_T.seg (f' := (130, [none, none, none, some (.int x3), some (.int o1005), some (.int o1013.1), some (.int o1014), none], [(.int o1013.1), (.int o1014)])) (h' := (107, o1013.2, J, mm_rf rv sp rr w nw)) 3 rfl ?_
          obtain ⟨o1015, eo1015, e⟩ := mm_bind e
          refine mm_T.call (t := 308) (as := [(.int o1014), (.int o1013.1)]) (f' := (133, [none, none, none, some (.int x3), some (.int o1005), some (.int o1013.1), some (.int o1014), none], [])) rfl (tX12_divisor (d + 4) n o1014 o1013.1 o1013.2 J rv sp rr w nw o1015 eo1015) (fun v h hq => ?_)
          obtain ⟨rfl, rfl⟩ := hq
          refine mm_T.seg (f' := (136, [none, none, none, some (.int x3), some (.int o1005), some (.int o1013.1), some (.int o1014), some (.int o1015)], [(.int x3)])) (h' := (107, o1013.2, J, mm_rf rv sp rr w nw)) 2 rfl ?_
          refine mm_T.br (c := x3 = 0) (a := ((139, [none, none, none, some (.int x3), some (.int o1005), some (.int o1013.1), some (.int o1014), some (.int o1015)], []), (107, o1013.2, J, mm_rf rv sp rr w nw))) (b := ((147, [none, none, none, some (.int x3), some (.int o1005), some (.int o1013.1), some (.int o1014), some (.int o1015)], []), (107, o1013.2, J, mm_rf rv sp rr w nw))) rfl (fun h1016 => ?_) (fun h1016 => ?_)
          · rw [if_pos h1016] at e
            refine mm_T.seg (f' := (143, [none, none, none, some (.int x3), some (.int o1005), some (.int o1013.1), some (.int o1014), some (.int o1015)], [(.int o1015), (.int o1013.1)])) (h' := (107, o1013.2, J, mm_rf rv sp rr w nw)) 2 rfl ?_
            by_cases h1017 : o1015 = 0
            · rw [if_pos h1017] at e; cases e
            rw [if_neg h1017] at e
            refine mm_T.guard (y := ((144, [none, none, none, some (.int x3), some (.int o1005), some (.int o1013.1), some (.int o1014), some (.int o1015)], [(.int (o1013.1 / o1015))]), (107, o1013.2, J, mm_rf rv sp rr w nw))) rfl h1017 ?_
            refine mm_T.seg (f' := (152, [none, none, none, some (.int x3), some (.int o1005), some (.int o1013.1), some (.int o1014), some (.int o1015)], [(.int (o1013.1 / o1015))])) (h' := (107, o1013.2, J, mm_rf rv sp rr w nw)) 1 rfl ?_
            cases e
            exact mm_T.ret rfl ⟨rfl, rfl⟩
          · rw [if_neg h1016] at e
            refine mm_T.seg (f' := (151, [none, none, none, some (.int x3), some (.int o1005), some (.int o1013.1), some (.int o1014), some (.int o1015)], [(.int o1015), (.int o1014)])) (h' := (107, o1013.2, J, mm_rf rv sp rr w nw)) 2 rfl ?_
            by_cases h1018 : o1015 = 0
            · rw [if_pos h1018] at e; cases e
            rw [if_neg h1018] at e
            refine mm_T.guard (y := ((152, [none, none, none, some (.int x3), some (.int o1005), some (.int o1013.1), some (.int o1014), some (.int o1015)], [(.int (o1014 / o1015))]), (107, o1013.2, J, mm_rf rv sp rr w nw))) rfl h1018 ?_
            cases e
            exact mm_T.ret rfl ⟨rfl, rfl⟩
def fX12_over (n : Nat) (I : Nat → Nat → Int32) : Option (Int32 × (Nat → Nat → Int32)) := (fX12_fill n I).bind fun o1019 => (fX12_loadsAt n (-2) o1019).bind fun o1020 => some (o1020, o1019)
set_option maxRecDepth 100000 in
set_option maxHeartbeats 4000000 in
theorem tX12_over (d n : Nat) (I : Nat → Nat → Int32) (J : Nat → Nat → Int64) (rv sp rr w nw : Nat) (out : Int32 × (Nat → Nat → Int32)) (e : fX12_over n I = some out) : mm_T none (d + 2) 311 (mm_ent 311 [(.ref 62)]) (107, I, J, mm_rf rv sp rr w nw) (fun v h => v = some (.int out.1) ∧ h = (107, out.2, J, mm_rf rv sp rr w nw)) := by
  unfold fX12_over at e
  refine mm_T.seg (f' := (1, [some (.ref 62)], [(.ref 62)])) (h' := (107, I, J, mm_rf rv sp rr w nw)) 1 rfl ?_
  obtain ⟨o1019, eo1019, e⟩ := mm_bind e
  refine mm_T.call (t := 256) (as := [(.ref 62)]) (f' := (4, [some (.ref 62)], [])) rfl (tX12_fill (d + 1) n I J rv sp rr w nw o1019 eo1019) (fun v h hq => ?_)
  obtain ⟨rfl, rfl⟩ := hq
  refine mm_T.seg (f' := (7, [some (.ref 62)], [(.int (-2)), (.ref 62)])) (h' := (107, o1019, J, mm_rf rv sp rr w nw)) 2 rfl ?_
  obtain ⟨o1020, eo1020, e⟩ := mm_bind e
  refine mm_T.call (t := 262) (as := [(.ref 62), (.int (-2))]) (f' := (10, [some (.ref 62)], [])) rfl (tX12_loadsAt (d + 0) n (-2) o1019 J rv sp rr w nw o1020 eo1020) (fun v h hq => ?_)
  obtain ⟨rfl, rfl⟩ := hq
  cases e
  exact mm_T.ret rfl ⟨rfl, rfl⟩
def fX12_left (n : Nat) (I : Nat → Nat → Int32) : Option (Int32 × (Nat → Nat → Int32)) := (fX12_fill n I).bind fun o1021 => (fX12_loadsAt n (-2) o1021).bind fun o1022 => (fX12_wideOf n (((1 <<< ((o1021 62 49) &&& 31)) - 1) &&& (o1022 ^^^ (-1))) o1021).bind fun o1023 => some (o1023, o1021)
set_option maxRecDepth 100000 in
set_option maxHeartbeats 4000000 in
theorem tX12_left (d n : Nat) (I : Nat → Nat → Int32) (J : Nat → Nat → Int64) (rv sp rr w nw : Nat) (out : Int32 × (Nat → Nat → Int32)) (e : fX12_left n I = some out) : mm_T none (d + 2) 312 (mm_ent 312 [(.ref 62)]) (107, I, J, mm_rf rv sp rr w nw) (fun v h => v = some (.int out.1) ∧ h = (107, out.2, J, mm_rf rv sp rr w nw)) := by
  unfold fX12_left at e
  refine mm_T.seg (f' := (1, [some (.ref 62)], [(.ref 62)])) (h' := (107, I, J, mm_rf rv sp rr w nw)) 1 rfl ?_
  obtain ⟨o1021, eo1021, e⟩ := mm_bind e
  refine mm_T.call (t := 256) (as := [(.ref 62)]) (f' := (4, [some (.ref 62)], [])) rfl (tX12_fill (d + 1) n I J rv sp rr w nw o1021 eo1021) (fun v h hq => ?_)
  obtain ⟨rfl, rfl⟩ := hq
  refine mm_T.seg (f' := (16, [some (.ref 62)], [(.int (-2)), (.ref 62), (.int ((1 <<< ((o1021 62 49) &&& 31)) - 1)), (.ref 62)])) (h' := (107, o1021, J, mm_rf rv sp rr w nw)) 9 rfl ?_
  obtain ⟨o1022, eo1022, e⟩ := mm_bind e
  refine mm_T.call (t := 262) (as := [(.ref 62), (.int (-2))]) (f' := (19, [some (.ref 62)], [(.int ((1 <<< ((o1021 62 49) &&& 31)) - 1)), (.ref 62)])) rfl (tX12_loadsAt (d + 0) n (-2) o1021 J rv sp rr w nw o1022 eo1022) (fun v h hq => ?_)
  obtain ⟨rfl, rfl⟩ := hq
  refine mm_T.seg (f' := (22, [some (.ref 62)], [(.int (((1 <<< ((o1021 62 49) &&& 31)) - 1) &&& (o1022 ^^^ (-1)))), (.ref 62)])) (h' := (107, o1021, J, mm_rf rv sp rr w nw)) 3 rfl ?_
  obtain ⟨o1023, eo1023, e⟩ := mm_bind e
  refine mm_T.call (t := 289) (as := [(.ref 62), (.int (((1 <<< ((o1021 62 49) &&& 31)) - 1) &&& (o1022 ^^^ (-1))))]) (f' := (25, [some (.ref 62)], [])) rfl (tX12_wideOf (d + 1) n (((1 <<< ((o1021 62 49) &&& 31)) - 1) &&& (o1022 ^^^ (-1))) o1021 J rv sp rr w nw o1023 eo1023) (fun v h hq => ?_)
  obtain ⟨rfl, rfl⟩ := hq
  cases e
  exact mm_T.ret rfl ⟨rfl, rfl⟩
def fX12_pulled_L4 (n : Nat) (y1 : Int32) (y2 : Int32) (I : Nat → Nat → Int32) : Option (Int32) := match n with
  | 0 => none
  | n + 1 => (if y2 < (I 62 48) then (if y2 < 0 ∨ 28 ≤ y2.toNatClampNeg then none else (if (4 + y2) < 0 ∨ 28 ≤ (4 + y2).toNatClampNeg then none else (fX12_currentAt (I 84 y2.toNatClampNeg) (I 84 (4 + y2).toNatClampNeg) I).bind fun o1027 => (if 0 < o1027 then fX12_pulled_L4 n (y1 ||| ((fX12_truth 1) <<< (y2 &&& 31))) (y2 + 1) I else fX12_pulled_L4 n (y1 ||| ((fX12_truth 0) <<< (y2 &&& 31))) (y2 + 1) I))) else some y1)
def fX12_pulled (n : Nat) (I : Nat → Nat → Int32) : Option (Int32) := (fX12_pulled_L4 n 0 0 I).bind fun o1029 => some o1029
set_option maxRecDepth 100000 in
set_option maxHeartbeats 4000000 in
theorem tlX12_pulled_L4 (d : Nat) (Q : Option Value → mm_H → Prop) : ∀ (n : Nat) (y1 : Int32) (y2 : Int32) (I : Nat → Nat → Int32) (J : Nat → Nat → Int64) (rv sp rr w nw : Nat), ∀ (out : Int32), fX12_pulled_L4 n y1 y2 I = some out → mm_T none (d + 1) 313 (52, [none, some (.int out), none], []) (107, I, J, mm_rf rv sp rr w nw) Q → mm_T none (d + 1) 313 (4, [some (.ref 62), some (.int y1), some (.int y2)], []) (107, I, J, mm_rf rv sp rr w nw) Q := by
  intro n
  induction n with
  | zero =>
    intro y1 y2 I J rv sp rr w nw out e k
    rw [fX12_pulled_L4] at e; cases e
  | succ n ih =>
    intro y1 y2 I J rv sp rr w nw out e k
    rw [fX12_pulled_L4] at e
    refine mm_T.seg (f' := (9, [some (.ref 62), some (.int y1), some (.int y2)], [(.int (I 62 48)), (.int y2)])) (h' := (107, I, J, mm_rf rv sp rr w nw)) 3 rfl ?_
    refine mm_T.br (c := y2 < (I 62 48)) (a := ((12, [some (.ref 62), some (.int y1), some (.int y2)], []), (107, I, J, mm_rf rv sp rr w nw))) (b := ((52, [some (.ref 62), some (.int y1), some (.int y2)], []), (107, I, J, mm_rf rv sp rr w nw))) rfl (fun h1024 => ?_) (fun h1024 => ?_)
    · rw [if_pos h1024] at e
      refine mm_T.seg (f' := (19, [some (.ref 62), some (.int y1), some (.int y2)], [(.int y2), (.ref 84), (.ref 62), (.int y1)])) (h' := (107, I, J, mm_rf rv sp rr w nw)) 5 rfl ?_
      by_cases h1025 : y2 < 0 ∨ 28 ≤ y2.toNatClampNeg
      · rw [if_pos h1025] at e; cases e
      rw [if_neg h1025] at e
      refine mm_T.guard (y := ((20, [some (.ref 62), some (.int y1), some (.int y2)], [(.int (I 84 y2.toNatClampNeg)), (.ref 62), (.int y1)]), (107, I, J, mm_rf rv sp rr w nw))) rfl h1025 ?_
      refine mm_T.seg (f' := (27, [some (.ref 62), some (.int y1), some (.int y2)], [(.int (4 + y2)), (.ref 84), (.int (I 84 y2.toNatClampNeg)), (.ref 62), (.int y1)])) (h' := (107, I, J, mm_rf rv sp rr w nw)) 5 rfl ?_
      by_cases h1026 : (4 + y2) < 0 ∨ 28 ≤ (4 + y2).toNatClampNeg
      · rw [if_pos h1026] at e; cases e
      rw [if_neg h1026] at e
      refine mm_T.guard (y := ((28, [some (.ref 62), some (.int y1), some (.int y2)], [(.int (I 84 (4 + y2).toNatClampNeg)), (.int (I 84 y2.toNatClampNeg)), (.ref 62), (.int y1)]), (107, I, J, mm_rf rv sp rr w nw))) rfl h1026 ?_
      obtain ⟨o1027, eo1027, e⟩ := mm_bind e
      refine mm_T.call (t := 258) (as := [(.ref 62), (.int (I 84 y2.toNatClampNeg)), (.int (I 84 (4 + y2).toNatClampNeg))]) (f' := (31, [some (.ref 62), some (.int y1), some (.int y2)], [(.int y1)])) rfl (tX12_currentAt (d + 0) (I 84 y2.toNatClampNeg) (I 84 (4 + y2).toNatClampNeg) I J rv sp rr w nw o1027 eo1027) (fun v h hq => ?_)
      obtain ⟨rfl, rfl⟩ := hq
      refine mm_T.br (c := 0 < o1027) (a := ((34, [some (.ref 62), some (.int y1), some (.int y2)], [(.int y1)]), (107, I, J, mm_rf rv sp rr w nw))) (b := ((38, [some (.ref 62), some (.int y1), some (.int y2)], [(.int y1)]), (107, I, J, mm_rf rv sp rr w nw))) rfl (fun h1028 => ?_) (fun h1028 => ?_)
      · rw [if_pos h1028] at e
        refine mm_T.seg (f' := (39, [some (.ref 62), some (.int y1), some (.int y2)], [(.int 1), (.int y1)])) (h' := (107, I, J, mm_rf rv sp rr w nw)) 2 rfl ?_
        refine mm_T.call (t := 236) (as := [(.int 1)]) (f' := (42, [some (.ref 62), some (.int y1), some (.int y2)], [(.int y1)])) rfl (tX12_truth (d + 0) 1 I J rv sp rr w nw _ rfl) (fun v h hq => ?_)
        obtain ⟨rfl, rfl⟩ := hq
        refine mm_T.seg (f' := (4, [some (.ref 62), some (.int (y1 ||| ((fX12_truth 1) <<< (y2 &&& 31)))), some (.int (y2 + 1))], [])) (h' := (107, I, J, mm_rf rv sp rr w nw)) 6 rfl ?_
        refine mm_T.mask [true, true, true] ?_
        exact ih (y1 ||| ((fX12_truth 1) <<< (y2 &&& 31))) (y2 + 1) I J rv sp rr w nw out e k
      · rw [if_neg h1028] at e
        refine mm_T.seg (f' := (39, [some (.ref 62), some (.int y1), some (.int y2)], [(.int 0), (.int y1)])) (h' := (107, I, J, mm_rf rv sp rr w nw)) 1 rfl ?_
        refine mm_T.call (t := 236) (as := [(.int 0)]) (f' := (42, [some (.ref 62), some (.int y1), some (.int y2)], [(.int y1)])) rfl (tX12_truth (d + 0) 0 I J rv sp rr w nw _ rfl) (fun v h hq => ?_)
        obtain ⟨rfl, rfl⟩ := hq
        refine mm_T.seg (f' := (4, [some (.ref 62), some (.int (y1 ||| ((fX12_truth 0) <<< (y2 &&& 31)))), some (.int (y2 + 1))], [])) (h' := (107, I, J, mm_rf rv sp rr w nw)) 6 rfl ?_
        refine mm_T.mask [true, true, true] ?_
        exact ih (y1 ||| ((fX12_truth 0) <<< (y2 &&& 31))) (y2 + 1) I J rv sp rr w nw out e k
    · rw [if_neg h1024] at e
      cases e
      refine mm_T.mask [false, true, false] ?_
      exact k
set_option maxRecDepth 100000 in
set_option maxHeartbeats 4000000 in
theorem tX12_pulled (d n : Nat) (I : Nat → Nat → Int32) (J : Nat → Nat → Int64) (rv sp rr w nw : Nat) (out : Int32) (e : fX12_pulled n I = some out) : mm_T none (d + 1) 313 (mm_ent 313 [(.ref 62)]) (107, I, J, mm_rf rv sp rr w nw) (fun v h => v = some (.int out) ∧ h = (107, I, J, mm_rf rv sp rr w nw)) := by
  unfold fX12_pulled at e
  refine mm_T.seg (f' := (4, [some (.ref 62), some (.int 0), some (.int 0)], [])) (h' := (107, I, J, mm_rf rv sp rr w nw)) 4 rfl ?_
  refine mm_T.mask [true, true, true] ?_
  obtain ⟨o1029, eo1029, e⟩ := mm_bind e
  refine tlX12_pulled_L4 d _ n 0 0 I J rv sp rr w nw o1029 eo1029 ?_
  refine mm_T.seg (f' := (53, [none, some (.int o1029), none], [(.int o1029)])) (h' := (107, I, J, mm_rf rv sp rr w nw)) 1 rfl ?_
  cases e
  exact mm_T.ret rfl ⟨rfl, rfl⟩
def fX12_hottest_L4 (n : Nat) (y1 : Int32) (y2 : Int32) (I : Nat → Nat → Int32) : Option (Int32) := match n with
  | 0 => none
  | n + 1 => (if y2 < (I 62 48) then (if y1 < 0 then fX12_hottest_L4 n y2 (y2 + 1) I else (if y2 < 0 ∨ 4 ≤ y2.toNatClampNeg then none else (if (8 + y2) < 0 ∨ 28 ≤ (8 + y2).toNatClampNeg then none else (if y1 < 0 ∨ 4 ≤ y1.toNatClampNeg then none else (if (8 + y1) < 0 ∨ 28 ≤ (8 + y1).toNatClampNeg then none else (if ((I 82 y2.toNatClampNeg) - (I 84 (8 + y2).toNatClampNeg)) < ((I 82 y1.toNatClampNeg) - (I 84 (8 + y1).toNatClampNeg)) then fX12_hottest_L4 n y2 (y2 + 1) I else fX12_hottest_L4 n y1 (y2 + 1) I)))))) else some y1)
def fX12_hottest (n : Nat) (I : Nat → Nat → Int32) : Option (Int32) := (fX12_hottest_L4 n (-1) 0 I).bind fun o1037 => some o1037
set_option maxRecDepth 100000 in
set_option maxHeartbeats 4000000 in
theorem tlX12_hottest_L4 (d : Nat) (Q : Option Value → mm_H → Prop) : ∀ (n : Nat) (y1 : Int32) (y2 : Int32) (I : Nat → Nat → Int32) (J : Nat → Nat → Int64) (rv sp rr w nw : Nat), ∀ (out : Int32), fX12_hottest_L4 n y1 y2 I = some out → mm_T none (d + 0) 314 (59, [none, some (.int out), none], []) (107, I, J, mm_rf rv sp rr w nw) Q → mm_T none (d + 0) 314 (4, [some (.ref 62), some (.int y1), some (.int y2)], []) (107, I, J, mm_rf rv sp rr w nw) Q := by
  intro n
  induction n with
  | zero =>
    intro y1 y2 I J rv sp rr w nw out e k
    rw [fX12_hottest_L4] at e; cases e
  | succ n ih =>
    intro y1 y2 I J rv sp rr w nw out e k
    rw [fX12_hottest_L4] at e
    refine mm_T.seg (f' := (9, [some (.ref 62), some (.int y1), some (.int y2)], [(.int (I 62 48)), (.int y2)])) (h' := (107, I, J, mm_rf rv sp rr w nw)) 3 rfl ?_
    refine mm_T.br (c := y2 < (I 62 48)) (a := ((12, [some (.ref 62), some (.int y1), some (.int y2)], []), (107, I, J, mm_rf rv sp rr w nw))) (b := ((59, [some (.ref 62), some (.int y1), some (.int y2)], []), (107, I, J, mm_rf rv sp rr w nw))) rfl (fun h1030 => ?_) (fun h1030 => ?_)
    · rw [if_pos h1030] at e
      refine mm_T.seg (f' := (13, [some (.ref 62), some (.int y1), some (.int y2)], [(.int y1)])) (h' := (107, I, J, mm_rf rv sp rr w nw)) 1 rfl ?_
      refine mm_T.br (c := y1 < 0) (a := ((51, [some (.ref 62), some (.int y1), some (.int y2)], []), (107, I, J, mm_rf rv sp rr w nw))) (b := ((16, [some (.ref 62), some (.int y1), some (.int y2)], []), (107, I, J, mm_rf rv sp rr w nw))) rfl (fun h1031 => ?_) (fun h1031 => ?_)
      · rw [if_pos h1031] at e
        refine mm_T.seg (f' := (4, [some (.ref 62), some (.int y2), some (.int (y2 + 1))], [])) (h' := (107, I, J, mm_rf rv sp rr w nw)) 4 rfl ?_
        refine mm_T.mask [true, true, true] ?_
        exact ih y2 (y2 + 1) I J rv sp rr w nw out e k
      · rw [if_neg h1031] at e
        refine mm_T.seg (f' := (21, [some (.ref 62), some (.int y1), some (.int y2)], [(.int y2), (.ref 82)])) (h' := (107, I, J, mm_rf rv sp rr w nw)) 3 rfl ?_
        by_cases h1032 : y2 < 0 ∨ 4 ≤ y2.toNatClampNeg
        · rw [if_pos h1032] at e; cases e
        rw [if_neg h1032] at e
        refine mm_T.guard (y := ((22, [some (.ref 62), some (.int y1), some (.int y2)], [(.int (I 82 y2.toNatClampNeg))]), (107, I, J, mm_rf rv sp rr w nw))) rfl h1032 ?_
        refine mm_T.seg (f' := (30, [some (.ref 62), some (.int y1), some (.int y2)], [(.int (8 + y2)), (.ref 84), (.int (I 82 y2.toNatClampNeg))])) (h' := (107, I, J, mm_rf rv sp rr w nw)) 5 rfl ?_
        by_cases h1033 : (8 + y2) < 0 ∨ 28 ≤ (8 + y2).toNatClampNeg
        · rw [if_pos h1033] at e; cases e
        rw [if_neg h1033] at e
        refine mm_T.guard (y := ((31, [some (.ref 62), some (.int y1), some (.int y2)], [(.int (I 84 (8 + y2).toNatClampNeg)), (.int (I 82 y2.toNatClampNeg))]), (107, I, J, mm_rf rv sp rr w nw))) rfl h1033 ?_
        refine mm_T.seg (f' := (37, [some (.ref 62), some (.int y1), some (.int y2)], [(.int y1), (.ref 82), (.int ((I 82 y2.toNatClampNeg) - (I 84 (8 + y2).toNatClampNeg)))])) (h' := (107, I, J, mm_rf rv sp rr w nw)) 4 rfl ?_
        by_cases h1034 : y1 < 0 ∨ 4 ≤ y1.toNatClampNeg
        · rw [if_pos h1034] at e; cases e
        rw [if_neg h1034] at e
        refine mm_T.guard (y := ((38, [some (.ref 62), some (.int y1), some (.int y2)], [(.int (I 82 y1.toNatClampNeg)), (.int ((I 82 y2.toNatClampNeg) - (I 84 (8 + y2).toNatClampNeg)))]), (107, I, J, mm_rf rv sp rr w nw))) rfl h1034 ?_
        refine mm_T.seg (f' := (46, [some (.ref 62), some (.int y1), some (.int y2)], [(.int (8 + y1)), (.ref 84), (.int (I 82 y1.toNatClampNeg)), (.int ((I 82 y2.toNatClampNeg) - (I 84 (8 + y2).toNatClampNeg)))])) (h' := (107, I, J, mm_rf rv sp rr w nw)) 5 rfl ?_
        by_cases h1035 : (8 + y1) < 0 ∨ 28 ≤ (8 + y1).toNatClampNeg
        · rw [if_pos h1035] at e; cases e
        rw [if_neg h1035] at e
        refine mm_T.guard (y := ((47, [some (.ref 62), some (.int y1), some (.int y2)], [(.int (I 84 (8 + y1).toNatClampNeg)), (.int (I 82 y1.toNatClampNeg)), (.int ((I 82 y2.toNatClampNeg) - (I 84 (8 + y2).toNatClampNeg)))]), (107, I, J, mm_rf rv sp rr w nw))) rfl h1035 ?_
        refine mm_T.seg (f' := (48, [some (.ref 62), some (.int y1), some (.int y2)], [(.int ((I 82 y1.toNatClampNeg) - (I 84 (8 + y1).toNatClampNeg))), (.int ((I 82 y2.toNatClampNeg) - (I 84 (8 + y2).toNatClampNeg)))])) (h' := (107, I, J, mm_rf rv sp rr w nw)) 1 rfl ?_
        refine mm_T.br (c := ((I 82 y2.toNatClampNeg) - (I 84 (8 + y2).toNatClampNeg)) < ((I 82 y1.toNatClampNeg) - (I 84 (8 + y1).toNatClampNeg))) (a := ((51, [some (.ref 62), some (.int y1), some (.int y2)], []), (107, I, J, mm_rf rv sp rr w nw))) (b := ((53, [some (.ref 62), some (.int y1), some (.int y2)], []), (107, I, J, mm_rf rv sp rr w nw))) rfl (fun h1036 => ?_) (fun h1036 => ?_)
        · rw [if_pos h1036] at e
          refine mm_T.seg (f' := (4, [some (.ref 62), some (.int y2), some (.int (y2 + 1))], [])) (h' := (107, I, J, mm_rf rv sp rr w nw)) 4 rfl ?_
          refine mm_T.mask [true, true, true] ?_
          exact ih y2 (y2 + 1) I J rv sp rr w nw out e k
        · rw [if_neg h1036] at e
          refine mm_T.seg (f' := (4, [some (.ref 62), some (.int y1), some (.int (y2 + 1))], [])) (h' := (107, I, J, mm_rf rv sp rr w nw)) 2 rfl ?_
          refine mm_T.mask [true, true, true] ?_
          exact ih y1 (y2 + 1) I J rv sp rr w nw out e k
    · rw [if_neg h1030] at e
      cases e
      refine mm_T.mask [false, true, false] ?_
      exact k
set_option maxRecDepth 100000 in
set_option maxHeartbeats 4000000 in
theorem tX12_hottest (d n : Nat) (I : Nat → Nat → Int32) (J : Nat → Nat → Int64) (rv sp rr w nw : Nat) (out : Int32) (e : fX12_hottest n I = some out) : mm_T none (d + 0) 314 (mm_ent 314 [(.ref 62)]) (107, I, J, mm_rf rv sp rr w nw) (fun v h => v = some (.int out) ∧ h = (107, I, J, mm_rf rv sp rr w nw)) := by
  unfold fX12_hottest at e
  refine mm_T.seg (f' := (4, [some (.ref 62), some (.int (-1)), some (.int 0)], [])) (h' := (107, I, J, mm_rf rv sp rr w nw)) 4 rfl ?_
  refine mm_T.mask [true, true, true] ?_
  obtain ⟨o1037, eo1037, e⟩ := mm_bind e
  refine tlX12_hottest_L4 d _ n (-1) 0 I J rv sp rr w nw o1037 eo1037 ?_
  refine mm_T.seg (f' := (60, [none, some (.int o1037), none], [(.int o1037)])) (h' := (107, I, J, mm_rf rv sp rr w nw)) 1 rfl ?_
  cases e
  exact mm_T.ret rfl ⟨rfl, rfl⟩
def fX12_law_L22 (n : Nat) (y1 : Int32) (y2 : Int32) (y3 : Int32) (y4 : Int32) (I : Nat → Nat → Int32) : Option (Int32) := match n with
  | 0 => none
  | n + 1 => (if y4 < (I 62 49) then (if ((y2 >>> (y4 &&& 31)) &&& 1) = 1 then (if y4 < 0 ∨ 7 ≤ y4.toNatClampNeg then none else (if y1 < (I 83 y4.toNatClampNeg) then fX12_law_L22 n y1 y2 (y3 + (fX12_truth 0)) (y4 + 1) I else fX12_law_L22 n y1 y2 (y3 + (fX12_truth 1)) (y4 + 1) I)) else fX12_law_L22 n y1 y2 (y3 + (fX12_truth 0)) (y4 + 1) I) else some y3)
def fX12_law (n : Nat) (x1 : Int32) (I : Nat → Nat → Int32) : Option (Int32 × (Nat → Nat → Int32)) := (if (fX12_isIn x1 0 99) = 0 then some ((-1), I) else (fX12_nearLoads n I).bind fun o1039 => (fX12_law_L22 n x1 o1039.1 0 0 o1039.2).bind fun o1044 => some (o1044, o1039.2))
set_option maxRecDepth 100000 in
set_option maxHeartbeats 4000000 in
theorem tlX12_law_L22 (d : Nat) (Q : Option Value → mm_H → Prop) : ∀ (n : Nat) (y1 : Int32) (y2 : Int32) (y3 : Int32) (y4 : Int32) (I : Nat → Nat → Int32) (J : Nat → Nat → Int64) (rv sp rr w nw : Nat), ∀ (out : Int32), fX12_law_L22 n y1 y2 y3 y4 I = some out → mm_T none (d + 3) 315 (69, [none, none, none, some (.int out), none], []) (107, I, J, mm_rf rv sp rr w nw) Q → mm_T none (d + 3) 315 (22, [some (.ref 62), some (.int y1), some (.int y2), some (.int y3), some (.int y4)], []) (107, I, J, mm_rf rv sp rr w nw) Q := by
  intro n
  induction n with
  | zero =>
    intro y1 y2 y3 y4 I J rv sp rr w nw out e k
    rw [fX12_law_L22] at e; cases e
  | succ n ih =>
    intro y1 y2 y3 y4 I J rv sp rr w nw out e k
    rw [fX12_law_L22] at e
    refine mm_T.seg (f' := (28, [some (.ref 62), some (.int y1), some (.int y2), some (.int y3), some (.int y4)], [(.int (I 62 49)), (.int y4)])) (h' := (107, I, J, mm_rf rv sp rr w nw)) 3 rfl ?_
    refine mm_T.br (c := y4 < (I 62 49)) (a := ((31, [some (.ref 62), some (.int y1), some (.int y2), some (.int y3), some (.int y4)], []), (107, I, J, mm_rf rv sp rr w nw))) (b := ((69, [some (.ref 62), some (.int y1), some (.int y2), some (.int y3), some (.int y4)], []), (107, I, J, mm_rf rv sp rr w nw))) rfl (fun h1040 => ?_) (fun h1040 => ?_)
    · rw [if_pos h1040] at e
      refine mm_T.seg (f' := (39, [some (.ref 62), some (.int y1), some (.int y2), some (.int y3), some (.int y4)], [(.int 1), (.int ((y2 >>> (y4 &&& 31)) &&& 1)), (.int y3)])) (h' := (107, I, J, mm_rf rv sp rr w nw)) 7 rfl ?_
      refine mm_T.br (c := ((y2 >>> (y4 &&& 31)) &&& 1) = 1) (a := ((42, [some (.ref 62), some (.int y1), some (.int y2), some (.int y3), some (.int y4)], [(.int y3)]), (107, I, J, mm_rf rv sp rr w nw))) (b := ((57, [some (.ref 62), some (.int y1), some (.int y2), some (.int y3), some (.int y4)], [(.int y3)]), (107, I, J, mm_rf rv sp rr w nw))) rfl (fun h1041 => ?_) (fun h1041 => ?_)
      · rw [if_pos h1041] at e
        refine mm_T.seg (f' := (48, [some (.ref 62), some (.int y1), some (.int y2), some (.int y3), some (.int y4)], [(.int y4), (.ref 83), (.int y3)])) (h' := (107, I, J, mm_rf rv sp rr w nw)) 3 rfl ?_
        by_cases h1042 : y4 < 0 ∨ 7 ≤ y4.toNatClampNeg
        · rw [if_pos h1042] at e; cases e
        rw [if_neg h1042] at e
        refine mm_T.guard (y := ((49, [some (.ref 62), some (.int y1), some (.int y2), some (.int y3), some (.int y4)], [(.int (I 83 y4.toNatClampNeg)), (.int y3)]), (107, I, J, mm_rf rv sp rr w nw))) rfl h1042 ?_
        refine mm_T.seg (f' := (50, [some (.ref 62), some (.int y1), some (.int y2), some (.int y3), some (.int y4)], [(.int y1), (.int (I 83 y4.toNatClampNeg)), (.int y3)])) (h' := (107, I, J, mm_rf rv sp rr w nw)) 1 rfl ?_
        refine mm_T.br (c := y1 < (I 83 y4.toNatClampNeg)) (a := ((57, [some (.ref 62), some (.int y1), some (.int y2), some (.int y3), some (.int y4)], [(.int y3)]), (107, I, J, mm_rf rv sp rr w nw))) (b := ((53, [some (.ref 62), some (.int y1), some (.int y2), some (.int y3), some (.int y4)], [(.int y3)]), (107, I, J, mm_rf rv sp rr w nw))) rfl (fun h1043 => ?_) (fun h1043 => ?_)
        · rw [if_pos h1043] at e
          refine mm_T.seg (f' := (58, [some (.ref 62), some (.int y1), some (.int y2), some (.int y3), some (.int y4)], [(.int 0), (.int y3)])) (h' := (107, I, J, mm_rf rv sp rr w nw)) 1 rfl ?_
          refine mm_T.call (t := 236) (as := [(.int 0)]) (f' := (61, [some (.ref 62), some (.int y1), some (.int y2), some (.int y3), some (.int y4)], [(.int y3)])) rfl (tX12_truth (d + 2) 0 I J rv sp rr w nw _ rfl) (fun v h hq => ?_)
          obtain ⟨rfl, rfl⟩ := hq
          refine mm_T.seg (f' := (22, [some (.ref 62), some (.int y1), some (.int y2), some (.int (y3 + (fX12_truth 0))), some (.int (y4 + 1))], [])) (h' := (107, I, J, mm_rf rv sp rr w nw)) 4 rfl ?_
          refine mm_T.mask [true, true, true, true, true] ?_
          exact ih y1 y2 (y3 + (fX12_truth 0)) (y4 + 1) I J rv sp rr w nw out e k
        · rw [if_neg h1043] at e
          refine mm_T.seg (f' := (58, [some (.ref 62), some (.int y1), some (.int y2), some (.int y3), some (.int y4)], [(.int 1), (.int y3)])) (h' := (107, I, J, mm_rf rv sp rr w nw)) 2 rfl ?_
          refine mm_T.call (t := 236) (as := [(.int 1)]) (f' := (61, [some (.ref 62), some (.int y1), some (.int y2), some (.int y3), some (.int y4)], [(.int y3)])) rfl (tX12_truth (d + 2) 1 I J rv sp rr w nw _ rfl) (fun v h hq => ?_)
          obtain ⟨rfl, rfl⟩ := hq
          refine mm_T.seg (f' := (22, [some (.ref 62), some (.int y1), some (.int y2), some (.int (y3 + (fX12_truth 1))), some (.int (y4 + 1))], [])) (h' := (107, I, J, mm_rf rv sp rr w nw)) 4 rfl ?_
          refine mm_T.mask [true, true, true, true, true] ?_
          exact ih y1 y2 (y3 + (fX12_truth 1)) (y4 + 1) I J rv sp rr w nw out e k
      · rw [if_neg h1041] at e
        refine mm_T.seg (f' := (58, [some (.ref 62), some (.int y1), some (.int y2), some (.int y3), some (.int y4)], [(.int 0), (.int y3)])) (h' := (107, I, J, mm_rf rv sp rr w nw)) 1 rfl ?_
        refine mm_T.call (t := 236) (as := [(.int 0)]) (f' := (61, [some (.ref 62), some (.int y1), some (.int y2), some (.int y3), some (.int y4)], [(.int y3)])) rfl (tX12_truth (d + 2) 0 I J rv sp rr w nw _ rfl) (fun v h hq => ?_)
        obtain ⟨rfl, rfl⟩ := hq
        refine mm_T.seg (f' := (22, [some (.ref 62), some (.int y1), some (.int y2), some (.int (y3 + (fX12_truth 0))), some (.int (y4 + 1))], [])) (h' := (107, I, J, mm_rf rv sp rr w nw)) 4 rfl ?_
        refine mm_T.mask [true, true, true, true, true] ?_
        exact ih y1 y2 (y3 + (fX12_truth 0)) (y4 + 1) I J rv sp rr w nw out e k
    · rw [if_neg h1040] at e
      cases e
      refine mm_T.mask [false, false, false, true, false] ?_
      exact k
set_option maxRecDepth 100000 in
set_option maxHeartbeats 4000000 in
theorem tX12_law (d n : Nat) (x1 : Int32) (I : Nat → Nat → Int32) (J : Nat → Nat → Int64) (rv sp rr w nw : Nat) (out : Int32 × (Nat → Nat → Int32)) (e : fX12_law n x1 I = some out) : mm_T none (d + 3) 315 (mm_ent 315 [(.ref 62), (.int x1)]) (107, I, J, mm_rf rv sp rr w nw) (fun v h => v = some (.int out.1) ∧ h = (107, out.2, J, mm_rf rv sp rr w nw)) := by
  unfold fX12_law at e
  refine mm_T.seg (f' := (4, [some (.ref 62), some (.int x1), none, none, none], [(.int 99), (.int 0), (.int x1)])) (h' := (107, I, J, mm_rf rv sp rr w nw)) 3 rfl ?_
  refine mm_T.call (t := 252) (as := [(.int x1), (.int 0), (.int 99)]) (f' := (7, [some (.ref 62), some (.int x1), none, none, none], [])) rfl (tX12_isIn (d + 2) x1 0 99 I J rv sp rr w nw _ rfl) (fun v h hq => ?_)
  obtain ⟨rfl, rfl⟩ := hq
  refine mm_T.br (c := (fX12_isIn x1 0 99) = 0) (a := ((10, [some (.ref 62), some (.int x1), none, none, none], []), (107, I, J, mm_rf rv sp rr w nw))) (b := ((12, [some (.ref 62), some (.int x1), none, none, none], []), (107, I, J, mm_rf rv sp rr w nw))) rfl (fun h1038 => ?_) (fun h1038 => ?_)
  · rw [if_pos h1038] at e
    refine mm_T.seg (f' := (11, [some (.ref 62), some (.int x1), none, none, none], [(.int (-1))])) (h' := (107, I, J, mm_rf rv sp rr w nw)) 1 rfl ?_
    cases e
    exact mm_T.ret rfl ⟨rfl, rfl⟩
  · rw [if_neg h1038] at e
    refine mm_T.seg (f' := (13, [some (.ref 62), some (.int x1), none, none, none], [(.ref 62)])) (h' := (107, I, J, mm_rf rv sp rr w nw)) 1 rfl ?_
    obtain ⟨o1039, eo1039, e⟩ := mm_bind e
    refine mm_T.call (t := 291) (as := [(.ref 62)]) (f' := (16, [some (.ref 62), some (.int x1), none, none, none], [])) rfl (tX12_nearLoads (d + 0) n I J rv sp rr w nw o1039 eo1039) (fun v h hq => ?_)
    obtain ⟨rfl, rfl⟩ := hq
    refine mm_T.seg (f' := (22, [some (.ref 62), some (.int x1), some (.int o1039.1), some (.int 0), some (.int 0)], [])) (h' := (107, o1039.2, J, mm_rf rv sp rr w nw)) 5 rfl ?_
    refine mm_T.mask [true, true, true, true, true] ?_
    obtain ⟨o1044, eo1044, e⟩ := mm_bind e
    refine tlX12_law_L22 d _ n x1 o1039.1 0 0 o1039.2 J rv sp rr w nw o1044 eo1044 ?_
    refine mm_T.seg (f' := (70, [none, none, none, some (.int o1044), none], [(.int o1044)])) (h' := (107, o1039.2, J, mm_rf rv sp rr w nw)) 1 rfl ?_
    cases e
    exact mm_T.ret rfl ⟨rfl, rfl⟩
def fX12_lies (x1 : Int32) (I : Nat → Nat → Int32) : Option (Int32) := (if (fX12_isIn x1 0 ((I 62 61) - 1)) = 0 then some (-2) else (if x1 < 0 ∨ 7 ≤ x1.toNatClampNeg then none else some (I 88 x1.toNatClampNeg)))
set_option maxRecDepth 100000 in
set_option maxHeartbeats 4000000 in
theorem tX12_lies (d : Nat) (x1 : Int32) (I : Nat → Nat → Int32) (J : Nat → Nat → Int64) (rv sp rr w nw : Nat) (out : Int32) (e : fX12_lies x1 I = some out) : mm_T none (d + 1) 316 (mm_ent 316 [(.ref 62), (.int x1)]) (107, I, J, mm_rf rv sp rr w nw) (fun v h => v = some (.int out) ∧ h = (107, I, J, mm_rf rv sp rr w nw)) := by
  unfold fX12_lies at e
  refine mm_T.seg (f' := (8, [some (.ref 62), some (.int x1)], [(.int ((I 62 61) - 1)), (.int 0), (.int x1)])) (h' := (107, I, J, mm_rf rv sp rr w nw)) 6 rfl ?_
  refine mm_T.call (t := 252) (as := [(.int x1), (.int 0), (.int ((I 62 61) - 1))]) (f' := (11, [some (.ref 62), some (.int x1)], [])) rfl (tX12_isIn (d + 0) x1 0 ((I 62 61) - 1) I J rv sp rr w nw _ rfl) (fun v h hq => ?_)
  obtain ⟨rfl, rfl⟩ := hq
  refine mm_T.br (c := (fX12_isIn x1 0 ((I 62 61) - 1)) = 0) (a := ((23, [some (.ref 62), some (.int x1)], []), (107, I, J, mm_rf rv sp rr w nw))) (b := ((14, [some (.ref 62), some (.int x1)], []), (107, I, J, mm_rf rv sp rr w nw))) rfl (fun h1045 => ?_) (fun h1045 => ?_)
  · rw [if_pos h1045] at e
    refine mm_T.seg (f' := (25, [some (.ref 62), some (.int x1)], [(.int (-2))])) (h' := (107, I, J, mm_rf rv sp rr w nw)) 1 rfl ?_
    cases e
    exact mm_T.ret rfl ⟨rfl, rfl⟩
  · rw [if_neg h1045] at e
    refine mm_T.seg (f' := (19, [some (.ref 62), some (.int x1)], [(.int x1), (.ref 88)])) (h' := (107, I, J, mm_rf rv sp rr w nw)) 3 rfl ?_
    by_cases h1046 : x1 < 0 ∨ 7 ≤ x1.toNatClampNeg
    · rw [if_pos h1046] at e; cases e
    rw [if_neg h1046] at e
    refine mm_T.guard (y := ((20, [some (.ref 62), some (.int x1)], [(.int (I 88 x1.toNatClampNeg))]), (107, I, J, mm_rf rv sp rr w nw))) rfl h1046 ?_
    refine mm_T.seg (f' := (25, [some (.ref 62), some (.int x1)], [(.int (I 88 x1.toNatClampNeg))])) (h' := (107, I, J, mm_rf rv sp rr w nw)) 1 rfl ?_
    cases e
    exact mm_T.ret rfl ⟨rfl, rfl⟩
def fX12_see (x1 : Int32) (x2 : Int32) (x3 : Int32) (x4 : Int32) (I : Nat → Nat → Int32) : Option (Int32 × (Nat → Nat → Int32)) := (if (I 62 48) = 0 then some ((-1), I) else (if (fX12_isIn x2 1 (I 62 47)) = 0 then some ((-1), I) else (if (I 62 75) = 30 then some ((-1), I) else (if (I 62 75) < 0 ∨ 30 ≤ (I 62 75).toNatClampNeg then none else (if (I 62 75) < 0 ∨ 30 ≤ (I 62 75).toNatClampNeg then none else (if (I 62 75) < 0 ∨ 30 ≤ (I 62 75).toNatClampNeg then none else (if (I 62 75) < 0 ∨ 30 ≤ (I 62 75).toNatClampNeg then none else (if (I 62 75) < 0 ∨ 30 ≤ (I 62 75).toNatClampNeg then none else (if (I 62 75) < 0 ∨ 30 ≤ (I 62 75).toNatClampNeg then none else some ((((I 62 75) + 1) - 1), (mm_up (mm_up (mm_up (mm_up (mm_up (mm_up (mm_up I 96 (I 62 75).toNatClampNeg x1) 97 (I 62 75).toNatClampNeg x2) 98 (I 62 75).toNatClampNeg x3) 101 (I 62 75).toNatClampNeg (vp_nar .boolean x4)) 99 (I 62 75).toNatClampNeg (I 62 76)) 100 (I 62 75).toNatClampNeg (-1)) 62 75 ((I 62 75) + 1))))))))))))
set_option maxRecDepth 100000 in
set_option maxHeartbeats 4000000 in
theorem tX12_see (d : Nat) (x1 : Int32) (x2 : Int32) (x3 : Int32) (x4 : Int32) (I : Nat → Nat → Int32) (J : Nat → Nat → Int64) (rv sp rr w nw : Nat) (out : Int32 × (Nat → Nat → Int32)) (e : fX12_see x1 x2 x3 x4 I = some out) : mm_T none (d + 1) 317 (mm_ent 317 [(.ref 62), (.int x1), (.int x2), (.int x3), (.int x4)]) (107, I, J, mm_rf rv sp rr w nw) (fun v h => v = some (.int out.1) ∧ h = (107, out.2, J, mm_rf rv sp rr w nw)) := by
  unfold fX12_see at e
  refine mm_T.seg (f' := (4, [some (.ref 62), some (.int x1), some (.int x2), some (.int x3), some (.int x4)], [(.int (I 62 48))])) (h' := (107, I, J, mm_rf rv sp rr w nw)) 2 rfl ?_
  refine mm_T.br (c := (I 62 48) = 0) (a := ((28, [some (.ref 62), some (.int x1), some (.int x2), some (.int x3), some (.int x4)], []), (107, I, J, mm_rf rv sp rr w nw))) (b := ((7, [some (.ref 62), some (.int x1), some (.int x2), some (.int x3), some (.int x4)], []), (107, I, J, mm_rf rv sp rr w nw))) rfl (fun h1047 => ?_) (fun h1047 => ?_)
  · rw [if_pos h1047] at e
    refine mm_T.seg (f' := (29, [some (.ref 62), some (.int x1), some (.int x2), some (.int x3), some (.int x4)], [(.int (-1))])) (h' := (107, I, J, mm_rf rv sp rr w nw)) 1 rfl ?_
    cases e
    exact mm_T.ret rfl ⟨rfl, rfl⟩
  · rw [if_neg h1047] at e
    refine mm_T.seg (f' := (13, [some (.ref 62), some (.int x1), some (.int x2), some (.int x3), some (.int x4)], [(.int (I 62 47)), (.int 1), (.int x2)])) (h' := (107, I, J, mm_rf rv sp rr w nw)) 4 rfl ?_
    refine mm_T.call (t := 252) (as := [(.int x2), (.int 1), (.int (I 62 47))]) (f' := (16, [some (.ref 62), some (.int x1), some (.int x2), some (.int x3), some (.int x4)], [])) rfl (tX12_isIn (d + 0) x2 1 (I 62 47) I J rv sp rr w nw _ rfl) (fun v h hq => ?_)
    obtain ⟨rfl, rfl⟩ := hq
    refine mm_T.br (c := (fX12_isIn x2 1 (I 62 47)) = 0) (a := ((28, [some (.ref 62), some (.int x1), some (.int x2), some (.int x3), some (.int x4)], []), (107, I, J, mm_rf rv sp rr w nw))) (b := ((19, [some (.ref 62), some (.int x1), some (.int x2), some (.int x3), some (.int x4)], []), (107, I, J, mm_rf rv sp rr w nw))) rfl (fun h1048 => ?_) (fun h1048 => ?_)
    · rw [if_pos h1048] at e
      refine mm_T.seg (f' := (29, [some (.ref 62), some (.int x1), some (.int x2), some (.int x3), some (.int x4)], [(.int (-1))])) (h' := (107, I, J, mm_rf rv sp rr w nw)) 1 rfl ?_
      cases e
      exact mm_T.ret rfl ⟨rfl, rfl⟩
    · rw [if_neg h1048] at e
      refine mm_T.seg (f' := (25, [some (.ref 62), some (.int x1), some (.int x2), some (.int x3), some (.int x4)], [(.int 30), (.int (I 62 75))])) (h' := (107, I, J, mm_rf rv sp rr w nw)) 3 rfl ?_
      refine mm_T.br (c := (I 62 75) = 30) (a := ((28, [some (.ref 62), some (.int x1), some (.int x2), some (.int x3), some (.int x4)], []), (107, I, J, mm_rf rv sp rr w nw))) (b := ((30, [some (.ref 62), some (.int x1), some (.int x2), some (.int x3), some (.int x4)], []), (107, I, J, mm_rf rv sp rr w nw))) rfl (fun h1049 => ?_) (fun h1049 => ?_)
      · rw [if_pos h1049] at e
        refine mm_T.seg (f' := (29, [some (.ref 62), some (.int x1), some (.int x2), some (.int x3), some (.int x4)], [(.int (-1))])) (h' := (107, I, J, mm_rf rv sp rr w nw)) 1 rfl ?_
        cases e
        exact mm_T.ret rfl ⟨rfl, rfl⟩
      · rw [if_neg h1049] at e
        refine mm_T.seg (f' := (39, [some (.ref 62), some (.int x1), some (.int x2), some (.int x3), some (.int x4)], [(.int x1), (.int (I 62 75)), (.ref 96)])) (h' := (107, I, J, mm_rf rv sp rr w nw)) 5 rfl ?_
        by_cases h1050 : (I 62 75) < 0 ∨ 30 ≤ (I 62 75).toNatClampNeg
        · rw [if_pos h1050] at e; cases e
        rw [if_neg h1050] at e
        refine mm_T.guard (y := ((40, [some (.ref 62), some (.int x1), some (.int x2), some (.int x3), some (.int x4)], []), (107, (mm_up I 96 (I 62 75).toNatClampNeg x1), J, mm_rf rv sp rr w nw))) rfl h1050 ?_
        refine mm_T.seg (f' := (49, [some (.ref 62), some (.int x1), some (.int x2), some (.int x3), some (.int x4)], [(.int x2), (.int (I 62 75)), (.ref 97)])) (h' := (107, (mm_up I 96 (I 62 75).toNatClampNeg x1), J, mm_rf rv sp rr w nw)) 5 rfl ?_
        by_cases h1051 : (I 62 75) < 0 ∨ 30 ≤ (I 62 75).toNatClampNeg
        · rw [if_pos h1051] at e; cases e
        rw [if_neg h1051] at e
        refine mm_T.guard (y := ((50, [some (.ref 62), some (.int x1), some (.int x2), some (.int x3), some (.int x4)], []), (107, (mm_up (mm_up I 96 (I 62 75).toNatClampNeg x1) 97 (I 62 75).toNatClampNeg x2), J, mm_rf rv sp rr w nw))) rfl h1051 ?_
        refine mm_T.seg (f' := (59, [some (.ref 62), some (.int x1), some (.int x2), some (.int x3), some (.int x4)], [(.int x3), (.int (I 62 75)), (.ref 98)])) (h' := (107, (mm_up (mm_up I 96 (I 62 75).toNatClampNeg x1) 97 (I 62 75).toNatClampNeg x2), J, mm_rf rv sp rr w nw)) 5 rfl ?_
        by_cases h1052 : (I 62 75) < 0 ∨ 30 ≤ (I 62 75).toNatClampNeg
        · rw [if_pos h1052] at e; cases e
        rw [if_neg h1052] at e
        refine mm_T.guard (y := ((60, [some (.ref 62), some (.int x1), some (.int x2), some (.int x3), some (.int x4)], []), (107, (mm_up (mm_up (mm_up I 96 (I 62 75).toNatClampNeg x1) 97 (I 62 75).toNatClampNeg x2) 98 (I 62 75).toNatClampNeg x3), J, mm_rf rv sp rr w nw))) rfl h1052 ?_
        refine mm_T.seg (f' := (70, [some (.ref 62), some (.int x1), some (.int x2), some (.int x3), some (.int x4)], [(.int x4), (.int (I 62 75)), (.ref 101)])) (h' := (107, (mm_up (mm_up (mm_up I 96 (I 62 75).toNatClampNeg x1) 97 (I 62 75).toNatClampNeg x2) 98 (I 62 75).toNatClampNeg x3), J, mm_rf rv sp rr w nw)) 5 rfl ?_
        by_cases h1053 : (I 62 75) < 0 ∨ 30 ≤ (I 62 75).toNatClampNeg
        · rw [if_pos h1053] at e; cases e
        rw [if_neg h1053] at e
        refine mm_T.guard (y := ((71, [some (.ref 62), some (.int x1), some (.int x2), some (.int x3), some (.int x4)], []), (107, (mm_up (mm_up (mm_up (mm_up I 96 (I 62 75).toNatClampNeg x1) 97 (I 62 75).toNatClampNeg x2) 98 (I 62 75).toNatClampNeg x3) 101 (I 62 75).toNatClampNeg (vp_nar .boolean x4)), J, mm_rf rv sp rr w nw))) rfl h1053 ?_
        refine mm_T.seg (f' := (83, [some (.ref 62), some (.int x1), some (.int x2), some (.int x3), some (.int x4)], [(.int (I 62 76)), (.int (I 62 75)), (.ref 99)])) (h' := (107, (mm_up (mm_up (mm_up (mm_up I 96 (I 62 75).toNatClampNeg x1) 97 (I 62 75).toNatClampNeg x2) 98 (I 62 75).toNatClampNeg x3) 101 (I 62 75).toNatClampNeg (vp_nar .boolean x4)), J, mm_rf rv sp rr w nw)) 6 rfl ?_
        by_cases h1054 : (I 62 75) < 0 ∨ 30 ≤ (I 62 75).toNatClampNeg
        · rw [if_pos h1054] at e; cases e
        rw [if_neg h1054] at e
        refine mm_T.guard (y := ((84, [some (.ref 62), some (.int x1), some (.int x2), some (.int x3), some (.int x4)], []), (107, (mm_up (mm_up (mm_up (mm_up (mm_up I 96 (I 62 75).toNatClampNeg x1) 97 (I 62 75).toNatClampNeg x2) 98 (I 62 75).toNatClampNeg x3) 101 (I 62 75).toNatClampNeg (vp_nar .boolean x4)) 99 (I 62 75).toNatClampNeg (I 62 76)), J, mm_rf rv sp rr w nw))) rfl h1054 ?_
        refine mm_T.seg (f' := (93, [some (.ref 62), some (.int x1), some (.int x2), some (.int x3), some (.int x4)], [(.int (-1)), (.int (I 62 75)), (.ref 100)])) (h' := (107, (mm_up (mm_up (mm_up (mm_up (mm_up I 96 (I 62 75).toNatClampNeg x1) 97 (I 62 75).toNatClampNeg x2) 98 (I 62 75).toNatClampNeg x3) 101 (I 62 75).toNatClampNeg (vp_nar .boolean x4)) 99 (I 62 75).toNatClampNeg (I 62 76)), J, mm_rf rv sp rr w nw)) 5 rfl ?_
        by_cases h1055 : (I 62 75) < 0 ∨ 30 ≤ (I 62 75).toNatClampNeg
        · rw [if_pos h1055] at e; cases e
        rw [if_neg h1055] at e
        refine mm_T.guard (y := ((94, [some (.ref 62), some (.int x1), some (.int x2), some (.int x3), some (.int x4)], []), (107, (mm_up (mm_up (mm_up (mm_up (mm_up (mm_up I 96 (I 62 75).toNatClampNeg x1) 97 (I 62 75).toNatClampNeg x2) 98 (I 62 75).toNatClampNeg x3) 101 (I 62 75).toNatClampNeg (vp_nar .boolean x4)) 99 (I 62 75).toNatClampNeg (I 62 76)) 100 (I 62 75).toNatClampNeg (-1)), J, mm_rf rv sp rr w nw))) rfl h1055 ?_
        refine mm_T.seg (f' := (110, [some (.ref 62), some (.int x1), some (.int x2), some (.int x3), some (.int x4)], [(.int (((I 62 75) + 1) - 1))])) (h' := (107, (mm_up (mm_up (mm_up (mm_up (mm_up (mm_up (mm_up I 96 (I 62 75).toNatClampNeg x1) 97 (I 62 75).toNatClampNeg x2) 98 (I 62 75).toNatClampNeg x3) 101 (I 62 75).toNatClampNeg (vp_nar .boolean x4)) 99 (I 62 75).toNatClampNeg (I 62 76)) 100 (I 62 75).toNatClampNeg (-1)) 62 75 ((I 62 75) + 1)), J, mm_rf rv sp rr w nw)) 10 rfl ?_
        cases e
        exact mm_T.ret rfl ⟨rfl, rfl⟩
def fX12_passed (x1 : Int32) (x2 : Int32) (x3 : Int32) (I : Nat → Nat → Int32) : Option (Int32 × (Nat → Nat → Int32)) := (if (fX12_isIn x2 0 7) = 0 then some ((-1), I) else (fX12_see 0 x1 x2 x3 I).bind fun o1057 => some (o1057.1, o1057.2))
set_option maxRecDepth 100000 in
set_option maxHeartbeats 4000000 in
theorem tX12_passed (d : Nat) (x1 : Int32) (x2 : Int32) (x3 : Int32) (I : Nat → Nat → Int32) (J : Nat → Nat → Int64) (rv sp rr w nw : Nat) (out : Int32 × (Nat → Nat → Int32)) (e : fX12_passed x1 x2 x3 I = some out) : mm_T none (d + 2) 318 (mm_ent 318 [(.ref 62), (.int x1), (.int x2), (.int x3)]) (107, I, J, mm_rf rv sp rr w nw) (fun v h => v = some (.int out.1) ∧ h = (107, out.2, J, mm_rf rv sp rr w nw)) := by
  unfold fX12_passed at e
  refine mm_T.seg (f' := (4, [some (.ref 62), some (.int x1), some (.int x2), some (.int x3)], [(.int 7), (.int 0), (.int x2)])) (h' := (107, I, J, mm_rf rv sp rr w nw)) 3 rfl ?_
  refine mm_T.call (t := 252) (as := [(.int x2), (.int 0), (.int 7)]) (f' := (7, [some (.ref 62), some (.int x1), some (.int x2), some (.int x3)], [])) rfl (tX12_isIn (d + 1) x2 0 7 I J rv sp rr w nw _ rfl) (fun v h hq => ?_)
  obtain ⟨rfl, rfl⟩ := hq
  refine mm_T.br (c := (fX12_isIn x2 0 7) = 0) (a := ((21, [some (.ref 62), some (.int x1), some (.int x2), some (.int x3)], []), (107, I, J, mm_rf rv sp rr w nw))) (b := ((10, [some (.ref 62), some (.int x1), some (.int x2), some (.int x3)], []), (107, I, J, mm_rf rv sp rr w nw))) rfl (fun h1056 => ?_) (fun h1056 => ?_)
  · rw [if_pos h1056] at e
    refine mm_T.seg (f' := (22, [some (.ref 62), some (.int x1), some (.int x2), some (.int x3)], [(.int (-1))])) (h' := (107, I, J, mm_rf rv sp rr w nw)) 1 rfl ?_
    cases e
    exact mm_T.ret rfl ⟨rfl, rfl⟩
  · rw [if_neg h1056] at e
    refine mm_T.seg (f' := (15, [some (.ref 62), some (.int x1), some (.int x2), some (.int x3)], [(.int x3), (.int x2), (.int x1), (.int 0), (.ref 62)])) (h' := (107, I, J, mm_rf rv sp rr w nw)) 5 rfl ?_
    obtain ⟨o1057, eo1057, e⟩ := mm_bind e
    refine mm_T.call (t := 317) (as := [(.ref 62), (.int 0), (.int x1), (.int x2), (.int x3)]) (f' := (18, [some (.ref 62), some (.int x1), some (.int x2), some (.int x3)], [])) rfl (tX12_see (d + 0) 0 x1 x2 x3 I J rv sp rr w nw o1057 eo1057) (fun v h hq => ?_)
    obtain ⟨rfl, rfl⟩ := hq
    refine mm_T.seg (f' := (22, [some (.ref 62), some (.int x1), some (.int x2), some (.int x3)], [(.int o1057.1)])) (h' := (107, o1057.2, J, mm_rf rv sp rr w nw)) 1 rfl ?_
    cases e
    exact mm_T.ret rfl ⟨rfl, rfl⟩
def fX12_felt (x1 : Int32) (x2 : Int32) (x3 : Int32) (I : Nat → Nat → Int32) : Option (Int32 × (Nat → Nat → Int32)) := (if (fX12_isIn x2 0 99) = 0 then some ((-1), I) else (fX12_see 1 x1 x2 x3 I).bind fun o1059 => some (o1059.1, o1059.2))
set_option maxRecDepth 100000 in
set_option maxHeartbeats 4000000 in
theorem tX12_felt (d : Nat) (x1 : Int32) (x2 : Int32) (x3 : Int32) (I : Nat → Nat → Int32) (J : Nat → Nat → Int64) (rv sp rr w nw : Nat) (out : Int32 × (Nat → Nat → Int32)) (e : fX12_felt x1 x2 x3 I = some out) : mm_T none (d + 2) 319 (mm_ent 319 [(.ref 62), (.int x1), (.int x2), (.int x3)]) (107, I, J, mm_rf rv sp rr w nw) (fun v h => v = some (.int out.1) ∧ h = (107, out.2, J, mm_rf rv sp rr w nw)) := by
  unfold fX12_felt at e
  refine mm_T.seg (f' := (4, [some (.ref 62), some (.int x1), some (.int x2), some (.int x3)], [(.int 99), (.int 0), (.int x2)])) (h' := (107, I, J, mm_rf rv sp rr w nw)) 3 rfl ?_
  refine mm_T.call (t := 252) (as := [(.int x2), (.int 0), (.int 99)]) (f' := (7, [some (.ref 62), some (.int x1), some (.int x2), some (.int x3)], [])) rfl (tX12_isIn (d + 1) x2 0 99 I J rv sp rr w nw _ rfl) (fun v h hq => ?_)
  obtain ⟨rfl, rfl⟩ := hq
  refine mm_T.br (c := (fX12_isIn x2 0 99) = 0) (a := ((21, [some (.ref 62), some (.int x1), some (.int x2), some (.int x3)], []), (107, I, J, mm_rf rv sp rr w nw))) (b := ((10, [some (.ref 62), some (.int x1), some (.int x2), some (.int x3)], []), (107, I, J, mm_rf rv sp rr w nw))) rfl (fun h1058 => ?_) (fun h1058 => ?_)
  · rw [if_pos h1058] at e
    refine mm_T.seg (f' := (22, [some (.ref 62), some (.int x1), some (.int x2), some (.int x3)], [(.int (-1))])) (h' := (107, I, J, mm_rf rv sp rr w nw)) 1 rfl ?_
    cases e
    exact mm_T.ret rfl ⟨rfl, rfl⟩
  · rw [if_neg h1058] at e
    refine mm_T.seg (f' := (15, [some (.ref 62), some (.int x1), some (.int x2), some (.int x3)], [(.int x3), (.int x2), (.int x1), (.int 1), (.ref 62)])) (h' := (107, I, J, mm_rf rv sp rr w nw)) 5 rfl ?_
    obtain ⟨o1059, eo1059, e⟩ := mm_bind e
    refine mm_T.call (t := 317) (as := [(.ref 62), (.int 1), (.int x1), (.int x2), (.int x3)]) (f' := (18, [some (.ref 62), some (.int x1), some (.int x2), some (.int x3)], [])) rfl (tX12_see (d + 0) 1 x1 x2 x3 I J rv sp rr w nw o1059 eo1059) (fun v h hq => ?_)
    obtain ⟨rfl, rfl⟩ := hq
    refine mm_T.seg (f' := (22, [some (.ref 62), some (.int x1), some (.int x2), some (.int x3)], [(.int o1059.1)])) (h' := (107, o1059.2, J, mm_rf rv sp rr w nw)) 1 rfl ?_
    cases e
    exact mm_T.ret rfl ⟨rfl, rfl⟩
def fX12_untell (x1 : Int32) (I : Nat → Nat → Int32) : Option (Int32 × (Nat → Nat → Int32)) := (if (fX12_isIn x1 0 ((I 62 75) - 1)) = 0 then some (0, I) else (if x1 < 0 ∨ 30 ≤ x1.toNatClampNeg then none else (if (I 100 x1.toNatClampNeg) < 0 then (if x1 < 0 ∨ 30 ≤ x1.toNatClampNeg then none else some (1, (mm_up I 100 x1.toNatClampNeg (I 62 76)))) else some (0, I))))
set_option maxRecDepth 100000 in
set_option maxHeartbeats 4000000 in
theorem tX12_untell (d : Nat) (x1 : Int32) (I : Nat → Nat → Int32) (J : Nat → Nat → Int64) (rv sp rr w nw : Nat) (out : Int32 × (Nat → Nat → Int32)) (e : fX12_untell x1 I = some out) : mm_T none (d + 1) 320 (mm_ent 320 [(.ref 62), (.int x1)]) (107, I, J, mm_rf rv sp rr w nw) (fun v h => v = some (.int out.1) ∧ h = (107, out.2, J, mm_rf rv sp rr w nw)) := by
  unfold fX12_untell at e
  refine mm_T.seg (f' := (8, [some (.ref 62), some (.int x1)], [(.int ((I 62 75) - 1)), (.int 0), (.int x1)])) (h' := (107, I, J, mm_rf rv sp rr w nw)) 6 rfl ?_
  refine mm_T.call (t := 252) (as := [(.int x1), (.int 0), (.int ((I 62 75) - 1))]) (f' := (11, [some (.ref 62), some (.int x1)], [])) rfl (tX12_isIn (d + 0) x1 0 ((I 62 75) - 1) I J rv sp rr w nw _ rfl) (fun v h hq => ?_)
  obtain ⟨rfl, rfl⟩ := hq
  refine mm_T.br (c := (fX12_isIn x1 0 ((I 62 75) - 1)) = 0) (a := ((23, [some (.ref 62), some (.int x1)], []), (107, I, J, mm_rf rv sp rr w nw))) (b := ((14, [some (.ref 62), some (.int x1)], []), (107, I, J, mm_rf rv sp rr w nw))) rfl (fun h1060 => ?_) (fun h1060 => ?_)
  · rw [if_pos h1060] at e
    refine mm_T.seg (f' := (24, [some (.ref 62), some (.int x1)], [(.int 0)])) (h' := (107, I, J, mm_rf rv sp rr w nw)) 1 rfl ?_
    cases e
    exact mm_T.ret rfl ⟨rfl, rfl⟩
  · rw [if_neg h1060] at e
    refine mm_T.seg (f' := (19, [some (.ref 62), some (.int x1)], [(.int x1), (.ref 100)])) (h' := (107, I, J, mm_rf rv sp rr w nw)) 3 rfl ?_
    by_cases h1061 : x1 < 0 ∨ 30 ≤ x1.toNatClampNeg
    · rw [if_pos h1061] at e; cases e
    rw [if_neg h1061] at e
    refine mm_T.guard (y := ((20, [some (.ref 62), some (.int x1)], [(.int (I 100 x1.toNatClampNeg))]), (107, I, J, mm_rf rv sp rr w nw))) rfl h1061 ?_
    refine mm_T.br (c := (I 100 x1.toNatClampNeg) < 0) (a := ((25, [some (.ref 62), some (.int x1)], []), (107, I, J, mm_rf rv sp rr w nw))) (b := ((23, [some (.ref 62), some (.int x1)], []), (107, I, J, mm_rf rv sp rr w nw))) rfl (fun h1062 => ?_) (fun h1062 => ?_)
    · rw [if_pos h1062] at e
      refine mm_T.seg (f' := (34, [some (.ref 62), some (.int x1)], [(.int (I 62 76)), (.int x1), (.ref 100)])) (h' := (107, I, J, mm_rf rv sp rr w nw)) 5 rfl ?_
      by_cases h1063 : x1 < 0 ∨ 30 ≤ x1.toNatClampNeg
      · rw [if_pos h1063] at e; cases e
      rw [if_neg h1063] at e
      refine mm_T.guard (y := ((35, [some (.ref 62), some (.int x1)], []), (107, (mm_up I 100 x1.toNatClampNeg (I 62 76)), J, mm_rf rv sp rr w nw))) rfl h1063 ?_
      refine mm_T.seg (f' := (36, [some (.ref 62), some (.int x1)], [(.int 1)])) (h' := (107, (mm_up I 100 x1.toNatClampNeg (I 62 76)), J, mm_rf rv sp rr w nw)) 1 rfl ?_
      cases e
      exact mm_T.ret rfl ⟨rfl, rfl⟩
    · rw [if_neg h1062] at e
      refine mm_T.seg (f' := (24, [some (.ref 62), some (.int x1)], [(.int 0)])) (h' := (107, I, J, mm_rf rv sp rr w nw)) 1 rfl ?_
      cases e
      exact mm_T.ret rfl ⟨rfl, rfl⟩
def fX12_later (x1 : Int32) (I : Nat → Nat → Int32) : Int32 × (Nat → Nat → Int32) := (if x1 < 0 then ((-1), I) else (if 1000 < x1 then ((-1), I) else (if 100000 < ((I 62 76) + x1) then ((-1), I) else (((I 62 76) + x1), (mm_up I 62 76 ((I 62 76) + x1))))))
set_option maxRecDepth 100000 in
set_option maxHeartbeats 4000000 in
theorem tX12_later (d : Nat) (x1 : Int32) (I : Nat → Nat → Int32) (J : Nat → Nat → Int64) (rv sp rr w nw : Nat) (out : Int32 × (Nat → Nat → Int32)) (e : fX12_later x1 I = out) : mm_T none (d + 0) 321 (mm_ent 321 [(.ref 62), (.int x1)]) (107, I, J, mm_rf rv sp rr w nw) (fun v h => v = some (.int out.1) ∧ h = (107, out.2, J, mm_rf rv sp rr w nw)) := by
  unfold fX12_later at e
  refine mm_T.seg (f' := (1, [some (.ref 62), some (.int x1)], [(.int x1)])) (h' := (107, I, J, mm_rf rv sp rr w nw)) 1 rfl ?_
  refine mm_T.br (c := x1 < 0) (a := ((23, [some (.ref 62), some (.int x1)], []), (107, I, J, mm_rf rv sp rr w nw))) (b := ((4, [some (.ref 62), some (.int x1)], []), (107, I, J, mm_rf rv sp rr w nw))) rfl (fun h1064 => ?_) (fun h1064 => ?_)
  · rw [if_pos h1064] at e
    refine mm_T.seg (f' := (24, [some (.ref 62), some (.int x1)], [(.int (-1))])) (h' := (107, I, J, mm_rf rv sp rr w nw)) 1 rfl ?_
    cases e
    exact mm_T.ret rfl ⟨rfl, rfl⟩
  · rw [if_neg h1064] at e
    refine mm_T.seg (f' := (8, [some (.ref 62), some (.int x1)], [(.int 1000), (.int x1)])) (h' := (107, I, J, mm_rf rv sp rr w nw)) 2 rfl ?_
    refine mm_T.br (c := 1000 < x1) (a := ((23, [some (.ref 62), some (.int x1)], []), (107, I, J, mm_rf rv sp rr w nw))) (b := ((11, [some (.ref 62), some (.int x1)], []), (107, I, J, mm_rf rv sp rr w nw))) rfl (fun h1065 => ?_) (fun h1065 => ?_)
    · rw [if_pos h1065] at e
      refine mm_T.seg (f' := (24, [some (.ref 62), some (.int x1)], [(.int (-1))])) (h' := (107, I, J, mm_rf rv sp rr w nw)) 1 rfl ?_
      cases e
      exact mm_T.ret rfl ⟨rfl, rfl⟩
    · rw [if_neg h1065] at e
      refine mm_T.seg (f' := (20, [some (.ref 62), some (.int x1)], [(.int 100000), (.int ((I 62 76) + x1))])) (h' := (107, I, J, mm_rf rv sp rr w nw)) 5 rfl ?_
      refine mm_T.br (c := 100000 < ((I 62 76) + x1)) (a := ((23, [some (.ref 62), some (.int x1)], []), (107, I, J, mm_rf rv sp rr w nw))) (b := ((25, [some (.ref 62), some (.int x1)], []), (107, I, J, mm_rf rv sp rr w nw))) rfl (fun h1066 => ?_) (fun h1066 => ?_)
      · rw [if_pos h1066] at e
        refine mm_T.seg (f' := (24, [some (.ref 62), some (.int x1)], [(.int (-1))])) (h' := (107, I, J, mm_rf rv sp rr w nw)) 1 rfl ?_
        cases e
        exact mm_T.ret rfl ⟨rfl, rfl⟩
      · rw [if_neg h1066] at e
        refine mm_T.seg (f' := (39, [some (.ref 62), some (.int x1)], [(.int ((I 62 76) + x1))])) (h' := (107, (mm_up I 62 76 ((I 62 76) + x1)), J, mm_rf rv sp rr w nw)) 8 rfl ?_
        cases e
        exact mm_T.ret rfl ⟨rfl, rfl⟩
def fX12_isSo (x1 : Int32) (I : Nat → Nat → Int32) : Option (Int32) := (if x1 < 0 ∨ 30 ≤ x1.toNatClampNeg then none else (if x1 < 0 ∨ 30 ≤ x1.toNatClampNeg then none else (if (I 96 x1.toNatClampNeg) = 0 then (if ((I 97 x1.toNatClampNeg) - 1) < 0 ∨ 6 ≤ ((I 97 x1.toNatClampNeg) - 1).toNatClampNeg then none else (if x1 < 0 ∨ 30 ≤ x1.toNatClampNeg then none else (if (I 102 ((I 97 x1.toNatClampNeg) - 1).toNatClampNeg) < (I 98 x1.toNatClampNeg) then some 0 else some 1))) else (if ((I 97 x1.toNatClampNeg) - 1) < 0 ∨ 6 ≤ ((I 97 x1.toNatClampNeg) - 1).toNatClampNeg then none else (if x1 < 0 ∨ 30 ≤ x1.toNatClampNeg then none else (if (I 103 ((I 97 x1.toNatClampNeg) - 1).toNatClampNeg) < (I 98 x1.toNatClampNeg) then some 0 else some 1))))))
set_option maxRecDepth 100000 in
set_option maxHeartbeats 4000000 in
theorem tX12_isSo (d : Nat) (x1 : Int32) (I : Nat → Nat → Int32) (J : Nat → Nat → Int64) (rv sp rr w nw : Nat) (out : Int32) (e : fX12_isSo x1 I = some out) : mm_T none (d + 0) 322 (mm_ent 322 [(.ref 62), (.int x1)]) (107, I, J, mm_rf rv sp rr w nw) (fun v h => v = some (.int out) ∧ h = (107, I, J, mm_rf rv sp rr w nw)) := by
  unfold fX12_isSo at e
  refine mm_T.seg (f' := (5, [some (.ref 62), some (.int x1), none], [(.int x1), (.ref 97)])) (h' := (107, I, J, mm_rf rv sp rr w nw)) 3 rfl ?_
  by_cases h1067 : x1 < 0 ∨ 30 ≤ x1.toNatClampNeg
  · rw [if_pos h1067] at e; cases e
  rw [if_neg h1067] at e
  refine mm_T.guard (y := ((6, [some (.ref 62), some (.int x1), none], [(.int (I 97 x1.toNatClampNeg))]), (107, I, J, mm_rf rv sp rr w nw))) rfl h1067 ?_
  refine mm_T.seg (f' := (14, [some (.ref 62), some (.int x1), some (.int ((I 97 x1.toNatClampNeg) - 1))], [(.int x1), (.ref 96)])) (h' := (107, I, J, mm_rf rv sp rr w nw)) 6 rfl ?_
  by_cases h1068 : x1 < 0 ∨ 30 ≤ x1.toNatClampNeg
  · rw [if_pos h1068] at e; cases e
  rw [if_neg h1068] at e
  refine mm_T.guard (y := ((15, [some (.ref 62), some (.int x1), some (.int ((I 97 x1.toNatClampNeg) - 1))], [(.int (I 96 x1.toNatClampNeg))]), (107, I, J, mm_rf rv sp rr w nw))) rfl h1068 ?_
  refine mm_T.br (c := (I 96 x1.toNatClampNeg) = 0) (a := ((18, [some (.ref 62), some (.int x1), some (.int ((I 97 x1.toNatClampNeg) - 1))], []), (107, I, J, mm_rf rv sp rr w nw))) (b := ((27, [some (.ref 62), some (.int x1), some (.int ((I 97 x1.toNatClampNeg) - 1))], []), (107, I, J, mm_rf rv sp rr w nw))) rfl (fun h1069 => ?_) (fun h1069 => ?_)
  · rw [if_pos h1069] at e
    refine mm_T.seg (f' := (23, [some (.ref 62), some (.int x1), some (.int ((I 97 x1.toNatClampNeg) - 1))], [(.int ((I 97 x1.toNatClampNeg) - 1)), (.ref 102)])) (h' := (107, I, J, mm_rf rv sp rr w nw)) 3 rfl ?_
    by_cases h1070 : ((I 97 x1.toNatClampNeg) - 1) < 0 ∨ 6 ≤ ((I 97 x1.toNatClampNeg) - 1).toNatClampNeg
    · rw [if_pos h1070] at e; cases e
    rw [if_neg h1070] at e
    refine mm_T.guard (y := ((24, [some (.ref 62), some (.int x1), some (.int ((I 97 x1.toNatClampNeg) - 1))], [(.int (I 102 ((I 97 x1.toNatClampNeg) - 1).toNatClampNeg))]), (107, I, J, mm_rf rv sp rr w nw))) rfl h1070 ?_
    refine mm_T.seg (f' := (38, [some (.ref 62), some (.int x1), some (.int ((I 97 x1.toNatClampNeg) - 1))], [(.int x1), (.ref 98), (.int (I 102 ((I 97 x1.toNatClampNeg) - 1).toNatClampNeg))])) (h' := (107, I, J, mm_rf rv sp rr w nw)) 4 rfl ?_
    by_cases h1071 : x1 < 0 ∨ 30 ≤ x1.toNatClampNeg
    · rw [if_pos h1071] at e; cases e
    rw [if_neg h1071] at e
    refine mm_T.guard (y := ((39, [some (.ref 62), some (.int x1), some (.int ((I 97 x1.toNatClampNeg) - 1))], [(.int (I 98 x1.toNatClampNeg)), (.int (I 102 ((I 97 x1.toNatClampNeg) - 1).toNatClampNeg))]), (107, I, J, mm_rf rv sp rr w nw))) rfl h1071 ?_
    refine mm_T.br (c := (I 102 ((I 97 x1.toNatClampNeg) - 1).toNatClampNeg) < (I 98 x1.toNatClampNeg)) (a := ((46, [some (.ref 62), some (.int x1), some (.int ((I 97 x1.toNatClampNeg) - 1))], []), (107, I, J, mm_rf rv sp rr w nw))) (b := ((42, [some (.ref 62), some (.int x1), some (.int ((I 97 x1.toNatClampNeg) - 1))], []), (107, I, J, mm_rf rv sp rr w nw))) rfl (fun h1072 => ?_) (fun h1072 => ?_)
    · rw [if_pos h1072] at e
      refine mm_T.seg (f' := (47, [some (.ref 62), some (.int x1), some (.int ((I 97 x1.toNatClampNeg) - 1))], [(.int 0)])) (h' := (107, I, J, mm_rf rv sp rr w nw)) 1 rfl ?_
      cases e
      exact mm_T.ret rfl ⟨rfl, rfl⟩
    · rw [if_neg h1072] at e
      refine mm_T.seg (f' := (47, [some (.ref 62), some (.int x1), some (.int ((I 97 x1.toNatClampNeg) - 1))], [(.int 1)])) (h' := (107, I, J, mm_rf rv sp rr w nw)) 2 rfl ?_
      cases e
      exact mm_T.ret rfl ⟨rfl, rfl⟩
  · rw [if_neg h1069] at e
    refine mm_T.seg (f' := (32, [some (.ref 62), some (.int x1), some (.int ((I 97 x1.toNatClampNeg) - 1))], [(.int ((I 97 x1.toNatClampNeg) - 1)), (.ref 103)])) (h' := (107, I, J, mm_rf rv sp rr w nw)) 3 rfl ?_
    by_cases h1073 : ((I 97 x1.toNatClampNeg) - 1) < 0 ∨ 6 ≤ ((I 97 x1.toNatClampNeg) - 1).toNatClampNeg
    · rw [if_pos h1073] at e; cases e
    rw [if_neg h1073] at e
    refine mm_T.guard (y := ((33, [some (.ref 62), some (.int x1), some (.int ((I 97 x1.toNatClampNeg) - 1))], [(.int (I 103 ((I 97 x1.toNatClampNeg) - 1).toNatClampNeg))]), (107, I, J, mm_rf rv sp rr w nw))) rfl h1073 ?_
    refine mm_T.seg (f' := (38, [some (.ref 62), some (.int x1), some (.int ((I 97 x1.toNatClampNeg) - 1))], [(.int x1), (.ref 98), (.int (I 103 ((I 97 x1.toNatClampNeg) - 1).toNatClampNeg))])) (h' := (107, I, J, mm_rf rv sp rr w nw)) 3 rfl ?_
    by_cases h1074 : x1 < 0 ∨ 30 ≤ x1.toNatClampNeg
    · rw [if_pos h1074] at e; cases e
    rw [if_neg h1074] at e
    refine mm_T.guard (y := ((39, [some (.ref 62), some (.int x1), some (.int ((I 97 x1.toNatClampNeg) - 1))], [(.int (I 98 x1.toNatClampNeg)), (.int (I 103 ((I 97 x1.toNatClampNeg) - 1).toNatClampNeg))]), (107, I, J, mm_rf rv sp rr w nw))) rfl h1074 ?_
    refine mm_T.br (c := (I 103 ((I 97 x1.toNatClampNeg) - 1).toNatClampNeg) < (I 98 x1.toNatClampNeg)) (a := ((46, [some (.ref 62), some (.int x1), some (.int ((I 97 x1.toNatClampNeg) - 1))], []), (107, I, J, mm_rf rv sp rr w nw))) (b := ((42, [some (.ref 62), some (.int x1), some (.int ((I 97 x1.toNatClampNeg) - 1))], []), (107, I, J, mm_rf rv sp rr w nw))) rfl (fun h1075 => ?_) (fun h1075 => ?_)
    · rw [if_pos h1075] at e
      refine mm_T.seg (f' := (47, [some (.ref 62), some (.int x1), some (.int ((I 97 x1.toNatClampNeg) - 1))], [(.int 0)])) (h' := (107, I, J, mm_rf rv sp rr w nw)) 1 rfl ?_
      cases e
      exact mm_T.ret rfl ⟨rfl, rfl⟩
    · rw [if_neg h1075] at e
      refine mm_T.seg (f' := (47, [some (.ref 62), some (.int x1), some (.int ((I 97 x1.toNatClampNeg) - 1))], [(.int 1)])) (h' := (107, I, J, mm_rf rv sp rr w nw)) 2 rfl ?_
      cases e
      exact mm_T.ret rfl ⟨rfl, rfl⟩
