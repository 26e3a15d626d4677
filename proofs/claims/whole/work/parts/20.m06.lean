def fX12_stowing_L62 (n : Nat) (y1 : Int32) (y2 : Int32) (y3 : Int32) (y5 : Int32) (I : Nat → Nat → Int32) : Option ((Nat → Nat → Int32)) := match n with
  | 0 => none
  | n + 1 => (if y5 < (I 62 49) then (if ((y1 >>> (y5 &&& 31)) &&& 1) = 1 then (if (20 + y5) < 0 ∨ 28 ≤ (20 + y5).toNatClampNeg then none else (if y5 < 0 ∨ 7 ≤ y5.toNatClampNeg then none else fX12_stowing_L62 n y1 y2 y3 (y5 + 1) (mm_up I 88 y5.toNatClampNeg (I 85 (20 + y5).toNatClampNeg)))) else (if y5 < 0 ∨ 7 ≤ y5.toNatClampNeg then none else fX12_stowing_L62 n y1 y2 y3 (y5 + 1) (mm_up I 88 y5.toNatClampNeg (-1)))) else some I)
def fX12_stowing_L16 (n : Nat) (y1 : Int32) (y2 : Int32) (y3 : Int32) (I : Nat → Nat → Int32) : Option (Int32 × (Nat → Nat → Int32)) := match n with
  | 0 => none
  | n + 1 => (fX12_power n 4 (I 62 49)).bind fun o826 => (if y3 < o826 then (fX12_stowBy n y1 y3 I).bind fun o828 => (if o828.1 < 0 then fX12_stowing_L16 n y1 y2 (y3 + 1) o828.2 else (fX12_members n o828.1).bind fun o830 => (if o830 < y2 then (fX12_members n o828.1).bind fun o832 => (fX12_stowing_L62 n y1 o832 y3 0 o828.2).bind fun o838 => fX12_stowing_L16 n y1 o832 (y3 + 1) (mm_up o838 62 61 (o838 62 49)) else fX12_stowing_L16 n y1 y2 (y3 + 1) o828.2)) else some (y2, I))
def fX12_stowing (n : Nat) (I : Nat → Nat → Int32) : Option (Int32 × (Nat → Nat → Int32)) := (fX12_nearLoads n (mm_up I 62 61 0)).bind fun o825 => (fX12_stowing_L16 n o825.1 1000000 0 o825.2).bind fun o839 => (if o839.1 = 1000000 then some ((-1), o839.2) else some (o839.1, o839.2))
set_option maxRecDepth 100000 in
set_option maxHeartbeats 4000000 in
theorem tlX12_stowing_L62 (d : Nat) (Q : Option Value → mm_H → Prop) : ∀ (n : Nat) (y1 : Int32) (y2 : Int32) (y3 : Int32) (y5 : Int32) (I : Nat → Nat → Int32) (J : Nat → Nat → Int64) (rv sp rr w nw : Nat), ∀ (out : (Nat → Nat → Int32)), fX12_stowing_L62 n y1 y2 y3 y5 I = some out → mm_T none (d + 3) 297 (108, [some (.ref 62), some (.int y1), some (.int y2), some (.int y3), none, none], []) (107, out, J, mm_rf rv sp rr w nw) Q → mm_T none (d + 3) 297 (62, [some (.ref 62), some (.int y1), some (.int y2), some (.int y3), none, some (.int y5)], []) (107, I, J, mm_rf rv sp rr w nw) Q := by
  intro n
  induction n with
  | zero =>
    intro y1 y2 y3 y5 I J rv sp rr w nw out e k
    rw [fX12_stowing_L62] at e; cases e
  | succ n ih =>
    intro y1 y2 y3 y5 I J rv sp rr w nw out e k
    rw [fX12_stowing_L62] at e
    refine mm_T.seg (f' := (68, [some (.ref 62), some (.int y1), some (.int y2), some (.int y3), none, some (.int y5)], [(.int (I 62 49)), (.int y5)])) (h' := (107, I, J, mm_rf rv sp rr w nw)) 3 rfl ?_
    refine mm_T.br (c := y5 < (I 62 49)) (a := ((71, [some (.ref 62), some (.int y1), some (.int y2), some (.int y3), none, some (.int y5)], []), (107, I, J, mm_rf rv sp rr w nw))) (b := ((108, [some (.ref 62), some (.int y1), some (.int y2), some (.int y3), none, some (.int y5)], []), (107, I, J, mm_rf rv sp rr w nw))) rfl (fun h833 => ?_) (fun h833 => ?_)
    · rw [if_pos h833] at e
      refine mm_T.seg (f' := (84, [some (.ref 62), some (.int y1), some (.int y2), some (.int y3), none, some (.int y5)], [(.int 1), (.int ((y1 >>> (y5 &&& 31)) &&& 1)), (.int y5), (.ref 88)])) (h' := (107, I, J, mm_rf rv sp rr w nw)) 9 rfl ?_
      refine mm_T.br (c := ((y1 >>> (y5 &&& 31)) &&& 1) = 1) (a := ((87, [some (.ref 62), some (.int y1), some (.int y2), some (.int y3), none, some (.int y5)], [(.int y5), (.ref 88)]), (107, I, J, mm_rf rv sp rr w nw))) (b := ((100, [some (.ref 62), some (.int y1), some (.int y2), some (.int y3), none, some (.int y5)], [(.int y5), (.ref 88)]), (107, I, J, mm_rf rv sp rr w nw))) rfl (fun h834 => ?_) (fun h834 => ?_)
      · rw [if_pos h834] at e
        refine mm_T.seg (f' := (96, [some (.ref 62), some (.int y1), some (.int y2), some (.int y3), none, some (.int y5)], [(.int (20 + y5)), (.ref 85), (.int y5), (.ref 88)])) (h' := (107, I, J, mm_rf rv sp rr w nw)) 5 rfl ?_
        by_cases h835 : (20 + y5) < 0 ∨ 28 ≤ (20 + y5).toNatClampNeg
        · rw [if_pos h835] at e; cases e
        rw [if_neg h835] at e
        refine mm_T.guard (y := ((97, [some (.ref 62), some (.int y1), some (.int y2), some (.int y3), none, some (.int y5)], [(.int (I 85 (20 + y5).toNatClampNeg)), (.int y5), (.ref 88)]), (107, I, J, mm_rf rv sp rr w nw))) rfl h835 ?_
        refine mm_T.seg (f' := (101, [some (.ref 62), some (.int y1), some (.int y2), some (.int y3), none, some (.int y5)], [(.int (I 85 (20 + y5).toNatClampNeg)), (.int y5), (.ref 88)])) (h' := (107, I, J, mm_rf rv sp rr w nw)) 1 rfl ?_
        by_cases h836 : y5 < 0 ∨ 7 ≤ y5.toNatClampNeg
        · rw [if_pos h836] at e; cases e
        rw [if_neg h836] at e
        refine mm_T.guard (y := ((102, [some (.ref 62), some (.int y1), some (.int y2), some (.int y3), none, some (.int y5)], []), (107, (mm_up I 88 y5.toNatClampNeg (I 85 (20 + y5).toNatClampNeg)), J, mm_rf rv sp rr w nw))) rfl h836 ?_
        refine mm_T.seg (f' := (62, [some (.ref 62), some (.int y1), some (.int y2), some (.int y3), none, some (.int (y5 + 1))], [])) (h' := (107, (mm_up I 88 y5.toNatClampNeg (I 85 (20 + y5).toNatClampNeg)), J, mm_rf rv sp rr w nw)) 2 rfl ?_
        refine mm_T.mask [true, true, true, true, false, true] ?_
        exact ih y1 y2 y3 (y5 + 1) (mm_up I 88 y5.toNatClampNeg (I 85 (20 + y5).toNatClampNeg)) J rv sp rr w nw out e k
      · rw [if_neg h834] at e
        refine mm_T.seg (f' := (101, [some (.ref 62), some (.int y1), some (.int y2), some (.int y3), none, some (.int y5)], [(.int (-1)), (.int y5), (.ref 88)])) (h' := (107, I, J, mm_rf rv sp rr w nw)) 1 rfl ?_
        by_cases h837 : y5 < 0 ∨ 7 ≤ y5.toNatClampNeg
        · rw [if_pos h837] at e; cases e
        rw [if_neg h837] at e
        refine mm_T.guard (y := ((102, [some (.ref 62), some (.int y1), some (.int y2), some (.int y3), none, some (.int y5)], []), (107, (mm_up I 88 y5.toNatClampNeg (-1)), J, mm_rf rv sp rr w nw))) rfl h837 ?_
        refine mm_T.seg (f' := (62, [some (.ref 62), some (.int y1), some (.int y2), some (.int y3), none, some (.int (y5 + 1))], [])) (h' := (107, (mm_up I 88 y5.toNatClampNeg (-1)), J, mm_rf rv sp rr w nw)) 2 rfl ?_
        refine mm_T.mask [true, true, true, true, false, true] ?_
        exact ih y1 y2 y3 (y5 + 1) (mm_up I 88 y5.toNatClampNeg (-1)) J rv sp rr w nw out e k
    · rw [if_neg h833] at e
      cases e
      refine mm_T.mask [true, true, true, true, false, false] ?_
      exact k
set_option maxRecDepth 100000 in
set_option maxHeartbeats 4000000 in
theorem tlX12_stowing_L16 (d : Nat) (Q : Option Value → mm_H → Prop) : ∀ (n : Nat) (y1 : Int32) (y2 : Int32) (y3 : Int32) (I : Nat → Nat → Int32) (J : Nat → Nat → Int64) (rv sp rr w nw : Nat), ∀ (out : Int32 × (Nat → Nat → Int32)), fX12_stowing_L16 n y1 y2 y3 I = some out → mm_T none (d + 3) 297 (122, [none, none, some (.int out.1), none, none, none], []) (107, out.2, J, mm_rf rv sp rr w nw) Q → mm_T none (d + 3) 297 (16, [some (.ref 62), some (.int y1), some (.int y2), some (.int y3), none, none], []) (107, I, J, mm_rf rv sp rr w nw) Q := by
  intro n
  induction n with
  | zero =>
    intro y1 y2 y3 I J rv sp rr w nw out e k
    rw [fX12_stowing_L16] at e; cases e
  | succ n ih =>
    intro y1 y2 y3 I J rv sp rr w nw out e k
    rw [fX12_stowing_L16] at e
    refine mm_T.seg (f' := (22, [some (.ref 62), some (.int y1), some (.int y2), some (.int y3), none, none], [(.int (I 62 49)), (.int 4), (.int y3)])) (h' := (107, I, J, mm_rf rv sp rr w nw)) 4 rfl ?_
    obtain ⟨o826, eo826, e⟩ := mm_bind e
    refine mm_T.call (t := 277) (as := [(.int 4), (.int (I 62 49))]) (f' := (25, [some (.ref 62), some (.int y1), some (.int y2), some (.int y3), none, none], [(.int y3)])) rfl (tX12_power (d + 2) n 4 (I 62 49) I J rv sp rr w nw o826 eo826) (fun v h hq => ?_)
    obtain ⟨rfl, rfl⟩ := hq
    refine mm_T.br (c := y3 < o826) (a := ((28, [some (.ref 62), some (.int y1), some (.int y2), some (.int y3), none, none], []), (107, I, J, mm_rf rv sp rr w nw))) (b := ((122, [some (.ref 62), some (.int y1), some (.int y2), some (.int y3), none, none], []), (107, I, J, mm_rf rv sp rr w nw))) rfl (fun h827 => ?_) (fun h827 => ?_)
    · rw [if_pos h827] at e
      refine mm_T.seg (f' := (31, [some (.ref 62), some (.int y1), some (.int y2), some (.int y3), none, none], [(.int y3), (.int y1), (.ref 62)])) (h' := (107, I, J, mm_rf rv sp rr w nw)) 3 rfl ?_
      obtain ⟨o828, eo828, e⟩ := mm_bind e
      refine mm_T.call (t := 296) (as := [(.ref 62), (.int y1), (.int y3)]) (f' := (34, [some (.ref 62), some (.int y1), some (.int y2), some (.int y3), none, none], [])) rfl (tX12_stowBy (d + 1) n y1 y3 I J rv sp rr w nw o828 eo828) (fun v h hq => ?_)
      obtain ⟨rfl, rfl⟩ := hq
      refine mm_T.seg (f' := (38, [some (.ref 62), some (.int y1), some (.int y2), some (.int y3), some (.int o828.1), none], [(.int o828.1)])) (h' := (107, o828.2, J, mm_rf rv sp rr w nw)) 2 rfl ?_
      refine mm_T.br (c := o828.1 < 0) (a := ((116, [some (.ref 62), some (.int y1), some (.int y2), some (.int y3), some (.int o828.1), none], []), (107, o828.2, J, mm_rf rv sp rr w nw))) (b := ((41, [some (.ref 62), some (.int y1), some (.int y2), some (.int y3), some (.int o828.1), none], []), (107, o828.2, J, mm_rf rv sp rr w nw))) rfl (fun h829 => ?_) (fun h829 => ?_)
      · rw [if_pos h829] at e
        refine mm_T.seg (f' := (16, [some (.ref 62), some (.int y1), some (.int y2), some (.int (y3 + 1)), some (.int o828.1), none], [])) (h' := (107, o828.2, J, mm_rf rv sp rr w nw)) 2 rfl ?_
        refine mm_T.mask [true, true, true, true, false, false] ?_
        exact ih y1 y2 (y3 + 1) o828.2 J rv sp rr w nw out e k
      · rw [if_neg h829] at e
        refine mm_T.seg (f' := (43, [some (.ref 62), some (.int y1), some (.int y2), some (.int y3), some (.int o828.1), none], [(.int o828.1)])) (h' := (107, o828.2, J, mm_rf rv sp rr w nw)) 1 rfl ?_
        obtain ⟨o830, eo830, e⟩ := mm_bind e
        refine mm_T.call (t := 255) (as := [(.int o828.1)]) (f' := (46, [some (.ref 62), some (.int y1), some (.int y2), some (.int y3), some (.int o828.1), none], [])) rfl (tX12_members (d + 2) n o828.1 o828.2 J rv sp rr w nw o830 eo830) (fun v h hq => ?_)
        obtain ⟨rfl, rfl⟩ := hq
        refine mm_T.seg (f' := (47, [some (.ref 62), some (.int y1), some (.int y2), some (.int y3), some (.int o828.1), none], [(.int y2), (.int o830)])) (h' := (107, o828.2, J, mm_rf rv sp rr w nw)) 1 rfl ?_
        refine mm_T.br (c := o830 < y2) (a := ((53, [some (.ref 62), some (.int y1), some (.int y2), some (.int y3), some (.int o828.1), none], []), (107, o828.2, J, mm_rf rv sp rr w nw))) (b := ((50, [some (.ref 62), some (.int y1), some (.int y2), some (.int y3), some (.int o828.1), none], []), (107, o828.2, J, mm_rf rv sp rr w nw))) rfl (fun h831 => ?_) (fun h831 => ?_)
        · rw [if_pos h831] at e
          refine mm_T.seg (f' := (55, [some (.ref 62), some (.int y1), some (.int y2), some (.int y3), some (.int o828.1), none], [(.int o828.1)])) (h' := (107, o828.2, J, mm_rf rv sp rr w nw)) 1 rfl ?_
          obtain ⟨o832, eo832, e⟩ := mm_bind e
          refine mm_T.call (t := 255) (as := [(.int o828.1)]) (f' := (58, [some (.ref 62), some (.int y1), some (.int y2), some (.int y3), some (.int o828.1), none], [])) rfl (tX12_members (d + 2) n o828.1 o828.2 J rv sp rr w nw o832 eo832) (fun v h hq => ?_)
          obtain ⟨rfl, rfl⟩ := hq
          refine mm_T.seg (f' := (62, [some (.ref 62), some (.int y1), some (.int o832), some (.int y3), some (.int o828.1), some (.int 0)], [])) (h' := (107, o828.2, J, mm_rf rv sp rr w nw)) 3 rfl ?_
          refine mm_T.mask [true, true, true, true, false, true] ?_
          obtain ⟨o838, eo838, e⟩ := mm_bind e
          refine tlX12_stowing_L62 d _ n y1 o832 y3 0 o828.2 J rv sp rr w nw o838 eo838 ?_
          refine mm_T.seg (f' := (16, [some (.ref 62), some (.int y1), some (.int o832), some (.int (y3 + 1)), none, none], [])) (h' := (107, (mm_up o838 62 61 (o838 62 49)), J, mm_rf rv sp rr w nw)) 6 rfl ?_
          refine mm_T.mask [true, true, true, true, false, false] ?_
          exact ih y1 o832 (y3 + 1) (mm_up o838 62 61 (o838 62 49)) J rv sp rr w nw out e k
        · rw [if_neg h831] at e
          refine mm_T.seg (f' := (16, [some (.ref 62), some (.int y1), some (.int y2), some (.int (y3 + 1)), some (.int o828.1), none], [])) (h' := (107, o828.2, J, mm_rf rv sp rr w nw)) 3 rfl ?_
          refine mm_T.mask [true, true, true, true, false, false] ?_
          exact ih y1 y2 (y3 + 1) o828.2 J rv sp rr w nw out e k
    · rw [if_neg h827] at e
      cases e
      refine mm_T.mask [false, false, true, false, false, false] ?_
      exact k
set_option maxRecDepth 100000 in
set_option maxHeartbeats 4000000 in
theorem tX12_stowing (d n : Nat) (I : Nat → Nat → Int32) (J : Nat → Nat → Int64) (rv sp rr w nw : Nat) (out : Int32 × (Nat → Nat → Int32)) (e : fX12_stowing n I = some out) : mm_T none (d + 3) 297 (mm_ent 297 [(.ref 62)]) (107, I, J, mm_rf rv sp rr w nw) (fun v h => v = some (.int out.1) ∧ h = (107, out.2, J, mm_rf rv sp rr w nw)) := by
  unfold fX12_stowing at e
  refine mm_T.seg (f' := (6, [some (.ref 62), none, none, none, none, none], [(.ref 62)])) (h' := (107, (mm_up I 62 61 0), J, mm_rf rv sp rr w nw)) 4 rfl ?_
  obtain ⟨o825, eo825, e⟩ := mm_bind e
  refine mm_T.call (t := 291) (as := [(.ref 62)]) (f' := (9, [some (.ref 62), none, none, none, none, none], [])) rfl (tX12_nearLoads (d + 0) n (mm_up I 62 61 0) J rv sp rr w nw o825 eo825) (fun v h hq => ?_)
  obtain ⟨rfl, rfl⟩ := hq
  refine mm_T.seg (f' := (16, [some (.ref 62), some (.int o825.1), some (.int 1000000), some (.int 0), none, none], [])) (h' := (107, o825.2, J, mm_rf rv sp rr w nw)) 5 rfl ?_
  refine mm_T.mask [true, true, true, true, false, false] ?_
  obtain ⟨o839, eo839, e⟩ := mm_bind e
  refine tlX12_stowing_L16 d _ n o825.1 1000000 0 o825.2 J rv sp rr w nw o839 eo839 ?_
  refine mm_T.seg (f' := (126, [none, none, some (.int o839.1), none, none, none], [(.int 1000000), (.int o839.1)])) (h' := (107, o839.2, J, mm_rf rv sp rr w nw)) 2 rfl ?_
  refine mm_T.br (c := o839.1 = 1000000) (a := ((129, [none, none, some (.int o839.1), none, none, none], []), (107, o839.2, J, mm_rf rv sp rr w nw))) (b := ((133, [none, none, some (.int o839.1), none, none, none], []), (107, o839.2, J, mm_rf rv sp rr w nw))) rfl (fun h840 => ?_) (fun h840 => ?_)
  · rw [if_pos h840] at e
    refine mm_T.seg (f' := (134, [none, none, some (.int o839.1), none, none, none], [(.int (-1))])) (h' := (107, o839.2, J, mm_rf rv sp rr w nw)) 2 rfl ?_
    cases e
    exact mm_T.ret rfl ⟨rfl, rfl⟩
  · rw [if_neg h840] at e
    refine mm_T.seg (f' := (134, [none, none, some (.int o839.1), none, none, none], [(.int o839.1)])) (h' := (107, o839.2, J, mm_rf rv sp rr w nw)) 1 rfl ?_
    cases e
    exact mm_T.ret rfl ⟨rfl, rfl⟩
def fX12_areBeside_L4 (n : Nat) (y1 : Int32) (y2 : Int32) (I : Nat → Nat → Int32) : Option (Int32) := match n with
  | 0 => none
  | n + 1 => (if y2 < 64 then (if y1 = 0 then (if y2 < 0 ∨ 64 ≤ y2.toNatClampNeg then none else (if (I 92 y2.toNatClampNeg) = 0 then fX12_areBeside_L4 n 0 (y2 + 1) I else (if (fX12_plain ((y2 / 8) - (y2 - y2 / 8 * 8))) = 1 then fX12_areBeside_L4 n 1 (y2 + 1) I else fX12_areBeside_L4 n 0 (y2 + 1) I))) else fX12_areBeside_L4 n 1 (y2 + 1) I) else some y1)
def fX12_areBeside (n : Nat) (I : Nat → Nat → Int32) : Option (Int32) := (fX12_areBeside_L4 n 0 0 I).bind fun o846 => (if o846 = 0 ∨ o846 = 1 then some o846 else none)
set_option maxRecDepth 100000 in
set_option maxHeartbeats 4000000 in
theorem tlX12_areBeside_L4 (d : Nat) (Q : Option Value → mm_H → Prop) : ∀ (n : Nat) (y1 : Int32) (y2 : Int32) (I : Nat → Nat → Int32) (J : Nat → Nat → Int64) (rv sp rr w nw : Nat), ∀ (out : Int32), fX12_areBeside_L4 n y1 y2 I = some out → mm_T none (d + 1) 298 (51, [none, some (.int out), none], []) (107, I, J, mm_rf rv sp rr w nw) Q → mm_T none (d + 1) 298 (4, [some (.ref 62), some (.int y1), some (.int y2)], []) (107, I, J, mm_rf rv sp rr w nw) Q := by
  intro n
  induction n with
  | zero =>
    intro y1 y2 I J rv sp rr w nw out e k
    rw [fX12_areBeside_L4] at e; cases e
  | succ n ih =>
    intro y1 y2 I J rv sp rr w nw out e k
    rw [fX12_areBeside_L4] at e
    refine mm_T.seg (f' := (7, [some (.ref 62), some (.int y1), some (.int y2)], [(.int 64), (.int y2)])) (h' := (107, I, J, mm_rf rv sp rr w nw)) 2 rfl ?_
    refine mm_T.br (c := y2 < 64) (a := ((10, [some (.ref 62), some (.int y1), some (.int y2)], []), (107, I, J, mm_rf rv sp rr w nw))) (b := ((51, [some (.ref 62), some (.int y1), some (.int y2)], []), (107, I, J, mm_rf rv sp rr w nw))) rfl (fun h841 => ?_) (fun h841 => ?_)
    · rw [if_pos h841] at e
      refine mm_T.seg (f' := (11, [some (.ref 62), some (.int y1), some (.int y2)], [(.int y1)])) (h' := (107, I, J, mm_rf rv sp rr w nw)) 1 rfl ?_
      refine mm_T.br (c := y1 = 0) (a := ((14, [some (.ref 62), some (.int y1), some (.int y2)], []), (107, I, J, mm_rf rv sp rr w nw))) (b := ((39, [some (.ref 62), some (.int y1), some (.int y2)], []), (107, I, J, mm_rf rv sp rr w nw))) rfl (fun h842 => ?_) (fun h842 => ?_)
      · rw [if_pos h842] at e
        refine mm_T.seg (f' := (19, [some (.ref 62), some (.int y1), some (.int y2)], [(.int y2), (.ref 92)])) (h' := (107, I, J, mm_rf rv sp rr w nw)) 3 rfl ?_
        by_cases h843 : y2 < 0 ∨ 64 ≤ y2.toNatClampNeg
        · rw [if_pos h843] at e; cases e
        rw [if_neg h843] at e
        refine mm_T.guard (y := ((20, [some (.ref 62), some (.int y1), some (.int y2)], [(.int (I 92 y2.toNatClampNeg))]), (107, I, J, mm_rf rv sp rr w nw))) rfl h843 ?_
        refine mm_T.br (c := (I 92 y2.toNatClampNeg) = 0) (a := ((43, [some (.ref 62), some (.int y1), some (.int y2)], []), (107, I, J, mm_rf rv sp rr w nw))) (b := ((23, [some (.ref 62), some (.int y1), some (.int y2)], []), (107, I, J, mm_rf rv sp rr w nw))) rfl (fun h844 => ?_) (fun h844 => ?_)
        · rw [if_pos h844] at e
          refine mm_T.seg (f' := (4, [some (.ref 62), some (.int 0), some (.int (y2 + 1))], [])) (h' := (107, I, J, mm_rf rv sp rr w nw)) 4 rfl ?_
          refine mm_T.mask [true, true, true] ?_
          exact ih 0 (y2 + 1) I J rv sp rr w nw out e k
        · rw [if_neg h844] at e
          refine mm_T.seg (f' := (32, [some (.ref 62), some (.int y1), some (.int y2)], [(.int ((y2 / 8) - (y2 - y2 / 8 * 8)))])) (h' := (107, I, J, mm_rf rv sp rr w nw)) 7 rfl ?_
          refine mm_T.call (t := 239) (as := [(.int ((y2 / 8) - (y2 - y2 / 8 * 8)))]) (f' := (35, [some (.ref 62), some (.int y1), some (.int y2)], [])) rfl (tX12_plain (d + 0) ((y2 / 8) - (y2 - y2 / 8 * 8)) I J rv sp rr w nw _ rfl) (fun v h hq => ?_)
          obtain ⟨rfl, rfl⟩ := hq
          refine mm_T.seg (f' := (36, [some (.ref 62), some (.int y1), some (.int y2)], [(.int 1), (.int (fX12_plain ((y2 / 8) - (y2 - y2 / 8 * 8))))])) (h' := (107, I, J, mm_rf rv sp rr w nw)) 1 rfl ?_
          refine mm_T.br (c := (fX12_plain ((y2 / 8) - (y2 - y2 / 8 * 8))) = 1) (a := ((39, [some (.ref 62), some (.int y1), some (.int y2)], []), (107, I, J, mm_rf rv sp rr w nw))) (b := ((43, [some (.ref 62), some (.int y1), some (.int y2)], []), (107, I, J, mm_rf rv sp rr w nw))) rfl (fun h845 => ?_) (fun h845 => ?_)
          · rw [if_pos h845] at e
            refine mm_T.seg (f' := (4, [some (.ref 62), some (.int 1), some (.int (y2 + 1))], [])) (h' := (107, I, J, mm_rf rv sp rr w nw)) 5 rfl ?_
            refine mm_T.mask [true, true, true] ?_
            exact ih 1 (y2 + 1) I J rv sp rr w nw out e k
          · rw [if_neg h845] at e
            refine mm_T.seg (f' := (4, [some (.ref 62), some (.int 0), some (.int (y2 + 1))], [])) (h' := (107, I, J, mm_rf rv sp rr w nw)) 4 rfl ?_
            refine mm_T.mask [true, true, true] ?_
            exact ih 0 (y2 + 1) I J rv sp rr w nw out e k
      · rw [if_neg h842] at e
        refine mm_T.seg (f' := (4, [some (.ref 62), some (.int 1), some (.int (y2 + 1))], [])) (h' := (107, I, J, mm_rf rv sp rr w nw)) 5 rfl ?_
        refine mm_T.mask [true, true, true] ?_
        exact ih 1 (y2 + 1) I J rv sp rr w nw out e k
    · rw [if_neg h841] at e
      cases e
      refine mm_T.mask [false, true, false] ?_
      exact k
set_option maxRecDepth 100000 in
set_option maxHeartbeats 4000000 in
theorem tX12_areBeside (d n : Nat) (I : Nat → Nat → Int32) (J : Nat → Nat → Int64) (rv sp rr w nw : Nat) (out : Int32) (e : fX12_areBeside n I = some out) : mm_T none (d + 1) 298 (mm_ent 298 [(.ref 62)]) (107, I, J, mm_rf rv sp rr w nw) (fun v h => v = some (.int out) ∧ h = (107, I, J, mm_rf rv sp rr w nw)) := by
  unfold fX12_areBeside at e
  refine mm_T.seg (f' := (4, [some (.ref 62), some (.int 0), some (.int 0)], [])) (h' := (107, I, J, mm_rf rv sp rr w nw)) 4 rfl ?_
  refine mm_T.mask [true, true, true] ?_
  obtain ⟨o846, eo846, e⟩ := mm_bind e
  refine tlX12_areBeside_L4 d _ n 0 0 I J rv sp rr w nw o846 eo846 ?_
  refine mm_T.seg (f' := (52, [none, some (.int o846), none], [(.int o846)])) (h' := (107, I, J, mm_rf rv sp rr w nw)) 1 rfl ?_
  by_cases h847 : o846 = 0 ∨ o846 = 1
  case neg => rw [if_neg h847] at e; cases e
  rw [if_pos h847] at e
  cases e
  exact mm_T.retZ (v := some (.int o846)) rfl h847 ⟨rfl, rfl⟩
def fX12_goBoth_L2 (n : Nat) (y1 : Int32) (y2 : Int32) (I : Nat → Nat → Int32) : Option ((Nat → Nat → Int32)) := match n with
  | 0 => none
  | n + 1 => (if y2 < 64 then (if y2 < 0 ∨ 64 ≤ y2.toNatClampNeg then none else fX12_goBoth_L2 n y1 (y2 + 1) (mm_up I 93 y2.toNatClampNeg (vp_nar .boolean 0))) else some I)
def fX12_goBoth_L31 (n : Nat) (y1 : Int32) (y2 : Int32) (y3 : Int32) (I : Nat → Nat → Int32) : Option ((Nat → Nat → Int32)) := match n with
  | 0 => none
  | n + 1 => (if y3 < 9 then (if y2 < 0 ∨ 64 ≤ y2.toNatClampNeg then none else (if (I 92 y2.toNatClampNeg) = 0 then some I else (fX12_columnBy (y2 / 8) y1 ((y3 / 3) - 1) 1 I).bind fun o855 => (fX12_columnBy (y2 - y2 / 8 * 8) y1 ((y3 - y3 / 3 * 3) - 1) 1 I).bind fun o856 => (fX12_isIron o855 (y1 + 1) I).bind fun o857 => (if o857 = 0 then (fX12_isIron o856 (y1 + 1) I).bind fun o859 => (if o859 = 0 then (if ((8 * o855) + o856) < 0 ∨ 64 ≤ ((8 * o855) + o856).toNatClampNeg then none else fX12_goBoth_L31 n y1 y2 (y3 + 1) (mm_up I 93 ((8 * o855) + o856).toNatClampNeg (vp_nar .boolean 1))) else fX12_goBoth_L31 n y1 y2 (y3 + 1) I) else fX12_goBoth_L31 n y1 y2 (y3 + 1) I))) else some I)
def fX12_goBoth_L23 (n : Nat) (y1 : Int32) (y2 : Int32) (I : Nat → Nat → Int32) : Option ((Nat → Nat → Int32)) := match n with
  | 0 => none
  | n + 1 => (if y2 < 64 then (fX12_goBoth_L31 n y1 y2 0 I).bind fun o862 => fX12_goBoth_L23 n y1 (y2 + 1) o862 else some I)
def fX12_goBoth_L132 (n : Nat) (y2 : Int32) (I : Nat → Nat → Int32) : Option ((Nat → Nat → Int32)) := match n with
  | 0 => none
  | n + 1 => (if y2 < 64 then (if y2 < 0 ∨ 64 ≤ y2.toNatClampNeg then none else (if y2 < 0 ∨ 64 ≤ y2.toNatClampNeg then none else fX12_goBoth_L132 n (y2 + 1) (mm_up I 92 y2.toNatClampNeg (vp_nar .boolean (I 93 y2.toNatClampNeg))))) else some I)
def fX12_goBoth (n : Nat) (x1 : Int32) (I : Nat → Nat → Int32) : Option ((Nat → Nat → Int32)) := (fX12_goBoth_L2 n x1 0 I).bind fun o850 => (fX12_goBoth_L23 n x1 0 o850).bind fun o863 => (fX12_goBoth_L132 n 0 o863).bind fun o867 => some o867
set_option maxRecDepth 100000 in
set_option maxHeartbeats 4000000 in
theorem tlX12_goBoth_L2 (d : Nat) (Q : Option Value → mm_H → Prop) : ∀ (n : Nat) (y1 : Int32) (y2 : Int32) (I : Nat → Nat → Int32) (J : Nat → Nat → Int64) (rv sp rr w nw : Nat), ∀ (out : (Nat → Nat → Int32)), fX12_goBoth_L2 n y1 y2 I = some out → mm_T none (d + 2) 299 (21, [some (.ref 62), some (.int y1), none, none, none, none], []) (107, out, J, mm_rf rv sp rr w nw) Q → mm_T none (d + 2) 299 (2, [some (.ref 62), some (.int y1), some (.int y2), none, none, none], []) (107, I, J, mm_rf rv sp rr w nw) Q := by
  intro n
  induction n with
  | zero =>
    intro y1 y2 I J rv sp rr w nw out e k
    rw [fX12_goBoth_L2] at e; cases e
  | succ n ih =>
    intro y1 y2 I J rv sp rr w nw out e k
    rw [fX12_goBoth_L2] at e
    refine mm_T.seg (f' := (5, [some (.ref 62), some (.int y1), some (.int y2), none, none, none], [(.int 64), (.int y2)])) (h' := (107, I, J, mm_rf rv sp rr w nw)) 2 rfl ?_
    refine mm_T.br (c := y2 < 64) (a := ((8, [some (.ref 62), some (.int y1), some (.int y2), none, none, none], []), (107, I, J, mm_rf rv sp rr w nw))) (b := ((21, [some (.ref 62), some (.int y1), some (.int y2), none, none, none], []), (107, I, J, mm_rf rv sp rr w nw))) rfl (fun h848 => ?_) (fun h848 => ?_)
    · rw [if_pos h848] at e
      refine mm_T.seg (f' := (14, [some (.ref 62), some (.int y1), some (.int y2), none, none, none], [(.int 0), (.int y2), (.ref 93)])) (h' := (107, I, J, mm_rf rv sp rr w nw)) 4 rfl ?_
      by_cases h849 : y2 < 0 ∨ 64 ≤ y2.toNatClampNeg
      · rw [if_pos h849] at e; cases e
      rw [if_neg h849] at e
      refine mm_T.guard (y := ((15, [some (.ref 62), some (.int y1), some (.int y2), none, none, none], []), (107, (mm_up I 93 y2.toNatClampNeg (vp_nar .boolean 0)), J, mm_rf rv sp rr w nw))) rfl h849 ?_
      refine mm_T.seg (f' := (2, [some (.ref 62), some (.int y1), some (.int (y2 + 1)), none, none, none], [])) (h' := (107, (mm_up I 93 y2.toNatClampNeg (vp_nar .boolean 0)), J, mm_rf rv sp rr w nw)) 2 rfl ?_
      refine mm_T.mask [true, true, true, false, false, false] ?_
      exact ih y1 (y2 + 1) (mm_up I 93 y2.toNatClampNeg (vp_nar .boolean 0)) J rv sp rr w nw out e k
    · rw [if_neg h848] at e
      cases e
      refine mm_T.mask [true, true, false, false, false, false] ?_
      exact k
set_option maxRecDepth 100000 in
set_option maxHeartbeats 4000000 in
theorem tlX12_goBoth_L31 (d : Nat) (Q : Option Value → mm_H → Prop) : ∀ (n : Nat) (y1 : Int32) (y2 : Int32) (y3 : Int32) (I : Nat → Nat → Int32) (J : Nat → Nat → Int64) (rv sp rr w nw : Nat), ∀ (out : (Nat → Nat → Int32)), fX12_goBoth_L31 n y1 y2 y3 I = some out → mm_T none (d + 2) 299 (124, [some (.ref 62), some (.int y1), some (.int y2), none, none, none], []) (107, out, J, mm_rf rv sp rr w nw) Q → mm_T none (d + 2) 299 (31, [some (.ref 62), some (.int y1), some (.int y2), some (.int y3), none, none], []) (107, I, J, mm_rf rv sp rr w nw) Q := by
  intro n
  induction n with
  | zero =>
    intro y1 y2 y3 I J rv sp rr w nw out e k
    rw [fX12_goBoth_L31] at e; cases e
  | succ n ih =>
    intro y1 y2 y3 I J rv sp rr w nw out e k
    rw [fX12_goBoth_L31] at e
    refine mm_T.seg (f' := (34, [some (.ref 62), some (.int y1), some (.int y2), some (.int y3), none, none], [(.int 9), (.int y3)])) (h' := (107, I, J, mm_rf rv sp rr w nw)) 2 rfl ?_
    refine mm_T.br (c := y3 < 9) (a := ((37, [some (.ref 62), some (.int y1), some (.int y2), some (.int y3), none, none], []), (107, I, J, mm_rf rv sp rr w nw))) (b := ((124, [some (.ref 62), some (.int y1), some (.int y2), some (.int y3), none, none], []), (107, I, J, mm_rf rv sp rr w nw))) rfl (fun h852 => ?_) (fun h852 => ?_)
    · rw [if_pos h852] at e
      refine mm_T.seg (f' := (42, [some (.ref 62), some (.int y1), some (.int y2), some (.int y3), none, none], [(.int y2), (.ref 92)])) (h' := (107, I, J, mm_rf rv sp rr w nw)) 3 rfl ?_
      by_cases h853 : y2 < 0 ∨ 64 ≤ y2.toNatClampNeg
      · rw [if_pos h853] at e; cases e
      rw [if_neg h853] at e
      refine mm_T.guard (y := ((43, [some (.ref 62), some (.int y1), some (.int y2), some (.int y3), none, none], [(.int (I 92 y2.toNatClampNeg))]), (107, I, J, mm_rf rv sp rr w nw))) rfl h853 ?_
      refine mm_T.br (c := (I 92 y2.toNatClampNeg) = 0) (a := ((124, [some (.ref 62), some (.int y1), some (.int y2), some (.int y3), none, none], []), (107, I, J, mm_rf rv sp rr w nw))) (b := ((46, [some (.ref 62), some (.int y1), some (.int y2), some (.int y3), none, none], []), (107, I, J, mm_rf rv sp rr w nw))) rfl (fun h854 => ?_) (fun h854 => ?_)
      · rw [if_pos h854] at e
        cases e
        refine mm_T.mask [true, true, true, false, false, false] ?_
        exact k
      · rw [if_neg h854] at e
        refine mm_T.seg (f' := (58, [some (.ref 62), some (.int y1), some (.int y2), some (.int y3), none, none], [(.int 1), (.int ((y3 / 3) - 1)), (.int y1), (.int (y2 / 8)), (.ref 62)])) (h' := (107, I, J, mm_rf rv sp rr w nw)) 11 rfl ?_
        obtain ⟨o855, eo855, e⟩ := mm_bind e
        refine mm_T.call (t := 259) (as := [(.ref 62), (.int (y2 / 8)), (.int y1), (.int ((y3 / 3) - 1)), (.int 1)]) (f' := (61, [some (.ref 62), some (.int y1), some (.int y2), some (.int y3), none, none], [])) rfl (tX12_columnBy (d + 0) (y2 / 8) y1 ((y3 / 3) - 1) 1 I J rv sp rr w nw o855 eo855) (fun v h hq => ?_)
        obtain ⟨rfl, rfl⟩ := hq
        refine mm_T.seg (f' := (75, [some (.ref 62), some (.int y1), some (.int y2), some (.int y3), some (.int o855), none], [(.int 1), (.int ((y3 - y3 / 3 * 3) - 1)), (.int y1), (.int (y2 - y2 / 8 * 8)), (.ref 62)])) (h' := (107, I, J, mm_rf rv sp rr w nw)) 12 rfl ?_
        obtain ⟨o856, eo856, e⟩ := mm_bind e
        refine mm_T.call (t := 259) (as := [(.ref 62), (.int (y2 - y2 / 8 * 8)), (.int y1), (.int ((y3 - y3 / 3 * 3) - 1)), (.int 1)]) (f' := (78, [some (.ref 62), some (.int y1), some (.int y2), some (.int y3), some (.int o855), none], [])) rfl (tX12_columnBy (d + 0) (y2 - y2 / 8 * 8) y1 ((y3 - y3 / 3 * 3) - 1) 1 I J rv sp rr w nw o856 eo856) (fun v h hq => ?_)
        obtain ⟨rfl, rfl⟩ := hq
        refine mm_T.seg (f' := (86, [some (.ref 62), some (.int y1), some (.int y2), some (.int y3), some (.int o855), some (.int o856)], [(.int (y1 + 1)), (.int o855), (.ref 62)])) (h' := (107, I, J, mm_rf rv sp rr w nw)) 6 rfl ?_
        obtain ⟨o857, eo857, e⟩ := mm_bind e
        refine mm_T.call (t := 260) (as := [(.ref 62), (.int o855), (.int (y1 + 1))]) (f' := (89, [some (.ref 62), some (.int y1), some (.int y2), some (.int y3), some (.int o855), some (.int o856)], [])) rfl (tX12_isIron (d + 1) o855 (y1 + 1) I J rv sp rr w nw o857 eo857) (fun v h hq => ?_)
        obtain ⟨rfl, rfl⟩ := hq
        refine mm_T.br (c := o857 = 0) (a := ((92, [some (.ref 62), some (.int y1), some (.int y2), some (.int y3), some (.int o855), some (.int o856)], []), (107, I, J, mm_rf rv sp rr w nw))) (b := ((118, [some (.ref 62), some (.int y1), some (.int y2), some (.int y3), some (.int o855), some (.int o856)], []), (107, I, J, mm_rf rv sp rr w nw))) rfl (fun h858 => ?_) (fun h858 => ?_)
        · rw [if_pos h858] at e
          refine mm_T.seg (f' := (98, [some (.ref 62), some (.int y1), some (.int y2), some (.int y3), some (.int o855), some (.int o856)], [(.int (y1 + 1)), (.int o856), (.ref 62)])) (h' := (107, I, J, mm_rf rv sp rr w nw)) 5 rfl ?_
          obtain ⟨o859, eo859, e⟩ := mm_bind e
          refine mm_T.call (t := 260) (as := [(.ref 62), (.int o856), (.int (y1 + 1))]) (f' := (101, [some (.ref 62), some (.int y1), some (.int y2), some (.int y3), some (.int o855), some (.int o856)], [])) rfl (tX12_isIron (d + 1) o856 (y1 + 1) I J rv sp rr w nw o859 eo859) (fun v h hq => ?_)
          obtain ⟨rfl, rfl⟩ := hq
          refine mm_T.br (c := o859 = 0) (a := ((104, [some (.ref 62), some (.int y1), some (.int y2), some (.int y3), some (.int o855), some (.int o856)], []), (107, I, J, mm_rf rv sp rr w nw))) (b := ((118, [some (.ref 62), some (.int y1), some (.int y2), some (.int y3), some (.int o855), some (.int o856)], []), (107, I, J, mm_rf rv sp rr w nw))) rfl (fun h860 => ?_) (fun h860 => ?_)
          · rw [if_pos h860] at e
            refine mm_T.seg (f' := (117, [some (.ref 62), some (.int y1), some (.int y2), some (.int y3), some (.int o855), some (.int o856)], [(.int 1), (.int ((8 * o855) + o856)), (.ref 93)])) (h' := (107, I, J, mm_rf rv sp rr w nw)) 8 rfl ?_
            by_cases h861 : ((8 * o855) + o856) < 0 ∨ 64 ≤ ((8 * o855) + o856).toNatClampNeg
            · rw [if_pos h861] at e; cases e
            rw [if_neg h861] at e
            refine mm_T.guard (y := ((118, [some (.ref 62), some (.int y1), some (.int y2), some (.int y3), some (.int o855), some (.int o856)], []), (107, (mm_up I 93 ((8 * o855) + o856).toNatClampNeg (vp_nar .boolean 1)), J, mm_rf rv sp rr w nw))) rfl h861 ?_
            refine mm_T.seg (f' := (31, [some (.ref 62), some (.int y1), some (.int y2), some (.int (y3 + 1)), some (.int o855), some (.int o856)], [])) (h' := (107, (mm_up I 93 ((8 * o855) + o856).toNatClampNeg (vp_nar .boolean 1)), J, mm_rf rv sp rr w nw)) 2 rfl ?_
            refine mm_T.mask [true, true, true, true, false, false] ?_
            exact ih y1 y2 (y3 + 1) (mm_up I 93 ((8 * o855) + o856).toNatClampNeg (vp_nar .boolean 1)) J rv sp rr w nw out e k
          · rw [if_neg h860] at e
            refine mm_T.seg (f' := (31, [some (.ref 62), some (.int y1), some (.int y2), some (.int (y3 + 1)), some (.int o855), some (.int o856)], [])) (h' := (107, I, J, mm_rf rv sp rr w nw)) 2 rfl ?_
            refine mm_T.mask [true, true, true, true, false, false] ?_
            exact ih y1 y2 (y3 + 1) I J rv sp rr w nw out e k
        · rw [if_neg h858] at e
          refine mm_T.seg (f' := (31, [some (.ref 62), some (.int y1), some (.int y2), some (.int (y3 + 1)), some (.int o855), some (.int o856)], [])) (h' := (107, I, J, mm_rf rv sp rr w nw)) 2 rfl ?_
          refine mm_T.mask [true, true, true, true, false, false] ?_
          exact ih y1 y2 (y3 + 1) I J rv sp rr w nw out e k
    · rw [if_neg h852] at e
      cases e
      refine mm_T.mask [true, true, true, false, false, false] ?_
      exact k
set_option maxRecDepth 100000 in
set_option maxHeartbeats 4000000 in
theorem tlX12_goBoth_L23 (d : Nat) (Q : Option Value → mm_H → Prop) : ∀ (n : Nat) (y1 : Int32) (y2 : Int32) (I : Nat → Nat → Int32) (J : Nat → Nat → Int64) (rv sp rr w nw : Nat), ∀ (out : (Nat → Nat → Int32)), fX12_goBoth_L23 n y1 y2 I = some out → mm_T none (d + 2) 299 (130, [some (.ref 62), none, none, none, none, none], []) (107, out, J, mm_rf rv sp rr w nw) Q → mm_T none (d + 2) 299 (23, [some (.ref 62), some (.int y1), some (.int y2), none, none, none], []) (107, I, J, mm_rf rv sp rr w nw) Q := by
  intro n
  induction n with
  | zero =>
    intro y1 y2 I J rv sp rr w nw out e k
    rw [fX12_goBoth_L23] at e; cases e
  | succ n ih =>
    intro y1 y2 I J rv sp rr w nw out e k
    rw [fX12_goBoth_L23] at e
    refine mm_T.seg (f' := (26, [some (.ref 62), some (.int y1), some (.int y2), none, none, none], [(.int 64), (.int y2)])) (h' := (107, I, J, mm_rf rv sp rr w nw)) 2 rfl ?_
    refine mm_T.br (c := y2 < 64) (a := ((29, [some (.ref 62), some (.int y1), some (.int y2), none, none, none], []), (107, I, J, mm_rf rv sp rr w nw))) (b := ((130, [some (.ref 62), some (.int y1), some (.int y2), none, none, none], []), (107, I, J, mm_rf rv sp rr w nw))) rfl (fun h851 => ?_) (fun h851 => ?_)
    · rw [if_pos h851] at e
      refine mm_T.seg (f' := (31, [some (.ref 62), some (.int y1), some (.int y2), some (.int 0), none, none], [])) (h' := (107, I, J, mm_rf rv sp rr w nw)) 2 rfl ?_
      refine mm_T.mask [true, true, true, true, false, false] ?_
      obtain ⟨o862, eo862, e⟩ := mm_bind e
      refine tlX12_goBoth_L31 d _ n y1 y2 0 I J rv sp rr w nw o862 eo862 ?_
      refine mm_T.seg (f' := (23, [some (.ref 62), some (.int y1), some (.int (y2 + 1)), none, none, none], [])) (h' := (107, o862, J, mm_rf rv sp rr w nw)) 2 rfl ?_
      refine mm_T.mask [true, true, true, false, false, false] ?_
      exact ih y1 (y2 + 1) o862 J rv sp rr w nw out e k
    · rw [if_neg h851] at e
      cases e
      refine mm_T.mask [true, false, false, false, false, false] ?_
      exact k
set_option maxRecDepth 100000 in
set_option maxHeartbeats 4000000 in
theorem tlX12_goBoth_L132 (d : Nat) (Q : Option Value → mm_H → Prop) : ∀ (n : Nat) (y2 : Int32) (I : Nat → Nat → Int32) (J : Nat → Nat → Int64) (rv sp rr w nw : Nat), ∀ (out : (Nat → Nat → Int32)), fX12_goBoth_L132 n y2 I = some out → mm_T none (d + 2) 299 (156, [none, none, none, none, none, none], []) (107, out, J, mm_rf rv sp rr w nw) Q → mm_T none (d + 2) 299 (132, [some (.ref 62), none, some (.int y2), none, none, none], []) (107, I, J, mm_rf rv sp rr w nw) Q := by
  intro n
  induction n with
  | zero =>
    intro y2 I J rv sp rr w nw out e k
    rw [fX12_goBoth_L132] at e; cases e
  | succ n ih =>
    intro y2 I J rv sp rr w nw out e k
    rw [fX12_goBoth_L132] at e
    refine mm_T.seg (f' := (135, [some (.ref 62), none, some (.int y2), none, none, none], [(.int 64), (.int y2)])) (h' := (107, I, J, mm_rf rv sp rr w nw)) 2 rfl ?_
    refine mm_T.br (c := y2 < 64) (a := ((138, [some (.ref 62), none, some (.int y2), none, none, none], []), (107, I, J, mm_rf rv sp rr w nw))) (b := ((156, [some (.ref 62), none, some (.int y2), none, none, none], []), (107, I, J, mm_rf rv sp rr w nw))) rfl (fun h864 => ?_) (fun h864 => ?_)
    · rw [if_pos h864] at e
      refine mm_T.seg (f' := (148, [some (.ref 62), none, some (.int y2), none, none, none], [(.int y2), (.ref 93), (.int y2), (.ref 92)])) (h' := (107, I, J, mm_rf rv sp rr w nw)) 6 rfl ?_
      by_cases h865 : y2 < 0 ∨ 64 ≤ y2.toNatClampNeg
      · rw [if_pos h865] at e; cases e
      rw [if_neg h865] at e
      refine mm_T.guard (y := ((149, [some (.ref 62), none, some (.int y2), none, none, none], [(.int (I 93 y2.toNatClampNeg)), (.int y2), (.ref 92)]), (107, I, J, mm_rf rv sp rr w nw))) rfl h865 ?_
      by_cases h866 : y2 < 0 ∨ 64 ≤ y2.toNatClampNeg
      · rw [if_pos h866] at e; cases e
      rw [if_neg h866] at e
      refine mm_T.guard (y := ((150, [some (.ref 62), none, some (.int y2), none, none, none], []), (107, (mm_up I 92 y2.toNatClampNeg (vp_nar .boolean (I 93 y2.toNatClampNeg))), J, mm_rf rv sp rr w nw))) rfl h866 ?_
      refine mm_T.seg (f' := (132, [some (.ref 62), none, some (.int (y2 + 1)), none, none, none], [])) (h' := (107, (mm_up I 92 y2.toNatClampNeg (vp_nar .boolean (I 93 y2.toNatClampNeg))), J, mm_rf rv sp rr w nw)) 2 rfl ?_
      refine mm_T.mask [true, false, true, false, false, false] ?_
      exact ih (y2 + 1) (mm_up I 92 y2.toNatClampNeg (vp_nar .boolean (I 93 y2.toNatClampNeg))) J rv sp rr w nw out e k
    · rw [if_neg h864] at e
      cases e
      refine mm_T.mask [false, false, false, false, false, false] ?_
      exact k
set_option maxRecDepth 100000 in
set_option maxHeartbeats 4000000 in
theorem tX12_goBoth (d n : Nat) (x1 : Int32) (I : Nat → Nat → Int32) (J : Nat → Nat → Int64) (rv sp rr w nw : Nat) (out : (Nat → Nat → Int32)) (e : fX12_goBoth n x1 I = some out) : mm_T none (d + 2) 299 (mm_ent 299 [(.ref 62), (.int x1)]) (107, I, J, mm_rf rv sp rr w nw) (fun v h => v = none ∧ h = (107, out, J, mm_rf rv sp rr w nw)) := by
  unfold fX12_goBoth at e
  refine mm_T.seg (f' := (2, [some (.ref 62), some (.int x1), some (.int 0), none, none, none], [])) (h' := (107, I, J, mm_rf rv sp rr w nw)) 2 rfl ?_
  refine mm_T.mask [true, true, true, false, false, false] ?_
  obtain ⟨o850, eo850, e⟩ := mm_bind e
  refine tlX12_goBoth_L2 d _ n x1 0 I J rv sp rr w nw o850 eo850 ?_
  refine mm_T.seg (f' := (23, [some (.ref 62), some (.int x1), some (.int 0), none, none, none], [])) (h' := (107, o850, J, mm_rf rv sp rr w nw)) 2 rfl ?_
  refine mm_T.mask [true, true, true, false, false, false] ?_
  obtain ⟨o863, eo863, e⟩ := mm_bind e
  refine tlX12_goBoth_L23 d _ n x1 0 o850 J rv sp rr w nw o863 eo863 ?_
  refine mm_T.seg (f' := (132, [some (.ref 62), none, some (.int 0), none, none, none], [])) (h' := (107, o863, J, mm_rf rv sp rr w nw)) 2 rfl ?_
  refine mm_T.mask [true, false, true, false, false, false] ?_
  obtain ⟨o867, eo867, e⟩ := mm_bind e
  refine tlX12_goBoth_L132 d _ n 0 o863 J rv sp rr w nw o867 eo867 ?_
  cases e
  exact mm_T.ret rfl ⟨rfl, rfl⟩
def fX12_meet_L44 (n : Nat) (y1 : Int32) (y2 : Int32) (y3 : Int32) (I : Nat → Nat → Int32) : Option ((Nat → Nat → Int32)) := match n with
  | 0 => none
  | n + 1 => (if y3 < 64 then (if y1 < 0 ∨ 28 ≤ y1.toNatClampNeg then none else (if y2 < 0 ∨ 28 ≤ y2.toNatClampNeg then none else (if y3 = ((8 * (I 84 y1.toNatClampNeg)) + (I 84 y2.toNatClampNeg)) then (if y3 < 0 ∨ 64 ≤ y3.toNatClampNeg then none else fX12_meet_L44 n y1 y2 (y3 + 1) (mm_up I 92 y3.toNatClampNeg (vp_nar .boolean 1))) else (if y3 < 0 ∨ 64 ≤ y3.toNatClampNeg then none else fX12_meet_L44 n y1 y2 (y3 + 1) (mm_up I 92 y3.toNatClampNeg (vp_nar .boolean 0)))))) else some I)
def fX12_meet_L89 (n : Nat) (y1 : Int32) (y3 : Int32) (I : Nat → Nat → Int32) : Option ((Int32 ⊕ (Unit)) × (Nat → Nat → Int32)) := match n with
  | 0 => none
  | n + 1 => (fX12_leftOf y1 I).bind fun o883 => (if o883 < y3 then some (.inr (), I) else (fX12_areBeside n I).bind fun o885 => (if o885 = 0 then (fX12_leftOf y1 I).bind fun o887 => (if y3 < o887 then (if (4 + y1) < 0 ∨ 28 ≤ (4 + y1).toNatClampNeg then none else (fX12_goBoth n ((I 84 (4 + y1).toNatClampNeg) + y3) I).bind fun o890 => fX12_meet_L89 n y1 (y3 + 1) o890) else fX12_meet_L89 n y1 (y3 + 1) I) else some (.inl y3, I)))
def fX12_meet (n : Nat) (x1 : Int32) (x2 : Int32) (I : Nat → Nat → Int32) : Option (Int32 × (Nat → Nat → Int32)) := (fX12_isBoard x1 I).bind fun o868 => (if o868 = 0 then some ((-1), I) else (fX12_isBoard x2 I).bind fun o870 => (if o870 = 0 then some ((-1), I) else (if x1 = x2 then some ((-1), I) else (if (4 + x1) < 0 ∨ 28 ≤ (4 + x1).toNatClampNeg then none else (if (4 + x2) < 0 ∨ 28 ≤ (4 + x2).toNatClampNeg then none else (if (I 84 (4 + x1).toNatClampNeg) = (I 84 (4 + x2).toNatClampNeg) then (fX12_meet_L44 n x1 x2 0 I).bind fun o882 => (fX12_meet_L89 n x1 0 o882).bind fun o891 => (match o891 with | (.inl r, s0) => some (r, s0) | (.inr y, s0) => some ((-1), s0)) else some ((-1), I)))))))
set_option maxRecDepth 100000 in
set_option maxHeartbeats 4000000 in
theorem tlX12_meet_L44 (d : Nat) (Q : Option Value → mm_H → Prop) : ∀ (n : Nat) (y1 : Int32) (y2 : Int32) (y3 : Int32) (I : Nat → Nat → Int32) (J : Nat → Nat → Int64) (rv sp rr w nw : Nat), ∀ (out : (Nat → Nat → Int32)), fX12_meet_L44 n y1 y2 y3 I = some out → mm_T none (d + 3) 300 (87, [some (.ref 62), some (.int y1), none, none], []) (107, out, J, mm_rf rv sp rr w nw) Q → mm_T none (d + 3) 300 (44, [some (.ref 62), some (.int y1), some (.int y2), some (.int y3)], []) (107, I, J, mm_rf rv sp rr w nw) Q := by
  intro n
  induction n with
  | zero =>
    intro y1 y2 y3 I J rv sp rr w nw out e k
    rw [fX12_meet_L44] at e; cases e
  | succ n ih =>
    intro y1 y2 y3 I J rv sp rr w nw out e k
    rw [fX12_meet_L44] at e
    refine mm_T.seg (f' := (47, [some (.ref 62), some (.int y1), some (.int y2), some (.int y3)], [(.int 64), (.int y3)])) (h' := (107, I, J, mm_rf rv sp rr w nw)) 2 rfl ?_
    refine mm_T.br (c := y3 < 64) (a := ((50, [some (.ref 62), some (.int y1), some (.int y2), some (.int y3)], []), (107, I, J, mm_rf rv sp rr w nw))) (b := ((87, [some (.ref 62), some (.int y1), some (.int y2), some (.int y3)], []), (107, I, J, mm_rf rv sp rr w nw))) rfl (fun h876 => ?_) (fun h876 => ?_)
    · rw [if_pos h876] at e
      refine mm_T.seg (f' := (63, [some (.ref 62), some (.int y1), some (.int y2), some (.int y3)], [(.int y1), (.ref 84), (.int 8), (.int y3), (.int y3), (.ref 92)])) (h' := (107, I, J, mm_rf rv sp rr w nw)) 8 rfl ?_
      by_cases h877 : y1 < 0 ∨ 28 ≤ y1.toNatClampNeg
      · rw [if_pos h877] at e; cases e
      rw [if_neg h877] at e
      refine mm_T.guard (y := ((64, [some (.ref 62), some (.int y1), some (.int y2), some (.int y3)], [(.int (I 84 y1.toNatClampNeg)), (.int 8), (.int y3), (.int y3), (.ref 92)]), (107, I, J, mm_rf rv sp rr w nw))) rfl h877 ?_
      refine mm_T.seg (f' := (70, [some (.ref 62), some (.int y1), some (.int y2), some (.int y3)], [(.int y2), (.ref 84), (.int (8 * (I 84 y1.toNatClampNeg))), (.int y3), (.int y3), (.ref 92)])) (h' := (107, I, J, mm_rf rv sp rr w nw)) 4 rfl ?_
      by_cases h878 : y2 < 0 ∨ 28 ≤ y2.toNatClampNeg
      · rw [if_pos h878] at e; cases e
      rw [if_neg h878] at e
      refine mm_T.guard (y := ((71, [some (.ref 62), some (.int y1), some (.int y2), some (.int y3)], [(.int (I 84 y2.toNatClampNeg)), (.int (8 * (I 84 y1.toNatClampNeg))), (.int y3), (.int y3), (.ref 92)]), (107, I, J, mm_rf rv sp rr w nw))) rfl h878 ?_
      refine mm_T.seg (f' := (72, [some (.ref 62), some (.int y1), some (.int y2), some (.int y3)], [(.int ((8 * (I 84 y1.toNatClampNeg)) + (I 84 y2.toNatClampNeg))), (.int y3), (.int y3), (.ref 92)])) (h' := (107, I, J, mm_rf rv sp rr w nw)) 1 rfl ?_
      refine mm_T.br (c := y3 = ((8 * (I 84 y1.toNatClampNeg)) + (I 84 y2.toNatClampNeg))) (a := ((75, [some (.ref 62), some (.int y1), some (.int y2), some (.int y3)], [(.int y3), (.ref 92)]), (107, I, J, mm_rf rv sp rr w nw))) (b := ((79, [some (.ref 62), some (.int y1), some (.int y2), some (.int y3)], [(.int y3), (.ref 92)]), (107, I, J, mm_rf rv sp rr w nw))) rfl (fun h879 => ?_) (fun h879 => ?_)
      · rw [if_pos h879] at e
        refine mm_T.seg (f' := (80, [some (.ref 62), some (.int y1), some (.int y2), some (.int y3)], [(.int 1), (.int y3), (.ref 92)])) (h' := (107, I, J, mm_rf rv sp rr w nw)) 2 rfl ?_
        by_cases h880 : y3 < 0 ∨ 64 ≤ y3.toNatClampNeg
        · rw [if_pos h880] at e; cases e
        rw [if_neg h880] at e
        refine mm_T.guard (y := ((81, [some (.ref 62), some (.int y1), some (.int y2), some (.int y3)], []), (107, (mm_up I 92 y3.toNatClampNeg (vp_nar .boolean 1)), J, mm_rf rv sp rr w nw))) rfl h880 ?_
        refine mm_T.seg (f' := (44, [some (.ref 62), some (.int y1), some (.int y2), some (.int (y3 + 1))], [])) (h' := (107, (mm_up I 92 y3.toNatClampNeg (vp_nar .boolean 1)), J, mm_rf rv sp rr w nw)) 2 rfl ?_
        refine mm_T.mask [true, true, true, true] ?_
        exact ih y1 y2 (y3 + 1) (mm_up I 92 y3.toNatClampNeg (vp_nar .boolean 1)) J rv sp rr w nw out e k
      · rw [if_neg h879] at e
        refine mm_T.seg (f' := (80, [some (.ref 62), some (.int y1), some (.int y2), some (.int y3)], [(.int 0), (.int y3), (.ref 92)])) (h' := (107, I, J, mm_rf rv sp rr w nw)) 1 rfl ?_
        by_cases h881 : y3 < 0 ∨ 64 ≤ y3.toNatClampNeg
        · rw [if_pos h881] at e; cases e
        rw [if_neg h881] at e
        refine mm_T.guard (y := ((81, [some (.ref 62), some (.int y1), some (.int y2), some (.int y3)], []), (107, (mm_up I 92 y3.toNatClampNeg (vp_nar .boolean 0)), J, mm_rf rv sp rr w nw))) rfl h881 ?_
        refine mm_T.seg (f' := (44, [some (.ref 62), some (.int y1), some (.int y2), some (.int (y3 + 1))], [])) (h' := (107, (mm_up I 92 y3.toNatClampNeg (vp_nar .boolean 0)), J, mm_rf rv sp rr w nw)) 2 rfl ?_
        refine mm_T.mask [true, true, true, true] ?_
        exact ih y1 y2 (y3 + 1) (mm_up I 92 y3.toNatClampNeg (vp_nar .boolean 0)) J rv sp rr w nw out e k
    · rw [if_neg h876] at e
      cases e
      refine mm_T.mask [true, true, false, false] ?_
      exact k
set_option maxRecDepth 100000 in
set_option maxHeartbeats 4000000 in
theorem tlX12_meet_L89 (d : Nat) (Q : Option Value → mm_H → Prop) : ∀ (n : Nat) (y1 : Int32) (y3 : Int32) (I : Nat → Nat → Int32) (J : Nat → Nat → Int64) (rv sp rr w nw : Nat), ∀ (out : (Int32 ⊕ (Unit)) × (Nat → Nat → Int32)), fX12_meet_L89 n y1 y3 I = some out → (∀ (r : Int32) (s0 : Nat → Nat → Int32), out = (.inl r, s0) → Q (some (.int r)) (107, s0, J, mm_rf rv sp rr w nw)) → (∀ (y : Unit) (s0 : Nat → Nat → Int32), out = (.inr y, s0) → mm_T none (d + 3) 300 (136, [none, none, none, none], []) (107, s0, J, mm_rf rv sp rr w nw) Q) → mm_T none (d + 3) 300 (89, [some (.ref 62), some (.int y1), none, some (.int y3)], []) (107, I, J, mm_rf rv sp rr w nw) Q := by
  intro n
  induction n with
  | zero =>
    intro y1 y3 I J rv sp rr w nw out e kr ke
    rw [fX12_meet_L89] at e; cases e
  | succ n ih =>
    intro y1 y3 I J rv sp rr w nw out e kr ke
    rw [fX12_meet_L89] at e
    refine mm_T.seg (f' := (92, [some (.ref 62), some (.int y1), none, some (.int y3)], [(.int y1), (.ref 62), (.int y3)])) (h' := (107, I, J, mm_rf rv sp rr w nw)) 3 rfl ?_
    obtain ⟨o883, eo883, e⟩ := mm_bind e
    refine mm_T.call (t := 278) (as := [(.ref 62), (.int y1)]) (f' := (95, [some (.ref 62), some (.int y1), none, some (.int y3)], [(.int y3)])) rfl (tX12_leftOf (d + 2) y1 I J rv sp rr w nw o883 eo883) (fun v h hq => ?_)
    obtain ⟨rfl, rfl⟩ := hq
    refine mm_T.br (c := o883 < y3) (a := ((136, [some (.ref 62), some (.int y1), none, some (.int y3)], []), (107, I, J, mm_rf rv sp rr w nw))) (b := ((98, [some (.ref 62), some (.int y1), none, some (.int y3)], []), (107, I, J, mm_rf rv sp rr w nw))) rfl (fun h884 => ?_) (fun h884 => ?_)
    · rw [if_pos h884] at e
      cases e
      refine mm_T.mask [false, false, false, false] ?_
      exact ke _ _ rfl
    · rw [if_neg h884] at e
      refine mm_T.seg (f' := (99, [some (.ref 62), some (.int y1), none, some (.int y3)], [(.ref 62)])) (h' := (107, I, J, mm_rf rv sp rr w nw)) 1 rfl ?_
      obtain ⟨o885, eo885, e⟩ := mm_bind e
      refine mm_T.call (t := 298) (as := [(.ref 62)]) (f' := (102, [some (.ref 62), some (.int y1), none, some (.int y3)], [])) rfl (tX12_areBeside (d + 1) n I J rv sp rr w nw o885 eo885) (fun v h hq => ?_)
      obtain ⟨rfl, rfl⟩ := hq
      refine mm_T.br (c := o885 = 0) (a := ((107, [some (.ref 62), some (.int y1), none, some (.int y3)], []), (107, I, J, mm_rf rv sp rr w nw))) (b := ((105, [some (.ref 62), some (.int y1), none, some (.int y3)], []), (107, I, J, mm_rf rv sp rr w nw))) rfl (fun h886 => ?_) (fun h886 => ?_)
      · rw [if_pos h886] at e
        refine mm_T.seg (f' := (110, [some (.ref 62), some (.int y1), none, some (.int y3)], [(.int y1), (.ref 62), (.int y3)])) (h' := (107, I, J, mm_rf rv sp rr w nw)) 3 rfl ?_
        obtain ⟨o887, eo887, e⟩ := mm_bind e
        refine mm_T.call (t := 278) (as := [(.ref 62), (.int y1)]) (f' := (113, [some (.ref 62), some (.int y1), none, some (.int y3)], [(.int y3)])) rfl (tX12_leftOf (d + 2) y1 I J rv sp rr w nw o887 eo887) (fun v h hq => ?_)
        obtain ⟨rfl, rfl⟩ := hq
        refine mm_T.br (c := y3 < o887) (a := ((116, [some (.ref 62), some (.int y1), none, some (.int y3)], []), (107, I, J, mm_rf rv sp rr w nw))) (b := ((130, [some (.ref 62), some (.int y1), none, some (.int y3)], []), (107, I, J, mm_rf rv sp rr w nw))) rfl (fun h888 => ?_) (fun h888 => ?_)
        · rw [if_pos h888] at e
          refine mm_T.seg (f' := (124, [some (.ref 62), some (.int y1), none, some (.int y3)], [(.int (4 + y1)), (.ref 84), (.ref 62)])) (h' := (107, I, J, mm_rf rv sp rr w nw)) 6 rfl ?_
          by_cases h889 : (4 + y1) < 0 ∨ 28 ≤ (4 + y1).toNatClampNeg
          · rw [if_pos h889] at e; cases e
          rw [if_neg h889] at e
          refine mm_T.guard (y := ((125, [some (.ref 62), some (.int y1), none, some (.int y3)], [(.int (I 84 (4 + y1).toNatClampNeg)), (.ref 62)]), (107, I, J, mm_rf rv sp rr w nw))) rfl h889 ?_
          refine mm_T.seg (f' := (127, [some (.ref 62), some (.int y1), none, some (.int y3)], [(.int ((I 84 (4 + y1).toNatClampNeg) + y3)), (.ref 62)])) (h' := (107, I, J, mm_rf rv sp rr w nw)) 2 rfl ?_
          obtain ⟨o890, eo890, e⟩ := mm_bind e
          refine mm_T.call (t := 299) (as := [(.ref 62), (.int ((I 84 (4 + y1).toNatClampNeg) + y3))]) (f' := (130, [some (.ref 62), some (.int y1), none, some (.int y3)], [])) rfl (tX12_goBoth (d + 0) n ((I 84 (4 + y1).toNatClampNeg) + y3) I J rv sp rr w nw o890 eo890) (fun v h hq => ?_)
          obtain ⟨rfl, rfl⟩ := hq
          refine mm_T.seg (f' := (89, [some (.ref 62), some (.int y1), none, some (.int (y3 + 1))], [])) (h' := (107, o890, J, mm_rf rv sp rr w nw)) 2 rfl ?_
          refine mm_T.mask [true, true, false, true] ?_
          exact ih y1 (y3 + 1) o890 J rv sp rr w nw out e kr ke
        · rw [if_neg h888] at e
          refine mm_T.seg (f' := (89, [some (.ref 62), some (.int y1), none, some (.int (y3 + 1))], [])) (h' := (107, I, J, mm_rf rv sp rr w nw)) 2 rfl ?_
          refine mm_T.mask [true, true, false, true] ?_
          exact ih y1 (y3 + 1) I J rv sp rr w nw out e kr ke
      · rw [if_neg h886] at e
        refine mm_T.seg (f' := (106, [some (.ref 62), some (.int y1), none, some (.int y3)], [(.int y3)])) (h' := (107, I, J, mm_rf rv sp rr w nw)) 1 rfl ?_
        cases e
        exact mm_T.ret rfl (kr _ _ rfl)
set_option maxRecDepth 100000 in
set_option maxHeartbeats 4000000 in
theorem tX12_meet (d n : Nat) (x1 : Int32) (x2 : Int32) (I : Nat → Nat → Int32) (J : Nat → Nat → Int64) (rv sp rr w nw : Nat) (out : Int32 × (Nat → Nat → Int32)) (e : fX12_meet n x1 x2 I = some out) : mm_T none (d + 3) 300 (mm_ent 300 [(.ref 62), (.int x1), (.int x2)]) (107, I, J, mm_rf rv sp rr w nw) (fun v h => v = some (.int out.1) ∧ h = (107, out.2, J, mm_rf rv sp rr w nw)) := by
  unfold fX12_meet at e
  refine mm_T.seg (f' := (2, [some (.ref 62), some (.int x1), some (.int x2), none], [(.int x1), (.ref 62)])) (h' := (107, I, J, mm_rf rv sp rr w nw)) 2 rfl ?_
  obtain ⟨o868, eo868, e⟩ := mm_bind e
  refine mm_T.call (t := 253) (as := [(.ref 62), (.int x1)]) (f' := (5, [some (.ref 62), some (.int x1), some (.int x2), none], [])) rfl (tX12_isBoard (d + 1) x1 I J rv sp rr w nw o868 eo868) (fun v h hq => ?_)
  obtain ⟨rfl, rfl⟩ := hq
  refine mm_T.br (c := o868 = 0) (a := ((40, [some (.ref 62), some (.int x1), some (.int x2), none], []), (107, I, J, mm_rf rv sp rr w nw))) (b := ((8, [some (.ref 62), some (.int x1), some (.int x2), none], []), (107, I, J, mm_rf rv sp rr w nw))) rfl (fun h869 => ?_) (fun h869 => ?_)
  · rw [if_pos h869] at e
    refine mm_T.seg (f' := (41, [some (.ref 62), some (.int x1), some (.int x2), none], [(.int (-1))])) (h' := (107, I, J, mm_rf rv sp rr w nw)) 1 rfl ?_
    cases e
    exact mm_T.ret rfl ⟨rfl, rfl⟩
  · rw [if_neg h869] at e
    refine mm_T.seg (f' := (10, [some (.ref 62), some (.int x1), some (.int x2), none], [(.int x2), (.ref 62)])) (h' := (107, I, J, mm_rf rv sp rr w nw)) 2 rfl ?_
    obtain ⟨o870, eo870, e⟩ := mm_bind e
    refine mm_T.call (t := 253) (as := [(.ref 62), (.int x2)]) (f' := (13, [some (.ref 62), some (.int x1), some (.int x2), none], [])) rfl (tX12_isBoard (d + 1) x2 I J rv sp rr w nw o870 eo870) (fun v h hq => ?_)
    obtain ⟨rfl, rfl⟩ := hq
    refine mm_T.br (c := o870 = 0) (a := ((40, [some (.ref 62), some (.int x1), some (.int x2), none], []), (107, I, J, mm_rf rv sp rr w nw))) (b := ((16, [some (.ref 62), some (.int x1), some (.int x2), none], []), (107, I, J, mm_rf rv sp rr w nw))) rfl (fun h871 => ?_) (fun h871 => ?_)
    · rw [if_pos h871] at e
      refine mm_T.seg (f' := (41, [some (.ref 62), some (.int x1), some (.int x2), none], [(.int (-1))])) (h' := (107, I, J, mm_rf rv sp rr w nw)) 1 rfl ?_
      cases e
      exact mm_T.ret rfl ⟨rfl, rfl⟩
    · rw [if_neg h871] at e
      refine mm_T.seg (f' := (18, [some (.ref 62), some (.int x1), some (.int x2), none], [(.int x2), (.int x1)])) (h' := (107, I, J, mm_rf rv sp rr w nw)) 2 rfl ?_
      refine mm_T.br (c := x1 = x2) (a := ((40, [some (.ref 62), some (.int x1), some (.int x2), none], []), (107, I, J, mm_rf rv sp rr w nw))) (b := ((21, [some (.ref 62), some (.int x1), some (.int x2), none], []), (107, I, J, mm_rf rv sp rr w nw))) rfl (fun h872 => ?_) (fun h872 => ?_)
      · rw [if_pos h872] at e
        refine mm_T.seg (f' := (41, [some (.ref 62), some (.int x1), some (.int x2), none], [(.int (-1))])) (h' := (107, I, J, mm_rf rv sp rr w nw)) 1 rfl ?_
        cases e
        exact mm_T.ret rfl ⟨rfl, rfl⟩
      · rw [if_neg h872] at e
        refine mm_T.seg (f' := (28, [some (.ref 62), some (.int x1), some (.int x2), none], [(.int (4 + x1)), (.ref 84)])) (h' := (107, I, J, mm_rf rv sp rr w nw)) 5 rfl ?_
        by_cases h873 : (4 + x1) < 0 ∨ 28 ≤ (4 + x1).toNatClampNeg
        · rw [if_pos h873] at e; cases e
        rw [if_neg h873] at e
        refine mm_T.guard (y := ((29, [some (.ref 62), some (.int x1), some (.int x2), none], [(.int (I 84 (4 + x1).toNatClampNeg))]), (107, I, J, mm_rf rv sp rr w nw))) rfl h873 ?_
        refine mm_T.seg (f' := (36, [some (.ref 62), some (.int x1), some (.int x2), none], [(.int (4 + x2)), (.ref 84), (.int (I 84 (4 + x1).toNatClampNeg))])) (h' := (107, I, J, mm_rf rv sp rr w nw)) 5 rfl ?_
        by_cases h874 : (4 + x2) < 0 ∨ 28 ≤ (4 + x2).toNatClampNeg
        · rw [if_pos h874] at e; cases e
        rw [if_neg h874] at e
        refine mm_T.guard (y := ((37, [some (.ref 62), some (.int x1), some (.int x2), none], [(.int (I 84 (4 + x2).toNatClampNeg)), (.int (I 84 (4 + x1).toNatClampNeg))]), (107, I, J, mm_rf rv sp rr w nw))) rfl h874 ?_
        refine mm_T.br (c := (I 84 (4 + x1).toNatClampNeg) = (I 84 (4 + x2).toNatClampNeg)) (a := ((42, [some (.ref 62), some (.int x1), some (.int x2), none], []), (107, I, J, mm_rf rv sp rr w nw))) (b := ((40, [some (.ref 62), some (.int x1), some (.int x2), none], []), (107, I, J, mm_rf rv sp rr w nw))) rfl (fun h875 => ?_) (fun h875 => ?_)
        · rw [if_pos h875] at e
          refine mm_T.seg (f' := (44, [some (.ref 62), some (.int x1), some (.int x2), some (.int 0)], [])) (h' := (107, I, J, mm_rf rv sp rr w nw)) 2 rfl ?_
          refine mm_T.mask [true, true, true, true] ?_
          obtain ⟨o882, eo882, e⟩ := mm_bind e
          refine tlX12_meet_L44 d _ n x1 x2 0 I J rv sp rr w nw o882 eo882 ?_
          refine mm_T.seg (f' := (89, [some (.ref 62), some (.int x1), none, some (.int 0)], [])) (h' := (107, o882, J, mm_rf rv sp rr w nw)) 2 rfl ?_
          refine mm_T.mask [true, true, false, true] ?_
          obtain ⟨o891, eo891, e⟩ := mm_bind e
          rcases o891 with ⟨r | y, s0⟩
          · cases e
            refine tlX12_meet_L89 d _ n x1 0 o882 J rv sp rr w nw (.inl r, s0) eo891 (fun z z0 hz => ?_) (fun z z0 hz => ?_)
            · cases hz; exact ⟨rfl, rfl⟩
            · cases hz
          · refine tlX12_meet_L89 d _ n x1 0 o882 J rv sp rr w nw (.inr y, s0) eo891 (fun z z0 hz => ?_) (fun z z0 hz => ?_)
            · cases hz
            · cases hz
              refine mm_T.seg (f' := (137, [none, none, none, none], [(.int (-1))])) (h' := (107, s0, J, mm_rf rv sp rr w nw)) 1 rfl ?_
              cases e
              exact mm_T.ret rfl ⟨rfl, rfl⟩
        · rw [if_neg h875] at e
          refine mm_T.seg (f' := (41, [some (.ref 62), some (.int x1), some (.int x2), none], [(.int (-1))])) (h' := (107, I, J, mm_rf rv sp rr w nw)) 1 rfl ?_
          cases e
          exact mm_T.ret rfl ⟨rfl, rfl⟩
def fX12_layMooring_L15 (n : Nat) (y2 : Int32) (y3 : Int32) (y4 : Int32) (y5 : Int32) (I : Nat → Nat → Int32) : Option ((Int32 ⊕ (Int32)) × (Nat → Nat → Int32)) := match n with
  | 0 => none
  | n + 1 => (if y5 < 0 then some (.inr y4, I) else (if y5 < 0 ∨ 4 ≤ y5.toNatClampNeg then none else (if y5 < 0 ∨ 4 ≤ y5.toNatClampNeg then none else (if ((mm_up I 95 y5.toNatClampNeg (y2 - y2 / 9 * 9)) 95 y5.toNatClampNeg) = 8 then fX12_layMooring_L15 n (y2 / 9) y3 y4 (y5 + (-1)) (mm_up I 95 y5.toNatClampNeg (y2 - y2 / 9 * 9)) else (if y5 < 0 ∨ 4 ≤ y5.toNatClampNeg then none else (if y5 < 0 ∨ 4 ≤ y5.toNatClampNeg then none else (if (((I 94 y5.toNatClampNeg) >>> (((mm_up I 95 y5.toNatClampNeg (y2 - y2 / 9 * 9)) 95 y5.toNatClampNeg) &&& 31)) &&& 1) = 0 then some (.inl (-1), (mm_up I 95 y5.toNatClampNeg (y2 - y2 / 9 * 9))) else (if y5 < 0 ∨ 4 ≤ y5.toNatClampNeg then none else (if ((y3 >>> (((mm_up I 95 y5.toNatClampNeg (y2 - y2 / 9 * 9)) 95 y5.toNatClampNeg) &&& 31)) &&& 1) = 1 then some (.inl (-1), (mm_up I 95 y5.toNatClampNeg (y2 - y2 / 9 * 9))) else (if y5 < 0 ∨ 4 ≤ y5.toNatClampNeg then none else fX12_layMooring_L15 n (y2 / 9) (y3 ||| (1 <<< (((mm_up I 95 y5.toNatClampNeg (y2 - y2 / 9 * 9)) 95 y5.toNatClampNeg) &&& 31))) (y4 + 1) (y5 + (-1)) (mm_up I 95 y5.toNatClampNeg (y2 - y2 / 9 * 9))))))))))))
def fX12_layMooring (n : Nat) (x1 : Int32) (I : Nat → Nat → Int32) : Option (Int32 × (Nat → Nat → Int32)) := (fX12_layMooring_L15 n x1 0 0 ((I 62 48) - 1) I).bind fun o902 => (match o902 with | (.inl r, s0) => some (r, s0) | (.inr y, s0) => some (y, s0))
set_option maxRecDepth 100000 in
set_option maxHeartbeats 4000000 in
theorem tlX12_layMooring_L15 (d : Nat) (Q : Option Value → mm_H → Prop) : ∀ (n : Nat) (y2 : Int32) (y3 : Int32) (y4 : Int32) (y5 : Int32) (I : Nat → Nat → Int32) (J : Nat → Nat → Int64) (rv sp rr w nw : Nat), ∀ (out : (Int32 ⊕ (Int32)) × (Nat → Nat → Int32)), fX12_layMooring_L15 n y2 y3 y4 y5 I = some out → (∀ (r : Int32) (s0 : Nat → Nat → Int32), out = (.inl r, s0) → Q (some (.int r)) (107, s0, J, mm_rf rv sp rr w nw)) → (∀ (y : Int32) (s0 : Nat → Nat → Int32), out = (.inr y, s0) → mm_T none (d + 0) 301 (109, [none, none, none, none, some (.int y), none], []) (107, s0, J, mm_rf rv sp rr w nw) Q) → mm_T none (d + 0) 301 (15, [some (.ref 62), none, some (.int y2), some (.int y3), some (.int y4), some (.int y5)], []) (107, I, J, mm_rf rv sp rr w nw) Q := by
  intro n
  induction n with
  | zero =>
    intro y2 y3 y4 y5 I J rv sp rr w nw out e kr ke
    rw [fX12_layMooring_L15] at e; cases e
  | succ n ih =>
    intro y2 y3 y4 y5 I J rv sp rr w nw out e kr ke
    rw [fX12_layMooring_L15] at e
    refine mm_T.seg (f' := (17, [some (.ref 62), none, some (.int y2), some (.int y3), some (.int y4), some (.int y5)], [(.int y5)])) (h' := (107, I, J, mm_rf rv sp rr w nw)) 1 rfl ?_
    refine mm_T.br (c := y5 < 0) (a := ((109, [some (.ref 62), none, some (.int y2), some (.int y3), some (.int y4), some (.int y5)], []), (107, I, J, mm_rf rv sp rr w nw))) (b := ((20, [some (.ref 62), none, some (.int y2), some (.int y3), some (.int y4), some (.int y5)], []), (107, I, J, mm_rf rv sp rr w nw))) rfl (fun h892 => ?_) (fun h892 => ?_)
    · rw [if_pos h892] at e
      cases e
      refine mm_T.mask [false, false, false, false, true, false] ?_
      exact ke _ _ rfl
    · rw [if_neg h892] at e
      refine mm_T.seg (f' := (30, [some (.ref 62), none, some (.int y2), some (.int y3), some (.int y4), some (.int y5)], [(.int (y2 - y2 / 9 * 9)), (.int y5), (.ref 95)])) (h' := (107, I, J, mm_rf rv sp rr w nw)) 6 rfl ?_
      by_cases h893 : y5 < 0 ∨ 4 ≤ y5.toNatClampNeg
      · rw [if_pos h893] at e; cases e
      rw [if_neg h893] at e
      refine mm_T.guard (y := ((31, [some (.ref 62), none, some (.int y2), some (.int y3), some (.int y4), some (.int y5)], []), (107, (mm_up I 95 y5.toNatClampNeg (y2 - y2 / 9 * 9)), J, mm_rf rv sp rr w nw))) rfl h893 ?_
      refine mm_T.seg (f' := (42, [some (.ref 62), none, some (.int (y2 / 9)), some (.int y3), some (.int y4), some (.int y5)], [(.int y5), (.ref 95)])) (h' := (107, (mm_up I 95 y5.toNatClampNeg (y2 - y2 / 9 * 9)), J, mm_rf rv sp rr w nw)) 7 rfl ?_
      by_cases h894 : y5 < 0 ∨ 4 ≤ y5.toNatClampNeg
      · rw [if_pos h894] at e; cases e
      rw [if_neg h894] at e
      refine mm_T.guard (y := ((43, [some (.ref 62), none, some (.int (y2 / 9)), some (.int y3), some (.int y4), some (.int y5)], [(.int ((mm_up I 95 y5.toNatClampNeg (y2 - y2 / 9 * 9)) 95 y5.toNatClampNeg))]), (107, (mm_up I 95 y5.toNatClampNeg (y2 - y2 / 9 * 9)), J, mm_rf rv sp rr w nw))) rfl h894 ?_
      refine mm_T.seg (f' := (45, [some (.ref 62), none, some (.int (y2 / 9)), some (.int y3), some (.int y4), some (.int y5)], [(.int 8), (.int ((mm_up I 95 y5.toNatClampNeg (y2 - y2 / 9 * 9)) 95 y5.toNatClampNeg))])) (h' := (107, (mm_up I 95 y5.toNatClampNeg (y2 - y2 / 9 * 9)), J, mm_rf rv sp rr w nw)) 1 rfl ?_
      refine mm_T.br (c := ((mm_up I 95 y5.toNatClampNeg (y2 - y2 / 9 * 9)) 95 y5.toNatClampNeg) = 8) (a := ((48, [some (.ref 62), none, some (.int (y2 / 9)), some (.int y3), some (.int y4), some (.int y5)], []), (107, (mm_up I 95 y5.toNatClampNeg (y2 - y2 / 9 * 9)), J, mm_rf rv sp rr w nw))) (b := ((51, [some (.ref 62), none, some (.int (y2 / 9)), some (.int y3), some (.int y4), some (.int y5)], []), (107, (mm_up I 95 y5.toNatClampNeg (y2 - y2 / 9 * 9)), J, mm_rf rv sp rr w nw))) rfl (fun h895 => ?_) (fun h895 => ?_)
      · rw [if_pos h895] at e
        refine mm_T.seg (f' := (15, [some (.ref 62), none, some (.int (y2 / 9)), some (.int y3), some (.int y4), some (.int (y5 + (-1)))], [])) (h' := (107, (mm_up I 95 y5.toNatClampNeg (y2 - y2 / 9 * 9)), J, mm_rf rv sp rr w nw)) 3 rfl ?_
        refine mm_T.mask [true, false, true, true, true, true] ?_
        exact ih (y2 / 9) y3 y4 (y5 + (-1)) (mm_up I 95 y5.toNatClampNeg (y2 - y2 / 9 * 9)) J rv sp rr w nw out e kr ke
      · rw [if_neg h895] at e
        refine mm_T.seg (f' := (57, [some (.ref 62), none, some (.int (y2 / 9)), some (.int y3), some (.int y4), some (.int y5)], [(.int y5), (.ref 94)])) (h' := (107, (mm_up I 95 y5.toNatClampNeg (y2 - y2 / 9 * 9)), J, mm_rf rv sp rr w nw)) 3 rfl ?_
        by_cases h896 : y5 < 0 ∨ 4 ≤ y5.toNatClampNeg
        · rw [if_pos h896] at e; cases e
        rw [if_neg h896] at e
        refine mm_T.guard (y := ((58, [some (.ref 62), none, some (.int (y2 / 9)), some (.int y3), some (.int y4), some (.int y5)], [(.int (I 94 y5.toNatClampNeg))]), (107, (mm_up I 95 y5.toNatClampNeg (y2 - y2 / 9 * 9)), J, mm_rf rv sp rr w nw))) rfl h896 ?_
        refine mm_T.seg (f' := (64, [some (.ref 62), none, some (.int (y2 / 9)), some (.int y3), some (.int y4), some (.int y5)], [(.int y5), (.ref 95), (.int (I 94 y5.toNatClampNeg))])) (h' := (107, (mm_up I 95 y5.toNatClampNeg (y2 - y2 / 9 * 9)), J, mm_rf rv sp rr w nw)) 3 rfl ?_
        by_cases h897 : y5 < 0 ∨ 4 ≤ y5.toNatClampNeg
        · rw [if_pos h897] at e; cases e
        rw [if_neg h897] at e
        refine mm_T.guard (y := ((65, [some (.ref 62), none, some (.int (y2 / 9)), some (.int y3), some (.int y4), some (.int y5)], [(.int ((mm_up I 95 y5.toNatClampNeg (y2 - y2 / 9 * 9)) 95 y5.toNatClampNeg)), (.int (I 94 y5.toNatClampNeg))]), (107, (mm_up I 95 y5.toNatClampNeg (y2 - y2 / 9 * 9)), J, mm_rf rv sp rr w nw))) rfl h897 ?_
        refine mm_T.seg (f' := (68, [some (.ref 62), none, some (.int (y2 / 9)), some (.int y3), some (.int y4), some (.int y5)], [(.int (((I 94 y5.toNatClampNeg) >>> (((mm_up I 95 y5.toNatClampNeg (y2 - y2 / 9 * 9)) 95 y5.toNatClampNeg) &&& 31)) &&& 1))])) (h' := (107, (mm_up I 95 y5.toNatClampNeg (y2 - y2 / 9 * 9)), J, mm_rf rv sp rr w nw)) 3 rfl ?_
        refine mm_T.br (c := (((I 94 y5.toNatClampNeg) >>> (((mm_up I 95 y5.toNatClampNeg (y2 - y2 / 9 * 9)) 95 y5.toNatClampNeg) &&& 31)) &&& 1) = 0) (a := ((86, [some (.ref 62), none, some (.int (y2 / 9)), some (.int y3), some (.int y4), some (.int y5)], []), (107, (mm_up I 95 y5.toNatClampNeg (y2 - y2 / 9 * 9)), J, mm_rf rv sp rr w nw))) (b := ((71, [some (.ref 62), none, some (.int (y2 / 9)), some (.int y3), some (.int y4), some (.int y5)], []), (107, (mm_up I 95 y5.toNatClampNeg (y2 - y2 / 9 * 9)), J, mm_rf rv sp rr w nw))) rfl (fun h898 => ?_) (fun h898 => ?_)
        · rw [if_pos h898] at e
          refine mm_T.seg (f' := (87, [some (.ref 62), none, some (.int (y2 / 9)), some (.int y3), some (.int y4), some (.int y5)], [(.int (-1))])) (h' := (107, (mm_up I 95 y5.toNatClampNeg (y2 - y2 / 9 * 9)), J, mm_rf rv sp rr w nw)) 1 rfl ?_
          cases e
          exact mm_T.ret rfl (kr _ _ rfl)
        · rw [if_neg h898] at e
          refine mm_T.seg (f' := (78, [some (.ref 62), none, some (.int (y2 / 9)), some (.int y3), some (.int y4), some (.int y5)], [(.int y5), (.ref 95), (.int y3)])) (h' := (107, (mm_up I 95 y5.toNatClampNeg (y2 - y2 / 9 * 9)), J, mm_rf rv sp rr w nw)) 4 rfl ?_
          by_cases h899 : y5 < 0 ∨ 4 ≤ y5.toNatClampNeg
          · rw [if_pos h899] at e; cases e
          rw [if_neg h899] at e
          refine mm_T.guard (y := ((79, [some (.ref 62), none, some (.int (y2 / 9)), some (.int y3), some (.int y4), some (.int y5)], [(.int ((mm_up I 95 y5.toNatClampNeg (y2 - y2 / 9 * 9)) 95 y5.toNatClampNeg)), (.int y3)]), (107, (mm_up I 95 y5.toNatClampNeg (y2 - y2 / 9 * 9)), J, mm_rf rv sp rr w nw))) rfl h899 ?_
          refine mm_T.seg (f' := (83, [some (.ref 62), none, some (.int (y2 / 9)), some (.int y3), some (.int y4), some (.int y5)], [(.int 1), (.int ((y3 >>> (((mm_up I 95 y5.toNatClampNeg (y2 - y2 / 9 * 9)) 95 y5.toNatClampNeg) &&& 31)) &&& 1))])) (h' := (107, (mm_up I 95 y5.toNatClampNeg (y2 - y2 / 9 * 9)), J, mm_rf rv sp rr w nw)) 4 rfl ?_
          refine mm_T.br (c := ((y3 >>> (((mm_up I 95 y5.toNatClampNeg (y2 - y2 / 9 * 9)) 95 y5.toNatClampNeg) &&& 31)) &&& 1) = 1) (a := ((86, [some (.ref 62), none, some (.int (y2 / 9)), some (.int y3), some (.int y4), some (.int y5)], []), (107, (mm_up I 95 y5.toNatClampNeg (y2 - y2 / 9 * 9)), J, mm_rf rv sp rr w nw))) (b := ((88, [some (.ref 62), none, some (.int (y2 / 9)), some (.int y3), some (.int y4), some (.int y5)], []), (107, (mm_up I 95 y5.toNatClampNeg (y2 - y2 / 9 * 9)), J, mm_rf rv sp rr w nw))) rfl (fun h900 => ?_) (fun h900 => ?_)
          · rw [if_pos h900] at e
            refine mm_T.seg (f' := (87, [some (.ref 62), none, some (.int (y2 / 9)), some (.int y3), some (.int y4), some (.int y5)], [(.int (-1))])) (h' := (107, (mm_up I 95 y5.toNatClampNeg (y2 - y2 / 9 * 9)), J, mm_rf rv sp rr w nw)) 1 rfl ?_
            cases e
            exact mm_T.ret rfl (kr _ _ rfl)
          · rw [if_neg h900] at e
            refine mm_T.seg (f' := (96, [some (.ref 62), none, some (.int (y2 / 9)), some (.int y3), some (.int y4), some (.int y5)], [(.int y5), (.ref 95), (.int 1), (.int y3)])) (h' := (107, (mm_up I 95 y5.toNatClampNeg (y2 - y2 / 9 * 9)), J, mm_rf rv sp rr w nw)) 5 rfl ?_
            by_cases h901 : y5 < 0 ∨ 4 ≤ y5.toNatClampNeg
            · rw [if_pos h901] at e; cases e
            rw [if_neg h901] at e
            refine mm_T.guard (y := ((97, [some (.ref 62), none, some (.int (y2 / 9)), some (.int y3), some (.int y4), some (.int y5)], [(.int ((mm_up I 95 y5.toNatClampNeg (y2 - y2 / 9 * 9)) 95 y5.toNatClampNeg)), (.int 1), (.int y3)]), (107, (mm_up I 95 y5.toNatClampNeg (y2 - y2 / 9 * 9)), J, mm_rf rv sp rr w nw))) rfl h901 ?_
            refine mm_T.seg (f' := (15, [some (.ref 62), none, some (.int (y2 / 9)), some (.int (y3 ||| (1 <<< (((mm_up I 95 y5.toNatClampNeg (y2 - y2 / 9 * 9)) 95 y5.toNatClampNeg) &&& 31)))), some (.int (y4 + 1)), some (.int (y5 + (-1)))], [])) (h' := (107, (mm_up I 95 y5.toNatClampNeg (y2 - y2 / 9 * 9)), J, mm_rf rv sp rr w nw)) 6 rfl ?_
            refine mm_T.mask [true, false, true, true, true, true] ?_
            exact ih (y2 / 9) (y3 ||| (1 <<< (((mm_up I 95 y5.toNatClampNeg (y2 - y2 / 9 * 9)) 95 y5.toNatClampNeg) &&& 31))) (y4 + 1) (y5 + (-1)) (mm_up I 95 y5.toNatClampNeg (y2 - y2 / 9 * 9)) J rv sp rr w nw out e kr ke
set_option maxRecDepth 100000 in
set_option maxHeartbeats 4000000 in
theorem tX12_layMooring (d n : Nat) (x1 : Int32) (I : Nat → Nat → Int32) (J : Nat → Nat → Int64) (rv sp rr w nw : Nat) (out : Int32 × (Nat → Nat → Int32)) (e : fX12_layMooring n x1 I = some out) : mm_T none (d + 0) 301 (mm_ent 301 [(.ref 62), (.int x1)]) (107, I, J, mm_rf rv sp rr w nw) (fun v h => v = some (.int out.1) ∧ h = (107, out.2, J, mm_rf rv sp rr w nw)) := by
  unfold fX12_layMooring at e
  refine mm_T.seg (f' := (15, [some (.ref 62), some (.int x1), some (.int x1), some (.int 0), some (.int 0), some (.int ((I 62 48) - 1))], [])) (h' := (107, I, J, mm_rf rv sp rr w nw)) 11 rfl ?_
  refine mm_T.mask [true, false, true, true, true, true] ?_
  obtain ⟨o902, eo902, e⟩ := mm_bind e
  rcases o902 with ⟨r | y, s0⟩
  · cases e
    refine tlX12_layMooring_L15 d _ n x1 0 0 ((I 62 48) - 1) I J rv sp rr w nw (.inl r, s0) eo902 (fun z z0 hz => ?_) (fun z z0 hz => ?_)
    · cases hz; exact ⟨rfl, rfl⟩
    · cases hz
  · refine tlX12_layMooring_L15 d _ n x1 0 0 ((I 62 48) - 1) I J rv sp rr w nw (.inr y, s0) eo902 (fun z z0 hz => ?_) (fun z z0 hz => ?_)
    · cases hz
    · cases hz
      refine mm_T.seg (f' := (111, [none, none, none, none, some (.int y), none], [(.int y)])) (h' := (107, s0, J, mm_rf rv sp rr w nw)) 1 rfl ?_
      cases e
      exact mm_T.ret rfl ⟨rfl, rfl⟩
def fX12_betweenAll_L4 (n : Nat) (y1 : Int32) (y2 : Int32) (I : Nat → Nat → Int32) : Option (Int32) := match n with
  | 0 => none
  | n + 1 => (if y2 < (I 62 48) then (if y2 < 0 ∨ 4 ≤ y2.toNatClampNeg then none else (if (I 95 y2.toNatClampNeg) = 8 then fX12_betweenAll_L4 n (y1 + 0) (y2 + 1) I else (if y2 < 0 ∨ 4 ≤ y2.toNatClampNeg then none else (if y2 < 0 ∨ 28 ≤ y2.toNatClampNeg then none else fX12_betweenAll_L4 n (y1 + (fX12_plain ((I 95 y2.toNatClampNeg) - (I 84 y2.toNatClampNeg)))) (y2 + 1) I)))) else some y1)
def fX12_betweenAll (n : Nat) (I : Nat → Nat → Int32) : Option (Int32) := (fX12_betweenAll_L4 n 0 0 I).bind fun o908 => some o908
set_option maxRecDepth 100000 in
set_option maxHeartbeats 4000000 in
theorem tlX12_betweenAll_L4 (d : Nat) (Q : Option Value → mm_H → Prop) : ∀ (n : Nat) (y1 : Int32) (y2 : Int32) (I : Nat → Nat → Int32) (J : Nat → Nat → Int64) (rv sp rr w nw : Nat), ∀ (out : Int32), fX12_betweenAll_L4 n y1 y2 I = some out → mm_T none (d + 1) 302 (52, [none, some (.int out), none], []) (107, I, J, mm_rf rv sp rr w nw) Q → mm_T none (d + 1) 302 (4, [some (.ref 62), some (.int y1), some (.int y2)], []) (107, I, J, mm_rf rv sp rr w nw) Q := by
  intro n
  induction n with
  | zero =>
    intro y1 y2 I J rv sp rr w nw out e k
    rw [fX12_betweenAll_L4] at e; cases e
  | succ n ih =>
    intro y1 y2 I J rv sp rr w nw out e k
    rw [fX12_betweenAll_L4] at e
    refine mm_T.seg (f' := (9, [some (.ref 62), some (.int y1), some (.int y2)], [(.int (I 62 48)), (.int y2)])) (h' := (107, I, J, mm_rf rv sp rr w nw)) 3 rfl ?_
    refine mm_T.br (c := y2 < (I 62 48)) (a := ((12, [some (.ref 62), some (.int y1), some (.int y2)], []), (107, I, J, mm_rf rv sp rr w nw))) (b := ((52, [some (.ref 62), some (.int y1), some (.int y2)], []), (107, I, J, mm_rf rv sp rr w nw))) rfl (fun h903 => ?_) (fun h903 => ?_)
    · rw [if_pos h903] at e
      refine mm_T.seg (f' := (18, [some (.ref 62), some (.int y1), some (.int y2)], [(.int y2), (.ref 95), (.int y1)])) (h' := (107, I, J, mm_rf rv sp rr w nw)) 4 rfl ?_
      by_cases h904 : y2 < 0 ∨ 4 ≤ y2.toNatClampNeg
      · rw [if_pos h904] at e; cases e
      rw [if_neg h904] at e
      refine mm_T.guard (y := ((19, [some (.ref 62), some (.int y1), some (.int y2)], [(.int (I 95 y2.toNatClampNeg)), (.int y1)]), (107, I, J, mm_rf rv sp rr w nw))) rfl h904 ?_
      refine mm_T.seg (f' := (21, [some (.ref 62), some (.int y1), some (.int y2)], [(.int 8), (.int (I 95 y2.toNatClampNeg)), (.int y1)])) (h' := (107, I, J, mm_rf rv sp rr w nw)) 1 rfl ?_
      refine mm_T.br (c := (I 95 y2.toNatClampNeg) = 8) (a := ((24, [some (.ref 62), some (.int y1), some (.int y2)], [(.int y1)]), (107, I, J, mm_rf rv sp rr w nw))) (b := ((28, [some (.ref 62), some (.int y1), some (.int y2)], [(.int y1)]), (107, I, J, mm_rf rv sp rr w nw))) rfl (fun h905 => ?_) (fun h905 => ?_)
      · rw [if_pos h905] at e
        refine mm_T.seg (f' := (4, [some (.ref 62), some (.int (y1 + 0)), some (.int (y2 + 1))], [])) (h' := (107, I, J, mm_rf rv sp rr w nw)) 6 rfl ?_
        refine mm_T.mask [true, true, true] ?_
        exact ih (y1 + 0) (y2 + 1) I J rv sp rr w nw out e k
      · rw [if_neg h905] at e
        refine mm_T.seg (f' := (33, [some (.ref 62), some (.int y1), some (.int y2)], [(.int y2), (.ref 95), (.int y1)])) (h' := (107, I, J, mm_rf rv sp rr w nw)) 3 rfl ?_
        by_cases h906 : y2 < 0 ∨ 4 ≤ y2.toNatClampNeg
        · rw [if_pos h906] at e; cases e
        rw [if_neg h906] at e
        refine mm_T.guard (y := ((34, [some (.ref 62), some (.int y1), some (.int y2)], [(.int (I 95 y2.toNatClampNeg)), (.int y1)]), (107, I, J, mm_rf rv sp rr w nw))) rfl h906 ?_
        refine mm_T.seg (f' := (39, [some (.ref 62), some (.int y1), some (.int y2)], [(.int y2), (.ref 84), (.int (I 95 y2.toNatClampNeg)), (.int y1)])) (h' := (107, I, J, mm_rf rv sp rr w nw)) 3 rfl ?_
        by_cases h907 : y2 < 0 ∨ 28 ≤ y2.toNatClampNeg
        · rw [if_pos h907] at e; cases e
        rw [if_neg h907] at e
        refine mm_T.guard (y := ((40, [some (.ref 62), some (.int y1), some (.int y2)], [(.int (I 84 y2.toNatClampNeg)), (.int (I 95 y2.toNatClampNeg)), (.int y1)]), (107, I, J, mm_rf rv sp rr w nw))) rfl h907 ?_
        refine mm_T.seg (f' := (41, [some (.ref 62), some (.int y1), some (.int y2)], [(.int ((I 95 y2.toNatClampNeg) - (I 84 y2.toNatClampNeg))), (.int y1)])) (h' := (107, I, J, mm_rf rv sp rr w nw)) 1 rfl ?_
        refine mm_T.call (t := 239) (as := [(.int ((I 95 y2.toNatClampNeg) - (I 84 y2.toNatClampNeg)))]) (f' := (44, [some (.ref 62), some (.int y1), some (.int y2)], [(.int y1)])) rfl (tX12_plain (d + 0) ((I 95 y2.toNatClampNeg) - (I 84 y2.toNatClampNeg)) I J rv sp rr w nw _ rfl) (fun v h hq => ?_)
        obtain ⟨rfl, rfl⟩ := hq
        refine mm_T.seg (f' := (4, [some (.ref 62), some (.int (y1 + (fX12_plain ((I 95 y2.toNatClampNeg) - (I 84 y2.toNatClampNeg))))), some (.int (y2 + 1))], [])) (h' := (107, I, J, mm_rf rv sp rr w nw)) 4 rfl ?_
        refine mm_T.mask [true, true, true] ?_
        exact ih (y1 + (fX12_plain ((I 95 y2.toNatClampNeg) - (I 84 y2.toNatClampNeg)))) (y2 + 1) I J rv sp rr w nw out e k
    · rw [if_neg h903] at e
      cases e
      refine mm_T.mask [false, true, false] ?_
      exact k
set_option maxRecDepth 100000 in
set_option maxHeartbeats 4000000 in
theorem tX12_betweenAll (d n : Nat) (I : Nat → Nat → Int32) (J : Nat → Nat → Int64) (rv sp rr w nw : Nat) (out : Int32) (e : fX12_betweenAll n I = some out) : mm_T none (d + 1) 302 (mm_ent 302 [(.ref 62)]) (107, I, J, mm_rf rv sp rr w nw) (fun v h => v = some (.int out) ∧ h = (107, I, J, mm_rf rv sp rr w nw)) := by
  unfold fX12_betweenAll at e
  refine mm_T.seg (f' := (4, [some (.ref 62), some (.int 0), some (.int 0)], [])) (h' := (107, I, J, mm_rf rv sp rr w nw)) 4 rfl ?_
  refine mm_T.mask [true, true, true] ?_
  obtain ⟨o908, eo908, e⟩ := mm_bind e
  refine tlX12_betweenAll_L4 d _ n 0 0 I J rv sp rr w nw o908 eo908 ?_
  refine mm_T.seg (f' := (53, [none, some (.int o908), none], [(.int o908)])) (h' := (107, I, J, mm_rf rv sp rr w nw)) 1 rfl ?_
  cases e
  exact mm_T.ret rfl ⟨rfl, rfl⟩
def fX12_mooring_L13 (n : Nat) (y1 : Int32) (y2 : Int32) (I : Nat → Nat → Int32) : Option ((Nat → Nat → Int32)) := match n with
  | 0 => none
  | n + 1 => (if y2 < (I 62 48) then (if (4 + y2) < 0 ∨ 28 ≤ (4 + y2).toNatClampNeg then none else (if (I 84 (4 + y2).toNatClampNeg) = 0 then (fX12_landingsOf n y2 I).bind fun o913 => (if y2 < 0 ∨ 4 ≤ y2.toNatClampNeg then none else fX12_mooring_L13 n y1 (y2 + 1) (mm_up o913.2 94 y2.toNatClampNeg o913.1)) else (if y2 < 0 ∨ 4 ≤ y2.toNatClampNeg then none else fX12_mooring_L13 n y1 (y2 + 1) (mm_up I 94 y2.toNatClampNeg 0)))) else some I)
def fX12_mooring_L121 (n : Nat) (y1 : Int32) (y2 : Int32) (y3 : Int32) (y4 : Int32) (y6 : Int32) (I : Nat → Nat → Int32) : Option ((Nat → Nat → Int32)) := match n with
  | 0 => none
  | n + 1 => (if y6 < (I 62 48) then (if y6 < 0 ∨ 4 ≤ y6.toNatClampNeg then none else (if (I 95 y6.toNatClampNeg) = 8 then (if y6 < 0 ∨ 7 ≤ y6.toNatClampNeg then none else fX12_mooring_L121 n y1 y2 y3 y4 (y6 + 1) (mm_up I 88 y6.toNatClampNeg (-1))) else (if y6 < 0 ∨ 4 ≤ y6.toNatClampNeg then none else (if y6 < 0 ∨ 7 ≤ y6.toNatClampNeg then none else fX12_mooring_L121 n y1 y2 y3 y4 (y6 + 1) (mm_up I 88 y6.toNatClampNeg (I 95 y6.toNatClampNeg)))))) else some I)
def fX12_mooring_L60 (n : Nat) (y1 : Int32) (y2 : Int32) (y3 : Int32) (y4 : Int32) (I : Nat → Nat → Int32) : Option (Int32 × Int32 × (Nat → Nat → Int32)) := match n with
  | 0 => none
  | n + 1 => (fX12_power n 9 (I 62 48)).bind fun o917 => (if y4 < o917 then (fX12_layMooring n y4 I).bind fun o919 => (if o919.1 < 0 then fX12_mooring_L60 n y1 y2 y3 (y4 + 1) o919.2 else (if o919.1 < y2 then fX12_mooring_L60 n y1 y2 y3 (y4 + 1) o919.2 else (if o919.1 = y2 then (fX12_betweenAll n o919.2).bind fun o923 => (if o923 < y3 then (fX12_betweenAll n o919.2).bind fun o925 => (fX12_mooring_L121 n y1 o919.1 o925 y4 0 o919.2).bind fun o932 => fX12_mooring_L60 n y1 o919.1 o925 (y4 + 1) (mm_up o932 62 61 (o932 62 48)) else fX12_mooring_L60 n y1 y2 y3 (y4 + 1) o919.2) else (fX12_betweenAll n o919.2).bind fun o933 => (fX12_mooring_L121 n y1 o919.1 o933 y4 0 o919.2).bind fun o934 => fX12_mooring_L60 n y1 o919.1 o933 (y4 + 1) (mm_up o934 62 61 (o934 62 48))))) else some (y2, y3, I))
def fX12_mooring (n : Nat) (x1 : Int32) (I : Nat → Nat → Int32) : Option (Int32 × (Nat → Nat → Int32)) := (if (fX12_isIn x1 0 1) = 0 then some ((-1), I) else (fX12_mooring_L13 n x1 0 I).bind fun o916 => (fX12_mooring_L60 n x1 (-1) 0 0 o916).bind fun o935 => (if x1 = 0 then some (o935.1, o935.2.2) else some (o935.2.1, o935.2.2)))
set_option maxRecDepth 100000 in
set_option maxHeartbeats 4000000 in
theorem tlX12_mooring_L13 (d : Nat) (Q : Option Value → mm_H → Prop) : ∀ (n : Nat) (y1 : Int32) (y2 : Int32) (I : Nat → Nat → Int32) (J : Nat → Nat → Int64) (rv sp rr w nw : Nat), ∀ (out : (Nat → Nat → Int32)), fX12_mooring_L13 n y1 y2 I = some out → mm_T none (d + 6) 303 (53, [some (.ref 62), some (.int y1), none, none, none, none, none], []) (107, out, J, mm_rf rv sp rr w nw) Q → mm_T none (d + 6) 303 (13, [some (.ref 62), some (.int y1), some (.int y2), none, none, none, none], []) (107, I, J, mm_rf rv sp rr w nw) Q := by
  intro n
  induction n with
  | zero =>
    intro y1 y2 I J rv sp rr w nw out e k
    rw [fX12_mooring_L13] at e; cases e
  | succ n ih =>
    intro y1 y2 I J rv sp rr w nw out e k
    rw [fX12_mooring_L13] at e
    refine mm_T.seg (f' := (18, [some (.ref 62), some (.int y1), some (.int y2), none, none, none, none], [(.int (I 62 48)), (.int y2)])) (h' := (107, I, J, mm_rf rv sp rr w nw)) 3 rfl ?_
    refine mm_T.br (c := y2 < (I 62 48)) (a := ((21, [some (.ref 62), some (.int y1), some (.int y2), none, none, none, none], []), (107, I, J, mm_rf rv sp rr w nw))) (b := ((53, [some (.ref 62), some (.int y1), some (.int y2), none, none, none, none], []), (107, I, J, mm_rf rv sp rr w nw))) rfl (fun h910 => ?_) (fun h910 => ?_)
    · rw [if_pos h910] at e
      refine mm_T.seg (f' := (33, [some (.ref 62), some (.int y1), some (.int y2), none, none, none, none], [(.int (4 + y2)), (.ref 84), (.int y2), (.ref 94)])) (h' := (107, I, J, mm_rf rv sp rr w nw)) 8 rfl ?_
      by_cases h911 : (4 + y2) < 0 ∨ 28 ≤ (4 + y2).toNatClampNeg
      · rw [if_pos h911] at e; cases e
      rw [if_neg h911] at e
      refine mm_T.guard (y := ((34, [some (.ref 62), some (.int y1), some (.int y2), none, none, none, none], [(.int (I 84 (4 + y2).toNatClampNeg)), (.int y2), (.ref 94)]), (107, I, J, mm_rf rv sp rr w nw))) rfl h911 ?_
      refine mm_T.br (c := (I 84 (4 + y2).toNatClampNeg) = 0) (a := ((37, [some (.ref 62), some (.int y1), some (.int y2), none, none, none, none], [(.int y2), (.ref 94)]), (107, I, J, mm_rf rv sp rr w nw))) (b := ((45, [some (.ref 62), some (.int y1), some (.int y2), none, none, none, none], [(.int y2), (.ref 94)]), (107, I, J, mm_rf rv sp rr w nw))) rfl (fun h912 => ?_) (fun h912 => ?_)
      · rw [if_pos h912] at e
        refine mm_T.seg (f' := (39, [some (.ref 62), some (.int y1), some (.int y2), none, none, none, none], [(.int y2), (.ref 62), (.int y2), (.ref 94)])) (h' := (107, I, J, mm_rf rv sp rr w nw)) 2 rfl ?_
        obtain ⟨o913, eo913, e⟩ := mm_bind e
        refine mm_T.call (t := 281) (as := [(.ref 62), (.int y2)]) (f' := (42, [some (.ref 62), some (.int y1), some (.int y2), none, none, none, none], [(.int y2), (.ref 94)])) rfl (tX12_landingsOf (d + 0) n y2 I J rv sp rr w nw o913 eo913) (fun v h hq => ?_)
        obtain ⟨rfl, rfl⟩ := hq
        refine mm_T.seg (f' := (46, [some (.ref 62), some (.int y1), some (.int y2), none, none, none, none], [(.int o913.1), (.int y2), (.ref 94)])) (h' := (107, o913.2, J, mm_rf rv sp rr w nw)) 1 rfl ?_
        by_cases h914 : y2 < 0 ∨ 4 ≤ y2.toNatClampNeg
        · rw [if_pos h914] at e; cases e
        rw [if_neg h914] at e
        refine mm_T.guard (y := ((47, [some (.ref 62), some (.int y1), some (.int y2), none, none, none, none], []), (107, (mm_up o913.2 94 y2.toNatClampNeg o913.1), J, mm_rf rv sp rr w nw))) rfl h914 ?_
        refine mm_T.seg (f' := (13, [some (.ref 62), some (.int y1), some (.int (y2 + 1)), none, none, none, none], [])) (h' := (107, (mm_up o913.2 94 y2.toNatClampNeg o913.1), J, mm_rf rv sp rr w nw)) 2 rfl ?_
        refine mm_T.mask [true, true, true, false, false, false, false] ?_
        exact ih y1 (y2 + 1) (mm_up o913.2 94 y2.toNatClampNeg o913.1) J rv sp rr w nw out e k
      · rw [if_neg h912] at e
        refine mm_T.seg (f' := (46, [some (.ref 62), some (.int y1), some (.int y2), none, none, none, none], [(.int 0), (.int y2), (.ref 94)])) (h' := (107, I, J, mm_rf rv sp rr w nw)) 1 rfl ?_
        by_cases h915 : y2 < 0 ∨ 4 ≤ y2.toNatClampNeg
        · rw [if_pos h915] at e; cases e
        rw [if_neg h915] at e
        refine mm_T.guard (y := ((47, [some (.ref 62), some (.int y1), some (.int y2), none, none, none, none], []), (107, (mm_up I 94 y2.toNatClampNeg 0), J, mm_rf rv sp rr w nw))) rfl h915 ?_
        refine mm_T.seg (f' := (13, [some (.ref 62), some (.int y1), some (.int (y2 + 1)), none, none, none, none], [])) (h' := (107, (mm_up I 94 y2.toNatClampNeg 0), J, mm_rf rv sp rr w nw)) 2 rfl ?_
        refine mm_T.mask [true, true, true, false, false, false, false] ?_
        exact ih y1 (y2 + 1) (mm_up I 94 y2.toNatClampNeg 0) J rv sp rr w nw out e k
    · rw [if_neg h910] at e
      cases e
      refine mm_T.mask [true, true, false, false, false, false, false] ?_
      exact k
set_option maxRecDepth 100000 in
set_option maxHeartbeats 4000000 in
theorem tlX12_mooring_L121 (d : Nat) (Q : Option Value → mm_H → Prop) : ∀ (n : Nat) (y1 : Int32) (y2 : Int32) (y3 : Int32) (y4 : Int32) (y6 : Int32) (I : Nat → Nat → Int32) (J : Nat → Nat → Int64) (rv sp rr w nw : Nat), ∀ (out : (Nat → Nat → Int32)), fX12_mooring_L121 n y1 y2 y3 y4 y6 I = some out → mm_T none (d + 6) 303 (166, [some (.ref 62), some (.int y1), some (.int y2), some (.int y3), some (.int y4), none, none], []) (107, out, J, mm_rf rv sp rr w nw) Q → mm_T none (d + 6) 303 (121, [some (.ref 62), some (.int y1), some (.int y2), some (.int y3), some (.int y4), none, some (.int y6)], []) (107, I, J, mm_rf rv sp rr w nw) Q := by
  intro n
  induction n with
  | zero =>
    intro y1 y2 y3 y4 y6 I J rv sp rr w nw out e k
    rw [fX12_mooring_L121] at e; cases e
  | succ n ih =>
    intro y1 y2 y3 y4 y6 I J rv sp rr w nw out e k
    rw [fX12_mooring_L121] at e
    refine mm_T.seg (f' := (127, [some (.ref 62), some (.int y1), some (.int y2), some (.int y3), some (.int y4), none, some (.int y6)], [(.int (I 62 48)), (.int y6)])) (h' := (107, I, J, mm_rf rv sp rr w nw)) 3 rfl ?_
    refine mm_T.br (c := y6 < (I 62 48)) (a := ((130, [some (.ref 62), some (.int y1), some (.int y2), some (.int y3), some (.int y4), none, some (.int y6)], []), (107, I, J, mm_rf rv sp rr w nw))) (b := ((166, [some (.ref 62), some (.int y1), some (.int y2), some (.int y3), some (.int y4), none, some (.int y6)], []), (107, I, J, mm_rf rv sp rr w nw))) rfl (fun h926 => ?_) (fun h926 => ?_)
    · rw [if_pos h926] at e
      refine mm_T.seg (f' := (142, [some (.ref 62), some (.int y1), some (.int y2), some (.int y3), some (.int y4), none, some (.int y6)], [(.int y6), (.ref 95), (.int y6), (.ref 88)])) (h' := (107, I, J, mm_rf rv sp rr w nw)) 6 rfl ?_
      by_cases h927 : y6 < 0 ∨ 4 ≤ y6.toNatClampNeg
      · rw [if_pos h927] at e; cases e
      rw [if_neg h927] at e
      refine mm_T.guard (y := ((143, [some (.ref 62), some (.int y1), some (.int y2), some (.int y3), some (.int y4), none, some (.int y6)], [(.int (I 95 y6.toNatClampNeg)), (.int y6), (.ref 88)]), (107, I, J, mm_rf rv sp rr w nw))) rfl h927 ?_
      refine mm_T.seg (f' := (145, [some (.ref 62), some (.int y1), some (.int y2), some (.int y3), some (.int y4), none, some (.int y6)], [(.int 8), (.int (I 95 y6.toNatClampNeg)), (.int y6), (.ref 88)])) (h' := (107, I, J, mm_rf rv sp rr w nw)) 1 rfl ?_
      refine mm_T.br (c := (I 95 y6.toNatClampNeg) = 8) (a := ((148, [some (.ref 62), some (.int y1), some (.int y2), some (.int y3), some (.int y4), none, some (.int y6)], [(.int y6), (.ref 88)]), (107, I, J, mm_rf rv sp rr w nw))) (b := ((152, [some (.ref 62), some (.int y1), some (.int y2), some (.int y3), some (.int y4), none, some (.int y6)], [(.int y6), (.ref 88)]), (107, I, J, mm_rf rv sp rr w nw))) rfl (fun h928 => ?_) (fun h928 => ?_)
      · rw [if_pos h928] at e
        refine mm_T.seg (f' := (159, [some (.ref 62), some (.int y1), some (.int y2), some (.int y3), some (.int y4), none, some (.int y6)], [(.int (-1)), (.int y6), (.ref 88)])) (h' := (107, I, J, mm_rf rv sp rr w nw)) 2 rfl ?_
        by_cases h929 : y6 < 0 ∨ 7 ≤ y6.toNatClampNeg
        · rw [if_pos h929] at e; cases e
        rw [if_neg h929] at e
        refine mm_T.guard (y := ((160, [some (.ref 62), some (.int y1), some (.int y2), some (.int y3), some (.int y4), none, some (.int y6)], []), (107, (mm_up I 88 y6.toNatClampNeg (-1)), J, mm_rf rv sp rr w nw))) rfl h929 ?_
        refine mm_T.seg (f' := (121, [some (.ref 62), some (.int y1), some (.int y2), some (.int y3), some (.int y4), none, some (.int (y6 + 1))], [])) (h' := (107, (mm_up I 88 y6.toNatClampNeg (-1)), J, mm_rf rv sp rr w nw)) 2 rfl ?_
        refine mm_T.mask [true, true, true, true, true, false, true] ?_
        exact ih y1 y2 y3 y4 (y6 + 1) (mm_up I 88 y6.toNatClampNeg (-1)) J rv sp rr w nw out e k
      · rw [if_neg h928] at e
        refine mm_T.seg (f' := (158, [some (.ref 62), some (.int y1), some (.int y2), some (.int y3), some (.int y4), none, some (.int y6)], [(.int y6), (.ref 95), (.int y6), (.ref 88)])) (h' := (107, I, J, mm_rf rv sp rr w nw)) 3 rfl ?_
        by_cases h930 : y6 < 0 ∨ 4 ≤ y6.toNatClampNeg
        · rw [if_pos h930] at e; cases e
        rw [if_neg h930] at e
        refine mm_T.guard (y := ((159, [some (.ref 62), some (.int y1), some (.int y2), some (.int y3), some (.int y4), none, some (.int y6)], [(.int (I 95 y6.toNatClampNeg)), (.int y6), (.ref 88)]), (107, I, J, mm_rf rv sp rr w nw))) rfl h930 ?_
        by_cases h931 : y6 < 0 ∨ 7 ≤ y6.toNatClampNeg
        · rw [if_pos h931] at e; cases e
        rw [if_neg h931] at e
        refine mm_T.guard (y := ((160, [some (.ref 62), some (.int y1), some (.int y2), some (.int y3), some (.int y4), none, some (.int y6)], []), (107, (mm_up I 88 y6.toNatClampNeg (I 95 y6.toNatClampNeg)), J, mm_rf rv sp rr w nw))) rfl h931 ?_
        refine mm_T.seg (f' := (121, [some (.ref 62), some (.int y1), some (.int y2), some (.int y3), some (.int y4), none, some (.int (y6 + 1))], [])) (h' := (107, (mm_up I 88 y6.toNatClampNeg (I 95 y6.toNatClampNeg)), J, mm_rf rv sp rr w nw)) 2 rfl ?_
        refine mm_T.mask [true, true, true, true, true, false, true] ?_
        exact ih y1 y2 y3 y4 (y6 + 1) (mm_up I 88 y6.toNatClampNeg (I 95 y6.toNatClampNeg)) J rv sp rr w nw out e k
    · rw [if_neg h926] at e
      cases e
      refine mm_T.mask [true, true, true, true, true, false, false] ?_
      exact k
set_option maxRecDepth 100000 in
set_option maxHeartbeats 4000000 in
theorem tlX12_mooring_L60 (d : Nat) (Q : Option Value → mm_H → Prop) : ∀ (n : Nat) (y1 : Int32) (y2 : Int32) (y3 : Int32) (y4 : Int32) (I : Nat → Nat → Int32) (J : Nat → Nat → Int64) (rv sp rr w nw : Nat), ∀ (out : Int32 × Int32 × (Nat → Nat → Int32)), fX12_mooring_L60 n y1 y2 y3 y4 I = some out → mm_T none (d + 6) 303 (180, [none, some (.int y1), some (.int out.1), some (.int out.2.1), none, none, none], []) (107, out.2.2, J, mm_rf rv sp rr w nw) Q → mm_T none (d + 6) 303 (60, [some (.ref 62), some (.int y1), some (.int y2), some (.int y3), some (.int y4), none, none], []) (107, I, J, mm_rf rv sp rr w nw) Q := by
  intro n
  induction n with
  | zero =>
    intro y1 y2 y3 y4 I J rv sp rr w nw out e k
    rw [fX12_mooring_L60] at e; cases e
  | succ n ih =>
    intro y1 y2 y3 y4 I J rv sp rr w nw out e k
    rw [fX12_mooring_L60] at e
    refine mm_T.seg (f' := (68, [some (.ref 62), some (.int y1), some (.int y2), some (.int y3), some (.int y4), none, none], [(.int (I 62 48)), (.int 9), (.int y4)])) (h' := (107, I, J, mm_rf rv sp rr w nw)) 4 rfl ?_
    obtain ⟨o917, eo917, e⟩ := mm_bind e
    refine mm_T.call (t := 277) (as := [(.int 9), (.int (I 62 48))]) (f' := (71, [some (.ref 62), some (.int y1), some (.int y2), some (.int y3), some (.int y4), none, none], [(.int y4)])) rfl (tX12_power (d + 5) n 9 (I 62 48) I J rv sp rr w nw o917 eo917) (fun v h hq => ?_)
    obtain ⟨rfl, rfl⟩ := hq
    refine mm_T.br (c := y4 < o917) (a := ((74, [some (.ref 62), some (.int y1), some (.int y2), some (.int y3), some (.int y4), none, none], []), (107, I, J, mm_rf rv sp rr w nw))) (b := ((180, [some (.ref 62), some (.int y1), some (.int y2), some (.int y3), some (.int y4), none, none], []), (107, I, J, mm_rf rv sp rr w nw))) rfl (fun h918 => ?_) (fun h918 => ?_)
    · rw [if_pos h918] at e
      refine mm_T.seg (f' := (77, [some (.ref 62), some (.int y1), some (.int y2), some (.int y3), some (.int y4), none, none], [(.int y4), (.ref 62)])) (h' := (107, I, J, mm_rf rv sp rr w nw)) 2 rfl ?_
      obtain ⟨o919, eo919, e⟩ := mm_bind e
      refine mm_T.call (t := 301) (as := [(.ref 62), (.int y4)]) (f' := (80, [some (.ref 62), some (.int y1), some (.int y2), some (.int y3), some (.int y4), none, none], [])) rfl (tX12_layMooring (d + 5) n y4 I J rv sp rr w nw o919 eo919) (fun v h hq => ?_)
      obtain ⟨rfl, rfl⟩ := hq
      refine mm_T.seg (f' := (84, [some (.ref 62), some (.int y1), some (.int y2), some (.int y3), some (.int y4), some (.int o919.1), none], [(.int o919.1)])) (h' := (107, o919.2, J, mm_rf rv sp rr w nw)) 2 rfl ?_
      refine mm_T.br (c := o919.1 < 0) (a := ((174, [some (.ref 62), some (.int y1), some (.int y2), some (.int y3), some (.int y4), some (.int o919.1), none], []), (107, o919.2, J, mm_rf rv sp rr w nw))) (b := ((87, [some (.ref 62), some (.int y1), some (.int y2), some (.int y3), some (.int y4), some (.int o919.1), none], []), (107, o919.2, J, mm_rf rv sp rr w nw))) rfl (fun h920 => ?_) (fun h920 => ?_)
      · rw [if_pos h920] at e
        refine mm_T.seg (f' := (60, [some (.ref 62), some (.int y1), some (.int y2), some (.int y3), some (.int (y4 + 1)), some (.int o919.1), none], [])) (h' := (107, o919.2, J, mm_rf rv sp rr w nw)) 2 rfl ?_
        refine mm_T.mask [true, true, true, true, true, false, false] ?_
        exact ih y1 y2 y3 (y4 + 1) o919.2 J rv sp rr w nw out e k
      · rw [if_neg h920] at e
        refine mm_T.seg (f' := (90, [some (.ref 62), some (.int y1), some (.int y2), some (.int y3), some (.int y4), some (.int o919.1), none], [(.int y2), (.int o919.1)])) (h' := (107, o919.2, J, mm_rf rv sp rr w nw)) 2 rfl ?_
        refine mm_T.br (c := o919.1 < y2) (a := ((174, [some (.ref 62), some (.int y1), some (.int y2), some (.int y3), some (.int y4), some (.int o919.1), none], []), (107, o919.2, J, mm_rf rv sp rr w nw))) (b := ((93, [some (.ref 62), some (.int y1), some (.int y2), some (.int y3), some (.int y4), some (.int o919.1), none], []), (107, o919.2, J, mm_rf rv sp rr w nw))) rfl (fun h921 => ?_) (fun h921 => ?_)
        · rw [if_pos h921] at e
          refine mm_T.seg (f' := (60, [some (.ref 62), some (.int y1), some (.int y2), some (.int y3), some (.int (y4 + 1)), some (.int o919.1), none], [])) (h' := (107, o919.2, J, mm_rf rv sp rr w nw)) 2 rfl ?_
          refine mm_T.mask [true, true, true, true, true, false, false] ?_
          exact ih y1 y2 y3 (y4 + 1) o919.2 J rv sp rr w nw out e k
        · rw [if_neg h921] at e
          refine mm_T.seg (f' := (96, [some (.ref 62), some (.int y1), some (.int y2), some (.int y3), some (.int y4), some (.int o919.1), none], [(.int y2), (.int o919.1)])) (h' := (107, o919.2, J, mm_rf rv sp rr w nw)) 2 rfl ?_
          refine mm_T.br (c := o919.1 = y2) (a := ((99, [some (.ref 62), some (.int y1), some (.int y2), some (.int y3), some (.int y4), some (.int o919.1), none], []), (107, o919.2, J, mm_rf rv sp rr w nw))) (b := ((110, [some (.ref 62), some (.int y1), some (.int y2), some (.int y3), some (.int y4), some (.int o919.1), none], []), (107, o919.2, J, mm_rf rv sp rr w nw))) rfl (fun h922 => ?_) (fun h922 => ?_)
          · rw [if_pos h922] at e
            refine mm_T.seg (f' := (100, [some (.ref 62), some (.int y1), some (.int y2), some (.int y3), some (.int y4), some (.int o919.1), none], [(.ref 62)])) (h' := (107, o919.2, J, mm_rf rv sp rr w nw)) 1 rfl ?_
            obtain ⟨o923, eo923, e⟩ := mm_bind e
            refine mm_T.call (t := 302) (as := [(.ref 62)]) (f' := (103, [some (.ref 62), some (.int y1), some (.int y2), some (.int y3), some (.int y4), some (.int o919.1), none], [])) rfl (tX12_betweenAll (d + 4) n o919.2 J rv sp rr w nw o923 eo923) (fun v h hq => ?_)
            obtain ⟨rfl, rfl⟩ := hq
            refine mm_T.seg (f' := (104, [some (.ref 62), some (.int y1), some (.int y2), some (.int y3), some (.int y4), some (.int o919.1), none], [(.int y3), (.int o923)])) (h' := (107, o919.2, J, mm_rf rv sp rr w nw)) 1 rfl ?_
            refine mm_T.br (c := o923 < y3) (a := ((110, [some (.ref 62), some (.int y1), some (.int y2), some (.int y3), some (.int y4), some (.int o919.1), none], []), (107, o919.2, J, mm_rf rv sp rr w nw))) (b := ((107, [some (.ref 62), some (.int y1), some (.int y2), some (.int y3), some (.int y4), some (.int o919.1), none], []), (107, o919.2, J, mm_rf rv sp rr w nw))) rfl (fun h924 => ?_) (fun h924 => ?_)
            · rw [if_pos h924] at e
              refine mm_T.seg (f' := (114, [some (.ref 62), some (.int y1), some (.int o919.1), some (.int y3), some (.int y4), some (.int o919.1), none], [(.ref 62)])) (h' := (107, o919.2, J, mm_rf rv sp rr w nw)) 3 rfl ?_
              obtain ⟨o925, eo925, e⟩ := mm_bind e
              refine mm_T.call (t := 302) (as := [(.ref 62)]) (f' := (117, [some (.ref 62), some (.int y1), some (.int o919.1), some (.int y3), some (.int y4), some (.int o919.1), none], [])) rfl (tX12_betweenAll (d + 4) n o919.2 J rv sp rr w nw o925 eo925) (fun v h hq => ?_)
              obtain ⟨rfl, rfl⟩ := hq
              refine mm_T.seg (f' := (121, [some (.ref 62), some (.int y1), some (.int o919.1), some (.int o925), some (.int y4), some (.int o919.1), some (.int 0)], [])) (h' := (107, o919.2, J, mm_rf rv sp rr w nw)) 3 rfl ?_
              refine mm_T.mask [true, true, true, true, true, false, true] ?_
              obtain ⟨o932, eo932, e⟩ := mm_bind e
              refine tlX12_mooring_L121 d _ n y1 o919.1 o925 y4 0 o919.2 J rv sp rr w nw o932 eo932 ?_
              refine mm_T.seg (f' := (60, [some (.ref 62), some (.int y1), some (.int o919.1), some (.int o925), some (.int (y4 + 1)), none, none], [])) (h' := (107, (mm_up o932 62 61 (o932 62 48)), J, mm_rf rv sp rr w nw)) 6 rfl ?_
              refine mm_T.mask [true, true, true, true, true, false, false] ?_
              exact ih y1 o919.1 o925 (y4 + 1) (mm_up o932 62 61 (o932 62 48)) J rv sp rr w nw out e k
            · rw [if_neg h924] at e
              refine mm_T.seg (f' := (60, [some (.ref 62), some (.int y1), some (.int y2), some (.int y3), some (.int (y4 + 1)), some (.int o919.1), none], [])) (h' := (107, o919.2, J, mm_rf rv sp rr w nw)) 3 rfl ?_
              refine mm_T.mask [true, true, true, true, true, false, false] ?_
              exact ih y1 y2 y3 (y4 + 1) o919.2 J rv sp rr w nw out e k
          · rw [if_neg h922] at e
            refine mm_T.seg (f' := (114, [some (.ref 62), some (.int y1), some (.int o919.1), some (.int y3), some (.int y4), some (.int o919.1), none], [(.ref 62)])) (h' := (107, o919.2, J, mm_rf rv sp rr w nw)) 3 rfl ?_
            obtain ⟨o933, eo933, e⟩ := mm_bind e
            refine mm_T.call (t := 302) (as := [(.ref 62)]) (f' := (117, [some (.ref 62), some (.int y1), some (.int o919.1), some (.int y3), some (.int y4), some (.int o919.1), none], [])) rfl (tX12_betweenAll (d + 4) n o919.2 J rv sp rr w nw o933 eo933) (fun v h hq => ?_)
            obtain ⟨rfl, rfl⟩ := hq
            refine mm_T.seg (f' := (121, [some (.ref 62), some (.int y1), some (.int o919.1), some (.int o933), some (.int y4), some (.int o919.1), some (.int 0)], [])) (h' := (107, o919.2, J, mm_rf rv sp rr w nw)) 3 rfl ?_
            refine mm_T.mask [true, true, true, true, true, false, true] ?_
            obtain ⟨o934, eo934, e⟩ := mm_bind e
            refine tlX12_mooring_L121 d _ n y1 o919.1 o933 y4 0 o919.2 J rv sp rr w nw o934 eo934 ?_
            refine mm_T.seg (f' := (60, [some (.ref 62), some (.int y1), some (.int o919.1), some (.int o933), some (.int (y4 + 1)), none, none], [])) (h' := (107, (mm_up o934 62 61 (o934 62 48)), J, mm_rf rv sp rr w nw)) 6 rfl ?_
            refine mm_T.mask [true, true, true, true, true, false, false] ?_
            exact ih y1 o919.1 o933 (y4 + 1) (mm_up o934 62 61 (o934 62 48)) J rv sp rr w nw out e k
    · rw [if_neg h918] at e
      cases e
      refine mm_T.mask [false, true, true, true, false, false, false] ?_
      exact k
set_option maxRecDepth 100000 in
set_option maxHeartbeats 4000000 in
theorem tX12_mooring (d n : Nat) (x1 : Int32) (I : Nat → Nat → Int32) (J : Nat → Nat → Int64) (rv sp rr w nw : Nat) (out : Int32 × (Nat → Nat → Int32)) (e : fX12_mooring n x1 I = some out) : mm_T none (d + 6) 303 (mm_ent 303 [(.ref 62), (.int x1)]) (107, I, J, mm_rf rv sp rr w nw) (fun v h => v = some (.int out.1) ∧ h = (107, out.2, J, mm_rf rv sp rr w nw)) := by
  unfold fX12_mooring at e
  refine mm_T.seg (f' := (3, [some (.ref 62), some (.int x1), none, none, none, none, none], [(.int 1), (.int 0), (.int x1)])) (h' := (107, I, J, mm_rf rv sp rr w nw)) 3 rfl ?_
  refine mm_T.call (t := 252) (as := [(.int x1), (.int 0), (.int 1)]) (f' := (6, [some (.ref 62), some (.int x1), none, none, none, none, none], [])) rfl (tX12_isIn (d + 5) x1 0 1 I J rv sp rr w nw _ rfl) (fun v h hq => ?_)
  obtain ⟨rfl, rfl⟩ := hq
  refine mm_T.br (c := (fX12_isIn x1 0 1) = 0) (a := ((9, [some (.ref 62), some (.int x1), none, none, none, none, none], []), (107, I, J, mm_rf rv sp rr w nw))) (b := ((11, [some (.ref 62), some (.int x1), none, none, none, none, none], []), (107, I, J, mm_rf rv sp rr w nw))) rfl (fun h909 => ?_) (fun h909 => ?_)
  · rw [if_pos h909] at e
    refine mm_T.seg (f' := (10, [some (.ref 62), some (.int x1), none, none, none, none, none], [(.int (-1))])) (h' := (107, I, J, mm_rf rv sp rr w nw)) 1 rfl ?_
    cases e
    exact mm_T.ret rfl ⟨rfl, rfl⟩
  · rw [if_neg h909] at e
    refine mm_T.seg (f' := (13, [some (.ref 62), some (.int x1), some (.int 0), none, none, none, none], [])) (h' := (107, I, J, mm_rf rv sp rr w nw)) 2 rfl ?_
    refine mm_T.mask [true, true, true, false, false, false, false] ?_
    obtain ⟨o916, eo916, e⟩ := mm_bind e
    refine tlX12_mooring_L13 d _ n x1 0 I J rv sp rr w nw o916 eo916 ?_
    refine mm_T.seg (f' := (60, [some (.ref 62), some (.int x1), some (.int (-1)), some (.int 0), some (.int 0), none, none], [])) (h' := (107, o916, J, mm_rf rv sp rr w nw)) 6 rfl ?_
    refine mm_T.mask [true, true, true, true, true, false, false] ?_
    obtain ⟨o935, eo935, e⟩ := mm_bind e
    refine tlX12_mooring_L60 d _ n x1 (-1) 0 0 o916 J rv sp rr w nw o935 eo935 ?_
    refine mm_T.seg (f' := (181, [none, some (.int x1), some (.int o935.1), some (.int o935.2.1), none, none, none], [(.int x1)])) (h' := (107, o935.2.2, J, mm_rf rv sp rr w nw)) 1 rfl ?_
    refine mm_T.br (c := x1 = 0) (a := ((184, [none, some (.int x1), some (.int o935.1), some (.int o935.2.1), none, none, none], []), (107, o935.2.2, J, mm_rf rv sp rr w nw))) (b := ((188, [none, some (.int x1), some (.int o935.1), some (.int o935.2.1), none, none, none], []), (107, o935.2.2, J, mm_rf rv sp rr w nw))) rfl (fun h936 => ?_) (fun h936 => ?_)
    · rw [if_pos h936] at e
      refine mm_T.seg (f' := (189, [none, some (.int x1), some (.int o935.1), some (.int o935.2.1), none, none, none], [(.int o935.1)])) (h' := (107, o935.2.2, J, mm_rf rv sp rr w nw)) 2 rfl ?_
      cases e
      exact mm_T.ret rfl ⟨rfl, rfl⟩
    · rw [if_neg h936] at e
      refine mm_T.seg (f' := (189, [none, some (.int x1), some (.int o935.1), some (.int o935.2.1), none, none, none], [(.int o935.2.1)])) (h' := (107, o935.2.2, J, mm_rf rv sp rr w nw)) 1 rfl ?_
      cases e
      exact mm_T.ret rfl ⟨rfl, rfl⟩
def fX12_guestWorth (x1 : Int32) (x2 : Int32) (x3 : Int32) (I : Nat → Nat → Int32) : Option (Int32) := (if x2 = x3 then (if x1 < 0 ∨ 28 ≤ x1.toNatClampNeg then none else some (3 - (fX12_plain (x2 - (I 84 x1.toNatClampNeg))))) else (if x1 < 0 ∨ 28 ≤ x1.toNatClampNeg then none else some (9 - (fX12_plain (x2 - (I 84 x1.toNatClampNeg))))))
set_option maxRecDepth 100000 in
set_option maxHeartbeats 4000000 in
theorem tX12_guestWorth (d : Nat) (x1 : Int32) (x2 : Int32) (x3 : Int32) (I : Nat → Nat → Int32) (J : Nat → Nat → Int64) (rv sp rr w nw : Nat) (out : Int32) (e : fX12_guestWorth x1 x2 x3 I = some out) : mm_T none (d + 1) 304 (mm_ent 304 [(.ref 62), (.int x1), (.int x2), (.int x3)]) (107, I, J, mm_rf rv sp rr w nw) (fun v h => v = some (.int out) ∧ h = (107, I, J, mm_rf rv sp rr w nw)) := by
  unfold fX12_guestWorth at e
  refine mm_T.seg (f' := (2, [some (.ref 62), some (.int x1), some (.int x2), some (.int x3)], [(.int x3), (.int x2)])) (h' := (107, I, J, mm_rf rv sp rr w nw)) 2 rfl ?_
  refine mm_T.br (c := x2 = x3) (a := ((5, [some (.ref 62), some (.int x1), some (.int x2), some (.int x3)], []), (107, I, J, mm_rf rv sp rr w nw))) (b := ((9, [some (.ref 62), some (.int x1), some (.int x2), some (.int x3)], []), (107, I, J, mm_rf rv sp rr w nw))) rfl (fun h937 => ?_) (fun h937 => ?_)
  · rw [if_pos h937] at e
    refine mm_T.seg (f' := (17, [some (.ref 62), some (.int x1), some (.int x2), some (.int x3)], [(.int x1), (.ref 84), (.int x2), (.int 3)])) (h' := (107, I, J, mm_rf rv sp rr w nw)) 6 rfl ?_
    by_cases h938 : x1 < 0 ∨ 28 ≤ x1.toNatClampNeg
    · rw [if_pos h938] at e; cases e
    rw [if_neg h938] at e
    refine mm_T.guard (y := ((18, [some (.ref 62), some (.int x1), some (.int x2), some (.int x3)], [(.int (I 84 x1.toNatClampNeg)), (.int x2), (.int 3)]), (107, I, J, mm_rf rv sp rr w nw))) rfl h938 ?_
    refine mm_T.seg (f' := (19, [some (.ref 62), some (.int x1), some (.int x2), some (.int x3)], [(.int (x2 - (I 84 x1.toNatClampNeg))), (.int 3)])) (h' := (107, I, J, mm_rf rv sp rr w nw)) 1 rfl ?_
    refine mm_T.call (t := 239) (as := [(.int (x2 - (I 84 x1.toNatClampNeg)))]) (f' := (22, [some (.ref 62), some (.int x1), some (.int x2), some (.int x3)], [(.int 3)])) rfl (tX12_plain (d + 0) (x2 - (I 84 x1.toNatClampNeg)) I J rv sp rr w nw _ rfl) (fun v h hq => ?_)
    obtain ⟨rfl, rfl⟩ := hq
    refine mm_T.seg (f' := (23, [some (.ref 62), some (.int x1), some (.int x2), some (.int x3)], [(.int (3 - (fX12_plain (x2 - (I 84 x1.toNatClampNeg)))))])) (h' := (107, I, J, mm_rf rv sp rr w nw)) 1 rfl ?_
    cases e
    exact mm_T.ret rfl ⟨rfl, rfl⟩
  · rw [if_neg h937] at e
    refine mm_T.seg (f' := (17, [some (.ref 62), some (.int x1), some (.int x2), some (.int x3)], [(.int x1), (.ref 84), (.int x2), (.int 9)])) (h' := (107, I, J, mm_rf rv sp rr w nw)) 5 rfl ?_
    by_cases h939 : x1 < 0 ∨ 28 ≤ x1.toNatClampNeg
    · rw [if_pos h939] at e; cases e
    rw [if_neg h939] at e
    refine mm_T.guard (y := ((18, [some (.ref 62), some (.int x1), some (.int x2), some (.int x3)], [(.int (I 84 x1.toNatClampNeg)), (.int x2), (.int 9)]), (107, I, J, mm_rf rv sp rr w nw))) rfl h939 ?_
    refine mm_T.seg (f' := (19, [some (.ref 62), some (.int x1), some (.int x2), some (.int x3)], [(.int (x2 - (I 84 x1.toNatClampNeg))), (.int 9)])) (h' := (107, I, J, mm_rf rv sp rr w nw)) 1 rfl ?_
    refine mm_T.call (t := 239) (as := [(.int (x2 - (I 84 x1.toNatClampNeg)))]) (f' := (22, [some (.ref 62), some (.int x1), some (.int x2), some (.int x3)], [(.int 9)])) rfl (tX12_plain (d + 0) (x2 - (I 84 x1.toNatClampNeg)) I J rv sp rr w nw _ rfl) (fun v h hq => ?_)
    obtain ⟨rfl, rfl⟩ := hq
    refine mm_T.seg (f' := (23, [some (.ref 62), some (.int x1), some (.int x2), some (.int x3)], [(.int (9 - (fX12_plain (x2 - (I 84 x1.toNatClampNeg)))))])) (h' := (107, I, J, mm_rf rv sp rr w nw)) 1 rfl ?_
    cases e
    exact mm_T.ret rfl ⟨rfl, rfl⟩
def fX12_isRest_L6 (n : Nat) (y1 : Int32) (y2 : Int32) (y3 : Int32) (y4 : Int32) (y5 : Int32) (y6 : Int32) (y7 : Int32) (y8 : Int32) (I : Nat → Nat → Int32) : Option (Int32) := match n with
  | 0 => none
  | n + 1 => (if y8 < (I 62 46) then (if ((y2 >>> (y8 &&& 31)) &&& 1) = 1 then (if y7 = 0 then (if ((y4 >>> (y8 &&& 31)) &&& 1) = 1 then fX12_isRest_L6 n y1 y2 y3 y4 y5 y6 0 (y8 + 1) I else fX12_isRest_L6 n y1 y2 y3 y4 y5 y6 0 (y8 + 1) I) else (fX12_guestWorth y1 y8 y6 I).bind fun o944 => (fX12_guestWorth y1 y5 y6 I).bind fun o945 => (if o945 < o944 then (if ((y4 >>> (y8 &&& 31)) &&& 1) = 1 then fX12_isRest_L6 n y1 y2 y3 y4 y5 y6 0 (y8 + 1) I else fX12_isRest_L6 n y1 y2 y3 y4 y5 y6 0 (y8 + 1) I) else (if ((y4 >>> (y8 &&& 31)) &&& 1) = 1 then (fX12_guestWorth y3 y8 y5 I).bind fun o949 => (fX12_guestWorth y3 y6 y5 I).bind fun o950 => (if o950 < o949 then fX12_isRest_L6 n y1 y2 y3 y4 y5 y6 0 (y8 + 1) I else fX12_isRest_L6 n y1 y2 y3 y4 y5 y6 1 (y8 + 1) I) else fX12_isRest_L6 n y1 y2 y3 y4 y5 y6 1 (y8 + 1) I))) else (if ((y4 >>> (y8 &&& 31)) &&& 1) = 1 then (if y7 = 0 then fX12_isRest_L6 n y1 y2 y3 y4 y5 y6 0 (y8 + 1) I else (fX12_guestWorth y3 y8 y5 I).bind fun o954 => (fX12_guestWorth y3 y6 y5 I).bind fun o955 => (if o955 < o954 then fX12_isRest_L6 n y1 y2 y3 y4 y5 y6 0 (y8 + 1) I else fX12_isRest_L6 n y1 y2 y3 y4 y5 y6 1 (y8 + 1) I)) else fX12_isRest_L6 n y1 y2 y3 y4 y5 y6 y7 (y8 + 1) I)) else some y7)
def fX12_isRest (n : Nat) (x1 : Int32) (x2 : Int32) (x3 : Int32) (x4 : Int32) (x5 : Int32) (x6 : Int32) (I : Nat → Nat → Int32) : Option (Int32) := (fX12_isRest_L6 n x1 x2 x3 x4 x5 x6 1 0 I).bind fun o957 => (if o957 = 0 ∨ o957 = 1 then some o957 else none)
set_option maxRecDepth 100000 in
set_option maxHeartbeats 4000000 in
theorem tlX12_isRest_L6 (d : Nat) (Q : Option Value → mm_H → Prop) : ∀ (n : Nat) (y1 : Int32) (y2 : Int32) (y3 : Int32) (y4 : Int32) (y5 : Int32) (y6 : Int32) (y7 : Int32) (y8 : Int32) (I : Nat → Nat → Int32) (J : Nat → Nat → Int64) (rv sp rr w nw : Nat), ∀ (out : Int32), fX12_isRest_L6 n y1 y2 y3 y4 y5 y6 y7 y8 I = some out → mm_T none (d + 2) 305 (108, [none, none, none, none, none, none, none, some (.int out), none], []) (107, I, J, mm_rf rv sp rr w nw) Q → mm_T none (d + 2) 305 (6, [some (.ref 62), some (.int y1), some (.int y2), some (.int y3), some (.int y4), some (.int y5), some (.int y6), some (.int y7), some (.int y8)], []) (107, I, J, mm_rf rv sp rr w nw) Q := by
  intro n
  induction n with
  | zero =>
    intro y1 y2 y3 y4 y5 y6 y7 y8 I J rv sp rr w nw out e k
    rw [fX12_isRest_L6] at e; cases e
  | succ n ih =>
    intro y1 y2 y3 y4 y5 y6 y7 y8 I J rv sp rr w nw out e k
    rw [fX12_isRest_L6] at e
    refine mm_T.seg (f' := (12, [some (.ref 62), some (.int y1), some (.int y2), some (.int y3), some (.int y4), some (.int y5), some (.int y6), some (.int y7), some (.int y8)], [(.int (I 62 46)), (.int y8)])) (h' := (107, I, J, mm_rf rv sp rr w nw)) 3 rfl ?_
    refine mm_T.br (c := y8 < (I 62 46)) (a := ((15, [some (.ref 62), some (.int y1), some (.int y2), some (.int y3), some (.int y4), some (.int y5), some (.int y6), some (.int y7), some (.int y8)], []), (107, I, J, mm_rf rv sp rr w nw))) (b := ((108, [some (.ref 62), some (.int y1), some (.int y2), some (.int y3), some (.int y4), some (.int y5), some (.int y6), some (.int y7), some (.int y8)], []), (107, I, J, mm_rf rv sp rr w nw))) rfl (fun h940 => ?_) (fun h940 => ?_)
    · rw [if_pos h940] at e
      refine mm_T.seg (f' := (22, [some (.ref 62), some (.int y1), some (.int y2), some (.int y3), some (.int y4), some (.int y5), some (.int y6), some (.int y7), some (.int y8)], [(.int 1), (.int ((y2 >>> (y8 &&& 31)) &&& 1))])) (h' := (107, I, J, mm_rf rv sp rr w nw)) 6 rfl ?_
      refine mm_T.br (c := ((y2 >>> (y8 &&& 31)) &&& 1) = 1) (a := ((25, [some (.ref 62), some (.int y1), some (.int y2), some (.int y3), some (.int y4), some (.int y5), some (.int y6), some (.int y7), some (.int y8)], []), (107, I, J, mm_rf rv sp rr w nw))) (b := ((58, [some (.ref 62), some (.int y1), some (.int y2), some (.int y3), some (.int y4), some (.int y5), some (.int y6), some (.int y7), some (.int y8)], []), (107, I, J, mm_rf rv sp rr w nw))) rfl (fun h941 => ?_) (fun h941 => ?_)
      · rw [if_pos h941] at e
        refine mm_T.seg (f' := (27, [some (.ref 62), some (.int y1), some (.int y2), some (.int y3), some (.int y4), some (.int y5), some (.int y6), some (.int y7), some (.int y8)], [(.int y7)])) (h' := (107, I, J, mm_rf rv sp rr w nw)) 1 rfl ?_
        refine mm_T.br (c := y7 = 0) (a := ((55, [some (.ref 62), some (.int y1), some (.int y2), some (.int y3), some (.int y4), some (.int y5), some (.int y6), some (.int y7), some (.int y8)], []), (107, I, J, mm_rf rv sp rr w nw))) (b := ((30, [some (.ref 62), some (.int y1), some (.int y2), some (.int y3), some (.int y4), some (.int y5), some (.int y6), some (.int y7), some (.int y8)], []), (107, I, J, mm_rf rv sp rr w nw))) rfl (fun h942 => ?_) (fun h942 => ?_)
        · rw [if_pos h942] at e
          refine mm_T.seg (f' := (66, [some (.ref 62), some (.int y1), some (.int y2), some (.int y3), some (.int y4), some (.int y5), some (.int y6), some (.int 0), some (.int y8)], [(.int 1), (.int ((y4 >>> (y8 &&& 31)) &&& 1))])) (h' := (107, I, J, mm_rf rv sp rr w nw)) 8 rfl ?_
          refine mm_T.br (c := ((y4 >>> (y8 &&& 31)) &&& 1) = 1) (a := ((69, [some (.ref 62), some (.int y1), some (.int y2), some (.int y3), some (.int y4), some (.int y5), some (.int y6), some (.int 0), some (.int y8)], []), (107, I, J, mm_rf rv sp rr w nw))) (b := ((102, [some (.ref 62), some (.int y1), some (.int y2), some (.int y3), some (.int y4), some (.int y5), some (.int y6), some (.int 0), some (.int y8)], []), (107, I, J, mm_rf rv sp rr w nw))) rfl (fun h943 => ?_) (fun h943 => ?_)
          · rw [if_pos h943] at e
            refine mm_T.seg (f' := (6, [some (.ref 62), some (.int y1), some (.int y2), some (.int y3), some (.int y4), some (.int y5), some (.int y6), some (.int 0), some (.int (y8 + 1))], [])) (h' := (107, I, J, mm_rf rv sp rr w nw)) 6 rfl ?_
            refine mm_T.mask [true, true, true, true, true, true, true, true, true] ?_
            exact ih y1 y2 y3 y4 y5 y6 0 (y8 + 1) I J rv sp rr w nw out e k
          · rw [if_neg h943] at e
            refine mm_T.seg (f' := (6, [some (.ref 62), some (.int y1), some (.int y2), some (.int y3), some (.int y4), some (.int y5), some (.int y6), some (.int 0), some (.int (y8 + 1))], [])) (h' := (107, I, J, mm_rf rv sp rr w nw)) 2 rfl ?_
            refine mm_T.mask [true, true, true, true, true, true, true, true, true] ?_
            exact ih y1 y2 y3 y4 y5 y6 0 (y8 + 1) I J rv sp rr w nw out e k
        · rw [if_neg h942] at e
          refine mm_T.seg (f' := (36, [some (.ref 62), some (.int y1), some (.int y2), some (.int y3), some (.int y4), some (.int y5), some (.int y6), some (.int y7), some (.int y8)], [(.int y6), (.int y8), (.int y1), (.ref 62)])) (h' := (107, I, J, mm_rf rv sp rr w nw)) 4 rfl ?_
          obtain ⟨o944, eo944, e⟩ := mm_bind e
          refine mm_T.call (t := 304) (as := [(.ref 62), (.int y1), (.int y8), (.int y6)]) (f' := (39, [some (.ref 62), some (.int y1), some (.int y2), some (.int y3), some (.int y4), some (.int y5), some (.int y6), some (.int y7), some (.int y8)], [])) rfl (tX12_guestWorth (d + 0) y1 y8 y6 I J rv sp rr w nw o944 eo944) (fun v h hq => ?_)
          obtain ⟨rfl, rfl⟩ := hq
          refine mm_T.seg (f' := (45, [some (.ref 62), some (.int y1), some (.int y2), some (.int y3), some (.int y4), some (.int y5), some (.int y6), some (.int y7), some (.int y8)], [(.int y6), (.int y5), (.int y1), (.ref 62), (.int o944)])) (h' := (107, I, J, mm_rf rv sp rr w nw)) 4 rfl ?_
          obtain ⟨o945, eo945, e⟩ := mm_bind e
          refine mm_T.call (t := 304) (as := [(.ref 62), (.int y1), (.int y5), (.int y6)]) (f' := (48, [some (.ref 62), some (.int y1), some (.int y2), some (.int y3), some (.int y4), some (.int y5), some (.int y6), some (.int y7), some (.int y8)], [(.int o944)])) rfl (tX12_guestWorth (d + 0) y1 y5 y6 I J rv sp rr w nw o945 eo945) (fun v h hq => ?_)
          obtain ⟨rfl, rfl⟩ := hq
          refine mm_T.br (c := o945 < o944) (a := ((55, [some (.ref 62), some (.int y1), some (.int y2), some (.int y3), some (.int y4), some (.int y5), some (.int y6), some (.int y7), some (.int y8)], []), (107, I, J, mm_rf rv sp rr w nw))) (b := ((51, [some (.ref 62), some (.int y1), some (.int y2), some (.int y3), some (.int y4), some (.int y5), some (.int y6), some (.int y7), some (.int y8)], []), (107, I, J, mm_rf rv sp rr w nw))) rfl (fun h946 => ?_) (fun h946 => ?_)
          · rw [if_pos h946] at e
            refine mm_T.seg (f' := (66, [some (.ref 62), some (.int y1), some (.int y2), some (.int y3), some (.int y4), some (.int y5), some (.int y6), some (.int 0), some (.int y8)], [(.int 1), (.int ((y4 >>> (y8 &&& 31)) &&& 1))])) (h' := (107, I, J, mm_rf rv sp rr w nw)) 8 rfl ?_
            refine mm_T.br (c := ((y4 >>> (y8 &&& 31)) &&& 1) = 1) (a := ((69, [some (.ref 62), some (.int y1), some (.int y2), some (.int y3), some (.int y4), some (.int y5), some (.int y6), some (.int 0), some (.int y8)], []), (107, I, J, mm_rf rv sp rr w nw))) (b := ((102, [some (.ref 62), some (.int y1), some (.int y2), some (.int y3), some (.int y4), some (.int y5), some (.int y6), some (.int 0), some (.int y8)], []), (107, I, J, mm_rf rv sp rr w nw))) rfl (fun h947 => ?_) (fun h947 => ?_)
            · rw [if_pos h947] at e
              refine mm_T.seg (f' := (6, [some (.ref 62), some (.int y1), some (.int y2), some (.int y3), some (.int y4), some (.int y5), some (.int y6), some (.int 0), some (.int (y8 + 1))], [])) (h' := (107, I, J, mm_rf rv sp rr w nw)) 6 rfl ?_
              refine mm_T.mask [true, true, true, true, true, true, true, true, true] ?_
              exact ih y1 y2 y3 y4 y5 y6 0 (y8 + 1) I J rv sp rr w nw out e k
            · rw [if_neg h947] at e
              refine mm_T.seg (f' := (6, [some (.ref 62), some (.int y1), some (.int y2), some (.int y3), some (.int y4), some (.int y5), some (.int y6), some (.int 0), some (.int (y8 + 1))], [])) (h' := (107, I, J, mm_rf rv sp rr w nw)) 2 rfl ?_
              refine mm_T.mask [true, true, true, true, true, true, true, true, true] ?_
              exact ih y1 y2 y3 y4 y5 y6 0 (y8 + 1) I J rv sp rr w nw out e k
          · rw [if_neg h946] at e
            refine mm_T.seg (f' := (66, [some (.ref 62), some (.int y1), some (.int y2), some (.int y3), some (.int y4), some (.int y5), some (.int y6), some (.int 1), some (.int y8)], [(.int 1), (.int ((y4 >>> (y8 &&& 31)) &&& 1))])) (h' := (107, I, J, mm_rf rv sp rr w nw)) 9 rfl ?_
            refine mm_T.br (c := ((y4 >>> (y8 &&& 31)) &&& 1) = 1) (a := ((69, [some (.ref 62), some (.int y1), some (.int y2), some (.int y3), some (.int y4), some (.int y5), some (.int y6), some (.int 1), some (.int y8)], []), (107, I, J, mm_rf rv sp rr w nw))) (b := ((102, [some (.ref 62), some (.int y1), some (.int y2), some (.int y3), some (.int y4), some (.int y5), some (.int y6), some (.int 1), some (.int y8)], []), (107, I, J, mm_rf rv sp rr w nw))) rfl (fun h948 => ?_) (fun h948 => ?_)
            · rw [if_pos h948] at e
              refine mm_T.seg (f' := (80, [some (.ref 62), some (.int y1), some (.int y2), some (.int y3), some (.int y4), some (.int y5), some (.int y6), some (.int 1), some (.int y8)], [(.int y5), (.int y8), (.int y3), (.ref 62)])) (h' := (107, I, J, mm_rf rv sp rr w nw)) 6 rfl ?_
              obtain ⟨o949, eo949, e⟩ := mm_bind e
              refine mm_T.call (t := 304) (as := [(.ref 62), (.int y3), (.int y8), (.int y5)]) (f' := (83, [some (.ref 62), some (.int y1), some (.int y2), some (.int y3), some (.int y4), some (.int y5), some (.int y6), some (.int 1), some (.int y8)], [])) rfl (tX12_guestWorth (d + 0) y3 y8 y5 I J rv sp rr w nw o949 eo949) (fun v h hq => ?_)
              obtain ⟨rfl, rfl⟩ := hq
              refine mm_T.seg (f' := (89, [some (.ref 62), some (.int y1), some (.int y2), some (.int y3), some (.int y4), some (.int y5), some (.int y6), some (.int 1), some (.int y8)], [(.int y5), (.int y6), (.int y3), (.ref 62), (.int o949)])) (h' := (107, I, J, mm_rf rv sp rr w nw)) 4 rfl ?_
              obtain ⟨o950, eo950, e⟩ := mm_bind e
              refine mm_T.call (t := 304) (as := [(.ref 62), (.int y3), (.int y6), (.int y5)]) (f' := (92, [some (.ref 62), some (.int y1), some (.int y2), some (.int y3), some (.int y4), some (.int y5), some (.int y6), some (.int 1), some (.int y8)], [(.int o949)])) rfl (tX12_guestWorth (d + 0) y3 y6 y5 I J rv sp rr w nw o950 eo950) (fun v h hq => ?_)
              obtain ⟨rfl, rfl⟩ := hq
              refine mm_T.br (c := o950 < o949) (a := ((99, [some (.ref 62), some (.int y1), some (.int y2), some (.int y3), some (.int y4), some (.int y5), some (.int y6), some (.int 1), some (.int y8)], []), (107, I, J, mm_rf rv sp rr w nw))) (b := ((95, [some (.ref 62), some (.int y1), some (.int y2), some (.int y3), some (.int y4), some (.int y5), some (.int y6), some (.int 1), some (.int y8)], []), (107, I, J, mm_rf rv sp rr w nw))) rfl (fun h951 => ?_) (fun h951 => ?_)
              · rw [if_pos h951] at e
                refine mm_T.seg (f' := (6, [some (.ref 62), some (.int y1), some (.int y2), some (.int y3), some (.int y4), some (.int y5), some (.int y6), some (.int 0), some (.int (y8 + 1))], [])) (h' := (107, I, J, mm_rf rv sp rr w nw)) 4 rfl ?_
                refine mm_T.mask [true, true, true, true, true, true, true, true, true] ?_
                exact ih y1 y2 y3 y4 y5 y6 0 (y8 + 1) I J rv sp rr w nw out e k
              · rw [if_neg h951] at e
                refine mm_T.seg (f' := (6, [some (.ref 62), some (.int y1), some (.int y2), some (.int y3), some (.int y4), some (.int y5), some (.int y6), some (.int 1), some (.int (y8 + 1))], [])) (h' := (107, I, J, mm_rf rv sp rr w nw)) 5 rfl ?_
                refine mm_T.mask [true, true, true, true, true, true, true, true, true] ?_
                exact ih y1 y2 y3 y4 y5 y6 1 (y8 + 1) I J rv sp rr w nw out e k
            · rw [if_neg h948] at e
              refine mm_T.seg (f' := (6, [some (.ref 62), some (.int y1), some (.int y2), some (.int y3), some (.int y4), some (.int y5), some (.int y6), some (.int 1), some (.int (y8 + 1))], [])) (h' := (107, I, J, mm_rf rv sp rr w nw)) 2 rfl ?_
              refine mm_T.mask [true, true, true, true, true, true, true, true, true] ?_
              exact ih y1 y2 y3 y4 y5 y6 1 (y8 + 1) I J rv sp rr w nw out e k
      · rw [if_neg h941] at e
        refine mm_T.seg (f' := (66, [some (.ref 62), some (.int y1), some (.int y2), some (.int y3), some (.int y4), some (.int y5), some (.int y6), some (.int y7), some (.int y8)], [(.int 1), (.int ((y4 >>> (y8 &&& 31)) &&& 1))])) (h' := (107, I, J, mm_rf rv sp rr w nw)) 6 rfl ?_
        refine mm_T.br (c := ((y4 >>> (y8 &&& 31)) &&& 1) = 1) (a := ((69, [some (.ref 62), some (.int y1), some (.int y2), some (.int y3), some (.int y4), some (.int y5), some (.int y6), some (.int y7), some (.int y8)], []), (107, I, J, mm_rf rv sp rr w nw))) (b := ((102, [some (.ref 62), some (.int y1), some (.int y2), some (.int y3), some (.int y4), some (.int y5), some (.int y6), some (.int y7), some (.int y8)], []), (107, I, J, mm_rf rv sp rr w nw))) rfl (fun h952 => ?_) (fun h952 => ?_)
        · rw [if_pos h952] at e
          refine mm_T.seg (f' := (71, [some (.ref 62), some (.int y1), some (.int y2), some (.int y3), some (.int y4), some (.int y5), some (.int y6), some (.int y7), some (.int y8)], [(.int y7)])) (h' := (107, I, J, mm_rf rv sp rr w nw)) 1 rfl ?_
          refine mm_T.br (c := y7 = 0) (a := ((99, [some (.ref 62), some (.int y1), some (.int y2), some (.int y3), some (.int y4), some (.int y5), some (.int y6), some (.int y7), some (.int y8)], []), (107, I, J, mm_rf rv sp rr w nw))) (b := ((74, [some (.ref 62), some (.int y1), some (.int y2), some (.int y3), some (.int y4), some (.int y5), some (.int y6), some (.int y7), some (.int y8)], []), (107, I, J, mm_rf rv sp rr w nw))) rfl (fun h953 => ?_) (fun h953 => ?_)
          · rw [if_pos h953] at e
            refine mm_T.seg (f' := (6, [some (.ref 62), some (.int y1), some (.int y2), some (.int y3), some (.int y4), some (.int y5), some (.int y6), some (.int 0), some (.int (y8 + 1))], [])) (h' := (107, I, J, mm_rf rv sp rr w nw)) 4 rfl ?_
            refine mm_T.mask [true, true, true, true, true, true, true, true, true] ?_
            exact ih y1 y2 y3 y4 y5 y6 0 (y8 + 1) I J rv sp rr w nw out e k
          · rw [if_neg h953] at e
            refine mm_T.seg (f' := (80, [some (.ref 62), some (.int y1), some (.int y2), some (.int y3), some (.int y4), some (.int y5), some (.int y6), some (.int y7), some (.int y8)], [(.int y5), (.int y8), (.int y3), (.ref 62)])) (h' := (107, I, J, mm_rf rv sp rr w nw)) 4 rfl ?_
            obtain ⟨o954, eo954, e⟩ := mm_bind e
            refine mm_T.call (t := 304) (as := [(.ref 62), (.int y3), (.int y8), (.int y5)]) (f' := (83, [some (.ref 62), some (.int y1), some (.int y2), some (.int y3), some (.int y4), some (.int y5), some (.int y6), some (.int y7), some (.int y8)], [])) rfl (tX12_guestWorth (d + 0) y3 y8 y5 I J rv sp rr w nw o954 eo954) (fun v h hq => ?_)
            obtain ⟨rfl, rfl⟩ := hq
            refine mm_T.seg (f' := (89, [some (.ref 62), some (.int y1), some (.int y2), some (.int y3), some (.int y4), some (.int y5), some (.int y6), some (.int y7), some (.int y8)], [(.int y5), (.int y6), (.int y3), (.ref 62), (.int o954)])) (h' := (107, I, J, mm_rf rv sp rr w nw)) 4 rfl ?_
            obtain ⟨o955, eo955, e⟩ := mm_bind e
            refine mm_T.call (t := 304) (as := [(.ref 62), (.int y3), (.int y6), (.int y5)]) (f' := (92, [some (.ref 62), some (.int y1), some (.int y2), some (.int y3), some (.int y4), some (.int y5), some (.int y6), some (.int y7), some (.int y8)], [(.int o954)])) rfl (tX12_guestWorth (d + 0) y3 y6 y5 I J rv sp rr w nw o955 eo955) (fun v h hq => ?_)
            obtain ⟨rfl, rfl⟩ := hq
            refine mm_T.br (c := o955 < o954) (a := ((99, [some (.ref 62), some (.int y1), some (.int y2), some (.int y3), some (.int y4), some (.int y5), some (.int y6), some (.int y7), some (.int y8)], []), (107, I, J, mm_rf rv sp rr w nw))) (b := ((95, [some (.ref 62), some (.int y1), some (.int y2), some (.int y3), some (.int y4), some (.int y5), some (.int y6), some (.int y7), some (.int y8)], []), (107, I, J, mm_rf rv sp rr w nw))) rfl (fun h956 => ?_) (fun h956 => ?_)
            · rw [if_pos h956] at e
              refine mm_T.seg (f' := (6, [some (.ref 62), some (.int y1), some (.int y2), some (.int y3), some (.int y4), some (.int y5), some (.int y6), some (.int 0), some (.int (y8 + 1))], [])) (h' := (107, I, J, mm_rf rv sp rr w nw)) 4 rfl ?_
              refine mm_T.mask [true, true, true, true, true, true, true, true, true] ?_
              exact ih y1 y2 y3 y4 y5 y6 0 (y8 + 1) I J rv sp rr w nw out e k
            · rw [if_neg h956] at e
              refine mm_T.seg (f' := (6, [some (.ref 62), some (.int y1), some (.int y2), some (.int y3), some (.int y4), some (.int y5), some (.int y6), some (.int 1), some (.int (y8 + 1))], [])) (h' := (107, I, J, mm_rf rv sp rr w nw)) 5 rfl ?_
              refine mm_T.mask [true, true, true, true, true, true, true, true, true] ?_
              exact ih y1 y2 y3 y4 y5 y6 1 (y8 + 1) I J rv sp rr w nw out e k
        · rw [if_neg h952] at e
          refine mm_T.seg (f' := (6, [some (.ref 62), some (.int y1), some (.int y2), some (.int y3), some (.int y4), some (.int y5), some (.int y6), some (.int y7), some (.int (y8 + 1))], [])) (h' := (107, I, J, mm_rf rv sp rr w nw)) 2 rfl ?_
          refine mm_T.mask [true, true, true, true, true, true, true, true, true] ?_
          exact ih y1 y2 y3 y4 y5 y6 y7 (y8 + 1) I J rv sp rr w nw out e k
    · rw [if_neg h940] at e
      cases e
      refine mm_T.mask [false, false, false, false, false, false, false, true, false] ?_
      exact k
set_option maxRecDepth 100000 in
set_option maxHeartbeats 4000000 in
theorem tX12_isRest (d n : Nat) (x1 : Int32) (x2 : Int32) (x3 : Int32) (x4 : Int32) (x5 : Int32) (x6 : Int32) (I : Nat → Nat → Int32) (J : Nat → Nat → Int64) (rv sp rr w nw : Nat) (out : Int32) (e : fX12_isRest n x1 x2 x3 x4 x5 x6 I = some out) : mm_T none (d + 2) 305 (mm_ent 305 [(.ref 62), (.int x1), (.int x2), (.int x3), (.int x4), (.int x5), (.int x6)]) (107, I, J, mm_rf rv sp rr w nw) (fun v h => v = some (.int out) ∧ h = (107, I, J, mm_rf rv sp rr w nw)) := by
  unfold fX12_isRest at e
  refine mm_T.seg (f' := (6, [some (.ref 62), some (.int x1), some (.int x2), some (.int x3), some (.int x4), some (.int x5), some (.int x6), some (.int 1), some (.int 0)], [])) (h' := (107, I, J, mm_rf rv sp rr w nw)) 4 rfl ?_
  refine mm_T.mask [true, true, true, true, true, true, true, true, true] ?_
  obtain ⟨o957, eo957, e⟩ := mm_bind e
  refine tlX12_isRest_L6 d _ n x1 x2 x3 x4 x5 x6 1 0 I J rv sp rr w nw o957 eo957 ?_
  refine mm_T.seg (f' := (110, [none, none, none, none, none, none, none, some (.int o957), none], [(.int o957)])) (h' := (107, I, J, mm_rf rv sp rr w nw)) 1 rfl ?_
  by_cases h958 : o957 = 0 ∨ o957 = 1
  case neg => rw [if_neg h958] at e; cases e
  rw [if_pos h958] at e
  cases e
  exact mm_T.retZ (v := some (.int o957)) rfl h958 ⟨rfl, rfl⟩
