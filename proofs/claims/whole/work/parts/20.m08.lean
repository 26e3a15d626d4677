def fX12_layFits_L4 (n : Nat) (y1 : Int32) (y2 : Int32) (y3 : Int32) (I : Nat → Nat → Int32) : Option ((Nat → Nat → Int32)) := match n with
  | 0 => none
  | n + 1 => (if y3 < 18 then (if y3 < 0 ∨ 18 ≤ y3.toNatClampNeg then none else fX12_layFits_L4 n y1 y2 (y3 + 1) (mm_up I 104 y3.toNatClampNeg 0)) else some I)
def fX12_layFits_L47 (n : Nat) (y1 : Int32) (y2 : Int32) (y3 : Int32) (y4 : Int32) (I : Nat → Nat → Int32) : Option ((Nat → Nat → Int32)) := match n with
  | 0 => none
  | n + 1 => (if y4 < 28 then (if y4 < 0 ∨ 28 ≤ y4.toNatClampNeg then none else fX12_layFits_L47 n y1 y2 y3 (y4 + 1) (mm_up I 85 y4.toNatClampNeg 0)) else some I)
def fX12_layFits_L71 (n : Nat) (y1 : Int32) (y2 : Int32) (y3 : Int32) (y4 : Int32) (I : Nat → Nat → Int32) : Option ((Nat → Nat → Int32)) := match n with
  | 0 => none
  | n + 1 => (if y4 < (I 62 49) then (if (20 + y4) < 0 ∨ 28 ≤ (20 + y4).toNatClampNeg then none else fX12_layFits_L71 n y1 y2 y3 (y4 + 1) (mm_up I 85 (20 + y4).toNatClampNeg (-1))) else some I)
def fX12_layFits_L115 (n : Nat) (y1 : Int32) (y2 : Int32) (y3 : Int32) (y4 : Int32) (y5 : Int32) (I : Nat → Nat → Int32) : Option ((Nat → Nat → Int32)) := match n with
  | 0 => none
  | n + 1 => (if y5 < (I 62 47) then (if y5 < 0 ∨ 6 ≤ y5.toNatClampNeg then none else (if y5 < 0 ∨ 6 ≤ y5.toNatClampNeg then none else (fX12_goStroke n 0 ((mm_up I 87 y5.toNatClampNeg ((y4 - y4 / 3 * 3) - 1)) 87 y5.toNatClampNeg) 1 1 (mm_up I 87 y5.toNatClampNeg ((y4 - y4 / 3 * 3) - 1))).bind fun o1091 => (if y5 < 0 ∨ 6 ≤ y5.toNatClampNeg then none else (if y5 < 0 ∨ 6 ≤ y5.toNatClampNeg then none else fX12_layFits_L115 n y1 y2 y3 (y4 / 3) (y5 + 1) (mm_up (mm_up o1091.2 102 y5.toNatClampNeg (o1091.2 85 0)) 103 y5.toNatClampNeg (o1091.2 85 8)))))) else some I)
def fX12_layFits_L197 (n : Nat) (y1 : Int32) (y2 : Int32) (y3 : Int32) (y5 : Int32) (y6 : Int32) (I : Nat → Nat → Int32) : Option (Int32) := match n with
  | 0 => none
  | n + 1 => (if y6 < (I 62 75) then (if y5 = 0 then some y5 else (if y6 < 0 ∨ 30 ≤ y6.toNatClampNeg then none else (if y1 < (I 99 y6.toNatClampNeg) then fX12_layFits_L197 n y1 y2 y3 1 (y6 + 1) I else (if y6 < 0 ∨ 30 ≤ y6.toNatClampNeg then none else (if (I 100 y6.toNatClampNeg) < 0 then (fX12_isSo y6 I).bind fun o1101 => (if y6 < 0 ∨ 30 ≤ y6.toNatClampNeg then none else (if o1101 = (I 101 y6.toNatClampNeg) then fX12_layFits_L197 n y1 y2 y3 1 (y6 + 1) I else fX12_layFits_L197 n y1 y2 y3 0 (y6 + 1) I)) else (if y6 < 0 ∨ 30 ≤ y6.toNatClampNeg then none else (if y1 < (I 100 y6.toNatClampNeg) then (fX12_isSo y6 I).bind fun o1106 => (if y6 < 0 ∨ 30 ≤ y6.toNatClampNeg then none else (if o1106 = (I 101 y6.toNatClampNeg) then fX12_layFits_L197 n y1 y2 y3 1 (y6 + 1) I else fX12_layFits_L197 n y1 y2 y3 0 (y6 + 1) I)) else fX12_layFits_L197 n y1 y2 y3 1 (y6 + 1) I))))))) else some y5)
def fX12_layFits_L286 (n : Nat) (y1 : Int32) (y2 : Int32) (y3 : Int32) (y6 : Int32) (I : Nat → Nat → Int32) : Option ((Nat → Nat → Int32)) := match n with
  | 0 => none
  | n + 1 => (if y6 < (I 62 47) then (if y6 < 0 ∨ 6 ≤ y6.toNatClampNeg then none else (if (((3 * y6) + (I 87 y6.toNatClampNeg)) + 1) < 0 ∨ 18 ≤ (((3 * y6) + (I 87 y6.toNatClampNeg)) + 1).toNatClampNeg then none else (if (((3 * y6) + (I 87 y6.toNatClampNeg)) + 1) < 0 ∨ 18 ≤ (((3 * y6) + (I 87 y6.toNatClampNeg)) + 1).toNatClampNeg then none else fX12_layFits_L286 n y1 y2 y3 (y6 + 1) (mm_up I 104 (((3 * y6) + (I 87 y6.toNatClampNeg)) + 1).toNatClampNeg ((I 104 (((3 * y6) + (I 87 y6.toNatClampNeg)) + 1).toNatClampNeg) + 1))))) else some I)
def fX12_layFits_L25 (n : Nat) (y1 : Int32) (y2 : Int32) (y3 : Int32) (I : Nat → Nat → Int32) : Option (Int32 × (Nat → Nat → Int32)) := match n with
  | 0 => none
  | n + 1 => (fX12_power n 3 (I 62 47)).bind fun o1079 => (if y3 < o1079 then (if 0 < (I 62 48) then (fX12_layFits_L47 n y1 y2 y3 0 I).bind fun o1084 => (fX12_layFits_L71 n y1 y2 y3 0 o1084).bind fun o1087 => (fX12_layFits_L115 n y1 y2 y3 y3 0 (mm_up o1087 85 0 (o1087 81 0))).bind fun o1094 => (fX12_layFits_L197 n y1 y2 y3 1 0 o1094).bind fun o1109 => (if o1109 = 0 then fX12_layFits_L25 n y1 y2 (y3 + 1) o1094 else (fX12_layFits_L286 n y1 (y2 + 1) y3 0 o1094).bind fun o1115 => fX12_layFits_L25 n y1 (y2 + 1) (y3 + 1) o1115) else some (y2, I)) else some (y2, I))
def fX12_layFits (n : Nat) (x1 : Int32) (I : Nat → Nat → Int32) : Option (Int32 × (Nat → Nat → Int32)) := (fX12_layFits_L4 n x1 0 0 I).bind fun o1078 => (fX12_layFits_L25 n x1 0 0 o1078).bind fun o1116 => some (o1116.1, o1116.2)
set_option maxRecDepth 100000 in
set_option maxHeartbeats 4000000 in
theorem tlX12_layFits_L4 (d : Nat) (Q : Option Value → mm_H → Prop) : ∀ (n : Nat) (y1 : Int32) (y2 : Int32) (y3 : Int32) (I : Nat → Nat → Int32) (J : Nat → Nat → Int64) (rv sp rr w nw : Nat), ∀ (out : (Nat → Nat → Int32)), fX12_layFits_L4 n y1 y2 y3 I = some out → mm_T none (d + 4) 323 (23, [some (.ref 62), some (.int y1), some (.int y2), none, none, none, none], []) (107, out, J, mm_rf rv sp rr w nw) Q → mm_T none (d + 4) 323 (4, [some (.ref 62), some (.int y1), some (.int y2), some (.int y3), none, none, none], []) (107, I, J, mm_rf rv sp rr w nw) Q := by
  intro n
  induction n with
  | zero =>
    intro y1 y2 y3 I J rv sp rr w nw out e k
    rw [fX12_layFits_L4] at e; cases e
  | succ n ih =>
    intro y1 y2 y3 I J rv sp rr w nw out e k
    rw [fX12_layFits_L4] at e
    refine mm_T.seg (f' := (7, [some (.ref 62), some (.int y1), some (.int y2), some (.int y3), none, none, none], [(.int 18), (.int y3)])) (h' := (107, I, J, mm_rf rv sp rr w nw)) 2 rfl ?_
    refine mm_T.br (c := y3 < 18) (a := ((10, [some (.ref 62), some (.int y1), some (.int y2), some (.int y3), none, none, none], []), (107, I, J, mm_rf rv sp rr w nw))) (b := ((23, [some (.ref 62), some (.int y1), some (.int y2), some (.int y3), none, none, none], []), (107, I, J, mm_rf rv sp rr w nw))) rfl (fun h1076 => ?_) (fun h1076 => ?_)
    · rw [if_pos h1076] at e
      refine mm_T.seg (f' := (16, [some (.ref 62), some (.int y1), some (.int y2), some (.int y3), none, none, none], [(.int 0), (.int y3), (.ref 104)])) (h' := (107, I, J, mm_rf rv sp rr w nw)) 4 rfl ?_
      by_cases h1077 : y3 < 0 ∨ 18 ≤ y3.toNatClampNeg
      · rw [if_pos h1077] at e; cases e
      rw [if_neg h1077] at e
      refine mm_T.guard (y := ((17, [some (.ref 62), some (.int y1), some (.int y2), some (.int y3), none, none, none], []), (107, (mm_up I 104 y3.toNatClampNeg 0), J, mm_rf rv sp rr w nw))) rfl h1077 ?_
      refine mm_T.seg (f' := (4, [some (.ref 62), some (.int y1), some (.int y2), some (.int (y3 + 1)), none, none, none], [])) (h' := (107, (mm_up I 104 y3.toNatClampNeg 0), J, mm_rf rv sp rr w nw)) 2 rfl ?_
      refine mm_T.mask [true, true, true, true, false, false, false] ?_
      exact ih y1 y2 (y3 + 1) (mm_up I 104 y3.toNatClampNeg 0) J rv sp rr w nw out e k
    · rw [if_neg h1076] at e
      cases e
      refine mm_T.mask [true, true, true, false, false, false, false] ?_
      exact k
set_option maxRecDepth 100000 in
set_option maxHeartbeats 4000000 in
theorem tlX12_layFits_L47 (d : Nat) (Q : Option Value → mm_H → Prop) : ∀ (n : Nat) (y1 : Int32) (y2 : Int32) (y3 : Int32) (y4 : Int32) (I : Nat → Nat → Int32) (J : Nat → Nat → Int64) (rv sp rr w nw : Nat), ∀ (out : (Nat → Nat → Int32)), fX12_layFits_L47 n y1 y2 y3 y4 I = some out → mm_T none (d + 4) 323 (68, [some (.ref 62), some (.int y1), some (.int y2), some (.int y3), none, none, none], []) (107, out, J, mm_rf rv sp rr w nw) Q → mm_T none (d + 4) 323 (47, [some (.ref 62), some (.int y1), some (.int y2), some (.int y3), some (.int y4), none, none], []) (107, I, J, mm_rf rv sp rr w nw) Q := by
  intro n
  induction n with
  | zero =>
    intro y1 y2 y3 y4 I J rv sp rr w nw out e k
    rw [fX12_layFits_L47] at e; cases e
  | succ n ih =>
    intro y1 y2 y3 y4 I J rv sp rr w nw out e k
    rw [fX12_layFits_L47] at e
    refine mm_T.seg (f' := (51, [some (.ref 62), some (.int y1), some (.int y2), some (.int y3), some (.int y4), none, none], [(.int 28), (.int y4)])) (h' := (107, I, J, mm_rf rv sp rr w nw)) 2 rfl ?_
    refine mm_T.br (c := y4 < 28) (a := ((54, [some (.ref 62), some (.int y1), some (.int y2), some (.int y3), some (.int y4), none, none], []), (107, I, J, mm_rf rv sp rr w nw))) (b := ((68, [some (.ref 62), some (.int y1), some (.int y2), some (.int y3), some (.int y4), none, none], []), (107, I, J, mm_rf rv sp rr w nw))) rfl (fun h1082 => ?_) (fun h1082 => ?_)
    · rw [if_pos h1082] at e
      refine mm_T.seg (f' := (61, [some (.ref 62), some (.int y1), some (.int y2), some (.int y3), some (.int y4), none, none], [(.int 0), (.int y4), (.ref 85)])) (h' := (107, I, J, mm_rf rv sp rr w nw)) 4 rfl ?_
      by_cases h1083 : y4 < 0 ∨ 28 ≤ y4.toNatClampNeg
      · rw [if_pos h1083] at e; cases e
      rw [if_neg h1083] at e
      refine mm_T.guard (y := ((62, [some (.ref 62), some (.int y1), some (.int y2), some (.int y3), some (.int y4), none, none], []), (107, (mm_up I 85 y4.toNatClampNeg 0), J, mm_rf rv sp rr w nw))) rfl h1083 ?_
      refine mm_T.seg (f' := (47, [some (.ref 62), some (.int y1), some (.int y2), some (.int y3), some (.int (y4 + 1)), none, none], [])) (h' := (107, (mm_up I 85 y4.toNatClampNeg 0), J, mm_rf rv sp rr w nw)) 2 rfl ?_
      refine mm_T.mask [true, true, true, true, true, false, false] ?_
      exact ih y1 y2 y3 (y4 + 1) (mm_up I 85 y4.toNatClampNeg 0) J rv sp rr w nw out e k
    · rw [if_neg h1082] at e
      cases e
      refine mm_T.mask [true, true, true, true, false, false, false] ?_
      exact k
set_option maxRecDepth 100000 in
set_option maxHeartbeats 4000000 in
theorem tlX12_layFits_L71 (d : Nat) (Q : Option Value → mm_H → Prop) : ∀ (n : Nat) (y1 : Int32) (y2 : Int32) (y3 : Int32) (y4 : Int32) (I : Nat → Nat → Int32) (J : Nat → Nat → Int64) (rv sp rr w nw : Nat), ∀ (out : (Nat → Nat → Int32)), fX12_layFits_L71 n y1 y2 y3 y4 I = some out → mm_T none (d + 4) 323 (97, [some (.ref 62), some (.int y1), some (.int y2), some (.int y3), none, none, none], []) (107, out, J, mm_rf rv sp rr w nw) Q → mm_T none (d + 4) 323 (71, [some (.ref 62), some (.int y1), some (.int y2), some (.int y3), some (.int y4), none, none], []) (107, I, J, mm_rf rv sp rr w nw) Q := by
  intro n
  induction n with
  | zero =>
    intro y1 y2 y3 y4 I J rv sp rr w nw out e k
    rw [fX12_layFits_L71] at e; cases e
  | succ n ih =>
    intro y1 y2 y3 y4 I J rv sp rr w nw out e k
    rw [fX12_layFits_L71] at e
    refine mm_T.seg (f' := (77, [some (.ref 62), some (.int y1), some (.int y2), some (.int y3), some (.int y4), none, none], [(.int (I 62 49)), (.int y4)])) (h' := (107, I, J, mm_rf rv sp rr w nw)) 3 rfl ?_
    refine mm_T.br (c := y4 < (I 62 49)) (a := ((80, [some (.ref 62), some (.int y1), some (.int y2), some (.int y3), some (.int y4), none, none], []), (107, I, J, mm_rf rv sp rr w nw))) (b := ((97, [some (.ref 62), some (.int y1), some (.int y2), some (.int y3), some (.int y4), none, none], []), (107, I, J, mm_rf rv sp rr w nw))) rfl (fun h1085 => ?_) (fun h1085 => ?_)
    · rw [if_pos h1085] at e
      refine mm_T.seg (f' := (90, [some (.ref 62), some (.int y1), some (.int y2), some (.int y3), some (.int y4), none, none], [(.int (-1)), (.int (20 + y4)), (.ref 85)])) (h' := (107, I, J, mm_rf rv sp rr w nw)) 6 rfl ?_
      by_cases h1086 : (20 + y4) < 0 ∨ 28 ≤ (20 + y4).toNatClampNeg
      · rw [if_pos h1086] at e; cases e
      rw [if_neg h1086] at e
      refine mm_T.guard (y := ((91, [some (.ref 62), some (.int y1), some (.int y2), some (.int y3), some (.int y4), none, none], []), (107, (mm_up I 85 (20 + y4).toNatClampNeg (-1)), J, mm_rf rv sp rr w nw))) rfl h1086 ?_
      refine mm_T.seg (f' := (71, [some (.ref 62), some (.int y1), some (.int y2), some (.int y3), some (.int (y4 + 1)), none, none], [])) (h' := (107, (mm_up I 85 (20 + y4).toNatClampNeg (-1)), J, mm_rf rv sp rr w nw)) 2 rfl ?_
      refine mm_T.mask [true, true, true, true, true, false, false] ?_
      exact ih y1 y2 y3 (y4 + 1) (mm_up I 85 (20 + y4).toNatClampNeg (-1)) J rv sp rr w nw out e k
    · rw [if_neg h1085] at e
      cases e
      refine mm_T.mask [true, true, true, true, false, false, false] ?_
      exact k
set_option maxRecDepth 100000 in
set_option maxHeartbeats 4000000 in
theorem tlX12_layFits_L115 (d : Nat) (Q : Option Value → mm_H → Prop) : ∀ (n : Nat) (y1 : Int32) (y2 : Int32) (y3 : Int32) (y4 : Int32) (y5 : Int32) (I : Nat → Nat → Int32) (J : Nat → Nat → Int64) (rv sp rr w nw : Nat), ∀ (out : (Nat → Nat → Int32)), fX12_layFits_L115 n y1 y2 y3 y4 y5 I = some out → mm_T none (d + 4) 323 (191, [some (.ref 62), some (.int y1), some (.int y2), some (.int y3), none, none, none], []) (107, out, J, mm_rf rv sp rr w nw) Q → mm_T none (d + 4) 323 (115, [some (.ref 62), some (.int y1), some (.int y2), some (.int y3), some (.int y4), some (.int y5), none], []) (107, I, J, mm_rf rv sp rr w nw) Q := by
  intro n
  induction n with
  | zero =>
    intro y1 y2 y3 y4 y5 I J rv sp rr w nw out e k
    rw [fX12_layFits_L115] at e; cases e
  | succ n ih =>
    intro y1 y2 y3 y4 y5 I J rv sp rr w nw out e k
    rw [fX12_layFits_L115] at e
    refine mm_T.seg (f' := (121, [some (.ref 62), some (.int y1), some (.int y2), some (.int y3), some (.int y4), some (.int y5), none], [(.int (I 62 47)), (.int y5)])) (h' := (107, I, J, mm_rf rv sp rr w nw)) 3 rfl ?_
    refine mm_T.br (c := y5 < (I 62 47)) (a := ((124, [some (.ref 62), some (.int y1), some (.int y2), some (.int y3), some (.int y4), some (.int y5), none], []), (107, I, J, mm_rf rv sp rr w nw))) (b := ((191, [some (.ref 62), some (.int y1), some (.int y2), some (.int y3), some (.int y4), some (.int y5), none], []), (107, I, J, mm_rf rv sp rr w nw))) rfl (fun h1088 => ?_) (fun h1088 => ?_)
    · rw [if_pos h1088] at e
      refine mm_T.seg (f' := (136, [some (.ref 62), some (.int y1), some (.int y2), some (.int y3), some (.int y4), some (.int y5), none], [(.int ((y4 - y4 / 3 * 3) - 1)), (.int y5), (.ref 87)])) (h' := (107, I, J, mm_rf rv sp rr w nw)) 8 rfl ?_
      by_cases h1089 : y5 < 0 ∨ 6 ≤ y5.toNatClampNeg
      · rw [if_pos h1089] at e; cases e
      rw [if_neg h1089] at e
      refine mm_T.guard (y := ((137, [some (.ref 62), some (.int y1), some (.int y2), some (.int y3), some (.int y4), some (.int y5), none], []), (107, (mm_up I 87 y5.toNatClampNeg ((y4 - y4 / 3 * 3) - 1)), J, mm_rf rv sp rr w nw))) rfl h1089 ?_
      refine mm_T.seg (f' := (151, [some (.ref 62), some (.int y1), some (.int y2), some (.int y3), some (.int (y4 / 3)), some (.int y5), none], [(.int y5), (.ref 87), (.int 0), (.ref 62)])) (h' := (107, (mm_up I 87 y5.toNatClampNeg ((y4 - y4 / 3 * 3) - 1)), J, mm_rf rv sp rr w nw)) 9 rfl ?_
      by_cases h1090 : y5 < 0 ∨ 6 ≤ y5.toNatClampNeg
      · rw [if_pos h1090] at e; cases e
      rw [if_neg h1090] at e
      refine mm_T.guard (y := ((152, [some (.ref 62), some (.int y1), some (.int y2), some (.int y3), some (.int (y4 / 3)), some (.int y5), none], [(.int ((mm_up I 87 y5.toNatClampNeg ((y4 - y4 / 3 * 3) - 1)) 87 y5.toNatClampNeg)), (.int 0), (.ref 62)]), (107, (mm_up I 87 y5.toNatClampNeg ((y4 - y4 / 3 * 3) - 1)), J, mm_rf rv sp rr w nw))) rfl h1090 ?_
      refine mm_T.seg (f' := (154, [some (.ref 62), some (.int y1), some (.int y2), some (.int y3), some (.int (y4 / 3)), some (.int y5), none], [(.int 1), (.int 1), (.int ((mm_up I 87 y5.toNatClampNeg ((y4 - y4 / 3 * 3) - 1)) 87 y5.toNatClampNeg)), (.int 0), (.ref 62)])) (h' := (107, (mm_up I 87 y5.toNatClampNeg ((y4 - y4 / 3 * 3) - 1)), J, mm_rf rv sp rr w nw)) 2 rfl ?_
      obtain ⟨o1091, eo1091, e⟩ := mm_bind e
      refine mm_T.call (t := 261) (as := [(.ref 62), (.int 0), (.int ((mm_up I 87 y5.toNatClampNeg ((y4 - y4 / 3 * 3) - 1)) 87 y5.toNatClampNeg)), (.int 1), (.int 1)]) (f' := (157, [some (.ref 62), some (.int y1), some (.int y2), some (.int y3), some (.int (y4 / 3)), some (.int y5), none], [])) rfl (tX12_goStroke (d + 0) n 0 ((mm_up I 87 y5.toNatClampNeg ((y4 - y4 / 3 * 3) - 1)) 87 y5.toNatClampNeg) 1 1 (mm_up I 87 y5.toNatClampNeg ((y4 - y4 / 3 * 3) - 1)) J rv sp rr w nw o1091 eo1091) (fun v h hq => ?_)
      obtain ⟨rfl, rfl⟩ := hq
      refine mm_T.seg (f' := (170, [some (.ref 62), some (.int y1), some (.int y2), some (.int y3), some (.int (y4 / 3)), some (.int y5), none], [(.int (o1091.2 85 0)), (.int y5), (.ref 102)])) (h' := (107, o1091.2, J, mm_rf rv sp rr w nw)) 8 rfl ?_
      by_cases h1092 : y5 < 0 ∨ 6 ≤ y5.toNatClampNeg
      · rw [if_pos h1092] at e; cases e
      rw [if_neg h1092] at e
      refine mm_T.guard (y := ((171, [some (.ref 62), some (.int y1), some (.int y2), some (.int y3), some (.int (y4 / 3)), some (.int y5), none], []), (107, (mm_up o1091.2 102 y5.toNatClampNeg (o1091.2 85 0)), J, mm_rf rv sp rr w nw))) rfl h1092 ?_
      refine mm_T.seg (f' := (184, [some (.ref 62), some (.int y1), some (.int y2), some (.int y3), some (.int (y4 / 3)), some (.int y5), none], [(.int (o1091.2 85 8)), (.int y5), (.ref 103)])) (h' := (107, (mm_up o1091.2 102 y5.toNatClampNeg (o1091.2 85 0)), J, mm_rf rv sp rr w nw)) 7 rfl ?_
      by_cases h1093 : y5 < 0 ∨ 6 ≤ y5.toNatClampNeg
      · rw [if_pos h1093] at e; cases e
      rw [if_neg h1093] at e
      refine mm_T.guard (y := ((185, [some (.ref 62), some (.int y1), some (.int y2), some (.int y3), some (.int (y4 / 3)), some (.int y5), none], []), (107, (mm_up (mm_up o1091.2 102 y5.toNatClampNeg (o1091.2 85 0)) 103 y5.toNatClampNeg (o1091.2 85 8)), J, mm_rf rv sp rr w nw))) rfl h1093 ?_
      refine mm_T.seg (f' := (115, [some (.ref 62), some (.int y1), some (.int y2), some (.int y3), some (.int (y4 / 3)), some (.int (y5 + 1)), none], [])) (h' := (107, (mm_up (mm_up o1091.2 102 y5.toNatClampNeg (o1091.2 85 0)) 103 y5.toNatClampNeg (o1091.2 85 8)), J, mm_rf rv sp rr w nw)) 2 rfl ?_
      refine mm_T.mask [true, true, true, true, true, true, false] ?_
      exact ih y1 y2 y3 (y4 / 3) (y5 + 1) (mm_up (mm_up o1091.2 102 y5.toNatClampNeg (o1091.2 85 0)) 103 y5.toNatClampNeg (o1091.2 85 8)) J rv sp rr w nw out e k
    · rw [if_neg h1088] at e
      cases e
      refine mm_T.mask [true, true, true, true, false, false, false] ?_
      exact k
set_option maxRecDepth 100000 in
set_option maxHeartbeats 4000000 in
theorem tlX12_layFits_L197 (d : Nat) (Q : Option Value → mm_H → Prop) : ∀ (n : Nat) (y1 : Int32) (y2 : Int32) (y3 : Int32) (y5 : Int32) (y6 : Int32) (I : Nat → Nat → Int32) (J : Nat → Nat → Int64) (rv sp rr w nw : Nat), ∀ (out : Int32), fX12_layFits_L197 n y1 y2 y3 y5 y6 I = some out → mm_T none (d + 4) 323 (272, [some (.ref 62), some (.int y1), some (.int y2), some (.int y3), none, some (.int out), none], []) (107, I, J, mm_rf rv sp rr w nw) Q → mm_T none (d + 4) 323 (197, [some (.ref 62), some (.int y1), some (.int y2), some (.int y3), none, some (.int y5), some (.int y6)], []) (107, I, J, mm_rf rv sp rr w nw) Q := by
  intro n
  induction n with
  | zero =>
    intro y1 y2 y3 y5 y6 I J rv sp rr w nw out e k
    rw [fX12_layFits_L197] at e; cases e
  | succ n ih =>
    intro y1 y2 y3 y5 y6 I J rv sp rr w nw out e k
    rw [fX12_layFits_L197] at e
    refine mm_T.seg (f' := (203, [some (.ref 62), some (.int y1), some (.int y2), some (.int y3), none, some (.int y5), some (.int y6)], [(.int (I 62 75)), (.int y6)])) (h' := (107, I, J, mm_rf rv sp rr w nw)) 3 rfl ?_
    refine mm_T.br (c := y6 < (I 62 75)) (a := ((206, [some (.ref 62), some (.int y1), some (.int y2), some (.int y3), none, some (.int y5), some (.int y6)], []), (107, I, J, mm_rf rv sp rr w nw))) (b := ((272, [some (.ref 62), some (.int y1), some (.int y2), some (.int y3), none, some (.int y5), some (.int y6)], []), (107, I, J, mm_rf rv sp rr w nw))) rfl (fun h1095 => ?_) (fun h1095 => ?_)
    · rw [if_pos h1095] at e
      refine mm_T.seg (f' := (208, [some (.ref 62), some (.int y1), some (.int y2), some (.int y3), none, some (.int y5), some (.int y6)], [(.int y5)])) (h' := (107, I, J, mm_rf rv sp rr w nw)) 1 rfl ?_
      refine mm_T.br (c := y5 = 0) (a := ((272, [some (.ref 62), some (.int y1), some (.int y2), some (.int y3), none, some (.int y5), some (.int y6)], []), (107, I, J, mm_rf rv sp rr w nw))) (b := ((211, [some (.ref 62), some (.int y1), some (.int y2), some (.int y3), none, some (.int y5), some (.int y6)], []), (107, I, J, mm_rf rv sp rr w nw))) rfl (fun h1096 => ?_) (fun h1096 => ?_)
      · rw [if_pos h1096] at e
        cases e
        refine mm_T.mask [true, true, true, true, false, true, false] ?_
        exact k
      · rw [if_neg h1096] at e
        refine mm_T.seg (f' := (217, [some (.ref 62), some (.int y1), some (.int y2), some (.int y3), none, some (.int y5), some (.int y6)], [(.int y6), (.ref 99)])) (h' := (107, I, J, mm_rf rv sp rr w nw)) 3 rfl ?_
        by_cases h1097 : y6 < 0 ∨ 30 ≤ y6.toNatClampNeg
        · rw [if_pos h1097] at e; cases e
        rw [if_neg h1097] at e
        refine mm_T.guard (y := ((218, [some (.ref 62), some (.int y1), some (.int y2), some (.int y3), none, some (.int y5), some (.int y6)], [(.int (I 99 y6.toNatClampNeg))]), (107, I, J, mm_rf rv sp rr w nw))) rfl h1097 ?_
        refine mm_T.seg (f' := (219, [some (.ref 62), some (.int y1), some (.int y2), some (.int y3), none, some (.int y5), some (.int y6)], [(.int y1), (.int (I 99 y6.toNatClampNeg))])) (h' := (107, I, J, mm_rf rv sp rr w nw)) 1 rfl ?_
        refine mm_T.br (c := y1 < (I 99 y6.toNatClampNeg)) (a := ((259, [some (.ref 62), some (.int y1), some (.int y2), some (.int y3), none, some (.int y5), some (.int y6)], []), (107, I, J, mm_rf rv sp rr w nw))) (b := ((222, [some (.ref 62), some (.int y1), some (.int y2), some (.int y3), none, some (.int y5), some (.int y6)], []), (107, I, J, mm_rf rv sp rr w nw))) rfl (fun h1098 => ?_) (fun h1098 => ?_)
        · rw [if_pos h1098] at e
          refine mm_T.seg (f' := (197, [some (.ref 62), some (.int y1), some (.int y2), some (.int y3), none, some (.int 1), some (.int (y6 + 1))], [])) (h' := (107, I, J, mm_rf rv sp rr w nw)) 5 rfl ?_
          refine mm_T.mask [true, true, true, true, false, true, true] ?_
          exact ih y1 y2 y3 1 (y6 + 1) I J rv sp rr w nw out e k
        · rw [if_neg h1098] at e
          refine mm_T.seg (f' := (228, [some (.ref 62), some (.int y1), some (.int y2), some (.int y3), none, some (.int y5), some (.int y6)], [(.int y6), (.ref 100)])) (h' := (107, I, J, mm_rf rv sp rr w nw)) 3 rfl ?_
          by_cases h1099 : y6 < 0 ∨ 30 ≤ y6.toNatClampNeg
          · rw [if_pos h1099] at e; cases e
          rw [if_neg h1099] at e
          refine mm_T.guard (y := ((229, [some (.ref 62), some (.int y1), some (.int y2), some (.int y3), none, some (.int y5), some (.int y6)], [(.int (I 100 y6.toNatClampNeg))]), (107, I, J, mm_rf rv sp rr w nw))) rfl h1099 ?_
          refine mm_T.br (c := (I 100 y6.toNatClampNeg) < 0) (a := ((243, [some (.ref 62), some (.int y1), some (.int y2), some (.int y3), none, some (.int y5), some (.int y6)], []), (107, I, J, mm_rf rv sp rr w nw))) (b := ((232, [some (.ref 62), some (.int y1), some (.int y2), some (.int y3), none, some (.int y5), some (.int y6)], []), (107, I, J, mm_rf rv sp rr w nw))) rfl (fun h1100 => ?_) (fun h1100 => ?_)
          · rw [if_pos h1100] at e
            refine mm_T.seg (f' := (246, [some (.ref 62), some (.int y1), some (.int y2), some (.int y3), none, some (.int y5), some (.int y6)], [(.int y6), (.ref 62)])) (h' := (107, I, J, mm_rf rv sp rr w nw)) 2 rfl ?_
            obtain ⟨o1101, eo1101, e⟩ := mm_bind e
            refine mm_T.call (t := 322) (as := [(.ref 62), (.int y6)]) (f' := (249, [some (.ref 62), some (.int y1), some (.int y2), some (.int y3), none, some (.int y5), some (.int y6)], [])) rfl (tX12_isSo (d + 3) y6 I J rv sp rr w nw o1101 eo1101) (fun v h hq => ?_)
            obtain ⟨rfl, rfl⟩ := hq
            refine mm_T.seg (f' := (255, [some (.ref 62), some (.int y1), some (.int y2), some (.int y3), none, some (.int y5), some (.int y6)], [(.int y6), (.ref 101), (.int o1101)])) (h' := (107, I, J, mm_rf rv sp rr w nw)) 3 rfl ?_
            by_cases h1102 : y6 < 0 ∨ 30 ≤ y6.toNatClampNeg
            · rw [if_pos h1102] at e; cases e
            rw [if_neg h1102] at e
            refine mm_T.guard (y := ((256, [some (.ref 62), some (.int y1), some (.int y2), some (.int y3), none, some (.int y5), some (.int y6)], [(.int (I 101 y6.toNatClampNeg)), (.int o1101)]), (107, I, J, mm_rf rv sp rr w nw))) rfl h1102 ?_
            refine mm_T.br (c := o1101 = (I 101 y6.toNatClampNeg)) (a := ((259, [some (.ref 62), some (.int y1), some (.int y2), some (.int y3), none, some (.int y5), some (.int y6)], []), (107, I, J, mm_rf rv sp rr w nw))) (b := ((263, [some (.ref 62), some (.int y1), some (.int y2), some (.int y3), none, some (.int y5), some (.int y6)], []), (107, I, J, mm_rf rv sp rr w nw))) rfl (fun h1103 => ?_) (fun h1103 => ?_)
            · rw [if_pos h1103] at e
              refine mm_T.seg (f' := (197, [some (.ref 62), some (.int y1), some (.int y2), some (.int y3), none, some (.int 1), some (.int (y6 + 1))], [])) (h' := (107, I, J, mm_rf rv sp rr w nw)) 5 rfl ?_
              refine mm_T.mask [true, true, true, true, false, true, true] ?_
              exact ih y1 y2 y3 1 (y6 + 1) I J rv sp rr w nw out e k
            · rw [if_neg h1103] at e
              refine mm_T.seg (f' := (197, [some (.ref 62), some (.int y1), some (.int y2), some (.int y3), none, some (.int 0), some (.int (y6 + 1))], [])) (h' := (107, I, J, mm_rf rv sp rr w nw)) 4 rfl ?_
              refine mm_T.mask [true, true, true, true, false, true, true] ?_
              exact ih y1 y2 y3 0 (y6 + 1) I J rv sp rr w nw out e k
          · rw [if_neg h1100] at e
            refine mm_T.seg (f' := (238, [some (.ref 62), some (.int y1), some (.int y2), some (.int y3), none, some (.int y5), some (.int y6)], [(.int y6), (.ref 100)])) (h' := (107, I, J, mm_rf rv sp rr w nw)) 3 rfl ?_
            by_cases h1104 : y6 < 0 ∨ 30 ≤ y6.toNatClampNeg
            · rw [if_pos h1104] at e; cases e
            rw [if_neg h1104] at e
            refine mm_T.guard (y := ((239, [some (.ref 62), some (.int y1), some (.int y2), some (.int y3), none, some (.int y5), some (.int y6)], [(.int (I 100 y6.toNatClampNeg))]), (107, I, J, mm_rf rv sp rr w nw))) rfl h1104 ?_
            refine mm_T.seg (f' := (240, [some (.ref 62), some (.int y1), some (.int y2), some (.int y3), none, some (.int y5), some (.int y6)], [(.int y1), (.int (I 100 y6.toNatClampNeg))])) (h' := (107, I, J, mm_rf rv sp rr w nw)) 1 rfl ?_
            refine mm_T.br (c := y1 < (I 100 y6.toNatClampNeg)) (a := ((243, [some (.ref 62), some (.int y1), some (.int y2), some (.int y3), none, some (.int y5), some (.int y6)], []), (107, I, J, mm_rf rv sp rr w nw))) (b := ((259, [some (.ref 62), some (.int y1), some (.int y2), some (.int y3), none, some (.int y5), some (.int y6)], []), (107, I, J, mm_rf rv sp rr w nw))) rfl (fun h1105 => ?_) (fun h1105 => ?_)
            · rw [if_pos h1105] at e
              refine mm_T.seg (f' := (246, [some (.ref 62), some (.int y1), some (.int y2), some (.int y3), none, some (.int y5), some (.int y6)], [(.int y6), (.ref 62)])) (h' := (107, I, J, mm_rf rv sp rr w nw)) 2 rfl ?_
              obtain ⟨o1106, eo1106, e⟩ := mm_bind e
              refine mm_T.call (t := 322) (as := [(.ref 62), (.int y6)]) (f' := (249, [some (.ref 62), some (.int y1), some (.int y2), some (.int y3), none, some (.int y5), some (.int y6)], [])) rfl (tX12_isSo (d + 3) y6 I J rv sp rr w nw o1106 eo1106) (fun v h hq => ?_)
              obtain ⟨rfl, rfl⟩ := hq
              refine mm_T.seg (f' := (255, [some (.ref 62), some (.int y1), some (.int y2), some (.int y3), none, some (.int y5), some (.int y6)], [(.int y6), (.ref 101), (.int o1106)])) (h' := (107, I, J, mm_rf rv sp rr w nw)) 3 rfl ?_
              by_cases h1107 : y6 < 0 ∨ 30 ≤ y6.toNatClampNeg
              · rw [if_pos h1107] at e; cases e
              rw [if_neg h1107] at e
              refine mm_T.guard (y := ((256, [some (.ref 62), some (.int y1), some (.int y2), some (.int y3), none, some (.int y5), some (.int y6)], [(.int (I 101 y6.toNatClampNeg)), (.int o1106)]), (107, I, J, mm_rf rv sp rr w nw))) rfl h1107 ?_
              refine mm_T.br (c := o1106 = (I 101 y6.toNatClampNeg)) (a := ((259, [some (.ref 62), some (.int y1), some (.int y2), some (.int y3), none, some (.int y5), some (.int y6)], []), (107, I, J, mm_rf rv sp rr w nw))) (b := ((263, [some (.ref 62), some (.int y1), some (.int y2), some (.int y3), none, some (.int y5), some (.int y6)], []), (107, I, J, mm_rf rv sp rr w nw))) rfl (fun h1108 => ?_) (fun h1108 => ?_)
              · rw [if_pos h1108] at e
                refine mm_T.seg (f' := (197, [some (.ref 62), some (.int y1), some (.int y2), some (.int y3), none, some (.int 1), some (.int (y6 + 1))], [])) (h' := (107, I, J, mm_rf rv sp rr w nw)) 5 rfl ?_
                refine mm_T.mask [true, true, true, true, false, true, true] ?_
                exact ih y1 y2 y3 1 (y6 + 1) I J rv sp rr w nw out e k
              · rw [if_neg h1108] at e
                refine mm_T.seg (f' := (197, [some (.ref 62), some (.int y1), some (.int y2), some (.int y3), none, some (.int 0), some (.int (y6 + 1))], [])) (h' := (107, I, J, mm_rf rv sp rr w nw)) 4 rfl ?_
                refine mm_T.mask [true, true, true, true, false, true, true] ?_
                exact ih y1 y2 y3 0 (y6 + 1) I J rv sp rr w nw out e k
            · rw [if_neg h1105] at e
              refine mm_T.seg (f' := (197, [some (.ref 62), some (.int y1), some (.int y2), some (.int y3), none, some (.int 1), some (.int (y6 + 1))], [])) (h' := (107, I, J, mm_rf rv sp rr w nw)) 5 rfl ?_
              refine mm_T.mask [true, true, true, true, false, true, true] ?_
              exact ih y1 y2 y3 1 (y6 + 1) I J rv sp rr w nw out e k
    · rw [if_neg h1095] at e
      cases e
      refine mm_T.mask [true, true, true, true, false, true, false] ?_
      exact k
set_option maxRecDepth 100000 in
set_option maxHeartbeats 4000000 in
theorem tlX12_layFits_L286 (d : Nat) (Q : Option Value → mm_H → Prop) : ∀ (n : Nat) (y1 : Int32) (y2 : Int32) (y3 : Int32) (y6 : Int32) (I : Nat → Nat → Int32) (J : Nat → Nat → Int64) (rv sp rr w nw : Nat), ∀ (out : (Nat → Nat → Int32)), fX12_layFits_L286 n y1 y2 y3 y6 I = some out → mm_T none (d + 4) 323 (324, [some (.ref 62), some (.int y1), some (.int y2), some (.int y3), none, none, none], []) (107, out, J, mm_rf rv sp rr w nw) Q → mm_T none (d + 4) 323 (286, [some (.ref 62), some (.int y1), some (.int y2), some (.int y3), none, none, some (.int y6)], []) (107, I, J, mm_rf rv sp rr w nw) Q := by
  intro n
  induction n with
  | zero =>
    intro y1 y2 y3 y6 I J rv sp rr w nw out e k
    rw [fX12_layFits_L286] at e; cases e
  | succ n ih =>
    intro y1 y2 y3 y6 I J rv sp rr w nw out e k
    rw [fX12_layFits_L286] at e
    refine mm_T.seg (f' := (292, [some (.ref 62), some (.int y1), some (.int y2), some (.int y3), none, none, some (.int y6)], [(.int (I 62 47)), (.int y6)])) (h' := (107, I, J, mm_rf rv sp rr w nw)) 3 rfl ?_
    refine mm_T.br (c := y6 < (I 62 47)) (a := ((295, [some (.ref 62), some (.int y1), some (.int y2), some (.int y3), none, none, some (.int y6)], []), (107, I, J, mm_rf rv sp rr w nw))) (b := ((324, [some (.ref 62), some (.int y1), some (.int y2), some (.int y3), none, none, some (.int y6)], []), (107, I, J, mm_rf rv sp rr w nw))) rfl (fun h1111 => ?_) (fun h1111 => ?_)
    · rw [if_pos h1111] at e
      refine mm_T.seg (f' := (309, [some (.ref 62), some (.int y1), some (.int y2), some (.int y3), none, none, some (.int y6)], [(.int y6), (.ref 87), (.int (3 * y6)), (.ref 104)])) (h' := (107, I, J, mm_rf rv sp rr w nw)) 8 rfl ?_
      by_cases h1112 : y6 < 0 ∨ 6 ≤ y6.toNatClampNeg
      · rw [if_pos h1112] at e; cases e
      rw [if_neg h1112] at e
      refine mm_T.guard (y := ((310, [some (.ref 62), some (.int y1), some (.int y2), some (.int y3), none, none, some (.int y6)], [(.int (I 87 y6.toNatClampNeg)), (.int (3 * y6)), (.ref 104)]), (107, I, J, mm_rf rv sp rr w nw))) rfl h1112 ?_
      refine mm_T.seg (f' := (314, [some (.ref 62), some (.int y1), some (.int y2), some (.int y3), none, none, some (.int y6)], [(.int (((3 * y6) + (I 87 y6.toNatClampNeg)) + 1)), (.ref 104), (.int (((3 * y6) + (I 87 y6.toNatClampNeg)) + 1)), (.ref 104)])) (h' := (107, I, J, mm_rf rv sp rr w nw)) 4 rfl ?_
      by_cases h1113 : (((3 * y6) + (I 87 y6.toNatClampNeg)) + 1) < 0 ∨ 18 ≤ (((3 * y6) + (I 87 y6.toNatClampNeg)) + 1).toNatClampNeg
      · rw [if_pos h1113] at e; cases e
      rw [if_neg h1113] at e
      refine mm_T.guard (y := ((315, [some (.ref 62), some (.int y1), some (.int y2), some (.int y3), none, none, some (.int y6)], [(.int (I 104 (((3 * y6) + (I 87 y6.toNatClampNeg)) + 1).toNatClampNeg)), (.int (((3 * y6) + (I 87 y6.toNatClampNeg)) + 1)), (.ref 104)]), (107, I, J, mm_rf rv sp rr w nw))) rfl h1113 ?_
      refine mm_T.seg (f' := (317, [some (.ref 62), some (.int y1), some (.int y2), some (.int y3), none, none, some (.int y6)], [(.int ((I 104 (((3 * y6) + (I 87 y6.toNatClampNeg)) + 1).toNatClampNeg) + 1)), (.int (((3 * y6) + (I 87 y6.toNatClampNeg)) + 1)), (.ref 104)])) (h' := (107, I, J, mm_rf rv sp rr w nw)) 2 rfl ?_
      by_cases h1114 : (((3 * y6) + (I 87 y6.toNatClampNeg)) + 1) < 0 ∨ 18 ≤ (((3 * y6) + (I 87 y6.toNatClampNeg)) + 1).toNatClampNeg
      · rw [if_pos h1114] at e; cases e
      rw [if_neg h1114] at e
      refine mm_T.guard (y := ((318, [some (.ref 62), some (.int y1), some (.int y2), some (.int y3), none, none, some (.int y6)], []), (107, (mm_up I 104 (((3 * y6) + (I 87 y6.toNatClampNeg)) + 1).toNatClampNeg ((I 104 (((3 * y6) + (I 87 y6.toNatClampNeg)) + 1).toNatClampNeg) + 1)), J, mm_rf rv sp rr w nw))) rfl h1114 ?_
      refine mm_T.seg (f' := (286, [some (.ref 62), some (.int y1), some (.int y2), some (.int y3), none, none, some (.int (y6 + 1))], [])) (h' := (107, (mm_up I 104 (((3 * y6) + (I 87 y6.toNatClampNeg)) + 1).toNatClampNeg ((I 104 (((3 * y6) + (I 87 y6.toNatClampNeg)) + 1).toNatClampNeg) + 1)), J, mm_rf rv sp rr w nw)) 2 rfl ?_
      refine mm_T.mask [true, true, true, true, false, false, true] ?_
      exact ih y1 y2 y3 (y6 + 1) (mm_up I 104 (((3 * y6) + (I 87 y6.toNatClampNeg)) + 1).toNatClampNeg ((I 104 (((3 * y6) + (I 87 y6.toNatClampNeg)) + 1).toNatClampNeg) + 1)) J rv sp rr w nw out e k
    · rw [if_neg h1111] at e
      cases e
      refine mm_T.mask [true, true, true, true, false, false, false] ?_
      exact k
set_option maxRecDepth 100000 in
set_option maxHeartbeats 4000000 in
theorem tlX12_layFits_L25 (d : Nat) (Q : Option Value → mm_H → Prop) : ∀ (n : Nat) (y1 : Int32) (y2 : Int32) (y3 : Int32) (I : Nat → Nat → Int32) (J : Nat → Nat → Int64) (rv sp rr w nw : Nat), ∀ (out : Int32 × (Nat → Nat → Int32)), fX12_layFits_L25 n y1 y2 y3 I = some out → mm_T none (d + 4) 323 (330, [none, none, some (.int out.1), none, none, none, none], []) (107, out.2, J, mm_rf rv sp rr w nw) Q → mm_T none (d + 4) 323 (25, [some (.ref 62), some (.int y1), some (.int y2), some (.int y3), none, none, none], []) (107, I, J, mm_rf rv sp rr w nw) Q := by
  intro n
  induction n with
  | zero =>
    intro y1 y2 y3 I J rv sp rr w nw out e k
    rw [fX12_layFits_L25] at e; cases e
  | succ n ih =>
    intro y1 y2 y3 I J rv sp rr w nw out e k
    rw [fX12_layFits_L25] at e
    refine mm_T.seg (f' := (31, [some (.ref 62), some (.int y1), some (.int y2), some (.int y3), none, none, none], [(.int (I 62 47)), (.int 3), (.int y3)])) (h' := (107, I, J, mm_rf rv sp rr w nw)) 4 rfl ?_
    obtain ⟨o1079, eo1079, e⟩ := mm_bind e
    refine mm_T.call (t := 277) (as := [(.int 3), (.int (I 62 47))]) (f' := (34, [some (.ref 62), some (.int y1), some (.int y2), some (.int y3), none, none, none], [(.int y3)])) rfl (tX12_power (d + 3) n 3 (I 62 47) I J rv sp rr w nw o1079 eo1079) (fun v h hq => ?_)
    obtain ⟨rfl, rfl⟩ := hq
    refine mm_T.br (c := y3 < o1079) (a := ((37, [some (.ref 62), some (.int y1), some (.int y2), some (.int y3), none, none, none], []), (107, I, J, mm_rf rv sp rr w nw))) (b := ((330, [some (.ref 62), some (.int y1), some (.int y2), some (.int y3), none, none, none], []), (107, I, J, mm_rf rv sp rr w nw))) rfl (fun h1080 => ?_) (fun h1080 => ?_)
    · rw [if_pos h1080] at e
      refine mm_T.seg (f' := (41, [some (.ref 62), some (.int y1), some (.int y2), some (.int y3), none, none, none], [(.int (I 62 48))])) (h' := (107, I, J, mm_rf rv sp rr w nw)) 2 rfl ?_
      refine mm_T.br (c := 0 < (I 62 48)) (a := ((44, [some (.ref 62), some (.int y1), some (.int y2), some (.int y3), none, none, none], []), (107, I, J, mm_rf rv sp rr w nw))) (b := ((330, [some (.ref 62), some (.int y1), some (.int y2), some (.int y3), none, none, none], []), (107, I, J, mm_rf rv sp rr w nw))) rfl (fun h1081 => ?_) (fun h1081 => ?_)
      · rw [if_pos h1081] at e
        refine mm_T.seg (f' := (47, [some (.ref 62), some (.int y1), some (.int y2), some (.int y3), some (.int 0), none, none], [])) (h' := (107, I, J, mm_rf rv sp rr w nw)) 2 rfl ?_
        refine mm_T.mask [true, true, true, true, true, false, false] ?_
        obtain ⟨o1084, eo1084, e⟩ := mm_bind e
        refine tlX12_layFits_L47 d _ n y1 y2 y3 0 I J rv sp rr w nw o1084 eo1084 ?_
        refine mm_T.seg (f' := (71, [some (.ref 62), some (.int y1), some (.int y2), some (.int y3), some (.int 0), none, none], [])) (h' := (107, o1084, J, mm_rf rv sp rr w nw)) 2 rfl ?_
        refine mm_T.mask [true, true, true, true, true, false, false] ?_
        obtain ⟨o1087, eo1087, e⟩ := mm_bind e
        refine tlX12_layFits_L71 d _ n y1 y2 y3 0 o1084 J rv sp rr w nw o1087 eo1087 ?_
        refine mm_T.seg (f' := (115, [some (.ref 62), some (.int y1), some (.int y2), some (.int y3), some (.int y3), some (.int 0), none], [])) (h' := (107, (mm_up o1087 85 0 (o1087 81 0)), J, mm_rf rv sp rr w nw)) 12 rfl ?_
        refine mm_T.mask [true, true, true, true, true, true, false] ?_
        obtain ⟨o1094, eo1094, e⟩ := mm_bind e
        refine tlX12_layFits_L115 d _ n y1 y2 y3 y3 0 (mm_up o1087 85 0 (o1087 81 0)) J rv sp rr w nw o1094 eo1094 ?_
        refine mm_T.seg (f' := (197, [some (.ref 62), some (.int y1), some (.int y2), some (.int y3), none, some (.int 1), some (.int 0)], [])) (h' := (107, o1094, J, mm_rf rv sp rr w nw)) 4 rfl ?_
        refine mm_T.mask [true, true, true, true, false, true, true] ?_
        obtain ⟨o1109, eo1109, e⟩ := mm_bind e
        refine tlX12_layFits_L197 d _ n y1 y2 y3 1 0 o1094 J rv sp rr w nw o1109 eo1109 ?_
        refine mm_T.seg (f' := (274, [some (.ref 62), some (.int y1), some (.int y2), some (.int y3), none, some (.int o1109), none], [(.int o1109)])) (h' := (107, o1094, J, mm_rf rv sp rr w nw)) 1 rfl ?_
        refine mm_T.br (c := o1109 = 0) (a := ((277, [some (.ref 62), some (.int y1), some (.int y2), some (.int y3), none, some (.int o1109), none], []), (107, o1094, J, mm_rf rv sp rr w nw))) (b := ((280, [some (.ref 62), some (.int y1), some (.int y2), some (.int y3), none, some (.int o1109), none], []), (107, o1094, J, mm_rf rv sp rr w nw))) rfl (fun h1110 => ?_) (fun h1110 => ?_)
        · rw [if_pos h1110] at e
          refine mm_T.seg (f' := (25, [some (.ref 62), some (.int y1), some (.int y2), some (.int (y3 + 1)), none, some (.int o1109), none], [])) (h' := (107, o1094, J, mm_rf rv sp rr w nw)) 3 rfl ?_
          refine mm_T.mask [true, true, true, true, false, false, false] ?_
          exact ih y1 y2 (y3 + 1) o1094 J rv sp rr w nw out e k
        · rw [if_neg h1110] at e
          refine mm_T.seg (f' := (286, [some (.ref 62), some (.int y1), some (.int (y2 + 1)), some (.int y3), none, some (.int o1109), some (.int 0)], [])) (h' := (107, o1094, J, mm_rf rv sp rr w nw)) 3 rfl ?_
          refine mm_T.mask [true, true, true, true, false, false, true] ?_
          obtain ⟨o1115, eo1115, e⟩ := mm_bind e
          refine tlX12_layFits_L286 d _ n y1 (y2 + 1) y3 0 o1094 J rv sp rr w nw o1115 eo1115 ?_
          refine mm_T.seg (f' := (25, [some (.ref 62), some (.int y1), some (.int (y2 + 1)), some (.int (y3 + 1)), none, none, none], [])) (h' := (107, o1115, J, mm_rf rv sp rr w nw)) 2 rfl ?_
          refine mm_T.mask [true, true, true, true, false, false, false] ?_
          exact ih y1 (y2 + 1) (y3 + 1) o1115 J rv sp rr w nw out e k
      · rw [if_neg h1081] at e
        cases e
        refine mm_T.mask [false, false, true, false, false, false, false] ?_
        exact k
    · rw [if_neg h1080] at e
      cases e
      refine mm_T.mask [false, false, true, false, false, false, false] ?_
      exact k
set_option maxRecDepth 100000 in
set_option maxHeartbeats 4000000 in
theorem tX12_layFits (d n : Nat) (x1 : Int32) (I : Nat → Nat → Int32) (J : Nat → Nat → Int64) (rv sp rr w nw : Nat) (out : Int32 × (Nat → Nat → Int32)) (e : fX12_layFits n x1 I = some out) : mm_T none (d + 4) 323 (mm_ent 323 [(.ref 62), (.int x1)]) (107, I, J, mm_rf rv sp rr w nw) (fun v h => v = some (.int out.1) ∧ h = (107, out.2, J, mm_rf rv sp rr w nw)) := by
  unfold fX12_layFits at e
  refine mm_T.seg (f' := (4, [some (.ref 62), some (.int x1), some (.int 0), some (.int 0), none, none, none], [])) (h' := (107, I, J, mm_rf rv sp rr w nw)) 4 rfl ?_
  refine mm_T.mask [true, true, true, true, false, false, false] ?_
  obtain ⟨o1078, eo1078, e⟩ := mm_bind e
  refine tlX12_layFits_L4 d _ n x1 0 0 I J rv sp rr w nw o1078 eo1078 ?_
  refine mm_T.seg (f' := (25, [some (.ref 62), some (.int x1), some (.int 0), some (.int 0), none, none, none], [])) (h' := (107, o1078, J, mm_rf rv sp rr w nw)) 2 rfl ?_
  refine mm_T.mask [true, true, true, true, false, false, false] ?_
  obtain ⟨o1116, eo1116, e⟩ := mm_bind e
  refine tlX12_layFits_L25 d _ n x1 0 0 o1078 J rv sp rr w nw o1116 eo1116 ?_
  refine mm_T.seg (f' := (331, [none, none, some (.int o1116.1), none, none, none, none], [(.int o1116.1)])) (h' := (107, o1116.2, J, mm_rf rv sp rr w nw)) 1 rfl ?_
  cases e
  exact mm_T.ret rfl ⟨rfl, rfl⟩
def fX12_fits (n : Nat) (x1 : Int32) (I : Nat → Nat → Int32) : Option (Int32 × (Nat → Nat → Int32)) := (fX12_layFits n x1 I).bind fun o1117 => some (o1117.1, o1117.2)
set_option maxRecDepth 100000 in
set_option maxHeartbeats 4000000 in
theorem tX12_fits (d n : Nat) (x1 : Int32) (I : Nat → Nat → Int32) (J : Nat → Nat → Int64) (rv sp rr w nw : Nat) (out : Int32 × (Nat → Nat → Int32)) (e : fX12_fits n x1 I = some out) : mm_T none (d + 5) 324 (mm_ent 324 [(.ref 62), (.int x1)]) (107, I, J, mm_rf rv sp rr w nw) (fun v h => v = some (.int out.1) ∧ h = (107, out.2, J, mm_rf rv sp rr w nw)) := by
  unfold fX12_fits at e
  refine mm_T.seg (f' := (2, [some (.ref 62), some (.int x1)], [(.int x1), (.ref 62)])) (h' := (107, I, J, mm_rf rv sp rr w nw)) 2 rfl ?_
  obtain ⟨o1117, eo1117, e⟩ := mm_bind e
  refine mm_T.call (t := 323) (as := [(.ref 62), (.int x1)]) (f' := (5, [some (.ref 62), some (.int x1)], [])) rfl (tX12_layFits (d + 0) n x1 I J rv sp rr w nw o1117 eo1117) (fun v h hq => ?_)
  obtain ⟨rfl, rfl⟩ := hq
  cases e
  exact mm_T.ret rfl ⟨rfl, rfl⟩
def fX12_sure_L35 (n : Nat) (y1 : Int32) (y3 : Int32) (y4 : Int32) (y5 : Int32) (I : Nat → Nat → Int32) : Option (Int32) := match n with
  | 0 => none
  | n + 1 => (if 1 < y5 then some y4 else (if (((3 * (y1 - 1)) + y5) + 1) < 0 ∨ 18 ≤ (((3 * (y1 - 1)) + y5) + 1).toNatClampNeg then none else (if (I 104 (((3 * (y1 - 1)) + y5) + 1).toNatClampNeg) = y3 then fX12_sure_L35 n y1 y3 y5 (y5 + 1) I else fX12_sure_L35 n y1 y3 y4 (y5 + 1) I)))
def fX12_sure (n : Nat) (x1 : Int32) (x2 : Int32) (I : Nat → Nat → Int32) : Option (Int32 × (Nat → Nat → Int32)) := (if (fX12_isIn x1 1 (I 62 47)) = 0 then some ((-3), I) else (fX12_layFits n x2 I).bind fun o1119 => (if o1119.1 = 0 then some ((-3), o1119.2) else (fX12_sure_L35 n x1 o1119.1 (-2) (-1) o1119.2).bind fun o1124 => some (o1124, o1119.2)))
set_option maxRecDepth 100000 in
set_option maxHeartbeats 4000000 in
theorem tlX12_sure_L35 (d : Nat) (Q : Option Value → mm_H → Prop) : ∀ (n : Nat) (y1 : Int32) (y3 : Int32) (y4 : Int32) (y5 : Int32) (I : Nat → Nat → Int32) (J : Nat → Nat → Int64) (rv sp rr w nw : Nat), ∀ (out : Int32), fX12_sure_L35 n y1 y3 y4 y5 I = some out → mm_T none (d + 5) 325 (70, [none, none, none, none, some (.int out), none], []) (107, I, J, mm_rf rv sp rr w nw) Q → mm_T none (d + 5) 325 (35, [some (.ref 62), some (.int y1), none, some (.int y3), some (.int y4), some (.int y5)], []) (107, I, J, mm_rf rv sp rr w nw) Q := by
  intro n
  induction n with
  | zero =>
    intro y1 y3 y4 y5 I J rv sp rr w nw out e k
    rw [fX12_sure_L35] at e; cases e
  | succ n ih =>
    intro y1 y3 y4 y5 I J rv sp rr w nw out e k
    rw [fX12_sure_L35] at e
    refine mm_T.seg (f' := (38, [some (.ref 62), some (.int y1), none, some (.int y3), some (.int y4), some (.int y5)], [(.int 1), (.int y5)])) (h' := (107, I, J, mm_rf rv sp rr w nw)) 2 rfl ?_
    refine mm_T.br (c := 1 < y5) (a := ((70, [some (.ref 62), some (.int y1), none, some (.int y3), some (.int y4), some (.int y5)], []), (107, I, J, mm_rf rv sp rr w nw))) (b := ((41, [some (.ref 62), some (.int y1), none, some (.int y3), some (.int y4), some (.int y5)], []), (107, I, J, mm_rf rv sp rr w nw))) rfl (fun h1121 => ?_) (fun h1121 => ?_)
    · rw [if_pos h1121] at e
      cases e
      refine mm_T.mask [false, false, false, false, true, false] ?_
      exact k
    · rw [if_neg h1121] at e
      refine mm_T.seg (f' := (55, [some (.ref 62), some (.int y1), none, some (.int y3), some (.int y4), some (.int y5)], [(.int (((3 * (y1 - 1)) + y5) + 1)), (.ref 104)])) (h' := (107, I, J, mm_rf rv sp rr w nw)) 11 rfl ?_
      by_cases h1122 : (((3 * (y1 - 1)) + y5) + 1) < 0 ∨ 18 ≤ (((3 * (y1 - 1)) + y5) + 1).toNatClampNeg
      · rw [if_pos h1122] at e; cases e
      rw [if_neg h1122] at e
      refine mm_T.guard (y := ((56, [some (.ref 62), some (.int y1), none, some (.int y3), some (.int y4), some (.int y5)], [(.int (I 104 (((3 * (y1 - 1)) + y5) + 1).toNatClampNeg))]), (107, I, J, mm_rf rv sp rr w nw))) rfl h1122 ?_
      refine mm_T.seg (f' := (57, [some (.ref 62), some (.int y1), none, some (.int y3), some (.int y4), some (.int y5)], [(.int y3), (.int (I 104 (((3 * (y1 - 1)) + y5) + 1).toNatClampNeg))])) (h' := (107, I, J, mm_rf rv sp rr w nw)) 1 rfl ?_
      refine mm_T.br (c := (I 104 (((3 * (y1 - 1)) + y5) + 1).toNatClampNeg) = y3) (a := ((60, [some (.ref 62), some (.int y1), none, some (.int y3), some (.int y4), some (.int y5)], []), (107, I, J, mm_rf rv sp rr w nw))) (b := ((64, [some (.ref 62), some (.int y1), none, some (.int y3), some (.int y4), some (.int y5)], []), (107, I, J, mm_rf rv sp rr w nw))) rfl (fun h1123 => ?_) (fun h1123 => ?_)
      · rw [if_pos h1123] at e
        refine mm_T.seg (f' := (35, [some (.ref 62), some (.int y1), none, some (.int y3), some (.int y5), some (.int (y5 + 1))], [])) (h' := (107, I, J, mm_rf rv sp rr w nw)) 4 rfl ?_
        refine mm_T.mask [true, true, false, true, true, true] ?_
        exact ih y1 y3 y5 (y5 + 1) I J rv sp rr w nw out e k
      · rw [if_neg h1123] at e
        refine mm_T.seg (f' := (35, [some (.ref 62), some (.int y1), none, some (.int y3), some (.int y4), some (.int (y5 + 1))], [])) (h' := (107, I, J, mm_rf rv sp rr w nw)) 2 rfl ?_
        refine mm_T.mask [true, true, false, true, true, true] ?_
        exact ih y1 y3 y4 (y5 + 1) I J rv sp rr w nw out e k
set_option maxRecDepth 100000 in
set_option maxHeartbeats 4000000 in
theorem tX12_sure (d n : Nat) (x1 : Int32) (x2 : Int32) (I : Nat → Nat → Int32) (J : Nat → Nat → Int64) (rv sp rr w nw : Nat) (out : Int32 × (Nat → Nat → Int32)) (e : fX12_sure n x1 x2 I = some out) : mm_T none (d + 5) 325 (mm_ent 325 [(.ref 62), (.int x1), (.int x2)]) (107, I, J, mm_rf rv sp rr w nw) (fun v h => v = some (.int out.1) ∧ h = (107, out.2, J, mm_rf rv sp rr w nw)) := by
  unfold fX12_sure at e
  refine mm_T.seg (f' := (6, [some (.ref 62), some (.int x1), some (.int x2), none, none, none], [(.int (I 62 47)), (.int 1), (.int x1)])) (h' := (107, I, J, mm_rf rv sp rr w nw)) 4 rfl ?_
  refine mm_T.call (t := 252) (as := [(.int x1), (.int 1), (.int (I 62 47))]) (f' := (9, [some (.ref 62), some (.int x1), some (.int x2), none, none, none], [])) rfl (tX12_isIn (d + 4) x1 1 (I 62 47) I J rv sp rr w nw _ rfl) (fun v h hq => ?_)
  obtain ⟨rfl, rfl⟩ := hq
  refine mm_T.br (c := (fX12_isIn x1 1 (I 62 47)) = 0) (a := ((12, [some (.ref 62), some (.int x1), some (.int x2), none, none, none], []), (107, I, J, mm_rf rv sp rr w nw))) (b := ((15, [some (.ref 62), some (.int x1), some (.int x2), none, none, none], []), (107, I, J, mm_rf rv sp rr w nw))) rfl (fun h1118 => ?_) (fun h1118 => ?_)
  · rw [if_pos h1118] at e
    refine mm_T.seg (f' := (14, [some (.ref 62), some (.int x1), some (.int x2), none, none, none], [(.int (-3))])) (h' := (107, I, J, mm_rf rv sp rr w nw)) 1 rfl ?_
    cases e
    exact mm_T.ret rfl ⟨rfl, rfl⟩
  · rw [if_neg h1118] at e
    refine mm_T.seg (f' := (17, [some (.ref 62), some (.int x1), some (.int x2), none, none, none], [(.int x2), (.ref 62)])) (h' := (107, I, J, mm_rf rv sp rr w nw)) 2 rfl ?_
    obtain ⟨o1119, eo1119, e⟩ := mm_bind e
    refine mm_T.call (t := 323) (as := [(.ref 62), (.int x2)]) (f' := (20, [some (.ref 62), some (.int x1), some (.int x2), none, none, none], [])) rfl (tX12_layFits (d + 0) n x2 I J rv sp rr w nw o1119 eo1119) (fun v h hq => ?_)
    obtain ⟨rfl, rfl⟩ := hq
    refine mm_T.seg (f' := (22, [some (.ref 62), some (.int x1), some (.int x2), some (.int o1119.1), none, none], [(.int o1119.1)])) (h' := (107, o1119.2, J, mm_rf rv sp rr w nw)) 2 rfl ?_
    refine mm_T.br (c := o1119.1 = 0) (a := ((25, [some (.ref 62), some (.int x1), some (.int x2), some (.int o1119.1), none, none], []), (107, o1119.2, J, mm_rf rv sp rr w nw))) (b := ((28, [some (.ref 62), some (.int x1), some (.int x2), some (.int o1119.1), none, none], []), (107, o1119.2, J, mm_rf rv sp rr w nw))) rfl (fun h1120 => ?_) (fun h1120 => ?_)
    · rw [if_pos h1120] at e
      refine mm_T.seg (f' := (27, [some (.ref 62), some (.int x1), some (.int x2), some (.int o1119.1), none, none], [(.int (-3))])) (h' := (107, o1119.2, J, mm_rf rv sp rr w nw)) 1 rfl ?_
      cases e
      exact mm_T.ret rfl ⟨rfl, rfl⟩
    · rw [if_neg h1120] at e
      refine mm_T.seg (f' := (35, [some (.ref 62), some (.int x1), some (.int x2), some (.int o1119.1), some (.int (-2)), some (.int (-1))], [])) (h' := (107, o1119.2, J, mm_rf rv sp rr w nw)) 4 rfl ?_
      refine mm_T.mask [true, true, false, true, true, true] ?_
      obtain ⟨o1124, eo1124, e⟩ := mm_bind e
      refine tlX12_sure_L35 d _ n x1 o1119.1 (-2) (-1) o1119.2 J rv sp rr w nw o1124 eo1124 ?_
      refine mm_T.seg (f' := (72, [none, none, none, none, some (.int o1124), none], [(.int o1124)])) (h' := (107, o1119.2, J, mm_rf rv sp rr w nw)) 1 rfl ?_
      cases e
      exact mm_T.ret rfl ⟨rfl, rfl⟩
def fX12_leftBy_L4 (n : Nat) (y1 : Int32) (y2 : Int32) (y3 : Int32) (I : Nat → Nat → Int32) : Option (Int32) := match n with
  | 0 => none
  | n + 1 => (if y3 < 3 then (if ((3 * y1) + y3) < 0 ∨ 18 ≤ ((3 * y1) + y3).toNatClampNeg then none else (if y2 < (I 104 ((3 * y1) + y3).toNatClampNeg) then (if ((3 * y1) + y3) < 0 ∨ 18 ≤ ((3 * y1) + y3).toNatClampNeg then none else fX12_leftBy_L4 n y1 (I 104 ((3 * y1) + y3).toNatClampNeg) (y3 + 1) I) else fX12_leftBy_L4 n y1 y2 (y3 + 1) I)) else some y2)
def fX12_leftBy (n : Nat) (x1 : Int32) (I : Nat → Nat → Int32) : Option (Int32) := (fX12_leftBy_L4 n x1 0 0 I).bind fun o1129 => some o1129
set_option maxRecDepth 100000 in
set_option maxHeartbeats 4000000 in
theorem tlX12_leftBy_L4 (d : Nat) (Q : Option Value → mm_H → Prop) : ∀ (n : Nat) (y1 : Int32) (y2 : Int32) (y3 : Int32) (I : Nat → Nat → Int32) (J : Nat → Nat → Int64) (rv sp rr w nw : Nat), ∀ (out : Int32), fX12_leftBy_L4 n y1 y2 y3 I = some out → mm_T none (d + 0) 326 (44, [none, none, some (.int out), none], []) (107, I, J, mm_rf rv sp rr w nw) Q → mm_T none (d + 0) 326 (4, [some (.ref 62), some (.int y1), some (.int y2), some (.int y3)], []) (107, I, J, mm_rf rv sp rr w nw) Q := by
  intro n
  induction n with
  | zero =>
    intro y1 y2 y3 I J rv sp rr w nw out e k
    rw [fX12_leftBy_L4] at e; cases e
  | succ n ih =>
    intro y1 y2 y3 I J rv sp rr w nw out e k
    rw [fX12_leftBy_L4] at e
    refine mm_T.seg (f' := (6, [some (.ref 62), some (.int y1), some (.int y2), some (.int y3)], [(.int 3), (.int y3)])) (h' := (107, I, J, mm_rf rv sp rr w nw)) 2 rfl ?_
    refine mm_T.br (c := y3 < 3) (a := ((9, [some (.ref 62), some (.int y1), some (.int y2), some (.int y3)], []), (107, I, J, mm_rf rv sp rr w nw))) (b := ((44, [some (.ref 62), some (.int y1), some (.int y2), some (.int y3)], []), (107, I, J, mm_rf rv sp rr w nw))) rfl (fun h1125 => ?_) (fun h1125 => ?_)
    · rw [if_pos h1125] at e
      refine mm_T.seg (f' := (18, [some (.ref 62), some (.int y1), some (.int y2), some (.int y3)], [(.int ((3 * y1) + y3)), (.ref 104)])) (h' := (107, I, J, mm_rf rv sp rr w nw)) 7 rfl ?_
      by_cases h1126 : ((3 * y1) + y3) < 0 ∨ 18 ≤ ((3 * y1) + y3).toNatClampNeg
      · rw [if_pos h1126] at e; cases e
      rw [if_neg h1126] at e
      refine mm_T.guard (y := ((19, [some (.ref 62), some (.int y1), some (.int y2), some (.int y3)], [(.int (I 104 ((3 * y1) + y3).toNatClampNeg))]), (107, I, J, mm_rf rv sp rr w nw))) rfl h1126 ?_
      refine mm_T.seg (f' := (20, [some (.ref 62), some (.int y1), some (.int y2), some (.int y3)], [(.int y2), (.int (I 104 ((3 * y1) + y3).toNatClampNeg))])) (h' := (107, I, J, mm_rf rv sp rr w nw)) 1 rfl ?_
      refine mm_T.br (c := y2 < (I 104 ((3 * y1) + y3).toNatClampNeg)) (a := ((23, [some (.ref 62), some (.int y1), some (.int y2), some (.int y3)], []), (107, I, J, mm_rf rv sp rr w nw))) (b := ((36, [some (.ref 62), some (.int y1), some (.int y2), some (.int y3)], []), (107, I, J, mm_rf rv sp rr w nw))) rfl (fun h1127 => ?_) (fun h1127 => ?_)
      · rw [if_pos h1127] at e
        refine mm_T.seg (f' := (32, [some (.ref 62), some (.int y1), some (.int y2), some (.int y3)], [(.int ((3 * y1) + y3)), (.ref 104)])) (h' := (107, I, J, mm_rf rv sp rr w nw)) 7 rfl ?_
        by_cases h1128 : ((3 * y1) + y3) < 0 ∨ 18 ≤ ((3 * y1) + y3).toNatClampNeg
        · rw [if_pos h1128] at e; cases e
        rw [if_neg h1128] at e
        refine mm_T.guard (y := ((33, [some (.ref 62), some (.int y1), some (.int y2), some (.int y3)], [(.int (I 104 ((3 * y1) + y3).toNatClampNeg))]), (107, I, J, mm_rf rv sp rr w nw))) rfl h1128 ?_
        refine mm_T.seg (f' := (4, [some (.ref 62), some (.int y1), some (.int (I 104 ((3 * y1) + y3).toNatClampNeg)), some (.int (y3 + 1))], [])) (h' := (107, I, J, mm_rf rv sp rr w nw)) 4 rfl ?_
        refine mm_T.mask [true, true, true, true] ?_
        exact ih y1 (I 104 ((3 * y1) + y3).toNatClampNeg) (y3 + 1) I J rv sp rr w nw out e k
      · rw [if_neg h1127] at e
        refine mm_T.seg (f' := (4, [some (.ref 62), some (.int y1), some (.int y2), some (.int (y3 + 1))], [])) (h' := (107, I, J, mm_rf rv sp rr w nw)) 4 rfl ?_
        refine mm_T.mask [true, true, true, true] ?_
        exact ih y1 y2 (y3 + 1) I J rv sp rr w nw out e k
    · rw [if_neg h1125] at e
      cases e
      refine mm_T.mask [false, false, true, false] ?_
      exact k
set_option maxRecDepth 100000 in
set_option maxHeartbeats 4000000 in
theorem tX12_leftBy (d n : Nat) (x1 : Int32) (I : Nat → Nat → Int32) (J : Nat → Nat → Int64) (rv sp rr w nw : Nat) (out : Int32) (e : fX12_leftBy n x1 I = some out) : mm_T none (d + 0) 326 (mm_ent 326 [(.ref 62), (.int x1)]) (107, I, J, mm_rf rv sp rr w nw) (fun v h => v = some (.int out) ∧ h = (107, I, J, mm_rf rv sp rr w nw)) := by
  unfold fX12_leftBy at e
  refine mm_T.seg (f' := (4, [some (.ref 62), some (.int x1), some (.int 0), some (.int 0)], [])) (h' := (107, I, J, mm_rf rv sp rr w nw)) 4 rfl ?_
  refine mm_T.mask [true, true, true, true] ?_
  obtain ⟨o1129, eo1129, e⟩ := mm_bind e
  refine tlX12_leftBy_L4 d _ n x1 0 0 I J rv sp rr w nw o1129 eo1129 ?_
  refine mm_T.seg (f' := (45, [none, none, some (.int o1129), none], [(.int o1129)])) (h' := (107, I, J, mm_rf rv sp rr w nw)) 1 rfl ?_
  cases e
  exact mm_T.ret rfl ⟨rfl, rfl⟩
def fX12_ask_L24 (n : Nat) (y1 : Int32) (y3 : Int32) (y4 : Int32) (I : Nat → Nat → Int32) : Option (Int32) := match n with
  | 0 => none
  | n + 1 => (if y4 < (I 62 47) then (fX12_leftBy n y4 I).bind fun o1134 => (fX12_leftBy n y3 I).bind fun o1135 => (if o1134 < o1135 then fX12_ask_L24 n y1 y4 (y4 + 1) I else fX12_ask_L24 n y1 y3 (y4 + 1) I) else some y3)
def fX12_ask (n : Nat) (x1 : Int32) (x2 : Int32) (I : Nat → Nat → Int32) : Option (Int32 × (Nat → Nat → Int32)) := (if (fX12_isIn x1 0 1) = 0 then some ((-1), I) else (fX12_layFits n x2 I).bind fun o1131 => (if o1131.1 = 0 then some ((-1), o1131.2) else (fX12_ask_L24 n x1 0 1 o1131.2).bind fun o1137 => (if x1 = 0 then some ((o1137 + 1), o1131.2) else (fX12_leftBy n o1137 o1131.2).bind fun o1139 => some (o1139, o1131.2))))
set_option maxRecDepth 100000 in
set_option maxHeartbeats 4000000 in
theorem tlX12_ask_L24 (d : Nat) (Q : Option Value → mm_H → Prop) : ∀ (n : Nat) (y1 : Int32) (y3 : Int32) (y4 : Int32) (I : Nat → Nat → Int32) (J : Nat → Nat → Int64) (rv sp rr w nw : Nat), ∀ (out : Int32), fX12_ask_L24 n y1 y3 y4 I = some out → mm_T none (d + 5) 327 (60, [some (.ref 62), some (.int y1), none, some (.int out), none], []) (107, I, J, mm_rf rv sp rr w nw) Q → mm_T none (d + 5) 327 (24, [some (.ref 62), some (.int y1), none, some (.int y3), some (.int y4)], []) (107, I, J, mm_rf rv sp rr w nw) Q := by
  intro n
  induction n with
  | zero =>
    intro y1 y3 y4 I J rv sp rr w nw out e k
    rw [fX12_ask_L24] at e; cases e
  | succ n ih =>
    intro y1 y3 y4 I J rv sp rr w nw out e k
    rw [fX12_ask_L24] at e
    refine mm_T.seg (f' := (30, [some (.ref 62), some (.int y1), none, some (.int y3), some (.int y4)], [(.int (I 62 47)), (.int y4)])) (h' := (107, I, J, mm_rf rv sp rr w nw)) 3 rfl ?_
    refine mm_T.br (c := y4 < (I 62 47)) (a := ((33, [some (.ref 62), some (.int y1), none, some (.int y3), some (.int y4)], []), (107, I, J, mm_rf rv sp rr w nw))) (b := ((60, [some (.ref 62), some (.int y1), none, some (.int y3), some (.int y4)], []), (107, I, J, mm_rf rv sp rr w nw))) rfl (fun h1133 => ?_) (fun h1133 => ?_)
    · rw [if_pos h1133] at e
      refine mm_T.seg (f' := (36, [some (.ref 62), some (.int y1), none, some (.int y3), some (.int y4)], [(.int y4), (.ref 62)])) (h' := (107, I, J, mm_rf rv sp rr w nw)) 2 rfl ?_
      obtain ⟨o1134, eo1134, e⟩ := mm_bind e
      refine mm_T.call (t := 326) (as := [(.ref 62), (.int y4)]) (f' := (39, [some (.ref 62), some (.int y1), none, some (.int y3), some (.int y4)], [])) rfl (tX12_leftBy (d + 4) n y4 I J rv sp rr w nw o1134 eo1134) (fun v h hq => ?_)
      obtain ⟨rfl, rfl⟩ := hq
      refine mm_T.seg (f' := (41, [some (.ref 62), some (.int y1), none, some (.int y3), some (.int y4)], [(.int y3), (.ref 62), (.int o1134)])) (h' := (107, I, J, mm_rf rv sp rr w nw)) 2 rfl ?_
      obtain ⟨o1135, eo1135, e⟩ := mm_bind e
      refine mm_T.call (t := 326) (as := [(.ref 62), (.int y3)]) (f' := (44, [some (.ref 62), some (.int y1), none, some (.int y3), some (.int y4)], [(.int o1134)])) rfl (tX12_leftBy (d + 4) n y3 I J rv sp rr w nw o1135 eo1135) (fun v h hq => ?_)
      obtain ⟨rfl, rfl⟩ := hq
      refine mm_T.br (c := o1134 < o1135) (a := ((47, [some (.ref 62), some (.int y1), none, some (.int y3), some (.int y4)], []), (107, I, J, mm_rf rv sp rr w nw))) (b := ((52, [some (.ref 62), some (.int y1), none, some (.int y3), some (.int y4)], []), (107, I, J, mm_rf rv sp rr w nw))) rfl (fun h1136 => ?_) (fun h1136 => ?_)
      · rw [if_pos h1136] at e
        refine mm_T.seg (f' := (24, [some (.ref 62), some (.int y1), none, some (.int y4), some (.int (y4 + 1))], [])) (h' := (107, I, J, mm_rf rv sp rr w nw)) 5 rfl ?_
        refine mm_T.mask [true, true, false, true, true] ?_
        exact ih y1 y4 (y4 + 1) I J rv sp rr w nw out e k
      · rw [if_neg h1136] at e
        refine mm_T.seg (f' := (24, [some (.ref 62), some (.int y1), none, some (.int y3), some (.int (y4 + 1))], [])) (h' := (107, I, J, mm_rf rv sp rr w nw)) 4 rfl ?_
        refine mm_T.mask [true, true, false, true, true] ?_
        exact ih y1 y3 (y4 + 1) I J rv sp rr w nw out e k
    · rw [if_neg h1133] at e
      cases e
      refine mm_T.mask [true, true, false, true, false] ?_
      exact k
set_option maxRecDepth 100000 in
set_option maxHeartbeats 4000000 in
theorem tX12_ask (d n : Nat) (x1 : Int32) (x2 : Int32) (I : Nat → Nat → Int32) (J : Nat → Nat → Int64) (rv sp rr w nw : Nat) (out : Int32 × (Nat → Nat → Int32)) (e : fX12_ask n x1 x2 I = some out) : mm_T none (d + 5) 327 (mm_ent 327 [(.ref 62), (.int x1), (.int x2)]) (107, I, J, mm_rf rv sp rr w nw) (fun v h => v = some (.int out.1) ∧ h = (107, out.2, J, mm_rf rv sp rr w nw)) := by
  unfold fX12_ask at e
  refine mm_T.seg (f' := (3, [some (.ref 62), some (.int x1), some (.int x2), none, none], [(.int 1), (.int 0), (.int x1)])) (h' := (107, I, J, mm_rf rv sp rr w nw)) 3 rfl ?_
  refine mm_T.call (t := 252) (as := [(.int x1), (.int 0), (.int 1)]) (f' := (6, [some (.ref 62), some (.int x1), some (.int x2), none, none], [])) rfl (tX12_isIn (d + 4) x1 0 1 I J rv sp rr w nw _ rfl) (fun v h hq => ?_)
  obtain ⟨rfl, rfl⟩ := hq
  refine mm_T.br (c := (fX12_isIn x1 0 1) = 0) (a := ((17, [some (.ref 62), some (.int x1), some (.int x2), none, none], []), (107, I, J, mm_rf rv sp rr w nw))) (b := ((9, [some (.ref 62), some (.int x1), some (.int x2), none, none], []), (107, I, J, mm_rf rv sp rr w nw))) rfl (fun h1130 => ?_) (fun h1130 => ?_)
  · rw [if_pos h1130] at e
    refine mm_T.seg (f' := (18, [some (.ref 62), some (.int x1), some (.int x2), none, none], [(.int (-1))])) (h' := (107, I, J, mm_rf rv sp rr w nw)) 1 rfl ?_
    cases e
    exact mm_T.ret rfl ⟨rfl, rfl⟩
  · rw [if_neg h1130] at e
    refine mm_T.seg (f' := (11, [some (.ref 62), some (.int x1), some (.int x2), none, none], [(.int x2), (.ref 62)])) (h' := (107, I, J, mm_rf rv sp rr w nw)) 2 rfl ?_
    obtain ⟨o1131, eo1131, e⟩ := mm_bind e
    refine mm_T.call (t := 323) (as := [(.ref 62), (.int x2)]) (f' := (14, [some (.ref 62), some (.int x1), some (.int x2), none, none], [])) rfl (tX12_layFits (d + 0) n x2 I J rv sp rr w nw o1131 eo1131) (fun v h hq => ?_)
    obtain ⟨rfl, rfl⟩ := hq
    refine mm_T.br (c := o1131.1 = 0) (a := ((17, [some (.ref 62), some (.int x1), some (.int x2), none, none], []), (107, o1131.2, J, mm_rf rv sp rr w nw))) (b := ((19, [some (.ref 62), some (.int x1), some (.int x2), none, none], []), (107, o1131.2, J, mm_rf rv sp rr w nw))) rfl (fun h1132 => ?_) (fun h1132 => ?_)
    · rw [if_pos h1132] at e
      refine mm_T.seg (f' := (18, [some (.ref 62), some (.int x1), some (.int x2), none, none], [(.int (-1))])) (h' := (107, o1131.2, J, mm_rf rv sp rr w nw)) 1 rfl ?_
      cases e
      exact mm_T.ret rfl ⟨rfl, rfl⟩
    · rw [if_neg h1132] at e
      refine mm_T.seg (f' := (24, [some (.ref 62), some (.int x1), some (.int x2), some (.int 0), some (.int 1)], [])) (h' := (107, o1131.2, J, mm_rf rv sp rr w nw)) 4 rfl ?_
      refine mm_T.mask [true, true, false, true, true] ?_
      obtain ⟨o1137, eo1137, e⟩ := mm_bind e
      refine tlX12_ask_L24 d _ n x1 0 1 o1131.2 J rv sp rr w nw o1137 eo1137 ?_
      refine mm_T.seg (f' := (61, [some (.ref 62), some (.int x1), none, some (.int o1137), none], [(.int x1)])) (h' := (107, o1131.2, J, mm_rf rv sp rr w nw)) 1 rfl ?_
      refine mm_T.br (c := x1 = 0) (a := ((64, [some (.ref 62), some (.int x1), none, some (.int o1137), none], []), (107, o1131.2, J, mm_rf rv sp rr w nw))) (b := ((70, [some (.ref 62), some (.int x1), none, some (.int o1137), none], []), (107, o1131.2, J, mm_rf rv sp rr w nw))) rfl (fun h1138 => ?_) (fun h1138 => ?_)
      · rw [if_pos h1138] at e
        refine mm_T.seg (f' := (75, [some (.ref 62), some (.int x1), none, some (.int o1137), none], [(.int (o1137 + 1))])) (h' := (107, o1131.2, J, mm_rf rv sp rr w nw)) 4 rfl ?_
        cases e
        exact mm_T.ret rfl ⟨rfl, rfl⟩
      · rw [if_neg h1138] at e
        refine mm_T.seg (f' := (72, [some (.ref 62), some (.int x1), none, some (.int o1137), none], [(.int o1137), (.ref 62)])) (h' := (107, o1131.2, J, mm_rf rv sp rr w nw)) 2 rfl ?_
        obtain ⟨o1139, eo1139, e⟩ := mm_bind e
        refine mm_T.call (t := 326) (as := [(.ref 62), (.int o1137)]) (f' := (75, [some (.ref 62), some (.int x1), none, some (.int o1137), none], [])) rfl (tX12_leftBy (d + 4) n o1137 o1131.2 J rv sp rr w nw o1139 eo1139) (fun v h hq => ?_)
        obtain ⟨rfl, rfl⟩ := hq
        cases e
        exact mm_T.ret rfl ⟨rfl, rfl⟩
def fX12_isBox (x0 : Int32) : Int32 := (if x0 < 0 then 0 else (if x0 < 3 then 1 else 0))
set_option maxRecDepth 100000 in
set_option maxHeartbeats 4000000 in
theorem tX12_isBox (d : Nat) (x0 : Int32) (I : Nat → Nat → Int32) (J : Nat → Nat → Int64) (rv sp rr w nw : Nat) (out : Int32) (e : fX12_isBox x0 = out) : mm_T none (d + 0) 328 (mm_ent 328 [(.int x0)]) (107, I, J, mm_rf rv sp rr w nw) (fun v h => v = some (.int out) ∧ h = (107, I, J, mm_rf rv sp rr w nw)) := by
  unfold fX12_isBox at e
  refine mm_T.seg (f' := (1, [some (.int x0)], [(.int x0)])) (h' := (107, I, J, mm_rf rv sp rr w nw)) 1 rfl ?_
  refine mm_T.br (c := x0 < 0) (a := ((13, [some (.int x0)], []), (107, I, J, mm_rf rv sp rr w nw))) (b := ((4, [some (.int x0)], []), (107, I, J, mm_rf rv sp rr w nw))) rfl (fun h1140 => ?_) (fun h1140 => ?_)
  · rw [if_pos h1140] at e
    refine mm_T.seg (f' := (14, [some (.int x0)], [(.int 0)])) (h' := (107, I, J, mm_rf rv sp rr w nw)) 1 rfl ?_
    cases e
    exact mm_T.ret rfl ⟨rfl, rfl⟩
  · rw [if_neg h1140] at e
    refine mm_T.seg (f' := (6, [some (.int x0)], [(.int 3), (.int x0)])) (h' := (107, I, J, mm_rf rv sp rr w nw)) 2 rfl ?_
    refine mm_T.br (c := x0 < 3) (a := ((9, [some (.int x0)], []), (107, I, J, mm_rf rv sp rr w nw))) (b := ((13, [some (.int x0)], []), (107, I, J, mm_rf rv sp rr w nw))) rfl (fun h1141 => ?_) (fun h1141 => ?_)
    · rw [if_pos h1141] at e
      refine mm_T.seg (f' := (14, [some (.int x0)], [(.int 1)])) (h' := (107, I, J, mm_rf rv sp rr w nw)) 2 rfl ?_
      cases e
      exact mm_T.ret rfl ⟨rfl, rfl⟩
    · rw [if_neg h1141] at e
      refine mm_T.seg (f' := (14, [some (.int x0)], [(.int 0)])) (h' := (107, I, J, mm_rf rv sp rr w nw)) 1 rfl ?_
      cases e
      exact mm_T.ret rfl ⟨rfl, rfl⟩
def fX12_image_L18 (n : Nat) (y1 : Int32) (y2 : Int32) (I : Nat → Nat → Int32) : Option ((Nat → Nat → Int32)) := match n with
  | 0 => none
  | n + 1 => (if y2 < 28 then (if y2 < 0 ∨ 28 ≤ y2.toNatClampNeg then none else (if ((28 * y1) + y2) < 0 ∨ 84 ≤ ((28 * y1) + y2).toNatClampNeg then none else fX12_image_L18 n y1 (y2 + 1) (mm_up I 106 ((28 * y1) + y2).toNatClampNeg (I 84 y2.toNatClampNeg)))) else some I)
def fX12_image (n : Nat) (x1 : Int32) (I : Nat → Nat → Int32) : Option (Int32 × (Nat → Nat → Int32)) := (if (fX12_isBox x1) = 0 then some ((-1), I) else (if x1 < 0 ∨ 3 ≤ x1.toNatClampNeg then none else (fX12_image_L18 n x1 0 (mm_up I 105 x1.toNatClampNeg (vp_nar .boolean 1))).bind fun o1147 => (fX12_over n o1147).bind fun o1148 => (fX12_members n o1148.1).bind fun o1149 => some (o1149, o1148.2)))
set_option maxRecDepth 100000 in
set_option maxHeartbeats 4000000 in
theorem tlX12_image_L18 (d : Nat) (Q : Option Value → mm_H → Prop) : ∀ (n : Nat) (y1 : Int32) (y2 : Int32) (I : Nat → Nat → Int32) (J : Nat → Nat → Int64) (rv sp rr w nw : Nat), ∀ (out : (Nat → Nat → Int32)), fX12_image_L18 n y1 y2 I = some out → mm_T none (d + 3) 329 (47, [some (.ref 62), none, none], []) (107, out, J, mm_rf rv sp rr w nw) Q → mm_T none (d + 3) 329 (18, [some (.ref 62), some (.int y1), some (.int y2)], []) (107, I, J, mm_rf rv sp rr w nw) Q := by
  intro n
  induction n with
  | zero =>
    intro y1 y2 I J rv sp rr w nw out e k
    rw [fX12_image_L18] at e; cases e
  | succ n ih =>
    intro y1 y2 I J rv sp rr w nw out e k
    rw [fX12_image_L18] at e
    refine mm_T.seg (f' := (21, [some (.ref 62), some (.int y1), some (.int y2)], [(.int 28), (.int y2)])) (h' := (107, I, J, mm_rf rv sp rr w nw)) 2 rfl ?_
    refine mm_T.br (c := y2 < 28) (a := ((24, [some (.ref 62), some (.int y1), some (.int y2)], []), (107, I, J, mm_rf rv sp rr w nw))) (b := ((47, [some (.ref 62), some (.int y1), some (.int y2)], []), (107, I, J, mm_rf rv sp rr w nw))) rfl (fun h1144 => ?_) (fun h1144 => ?_)
    · rw [if_pos h1144] at e
      refine mm_T.seg (f' := (39, [some (.ref 62), some (.int y1), some (.int y2)], [(.int y2), (.ref 84), (.int ((28 * y1) + y2)), (.ref 106)])) (h' := (107, I, J, mm_rf rv sp rr w nw)) 10 rfl ?_
      by_cases h1145 : y2 < 0 ∨ 28 ≤ y2.toNatClampNeg
      · rw [if_pos h1145] at e; cases e
      rw [if_neg h1145] at e
      refine mm_T.guard (y := ((40, [some (.ref 62), some (.int y1), some (.int y2)], [(.int (I 84 y2.toNatClampNeg)), (.int ((28 * y1) + y2)), (.ref 106)]), (107, I, J, mm_rf rv sp rr w nw))) rfl h1145 ?_
      by_cases h1146 : ((28 * y1) + y2) < 0 ∨ 84 ≤ ((28 * y1) + y2).toNatClampNeg
      · rw [if_pos h1146] at e; cases e
      rw [if_neg h1146] at e
      refine mm_T.guard (y := ((41, [some (.ref 62), some (.int y1), some (.int y2)], []), (107, (mm_up I 106 ((28 * y1) + y2).toNatClampNeg (I 84 y2.toNatClampNeg)), J, mm_rf rv sp rr w nw))) rfl h1146 ?_
      refine mm_T.seg (f' := (18, [some (.ref 62), some (.int y1), some (.int (y2 + 1))], [])) (h' := (107, (mm_up I 106 ((28 * y1) + y2).toNatClampNeg (I 84 y2.toNatClampNeg)), J, mm_rf rv sp rr w nw)) 2 rfl ?_
      refine mm_T.mask [true, true, true] ?_
      exact ih y1 (y2 + 1) (mm_up I 106 ((28 * y1) + y2).toNatClampNeg (I 84 y2.toNatClampNeg)) J rv sp rr w nw out e k
    · rw [if_neg h1144] at e
      cases e
      refine mm_T.mask [true, false, false] ?_
      exact k
set_option maxRecDepth 100000 in
set_option maxHeartbeats 4000000 in
theorem tX12_image (d n : Nat) (x1 : Int32) (I : Nat → Nat → Int32) (J : Nat → Nat → Int64) (rv sp rr w nw : Nat) (out : Int32 × (Nat → Nat → Int32)) (e : fX12_image n x1 I = some out) : mm_T none (d + 3) 329 (mm_ent 329 [(.ref 62), (.int x1)]) (107, I, J, mm_rf rv sp rr w nw) (fun v h => v = some (.int out.1) ∧ h = (107, out.2, J, mm_rf rv sp rr w nw)) := by
  unfold fX12_image at e
  refine mm_T.seg (f' := (1, [some (.ref 62), some (.int x1), none], [(.int x1)])) (h' := (107, I, J, mm_rf rv sp rr w nw)) 1 rfl ?_
  refine mm_T.call (t := 328) (as := [(.int x1)]) (f' := (4, [some (.ref 62), some (.int x1), none], [])) rfl (tX12_isBox (d + 2) x1 I J rv sp rr w nw _ rfl) (fun v h hq => ?_)
  obtain ⟨rfl, rfl⟩ := hq
  refine mm_T.br (c := (fX12_isBox x1) = 0) (a := ((7, [some (.ref 62), some (.int x1), none], []), (107, I, J, mm_rf rv sp rr w nw))) (b := ((9, [some (.ref 62), some (.int x1), none], []), (107, I, J, mm_rf rv sp rr w nw))) rfl (fun h1142 => ?_) (fun h1142 => ?_)
  · rw [if_pos h1142] at e
    refine mm_T.seg (f' := (8, [some (.ref 62), some (.int x1), none], [(.int (-1))])) (h' := (107, I, J, mm_rf rv sp rr w nw)) 1 rfl ?_
    cases e
    exact mm_T.ret rfl ⟨rfl, rfl⟩
  · rw [if_neg h1142] at e
    refine mm_T.seg (f' := (15, [some (.ref 62), some (.int x1), none], [(.int 1), (.int x1), (.ref 105)])) (h' := (107, I, J, mm_rf rv sp rr w nw)) 4 rfl ?_
    by_cases h1143 : x1 < 0 ∨ 3 ≤ x1.toNatClampNeg
    · rw [if_pos h1143] at e; cases e
    rw [if_neg h1143] at e
    refine mm_T.guard (y := ((16, [some (.ref 62), some (.int x1), none], []), (107, (mm_up I 105 x1.toNatClampNeg (vp_nar .boolean 1)), J, mm_rf rv sp rr w nw))) rfl h1143 ?_
    refine mm_T.seg (f' := (18, [some (.ref 62), some (.int x1), some (.int 0)], [])) (h' := (107, (mm_up I 105 x1.toNatClampNeg (vp_nar .boolean 1)), J, mm_rf rv sp rr w nw)) 2 rfl ?_
    refine mm_T.mask [true, true, true] ?_
    obtain ⟨o1147, eo1147, e⟩ := mm_bind e
    refine tlX12_image_L18 d _ n x1 0 (mm_up I 105 x1.toNatClampNeg (vp_nar .boolean 1)) J rv sp rr w nw o1147 eo1147 ?_
    refine mm_T.seg (f' := (48, [some (.ref 62), none, none], [(.ref 62)])) (h' := (107, o1147, J, mm_rf rv sp rr w nw)) 1 rfl ?_
    obtain ⟨o1148, eo1148, e⟩ := mm_bind e
    refine mm_T.call (t := 311) (as := [(.ref 62)]) (f' := (51, [some (.ref 62), none, none], [])) rfl (tX12_over (d + 0) n o1147 J rv sp rr w nw o1148 eo1148) (fun v h hq => ?_)
    obtain ⟨rfl, rfl⟩ := hq
    obtain ⟨o1149, eo1149, e⟩ := mm_bind e
    refine mm_T.call (t := 255) (as := [(.int o1148.1)]) (f' := (54, [some (.ref 62), none, none], [])) rfl (tX12_members (d + 2) n o1148.1 o1148.2 J rv sp rr w nw o1149 eo1149) (fun v h hq => ?_)
    obtain ⟨rfl, rfl⟩ := hq
    cases e
    exact mm_T.ret rfl ⟨rfl, rfl⟩
def fX12_back_L20 (n : Nat) (y1 : Int32) (y2 : Int32) (I : Nat → Nat → Int32) : Option ((Nat → Nat → Int32)) := match n with
  | 0 => none
  | n + 1 => (if y2 < 28 then (if ((28 * y1) + y2) < 0 ∨ 84 ≤ ((28 * y1) + y2).toNatClampNeg then none else (if y2 < 0 ∨ 28 ≤ y2.toNatClampNeg then none else fX12_back_L20 n y1 (y2 + 1) (mm_up I 84 y2.toNatClampNeg (I 106 ((28 * y1) + y2).toNatClampNeg)))) else some I)
def fX12_back (n : Nat) (x1 : Int32) (I : Nat → Nat → Int32) : Option (Int32 × (Nat → Nat → Int32)) := (if (fX12_isBox x1) = 0 then some ((-1), I) else (if x1 < 0 ∨ 3 ≤ x1.toNatClampNeg then none else (if (I 105 x1.toNatClampNeg) = 0 then some ((-1), I) else (fX12_back_L20 n x1 0 I).bind fun o1156 => (fX12_over n (mm_up (mm_up o1156 62 57 0) 62 58 0)).bind fun o1157 => (fX12_members n o1157.1).bind fun o1158 => some (o1158, o1157.2))))
set_option maxRecDepth 100000 in
set_option maxHeartbeats 4000000 in
theorem tlX12_back_L20 (d : Nat) (Q : Option Value → mm_H → Prop) : ∀ (n : Nat) (y1 : Int32) (y2 : Int32) (I : Nat → Nat → Int32) (J : Nat → Nat → Int64) (rv sp rr w nw : Nat), ∀ (out : (Nat → Nat → Int32)), fX12_back_L20 n y1 y2 I = some out → mm_T none (d + 3) 330 (49, [some (.ref 62), none, none], []) (107, out, J, mm_rf rv sp rr w nw) Q → mm_T none (d + 3) 330 (20, [some (.ref 62), some (.int y1), some (.int y2)], []) (107, I, J, mm_rf rv sp rr w nw) Q := by
  intro n
  induction n with
  | zero =>
    intro y1 y2 I J rv sp rr w nw out e k
    rw [fX12_back_L20] at e; cases e
  | succ n ih =>
    intro y1 y2 I J rv sp rr w nw out e k
    rw [fX12_back_L20] at e
    refine mm_T.seg (f' := (23, [some (.ref 62), some (.int y1), some (.int y2)], [(.int 28), (.int y2)])) (h' := (107, I, J, mm_rf rv sp rr w nw)) 2 rfl ?_
    refine mm_T.br (c := y2 < 28) (a := ((26, [some (.ref 62), some (.int y1), some (.int y2)], []), (107, I, J, mm_rf rv sp rr w nw))) (b := ((49, [some (.ref 62), some (.int y1), some (.int y2)], []), (107, I, J, mm_rf rv sp rr w nw))) rfl (fun h1153 => ?_) (fun h1153 => ?_)
    · rw [if_pos h1153] at e
      refine mm_T.seg (f' := (41, [some (.ref 62), some (.int y1), some (.int y2)], [(.int ((28 * y1) + y2)), (.ref 106), (.int y2), (.ref 84)])) (h' := (107, I, J, mm_rf rv sp rr w nw)) 10 rfl ?_
      by_cases h1154 : ((28 * y1) + y2) < 0 ∨ 84 ≤ ((28 * y1) + y2).toNatClampNeg
      · rw [if_pos h1154] at e; cases e
      rw [if_neg h1154] at e
      refine mm_T.guard (y := ((42, [some (.ref 62), some (.int y1), some (.int y2)], [(.int (I 106 ((28 * y1) + y2).toNatClampNeg)), (.int y2), (.ref 84)]), (107, I, J, mm_rf rv sp rr w nw))) rfl h1154 ?_
      by_cases h1155 : y2 < 0 ∨ 28 ≤ y2.toNatClampNeg
      · rw [if_pos h1155] at e; cases e
      rw [if_neg h1155] at e
      refine mm_T.guard (y := ((43, [some (.ref 62), some (.int y1), some (.int y2)], []), (107, (mm_up I 84 y2.toNatClampNeg (I 106 ((28 * y1) + y2).toNatClampNeg)), J, mm_rf rv sp rr w nw))) rfl h1155 ?_
      refine mm_T.seg (f' := (20, [some (.ref 62), some (.int y1), some (.int (y2 + 1))], [])) (h' := (107, (mm_up I 84 y2.toNatClampNeg (I 106 ((28 * y1) + y2).toNatClampNeg)), J, mm_rf rv sp rr w nw)) 2 rfl ?_
      refine mm_T.mask [true, true, true] ?_
      exact ih y1 (y2 + 1) (mm_up I 84 y2.toNatClampNeg (I 106 ((28 * y1) + y2).toNatClampNeg)) J rv sp rr w nw out e k
    · rw [if_neg h1153] at e
      cases e
      refine mm_T.mask [true, false, false] ?_
      exact k
set_option maxRecDepth 100000 in
set_option maxHeartbeats 4000000 in
theorem tX12_back (d n : Nat) (x1 : Int32) (I : Nat → Nat → Int32) (J : Nat → Nat → Int64) (rv sp rr w nw : Nat) (out : Int32 × (Nat → Nat → Int32)) (e : fX12_back n x1 I = some out) : mm_T none (d + 3) 330 (mm_ent 330 [(.ref 62), (.int x1)]) (107, I, J, mm_rf rv sp rr w nw) (fun v h => v = some (.int out.1) ∧ h = (107, out.2, J, mm_rf rv sp rr w nw)) := by
  unfold fX12_back at e
  refine mm_T.seg (f' := (1, [some (.ref 62), some (.int x1), none], [(.int x1)])) (h' := (107, I, J, mm_rf rv sp rr w nw)) 1 rfl ?_
  refine mm_T.call (t := 328) (as := [(.int x1)]) (f' := (4, [some (.ref 62), some (.int x1), none], [])) rfl (tX12_isBox (d + 2) x1 I J rv sp rr w nw _ rfl) (fun v h hq => ?_)
  obtain ⟨rfl, rfl⟩ := hq
  refine mm_T.br (c := (fX12_isBox x1) = 0) (a := ((16, [some (.ref 62), some (.int x1), none], []), (107, I, J, mm_rf rv sp rr w nw))) (b := ((7, [some (.ref 62), some (.int x1), none], []), (107, I, J, mm_rf rv sp rr w nw))) rfl (fun h1150 => ?_) (fun h1150 => ?_)
  · rw [if_pos h1150] at e
    refine mm_T.seg (f' := (17, [some (.ref 62), some (.int x1), none], [(.int (-1))])) (h' := (107, I, J, mm_rf rv sp rr w nw)) 1 rfl ?_
    cases e
    exact mm_T.ret rfl ⟨rfl, rfl⟩
  · rw [if_neg h1150] at e
    refine mm_T.seg (f' := (12, [some (.ref 62), some (.int x1), none], [(.int x1), (.ref 105)])) (h' := (107, I, J, mm_rf rv sp rr w nw)) 3 rfl ?_
    by_cases h1151 : x1 < 0 ∨ 3 ≤ x1.toNatClampNeg
    · rw [if_pos h1151] at e; cases e
    rw [if_neg h1151] at e
    refine mm_T.guard (y := ((13, [some (.ref 62), some (.int x1), none], [(.int (I 105 x1.toNatClampNeg))]), (107, I, J, mm_rf rv sp rr w nw))) rfl h1151 ?_
    refine mm_T.br (c := (I 105 x1.toNatClampNeg) = 0) (a := ((16, [some (.ref 62), some (.int x1), none], []), (107, I, J, mm_rf rv sp rr w nw))) (b := ((18, [some (.ref 62), some (.int x1), none], []), (107, I, J, mm_rf rv sp rr w nw))) rfl (fun h1152 => ?_) (fun h1152 => ?_)
    · rw [if_pos h1152] at e
      refine mm_T.seg (f' := (17, [some (.ref 62), some (.int x1), none], [(.int (-1))])) (h' := (107, I, J, mm_rf rv sp rr w nw)) 1 rfl ?_
      cases e
      exact mm_T.ret rfl ⟨rfl, rfl⟩
    · rw [if_neg h1152] at e
      refine mm_T.seg (f' := (20, [some (.ref 62), some (.int x1), some (.int 0)], [])) (h' := (107, I, J, mm_rf rv sp rr w nw)) 2 rfl ?_
      refine mm_T.mask [true, true, true] ?_
      obtain ⟨o1156, eo1156, e⟩ := mm_bind e
      refine tlX12_back_L20 d _ n x1 0 I J rv sp rr w nw o1156 eo1156 ?_
      refine mm_T.seg (f' := (60, [some (.ref 62), none, none], [(.ref 62)])) (h' := (107, (mm_up (mm_up o1156 62 57 0) 62 58 0), J, mm_rf rv sp rr w nw)) 7 rfl ?_
      obtain ⟨o1157, eo1157, e⟩ := mm_bind e
      refine mm_T.call (t := 311) (as := [(.ref 62)]) (f' := (63, [some (.ref 62), none, none], [])) rfl (tX12_over (d + 0) n (mm_up (mm_up o1156 62 57 0) 62 58 0) J rv sp rr w nw o1157 eo1157) (fun v h hq => ?_)
      obtain ⟨rfl, rfl⟩ := hq
      obtain ⟨o1158, eo1158, e⟩ := mm_bind e
      refine mm_T.call (t := 255) (as := [(.int o1157.1)]) (f' := (66, [some (.ref 62), none, none], [])) rfl (tX12_members (d + 2) n o1157.1 o1157.2 J rv sp rr w nw o1158 eo1158) (fun v h hq => ?_)
      obtain ⟨rfl, rfl⟩ := hq
      cases e
      exact mm_T.ret rfl ⟨rfl, rfl⟩
def fX12_about (x1 : Int32) (I : Nat → Nat → Int32) : Int32 := (if x1 = 0 then (I 62 48) else (if x1 = 1 then (I 62 49) else (if x1 = 2 then (I 62 46) else (if x1 = 3 then (I 62 47) else (if x1 = 4 then (I 62 50) else (if x1 = 5 then (I 84 27) else (if x1 = 6 then (I 62 57) else (if x1 = 7 then (I 62 58) else (if x1 = 8 then (I 62 75) else (if x1 = 9 then (I 62 76) else (if x1 = 10 then (I 62 1) else (if x1 = 11 then (I 62 21) else (if x1 = 12 then (I 62 61) else (-1))))))))))))))
set_option maxRecDepth 100000 in
set_option maxHeartbeats 4000000 in
theorem tX12_about (d : Nat) (x1 : Int32) (I : Nat → Nat → Int32) (J : Nat → Nat → Int64) (rv sp rr w nw : Nat) (out : Int32) (e : fX12_about x1 I = out) : mm_T none (d + 0) 331 (mm_ent 331 [(.ref 62), (.int x1)]) (107, I, J, mm_rf rv sp rr w nw) (fun v h => v = some (.int out) ∧ h = (107, I, J, mm_rf rv sp rr w nw)) := by
  unfold fX12_about at e
  refine mm_T.seg (f' := (1, [some (.ref 62), some (.int x1)], [(.int x1)])) (h' := (107, I, J, mm_rf rv sp rr w nw)) 1 rfl ?_
  by_cases h1159 : x1 = 0
  · rw [if_pos h1159] at e
    refine mm_T.step (f' := (68, [some (.ref 62), some (.int x1)], [])) (h' := (107, I, J, mm_rf rv sp rr w nw)) (by rw [h1159]; rfl) ?_
    refine mm_T.seg (f' := (72, [some (.ref 62), some (.int x1)], [(.int (I 62 48))])) (h' := (107, I, J, mm_rf rv sp rr w nw)) 2 rfl ?_
    cases e
    exact mm_T.ret rfl ⟨rfl, rfl⟩
  · rw [if_neg h1159] at e
    by_cases h1160 : x1 = 1
    · rw [if_pos h1160] at e
      refine mm_T.step (f' := (73, [some (.ref 62), some (.int x1)], [])) (h' := (107, I, J, mm_rf rv sp rr w nw)) (by rw [h1160]; rfl) ?_
      refine mm_T.seg (f' := (77, [some (.ref 62), some (.int x1)], [(.int (I 62 49))])) (h' := (107, I, J, mm_rf rv sp rr w nw)) 2 rfl ?_
      cases e
      exact mm_T.ret rfl ⟨rfl, rfl⟩
    · rw [if_neg h1160] at e
      by_cases h1161 : x1 = 2
      · rw [if_pos h1161] at e
        refine mm_T.step (f' := (78, [some (.ref 62), some (.int x1)], [])) (h' := (107, I, J, mm_rf rv sp rr w nw)) (by rw [h1161]; rfl) ?_
        refine mm_T.seg (f' := (82, [some (.ref 62), some (.int x1)], [(.int (I 62 46))])) (h' := (107, I, J, mm_rf rv sp rr w nw)) 2 rfl ?_
        cases e
        exact mm_T.ret rfl ⟨rfl, rfl⟩
      · rw [if_neg h1161] at e
        by_cases h1162 : x1 = 3
        · rw [if_pos h1162] at e
          refine mm_T.step (f' := (83, [some (.ref 62), some (.int x1)], [])) (h' := (107, I, J, mm_rf rv sp rr w nw)) (by rw [h1162]; rfl) ?_
          refine mm_T.seg (f' := (87, [some (.ref 62), some (.int x1)], [(.int (I 62 47))])) (h' := (107, I, J, mm_rf rv sp rr w nw)) 2 rfl ?_
          cases e
          exact mm_T.ret rfl ⟨rfl, rfl⟩
        · rw [if_neg h1162] at e
          by_cases h1163 : x1 = 4
          · rw [if_pos h1163] at e
            refine mm_T.step (f' := (88, [some (.ref 62), some (.int x1)], [])) (h' := (107, I, J, mm_rf rv sp rr w nw)) (by rw [h1163]; rfl) ?_
            refine mm_T.seg (f' := (92, [some (.ref 62), some (.int x1)], [(.int (I 62 50))])) (h' := (107, I, J, mm_rf rv sp rr w nw)) 2 rfl ?_
            cases e
            exact mm_T.ret rfl ⟨rfl, rfl⟩
          · rw [if_neg h1163] at e
            by_cases h1164 : x1 = 5
            · rw [if_pos h1164] at e
              refine mm_T.step (f' := (93, [some (.ref 62), some (.int x1)], [])) (h' := (107, I, J, mm_rf rv sp rr w nw)) (by rw [h1164]; rfl) ?_
              refine mm_T.seg (f' := (100, [some (.ref 62), some (.int x1)], [(.int (I 84 27))])) (h' := (107, I, J, mm_rf rv sp rr w nw)) 4 rfl ?_
              cases e
              exact mm_T.ret rfl ⟨rfl, rfl⟩
            · rw [if_neg h1164] at e
              by_cases h1165 : x1 = 6
              · rw [if_pos h1165] at e
                refine mm_T.step (f' := (101, [some (.ref 62), some (.int x1)], [])) (h' := (107, I, J, mm_rf rv sp rr w nw)) (by rw [h1165]; rfl) ?_
                refine mm_T.seg (f' := (105, [some (.ref 62), some (.int x1)], [(.int (I 62 57))])) (h' := (107, I, J, mm_rf rv sp rr w nw)) 2 rfl ?_
                cases e
                exact mm_T.ret rfl ⟨rfl, rfl⟩
              · rw [if_neg h1165] at e
                by_cases h1166 : x1 = 7
                · rw [if_pos h1166] at e
                  refine mm_T.step (f' := (106, [some (.ref 62), some (.int x1)], [])) (h' := (107, I, J, mm_rf rv sp rr w nw)) (by rw [h1166]; rfl) ?_
                  refine mm_T.seg (f' := (110, [some (.ref 62), some (.int x1)], [(.int (I 62 58))])) (h' := (107, I, J, mm_rf rv sp rr w nw)) 2 rfl ?_
                  cases e
                  exact mm_T.ret rfl ⟨rfl, rfl⟩
                · rw [if_neg h1166] at e
                  by_cases h1167 : x1 = 8
                  · rw [if_pos h1167] at e
                    refine mm_T.step (f' := (111, [some (.ref 62), some (.int x1)], [])) (h' := (107, I, J, mm_rf rv sp rr w nw)) (by rw [h1167]; rfl) ?_
                    refine mm_T.seg (f' := (115, [some (.ref 62), some (.int x1)], [(.int (I 62 75))])) (h' := (107, I, J, mm_rf rv sp rr w nw)) 2 rfl ?_
                    cases e
                    exact mm_T.ret rfl ⟨rfl, rfl⟩
                  · rw [if_neg h1167] at e
                    by_cases h1168 : x1 = 9
                    · rw [if_pos h1168] at e
                      refine mm_T.step (f' := (116, [some (.ref 62), some (.int x1)], [])) (h' := (107, I, J, mm_rf rv sp rr w nw)) (by rw [h1168]; rfl) ?_
                      refine mm_T.seg (f' := (120, [some (.ref 62), some (.int x1)], [(.int (I 62 76))])) (h' := (107, I, J, mm_rf rv sp rr w nw)) 2 rfl ?_
                      cases e
                      exact mm_T.ret rfl ⟨rfl, rfl⟩
                    · rw [if_neg h1168] at e
                      by_cases h1169 : x1 = 10
                      · rw [if_pos h1169] at e
                        refine mm_T.step (f' := (121, [some (.ref 62), some (.int x1)], [])) (h' := (107, I, J, mm_rf rv sp rr w nw)) (by rw [h1169]; rfl) ?_
                        refine mm_T.seg (f' := (125, [some (.ref 62), some (.int x1)], [(.int (I 62 1))])) (h' := (107, I, J, mm_rf rv sp rr w nw)) 2 rfl ?_
                        cases e
                        exact mm_T.ret rfl ⟨rfl, rfl⟩
                      · rw [if_neg h1169] at e
                        by_cases h1170 : x1 = 11
                        · rw [if_pos h1170] at e
                          refine mm_T.step (f' := (126, [some (.ref 62), some (.int x1)], [])) (h' := (107, I, J, mm_rf rv sp rr w nw)) (by rw [h1170]; rfl) ?_
                          refine mm_T.seg (f' := (130, [some (.ref 62), some (.int x1)], [(.int (I 62 21))])) (h' := (107, I, J, mm_rf rv sp rr w nw)) 2 rfl ?_
                          cases e
                          exact mm_T.ret rfl ⟨rfl, rfl⟩
                        · rw [if_neg h1170] at e
                          by_cases h1171 : x1 = 12
                          · rw [if_pos h1171] at e
                            refine mm_T.step (f' := (131, [some (.ref 62), some (.int x1)], [])) (h' := (107, I, J, mm_rf rv sp rr w nw)) (by rw [h1171]; rfl) ?_
                            refine mm_T.seg (f' := (135, [some (.ref 62), some (.int x1)], [(.int (I 62 61))])) (h' := (107, I, J, mm_rf rv sp rr w nw)) 2 rfl ?_
                            cases e
                            exact mm_T.ret rfl ⟨rfl, rfl⟩
                          · rw [if_neg h1171] at e
                            refine mm_T.tabs (lo := 0) (hi := 12) (y := ((136, [some (.ref 62), some (.int x1)], []), (107, I, J, mm_rf rv sp rr w nw))) rfl (mm_swo 0 12 x1 [0, 1, 2, 3, 4, 5, 6, 7, 8, 9, 10, 11, 12] (by decide) (by intro z hz; simp only [List.mem_cons, List.not_mem_nil, or_false] at hz; rcases hz with rfl | rfl | rfl | rfl | rfl | rfl | rfl | rfl | rfl | rfl | rfl | rfl | rfl <;> assumption)) ?_
                            refine mm_T.seg (f' := (137, [some (.ref 62), some (.int x1)], [(.int (-1))])) (h' := (107, I, J, mm_rf rv sp rr w nw)) 1 rfl ?_
                            cases e
                            exact mm_T.ret rfl ⟨rfl, rfl⟩
