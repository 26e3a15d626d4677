/-! The walks of oddsPart and of odds (written by gen97c.py). -/
set_option maxRecDepth 100000 in
set_option maxHeartbeats 4000000 in
theorem tlX6_flowOn_L18 (d : Nat) (Q : Option Value → mm_H → Prop) : ∀ (n : Nat) (y1 : Int32) (y3 : Int32) (I : (Nat → Nat → Int32)) (J : mJ) (rv sp rr w nw : Nat), (rv = 3 ∨ rv = 19) → wOk w nw → ∀ (out : (Nat → Nat → Int32)), fX6_flowOn_L18 n y1 y3 I rv w nw = some out → mm_T none (d + 3) 96 (89, [some (.ref 37), none, none, none, none], []) (107, out, J, mm_rf rv sp rr w nw) Q → mm_T none (d + 3) 96 (18, [some (.ref 37), some (.int y1), some (.ref rv), some (.int y3), none], []) (107, I, J, mm_rf rv sp rr w nw) Q := by
  intro n
  induction n with
  | zero =>
    intro y1 y3 I J rv sp rr w nw hrv hw out e k
    rw [fX6_flowOn_L18] at e; cases e
  | succ n ih =>
    intro y1 y3 I J rv sp rr w nw hrv hw out e k
    rcases hrv, hw with ⟨rfl | rfl, ⟨rfl, rfl⟩ | ⟨rfl, rfl⟩⟩
    · rw [fX6_flowOn_L18] at e
      refine mm_T.seg (f' := (23, [some (.ref 37), some (.int y1), some (.ref 3), some (.int y3), none], [(.int (I 3 0)), (.int y3)])) (h' := (107, I, J, mm_rf 3 sp rr 39 40)) 3 rfl ?_
      refine mm_T.br (c := y3 < (I 3 0)) (a := ((26, [some (.ref 37), some (.int y1), some (.ref 3), some (.int y3), none], []), (107, I, J, mm_rf 3 sp rr 39 40))) (b := ((89, [some (.ref 37), some (.int y1), some (.ref 3), some (.int y3), none], []), (107, I, J, mm_rf 3 sp rr 39 40))) rfl (fun h1 => ?_) (fun h1 => ?_)
      · rw [if_pos h1] at e
        obtain ⟨p, hp⟩ : ∃ p, mf_pick I 39 8 y3 = p := ⟨_, rfl⟩
        obtain ⟨c1, hc1⟩ : ∃ c1, fX5_leadsTo y3 y1 0 1 3 I = c1 := ⟨_, rfl⟩
        rw [hp, hc1] at e
        obtain ⟨o1, ho1⟩ : ∃ o1, fX6_flowTo c1 (y1 + 1) (p * (100 - (I 3 6))) I 3 40 = o1 := ⟨_, rfl⟩
        rw [ho1] at e
        obtain ⟨c2, hc2⟩ : ∃ c2, fX5_leadsTo y3 y1 0 2 3 o1 = c2 := ⟨_, rfl⟩
        rw [hc2] at e
        obtain ⟨o2, ho2⟩ : ∃ o2, fX6_flowTo c2 (y1 + 1) (p * (o1 3 6)) o1 3 40 = o2 := ⟨_, rfl⟩
        rw [ho2] at e
        refine mm_T.seg (f' := (31, [some (.ref 37), some (.int y1), some (.ref 3), some (.int y3), none], [(.int y3), (.ref 39)])) (h' := (107, I, J, mm_rf 3 sp rr 39 40)) 3 rfl ?_
        refine mm_T.call (t := 204) (as := [(.ref 39), (.int y3)]) (f' := (34, [some (.ref 37), some (.int y1), some (.ref 3), some (.int y3), none], [])) rfl ((t_pick _ 39 8 y3 I J (mm_rf 3 sp rr 39 40) rfl rfl)) (fun v h hq => ?_)
        obtain ⟨rfl, rfl⟩ := hq
        rw [hp]
        refine mm_T.seg (f' := (42, [some (.ref 37), some (.int y1), some (.ref 3), some (.int y3), some (.int p)], [(.int 1), (.int 0), (.int y1), (.int y3), (.ref 3), (.ref 37)])) (h' := (107, I, J, mm_rf 3 sp rr 39 40)) 7 rfl ?_
        refine mm_T.call (t := 81) (as := [(.ref 3), (.int y3), (.int y1), (.int 0), (.int 1)]) (f' := (45, [some (.ref 37), some (.int y1), some (.ref 3), some (.int y3), some (.int p)], [(.ref 37)])) rfl (tX5_leadsTo (d + 1) y3 y1 0 1 3 I J 3 sp rr 39 40 (Or.inl rfl) c1 hc1) (fun v h hq => ?_)
        obtain ⟨rfl, rfl⟩ := hq
        refine mm_T.seg (f' := (58, [some (.ref 37), some (.int y1), some (.ref 3), some (.int y3), some (.int p)], [(.int (p * (100 - (I 3 6)))), (.int (y1 + 1)), (.int c1), (.ref 37)])) (h' := (107, I, J, mm_rf 3 sp rr 39 40)) 9 rfl ?_
        refine mm_T.call (t := 97) (as := [(.ref 37), (.int c1), (.int (y1 + 1)), (.int (p * (100 - (I 3 6))))]) (f' := (61, [some (.ref 37), some (.int y1), some (.ref 3), some (.int y3), some (.int p)], [])) rfl (tX6_flowTo d c1 (y1 + 1) (p * (100 - (I 3 6))) I J 3 sp rr 39 40 (Or.inl rfl) (Or.inr rfl) o1 ho1) (fun v h hq => ?_)
        obtain ⟨rfl, rfl⟩ := hq
        refine mm_T.seg (f' := (67, [some (.ref 37), some (.int y1), some (.ref 3), some (.int y3), some (.int p)], [(.int 2), (.int 0), (.int y1), (.int y3), (.ref 3), (.ref 37)])) (h' := (107, o1, J, mm_rf 3 sp rr 39 40)) 6 rfl ?_
        refine mm_T.call (t := 81) (as := [(.ref 3), (.int y3), (.int y1), (.int 0), (.int 2)]) (f' := (70, [some (.ref 37), some (.int y1), some (.ref 3), some (.int y3), some (.int p)], [(.ref 37)])) rfl (tX5_leadsTo (d + 1) y3 y1 0 2 3 o1 J 3 sp rr 39 40 (Or.inl rfl) c2 hc2) (fun v h hq => ?_)
        obtain ⟨rfl, rfl⟩ := hq
        refine mm_T.seg (f' := (80, [some (.ref 37), some (.int y1), some (.ref 3), some (.int y3), some (.int p)], [(.int (p * (o1 3 6))), (.int (y1 + 1)), (.int c2), (.ref 37)])) (h' := (107, o1, J, mm_rf 3 sp rr 39 40)) 7 rfl ?_
        refine mm_T.call (t := 97) (as := [(.ref 37), (.int c2), (.int (y1 + 1)), (.int (p * (o1 3 6)))]) (f' := (83, [some (.ref 37), some (.int y1), some (.ref 3), some (.int y3), some (.int p)], [])) rfl (tX6_flowTo d c2 (y1 + 1) (p * (o1 3 6)) o1 J 3 sp rr 39 40 (Or.inl rfl) (Or.inr rfl) o2 ho2) (fun v h hq => ?_)
        obtain ⟨rfl, rfl⟩ := hq
        refine mm_T.seg (f' := (18, [some (.ref 37), some (.int y1), some (.ref 3), some (.int (y3 + 1)), some (.int p)], [])) (h' := (107, o2, J, mm_rf 3 sp rr 39 40)) 2 rfl ?_
        refine mm_T.mask [true, true, true, true, false] ?_
        exact ih y1 (y3 + 1) o2 J 3 sp rr 39 40 (Or.inl rfl) (Or.inl ⟨rfl, rfl⟩) out e k
      · rw [if_neg h1] at e
        cases e
        refine mm_T.mask [true, false, false, false, false] ?_
        exact k
    · rw [fX6_flowOn_L18] at e
      refine mm_T.seg (f' := (23, [some (.ref 37), some (.int y1), some (.ref 3), some (.int y3), none], [(.int (I 3 0)), (.int y3)])) (h' := (107, I, J, mm_rf 3 sp rr 40 39)) 3 rfl ?_
      refine mm_T.br (c := y3 < (I 3 0)) (a := ((26, [some (.ref 37), some (.int y1), some (.ref 3), some (.int y3), none], []), (107, I, J, mm_rf 3 sp rr 40 39))) (b := ((89, [some (.ref 37), some (.int y1), some (.ref 3), some (.int y3), none], []), (107, I, J, mm_rf 3 sp rr 40 39))) rfl (fun h1 => ?_) (fun h1 => ?_)
      · rw [if_pos h1] at e
        obtain ⟨p, hp⟩ : ∃ p, mf_pick I 40 8 y3 = p := ⟨_, rfl⟩
        obtain ⟨c1, hc1⟩ : ∃ c1, fX5_leadsTo y3 y1 0 1 3 I = c1 := ⟨_, rfl⟩
        rw [hp, hc1] at e
        obtain ⟨o1, ho1⟩ : ∃ o1, fX6_flowTo c1 (y1 + 1) (p * (100 - (I 3 6))) I 3 39 = o1 := ⟨_, rfl⟩
        rw [ho1] at e
        obtain ⟨c2, hc2⟩ : ∃ c2, fX5_leadsTo y3 y1 0 2 3 o1 = c2 := ⟨_, rfl⟩
        rw [hc2] at e
        obtain ⟨o2, ho2⟩ : ∃ o2, fX6_flowTo c2 (y1 + 1) (p * (o1 3 6)) o1 3 39 = o2 := ⟨_, rfl⟩
        rw [ho2] at e
        refine mm_T.seg (f' := (31, [some (.ref 37), some (.int y1), some (.ref 3), some (.int y3), none], [(.int y3), (.ref 40)])) (h' := (107, I, J, mm_rf 3 sp rr 40 39)) 3 rfl ?_
        refine mm_T.call (t := 204) (as := [(.ref 40), (.int y3)]) (f' := (34, [some (.ref 37), some (.int y1), some (.ref 3), some (.int y3), none], [])) rfl ((t_pick _ 40 8 y3 I J (mm_rf 3 sp rr 40 39) rfl rfl)) (fun v h hq => ?_)
        obtain ⟨rfl, rfl⟩ := hq
        rw [hp]
        refine mm_T.seg (f' := (42, [some (.ref 37), some (.int y1), some (.ref 3), some (.int y3), some (.int p)], [(.int 1), (.int 0), (.int y1), (.int y3), (.ref 3), (.ref 37)])) (h' := (107, I, J, mm_rf 3 sp rr 40 39)) 7 rfl ?_
        refine mm_T.call (t := 81) (as := [(.ref 3), (.int y3), (.int y1), (.int 0), (.int 1)]) (f' := (45, [some (.ref 37), some (.int y1), some (.ref 3), some (.int y3), some (.int p)], [(.ref 37)])) rfl (tX5_leadsTo (d + 1) y3 y1 0 1 3 I J 3 sp rr 40 39 (Or.inl rfl) c1 hc1) (fun v h hq => ?_)
        obtain ⟨rfl, rfl⟩ := hq
        refine mm_T.seg (f' := (58, [some (.ref 37), some (.int y1), some (.ref 3), some (.int y3), some (.int p)], [(.int (p * (100 - (I 3 6)))), (.int (y1 + 1)), (.int c1), (.ref 37)])) (h' := (107, I, J, mm_rf 3 sp rr 40 39)) 9 rfl ?_
        refine mm_T.call (t := 97) (as := [(.ref 37), (.int c1), (.int (y1 + 1)), (.int (p * (100 - (I 3 6))))]) (f' := (61, [some (.ref 37), some (.int y1), some (.ref 3), some (.int y3), some (.int p)], [])) rfl (tX6_flowTo d c1 (y1 + 1) (p * (100 - (I 3 6))) I J 3 sp rr 40 39 (Or.inl rfl) (Or.inl rfl) o1 ho1) (fun v h hq => ?_)
        obtain ⟨rfl, rfl⟩ := hq
        refine mm_T.seg (f' := (67, [some (.ref 37), some (.int y1), some (.ref 3), some (.int y3), some (.int p)], [(.int 2), (.int 0), (.int y1), (.int y3), (.ref 3), (.ref 37)])) (h' := (107, o1, J, mm_rf 3 sp rr 40 39)) 6 rfl ?_
        refine mm_T.call (t := 81) (as := [(.ref 3), (.int y3), (.int y1), (.int 0), (.int 2)]) (f' := (70, [some (.ref 37), some (.int y1), some (.ref 3), some (.int y3), some (.int p)], [(.ref 37)])) rfl (tX5_leadsTo (d + 1) y3 y1 0 2 3 o1 J 3 sp rr 40 39 (Or.inl rfl) c2 hc2) (fun v h hq => ?_)
        obtain ⟨rfl, rfl⟩ := hq
        refine mm_T.seg (f' := (80, [some (.ref 37), some (.int y1), some (.ref 3), some (.int y3), some (.int p)], [(.int (p * (o1 3 6))), (.int (y1 + 1)), (.int c2), (.ref 37)])) (h' := (107, o1, J, mm_rf 3 sp rr 40 39)) 7 rfl ?_
        refine mm_T.call (t := 97) (as := [(.ref 37), (.int c2), (.int (y1 + 1)), (.int (p * (o1 3 6)))]) (f' := (83, [some (.ref 37), some (.int y1), some (.ref 3), some (.int y3), some (.int p)], [])) rfl (tX6_flowTo d c2 (y1 + 1) (p * (o1 3 6)) o1 J 3 sp rr 40 39 (Or.inl rfl) (Or.inl rfl) o2 ho2) (fun v h hq => ?_)
        obtain ⟨rfl, rfl⟩ := hq
        refine mm_T.seg (f' := (18, [some (.ref 37), some (.int y1), some (.ref 3), some (.int (y3 + 1)), some (.int p)], [])) (h' := (107, o2, J, mm_rf 3 sp rr 40 39)) 2 rfl ?_
        refine mm_T.mask [true, true, true, true, false] ?_
        exact ih y1 (y3 + 1) o2 J 3 sp rr 40 39 (Or.inl rfl) (Or.inr ⟨rfl, rfl⟩) out e k
      · rw [if_neg h1] at e
        cases e
        refine mm_T.mask [true, false, false, false, false] ?_
        exact k
    · rw [fX6_flowOn_L18] at e
      refine mm_T.seg (f' := (23, [some (.ref 37), some (.int y1), some (.ref 19), some (.int y3), none], [(.int (I 19 0)), (.int y3)])) (h' := (107, I, J, mm_rf 19 sp rr 39 40)) 3 rfl ?_
      refine mm_T.br (c := y3 < (I 19 0)) (a := ((26, [some (.ref 37), some (.int y1), some (.ref 19), some (.int y3), none], []), (107, I, J, mm_rf 19 sp rr 39 40))) (b := ((89, [some (.ref 37), some (.int y1), some (.ref 19), some (.int y3), none], []), (107, I, J, mm_rf 19 sp rr 39 40))) rfl (fun h1 => ?_) (fun h1 => ?_)
      · rw [if_pos h1] at e
        obtain ⟨p, hp⟩ : ∃ p, mf_pick I 39 8 y3 = p := ⟨_, rfl⟩
        obtain ⟨c1, hc1⟩ : ∃ c1, fX5_leadsTo y3 y1 0 1 19 I = c1 := ⟨_, rfl⟩
        rw [hp, hc1] at e
        obtain ⟨o1, ho1⟩ : ∃ o1, fX6_flowTo c1 (y1 + 1) (p * (100 - (I 19 6))) I 19 40 = o1 := ⟨_, rfl⟩
        rw [ho1] at e
        obtain ⟨c2, hc2⟩ : ∃ c2, fX5_leadsTo y3 y1 0 2 19 o1 = c2 := ⟨_, rfl⟩
        rw [hc2] at e
        obtain ⟨o2, ho2⟩ : ∃ o2, fX6_flowTo c2 (y1 + 1) (p * (o1 19 6)) o1 19 40 = o2 := ⟨_, rfl⟩
        rw [ho2] at e
        refine mm_T.seg (f' := (31, [some (.ref 37), some (.int y1), some (.ref 19), some (.int y3), none], [(.int y3), (.ref 39)])) (h' := (107, I, J, mm_rf 19 sp rr 39 40)) 3 rfl ?_
        refine mm_T.call (t := 204) (as := [(.ref 39), (.int y3)]) (f' := (34, [some (.ref 37), some (.int y1), some (.ref 19), some (.int y3), none], [])) rfl ((t_pick _ 39 8 y3 I J (mm_rf 19 sp rr 39 40) rfl rfl)) (fun v h hq => ?_)
        obtain ⟨rfl, rfl⟩ := hq
        rw [hp]
        refine mm_T.seg (f' := (42, [some (.ref 37), some (.int y1), some (.ref 19), some (.int y3), some (.int p)], [(.int 1), (.int 0), (.int y1), (.int y3), (.ref 19), (.ref 37)])) (h' := (107, I, J, mm_rf 19 sp rr 39 40)) 7 rfl ?_
        refine mm_T.call (t := 81) (as := [(.ref 19), (.int y3), (.int y1), (.int 0), (.int 1)]) (f' := (45, [some (.ref 37), some (.int y1), some (.ref 19), some (.int y3), some (.int p)], [(.ref 37)])) rfl (tX5_leadsTo (d + 1) y3 y1 0 1 19 I J 19 sp rr 39 40 (Or.inr rfl) c1 hc1) (fun v h hq => ?_)
        obtain ⟨rfl, rfl⟩ := hq
        refine mm_T.seg (f' := (58, [some (.ref 37), some (.int y1), some (.ref 19), some (.int y3), some (.int p)], [(.int (p * (100 - (I 19 6)))), (.int (y1 + 1)), (.int c1), (.ref 37)])) (h' := (107, I, J, mm_rf 19 sp rr 39 40)) 9 rfl ?_
        refine mm_T.call (t := 97) (as := [(.ref 37), (.int c1), (.int (y1 + 1)), (.int (p * (100 - (I 19 6))))]) (f' := (61, [some (.ref 37), some (.int y1), some (.ref 19), some (.int y3), some (.int p)], [])) rfl (tX6_flowTo d c1 (y1 + 1) (p * (100 - (I 19 6))) I J 19 sp rr 39 40 (Or.inr rfl) (Or.inr rfl) o1 ho1) (fun v h hq => ?_)
        obtain ⟨rfl, rfl⟩ := hq
        refine mm_T.seg (f' := (67, [some (.ref 37), some (.int y1), some (.ref 19), some (.int y3), some (.int p)], [(.int 2), (.int 0), (.int y1), (.int y3), (.ref 19), (.ref 37)])) (h' := (107, o1, J, mm_rf 19 sp rr 39 40)) 6 rfl ?_
        refine mm_T.call (t := 81) (as := [(.ref 19), (.int y3), (.int y1), (.int 0), (.int 2)]) (f' := (70, [some (.ref 37), some (.int y1), some (.ref 19), some (.int y3), some (.int p)], [(.ref 37)])) rfl (tX5_leadsTo (d + 1) y3 y1 0 2 19 o1 J 19 sp rr 39 40 (Or.inr rfl) c2 hc2) (fun v h hq => ?_)
        obtain ⟨rfl, rfl⟩ := hq
        refine mm_T.seg (f' := (80, [some (.ref 37), some (.int y1), some (.ref 19), some (.int y3), some (.int p)], [(.int (p * (o1 19 6))), (.int (y1 + 1)), (.int c2), (.ref 37)])) (h' := (107, o1, J, mm_rf 19 sp rr 39 40)) 7 rfl ?_
        refine mm_T.call (t := 97) (as := [(.ref 37), (.int c2), (.int (y1 + 1)), (.int (p * (o1 19 6)))]) (f' := (83, [some (.ref 37), some (.int y1), some (.ref 19), some (.int y3), some (.int p)], [])) rfl (tX6_flowTo d c2 (y1 + 1) (p * (o1 19 6)) o1 J 19 sp rr 39 40 (Or.inr rfl) (Or.inr rfl) o2 ho2) (fun v h hq => ?_)
        obtain ⟨rfl, rfl⟩ := hq
        refine mm_T.seg (f' := (18, [some (.ref 37), some (.int y1), some (.ref 19), some (.int (y3 + 1)), some (.int p)], [])) (h' := (107, o2, J, mm_rf 19 sp rr 39 40)) 2 rfl ?_
        refine mm_T.mask [true, true, true, true, false] ?_
        exact ih y1 (y3 + 1) o2 J 19 sp rr 39 40 (Or.inr rfl) (Or.inl ⟨rfl, rfl⟩) out e k
      · rw [if_neg h1] at e
        cases e
        refine mm_T.mask [true, false, false, false, false] ?_
        exact k
    · rw [fX6_flowOn_L18] at e
      refine mm_T.seg (f' := (23, [some (.ref 37), some (.int y1), some (.ref 19), some (.int y3), none], [(.int (I 19 0)), (.int y3)])) (h' := (107, I, J, mm_rf 19 sp rr 40 39)) 3 rfl ?_
      refine mm_T.br (c := y3 < (I 19 0)) (a := ((26, [some (.ref 37), some (.int y1), some (.ref 19), some (.int y3), none], []), (107, I, J, mm_rf 19 sp rr 40 39))) (b := ((89, [some (.ref 37), some (.int y1), some (.ref 19), some (.int y3), none], []), (107, I, J, mm_rf 19 sp rr 40 39))) rfl (fun h1 => ?_) (fun h1 => ?_)
      · rw [if_pos h1] at e
        obtain ⟨p, hp⟩ : ∃ p, mf_pick I 40 8 y3 = p := ⟨_, rfl⟩
        obtain ⟨c1, hc1⟩ : ∃ c1, fX5_leadsTo y3 y1 0 1 19 I = c1 := ⟨_, rfl⟩
        rw [hp, hc1] at e
        obtain ⟨o1, ho1⟩ : ∃ o1, fX6_flowTo c1 (y1 + 1) (p * (100 - (I 19 6))) I 19 39 = o1 := ⟨_, rfl⟩
        rw [ho1] at e
        obtain ⟨c2, hc2⟩ : ∃ c2, fX5_leadsTo y3 y1 0 2 19 o1 = c2 := ⟨_, rfl⟩
        rw [hc2] at e
        obtain ⟨o2, ho2⟩ : ∃ o2, fX6_flowTo c2 (y1 + 1) (p * (o1 19 6)) o1 19 39 = o2 := ⟨_, rfl⟩
        rw [ho2] at e
        refine mm_T.seg (f' := (31, [some (.ref 37), some (.int y1), some (.ref 19), some (.int y3), none], [(.int y3), (.ref 40)])) (h' := (107, I, J, mm_rf 19 sp rr 40 39)) 3 rfl ?_
        refine mm_T.call (t := 204) (as := [(.ref 40), (.int y3)]) (f' := (34, [some (.ref 37), some (.int y1), some (.ref 19), some (.int y3), none], [])) rfl ((t_pick _ 40 8 y3 I J (mm_rf 19 sp rr 40 39) rfl rfl)) (fun v h hq => ?_)
        obtain ⟨rfl, rfl⟩ := hq
        rw [hp]
        refine mm_T.seg (f' := (42, [some (.ref 37), some (.int y1), some (.ref 19), some (.int y3), some (.int p)], [(.int 1), (.int 0), (.int y1), (.int y3), (.ref 19), (.ref 37)])) (h' := (107, I, J, mm_rf 19 sp rr 40 39)) 7 rfl ?_
        refine mm_T.call (t := 81) (as := [(.ref 19), (.int y3), (.int y1), (.int 0), (.int 1)]) (f' := (45, [some (.ref 37), some (.int y1), some (.ref 19), some (.int y3), some (.int p)], [(.ref 37)])) rfl (tX5_leadsTo (d + 1) y3 y1 0 1 19 I J 19 sp rr 40 39 (Or.inr rfl) c1 hc1) (fun v h hq => ?_)
        obtain ⟨rfl, rfl⟩ := hq
        refine mm_T.seg (f' := (58, [some (.ref 37), some (.int y1), some (.ref 19), some (.int y3), some (.int p)], [(.int (p * (100 - (I 19 6)))), (.int (y1 + 1)), (.int c1), (.ref 37)])) (h' := (107, I, J, mm_rf 19 sp rr 40 39)) 9 rfl ?_
        refine mm_T.call (t := 97) (as := [(.ref 37), (.int c1), (.int (y1 + 1)), (.int (p * (100 - (I 19 6))))]) (f' := (61, [some (.ref 37), some (.int y1), some (.ref 19), some (.int y3), some (.int p)], [])) rfl (tX6_flowTo d c1 (y1 + 1) (p * (100 - (I 19 6))) I J 19 sp rr 40 39 (Or.inr rfl) (Or.inl rfl) o1 ho1) (fun v h hq => ?_)
        obtain ⟨rfl, rfl⟩ := hq
        refine mm_T.seg (f' := (67, [some (.ref 37), some (.int y1), some (.ref 19), some (.int y3), some (.int p)], [(.int 2), (.int 0), (.int y1), (.int y3), (.ref 19), (.ref 37)])) (h' := (107, o1, J, mm_rf 19 sp rr 40 39)) 6 rfl ?_
        refine mm_T.call (t := 81) (as := [(.ref 19), (.int y3), (.int y1), (.int 0), (.int 2)]) (f' := (70, [some (.ref 37), some (.int y1), some (.ref 19), some (.int y3), some (.int p)], [(.ref 37)])) rfl (tX5_leadsTo (d + 1) y3 y1 0 2 19 o1 J 19 sp rr 40 39 (Or.inr rfl) c2 hc2) (fun v h hq => ?_)
        obtain ⟨rfl, rfl⟩ := hq
        refine mm_T.seg (f' := (80, [some (.ref 37), some (.int y1), some (.ref 19), some (.int y3), some (.int p)], [(.int (p * (o1 19 6))), (.int (y1 + 1)), (.int c2), (.ref 37)])) (h' := (107, o1, J, mm_rf 19 sp rr 40 39)) 7 rfl ?_
        refine mm_T.call (t := 97) (as := [(.ref 37), (.int c2), (.int (y1 + 1)), (.int (p * (o1 19 6)))]) (f' := (83, [some (.ref 37), some (.int y1), some (.ref 19), some (.int y3), some (.int p)], [])) rfl (tX6_flowTo d c2 (y1 + 1) (p * (o1 19 6)) o1 J 19 sp rr 40 39 (Or.inr rfl) (Or.inl rfl) o2 ho2) (fun v h hq => ?_)
        obtain ⟨rfl, rfl⟩ := hq
        refine mm_T.seg (f' := (18, [some (.ref 37), some (.int y1), some (.ref 19), some (.int (y3 + 1)), some (.int p)], [])) (h' := (107, o2, J, mm_rf 19 sp rr 40 39)) 2 rfl ?_
        refine mm_T.mask [true, true, true, true, false] ?_
        exact ih y1 (y3 + 1) o2 J 19 sp rr 40 39 (Or.inr rfl) (Or.inr ⟨rfl, rfl⟩) out e k
      · rw [if_neg h1] at e
        cases e
        refine mm_T.mask [true, false, false, false, false] ?_
        exact k
set_option maxRecDepth 100000 in
set_option maxHeartbeats 4000000 in
theorem tX6_flowOn (d n : Nat) (x1 : Int32) (I : (Nat → Nat → Int32)) (J : mJ) (rv sp rr w nw : Nat) (hrv : rv = 3 ∨ rv = 19) (hw : wOk w nw) (out : (Nat → Nat → Int32)) (e : fX6_flowOn n x1 I rv w nw = some out) : mm_T none (d + 3) 96 (mm_ent 96 [(.ref 37), (.int x1)]) (107, I, J, mm_rf rv sp rr w nw) (fun v h => v = none ∧ h = (107, out, J, mm_rf rv sp rr nw w)) := by
  rcases hrv, hw with ⟨rfl | rfl, ⟨rfl, rfl⟩ | ⟨rfl, rfl⟩⟩
  · unfold fX6_flowOn at e
    refine mm_T.seg (f' := (13, [some (.ref 37), some (.int x1), some (.ref 3), none, none], [(.int 0), (.ref 40)])) (h' := (107, I, J, mm_rf 3 sp rr 39 40)) 7 rfl ?_
    refine mm_T.call (t := 344) (as := [(.ref 40), (.int 0)]) (f' := (16, [some (.ref 37), some (.int x1), some (.ref 3), none, none], [])) rfl (t_fill _ 40 8 0 I J (mm_rf 3 sp rr 39 40) rfl rfl) (fun v h hq => ?_)
    obtain ⟨rfl, rfl⟩ := hq
    refine mm_T.seg (f' := (18, [some (.ref 37), some (.int x1), some (.ref 3), some (.int 0), none], [])) (h' := (107, (mf_fill I 40 8 0), J, mm_rf 3 sp rr 39 40)) 2 rfl ?_
    refine mm_T.mask [true, true, true, true, false] ?_
    obtain ⟨o1, eo1, e⟩ := mm_bind e
    refine tlX6_flowOn_L18 d _ n x1 0 (mf_fill I 40 8 0) J 3 sp rr 39 40 (Or.inl rfl) (Or.inl ⟨rfl, rfl⟩) o1 eo1 ?_
    refine mm_T.seg (f' := (99, [some (.ref 37), none, none, some (.ref 39), none], [(.ref 40), (.ref 37)])) (h' := (107, o1, J, mm_rf 3 sp rr 39 40)) 6 rfl ?_
    refine mm_T.step (f' := (102, [some (.ref 37), none, none, some (.ref 39), none], [])) (h' := (107, o1, J, mm_up (mm_rf 3 sp rr 39 40) 37 2 40)) rfl ?_
    rw [mm_rf_w]
    refine mm_T.seg (f' := (104, [some (.ref 37), none, none, some (.ref 39), none], [(.ref 39), (.ref 37)])) (h' := (107, o1, J, mm_rf 3 sp rr 40 40)) 2 rfl ?_
    refine mm_T.step (f' := (107, [some (.ref 37), none, none, some (.ref 39), none], [])) (h' := (107, o1, J, mm_up (mm_rf 3 sp rr 40 40) 37 3 39)) rfl ?_
    rw [mm_rf_nw]
    cases e
    exact mm_T.ret rfl ⟨rfl, rfl⟩
  · unfold fX6_flowOn at e
    refine mm_T.seg (f' := (13, [some (.ref 37), some (.int x1), some (.ref 3), none, none], [(.int 0), (.ref 39)])) (h' := (107, I, J, mm_rf 3 sp rr 40 39)) 7 rfl ?_
    refine mm_T.call (t := 344) (as := [(.ref 39), (.int 0)]) (f' := (16, [some (.ref 37), some (.int x1), some (.ref 3), none, none], [])) rfl (t_fill _ 39 8 0 I J (mm_rf 3 sp rr 40 39) rfl rfl) (fun v h hq => ?_)
    obtain ⟨rfl, rfl⟩ := hq
    refine mm_T.seg (f' := (18, [some (.ref 37), some (.int x1), some (.ref 3), some (.int 0), none], [])) (h' := (107, (mf_fill I 39 8 0), J, mm_rf 3 sp rr 40 39)) 2 rfl ?_
    refine mm_T.mask [true, true, true, true, false] ?_
    obtain ⟨o1, eo1, e⟩ := mm_bind e
    refine tlX6_flowOn_L18 d _ n x1 0 (mf_fill I 39 8 0) J 3 sp rr 40 39 (Or.inl rfl) (Or.inr ⟨rfl, rfl⟩) o1 eo1 ?_
    refine mm_T.seg (f' := (99, [some (.ref 37), none, none, some (.ref 40), none], [(.ref 39), (.ref 37)])) (h' := (107, o1, J, mm_rf 3 sp rr 40 39)) 6 rfl ?_
    refine mm_T.step (f' := (102, [some (.ref 37), none, none, some (.ref 40), none], [])) (h' := (107, o1, J, mm_up (mm_rf 3 sp rr 40 39) 37 2 39)) rfl ?_
    rw [mm_rf_w]
    refine mm_T.seg (f' := (104, [some (.ref 37), none, none, some (.ref 40), none], [(.ref 40), (.ref 37)])) (h' := (107, o1, J, mm_rf 3 sp rr 39 39)) 2 rfl ?_
    refine mm_T.step (f' := (107, [some (.ref 37), none, none, some (.ref 40), none], [])) (h' := (107, o1, J, mm_up (mm_rf 3 sp rr 39 39) 37 3 40)) rfl ?_
    rw [mm_rf_nw]
    cases e
    exact mm_T.ret rfl ⟨rfl, rfl⟩
  · unfold fX6_flowOn at e
    refine mm_T.seg (f' := (13, [some (.ref 37), some (.int x1), some (.ref 19), none, none], [(.int 0), (.ref 40)])) (h' := (107, I, J, mm_rf 19 sp rr 39 40)) 7 rfl ?_
    refine mm_T.call (t := 344) (as := [(.ref 40), (.int 0)]) (f' := (16, [some (.ref 37), some (.int x1), some (.ref 19), none, none], [])) rfl (t_fill _ 40 8 0 I J (mm_rf 19 sp rr 39 40) rfl rfl) (fun v h hq => ?_)
    obtain ⟨rfl, rfl⟩ := hq
    refine mm_T.seg (f' := (18, [some (.ref 37), some (.int x1), some (.ref 19), some (.int 0), none], [])) (h' := (107, (mf_fill I 40 8 0), J, mm_rf 19 sp rr 39 40)) 2 rfl ?_
    refine mm_T.mask [true, true, true, true, false] ?_
    obtain ⟨o1, eo1, e⟩ := mm_bind e
    refine tlX6_flowOn_L18 d _ n x1 0 (mf_fill I 40 8 0) J 19 sp rr 39 40 (Or.inr rfl) (Or.inl ⟨rfl, rfl⟩) o1 eo1 ?_
    refine mm_T.seg (f' := (99, [some (.ref 37), none, none, some (.ref 39), none], [(.ref 40), (.ref 37)])) (h' := (107, o1, J, mm_rf 19 sp rr 39 40)) 6 rfl ?_
    refine mm_T.step (f' := (102, [some (.ref 37), none, none, some (.ref 39), none], [])) (h' := (107, o1, J, mm_up (mm_rf 19 sp rr 39 40) 37 2 40)) rfl ?_
    rw [mm_rf_w]
    refine mm_T.seg (f' := (104, [some (.ref 37), none, none, some (.ref 39), none], [(.ref 39), (.ref 37)])) (h' := (107, o1, J, mm_rf 19 sp rr 40 40)) 2 rfl ?_
    refine mm_T.step (f' := (107, [some (.ref 37), none, none, some (.ref 39), none], [])) (h' := (107, o1, J, mm_up (mm_rf 19 sp rr 40 40) 37 3 39)) rfl ?_
    rw [mm_rf_nw]
    cases e
    exact mm_T.ret rfl ⟨rfl, rfl⟩
  · unfold fX6_flowOn at e
    refine mm_T.seg (f' := (13, [some (.ref 37), some (.int x1), some (.ref 19), none, none], [(.int 0), (.ref 39)])) (h' := (107, I, J, mm_rf 19 sp rr 40 39)) 7 rfl ?_
    refine mm_T.call (t := 344) (as := [(.ref 39), (.int 0)]) (f' := (16, [some (.ref 37), some (.int x1), some (.ref 19), none, none], [])) rfl (t_fill _ 39 8 0 I J (mm_rf 19 sp rr 40 39) rfl rfl) (fun v h hq => ?_)
    obtain ⟨rfl, rfl⟩ := hq
    refine mm_T.seg (f' := (18, [some (.ref 37), some (.int x1), some (.ref 19), some (.int 0), none], [])) (h' := (107, (mf_fill I 39 8 0), J, mm_rf 19 sp rr 40 39)) 2 rfl ?_
    refine mm_T.mask [true, true, true, true, false] ?_
    obtain ⟨o1, eo1, e⟩ := mm_bind e
    refine tlX6_flowOn_L18 d _ n x1 0 (mf_fill I 39 8 0) J 19 sp rr 40 39 (Or.inr rfl) (Or.inr ⟨rfl, rfl⟩) o1 eo1 ?_
    refine mm_T.seg (f' := (99, [some (.ref 37), none, none, some (.ref 40), none], [(.ref 39), (.ref 37)])) (h' := (107, o1, J, mm_rf 19 sp rr 40 39)) 6 rfl ?_
    refine mm_T.step (f' := (102, [some (.ref 37), none, none, some (.ref 40), none], [])) (h' := (107, o1, J, mm_up (mm_rf 19 sp rr 40 39) 37 2 39)) rfl ?_
    rw [mm_rf_w]
    refine mm_T.seg (f' := (104, [some (.ref 37), none, none, some (.ref 40), none], [(.ref 40), (.ref 37)])) (h' := (107, o1, J, mm_rf 19 sp rr 39 39)) 2 rfl ?_
    refine mm_T.step (f' := (107, [some (.ref 37), none, none, some (.ref 40), none], [])) (h' := (107, o1, J, mm_up (mm_rf 19 sp rr 39 39) 37 3 40)) rfl ?_
    rw [mm_rf_nw]
    cases e
    exact mm_T.ret rfl ⟨rfl, rfl⟩
set_option maxRecDepth 100000 in
set_option maxHeartbeats 4000000 in
theorem tlX6_oddsPart_L51 (d : Nat) (Q : Option Value → mm_H → Prop) (x2 x3 : Int32) : ∀ (n : Nat) (y5 y6 : Int32) (I : (Nat → Nat → Int32)) (J : mJ) (rv sp rr w nw : Nat), (rv = 3 ∨ rv = 19) → wOk w nw → ∀ (out : Int32 × Nat × Nat × (Nat → Nat → Int32)), fX6_oddsPart_L51 n y5 y6 I rv w nw = some out → (wOk out.2.1 out.2.2.1 → mm_T none (d + 4) 95 (89, [some (.ref 37), none, some (.int x2), some (.int x3), none, some (.int out.1), none, none], []) (107, out.2.2.2, J, mm_rf rv sp rr out.2.1 out.2.2.1) Q) → mm_T none (d + 4) 95 (55, [some (.ref 37), none, some (.int x2), some (.int x3), none, some (.int y5), some (.int y6), none], []) (107, I, J, mm_rf rv sp rr w nw) Q := by
  intro n
  induction n with
  | zero =>
    intro y5 y6 I J rv sp rr w nw hrv hw out e k
    rw [fX6_oddsPart_L51] at e; cases e
  | succ n ih =>
    intro y5 y6 I J rv sp rr w nw hrv hw out e k
    rcases hrv, hw with ⟨rfl | rfl, ⟨rfl, rfl⟩ | ⟨rfl, rfl⟩⟩
    · rw [fX6_oddsPart_L51] at e
      refine mm_T.seg (f' := (67, [some (.ref 37), none, some (.int x2), some (.int x3), none, some (.int y5), some (.int y6), none], [(.int (I 3 1)), (.int y6)])) (h' := (107, I, J, mm_rf 3 sp rr 39 40)) 5 rfl ?_
      refine mm_T.br (c := y6 < (I 3 1)) (a := ((70, [some (.ref 37), none, some (.int x2), some (.int x3), none, some (.int y5), some (.int y6), none], []), (107, I, J, mm_rf 3 sp rr 39 40))) (b := ((89, [some (.ref 37), none, some (.int x2), some (.int x3), none, some (.int y5), some (.int y6), none], []), (107, I, J, mm_rf 3 sp rr 39 40))) rfl (fun h1 => ?_) (fun h1 => ?_)
      · rw [if_pos h1] at e
        obtain ⟨o1, eo1, e⟩ := mm_bind e
        refine mm_T.seg (f' := (73, [some (.ref 37), none, some (.int x2), some (.int x3), none, some (.int y5), some (.int y6), none], [(.int y6), (.ref 37)])) (h' := (107, I, J, mm_rf 3 sp rr 39 40)) 2 rfl ?_
        refine mm_T.call (t := 96) (as := [(.ref 37), (.int y6)]) (f' := (76, [some (.ref 37), none, some (.int x2), some (.int x3), none, some (.int y5), some (.int y6), none], [])) rfl (tX6_flowOn d n y6 I J 3 sp rr 39 40 (Or.inl rfl) (Or.inl ⟨rfl, rfl⟩) o1 eo1) (fun v h hq => ?_)
        obtain ⟨rfl, rfl⟩ := hq
        refine mm_T.seg (f' := (55, [some (.ref 37), none, some (.int x2), some (.int x3), none, some (.int (y5 * 100)), some (.int (y6 + 1)), none], [])) (h' := (107, o1, J, mm_rf 3 sp rr 40 39)) 6 rfl ?_
        exact ih (y5 * 100) (y6 + 1) o1 J 3 sp rr 40 39 (Or.inl rfl) (Or.inr ⟨rfl, rfl⟩) out e k
      · rw [if_neg h1] at e
        cases e
        refine mm_T.mask [true, false, true, true, false, true, false, false] ?_
        exact k (Or.inl ⟨rfl, rfl⟩)
    · rw [fX6_oddsPart_L51] at e
      refine mm_T.seg (f' := (67, [some (.ref 37), none, some (.int x2), some (.int x3), none, some (.int y5), some (.int y6), none], [(.int (I 3 1)), (.int y6)])) (h' := (107, I, J, mm_rf 3 sp rr 40 39)) 5 rfl ?_
      refine mm_T.br (c := y6 < (I 3 1)) (a := ((70, [some (.ref 37), none, some (.int x2), some (.int x3), none, some (.int y5), some (.int y6), none], []), (107, I, J, mm_rf 3 sp rr 40 39))) (b := ((89, [some (.ref 37), none, some (.int x2), some (.int x3), none, some (.int y5), some (.int y6), none], []), (107, I, J, mm_rf 3 sp rr 40 39))) rfl (fun h1 => ?_) (fun h1 => ?_)
      · rw [if_pos h1] at e
        obtain ⟨o1, eo1, e⟩ := mm_bind e
        refine mm_T.seg (f' := (73, [some (.ref 37), none, some (.int x2), some (.int x3), none, some (.int y5), some (.int y6), none], [(.int y6), (.ref 37)])) (h' := (107, I, J, mm_rf 3 sp rr 40 39)) 2 rfl ?_
        refine mm_T.call (t := 96) (as := [(.ref 37), (.int y6)]) (f' := (76, [some (.ref 37), none, some (.int x2), some (.int x3), none, some (.int y5), some (.int y6), none], [])) rfl (tX6_flowOn d n y6 I J 3 sp rr 40 39 (Or.inl rfl) (Or.inr ⟨rfl, rfl⟩) o1 eo1) (fun v h hq => ?_)
        obtain ⟨rfl, rfl⟩ := hq
        refine mm_T.seg (f' := (55, [some (.ref 37), none, some (.int x2), some (.int x3), none, some (.int (y5 * 100)), some (.int (y6 + 1)), none], [])) (h' := (107, o1, J, mm_rf 3 sp rr 39 40)) 6 rfl ?_
        exact ih (y5 * 100) (y6 + 1) o1 J 3 sp rr 39 40 (Or.inl rfl) (Or.inl ⟨rfl, rfl⟩) out e k
      · rw [if_neg h1] at e
        cases e
        refine mm_T.mask [true, false, true, true, false, true, false, false] ?_
        exact k (Or.inr ⟨rfl, rfl⟩)
    · rw [fX6_oddsPart_L51] at e
      refine mm_T.seg (f' := (67, [some (.ref 37), none, some (.int x2), some (.int x3), none, some (.int y5), some (.int y6), none], [(.int (I 19 1)), (.int y6)])) (h' := (107, I, J, mm_rf 19 sp rr 39 40)) 5 rfl ?_
      refine mm_T.br (c := y6 < (I 19 1)) (a := ((70, [some (.ref 37), none, some (.int x2), some (.int x3), none, some (.int y5), some (.int y6), none], []), (107, I, J, mm_rf 19 sp rr 39 40))) (b := ((89, [some (.ref 37), none, some (.int x2), some (.int x3), none, some (.int y5), some (.int y6), none], []), (107, I, J, mm_rf 19 sp rr 39 40))) rfl (fun h1 => ?_) (fun h1 => ?_)
      · rw [if_pos h1] at e
        obtain ⟨o1, eo1, e⟩ := mm_bind e
        refine mm_T.seg (f' := (73, [some (.ref 37), none, some (.int x2), some (.int x3), none, some (.int y5), some (.int y6), none], [(.int y6), (.ref 37)])) (h' := (107, I, J, mm_rf 19 sp rr 39 40)) 2 rfl ?_
        refine mm_T.call (t := 96) (as := [(.ref 37), (.int y6)]) (f' := (76, [some (.ref 37), none, some (.int x2), some (.int x3), none, some (.int y5), some (.int y6), none], [])) rfl (tX6_flowOn d n y6 I J 19 sp rr 39 40 (Or.inr rfl) (Or.inl ⟨rfl, rfl⟩) o1 eo1) (fun v h hq => ?_)
        obtain ⟨rfl, rfl⟩ := hq
        refine mm_T.seg (f' := (55, [some (.ref 37), none, some (.int x2), some (.int x3), none, some (.int (y5 * 100)), some (.int (y6 + 1)), none], [])) (h' := (107, o1, J, mm_rf 19 sp rr 40 39)) 6 rfl ?_
        exact ih (y5 * 100) (y6 + 1) o1 J 19 sp rr 40 39 (Or.inr rfl) (Or.inr ⟨rfl, rfl⟩) out e k
      · rw [if_neg h1] at e
        cases e
        refine mm_T.mask [true, false, true, true, false, true, false, false] ?_
        exact k (Or.inl ⟨rfl, rfl⟩)
    · rw [fX6_oddsPart_L51] at e
      refine mm_T.seg (f' := (67, [some (.ref 37), none, some (.int x2), some (.int x3), none, some (.int y5), some (.int y6), none], [(.int (I 19 1)), (.int y6)])) (h' := (107, I, J, mm_rf 19 sp rr 40 39)) 5 rfl ?_
      refine mm_T.br (c := y6 < (I 19 1)) (a := ((70, [some (.ref 37), none, some (.int x2), some (.int x3), none, some (.int y5), some (.int y6), none], []), (107, I, J, mm_rf 19 sp rr 40 39))) (b := ((89, [some (.ref 37), none, some (.int x2), some (.int x3), none, some (.int y5), some (.int y6), none], []), (107, I, J, mm_rf 19 sp rr 40 39))) rfl (fun h1 => ?_) (fun h1 => ?_)
      · rw [if_pos h1] at e
        obtain ⟨o1, eo1, e⟩ := mm_bind e
        refine mm_T.seg (f' := (73, [some (.ref 37), none, some (.int x2), some (.int x3), none, some (.int y5), some (.int y6), none], [(.int y6), (.ref 37)])) (h' := (107, I, J, mm_rf 19 sp rr 40 39)) 2 rfl ?_
        refine mm_T.call (t := 96) (as := [(.ref 37), (.int y6)]) (f' := (76, [some (.ref 37), none, some (.int x2), some (.int x3), none, some (.int y5), some (.int y6), none], [])) rfl (tX6_flowOn d n y6 I J 19 sp rr 40 39 (Or.inr rfl) (Or.inr ⟨rfl, rfl⟩) o1 eo1) (fun v h hq => ?_)
        obtain ⟨rfl, rfl⟩ := hq
        refine mm_T.seg (f' := (55, [some (.ref 37), none, some (.int x2), some (.int x3), none, some (.int (y5 * 100)), some (.int (y6 + 1)), none], [])) (h' := (107, o1, J, mm_rf 19 sp rr 39 40)) 6 rfl ?_
        exact ih (y5 * 100) (y6 + 1) o1 J 19 sp rr 39 40 (Or.inr rfl) (Or.inl ⟨rfl, rfl⟩) out e k
      · rw [if_neg h1] at e
        cases e
        refine mm_T.mask [true, false, true, true, false, true, false, false] ?_
        exact k (Or.inr ⟨rfl, rfl⟩)
set_option maxRecDepth 100000 in
set_option maxHeartbeats 4000000 in
theorem tX6_oddsTail (d n : Nat) (x2 x3 : Int32) (o1 : Int32 × Nat × Nat × (Nat → Nat → Int32)) (J : mJ) (rv sp rr : Nat) (hw : wOk o1.2.1 o1.2.2.1) (out : Int32 × Nat × Nat × (Nat → Nat → Int32)) (e : ((fX6_commonPart n (mf_pick o1.2.2.2 o1.2.1 8 x2) o1.1).bind fun g => if x3 = 0 then (if fJ9_max 1 g = 0 then none else some ((mf_pick o1.2.2.2 o1.2.1 8 x2) / fJ9_max 1 g, o1.2.1, o1.2.2.1, o1.2.2.2)) else (if fJ9_max 1 g = 0 then none else some (o1.1 / fJ9_max 1 g, o1.2.1, o1.2.2.1, o1.2.2.2))) = some out) : mm_T none (d + 4) 95 (89, [some (.ref 37), none, some (.int x2), some (.int x3), none, some (.int o1.1), none, none], []) (107, o1.2.2.2, J, mm_rf rv sp rr o1.2.1 o1.2.2.1) (fun v h => v = some (.int out.1) ∧ h = (107, out.2.2.2, J, mm_rf rv sp rr out.2.1 out.2.2.1)) := by
  obtain ⟨y5, w, nw, I⟩ := o1
  dsimp only at hw e ⊢
  rcases hw with ⟨rfl, rfl⟩ | ⟨rfl, rfl⟩
  · obtain ⟨g, eg, e⟩ := mm_bind e
    refine mm_T.seg (f' := (94, [some (.ref 37), none, some (.int x2), some (.int x3), none, some (.int y5), none, none], [(.int x2), (.ref 39)])) (h' := (107, I, J, mm_rf rv sp rr 39 40)) 3 rfl ?_
    refine mm_T.call (t := 204) (as := [(.ref 39), (.int x2)]) (f' := (97, [some (.ref 37), none, some (.int x2), some (.int x3), none, some (.int y5), none, none], [])) rfl (t_pick _ 39 8 x2 I J (mm_rf rv sp rr 39 40) rfl rfl) (fun v h hq => ?_)
    obtain ⟨rfl, rfl⟩ := hq
    refine mm_T.seg (f' := (103, [some (.ref 37), none, some (.int x2), some (.int x3), none, some (.int y5), some (.int (mf_pick I 39 8 x2)), none], [(.int y5), (.int (mf_pick I 39 8 x2))])) (h' := (107, I, J, mm_rf rv sp rr 39 40)) 3 rfl ?_
    refine mm_T.call (t := 98) (as := [(.int (mf_pick I 39 8 x2)), (.int y5)]) (f' := (106, [some (.ref 37), none, some (.int x2), some (.int x3), none, some (.int y5), some (.int (mf_pick I 39 8 x2)), none], [])) rfl (tX6_commonPart (d + 3) n (mf_pick I 39 8 x2) y5 I J rv sp rr 39 40 g eg) (fun v h hq => ?_)
    obtain ⟨rfl, rfl⟩ := hq
    refine mm_T.seg (f' := (109, [some (.ref 37), none, some (.int x2), some (.int x3), none, some (.int y5), some (.int (mf_pick I 39 8 x2)), some (.int g)], [(.int x3)])) (h' := (107, I, J, mm_rf rv sp rr 39 40)) 2 rfl ?_
    refine mm_T.br (c := x3 = 0) (a := ((112, [some (.ref 37), none, some (.int x2), some (.int x3), none, some (.int y5), some (.int (mf_pick I 39 8 x2)), some (.int g)], []), (107, I, J, mm_rf rv sp rr 39 40))) (b := ((117, [some (.ref 37), none, some (.int x2), some (.int x3), none, some (.int y5), some (.int (mf_pick I 39 8 x2)), some (.int g)], []), (107, I, J, mm_rf rv sp rr 39 40))) rfl (fun h1 => ?_) (fun h1 => ?_)
    · rw [if_pos h1] at e
      refine mm_T.seg (f' := (122, [some (.ref 37), none, some (.int x2), some (.int x3), none, some (.int y5), some (.int (mf_pick I 39 8 x2)), some (.int g)], [(.int g), (.int 1), (.int (mf_pick I 39 8 x2))])) (h' := (107, I, J, mm_rf rv sp rr 39 40)) 4 rfl ?_
      refine mm_T.call (t := 347) (as := [(.int 1), (.int g)]) (f' := (125, [some (.ref 37), none, some (.int x2), some (.int x3), none, some (.int y5), some (.int (mf_pick I 39 8 x2)), some (.int g)], [(.int (mf_pick I 39 8 x2))])) rfl (tJ9_max (d + 3) 1 g I J rv sp rr 39 40 _ rfl) (fun v h hq => ?_)
      obtain ⟨rfl, rfl⟩ := hq
      by_cases h2 : fJ9_max 1 g = 0
      · rw [if_pos h2] at e; cases e
      rw [if_neg h2] at e
      refine mm_T.guard (y := ((126, [some (.ref 37), none, some (.int x2), some (.int x3), none, some (.int y5), some (.int (mf_pick I 39 8 x2)), some (.int g)], [(.int ((mf_pick I 39 8 x2) / fJ9_max 1 g))]), (107, I, J, mm_rf rv sp rr 39 40))) rfl h2 ?_
      cases e
      exact mm_T.ret rfl ⟨rfl, rfl⟩
    · rw [if_neg h1] at e
      refine mm_T.seg (f' := (122, [some (.ref 37), none, some (.int x2), some (.int x3), none, some (.int y5), some (.int (mf_pick I 39 8 x2)), some (.int g)], [(.int g), (.int 1), (.int y5)])) (h' := (107, I, J, mm_rf rv sp rr 39 40)) 3 rfl ?_
      refine mm_T.call (t := 347) (as := [(.int 1), (.int g)]) (f' := (125, [some (.ref 37), none, some (.int x2), some (.int x3), none, some (.int y5), some (.int (mf_pick I 39 8 x2)), some (.int g)], [(.int y5)])) rfl (tJ9_max (d + 3) 1 g I J rv sp rr 39 40 _ rfl) (fun v h hq => ?_)
      obtain ⟨rfl, rfl⟩ := hq
      by_cases h2 : fJ9_max 1 g = 0
      · rw [if_pos h2] at e; cases e
      rw [if_neg h2] at e
      refine mm_T.guard (y := ((126, [some (.ref 37), none, some (.int x2), some (.int x3), none, some (.int y5), some (.int (mf_pick I 39 8 x2)), some (.int g)], [(.int (y5 / fJ9_max 1 g))]), (107, I, J, mm_rf rv sp rr 39 40))) rfl h2 ?_
      cases e
      exact mm_T.ret rfl ⟨rfl, rfl⟩
  · obtain ⟨g, eg, e⟩ := mm_bind e
    refine mm_T.seg (f' := (94, [some (.ref 37), none, some (.int x2), some (.int x3), none, some (.int y5), none, none], [(.int x2), (.ref 40)])) (h' := (107, I, J, mm_rf rv sp rr 40 39)) 3 rfl ?_
    refine mm_T.call (t := 204) (as := [(.ref 40), (.int x2)]) (f' := (97, [some (.ref 37), none, some (.int x2), some (.int x3), none, some (.int y5), none, none], [])) rfl (t_pick _ 40 8 x2 I J (mm_rf rv sp rr 40 39) rfl rfl) (fun v h hq => ?_)
    obtain ⟨rfl, rfl⟩ := hq
    refine mm_T.seg (f' := (103, [some (.ref 37), none, some (.int x2), some (.int x3), none, some (.int y5), some (.int (mf_pick I 40 8 x2)), none], [(.int y5), (.int (mf_pick I 40 8 x2))])) (h' := (107, I, J, mm_rf rv sp rr 40 39)) 3 rfl ?_
    refine mm_T.call (t := 98) (as := [(.int (mf_pick I 40 8 x2)), (.int y5)]) (f' := (106, [some (.ref 37), none, some (.int x2), some (.int x3), none, some (.int y5), some (.int (mf_pick I 40 8 x2)), none], [])) rfl (tX6_commonPart (d + 3) n (mf_pick I 40 8 x2) y5 I J rv sp rr 40 39 g eg) (fun v h hq => ?_)
    obtain ⟨rfl, rfl⟩ := hq
    refine mm_T.seg (f' := (109, [some (.ref 37), none, some (.int x2), some (.int x3), none, some (.int y5), some (.int (mf_pick I 40 8 x2)), some (.int g)], [(.int x3)])) (h' := (107, I, J, mm_rf rv sp rr 40 39)) 2 rfl ?_
    refine mm_T.br (c := x3 = 0) (a := ((112, [some (.ref 37), none, some (.int x2), some (.int x3), none, some (.int y5), some (.int (mf_pick I 40 8 x2)), some (.int g)], []), (107, I, J, mm_rf rv sp rr 40 39))) (b := ((117, [some (.ref 37), none, some (.int x2), some (.int x3), none, some (.int y5), some (.int (mf_pick I 40 8 x2)), some (.int g)], []), (107, I, J, mm_rf rv sp rr 40 39))) rfl (fun h1 => ?_) (fun h1 => ?_)
    · rw [if_pos h1] at e
      refine mm_T.seg (f' := (122, [some (.ref 37), none, some (.int x2), some (.int x3), none, some (.int y5), some (.int (mf_pick I 40 8 x2)), some (.int g)], [(.int g), (.int 1), (.int (mf_pick I 40 8 x2))])) (h' := (107, I, J, mm_rf rv sp rr 40 39)) 4 rfl ?_
      refine mm_T.call (t := 347) (as := [(.int 1), (.int g)]) (f' := (125, [some (.ref 37), none, some (.int x2), some (.int x3), none, some (.int y5), some (.int (mf_pick I 40 8 x2)), some (.int g)], [(.int (mf_pick I 40 8 x2))])) rfl (tJ9_max (d + 3) 1 g I J rv sp rr 40 39 _ rfl) (fun v h hq => ?_)
      obtain ⟨rfl, rfl⟩ := hq
      by_cases h2 : fJ9_max 1 g = 0
      · rw [if_pos h2] at e; cases e
      rw [if_neg h2] at e
      refine mm_T.guard (y := ((126, [some (.ref 37), none, some (.int x2), some (.int x3), none, some (.int y5), some (.int (mf_pick I 40 8 x2)), some (.int g)], [(.int ((mf_pick I 40 8 x2) / fJ9_max 1 g))]), (107, I, J, mm_rf rv sp rr 40 39))) rfl h2 ?_
      cases e
      exact mm_T.ret rfl ⟨rfl, rfl⟩
    · rw [if_neg h1] at e
      refine mm_T.seg (f' := (122, [some (.ref 37), none, some (.int x2), some (.int x3), none, some (.int y5), some (.int (mf_pick I 40 8 x2)), some (.int g)], [(.int g), (.int 1), (.int y5)])) (h' := (107, I, J, mm_rf rv sp rr 40 39)) 3 rfl ?_
      refine mm_T.call (t := 347) (as := [(.int 1), (.int g)]) (f' := (125, [some (.ref 37), none, some (.int x2), some (.int x3), none, some (.int y5), some (.int (mf_pick I 40 8 x2)), some (.int g)], [(.int y5)])) rfl (tJ9_max (d + 3) 1 g I J rv sp rr 40 39 _ rfl) (fun v h hq => ?_)
      obtain ⟨rfl, rfl⟩ := hq
      by_cases h2 : fJ9_max 1 g = 0
      · rw [if_pos h2] at e; cases e
      rw [if_neg h2] at e
      refine mm_T.guard (y := ((126, [some (.ref 37), none, some (.int x2), some (.int x3), none, some (.int y5), some (.int (mf_pick I 40 8 x2)), some (.int g)], [(.int (y5 / fJ9_max 1 g))]), (107, I, J, mm_rf rv sp rr 40 39))) rfl h2 ?_
      cases e
      exact mm_T.ret rfl ⟨rfl, rfl⟩
set_option maxRecDepth 100000 in
set_option maxHeartbeats 4000000 in
theorem tX6_oddsPart (d n : Nat) (x1 x2 x3 : Int32) (I : (Nat → Nat → Int32)) (J : mJ) (rv sp rr w nw : Nat) (hrv : rv = 3 ∨ rv = 19) (hw : wOk w nw) (out : Int32 × Nat × Nat × (Nat → Nat → Int32)) (e : fX6_oddsPart n x1 x2 x3 I rv w nw = some out) : mm_T none (d + 4) 95 (mm_ent 95 [(.ref 37), (.int x1), (.int x2), (.int x3)]) (107, I, J, mm_rf rv sp rr w nw) (fun v h => v = some (.int out.1) ∧ h = (107, out.2.2.2, J, mm_rf rv sp rr out.2.1 out.2.2.1)) := by
  rcases hrv, hw with ⟨rfl | rfl, ⟨rfl, rfl⟩ | ⟨rfl, rfl⟩⟩
  · unfold fX6_oddsPart at e
    refine mm_T.seg (f' := (5, [some (.ref 37), some (.int x1), some (.int x2), some (.int x3), none, none, none, none], [(.int x1), (.ref 18)])) (h' := (107, I, J, mm_rf 3 sp rr 39 40)) 3 rfl ?_
    refine mm_T.call (t := 111) (as := [(.ref 18), (.int x1)]) (f' := (8, [some (.ref 37), some (.int x1), some (.int x2), some (.int x3), none, none, none, none], [])) rfl (tX7_strokesLeft d x1 I J 3 sp rr 39 40 (Or.inl rfl) _ rfl) (fun v h hq => ?_)
    obtain ⟨rfl, rfl⟩ := hq
    refine mm_T.seg (f' := (13, [some (.ref 37), some (.int x1), some (.int x2), some (.int x3), some (.int (fX7_strokesLeft x1 I 3)), none, none, none], [(.int 4), (.int (fX7_strokesLeft x1 I 3))])) (h' := (107, I, J, mm_rf 3 sp rr 39 40)) 3 rfl ?_
    refine mm_T.br (c := 4 < (fX7_strokesLeft x1 I 3)) (a := ((16, [some (.ref 37), some (.int x1), some (.int x2), some (.int x3), some (.int (fX7_strokesLeft x1 I 3)), none, none, none], []), (107, I, J, mm_rf 3 sp rr 39 40))) (b := ((18, [some (.ref 37), some (.int x1), some (.int x2), some (.int x3), some (.int (fX7_strokesLeft x1 I 3)), none, none, none], []), (107, I, J, mm_rf 3 sp rr 39 40))) rfl (fun h1 => ?_) (fun h1 => ?_)
    · rw [if_pos h1] at e
      refine mm_T.seg (f' := (17, [some (.ref 37), some (.int x1), some (.int x2), some (.int x3), some (.int (fX7_strokesLeft x1 I 3)), none, none, none], [(.int (-1))])) (h' := (107, I, J, mm_rf 3 sp rr 39 40)) 1 rfl ?_
      cases e
      exact mm_T.ret rfl ⟨rfl, rfl⟩
    · rw [if_neg h1] at e
      refine mm_T.seg (f' := (23, [some (.ref 37), some (.int x1), some (.int x2), some (.int x3), some (.int (fX7_strokesLeft x1 I 3)), none, none, none], [(.int 0), (.ref 39)])) (h' := (107, I, J, mm_rf 3 sp rr 39 40)) 3 rfl ?_
      refine mm_T.call (t := 344) (as := [(.ref 39), (.int 0)]) (f' := (26, [some (.ref 37), some (.int x1), some (.int x2), some (.int x3), some (.int (fX7_strokesLeft x1 I 3)), none, none, none], [])) rfl (t_fill _ 39 8 0 I J (mm_rf 3 sp rr 39 40) rfl rfl) (fun v h hq => ?_)
      obtain ⟨rfl, rfl⟩ := hq
      refine mm_T.seg (f' := (35, [some (.ref 37), some (.int x1), some (.int x2), some (.int x3), some (.int (fX7_strokesLeft x1 I 3)), none, none, none], [(.int x1), (.ref 18), (.ref 39)])) (h' := (107, (mf_fill I 39 8 0), J, mm_rf 3 sp rr 39 40)) 5 rfl ?_
      refine mm_T.call (t := 105) (as := [(.ref 18), (.int x1)]) (f' := (38, [some (.ref 37), some (.int x1), some (.int x2), some (.int x3), some (.int (fX7_strokesLeft x1 I 3)), none, none, none], [(.ref 39)])) rfl (tX7_columnOf (d + 1) x1 (mf_fill I 39 8 0) J 3 sp rr 39 40 _ rfl) (fun v h hq => ?_)
      obtain ⟨rfl, rfl⟩ := hq
      refine mm_T.seg (f' := (39, [some (.ref 37), some (.int x1), some (.int x2), some (.int x3), some (.int (fX7_strokesLeft x1 I 3)), none, none, none], [(.int 1), (.int (fX7_columnOf x1 (mf_fill I 39 8 0))), (.ref 39)])) (h' := (107, (mf_fill I 39 8 0), J, mm_rf 3 sp rr 39 40)) 1 rfl ?_
      refine mm_T.call (t := 205) (as := [(.ref 39), (.int (fX7_columnOf x1 (mf_fill I 39 8 0))), (.int 1)]) (f' := (42, [some (.ref 37), some (.int x1), some (.int x2), some (.int x3), some (.int (fX7_strokesLeft x1 I 3)), none, none, none], [])) rfl (t_put _ 39 8 (fX7_columnOf x1 (mf_fill I 39 8 0)) 1 (mf_fill I 39 8 0) J (mm_rf 3 sp rr 39 40) rfl rfl) (fun v h hq => ?_)
      obtain ⟨rfl, rfl⟩ := hq
      refine mm_T.seg (f' := (50, [some (.ref 37), some (.int x1), some (.int x2), some (.int x3), some (.int (fX7_strokesLeft x1 I 3)), some (.int 1), none, none], [(.int x1), (.ref 18)])) (h' := (107, (mf_put (mf_fill I 39 8 0) 39 8 (fX7_columnOf x1 (mf_fill I 39 8 0)) 1), J, mm_rf 3 sp rr 39 40)) 5 rfl ?_
      refine mm_T.call (t := 106) (as := [(.ref 18), (.int x1)]) (f' := (53, [some (.ref 37), some (.int x1), some (.int x2), some (.int x3), some (.int (fX7_strokesLeft x1 I 3)), some (.int 1), none, none], [])) rfl (tX7_rowOf (d + 1) x1 (mf_put (mf_fill I 39 8 0) 39 8 (fX7_columnOf x1 (mf_fill I 39 8 0)) 1) J 3 sp rr 39 40 _ rfl) (fun v h hq => ?_)
      obtain ⟨rfl, rfl⟩ := hq
      refine mm_T.seg (f' := (55, [some (.ref 37), some (.int x1), some (.int x2), some (.int x3), some (.int (fX7_strokesLeft x1 I 3)), some (.int 1), some (.int (fX7_rowOf x1 (mf_put (mf_fill I 39 8 0) 39 8 (fX7_columnOf x1 (mf_fill I 39 8 0)) 1))), none], [])) (h' := (107, (mf_put (mf_fill I 39 8 0) 39 8 (fX7_columnOf x1 (mf_fill I 39 8 0)) 1), J, mm_rf 3 sp rr 39 40)) 1 rfl ?_
      refine mm_T.mask [true, false, true, true, false, true, true, false] ?_
      obtain ⟨o1, eo1, e⟩ := mm_bind e
      refine tlX6_oddsPart_L51 d _ x2 x3 n 1 (fX7_rowOf x1 (mf_put (mf_fill I 39 8 0) 39 8 (fX7_columnOf x1 (mf_fill I 39 8 0)) 1)) (mf_put (mf_fill I 39 8 0) 39 8 (fX7_columnOf x1 (mf_fill I 39 8 0)) 1) J 3 sp rr 39 40 (Or.inl rfl) (Or.inl ⟨rfl, rfl⟩) o1 eo1 (fun hw1 => ?_)
      exact tX6_oddsTail d n x2 x3 o1 J 3 sp rr hw1 out e
  · unfold fX6_oddsPart at e
    refine mm_T.seg (f' := (5, [some (.ref 37), some (.int x1), some (.int x2), some (.int x3), none, none, none, none], [(.int x1), (.ref 18)])) (h' := (107, I, J, mm_rf 3 sp rr 40 39)) 3 rfl ?_
    refine mm_T.call (t := 111) (as := [(.ref 18), (.int x1)]) (f' := (8, [some (.ref 37), some (.int x1), some (.int x2), some (.int x3), none, none, none, none], [])) rfl (tX7_strokesLeft d x1 I J 3 sp rr 40 39 (Or.inl rfl) _ rfl) (fun v h hq => ?_)
    obtain ⟨rfl, rfl⟩ := hq
    refine mm_T.seg (f' := (13, [some (.ref 37), some (.int x1), some (.int x2), some (.int x3), some (.int (fX7_strokesLeft x1 I 3)), none, none, none], [(.int 4), (.int (fX7_strokesLeft x1 I 3))])) (h' := (107, I, J, mm_rf 3 sp rr 40 39)) 3 rfl ?_
    refine mm_T.br (c := 4 < (fX7_strokesLeft x1 I 3)) (a := ((16, [some (.ref 37), some (.int x1), some (.int x2), some (.int x3), some (.int (fX7_strokesLeft x1 I 3)), none, none, none], []), (107, I, J, mm_rf 3 sp rr 40 39))) (b := ((18, [some (.ref 37), some (.int x1), some (.int x2), some (.int x3), some (.int (fX7_strokesLeft x1 I 3)), none, none, none], []), (107, I, J, mm_rf 3 sp rr 40 39))) rfl (fun h1 => ?_) (fun h1 => ?_)
    · rw [if_pos h1] at e
      refine mm_T.seg (f' := (17, [some (.ref 37), some (.int x1), some (.int x2), some (.int x3), some (.int (fX7_strokesLeft x1 I 3)), none, none, none], [(.int (-1))])) (h' := (107, I, J, mm_rf 3 sp rr 40 39)) 1 rfl ?_
      cases e
      exact mm_T.ret rfl ⟨rfl, rfl⟩
    · rw [if_neg h1] at e
      refine mm_T.seg (f' := (23, [some (.ref 37), some (.int x1), some (.int x2), some (.int x3), some (.int (fX7_strokesLeft x1 I 3)), none, none, none], [(.int 0), (.ref 40)])) (h' := (107, I, J, mm_rf 3 sp rr 40 39)) 3 rfl ?_
      refine mm_T.call (t := 344) (as := [(.ref 40), (.int 0)]) (f' := (26, [some (.ref 37), some (.int x1), some (.int x2), some (.int x3), some (.int (fX7_strokesLeft x1 I 3)), none, none, none], [])) rfl (t_fill _ 40 8 0 I J (mm_rf 3 sp rr 40 39) rfl rfl) (fun v h hq => ?_)
      obtain ⟨rfl, rfl⟩ := hq
      refine mm_T.seg (f' := (35, [some (.ref 37), some (.int x1), some (.int x2), some (.int x3), some (.int (fX7_strokesLeft x1 I 3)), none, none, none], [(.int x1), (.ref 18), (.ref 40)])) (h' := (107, (mf_fill I 40 8 0), J, mm_rf 3 sp rr 40 39)) 5 rfl ?_
      refine mm_T.call (t := 105) (as := [(.ref 18), (.int x1)]) (f' := (38, [some (.ref 37), some (.int x1), some (.int x2), some (.int x3), some (.int (fX7_strokesLeft x1 I 3)), none, none, none], [(.ref 40)])) rfl (tX7_columnOf (d + 1) x1 (mf_fill I 40 8 0) J 3 sp rr 40 39 _ rfl) (fun v h hq => ?_)
      obtain ⟨rfl, rfl⟩ := hq
      refine mm_T.seg (f' := (39, [some (.ref 37), some (.int x1), some (.int x2), some (.int x3), some (.int (fX7_strokesLeft x1 I 3)), none, none, none], [(.int 1), (.int (fX7_columnOf x1 (mf_fill I 40 8 0))), (.ref 40)])) (h' := (107, (mf_fill I 40 8 0), J, mm_rf 3 sp rr 40 39)) 1 rfl ?_
      refine mm_T.call (t := 205) (as := [(.ref 40), (.int (fX7_columnOf x1 (mf_fill I 40 8 0))), (.int 1)]) (f' := (42, [some (.ref 37), some (.int x1), some (.int x2), some (.int x3), some (.int (fX7_strokesLeft x1 I 3)), none, none, none], [])) rfl (t_put _ 40 8 (fX7_columnOf x1 (mf_fill I 40 8 0)) 1 (mf_fill I 40 8 0) J (mm_rf 3 sp rr 40 39) rfl rfl) (fun v h hq => ?_)
      obtain ⟨rfl, rfl⟩ := hq
      refine mm_T.seg (f' := (50, [some (.ref 37), some (.int x1), some (.int x2), some (.int x3), some (.int (fX7_strokesLeft x1 I 3)), some (.int 1), none, none], [(.int x1), (.ref 18)])) (h' := (107, (mf_put (mf_fill I 40 8 0) 40 8 (fX7_columnOf x1 (mf_fill I 40 8 0)) 1), J, mm_rf 3 sp rr 40 39)) 5 rfl ?_
      refine mm_T.call (t := 106) (as := [(.ref 18), (.int x1)]) (f' := (53, [some (.ref 37), some (.int x1), some (.int x2), some (.int x3), some (.int (fX7_strokesLeft x1 I 3)), some (.int 1), none, none], [])) rfl (tX7_rowOf (d + 1) x1 (mf_put (mf_fill I 40 8 0) 40 8 (fX7_columnOf x1 (mf_fill I 40 8 0)) 1) J 3 sp rr 40 39 _ rfl) (fun v h hq => ?_)
      obtain ⟨rfl, rfl⟩ := hq
      refine mm_T.seg (f' := (55, [some (.ref 37), some (.int x1), some (.int x2), some (.int x3), some (.int (fX7_strokesLeft x1 I 3)), some (.int 1), some (.int (fX7_rowOf x1 (mf_put (mf_fill I 40 8 0) 40 8 (fX7_columnOf x1 (mf_fill I 40 8 0)) 1))), none], [])) (h' := (107, (mf_put (mf_fill I 40 8 0) 40 8 (fX7_columnOf x1 (mf_fill I 40 8 0)) 1), J, mm_rf 3 sp rr 40 39)) 1 rfl ?_
      refine mm_T.mask [true, false, true, true, false, true, true, false] ?_
      obtain ⟨o1, eo1, e⟩ := mm_bind e
      refine tlX6_oddsPart_L51 d _ x2 x3 n 1 (fX7_rowOf x1 (mf_put (mf_fill I 40 8 0) 40 8 (fX7_columnOf x1 (mf_fill I 40 8 0)) 1)) (mf_put (mf_fill I 40 8 0) 40 8 (fX7_columnOf x1 (mf_fill I 40 8 0)) 1) J 3 sp rr 40 39 (Or.inl rfl) (Or.inr ⟨rfl, rfl⟩) o1 eo1 (fun hw1 => ?_)
      exact tX6_oddsTail d n x2 x3 o1 J 3 sp rr hw1 out e
  · unfold fX6_oddsPart at e
    refine mm_T.seg (f' := (5, [some (.ref 37), some (.int x1), some (.int x2), some (.int x3), none, none, none, none], [(.int x1), (.ref 18)])) (h' := (107, I, J, mm_rf 19 sp rr 39 40)) 3 rfl ?_
    refine mm_T.call (t := 111) (as := [(.ref 18), (.int x1)]) (f' := (8, [some (.ref 37), some (.int x1), some (.int x2), some (.int x3), none, none, none, none], [])) rfl (tX7_strokesLeft d x1 I J 19 sp rr 39 40 (Or.inr rfl) _ rfl) (fun v h hq => ?_)
    obtain ⟨rfl, rfl⟩ := hq
    refine mm_T.seg (f' := (13, [some (.ref 37), some (.int x1), some (.int x2), some (.int x3), some (.int (fX7_strokesLeft x1 I 19)), none, none, none], [(.int 4), (.int (fX7_strokesLeft x1 I 19))])) (h' := (107, I, J, mm_rf 19 sp rr 39 40)) 3 rfl ?_
    refine mm_T.br (c := 4 < (fX7_strokesLeft x1 I 19)) (a := ((16, [some (.ref 37), some (.int x1), some (.int x2), some (.int x3), some (.int (fX7_strokesLeft x1 I 19)), none, none, none], []), (107, I, J, mm_rf 19 sp rr 39 40))) (b := ((18, [some (.ref 37), some (.int x1), some (.int x2), some (.int x3), some (.int (fX7_strokesLeft x1 I 19)), none, none, none], []), (107, I, J, mm_rf 19 sp rr 39 40))) rfl (fun h1 => ?_) (fun h1 => ?_)
    · rw [if_pos h1] at e
      refine mm_T.seg (f' := (17, [some (.ref 37), some (.int x1), some (.int x2), some (.int x3), some (.int (fX7_strokesLeft x1 I 19)), none, none, none], [(.int (-1))])) (h' := (107, I, J, mm_rf 19 sp rr 39 40)) 1 rfl ?_
      cases e
      exact mm_T.ret rfl ⟨rfl, rfl⟩
    · rw [if_neg h1] at e
      refine mm_T.seg (f' := (23, [some (.ref 37), some (.int x1), some (.int x2), some (.int x3), some (.int (fX7_strokesLeft x1 I 19)), none, none, none], [(.int 0), (.ref 39)])) (h' := (107, I, J, mm_rf 19 sp rr 39 40)) 3 rfl ?_
      refine mm_T.call (t := 344) (as := [(.ref 39), (.int 0)]) (f' := (26, [some (.ref 37), some (.int x1), some (.int x2), some (.int x3), some (.int (fX7_strokesLeft x1 I 19)), none, none, none], [])) rfl (t_fill _ 39 8 0 I J (mm_rf 19 sp rr 39 40) rfl rfl) (fun v h hq => ?_)
      obtain ⟨rfl, rfl⟩ := hq
      refine mm_T.seg (f' := (35, [some (.ref 37), some (.int x1), some (.int x2), some (.int x3), some (.int (fX7_strokesLeft x1 I 19)), none, none, none], [(.int x1), (.ref 18), (.ref 39)])) (h' := (107, (mf_fill I 39 8 0), J, mm_rf 19 sp rr 39 40)) 5 rfl ?_
      refine mm_T.call (t := 105) (as := [(.ref 18), (.int x1)]) (f' := (38, [some (.ref 37), some (.int x1), some (.int x2), some (.int x3), some (.int (fX7_strokesLeft x1 I 19)), none, none, none], [(.ref 39)])) rfl (tX7_columnOf (d + 1) x1 (mf_fill I 39 8 0) J 19 sp rr 39 40 _ rfl) (fun v h hq => ?_)
      obtain ⟨rfl, rfl⟩ := hq
      refine mm_T.seg (f' := (39, [some (.ref 37), some (.int x1), some (.int x2), some (.int x3), some (.int (fX7_strokesLeft x1 I 19)), none, none, none], [(.int 1), (.int (fX7_columnOf x1 (mf_fill I 39 8 0))), (.ref 39)])) (h' := (107, (mf_fill I 39 8 0), J, mm_rf 19 sp rr 39 40)) 1 rfl ?_
      refine mm_T.call (t := 205) (as := [(.ref 39), (.int (fX7_columnOf x1 (mf_fill I 39 8 0))), (.int 1)]) (f' := (42, [some (.ref 37), some (.int x1), some (.int x2), some (.int x3), some (.int (fX7_strokesLeft x1 I 19)), none, none, none], [])) rfl (t_put _ 39 8 (fX7_columnOf x1 (mf_fill I 39 8 0)) 1 (mf_fill I 39 8 0) J (mm_rf 19 sp rr 39 40) rfl rfl) (fun v h hq => ?_)
      obtain ⟨rfl, rfl⟩ := hq
      refine mm_T.seg (f' := (50, [some (.ref 37), some (.int x1), some (.int x2), some (.int x3), some (.int (fX7_strokesLeft x1 I 19)), some (.int 1), none, none], [(.int x1), (.ref 18)])) (h' := (107, (mf_put (mf_fill I 39 8 0) 39 8 (fX7_columnOf x1 (mf_fill I 39 8 0)) 1), J, mm_rf 19 sp rr 39 40)) 5 rfl ?_
      refine mm_T.call (t := 106) (as := [(.ref 18), (.int x1)]) (f' := (53, [some (.ref 37), some (.int x1), some (.int x2), some (.int x3), some (.int (fX7_strokesLeft x1 I 19)), some (.int 1), none, none], [])) rfl (tX7_rowOf (d + 1) x1 (mf_put (mf_fill I 39 8 0) 39 8 (fX7_columnOf x1 (mf_fill I 39 8 0)) 1) J 19 sp rr 39 40 _ rfl) (fun v h hq => ?_)
      obtain ⟨rfl, rfl⟩ := hq
      refine mm_T.seg (f' := (55, [some (.ref 37), some (.int x1), some (.int x2), some (.int x3), some (.int (fX7_strokesLeft x1 I 19)), some (.int 1), some (.int (fX7_rowOf x1 (mf_put (mf_fill I 39 8 0) 39 8 (fX7_columnOf x1 (mf_fill I 39 8 0)) 1))), none], [])) (h' := (107, (mf_put (mf_fill I 39 8 0) 39 8 (fX7_columnOf x1 (mf_fill I 39 8 0)) 1), J, mm_rf 19 sp rr 39 40)) 1 rfl ?_
      refine mm_T.mask [true, false, true, true, false, true, true, false] ?_
      obtain ⟨o1, eo1, e⟩ := mm_bind e
      refine tlX6_oddsPart_L51 d _ x2 x3 n 1 (fX7_rowOf x1 (mf_put (mf_fill I 39 8 0) 39 8 (fX7_columnOf x1 (mf_fill I 39 8 0)) 1)) (mf_put (mf_fill I 39 8 0) 39 8 (fX7_columnOf x1 (mf_fill I 39 8 0)) 1) J 19 sp rr 39 40 (Or.inr rfl) (Or.inl ⟨rfl, rfl⟩) o1 eo1 (fun hw1 => ?_)
      exact tX6_oddsTail d n x2 x3 o1 J 19 sp rr hw1 out e
  · unfold fX6_oddsPart at e
    refine mm_T.seg (f' := (5, [some (.ref 37), some (.int x1), some (.int x2), some (.int x3), none, none, none, none], [(.int x1), (.ref 18)])) (h' := (107, I, J, mm_rf 19 sp rr 40 39)) 3 rfl ?_
    refine mm_T.call (t := 111) (as := [(.ref 18), (.int x1)]) (f' := (8, [some (.ref 37), some (.int x1), some (.int x2), some (.int x3), none, none, none, none], [])) rfl (tX7_strokesLeft d x1 I J 19 sp rr 40 39 (Or.inr rfl) _ rfl) (fun v h hq => ?_)
    obtain ⟨rfl, rfl⟩ := hq
    refine mm_T.seg (f' := (13, [some (.ref 37), some (.int x1), some (.int x2), some (.int x3), some (.int (fX7_strokesLeft x1 I 19)), none, none, none], [(.int 4), (.int (fX7_strokesLeft x1 I 19))])) (h' := (107, I, J, mm_rf 19 sp rr 40 39)) 3 rfl ?_
    refine mm_T.br (c := 4 < (fX7_strokesLeft x1 I 19)) (a := ((16, [some (.ref 37), some (.int x1), some (.int x2), some (.int x3), some (.int (fX7_strokesLeft x1 I 19)), none, none, none], []), (107, I, J, mm_rf 19 sp rr 40 39))) (b := ((18, [some (.ref 37), some (.int x1), some (.int x2), some (.int x3), some (.int (fX7_strokesLeft x1 I 19)), none, none, none], []), (107, I, J, mm_rf 19 sp rr 40 39))) rfl (fun h1 => ?_) (fun h1 => ?_)
    · rw [if_pos h1] at e
      refine mm_T.seg (f' := (17, [some (.ref 37), some (.int x1), some (.int x2), some (.int x3), some (.int (fX7_strokesLeft x1 I 19)), none, none, none], [(.int (-1))])) (h' := (107, I, J, mm_rf 19 sp rr 40 39)) 1 rfl ?_
      cases e
      exact mm_T.ret rfl ⟨rfl, rfl⟩
    · rw [if_neg h1] at e
      refine mm_T.seg (f' := (23, [some (.ref 37), some (.int x1), some (.int x2), some (.int x3), some (.int (fX7_strokesLeft x1 I 19)), none, none, none], [(.int 0), (.ref 40)])) (h' := (107, I, J, mm_rf 19 sp rr 40 39)) 3 rfl ?_
      refine mm_T.call (t := 344) (as := [(.ref 40), (.int 0)]) (f' := (26, [some (.ref 37), some (.int x1), some (.int x2), some (.int x3), some (.int (fX7_strokesLeft x1 I 19)), none, none, none], [])) rfl (t_fill _ 40 8 0 I J (mm_rf 19 sp rr 40 39) rfl rfl) (fun v h hq => ?_)
      obtain ⟨rfl, rfl⟩ := hq
      refine mm_T.seg (f' := (35, [some (.ref 37), some (.int x1), some (.int x2), some (.int x3), some (.int (fX7_strokesLeft x1 I 19)), none, none, none], [(.int x1), (.ref 18), (.ref 40)])) (h' := (107, (mf_fill I 40 8 0), J, mm_rf 19 sp rr 40 39)) 5 rfl ?_
      refine mm_T.call (t := 105) (as := [(.ref 18), (.int x1)]) (f' := (38, [some (.ref 37), some (.int x1), some (.int x2), some (.int x3), some (.int (fX7_strokesLeft x1 I 19)), none, none, none], [(.ref 40)])) rfl (tX7_columnOf (d + 1) x1 (mf_fill I 40 8 0) J 19 sp rr 40 39 _ rfl) (fun v h hq => ?_)
      obtain ⟨rfl, rfl⟩ := hq
      refine mm_T.seg (f' := (39, [some (.ref 37), some (.int x1), some (.int x2), some (.int x3), some (.int (fX7_strokesLeft x1 I 19)), none, none, none], [(.int 1), (.int (fX7_columnOf x1 (mf_fill I 40 8 0))), (.ref 40)])) (h' := (107, (mf_fill I 40 8 0), J, mm_rf 19 sp rr 40 39)) 1 rfl ?_
      refine mm_T.call (t := 205) (as := [(.ref 40), (.int (fX7_columnOf x1 (mf_fill I 40 8 0))), (.int 1)]) (f' := (42, [some (.ref 37), some (.int x1), some (.int x2), some (.int x3), some (.int (fX7_strokesLeft x1 I 19)), none, none, none], [])) rfl (t_put _ 40 8 (fX7_columnOf x1 (mf_fill I 40 8 0)) 1 (mf_fill I 40 8 0) J (mm_rf 19 sp rr 40 39) rfl rfl) (fun v h hq => ?_)
      obtain ⟨rfl, rfl⟩ := hq
      refine mm_T.seg (f' := (50, [some (.ref 37), some (.int x1), some (.int x2), some (.int x3), some (.int (fX7_strokesLeft x1 I 19)), some (.int 1), none, none], [(.int x1), (.ref 18)])) (h' := (107, (mf_put (mf_fill I 40 8 0) 40 8 (fX7_columnOf x1 (mf_fill I 40 8 0)) 1), J, mm_rf 19 sp rr 40 39)) 5 rfl ?_
      refine mm_T.call (t := 106) (as := [(.ref 18), (.int x1)]) (f' := (53, [some (.ref 37), some (.int x1), some (.int x2), some (.int x3), some (.int (fX7_strokesLeft x1 I 19)), some (.int 1), none, none], [])) rfl (tX7_rowOf (d + 1) x1 (mf_put (mf_fill I 40 8 0) 40 8 (fX7_columnOf x1 (mf_fill I 40 8 0)) 1) J 19 sp rr 40 39 _ rfl) (fun v h hq => ?_)
      obtain ⟨rfl, rfl⟩ := hq
      refine mm_T.seg (f' := (55, [some (.ref 37), some (.int x1), some (.int x2), some (.int x3), some (.int (fX7_strokesLeft x1 I 19)), some (.int 1), some (.int (fX7_rowOf x1 (mf_put (mf_fill I 40 8 0) 40 8 (fX7_columnOf x1 (mf_fill I 40 8 0)) 1))), none], [])) (h' := (107, (mf_put (mf_fill I 40 8 0) 40 8 (fX7_columnOf x1 (mf_fill I 40 8 0)) 1), J, mm_rf 19 sp rr 40 39)) 1 rfl ?_
      refine mm_T.mask [true, false, true, true, false, true, true, false] ?_
      obtain ⟨o1, eo1, e⟩ := mm_bind e
      refine tlX6_oddsPart_L51 d _ x2 x3 n 1 (fX7_rowOf x1 (mf_put (mf_fill I 40 8 0) 40 8 (fX7_columnOf x1 (mf_fill I 40 8 0)) 1)) (mf_put (mf_fill I 40 8 0) 40 8 (fX7_columnOf x1 (mf_fill I 40 8 0)) 1) J 19 sp rr 40 39 (Or.inr rfl) (Or.inr ⟨rfl, rfl⟩) o1 eo1 (fun hw1 => ?_)
      exact tX6_oddsTail d n x2 x3 o1 J 19 sp rr hw1 out e
set_option maxRecDepth 100000 in
set_option maxHeartbeats 4000000 in
theorem tX11_odds (d n : Nat) (x1 x2 x3 : Int32) (I : (Nat → Nat → Int32)) (J : mJ) (rv sp rr w nw : Nat) (hrv : rv = 3 ∨ rv = 19) (hw : wOk w nw) (out : Int32 × Nat × Nat × (Nat → Nat → Int32)) (e : fX11_odds n x1 x2 x3 I rv w nw = some out) : mm_T none (d + 5) 187 (mm_ent 187 [(.ref 1), (.int x1), (.int x2), (.int x3)]) (107, I, J, mm_rf rv sp rr w nw) (fun v h => v = some (.int out.1) ∧ h = (107, out.2.2.2, J, mm_rf rv sp rr out.2.1 out.2.2.1)) := by
  rcases hrv with rfl | rfl
  · unfold fX11_odds at e
    refine mm_T.seg (f' := (5, [some (.ref 1), some (.int x1), some (.int x2), some (.int x3)], [(.int x1), (.ref 18)])) (h' := (107, I, J, mm_rf 3 sp rr w nw)) 3 rfl ?_
    refine mm_T.call (t := 101) (as := [(.ref 18), (.int x1)]) (f' := (8, [some (.ref 1), some (.int x1), some (.int x2), some (.int x3)], [])) rfl (tX7_isBoard (d + 4) x1 I J 3 sp rr w nw (Or.inl rfl) _ rfl) (fun v h hq => ?_)
    obtain ⟨rfl, rfl⟩ := hq
    refine mm_T.br (c := (fX7_isBoard x1 I 3) = 0) (a := ((38, [some (.ref 1), some (.int x1), some (.int x2), some (.int x3)], []), (107, I, J, mm_rf 3 sp rr w nw))) (b := ((11, [some (.ref 1), some (.int x1), some (.int x2), some (.int x3)], []), (107, I, J, mm_rf 3 sp rr w nw))) rfl (fun h1 => ?_) (fun h1 => ?_)
    · rw [if_pos h1] at e
      refine mm_T.seg (f' := (39, [some (.ref 1), some (.int x1), some (.int x2), some (.int x3)], [(.int (-1))])) (h' := (107, I, J, mm_rf 3 sp rr w nw)) 1 rfl ?_
      cases e
      exact mm_T.ret rfl ⟨rfl, rfl⟩
    · rw [if_neg h1] at e
      refine mm_T.seg (f' := (12, [some (.ref 1), some (.int x1), some (.int x2), some (.int x3)], [(.int x2)])) (h' := (107, I, J, mm_rf 3 sp rr w nw)) 1 rfl ?_
      refine mm_T.br (c := x2 < 0) (a := ((38, [some (.ref 1), some (.int x1), some (.int x2), some (.int x3)], []), (107, I, J, mm_rf 3 sp rr w nw))) (b := ((15, [some (.ref 1), some (.int x1), some (.int x2), some (.int x3)], []), (107, I, J, mm_rf 3 sp rr w nw))) rfl (fun h2 => ?_) (fun h2 => ?_)
      · rw [if_pos h2] at e
        refine mm_T.seg (f' := (39, [some (.ref 1), some (.int x1), some (.int x2), some (.int x3)], [(.int (-1))])) (h' := (107, I, J, mm_rf 3 sp rr w nw)) 1 rfl ?_
        cases e
        exact mm_T.ret rfl ⟨rfl, rfl⟩
      · rw [if_neg h2] at e
        refine mm_T.seg (f' := (26, [some (.ref 1), some (.int x1), some (.int x2), some (.int x3)], [(.int (I 3 0)), (.int x2)])) (h' := (107, I, J, mm_rf 3 sp rr w nw)) 5 rfl ?_
        refine mm_T.br (c := x2 < (I 3 0)) (a := ((29, [some (.ref 1), some (.int x1), some (.int x2), some (.int x3)], []), (107, I, J, mm_rf 3 sp rr w nw))) (b := ((38, [some (.ref 1), some (.int x1), some (.int x2), some (.int x3)], []), (107, I, J, mm_rf 3 sp rr w nw))) rfl (fun h3 => ?_) (fun h3 => ?_)
        · rw [if_pos h3] at e
          refine mm_T.seg (f' := (30, [some (.ref 1), some (.int x1), some (.int x2), some (.int x3)], [(.int x3)])) (h' := (107, I, J, mm_rf 3 sp rr w nw)) 1 rfl ?_
          refine mm_T.br (c := x3 < 0) (a := ((38, [some (.ref 1), some (.int x1), some (.int x2), some (.int x3)], []), (107, I, J, mm_rf 3 sp rr w nw))) (b := ((33, [some (.ref 1), some (.int x1), some (.int x2), some (.int x3)], []), (107, I, J, mm_rf 3 sp rr w nw))) rfl (fun h4 => ?_) (fun h4 => ?_)
          · rw [if_pos h4] at e
            refine mm_T.seg (f' := (39, [some (.ref 1), some (.int x1), some (.int x2), some (.int x3)], [(.int (-1))])) (h' := (107, I, J, mm_rf 3 sp rr w nw)) 1 rfl ?_
            cases e
            exact mm_T.ret rfl ⟨rfl, rfl⟩
          · rw [if_neg h4] at e
            refine mm_T.seg (f' := (35, [some (.ref 1), some (.int x1), some (.int x2), some (.int x3)], [(.int 1), (.int x3)])) (h' := (107, I, J, mm_rf 3 sp rr w nw)) 2 rfl ?_
            refine mm_T.br (c := 1 < x3) (a := ((38, [some (.ref 1), some (.int x1), some (.int x2), some (.int x3)], []), (107, I, J, mm_rf 3 sp rr w nw))) (b := ((40, [some (.ref 1), some (.int x1), some (.int x2), some (.int x3)], []), (107, I, J, mm_rf 3 sp rr w nw))) rfl (fun h5 => ?_) (fun h5 => ?_)
            · rw [if_pos h5] at e
              refine mm_T.seg (f' := (39, [some (.ref 1), some (.int x1), some (.int x2), some (.int x3)], [(.int (-1))])) (h' := (107, I, J, mm_rf 3 sp rr w nw)) 1 rfl ?_
              cases e
              exact mm_T.ret rfl ⟨rfl, rfl⟩
            · rw [if_neg h5] at e
              obtain ⟨o1, eo1, e⟩ := mm_bind e
              refine mm_T.seg (f' := (47, [some (.ref 1), some (.int x1), some (.int x2), some (.int x3)], [(.int x3), (.int x2), (.int x1), (.ref 37)])) (h' := (107, I, J, mm_rf 3 sp rr w nw)) 5 rfl ?_
              refine mm_T.call (t := 95) (as := [(.ref 37), (.int x1), (.int x2), (.int x3)]) (f' := (50, [some (.ref 1), some (.int x1), some (.int x2), some (.int x3)], [])) rfl (tX6_oddsPart d n x1 x2 x3 I J 3 sp rr w nw (Or.inl rfl) hw o1 eo1) (fun v h hq => ?_)
              obtain ⟨rfl, rfl⟩ := hq
              cases e
              exact mm_T.ret rfl ⟨rfl, rfl⟩
        · rw [if_neg h3] at e
          refine mm_T.seg (f' := (39, [some (.ref 1), some (.int x1), some (.int x2), some (.int x3)], [(.int (-1))])) (h' := (107, I, J, mm_rf 3 sp rr w nw)) 1 rfl ?_
          cases e
          exact mm_T.ret rfl ⟨rfl, rfl⟩
  · unfold fX11_odds at e
    refine mm_T.seg (f' := (5, [some (.ref 1), some (.int x1), some (.int x2), some (.int x3)], [(.int x1), (.ref 18)])) (h' := (107, I, J, mm_rf 19 sp rr w nw)) 3 rfl ?_
    refine mm_T.call (t := 101) (as := [(.ref 18), (.int x1)]) (f' := (8, [some (.ref 1), some (.int x1), some (.int x2), some (.int x3)], [])) rfl (tX7_isBoard (d + 4) x1 I J 19 sp rr w nw (Or.inr rfl) _ rfl) (fun v h hq => ?_)
    obtain ⟨rfl, rfl⟩ := hq
    refine mm_T.br (c := (fX7_isBoard x1 I 19) = 0) (a := ((38, [some (.ref 1), some (.int x1), some (.int x2), some (.int x3)], []), (107, I, J, mm_rf 19 sp rr w nw))) (b := ((11, [some (.ref 1), some (.int x1), some (.int x2), some (.int x3)], []), (107, I, J, mm_rf 19 sp rr w nw))) rfl (fun h1 => ?_) (fun h1 => ?_)
    · rw [if_pos h1] at e
      refine mm_T.seg (f' := (39, [some (.ref 1), some (.int x1), some (.int x2), some (.int x3)], [(.int (-1))])) (h' := (107, I, J, mm_rf 19 sp rr w nw)) 1 rfl ?_
      cases e
      exact mm_T.ret rfl ⟨rfl, rfl⟩
    · rw [if_neg h1] at e
      refine mm_T.seg (f' := (12, [some (.ref 1), some (.int x1), some (.int x2), some (.int x3)], [(.int x2)])) (h' := (107, I, J, mm_rf 19 sp rr w nw)) 1 rfl ?_
      refine mm_T.br (c := x2 < 0) (a := ((38, [some (.ref 1), some (.int x1), some (.int x2), some (.int x3)], []), (107, I, J, mm_rf 19 sp rr w nw))) (b := ((15, [some (.ref 1), some (.int x1), some (.int x2), some (.int x3)], []), (107, I, J, mm_rf 19 sp rr w nw))) rfl (fun h2 => ?_) (fun h2 => ?_)
      · rw [if_pos h2] at e
        refine mm_T.seg (f' := (39, [some (.ref 1), some (.int x1), some (.int x2), some (.int x3)], [(.int (-1))])) (h' := (107, I, J, mm_rf 19 sp rr w nw)) 1 rfl ?_
        cases e
        exact mm_T.ret rfl ⟨rfl, rfl⟩
      · rw [if_neg h2] at e
        refine mm_T.seg (f' := (26, [some (.ref 1), some (.int x1), some (.int x2), some (.int x3)], [(.int (I 19 0)), (.int x2)])) (h' := (107, I, J, mm_rf 19 sp rr w nw)) 5 rfl ?_
        refine mm_T.br (c := x2 < (I 19 0)) (a := ((29, [some (.ref 1), some (.int x1), some (.int x2), some (.int x3)], []), (107, I, J, mm_rf 19 sp rr w nw))) (b := ((38, [some (.ref 1), some (.int x1), some (.int x2), some (.int x3)], []), (107, I, J, mm_rf 19 sp rr w nw))) rfl (fun h3 => ?_) (fun h3 => ?_)
        · rw [if_pos h3] at e
          refine mm_T.seg (f' := (30, [some (.ref 1), some (.int x1), some (.int x2), some (.int x3)], [(.int x3)])) (h' := (107, I, J, mm_rf 19 sp rr w nw)) 1 rfl ?_
          refine mm_T.br (c := x3 < 0) (a := ((38, [some (.ref 1), some (.int x1), some (.int x2), some (.int x3)], []), (107, I, J, mm_rf 19 sp rr w nw))) (b := ((33, [some (.ref 1), some (.int x1), some (.int x2), some (.int x3)], []), (107, I, J, mm_rf 19 sp rr w nw))) rfl (fun h4 => ?_) (fun h4 => ?_)
          · rw [if_pos h4] at e
            refine mm_T.seg (f' := (39, [some (.ref 1), some (.int x1), some (.int x2), some (.int x3)], [(.int (-1))])) (h' := (107, I, J, mm_rf 19 sp rr w nw)) 1 rfl ?_
            cases e
            exact mm_T.ret rfl ⟨rfl, rfl⟩
          · rw [if_neg h4] at e
            refine mm_T.seg (f' := (35, [some (.ref 1), some (.int x1), some (.int x2), some (.int x3)], [(.int 1), (.int x3)])) (h' := (107, I, J, mm_rf 19 sp rr w nw)) 2 rfl ?_
            refine mm_T.br (c := 1 < x3) (a := ((38, [some (.ref 1), some (.int x1), some (.int x2), some (.int x3)], []), (107, I, J, mm_rf 19 sp rr w nw))) (b := ((40, [some (.ref 1), some (.int x1), some (.int x2), some (.int x3)], []), (107, I, J, mm_rf 19 sp rr w nw))) rfl (fun h5 => ?_) (fun h5 => ?_)
            · rw [if_pos h5] at e
              refine mm_T.seg (f' := (39, [some (.ref 1), some (.int x1), some (.int x2), some (.int x3)], [(.int (-1))])) (h' := (107, I, J, mm_rf 19 sp rr w nw)) 1 rfl ?_
              cases e
              exact mm_T.ret rfl ⟨rfl, rfl⟩
            · rw [if_neg h5] at e
              obtain ⟨o1, eo1, e⟩ := mm_bind e
              refine mm_T.seg (f' := (47, [some (.ref 1), some (.int x1), some (.int x2), some (.int x3)], [(.int x3), (.int x2), (.int x1), (.ref 37)])) (h' := (107, I, J, mm_rf 19 sp rr w nw)) 5 rfl ?_
              refine mm_T.call (t := 95) (as := [(.ref 37), (.int x1), (.int x2), (.int x3)]) (f' := (50, [some (.ref 1), some (.int x1), some (.int x2), some (.int x3)], [])) rfl (tX6_oddsPart d n x1 x2 x3 I J 19 sp rr w nw (Or.inr rfl) hw o1 eo1) (fun v h hq => ?_)
              obtain ⟨rfl, rfl⟩ := hq
              cases e
              exact mm_T.ret rfl ⟨rfl, rfl⟩
        · rw [if_neg h3] at e
          refine mm_T.seg (f' := (39, [some (.ref 1), some (.int x1), some (.int x2), some (.int x3)], [(.int (-1))])) (h' := (107, I, J, mm_rf 19 sp rr w nw)) 1 rfl ?_
          cases e
          exact mm_T.ret rfl ⟨rfl, rfl⟩
