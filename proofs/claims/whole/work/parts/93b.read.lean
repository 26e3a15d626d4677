/-! THE WHOLE TEXT: the reference's start; both readers. -/
def lR1 (I I' : (Nat → Nat → Int32)) : Prop := ∀ a k, ¬ (a = 65 ∨ a = 66 ∨ a = 69 ∨ (72 ≤ a ∧ a ≤ 77)) → ¬ (a = 62 ∧ ((1 ≤ k ∧ k ≤ 8) ∨ k = 17 ∨ k = 19 ∨ k = 20 ∨ (22 ≤ k ∧ k ≤ 24) ∨ (38 ≤ k ∧ k ≤ 45) ∨ (51 ≤ k ∧ k ≤ 53))) → I' a k = I a k
section RDB
variable {B : Nat → Int} {m r p : Nat} {I : (Nat → Nat → Int32)} {J : mJ} {I' : (Nat → Nat → Int32)} {J' : mJ} {W : (Nat → Int → Int)} {X : Int32} {NB NL : Nat → List Int}
theorem rf_L97 (I : (Nat → Nat → Int32)) {n : Nat} (hn : 60 ≤ n) : ∃ I1, fX12_readAll_L97 n 0 I = some I1 ∧ hr I1 72 56 (fun _ => -1) ∧ hr I1 73 56 (fun _ => -1) ∧ (∀ a k, ¬ a = 72 → ¬ a = 73 → I1 a k = I a k) := by
  obtain ⟨n2, M, q1, q2, q3, q4, q5⟩ := loop (fun n (k : Int) (s : (Nat → Nat → Int32)) => fX12_readAll_L97 n (iN k) s) 1 (P := 56) (fun k s => hr s 72 k (fun _ => -1) ∧ hr s 73 k (fun _ => -1) ∧ (∀ a j, ¬ a = 72 → ¬ a = 73 → s a j = I a j)) (by
    intro n k s hn h0 h1 ⟨i1, i2, i3⟩
    have eg : ¬ (iN k < (0 : Int32) ∨ 56 ≤ (iN k).toNatClampNeg) := by
      show ¬ (iN _ < iN 0 ∨ _)
      rw [iN_lt (by omega) (by omega) (by omega) (by omega), iN_tn (by omega) (by omega)]; omega
    refine ⟨mm_up (mm_up s 72 k.toNat (iN (-1))) 73 k.toNat (iN (-1)), ?_, ?_, ?_, ?_⟩
    · show fX12_readAll_L97 (n + 1) (iN k) s = _
      rw [fX12_readAll_L97, ite_p (show iN k < (56 : Int32) by show iN k < iN 56; rw [iN_lt (by omega) (by omega) (by omega) (by omega)]; exact h1), ite_n eg, ite_n eg, iN_tn (by omega) (by omega)]
      rw [show (iN k + 1 : Int32) = iN (k + 1) from iN_add k 1]
      rfl
    · intro z z1 z2
      rw [up_a (by omega), up_c]
      by_cases e : z.toNat = k.toNat
      · rw [if_pos e]
      · rw [if_neg e]; exact i1 z z1 (by omega)
    · intro z z1 z2
      rw [up_c]
      by_cases e : z.toNat = k.toNat
      · rw [if_pos e]
      · rw [if_neg e, up_a (by omega)]; exact i2 z z1 (by omega)
    · intro a j h2 h3
      rw [up_a (by omega), up_a (by omega)]; exact i3 a j h2 h3) 56 n 0 I (by omega) (by omega) ⟨fun z z1 z2 => by omega, fun z z1 z2 => by omega, fun _ _ _ _ => rfl⟩ (by omega)
  refine ⟨M, ?_, q3, q4, q5⟩
  obtain ⟨n2, rfl⟩ : ∃ k, n2 = k + 1 := ⟨n2 - 1, by omega⟩
  have q2 : fX12_readAll_L97 n 0 I = fX12_readAll_L97 (n2 + 1) (iN 56) M := q2
  rw [q2, fX12_readAll_L97]
  exact if_neg (by decide)
theorem rf_rd0 (hp : rTp B m I) {n : Nat} (hn : 1700 ≤ n) : ∃ K I1 J1, fX12_readAll_L97 n 0 (mm_up (mm_up (mm_up (mm_up (mm_up (mm_up (mm_up (mm_up (mm_up (mm_up (mm_up (mm_up (mm_up (mm_up (mm_up (mm_up (mm_up (mm_up I 62 5 (I 62 1)) 62 1 0) 62 4 0) 62 2 0) 62 3 (-1)) 62 38 8) 62 39 6) 62 40 0) 62 41 0) 62 42 0) 62 43 0) 62 44 0) 62 45 0) 62 51 0) 62 52 0) 62 53 0) 62 24 0) 62 20 0) = some K ∧ fX12_token n K J = some (I1, J1) ∧ rT B m 0 I1 J1 ∧ I1 62 2 = iN 0 ∧ rBd W0 (iN 0) (fun _ => []) (fun _ => []) I1 J1 ∧ I1 62 51 = iN 0 ∧ I1 62 3 = iN (-1) ∧ I1 62 1 = iN 0 ∧ lR1 I I1 ∧ lRJ J J1 := by
  obtain ⟨h1, h2, h3⟩ := hp
  rw [h2]
  have c5 : (mm_up (mm_up (mm_up (mm_up (mm_up (mm_up (mm_up (mm_up (mm_up (mm_up (mm_up (mm_up (mm_up (mm_up (mm_up (mm_up (mm_up (mm_up I 62 5 (iN m)) 62 1 0) 62 4 0) 62 2 0) 62 3 (-1)) 62 38 8) 62 39 6) 62 40 0) 62 41 0) 62 42 0) 62 43 0) 62 44 0) 62 45 0) 62 51 0) 62 52 0) 62 53 0) 62 24 0) 62 20 0) 62 5 = iN m := by simp [mm_up]
  have cz : ∀ k, k = 1 ∨ k = 4 ∨ k = 2 ∨ (40 ≤ k ∧ k ≤ 45) ∨ (51 ≤ k ∧ k ≤ 53) ∨ k = 24 ∨ k = 20 → (mm_up (mm_up (mm_up (mm_up (mm_up (mm_up (mm_up (mm_up (mm_up (mm_up (mm_up (mm_up (mm_up (mm_up (mm_up (mm_up (mm_up (mm_up I 62 5 (iN m)) 62 1 0) 62 4 0) 62 2 0) 62 3 (-1)) 62 38 8) 62 39 6) 62 40 0) 62 41 0) 62 42 0) 62 43 0) 62 44 0) 62 45 0) 62 51 0) 62 52 0) 62 53 0) 62 24 0) 62 20 0) 62 k = iN 0 := by
    intro k hk
    rcases (show k = 1 ∨ k = 4 ∨ k = 2 ∨ k = 40 ∨ k = 41 ∨ k = 42 ∨ k = 43 ∨ k = 44 ∨ k = 45 ∨ k = 51 ∨ k = 52 ∨ k = 53 ∨ k = 24 ∨ k = 20 by omega) with rfl | rfl | rfl | rfl | rfl | rfl | rfl | rfl | rfl | rfl | rfl | rfl | rfl | rfl <;> (simp [mm_up]; rfl)
  have c3 : (mm_up (mm_up (mm_up (mm_up (mm_up (mm_up (mm_up (mm_up (mm_up (mm_up (mm_up (mm_up (mm_up (mm_up (mm_up (mm_up (mm_up (mm_up I 62 5 (iN m)) 62 1 0) 62 4 0) 62 2 0) 62 3 (-1)) 62 38 8) 62 39 6) 62 40 0) 62 41 0) 62 42 0) 62 43 0) 62 44 0) 62 45 0) 62 51 0) 62 52 0) 62 53 0) 62 24 0) 62 20 0) 62 3 = iN (-1) := by simp [mm_up]; rfl
  have c38 : (mm_up (mm_up (mm_up (mm_up (mm_up (mm_up (mm_up (mm_up (mm_up (mm_up (mm_up (mm_up (mm_up (mm_up (mm_up (mm_up (mm_up (mm_up I 62 5 (iN m)) 62 1 0) 62 4 0) 62 2 0) 62 3 (-1)) 62 38 8) 62 39 6) 62 40 0) 62 41 0) 62 42 0) 62 43 0) 62 44 0) 62 45 0) 62 51 0) 62 52 0) 62 53 0) 62 24 0) 62 20 0) 62 38 = iN 8 := by simp [mm_up]; rfl
  have c39 : (mm_up (mm_up (mm_up (mm_up (mm_up (mm_up (mm_up (mm_up (mm_up (mm_up (mm_up (mm_up (mm_up (mm_up (mm_up (mm_up (mm_up (mm_up I 62 5 (iN m)) 62 1 0) 62 4 0) 62 2 0) 62 3 (-1)) 62 38 8) 62 39 6) 62 40 0) 62 41 0) 62 42 0) 62 43 0) 62 44 0) 62 45 0) 62 51 0) 62 52 0) 62 53 0) 62 24 0) 62 20 0) 62 39 = iN 6 := by simp [mm_up]; rfl
  have fr : ∀ a k, ¬ (a = 62 ∧ ((1 ≤ k ∧ k ≤ 5) ∨ (38 ≤ k ∧ k ≤ 45) ∨ (51 ≤ k ∧ k ≤ 53) ∨ k = 24 ∨ k = 20)) → (mm_up (mm_up (mm_up (mm_up (mm_up (mm_up (mm_up (mm_up (mm_up (mm_up (mm_up (mm_up (mm_up (mm_up (mm_up (mm_up (mm_up (mm_up I 62 5 (iN m)) 62 1 0) 62 4 0) 62 2 0) 62 3 (-1)) 62 38 8) 62 39 6) 62 40 0) 62 41 0) 62 42 0) 62 43 0) 62 44 0) 62 45 0) 62 51 0) 62 52 0) 62 53 0) 62 24 0) 62 20 0) a k = I a k := by
    intro a k g
    rw [up_o (by omega), up_o (by omega), up_o (by omega), up_o (by omega), up_o (by omega), up_o (by omega), up_o (by omega), up_o (by omega), up_o (by omega), up_o (by omega), up_o (by omega), up_o (by omega), up_o (by omega), up_o (by omega), up_o (by omega), up_o (by omega), up_o (by omega), up_o (by omega)]
  generalize (mm_up (mm_up (mm_up (mm_up (mm_up (mm_up (mm_up (mm_up (mm_up (mm_up (mm_up (mm_up (mm_up (mm_up (mm_up (mm_up (mm_up (mm_up I 62 5 (iN m)) 62 1 0) 62 4 0) 62 2 0) 62 3 (-1)) 62 38 8) 62 39 6) 62 40 0) 62 41 0) 62 42 0) 62 43 0) 62 44 0) 62 45 0) 62 51 0) 62 52 0) 62 53 0) 62 24 0) 62 20 0) = M at c5 cz c3 c38 c39 fr ⊢
  obtain ⟨K, a1, a2, a3, a4⟩ := rf_L97 M (n := n) (by omega)
  have hb : rb B m K := by
    refine ⟨h1, by rw [a4 _ _ (by omega) (by omega)]; exact c5, fun k hk => ?_⟩
    rw [a4 _ _ (by omega) (by omega), fr _ _ (by omega)]
    exact h3 k hk
  obtain ⟨I1, J1, b1, b2, b3, b4⟩ := rf_tok (J := J) hb (Nat.zero_le m) (p := 0) (by rw [a4 _ _ (by omega) (by omega)]; exact cz 4 (by omega)) hn
  have g : ∀ k, ¬ (k = 4 ∨ k = 6 ∨ k = 7 ∨ k = 8) → I1 62 k = M 62 k := fun k hk => by rw [b3 _ _ (by omega), a4 _ _ (by omega) (by omega)]
  have hh : ∀ {a : Nat} {n : Int} {F : Int → Int}, ¬ a = 62 → hr K a n F → hr I1 a n F := fun ha h z h1 h2 => by rw [b3 _ _ (by omega)]; exact h z h1 h2
  refine ⟨K, I1, J1, a1, b1, b2, by rw [g _ (by omega)]; exact cz 2 (by omega), ?_, by rw [g _ (by omega)]; exact cz 51 (by omega), by rw [g _ (by omega)]; exact c3, by rw [g _ (by omega)]; exact cz 1 (by omega), fun a k g1 g2 => by rw [b3 _ _ (by omega), a4 _ _ (by omega) (by omega), fr _ _ (by omega)], lRJ_r b4⟩
  have z2 : W0 0 2 = 0 := rfl
  have z3 : W0 0 3 = 0 := rfl
  have bz : bit (iN 0) 5 = false ∧ bit (iN 0) 6 = false ∧ bit (iN 0) 7 = false := ⟨bit_0, bit_0, bit_0⟩
  refine ⟨⟨by rw [g _ (by omega)]; exact c38, by rw [g _ (by omega)]; exact c39, ?_, ?_, ?_, ?_, ?_, ?_, ?_⟩, ⟨?_, ?_, ?_⟩, ⟨hh (by omega) a2, fun z h1 h2 => ?_, fun z h1 h2 => ?_, fun z h1 h2 => ?_, fun z h1 h2 => ?_, fun z h1 h2 => ?_⟩, fun z => ?_, fun k hk => ?_, fun k hk => ?_⟩
  · rw [g _ (by omega)]; exact cz 40 (by omega)
  · rw [g _ (by omega)]; exact cz 41 (by omega)
  · rw [g _ (by omega)]; exact cz 42 (by omega)
  · rw [g _ (by omega)]; exact cz 43 (by omega)
  · rw [g _ (by omega)]; exact cz 44 (by omega)
  · rw [g _ (by omega)]; exact cz 45 (by omega)
  · rw [g _ (by omega)]; exact cz 20 (by omega)
  · rw [g _ (by omega), bz.1]; exact cz 24 (by omega)
  · rw [g _ (by omega), bz.2.1]; exact cz 52 (by omega)
  · rw [g _ (by omega), bz.2.2]; exact cz 53 (by omega)
  · dsimp only; rw [W0_r (by omega) (by omega), if_neg (by omega), b3 _ _ (by omega)]; exact a3 z h1 h2
  · omega
  · omega
  · omega
  · omega
  · rw [bz.1] at z; exact absurd z (by decide)
  · omega
  · omega
/-- BOTH READERS over the whole text -/
theorem RD_all (hr0 : r = 3 ∨ r = 19) (hc : cTp B m I) (hw : cw J) (hr' : rTp B m I') {n : Nat} (hn : 5200 ≤ n) {rr : Nat} :
    (∃ I1 J1 I1' J1', fX4_read_2 n (I 1 1) r I J rr = some (iN 0, I1, J1) ∧ fX12_readAll n I' J' = some (I1', J1') ∧ FF I1 I1' ∧ lC r I I1 ∧ lCJ r J J1 ∧ lR1 I' I1' ∧ lRJ J' J1' ∧ I1' 62 1 = iN 0) ∨
    (∃ W X NB NL p1 I1 J1 I1' J1', fX4_read_2 n (I 1 1) r I J rr = some (iN 1, I1, J1) ∧ fX12_readAll n I' J' = some (I1', J1') ∧ sm2 B m r W X NB NL p1 I1 J1 I1' J1' ∧ lC r I I1 ∧ lCJ r J J1 ∧ lR1 I' I1' ∧ lRJ J' J1' ∧ I1' 62 1 = iN 0) := by
  obtain ⟨I1, J1, a1, a2, a3, a4, a5, a6, a7⟩ := cl_rd0 hr0 hc hw (n := n) (by omega)
  obtain ⟨K, I1', J1', b0, b1, b2, b3, b4, b5, b6, b7, b8, b9⟩ := rf_rd0 (J := J') hr' (n := n) (by omega)
  have hm := hc.1
  have hs : sm2 B m r W0 (iN 0) (fun _ => []) (fun _ => []) 0 I1 J1 I1' J1' := ⟨wfB_0, ⟨a2, b2, b3⟩, a3, b4, by rw [if_pos rfl]; exact b5, a4, a5, b6⟩
  have hl := rd_loop (B := B) (m := m) hr0 (m - 0) n 0 0 W0 (iN 0) (fun _ => []) (fun _ => []) I1 J1 I1' J1' (Nat.le_refl _) (by omega) (by omega) (by omega) hs
  have toR1 : ∀ {M M' : (Nat → Nat → Int32)}, lR1 I' M → lR M M' → lR1 I' M' := fun h h' a k g1 g2 => by rw [h' a k g1 (by omega), h a k g1 g2]
  rw [fX4_read_2, a1, Option.bind_some, fX12_readAll, b0, Option.bind_some, b1, Option.bind_some]
  dsimp only
  rcases hl with ⟨I2, J2, I2', J2', c1, c2, c3, c4, c5, c6, c7⟩ | ⟨W2, X2, NB2, NL2, p2, I2, J2, I2', J2', c1, c2, c3, c4, c5, c6, c7⟩
  · left
    refine ⟨I2, J2, I2', J2', c1, ?_, c3, lC_trans a6 c4, lCJ_trans a7 c5, toR1 b8 c6, lRJ_trans b9 c7, by rw [c6 _ _ (by omega) (by omega)]; exact b7⟩
    rw [c2, Option.bind_some]
  · right
    refine ⟨W2, X2, NB2, NL2, p2, I2, J2, I2', J2', c1, ?_, c3, lC_trans a6 c4, lCJ_trans a7 c5, toR1 b8 c6, lRJ_trans b9 c7, by rw [c6 _ _ (by omega) (by omega)]; exact b7⟩
    rw [c2, Option.bind_some]
end RDB
