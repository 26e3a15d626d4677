theorem mm_ev_mono : ∀ (n : Nat) (X : mm_X) (d m : Nat) (f : mm_F) (h : mm_H) (r : Option Value × mm_H), mm_ev X n d m f h = some r → ∀ (k j : Nat), n ≤ k → d ≤ j → mm_ev X k j m f h = some r
  | 0, X, d, m, f, h, r, e, k, j, _, _ => by simp [mm_ev] at e
  | n + 1, X, d, m, f, h, r, e, k, j, hk, hj => by
    obtain ⟨k, rfl⟩ : ∃ k', k = k' + 1 := ⟨k - 1, by omega⟩
    rw [mm_ev] at e ⊢
    split at e
    · next f' h' hs => exact mm_ev_mono n X d m f' h' r e k j (by omega) hj
    · next v hs => exact e
    · next t as f' hs =>
      try rw [hs]
      try dsimp only
      cases d with
      | zero => simp at e
      | succ d =>
        obtain ⟨j, rfl⟩ : ∃ j', j = j' + 1 := ⟨j - 1, by omega⟩
        try dsimp only at e ⊢
        split at e
        · next v h' hc =>
          rw [mm_ev_mono n none d t _ h _ hc k j (by omega) (by omega)]
          exact mm_ev_mono n X (d + 1) m _ h' r e k (j + 1) (by omega) hj
        · simp at e
    · simp at e
section MMT
variable {X : mm_X} {d m : Nat} {f f' : mm_F} {h h' : mm_H} {Q : Option Value → mm_H → Prop}
theorem mm_T.step (e : mm_stp X m f h = some (.inl (f', h'))) (k : mm_T X d m f' h' Q) : mm_T X d m f h Q := by
  obtain ⟨n, r, h2, e2, q⟩ := k
  exact ⟨n + 1, r, h2, by rw [mm_ev, e]; exact e2, q⟩
theorem mm_T.ret {v : Option Value} (e : mm_stp X m f h = some (.inr (.inl v))) (q : Q v h) : mm_T X d m f h Q :=
  ⟨1, v, h, by rw [mm_ev, e], q⟩
theorem mm_T.call {t : Nat} {as : List Value} {Qc : Option Value → mm_H → Prop} (e : mm_stp X m f h = some (.inr (.inr (t, as, f')))) (c : mm_T none d t (mm_ent t as) h Qc) (k : ∀ v h', Qc v h' → mm_T X (d + 1) m (mm_push f' v) h' Q) : mm_T X (d + 1) m f h Q := by
  obtain ⟨n1, v, h1, e1, q1⟩ := c
  obtain ⟨n2, r, h2, e2, q2⟩ := k v h1 q1
  refine ⟨n1 + n2 + 1, r, h2, ?_, q2⟩
  rw [mm_ev, e]
  try dsimp only
  rw [mm_ev_mono n1 none d t _ h _ e1 (n1 + n2) d (by omega) (Nat.le_refl _)]
  exact mm_ev_mono n2 X (d + 1) m _ h1 _ e2 (n1 + n2) (d + 1) (by omega) (Nat.le_refl _)
theorem mm_T.br {c : Prop} [Decidable c] {a b : mm_F × mm_H} (e : mm_stp X m f h = if c then some (.inl a) else some (.inl b)) (t : c → mm_T X d m a.1 a.2 Q) (g : ¬ c → mm_T X d m b.1 b.2 Q) : mm_T X d m f h Q := by
  by_cases hc : c
  · rw [if_pos hc] at e; exact mm_T.step e (t hc)
  · rw [if_neg hc] at e; exact mm_T.step e (g hc)
theorem mm_T.guard {c : Prop} [Decidable c] {y : mm_F × mm_H} (e : mm_stp X m f h = if c then none else some (.inl y)) (hc : ¬ c) (k : mm_T X d m y.1 y.2 Q) : mm_T X d m f h Q := by
  rw [if_neg hc] at e; exact mm_T.step e k
theorem mm_T.weak {Q' : Option Value → mm_H → Prop} (k : mm_T X d m f h Q) (w : ∀ r h', Q r h' → Q' r h') : mm_T X d m f h Q' := by
  obtain ⟨n, r, h2, e, q⟩ := k
  exact ⟨n, r, h2, e, w r h2 q⟩
theorem mm_T.deep {j : Nat} (k : mm_T X d m f h Q) (hj : d ≤ j) : mm_T X j m f h Q := by
  obtain ⟨n, r, h2, e, q⟩ := k
  exact ⟨n, r, h2, mm_ev_mono n X d m f h _ e n j (Nat.le_refl _) hj, q⟩
end MMT
/-- k steps with no call and no answer -/
def mm_seg (X : mm_X) (k m : Nat) (f : mm_F) (h : mm_H) : Option (mm_F × mm_H) := match k with
  | 0 => some (f, h)
  | k + 1 => match mm_stp X m f h with
    | some (.inl x) => mm_seg X k m x.1 x.2
    | _ => none
theorem mm_T.seg {X : mm_X} {d m : Nat} {f f' : mm_F} {h h' : mm_H} {Q : Option Value → mm_H → Prop} : ∀ (k : Nat), mm_seg X k m f h = some (f', h') → mm_T X d m f' h' Q → mm_T X d m f h Q := by
  intro k
  induction k generalizing f h with
  | zero => intro e t; simp [mm_seg] at e; obtain ⟨rfl, rfl⟩ := e; exact t
  | succ k ih =>
    intro e t
    rw [mm_seg] at e
    split at e
    · next x hx => exact mm_T.step hx (ih e t)
    · simp at e
