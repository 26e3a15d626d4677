/-- said of every number, so of this one -/
theorem mm_gen {P : Int32 → Prop} (x : Int32) (h : ∀ z, P z) : P x := h x
