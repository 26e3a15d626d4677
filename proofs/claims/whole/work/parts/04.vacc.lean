def mm_sh (a : Nat) : Nat × Nat := mm_shp.get a
def mm_own (m : Nat) : Nat := (mm_mt.get m).1
def mm_maxL (m : Nat) : Nat := (mm_mt.get m).2.1
def mm_na (m : Nat) : Nat := (mm_mt.get m).2.2.1
def mm_rk (m : Nat) : Nat := (mm_mt.get m).2.2.2.1
def mm_cd (m : Nat) : Lean.RArray (Nat × Nat × Instr) := (mm_mt.get m).2.2.2.2
def mm_at (m pc : Nat) : Option (Nat × Instr) := cond (Nat.beq ((mm_cd m).get pc).1 pc) (some ((mm_cd m).get pc).2) none
def mm_lk {α : Type} (t : Lean.RArray (Nat × α)) (k : Nat) : Option α := cond (Nat.beq (t.get k).1 k) (some (t.get k).2) none
