/-! A small machine over the same instructions: its heap is a count of cells and three functions (ints, longs, references by number; 0 is null); its cells' shapes are known ahead. -/
abbrev mm_H : Type := Nat × (Nat → Nat → Int32) × (Nat → Nat → Int64) × (Nat → Nat → Nat)
abbrev mm_F : Type := Nat × List (Option Value) × List Value
abbrev mm_R : Type := Option ((mm_F × mm_H) ⊕ (Option Value) ⊕ (Nat × List Value × mm_F))
abbrev mm_X : Type := Option (Nat × (Nat → Int32))
def mm_nx (pc : Nat) (ls : List (Option Value)) (st : List Value) (h : mm_H) : mm_R := some (.inl ((pc, ls, st), h))
def mm_tg (pc : Nat) (off : Int) : Option Nat := match (pc : Int) + off with
  | .ofNat t => some t
  | _ => none
def mm_gI (o : Option (Option Value)) : Option Int32 := match o with
  | some (some (.int x)) => some x
  | _ => none
def mm_gL (o : Option (Option Value)) : Option Int64 := match o with
  | some (some (.long x)) => some x
  | _ => none
def mm_gA (o : Option (Option Value)) : Option Value := match o with
  | some (some (.ref x)) => some (.ref x)
  | some (some (.retAddr x)) => some (.retAddr x)
  | _ => none
/-- the place before i is cleared where it holds a long -/
def mm_clr (ls : List (Option Value)) (i : Nat) : List (Option Value) := match i with
  | 0 => ls
  | j + 1 => match ls[j]? with
    | some (some v) => cond (Nat.beq v.category 2) (ls.set j none) ls
    | _ => ls
def mm_st1 (ls : List (Option Value)) (i : Nat) (v : Value) : List (Option Value) := (mm_clr ls i).set i (some v)
def mm_st2 (ls : List (Option Value)) (i : Nat) (v : Value) : List (Option Value) := ((mm_clr ls i).set (i + 1) none).set i (some v)
def mm_b2 (pc : Nat) (ls : List (Option Value)) (st : List Value) (h : mm_H) (g : Int32 → Int32 → Int32) : mm_R := match st with
  | .int y :: .int x :: r => mm_nx (pc + 1) ls (.int (g x y) :: r) h
  | _ => none
def mm_d2 (pc : Nat) (ls : List (Option Value)) (st : List Value) (h : mm_H) (g : Int32 → Int32 → Int32) : mm_R := match st with
  | .int y :: .int x :: r => if y = 0 then none else mm_nx (pc + 1) ls (.int (g x y) :: r) h
  | _ => none
def mm_j2 (pc : Nat) (ls : List (Option Value)) (st : List Value) (h : mm_H) (g : Int64 → Int64 → Value) : mm_R := match st with
  | .long y :: .long x :: r => mm_nx (pc + 1) ls (g x y :: r) h
  | _ => none
def mm_u1 (pc : Nat) (ls : List (Option Value)) (st : List Value) (h : mm_H) (g : Int32 → Value) : mm_R := match st with
  | .int x :: r => mm_nx (pc + 1) ls (g x :: r) h
  | _ => none
def mm_pu (pc len : Nat) (ls : List (Option Value)) (st : List Value) (h : mm_H) (o : Option Value) : mm_R := match o with
  | some v => mm_nx (pc + len) ls (v :: st) h
  | none => none
def mm_br (c : Prop) [Decidable c] (t : Option Nat) (e : Nat) (sw : Bool) (ls : List (Option Value)) (st : List Value) (h : mm_H) : mm_R := match t with
  | some t => if c then mm_nx (cond sw e t) ls st h else mm_nx (cond sw t e) ls st h
  | none => none
def mm_if1 (c : ClassFile.Cond) (x : Int32) (t : Option Nat) (e : Nat) (ls : List (Option Value)) (st : List Value) (h : mm_H) : mm_R := match c with
  | .eq => mm_br (x = 0) t e false ls st h
  | .ne => mm_br (x = 0) t e true ls st h
  | .lt => mm_br (x < 0) t e false ls st h
  | .ge => mm_br (x < 0) t e true ls st h
  | .gt => mm_br (0 < x) t e false ls st h
  | .le => mm_br (0 < x) t e true ls st h
def mm_if2 (c : ClassFile.Cond) (x y : Int32) (t : Option Nat) (e : Nat) (ls : List (Option Value)) (st : List Value) (h : mm_H) : mm_R := match c with
  | .eq => mm_br (x = y) t e false ls st h
  | .ne => mm_br (x = y) t e true ls st h
  | .lt => mm_br (x < y) t e false ls st h
  | .ge => mm_br (x < y) t e true ls st h
  | .gt => mm_br (y < x) t e false ls st h
  | .le => mm_br (y < x) t e true ls st h
def mm_go (t : Option Nat) (ls : List (Option Value)) (st : List Value) (h : mm_H) : mm_R := match t with
  | some t => mm_nx t ls st h
  | none => none
/-- one cell's one place gets a value -/
def mm_up {α : Type} (M : Nat → Nat → α) (a k : Nat) (x : α) : Nat → Nat → α := fun b j => if b = a ∧ j = k then x else M b j
/-- one cell's contents -/
def mm_row {α : Type} (M : Nat → Nat → α) (a : Nat) (f : Nat → α) : Nat → Nat → α := fun b j => if b = a then f j else M b j
def mm_isO (a ci na : Nat) : Bool := Nat.blt a na && Nat.beq (mm_sh a).1 0 && Nat.beq (mm_sh a).2 ci
def mm_isA (a kd na : Nat) : Bool := Nat.blt a na && Nat.beq (mm_sh a).1 kd
def mm_len (a : Nat) : Nat := (mm_sh a).2
/-- what is read of a field, by its kind -/
def mm_rd (kd a k : Nat) (h : mm_H) : Option Value := match kd with
  | 0 => some (.int (h.2.1 a k))
  | 1 => some (.long (h.2.2.1 a k))
  | 2 => some (.ref (h.2.2.2 a k))
  | 3 => some (.int (h.2.1 a k))
  | _ => none
def mm_gf (pc : Nat) (ls : List (Option Value)) (st : List Value) (h : mm_H) (o : Option (Nat × Nat)) : mm_R := match o with
  | some (ci, k) => match st with
    | .ref a :: r => cond (mm_isO a ci h.1) (match mm_lk mm_fk (ci * 100 + k) with
        | some (kd, _) => mm_pu (pc + 3) 0 ls r h (mm_rd kd a k h)
        | none => none) none
    | .retAddr a :: r => cond (Nat.beq ci 13 && Nat.ble 1 a && Nat.ble a 2) (match k with
        | 0 => mm_nx (pc + 3) ls (.retAddr (a + 2) :: r) h
        | 1 => mm_nx (pc + 3) ls (.int 0 :: r) h
        | _ => none) none
    | _ => none
  | none => none
def mm_pf (ini : Nat → Bool) (pc : Nat) (ls : List (Option Value)) (st : List Value) (h : mm_H) (o : Option (Nat × Nat)) : mm_R := match o with
  | some (ci, k) => match st with
    | v :: .ref a :: r => cond (mm_isO a ci h.1) (match mm_lk mm_fk (ci * 100 + k) with
        | some (kd, fin) => cond (Nat.beq fin 1 && !ini ci) none (match kd, v with
          | 0, .int x => mm_nx (pc + 3) ls r (h.1, mm_up h.2.1 a k x, h.2.2.1, h.2.2.2)
          | 1, .long x => mm_nx (pc + 3) ls r (h.1, h.2.1, mm_up h.2.2.1 a k x, h.2.2.2)
          | 2, .ref x => mm_nx (pc + 3) ls r (h.1, h.2.1, h.2.2.1, mm_up h.2.2.2 a k x)
          | 3, .int x => if x = 0 ∨ x = 1 then mm_nx (pc + 3) ls r (h.1, mm_up h.2.1 a k x, h.2.2.1, h.2.2.2) else none
          | _, _ => none)
        | none => none) none
    | _ => none
  | none => none
def mm_xlen (X : mm_X) (a : Nat) : Option Nat := match a with
  | 0 => match X with
    | some x => some x.1
    | none => none
  | 3 => some mm_sb1.length
  | 4 => some mm_sb2.length
  | _ => none
/-- the place i of a row of n -/
def mm_ix (i : Int32) (n : Nat) (k : Nat → mm_R) : mm_R := if i < 0 ∨ n ≤ i.toNatClampNeg then none else k i.toNatClampNeg
def mm_ald (pc : Nat) (ls : List (Option Value)) (st : List Value) (h : mm_H) (X : mm_X) (byt : Bool) : mm_R := match st with
  | .int i :: .ref a :: r => cond (cond byt (mm_isA a 2 h.1 || mm_isA a 3 h.1) (mm_isA a 1 h.1)) (mm_ix i (mm_len a) fun j => mm_nx (pc + 1) ls (.int (h.2.1 a j) :: r) h) none
  | .int i :: .retAddr a :: r => match byt, a with
    | false, 0 => match X with
      | some x => mm_ix i x.1 fun j => mm_nx (pc + 1) ls (.int (x.2 j) :: r) h
      | none => none
    | true, 3 => mm_ix i mm_sb1.length fun j => mm_nx (pc + 1) ls (.int (mm_sb1.getD j 0) :: r) h
    | true, 4 => mm_ix i mm_sb2.length fun j => mm_nx (pc + 1) ls (.int (mm_sb2.getD j 0) :: r) h
    | _, _ => none
  | _ => none
def mm_ast (pc : Nat) (ls : List (Option Value)) (st : List Value) (h : mm_H) (kd : Nat) (nar : Int32 → Int32) : mm_R := match st with
  | .int x :: .int i :: .ref a :: r => cond (mm_isA a kd h.1) (mm_ix i (mm_len a) fun j => mm_nx (pc + 1) ls r (h.1, mm_up h.2.1 a j (nar x), h.2.2.1, h.2.2.2)) none
  | _ => none
def mm_lald (pc : Nat) (ls : List (Option Value)) (st : List Value) (h : mm_H) : mm_R := match st with
  | .int i :: .ref a :: r => cond (mm_isA a 4 h.1) (mm_ix i (mm_len a) fun j => mm_nx (pc + 1) ls (.long (h.2.2.1 a j) :: r) h) none
  | _ => none
def mm_last (pc : Nat) (ls : List (Option Value)) (st : List Value) (h : mm_H) : mm_R := match st with
  | .long x :: .int i :: .ref a :: r => cond (mm_isA a 4 h.1) (mm_ix i (mm_len a) fun j => mm_nx (pc + 1) ls r (h.1, h.2.1, mm_up h.2.2.1 a j x, h.2.2.2)) none
  | _ => none
def mm_alen (pc : Nat) (ls : List (Option Value)) (st : List Value) (h : mm_H) (X : mm_X) : mm_R := match st with
  | .ref a :: r => cond (Nat.blt a h.1 && Nat.ble 1 (mm_sh a).1 && Nat.ble (mm_sh a).1 4) (mm_nx (pc + 1) ls (.int (Int32.ofNat (mm_len a)) :: r) h) none
  | .retAddr a :: r => match mm_xlen X a with
    | some n => mm_nx (pc + 1) ls (.int (Int32.ofNat n) :: r) h
    | none => none
  | _ => none
def mm_new (pc len : Nat) (ls : List (Option Value)) (st : List Value) (h : mm_H) (sh : Nat × Nat) : mm_R :=
  cond (Nat.ble 1 h.1 && Nat.blt h.1 107 && Nat.beq (mm_sh h.1).1 sh.1 && Nat.beq (mm_sh h.1).2 sh.2) (mm_nx (pc + len) ls (.ref h.1 :: st) (h.1 + 1, mm_row h.2.1 h.1 (fun _ => 0), mm_row h.2.2.1 h.1 (fun _ => 0), mm_row h.2.2.2 h.1 (fun _ => 0))) none
def mm_copy (pc : Nat) (ls : List (Option Value)) (st : List Value) (h : mm_H) : mm_R := match st with
  | .int n :: .int dp :: .ref b :: .int sp :: .ref a :: r => cond (mm_isA a 1 h.1 && mm_isA b 1 h.1 && Nat.ble ((r.map fun v => v.category).sum) 8) (if sp < 0 ∨ dp < 0 ∨ n < 0 ∨ mm_len a < sp.toNatClampNeg + n.toNatClampNeg ∨ mm_len b < dp.toNatClampNeg + n.toNatClampNeg then none else mm_nx (pc + 3) ls r (h.1, mm_row h.2.1 b (va_cpy (h.2.1 a) (h.2.1 b) sp.toNatClampNeg dp.toNatClampNeg n.toNatClampNeg), h.2.2.1, h.2.2.2)) none
  | _ => none
def mm_cat (st : List Value) : Nat := (st.map fun v => v.category).sum
/-- the receiver's kind is that of the method's own -/
def mm_rcv (t : Nat) (as : List Value) (h : mm_H) : Bool := match as with
  | .ref a :: _ => mm_isO a (mm_own t) h.1
  | .retAddr a :: _ => Nat.beq (mm_own t) 13 && Nat.ble 1 a && Nat.ble a 2
  | _ => false
def mm_sl (vs : List Value) : List (Option Value) := match vs with
  | [] => []
  | v :: r => some v :: (cond (Nat.beq v.category 2) (none :: mm_sl r) (mm_sl r))
def mm_call (pc : Nat) (ls : List (Option Value)) (st : List Value) (h : mm_H) (kinds : Nat → Bool) (o : Option (Nat × Nat)) : mm_R := match o with
  | some (kd, t) => cond (kinds kd && Nat.blt t 350 && Nat.ble (mm_na t) st.length && Nat.ble (mm_cat (st.drop (mm_na t))) 8 && Nat.ble (mm_sl (st.take (mm_na t)).reverse).length (mm_maxL t) && (Nat.blt 1 kd && Nat.blt kd 4 || mm_rcv t (st.take (mm_na t)).reverse h)) (some (.inr (.inr (t, (st.take (mm_na t)).reverse, (pc + 3, ls, st.drop (mm_na t)))))) none
  | none => none
def mm_special (pc : Nat) (ls : List (Option Value)) (st : List Value) (h : mm_H) (o : Option (Nat × Nat)) : mm_R := match o with
  | some (kd, t) => cond ((Nat.beq kd 4 || Nat.beq kd 5) && Nat.blt t 350 && Nat.ble (mm_na t) st.length && Nat.ble (mm_cat (st.drop (mm_na t))) 8 && Nat.ble (mm_sl (st.take (mm_na t)).reverse).length (mm_maxL t)) (match (st.take (mm_na t)).reverse with
    | .ref a :: as => cond (Nat.blt 0 a && Nat.blt a h.1) (some (.inr (.inr (t, .ref a :: as, (pc + 3, ls, st.drop (mm_na t)))))) none
    | _ => none) none
  | none => none
def mm_static (pc : Nat) (ls : List (Option Value)) (st : List Value) (h : mm_H) (o : Option (Nat × Nat)) : mm_R := match o with
  | some (6, _) => mm_copy pc ls st h
  | o => mm_call pc ls st h (fun k => Nat.beq k 2 || Nat.beq k 3) o
def mm_ret (rk : Nat) (st : List Value) : mm_R := match st with
  | [.int x] => match rk with
    | 1 => some (.inr (.inl (some (.int x))))
    | 2 => if x = 0 ∨ x = 1 then some (.inr (.inl (some (.int x)))) else none
    | 3 => if vp_nar .char x = x then some (.inr (.inl (some (.int x)))) else none
    | 4 => if vp_nar .byte x = x then some (.inr (.inl (some (.int x)))) else none
    | _ => none
  | _ => none
def mm_isI (m : Nat) : Bool := mm_inits.contains m
def mm_do (X : mm_X) (m : Nat) (i : Instr) (pc : Nat) (ls : List (Option Value)) (st : List Value) (h : mm_H) : mm_R := match i with
  | .aload n => mm_pu pc 2 ls st h (mm_gA ls[n]?)
  | .aload_n n => mm_pu pc 1 ls st h (mm_gA ls[n.val]?)
  | .iload n => mm_pu pc 2 ls st h ((mm_gI ls[n]?).map .int)
  | .iload_n n => mm_pu pc 1 ls st h ((mm_gI ls[n.val]?).map .int)
  | .lload n => mm_pu pc 2 ls st h ((mm_gL ls[n]?).map .long)
  | .lload_n n => mm_pu pc 1 ls st h ((mm_gL ls[n.val]?).map .long)
  | .istore n => match st with
    | .int x :: r => cond (Nat.blt n (mm_maxL m)) (mm_nx (pc + 2) (mm_st1 ls n (.int x)) r h) none
    | _ => none
  | .istore_n n => match st with
    | .int x :: r => cond (Nat.blt n.val (mm_maxL m)) (mm_nx (pc + 1) (mm_st1 ls n.val (.int x)) r h) none
    | _ => none
  | .astore n => match mm_gA (st.head?.map some) with
    | some v => cond (Nat.blt n (mm_maxL m)) (mm_nx (pc + 2) (mm_st1 ls n v) st.tail h) none
    | _ => none
  | .astore_n n => match mm_gA (st.head?.map some) with
    | some v => cond (Nat.blt n.val (mm_maxL m)) (mm_nx (pc + 1) (mm_st1 ls n.val v) st.tail h) none
    | _ => none
  | .lstore n => match st with
    | .long x :: r => cond (Nat.blt (n + 1) (mm_maxL m)) (mm_nx (pc + 2) (mm_st2 ls n (.long x)) r h) none
    | _ => none
  | .lstore_n n => match st with
    | .long x :: r => cond (Nat.blt (n.val + 1) (mm_maxL m)) (mm_nx (pc + 1) (mm_st2 ls n.val (.long x)) r h) none
    | _ => none
  | .iconst n => mm_nx (pc + 1) ls (.int (Int32.ofInt n) :: st) h
  | .bipush n => mm_nx (pc + 2) ls (.int (Int8.ofInt n).toInt32 :: st) h
  | .sipush n => mm_nx (pc + 3) ls (.int (Int16.ofInt n).toInt32 :: st) h
  | .lconst n => mm_nx (pc + 1) ls (.long (Int64.ofNat n.val) :: st) h
  | .ldc k => match mm_lk mm_cs (mm_own m * 2000 + k) with
    | some q => mm_nx (pc + 2) ls (.retAddr q :: st) h
    | none => mm_pu pc 2 ls st h ((mm_lk mm_ci (mm_own m * 2000 + k)).map .int)
  | .ldc_w k => mm_pu pc 3 ls st h ((mm_lk mm_ci (mm_own m * 2000 + k)).map .int)
  | .ldc2_w k => mm_pu pc 3 ls st h ((mm_lk mm_cj (mm_own m * 2000 + k)).map .long)
  | .iinc n c => match mm_gI ls[n]? with
    | some x => cond (Nat.blt n (mm_maxL m)) (mm_nx (pc + 3) (mm_st1 ls n (.int (x + Int32.ofInt c))) st h) none
    | none => none
  | .iadd => mm_b2 pc ls st h (fun x y => x + y)
  | .isub => mm_b2 pc ls st h (fun x y => x - y)
  | .imul => mm_b2 pc ls st h (fun x y => x * y)
  | .iand => mm_b2 pc ls st h (fun x y => x &&& y)
  | .ior => mm_b2 pc ls st h (fun x y => x ||| y)
  | .ixor => mm_b2 pc ls st h (fun x y => x ^^^ y)
  | .ishl => mm_b2 pc ls st h (fun x y => x <<< (y &&& 31))
  | .ishr => mm_b2 pc ls st h (fun x y => x >>> (y &&& 31))
  | .iushr => mm_b2 pc ls st h (fun x y => (x.toUInt32 >>> (y.toUInt32 &&& Int32.toUInt32 31)).toInt32)
  | .idiv => mm_d2 pc ls st h (fun x y => x / y)
  | .irem => mm_d2 pc ls st h (fun x y => x - x / y * y)
  | .ineg => mm_u1 pc ls st h (fun x => .int (-x))
  | .i2b => mm_u1 pc ls st h (fun x => .int x.toInt8.toInt32)
  | .i2c => mm_u1 pc ls st h (fun x => .int (x.toUInt32 % 65536).toInt32)
  | .i2l => mm_u1 pc ls st h (fun x => .long x.toInt64)
  | .ladd => mm_j2 pc ls st h (fun x y => .long (x + y))
  | .lmul => mm_j2 pc ls st h (fun x y => .long (x * y))
  | .lor => mm_j2 pc ls st h (fun x y => .long (x ||| y))
  | .lcmp => mm_j2 pc ls st h (fun x y => .int (lg_cmp x y))
  | .lshl => match st with
    | .int y :: .long x :: r => mm_nx (pc + 1) ls (.long (x <<< (y.toInt64 &&& 63)) :: r) h
    | _ => none
  | .ifCond c off => match st with
    | .int x :: r => mm_if1 c x (mm_tg pc off) (pc + 3) ls r h
    | _ => none
  | .if_icmp c off => match st with
    | .int y :: .int x :: r => mm_if2 c x y (mm_tg pc off) (pc + 3) ls r h
    | _ => none
  | .goto off => mm_go (mm_tg pc off) ls st h
  | .tableswitch d lo hi offs => match st with
    | .int x :: r => if x.toInt < lo ∨ hi < x.toInt then mm_go (mm_tg pc d) ls r h else match offs[(x.toInt - lo).toNat]? with
      | some off => mm_go (mm_tg pc off) ls r h
      | none => none
    | _ => none
  | .lookupswitch d ps => match st with
    | .int x :: r => cond ((ps.toList.zip (ps.toList.drop 1)).all (fun (a, next) => a.1 < next.1)) (mm_go (mm_tg pc (Op.lookupswitch.offset ps.toList d x.toInt)) ls r h) none
    | _ => none
  | .dup => match st with
    | v :: r => cond (Nat.beq v.category 1) (mm_nx (pc + 1) ls (v :: v :: r) h) none
    | _ => none
  | .dup2 => match st with
    | v :: w :: r => cond (Nat.beq v.category 1 && Nat.beq w.category 1) (mm_nx (pc + 1) ls (v :: w :: v :: w :: r) h) none
    | _ => none
  | .pop => match st with
    | v :: r => cond (Nat.beq v.category 1) (mm_nx (pc + 1) ls r h) none
    | _ => none
  | .getfield k => mm_gf pc ls st h (mm_lk mm_fl (mm_own m * 2000 + k))
  | .putfield k => mm_pf (fun ci => mm_isI m && Nat.beq (mm_own m) ci) pc ls st h (mm_lk mm_fl (mm_own m * 2000 + k))
  | .getstatic k => match mm_lk mm_fl (mm_own m * 2000 + k) with
    | some (14, 0) => mm_nx (pc + 3) ls (.int 1 :: st) h
    | some (14, 1) => mm_nx (pc + 3) ls (.retAddr 5 :: st) h
    | _ => none
  | .iaload => mm_ald pc ls st h X false
  | .baload => mm_ald pc ls st h X true
  | .laload => mm_lald pc ls st h
  | .iastore => mm_ast pc ls st h 1 (fun x => x)
  | .bastore => match st with
    | _ :: _ :: .ref a :: _ => cond (Nat.beq (mm_sh a).1 2) (mm_ast pc ls st h 2 (vp_nar .byte)) (mm_ast pc ls st h 3 (vp_nar .boolean))
    | _ => none
  | .lastore => mm_last pc ls st h
  | .arraylength => mm_alen pc ls st h X
  | .new k => match mm_lk mm_cl (mm_own m * 2000 + k) with
    | some ci => mm_new pc 3 ls st h (0, ci)
    | none => none
  | .newarray ty => match st with
    | .int n :: r => if n < 0 then none else match ty with
      | .int => mm_new pc 2 ls r h (1, n.toNatClampNeg)
      | .byte => mm_new pc 2 ls r h (2, n.toNatClampNeg)
      | .boolean => mm_new pc 2 ls r h (3, n.toNatClampNeg)
      | .long => mm_new pc 2 ls r h (4, n.toNatClampNeg)
      | _ => none
    | _ => none
  | .invokevirtual k => mm_call pc ls st h (fun k => Nat.beq k 0 || Nat.beq k 1) (mm_lk mm_ml (mm_own m * 2000 + k))
  | .invokestatic k => mm_static pc ls st h (mm_lk mm_ml (mm_own m * 2000 + k))
  | .invokespecial k => mm_special pc ls st h (mm_lk mm_ml (mm_own m * 2000 + k))
  | .ireturn => mm_ret (mm_rk m) st
  | .lreturn => match st with
    | [.long x] => cond (Nat.beq (mm_rk m) 5) (some (.inr (.inl (some (.long x))))) none
    | _ => none
  | .return_ => match st with
    | [] => cond (Nat.beq (mm_rk m) 0) (some (.inr (.inl none))) none
    | _ => none
  | _ => none
def mm_stp (X : mm_X) (m : Nat) (f : mm_F) (h : mm_H) : mm_R := match mm_at m f.1 with
  | some (_, i) => mm_do X m i f.1 f.2.1 f.2.2 h
  | none => none
def mm_ent (t : Nat) (as : List Value) : mm_F := (0, mm_sl as ++ List.replicate (mm_maxL t - (mm_sl as).length) none, [])
def mm_push (f : mm_F) (v : Option Value) : mm_F := (f.1, f.2.1, v.toList ++ f.2.2)
def mm_ev (X : mm_X) (n d m : Nat) (f : mm_F) (h : mm_H) : Option (Option Value × mm_H) := match n with
  | 0 => none
  | n + 1 => match mm_stp X m f h with
    | some (.inl (f', h')) => mm_ev X n d m f' h'
    | some (.inr (.inl v)) => some (v, h)
    | some (.inr (.inr (t, as, f'))) => match d with
      | 0 => none
      | d' + 1 => match mm_ev none n d' t (mm_ent t as) h with
        | some (v, h') => mm_ev X n (d' + 1) m (mm_push f' v) h'
        | none => none
    | none => none
/-- it comes to an answer and a heap of which Q holds -/
def mm_T (X : mm_X) (d m : Nat) (f : mm_F) (h : mm_H) (Q : Option Value → mm_H → Prop) : Prop := ∃ n r h', mm_ev X n d m f h = some (r, h') ∧ Q r h'
