/-! THE LIGHT MACHINE: cells by number, ints, longs and references by cell and place; a step is a function; nothing of frames, links and tables -/
abbrev xS : Type := (Nat → Nat × Nat) × (List Nat × Nat × Nat) × (Nat → Nat → Int32) × (Nat → Nat → Int64) × (Nat → Nat → Option Nat)
abbrev xL : Type := List (Option Value)
abbrev xF : Type := Nat × xL × List Value × xS
abbrev xI : Type := Instr × Nat × Nat × Nat
def xup {α : Type} (f : Nat → Nat → α) (a k : Nat) (v : α) : Nat → Nat → α := va_up f a (va_up (f a) k v)
def xat (pc : Nat) : List (Nat × xI) → Option xI
  | [] => none
  | e :: t => if e.1 = pc then some e.2 else xat pc t
theorem xat_mem {pc : Nat} {x : xI} : ∀ {t : List (Nat × xI)}, xat pc t = some x → (pc, x) ∈ t
  | [], h => by simp [xat] at h
  | e :: t, h => by
    unfold xat at h
    split at h
    · rename_i he
      cases h
      subst he
      exact List.mem_cons_self
    · exact List.mem_cons_of_mem _ (xat_mem h)
def xld (L : xL) (i : Nat) : Option Value := match L[i]? with
  | some o => o
  | none => none
def xclr (L : xL) (i : Nat) : xL := match i with
  | 0 => L
  | j + 1 => match xld L j with
    | some v => if v.category = 2 then L.set j none else L
    | none => L
def xst1 (L : xL) (i : Nat) (v : Value) : Option xL := if i < L.length then some ((xclr L i).set i (some v)) else none
def xst2 (L : xL) (i : Nat) (v : Value) : Option xL := if i + 1 < L.length then some (((xclr L i).set i (some v)).set (i + 1) none) else none
def xii (f : Int32 → Int32 → Int32) (st : List Value) : Option (List Value) := match st with
  | .int y :: .int x :: r => some (.int (f x y) :: r)
  | _ => none
def xjj (f : Int64 → Int64 → Int64) (st : List Value) : Option (List Value) := match st with
  | .long y :: .long x :: r => some (.long (f x y) :: r)
  | _ => none
def xji (f : Int64 → Int32 → Int64) (st : List Value) : Option (List Value) := match st with
  | .int y :: .long x :: r => some (.long (f x y) :: r)
  | _ => none
/-- instructions of the operand stack alone -/
def xop (ins : Instr) (r1 : Nat) (st : List Value) : Option (List Value) := match ins with
  | .iconst n => some (.int (Int32.ofInt n) :: st)
  | .bipush n => some (.int (Int8.ofInt n).toInt32 :: st)
  | .sipush n => some (.int (Int16.ofInt n).toInt32 :: st)
  | .lconst n => some (.long (Int64.ofNat (n : Nat)) :: st)
  | .ldc _ => some (.int (Int32.ofNat r1) :: st)
  | .ldc_w _ => some (.int (Int32.ofNat r1) :: st)
  | .ldc2_w _ => some (.long (Int64.ofNat r1) :: st)
  | .iadd => xii (fun x y => x + y) st
  | .isub => xii (fun x y => x - y) st
  | .imul => xii (fun x y => x * y) st
  | .iand => xii (fun x y => x &&& y) st
  | .ior => xii (fun x y => x ||| y) st
  | .ixor => xii (fun x y => x ^^^ y) st
  | .ishl => xii (fun x y => x <<< (y &&& 31)) st
  | .ishr => xii (fun x y => x >>> (y &&& 31)) st
  | .idiv => match st with
    | .int y :: .int x :: r => if y = 0 then none else some (.int (x / y) :: r)
    | _ => none
  | .ineg => match st with
    | .int x :: r => some (.int (-x) :: r)
    | _ => none
  | .i2l => match st with
    | .int x :: r => some (.long x.toInt64 :: r)
    | _ => none
  | .l2i => match st with
    | .long x :: r => some (.int x.toInt32 :: r)
    | _ => none
  | .ladd => xjj (fun x y => x + y) st
  | .lsub => xjj (fun x y => x - y) st
  | .lmul => xjj (fun x y => x * y) st
  | .land => xjj (fun x y => x &&& y) st
  | .lor => xjj (fun x y => x ||| y) st
  | .lxor => xjj (fun x y => x ^^^ y) st
  | .lshl => xji (fun x y => x <<< (y.toInt64 &&& 63)) st
  | .lshr => xji (fun x y => x >>> (y.toInt64 &&& 63)) st
  | .lushr => xji (fun x y => (x.toUInt64 >>> (y.toInt64.toUInt64 &&& Int64.toUInt64 63)).toInt64) st
  | .lcmp => match st with
    | .long y :: .long x :: r => some (.int (lg_cmp x y) :: r)
    | _ => none
  | .dup => match st with
    | v :: r => if v.category = 1 then some (v :: v :: r) else none
    | _ => none
  | .dup2 => match st with
    | v :: w :: r => if v.category = 1 ∧ w.category = 1 then some (v :: w :: v :: w :: r) else none
    | _ => none
  | _ => none
/-- loads and stores of the locals -/
def xlo (ins : Instr) (L : xL) (st : List Value) : Option (xL × List Value) := match ins with
  | .iload_n k => match xld L (k : Nat) with
    | some (.int x) => some (L, .int x :: st)
    | _ => none
  | .iload i => match xld L i with
    | some (.int x) => some (L, .int x :: st)
    | _ => none
  | .lload_n k => match xld L (k : Nat) with
    | some (.long x) => some (L, .long x :: st)
    | _ => none
  | .lload i => match xld L i with
    | some (.long x) => some (L, .long x :: st)
    | _ => none
  | .aload_n k => match xld L (k : Nat) with
    | some (.ref x) => some (L, .ref x :: st)
    | _ => none
  | .aload i => match xld L i with
    | some (.ref x) => some (L, .ref x :: st)
    | _ => none
  | .istore_n k => match st with
    | .int x :: r => (xst1 L (k : Nat) (.int x)).map (fun L' => (L', r))
    | _ => none
  | .istore i => match st with
    | .int x :: r => (xst1 L i (.int x)).map (fun L' => (L', r))
    | _ => none
  | .astore_n k => match st with
    | .ref x :: r => (xst1 L (k : Nat) (.ref x)).map (fun L' => (L', r))
    | _ => none
  | .astore i => match st with
    | .ref x :: r => (xst1 L i (.ref x)).map (fun L' => (L', r))
    | _ => none
  | .lstore_n k => match st with
    | .long x :: r => (xst2 L (k : Nat) (.long x)).map (fun L' => (L', r))
    | _ => none
  | .lstore i => match st with
    | .long x :: r => (xst2 L i (.long x)).map (fun L' => (L', r))
    | _ => none
  | .iinc i n => match xld L i with
    | some (.int x) => (xst1 L i (.int (x + Int32.ofInt n))).map (fun L' => (L', st))
    | _ => none
  | _ => none
def xcmp (c : Jvm.ClassFile.Cond) (x y : Int32) : Bool := match c with
  | .eq => decide (x = y)
  | .ne => decide (¬ x = y)
  | .lt => decide (x < y)
  | .ge => decide (y ≤ x)
  | .gt => decide (y < x)
  | .le => decide (x ≤ y)
/-- branches: r1 is where they go -/
def xbr (ins : Instr) (r1 pc : Nat) (st : List Value) : Option (Nat × List Value) := match ins with
  | .goto _ => some (r1, st)
  | .if_icmp c _ => match st with
    | .int y :: .int x :: r => some (if xcmp c x y = true then r1 else pc + 3, r)
    | _ => none
  | .ifCond c _ => match st with
    | .int x :: r => some (if xcmp c x 0 = true then r1 else pc + 3, r)
    | _ => none
  | .tableswitch dflt lo hi offs => match st with
    | .int x :: r => (if x.toInt < lo ∨ hi < x.toInt then some dflt else offs[(x.toInt - lo).toNat]?).bind (fun o => match (pc : Int) + o with
      | .ofNat t => some (t, r)
      | _ => none)
    | _ => none
  | _ => none
/-- how long an instruction is, where the step asks for it -/
def xlen (ins : Instr) : Nat := match ins with
  | .bipush _ | .ldc _ | .iload _ | .lload _ | .aload _ | .istore _ | .astore _ | .lstore _ | .newarray _ => 2
  | .sipush _ | .ldc_w _ | .ldc2_w _ | .iinc _ _ | .goto _ | .if_icmp _ _ | .ifCond _ _ | .getfield _ | .putfield _ | .getstatic _ | .new _ | .invokevirtual _ | .invokestatic _ | .invokespecial _ => 3
  | _ => 1
