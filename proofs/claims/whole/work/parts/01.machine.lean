/-! THE SMALL MACHINE: a function that runs the methods' resolved instructions over a heap of numbered cells (a reference is a cell's number). Its soundness (part 02 and on) says: where it answers, the real machine comes to the same end. -/
abbrev zz_H : Type := List va_E
/-- an instruction, its length, its resolved operands -/
abbrev zz_I : Type := Instr × Nat × List Nat
/-- the tables: code; a class's first field values; its field types; a method's return type; its handlers (from, to, handler's pc, class's number); a string's characters -/
abbrev zz_Z : Type := (Nat → Nat → Option zz_I) × (Nat → List Value) × (Nat → Nat → FieldType) × (Nat → Option FieldType) × (Nat → List (Nat × Nat × Nat × Nat)) × (Nat → List Int32) × (Nat → Nat)
abbrev zz_cod (Z : zz_Z) : Nat → Nat → Option zz_I := Z.1
abbrev zz_new (Z : zz_Z) : Nat → List Value := Z.2.1
abbrev zz_fty (Z : zz_Z) : Nat → Nat → FieldType := Z.2.2.1
abbrev zz_ret (Z : zz_Z) : Nat → Option FieldType := Z.2.2.2.1
abbrev zz_hnd (Z : zz_Z) : Nat → List (Nat × Nat × Nat × Nat) := Z.2.2.2.2.1
abbrev zz_str (Z : zz_Z) : Nat → List Int32 := Z.2.2.2.2.2.1
abbrev zz_mxl (Z : zz_Z) : Nat → Nat := Z.2.2.2.2.2.2
/-- the first number of a string constant; the script's number -/
abbrev zz_SB : Nat := 1000000
abbrev zz_SC : Nat := 2000000
/-- a local that is not known -/
abbrev zz_no : Value := .retAddr 0
/-- a value of two units ahead of place i is no more, once i is written -/
def zz_cut (L : List Value) (i : Nat) : List Value := match i with
  | 0 => L
  | j + 1 => if (L.getD j zz_no).category = 2 then L.set j zz_no else L
def zz_set1 (L : List Value) (i : Nat) (v : Value) : List Value := (zz_cut L i).set i v
def zz_set2 (L : List Value) (i : Nat) (v : Value) : List Value := ((zz_cut L i).set i v).set (i + 1) zz_no
/-- the locals at a method's entry -/
def zz_arg : List Value → List Value
  | [] => []
  | v :: vs => if v.category = 2 then v :: zz_no :: zz_arg vs else v :: zz_arg vs
def zz_ent (n : Nat) (vs : List Value) : List Value := zz_arg vs ++ List.replicate (n - (zz_arg vs).length) zz_no
def zz_if (c : ClassFile.Cond) (x y : Int32) : Bool := match c with
  | .eq => decide (x = y)
  | .ne => decide (¬ x = y)
  | .lt => decide (x < y)
  | .ge => decide (y ≤ x)
  | .gt => decide (y < x)
  | .le => decide (x ≤ y)
/-- loads -/
def zz_il (L : List Value) (j : Nat) : Option Value := match L[j]? with
  | some (.int x) => some (.int x)
  | _ => none
def zz_ll (L : List Value) (j : Nat) : Option Value := match L[j]? with
  | some (.long x) => some (.long x)
  | _ => none
def zz_al (L : List Value) (j : Nat) : Option Value := match L[j]? with
  | some (.ref x) => some (.ref x)
  | some .null => some .null
  | _ => none
abbrev zz_T : Type := Nat × List Value × List Value
/-- two ints, an int -/
def zz_i2 (f : Int32 → Int32 → Int32) (pc : Nat) (L st : List Value) : Option zz_T := match st with
  | .int y :: .int x :: r => some (pc + 1, L, .int (f x y) :: r)
  | _ => none
def zz_l2 (f : Int64 → Int64 → Int64) (pc : Nat) (L st : List Value) : Option zz_T := match st with
  | .long y :: .long x :: r => some (pc + 1, L, .long (f x y) :: r)
  | _ => none
/-- a long, an int: a long (shifts) -/
def zz_ls (f : Int64 → Int32 → Int64) (pc : Nat) (L st : List Value) : Option zz_T := match st with
  | .int y :: .long x :: r => some (pc + 1, L, .long (f x y) :: r)
  | _ => none
def zz_i1 (f : Int32 → Value) (pc : Nat) (L st : List Value) : Option zz_T := match st with
  | .int x :: r => some (pc + 1, L, f x :: r)
  | _ => none
def zz_div (f : Int32 → Int32 → Int32) (pc : Nat) (L st : List Value) : Option zz_T := match st with
  | .int y :: .int x :: r => if y = 0 then none else some (pc + 1, L, .int (f x y) :: r)
  | _ => none
/-- the place to go on at, among the targets of a switch: default first -/
def zz_tab (lo hi : Int) (r : List Nat) (x : Int32) : Option Nat := if x.toInt < lo ∨ hi < x.toInt then r[0]? else r[(x.toInt - lo).toNat + 1]?
/-- pairs of a lookupswitch: by its own order -/
def zz_lkp : List (Int × Int) → List Nat → Int32 → Nat → Nat
  | (k, _) :: ps, t :: ts, x, d => if k = x.toInt then t else zz_lkp ps ts x d
  | _, _, _, d => d
/-- instructions that touch no heap -/
def zz_st1 (i : Instr) (r : List Nat) (pc : Nat) (L st : List Value) : Option zz_T := match i with
  | .aconst_null => some (pc + 1, L, .null :: st)
  | .iconst n => some (pc + 1, L, .int (Int32.ofInt n) :: st)
  | .bipush n => some (pc + 2, L, .int (Int8.ofInt n).toInt32 :: st)
  | .sipush n => some (pc + 3, L, .int (Int16.ofInt n).toInt32 :: st)
  | .lconst n => some (pc + 1, L, .long (Int64.ofNat (n : Nat)) :: st)
  | .ldc _ => match r with
    | [0, b] => some (pc + 2, L, .int (Int32.ofNat b) :: st)
    | [1, j] => some (pc + 2, L, .ref (zz_SB + j) :: st)
    | _ => none
  | .ldc_w _ => match r with
    | [0, b] => some (pc + 3, L, .int (Int32.ofNat b) :: st)
    | [1, j] => some (pc + 3, L, .ref (zz_SB + j) :: st)
    | _ => none
  | .ldc2_w _ => match r with
    | [b] => some (pc + 3, L, .long (Int64.ofNat b) :: st)
    | _ => none
  | .iload j => (zz_il L j).map fun v => (pc + 2, L, v :: st)
  | .iload_n j => (zz_il L j).map fun v => (pc + 1, L, v :: st)
  | .lload j => (zz_ll L j).map fun v => (pc + 2, L, v :: st)
  | .lload_n j => (zz_ll L j).map fun v => (pc + 1, L, v :: st)
  | .aload j => (zz_al L j).map fun v => (pc + 2, L, v :: st)
  | .aload_n j => (zz_al L j).map fun v => (pc + 1, L, v :: st)
  | .istore j => match st with
    | .int x :: t => if j < L.length then some (pc + 2, zz_set1 L j (.int x), t) else none
    | _ => none
  | .istore_n j => match st with
    | .int x :: t => if (j : Nat) < L.length then some (pc + 1, zz_set1 L j (.int x), t) else none
    | _ => none
  | .lstore j => match st with
    | .long x :: t => if j + 1 < L.length then some (pc + 2, zz_set2 L j (.long x), t) else none
    | _ => none
  | .lstore_n j => match st with
    | .long x :: t => if (j : Nat) + 1 < L.length then some (pc + 1, zz_set2 L j (.long x), t) else none
    | _ => none
  | .astore j => match st with
    | .ref x :: t => if j < L.length then some (pc + 2, zz_set1 L j (.ref x), t) else none
    | .null :: t => if j < L.length then some (pc + 2, zz_set1 L j .null, t) else none
    | _ => none
  | .astore_n j => match st with
    | .ref x :: t => if (j : Nat) < L.length then some (pc + 1, zz_set1 L j (.ref x), t) else none
    | .null :: t => if (j : Nat) < L.length then some (pc + 1, zz_set1 L j .null, t) else none
    | _ => none
  | .iinc j n => match L[j]? with
    | some (.int x) => some (pc + 3, zz_set1 L j (.int (x + Int32.ofInt n)), st)
    | _ => none
  | .iadd => zz_i2 (fun x y => x + y) pc L st
  | .isub => zz_i2 (fun x y => x - y) pc L st
  | .imul => zz_i2 (fun x y => x * y) pc L st
  | .iand => zz_i2 (fun x y => x &&& y) pc L st
  | .ior => zz_i2 (fun x y => x ||| y) pc L st
  | .ixor => zz_i2 (fun x y => x ^^^ y) pc L st
  | .idiv => zz_div (fun x y => x / y) pc L st
  | .irem => zz_div (fun x y => x - x / y * y) pc L st
  | .ishl => zz_i2 (fun x y => x <<< (y &&& 31)) pc L st
  | .ishr => zz_i2 (fun x y => x >>> (y &&& 31)) pc L st
  | .iushr => zz_i2 (fun x y => (x.toUInt32 >>> (y.toUInt32 &&& Int32.toUInt32 31)).toInt32) pc L st
  | .ladd => zz_l2 (fun x y => x + y) pc L st
  | .land => zz_l2 (fun x y => x &&& y) pc L st
  | .lor => zz_l2 (fun x y => x ||| y) pc L st
  | .lshl => zz_ls (fun x y => x <<< (y.toInt64 &&& 63)) pc L st
  | .lshr => zz_ls (fun x y => x >>> (y.toInt64 &&& 63)) pc L st
  | .lushr => zz_ls (fun x y => (x.toUInt64 >>> (y.toInt64.toUInt64 &&& Int64.toUInt64 63)).toInt64) pc L st
  | .lcmp => match st with
    | .long y :: .long x :: t => some (pc + 1, L, .int (lg_cmp x y) :: t)
    | _ => none
  | .ineg => zz_i1 (fun x => .int (-x)) pc L st
  | .i2l => zz_i1 (fun x => .long x.toInt64) pc L st
  | .i2c => zz_i1 (fun x => .int (x.toUInt32 % 65536).toInt32) pc L st
  | .l2i => match st with
    | .long x :: t => some (pc + 1, L, .int x.toInt32 :: t)
    | _ => none
  | .dup => match st with
    | .int x :: t => some (pc + 1, L, .int x :: .int x :: t)
    | .ref x :: t => some (pc + 1, L, .ref x :: .ref x :: t)
    | _ => none
  | .dup2 => match st with
    | .int x :: .ref y :: t => some (pc + 1, L, .int x :: .ref y :: .int x :: .ref y :: t)
    | _ => none
  | .dup_x1 => match st with
    | .int x :: .ref y :: t => some (pc + 1, L, .int x :: .ref y :: .int x :: t)
    | _ => none
  | .pop => match st with
    | .int _ :: t => some (pc + 1, L, t)
    | .ref _ :: t => some (pc + 1, L, t)
    | _ => none
  | .ifCond c _ => match st, r with
    | .int x :: t, [g] => some (if zz_if c x 0 then g else pc + 3, L, t)
    | _, _ => none
  | .if_icmp c _ => match st, r with
    | .int y :: .int x :: t, [g] => some (if zz_if c x y then g else pc + 3, L, t)
    | _, _ => none
  | .ifnull _ => match st, r with
    | .ref _ :: t, [_] => some (pc + 3, L, t)
    | .null :: t, [g] => some (g, L, t)
    | _, _ => none
  | .ifnonnull _ => match st, r with
    | .ref _ :: t, [g] => some (g, L, t)
    | .null :: t, [_] => some (pc + 3, L, t)
    | _, _ => none
  | .goto _ => match r with
    | [g] => some (g, L, st)
    | _ => none
  | .tableswitch _ lo hi _ => match st with
    | .int x :: t => (zz_tab lo hi r x).map fun g => (g, L, t)
    | _ => none
  | .lookupswitch _ ps => match st, r with
    | .int x :: t, d :: ts => some (zz_lkp ps.toList ts x d, L, t)
    | _, _ => none
  | _ => none
