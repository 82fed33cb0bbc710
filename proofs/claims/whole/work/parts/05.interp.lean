/-! A PURE INTERPRETER of the bytecode: values as the machine's, but a reference is the number of a cell of the pure store + 4 (0: the script, 1: ArrayList's empty array, 2 and 3: the class's two arrays of constants); a return address stands for the class object of Object[]. -/
section QI
/-- a cell of the pure store: its kind (below 50: the class of that number in vwCl; 99: a thing that nobody looks at; from 100 on: arrays), its length, what was written into it (the rest is the default) -/
abbrev QC : Type := Nat × Nat × List (Nat × Value)
/-- the pure store: its cells, how many were made, with how many slots -/
abbrev QS : Type := List QC × Nat × Nat
/-- what the constant pool's entries are: entry, tag, three numbers -/
abbrev QK : Type := List (Nat × Nat × Nat × Nat × Nat)
/-- a method: name, bytes, locals, what it returns, its class, whether it is a constructor, handlers (from, to, at, exception), entries, instructions -/
abbrev QM : Type := MethodName × ByteArray × Nat × Option FieldType × String × Bool × List (Nat × Nat × Nat × Nat) × QK × List (Nat × Instr)
abbrev qm_y (M : QM) : MethodName := M.1
abbrev qm_b (M : QM) : ByteArray := M.2.1
abbrev qm_l (M : QM) : Nat := M.2.2.1
abbrev qm_r (M : QM) : Option FieldType := M.2.2.2.1
abbrev qm_o (M : QM) : String := M.2.2.2.2.1
abbrev qm_i (M : QM) : Bool := M.2.2.2.2.2.1
abbrev qm_h (M : QM) : List (Nat × Nat × Nat × Nat) := M.2.2.2.2.2.2.1
abbrev qm_k (M : QM) : QK := M.2.2.2.2.2.2.2.1
abbrev qm_c (M : QM) : List (Nat × Instr) := M.2.2.2.2.2.2.2.2
abbrev QO : Type := Option Value ⊕ Nat
abbrev QL : Type := List (Nat × Value)
def q_ty (k : Nat) : FieldType := if k = 100 then .int else if k = 101 then .long else if k = 102 then .boolean else if k = 103 then .object RX1 else if k = 104 then .object RX3 else if k = 105 then .object RX5 else if k = 106 then .object RX10 else if k = 107 then .object "java/lang/Object" else .array .long
def q_fty (c k : Nat) : FieldType := match c with
  | 0 => tyJx4a65c k
  | 1 => tyX0 k
  | 2 => tyX1 k
  | 3 => tyX2 k
  | 4 => tyX3 k
  | 5 => tyX4 k
  | 6 => tyX5 k
  | 7 => tyX6 k
  | 8 => tyX7 k
  | 9 => tyX8 k
  | 10 => tyX9 k
  | 11 => tyX10 k
  | 12 => tyX11 k
  | _ => tyX12 k
def q_dv (kd i : Nat) : Value := if kd < 50 then defaultValue (q_fty kd i) else defaultValue (q_ty kd)
def q_rd (c : QC) (i : Nat) : Value := match c.2.2.find? (fun q => q.1 == i) with
  | some q => q.2
  | none => q_dv c.1 i
def q_wr (c : QC) (i : Nat) (v : Value) : QC := (c.1, c.2.1, (i, v) :: c.2.2.filter (fun q => !(q.1 == i)))
def q_lo (L : QL) (i : Nat) : Option Value := (L.find? (fun q => q.1 == i)).map (·.2)
def q_s1 (L : QL) (i : Nat) (v : Value) : QL := (i, v) :: L.filter (fun q => !(q.1 == i) && !(q.1 + 1 == i && q.2.category == 2))
def q_s2 (L : QL) (i : Nat) (v : Value) : QL := (i, v) :: L.filter (fun q => !(q.1 == i) && (!(q.1 == i + 1) && !(q.1 + 1 == i && q.2.category == 2)))
def q_rm (L : QL) (i : Nat) : QL := L.filter (fun q => !(q.1 == i) && !(q.1 + 1 == i && q.2.category == 2))
/-- the cell of a reference -/
def q_at (S : QS) (r : Nat) : Option QC := if r < 4 then none else S.1[r - 4]?
def q_put (S : QS) (r : Nat) (c : QC) : QS := (S.1.set (r - 4) c, S.2)
def q_new (S : QS) (c : QC) : QS := (S.1 ++ [c], S.2.1 + 1, S.2.2 + c.2.1)
def q_ii (f : Int32 → Int32 → Value) : List Value → Option (List Value)
  | .int y :: .int x :: st => some (f x y :: st)
  | _ => none
def q_ll (f : Int64 → Int64 → Value) : List Value → Option (List Value)
  | .long y :: .long x :: st => some (f x y :: st)
  | _ => none
def q_li (f : Int64 → Int32 → Value) : List Value → Option (List Value)
  | .int y :: .long x :: st => some (f x y :: st)
  | _ => none
def q_i1 (f : Int32 → Value) : List Value → Option (List Value)
  | .int x :: st => some (f x :: st)
  | _ => none
def q_l1 (f : Int64 → Value) : List Value → Option (List Value)
  | .long x :: st => some (f x :: st)
  | _ => none
def q_iz (f : Int32 → Int32 → Value) : List Value → Option (List Value)
  | .int y :: .int x :: st => if y = 0 then none else some (f x y :: st)
  | _ => none
def q_lz (f : Int64 → Int64 → Value) : List Value → Option (List Value)
  | .long y :: .long x :: st => if y = 0 then none else some (f x y :: st)
  | _ => none
def q_v1 (f : Value → List Value → List Value) : List Value → Option (List Value)
  | v :: st => if v.category = 1 then some (f v st) else none
  | _ => none
def q_v2 (f : Value → Value → List Value → List Value) : List Value → Option (List Value)
  | v :: w :: st => if v.category = 1 ∧ w.category = 1 then some (f v w st) else none
  | _ => none
/-- instructions that look at the stack alone -/
def q_simple (i : Instr) (st : List Value) : Option (List Value) := match i with
  | .iconst n => some (.int (Int32.ofInt n) :: st)
  | .bipush n => some (.int (Int8.ofInt n).toInt32 :: st)
  | .sipush n => some (.int (Int16.ofInt n).toInt32 :: st)
  | .lconst n => some (.long (Int64.ofNat (n : Nat)) :: st)
  | .aconst_null => some (.null :: st)
  | .iadd => q_ii (fun x y => .int (x + y)) st
  | .isub => q_ii (fun x y => .int (x - y)) st
  | .imul => q_ii (fun x y => .int (x * y)) st
  | .iand => q_ii (fun x y => .int (x &&& y)) st
  | .ior => q_ii (fun x y => .int (x ||| y)) st
  | .ixor => q_ii (fun x y => .int (x ^^^ y)) st
  | .ishl => q_ii (fun x y => .int (x <<< (y &&& 31))) st
  | .ishr => q_ii (fun x y => .int (x >>> (y &&& 31))) st
  | .idiv => q_iz (fun x y => .int (x / y)) st
  | .irem => q_iz (fun x y => .int (x - x / y * y)) st
  | .i2l => q_i1 (fun x => .long x.toInt64) st
  | .l2i => q_l1 (fun x => .int x.toInt32) st
  | .ladd => q_ll (fun x y => .long (x + y)) st
  | .lmul => q_ll (fun x y => .long (x * y)) st
  | .land => q_ll (fun x y => .long (x &&& y)) st
  | .lor => q_ll (fun x y => .long (x ||| y)) st
  | .ldiv => q_lz (fun x y => .long (x / y)) st
  | .lrem => q_lz (fun x y => .long (x - x / y * y)) st
  | .lushr => q_li (fun x y => .long (x.toUInt64 >>> (y.toInt64.toUInt64 &&& Int64.toUInt64 63)).toInt64) st
  | .lshl => q_li (fun x y => .long (x <<< (y.toInt64 &&& 63))) st
  | .lshr => q_li (fun x y => .long (x >>> (y.toInt64 &&& 63))) st
  | .lcmp => q_ll (fun x y => .int (lg_cmp x y)) st
  | .dup => q_v1 (fun v st => v :: v :: st) st
  | .pop => q_v1 (fun _ st => st) st
  | .dup_x1 => q_v2 (fun v w st => v :: w :: v :: st) st
  | .dup2 => q_v2 (fun v w st => v :: w :: v :: w :: st) st
  | _ => none
def q_len (i : Instr) : Nat := match i with
  | .bipush _ => 2
  | .sipush _ => 3
  | .iload _ => 2
  | .lload _ => 2
  | .aload _ => 2
  | .istore _ => 2
  | .lstore _ => 2
  | .astore _ => 2
  | .iinc _ _ => 3
  | .goto _ => 3
  | .ifCond _ _ => 3
  | .if_icmp _ _ => 3
  | .if_acmp _ _ => 3
  | .ifnull _ => 3
  | .ifnonnull _ => 3
  | .getfield _ => 3
  | .putfield _ => 3
  | .getstatic _ => 3
  | .invokevirtual _ => 3
  | .invokespecial _ => 3
  | .invokestatic _ => 3
  | .new _ => 3
  | .anewarray _ => 3
  | .checkcast _ => 3
  | .newarray _ => 2
  | .ldc _ => 2
  | .ldc_w _ => 3
  | .ldc2_w _ => 3
  | _ => 1
def q_isSw (i : Instr) : Bool := match i with
  | .tableswitch _ _ _ _ => true
  | _ => false
/-- which local is loaded, and of which tag -/
def q_ldi (i : Instr) : Option (Nat × Nat) := match i with
  | .iload n => some (0, n)
  | .iload_n k => some (0, (k : Nat))
  | .lload n => some (1, n)
  | .lload_n k => some (1, (k : Nat))
  | .aload n => some (2, n)
  | .aload_n k => some (2, (k : Nat))
  | _ => none
def q_sti (i : Instr) : Option (Nat × Nat) := match i with
  | .istore n => some (0, n)
  | .istore_n k => some (0, (k : Nat))
  | .lstore n => some (1, n)
  | .lstore_n k => some (1, (k : Nat))
  | .astore n => some (2, n)
  | .astore_n k => some (2, (k : Nat))
  | _ => none
def q_tag (v : Value) : Nat := match v with
  | .int _ => 0
  | .long _ => 1
  | .ref _ => 2
  | .null => 2
  | .retAddr _ => 2
  | _ => 9
def q_cmp (c : ClassFile.Cond) (x y : Int32) : Bool := match c with
  | .eq => decide (x = y)
  | .ne => decide (¬ x = y)
  | .lt => decide (x < y)
  | .ge => decide (y ≤ x)
  | .gt => decide (y < x)
  | .le => decide (x ≤ y)
def q_same (v w : Value) : Option Bool := match v, w with
  | .null, .null => some true
  | .null, .ref _ => some false
  | .ref _, .null => some false
  | .ref a, .ref b => if (a = 1 ∨ 4 ≤ a) ∧ (b = 1 ∨ 4 ≤ b) then some (decide (a = b)) else none
  | .retAddr _, .retAddr _ => some true
  | _, _ => none
/-- branches: whether it goes by the offset, the offset, the stack behind -/
def q_br (i : Instr) (st : List Value) : Option (Bool × Int × List Value) := match i with
  | .goto o => some (true, o, st)
  | .ifCond c o => (match st with
    | .int x :: r => some (q_cmp c x 0, o, r)
    | _ => none)
  | .if_icmp c o => (match st with
    | .int y :: .int x :: r => some (q_cmp c x y, o, r)
    | _ => none)
  | .ifnull o => (match st with
    | .null :: r => some (true, o, r)
    | .ref _ :: r => some (false, o, r)
    | _ => none)
  | .ifnonnull o => (match st with
    | .null :: r => some (false, o, r)
    | .ref _ :: r => some (true, o, r)
    | _ => none)
  | .if_acmp c o => (match st with
    | w :: v :: r => (q_same v w).map (fun b => ((match c with
      | .eq => b
      | .ne => !b), o, r))
    | _ => none)
  | .tableswitch d lo hi offs => (match st with
    | .int x :: r => if x.toInt < lo ∨ hi < x.toInt then some (true, d, r) else (offs[(x.toInt - lo).toNat]?).map (fun o => (true, o, r))
    | _ => none)
  | _ => none
def q_jump (pc : Nat) (o : Int) : Option Nat := if 0 ≤ (pc : Int) + o then some ((pc : Int) + o).toNat else none
def q_lk (K : QK) (idx : Nat) : Option (Nat × Nat × Nat × Nat) := (K.find? (fun q => q.1 == idx)).map (·.2)
/-- the class's two arrays of constants -/
def q_ta : List Int32 := [5, 5, 3, 100, 3, 3, 5, 23, 23, 0, 23, 0, 23, 0, 3, 0, 0, 0, 5, 9, 5, 0, 0, 5]
def q_tb : List Int32 := [999, 5, 5, 0, 5, 5, 23, 0, 0, 0, 0, 0, 0, 0, 5, 0, 0, 0, 0, 23, 0, 0, 0, 0]
def q_idx (i : Int32) (n : Nat) : Option Nat := if i < 0 ∨ n ≤ i.toNatClampNeg then none else some i.toNatClampNeg
/-- an array's kind, by the instruction that reads or writes it -/
def q_akd (i : Instr) (k : Nat) : Bool := match i with
  | .iaload => k == 100
  | .iastore => k == 100
  | .laload => k == 101
  | .lastore => k == 101
  | .baload => k == 102
  | .bastore => k == 102
  | .aaload => decide (103 ≤ k)
  | _ => false
/-- reads of fields, arrays, lengths: the stack behind -/
def q_read (M : QM) (i : Instr) (st : List Value) (S : QS) : Option (List Value) := match i with
  | .getfield x => (match q_lk (qm_k M) x, st with
    | some (0, ci, k, _), .ref r :: rest => (match q_at S r with
      | some c => if c.1 = ci then some (q_rd c k :: rest) else none
      | none => none)
    | _, _ => none)
  | .arraylength => (match st with
    | .ref 1 :: rest => some (.int 0 :: rest)
    | .ref 2 :: rest => some (.int (Int32.ofNat 24) :: rest)
    | .ref 3 :: rest => some (.int (Int32.ofNat 24) :: rest)
    | .ref r :: rest => (match q_at S r with
      | some c => if 100 ≤ c.1 then some (.int (Int32.ofNat c.2.1) :: rest) else none
      | none => none)
    | _ => none)
  | .ldc x => (match q_lk (qm_k M) x with
    | some (7, n, _, _) => some (.int (Int32.ofNat n) :: st)
    | _ => none)
  | .ldc_w x => (match q_lk (qm_k M) x with
    | some (7, n, _, _) => some (.int (Int32.ofNat n) :: st)
    | _ => none)
  | .ldc2_w x => (match q_lk (qm_k M) x with
    | some (8, n, _, _) => some (.long (Int64.ofNat n) :: st)
    | _ => none)
  | .getstatic x => (match q_lk (qm_k M) x with
    | some (9, a, _, _) => some (.ref a :: st)
    | _ => none)
  | .iaload => (match st with
    | .int i :: .ref 2 :: rest => (q_idx i 24).map (fun j => .int (q_ta.getD j 0) :: rest)
    | .int i :: .ref 3 :: rest => (q_idx i 24).map (fun j => .int (q_tb.getD j 0) :: rest)
    | .int i :: .ref r :: rest => (match q_at S r with
      | some c => if q_akd .iaload c.1 then (q_idx i c.2.1).map (fun j => q_rd c j :: rest) else none
      | none => none)
    | _ => none)
  | i => (match st with
    | .int x :: .ref r :: rest => (match q_at S r with
      | some c => if q_akd i c.1 && (decide (i = .laload) || (decide (i = .baload) || decide (i = .aaload))) then (q_idx x c.2.1).map (fun j => q_rd c j :: rest) else none
      | none => none)
    | _ => none)
/-- reads of the script -/
def q_script (xs : Option (List Int32)) (i : Instr) (st : List Value) : Option (List Value) := match xs with
  | none => none
  | some l => (match i with
    | .arraylength => (match st with
      | .ref 0 :: rest => some (.int (Int32.ofNat l.length) :: rest)
      | _ => none)
    | .iaload => (match st with
      | .int i :: .ref 0 :: rest => (q_idx i l.length).map (fun j => .int (l.getD j 0) :: rest)
      | _ => none)
    | _ => none)
/-- writes and makings: the stack and the store behind -/
def q_write (M : QM) (i : Instr) (st : List Value) (S : QS) : Option (List Value × QS) := match i with
  | .putfield x => (match q_lk (qm_k M) x, st with
    | some (0, ci, k, fin), v :: .ref r :: rest => (match q_at S r with
      | some c => if c.1 = ci ∧ narrow (q_fty ci k) v = v ∧ fits (q_fty ci k) v = true ∧ (fin = 0 ∨ (fin = 1 ∧ (qm_i M) = true)) then some (rest, q_put S r (q_wr c k v)) else none
      | none => none)
    | _, _ => none)
  | .iastore => (match st with
    | .int x :: .int i :: .ref r :: rest => (match q_at S r with
      | some c => if c.1 = 100 then (q_idx i c.2.1).map (fun j => (rest, q_put S r (q_wr c j (.int x)))) else none
      | none => none)
    | _ => none)
  | .lastore => (match st with
    | .long x :: .int i :: .ref r :: rest => (match q_at S r with
      | some c => if c.1 = 101 then (q_idx i c.2.1).map (fun j => (rest, q_put S r (q_wr c j (.long x)))) else none
      | none => none)
    | _ => none)
  | .bastore => (match st with
    | .int x :: .int i :: .ref r :: rest => (match q_at S r with
      | some c => if c.1 = 102 then (q_idx i c.2.1).map (fun j => (rest, q_put S r (q_wr c j (narrow .boolean (.int x))))) else none
      | none => none)
    | _ => none)
  | .aastore => (match st with
    | .ref v :: .int i :: .ref r :: rest => (match q_at S r, q_at S v with
      | some c, some d => if (c.1 = 103 ∧ d.1 = 2) ∨ (c.1 = 104 ∧ d.1 = 4) ∨ (c.1 = 105 ∧ d.1 = 6) ∨ (c.1 = 106 ∧ d.1 = 11) ∨ (c.1 = 108 ∧ d.1 = 101) then (q_idx i c.2.1).map (fun j => (rest, q_put S r (q_wr c j (.ref v)))) else none
      | _, _ => none)
    | _ => none)
  | .new x => (match q_lk (qm_k M) x with
    | some (5, ci, n, _) => some (.ref (S.1.length + 4) :: st, q_new S (ci, n, []))
    | _ => none)
  | .newarray t => (match st with
    | .int n :: rest => if n < 0 ∨ 60000000 ≤ n.toNatClampNeg then none else (match t with
      | .int => some (.ref (S.1.length + 4) :: rest, q_new S (100, n.toNatClampNeg, []))
      | .long => some (.ref (S.1.length + 4) :: rest, q_new S (101, n.toNatClampNeg, []))
      | .boolean => some (.ref (S.1.length + 4) :: rest, q_new S (102, n.toNatClampNeg, []))
      | _ => none)
    | _ => none)
  | .anewarray x => (match q_lk (qm_k M) (x + 100000), st with
    | some (6, kd, _, _), .int n :: rest => if n < 0 ∨ 60000000 ≤ n.toNatClampNeg then none else some (.ref (S.1.length + 4) :: rest, q_new S (kd, n.toNatClampNeg, []))
    | _, _ => none)
  | _ => none
/-- the first n places of an array over another's -/
def q_cpy (cs cd : QC) (n : Nat) : QC := (List.range n).foldl (fun c j => q_wr c j (q_rd cs j)) cd
/-- the classes whose objects lie in Object[] -/
def q_obk (k : Nat) : Bool := k == 1 || (k == 6 || (k == 7 || (k == 8 || k == 10)))
/-- what Object[] takes -/
def q_oel (S : QS) (v : Value) : Bool := match v with
  | .null => true
  | .ref r => (match q_at S r with
    | some c => q_obk c.1
    | none => false)
  | _ => false
/-- casts, class objects, copies, and what Object[] takes -/
def q_more (M : QM) (i : Instr) (st : List Value) (S : QS) : Option (List Value × QS) := match i with
  | .checkcast x => (match q_lk (qm_k M) (x + 200000), st with
    | some (16, _, _, _), .null :: rest => some (.null :: rest, S)
    | some (16, kd, _, _), .ref r :: rest => (match q_at S r with
      | some c => if c.1 = kd then some (.ref r :: rest, S) else none
      | none => none)
    | _, _ => none)
  | .ldc x => (match q_lk (qm_k M) x with
    | some (18, _, _, _) => some (.retAddr 0 :: st, S)
    | _ => none)
  | .invokevirtual x => (match q_lk (qm_k M) x, st with
    | some (19, _, _, _), .ref r :: rest => (match q_at S r with
      | some c => if c.1 = 107 ∧ (rest.map fun v => v.category).sum ≤ 8 then some (.retAddr 0 :: rest, S) else none
      | none => none)
    | some (20, _, _, _), .ref r :: rest => (match q_at S r with
      | some c => if c.1 = 101 ∧ (rest.map fun v => v.category).sum ≤ 8 ∧ ((List.range c.2.1).all fun j => q_tag (q_rd c j) == 1) = true then some (.ref (S.1.length + 4) :: rest, q_new S c) else none
      | none => none)
    | _, _ => none)
  | .invokestatic x => (match q_lk (qm_k M) x, st with
    | some (21, _, _, _), .int n :: .int dp :: .ref d :: .int sp :: .ref b :: rest => (match q_at S d, q_at S b with
      | some cd, some cs => if cd.1 = 107 ∧ cs.1 = 107 ∧ sp = 0 ∧ dp = 0 ∧ (¬ n < 0 ∧ n.toNatClampNeg ≤ cd.2.1 ∧ n.toNatClampNeg ≤ cs.2.1) ∧ (rest.map fun v => v.category).sum ≤ 8 ∧ ((List.range n.toNatClampNeg).all fun j => q_oel S (q_rd cs j)) = true then some (rest, q_put S d (q_cpy cs cd n.toNatClampNeg)) else none
      | _, _ => none)
    | _, _ => none)
  | .aastore => (match st with
    | .null :: .int j :: .ref r :: rest => (match q_at S r with
      | some c => if 103 ≤ c.1 ∧ c.1 ≤ 108 then (q_idx j c.2.1).map (fun k => (rest, q_put S r (q_wr c k .null))) else none
      | none => none)
    | .ref v :: .int j :: .ref r :: rest => (match q_at S r with
      | some c => if c.1 = 107 ∧ q_oel S (.ref v) = true then (q_idx j c.2.1).map (fun k => (rest, q_put S r (q_wr c k (.ref v)))) else none
      | none => none)
    | _ => none)
  | _ => none
def q_inc (M : QM) (i : Instr) (L : QL) : Option QL := match i with
  | .iinc n k => (match q_lo L n with
    | some (.int x) => if n < (qm_l M) then some (q_s1 L n (.int (x + Int32.ofInt k))) else none
    | _ => none)
  | _ => none
/-- Object's own constructor -/
def q_oi (M : QM) (i : Instr) (st : List Value) : Option (List Value) := match i with
  | .invokespecial x => (match q_lk (qm_k M) x, st with
    | some (4, _, _, _), .ref _ :: rest => if (rest.map fun v => v.category).sum ≤ 8 then some rest else none
    | _, _ => none)
  | _ => none
/-- all that neither calls, nor returns, nor throws: where it goes on, with what -/
def q_step (M : QM) (xs : Option (List Int32)) (pc : Nat) (i : Instr) (L : QL) (st : List Value) (S : QS) : Option (Nat × QL × List Value × QS) :=
  match q_simple i st with
  | some st' => some (pc + q_len i, L, st', S)
  | none => match q_ldi i with
    | some (t, n) => (match q_lo L n with
      | some v => if q_tag v = t then some (pc + q_len i, L, v :: st, S) else none
      | none => none)
    | none => match q_sti i with
      | some (t, n) => (match st with
        | v :: rest => if q_tag v = t ∧ n + 1 < (qm_l M) + (if t = 1 then 0 else 1) then some (pc + q_len i, (if t = 1 then q_s2 L n v else q_s1 L n v), rest, S) else none
        | [] => none)
      | none => match q_br i st with
        | some (b, o, rest) => (q_jump pc o).map (fun t => ((if b = true then t else pc + q_len i), L, rest, S))
        | none => match q_inc M i L with
          | some L' => some (pc + 3, L', st, S)
          | none => match q_oi M i st with
            | some st' => some (pc + 3, L, st', S)
            | none => match q_read M i st S with
              | some st' => some (pc + q_len i, L, st', S)
              | none => match q_write M i st S with
                | some r => some (pc + q_len i, L, r.1, r.2)
                | none => match q_script xs i st with
                  | some st' => some (pc + 1, L, st', S)
                  | none => (q_more M i st S).map (fun r => (pc + q_len i, L, r.1, r.2))
/-- a call: which method, its arguments, the stack behind -/
def q_call (M : QM) (i : Instr) (st : List Value) (S : QS) : Option (Nat × List Value × List Value) := match i with
  | .invokevirtual x => (match q_lk (qm_k M) x with
    | some (1, mi, n, ci) => (match st.drop n with
      | .ref b :: rest => (match q_at S b with
        | some c => if c.1 = ci ∧ n ≤ st.length ∧ (rest.map fun v => v.category).sum ≤ 8 then some (mi, .ref b :: (st.take n).reverse, rest) else none
        | none => none)
      | _ => none)
    | _ => none)
  | .invokestatic x => (match q_lk (qm_k M) x with
    | some (2, mi, n, _) => if n ≤ st.length ∧ ((st.drop n).map fun v => v.category).sum ≤ 8 then some (mi, (st.take n).reverse, st.drop n) else none
    | _ => none)
  | .invokespecial x => (match q_lk (qm_k M) x with
    | some (3, mi, n, _) => (match st.drop n with
      | .ref b :: rest => if n ≤ st.length ∧ (rest.map fun v => v.category).sum ≤ 8 then some (mi, .ref b :: (st.take n).reverse, rest) else none
      | _ => none)
    | some (15, mi, n, _) => (match st.drop n with
      | .ref b :: rest => if n ≤ st.length ∧ (rest.map fun v => v.category).sum ≤ 8 then some (mi, .ref b :: (st.take n).reverse, rest) else none
      | _ => none)
    | _ => none)
  | _ => none
def q_ret (M : QM) (i : Instr) (st : List Value) : Option (Option Value) := match i, st with
  | .return_, [] => if (qm_r M) = none then some none else none
  | .ireturn, [.int x] => (match (qm_r M) with
    | some ty => if narrow ty (.int x) = .int x then some (some (.int x)) else none
    | none => none)
  | .lreturn, [.long x] => if (qm_r M) = some .long then some (some (.long x)) else none
  | .areturn, [v] => (match (qm_r M) with
    | some (.object _) => if q_tag v = 2 then some (some v) else none
    | some (.array _) => if q_tag v = 2 then some (some v) else none
    | _ => none)
  | _, _ => none
def q_code (M : QM) (pc : Nat) : Option Instr := ((qm_c M).find? (fun q => q.1 == pc)).map (·.2)
/-- 'throw new E(text)' begins here: which E -/
def q_thr (M : QM) (pc : Nat) (i : Instr) (st : List Value) : Option Nat := match i with
  | .new x => (match q_lk (qm_k M) x with
    | some (11, e, ic, _) => if (st.map fun v => v.category).sum ≤ 8 ∧ (qm_h M) = [] ∧ e < 3 ∧ q_code M (pc + 3) = some .dup then (match q_code M (pc + 4) with
      | some (.ldc z) => if q_lk (qm_k M) z = some (13, 0, 0, 0) ∧ q_code M (pc + 6) = some (.invokespecial ic) ∧ q_code M (pc + 9) = some .athrow then some e else none
      | some (.ldc_w z) => if q_lk (qm_k M) z = some (13, 0, 0, 0) ∧ q_code M (pc + 7) = some (.invokespecial ic) ∧ q_code M (pc + 10) = some .athrow then some e else none
      | _ => none) else none
    | _ => none)
  | _ => none
/-- whether a handler takes the exception e at pc -/
def q_hx (M : QM) (pc e : Nat) (h : Nat × Nat × Nat × Nat) : Bool := decide (h.1 ≤ pc) && (decide (pc < h.2.1) && (match q_lk (qm_k M) h.2.2.2 with
  | some (12, f, _, _) => f == e
  | _ => false))
/-- the handler of an exception: behind its astore -/
def q_hand (M : QM) (pc e : Nat) (L : QL) : Option (Nat × QL) := match (qm_h M).find? (q_hx M pc e) with
  | some h => (match q_code M h.2.2.1 with
    | some (.astore n) => if n < (qm_l M) then some (h.2.2.1 + 2, q_rm L n) else none
    | some (.astore_n k) => if (k : Nat) < (qm_l M) then some (h.2.2.1 + 1, q_rm L (k : Nat)) else none
    | _ => none)
  | none => none
def q_run (call : Nat → List Value → QS → Option (QO × QS)) (M : QM) (xs : Option (List Int32)) : Nat → Nat → QL → List Value → QS → Option (QO × QS)
  | 0, _, _, _, _ => none
  | n + 1, pc, L, st, S => match q_code M pc with
    | none => none
    | some i => match q_step M xs pc i L st S with
      | some (pc', L', st', S') => q_run call M xs n pc' L' st' S'
      | none => match q_call M i st S with
        | some (mi, as, rest) => (match call mi as S with
          | some (.inl v, S') => q_run call M xs n (pc + 3) L (v.toList ++ rest) S'
          | some (.inr e, S') => if (qm_h M) = [] then some (.inr e, S') else (match q_hand M pc e L with
            | some (pc', L') => q_run call M xs n pc' L' [] S'
            | none => none)
          | none => none)
        | none => match q_ret M i st with
          | some v => some (.inl v, S)
          | none => (q_thr M pc i st).map (fun e => (.inr e, (S.1 ++ [(99, 0, [])], S.2.1 + 1, S.2.2 + 6)))
/-- a call of a method of the table T, at most d deep, each of at most n steps -/
def q_pc (T : List QM) (xs : Option (List Int32)) (n : Nat) : Nat → Nat → List Value → QS → Option (QO × QS)
  | 0, _, _, _ => none
  | d + 1, mi, as, S => match T[mi]? with
    | none => none
    | some M => if (lg_sl as).length ≤ qm_l M then q_run (q_pc T xs n d) M xs n 0 (lv_args 0 as) [] S else none
end QI
