/-! each row of the tables against the bytes: decided by the kernel, method by method -/
def dzQ2 (l : List (Nat × Nat)) (a b : Nat) : Bool := l.any (fun q => Nat.beq q.1 a && Nat.beq q.2 b)
def dzQ3 (l : List (Nat × Nat × Nat)) (a b c : Nat) : Bool := l.any (fun q => Nat.beq q.1 a && Nat.beq q.2.1 b && Nat.beq q.2.2 c)
def dzQ4 (l : List (Nat × Nat × Nat × Nat)) (a b c d : Nat) : Bool := l.any (fun q => Nat.beq q.1 a && Nat.beq q.2.1 b && Nat.beq q.2.2.1 c && Nat.beq q.2.2.2 d)
def dzQk (l : List (Nat × Nat × Value)) (a b : Nat) (v : Value) : Bool := l.any (fun q => Nat.beq q.1 a && Nat.beq q.2.1 b && decide (q.2.2 = v))
/-- a field's kind by its type -/
def dzTk0 (t : FieldType) : Nat := match t with
  | .int => 1
  | .long => 2
  | .object _ => 3
  | .array _ => 3
  | _ => 0
def dzSwOk (pc : Nat) : Int → List Int → List (Int32 × Nat) → Bool
  | _, [], [] => true
  | lo, o :: os, (c, t) :: r => decide (c.toInt = lo) && decide ((pc : Int) + o = (t : Int)) && dzSwOk pc (lo + 1) os r
  | _, _, _ => false
/-- number of parameters by the descriptor -/
def dzPn (mid : Nat) : Option Nat := (parseMethodDescriptor (dzY mid).desc).map (fun d => d.parameters.length)
def dzRk (mid : Nat) : Nat := match dzRt mid with
  | none => 0
  | some .int => 1
  | some .boolean => 1
  | some .long => 2
  | some (.object _) => 3
  | some (.array _) => 3
  | _ => 9
/-- does the row (i, v, sw, pl) say what the instruction ins at pc of the method mid does? -/
def dzMt (mid pc : Nat) (ins i : dzIns) (v : Value) (sw : List (Int32 × Nat)) (pl : List Nat) : Bool := match ins with
  | .iconst n => decide (i = .nop) && decide (v = .int (Int32.ofInt n))
  | .bipush n => decide (i = .nop) && decide (v = .int (Int8.ofInt n).toInt32)
  | .sipush n => decide (i = .nop) && decide (v = .int (Int16.ofInt n).toInt32)
  | .lconst n => decide (i = .nop) && decide (v = .long (Int64.ofNat n.val))
  | .ldc k => decide (i = .nop) && decide (dzKd v = 1) && dzQk zl_k (dzOc mid) k v
  | .ldc2_w k => decide (i = .nop) && decide (dzKd v = 2) && dzQk zl_k (dzOc mid) k v
  | .iload_n k => decide (i = .iload k.val)
  | .iload k => decide (i = .iload k)
  | .lload_n k => decide (i = .lload k.val)
  | .lload k => decide (i = .lload k)
  | .aload_n k => decide (i = .aload k.val)
  | .aload k => decide (i = .aload k)
  | .istore_n k => decide (i = .istore k.val) && Nat.blt k.val (dzMx mid)
  | .istore k => decide (i = .istore k) && Nat.blt k (dzMx mid)
  | .lstore_n k => decide (i = .lstore k.val) && Nat.blt (k.val + 1) (dzMx mid)
  | .lstore k => decide (i = .lstore k) && Nat.blt (k + 1) (dzMx mid)
  | .astore_n k => decide (i = .astore k.val) && Nat.blt k.val (dzMx mid)
  | .astore k => decide (i = .astore k) && Nat.blt k (dzMx mid)
  | .iinc k n => decide (i = .iinc k 0) && decide (v = .int (Int32.ofInt n)) && Nat.blt k (dzMx mid)
  | .iadd => decide (i = .iadd)
  | .isub => decide (i = .isub)
  | .imul => decide (i = .imul)
  | .iand => decide (i = .iand)
  | .ior => decide (i = .ior)
  | .ixor => decide (i = .ixor)
  | .ishl => decide (i = .ishl)
  | .ishr => decide (i = .ishr)
  | .iushr => decide (i = .iushr)
  | .idiv => decide (i = .idiv)
  | .irem => decide (i = .irem)
  | .ineg => decide (i = .ineg)
  | .ladd => decide (i = .ladd)
  | .lsub => decide (i = .lsub)
  | .lmul => decide (i = .lmul)
  | .land => decide (i = .land)
  | .lor => decide (i = .lor)
  | .lxor => decide (i = .lxor)
  | .ldiv => decide (i = .ldiv)
  | .lrem => decide (i = .lrem)
  | .lneg => decide (i = .lneg)
  | .lshl => decide (i = .lshl)
  | .lshr => decide (i = .lshr)
  | .lushr => decide (i = .lushr)
  | .lcmp => decide (i = .lcmp)
  | .i2l => decide (i = .i2l)
  | .l2i => decide (i = .l2i)
  | .dup => decide (i = .dup)
  | .dup2 => decide (i = .dup2)
  | .pop => decide (i = .pop)
  | .ifCond c off => decide (i = .ifCond c 0) && decide ((pc : Int) + off = (dzPl pl 0 : Int))
  | .if_icmp c off => decide (i = .if_icmp c 0) && decide ((pc : Int) + off = (dzPl pl 0 : Int))
  | .goto off => decide (i = .goto 0) && decide ((pc : Int) + off = (dzPl pl 0 : Int))
  | .tableswitch d lo hi offs => decide (i = .lookupswitch 0 #[]) && decide ((pc : Int) + d = (dzPl pl 0 : Int)) && decide (hi = lo + offs.toList.length - 1) && dzSwOk pc lo offs.toList sw
  | .iaload => decide (i = .iaload)
  | .aaload => decide (i = .aaload)
  | .iastore => decide (i = .iastore)
  | .arraylength => decide (i = .arraylength)
  | .getfield k => decide (i = .getfield 0) && dzQ4 zl_f (dzOc mid) k (dzPl pl 0) (dzPl pl 1)
  | .putfield k => decide (i = .putfield 0) && dzQ4 zl_f (dzOc mid) k (dzPl pl 0) (dzPl pl 1) && decide (dzTk0 (zTy (dzPl pl 0) (dzPl pl 1)) = dzPl pl 2) && (match zCl[dzPl pl 0]? with
      | some (_, T, _) => !(T (dzPl pl 1)).2.2.2 || (decide ((dzY mid).name = "<init>") && Nat.beq (dzPl pl 0) (dzOc mid))
      | none => false)
  | .invokestatic k => (decide (i = .swap) && dzQ2 zl_a (dzOc mid) k && Nat.ble 1 (dzFr mid) && Nat.ble 40 (dzLo mid)) || (decide (i = .fmul) && dzQ2 zl_x (dzOc mid) k && Nat.ble 1 (dzFr mid) && Nat.ble 24 (dzLo mid)) || (decide (i = .invokestatic 0) && (dzQ3 zl_c (dzOc mid) k (dzPl pl 0) || dzQ3 zl_n (dzOc mid) k (dzPl pl 0)) && Nat.beq (dzKn0 (dzPl pl 0)) 0 && decide (dzPn (dzPl pl 0) = some (dzPl pl 1)) && Nat.beq (dzRk (dzPl pl 0)) (dzPl pl 2))
  | .invokevirtual k => decide (i = .invokestatic 0) && (dzQ3 zl_c (dzOc mid) k (dzPl pl 0)) && Nat.beq (dzKn0 (dzPl pl 0)) 1 && decide ((dzPn (dzPl pl 0)).map (· + 1) = some (dzPl pl 1)) && Nat.beq (dzRk (dzPl pl 0)) (dzPl pl 2)
  | .invokespecial k => (decide (i = .invokespecial 0) && dzQ2 zl_i (dzOc mid) k && Nat.ble 1 (dzFr mid) && Nat.ble 24 (dzLo mid)) || (decide (i = .invokestatic 0) && (dzQ3 zl_c (dzOc mid) k (dzPl pl 0) || dzQ3 zl_n (dzOc mid) k (dzPl pl 0)) && Nat.beq (dzKn0 (dzPl pl 0)) 2 && decide ((dzPn (dzPl pl 0)).map (· + 1) = some (dzPl pl 1)) && Nat.beq (dzRk (dzPl pl 0)) (dzPl pl 2) && decide (dzRt (dzPl pl 0) = none))
  | .new k => decide (i = .new 0) && dzQ3 zl_o (dzOc mid) k (dzPl pl 0) && (match zCl[dzPl pl 0]? with
      | some (_, _, N) => Nat.beq N (dzPl pl 1)
      | none => false)
  | .newarray t => decide (i = .newarray .int) && decide (t = .int)
  | .multianewarray k d => decide (i = .multianewarray 0 0) && Nat.beq d 2 && dzQ2 zl_m (dzOc mid) k
  | .ireturn => decide (i = .ireturn) && ((decide (dzRt mid = some .int) && Nat.beq (dzPl pl 0) 0) || (decide (dzRt mid = some .boolean) && Nat.beq (dzPl pl 0) 1))
  | .lreturn => decide (i = .lreturn) && decide (dzRt mid = some .long)
  | .areturn => decide (i = .areturn) && decide (dzRk mid = 3)
  | .return_ => decide (i = .return_) && decide (dzRt mid = none)
  | _ => false
/-- an instruction's length -/
def dzLn (i : dzIns) (len : Nat) : Bool := match i with
  | .tableswitch _ _ _ _ => true
  | .bipush _ => Nat.beq len 2
  | .sipush _ => Nat.beq len 3
  | .ldc _ => Nat.beq len 2
  | .ldc2_w _ => Nat.beq len 3
  | .iload _ => Nat.beq len 2
  | .lload _ => Nat.beq len 2
  | .aload _ => Nat.beq len 2
  | .istore _ => Nat.beq len 2
  | .lstore _ => Nat.beq len 2
  | .astore _ => Nat.beq len 2
  | .iinc _ _ => Nat.beq len 3
  | .ifCond _ _ => Nat.beq len 3
  | .if_icmp _ _ => Nat.beq len 3
  | .goto _ => Nat.beq len 3
  | .getfield _ => Nat.beq len 3
  | .putfield _ => Nat.beq len 3
  | .invokestatic _ => Nat.beq len 3
  | .invokevirtual _ => Nat.beq len 3
  | .invokespecial _ => Nat.beq len 3
  | .new _ => Nat.beq len 3
  | .newarray _ => Nat.beq len 2
  | .multianewarray _ _ => Nat.beq len 4
  | _ => Nat.beq len 1
def dzCk (mid : Nat) (x : Nat × Nat × dzOp) : Bool := match decode (dzBy mid) x.1 with
  | .ok (ins, len) => Nat.beq x.2.1 (x.1 + len) && dzLn ins len && dzMt mid x.1 ins x.2.2.1 x.2.2.2.1 x.2.2.2.2.1 x.2.2.2.2.2
  | .error _ => false
