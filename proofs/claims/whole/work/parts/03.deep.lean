/-! the deep interpreter: what a method's bytecode does, over an abstract heap (addresses to entries) -/
abbrev dzE : Type := (Nat × (Nat → Int32)) ⊕ ((Nat × (Nat → Option Nat)) ⊕ ((Nat × List Value) ⊕ (Nat × (Nat → Int32))))
abbrev dzH : Type := Nat × (Nat → Option dzE)
abbrev dzR : Type := Option Value × dzH
abbrev dzKt : Type := Nat → dzL → List Value → Nat × Nat → dzH → Option dzR
abbrev dzCt : Type := Nat → List Value → dzH → Option dzR
/-- an int row, a row of references, an object (its class's number, its fields), the script -/
abbrev eI (n : Nat) (f : Nat → Int32) : dzE := .inl (n, f)
abbrev eA (n : Nat) (f : Nat → Option Nat) : dzE := .inr (.inl (n, f))
abbrev eO (c : Nat) (fs : List Value) : dzE := .inr (.inr (.inl (c, fs)))
abbrev eX (n : Nat) (f : Nat → Int32) : dzE := .inr (.inr (.inr (n, f)))
-- operations that the machine has in its own way
def k_ishl (x y : Int32) : Int32 := x <<< (y &&& 31)
def k_ishr (x y : Int32) : Int32 := x >>> (y &&& 31)
def k_iushr (x y : Int32) : Int32 := (x.toUInt32 >>> (y.toUInt32 &&& Int32.toUInt32 31)).toInt32
def k_irem (x y : Int32) : Int32 := x - x / y * y
def k_lshl (x : Int64) (y : Int32) : Int64 := x <<< (y.toInt64 &&& 63)
def k_lshr (x : Int64) (y : Int32) : Int64 := x >>> (y.toInt64 &&& 63)
def k_lushr (x : Int64) (y : Int32) : Int64 := (x.toUInt64 >>> (y.toInt64.toUInt64 &&& Int64.toUInt64 63)).toInt64
def k_lrem (x y : Int64) : Int64 := x - x / y * y
def k_lcmp (x y : Int64) : Int32 := lg_cmp x y
def k_max (x y : Int32) : Int32 := if x < y then y else x
-- fields
def dgV (h : dzH) (a ci k : Nat) : Option Value := match h.2 a with
  | some (.inr (.inr (.inl (c, fs)))) => if c = ci then fs[k]? else none
  | _ => none
def dgI (h : dzH) (a ci k : Nat) : Option Int32 := match dgV h a ci k with
  | some (.int x) => some x
  | _ => none
def dgJ (h : dzH) (a ci k : Nat) : Option Int64 := match dgV h a ci k with
  | some (.long x) => some x
  | _ => none
def dgA (h : dzH) (a ci k : Nat) : Option Nat := match dgV h a ci k with
  | some (.ref x) => some x
  | _ => none
def dpF (h : dzH) (a ci k : Nat) (v : Value) : Option dzH := match h.2 a with
  | some (.inr (.inr (.inl (c, fs)))) => if c = ci ∧ k < fs.length then some (h.1, va_up h.2 a (some (eO c (fs.set k v)))) else none
  | _ => none
-- rows
def drI (h : dzH) (a : Nat) (i : Int32) : Option Int32 := match h.2 a with
  | some (.inl (n, f)) => if ¬ (i < 0 ∨ n ≤ i.toNatClampNeg) then some (f i.toNatClampNeg) else none
  | some (.inr (.inr (.inr (n, f)))) => if ¬ (i < 0 ∨ n ≤ i.toNatClampNeg) then some (f i.toNatClampNeg) else none
  | _ => none
def dwI (h : dzH) (a : Nat) (i x : Int32) : Option dzH := match h.2 a with
  | some (.inl (n, f)) => if ¬ (i < 0 ∨ n ≤ i.toNatClampNeg) then some (h.1, va_up h.2 a (some (eI n (upd f i.toNatClampNeg x)))) else none
  | _ => none
def drA (h : dzH) (a : Nat) (i : Int32) : Option Nat := match h.2 a with
  | some (.inr (.inl (n, f))) => if ¬ (i < 0 ∨ n ≤ i.toNatClampNeg) then f i.toNatClampNeg else none
  | _ => none
def dln (h : dzH) (a : Nat) : Option Int32 := match h.2 a with
  | some (.inl (n, _)) => some (Int32.ofNat n)
  | some (.inr (.inl (n, _))) => some (Int32.ofNat n)
  | some (.inr (.inr (.inr (n, _)))) => some (Int32.ofNat n)
  | _ => none
def dcp (h : dzH) (a : Nat) (sp : Int32) (b : Nat) (dp n : Int32) : Option dzH := match h.2 a, h.2 b with
  | some (.inl (n0, f)), some (.inl (n1, g)) =>
    if ¬ sp < 0 ∧ ¬ dp < 0 ∧ ¬ n < 0 ∧ sp.toNatClampNeg + n.toNatClampNeg ≤ n0 ∧ dp.toNatClampNeg + n.toNatClampNeg ≤ n1 then
      some (h.1, va_up h.2 b (some (eI n1 (va_cpy f g sp.toNatClampNeg dp.toNatClampNeg n.toNatClampNeg)))) else none
  | _, _ => none
-- new cells
def dnO (h : dzH) (ci : Nat) : dzH := (h.1 + 1, va_up h.2 h.1 (some (eO ci (dzDef ci))))
def dnI (h : dzH) (n : Int32) : Option dzH := if ¬ n < 0 ∧ n.toNatClampNeg ≤ 100000 then some (h.1 + 1, va_up h.2 h.1 (some (eI n.toNatClampNeg (fun _ => 0)))) else none
def dnM (h : dzH) (n m : Int32) : Option dzH :=
  if ¬ n < 0 ∧ ¬ m < 0 ∧ n.toNatClampNeg ≤ 1000 ∧ m.toNatClampNeg ≤ 1000 then
    some (h.1 + 1 + n.toNatClampNeg, fun q => if q = h.1 then some (eA n.toNatClampNeg (fun i => some (h.1 + 1 + i))) else if h.1 < q ∧ q ≤ h.1 + n.toNatClampNeg then some (eI m.toNatClampNeg (fun _ => 0)) else h.2 q)
  else none
-- locals
def dzLI (L : dzL) (i : Nat) : Option Int32 := match dzFnd L i with
  | some (.int x) => some x
  | _ => none
def dzLJ (L : dzL) (i : Nat) : Option Int64 := match dzFnd L i with
  | some (.long x) => some x
  | _ => none
def dzLA (L : dzL) (i : Nat) : Option Nat := match dzFnd L i with
  | some (.ref x) => some x
  | _ => none
def dzIn (i : Nat) (v : Value) : dzL → dzL
  | [] => [(i, v)]
  | (j, w) :: r => match Nat.ble i j with
    | true => (i, v) :: (j, w) :: r
    | false => (j, w) :: dzIn i v r
def dzP1 (L : dzL) (i : Nat) (v : Value) : dzL := dzIn i v (L.filter (fun q => !(q.1 == i) && !(q.1 + 1 == i && q.2.category == 2)))
def dzP2 (L : dzL) (i : Nat) (v : Value) : dzL := dzIn i v (L.filter (fun q => !(q.1 == i) && (!(q.1 == i + 1) && !(q.1 + 1 == i && q.2.category == 2))))
def dzRs (ks : List Nat) (L : dzL) : dzL := L.filter (fun q => dzMem ks q.1)
-- answers
def dzRI (o : Option dzR) : Option (Int32 × dzH) := match o with
  | some (some (.int x), h) => some (x, h)
  | _ => none
def dzRJ (o : Option dzR) : Option (Int64 × dzH) := match o with
  | some (some (.long x), h) => some (x, h)
  | _ => none
def dzRA (o : Option dzR) : Option (Nat × dzH) := match o with
  | some (some (.ref x), h) => some (x, h)
  | _ => none
def dzRV (o : Option dzR) : Option dzH := match o with
  | some (none, h) => some h
  | _ => none
def dzB01 (x : Int32) : Option Int32 := if x = 0 then some 0 else if x = 1 then some 1 else none
-- the operand stack
def dz1I (S : List Value) (k : Int32 → List Value → Option dzR) : Option dzR := match S with
  | .int x :: r => k x r
  | _ => none
def dz1J (S : List Value) (k : Int64 → List Value → Option dzR) : Option dzR := match S with
  | .long x :: r => k x r
  | _ => none
def dz1A (S : List Value) (k : Nat → List Value → Option dzR) : Option dzR := match S with
  | .ref x :: r => k x r
  | _ => none
def dz2I (S : List Value) (k : Int32 → Int32 → List Value → Option dzR) : Option dzR := match S with
  | .int y :: .int x :: r => k x y r
  | _ => none
def dz2J (S : List Value) (k : Int64 → Int64 → List Value → Option dzR) : Option dzR := match S with
  | .long y :: .long x :: r => k x y r
  | _ => none
def dzJI (S : List Value) (k : Int64 → Int32 → List Value → Option dzR) : Option dzR := match S with
  | .int y :: .long x :: r => k x y r
  | _ => none
def dzAI (S : List Value) (k : Nat → Int32 → List Value → Option dzR) : Option dzR := match S with
  | .int y :: .ref x :: r => k x y r
  | _ => none
def dzAII (S : List Value) (k : Nat → Int32 → Int32 → List Value → Option dzR) : Option dzR := match S with
  | .int z :: .int y :: .ref x :: r => k x y z r
  | _ => none
def dzAV (S : List Value) (k : Nat → Value → List Value → Option dzR) : Option dzR := match S with
  | v :: .ref x :: r => k x v r
  | _ => none
def dzTk : Nat → List Value → List Value → Option (List Value × List Value)
  | 0, acc, S => some (acc, S)
  | _ + 1, _, [] => none
  | n + 1, acc, v :: S => dzTk n (v :: acc) S
def dzSw (x : Int32) (k : Nat → Option dzR) : List (Int32 × Nat) → Nat → Option dzR
  | [], d => k d
  | (c, t) :: r, d => if x = c then k t else dzSw x k r d
def dzPl (pl : List Nat) (k : Nat) : Nat := pl.getD k 0
/-- the value's kind: 1 int, 2 long, 3 reference -/
def dzKd (v : Value) : Nat := match v with
  | .int _ => 1
  | .long _ => 2
  | .ref _ => 3
  | _ => 0
/-- one instruction; K: what comes behind it; C: a call -/
def dz1 (mid : Nat) (K : dzKt) (C : dzCt) (nx : Nat) (L : dzL) (S : List Value) (u : Nat × Nat) (h : dzH) (i : dzIns) (v : Value) (sw : List (Int32 × Nat)) (pl : List Nat) : Option dzR :=
  match i with
  | .nop => K nx L (v :: S) u h
  | .iload j => (dzLI L j).bind fun x => K nx L (.int x :: S) u h
  | .lload j => (dzLJ L j).bind fun x => K nx L (.long x :: S) u h
  | .aload j => (dzLA L j).bind fun x => K nx L (.ref x :: S) u h
  | .istore j => dz1I S fun x r => K nx (dzP1 L j (.int x)) r u h
  | .lstore j => dz1J S fun x r => K nx (dzP2 L j (.long x)) r u h
  | .astore j => dz1A S fun x r => K nx (dzP1 L j (.ref x)) r u h
  | .iinc j _ => (dzLI L j).bind fun x => match v with
    | .int c => K nx (dzP1 L j (.int (x + c))) S u h
    | _ => none
  | .iadd => dz2I S fun x y r => K nx L (.int (x + y) :: r) u h
  | .isub => dz2I S fun x y r => K nx L (.int (x - y) :: r) u h
  | .imul => dz2I S fun x y r => K nx L (.int (x * y) :: r) u h
  | .iand => dz2I S fun x y r => K nx L (.int (x &&& y) :: r) u h
  | .ior => dz2I S fun x y r => K nx L (.int (x ||| y) :: r) u h
  | .ixor => dz2I S fun x y r => K nx L (.int (x ^^^ y) :: r) u h
  | .ishl => dz2I S fun x y r => K nx L (.int (k_ishl x y) :: r) u h
  | .ishr => dz2I S fun x y r => K nx L (.int (k_ishr x y) :: r) u h
  | .iushr => dz2I S fun x y r => K nx L (.int (k_iushr x y) :: r) u h
  | .idiv => dz2I S fun x y r => if y = 0 then none else K nx L (.int (x / y) :: r) u h
  | .irem => dz2I S fun x y r => if y = 0 then none else K nx L (.int (k_irem x y) :: r) u h
  | .fmul => dz2I S fun x y r => match Nat.ble (r.map fun v => v.category).sum 8 with
    | true => K nx L (.int (k_max x y) :: r) u h
    | false => none
  | .ineg => dz1I S fun x r => K nx L (.int (-x) :: r) u h
  | .ladd => dz2J S fun x y r => K nx L (.long (x + y) :: r) u h
  | .lsub => dz2J S fun x y r => K nx L (.long (x - y) :: r) u h
  | .lmul => dz2J S fun x y r => K nx L (.long (x * y) :: r) u h
  | .land => dz2J S fun x y r => K nx L (.long (x &&& y) :: r) u h
  | .lor => dz2J S fun x y r => K nx L (.long (x ||| y) :: r) u h
  | .lxor => dz2J S fun x y r => K nx L (.long (x ^^^ y) :: r) u h
  | .ldiv => dz2J S fun x y r => if y = 0 then none else K nx L (.long (x / y) :: r) u h
  | .lrem => dz2J S fun x y r => if y = 0 then none else K nx L (.long (k_lrem x y) :: r) u h
  | .lneg => dz1J S fun x r => K nx L (.long (-x) :: r) u h
  | .lshl => dzJI S fun x y r => K nx L (.long (k_lshl x y) :: r) u h
  | .lshr => dzJI S fun x y r => K nx L (.long (k_lshr x y) :: r) u h
  | .lushr => dzJI S fun x y r => K nx L (.long (k_lushr x y) :: r) u h
  | .lcmp => dz2J S fun x y r => K nx L (.int (k_lcmp x y) :: r) u h
  | .i2l => dz1I S fun x r => K nx L (.long x.toInt64 :: r) u h
  | .l2i => dz1J S fun x r => K nx L (.int x.toInt32 :: r) u h
  | .dup => match S with
    | .int x :: r => K nx L (.int x :: .int x :: r) u h
    | .ref x :: r => K nx L (.ref x :: .ref x :: r) u h
    | _ => none
  | .dup2 => match S with
    | .long x :: r => K nx L (.long x :: .long x :: r) u h
    | .int y :: .ref x :: r => K nx L (.int y :: .ref x :: .int y :: .ref x :: r) u h
    | _ => none
  | .pop => match S with
    | .int _ :: r => K nx L r u h
    | .ref _ :: r => K nx L r u h
    | _ => none
  | .ifCond .eq _ => dz1I S fun x r => if x = 0 then K (dzPl pl 0) L r u h else K nx L r u h
  | .ifCond .ne _ => dz1I S fun x r => if x = 0 then K nx L r u h else K (dzPl pl 0) L r u h
  | .ifCond .lt _ => dz1I S fun x r => if x < 0 then K (dzPl pl 0) L r u h else K nx L r u h
  | .ifCond .ge _ => dz1I S fun x r => if x < 0 then K nx L r u h else K (dzPl pl 0) L r u h
  | .ifCond .le _ => dz1I S fun x r => if x ≤ 0 then K (dzPl pl 0) L r u h else K nx L r u h
  | .ifCond .gt _ => dz1I S fun x r => if x ≤ 0 then K nx L r u h else K (dzPl pl 0) L r u h
  | .if_icmp .eq _ => dz2I S fun x y r => if x = y then K (dzPl pl 0) L r u h else K nx L r u h
  | .if_icmp .ne _ => dz2I S fun x y r => if x = y then K nx L r u h else K (dzPl pl 0) L r u h
  | .if_icmp .lt _ => dz2I S fun x y r => if x < y then K (dzPl pl 0) L r u h else K nx L r u h
  | .if_icmp .ge _ => dz2I S fun x y r => if x < y then K nx L r u h else K (dzPl pl 0) L r u h
  | .if_icmp .le _ => dz2I S fun x y r => if x ≤ y then K (dzPl pl 0) L r u h else K nx L r u h
  | .if_icmp .gt _ => dz2I S fun x y r => if x ≤ y then K nx L r u h else K (dzPl pl 0) L r u h
  | .goto _ => K (dzPl pl 0) L S u h
  | .lookupswitch _ _ => dz1I S fun x r => dzSw x (fun t => K t L r u h) sw (dzPl pl 0)
  | .iaload => dzAI S fun a j r => (drI h a j).bind fun x => K nx L (.int x :: r) u h
  | .aaload => dzAI S fun a j r => (drA h a j).bind fun x => K nx L (.ref x :: r) u h
  | .iastore => dzAII S fun a j x r => (dwI h a j x).bind fun h => K nx L r u h
  | .arraylength => dz1A S fun a r => (dln h a).bind fun x => K nx L (.int x :: r) u h
  | .getfield _ => dz1A S fun a r => match dzPl pl 2 with
    | 1 => (dgI h a (dzPl pl 0) (dzPl pl 1)).bind fun x => K nx L (.int x :: r) u h
    | 2 => (dgJ h a (dzPl pl 0) (dzPl pl 1)).bind fun x => K nx L (.long x :: r) u h
    | 3 => (dgA h a (dzPl pl 0) (dzPl pl 1)).bind fun x => K nx L (.ref x :: r) u h
    | _ => none
  | .putfield _ => dzAV S fun a v r => match Nat.beq (dzKd v) (dzPl pl 2) with
    | true => (dpF h a (dzPl pl 0) (dzPl pl 1) v).bind fun h => K nx L r u h
    | false => none
  | .swap => match S with
    | .int n :: .int dp :: .ref b :: .int sp :: .ref a :: r => match Nat.ble (r.map fun v => v.category).sum 8 with
      | true => (dcp h a sp b dp n).bind fun h => K nx L r u h
      | false => none
    | _ => none
  | .invokespecial _ => dz1A S fun _ r => match Nat.ble (r.map fun v => v.category).sum 8 with
    | true => K nx L r u h
    | false => none
  | .invokestatic _ => match dzTk (dzPl pl 1) [] S with
    | some (av, r) => match dzFit mid (dzPl pl 0) u && Nat.ble (r.map fun v => v.category).sum 8 with
      | true => match dzPl pl 2 with
        | 0 => (dzRV (C (dzPl pl 0) av h)).bind fun h => K nx L r (u.1 + dzMc (dzPl pl 0), u.2 + dzMs (dzPl pl 0)) h
        | 1 => (dzRI (C (dzPl pl 0) av h)).bind fun q => K nx L (.int q.1 :: r) (u.1 + dzMc (dzPl pl 0), u.2 + dzMs (dzPl pl 0)) q.2
        | 2 => (dzRJ (C (dzPl pl 0) av h)).bind fun q => K nx L (.long q.1 :: r) (u.1 + dzMc (dzPl pl 0), u.2 + dzMs (dzPl pl 0)) q.2
        | 3 => (dzRA (C (dzPl pl 0) av h)).bind fun q => K nx L (.ref q.1 :: r) (u.1 + dzMc (dzPl pl 0), u.2 + dzMs (dzPl pl 0)) q.2
        | _ => none
      | false => none
    | none => none
  | .new _ => match Nat.ble (u.1 + 1) (dzMc mid) && Nat.ble (u.2 + dzPl pl 1) (dzMs mid) with
    | true => K nx L (.ref h.1 :: S) (u.1 + 1, u.2 + dzPl pl 1) (dnO h (dzPl pl 0))
    | false => none
  | .newarray _ => dz1I S fun n r => match Nat.ble (u.1 + 1) (dzMc mid) && Nat.ble (u.2 + n.toNatClampNeg) (dzMs mid) with
    | true => (dnI h n).bind fun h1 => K nx L (.ref h.1 :: r) (u.1 + 1, u.2 + n.toNatClampNeg) h1
    | false => none
  | .multianewarray _ _ => dz2I S fun n m r => match Nat.ble (u.1 + (1 + n.toNatClampNeg)) (dzMc mid) && Nat.ble (u.2 + (n.toNatClampNeg + n.toNatClampNeg * m.toNatClampNeg)) (dzMs mid) with
    | true => (dnM h n m).bind fun h1 => K nx L (.ref h.1 :: r) (u.1 + (1 + n.toNatClampNeg), u.2 + (n.toNatClampNeg + n.toNatClampNeg * m.toNatClampNeg)) h1
    | false => none
  | .ireturn => match S with
    | [.int x] => match dzPl pl 0 with
      | 0 => some (some (.int x), h)
      | _ => (dzB01 x).bind fun y => some (some (.int y), h)
    | _ => none
  | .lreturn => match S with
    | [.long x] => some (some (.long x), h)
    | _ => none
  | .areturn => match S with
    | [.ref x] => some (some (.ref x), h)
    | _ => none
  | .return_ => match S with
    | [] => some (none, h)
    | _ => none
  | _ => none
def dzS (mid : Nat) (K : dzKt) (C : dzCt) : dzKt := fun pc L S u h => match dzFnd (dzOps mid) pc with
  | some (nx, i, v, sw, pl) => dz1 mid K C nx L S u h i v sw pl
  | none => none
/-- a call's start: an instance method's receiver is an object of its class -/
def dzGo (k : dzKt) (c : Nat) (av : List Value) (h : dzH) : Option dzR := match Nat.ble (lg_sl av).length (dzMx c) with
  | true => match dzRcv c with
    | none => k 0 (lv_args 0 av) [] (0, 0) h
    | some ci => match av with
      | .ref a :: _ => match h.2 a with
        | some (.inr (.inr (.inl (c', _)))) => if c' = ci then k 0 (lv_args 0 av) [] (0, 0) h else none
        | _ => none
      | _ => none
  | false => none
/-- where a jump arrives only the locals that all roads set are kept -/
def dzJ (mid : Nat) (k : dzKt) : dzKt := fun pc L S u h => match dzFnd (dzHd mid) pc with
  | some ks => k pc (dzRs ks L) S u h
  | none => k pc L S u h
def dzRun : Nat → Nat → dzKt
  | 0, _ => fun _ _ _ _ _ => none
  | n + 1, mid => fun pc L S u h => dzS mid (dzJ mid (dzRun n mid)) (fun c => dzGo (dzRun n c) c) pc L S u h
