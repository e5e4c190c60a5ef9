/-! ===== the abstract machine: values, memory, one step, a run ===== -/
abbrev zV : Type := Int ⊕ (Int ⊕ Option Nat)
abbrev zI (z : Int) : zV := Sum.inl z
abbrev zL (z : Int) : zV := Sum.inr (Sum.inl z)
abbrev zR (a : Nat) : zV := Sum.inr (Sum.inr (some a))
abbrev zN : zV := Sum.inr (Sum.inr none)
def zcat (v : zV) : Nat := match v with
  | .inr (.inl _) => 2
  | _ => 1
abbrev zLs : Type := List (Nat × zV)
abbrev zFr : Type := Nat × zLs × List zV
abbrev zSh : Type := Nat → Nat × Nat
abbrev zDa : Type := Nat → Nat → Int
abbrev zM : Type := zSh × zDa × Nat × Nat
def zw (x : Int) : Int := (Int32.ofInt x).toInt
def zwl (x : Int) : Int := (Int64.ofInt x).toInt
def zop (f : Int32 → Int32 → Int32) (a b : Int) : Int := (f (Int32.ofInt a) (Int32.ofInt b)).toInt
def zopl (f : Int64 → Int64 → Int64) (a b : Int) : Int := (f (Int64.ofInt a) (Int64.ofInt b)).toInt
def zopls (f : Int64 → Int32 → Int64) (a b : Int) : Int := (f (Int64.ofInt a) (Int32.ofInt b)).toInt
def zok (z : Int) : Bool := decide (-2147483648 ≤ z) && decide (z ≤ 2147483647)
def zokl (z : Int) : Bool := decide (-9223372036854775808 ≤ z) && decide (z ≤ 9223372036854775807)
def zget (ls : zLs) (i : Nat) : Option zV := match ls with
  | [] => none
  | (j, w) :: r => if j = i then some w else zget r i
def zst1 (ls : zLs) (i : Nat) (v : zV) : zLs := (i, v) :: ls.filter (fun q => !(q.1 == i) && !(q.1 + 1 == i && zcat q.2 == 2))
def zst2 (ls : zLs) (i : Nat) (v : zV) : zLs := (i, v) :: ls.filter (fun q => !(q.1 == i) && (!(q.1 == i + 1) && !(q.1 + 1 == i && zcat q.2 == 2)))
def zcc (c : ClassFile.Cond) (a b : Int) : Bool := match c with
  | .eq => decide (a = b)
  | .ne => !decide (a = b)
  | .lt => decide (a < b)
  | .ge => decide (b ≤ a)
  | .gt => decide (b < a)
  | .le => decide (a ≤ b)
def zbin (i : Instr) : Option (Int32 → Int32 → Int32) := match i with
  | .iadd => some (fun x y => x + y)
  | .isub => some (fun x y => x - y)
  | .imul => some (fun x y => x * y)
  | .iand => some (fun x y => x &&& y)
  | .ior => some (fun x y => x ||| y)
  | .ixor => some (fun x y => x ^^^ y)
  | .ishl => some (fun x y => x <<< (y &&& 31))
  | .ishr => some (fun x y => x >>> (y &&& 31))
  | .iushr => some (fun x y => (x.toUInt32 >>> (y.toUInt32 &&& Int32.toUInt32 31)).toInt32)
  | _ => none
def zbinl (i : Instr) : Option (Int64 → Int64 → Int64) := match i with
  | .ladd => some (fun x y => x + y)
  | .lsub => some (fun x y => x - y)
  | .lmul => some (fun x y => x * y)
  | .land => some (fun x y => x &&& y)
  | .lor => some (fun x y => x ||| y)
  | _ => none
/-- constants that an instruction puts on the stack -/
def zcon (i : Instr) : Option zV := match i with
  | .iconst n => if zok n then some (zI n) else none
  | .bipush n => if -128 ≤ n ∧ n ≤ 127 then some (zI n) else none
  | .sipush n => if -32768 ≤ n ∧ n ≤ 32767 then some (zI n) else none
  | .lconst n => some (zL (n : Nat))
  | .aconst_null => some zN
  | _ => none
/-- a load: the local's number and its kind (0 int, 1 long, 2 reference) -/
def zld (i : Instr) : Option (Nat × Nat) := match i with
  | .iload k => some (k, 0)
  | .iload_n k => some (k, 0)
  | .lload k => some (k, 1)
  | .lload_n k => some (k, 1)
  | .aload k => some (k, 2)
  | .aload_n k => some (k, 2)
  | _ => none
def zsto (i : Instr) : Option (Nat × Nat) := match i with
  | .istore k => some (k, 0)
  | .istore_n k => some (k, 0)
  | .lstore k => some (k, 1)
  | .lstore_n k => some (k, 1)
  | .astore k => some (k, 2)
  | .astore_n k => some (k, 2)
  | _ => none
def zkind (v : zV) : Nat := match v with
  | .inl _ => 0
  | .inr (.inl _) => 1
  | .inr (.inr _) => 2
/-- conversions and other work on the top of the stack, and the ways of shuffling it -/
def ztop (i : Instr) (st : List zV) : Option (List zV) := match i with
  | .ineg => match st with
    | .inl a :: r => some (zI (zw (-a)) :: r)
    | _ => none
  | .i2l => match st with
    | .inl a :: r => some (zL a :: r)
    | _ => none
  | .l2i => match st with
    | .inr (.inl a) :: r => some (zI (zw a) :: r)
    | _ => none
  | .i2b => match st with
    | .inl a :: r => some (zI ((Int32.ofInt a).toInt8.toInt32).toInt :: r)
    | _ => none
  | .i2c => match st with
    | .inl a :: r => some (zI (((Int32.ofInt a).toUInt32 % 65536).toInt32).toInt :: r)
    | _ => none
  | .lcmp => match st with
    | .inr (.inl b) :: .inr (.inl a) :: r => some (zI (if a < b then -1 else if a = b then 0 else 1) :: r)
    | _ => none
  | .idiv => match st with
    | .inl b :: .inl a :: r => if b = 0 then none else some (zI (zop (fun x y => x / y) a b) :: r)
    | _ => none
  | .irem => match st with
    | .inl b :: .inl a :: r => if b = 0 then none else some (zI (zop (fun x y => x - x / y * y) a b) :: r)
    | _ => none
  | .ldiv => match st with
    | .inr (.inl b) :: .inr (.inl a) :: r => if b = 0 then none else some (zL (zopl (fun x y => x / y) a b) :: r)
    | _ => none
  | .lrem => match st with
    | .inr (.inl b) :: .inr (.inl a) :: r => if b = 0 then none else some (zL (zopl (fun x y => x - x / y * y) a b) :: r)
    | _ => none
  | .lshl => match st with
    | .inl b :: .inr (.inl a) :: r => some (zL (zopls (fun x y => x <<< (y.toInt64 &&& 63)) a b) :: r)
    | _ => none
  | .lushr => match st with
    | .inl b :: .inr (.inl a) :: r => some (zL (zopls (fun x y => (x.toUInt64 >>> (y.toInt64.toUInt64 &&& Int64.toUInt64 63)).toInt64) a b) :: r)
    | _ => none
  | .dup => match st with
    | v :: r => if zcat v = 1 then some (v :: v :: r) else none
    | _ => none
  | .pop => match st with
    | v :: r => if zcat v = 1 then some r else none
    | _ => none
  | .dup2 => match st with
    | .inr (.inl a) :: r => some (zL a :: zL a :: r)
    | v :: u :: r => if zcat v = 1 ∧ zcat u = 1 then some (v :: u :: v :: u :: r) else none
    | _ => none
  | _ => none
/-- instructions that touch no memory and go on to the next one: new locals, new stack -/
def zpure (mL : Nat) (i : Instr) (ls : zLs) (st : List zV) : Option (zLs × List zV) := match zbin i with
  | some f => match st with
    | .inl b :: .inl a :: r => some (ls, zI (zop f a b) :: r)
    | _ => none
  | none => match zbinl i with
    | some f => match st with
      | .inr (.inl b) :: .inr (.inl a) :: r => some (ls, zL (zopl f a b) :: r)
      | _ => none
    | none => match zcon i with
      | some v => some (ls, v :: st)
      | none => match zld i with
        | some (k, t) => match zget ls k with
          | some v => if zkind v = t then some (ls, v :: st) else none
          | none => none
        | none => match zsto i with
          | some (k, t) => match st with
            | v :: r => if zkind v = t then (if zcat v = 2 then (if k + 1 < mL then some (zst2 ls k v, r) else none) else (if k < mL then some (zst1 ls k v, r) else none)) else none
            | _ => none
          | none => match i with
            | .iinc k n => match zget ls k with
              | some (.inl z) => if k < mL then some (zst1 ls k (zI (zw (z + n))), st) else none
              | _ => none
            | _ => match ztop i st with
              | some r => some (ls, r)
              | none => none
def zro (a : Nat) : Bool := decide (1000000 ≤ a) && decide (a < 1000010)
def zdec (t : FieldType) (z : Int) : zV := match t with
  | .long => zL z
  | .object _ => if z < 0 then zN else zR z.toNat
  | .array _ => if z < 0 then zN else zR z.toNat
  | _ => zI z
def zenc (t : FieldType) (v : zV) : Option Int := match t with
  | .int => match v with
    | .inl z => some z
    | _ => none
  | .boolean => match v with
    | .inl z => if z = 0 ∨ z = 1 then some z else none
    | _ => none
  | .byte => match v with
    | .inl z => if -128 ≤ z ∧ z ≤ 127 then some z else none
    | _ => none
  | .char => match v with
    | .inl z => if 0 ≤ z ∧ z ≤ 65535 then some z else none
    | _ => none
  | .long => match v with
    | .inr (.inl z) => some z
    | _ => none
  | .object _ => match v with
    | .inr (.inr none) => some (-1)
    | .inr (.inr (some a)) => some a
    | _ => none
  | .array _ => match v with
    | .inr (.inr none) => some (-1)
    | .inr (.inr (some a)) => some a
    | _ => none
  | _ => none
def zset (r : Nat → Int) (k : Nat) (v : Int) : Nat → Int := fun k' => if k' = k then v else r k'
def zrow (D : zDa) (a : Nat) (r : Nat → Int) : zDa := fun a' => if a' = a then r else D a'
def zwr (D : zDa) (a k : Nat) (v : Int) : zDa := zrow D a (zset (D a) k v)
def zcpy (f g : Nat → Int) (sp dp n : Nat) : Nat → Int := fun k => if dp ≤ k ∧ k < dp + n then f (sp + (k - dp)) else g k
def znew (sh : zSh) (n : Nat) (q : Nat × Nat) : zSh := fun a => if a = n then q else sh a
def zkd (t : ArrayType) : Nat := match t with
  | .int => 20
  | .long => 21
  | .byte => 22
  | .boolean => 23
  | _ => 99
/-- the component's type of an array's kind -/
def zat (k : Nat) : FieldType := match k with
  | 20 => .int
  | 21 => .long
  | 22 => .byte
  | 23 => .boolean
  | 24 => .object "ExamSlips$State"
  | _ => .object "ExamSlips$Paper"
/-- the class whose objects an array of references holds -/
def zac (k : Nat) : Nat := match k with
  | 24 => 9
  | _ => 3
def zix (i : Int) (len : Nat) : Bool := decide (0 ≤ i) && decide (i < len)
/-- an array's load: does the kind fit the instruction? -/
def zald (i : Instr) (k : Nat) : Bool := match i with
  | .iaload => k == 20
  | .laload => k == 21
  | .baload => k == 22 || k == 23
  | .aaload => k == 24 || k == 25
  | _ => false
def zast (i : Instr) (k : Nat) : Bool := match i with
  | .iastore => k == 20
  | .lastore => k == 21
  | .bastore => k == 22 || k == 23
  | .aastore => k == 24 || k == 25
  | _ => false
/-- may this value be put into an array of references of that kind? -/
def zaok (sh : zSh) (n : Nat) (k : Nat) (v : zV) : Bool := match v with
  | .inr (.inr (some b)) => decide (b < n) && (sh b).1 == zac k
  | _ => true
def zargs (k : Nat) (vs : List zV) : zLs := match vs with
  | [] => []
  | v :: r => (k, v) :: zargs (k + zcat v) r
def zpop (k : Nat) (st : List zV) : Option (List zV × List zV) := match k with
  | 0 => some ([], st)
  | k + 1 => match st with
    | [] => none
    | v :: r => match zpop k r with
      | none => none
      | some (as, q) => some (as ++ [v], q)
abbrev zOut : Type := (zFr × zM) ⊕ ((Nat × List zV × zFr) ⊕ Option zV)
def zgo (f : zFr) (M : zM) : Option zOut := some (.inl (f, M))
/-- what touches the memory -/
def zheap (y : Nat) (i : Instr) (q : Nat) (ls : zLs) (st : List zV) (M : zM) : Option zOut := match M with
  | (sh, D, n, sl) => match i with
    | .getfield ix => match zfl (zown y) ix with
      | some (c, k) => match st with
        | .inr (.inr (some a)) :: r => if (a < n ∨ zro a = true) ∧ (sh a).1 = c then zgo (q, ls, zdec (zft c k) (D a k) :: r) M else none
        | _ => none
      | none => none
    | .putfield ix => match zfl (zown y) ix with
      | some (c, k) => match st with
        | v :: .inr (.inr (some a)) :: r => match zenc (zft c k) v with
          | some z => if a < n ∧ (sh a).1 = c ∧ (zfin c k = false ∨ (zinit y = true ∧ zown y = c)) then zgo (q, ls, r) (sh, zwr D a k z, n, sl) else none
          | none => none
        | _ => none
      | none => none
    | .getstatic ix => match zstat (zown y) ix with
      | some v => zgo (q, ls, v :: st) M
      | none => none
    | .ldc ix => match zldc (zown y) ix with
      | some v => zgo (q, ls, v :: st) M
      | none => none
    | .ldc_w ix => match zldc (zown y) ix with
      | some v => zgo (q, ls, v :: st) M
      | none => none
    | .ldc2_w ix => match zldc (zown y) ix with
      | some v => zgo (q, ls, v :: st) M
      | none => none
    | .arraylength => match st with
      | .inr (.inr (some a)) :: r => if (a < n ∨ zro a = true) ∧ 20 ≤ (sh a).1 ∧ (sh a).1 ≤ 25 then zgo (q, ls, zI (sh a).2 :: r) M else none
      | _ => none
    | .newarray t => match st with
      | .inl z :: r => if 0 ≤ z ∧ z ≤ 1000000 ∧ n < 900000 ∧ zkd t ≤ 23 then zgo (q, ls, zR n :: r) (znew sh n (zkd t, z.toNat), zrow D n (fun _ => 0), n + 1, sl + z.toNat) else none
      | _ => none
    | .anewarray ix => match zclk (zown y) ix with
      | some c => match st with
        | .inl z :: r => if 0 ≤ z ∧ z ≤ 1000000 ∧ n < 900000 ∧ (c = 9 ∨ c = 3) then zgo (q, ls, zR n :: r) (znew sh n (if c = 9 then 24 else 25, z.toNat), zrow D n (fun _ => -1), n + 1, sl + z.toNat) else none
        | _ => none
      | none => none
    | .new ix => match zclk (zown y) ix with
      | some c => if n < 900000 ∧ c ≤ 12 then zgo (q, ls, zR n :: st) (znew sh n (c, zfn c), zrow D n (zdef c), n + 1, sl + zfn c) else none
      | none => none
    | .checkcast ix => match zclk (zown y) ix with
      | some c => match st with
        | .inr (.inr (some a)) :: r => if a < n ∧ c = 20 ∧ (sh a).1 = 20 then zgo (q, ls, zR a :: r) M else none
        | _ => none
      | none => none
    | _ => match st with
      | .inl j :: .inr (.inr (some a)) :: r =>
        if zald i (sh a).1 = true then (if (a < n ∨ zro a = true) ∧ zix j (sh a).2 = true then zgo (q, ls, zdec (zat (sh a).1) (D a j.toNat) :: r) M else none) else none
      | v :: .inl j :: .inr (.inr (some a)) :: r =>
        if zast i (sh a).1 = true ∧ zaok sh n (sh a).1 v = true then (match zenc (zat (sh a).1) v with
          | some z => if a < n ∧ zix j (sh a).2 = true then zgo (q, ls, r) (sh, zwr D a j.toNat z, n, sl) else none
          | none => none) else none
      | _ => none
/-- calls: the method's number (1000: Object's constructor, 1001: arraycopy, 1002: clone), how many arguments, and how it is called (0 on an object, 1 static, 2 a constructor) -/
def zcalls (y : Nat) (i : Instr) : Option (Nat × Nat × Nat) := match i with
  | .invokevirtual ix => match zml (zown y) ix with
    | some (c, k, 0) => some (c, k, 0)
    | _ => none
  | .invokestatic ix => match zml (zown y) ix with
    | some (c, k, 1) => some (c, k, 1)
    | _ => none
  | .invokespecial ix => match zml (zown y) ix with
    | some (c, k, 2) => some (c, k, 2)
    | _ => none
  | _ => none
def zcallee (c k h q : Nat) (ls : zLs) (st : List zV) (M : zM) : Option zOut := match M with
  | (sh, D, n, sl) => match zpop k st with
    | none => none
    | some (as, r) =>
      if c = 1000 then (match r with
        | .inr (.inr (some a)) :: r' => if k = 0 ∧ h = 2 ∧ a < n then zgo (q, ls, r') M else none
        | _ => none)
      else if c = 1001 then (match as with
        | [.inr (.inr (some a)), .inl sp, .inr (.inr (some b)), .inl dp, .inl m] =>
          if h = 1 ∧ a < n ∧ b < n ∧ (sh a).1 = 20 ∧ (sh b).1 = 20 ∧ 0 ≤ sp ∧ 0 ≤ dp ∧ 0 ≤ m ∧ sp + m ≤ (sh a).2 ∧ dp + m ≤ (sh b).2 then
            zgo (q, ls, r) (sh, zrow D b (zcpy (D a) (D b) sp.toNat dp.toNat m.toNat), n, sl) else
          if h = 1 ∧ a < n ∧ b < n ∧ (sh a).1 = 21 ∧ (sh b).1 = 21 ∧ 0 ≤ sp ∧ 0 ≤ dp ∧ 0 ≤ m ∧ sp + m ≤ (sh a).2 ∧ dp + m ≤ (sh b).2 then
            zgo (q, ls, r) (sh, zrow D b (zcpy (D a) (D b) sp.toNat dp.toNat m.toNat), n, sl) else none
        | _ => none)
      else if c = 1002 then (match r with
        | .inr (.inr (some a)) :: r' => if k = 0 ∧ h = 0 ∧ a = 1000003 ∧ n < 900000 then zgo (q, ls, zR n :: r') (znew sh n (20, 7), zrow D n (D a), n + 1, sl + 7) else none
        | _ => none)
      else if h = 1 then some (.inr (.inl (c, as, (q, ls, r))))
      else (match r with
        | .inr (.inr (some a)) :: r' =>
          if (a < n ∨ (zro a = true ∧ h = 0)) ∧ (sh a).1 = zown c then some (.inr (.inl (c, zR a :: as, (q, ls, r')))) else none
        | _ => none)
/-- jumps, from a table of their places -/
def zjump (i : Instr) (q : Nat) (ts : List Nat) (st : List zV) : Option (Nat × List zV) := match i with
  | .goto _ => match ts with
    | [t] => some (t, st)
    | _ => none
  | .ifCond c _ => match ts with
    | [t] => match st with
      | .inl a :: r => some (if zcc c a 0 = true then t else q, r)
      | _ => none
    | _ => none
  | .if_icmp c _ => match ts with
    | [t] => match st with
      | .inl b :: .inl a :: r => some (if zcc c a b = true then t else q, r)
      | _ => none
    | _ => none
  | .ifnonnull _ => match ts with
    | [t] => match st with
      | .inr (.inr none) :: r => some (q, r)
      | .inr (.inr (some _)) :: r => some (t, r)
      | _ => none
    | _ => none
  | .tableswitch _ lo hi _ => match ts with
    | d :: us => match st with
      | .inl a :: r => if a < lo ∨ hi < a then some (d, r) else (match us[(a - lo).toNat]? with
        | some t => some (t, r)
        | none => none)
      | _ => none
    | _ => none
  | _ => none
def zret (y : Nat) (i : Instr) (st : List zV) : Option (Option zV) := match i with
  | .return_ => match st with
    | [] => if zrt y = none then some none else none
    | _ => none
  | .ireturn => match st with
    | [.inl z] => match zrt y with
      | some t => if (zenc t (zI z)).isSome = true then some (some (zI z)) else none
      | none => none
    | _ => none
  | .lreturn => match st with
    | [.inr (.inl z)] => if zrt y = some .long then some (some (zL z)) else none
    | _ => none
  | .areturn => match st with
    | [.inr (.inr o)] => match zrt y with
      | some (.object _) => some (some (.inr (.inr o)))
      | some (.array _) => some (some (.inr (.inr o)))
      | _ => none
    | _ => none
  | _ => none
def zstep (y : Nat) (f : zFr) (M : zM) : Option zOut := match f with
  | (pc, ls, st) => match zins y pc with
    | none => none
    | some (i, q, ts) => match zpure (zmx y) i ls st with
      | some (ls', st') => zgo (q, ls', st') M
      | none => match zjump i q ts st with
        | some (t, st') => zgo (t, ls, st') M
        | none => match zret y i st with
          | some r => some (.inr (.inr r))
          | none => match zcalls y i with
            | some (c, k, h) => zcallee c k h q ls st M
            | none => zheap y i q ls st M
def zback (f : zFr) (r : Option zV) : zFr := match f with
  | (pc, ls, st) => match r with
    | none => (pc, ls, st)
    | some v => (pc, ls, v :: st)
/-- fuel, depth, method, frame, memory -/
def zrun (N d y : Nat) (f : zFr) (M : zM) : Option (Option zV × zM) := match N with
  | 0 => none
  | N + 1 => match zstep y f M with
    | none => none
    | some (.inl (f', M')) => zrun N d y f' M'
    | some (.inr (.inl (c, as, f'))) => match d with
      | 0 => none
      | d' + 1 => match zrun N d' c (0, zargs 0 as, []) M with
        | none => none
        | some (r, M') => zrun N (d' + 1) y (zback f' r) M'
    | some (.inr (.inr r)) => some (r, M)
/-- from this frame and memory the method comes to an end with Q -/
def zWp (d y : Nat) (f : zFr) (M : zM) (Q : Option zV → zM → Prop) : Prop := ∃ N r M', zrun N d y f M = some (r, M') ∧ Q r M'
