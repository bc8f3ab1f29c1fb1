/-! the small machine: the program's methods over numbers and places; it makes no cells -/
/-- a value: an int, a long, a cell (by its place), or nothing yet -/
abbrev MV : Type := Int ⊕ (Int ⊕ (Nat ⊕ Unit))
/-- what the cells hold -/
abbrev MH : Type := Nat → Nat → Int
abbrev vI (n : Int) : MV := .inl n
abbrev vL (n : Int) : MV := .inr (.inl n)
abbrev vR (a : Nat) : MV := .inr (.inr (.inl a))
abbrev vU : MV := .inr (.inr (.inr ()))
def mY (k : Nat) : MethodName := (mtb.getD k (⟨"", "", ""⟩, ⟨#[]⟩, 0, none, 0)).1
def mC (k : Nat) : ByteArray := (mtb.getD k (⟨"", "", ""⟩, ⟨#[]⟩, 0, none, 0)).2.1
def mL (k : Nat) : Nat := (mtb.getD k (⟨"", "", ""⟩, ⟨#[]⟩, 0, none, 0)).2.2.1
def mR (k : Nat) : Option FieldType := (mtb.getD k (⟨"", "", ""⟩, ⟨#[]⟩, 0, none, 0)).2.2.2.1
def mO (k : Nat) : Nat := (mtb.getD k (⟨"", "", ""⟩, ⟨#[]⟩, 0, none, 0)).2.2.2.2
def fetch (k pc : Nat) : Option (Instr × Nat) := match decode (mC k) pc with
  | .ok r => some r
  | .error _ => none
def fl (o i : Nat) : Option (Nat × Nat) := (fL.find? fun e => e.1 == o && e.2.1 == i).map fun e => e.2.2
def vl (o i : Nat) : Option (Nat × Nat) := (vL_.find? fun e => e.1 == o && e.2.1 == i).map fun e => e.2.2
def sl (o i : Nat) : Option (Nat × Nat) := (sL.find? fun e => e.1 == o && e.2.1 == i).map fun e => e.2.2
def cl_ (o i : Nat) : Option Int := (cL.find? fun e => e.1 == o && e.2.1 == i).map fun e => e.2.2
def ll (o i : Nat) : Option Int := (lL.find? fun e => e.1 == o && e.2.1 == i).map fun e => e.2.2
def gl (o i : Nat) : Option (Nat × Nat) := (gL.find? fun e => e.1 == o && e.2.1 == i).map fun e => e.2.2
def rl (o i : Nat) : Option Nat := (rL.find? fun e => e.1 == o && e.2.1 == i).map fun e => e.2.2
def ml (o i : Nat) : Option Nat := (hL.find? fun e => e.1 == o && e.2.1 == i).map fun e => e.2.2
def mk (a : Nat) : Nat × Nat := kT.getD a (199, 0)
def mr (a j : Nat) : Nat := (rT.getD a []).getD j 0
def ro (a j : Nat) : Int := (oT.getD (a - nM) []).getD j 0
def ft (c j : Nat) : Nat := (ftT.getD c []).getD j 9
/-- numbers in their ranges -/
def inI (x : Int) : Prop := -2147483648 ≤ x ∧ x ≤ 2147483647
def inL (x : Int) : Prop := -9223372036854775808 ≤ x ∧ x ≤ 9223372036854775807
def wI (x : Int) : Int := (x + 2147483648) % 4294967296 - 2147483648
def wL (x : Int) : Int := (x + 9223372036854775808) % 18446744073709551616 - 9223372036854775808
def xI (f : Int32 → Int32 → Int32) (x y : Int) : Int := (f (Int32.ofInt x) (Int32.ofInt y)).toInt
def xL (f : Int64 → Int64 → Int64) (x y : Int) : Int := (f (Int64.ofInt x) (Int64.ofInt y)).toInt
def iAnd (x y : Int) : Int := xI (· &&& ·) x y
def iOr (x y : Int) : Int := xI (· ||| ·) x y
def iXor (x y : Int) : Int := xI (· ^^^ ·) x y
def iShl (x y : Int) : Int := xI (fun a b => a <<< (b &&& 31)) x y
def iShr (x y : Int) : Int := xI (fun a b => a >>> (b &&& 31)) x y
def iUshr (x y : Int) : Int := xI (fun a b => (a.toUInt32 >>> (b.toUInt32 &&& Int32.toUInt32 31)).toInt32) x y
def lAnd (x y : Int) : Int := xL (· &&& ·) x y
def lOr (x y : Int) : Int := xL (· ||| ·) x y
def lShl (x y : Int) : Int := (Int64.ofInt x <<< ((Int32.ofInt y).toInt64 &&& 63)).toInt
def lUshr (x y : Int) : Int := ((Int64.ofInt x).toUInt64 >>> ((Int32.ofInt y).toInt64.toUInt64 &&& Int64.toUInt64 63)).toInt64.toInt
def toB (x : Int) : Int := (Int32.ofInt x).toInt8.toInt32.toInt
def toC (x : Int) : Int := ((Int32.ofInt x).toUInt32 % 65536).toInt32.toInt
def cmpL (x y : Int) : Int := if x < y then -1 else if x = y then 0 else 1
def tst (c : ClassFile.Cond) (x y : Int) : Bool := match c with
  | .eq => decide (x = y)
  | .ne => decide (x ≠ y)
  | .lt => decide (x < y)
  | .ge => decide (y ≤ x)
  | .gt => decide (y < x)
  | .le => decide (x ≤ y)
/-- a cell's place gets a number -/
def up (h : MH) (a j : Nat) (v : Int) : MH := fun x y => if x = a then (if y = j then v else h x y) else h x y
/-- places are copied -/
def cpy (h : MH) (f : Nat → Int) (d sp dp n : Nat) : MH := fun x y => if x = d then (if dp ≤ y ∧ y < dp + n then f (sp + (y - dp)) else h x y) else h x y
/-- a local of one word, or of two, is set -/
def clr (l : List MV) (i : Nat) : List MV := match i with
  | 0 => l
  | j + 1 => match l[j]? with
    | some (.inr (.inl _)) => l.set j vU
    | _ => l
def st1 (l : List MV) (i : Nat) (v : MV) : List MV := (clr l i).set i v
def st2 (l : List MV) (i : Nat) (v : MV) : List MV := ((clr l i).set i v).set (i + 1) vU
/-- the locals at entry -/
def ent : List MV → List MV
  | [] => []
  | .inr (.inl n) :: r => .inr (.inl n) :: vU :: ent r
  | v :: r => v :: ent r
def entry (k : Nat) (vs : List MV) : List MV := ent vs ++ List.replicate (mL k - (ent vs).length) vU
def cat (v : MV) : Nat := match v with
  | .inr (.inl _) => 2
  | _ => 1
def cats (l : List MV) : Nat := (l.map cat).sum
def is01 (x : Int) : Bool := decide (x = 0 ∨ x = 1)
/-- an int that a method of this return type may return -/
def okR (t : Option FieldType) (x : Int) : Bool := match t with
  | some .int => true
  | some .boolean => is01 x
  | some .byte => decide (-128 ≤ x ∧ x ≤ 127)
  | some .char => decide (0 ≤ x ∧ x ≤ 65535)
  | _ => false
def mx (x y : Int) : Int := if x < y then y else x
def mn (x y : Int) : Int := if y < x then y else x
def ab (x : Int) : Int := if 0 ≤ x then x else wI (-x)
def abL (x : Int) : Int := if 0 ≤ x then x else wL (-x)
def inb (i : Int) (n : Nat) : Bool := decide (0 ≤ i ∧ i < n)
def slen (h : MH) : Nat := (h 998 0).toNat
/-- ONE STEP of method k at pc: nx goes on, cl calls, rt returns -/
def stp {α : Type} (k pc : Nat) (ls st : List MV) (h : MH) (nx : Nat → List MV → List MV → MH → α) (cl : Nat → List MV → Nat → List MV → α) (rt : Option MV → α) (bad : α) : α :=
  match fetch k pc with
  | none => bad
  | some (i, len) =>
    match i with
    | .iconst n => if len = 1 then (nx (pc + 1) ls (.inl (wI n) :: st) h) else bad
    | .bipush n => if len = 2 then (nx (pc + 2) ls (.inl (toB n) :: st) h) else bad
    | .sipush n => if len = 3 then (nx (pc + 3) ls (.inl ((Int16.ofInt n).toInt32.toInt) :: st) h) else bad
    | .lconst n => if len = 1 then (nx (pc + 1) ls (.inr (.inl (n.val : Int)) :: st) h) else bad
    | .iload_n n => if len = 1 then (match ls[n.val]? with
      | some (.inl x) => nx (pc + 1) ls (.inl x :: st) h
      | _ => bad) else bad
    | .iload n => if len = 2 then (match ls[n]? with
      | some (.inl x) => nx (pc + 2) ls (.inl x :: st) h
      | _ => bad) else bad
    | .lload_n n => if len = 1 then (match ls[n.val]? with
      | some (.inr (.inl x)) => nx (pc + 1) ls (.inr (.inl x) :: st) h
      | _ => bad) else bad
    | .lload n => if len = 2 then (match ls[n]? with
      | some (.inr (.inl x)) => nx (pc + 2) ls (.inr (.inl x) :: st) h
      | _ => bad) else bad
    | .aload_n n => if len = 1 then (match ls[n.val]? with
      | some (.inr (.inr (.inl a))) => if a < nC then nx (pc + 1) ls (.inr (.inr (.inl a)) :: st) h else bad
      | _ => bad) else bad
    | .aload n => if len = 2 then (match ls[n]? with
      | some (.inr (.inr (.inl a))) => if a < nC then nx (pc + 2) ls (.inr (.inr (.inl a)) :: st) h else bad
      | _ => bad) else bad
    | .istore_n n => if len = 1 then (match st with
      | .inl x :: st => if n.val < ls.length then nx (pc + 1) (st1 ls n.val (.inl x)) st h else bad
      | _ => bad) else bad
    | .istore n => if len = 2 then (match st with
      | .inl x :: st => if n < ls.length then nx (pc + 2) (st1 ls n (.inl x)) st h else bad
      | _ => bad) else bad
    | .lstore_n n => if len = 1 then (match st with
      | .inr (.inl x) :: st => if n.val + 1 < ls.length then nx (pc + 1) (st2 ls n.val (.inr (.inl x))) st h else bad
      | _ => bad) else bad
    | .lstore n => if len = 2 then (match st with
      | .inr (.inl x) :: st => if n + 1 < ls.length then nx (pc + 2) (st2 ls n (.inr (.inl x))) st h else bad
      | _ => bad) else bad
    | .astore_n n => if len = 1 then (match st with
      | .inr (.inr (.inl a)) :: st => if n.val < ls.length ∧ a < nC then nx (pc + 1) (st1 ls n.val (.inr (.inr (.inl a)))) st h else bad
      | _ => bad) else bad
    | .astore n => if len = 2 then (match st with
      | .inr (.inr (.inl a)) :: st => if n < ls.length ∧ a < nC then nx (pc + 2) (st1 ls n (.inr (.inr (.inl a)))) st h else bad
      | _ => bad) else bad
    | .iinc n d => if len = 3 then (match ls[n]? with
      | some (.inl x) => nx (pc + 3) (st1 ls n (.inl (wI (x + d)))) st h
      | _ => bad) else bad
    | .iadd => if len = 1 then (match st with
      | .inl y :: .inl x :: st => nx (pc + 1) ls (.inl (wI (x + y)) :: st) h
      | _ => bad) else bad
    | .isub => if len = 1 then (match st with
      | .inl y :: .inl x :: st => nx (pc + 1) ls (.inl (wI (x - y)) :: st) h
      | _ => bad) else bad
    | .imul => if len = 1 then (match st with
      | .inl y :: .inl x :: st => nx (pc + 1) ls (.inl (wI (x * y)) :: st) h
      | _ => bad) else bad
    | .idiv => if len = 1 then (match st with
      | .inl y :: .inl x :: st => if y = 0 then bad else nx (pc + 1) ls (.inl (wI (x.tdiv y)) :: st) h
      | _ => bad) else bad
    | .irem => if len = 1 then (match st with
      | .inl y :: .inl x :: st => if y = 0 then bad else nx (pc + 1) ls (.inl (x.tmod y) :: st) h
      | _ => bad) else bad
    | .ineg => if len = 1 then (match st with
      | .inl x :: st => nx (pc + 1) ls (.inl (wI (-x)) :: st) h
      | _ => bad) else bad
    | .iand => if len = 1 then (match st with
      | .inl y :: .inl x :: st => nx (pc + 1) ls (.inl (iAnd x y) :: st) h
      | _ => bad) else bad
    | .ior => if len = 1 then (match st with
      | .inl y :: .inl x :: st => nx (pc + 1) ls (.inl (iOr x y) :: st) h
      | _ => bad) else bad
    | .ixor => if len = 1 then (match st with
      | .inl y :: .inl x :: st => nx (pc + 1) ls (.inl (iXor x y) :: st) h
      | _ => bad) else bad
    | .ishl => if len = 1 then (match st with
      | .inl y :: .inl x :: st => nx (pc + 1) ls (.inl (iShl x y) :: st) h
      | _ => bad) else bad
    | .ishr => if len = 1 then (match st with
      | .inl y :: .inl x :: st => nx (pc + 1) ls (.inl (iShr x y) :: st) h
      | _ => bad) else bad
    | .iushr => if len = 1 then (match st with
      | .inl y :: .inl x :: st => nx (pc + 1) ls (.inl (iUshr x y) :: st) h
      | _ => bad) else bad
    | .ladd => if len = 1 then (match st with
      | .inr (.inl y) :: .inr (.inl x) :: st => nx (pc + 1) ls (.inr (.inl (wL (x + y))) :: st) h
      | _ => bad) else bad
    | .lsub => if len = 1 then (match st with
      | .inr (.inl y) :: .inr (.inl x) :: st => nx (pc + 1) ls (.inr (.inl (wL (x - y))) :: st) h
      | _ => bad) else bad
    | .lmul => if len = 1 then (match st with
      | .inr (.inl y) :: .inr (.inl x) :: st => nx (pc + 1) ls (.inr (.inl (wL (x * y))) :: st) h
      | _ => bad) else bad
    | .ldiv => if len = 1 then (match st with
      | .inr (.inl y) :: .inr (.inl x) :: st => if y = 0 then bad else nx (pc + 1) ls (.inr (.inl (wL (x.tdiv y))) :: st) h
      | _ => bad) else bad
    | .lrem => if len = 1 then (match st with
      | .inr (.inl y) :: .inr (.inl x) :: st => if y = 0 then bad else nx (pc + 1) ls (.inr (.inl (x.tmod y)) :: st) h
      | _ => bad) else bad
    | .lneg => if len = 1 then (match st with
      | .inr (.inl x) :: st => nx (pc + 1) ls (.inr (.inl (wL (-x))) :: st) h
      | _ => bad) else bad
    | .land => if len = 1 then (match st with
      | .inr (.inl y) :: .inr (.inl x) :: st => nx (pc + 1) ls (.inr (.inl (lAnd x y)) :: st) h
      | _ => bad) else bad
    | .lor => if len = 1 then (match st with
      | .inr (.inl y) :: .inr (.inl x) :: st => nx (pc + 1) ls (.inr (.inl (lOr x y)) :: st) h
      | _ => bad) else bad
    | .lshl => if len = 1 then (match st with
      | .inl y :: .inr (.inl x) :: st => nx (pc + 1) ls (.inr (.inl (lShl x y)) :: st) h
      | _ => bad) else bad
    | .lushr => if len = 1 then (match st with
      | .inl y :: .inr (.inl x) :: st => nx (pc + 1) ls (.inr (.inl (lUshr x y)) :: st) h
      | _ => bad) else bad
    | .lcmp => if len = 1 then (match st with
      | .inr (.inl y) :: .inr (.inl x) :: st => nx (pc + 1) ls (.inl (cmpL x y) :: st) h
      | _ => bad) else bad
    | .i2l => if len = 1 then (match st with
      | .inl x :: st => nx (pc + 1) ls (.inr (.inl x) :: st) h
      | _ => bad) else bad
    | .l2i => if len = 1 then (match st with
      | .inr (.inl x) :: st => nx (pc + 1) ls (.inl (wI x) :: st) h
      | _ => bad) else bad
    | .i2b => if len = 1 then (match st with
      | .inl x :: st => nx (pc + 1) ls (.inl (toB x) :: st) h
      | _ => bad) else bad
    | .i2c => if len = 1 then (match st with
      | .inl x :: st => nx (pc + 1) ls (.inl (toC x) :: st) h
      | _ => bad) else bad
    | .dup => if len = 1 then (match st with
      | v :: st => if cat v = 1 then nx (pc + 1) ls (v :: v :: st) h else bad
      | _ => bad) else bad
    | .pop => if len = 1 then (match st with
      | v :: st => if cat v = 1 then nx (pc + 1) ls st h else bad
      | _ => bad) else bad
    | .dup2 => if len = 1 then (match st with
      | v :: w :: st => if cat v = 1 ∧ cat w = 1 then nx (pc + 1) ls (v :: w :: v :: w :: st) h else bad
      | _ => bad) else bad
    | .goto o => if len = 3 then (if 0 ≤ (pc : Int) + o then nx ((pc : Int) + o).toNat ls st h else bad) else bad
    | .ifCond c o => if len = 3 then (match st with
      | .inl x :: st => if 0 ≤ (pc : Int) + o then (if tst c x 0 = true then nx ((pc : Int) + o).toNat ls st h else nx (pc + 3) ls st h) else bad
      | _ => bad) else bad
    | .if_icmp c o => if len = 3 then (match st with
      | .inl y :: .inl x :: st => if 0 ≤ (pc : Int) + o then (if tst c x y = true then nx ((pc : Int) + o).toNat ls st h else nx (pc + 3) ls st h) else bad
      | _ => bad) else bad
    | .tableswitch d lo hi os => (match st with
      | .inl x :: st => if x < lo ∨ hi < x then (if 0 ≤ (pc : Int) + d then nx ((pc : Int) + d).toNat ls st h else bad)
          else match os[(x - lo).toNat]? with
            | some o => if 0 ≤ (pc : Int) + o then nx ((pc : Int) + o).toNat ls st h else bad
            | none => bad
      | _ => bad)
    | .ldc i => if len = 2 then (match cl_ (mO k) i with
      | some v => nx (pc + 2) ls (.inl v :: st) h
      | none => match rl (mO k) i with
        | some a => nx (pc + 2) ls (.inr (.inr (.inl a)) :: st) h
        | none => bad) else bad
    | .ldc_w i => if len = 3 then (match cl_ (mO k) i with
      | some v => nx (pc + 3) ls (.inl v :: st) h
      | none => match rl (mO k) i with
        | some a => nx (pc + 3) ls (.inr (.inr (.inl a)) :: st) h
        | none => bad) else bad
    | .ldc2_w i => if len = 3 then (match ll (mO k) i with
      | some v => nx (pc + 3) ls (.inr (.inl v) :: st) h
      | none => bad) else bad
    | .getstatic i => if len = 3 then (match gl (mO k) i with
      | some (0, v) => nx (pc + 3) ls (.inl (v : Int) :: st) h
      | some (1, a) => nx (pc + 3) ls (.inr (.inr (.inl a)) :: st) h
      | _ => bad) else bad
    | .getfield i => if len = 3 then (match st, fl (mO k) i with
      | .inr (.inr (.inl a)) :: st, some (c, j) => if (mk a).1 = c then (match ft c j with
          | 0 => nx (pc + 3) ls (.inl (h a j) :: st) h
          | 5 => nx (pc + 3) ls (.inl (h a j) :: st) h
          | 1 => nx (pc + 3) ls (.inr (.inl (h a j)) :: st) h
          | 2 => nx (pc + 3) ls (.inr (.inr (.inl (mr a j))) :: st) h
          | 3 => nx (pc + 3) ls (.inr (.inr (.inl (h a j).toNat)) :: st) h
          | 4 => nx (pc + 3) ls (.inl 0 :: st) h
          | _ => bad) else bad
      | _, _ => bad) else bad
    | .putfield i => if len = 3 then (match st, fl (mO k) i with
      | .inl v :: .inr (.inr (.inl a)) :: st, some (c, j) => if (mk a).1 = c then (match ft c j with
          | 0 => nx (pc + 3) ls st (up h a j v)
          | 5 => if is01 v = true then nx (pc + 3) ls st (up h a j v) else bad
          | _ => bad) else bad
      | .inr (.inl v) :: .inr (.inr (.inl a)) :: st, some (c, j) => if (mk a).1 = c ∧ ft c j = 1 then nx (pc + 3) ls st (up h a j v) else bad
      | .inr (.inr (.inl b)) :: .inr (.inr (.inl a)) :: st, some (c, j) => if (mk a).1 = c ∧ ft c j = 3 ∧ (mk b).1 = 101 then nx (pc + 3) ls st (up h a j (b : Int)) else bad
      | _, _ => bad) else bad
    | .arraylength => if len = 1 then (match st with
      | .inr (.inr (.inl a)) :: st => (match (mk a).1 with
          | 100 => nx (pc + 1) ls (.inl ((mk a).2 : Int) :: st) h
          | 101 => nx (pc + 1) ls (.inl ((mk a).2 : Int) :: st) h
          | 111 => nx (pc + 1) ls (.inl ((mk a).2 : Int) :: st) h
          | 112 => nx (pc + 1) ls (.inl (slen h : Int) :: st) h
          | _ => bad)
      | _ => bad) else bad
    | .iaload => if len = 1 then (match st with
      | .inl i :: .inr (.inr (.inl a)) :: st => (match (mk a).1 with
          | 100 => if inb i (mk a).2 = true then nx (pc + 1) ls (.inl (h a i.toNat) :: st) h else bad
          | 110 => if inb i (mk a).2 = true then nx (pc + 1) ls (.inl (ro a i.toNat) :: st) h else bad
          | 112 => if inb i (slen h) = true then nx (pc + 1) ls (.inl (h a i.toNat) :: st) h else bad
          | _ => bad)
      | _ => bad) else bad
    | .baload => if len = 1 then (match st with
      | .inl i :: .inr (.inr (.inl a)) :: st => (match (mk a).1 with
          | 101 => if inb i (mk a).2 = true then nx (pc + 1) ls (.inl (h a i.toNat) :: st) h else bad
          | 102 => if inb i (mk a).2 = true then nx (pc + 1) ls (.inl (h a i.toNat) :: st) h else bad
          | 111 => if inb i (mk a).2 = true then nx (pc + 1) ls (.inl (ro a i.toNat) :: st) h else bad
          | _ => bad)
      | _ => bad) else bad
    | .laload => if len = 1 then (match st with
      | .inl i :: .inr (.inr (.inl a)) :: st => if (mk a).1 = 103 ∧ inb i (mk a).2 = true then nx (pc + 1) ls (.inr (.inl (h a i.toNat)) :: st) h else bad
      | _ => bad) else bad
    | .aaload => if len = 1 then (match st with
      | .inl i :: .inr (.inr (.inl a)) :: st => if (mk a).1 = 104 ∧ inb i (mk a).2 = true then nx (pc + 1) ls (.inr (.inr (.inl (mr a 0 + i.toNat))) :: st) h else bad
      | _ => bad) else bad
    | .iastore => if len = 1 then (match st with
      | .inl v :: .inl i :: .inr (.inr (.inl a)) :: st => if (mk a).1 = 100 ∧ inb i (mk a).2 = true then nx (pc + 1) ls st (up h a i.toNat v) else bad
      | _ => bad) else bad
    | .bastore => if len = 1 then (match st with
      | .inl v :: .inl i :: .inr (.inr (.inl a)) :: st => (match (mk a).1 with
          | 101 => if inb i (mk a).2 = true then nx (pc + 1) ls st (up h a i.toNat (toB v)) else bad
          | 102 => if inb i (mk a).2 = true ∧ is01 v = true then nx (pc + 1) ls st (up h a i.toNat v) else bad
          | _ => bad)
      | _ => bad) else bad
    | .lastore => if len = 1 then (match st with
      | .inr (.inl v) :: .inl i :: .inr (.inr (.inl a)) :: st => if (mk a).1 = 103 ∧ inb i (mk a).2 = true then nx (pc + 1) ls st (up h a i.toNat v) else bad
      | _ => bad) else bad
    | .invokestatic i => if len = 3 then (match sl (mO k) i with
      | some (k2, n) => if n ≤ st.length ∧ cats (st.drop n) ≤ 8 ∧ (ent (st.take n).reverse).length ≤ mL k2 then cl k2 (st.take n).reverse (pc + 3) (st.drop n) else bad
      | none => if (mO k, i) ∈ aL then (match st with
          | .inl n :: .inl dp :: .inr (.inr (.inl d)) :: .inl sp :: .inr (.inr (.inl s)) :: st =>
            if 0 ≤ n ∧ 0 ≤ dp ∧ 0 ≤ sp ∧ (mk d).1 = 100 ∧ dp + n ≤ (mk d).2 ∧ sp + n ≤ (mk s).2 ∧ cats st ≤ 8 then (match (mk s).1 with
              | 100 => nx (pc + 3) ls st (cpy h (h s) d sp.toNat dp.toNat n.toNat)
              | 110 => nx (pc + 3) ls st (cpy h (ro s) d sp.toNat dp.toNat n.toNat)
              | _ => bad) else bad
          | _ => bad) else match ml (mO k) i, st with
            | some 0, .inl y :: .inl x :: st => if cats st ≤ 8 then nx (pc + 3) ls (.inl (mx x y) :: st) h else bad
            | some 1, .inl y :: .inl x :: st => if cats st ≤ 8 then nx (pc + 3) ls (.inl (mn x y) :: st) h else bad
            | some 2, .inl x :: st => if cats st ≤ 8 then nx (pc + 3) ls (.inl (ab x) :: st) h else bad
            | some 3, .inr (.inl y) :: .inr (.inl x) :: st => if cats st ≤ 8 then nx (pc + 3) ls (.inr (.inl (mx x y)) :: st) h else bad
            | some 4, .inr (.inl y) :: .inr (.inl x) :: st => if cats st ≤ 8 then nx (pc + 3) ls (.inr (.inl (mn x y)) :: st) h else bad
            | some 5, .inr (.inl x) :: st => if cats st ≤ 8 then nx (pc + 3) ls (.inr (.inl (abL x)) :: st) h else bad
            | _, _ => bad) else bad
    | .invokevirtual i => if len = 3 then (match vl (mO k) i with
      | some (k2, n) => match (st.drop n) with
        | .inr (.inr (.inl a)) :: rest => if n ≤ st.length ∧ (mk a).1 = mO k2 ∧ cats rest ≤ 8 ∧ (ent (.inr (.inr (.inl a)) :: (st.take n).reverse)).length ≤ mL k2 then cl k2 (.inr (.inr (.inl a)) :: (st.take n).reverse) (pc + 3) rest else bad
        | _ => bad
      | none => bad) else bad
    | .ireturn => if len = 1 then (match st with
      | [.inl x] => if okR (mR k) x = true then rt (some (.inl x)) else bad
      | _ => bad) else bad
    | .lreturn => if len = 1 then (match st with
      | [.inr (.inl x)] => if mR k = some .long then rt (some (.inr (.inl x))) else bad
      | _ => bad) else bad
    | .return_ => if len = 1 then (match st with
      | [] => if mR k = none then rt none else bad
      | _ => bad) else bad
    | _ => bad
/-- the machine run with fuel f, calls at most d deep -/
def rn : Nat → Nat → Nat → Nat → List MV → List MV → MH → Option (Option MV × MH)
  | 0, _, _, _, _, _, _ => none
  | f + 1, d, k, pc, ls, st, h => stp k pc ls st h (fun pc ls st h => rn f d k pc ls st h)
      (fun k2 vs pc2 rest => match d with
        | 0 => none
        | d2 + 1 => match rn f d2 k2 0 (entry k2 vs) [] h with
          | some (v, h2) => rn f (d2 + 1) k pc2 ls (v.toList ++ rest) h2
          | none => none)
      (fun v => some (v, h)) none
