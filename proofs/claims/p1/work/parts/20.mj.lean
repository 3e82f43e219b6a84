/-! A small machine over a list of cells, in Lean alone: what it does, the machine does (theorem mj_step and what follows it). -/
abbrev mjC : Type := (Nat × List Value) ⊕ (List Int32 ⊕ (List Int64 ⊕ (Nat × List (Option Nat))))
abbrev mjH : Type := List mjC
abbrev mjL : Type := List (Nat × Value)
abbrev mjS : Type := Nat × mjL × List Value × mjH
abbrev mjK : Type := Nat × Nat × Nat × Nat × Nat × Value
abbrev mjI : Type := Instr × Nat × mjK
abbrev mjT : Type := Nat → List Value → mjH → Option (Option Value × mjH)
def mjCs : mjC → Nat
  | .inl o => o.2.length
  | .inr (.inl xs) => xs.length
  | .inr (.inr (.inl xs)) => xs.length
  | .inr (.inr (.inr o)) => o.2.length
def mjSz : mjH → Nat
  | [] => 0
  | c :: t => mjCs c + mjSz t
def mjLk (i : Nat) : mjL → Option Value
  | [] => none
  | q :: t => bif Nat.beq q.1 i then some q.2 else mjLk i t
def mjKd : Value → Nat
  | .int _ => 0
  | .long _ => 1
  | .double _ => 2
  | .float _ => 3
  | .null => 4
  | .ref _ => 4
  | .retAddr _ => 9
def mjLoad (t i : Nat) (l : mjL) : Option Value := (mjLk i l).bind fun v => bif Nat.beq (mjKd v) t then some v else none
def mjF1 (i : Nat) (q : Nat × Value) : Bool := !(q.1 == i) && !(q.1 + 1 == i && q.2.category == 2)
def mjF2 (i : Nat) (q : Nat × Value) : Bool := !(q.1 == i) && (!(q.1 == i + 1) && !(q.1 + 1 == i && q.2.category == 2))
def mjSt1 (t i nL : Nat) (v : Value) (l : mjL) : Option mjL := bif Nat.beq (mjKd v) t && Nat.blt i nL then some ((i, v) :: l.filter (mjF1 i)) else none
def mjSt2 (t i nL : Nat) (v : Value) (l : mjL) : Option mjL := bif Nat.beq (mjKd v) t && Nat.blt (i + 1) nL then some ((i, v) :: l.filter (mjF2 i)) else none
def mjJmp (pc : Nat) (off : Int) : Option Nat := match (pc : Int) + off with
  | .ofNat n => some n
  | .negSucc _ => none
def mjBr (t : Bool) (pc len : Nat) (off : Int) (l : mjL) (s : List Value) (h : mjH) : Option mjS := (mjJmp pc off).bind fun n => some (bif t then n else pc + len, l, s, h)
def mjCmp (c : Jvm.ClassFile.Cond) (x y : Int32) : Bool := match c with
  | .eq => decide (x = y)
  | .ne => decide (¬ x = y)
  | .lt => decide (x < y)
  | .ge => decide (y ≤ x)
  | .gt => decide (y < x)
  | .le => decide (x ≤ y)
def mjII (f : Int32 → Int32 → Int32) (pc : Nat) (l : mjL) (s : List Value) (h : mjH) : Option mjS := match s with
  | .int y :: .int x :: r => some (pc + 1, l, .int (f x y) :: r, h)
  | _ => none
def mjLL (f : Int64 → Int64 → Int64) (pc : Nat) (l : mjL) (s : List Value) (h : mjH) : Option mjS := match s with
  | .long y :: .long x :: r => some (pc + 1, l, .long (f x y) :: r, h)
  | _ => none
def mjLI (f : Int64 → Int32 → Int64) (pc : Nat) (l : mjL) (s : List Value) (h : mjH) : Option mjS := match s with
  | .int y :: .long x :: r => some (pc + 1, l, .long (f x y) :: r, h)
  | _ => none
def mjV1 (f : Value → Option Value) (pc : Nat) (l : mjL) (s : List Value) (h : mjH) : Option mjS := match s with
  | v :: r => (f v).bind fun w => some (pc + 1, l, w :: r, h)
  | _ => none
def mjFld (h : mjH) (a ci fk : Nat) : Option Value := match h[a]? with
  | some (.inl o) => bif Nat.beq o.1 ci then o.2[fk]? else none
  | _ => none
def mjTy (t : Nat) (v : Value) : Bool := match v with
  | .int x => Nat.beq t 0 || (Nat.beq t 2 && (x == 0 || x == 1))
  | .long _ => Nat.beq t 1
  | .null => Nat.beq t 4
  | .ref _ => Nat.beq t 4
  | _ => false
def mjPut (h : mjH) (a ci fk t : Nat) (v : Value) : Option mjH := match h[a]? with
  | some (.inl o) => bif Nat.beq o.1 ci && mjTy t v then some (h.set a (.inl (o.1, o.2.set fk v))) else none
  | _ => none
def mjArI (h : mjH) (a : Nat) : Option (List Int32) := match h[a]? with
  | some (.inr (.inl xs)) => some xs
  | _ => none
def mjArJ (h : mjH) (a : Nat) : Option (List Int64) := match h[a]? with
  | some (.inr (.inr (.inl xs))) => some xs
  | _ => none
def mjArR (h : mjH) (a : Nat) : Option (Nat × List (Option Nat)) := match h[a]? with
  | some (.inr (.inr (.inr o))) => some o
  | _ => none
def mjSc (sc : Option (List Int32)) (h : mjH) : Nat → Option (List Int32)
  | 0 => sc
  | a + 1 => mjArI h a
def mjAt? {α : Type} (xs : List α) (i : Int32) : Option α := if i < 0 then none else xs[i.toNatClampNeg]?
def mjIn (i : Int32) (n : Nat) : Bool := decide (¬ i < 0) && Nat.blt i.toNatClampNeg n
def mjLen (sc : Option (List Int32)) (h : mjH) : Nat → Option Nat
  | 0 => sc.map List.length
  | a + 1 => match h[a]? with
    | some (.inr (.inl xs)) => some xs.length
    | some (.inr (.inr (.inl xs))) => some xs.length
    | some (.inr (.inr (.inr o))) => some o.2.length
    | _ => none
def mjSplit : Nat → List Value → List Value → Option (List Value × List Value)
  | 0, s, acc => some (acc, s)
  | n + 1, v :: s, acc => mjSplit n s (v :: acc)
  | _ + 1, [], _ => none
def mjCat (s : List Value) : Nat := (s.map fun v => v.category).sum
def mjRes (r : Option Value) (s : List Value) : List Value := match r with
  | some v => v :: s
  | none => s
def mjInv (call : mjT) (mid pc : Nat) (l : mjL) (as r : List Value) (h : mjH) : Option mjS :=
  bif Nat.ble (mjCat r) 8 then (call mid as h).bind fun q => some (pc + 3, l, mjRes q.1 r, q.2) else none
def mjIs (h : mjH) (v : Value) (ci : Nat) : Bool := match v with
  | .ref (a + 1) => match h[a]? with
    | some (.inl o) => Nat.beq o.1 ci
    | _ => false
  | _ => false
def mjNew (n : Int32) : Bool := decide (¬ n < 0) && Nat.ble n.toNatClampNeg 100000
/-- the JDK's own: 9 Float.intBitsToFloat, 10 Double.longBitsToDouble, 11 to 14 Math.max, min, abs, abs of longs -/
def mjNat (t pc : Nat) (l : mjL) (s : List Value) (h : mjH) : Option mjS := match t with
  | 9 => match s with
    | .int x :: r => bif Nat.ble (mjCat r) 8 && !(vn_sni2f x) then some (pc + 3, l, .float x.toUInt32 :: r, h) else none
    | _ => none
  | 10 => match s with
    | .long x :: r => bif Nat.ble (mjCat r) 8 && !(vn_snl2d x) then some (pc + 3, l, .double x.toUInt64 :: r, h) else none
    | _ => none
  | 11 => match s with
    | .int y :: .int x :: r => bif Nat.ble (mjCat r) 8 then some (pc + 3, l, .int (if x < y then y else x) :: r, h) else none
    | _ => none
  | 12 => match s with
    | .int y :: .int x :: r => bif Nat.ble (mjCat r) 8 then some (pc + 3, l, .int (if y < x then y else x) :: r, h) else none
    | _ => none
  | 13 => match s with
    | .int x :: r => bif Nat.ble (mjCat r) 8 then some (pc + 3, l, .int (if 0 ≤ x then x else 0 - x) :: r, h) else none
    | _ => none
  | 14 => match s with
    | .long x :: r => bif Nat.ble (mjCat r) 8 then some (pc + 3, l, .long (if 0 < x then x else -x) :: r, h) else none
    | _ => none
  | _ => none
/-- the fields of a new object, by its class -/
def mjDf (dfs : List (List Value)) (ci : Nat) : Option (List Value) := dfs[ci]?
def mjStep (dfs : List (List Value)) (d nL : Nat) (sc : Option (List Int32)) (call : mjT) (ins : Instr) (k : mjK) (pc : Nat) (l : mjL) (s : List Value) (h : mjH) : Option mjS :=
  match ins with
  | .aconst_null => some (pc + 1, l, .null :: s, h)
  | .iconst n => some (pc + 1, l, .int (Int32.ofInt n) :: s, h)
  | .bipush n => some (pc + 2, l, .int (Int8.ofInt n).toInt32 :: s, h)
  | .sipush n => some (pc + 3, l, .int (Int16.ofInt n).toInt32 :: s, h)
  | .lconst n => some (pc + 1, l, .long (Int64.ofNat (n : Nat)) :: s, h)
  | .ldc _ => some (pc + 2, l, k.2.2.2.2.2 :: s, h)
  | .ldc_w _ => some (pc + 3, l, k.2.2.2.2.2 :: s, h)
  | .ldc2_w _ => some (pc + 3, l, k.2.2.2.2.2 :: s, h)
  | .iload i => (mjLoad 0 i l).bind fun v => some (pc + 2, l, v :: s, h)
  | .iload_n i => (mjLoad 0 i.val l).bind fun v => some (pc + 1, l, v :: s, h)
  | .lload i => (mjLoad 1 i l).bind fun v => some (pc + 2, l, v :: s, h)
  | .lload_n i => (mjLoad 1 i.val l).bind fun v => some (pc + 1, l, v :: s, h)
  | .dload i => (mjLoad 2 i l).bind fun v => some (pc + 2, l, v :: s, h)
  | .dload_n i => (mjLoad 2 i.val l).bind fun v => some (pc + 1, l, v :: s, h)
  | .aload i => (mjLoad 4 i l).bind fun v => some (pc + 2, l, v :: s, h)
  | .aload_n i => (mjLoad 4 i.val l).bind fun v => some (pc + 1, l, v :: s, h)
  | .istore i => match s with
    | v :: r => (mjSt1 0 i nL v l).bind fun l' => some (pc + 2, l', r, h)
    | _ => none
  | .istore_n i => match s with
    | v :: r => (mjSt1 0 i.val nL v l).bind fun l' => some (pc + 1, l', r, h)
    | _ => none
  | .lstore i => match s with
    | v :: r => (mjSt2 1 i nL v l).bind fun l' => some (pc + 2, l', r, h)
    | _ => none
  | .lstore_n i => match s with
    | v :: r => (mjSt2 1 i.val nL v l).bind fun l' => some (pc + 1, l', r, h)
    | _ => none
  | .dstore i => match s with
    | v :: r => (mjSt2 2 i nL v l).bind fun l' => some (pc + 2, l', r, h)
    | _ => none
  | .dstore_n i => match s with
    | v :: r => (mjSt2 2 i.val nL v l).bind fun l' => some (pc + 1, l', r, h)
    | _ => none
  | .astore i => match s with
    | v :: r => (mjSt1 4 i nL v l).bind fun l' => some (pc + 2, l', r, h)
    | _ => none
  | .astore_n i => match s with
    | v :: r => (mjSt1 4 i.val nL v l).bind fun l' => some (pc + 1, l', r, h)
    | _ => none
  | .iinc i n => match mjLk i l with
    | some (.int x) => (mjSt1 0 i nL (.int (x + Int32.ofInt n)) l).bind fun l' => some (pc + 3, l', s, h)
    | _ => none
  | .iadd => mjII (fun x y => x + y) pc l s h
  | .isub => mjII (fun x y => x - y) pc l s h
  | .imul => mjII (fun x y => x * y) pc l s h
  | .iand => mjII (fun x y => x &&& y) pc l s h
  | .ishl => mjII (fun x y => x <<< (y &&& 31)) pc l s h
  | .ishr => mjII (fun x y => x >>> (y &&& 31)) pc l s h
  | .iushr => mjII (fun x y => (x.toUInt32 >>> (y.toUInt32 &&& Int32.toUInt32 31)).toInt32) pc l s h
  | .idiv => match s with
    | .int y :: .int x :: r => if y = 0 then none else some (pc + 1, l, .int (x / y) :: r, h)
    | _ => none
  | .irem => match s with
    | .int y :: .int x :: r => if y = 0 then none else some (pc + 1, l, .int (x - x / y * y) :: r, h)
    | _ => none
  | .ineg => match s with
    | .int x :: r => some (pc + 1, l, .int (-x) :: r, h)
    | _ => none
  | .ladd => mjLL (fun x y => x + y) pc l s h
  | .lsub => mjLL (fun x y => x - y) pc l s h
  | .lmul => mjLL (fun x y => x * y) pc l s h
  | .land => mjLL (fun x y => x &&& y) pc l s h
  | .lor => mjLL (fun x y => x ||| y) pc l s h
  | .ldiv => match s with
    | .long y :: .long x :: r => if y = 0 then none else some (pc + 1, l, .long (x / y) :: r, h)
    | _ => none
  | .lrem => match s with
    | .long y :: .long x :: r => if y = 0 then none else some (pc + 1, l, .long (x - x / y * y) :: r, h)
    | _ => none
  | .lneg => match s with
    | .long x :: r => some (pc + 1, l, .long (-x) :: r, h)
    | _ => none
  | .lshl => mjLI (fun x y => x <<< (y.toInt64 &&& 63)) pc l s h
  | .lshr => mjLI (fun x y => x >>> (y.toInt64 &&& 63)) pc l s h
  | .lushr => mjLI (fun x y => (x.toUInt64 >>> (y.toInt64.toUInt64 &&& Int64.toUInt64 63)).toInt64) pc l s h
  | .lcmp => match s with
    | .long y :: .long x :: r => some (pc + 1, l, .int (lg_cmp x y) :: r, h)
    | _ => none
  | .i2l => match s with
    | .int x :: r => some (pc + 1, l, .long x.toInt64 :: r, h)
    | _ => none
  | .l2i => match s with
    | .long x :: r => some (pc + 1, l, .int x.toInt32 :: r, h)
    | _ => none
  | .i2d => match s with
    | .int x :: r => some (pc + 1, l, .double (FP.i2d x) :: r, h)
    | _ => none
  | .l2d => match s with
    | .long x :: r => some (pc + 1, l, .double (FP.l2d x) :: r, h)
    | _ => none
  | .d2i => match s with
    | .double x :: r => some (pc + 1, l, .int (FP.d2i x) :: r, h)
    | _ => none
  | .d2l => match s with
    | .double x :: r => some (pc + 1, l, .long (FP.d2l x) :: r, h)
    | _ => none
  | .f2d => match s with
    | .float x :: r => if (FP.f2d x) &&& 0x7fffffffffffffff ≤ 0x7ff0000000000000 then some (pc + 1, l, .double (FP.f2d x) :: r, h) else none
    | _ => none
  | .dcmp op => match s with
    | .double y :: .double x :: r => some (pc + 1, l, .int (Op.cmpValue (FP.dcmp x y) op) :: r, h)
    | _ => none
  | .dup => match s with
    | v :: r => bif Nat.beq v.category 1 then some (pc + 1, l, v :: v :: r, h) else none
    | _ => none
  | .pop => match s with
    | v :: r => bif Nat.beq v.category 1 then some (pc + 1, l, r, h) else none
    | _ => none
  | .dup2 => match s with
    | v :: w :: r => bif Nat.beq v.category 1 && Nat.beq w.category 1 then some (pc + 1, l, v :: w :: v :: w :: r, h) else none
    | _ => none
  | .goto off => (mjJmp pc off).bind fun n => some (n, l, s, h)
  | .ifCond c off => match s with
    | .int x :: r => mjBr (mjCmp c x 0) pc 3 off l r h
    | _ => none
  | .if_icmp c off => match s with
    | .int y :: .int x :: r => mjBr (mjCmp c x y) pc 3 off l r h
    | _ => none
  | .ifnull off => match s with
    | .null :: r => mjBr true pc 3 off l r h
    | .ref _ :: r => mjBr false pc 3 off l r h
    | _ => none
  | .ifnonnull off => match s with
    | .null :: r => mjBr false pc 3 off l r h
    | .ref _ :: r => mjBr true pc 3 off l r h
    | _ => none
  | .tableswitch dflt lo hi offs => match s with
    | .int x :: r => if x.toInt < lo ∨ hi < x.toInt then (mjJmp pc dflt).bind fun n => some (n, l, r, h)
      else (offs[(x.toInt - lo).toNat]?).bind fun off => (mjJmp pc off).bind fun n => some (n, l, r, h)
    | _ => none
  | .getfield _ => match s with
    | .ref (a + 1) :: r => (mjFld h a k.2.1 k.2.2.1).bind fun v => some (pc + 3, l, v :: r, h)
    | _ => none
  | .putfield _ => match s with
    | v :: .ref (a + 1) :: r => (mjPut h a k.2.1 k.2.2.1 k.2.2.2.1 v).bind fun h' => some (pc + 3, l, r, h')
    | _ => none
  | .iaload => match s with
    | .int i :: .ref a :: r => ((mjSc sc h a).bind fun xs => mjAt? xs i).bind fun x => some (pc + 1, l, .int x :: r, h)
    | _ => none
  | .laload => match s with
    | .int i :: .ref (a + 1) :: r => ((mjArJ h a).bind fun xs => mjAt? xs i).bind fun x => some (pc + 1, l, .long x :: r, h)
    | _ => none
  | .aaload => match s with
    | .int i :: .ref (a + 1) :: r => ((mjArR h a).bind fun o => mjAt? o.2 i).bind fun q => some (pc + 1, l, va_rf q :: r, h)
    | _ => none
  | .iastore => match s with
    | .int x :: .int i :: .ref (a + 1) :: r => (mjArI h a).bind fun xs => bif mjIn i xs.length then some (pc + 1, l, r, h.set a (.inr (.inl (xs.set i.toNatClampNeg x)))) else none
    | _ => none
  | .lastore => match s with
    | .long x :: .int i :: .ref (a + 1) :: r => (mjArJ h a).bind fun xs => bif mjIn i xs.length then some (pc + 1, l, r, h.set a (.inr (.inr (.inl (xs.set i.toNatClampNeg x))))) else none
    | _ => none
  | .aastore => match s with
    | .ref v :: .int i :: .ref (a + 1) :: r => (mjArR h a).bind fun o => bif mjIn i o.2.length && mjIs h (.ref v) o.1 then some (pc + 1, l, r, h.set a (.inr (.inr (.inr (o.1, o.2.set i.toNatClampNeg (some v)))))) else none
    | .null :: .int i :: .ref (a + 1) :: r => (mjArR h a).bind fun o => bif mjIn i o.2.length then some (pc + 1, l, r, h.set a (.inr (.inr (.inr (o.1, o.2.set i.toNatClampNeg none))))) else none
    | _ => none
  | .arraylength => match s with
    | .ref a :: r => (mjLen sc h a).bind fun n => some (pc + 1, l, .int (Int32.ofNat n) :: r, h)
    | _ => none
  | .newarray .int => match s with
    | .int n :: r => bif mjNew n then some (pc + 2, l, .ref (h.length + 1) :: r, h ++ [.inr (.inl (List.replicate n.toNatClampNeg 0))]) else none
    | _ => none
  | .newarray .long => match s with
    | .int n :: r => bif mjNew n then some (pc + 2, l, .ref (h.length + 1) :: r, h ++ [.inr (.inr (.inl (List.replicate n.toNatClampNeg 0)))]) else none
    | _ => none
  | .anewarray _ => match s with
    | .int n :: r => bif mjNew n then some (pc + 3, l, .ref (h.length + 1) :: r, h ++ [.inr (.inr (.inr (k.2.1, List.replicate n.toNatClampNeg none)))]) else none
    | _ => none
  | .new _ => (mjDf dfs k.2.1).bind fun fs => some (pc + 3, l, .ref (h.length + 1) :: s, h ++ [.inl (k.2.1, fs)])
  | .invokevirtual _ => (mjSplit (k.2.2.1 + 1) s []).bind fun q => match q.1 with
    | v :: _ => bif mjIs h v k.2.2.2.1 then mjInv call k.2.1 pc l q.1 q.2 h else none
    | [] => none
  | .invokestatic _ => bif Nat.beq k.1 3 then (mjSplit k.2.2.1 s []).bind fun q => mjInv call k.2.1 pc l q.1 q.2 h
    else bif Nat.blt 0 d then mjNat k.1 pc l s h else none
  | .invokespecial _ => bif Nat.beq k.1 8 then (match s with
      | .ref _ :: r => bif Nat.blt 0 d && Nat.ble (mjCat r) 8 then some (pc + 3, l, r, h) else none
      | _ => none)
    else (mjSplit (k.2.2.1 + 1) s []).bind fun q => match q.1 with
      | .ref _ :: _ => mjInv call k.2.1 pc l q.1 q.2 h
      | _ => none
  | _ => none
