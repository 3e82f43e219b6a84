/-! What an instruction wants, over cells and values told by integers. -/
def mjYm (l : mjYl) : mjL := l.map fun q => (q.1, mjYv q.2)
def mjYs (s : List mjY) : List Value := s.map mjYv
def mjOkS (s : List mjY) : Prop := ∀ y ∈ s, mjYok y
def mjOkL (l : mjYl) : Prop := ∀ q ∈ l, mjYok q.2
def mjLkY (i : Nat) : mjYl → Option mjY
  | [] => none
  | q :: t => bif Nat.beq q.1 i then some q.2 else mjLkY i t
def mjLdY (t i : Nat) (l : mjYl) : Option mjY := (mjLkY i l).bind fun y => bif Nat.beq (mjKd (mjYv y)) t then some y else none
def mjS1Y (t i nL : Nat) (y : mjY) (l : mjYl) : Option mjYl := bif Nat.beq (mjKd (mjYv y)) t && Nat.blt i nL then some ((i, y) :: l.filter fun q => mjF1 i (q.1, mjYv q.2)) else none
def mjS2Y (t i nL : Nat) (y : mjY) (l : mjYl) : Option mjYl := bif Nat.beq (mjKd (mjYv y)) t && Nat.blt (i + 1) nL then some ((i, y) :: l.filter fun q => mjF2 i (q.1, mjYv q.2)) else none
def mjOn {α : Type} (o : Option α) (f : α → Prop) : Prop := match o with
  | some a => f a
  | none => False
theorem mjOn_ex {α : Type} {o : Option α} {f : α → Prop} (h : mjOn o f) : ∃ a, o = some a ∧ f a := by
  cases o with
  | none => exact h.elim
  | some a => exact ⟨a, rfl, h⟩
def mjW (d mid : Nat) (as : List mjY) (Z : mjZ) (Q : mjQ) : Prop := mjOkS as → ∃ (v : Option mjY) (Z' : mjZ), mjDoes d mid (mjYs as) (mjMZ Z) (v.map mjYv) (mjMZ Z') ∧ (∀ y, v = some y → mjYok y) ∧ Q v Z'
def mjW0 (d mid : Nat) (as : List mjY) (Z : mjZ) (q : mjZ → Prop) : Prop := mjW d mid as Z fun v Z' => v = none ∧ q Z'
def mjW1 (d mid : Nat) (as : List mjY) (Z : mjZ) (q : Int → mjZ → Prop) : Prop := mjW d mid as Z fun v Z' => ∃ z, v = some (yI z) ∧ q z Z'
def mjW2 (d mid : Nat) (as : List mjY) (Z : mjZ) (q : Int → mjZ → Prop) : Prop := mjW d mid as Z fun v Z' => ∃ z, v = some (yJ z) ∧ q z Z'
def mjW3 (t d mid : Nat) (as : List mjY) (Z : mjZ) (q : Nat → mjZ → Prop) : Prop := mjW d mid as Z fun v Z' => ∃ c, v = some (yR t c) ∧ q c Z'
def mjW4 (t d mid : Nat) (as : List mjY) (Z : mjZ) (q0 : mjZ → Prop) (q : Nat → mjZ → Prop) : Prop := mjW d mid as Z fun v Z' => (v = some (yV .null) ∧ q0 Z') ∨ ∃ c, v = some (yR t c) ∧ q c Z'
/-- a call whose answer is of a kind: 0 none, 1 int, 2 long, 3 a reference, 4 a reference or null -/
def mjWc (rk : Nat × Nat) (d mid : Nat) (as r : List mjY) (Z : mjZ) (next : List mjY → mjZ → Prop) : Prop := match rk.1 with
  | 0 => mjW0 d mid as Z fun Z' => next r Z'
  | 1 => mjW1 d mid as Z fun z Z' => next (yI z :: r) Z'
  | 2 => mjW2 d mid as Z fun z Z' => next (yJ z :: r) Z'
  | 3 => mjW3 rk.2 d mid as Z fun c Z' => next (yR rk.2 c :: r) Z'
  | _ => mjW4 rk.2 d mid as Z (fun Z' => next (yV .null :: r) Z') fun c Z' => next (yR rk.2 c :: r) Z'
def mjSpY : Nat → List mjY → List mjY → Option (List mjY × List mjY)
  | 0, s, acc => some (acc, s)
  | n + 1, v :: s, acc => mjSpY n s (v :: acc)
  | _ + 1, [], _ => none
def mjCz (c : Jvm.ClassFile.Cond) (x y : Int) : Prop := match c with
  | .eq => x = y
  | .ne => x ≠ y
  | .lt => x < y
  | .ge => y ≤ x
  | .gt => y < x
  | .le => x ≤ y
def mjCm (x y : Int) : Int := if x < y then -1 else if x = y then 0 else 1
def mjI2 (f : Int32 → Int32 → Int32) (x y : Int) : Int := (f (Int32.ofInt x) (Int32.ofInt y)).toInt
def mjJ2 (f : Int64 → Int64 → Int64) (x y : Int) : Int := (f (Int64.ofInt x) (Int64.ofInt y)).toInt
def mjJI (f : Int64 → Int32 → Int64) (x y : Int) : Int := (f (Int64.ofInt x) (Int32.ofInt y)).toInt
abbrev mjAndI (x y : Int) : Int := mjI2 (fun x y => x &&& y) x y
abbrev mjShlI (x y : Int) : Int := mjI2 (fun x y => x <<< (y &&& 31)) x y
abbrev mjShrI (x y : Int) : Int := mjI2 (fun x y => x >>> (y &&& 31)) x y
abbrev mjUshI (x y : Int) : Int := mjI2 (fun x y => (x.toUInt32 >>> (y.toUInt32 &&& Int32.toUInt32 31)).toInt32) x y
abbrev mjAndJ (x y : Int) : Int := mjJ2 (fun x y => x &&& y) x y
abbrev mjOrJ (x y : Int) : Int := mjJ2 (fun x y => x ||| y) x y
abbrev mjShlJ (x y : Int) : Int := mjJI (fun x y => x <<< (y.toInt64 &&& 63)) x y
abbrev mjShrJ (x y : Int) : Int := mjJI (fun x y => x >>> (y.toInt64 &&& 63)) x y
abbrev mjUshJ (x y : Int) : Int := mjJI (fun x y => (x.toUInt64 >>> (y.toInt64.toUInt64 &&& Int64.toUInt64 63)).toInt64) x y
abbrev mjNx : Type := Nat → mjYl → List mjY → mjZ → Prop
def wII (f : Int → Int → Int) (pc : Nat) (l : mjYl) (s : List mjY) (Z : mjZ) (next : mjNx) : Prop := match s with
  | .inl y :: .inl x :: r => next (pc + 1) l (yI (f x y) :: r) Z
  | _ => False
def wLL (f : Int → Int → Int) (pc : Nat) (l : mjYl) (s : List mjY) (Z : mjZ) (next : mjNx) : Prop := match s with
  | .inr (.inl y) :: .inr (.inl x) :: r => next (pc + 1) l (yJ (f x y) :: r) Z
  | _ => False
def wLI (f : Int → Int → Int) (pc : Nat) (l : mjYl) (s : List mjY) (Z : mjZ) (next : mjNx) : Prop := match s with
  | .inl y :: .inr (.inl x) :: r => next (pc + 1) l (yJ (f x y) :: r) Z
  | _ => False
def mjPk (v : mjY) : Nat := match v with
  | .inl _ => 0
  | .inr (.inl _) => 1
  | _ => 4
def wK (v : Value) : mjY := match v with
  | .int x => yI x.toInt
  | .long x => yJ x.toInt
  | v => yV v
/-- an instruction without calls, returns, branches -/
def wpp (nL : Nat) (ins : Instr) (k : mjK) (pc : Nat) (l : mjYl) (s : List mjY) (Z : mjZ) (next : mjNx) : Prop := match ins with
  | .aconst_null => next (pc + 1) l (yV .null :: s) Z
  | .iconst n => next (pc + 1) l (yI n :: s) Z
  | .bipush n => next (pc + 2) l (yI (Int8.ofInt n).toInt :: s) Z
  | .sipush n => next (pc + 3) l (yI (Int16.ofInt n).toInt :: s) Z
  | .lconst n => next (pc + 1) l (yJ (n : Nat) :: s) Z
  | .ldc _ => next (pc + 2) l (wK k.2.2.2.2.2 :: s) Z
  | .ldc_w _ => next (pc + 3) l (wK k.2.2.2.2.2 :: s) Z
  | .ldc2_w _ => next (pc + 3) l (wK k.2.2.2.2.2 :: s) Z
  | .iload i => mjOn (mjLdY 0 i l) fun v => next (pc + 2) l (v :: s) Z
  | .iload_n i => mjOn (mjLdY 0 i.val l) fun v => next (pc + 1) l (v :: s) Z
  | .lload i => mjOn (mjLdY 1 i l) fun v => next (pc + 2) l (v :: s) Z
  | .lload_n i => mjOn (mjLdY 1 i.val l) fun v => next (pc + 1) l (v :: s) Z
  | .dload i => mjOn (mjLdY 2 i l) fun v => next (pc + 2) l (v :: s) Z
  | .dload_n i => mjOn (mjLdY 2 i.val l) fun v => next (pc + 1) l (v :: s) Z
  | .aload i => mjOn (mjLdY 4 i l) fun v => next (pc + 2) l (v :: s) Z
  | .aload_n i => mjOn (mjLdY 4 i.val l) fun v => next (pc + 1) l (v :: s) Z
  | .istore i => match s with
    | v :: r => mjOn (mjS1Y 0 i nL v l) fun l' => next (pc + 2) l' r Z
    | _ => False
  | .istore_n i => match s with
    | v :: r => mjOn (mjS1Y 0 i.val nL v l) fun l' => next (pc + 1) l' r Z
    | _ => False
  | .lstore i => match s with
    | v :: r => mjOn (mjS2Y 1 i nL v l) fun l' => next (pc + 2) l' r Z
    | _ => False
  | .lstore_n i => match s with
    | v :: r => mjOn (mjS2Y 1 i.val nL v l) fun l' => next (pc + 1) l' r Z
    | _ => False
  | .dstore i => match s with
    | v :: r => mjOn (mjS2Y 2 i nL v l) fun l' => next (pc + 2) l' r Z
    | _ => False
  | .dstore_n i => match s with
    | v :: r => mjOn (mjS2Y 2 i.val nL v l) fun l' => next (pc + 1) l' r Z
    | _ => False
  | .astore i => match s with
    | v :: r => mjOn (mjS1Y 4 i nL v l) fun l' => next (pc + 2) l' r Z
    | _ => False
  | .astore_n i => match s with
    | v :: r => mjOn (mjS1Y 4 i.val nL v l) fun l' => next (pc + 1) l' r Z
    | _ => False
  | .iinc i n => match mjLkY i l with
    | some (.inl x) => mjOn (mjS1Y 0 i nL (yI (x + n)) l) fun l' => next (pc + 3) l' s Z
    | _ => False
  | .iadd => wII (fun x y => x + y) pc l s Z next
  | .isub => wII (fun x y => x - y) pc l s Z next
  | .imul => wII (fun x y => x * y) pc l s Z next
  | .iand => wII mjAndI pc l s Z next
  | .ishl => wII mjShlI pc l s Z next
  | .ishr => wII mjShrI pc l s Z next
  | .iushr => wII mjUshI pc l s Z next
  | .idiv => match s with
    | .inl y :: .inl x :: r => mjR x ∧ mjR y ∧ y ≠ 0 ∧ next (pc + 1) l (yI (x.tdiv y) :: r) Z
    | _ => False
  | .irem => match s with
    | .inl y :: .inl x :: r => mjR x ∧ mjR y ∧ y ≠ 0 ∧ next (pc + 1) l (yI (x.tmod y) :: r) Z
    | _ => False
  | .ineg => match s with
    | .inl x :: r => next (pc + 1) l (yI (-x) :: r) Z
    | _ => False
  | .ladd => wLL (fun x y => x + y) pc l s Z next
  | .lsub => wLL (fun x y => x - y) pc l s Z next
  | .lmul => wLL (fun x y => x * y) pc l s Z next
  | .land => wLL mjAndJ pc l s Z next
  | .lor => wLL mjOrJ pc l s Z next
  | .ldiv => match s with
    | .inr (.inl y) :: .inr (.inl x) :: r => mjRL x ∧ mjRL y ∧ y ≠ 0 ∧ next (pc + 1) l (yJ (x.tdiv y) :: r) Z
    | _ => False
  | .lrem => match s with
    | .inr (.inl y) :: .inr (.inl x) :: r => mjRL x ∧ mjRL y ∧ y ≠ 0 ∧ next (pc + 1) l (yJ (x.tmod y) :: r) Z
    | _ => False
  | .lneg => match s with
    | .inr (.inl x) :: r => next (pc + 1) l (yJ (-x) :: r) Z
    | _ => False
  | .lshl => wLI mjShlJ pc l s Z next
  | .lshr => wLI mjShrJ pc l s Z next
  | .lushr => wLI mjUshJ pc l s Z next
  | .lcmp => match s with
    | .inr (.inl y) :: .inr (.inl x) :: r => mjRL x ∧ mjRL y ∧ next (pc + 1) l (yI (mjCm x y) :: r) Z
    | _ => False
  | .i2l => match s with
    | .inl x :: r => mjR x ∧ next (pc + 1) l (yJ x :: r) Z
    | _ => False
  | .l2i => match s with
    | .inr (.inl x) :: r => next (pc + 1) l (yI x :: r) Z
    | _ => False
  | .i2d => match s with
    | .inl x :: r => next (pc + 1) l (yV (.double (FP.i2d (Int32.ofInt x))) :: r) Z
    | _ => False
  | .l2d => match s with
    | .inr (.inl x) :: r => next (pc + 1) l (yV (.double (FP.l2d (Int64.ofInt x))) :: r) Z
    | _ => False
  | .d2i => match s with
    | .inr (.inr (.inr (.double x))) :: r => next (pc + 1) l (yI (FP.d2i x).toInt :: r) Z
    | _ => False
  | .d2l => match s with
    | .inr (.inr (.inr (.double x))) :: r => next (pc + 1) l (yJ (FP.d2l x).toInt :: r) Z
    | _ => False
  | .f2d => match s with
    | .inr (.inr (.inr (.float x))) :: r => (FP.f2d x) &&& 0x7fffffffffffffff ≤ 0x7ff0000000000000 ∧ next (pc + 1) l (yV (.double (FP.f2d x)) :: r) Z
    | _ => False
  | .dcmp op => match s with
    | .inr (.inr (.inr (.double y))) :: .inr (.inr (.inr (.double x))) :: r => next (pc + 1) l (yI (Op.cmpValue (FP.dcmp x y) op).toInt :: r) Z
    | _ => False
  | .dup => match s with
    | v :: r => bif Nat.beq (mjYv v).category 1 then next (pc + 1) l (v :: v :: r) Z else False
    | _ => False
  | .pop => match s with
    | v :: r => bif Nat.beq (mjYv v).category 1 then next (pc + 1) l r Z else False
    | _ => False
  | .dup2 => match s with
    | v :: w :: r => bif Nat.beq (mjYv v).category 1 && Nat.beq (mjYv w).category 1 then next (pc + 1) l (v :: w :: v :: w :: r) Z else False
    | _ => False
  | .goto off => mjOn (mjJmp pc off) fun n => next n l s Z
  | .getfield _ => match s with
    | .inr (.inr (.inl q)) :: r => bif Nat.beq q.1 k.2.1 && Nat.blt q.1 12 then mjOn (mjGf k.2.1 k.2.2.1 q.2 Z) fun v => (bif (match mjKf k.2.1 k.2.2.1 with | some (2, _, _) => true | _ => false) then mjGk k.2.1 k.2.2.1 q.2 Z ∧ next (pc + 3) l (v :: r) Z else next (pc + 3) l (v :: r) Z) else False
    | _ => False
  | .putfield _ => match s with
    | v :: .inr (.inr (.inl q)) :: r => bif Nat.beq q.1 k.2.1 && Nat.blt q.1 12 then mjOn (mjPz k.2.1 k.2.2.1 v) fun z => (bif Nat.beq k.2.2.2.1 2 then (v = yI z ∧ (z = 0 ∨ z = 1)) ∧ next (pc + 3) l r (mjUp Z q.2 k.2.2.1 z) else bif Nat.beq k.2.2.2.1 (mjPk v) then next (pc + 3) l r (mjUp Z q.2 k.2.2.1 z) else False) else False
    | _ => False
  | .iaload => match s with
    | .inl z :: .inr (.inr (.inl q)) :: r => bif mjIt q.1 then 0 ≤ z ∧ z < mjNn q.1 q.2 ∧ next (pc + 1) l (yI (Z q.2 z.toNat) :: r) Z else False
    | _ => False
  | .laload => match s with
    | .inl z :: .inr (.inr (.inl q)) :: r => bif Nat.ble 20000 q.1 then 0 ≤ z ∧ z < (q.1 - 20000 : Nat) ∧ next (pc + 1) l (yJ (Z q.2 z.toNat) :: r) Z else False
    | _ => False
  | .aaload => match s with
    | .inl z :: .inr (.inr (.inl q)) :: r => bif Nat.blt 29 q.1 && Nat.blt q.1 38 then 0 ≤ z ∧ z < (mjRw q.1).1 ∧ (bif Nat.beq q.1 35 then mjEk q.1 q.2 Z z ∧ next (pc + 1) l (yR (mjRw q.1).2.1 (mjEc q.1 q.2 Z z) :: r) Z else next (pc + 1) l (yR (mjRw q.1).2.1 (mjEc q.1 q.2 Z z) :: r) Z) else False
    | _ => False
  | .iastore => match s with
    | .inl x :: .inl z :: .inr (.inr (.inl q)) :: r => bif mjIt q.1 then 0 ≤ z ∧ z < mjNn q.1 q.2 ∧ next (pc + 1) l r (mjUp Z q.2 z.toNat x) else False
    | _ => False
  | .lastore => match s with
    | .inr (.inl x) :: .inl z :: .inr (.inr (.inl q)) :: r => bif Nat.ble 20000 q.1 then 0 ≤ z ∧ z < (q.1 - 20000 : Nat) ∧ next (pc + 1) l r (mjUp Z q.2 z.toNat x) else False
    | _ => False
  | .aastore => match s with
    | .inr (.inr (.inl v)) :: .inl z :: .inr (.inr (.inl q)) :: r => bif Nat.beq q.1 35 && Nat.beq v.1 0 then 0 ≤ z ∧ z < 36 ∧ next (pc + 1) l r (mjUp Z q.2 z.toNat v.2) else False
    | _ => False
  | .arraylength => match s with
    | .inr (.inr (.inl q)) :: r => bif mjIt q.1 then next (pc + 1) l (yI (mjNn q.1 q.2) :: r) Z else bif Nat.ble 20000 q.1 then next (pc + 1) l (yI (q.1 - 20000 : Nat) :: r) Z else False
    | _ => False
  | _ => False
