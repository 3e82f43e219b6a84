/-! Cells told by integers: what a cell is never changes after the constructors, but for the numbers and a few references in it. -/
abbrev mjZ : Type := Nat → Nat → Int
abbrev mjY : Type := Int ⊕ (Int ⊕ ((Nat × Nat) ⊕ Value))
abbrev mjYl : Type := List (Nat × mjY)
abbrev mjQ : Type := Option mjY → mjZ → Prop
abbrev yI (z : Int) : mjY := .inl z
abbrev yJ (z : Int) : mjY := .inr (.inl z)
abbrev yR (t c : Nat) : mjY := .inr (.inr (.inl (t, c)))
abbrev yV (v : Value) : mjY := .inr (.inr (.inr v))
def mjYv : mjY → Value
  | .inl z => .int (Int32.ofInt z)
  | .inr (.inl z) => .long (Int64.ofInt z)
  | .inr (.inr (.inl q)) => .ref (q.2 + 1)
  | .inr (.inr (.inr v)) => v
def mjSh (c : Nat) : mjC := mjHP.getD c (.inl (99, []))
/-- references that change: by the class's number and the field's place -/
def mjMu (ci fk : Nat) : Bool := (Nat.beq ci 1 && Nat.beq fk 2) || (Nat.beq ci 1 && Nat.beq fk 3) || (Nat.beq ci 1 && Nat.beq fk 4) || (Nat.beq ci 4 && Nat.beq fk 1) || (Nat.beq ci 4 && Nat.beq fk 2) || (Nat.beq ci 7 && Nat.beq fk 5) || (Nat.beq ci 7 && Nat.beq fk 6) || (Nat.beq ci 7 && Nat.beq fk 7)
def mjFv (m : Bool) (t : Value) (z : Int) : Value := match t with
  | .int _ => .int (Int32.ofInt z)
  | .long _ => .long (Int64.ofInt z)
  | .ref r => bif m then .ref (z.toNat + 1) else .ref r
  | v => v
def mjFs2 (ci : Nat) : Nat → List Value → (Nat → Int) → List Value
  | _, [], _ => []
  | k, t :: ts, z => mjFv (mjMu ci k) t (z k) :: mjFs2 ci (k + 1) ts z
def mjFill (c : mjC) (z : Nat → Int) : mjC := match c with
  | .inl o => .inl (o.1, mjFs2 o.1 0 o.2 z)
  | .inr (.inl xs) => .inr (.inl (mjA xs.length fun i => Int32.ofInt (z i)))
  | .inr (.inr (.inl xs)) => .inr (.inr (.inl (mjA xs.length fun i => Int64.ofInt (z i))))
  | .inr (.inr (.inr o)) => .inr (.inr (.inr (o.1, bif Nat.beq o.2.length 36 then mjA 36 (fun i => some ((z i).toNat + 1)) else o.2)))
def mjMZ (Z : mjZ) : mjH := mjA 494 fun c => mjFill (mjSh c) (Z c)
/-- rows of references: the tag by the cell; by the tag: length, class, first element's place behind the row, way between elements -/
def mjRt (c : Nat) : Nat := bif Nat.beq c 1 then 30 else bif Nat.beq c 34 then 31 else bif Nat.beq c 155 then 32 else bif Nat.beq c 266 then 33 else bif Nat.beq c 281 then 33 else bif Nat.beq c 296 then 33 else bif Nat.beq c 325 then 34 else bif Nat.beq c 343 then 35 else bif Nat.beq c 344 then 36 else bif Nat.beq c 345 then 37 else 0
def mjRw (t : Nat) : Nat × Nat × Nat × Nat := bif Nat.beq t 30 then (16, 2, 1, 2) else bif Nat.beq t 31 then (60, 6, 1, 2) else bif Nat.beq t 32 then (48, 0, 1, 2) else bif Nat.beq t 33 then (7, 0, 1, 2) else bif Nat.beq t 34 then (7, 0, 3, 2) else bif Nat.beq t 35 then (36, 0, 44, 2) else bif Nat.beq t 36 then (6, 0, 19, 4) else bif Nat.beq t 37 then (6, 0, 20, 4) else (0, 0, 0, 0)
/-- fields: 0 int, 1 long, 2 a reference that changes, 3 one that stays; the tag; how far behind the object -/
def mjKl (ci : Nat) : List (Nat × Nat × Nat) := bif Nat.beq ci 0 then [(0, 0, 0), (0, 0, 0), (3, 100, 1)] else bif Nat.beq ci 1 then [(3, 100, 1), (3, 100, 2), (2, 0, 0), (2, 0, 0), (2, 0, 0)] else bif Nat.beq ci 2 then [(0, 0, 0), (0, 0, 0), (3, 20008, 1)] else bif Nat.beq ci 3 then [(0, 0, 0), (3, 20007, 1)] else bif Nat.beq ci 4 then [(0, 0, 0), (2, 20036, 0), (2, 20036, 0)] else bif Nat.beq ci 5 then [(3, 34, 1), (3, 0, 2), (0, 0, 0), (0, 0, 0), (0, 0, 0)] else bif Nat.beq ci 6 then [(0, 0, 0), (0, 0, 0), (3, 10036, 1)] else bif Nat.beq ci 7 then [(3, 3, 1), (3, 3, 3), (3, 3, 5), (3, 3, 7), (3, 4, 9), (2, 33, 0), (2, 33, 0), (2, 33, 0), (3, 0, 57), (3, 0, 59), (3, 1, 61)] else bif Nat.beq ci 8 then [(0, 0, 0), (3, 35, 1), (3, 36, 2), (3, 37, 3), (3, 0, 4), (3, 0, 6), (3, 0, 8), (3, 0, 10), (3, 1, 12)] else bif Nat.beq ci 9 then [(3, 4, 1), (3, 10006, 4)] else bif Nat.beq ci 10 then [(3, 30, 1), (3, 31, 34), (0, 0, 0), (3, 32, 155), (0, 0, 0), (3, 10004, 252), (0, 0, 0), (0, 0, 0), (0, 0, 0), (3, 10009, 253), (1, 0, 0), (3, 7, 254), (3, 5, 324), (3, 8, 342), (3, 9, 459)] else bif Nat.beq ci 11 then [(3, 10016, 1), (3, 10016, 2), (3, 20128, 3), (0, 0, 0), (3, 10060, 4), (3, 10060, 5), (3, 12160, 6), (3, 10036, 7), (0, 0, 0), (0, 0, 0), (3, 10009, 8), (1, 0, 0), (0, 0, 0), (0, 0, 0), (3, 10004, 9), (3, 23072, 10), (3, 10128, 11), (3, 10128, 12), (0, 0, 0), (3, 20049, 13), (3, 20036, 14), (3, 20036, 15), (3, 20007, 16), (3, 20024, 17), (3, 10144, 18), (3, 20168, 19), (3, 20008, 20), (3, 20008, 21), (3, 20008, 22), (3, 20008, 23), (0, 0, 0), (3, 20007, 24), (0, 0, 0), (3, 10006, 25), (0, 0, 0), (0, 0, 0), (0, 0, 0), (3, 20007, 26), (3, 10006, 27), (3, 10006, 28), (0, 0, 0), (3, 10032, 29), (1, 0, 0)] else []
def mjKf (ci fk : Nat) : Option (Nat × Nat × Nat) := (mjKl ci)[fk]?
def mjTgB (t c : Nat) : Bool := Nat.blt c 494 && match mjSh c with
  | .inl o => Nat.beq t o.1
  | .inr (.inl xs) => Nat.beq t 100 || Nat.beq t (10000 + xs.length)
  | .inr (.inr (.inl xs)) => Nat.beq t (20000 + xs.length)
  | .inr (.inr (.inr _)) => Nat.beq t (mjRt c) && Nat.blt 29 t
def mjOk (t c : Nat) : Prop := mjTgB t c = true
def mjLn (c : Nat) : Nat := match mjSh c with
  | .inr (.inl xs) => xs.length
  | _ => 0
/-- a field is as its row in the table says -/
def mjFdB (ci c fk : Nat) (v : Value) : Bool := match mjKf ci fk, v with
  | some (0, _, _), .int _ => true
  | some (1, _, _), .long _ => true
  | some (2, _, _), .ref _ => mjMu ci fk
  | some (3, t, n), .ref r => !(mjMu ci fk) && Nat.beq r (c + n + 1) && mjTgB t (c + n)
  | _, _ => false
def mjFdsB (ci c : Nat) : Nat → List Value → Bool
  | _, [] => true
  | k, v :: vs => mjFdB ci c k v && mjFdsB ci c (k + 1) vs
def mjElB (t c off st : Nat) : Nat → List (Option Nat) → Bool
  | _, [] => true
  | i, some r :: rs => Nat.beq r (c + off + st * i + 1) && mjTgB t (c + off + st * i) && mjElB t c off st (i + 1) rs
  | _, none :: _ => false
/-- the tables tell every cell -/
def mjCkB (c : Nat) : Bool := match mjSh c with
  | .inl o => mjFdsB o.1 c 0 o.2 && Nat.blt o.1 12 && Nat.beq o.2.length (mjKl o.1).length
  | .inr (.inl xs) => Nat.blt xs.length 4000
  | .inr (.inr (.inl xs)) => Nat.blt xs.length 4000
  | .inr (.inr (.inr o)) => Nat.beq o.2.length (mjRw (mjRt c)).1 && Nat.beq o.1 (mjRw (mjRt c)).2.1 && mjElB (mjRw (mjRt c)).2.1 c (mjRw (mjRt c)).2.2.1 (mjRw (mjRt c)).2.2.2 0 o.2 && Nat.beq (mjRt c) 35 == Nat.beq o.2.length 36
set_option maxRecDepth 100000 in
theorem mjCk_all : (List.range 494).all mjCkB = true := by decide +kernel
theorem mjCk {c : Nat} (h : c < 494) : mjCkB c = true := List.all_eq_true.mp mjCk_all c (List.mem_range.mpr h)
