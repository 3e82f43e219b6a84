/-! Rules: an instruction, a rule, whatever the heap holds elsewhere. -/
section MJU
variable {d nL : Nat} {sc : Option (List Int32)} {tab : mjTab} {pc len n : Nat} {off : Int} {k : mjK} {l : mjL} {s r : List Value} {h : mjH}
theorem mjTo.ifT {c : Jvm.ClassFile.Cond} {x : Int32} (h1 : tab pc = some (.ifCond c off, len, k)) (h2 : mjCmp c x 0 = true) (h3 : mjJmp pc off = some n) : mjTo d nL sc tab (pc, l, .int x :: s, h) (n, l, s, h) :=
  mjTo.step h1 fun call => by simp only [mjStep, mjBr, h2, h3]; rfl
theorem mjTo.ifF {c : Jvm.ClassFile.Cond} {x : Int32} (h1 : tab pc = some (.ifCond c off, len, k)) (h2 : mjCmp c x 0 = false) (h3 : mjJmp pc off = some n) : mjTo d nL sc tab (pc, l, .int x :: s, h) (pc + 3, l, s, h) :=
  mjTo.step h1 fun call => by simp only [mjStep, mjBr, h2, h3]; rfl
theorem mjTo.icT {c : Jvm.ClassFile.Cond} {x y : Int32} (h1 : tab pc = some (.if_icmp c off, len, k)) (h2 : mjCmp c x y = true) (h3 : mjJmp pc off = some n) : mjTo d nL sc tab (pc, l, .int y :: .int x :: s, h) (n, l, s, h) :=
  mjTo.step h1 fun call => by simp only [mjStep, mjBr, h2, h3]; rfl
theorem mjTo.icF {c : Jvm.ClassFile.Cond} {x y : Int32} (h1 : tab pc = some (.if_icmp c off, len, k)) (h2 : mjCmp c x y = false) (h3 : mjJmp pc off = some n) : mjTo d nL sc tab (pc, l, .int y :: .int x :: s, h) (pc + 3, l, s, h) :=
  mjTo.step h1 fun call => by simp only [mjStep, mjBr, h2, h3]; rfl
theorem mjTo.getf {idx t ci fk u v a : Nat} {z w : Value} {fs : List Value} (h1 : tab pc = some (.getfield idx, len, (t, ci, fk, u, v, z))) (h2 : h[a]? = some (.inl (ci, fs))) (h3 : fs[fk]? = some w) : mjTo d nL sc tab (pc, l, .ref (a + 1) :: s, h) (pc + 3, l, w :: s, h) :=
  mjTo.step h1 fun call => by simp only [mjStep, mjFld, h2, Nat.beq_refl, cond_true, h3]; rfl
theorem mjTo.putf {idx t ci fk u v a : Nat} {z w : Value} {fs : List Value} (h1 : tab pc = some (.putfield idx, len, (t, ci, fk, u, v, z))) (h2 : h[a]? = some (.inl (ci, fs))) (h3 : mjTy u w = true) : mjTo d nL sc tab (pc, l, w :: .ref (a + 1) :: s, h) (pc + 3, l, s, h.set a (.inl (ci, fs.set fk w))) :=
  mjTo.step h1 fun call => by simp only [mjStep, mjPut, h2, Nat.beq_refl, h3]; rfl
theorem mjTo.sald {xs : List Int32} {i x : Int32} (h1 : tab pc = some (.iaload, len, k)) (h2 : sc = some xs) (h3 : mjAt? xs i = some x) : mjTo d nL sc tab (pc, l, .int i :: .ref 0 :: s, h) (pc + 1, l, .int x :: s, h) :=
  mjTo.step h1 fun call => by simp only [mjStep, mjSc, h2, Option.bind_some, h3]
theorem mjTo.iald {a : Nat} {xs : List Int32} {i x : Int32} (h1 : tab pc = some (.iaload, len, k)) (h2 : h[a]? = some (.inr (.inl xs))) (h3 : mjAt? xs i = some x) : mjTo d nL sc tab (pc, l, .int i :: .ref (a + 1) :: s, h) (pc + 1, l, .int x :: s, h) :=
  mjTo.step h1 fun call => by simp only [mjStep, mjSc, mjArI, h2, Option.bind_some, h3]
theorem mjTo.lald {a : Nat} {xs : List Int64} {i : Int32} {x : Int64} (h1 : tab pc = some (.laload, len, k)) (h2 : h[a]? = some (.inr (.inr (.inl xs)))) (h3 : mjAt? xs i = some x) : mjTo d nL sc tab (pc, l, .int i :: .ref (a + 1) :: s, h) (pc + 1, l, .long x :: s, h) :=
  mjTo.step h1 fun call => by simp only [mjStep, mjArJ, h2, Option.bind_some, h3]
theorem mjTo.aald {a ci : Nat} {xs : List (Option Nat)} {i : Int32} {x : Option Nat} (h1 : tab pc = some (.aaload, len, k)) (h2 : h[a]? = some (.inr (.inr (.inr (ci, xs))))) (h3 : mjAt? xs i = some x) : mjTo d nL sc tab (pc, l, .int i :: .ref (a + 1) :: s, h) (pc + 1, l, va_rf x :: s, h) :=
  mjTo.step h1 fun call => by simp only [mjStep, mjArR, h2, Option.bind_some, h3]
theorem mjTo.iast {a : Nat} {xs : List Int32} {i x : Int32} (h1 : tab pc = some (.iastore, len, k)) (h2 : h[a]? = some (.inr (.inl xs))) (h3 : mjIn i xs.length = true) : mjTo d nL sc tab (pc, l, .int x :: .int i :: .ref (a + 1) :: s, h) (pc + 1, l, s, h.set a (.inr (.inl (xs.set i.toNatClampNeg x)))) :=
  mjTo.step h1 fun call => by simp only [mjStep, mjArI, h2, Option.bind_some, h3]; rfl
theorem mjTo.last {a : Nat} {xs : List Int64} {i : Int32} {x : Int64} (h1 : tab pc = some (.lastore, len, k)) (h2 : h[a]? = some (.inr (.inr (.inl xs)))) (h3 : mjIn i xs.length = true) : mjTo d nL sc tab (pc, l, .long x :: .int i :: .ref (a + 1) :: s, h) (pc + 1, l, s, h.set a (.inr (.inr (.inl (xs.set i.toNatClampNeg x))))) :=
  mjTo.step h1 fun call => by simp only [mjStep, mjArJ, h2, Option.bind_some, h3]; rfl
theorem mjTo.leni {a : Nat} {xs : List Int32} (h1 : tab pc = some (.arraylength, len, k)) (h2 : h[a]? = some (.inr (.inl xs))) : mjTo d nL sc tab (pc, l, .ref (a + 1) :: s, h) (pc + 1, l, .int (Int32.ofNat xs.length) :: s, h) :=
  mjTo.step h1 fun call => by simp only [mjStep, mjLen, h2, Option.bind_some]
end MJU
