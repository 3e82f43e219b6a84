/-! A step of the small machine is a step of the machine. -/
/-- the links of an instruction: what the tables must say of it -/
def mjFL (own : String) (idx : Nat) (k : mjK) (r : vw_C) : Bool :=
  (Nat.beq k.1 1 && decide (tables_1[k.2.2.2.2.1]? = some (.fieldLink own idx r.1 (r.2.1 k.2.2.1).2.1 (r.2.1 k.2.2.1).2.2.1))) ||
  (Nat.beq k.1 2 && decide (tables_1[k.2.2.2.2.1]? = some (.fieldLinkNest own idx r.1 (r.2.1 k.2.2.1).2.1 (r.2.1 k.2.2.1).2.2.1 "TableBench")))
def mjTyOk (t : Nat) (ty : FieldType) : Bool := match t, ty with
  | 0, .int => true
  | 1, .long => true
  | 2, .boolean => true
  | 4, .object _ => true
  | 4, .array _ => true
  | _, _ => false
def mjLinkB (own : String) (ini : Bool) (ins : Instr) (k : mjK) : Bool := match ins with
  | .getfield idx => match vwCl[k.2.1]? with
    | some r => Nat.blt k.2.2.1 r.2.2 && ((r.2.1 k.2.2.1).1 == r.1) && mjFL own idx k r
    | none => false
  | .putfield idx => match vwCl[k.2.1]? with
    | some r => Nat.blt k.2.2.1 r.2.2 && ((r.2.1 k.2.2.1).1 == r.1) && mjFL own idx k r && (match parseFieldDescriptor (r.2.1 k.2.2.1).2.2.1 with | some ty => mjTyOk k.2.2.2.1 ty | none => false) &&
      (!(r.2.1 k.2.2.1).2.2.2 || (ini && (own == r.1) && Nat.beq k.1 1))
    | none => false
  | .ldc idx => match k.2.2.2.2.2 with
    | .int v => decide (tables_1[k.2.2.2.2.1]? = some (.constant own idx v))
    | _ => false
  | .ldc_w idx => match k.2.2.2.2.2 with
    | .int v => decide (tables_1[k.2.2.2.2.1]? = some (.constant own idx v))
    | _ => false
  | .ldc2_w idx => match k.2.2.2.2.2 with
    | .long v => decide (tables_1[k.2.2.2.2.1]? = some (.constantLong own idx v))
    | .double v => decide (tables_1[k.2.2.2.2.1]? = some (.constantDouble own idx v))
    | _ => false
  | .new idx => match vwCl[k.2.1]? with
    | some r => decide (tables_1[k.2.2.2.2.1]? = some (.classLink own idx r.1))
    | none => false
  | .anewarray idx => match vwCl[k.2.1]? with
    | some r => decide (tables_1[k.2.2.2.2.1]? = some (.classLink own idx r.1)) && (r.1 == "TableBench$Leaf" || r.1 == "TableBench$Table" || r.1 == "TableBench$Big")
    | none => false
  | .invokevirtual idx => match mjMt[k.2.1]?, vwCl[k.2.2.2.1]? with
    | some q, some r => Nat.beq q.2.1 0 && (r.1 == q.1.1.cls) && decide ((parseMethodDescriptor q.1.1.desc).map (fun d => d.parameters.length) = some k.2.2.1) && decide (tables_1[k.2.2.2.2.1]? = some (.methodLink own idx q.1.1))
    | _, _ => false
  | .invokestatic idx =>
    bif Nat.beq k.1 3 then (match mjMt[k.2.1]? with
      | some q => Nat.beq q.2.1 1 && decide ((parseMethodDescriptor q.1.1.desc).map (fun d => d.parameters.length) = some k.2.2.1) && decide (tables_1[k.2.2.2.2.1]? = some (.methodLink own idx q.1.1))
      | none => false)
    else (match k.1 with
      | 9 => decide (tables_1[k.2.2.2.2.1]? = some (.methodLink own idx ⟨"java/lang/Float", "intBitsToFloat", "(I)F"⟩))
      | 10 => decide (tables_1[k.2.2.2.2.1]? = some (.methodLink own idx ⟨"java/lang/Double", "longBitsToDouble", "(J)D"⟩))
      | 11 => decide (tables_1[k.2.2.2.2.1]? = some (.methodLink own idx Lib.Math.max.name))
      | 12 => decide (tables_1[k.2.2.2.2.1]? = some (.methodLink own idx Lib.Math.min.name))
      | 13 => decide (tables_1[k.2.2.2.2.1]? = some (.methodLink own idx Lib.Math.abs.name))
      | 14 => decide (tables_1[k.2.2.2.2.1]? = some (.methodLink own idx Lib.MathLoose.abs_long.x))
      | _ => false)
  | .invokespecial idx => bif Nat.beq k.1 8 then decide (tables_1[k.2.2.2.2.1]? = some (.methodLink own idx objectInit))
    else (match mjMt[k.2.1]? with
      | some q => Nat.beq q.2.1 2 && decide ((parseMethodDescriptor q.1.1.desc).map (fun d => d.parameters.length) = some k.2.2.1) &&
        ((Nat.beq k.1 3 && decide (tables_1[k.2.2.2.2.1]? = some (.methodLink own idx q.1.1))) || (Nat.beq k.1 4 && decide (tables_1[k.2.2.2.2.1]? = some (.methodLinkNest own idx q.1.1 "TableBench"))))
      | none => false)
  | _ => true
/-- an instruction's length; a switch's own is handed on -/
def mjIl (ins : Instr) (n : Nat) : Nat := match ins with
  | .aconst_null => 1
  | .iconst _ => 1
  | .bipush _ => 2
  | .sipush _ => 3
  | .lconst _ => 1
  | .ldc _ => 2
  | .ldc_w _ => 3
  | .ldc2_w _ => 3
  | .iload _ => 2
  | .iload_n _ => 1
  | .lload _ => 2
  | .lload_n _ => 1
  | .dload _ => 2
  | .dload_n _ => 1
  | .aload _ => 2
  | .aload_n _ => 1
  | .istore _ => 2
  | .istore_n _ => 1
  | .lstore _ => 2
  | .lstore_n _ => 1
  | .dstore _ => 2
  | .dstore_n _ => 1
  | .astore _ => 2
  | .astore_n _ => 1
  | .iinc _ _ => 3
  | .goto _ => 3
  | .ifCond _ _ => 3
  | .if_icmp _ _ => 3
  | .ifnull _ => 3
  | .ifnonnull _ => 3
  | .tableswitch _ _ _ _ => n
  | .getfield _ => 3
  | .putfield _ => 3
  | .newarray _ => 2
  | .anewarray _ => 3
  | .new _ => 3
  | .invokevirtual _ => 3
  | .invokestatic _ => 3
  | .invokespecial _ => 3
  | _ => 1
/-- what is known of the frame that walks -/
def mjX (p : Program) (R : Room) (s : State) (m : MethodId) (args : Array Value) (meth : Method) (c : Code) (cc : ByteArray) (nL : Nat) (own : String) (ini : Bool) (D : va_G) (b base d : Nat) (sc : Option (List Int32)) (H0 : Heap) : Prop :=
  p.tables.exec = Jvm.exec ∧ c.code = cc ∧ c.maxLocals = nL ∧ s.vm.findClass own = some m.cls ∧ (∀ w ∈ lw_g, w.before args s = true) ∧ va_K D vwCl [] s ∧ mjAO s ∧ d ≤ R.frames ∧ 41 * d ≤ R.locals ∧ base ≤ H0.size ∧ (ini = true → meth.name = "<init>") ∧ (∀ xs : List Int32, sc = some xs → va_X b xs.length (fun j => xs.getD j 0) s H0 ∧ b < H0.size ∧ b < base)
/-- the method that a call runs, by its number, does what the small machine says -/
def mjCallOK (L0 : Launch) (D : va_G) (b base d : Nat) (call : mjT) : Prop := ∀ (mid : Nat) (as : List Value) (h : mjH) (r : Option Value) (h' : mjH), call mid as h = some (r, h') →
  ∃ q : mjM, mjMt[mid]? = some q ∧ h.length ≤ h'.length ∧ mjSz h ≤ mjSz h' ∧ 0 < d ∧
    Met L0 q.1.1 (Cond.code q.1.1 q.1.2.1 q.1.2.2.1 q.1.2.2.2 :: lw_g) { frames := d - 1, cells := h'.length - h.length, slots := mjSz h' - mjSz h, locals := 41 * (d - 1) }
      (va_Pc (mjSm b base as) (fun U => mjJ U D b base h U.heap ∧ va_K D vwCl [] U ∧ mjAO U))
      (fun _ st o t => o = .returned (r.map (mjVr b base)) ∧ mjJ t D b base h' t.heap ∧ va_F (fun q => base ≤ q) st t) (h'.length - h.length) (mjSz h' - mjSz h) (fun q => base ≤ q)
section MJS
variable {p : Program} {L0 : Launch} {e : Env} {R : Room} {s : State} {m : MethodId} {args : Array Value} {below : List Frame} {meth : Method} {c : Code} {Q : State → Prop}
variable {cc : ByteArray} {nL b base d n0 z0 : Nat} {own : String} {ini : Bool} {D : va_G} {sc : Option (List Int32)} {H0 : Heap}
/-- from a state of the small machine the machine comes to Q -/
def mjG (p : Program) (L0 : Launch) (e : Env) (R : Room) (s : State) (m : MethodId) (args : Array Value) (below : List Frame) (meth : Method) (c : Code) (Q : State → Prop) (nL b base n0 z0 : Nat) (D : va_G) (H0 : Heap) (st : mjS) : Prop :=
  ∀ (H : Heap) (locs : List Loc) (cells slots : Nat) (ls : Array Slot), mjJ s D b base st.2.2.2 H → va_S (fun q => base ≤ q) H0 H locs → cells + n0 = st.2.2.2.length → slots + z0 = mjSz st.2.2.2 → lv_has ls nL (mjLm b base st.2.1) →
    W p L0 e R s m args below meth c H locs cells slots Q (F0 m st.1 ls (mjSm b base st.2.2.1))
/-- a step: room grows, and what is known behind it is known ahead of it -/
def mjGo (p : Program) (L0 : Launch) (e : Env) (R : Room) (s : State) (m : MethodId) (args : Array Value) (below : List Frame) (meth : Method) (c : Code) (Q : State → Prop) (nL b base n0 z0 : Nat) (D : va_G) (H0 : Heap) (st st' : mjS) : Prop :=
  st.2.2.2.length ≤ st'.2.2.2.length ∧ mjSz st.2.2.2 ≤ mjSz st'.2.2.2 ∧
  (st'.2.2.2.length ≤ R.cells + n0 → mjSz st'.2.2.2 ≤ R.slots + z0 → mjG p L0 e R s m args below meth c Q nL b base n0 z0 D H0 st' → mjG p L0 e R s m args below meth c Q nL b base n0 z0 D H0 st)
theorem mjGo.pure {pc pc' : Nat} {l : mjL} {st st' : List Value} {h : mjH} (k : ∀ (H : Heap) (locs : List Loc) (cells slots : Nat) (ls : Array Slot), lv_has ls nL (mjLm b base l) → W p L0 e R s m args below meth c H locs cells slots Q (F0 m pc' ls (mjSm b base st')) → W p L0 e R s m args below meth c H locs cells slots Q (F0 m pc ls (mjSm b base st))) :
    mjGo p L0 e R s m args below meth c Q nL b base n0 z0 D H0 (pc, l, st, h) (pc', l, st', h) :=
  ⟨Nat.le_refl _, Nat.le_refl _, fun _ _ g H locs cells slots ls hJ hS hk hz hl => k H locs cells slots ls hl (g H locs cells slots ls hJ hS hk hz hl)⟩
theorem mjGo.loc {pc pc' : Nat} {l l' : mjL} {st st' : List Value} {h : mjH} (k : ∀ (H : Heap) (locs : List Loc) (cells slots : Nat) (ls : Array Slot), lv_has ls nL (mjLm b base l) → (∀ ls' : Array Slot, lv_has ls' nL (mjLm b base l') → W p L0 e R s m args below meth c H locs cells slots Q (F0 m pc' ls' (mjSm b base st'))) → W p L0 e R s m args below meth c H locs cells slots Q (F0 m pc ls (mjSm b base st))) :
    mjGo p L0 e R s m args below meth c Q nL b base n0 z0 D H0 (pc, l, st, h) (pc', l', st', h) :=
  ⟨Nat.le_refl _, Nat.le_refl _, fun _ _ g H locs cells slots ls hJ hS hk hz hl => k H locs cells slots ls hl (fun ls' hl' => g H locs cells slots ls' hJ hS hk hz hl')⟩
theorem mjGo.read {pc pc' : Nat} {l : mjL} {st st' : List Value} {h : mjH} (k : ∀ (H : Heap) (locs : List Loc) (cells slots : Nat) (ls : Array Slot), mjJ s D b base h H → va_S (fun q => base ≤ q) H0 H locs → W p L0 e R s m args below meth c H locs cells slots Q (F0 m pc' ls (mjSm b base st')) → W p L0 e R s m args below meth c H locs cells slots Q (F0 m pc ls (mjSm b base st))) :
    mjGo p L0 e R s m args below meth c Q nL b base n0 z0 D H0 (pc, l, st, h) (pc', l, st', h) :=
  ⟨Nat.le_refl _, Nat.le_refl _, fun _ _ g H locs cells slots ls hJ hS hk hz hl => k H locs cells slots ls hJ hS (g H locs cells slots ls hJ hS hk hz hl)⟩
theorem mjGo.room {pc pc' : Nat} {l : mjL} {st st' : List Value} {h : mjH} (k : ∀ (H : Heap) (locs : List Loc) (cells slots : Nat) (ls : Array Slot), cells ≤ R.cells → slots ≤ R.slots → lv_has ls nL (mjLm b base l) → W p L0 e R s m args below meth c H locs cells slots Q (F0 m pc' ls (mjSm b base st')) → W p L0 e R s m args below meth c H locs cells slots Q (F0 m pc ls (mjSm b base st))) :
    mjGo p L0 e R s m args below meth c Q nL b base n0 z0 D H0 (pc, l, st, h) (pc', l, st', h) :=
  ⟨Nat.le_refl _, Nat.le_refl _, fun r1 r2 g H locs cells slots ls hJ hS hk hz hl => k H locs cells slots ls (by have : h.length ≤ R.cells + n0 := r1; have : cells + n0 = h.length := hk; omega) (by have : mjSz h ≤ R.slots + z0 := r2; have : slots + z0 = mjSz h := hz; omega) hl (g H locs cells slots ls hJ hS hk hz hl)⟩
/-- a cell is written -/
theorem mjGo.put {pc pc' a : Nat} {l : mjL} {st st' : List Value} {h : mjH} {c0 c1 : mjC} (ha : h[a]? = some c0) (hsz : mjCs c0 = mjCs c1)
    (k : ∀ (H : Heap) (locs : List Loc) (cells slots : Nat) (ls : Array Slot), mjJ s D b base h H → (∀ (H1 : Heap) (j : Nat), H1.size = H.size → (∀ q : Nat, q ≠ base + a → H1[q]? = H[q]?) → mjAt s D b base (base + a) c1 H1 → W p L0 e R s m args below meth c H1 (locs ++ [⟨base + a, j⟩]) cells slots Q (F0 m pc' ls (mjSm b base st'))) → W p L0 e R s m args below meth c H locs cells slots Q (F0 m pc ls (mjSm b base st))) :
    mjGo p L0 e R s m args below meth c Q nL b base n0 z0 D H0 (pc, l, st, h) (pc', l, st', h.set a c1) := by
  have hlt : a < h.length := (List.getElem?_eq_some_iff.mp ha).1
  refine ⟨by simp, by rw [mjSz_set ha hsz]; exact Nat.le_refl _, fun _ _ g H locs cells slots ls hJ hS hk hz hl => k H locs cells slots ls hJ fun H1 j z oq hc => ?_⟩
  exact g H1 (locs ++ [⟨base + a, j⟩]) cells slots ls (hJ.put hlt z oq hc) (hS.put z oq (by show base ≤ base + a; omega)) (by show cells + n0 = (h.set a c1).length; rw [List.length_set]; exact hk) (by show slots + z0 = mjSz (h.set a c1); rw [mjSz_set ha hsz]; exact hz) hl
/-- a cell comes -/
theorem mjGo.push {pc pc' : Nat} {l : mjL} {st st' : List Value} {h : mjH} {c1 : mjC} (hb0 : base ≤ H0.size)
    (k : ∀ (H : Heap) (locs : List Loc) (cells slots : Nat) (ls : Array Slot), cells + 1 ≤ R.cells → slots + mjCs c1 ≤ R.slots → H.size = base + h.length → (∀ H1 : Heap, H1.size = H.size + 1 → (∀ q : Nat, q < H.size → H1[q]? = H[q]?) → mjAt s D b base (base + h.length) c1 H1 → W p L0 e R s m args below meth c H1 locs (cells + 1) (slots + mjCs c1) Q (F0 m pc' ls (mjSm b base st'))) → W p L0 e R s m args below meth c H locs cells slots Q (F0 m pc ls (mjSm b base st))) :
    mjGo p L0 e R s m args below meth c Q nL b base n0 z0 D H0 (pc, l, st, h) (pc', l, st', h ++ [c1]) := by
  refine ⟨by simp, by show mjSz h ≤ mjSz (h ++ [c1]); rw [mjSz_app]; omega, fun r1 r2 g H locs cells slots ls hJ hS hk hz hl => ?_⟩
  have r1 : (h ++ [c1]).length ≤ R.cells + n0 := r1
  have r2 : mjSz (h ++ [c1]) ≤ R.slots + z0 := r2
  have hk : cells + n0 = h.length := hk
  have hz : slots + z0 = mjSz h := hz
  rw [List.length_append, List.length_singleton] at r1
  rw [mjSz_app] at r2
  refine k H locs cells slots ls (by omega) (by omega) hJ.1 fun H1 z oq hc => ?_
  have hS1 : va_S (fun q => base ≤ q) H0 H1 locs := ⟨Nat.le_trans hS.1 (by omega), fun q h1 h2 => (oq q (Nat.lt_of_lt_of_le h1 hS.1)).trans (hS.2.1 q h1 h2), hS.2.2⟩
  exact g H1 locs (cells + 1) (slots + mjCs c1) ls (hJ.push z oq hc) hS1 (by show cells + 1 + n0 = (h ++ [c1]).length; rw [List.length_append, List.length_singleton]; omega) (by show slots + mjCs c1 + z0 = mjSz (h ++ [c1]); rw [mjSz_app]; omega) hl
end MJS
