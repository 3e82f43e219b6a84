/-! Runs of a method's code, and calls at every depth. -/
def mjIsRet : Instr → Bool
  | .ireturn => true
  | .lreturn => true
  | .areturn => true
  | .return_ => true
  | _ => false
abbrev mjTab : Type := Nat → Option mjI
/-- from a frame to its return: at most n instructions -/
def mjRun (dfs : List (List Value)) (d nL : Nat) (sc : Option (List Int32)) (call : mjT) (tab : mjTab) : Nat → mjS → Option (Instr × mjS)
  | 0, _ => none
  | n + 1, st => (tab st.1).bind fun e => bif mjIsRet e.1 then some (e.1, st) else (mjStep dfs d nL sc call e.1 e.2.2 st.1 st.2.1 st.2.2.1 st.2.2.2).bind fun st' => mjRun dfs d nL sc call tab n st'
/-- just n instructions -/
def mjGon (dfs : List (List Value)) (d nL : Nat) (sc : Option (List Int32)) (call : mjT) (tab : mjTab) : Nat → mjS → Option mjS
  | 0, st => some st
  | n + 1, st => (tab st.1).bind fun e => (mjStep dfs d nL sc call e.1 e.2.2 st.1 st.2.1 st.2.2.1 st.2.2.2).bind fun st' => mjGon dfs d nL sc call tab n st'
def mjOut (ret : Option FieldType) (ins : Instr) (s : List Value) : Option (Option Value) := match ins, s with
  | .ireturn, [.int v] => match ret with
    | some .int => some (some (.int v))
    | some .boolean => if v = 0 ∨ v = 1 then some (some (.int v)) else none
    | _ => none
  | .lreturn, [.long v] => match ret with
    | some .long => some (some (.long v))
    | _ => none
  | .areturn, [.ref a] => match ret with
    | some (.object _) => some (some (.ref a))
    | some (.array _) => some (some (.ref a))
    | _ => none
  | .areturn, [.null] => match ret with
    | some (.object _) => some (some .null)
    | some (.array _) => some (some .null)
    | _ => none
  | .return_, [] => match ret with
    | none => some none
    | _ => none
  | _, _ => none
/-- every row of the table is what the code holds there, and its links stand -/
def mjTabOK (cc : ByteArray) (own : String) (ini : Bool) (tab : mjTab) : Prop := ∀ (pc : Nat) (e : mjI), tab pc = some e → decode cc pc = .ok (e.1, mjIl e.1 e.2.1) ∧ mjLinkB own ini e.1 e.2.2 = true
/-- the tables of the methods: by number, the rows; and whether the method makes -/
abbrev mjCode : Type := Nat → mjTab
def mjCall (dfs : List (List Value)) (F : Nat) (code : mjCode) : Nat → mjT
  | 0 => fun _ _ _ => none
  | d + 1 => fun mid as h => (mjMt[mid]?).bind fun q => bif Nat.ble (lg_sl as).length q.1.2.2.1 then
      (mjRun dfs d q.1.2.2.1 none (mjCall dfs F code d) (code mid) F (0, lv_args 0 as, [], h)).bind fun r => (mjOut q.1.2.2.2 r.1 r.2.2.2.1).bind fun v => some (v, r.2.2.2.2)
    else none
def mjCodeOK (code : mjCode) : Prop := ∀ (mid : Nat) (q : mjM), mjMt[mid]? = some q → mjTabOK q.1.2.1 q.1.1.cls (Nat.beq q.2.1 2) (code mid)
section MJR
variable {p : Program} {L0 : Launch} {e : Env} {R : Room} {s : State} {m : MethodId} {args : Array Value} {below : List Frame} {meth : Method} {c : Code} {Q : State → Prop}
variable {cc : ByteArray} {nL b base d n0 z0 : Nat} {own : String} {ini : Bool} {D : va_G} {sc : Option (List Int32)} {H0 : Heap}
variable {call : mjT} {tab : mjTab} {dfs : List (List Value)}
theorem mjGo.trans {s1 s2 s3 : mjS} (h1 : mjGo p L0 e R s m args below meth c Q nL b base n0 z0 D H0 s1 s2) (h2 : mjGo p L0 e R s m args below meth c Q nL b base n0 z0 D H0 s2 s3) : mjGo p L0 e R s m args below meth c Q nL b base n0 z0 D H0 s1 s3 :=
  ⟨Nat.le_trans h1.1 h2.1, Nat.le_trans h1.2.1 h2.2.1, fun r1 r2 g => h1.2.2 (Nat.le_trans h2.1 r1) (Nat.le_trans h2.2.1 r2) (h2.2.2 r1 r2 g)⟩
theorem mjGo.refl {s1 : mjS} : mjGo p L0 e R s m args below meth c Q nL b base n0 z0 D H0 s1 s1 := ⟨Nat.le_refl _, Nat.le_refl _, fun _ _ g => g⟩
theorem mj_gon (hdf : mjDfs dfs) (X : mjX p R s m args meth c cc nL own ini D b base d sc H0) (hcall : mjCallOK L0 D b base d call) (htab : mjTabOK cc own ini tab) : ∀ (n : Nat) (st st' : mjS), mjGon dfs d nL sc call tab n st = some st' → mjGo p L0 e R s m args below meth c Q nL b base n0 z0 D H0 st st'
  | 0, st, st', h => by
    cases h
    exact mjGo.refl
  | n + 1, st, st', h => by
    unfold mjGon at h
    obtain ⟨en, h1, h2⟩ := Option.bind_eq_some_iff.mp h
    obtain ⟨s2, h3, h4⟩ := Option.bind_eq_some_iff.mp h2
    obtain ⟨g1, g2⟩ := htab _ _ h1
    exact (mj_step hdf X hcall en.1 en.2.1 g1 g2 h3).trans (mj_gon hdf X hcall htab n s2 st' h4)
theorem mj_run (hdf : mjDfs dfs) (X : mjX p R s m args meth c cc nL own ini D b base d sc H0) (hcall : mjCallOK L0 D b base d call) (htab : mjTabOK cc own ini tab) : ∀ (n : Nat) (st : mjS) (r : Instr × mjS), mjRun dfs d nL sc call tab n st = some r →
    mjGo p L0 e R s m args below meth c Q nL b base n0 z0 D H0 st r.2 ∧ mjIsRet r.1 = true ∧ ∃ len, decode cc r.2.1 = .ok (r.1, mjIl r.1 len)
  | 0, st, r, h => by cases h
  | n + 1, st, r, h => by
    unfold mjRun at h
    obtain ⟨en, h1, h2⟩ := Option.bind_eq_some_iff.mp h
    obtain ⟨g1, g2⟩ := htab _ _ h1
    cases hr : mjIsRet en.1 with
    | true =>
      rw [hr] at h2
      cases h2
      exact ⟨mjGo.refl, hr, _, g1⟩
    | false =>
      rw [hr] at h2
      obtain ⟨s2, h3, h4⟩ := Option.bind_eq_some_iff.mp h2
      obtain ⟨k1, k2⟩ := mj_run hdf X hcall htab n s2 r h4
      exact ⟨(mj_step hdf X hcall en.1 en.2.1 g1 g2 h3).trans k1, k2⟩
/-- at a return: the method's end -/
theorem mj_ret {H : Heap} {locs : List Loc} {cells slots : Nat} {ls : Array Slot} {ret : Option FieldType} {ins : Instr} {len pc : Nat} {st : List Value} {rv : Option Value} {h' : mjH}
    (X : mjX p R s m args meth c cc nL own ini D b base d sc s.heap) (hlocks : meth.locks = false) (hr : meth.sig.returnType = ret) (hd : decode cc pc = .ok (ins, mjIl ins len)) (ho : mjOut ret ins st = some rv) (hJ : mjJ s D b base h' H) (hS : va_S (fun q => base ≤ q) s.heap H locs) :
    W p L0 e R s m args below meth c H locs cells slots (MQ below (fun _ st o t => o = .returned (rv.map (mjVr b base)) ∧ mjJ t D b base h' t.heap ∧ va_F (fun q => base ≤ q) st t) args s cells slots (fun q => base ≤ q)) (F0 m pc ls (mjSm b base st)) := by
  obtain ⟨hx, hb, -⟩ := X
  have fin : ∀ (v : Option Value), v = rv.map (mjVr b base) → ∀ t : State, t.heap = H → s.WarmedH t.vm → (fun (_ : Array Value) (st : State) (o : Outcome) (t : State) => o = .returned (rv.map (mjVr b base)) ∧ mjJ t D b base h' t.heap ∧ va_F (fun q => base ≤ q) st t) args s (.returned v) t := fun v hv t ht hW =>
    ⟨by rw [hv], by rw [ht]; exact hJ.moved hW.alike, by rw [va_F, ht]; exact ⟨hS.1, hS.2.1⟩⟩
  unfold mjOut at ho
  split at ho
  · split at ho
    · cases ho
      exact W.iret hx hb hr (fin _ rfl) hS.2.2 hd hlocks
    · rename_i v
      split at ho
      · rename_i hv
        cases ho
        exact W.zret hx hb hr (by rcases hv with rfl | rfl <;> rfl) (fin _ rfl) hS.2.2 hd hlocks
      · cases ho
    · cases ho
  · split at ho
    · cases ho
      exact W.lret hx hb hr (fin _ rfl) hS.2.2 hd hlocks
    · cases ho
  · split at ho
    · cases ho
      exact W.aret hx hb hr (Or.inl ⟨_, rfl⟩) (Or.inr ⟨_, rfl⟩) (fin _ rfl) hS.2.2 hd hlocks
    · cases ho
      exact W.aret hx hb hr (Or.inr ⟨_, rfl⟩) (Or.inr ⟨_, rfl⟩) (fin _ rfl) hS.2.2 hd hlocks
    · cases ho
  · split at ho
    · cases ho
      exact W.aret hx hb hr (Or.inl ⟨_, rfl⟩) (Or.inl rfl) (fin _ rfl) hS.2.2 hd hlocks
    · cases ho
      exact W.aret hx hb hr (Or.inr ⟨_, rfl⟩) (Or.inl rfl) (fin _ rfl) hS.2.2 hd hlocks
    · cases ho
  · split at ho
    · cases ho
      exact W.vret hx hb hr (fin _ rfl) hS.2.2 hd hlocks
    · cases ho
  · cases ho
end MJR
theorem mjMono_of {L0 : Launch} {D : va_G} {b base d : Nat} {call : mjT} (h : mjCallOK L0 D b base d call) : mjMono call := fun mid as hh r h' hc => by
  obtain ⟨q, -, h1, h2, -⟩ := h mid as hh r h' hc
  exact ⟨h1, h2⟩
/-- CALLS: what the small machine says of a call, the machine does -/
theorem mj_calls (L0 : Launch) (D : va_G) (b base F : Nat) {dfs : List (List Value)} {code : mjCode} (hdf : mjDfs dfs) (hcode : mjCodeOK code) : ∀ d : Nat, mjCallOK L0 D b base d (mjCall dfs F code d)
  | 0 => fun mid as h r h' hc => by cases hc
  | d + 1 => fun mid as h r h' hc => by
    unfold mjCall at hc
    obtain ⟨q, hq, h1⟩ := Option.bind_eq_some_iff.mp hc
    cases hb2 : Nat.ble (lg_sl as).length q.1.2.2.1 with
    | false => rw [hb2] at h1; cases h1
    | true =>
      rw [hb2] at h1
      obtain ⟨⟨ins, st⟩, h2, h3⟩ := Option.bind_eq_some_iff.mp h1
      obtain ⟨rv, h4, h5⟩ := Option.bind_eq_some_iff.mp h3
      cases h5
      have hcap := Nat.le_of_ble_eq_true hb2
      obtain ⟨f1, f2, f3, f4, f5, f6, -, -, f7⟩ := mjMt_at hq
      have htab := hcode mid q hq
      have ih := mj_calls L0 D b base F hdf hcode d
      have key : ∀ (p : Program) (e : Env) (s : State) (m : MethodId) (args : Array Value) (below : List Frame) (meth : Method) (c : Code) (R : Room) (Q : State → Prop) (n0 z0 : Nat) (H0 : Heap), mjX p R s m args meth c q.1.2.1 q.1.2.2.1 q.1.1.cls (Nat.beq q.2.1 2) D b base d none H0 →
          mjGo p L0 e R s m args below meth c Q q.1.2.2.1 b base n0 z0 D H0 (0, lv_args 0 as, [], h) st ∧ mjIsRet ins = true ∧ ∃ len, decode q.1.2.1 st.1 = .ok (ins, mjIl ins len) := fun p e s m args below meth c R Q n0 z0 H0 X => mj_run hdf X ih htab F _ _ h2
      have hm : h.length ≤ st.2.2.2.length ∧ mjSz h ≤ mjSz st.2.2.2 := by
        have hh : ∀ (n : Nat) (s1 : mjS) (r : Instr × mjS), mjRun dfs d q.1.2.2.1 none (mjCall dfs F code d) (code mid) n s1 = some r → s1.2.2.2.length ≤ r.2.2.2.2.length ∧ mjSz s1.2.2.2 ≤ mjSz r.2.2.2.2 := by
          intro n
          induction n with
          | zero => intro s1 r hr; cases hr
          | succ n ihn =>
            intro s1 r hr
            unfold mjRun at hr
            obtain ⟨en, k1, k2⟩ := Option.bind_eq_some_iff.mp hr
            cases hret : mjIsRet en.1 with
            | true =>
              rw [hret] at k2
              cases k2
              exact ⟨Nat.le_refl _, Nat.le_refl _⟩
            | false =>
              rw [hret] at k2
              obtain ⟨s2, k3, k4⟩ := Option.bind_eq_some_iff.mp k2
              have k5 := mj_mono (mjMono_of ih) en.1 s2 k3
              have k6 := ihn s2 r k4
              exact ⟨Nat.le_trans k5.1 k6.1, Nat.le_trans k5.2 k6.2⟩
        exact hh F _ _ h2
      refine ⟨q, hq, hm.1, hm.2, Nat.succ_pos d, ?_⟩
      refine Met.ofW (cc := q.1.2.1) (maxL := q.1.2.2.1) (ret := q.1.2.2.2) f2 rfl ?_
      intro p e s m args below meth c s₁ B hml hv
      obtain ⟨rfl, hJ, hK, hN⟩ := hv
      have hts := atoms_spec (ws := Cond.code q.1.1 q.1.2.1 q.1.2.2.1 q.1.2.2.2 :: lw_g) B.pre
      have hown : s.vm.findClass q.1.1.cls = some m.cls := findClass_of_methodNamed B.named
      have hin : meth.name = q.1.1.name := (name_of_methodNamed B.named B.method).1
      rw [lg_entry_eq]
      have hl := lv_entry (mjSm b base as) (n := q.1.2.2.1) (by rw [mjSl_len]; exact hcap)
      rw [mjLm_args] at hl
      have X : mjX p (headSpec (Cond.code q.1.1 q.1.2.1 q.1.2.2.1 q.1.2.2.2 :: lw_g) { frames := d + 1 - 1, cells := st.2.2.2.length - h.length, slots := mjSz st.2.2.2 - mjSz h, locals := 41 * (d + 1 - 1) }).room s m (mjSm b base as).toArray meth c q.1.2.1 q.1.2.2.1 q.1.1.cls (Nat.beq q.2.1 2) D b base d none s.heap :=
        ⟨B.exec, B.bytes, hml, hown, fun w hw => hts w (List.mem_cons_of_mem _ hw), hK, hN, Nat.le_refl _, Nat.le_refl _, by rw [hJ.1]; omega, fun hi => by rw [hin]; exact (f7 (Nat.eq_of_beq_eq_true hi)).2.1, fun xs hxs => by cases hxs⟩
      obtain ⟨g1, g2, len, g3⟩ := key p e s m (mjSm b base as).toArray below meth c _ (MQ below (fun _ st' o t => o = .returned (r.map (mjVr b base)) ∧ mjJ t D b base st.2.2.2 t.heap ∧ va_F (fun q => base ≤ q) st' t) (mjSm b base as).toArray s (st.2.2.2.length - h.length) (mjSz st.2.2.2 - mjSz h) (fun q => base ≤ q)) h.length (mjSz h) s.heap X
      refine g1.2.2 (by show st.2.2.2.length ≤ (st.2.2.2.length - h.length) + h.length; omega) (by show mjSz st.2.2.2 ≤ (mjSz st.2.2.2 - mjSz h) + mjSz h; omega) ?_ s.heap [] 0 0 _ hJ va_S.rf (by simp) (by simp) hl
      intro H locs cells slots ls hJ1 hS1 hk hz hl1
      have ek : cells = st.2.2.2.length - h.length := by omega
      have ez : slots = mjSz st.2.2.2 - mjSz h := by omega
      subst ek
      subst ez
      exact mj_ret X B.notSynchronized B.returns g3 h4 hJ1 hS1
