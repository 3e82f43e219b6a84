-- ===== end of PART A; then your names; then what follows =====
/-! THE CLAIM OUT OF ONE WALK OF THE LAW'S BODY. Your part is whole_start (and what it stands on); all else here is the same for every law, but numbers. -/
def R_law : String := "TableBenchLaw"
def lw_P (b : Addr) (xs : List Int32) (args : Array Value) (s : State) : Prop := args = #[.ref b] ∧ s.IntsAt b xs ∧ xs.length ≤ 6 ∧ (Jvm.Cond.and given_1 narrow_1).before args s = true
/-- what a walk over the start with the record d0 says of its end, said of the start itself -/
theorem lw_closed {s t : State} {o : Outcome} {d0 : Drawn} {L : List Loc} {k n : Nat} (hd0 : s.drawn.sameBut d0 lw_cs) (hv : ∃ v, o = .returned v) (hW : (s.setDrawn d0).WarmedH t.vm) (hs : (s.setDrawn d0).sameButNew ({ t with vm := s.vm } : State) L k n) : State.butDraws s t lw_cs (fun t1 => Framed s o t1 L k n) := by
  have h2 : t.drawn = d0 := congrArg State.drawn hs.1
  refine ⟨⟨hv, hW, State.sameButNew.setDrawn hs s.drawn⟩, ?_, by decide⟩
  rw [h2]
  exact hd0
def lw_Q (_ : Array Value) (s : State) (o : Outcome) (t : State) : Prop := o = .returned (some (.int 1)) ∧ State.butDraws s t lw_cs (fun t1 => Framed s o t1 [] 600000 7302250)
def lw_Z (below : List Frame) (a : Array Value) (s : State) : State → Prop := fun t => ∃ o, t.status = .running ∧ Ended t below o ∧ lw_Q a s o t
/-- the law's own end, with 1 on the stack, nothing written that was there before, its room as the claim has it; d0: the record of draws at this point (at the entry s.drawn: begin with 'refine W.base ?_' and 'have hd0 := Drawn.sameBut.refl s.drawn lw_cs') -/
theorem lw_ret {p : Program} {l : Launch} {e : Env} {s : State} {m : MethodId} {below : List Frame} {meth : Method} {c : Code} {b : Nat} {d0 : Drawn} (hd0 : s.drawn.sameBut d0 lw_cs) (hx : p.tables.exec = Jvm.exec) (hb : c.code = code) (hr : meth.sig.returnType = ret) (hlocks : meth.locks = false) {pc : Nat} {H : Heap} {ls : Array Slot} (hdg : decode code pc = .ok (.ireturn, 1)) : W p l e room_1 (s.setDrawn d0) m #[Value.ref b] below meth c H [] 600000 7302250 (lw_Z below #[Value.ref b] s) (F0 m pc ls [.int 1]) := by
  intro T hT X
  obtain ⟨fs, hret, hrun, hended, hW, hframe⟩ := X.leave (v := some (.int 1)) (hlocks := hlocks) (fun h => by rw [hr] at h; cases h)
  have hmeth' : T.vm.method? m = some meth := X.method'
  refine ⟨T.setFrames fs, ?_, .returned (some (.int 1)), hrun, hended, rfl, lw_closed hd0 ⟨_, rfl⟩ hW hframe⟩
  jvm_step X.here [X.here.top, hx, hb, hdg, hmeth', hr, ret, narrow_b1]
  (try refine ⟨rfl, ?_⟩); (try refine ⟨rfl, ?_⟩)
  first | (intro acts; rw [hret _ acts rfl rfl rfl]) | rw [hret _ _ rfl rfl rfl]
  exact Steps.refl _
/-- what holds at the law's entry: the machine, the code, the tables' words (any of lw_tbl by 'hts w (by decide +kernel)'), the script of L ints xs at the cell b, what the Statement gives of the start (any of its parts by flat_of_before) -/
def lw_At (p : Program) (s : State) (m : MethodId) (meth : Method) (c : Code) (b L : Nat) (xs : Nat → Int32) : Prop :=
  p.tables.exec = Jvm.exec ∧ c.code = code ∧ meth.sig.returnType = ret ∧ c.maxLocals = 4 ∧ s.vm.findClass R_law = some m.cls ∧ (∀ w ∈ lw_tbl, w.before #[Value.ref b] s = true) ∧ va_X b L xs s s.heap ∧ b < s.heap.size ∧ meth.locks = false ∧ (Jvm.Cond.and given_1 narrow_1).before #[Value.ref b] s = true
/-- the law comes to its end in the small machine, with 1 -/
def mjLawEnds (N : Nat) : Prop := ∀ scr : List Int32, scr.length ≤ N → ∃ st : mjS, mjTo 10 4 (some scr) (mjTb mjT_law) (0, [(0, .ref 0)], [], []) st ∧ mjTb mjT_law st.1 = some (.ireturn, 1, mj0) ∧ st.2.2.1 = [.int 1] ∧ st.2.2.2.length ≤ 600000 ∧ mjSz st.2.2.2 ≤ 7302250
theorem whole_of {p : Program} {e : Env} {s : State} {m : MethodId} {below : List Frame} {meth : Method} {c : Code} (l : Launch) {b L : Nat} {xs : Nat → Int32} {N : Nat} (hpure : mjLawEnds N) (hL : L ≤ N) (C0 : lw_At p s m meth c b L xs) : W p l e room_1 s m #[Value.ref b] below meth c s.heap [] 0 0 (lw_Z below #[Value.ref b] s) (entryFrame m ([Value.ref b] : List Value).toArray 4) := by
  obtain ⟨hx, hb, hr, hml, hown, hts0, hX, hbl, hlocks, hgv⟩ := id C0
  refine W.base ?_
  have hd0 := Drawn.sameBut.refl s.drawn lw_cs
  have hts := dr_words hts0 s.drawn
  have htg : ∀ w ∈ lw_g, w.before #[Value.ref b] (s.setDrawn s.drawn) = true := fun w hw => hts w (List.mem_filter.mp hw).1
  have hKe : ∀ k : Nat, ∃ cI : ClassId × (Nat → Nat), ∀ q : vw_C, vwCl[k]? = some q → u_Kn (s.setDrawn s.drawn) q.1 q.2.1 q.2.2 cI.1 cI.2 := by
    intro k
    cases hq : vwCl[k]? with
    | none => exact ⟨(m.cls, fun _ => 0), fun q h => by cases h⟩
    | some r =>
      obtain ⟨c1, -, -, c4, -⟩ := mjCl hq
      obtain ⟨cC, iS, hKn⟩ := u_known (C := r.1) (T := r.2.1) (N := r.2.2) (n := r.2.2) htg c1 (htg _ c4)
      exact ⟨(cC, iS), fun q h => by cases h; exact hKn⟩
  have hK : va_K (fun k => (Classical.choose (hKe k)).1, fun k => (Classical.choose (hKe k)).2) vwCl [] (s.setDrawn s.drawn) := ⟨fun k q h => Classical.choose_spec (hKe k) q h, fun k q h => by simp at h⟩
  generalize hD : ((fun k => (Classical.choose (hKe k)).1, fun k => (Classical.choose (hKe k)).2) : va_G) = D at hK
  have hN : mjAO (s.setDrawn s.drawn) := by
    refine ⟨va_AO.of (hts _ (List.mem_append_right _ (List.mem_of_getElem? (i := 26) (by decide +kernel)))), va_AO.of (hts _ (List.mem_append_right _ (List.mem_of_getElem? (i := 46) (by decide +kernel)))), va_AO.of (hts _ (List.mem_append_right _ (List.mem_of_getElem? (i := 69) (by decide +kernel)))), fun w hw => ?_⟩
    obtain ⟨h1, h2⟩ := List.mem_filter.mp hw
    have h3 := hts w (List.mem_append_right _ h1)
    cases w <;> first | (cases h2; done) | exact va_Nw.of rfl h3
  have hlen : ((List.range L).map xs).length = L := by simp
  have hval : ∀ j, j < L → ((List.range L).map xs).getD j 0 = xs j := fun j hj => by simp [List.getD, hj]
  obtain ⟨st, ⟨F, n, hgo⟩, hret, hone, hc1, hc2⟩ := hpure ((List.range L).map xs) (by rw [hlen]; exact hL)
  have hX2 : va_X b ((List.range L).map xs).length (fun j => ((List.range L).map xs).getD j 0) (s.setDrawn s.drawn) s.heap := by
    obtain ⟨scr, x1, x2, x3, x4, x5⟩ := hX
    exact ⟨scr, x1, x2, x3, by rw [hlen]; exact x4, fun j hj => by rw [hlen] at hj; dsimp only; rw [hval j hj]; exact x5 j hj⟩
  have hi : (false = true → meth.name = "<init>") := fun h => by cases h
  have hsc : ∀ ys : List Int32, some ((List.range L).map xs) = some ys → va_X b ys.length (fun j => ys.getD j 0) (s.setDrawn s.drawn) s.heap ∧ b < s.heap.size ∧ b < s.heap.size := fun ys hy => by
    cases hy
    exact ⟨hX2, hbl, hbl⟩
  have X : mjX p room_1 (s.setDrawn s.drawn) m #[Value.ref b] meth c code 4 "TableBenchLaw" false D b s.heap.size 10 (some ((List.range L).map xs)) s.heap :=
    ⟨hx, hb, hml, hown, htg, hK, hN, Nat.le_of_ble_eq_true rfl, Nat.le_of_ble_eq_true rfl, Nat.le_refl _, hi, hsc⟩
  have htab := mjChk_ok mjT_law_ok
  have g := mj_gon (p := p) (L0 := l) (e := e) (R := room_1) (s := s.setDrawn s.drawn) (m := m) (args := #[Value.ref b]) (below := below) (meth := meth) (c := c) (Q := lw_Z below #[Value.ref b] s) (n0 := 0) (z0 := 0) mjFs_ok X (mj_calls l D b s.heap.size F mjFs_ok mjCd_ok 10) htab n _ st hgo
  rw [lg_entry_eq]
  have hl := lv_entry ([Value.ref b]) (n := 4) (Nat.le_of_ble_eq_true rfl)
  refine g.2.2 hc1 hc2 ?_ s.heap [] 0 0 _ ⟨by simp, fun k c h => by simp at h⟩ va_S.rf rfl rfl hl
  intro H locs cells slots ls hJ hS hk hz hl1
  refine va_forget hS.2.2 ?_
  refine W.widen (k := 600000) (n := 7302250) (by omega) (by omega) ?_
  rw [hone]
  exact lw_ret hd0 hx hb hr hlocks (htab _ _ hret).1
