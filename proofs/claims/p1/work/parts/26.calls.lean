/-! Calls. -/
theorem mjMt_mem {q : mjM} (h : q ∈ mjMt) : mjMk q = true ∧ tables_1[q.2.2.1]? = some (Cond.code q.1.1 q.1.2.1 q.1.2.2.1 q.1.2.2.2) := by
  refine ⟨List.all_eq_true.mp mjMt_ok q h, ?_⟩
  unfold mjMt at h
  simp only [List.mem_append] at h
  rcases h with h | h | h | h | h | h | h
  · exact (List.map_inj_left.mp mjMc_0 q h).symm
  · exact (List.map_inj_left.mp mjMc_1 q h).symm
  · exact (List.map_inj_left.mp mjMc_2 q h).symm
  · exact (List.map_inj_left.mp mjMc_3 q h).symm
  · exact (List.map_inj_left.mp mjMc_4 q h).symm
  · exact (List.map_inj_left.mp mjMc_5 q h).symm
  · exact (List.map_inj_left.mp mjMc_6 q h).symm
theorem mjMt_at {mid : Nat} {q : mjM} (h : mjMt[mid]? = some q) : q.1.2.2.1 ≤ 22 ∧ plainName q.1.1.cls = true ∧ q.1.1.cls ≠ "java/lang/invoke/MethodHandle" ∧ q.1.1.cls ≠ "java/lang/invoke/VarHandle" ∧
    Cond.code q.1.1 q.1.2.1 q.1.2.2.1 q.1.2.2.2 ∈ lw_g ∧ Cond.initialized q.1.1.cls ∈ lw_g ∧ (q.2.1 = 0 → Cond.instanceMethod q.1.1 ∈ lw_g ∧ Cond.selects q.1.1.cls q.1.1 q.1.1 ∈ lw_g) ∧ (q.2.1 = 1 → Cond.static q.1.1 ∈ lw_g) ∧ (q.2.1 = 2 → Cond.instanceMethod q.1.1 ∈ lw_g ∧ q.1.1.name = "<init>" ∧ q.1.2.2.2 = none) := by
  obtain ⟨h1, h2⟩ := mjMt_mem (List.mem_of_getElem? h)
  unfold mjMk at h1
  simp only [Bool.and_eq_true, decide_eq_true_eq, Bool.not_eq_true', beq_eq_false_iff_ne, ne_eq] at h1
  obtain ⟨⟨⟨⟨⟨g1, g2⟩, g3⟩, g4⟩, g5⟩, g6⟩ := h1
  refine ⟨Nat.le_of_ble_eq_true g1, g2, g3, g4, mjTbl_in h2 rfl, mjTbl_in g5 rfl, fun h0 => ?_, fun h0 => ?_, fun h0 => ?_⟩
  · rw [h0] at g6
    simp only [Bool.and_eq_true, decide_eq_true_eq] at g6
    exact ⟨mjTbl_in g6.1 rfl, lw_g_in (List.mem_of_getElem? g6.2) rfl⟩
  · rw [h0] at g6
    simp only [decide_eq_true_eq] at g6
    exact mjTbl_in g6 rfl
  · rw [h0] at g6
    simp only [Bool.and_eq_true, decide_eq_true_eq, beq_iff_eq, Option.isNone_iff_eq_none] at g6
    exact ⟨mjTbl_in g6.1.1 rfl, g6.1.2, g6.2⟩
theorem mjGood {w : Cond} (hc : w ∈ lw_g) : GoodIn lw_g (w :: lw_g) := by
  intro x hx
  have hm : x ∈ lw_g := by
    rcases List.mem_cons.mp hx with rfl | h
    · exact hc
    · exact h
  exact ⟨hm, good_of_word (List.mem_filter.mp hm).2⟩
theorem mjInv_inv {call : mjT} {mid pc : Nat} {l : mjL} {as r : List Value} {h : mjH} {st' : mjS} (hv : mjInv call mid pc l as r h = some st') : mjCat r ≤ 8 ∧ ∃ q : Option Value × mjH, call mid as h = some q ∧ st' = (pc + 3, l, mjRes q.1 r, q.2) := by
  unfold mjInv at hv
  cases hb : Nat.ble (mjCat r) 8 with
  | false => rw [hb] at hv; cases hv
  | true =>
    rw [hb] at hv
    simp only [cond_true, Option.bind_eq_some_iff] at hv
    obtain ⟨q, h1, h2⟩ := hv
    cases h2
    exact ⟨Nat.le_of_ble_eq_true hb, q, h1, rfl⟩
theorem mjSm_res (b base : Nat) (rv : Option Value) (r : List Value) : (rv.map (mjVr b base)).toList ++ mjSm b base r = mjSm b base (mjRes rv r) := by cases rv <;> rfl
theorem mj_room {m : MethodId} {pc : Nat} {ls : Array Slot} {st rest : List Value} (h : (rest.map fun v => v.category).sum ≤ 8) : 2 * (F0 m pc ls st).monitorRoom + (rest.map fun v => v.category).sum ≤ 8 := by
  have h0 : (F0 m pc ls st).monitorRoom = 0 := rfl
  omega
section MJK
variable {p : Program} {L0 : Launch} {e : Env} {R : Room} {s : State} {m : MethodId} {args : Array Value} {below : List Frame} {meth : Method} {c : Code} {Q : State → Prop}
variable {cc : ByteArray} {nL b base d n0 z0 : Nat} {own : String} {ini : Bool} {D : va_G} {sc : Option (List Int32)} {H0 : Heap}
variable {pc idx : Nat} {l : mjL} {r st as : List Value} {h h' : mjH} {k : mjK} {v : Value} {a : Nat} {call : mjT} {st' : mjS}
theorem mj_callK {H : Heap} {locs : List Loc} {cells slots mc ms : Nat} {ls : Array Slot} {st0 rest : List Value} {rv : Option Value}
    (hr : va_Run p L0 e R s m args below meth c H locs cells slots mc ms (F0 m pc ls st0) rest (fun st o t => o = .returned rv ∧ mjJ t D b base h' t.heap ∧ va_F (fun q => base ≤ q) st t) (fun q => base ≤ q)) (hS : va_S (fun q => base ≤ q) H0 H locs)
    (K : ∀ (H1 : Heap) (locs1 : List Loc), mjJ s D b base h' H1 → va_S (fun q => base ≤ q) H0 H1 locs1 → W p L0 e R s m args below meth c H1 locs1 (cells + mc) (slots + ms) Q (F0 m (pc + 3) ls (rv.toList ++ rest))) : W p L0 e R s m args below meth c H locs cells slots Q (F0 m pc ls st0) := by
  intro T hT X
  obtain ⟨v, st₀, t, T', L, h0, X', hL, e1, e2, ⟨hv, hj, hz, hk⟩, st⟩ := hr T hT X
  cases hv
  rw [h0] at hz hk
  have hvm : s.vm.Alike t.vm := by rw [← e2]; exact X'.warmed.alike
  obtain ⟨t2, a1, b1⟩ := K T'.heap (locs ++ L) (by rw [e1]; exact hj.moved hvm.symm)
    ⟨Nat.le_trans hS.1 (by rw [e1]; exact hz), fun q h1 h2 => by rw [e1, hk q (Nat.lt_of_lt_of_le h1 hS.1) h2]; exact hS.2.1 q h1 h2, fun q hq => by
      rcases List.mem_append.mp hq with h | h
      · exact hS.2.2 q h
      · exact hL q h⟩ T' rfl X'
  exact ⟨t2, st t2 a1, b1⟩
theorem mj_blind {vs : List Value} : FrameBlind (va_Pc vs (fun U => mjJ U D b base h U.heap ∧ va_K D vwCl [] U ∧ mjAO U)) := by
  intro a U g mk q
  obtain ⟨q0, q1, q2, q3⟩ := q
  exact ⟨q0, mjJ.moved (s := U) (t := U.calling g mk a) (Vm.Alike.refl U.vm) q1, va_K.moved (u := U) (U := U.calling g mk a) (Vm.Alike.refl U.vm) q2, mjAO.same (u := U) (U := U.calling g mk a) rfl q3⟩
theorem mj_virtW (X : mjX p R s m args meth c cc nL own ini D b base d sc H0) (hcall : mjCallOK L0 D b base d call) (hd : decode cc pc = .ok (.invokevirtual idx, 3)) (hlk : mjLinkB own ini (.invokevirtual idx) k = true)
    (hsp : mjSplit (k.2.2.1 + 1) st [] = some (v :: as, r)) (hi : mjIs h v k.2.2.2.1 = true) (hv : mjInv call k.2.1 pc l (v :: as) r h = some st') :
    mjGo p L0 e R s m args below meth c Q nL b base n0 z0 D H0 (pc, l, st, h) st' := by
  obtain ⟨hx, hb, hml, hown, hts, hK, hN, hfr, hlo, hb0, -, hsc⟩ := X
  obtain ⟨hcat, ⟨rv, h'⟩, hca, rfl⟩ := mjInv_inv hv
  obtain ⟨q, hq, m1, m2, hd0, hM⟩ := hcall _ _ _ _ _ hca
  obtain ⟨a, fs, rfl, ho⟩ := mjIs_inv hi
  simp only [mjLinkB] at hlk
  rw [hq] at hlk
  cases hr0 : vwCl[k.2.2.2.1]? with
  | none => rw [hr0] at hlk; cases hlk
  | some r0 =>
    rw [hr0] at hlk
    simp only [Bool.and_eq_true, decide_eq_true_eq, beq_iff_eq] at hlk
    obtain ⟨⟨⟨g1, g2⟩, g3⟩, g4⟩ := hlk
    have g1 : q.2.1 = 0 := Nat.eq_of_beq_eq_true g1
    obtain ⟨f1, f2, f3, f4, f5, f6, f7, -, -⟩ := mjMt_at hq
    obtain ⟨f7, f8⟩ := f7 g1
    obtain ⟨pre, p1, p2, p3⟩ := mjSplit_inv hsp
    rw [List.append_nil] at p3
    have hpre : pre = as.reverse ++ [.ref (a + 1)] := by rw [← List.reverse_reverse pre, ← p3, List.reverse_cons]
    have hlen : as.length = k.2.2.1 := by rw [hpre] at p1; simp at p1; exact p1
    refine ⟨m1, m2, fun r1 r2 g H locs cells slots ls hJ hS hk hz hl => ?_⟩
    have r1 : h'.length ≤ R.cells + n0 := r1
    have r2 : mjSz h' ≤ R.slots + z0 := r2
    have hk : cells + n0 = h.length := hk
    have hz : slots + z0 = mjSz h := hz
    obtain ⟨r1', e1, -, cell, c1, c2, c3, -⟩ := hJ.2 a _ ho
    have her : r1' = r0 := Option.some.inj (e1.symm.trans hr0)
    subst her
    refine mj_callK (rv := rv.map (mjVr b base)) (h' := h') (va_runV (y := q.1.1) (bytes := q.1.2.1) (maxL := q.1.2.2.1) (ret := q.1.2.2.2) (C := q.1.1.cls) (b := base + a) (As := mjSm b base as) (rest := mjSm b base r) (n := k.2.2.1) ⟨hx, hb, hml, hown, hts⟩ hM
      ⟨callB_of k.2.2.1 hts (mjGood f5) rfl rfl rfl (hts _ f6) (mj_link hts g4 rfl) ⟨f3, f4, g3⟩ ⟨by show d - 1 + 1 ≤ R.frames; omega, by show 8 + (q.1.2.2.1 + 11) + 41 * (d - 1) ≤ R.locals; omega⟩, hts _ f7, hts _ f8⟩
      ⟨mj_blind, ⟨cell, c1, by rw [c3]; rfl, by rw [c2, ← g2]; exact (hK.1 _ _ hr0).2.1⟩, fun U hU hW => ⟨rfl, by rw [hU]; exact hJ.moved hW.alike, va_K.moved hW.alike hK, hN.warm hW⟩⟩
      rfl (by rw [List.length_map]; exact hlen) hl.1 (by show mjSm b base st = _; rw [p2, hpre]; simp [mjSm, mjVr, mjAd]) (mj_room (by rw [mjSm_cat]; exact hcat)) hd ⟨by omega, by omega⟩) hS fun H1 locs1 hJ1 hS1 => ?_
    rw [mjSm_res]
    exact g H1 locs1 _ _ ls hJ1 hS1 (by show cells + (h'.length - h.length) + n0 = h'.length; omega) (by show slots + (mjSz h' - mjSz h) + z0 = mjSz h'; omega) hl
theorem mj_statW (X : mjX p R s m args meth c cc nL own ini D b base d sc H0) (hcall : mjCallOK L0 D b base d call) (hd : decode cc pc = .ok (.invokestatic idx, 3)) (hlk : mjLinkB own ini (.invokestatic idx) k = true) (hk3 : Nat.beq k.1 3 = true)
    (hsp : mjSplit k.2.2.1 st [] = some (as, r)) (hv : mjInv call k.2.1 pc l as r h = some st') :
    mjGo p L0 e R s m args below meth c Q nL b base n0 z0 D H0 (pc, l, st, h) st' := by
  obtain ⟨hx, hb, hml, hown, hts, hK, hN, hfr, hlo, hb0, -, hsc⟩ := X
  obtain ⟨hcat, ⟨rv, h'⟩, hca, rfl⟩ := mjInv_inv hv
  obtain ⟨q, hq, m1, m2, hd0, hM⟩ := hcall _ _ _ _ _ hca
  simp only [mjLinkB] at hlk
  rw [hk3, cond_true, hq] at hlk
  simp only [Bool.and_eq_true, decide_eq_true_eq] at hlk
  obtain ⟨⟨g1, g3⟩, g4⟩ := hlk
  have g1 : q.2.1 = 1 := Nat.eq_of_beq_eq_true g1
  obtain ⟨f1, f2, f3, f4, f5, f6, -, f7, -⟩ := mjMt_at hq
  obtain ⟨pre, p1, p2, p3⟩ := mjSplit_inv hsp
  rw [List.append_nil] at p3
  have hpre : pre = as.reverse := by rw [p3, List.reverse_reverse]
  have hlen : as.length = k.2.2.1 := by rw [hpre] at p1; simpa using p1
  refine ⟨m1, m2, fun r1 r2 g H locs cells slots ls hJ hS hk hz hl => ?_⟩
  have r1 : h'.length ≤ R.cells + n0 := r1
  have r2 : mjSz h' ≤ R.slots + z0 := r2
  have hk : cells + n0 = h.length := hk
  have hz : slots + z0 = mjSz h := hz
  refine mj_callK (rv := rv.map (mjVr b base)) (h' := h') (va_runS (y := q.1.1) (bytes := q.1.2.1) (maxL := q.1.2.2.1) (ret := q.1.2.2.2) (As := mjSm b base as) (rest := mjSm b base r) (n := k.2.2.1) ⟨hx, hb, hml, hown, hts⟩ hM
    ⟨callB_of k.2.2.1 hts (mjGood f5) rfl rfl rfl (hts _ f6) (mj_link hts g4 rfl) ⟨f3, f4, g3⟩ ⟨by show d - 1 + 1 ≤ R.frames; omega, by show 8 + (q.1.2.2.1 + 11) + 41 * (d - 1) ≤ R.locals; omega⟩, hts _ (f7 g1)⟩
    ⟨mj_blind, fun U hU hW => ⟨rfl, by rw [hU]; exact hJ.moved hW.alike, va_K.moved hW.alike hK, hN.warm hW⟩⟩
    rfl (by rw [List.length_map]; exact hlen) hl.1 (by show mjSm b base st = _; rw [p2, hpre]; simp [mjSm]) (mj_room (by rw [mjSm_cat]; exact hcat)) hd ⟨by omega, by omega⟩) hS fun H1 locs1 hJ1 hS1 => ?_
  rw [mjSm_res]
  exact g H1 locs1 _ _ ls hJ1 hS1 (by show cells + (h'.length - h.length) + n0 = h'.length; omega) (by show slots + (mjSz h' - mjSz h) + z0 = mjSz h'; omega) hl
theorem mj_specW (X : mjX p R s m args meth c cc nL own ini D b base d sc H0) (hcall : mjCallOK L0 D b base d call) (hd : decode cc pc = .ok (.invokespecial idx, 3)) (hlk : mjLinkB own ini (.invokespecial idx) k = true) (hk8 : Nat.beq k.1 8 = false) {x : Nat}
    (hsp : mjSplit (k.2.2.1 + 1) st [] = some (.ref x :: as, r)) (hv : mjInv call k.2.1 pc l (.ref x :: as) r h = some st') :
    mjGo p L0 e R s m args below meth c Q nL b base n0 z0 D H0 (pc, l, st, h) st' := by
  obtain ⟨hx, hb, hml, hown, hts, hK, hN, hfr, hlo, hb0, -, hsc⟩ := X
  obtain ⟨hcat, ⟨rv, h'⟩, hca, rfl⟩ := mjInv_inv hv
  obtain ⟨q, hq, m1, m2, hd0, hM⟩ := hcall _ _ _ _ _ hca
  simp only [mjLinkB] at hlk
  rw [hk8, cond_false, hq] at hlk
  simp only [Bool.and_eq_true, Bool.or_eq_true, decide_eq_true_eq] at hlk
  obtain ⟨⟨g1, g3⟩, g4⟩ := hlk
  have g1 : q.2.1 = 2 := Nat.eq_of_beq_eq_true g1
  obtain ⟨f1, f2, f3, f4, f5, f6, -, -, f7⟩ := mjMt_at hq
  obtain ⟨f7, f8, f9⟩ := f7 g1
  obtain ⟨pre, p1, p2, p3⟩ := mjSplit_inv hsp
  rw [List.append_nil] at p3
  have hpre : pre = as.reverse ++ [.ref x] := by rw [← List.reverse_reverse pre, ← p3, List.reverse_cons]
  have hlen : as.length = k.2.2.1 := by rw [hpre] at p1; simp at p1; exact p1
  refine ⟨m1, m2, fun r1 r2 g H locs cells slots ls hJ hS hk hz hl => ?_⟩
  have r1 : h'.length ≤ R.cells + n0 := r1
  have r2 : mjSz h' ≤ R.slots + z0 := r2
  have hk : cells + n0 = h.length := hk
  have hz : slots + z0 = mjSz h := hz
  rw [f9] at hM f5
  have hpay : PreS s H (va_Pc (mjSm b base (.ref x :: as)) (fun U => mjJ U D b base h U.heap ∧ va_K D vwCl [] U ∧ mjAO U)) (.ref (mjAd b base x) :: mjSm b base as) := ⟨mj_blind, fun U hU hW => ⟨rfl, by rw [hU]; exact hJ.moved hW.alike, va_K.moved hW.alike hK, hN.warm hW⟩⟩
  have fin : ∀ (H1 : Heap) (locs1 : List Loc), mjJ s D b base h' H1 → va_S (fun q => base ≤ q) H0 H1 locs1 → W p L0 e R s m args below meth c H1 locs1 (cells + (h'.length - h.length)) (slots + (mjSz h' - mjSz h)) Q (F0 m (pc + 3) ls ((rv.map (mjVr b base)).toList ++ mjSm b base r)) := fun H1 locs1 hJ1 hS1 => by
    rw [mjSm_res]
    exact g H1 locs1 _ _ ls hJ1 hS1 (by show cells + (h'.length - h.length) + n0 = h'.length; omega) (by show slots + (mjSz h' - mjSz h) + z0 = mjSz h'; omega) hl
  rcases g4 with ⟨-, g4⟩ | ⟨-, g4⟩
  · exact mj_callK (rv := rv.map (mjVr b base)) (h' := h') (va_runI (y := q.1.1) (bytes := q.1.2.1) (maxL := q.1.2.2.1) (b := mjAd b base x) (As := mjSm b base as) (rest := mjSm b base r) (n := k.2.2.1) ⟨hx, hb, hml, hown, hts⟩ hM
      ⟨callB_of k.2.2.1 hts (mjGood f5) rfl rfl rfl (hts _ f6) (mj_link hts g4 rfl) ⟨f3, f4, g3⟩ ⟨by show d - 1 + 1 ≤ R.frames; omega, by show 8 + (q.1.2.2.1 + 11) + 41 * (d - 1) ≤ R.locals; omega⟩, f8, hts _ f7⟩
      hpay rfl (by rw [List.length_map]; exact hlen) hl.1 (by show mjSm b base st = _; rw [p2, hpre]; simp [mjSm, mjVr]) (mj_room (by rw [mjSm_cat]; exact hcat)) hd ⟨by omega, by omega⟩) hS fin
  · exact mj_callK (rv := rv.map (mjVr b base)) (h' := h') (va_runIN (y := q.1.1) (bytes := q.1.2.1) (maxL := q.1.2.2.1) (host := "TableBench") (b := mjAd b base x) (As := mjSm b base as) (rest := mjSm b base r) (n := k.2.2.1) ⟨hx, hb, hml, hown, hts⟩ hM
      ⟨va_cnB k.2.2.1 hts (mjGood f5) rfl rfl rfl (va_Nw.of rfl (A := args) (mjNest hN g4 rfl)) (hts _ f6) ⟨f3, f4, g3⟩ ⟨by show d - 1 + 1 ≤ R.frames; omega, by show 8 + (q.1.2.2.1 + 11) + 41 * (d - 1) ≤ R.locals; omega⟩, f8, hts _ f7⟩
      hpay rfl (by rw [List.length_map]; exact hlen) hl.1 (by show mjSm b base st = _; rw [p2, hpre]; simp [mjSm, mjVr]) (mj_room (by rw [mjSm_cat]; exact hcat)) hd ⟨by omega, by omega⟩) hS fin
theorem mj_natW (X : mjX p R s m args meth c cc nL own ini D b base d sc H0) (hd : decode cc pc = .ok (.invokestatic idx, 3)) (hlk : mjLinkB own ini (.invokestatic idx) k = true) (hk3 : Nat.beq k.1 3 = false) (hd0 : 0 < d) (hv : mjNat k.1 pc l st h = some st') :
    mjGo p L0 e R s m args below meth c Q nL b base n0 z0 D H0 (pc, l, st, h) st' := by
  obtain ⟨hx, hb, hml, hown, hts, hK, hN, hfr, hlo, hb0, -, hsc⟩ := X
  simp only [mjLinkB] at hlk
  rw [hk3, cond_false] at hlk
  unfold mjNat at hv
  split at hv
  · rename_i e0
    rw [e0] at hlk
    simp only [decide_eq_true_eq] at hlk
    split at hv
    · rename_i x r
      cases hb2 : Nat.ble (mjCat r) 8 && !(vn_sni2f x) with
      | false => rw [hb2] at hv; cases hv
      | true =>
        rw [hb2] at hv
        simp only [Bool.and_eq_true, Bool.not_eq_true'] at hb2
        cases hv
        have hcat := Nat.le_of_ble_eq_true hb2.1
        exact mjGo.pure fun H locs cells slots ls hl K => vn_i2f hx hb (hml.trans hl.1.symm) hown (mj_link hts hlk rfl) (hts _ mjF_i2f.2.1) (hts _ mjF_i2f.1) (hts _ mjF_i2f.2.2) hb2.2 (by omega) (by rw [mjSm_cat]; omega) hd K
    · cases hv
  · rename_i e0
    rw [e0] at hlk
    simp only [decide_eq_true_eq] at hlk
    split at hv
    · rename_i x r
      cases hb2 : Nat.ble (mjCat r) 8 && !(vn_snl2d x) with
      | false => rw [hb2] at hv; cases hv
      | true =>
        rw [hb2] at hv
        simp only [Bool.and_eq_true, Bool.not_eq_true'] at hb2
        cases hv
        have hcat := Nat.le_of_ble_eq_true hb2.1
        exact mjGo.pure fun H locs cells slots ls hl K => vn_l2d hx hb (hml.trans hl.1.symm) hown (mj_link hts hlk rfl) (hts _ mjD_l2d.2.1) (hts _ mjD_l2d.1) (hts _ mjD_l2d.2.2) hb2.2 (by omega) (by rw [mjSm_cat]; omega) hd K
    · cases hv
  · rename_i e0
    rw [e0] at hlk
    simp only [decide_eq_true_eq] at hlk
    split at hv
    · rename_i y x r
      cases hb2 : Nat.ble (mjCat r) 8 with
      | false => rw [hb2] at hv; cases hv
      | true =>
        rw [hb2] at hv
        cases hv
        have hcat := Nat.le_of_ble_eq_true hb2
        exact mjGo.room fun H locs cells slots ls hc hs hl K => va_mmax hx hb (hml.trans hl.1.symm) hown (mj_link hts hlk rfl) (hts _ mjMath_max.1) (hts _ mjMath_ini) (hts _ mjMath_max.2) (by omega) (by rw [mjSm_cat]; omega) hc hs hd K
    · cases hv
  · rename_i e0
    rw [e0] at hlk
    simp only [decide_eq_true_eq] at hlk
    split at hv
    · rename_i y x r
      cases hb2 : Nat.ble (mjCat r) 8 with
      | false => rw [hb2] at hv; cases hv
      | true =>
        rw [hb2] at hv
        cases hv
        have hcat := Nat.le_of_ble_eq_true hb2
        exact mjGo.room fun H locs cells slots ls hc hs hl K => va_mmin hx hb (hml.trans hl.1.symm) hown (mj_link hts hlk rfl) (hts _ mjMath_min.1) (hts _ mjMath_ini) (hts _ mjMath_min.2) (by omega) (by rw [mjSm_cat]; omega) hc hs hd K
    · cases hv
  · rename_i e0
    rw [e0] at hlk
    simp only [decide_eq_true_eq] at hlk
    split at hv
    · rename_i x r
      cases hb2 : Nat.ble (mjCat r) 8 with
      | false => rw [hb2] at hv; cases hv
      | true =>
        rw [hb2] at hv
        cases hv
        have hcat := Nat.le_of_ble_eq_true hb2
        exact mjGo.room fun H locs cells slots ls hc hs hl K => va_mabs hx hb (hml.trans hl.1.symm) hown (mj_link hts hlk rfl) (hts _ mjMath_abs.1) (hts _ mjMath_ini) (hts _ mjMath_abs.2) (by omega) (by rw [mjSm_cat]; omega) hc hs hd K
    · cases hv
  · rename_i e0
    rw [e0] at hlk
    simp only [decide_eq_true_eq] at hlk
    split at hv
    · rename_i x r
      cases hb2 : Nat.ble (mjCat r) 8 with
      | false => rw [hb2] at hv; cases hv
      | true =>
        rw [hb2] at hv
        cases hv
        have hcat := Nat.le_of_ble_eq_true hb2
        exact mjGo.room fun H locs cells slots ls hc hs hl K => va_mabs_long hx hb (hml.trans hl.1.symm) hown (mj_link hts hlk rfl) (hts _ mjMath_labs.1) (hts _ mjMath_ini) (hts _ mjMath_labs.2) (by omega) (by rw [mjSm_cat]; omega) hc hs hd K
    · cases hv
  · cases hv
end MJK
