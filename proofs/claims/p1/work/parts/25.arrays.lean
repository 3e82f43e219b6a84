/-! Arrays and new things. -/
section MJA
variable {p : Program} {L0 : Launch} {e : Env} {R : Room} {s : State} {m : MethodId} {args : Array Value} {below : List Frame} {meth : Method} {c : Code} {Q : State → Prop}
variable {cc : ByteArray} {nL b base d n0 z0 : Nat} {own : String} {ini : Bool} {D : va_G} {sc : Option (List Int32)} {H0 : Heap}
variable {pc idx : Nat} {l : mjL} {r : List Value} {h h' : mjH} {k : mjK} {v : Value} {a : Nat}
theorem mj_ialdW (X : mjX p R s m args meth c cc nL own ini D b base d sc H0) (hd : decode cc pc = .ok (.iaload, 1)) {xs : List Int32} {i x : Int32} (hv : mjSc sc h a = some xs) (hi : mjAt? xs i = some x) :
    mjGo p L0 e R s m args below meth c Q nL b base n0 z0 D H0 (pc, l, .int i :: .ref a :: r, h) (pc + 1, l, .int x :: r, h) := by
  obtain ⟨hx, hb, hml, hown, hts, hK, -, -, -, -, -, hsc⟩ := X
  obtain ⟨hin, hg⟩ := mjAt?_inv hi
  refine mjGo.read fun H locs cells slots ls hJ hS K => ?_
  cases a with
  | zero =>
    obtain ⟨hX, hbl, hbb⟩ := hsc xs hv
    refine va_sld hx hb hX hbl (by show ¬ base ≤ b; omega) hS hin hd ?_
    rw [mj_getD hg]
    exact K
  | succ a =>
    obtain ⟨cA, h1, h2, h3⟩ := hJ.2 a _ (mjArI_inv hv)
    refine va_iald (ws := [(base + a, .inl (cA, xs.length, .inl (fun j => xs.getD j 0)))]) hx hb (mj_K1 hK h1 h2) (mj_P1 h3) 0 0 rfl rfl hin hd ?_
    show W p L0 e R s m args below meth c H locs cells slots Q (F0 m (pc + 1) ls (.int (xs.getD i.toNatClampNeg 0) :: mjSm b base r))
    rw [mj_getD hg]
    exact K
theorem mj_laldW (X : mjX p R s m args meth c cc nL own ini D b base d sc H0) (hd : decode cc pc = .ok (.laload, 1)) {xs : List Int64} {i : Int32} {x : Int64} (hv : mjArJ h a = some xs) (hi : mjAt? xs i = some x) :
    mjGo p L0 e R s m args below meth c Q nL b base n0 z0 D H0 (pc, l, .int i :: .ref (a + 1) :: r, h) (pc + 1, l, .long x :: r, h) := by
  obtain ⟨hx, hb, hml, hown, hts, hK, -, -, -, -, -, hsc⟩ := X
  obtain ⟨hin, hg⟩ := mjAt?_inv hi
  refine mjGo.read fun H locs cells slots ls hJ hS K => ?_
  obtain ⟨cA, h1, h2, h3⟩ := hJ.2 a _ (mjArJ_inv hv)
  refine va_lald (ws := [(base + a, .inl (cA, xs.length, .inr (.inl (fun j => xs.getD j 0))))]) hx hb (mj_K1 hK h1 h2) (mj_P1 h3) 0 0 rfl rfl hin hd ?_
  show W p L0 e R s m args below meth c H locs cells slots Q (F0 m (pc + 1) ls (.long (xs.getD i.toNatClampNeg 0) :: mjSm b base r))
  rw [mj_getD hg]
  exact K
theorem mj_aaldW (X : mjX p R s m args meth c cc nL own ini D b base d sc H0) (hd : decode cc pc = .ok (.aaload, 1)) {o : Nat × List (Option Nat)} {i : Int32} {x : Option Nat} (hv : mjArR h a = some o) (hi : mjAt? o.2 i = some x) :
    mjGo p L0 e R s m args below meth c Q nL b base n0 z0 D H0 (pc, l, .int i :: .ref (a + 1) :: r, h) (pc + 1, l, va_rf x :: r, h) := by
  obtain ⟨hx, hb, hml, hown, hts, hK, -, -, -, -, -, hsc⟩ := X
  obtain ⟨hin, hg⟩ := mjAt?_inv hi
  refine mjGo.read fun H locs cells slots ls hJ hS K => ?_
  obtain ⟨cA, r0, h0, h1, h2, h3⟩ := hJ.2 a _ (mjArR_inv hv)
  refine va_aldq (ws := [(base + a, .inl (cA, o.2.length, .inr (.inr (.inr (.inr (fun j => (o.2.getD j none).map (mjAd b base)))))))]) hx hb (mj_K1 hK h1 h2) (mj_P1 h3) 0 0 rfl rfl hin hd ?_
  show W p L0 e R s m args below meth c H locs cells slots Q (F0 m (pc + 1) ls (va_rf ((o.2.getD i.toNatClampNeg none).map (mjAd b base)) :: mjSm b base r))
  rw [mj_getD hg, ← mjVr_rf]
  exact K
theorem mj_alenW (X : mjX p R s m args meth c cc nL own ini D b base d sc H0) (hd : decode cc pc = .ok (.arraylength, 1)) {n : Nat} (hv : mjLen sc h a = some n) :
    mjGo p L0 e R s m args below meth c Q nL b base n0 z0 D H0 (pc, l, .ref a :: r, h) (pc + 1, l, .int (Int32.ofNat n) :: r, h) := by
  obtain ⟨hx, hb, hml, hown, hts, hK, -, -, -, -, -, hsc⟩ := X
  refine mjGo.read fun H locs cells slots ls hJ hS K => ?_
  cases a with
  | zero =>
    cases hs : sc with
    | none => rw [hs] at hv; cases hv
    | some xs =>
      rw [hs] at hv
      have hn : xs.length = n := by simpa [mjLen] using hv
      obtain ⟨hX, hbl, hbb⟩ := hsc xs hs
      subst hn
      exact va_slen hx hb hX hbl (by show ¬ base ≤ b; omega) hS hd K
  | succ a =>
    unfold mjLen at hv
    dsimp only at hv
    split at hv
    · rename_i xs ho
      cases hv
      obtain ⟨cA, h1, h2, h3⟩ := hJ.2 a _ ho
      exact va_alen (ws := [(base + a, .inl (cA, xs.length, .inl (fun j => xs.getD j 0)))]) hx hb (mj_K1 hK h1 h2) (mj_P1 h3) 0 0 rfl rfl rfl hd K
    · rename_i xs ho
      cases hv
      obtain ⟨cA, h1, h2, h3⟩ := hJ.2 a _ ho
      exact va_alen (ws := [(base + a, .inl (cA, xs.length, .inr (.inl (fun j => xs.getD j 0))))]) hx hb (mj_K1 hK h1 h2) (mj_P1 h3) 0 0 rfl rfl rfl hd K
    · rename_i o ho
      cases hv
      obtain ⟨cA, r0, h0, h1, h2, h3⟩ := hJ.2 a _ ho
      exact va_alen (ws := [(base + a, .inl (cA, o.2.length, .inr (.inr (.inr (.inr (fun j => (o.2.getD j none).map (mjAd b base)))))))]) hx hb (mj_K1 hK h1 h2) (mj_P1 h3) 0 0 rfl rfl rfl hd K
    · cases hv
theorem mj_iastW (X : mjX p R s m args meth c cc nL own ini D b base d sc H0) (hd : decode cc pc = .ok (.iastore, 1)) {xs : List Int32} {i x : Int32} (hv : mjArI h a = some xs) (hi : mjIn i xs.length = true) :
    mjGo p L0 e R s m args below meth c Q nL b base n0 z0 D H0 (pc, l, .int x :: .int i :: .ref (a + 1) :: r, h) (pc + 1, l, r, h.set a (.inr (.inl (xs.set i.toNatClampNeg x)))) := by
  obtain ⟨hx, hb, hml, hown, hts, hK, -, -, -, -, -, hsc⟩ := X
  obtain ⟨hin, hlt⟩ := mjIn_inv hi
  have ho := mjArI_inv hv
  refine mjGo.put ho (by simp [mjCs]) fun H locs cells slots ls hJ K => ?_
  obtain ⟨cA, h1, h2, h3⟩ := hJ.2 a _ ho
  refine W.iast hx hb h3 (h1 xs.length (fun j => .int (xs.getD j 0))) (fun q => by cases q) (by show ¬ (i < 0 ∨ (arrV _ _ _).slots.size ≤ _); rw [arrV_size]; exact hin) rfl rfl hd fun H1 e1 z oq => K H1 _ z oq ⟨cA, h1, h2, ?_⟩
  rw [e1, vp_cell_i, vp_cell_i, arrV_store, List.length_set]
  congr 2
  funext q
  rw [mj_setD xs x 0 hlt q]
  unfold updV
  split <;> rfl
theorem mj_lastW (X : mjX p R s m args meth c cc nL own ini D b base d sc H0) (hd : decode cc pc = .ok (.lastore, 1)) {xs : List Int64} {i : Int32} {x : Int64} (hv : mjArJ h a = some xs) (hi : mjIn i xs.length = true) :
    mjGo p L0 e R s m args below meth c Q nL b base n0 z0 D H0 (pc, l, .long x :: .int i :: .ref (a + 1) :: r, h) (pc + 1, l, r, h.set a (.inr (.inr (.inl (xs.set i.toNatClampNeg x))))) := by
  obtain ⟨hx, hb, hml, hown, hts, hK, -, -, -, -, -, hsc⟩ := X
  obtain ⟨hin, hlt⟩ := mjIn_inv hi
  have ho := mjArJ_inv hv
  refine mjGo.put ho (by simp [mjCs]) fun H locs cells slots ls hJ K => ?_
  obtain ⟨cA, h1, h2, h3⟩ := hJ.2 a _ ho
  refine W.last hx hb h3 (h1 xs.length (fun j => .long (xs.getD j 0))) (fun q => by cases q) (by show ¬ (i < 0 ∨ (arrV _ _ _).slots.size ≤ _); rw [arrV_size]; exact hin) rfl rfl hd fun H1 e1 z oq => K H1 _ z oq ⟨cA, h1, h2, ?_⟩
  rw [e1, vp_cell_l, vp_cell_l, arrV_store, List.length_set]
  congr 2
  funext q
  rw [mj_setD xs x 0 hlt q]
  unfold updV
  split <;> rfl
theorem mj_setM {b base j : Nat} {rs : List (Option Nat)} (x : Option Nat) (hj : j < rs.length) (cA : ClassId) : arrV cA rs.length (updV (fun q => va_rf ((rs.getD q none).map (mjAd b base))) j (va_rf (x.map (mjAd b base)))) = arrV cA rs.length (fun q => va_rf (((rs.set j x).getD q none).map (mjAd b base))) := by
  congr 1
  funext q
  rw [mj_setD rs x none hj q]
  unfold updV
  split <;> rfl
theorem mj_aastW (X : mjX p R s m args meth c cc nL own ini D b base d sc H0) (hd : decode cc pc = .ok (.aastore, 1)) {o : Nat × List (Option Nat)} {i : Int32} {v : Nat} (hv : mjArR h a = some o) (hi : mjIn i o.2.length = true) (hvi : mjIs h (.ref v) o.1 = true) :
    mjGo p L0 e R s m args below meth c Q nL b base n0 z0 D H0 (pc, l, .ref v :: .int i :: .ref (a + 1) :: r, h) (pc + 1, l, r, h.set a (.inr (.inr (.inr (o.1, o.2.set i.toNatClampNeg (some v)))))) := by
  obtain ⟨hx, hb, hml, hown, hts, hK, -, -, -, -, -, hsc⟩ := X
  obtain ⟨hin, hlt⟩ := mjIn_inv hi
  have ho := mjArR_inv hv
  obtain ⟨a2, fs, e2, ho2⟩ := mjIs_inv hvi
  cases e2
  refine mjGo.put ho (by simp [mjCs]) fun H locs cells slots ls hJ K => ?_
  obtain ⟨cA, r0, h0, h1, h2, h3⟩ := hJ.2 a _ ho
  obtain ⟨r1, f1, -, cellV, q1, q2, q3, -⟩ := hJ.2 a2 _ ho2
  have er : r1 = r0 := Option.some.inj (f1.symm.trans h0)
  subst er
  have hcls := (hK.1 o.1 _ h0).2
  obtain ⟨kA, comp, k1, k2, k3, -⟩ := id h2
  have hcomp : comp = D.1 o.1 := Option.some.inj (k3.symm.trans hcls.1)
  subst hcomp
  obtain ⟨kC, hkC, -⟩ := hcls.2
  refine W.aast hx hb h3 (fun q z => by cases z) (fun z => by cases z) k1 k2 rfl hkC ⟨fun q => hin (Or.inl q), by show _ < (arrV _ _ _).slots.size; rw [arrV_size]; exact hlt⟩ (v := base + a2) q1 (fun q z => by rw [q3] at z; cases z) (by rw [q2]; exact hkC) (by rw [q2]; exact va_assign hcls) rfl rfl hd fun H1 e1 z oq => K H1 _ z oq ⟨cA, r1, h0, h1, h2, ?_⟩
  rw [e1, vp_cell_q, vp_cell_q, arrV_store, List.length_set]
  exact congrArg some (mj_setM (b := b) (base := base) (some (a2 + 1)) hlt cA)
theorem mj_aastN (X : mjX p R s m args meth c cc nL own ini D b base d sc H0) (hd : decode cc pc = .ok (.aastore, 1)) {o : Nat × List (Option Nat)} {i : Int32} (hv : mjArR h a = some o) (hi : mjIn i o.2.length = true) :
    mjGo p L0 e R s m args below meth c Q nL b base n0 z0 D H0 (pc, l, .null :: .int i :: .ref (a + 1) :: r, h) (pc + 1, l, r, h.set a (.inr (.inr (.inr (o.1, o.2.set i.toNatClampNeg none))))) := by
  obtain ⟨hx, hb, hml, hown, hts, hK, -, -, -, -, -, hsc⟩ := X
  obtain ⟨hin, hlt⟩ := mjIn_inv hi
  have ho := mjArR_inv hv
  refine mjGo.put ho (by simp [mjCs]) fun H locs cells slots ls hJ K => ?_
  obtain ⟨cA, r0, h0, h1, h2, h3⟩ := hJ.2 a _ ho
  refine va_WaastN (C := r0.1) hx hb h3 (h1 o.2.length (fun j => va_rf ((o.2.getD j none).map (mjAd b base)))) (fun z => by cases z) (by show ¬ (i < 0 ∨ (arrV _ _ _).slots.size ≤ _); rw [arrV_size]; exact hin) rfl rfl hd fun H1 e1 z oq => K H1 _ z oq ⟨cA, r0, h0, h1, h2, ?_⟩
  rw [e1, vp_cell_q, vp_cell_q, arrV_store, List.length_set]
  exact congrArg some (mj_setM (b := b) (base := base) none hlt cA)
theorem mjNew_inv {n : Int32} (h : mjNew n = true) : ¬ n < 0 ∧ n.toNatClampNeg ≤ 100000 := by
  unfold mjNew at h
  simp only [Bool.and_eq_true, decide_eq_true_eq] at h
  exact ⟨h.1, Nat.le_of_ble_eq_true h.2⟩
theorem mj_getR {α : Type} (n j : Nat) (x : α) : (List.replicate n x).getD j x = x := by
  simp [List.getD, List.getElem?_replicate]
  split <;> rfl
theorem mj_newIW (X : mjX p R s m args meth c cc nL own ini D b base d sc H0) (hd : decode cc pc = .ok (.newarray .int, 2)) {n : Int32} (hn : mjNew n = true) :
    mjGo p L0 e R s m args below meth c Q nL b base n0 z0 D H0 (pc, l, .int n :: r, h) (pc + 2, l, .ref (h.length + 1) :: r, h ++ [.inr (.inl (List.replicate n.toNatClampNeg 0))]) := by
  obtain ⟨hx, hb, hml, hown, hts, hK, -, -, -, hb0, -, hsc⟩ := X
  obtain ⟨hn0, hn1⟩ := mjNew_inv hn
  refine mjGo.push hb0 fun H locs cells slots ls hc1 hs1 hz K => ?_
  have hcs : mjCs (.inr (.inl (List.replicate n.toNatClampNeg (0 : Int32)))) = n.toNatClampNeg := by simp [mjCs]
  rw [hcs] at hs1 K
  refine va_newaK hx hb (atype := .int) (hts _ mjArr.1) rfl hd rfl hn0 rfl (by show _ * 4 ≤ _; omega) hc1 hs1 hz fun H1 cA e1 z1 o1 hAr hNm => ?_
  refine K H1 (by rw [z1, hz]) (fun q hq => o1 q (by rw [← hz]; exact hq)) ⟨cA, hAr, hNm, ?_⟩
  rw [e1, vp_cell_i, List.length_replicate]
  congr 2
  funext q
  rw [mj_getR]
  rfl
theorem mj_newJW (X : mjX p R s m args meth c cc nL own ini D b base d sc H0) (hd : decode cc pc = .ok (.newarray .long, 2)) {n : Int32} (hn : mjNew n = true) :
    mjGo p L0 e R s m args below meth c Q nL b base n0 z0 D H0 (pc, l, .int n :: r, h) (pc + 2, l, .ref (h.length + 1) :: r, h ++ [.inr (.inr (.inl (List.replicate n.toNatClampNeg 0)))]) := by
  obtain ⟨hx, hb, hml, hown, hts, hK, -, -, -, hb0, -, hsc⟩ := X
  obtain ⟨hn0, hn1⟩ := mjNew_inv hn
  refine mjGo.push hb0 fun H locs cells slots ls hc1 hs1 hz K => ?_
  have hcs : mjCs (.inr (.inr (.inl (List.replicate n.toNatClampNeg (0 : Int64))))) = n.toNatClampNeg := by simp [mjCs]
  rw [hcs] at hs1 K
  refine va_newaK hx hb (atype := .long) (hts _ mjArr.2) rfl hd rfl hn0 rfl (by show _ * 8 ≤ _; omega) hc1 hs1 hz fun H1 cA e1 z1 o1 hAr hNm => ?_
  refine K H1 (by rw [z1, hz]) (fun q hq => o1 q (by rw [← hz]; exact hq)) ⟨cA, hAr, hNm, ?_⟩
  rw [e1, vp_cell_l, List.length_replicate]
  congr 2
  funext q
  rw [mj_getR]
  rfl
theorem mj_newRW (X : mjX p R s m args meth c cc nL own ini D b base d sc H0) (hd : decode cc pc = .ok (.anewarray idx, 3)) (hlk : mjLinkB own ini (.anewarray idx) k = true) {n : Int32} (hn : mjNew n = true) :
    mjGo p L0 e R s m args below meth c Q nL b base n0 z0 D H0 (pc, l, .int n :: r, h) (pc + 3, l, .ref (h.length + 1) :: r, h ++ [.inr (.inr (.inr (k.2.1, List.replicate n.toNatClampNeg none)))]) := by
  obtain ⟨hx, hb, hml, hown, hts, hK, hN, -, -, hb0, -, hsc⟩ := X
  obtain ⟨hn0, hn1⟩ := mjNew_inv hn
  simp only [mjLinkB] at hlk
  cases hr : vwCl[k.2.1]? with
  | none => rw [hr] at hlk; cases hlk
  | some r0 =>
    rw [hr] at hlk
    simp only [Bool.and_eq_true, Bool.or_eq_true, decide_eq_true_eq, beq_iff_eq] at hlk
    obtain ⟨g1, g2⟩ := hlk
    have hover : va_AO r0.1 s := by
      rcases g2 with (g2 | g2) | g2
      · rw [g2]; exact hN.1
      · rw [g2]; exact hN.2.1
      · rw [g2]; exact hN.2.2.1
    refine mjGo.push hb0 fun H locs cells slots ls hc1 hs1 hz K => ?_
    have hcs : mjCs (.inr (.inr (.inr (k.2.1, List.replicate n.toNatClampNeg (none : Option Nat))))) = n.toNatClampNeg := by simp [mjCs]
    rw [hcs] at hs1 K
    refine W.anew hx hb hown (mj_link hts g1 rfl) (va_AO.use hover) rfl hd rfl hn0 (by omega) hc1 hs1 fun cA kA comp f1 f2 f3 f4 => ?_
    generalize hH1 : H.push ({ cls := cA, slots := Array.replicate n.toNatClampNeg .null, vm := .none } : Cell) = H1
    have e1 : H1[H.size]? = some (arrV cA n.toNatClampNeg (fun _ => .null)) := by rw [← hH1, Array.getElem?_push_size, ← arrV_new]
    have hK2 := K H1 (by rw [← hH1, Array.size_push]) (fun q hq => by rw [← hH1, Array.getElem?_push, if_neg (Nat.ne_of_lt hq)]) ⟨cA, r0, hr, fun N z => ⟨(fun k h => by cases h), kA, f2, comp, f3⟩, ⟨kA, comp, f2, f3, f4, f1⟩, by
      rw [← hz, e1, vp_cell_q, List.length_replicate]
      congr 2
      funext q
      rw [mj_getR]
      rfl⟩
    show W p L0 e R s m args below meth c H1 locs (cells + 1) (slots + n.toNatClampNeg) Q (F0 m (pc + 3) ls (.ref H.size :: mjSm b base r))
    rw [hz]
    exact hK2
theorem mj_newW {dfs : List (List Value)} (hdf : ∀ (ci : Nat) (r : vw_C) (fs : List Value), vwCl[ci]? = some r → dfs[ci]? = some fs → fs.length = r.2.2 ∧ ∀ j, j < r.2.2 → fs[j]? = some (defaultValue (mjTyOf r j)))
    (X : mjX p R s m args meth c cc nL own ini D b base d sc H0) (hd : decode cc pc = .ok (.new idx, 3)) (hlk : mjLinkB own ini (.new idx) k = true) {fs : List Value} (hf : dfs[k.2.1]? = some fs) :
    mjGo p L0 e R s m args below meth c Q nL b base n0 z0 D H0 (pc, l, r, h) (pc + 3, l, .ref (h.length + 1) :: r, h ++ [.inl (k.2.1, fs)]) := by
  obtain ⟨hx, hb, hml, hown, hts, hK, hN, -, -, hb0, -, hsc⟩ := X
  simp only [mjLinkB] at hlk
  cases hr : vwCl[k.2.1]? with
  | none => rw [hr] at hlk; cases hlk
  | some r0 =>
    rw [hr] at hlk
    simp only [decide_eq_true_eq] at hlk
    obtain ⟨c1, c2, c3, c4, c5⟩ := mjCl hr
    obtain ⟨d1, d2⟩ := hdf _ _ _ hr hf
    have hKn := hK.1 _ _ hr
    refine mjGo.push hb0 fun H locs cells slots ls hc1 hs1 hz K => ?_
    have hcs : mjCs (.inl (k.2.1, fs)) = r0.2.2 := d1
    rw [hcs] at hs1 K
    refine W.newcK hx hb hown (mj_link hts hlk rfl) (hts _ c4) (hts _ c5) rfl hd hc1 hs1 hKn.2.1 hz fun H1 kC hkC e1 z1 o1 => ?_
    refine K H1 (by rw [z1, hz]) (fun q hq => o1 q (by rw [← hz]; exact hq)) ⟨r0, hr, d1, (u_born (mjTyOf r0) hts c1 hKn hkC e1 c2).to fun j hj => ?_⟩
    show _ = (fs.map (mjVr b base)).getD j .null
    have h5 := d2 j hj
    have h6 : (fs.map (mjVr b base))[j]? = some (mjVr b base (defaultValue (mjTyOf r0 j))) := by rw [List.getElem?_map, h5]; rfl
    rw [mj_getD h6]
    cases mjTyOf r0 j <;> rfl
end MJA
