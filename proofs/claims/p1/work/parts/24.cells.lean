/-! Cells: what the tables say of the classes; reading, writing, making. -/
def mjClk (r : vw_C) : Bool :=
  (u_ws r.1 r.2.1 r.2.2).all (fun w => decide (w ∈ tables_1) && goodWord w) && (List.range r.2.2).all (fun k => (parseFieldDescriptor (r.2.1 k).2.2.1).isSome) &&
  (List.range r.2.2).all (fun x => (List.range r.2.2).all fun y => x == y || !((r.2.1 x).2.1 == (r.2.1 y).2.1)) && decide (Cond.instantiable r.1 r.2.2 ∈ tables_1) && decide (Cond.initialized r.1 ∈ tables_1)
theorem mjCl_ok : vwCl.all mjClk = true := by decide +kernel
def mjTyOf (r : vw_C) (k : Nat) : FieldType := (parseFieldDescriptor (r.2.1 k).2.2.1).getD .int
theorem mjCl {ci : Nat} {r : vw_C} (h : vwCl[ci]? = some r) : (∀ w ∈ u_ws r.1 r.2.1 r.2.2, w ∈ lw_g) ∧ (∀ k, k < r.2.2 → parseFieldDescriptor (r.2.1 k).2.2.1 = some (mjTyOf r k)) ∧ (∀ a, a < r.2.2 → ∀ b, b < r.2.2 → a ≠ b → (r.2.1 a).2.1 ≠ (r.2.1 b).2.1) ∧ Cond.instantiable r.1 r.2.2 ∈ lw_g ∧ Cond.initialized r.1 ∈ lw_g := by
  have h1 := List.all_eq_true.mp mjCl_ok r (List.mem_of_getElem? h)
  unfold mjClk at h1
  simp only [Bool.and_eq_true, decide_eq_true_eq] at h1
  obtain ⟨⟨⟨⟨g1, g2⟩, g3⟩, g4⟩, g5⟩ := h1
  refine ⟨fun w hw => ?_, fun k hk => ?_, fun a ha b hb hne he => ?_, lw_g_in (List.mem_append_right _ g4) rfl, lw_g_in (List.mem_append_right _ g5) rfl⟩
  · have h2 := List.all_eq_true.mp g1 w hw
    simp only [Bool.and_eq_true, decide_eq_true_eq] at h2
    exact lw_g_in (List.mem_append_right _ h2.1) h2.2
  · have h2 := List.all_eq_true.mp g2 k (List.mem_range.mpr hk)
    unfold mjTyOf
    cases hq : parseFieldDescriptor (r.2.1 k).2.2.1 with
    | none => rw [hq] at h2; cases h2
    | some t => rfl
  · have h2 := List.all_eq_true.mp (List.all_eq_true.mp g3 a (List.mem_range.mpr ha)) b (List.mem_range.mpr hb)
    simp only [Bool.or_eq_true, Bool.not_eq_true', beq_iff_eq, beq_eq_false_iff_ne] at h2
    rcases h2 with h2 | h2
    · exact hne h2
    · exact h2 he
theorem mj_P1 {D : va_G} {q : Nat × va_E} {H : Heap} (h : va_at D vwCl q H) : va_P D vwCl [q] H := by
  intro k x hx
  have hz : k < 1 := (List.getElem?_eq_some_iff.mp hx).1
  rw [show k = 0 by omega] at hx
  cases hx
  exact h
theorem mj_K1 {s : State} {D : va_G} {cA : ClassId} {ty : FieldType} (hK : va_K D vwCl [] s) (h1 : ArrOfT s cA ty) (h2 : va_RA s cA ty) : va_K D vwCl [(cA, ty)] s := by
  refine ⟨hK.1, fun k x hx => ?_⟩
  have hz : k < 1 := (List.getElem?_eq_some_iff.mp hx).1
  rw [show k = 0 by omega] at hx
  cases hx
  exact ⟨h1, h2⟩
theorem mjFld_inv {h : mjH} {a ci fk : Nat} {v : Value} (hv : mjFld h a ci fk = some v) : ∃ fs, h[a]? = some (.inl (ci, fs)) ∧ fs[fk]? = some v := by
  unfold mjFld at hv
  split at hv
  · rename_i o ho
    cases hb : Nat.beq o.1 ci with
    | false => rw [hb] at hv; cases hv
    | true =>
      rw [hb] at hv
      have h1 : o.1 = ci := Nat.eq_of_beq_eq_true hb
      subst h1
      exact ⟨o.2, ho, by simpa using hv⟩
  · cases hv
theorem mjPut_inv {h h' : mjH} {a ci fk t : Nat} {v : Value} (hv : mjPut h a ci fk t v = some h') : ∃ fs, h[a]? = some (.inl (ci, fs)) ∧ mjTy t v = true ∧ h' = h.set a (.inl (ci, fs.set fk v)) := by
  unfold mjPut at hv
  split at hv
  · rename_i o ho
    cases hb : Nat.beq o.1 ci && mjTy t v with
    | false => rw [hb] at hv; cases hv
    | true =>
      rw [hb] at hv
      simp only [Bool.and_eq_true] at hb
      have h1 : o.1 = ci := Nat.eq_of_beq_eq_true hb.1
      subst h1
      exact ⟨o.2, ho, hb.2, by simpa using hv.symm⟩
  · cases hv
theorem mjTy_fit {t b base : Nat} {v : Value} {ty : FieldType} (h : mjTy t v = true) (ht : mjTyOk t ty = true) : narrow ty (mjVr b base v) = mjVr b base v ∧ fits ty (mjVr b base v) = true := by
  unfold mjTyOk at ht
  split at ht
  · cases v <;> simp_all [mjTy, mjVr, narrow, fits]
  · cases v <;> simp_all [mjTy, mjVr, narrow, fits]
  · cases v with
    | int x =>
      have hx : x = 0 ∨ x = 1 := by simpa [mjTy] using h
      rcases hx with rfl | rfl <;> exact ⟨rfl, rfl⟩
    | _ => simp_all [mjTy]
  · cases v <;> simp_all [mjTy, mjVr, narrow, fits]
  · cases v <;> simp_all [mjTy, mjVr, narrow, fits]
  · cases ht
theorem mjArI_inv {h : mjH} {a : Nat} {xs : List Int32} (hv : mjArI h a = some xs) : h[a]? = some (.inr (.inl xs)) := by
  unfold mjArI at hv
  split at hv
  · rename_i ho; cases hv; exact ho
  · cases hv
theorem mjArJ_inv {h : mjH} {a : Nat} {xs : List Int64} (hv : mjArJ h a = some xs) : h[a]? = some (.inr (.inr (.inl xs))) := by
  unfold mjArJ at hv
  split at hv
  · rename_i ho; cases hv; exact ho
  · cases hv
theorem mjArR_inv {h : mjH} {a : Nat} {o : Nat × List (Option Nat)} (hv : mjArR h a = some o) : h[a]? = some (.inr (.inr (.inr o))) := by
  unfold mjArR at hv
  split at hv
  · rename_i ho; cases hv; exact ho
  · cases hv
theorem mjIs_inv {h : mjH} {v : Value} {ci : Nat} (hv : mjIs h v ci = true) : ∃ a fs, v = .ref (a + 1) ∧ h[a]? = some (.inl (ci, fs)) := by
  match v, hv with
  | .ref (a + 1), hv =>
    unfold mjIs at hv
    cases ha : h[a]? with
    | none => simp [ha] at hv
    | some x =>
      cases x with
      | inl o =>
        simp [ha] at hv
        have h1 : o.1 = ci := by simpa using hv
        subst h1
        exact ⟨a, o.2, rfl, ha⟩
      | inr y => simp [ha] at hv
theorem mj_getD {α : Type} {xs : List α} {j : Nat} {d x : α} (h : xs[j]? = some x) : xs.getD j d = x := by simp [List.getD, h]
theorem mj_setD {α : Type} (xs : List α) {j : Nat} (x d : α) (hj : j < xs.length) (q : Nat) : (xs.set j x).getD q d = if q = j then x else xs.getD q d := by
  by_cases h : q = j
  · subst h
    simp [List.getD, hj]
  · simp [List.getD, List.getElem?_set_ne (Ne.symm h), h]
section MJC
variable {p : Program} {L0 : Launch} {e : Env} {R : Room} {s : State} {m : MethodId} {args : Array Value} {below : List Frame} {meth : Method} {c : Code} {Q : State → Prop}
variable {cc : ByteArray} {nL b base d n0 z0 : Nat} {own : String} {ini : Bool} {D : va_G} {sc : Option (List Int32)} {H0 : Heap}
variable {pc idx : Nat} {l : mjL} {r : List Value} {h h' : mjH} {k : mjK} {v : Value} {a : Nat}
theorem mj_link {w : Cond} {i : Nat} (hts : ∀ w ∈ lw_g, w.before args s = true) (h : tables_1[i]? = some w) (hg : goodWord w = true) : w.before args s = true := hts w (mjTbl_in h hg)
theorem mj_getW (X : mjX p R s m args meth c cc nL own ini D b base d sc H0) (hd : decode cc pc = .ok (.getfield idx, 3)) (hlk : mjLinkB own ini (.getfield idx) k = true) (hv : mjFld h a k.2.1 k.2.2.1 = some v) :
    mjGo p L0 e R s m args below meth c Q nL b base n0 z0 D H0 (pc, l, .ref (a + 1) :: r, h) (pc + 3, l, v :: r, h) := by
  obtain ⟨hx, hb, hml, hown, hts, hK, hN, -⟩ := X
  obtain ⟨fs, ho, hf⟩ := mjFld_inv hv
  refine mjGo.read fun H locs cells slots ls hJ hS K => ?_
  obtain ⟨r0, h1, h2, h3⟩ := hJ.2 a _ ho
  simp only [mjLinkB] at hlk
  rw [show vwCl[k.2.1]? = some r0 from h1] at hlk
  simp only [Bool.and_eq_true, Nat.blt_eq, beq_iff_eq] at hlk
  obtain ⟨⟨g1, g2⟩, g3⟩ := hlk
  have hP : va_P D vwCl [(base + a, .inr (k.2.1, fs.map (mjVr b base)))] H := mj_P1 ⟨r0, h1, h3⟩
  have hfv : (fs.map (mjVr b base))[k.2.2.1]? = some (mjVr b base v) := by rw [List.getElem?_map, hf]; rfl
  unfold mjFL at g3
  simp only [Bool.or_eq_true, Bool.and_eq_true, decide_eq_true_eq] at g3
  rcases g3 with g3 | g3
  · exact va_get (own := own) (ref := r0.1) (C := r0.1) (T := r0.2.1) (N := r0.2.2) hx hb hts (mjCl h1).1 hown hK hP 0 rfl h1 k.2.2.1 g1 (mj_link hts g3.2 rfl) (fun x hx => by rw [← hx, g2]) hfv hd K
  · exact va_getN (own := own) (ref := r0.1) (host := "TableBench") (C := r0.1) (T := r0.2.1) (N := r0.2.2) hx hb hts (mjCl h1).1 hown hK hP 0 rfl h1 k.2.2.1 g1 (mjNest hN g3.2 rfl) (fun x hx => by rw [← hx, g2]) hfv hd K
theorem mj_putW (X : mjX p R s m args meth c cc nL own ini D b base d sc H0) (hd : decode cc pc = .ok (.putfield idx, 3)) (hlk : mjLinkB own ini (.putfield idx) k = true) (hv : mjPut h a k.2.1 k.2.2.1 k.2.2.2.1 v = some h') :
    mjGo p L0 e R s m args below meth c Q nL b base n0 z0 D H0 (pc, l, v :: .ref (a + 1) :: r, h) (pc + 3, l, r, h') := by
  obtain ⟨hx, hb, hml, hown, hts, hK, hN, -, -, -, hini, -⟩ := X
  obtain ⟨fs, ho, ht, rfl⟩ := mjPut_inv hv
  refine mjGo.put ho (by simp [mjCs]) fun H locs cells slots ls hJ K => ?_
  obtain ⟨r0, h1, h2, cell, q1, q2, q3, q4⟩ := hJ.2 a _ ho
  simp only [mjLinkB] at hlk
  rw [show vwCl[k.2.1]? = some r0 from h1] at hlk
  simp only [Bool.and_eq_true, Nat.blt_eq, beq_iff_eq] at hlk
  obtain ⟨⟨⟨⟨g1, g2⟩, g3⟩, g5⟩, g4⟩ := hlk
  obtain ⟨c1, c2, c3, -, -⟩ := mjCl h1
  have hty := c2 k.2.2.1 g1
  rw [hty] at g5
  obtain ⟨hn, hfit⟩ := mjTy_fit (b := b) (base := base) ht g5
  have hap := va_apart (own := own) (C := r0.1) (T := r0.2.1) (N := r0.2.2) hts c1 (mjTyOf r0) c2 c3 hK h1
  obtain ⟨hS1, hfc, kC, hkC, hkind⟩ := hK.1 k.2.1 _ h1
  obtain ⟨cf, kf, fi, f, hi, hsl⟩ := hS1 k.2.2.1 g1
  have hst := (u_facts hfc hkC (u_lays hts c1 g1) hi).1
  have hsame : s.fieldFound? r0.1 (r0.2.1 k.2.2.1).2.1 (r0.2.1 k.2.2.1).2.2.1 = some (cf, kf, fi, f) := by rw [← g2]; exact hi
  have hlt : f.slot < cell.slots.size := by rw [hsl]; exact k2_hasslot (q4 _ g1)
  have hlay := hts _ (c1 _ (u_in_lay g1))
  unfold u_lay at hlay
  have done : ∀ H1 : Heap, H1[base + a]? = some (cell.setSlot f.slot (mjVr b base v)) → mjAt s D b base (base + a) (.inl (k.2.1, fs.set k.2.2.1 v)) H1 := fun H1 e1 => by
    refine ⟨r0, h1, by rw [List.length_set]; exact h2, t_OB.to (V := updV (vp_V (fs.map (mjVr b base))) k.2.2.1 (mjVr b base v)) ⟨_, e1, q2, q3, by rw [hsl]; exact t_set q4 hap g1 _⟩ fun j _ => ?_⟩
    rw [vp_updV_set (by rw [List.length_map]; have h2 : fs.length = r0.2.2 := h2; omega)]
    congr 1
    rw [List.map_set]
  unfold mjFL at g3
  simp only [Bool.or_eq_true, Bool.and_eq_true, decide_eq_true_eq, Bool.not_eq_true', beq_iff_eq] at g3 g4
  by_cases hfin : (r0.2.1 k.2.2.1).2.2.2 = true
  · rcases g4 with g4 | ⟨⟨g4, g6⟩, g7⟩
    · rw [hfin] at g4; cases g4
    rw [if_pos hfin] at hlay
    have hcf : m.cls = cf := by
      obtain ⟨_, _, c', _, _, _, -, -, hf', -, -, -, hown2, -⟩ := Cond.laysFinal_spec hlay
      have e1 : c' = cf := by have := hi.symm.trans hf'; simp at this; exact this.1.symm
      rw [g2, ← g6] at hown2
      rw [← e1]; exact Option.some.inj (hown.symm.trans hown2)
    have h6 := u_fits hfc hkC hkind (Or.inr hlay) hi hty hn hfit
    rcases g3 with g3 | g3
    · exact W.putFinK hx hb hown (mj_link hts g3.2 rfl) hsame hst hcf (hini g4) (by rw [q2]; exact h6) q1 q3 hlt rfl rfl hd fun H1 e1 e2 e3 => K H1 _ e2 e3 (done H1 e1)
    · have : k.1 = 2 := Nat.eq_of_beq_eq_true g3.1
      have h8 : k.1 = 1 := Nat.eq_of_beq_eq_true g7
      omega
  · rw [if_neg hfin] at hlay
    have h6 := u_store hfc hkC hkind hlay hi hty hn hfit
    rcases g3 with g3 | g3
    · exact W.putK hx hb (f := f) ⟨hown, mj_link hts g3.2 rfl, ⟨_, _, _, hsame⟩, hst⟩ (by rw [q2]; exact h6) q1 q3 hlt rfl rfl hd fun H1 e1 e2 e3 => K H1 _ e2 e3 (done H1 e1)
    · exact va_WputK hx hb (f := f) hown (mjNest hN g3.2 rfl) hsame hst (by rw [q2]; exact h6) q1 q3 hlt rfl rfl hd fun H1 e1 e2 e3 => K H1 _ e2 e3 (done H1 e1)
end MJC
