/-! What the small machine's cells are in the heap, and how a step of it is a step of the machine. -/
def mjAd (b base : Nat) : Nat → Nat
  | 0 => b
  | k + 1 => base + k
def mjVr (b base : Nat) : Value → Value
  | .ref a => .ref (mjAd b base a)
  | .int x => .int x
  | .long x => .long x
  | .float x => .float x
  | .double x => .double x
  | .null => .null
  | .retAddr x => .retAddr x
abbrev mjSm (b base : Nat) (s : List Value) : List Value := s.map (mjVr b base)
abbrev mjLm (b base : Nat) (l : mjL) : mjL := l.map fun q => (q.1, mjVr b base q.2)
def mjAt (s : State) (D : va_G) (b base a : Nat) (c : mjC) (H : Heap) : Prop := match c with
  | .inl o => ∃ r : vw_C, vwCl[o.1]? = some r ∧ o.2.length = r.2.2 ∧ t_OB a (D.1 o.1) r.2.2 (D.2 o.1) H (vp_V (o.2.map (mjVr b base)))
  | .inr (.inl xs) => ∃ cA : ClassId, ArrOfT s cA .int ∧ va_RA s cA .int ∧ H[a]? = some (vp_cell cA (xs.length, .inl (fun j => xs.getD j 0)))
  | .inr (.inr (.inl xs)) => ∃ cA : ClassId, ArrOfT s cA .long ∧ va_RA s cA .long ∧ H[a]? = some (vp_cell cA (xs.length, .inr (.inl (fun j => xs.getD j 0))))
  | .inr (.inr (.inr o)) => ∃ (cA : ClassId) (r : vw_C), vwCl[o.1]? = some r ∧ ArrOfT s cA (.object r.1) ∧ va_RA s cA (.object r.1) ∧ H[a]? = some (vp_cell cA (o.2.length, .inr (.inr (.inr (.inr (fun j => (o.2.getD j none).map (mjAd b base)))))))
def mjJ (s : State) (D : va_G) (b base : Nat) (h : mjH) (H : Heap) : Prop := H.size = base + h.length ∧ ∀ (k : Nat) (c : mjC), h[k]? = some c → mjAt s D b base (base + k) c H
theorem mjVr_cat (b base : Nat) (v : Value) : (mjVr b base v).category = v.category := by cases v <;> rfl
theorem mjVr_kd (b base : Nat) (v : Value) : mjKd (mjVr b base v) = mjKd v := by cases v <;> rfl
theorem mjVr_rf (b base : Nat) (q : Option Nat) : mjVr b base (va_rf q) = va_rf (q.map (mjAd b base)) := by cases q <;> rfl
theorem mjSm_cat (b base : Nat) (s : List Value) : ((mjSm b base s).map fun v => v.category).sum = mjCat s := by
  unfold mjSm mjCat
  rw [List.map_map]
  congr 1
  exact List.map_congr_left fun v _ => mjVr_cat b base v
theorem mjAt.kept {s : State} {D : va_G} {b base a : Nat} {c : mjC} {H H' : Heap} (h : mjAt s D b base a c H) (hq : H'[a]? = H[a]?) : mjAt s D b base a c H' := by
  match c, h with
  | .inl o, ⟨r, h1, h2, h3⟩ => exact ⟨r, h1, h2, h3.kept hq⟩
  | .inr (.inl xs), ⟨cA, h1, h2, h3⟩ => exact ⟨cA, h1, h2, hq.trans h3⟩
  | .inr (.inr (.inl xs)), ⟨cA, h1, h2, h3⟩ => exact ⟨cA, h1, h2, hq.trans h3⟩
  | .inr (.inr (.inr o)), ⟨cA, r, h0, h1, h2, h3⟩ => exact ⟨cA, r, h0, h1, h2, hq.trans h3⟩
theorem mjAt.moved {s t : State} (hvm : s.vm.Alike t.vm) {D : va_G} {b base a : Nat} {c : mjC} {H : Heap} (h : mjAt s D b base a c H) : mjAt t D b base a c H := by
  match c, h with
  | .inl o, h => exact h
  | .inr (.inl xs), ⟨cA, h1, h2, h3⟩ => exact ⟨cA, arrOfT_moved hvm h1, h2.moved hvm, h3⟩
  | .inr (.inr (.inl xs)), ⟨cA, h1, h2, h3⟩ => exact ⟨cA, arrOfT_moved hvm h1, h2.moved hvm, h3⟩
  | .inr (.inr (.inr o)), ⟨cA, r, h0, h1, h2, h3⟩ => exact ⟨cA, r, h0, arrOfT_moved hvm h1, h2.moved hvm, h3⟩
theorem mjJ.moved {s t : State} (hvm : s.vm.Alike t.vm) {D : va_G} {b base : Nat} {h : mjH} {H : Heap} (hJ : mjJ s D b base h H) : mjJ t D b base h H := ⟨hJ.1, fun k c hk => (hJ.2 k c hk).moved hvm⟩
theorem mjJ.put {s : State} {D : va_G} {b base a : Nat} {h : mjH} {c : mjC} {H H' : Heap} (hJ : mjJ s D b base h H) (ha : a < h.length) (z : H'.size = H.size) (oq : ∀ q : Nat, q ≠ base + a → H'[q]? = H[q]?) (hc : mjAt s D b base (base + a) c H') : mjJ s D b base (h.set a c) H' := by
  refine ⟨by rw [z, hJ.1, List.length_set], fun k c' hk => ?_⟩
  by_cases hka : k = a
  · subst hka
    rw [List.getElem?_set_self ha] at hk
    cases hk
    exact hc
  · rw [List.getElem?_set_ne (Ne.symm hka)] at hk
    exact (hJ.2 k c' hk).kept (oq _ (by omega))
theorem mjJ.push {s : State} {D : va_G} {b base : Nat} {h : mjH} {c : mjC} {H H' : Heap} (hJ : mjJ s D b base h H) (z : H'.size = H.size + 1) (oq : ∀ q : Nat, q < H.size → H'[q]? = H[q]?) (hc : mjAt s D b base (base + h.length) c H') : mjJ s D b base (h ++ [c]) H' := by
  refine ⟨by rw [z, hJ.1, List.length_append]; rfl, fun k c' hk => ?_⟩
  rcases Nat.lt_or_ge k h.length with hl | hl
  · rw [List.getElem?_append_left hl] at hk
    exact (hJ.2 k c' hk).kept (oq _ (by rw [hJ.1]; omega))
  · rw [List.getElem?_append_right hl] at hk
    have hz : k - h.length < 1 := (List.getElem?_eq_some_iff.mp hk).1
    have hk0 : k = h.length := by omega
    subst hk0
    rw [Nat.sub_self] at hk
    cases hk
    exact hc
theorem mjSz_app (h : mjH) (c : mjC) : mjSz (h ++ [c]) = mjSz h + mjCs c := by
  induction h with
  | nil => simp [mjSz]
  | cons x t ih => simp only [List.cons_append, mjSz, ih]; omega
theorem mjSz_set {h : mjH} {a : Nat} {c0 c : mjC} (ha : h[a]? = some c0) (hc : mjCs c0 = mjCs c) : mjSz (h.set a c) = mjSz h := by
  induction h generalizing a with
  | nil => simp at ha
  | cons x t ih =>
    cases a with
    | zero => simp at ha; subst ha; simp [mjSz, hc]
    | succ a => simp at ha; simp only [List.set_cons_succ, mjSz, ih ha]
theorem mjLk_mem {i : Nat} {v : Value} : ∀ {l : mjL}, mjLk i l = some v → (i, v) ∈ l
  | [], h => by simp [mjLk] at h
  | q :: t, h => by
    unfold mjLk at h
    cases hq : Nat.beq q.1 i with
    | true =>
      rw [hq] at h
      have h1 : q.2 = v := by simpa using h
      have h2 : q.1 = i := Nat.eq_of_beq_eq_true hq
      exact List.mem_cons.mpr (Or.inl (by rw [← h1, ← h2]))
    | false =>
      rw [hq] at h
      exact List.mem_cons_of_mem _ (mjLk_mem (by simpa using h))
theorem mjLk_at {b base i nL : Nat} {v : Value} {l : mjL} {ls : Array Slot} (hl : lv_has ls nL (mjLm b base l)) (h : mjLk i l = some v) : ls[i]? = some (.val (mjVr b base v)) :=
  hl.2.2 (i, mjVr b base v) (List.mem_map.mpr ⟨(i, v), mjLk_mem h, rfl⟩)
theorem mjLoad_inv {t i : Nat} {l : mjL} {v : Value} (h : mjLoad t i l = some v) : mjLk i l = some v ∧ mjKd v = t := by
  unfold mjLoad at h
  cases hq : mjLk i l with
  | none => rw [hq] at h; cases h
  | some w =>
    rw [hq] at h
    simp only [Option.bind_some] at h
    cases hb : Nat.beq (mjKd w) t with
    | true =>
      rw [hb] at h
      have : w = v := by simpa using h
      subst this
      exact ⟨rfl, Nat.eq_of_beq_eq_true hb⟩
    | false => rw [hb] at h; cases h
theorem mjKd0 {v : Value} (h : mjKd v = 0) : ∃ x, v = .int x := by cases v <;> simp [mjKd] at h; exact ⟨_, rfl⟩
theorem mjKd1 {v : Value} (h : mjKd v = 1) : ∃ x, v = .long x := by cases v <;> simp [mjKd] at h; exact ⟨_, rfl⟩
theorem mjKd2 {v : Value} (h : mjKd v = 2) : ∃ x, v = .double x := by cases v <;> simp [mjKd] at h; exact ⟨_, rfl⟩
theorem mjKd4 {v : Value} (h : mjKd v = 4) : v = .null ∨ ∃ x, v = .ref x := by
  cases v <;> simp [mjKd] at h
  · exact Or.inl rfl
  · exact Or.inr ⟨_, rfl⟩
theorem mjSt1_inv {t i nL : Nat} {v : Value} {l l' : mjL} (h : mjSt1 t i nL v l = some l') : mjKd v = t ∧ i < nL ∧ l' = (i, v) :: l.filter (mjF1 i) := by
  unfold mjSt1 at h
  cases hb : Nat.beq (mjKd v) t && Nat.blt i nL with
  | false => rw [hb] at h; cases h
  | true =>
    rw [hb] at h
    simp only [Bool.and_eq_true] at hb
    refine ⟨Nat.eq_of_beq_eq_true hb.1, by simpa [Nat.blt_eq] using hb.2, ?_⟩
    simpa using h.symm
theorem mjSt2_inv {t i nL : Nat} {v : Value} {l l' : mjL} (h : mjSt2 t i nL v l = some l') : mjKd v = t ∧ i + 1 < nL ∧ l' = (i, v) :: l.filter (mjF2 i) := by
  unfold mjSt2 at h
  cases hb : Nat.beq (mjKd v) t && Nat.blt (i + 1) nL with
  | false => rw [hb] at h; cases h
  | true =>
    rw [hb] at h
    simp only [Bool.and_eq_true] at hb
    refine ⟨Nat.eq_of_beq_eq_true hb.1, by simpa [Nat.blt_eq] using hb.2, ?_⟩
    simpa using h.symm
theorem mjF1_map (b base i : Nat) (l : mjL) : (mjLm b base l).filter (fun q => !(q.1 == i) && !(q.1 + 1 == i && q.2.category == 2)) = mjLm b base (l.filter (mjF1 i)) := by
  unfold mjLm
  rw [List.filter_map]
  congr 1
  apply List.filter_congr
  intro q _
  simp [mjF1, mjVr_cat]
theorem mjF2_map (b base i : Nat) (l : mjL) : (mjLm b base l).filter (fun q => !(q.1 == i) && (!(q.1 == i + 1) && !(q.1 + 1 == i && q.2.category == 2))) = mjLm b base (l.filter (mjF2 i)) := by
  unfold mjLm
  rw [List.filter_map]
  congr 1
  apply List.filter_congr
  intro q _
  simp [mjF2, mjVr_cat]
theorem mjJmp_inv {pc n : Nat} {off : Int} (h : mjJmp pc off = some n) : (pc : Int) + off = (n : Int) := by
  unfold mjJmp at h
  split at h
  · rename_i k hk
    cases h
    exact hk
  · cases h
theorem mjAt?_inv {α : Type} {xs : List α} {i : Int32} {x : α} (h : mjAt? xs i = some x) : vp_in i xs.length ∧ xs[i.toNatClampNeg]? = some x := by
  unfold mjAt? at h
  split at h
  · cases h
  · rename_i hn
    refine ⟨fun q => ?_, h⟩
    rcases q with q | q
    · exact hn q
    · exact absurd (List.getElem?_eq_some_iff.mp h).1 (by omega)
theorem mjIn_inv {i : Int32} {n : Nat} (h : mjIn i n = true) : vp_in i n ∧ i.toNatClampNeg < n := by
  unfold mjIn at h
  simp only [Bool.and_eq_true, decide_eq_true_eq, Nat.blt_eq] at h
  refine ⟨fun q => ?_, h.2⟩
  rcases q with q | q
  · exact h.1 q
  · omega
theorem mjSplit_inv : ∀ {n : Nat} {s acc as r : List Value}, mjSplit n s acc = some (as, r) → ∃ pre : List Value, pre.length = n ∧ s = pre ++ r ∧ as = pre.reverse ++ acc
  | 0, s, acc, as, r, h => by
    simp [mjSplit] at h
    exact ⟨[], rfl, by simp [h.2], by simp [h.1]⟩
  | n + 1, [], acc, as, r, h => by simp [mjSplit] at h
  | n + 1, v :: s, acc, as, r, h => by
    obtain ⟨pre, h1, h2, h3⟩ := mjSplit_inv (n := n) (s := s) (acc := v :: acc) (by simpa [mjSplit] using h)
    exact ⟨v :: pre, by simp [h1], by simp [h2], by simp [h3]⟩
theorem mjLm_args (b base : Nat) : ∀ (vs : List Value) (i : Nat), lv_args i (mjSm b base vs) = mjLm b base (lv_args i vs)
  | [], i => rfl
  | v :: vs, i => by
    simp only [mjSm, List.map_cons, lv_args, mjLm]
    rw [mjVr_cat]
    congr 1
    exact mjLm_args b base vs _
theorem mjSl_len (b base : Nat) (vs : List Value) : (lg_sl (mjSm b base vs)).length = (lg_sl vs).length := by
  induction vs with
  | nil => rfl
  | cons v vs ih =>
    simp only [mjSm, lg_sl, List.map_cons, List.flatMap_cons, List.length_append] at ih ⊢
    rw [ih, mjVr_cat]
    by_cases h : v.category = 2 <;> simp [h]
