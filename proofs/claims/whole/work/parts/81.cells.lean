/-! Reading and writing cells told by integers. -/
theorem mjMZ_get {Z : mjZ} {c : Nat} (h : c < 494) : (mjMZ Z)[c]? = some (mjFill (mjSh c) (Z c)) := mjA_get h
theorem mjTg_lt {t c : Nat} (h : mjOk t c) : c < 494 := by
  unfold mjOk mjTgB at h
  rw [Bool.and_eq_true] at h
  exact Nat.blt_eq ▸ h.1
theorem mjTg_ob {t c : Nat} (h : mjOk t c) (ht : Nat.blt t 12 = true) : ∃ ts, mjSh c = .inl (t, ts) ∧ mjFdsB t c 0 ts = true ∧ ts.length = (mjKl t).length := by
  have hc := mjTg_lt h
  have ht : t < 12 := Nat.blt_eq ▸ ht
  have hk := mjCk hc
  unfold mjOk mjTgB at h
  rw [Bool.and_eq_true] at h
  have h2 := h.2
  unfold mjCkB at hk
  cases hs : mjSh c with
  | inl o =>
    rw [hs] at h2 hk
    have := Nat.eq_of_beq_eq_true h2
    subst this
    dsimp only at hk
    rw [Bool.and_eq_true, Bool.and_eq_true] at hk
    exact ⟨o.2, rfl, hk.1.1, Nat.eq_of_beq_eq_true hk.2⟩
  | inr x =>
    rw [hs] at h2
    cases x with
    | inl xs =>
      dsimp only at h2
      rw [Bool.or_eq_true] at h2
      rcases h2 with h2 | h2 <;> (have := Nat.eq_of_beq_eq_true h2; omega)
    | inr x => cases x with
      | inl xs => dsimp only at h2; have := Nat.eq_of_beq_eq_true h2; omega
      | inr o =>
        dsimp only at h2
        rw [Bool.and_eq_true] at h2
        have := Nat.blt_eq ▸ h2.2
        omega
theorem mjTg_I {t c : Nat} (h : mjOk t c) (ht : t = 100 ∨ 10000 ≤ t ∧ t < 20000) : ∃ xs, mjSh c = .inr (.inl xs) ∧ xs.length < 4000 ∧ (t = 100 ∨ t = 10000 + xs.length) := by
  have hc := mjTg_lt h
  have hk := mjCk hc
  unfold mjOk mjTgB at h
  rw [Bool.and_eq_true] at h
  have h2 := h.2
  unfold mjCkB at hk
  cases hs : mjSh c with
  | inl o =>
    rw [hs] at h2 hk
    have := Nat.eq_of_beq_eq_true h2
    dsimp only at hk
    rw [Bool.and_eq_true, Bool.and_eq_true] at hk
    have := Nat.blt_eq ▸ hk.1.2
    omega
  | inr x =>
    rw [hs] at h2 hk
    cases x with
    | inl xs =>
      dsimp only at h2 hk
      rw [Bool.or_eq_true] at h2
      have hk := Nat.blt_eq ▸ hk
      rcases h2 with h2 | h2 <;> (have := Nat.eq_of_beq_eq_true h2; exact ⟨xs, rfl, hk, by omega⟩)
    | inr x => cases x with
      | inl xs => dsimp only at h2; have := Nat.eq_of_beq_eq_true h2; omega
      | inr o =>
        dsimp only at h2
        rw [Bool.and_eq_true] at h2
        have := Nat.eq_of_beq_eq_true h2.1
        have h3 : mjRt c < 100 := by
          unfold mjRt
          repeat' (first | omega | (rw [cond_eq_ite]; split))
        omega
theorem mjTg_J {t c : Nat} (h : mjOk t c) (ht : 20000 ≤ t) : ∃ xs, mjSh c = .inr (.inr (.inl xs)) ∧ xs.length < 4000 ∧ t = 20000 + xs.length := by
  have hc := mjTg_lt h
  have hk := mjCk hc
  unfold mjOk mjTgB at h
  rw [Bool.and_eq_true] at h
  have h2 := h.2
  unfold mjCkB at hk
  cases hs : mjSh c with
  | inl o =>
    rw [hs] at h2 hk
    have := Nat.eq_of_beq_eq_true h2
    dsimp only at hk
    rw [Bool.and_eq_true, Bool.and_eq_true] at hk
    have := Nat.blt_eq ▸ hk.1.2
    omega
  | inr x =>
    rw [hs] at h2 hk
    cases x with
    | inl xs =>
      dsimp only at h2 hk
      rw [Bool.or_eq_true] at h2
      have hk := Nat.blt_eq ▸ hk
      rcases h2 with h2 | h2 <;> (have := Nat.eq_of_beq_eq_true h2; omega)
    | inr x => cases x with
      | inl xs => 
        dsimp only at h2 hk
        have := Nat.eq_of_beq_eq_true h2
        exact ⟨xs, rfl, Nat.blt_eq ▸ hk, this⟩
      | inr o =>
        dsimp only at h2
        rw [Bool.and_eq_true] at h2
        have := Nat.eq_of_beq_eq_true h2.1
        have h3 : mjRt c < 100 := by
          unfold mjRt
          repeat' (first | omega | (rw [cond_eq_ite]; split))
        omega
theorem mjTg_R {t c : Nat} (h : mjOk t c) (ht : 29 < t ∧ t < 38) : ∃ o : Nat × List (Option Nat), mjSh c = .inr (.inr (.inr o)) ∧ o.2.length = (mjRw t).1 ∧ o.1 = (mjRw t).2.1 ∧ mjElB (mjRw t).2.1 c (mjRw t).2.2.1 (mjRw t).2.2.2 0 o.2 = true ∧ (Nat.beq t 35 = Nat.beq o.2.length 36) := by
  have hc := mjTg_lt h
  have hk := mjCk hc
  unfold mjOk mjTgB at h
  rw [Bool.and_eq_true] at h
  have h2 := h.2
  unfold mjCkB at hk
  cases hs : mjSh c with
  | inl o =>
    rw [hs] at h2 hk
    have := Nat.eq_of_beq_eq_true h2
    dsimp only at hk
    rw [Bool.and_eq_true, Bool.and_eq_true] at hk
    have := Nat.blt_eq ▸ hk.1.2
    omega
  | inr x =>
    rw [hs] at h2 hk
    cases x with
    | inl xs =>
      dsimp only at h2 hk
      rw [Bool.or_eq_true] at h2
      rcases h2 with h2 | h2 <;> (have := Nat.eq_of_beq_eq_true h2; omega)
    | inr x => cases x with
      | inl xs => dsimp only at h2; have := Nat.eq_of_beq_eq_true h2; omega
      | inr o =>
        dsimp only at h2 hk
        rw [Bool.and_eq_true] at h2
        have := Nat.eq_of_beq_eq_true h2.1
        subst this
        rw [Bool.and_eq_true, Bool.and_eq_true, Bool.and_eq_true] at hk
        obtain ⟨⟨⟨k1, k2⟩, k3⟩, k4⟩ := hk
        exact ⟨o, rfl, Nat.eq_of_beq_eq_true k1, Nat.eq_of_beq_eq_true k2, k3, eq_of_beq k4⟩
/-- the value of a field -/
def mjGf (ci fk c : Nat) (Z : mjZ) : Option mjY := match mjKf ci fk with
  | some (0, _, _) => some (yI (Z c fk))
  | some (1, _, _) => some (yJ (Z c fk))
  | some (2, t, _) => some (yR t (Z c fk).toNat)
  | some (3, t, n) => some (yR t (c + n))
  | _ => none
/-- only a reference that changes wants it -/
def mjGk (ci fk c : Nat) (Z : mjZ) : Prop := match mjKf ci fk with
  | some (2, t, _) => mjOk t (Z c fk).toNat
  | _ => True
def mjYok : mjY → Prop
  | .inr (.inr (.inl q)) => mjOk q.1 q.2
  | _ => True
theorem mjFs2_get {ci : Nat} {z : Nat → Int} : ∀ (ts : List Value) (k i : Nat), (mjFs2 ci k ts z)[i]? = (ts[i]?).map fun t => mjFv (mjMu ci (k + i)) t (z (k + i))
  | [], k, i => by simp [mjFs2]
  | t :: ts, k, 0 => by simp [mjFs2]
  | t :: ts, k, i + 1 => by
    simp only [mjFs2, List.getElem?_cons_succ]
    rw [mjFs2_get ts (k + 1) i, show k + 1 + i = k + (i + 1) by omega]
theorem mjFds_get {ci c : Nat} : ∀ (ts : List Value) (k i : Nat), mjFdsB ci c k ts = true → ∀ v, ts[i]? = some v → mjFdB ci c (k + i) v = true
  | [], k, i, _, v, h => by simp at h
  | t :: ts, k, 0, h, v, hv => by
    simp only [mjFdsB, Bool.and_eq_true] at h
    simp only [List.getElem?_cons_zero, Option.some.injEq] at hv
    subst hv
    exact h.1
  | t :: ts, k, i + 1, h, v, hv => by
    simp only [mjFdsB, Bool.and_eq_true] at h
    rw [List.getElem?_cons_succ] at hv
    have := mjFds_get ts (k + 1) i h.2 v hv
    rwa [show k + 1 + i = k + (i + 1) by omega] at this
theorem mjGet_fld {t c fk : Nat} {Z : mjZ} {y : mjY} (h : mjOk t c) (ht : Nat.blt t 12 = true) (hg : mjGf t fk c Z = some y) : mjFld (mjMZ Z) c t fk = some (mjYv y) := by
  obtain ⟨ts, h1, h2, h3⟩ := mjTg_ob h ht
  unfold mjFld
  rw [mjMZ_get (mjTg_lt h), h1]
  simp only [mjFill, Nat.beq_refl, cond_true]
  rw [mjFs2_get, Nat.zero_add]
  unfold mjGf at hg
  have hk : ∃ x, mjKf t fk = some x := by
    cases hq : mjKf t fk with
    | none => rw [hq] at hg; cases hg
    | some x => exact ⟨x, rfl⟩
  obtain ⟨x, hx⟩ := hk
  have hl : fk < ts.length := by
    unfold mjKf at hx
    have := (List.getElem?_eq_some_iff.mp hx).1
    omega
  have hv : ts[fk]? = some ts[fk] := List.getElem?_eq_getElem hl
  have hf := mjFds_get ts 0 fk h2 _ hv
  rw [Nat.zero_add] at hf
  rw [hv]
  generalize ts[fk] = v at *
  simp only [Option.map_some]
  rw [hx] at hg
  unfold mjFdB at hf
  rw [hx] at hf
  obtain ⟨k, tg, n⟩ := x
  match k, hg, hf with
  | 0, hg, hf =>
    cases v <;> simp at hf
    cases hg
    rfl
  | 1, hg, hf =>
    cases v <;> simp at hf
    cases hg
    rfl
  | 2, hg, hf =>
    cases v <;> simp at hf
    cases hg
    simp only [mjFv, hf, cond_true, mjYv]
  | 3, hg, hf =>
    cases v <;> simp at hf
    rename_i r
    cases hg
    obtain ⟨⟨f1, f2⟩, f3⟩ := hf
    simp only [mjFv, f1, cond_false, mjYv]
    rw [f2]
  | n + 4, hg, hf => simp at hg
theorem mjGet_ok {t c fk : Nat} {Z : mjZ} {y : mjY} (h : mjOk t c) (ht : Nat.blt t 12 = true) (hg : mjGf t fk c Z = some y) (hk0 : mjGk t fk c Z) : mjYok y := by
  obtain ⟨ts, h1, h2, h3⟩ := mjTg_ob h ht
  unfold mjGf at hg
  unfold mjGk at hk0
  cases hx : mjKf t fk with
  | none => rw [hx] at hg; cases hg
  | some x =>
  have hl : fk < ts.length := by
    unfold mjKf at hx
    have := (List.getElem?_eq_some_iff.mp hx).1
    omega
  have hv : ts[fk]? = some ts[fk] := List.getElem?_eq_getElem hl
  have hf := mjFds_get ts 0 fk h2 _ hv
  rw [Nat.zero_add] at hf
  generalize ts[fk] = v at *
  rw [hx] at hg hk0
  unfold mjFdB at hf
  rw [hx] at hf
  obtain ⟨k, tg, n⟩ := x
  match k, hg, hf, hk0 with
  | 0, hg, hf, _ => cases hg; trivial
  | 1, hg, hf, _ => cases hg; trivial
  | 2, hg, hf, hk0 => cases hg; exact hk0
  | 3, hg, hf, _ =>
    cases v <;> simp at hf
    cases hg
    exact hf.2
  | n + 4, hg, hf, _ => simp at hg
def mjUp (Z : mjZ) (c k : Nat) (z : Int) : mjZ := fun a i => if a = c ∧ i = k then z else Z a i
theorem mjUp_at {Z : mjZ} {c k : Nat} {z : Int} : mjUp Z c k z c k = z := if_pos ⟨rfl, rfl⟩
theorem mjUp_ne {Z : mjZ} {c k a i : Nat} {z : Int} (h : a = c → i ≠ k) : mjUp Z c k z a i = Z a i := if_neg fun g => h g.1 g.2
theorem mjUp_nc {Z : mjZ} {c k a : Nat} {z : Int} (h : a ≠ c) : mjUp Z c k z a = Z a := funext fun i => if_neg fun g => h g.1
theorem mjUp_c {Z : mjZ} {c k : Nat} {z : Int} : mjUp Z c k z c = va_up (Z c) k z := by
  funext i
  unfold mjUp va_up
  by_cases h : i = k <;> simp [h]
theorem mjMZ_set {Z : mjZ} {c k : Nat} {z : Int} {x : mjC} (h : x = mjFill (mjSh c) (va_up (Z c) k z)) : (mjMZ Z).set c x = mjMZ (mjUp Z c k z) := by
  unfold mjMZ
  rw [mjA_set]
  refine mjA_ext fun a _ => ?_
  by_cases hac : a = c
  · subst hac
    rw [mjUp_c, ← h]
    simp [va_up]
  · rw [mjUp_nc hac]
    simp [va_up, hac]
theorem mjFs2_set {ci : Nat} {z : Nat → Int} {v : Value} {w : Int} : ∀ (ts : List Value) (k j : Nat), (∀ t, ts[j]? = some t → v = mjFv (mjMu ci (k + j)) t w) → (mjFs2 ci k ts z).set j v = mjFs2 ci k ts (va_up z (k + j) w) := by
  intro ts k j h
  apply List.ext_getElem?
  intro i
  rw [List.getElem?_set, mjFs2_get, mjFs2_get]
  have hlen : (mjFs2 ci k ts z).length = ts.length := by
    clear h
    induction ts generalizing k with
    | nil => rfl
    | cons t ts ih => simp only [mjFs2, List.length_cons, ih]
  by_cases hij : j = i
  · subst hij
    rw [if_pos rfl, hlen]
    by_cases hl : j < ts.length
    · rw [if_pos hl]
      rw [List.getElem?_eq_getElem hl] at h ⊢
      rw [h _ rfl]
      simp [va_up]
    · rw [if_neg hl, List.getElem?_eq_none (by omega)]
      rfl
  · rw [if_neg hij]
    have : va_up z (k + j) w (k + i) = z (k + i) := by unfold va_up; rw [if_neg (by omega)]
    rw [this]
/-- what a written value is as a number; only references that change are written -/
def mjPz (ci fk : Nat) (y : mjY) : Option Int := match mjKf ci fk, y with
  | some (0, _, _), .inl z => some z
  | some (1, _, _), .inr (.inl z) => some z
  | some (2, _, _), .inr (.inr (.inl q)) => some (q.2 : Int)
  | _, _ => none
theorem mjPut_fld {t c fk ty : Nat} {Z : mjZ} {y : mjY} {z : Int} (h : mjOk t c) (ht : Nat.blt t 12 = true) (hg : mjPz t fk y = some z) (hty : mjTy ty (mjYv y) = true) : mjPut (mjMZ Z) c t fk ty (mjYv y) = some (mjMZ (mjUp Z c fk z)) := by
  obtain ⟨ts, h1, h2, h3⟩ := mjTg_ob h ht
  unfold mjPut
  rw [mjMZ_get (mjTg_lt h), h1]
  simp only [mjFill, Nat.beq_refl, hty, Bool.and_self, cond_true]
  congr 1
  apply mjMZ_set
  rw [h1]
  simp only [mjFill]
  rw [mjFs2_set (w := z) ts 0 fk, Nat.zero_add]
  intro v hv
  rw [Nat.zero_add]
  have hf := mjFds_get ts 0 fk h2 _ hv
  rw [Nat.zero_add] at hf
  unfold mjPz at hg
  unfold mjFdB at hf
  split at hg
  · rename_i e1
    rw [e1] at hf
    cases v <;> simp at hf
    cases hg
    rfl
  · rename_i e1
    rw [e1] at hf
    cases v <;> simp at hf
    cases hg
    rfl
  · rename_i e1
    rw [e1] at hf
    cases v <;> simp at hf
    cases hg
    simp only [mjFv, hf, cond_true, mjYv, Int.toNat_natCast]
  · cases hg
