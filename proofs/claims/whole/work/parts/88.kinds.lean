/-! Answers by their kind, as a walk wants them. -/
def mjQ0 (q : mjZ → Prop) : mjQ := fun v Z => match v with
  | none => q Z
  | some _ => False
def mjQ1 (q : Int → mjZ → Prop) : mjQ := fun v Z => match v with
  | some (.inl z) => q z Z
  | _ => False
def mjQ2 (q : Int → mjZ → Prop) : mjQ := fun v Z => match v with
  | some (.inr (.inl z)) => q z Z
  | _ => False
def mjQ3 (t : Nat) (q : Nat → mjZ → Prop) : mjQ := fun v Z => match v with
  | some (.inr (.inr (.inl r))) => bif Nat.beq r.1 t then q r.2 Z else False
  | _ => False
def mjQ4 (t : Nat) (q0 : mjZ → Prop) (q : Nat → mjZ → Prop) : mjQ := fun v Z => match v with
  | some (.inr (.inr (.inl r))) => bif Nat.beq r.1 t then q r.2 Z else False
  | some (.inr (.inr (.inr .null))) => q0 Z
  | _ => False
section MJQQ
variable {d mid : Nat} {as : List mjY} {Z : mjZ}
theorem mjQ0_of {q : mjZ → Prop} (h : mjW d mid as Z (mjQ0 q)) : mjW0 d mid as Z q := h.mono fun v Z' g => by
  cases v with
  | none => exact ⟨rfl, g⟩
  | some y => exact g.elim
theorem mjQ1_of {q : Int → mjZ → Prop} (h : mjW d mid as Z (mjQ1 q)) : mjW1 d mid as Z q := h.mono fun v Z' g => by
  cases v with
  | none => exact g.elim
  | some y => cases y with
    | inl z => exact ⟨z, rfl, g⟩
    | inr y => exact g.elim
theorem mjQ2_of {q : Int → mjZ → Prop} (h : mjW d mid as Z (mjQ2 q)) : mjW2 d mid as Z q := h.mono fun v Z' g => by
  cases v with
  | none => exact g.elim
  | some y => cases y with
    | inl z => exact g.elim
    | inr y => cases y with
      | inl z => exact ⟨z, rfl, g⟩
      | inr y => exact g.elim
theorem mjQ3_of {t : Nat} {q : Nat → mjZ → Prop} (h : mjW d mid as Z (mjQ3 t q)) : mjW3 t d mid as Z q := h.mono fun v Z' g => by
  cases v with
  | none => exact g.elim
  | some y => cases y with
    | inl z => exact g.elim
    | inr y => cases y with
      | inl z => exact g.elim
      | inr y => cases y with
        | inl r =>
          unfold mjQ3 at g
          cases hb : Nat.beq r.1 t with
          | false => simp only [hb, cond_false] at g
          | true =>
            simp only [hb, cond_true] at g
            have := Nat.eq_of_beq_eq_true hb
            subst this
            exact ⟨r.2, rfl, g⟩
        | inr v => exact g.elim
theorem mjQ4_of {t : Nat} {q0 : mjZ → Prop} {q : Nat → mjZ → Prop} (h : mjW d mid as Z (mjQ4 t q0 q)) : mjW4 t d mid as Z q0 q := h.mono fun v Z' g => by
  cases v with
  | none => exact g.elim
  | some y => cases y with
    | inl z => exact g.elim
    | inr y => cases y with
      | inl z => exact g.elim
      | inr y => cases y with
        | inl r =>
          unfold mjQ4 at g
          cases hb : Nat.beq r.1 t with
          | false => simp only [hb, cond_false] at g
          | true =>
            simp only [hb, cond_true] at g
            have := Nat.eq_of_beq_eq_true hb
            subst this
            exact Or.inr ⟨r.2, rfl, g⟩
        | inr v => cases v with
          | null => exact Or.inl ⟨rfl, g⟩
          | _ => exact g.elim
end MJQQ
section MJCM
variable {x y : Int}
theorem wCmR : -2147483648 ≤ mjCm x y ∧ mjCm x y < 2147483648 := by unfold mjCm; repeat' split <;> omega
theorem wCm_eq : mjCm x y = 0 ↔ x = y := by unfold mjCm; repeat' split <;> omega
theorem wCm_ne : mjCm x y ≠ 0 ↔ x ≠ y := by unfold mjCm; repeat' split <;> omega
theorem wCm_lt : mjCm x y < 0 ↔ x < y := by unfold mjCm; repeat' split <;> omega
theorem wCm_ge : 0 ≤ mjCm x y ↔ y ≤ x := by unfold mjCm; repeat' split <;> omega
theorem wCm_gt : 0 < mjCm x y ↔ y < x := by unfold mjCm; repeat' split <;> omega
theorem wCm_le : mjCm x y ≤ 0 ↔ x ≤ y := by unfold mjCm; repeat' split <;> omega
end MJCM
