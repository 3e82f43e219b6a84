/-! What the rows of a method's code must be. -/
abbrev mj0 : mjK := (0, 0, 0, 0, 0, .null)
def mjChk (cc : ByteArray) (own : String) (ini : Bool) : Nat → List (Option mjI) → Bool
  | _, [] => true
  | pc, none :: t => mjChk cc own ini (pc + 1) t
  | pc, some e :: t => decide (decode cc pc = .ok (e.1, mjIl e.1 e.2.1)) && mjLinkB own ini e.1 e.2.2 && mjChk cc own ini (pc + 1) t
abbrev mjTb (L : List (Option mjI)) : mjTab := fun pc => (L[pc]?).join
theorem mjChk_at {cc : ByteArray} {own : String} {ini : Bool} : ∀ {L : List (Option mjI)} {p0 : Nat}, mjChk cc own ini p0 L = true → ∀ (j : Nat) (e : mjI), L[j]? = some (some e) → decode cc (p0 + j) = .ok (e.1, mjIl e.1 e.2.1) ∧ mjLinkB own ini e.1 e.2.2 = true
  | [], p0, h, j, e, hj => by simp at hj
  | x :: t, p0, h, j, e, hj => by
    cases j with
    | zero =>
      have hx : x = some e := by simpa using hj
      subst hx
      simp only [mjChk, Bool.and_eq_true, decide_eq_true_eq] at h
      exact ⟨h.1.1, h.1.2⟩
    | succ j =>
      have ht : mjChk cc own ini (p0 + 1) t = true := by
        cases x with
        | none => exact h
        | some y =>
          simp only [mjChk, Bool.and_eq_true] at h
          exact h.2
      have h2 := mjChk_at ht j e (by simpa using hj)
      rw [show p0 + (j + 1) = p0 + 1 + j by omega]
      exact h2
theorem mjChk_ok {cc : ByteArray} {own : String} {ini : Bool} {L : List (Option mjI)} (h : mjChk cc own ini 0 L = true) : mjTabOK cc own ini (mjTb L) := fun pc e he => by
  have h1 : L[pc]? = some (some e) := by
    unfold mjTb at he
    cases hq : L[pc]? with
    | none => rw [hq] at he; cases he
    | some x => rw [hq] at he; simpa using he
  have h2 := mjChk_at h pc e h1
  rwa [Nat.zero_add] at h2
