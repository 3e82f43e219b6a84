/-! How a web hangs together: marks that spread. -/
section SP
variable {n : Nat} {T : Nat → Nat → Int}
abbrev spC (T : Nat → Nat → Int) (i k : Nat) (g : Nat → Int) : Prop := g i ≠ -1 ∧ g k = -1 ∧ i ≠ k ∧ T i k ≠ 0
def spS (T : Nat → Nat → Int) (i k : Nat) (g : Nat → Int) : Nat → Int := if spC T i k g then va_up g k (1 - g i) else g
def spR (n : Nat) (T : Nat → Nat → Int) (i : Nat) (g : Nat → Int) : Nat → Int := fo (fun k g => spS T i k g) n g
def spA (n : Nat) (T : Nat → Nat → Int) (g : Nat → Int) : Nat → Int := fo (fun i g => spR n T i g) n g
def spN (n : Nat) (T : Nat → Nat → Int) (m s : Nat) (g : Nat → Int) : Nat → Int := fo (fun _ g => spA n T g) m (va_up g s 0)
/-- marks are -1, 0 or 1 -/
def MK (g : Nat → Int) : Prop := ∀ j, j < 6 → g j = -1 ∨ g j = 0 ∨ g j = 1
/-- what is marked stays so -/
def kp (g g' : Nat → Int) : Prop := ∀ j, g j ≠ -1 → g' j = g j
theorem kp.tr {a b c : Nat → Int} (h : kp a b) (h2 : kp b c) : kp a c := fun j hj => by
  have := h j hj
  rw [h2 j (by rw [this]; exact hj), this]
theorem kp_fo {f : Nat → (Nat → Int) → (Nat → Int)} {g : Nat → Int} (h : ∀ i g, kp g (f i g)) : ∀ m, kp g (fo f m g)
  | 0 => fun _ _ => rfl
  | m + 1 => (kp_fo h m).tr (h m _)
theorem kp_S {i k : Nat} {g : Nat → Int} : kp g (spS T i k g) := fun j hj => by
  unfold spS
  split
  · rename_i h
    show (if j = k then _ else g j) = g j
    rw [if_neg (fun e => hj (by rw [e]; exact h.2.1))]
  · rfl
theorem kp_R {i : Nat} {g : Nat → Int} : kp g (spR n T i g) := kp_fo (fun _ _ => kp_S) n
theorem kp_A {g : Nat → Int} : kp g (spA n T g) := kp_fo (fun _ _ => kp_R) n
theorem kp_N {s m : Nat} {g : Nat → Int} (hs : g s = -1) : kp g (spN n T m s g) := by
  have h1 : kp g (va_up g s 0) := fun j hj => by
    show (if j = s then _ else g j) = g j
    rw [if_neg (fun e => hj (by rw [e]; exact hs))]
  exact h1.tr (kp_fo (fun _ _ => kp_A) m)
theorem MK_S {i k : Nat} {g : Nat → Int} (hi : i < 6) (h : MK g) : MK (spS T i k g) := fun j hj => by
  unfold spS
  split
  · rename_i c
    show (if j = k then 1 - g i else g j) = -1 ∨ _ ∨ _
    have a := h i hi
    have b := h j hj
    have c1 := c.1
    show (if j = k then 1 - g i else g j) = -1 ∨ (if j = k then 1 - g i else g j) = 0 ∨ (if j = k then 1 - g i else g j) = 1
    split <;> omega
  · exact h j hj
/-- how many are not marked -/
def um (g : Nat → Int) (n : Nat) : Nat := fo (fun j c => if g j = -1 then c + 1 else c) n 0
theorem um_succ {g : Nat → Int} {m : Nat} : um g (m + 1) = if g m = -1 then um g m + 1 else um g m := rfl
theorem um_le {g : Nat → Int} : ∀ m, um g m ≤ m
  | 0 => Nat.le_refl _
  | m + 1 => by have := um_le (g := g) m; rw [um_succ]; split <;> omega
theorem um_up {g : Nat → Int} {k : Nat} {v : Int} (hg : g k = -1) (hv : v ≠ -1) : ∀ m, um (va_up g k v) m + (if k < m then 1 else 0) = um g m
  | 0 => by rw [if_neg (by omega)]; rfl
  | m + 1 => by
    have ih := um_up hg hv m
    rw [um_succ, um_succ]
    show (if (if m = k then v else g m) = -1 then um (va_up g k v) m + 1 else um (va_up g k v) m) + _ = _
    by_cases h : m = k
    · rw [if_pos h, if_neg hv, h, if_pos hg, if_pos (by omega)]
      rw [h, if_neg (by omega)] at ih
      omega
    · rw [if_neg h]
      by_cases h2 : k < m
      · rw [if_pos h2] at ih
        rw [if_pos (show k < m + 1 by omega)]
        by_cases h3 : g m = -1
        · rw [if_pos h3, if_pos h3]; omega
        · rw [if_neg h3, if_neg h3]; omega
      · rw [if_neg h2] at ih
        rw [if_neg (show ¬ k < m + 1 by omega)]
        by_cases h3 : g m = -1
        · rw [if_pos h3, if_pos h3]; omega
        · rw [if_neg h3, if_neg h3]; omega
theorem um_S {i k : Nat} {g : Nat → Int} (hi : i < 6) (hk : k < n) (hg : MK g) : (¬ spC T i k g ∧ spS T i k g = g) ∨ um (spS T i k g) n < um g n := by
  by_cases c : spC T i k g
  · have e : spS T i k g = va_up g k (1 - g i) := if_pos c
    have a := hg i hi
    have c1 := c.1
    have := um_up (v := 1 - g i) c.2.1 (by omega) n
    rw [if_pos hk] at this
    rw [e]
    omega
  · exact Or.inl ⟨c, if_neg c⟩
theorem um_R {i : Nat} {g : Nat → Int} (hi : i < 6) (hn : n ≤ 6) (hg : MK g) : MK (spR n T i g) ∧ (((∀ k, k < n → ¬ spC T i k g) ∧ spR n T i g = g) ∨ um (spR n T i g) n < um g n) := by
  have : ∀ m, m ≤ n → MK (fo (fun k g => spS T i k g) m g) ∧ (((∀ k, k < m → ¬ spC T i k g) ∧ fo (fun k g => spS T i k g) m g = g) ∨ um (fo (fun k g => spS T i k g) m g) n < um g n) := by
    intro m
    induction m with
    | zero => intro _; exact ⟨hg, Or.inl ⟨fun k hk => by omega, rfl⟩⟩
    | succ m ih =>
      intro hm
      obtain ⟨h1, h2⟩ := ih (by omega)
      have e : fo (fun k g => spS T i k g) (m + 1) g = spS T i m (fo (fun k g => spS T i k g) m g) := rfl
      rw [e]
      have s := um_S (T := T) (k := m) (n := n) hi (by omega) h1
      refine ⟨MK_S hi h1, ?_⟩
      rcases h2 with ⟨h3, h4⟩ | h3
      · rw [h4] at s ⊢
        rcases s with ⟨s1, s2⟩ | s
        · refine Or.inl ⟨fun k hk => ?_, s2⟩
          rcases Nat.lt_or_ge k m with r | r
          · exact h3 k r
          · rw [show k = m by omega]; exact s1
        · exact Or.inr s
      · right
        rcases s with ⟨s1, s2⟩ | s
        · rw [s2]; exact h3
        · omega
  exact this n (Nat.le_refl _)
theorem um_A {g : Nat → Int} (hn : n ≤ 6) (hg : MK g) : MK (spA n T g) ∧ (((∀ i k, i < n → k < n → ¬ spC T i k g) ∧ spA n T g = g) ∨ um (spA n T g) n < um g n) := by
  have : ∀ m, m ≤ n → MK (fo (fun i g => spR n T i g) m g) ∧ (((∀ i k, i < m → k < n → ¬ spC T i k g) ∧ fo (fun i g => spR n T i g) m g = g) ∨ um (fo (fun i g => spR n T i g) m g) n < um g n) := by
    intro m
    induction m with
    | zero => intro _; exact ⟨hg, Or.inl ⟨fun i k hi => by omega, rfl⟩⟩
    | succ m ih =>
      intro hm
      obtain ⟨h1, h2⟩ := ih (by omega)
      have e : fo (fun i g => spR n T i g) (m + 1) g = spR n T m (fo (fun i g => spR n T i g) m g) := rfl
      rw [e]
      obtain ⟨s0, s⟩ := um_R (T := T) (i := m) (n := n) (by omega) hn h1
      refine ⟨s0, ?_⟩
      rcases h2 with ⟨h3, h4⟩ | h3
      · rw [h4] at s ⊢
        rcases s with ⟨s1, s2⟩ | s
        · refine Or.inl ⟨fun i k hi hk => ?_, s2⟩
          rcases Nat.lt_or_ge i m with r | r
          · exact h3 i k r hk
          · rw [show i = m by omega]; exact s1 k hk
        · exact Or.inr s
      · right
        rcases s with ⟨s1, s2⟩ | s
        · rw [s2]; exact h3
        · omega
  exact this n (Nat.le_refl _)
/-- after n rounds nothing more is marked -/
theorem sp_end {s : Nat} {g : Nat → Int} (hn : n ≤ 6) (hs : s < n) (hg : MK g) (h0 : g s = -1) : MK (spN n T n s g) ∧ (∀ i k, i < n → k < n → ¬ spC T i k (spN n T n s g)) ∧ spN n T (n + 1) s g = spN n T n s g := by
  have h1 : MK (va_up g s 0) := fun j hj => by
    show (if j = s then (0 : Int) else g j) = -1 ∨ (if j = s then (0 : Int) else g j) = 0 ∨ (if j = s then (0 : Int) else g j) = 1
    have := hg j hj
    split <;> omega
  have h2 : um (va_up g s 0) n < n := by
    have := um_up (v := 0) h0 (by decide) n
    rw [if_pos hs] at this
    have := um_le (g := g) n
    omega
  have : ∀ m, MK (spN n T m s g) ∧ ((∀ i k, i < n → k < n → ¬ spC T i k (spN n T m s g)) ∧ spN n T (m + 1) s g = spN n T m s g ∨ um (spN n T m s g) n + m ≤ um (va_up g s 0) n) := by
    intro m
    induction m with
    | zero => exact ⟨h1, Or.inr (Nat.le_refl _)⟩
    | succ m ih =>
      obtain ⟨a, b⟩ := ih
      have e : ∀ m, spN n T (m + 1) s g = spA n T (spN n T m s g) := fun m => rfl
      have A := um_A (T := T) hn a
      refine ⟨by rw [e]; exact A.1, ?_⟩
      rcases b with ⟨b1, b2⟩ | b
      · left
        rw [b2]
        exact ⟨b1, by rw [e, b2, ← e, b2]⟩
      · rcases A.2 with ⟨A1, A2⟩ | A2
        · left
          have e2 : spN n T (m + 1) s g = spN n T m s g := by rw [e, A2]
          rw [e2]
          exact ⟨A1, by rw [e, e2, ← e, e2]⟩
        · right
          rw [e]
          omega
  obtain ⟨a, b⟩ := this n
  rcases b with b | b
  · exact ⟨a, b⟩
  · omega
end SP
