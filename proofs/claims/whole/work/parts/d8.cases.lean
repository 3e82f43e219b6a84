/-! How a web hangs together: whether it parts in two. -/
section FLG
variable {n : Nat} {T : Nat → Nat → Int}
def BAD (n : Nat) (T : Nat → Nat → Int) (g : Nat → Int) : Prop := ∃ a b, a < n ∧ b < n ∧ a ≠ b ∧ T a b ≠ 0 ∧ g a ≠ -1 ∧ g b = g a
theorem BAD.kp {g g' : Nat → Int} (h : BAD n T g) (k : kp g g') : BAD n T g' := by
  obtain ⟨a, b, h1, h2, h3, h4, h5, h6⟩ := h
  have ka := k a h5
  have kb := k b (by rw [h6]; exact h5)
  exact ⟨a, b, h1, h2, h3, h4, by rw [ka]; exact h5, by rw [ka, kb]; exact h6⟩
def flF (T : Nat → Nat → Int) (i k : Nat) (g : Nat → Int) (f : Int) : Int := if i ≠ k ∧ T i k ≠ 0 ∧ g i ≠ -1 ∧ g k = g i then 0 else f
def stp (T : Nat → Nat → Int) (i k : Nat) (p : (Nat → Int) × Int) : (Nat → Int) × Int := (spS T i k p.1, flF T i k p.1 p.2)
def stR (n : Nat) (T : Nat → Nat → Int) (i : Nat) (p : (Nat → Int) × Int) : (Nat → Int) × Int := fo (stp T i) n p
def stA (n : Nat) (T : Nat → Nat → Int) (p : (Nat → Int) × Int) : (Nat → Int) × Int := fo (stR n T) n p
def stN (n : Nat) (T : Nat → Nat → Int) (m s : Nat) (p : (Nat → Int) × Int) : (Nat → Int) × Int := fo (fun _ => stA n T) m (va_up p.1 s 0, p.2)
theorem fo_fst {α β : Type} {F : Nat → α × β → α × β} {f : Nat → α → α} {p : α × β} (h : ∀ i p, (F i p).1 = f i p.1) : ∀ n, (fo F n p).1 = fo f n p.1
  | 0 => rfl
  | n + 1 => by
    show (F n (fo F n p)).1 = f n (fo f n p.1)
    rw [h, fo_fst h n]
theorem stR_1 {i : Nat} {p : (Nat → Int) × Int} : (stR n T i p).1 = spR n T i p.1 := fo_fst (f := fun k g => spS T i k g) (fun _ _ => rfl) n
theorem stA_1 {p : (Nat → Int) × Int} : (stA n T p).1 = spA n T p.1 := fo_fst (f := fun i g => spR n T i g) (fun _ _ => stR_1) n
theorem stN_1 {m s : Nat} {p : (Nat → Int) × Int} : (stN n T m s p).1 = spN n T m s p.1 := fo_fst (F := fun _ => stA n T) (f := fun _ g => spA n T g) (fun _ _ => stA_1) m
def QI (n : Nat) (T : Nat → Nat → Int) (p : (Nat → Int) × Int) : Prop := MK p.1 ∧ (p.2 = 0 ∨ p.2 = 1) ∧ (p.2 = 0 → BAD n T p.1)
theorem QI_p {i k : Nat} {p : (Nat → Int) × Int} (hn : n ≤ 6) (hi : i < n) (hk : k < n) (h : QI n T p) : QI n T (stp T i k p) := by
  obtain ⟨h1, h2, h3⟩ := h
  have kk : kp p.1 (spS T i k p.1) := kp_S
  refine ⟨MK_S (by omega) h1, ?_, fun e => ?_⟩
  · show flF T i k p.1 p.2 = 0 ∨ flF T i k p.1 p.2 = 1
    unfold flF
    split
    · exact Or.inl rfl
    · exact h2
  · have e' : flF T i k p.1 p.2 = 0 := e
    unfold flF at e'
    by_cases c : i ≠ k ∧ T i k ≠ 0 ∧ p.1 i ≠ -1 ∧ p.1 k = p.1 i
    · exact BAD.kp ⟨i, k, hi, hk, c.1, c.2.1, c.2.2.1, c.2.2.2⟩ kk
    · rw [if_neg c] at e'
      exact (h3 e').kp kk
theorem QI_Rm {i m : Nat} {p : (Nat → Int) × Int} (hn : n ≤ 6) (hi : i < n) (hm : m ≤ n) (h : QI n T p) : QI n T (fo (stp T i) m p) := fo_inv (Y := fun _ p => QI n T p) m h fun k b hk hb => QI_p hn hi (by omega) hb
theorem QI_R {i : Nat} {p : (Nat → Int) × Int} (hn : n ≤ 6) (hi : i < n) (h : QI n T p) : QI n T (stR n T i p) := QI_Rm hn hi (Nat.le_refl _) h
theorem QI_Am {m : Nat} {p : (Nat → Int) × Int} (hn : n ≤ 6) (hm : m ≤ n) (h : QI n T p) : QI n T (fo (stR n T) m p) := fo_inv (Y := fun _ p => QI n T p) m h fun k b hk hb => QI_R hn (by omega) hb
theorem QI_A {p : (Nat → Int) × Int} (hn : n ≤ 6) (h : QI n T p) : QI n T (stA n T p) := QI_Am hn (Nat.le_refl _) h
theorem QI_N {m s : Nat} {p : (Nat → Int) × Int} (hn : n ≤ 6) (hs : p.1 s = -1) (h : QI n T p) : QI n T (stN n T m s p) := by
  obtain ⟨h1, h2, h3⟩ := h
  have kk : kp p.1 (va_up p.1 s 0) := fun j hj => by
    show (if j = s then _ else p.1 j) = p.1 j
    rw [if_neg (fun e => hj (by rw [e]; exact hs))]
  refine fo_inv (Y := fun _ p => QI n T p) m ⟨fun j hj => ?_, h2, fun e => (h3 e).kp kk⟩ fun k b hk hb => QI_A hn hb
  show (if j = s then (0 : Int) else p.1 j) = -1 ∨ (if j = s then (0 : Int) else p.1 j) = 0 ∨ (if j = s then (0 : Int) else p.1 j) = 1
  have := h1 j hj
  split <;> omega
/-- a round over marks that spread no more -/
theorem fl_R {i : Nat} {G : Nat → Int} {f : Int} (hc : ∀ k, k < n → ¬ spC T i k G) : ∀ m, m ≤ n → (fo (stp T i) m (G, f)).1 = G ∧ ((f = 0 ∨ ∃ b, b < m ∧ i ≠ b ∧ T i b ≠ 0 ∧ G i ≠ -1 ∧ G b = G i) → (fo (stp T i) m (G, f)).2 = 0)
  | 0, _ => ⟨rfl, fun h => h.elim (fun h => h) fun ⟨b, hb, _⟩ => absurd hb (by omega)⟩
  | m + 1, hm => by
    obtain ⟨a, b⟩ := fl_R (f := f) hc m (by omega)
    have e : fo (stp T i) (m + 1) (G, f) = stp T i m (fo (stp T i) m (G, f)) := rfl
    rw [e]
    refine ⟨?_, fun h => ?_⟩
    · show spS T i m (fo (stp T i) m (G, f)).1 = G
      rw [a]
      exact if_neg (hc m (by omega))
    · show flF T i m (fo (stp T i) m (G, f)).1 (fo (stp T i) m (G, f)).2 = 0
      rw [a]
      unfold flF
      by_cases c : i ≠ m ∧ T i m ≠ 0 ∧ G i ≠ -1 ∧ G m = G i
      · rw [if_pos c]
      · rw [if_neg c]
        refine b (h.elim Or.inl fun ⟨w, hw, r⟩ => Or.inr ⟨w, ?_, r⟩)
        rcases Nat.lt_or_ge w m with l | l
        · exact l
        · rw [show w = m by omega] at r
          exact absurd r c
theorem fl_A {G : Nat → Int} {f : Int} (hc : ∀ i k, i < n → k < n → ¬ spC T i k G) (hB : BAD n T G) : (stA n T (G, f)).2 = 0 := by
  have : ∀ m, m ≤ n → (fo (stR n T) m (G, f)).1 = G ∧ ((f = 0 ∨ ∃ a b, a < m ∧ b < n ∧ a ≠ b ∧ T a b ≠ 0 ∧ G a ≠ -1 ∧ G b = G a) → (fo (stR n T) m (G, f)).2 = 0) := by
    intro m
    induction m with
    | zero => intro _; exact ⟨rfl, fun h => h.elim (fun h => h) fun ⟨a, b, ha, _⟩ => absurd ha (by omega)⟩
    | succ m ih =>
      intro hm
      obtain ⟨a, b⟩ := ih (by omega)
      have e : fo (stR n T) (m + 1) (G, f) = fo (stp T m) n (G, (fo (stR n T) m (G, f)).2) := by
        show fo (stp T m) n (fo (stR n T) m (G, f)) = _
        rw [show fo (stR n T) m (G, f) = (G, (fo (stR n T) m (G, f)).2) from Prod.ext a rfl]
      rw [e]
      obtain ⟨c, d⟩ := fl_R (f := (fo (stR n T) m (G, f)).2) (i := m) (fun k hk => hc m k (by omega) hk) n (Nat.le_refl _)
      refine ⟨c, fun h => d ?_⟩
      rcases h with h | ⟨u, v, hu, hv, r⟩
      · exact Or.inl (b (Or.inl h))
      · rcases Nat.lt_or_ge u m with l | l
        · exact Or.inl (b (Or.inr ⟨u, v, l, hv, r⟩))
        · rw [show u = m by omega] at r
          exact Or.inr ⟨v, hv, r⟩
  exact (this n (Nat.le_refl _)).2 (Or.inr hB)
/-- over the starts: the class's and the reference's -/
def hgF (n : Nat) (T : Nat → Nat → Int) (s : Nat) (a : Nat × (Nat → Int)) : Nat × (Nat → Int) := if a.2 s ≠ -1 then a else (a.1 + 1, spN n T n s a.2)
def hgP (n : Nat) (T : Nat → Nat → Int) (s : Nat) (a : Nat × ((Nat → Int) × Int)) : Nat × ((Nat → Int) × Int) := if a.2.1 s ≠ -1 then a else (a.1 + 1, stN n T (n + 1) s a.2)
theorem hg_inv {G : Nat → Int} (hn : n ≤ 6) (hG : ∀ j, j < 6 → G j = -1) : ∀ s, s ≤ n → (fo (hgP n T) s (0, (G, 1))).1 = (fo (hgF n T) s (0, G)).1 ∧ (fo (hgP n T) s (0, (G, 1))).2.1 = (fo (hgF n T) s (0, G)).2 ∧ QI n T (fo (hgP n T) s (0, (G, 1))).2 ∧ (BAD n T (fo (hgF n T) s (0, G)).2 → (fo (hgP n T) s (0, (G, 1))).2.2 = 0) ∧ (∀ j, j < s → (fo (hgF n T) s (0, G)).2 j ≠ -1) ∧ (fo (hgF n T) s (0, G)).1 ≤ s
  | 0, _ => by
    refine ⟨rfl, rfl, ⟨fun j hj => Or.inl (hG j hj), Or.inr rfl, fun h => absurd h (by show ¬ (1 : Int) = 0; decide)⟩, fun ⟨a, b, h1, h2, h3, h4, h5, h6⟩ => absurd (hG a (by omega)) h5, fun j hj => by omega, Nat.le_refl _⟩
  | s + 1, hs => by
    obtain ⟨a1, a2, a3, a4, a5, a6⟩ := hg_inv hn hG s (by omega)
    have e1 : fo (hgP n T) (s + 1) (0, (G, 1)) = hgP n T s (fo (hgP n T) s (0, (G, 1))) := rfl
    have e2 : fo (hgF n T) (s + 1) (0, G) = hgF n T s (fo (hgF n T) s (0, G)) := rfl
    rw [e1, e2]
    generalize fo (hgP n T) s (0, (G, 1)) = p at *
    generalize fo (hgF n T) s (0, G) = c at *
    unfold hgP hgF
    rw [a2]
    by_cases h : c.2 s ≠ -1
    · rw [if_pos h, if_pos h]
      refine ⟨a1, a2, a3, a4, fun j hj => ?_, by omega⟩
      rcases Nat.lt_or_ge j s with l | l
      · exact a5 j l
      · rw [show j = s by omega]; exact h
    · rw [if_neg h, if_neg h]
      have h0 : c.2 s = -1 := Classical.not_not.mp h
      have hp0 : p.2.1 s = -1 := by rw [a2]; exact h0
      have mk : MK c.2 := by rw [← a2]; exact a3.1
      obtain ⟨s1, s2, s3⟩ := sp_end (T := T) hn (by omega) mk h0
      have f1 : (stN n T (n + 1) s p.2).1 = spN n T n s c.2 := by rw [stN_1, a2, s3]
      have kN := kp_N (n := n) (T := T) (m := n) h0
      refine ⟨by show p.1 + 1 = c.1 + 1; rw [a1], f1, QI_N hn hp0 a3, fun hB => ?_, fun j hj => ?_, by show c.1 + 1 ≤ s + 1; omega⟩
      · show (stN n T (n + 1) s p.2).2 = 0
        have e3 : stN n T (n + 1) s p.2 = stA n T (stN n T n s p.2) := rfl
        have e4 : (stN n T n s p.2).1 = spN n T n s c.2 := by rw [stN_1, a2]
        rw [e3, show stN n T n s p.2 = (spN n T n s c.2, (stN n T n s p.2).2) from Prod.ext e4 rfl]
        exact fl_A s2 hB
      · rcases Nat.lt_or_ge j s with l | l
        · show spN n T n s c.2 j ≠ -1
          rw [kN j (a5 j l)]
          exact a5 j l
        · rw [show j = s by omega]
          have kA : kp (va_up c.2 s 0) (spN n T n s c.2) := kp_fo (fun _ _ => kp_A) n
          have v0 : va_up c.2 s 0 s = 0 := if_pos rfl
          show spN n T n s c.2 s ≠ -1
          rw [kA s (by rw [v0]; decide), v0]
          decide
end FLG
