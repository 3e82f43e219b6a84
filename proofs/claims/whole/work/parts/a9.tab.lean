/-! Tables: contracts. -/
theorem lp_inv {α : Type} {n : Nat} {L Y : Nat → α → Prop} {a : α} (h : ∀ i a, i < n → Y i a → (∀ a', Y (i + 1) a' → L (i + 1) a') → L i a) (hf : ∀ a, Y n a → L n a) (ha : Y 0 a) : L 0 a := by
  have : ∀ m i a, i + m = n → Y i a → L i a := by
    intro m
    induction m with
    | zero => intro i a hi hy; have : i = n := by omega
              subst this
              exact hf a hy
    | succ m ih => intro i a hi hy; exact h i a (by omega) hy fun a' hy' => ih (i + 1) a' (by omega) hy'
  exact this n 0 a (Nat.zero_add _) ha
theorem lp_row {A n : Nat} {Z : mjZ} {f : Nat → (Nat → Int) → (Nat → Int)} {L : Nat → mjZ → Prop} (h : ∀ i g, i < n → L (i + 1) (mjRow Z A (f i g)) → L i (mjRow Z A g)) (hf : L n (mjRow Z A (fo f n (Z A)))) : L 0 Z := by
  have := lp_fold0 (L := fun i g => L i (mjRow Z A g)) h hf
  rwa [mjRow_self] at this
theorem fo_cst {v : Int} {g : Nat → Int} : ∀ n j : Nat, fo (fun i g => va_up g i v) n g j = if j < n then v else g j
  | 0, j => rfl
  | n + 1, j => by
    show (if j = n then v else fo (fun i g => va_up g i v) n g j) = _
    by_cases h : j = n
    · rw [if_pos h, if_pos (by omega)]
    · rw [if_neg h, fo_cst n j]
      by_cases h2 : j < n
      · rw [if_pos h2, if_pos (by omega)]
      · rw [if_neg h2, if_neg (by omega)]
def rL (o n : Nat) (x : Nat → Nat → Int) (g : Nat → Int) : Nat → Int := fo (fun i g => fo (fun k g => va_up g (6 * (o + i) + (o + k)) (x i k)) n g) n g
theorem rL1 {o i n : Nat} {x : Nat → Int} {g : Nat → Int} (hn : o + n ≤ 6) : ∀ m, m ≤ n → ∀ j, fo (fun k g => va_up g (6 * (o + i) + (o + k)) (x k)) m g j = if j / 6 = o + i ∧ o ≤ j % 6 ∧ j % 6 < o + m then x (j % 6 - o) else g j
  | 0, _, j => by rw [if_neg (by omega)]; rfl
  | m + 1, hm, j => by
    show (if j = 6 * (o + i) + (o + m) then x m else fo (fun k g => va_up g (6 * (o + i) + (o + k)) (x k)) m g j) = _
    by_cases h : j = 6 * (o + i) + (o + m)
    · rw [if_pos h, if_pos (by omega)]
      congr 1
      omega
    · rw [if_neg h, rL1 hn m (by omega) j]
      by_cases h2 : j / 6 = o + i ∧ o ≤ j % 6 ∧ j % 6 < o + m
      · rw [if_pos h2, if_pos (by omega)]
      · rw [if_neg h2, if_neg (by omega)]
theorem rL_val {o n : Nat} {x : Nat → Nat → Int} {g : Nat → Int} (hn : o + n ≤ 6) (j : Nat) : rL o n x g j = if (o ≤ j / 6 ∧ j / 6 < o + n) ∧ o ≤ j % 6 ∧ j % 6 < o + n then x (j / 6 - o) (j % 6 - o) else g j := by
  have : ∀ m, m ≤ n → fo (fun i g => fo (fun k g => va_up g (6 * (o + i) + (o + k)) (x i k)) n g) m g j = if (o ≤ j / 6 ∧ j / 6 < o + m) ∧ o ≤ j % 6 ∧ j % 6 < o + n then x (j / 6 - o) (j % 6 - o) else g j := by
    intro m
    induction m with
    | zero => intro _; rw [if_neg (by omega)]; rfl
    | succ m ih =>
      intro hm
      show fo (fun k g => va_up g (6 * (o + m) + (o + k)) (x m k)) n (fo _ m g) j = _
      rw [rL1 hn n (Nat.le_refl _) j, ih (by omega)]
      by_cases h : j / 6 = o + m ∧ o ≤ j % 6 ∧ j % 6 < o + n
      · rw [if_pos h, if_pos (by omega), h.1, Nat.add_sub_cancel_left]
      · rw [if_neg h]
        by_cases h2 : (o ≤ j / 6 ∧ j / 6 < o + m) ∧ o ≤ j % 6 ∧ j % 6 < o + n
        · rw [if_pos h2, if_pos (by omega)]
        · rw [if_neg h2, if_neg (by omega)]
  exact this n (Nat.le_refl _)
abbrev tE (Z : mjZ) (c i k : Nat) : Int := Z (c + 1) (6 * i + k)
def tN (Z : mjZ) (c n : Nat) : Prop := Z c 0 = (n : Int) ∧ 1 ≤ n ∧ n ≤ 6
theorem tN.row {Z : mjZ} {c n A : Nat} {g : Nat → Int} (h : tN Z c n) (hA : c ≠ A) : tN (mjRow Z A g) c n := ⟨by rw [mjRow_ne hA]; exact h.1, h.2⟩
/-- entries are ints -/
def tR (Z : mjZ) (c n : Nat) : Prop := ∀ i k, i < n → k < n → -2147483648 ≤ tE Z c i k ∧ tE Z c i k < 2147483648
def tSlant (n : Nat) (T : Nat → Nat → Int) : Prop := ∀ i k, i < n → k < n → i ≠ k → T i k = 0
def tLines (n : Nat) (T : Nat → Nat → Int) : Prop := ∀ i k, i < n → k < n → T i k = 0 ∨ T i k = 1 ∧ i ≠ k
def tBand (n : Nat) (T : Nat → Nat → Int) : Prop := ∀ i k, i < n → k < n → i + 1 < k ∨ k + 1 < i → T i k = 0
def tSym (n : Nat) (T : Nat → Nat → Int) : Prop := ∀ i k, i < n → k < n → T i k = T k i
/-- the kind, by the first that fits -/
def tKind (n : Nat) (T : Nat → Nat → Int) (x : Int) : Prop := (x = 1 ∧ tSlant n T) ∨ (x = 3 ∧ ¬ tSlant n T ∧ tLines n T) ∨ (x = 2 ∧ ¬ tSlant n T ∧ ¬ tLines n T ∧ tBand n T) ∨ (x = 0 ∧ ¬ tSlant n T ∧ ¬ tLines n T ∧ ¬ tBand n T)
theorem tKind.uniq {n : Nat} {T : Nat → Nat → Int} {x y : Int} (hx : tKind n T x) (hy : tKind n T y) : x = y := by
  rcases hx with ⟨h, h1⟩ | ⟨h, h1, h2⟩ | ⟨h, h1, h2, h3⟩ | ⟨h, h1, h2, h3⟩ <;> rcases hy with ⟨g, g1⟩ | ⟨g, g1, g2⟩ | ⟨g, g1, g2, g3⟩ | ⟨g, g1, g2, g3⟩ <;> first | (rw [h, g]; done) | (exfalso; first | exact h1 g1 | exact g1 h1 | exact h2 g2 | exact g2 h2 | exact h3 g3 | exact g3 h3)
section TB
variable {d c e n m : Nat} {Z : mjZ}
theorem tb_has {i : Int} {q : Int → mjZ → Prop} (hn : tN Z c n) (hi : -2147483648 ≤ i ∧ i < 2147483648) (hq : q (if 0 ≤ i ∧ i < n then 1 else 0) Z) : mjW1 (d + 1) 38 [yR 6 c, yI i] Z q := by
  obtain ⟨h0, h1, h2⟩ := hn
  refine mje_38 ⟨hi, fun h => ?_, fun h => ⟨by omega, fun g => ?_, fun g => ?_⟩⟩
  · rw [if_neg (by omega)] at hq; exact hq
  · rw [if_neg (by omega)] at hq; exact hq
  · rw [if_pos (by omega)] at hq; exact hq
theorem tb_number {i k : Nat} {q : Int → mjZ → Prop} (hn : tN Z c n) (hi : i < n) (hk : k < n) (hq : q (tE Z c i k) Z) : mjW1 (d + 2) 40 [yR 6 c, yI (i : Int), yI (k : Int)] Z q := by
  have h2 := hn.2.2
  refine mje_40 (d := d + 1) (tb_has hn (by omega) ?_)
  rw [if_pos (by omega)]
  refine ⟨by omega, fun h => by omega, fun _ => tb_has hn (by omega) ?_⟩
  rw [if_pos (by omega)]
  refine ⟨by omega, fun h => by omega, fun _ => ⟨by omega, by omega, ?_⟩⟩
  rw [show (((i : Int) * 6) + (k : Int)).toNat = 6 * i + k by omega]
  exact hq
theorem tb_write {i k : Nat} {x : Int} {q : mjZ → Prop} (hn : tN Z c n) (hi : i < n) (hk : k < n) (hq : q (mjUp Z (c + 1) (6 * i + k) x)) : mjW0 (d + 2) 37 [yR 6 c, yI (i : Int), yI (k : Int), yI x] Z q := by
  have h2 := hn.2.2
  refine mje_37 (d := d + 1) (tb_has hn (by omega) ?_)
  rw [if_pos (by omega)]
  refine ⟨by omega, fun h => by omega, fun _ => tb_has hn (by omega) ?_⟩
  rw [if_pos (by omega)]
  refine ⟨by omega, fun h => by omega, fun _ => ⟨by omega, by omega, ?_⟩⟩
  rw [show (((i : Int) * 6) + (k : Int)).toNat = 6 * i + k by omega]
  exact hq
theorem tb_begin {q : mjZ → Prop} (h1 : 1 ≤ n) (h6 : n ≤ 6) (hq : q (mjRow (mjUp Z c 0 n) (c + 1) (fo (fun i g => va_up g i 0) 36 (Z (c + 1))))) : mjW0 (d + 2) 27 [yR 6 c, yI (n : Int)] Z q := by
  have e1 : (if 1 < (if 6 < (n : Int) then 6 else (n : Int)) then (if 6 < (n : Int) then 6 else (n : Int)) else 1) = (n : Int) := by
    rw [if_neg (show ¬ 6 < (n : Int) by omega)]
    split <;> omega
  refine mje_27 (d := d) ⟨by omega, by rw [if_neg (by omega)]; omega, ?_⟩
  rw [e1]
  refine lp_row (A := c + 1) (n := 36) (f := fun i g => va_up g i 0) (L := fun i Z => mjL_27_16 (d + 1) c (n : Int) i Z q) (fun i g hi hL => ?_) ?_
  · rw [← mjRow_up] at hL
    exact mjl_27_16 ⟨by omega, fun h => by omega, fun _ => ⟨by omega, by omega, hL⟩⟩
  · rw [show mjUp Z c 0 (n : Int) (c + 1) = Z (c + 1) from mjUp_nc (by omega)]
    exact mjl_27_16 ⟨by omega, fun _ => hq, fun h => by omega⟩
theorem tb_lay {o : Nat} {q : mjZ → Prop} (hn : tN Z c n) (hm : tN Z e m) (ho : o + m ≤ n) (hx : e ≠ c ∧ e ≠ c + 1 ∧ c ≠ e + 1) (hq : q (mjRow Z (c + 1) (rL o m (tE Z e) (Z (c + 1))))) : mjW0 (d + 3) 58 [yR 6 c, yR 6 e, yI (o : Int)] Z q := by
  have h2 := hn.2.2
  refine mje_58 (d := d + 2) ?_
  refine lp_row (A := c + 1) (n := m) (f := fun i g => fo (fun k g => va_up g (6 * (o + i) + (o + k)) (tE Z e i k)) m g) (L := fun i Z => mjL_58_2 (d + 2) c e o i Z q) (fun i g hi hL => ?_) ?_
  · have hme := hm.row (g := g) hx.2.1
    have hm0 := hme.1
    refine mjl_58_2 ⟨by omega, by omega, fun h => by omega, fun _ => ?_⟩
    refine lp_fold0 (n := m) (f := fun k g => va_up g (6 * (o + i) + (o + k)) (tE Z e i k)) (L := fun k g => mjL_58_13 (d + 2) c e o i k (mjRow Z (c + 1) g) q) (a := g) (fun k g hk hL2 => ?_) ?_
    · have hme := hm.row (g := g) hx.2.1
      have hnc := hn.row (g := g) (show c ≠ c + 1 by omega)
      have hm0 := hme.1
      refine mjl_58_13 ⟨by omega, by omega, fun h => by omega, fun _ => ?_⟩
      refine tb_number hme hi hk ?_
      rw [show tE (mjRow Z (c + 1) g) e i k = tE Z e i k from congrFun (mjRow_ne (by omega)) _]
      rw [show (o : Int) + (i : Int) = ((o + i : Nat) : Int) by omega, show (o : Int) + (k : Int) = ((o + k : Nat) : Int) by omega]
      refine tb_write hnc (by omega) (by omega) ?_
      rw [mjRow_up]
      exact hL2
    · have hme := hm.row (g := fo (fun k g => va_up g (6 * (o + i) + (o + k)) (tE Z e i k)) m g) hx.2.1
      have hm0 := hme.1
      exact mjl_58_13 ⟨by omega, by omega, fun _ => hL, fun h => by omega⟩
  · have hm0 := (hm.row (g := rL o m (tE Z e) (Z (c + 1))) hx.2.1).1
    exact mjl_58_2 ⟨by omega, by unfold rL at hm0; omega, fun _ => hq, fun h => by unfold rL at hm0; omega⟩
/-- the first place that isn't as its mirror -/
def tUn (n : Nat) (T : Nat → Nat → Int) : Option Int := sr (fun i => sr (fun k => if T i k = T k i then none else some (10 * (i : Int) + k)) n 0) n 0
theorem tb_uneven {q : Int → mjZ → Prop} (hn : tN Z c n) (hr : tR Z c n) (hq : q ((tUn n (tE Z c)).getD (-1)) Z) : mjW1 (d + 3) 39 [yR 6 c] Z q := by
  obtain ⟨h0, h1, h2⟩ := id hn
  refine mje_39 (d := d + 2) ?_
  refine lp_find (n := n) (P := fun i => sr (fun k => if tE Z c i k = tE Z c k i then none else some (10 * (i : Int) + k)) n 0) (L := fun i => mjL_39_2 (d + 2) c i Z q) (E := fun r => q r Z) (fun i hi hL hE => ?_) (fun h => ?_) (fun r h => ?_)
  · refine mjl_39_2 ⟨by omega, by omega, fun h => by omega, fun _ => ?_⟩
    refine lp_find (n := n) (P := fun k => if tE Z c i k = tE Z c k i then none else some (10 * (i : Int) + k)) (L := fun k => mjL_39_12 (d + 2) c i k Z q) (E := fun r => q r Z) (fun k hk hL2 hE2 => ?_) (fun h => ?_) (fun r h => hE r h)
    · have r1 := hr i k hi hk
      have r2 := hr k i hk hi
      refine mjl_39_12 ⟨by omega, by omega, fun h => by omega, fun _ => ?_⟩
      refine tb_number hn hi hk (tb_number hn hk hi ?_)
      refine ⟨r1, r2, fun h => hL2 (if_pos h), fun h => hE2 _ (if_neg h)⟩
    · exact mjl_39_12 ⟨by omega, by omega, fun _ => hL h, fun h => by omega⟩
  · unfold tUn at hq
    rw [h] at hq
    exact mjl_39_2 ⟨by omega, by omega, fun _ => hq, fun h => by omega⟩
  · unfold tUn at hq
    rw [h] at hq
    exact hq
def tGr (n : Nat) (T : Nat → Nat → Int) : Option Unit := sr (fun i => sr (fun k => if bgA (T i k) ≤ 100 then none else some ()) n 0) n 0
theorem tb_isGreat {q : Int → mjZ → Prop} (hn : tN Z c n) (hr : tR Z c n) (hr2 : ∀ i k, i < n → k < n → tE Z c i k ≠ -2147483648) (hq : q (match tGr n (tE Z c) with | none => 0 | some _ => 1) Z) : mjW1 (d + 4) 59 [yR 6 c] Z q := by
  obtain ⟨h0, h1, h2⟩ := id hn
  refine mje_59 (d := d + 2) ?_
  refine lp_find (n := n) (P := fun i => sr (fun k => if bgA (tE Z c i k) ≤ 100 then none else some ()) n 0) (L := fun i => mjL_59_2 (d + 3) c i Z q) (E := fun _ => q 1 Z) (fun i hi hL hE => ?_) (fun h => ?_) (fun r h => ?_)
  · refine mjl_59_2 ⟨by omega, by omega, fun h => by omega, fun _ => ?_⟩
    refine lp_find (n := n) (P := fun k => if bgA (tE Z c i k) ≤ 100 then none else some ()) (L := fun k => mjL_59_12 (d + 3) c i k Z q) (E := fun _ => q 1 Z) (fun k hk hL2 hE2 => ?_) (fun h => ?_) (fun r h => hE r h)
    · have r1 := hr i k hi hk
      have r2 := hr2 i k hi hk
      refine mjl_59_12 ⟨by omega, by omega, fun h => by omega, fun _ => ?_⟩
      refine tb_number (d := d + 1) hn hi hk ?_
      rw [show (if 0 ≤ tE Z c i k then tE Z c i k else 0 - tE Z c i k) = bgA (tE Z c i k) by unfold bgA; split <;> omega]
      have ra := bgA_or (tE Z c i k)
      refine ⟨r1, by omega, fun h => hL2 (if_pos h), fun h => hE2 () (if_neg h)⟩
    · exact mjl_59_12 ⟨by omega, by omega, fun _ => hL h, fun h => by omega⟩
  · unfold tGr at hq
    rw [h] at hq
    exact mjl_59_2 ⟨by omega, by omega, fun _ => hq, fun h => by omega⟩
  · unfold tGr at hq
    rw [h] at hq
    exact hq
theorem tb_isTied {i k : Nat} {q : Int → mjZ → Prop} (hn : tN Z c n) (hr : tR Z c n) (hi : i < n) (hk : k < n) (hq : q (if i ≠ k ∧ tE Z c i k ≠ 0 then 1 else 0) Z) : mjW1 (d + 3) 44 [yR 6 c, yI (i : Int), yI (k : Int)] Z q := by
  have h2 := hn.2.2
  refine mje_44 (d := d + 2) ⟨by omega, by omega, fun h => ?_, fun h => ?_⟩
  · rw [if_neg (by omega)] at hq; exact hq
  · refine tb_number hn hi hk ⟨hr i k hi hk, fun g => ?_, fun g => ?_⟩
    · rw [if_neg (fun x => x.2 g)] at hq; exact hq
    · rw [if_pos ⟨by omega, g⟩] at hq; exact hq
/-- what reach tells -/
def tReach (n : Nat) (T : Nat → Nat → Int) (x : Int) : Prop := 0 ≤ x ∧ x ≤ 6 ∧ (∀ a b, a < n → b < a → T a b ≠ 0 → (a : Int) - b ≤ x) ∧ (x = 0 ∨ ∃ a b, b < a ∧ a < n ∧ T a b ≠ 0 ∧ x = (a : Int) - b)
theorem tb_reach {q : Int → mjZ → Prop} (hn : tN Z c n) (hr : tR Z c n) (hq : ∀ x, tReach n (tE Z c) x → q x Z) : mjW1 (d + 5) 43 [yR 6 c] Z q := by
  obtain ⟨h0, h1, h2⟩ := id hn
  refine mje_43 (d := d + 3) ?_
  refine lp_inv (n := n) (a := (0 : Int)) (L := fun i x => mjL_43_4 (d + 4) c x i Z q) (Y := fun i x => 0 ≤ x ∧ x ≤ 6 ∧ (∀ a b, a < i → b < a → tE Z c a b ≠ 0 → (a : Int) - b ≤ x) ∧ (x = 0 ∨ ∃ a b, b < a ∧ a < n ∧ tE Z c a b ≠ 0 ∧ x = (a : Int) - b)) (fun i x hi hy hL => ?_) (fun x hy => ?_) ⟨by omega, by omega, fun a b h => by omega, Or.inl rfl⟩
  · refine mjl_43_4 ⟨by omega, by omega, fun h => by omega, fun _ => ?_⟩
    refine lp_inv (n := i) (a := x) (L := fun k x => mjL_43_14 (d + 4) c x i k Z q) (Y := fun k x => 0 ≤ x ∧ x ≤ 6 ∧ (∀ a b, a < i → b < a → tE Z c a b ≠ 0 → (a : Int) - b ≤ x) ∧ (∀ b, b < k → tE Z c i b ≠ 0 → (i : Int) - b ≤ x) ∧ (x = 0 ∨ ∃ a b, b < a ∧ a < n ∧ tE Z c a b ≠ 0 ∧ x = (a : Int) - b)) (fun k x hk hy2 hL2 => ?_) (fun x hy2 => ?_) ⟨hy.1, hy.2.1, hy.2.2.1, fun b h => by omega, hy.2.2.2⟩
    · obtain ⟨y1, y2, y3, y4, y5⟩ := hy2
      refine mjl_43_14 ⟨by omega, by omega, fun h => by omega, fun _ => ?_⟩
      refine tb_isTied (d := d + 1) hn hr hi (by omega) ?_
      by_cases ht : tE Z c i k = 0
      · rw [if_neg (fun g => g.2 ht)]
        refine ⟨by omega, fun _ => hL2 x ⟨y1, y2, y3, fun b hb hne => ?_, y5⟩, fun g => by omega⟩
        rcases Nat.lt_or_ge b k with g | g
        · exact y4 b g hne
        · have : b = k := by omega
          subst this
          exact absurd ht hne
      · rw [if_pos ⟨by omega, ht⟩]
        refine ⟨by omega, fun g => by omega, fun _ => ⟨by omega, by omega, hL2 _ ⟨?_, ?_, fun a b ha hb hne => ?_, fun b hb hne => ?_, ?_⟩⟩⟩
        · split <;> omega
        · split <;> omega
        · have := y3 a b ha hb hne
          split <;> omega
        · rcases Nat.lt_or_ge b k with g | g
          · have := y4 b g hne
            split <;> omega
          · have : b = k := by omega
            subst this
            split <;> omega
        · split
          · exact Or.inr ⟨i, k, hk, hi, ht, rfl⟩
          · exact y5
    · obtain ⟨y1, y2, y3, y4, y5⟩ := hy2
      refine mjl_43_14 ⟨by omega, by omega, fun _ => hL x ⟨y1, y2, fun a b ha hb hne => ?_, y5⟩, fun h => by omega⟩
      rcases Nat.lt_or_ge a i with g | g
      · exact y3 a b g hb hne
      · have : a = i := by omega
        subst this
        exact y4 b hb hne
  · exact mjl_43_4 ⟨by omega, by omega, fun _ => hq x hy, fun h => by omega⟩
theorem tb_isOfLines {q : Int → mjZ → Prop} (hn : tN Z c n) (hr : tR Z c n) (h1 : tLines n (tE Z c) → q 1 Z) (h0 : ¬ tLines n (tE Z c) → q 0 Z) : mjW1 (d + 3) 45 [yR 6 c] Z q := by
  obtain ⟨g0, g1, g2⟩ := id hn
  refine mje_45 (d := d + 2) ?_
  refine lp_inv (n := n) (a := ()) (L := fun i _ => mjL_45_2 (d + 2) c i Z q) (Y := fun i _ => ∀ a b, a < i → b < n → tE Z c a b = 0 ∨ tE Z c a b = 1 ∧ a ≠ b) (fun i _ hi hy hL => ?_) (fun _ hy => ?_) (fun a b h => by omega)
  · refine mjl_45_2 ⟨by omega, by omega, fun h => by omega, fun _ => ?_⟩
    refine lp_inv (n := n) (a := ()) (L := fun k _ => mjL_45_12 (d + 2) c i k Z q) (Y := fun k _ => ∀ b, b < k → tE Z c i b = 0 ∨ tE Z c i b = 1 ∧ i ≠ b) (fun k _ hk hy2 hL2 => ?_) (fun _ hy2 => ?_) (fun b h => by omega)
    · have r1 := hr i k hi hk
      have hgood : (tE Z c i k = 0 ∨ tE Z c i k = 1 ∧ i ≠ k) → mjL_45_12 (d + 2) c i (k + 1) Z q := fun hg => hL2 () fun b hb => by
        rcases Nat.lt_or_ge b k with g | g
        · exact hy2 b g
        · have : b = k := by omega
          subst this
          exact hg
      have hbad : ¬ (tE Z c i k = 0 ∨ tE Z c i k = 1 ∧ i ≠ k) → q 0 Z := fun hg => h0 fun hl => hg (hl i k hi hk)
      refine mjl_45_12 ⟨by omega, by omega, fun h => by omega, fun _ => tb_number hn hi hk ⟨r1, fun h => hgood (Or.inl h), fun h => ⟨fun h2 => hbad (by omega), fun h2 => ⟨by omega, fun h3 => hgood (Or.inr ⟨by omega, by omega⟩), fun h3 => hbad (by omega)⟩⟩⟩⟩
    · refine mjl_45_12 ⟨by omega, by omega, fun _ => hL () fun a b ha hb => ?_, fun h => by omega⟩
      rcases Nat.lt_or_ge a i with g | g
      · exact hy a b g hb
      · have : a = i := by omega
        subst this
        exact hy2 b hb
  · exact mjl_45_2 ⟨by omega, by omega, fun _ => h1 fun i k hi hk => hy i k hi hk, fun h => by omega⟩
theorem tReach.slant {T : Nat → Nat → Int} {x : Int} (h : tReach n T x) (hs : tSym n T) : x = 0 ↔ tSlant n T := by
  obtain ⟨y1, y2, y3, y4⟩ := h
  constructor
  · intro h0 i k hi hk hne
    rcases Nat.lt_or_ge k i with g | g
    · by_cases ht : T i k = 0
      · exact ht
      · have := y3 i k hi g ht; omega
    · rw [hs i k hi hk]
      by_cases ht : T k i = 0
      · exact ht
      · have := y3 k i hk (by omega) ht; omega
  · intro hsl
    rcases y4 with g | ⟨a, b, g1, g2, g3, g4⟩
    · exact g
    · exact absurd (hsl a b g2 (by omega) (by omega)) g3
theorem tReach.band {T : Nat → Nat → Int} {x : Int} (h : tReach n T x) (hs : tSym n T) : x ≤ 1 ↔ tBand n T := by
  obtain ⟨y1, y2, y3, y4⟩ := h
  constructor
  · intro h0 i k hi hk hne
    rcases hne with g | g
    · rw [hs i k hi hk]
      by_cases ht : T k i = 0
      · exact ht
      · have := y3 k i hk (by omega) ht; omega
    · by_cases ht : T i k = 0
      · exact ht
      · have := y3 i k hi (by omega) ht; omega
  · intro hsl
    rcases y4 with g | ⟨a, b, g1, g2, g3, g4⟩
    · omega
    · rcases Nat.lt_or_ge (b + 1) a with g | g
      · exact absurd (hsl a b g2 (by omega) (Or.inr g)) g3
      · omega
theorem tb_sortOut {q : mjZ → Prop} (hn : tN Z c n) (hr : tR Z c n) (hs : tSym n (tE Z c)) (hq : ∀ x, tKind n (tE Z c) x → q (mjUp Z c 1 x)) : mjW0 (d + 6) 42 [yR 6 c] Z q := by
  refine mje_42 (d := d + 5) (tb_reach hn hr fun x hx => ?_)
  have x1 := hx.1
  have x2 := hx.2.1
  have xs := hx.slant hs
  refine ⟨by omega, fun h => ?_, fun h => hq 1 (Or.inl ⟨rfl, xs.mp (Classical.not_not.mp h)⟩)⟩
  have hns : ¬ tSlant n (tE Z c) := fun g => h (xs.mpr g)
  refine tb_isOfLines (d := d + 2) hn hr (fun hl => ⟨by omega, fun g => by omega, fun _ => hq 3 (Or.inr (Or.inl ⟨rfl, hns, hl⟩))⟩) fun hl => ⟨by omega, fun _ => ?_, fun g => absurd rfl g⟩
  refine tb_reach hn hr fun y hy => ?_
  have y1 := hy.1
  have y2 := hy.2.1
  have ys := hy.slant hs
  have yb := hy.band hs
  have yn : y ≠ 0 := fun g => hns (ys.mp g)
  exact ⟨by omega, fun g => hq 0 (Or.inr (Or.inr (Or.inr ⟨rfl, hns, hl, fun k => by have := yb.mpr k; omega⟩))), fun g => hq 2 (Or.inr (Or.inr (Or.inl ⟨rfl, hns, hl, yb.mp (by omega)⟩)))⟩
end TB
