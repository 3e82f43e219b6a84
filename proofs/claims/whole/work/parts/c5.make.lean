/-! Tables that are made: the class's draft and keep, the reference's kindOf, come, comes. -/
theorem INV_new {Z Z' : mjZ} {m : Nat} (h : INV Z) (hm : Z 0 2 = (m : Int)) (h60 : m < 60) (e : ∀ c, c ≠ 0 → c ≠ 35 + 2 * m → c ≠ 35 + 2 * m + 1 → c ≠ 464 → c ≠ 468 → c ≠ 469 → c ≠ 470 → c ≠ 471 → Z' c = Z c) (e0 : ∀ k, k ≠ 2 → Z' 0 k = Z 0 k) (e02 : Z' 0 2 = (m : Int) + 1) (e4 : ∀ k, k ≠ 3 → k ≠ 12 → Z' 464 k = Z 464 k) (e43 : Z' 464 3 = (m : Int) + 1) (f1 : ∀ k, k ≠ m → Z' 468 k = Z 468 k) (f2 : ∀ k, k ≠ m → Z' 469 k = Z 469 k) (f3 : ∀ k, k < 36 * m → Z' 470 k = Z 470 k) (hn : ivTab Z' m) : INV Z' := by
  obtain ⟨h1, h2, h3, h4, h5, h6⟩ := h
  refine ⟨h1.fr (fun c g1 g2 => e c (by omega) (by omega) (by omega) (by omega) (by omega) (by omega) (by omega) (by omega)) (e _ (by omega) (by omega) (by omega) (by omega) (by omega) (by omega) (by omega) (by omega)) (e _ (by omega) (by omega) (by omega) (by omega) (by omega) (by omega) (by omega) (by omega)) (e _ (by omega) (by omega) (by omega) (by omega) (by omega) (by omega) (by omega) (by omega)), ?_, h3.fr (fun c g1 g2 => e c (by omega) (by omega) (by omega) (by omega) (by omega) (by omega) (by omega) (by omega)) (e0 4 (by omega)) (e4 18 (by omega) (by omega)) (fun k _ => by rw [e _ (by omega) (by omega) (by omega) (by omega) (by omega) (by omega) (by omega) (by omega)]) (fun k _ => by rw [e _ (by omega) (by omega) (by omega) (by omega) (by omega) (by omega) (by omega) (by omega)]) (fun k _ => by rw [e _ (by omega) (by omega) (by omega) (by omega) (by omega) (by omega) (by omega) (by omega)]), h4.fr (e0 7 (by omega)) (e0 8 (by omega)) (e0 10 (by omega)) (e4 8 (by omega) (by omega)) (e4 9 (by omega) (by omega)) (e4 11 (by omega) (by omega)) (e _ (by omega) (by omega) (by omega) (by omega) (by omega) (by omega) (by omega) (by omega)) (e _ (by omega) (by omega) (by omega) (by omega) (by omega) (by omega) (by omega) (by omega)), h5.fr (e0 6 (by omega)) (e4 13 (by omega) (by omega)) (e _ (by omega) (by omega) (by omega) (by omega) (by omega) (by omega) (by omega) (by omega)) (e _ (by omega) (by omega) (by omega) (by omega) (by omega) (by omega) (by omega) (by omega)), h6.fr (fun k _ _ => by rw [e _ (by omega) (by omega) (by omega) (by omega) (by omega) (by omega) (by omega) (by omega)]) (fun k _ => by rw [e _ (by omega) (by omega) (by omega) (by omega) (by omega) (by omega) (by omega) (by omega)]) (fun k _ => by rw [e _ (by omega) (by omega) (by omega) (by omega) (by omega) (by omega) (by omega) (by omega)]) (e _ (by omega) (by omega) (by omega) (by omega) (by omega) (by omega) (by omega) (by omega)) (e _ (by omega) (by omega) (by omega) (by omega) (by omega) (by omega) (by omega) (by omega)) (e _ (by omega) (by omega) (by omega) (by omega) (by omega) (by omega) (by omega) (by omega)) (e _ (by omega) (by omega) (by omega) (by omega) (by omega) (by omega) (by omega) (by omega))⟩
  obtain ⟨m', a1, a2, a3, a4⟩ := h2
  have : m' = m := by omega
  subst this
  refine ⟨m' + 1, by omega, by rw [e02]; omega, by rw [e43]; omega, fun t ht => ?_⟩
  rcases Nat.lt_or_ge t m' with g | g
  · exact (a4 t g).fr (e _ (by omega) (by omega) (by omega) (by omega) (by omega) (by omega) (by omega) (by omega)) (e _ (by omega) (by omega) (by omega) (by omega) (by omega) (by omega) (by omega) (by omega)) (f1 t (by omega)) (f2 t (by omega)) (fun j hj => f3 _ (by omega))
  · have : t = m' := by omega
    subst this
    exact hn
section MK
variable {d m n : Nat} {Z : mjZ}
def zRow (g : Nat → Int) : Nat → Int := fo (fun i g => va_up g i 0) 36 g
theorem zRow_val (g : Nat → Int) (j : Nat) : zRow g j = if j < 36 then 0 else g j := fo_cst 36 j
/-- the draft: the next table, of n rows, all 0 -/
def drC (m n : Nat) (Z : mjZ) : mjZ := mjRow (mjUp Z (35 + 2 * m) 0 n) (35 + 2 * m + 1) (zRow (Z (35 + 2 * m + 1)))
theorem fc_isFull {q : Int → mjZ → Prop} (hm : Z 0 2 = (m : Int)) (h60 : m ≤ 60) (hq : q (if m = 60 then 1 else 0) Z) : mjW1 (d + 1) 25 [yR 10 0] Z q := by
  refine mje_25 ⟨by omega, fun h => ?_, fun h => ?_⟩
  · rw [if_neg (by omega)] at hq; exact hq
  · rw [if_pos (by omega)] at hq; exact hq
theorem fc_draft {q : Nat → mjZ → Prop} (hm : Z 0 2 = (m : Int)) (h60 : m < 60) (h1 : 1 ≤ n) (h6 : n ≤ 6) (hq : q (35 + 2 * m) (drC m n Z)) : mjW3 6 (d + 3) 26 [yR 10 0, yI (n : Int)] Z q := by
  refine mje_26 (d := d + 2) ⟨by omega, fun h => by omega, fun h => ⟨by omega, by omega, ?_⟩⟩
  rw [show 34 + 1 + 2 * (Z 0 2).toNat = 35 + 2 * m by omega]
  exact tb_begin (d := d) h1 h6 hq
theorem drC_n (h1 : 1 ≤ n) (h6 : n ≤ 6) : tN (drC m n Z) (35 + 2 * m) n := ⟨by unfold drC; rw [mjRow_ne (by omega), mjUp_at], h1, h6⟩
theorem drC_ne {c : Nat} (h1 : c ≠ 35 + 2 * m) (h2 : c ≠ 35 + 2 * m + 1) : drC m n Z c = Z c := by unfold drC; rw [mjRow_ne h2, mjUp_nc h1]
/-- a draft whose numbers are written -/
def drW (m n : Nat) (g : Nat → Int) (Z : mjZ) : mjZ := mjRow (mjUp Z (35 + 2 * m) 0 n) (35 + 2 * m + 1) g
theorem drC_row {g : Nat → Int} : mjRow (drC m n Z) (35 + 2 * m + 1) g = drW m n g Z := by unfold drC drW; rw [mjRow_row]
theorem drW_ne {c : Nat} {g : Nat → Int} (h1 : c ≠ 35 + 2 * m) (h2 : c ≠ 35 + 2 * m + 1) : drW m n g Z c = Z c := by unfold drW; rw [mjRow_ne h2, mjUp_nc h1]
theorem drW_n {g : Nat → Int} (h1 : 1 ≤ n) (h6 : n ≤ 6) : tN (drW m n g Z) (35 + 2 * m) n := ⟨by unfold drW; rw [mjRow_ne (by omega), mjUp_at], h1, h6⟩
theorem drW_t {g : Nat → Int} {i k : Nat} : tE (drW m n g Z) (35 + 2 * m) i k = g (6 * i + k) := by unfold drW; exact congrFun mjRow_at _
def kpC (m : Nat) (x : Int) (Z : mjZ) : mjZ := mjUp (mjUp Z (35 + 2 * m) 1 x) 0 2 ((m : Int) + 1)
theorem fc_keep {q : Int → mjZ → Prop} (hm : Z 0 2 = (m : Int)) (hn : tN Z (35 + 2 * m) n) (hr : tR Z (35 + 2 * m) n) (hs : tSym n (tE Z (35 + 2 * m))) (hq : ∀ x, tKind n (tE Z (35 + 2 * m)) x → q (m : Int) (kpC m x Z)) : mjW1 (d + 7) 41 [yR 10 0, yR 6 (35 + 2 * m)] Z q := by
  refine mje_41 (d := d + 6) (tb_sortOut hn hr hs fun x hx => ?_)
  have e1 : mjUp Z (35 + 2 * m) 1 x 0 2 = (m : Int) := by rw [mjUp_nc (by omega)]; exact hm
  rw [e1, mjUp_at]
  have := hq x hx
  rw [show (m : Int) + 1 - 1 = (m : Int) by omega]
  exact this
def cmM (m n : Nat) (x : Int) (Z : mjZ) : mjZ := mjUp (mjRow (mjUp (mjUp Z 468 m x) 469 m n) 470 (fo (fun j g => va_up g (36 * m + j) (Z 471 j)) 36 (Z 470))) 464 3 ((m : Int) + 1)
theorem fo_cpy {o : Nat} {x g : Nat → Int} : ∀ n j : Nat, fo (fun i g => va_up g (o + i) (x i)) n g j = if o ≤ j ∧ j < o + n then x (j - o) else g j
  | 0, j => by rw [if_neg (by omega)]; rfl
  | n + 1, j => by
    show (if j = o + n then x n else fo (fun i g => va_up g (o + i) (x i)) n g j) = _
    by_cases h : j = o + n
    · rw [if_pos h, if_pos (by omega), h, Nat.add_sub_cancel_left]
    · rw [if_neg h, fo_cpy n j]
      by_cases h2 : o ≤ j ∧ j < o + n
      · rw [if_pos h2, if_pos (by omega)]
      · rw [if_neg h2, if_neg (by omega)]
theorem fm_come {x : Int} {q : Int → mjZ → Prop} (hm : Z 464 3 = (m : Int)) (h60 : m < 60) (hq : q (m : Int) (cmM m n x Z)) : mjW1 (d + 1) 178 [yR 11 464, yI (n : Int), yI x] Z q := by
  have e1 : mjUp Z 468 (Z 464 3).toNat x 464 3 = (m : Int) := by rw [mjUp_nc (by decide)]; exact hm
  refine mje_178 ⟨by omega, by omega, ?_⟩
  rw [e1]
  refine ⟨by omega, by omega, ?_⟩
  rw [hm, show ((m : Int)).toNat = m from rfl]
  have e2 : mjUp (mjUp Z 468 m x) 469 m (n : Int) 470 = Z 470 := by rw [mjUp_nc (by decide), mjUp_nc (by decide)]
  refine lp_row (A := 470) (n := 36) (f := fun j g => va_up g (36 * m + j) (Z 471 j)) (L := fun i Z => mjL_178_22 d n x i Z q) (fun i g hi hL => ?_) ?_
  · have e3 : mjRow (mjUp (mjUp Z 468 m x) 469 m (n : Int)) 470 g 464 3 = (m : Int) := by rw [mjRow_ne (by decide), mjUp_nc (by decide), mjUp_nc (by decide)]; exact hm
    have e4 : mjRow (mjUp (mjUp Z 468 m x) 469 m (n : Int)) 470 g 471 = Z 471 := by rw [mjRow_ne (by decide), mjUp_nc (by decide), mjUp_nc (by decide)]
    rw [← mjRow_up] at hL
    refine mjl_178_22 ⟨by omega, fun h => by omega, fun _ => ⟨by omega, by omega, ?_⟩⟩
    rw [e3, e4]
    refine ⟨by omega, by omega, ?_⟩
    rw [show ((36 * (m : Int)) + (i : Int)).toNat = 36 * m + i by omega]
    exact hL
  · rw [e2]
    have e3 : mjRow (mjUp (mjUp Z 468 m x) 469 m (n : Int)) 470 (fo (fun j g => va_up g (36 * m + j) (Z 471 j)) 36 (Z 470)) 464 3 = (m : Int) := by rw [mjRow_ne (by decide), mjUp_nc (by decide), mjUp_nc (by decide)]; exact hm
    refine mjl_178_22 ⟨by omega, fun _ => ?_, fun h => by omega⟩
    rw [e3, mjUp_at, show (m : Int) + 1 - 1 = (m : Int) by omega]
    exact hq
theorem fm_emptyMade {q : mjZ → Prop} (hq : q (mjRow Z 471 (zRow (Z 471)))) : mjW0 (d + 1) 174 [yR 11 464] Z q := by
  refine mje_174 ?_
  refine lp_row (A := 471) (n := 36) (f := fun i g => va_up g i 0) (L := fun i Z => mjL_174_2 d i Z q) (fun i g hi hL => ?_) ?_
  · rw [← mjRow_up] at hL
    exact mjl_174_2 ⟨by omega, fun h => by omega, fun _ => ⟨by omega, by omega, hL⟩⟩
  · exact mjl_174_2 ⟨by omega, fun _ => hq, fun h => by omega⟩
def cpRow (t : Nat) (Z : mjZ) : Nat → Int := fo (fun i g => va_up g (0 + i) (Z 470 (36 * t + i))) 36 (Z 471)
theorem cpRow_val {t j : Nat} (hj : j < 36) : cpRow t Z j = Z 470 (36 * t + j) := by
  unfold cpRow
  rw [fo_cpy (x := fun i => Z 470 (36 * t + i)), if_pos (by omega)]
  rfl
theorem fm_copyMade {t : Nat} {q : mjZ → Prop} (ht : t < 60) (hq : q (mjRow Z 471 (cpRow t Z))) : mjW0 (d + 1) 190 [yR 11 464, yI (t : Int)] Z q := by
  refine mje_190 ?_
  refine lp_row (A := 471) (n := 36) (f := fun i g => va_up g (0 + i) (Z 470 (36 * t + i))) (L := fun i Z => mjL_190_2 d t i Z q) (fun i g hi hL => ?_) ?_
  · have e : mjRow Z 471 g 470 = Z 470 := mjRow_ne (by decide)
    rw [← mjRow_up, Nat.zero_add] at hL
    refine mjl_190_2 ⟨by omega, fun h => by omega, fun _ => ⟨by omega, by omega, by omega, by omega, ?_⟩⟩
    rw [show ((36 * (t : Int)) + (i : Int)).toNat = 36 * t + i by omega, e]
    exact hL
  · exact mjl_190_2 ⟨by omega, fun _ => hq, fun h => by omega⟩
/-- the kind, as the reference finds it: three flags over all places -/
def kfS (i k : Nat) (v : Int) : Prop := i = k ∨ v = 0
def kfN (i k : Nat) (v : Int) : Prop := v = 0 ∨ v = 1 ∧ i ≠ k
def kfB (i k : Nat) (v : Int) : Prop := (i < k + 2 ∧ k < i + 2) ∨ v = 0
set_option maxHeartbeats 2000000 in
theorem fm_kindOf {T : Nat → Nat → Int} {q : Int → mjZ → Prop} (h1 : 1 ≤ n) (h6 : n ≤ 6) (hT : ∀ i k, i < n → k < n → Z 471 (6 * i + k) = T i k ∧ -2147483648 ≤ T i k ∧ T i k < 2147483648) (hq : ∀ x, tKind n T x → q x Z) : mjW1 (d + 1) 177 [yR 11 464, yI (n : Int)] Z q := by
  refine mje_177 ?_
  refine lp_inv (n := n) (a := ((1 : Nat), (1 : Nat), (1 : Nat))) (L := fun i a => mjL_177_10 d n a.1 a.2.1 a.2.2 i Z q) (Y := fun i a => a.1 ≤ 1 ∧ a.2.1 ≤ 1 ∧ a.2.2 ≤ 1 ∧ (a.1 = 1 ↔ ∀ x y, x < i → y < n → kfS x y (T x y)) ∧ (a.2.1 = 1 ↔ ∀ x y, x < i → y < n → kfN x y (T x y)) ∧ (a.2.2 = 1 ↔ ∀ x y, x < i → y < n → kfB x y (T x y))) (fun i a hi hy hL => ?_) (fun a hy => ?_) ⟨Nat.le_refl _, Nat.le_refl _, Nat.le_refl _, ⟨fun _ x y h => by omega, fun _ => rfl⟩, ⟨fun _ x y h => by omega, fun _ => rfl⟩, ⟨fun _ x y h => by omega, fun _ => rfl⟩⟩
  · refine mjl_177_10 ⟨by omega, by omega, fun h => by omega, fun _ => ?_⟩
    refine lp_inv (n := n) (a := a) (L := fun k a => mjL_177_19 d n a.1 a.2.1 a.2.2 i k Z q) (Y := fun k b => b.1 ≤ 1 ∧ b.2.1 ≤ 1 ∧ b.2.2 ≤ 1 ∧ (b.1 = 1 ↔ (a.1 = 1 ∧ ∀ y, y < k → kfS i y (T i y))) ∧ (b.2.1 = 1 ↔ (a.2.1 = 1 ∧ ∀ y, y < k → kfN i y (T i y))) ∧ (b.2.2 = 1 ↔ (a.2.2 = 1 ∧ ∀ y, y < k → kfB i y (T i y)))) (fun k b hk hy2 hL2 => ?_) (fun b hy2 => ?_) ⟨hy.1, hy.2.1, hy.2.2.1, ⟨fun h => ⟨h, fun y g => by omega⟩, fun h => h.1⟩, ⟨fun h => ⟨h, fun y g => by omega⟩, fun h => h.1⟩, ⟨fun h => ⟨h, fun y g => by omega⟩, fun h => h.1⟩⟩
    · obtain ⟨b1, b2, b3⟩ := b
      obtain ⟨y1, y2, y3, y4, y5, y6⟩ := hy2
      obtain ⟨hv, hv1, hv2⟩ := hT i k hi hk
      have step : ∀ (P : Nat → Prop) (b' c : Nat) (A : Prop), b' ≤ 1 → (b' = 1 ↔ (A ∧ ∀ y, y < k → P y)) → (c = 1 ↔ (b' = 1 ∧ P k)) → (c = 1 ↔ (A ∧ ∀ y, y < k + 1 → P y)) := fun P b' c A _ h2 h3 => by
        rw [h3, h2]
        constructor
        · rintro ⟨⟨g1, g2⟩, g3⟩
          refine ⟨g1, fun y hy => ?_⟩
          rcases Nat.lt_or_ge y k with g | g
          · exact g2 y g
          · have : y = k := by omega
            subst this
            exact g3
        · rintro ⟨g1, g2⟩
          exact ⟨⟨g1, fun y hy => g2 y (by omega)⟩, g2 k (by omega)⟩
      have hL3 : ∀ c1 c2 c3 : Nat, c1 = (if b1 = 1 ∧ (i = k ∨ T i k = 0) then 1 else 0) → c2 = (if b2 = 1 ∧ (T i k = 0 ∨ T i k = 1 ∧ i ≠ k) then 1 else 0) → c3 = (if b3 = 1 ∧ ((i < k + 2 ∧ k < i + 2) ∨ T i k = 0) then 1 else 0) → mjL_177_19 d n c1 c2 c3 i (k + 1) Z q := fun c1 c2 c3 g1 g2 g3 => hL2 (c1, c2, c3) ⟨by show c1 ≤ 1; rw [g1]; split <;> omega, by show c2 ≤ 1; rw [g2]; split <;> omega, by show c3 ≤ 1; rw [g3]; split <;> omega, step _ b1 c1 _ y1 y4 (by unfold kfS; rw [g1]; split <;> simp_all), step _ b2 c2 _ y2 y5 (by unfold kfN; rw [g2]; split <;> simp_all), step _ b3 c3 _ y3 y6 (by unfold kfB; rw [g3]; split <;> simp_all)⟩
      clear step hL2 y4 y5 y6 hL hy hq
      refine mjl_177_19 ⟨by omega, by omega, fun h => by omega, fun _ => ⟨by omega, by omega, ?_⟩⟩
      rw [show ((6 * (i : Int)) + (k : Int)).toNat = 6 * i + k by omega, hv]
      dsimp only at y1 y2 y3 ⊢
      generalize T i k = v at *
      clear hT hv
      repeat' (first | exact hL3 _ _ _ (by split <;> omega) (by split <;> omega) (by split <;> omega) | omega | refine And.intro ?_ ?_ | intro _)
    · obtain ⟨y1, y2, y3, y4, y5, y6⟩ := hy2
      have comb : ∀ (P : Nat → Nat → Prop) (b' a' : Nat), (a' = 1 ↔ ∀ x y, x < i → y < n → P x y) → (b' = 1 ↔ (a' = 1 ∧ ∀ y, y < n → P i y)) → (b' = 1 ↔ ∀ x y, x < i + 1 → y < n → P x y) := fun P b' a' h1 h2 => by
        rw [h2, h1]
        constructor
        · rintro ⟨g1, g2⟩ x y hx hyy
          rcases Nat.lt_or_ge x i with g | g
          · exact g1 x y g hyy
          · have hxi : x = i := by omega
            rw [hxi]
            exact g2 y hyy
        · intro g
          exact ⟨fun x y hx hy => g x y (by omega) hy, fun y hy => g i y (by omega) hy⟩
      exact mjl_177_19 ⟨by omega, by omega, fun _ => hL b ⟨y1, y2, y3, comb _ _ _ hy.2.2.2.1 y4, comb _ _ _ hy.2.2.2.2.1 y5, comb _ _ _ hy.2.2.2.2.2 y6⟩, fun h => by omega⟩
  · obtain ⟨b1, b2, b3⟩ := a
    obtain ⟨y1, y2, y3, y4, y5, y6⟩ := hy
    dsimp only at y1 y2 y3 y4 y5 y6 ⊢
    have eS : b1 = 1 ↔ tSlant n T := by
      rw [y4]
      exact ⟨fun g i k hi hk hne => (g i k hi hk).resolve_left hne, fun g i k hi hk => by
        by_cases h : i = k
        · exact Or.inl h
        · exact Or.inr (g i k hi hk h)⟩
    have eN : b2 = 1 ↔ tLines n T := by
      rw [y5]
      exact ⟨fun g i k hi hk => g i k hi hk, fun g i k hi hk => g i k hi hk⟩
    have eB : b3 = 1 ↔ tBand n T := by
      rw [y6]
      exact ⟨fun g i k hi hk hne => (g i k hi hk).resolve_left (by omega), fun g i k hi hk => by
        by_cases h : i < k + 2 ∧ k < i + 2
        · exact Or.inl h
        · exact Or.inr (g i k hi hk (by omega))⟩
    refine mjl_177_10 ⟨by omega, by omega, fun _ => ⟨by omega, fun g1 => ⟨by omega, fun g2 => ⟨by omega, fun g3 => hq 0 (Or.inr (Or.inr (Or.inr ⟨rfl, ?_, ?_, ?_⟩))), fun g3 => hq 2 (Or.inr (Or.inr (Or.inl ⟨rfl, ?_, ?_, ?_⟩)))⟩, fun g2 => hq 3 (Or.inr (Or.inl ⟨rfl, ?_, ?_⟩))⟩, fun g1 => hq 1 (Or.inl ⟨rfl, ?_⟩)⟩, fun h => by omega⟩
    · rw [← eS]; omega
    · rw [← eN]; omega
    · rw [← eB]; omega
    · rw [← eS]; omega
    · rw [← eN]; omega
    · rw [← eB]; omega
    · rw [← eS]; omega
    · rw [← eN]; omega
    · rw [← eS]; omega
/-- it comes, unless a number is too great -/
theorem fm_comes {T : Nat → Nat → Int} {q : Int → mjZ → Prop} (hm : Z 464 3 = (m : Int)) (h60 : m < 60) (h1 : 1 ≤ n) (h6 : n ≤ 6) (hT : ∀ i k, i < n → k < n → Z 471 (6 * i + k) = T i k ∧ -2147483648 ≤ T i k ∧ T i k < 2147483648) (hq : tGr n T = none → ∀ x, tKind n T x → q (m : Int) (cmM m n x Z)) (hg : tGr n T ≠ none → q (-16) (fdM 6 Z)) : mjW1 (d + 2) 191 [yR 11 464, yI (n : Int)] Z q := by
  refine mje_191 (d := d + 1) ?_
  refine lp_find (n := n) (P := fun i => sr (fun k => if bgA (T i k) ≤ 100 then none else some ()) n 0) (L := fun i => mjL_191_2 (d + 1) n i Z q) (E := fun _ => q (-16) (fdM 6 Z)) (fun i hi hL hE => ?_) (fun h => ?_) (fun r h => hg (by unfold tGr; rw [h]; exact fun g => by cases g))
  · refine mjl_191_2 ⟨by omega, by omega, fun h => by omega, fun _ => ?_⟩
    refine lp_find (n := n) (P := fun k => if bgA (T i k) ≤ 100 then none else some ()) (L := fun k => mjL_191_9 (d + 1) n i k Z q) (E := fun _ => q (-16) (fdM 6 Z)) (fun k hk hL2 hE2 => ?_) (fun h => ?_) (fun r h => hE r h)
    · obtain ⟨hv, hv1, hv2⟩ := hT i k hi hk
      have ha := bgA_or (T i k)
      refine mjl_191_9 ⟨by omega, by omega, fun h => by omega, fun _ => ⟨by omega, by omega, ?_⟩⟩
      rw [show ((6 * (i : Int)) + (k : Int)).toNat = 6 * i + k by omega, hv]
      refine fm_in (d := d) ⟨hv1, hv2⟩ (by omega) (by omega) ?_
      by_cases h : -100 ≤ T i k ∧ T i k ≤ 100
      · rw [if_pos h]
        exact ⟨by omega, fun _ => hL2 (if_pos (by omega)), fun g => by omega⟩
      · rw [if_neg h]
        exact ⟨by omega, fun g => absurd rfl g, fun _ => fm_finds (d := d) (f := 6) (by omega) (hE2 () (if_neg (by omega)))⟩
    · exact mjl_191_9 ⟨by omega, by omega, fun _ => hL h, fun h => by omega⟩
  · exact mjl_191_2 ⟨by omega, by omega, fun _ => fm_kindOf (d := d) h1 h6 hT fun x hx => fm_come (d := d) hm h60 (hq (by unfold tGr; exact h) x hx), fun h => by omega⟩
end MK
