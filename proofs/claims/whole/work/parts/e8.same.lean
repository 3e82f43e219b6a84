/-! Cases: same. -/
theorem mjW1_nz {d mid : Nat} {as : List mjY} {Z Z' : mjZ} {q : Int → mjZ → Prop} (h : mjMZ Z' = mjMZ Z) (g : mjW1 d mid as Z' q) : mjW1 d mid as Z q := fun ok => by
  have := g ok
  rw [h] at this
  exact this
/-- a row of longs, told by what the longs are -/
theorem mjMZ_long {Z : mjZ} {c n : Nat} (hc : mjOk (20000 + n) c) : mjMZ (mjRow Z c fun k => (Int64.ofInt (Z c k)).toInt) = mjMZ Z := by
  refine mjA_ext fun a _ => ?_
  by_cases h : a = c
  · subst h
    obtain ⟨xs, h1, -, -⟩ := mjTg_J hc (by omega)
    rw [h1, mjRow_at]
    show (Sum.inr (Sum.inr (Sum.inl (mjA xs.length fun i => Int64.ofInt (Int64.ofInt (Z a i)).toInt))) : mjC) = Sum.inr (Sum.inr (Sum.inl (mjA xs.length fun i => Int64.ofInt (Z a i))))
    simp only [Int64.ofInt_toInt]
  · rw [mjRow_ne h]
theorem i64r (x : Int64) : -9223372036854775808 ≤ x.toInt ∧ x.toInt < 9223372036854775808 := ⟨Int64.le_toInt x, Int64.toInt_lt x⟩
/-- the invariant speaks of some cells alone -/
theorem INV_own {Z Z' : mjZ} (hI : INV Z) (e : ∀ c, c < 254 ∨ (463 < c ∧ c < 477) → Z' c = Z c) (hA : ivA Z') : INV Z' := by
  obtain ⟨i1, i2, i3, i4, i5, i6⟩ := hI
  exact ⟨i1.fr (fun c g1 g2 => e c (by omega)) (e _ (by omega)) (e _ (by omega)) (e _ (by omega)), i2.fr (fun c g1 g2 => e c (by omega)) (by rw [e _ (by omega)]) (by rw [e _ (by omega)]) (e _ (by omega)) (e _ (by omega)) (e _ (by omega)), i3.fr (fun c g1 g2 => e c (by omega)) (by rw [e _ (by omega)]) (by rw [e _ (by omega)]) (fun k _ => by rw [e _ (by omega)]) (fun k _ => by rw [e _ (by omega)]) (fun k _ => by rw [e _ (by omega)]), i4.fr (by rw [e _ (by omega)]) (by rw [e _ (by omega)]) (by rw [e _ (by omega)]) (by rw [e _ (by omega)]) (by rw [e _ (by omega)]) (by rw [e _ (by omega)]) (e _ (by omega)) (e _ (by omega)), i5.fr (by rw [e _ (by omega)]) (by rw [e _ (by omega)]) (e _ (by omega)) (e _ (by omega)), hA⟩
theorem ivA.own {Z Z' : mjZ} (h : ivA Z) (e : ∀ c, c = 254 ∨ c = 263 ∨ c = 315 ∨ c = 343 ∨ c = 354 ∨ c = 460 ∨ c = 481 → Z' c = Z c) : ivA Z' := h.fr (fun k _ _ => by rw [e _ (by omega)]) (fun k _ => by rw [e _ (by omega)]) (fun k _ => by rw [e _ (by omega)]) (e _ (by omega)) (e _ (by omega)) (e _ (by omega)) (e _ (by omega))
theorem leP_bd {n j : Nat} {T : Nat → Nat → Int} (h6 : n ≤ 6) (hT : ∀ i k, i < n → k < n → -100 ≤ T i k ∧ T i k ≤ 100) (hj : j ≤ n) : -279936000000000000 ≤ leP n T j ∧ leP n T j ≤ 279936000000000000 := by
  by_cases hjn : j = n
  · have e : leP n T j = 1 := if_pos hjn
    rw [e]; omega
  · have c := le_c (n := n) (T := T) (r := n - 1 - j) h6 hT (by omega)
    have e : leP n T j = leC n T (leB n T (n - 1 - j)) (n - 1 - j) := if_neg hjn
    rw [← e] at c
    unfold bgA at c
    split at c <;> omega
section PLY
variable {d n c e : Nat} {Z : mjZ}
theorem pl_wr {j : Nat} {y : Int} {q : mjZ → Prop} (hj : j < 7) (hq : q (mjUp Z (c + 1) j y)) : mjW0 (d + 1) 76 [yR 3 c, yI (j : Int), yJ y] Z q := by
  refine mje_76 ⟨by omega, fun g => by omega, fun _ => ⟨by decide, fun g => ?_, fun _ => ⟨by omega, by omega, hq⟩⟩⟩
  have : ((20007 - 20000 : Nat) : Int) = 7 := by decide
  omega
theorem pl_nr {j : Nat} {q : Int → mjZ → Prop} (hj : j < 7) (hq : q (Z (c + 1) j) Z) : mjW2 (d + 1) 82 [yR 3 c, yI (j : Int)] Z q := by
  refine mje_82 ⟨by omega, fun g => by omega, fun _ => ⟨by decide, fun g => ?_, fun _ => ⟨by omega, by omega, hq⟩⟩⟩
  have : ((20007 - 20000 : Nat) : Int) = 7 := by decide
  omega
theorem pl_begin {q : mjZ → Prop} (h6 : n ≤ 6) (hq : q (mjUp Z c 0 (n : Int))) : mjW0 (d + 2) 75 [yR 3 c, yI (n : Int)] Z q := by
  refine mje_75 ⟨by omega, by split <;> omega, ?_⟩
  rw [show (if 0 < (if 6 < (n : Int) then 6 else (n : Int)) then (if 6 < (n : Int) then 6 else (n : Int)) else 0) = (n : Int) by rw [show (if 6 < (n : Int) then 6 else (n : Int)) = (n : Int) from if_neg (by omega)]; split <;> omega]
  exact hq
theorem pl_copy {q : mjZ → Prop} (h0 : Z e 0 = (n : Int)) (h6 : n ≤ 6) (hce : c ≠ e ∧ c + 1 ≠ e ∧ c ≠ e + 1) (hq : q (mjRow (mjUp Z c 0 (n : Int)) (c + 1) fun j => if j < n + 1 then Z (e + 1) j else Z (c + 1) j)) : mjW0 (d + 3) 111 [yR 3 c, yR 3 e] Z q := by
  refine mje_111 (d := d + 2) ?_
  rw [h0]
  refine pl_begin (d := d) h6 ?_
  have k0 : ∀ g : Nat → Int, mjRow (mjUp Z c 0 (n : Int)) (c + 1) g c 0 = (n : Int) := fun g => by rw [mjRow_ne (by omega), mjUp_at]
  have k1 : ∀ g : Nat → Int, mjRow (mjUp Z c 0 (n : Int)) (c + 1) g (e + 1) = Z (e + 1) := fun g => by rw [mjRow_ne (by omega), mjUp_nc (by omega)]
  refine lp_inv (n := n + 1) (a := mjUp Z c 0 (n : Int)) (L := fun i Zr => mjL_111_10 (d + 2) c e i Zr q) (Y := fun i Zr => Zr = mjRow (mjUp Z c 0 (n : Int)) (c + 1) fun j => if j < i then Z (e + 1) j else Z (c + 1) j) (fun i Zr hi hy hL => ?_) (fun Zr hy => ?_) ?_
  · subst hy
    refine mjl_111_10 ?_
    rw [k0]
    refine ⟨by omega, by omega, fun g => by omega, fun _ => pl_nr (d := d + 1) (by omega) (pl_wr (d := d + 1) (by omega) (hL _ ?_))⟩
    rw [k1, mjRow_up]
    congr 1
    funext j
    show (if j = i then Z (e + 1) i else if j < i then Z (e + 1) j else Z (c + 1) j) = if j < i + 1 then Z (e + 1) j else Z (c + 1) j
    by_cases h : j = i
    · rw [if_pos h, if_pos (by omega), h]
    · by_cases h2 : j < i
      · rw [if_neg h, if_pos h2, if_pos (by omega)]
      · rw [if_neg h, if_neg h2, if_neg (by omega)]
  · subst hy
    refine mjl_111_10 ?_
    rw [k0]
    exact ⟨by omega, by omega, fun _ => hq, fun g => by omega⟩
  · funext a
    by_cases h : a = c + 1
    · subst h
      rw [mjRow_at, mjUp_nc (by omega)]
      funext j
      rw [if_neg (by omega)]
    · rw [mjRow_ne h]
theorem pl_isAs {m : Nat} {q : Int → mjZ → Prop} (h0 : Z c 0 = (n : Int)) (h1 : Z e 0 = (m : Int)) (h6 : n ≤ 6) (m6 : m ≤ 6) (b0 : ∀ j, j ≤ n → -9223372036854775808 ≤ Z (c + 1) j ∧ Z (c + 1) j < 9223372036854775808) (b1 : ∀ j, j ≤ n → -9223372036854775808 ≤ Z (e + 1) j ∧ Z (e + 1) j < 9223372036854775808) (q0 : ¬ (n = m ∧ ∀ j, j ≤ n → Z (c + 1) j = Z (e + 1) j) → q 0 Z) (q1 : (n = m ∧ ∀ j, j ≤ n → Z (c + 1) j = Z (e + 1) j) → q 1 Z) : mjW1 (d + 3) 125 [yR 3 c, yR 3 e] Z q := by
  refine mje_125 (d := d + 2) ?_
  have : ∀ r i, i + r = n + 1 → (∀ j, j < i → Z (c + 1) j = Z (e + 1) j) → mjL_125_2 (d + 2) c e i Z q := by
    intro r
    induction r with
    | zero =>
      intro i hi hA
      refine mjl_125_2 ?_
      rw [h0, h1]
      refine ⟨by omega, by omega, fun _ => ⟨by omega, fun g => q0 fun k => by omega, fun g => q1 ⟨by omega, fun j hj => hA j (by omega)⟩⟩, fun g => by omega⟩
    | succ r ih =>
      intro i hi hA
      refine mjl_125_2 ?_
      rw [h0]
      refine ⟨by omega, by omega, fun g => by omega, fun _ => pl_nr (d := d + 1) (by omega) (pl_nr (d := d + 1) (by omega) ⟨b0 i (by omega), b1 i (by omega), fun g => ih (i + 1) (by omega) fun j hj => ?_, fun g => q0 fun k => g (k.2 i (by omega))⟩)⟩
      rcases Nat.lt_or_ge j i with l | l
      · exact hA j l
      · rw [show j = i by omega]; exact g
  exact this (n + 1) 0 (by omega) fun j hj => by omega
end PLY
/-- the reference holds polyBefore against poly -/
theorem fm_sameL {d : Nat} {x1 x2 : Int} {Z : mjZ} {q : Int → mjZ → Prop} (b0 : ∀ j, j < 7 → -9223372036854775808 ≤ Z 480 j ∧ Z 480 j < 9223372036854775808) (b1 : ∀ j, j < 7 → -9223372036854775808 ≤ Z 490 j ∧ Z 490 j < 9223372036854775808) : ∀ (r i f : Nat), i + r = 7 → f < 2 → (¬ (f = 1 ∧ ∀ j, i ≤ j → j < 7 → Z 480 j = Z 490 j) → q 0 Z) → ((f = 1 ∧ ∀ j, i ≤ j → j < 7 → Z 480 j = Z 490 j) → q 1 Z) → mjL_228_79 d x1 x2 f i Z q
  | 0, i, f, hi, hf, q0, q1 => mjl_228_79 ⟨by omega, fun _ => ⟨by omega, fun g => q0 fun k => by omega, fun g => q1 ⟨by omega, fun j h1 h2 => by omega⟩⟩, fun g => by omega⟩
  | r + 1, i, f, hi, hf, q0, q1 => by
    refine mjl_228_79 ⟨by omega, fun g => by omega, fun _ => ⟨by omega, fun g => ?_, fun g => ⟨by omega, by omega, b0 i (by omega), b1 i (by omega), fun k => ?_, fun k => ?_⟩⟩⟩
    · exact fm_sameL b0 b1 r (i + 1) 0 (by omega) (by omega) (fun _ => q0 fun k => by omega) fun k => absurd k.1 (by decide)
    · exact fm_sameL b0 b1 r (i + 1) 0 (by omega) (by omega) (fun _ => q0 fun l => k (l.2 i (Nat.le_refl _) (by omega))) fun k => absurd k.1 (by decide)
    · have k : Z 480 i = Z 490 i := Decidable.not_not.mp k
      have hf1 : f = 1 := by omega
      have ex : ∀ (P : Prop), (∀ j, i + 1 ≤ j → j < 7 → Z 480 j = Z 490 j) → ((∀ j, i ≤ j → j < 7 → Z 480 j = Z 490 j) → P) → P := fun P h g => g fun j h1 h2 => by
        rcases Nat.eq_or_lt_of_le h1 with l | l
        · rw [← l]; exact k
        · exact h j l h2
      exact fm_sameL b0 b1 r (i + 1) 1 (by omega) (by omega) (fun l => q0 fun m => l ⟨rfl, fun j h1 h2 => m.2 j (by omega) h2⟩) fun l => ex _ l.2 fun m => q1 ⟨hf1, m⟩
theorem iv_same_ok : iv_same INV := fun Z0 x1 x2 hI0 => by
  have hmz : mjMZ (mjRow Z0 262 fun k => (Int64.ofInt (Z0 262 k)).toInt) = mjMZ Z0 := mjMZ_long (n := 7) (by unfold mjOk; decide +kernel)
  refine mjW1_nz hmz ?_
  have hK : ∀ j, -9223372036854775808 ≤ (mjRow Z0 262 fun k => (Int64.ofInt (Z0 262 k)).toInt) 262 j ∧ (mjRow Z0 262 fun k => (Int64.ofInt (Z0 262 k)).toInt) 262 j < 9223372036854775808 := fun j => by
    rw [mjRow_at]; exact i64r _
  have hI : INV (mjRow Z0 262 fun k => (Int64.ofInt (Z0 262 k)).toInt) := INV_own hI0 (fun c hc => mjRow_ne (by omega)) (hI0.2.2.2.2.2.own fun c hc => mjRow_ne (by omega))
  revert hI hK
  generalize (mjRow Z0 262 fun k => (Int64.ofInt (Z0 262 k)).toInt) = Z
  intro hK hI
  obtain ⟨m, a1, a2, a3, a4⟩ := id hI.2.1
  have hx1 := i32r x1
  have hx2 := i32r x2
  have bad : ¬ (0 ≤ x1.toInt ∧ x1.toInt < m) ∨ ¬ (0 ≤ x2.toInt ∧ x2.toInt < m) → mjW1 10 228 [yR 11 464, yI x1.toInt, yI x2.toInt] Z (fun z' Z2 => Int32.ofInt z' = Int32.ofInt (-101) ∧ INV Z2) := fun h => by
    refine mje_228 (d := 9) (fm_isTable (d := 7) a3 a1 hx1 ?_)
    by_cases h1 : 0 ≤ x1.toInt ∧ x1.toInt < m
    · rw [if_pos h1]
      refine ⟨by omega, fun g => by omega, fun _ => fm_isTable (d := 7) a3 a1 hx2 ?_⟩
      rw [if_neg (by omega)]
      exact ⟨by omega, fun g => absurd rfl g, fun _ => ⟨rfl, hI⟩⟩
    · rw [if_neg h1]
      exact ⟨by omega, fun _ => ⟨rfl, hI⟩, fun g => absurd rfl g⟩
  refine mje_122 (d := 9) (fc_tableAt (d := 8) a2 a1 hx1 (fun h => ?_) fun t ht htm => ?_)
  · refine fc_tableAt (d := 8) a2 a1 hx2 (fun _ => bad (Or.inl h)) fun u hu hum => bad (Or.inl h)
  refine fc_tableAt (d := 8) a2 a1 hx2 (fun h => bad (Or.inr h)) fun u hu hum => ?_
  obtain ⟨n, b1, b2, b3, b4, b5, b6, b7⟩ := a4 t htm
  obtain ⟨k, c1, c2, c3, c4, c5, c6, c7⟩ := a4 u hum
  have hn6 := b1.2.2
  have hn1 := b1.2.1
  have hk6 := c1.2.2
  have hk1 := c1.2.1
  have hp : Z 263 1 = 264 ∧ Z 263 2 = 265 ∨ Z 263 1 = 265 ∧ Z 263 2 = 264 := hI.2.2.2.2.2.2.1
  have hT : ∀ i k, i < n → k < n → -100 ≤ Z 470 (36 * t + 6 * i + k) ∧ Z 470 (36 * t + 6 * i + k) ≤ 100 := fun i k hi hk => by
    rw [← (b4 i k hi hk).1]
    exact (b4 i k hi hk).2
  have hU : ∀ i j, i < k → j < k → -100 ≤ Z 470 (36 * u + 6 * i + j) ∧ Z 470 (36 * u + 6 * i + j) ≤ 100 := fun i j hi hj => by
    rw [← (c4 i j hi hj).1]
    exact (c4 i j hi hj).2
  refine tl_read (d := 5) (T := fun i k => Z 470 (36 * t + 6 * i + k)) hn1 hn6 hp b1 (by omega) (fun i k hi hk => ⟨(b4 i k hi hk).1, hT i k hi hk⟩) fun Z1 p y1 y2 => ?_
  have hI1 := INV_rd hI y1
  have f1 : ∀ c, c < 255 ∨ (256 < c ∧ c < 263) ∨ 265 < c → Z1 c = Z c := fun c hc => by rw [y1.1 c (by omega) (by omega) (by omega), mjRow_ne (by omega), mjUp_nc (by omega)]
  have f2 : Z1 256 = p := by rw [y1.1 256 (by decide) (by decide) (by decide), mjRow_at]
  have f3 : Z1 255 0 = (n : Int) := by rw [y1.1 255 (by decide) (by decide) (by decide), mjRow_ne (by decide), mjUp_at]
  refine mje_123 (d := 8) (pl_copy (d := 5) (c := 261) (e := 255) f3 hn6 (by decide) ?_)
  -- the second reading
  have hI2 : INV (mjRow (mjUp Z1 261 0 (n : Int)) (261 + 1) fun j => if j < n + 1 then Z1 (255 + 1) j else Z1 (261 + 1) j) := INV_own hI1 (fun c hc => by rw [mjRow_ne (by omega), mjUp_nc (by omega)]) (hI1.2.2.2.2.2.own fun c hc => by rw [mjRow_ne (by omega), mjUp_nc (by omega)])
  have g1 : ∀ c, c < 255 ∨ (256 < c ∧ c < 261) ∨ c = 263 ∨ 265 < c → (mjRow (mjUp Z1 261 0 (n : Int)) (261 + 1) fun j => if j < n + 1 then Z1 (255 + 1) j else Z1 (261 + 1) j) c = Z1 c := fun c hc => by rw [mjRow_ne (by omega), mjUp_nc (by omega)]
  have g2 : (mjRow (mjUp Z1 261 0 (n : Int)) (261 + 1) fun j => if j < n + 1 then Z1 (255 + 1) j else Z1 (261 + 1) j) 262 = fun j => if j < n + 1 then Z1 (255 + 1) j else Z1 (261 + 1) j := mjRow_at
  have g3 : (mjRow (mjUp Z1 261 0 (n : Int)) (261 + 1) fun j => if j < n + 1 then Z1 (255 + 1) j else Z1 (261 + 1) j) 261 0 = (n : Int) := by rw [mjRow_ne (by decide), mjUp_at]
  revert hI2 g1 g2 g3
  generalize (mjRow (mjUp Z1 261 0 (n : Int)) (261 + 1) fun j => if j < n + 1 then Z1 (255 + 1) j else Z1 (261 + 1) j) = Z2
  intro hI2 g1 g2 g3
  have hp2 : Z2 263 1 = 264 ∧ Z2 263 2 = 265 ∨ Z2 263 1 = 265 ∧ Z2 263 2 = 264 := hI2.2.2.2.2.2.2.1
  have z2 : ∀ c, c < 155 → Z2 c = Z c := fun c hc => by rw [g1 c (by omega), f1 c (by omega)]
  have eU : ∀ i j, tE Z2 (35 + 2 * u) i j = tE Z (35 + 2 * u) i j := fun i j => by
    show Z2 (35 + 2 * u + 1) _ = Z (35 + 2 * u + 1) _
    rw [z2 _ (by omega)]
  refine tl_read (d := 5) (T := fun i j => Z 470 (36 * u + 6 * i + j)) hk1 hk6 hp2 (by unfold tN at c1 ⊢; rw [z2 _ (by omega)]; exact c1) (by omega) (fun i j hi hj => ⟨by rw [eU]; exact (c4 i j hi hj).1, hU i j hi hj⟩) fun Z3 p3 y3 y4 => ?_
  have hI3 := INV_rd hI2 y3
  have h1 : ∀ c, c < 255 ∨ (256 < c ∧ c < 263) ∨ 265 < c → Z3 c = Z2 c := fun c hc => by rw [y3.1 c (by omega) (by omega) (by omega), mjRow_ne (by omega), mjUp_nc (by omega)]
  have h2 : Z3 256 = p3 := by rw [y3.1 256 (by decide) (by decide) (by decide), mjRow_at]
  have h3 : Z3 255 0 = (k : Int) := by rw [y3.1 255 (by decide) (by decide) (by decide), mjRow_ne (by decide), mjUp_at]
  have h4 : Z3 262 = fun j => if j < n + 1 then p j else Z 262 j := by
    rw [h1 262 (by omega), g2]
    show (fun j => if j < n + 1 then Z1 256 j else Z1 262 j) = _
    rw [f2, f1 262 (by omega)]
  have h5 : Z3 261 0 = (n : Int) := by rw [h1 261 (by omega)]; exact g3
  -- what the answer is
  have ref : ∀ v : Int, (v = 1 ∧ (k = n ∧ ∀ j, j ≤ k → p3 j = p j) ∨ v = 0 ∧ ¬ (k = n ∧ ∀ j, j ≤ k → p3 j = p j)) → mjW1 10 228 [yR 11 464, yI x1.toInt, yI x2.toInt] Z3 (fun z' Z2 => Int32.ofInt z' = Int32.ofInt v ∧ INV Z2) := fun v hv => by
    have r1 : ∀ c, 265 < c → Z3 c = Z c := fun c hc => by rw [h1 c (by omega), g1 c (by omega), f1 c (by omega)]
    refine mje_228 (d := 9) (fm_isTable (d := 7) (m := m) (by rw [r1 464 (by omega)]; exact a3) a1 hx1 ?_)
    rw [if_pos (by omega)]
    refine ⟨by omega, fun g => by omega, fun _ => fm_isTable (d := 7) (m := m) (by rw [r1 464 (by omega)]; exact a3) a1 hx2 ?_⟩
    rw [if_pos (by omega)]
    refine ⟨by omega, fun _ => ?_, fun g => absurd g (by decide)⟩
    rw [ht, hu]
    refine fm_polyOf (d := 7) (T := fun i k => Z 470 (36 * t + 6 * i + k)) (by omega) hn1 hn6 (by rw [r1 469 (by omega)]; exact b2) (fun i k hi hk => ⟨by rw [r1 470 (by omega)], hT i k hi hk⟩) fun gg hh pp hpp => ?_
    have w1 : ∀ c, c ≠ 478 → c ≠ 479 → c ≠ 480 → wS Z3 gg hh pp c = Z3 c := fun c e1 e2 e3 => wS_ne e1 e2 e3
    have w2 : wS Z3 gg hh pp 480 = pp := wS_ap
    revert w1 w2
    generalize wS Z3 gg hh pp = Z4
    intro w1 w2
    refine lp_inv (n := 7) (a := Z4) (L := fun i Zr => mjL_228_26 9 (t : Int) (u : Int) i Zr _) (Y := fun i Zr => (∀ c, c ≠ 490 → Zr c = Z4 c) ∧ ∀ j, j < i → Zr 490 j = pp j) (fun i Zr hi hy hL => ?_) (fun Zr hy => ?_) ⟨fun c _ => rfl, fun j hj => by omega⟩
    · refine mjl_228_26 ⟨by omega, fun g => by omega, fun _ => ⟨by omega, by omega, hL _ ⟨fun c hc => ?_, fun j hj => ?_⟩⟩⟩
      · rw [mjUp_nc hc]; exact hy.1 c hc
      · rcases Nat.lt_or_ge j i with l | l
        · show (if 490 = 490 ∧ j = i then _ else Zr 490 j) = _
          rw [if_neg (by omega)]; exact hy.2 j l
        · rw [show j = i by omega, mjUp_at, hy.1 480 (by decide), w2]
    · obtain ⟨v1, v2⟩ := hy
      refine mjl_228_26 ⟨by omega, fun _ => ?_, fun g => by omega⟩
      have r2 : ∀ c, 265 < c → c ≠ 478 → c ≠ 479 → c ≠ 480 → c ≠ 490 → Zr c = Z c := fun c e0 e1 e2 e3 e4 => by rw [v1 c e4, w1 c e1 e2 e3, r1 c e0]
      refine fm_polyOf (d := 7) (T := fun i j => Z 470 (36 * u + 6 * i + j)) (by omega) hk1 hk6 (by rw [r2 469 (by decide) (by decide) (by decide) (by decide) (by decide)]; exact c2) (fun i j hi hj => ⟨by rw [r2 470 (by decide) (by decide) (by decide) (by decide) (by decide)], hU i j hi hj⟩) fun g5 h5 pq hpq => ?_
      have w3 : ∀ c, c ≠ 478 → c ≠ 479 → c ≠ 480 → wS Zr g5 h5 pq c = Zr c := fun c e1 e2 e3 => wS_ne e1 e2 e3
      have w4 : wS Zr g5 h5 pq 480 = pq := wS_ap
      revert w3 w4
      generalize wS Zr g5 h5 pq = Z5
      intro w3 w4
      have s1 : Z5 469 t = (n : Int) := by rw [w3 469 (by decide) (by decide) (by decide), r2 469 (by decide) (by decide) (by decide) (by decide) (by decide)]; exact b2
      have s2 : Z5 469 u = (k : Int) := by rw [w3 469 (by decide) (by decide) (by decide), r2 469 (by decide) (by decide) (by decide) (by decide) (by decide)]; exact c2
      have s3 : ∀ j, j < 7 → Z5 490 j = pp j := fun j hj => by rw [w3 490 (by decide) (by decide) (by decide)]; exact v2 j hj
      have hI5 : INV Z5 := by
        refine INV_own hI3 (fun c hc => by rw [w3 c (by omega) (by omega) (by omega), v1 c (by omega), w1 c (by omega) (by omega) (by omega)]) (hI3.2.2.2.2.2.own fun c hc => by rw [w3 c (by omega) (by omega) (by omega), v1 c (by omega), w1 c (by omega) (by omega) (by omega)])
      have q1 : ∀ j, j ≤ n → pp j = p j := fun j hj => by rw [hpp j (by omega), if_pos hj, y2 j hj]
      have q2 : ∀ j, j ≤ k → pq j = p3 j := fun j hj => by rw [hpq j (by omega), if_pos hj, y4 j hj]
      have q3 : ∀ j, j < 7 → ¬ j ≤ n → pp j = 0 := fun j h7 hj => by rw [hpp j h7, if_neg hj]
      have q4 : ∀ j, j < 7 → ¬ j ≤ k → pq j = 0 := fun j h7 hj => by rw [hpq j h7, if_neg hj]
      have bp : ∀ j, j < 7 → -9223372036854775808 ≤ pp j ∧ pp j < 9223372036854775808 := fun j hj => by
        by_cases l : j ≤ n
        · have := leP_bd hn6 hT l
          rw [← y2 j l, ← q1 j l] at this
          omega
        · rw [q3 j hj l]; omega
      have bq : ∀ j, j < 7 → -9223372036854775808 ≤ pq j ∧ pq j < 9223372036854775808 := fun j hj => by
        by_cases l : j ≤ k
        · have := leP_bd hk6 hU l
          rw [← y4 j l, ← q2 j l] at this
          omega
        · rw [q4 j hj l]; omega
      have fin : ∀ f : Nat, f < 2 → (f = 1 ↔ n = k) → mjL_228_79 9 (t : Int) (u : Int) f 0 Z5 (fun z' Z2 => Int32.ofInt z' = Int32.ofInt v ∧ INV Z2) := fun f hf hfe => by
        have eqv : (f = 1 ∧ ∀ j, 0 ≤ j → j < 7 → Z5 480 j = Z5 490 j) ↔ (k = n ∧ ∀ j, j ≤ k → p3 j = p j) := by
          constructor
          · rintro ⟨l1, l2⟩
            have l3 := hfe.mp l1
            subst l3
            exact ⟨rfl, fun j hj => by rw [← q2 j hj, ← q1 j hj, ← s3 j (by omega), ← w4]; exact l2 j (by omega) (by omega)⟩
          · rintro ⟨l1, l2⟩
            subst l1
            refine ⟨hfe.mpr rfl, fun j _ hj => ?_⟩
            rw [w4, s3 j hj]
            by_cases l : j ≤ k
            · rw [q1 j l, q2 j l]; exact l2 j l
            · rw [q3 j hj l, q4 j hj l]
        refine fm_sameL (fun j hj => by rw [w4]; exact bq j hj) (fun j hj => by rw [s3 j hj]; exact bp j hj) 7 0 f rfl hf (fun g => ⟨?_, hI5⟩) (fun g => ⟨?_, hI5⟩)
        · rcases hv with ⟨l1, l2⟩ | ⟨l1, l2⟩
          · exact absurd (eqv.mpr l2) g
          · rw [l1]
        · rcases hv with ⟨l1, l2⟩ | ⟨l1, l2⟩
          · rw [l1]
          · exact absurd (eqv.mp g) l2
      rw [show ((t : Int)).toNat = t from rfl, show ((u : Int)).toNat = u from rfl, s1, s2]
      refine ⟨by omega, by omega, by omega, by omega, by omega, by omega, fun g => fin 0 (by omega) ⟨fun g2 => by omega, fun g2 => by omega⟩, fun g => fin 1 (by omega) ⟨fun _ => by omega, fun _ => rfl⟩⟩
  refine mje_124 (d := 8) (pl_isAs (d := 5) (c := 255) (e := 261) h3 h5 hk6 hn6 (fun j hj => ?_) (fun j hj => ?_) (fun g => ?_) (fun g => ?_))
  · show -9223372036854775808 ≤ Z3 256 j ∧ Z3 256 j < 9223372036854775808
    have := leP_bd hk6 hU hj
    rw [← y4 j hj] at this
    rw [h2]
    omega
  · show -9223372036854775808 ≤ Z3 262 j ∧ Z3 262 j < 9223372036854775808
    rw [h4]
    show -9223372036854775808 ≤ (if j < n + 1 then p j else Z 262 j) ∧ (if j < n + 1 then p j else Z 262 j) < 9223372036854775808
    by_cases l : j < n + 1
    · rw [if_pos l]
      have := leP_bd hn6 hT (show j ≤ n by omega)
      rw [← y2 j (by omega)] at this
      omega
    · rw [if_neg l]; exact hK j
  · refine ⟨Or.inl rfl, by omega, fun _ => ref 0 (Or.inr ⟨rfl, fun l => g ⟨l.1, fun j hj => ?_⟩⟩), fun g => absurd rfl g⟩
    show Z3 256 j = Z3 262 j
    rw [h2, h4]
    show p3 j = if j < n + 1 then p j else Z 262 j
    rw [if_pos (by omega)]
    exact l.2 j hj
  · refine ⟨Or.inr rfl, by omega, fun h => absurd h (by decide), fun _ => ref 1 (Or.inl ⟨rfl, g.1, fun j hj => ?_⟩)⟩
    have := g.2 j hj
    have e : Z3 256 j = Z3 262 j := this
    rw [h2, h4] at e
    have e2 : p3 j = if j < n + 1 then p j else Z 262 j := e
    rw [if_pos (by omega)] at e2
    exact e2
