/-! The other side: roots below, at and above a part. -/
def rpZ : Nat → Int
  | 0 => 2 ^ 58
  | t + 1 => 2 ^ 30 * rpZ t + rpZ t + 2 ^ 58 * (2 ^ 30) ^ (t + 1)
theorem rpZ_pos : ∀ t, 0 ≤ rpZ t
  | 0 => by
    show (0 : Int) ≤ 2 ^ 58
    decide
  | t + 1 => by
    have h := rpZ_pos t
    have h1 := Int.mul_nonneg (show (0 : Int) ≤ 2 ^ 30 by decide) h
    have h2 : (0 : Int) ≤ 2 ^ 58 * (2 ^ 30) ^ (t + 1) := Int.mul_nonneg (by decide) (Int.pow_nonneg (by decide))
    show 0 ≤ 2 ^ 30 * rpZ t + rpZ t + 2 ^ 58 * (2 ^ 30) ^ (t + 1)
    omega
theorem rpZ_bd : ∀ t, t ≤ 6 → rpZ t < bgP 9 ∧ (2 ^ 30 : Int) ^ t < bgP 7 ∧ 2 ^ 58 * (2 ^ 30 : Int) ^ t < bgP 9 := by decide +kernel
theorem bgA_m {x y X Y : Int} (hx : bgA x ≤ X) (hy : bgA y ≤ Y) : bgA (x * y) ≤ X * Y := by
  rw [bgA_nat] at hx hy ⊢
  rw [Int.natAbs_mul, Int.natCast_mul]
  exact Int.mul_le_mul hx hy (by omega) (by omega)
theorem bgA_a {x y X Y : Int} (hx : bgA x ≤ X) (hy : bgA y ≤ Y) : bgA (x + y) ≤ X + Y := by
  have := bgA_le (x := x) (y := y)
  omega
theorem bgA_pw {b : Int} (hb : bgA b ≤ 2 ^ 30) : ∀ t : Nat, bgA (b ^ t) ≤ (2 ^ 30) ^ t
  | 0 => by
    rw [Int.pow_zero, Int.pow_zero]
    decide
  | t + 1 => by
    rw [Int.pow_succ, Int.pow_succ]
    exact bgA_m (bgA_pw hb t) hb
theorem rp_bd {u : Nat → Int} {d : Nat} {a b : Int} (hu : ∀ k, bgA (u k) ≤ 2 ^ 58) (ha : bgA a ≤ 2 ^ 30) (hb : bgA b ≤ 2 ^ 30) : ∀ t j, bgA (rp u d a b t j) ≤ rpZ t
  | 0, j => by
    show bgA (if j = 0 then u d else 0) ≤ 2 ^ 58
    by_cases g : j = 0
    · rw [if_pos g]; exact hu d
    · rw [if_neg g]; decide
  | t + 1, j => by
    have ih := rp_bd (d := d) hu ha hb t
    have h1 := bgA_m ha (ih j)
    have h2 : bgA (su (rp u d a b t) j) ≤ rpZ t := by
      cases j with
      | zero => exact rpZ_pos t
      | succ j => exact ih j
    have h3 : bgA (if j = 0 then u (d - 1 - t) * b ^ (t + 1) else 0) ≤ 2 ^ 58 * (2 ^ 30) ^ (t + 1) := by
      by_cases g : j = 0
      · rw [if_pos g]
        exact bgA_m (hu _) (bgA_pw hb (t + 1))
      · rw [if_neg g]
        exact Int.mul_nonneg (by decide) (Int.pow_nonneg (by decide))
    exact bgA_a (bgA_a h1 h2) h3
theorem isg_s {Z : mjZ} {r : Nat} {v : Int} (h : lbIs Z r v) : Z 476 r = isg v := by
  unfold isg
  rcases h.s with ⟨h1, h2⟩ | ⟨h1, h2⟩ | ⟨h1, h2⟩
  · rw [h2, if_neg (by omega), if_pos h1]
  · rw [h2, if_neg (by omega), if_neg (by omega)]
  · rw [h2, if_pos h1]
theorem isg_or (v : Int) : isg v = -1 ∨ isg v = 0 ∨ isg v = 1 := by
  unfold isg
  repeat' split
  all_goals omega
theorem sg1_p : ∀ i : Nat, (i % 2 = 0 → sg1 i = 1) ∧ (i % 2 ≠ 0 → sg1 i = -1)
  | 0 => ⟨fun _ => rfl, fun h => absurd rfl h⟩
  | i + 1 => by
    obtain ⟨h1, h2⟩ := sg1_p i
    refine ⟨fun h => ?_, fun h => ?_⟩
    · show -(sg1 i) = 1
      rw [h2 (by omega)]
      omega
    · show -(sg1 i) = -1
      rw [h1 (by omega)]
section RO
variable {d m : Nat} {Z : mjZ} {u : Nat → Int} {a b w : Int}
def roS (k : Nat) : Prop := 84 ≤ k ∧ k < 105
/-- the signs are counted -/
theorem fm_rootsC {Z0 : mjZ} {N : Nat → Int} {j0 : Nat} {q : mjZ → Prop} (h6 : m ≤ 6) (hZ : stG roS Z0 Z) (hN : ∀ j, j < m + 1 → lbIs Z (94 + j) (N j)) (hj : j0 ≤ m) (hz : ∀ i, i < j0 → N i = 0) (hj0 : N j0 ≠ 0) (hq : ∀ Z', (∀ c, c ≠ 464 → Z' c = Z c) → (∀ k, k ≠ 34 → k ≠ 35 → k ≠ 36 → Z' 464 k = Z 464 k) → Z' 464 35 = (j0 : Int) → Z' 464 36 = (vs (fun i => isg (N i)) (m + 1)).2 → Z' 464 34 = (vs (fun i => sg1 i * isg (N i)) (m + 1)).2 → q Z') : mjL_218_224 d m w a b (mjUp Z 464 35 0) q := by
  have sgn : ∀ j, j < m + 1 → Z 476 (94 + j) = isg (N j) := fun j hj => isg_s (hN j hj)
  -- the counting
  have cnt : ∀ s i (x5 x6 : Int) (Zc : mjZ), i + s = m + 1 → (∀ c, c ≠ 464 → Zc c = Z c) → (∀ k, k ≠ 34 → k ≠ 35 → k ≠ 36 → Zc 464 k = Z 464 k) → Zc 464 35 = (j0 : Int) → vs (fun i => isg (N i)) i = (x5, Zc 464 36) → vs (fun i => sg1 i * isg (N i)) i = (x6, Zc 464 34) → (x5 = -1 ∨ x5 = 0 ∨ x5 = 1) → (x6 = -1 ∨ x6 = 0 ∨ x6 = 1) → mjL_218_271 d m w a b x5 x6 i Zc q := fun s => by
    induction s with
    | zero =>
      intro i x5 x6 Zc hi z1 z2 z3 v1 v2 _ _
      obtain rfl : i = m + 1 := by omega
      refine mjl_218_271 ⟨by omega, by omega, fun _ => hq Zc z1 z2 z3 ?_ ?_, fun g => by omega⟩
      · rw [v1]
      · rw [v2]
    | succ s ih =>
      intro i x5 x6 Zc hi z1 z2 z3 v1 v2 hx5 hx6
      refine mjl_218_271 ⟨by omega, by omega, fun g => by omega, fun _ => ⟨by omega, by omega, ?_⟩⟩
      rw [show (94 + (i : Int)).toNat = 94 + i by omega, z1 476 (by decide), sgn i (by omega)]
      have hs := isg_or (N i)
      generalize hS : isg (N i) = S at *
      have tm : Int.tmod (i : Int) 2 = ((i % 2 : Nat) : Int) := rfl
      rw [tm]
      refine ⟨by omega, fun g => ?_, fun g => ⟨by omega, ?_⟩⟩
      · refine ih (i + 1) x5 x6 Zc (by omega) z1 z2 z3 ?_ ?_ hx5 hx6
        · rw [vs_pass (by rw [hS]; exact g), v1]
        · rw [vs_pass (s := fun i => sg1 i * isg (N i)) (by rw [hS, g, Int.mul_zero]), v2]
      · have nxt : ∀ (x y v : Int), (x = 1 ∧ S = -x5 ∨ x = 0 ∧ S ≠ -x5) → v = sg1 i * S → (y = 1 ∧ v = -x6 ∨ y = 0 ∧ v ≠ -x6) → mjL_218_271 d m w a b S v (i + 1) (mjUp (mjUp Zc 464 36 (Zc 464 36 + x)) 464 34 ((mjUp Zc 464 36 (Zc 464 36 + x)) 464 34 + y)) q := fun x y v hx hv hy => by
          have e34 : mjUp Zc 464 36 (Zc 464 36 + x) 464 34 = Zc 464 34 := if_neg fun c => absurd c.2 (by decide)
          rw [e34]
          have f : ∀ k, k ≠ 34 → k ≠ 36 → mjUp (mjUp Zc 464 36 (Zc 464 36 + x)) 464 34 (Zc 464 34 + y) 464 k = Zc 464 k := fun k h1 h2 => (if_neg fun c => h1 c.2).trans (if_neg fun c => h2 c.2)
          refine ih (i + 1) S v _ (by omega) (fun c hc => by rw [mjUp_nc hc, mjUp_nc hc, z1 c hc]) (fun k h1 h2 h3 => by rw [f k h1 h3]; exact z2 k h1 h2 h3) (by rw [f 35 (by decide) (by decide)]; exact z3) ?_ ?_ (by omega) (by rcases sg1_or i with e | e <;> rw [hv, e] <;> omega)
          · rw [vs_take (by rw [hS]; exact g), v1, hS]
            have e : mjUp (mjUp Zc 464 36 (Zc 464 36 + x)) 464 34 (Zc 464 34 + y) 464 36 = Zc 464 36 + x := (if_neg fun c => absurd c.2 (by decide)).trans mjUp_at
            rw [e]
            dsimp only
            congr 2
            rcases hx with ⟨h1, h2⟩ | ⟨h1, h2⟩
            · rw [if_pos h2, h1]
            · rw [if_neg h2, h1]
          · have nz : sg1 i * isg (N i) ≠ 0 := by rcases sg1_or i with e | e <;> rw [hS, e] <;> omega
            rw [vs_take (s := fun i => sg1 i * isg (N i)) nz, v2, hS, mjUp_at, ← hv]
            dsimp only
            congr 2
            rcases hy with ⟨h1, h2⟩ | ⟨h1, h2⟩
            · rw [if_pos h2, h1]
            · rw [if_neg h2, h1]
        obtain ⟨p0, p1⟩ := sg1_p i
        refine ⟨fun po => ?_, fun po => ?_⟩
        · have hv : -S = sg1 i * S := by rw [p1 (by omega)]; omega
          exact ⟨by omega, fun a1 => ⟨by omega, fun b1 => nxt 0 0 _ (by omega) hv (by omega), fun b1 => ⟨by omega, fun c1 => nxt 0 0 _ (by omega) hv (by omega), fun c1 => nxt 0 1 _ (by omega) hv (by omega)⟩⟩, fun a1 => ⟨fun a2 => ⟨by omega, fun b1 => nxt 0 0 _ (by omega) hv (by omega), fun b1 => ⟨by omega, fun c1 => nxt 0 0 _ (by omega) hv (by omega), fun c1 => nxt 0 1 _ (by omega) hv (by omega)⟩⟩, fun a2 => ⟨by omega, fun b1 => nxt 1 0 _ (by omega) hv (by omega), fun b1 => ⟨by omega, fun c1 => nxt 1 0 _ (by omega) hv (by omega), fun c1 => nxt 1 1 _ (by omega) hv (by omega)⟩⟩⟩⟩
        · have hv : S = sg1 i * S := by rw [p0 (by omega)]; omega
          exact ⟨by omega, fun a1 => ⟨by omega, fun b1 => nxt 0 0 _ (by omega) hv (by omega), fun b1 => ⟨fun c1 => nxt 0 0 _ (by omega) hv (by omega), fun c1 => nxt 0 1 _ (by omega) hv (by omega)⟩⟩, fun a1 => ⟨fun a2 => ⟨by omega, fun b1 => nxt 0 0 _ (by omega) hv (by omega), fun b1 => ⟨fun c1 => nxt 0 0 _ (by omega) hv (by omega), fun c1 => nxt 0 1 _ (by omega) hv (by omega)⟩⟩, fun a2 => ⟨by omega, fun b1 => nxt 1 0 _ (by omega) hv (by omega), fun b1 => ⟨fun c1 => nxt 1 0 _ (by omega) hv (by omega), fun c1 => nxt 1 1 _ (by omega) hv (by omega)⟩⟩⟩⟩
  -- the zeros ahead
  have zer : ∀ s i : Nat, i + s = j0 → mjL_218_224 d m w a b (mjUp Z 464 35 (i : Int)) q := fun s => by
    induction s with
    | zero =>
      intro i hi
      obtain rfl : i = j0 := by omega
      have e35 : mjUp Z 464 35 (i : Int) 464 35 = (i : Int) := mjUp_at
      refine mjl_218_224 ?_
      rw [e35, show (94 + (i : Int)).toNat = 94 + i by omega, mjUp_nc (show 476 ≠ 464 by decide), sgn i (by omega)]
      have ne : isg (N i) ≠ 0 := by
        unfold isg
        repeat' split
        all_goals omega
      have hs := isg_or (N i)
      refine ⟨by omega, by omega, by omega, fun _ => ?_, fun g => absurd ne g⟩
      refine cnt (m + 1) 0 0 0 _ (by omega) (fun c hc => by rw [mjUp_nc hc, mjUp_nc hc, mjUp_nc hc]) (fun k h1 h2 h3 => (if_neg fun c => h3 c.2).trans ((if_neg fun c => h1 c.2).trans (if_neg fun c => h2 c.2))) ((if_neg fun c => absurd c.2 (by decide)).trans ((if_neg fun c => absurd c.2 (by decide)).trans mjUp_at)) ?_ ?_ (by omega) (by omega)
      · rw [mjUp_at]
        rfl
      · have : mjUp (mjUp (mjUp Z 464 35 (i : Int)) 464 34 0) 464 36 0 464 34 = 0 := (if_neg fun c => absurd c.2 (by decide)).trans mjUp_at
        rw [this]
        rfl
    | succ s ih =>
      intro i hi
      have e35 : mjUp Z 464 35 (i : Int) 464 35 = (i : Int) := mjUp_at
      refine mjl_218_224 ?_
      rw [e35, show (94 + (i : Int)).toNat = 94 + i by omega, mjUp_nc (show 476 ≠ 464 by decide), sgn i (by omega)]
      have e0 : isg (N i) = 0 := by
        rw [hz i (by omega)]
        rfl
      have up : mjUp (mjUp Z 464 35 (i : Int)) 464 35 ((i : Int) + 1) = mjUp Z 464 35 ((i + 1 : Nat) : Int) := by
        funext x y
        show (if x = 464 ∧ y = 35 then _ else (if x = 464 ∧ y = 35 then _ else Z x y)) = (if x = 464 ∧ y = 35 then _ else Z x y)
        by_cases c : x = 464 ∧ y = 35
        · rw [if_pos c, if_pos c]; omega
        · rw [if_neg c, if_neg c, if_neg c]
      rw [up]
      exact ⟨by omega, by omega, by omega, fun g => absurd e0 g, fun _ => ih (i + 1) (by omega)⟩
  exact zer j0 0 (by omega)
theorem fm_roots {j0 : Nat} {x2 : Int} {q : mjZ → Prop} (h6 : m ≤ 6) (hw : x2 = 0 ∨ x2 = 1) (hR : ∀ k, k ≤ m → (if x2 = 0 then Z 480 k else Z 488 k) = u k) (hu : ∀ k, bgA (u k) ≤ 2 ^ 58) (ha : bgA a ≤ 2 ^ 30) (hb : bgA b ≤ 2 ^ 30) (hj : j0 ≤ m) (hz : ∀ i, i < j0 → rp u m a b m i = 0) (hj0 : rp u m a b m j0 ≠ 0) (hq : ∀ Z', (∀ c, c ≠ 464 → c ≠ 474 → c ≠ 475 → c ≠ 476 → c ≠ 477 → Z' c = Z c) → (∀ k, k < 84 → Z' 475 k = Z 475 k ∧ Z' 476 k = Z 476 k ∧ ∀ j, j < 24 → Z' 474 (24 * k + j) = Z 474 (24 * k + j)) → (∀ k, k ≠ 34 → k ≠ 35 → k ≠ 36 → Z' 464 k = Z 464 k) → Z' 464 35 = (j0 : Int) → Z' 464 36 = (vs (fun i => isg (rp u m a b m i)) (m + 1)).2 → Z' 464 34 = (vs (fun i => sg1 i * isg (rp u m a b m i)) (m + 1)).2 → q Z') : mjW0 (d + 5) 218 [yR 11 464, yI (m : Int), yI x2, yI a, yI b] Z q := by
  have a2 : -1073741824 ≤ a ∧ a ≤ 1073741824 := by
    unfold bgA at ha
    split at ha <;> omega
  have b2 : -1073741824 ≤ b ∧ b ≤ 1073741824 := by
    unfold bgA at hb
    split at hb <;> omega
  have u2 : ∀ k, -288230376151711744 ≤ u k ∧ u k ≤ 288230376151711744 := fun k => by
    have := hu k
    unfold bgA at this
    split at this <;> omega
  have p2 : (2 ^ 30 : Int) < bgP 2 ∧ (2 ^ 58 : Int) < bgP 2 ∧ bgP 9 < bgP 23 ∧ bgP 9 + bgP 9 < bgP 23 := by decide +kernel
  refine mje_218 ⟨by omega, fm_set (d := d + 3) (i := 84) (by decide) (by omega) fun Z1 s1 s2 => ⟨by omega, fm_set (d := d + 3) (i := 85) (by decide) (by omega) fun Z2 t1 t2 => fm_set (d := d + 3) (i := 104) (by decide) (by decide) fun Z3 r1 r2 => ?_⟩⟩
  have in84 : roS 84 := ⟨by omega, by omega⟩
  have in85 : roS 85 := ⟨by omega, by omega⟩
  have in104 : roS 104 := ⟨by omega, by omega⟩
  have in86 : roS 86 := ⟨by omega, by omega⟩
  have in102 : roS 102 := ⟨by omega, by omega⟩
  have in94 : ∀ j, j < 7 → roS (94 + j) := fun j hj => ⟨by omega, by omega⟩
  have g3 : stG roS Z Z3 := ((s1.R in84).tr (t1.R in85)).tr (r1.R in104)
  have x84 : lbIs Z3 84 a := (s2.stF t1 (by decide)).stF r1 (by decide)
  have x85 : lbIs Z3 85 b := t2.stF r1 (by decide)
  -- the row of the polynomial is read at any time
  have rd : ∀ Zc, stG roS Z Zc → ∀ k, k ≤ m → (if x2 = 0 then Zc 480 k else Zc 488 k) = u k := fun Zc hc k hk => by
    rw [hc.1 480 (by decide) (by decide) (by decide) (by decide), hc.1 488 (by decide) (by decide) (by decide) (by decide)]
    exact hR k hk
  -- the rows t and on
  let RI : Nat → mjZ → Prop := fun t Zc => stG roS Z Zc ∧ lbIs Zc 84 a ∧ lbIs Zc 85 b ∧ lbIs Zc 104 (b ^ t) ∧ ∀ j, j < 7 → lbIs Zc (94 + j) (rp u m a b t j)
  have outer : ∀ s t Zc, t + s = m → RI t Zc → mjL_218_80 (d + 4) m x2 a b ((m : Int) - 1 - (t : Int)) Zc q := fun s => by
    induction s with
    | zero =>
      intro t Zc ht hy
      obtain rfl : t = m := by omega
      obtain ⟨y1, y2, y3, y4, y5⟩ := hy
      refine mjl_218_80 ⟨by omega, fun _ => ?_, fun g => by omega⟩
      refine fm_rootsC (Z0 := Z) (N := rp u t a b t) h6 y1 (fun j hj => y5 j (by omega)) hj hz hj0 fun Z' k1 k2 k3 k4 k5 => hq Z' (fun c c1 c2 c3 c4 c5 => by rw [k1 c c1, y1.1 c c2 c3 c4 c5]) (fun k hk => ?_) (fun k h1 h2 h3 => by rw [k2 k h1 h2 h3, y1.1 464 (by decide) (by decide) (by decide) (by decide)]) k3 k4 k5
      rw [k1 475 (by decide), k1 476 (by decide), k1 474 (by decide)]
      exact y1.2 k fun h => by
        have := h.1
        omega
    | succ s ih =>
      intro t Zc ht hy
      obtain ⟨y1, y2, y3, y4, y5⟩ := hy
      have rt := rpZ_bd t (by omega)
      have rt1 := rpZ_bd (t + 1) (by omega)
      have pw := bgA_pw hb t
      have pw1 := bgA_pw hb (t + 1)
      refine mjl_218_80 ⟨by omega, fun g => by omega, fun _ => ?_⟩
      refine fm_mul (d := d + 2) (r := 104) (a := 104) (b := 85) (u := 7) (w := 2) (by decide) (by decide) (by decide) y4 y3 (by omega) (by omega) (by decide) fun Z5 f1 f2 => ?_
      have g5 : stG roS Zc Z5 := f1.mono fun k hk => by rw [hk]; exact in104
      have e104 : lbIs Z5 104 (b ^ (t + 1)) := by
        rw [Int.pow_succ]
        exact f2
      -- down the places
      let RJ : Nat → mjZ → Prop := fun i Zd => stG roS Z Zd ∧ lbIs Zd 84 a ∧ lbIs Zd 85 b ∧ lbIs Zd 104 (b ^ (t + 1)) ∧ (∀ j, j < i → lbIs Zd (94 + j) (rp u m a b t j)) ∧ ∀ j, i ≤ j → j < 7 → lbIs Zd (94 + j) (a * rp u m a b t j + su (rp u m a b t) j)
      have bd1 : ∀ j, bgA (rp u m a b t j * a) ≤ 2 ^ 30 * rpZ t := fun j => by
        rw [Int.mul_comm]
        exact bgA_m ha (rp_bd (d := m) hu ha hb t j)
      have zt : rpZ (t + 1) = 2 ^ 30 * rpZ t + rpZ t + 2 ^ 58 * (2 ^ 30) ^ (t + 1) := rfl
      have zp := rpZ_pos t
      have zq : (0 : Int) ≤ 2 ^ 58 * (2 ^ 30) ^ (t + 1) := Int.mul_nonneg (by decide) (Int.pow_nonneg (by decide))
      have zm : (0 : Int) ≤ 2 ^ 30 * rpZ t := Int.mul_nonneg (by decide) zp
      have inner : ∀ i Zd, i ≤ t + 2 → RJ i Zd → mjL_218_101 (d + 4) m x2 a b ((m : Int) - 1 - (t : Int)) ((i : Int) - 1) Zd q := fun i => by
        induction i with
        | zero =>
          intro Zd _ hd
          obtain ⟨d1, d2, d3, d4, _, d6⟩ := hd
          have e0 : ((m : Int) - 1 - (t : Int)).toNat = m - 1 - t := by omega
          have last : ∀ Ze, stF Zd Ze 86 → lbIs Ze 86 (u (m - 1 - t)) → mjW0 (d + 4) 219 [yR 11 464, yI 86, yI 86, yI 104] Ze (fun Z6 => mjW0 (d + 4) 221 [yR 11 464, yI 102, yI 94, yI 86, yI 1] Z6 (fun Z7 => mjW0 (d + 4) 222 [yR 11 464, yI 94, yI 102] Z7 (fun Z8 => mjL_218_80 (d + 4) m x2 a b ((m : Int) - 1 - (t : Int) + -1) Z8 q))) := fun Ze h1 h2 => by
            have q104 := d4.stF h1 (by decide)
            refine fm_mul (d := d + 2) (r := 86) (a := 86) (b := 104) (u := 2) (w := 7) (by decide) (by decide) (by decide) h2 q104 (by have := hu (m - 1 - t); omega) (by omega) (by decide) fun Z6 k1 k2 => ?_
            have z0 : lbIs Z6 94 (a * rp u m a b t 0 + su (rp u m a b t) 0) := ((d6 0 (by omega) (by omega)).stF h1 (by decide)).R k1 (by decide)
            have b0 : bgA (a * rp u m a b t 0 + su (rp u m a b t) 0) ≤ 2 ^ 30 * rpZ t := by
              rw [su_0, Int.add_zero, Int.mul_comm]
              exact bd1 0
            have b1 := bgA_m (hu (m - 1 - t)) pw1
            refine fm_add (d := d + 1) (r := 102) (a := 94) (b := 86) (by decide) (by decide) (by decide) z0 k2 (by omega) (by omega) (Or.inl rfl) fun Z7 l1 l2 => ?_
            refine fm_copy (d := d + 3) (r := 94) (a := 102) (by decide) (by decide) l2 fun Z8 m1 m2 => ?_
            rw [show (m : Int) - 1 - (t : Int) + -1 = (m : Int) - 1 - ((t + 1 : Nat) : Int) by omega]
            have k1' : stG roS Ze Z6 := k1.mono fun k hk => by rw [hk]; exact in86
            have tot : stG roS Zd Z8 := (((h1.R in86).tr k1').tr (l1.R in102)).tr (m1.R (in94 0 (by omega)))
            have car : ∀ {r : Nat} {v : Int}, lbIs Zd r v → r ≠ 86 → r ≠ 102 → r ≠ 94 → lbIs Z8 r v := fun h n1 n2 n3 => (((h.stF h1 n1).R k1 n1).stF l1 n2).stF m1 n3
            refine ih (t + 1) Z8 (by omega) ⟨d1.tr tot, car d2 (by decide) (by decide) (by decide), car d3 (by decide) (by decide) (by decide), car d4 (by decide) (by decide) (by decide), fun j hj => ?_⟩
            by_cases j0 : j = 0
            · rw [j0]
              have : rp u m a b (t + 1) 0 = a * rp u m a b t 0 + su (rp u m a b t) 0 + 1 * (u (m - 1 - t) * b ^ (t + 1)) := by
                show a * rp u m a b t 0 + su (rp u m a b t) 0 + (if 0 = 0 then _ else _) = _
                rw [if_pos rfl, Int.one_mul]
              rw [this]
              exact m2
            · have : rp u m a b (t + 1) j = a * rp u m a b t j + su (rp u m a b t) j := by
                show a * rp u m a b t j + su (rp u m a b t) j + (if j = 0 then _ else 0) = _
                rw [if_neg j0, Int.add_zero]
              rw [this]
              exact car (d6 j (by omega) hj) (by omega) (by omega) (by omega)
          have rdk := rd Zd d1 (m - 1 - t) (by omega)
          have ub := u2 (m - 1 - t)
          refine mjl_218_101 ⟨by omega, fun _ => ⟨by omega, fun g => ⟨by omega, by omega, ?_⟩, fun g => ⟨by omega, by omega, ?_⟩⟩, fun g => by omega⟩
          · rw [e0]
            rw [if_neg g] at rdk
            rw [rdk]
            exact fm_set (d := d + 3) (i := 86) (by decide) (by omega) last
          · rw [e0]
            rw [if_pos (by omega)] at rdk
            rw [rdk]
            exact fm_set (d := d + 3) (i := 86) (by decide) (by omega) last
        | succ i ihi =>
          intro Zd hi hd
          obtain ⟨d1, d2, d3, d4, d5, d6⟩ := hd
          rw [show ((i + 1 : Nat) : Int) - 1 = (i : Int) by omega]
          have e1 : (94 + (i : Int)) = ((94 + i : Nat) : Int) := by omega
          refine mjl_218_101 ⟨by omega, fun g => by omega, fun _ => ?_⟩
          rw [e1]
          have pi := d5 i (by omega)
          have pb1 := rp_bd (d := m) hu ha hb t i
          refine fm_mul (d := d + 2) (r := 102) (a := 94 + i) (b := 84) (u := 9) (w := 2) (by decide) (by omega) (by decide) pi d2 (by omega) (by omega) (by decide) fun Z6 k1 k2 => ?_
          have k1' : stG roS Zd Z6 := k1.mono fun k hk => by rw [hk]; exact in102
          have b1 := bd1 i
          -- what goes back
          have back : ∀ Ze v, stG (fun k => k = 102) Zd Ze → lbIs Ze 102 v → v = a * rp u m a b t i + su (rp u m a b t) i → mjW0 (d + 4) 222 [yR 11 464, yI ((94 + i : Nat) : Int), yI 102] Ze (fun Z8 => mjL_218_101 (d + 4) m x2 a b ((m : Int) - 1 - (t : Int)) ((i : Int) + -1) Z8 q) := fun Ze v h1 h2 h3 => by
            refine fm_copy (d := d + 3) (r := 94 + i) (a := 102) (by omega) (by decide) h2 fun Z8 m1 m2 => ?_
            have car : ∀ {r : Nat} {v : Int}, lbIs Zd r v → r ≠ 102 → r ≠ 94 + i → lbIs Z8 r v := fun h n1 n2 => (h.R h1 n1).stF m1 n2
            have h1' : stG roS Zd Ze := h1.mono fun k hk => by rw [hk]; exact in102
            rw [show (i : Int) + -1 = (i : Int) - 1 by omega]
            refine ihi Z8 (by omega) ⟨d1.tr (h1'.tr (m1.R (in94 i (by omega)))), car d2 (by decide) (by omega), car d3 (by decide) (by omega), car d4 (by decide) (by omega), fun j hj => car (d5 j (by omega)) (by omega) (by omega), fun j h4 h5 => ?_⟩
            by_cases e : j = i
            · rw [e, ← h3]
              exact m2
            · exact car (d6 j (by omega) h5) (by omega) (by omega)
          refine ⟨fun g => ?_, fun g => ?_⟩
          · obtain rfl : i = 0 := by omega
            exact back Z6 _ k1 k2 (by rw [su_0, Int.mul_comm]; omega)
          · obtain ⟨i, rfl⟩ : ∃ j, i = j + 1 := ⟨i - 1, by omega⟩
            have e2 : (((94 + (i + 1) : Nat)) : Int) - 1 = ((94 + i : Nat) : Int) := by omega
            rw [e2]
            have pj : lbIs Z6 (94 + i) (rp u m a b t i) := (d5 i (by omega)).R k1 (by omega)
            have pb2 := rp_bd (d := m) hu ha hb t i
            refine fm_add (d := d + 1) (r := 102) (a := 102) (b := 94 + i) (by decide) (by decide) (by omega) k2 pj (by omega) (by omega) (Or.inl rfl) fun Z7 l1 l2 => ?_
            exact back Z7 _ (k1.tr (l1.R rfl)) l2 (by rw [su_s, Int.mul_comm]; omega)
      have first : RJ (t + 2) Z5 := by
        have car : ∀ {r : Nat} {v : Int}, lbIs Zc r v → r ≠ 104 → lbIs Z5 r v := fun h n1 => h.R f1 n1
        refine ⟨y1.tr g5, car y2 (by decide), car y3 (by decide), e104, fun j hj => car (y5 j (by omega)) (by omega), fun j h1 h2 => ?_⟩
        have e : a * rp u m a b t j + su (rp u m a b t) j = rp u m a b t j := by
          obtain ⟨j, rfl⟩ : ∃ i, j = i + 1 := ⟨j - 1, by omega⟩
          rw [su_s, rp_out t (j + 1) (by omega), rp_out t j (by omega), Int.mul_zero]
          omega
        rw [e]
        exact car (y5 j h2) (by omega)
      have := inner (t + 2) Z5 (Nat.le_refl _) first
      rw [show (m : Int) - ((m : Int) - 1 - (t : Int)) = ((t + 2 : Nat) : Int) - 1 by omega]
      exact this
  -- emptied, and the first one
  have start : ∀ s i Zc, i + s = 7 → stG roS Z Zc → lbIs Zc 84 a → lbIs Zc 85 b → lbIs Zc 104 1 → (∀ j, j < i → lbIs Zc (94 + j) 0) → mjL_218_27 (d + 4) m x2 a b (i : Int) Zc q := fun s => by
    induction s with
    | zero =>
      intro i Zc hi y1 y2 y3 y4 y5
      obtain rfl : i = 7 := by omega
      have ub := u2 m
      have rdm := rd Zc y1 m (Nat.le_refl m)
      have go : ∀ Ze, stF Zc Ze 94 → lbIs Ze 94 (u m) → mjL_218_80 (d + 4) m x2 a b ((m : Int) - 1) Ze q := fun Ze h1 h2 => by
        have := outer m 0 Ze (by omega) ⟨y1.tr (h1.R (in94 0 (by omega))), y2.stF h1 (by decide), y3.stF h1 (by decide), by rw [Int.pow_zero]; exact y4.stF h1 (by decide), fun j hj => ?_⟩
        · rw [show (m : Int) - 1 - ((0 : Nat) : Int) = (m : Int) - 1 by omega] at this
          exact this
        · by_cases j0 : j = 0
          · rw [j0]
            exact h2
          · have : rp u m a b 0 j = 0 := if_neg j0
            rw [this]
            exact (y5 j hj).stF h1 (by omega)
      refine mjl_218_27 ⟨by omega, fun _ => ⟨by omega, fun g => ⟨by omega, by omega, ?_⟩, fun g => ⟨by omega, by omega, ?_⟩⟩, fun g => by omega⟩
      · rw [if_neg g] at rdm
        rw [rdm]
        exact fm_set (d := d + 3) (i := 94) (by decide) (by omega) go
      · rw [if_pos (by omega)] at rdm
        rw [rdm]
        exact fm_set (d := d + 3) (i := 94) (by decide) (by omega) go
    | succ s ih =>
      intro i Zc hi y1 y2 y3 y4 y5
      refine mjl_218_27 ⟨by omega, fun g => by omega, fun _ => ?_⟩
      rw [show (94 + (i : Int)) = ((94 + i : Nat) : Int) by omega]
      refine fm_set (d := d + 3) (i := 94 + i) (by omega) (by decide) fun Ze h1 h2 => ?_
      refine ih (i + 1) Ze (by omega) (y1.tr (h1.R (in94 i (by omega)))) (y2.stF h1 (by omega)) (y3.stF h1 (by omega)) (y4.stF h1 (by omega)) fun j hj => ?_
      by_cases e : j = i
      · rw [e]; exact h2
      · exact (y5 j (by omega)).stF h1 (by omega)
  exact start 7 0 Z3 (by omega) g3 x84 x85 r2 fun j hj => by omega
end RO
