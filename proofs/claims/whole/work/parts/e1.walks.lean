/-! Cases: walks. -/
/-- the reference's own cells may change -/
def stO (Z Z2 : mjZ) : Prop := (∀ c, c ≤ 476 → c ≠ 464 → Z2 c = Z c) ∧ Z2 481 = Z 481 ∧ (∀ k, k = 3 ∨ k = 8 ∨ k = 9 ∨ k = 11 ∨ k = 13 → Z2 464 k = Z 464 k)
theorem INV_ans2 {Z Zc Z2 Z' : mjZ} {x : Int} (hI : INV Z) (h1 : mjO2 156 Z Zc) (h2 : bgIs 12 Zc 156 x) (hO : stO (mjUp Zc 0 4 1) Z2) (h3 : stF (mjUp Z2 464 18 0) Z' 0) (h4 : lbIs Z' 0 x) : INV (mjUp Z' 464 18 1) := by
  obtain ⟨i1, i2, i3, i4, i5, i6⟩ := hI
  have d7 : ∀ c, c ≠ 0 → c < 156 ∨ 157 < c → c < 464 ∨ (464 < c ∧ c < 474) → mjUp Z' 464 18 1 c = Z c := fun c g0 g1 g2 => by
    rw [mjUp_nc (by omega), h3.1 c (by omega) (by omega) (by omega), mjUp_nc (by omega), hO.1 c (by omega) (by omega), mjUp_nc g0, h1 c (by omega) (by omega)]
  have d8 : mjUp Z' 464 18 1 481 = Z 481 := by
    rw [mjUp_nc (by decide), h3.1 481 (by decide) (by decide) (by decide), mjUp_nc (by decide), hO.2.1, mjUp_nc (by decide), h1 481 (by decide) (by decide)]
  have e0 : ∀ k, k ≠ 4 → mjUp Z' 464 18 1 0 k = Z 0 k := fun k hk => by
    rw [mjUp_nc (by decide), h3.1 0 (by decide) (by decide) (by decide), mjUp_nc (by decide), hO.1 0 (by decide) (by decide)]
    show (if 0 = 0 ∧ k = 4 then (1 : Int) else Zc 0 k) = _
    rw [if_neg fun c => hk c.2, h1 0 (by decide) (by decide)]
  have e4 : ∀ k, k = 3 ∨ k = 8 ∨ k = 9 ∨ k = 11 ∨ k = 13 → mjUp Z' 464 18 1 464 k = Z 464 k := fun k hk => by
    show (if 464 = 464 ∧ k = 18 then (1 : Int) else Z' 464 k) = _
    rw [if_neg fun c => by omega, h3.1 464 (by decide) (by decide) (by decide)]
    show (if 464 = 464 ∧ k = 18 then (0 : Int) else Z2 464 k) = _
    rw [if_neg fun c => by omega, hO.2.2 k hk, mjUp_nc (by decide), h1 464 (by decide) (by decide)]
  refine ⟨i1.fr (fun c g1 g2 => d7 c (by omega) (by omega) (by omega)) (d7 _ (by omega) (by omega) (by omega)) (d7 _ (by omega) (by omega) (by omega)) (d7 _ (by omega) (by omega) (by omega)), i2.fr (fun c g1 g2 => d7 c (by omega) (by omega) (by omega)) (e0 2 (by decide)) (e4 3 (by decide)) (d7 _ (by omega) (by omega) (by omega)) (d7 _ (by omega) (by omega) (by omega)) (d7 _ (by omega) (by omega) (by omega)), ⟨1, by decide, ?_, mjUp_at, fun i hi => ⟨x, ?_, ?_⟩⟩, i4.fr (e0 7 (by decide)) (e0 8 (by decide)) (e0 10 (by decide)) (e4 8 (by decide)) (e4 9 (by decide)) (e4 11 (by decide)) (d7 _ (by omega) (by omega) (by omega)) (d7 _ (by omega) (by omega) (by omega)), i5.fr (e0 6 (by decide)) (e4 13 (by decide)) (d7 _ (by omega) (by omega) (by omega)) (d7 _ (by omega) (by omega) (by omega)), i6.fr (fun k _ _ => by rw [d7 _ (by omega) (by omega) (by omega)]) (fun k _ => by rw [d7 _ (by omega) (by omega) (by omega)]) (fun k _ => by rw [d7 _ (by omega) (by omega) (by omega)]) (d7 _ (by omega) (by omega) (by omega)) (d7 _ (by omega) (by omega) (by omega)) (d7 _ (by omega) (by omega) (by omega)) d8⟩
  · rw [mjUp_nc (by decide), h3.1 0 (by decide) (by decide) (by decide), mjUp_nc (by decide), hO.1 0 (by decide) (by decide), mjUp_at]
    rfl
  · have i0 : i = 0 := by omega
    subst i0
    exact bgIs_congr h2 (by rw [mjUp_nc (by decide), h3.1 156 (by decide) (by decide) (by decide), mjUp_nc (by decide), hO.1 156 (by decide) (by decide), mjUp_nc (by decide)]) (by rw [mjUp_nc (by decide), h3.1 157 (by decide) (by decide) (by decide), mjUp_nc (by decide), hO.1 157 (by decide) (by decide), mjUp_nc (by decide)])
  · have i0 : i = 0 := by omega
    subst i0
    exact h4.fr (fun k _ => by rw [mjUp_nc (by decide)]) (by rw [mjUp_nc (by decide)]) (by rw [mjUp_nc (by decide)])
theorem an_one2 {mm : Nat} {as : List mjY} {Z : mjZ} {x : Int} (hI : INV Z) (hx : -9223372036854775808 < x ∧ x < 9223372036854775808) (hM : ∀ (Z1 : mjZ) (q : Int → mjZ → Prop), (∀ c, c ≠ 0 → c ≠ 156 → c ≠ 157 → Z1 c = Z c) → (∀ Z2, stO Z1 Z2 → mjW0 9 202 [yR 11 464] Z2 (fun Z3 => mjW0 9 203 [yR 11 464, yJ x] Z3 (fun Z4 => q 1 Z4))) → mjW1 10 mm as Z1 q) : mjW1 9 88 [yR 10 0, yJ x] Z (fun v Z1 => mjW1 10 mm as Z1 (fun z' Z2 => Int32.ofInt z' = Int32.ofInt v ∧ INV Z2)) := by
  refine mje_88 (d := 8) (bg_become (d := 5) (R := 12) (bgR12 (i := 0) (by decide)) (by omega) fun Zc h1 h2 => hM _ _ (fun c g0 g1 g2 => by rw [mjUp_nc g0, h1 c g1 g2]) fun Z2 hO => ?_)
  refine mje_202 (d := 8) (mje_203 (d := 8) ?_)
  rw [mjUp_at]
  refine fm_set (d := 7) (i := 0) (by decide) hx fun Z' h3 h4 => ⟨rfl, ?_⟩
  have e : Z' 464 18 = 0 := by rw [h3.1 464 (by decide) (by decide) (by decide), mjUp_at]
  rw [e]
  exact INV_ans2 hI h1 h2 hO h3 h4
/-- powers of a table -/
def mxM (n : Nat) (T M : Nat → Nat → Int) (i k : Nat) : Int := fo (fun j s => s + T i j * M j k) n 0
def mxP (n : Nat) (T : Nat → Nat → Int) : Nat → Nat → Nat → Int
  | 0 => fun i k => if i = k then 1 else 0
  | r + 1 => mxM n T (mxP n T r)
def mxTr (n : Nat) (M : Nat → Nat → Int) : Int := fo (fun i s => s + M i i) n 0
theorem fo_sum_bd {f : Nat → Int} {B : Int} {n : Nat} (h : ∀ j, j < n → 0 ≤ f j ∧ f j ≤ B) : ∀ m, m ≤ n → 0 ≤ fo (fun j s => s + f j) m 0 ∧ fo (fun j s => s + f j) m 0 ≤ (m : Int) * B
  | 0, _ => by
    show (0 : Int) ≤ 0 ∧ (0 : Int) ≤ ((0 : Nat) : Int) * B
    rw [show ((0 : Nat) : Int) = 0 from rfl, Int.zero_mul]
    omega
  | m + 1, hm => by
    have a := fo_sum_bd h m (by omega)
    have b := h m (by omega)
    show 0 ≤ fo (fun j s => s + f j) m 0 + f m ∧ fo (fun j s => s + f j) m 0 + f m ≤ ((m + 1 : Nat) : Int) * B
    rw [show ((m + 1 : Nat) : Int) = (m : Int) + 1 by omega, Int.add_mul, Int.one_mul]
    omega
theorem mxP_bd {n : Nat} {T : Nat → Nat → Int} (h6 : n ≤ 6) (hT : ∀ i k, i < n → k < n → 0 ≤ T i k ∧ T i k ≤ 1) : ∀ r i k, i < n → k < n → 0 ≤ mxP n T r i k ∧ mxP n T r i k ≤ ((6 ^ r : Nat) : Int)
  | 0, i, k, _, _ => by
    show (0 : Int) ≤ (if i = k then 1 else 0) ∧ (if i = k then (1 : Int) else 0) ≤ ((6 ^ 0 : Nat) : Int)
    rw [Nat.pow_zero]
    split <;> omega
  | r + 1, i, k, hi, hk => by
    have ih := mxP_bd h6 hT r
    have s := fo_sum_bd (f := fun j => T i j * mxP n T r j k) (B := ((6 ^ r : Nat) : Int)) (n := n) (fun j hj => by
      have a := hT i j hi hj
      have b := ih j k hj hk
      rcases (show T i j = 0 ∨ T i j = 1 by omega) with e | e
      · rw [e, Int.zero_mul]; omega
      · rw [e, Int.one_mul]; exact b) n (Nat.le_refl _)
    show 0 ≤ fo (fun j s => s + T i j * mxP n T r j k) n 0 ∧ fo (fun j s => s + T i j * mxP n T r j k) n 0 ≤ ((6 ^ (r + 1) : Nat) : Int)
    have e : ((6 ^ (r + 1) : Nat) : Int) = 6 * ((6 ^ r : Nat) : Int) := by rw [Nat.pow_succ, Nat.mul_comm]; omega
    have m1 : (n : Int) * ((6 ^ r : Nat) : Int) ≤ 6 * ((6 ^ r : Nat) : Int) := Int.mul_le_mul_of_nonneg_right (by omega) (Int.natCast_nonneg _)
    rw [e]
    omega
theorem mxTr_bd {n r : Nat} {T : Nat → Nat → Int} (h6 : n ≤ 6) (hr : r ≤ 20) (hT : ∀ i k, i < n → k < n → 0 ≤ T i k ∧ T i k ≤ 1) : 0 ≤ mxTr n (mxP n T r) ∧ mxTr n (mxP n T r) < 9223372036854775808 := by
  have s := fo_sum_bd (f := fun j => mxP n T r j j) (B := ((6 ^ r : Nat) : Int)) (n := n) (fun j hj => mxP_bd h6 hT r j j hj hj) n (Nat.le_refl _)
  have m1 : (n : Int) * ((6 ^ r : Nat) : Int) ≤ 6 * ((6 ^ r : Nat) : Int) := Int.mul_le_mul_of_nonneg_right (by omega) (Int.natCast_nonneg _)
  have m2 : 6 ^ r ≤ 6 ^ 20 := Nat.pow_le_pow_right (by decide) hr
  have m3 : (6 : Nat) ^ 20 = 3656158440062976 := by decide
  unfold mxTr
  omega
section PW
variable {d n e : Nat} {Z Z0 : mjZ} {M T : Nat → Nat → Int}
def PWI (Z0 : mjZ) (n : Nat) (M : Nat → Nat → Int) (Z : mjZ) : Prop := (∀ c, c ≠ 460 → c ≠ 461 → c ≠ 462 → Z c = Z0 c) ∧ Z 460 0 = (n : Int) ∧ ∃ a b : Nat, Z 460 1 = (a : Int) ∧ Z 460 2 = (b : Int) ∧ (a = 461 ∧ b = 462 ∨ a = 462 ∧ b = 461) ∧ ∀ i k, i < n → k < n → Z a (6 * i + k) = M i k
theorem pwOk {a : Nat} (h : a = 461 ∨ a = 462) : mjOk 20036 a := by
  rcases h with h | h <;> subst h <;> unfold mjOk <;> decide +kernel
def idR (n : Nat) (g : Nat → Int) : Nat → Int := fo (fun i g => va_up g (i * 7) (g (i * 7) + 1)) n g
theorem idR_val {g : Nat → Int} : ∀ n j, idR n g j = if j % 7 = 0 ∧ j / 7 < n then g j + 1 else g j
  | 0, j => by rw [if_neg (by omega)]; rfl
  | n + 1, j => by
    show (if j = n * 7 then idR n g (n * 7) + 1 else idR n g j) = _
    by_cases h : j = n * 7
    · rw [if_pos h, if_pos (by omega), idR_val n, if_neg (by omega), h]
    · rw [if_neg h, idR_val n j]
      by_cases h2 : j % 7 = 0 ∧ j / 7 < n
      · rw [if_pos h2, if_pos (by omega)]
      · rw [if_neg h2, if_neg (by omega)]
theorem pw_begin {q : mjZ → Prop} (h1 : 1 ≤ n) (h6 : n ≤ 6) (hp : Z 460 1 = 461 ∧ Z 460 2 = 462 ∨ Z 460 1 = 462 ∧ Z 460 2 = 461) (hq : ∀ Z', PWI Z n (mxP n T 0) Z' → q Z') : mjW0 (d + 3) 77 [yR 4 460, yI (n : Int)] Z q := by
  refine mje_77 (d := d + 1) ⟨by omega, by split <;> omega, ?_⟩
  rw [show (if 0 < (if 6 < (n : Int) then 6 else (n : Int)) then (if 6 < (n : Int) then 6 else (n : Int)) else 0) = (n : Int) by rw [show (if 6 < (n : Int) then 6 else (n : Int)) = (n : Int) from if_neg (by omega), if_pos (by omega)]]
  have main : ∀ a b : Nat, Z 460 1 = (a : Int) → Z 460 2 = (b : Int) → (a = 461 ∧ b = 462 ∨ a = 462 ∧ b = 461) → mjL_77_16 (d + 2) 460 (n : Int) 0 (mjUp Z 460 0 (n : Int)) q := fun a b ha hb hab => by
    have k1 : ∀ g, mjRow (mjUp Z 460 0 (n : Int)) a g 460 1 = (a : Int) := fun g => by
      rw [mjRow_ne (by omega)]
      exact (if_neg (by decide)).trans ha
    have k0 : ∀ g, mjRow (mjUp Z 460 0 (n : Int)) a g 460 0 = (n : Int) := fun g => by
      rw [mjRow_ne (by omega), mjUp_at]
    refine lp_row (A := a) (n := 36) (f := fun i g => va_up g i 0) (L := fun i Z => mjL_77_16 (d + 2) 460 (n : Int) i Z q) (fun i g hi hL => ?_) ?_
    · refine mjl_77_16 ?_
      rw [k1, show ((a : Int)).toNat = a from rfl, mjRow_up]
      exact ⟨by omega, fun h => by omega, fun _ => ⟨pwOk (by omega), by omega, by omega, hL⟩⟩
    · refine mjl_77_16 ⟨by omega, fun _ => ?_, fun h => by omega⟩
      refine mje_78 (d := d + 1) ?_
      refine lp_fold0 (n := n) (f := fun i g => va_up g (i * 7) (g (i * 7) + 1)) (L := fun i g => mjL_78_2 (d + 1) 460 1 i (mjRow (mjUp Z 460 0 (n : Int)) a g) q) (fun i g hi hL => ?_) ?_
      · refine mjl_78_2 ?_
        rw [k1, k0, show ((a : Int)).toNat = a from rfl, show ((i : Int) * 7).toNat = i * 7 by omega, mjRow_up, mjRow_at]
        exact ⟨by omega, by omega, fun h => by omega, fun _ => ⟨pwOk (by omega), by omega, by omega, hL⟩⟩
      · refine mjl_78_2 ?_
        rw [k0]
        refine ⟨by omega, by omega, fun _ => hq _ ⟨fun c g0 g1 g2 => ?_, k0 _, a, b, k1 _, ?_, hab, fun i k hi hk => ?_⟩, fun h => by omega⟩
        · rw [mjRow_ne (by omega), mjUp_nc g0]
        · rw [mjRow_ne (by omega)]
          exact (if_neg (by decide)).trans hb
        · rw [mjRow_at]
          show idR n _ (6 * i + k) = (if i = k then 1 else 0)
          rw [idR_val, fo_cst, if_pos (show 6 * i + k < 36 by omega)]
          by_cases h : i = k
          · rw [if_pos (by omega), if_pos h]; rfl
          · rw [if_neg (by omega), if_neg h]
  rcases hp with ⟨u, v⟩ | ⟨u, v⟩
  · exact main 461 462 u v (Or.inl ⟨rfl, rfl⟩)
  · exact main 462 461 u v (Or.inr ⟨rfl, rfl⟩)
theorem pw_mult {q : mjZ → Prop} (h : PWI Z0 n M Z) (h1 : 1 ≤ n) (h6 : n ≤ 6) (hn : tN Z e n) (he : e + 1 < 460) (hT : ∀ i k, i < n → k < n → tE Z e i k = T i k ∧ 0 ≤ T i k ∧ T i k ≤ 1) (hq : ∀ Z', PWI Z0 n (mxM n T M) Z' → q Z') : mjW0 (d + 3) 79 [yR 4 460, yR 6 e] Z q := by
  obtain ⟨p1, p2, a, b, p3, p4, p5, p6⟩ := h
  have k0 : ∀ g, mjRow Z b g 460 0 = (n : Int) := fun g => by rw [mjRow_ne (by omega)]; exact p2
  have k1 : ∀ g, mjRow Z b g 460 1 = (a : Int) := fun g => by rw [mjRow_ne (by omega)]; exact p3
  have k2 : ∀ g, mjRow Z b g 460 2 = (b : Int) := fun g => by rw [mjRow_ne (by omega)]; exact p4
  have ka : ∀ g, mjRow Z b g a = Z a := fun g => mjRow_ne (by omega)
  have eT : ∀ g, tE (mjRow Z b g) e = tE Z e := fun g => by
    funext i k
    exact congrFun (mjRow_ne (by omega)) _
  have ta : ((a : Int)).toNat = a := rfl
  have tb : ((b : Int)).toNat = b := rfl
  refine mje_79 (d := d + 2) ?_
  refine lp_row (A := b) (n := n) (f := fun i g => fo (fun k g => va_up g (6 * i + k) (mxM n T M i k)) n g) (L := fun i Z => mjL_79_2 (d + 2) 460 e i Z q) (fun i g hi hL => ?_) ?_
  · refine mjl_79_2 ?_
    rw [k0]
    refine ⟨by omega, by omega, fun h => by omega, fun _ => ?_⟩
    refine lp_fold0 (n := n) (f := fun k g => va_up g (6 * i + k) (mxM n T M i k)) (L := fun k g => mjL_79_12 (d + 2) 460 e i k (mjRow Z b g) q) (a := g) (fun k g hk hL2 => ?_) ?_
    · refine mjl_79_12 ?_
      rw [k0]
      refine ⟨by omega, by omega, fun h => by omega, fun _ => ?_⟩
      refine lp_fold0 (n := n) (f := fun j s => s + T i j * M j k) (L := fun j s => mjL_79_26 (d + 2) 460 e i k s j (mjRow Z b g) q) (fun j s hj hL3 => ?_) ?_
      · have t := hT i j hi hj
        refine mjl_79_26 ?_
        rw [k0]
        refine ⟨by omega, by omega, fun h => by omega, fun _ => tb_number (d := d) (hn.row (by omega)) hi hj ?_⟩
        rw [eT, t.1, k1, ta, ka, show ((j : Int) * 6 + (k : Int)).toNat = 6 * j + k by omega, p6 j k hj hk]
        exact ⟨by omega, pwOk (by omega), by omega, by omega, hL3⟩
      · refine mjl_79_26 ?_
        rw [k0, k2, tb, show ((i : Int) * 6 + (k : Int)).toNat = 6 * i + k by omega, mjRow_up]
        exact ⟨by omega, by omega, fun _ => ⟨pwOk (by omega), by omega, by omega, hL2⟩, fun h => by omega⟩
    · refine mjl_79_12 ?_
      rw [k0]
      exact ⟨by omega, by omega, fun _ => hL, fun h => by omega⟩
  · refine mjl_79_2 ?_
    rw [k0, k1, k2, ta, tb]
    refine ⟨by omega, by omega, fun _ => ⟨pwOk (by omega), pwOk (by omega), hq _ ⟨fun c g0 g1 g2 => ?_, ?_, b, a, ?_, ?_, by omega, fun i k hi hk => ?_⟩⟩, fun h => by omega⟩
    · rw [mjUp_nc g0, mjUp_nc g0, mjRow_ne (by omega)]
      exact p1 c g0 g1 g2
    · exact (if_neg (by decide)).trans ((if_neg (by decide)).trans (k0 _))
    · exact (if_neg (by decide)).trans mjUp_at
    · exact mjUp_at
    · rw [mjUp_nc (by omega), mjUp_nc (by omega), mjRow_at]
      exact rF_T h6 hi hk
theorem pw_sum {q : Int → mjZ → Prop} (h : PWI Z0 n M Z) (h1 : 1 ≤ n) (h6 : n ≤ 6) (hq : q (mxTr n M) Z) : mjW2 (d + 1) 80 [yR 4 460] Z q := by
  obtain ⟨p1, p2, a, b, p3, p4, p5, p6⟩ := h
  refine mje_80 ?_
  refine lp_fold0 (n := n) (f := fun i s => s + M i i) (L := fun i s => mjL_80_4 d 460 s i Z q) (fun i s hi hL => ?_) ?_
  · refine mjl_80_4 ?_
    rw [p2, p3, show ((a : Int)).toNat = a from rfl, show ((i : Int) * 7).toNat = 6 * i + i by omega, p6 i i hi hi]
    exact ⟨by omega, by omega, fun h => by omega, fun _ => ⟨pwOk (by omega), by omega, by omega, hL⟩⟩
  · refine mjl_80_4 ?_
    rw [p2]
    exact ⟨by omega, by omega, fun _ => hq, fun h => by omega⟩
end PW
