/-! The other side's polynomials by a prime: degree, powers, monic, rest, what is shared. -/
def tr7 (g : Nat → Int) (k : Nat) : Int := if k < 7 then g k else 0
theorem tr7_lt {g : Nat → Int} {k : Nat} (h : k < 7) : tr7 g k = g k := if_pos h
theorem tr7_ge {g : Nat → Int} {k : Nat} (h : 7 ≤ k) : tr7 g k = 0 := if_neg (by omega)
/-- a row of rests by p -/
def rst (p : Int) (g : Nat → Int) : Prop := ∀ k, k < 7 → 0 ≤ g k ∧ g k < p
section FP
variable {d : Nat} {Z : mjZ} {p : Int}
theorem fp_degree {x0 : Nat} {q : Int → mjZ → Prop} (hr : ∀ k, k < 7 → -9223372036854775808 ≤ Z x0 k ∧ Z x0 k < 9223372036854775808) (h0 : (∀ k, k < 7 → Z x0 k = 0) → q (-1) Z) (h1 : ∀ n : Nat, n < 7 → Z x0 n ≠ 0 → (∀ k, n < k → k < 7 → Z x0 k = 0) → q (n : Int) Z) : mjW1 (d + 1) 209 [yR 20008 x0] Z q := by
  have main : ∀ n : Nat, n ≤ 7 → (∀ k, n ≤ k → k < 7 → Z x0 k = 0) → mjL_209_3 d x0 ((n : Int) - 1) Z q := fun n => by
    induction n with
    | zero =>
      intro _ h
      refine mjl_209_3 ⟨by omega, fun _ => ?_, fun g => by omega⟩
      exact h0 fun k hk => h k (by omega) hk
    | succ n ih =>
      intro hn h
      rw [show ((n + 1 : Nat) : Int) - 1 = (n : Int) by omega]
      have e : ((n : Int)).toNat = n := rfl
      refine mjl_209_3 ⟨by omega, fun g => by omega, fun _ => ⟨by omega, by omega, ?_⟩⟩
      rw [e]
      refine ⟨hr n (by omega), fun g => h1 n (by omega) g fun k h2 h3 => h k (by omega) h3, fun g => ?_⟩
      have := ih (by omega) fun k h2 h3 => by
        by_cases e : k = n
        · rw [e]
          exact Classical.byContradiction fun c => g c
        · exact h k (by omega) h3
      exact this
  have := main 7 (by omega) fun k h1 h2 => by omega
  exact mje_209 this
theorem mod_b {x p : Int} (hx : 0 ≤ x) (hp : 0 < p) : 0 ≤ Int.tmod x p ∧ Int.tmod x p < p ∧ p ∣ Int.tmod x p - x := by
  rw [tm_pos hx]
  exact ⟨Int.emod_nonneg x (by omega), Int.emod_lt_of_pos x hp, em_dv x p⟩
theorem mul_b {x y p : Int} (hx : 0 ≤ x ∧ x < p) (hy : 0 ≤ y ∧ y < p) (hp : p < 2147483648) : 0 ≤ x * y ∧ x * y ≤ 4611686014132420609 := by
  have h1 := Int.mul_le_mul (show x ≤ 2147483647 by omega) (show y ≤ 2147483647 by omega) hy.1 (by omega)
  exact ⟨Int.mul_nonneg hx.1 hy.1, by omega⟩
theorem fp_pow {a e : Int} {q : Int → mjZ → Prop} (hp : 1 < p ∧ p < 2147483648) (ha : 0 ≤ a ∧ a < p) (he : 0 ≤ e ∧ e < 2147483648) (hq : q (a ^ e.toNat % p) Z) : mjW2 (d + 1) 212 [yJ a, yJ e, yJ p] Z q := by
  have main : ∀ (n : Nat) (x y z : Int), z.toNat ≤ n → 0 ≤ z ∧ z < 2147483648 → 0 ≤ x ∧ x < p → 0 ≤ y ∧ y < p → p ∣ x * y ^ z.toNat - a ^ e.toNat → mjL_212_9 d a e p x y z Z q := fun n => by
    induction n with
    | zero =>
      intro x y z hn hz hx hy hd
      obtain rfl : z = 0 := by omega
      refine mjl_212_9 ⟨by omega, fun _ => ?_, fun g => by omega⟩
      rw [show (0 : Int).toNat = 0 from rfl, Int.pow_zero, Int.mul_one] at hd
      rw [em_eq hx.1 hx.2 hd]
      exact hq
    | succ n ih =>
      intro x y z hn hz hx hy hd
      by_cases g : z ≤ 0
      · obtain rfl : z = 0 := by omega
        refine mjl_212_9 ⟨by omega, fun _ => ?_, fun g => by omega⟩
        rw [show (0 : Int).toNat = 0 from rfl, Int.pow_zero, Int.mul_one] at hd
        rw [em_eq hx.1 hx.2 hd]
        exact hq
      · have yy := mul_b hy hy hp.2
        have xy := mul_b hx hy hp.2
        obtain ⟨m1, m2, m3⟩ := mod_b yy.1 (show 0 < p by omega)
        obtain ⟨n1, n2, n3⟩ := mod_b xy.1 (show 0 < p by omega)
        have sh : mjShrJ z 1 = z / 2 := wShrJ (i := 1) (by omega) (by omega) (by omega)
        have an : mjAndJ z 1 = z % 2 := wAndJ1 z
        obtain ⟨k, rfl⟩ : ∃ k : Nat, z = (k : Int) := ⟨z.toNat, by omega⟩
        have e1 : ((k : Int) / 2).toNat = k / 2 := by omega
        rw [Int.toNat_natCast] at hd hn
        -- the square, put in
        have sq : ∀ w : Int, p ∣ w * (Int.tmod (y * y) p) ^ (k / 2) - w * (y * y) ^ (k / 2) := fun w => by
          have h1 := Int.dvd_mul_of_dvd_right (b := w) (pow_dv m3 (k / 2))
          rw [Int.mul_sub] at h1
          exact h1
        have ev : (y * y) ^ (k / 2) = y ^ (2 * (k / 2)) := by
          rw [Int.pow_mul]
          congr 1
          rw [Int.pow_succ, Int.pow_succ, Int.pow_zero, Int.one_mul]
        refine mjl_212_9 ⟨by omega, fun c => by omega, fun _ => ?_⟩
        rw [an, sh]
        refine ⟨by omega, fun c => ⟨by omega, by omega, by omega, ?_⟩, fun c => ⟨by omega, by omega, by omega, by omega, by omega, ?_⟩⟩
        · refine ih x _ _ (by omega) (by omega) hx ⟨m1, m2⟩ ?_
          rw [e1]
          have h1 := Int.dvd_add (sq x) hd
          rw [ev, show 2 * (k / 2) = k by omega] at h1
          rw [show x * (Int.tmod (y * y) p) ^ (k / 2) - x * y ^ k + (x * y ^ k - a ^ e.toNat) = x * (Int.tmod (y * y) p) ^ (k / 2) - a ^ e.toNat by omega] at h1
          exact h1
        · refine ih _ _ _ (by omega) (by omega) ⟨n1, n2⟩ ⟨m1, m2⟩ ?_
          rw [e1]
          have h1 := sq (Int.tmod (x * y) p)
          have h2 := Int.dvd_mul_of_dvd_right (b := (y * y) ^ (k / 2)) n3
          have h3 := Int.dvd_add (Int.dvd_add h1 h2) hd
          have e2 : y ^ k = y ^ (2 * (k / 2)) * y := by
            rw [← Int.pow_succ]
            congr 1
            omega
          rw [e2] at h3
          rw [ev] at h3
          generalize y ^ (2 * (k / 2)) = P at h3
          generalize (Int.tmod (y * y) p) ^ (k / 2) = S at h3 ⊢
          generalize Int.tmod (x * y) p = X at h3 ⊢
          rw [show X * S - X * P + P * (X - x * y) + (x * (P * y) - a ^ e.toNat) = X * S - a ^ e.toNat by grind] at h3
          exact h3
  refine mje_212 (main e.toNat 1 a e (Nat.le_refl _) he (by omega) ha ?_)
  exact ⟨0, by rw [Int.one_mul, Int.mul_zero, Int.sub_self]⟩
/-- a part of a row written anew, place by place -/
theorem fo_seg {o : Nat} {F : Nat → Int → Int} {g : Nat → Int} : ∀ n j, fo (fun i g => va_up g (o + i) (F i (g (o + i)))) n g j = if o ≤ j ∧ j < o + n then F (j - o) (g j) else g j
  | 0, j => by
    rw [if_neg (by omega)]
    rfl
  | n + 1, j => by
    show (if j = o + n then F n (fo (fun i g => va_up g (o + i) (F i (g (o + i)))) n g (o + n)) else fo (fun i g => va_up g (o + i) (F i (g (o + i)))) n g j) = _
    by_cases e : j = o + n
    · rw [if_pos e, if_pos (by omega), fo_seg n, if_neg (by omega), e, show o + n - o = n by omega]
    · rw [if_neg e, fo_seg n]
      by_cases h : o ≤ j ∧ j < o + n
      · rw [if_pos h, if_pos (by omega)]
      · rw [if_neg h, if_neg (by omega)]
/-- a row made monic -/
theorem fp_monic {x0 : Nat} {P : Nat} {q : mjZ → Prop} (hP : pri P) (hp : p = (P : Int)) (hp2 : p < 2147483648) (hr : rst p (Z x0)) (h0 : (∀ k, k < 7 → Z x0 k = 0) → q Z) (h1 : ∀ (n : Nat) (g : Nat → Int) (c : Int), n < 7 → Z x0 n ≠ 0 → (∀ k, n < k → k < 7 → Z x0 k = 0) → rst p g → g n = 1 → (∀ k, n < k → k < 7 → g k = 0) → (∀ k, k < 7 → p ∣ g k - c * Z x0 k) → (∀ k, k < 7 → p ∣ Z x0 k - Z x0 n * g k) → q (mjRow Z x0 g)) : mjW0 (d + 2) 211 [yR 20008 x0, yJ p] Z q := by
  have P0 := hP.1
  have rr : ∀ k, k < 7 → -9223372036854775808 ≤ Z x0 k ∧ Z x0 k < 9223372036854775808 := fun k hk => by
    have := hr k hk
    omega
  refine mje_211 (d := d + 1) (fp_degree rr (fun z => ⟨by omega, fun _ => h0 z, fun g => by omega⟩) fun n hn nz hz => ⟨by omega, fun g => by omega, fun _ => ⟨by omega, by omega, ?_⟩⟩)
  have e0 : ((n : Int)).toNat = n := rfl
  rw [e0]
  have an := hr n hn
  refine fp_pow ⟨by omega, hp2⟩ an (by omega) ?_
  have ei : (p - 2).toNat = P - 2 := by omega
  rw [ei]
  have nd : ¬ (P : Int) ∣ Z x0 n := fun g => by
    have := Int.le_of_dvd (by omega) g
    omega
  have iv := inv_ok hP an.1 nd
  rw [← hp] at iv
  have c0 := Int.emod_nonneg (Z x0 n ^ (P - 2)) (show p ≠ 0 by omega)
  have c1 := Int.emod_lt_of_pos (Z x0 n ^ (P - 2)) (show 0 < p by omega)
  generalize hc : Z x0 n ^ (P - 2) % p = c at *
  have st : mjL_211_26 (d + 1) x0 p (n : Int) c 0 (mjRow Z x0 (Z x0)) q := by
    refine lp_fold (n := n + 1) (f := fun i g => va_up g (0 + i) (Int.tmod (g (0 + i) * c) p)) (L := fun i g => mjL_211_26 (d + 1) x0 p (n : Int) c i (mjRow Z x0 g) q) (Y := fun i g => rst p g) (fun i g hi hg k hk => ?_) (fun i g hi hg hL => ?_) hr fun hg => ?_
    · show 0 ≤ (if k = 0 + i then Int.tmod (g (0 + i) * c) p else g k) ∧ (if k = 0 + i then Int.tmod (g (0 + i) * c) p else g k) < p
      by_cases e : k = 0 + i
      · rw [if_pos e]
        have m := mul_b (hg (0 + i) (by omega)) ⟨c0, c1⟩ hp2
        have := mod_b m.1 (show 0 < p by omega)
        omega
      · rw [if_neg e]
        exact hg k hk
    · have m := mul_b (hg i (by omega)) ⟨c0, c1⟩ hp2
      rw [Nat.zero_add] at hL
      refine mjl_211_26 ⟨by omega, by omega, fun g => by omega, fun _ => ?_⟩
      rw [mjRow_at, mjRow_up]
      exact ⟨by omega, by omega, by omega, by omega, by omega, hL⟩
    · have hv : ∀ k, fo (fun i g => va_up g (0 + i) (Int.tmod (g (0 + i) * c) p)) (n + 1) (Z x0) k = if 0 ≤ k ∧ k < 0 + (n + 1) then Int.tmod (Z x0 k * c) p else Z x0 k := fun k => fo_seg (F := fun _ x => Int.tmod (x * c) p) (n + 1) k
      have dv1 : ∀ k, k < 7 → p ∣ fo (fun i g => va_up g (0 + i) (Int.tmod (g (0 + i) * c) p)) (n + 1) (Z x0) k - c * Z x0 k := fun k hk => by
        rw [hv]
        by_cases e : k < n + 1
        · rw [if_pos (by omega)]
          have m := mul_b (hr k hk) ⟨c0, c1⟩ hp2
          have := (mod_b m.1 (show 0 < p by omega)).2.2
          rw [Int.mul_comm c]
          exact this
        · rw [if_neg (by omega), hz k (by omega) hk]
          exact ⟨0, by omega⟩
      refine mjl_211_26 ⟨by omega, by omega, fun _ => ?_, fun g => by omega⟩
      refine h1 n _ c hn nz hz hg ?_ (fun k h2 h3 => ?_) dv1 fun k hk => ?_
      · rw [hv, if_pos (by omega)]
        have m := mul_b an ⟨c0, c1⟩ hp2
        have mm := mod_b m.1 (show 0 < p by omega)
        have := em_eq mm.1 mm.2.1 (a := 1) (by
          have := Int.dvd_add mm.2.2 iv
          rw [show Int.tmod (Z x0 n * c) p - Z x0 n * c + (Z x0 n * c - 1) = Int.tmod (Z x0 n * c) p - 1 by omega] at this
          exact this)
        rw [this]
        exact Int.emod_eq_of_lt (by omega) (by omega)
      · rw [hv, if_neg (by omega)]
        exact hz k h2 h3
      · have e1 := dv1 k hk
        generalize fo (fun i g => va_up g (0 + i) (Int.tmod (g (0 + i) * c) p)) (n + 1) (Z x0) k = y at e1
        have e2 := Int.dvd_mul_of_dvd_right (b := -(Z x0 n)) e1
        have e3 := Int.dvd_mul_of_dvd_right (b := -(Z x0 k)) iv
        have e4 := Int.dvd_add e2 e3
        rw [show -(Z x0 n) * (y - c * Z x0 k) + -(Z x0 k) * (Z x0 n * c - 1) = Z x0 k - Z x0 n * y by grind] at e4
        exact e4
  rw [mjRow_self] at st
  exact st
theorem dvq_pI {D b : Nat → Int} {n m : Nat} (hb : ∀ i, m ≤ i → b i = 0) (h : dvq p n D b) : ∀ (N : Nat) {W : Nat → Int}, (∀ k, N ≤ k → W k = 0) → dvq p n D (pI m b W)
  | 0, W, hW => dvq_cg (fun k => by
      rw [pI_eq m (fun _ _ => rfl) (g := fun _ => 0 * 0 + 0 * 0) fun i _ => hW i (by omega), pI_add m (e := fun _ => 0) (f := fun _ => 0)]
      exact ⟨0, by omega⟩) dvq_0
  | N + 1, W, hW => by
    have mo : ∀ j, dvq p n D (pI m b (mono j)) := fun j => by
      induction j with
      | zero =>
        refine dvq_cg (fun k => ?_) h
        rw [pI_mono]
        by_cases g : k < m
        · rw [if_pos (by omega), Nat.sub_zero]
          exact ⟨0, by omega⟩
        · rw [if_neg (by omega), hb k (by omega)]
          exact ⟨0, by omega⟩
      | succ j ih =>
        refine dvq_cg (fun k => ?_) (dvq_su ih)
        rw [← pI_su, pI_eq m (fun _ _ => rfl) (g := mono (j + 1)) (f := su (mono j)) fun i _ => by
          cases i with
          | zero => rfl
          | succ i =>
            rw [su_s]
            show (if i = j then (1 : Int) else 0) = if i + 1 = j + 1 then 1 else 0
            by_cases e : i = j
            · rw [if_pos e, if_pos (by omega)]
            · rw [if_neg e, if_neg (by omega)]]
        exact ⟨0, by omega⟩
    have ih := dvq_pI hb h N (W := fun k => if k < N then W k else 0) fun k hk => if_neg (by omega)
    refine dvq_cg (fun k => ?_) (dvq_lin (a := 1) (b := W N) ih (mo N))
    show p ∣ pI m b W k - (1 * pI m b (fun k => if k < N then W k else 0) k + W N * pI m b (mono N) k)
    rw [← pI_add m (e := fun k => if k < N then W k else 0) (f := mono N), pI_eq m (fun _ _ => rfl) (f := W) (g := fun i => 1 * (if i < N then W i else 0) + W N * mono N i) fun i _ => by
      show W i = 1 * (if i < N then W i else 0) + W N * if i = N then 1 else 0
      by_cases e : i < N
      · rw [if_pos e, if_neg (by omega)]
        omega
      · by_cases e2 : i = N
        · rw [if_neg e, if_pos e2, e2]
          omega
        · rw [if_neg e, if_neg e2, hW i (by omega)]
          omega]
    exact ⟨0, by omega⟩
theorem pI_z : ∀ (n : Nat) {c f : Nat → Int} {k : Nat}, (∀ i, i ≤ k → f i = 0) → pI n c f k = 0
  | 0, _, _, _, _ => rfl
  | n + 1, c, f, k, h => by
    show c 0 * f k + su _ k = 0
    rw [h k (Nat.le_refl k), Int.mul_zero, Int.zero_add]
    cases k with
    | zero => rfl
    | succ k => rw [su_s, pI_z n fun i hi => h i (by omega)]
/-- the rest and the quotient -/
theorem fp_rest {x1 x2 m : Nat} {q : mjZ → Prop} (hp : 1 < p ∧ p < 2147483648) (hx : x1 ≠ x2 ∧ x1 ≠ 484 ∧ x2 ≠ 484) (ha : rst p (Z x1)) (hb : rst p (Z x2)) (hm : m < 7) (hb1 : Z x2 m = 1) (hbz : ∀ k, m < k → k < 7 → Z x2 k = 0) (hq : ∀ o g : Nat → Int, rst p g → (∀ k, m ≤ k → k < 7 → g k = 0) → rst p o → (∀ k, 6 < k + m → k < 7 → o k = 0) → (∀ k, p ∣ tr7 (Z x1) k - (pI (m + 1) (tr7 (Z x2)) (tr7 o) k + tr7 g k)) → q (mjRow (mjRow Z 484 o) x1 g)) : mjW0 (d + 2) 213 [yR 11 464, yR 20008 x1, yR 20008 x2, yJ p] Z q := by
  obtain ⟨hx1, hx2, hx3⟩ := hx
  have rl : ∀ g, rst p g → ∀ k, k < 7 → -9223372036854775808 ≤ g k ∧ g k < 9223372036854775808 := fun g hg k hk => by
    have := hg k hk
    omega
  -- from place n on down
  have main : ∀ (t : Nat) (o g : Nat → Int), m + t ≤ 7 → rst p g → (∀ k, m + t ≤ k → k < 7 → g k = 0) → rst p o → (∀ k, k < t ∨ 6 < k + m → k < 7 → o k = 0) → (∀ k, p ∣ tr7 (Z x1) k - (pI (m + 1) (tr7 (Z x2)) (tr7 o) k + tr7 g k)) → mjL_213_36 (d + 1) x1 x2 p (m : Int) ((m : Int) - 1 + (t : Int)) (mjRow (mjRow Z 484 o) x1 g) q := fun t => by
    induction t with
    | zero =>
      intro o g _ g1 g2 o1 o2 dv
      refine mjl_213_36 ⟨by omega, by omega, fun _ => ?_, fun g => by omega⟩
      exact hq o g g1 (fun k h1 h2 => g2 k (by omega) h2) o1 (fun k h1 h2 => o2 k (Or.inr h1) h2) dv
    | succ t ih =>
      intro o g ht g1 g2 o1 o2 dv
      obtain ⟨f, hf⟩ : ∃ f, g (m + t) = f := ⟨_, rfl⟩
      have fr := g1 (m + t) (by omega)
      rw [hf] at fr
      refine mjl_213_36 ⟨by omega, by omega, fun g => by omega, fun _ => ?_⟩
      rw [show ((m : Int) - 1 + ((t + 1 : Nat) : Int)).toNat = m + t by omega, show ((m : Int) - 1 + ((t + 1 : Nat) : Int) - (m : Int)).toNat = t by omega, mjRow_at, hf]
      refine ⟨by omega, by omega, by omega, by omega, ?_⟩
      rw [mjUp_row_comm (by omega), mjRow_up]
      -- the inner loop
      refine lp_fold (n := m + 1) (f := fun i g => va_up g (t + i) (Int.tmod (g (t + i) + (p - f) * Z x2 i) p)) (L := fun i g => mjL_213_64 (d + 1) x1 x2 p (m : Int) ((m : Int) - 1 + ((t + 1 : Nat) : Int)) f i (mjRow (mjRow Z 484 (va_up o t f)) x1 g) q) (Y := fun i g => rst p g) (fun i g hi hg k hk => ?_) (fun i g hi hg hL => ?_) g1 fun hg => ?_
      · show 0 ≤ (if k = t + i then Int.tmod (g (t + i) + (p - f) * Z x2 i) p else g k) ∧ (if k = t + i then Int.tmod (g (t + i) + (p - f) * Z x2 i) p else g k) < p
        by_cases e : k = t + i
        · rw [if_pos e]
          have a1 := hg (t + i) (by omega)
          have a2 := hb i (by omega)
          have a3 := Int.mul_nonneg (show 0 ≤ p - f by omega) a2.1
          have := mod_b (x := g (t + i) + (p - f) * Z x2 i) (by omega) (show 0 < p by omega)
          omega
        · rw [if_neg e]
          exact hg k hk
      · have a1 := hg (t + i) (by omega)
        have a2 := hb i (by omega)
        have a3 := Int.mul_nonneg (show 0 ≤ p - f by omega) a2.1
        have a4 := Int.mul_le_mul (show p - f ≤ 2147483648 by omega) (show Z x2 i ≤ 2147483648 by omega) a2.1 (by omega)
        refine mjl_213_64 ⟨by omega, by omega, fun g => by omega, fun _ => ?_⟩
        rw [show ((m : Int) - 1 + ((t + 1 : Nat) : Int) - (m : Int) + (i : Int)).toNat = t + i by omega, mjRow_at, mjRow_ne (show x2 ≠ x1 from fun e => hx1 e.symm), mjRow_ne hx3, mjRow_up]
        exact ⟨by omega, by omega, by omega, by omega, by omega, by omega, by omega, hL⟩
      · have hv : ∀ k, fo (fun i g => va_up g (t + i) (Int.tmod (g (t + i) + (p - f) * Z x2 i) p)) (m + 1) g k = if t ≤ k ∧ k < t + (m + 1) then Int.tmod (g k + (p - f) * Z x2 (k - t)) p else g k := fun k => fo_seg (F := fun i x => Int.tmod (x + (p - f) * Z x2 i) p) (m + 1) k
        refine mjl_213_64 ⟨by omega, by omega, fun _ => ?_, fun g => by omega⟩
        rw [show (m : Int) - 1 + ((t + 1 : Nat) : Int) + -1 = (m : Int) - 1 + (t : Int) by omega]
        refine ih (va_up o t f) _ (by omega) hg (fun k h1 h2 => ?_) (fun k hk => ?_) (fun k h1 h2 => ?_) fun k => ?_
        · rw [hv]
          by_cases e : k = m + t
          · rw [if_pos (by omega), e, hf, show m + t - t = m by omega, hb1, show f + (p - f) * 1 = p by omega]
            exact Int.tmod_self
          · rw [if_neg (by omega)]
            exact g2 k (by omega) h2
        · show 0 ≤ (if k = t then f else o k) ∧ (if k = t then f else o k) < p
          by_cases e : k = t
          · rw [if_pos e]; exact fr
          · rw [if_neg e]; exact o1 k hk
        · show (if k = t then f else o k) = 0
          rw [if_neg (by omega)]
          exact o2 k (by omega) h2
        · -- the sum stays
          have o0 : o t = 0 := o2 t (Or.inl (by omega)) (by omega)
          have e1 : pI (m + 1) (tr7 (Z x2)) (tr7 (va_up o t f)) k = 1 * pI (m + 1) (tr7 (Z x2)) (tr7 o) k + f * pI (m + 1) (tr7 (Z x2)) (mono t) k := by
            rw [← pI_add]
            refine pI_eq _ (fun _ _ => rfl) fun i _ => ?_
            unfold tr7
            show (if i < 7 then (if i = t then f else o i) else 0) = 1 * (if i < 7 then o i else 0) + f * (if i = t then 1 else 0)
            by_cases e : i = t
            · rw [if_pos e, if_pos (by omega), if_pos (by omega), if_pos e, e, o0]
              omega
            · rw [if_neg e, if_neg e]
              omega
          rw [e1, pI_mono]
          have h1 := dv k
          generalize pI (m + 1) (tr7 (Z x2)) (tr7 o) k = Q at h1
          by_cases e : t ≤ k ∧ k < t + (m + 1)
          · have k7 : k < 7 := by omega
            rw [if_pos e, tr7_lt (show k - t < 7 by omega)]
            rw [tr7_lt k7] at h1 ⊢
            rw [tr7_lt k7] at h1
            rw [tr7_lt k7, hv, if_pos e]
            have a1 := g1 k k7
            have a2 := hb (k - t) (by omega)
            have a3 := Int.mul_nonneg (show 0 ≤ p - f by omega) a2.1
            have h2 := (mod_b (x := g k + (p - f) * Z x2 (k - t)) (by omega) (show 0 < p by omega)).2.2
            generalize Int.tmod (g k + (p - f) * Z x2 (k - t)) p = y at h2 ⊢
            have h3 := Int.dvd_sub (Int.dvd_sub h1 h2) (Int.dvd_mul_right p (Z x2 (k - t)))
            rw [show Z x1 k - (Q + g k) - (y - (g k + (p - f) * Z x2 (k - t))) - p * Z x2 (k - t) = Z x1 k - (1 * Q + f * Z x2 (k - t) + y) by grind] at h3
            exact h3
          · rw [if_neg e]
            have e2 : tr7 (fo (fun i g => va_up g (t + i) (Int.tmod (g (t + i) + (p - f) * Z x2 i) p)) (m + 1) g) k = tr7 g k := by
              unfold tr7
              rw [hv, if_neg e]
            rw [e2, Int.mul_zero, Int.add_zero, Int.one_mul]
            exact h1
  refine mje_213 (d := d + 1) (fp_degree (rl _ hb) (fun z => ?_) fun n hn nz hz => ?_)
  · have := z m hm
    omega
  · have e : n = m := by
      rcases Nat.lt_or_ge n m with l | l
      · have := hz m l hm
        omega
      · rcases Nat.eq_or_lt_of_le l with g | g
        · exact g.symm
        · exact absurd (hbz n g hn) nz
    subst e
    have st : mjL_213_9 (d + 1) x1 x2 p (n : Int) ((0 : Nat) : Int) (mjRow Z 484 (Z 484)) q := by
      refine lp_fold0 (n := 7) (f := fun i g => va_up g i 0) (L := fun i g => mjL_213_9 (d + 1) x1 x2 p (n : Int) (i : Int) (mjRow Z 484 g) q) (fun i g hi hL => ?_) ?_
      · refine mjl_213_9 ⟨by omega, fun g => by omega, fun _ => ⟨by omega, by omega, ?_⟩⟩
        rw [show ((i : Int)).toNat = i from rfl, mjRow_up]
        exact hL
      · refine mjl_213_9 ⟨by omega, fun _ => ?_, fun g => by omega⟩
        have o0 : ∀ k, k < 7 → fo (fun i g => va_up g i 0) 7 (Z 484) k = 0 := fun k hk => by
          rw [fo_cst, if_pos hk]
        generalize fo (fun i g => va_up g i 0) 7 (Z 484) = o at o0
        have er : mjRow Z 484 o = mjRow (mjRow Z 484 o) x1 (Z x1) := by
          have h1 : mjRow Z 484 o x1 = Z x1 := mjRow_ne hx2
          rw [← h1, mjRow_self]
        have z0 : ∀ k, tr7 o k = 0 := fun k => by
          unfold tr7
          by_cases g : k < 7
          · rw [if_pos g]; exact o0 k g
          · rw [if_neg g]
        have dv0 : ∀ k, p ∣ tr7 (Z x1) k - (pI (n + 1) (tr7 (Z x2)) (tr7 o) k + tr7 (Z x1) k) := fun k => by
          rw [pI_z (n + 1) fun i _ => z0 i]
          exact ⟨0, by omega⟩
        have ro : rst p o := fun k hk => by
          rw [o0 k hk]
          omega
        have hx1r : mjRow Z 484 o x1 = Z x1 := mjRow_ne hx2
        refine fp_degree (by rw [hx1r]; exact rl _ ha) (fun z => ?_) fun k hk knz kz => ?_
        · rw [hx1r] at z
          rw [er]
          have := main 0 o (Z x1) (by omega) ha (fun k h1 h2 => z k h2) ro (fun k h1 h2 => o0 k h2) dv0
          refine mjl_213_36 ⟨by omega, by omega, fun _ => ?_, fun g => by omega⟩
          exact hq o (Z x1) ha (fun k _ h2 => z k h2) ro (fun k _ h2 => o0 k h2) dv0
        · rw [hx1r] at knz kz
          rw [er]
          rcases Nat.lt_or_ge k n with l | l
          · refine mjl_213_36 ⟨by omega, by omega, fun _ => ?_, fun g => by omega⟩
            exact hq o (Z x1) ha (fun j h1 h2 => kz j (by omega) h2) ro (fun j _ h2 => o0 j h2) dv0
          · have := main (k + 1 - n) o (Z x1) (by omega) ha (fun j h1 h2 => kz j (by omega) h2) ro (fun j _ h2 => o0 j h2) dv0
            rw [show (n : Int) - 1 + ((k + 1 - n : Nat) : Int) = (k : Int) by omega] at this
            exact this
    rw [mjRow_self] at st
    exact st
end FP
