/-! Masks and shifts as remainders and quotients; digits to the base of 2^30. -/
theorem wAndN (n : Nat) : n &&& 1073741823 = n % 1073741824 := Nat.and_two_pow_sub_one_eq_mod n 30
theorem wAndI (x : Int) : mjAndI x 1073741823 = x % 1073741824 := by
  show (BitVec.ofInt 32 x &&& BitVec.ofInt 32 1073741823).toInt = _
  have e1 : (BitVec.ofInt 32 x &&& BitVec.ofInt 32 1073741823).toNat = (x % 4294967296).toNat % 1073741824 := by
    rw [BitVec.toNat_and, BitVec.toNat_ofInt, BitVec.toNat_ofInt]
    exact wAndN _
  rw [BitVec.toInt_eq_toNat_of_lt (by rw [e1]; omega), e1]
  omega
theorem wAndJ (x : Int) : mjAndJ x 1073741823 = x % 1073741824 := by
  show (BitVec.ofInt 64 x &&& BitVec.ofInt 64 1073741823).toInt = _
  have e1 : (BitVec.ofInt 64 x &&& BitVec.ofInt 64 1073741823).toNat = (x % 18446744073709551616).toNat % 1073741824 := by
    rw [BitVec.toNat_and, BitVec.toNat_ofInt, BitVec.toNat_ofInt]
    exact wAndN _
  rw [BitVec.toInt_eq_toNat_of_lt (by rw [e1]; omega), e1]
  omega
theorem wUshI {x : Int} (h0 : 0 ≤ x) (h1 : x < 2147483648) : mjUshI x 30 = x / 1073741824 := by
  have e0 : ((Int32.ofInt 30).toUInt32 &&& Int32.toUInt32 31) = 30 := by decide
  show (((Int32.ofInt x).toUInt32 >>> ((Int32.ofInt 30).toUInt32 &&& Int32.toUInt32 31)).toInt32).toInt = _
  rw [e0]
  show (((Int32.ofInt x).toUInt32 >>> (30 : UInt32)).toBitVec).toInt = _
  have e1 : (((Int32.ofInt x).toUInt32 >>> (30 : UInt32)).toBitVec).toNat = x.toNat / 1073741824 := by
    show ((Int32.ofInt x).toUInt32 >>> (30 : UInt32)).toNat = _
    rw [UInt32.toNat_shiftRight, Nat.shiftRight_eq_div_pow]
    have e2 : (Int32.ofInt x).toUInt32.toNat = x.toNat := by
      show (BitVec.ofInt 32 x).toNat = _
      rw [BitVec.toNat_ofInt]
      omega
    rw [e2]
    rfl
  rw [BitVec.toInt_eq_toNat_of_lt (by rw [e1]; omega), e1]
  omega
theorem wUshJ {x : Int} (h0 : 0 ≤ x) (h1 : x < 9223372036854775808) : mjUshJ x 30 = x / 1073741824 := by
  have e0 : ((Int32.ofInt 30).toInt64.toUInt64 &&& Int64.toUInt64 63) = 30 := by decide
  show (((Int64.ofInt x).toUInt64 >>> ((Int32.ofInt 30).toInt64.toUInt64 &&& Int64.toUInt64 63)).toInt64).toInt = _
  rw [e0]
  show (((Int64.ofInt x).toUInt64 >>> (30 : UInt64)).toBitVec).toInt = _
  have e1 : (((Int64.ofInt x).toUInt64 >>> (30 : UInt64)).toBitVec).toNat = x.toNat / 1073741824 := by
    show ((Int64.ofInt x).toUInt64 >>> (30 : UInt64)).toNat = _
    rw [UInt64.toNat_shiftRight, Nat.shiftRight_eq_div_pow]
    have e2 : (Int64.ofInt x).toUInt64.toNat = x.toNat := by
      show (BitVec.ofInt 64 x).toNat = _
      rw [BitVec.toNat_ofInt]
      omega
    rw [e2]
    rfl
  rw [BitVec.toInt_eq_toNat_of_lt (by rw [e1]; omega), e1]
  omega
def bgS (f : Nat → Int) : Nat → Nat → Int
  | _, 0 => 0
  | i, m + 1 => f i + 1073741824 * bgS f (i + 1) m
def bgP : Nat → Int
  | 0 => 1
  | m + 1 => 1073741824 * bgP m
def bgD (f : Nat → Int) (i m : Nat) : Prop := ∀ k, i ≤ k → k < i + m → 0 ≤ f k ∧ f k < 1073741824
theorem bgP_pos : ∀ m : Nat, 0 < bgP m
  | 0 => by decide
  | m + 1 => by have := bgP_pos m; unfold bgP; omega
theorem bgD_tl {f : Nat → Int} {i m : Nat} (h : bgD f i (m + 1)) : bgD f (i + 1) m := fun k h1 h2 => h k (by omega) (by omega)
theorem bgD_sub {f : Nat → Int} {i m j n : Nat} (h : bgD f i m) (h1 : i ≤ j) (h2 : j + n ≤ i + m) : bgD f j n := fun k g1 g2 => h k (by omega) (by omega)
theorem bgD_app {f : Nat → Int} {i m n : Nat} (h1 : bgD f i m) (h2 : bgD f (i + m) n) : bgD f i (m + n) := fun k g1 g2 => by
  rcases Nat.lt_or_ge k (i + m) with h | h
  · exact h1 k g1 h
  · exact h2 k h (by omega)
theorem bgS_b {f : Nat → Int} : ∀ (m i : Nat), bgD f i m → 0 ≤ bgS f i m ∧ bgS f i m < bgP m
  | 0, i, _ => by unfold bgS bgP; omega
  | m + 1, i, h => by
    have h1 := bgS_b m (i + 1) (bgD_tl h)
    have h2 := h i (Nat.le_refl _) (by omega)
    unfold bgS bgP
    omega
theorem bgS_congr {f g : Nat → Int} : ∀ (m i : Nat), (∀ k, i ≤ k → k < i + m → f k = g k) → bgS f i m = bgS g i m
  | 0, i, _ => rfl
  | m + 1, i, h => by
    unfold bgS
    rw [h i (Nat.le_refl _) (by omega), bgS_congr m (i + 1) fun k h1 h2 => h k (by omega) (by omega)]
theorem bgS_app {f : Nat → Int} : ∀ (m n i : Nat), bgS f i (m + n) = bgS f i m + bgP m * bgS f (i + m) n
  | 0, n, i => by simp [bgS, bgP]
  | m + 1, n, i => by
    have h := bgS_app (f := f) m n (i + 1)
    have e1 : bgS f i (m + 1 + n) = f i + 1073741824 * bgS f (i + 1) (m + n) := by rw [show m + 1 + n = (m + n) + 1 by omega]; rfl
    have e2 : bgS f i (m + 1) = f i + 1073741824 * bgS f (i + 1) m := rfl
    have e3 : bgP (m + 1) = 1073741824 * bgP m := rfl
    rw [e1, e2, e3, h, show i + 1 + m = i + (m + 1) by omega, Int.mul_add, Int.mul_assoc, Int.add_assoc]
theorem bgS_zero {f : Nat → Int} : ∀ (m i : Nat), (∀ k, i ≤ k → k < i + m → f k = 0) → bgS f i m = 0
  | 0, i, _ => rfl
  | m + 1, i, h => by
    unfold bgS
    rw [h i (Nat.le_refl _) (by omega), bgS_zero m (i + 1) fun k h1 h2 => h k (by omega) (by omega)]
    rfl
theorem bgP_add : ∀ m n : Nat, bgP (m + n) = bgP m * bgP n
  | 0, n => by simp [bgP]
  | m + 1, n => by
    have e1 : bgP (m + 1 + n) = 1073741824 * bgP (m + n) := by rw [show m + 1 + n = (m + n) + 1 by omega]; rfl
    have e3 : bgP (m + 1) = 1073741824 * bgP m := rfl
    rw [e1, e3, bgP_add m n, Int.mul_assoc]
theorem bgP_mono {m n : Nat} (h : m ≤ n) : bgP m ≤ bgP n := by
  obtain ⟨k, rfl⟩ := Nat.le.dest h
  clear h
  induction k with
  | zero => exact Int.le_refl _
  | succ k ih =>
    rw [← Nat.add_assoc]
    have := bgP_pos (m + k)
    show bgP m ≤ 1073741824 * bgP (m + k)
    omega
/-- the top digit counts -/
theorem bgS_top {f : Nat → Int} {n i : Nat} (h : bgD f i (n + 1)) (h0 : f (i + n) ≠ 0) : bgP n ≤ bgS f i (n + 1) := by
  rw [bgS_app n 1 i]
  have h1 := (bgS_b n i (bgD_sub h (Nat.le_refl _) (by omega))).1
  have h2 := h (i + n) (by omega) (by omega)
  have h3 : bgS f (i + n) 1 = f (i + n) := by simp [bgS]
  rw [h3]
  have h4 : bgP n * 1 ≤ bgP n * f (i + n) := Int.mul_le_mul_of_nonneg_left (by omega) (Int.le_of_lt (bgP_pos n))
  omega
/-- two numbers whose digits from i + 1 on are alike -/
theorem bgS_gt {f g : Nat → Int} {n i : Nat} (hf : bgD f 0 n) (hg : bgD g 0 n) (hi : i < n) (he : ∀ k, i < k → k < n → f k = g k) (h : g i < f i) : bgS g 0 n < bgS f 0 n := by
  obtain ⟨m, rfl⟩ := Nat.le.dest (show i + 1 ≤ n from hi)
  rw [Nat.add_assoc, bgS_app i, bgS_app i]
  have h1 := bgS_b i 0 (bgD_sub hf (Nat.le_refl _) (by omega))
  have h2 := bgS_b i 0 (bgD_sub hg (Nat.le_refl _) (by omega))
  rw [Nat.zero_add, show 1 + m = m + 1 by omega]
  have h3 : bgS f (i + 1) m = bgS g (i + 1) m := bgS_congr m (i + 1) fun k g1 g2 => he k (by omega) (by omega)
  have h4 : bgS f i (m + 1) = f i + 1073741824 * bgS f (i + 1) m := rfl
  have h5 : bgS g i (m + 1) = g i + 1073741824 * bgS g (i + 1) m := rfl
  have h6 : bgP i * (bgS g i (m + 1) + 1) ≤ bgP i * bgS f i (m + 1) := Int.mul_le_mul_of_nonneg_left (by omega) (Int.le_of_lt (bgP_pos i))
  rw [Int.mul_add, Int.mul_one] at h6
  omega
theorem bgS_eq {f g : Nat → Int} {n : Nat} (he : ∀ k, k < n → f k = g k) : bgS f 0 n = bgS g 0 n := bgS_congr n 0 fun k _ h => he k (by omega)
