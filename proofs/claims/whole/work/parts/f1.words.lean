/-! Words of leaves: their fields, as the class reads them. -/
theorem wShl1J {i : Nat} (h : i < 63) : mjShlJ 1 (i : Int) = ((2 ^ i : Nat) : Int) := by
  have : ∀ i : Fin 63, mjShlJ 1 ((i : Nat) : Int) = ((2 ^ (i : Nat) : Nat) : Int) := by decide +kernel
  exact this ⟨i, h⟩
theorem wAndJp {x : Int} {i : Nat} (hi : i < 63) : mjAndJ x (((2 ^ i : Nat) : Int) - 1) = x % ((2 ^ i : Nat) : Int) := by
  have hp : 2 ^ i ≤ 2 ^ 62 := Nat.pow_le_pow_right (by decide) (by omega)
  have hp0 : 0 < 2 ^ i := Nat.two_pow_pos i
  have hd : (2 ^ i) ∣ 2 ^ 64 := Nat.pow_dvd_pow 2 (by omega)
  have e0 : ((((2 ^ i : Nat) : Int) - 1) % ((2 ^ 64 : Nat) : Int)).toNat = 2 ^ i - 1 := by omega
  have e1 : (BitVec.ofInt 64 x &&& BitVec.ofInt 64 (((2 ^ i : Nat) : Int) - 1)).toNat = (x % ((2 ^ 64 : Nat) : Int)).toNat % 2 ^ i := by
    rw [BitVec.toNat_and, BitVec.toNat_ofInt, BitVec.toNat_ofInt, e0]
    exact Nat.and_two_pow_sub_one_eq_mod _ i
  show (BitVec.ofInt 64 x &&& BitVec.ofInt 64 (((2 ^ i : Nat) : Int) - 1)).toInt = _
  have hlt : (x % ((2 ^ 64 : Nat) : Int)).toNat % 2 ^ i < 2 ^ i := Nat.mod_lt _ hp0
  rw [BitVec.toInt_eq_toNat_of_lt (by rw [e1]; omega), e1]
  have h1 : ((((x % ((2 ^ 64 : Nat) : Int)).toNat : Nat) : Int)) = x % ((2 ^ 64 : Nat) : Int) := by omega
  rw [Int.natCast_emod, h1]
  exact Int.emod_emod_of_dvd x (Int.natCast_dvd_natCast.mpr hd)
theorem wUshJa {x : Int} {i : Nat} (h0 : 1 ≤ i) (hi : i < 64) : mjUshJ x (i : Int) = (x % 18446744073709551616) / ((2 ^ i : Nat) : Int) := by
  have e0 : ((Int32.ofInt (i : Int)).toInt64.toUInt64 &&& Int64.toUInt64 63).toNat % 64 = i := by
    have : ∀ i : Fin 64, ((Int32.ofInt ((i : Nat) : Int)).toInt64.toUInt64 &&& Int64.toUInt64 63).toNat % 64 = i := by decide
    exact this ⟨i, hi⟩
  show (((Int64.ofInt x).toUInt64 >>> ((Int32.ofInt (i : Int)).toInt64.toUInt64 &&& Int64.toUInt64 63)).toBitVec).toInt = _
  have e1 : (((Int64.ofInt x).toUInt64 >>> ((Int32.ofInt (i : Int)).toInt64.toUInt64 &&& Int64.toUInt64 63)).toBitVec).toNat = (x % 18446744073709551616).toNat / 2 ^ i := by
    show ((Int64.ofInt x).toUInt64 >>> ((Int32.ofInt (i : Int)).toInt64.toUInt64 &&& Int64.toUInt64 63)).toNat = _
    rw [UInt64.toNat_shiftRight, e0, Nat.shiftRight_eq_div_pow]
    have e2 : (Int64.ofInt x).toUInt64.toNat = (x % 18446744073709551616).toNat := by
      show (BitVec.ofInt 64 x).toNat = _
      rw [BitVec.toNat_ofInt]
      rfl
    rw [e2]
  have hp : 2 ^ 1 ≤ 2 ^ i := Nat.pow_le_pow_right (by decide) h0
  have hb : (x % 18446744073709551616).toNat / 2 ^ i < 9223372036854775808 := by
    refine (Nat.div_lt_iff_lt_mul (Nat.two_pow_pos i)).mpr ?_
    have : 9223372036854775808 * 2 ≤ 9223372036854775808 * 2 ^ i := Nat.mul_le_mul_left _ hp
    omega
  rw [BitVec.toInt_eq_toNat_of_lt (by rw [e1]; omega), e1, Int.natCast_ediv]
  congr 1
  omega
theorem wUshIa {x : Int} : mjUshI x 23 = (x % 4294967296) / 8388608 := by
  have e0 : (((Int32.ofInt 23).toUInt32 &&& Int32.toUInt32 31)).toNat % 32 = 23 := by decide
  show (((Int32.ofInt x).toUInt32 >>> ((Int32.ofInt 23).toUInt32 &&& Int32.toUInt32 31)).toBitVec).toInt = _
  have e1 : (((Int32.ofInt x).toUInt32 >>> ((Int32.ofInt 23).toUInt32 &&& Int32.toUInt32 31)).toBitVec).toNat = (x % 4294967296).toNat / 8388608 := by
    show ((Int32.ofInt x).toUInt32 >>> ((Int32.ofInt 23).toUInt32 &&& Int32.toUInt32 31)).toNat = _
    rw [UInt32.toNat_shiftRight, e0, Nat.shiftRight_eq_div_pow]
    have e2 : (Int32.ofInt x).toUInt32.toNat = (x % 4294967296).toNat := by
      show (BitVec.ofInt 32 x).toNat = _
      rw [BitVec.toNat_ofInt]
      rfl
    rw [e2]
  rw [BitVec.toInt_eq_toNat_of_lt (by rw [e1]; omega), e1]
  omega
theorem wAndIm {x : Int} {i : Nat} (hi : i < 31) : mjAndI x (((2 ^ i : Nat) : Int) - 1) = x % ((2 ^ i : Nat) : Int) := by
  have hp : 2 ^ i ≤ 2 ^ 30 := Nat.pow_le_pow_right (by decide) (by omega)
  have hp0 : 0 < 2 ^ i := Nat.two_pow_pos i
  have hd : (2 ^ i) ∣ 2 ^ 32 := Nat.pow_dvd_pow 2 (by omega)
  have e0 : ((((2 ^ i : Nat) : Int) - 1) % ((2 ^ 32 : Nat) : Int)).toNat = 2 ^ i - 1 := by omega
  have e1 : (BitVec.ofInt 32 x &&& BitVec.ofInt 32 (((2 ^ i : Nat) : Int) - 1)).toNat = (x % ((2 ^ 32 : Nat) : Int)).toNat % 2 ^ i := by
    rw [BitVec.toNat_and, BitVec.toNat_ofInt, BitVec.toNat_ofInt, e0]
    exact Nat.and_two_pow_sub_one_eq_mod _ i
  show (BitVec.ofInt 32 x &&& BitVec.ofInt 32 (((2 ^ i : Nat) : Int) - 1)).toInt = _
  have hlt : (x % ((2 ^ 32 : Nat) : Int)).toNat % 2 ^ i < 2 ^ i := Nat.mod_lt _ hp0
  rw [BitVec.toInt_eq_toNat_of_lt (by rw [e1]; omega), e1]
  have h1 : ((((x % ((2 ^ 32 : Nat) : Int)).toNat : Nat) : Int)) = x % ((2 ^ 32 : Nat) : Int) := by omega
  rw [Int.natCast_emod, h1]
  exact Int.emod_emod_of_dvd x (Int.natCast_dvd_natCast.mpr hd)
theorem wShl1Jz {x : Int} (h0 : -9223372036854775808 ≤ x) (h1 : x < 9223372036854775808) : mjShlJ x 1 = 0 ↔ x % 9223372036854775808 = 0 := by
  have e : (((Int32.ofInt 1).toInt64 &&& 63).toBitVec.smod 64).toNat = 1 := by decide
  show ((Int64.ofInt x <<< ((Int32.ofInt 1).toInt64 &&& 63)).toBitVec).toInt = 0 ↔ _
  rw [Int64.toBitVec_shiftLeft]
  show (BitVec.ofInt 64 x <<< ((Int32.ofInt 1).toInt64 &&& 63).toBitVec.smod 64).toInt = 0 ↔ _
  rw [BitVec.shiftLeft_eq', e, BitVec.toInt_shiftLeft, BitVec.toNat_ofInt, Nat.shiftLeft_eq]
  show Int.bmod (((x % 18446744073709551616).toNat * 2 ^ 1 : Nat) : Int) 18446744073709551616 = 0 ↔ _
  have h2 := Int.bmod_emod (x := (((x % 18446744073709551616).toNat * 2 ^ 1 : Nat) : Int)) (m := 18446744073709551616)
  have h3 := Int.le_bmod (x := (((x % 18446744073709551616).toNat * 2 ^ 1 : Nat) : Int)) (m := 18446744073709551616) (by decide)
  have h4 := Int.bmod_lt (x := (((x % 18446744073709551616).toNat * 2 ^ 1 : Nat) : Int)) (m := 18446744073709551616) (by decide)
  omega
theorem wShl1Iz {x : Int} (h0 : -2147483648 ≤ x) (h1 : x < 2147483648) : mjShlI x 1 = 0 ↔ x % 2147483648 = 0 := by
  have e : ((Int32.ofInt 1 &&& 31).toBitVec.smod 32).toNat = 1 := by decide
  show ((Int32.ofInt x <<< (Int32.ofInt 1 &&& 31)).toBitVec).toInt = 0 ↔ _
  rw [Int32.toBitVec_shiftLeft]
  show (BitVec.ofInt 32 x <<< (Int32.ofInt 1 &&& 31).toBitVec.smod 32).toInt = 0 ↔ _
  rw [BitVec.shiftLeft_eq', e, BitVec.toInt_shiftLeft, BitVec.toNat_ofInt, Nat.shiftLeft_eq]
  show Int.bmod (((x % 4294967296).toNat * 2 ^ 1 : Nat) : Int) 4294967296 = 0 ↔ _
  have h2 := Int.bmod_emod (x := (((x % 4294967296).toNat * 2 ^ 1 : Nat) : Int)) (m := 4294967296)
  have h3 := Int.le_bmod (x := (((x % 4294967296).toNat * 2 ^ 1 : Nat) : Int)) (m := 4294967296) (by decide)
  have h4 := Int.bmod_lt (x := (((x % 4294967296).toNat * 2 ^ 1 : Nat) : Int)) (m := 4294967296) (by decide)
  omega
theorem wOrMan {t : Int} {i : Nat} (hi : i < 62) (h0 : 0 ≤ t) (h1 : t < ((2 ^ i : Nat) : Int)) : mjOrJ t ((2 ^ i : Nat) : Int) = ((2 ^ i : Nat) : Int) + t := by
  have hp : 2 ^ i ≤ 2 ^ 61 := Nat.pow_le_pow_right (by decide) (by omega)
  show (BitVec.ofInt 64 t ||| BitVec.ofInt 64 ((2 ^ i : Nat) : Int)).toInt = _
  have e1 : (BitVec.ofInt 64 t ||| BitVec.ofInt 64 ((2 ^ i : Nat) : Int)).toNat = 2 ^ i + t.toNat := by
    rw [BitVec.toNat_or, BitVec.toNat_ofInt, BitVec.toNat_ofInt]
    have e2 : (t % ((2 ^ 64 : Nat) : Int)).toNat = t.toNat := by omega
    have e3 : (((2 ^ i : Nat) : Int) % ((2 ^ 64 : Nat) : Int)).toNat = 1 <<< i := by rw [Nat.shiftLeft_eq]; omega
    rw [e2, e3, Nat.or_comm, ← Nat.shiftLeft_add_eq_or_of_lt (show t.toNat < 2 ^ i by omega), Nat.shiftLeft_eq, Nat.one_mul]
  rw [BitVec.toInt_eq_toNat_of_lt (by rw [e1]; omega), e1]
  omega
/-- a word as of a lane; exponent, fraction; the number over a power of two -/
def lfnW (a w : Int) : Int := if a = 0 ∨ a = 2 then mjL2I w else w
def lfnE (a w : Int) : Nat := if a = 2 then (lfnW a w / 8388608 % 256).toNat else (lfnW a w / 4503599627370496 % 2048).toNat
def lfnT (a w : Int) : Nat := if a = 2 then (lfnW a w % 8388608).toNat else (lfnW a w % 4503599627370496).toNat
def lfnC (a w : Int) : Nat := if lfnE a w = 0 then lfnT a w else if a = 2 then 8388608 + lfnT a w else 4503599627370496 + lfnT a w
def lfnQ (a w : Int) : Int := if lfnE a w = 0 then (if a = 2 then -149 else -1074) else if a = 2 then (lfnE a w : Int) - 150 else (lfnE a w : Int) - 1075
def lfnR (a w : Int) : Nat := flN (lfnC a w) (lfnQ a w) % flD (lfnQ a w)
def lfnU (a w : Int) : Nat := flN (lfnC a w) (lfnQ a w) / flD (lfnQ a w)
def lfnF (a w : Int) : Nat := if a < 2 then (if -100 ≤ lfnW a w ∧ lfnW a w ≤ 100 then 0 else 6) else if (a = 2 ∧ lfnE a w = 255) ∨ (a = 3 ∧ lfnE a w = 2047) then 5 else if lfnR a w ≠ 0 then 5 else if 100 < lfnU a w then 6 else 0
def lfnV (a w : Int) : Int := if a < 2 then lfnW a w else FP.Core.signed (decide (lfnW a w < 0)) (lfnU a w)
