/-! What the reference takes of a double; of a leaf. -/
def flFar (X : UInt64) (Z : mjZ) (q : Int → mjZ → Prop) : Prop := ((-2147483648 ≤ ((Op.cmpValue (FP.dcmp X 9218868437227405311) .l).toInt) ∧ ((Op.cmpValue (FP.dcmp X 9218868437227405311) .l).toInt) < 2147483648) ∧ ((0 < (Op.cmpValue (FP.dcmp X 9218868437227405311) .l).toInt → (q 5 (mjUp Z 464 12 101))) ∧ (¬(0 < (Op.cmpValue (FP.dcmp X 9218868437227405311) .l).toInt) → ((-2147483648 ≤ ((Op.cmpValue (FP.dcmp X 18442240474082181119) .g).toInt) ∧ ((Op.cmpValue (FP.dcmp X 18442240474082181119) .g).toInt) < 2147483648) ∧ ((0 ≤ (Op.cmpValue (FP.dcmp X 18442240474082181119) .g).toInt → ((-2147483648 ≤ ((Op.cmpValue (FP.dcmp X 4841369599423283200) .l).toInt) ∧ ((Op.cmpValue (FP.dcmp X 4841369599423283200) .l).toInt) < 2147483648) ∧ ((0 ≤ (Op.cmpValue (FP.dcmp X 4841369599423283200) .l).toInt → (q 6 (mjUp Z 464 12 101))) ∧ (¬(0 ≤ (Op.cmpValue (FP.dcmp X 4841369599423283200) .l).toInt) → ((-2147483648 ≤ ((Op.cmpValue (FP.dcmp X 14064741636278059008) .g).toInt) ∧ ((Op.cmpValue (FP.dcmp X 14064741636278059008) .g).toInt) < 2147483648) ∧ (((Op.cmpValue (FP.dcmp X 14064741636278059008) .g).toInt ≤ 0 → (q 6 (mjUp Z 464 12 101))) ∧ (¬((Op.cmpValue (FP.dcmp X 14064741636278059008) .g).toInt ≤ 0) → ((-2147483648 ≤ ((Op.cmpValue (FP.dcmp X (FP.l2d (Int64.ofInt ((FP.d2l X).toInt)))) .l).toInt) ∧ ((Op.cmpValue (FP.dcmp X (FP.l2d (Int64.ofInt ((FP.d2l X).toInt)))) .l).toInt) < 2147483648) ∧ (((Op.cmpValue (FP.dcmp X (FP.l2d (Int64.ofInt ((FP.d2l X).toInt)))) .l).toInt ≠ 0 → (q 5 (mjUp Z 464 12 101))) ∧ (¬((Op.cmpValue (FP.dcmp X (FP.l2d (Int64.ofInt ((FP.d2l X).toInt)))) .l).toInt ≠ 0) → (q 6 (mjUp Z 464 12 101)))))))))))) ∧ (¬(0 ≤ (Op.cmpValue (FP.dcmp X 18442240474082181119) .g).toInt) → (q 5 (mjUp Z 464 12 101))))))))
/-- what the walk of take wants, from a double X on -/
def flTk (X : UInt64) (Z : mjZ) (q : Int → mjZ → Prop) : Prop := ((-2147483648 ≤ ((Op.cmpValue (FP.dcmp X 4652007308841189376) .l).toInt) ∧ ((Op.cmpValue (FP.dcmp X 4652007308841189376) .l).toInt) < 2147483648) ∧ ((0 < (Op.cmpValue (FP.dcmp X 4652007308841189376) .l).toInt → ((-2147483648 ≤ ((Op.cmpValue (FP.dcmp X 9218868437227405311) .l).toInt) ∧ ((Op.cmpValue (FP.dcmp X 9218868437227405311) .l).toInt) < 2147483648) ∧ ((0 < (Op.cmpValue (FP.dcmp X 9218868437227405311) .l).toInt → (q 5 (mjUp Z 464 12 101))) ∧ (¬(0 < (Op.cmpValue (FP.dcmp X 9218868437227405311) .l).toInt) → ((-2147483648 ≤ ((Op.cmpValue (FP.dcmp X 18442240474082181119) .g).toInt) ∧ ((Op.cmpValue (FP.dcmp X 18442240474082181119) .g).toInt) < 2147483648) ∧ ((0 ≤ (Op.cmpValue (FP.dcmp X 18442240474082181119) .g).toInt → ((-2147483648 ≤ ((Op.cmpValue (FP.dcmp X 4841369599423283200) .l).toInt) ∧ ((Op.cmpValue (FP.dcmp X 4841369599423283200) .l).toInt) < 2147483648) ∧ ((0 ≤ (Op.cmpValue (FP.dcmp X 4841369599423283200) .l).toInt → (q 6 (mjUp Z 464 12 101))) ∧ (¬(0 ≤ (Op.cmpValue (FP.dcmp X 4841369599423283200) .l).toInt) → ((-2147483648 ≤ ((Op.cmpValue (FP.dcmp X 14064741636278059008) .g).toInt) ∧ ((Op.cmpValue (FP.dcmp X 14064741636278059008) .g).toInt) < 2147483648) ∧ (((Op.cmpValue (FP.dcmp X 14064741636278059008) .g).toInt ≤ 0 → (q 6 (mjUp Z 464 12 101))) ∧ (¬((Op.cmpValue (FP.dcmp X 14064741636278059008) .g).toInt ≤ 0) → ((-2147483648 ≤ ((Op.cmpValue (FP.dcmp X (FP.l2d (Int64.ofInt ((FP.d2l X).toInt)))) .l).toInt) ∧ ((Op.cmpValue (FP.dcmp X (FP.l2d (Int64.ofInt ((FP.d2l X).toInt)))) .l).toInt) < 2147483648) ∧ (((Op.cmpValue (FP.dcmp X (FP.l2d (Int64.ofInt ((FP.d2l X).toInt)))) .l).toInt ≠ 0 → (q 5 (mjUp Z 464 12 101))) ∧ (¬((Op.cmpValue (FP.dcmp X (FP.l2d (Int64.ofInt ((FP.d2l X).toInt)))) .l).toInt ≠ 0) → (q 6 (mjUp Z 464 12 101)))))))))))) ∧ (¬(0 ≤ (Op.cmpValue (FP.dcmp X 18442240474082181119) .g).toInt) → (q 5 (mjUp Z 464 12 101))))))))) ∧ (¬(0 < (Op.cmpValue (FP.dcmp X 4652007308841189376) .l).toInt) → ((-2147483648 ≤ ((Op.cmpValue (FP.dcmp X 13875379345695965184) .g).toInt) ∧ ((Op.cmpValue (FP.dcmp X 13875379345695965184) .g).toInt) < 2147483648) ∧ ((0 ≤ (Op.cmpValue (FP.dcmp X 13875379345695965184) .g).toInt → ((-2147483648 ≤ ((Op.cmpValue (FP.dcmp X (FP.i2d (Int32.ofInt ((mjUp Z 464 12 ((FP.d2i X).toInt)) 464 12)))) .l).toInt) ∧ ((Op.cmpValue (FP.dcmp X (FP.i2d (Int32.ofInt ((mjUp Z 464 12 ((FP.d2i X).toInt)) 464 12)))) .l).toInt) < 2147483648) ∧ (((Op.cmpValue (FP.dcmp X (FP.i2d (Int32.ofInt ((mjUp Z 464 12 ((FP.d2i X).toInt)) 464 12)))) .l).toInt = 0 → ((-2147483648 ≤ ((mjUp Z 464 12 ((FP.d2i X).toInt)) 464 12) ∧ ((mjUp Z 464 12 ((FP.d2i X).toInt)) 464 12) < 2147483648) ∧ ((((mjUp Z 464 12 ((FP.d2i X).toInt)) 464 12) < (-100) → (q 6 (mjUp Z 464 12 ((FP.d2i X).toInt)))) ∧ (¬(((mjUp Z 464 12 ((FP.d2i X).toInt)) 464 12) < (-100)) → ((((mjUp Z 464 12 ((FP.d2i X).toInt)) 464 12) ≤ 100 → (q 0 (mjUp Z 464 12 ((FP.d2i X).toInt)))) ∧ (¬(((mjUp Z 464 12 ((FP.d2i X).toInt)) 464 12) ≤ 100) → (q 6 (mjUp Z 464 12 ((FP.d2i X).toInt))))))))) ∧ (¬((Op.cmpValue (FP.dcmp X (FP.i2d (Int32.ofInt ((mjUp Z 464 12 ((FP.d2i X).toInt)) 464 12)))) .l).toInt = 0) → (q 5 (mjUp Z 464 12 ((FP.d2i X).toInt))))))) ∧ (¬(0 ≤ (Op.cmpValue (FP.dcmp X 13875379345695965184) .g).toInt) → ((-2147483648 ≤ ((Op.cmpValue (FP.dcmp X 9218868437227405311) .l).toInt) ∧ ((Op.cmpValue (FP.dcmp X 9218868437227405311) .l).toInt) < 2147483648) ∧ ((0 < (Op.cmpValue (FP.dcmp X 9218868437227405311) .l).toInt → (q 5 (mjUp Z 464 12 101))) ∧ (¬(0 < (Op.cmpValue (FP.dcmp X 9218868437227405311) .l).toInt) → ((-2147483648 ≤ ((Op.cmpValue (FP.dcmp X 18442240474082181119) .g).toInt) ∧ ((Op.cmpValue (FP.dcmp X 18442240474082181119) .g).toInt) < 2147483648) ∧ ((0 ≤ (Op.cmpValue (FP.dcmp X 18442240474082181119) .g).toInt → ((-2147483648 ≤ ((Op.cmpValue (FP.dcmp X 4841369599423283200) .l).toInt) ∧ ((Op.cmpValue (FP.dcmp X 4841369599423283200) .l).toInt) < 2147483648) ∧ ((0 ≤ (Op.cmpValue (FP.dcmp X 4841369599423283200) .l).toInt → (q 6 (mjUp Z 464 12 101))) ∧ (¬(0 ≤ (Op.cmpValue (FP.dcmp X 4841369599423283200) .l).toInt) → ((-2147483648 ≤ ((Op.cmpValue (FP.dcmp X 14064741636278059008) .g).toInt) ∧ ((Op.cmpValue (FP.dcmp X 14064741636278059008) .g).toInt) < 2147483648) ∧ (((Op.cmpValue (FP.dcmp X 14064741636278059008) .g).toInt ≤ 0 → (q 6 (mjUp Z 464 12 101))) ∧ (¬((Op.cmpValue (FP.dcmp X 14064741636278059008) .g).toInt ≤ 0) → ((-2147483648 ≤ ((Op.cmpValue (FP.dcmp X (FP.l2d (Int64.ofInt ((FP.d2l X).toInt)))) .l).toInt) ∧ ((Op.cmpValue (FP.dcmp X (FP.l2d (Int64.ofInt ((FP.d2l X).toInt)))) .l).toInt) < 2147483648) ∧ (((Op.cmpValue (FP.dcmp X (FP.l2d (Int64.ofInt ((FP.d2l X).toInt)))) .l).toInt ≠ 0 → (q 5 (mjUp Z 464 12 101))) ∧ (¬((Op.cmpValue (FP.dcmp X (FP.l2d (Int64.ofInt ((FP.d2l X).toInt)))) .l).toInt ≠ 0) → (q 6 (mjUp Z 464 12 101)))))))))))) ∧ (¬(0 ≤ (Op.cmpValue (FP.dcmp X 18442240474082181119) .g).toInt) → (q 5 (mjUp Z 464 12 101))))))))))))))
section FLK
variable {X : UInt64} {Z : mjZ} {s : Bool} {c : Nat} {q : Int} {Q : Int → mjZ → Prop}
theorem fl_k1 : FP.Core.decode FP.Core.b64 (4652007308841189376 : UInt64).toNat = .fin false 8796093022208000 (-43) := by decide +kernel
theorem fl_k2 : FP.Core.decode FP.Core.b64 (9218868437227405311 : UInt64).toNat = .fin false 9007199254740991 971 := by decide +kernel
theorem fl_k3 : FP.Core.decode FP.Core.b64 (18442240474082181119 : UInt64).toNat = .fin true 9007199254740991 971 := by decide +kernel
theorem fl_k4 : FP.Core.decode FP.Core.b64 (4841369599423283200 : UInt64).toNat = .fin false 4503599627370496 0 := by decide +kernel
theorem fl_k5 : FP.Core.decode FP.Core.b64 (14064741636278059008 : UInt64).toNat = .fin true 4503599627370496 0 := by decide +kernel
theorem fl_k6 : FP.Core.decode FP.Core.b64 (13875379345695965184 : UInt64).toNat = .fin true 8796093022208000 (-43) := by decide +kernel
theorem flc_r {r : Option Ordering} {op : CmpOp} : -2147483648 ≤ (Op.cmpValue r op).toInt ∧ (Op.cmpValue r op).toInt < 2147483648 := ⟨Int32.le_toInt _, Int32.toInt_lt _⟩
theorem fl_sg (s : Bool) (c : Nat) : FP.Core.signed s c = (c : Int) ∧ s = false ∨ FP.Core.signed s c = -(c : Int) ∧ s = true := by
  cases s
  · exact Or.inl ⟨rfl, rfl⟩
  · exact Or.inr ⟨rfl, rfl⟩
theorem fl_sgb {s : Bool} {u K : Nat} (h : u ≤ K) : -(K : Int) ≤ FP.Core.signed s u ∧ FP.Core.signed s u ≤ (K : Int) := by
  rcases fl_sg s u with g | g <;> rw [g.1] <;> omega
theorem fl_c1 (hX : FP.Core.decode FP.Core.b64 X.toNat = .fin s c q) : 0 < (Op.cmpValue (FP.dcmp X 4652007308841189376) .l).toInt ↔ 1000 * (flD q : Int) < FP.Core.signed s (flN c q) := by
  rw [fl_dc hX fl_k1, wCm_gt, show FP.Core.signed false (flN 8796093022208000 (-43)) = 8796093022208000 by decide, show ((flD (-43) : Nat) : Int) = 8796093022208 by decide]
  omega
theorem fl_c6 (hX : FP.Core.decode FP.Core.b64 X.toNat = .fin s c q) : 0 ≤ (Op.cmpValue (FP.dcmp X 13875379345695965184) .g).toInt ↔ -1000 * (flD q : Int) ≤ FP.Core.signed s (flN c q) := by
  rw [fl_dc hX fl_k6, wCm_ge, show FP.Core.signed true (flN 8796093022208000 (-43)) = -8796093022208000 by decide, show ((flD (-43) : Nat) : Int) = 8796093022208 by decide]
  omega
theorem fl_c4 (hX : FP.Core.decode FP.Core.b64 X.toNat = .fin s c q) : 0 ≤ (Op.cmpValue (FP.dcmp X 4841369599423283200) .l).toInt ↔ 4503599627370496 * (flD q : Int) ≤ FP.Core.signed s (flN c q) := by
  rw [fl_dc hX fl_k4, wCm_ge, show FP.Core.signed false (flN 4503599627370496 0) = 4503599627370496 by decide, show ((flD 0 : Nat) : Int) = 1 by decide]
  omega
theorem fl_c5 (hX : FP.Core.decode FP.Core.b64 X.toNat = .fin s c q) : (Op.cmpValue (FP.dcmp X 14064741636278059008) .g).toInt ≤ 0 ↔ FP.Core.signed s (flN c q) ≤ -4503599627370496 * (flD q : Int) := by
  rw [fl_dc hX fl_k5, wCm_le, show FP.Core.signed true (flN 4503599627370496 0) = -4503599627370496 by decide, show ((flD 0 : Nat) : Int) = 1 by decide]
  omega
theorem fl_bd (hc : c < 9007199254740992) (hq : q ≤ 971) : flN c q ≤ flN 9007199254740991 971 * flD q := by
  have h1 : flN c q ≤ flN 9007199254740991 971 := Nat.mul_le_mul (by omega) (Nat.pow_le_pow_right (by decide) (show q.toNat ≤ (971 : Int).toNat by omega))
  exact Nat.le_trans h1 (Nat.le_mul_of_pos_right _ flD_pos)
theorem fl_c2 (hX : FP.Core.decode FP.Core.b64 X.toNat = .fin s c q) (hc : c < 9007199254740992) (hq : q ≤ 971) : ¬ 0 < (Op.cmpValue (FP.dcmp X 9218868437227405311) .l).toInt := by
  rw [fl_dc hX fl_k2, wCm_gt, show ((flD 971 : Nat) : Int) = 1 by decide]
  have h := fl_bd hc hq
  show ¬ ((flN 9007199254740991 971 : Nat) : Int) * ((flD q : Nat) : Int) < _
  rw [← Int.natCast_mul]
  revert h
  generalize flN 9007199254740991 971 * flD q = y
  intro h
  rcases fl_sg s (flN c q) with g | g <;> rw [g.1] <;> omega
theorem fl_c3 (hX : FP.Core.decode FP.Core.b64 X.toNat = .fin s c q) (hc : c < 9007199254740992) (hq : q ≤ 971) : 0 ≤ (Op.cmpValue (FP.dcmp X 18442240474082181119) .g).toInt := by
  rw [fl_dc hX fl_k3, wCm_ge, show ((flD 971 : Nat) : Int) = 1 by decide]
  have h := fl_bd hc hq
  show -((flN 9007199254740991 971 : Nat) : Int) * ((flD q : Nat) : Int) ≤ _
  rw [Int.neg_mul, ← Int.natCast_mul]
  revert h
  generalize flN 9007199254740991 971 * flD q = y
  intro h
  rcases fl_sg s (flN c q) with g | g <;> rw [g.1] <;> omega
/-- against a whole number, as a double -/
theorem fl_cL (hX : FP.Core.decode FP.Core.b64 X.toNat = .fin s c q) {L : Int} (h1 : -9007199254740992 < L) (h2 : L < 9007199254740992) {op : CmpOp} : (Op.cmpValue (FP.dcmp X (UInt64.ofNat (FP.Core.fromInt FP.Core.b64 L))) op).toInt = mjCm (FP.Core.signed s (flN c q)) (L * flD q) := by
  obtain ⟨t, d, r, g1, g2⟩ := fl_int h1 h2
  rw [fl_dc hX g1, g2, Int.mul_right_comm, mjCm_mul flD_pos]
theorem fl_tr (hX : FP.Core.decode FP.Core.b64 X.toNat = .fin s c q) {K : Nat} (hK : flN c q / flD q ≤ K) (hK2 : K < 4503599627370497) : (FP.d2l X).toInt = FP.Core.signed s (flN c q / flD q) := by
  show (Int64.ofInt (FP.Core.toInt (-2 ^ 63) (2 ^ 63 - 1) (FP.Core.decode FP.Core.b64 X.toNat))).toInt = _
  rw [hX]
  have hx0 := fl_sgb (s := s) hK
  have hx : -4503599627370497 < FP.Core.signed s (flN c q / flD q) ∧ FP.Core.signed s (flN c q / flD q) < 4503599627370497 := by omega
  show (BitVec.ofInt 64 (max (-9223372036854775808) (min 9223372036854775807 (FP.Core.signed s (flN c q / flD q))))).toInt = _
  revert hx
  generalize FP.Core.signed s (flN c q / flD q) = x
  intro hx
  rw [show max (-9223372036854775808) (min 9223372036854775807 x) = x by omega, BitVec.toInt_ofInt, Int.bmod_eq_of_le (by omega) (by omega)]
theorem fl_tri (hX : FP.Core.decode FP.Core.b64 X.toNat = .fin s c q) {K : Nat} (hK : flN c q / flD q ≤ K) (hK2 : K < 1001) : (FP.d2i X).toInt = FP.Core.signed s (flN c q / flD q) := by
  show (Int32.ofInt (FP.Core.toInt (-2 ^ 31) (2 ^ 31 - 1) (FP.Core.decode FP.Core.b64 X.toNat))).toInt = _
  rw [hX]
  have hx0 := fl_sgb (s := s) hK
  have hx : -1001 < FP.Core.signed s (flN c q / flD q) ∧ FP.Core.signed s (flN c q / flD q) < 1001 := by omega
  show (BitVec.ofInt 32 (max (-2147483648) (min 2147483647 (FP.Core.signed s (flN c q / flD q))))).toInt = _
  revert hx
  generalize FP.Core.signed s (flN c q / flD q) = x
  intro hx
  rw [show max (-2147483648) (min 2147483647 x) = x by omega, BitVec.toInt_ofInt, Int.bmod_eq_of_le (by omega) (by omega)]
theorem fl_wh : FP.Core.signed s (flN c q) = FP.Core.signed s (flN c q / flD q) * flD q ↔ flN c q % flD q = 0 := by
  rw [← fl_sgm]
  have h := Nat.div_add_mod (flN c q) (flD q)
  rw [Nat.mul_comm] at h
  revert h
  generalize flN c q / flD q * flD q = y
  generalize flN c q % flD q = r
  intro h
  rcases fl_sg s (flN c q) with g | g <;> rcases fl_sg s y with g2 | g2 <;> rw [g.1, g2.1] <;> first | omega | (rw [g.2] at g2; exact absurd g2.2 (by decide))
theorem fl_take (hX : FP.Core.decode FP.Core.b64 X.toNat = .fin s c q) (hc : c < 9007199254740992) (hq : q ≤ 971) (q5 : flN c q % flD q ≠ 0 → ∀ t, Q 5 (mjUp Z 464 12 t)) (q6 : flN c q % flD q = 0 → 100 < flN c q / flD q → ∀ t, Q 6 (mjUp Z 464 12 t)) (q0 : flN c q % flD q = 0 → flN c q / flD q ≤ 100 → Q 0 (mjUp Z 464 12 (FP.Core.signed s (flN c q / flD q)))) : flTk X Z Q := by
  have hD : 0 < flD q := flD_pos
  have far : (1000 * (flD q : Int) < FP.Core.signed s (flN c q) ∨ ¬ -1000 * (flD q : Int) ≤ FP.Core.signed s (flN c q)) → 1000 * flD q < flN c q := fun h => by
    rcases fl_sg s (flN c q) with g | g <;> rw [g.1] at h <;> omega
  have big : 1000 * flD q < flN c q → 100 < flN c q / flD q := fun h => by
    have : 1000 ≤ flN c q / flD q := (Nat.le_div_iff_mul_le hD).mpr (by omega)
    omega
  have whole : 4503599627370496 * flD q ≤ flN c q → flN c q % flD q = 0 := fun h => by
    by_cases hq0 : 0 ≤ q
    · have e : flD q = 1 := by unfold flD; rw [show (-q).toNat = 0 by omega, Nat.pow_zero]
      rw [e, Nat.mod_one]
    · have e : flN c q = c := by unfold flN; rw [show q.toNat = 0 by omega, Nat.pow_zero, Nat.mul_one]
      have e2 : 2 ≤ flD q := by
        have : 2 ^ 1 ≤ 2 ^ (-q).toNat := Nat.pow_le_pow_right (by decide) (by omega)
        exact this
      rw [e] at h
      omega
  have pF : (1000 * (flD q : Int) < FP.Core.signed s (flN c q) ∨ ¬ -1000 * (flD q : Int) ≤ FP.Core.signed s (flN c q)) → flFar X Z Q := fun hf => by
    have hf2 := far hf
    have hb := big hf2
    refine ⟨flc_r, fun g => absurd g (fl_c2 hX hc hq), fun _ => ⟨flc_r, fun _ => ⟨flc_r, fun g => ?_, fun g => ⟨flc_r, fun g2 => ?_, fun g2 => ?_⟩⟩, fun g => absurd (fl_c3 hX hc hq) g⟩⟩
    · rw [fl_c4 hX] at g
      refine q6 (whole ?_) hb _
      rcases fl_sg s (flN c q) with k | k <;> rw [k.1] at g <;> omega
    · rw [fl_c5 hX] at g2
      refine q6 (whole ?_) hb _
      rcases fl_sg s (flN c q) with k | k <;> rw [k.1] at g2 <;> omega
    · rw [fl_c4 hX] at g
      rw [fl_c5 hX] at g2
      have hlt : flN c q / flD q < 4503599627370496 := (Nat.div_lt_iff_lt_mul hD).mpr (by rcases fl_sg s (flN c q) with k | k <;> rw [k.1] at g g2 <;> omega)
      have e1 := fl_tr (K := 4503599627370496) hX (by omega) (by omega)
      have e2 : FP.l2d (Int64.ofInt ((FP.d2l X).toInt)) = UInt64.ofNat (FP.Core.fromInt FP.Core.b64 (FP.Core.signed s (flN c q / flD q))) := by
        rw [Int64.ofInt_toInt, ← e1]
        rfl
      have e30 := fl_sgb (s := s) (Nat.le_of_lt hlt)
      have e3 : -9007199254740992 < FP.Core.signed s (flN c q / flD q) ∧ FP.Core.signed s (flN c q / flD q) < 9007199254740992 := by omega
      rw [e2, fl_cL hX e3.1 e3.2]
      refine ⟨wCmR, fun g3 => ?_, fun g3 => ?_⟩
      · rw [wCm_ne] at g3
        exact q5 (fun k => g3 (fl_wh.mpr k)) _
      · exact q6 (fl_wh.mp (wCm_eq.mp (Decidable.not_not.mp g3))) hb _
  unfold flTk
  refine ⟨flc_r, fun g => ?_, fun g => ⟨flc_r, fun g2 => ?_, fun g2 => ?_⟩⟩
  · rw [fl_c1 hX] at g
    exact pF (Or.inl g)
  · rw [fl_c1 hX] at g
    rw [fl_c6 hX] at g2
    have hle : flN c q / flD q ≤ 1000 := Nat.div_le_of_le_mul (by rcases fl_sg s (flN c q) with k | k <;> rw [k.1] at g g2 <;> omega)
    have e1 := fl_tri (K := 1000) hX (by omega) (by omega)
    have e30 := fl_sgb (s := s) hle
    have e3 : -9007199254740992 < FP.Core.signed s (flN c q / flD q) ∧ FP.Core.signed s (flN c q / flD q) < 9007199254740992 := by omega
    have e2 : FP.i2d (Int32.ofInt ((mjUp Z 464 12 ((FP.d2i X).toInt)) 464 12)) = UInt64.ofNat (FP.Core.fromInt FP.Core.b64 (FP.Core.signed s (flN c q / flD q))) := by
      rw [mjUp_at, Int32.ofInt_toInt, ← e1]
      rfl
    rw [e2, fl_cL hX e3.1 e3.2, mjUp_at, e1]
    refine ⟨wCmR, fun g3 => ?_, fun g3 => ?_⟩
    · have hw := fl_wh.mp (wCm_eq.mp g3)
      revert q6 q0 e30
      generalize flN c q / flD q = u
      intro q6 q0 e30
      have k := fl_sg s u
      refine ⟨by omega, fun g4 => ?_, fun g4 => ⟨fun g5 => ?_, fun g5 => ?_⟩⟩
      · refine q6 hw ?_ _
        rcases k with k | k <;> rw [k.1] at g4 <;> omega
      · refine q0 hw ?_
        rcases k with k | k <;> rw [k.1] at g4 g5 <;> omega
      · refine q6 hw ?_ _
        rcases k with k | k <;> rw [k.1] at g4 g5 <;> omega
    · refine q5 (fun k => ?_) _
      rw [wCm_eq] at g3
      exact g3 (fl_wh.mpr k)
  · rw [fl_c6 hX] at g2
    exact pF (Or.inr g2)
theorem fl_takeI (hX : FP.Core.decode FP.Core.b64 X.toNat = .inf s) (q5 : ∀ t, Q 5 (mjUp Z 464 12 t)) : flTk X Z Q := by
  have e1 := fl_dci (op := .l) hX fl_k1
  have e2 := fl_dci (op := .l) hX fl_k2
  have e3 := fl_dci (op := .g) hX fl_k3
  have e6 := fl_dci (op := .g) hX fl_k6
  unfold flTk
  rw [e1, e2, e3, e6]
  cases s
  · exact ⟨by decide, fun _ => ⟨by decide, fun _ => q5 _, fun g => absurd (by decide) g⟩, fun g => absurd (by decide) g⟩
  · exact ⟨by decide, fun g => absurd g (by decide), fun _ => ⟨by decide, fun g => absurd g (by decide), fun _ => ⟨by decide, fun g => absurd g (by decide), fun _ => ⟨by decide, fun g => absurd g (by decide), fun _ => q5 _⟩⟩⟩⟩
end FLK
