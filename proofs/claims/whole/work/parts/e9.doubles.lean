/-! Doubles as whole numbers over powers of two; words' fields. -/
def flN (c : Nat) (q : Int) : Nat := c * 2 ^ q.toNat
def flD (q : Int) : Nat := 2 ^ (-q).toNat
theorem flD_pos {q : Int} : 0 < flD q := Nat.two_pow_pos _
theorem mjCm_mul {x y : Int} {k : Nat} (hk : 0 < k) : mjCm (x * k) (y * k) = mjCm x y := by
  have hk' : (0 : Int) < (k : Int) := by omega
  unfold mjCm
  by_cases h : x < y
  · rw [if_pos h, if_pos (Int.mul_lt_mul_of_pos_right h hk')]
  · by_cases h2 : x = y
    · rw [if_neg h, if_pos h2, h2, if_neg (by omega), if_pos rfl]
    · have h3 : y * (k : Int) < x * (k : Int) := Int.mul_lt_mul_of_pos_right (by omega) hk'
      rw [if_neg h, if_neg h2, if_neg (by omega), if_neg (by omega)]
theorem fl_cmI {A B : Int} {op : CmpOp} : (Op.cmpValue (some (compare A B)) op).toInt = mjCm A B := by
  show (Op.cmpValue (some (compareOfLessAndEq A B)) op).toInt = mjCm A B
  unfold mjCm compareOfLessAndEq
  by_cases h : A < B
  · rw [if_pos h, if_pos h]; rfl
  · by_cases h2 : A = B
    · rw [if_neg h, if_neg h, if_pos h2, if_pos h2]; rfl
    · rw [if_neg h, if_neg h, if_neg h2, if_neg h2]; rfl
theorem fl_sgm (s : Bool) (c k : Nat) : FP.Core.signed s (c * k) = FP.Core.signed s c * (k : Int) := by
  cases s
  · show ((c * k : Nat) : Int) = (c : Int) * (k : Int)
    exact Int.natCast_mul c k
  · show -((c * k : Nat) : Int) = -(c : Int) * (k : Int)
    rw [Int.natCast_mul, Int.neg_mul]
theorem fl_unit (c : Nat) (q r : Int) : flN c q * flD r = FP.Core.inUnits c q (min q r) * 2 ^ (min q r + (-q).toNat + (-r).toNat).toNat := by
  unfold flN flD FP.Core.inUnits
  rw [Nat.mul_assoc, Nat.mul_assoc, ← Nat.pow_add, ← Nat.pow_add]
  congr 2
  omega
theorem fl_dc {X K : UInt64} {s t : Bool} {c d : Nat} {q r : Int} {op : CmpOp} (hX : FP.Core.decode FP.Core.b64 X.toNat = .fin s c q) (hK : FP.Core.decode FP.Core.b64 K.toNat = .fin t d r) : (Op.cmpValue (FP.dcmp X K) op).toInt = mjCm (FP.Core.signed s (flN c q) * flD r) (FP.Core.signed t (flN d r) * flD q) := by
  show (Op.cmpValue (FP.Core.order (FP.Core.decode FP.Core.b64 X.toNat) (FP.Core.decode FP.Core.b64 K.toNat)) op).toInt = _
  rw [hX, hK]
  show (Op.cmpValue (some (compare (FP.Core.signed s (FP.Core.inUnits c q (min q r))) (FP.Core.signed t (FP.Core.inUnits d r (min q r))))) op).toInt = _
  rw [fl_cmI, ← fl_sgm, ← fl_sgm, fl_unit c q r, fl_unit d r q, Int.min_comm r q, fl_sgm, fl_sgm, show min q r + (-r).toNat + (-q).toNat = min q r + (-q).toNat + (-r).toNat by omega, mjCm_mul (Nat.two_pow_pos _)]
theorem fl_dci {X K : UInt64} {s t : Bool} {d : Nat} {r : Int} {op : CmpOp} (hX : FP.Core.decode FP.Core.b64 X.toNat = .inf s) (hK : FP.Core.decode FP.Core.b64 K.toNat = .fin t d r) : (Op.cmpValue (FP.dcmp X K) op).toInt = if s then -1 else 1 := by
  show (Op.cmpValue (FP.Core.order (FP.Core.decode FP.Core.b64 X.toNat) (FP.Core.decode FP.Core.b64 K.toNat)) op).toInt = _
  rw [hX, hK]
  cases s <;> rfl
theorem fl_tails : FP.Core.b64.tails = 4503599627370496 := by decide
theorem fl_exps : FP.Core.b64.exps = 2048 := by decide
theorem fl_qmin : FP.Core.b64.qmin = -1074 := by decide
theorem fl_qmax : FP.Core.b64.qmax = 971 := by decide
set_option maxRecDepth 10000 in
theorem fl_asm {s : Bool} {e t : Nat} (he : 1 ≤ e) (he2 : e < 2047) (ht : t < 4503599627370496) : FP.Core.decode FP.Core.b64 (UInt64.ofNat (FP.Core.assemble FP.Core.b64 s e t)).toNat = .fin s (4503599627370496 + t) (-1075 + (e : Int)) := by
  have hn : (UInt64.ofNat (FP.Core.assemble FP.Core.b64 s e t)).toNat = (s.toNat * 2048 + e) * 4503599627370496 + t := by
    rw [UInt64.toNat_ofNat']
    unfold FP.Core.assemble
    rw [fl_tails, fl_exps]
    have : s.toNat ≤ 1 := by cases s <;> decide
    omega
  rw [hn]
  have hs : s.toNat ≤ 1 := by cases s <;> decide
  unfold FP.Core.decode FP.Core.fieldE FP.Core.fieldT FP.Core.fieldS
  rw [fl_tails, fl_exps, fl_qmin]
  have h1 : ((s.toNat * 2048 + e) * 4503599627370496 + t) / 4503599627370496 = s.toNat * 2048 + e := by omega
  rw [h1, show (s.toNat * 2048 + e) % 2048 = e by omega, if_neg (by omega), if_neg (by omega)]
  have h2 : (s.toNat * 2048 + e) / 2048 = s.toNat := by omega
  have h3 : ((s.toNat * 2048 + e) * 4503599627370496 + t) % 4503599627370496 = t := by omega
  rw [h2, h3]
  have h4 : (s.toNat % 2 == 1) = s := by cases s <;> rfl
  rw [h4]
  congr 1
  omega
set_option maxRecDepth 10000 in
/-- a whole number of at most 53 bits, over a power of two, is what it is as a double -/
theorem fl_exact {s : Bool} {c : Nat} {q : Int} (hc : 0 < c) (hc2 : c < 9007199254740992) (hq : -1000 ≤ q) (hq2 : q ≤ 900) : FP.Core.decode FP.Core.b64 (UInt64.ofNat (FP.Core.encode FP.Core.b64 (FP.Core.roundRatio FP.Core.b64 s c 1 q))).toNat = .fin s (c * 2 ^ (52 - c.log2)) (q - ((52 - c.log2 : Nat) : Int)) := by
  have h1 : 2 ^ c.log2 ≤ c := Nat.log2_self_le (by omega)
  have h2 : c < 2 ^ (c.log2 + 1) := Nat.lt_log2_self
  have h3 : c.log2 ≤ 52 := by
    have : c.log2 < 53 := (Nat.log2_lt (by omega)).mpr (by omega)
    omega
  have hl : FP.Core.leading c 1 = (c.log2 : Int) := by
    unfold FP.Core.leading
    rw [show (1 : Nat).log2 = 0 by decide]
    have e1 : ((c.log2 : Int) - ((0 : Nat) : Int)).toNat = c.log2 := by omega
    have e2 : (-((c.log2 : Int) - ((0 : Nat) : Int))).toNat = 0 := by omega
    simp only [e1, e2]
    rw [if_pos (by omega)]
    omega
  have hqu : FP.Core.quantum FP.Core.b64 c 1 q = q - ((52 - c.log2 : Nat) : Int) := by
    unfold FP.Core.quantum
    rw [hl, fl_qmin, show FP.Core.b64.p = 53 from rfl]
    omega
  have hp : c * 2 ^ (52 - c.log2) < 9007199254740992 ∧ 4503599627370496 ≤ c * 2 ^ (52 - c.log2) := by
    have e1 : 2 ^ (c.log2 + 1) * 2 ^ (52 - c.log2) = 9007199254740992 := by
      rw [← Nat.pow_add, show c.log2 + 1 + (52 - c.log2) = 53 by omega]
    have e2 : 2 ^ c.log2 * 2 ^ (52 - c.log2) = 4503599627370496 := by
      rw [← Nat.pow_add, show c.log2 + (52 - c.log2) = 52 by omega]
    constructor
    · rw [← e1]
      exact Nat.mul_lt_mul_of_pos_right h2 (Nat.two_pow_pos _)
    · rw [← e2]
      exact Nat.mul_le_mul_right _ h1
  have hr : FP.Core.roundRatio FP.Core.b64 s c 1 q = .fin s (c * 2 ^ (52 - c.log2)) (q - ((52 - c.log2 : Nat) : Int)) := by
    unfold FP.Core.roundRatio FP.Core.roundAt
    rw [if_neg (by omega), hqu]
    have e1 : FP.Core.unitsNum c q (q - ((52 - c.log2 : Nat) : Int)) = c * 2 ^ (52 - c.log2) := by
      unfold FP.Core.unitsNum
      congr 2
      omega
    have e2 : FP.Core.unitsDen 1 q (q - ((52 - c.log2 : Nat) : Int)) = 1 := by
      unfold FP.Core.unitsDen
      rw [show (q - ((52 - c.log2 : Nat) : Int) - q).toNat = 0 by omega]
    have e3 : ∀ n, FP.Core.nearest n 1 = n := fun n => by
      unfold FP.Core.nearest
      rw [Nat.mod_one, Nat.div_one, if_pos (by omega)]
    rw [e1, e2, e3]
    unfold FP.Core.settle FP.Core.bound
    rw [fl_qmax, show FP.Core.b64.p = 53 from rfl, if_pos (by omega), if_pos (by omega)]
  rw [hr]
  unfold FP.Core.encode
  simp only []
  rw [fl_tails, fl_qmin, if_neg (by omega), fl_asm (by omega) (by omega) (by omega)]
  have e1 : 4503599627370496 + (c * 2 ^ (52 - c.log2) - 4503599627370496) = c * 2 ^ (52 - c.log2) := by omega
  have e2 : -1075 + (((q - ((52 - c.log2 : Nat) : Int) - -1074).toNat + 1 : Nat) : Int) = q - ((52 - c.log2 : Nat) : Int) := by omega
  rw [e1, e2]
/-- a whole number of at most 53 bits becomes a double -/
theorem fl_int {L : Int} (h1 : -9007199254740992 < L) (h2 : L < 9007199254740992) : ∃ s c q, FP.Core.decode FP.Core.b64 (UInt64.ofNat (FP.Core.fromInt FP.Core.b64 L)).toNat = .fin s c q ∧ FP.Core.signed s (flN c q) = L * flD q := by
  by_cases h0 : L = 0
  · subst h0
    exact ⟨false, 0, -1074, by decide +kernel, by unfold flN FP.Core.signed; simp⟩
  · refine ⟨decide (L < 0), L.natAbs * 2 ^ (52 - L.natAbs.log2), 0 - ((52 - L.natAbs.log2 : Nat) : Int), ?_, ?_⟩
    · show FP.Core.decode FP.Core.b64 (UInt64.ofNat (FP.Core.encode FP.Core.b64 (FP.Core.roundRatio FP.Core.b64 (decide (L < 0)) L.natAbs 1 0))).toNat = _
      exact fl_exact (by omega) (by omega) (by omega) (by omega)
    · unfold flN flD
      rw [show (0 - ((52 - L.natAbs.log2 : Nat) : Int)).toNat = 0 by omega, show (-(0 - ((52 - L.natAbs.log2 : Nat) : Int))).toNat = 52 - L.natAbs.log2 by omega, Nat.pow_zero, Nat.mul_one, fl_sgm]
      congr 1
      by_cases h : L < 0
      · rw [decide_eq_true h]
        show -((L.natAbs : Nat) : Int) = L
        omega
      · rw [decide_eq_false h]
        show ((L.natAbs : Nat) : Int) = L
        omega
