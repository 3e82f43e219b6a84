/-! Case: table. The reference's take; scans of leaves. -/
section TK
variable {X : UInt64} {Z : mjZ} {q : Int → mjZ → Prop} {w : Int}
/-- a double that stands for a leaf's number, over another power of two -/
theorem fl_tG {s : Bool} {c : Nat} {e : Int} {a : Int} (hX : FP.Core.decode FP.Core.b64 X.toNat = .fin s c e) (hc : c < 9007199254740992) (he : e ≤ 971) (h1 : flN c e / flD e = lfnU a w ∧ (flN c e % flD e = 0 ↔ lfnR a w = 0)) (hF : lfnF a w = if lfnR a w ≠ 0 then 5 else if 100 < lfnU a w then 6 else 0) (hV : lfnV a w = FP.Core.signed s (lfnU a w)) (qf : lfnF a w ≠ 0 → ∀ t, q (lfnF a w) (mjUp Z 464 12 t)) (q0 : lfnF a w = 0 → q 0 (mjUp Z 464 12 (lfnV a w))) : flTk X Z q := by
  refine fl_take hX hc he (fun g t => ?_) (fun g g2 t => ?_) (fun g g2 => ?_)
  · rw [if_pos (fun k => g (h1.2.mpr k))] at hF
    have := qf (by rw [hF]; decide) t
    rw [hF] at this
    exact this
  · rw [if_neg (fun k => k (h1.2.mp g)), if_pos (by rw [← h1.1]; exact g2)] at hF
    have := qf (by rw [hF]; decide) t
    rw [hF] at this
    exact this
  · rw [if_neg (fun k => k (h1.2.mp g)), if_neg (by rw [← h1.1]; omega)] at hF
    have := q0 hF
    rw [hV] at this
    rw [h1.1]
    exact this
theorem fl_t3 (h0 : -9223372036854775808 ≤ w) (h1 : w < 9223372036854775808) (hn : nnW 3 w) (qf : lfnF 3 w ≠ 0 → ∀ t, q (lfnF 3 w) (mjUp Z 464 12 t)) (q0 : lfnF 3 w = 0 → q 0 (mjUp Z 464 12 (lfnV 3 w))) : flTk (Int64.ofInt w).toUInt64 Z q := by
  have hX := fl_X3 h0 h1 hn
  have h := @lfn3 w
  by_cases g : lfnE 3 w = 2047
  · rw [if_pos g] at hX
    have hF : lfnF 3 w = 5 := by rw [lfnF3, if_pos g]
    refine fl_takeI hX fun t => ?_
    have := qf (by rw [hF]; decide) t
    rw [hF] at this
    exact this
  · rw [if_neg g] at hX
    have hc : lfnC 3 w < 9007199254740992 := by rw [h.1]; unfold lgC; split <;> omega
    have he : lfnQ 3 w ≤ 971 := by rw [h.2.1]; unfold lgQ; split <;> omega
    have e0 : lfnW 3 w = w := if_neg (by decide)
    refine fl_tG hX hc he ⟨rfl, Iff.rfl⟩ (by rw [lfnF3, if_neg g]) ?_ qf q0
    unfold lfnV
    rw [if_neg (by decide), e0]
theorem fl_t2 {y : Int} (hy : y = mjL2I w) (hn : nnW 2 w) (qf : lfnF 2 w ≠ 0 → ∀ t, q (lfnF 2 w) (mjUp Z 464 12 t)) (q0 : lfnF 2 w = 0 → q 0 (mjUp Z 464 12 (lfnV 2 w))) : FP.Core.decode FP.Core.b64 (FP.f2d (Int32.ofInt y).toUInt32).toNat ≠ .nan ∧ flTk (FP.f2d (Int32.ofInt y).toUInt32) Z q := by
  have hX := fl_X2 hy hn
  have h := @lfn2 w
  have hd : FP.f2d (Int32.ofInt y).toUInt32 = UInt64.ofNat (FP.Core.encode FP.Core.b64 (FP.Core.round FP.Core.b64 (FP.Core.decode FP.Core.b32 (Int32.ofInt y).toUInt32.toNat))) := by
    unfold FP.f2d
    have : FP.Core.fIsNaN (Int32.ofInt y).toUInt32 = false := by
      show decide (FP.Core.decode FP.Core.b32 (Int32.ofInt y).toUInt32.toNat = .nan) = false
      rw [hX]
      split <;> exact decide_eq_false (fun k => by cases k)
    rw [this]
    rfl
  rw [hX] at hd
  by_cases g : lfnE 2 w = 255
  · rw [if_pos g] at hd
    have hF : lfnF 2 w = 5 := by rw [lfnF2, if_pos g]
    have e : FP.Core.decode FP.Core.b64 (FP.f2d (Int32.ofInt y).toUInt32).toNat = .inf (decide (y < 0)) := by
      rw [hd]
      cases decide (y < 0) <;> decide +kernel
    refine ⟨by rw [e]; exact (fun k => by cases k), fl_takeI e fun t => ?_⟩
    have := qf (by rw [hF]; decide) t
    rw [hF] at this
    exact this
  · rw [if_neg g] at hd
    have hc : lfnC 2 w < 16777216 := by rw [h.1]; unfold lgC; split <;> omega
    have he : lfnQ 2 w ≤ 105 ∧ -149 ≤ lfnQ 2 w := by rw [h.2.1]; unfold lgQ; split <;> omega
    have e0 : lfnW 2 w = y := by rw [hy]; exact if_pos (Or.inr rfl)
    have hV : lfnV 2 w = FP.Core.signed (decide (y < 0)) (lfnU 2 w) := by
      unfold lfnV
      rw [if_neg (by decide), e0]
    by_cases gc : lfnC 2 w = 0
    · have e : FP.Core.decode FP.Core.b64 (FP.f2d (Int32.ofInt y).toUInt32).toNat = .fin (decide (y < 0)) 0 (-1074) := by
        rw [hd, gc]
        show FP.Core.decode FP.Core.b64 (UInt64.ofNat (FP.Core.encode FP.Core.b64 (.fin (decide (y < 0)) 0 FP.Core.b64.qmin))).toNat = _
        cases decide (y < 0) <;> decide +kernel
      refine ⟨by rw [e]; exact (fun k => by cases k), fl_tG e (by decide) (by decide) ?_ (by rw [lfnF2, if_neg g]) hV qf q0⟩
      have k := lg0 (b := 150) (q0 := -149) (h.1 ▸ gc)
      rw [← h.1, ← h.2.1] at k
      have k1 : lfnR 2 w = 0 := k.1
      have k2 : lfnU 2 w = 0 := k.2
      rw [k1, k2]
      unfold flN
      rw [Nat.zero_mul]
      exact ⟨Nat.zero_div _, ⟨fun _ => rfl, fun _ => Nat.zero_mod _⟩⟩
    · have e : FP.Core.decode FP.Core.b64 (FP.f2d (Int32.ofInt y).toUInt32).toNat = .fin (decide (y < 0)) (lfnC 2 w * 2 ^ (52 - (lfnC 2 w).log2)) (lfnQ 2 w - ((52 - (lfnC 2 w).log2 : Nat) : Int)) := by
        rw [hd]
        exact fl_exact (by omega) (by omega) (by omega) (by omega)
      have hp : lfnC 2 w * 2 ^ (52 - (lfnC 2 w).log2) < 9007199254740992 := by
        have h2 : lfnC 2 w < 2 ^ ((lfnC 2 w).log2 + 1) := Nat.lt_log2_self
        have h3 : (lfnC 2 w).log2 < 53 := (Nat.log2_lt gc).mpr (by omega)
        have e1 : 2 ^ ((lfnC 2 w).log2 + 1) * 2 ^ (52 - (lfnC 2 w).log2) = 9007199254740992 := by
          rw [← Nat.pow_add, show (lfnC 2 w).log2 + 1 + (52 - (lfnC 2 w).log2) = 53 by omega]
        rw [← e1]
        exact Nat.mul_lt_mul_of_pos_right h2 (Nat.two_pow_pos _)
      refine ⟨by rw [e]; exact (fun k => by cases k), fl_tG e hp (by omega) (fl_cross flD_pos flD_pos fl_shift) (by rw [lfnF2, if_neg g]) hV qf q0⟩
end TK
set_option maxRecDepth 10000 in
theorem fm_take {d l i : Nat} {a len w : Int} {Z : mjZ} {q : Int → mjZ → Prop} (hl : l < 16) (hi : i < 8) (h5 : Z 465 l = len) (hlen : -1 ≤ len ∧ len ≤ 8) (h6 : (i : Int) < len → Z 466 l = a) (ha : (i : Int) < len → 0 ≤ a ∧ a ≤ 3) (h7 : (i : Int) < len → Z 467 (8 * l + i) = if a = 0 ∨ a = 2 then mjL2I w else w) (hw : (i : Int) < len → -9223372036854775808 ≤ w ∧ w < 9223372036854775808) (hn : (i : Int) < len → nnW a w) (q2 : ¬ (i : Int) < len → q 2 Z) (qf : (i : Int) < len → lfnF a w ≠ 0 → ∀ t, q (lfnF a w) (mjUp Z 464 12 t)) (q0 : (i : Int) < len → lfnF a w = 0 → q 0 (mjUp Z 464 12 (lfnV a w))) : mjW1 (d + 2) 176 [yR 11 464, yI (l : Int), yI (i : Int)] Z q := by
  refine mje_176 (d := d) ?_
  rw [h5]
  refine ⟨by omega, by omega, by omega, by omega, fun g => ⟨by omega, by omega, ?_⟩, fun g => q2 g⟩
  have h6 := h6 g
  have ha := ha g
  have h7 := h7 g
  have hw := hw g
  have hn := hn g
  have qf := qf g
  have q0 := q0 g
  rw [show ((8 * (l : Int)) + (i : Int)).toNat = 8 * l + i by omega, h6, h7]
  refine ⟨by omega, fun g2 => ⟨fun g3 => ?_, fun g3 => ?_⟩, fun g2 => ?_⟩
  · have e : a = 3 := by omega
    subst e
    rw [if_neg (by decide)]
    refine ⟨?_, fl_t3 hw.1 hw.2 hn qf q0⟩
    have hX := fl_X3 hw.1 hw.2 hn
    have h2 := fl_nn (X := (Int64.ofInt w).toUInt64) (by rw [hX]; split <;> (intro k; cases k))
    unfold vn_snl2d
    rw [decide_eq_false (fun k => by rw [UInt64.le_iff_toNat_le] at h2; have k2 := UInt64.lt_iff_toNat_lt.mp k; omega), Bool.false_and]
  · have e : a = 2 := by omega
    subst e
    rw [if_pos (Or.inr rfl), mjL2I_id (mjL2I_r w)]
    have h3 := fl_t2 (Z := Z) (q := q) (y := mjL2I w) rfl hn qf q0
    refine ⟨?_, fl_nn h3.1, h3.2⟩
    have e0 : (Int32.ofInt (mjL2I w)).toUInt32.toNat = (mjL2I w % 4294967296).toNat := by
      show (BitVec.ofInt 32 (mjL2I w)).toNat = _
      rw [BitVec.toNat_ofInt]
      rfl
    have hn1 := hn.1
    have h2 := mjL2I_eq w
    have h4 := Int.bmod_emod (x := w) (m := 4294967296)
    rw [← h2] at h4
    unfold vn_sni2f
    refine (congrArg (· && _) (decide_eq_false (fun k => ?_))).trans (Bool.false_and _)
    have k2 := UInt32.lt_iff_toNat_lt.mp k
    rw [UInt32.toNat_and, e0] at k2
    have e1 : (mjL2I w % 4294967296).toNat &&& (0x7fffffff : UInt32).toNat = (mjL2I w % 4294967296).toNat % 2147483648 := Nat.and_two_pow_sub_one_eq_mod _ 31
    rw [e1] at k2
    have k3 : 2139095040 < (mjL2I w % 4294967296).toNat % 2147483648 := k2
    omega
  · have e1 : lfnF a w = if -100 ≤ lfnW a w ∧ lfnW a w ≤ 100 then 0 else 6 := if_pos (by omega)
    have e2 : lfnV a w = lfnW a w := if_pos (by omega)
    have e3 : (if a = 0 ∨ a = 2 then mjL2I w else w) = lfnW a w := rfl
    have e4 : -9223372036854775808 ≤ lfnW a w ∧ lfnW a w < 9223372036854775808 := by
      have := mjL2I_r w
      unfold lfnW
      split <;> omega
    rw [e1] at qf q0
    rw [e2] at q0
    rw [e3]
    revert qf q0 e4
    generalize lfnW a w = y
    intro qf q0 e4
    have six : ¬ (-100 ≤ y ∧ y ≤ 100) → ∀ t, q 6 (mjUp Z 464 12 t) := fun k t => by
      have := qf (by rw [if_neg k]; decide) t
      rw [if_neg k] at this
      exact this
    rw [mjUp_at, mjUp_at]
    refine ⟨e4, fun k => ⟨by omega, fun k2 => by omega, fun k2 => ⟨fun k3 => by omega, fun k3 => six (by omega) _⟩⟩, fun k => ⟨fun k2 => ?_, fun k2 => ⟨by omega, fun k3 => by omega, fun k3 => ⟨fun k4 => by omega, fun k4 => six (by omega) _⟩⟩⟩⟩
    rw [mjL2I_id (by omega)]
    refine ⟨by omega, fun k3 => by omega, fun k3 => ⟨fun k4 => q0 (if_pos (by omega)), fun k4 => by omega⟩⟩
