/-! A leaf's number, by the class (29, 35) and by the reference (176). -/
section LFW
variable {w : Int}
theorem lfnW0 : lfnW 0 w = mjL2I w := if_pos (Or.inl rfl)
theorem lfnW1 : lfnW 1 w = w := if_neg (by decide)
theorem lfn_ok2 (hF : lfnF 2 w = 0) (hc : lfnC 2 w ≠ 0) : 127 ≤ lfnE 2 w ∧ lfnE 2 w < 150 ∧ lfnU 2 w = (8388608 + lfnT 2 w) / 2 ^ (150 - lfnE 2 w) ∧ lfnU 2 w ≤ 100 := by
  have h := @lfn2 w
  rw [lfnF2] at hF
  have n1 : lfnE 2 w ≠ 255 := fun k => by rw [if_pos k] at hF; exact absurd hF (by decide)
  rw [if_neg n1] at hF
  have n2 : ¬ lfnR 2 w ≠ 0 := fun k => by rw [if_pos k] at hF; exact absurd hF (by decide)
  rw [if_neg n2] at hF
  have n3 : ¬ 100 < lfnU 2 w := fun k => by rw [if_pos k] at hF; exact absurd hF (by decide)
  rw [h.1] at hc
  have n4 : ¬ lfnE 2 w + 23 < 150 := fun k => by
    have l := lg1 (p := 23) (q0 := -149) (by decide) h.2.2.1 (by decide) hc k
    refine n2 ?_
    unfold lfnR
    rw [h.1, h.2.1]
    exact l
  have n5 : ¬ 150 ≤ lfnE 2 w := fun k => by
    have l := (lg2 (E := lfnE 2 w) (T := lfnT 2 w) (P := 8388608) (b := 150) (q0 := -149) (by omega) k).2
    rw [← h.1, ← h.2.1] at l
    have : lfnU 2 w = flN (lfnC 2 w) (lfnQ 2 w) / flD (lfnQ 2 w) := rfl
    omega
  have l := lg3 (E := lfnE 2 w) (T := lfnT 2 w) (P := 8388608) (b := 150) (q0 := -149) (by omega) (by omega)
  refine ⟨by omega, by omega, ?_, by omega⟩
  unfold lfnU
  rw [h.1, h.2.1, l.1, l.2]
theorem lfn_ok3 (hF : lfnF 3 w = 0) (hc : lfnC 3 w ≠ 0) : 1023 ≤ lfnE 3 w ∧ lfnE 3 w < 1075 ∧ lfnU 3 w = (4503599627370496 + lfnT 3 w) / 2 ^ (1075 - lfnE 3 w) ∧ lfnU 3 w ≤ 100 := by
  have h := @lfn3 w
  rw [lfnF3] at hF
  have n1 : lfnE 3 w ≠ 2047 := fun k => by rw [if_pos k] at hF; exact absurd hF (by decide)
  rw [if_neg n1] at hF
  have n2 : ¬ lfnR 3 w ≠ 0 := fun k => by rw [if_pos k] at hF; exact absurd hF (by decide)
  rw [if_neg n2] at hF
  have n3 : ¬ 100 < lfnU 3 w := fun k => by rw [if_pos k] at hF; exact absurd hF (by decide)
  rw [h.1] at hc
  have n4 : ¬ lfnE 3 w + 52 < 1075 := fun k => by
    have l := lg1 (p := 52) (q0 := -1074) (by decide) h.2.2.1 (by decide) hc k
    refine n2 ?_
    unfold lfnR
    rw [h.1, h.2.1]
    exact l
  have n5 : ¬ 1075 ≤ lfnE 3 w := fun k => by
    have l := (lg2 (E := lfnE 3 w) (T := lfnT 3 w) (P := 4503599627370496) (b := 1075) (q0 := -1074) (by omega) k).2
    rw [← h.1, ← h.2.1] at l
    have : lfnU 3 w = flN (lfnC 3 w) (lfnQ 3 w) / flD (lfnQ 3 w) := rfl
    omega
  have l := lg3 (E := lfnE 3 w) (T := lfnT 3 w) (P := 4503599627370496) (b := 1075) (q0 := -1074) (by omega) (by omega)
  refine ⟨by omega, by omega, ?_, by omega⟩
  unfold lfnU
  rw [h.1, h.2.1, l.1, l.2]
theorem lfnU0 {a : Int} (hc : lfnC a w = 0) : lfnU a w = 0 := by
  unfold lfnU flN
  rw [hc, Nat.zero_mul]
  exact Nat.zero_div _
end LFW
section LFX
variable {d c i : Nat} {a len : Int} {Z : mjZ} {q : Int → mjZ → Prop}
theorem lf_has {q : Int → mjZ → Prop} (h1 : Z c 1 = len) (hl : len ≤ 8) (hl2 : -1 ≤ len) (hi : i < 8) (q0 : ¬ (i : Int) < len → q 0 Z) (q1 : (i : Int) < len → q 1 Z) : mjW1 (d + 1) 20 [yR 2 c, yI (i : Int)] Z q := by
  refine mje_20 ?_
  rw [h1]
  exact ⟨by omega, fun g => by omega, fun _ => ⟨by omega, fun g => q0 (by omega), fun g => ⟨fun g2 => by omega, fun _ => q1 (by omega)⟩⟩⟩
theorem lf_fault (h0 : Z c 0 = a) (ha : 0 ≤ a ∧ a ≤ 3) (h1 : Z c 1 = len) (hl : len ≤ 8) (hl2 : -1 ≤ len) (hi : i < 8) (hw : -9223372036854775808 ≤ Z (c + 1) i ∧ Z (c + 1) i < 9223372036854775808) (q0 : ¬ (i : Int) < len → q 2 Z) (q1 : (i : Int) < len → q (lfnF a (Z (c + 1) i)) Z) : mjW1 (d + 5) 29 [yR 2 c, yI (i : Int)] Z q := by
  refine mje_29 (d := d + 4) (lf_has (d := d + 3) h1 hl hl2 hi (fun g => ⟨by omega, fun k => absurd rfl k, fun _ => q0 g⟩) fun g => ⟨by omega, fun _ => ⟨by omega, by omega, ?_⟩, fun k => absurd k (by decide)⟩)
  have q1 := q1 g
  rw [h0, show ((i : Int)).toNat = i from rfl]
  refine ⟨by omega, fun g1 => ⟨fun g2 => ?_, fun g2 => ⟨mjL2I_r _, ?_⟩⟩, fun g1 => ⟨hw, ?_⟩⟩
  · exact lf_frac (d := d) h0 (by omega) hi hw q1
  · have e : a = 0 := by omega
    subst e
    have e1 : lfnF 0 (Z (c + 1) i) = if -100 ≤ mjL2I (Z (c + 1) i) ∧ mjL2I (Z (c + 1) i) ≤ 100 then 0 else 6 := by
      unfold lfnF
      rw [if_pos (show (0 : Int) < 2 by decide), lfnW0]
    rw [e1] at q1
    refine ⟨fun g3 => ?_, fun g3 => ⟨fun g4 => ?_, fun g4 => ?_⟩⟩
    · rw [if_neg (by omega)] at q1; exact q1
    · rw [if_pos (by omega)] at q1; exact q1
    · rw [if_neg (by omega)] at q1; exact q1
  · have e : a = 1 := by omega
    subst e
    have e1 : lfnF 1 (Z (c + 1) i) = if -100 ≤ Z (c + 1) i ∧ Z (c + 1) i ≤ 100 then 0 else 6 := by
      unfold lfnF
      rw [if_pos (show (1 : Int) < 2 by decide), lfnW1]
    rw [e1] at q1
    refine ⟨fun g3 => ?_, fun g3 => ⟨fun g4 => ?_, fun g4 => ?_⟩⟩
    · rw [if_neg (by omega)] at q1; exact q1
    · rw [if_pos (by omega)] at q1; exact q1
    · rw [if_neg (by omega)] at q1; exact q1
theorem lf_below (h0 : Z c 0 = a) (ha : a = 2 ∨ a = 3) (hi : i < 8) (hw : -9223372036854775808 ≤ Z (c + 1) i ∧ Z (c + 1) i < 9223372036854775808) (q0 : ¬ lfnW a (Z (c + 1) i) < 0 → q 0 Z) (q1 : lfnW a (Z (c + 1) i) < 0 → q 1 Z) : mjW1 (d + 1) 36 [yR 2 c, yI (i : Int)] Z q := by
  refine mje_36 ?_
  rw [h0, show ((i : Int)).toNat = i from rfl]
  have hy := mjL2I_r (Z (c + 1) i)
  rcases ha with ha | ha <;> subst ha
  · have e : lfnW 2 (Z (c + 1) i) = mjL2I (Z (c + 1) i) := if_pos (Or.inr rfl)
    rw [e] at q0 q1
    exact ⟨by omega, fun g => absurd rfl g, fun _ => ⟨by omega, by omega, hy, fun g => q0 (by omega), fun g => q1 (by omega)⟩⟩
  · have e : lfnW 3 (Z (c + 1) i) = Z (c + 1) i := if_neg (by decide)
    rw [e] at q0 q1
    exact ⟨by omega, fun _ => ⟨by omega, by omega, hw, fun g => q0 (by omega), fun g => q1 (by omega)⟩, fun g => absurd g (by decide)⟩
theorem lf_whole (h0 : Z c 0 = a) (ha : 0 ≤ a ∧ a ≤ 3) (h1 : Z c 1 = len) (hl : len ≤ 8) (hl2 : (i : Int) < len) (hi : i < 8) (hw : -9223372036854775808 ≤ Z (c + 1) i ∧ Z (c + 1) i < 9223372036854775808) (hF : lfnF a (Z (c + 1) i) = 0) (hq : q (lfnV a (Z (c + 1) i)) Z) : mjW1 (d + 4) 35 [yR 2 c, yI (i : Int)] Z q := by
  refine mje_35 (d := d + 3) (lf_has (d := d + 2) h1 hl (by omega) hi (fun g => absurd hl2 g) fun g => ⟨by omega, fun _ => ?_, fun k => absurd k (by decide)⟩)
  rw [h0, show ((i : Int)).toNat = i from rfl]
  refine ⟨by omega, fun g1 => ⟨by omega, by omega, ?_⟩, fun g1 => ⟨fun g2 => ?_, fun g2 => ⟨by omega, by omega, ?_⟩⟩⟩
  · subst g1
    have e : lfnV 0 (Z (c + 1) i) = mjL2I (Z (c + 1) i) := by
      unfold lfnV lfnW
      rw [if_pos (by decide), if_pos (by decide)]
    rw [e] at hq
    exact hq
  · have ha2 : a = 2 ∨ a = 3 := by omega
    have eV : lfnV a (Z (c + 1) i) = FP.Core.signed (decide (lfnW a (Z (c + 1) i) < 0)) (lfnU a (Z (c + 1) i)) := if_neg (by omega)
    rw [eV] at hq
    refine lf_nought (d := d + 2) h0 ha2 hi hw (fun gc => ⟨by omega, fun k => absurd k (by decide), fun _ => ?_⟩) fun gc => ⟨by omega, fun _ => ?_, fun k => absurd rfl k⟩
    · rw [lfnU0 gc] at hq
      cases hs : decide (lfnW a (Z (c + 1) i) < 0) <;> rw [hs] at hq <;> exact hq
    · have fin : ∀ (m k : Nat), 1 ≤ k → k < 63 → m < 9223372036854775808 → lfnU a (Z (c + 1) i) = m / 2 ^ k → lfnU a (Z (c + 1) i) ≤ 100 → mjW1 (d + 3) 36 [yR 2 c, yI (i : Int)] Z (fun v16 Z16 => (-2147483648 ≤ v16 ∧ v16 < 2147483648) ∧ ((v16 = 0 → (q (mjL2I (mjUshJ (m : Int) (k : Int))) Z16)) ∧ (¬(v16 = 0) → (q (-(mjL2I (mjUshJ (m : Int) (k : Int)))) Z16)))) := fun m k k1 k2 hm hU hU2 => by
        have e : mjL2I (mjUshJ (m : Int) (k : Int)) = (lfnU a (Z (c + 1) i) : Int) := by
          rw [wUshJn (by omega) (by omega) (by omega), ← Int.natCast_ediv, ← hU, mjL2I_id (by omega)]
        rw [e]
        refine lf_below (d := d + 2) h0 ha2 hi hw (fun g => ⟨by omega, fun _ => ?_, fun k => absurd rfl k⟩) fun g => ⟨by omega, fun k => absurd k (by decide), fun _ => ?_⟩
        · rw [decide_eq_false g] at hq; exact hq
        · rw [decide_eq_true g] at hq; exact hq
      refine mje_33 (d := d + 2) ?_
      rw [h0]
      rcases ha2 with ha2 | ha2 <;> subst ha2
      · have ok := lfn_ok2 hF gc
        have h := @lfn2 (Z (c + 1) i)
        refine ⟨by omega, fun g => absurd rfl g, fun _ => lf_power (d := d + 2) h0 (Or.inl rfl) hi ?_⟩
        rw [if_pos rfl, show (23 : Int) - ((lfnE 2 (Z (c + 1) i) : Int) - 127) = ((150 - lfnE 2 (Z (c + 1) i) : Nat) : Int) by omega]
        refine ⟨by omega, fun g => by omega, fun _ => ⟨fun g => by omega, fun _ => lf_man (d := d + 1) h0 (Or.inl rfl) hi ?_⟩⟩
        rw [if_pos rfl, show (8388608 : Int) + (lfnT 2 (Z (c + 1) i) : Int) = ((8388608 + lfnT 2 (Z (c + 1) i) : Nat) : Int) by omega]
        exact fin _ _ (by omega) (by omega) (by omega) ok.2.2.1 ok.2.2.2
      · have ok := lfn_ok3 hF gc
        have h := @lfn3 (Z (c + 1) i)
        refine ⟨by omega, fun _ => lf_power (d := d + 2) h0 (Or.inr rfl) hi ?_, fun g => absurd g (by decide)⟩
        rw [if_neg (by decide), show (52 : Int) - ((lfnE 3 (Z (c + 1) i) : Int) - 1023) = ((1075 - lfnE 3 (Z (c + 1) i) : Nat) : Int) by omega]
        refine ⟨by omega, fun g => by omega, fun _ => ⟨fun g => by omega, fun _ => lf_man (d := d + 1) h0 (Or.inr rfl) hi ?_⟩⟩
        rw [if_neg (by decide), show (4503599627370496 : Int) + (lfnT 3 (Z (c + 1) i) : Int) = ((4503599627370496 + lfnT 3 (Z (c + 1) i) : Nat) : Int) by omega]
        exact fin _ _ (by omega) (by omega) (by omega) ok.2.2.1 ok.2.2.2
  · have e : a = 1 := by omega
    subst e
    have e1 : lfnF 1 (Z (c + 1) i) = if -100 ≤ Z (c + 1) i ∧ Z (c + 1) i ≤ 100 then 0 else 6 := by
      unfold lfnF
      rw [if_pos (show (1 : Int) < 2 by decide), lfnW1]
    have e2 : lfnV 1 (Z (c + 1) i) = Z (c + 1) i := by
      unfold lfnV lfnW
      rw [if_pos (by decide), if_neg (by decide)]
    rw [e1] at hF
    have : -100 ≤ Z (c + 1) i ∧ Z (c + 1) i ≤ 100 := Decidable.byContradiction fun k => by rw [if_neg k] at hF; exact absurd hF (by decide)
    rw [e2] at hq
    rw [mjL2I_id (by omega)]
    exact hq
end LFX
theorem fl_cross {N D N' D' : Nat} (hD : 0 < D) (hD' : 0 < D') (h : N * D' = N' * D) : N / D = N' / D' ∧ (N % D = 0 ↔ N' % D' = 0) := by
  constructor
  · rw [← Nat.mul_div_mul_right N D hD', h, Nat.mul_comm D D', Nat.mul_div_mul_right N' D' hD]
  · constructor
    · intro g
      obtain ⟨k, hk⟩ := Nat.dvd_of_mod_eq_zero g
      refine Nat.mod_eq_zero_of_dvd ⟨k, Nat.eq_of_mul_eq_mul_right hD ?_⟩
      rw [← h, hk, Nat.mul_comm D k, Nat.mul_comm D' k, Nat.mul_assoc, Nat.mul_assoc, Nat.mul_comm D D']
    · intro g
      obtain ⟨k, hk⟩ := Nat.dvd_of_mod_eq_zero g
      refine Nat.mod_eq_zero_of_dvd ⟨k, Nat.eq_of_mul_eq_mul_right hD' ?_⟩
      rw [h, hk, Nat.mul_comm D k, Nat.mul_comm D' k, Nat.mul_assoc, Nat.mul_assoc, Nat.mul_comm D D']
theorem fl_shift {c k : Nat} {q : Int} : flN (c * 2 ^ k) (q - (k : Int)) * flD q = flN c q * flD (q - (k : Int)) := by
  unfold flN flD
  rw [Nat.mul_assoc, Nat.mul_assoc, Nat.mul_assoc, ← Nat.pow_add, ← Nat.pow_add, ← Nat.pow_add]
  congr 2
  omega
set_option maxRecDepth 10000 in
theorem fl_nn {X : UInt64} (h : FP.Core.decode FP.Core.b64 X.toNat ≠ .nan) : X &&& 0x7fffffffffffffff ≤ 0x7ff0000000000000 := by
  rw [UInt64.le_iff_toNat_le, UInt64.toNat_and]
  have e : X.toNat &&& (0x7fffffffffffffff : UInt64).toNat = X.toNat % 9223372036854775808 := Nat.and_two_pow_sub_one_eq_mod X.toNat 63
  rw [e]
  show X.toNat % 9223372036854775808 ≤ 9218868437227405312
  refine Decidable.byContradiction fun g => h ?_
  unfold FP.Core.decode FP.Core.fieldE FP.Core.fieldT
  rw [fl_tails, fl_exps, if_pos (by omega), if_neg (by omega)]
set_option maxRecDepth 10000 in
theorem fl_X3 {w : Int} (h0 : -9223372036854775808 ≤ w) (h1 : w < 9223372036854775808) (hn : nnW 3 w) : FP.Core.decode FP.Core.b64 (Int64.ofInt w).toUInt64.toNat = if lfnE 3 w = 2047 then .inf (decide (w < 0)) else .fin (decide (w < 0)) (lfnC 3 w) (lfnQ 3 w) := by
  have e0 : (Int64.ofInt w).toUInt64.toNat = (w % 18446744073709551616).toNat := by
    show (BitVec.ofInt 64 w).toNat = _
    rw [BitVec.toNat_ofInt]
    rfl
  have h := @lfn3 w
  have hn2 := hn.2
  rw [e0]
  unfold FP.Core.decode FP.Core.fieldE FP.Core.fieldT FP.Core.fieldS
  rw [fl_tails, fl_exps, fl_qmin]
  have e1 : (w % 18446744073709551616).toNat / 4503599627370496 % 2048 = lfnE 3 w := by omega
  have e2 : (w % 18446744073709551616).toNat % 4503599627370496 = lfnT 3 w := by omega
  have e3 : ((w % 18446744073709551616).toNat / 4503599627370496 / 2048 % 2 == 1) = decide (w < 0) := by
    by_cases g : w < 0
    · rw [decide_eq_true g]
      exact beq_iff_eq.mpr (by omega)
    · rw [decide_eq_false g]
      exact beq_eq_false_iff_ne.mpr (by omega)
  rw [e1, e2, e3]
  by_cases g : lfnE 3 w = 2047
  · rw [if_pos g, if_pos g, if_pos (by omega)]
  · rw [if_neg g, if_neg g, h.1, h.2.1]
    unfold lgC lgQ
    by_cases g2 : lfnE 3 w = 0
    · rw [if_pos g2, if_pos g2, if_pos g2]
    · have e4 : (-1074 : Int) + ((lfnE 3 w : Int) - 1) = (lfnE 3 w : Int) - (1075 : Nat) := by omega
      rw [if_neg g2, if_neg g2, if_neg g2, e4]
theorem fl_t32 : FP.Core.b32.tails = 8388608 := by decide
theorem fl_e32 : FP.Core.b32.exps = 256 := by decide
theorem fl_q32 : FP.Core.b32.qmin = -149 := by decide
set_option maxRecDepth 10000 in
theorem fl_X2 {w y : Int} (hy : y = mjL2I w) (hn : nnW 2 w) : FP.Core.decode FP.Core.b32 (Int32.ofInt y).toUInt32.toNat = if lfnE 2 w = 255 then .inf (decide (y < 0)) else .fin (decide (y < 0)) (lfnC 2 w) (lfnQ 2 w) := by
  have e0 : (Int32.ofInt y).toUInt32.toNat = (y % 4294967296).toNat := by
    show (BitVec.ofInt 32 y).toNat = _
    rw [BitVec.toNat_ofInt]
    rfl
  have h := @lfn2 w
  have hn2 := hn.1
  have hr := mjL2I_r w
  have h2 := mjL2I_eq w
  have h3 := Int.bmod_emod (x := w) (m := 4294967296)
  rw [← hy] at h hr h2
  rw [← h2] at h3
  rw [e0]
  unfold FP.Core.decode FP.Core.fieldE FP.Core.fieldT FP.Core.fieldS
  rw [fl_t32, fl_e32, fl_q32]
  have e1 : (y % 4294967296).toNat / 8388608 % 256 = lfnE 2 w := by omega
  have e2 : (y % 4294967296).toNat % 8388608 = lfnT 2 w := by omega
  have e3 : ((y % 4294967296).toNat / 8388608 / 256 % 2 == 1) = decide (y < 0) := by
    by_cases g : y < 0
    · rw [decide_eq_true g]
      exact beq_iff_eq.mpr (by omega)
    · rw [decide_eq_false g]
      exact beq_eq_false_iff_ne.mpr (by omega)
  rw [e1, e2, e3]
  by_cases g : lfnE 2 w = 255
  · rw [if_pos g, if_pos g, if_pos (by omega)]
  · rw [if_neg g, if_neg g, h.1, h.2.1]
    unfold lgC lgQ
    by_cases g2 : lfnE 2 w = 0
    · rw [if_pos g2, if_pos g2, if_pos g2]
    · have e4 : (-149 : Int) + ((lfnE 2 w : Int) - 1) = (lfnE 2 w : Int) - (150 : Nat) := by omega
      rw [if_neg g2, if_neg g2, if_neg g2, e4]
