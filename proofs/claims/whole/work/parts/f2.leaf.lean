/-! A leaf's number: what is wrong with it, what it is; the class, the reference. -/
theorem flN_neg {c : Nat} {q : Int} (h : q ≤ 0) : flN c q = c := by unfold flN; rw [show q.toNat = 0 by omega, Nat.pow_zero, Nat.mul_one]
theorem flD_nn {q : Int} (h : 0 ≤ q) : flD q = 1 := by unfold flD; rw [show (-q).toNat = 0 by omega, Nat.pow_zero]
theorem flD_ge {q : Int} {p : Nat} (h : q ≤ -(p : Int)) : 2 ^ p ≤ flD q := Nat.pow_le_pow_right (by decide) (by omega)
section FLG
variable {E T P b p : Nat} {q0 : Int}
def lgC (E T P : Nat) : Nat := if E = 0 then T else P + T
def lgQ (E b : Nat) (q0 : Int) : Int := if E = 0 then q0 else (E : Int) - (b : Int)
theorem lg0 (h : lgC E T P = 0) : flN (lgC E T P) (lgQ E b q0) % flD (lgQ E b q0) = 0 ∧ flN (lgC E T P) (lgQ E b q0) / flD (lgQ E b q0) = 0 := by
  rw [h]
  unfold flN
  rw [Nat.zero_mul]
  exact ⟨Nat.zero_mod _, Nat.zero_div _⟩
theorem lg1 (hP : P = 2 ^ p) (hT : T < P) (hq : q0 ≤ -(p : Int)) (h : lgC E T P ≠ 0) (hE : E + p < b) : flN (lgC E T P) (lgQ E b q0) % flD (lgQ E b q0) ≠ 0 := by
  have hn : lgQ E b q0 ≤ 0 := by unfold lgQ; split <;> omega
  rw [flN_neg hn]
  have hlt : lgC E T P < flD (lgQ E b q0) := by
    by_cases h0 : E = 0
    · have e1 : lgC E T P = T := if_pos h0
      have e2 : lgQ E b q0 = q0 := if_pos h0
      rw [e1, e2]
      have := flD_ge (p := p) hq
      omega
    · have e1 : lgC E T P = P + T := if_neg h0
      have e2 : lgQ E b q0 = (E : Int) - (b : Int) := if_neg h0
      rw [e1, e2]
      have := flD_ge (q := (E : Int) - (b : Int)) (p := p + 1) (by omega)
      rw [Nat.pow_succ] at this
      omega
  rw [Nat.mod_eq_of_lt hlt]
  exact h
theorem lg2 (h0 : E ≠ 0) (hE : b ≤ E) : flN (lgC E T P) (lgQ E b q0) % flD (lgQ E b q0) = 0 ∧ P ≤ flN (lgC E T P) (lgQ E b q0) / flD (lgQ E b q0) := by
  have e1 : lgC E T P = P + T := if_neg h0
  have e2 : lgQ E b q0 = (E : Int) - (b : Int) := if_neg h0
  rw [e1, e2, flD_nn (q := (E : Int) - (b : Int)) (by omega), Nat.mod_one, Nat.div_one]
  refine ⟨rfl, ?_⟩
  have : P + T ≤ flN (P + T) ((E : Int) - (b : Int)) := Nat.le_mul_of_pos_right _ (Nat.two_pow_pos _)
  omega
theorem lg3 (h0 : E ≠ 0) (hE : E < b) : flN (lgC E T P) (lgQ E b q0) = P + T ∧ flD (lgQ E b q0) = 2 ^ (b - E) := by
  have e1 : lgC E T P = P + T := if_neg h0
  have e2 : lgQ E b q0 = (E : Int) - (b : Int) := if_neg h0
  rw [e1, e2]
  refine ⟨flN_neg (by omega), ?_⟩
  unfold flD
  congr 1
  omega
end FLG
section LFC
variable {a w : Int}
theorem lfn2 : lfnC 2 w = lgC (lfnE 2 w) (lfnT 2 w) 8388608 ∧ lfnQ 2 w = lgQ (lfnE 2 w) 150 (-149) ∧ lfnT 2 w < 8388608 ∧ lfnE 2 w < 256 ∧ (lfnE 2 w : Int) = mjL2I w / 8388608 % 256 ∧ (lfnT 2 w : Int) = mjL2I w % 8388608 := by
  have e0 : lfnW 2 w = mjL2I w := if_pos (Or.inr rfl)
  have e1 : lfnE 2 w = (mjL2I w / 8388608 % 256).toNat := by unfold lfnE; rw [if_pos rfl, e0]
  have e2 : lfnT 2 w = (mjL2I w % 8388608).toNat := by unfold lfnT; rw [if_pos rfl, e0]
  refine ⟨?_, ?_, by omega, by omega, by omega, by omega⟩
  · unfold lfnC lgC
    by_cases h : lfnE 2 w = 0
    · rw [if_pos h, if_pos h]
    · rw [if_neg h, if_neg h, if_pos rfl]
  · unfold lfnQ lgQ
    by_cases h : lfnE 2 w = 0
    · rw [if_pos h, if_pos h, if_pos rfl]
    · rw [if_neg h, if_neg h, if_pos rfl]
      rfl
theorem lfn3 : lfnC 3 w = lgC (lfnE 3 w) (lfnT 3 w) 4503599627370496 ∧ lfnQ 3 w = lgQ (lfnE 3 w) 1075 (-1074) ∧ lfnT 3 w < 4503599627370496 ∧ lfnE 3 w < 2048 ∧ (lfnE 3 w : Int) = w / 4503599627370496 % 2048 ∧ (lfnT 3 w : Int) = w % 4503599627370496 := by
  have e0 : lfnW 3 w = w := if_neg (by decide)
  have e1 : lfnE 3 w = (w / 4503599627370496 % 2048).toNat := by unfold lfnE; rw [if_neg (by decide), e0]
  have e2 : lfnT 3 w = (w % 4503599627370496).toNat := by unfold lfnT; rw [if_neg (by decide), e0]
  refine ⟨?_, ?_, by omega, by omega, by omega, by omega⟩
  · unfold lfnC lgC
    by_cases h : lfnE 3 w = 0
    · rw [if_pos h, if_pos h]
    · rw [if_neg h, if_neg h, if_neg (by decide)]
  · unfold lfnQ lgQ
    by_cases h : lfnE 3 w = 0
    · rw [if_pos h, if_pos h, if_neg (by decide)]
    · rw [if_neg h, if_neg h, if_neg (by decide)]
      rfl
theorem lfnF2 : lfnF 2 w = if lfnE 2 w = 255 then 5 else if lfnR 2 w ≠ 0 then 5 else if 100 < lfnU 2 w then 6 else 0 := by
  unfold lfnF
  rw [if_neg (by decide)]
  by_cases h : lfnE 2 w = 255
  · rw [if_pos (Or.inl ⟨rfl, h⟩), if_pos h]
  · rw [if_neg (fun k => k.elim (fun k => h k.2) fun k => absurd k.1 (by decide)), if_neg h]
theorem lfnF3 : lfnF 3 w = if lfnE 3 w = 2047 then 5 else if lfnR 3 w ≠ 0 then 5 else if 100 < lfnU 3 w then 6 else 0 := by
  unfold lfnF
  rw [if_neg (by decide)]
  by_cases h : lfnE 3 w = 2047
  · rw [if_pos (Or.inr ⟨rfl, h⟩), if_pos h]
  · rw [if_neg (fun k => k.elim (fun k => absurd k.1 (by decide)) fun k => h k.2), if_neg h]
theorem wJIr {f : Int64 → Int32 → Int64} {x y : Int} : -9223372036854775808 ≤ mjJI f x y ∧ mjJI f x y < 9223372036854775808 := ⟨Int64.le_toInt _, Int64.toInt_lt _⟩
theorem wI2r {f : Int32 → Int32 → Int32} {x y : Int} : -2147483648 ≤ mjI2 f x y ∧ mjI2 f x y < 2147483648 := ⟨Int32.le_toInt _, Int32.toInt_lt _⟩
theorem wJJr {f : Int64 → Int64 → Int64} {x y : Int} : -9223372036854775808 ≤ mjJ2 f x y ∧ mjJ2 f x y < 9223372036854775808 := ⟨Int64.le_toInt _, Int64.toInt_lt _⟩
theorem wMan52 : mjOrJ (mjAndJ w ((mjShlJ 1 52) - 1)) (mjShlJ 1 52) = 4503599627370496 + w % 4503599627370496 := by
  have e : mjShlJ 1 52 = ((2 ^ 52 : Nat) : Int) := by decide +kernel
  rw [e, wAndJp (by decide), wOrMan (by decide) (Int.emod_nonneg _ (by decide)) (Int.emod_lt_of_pos _ (by decide))]
  rfl
theorem wMan23 : mjOrJ (mjAndJ w ((mjShlJ 1 23) - 1)) (mjShlJ 1 23) = 8388608 + w % 8388608 := by
  have e : mjShlJ 1 23 = ((2 ^ 23 : Nat) : Int) := by decide +kernel
  rw [e, wAndJp (by decide), wOrMan (by decide) (Int.emod_nonneg _ (by decide)) (Int.emod_lt_of_pos _ (by decide))]
  rfl
theorem wPow52 : (mjAndI (mjL2I (mjUshJ w 52)) 2047) - 1023 = (lfnE 3 w : Int) - 1023 := by
  have h := @lfn3 w
  have e1 : mjUshJ w 52 = w % 18446744073709551616 / 4503599627370496 := wUshJa (i := 52) (by decide) (by decide)
  have e2 : ∀ x : Int, mjAndI x 2047 = x % 2048 := fun x => wAndIm (i := 11) (by decide)
  rw [e1, mjL2I_id (by omega), e2, h.2.2.2.2.1]
  omega
theorem wPow23 : (mjAndI (mjUshI (mjL2I w) 23) 255) - 127 = (lfnE 2 w : Int) - 127 := by
  have h := @lfn2 w
  have e2 : ∀ x : Int, mjAndI x 255 = x % 256 := fun x => wAndIm (i := 8) (by decide)
  rw [wUshIa, e2, h.2.2.2.2.1]
  omega
end LFC
section LFD
variable {d c i : Nat} {a : Int} {Z : mjZ} {q : Int → mjZ → Prop}
theorem lf_nought (h0 : Z c 0 = a) (ha : a = 2 ∨ a = 3) (hi : i < 8) (hw : -9223372036854775808 ≤ Z (c + 1) i ∧ Z (c + 1) i < 9223372036854775808) (q1 : lfnC a (Z (c + 1) i) = 0 → q 1 Z) (q0 : lfnC a (Z (c + 1) i) ≠ 0 → q 0 Z) : mjW1 (d + 1) 31 [yR 2 c, yI (i : Int)] Z q := by
  refine mje_31 ?_
  rw [h0, show ((i : Int)).toNat = i from rfl]
  rcases ha with ha | ha <;> subst ha
  · have h := @lfn2 (Z (c + 1) i)
    have hy := mjL2I_r (Z (c + 1) i)
    refine ⟨by omega, fun g => absurd rfl g, fun _ => ⟨by omega, by omega, wI2r, fun g => q0 ?_, fun g => q1 ?_⟩⟩
    · rw [ne_eq, wShl1Iz hy.1 hy.2] at g
      rw [h.1]
      unfold lgC
      split <;> omega
    · have g := (wShl1Iz hy.1 hy.2).mp (Decidable.not_not.mp g)
      rw [h.1]
      unfold lgC
      rw [if_pos (by omega)]
      omega
  · have h := @lfn3 (Z (c + 1) i)
    refine ⟨by omega, fun _ => ⟨by omega, by omega, wJIr, fun g => q0 ?_, fun g => q1 ?_⟩, fun g => absurd g (by decide)⟩
    · rw [ne_eq, wShl1Jz hw.1 hw.2] at g
      rw [h.1]
      unfold lgC
      split <;> omega
    · have g := (wShl1Jz hw.1 hw.2).mp (Decidable.not_not.mp g)
      rw [h.1]
      unfold lgC
      rw [if_pos (by omega)]
      omega
theorem lf_man (h0 : Z c 0 = a) (ha : a = 2 ∨ a = 3) (hi : i < 8) (hq : q (if a = 2 then 8388608 + (lfnT a (Z (c + 1) i) : Int) else 4503599627370496 + (lfnT a (Z (c + 1) i) : Int)) Z) : mjW2 (d + 2) 34 [yR 2 c, yI (i : Int)] Z q := by
  refine mje_34 (d := d + 1) (mje_33 (d := d) ?_)
  rw [h0, show ((i : Int)).toNat = i from rfl]
  rcases ha with ha | ha <;> subst ha
  · have h := @lfn2 (Z (c + 1) i)
    have h2 := mjL2I_eq (Z (c + 1) i)
    have h3 := Int.bmod_emod (x := Z (c + 1) i) (m := 4294967296)
    rw [if_pos rfl, show 8388608 + (lfnT 2 (Z (c + 1) i) : Int) = 8388608 + Z (c + 1) i % 8388608 by omega] at hq
    refine ⟨by omega, fun g => absurd rfl g, fun _ => ⟨by omega, by omega, ?_⟩⟩
    rw [wMan23]
    exact hq
  · have h := @lfn3 (Z (c + 1) i)
    rw [if_neg (by decide), h.2.2.2.2.2] at hq
    refine ⟨by omega, fun _ => ⟨by omega, by omega, ?_⟩, fun g => absurd g (by decide)⟩
    rw [wMan52]
    exact hq
theorem lf_power (h0 : Z c 0 = a) (ha : a = 2 ∨ a = 3) (hi : i < 8) (hq : q (if a = 2 then (lfnE a (Z (c + 1) i) : Int) - 127 else (lfnE a (Z (c + 1) i) : Int) - 1023) Z) : mjW1 (d + 1) 32 [yR 2 c, yI (i : Int)] Z q := by
  refine mje_32 ?_
  rw [h0, show ((i : Int)).toNat = i from rfl, wPow52, wPow23]
  rcases ha with ha | ha <;> subst ha
  · exact ⟨by omega, fun g => absurd rfl g, fun _ => ⟨by omega, by omega, hq⟩⟩
  · exact ⟨by omega, fun _ => ⟨by omega, by omega, hq⟩, fun g => absurd g (by decide)⟩
theorem wAndJa {m : Int} {k : Nat} (hk : k < 63) : mjAndJ m (mjShlJ 1 (k : Int) - 1) = m % ((2 ^ k : Nat) : Int) := by
  rw [wShl1J hk, wAndJp hk]
theorem lf_frac (h0 : Z c 0 = a) (ha : a = 2 ∨ a = 3) (hi : i < 8) (hw : -9223372036854775808 ≤ Z (c + 1) i ∧ Z (c + 1) i < 9223372036854775808) (hq : q (lfnF a (Z (c + 1) i)) Z) : mjW1 (d + 4) 30 [yR 2 c, yI (i : Int)] Z q := by
  refine mje_30 (d := d + 3) (lf_nought (d := d + 2) h0 ha hi hw (fun g => ⟨by omega, fun k => absurd k (by decide), fun _ => ?_⟩) (fun g => ⟨by omega, fun _ => lf_power (d := d + 2) h0 ha hi ?_, fun k => absurd rfl k⟩))
  · rcases ha with ha | ha <;> subst ha
    · have h := @lfn2 (Z (c + 1) i)
      have h2 := h.1
      unfold lgC at h2
      have k := lg0 (b := 150) (q0 := -149) (h.1 ▸ g)
      rw [← h.1, ← h.2.1] at k
      rw [lfnF2, if_neg (by split at h2 <;> omega)] at hq
      unfold lfnR lfnU at hq
      rw [k.1, k.2] at hq
      exact hq
    · have h := @lfn3 (Z (c + 1) i)
      have h2 := h.1
      unfold lgC at h2
      have k := lg0 (b := 1075) (q0 := -1074) (h.1 ▸ g)
      rw [← h.1, ← h.2.1] at k
      rw [lfnF3, if_neg (by split at h2 <;> omega)] at hq
      unfold lfnR lfnU at hq
      rw [k.1, k.2] at hq
      exact hq
  · rw [h0]
    rcases ha with ha | ha <;> subst ha
    · have h := @lfn2 (Z (c + 1) i)
      rw [if_pos rfl]
      rw [lfnF2] at hq
      unfold lfnR lfnU at hq
      rw [h.1, h.2.1] at hq
      rw [h.1] at g
      refine ⟨by omega, fun k => absurd rfl k, fun _ => ⟨by omega, fun g1 => ⟨fun g2 => ?_, fun g2 => ?_⟩, fun g1 => ?_⟩⟩
      · refine mje_33 (d := d + 2) ?_
        rw [h0]
        refine ⟨by omega, fun k => absurd rfl k, fun _ => ⟨by omega, fun g3 => ?_, fun g3 => ?_⟩⟩
        · have l := lg3 (E := lfnE 2 (Z (c + 1) i)) (T := lfnT 2 (Z (c + 1) i)) (P := 8388608) (b := 150) (q0 := -149) (by omega) (by omega)
          rw [if_neg (by omega), l.1, l.2] at hq
          have ea : (23 : Int) - ((lfnE 2 (Z (c + 1) i) : Int) - 127) = ((150 - lfnE 2 (Z (c + 1) i) : Nat) : Int) := by omega
          rw [ea]
          have hk : 150 - lfnE 2 (Z (c + 1) i) < 63 := by omega
          revert hq hk
          generalize 150 - lfnE 2 (Z (c + 1) i) = k
          intro hq hk
          refine lf_man (d := d + 1) h0 (Or.inl rfl) hi ⟨wJJr, fun g4 => lf_man (d := d + 1) h0 (Or.inl rfl) hi ⟨wJIr, fun g5 => ?_, fun g5 => ?_⟩, fun g4 => ?_⟩
          · rw [if_pos rfl, wAndJa hk, show (8388608 : Int) + (lfnT 2 (Z (c + 1) i) : Int) = ((8388608 + lfnT 2 (Z (c + 1) i) : Nat) : Int) by omega, ← Int.natCast_emod] at g4
            rw [if_pos rfl, wUshJn (by omega) (by omega) (by omega), show (8388608 : Int) + (lfnT 2 (Z (c + 1) i) : Int) = ((8388608 + lfnT 2 (Z (c + 1) i) : Nat) : Int) by omega, ← Int.natCast_ediv] at g5
            rw [if_neg (by omega), if_neg (by omega)] at hq
            exact hq
          · rw [if_pos rfl, wAndJa hk, show (8388608 : Int) + (lfnT 2 (Z (c + 1) i) : Int) = ((8388608 + lfnT 2 (Z (c + 1) i) : Nat) : Int) by omega, ← Int.natCast_emod] at g4
            rw [if_pos rfl, wUshJn (by omega) (by omega) (by omega), show (8388608 : Int) + (lfnT 2 (Z (c + 1) i) : Int) = ((8388608 + lfnT 2 (Z (c + 1) i) : Nat) : Int) by omega, ← Int.natCast_ediv] at g5
            rw [if_neg (by omega), if_pos (by omega)] at hq
            exact hq
          · rw [if_pos rfl, wAndJa hk, show (8388608 : Int) + (lfnT 2 (Z (c + 1) i) : Int) = ((8388608 + lfnT 2 (Z (c + 1) i) : Nat) : Int) by omega, ← Int.natCast_emod] at g4
            rw [if_pos (by omega)] at hq
            exact hq
        · have l := lg2 (E := lfnE 2 (Z (c + 1) i)) (T := lfnT 2 (Z (c + 1) i)) (P := 8388608) (b := 150) (q0 := -149) (by omega) (by omega)
          rw [if_neg (by omega), if_neg (by omega), if_pos (by omega)] at hq
          exact hq
      · have l := lg1 (p := 23) (E := lfnE 2 (Z (c + 1) i)) (T := lfnT 2 (Z (c + 1) i)) (P := 8388608) (b := 150) (q0 := -149) (by decide) h.2.2.1 (by decide) g (by omega)
        rw [if_neg (by omega), if_pos l] at hq
        exact hq
      · rw [if_pos (by omega)] at hq
        exact hq
    · have h := @lfn3 (Z (c + 1) i)
      rw [if_neg (by decide)]
      rw [lfnF3] at hq
      unfold lfnR lfnU at hq
      rw [h.1, h.2.1] at hq
      rw [h.1] at g
      refine ⟨by omega, fun _ => ⟨by omega, fun g1 => ⟨fun g2 => ?_, fun g2 => ?_⟩, fun g1 => ?_⟩, fun k => absurd k (by decide)⟩
      · refine mje_33 (d := d + 2) ?_
        rw [h0]
        refine ⟨by omega, fun _ => ⟨by omega, fun g3 => ?_, fun g3 => ?_⟩, fun k => absurd k (by decide)⟩
        · have l := lg3 (E := lfnE 3 (Z (c + 1) i)) (T := lfnT 3 (Z (c + 1) i)) (P := 4503599627370496) (b := 1075) (q0 := -1074) (by omega) (by omega)
          rw [if_neg (by omega), l.1, l.2] at hq
          have ea : (52 : Int) - ((lfnE 3 (Z (c + 1) i) : Int) - 1023) = ((1075 - lfnE 3 (Z (c + 1) i) : Nat) : Int) := by omega
          rw [ea]
          have hk : 1075 - lfnE 3 (Z (c + 1) i) < 63 := by omega
          revert hq hk
          generalize 1075 - lfnE 3 (Z (c + 1) i) = k
          intro hq hk
          refine lf_man (d := d + 1) h0 (Or.inr rfl) hi ⟨wJJr, fun g4 => lf_man (d := d + 1) h0 (Or.inr rfl) hi ⟨wJIr, fun g5 => ?_, fun g5 => ?_⟩, fun g4 => ?_⟩
          · rw [if_neg (by decide), wAndJa hk, show (4503599627370496 : Int) + (lfnT 3 (Z (c + 1) i) : Int) = ((4503599627370496 + lfnT 3 (Z (c + 1) i) : Nat) : Int) by omega, ← Int.natCast_emod] at g4
            rw [if_neg (by decide), wUshJn (by omega) (by omega) (by omega), show (4503599627370496 : Int) + (lfnT 3 (Z (c + 1) i) : Int) = ((4503599627370496 + lfnT 3 (Z (c + 1) i) : Nat) : Int) by omega, ← Int.natCast_ediv] at g5
            rw [if_neg (by omega), if_neg (by omega)] at hq
            exact hq
          · rw [if_neg (by decide), wAndJa hk, show (4503599627370496 : Int) + (lfnT 3 (Z (c + 1) i) : Int) = ((4503599627370496 + lfnT 3 (Z (c + 1) i) : Nat) : Int) by omega, ← Int.natCast_emod] at g4
            rw [if_neg (by decide), wUshJn (by omega) (by omega) (by omega), show (4503599627370496 : Int) + (lfnT 3 (Z (c + 1) i) : Int) = ((4503599627370496 + lfnT 3 (Z (c + 1) i) : Nat) : Int) by omega, ← Int.natCast_ediv] at g5
            rw [if_neg (by omega), if_pos (by omega)] at hq
            exact hq
          · rw [if_neg (by decide), wAndJa hk, show (4503599627370496 : Int) + (lfnT 3 (Z (c + 1) i) : Int) = ((4503599627370496 + lfnT 3 (Z (c + 1) i) : Nat) : Int) by omega, ← Int.natCast_emod] at g4
            rw [if_pos (by omega)] at hq
            exact hq
        · have l := lg2 (E := lfnE 3 (Z (c + 1) i)) (T := lfnT 3 (Z (c + 1) i)) (P := 4503599627370496) (b := 1075) (q0 := -1074) (by omega) (by omega)
          rw [if_neg (by omega), if_neg (by omega), if_pos (by omega)] at hq
          exact hq
      · have l := lg1 (p := 52) (E := lfnE 3 (Z (c + 1) i)) (T := lfnT 3 (Z (c + 1) i)) (P := 4503599627370496) (b := 1075) (q0 := -1074) (by decide) h.2.2.1 (by decide) g (by omega)
        rw [if_neg (by omega), if_pos l] at hq
        exact hq
      · rw [if_pos (by omega)] at hq
        exact hq
end LFD
