/-! Cases: sign, bits, word. -/
/-- how many of thirty halvings leave something -/
def nbF (y : Nat) (i : Nat) (s : Int) : Int := if y / 2 ^ i = 0 then s else s + 1
def nb (y : Nat) : Int := fo (nbF y) 30 0
theorem nbF_add {y : Nat} {w : Int} : ∀ m, fo (nbF y) m w = w + fo (nbF y) m 0
  | 0 => by show w = w + 0; omega
  | m + 1 => by
    show nbF y m (fo (nbF y) m w) = w + nbF y m (fo (nbF y) m 0)
    rw [nbF_add m]
    unfold nbF
    split <;> omega
theorem nb_mono {y k : Nat} (h : y / 2 ^ k = 0) : ∀ j, k ≤ j → y / 2 ^ j = 0 := fun j hj => by
  have e : 2 ^ k ≤ 2 ^ j := Nat.pow_le_pow_right (by decide) hj
  have p := Nat.two_pow_pos k
  have h2 : y < 2 ^ k := by
    rcases Nat.lt_or_ge y (2 ^ k) with g | g
    · exact g
    · have := Nat.div_pos g p
      omega
  exact Nat.div_eq_of_lt (by omega)
theorem nb_is {y k : Nat} (hk : k ≤ 30) (h : y / 2 ^ k = 0) (h2 : ∀ j, j < k → y / 2 ^ j ≠ 0) : nb y = (k : Int) := by
  have : ∀ m, fo (nbF y) m 0 = ((min m k : Nat) : Int) := by
    intro m
    induction m with
    | zero => rw [Nat.zero_min]; rfl
    | succ m ih =>
      show nbF y m (fo (nbF y) m 0) = _
      rw [ih]
      unfold nbF
      by_cases g : m < k
      · rw [if_neg (h2 m g)]; omega
      · rw [if_pos (nb_mono h m (by omega))]; omega
  show fo (nbF y) 30 0 = _
  rw [this]
  omega
/-- a limb, and a word of two limbs -/
def lmN (Z : mjZ) (i n j : Nat) : Nat := if j < n then (Z 474 (24 * i + j)).toNat else 0
def wdN (Z : mjZ) (i n k : Nat) : Nat := (lmN Z i n (32 * k / 30 + 1) * 1073741824 + lmN Z i n (32 * k / 30)) / 2 ^ (32 * k % 30) % 4294967296
def btN (Z : mjZ) (i n : Nat) : Int := if n = 0 then 0 else 30 * ((n : Int) - 1) + nb (lmN Z i n (n - 1))
section RG
variable {d i n : Nat} {Z : mjZ}
theorem rgIs.lm (h : rgIs Z i n) (j : Nat) : (lmN Z i n j : Int) = bgG Z (156 + 2 * i) j ∧ lmN Z i n j < 1073741824 ∧ (j < n → (lmN Z i n j : Int) = Z 474 (24 * i + j)) := by
  obtain ⟨h1, ⟨h2, h3, h4⟩, h5, h6, h7, h8, h9, h10, h11⟩ := h
  unfold lmN bgG
  by_cases g : j < n
  · have := h9 j (Nat.zero_le _) (by omega)
    dsimp only at this
    have := h10 j g
    rw [if_pos g, if_pos (by omega), show 156 + 2 * i + 1 = 157 + 2 * i by omega]
    exact ⟨by omega, by omega, fun _ => by omega⟩
  · rw [if_neg g, if_neg (by omega)]
    exact ⟨by omega, by omega, fun k => absurd k g⟩
theorem fc_has {x : Int} {m : Nat} {q : Int → mjZ → Prop} (hm : Z 0 4 = (m : Int)) (h48 : m ≤ 48) (hx : -2147483648 ≤ x ∧ x < 2147483648) (hq : q (if 0 ≤ x ∧ x < m then 1 else 0) Z) : mjW1 (d + 1) 154 [yR 10 0, yI x] Z q := by
  refine mje_154 ⟨hx, fun g => ?_, fun g => ⟨by omega, fun k => ?_, fun k => ⟨fun l => ?_, fun l => ?_⟩⟩⟩
  · rw [if_neg (by omega)] at hq; exact hq
  · rw [if_neg (by omega)] at hq; exact hq
  · omega
  · rw [if_pos (by omega)] at hq; exact hq
theorem fc_width {q : Int → mjZ → Prop} (hR : bgR (156 + 2 * i) 12) (h : rgIs Z i n) (hq : q (btN Z i n) Z) : mjW1 (d + 2) 156 [yR 0 (156 + 2 * i)] Z q := by
  obtain ⟨h1, h2, h5, h6, h7, h8, h9, h10, h11⟩ := id h
  have h3 := h2.2.1
  refine mje_156 (d := d + 1) ⟨by omega, fun g => ?_, fun g => ?_⟩
  · obtain ⟨l1, l2, l3⟩ := h.lm (n - 1)
    unfold btN at hq
    rw [if_neg (by omega)] at hq
    refine lp_fold0 (n := 30) (f := nbF (lmN Z i n (n - 1))) (L := fun k w => mjL_156_21 (d + 1) (156 + 2 * i) w k Z q) (fun k w hk hL => ?_) ?_
    · refine mjl_156_21 ⟨by omega, fun g => by omega, fun _ => bg_digit (d := d) hR h2 (by omega) (by omega) ?_⟩
      rw [h3, show ((n : Int) - 1).toNat = n - 1 by omega, ← l1, wShrI (by omega) (by omega) (by omega), ← Int.natCast_ediv]
      have ub : lmN Z i n (n - 1) / 2 ^ k ≤ lmN Z i n (n - 1) := Nat.div_le_self _ _
      have nn : (0 : Int) ≤ ((lmN Z i n (n - 1) / 2 ^ k : Nat) : Int) := Int.natCast_nonneg _
      refine ⟨by omega, fun g => ?_, fun g => ?_⟩
      · have e : nbF (lmN Z i n (n - 1)) k w = w := by unfold nbF; rw [if_pos (by omega)]
        rw [e] at hL
        rw [Int.add_zero]
        exact hL
      · have e : nbF (lmN Z i n (n - 1)) k w = w + 1 := by unfold nbF; rw [if_neg (by omega)]
        rw [e] at hL
        exact hL
    · refine mjl_156_21 ⟨by omega, fun _ => ?_, fun g => by omega⟩
      rw [nbF_add, h3, show ((n : Int) - 1) * 30 = 30 * ((n : Int) - 1) by omega]
      exact hq
  · unfold btN at hq
    rw [if_pos (by omega)] at hq
    exact hq
theorem fm_bits {q : Int → mjZ → Prop} (hi : i < 48) (h : rgIs Z i n) (hq : q (btN Z i n) Z) : mjW1 (d + 1) 241 [yR 11 464, yI (i : Int)] Z q := by
  obtain ⟨h1, h2, h5, h6, h7, h8, h9, h10, h11⟩ := id h
  refine mje_241 ⟨by omega, by omega, by omega, fun g => ⟨by omega, by omega, ?_⟩, fun g => ?_⟩
  · obtain ⟨l1, l2, l3⟩ := h.lm (n - 1)
    unfold btN at hq
    rw [if_neg (by omega)] at hq
    rw [h5, show ((24 * (i : Int) + (n : Int)) - 1).toNat = 24 * i + (n - 1) by omega, ← l3 (by omega)]
    generalize lmN Z i n (n - 1) = y at *
    have main : ∀ r k : Nat, k + r = 30 → (∀ j, j < k → y / 2 ^ j ≠ 0) → mjL_241_42 d i (30 * ((n : Int) - 1) + (k : Int)) ((y / 2 ^ k : Nat) : Int) Z q := by
      intro r
      induction r with
      | zero =>
        intro k hk hj
        have z : y / 2 ^ k = 0 := Nat.div_eq_of_lt (by rw [show k = 30 by omega]; exact l2)
        rw [z]
        refine mjl_241_42 ⟨by omega, fun _ => ?_, fun g => by omega⟩
        rw [nb_is (by omega) z hj] at hq
        exact hq
      | succ r ih =>
        intro k hk hj
        have ub : y / 2 ^ k ≤ y := Nat.div_le_self _ _
        have nn : (0 : Int) ≤ ((y / 2 ^ k : Nat) : Int) := Int.natCast_nonneg _
        refine mjl_241_42 ⟨by omega, fun g => ?_, fun g => ?_⟩
        · have z : y / 2 ^ k = 0 := by omega
          rw [nb_is (by omega) z hj] at hq
          exact hq
        · have := ih (k + 1) (by omega) (fun j hj2 => by
            rcases Nat.lt_or_ge j k with r | r
            · exact hj j r
            · rw [show j = k by omega]; omega)
          have e : mjShrJ ((y / 2 ^ k : Nat) : Int) 1 = ((y / 2 ^ (k + 1) : Nat) : Int) := by
            have := wShrJ (x := ((y / 2 ^ k : Nat) : Int)) (i := 1) (by omega) (by omega) (by decide)
            rw [show ((1 : Nat) : Int) = 1 from rfl] at this
            rw [this, ← Int.natCast_ediv, Nat.div_div_eq_div_mul, ← Nat.pow_add]
          rw [e, Int.add_assoc, show (k : Int) + 1 = ((k + 1 : Nat) : Int) by omega]
          exact this
    have := main 30 0 (by omega) (fun j hj => by omega)
    rw [show y / 2 ^ 0 = y by rw [Nat.pow_zero, Nat.div_one], show ((0 : Nat) : Int) = 0 from rfl, Int.add_zero] at this
    exact this
  · unfold btN at hq
    rw [if_pos (by omega)] at hq
    exact hq
theorem fc_wordAt {k : Nat} {q : Int → mjZ → Prop} (hR : bgR (156 + 2 * i) 12) (h : rgIs Z i n) (hk : k ≤ 12) (hq : q (wdN Z i n k : Int) Z) : mjW2 (d + 2) 158 [yR 0 (156 + 2 * i), yI (k : Int)] Z q := by
  obtain ⟨h1, h2, h5, h6, h7, h8, h9, h10, h11⟩ := id h
  have eT : Int.tdiv (32 * (k : Int)) 30 = ((32 * k / 30 : Nat) : Int) := by
    rw [show 32 * (k : Int) = ((32 * k : Nat) : Int) by omega]
    rfl
  have eM : Int.tmod (32 * (k : Int)) 30 = ((32 * k % 30 : Nat) : Int) := by
    rw [show 32 * (k : Int) = ((32 * k : Nat) : Int) by omega]
    rfl
  obtain ⟨l1, l2, l3⟩ := h.lm (32 * k / 30)
  obtain ⟨r1, r2, r3⟩ := h.lm (32 * k / 30 + 1)
  refine mje_158 (d := d + 1) ⟨by omega, fun g => by omega, fun _ => ?_⟩
  rw [hR.1, eT, eM]
  refine ⟨by omega, fun _ => ⟨by omega, bg_digit (d := d) hR h2 (by omega) (by omega) ?_⟩, fun g => by omega⟩
  rw [show (((32 * k / 30 : Nat) : Int) + 1).toNat = 32 * k / 30 + 1 by omega, ← r1]
  refine ⟨by omega, bg_digit (d := d) hR h2 (by omega) (by omega) ?_⟩
  rw [show ((32 * k / 30 : Nat) : Int).toNat = 32 * k / 30 from rfl, ← l1]
  refine ⟨by omega, ?_⟩
  rw [wOrJ (by omega) (by omega) (by omega) (by omega), wUshJn (by omega) (by omega) (by omega), wAndJ32]
  have e : ((lmN Z i n (32 * k / 30 + 1) : Int) * 1073741824 + (lmN Z i n (32 * k / 30) : Int)) / ((2 ^ (32 * k % 30) : Nat) : Int) % 4294967296 = (wdN Z i n k : Int) := by
    unfold wdN
    rw [Int.natCast_emod, Int.natCast_ediv, Int.natCast_add, Int.natCast_mul]
    rfl
  rw [e]
  exact hq
theorem fm_bit {b : Nat} {q : Int → mjZ → Prop} (hi : i < 48) (h : rgIs Z i n) (hb : b < 1000) (hq : q ((lmN Z i n (b / 30) / 2 ^ (b % 30) % 2 : Nat) : Int) Z) : mjW1 (d + 2) 237 [yR 11 464, yI (i : Int), yI (b : Int)] Z q := by
  obtain ⟨h1, h2, h5, h6, h7, h8, h9, h10, h11⟩ := id h
  obtain ⟨l1, l2, l3⟩ := h.lm (b / 30)
  have eT : Int.tdiv (b : Int) 30 = ((b / 30 : Nat) : Int) := rfl
  have eM : Int.tmod (b : Int) 30 = ((b % 30 : Nat) : Int) := rfl
  refine mje_237 (d := d + 1) ⟨by omega, ?_⟩
  rw [eT, eM]
  have fin : ∀ y : Nat, y < 1073741824 → mjAndI (mjL2I (mjShrJ (y : Int) ((b % 30 : Nat) : Int))) 1 = ((y / 2 ^ (b % 30) % 2 : Nat) : Int) := fun y hy => by
    have ub : y / 2 ^ (b % 30) ≤ y := Nat.div_le_self _ _
    have nn : (0 : Int) ≤ ((y / 2 ^ (b % 30) : Nat) : Int) := Int.natCast_nonneg _
    rw [wAndI1, wShrJ (by omega) (by omega) (by omega), ← Int.natCast_ediv, mjL2I_eq, Int.bmod_eq_of_le (by omega) (by omega)]
    omega
  refine mje_224 (d := d) ⟨by omega, by omega, by omega, by omega, fun g => ?_, fun g => ⟨by omega, by omega, ?_⟩⟩
  · have z : lmN Z i n (b / 30) = 0 := by unfold lmN; rw [if_neg (by omega)]
    rw [z] at hq
    rw [show (0 : Int) = ((0 : Nat) : Int) from rfl, fin 0 (by decide)]
    exact hq
  · rw [show (24 * (i : Int) + ((b / 30 : Nat) : Int)).toNat = 24 * i + b / 30 by omega, ← l3 (by omega), fin _ l2]
    exact hq
theorem bit_of {D0 D1 r b : Nat} (h0 : D0 < 1073741824) (hr : r < 30) (hb : b < 32) (hrb : r + b < 60) : (if r + b < 30 then D0 / 2 ^ (r + b) % 2 else D1 / 2 ^ (r + b - 30) % 2) = (D1 * 1073741824 + D0) / 2 ^ r / 2 ^ b % 2 := by
  rw [Nat.div_div_eq_div_mul, ← Nat.pow_add]
  by_cases h : r + b < 30
  · rw [if_pos h]
    have e : 1073741824 = 2 ^ (r + b) * (2 * 2 ^ (29 - (r + b))) := by
      rw [← Nat.pow_succ', ← Nat.pow_add, show r + b + (29 - (r + b)).succ = 30 by omega]
    have e2 : D1 * 1073741824 + D0 = D0 + 2 ^ (r + b) * (2 * (2 ^ (29 - (r + b)) * D1)) := by
      rw [← Nat.mul_assoc 2, ← Nat.mul_assoc, ← e, Nat.mul_comm, Nat.add_comm]
    rw [e2, Nat.add_mul_div_left _ _ (Nat.two_pow_pos _)]
    omega
  · rw [if_neg h, show r + b = 30 + (r + b - 30) by omega, Nat.pow_add, ← Nat.div_div_eq_div_mul, show (D1 * 1073741824 + D0) / 2 ^ 30 = D1 by rw [show (2 : Nat) ^ 30 = 1073741824 from rfl]; omega, show 30 + (r + b - 30) - 30 = r + b - 30 by omega]
theorem fm_wordOf {k : Nat} {q : Int → mjZ → Prop} (hi : i < 48) (h : rgIs Z i n) (hk : k ≤ 22) (hq : q (wdN Z i n k : Int) Z) : mjW2 (d + 3) 255 [yR 11 464, yI (i : Int), yI (k : Int)] Z q := by
  obtain ⟨l1, l2, l3⟩ := h.lm (32 * k / 30)
  refine mje_255 (d := d + 2) ?_
  have key : ∀ b, b < 32 → lmN Z i n ((32 * k + b) / 30) / 2 ^ ((32 * k + b) % 30) % 2 = (lmN Z i n (32 * k / 30 + 1) * 1073741824 + lmN Z i n (32 * k / 30)) / 2 ^ (32 * k % 30) / 2 ^ b % 2 := fun b hb => by
    rw [← bit_of l2 (by omega) hb (by omega)]
    by_cases g : 32 * k % 30 + b < 30
    · rw [if_pos g, show (32 * k + b) / 30 = 32 * k / 30 by omega, show (32 * k + b) % 30 = 32 * k % 30 + b by omega]
    · rw [if_neg g, show (32 * k + b) / 30 = 32 * k / 30 + 1 by omega, show (32 * k + b) % 30 = 32 * k % 30 + b - 30 by omega]
  unfold wdN at hq
  generalize (lmN Z i n (32 * k / 30 + 1) * 1073741824 + lmN Z i n (32 * k / 30)) / 2 ^ (32 * k % 30) = E at *
  have main : ∀ b m : Nat, b + m = 32 → mjL_255_6 (d + 2) i k ((E / 2 ^ b % 2 ^ m : Nat) : Int) ((b : Int) - 1) Z q := by
    intro b
    induction b with
    | zero =>
      intro m hm
      refine mjl_255_6 ⟨by omega, fun _ => ?_, fun g => by omega⟩
      rw [show m = 32 by omega, Nat.pow_zero, Nat.div_one]
      exact hq
    | succ b ih =>
      intro m hm
      refine mjl_255_6 ⟨by omega, fun g => by omega, fun _ => ?_⟩
      rw [show 32 * (k : Int) + (((b + 1 : Nat) : Int) - 1) = ((32 * k + b : Nat) : Int) by omega]
      refine fm_bit (d := d) hi h (by omega) ?_
      rw [key b (by omega)]
      have e : E / 2 ^ b % 2 ^ (m + 1) = E / 2 ^ b % 2 + 2 * (E / 2 ^ (b + 1) % 2 ^ m) := by
        rw [Nat.pow_succ' (m := 2) (n := m), Nat.mod_mul, Nat.div_div_eq_div_mul, ← Nat.pow_succ]
      have := ih (m + 1) (by omega)
      rw [e] at this
      refine ⟨by omega, ?_⟩
      rw [show 2 * ((E / 2 ^ (b + 1) % 2 ^ m : Nat) : Int) + ((E / 2 ^ b % 2 : Nat) : Int) = ((E / 2 ^ b % 2 + 2 * (E / 2 ^ (b + 1) % 2 ^ m) : Nat) : Int) by omega, show ((b + 1 : Nat) : Int) - 1 + -1 = (b : Int) - 1 by omega]
      exact this
  have := main 32 0 (by omega)
  rw [Nat.pow_zero, Nat.mod_one] at this
  exact this
end RG
