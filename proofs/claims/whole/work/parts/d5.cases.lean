/-! Cases: sign, bits, word, digest. -/
theorem nb_bd (y : Nat) : 0 ≤ nb y ∧ nb y ≤ 30 := by
  have : ∀ m : Nat, 0 ≤ fo (nbF y) m 0 ∧ fo (nbF y) m 0 ≤ m := by
    intro m
    induction m with
    | zero => show (0 : Int) ≤ 0 ∧ (0 : Int) ≤ ((0 : Nat) : Int); omega
    | succ m ih =>
      show 0 ≤ nbF y m (fo (nbF y) m 0) ∧ nbF y m (fo (nbF y) m 0) ≤ ((m + 1 : Nat) : Int)
      unfold nbF
      unfold nbF at ih
      split <;> omega
  exact this 30
theorem btN_bd {Z : mjZ} {i n : Nat} (h : n ≤ 12) : 0 ≤ btN Z i n ∧ btN Z i n ≤ 360 := by
  unfold btN
  have := nb_bd (lmN Z i n (n - 1))
  split <;> omega
theorem bgR12 {i : Nat} (hi : i < 48) : bgR (156 + 2 * i) 12 := by
  have : ∀ i : Fin 48, mjNn 100 (156 + 2 * i.val + 1) = 12 := by decide +kernel
  exact ⟨this ⟨i, hi⟩, by decide, by decide⟩
theorem fm_in0 {d : Nat} {Z : mjZ} {x : Int} {m : Nat} {q : Int → mjZ → Prop} (hx : -2147483648 ≤ x ∧ x < 2147483648) (hm : Z 464 18 = (m : Int)) (h48 : m ≤ 48) (hq : q (if 0 ≤ x ∧ x < m then 1 else 0) Z) : mjW1 (d + 1) 169 [yI x, yI 0, yI ((Z 464 18) - 1)] Z q := by
  rw [hm]
  refine fm_in hx (by omega) (by omega) ?_
  by_cases g : 0 ≤ x ∧ x < m
  · rw [if_pos g] at hq
    rw [if_pos (by omega)]
    exact hq
  · rw [if_neg g] at hq
    rw [if_neg (by omega)]
    exact hq
theorem iv_sign_ok : iv_sign INV := fun Z x1 hI => by
  obtain ⟨m, a1, a2, a3, a4⟩ := hI.2.2.1
  have hx := i32r x1
  refine mje_153 (d := 9) (fc_has (d := 8) a2 a1 hx ?_)
  by_cases g : 0 ≤ x1.toInt ∧ x1.toInt < m
  · rw [if_pos g]
    obtain ⟨i, hi⟩ := Int.eq_ofNat_of_zero_le g.1
    obtain ⟨v, b1, b2⟩ := a4 i (by omega)
    obtain ⟨n, r⟩ := rg_of b1 b2
    refine ⟨by omega, fun k => by omega, fun _ => ⟨by omega, by omega, mje_252 (d := 9) (fm_in0 (d := 8) hx a3 a1 ?_)⟩⟩
    rw [if_pos g]
    refine ⟨by omega, fun k => by omega, fun _ => ⟨by omega, by omega, ?_, hI⟩⟩
    rw [hi]
    show Int32.ofInt (Z 476 i) = Int32.ofInt (Z (155 + 1 + 2 * i) 0)
    rw [show 155 + 1 + 2 * i = 156 + 2 * i by omega, r.2.2.2.1]
  · rw [if_neg g]
    refine ⟨by omega, fun _ => mje_252 (d := 9) (fm_in0 (d := 8) hx a3 a1 ?_), fun k => absurd rfl k⟩
    rw [if_neg g]
    exact ⟨by omega, fun _ => ⟨rfl, hI⟩, fun k => absurd rfl k⟩
theorem iv_bits_ok : iv_bits INV := fun Z x1 hI => by
  obtain ⟨m, a1, a2, a3, a4⟩ := hI.2.2.1
  have hx := i32r x1
  refine mje_155 (d := 9) (fc_has (d := 8) a2 a1 hx ?_)
  by_cases g : 0 ≤ x1.toInt ∧ x1.toInt < m
  · rw [if_pos g]
    obtain ⟨i, hi⟩ := Int.eq_ofNat_of_zero_le g.1
    obtain ⟨v, b1, b2⟩ := a4 i (by omega)
    obtain ⟨n, r⟩ := rg_of b1 b2
    refine ⟨by omega, fun k => by omega, fun _ => ⟨by omega, by omega, ?_⟩⟩
    rw [hi, show ((i : Int)).toNat = i from rfl, show 155 + 1 + 2 * i = 156 + 2 * i by omega]
    refine fc_width (d := 7) (bgR12 (by omega)) r (mje_253 (d := 9) (fm_in0 (d := 8) (by omega) a3 a1 ?_))
    rw [if_pos (by omega)]
    exact ⟨by omega, fun k => by omega, fun _ => fm_bits (d := 8) (by omega) r ⟨rfl, hI⟩⟩
  · rw [if_neg g]
    refine ⟨by omega, fun _ => mje_253 (d := 9) (fm_in0 (d := 8) hx a3 a1 ?_), fun k => absurd rfl k⟩
    rw [if_neg g]
    exact ⟨by omega, fun _ => ⟨rfl, hI⟩, fun k => absurd rfl k⟩
theorem wd_far {Z : mjZ} {i n k : Nat} (h : n ≤ 12) (hk : 12 < k) : wdN Z i n k = 0 := by
  unfold wdN lmN
  rw [if_neg (by omega), if_neg (by omega), Nat.zero_mul, Nat.zero_add, Nat.zero_div, Nat.zero_mod]
theorem iv_word_ok : iv_word INV := fun Z x1 x2 hI => by
  obtain ⟨m, a1, a2, a3, a4⟩ := hI.2.2.1
  have hx := i32r x1
  have hx2 := i32r x2
  refine mje_157 (d := 9) (fc_has (d := 8) a2 a1 hx ?_)
  by_cases g : 0 ≤ x1.toInt ∧ x1.toInt < m
  · rw [if_pos g]
    obtain ⟨i, hi⟩ := Int.eq_ofNat_of_zero_le g.1
    obtain ⟨v, b1, b2⟩ := a4 i (by omega)
    obtain ⟨n, r⟩ := rg_of b1 b2
    refine ⟨by omega, fun k => by omega, fun _ => ⟨by omega, by omega, ?_⟩⟩
    rw [hi, show ((i : Int)).toNat = i from rfl, show 155 + 1 + 2 * i = 156 + 2 * i by omega]
    have rf : ∀ q : Int → mjZ → Prop, (¬ (0 ≤ x2.toInt ∧ x2.toInt ≤ 22) → q 0 Z) → (0 ≤ x2.toInt ∧ x2.toInt ≤ 22 → mjW2 9 255 [yR 11 464, yI (i : Int), yI x2.toInt] Z (fun v5 Z5 => q v5 Z5)) → mjW2 10 254 [yR 11 464, yI (i : Int), yI x2.toInt] Z q := fun q h1 h2 => by
      refine mje_254 (d := 9) (fm_in0 (d := 8) (by omega) a3 a1 ?_)
      rw [if_pos (by omega)]
      refine ⟨by omega, fun k => by omega, fun _ => fm_in (d := 8) hx2 (by omega) (by omega) ?_⟩
      by_cases k : 0 ≤ x2.toInt ∧ x2.toInt ≤ 22
      · rw [if_pos k]
        exact ⟨by omega, fun l => by omega, fun _ => h2 k⟩
      · rw [if_neg k]
        exact ⟨by omega, fun _ => h1 k, fun l => absurd rfl l⟩
    by_cases k : 0 ≤ x2.toInt ∧ x2.toInt ≤ 12
    · obtain ⟨w, hw⟩ := Int.eq_ofNat_of_zero_le k.1
      rw [hw] at rf k ⊢
      refine fc_wordAt (d := 7) (bgR12 (by omega)) r (by omega) (rf _ (fun l => absurd ⟨k.1, by omega⟩ l) (fun _ => fm_wordOf (d := 6) (by omega) r (by omega) ⟨rfl, hI⟩))
    · have zero : mjW2 10 254 [yR 11 464, yI (i : Int), yI x2.toInt] Z (fun z' Z2 => Int64.ofInt z' = Int64.ofInt 0 ∧ INV Z2) := by
        refine rf _ (fun _ => ⟨rfl, hI⟩) (fun l => ?_)
        obtain ⟨w, hw⟩ := Int.eq_ofNat_of_zero_le l.1
        rw [hw] at k l ⊢
        refine fm_wordOf (d := 6) (by omega) r (by omega) ?_
        rw [wd_far r.1 (by omega)]
        exact ⟨rfl, hI⟩
      refine mje_158 (d := 8) ⟨hx2, fun _ => zero, fun l => ?_⟩
      rw [(bgR12 (i := i) (by omega)).1]
      exact ⟨by omega, fun l2 => by omega, fun _ => zero⟩
  · rw [if_neg g]
    refine ⟨by omega, fun _ => mje_254 (d := 9) (fm_in0 (d := 8) hx a3 a1 ?_), fun k => absurd rfl k⟩
    rw [if_neg g]
    exact ⟨by omega, fun _ => ⟨rfl, hI⟩, fun k => absurd rfl k⟩
