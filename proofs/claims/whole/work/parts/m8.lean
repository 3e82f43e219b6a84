/-! The class: roots weighed against a fraction. -/
theorem sc_row {i : Nat} (hi : i < 7) : bgR (325 + 3 + 2 * i) 10 := by
  have h1 : ∀ i : Fin 7, mjNn 100 (325 + 3 + 2 * i.val + 1) = 10 := by decide +kernel
  exact ⟨h1 ⟨i, hi⟩, by decide, by decide⟩
theorem sc_more : bgR 326 10 := by
  have h : mjNn 100 327 = 10 := by decide +kernel
  exact ⟨h, by decide, by decide⟩
section SC
variable {d : Nat} {u : Nat → Int} {a b : Int}
theorem hn_bd {c : Nat → Int} {W : Int} (ha : bgA a ≤ 2 ^ 30) (hc : ∀ k, k ≤ d → bgA (c k) ≤ W * (2 ^ 30) ^ (d - k)) : ∀ m k, k + m = d → bgA (hn a c m k) ≤ ((m + 1 : Nat) : Int) * (W * (2 ^ 30) ^ m)
  | 0, k, h => by
    have h1 := hc k (by omega)
    rw [show d - k = 0 by omega] at h1
    rw [show ((0 + 1 : Nat) : Int) = 1 from rfl, Int.one_mul]
    exact h1
  | m + 1, k, h => by
    have h1 := hc k (by omega)
    rw [show d - k = m + 1 by omega] at h1
    have h2 := bgA_a h1 (bgA_m ha (hn_bd ha hc m (k + 1) (by omega)))
    refine Int.le_trans h2 ?_
    generalize ((2 : Int) ^ 30) = A
    rw [Int.pow_succ, show ((m + 1 + 1 : Nat) : Int) = ((m + 1 : Nat) : Int) + 1 by omega]
    generalize (((m + 1 : Nat)) : Int) = n
    generalize A ^ m = P
    refine Int.le_of_eq ?_
    grind
theorem sc_W {W : Int} (hW : 0 ≤ W) {m : Nat} (h : m ≤ 6) : ((m + 1 : Nat) : Int) * (W * (2 ^ 30) ^ m) ≤ 7 * (W * (2 ^ 30) ^ m) := Int.mul_le_mul_of_nonneg_right (by omega) (Int.mul_nonneg hW (Int.pow_nonneg (by decide)))
theorem pss_bd {w : Nat → Int} {W : Int} (h6 : d ≤ 6) (hW : 0 ≤ W) (ha : bgA a ≤ 2 ^ 30) (hc : ∀ k, k ≤ d → bgA (w k) ≤ W * (2 ^ 30) ^ (d - k)) : ∀ i k, k ≤ d → bgA (pss a d w i k) ≤ 7 ^ i * W * (2 ^ 30) ^ (d - k)
  | 0, k, hk => by
    rw [Int.pow_zero, Int.one_mul]
    exact hc k hk
  | i + 1, k, hk => by
    have ih := pss_bd h6 hW ha hc i
    have p7 : (0 : Int) ≤ 7 ^ i * W := Int.mul_nonneg (Int.pow_nonneg (by decide)) hW
    have pA : (0 : Int) ≤ 7 ^ i * W * (2 ^ 30) ^ (d - k) := Int.mul_nonneg p7 (Int.pow_nonneg (by decide))
    rw [Int.pow_succ, show (7 : Int) ^ i * 7 * W * (2 ^ 30) ^ (d - k) = 7 * (7 ^ i * W * (2 ^ 30) ^ (d - k)) by grind]
    show bgA (if i ≤ k ∧ k ≤ d then hn a (pss a d w i) (d - k) k else pss a d w i k) ≤ _
    by_cases g : i ≤ k ∧ k ≤ d
    · rw [if_pos g]
      exact Int.le_trans (hn_bd ha ih (d - k) k (by omega)) (sc_W p7 (by omega))
    · rw [if_neg g]
      have := ih k hk
      omega
theorem sc_lim : ∀ i, i ≤ 6 → ∀ t, t ≤ 6 → (7 : Int) * (7 ^ i * 46656000000000000 * (2 ^ 30) ^ t) < bgP 10 := by decide +kernel
theorem sc_lim0 : ∀ t, t ≤ 6 → (46656000000000000 : Int) * (2 ^ 30) ^ t < bgP 10 := by decide +kernel
theorem b30 {x : Int} (h : -1073741824 < x ∧ x < 1073741824) : bgA x ≤ 2 ^ 30 := by
  unfold bgA
  split <;> omega
theorem wst_bd (ub : ∀ k, bgA (u k) ≤ 46656000000000000) (hb : bgA b ≤ 2 ^ 30) (k t : Nat) : bgA (u k * b ^ t) ≤ 46656000000000000 * (2 ^ 30) ^ t := bgA_m (ub k) (bgA_pw hb t)
def mvS (x : Nat) : Prop := 326 ≤ x ∧ x < 342
theorem ft_move {D x1 : Nat} {Z : mjZ} {q : mjZ → Prop} (hx : x1 = 255 ∨ x1 = 257) (h6 : d ≤ 6) (h0 : Z x1 0 = (d : Int)) (hu : ∀ i, i ≤ d → Z (x1 + 1) i = u i) (ub : ∀ k, bgA (u k) ≤ 46656000000000000) (ha : -1073741824 < a ∧ a < 1073741824) (hb : -1073741824 < b ∧ b < 1073741824) (hq : ∀ Z', wcS mvS Z Z' → (∀ k, k ≤ d → bgIs 10 Z' (325 + 3 + 2 * k) (pss a d (wst b d u) d k)) → q Z') : mjW0 (D + 5) 117 [yR 5 324, yR 3 x1, yI a, yI b] Z q := by
  refine mje_117 (d := D + 4) ?_
  rw [h0]
  have hA := b30 ha
  have hB := b30 hb
  have xS : ∀ {Z1 Z2 : mjZ} {c : Nat}, mjO2 c Z1 Z2 → 326 ≤ c → c + 1 < 342 → wcS mvS Z1 Z2 := fun h h1 h2 => h.S ⟨by omega, by omega⟩ ⟨by omega, by omega⟩
  have xu : ∀ {Zc : mjZ}, wcS mvS Z Zc → ∀ i, i ≤ d → Zc (x1 + 1) i = u i := fun h i hi => by
    rw [h (x1 + 1) (by unfold mvS; omega)]
    exact hu i hi
  have sec : ∀ Zc, wcS mvS Z Zc → (∀ j, j < d + 1 → bgIs 10 Zc (325 + 3 + 2 * j) (wst b d u j)) → mjL_117_69 (D + 4) x1 a b (d : Int) 0 Zc q := fun Zc g1 g2 => by
    refine lp_inv (n := d) (a := Zc) (L := fun i Zc => mjL_117_69 (D + 4) x1 a b (d : Int) i Zc q) (Y := fun i Zc => wcS mvS Z Zc ∧ ∀ k, k ≤ d → bgIs 10 Zc (325 + 3 + 2 * k) (pss a d (wst b d u) i k)) (fun i Zc hi hy hL => ?_) (fun Zc hy => ?_) ⟨g1, fun k hk => g2 k (by omega)⟩
    · obtain ⟨y1, y2⟩ := hy
      refine mjl_117_69 ⟨by omega, by omega, fun g => by omega, fun _ => ?_⟩
      have bdC := pss_bd (a := a) (w := wst b d u) h6 (W := 46656000000000000) (by decide) hA (fun k _ => wst_bd ub hB k (d - k)) i
      generalize hC : pss a d (wst b d u) i = C at *
      have hnb : ∀ m k, k + m = d → bgA (hn a C m k) ≤ 7 * (7 ^ i * 46656000000000000 * (2 ^ 30) ^ m) := fun m k h => Int.le_trans (hn_bd hA bdC m k h) (sc_W (Int.mul_nonneg (Int.pow_nonneg (by decide)) (by decide)) (by omega))
      have turn : ∀ s Zd, i + s ≤ d → wcS mvS Z Zd → (∀ k, k ≤ d → bgIs 10 Zd (325 + 3 + 2 * k) (if i + s ≤ k then hn a C (d - k) k else C k)) → mjL_117_82 (D + 4) x1 a b (d : Int) i (((i + s : Nat) : Int) - 1) Zd q := fun s => by
        induction s with
        | zero =>
          intro Zd hs z1 z2
          refine mjl_117_82 ⟨by omega, by omega, fun _ => hL Zd ⟨z1, fun k hk => ?_⟩, fun g => by omega⟩
          have e : pss a d (wst b d u) (i + 1) k = if i + 0 ≤ k then hn a C (d - k) k else C k := by
            show (if i ≤ k ∧ k ≤ d then hn a (pss a d (wst b d u) i) (d - k) k else pss a d (wst b d u) i k) = _
            rw [hC]
            by_cases g : i ≤ k
            · rw [if_pos ⟨g, hk⟩, if_pos (by omega)]
            · rw [if_neg (by omega), if_neg (by omega)]
          rw [e]
          exact z2 k hk
        | succ s ih =>
          intro Zd hs z1 z2
          have ex : ((i + (s + 1) : Nat) : Int) - 1 = ((i + s : Nat) : Int) := by omega
          rw [ex]
          refine mjl_117_82 ⟨by omega, by omega, fun g => by omega, fun _ => ⟨by omega, by omega, ?_⟩⟩
          rw [show (((i + s : Nat) : Int) + 1).toNat = i + s + 1 by omega, show (((i + s : Nat) : Int)).toNat = i + s from rfl]
          have v1 := z2 (i + s + 1) (by omega)
          rw [if_pos (by omega)] at v1
          have v0 := z2 (i + s) (by omega)
          rw [if_neg (by omega)] at v0
          obtain ⟨m, hm⟩ : ∃ m, d - (i + s + 1) = m := ⟨_, rfl⟩
          have hm1 : d - (i + s) = m + 1 := by omega
          rw [hm] at v1
          have nb := hnb m (i + s + 1) (by omega)
          have nb1 := hnb (m + 1) (i + s) (by omega)
          have l0 := sc_lim i (by omega) m (by omega)
          have l1 := sc_lim i (by omega) (m + 1) (by omega)
          have pb : bgA (hn a C m (i + s + 1) * a) < bgP 10 := by
            refine Int.lt_of_le_of_lt (bgA_m nb hA) (Int.lt_of_le_of_lt (Int.le_of_eq ?_) l1)
            rw [Int.pow_succ, Int.mul_assoc, Int.mul_assoc]
            congr 1
          refine bg_copy (d := D + 2) sc_more (sc_row (by omega)) (by unfold bgX; omega) v1 (Int.lt_of_le_of_lt nb l0) fun Z1 b1 b2 => ?_
          refine bg_scaleBy (d := D + 1) sc_more b2 ha pb fun Z2 c1 c2 => ⟨by omega, by omega, ?_⟩
          have ev : C (i + s) + 1 * (hn a C m (i + s + 1) * a) = hn a C (d - (i + s)) (i + s) := by
            rw [hm1]
            show _ = C (i + s) + a * hn a C m (i + s + 1)
            rw [Int.one_mul, Int.mul_comm]
          have evb : bgA (C (i + s) + 1 * (hn a C m (i + s + 1) * a)) < bgP 10 := by
            rw [ev, hm1]
            exact Int.lt_of_le_of_lt nb1 l1
          refine bg_add (d := D) (sc_row (by omega)) sc_more (by unfold bgX; omega) ((v0.O b1 (by unfold bgX; omega)).O c1 (by unfold bgX; omega)) c2 (Or.inr rfl) evb pb fun Z3 e1 e2 => ?_
          rw [ev] at e2
          rw [show ((i + s : Nat) : Int) + -1 = ((i + s : Nat) : Int) - 1 by omega]
          refine ih Z3 (by omega) (((z1.tr (xS b1 (by omega) (by omega))).tr (xS c1 (by omega) (by omega))).tr (xS e1 (by omega) (by omega))) fun k hk => ?_
          by_cases ek : k = i + s
          · rw [ek, if_pos (by omega)]
            exact e2
          · have := (((z2 k hk).O b1 (by unfold bgX; omega)).O c1 (by unfold bgX; omega)).O e1 (by unfold bgX; omega)
            by_cases g : i + s ≤ k
            · rw [if_pos g]
              rw [if_pos (by omega)] at this
              exact this
            · rw [if_neg g]
              rw [if_neg (by omega)] at this
              exact this
      have st := turn (d - i) Zc (by omega) y1 fun k hk => by
        by_cases g : i + (d - i) ≤ k
        · rw [if_pos g, show d - k = 0 by omega]
          exact y2 k hk
        · rw [if_neg g]
          exact y2 k hk
      rw [show ((i + (d - i) : Nat) : Int) - 1 = (d : Int) - 1 by omega] at st
      exact st
    · exact mjl_117_69 ⟨by omega, by omega, fun _ => hq Zc hy.1 hy.2, fun g => by omega⟩
  refine lp_inv (n := d + 1) (a := Z) (L := fun i Zc => mjL_117_9 (D + 4) x1 a b (d : Int) i Zc q) (Y := fun i Zc => wcS mvS Z Zc ∧ ∀ j, j < i → bgIs 10 Zc (325 + 3 + 2 * j) (wst b d u j)) (fun i Zc hi hy hL => ?_) (fun Zc hy => ?_) ⟨wcS.rf, fun j hj => by omega⟩
  · obtain ⟨y1, y2⟩ := hy
    refine mjl_117_9 ⟨by omega, by omega, fun g => by omega, fun _ => ⟨by omega, by omega, pl_nr (d := D + 3) (by omega) ?_⟩⟩
    rw [xu y1 i (by omega)]
    have ubi := ub i
    refine bg_become (d := D + 1) (sc_row (by omega)) (by unfold bgA at ubi; split at ubi <;> omega) fun Z1 b1 b2 => ?_
    refine lp_inv (n := d - i) (a := Z1) (L := fun t Zd => mjL_117_36 (D + 4) x1 a b (d : Int) i ((i + t : Nat) : Int) Zd q) (Y := fun t Zd => wcS mvS Z Zd ∧ (∀ j, j < i → bgIs 10 Zd (325 + 3 + 2 * j) (wst b d u j)) ∧ bgIs 10 Zd (325 + 3 + 2 * i) (u i * b ^ t)) (fun t Zd ht hz hL2 => ?_) (fun Zd hz => ?_) ⟨y1.tr (xS b1 (by omega) (by omega)), fun j hj => (y2 j hj).O b1 (by unfold bgX; omega), by rw [Int.pow_zero, Int.mul_one]; exact b2⟩
    · obtain ⟨z1, z2, z3⟩ := hz
      have e : u i * b ^ t * b = u i * b ^ (t + 1) := by rw [Int.pow_succ, Int.mul_assoc]
      have pb : bgA (u i * b ^ t * b) < bgP 10 := by
        rw [e]
        exact Int.lt_of_le_of_lt (wst_bd ub hB i (t + 1)) (sc_lim0 (t + 1) (by omega))
      refine mjl_117_36 ⟨by omega, by omega, fun g => by omega, fun _ => ⟨by omega, by omega, bg_scaleBy (d := D + 1) (sc_row (by omega)) z3 hb pb fun Z2 c1 c2 => ?_⟩⟩
      rw [e] at c2
      have := hL2 Z2 ⟨z1.tr (xS c1 (by omega) (by omega)), fun j hj => (z2 j hj).O c1 (by unfold bgX; omega), c2⟩
      rw [show ((i + t : Nat) : Int) + 1 = ((i + (t + 1) : Nat) : Int) by omega]
      exact this
    · obtain ⟨z1, z2, z3⟩ := hz
      refine mjl_117_36 ⟨by omega, by omega, fun _ => hL Zd ⟨z1, fun j hj => ?_⟩, fun g => by omega⟩
      by_cases ej : j = i
      · rw [ej]
        exact z3
      · exact z2 j (by omega)
  · refine mjl_117_9 ⟨by omega, by omega, fun _ => sec Zc hy.1 hy.2, fun g => by omega⟩
end SC
