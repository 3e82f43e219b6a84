/-! The greatest number that goes into both. -/
theorem bgA_nat (z : Int) : bgA z = (z.natAbs : Int) := by unfold bgA; split <;> omega
theorem bgP_pow : ∀ m : Nat, bgP m = ((2 ^ (30 * m) : Nat) : Int)
  | 0 => rfl
  | m + 1 => by
    have h := bgP_pow m
    show 1073741824 * bgP m = _
    rw [h, show 30 * (m + 1) = 30 * m + 30 by omega, Nat.pow_add]
    omega
section BGK
variable {d R c a b t e : Nat} {Z : mjZ}
theorem bgIs.sg {v : Int} (h : bgIs R Z c v) : Z c 0 = if v < 0 then -1 else if v = 0 then 0 else 1 := by
  obtain ⟨n, h1, h2, h3, h4, h5, h6, h7, h8, h9, h10⟩ := h.n
  rcases Nat.eq_zero_or_pos n with hn | hn
  · have g1 := h4.mpr hn
    rw [g1, Int.zero_mul] at h5
    rw [g1, h5]
    rfl
  · have g1 := h8 hn
    have g2 := bgP_pos (n - 1)
    have g3 : Z c 0 ≠ 0 := fun g => by have := h4.mp g; omega
    rcases (show Z c 0 = -1 ∨ Z c 0 = 1 by omega) with g | g <;> rw [g] at h5 ⊢
    · rw [if_pos (by omega)]
    · rw [if_neg (by omega), if_neg (by omega)]
theorem gl_step {X Y t : Nat} (hY : 0 < Y) (h : Y ≤ X ∧ X * Y < 2 ^ t ∨ X < Y ∧ X * Y < 2 ^ (t - 1) ∧ 1 ≤ t) : 1 ≤ t ∧ (X % Y ≤ Y ∧ Y * (X % Y) < 2 ^ (t - 1)) := by
  have hm := Nat.mod_lt X hY
  rcases h with ⟨h1, h2⟩ | ⟨h1, h2, h3⟩
  · cases t with
    | zero =>
      have := Nat.mul_le_mul (show 1 ≤ X by omega) (show 1 ≤ Y by omega)
      rw [Nat.pow_zero] at h2
      omega
    | succ t =>
      refine ⟨by omega, by omega, ?_⟩
      have e1 : Y * (X / Y) + X % Y = X := Nat.div_add_mod X Y
      have e2 : 1 ≤ X / Y := Nat.div_pos h1 hY
      have e3 : Y * 1 ≤ Y * (X / Y) := Nat.mul_le_mul_left Y e2
      have e4 : Y * (2 * (X % Y)) ≤ Y * X := Nat.mul_le_mul_left Y (by omega)
      rw [Nat.mul_left_comm] at e4
      rw [Nat.pow_succ] at h2
      rw [Nat.add_sub_cancel]
      rw [Nat.mul_comm X Y] at h2
      omega
  · refine ⟨h3, by omega, ?_⟩
    rw [Nat.mod_eq_of_lt h1, Nat.mul_comm]
    exact h2
theorem gl_loop {a b : Int} {q : Int → mjZ → Prop} : ∀ (t i X Y : Nat), i + t ≤ 900 → (Y ≤ X ∧ X * Y < 2 ^ t ∨ X < Y ∧ X * Y < 2 ^ (t - 1) ∧ 1 ≤ t) → X < 9223372036854775808 → Y < 9223372036854775808 → q ((Nat.gcd X Y : Nat) : Int) Z → mjL_136_15 (d + 1) a b (X : Int) (Y : Int) i Z q
  | t, i, X, Y, hi, hC, hX, hY, hq => by
    rcases Nat.eq_zero_or_pos Y with h0 | h0
    · subst h0
      rw [Nat.gcd_zero_right] at hq
      exact mjl_136_15 ⟨by omega, fun _ => hq, fun _ => ⟨by omega, fun _ => hq, fun h => by omega⟩⟩
    · obtain ⟨s1, s2, s3⟩ := gl_step h0 hC
      refine mjl_136_15 ⟨by omega, fun h => by omega, fun _ => ⟨by omega, fun h => by omega, fun _ => ⟨by omega, by omega, ?_⟩⟩⟩
      have e1 : Int.tmod (X : Int) (Y : Int) = ((X % Y : Nat) : Int) := by
        rw [Int.tmod_eq_emod_of_nonneg (by omega)]
        rfl
      rw [e1]
      have hm := Nat.mod_lt X h0
      refine gl_loop (t - 1) (i + 1) Y (X % Y) (by omega) (Or.inl ⟨s2, s3⟩) hY (by omega) ?_
      rw [Nat.gcd_comm, ← Nat.gcd_rec, Nat.gcd_comm]
      exact hq
  termination_by t => t
  decreasing_by omega
theorem bg_gcdLongs {v w : Int} {q : Int → mjZ → Prop} (hv : bgA v < 1152921504606846976) (hw : bgA w < 1152921504606846976) (hq : q ((Int.gcd v w : Nat) : Int) Z) : mjW2 (d + 2) 136 [yJ v, yJ w] Z q := by
  have av := bgA_or v
  have aw := bgA_or w
  have e1 : (if 0 < v then v else -v) = ((v.natAbs : Nat) : Int) := by split <;> omega
  have e2 : (if 0 < w then w else -w) = ((w.natAbs : Nat) : Int) := by split <;> omega
  refine mje_136 (d := d) ⟨by omega, by omega, ?_⟩
  rw [e1, e2]
  refine gl_loop 125 0 _ _ (by omega) ?_ (by omega) (by omega) hq
  have e3 : v.natAbs * w.natAbs ≤ 1152921504606846976 * 1152921504606846976 := Nat.mul_le_mul (by omega) (by omega)
  rcases Nat.lt_or_ge v.natAbs w.natAbs with h | h
  · exact Or.inr ⟨h, by omega, by omega⟩
  · exact Or.inl ⟨h, by omega⟩
/-- the divider of R places at cell c: its own numbers behind it -/
def dvC (c R : Nat) : Prop := dvR c (R + 2) ∧ ∀ x, x = c + 3 ∨ x = c + 5 ∨ x = c + 7 → mjOk 0 x ∧ bgR x R
def dvT (c : Nat) (Z : mjZ) (o t r : Nat) : Prop := Z c 2 = (o : Int) ∧ Z c 3 = (t : Int) ∧ Z c 4 = (r : Int) ∧ (o = c + 3 ∨ o = c + 5 ∨ o = c + 7) ∧ (t = c + 3 ∨ t = c + 5 ∨ t = c + 7) ∧ (r = c + 3 ∨ r = c + 5 ∨ r = c + 7) ∧ o ≠ t ∧ o ≠ r ∧ t ≠ r
/-- outside of the divider -/
def dvE (c x : Nat) : Prop := x + 1 < c ∨ c + 8 < x
def dvO (c : Nat) (Z Z' : mjZ) : Prop := ∀ x, x < c ∨ c + 8 < x → Z' x = Z x
theorem dvT.n {o t r : Nat} (h : dvT c Z o t r) : (Z c 2).toNat = o ∧ (Z c 3).toNat = t ∧ (Z c 4).toNat = r := ⟨by rw [h.1]; rfl, by rw [h.2.1]; rfl, by rw [h.2.2.1]; rfl⟩
theorem dvT.x {o t r : Nat} (h : dvT c Z o t r) : bgX o t ∧ bgX o r ∧ bgX t r ∧ dvX c o ∧ dvX c t ∧ dvX c r := by
  obtain ⟨h1, h2, h3, h4, h5, h6, h7, h8, h9⟩ := h
  unfold bgX dvX
  omega
theorem dvT.cc {o t r : Nat} {Z' : mjZ} (h : dvT c Z o t r) (hc : Z' c = Z c) : dvT c Z' o t r := by
  unfold dvT at h ⊢
  rw [hc]
  exact h
theorem dv_divideX {v w : Int} {o s r : Nat} {q : mjZ → Prop} (hC : dvC c R) (hT : dvT c Z o s r) (ha : bgR a R) (hb : bgR b R) (xab : bgX a b) (ea : dvE c a) (eb : dvE c b) (hv : bgIs R Z a v) (hw : bgIs R Z b w)
    (hq : ∀ Z', (∀ x, x ≠ a → x ≠ a + 1 → x < c ∨ c + 8 < x → Z' x = Z x) → dvT c Z' o s r → bgIs R Z' a (v.tdiv w) → q Z') : mjW0 (d + 5) 102 [yR 1 c, yR 0 a, yR 0 b] Z q := by
  obtain ⟨h1, h2, h3, h4, h5, h6, h7, h8, h9⟩ := id hT
  obtain ⟨k1, k2⟩ := hC.2 r h6
  unfold dvE at ea eb
  refine dv_divide hC.1 ha hb k2 k1 h3 xab (by unfold bgX; omega) (by unfold bgX; omega) (by unfold dvX; omega) (by unfold dvX; omega) (by unfold dvX; omega) hv hw fun Z' o' b1 b2 => ?_
  refine hq Z' (fun x x1 x2 x3 => o' x x1 x2 (by omega) (by omega) (by omega) (by omega)) (hT.cc (o' c (by omega) (by omega) (by omega) (by omega) (by omega) (by omega))) b1
theorem bgIs_abs {v s : Int} (h : bgIs R Z t v) (hs : s = if v = 0 then 0 else 1) : bgIs R (mjUp Z t 0 s) t (bgA v) := by
  by_cases hv : v = 0
  · rw [if_pos hv] at hs
    have h0 := h.sg
    rw [hv] at h0
    subst hs hv
    refine bgIs_congr h ?_ (mjUp_nc (by omega))
    rw [mjUp_c]
    exact va_up_id h0
  · rw [if_neg hv] at hs
    have := bgIs_flip h hv (s := s) (Or.inr hs)
    rw [hs, Int.one_mul] at this
    rw [hs]
    exact this
/-- the loop's end, where the second is 0 or both are short -/
theorem bg_gcdEnd0 {x : Int} {o s r : Nat} {q : mjZ → Prop} (hC : dvC c R) (hT : dvT c Z o s r) (ht : bgR t R) (et : dvE c t) (hx : bgIs R Z o x) (hq : ∀ Z', mjO2 t Z Z' → bgIs R Z' t (bgA x) → q Z') : mjOk 0 (Z c 2).toNat ∧ (mjW0 (d + 3) 98 [yR 0 t, yR 0 ((Z c 2).toNat)] Z (fun Z11 => mjOk 0 (Z11 c 2).toNat ∧ ((-2147483648 ≤ (Z11 ((Z11 c 2).toNat) 0) ∧ (Z11 ((Z11 c 2).toNat) 0) < 2147483648) ∧ (q (mjUp Z11 t 0 (if 0 ≤ (Z11 ((Z11 c 2).toNat) 0) then (Z11 ((Z11 c 2).toNat) 0) else 0 - (Z11 ((Z11 c 2).toNat) 0))))))) := by
  have hn := hT.n
  obtain ⟨h1, h2, h3, h4, h5, h6, h7, h8, h9⟩ := id hT
  obtain ⟨k1, k2⟩ := hC.2 o h4
  obtain ⟨n, g1, g2, g3, g4, g5, g6, g7, g8, g9, g10⟩ := hx.n
  unfold dvE at et
  rw [hn.1]
  refine ⟨k1, bg_copy (d := d + 1) ht k2 (by unfold bgX; omega) hx g10 fun Z2 o2 b2 => ?_⟩
  have ec : Z2 c = Z c := o2 c (by omega) (by omega)
  have eo : Z2 o = Z o := o2 o (by omega) (by omega)
  rw [ec, hn.1, eo]
  have hsg := hx.sg
  refine ⟨k1, ?_, hq _ (o2.trans mjO2.up0) (bgIs_abs b2 ?_)⟩
  · rw [hsg]
    split
    · omega
    · split <;> omega
  · rw [hsg]
    by_cases q1 : x < 0
    · rw [if_pos q1, if_neg (by omega), if_neg (by omega)]; rfl
    · rw [if_neg q1]
      by_cases q2 : x = 0
      · rw [if_pos q2, if_pos (by omega)]
      · rw [if_neg q2, if_pos (by omega)]
theorem bg_gcdEnd1 {x y : Int} {o s r : Nat} {q : mjZ → Prop} (hC : dvC c R) (hT : dvT c Z o s r) (ht : bgR t R) (et : dvE c t) (hx : bgIs R Z o x) (hy : bgIs R Z s y) (hxs : bgA x < 1152921504606846976) (hys : bgA y < 1152921504606846976) (hq : ∀ Z', mjO2 t Z Z' → bgIs R Z' t ((Int.gcd x y : Nat) : Int) → q Z') : mjOk 0 (Z c 2).toNat ∧ (mjW2 (d + 3) 110 [yR 0 ((Z c 2).toNat)] Z (fun v5 Z5 => mjOk 0 (Z5 c 3).toNat ∧ (mjW2 (d + 3) 110 [yR 0 ((Z5 c 3).toNat)] Z5 (fun v7 Z7 => mjW2 (d + 3) 136 [yJ v5, yJ v7] Z7 (fun v8 Z8 => mjW0 (d + 3) 83 [yR 0 t, yJ v8] Z8 (fun Z9 => q Z9)))))) := by
  have hn := hT.n
  obtain ⟨h1, h2, h3, h4, h5, h6, h7, h8, h9⟩ := id hT
  obtain ⟨k1, k2⟩ := hC.2 o h4
  obtain ⟨l1, l2⟩ := hC.2 s h5
  rw [hn.1]
  refine ⟨k1, bg_asLong (d := d + 1) k2 hx (by omega) ?_⟩
  rw [hn.2.1]
  refine ⟨l1, bg_asLong (d := d + 1) l2 hy (by omega) ?_⟩
  refine bg_gcdLongs (d := d + 1) hxs hys ?_
  refine bg_become (d := d) ht ?_ fun Z2 o2 b2 => hq Z2 o2 b2
  have := Nat.gcd_le_left y.natAbs (m := x.natAbs)
  have ax := bgA_or x
  have g1 : (Int.gcd x y : Nat) ≤ 1152921504606846976 := by
    unfold Int.gcd
    rcases Nat.eq_zero_or_pos x.natAbs with h | h
    · rw [h, Nat.gcd_zero_left]
      have ay := bgA_or y
      omega
    · have := Nat.gcd_le_left y.natAbs h
      omega
  omega
end BGK
