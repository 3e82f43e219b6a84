/-! Euclid's loop over great numbers. -/
section BGL
variable {d R c a b t : Nat} {Z : mjZ}
theorem gcd_natAbs {x y : Int} : Int.gcd y (x.tmod y) = Int.gcd x y := by
  unfold Int.gcd
  rw [Int.natAbs_tmod, Nat.gcd_comm, ← Nat.gcd_rec, Nat.gcd_comm]
def gbS (R c i0 : Nat) (x y : Int) (o s r : Nat) (Z0 Z : mjZ) : Prop := dvT c Z o s r ∧ bgIs R Z o x ∧ bgIs R Z s y ∧ (∀ k, k < c ∨ c + 8 < k → Z k = Z0 k) ∧ (y.natAbs ≤ x.natAbs ∧ x.natAbs * y.natAbs < 2 ^ i0 ∨ x.natAbs < y.natAbs ∧ x.natAbs * y.natAbs < 2 ^ (i0 - 1) ∧ 1 ≤ i0)
/-- a turn of the loop -/
theorem gb_turn {k : Nat} {x y : Int} {o s r i : Nat} {Z0 : mjZ} {q : mjZ → Prop} (hC : dvC c R) (hS : gbS R c k x y o s r Z0 Z) (hy : y ≠ 0)
    (ih : 1 ≤ k → ∀ Z', gbS R c (k - 1) y (x.tmod y) s r o Z0 Z' → mjL_134_19 (d + 5) c a b t (i + 1) Z' q) :
    mjOk 0 (Z c 2).toNat ∧ (mjOk 0 (Z c 3).toNat ∧ (mjW0 (d + 5) 102 [yR 1 c, yR 0 ((Z c 2).toNat), yR 0 ((Z c 3).toNat)] Z (fun Z31 => mjOk 0 (Z31 c 2).toNat ∧ (mjOk 0 (Z31 c 3).toNat ∧ (mjOk 0 ((mjUp Z31 c 2 (((Z31 c 3).toNat : Nat) : Int)) c 4).toNat ∧ (mjL_134_19 (d + 5) c a b t (i + 1) (mjUp (mjUp (mjUp Z31 c 2 (((Z31 c 3).toNat : Nat) : Int)) c 3 ((((mjUp Z31 c 2 (((Z31 c 3).toNat : Nat) : Int)) c 4).toNat : Nat) : Int)) c 4 (((Z31 c 2).toNat : Nat) : Int)) q)))))) := by
  obtain ⟨hT, hx, hyy, ho, hm⟩ := hS
  have hn := hT.n
  obtain ⟨h1, h2, h3, h4, h5, h6, h7, h8, h9⟩ := id hT
  obtain ⟨k1, k2⟩ := hC.2 o h4
  obtain ⟨l1, l2⟩ := hC.2 s h5
  obtain ⟨m1, m2⟩ := hC.2 r h6
  obtain ⟨x1, x2, x3, x4, x5, x6⟩ := hT.x
  obtain ⟨t1, t2, t3⟩ := gl_step (by omega) hm
  rw [hn.1, hn.2.1]
  refine ⟨k1, l1, dv_divide (d := d) hC.1 k2 l2 m2 m1 h3 x1 x2 x3 x4 x5 x6 hx hyy fun Z' o' b1 b2 => ?_⟩
  have ec : Z' c = Z c := o' c (by omega) (by omega) (by omega) (by omega) (by omega) (by omega)
  have es : Z' s = Z s := o' s (by omega) (by omega) (by omega) (by omega) (by omega) (by omega)
  have es1 : Z' (s + 1) = Z (s + 1) := o' _ (by omega) (by omega) (by omega) (by omega) (by omega) (by omega)
  have e4 : mjUp Z' c 2 (((Z' c 3).toNat : Nat) : Int) c 4 = Z c 4 := by rw [mjUp_ne fun _ => by omega, ec]
  rw [e4, ec, hn.1, hn.2.1, hn.2.2]
  refine ⟨k1, l1, m1, ih t1 _ ?_⟩
  have f : ∀ y, y ≠ c → mjUp (mjUp (mjUp Z' c 2 (s : Int)) c 3 (r : Int)) c 4 (o : Int) y = Z' y := fun y hy => by rw [mjUp_nc hy, mjUp_nc hy, mjUp_nc hy]
  refine ⟨⟨?_, ?_, mjUp_at, h5, h6, h4, h9, h7.symm, h8.symm⟩, ?_, ?_, fun k hk => ?_, ?_⟩
  · rw [mjUp_ne fun _ => by omega, mjUp_ne fun _ => by omega, mjUp_at]
  · rw [mjUp_ne fun _ => by omega, mjUp_at]
  · exact bgIs_congr (bgIs_congr hyy es es1) (f s (by omega)) (f (s + 1) (by omega))
  · exact bgIs_congr b2 (f r (by omega)) (f (r + 1) (by omega))
  · rw [f k (by omega), o' k (by omega) (by omega) (by omega) (by omega) (by omega) (by omega), ho k hk]
  · rw [Int.natAbs_tmod]
    exact Or.inl ⟨t2, t3⟩
theorem gb_loop {v w : Int} {Z0 : mjZ} {q : mjZ → Prop} (hC : dvC c R) (ht : bgR t R) (et : dvE c t) (hq : ∀ Z' o s r, (∀ k, k ≠ t → k ≠ t + 1 → k < c ∨ c + 8 < k → Z' k = Z0 k) → dvT c Z' o s r → bgIs R Z' t ((Int.gcd v w : Nat) : Int) → q Z') : ∀ (k i : Nat) (x y : Int) (o s r : Nat) (Z : mjZ), i + k ≤ 90000 → Int.gcd x y = Int.gcd v w → gbS R c k x y o s r Z0 Z → mjL_134_19 (d + 5) c a b t i Z q
  | k, i, x, y, o, s, r, Z, hi, hg, hS => by
    obtain ⟨hT, hx, hy, ho, hm⟩ := id hS
    have hn := hT.n
    obtain ⟨h1, h2, h3, h4, h5, h6, h7, h8, h9⟩ := id hT
    obtain ⟨k1, k2⟩ := hC.2 o h4
    obtain ⟨l1, l2⟩ := hC.2 s h5
    have hsg := hy.sg
    have et' := et
    unfold dvE at et'
    have hsr : Z s 0 = 0 ↔ y = 0 := by
      rw [hsg]
      by_cases q1 : y < 0
      · rw [if_pos q1]; omega
      · rw [if_neg q1]
        by_cases q2 : y = 0
        · rw [if_pos q2]; omega
        · rw [if_neg q2]; omega
    have hs2 : -2147483648 ≤ Z s 0 ∧ Z s 0 < 2147483648 := by
      rw [hsg]
      split
      · omega
      · split <;> omega
    have fin0 : ∀ Z', mjO2 t Z Z' → bgIs R Z' t ((Int.gcd x y : Nat) : Int) → q Z' := fun Z' o' b' => by
      rw [hg] at b'
      exact hq Z' o s r (fun k g1 g2 g3 => by rw [o' k g1 g2, ho k g3]) (hT.cc (o' c (by omega) (by omega))) b'
    have hturn : y ≠ 0 → _ := fun hy0 => gb_turn (d := d) (a := a) (b := b) (t := t) (i := i) (q := q) hC hS hy0 fun hk Z' hS' => gb_loop hC ht et hq (k - 1) (i + 1) y (x.tmod y) s r o Z' (by omega) (by rw [gcd_natAbs]; exact hg) hS'
    refine mjl_134_19 ⟨by omega, fun h => by omega, fun _ => ?_⟩
    rw [hn.2.1]
    refine ⟨l1, hs2, fun h0 => ⟨fun h => absurd h0 h, fun _ => ?_⟩, fun h0 => ?_⟩
    · have hy0 := hsr.mp h0
      refine bg_gcdEnd0 (d := d + 2) hC hT ht et hx fun Z' o' b' => fin0 Z' o' ?_
      rw [hy0, Int.gcd_zero_right, ← bgA_nat]
      exact b'
    · have hy0 : y ≠ 0 := fun h => h0 (hsr.mpr h)
      have hturn2 := hturn hy0
      rw [hn.1, hn.2.1] at hturn2
      obtain ⟨n1, g1, g2, g3, g4, g5, g6, g7, g8, g9, g10⟩ := hx.n
      obtain ⟨n2, f1, f2, f3, f4, f5, f6, f7, f8, f9, f10⟩ := hy.n
      have r1 := k2.2.2
      rw [hn.1]
      refine ⟨k1, bg_isShort (d := d + 4) (v := x) g1 (by have := g1.1; omega) ?_⟩
      refine ⟨by split <;> omega, fun h => ?_, fun h => ?_⟩
      · rw [hn.1, hn.2.1]
        exact hturn2
      · have hn1 : n1 < 3 := by
          rcases Nat.lt_or_ge n1 3 with g | g
          · exact g
          · rw [if_neg (by omega)] at h; exact absurd rfl h
        rw [hn.2.1]
        refine ⟨l1, bg_isShort (d := d + 4) (v := y) f1 (by have := f1.1; omega) ?_⟩
        refine ⟨by split <;> omega, fun h => ?_, fun h => ?_⟩
        · have hn2 : n2 < 3 := by
            rcases Nat.lt_or_ge n2 3 with g | g
            · exact g
            · rw [if_neg (by omega)] at h; exact absurd rfl h
          rw [hn.2.1]
          have p1 := bgP_mono (show n1 ≤ 2 by omega)
          have p2 := bgP_mono (show n2 ≤ 2 by omega)
          have p3 : bgP 2 = 1152921504606846976 := rfl
          refine ⟨l1, hs2, fun _ => ?_, fun h => absurd h0 h⟩
          have := bg_gcdEnd1 (d := d + 2) (q := q) hC hT ht et hx hy (by omega) (by omega) fin0
          exact this
        · rw [hn.1, hn.2.1]
          exact hturn2
  termination_by k => k
  decreasing_by omega
/-- t becomes the greatest number that goes into both -/
theorem bg_gcd {v w : Int} {o s r : Nat} {q : mjZ → Prop} (hC : dvC c R) (hT : dvT c Z o s r) (ha : bgR a R) (hb : bgR b R) (ht : bgR t R) (ea : dvE c a) (eb : dvE c b) (et : dvE c t) (hv : bgIs R Z a v) (hw : bgIs R Z b w)
    (hq : ∀ Z' o s r, (∀ k, k ≠ t → k ≠ t + 1 → k < c ∨ c + 8 < k → Z' k = Z k) → dvT c Z' o s r → bgIs R Z' t ((Int.gcd v w : Nat) : Int) → q Z') : mjW0 (d + 6) 134 [yR 1 c, yR 0 a, yR 0 b, yR 0 t] Z q := by
  have hn := hT.n
  obtain ⟨h1, h2, h3, h4, h5, h6, h7, h8, h9⟩ := id hT
  obtain ⟨k1, k2⟩ := hC.2 o h4
  obtain ⟨l1, l2⟩ := hC.2 s h5
  have ea' := ea
  have eb' := eb
  unfold dvE at ea' eb'
  have hv10 : bgA v < bgP R := by obtain ⟨n, g1, g2, g3, g4, g5, g6, g7, g8, g9, g10⟩ := hv.n; exact g10
  have hw10 : bgA w < bgP R := by obtain ⟨n, g1, g2, g3, g4, g5, g6, g7, g8, g9, g10⟩ := hw.n; exact g10
  have r3 := ha.2.2
  refine mje_134 (d := d + 4) ?_
  rw [hn.1]
  refine ⟨k1, bg_copy (d := d + 3) k2 ha (by unfold bgX; omega) hv hv10 fun Z1 o1 b1 => ?_⟩
  have ec1 : Z1 c = Z c := o1 c (by omega) (by omega)
  rw [ec1, hn.2.1]
  have hw1 : bgIs R Z1 b w := bgIs_congr hw (o1 b (by omega) (by omega)) (o1 (b + 1) (by omega) (by omega))
  refine ⟨l1, bg_copy (d := d + 3) l2 hb (by unfold bgX; omega) hw1 hw10 fun Z2 o2 b2 => ?_⟩
  have ec2 : Z2 c = Z c := by rw [o2 c (by omega) (by omega), ec1]
  refine gb_loop (d := d) (Z0 := Z) hC ht et hq 2402 0 v w o s r Z2 (by omega) rfl ⟨hT.cc ec2, bgIs_congr b1 (o2 o (by omega) (by omega)) (o2 (o + 1) (by omega) (by omega)), b2, fun k hk => by rw [o2 k (by omega) (by omega), o1 k (by omega) (by omega)], ?_⟩
  rw [bgA_nat, bgP_pow] at hv10 hw10
  have p1 : 2 ^ (30 * R) ≤ 2 ^ 1200 := Nat.pow_le_pow_right (by omega) (by omega)
  have p2 : v.natAbs * w.natAbs < 2 ^ 1200 * 2 ^ 1200 := by
    have g1 : v.natAbs < 2 ^ 1200 := by omega
    have g2 : w.natAbs < 2 ^ 1200 := by omega
    exact Nat.lt_of_le_of_lt (Nat.mul_le_mul_left _ (Nat.le_of_lt g2)) (Nat.mul_lt_mul_of_pos_right g1 (Nat.pow_pos (by omega)))
  rw [← Nat.pow_add] at p2
  have p3 : 2 ^ (1200 + 1200) ≤ 2 ^ (2402 - 1) := Nat.pow_le_pow_right (by omega) (by omega)
  have p4 : 2 ^ (1200 + 1200) ≤ 2 ^ 2402 := Nat.pow_le_pow_right (by omega) (by omega)
  rcases Nat.lt_or_ge v.natAbs w.natAbs with h | h
  · exact Or.inr ⟨h, Nat.lt_of_lt_of_le p2 p3, by omega⟩
  · exact Or.inl ⟨h, Nat.lt_of_lt_of_le p2 p4⟩
end BGL
