/-! Cases: count, shut. -/
theorem rp_vs {K : Type} [Lean.Grind.Field K] [LE K] [LT K] [Std.LawfulOrderLT K] [Std.IsLinearOrder K] [Lean.Grind.OrderedRing K] {u : Nat → Int} {rs : List K} {a b : Int} (hp : isP u rs) : (vs (fun i => isg (rp u rs.length a b rs.length i)) (rs.length + 1)).2 = (nHi a b rs : Int) ∧ (vs (fun i => sg1 i * isg (rp u rs.length a b rs.length i)) (rs.length + 1)).2 = (nLo a b rs : Int) ∧ (∀ i, i < nAt a b rs → rp u rs.length a b rs.length i = 0) ∧ rp u rs.length a b rs.length (nAt a b rs) ≠ 0 ∧ nHi a b rs + nAt a b rs + nLo a b rs = rs.length := weigh (u := u) fun k hk => rp_plc hp k hk
def rtS (Z Z' : mjZ) : Prop := (∀ c, c ≠ 464 → c ≠ 474 → c ≠ 475 → c ≠ 476 → c ≠ 477 → Z' c = Z c) ∧ (∀ k, k < 84 → Z' 475 k = Z 475 k ∧ Z' 476 k = Z 476 k ∧ ∀ j, j < 24 → Z' 474 (24 * k + j) = Z 474 (24 * k + j)) ∧ ∀ k, k ≠ 34 → k ≠ 35 → k ≠ 36 → Z' 464 k = Z 464 k
theorem n58 : (46656000000000000 : Int) ≤ 2 ^ 58 := by decide
theorem fm_rootsK {K : Type} [Lean.Grind.Field K] [LE K] [LT K] [Std.LawfulOrderLT K] [Std.IsLinearOrder K] [Lean.Grind.OrderedRing K] {rs : List K} {d m : Nat} {u : Nat → Int} {a b x2 : Int} {Z : mjZ} {q : mjZ → Prop} (hp : isP u rs) (hl : rs.length = m) (h6 : m ≤ 6) (hw : x2 = 0 ∨ x2 = 1) (hR : ∀ k, k ≤ m → (if x2 = 0 then Z 480 k else Z 488 k) = u k) (ub : ∀ k, bgA (u k) ≤ 46656000000000000) (ha : -1073741824 < a ∧ a < 1073741824) (hb : -1073741824 < b ∧ b < 1073741824) (hq : ∀ Z', rtS Z Z' → Z' 464 34 = (nLo a b rs : Int) → Z' 464 35 = (nAt a b rs : Int) → Z' 464 36 = (nHi a b rs : Int) → q Z') : mjW0 (d + 5) 218 [yR 11 464, yI (m : Int), yI x2, yI a, yI b] Z q := by
  subst hl
  obtain ⟨w1, w2, w3, w4, w5⟩ := rp_vs (a := a) (b := b) hp
  refine fm_roots (d := d) (u := u) (j0 := nAt a b rs) h6 hw hR (fun k => Int.le_trans (ub k) n58) (b30 ha) (b30 hb) (by omega) w3 w4 fun Z' g1 g2 g3 g4 g5 g6 => ?_
  rw [w1] at g5
  rw [w2] at g6
  exact hq Z' ⟨g1, g2, g3⟩ g6 g4 g5
theorem dsp3 {x v0 v1 v2 : Int} {Z : mjZ} {q : Int → mjZ → Prop} (hx : 0 ≤ x ∧ x ≤ 5) (h : q (if Int.tmod x 3 = 0 then v0 else if Int.tmod x 3 = 1 then v1 else v2) Z) : (-2147483648 ≤ (Int.tmod x 3) ∧ (Int.tmod x 3) < 2147483648) ∧ (((Int.tmod x 3) ≠ 0 → (((Int.tmod x 3) ≠ 1 → (q v2 Z)) ∧ (¬((Int.tmod x 3) ≠ 1) → (q v1 Z)))) ∧ (¬((Int.tmod x 3) ≠ 0) → (q v0 Z))) := by
  have e : Int.tmod x 3 = x % 3 := Int.tmod_eq_emod_of_nonneg hx.1
  rw [e] at h ⊢
  refine ⟨by omega, fun g => ⟨fun k => ?_, fun k => ?_⟩, fun g => ?_⟩
  · rw [if_neg g, if_neg k] at h
    exact h
  · rw [if_neg g, if_pos (Decidable.not_not.mp k)] at h
    exact h
  · rw [if_pos (Decidable.not_not.mp g)] at h
    exact h
/-- what the last state must keep -/
theorem INV_ct {Z Zc Zf : mjZ} (c1 : INV Z) (h1 : ∀ c, c < 254 ∨ 463 < c → Zc c = Z c) (hA : ivA Zc) (h2 : ∀ c, c < 464 ∨ (464 < c ∧ c < 474) ∨ c = 481 → Zf c = Zc c) (h3 : ∀ k, k < 30 → Zf 464 k = Zc 464 k) (h4 : ∀ k, k < 84 → Zf 475 k = Zc 475 k ∧ Zf 476 k = Zc 476 k ∧ ∀ j, j < 24 → Zf 474 (24 * k + j) = Zc 474 (24 * k + j)) : INV Zf := by
  refine INV_rf c1 (fun c hc => ?_) (fun k _ => ?_) (fun k hk => ?_) ?_ (fun k hk => ?_) (hA.own fun c hc => h2 c (by omega))
  · rw [h2 c (by omega), h1 c (by omega)]
  · rw [h2 0 (by omega), h1 0 (by omega)]
  · rw [h3 k (by omega), h1 464 (by omega)]
  · rw [h2 0 (by omega), h1 0 (by omega), h3 11 (by omega), h1 464 (by omega)]
    exact c1.2.2.2.1.2.2.2
  · have := h4 k hk
    rw [h1 475 (by omega), h1 476 (by omega), h1 474 (by omega)] at this
    exact this
theorem iv_count_ok : iv_count INV := fun Z x1 x2 x3 x4 hI => by
  obtain ⟨m, a1, a2, a3, a4⟩ := id hI.2.1
  have hx := i32r x1
  have hx2 := i32r x2
  have hx3 := i32r x3
  have hx4 := i32r x4
  -- the reference's way in
  have way : ∀ (t : Nat) (Z1 : mjZ) (q : Int → mjZ → Prop), x1.toInt = (t : Int) → t < m → Z1 464 3 = (m : Int) → (¬ ((0 ≤ x2.toInt ∧ x2.toInt ≤ 5) ∧ (1 ≤ x4.toInt ∧ x4.toInt ≤ 1000) ∧ (-1000000 ≤ x3.toInt ∧ x3.toInt ≤ 1000000)) → q (-102) Z1) → ((0 ≤ x2.toInt ∧ x2.toInt ≤ 5) → (1 ≤ x4.toInt ∧ x4.toInt ≤ 1000) → (-1000000 ≤ x3.toInt ∧ x3.toInt ≤ 1000000) → (3 ≤ x2.toInt → mjW0 9 207 [yR 11 464, yI x1.toInt] Z1 (fun Z10 => mjW0 9 218 [yR 11 464, yI (Z10 464 32), yI 1, yI x3.toInt, yI x4.toInt] Z10 (fun Z11 => (-2147483648 ≤ (Int.tmod x2.toInt 3) ∧ (Int.tmod x2.toInt 3) < 2147483648) ∧ (((Int.tmod x2.toInt 3) ≠ 0 → (((Int.tmod x2.toInt 3) ≠ 1 → (q (Z11 464 36) Z11)) ∧ (¬((Int.tmod x2.toInt 3) ≠ 1) → (q (Z11 464 35) Z11)))) ∧ (¬((Int.tmod x2.toInt 3) ≠ 0) → (q (Z11 464 34) Z11)))))) ∧ (¬ 3 ≤ x2.toInt → mjW0 9 201 [yR 11 464, yI x1.toInt] Z1 (fun Z13 => mjW0 9 218 [yR 11 464, yI (Z13 469 t), yI 0, yI x3.toInt, yI x4.toInt] Z13 (fun Z16 => (-2147483648 ≤ (Int.tmod x2.toInt 3) ∧ (Int.tmod x2.toInt 3) < 2147483648) ∧ (((Int.tmod x2.toInt 3) ≠ 0 → (((Int.tmod x2.toInt 3) ≠ 1 → (q (Z16 464 36) Z16)) ∧ (¬((Int.tmod x2.toInt 3) ≠ 1) → (q (Z16 464 35) Z16)))) ∧ (¬((Int.tmod x2.toInt 3) ≠ 0) → (q (Z16 464 34) Z16))))))) → mjW1 10 217 [yR 11 464, yI x1.toInt, yI x2.toInt, yI x3.toInt, yI x4.toInt] Z1 q := fun t Z1 q ht htm hm no yes => by
    refine mje_217 (d := 9) (fm_isTable (d := 7) hm a1 hx ?_)
    rw [if_pos (by omega)]
    refine ⟨by omega, fun _ => fm_in (d := 8) hx2 (by omega) (by omega) ?_, fun g => by omega⟩
    by_cases p2 : 0 ≤ x2.toInt ∧ x2.toInt ≤ 5
    · rw [if_pos p2]
      refine ⟨by omega, fun g => by omega, fun _ => fm_in (d := 8) hx4 (by omega) (by omega) ?_⟩
      by_cases p4 : 1 ≤ x4.toInt ∧ x4.toInt ≤ 1000
      · rw [if_pos p4]
        refine ⟨by omega, fun g => by omega, fun _ => fm_in (d := 8) hx3 (by omega) (by omega) ?_⟩
        by_cases p3 : -1000000 ≤ x3.toInt ∧ x3.toInt ≤ 1000000
        · rw [if_pos p3]
          obtain ⟨y1, y2⟩ := yes p2 p4 p3
          refine ⟨by omega, fun _ => ⟨hx2, y1, fun g => (y2 g).mono fun Z13 h => ⟨by omega, by omega, ?_⟩⟩, fun g => by omega⟩
          rw [show (x1.toInt).toNat = t by omega]
          exact h
        · rw [if_neg p3]
          exact ⟨by omega, fun g => absurd rfl g, fun _ => no fun h => p3 h.2.2⟩
      · rw [if_neg p4]
        exact ⟨by omega, fun _ => no fun h => p4 h.2.1, fun g => absurd rfl g⟩
    · rw [if_neg p2]
      exact ⟨by omega, fun _ => no fun h => p2 h.1, fun g => absurd rfl g⟩
  have out : ∀ t : Nat, x1.toInt = (t : Int) → t < m → ¬ ((0 ≤ x2.toInt ∧ x2.toInt ≤ 5) ∧ (1 ≤ x4.toInt ∧ x4.toInt ≤ 1000) ∧ (-1000000 ≤ x3.toInt ∧ x3.toInt ≤ 1000000)) → mjW1 10 217 [yR 11 464, yI x1.toInt, yI x2.toInt, yI x3.toInt, yI x4.toInt] Z fun z' Z2 => Int32.ofInt z' = Int32.ofInt (-102) ∧ INV Z2 := fun t ht htm h => way t Z _ ht htm a3 (fun _ => ⟨rfl, hI⟩) fun h1 h2 h3 => absurd ⟨h1, h2, h3⟩ h
  refine mje_115 (d := 9) (fc_tableAt (d := 8) a2 a1 hx (fun h => ?_) fun t ht htm => ⟨by omega, fun g => out t ht htm (by omega), fun g1 => ⟨fun g => out t ht htm (by omega), fun g2 => ⟨by omega, fun g => out t ht htm (by omega), fun g3 => ⟨fun g => out t ht htm (by omega), fun g4 => ⟨by omega, fun g => out t ht htm (by omega), fun g5 => ⟨fun g6 => ?_, fun g => out t ht htm (by omega)⟩⟩⟩⟩⟩⟩)
  · refine mje_217 (d := 9) (fm_isTable (d := 7) a3 a1 hx ?_)
    rw [if_neg h]
    exact ⟨by omega, fun g => absurd rfl g, fun _ => ⟨rfl, hI⟩⟩
  · clear out
    refine rd_go (d := 5) hI a2 htm fun Z' n T hR hZ => ?_
    obtain ⟨c1, c2, c3, c4, c5, c6, c7, c8, c9⟩ := hR
    obtain ⟨K, i1, i2, i3, i4, i5, i6, rs, ds, U, F, D, M, r1, r2, r3, r4, r5, r6, r7, r8, r9⟩ := stages c7 c8 (fun i k hi hk => (c5 i k hi hk).2) c6
    have hA := c1.2.2.2.2.2
    have ubU : ∀ k, bgA (leU n T k) ≤ 46656000000000000 := fun k => by
      rw [← r7]
      exact SG_bd (r9 0) k
    refine ⟨fun k3 => ?_, fun k3 => ?_⟩
    · have m6 := SG_m6 (r9 0)
      refine ft_least (D := 1) (u := U 0) (d := D 0) (trO_A hA) (by rw [r8]; exact c2) (fun i hi => by rw [r7]; exact c3 i (by omega)) (r9 0) (SG_bd (r9 1)) fun Z2 k1 k2 k5 k4 => ?_
      refine ft_weigh (D := 3) (rs := ds) (u := F 0) r4 r5 (Or.inr rfl) m6 k5 k4 (SG_f (r9 0)) (by omega) (by omega) fun Z3 v1 v2 v3 v4 => ?_
      rw [v2, v3, v4]
      have hA2 : ivA Z2 := ivA_tr hA k2 fun x h1 h2 h3 => k1 x h1 (by omega) (by omega)
      have hA3 : ivA Z3 := hA2.own fun c hc => v1 c (by unfold wgS; omega)
      have cc : ∀ c, c < 254 ∨ 463 < c → Z3 c = Z' c := fun c hc => by rw [v1 c (by unfold wgS; omega), k1 c (by omega) (by omega) (by omega)]
      refine dsp3 (x := x2.toInt) (q := fun z Z1 => mjW1 10 217 [yR 11 464, yI x1.toInt, yI x2.toInt, yI x3.toInt, yI x4.toInt] Z1 fun z' Z2 => Int32.ofInt z' = Int32.ofInt z ∧ INV Z2) (by omega) (way t Z3 _ ht htm (by rw [cc 464 (by omega), hZ 464 (by omega)]; exact a3) (fun h => absurd ⟨⟨by omega, by omega⟩, ⟨by omega, by omega⟩, by omega, by omega⟩ h) fun h1 h2 h3 => ⟨fun _ => ?_, fun g => absurd k3 g⟩)
      rw [ht]
      refine fp_leastOf (d := 1) (U := U) (F := F) (D := D) (M := M) c9 c7 c8 (by rw [cc 469 (by omega)]; exact c4) (fun i k hi hk => by rw [cc 470 (by omega)]; exact c5 i k hi hk) (fun q hq => by rw [cc 481 (by omega)]; exact pq_Z hA q hq) r7 r8 r9 fun Z5 w1 w2 w3 w4 w5 w6 => ?_
      rw [w4]
      refine fm_rootsK (d := 4) (rs := ds) (u := F 0) r4 r5 m6 (Or.inr rfl) (fun k hk => by rw [if_neg (by decide)]; exact w6 k (by omega)) (SG_f (r9 0)) (by omega) (by omega) fun Zf s1 s2 s3 s4 => ?_
      rw [s2, s3, s4]
      refine dsp3 (x := x2.toInt) (q := fun z' Z2 => Int32.ofInt z' = Int32.ofInt (if Int.tmod x2.toInt 3 = 0 then (nLo x3.toInt x4.toInt ds : Int) else if Int.tmod x2.toInt 3 = 1 then (nAt x3.toInt x4.toInt ds : Int) else (nHi x3.toInt x4.toInt ds : Int)) ∧ INV Z2) (by omega) ⟨rfl, INV_ct c1 cc hA3 (fun c hc => ?_) (fun k hk => ?_) fun k hk => ?_⟩
      · rw [s1.1 c (by omega) (by omega) (by omega) (by omega) (by omega)]
        by_cases e : c = 481
        · rw [e]; exact w3
        · exact w1 c (by omega) (by omega)
      · rw [s1.2.2 k (by omega) (by omega) (by omega), w2 k (by omega)]
      · have := s1.2.1 k hk
        rw [w1 475 (by omega) (by omega), w1 476 (by omega) (by omega), w1 474 (by omega) (by omega)] at this
        exact this
    · refine ft_weigh (D := 3) (rs := rs) (u := leU n T) r1 r2 (Or.inl rfl) c8 c2 c3 ubU (by omega) (by omega) fun Z3 v1 v2 v3 v4 => ?_
      rw [v2, v3, v4]
      have hA3 : ivA Z3 := hA.own fun c hc => v1 c (by unfold wgS; omega)
      have cc : ∀ c, c < 254 ∨ 463 < c → Z3 c = Z' c := fun c hc => v1 c (by unfold wgS; omega)
      refine dsp3 (x := x2.toInt) (q := fun z Z1 => mjW1 10 217 [yR 11 464, yI x1.toInt, yI x2.toInt, yI x3.toInt, yI x4.toInt] Z1 fun z' Z2 => Int32.ofInt z' = Int32.ofInt z ∧ INV Z2) (by omega) (way t Z3 _ ht htm (by rw [cc 464 (by omega), hZ 464 (by omega)]; exact a3) (fun h => absurd ⟨⟨by omega, by omega⟩, ⟨by omega, by omega⟩, by omega, by omega⟩ h) fun h1 h2 h3 => ⟨fun g => absurd g k3, fun _ => ?_⟩)
      rw [ht]
      refine fm_polyOf (d := 7) c9 c7 c8 (by rw [cc 469 (by omega)]; exact c4) (fun i k hi hk => by rw [cc 470 (by omega)]; exact c5 i k hi hk) fun gg hh pp hpp => ?_
      have e9 : wS Z3 gg hh pp 469 t = (n : Int) := by rw [wS_ne (by decide) (by decide) (by decide), cc 469 (by omega)]; exact c4
      rw [e9]
      refine fm_rootsK (d := 4) (rs := rs) (u := leU n T) r1 r2 c8 (Or.inl rfl) (fun k hk => ?_) ubU (by omega) (by omega) fun Zf s1 s2 s3 s4 => ?_
      · rw [if_pos rfl, wS_ap, hpp k (by omega)]
        rfl
      rw [s2, s3, s4]
      refine dsp3 (x := x2.toInt) (q := fun z' Z2 => Int32.ofInt z' = Int32.ofInt (if Int.tmod x2.toInt 3 = 0 then (nLo x3.toInt x4.toInt rs : Int) else if Int.tmod x2.toInt 3 = 1 then (nAt x3.toInt x4.toInt rs : Int) else (nHi x3.toInt x4.toInt rs : Int)) ∧ INV Z2) (by omega) ⟨rfl, INV_ct c1 cc hA3 (fun c hc => ?_) (fun k hk => ?_) fun k hk => ?_⟩
      · rw [s1.1 c (by omega) (by omega) (by omega) (by omega) (by omega), wS_ne (by omega) (by omega) (by omega)]
      · rw [s1.2.2 k (by omega) (by omega) (by omega), wS_ne (by decide) (by decide) (by decide)]
      · have := s1.2.1 k hk
        rw [wS_ne (by decide) (by decide) (by decide), wS_ne (by decide) (by decide) (by decide), wS_ne (by decide) (by decide) (by decide)] at this
        exact this
