/-! Cases: shut. -/
theorem shl_ex {k : Int} (h0 : 0 ≤ k) (h1 : k ≤ 20) : 1 ≤ mjShlI 1 k ∧ mjShlI 1 k ≤ 1048576 ∧ mjShlI 601 k = 601 * mjShlI 1 k := by
  have e : ∀ k : Fin 21, 1 ≤ mjShlI 1 (k.val : Int) ∧ mjShlI 1 (k.val : Int) ≤ 1048576 ∧ mjShlI 601 (k.val : Int) = 601 * mjShlI 1 (k.val : Int) := by decide +kernel
  obtain ⟨n, rfl⟩ : ∃ n : Nat, k = (n : Int) := ⟨k.toNat, by omega⟩
  exact e ⟨n, by omega⟩
theorem gr_ex {f : Int → Nat} {i : Int} : ∀ (n : Nat) (lo : Int), (f lo : Int) ≤ i → i < (f (lo + n) : Int) → ∃ m, lo ≤ m ∧ m < lo + n ∧ (f m : Int) ≤ i ∧ i < (f (m + 1) : Int)
  | 0, lo, h1, h2 => by
    rw [show lo + ((0 : Nat) : Int) = lo by omega] at h2
    omega
  | n + 1, lo, h1, h2 => by
    by_cases g : (f (lo + 1) : Int) ≤ i
    · obtain ⟨m, a, b, c⟩ := gr_ex n (lo + 1) g (by rw [show lo + 1 + (n : Int) = lo + ((n + 1 : Nat) : Int) by omega]; exact h2)
      exact ⟨m, by omega, by omega, c⟩
    · exact ⟨lo, by omega, by omega, h1, by omega⟩
theorem rtS.tr {Z Z1 Z2 : mjZ} (h : rtS Z Z1) (g : rtS Z1 Z2) : rtS Z Z2 := ⟨fun c c1 c2 c3 c4 c5 => (g.1 c c1 c2 c3 c4 c5).trans (h.1 c c1 c2 c3 c4 c5), fun k hk => ⟨((g.2.1 k hk).1).trans (h.2.1 k hk).1, ((g.2.1 k hk).2.1).trans (h.2.1 k hk).2.1, fun j hj => ((g.2.1 k hk).2.2 j hj).trans ((h.2.1 k hk).2.2 j hj)⟩, fun k k1 k2 k3 => (g.2.2 k k1 k2 k3).trans (h.2.2 k k1 k2 k3)⟩
theorem rtS.rf {Z : mjZ} : rtS Z Z := ⟨fun _ _ _ _ _ _ => rfl, fun _ _ => ⟨rfl, rfl, fun _ _ => rfl⟩, fun _ _ _ _ => rfl⟩
/-- the reference's search -/
theorem fm_shut {K : Type} [Lean.Grind.Field K] [LE K] [LT K] [Std.LawfulOrderLT K] [Std.IsLinearOrder K] [Lean.Grind.OrderedRing K] {rs : List K} {M : Nat} {u : Nat → Int} {b m x1 x2 x3 : Int} {Z : mjZ} {q : Int → mjZ → Prop} (hp : isP u rs) (hl : rs.length = M) (h6 : M ≤ 6) (h32 : Z 464 32 = (M : Int)) (hR : ∀ k, k ≤ M → Z 488 k = u k) (ub : ∀ k, bgA (u k) ≤ 46656000000000000) (hB : mjShlI 1 x3 = b) (hb : 1 ≤ b ∧ b ≤ 1048576) (hx2 : -2147483648 ≤ x2 ∧ x2 < 2147483648) (hm : -601 * b ≤ m ∧ m < 601 * b) (h1 : (nLo m b rs : Int) ≤ x2) (h2 : x2 < (nLo (m + 1) b rs : Int)) (hq : ∀ Z', rtS Z Z' → q (if (nAt m b rs : Int) = 1 ∧ (nLo m b rs : Int) = x2 then 1 else 0) (mjUp Z' 464 11 m)) : mjL_226_64 9 x1 x2 x3 (-(601 * b)) (601 * b) Z q := by
  have turn : ∀ s lo hi Zr, lo ≤ m → m ≤ hi → -601 * b ≤ lo → hi ≤ 601 * b → hi - lo < 2 ^ s → rtS Z Zr → mjL_226_64 9 x1 x2 x3 lo hi Zr q := fun s => by
    induction s with
    | zero =>
      intro lo hi Zr g1 g2 g3 g4 g5 g6
      have : (2 : Int) ^ 0 = 1 := rfl
      have e : lo = m := by omega
      subst e
      refine mjl_226_64 ⟨by omega, by omega, fun _ => ?_, fun g => by omega⟩
      rw [hB, g6.2.2 32 (by omega) (by omega) (by omega), h32]
      refine fm_rootsK (d := 4) (rs := rs) (u := u) hp hl h6 (Or.inr rfl) (fun k hk => by rw [if_neg (by decide), g6.1 488 (by omega) (by omega) (by omega) (by omega) (by omega)]; exact hR k hk) ub (by omega) (by omega) fun Z3 s1 s2 s3 s4 => ?_
      have e := hq Z3 (g6.tr s1)
      have e35 : mjUp Z3 464 11 lo 464 35 = Z3 464 35 := mjUp_ne fun _ => by decide
      have e34 : mjUp Z3 464 11 lo 464 34 = Z3 464 34 := mjUp_ne fun _ => by decide
      have l1 : nLo lo b rs ≤ M := by
        rw [← hl, ← mv_len (a := lo) (b := b)]
        exact cN_len _
      have l2 : nAt lo b rs ≤ M := by
        rw [← hl, ← mv_len (a := lo) (b := b)]
        exact cN_len _
      rw [e35, e34, s2, s3]
      refine ⟨by omega, fun g => ?_, fun g => ⟨by omega, by omega, fun g2 => ?_, fun g2 => ?_⟩⟩
      · rw [if_neg fun h => g h.1] at e
        exact e
      · rw [if_neg fun h => g2 h.2] at e
        exact e
      · rw [if_pos ⟨Decidable.not_not.mp g, Decidable.not_not.mp g2⟩] at e
        exact e
    | succ s ih =>
      intro lo hi Zr g1 g2 g3 g4 g5 g6
      by_cases one : hi ≤ lo
      · exact ih lo hi Zr g1 g2 g3 g4 (by
          have : (0 : Int) < 2 ^ s := Int.pow_pos (by decide)
          omega) g6
      · rw [Int.pow_succ] at g5
        have td : Int.tdiv (hi - lo + 1) 2 = (hi - lo + 1) / 2 := Int.tdiv_eq_ediv_of_nonneg (by omega)
        refine mjl_226_64 ⟨by omega, by omega, fun g => absurd g one, fun _ => ⟨by omega, ?_⟩⟩
        rw [td, hB, g6.2.2 32 (by omega) (by omega) (by omega), h32]
        obtain ⟨md, hmd⟩ : ∃ md, lo + (hi - lo + 1) / 2 = md := ⟨_, rfl⟩
        rw [hmd]
        refine fm_rootsK (d := 4) (rs := rs) (u := u) hp hl h6 (Or.inr rfl) (fun k hk => by rw [if_neg (by decide), g6.1 488 (by omega) (by omega) (by omega) (by omega) (by omega)]; exact hR k hk) ub (by omega) (by omega) fun Z3 s1 s2 s3 s4 => ?_
        have le : nLo md b rs ≤ M := by
          rw [← hl, ← mv_len (a := md) (b := b)]
          exact cN_len _
        rw [s2]
        refine ⟨by omega, hx2, fun g => ?_, fun g => ?_⟩
        · refine ih lo (md - 1) Z3 g1 ?_ g3 (by omega) (by omega) (g6.tr s1)
          refine Classical.byContradiction fun n => ?_
          have := nLo_mono (rs := rs) (b := b) (show md ≤ m by omega)
          omega
        · refine ih md hi Z3 ?_ g2 (by omega) g4 (by omega) (g6.tr s1)
          refine Classical.byContradiction fun n => ?_
          have := nLo_mono (rs := rs) (b := b) (show m + 1 ≤ md by omega)
          omega
  refine turn 31 _ _ Z (by omega) (by omega) (by omega) (Int.le_refl _) ?_ rtS.rf
  rw [show (2 : Int) ^ 31 = 2147483648 by decide]
  omega
theorem iv_shut_ok : iv_shut INV := fun Z x1 x2 x3 hI => by
  obtain ⟨m, a1, a2, a3, a4⟩ := id hI.2.1
  have hx := i32r x1
  have hx2 := i32r x2
  have hx3 := i32r x3
  have out : ∀ t : Nat, x1.toInt = (t : Int) → t < m → ¬ (0 ≤ x3.toInt ∧ x3.toInt ≤ 20) → mjW1 10 226 [yR 11 464, yI x1.toInt, yI x2.toInt, yI x3.toInt] Z fun z' Z2 => Int32.ofInt z' = Int32.ofInt (-102) ∧ INV Z2 := fun t ht htm h => by
    refine mje_226 (d := 9) (fm_isTable (d := 7) a3 a1 hx ?_)
    rw [if_pos (by omega)]
    refine ⟨by omega, fun _ => fm_in (d := 8) hx3 (by omega) (by omega) ?_, fun g => by omega⟩
    rw [if_neg h]
    exact ⟨by omega, fun g => absurd rfl g, fun _ => ⟨rfl, hI⟩⟩
  refine mje_118 (d := 9) (fc_tableAt (d := 8) a2 a1 hx (fun h => ?_) fun t ht htm => ⟨by omega, fun g => out t ht htm (by omega), fun g1 => ⟨fun g2 => ?_, fun g => out t ht htm (by omega)⟩⟩)
  · refine mje_226 (d := 9) (fm_isTable (d := 7) a3 a1 hx ?_)
    rw [if_neg h]
    exact ⟨by omega, fun g => absurd rfl g, fun _ => ⟨rfl, hI⟩⟩
  · clear out
    obtain ⟨b1, b2, b3⟩ := shl_ex (k := x3.toInt) (by omega) g2
    generalize hB : mjShlI 1 x3.toInt = b at *
    refine rd_go (d := 5) hI a2 htm fun Z' n T hR hZ => ?_
    obtain ⟨c1, c2, c3, c4, c5, c6, c7, c8, c9⟩ := hR
    obtain ⟨K, i1, i2, i3, i4, i5, i6, rs, ds, U, F, D, M, r1, r2, r3, r4, r5, r6, r7, r8, r9⟩ := stages c7 c8 (fun i k hi hk => (c5 i k hi hk).2) c6
    have hA := c1.2.2.2.2.2
    have m6 := SG_m6 (r9 0)
    refine ft_least (D := 1) (u := U 0) (d := D 0) (trO_A hA) (by rw [r8]; exact c2) (fun i hi => by rw [r7]; exact c3 i (by omega)) (r9 0) (SG_bd (r9 1)) fun Z2 k1 k2 k5 k4 => ?_
    have hA2 : ivA Z2 := ivA_tr hA k2 fun x h1 h2 h3 => k1 x h1 (by omega) (by omega)
    have cc2 : ∀ c, c < 254 ∨ 463 < c → Z2 c = Z' c := fun c hc => k1 c (by omega) (by omega) (by omega)
    -- the reference, up to its own least polynomial
    have ref : ∀ (Z1 : mjZ) (q : Int → mjZ → Prop), (∀ c, 463 < c → Z1 c = Z' c) → (∀ Z5, (∀ c, c < 478 ∨ 489 < c → c ≠ 464 → Z5 c = Z1 c) → (∀ k, k ≠ 32 → Z5 464 k = Z1 464 k) → Z5 481 = Z1 481 → Z5 464 32 = (M 0 : Int) → (∀ k, k < 7 → Z5 488 k = F 0 k) → (0 ≤ x2.toInt ∧ x2.toInt < (M 0 : Int) → mjL_226_64 9 x1.toInt x2.toInt x3.toInt (-(601 * b)) (601 * b) Z5 q) ∧ (¬ (0 ≤ x2.toInt ∧ x2.toInt < (M 0 : Int)) → q (-12) (fdM 2 Z5))) → mjW1 10 226 [yR 11 464, yI x1.toInt, yI x2.toInt, yI x3.toInt] Z1 q := fun Z1 q cc h => by
      refine mje_226 (d := 9) (fm_isTable (d := 7) (m := m) (by rw [cc 464 (by omega), hZ 464 (by omega)]; exact a3) a1 hx ?_)
      rw [if_pos (by omega)]
      refine ⟨by omega, fun _ => fm_in (d := 8) hx3 (by omega) (by omega) ?_, fun g => by omega⟩
      rw [if_pos (by omega), ht]
      refine ⟨by omega, fun _ => ?_, fun g => by omega⟩
      refine fp_leastOf (d := 1) (U := U) (F := F) (D := D) (M := M) c9 c7 c8 (by rw [cc 469 (by omega)]; exact c4) (fun i k hi hk => by rw [cc 470 (by omega)]; exact c5 i k hi hk) (fun q hq => by rw [cc 481 (by omega)]; exact pq_Z hA q hq) r7 r8 r9 fun Z5 w1 w2 w3 w4 w5 w6 => ?_
      obtain ⟨e1, e2⟩ := h Z5 w1 w2 w3 w4 w6
      rw [w4]
      refine fm_in (d := 8) hx2 (by omega) (by omega) ?_
      by_cases g : 0 ≤ x2.toInt ∧ x2.toInt < (M 0 : Int)
      · rw [if_pos (by omega)]
        refine ⟨by omega, fun _ => ?_, fun g => by omega⟩
        rw [b3]
        have := e1 g
        rw [ht] at this
        exact this
      · rw [if_neg (by omega)]
        exact ⟨by omega, fun g => absurd rfl g, fun _ => fm_finds (f := 2) (d := 8) (by decide) (e2 g)⟩
    -- no such root
    have none : ¬ (0 ≤ x2.toInt ∧ x2.toInt < (M 0 : Int)) → mjW1 9 15 [yR 10 0, yI 2] Z2 (fun v6 Z6 => mjW1 10 226 [yR 11 464, yI x1.toInt, yI x2.toInt, yI x3.toInt] Z6 fun z' Z2 => Int32.ofInt z' = Int32.ofInt v6 ∧ INV Z2) := fun g => by
      refine fc_found (f := 2) (d := 8) (by decide) ?_
      have up : ∀ c, c ≠ 0 → c ≠ 253 → fdC 2 Z2 c = Z2 c := fun c c1 c2 => by
        unfold fdC
        rw [mjUp_nc c2, mjUp_nc c1]
      refine ref _ _ (fun c hc => by rw [up c (by omega) (by omega)]; exact cc2 c (by omega)) fun Z5 w1 w2 w3 w4 w6 => ⟨fun h => absurd h g, fun _ => ⟨rfl, ?_⟩⟩
      have hI2 : INV (fdM 2 (fdC 2 Z')) := INV_fd (by decide) c1
      have fm : ∀ {Zx Zy : mjZ} {c : Nat}, c ≠ 464 → Zx c = Zy c → fdM 2 Zx c = fdM 2 Zy c := fun {Zx Zy c} hc h => by
        unfold fdM
        by_cases e : c = 472
        · subst e
          rw [mjUp_c, mjUp_c, mjUp_nc hc, mjUp_nc hc, h]
        · rw [mjUp_nc e, mjUp_nc e, mjUp_nc hc, mjUp_nc hc, h]
      have fc : ∀ {Zx Zy : mjZ} {c : Nat}, c ≠ 0 → Zx c = Zy c → fdC 2 Zx c = fdC 2 Zy c := fun {Zx Zy c} hc h => by
        unfold fdC
        by_cases e : c = 253
        · subst e
          rw [mjUp_c, mjUp_c, mjUp_nc hc, mjUp_nc hc, h]
        · rw [mjUp_nc e, mjUp_nc e, mjUp_nc hc, mjUp_nc hc, h]
      have f0 : fdC 2 Z2 0 = fdC 2 Z' 0 := by
        have e : ∀ Zx : mjZ, fdC 2 Zx 0 = va_up (Zx 0) 8 ((2 : Nat) : Int) := fun Zx => by
          unfold fdC
          rw [mjUp_nc (by decide), mjUp_c]
        rw [e, e, cc2 0 (by omega)]
      have fM : ∀ {Zx : mjZ} {k : Nat}, k ≠ 9 → fdM 2 Zx 464 k = Zx 464 k := fun {Zx k} hk => by
        unfold fdM
        rw [mjUp_nc (by decide), mjUp_ne fun _ => hk]
      have fM9 : ∀ {Zx : mjZ}, fdM 2 Zx 464 9 = 2 := fun {Zx} => by
        unfold fdM
        rw [mjUp_nc (by decide), mjUp_at]
        rfl
      have e464 : ∀ k, k ≠ 32 → fdM 2 Z5 464 k = fdM 2 (fdC 2 Z') 464 k := fun k hk => by
        by_cases e : k = 9
        · rw [e, fM9, fM9]
        · rw [fM e, fM e, w2 k hk, up 464 (by decide) (by decide), cc2 464 (by omega)]
          unfold fdC
          rw [mjUp_nc (by decide), mjUp_nc (by decide)]
      have ec : ∀ c, c ≠ 0 → c < 254 ∨ (464 < c ∧ c < 478) → fdM 2 Z5 c = fdM 2 (fdC 2 Z') c := fun c h0 hc => fm (by omega) ((w1 c (by omega) (by omega)).trans (fc h0 (cc2 c (by omega))))
      have ez : fdM 2 Z5 0 = fdM 2 (fdC 2 Z') 0 := fm (by decide) ((w1 0 (by omega) (by omega)).trans f0)
      refine INV_rf hI2 (fun c hc => ec c (by omega) (by omega)) (fun k _ => by rw [ez]) (fun k hk => e464 k (by omega)) ?_ (fun k hk => ?_) (hA2.own fun c hc => ?_)
      · rw [ez, e464 11 (by decide)]
        exact hI2.2.2.2.1.2.2.2
      · rw [ec 475 (by omega) (by omega), ec 476 (by omega) (by omega), ec 474 (by omega) (by omega)]
        exact ⟨rfl, rfl, fun _ _ => rfl⟩
      · have : fdM 2 Z5 c = Z5 c := by
          unfold fdM
          rw [mjUp_nc (by omega), mjUp_nc (by omega)]
        rw [this]
        by_cases e : c = 481
        · rw [e, w3, up 481 (by decide) (by decide)]
        · rw [w1 c (by omega) (by omega), up c (by omega) (by omega)]
    refine ⟨by omega, fun g => none (by omega), fun g3 => ?_⟩
    rw [k5]
    refine ⟨by omega, fun g4 => ?_, fun g => none (by omega)⟩
    clear none
    -- the greatest one
    obtain ⟨w, q1, q2, q3, q4⟩ := gr_ex (f := fun a => nLo a b ds) (i := x2.toInt) (1202 * b).toNat (-601 * b) (by
      have := nLo_bot (b := b) (rs := ds) (by omega) r6
      show (nLo (-601 * b) b ds : Int) ≤ _
      omega) (by
      have := nLo_top (b := b) (rs := ds) (by omega) r6
      show _ < (nLo (-601 * b + ((1202 * b).toNat : Int)) b ds : Int)
      rw [show -601 * b + ((1202 * b).toNat : Int) = 601 * b by omega]
      omega)
    have q2' : w < 601 * b := by omega
    clear q2
    refine ft_great (D := 2) (rs := ds) (u := F 0) (d := M 0) (m := w) r4 r5 (Or.inr rfl) m6 k5 k4 (SG_f (r9 0)) ⟨b1, b2⟩ (by omega) ⟨q1, q2'⟩ q3 q4 fun Z3 v1 => ⟨by omega, ?_⟩
    refine ft_just (D := 2) (rs := ds) (u := F 0) (d := M 0) r4 r5 (Or.inr rfl) m6 (by rw [mjUp_nc (by decide), v1 257 (by unfold wgS; omega)]; exact k5) (fun i hi => by rw [mjUp_nc (by decide), v1 258 (by unfold wgS; omega)]; exact k4 i hi) (SG_f (r9 0)) (by omega) (by omega) (by omega) fun Z10 v2 => ?_
    have c10 : ∀ c, c ≠ 0 → c < 254 ∨ 463 < c → Z10 c = Z' c := fun c h0 hc => by rw [v2 c (by unfold wgS; omega), mjUp_nc h0, v1 c (by unfold wgS; omega), cc2 c hc]
    have z10 : ∀ k, k ≠ 10 → Z10 0 k = Z' 0 k := fun k hk => by rw [v2 0 (by unfold wgS; omega), mjUp_ne (fun _ => hk), v1 0 (by unfold wgS; omega), cc2 0 (by omega)]
    have y10 : Z10 0 10 = w := by rw [v2 0 (by unfold wgS; omega)]; exact mjUp_at
    have hA10 : ivA Z10 := hA2.own fun c hc => by rw [v2 c (by unfold wgS; omega), mjUp_nc (by omega), v1 c (by unfold wgS; omega)]
    obtain ⟨v, hv⟩ : ∃ v : Int, (if (nAt w b ds : Int) = 1 ∧ (nLo w b ds : Int) = x2.toInt then 1 else 0) = v := ⟨_, rfl⟩
    rw [hv]
    have v01 : v = 0 ∨ v = 1 := by
      rw [← hv]
      split <;> omega
    have go : mjW1 10 226 [yR 11 464, yI x1.toInt, yI x2.toInt, yI x3.toInt] Z10 fun z' Z2 => Int32.ofInt z' = Int32.ofInt v ∧ INV Z2 := by
      refine ref Z10 _ (fun c hc => c10 c (by omega) (by omega)) fun Z5 w1 w2 w3 w4 w6 => ⟨fun _ => ?_, fun g => absurd ⟨by omega, g4⟩ g⟩
      refine fm_shut (rs := ds) (u := F 0) (M := M 0) (m := w) r4 r5 m6 w4 (fun k hk => w6 k (by omega)) (SG_f (r9 0)) hB ⟨b1, b2⟩ hx2 ⟨q1, q2'⟩ q3 q4 fun Zr s => ?_
      rw [hv]
      refine ⟨rfl, INV_rf c1 (fun c hc => ?_) (fun k hk => ?_) (fun k hk => ?_) ?_ (fun k hk => ?_) (hA10.own fun c hc => ?_)⟩
      · rw [mjUp_nc (by omega), s.1 c (by omega) (by omega) (by omega) (by omega) (by omega), w1 c (by omega) (by omega), c10 c (by omega) (by omega)]
      · rw [mjUp_nc (by omega), s.1 0 (by omega) (by omega) (by omega) (by omega) (by omega), w1 0 (by omega) (by omega), z10 k hk]
      · rw [mjUp_ne (fun _ => by omega), s.2.2 k (by omega) (by omega) (by omega), w2 k (by omega), c10 464 (by omega) (by omega)]
      · rw [mjUp_at, mjUp_nc (by decide), s.1 0 (by omega) (by omega) (by omega) (by omega) (by omega), w1 0 (by omega) (by omega)]
        exact y10
      · have := s.2.1 k hk
        rw [w1 475 (by omega) (by omega), w1 476 (by omega) (by omega), w1 474 (by omega) (by omega), c10 475 (by omega) (by omega), c10 476 (by omega) (by omega), c10 474 (by omega) (by omega)] at this
        rw [mjUp_nc (by decide), mjUp_nc (by decide), mjUp_nc (by decide)]
        exact this
      · rw [mjUp_nc (by omega), s.1 c (by omega) (by omega) (by omega) (by omega) (by omega)]
        by_cases e : c = 481
        · rw [e]; exact w3
        · exact w1 c (by omega) (by omega)
    refine ⟨by omega, fun g => ?_, fun g => ?_⟩
    · rw [g] at go
      exact go
    · rw [show v = 1 by omega] at go
      exact go
