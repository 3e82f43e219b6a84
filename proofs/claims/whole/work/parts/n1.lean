/-! Cases: ring, often. -/
theorem SG_f {u f g : Nat → Int} {d m e : Nat} (h : SG u d m e f g) (i : Nat) : bgA (f i) ≤ 46656000000000000 := by
  rcases h with ⟨_, _, _, _, e, _⟩ | ⟨_, _, _, _, h⟩
  · rw [e]
    unfold mono
    split <;> decide
  · exact h i
theorem SG_m6 {u f g : Nat → Int} {d m e : Nat} (h : SG u d m e f g) : m ≤ 6 := by
  have h1 := (SG_mul h).1
  have h2 := SG_d6 h
  omega
/-- after the reference has made the least polynomial -/
theorem iv_ring_ok : iv_ring INV := fun Z x1 hI => by
  obtain ⟨m, a1, a2, a3, a4⟩ := id hI.2.1
  have hx := i32r x1
  refine mje_89 (d := 9) (fc_tableAt (d := 8) a2 a1 hx (fun h => ?_) fun t ht htm => ?_)
  · refine mje_206 (d := 9) (fm_isTable (d := 7) a3 a1 hx ?_)
    rw [if_neg h]
    exact ⟨by omega, fun g => absurd rfl g, fun _ => ⟨rfl, hI⟩⟩
  · rw [ht]
    refine rd_go (d := 5) hI a2 htm fun Z' n T hR hZ => ?_
    obtain ⟨c1, c2, c3, c4, c5, c6, c7, c8, c9⟩ := hR
    obtain ⟨K, i1, i2, i3, i4, i5, i6, rs, ds, U, F, D, M, r1, r2, r3, r4, r5, r6, r7, r8, r9⟩ := stages c7 c8 (fun i k hi hk => (c5 i k hi hk).2) c6
    have hA := c1.2.2.2.2.2
    refine ft_least (D := 1) (u := U 0) (d := D 0) (trO_A hA) (by rw [r8]; exact c2) (fun i hi => by rw [r7]; exact c3 i (by omega)) (r9 0) (SG_bd (r9 1)) fun Z2 k1 k2 k3 k4 => ?_
    have m6 := SG_m6 (r9 0)
    refine an_polyC (x := 257) (by omega) k3 m6 k4 (SG_f (r9 0)) fun Zc g1 g2 g3 g4 => ?_
    have hA2 : ivA Z2 := ivA_tr hA k2 fun x h1 h2 h3 => k1 x h1 (by omega) (by omega)
    have cc : ∀ c, 463 < c → Zc c = Z' c := fun c hc => by rw [g1 c (by omega) (by omega), k1 c (by omega) (by omega) (by omega)]
    refine mje_206 (d := 9) (fm_isTable (d := 7) (m := m) (by rw [cc 464 (by omega), hZ 464 (by omega)]; exact a3) a1 (by omega) ?_)
    rw [if_pos (by omega)]
    refine ⟨by omega, fun _ => ?_, fun k => by omega⟩
    refine fp_leastOf (d := 1) (U := U) (F := F) (D := D) (M := M) c9 c7 c8 (by rw [cc 469 (by omega)]; exact c4) (fun i k hi hk => by rw [cc 470 (by omega)]; exact c5 i k hi hk) (fun q hq => by rw [cc 481 (by omega)]; exact pq_Z hA q hq) r7 r8 r9 fun Z5 w1 w2 w3 w4 w5 w6 => ?_
    refine mje_202 (d := 8) ?_
    refine an_polyM (nn := M 0) (p := F 0) w4 m6 (fun i hi => w6 i (by omega)) (SG_f (r9 0)) fun Zr z1 z2 z3 z4 => ⟨rfl, ?_⟩
    have zz : ∀ c, c < 464 ∨ (464 < c ∧ c < 474) ∨ c = 481 → Zr c = Zc c := fun c hc => by
      rw [z1 c (by omega) (by omega) (by omega) (by omega)]
      by_cases e : c = 481
      · rw [e]; exact w3
      · exact w1 c (by omega) (by omega)
    have e4 : ∀ k, k ≠ 32 → k ≠ 18 → Zr 464 k = Z' 464 k := fun k h1 h2 => by rw [z2 k h2, w2 k h1, cc 464 (by omega)]
    obtain ⟨j1, j2, j3, j4, j5, j6⟩ := c1
    have c0 : ∀ c, c ≠ 0 → c < 156 ∨ (252 ≤ c ∧ c < 254) → Zr c = Z' c := fun c h0 hc => by rw [zz c (by omega), g1 c h0 (by omega), k1 c (by omega) (by omega) (by omega)]
    have c46 : ∀ c, 464 < c ∧ c < 474 → Zr c = Z' c := fun c hc => by rw [zz c (by omega), cc c (by omega)]
    have z0 : ∀ k, k ≠ 4 → Zr 0 k = Z' 0 k := fun k hk => by rw [zz 0 (by omega), g2 k hk, k1 0 (by omega) (by omega) (by omega)]
    have hA3 : ivA Zr := hA2.own fun c hc => by rw [zz c (by omega), g1 c (by omega) (by omega)]
    refine ⟨j1.fr (fun c g1 g2 => c0 c (by omega) (by omega)) (c46 _ (by omega)) (c46 _ (by omega)) (c46 _ (by omega)), j2.fr (fun c g1 g2 => c0 c (by omega) (by omega)) (z0 2 (by decide)) (e4 3 (by decide) (by decide)) (c46 _ (by omega)) (c46 _ (by omega)) (c46 _ (by omega)), ⟨M 0 + 1, by omega, by rw [zz 0 (by omega)]; exact g3, z3, fun i hi => ⟨F 0 i, bgIs_congr (g4 i hi) (zz _ (by omega)) (zz _ (by omega)), z4 i hi⟩⟩, j4.fr (z0 7 (by decide)) (z0 8 (by decide)) (z0 10 (by decide)) (e4 8 (by decide) (by decide)) (e4 9 (by decide) (by decide)) (e4 11 (by decide) (by decide)) (c0 _ (by omega) (by omega)) (c46 _ (by omega)), j5.fr (z0 6 (by decide)) (e4 13 (by decide) (by decide)) (c0 _ (by omega) (by omega)) (c46 _ (by omega)), hA3⟩
theorem iv_often_ok : iv_often INV := fun Z x1 x2 hI => by
  obtain ⟨m, a1, a2, a3, a4⟩ := id hI.2.1
  have hx := i32r x1
  have hx2 := i32r x2
  have out : ∀ t : Nat, x1.toInt = (t : Int) → t < m → ¬ (1 ≤ x2.toInt ∧ x2.toInt ≤ 6) → mjW1 10 216 [yR 11 464, yI x1.toInt, yI x2.toInt] Z fun z' Z2 => Int32.ofInt z' = Int32.ofInt (-102) ∧ INV Z2 := fun t ht htm h => by
    refine mje_216 (d := 9) (fm_isTable (d := 7) a3 a1 hx ?_)
    rw [if_pos (by omega)]
    refine ⟨by omega, fun _ => fm_in (d := 8) hx2 (by omega) (by omega) ?_, fun g => by omega⟩
    rw [if_neg h]
    exact ⟨by omega, fun g => absurd rfl g, fun _ => ⟨rfl, hI⟩⟩
  refine mje_113 (d := 9) (fc_tableAt (d := 8) a2 a1 hx (fun h => ?_) fun t ht htm => ⟨by omega, fun g => out t ht htm (by omega), fun g1 => ⟨fun g2 => ?_, fun g => out t ht htm (by omega)⟩⟩)
  · refine mje_216 (d := 9) (fm_isTable (d := 7) a3 a1 hx ?_)
    rw [if_neg h]
    exact ⟨by omega, fun g => absurd rfl g, fun _ => ⟨rfl, hI⟩⟩
  · clear out
    rw [ht]
    refine rd_go (d := 5) hI a2 htm fun Z' n T hR hZ => ?_
    obtain ⟨c1, c2, c3, c4, c5, c6, c7, c8, c9⟩ := hR
    obtain ⟨K, i1, i2, i3, i4, i5, i6, rs, ds, U, F, D, M, r1, r2, r3, r4, r5, r6, r7, r8, r9⟩ := stages c7 c8 (fun i k hi hk => (c5 i k hi hk).2) c6
    have hA := c1.2.2.2.2.2
    obtain ⟨s, hs⟩ : ∃ s : Nat, x2.toInt = ((s + 1 : Nat) : Int) := ⟨(x2.toInt - 1).toNat, by omega⟩
    rw [hs]
    refine ft_unlike (D := 1) (U := U) (F := F) (Dg := D) (M := M) (trO_A hA) (by rw [r8]; exact c2) (fun i hi => by rw [r7]; exact c3 i (by omega)) r9 (by omega) fun Z2 k1 k2 => ?_
    have hA2 : ivA Z2 := ivA_tr hA k2 fun x h1 h2 h3 => k1 x h1 (by omega) (by omega)
    have cc : ∀ c, 463 < c → Z2 c = Z' c := fun c hc => k1 c (by omega) (by omega) (by omega)
    refine mje_216 (d := 9) (fm_isTable (d := 7) (m := m) (by rw [cc 464 (by omega), hZ 464 (by omega)]; exact a3) a1 (by omega) ?_)
    rw [if_pos (by omega)]
    refine ⟨by omega, fun _ => fm_in (d := 8) (by omega) (by omega) (by omega) ?_, fun g => by omega⟩
    rw [if_pos (by omega)]
    refine ⟨by omega, fun _ => ?_, fun k => by omega⟩
    refine fp_leastOf (d := 1) (U := U) (F := F) (D := D) (M := M) c9 c7 c8 (by rw [cc 469 (by omega)]; exact c4) (fun i k hi hk => by rw [cc 470 (by omega)]; exact c5 i k hi hk) (fun q hq => by rw [cc 481 (by omega)]; exact pq_Z hA q hq) r7 r8 r9 fun Z5 w1 w2 w3 w4 w5 w6 => ?_
    refine ⟨by omega, by omega, ?_⟩
    rw [show (((s + 1 : Nat) : Int) - 1).toNat = s by omega, w5 s (by omega)]
    refine ⟨rfl, INV_rf c1 (fun c hc => ?_) (fun k _ => ?_) (fun k hk => ?_) ?_ (fun k hk => ?_) (hA2.own fun c hc => ?_)⟩
    · rw [w1 c (by omega) (by omega)]
      exact k1 c (by omega) (by omega) (by omega)
    · rw [w1 0 (by omega) (by omega), k1 0 (by omega) (by omega) (by omega)]
    · rw [w2 k (by omega), cc 464 (by omega)]
    · rw [w1 0 (by omega) (by omega), k1 0 (by omega) (by omega) (by omega), w2 11 (by decide), cc 464 (by omega)]
      exact c1.2.2.2.1.2.2.2
    · rw [w1 475 (by omega) (by omega), w1 476 (by omega) (by omega), w1 474 (by omega) (by omega), cc 475 (by omega), cc 476 (by omega), cc 474 (by omega)]
      exact ⟨rfl, rfl, fun _ _ => rfl⟩
    · by_cases e : c = 481
      · rw [e]; exact w3
      · exact w1 c (by omega) (by omega)
