/-! Cases: poly. -/
theorem INV_ansN {Z Zf : mjZ} {m : Nat} {x : Nat → Int} (hI : INV Z) (d7 : ∀ c, c ≠ 0 → c < 156 ∨ (252 ≤ c ∧ c < 464) ∨ (464 < c ∧ c < 474) → Zf c = Z c) (d8 : Zf 481 = Z 481) (e0 : ∀ k, k ≠ 4 → Zf 0 k = Z 0 k) (e4 : ∀ k, k = 3 ∨ k = 8 ∨ k = 9 ∨ k = 11 ∨ k = 13 → Zf 464 k = Z 464 k) (hm : m ≤ 48) (h1 : Zf 0 4 = (m : Int)) (h2 : Zf 464 18 = (m : Int)) (h3 : ∀ i, i < m → bgIs 12 Zf (156 + 2 * i) (x i)) (h4 : ∀ i, i < m → lbIs Zf i (x i)) : INV Zf := by
  obtain ⟨i1, i2, i3, i4, i5, i6⟩ := hI
  exact ⟨i1.fr (fun c g1 g2 => d7 c (by omega) (by omega)) (d7 _ (by omega) (by omega)) (d7 _ (by omega) (by omega)) (d7 _ (by omega) (by omega)), i2.fr (fun c g1 g2 => d7 c (by omega) (by omega)) (e0 2 (by decide)) (e4 3 (by decide)) (d7 _ (by omega) (by omega)) (d7 _ (by omega) (by omega)) (d7 _ (by omega) (by omega)), ⟨m, hm, h1, h2, fun i hi => ⟨x i, h3 i hi, h4 i hi⟩⟩, i4.fr (e0 7 (by decide)) (e0 8 (by decide)) (e0 10 (by decide)) (e4 8 (by decide)) (e4 9 (by decide)) (e4 11 (by decide)) (d7 _ (by omega) (by omega)) (d7 _ (by omega) (by omega)), i5.fr (e0 6 (by decide)) (e4 13 (by decide)) (d7 _ (by omega) (by omega)) (d7 _ (by omega) (by omega)), i6.fr (fun k _ _ => by rw [d7 _ (by omega) (by omega)]) (fun k _ => by rw [d7 _ (by omega) (by omega)]) (fun k _ => by rw [d7 _ (by omega) (by omega)]) (d7 _ (by omega) (by omega)) (d7 _ (by omega) (by omega)) (d7 _ (by omega) (by omega)) d8⟩
theorem iv_poly_ok : iv_poly INV := fun Z x1 hI => by
  obtain ⟨m, a1, a2, a3, a4⟩ := id hI.2.1
  have hx := i32r x1
  refine mje_73 (d := 9) (fc_tableAt (d := 8) a2 a1 hx (fun h => ?_) fun t ht htm => ?_)
  · refine mje_200 (d := 9) (fm_isTable (d := 7) a3 a1 hx ?_)
    rw [if_neg h]
    exact ⟨by omega, fun g => absurd rfl g, fun _ => ⟨rfl, hI⟩⟩
  · obtain ⟨n, b1, b2, b3, b4, b5, b6, b7⟩ := a4 t htm
    have hn6 := b1.2.2
    have hn1 := b1.2.1
    have e0 : ((t : Int)).toNat = t := rfl
    have hp : Z 263 1 = 264 ∧ Z 263 2 = 265 ∨ Z 263 1 = 265 ∧ Z 263 2 = 264 := hI.2.2.2.2.2.2.1
    have hT2 : ∀ i k, i < n → k < n → -100 ≤ Z 470 (36 * t + 6 * i + k) ∧ Z 470 (36 * t + 6 * i + k) ≤ 100 := fun i k hi hk => by
      rw [← (b4 i k hi hk).1]
      exact (b4 i k hi hk).2
    rw [ht]
    refine tl_read (d := 5) (T := fun i k => Z 470 (36 * t + 6 * i + k)) hn1 hn6 hp b1 (by omega) (fun i k hi hk => ⟨(b4 i k hi hk).1, hT2 i k hi hk⟩) fun Z' p y1 y2 => ?_
    have f1 : ∀ c, c < 255 ∨ (256 < c ∧ c < 263) ∨ 265 < c → Z' c = Z c := fun c hc => by rw [y1.1 c (by omega) (by omega) (by omega), mjRow_ne (by omega), mjUp_nc (by omega)]
    have f2 : Z' 256 = p := by rw [y1.1 256 (by decide) (by decide) (by decide), mjRow_at]
    have f3 : Z' 255 0 = (n : Int) := by rw [y1.1 255 (by decide) (by decide) (by decide), mjRow_ne (by decide), mjUp_at]
    have bd : ∀ j, j ≤ n → -279936000000000000 ≤ p j ∧ p j ≤ 279936000000000000 := fun j hj => by
      rw [y2 j hj]
      by_cases hjn : j = n
      · have e : leP n (fun i k => Z 470 (36 * t + 6 * i + k)) j = 1 := if_pos hjn
        rw [e]; omega
      · have c := le_c (n := n) (T := fun i k => Z 470 (36 * t + 6 * i + k)) (r := n - 1 - j) hn6 hT2 (by omega)
        have e : leP n (fun i k => Z 470 (36 * t + 6 * i + k)) j = leC n (fun i k => Z 470 (36 * t + 6 * i + k)) (leB n (fun i k => Z 470 (36 * t + 6 * i + k)) (n - 1 - j)) (n - 1 - j) := if_neg hjn
        rw [← e] at c
        unfold bgA at c
        split at c <;> omega
    have hI' := INV_rd hI y1
    -- the reference, from a state that holds the class's answers
    have ref : ∀ (Z1 : mjZ), (∀ c, c ≠ 0 → c < 156 ∨ 252 ≤ c → Z1 c = Z' c) → (∀ k, k ≠ 4 → Z1 0 k = Z' 0 k) → Z1 0 4 = ((n + 1 : Nat) : Int) → (∀ i, i < n + 1 → bgIs 12 Z1 (156 + 2 * i) (p i)) → mjW1 10 200 [yR 11 464, yI (t : Int)] Z1 (fun z' Z2 => Int32.ofInt z' = Int32.ofInt ((n + 1 : Nat) : Int) ∧ INV Z2) := fun Z1 g1 g0 g04 gB => by
      have g2 : ∀ c, 265 < c → Z1 c = Z c := fun c hc => by rw [g1 c (by omega) (by omega), f1 c (by omega)]
      refine mje_200 (d := 9) (fm_isTable (d := 7) (m := m) (by rw [g2 464 (by omega)]; exact a3) a1 (by omega) ?_)
      rw [if_pos (by omega)]
      refine ⟨by omega, fun _ => ?_, fun k => by omega⟩
      refine fm_polyOf (d := 7) (T := fun i k => Z 470 (36 * t + 6 * i + k)) (by omega) hn1 hn6 (by rw [g2 469 (by omega)]; exact b2) (fun i k hi hk => ⟨by rw [g2 470 (by omega)], hT2 i k hi hk⟩) fun gg hh pp hpp => mje_202 (d := 8) ?_
      have hpE : ∀ j, j ≤ n → pp j = p j := fun j hj => by rw [hpp j (by omega), if_pos hj, y2 j hj]
      refine lp_inv (n := n + 1) (a := mjUp (wS Z1 gg hh pp) 464 18 0) (L := fun r Zr => mjL_200_22 9 (t : Int) r Zr _) (Y := fun r Zr => (∀ c, c ≠ 464 → c ≠ 474 → c ≠ 475 → c ≠ 476 → Zr c = wS Z1 gg hh pp c) ∧ (∀ k, k ≠ 18 → Zr 464 k = wS Z1 gg hh pp 464 k) ∧ Zr 464 18 = (r : Int) ∧ ∀ i, i < r → lbIs Zr i (p i)) (fun r Zr hr hy hL => ?_) (fun Zr hy => ?_) ⟨fun c c1 c2 c3 c4 => mjUp_nc c1, fun k hk => if_neg fun c => hk c.2, mjUp_at, fun i hi => by omega⟩
      · obtain ⟨z1, z2, z3, z4⟩ := hy
        have z9 : Zr 469 t = (n : Int) := by rw [z1 469 (by decide) (by decide) (by decide) (by decide), wS_ne (by decide) (by decide) (by decide), g2 469 (by omega)]; exact b2
        have zp : Zr 480 r = p r := by rw [z1 480 (by decide) (by decide) (by decide) (by decide), wS_ap, hpE r (by omega)]
        have bdr := bd r (by omega)
        refine mjl_200_22 ?_
        rw [e0, z9, zp]
        refine ⟨by omega, by omega, by omega, by omega, fun g => by omega, fun _ => ⟨by omega, by omega, mje_203 (d := 8) ?_⟩⟩
        rw [z3]
        refine fm_set (d := 7) (i := r) (by omega) (by omega) fun Z2 h3 h4 => ?_
        have w18 : Z2 464 18 = (r : Int) := by rw [h3.1 464 (by decide) (by decide) (by decide)]; exact z3
        rw [w18]
        refine hL _ ⟨fun c c1 c2 c3 c4 => by rw [mjUp_nc c1, h3.1 c c2 c3 c4, z1 c c1 c2 c3 c4], fun k hk => ?_, by rw [mjUp_at]; omega, fun i hi => ?_⟩
        · show (if 464 = 464 ∧ k = 18 then _ else Z2 464 k) = _
          rw [if_neg fun c => hk c.2, h3.1 464 (by decide) (by decide) (by decide), z2 k hk]
        · rcases Nat.lt_or_ge i r with l | l
          · exact (z4 i l).fr (fun k hk => by rw [mjUp_nc (by decide)]; exact h3.2.2 _ (by omega)) (by rw [mjUp_nc (by decide)]; exact (h3.2.1 i (by omega)).1) (by rw [mjUp_nc (by decide)]; exact (h3.2.1 i (by omega)).2)
          · rw [show i = r by omega]
            exact h4.fr (fun k hk => by rw [mjUp_nc (by decide)]) (by rw [mjUp_nc (by decide)]) (by rw [mjUp_nc (by decide)])
      · obtain ⟨z1, z2, z3, z4⟩ := hy
        have z9 : Zr 469 t = (n : Int) := by rw [z1 469 (by decide) (by decide) (by decide) (by decide), wS_ne (by decide) (by decide) (by decide), g2 469 (by omega)]; exact b2
        refine mjl_200_22 ?_
        rw [e0, z9, z3]
        refine ⟨by omega, by omega, by omega, by omega, fun _ => ⟨rfl, ?_⟩, fun g => by omega⟩
        have zz : ∀ c, c ≠ 464 → c ≠ 474 → c ≠ 475 → c ≠ 476 → c ≠ 478 → c ≠ 479 → c ≠ 480 → Zr c = Z1 c := fun c c1 c2 c3 c4 c5 c6 c7 => by rw [z1 c c1 c2 c3 c4, wS_ne c5 c6 c7]
        refine INV_ansN (x := p) (m := n + 1) hI' (fun c c0 c1 => ?_) ?_ (fun k hk => ?_) (fun k hk => ?_) (by omega) ?_ z3 (fun i hi => ?_) z4
        · rw [zz c (by omega) (by omega) (by omega) (by omega) (by omega) (by omega) (by omega)]
          exact g1 c c0 (by omega)
        · rw [zz 481 (by decide) (by decide) (by decide) (by decide) (by decide) (by decide) (by decide)]
          exact g1 481 (by decide) (by decide)
        · rw [zz 0 (by decide) (by decide) (by decide) (by decide) (by decide) (by decide) (by decide)]
          exact g0 k hk
        · rw [z2 k (by omega), wS_ne (by decide) (by decide) (by decide), g1 464 (by decide) (by decide)]
        · rw [zz 0 (by decide) (by decide) (by decide) (by decide) (by decide) (by decide) (by decide)]
          exact g04
        · exact bgIs_congr (gB i hi) (zz _ (by omega) (by omega) (by omega) (by omega) (by omega) (by omega) (by omega)) (zz _ (by omega) (by omega) (by omega) (by omega) (by omega) (by omega) (by omega))
    refine mje_81 (d := 8) ?_
    rw [f3]
    refine lp_inv (n := n + 1) (a := mjUp Z' 0 4 ((n : Int) + 1)) (L := fun r Zc => mjL_81_12 8 255 r Zc _) (Y := fun r Zc => (∀ c, c ≠ 0 → c < 156 ∨ 252 ≤ c → Zc c = Z' c) ∧ (∀ k, k ≠ 4 → Zc 0 k = Z' 0 k) ∧ Zc 0 4 = ((n + 1 : Nat) : Int) ∧ ∀ i, i < r → bgIs 12 Zc (156 + 2 * i) (p i)) (fun r Zc hr hy hL => ?_) (fun Zc hy => ?_) ⟨fun c c1 _ => mjUp_nc c1, fun k hk => if_neg fun c => hk c.2, by rw [mjUp_at]; omega, fun i hi => by omega⟩
    · obtain ⟨z1, z2, z3, z4⟩ := hy
      have bdr := bd r (by omega)
      refine mjl_81_12 ?_
      rw [z3]
      refine ⟨by omega, by omega, fun g => by omega, fun _ => ⟨fun g => by omega, fun _ => ⟨by omega, by omega, ?_⟩⟩⟩
      refine mje_82 (d := 7) ⟨by omega, fun g => by omega, fun _ => ⟨by decide, fun g => ?_, fun _ => ⟨by omega, by omega, ?_⟩⟩⟩
      · have : ((20007 - 20000 : Nat) : Int) = 7 := by decide
        omega
      · have zp : Zc (255 + 1) ((r : Int)).toNat = p r := by
          show Zc 256 r = p r
          rw [z1 256 (by decide) (by decide), f2]
        rw [zp, show 155 + 1 + 2 * r = 156 + 2 * r by omega]
        refine bg_become (d := 5) (R := 12) (bgR12 (by omega)) (by omega) fun Z2 h1 h2 => hL Z2 ⟨fun c c1 c2 => by rw [h1 c (by omega) (by omega)]; exact z1 c c1 c2, fun k hk => by rw [h1 0 (by omega) (by omega)]; exact z2 k hk, by rw [h1 0 (by omega) (by omega)]; exact z3, fun i hi => ?_⟩
        rcases Nat.lt_or_ge i r with l | l
        · exact (z4 i l).o2 (R2 := 12) h1 (by omega) (by omega) (by omega)
        · rw [show i = r by omega]
          exact h2
    · obtain ⟨z1, z2, z3, z4⟩ := hy
      refine mjl_81_12 ?_
      rw [z3]
      exact ⟨by omega, by omega, fun _ => ref Zc z1 z2 z3 z4, fun g => by omega⟩
