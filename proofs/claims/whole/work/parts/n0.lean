/-! The last cases: what is read, and what stays. -/
theorem INV_rf {Z Z' : mjZ} (hI : INV Z) (e : ∀ c, (c < 254 ∧ c ≠ 0) ∨ (464 < c ∧ c < 474) → Z' c = Z c) (e0 : ∀ k, k ≠ 10 → Z' 0 k = Z 0 k) (e4 : ∀ k, k = 3 ∨ k = 8 ∨ k = 9 ∨ k = 13 ∨ k = 18 → Z' 464 k = Z 464 k) (eL : Z' 0 10 = Z' 464 11) (er : ∀ k, k < 84 → Z' 475 k = Z 475 k ∧ Z' 476 k = Z 476 k ∧ ∀ j, j < 24 → Z' 474 (24 * k + j) = Z 474 (24 * k + j)) (hA : ivA Z') : INV Z' := by
  obtain ⟨i1, i2, i3, i4, i5, i6⟩ := hI
  refine ⟨i1.fr (fun c g1 g2 => e c (by omega)) (e _ (by omega)) (e _ (by omega)) (e _ (by omega)), i2.fr (fun c g1 g2 => e c (by omega)) (e0 2 (by decide)) (e4 3 (by decide)) (e _ (by omega)) (e _ (by omega)) (e _ (by omega)), i3.fr (fun c g1 g2 => e c (by omega)) (e0 4 (by decide)) (e4 18 (by decide)) (fun k hk => ?_) (fun k hk => (er k (by omega)).1) (fun k hk => (er k (by omega)).2.1), ?_, i5.fr (e0 6 (by decide)) (e4 13 (by decide)) (e _ (by omega)) (e _ (by omega)), hA⟩
  · have := (er (k / 24) (by omega)).2.2 (k % 24) (by omega)
    rw [show 24 * (k / 24) + k % 24 = k by omega] at this
    exact this
  · obtain ⟨m1, m2, m3, _⟩ := i4
    refine ⟨?_, ?_, fun f hf => ?_, eL⟩
    · rw [e0 7 (by decide), e4 8 (by decide)]
      exact m1
    · rw [e0 8 (by decide), e4 9 (by decide)]
      exact m2
    · rw [e 253 (by omega), e 472 (by omega)]
      exact m3 f hf
theorem pq_Z {Z : mjZ} (h : ivA Z) : ∀ q, q < 24 → Z 481 q = (pq q : Int) := fun q hq => by
  have e : ∀ q : Fin 24, ([2147483647, 2147483629, 2147483587, 2147483579, 2147483563, 2147483549, 2147483543, 2147483497, 2147483489, 2147483477, 2147483423, 2147483399, 2147483353, 2147483323, 2147483269, 2147483249, 2147483237, 2147483179, 2147483171, 2147483137, 2147483123, 2147483077, 2147483069, 2147483059] : List Int).getD q.val (0 : Int) = (pq q.val : Int) := by decide
  rw [h.2.2.2.2.2.2 q hq]
  exact e ⟨q, hq⟩
theorem trO_A {Z : mjZ} (h : ivA Z) : trO Z := by
  obtain ⟨⟨a, b, c, a1⟩, _, _, hD, _⟩ := h
  exact ⟨⟨a, b, c, a1⟩, hD⟩
theorem ivA_tr {Z Z' : mjZ} (h : ivA Z) (ht : trO Z') (e : ∀ x, x ≠ 254 → x ≠ 315 → x = 263 ∨ x = 343 ∨ x = 354 ∨ x = 460 ∨ x = 481 → Z' x = Z x) : ivA Z' := by
  obtain ⟨_, b1, b2, _, ⟨o2, t2, r2, d2⟩, e1, e2⟩ := h
  obtain ⟨⟨a, b, c, h3⟩, hD⟩ := ht
  exact ⟨⟨a, b, c, h3⟩, by rw [e 263 (by decide) (by decide) (by decide)]; exact b1, by rw [e 460 (by decide) (by decide) (by decide)]; exact b2, hD, ⟨o2, t2, r2, d2.cc (e 354 (by decide) (by decide) (by decide))⟩, by rw [e 343 (by decide) (by decide) (by decide)]; exact e1, by rw [e 481 (by decide) (by decide) (by decide)]; exact e2⟩
/-- a table, read -/
def rdF (Z : mjZ) (t n : Nat) (T : Nat → Nat → Int) : Prop := INV Z ∧ Z 255 0 = (n : Int) ∧ (∀ i, i ≤ n → Z 256 i = leU n T i) ∧ Z 469 t = (n : Int) ∧ (∀ i k, i < n → k < n → Z 470 (36 * t + 6 * i + k) = T i k ∧ -100 ≤ T i k ∧ T i k ≤ 100) ∧ (∀ i j, i < n → j < n → T i j = T j i) ∧ 1 ≤ n ∧ n ≤ 6 ∧ t < 60
theorem rd_go {d t m : Nat} {Z : mjZ} {q : mjZ → Prop} (hI : INV Z) (hm : Z 0 2 = (m : Int)) (htm : t < m) (hq : ∀ Z' n T, rdF Z' t n T → (∀ c, c < 254 ∨ 265 < c → Z' c = Z c) → q Z') : mjW0 (d + 4) 74 [yR 7 254, yR 6 (35 + 2 * t)] Z q := by
  obtain ⟨m', a1, a2, a3, a4⟩ := id hI.2.1
  obtain ⟨n, b1, b2, b3, b4, b5, b6, b7⟩ := a4 t (by omega)
  have hn6 := b1.2.2
  have hn1 := b1.2.1
  have hp : Z 263 1 = 264 ∧ Z 263 2 = 265 ∨ Z 263 1 = 265 ∧ Z 263 2 = 264 := hI.2.2.2.2.2.2.1
  have hT2 : ∀ i k, i < n → k < n → -100 ≤ Z 470 (36 * t + 6 * i + k) ∧ Z 470 (36 * t + 6 * i + k) ≤ 100 := fun i k hi hk => by
    rw [← (b4 i k hi hk).1]
    exact (b4 i k hi hk).2
  refine tl_read (d := d) (T := fun i k => Z 470 (36 * t + 6 * i + k)) hn1 hn6 hp b1 (by omega) (fun i k hi hk => ⟨(b4 i k hi hk).1, hT2 i k hi hk⟩) fun Z' p y1 y2 => ?_
  have f1 : ∀ c, c < 254 ∨ 265 < c → Z' c = Z c := fun c hc => by rw [y1.1 c (by omega) (by omega) (by omega), mjRow_ne (by omega), mjUp_nc (by omega)]
  refine hq Z' n (fun i k => Z 470 (36 * t + 6 * i + k)) ⟨INV_rd hI y1, ?_, fun i hi => ?_, ?_, fun i k hi hk => ⟨?_, hT2 i k hi hk⟩, fun i j hi hj => ?_, hn1, hn6, by omega⟩ f1
  · rw [y1.1 255 (by decide) (by decide) (by decide), mjRow_ne (by decide), mjUp_at]
  · rw [y1.1 256 (by decide) (by decide) (by decide), mjRow_at, y2 i hi]
    unfold leU
    rw [if_pos hi]
  · rw [f1 469 (by omega)]
    exact b2
  · rw [f1 470 (by omega)]
  · show Z 470 (36 * t + 6 * i + j) = Z 470 (36 * t + 6 * j + i)
    rw [← (b4 i j hi hj).1, ← (b4 j i hj hi).1]
    exact b5 i j hi hj
section ANS
variable {nn x : Nat} {p : Nat → Int} {Z : mjZ}
theorem an_polyC {q : Int → mjZ → Prop} (hx : 255 ≤ x) (h0 : Z x 0 = (nn : Int)) (h6 : nn ≤ 6) (hp : ∀ i, i ≤ nn → Z (x + 1) i = p i) (bd : ∀ i, bgA (p i) ≤ 46656000000000000) (hq : ∀ Zc, (∀ c, c ≠ 0 → c < 156 ∨ 252 ≤ c → Zc c = Z c) → (∀ k, k ≠ 4 → Zc 0 k = Z 0 k) → Zc 0 4 = ((nn + 1 : Nat) : Int) → (∀ i, i < nn + 1 → bgIs 12 Zc (156 + 2 * i) (p i)) → q ((nn + 1 : Nat) : Int) Zc) : mjW1 9 81 [yR 10 0, yR 3 x] Z q := by
  refine mje_81 (d := 8) ?_
  rw [h0]
  refine lp_inv (n := nn + 1) (a := mjUp Z 0 4 ((nn : Int) + 1)) (L := fun r Zc => mjL_81_12 8 x r Zc _) (Y := fun r Zc => (∀ c, c ≠ 0 → c < 156 ∨ 252 ≤ c → Zc c = Z c) ∧ (∀ k, k ≠ 4 → Zc 0 k = Z 0 k) ∧ Zc 0 4 = ((nn + 1 : Nat) : Int) ∧ ∀ i, i < r → bgIs 12 Zc (156 + 2 * i) (p i)) (fun r Zc hr hy hL => ?_) (fun Zc hy => ?_) ⟨fun c c1 _ => mjUp_nc c1, fun k hk => if_neg fun c => hk c.2, by rw [mjUp_at]; omega, fun i hi => by omega⟩
  · obtain ⟨z1, z2, z3, z4⟩ := hy
    have bdr := bd r
    have br : -46656000000000000 ≤ p r ∧ p r ≤ 46656000000000000 := by
      unfold bgA at bdr
      split at bdr <;> omega
    refine mjl_81_12 ?_
    rw [z3]
    refine ⟨by omega, by omega, fun g => by omega, fun _ => ⟨fun g => by omega, fun _ => ⟨by omega, by omega, pl_nr (d := 7) (by omega) ?_⟩⟩⟩
    rw [z1 (x + 1) (by omega) (by omega), hp r (by omega), show 155 + 1 + 2 * r = 156 + 2 * r by omega]
    refine bg_become (d := 5) (R := 12) (bgR12 (by omega)) (by omega) fun Z2 h1 h2 => hL Z2 ⟨fun c c1 c2 => by rw [h1 c (by omega) (by omega)]; exact z1 c c1 c2, fun k hk => by rw [h1 0 (by omega) (by omega)]; exact z2 k hk, by rw [h1 0 (by omega) (by omega)]; exact z3, fun i hi => ?_⟩
    rcases Nat.lt_or_ge i r with l | l
    · exact (z4 i l).o2 (R2 := 12) h1 (by omega) (by omega) (by omega)
    · rw [show i = r by omega]
      exact h2
  · obtain ⟨z1, z2, z3, z4⟩ := hy
    refine mjl_81_12 ?_
    rw [z3]
    exact ⟨by omega, by omega, fun _ => hq Zc z1 z2 z3 z4, fun g => by omega⟩
theorem an_polyM {t : Int} {q : Int → mjZ → Prop} (h0 : Z 464 32 = (nn : Int)) (h6 : nn ≤ 6) (hp : ∀ i, i ≤ nn → Z 488 i = p i) (bd : ∀ i, bgA (p i) ≤ 46656000000000000) (hq : ∀ Zr, (∀ c, c ≠ 464 → c ≠ 474 → c ≠ 475 → c ≠ 476 → Zr c = Z c) → (∀ k, k ≠ 18 → Zr 464 k = Z 464 k) → Zr 464 18 = ((nn + 1 : Nat) : Int) → (∀ i, i < nn + 1 → lbIs Zr i (p i)) → q ((nn + 1 : Nat) : Int) Zr) : mjL_206_22 9 t 0 (mjUp Z 464 18 0) q := by
  refine lp_inv (n := nn + 1) (a := mjUp Z 464 18 0) (L := fun r Zr => mjL_206_22 9 t r Zr _) (Y := fun r Zr => (∀ c, c ≠ 464 → c ≠ 474 → c ≠ 475 → c ≠ 476 → Zr c = Z c) ∧ (∀ k, k ≠ 18 → Zr 464 k = Z 464 k) ∧ Zr 464 18 = (r : Int) ∧ ∀ i, i < r → lbIs Zr i (p i)) (fun r Zr hr hy hL => ?_) (fun Zr hy => ?_) ⟨fun c c1 c2 c3 c4 => mjUp_nc c1, fun k hk => if_neg fun c => hk c.2, mjUp_at, fun i hi => by omega⟩
  · obtain ⟨z1, z2, z3, z4⟩ := hy
    have z32 : Zr 464 32 = (nn : Int) := by rw [z2 32 (by decide)]; exact h0
    have zp : Zr 488 r = p r := by rw [z1 488 (by decide) (by decide) (by decide) (by decide)]; exact hp r (by omega)
    have bdr := bd r
    have br : -46656000000000000 ≤ p r ∧ p r ≤ 46656000000000000 := by
      unfold bgA at bdr
      split at bdr <;> omega
    refine mjl_206_22 ?_
    rw [z32, zp]
    refine ⟨by omega, by omega, fun g => by omega, fun _ => ⟨by omega, by omega, mje_203 (d := 8) ?_⟩⟩
    rw [z3]
    refine fm_set (d := 7) (i := r) (by omega) (by omega) fun Z2 h3 h4 => ?_
    have w18 : Z2 464 18 = (r : Int) := by rw [h3.1 464 (by decide) (by decide) (by decide)]; exact z3
    rw [w18]
    refine hL _ ⟨fun c c1 c2 c3 c4 => by rw [mjUp_nc c1, h3.1 c c2 c3 c4, z1 c c1 c2 c3 c4], fun k hk => ?_, by rw [mjUp_at]; omega, fun i hi => ?_⟩
    · show (if 464 = 464 ∧ k = 18 then _ else Z2 464 k) = _
      rw [if_neg fun c => hk c.2, h3.1 464 (by decide) (by decide) (by decide), z2 k hk]
    · rcases Nat.lt_or_ge i r with l | l
      · exact (z4 i l).fr (fun k hk => by rw [mjUp_nc (by decide)]; exact h3.2.2 _ (by omega)) (by rw [mjUp_nc (by decide)]; exact (h3.2.1 i (by omega)).1) (by rw [mjUp_nc (by decide)]; exact (h3.2.1 i (by omega)).2)
      · rw [show i = r by omega]
        exact h4.fr (fun k hk => by rw [mjUp_nc (by decide)]) (by rw [mjUp_nc (by decide)]) (by rw [mjUp_nc (by decide)])
  · obtain ⟨z1, z2, z3, z4⟩ := hy
    have z32 : Zr 464 32 = (nn : Int) := by rw [z2 32 (by decide)]; exact h0
    refine mjl_206_22 ?_
    rw [z32, z3]
    exact ⟨by omega, by omega, fun _ => hq Zr z1 z2 z3 z4, fun g => by omega⟩
end ANS
