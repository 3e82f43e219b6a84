/-! What is told of the way. -/
theorem INV_wy {Z Z1 : mjZ} (hI : INV Z) (g : wcS wyS Z Z1) (hp : pmC Z1) (hd : ∃ o t r, dvT 354 Z1 o t r) : INV Z1 := by
  obtain ⟨i1, i2, i3, i4, i5, i6⟩ := hI
  obtain ⟨a1, a2, a3, a4, a5, a6, a7⟩ := i6
  have e : ∀ c, c < 342 ∨ 458 < c → Z1 c = Z c := fun c hc => g c (by unfold wyS; omega)
  refine ⟨i1.fr (fun c g1 g2 => e c (by omega)) (e _ (by omega)) (e _ (by omega)) (e _ (by omega)), i2.fr (fun c g1 g2 => e c (by omega)) (by rw [e _ (by omega)]) (by rw [e _ (by omega)]) (e _ (by omega)) (e _ (by omega)) (e _ (by omega)), i3.fr (fun c g1 g2 => e c (by omega)) (by rw [e _ (by omega)]) (by rw [e _ (by omega)]) (fun k _ => by rw [e _ (by omega)]) (fun k _ => by rw [e _ (by omega)]) (fun k _ => by rw [e _ (by omega)]), i4.fr (by rw [e _ (by omega)]) (by rw [e _ (by omega)]) (by rw [e _ (by omega)]) (by rw [e _ (by omega)]) (by rw [e _ (by omega)]) (by rw [e _ (by omega)]) (e _ (by omega)) (e _ (by omega)), i5.fr (by rw [e _ (by omega)]) (by rw [e _ (by omega)]) (e _ (by omega)) (e _ (by omega)), ?_⟩
  unfold ivA
  rw [e 254 (by omega), e 460 (by omega), e 263 (by omega), e 481 (by omega)]
  obtain ⟨o, t, r, dv1⟩ := a4
  exact ⟨a1, a2, a3, ⟨o, t, r, dv1.cc (e 315 (by omega))⟩, hd, hp, a7⟩
theorem bgIs.lt {R c : Nat} {Z : mjZ} {v : Int} (h : bgIs R Z c v) : bgA v < bgP R := by
  obtain ⟨n, g1, g2, g3, g4, g5, g6, g7, g8, g9, g10⟩ := h.n
  exact g10
/-- the class's answers stand -/
def clR (Zb : mjZ) (m : Nat) (Zc : mjZ) (x : Nat → Int) : Prop := (∀ c, c ≠ 0 → c < 156 ∨ 252 ≤ c → Zc c = Zb c) ∧ (∀ k, k ≠ 4 → Zc 0 k = Zb 0 k) ∧ Zc 0 4 = (m : Int) ∧ ∀ i, i < m → bgIs 12 Zc (156 + 2 * i) (x i)
/-- the reference's first answers stand -/
def tlR (Zb : mjZ) (k : Nat) (Zr : mjZ) (x : Nat → Int) : Prop := (∀ c, c ≠ 464 → c ≠ 474 → c ≠ 475 → c ≠ 476 → Zr c = Zb c) ∧ (∀ k, k ≠ 18 → Zr 464 k = Zb 464 k) ∧ Zr 464 18 = (k : Int) ∧ (∀ a v, 48 ≤ a → a < 128 → lbIs Zb a v → lbIs Zr a v) ∧ ∀ i, i < k → lbIs Zr i (x i)
theorem tl_start {Z : mjZ} {x : Nat → Int} : tlR Z 0 (mjUp Z 464 18 0) x := ⟨fun c c1 _ _ _ => mjUp_nc c1, fun k hk => if_neg fun c => hk c.2, mjUp_at, fun a v _ _ h => h.fr (fun k _ => by rw [mjUp_nc (by decide)]) (by rw [mjUp_nc (by decide)]) (by rw [mjUp_nc (by decide)]), fun i hi => by omega⟩
theorem tl_step {d : Nat} {Zb Zr : mjZ} {x : Nat → Int} {k a : Nat} {q : mjZ → Prop} (h : tlR Zb k Zr x) (hk : k < 48) (ha : 48 ≤ a ∧ a < 128) (hx : lbIs Zb a (x k)) (hq : ∀ Z', tlR Zb (k + 1) Z' x → q Z') : mjW0 (d + 1) 222 [yR 11 464, yI (Zr 464 18), yI (a : Int)] Zr (fun Z3 => q (mjUp Z3 464 18 ((Z3 464 18) + 1))) := by
  obtain ⟨h1, h2, h3, h4, h5⟩ := h
  rw [h3]
  refine fm_copy (d := d) (by omega) ha.2 (h4 a _ ha.1 ha.2 hx) fun Z3 b1 b2 => hq _ ?_
  have e4 : Z3 464 = Zr 464 := b1.1 464 (by decide) (by decide) (by decide)
  have up : ∀ r v, lbIs Z3 r v → lbIs (mjUp Z3 464 18 ((Z3 464 18) + 1)) r v := fun r v g => g.fr (fun k _ => by rw [mjUp_nc (by decide)]) (by rw [mjUp_nc (by decide)]) (by rw [mjUp_nc (by decide)])
  refine ⟨fun c c1 c2 c3 c4 => by rw [mjUp_nc c1, b1.1 c c2 c3 c4, h1 c c1 c2 c3 c4], fun k hk => ?_, by rw [mjUp_at, e4, h3]; omega, fun a v g1 g2 g3 => up _ _ ((h4 a v g1 g2 g3).stF b1 (by omega)), fun i hi => up _ _ ?_⟩
  · show (if 464 = 464 ∧ k = 18 then _ else Z3 464 k) = _
    rw [if_neg fun c => hk c.2, e4, h2 k hk]
  · rcases Nat.lt_or_ge i k with g | g
    · exact (h5 i g).stF b1 (by omega)
    · rw [show i = k by omega]
      exact b2
theorem INV_tell {Zb Zc Zd Zf : mjZ} {m : Nat} {x : Nat → Int} (hI : INV Zb) (hm : m ≤ 48) (C : clR Zb m Zc x) (S : stG bdS Zc Zd) (t : tlR Zd m Zf x) : INV Zf := by
  obtain ⟨c1, c2, c3, c4⟩ := C
  obtain ⟨t1, t2, t3, t4, t5⟩ := t
  have e : ∀ c, c ≠ 464 → c ≠ 474 → c ≠ 475 → c ≠ 476 → c ≠ 477 → Zf c = Zc c := fun c g1 g2 g3 g4 g5 => by rw [t1 c g1 g2 g3 g4, S.1 c g2 g3 g4 g5]
  refine INV_ansN (x := x) (m := m) hI (fun c g1 g2 => ?_) ?_ (fun k hk => ?_) (fun k hk => ?_) hm ?_ t3 (fun i hi => bgIs_congr (c4 i hi) (e _ (by omega) (by omega) (by omega) (by omega) (by omega)) (e _ (by omega) (by omega) (by omega) (by omega) (by omega))) t5
  · rw [e c (by omega) (by omega) (by omega) (by omega) (by omega)]
    exact c1 c g1 (by omega)
  · rw [e 481 (by decide) (by decide) (by decide) (by decide) (by decide)]
    exact c1 481 (by decide) (by decide)
  · rw [e 0 (by decide) (by decide) (by decide) (by decide) (by decide)]
    exact c2 k hk
  · rw [t2 k (by omega), S.1 464 (by decide) (by decide) (by decide) (by decide), c1 464 (by decide) (by decide)]
  · rw [e 0 (by decide) (by decide) (by decide) (by decide) (by decide)]
    exact c3
section WG
variable {d n c : Nat} {R : Nat → Nat → Int} {Z : mjZ}
theorem fw_copyRow {x1 x2 : Nat} {q : mjZ → Prop} (h6 : n ≤ 6) (hx1 : x1 < n) (hx2 : x2 + n ≤ 48) (hs : Z 342 0 = (n : Int)) (hp : pmC Z) (hR : rwC n Z R) (hq : ∀ Z', wcS (fun a => 156 + 2 * x2 ≤ a ∧ a < 156 + 2 * (x2 + n)) Z Z' → (∀ j, j < n → bgIs 12 Z' (156 + 2 * (x2 + j)) (R x1 j)) → q Z') : mjW0 (d + 3) 138 [yR 10 0, yI (x1 : Int), yI (x2 : Int)] Z q := by
  refine mje_138 (d := d + 2) ?_
  refine lp_inv (n := n) (a := Z) (L := fun r Zr => mjL_138_2 (d + 2) x1 x2 r Zr q) (Y := fun r Zr => wcS (fun a => 156 + 2 * x2 ≤ a ∧ a < 156 + 2 * (x2 + n)) Z Zr ∧ ∀ j, j < r → bgIs 12 Zr (156 + 2 * (x2 + j)) (R x1 j)) (fun r Zr hr hy hL => ?_) (fun Zr hy => ?_) ⟨wcS.rf, fun j hj => by omega⟩
  · obtain ⟨y1, y2⟩ := hy
    obtain ⟨b, b1, b2, b3, b4⟩ := hp.at' (m := 6 * x1 + r) (by omega)
    have e1 : ((x1 : Int) * 6 + (r : Int)).toNat = 6 * x1 + r := by omega
    have e2 : ((x2 : Int) + (r : Int)).toNat = x2 + r := by omega
    refine mjl_138_2 ?_
    rw [y1 342 (by omega), hs, y1 343 (by omega), e1, e2, show 155 + 1 + 2 * (x2 + r) = 156 + 2 * (x2 + r) by omega]
    refine ⟨by omega, by omega, fun g => by omega, fun _ => ⟨by omega, fun g => by omega, fun _ => ⟨by omega, by omega, by omega, by omega, b4, ?_⟩⟩⟩
    have row := (hR x1 r hx1 hr).S y1 (by omega) (by omega)
    refine bg_copy (d := d) (bgR12 (by omega)) b3 (by unfold bgX; omega) row row.lt fun Z9 c1 c2 => hL Z9 ⟨y1.tr (c1.S (by omega) (by omega)), fun j hj => ?_⟩
    rcases Nat.lt_or_ge j r with g | g
    · exact (y2 j g).O c1 (by unfold bgX; omega)
    · rw [show j = r by omega]
      exact c2
  · obtain ⟨y1, y2⟩ := hy
    refine mjl_138_2 ?_
    rw [y1 342 (by omega), hs]
    exact ⟨by omega, by omega, fun _ => hq Zr y1 y2, fun g => by omega⟩
end WG
