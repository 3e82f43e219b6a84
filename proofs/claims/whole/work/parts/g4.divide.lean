/-! The reference's numbers: greatest, divide. -/
section GD
variable {d r a b : Nat} {Z0 : mjZ}
theorem fm_gcd81 {W : Nat} {q : mjZ → Prop} (hr : r < 128) (hr2 : r ≠ 92 ∧ r ≠ 93) (hW : W < (bgP 23).toNat) (hq : ∀ Z', stG (fun k => k = r ∨ k = 92 ∨ k = 93) Z0 Z' → lbIs Z' r (W : Int) → q Z') : ∀ (f x y t : Nat) (Z : mjZ), x ≤ f → gcS Z0 Z x y → 0 < x → 0 < y → 2 ^ t * Nat.gcd x y = W → x < (bgP 12).toNat → y < (bgP 12).toNat → mjL_236_81 (d + 3) r a b t Z q := by
  have hP : (bgP 23).toNat = 2 ^ 690 := by decide +kernel
  intro f
  induction f with
  | zero => intro x y t Z h1 h2 h3; omega
  | succ f ih =>
    intro x y t Z hf h hx hy hg hxb hyb
    have ht : t < 690 := by
      have h1 : 2 ^ t * 1 ≤ 2 ^ t * Nat.gcd x y := Nat.mul_le_mul_left _ (Nat.gcd_pos_of_pos_left y hx)
      rw [hg, Nat.mul_one] at h1
      exact (Nat.pow_lt_pow_iff_right (by decide : 1 < 2)).mp (show 2 ^ t < 2 ^ 690 by omega)
    have go : (x % 2 = 1 ∨ y % 2 = 1) → mjL_236_119 (d + 3) r a b t Z q := fun ho => fm_gcd119 hr hr2 (by rw [hg]; exact hW) (by omega) (fun Z' c1 c2 => hq Z' c1 (by rw [hg] at c2; exact c2)) (x + y) x y Z (Nat.le_refl _) h hx rfl (Or.inr ho) hxb hyb
    refine mjl_236_81 (h.odd (d := d + 1) ⟨by omega, fun k => go (Or.inl (by omega)), fun k => h.odd2 (d := d + 1) ⟨by omega, fun k2 => go (Or.inr (by omega)), fun k2 => ?_⟩⟩)
    refine h.half (d := d + 1) (by omega) fun Z1 h1 => h1.half2 (d := d + 1) (by omega) fun Z2 h2 => ih (x / 2) (y / 2) (t + 1) Z2 (by omega) h2 (by omega) (by omega) ?_ (by omega) (by omega)
    rw [← hg]
    have := Nat.gcd_mul_left 2 (x / 2) (y / 2)
    rw [show 2 * (x / 2) = x by omega, show 2 * (y / 2) = y by omega] at this
    rw [this, Nat.pow_succ, Nat.mul_assoc]
theorem bgP_12_23 : bgP 12 < bgP 23 ∧ ((bgP 12).toNat : Int) = bgP 12 ∧ ((bgP 23).toNat : Int) = bgP 23 := by decide +kernel
theorem gcd_le_max {x y P : Nat} (hx : x < P) (hy : y < P) : Nat.gcd x y < P := by
  rcases Nat.eq_zero_or_pos x with g | g
  · rw [g, Nat.gcd_zero_left]; exact hy
  · have := Nat.le_of_dvd g (Nat.gcd_dvd_left x y); omega
theorem fm_gcdT {S : mjZ} {x y : Nat} {q : mjZ → Prop} (hr : r < 128) (hr2 : r ≠ 92 ∧ r ≠ 93) (h : gcS Z0 S x y) (hxb : x < (bgP 12).toNat) (hyb : y < (bgP 12).toNat) (hq : ∀ Z', stG (fun k => k = r ∨ k = 92 ∨ k = 93) Z0 Z' → lbIs Z' r (Nat.gcd x y : Int) → q Z') : (-2147483648 ≤ (S 476 92) ∧ (S 476 92) < 2147483648) ∧ (((S 476 92) = 0 → (((S 476 92) ≠ 0 → (mjW0 (d + 3) 222 [yR 11 464, yI (r : Int), yI 92] S (fun Z6 => mjL_236_271 (d + 3) r a b 0 0 Z6 q))) ∧ (¬((S 476 92) ≠ 0) → (mjW0 (d + 3) 222 [yR 11 464, yI 92, yI 93] S (fun Z7 => mjW0 (d + 3) 222 [yR 11 464, yI (r : Int), yI 92] Z7 (fun Z8 => mjL_236_271 (d + 3) r a b 0 0 Z8 q)))))) ∧ (¬((S 476 92) = 0) → ((-2147483648 ≤ (S 476 93) ∧ (S 476 93) < 2147483648) ∧ (((S 476 93) = 0 → (((S 476 92) ≠ 0 → (mjW0 (d + 3) 222 [yR 11 464, yI (r : Int), yI 92] S (fun Z10 => mjL_236_271 (d + 3) r a b 0 0 Z10 q))) ∧ (¬((S 476 92) ≠ 0) → (mjW0 (d + 3) 222 [yR 11 464, yI 92, yI 93] S (fun Z11 => mjW0 (d + 3) 222 [yR 11 464, yI (r : Int), yI 92] Z11 (fun Z12 => mjL_236_271 (d + 3) r a b 0 0 Z12 q)))))) ∧ (¬((S 476 93) = 0) → (mjL_236_81 (d + 3) r a b 0 S q)))))) := by
  have hh := h.is
  obtain ⟨h1, -, -, h6, h7⟩ := id h
  have end0 : ∀ Z', q Z' → mjL_236_271 (d + 3) r a b 0 0 Z' q := fun Z' hq' => mjl_236_271 ⟨by decide, by decide, fun _ => hq', fun g => absurd (Int.le_refl _) g⟩
  have e92 : x = 0 ↔ S 476 92 = 0 := by rw [h6]; split <;> constructor <;> intro k <;> omega
  have e93 : y = 0 ↔ S 476 93 = 0 := by rw [h7]; split <;> constructor <;> intro k <;> omega
  refine ⟨by rw [h6]; split <;> omega, fun g => ⟨fun g2 => absurd g g2, fun _ => ?_⟩, fun g => ⟨by rw [h7]; split <;> omega, fun g2 => ⟨fun _ => ?_, fun g3 => absurd g g3⟩, fun g2 => ?_⟩⟩
  · have x0 := e92.mpr g
    refine fm_copy (d := d + 2) (r := 92) (a := 93) (by decide) (by decide) hh.2 fun Z1 c1 c2 => fm_copy (d := d + 2) (a := 92) hr (by decide) c2 fun Z2 c3 c4 => end0 Z2 (hq Z2 (((h1.mono fun k hk => Or.inr hk).tr (c1.R (Or.inr (Or.inl rfl)))).tr (c3.R (Or.inl rfl))) ?_)
    rw [x0, Nat.gcd_zero_left]
    exact c4
  · have y0 := e93.mpr g2
    refine fm_copy (d := d + 2) (a := 92) hr (by decide) hh.1 fun Z2 c3 c4 => end0 Z2 (hq Z2 ((h1.mono fun k hk => Or.inr hk).tr (c3.R (Or.inl rfl))) ?_)
    rw [y0, Nat.gcd_zero_right]
    exact c4
  · have hx : 0 < x := by have k := fun k => g (e92.mp k); omega
    have hy : 0 < y := by have k := fun k => g2 (e93.mp k); omega
    have hp := bgP_12_23
    exact fm_gcd81 (d := d) hr hr2 (by have := gcd_le_max hxb hyb; omega) hq x x y 0 S (Nat.le_refl _) h hx hy (by rw [Nat.pow_zero, Nat.one_mul]) hxb hyb
theorem fm_greatest {Z : mjZ} {va vb : Int} {q : mjZ → Prop} (hr : r < 128) (hr2 : r ≠ 92 ∧ r ≠ 93) (ha : a < 128) (ha2 : a ≠ 92 ∧ a ≠ 93) (hb : b < 128) (hb2 : b ≠ 92 ∧ b ≠ 93) (A : lbIs Z a va) (B : lbIs Z b vb) (hA : bgA va < bgP 12) (hB : bgA vb < bgP 12) (hq : ∀ Z', stG (fun k => k = r ∨ k = 92 ∨ k = 93) Z Z' → lbIs Z' r (Nat.gcd va.natAbs vb.natAbs : Int) → q Z') : mjW0 (d + 4) 236 [yR 11 464, yI (r : Int), yI (a : Int), yI (b : Int)] Z q := by
  obtain ⟨n, a1, a2, a3, a4, a5⟩ := A.n
  obtain ⟨m, b1, b2, b3, b4, b5⟩ := B.n
  have hp := bgP_12_23
  rw [bgA_nat] at hA hB a5 b5
  refine mje_236 (d := d + 3) (fm_copyW (d := d + 2) (r := 92) (by decide) ha a1.1 fun Z1 c1 c2 c3 c4 => ?_)
  have k1 := b1.stF c1 hb2.1
  refine fm_copyW (d := d + 2) (r := 93) (a := b) (by decide) hb k1.1.1 fun Z2 c5 c6 c7 c8 => ?_
  have t92 : lbT Z1 92 n := ⟨c2, fun g => by rw [c3 _ (by omega)]; exact a1.2 g⟩
  have u92 : lbU Z1 92 n = (va.natAbs : Int) := by rw [a5]; exact bgS_eq fun k hk => c3 k hk
  have k2 := t92.stF c5 (by decide)
  have t93 : lbT Z2 93 m := ⟨c6, fun g => by rw [c7 _ (by omega)]; exact k1.1.2 g⟩
  have u93 : lbU Z2 93 m = (vb.natAbs : Int) := by rw [b5, ← k1.2]; exact bgS_eq fun k hk => c7 k hk
  have e5 : Z2 475 92 = (n : Int) := k2.1.1.2.1
  have e53 : Z2 475 93 = (m : Int) := t93.1.2.1
  have z1 := a1.zero
  have z2 := b1.zero
  have st : ∀ s1 s2 : Int, s1 = (if va.natAbs = 0 then 0 else 1) → s2 = (if vb.natAbs = 0 then 0 else 1) → gcS Z (mjUp (mjUp Z2 476 92 s1) 476 93 s2) va.natAbs vb.natAbs := fun s1 s2 h1 h2 => by
    have e4 : ∀ c k, lbF (mjUp (mjUp Z2 476 92 s1) 476 93 s2) c k = lbF Z2 c k := fun c k => by unfold lbF; rw [mjUp_nc (by decide), mjUp_nc (by decide)]
    have e55 : ∀ c, mjUp (mjUp Z2 476 92 s1) 476 93 s2 475 c = Z2 475 c := fun c => by rw [mjUp_nc (by decide), mjUp_nc (by decide)]
    refine ⟨(((c1.R (S := fun k => k = 92 ∨ k = 93) (Or.inl rfl)).tr (c5.R (Or.inr rfl))).tr (stF_up6.R (r := 92) (Or.inl rfl))).tr (stF_up6.R (r := 93) (Or.inr rfl)), ⟨n, ⟨⟨k2.1.1.1, by rw [e55]; exact k2.1.1.2.1, fun k g1 g2 => by rw [e4]; exact k2.1.1.2.2 k g1 g2⟩, fun g => by rw [e4]; exact k2.1.2 g⟩, ?_⟩, ⟨m, ⟨⟨t93.1.1, by rw [e55]; exact t93.1.2.1, fun k g1 g2 => by rw [e4]; exact t93.1.2.2 k g1 g2⟩, fun g => by rw [e4]; exact t93.2 g⟩, ?_⟩, by rw [mjUp_ne fun _ => by decide, mjUp_at]; exact h1, by rw [mjUp_at]; exact h2⟩
    · rw [← u92, ← k2.2]
      exact bgS_eq fun k _ => e4 92 k
    · rw [← u93]
      exact bgS_eq fun k _ => e4 93 k
  have f5 : ∀ s : Int, mjUp Z2 476 92 s 475 93 = (m : Int) := fun s => by rw [mjUp_nc (by decide)]; exact e53
  rw [e5, f5, f5]
  refine ⟨by have := a1.1.1; omega, fun g => ⟨by have := b1.1.1; omega, fun g2 => ?_, fun g2 => ?_⟩, fun g => ⟨by have := b1.1.1; omega, fun g2 => ?_, fun g2 => ?_⟩⟩
  · exact fm_gcdT (d := d) hr hr2 (st 1 1 (by rw [if_neg (by omega)]) (by rw [if_neg (by omega)])) (by omega) (by omega) hq
  · exact fm_gcdT (d := d) hr hr2 (st 1 0 (by rw [if_neg (by omega)]) (by rw [if_pos (by omega)])) (by omega) (by omega) hq
  · exact fm_gcdT (d := d) hr hr2 (st 0 1 (by rw [if_pos (by omega)]) (by rw [if_neg (by omega)])) (by omega) (by omega) hq
  · exact fm_gcdT (d := d) hr hr2 (st 0 0 (by rw [if_pos (by omega)]) (by rw [if_pos (by omega)])) (by omega) (by omega) hq
/-- the registers of the division: what is left, and the quotient so far -/
def dvQ (Z0 Z : mjZ) (x y : Nat) : Prop := stG (fun k => k = 90 ∨ k = 91) Z0 Z ∧ (∃ n, lbT Z 90 n ∧ lbU Z 90 n = (x : Int)) ∧ (∃ m, lbT Z 91 m ∧ lbU Z 91 m = (y : Int))
theorem stG.T {S : Nat → Prop} {Z Z' : mjZ} {c n : Nat} (h : lbT Z c n) (hs : stG S Z Z') (hc : ¬ S c) : lbT Z' c n ∧ lbU Z' c n = lbU Z c n := by
  have e : ∀ k, k < 24 → lbF Z' c k = lbF Z c k := (hs.2 c hc).2.2
  have hn := h.1.1
  exact ⟨⟨⟨hn, by rw [(hs.2 c hc).1]; exact h.1.2.1, fun k k1 k2 => by rw [e k (by omega)]; exact h.1.2.2 k k1 k2⟩, fun g => by rw [e _ (by omega)]; exact h.2 g⟩, bgS_eq fun k hk => e k (by omega)⟩
theorem fm_divL {NA NB n m : Nat} {s : Int} {q : mjZ → Prop} (ha : a < 128) (ha2 : a ≠ 90 ∧ a ≠ 91) (hb : b < 128) (hb2 : b ≠ 90 ∧ b ≠ 91) (A : lbT Z0 a n) (uA : lbU Z0 a n = (NA : Int)) (B : lbT Z0 b m) (uB : lbU Z0 b m = (NB : Int)) (hA : NA < (bgP 22).toNat) (hB : NB < (bgP 22).toNat) (hB0 : 0 < NB) (hq : ∀ Z' x y, dvQ Z0 Z' x y → NA = x * NB + y → y < NB → mjL_240_38 (d + 3) r a b s (-1) Z' q) : ∀ (i x y : Nat) (Z : mjZ), i < 2000 → dvQ Z0 Z x y → NA / 2 ^ i = x * NB + y → y < NB → mjL_240_38 (d + 3) r a b s ((i : Int) - 1) Z q
  | 0, x, y, Z, _, h, he, hy => by
    rw [Nat.pow_zero, Nat.div_one] at he
    exact hq Z x y h he hy
  | i + 1, x, y, Z, hi, h, he, hy => by
    obtain ⟨h1, ⟨n1, h2, h3⟩, ⟨n2, h4, h5⟩⟩ := h
    have hP : ((bgP 22).toNat : Int) = bgP 22 := by decide +kernel
    have kA := stG.T A h1 (by omega)
    have kB := stG.T B h1 (by omega)
    have hNA : lbN Z a n = NA := by unfold lbN; rw [kA.2, uA]; exact Int.toNat_natCast NA
    have hxle : x ≤ NA := by
      have e1 : x * 1 ≤ x * NB := Nat.mul_le_mul_left _ hB0
      have e2 : NA / 2 ^ (i + 1) ≤ NA := Nat.div_le_self _ _
      omega
    have l1 : n1 ≤ 22 := h2.len (by rw [h3]; omega)
    have l2 : n2 ≤ 22 := h4.len (by rw [h5]; omega)
    have lB : m ≤ 22 := B.len (by rw [uB]; omega)
    have step : NA / 2 ^ i = 2 * (NA / 2 ^ (i + 1)) + NA / 2 ^ i % 2 := by
      rw [Nat.pow_succ, ← Nat.div_div_eq_div_mul]
      omega
    refine mjl_240_38 ⟨by omega, fun g => by omega, fun _ => ?_⟩
    rw [show ((i + 1 : Nat) : Int) - 1 = (i : Int) by omega]
    refine fm_bitU (d := d + 1) (a := a) (i := i) ha kA.1.1 (by omega) ?_
    rw [hNA]
    have hw : NA / 2 ^ i % 2 < 2 := Nat.mod_lt _ (by decide)
    revert step hw
    generalize NA / 2 ^ i % 2 = w
    intro step hw
    refine fm_twice (d := d + 2) (r := 91) (w := w) (by decide) h4 (by omega) hw fun Z1 n3 c1 c2 c3 c4 c5 => ?_
    have u3 : lbU Z1 91 n3 = ((2 * y + w : Nat) : Int) := by rw [c4, h5]; omega
    have kB1 := kB.1.stF c1 hb2.2
    have k90 := h2.stF c1 (by decide)
    have f1 : stG (fun k => k = 90 ∨ k = 91) Z0 Z1 := h1.tr (c1.R (Or.inr rfl))
    have uB1 : lbU Z1 b m = (NB : Int) := by rw [kB1.2, kB.2, uB]
    have sub : NB ≤ 2 * y + w → mjW0 (d + 3) 223 [yR 11 464, yI 91, yI 91, yI (b : Int), yI (-1)] Z1 (fun Z11 => mjW0 (d + 3) 220 [yR 11 464, yI 91] Z11 (fun Z12 => mjW0 (d + 3) 239 [yR 11 464, yI 90, yI 1] Z12 (fun Z13 => mjL_240_38 (d + 3) r a b s ((i : Int) + (-1)) Z13 q))) := fun hle => by
      refine fm_join (d := d + 1) (r := 91) (a := 91) (b := b) (by decide) (by decide) hb c3.1 kB1.1.1 (by omega) (Or.inr rfl) (fun _ => by rw [u3, uB1]; omega) fun Z2 N e1 e2 e3 e4 => ?_
      refine fm_trim (d := d + 2) (by decide) e2 fun Z3 N3 g1 g2 g3 g4 g5 g6 => ?_
      have c6 := e1.tr g1
      have k902 := k90.1.stF c6 (by decide)
      refine fm_twice (d := d + 2) (r := 90) (w := 1) (by decide) k902.1 (by omega) (by decide) fun Z4 n5 j1 j2 j3 j4 j5 => ?_
      have k91 := g3.stF j1 (by decide)
      rw [show (i : Int) + (-1) = (i : Int) - 1 by omega]
      refine fm_divL ha ha2 hb hb2 A uA B uB hA hB hB0 hq i (2 * x + 1) (2 * y + w - NB) Z4 (by omega) ⟨(f1.tr (c6.R (Or.inr rfl))).tr (j1.R (Or.inl rfl)), ⟨n5, j3, ?_⟩, ⟨N3, k91.1, ?_⟩⟩ ?_ (by omega)
      · rw [j4, k902.2, k90.2, h3]; omega
      · rw [k91.2, g5, e3, u3, uB1]; omega
      · rw [step, he, Nat.add_mul, Nat.one_mul, Nat.mul_assoc]; omega
    refine fm_against (d := d + 2) (a := 91) (b := b) (by decide) hb c3 kB1.1 (fun e => ⟨by omega, fun k => absurd k (by decide), fun _ => sub (by omega)⟩) (fun e => ⟨by omega, fun k => absurd k (by decide), fun _ => sub (by omega)⟩) (fun e => ⟨by omega, fun _ => ?_, fun k => absurd (by decide) k⟩)
    refine fm_twice (d := d + 2) (r := 90) (w := 0) (by decide) k90.1 (by omega) (by decide) fun Z4 n5 j1 j2 j3 j4 j5 => ?_
    have k91 := c3.stF j1 (by decide)
    rw [show (i : Int) + (-1) = (i : Int) - 1 by omega]
    refine fm_divL ha ha2 hb hb2 A uA B uB hA hB hB0 hq i (2 * x) (2 * y + w) Z4 (by omega) ⟨f1.tr (j1.R (Or.inl rfl)), ⟨n5, j3, ?_⟩, ⟨n3, k91.1, ?_⟩⟩ ?_ (by omega)
    · rw [j4, k90.2, h3]; omega
    · rw [k91.2, u3]
    · rw [step, he, Nat.mul_assoc]; omega
theorem sg_alg {s1 s2 x u : Int} (h : s2 * s2 = 1) : s1 * (x * u) = s1 * s2 * x * (s2 * u) := by grind
theorem fm_div {Z : mjZ} {va vb w : Int} {q : mjZ → Prop} (hr : r < 128) (hr2 : r ≠ 90) (ha : a < 128) (ha2 : a ≠ 90 ∧ a ≠ 91) (hb : b < 128) (hb2 : b ≠ 90 ∧ b ≠ 91) (A : lbIs Z a va) (B : lbIs Z b vb) (hA : bgA va < bgP 22) (hB : bgA vb < bgP 22) (hv : va = w * vb) (hb0 : vb ≠ 0) (hq : ∀ Z', stG (fun k => k = r ∨ k = 90 ∨ k = 91) Z Z' → lbIs Z' r w → q Z') : mjW0 (d + 4) 240 [yR 11 464, yI (r : Int), yI (a : Int), yI (b : Int)] Z q := by
  have hP : ((bgP 22).toNat : Int) = bgP 22 := by decide +kernel
  have b00 : bgA 0 = 0 := rfl
  refine mje_240 (d := d + 3) (fm_set (d := d + 2) (i := 90) (by decide) (by decide) fun Z1 c1 c2 => fm_set (d := d + 2) (i := 91) (by decide) (by decide) fun Z2 c3 c4 => ?_)
  have A2 : lbIs Z2 a va := (A.stF c1 ha2.1).stF c3 ha2.2
  have B2 : lbIs Z2 b vb := (B.stF c1 hb2.1).stF c3 hb2.2
  have Q2 := c2.stF c3 (by decide)
  obtain ⟨n, a1, a2, a3, a4, a5⟩ := A2.n
  obtain ⟨m, b1, b2, b3, b4, b5⟩ := B2.n
  obtain ⟨n1, e1, -, -, -, e5⟩ := Q2.n
  obtain ⟨n2, g1, -, -, -, g5⟩ := c4.n
  rw [b00] at e5 g5
  have hA' := hA
  have hB' := hB
  rw [bgA_nat] at hA' hB' a5 b5
  have hNB : 0 < vb.natAbs := by omega
  refine ⟨by omega, by omega, by omega, by omega, fm_bitsU (d := d + 2) ha a1.1 fun nb h1 h2 => ?_⟩
  have hn24 := a1.1.1
  have hNA : lbN Z2 a n = va.natAbs := by unfold lbN; rw [← a5]; exact Int.toNat_natCast _
  rw [hNA] at h1
  refine fm_divL (d := d) (Z0 := Z2) (NA := va.natAbs) (NB := vb.natAbs) ha ha2 hb hb2 a1 a5.symm b1 b5.symm (by omega) (by omega) hNB (fun Z3 x y k1 k2 k3 => ?_) nb 0 0 Z2 (by omega) ⟨stG.refl, ⟨n1, e1, e5.symm⟩, ⟨n2, g1, g5.symm⟩⟩ (by rw [Nat.div_eq_of_lt h1, Nat.zero_mul]) hNB
  have y0 : y = 0 := by
    have h6 : va.natAbs = w.natAbs * vb.natAbs := by rw [hv, Int.natAbs_mul]
    have h7 : va.natAbs % vb.natAbs = 0 := by rw [h6]; exact Nat.mul_mod_left _ _
    rw [k2, Nat.add_comm, Nat.add_mul_mod_self_right, Nat.mod_eq_of_lt k3] at h7
    exact h7
  obtain ⟨l1, ⟨n3, l2, l3⟩, -⟩ := k1
  refine mjl_240_38 ⟨by omega, fun _ => ?_, fun k => absurd (by decide) k⟩
  refine fm_copyW (d := d + 2) (a := 90) hr (by decide) l2.1 fun Z4 m1 m2 m3 m4 => ⟨by omega, by omega, ?_⟩
  have t4 : lbT Z4 r n3 := ⟨m2, fun g => by rw [m3 _ (by omega)]; exact l2.2 g⟩
  have u4 : lbU Z4 r n3 = (x : Int) := by rw [← l3]; exact bgS_eq fun k hk => m3 k hk
  have z4 := t4.zero
  have hw : w = (Z2 476 a * Z2 476 b) * (x : Int) := by
    refine Int.eq_of_mul_eq_mul_right hb0 ?_
    rw [← hv, a4, ← a5, k2, y0, Nat.add_zero, Int.natCast_mul, b5]
    have hbb : Z2 476 b * Z2 476 b = 1 := by
      have : Z2 476 b ≠ 0 := fun k => by
        have := b1.zero.mpr (b3.mp k)
        omega
      rcases b2 with k | k | k
      · rw [k]; decide
      · exact absurd k this
      · rw [k]; decide
    rw [show Z2 476 a * Z2 476 b * (x : Int) * vb = Z2 476 a * Z2 476 b * (x : Int) * (Z2 476 b * lbU Z2 b m) by rw [← b4]]
    exact sg_alg hbb
  have fin : ∀ s : Int, (s = -1 ∨ s = 0 ∨ s = 1) → (s = 0 ↔ n3 = 0) → w = s * (x : Int) → q (mjUp Z4 476 r s) := fun s s1 s2 s3 => by
    have e4 : ∀ k, lbF (mjUp Z4 476 r s) r k = lbF Z4 r k := fun k => by unfold lbF; rw [mjUp_nc (by decide)]
    refine hq _ ((((((c1.R (S := fun k => k = r ∨ k = 90 ∨ k = 91) (Or.inr (Or.inl rfl))).tr (c3.R (Or.inr (Or.inr rfl)))).tr (l1.mono fun k hk => Or.inr hk)).tr (m1.R (Or.inl rfl))).tr (stF_up6.R (Or.inl rfl)))) (lbIs.of (n := n3) ⟨⟨t4.1.1, by rw [mjUp_nc (by decide)]; exact t4.1.2.1, fun k k1 k2 => by rw [e4]; exact t4.1.2.2 k k1 k2⟩, fun g => by rw [e4]; exact t4.2 g⟩ (by rw [mjUp_at]; exact s1) (by rw [mjUp_at]; exact s2) ?_)
    rw [mjUp_at, s3, ← u4]
    congr 1
  have l5 : Z4 475 r = (n3 : Int) := t4.1.2.1
  have hn3 := t4.1.1
  rw [l5]
  refine ⟨by omega, fun g => ?_, fun g => ?_⟩
  · refine fin _ ?_ ?_ hw
    · rcases a2 with k | k | k <;> rw [k] <;> omega
    · have hx0 : x ≠ 0 := fun k => by
        have := z4.mp (by rw [u4, k]; rfl)
        omega
      have hva : va.natAbs ≠ 0 := fun k => by
        rw [k2, y0, Nat.add_zero] at k
        rcases Nat.mul_eq_zero.mp k with k | k <;> omega
      have h1 : Z2 476 a ≠ 0 := fun k => by
        have := a1.zero.mpr (a3.mp k)
        omega
      have h2 : Z2 476 b ≠ 0 := fun k => by
        have := b1.zero.mpr (b3.mp k)
        omega
      constructor
      · intro k; rcases Int.mul_eq_zero.mp k with k | k
        · exact absurd k h1
        · exact absurd k h2
      · intro k; omega
  · have n0 : n3 = 0 := by omega
    have x0 : x = 0 := by
      have := z4.mpr n0
      omega
    exact fin 0 (Or.inr (Or.inl rfl)) ⟨fun _ => n0, fun _ => rfl⟩ (by rw [hw, x0]; show _ * (0 : Int) = 0 * 0; rw [Int.mul_zero]; rfl)
end GD
