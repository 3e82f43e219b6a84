/-! The reference's numbers: sums, products. -/
/-- some registers may change, and the product's row -/
def stG (S : Nat → Prop) (Z Z' : mjZ) : Prop := (∀ a, a ≠ 474 → a ≠ 475 → a ≠ 476 → a ≠ 477 → Z' a = Z a) ∧ ∀ k, ¬ S k → Z' 475 k = Z 475 k ∧ Z' 476 k = Z 476 k ∧ ∀ j, j < 24 → Z' 474 (24 * k + j) = Z 474 (24 * k + j)
theorem stG.refl {S : Nat → Prop} {Z : mjZ} : stG S Z Z := ⟨fun _ _ _ _ _ => rfl, fun _ _ => ⟨rfl, rfl, fun _ _ => rfl⟩⟩
theorem stG.tr {S : Nat → Prop} {Z Z1 Z2 : mjZ} (h : stG S Z Z1) (g : stG S Z1 Z2) : stG S Z Z2 := ⟨fun a h1 h2 h3 h4 => (g.1 a h1 h2 h3 h4).trans (h.1 a h1 h2 h3 h4), fun k hk => ⟨(g.2 k hk).1.trans (h.2 k hk).1, (g.2 k hk).2.1.trans (h.2 k hk).2.1, fun j hj => ((g.2 k hk).2.2 j hj).trans ((h.2 k hk).2.2 j hj)⟩⟩
theorem stG.mono {S T : Nat → Prop} {Z Z1 : mjZ} (h : stG S Z Z1) (hS : ∀ k, S k → T k) : stG T Z Z1 := ⟨h.1, fun k hk => h.2 k fun g => hk (hS k g)⟩
theorem stF.R {Z Z' : mjZ} {r : Nat} {S : Nat → Prop} (h : stF Z Z' r) (hS : S r) : stG S Z Z' := ⟨fun a h1 h2 h3 _ => h.1 a h1 h2 h3, fun k hk => by
  have hkr : k ≠ r := fun g => hk (g ▸ hS)
  exact ⟨(h.2.1 k hkr).1, (h.2.1 k hkr).2, fun j hj => h.2.2 _ (by omega)⟩⟩
theorem lbIs.R {S : Nat → Prop} {Z Z' : mjZ} {a : Nat} {v : Int} (h : lbIs Z a v) (hs : stG S Z Z') (ha : ¬ S a) : lbIs Z' a v := h.fr (fun k hk => (hs.2 a ha).2.2 k hk) (hs.2 a ha).1 (hs.2 a ha).2.1
theorem stG.p {S : Nat → Prop} {Z : mjZ} {j : Nat} {v : Int} : stG S Z (mjUp Z 477 j v) := ⟨fun a _ _ _ h => mjUp_nc h, fun k _ => ⟨congrFun (mjUp_nc (by decide)) _, congrFun (mjUp_nc (by decide)) _, fun j _ => congrFun (mjUp_nc (by decide)) _⟩⟩
theorem dgMul {x y : Int} (hx : 0 ≤ x ∧ x < 1073741824) (hy : 0 ≤ y ∧ y < 1073741824) : 0 ≤ x * y ∧ x * y ≤ 1152921502459363329 := by
  have h1 := mulBd (x := x) (y := y) (a := 1073741823) (b := 1073741823) (by omega) (by omega)
  exact ⟨Int.mul_nonneg hx.1 hy.1, h1.2⟩
section AR
variable {d r a b n m : Nat} {Z : mjZ}
theorem fm_finish {q : mjZ → Prop} (hr : r < 128) (h : lbW Z r n) (hs : Z 476 r = -1 ∨ Z 476 r = 0 ∨ Z 476 r = 1) (h0 : Z 476 r = 0 → lbU Z r n = 0) (hq : ∀ Z', stF Z Z' r → lbIs Z' r (Z 476 r * lbU Z r n) → q Z') : mjW0 (d + 1) 220 [yR 11 464, yI (r : Int)] Z q := by
  refine fm_trim hr h fun Z' n' b1 b2 b3 b4 b5 b6 => hq Z' b1 ?_
  by_cases hn : n' = 0
  · rw [if_pos hn] at b6
    have hz : lbU Z' r n' = 0 := b3.zero.mpr hn
    rw [← b5, hz, Int.mul_zero]
    exact lbIs.of b3 (by omega) ⟨fun _ => hn, fun _ => b6⟩ (by rw [hz, Int.mul_zero])
  · rw [if_neg hn] at b6
    refine lbIs.of b3 (by rw [b6]; exact hs) ⟨fun g => absurd (b3.zero.mp (by rw [b5]; exact h0 (by rw [← b6]; exact g))) hn, fun g => absurd g hn⟩ (by rw [b6, b5])
/-- a copy with another sign -/
theorem fm_copyS {s va : Int} {q : mjZ → Prop} (hr : r < 128) (ha : a < 128) (h : lbT Z a n) (hs : s = -1 ∨ s = 0 ∨ s = 1) (h0 : s = 0 ↔ n = 0) (hv : va = s * lbU Z a n) (hq : ∀ Z', stF Z Z' r → lbIs Z' r va → q Z') : mjW0 (d + 1) 222 [yR 11 464, yI (r : Int), yI (a : Int)] Z (fun Z1 => 0 ≤ (r : Int) ∧ ((r : Int) < 128 ∧ q (mjUp Z1 476 r s))) := by
  refine fm_copyW hr ha h.1 fun Z' b1 b2 b3 b4 => ⟨by omega, by omega, hq _ (b1.tr stF_up6) ?_⟩
  have e4 : ∀ k, lbF (mjUp Z' 476 r s) r k = lbF Z' r k := fun k => by unfold lbF; rw [mjUp_nc (by decide)]
  refine lbIs.of (n := n) ⟨⟨b2.1, by rw [mjUp_nc (by decide)]; exact b2.2.1, fun k k1 k2 => by rw [e4]; exact b2.2.2 k k1 k2⟩, fun g => by rw [e4, b3 _ (by omega)]; exact h.2 g⟩ (by rw [mjUp_at]; exact hs) (by rw [mjUp_at]; exact h0) ?_
  rw [mjUp_at, hv]
  congr 1
  exact (bgS_eq fun k hk => by rw [e4, b3 k hk]).symm
theorem fm_add {va vb t : Int} {q : mjZ → Prop} (hr : r < 128) (ha : a < 128) (hb : b < 128) (A : lbIs Z a va) (B : lbIs Z b vb) (hA : bgA va < bgP 23) (hB : bgA vb < bgP 23) (ht : t = 1 ∨ t = -1) (hq : ∀ Z', stF Z Z' r → lbIs Z' r (va + t * vb) → q Z') : mjW0 (d + 3) 221 [yR 11 464, yI (r : Int), yI (a : Int), yI (b : Int), yI t] Z q := by
  obtain ⟨n, a1, a2, a3, a4, a5⟩ := A.n
  obtain ⟨m, b1, b2, b3, b4, b5⟩ := B.n
  have hn : n ≤ 23 := a1.len (by rw [← a5]; exact hA)
  have hm : m ≤ 23 := b1.len (by rw [← b5]; exact hB)
  have ua := a1.1.b
  have ub := b1.1.b
  have hsb : Z 476 b * t = -1 ∨ Z 476 b * t = 0 ∨ Z 476 b * t = 1 := by
    rcases ht with g | g <;> rw [g] <;> omega
  have hsb0 : Z 476 b * t = 0 ↔ m = 0 := by
    rw [← b3]
    rcases ht with g | g <;> rw [g] <;> omega
  have hvb : t * vb = (Z 476 b * t) * lbU Z b m := by rw [b4]; grind
  have fin : ∀ (Z1 : mjZ) (N : Nat) (s v : Int), stF Z Z1 r → lbW Z1 r N → (s = 1 ∨ s = -1) → v = s * lbU Z1 r N → v = va + t * vb → mjW0 (d + 2) 220 [yR 11 464, yI (r : Int)] (mjUp Z1 476 r s) (fun Z' => q Z') := fun Z1 N s v k1 k2 k3 k4 k5 => by
    have e4 : ∀ k, lbF (mjUp Z1 476 r s) r k = lbF Z1 r k := fun k => by unfold lbF; rw [mjUp_nc (by decide)]
    have eU : lbU (mjUp Z1 476 r s) r N = lbU Z1 r N := bgS_eq fun k _ => e4 k
    refine fm_finish (d := d + 1) (n := N) hr ⟨k2.1, by rw [mjUp_nc (by decide)]; exact k2.2.1, fun k g1 g2 => by rw [e4]; exact k2.2.2 k g1 g2⟩ (by rw [mjUp_at]; omega) (fun g => by rw [mjUp_at] at g; omega) fun Z' g1 g2 => hq Z' ((k1.tr stF_up6).tr g1) ?_
    rw [mjUp_at, eU, ← k4, k5] at g2
    exact g2
  refine mje_221 (d := d + 2) ⟨by omega, by omega, by omega, by omega, by omega, fun g => ⟨fun g2 => absurd g g2, fun _ => ⟨fun g2 => absurd g g2, fun _ => ?_⟩⟩, fun g => ⟨by omega, fun g2 => ⟨fun g3 => ?_, fun g3 => ?_⟩, fun g2 => ⟨fun _ => ⟨fun _ => ?_, fun g3 => absurd g g3⟩, fun g3 => absurd g g3⟩⟩⟩
  · have v0 : va = 0 := by rw [a4, g, Int.zero_mul]
    refine fm_copyS (d := d + 1) hr hb b1 hsb hsb0 ?_ hq
    rw [v0, Int.zero_add, hvb]
  · refine fm_against (d := d + 1) ha hb a1 b1 (fun e => ⟨by omega, fun _ => ?_, fun k => absurd k (by decide)⟩) (fun e => ⟨by omega, fun _ => ?_, fun k => absurd k (by decide)⟩) (fun e => ⟨by omega, fun k => absurd k (by decide), fun _ => ?_⟩)
    · refine fm_join (d := d) hr ha hb a1.1 b1.1 (by omega) (Or.inr rfl) (fun _ => by omega) fun Z1 N k1 k2 k3 k4 => ⟨fun _ => ⟨by omega, by omega, fin Z1 N _ _ k1 k2 (by omega) rfl ?_⟩, fun k => absurd (by decide) k⟩
      rw [k3, hvb, a4, show Z 476 b * t = -(Z 476 a) by omega]
      grind
    · refine fm_join (d := d) hr ha hb a1.1 b1.1 (by omega) (Or.inr rfl) (fun _ => by omega) fun Z1 N k1 k2 k3 k4 => ⟨fun _ => ⟨by omega, by omega, fin Z1 N _ _ k1 k2 (by omega) rfl ?_⟩, fun k => absurd (by decide) k⟩
      rw [k3, hvb, a4, show Z 476 b * t = -(Z 476 a) by omega]
      grind
    · refine fm_join (d := d) hr hb ha b1.1 a1.1 (by omega) (Or.inr rfl) (fun _ => by omega) fun Z1 N k1 k2 k3 k4 => ⟨fun k => absurd k (by decide), fun _ => ⟨by omega, by omega, fin Z1 N _ _ k1 k2 (by omega) rfl ?_⟩⟩
      rw [k3, hvb, a4, show Z 476 b * t = -(Z 476 a) by omega]
      grind
  · have e : Z 476 a = Z 476 b * t := Decidable.not_not.mp g3
    refine fm_join (d := d) hr ha hb a1.1 b1.1 (by omega) (Or.inl rfl) (fun k => absurd k (by decide)) fun Z1 N k1 k2 k3 k4 => ⟨by omega, by omega, fin Z1 N _ _ k1 k2 (by omega) rfl ?_⟩
    rw [k3, hvb, ← e, a4]
    grind
  · have e0 : Z 476 b * t = 0 := Decidable.not_not.mp g2
    refine fm_copyS (d := d + 1) hr ha a1 a2 a3 ?_ hq
    rw [hvb, e0, Int.zero_mul, Int.add_zero, a4]
/-- a product of sizes, in the row of products -/
theorem fm_mulP {q : mjZ → Prop} (ha : a < 128) (hb : b < 128) (h1 : lbW Z a n) (h2 : lbW Z b m) (hN : n + m ≤ 24) (hq : ∀ Z', (∀ c, c ≠ 477 → Z' c = Z c) → bgD (Z' 477) 0 (n + m) → bgS (Z' 477) 0 (n + m) = lbU Z a n * lbU Z b m → mjL_219_184 d r a b ((n + m : Nat) : Int) 0 (mjUp Z' 476 r ((Z' 476 a) * (Z' 476 b))) q) (hr : r < 128) : mjW0 (d + 1) 219 [yR 11 464, yI (r : Int), yI (a : Int), yI (b : Int)] Z q := by
  have a5 := h1.2.1
  have b5 := h2.2.1
  refine mje_219 ⟨by omega, by omega, by omega, by omega, ?_⟩
  rw [a5, b5, show (n : Int) + (m : Int) = ((n + m : Nat) : Int) by omega]
  refine lp_inv (n := n + m) (a := Z) (L := fun i Z => mjL_219_18 d r a b ((n + m : Nat) : Int) i Z q) (Y := fun i Zi => (∀ c, c ≠ 477 → Zi c = Z c) ∧ ∀ k, k < i → Zi 477 k = 0) (fun i Zi hi hy hL => ?_) (fun Zi hy => ?_) ⟨fun c _ => rfl, fun k hk => by omega⟩
  · refine mjl_219_18 ⟨by omega, by omega, fun g => by omega, fun _ => ⟨by omega, by omega, hL _ ⟨fun c hc => by rw [mjUp_nc hc]; exact hy.1 c hc, fun k hk => ?_⟩⟩⟩
    by_cases g : k = i
    · subst g; exact mjUp_at
    · rw [mjUp_ne fun _ => g]; exact hy.2 k (by omega)
  · refine mjl_219_18 ⟨by omega, by omega, fun _ => ?_, fun g => by omega⟩
    refine lp_inv (n := n) (a := Zi) (L := fun i Z => mjL_219_42 d r a b ((n + m : Nat) : Int) i Z q) (Y := fun i Zo => (∀ c, c ≠ 477 → Zo c = Z c) ∧ bgD (Zo 477) 0 (i + m) ∧ bgS (Zo 477) 0 (i + m) = bgS (lbF Z a) 0 i * lbU Z b m) (fun i Zo hi hy2 hL => ?_) (fun Zo hy2 => ?_) ⟨hy.1, fun k k1 k2 => by rw [hy.2 k (by omega)]; omega, ?_⟩
    · obtain ⟨y1, y2, y3⟩ := hy2
      have da := h1.2.2 i (by omega) (by omega)
      refine mjl_219_42 ?_
      rw [y1 475 (by decide), a5]
      refine ⟨by omega, by omega, by omega, by omega, fun g => by omega, fun _ => ?_⟩
      refine lp_inv (α := mjZ × Int) (n := m) (a := (Zo, 0)) (L := fun j p => mjL_219_59 d r a b ((n + m : Nat) : Int) i p.2 j p.1 q) (Y := fun j p => (∀ c, c ≠ 477 → p.1 c = Z c) ∧ (∀ k, k < i → p.1 477 k = Zo 477 k) ∧ (∀ k, i + j ≤ k → p.1 477 k = Zo 477 k) ∧ bgD (p.1 477) i j ∧ (0 ≤ p.2 ∧ p.2 < 1073741824) ∧ bgS (p.1 477) i j + bgP j * p.2 = bgS (Zo 477) i j + lbF Z a i * bgS (lbF Z b) 0 j) (fun j p hj hy3 hL2 => ?_) (fun p hy3 => ?_) ⟨y1, fun k _ => rfl, fun k _ => rfl, fun k k1 k2 => by omega, ⟨Int.le_refl 0, show (0 : Int) < 1073741824 by decide⟩, by show (0 : Int) + 1 * 0 = 0 + lbF Z a i * 0; omega⟩
      · obtain ⟨Zj, x⟩ := p
        obtain ⟨z1, z2, z3, z4, z5, z6⟩ := hy3
        dsimp only at z1 z2 z3 z4 z5 z6 ⊢
        have db := h2.2.2 j (by omega) (by omega)
        have dp := y2 (i + j) (by omega) (by omega)
        have dm := dgMul da db
        have eZ := z3 (i + j) (Nat.le_refl _)
        have e4a : Zj 474 (24 * a + i) = lbF Z a i := by rw [z1 474 (by decide)]; rfl
        have e4b : Zj 474 (24 * b + j) = lbF Z b j := by rw [z1 474 (by decide)]; rfl
        refine mjl_219_59 ?_
        rw [z1 475 (by decide), b5, show ((i : Int) + (j : Int)).toNat = i + j by omega, show ((24 * (a : Int)) + (i : Int)).toNat = 24 * a + i by omega, show ((24 * (b : Int)) + (j : Int)).toNat = 24 * b + j by omega, e4a, e4b, eZ, wAndJ]
        have eS : mjShrJ (x + (Zo 477 (i + j) + lbF Z a i * lbF Z b j)) 30 = (x + (Zo 477 (i + j) + lbF Z a i * lbF Z b j)) / 1073741824 := wShrJ (i := 30) (by omega) (by omega) (by decide)
        rw [eS]
        refine ⟨by omega, by omega, by omega, by omega, fun g => by omega, fun _ => ⟨by omega, by omega, by omega, by omega, by omega, by omega, hL2 (mjUp Zj 477 (i + j) ((x + (Zo 477 (i + j) + lbF Z a i * lbF Z b j)) % 1073741824), (x + (Zo 477 (i + j) + lbF Z a i * lbF Z b j)) / 1073741824) ⟨fun c hc => ?_, fun k hk => ?_, fun k hk => ?_, fun k k1 k2 => ?_, ⟨?_, ?_⟩, ?_⟩⟩⟩
        · show mjUp Zj 477 (i + j) _ c = _
          rw [mjUp_nc hc]; exact z1 c hc
        · show mjUp Zj 477 (i + j) _ 477 k = _
          rw [mjUp_ne fun _ => by omega]; exact z2 k hk
        · show mjUp Zj 477 (i + j) _ 477 k = _
          rw [mjUp_ne fun _ => by omega]; exact z3 k (by omega)
        · show 0 ≤ mjUp Zj 477 (i + j) _ 477 k ∧ mjUp Zj 477 (i + j) _ 477 k < _
          by_cases g : k = i + j
          · subst g
            rw [mjUp_at]; omega
          · rw [mjUp_ne fun _ => g]; exact z4 k k1 (by omega)
        · dsimp only; omega
        · dsimp only; omega
        · dsimp only
          have e1 : bgS (mjUp Zj 477 (i + j) ((x + (Zo 477 (i + j) + lbF Z a i * lbF Z b j)) % 1073741824) 477) i j = bgS (Zj 477) i j := bgS_congr j i fun k k1 k2 => mjUp_ne fun _ => by omega
          rw [bgS_snoc, bgS_snoc, bgS_snoc, e1, mjUp_at, Nat.zero_add]
          have e3 : bgP (j + 1) = 1073741824 * bgP j := rfl
          rw [e3]
          have e4 := Int.emod_add_mul_ediv (x + (Zo 477 (i + j) + lbF Z a i * lbF Z b j)) 1073741824
          generalize (x + (Zo 477 (i + j) + lbF Z a i * lbF Z b j)) % 1073741824 = u at e4 ⊢
          generalize (x + (Zo 477 (i + j) + lbF Z a i * lbF Z b j)) / 1073741824 = c at e4 ⊢
          grind
      · obtain ⟨Zj, x⟩ := p
        obtain ⟨z1, z2, z3, z4, z5, z6⟩ := hy3
        dsimp only at z1 z2 z3 z4 z5 z6 ⊢
        refine mjl_219_59 ?_
        rw [z1 475 (by decide), b5, show ((i : Int) + (m : Int)).toNat = i + m by omega]
        refine ⟨by omega, by omega, by omega, by omega, fun _ => ⟨by omega, by omega, hL _ ⟨fun c hc => by rw [mjUp_nc hc]; exact z1 c hc, fun k k1 k2 => ?_, ?_⟩⟩, fun g => by omega⟩
        · by_cases g : k = i + m
          · subst g
            rw [mjUp_at]; exact z5
          · rw [mjUp_ne fun _ => g]
            by_cases g2 : k < i
            · rw [z2 k g2]; exact y2 k k1 (by omega)
            · exact z4 k (by omega) (by omega)
        · rw [show i + 1 + m = i + (m + 1) by omega, bgS_app i (m + 1) 0, bgS_snoc, bgS_snoc, Nat.zero_add, mjUp_at]
          have e1 : bgS (mjUp Zj 477 (i + m) x 477) 0 i = bgS (Zo 477) 0 i := bgS_congr i 0 fun k k1 k2 => by rw [mjUp_ne fun _ => by omega]; exact z2 k (by omega)
          have e2 : bgS (mjUp Zj 477 (i + m) x 477) i m = bgS (Zj 477) i m := bgS_congr m i fun k k1 k2 => mjUp_ne fun _ => by omega
          have e3 := bgS_app (f := Zo 477) i m 0
          rw [Nat.zero_add] at e3
          rw [e1, e2]
          unfold lbU at y3 ⊢
          rw [e3] at y3
          grind
    · obtain ⟨y1, y2, y3⟩ := hy2
      refine mjl_219_42 ?_
      rw [y1 475 (by decide), a5]
      exact ⟨by omega, by omega, by omega, by omega, fun _ => ⟨by omega, by omega, by omega, by omega, hq Zo y1 y2 y3⟩, fun g => by omega⟩
    · rw [Nat.zero_add, bgS_zero (f := Zi 477) m 0 fun k k1 k2 => hy.2 k (by omega)]
      show (0 : Int) = 0 * _
      rw [Int.zero_mul]
theorem fm_mul {va vb : Int} {u w : Nat} {q : mjZ → Prop} (hr : r < 128) (ha : a < 128) (hb : b < 128) (A : lbIs Z a va) (B : lbIs Z b vb) (hA : bgA va < bgP u) (hB : bgA vb < bgP w) (hu : u + w ≤ 24) (hq : ∀ Z', stG (fun k => k = r) Z Z' → lbIs Z' r (va * vb) → q Z') : mjW0 (d + 2) 219 [yR 11 464, yI (r : Int), yI (a : Int), yI (b : Int)] Z q := by
  obtain ⟨n, a1, a2, a3, a4, a5⟩ := A.n
  obtain ⟨m, b1, b2, b3, b4, b5⟩ := B.n
  have hn : n ≤ u := a1.len (by rw [← a5]; exact hA)
  have hm : m ≤ w := b1.len (by rw [← b5]; exact hB)
  have hs : Z 476 a * Z 476 b = -1 ∨ Z 476 a * Z 476 b = 0 ∨ Z 476 a * Z 476 b = 1 := by
    rcases a2 with g | g | g <;> rw [g] <;> omega
  have hs0 : Z 476 a * Z 476 b = 0 → lbU Z a n * lbU Z b m = 0 := fun g => by
    rcases a2 with k | k | k
    · rw [k] at g
      have : m = 0 := b3.mp (by omega)
      rw [b1.zero.mpr this, Int.mul_zero]
    · rw [a1.zero.mpr (a3.mp k), Int.zero_mul]
    · rw [k] at g
      have : m = 0 := b3.mp (by omega)
      rw [b1.zero.mpr this, Int.mul_zero]
  refine fm_mulP (d := d + 1) ha hb a1.1 b1.1 (by omega) (fun Z1 y1 y2 y3 => ?_) hr
  rw [y1 476 (by decide)]
  have f1 : ∀ c, c ≠ 476 → c ≠ 477 → mjUp Z1 476 r (Z 476 a * Z 476 b) c = Z c := fun c c1 c2 => by rw [mjUp_nc c1, y1 c c2]
  have f7 : mjUp Z1 476 r (Z 476 a * Z 476 b) 477 = Z1 477 := mjUp_nc (by decide)
  have f6 : ∀ k, k ≠ r → mjUp Z1 476 r (Z 476 a * Z 476 b) 476 k = Z 476 k := fun k hk => by rw [mjUp_ne fun _ => hk, y1 476 (by decide)]
  have f66 : mjUp Z1 476 r (Z 476 a * Z 476 b) 476 r = Z 476 a * Z 476 b := mjUp_at
  revert f1 f7 f6 f66
  generalize mjUp Z1 476 r (Z 476 a * Z 476 b) = Z2
  intro f1 f7 f6 f66
  refine lp_inv (n := n + m) (a := Z2) (L := fun i Z => mjL_219_184 (d + 1) r a b ((n + m : Nat) : Int) i Z q) (Y := fun i Zi => stF Z2 Zi r ∧ (∀ k, k < i → lbF Zi r k = Z1 477 k) ∧ Zi 476 = Z2 476) (fun i Zi hi hy hL => ?_) (fun Zi hy => ?_) ⟨stF.refl, fun k hk => by omega, rfl⟩
  · have e7 : Zi 477 = Z1 477 := by rw [hy.1.1 477 (by decide) (by decide) (by decide), f7]
    refine mjl_219_184 ?_
    rw [e7, show ((24 * (r : Int)) + (i : Int)).toNat = 24 * r + i by omega]
    refine ⟨by omega, by omega, fun g => by omega, fun _ => ⟨by omega, by omega, by omega, by omega, hL _ ⟨hy.1.tr (stF_up4 (by omega)), fun k hk => ?_, ?_⟩⟩⟩
    · show (if 474 = 474 ∧ 24 * r + k = 24 * r + i then Z1 477 i else Zi 474 (24 * r + k)) = _
      by_cases g : k = i
      · subst g; rw [if_pos ⟨rfl, rfl⟩]
      · rw [if_neg (by omega)]; exact hy.2.1 k (by omega)
    · rw [mjUp_nc (by decide)]; exact hy.2.2
  · obtain ⟨z1, z2, z3⟩ := hy
    have e4 : ∀ k, lbF (mjUp Zi 475 r ((n + m : Nat) : Int)) r k = lbF Zi r k := fun k => by unfold lbF; rw [mjUp_nc (by decide)]
    have eU : lbU (mjUp Zi 475 r ((n + m : Nat) : Int)) r (n + m) = lbU Z a n * lbU Z b m := by
      rw [← y3]
      exact bgS_eq fun k hk => by rw [e4, z2 k hk]
    have e6 : mjUp Zi 475 r ((n + m : Nat) : Int) 476 r = Z 476 a * Z 476 b := by rw [mjUp_nc (by decide), z3, f66]
    refine mjl_219_184 ⟨by omega, by omega, fun _ => ⟨by omega, by omega, ?_⟩, fun g => by omega⟩
    refine fm_finish (d := d) (n := n + m) hr ⟨by omega, by rw [mjUp_at], fun k k1 k2 => ?_⟩ (by rw [e6]; exact hs) (fun g => by rw [eU]; exact hs0 (by rw [← e6]; exact g)) fun Z' g1 g2 => hq Z' ?_ ?_
    · rw [e4, z2 k (by omega)]
      exact y2 k k1 k2
    · have hF := (z1.tr stF_up5).tr g1
      refine ⟨fun c c1 c2 c3 c4 => by rw [hF.1 c c1 c2 c3, f1 c c3 c4], fun k hk => ⟨?_, ?_, fun j hj => ?_⟩⟩
      · rw [(hF.2.1 k hk).1, f1 475 (by decide) (by decide)]
      · rw [(hF.2.1 k hk).2, f6 k hk]
      · rw [hF.2.2 _ (by omega), f1 474 (by decide) (by decide)]
    · rw [e6, eU] at g2
      have e : va * vb = Z 476 a * Z 476 b * (lbU Z a n * lbU Z b m) := by rw [a4, b4]; grind
      rw [e]
      exact g2
end AR
