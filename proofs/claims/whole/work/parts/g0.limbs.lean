/-! The reference's registers of limbs: copy, trim, against, join. -/
/-- register r has n limbs, not all of them needed -/
def lbW (Z : mjZ) (r n : Nat) : Prop := n ≤ 24 ∧ Z 475 r = (n : Int) ∧ bgD (lbF Z r) 0 n
def lbT (Z : mjZ) (r n : Nat) : Prop := lbW Z r n ∧ (0 < n → lbF Z r (n - 1) ≠ 0)
def lbU (Z : mjZ) (r n : Nat) : Int := bgS (lbF Z r) 0 n
theorem stF.refl {Z : mjZ} {r : Nat} : stF Z Z r := ⟨fun _ _ _ _ => rfl, fun _ _ => ⟨rfl, rfl⟩, fun _ _ => rfl⟩
theorem stF.oF {Z Z' : mjZ} {r a : Nat} (h : stF Z Z' r) (ha : a ≠ r) : ∀ k, k < 24 → lbF Z' a k = lbF Z a k := fun k hk => h.2.2 _ (by omega)
theorem stF.o5 {Z Z' : mjZ} {r a : Nat} (h : stF Z Z' r) (ha : a ≠ r) : Z' 475 a = Z 475 a ∧ Z' 476 a = Z 476 a := h.2.1 a ha
theorem lbT.top {Z : mjZ} {r n : Nat} (h : lbT Z r n) (hn : 0 < n) : bgP (n - 1) ≤ lbU Z r n := by
  obtain ⟨m, rfl⟩ : ∃ m, n = m + 1 := ⟨n - 1, by omega⟩
  have h0 := h.2 hn
  rw [Nat.add_sub_cancel] at h0 ⊢
  exact bgS_top h.1.2.2 (by rw [Nat.zero_add]; exact h0)
theorem lbW.b {Z : mjZ} {r n : Nat} (h : lbW Z r n) : 0 ≤ lbU Z r n ∧ lbU Z r n < bgP n := bgS_b n 0 h.2.2
theorem lbT.len {Z : mjZ} {r n m : Nat} (h : lbT Z r n) (hm : lbU Z r n < bgP m) : n ≤ m := by
  rcases Nat.eq_zero_or_pos n with g | g
  · omega
  · have h1 := h.top g
    rcases Nat.lt_or_ge m n with k | k
    · have := bgP_mono (show m ≤ n - 1 by omega)
      omega
    · exact k
theorem lbT.zero {Z : mjZ} {r n : Nat} (h : lbT Z r n) : lbU Z r n = 0 ↔ n = 0 := by
  constructor
  · intro g
    have := h.len (m := 0) (by rw [g]; decide)
    omega
  · intro g
    subst g
    rfl
theorem lbIs.n {Z : mjZ} {r : Nat} {v : Int} (h : lbIs Z r v) : ∃ n, lbT Z r n ∧ (Z 476 r = -1 ∨ Z 476 r = 0 ∨ Z 476 r = 1) ∧ (Z 476 r = 0 ↔ n = 0) ∧ v = Z 476 r * lbU Z r n ∧ bgA v = lbU Z r n := by
  obtain ⟨n, h1, h2, h3, h4, h5, h6, h7⟩ := h
  have hT : lbT Z r n := ⟨⟨h1, h2, h3⟩, h4⟩
  refine ⟨n, hT, h5, h6, h7, ?_⟩
  have hb := hT.1.b
  have hz := hT.zero
  have h7' : v = Z 476 r * lbU Z r n := h7
  rw [h7']
  unfold bgA
  rcases h5 with g | g | g <;> rw [g]
  · split <;> omega
  · have : lbU Z r n = 0 := hz.mpr (h6.mp g)
    rw [this]; decide
  · split <;> omega
theorem lbIs.of {Z : mjZ} {r n : Nat} {v : Int} (h : lbT Z r n) (h5 : Z 476 r = -1 ∨ Z 476 r = 0 ∨ Z 476 r = 1) (h6 : Z 476 r = 0 ↔ n = 0) (h7 : v = Z 476 r * lbU Z r n) : lbIs Z r v := ⟨n, h.1.1, h.1.2.1, h.1.2.2, h.2, h5, h6, h7⟩
theorem lbIs.stF {Z Z' : mjZ} {r a : Nat} {v : Int} (h : lbIs Z a v) (hs : stF Z Z' r) (ha : a ≠ r) : lbIs Z' a v := h.fr (fun k hk => hs.2.2 _ (by omega)) (hs.2.1 a ha).1 (hs.2.1 a ha).2
section LB
variable {d r a b n m : Nat} {Z : mjZ}
theorem fm_limbOf {k : Nat} {q : Int → mjZ → Prop} (ha : a < 128) (h : lbW Z a n) (hk : k < 100) (hq : q (if k < n then lbF Z a k else 0) Z) : mjW2 (d + 1) 224 [yR 11 464, yI (a : Int), yI (k : Int)] Z q := by
  obtain ⟨h1, h2, h3⟩ := h
  refine mje_224 ?_
  rw [h2]
  refine ⟨by omega, by omega, by omega, by omega, fun g => ?_, fun g => ⟨by omega, by omega, ?_⟩⟩
  · rw [if_neg (by omega)] at hq; exact hq
  · rw [if_pos (by omega)] at hq
    rw [show ((24 * (a : Int)) + (k : Int)).toNat = 24 * a + k by omega]
    exact hq
theorem fm_trimL {q : mjZ → Prop} (hr : r < 128) : ∀ (n : Nat) (Z : mjZ), lbW Z r n → (∀ Z' n', stF Z Z' r → n' ≤ n → lbT Z' r n' → (∀ k, lbF Z' r k = lbF Z r k) → lbU Z' r n' = lbU Z r n → Z' 476 r = (if n' = 0 then 0 else Z 476 r) → q Z') → mjL_220_0 d r Z q
  | 0, Z, h, hq => mjl_220_0 (by
      obtain ⟨h1, h2, h3⟩ := h
      rw [h2]
      refine ⟨by omega, by omega, by omega, fun _ => ⟨fun g => absurd rfl g, fun _ => ?_⟩, fun g => by omega⟩
      exact hq _ 0 stF_up6 (Nat.le_refl _) ⟨⟨by decide, by rw [mjUp_nc (by decide)]; exact h2, fun k h1 h2 => by omega⟩, fun g => by omega⟩ (fun k => by unfold lbF; rw [mjUp_nc (by decide)]) rfl (by rw [mjUp_at, if_pos rfl]))
  | n + 1, Z, h, hq => mjl_220_0 (by
      obtain ⟨h1, h2, h3⟩ := h
      have hd := h3 n (by omega) (by omega)
      have ei : ((24 * (r : Int)) + ((n + 1 : Nat) : Int) - 1).toNat = 24 * r + n := by omega
      have eF : Z 474 (24 * r + n) = lbF Z r n := rfl
      rw [h2, ei, eF]
      refine ⟨by omega, by omega, by omega, fun g => by omega, fun _ => ⟨by omega, by omega, by omega, fun g => ⟨fun _ => ?_, fun g2 => absurd (by omega) g2⟩, fun g => ?_⟩⟩
      · have e4 : ∀ k, lbF (mjUp Z 476 r (Z 476 r)) r k = lbF Z r k := fun k => by unfold lbF; rw [mjUp_nc (by decide)]
        refine hq _ (n + 1) stF_up6 (Nat.le_refl _) ⟨⟨h1, by rw [mjUp_nc (by decide)]; exact h2, fun k g1 g2 => by rw [e4]; exact h3 k g1 g2⟩, fun _ => by rw [e4, Nat.add_sub_cancel]; exact g⟩ e4 (bgS_eq fun k _ => e4 k) (by rw [mjUp_at, if_neg (by omega)])
      · have g0 : lbF Z r n = 0 := Decidable.not_not.mp g
        have e4 : ∀ k, lbF (mjUp Z 475 r (((n + 1 : Nat) : Int) - 1)) r k = lbF Z r k := fun k => by unfold lbF; rw [mjUp_nc (by decide)]
        have e6 : mjUp Z 475 r (((n + 1 : Nat) : Int) - 1) 476 r = Z 476 r := by rw [mjUp_nc (by decide)]
        refine fm_trimL hr n _ ⟨by omega, by rw [mjUp_at]; omega, fun k g1 g2 => by rw [e4]; exact h3 k g1 (by omega)⟩ fun Z' n' b1 b2 b3 b4 b5 b6 => hq Z' n' (stF_up5.tr b1) (by omega) b3 (fun k => by rw [b4, e4]) ?_ (by rw [b6, e6])
        rw [b5]
        unfold lbU
        rw [bgS_snoc, Nat.zero_add, g0, Int.mul_zero, Int.add_zero]
        exact bgS_eq fun k _ => e4 k)
theorem fm_trim {q : mjZ → Prop} (hr : r < 128) (h : lbW Z r n) (hq : ∀ Z' n', stF Z Z' r → n' ≤ n → lbT Z' r n' → (∀ k, lbF Z' r k = lbF Z r k) → lbU Z' r n' = lbU Z r n → Z' 476 r = (if n' = 0 then 0 else Z 476 r) → q Z') : mjW0 (d + 1) 220 [yR 11 464, yI (r : Int)] Z q := by
  refine mje_220 ?_
  obtain ⟨h1, h2, h3⟩ := h
  rw [h2]
  refine ⟨by omega, by omega, by omega, fun g => ⟨fun g2 => by omega, fun g2 => ?_⟩, fun g => ?_⟩
  · have : n = 0 := by omega
    subst this
    exact hq _ 0 stF_up6 (Nat.le_refl _) ⟨⟨by decide, by rw [mjUp_nc (by decide)]; exact h2, fun k h1 h2 => by omega⟩, fun g => by omega⟩ (fun k => by unfold lbF; rw [mjUp_nc (by decide)]) rfl (by rw [mjUp_at, if_pos rfl])
  · obtain ⟨m, rfl⟩ : ∃ m, n = m + 1 := ⟨n - 1, by omega⟩
    have hd := h3 m (by omega) (by omega)
    have ei : ((24 * (r : Int)) + ((m + 1 : Nat) : Int) - 1).toNat = 24 * r + m := by omega
    have eF : Z 474 (24 * r + m) = lbF Z r m := rfl
    rw [ei, eF]
    refine ⟨by omega, by omega, by omega, fun g => ⟨fun _ => ?_, fun g2 => absurd (by omega) g2⟩, fun g => ?_⟩
    · have e4 : ∀ k, lbF (mjUp Z 476 r (Z 476 r)) r k = lbF Z r k := fun k => by unfold lbF; rw [mjUp_nc (by decide)]
      refine hq _ (m + 1) stF_up6 (Nat.le_refl _) ⟨⟨h1, by rw [mjUp_nc (by decide)]; exact h2, fun k g1 g2 => by rw [e4]; exact h3 k g1 g2⟩, fun _ => by rw [e4, Nat.add_sub_cancel]; exact g⟩ e4 (bgS_eq fun k _ => e4 k) (by rw [mjUp_at, if_neg (by omega)])
    · have g0 : lbF Z r m = 0 := Decidable.not_not.mp g
      have e4 : ∀ k, lbF (mjUp Z 475 r (((m + 1 : Nat) : Int) - 1)) r k = lbF Z r k := fun k => by unfold lbF; rw [mjUp_nc (by decide)]
      have e6 : mjUp Z 475 r (((m + 1 : Nat) : Int) - 1) 476 r = Z 476 r := by rw [mjUp_nc (by decide)]
      refine fm_trimL hr m _ ⟨by omega, by rw [mjUp_at]; omega, fun k g1 g2 => by rw [e4]; exact h3 k g1 (by omega)⟩ fun Z' n' b1 b2 b3 b4 b5 b6 => hq Z' n' (stF_up5.tr b1) (by omega) b3 (fun k => by rw [b4, e4]) ?_ (by rw [b6, e6])
      rw [b5]
      unfold lbU
      rw [bgS_snoc, Nat.zero_add, g0, Int.mul_zero, Int.add_zero]
      exact bgS_eq fun k _ => e4 k
/-- copying: limbs, length, sign -/
theorem fm_copyW {q : mjZ → Prop} (hr : r < 128) (ha : a < 128) (h : lbW Z a n) (hq : ∀ Z', stF Z Z' r → lbW Z' r n → (∀ k, k < n → lbF Z' r k = lbF Z a k) → Z' 476 r = Z 476 a → q Z') : mjW0 (d + 1) 222 [yR 11 464, yI (r : Int), yI (a : Int)] Z q := by
  obtain ⟨h1, h2, h3⟩ := h
  refine mje_222 ?_
  refine lp_inv (n := n) (a := Z) (L := fun i Z => mjL_222_2 d r a i Z q) (Y := fun i Zi => stF Z Zi r ∧ (∀ k, k < i → lbF Zi r k = lbF Z a k) ∧ (∀ k, i ≤ k → k < 24 → lbF Zi a k = lbF Z a k) ∧ Zi 475 = Z 475 ∧ Zi 476 = Z 476) (fun i Zi hi hy hL => ?_) (fun Zi hy => ?_) ⟨stF.refl, fun k hk => by omega, fun k _ _ => rfl, rfl, rfl⟩
  · obtain ⟨y1, y2, y3, y4, y5⟩ := hy
    refine mjl_222_2 ?_
    rw [y4, h2, show ((24 * (a : Int)) + (i : Int)).toNat = 24 * a + i by omega, show ((24 * (r : Int)) + (i : Int)).toNat = 24 * r + i by omega]
    refine ⟨by omega, by omega, by omega, by omega, fun g => by omega, fun _ => ⟨by omega, by omega, by omega, by omega, hL _ ⟨y1.tr (stF_up4 (by omega)), fun k hk => ?_, fun k k1 k2 => ?_, by rw [mjUp_nc (by decide)]; exact y4, by rw [mjUp_nc (by decide)]; exact y5⟩⟩⟩
    · show (if 474 = 474 ∧ 24 * r + k = 24 * r + i then Zi 474 (24 * a + i) else Zi 474 (24 * r + k)) = _
      by_cases g : k = i
      · subst g
        rw [if_pos ⟨rfl, rfl⟩]
        exact y3 k (Nat.le_refl _) (by omega)
      · rw [if_neg (by omega)]
        exact y2 k (by omega)
    · show (if 474 = 474 ∧ 24 * a + k = 24 * r + i then Zi 474 (24 * a + i) else Zi 474 (24 * a + k)) = _
      rw [if_neg (by omega)]
      exact y3 k (by omega) k2
  · obtain ⟨y1, y2, y3, y4, y5⟩ := hy
    refine mjl_222_2 ?_
    rw [y4, h2]
    refine ⟨by omega, by omega, by omega, by omega, fun _ => ⟨by omega, by omega, ?_⟩, fun g => by omega⟩
    have e4 : ∀ k, lbF (mjUp (mjUp Zi 475 r (n : Int)) 476 r ((mjUp Zi 475 r (n : Int)) 476 a)) r k = lbF Zi r k := fun k => by unfold lbF; rw [mjUp_nc (by decide), mjUp_nc (by decide)]
    refine hq _ (y1.tr (stF_up5.tr stF_up6)) ⟨h1, by rw [mjUp_nc (by decide), mjUp_at], fun k g1 g2 => ?_⟩ (fun k hk => by rw [e4]; exact y2 k hk) (by rw [mjUp_at, mjUp_nc (by decide), y5])
    rw [e4, y2 k (by omega)]
    exact h3 k g1 g2
theorem fm_copy {v : Int} {q : mjZ → Prop} (hr : r < 128) (ha : a < 128) (h : lbIs Z a v) (hq : ∀ Z', stF Z Z' r → lbIs Z' r v → q Z') : mjW0 (d + 1) 222 [yR 11 464, yI (r : Int), yI (a : Int)] Z q := by
  obtain ⟨n, h1, h2, h3, h4, h5⟩ := h.n
  refine fm_copyW hr ha h1.1 fun Z' b1 b2 b3 b4 => hq Z' b1 (lbIs.of ⟨b2, fun g => by rw [b3 _ (by omega)]; exact h1.2 g⟩ (by rw [b4]; exact h2) (by rw [b4]; exact h3) ?_)
  rw [b4, h4]
  congr 1
  exact (bgS_eq fun k hk => b3 k hk).symm
/-- one size against another -/
theorem fm_againstL {q : Int → mjZ → Prop} (ha : a < 128) (hb : b < 128) (h1 : lbW Z a n) (h2 : lbW Z b n) (q0 : lbU Z a n = lbU Z b n → q 0 Z) (q1 : lbU Z b n < lbU Z a n → q 1 Z) (q2 : lbU Z a n < lbU Z b n → q (-1) Z) : ∀ i : Nat, i ≤ n → (∀ k, i ≤ k → k < n → lbF Z a k = lbF Z b k) → mjL_225_45 d a b ((i : Int) - 1) Z q
  | 0, _, hk => mjl_225_45 ⟨by omega, fun _ => q0 (bgS_eq fun k k1 => hk k (by omega) k1), fun g => by omega⟩
  | i + 1, hi, hk => by
    have d1 := h1.2.2 i (by omega) (by omega)
    have d2 := h2.2.2 i (by omega) (by omega)
    have hn := h1.1
    refine mjl_225_45 ?_
    rw [show ((24 * (a : Int)) + (((i + 1 : Nat) : Int) - 1)).toNat = 24 * a + i by omega, show ((24 * (b : Int)) + (((i + 1 : Nat) : Int) - 1)).toNat = 24 * b + i by omega, show Z 474 (24 * a + i) = lbF Z a i from rfl, show Z 474 (24 * b + i) = lbF Z b i from rfl]
    refine ⟨by omega, fun g => by omega, fun _ => ⟨by omega, by omega, by omega, by omega, by omega, fun g => ?_, fun g => ⟨fun g2 => q1 ?_, fun g2 => q2 ?_⟩⟩⟩
    · rw [show ((i + 1 : Nat) : Int) - 1 + -1 = (i : Int) - 1 by omega]
      refine fm_againstL ha hb h1 h2 q0 q1 q2 i (by omega) fun k k1 k2 => ?_
      rcases Nat.eq_or_lt_of_le k1 with k3 | k3
      · subst k3; omega
      · exact hk k (by omega) k2
    · exact bgS_gt (i := i) h1.2.2 h2.2.2 (by omega) (fun k k1 k2 => hk k (by omega) k2) (by omega)
    · exact bgS_gt (i := i) h2.2.2 h1.2.2 (by omega) (fun k k1 k2 => (hk k (by omega) k2).symm) (by omega)
theorem fm_against {q : Int → mjZ → Prop} (ha : a < 128) (hb : b < 128) (h1 : lbT Z a n) (h2 : lbT Z b m) (q0 : lbU Z a n = lbU Z b m → q 0 Z) (q1 : lbU Z b m < lbU Z a n → q 1 Z) (q2 : lbU Z a n < lbU Z b m → q (-1) Z) : mjW1 (d + 1) 225 [yR 11 464, yI (a : Int), yI (b : Int)] Z q := by
  have a5 := h1.1.2.1
  have b5 := h2.1.2.1
  have a24 := h1.1.1
  have b24 := h2.1.1
  have ab := h1.1.b
  have bb := h2.1.b
  refine mje_225 ?_
  rw [a5, b5]
  refine ⟨by omega, by omega, by omega, by omega, by omega, by omega, fun g => ?_, fun g => ⟨fun g2 => q1 ?_, fun g2 => q2 ?_⟩⟩
  · have : n = m := by omega
    subst this
    exact fm_againstL ha hb h1.1 h2.1 q0 q1 q2 n (Nat.le_refl _) fun k k1 k2 => by omega
  · have := h1.top (by omega)
    have := bgP_mono (show m ≤ n - 1 by omega)
    omega
  · have := h2.top (by omega)
    have := bgP_mono (show n ≤ m - 1 by omega)
    omega
/-- a limb, or 0 -/
def lbG (Z : mjZ) (a n k : Nat) : Int := if k < n then lbF Z a k else 0
theorem lbG_S {N : Nat} (h : n ≤ N) : bgS (lbG Z a n) 0 N = lbU Z a n := by
  obtain ⟨m, rfl⟩ := Nat.le.dest h
  rw [bgS_app, bgS_zero (f := lbG Z a n) m (0 + n) fun k k1 k2 => if_neg (by omega), Int.mul_zero, Int.add_zero]
  exact bgS_eq fun k hk => if_pos hk
theorem lbG_b {k : Nat} (h : lbW Z a n) : 0 ≤ lbG Z a n k ∧ lbG Z a n k < 1073741824 := by
  unfold lbG
  split
  · exact h.2.2 k (by omega) (by omega)
  · omega
theorem fm_join {w : Int} {q : mjZ → Prop} (hr : r < 128) (ha : a < 128) (hb : b < 128) (h1 : lbW Z a n) (h2 : lbW Z b m) (hN : n < 24 ∧ m < 24) (hw : w = 1 ∨ w = -1) (hge : w = -1 → lbU Z b m ≤ lbU Z a n) (hq : ∀ Z' N, stF Z Z' r → lbW Z' r N → lbU Z' r N = lbU Z a n + w * lbU Z b m → Z' 476 = Z 476 → q Z') : mjW0 (d + 2) 223 [yR 11 464, yI (r : Int), yI (a : Int), yI (b : Int), yI w] Z q := by
  have a5 := h1.2.1
  have b5 := h2.2.1
  have main : ∀ N : Nat, n ≤ N → m ≤ N → N < 24 → mjL_223_38 (d + 1) r a b w (N : Int) 0 0 Z q := fun N hn hm hN => by
    refine lp_inv (α := mjZ × Int) (n := N) (a := (Z, 0)) (L := fun i p => mjL_223_38 (d + 1) r a b w (N : Int) p.2 i p.1 q) (Y := fun i p => stF Z p.1 r ∧ bgD (lbF p.1 r) 0 i ∧ (∀ k, i ≤ k → k < 24 → lbF p.1 r k = lbF Z r k) ∧ p.1 475 = Z 475 ∧ p.1 476 = Z 476 ∧ (w = 1 → 0 ≤ p.2 ∧ p.2 ≤ 1) ∧ (w = -1 → -1 ≤ p.2 ∧ p.2 ≤ 0) ∧ bgS (lbF p.1 r) 0 i + bgP i * p.2 = bgS (lbG Z a n) 0 i + w * bgS (lbG Z b m) 0 i) (fun i p hi hy hL => ?_) (fun p hy => ?_) ⟨stF.refl, fun k k1 k2 => by omega, fun k _ _ => rfl, rfl, rfl, fun _ => ⟨Int.le_refl 0, show (0 : Int) ≤ 1 by decide⟩, fun _ => ⟨show (-1 : Int) ≤ 0 by decide, Int.le_refl 0⟩, by show (0 : Int) + 1 * 0 = 0 + w * 0; omega⟩
    · obtain ⟨Zi, x⟩ := p
      obtain ⟨y1, y2, y3, y4, y5, y6, y7, y8⟩ := hy
      dsimp only at y1 y2 y3 y4 y5 y6 y7 y8 ⊢
      have lim : ∀ c l, lbW Z c l → lbW Zi c l → True := fun _ _ _ _ => trivial
      have eqF : ∀ c, ∀ k, i ≤ k → k < 24 → lbF Zi c k = lbF Z c k := fun c k k1 k2 => by
        by_cases hc : c = r
        · subst hc; exact y3 k k1 k2
        · exact y1.oF hc k k2
      have rd : ∀ (c l : Nat) (Q : Int → mjZ → Prop), c < 128 → lbW Z c l → Q (lbG Z c l i) Zi → mjW2 (d + 1) 224 [yR 11 464, yI (c : Int), yI (i : Int)] Zi Q := fun c l Q hc hl hQ => by
        refine mje_224 ?_
        have e5 := hl.2.1
        have e24 := hl.1
        rw [y4, e5]
        unfold lbG at hQ
        refine ⟨by omega, by omega, by omega, by omega, fun g => ?_, fun g => ⟨by omega, by omega, ?_⟩⟩
        · rw [if_neg (by omega)] at hQ; exact hQ
        · rw [if_pos (by omega)] at hQ
          rw [show ((24 * (c : Int)) + (i : Int)).toNat = 24 * c + i by omega]
          have := eqF c i (Nat.le_refl _) (by omega)
          unfold lbF at this hQ
          rw [this]
          exact hQ
      have ga := lbG_b (k := i) h1
      have gb := lbG_b (k := i) h2
      refine mjl_223_38 ⟨by omega, by omega, fun g => by omega, fun _ => rd a n _ ha h1 ⟨by omega, rd b m _ hb h2 ?_⟩⟩
      rw [wAndJ, show ((24 * (r : Int)) + (i : Int)).toNat = 24 * r + i by omega]
      have hwv : w * lbG Z b m i = lbG Z b m i ∨ w * lbG Z b m i = -(lbG Z b m i) := by
        rcases hw with g | g <;> rw [g]
        · exact Or.inl (Int.one_mul _)
        · exact Or.inr (by omega)
      have hrng : -3 * 1073741824 ≤ x + (lbG Z a n i + w * lbG Z b m i) ∧ x + (lbG Z a n i + w * lbG Z b m i) < 3 * 1073741824 := by
        rcases hw with g | g
        · have := y6 g; omega
        · have := y7 g; omega
      have eS : mjShrJ (x + (lbG Z a n i + w * lbG Z b m i)) 30 = (x + (lbG Z a n i + w * lbG Z b m i)) / 1073741824 := wShrJ (i := 30) (by omega) (by omega) (by decide)
      rw [eS]
      have up5 : mjUp Zi 474 (24 * r + i) ((x + (lbG Z a n i + w * lbG Z b m i)) % 1073741824) 475 = Z 475 := by rw [mjUp_nc (by decide)]; exact y4
      have up6 : mjUp Zi 474 (24 * r + i) ((x + (lbG Z a n i + w * lbG Z b m i)) % 1073741824) 476 = Z 476 := by rw [mjUp_nc (by decide)]; exact y5
      refine ⟨by omega, by omega, hL (mjUp Zi 474 (24 * r + i) ((x + (lbG Z a n i + w * lbG Z b m i)) % 1073741824), (x + (lbG Z a n i + w * lbG Z b m i)) / 1073741824) ⟨y1.tr (stF_up4 (by omega)), fun k k1 k2 => ?_, fun k k1 k2 => ?_, up5, up6, fun g => ?_, fun g => ?_, ?_⟩⟩
      · show 0 ≤ (if 474 = 474 ∧ 24 * r + k = 24 * r + i then _ else Zi 474 (24 * r + k)) ∧ (if 474 = 474 ∧ 24 * r + k = 24 * r + i then _ else Zi 474 (24 * r + k)) < 1073741824
        by_cases hk : k = i
        · rw [if_pos ⟨rfl, by omega⟩]; omega
        · rw [if_neg (by omega)]
          exact y2 k k1 (by omega)
      · show (if 474 = 474 ∧ 24 * r + k = 24 * r + i then _ else Zi 474 (24 * r + k)) = _
        rw [if_neg (by omega)]
        exact y3 k (by omega) k2
      · have k1 := y6 g
        subst g
        dsimp only
        omega
      · have k1 := y7 g
        subst g
        dsimp only
        omega
      · have e1 : lbF (mjUp Zi 474 (24 * r + i) ((x + (lbG Z a n i + w * lbG Z b m i)) % 1073741824)) r i = (x + (lbG Z a n i + w * lbG Z b m i)) % 1073741824 := mjUp_at
        have e2 : bgS (lbF (mjUp Zi 474 (24 * r + i) ((x + (lbG Z a n i + w * lbG Z b m i)) % 1073741824)) r) 0 i = bgS (lbF Zi r) 0 i := bgS_eq fun k hk => by
          unfold lbF
          exact if_neg fun c => by omega
        dsimp only
        rw [bgS_snoc, bgS_snoc, bgS_snoc, Nat.zero_add, e1, e2]
        have e3 : bgP (i + 1) = 1073741824 * bgP i := rfl
        rw [e3]
        have e4 := Int.emod_add_mul_ediv (x + (lbG Z a n i + w * lbG Z b m i)) 1073741824
        generalize (x + (lbG Z a n i + w * lbG Z b m i)) % 1073741824 = u at e4 ⊢
        generalize (x + (lbG Z a n i + w * lbG Z b m i)) / 1073741824 = c at e4 ⊢
        grind
    · obtain ⟨Zi, x⟩ := p
      obtain ⟨y1, y2, y3, y4, y5, y6, y7, y8⟩ := hy
      dsimp only at y1 y2 y3 y4 y5 y6 y7 y8 ⊢
      have hb1 := bgS_b N 0 y2
      have hp := bgP_pos N
      rw [lbG_S hn, lbG_S hm] at y8
      have hx : 0 ≤ x ∧ x ≤ 1 := by
        rcases hw with g | g
        · exact y6 g
        · have k1 := y7 g
          have k2 := hge g
          have : ¬ x = -1 := fun k => by
            rw [k, g] at y8
            omega
          omega
      refine mjl_223_38 ?_
      rw [show ((24 * (r : Int)) + (N : Int)).toNat = 24 * r + N by omega]
      refine ⟨by omega, by omega, fun _ => ⟨by omega, by omega, by omega, by omega, ?_⟩, fun g => by omega⟩
      have e4 : ∀ k, lbF (mjUp (mjUp Zi 474 (24 * r + N) x) 475 r ((N : Int) + 1)) r k = if k = N then x else lbF Zi r k := fun k => by
        unfold lbF
        rw [mjUp_nc (by decide)]
        show (if 474 = 474 ∧ 24 * r + k = 24 * r + N then x else Zi 474 (24 * r + k)) = _
        by_cases hk : k = N
        · rw [if_pos ⟨rfl, by omega⟩, if_pos hk]
        · rw [if_neg (by omega), if_neg hk]
      refine hq _ (N + 1) (y1.tr ((stF_up4 (by omega)).tr stF_up5)) ⟨by omega, by rw [mjUp_at]; omega, fun k k1 k2 => ?_⟩ ?_ (by rw [mjUp_nc (by decide), mjUp_nc (by decide)]; exact y5)
      · rw [e4]
        by_cases hk : k = N
        · rw [if_pos hk]; omega
        · rw [if_neg hk]
          exact y2 k k1 (by omega)
      · unfold lbU at *
        rw [bgS_snoc, Nat.zero_add, e4, if_pos rfl, bgS_eq (g := lbF Zi r) fun k hk => by rw [e4, if_neg (by omega)]]
        exact y8
  refine mje_223 (d := d + 1) ?_
  rw [a5, b5]
  exact ⟨by omega, by omega, by omega, by omega, by omega, by omega, fun g => main m (by omega) (Nat.le_refl _) hN.2, fun g => main n (Nat.le_refl _) (by omega) hN.1⟩
end LB
