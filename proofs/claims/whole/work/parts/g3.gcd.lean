/-! The reference's numbers: the greatest that goes into both; division. -/
theorem gcd_half {x y : Nat} (hx : x % 2 = 0) (hy : y % 2 = 1) : Nat.gcd (x / 2) y = Nat.gcd x y := by
  have hc : Nat.Coprime 2 y := by
    have h1 : Nat.gcd 2 y ∣ 2 := Nat.gcd_dvd_left 2 y
    have h2 : Nat.gcd 2 y ∣ y := Nat.gcd_dvd_right 2 y
    have h3 := Nat.le_of_dvd (by decide) h1
    have h4 : Nat.gcd 2 y ≠ 2 := fun k => by rw [k] at h2; have := Nat.mod_eq_zero_of_dvd h2; omega
    have h5 : Nat.gcd 2 y ≠ 0 := fun k => by
      have := (Nat.gcd_eq_zero_iff.mp k).1
      omega
    show Nat.gcd 2 y = 1
    omega
  have := hc.gcd_mul_left_cancel (x / 2)
  rw [show 2 * (x / 2) = x by omega] at this
  exact this.symm
section GC
variable {d r a b : Nat} {Z0 : mjZ}
/-- the two registers of the greatest number hold x and y -/
def gcS (Z0 Z : mjZ) (x y : Nat) : Prop := stG (fun k => k = 92 ∨ k = 93) Z0 Z ∧ (∃ n, lbT Z 92 n ∧ lbU Z 92 n = (x : Int)) ∧ (∃ m, lbT Z 93 m ∧ lbU Z 93 m = (y : Int)) ∧ Z 476 92 = (if x = 0 then 0 else 1) ∧ Z 476 93 = (if y = 0 then 0 else 1)
theorem gcS.is {Z : mjZ} {x y : Nat} (h : gcS Z0 Z x y) : lbIs Z 92 (x : Int) ∧ lbIs Z 93 (y : Int) := by
  obtain ⟨h1, ⟨n, h2, h3⟩, ⟨m, h4, h5⟩, h6, h7⟩ := h
  have z1 := h2.zero
  have z2 := h4.zero
  refine ⟨lbIs.of h2 (by rw [h6]; split <;> omega) ?_ ?_, lbIs.of h4 (by rw [h7]; split <;> omega) ?_ ?_⟩
  · rw [h6]; split <;> constructor <;> intro k <;> omega
  · rw [h6, h3]; split <;> omega
  · rw [h7]; split <;> constructor <;> intro k <;> omega
  · rw [h7, h5]; split <;> omega
theorem lbT.stF {Z Z' : mjZ} {r a n : Nat} (h : lbT Z a n) (hs : stF Z Z' r) (ha : a ≠ r) : lbT Z' a n ∧ lbU Z' a n = lbU Z a n := by
  have e : ∀ k, k < 24 → lbF Z' a k = lbF Z a k := hs.oF ha
  have hn := h.1.1
  exact ⟨⟨⟨hn, by rw [(hs.o5 ha).1]; exact h.1.2.1, fun k k1 k2 => by rw [e k (by omega)]; exact h.1.2.2 k k1 k2⟩, fun g => by rw [e _ (by omega)]; exact h.2 g⟩, bgS_eq fun k hk => e k (by omega)⟩
theorem gcS.odd {Z : mjZ} {x y : Nat} {q : Int → mjZ → Prop} (h : gcS Z0 Z x y) (hq : q ((x % 2 : Nat) : Int) Z) : mjW1 (d + 2) 237 [yR 11 464, yI 92, yI 0] Z q := by
  obtain ⟨h1, ⟨n, h2, h3⟩, -⟩ := h
  refine fm_bitU (d := d) (a := 92) (i := 0) (by decide) h2.1 (by decide) ?_
  rw [Nat.pow_zero, Nat.div_one, show lbN Z 92 n = x by unfold lbN; rw [h3]; exact Int.toNat_natCast x]
  exact hq
theorem gcS.odd2 {Z : mjZ} {x y : Nat} {q : Int → mjZ → Prop} (h : gcS Z0 Z x y) (hq : q ((y % 2 : Nat) : Int) Z) : mjW1 (d + 2) 237 [yR 11 464, yI 93, yI 0] Z q := by
  obtain ⟨h1, -, ⟨n, h2, h3⟩, -⟩ := h
  refine fm_bitU (d := d) (a := 93) (i := 0) (by decide) h2.1 (by decide) ?_
  rw [Nat.pow_zero, Nat.div_one, show lbN Z 93 n = y by unfold lbN; rw [h3]; exact Int.toNat_natCast y]
  exact hq
theorem gcS.half {Z : mjZ} {x y : Nat} {q : mjZ → Prop} (h : gcS Z0 Z x y) (hx : 2 ≤ x) (hq : ∀ Z', gcS Z0 Z' (x / 2) y → q Z') : mjW0 (d + 2) 238 [yR 11 464, yI 92] Z q := by
  obtain ⟨h1, ⟨n, h2, h3⟩, ⟨m, h4, h5⟩, h6, h7⟩ := h
  refine fm_half (d := d) (r := 92) (by decide) h2.1 fun Z' n' b1 b2 b3 b4 b5 => hq Z' ?_
  have k := h4.stF b1 (by decide)
  have z := b3.zero
  refine ⟨h1.tr (b1.R (Or.inl rfl)), ⟨n', b3, by rw [b4, h3]; omega⟩, ⟨m, k.1, by rw [k.2]; exact h5⟩, ?_, by rw [(b1.o5 (by decide)).2]; exact h7⟩
  rw [h6] at b5
  rw [b5, if_neg (by omega), if_neg (by omega), if_neg (by omega)]
theorem gcS.half2 {Z : mjZ} {x y : Nat} {q : mjZ → Prop} (h : gcS Z0 Z x y) (hy : 2 ≤ y) (hq : ∀ Z', gcS Z0 Z' x (y / 2) → q Z') : mjW0 (d + 2) 238 [yR 11 464, yI 93] Z q := by
  obtain ⟨h1, ⟨n, h2, h3⟩, ⟨m, h4, h5⟩, h6, h7⟩ := h
  refine fm_half (d := d) (r := 93) (by decide) h4.1 fun Z' n' b1 b2 b3 b4 b5 => hq Z' ?_
  have k := h2.stF b1 (by decide)
  have z := b3.zero
  refine ⟨h1.tr (b1.R (Or.inr rfl)), ⟨n, k.1, by rw [k.2]; exact h3⟩, ⟨n', b3, by rw [b4, h5]; omega⟩, by rw [(b1.o5 (by decide)).2]; exact h6, ?_⟩
  rw [h7] at b5
  rw [b5, if_neg (by omega), if_neg (by omega), if_neg (by omega)]
/-- the end: the twos come back -/
theorem fm_twos {G T : Nat} {q : mjZ → Prop} (hr : r < 128) (hT : (2 ^ T * G : Nat) < (bgP 23).toNat) (ht2 : T < 1000) (hq : ∀ Z', stG (fun k => k = r) Z0 Z' → lbIs Z' r ((2 ^ T * G : Nat) : Int) → q Z') : ∀ (s t : Nat) (Z : mjZ), t + s = T → stG (fun k => k = r) Z0 Z → (∃ n, lbT Z r n ∧ lbU Z r n = ((2 ^ t * G : Nat) : Int)) → Z 476 r = (if G = 0 then 0 else 1) → mjL_236_271 (d + 1) r a b T t Z q
  | 0, t, Z, hs, h1, ⟨n, h2, h3⟩, h4 => by
    have e : t = T := by omega
    subst e
    refine mjl_236_271 ⟨by omega, by omega, fun _ => hq Z h1 ?_, fun g => by omega⟩
    have z := h2.zero
    have hz : 2 ^ t * G = 0 ↔ G = 0 := by
      have := Nat.two_pow_pos t
      constructor
      · intro k; rcases Nat.mul_eq_zero.mp k with k | k
        · omega
        · exact k
      · intro k; rw [k, Nat.mul_zero]
    refine lbIs.of h2 (by rw [h4]; split <;> omega) ?_ ?_
    · rw [h4]; split <;> constructor <;> intro k <;> omega
    · rw [h4, h3]; split
      · rename_i g; rw [hz.mpr g]; rfl
      · rw [Int.one_mul]
  | s + 1, t, Z, hs, h1, ⟨n, h2, h3⟩, h4 => by
    have hle : 2 ^ t * G ≤ 2 ^ T * G := Nat.mul_le_mul_right _ (Nat.pow_le_pow_right (by decide) (by omega))
    have hP : ((bgP 23).toNat : Int) = bgP 23 := by decide
    have hn : n ≤ 23 := h2.len (by rw [h3]; omega)
    refine mjl_236_271 ⟨by omega, by omega, fun g => by omega, fun _ => ?_⟩
    refine fm_twice (d := d) (w := 0) hr h2 hn (by decide) fun Z' n' b1 b2 b3 b4 b5 => ?_
    have z := b3.zero
    have z2 := h2.zero
    have e2 : ((2 ^ (t + 1) * G : Nat) : Int) = 2 * ((2 ^ t * G : Nat) : Int) + ((0 : Nat) : Int) := by
      rw [Nat.pow_succ, Nat.mul_comm (2 ^ t) 2, Nat.mul_assoc, Int.natCast_mul]
      omega
    refine fm_twos hr hT ht2 hq s (t + 1) Z' (by omega) (h1.tr (b1.R rfl)) ⟨n', b3, by rw [e2, b4, h3]⟩ ?_
    rw [b5]
    have hz : 2 ^ t * G = 0 ↔ G = 0 := by
      have := Nat.two_pow_pos t
      constructor
      · intro k; rcases Nat.mul_eq_zero.mp k with k | k
        · omega
        · exact k
      · intro k; rw [k, Nat.mul_zero]
    by_cases g : G = 0
    · rw [if_pos g, if_pos (z.mp (by rw [b4, h3, hz.mpr g]; rfl))]
    · rw [if_neg g, if_neg fun k => g (hz.mp (by have := z.mpr k; rw [b4, h3] at this; omega))]
section GL
variable {G T : Nat} {q : mjZ → Prop}
theorem fm_gcd119 (hr : r < 128) (hr2 : r ≠ 92 ∧ r ≠ 93) (hT : (2 ^ T * G : Nat) < (bgP 23).toNat) (ht2 : T < 1000) (hq : ∀ Z', stG (fun k => k = r ∨ k = 92 ∨ k = 93) Z0 Z' → lbIs Z' r ((2 ^ T * G : Nat) : Int) → q Z') : ∀ (f x y : Nat) (Z : mjZ), x + y ≤ f → gcS Z0 Z x y → 0 < x → Nat.gcd x y = G → (y = 0 ∨ x % 2 = 1 ∨ y % 2 = 1) → x < (bgP 12).toNat → y < (bgP 12).toNat → mjL_236_119 (d + 3) r a b T Z q
  | f, x, y, Z, hf, h, hx, hg, ho, hxb, hyb => by
    have h7 := h.2.2.2.2
    have hP12 : ((bgP 12).toNat : Int) = bgP 12 := by decide
    by_cases hy : y = 0
    · subst hy
      have hG : G = x := by rw [← hg, Nat.gcd_zero_right]
      rw [if_pos rfl] at h7
      refine mjl_236_119 ⟨by omega, fun _ => ?_, fun k => absurd h7 k⟩
      obtain ⟨h1, ⟨n, h2, h3⟩, -, h6, -⟩ := h
      rw [if_neg (by omega)] at h6
      refine fm_copyW (d := d + 2) (a := 92) hr (by decide) h2.1 fun Z' b1 b2 b3 b4 => ?_
      refine fm_twos (d := d + 2) (Z0 := Z) (G := G) hr hT ht2 (fun Z2 c1 c2 => hq Z2 ((h1.mono fun k hk => by omega).tr (c1.mono fun k hk => Or.inl hk)) c2) T 0 Z' (by omega) (b1.R rfl) ⟨n, ⟨b2, fun g => by rw [b3 _ (by omega)]; exact h2.2 g⟩, ?_⟩ (by rw [b4, h6, if_neg (by omega)])
      rw [Nat.pow_zero, Nat.one_mul, hG, ← h3]
      exact bgS_eq fun k hk => b3 k hk
    · rw [if_neg hy] at h7
      refine mjl_236_119 ⟨by omega, fun k => by omega, fun _ => ?_⟩
      -- the second loop, x odd
      have L148 : ∀ (f2 x y : Nat) (Z : mjZ), y ≤ f2 → x + y ≤ f → gcS Z0 Z x y → x % 2 = 1 → 0 < y → Nat.gcd x y = G → x < (bgP 12).toNat → y < (bgP 12).toNat → mjL_236_148 (d + 3) r a b T Z q := by
        intro f2
        induction f2 with
        | zero => intro x y Z h1 h2 h3 h4 h5; omega
        | succ f2 ih =>
          intro x y Z hf2 hf h hx hy hg hxb hyb
          refine mjl_236_148 (h.odd2 (d := d + 1) ⟨by omega, fun k => ?_, fun k => ?_⟩)
          · -- both odd
            have hh := h
            obtain ⟨h1, ⟨n, h2, h3⟩, ⟨m, h4, h5⟩, h6, h7⟩ := hh
            have hn : n ≤ 12 := h2.len (by rw [h3]; omega)
            have hm : m ≤ 12 := h4.len (by rw [h5]; omega)
            have sub1 : y ≤ x → mjW0 (d + 3) 223 [yR 11 464, yI 92, yI 92, yI 93, yI (-1)] Z (fun Z7 => mjW0 (d + 3) 220 [yR 11 464, yI 92] Z7 (fun Z8 => (-2147483648 ≤ (Z8 476 92) ∧ (Z8 476 92) < 2147483648) ∧ (((Z8 476 92) ≠ 0 → (mjL_236_119 (d + 3) r a b T Z8 q)) ∧ (¬((Z8 476 92) ≠ 0) → (mjW0 (d + 3) 222 [yR 11 464, yI 92, yI 93] Z8 (fun Z10 => mjW0 (d + 3) 204 [yR 11 464, yI 93, yJ 0] Z10 (fun Z11 => mjL_236_119 (d + 3) r a b T Z11 q))))))) := fun hle => by
              refine fm_join (d := d + 1) (r := 92) (a := 92) (b := 93) (by decide) (by decide) (by decide) h2.1 h4.1 (by omega) (Or.inr rfl) (fun _ => by rw [h3, h5]; omega) fun Z1 N c1 c2 c3 c4 => ?_
              refine fm_trim (d := d + 2) (by decide) c2 fun Z2 N2 e1 e2 e3 e4 e5 e6 => ?_
              have c5 := c1.tr e1
              have k4 := h4.stF c5 (by decide)
              have u : lbU Z2 92 N2 = ((x - y : Nat) : Int) := by rw [e5, c3, h3, h5]; omega
              have z := e3.zero
              have hs92 : Z2 476 92 = if x - y = 0 then 0 else 1 := by
                rw [e6, c4, h6, if_neg (by omega : ¬ x = 0)]
                by_cases g : x - y = 0
                · rw [if_pos g, if_pos (z.mp (by rw [u, g]; rfl))]
                · have hN : N2 ≠ 0 := fun k => by
                    have k2 := z.mpr k
                    rw [u] at k2
                    omega
                  rw [if_neg g, if_neg hN]
              have hG2 : gcS Z0 Z2 (x - y) y := ⟨h1.tr (c5.R (Or.inl rfl)), ⟨N2, e3, u⟩, ⟨m, k4.1, by rw [k4.2]; exact h5⟩, hs92, by rw [(c5.o5 (by decide)).2]; exact h7⟩
              have hgg : Nat.gcd (x - y) y = G := by rw [Nat.gcd_sub_self_left hle]; exact hg
              refine ⟨by rw [hs92]; split <;> omega, fun g => ?_, fun g => ?_⟩
              · have hne : x - y ≠ 0 := fun k => g (by rw [hs92, if_pos k])
                cases f with
                | zero => omega
                | succ f => exact fm_gcd119 hr hr2 hT ht2 hq f (x - y) y Z2 (by omega) hG2 (by omega) hgg (Or.inr (Or.inr (by omega))) (by omega) hyb
              · have he : x - y = 0 := Decidable.byContradiction fun k => g (by rw [hs92, if_neg k]; decide)
                have exy : x = y := by omega
                refine fm_copyW (d := d + 2) (r := 92) (a := 93) (by decide) (by decide) k4.1.1 fun Z3 i1 i2 i3 i4 => ?_
                refine fm_set (d := d + 2) (i := 93) (by decide) (by omega) fun Z4 j1 j2 => ?_
                obtain ⟨n4, j3, j4, j5, j6, j7⟩ := j2.n
                have t92 : lbT Z3 92 m := ⟨i2, fun g => by rw [i3 _ (by omega)]; exact k4.1.2 g⟩
                have k5 := t92.stF j1 (by decide)
                have u3 : lbU Z3 92 m = (y : Int) := by
                  rw [← h5, ← k4.2]
                  exact bgS_eq fun k hk => i3 k hk
                have z4 : Z4 476 93 = 0 := by
                  have := j3.zero
                  have h0 : bgA 0 = 0 := rfl
                  rw [h0] at j7
                  exact j5.mpr (this.mp j7.symm)
                have u4 : lbU Z4 93 n4 = 0 := by
                  have h0 : bgA 0 = 0 := rfl
                  rw [h0] at j7
                  exact j7.symm
                cases f with
                | zero => omega
                | succ f => exact fm_gcd119 hr hr2 hT ht2 hq f y 0 Z4 (by omega) ⟨(hG2.1.tr (i1.R (Or.inl rfl))).tr (j1.R (Or.inr rfl)), ⟨m, k5.1, by rw [k5.2]; exact u3⟩, ⟨n4, j3, by rw [u4]; rfl⟩, by rw [(j1.o5 (by decide)).2, i4, (c5.o5 (by decide)).2, h7], by rw [z4]; rfl⟩ hy (by rw [Nat.gcd_zero_right, ← hg, exy, Nat.gcd_self]) (Or.inl rfl) hyb (by decide)
            have sub2 : x < y → mjW0 (d + 3) 223 [yR 11 464, yI 93, yI 93, yI 92, yI (-1)] Z (fun Z5 => mjW0 (d + 3) 220 [yR 11 464, yI 93] Z5 (fun Z6 => mjL_236_119 (d + 3) r a b T Z6 q)) := fun hlt => by
              refine fm_join (d := d + 1) (r := 93) (a := 93) (b := 92) (by decide) (by decide) (by decide) h4.1 h2.1 (by omega) (Or.inr rfl) (fun _ => by rw [h3, h5]; omega) fun Z1 N c1 c2 c3 c4 => ?_
              refine fm_trim (d := d + 2) (by decide) c2 fun Z2 N2 e1 e2 e3 e4 e5 e6 => ?_
              have c5 := c1.tr e1
              have k2 := h2.stF c5 (by decide)
              have u : lbU Z2 93 N2 = ((y - x : Nat) : Int) := by rw [e5, c3, h3, h5]; omega
              have z := e3.zero
              have hs93 : Z2 476 93 = if y - x = 0 then 0 else 1 := by
                have hN : N2 ≠ 0 := fun k => by
                  have k2 := z.mpr k
                  rw [u] at k2
                  omega
                rw [e6, c4, h7, if_neg (by omega : ¬ y = 0), if_neg (by omega : ¬ y - x = 0), if_neg hN]
              have hG2 : gcS Z0 Z2 x (y - x) := ⟨h1.tr (c5.R (Or.inr rfl)), ⟨n, k2.1, by rw [k2.2]; exact h3⟩, ⟨N2, e3, u⟩, by rw [(c5.o5 (by decide)).2]; exact h6, hs93⟩
              have hgg : Nat.gcd x (y - x) = G := by rw [Nat.gcd_sub_self_right (by omega)]; exact hg
              cases f with
              | zero => omega
              | succ f => exact fm_gcd119 hr hr2 hT ht2 hq f x (y - x) Z2 (by omega) hG2 (by omega) hgg (Or.inr (Or.inl hx)) hxb (by omega)
            refine fm_against (d := d + 2) (a := 92) (b := 93) (by decide) (by decide) h2 h4 (fun e => ⟨by omega, fun k => absurd k (by decide), fun _ => sub1 (by omega)⟩) (fun e => ⟨by omega, fun k => absurd k (by decide), fun _ => sub1 (by omega)⟩) (fun e => ⟨by omega, fun _ => sub2 (by omega), fun k => absurd (by decide) k⟩)
          · have hey : y % 2 = 0 := by omega
            refine h.half2 (d := d + 1) (by omega) fun Z' h' => ih x (y / 2) Z' (by omega) (by omega) h' hx (by omega) ?_ hxb (by omega)
            rw [← hg, Nat.gcd_comm x, Nat.gcd_comm x]
            exact gcd_half hey hx
      -- the first loop
      have L129 : ∀ (f2 x : Nat) (Z : mjZ), x ≤ f2 → x + y ≤ f → gcS Z0 Z x y → 0 < x → Nat.gcd x y = G → (x % 2 = 1 ∨ y % 2 = 1) → x < (bgP 12).toNat → mjL_236_129 (d + 3) r a b T Z q := by
        intro f2
        induction f2 with
        | zero => intro x Z h1 h2 h3 h4; omega
        | succ f2 ih =>
          intro x Z hf2 hf h hx hg ho hxb
          refine mjl_236_129 (h.odd (d := d + 1) ⟨by omega, fun k => ?_, fun k => ?_⟩)
          · exact L148 y x y Z (Nat.le_refl _) hf h (by omega) (by omega) hg hxb hyb
          · refine h.half (d := d + 1) (by omega) fun Z' h' => ih (x / 2) Z' (by omega) (by omega) h' (by omega) ?_ (Or.inr (by omega)) (by omega)
            rw [← hg]
            exact gcd_half (by omega) (by omega)
      exact L129 x x Z (Nat.le_refl _) hf h hx hg (by omega) hxb
  termination_by f => f
end GL
end GC
