/-! Long division: the whole of it. -/
theorem bgX.symm {c e : Nat} (h : bgX c e) : bgX e c := ⟨fun g => h.1 g.symm, fun g => h.2.2 g.symm, fun g => h.2.1 g.symm⟩
def dvX (c a : Nat) : Prop := a ≠ c ∧ a ≠ c + 1 ∧ a ≠ c + 2 ∧ a + 1 ≠ c
theorem td_pos {v w q r : Int} (hv : 0 ≤ v) (hw : 0 < w) (h : v = q * w + r) (h1 : 0 ≤ r) (h2 : r < w) : v.tdiv w = q ∧ v.tmod w = r := by
  rw [Int.tdiv_eq_ediv_of_nonneg hv, Int.tmod_eq_emod_of_nonneg hv]
  exact (Int.ediv_emod_unique hw).mpr ⟨by rw [h, Int.mul_comm w]; omega, h1, h2⟩
theorem bgA_or (z : Int) : (0 ≤ z ∧ bgA z = z) ∨ (z < 0 ∧ bgA z = -z) := by unfold bgA; split <;> omega
theorem td_uniq {v w q r : Int} (h : v = q * w + r) (h1 : bgA r < bgA w) (h2 : (0 ≤ v → 0 ≤ r) ∧ (v ≤ 0 → r ≤ 0)) : v.tdiv w = q ∧ v.tmod w = r := by
  have ar := bgA_or r
  have aw := bgA_or w
  rcases Int.lt_or_le v 0 with hv | hv <;> rcases Int.lt_or_le w 0 with hw | hw
  · have h3 := h2.2 (by omega)
    have h4 := td_pos (v := -v) (w := -w) (q := q) (r := -r) (by omega) (by omega) (by rw [Int.mul_neg]; omega) (by omega) (by omega)
    rw [Int.neg_tdiv, Int.tdiv_neg, Int.neg_neg, Int.neg_tmod, Int.tmod_neg] at h4
    exact ⟨h4.1, by omega⟩
  · have h3 := h2.2 (by omega)
    have h5 : 0 < w := by omega
    have h4 := td_pos (v := -v) (w := w) (q := -q) (r := -r) (by omega) h5 (by rw [Int.neg_mul]; omega) (by omega) (by omega)
    rw [Int.neg_tdiv, Int.neg_tmod] at h4
    exact ⟨by omega, by omega⟩
  · have h3 := h2.1 (by omega)
    have h4 := td_pos (v := v) (w := -w) (q := -q) (r := r) (by omega) (by omega) (by rw [Int.neg_mul_neg]; exact h) (by omega) (by omega)
    rw [Int.tdiv_neg, Int.tmod_neg] at h4
    exact ⟨by omega, by omega⟩
  · have h3 := h2.1 (by omega)
    have h5 : 0 < w := by omega
    exact td_pos hv h5 h h3 (by omega)
theorem td_small {v w : Int} (h : bgA v < bgA w) : v.tdiv w = 0 ∧ v.tmod w = v := td_uniq (by rw [Int.zero_mul, Int.zero_add]) h ⟨fun h => h, fun h => h⟩
/-- the stretch makes the divisor's top digit at least half the base -/
theorem dv_norm {t s : Int} (ht : 1 ≤ t ∧ t < 1073741824) (hs : s = 1073741824 / (t + 1)) : 1 ≤ s ∧ s < 1073741824 ∧ s * (t + 1) ≤ 1073741824 ∧ 536870912 ≤ s * t := by
  have h1 : (t + 1) * s + 1073741824 % (t + 1) = 1073741824 := by rw [hs]; exact Int.mul_ediv_add_emod _ _
  have h2 : 0 ≤ 1073741824 % (t + 1) := Int.emod_nonneg _ (by omega)
  have h3 : 1073741824 % (t + 1) < t + 1 := Int.emod_lt_of_pos _ (by omega)
  have h4 : 1 ≤ s := by
    rw [hs]
    exact Int.le_ediv_of_mul_le (by omega) (by omega)
  have e1 : (t + 1) * s = s * t + s := by rw [Int.mul_comm, Int.mul_add, Int.mul_one]
  have e2 : s * (t + 1) = s * t + s := by rw [Int.mul_add, Int.mul_one]
  have h5 : s * 1 ≤ s * t := Int.mul_le_mul_of_nonneg_left (by omega) (by omega)
  refine ⟨h4, by omega, by omega, ?_⟩
  rcases (show s = 1 ∨ 2 ≤ s by omega) with k | k
  · subst k; omega
  · rcases (show t = 1 ∨ 2 ≤ t by omega) with k2 | k2
    · subst k2; omega
    · have h6 : 2 * (t - 1) ≤ s * (t - 1) := Int.mul_le_mul_of_nonneg_right k (by omega)
      have e3 : s * (t - 1) = s * t - s := by rw [Int.mul_sub, Int.mul_one]
      omega
section DVC
variable {d R c a b r : Nat} {Z : mjZ}
/-- what stands while the digits of the quotient are found; i: how many are still to be found -/
def dvS (R c a n u : Nat) (V T : Int) (Z : mjZ) (i : Nat) (Z1 : mjZ) : Prop := (∀ x, x ≠ a + 1 → x ≠ c + 1 → Z1 x = Z x) ∧ bgD (Z1 (c + 1)) 0 (u + n + 1) ∧ bgS (Z1 (c + 1)) i n < V ∧ bgD (Z1 (a + 1)) i (u + 1 - i) ∧ T = bgP i * (bgS (Z1 (a + 1)) i (u + 1 - i) * V) + bgS (Z1 (c + 1)) 0 (i + n)
theorem dv_loop {n u : Nat} {s T : Int} {q : mjZ → Prop} (hK : dvR c (R + 2)) (ha : bgR a R) (xa : dvX c a) (hn : 1 ≤ n) (hun : u + n ≤ R) (hl : bgD (Z (c + 2)) 0 (n + 1)) (hl0 : Z (c + 2) n = 0) (hl1 : 536870912 ≤ Z (c + 2) (n - 1))
    (hq : ∀ Z1, dvS R c a n u (bgS (Z (c + 2)) 0 n) T Z 0 Z1 → mjL_102_92 (d + 3) c a b (n : Int) (u : Int) s (-1) Z1 q) : ∀ (i : Nat) (Z1 : mjZ), i ≤ u + 1 → dvS R c a n u (bgS (Z (c + 2)) 0 n) T Z i Z1 → mjL_102_92 (d + 3) c a b (n : Int) (u : Int) s ((i : Int) - 1) Z1 q
  | 0, Z1, hi, hS => hq Z1 hS
  | j + 1, Z1, hi, hS => by
    obtain ⟨r1, r2, r3⟩ := id ha
    obtain ⟨s1, s2, s3, s4, s5⟩ := hS
    have e0 : ((j + 1 : Nat) : Int) - 1 = (j : Int) := by omega
    rw [e0]
    have el : Z1 (c + 2) = Z (c + 2) := s1 _ (by have := xa.2.1; omega) (by omega)
    have hV : bgS (Z (c + 2)) 0 (n + 1) = bgS (Z (c + 2)) 0 n := by
      rw [bgS_app n 1 0, Nat.zero_add]
      simp [bgS, hl0]
    have hln : bgD (Z (c + 2)) 0 n := bgD_sub hl (Nat.le_refl _) (by omega)
    have hVb := bgS_b n 0 hln
    have hd := s2 j (Nat.zero_le _) (by omega)
    have hU : bgS (Z1 (c + 1)) j (n + 1) = Z1 (c + 1) j + 1073741824 * bgS (Z1 (c + 1)) (j + 1) n := rfl
    have hwb := bgS_b n (j + 1) (bgD_sub s2 (by omega) (by omega))
    refine mjl_102_92 ⟨by omega, fun h => by omega, fun _ => ?_⟩
    refine dv_guess (d := d + 1) (K := R + 2) hK (bgD_sub s2 (by omega) (by omega)) (by rw [el]; exact hln) hn (by omega) (by rw [el]; exact hl1) (by rw [el, hU]; omega) fun g g0 g1 g2 g3 => ?_
    rw [el] at g2 g3
    have hVp : 0 < bgS (Z (c + 2)) 0 n := by omega
    have m1 : bgS (Z (c + 2)) 0 n * (bgS (Z1 (c + 1)) j (n + 1) / bgS (Z (c + 2)) 0 n) + bgS (Z1 (c + 1)) j (n + 1) % bgS (Z (c + 2)) 0 n = bgS (Z1 (c + 1)) j (n + 1) := Int.mul_ediv_add_emod _ _
    have m2 : 0 ≤ bgS (Z1 (c + 1)) j (n + 1) % bgS (Z (c + 2)) 0 n := Int.emod_nonneg _ (by omega)
    have m3 : bgS (Z1 (c + 1)) j (n + 1) % bgS (Z (c + 2)) 0 n < bgS (Z (c + 2)) 0 n := Int.emod_lt_of_pos _ hVp
    have m4 : 0 ≤ bgS (Z1 (c + 1)) j (n + 1) / bgS (Z (c + 2)) 0 n := Int.ediv_nonneg (by omega) (by omega)
    have m5 : bgS (Z1 (c + 1)) j (n + 1) / bgS (Z (c + 2)) 0 n < g + 1 := Int.ediv_lt_of_lt_mul hVp g2
    have m6 : g - 1 ≤ bgS (Z1 (c + 1)) j (n + 1) / bgS (Z (c + 2)) 0 n := Int.le_ediv_of_mul_le hVp g3
    have m7 : bgS (Z1 (c + 1)) j (n + 1) / bgS (Z (c + 2)) 0 n < 1073741824 := Int.ediv_lt_of_lt_mul hVp (by rw [hU]; omega)
    rw [Int.mul_comm] at m1
    generalize bgS (Z1 (c + 1)) j (n + 1) / bgS (Z (c + 2)) 0 n = qt at *
    generalize bgS (Z1 (c + 1)) j (n + 1) % bgS (Z (c + 2)) 0 n = rr at *
    refine dv_takeOff (d := d + 1) (K := R + 2) (qt := qt) (r := rr) hK (bgD_sub s2 (by omega) (by omega)) (by rw [el]; exact hl) (by omega) ⟨g0, g1⟩ (by omega) (by rw [el, hV]; exact m1.symm) ⟨m2, by rw [el, hV]; exact m3⟩ fun Z2 w2 v2 => ?_
    refine bg_setDigit ha (by omega) (by omega) ?_
    rw [show ((j : Int)).toNat = j from rfl, show (j : Int) + (-1) = (j : Int) - 1 by omega]
    unfold bgU
    rw [if_pos (show j < R by omega)]
    obtain ⟨o2, k2, d2⟩ := w2
    have hu2 : mjUp Z2 (a + 1) j qt (c + 1) = Z2 (c + 1) := mjUp_nc (by have := xa.1; omega)
    have hvn : bgS (Z2 (c + 1)) j n + bgP n * Z2 (c + 1) (j + n) = rr := by
      rw [bgS_app n 1 j] at v2
      simpa [bgS] using v2
    have hn0 := (bgS_b n j (bgD_sub d2 (by omega) (by omega))).1
    have hdn := (d2 (j + n) (by omega) (by omega)).1
    have hz : Z2 (c + 1) (j + n) = 0 := by
      rcases Int.lt_or_le 0 (Z2 (c + 1) (j + n)) with h | h
      · have : bgP n * 1 ≤ bgP n * Z2 (c + 1) (j + n) := Int.mul_le_mul_of_nonneg_left (by omega) (Int.le_of_lt (bgP_pos n))
        omega
      · omega
    rw [hz, Int.mul_zero, Int.add_zero] at hvn
    refine dv_loop hK ha xa hn hun hl hl0 hl1 hq j _ (by omega) ⟨fun x h1 h2 => ?_, ?_, ?_, ?_, ?_⟩
    · rw [mjUp_nc h1, o2 x h2, s1 x h1 h2]
    · rw [hu2]
      intro k g1 g2
      rcases Nat.lt_or_ge k j with h | h
      · rw [k2 k (Or.inl h)]; exact s2 k g1 g2
      · rcases Nat.lt_or_ge k (j + (n + 1)) with h3 | h3
        · exact d2 k h h3
        · rw [k2 k (Or.inr h3)]; exact s2 k g1 g2
    · rw [hu2, hvn]; exact m3
    · intro k g1 g2
      by_cases h : k = j
      · subst h
        rw [mjUp_at]; omega
      · rw [mjUp_ne fun _ => h, o2 _ (by have := xa.1; omega)]
        exact s4 k (by omega) (by omega)
    · have f1 : bgS (mjUp Z2 (a + 1) j qt (a + 1)) j (u + 1 - j) = qt + 1073741824 * bgS (Z1 (a + 1)) (j + 1) (u + 1 - (j + 1)) := by
        rw [show u + 1 - j = (u + 1 - (j + 1)) + 1 by omega]
        show mjUp Z2 (a + 1) j qt (a + 1) j + 1073741824 * bgS _ (j + 1) _ = _
        rw [mjUp_at, bgS_congr (g := Z1 (a + 1)) _ (j + 1) fun k g1 g2 => by rw [mjUp_ne fun _ => by omega, o2 _ (by have := xa.1; omega)]]
      have f2 : bgS (mjUp Z2 (a + 1) j qt (c + 1)) 0 (j + n) = bgS (Z1 (c + 1)) 0 j + bgP j * rr := by
        rw [hu2, bgS_app j n 0, Nat.zero_add, hvn, bgS_congr (g := Z1 (c + 1)) j 0 fun k g1 g2 => k2 k (Or.inl (by omega))]
      have f3 : bgS (Z1 (c + 1)) 0 (j + 1 + n) = bgS (Z1 (c + 1)) 0 j + bgP j * bgS (Z1 (c + 1)) j (n + 1) := by
        rw [show j + 1 + n = j + (n + 1) by omega, bgS_app j (n + 1) 0, Nat.zero_add]
      rw [f1, f2, s5, f3, ← m1]
      have f4 : bgP (j + 1) = 1073741824 * bgP j := rfl
      rw [f4, Int.add_mul, Int.mul_add (bgP j), Int.mul_add (bgP j), Int.mul_assoc 1073741824 (bgP j), Int.mul_assoc 1073741824 (bgS _ _ _), Int.mul_left_comm (bgP j) 1073741824]
      omega
end DVC
section DVD
variable {d R c a b r : Nat} {Z : mjZ}
theorem bgX_1 {x y : Nat} (h : bgX x y) : y ≠ x ∧ y ≠ x + 1 ∧ y + 1 ≠ x ∧ y + 1 ≠ x + 1 := ⟨h.1, h.2.1, h.2.2, by have := h.1; omega⟩
theorem bgX.nn {x y : Nat} (h : bgX x y) : x ≠ y ∧ x + 1 ≠ y ∧ y + 1 ≠ x := ⟨fun g => h.1 g.symm, fun g => h.2.1 g.symm, h.2.2⟩
theorem dv_sg {sa sb A B Q Rm v w : Int} (hsa : sa = -1 ∨ sa = 1) (hsb : sb = -1 ∨ sb = 1) (hv : v = sa * A) (hw : w = sb * B) (hA : A = Q * B + Rm) : v = sa * sb * Q * w + sa * Rm := by
  subst hv hw hA
  rcases hsa with h | h <;> rcases hsb with h' | h' <;> subst h h' <;> simp [Int.mul_neg, Int.neg_mul] <;> omega
theorem dv_rm {s T Rm : Int} (hs : 1 ≤ s) (h : s * Rm = T) (h0 : 0 ≤ T) : 0 ≤ Rm := by
  rcases Int.lt_or_le Rm 0 with g | g
  · have := Int.mul_neg_of_pos_of_neg (show 0 < s by omega) g
    omega
  · exact g
theorem dv_ex {s g Rm yf : Int} (h : s * g + yf = s * Rm) (y0 : 0 ≤ yf) (y1 : yf < s) : g = Rm := by
  have h9 : s * (Rm - g) = yf := by rw [Int.mul_sub]; omega
  rcases Int.lt_or_le 0 (Rm - g) with h | h
  · have : s * 1 ≤ s * (Rm - g) := Int.mul_le_mul_of_nonneg_left (by omega) (by omega)
    omega
  · rcases (show Rm - g = 0 ∨ Rm - g < 0 by omega) with h2 | h2
    · omega
    · have := Int.mul_neg_of_pos_of_neg (show 0 < s by omega) h2
      omega
theorem dv_fin {n u : Nat} {s Q Rm v w : Int} {Z4 : mjZ} {q : mjZ → Prop} (hK : dvR c (R + 2)) (ha : bgR a R) (hr : bgR r R) (hok : mjOk 0 r) (hc4 : Z4 c 4 = (r : Int)) (xab : bgX a b) (xar : bgX a r) (xbr : bgX b r) (xa : dvX c a) (xb : dvX c b) (xr : dvX c r) (hs : 1 ≤ s ∧ s < 1073741824) (hn : n ≤ R) (hu : u + 1 ≤ R)
    (ho : ∀ x, x ≠ a + 1 → x ≠ c + 1 → x ≠ c + 2 → Z4 x = Z x) (d4 : bgD (Z4 (c + 1)) 0 n) (hval : bgS (Z4 (c + 1)) 0 n = s * Rm) (q4 : bgD (Z4 (a + 1)) 0 (u + 1)) (hQ : bgS (Z4 (a + 1)) 0 (u + 1) = Q) (hsa : Z a 0 = -1 ∨ Z a 0 = 1) (hsb : Z b 0 = -1 ∨ Z b 0 = 1) (hvq : v.tdiv w = Z a 0 * Z b 0 * Q) (hvr : v.tmod w = Z a 0 * Rm)
    (hq : ∀ Z', (∀ x, x ≠ a → x ≠ a + 1 → x ≠ r → x ≠ r + 1 → x ≠ c + 1 → x ≠ c + 2 → Z' x = Z x) → bgIs R Z' a (v.tdiv w) → bgIs R Z' r (v.tmod w) → q Z') : mjL_102_92 (d + 4) c a b (n : Int) (u : Int) s (-1) Z4 q := by
  obtain ⟨r1, r2, r3⟩ := id hr
  obtain ⟨K1, K2, K3⟩ := id hK
  have zar := xar.nn
  have zbr := xbr.nn
  have zab := xab.nn
  have zab0 := xab.1
  have zar0 := xar.1
  obtain ⟨xa0, xa1, xa2, xa3⟩ := xa
  obtain ⟨xb0, xb1, xb2, xb3⟩ := xb
  obtain ⟨xr0, xr1, xr2, xr3⟩ := xr
  obtain ⟨zar1, zar2, zar3⟩ := zar
  obtain ⟨zbr1, zbr2, zbr3⟩ := zbr
  obtain ⟨zab1, zab2, zab3⟩ := zab
  have hQ0 := bgS_b (u + 1) 0 q4
  have hPu := bgP_mono hu
  have hPn := bgP_mono hn
  refine mjl_102_92 ⟨by decide, fun _ => ?_, fun h => absurd (by decide) h⟩
  refine mje_109 (d := d + 2) (c := c) (n := n) (s := s) ⟨by omega, by omega, ?_⟩
  rw [if_neg (by omega)]
  refine dv_shrinkL (d := d + 2) hK hok hr hc4 ⟨xr3, by omega⟩ (by omega) hs d4 n 0 Z4 (Nat.le_refl _) (Int.le_refl _) (by omega) (fun _ _ => rfl) fun Z5 g yf o5 _ hg hgd y0 y1 hval2 => ?_
  rw [Int.mul_zero, Int.add_zero, hval] at hval2
  have hgR : bgS g 0 n = Rm := dv_ex hval2 y0 y1
  have hgb := bgS_b n 0 hg
  have hc5 : (Z5 c 4).toNat = r := by rw [o5 c xr3.symm, hc4]; rfl
  have ea5 : Z5 a = Z a := by rw [o5 a zar3.symm, ho a (by omega) xa1 xa2]
  have eb5 : Z5 b = Z b := by rw [o5 b zbr3.symm, ho b (by omega) xb1 xb2]
  have eda : Z5 (a + 1) = Z4 (a + 1) := o5 _ (by omega)
  rw [hc5]
  have hc5' : (mjUp Z5 r 0 (Z5 a 0) c 4).toNat = r := by rw [mjUp_nc xr0.symm]; exact hc5
  rw [hc5', ea5]
  refine ⟨hok, hok, ?_⟩
  refine bg_end (d := d + 3) (E := n) (s := Z a 0) (v := Z a 0 * Rm) (g := g) hr (by omega) hg (fun k g1 g2 => ?_) mjUp_at (by omega) (fun h => by omega) (by rw [hgR]) (by omega) fun Z6 o6 b6 => ?_
  · rw [mjUp_nc (by omega)]
    exact hgd k g1 g2
  · have ea6 : Z6 a = Z a := by rw [o6 a zar1 (by omega), mjUp_nc zar1, ea5]
    have eb6 : Z6 b = Z b := by rw [o6 b zbr1 (by omega), mjUp_nc zbr1, eb5]
    have ed6 : Z6 (a + 1) = Z4 (a + 1) := by rw [o6 (a + 1) zar2 (by omega), mjUp_nc zar2, eda]
    rw [show (u : Int) + 1 = ((u + 1 : Nat) : Int) by omega, ea6, eb6]
    refine bg_end (d := d + 3) (E := u + 1) (s := Z a 0 * Z b 0) (v := Z a 0 * Z b 0 * Q) (g := Z4 (a + 1)) ha (by omega) q4 (fun k g1 g2 => ?_) mjUp_at ?_ (fun h => ?_) (by rw [hQ]) (by omega) fun Z7 o7 b7 => ?_
    · rw [mjUp_nc (by omega), ed6]
    · rcases hsa with h | h <;> rcases hsb with h' | h' <;> rw [h, h'] <;> simp
    · rcases hsa with g1 | g1 <;> rcases hsb with g2 | g2 <;> rw [g1, g2] at h <;> simp at h
    · refine hq Z7 (fun x x1 x2 x3 x4 x5 x6 => ?_) (by rw [hvq]; exact b7) ?_
      · rw [o7 x x1 x2, mjUp_nc x1, o6 x x3 x4, mjUp_nc x3, o5 x x4, ho x x2 x5 x6]
      · rw [hvr]
        exact (bgIs_congr b6 (mjUp_nc zar1.symm) (mjUp_nc zar3)).o2 (R2 := R) o7 zar1.symm (by omega) zar3
theorem dv_qr {sa sb A B Q v w : Int} (hsa : sa = -1 ∨ sa = 1) (hsb : sb = -1 ∨ sb = 1) (hv : v = sa * A) (hw : w = sb * B) (hA : 1 ≤ A) (hB : 1 ≤ B) (h0 : 0 ≤ A - Q * B) (h1 : A - Q * B < B) : v.tdiv w = sa * sb * Q ∧ v.tmod w = sa * (A - Q * B) := by
  have hvw := dv_sg hsa hsb hv hw (show A = Q * B + (A - Q * B) by omega)
  generalize A - Q * B = Rm at *
  refine td_uniq hvw (by rw [bgA_s hsa h0, hw, bgA_s hsb (by omega)]; exact h1) ?_
  rw [hv]
  rcases hsa with h | h <;> rw [h] <;> constructor <;> intro _ <;> omega
theorem dv_exit {n u : Nat} {s A B v w : Int} {Z3 Z4 : mjZ} {q : mjZ → Prop} (hK : dvR c (R + 2)) (ha : bgR a R) (hr : bgR r R) (hok : mjOk 0 r) (hZ : Z c 4 = (r : Int)) (xab : bgX a b) (xar : bgX a r) (xbr : bgX b r) (xa : dvX c a) (xb : dvX c b) (xr : dvX c r) (hs : 1 ≤ s ∧ s < 1073741824) (hn : n ≤ R) (hu : u + 1 ≤ R)
    (ho3 : ∀ x, x ≠ c + 1 → x ≠ c + 2 → Z3 x = Z x) (hS : dvS R c a n u (s * B) (s * A) Z3 0 Z4) (hsa : Z a 0 = -1 ∨ Z a 0 = 1) (hsb : Z b 0 = -1 ∨ Z b 0 = 1) (h5 : v = Z a 0 * A) (k5 : w = Z b 0 * B) (hA : 1 ≤ A) (hB : 1 ≤ B)
    (hq : ∀ Z', (∀ x, x ≠ a → x ≠ a + 1 → x ≠ r → x ≠ r + 1 → x ≠ c + 1 → x ≠ c + 2 → Z' x = Z x) → bgIs R Z' a (v.tdiv w) → bgIs R Z' r (v.tmod w) → q Z') : mjL_102_92 (d + 4) c a b (n : Int) (u : Int) s (-1) Z4 q := by
  obtain ⟨o4, d4, t4, q4, T4⟩ := hS
  rw [Nat.sub_zero, Nat.zero_add] at T4
  rw [Nat.sub_zero] at q4
  have hp0 : bgP 0 = 1 := rfl
  rw [hp0, Int.one_mul, Int.mul_left_comm] at T4
  have d4n : bgD (Z4 (c + 1)) 0 n := bgD_sub d4 (Nat.le_refl _) (by omega)
  have hRb := bgS_b n 0 d4n
  have hRs : bgS (Z4 (c + 1)) 0 n = s * (A - bgS (Z4 (a + 1)) 0 (u + 1) * B) := by rw [Int.mul_sub]; omega
  have hRm0 : 0 ≤ A - bgS (Z4 (a + 1)) 0 (u + 1) * B := dv_rm hs.1 hRs.symm hRb.1
  have hRm1 : A - bgS (Z4 (a + 1)) 0 (u + 1) * B < B := by
    rw [hRs] at t4
    exact Int.lt_of_mul_lt_mul_left t4 (by omega)
  have ho4 : ∀ x, x ≠ a + 1 → x ≠ c + 1 → x ≠ c + 2 → Z4 x = Z x := fun x x1 x2 x3 => by rw [o4 x x1 x2, ho3 x x2 x3]
  have hc4 : Z4 c 4 = (r : Int) := by rw [ho4 c (fun h => xa.2.2.2 h.symm) (by omega) (by omega)]; exact hZ
  have hqr := dv_qr hsa hsb h5 k5 hA hB hRm0 hRm1
  exact dv_fin (d := d) hK ha hr hok hc4 xab xar xbr xa xb xr hs hn hu ho4 d4n hRs q4 rfl hsa hsb hqr.1 hqr.2 hq
/-- a by b: a becomes the quotient, r what is left over -/
theorem dv_divide {v w : Int} {q : mjZ → Prop} (hK : dvR c (R + 2)) (ha : bgR a R) (hb : bgR b R) (hr : bgR r R) (hok : mjOk 0 r) (hZ : Z c 4 = (r : Int)) (xab : bgX a b) (xar : bgX a r) (xbr : bgX b r) (xa : dvX c a) (xb : dvX c b) (xr : dvX c r) (hv : bgIs R Z a v) (hw : bgIs R Z b w)
    (hq : ∀ Z', (∀ x, x ≠ a → x ≠ a + 1 → x ≠ r → x ≠ r + 1 → x ≠ c + 1 → x ≠ c + 2 → Z' x = Z x) → bgIs R Z' a (v.tdiv w) → bgIs R Z' r (v.tmod w) → q Z') : mjW0 (d + 5) 102 [yR 1 c, yR 0 a, yR 0 b] Z q := by
  obtain ⟨la, h1, h2, h3, h4, h5, h6, h7, h8, h9, h10⟩ := hv.n
  obtain ⟨n, k1, k2, k3, k4, k5, k6, k7, k8, k9, k10⟩ := hw.n
  obtain ⟨r1, r2, r3⟩ := id ha
  obtain ⟨K1, K2, K3⟩ := id hK
  have hla := h1.1
  have hla2 := h1.2.1
  have hn := k1.1
  have hn2 := k1.2.1
  have e4 : (Z c 4).toNat = r := by rw [hZ]; rfl
  have zab := xab.nn
  have zar := xar.nn
  have zbr := xbr.nn
  have early : bgA v < bgA w ∨ w = 0 → mjOk 0 (Z c 4).toNat ∧ mjW0 (d + 4) 98 [yR 0 ((Z c 4).toNat), yR 0 a] Z (fun Z3 => mjW0 (d + 4) 83 [yR 0 a, yJ 0] Z3 (fun Z4 => q Z4)) := fun hs => by
    rw [e4]
    refine ⟨hok, ?_⟩
    have hqr : v.tdiv w = 0 ∧ v.tmod w = v := by
      rcases hs with hs | hs
      · exact td_small hs
      · rw [hs]; exact ⟨Int.tdiv_zero v, Int.tmod_zero v⟩
    rw [hqr.1, hqr.2] at hq
    refine bg_copy (d := d + 2) hr ha xar.symm hv h10 fun Z3 o3 b3 => ?_
    refine bg_become (d := d + 1) ha (by omega) fun Z4 o4 b4 => ?_
    exact hq Z4 (fun x x1 x2 x3 x4 x5 x6 => by rw [o4 x x1 x2, o3 x x3 x4]) b4 (b3.o2 (R2 := R) o4 (fun g => zar.1 g.symm) (fun g => zar.2.1 g.symm) zar.2.2)
  refine mje_102 (d := d + 3) ⟨by omega, fun h => ?_, fun h => ⟨by omega, fun g => ?_, fun g => ⟨by omega, by omega, fun g2 => ?_, fun g2 => by omega⟩⟩⟩
  · refine early (Or.inr ?_)
    rw [k5, k7 (by omega), Int.mul_zero]
  · refine early (Or.inl ?_)
    rw [h6, k6]
    have := k8 (by omega)
    have := bgP_mono (show la ≤ n - 1 by omega)
    omega
  · have hn0 : 1 ≤ n := by omega
    obtain ⟨p, hp⟩ : ∃ p, n = p + 1 := ⟨n - 1, by omega⟩
    have hB := bgS_b n 0 k1.2.2
    have hA := bgS_b la 0 h1.2.2
    have ht := k1.2.2 (n - 1) (Nat.zero_le _) (by omega)
    have ht0 := k2 (by omega)
    have hsa : Z a 0 = -1 ∨ Z a 0 = 1 := by
      have : Z a 0 ≠ 0 := fun h => by have := h4.mp h; omega
      omega
    have hsb : Z b 0 = -1 ∨ Z b 0 = 1 := by
      have : Z b 0 ≠ 0 := fun h => by have := k4.mp h; omega
      omega
    have hA1 : 1 ≤ bgS (Z (a + 1)) 0 la := by have := h8 (by omega); have := bgP_pos (la - 1); omega
    have hB1 : 1 ≤ bgS (Z (b + 1)) 0 n := by have := k8 (by omega); have := bgP_pos (n - 1); omega
    refine bg_digit hb k1 (by omega) (by omega) ?_
    have i1 : (Z b 1 - 1).toNat = n - 1 := by omega
    rw [i1, bgG_lt k1 (show n - 1 < n by omega), if_neg (show ¬ Z (b + 1) (n - 1) + 1 < 1 by omega)]
    refine ⟨by omega, by omega, by omega, ?_⟩
    rw [Int.tdiv_eq_ediv_of_nonneg (by omega)]
    obtain ⟨s1, s2, s3, s4⟩ := dv_norm (t := Z (b + 1) (n - 1)) (by omega) rfl
    generalize 1073741824 / (Z (b + 1) (n - 1) + 1) = s at *
    have xaf := xa
    have xbf := xb
    refine dv_stretch (d := d + 2) (x := c) (K := R + 2) K1 (by omega) ha ⟨xa.2.1, by have := xa.1; omega⟩ h1 ⟨s1, s2⟩ (by omega) fun Z2 o2 d2 v2 => ?_
    have hb2 : bgW R Z2 b n := bgW_congr k1 ⟨o2 b xb.2.1, o2 (b + 1) (by have := xb.1; omega)⟩
    have eb2 : Z2 (b + 1) = Z (b + 1) := o2 _ (by have := xb.1; omega)
    refine dv_stretch (d := d + 2) (x := c + 1) (K := R + 2) K2 (by omega) hb ⟨xb.2.2.1, by have := xb.2.1; omega⟩ hb2 ⟨s1, s2⟩ (by omega) fun Z3 o3 d3 v3 => ?_
    have o3 : mjO1 (c + 2) Z2 Z3 := o3
    have d3 : bgD (Z3 (c + 2)) 0 (n + 1) := d3
    have v3 : bgS (Z3 (c + 2)) 0 (n + 1) = s * bgS (Z2 (b + 1)) 0 n := v3
    rw [eb2] at v3
    have eu : Z3 (c + 1) = Z2 (c + 1) := o3 _ (by omega)
    -- the divisor's highest places
    have hV0 : s * bgS (Z (b + 1)) 0 n < bgP n := by
      have e1 : bgS (Z (b + 1)) 0 n = bgS (Z (b + 1)) 0 p + bgP p * Z (b + 1) (n - 1) := by
        rw [hp, bgS_app p 1 0, Nat.zero_add, Nat.add_sub_cancel]
        simp [bgS]
      have e2 := (bgS_b p 0 (bgD_sub k1.2.2 (Nat.le_refl _) (by omega))).2
      have e3 : bgP p * (Z (b + 1) (n - 1) + 1) = bgP p * Z (b + 1) (n - 1) + bgP p := by rw [Int.mul_add, Int.mul_one]
      have e4 : s * (bgS (Z (b + 1)) 0 n + 1) ≤ s * (bgP p * (Z (b + 1) (n - 1) + 1)) := Int.mul_le_mul_of_nonneg_left (by omega) (by omega)
      have e5 : s * (bgP p * (Z (b + 1) (n - 1) + 1)) = bgP p * (s * (Z (b + 1) (n - 1) + 1)) := Int.mul_left_comm ..
      have e6 : bgP p * (s * (Z (b + 1) (n - 1) + 1)) ≤ bgP p * 1073741824 := Int.mul_le_mul_of_nonneg_left s3 (Int.le_of_lt (bgP_pos p))
      have e7 : bgP n = 1073741824 * bgP p := by rw [hp]; rfl
      rw [Int.mul_add, Int.mul_one] at e4
      omega
    have hVn : bgS (Z3 (c + 2)) 0 n + bgP n * Z3 (c + 2) n = s * bgS (Z (b + 1)) 0 n := by
      have := v3
      rw [bgS_app n 1 0, Nat.zero_add] at this
      simpa [bgS] using this
    have hdn := d3 n (Nat.zero_le _) (by omega)
    have hVl := bgS_b n 0 (bgD_sub d3 (Nat.le_refl _) (by omega))
    have hl0 : Z3 (c + 2) n = 0 := by
      rcases Int.lt_or_le 0 (Z3 (c + 2) n) with h | h
      · have : bgP n * 1 ≤ bgP n * Z3 (c + 2) n := Int.mul_le_mul_of_nonneg_left (by omega) (Int.le_of_lt (bgP_pos n))
        omega
      · omega
    rw [hl0, Int.mul_zero, Int.add_zero] at hVn
    have hl1 : 536870912 ≤ Z3 (c + 2) (n - 1) := by
      have e1 : bgS (Z (b + 1)) 0 n = bgS (Z (b + 1)) 0 p + bgP p * Z (b + 1) (n - 1) := by
        rw [hp, bgS_app p 1 0, Nat.zero_add, Nat.add_sub_cancel]
        simp [bgS]
      have e2 := (bgS_b p 0 (bgD_sub k1.2.2 (Nat.le_refl _) (by omega))).1
      have e3 : bgS (Z3 (c + 2)) 0 n = bgS (Z3 (c + 2)) 0 p + bgP p * Z3 (c + 2) (n - 1) := by
        rw [hp, bgS_app p 1 0, Nat.zero_add, Nat.add_sub_cancel]
        simp [bgS]
      have e4 := (bgS_b p 0 (bgD_sub d3 (Nat.le_refl _) (by omega))).2
      have e5 : s * (bgP p * Z (b + 1) (n - 1)) ≤ s * bgS (Z (b + 1)) 0 n := Int.mul_le_mul_of_nonneg_left (by omega) (by omega)
      rw [Int.mul_left_comm] at e5
      have e6 : bgP p * 536870912 ≤ bgP p * (s * Z (b + 1) (n - 1)) := Int.mul_le_mul_of_nonneg_left s4 (Int.le_of_lt (bgP_pos p))
      rcases Int.lt_or_le (Z3 (c + 2) (n - 1)) 536870912 with h | h
      · have e7 : bgP p * (Z3 (c + 2) (n - 1) + 1) ≤ bgP p * 536870912 := Int.mul_le_mul_of_nonneg_left (by omega) (Int.le_of_lt (bgP_pos p))
        rw [Int.mul_add, Int.mul_one] at e7
        omega
      · exact h
    obtain ⟨u, hu⟩ : ∃ u, la = u + n := ⟨la - n, by omega⟩
    have eU : Z a 1 - Z b 1 = (u : Int) := by omega
    have huR : u + 1 ≤ R := by omega
    rw [eU, hn2]
    have hTb : bgS (Z3 (c + 1)) 0 (la + 1) = s * bgS (Z (a + 1)) 0 la := by rw [eu]; exact v2
    have hd3 : bgD (Z3 (c + 1)) 0 (la + 1) := by rw [eu]; exact d2
    have htop : bgS (Z3 (c + 1)) (u + 1) n < bgS (Z3 (c + 2)) 0 n := by
      have e1 : bgS (Z3 (c + 1)) 0 (la + 1) = bgS (Z3 (c + 1)) 0 (u + 1) + bgP (u + 1) * bgS (Z3 (c + 1)) (u + 1) n := by
        rw [show la + 1 = (u + 1) + n by omega, bgS_app (u + 1) n 0, Nat.zero_add]
      have e2 := (bgS_b (u + 1) 0 (bgD_sub hd3 (Nat.le_refl _) (by omega))).1
      have e3 : s * bgS (Z (a + 1)) 0 la < s * bgP la := Int.mul_lt_mul_of_pos_left (by omega) (by omega)
      have e4 : bgP la = bgP (u + 1) * bgP p := by rw [← bgP_add]; congr 1; omega
      have e5 : s * bgP p ≤ s * bgS (Z (b + 1)) 0 n := by
        have := k8 (by omega)
        rw [hp, Nat.add_sub_cancel, ← hp] at this
        exact Int.mul_le_mul_of_nonneg_left this (by omega)
      rw [e4, Int.mul_left_comm] at e3
      rcases Int.lt_or_le (bgS (Z3 (c + 1)) (u + 1) n) (bgS (Z3 (c + 2)) 0 n) with h | h
      · exact h
      · have e6 : bgP (u + 1) * (s * bgP p) ≤ bgP (u + 1) * bgS (Z3 (c + 1)) (u + 1) n := Int.mul_le_mul_of_nonneg_left (by omega) (Int.le_of_lt (bgP_pos _))
        omega
    have e5u : (u : Int) = ((u + 1 : Nat) : Int) - 1 := by omega
    have hS0 : dvS R c a n u (bgS (Z3 (c + 2)) 0 n) (s * bgS (Z (a + 1)) 0 la) Z3 (u + 1) Z3 := by
      refine ⟨fun _ _ _ => rfl, by rw [show u + n + 1 = la + 1 by omega]; exact hd3, htop, fun k g1 g2 => by omega, ?_⟩
      rw [Nat.sub_self, show u + 1 + n = la + 1 by omega, hTb]
      simp [bgS]
    have hgo := dv_loop (d := d + 1) (b := b) (s := s) (q := q) (u := u) (n := n) (T := s * bgS (Z (a + 1)) 0 la) (Z := Z3) hK ha xa hn0 (by omega) d3 hl0 hl1 ?_ (u + 1) Z3 (Nat.le_refl _) hS0
    · rw [← e5u] at hgo
      exact hgo
    · intro Z4 hS4
      rw [hVn] at hS4
      exact dv_exit (d := d) hK ha hr hok hZ xab xar xbr xa xb xr ⟨s1, s2⟩ hn huR (fun x x1 x2 => by rw [o3 x x2, o2 x x1]) hS4 hsa hsb h5 k5 hA1 hB1 hq
end DVD
