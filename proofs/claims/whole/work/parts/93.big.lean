/-! Great numbers: comparing, adding with signs, scaling. -/
section BGC
variable {d R R2 c e : Nat} {Z : mjZ}
theorem bg_atLeastL {n m : Nat} {q : Int → mjZ → Prop} (hR : bgR c R) (hR2 : bgR e R2) (h1 : bgW R Z c n) (h2 : bgW R2 Z e m) (hnm : n = m) (hq : q (if bgS (Z (e + 1)) 0 m ≤ bgS (Z (c + 1)) 0 n then 1 else 0) Z) : ∀ i : Nat, i ≤ n → (∀ k, i ≤ k → k < n → Z (c + 1) k = Z (e + 1) k) → mjL_100_35 (d + 1) c e ((i : Int) - 1) Z q
  | 0, hi, hk => by
    subst hnm
    rw [bgS_eq (g := Z (e + 1)) fun k hk2 => hk k (Nat.zero_le _) hk2, if_pos (Int.le_refl _)] at hq
    exact mjl_100_35 ⟨by omega, fun _ => hq, fun h => by omega⟩
  | i + 1, hi, hk => by
    subst hnm
    obtain ⟨r1, r2, r3⟩ := id hR
    have h3 := h1.1
    have e1 : ((i + 1 : Nat) : Int) - 1 = (i : Int) := by omega
    rw [e1]
    have g1 := bgG_b h1 i
    have g2 := bgG_b h2 i
    have g3 := bgG_lt h1 hi
    have g4 := bgG_lt h2 hi
    refine mjl_100_35 ⟨by omega, fun h => by omega, fun _ => ?_⟩
    refine bg_digit hR h1 (by omega) (by omega) ?_
    refine bg_digit hR2 h2 (by omega) (by omega) ?_
    rw [show ((i : Int)).toNat = i from rfl]
    refine ⟨by omega, by omega, fun h => ?_, fun h => ?_⟩
    · refine bg_atLeastL hR hR2 h1 h2 rfl hq i (by omega) fun k k1 k2 => ?_
      rcases Nat.eq_or_lt_of_le k1 with k3 | k3
      · subst k3
        rw [← g3, ← g4]; exact h
      · exact hk k k3 k2
    · refine bg_digit hR h1 (by omega) (by omega) ?_
      refine bg_digit hR2 h2 (by omega) (by omega) ?_
      rw [show ((i : Int)).toNat = i from rfl]
      refine ⟨by omega, by omega, fun h5 => ?_, fun h5 => ?_⟩
      · have := bgS_gt (f := Z (e + 1)) (g := Z (c + 1)) (n := n) (i := i) h2.2.2 h1.2.2 hi (fun k k1 k2 => (hk k k1 k2).symm) (by omega)
        rw [if_neg (by omega)] at hq
        exact hq
      · have := bgS_gt (f := Z (c + 1)) (g := Z (e + 1)) (n := n) (i := i) h1.2.2 h2.2.2 hi (fun k k1 k2 => hk k k1 k2) (by omega)
        rw [if_pos (by omega)] at hq
        exact hq
theorem bg_atLeast {v w : Int} {q : Int → mjZ → Prop} (hR : bgR c R) (hR2 : bgR e R2) (hv : bgIs R Z c v) (hw : bgIs R2 Z e w) (hq : q (if bgA w ≤ bgA v then 1 else 0) Z) : mjW1 (d + 2) 100 [yR 0 c, yR 0 e] Z q := by
  obtain ⟨n, h1, h2, h3, h4, h5, h6, h7, h8, h9, h10⟩ := hv.n
  obtain ⟨m, k1, k2, k3, k4, k5, k6, k7, k8, k9, k10⟩ := hw.n
  obtain ⟨r1, r2, r3⟩ := id hR
  obtain ⟨t1, t2, t3⟩ := id hR2
  have u2 := h1.2.1
  have w2 := k1.2.1
  have u1 := h1.1
  have w1 := k1.1
  rw [h6, k6] at hq
  refine mje_100 (d := d + 1) ⟨by omega, by omega, fun h => ?_, fun h => ⟨fun h0 => ?_, fun h0 => ?_⟩⟩
  · rw [u2]
    exact bg_atLeastL hR hR2 h1 k1 (by omega) hq n (Nat.le_refl _) fun k g1 g2 => by omega
  · have := k8 (by omega)
    have := bgP_mono (show n ≤ m - 1 by omega)
    rw [if_neg (by omega)] at hq
    exact hq
  · have := h8 (by omega)
    have := bgP_mono (show m ≤ n - 1 by omega)
    rw [if_pos (by omega)] at hq
    exact hq
theorem bgIs_flip {v : Int} {s : Int} (h : bgIs R Z c v) (hv : v ≠ 0) (hs : s = -1 ∨ s = 1) : bgIs R (mjUp Z c 0 s) c (s * bgA v) := by
  obtain ⟨n, h1, h2, h3, h4, h5, h6, h7, h8, h9, h10⟩ := h.n
  have e1 : mjUp Z c 0 s c 1 = Z c 1 := mjUp_ne fun _ => by omega
  have e2 : mjUp Z c 0 s (c + 1) = Z (c + 1) := mjUp_nc (by omega)
  refine ⟨n, ⟨h1.1, by rw [e1]; exact h1.2.1, by rw [e2]; exact h1.2.2⟩, by rw [e2]; exact h2, by rw [mjUp_at]; omega, ?_, by rw [mjUp_at, e2, h6]⟩
  rw [mjUp_at]
  refine ⟨fun h => by omega, fun h => ?_⟩
  have h0 := h4.mpr h
  rw [h0, Int.zero_mul] at h5
  exact absurd h5 hv
theorem bgA_le {x y : Int} : bgA (x + y) ≤ bgA x + bgA y := by unfold bgA; repeat' split <;> omega
theorem bg_add {v w s : Int} {q : mjZ → Prop} (hR : bgR c R) (hR2 : bgR e R2) (hx : bgX c e) (hv : bgIs R Z c v) (hw : bgIs R2 Z e w) (hs : s = -1 ∨ s = 1) (hf : bgA (v + s * w) < bgP R) (hfw : bgA w < bgP R) (hq : ∀ Z', mjO2 c Z Z' → bgIs R Z' c (v + s * w) → q Z') : mjW0 (d + 4) 97 [yR 0 c, yR 0 e, yI s] Z q := by
  obtain ⟨n, h1, h2, h3, h4, h5, h6, h7, h8, h9, h10⟩ := hv.n
  obtain ⟨m, k1, k2, k3, k4, k5, k6, k7, k8, k9, k10⟩ := hw.n
  obtain ⟨r1, r2, r3⟩ := id hR
  have hA := (bgS_b n 0 h1.2.2).1
  have hB := (bgS_b m 0 k1.2.2).1
  have ht : Z e 0 * s = -1 ∨ Z e 0 * s = 0 ∨ Z e 0 * s = 1 := by rcases hs with h | h <;> subst h <;> rcases k3 with h | h | h <;> rw [h] <;> simp
  have ht0 : Z e 0 * s = 0 → Z e 0 = 0 := fun h => by rcases hs with h2 | h2 <;> subst h2 <;> omega
  have hts : s * w = (Z e 0 * s) * bgS (Z (e + 1)) 0 m := by
    conv => lhs; rw [k5]
    rw [← Int.mul_assoc, Int.mul_comm s]
  refine mje_97 (d := d + 3) ⟨by omega, fun h => ⟨by omega, fun g => ⟨fun g1 => ?_, fun g1 => ?_⟩, fun g => ?_⟩, fun h => ?_⟩
  · refine bg_atLeast (d := d + 1) hR hR2 hv hw ?_
    rw [h6, k6]
    have hop : Z c 0 = -(Z e 0 * s) := by omega
    refine ⟨by split <;> omega, fun g2 => ?_, fun g2 => ?_⟩
    · have g3 : bgS (Z (c + 1)) 0 n < bgS (Z (e + 1)) 0 m := by
        rcases Int.lt_or_le (bgS (Z (c + 1)) 0 n) (bgS (Z (e + 1)) 0 m) with q1 | q1
        · exact q1
        · rw [if_pos q1] at g2; omega
      have e1 : mjUp Z c 0 (Z e 0 * s) (c + 1) = Z (c + 1) := mjUp_nc (by omega)
      have e2 : mjUp Z c 0 (Z e 0 * s) c 1 = Z c 1 := mjUp_ne fun _ => by omega
      have e3 : mjUp Z c 0 (Z e 0 * s) (e + 1) = Z (e + 1) := mjUp_nc hx.2.2
      have e4 : mjUp Z c 0 (Z e 0 * s) e = Z e := mjUp_nc hx.1
      refine bg_takeSize (d := d) (n := n) (m := m) (t := 1) hR hR2 hx ⟨h1.1, by rw [e2]; exact h1.2.1, by rw [e1]; exact h1.2.2⟩ ⟨k1.1, by rw [e4]; exact k1.2.1, by rw [e3]; exact k1.2.2⟩ (by rw [mjUp_at]; omega) (Or.inr rfl) (by rw [e1, e3]; omega) (by rw [if_neg (by decide), e1, e3]; omega) fun Z2 o2 b2 => hq Z2 (mjO2.up0.trans o2) ?_
      rw [if_neg (by decide), mjUp_at, e1, e3] at b2
      rw [hts, h5, hop]
      rw [Int.mul_sub] at b2
      rw [Int.neg_mul, Int.add_comm]
      exact b2
    · have g3 : bgS (Z (e + 1)) 0 m ≤ bgS (Z (c + 1)) 0 n := by
        rcases Int.lt_or_le (bgS (Z (c + 1)) 0 n) (bgS (Z (e + 1)) 0 m) with q1 | q1
        · rw [if_neg (by omega)] at g2; omega
        · exact q1
      refine bg_takeSize (d := d) (n := n) (m := m) (t := 0) hR hR2 hx h1 k1 (by omega) (Or.inl rfl) (by omega) (by rw [if_pos rfl]; omega) fun Z2 o2 b2 => hq Z2 o2 ?_
      rw [if_pos rfl] at b2
      have hop2 : Z e 0 * s = -(Z c 0) := by omega
      rw [hts, h5, hop2]
      rw [Int.mul_sub] at b2
      rw [Int.neg_mul, ← Int.sub_eq_add_neg]
      exact b2
  · have hsame : Z e 0 * s = Z c 0 := by omega
    have hsum : v + s * w = Z c 0 * (bgS (Z (c + 1)) 0 n + bgS (Z (e + 1)) 0 m) := by rw [hts, hsame, Int.mul_add, ← h5]
    have hfs : bgS (Z (c + 1)) 0 n + bgS (Z (e + 1)) 0 m < bgP R := by
      rw [hsum, bgA_s (by omega) (by omega)] at hf
      exact hf
    refine bg_addSize (d := d) hR hR2 hx h1 k1 (by omega) hfs fun Z2 o2 b2 => hq Z2 o2 ?_
    rw [hsum]
    exact b2
  · have g0 : Z c 0 = 0 := Classical.not_not.mp g
    have hv0 : v = 0 := by rw [h5, g0, Int.zero_mul]
    have hw0 : w ≠ 0 := fun h9 => by
      subst h9
      have : Z e 0 ≠ 0 := fun h0 => by rw [h0] at h; simp at h
      have hm : 0 < m := by
        rcases Nat.eq_zero_or_pos m with hm | hm
        · exact absurd (k4.mpr hm) this
        · exact hm
      have := k8 hm
      have := bgP_pos (m - 1)
      have h0 : bgA 0 = 0 := rfl
      omega
    refine bg_copy (d := d + 1) hR hR2 hx hw hfw fun Z2 o2 b2 => hq _ (o2.trans mjO2.up0) ?_
    have := bgIs_flip (s := Z e 0 * s) b2 hw0 (by omega)
    rw [hv0, Int.zero_add, hts, ← k6]
    exact this
  · have h0 : Z e 0 * s = 0 := Classical.not_not.mp h
    have : v + s * w = v := by rw [hts, h0, Int.zero_mul, Int.add_zero]
    rw [this] at hq
    exact hq Z mjO2.rfl' hv
def scF (a : Int) (f : Nat → Int) (i : Nat) (y : Int) : Int := (y + f i * a) / 1073741824
def scG (a : Int) (f : Nat → Int) (i : Nat) (y : Int) : Int := (y + f i * a) % 1073741824
theorem sc_val {a : Int} {f g : Nat → Int} {y' : Int} : ∀ (m i : Nat) (y : Int), bgT (scF a f) (scG a f) i m y g y' → bgS g i m + bgP m * y' = a * bgS f i m + y
  | 0, i, y, h => by
    cases h
    simp [bgS, bgP]
  | m + 1, i, y, h => by
    have h1 := sc_val m (i + 1) _ h.2
    have h2 := h.1
    unfold bgS bgP
    rw [Int.mul_assoc, Int.mul_add, Int.mul_left_comm a, Int.mul_comm a (f i)]
    unfold scF at h1
    unfold scG at h2
    omega
theorem bg_mulb {x a : Int} (hx : 0 ≤ x ∧ x < 1073741824) (ha : 0 ≤ a) : 0 ≤ x * a ∧ x * a ≤ 1073741823 * a := ⟨Int.mul_nonneg hx.1 ha, Int.mul_le_mul_of_nonneg_right (by omega) ha⟩
theorem bg_scaleBy {v f : Int} {q : mjZ → Prop} (hR : bgR c R) (hv : bgIs R Z c v) (hff : -1073741824 < f ∧ f < 1073741824) (hf : bgA (v * f) < bgP R) (hq : ∀ Z', mjO2 c Z Z' → bgIs R Z' c (v * f) → q Z') : mjW0 (d + 3) 92 [yR 0 c, yI f] Z q := by
  obtain ⟨n, h1, h2, h3, h4, h5, h6, h7, h8, h9, h10⟩ := hv.n
  obtain ⟨r1, r2, r3⟩ := id hR
  have hn := h1.1
  have hn2 := h1.2.1
  have hA := (bgS_b n 0 h1.2.2).1
  have ha : (if 0 < f then f else -f) = bgA f := by unfold bgA; repeat' split <;> omega
  have ha0 : 0 ≤ bgA f := bgA_0
  have ha1 : bgA f < 1073741824 := by unfold bgA; split <;> omega
  refine mje_92 (d := d + 1) ⟨by omega, by omega, ?_⟩
  rw [ha, hn2]
  refine bg_loop (R := R) (c := c) (E := n + 1) (Z0 := Z) (L := fun i y Z => mjL_92_20 (d + 2) c f (bgA f) y ((n : Int) + 1) i Z q) (F := scF (bgA f) (bgG Z c)) (G := scG (bgA f) (bgG Z c)) (Y := fun _ y => 0 ≤ y ∧ y ≤ bgA f) (fun i y _ hy => ?_) (fun i y Z1 hi hI hy hL => ?_) (n + 1) 0 0 Z (Nat.zero_add _) bgI_0 (by omega) fun Z' y' g hy' hI _ hg hd hT => ?_
  · have g1 := bg_mulb (bgG_b h1 i) ha0
    unfold scF scG
    omega
  · have g1 := bg_mulb (bgG_b h1 i) ha0
    have g2 := bgG_b h1 i
    refine mjl_92_20 ⟨by omega, by omega, fun h => by omega, fun _ => ?_⟩
    refine bg_digit hR (bgI_W h1 hI) (by omega) (by omega) ?_
    rw [show ((i : Int)).toNat = i from rfl, bgI_G hI (Nat.le_refl i)]
    refine ⟨by omega, ?_⟩
    rw [wAndJ, wUshJ (by omega) (by omega)]
    exact bg_setDigit hR (by omega) (by omega) hL
  · have hV := sc_val _ 0 0 hT
    rw [bgG_S h1 (show n ≤ n + 1 by omega), Int.add_zero] at hV
    have hb := bgS_b (n + 1) 0 hg
    have hP3 : bgP (n + 1) = 1073741824 * bgP n := rfl
    have hup : bgA f * bgS (Z (c + 1)) 0 n ≤ 1073741823 * bgS (Z (c + 1)) 0 n := Int.mul_le_mul_of_nonneg_right (by omega) hA
    have hy0 : bgP (n + 1) * y' = 0 := by
      rcases Int.lt_or_le 0 y' with h | h
      · have : bgP (n + 1) * 1 ≤ bgP (n + 1) * y' := Int.mul_le_mul_of_nonneg_left (by omega) (Int.le_of_lt (bgP_pos _))
        omega
      · have : y' = 0 := by omega
        rw [this, Int.mul_zero]
    rw [hy0, Int.add_zero] at hV
    have hsz : bgA (v * f) = bgS g 0 (n + 1) := by
      rw [hV, ← h6]
      unfold bgA
      rcases Int.lt_or_le v 0 with q1 | q1 <;> rcases Int.lt_or_le f 0 with q2 | q2
      · rw [if_pos (Int.mul_nonneg_of_nonpos_of_nonpos (by omega) (by omega)), if_neg (by omega), if_neg (by omega), Int.neg_mul_neg, Int.mul_comm]
      · rw [if_pos q2, if_neg (show ¬ 0 ≤ v by omega)]
        rcases (show f = 0 ∨ 0 < f by omega) with q3 | q3
        · subst q3; simp
        · rw [if_neg (by have := Int.mul_neg_of_neg_of_pos q1 q3; omega), Int.mul_neg, Int.mul_comm]
      · rw [if_pos q1, if_neg (show ¬ 0 ≤ f by omega)]
        rcases (show v = 0 ∨ 0 < v by omega) with q3 | q3
        · subst q3; simp
        · rw [if_neg (by have := Int.mul_neg_of_pos_of_neg q3 q2; omega), Int.neg_mul, Int.mul_comm]
      · rw [if_pos (Int.mul_nonneg q1 q2), if_pos q1, if_pos q2, Int.mul_comm]
    have ec : Z' c 0 = Z c 0 := by rw [hI.1 c (by omega)]
    refine mjl_92_20 ⟨by omega, by omega, fun _ => ⟨by omega, fun g1 => ?_, fun g1 => ?_⟩, fun h => by omega⟩
    · refine bg_end (E := n + 1) (s := Z c 0) (v := v * f) (g := g) hR (by omega) hg (fun k g2 g3 => ?_) (by rw [mjUp_at, ec]) h3 (fun h => ?_) ?_ (by omega) fun Z2 o2 b2 => hq Z2 ((hI.1.to2.trans mjO2.up0).trans o2) b2
      · rw [mjUp_nc (by omega)]; exact hd k (Nat.zero_le _) g2 g3
      · rw [hV, h7 (h4.mp h), Int.mul_zero]
      · have : bgA f = f := by unfold bgA; rw [if_pos g1]
        rw [hV, this, Int.mul_comm f, ← Int.mul_assoc, ← h5]
    · refine bg_end (E := n + 1) (s := -(Z c 0)) (v := v * f) (g := g) hR (by omega) hg (fun k g2 g3 => ?_) (by rw [mjUp_at, ec]) (by omega) (fun h => ?_) ?_ (by omega) fun Z2 o2 b2 => hq Z2 ((hI.1.to2.trans mjO2.up0).trans o2) b2
      · rw [mjUp_nc (by omega)]; exact hd k (Nat.zero_le _) g2 g3
      · rw [hV, h7 (h4.mp (by omega)), Int.mul_zero]
      · have : bgA f = -f := by unfold bgA; rw [if_neg g1]
        rw [hV, this, Int.neg_mul f, Int.neg_mul_neg, Int.mul_comm f, ← Int.mul_assoc, ← h5]
end BGC
