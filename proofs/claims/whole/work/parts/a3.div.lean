/-! Long division: a digit taken off, put back, what is left. -/
section DVB
variable {d R R2 c e K : Nat} {Z : mjZ}
def pbF (u l : Nat → Int) (o j : Nat) (y : Int) : Int := (y + (u j + l (j - o))) / 1073741824
def pbG (u l : Nat → Int) (o j : Nat) (y : Int) : Int := (y + (u j + l (j - o))) % 1073741824
theorem pb_val {u l g : Nat → Int} {o : Nat} {y' : Int} : ∀ (m i : Nat) (y : Int), o ≤ i → bgT (pbF u l o) (pbG u l o) i m y g y' → bgS g i m + bgP m * y' = bgS u i m + bgS l (i - o) m + y
  | 0, i, y, _, h => by
    cases h
    simp [bgS, bgP]
  | m + 1, i, y, ho, h => by
    have h1 := pb_val m (i + 1) _ (by omega) h.2
    have h2 := h.1
    rw [show i + 1 - o = i - o + 1 by omega] at h1
    unfold bgS bgP
    rw [Int.mul_assoc]
    unfold pbF at h1
    unfold pbG at h2
    omega
def tfF (gq : Int) (u l : Nat → Int) (o j : Nat) (y : Int) : Int := (y + gq * l (j - o)) / 1073741824 + (if 0 ≤ u j - (y + gq * l (j - o)) % 1073741824 then 0 else 1)
def tfG (gq : Int) (u l : Nat → Int) (o j : Nat) (y : Int) : Int := (u j - (y + gq * l (j - o)) % 1073741824) % 1073741824
theorem tf_val {gq : Int} {u l g : Nat → Int} {o E : Nat} {y' : Int} (hu : ∀ j, o ≤ j → j < E → 0 ≤ u j ∧ u j < 1073741824) : ∀ (m i : Nat) (y : Int), o ≤ i → i + m = E → bgT (tfF gq u l o) (tfG gq u l o) i m y g y' → bgS g i m - bgP m * y' = bgS u i m - gq * bgS l (i - o) m - y
  | 0, i, y, _, _, h => by
    cases h
    simp [bgS, bgP]
  | m + 1, i, y, ho, hE, h => by
    have h1 := tf_val hu m (i + 1) _ (by omega) (by omega) h.2
    have h2 := h.1
    have h3 := hu i ho (by omega)
    rw [show i + 1 - o = i - o + 1 by omega] at h1
    unfold bgS bgP
    rw [Int.mul_assoc, Int.mul_add, Int.mul_left_comm gq]
    unfold tfF at h1
    unfold tfG at h2
    split at h1 <;> omega
/-- what a window of the upper row becomes -/
def dvWin (c j m : Nat) (Z Z' : mjZ) : Prop := mjO1 (c + 1) Z Z' ∧ (∀ k, k < j ∨ j + m ≤ k → Z' (c + 1) k = Z (c + 1) k) ∧ bgD (Z' (c + 1)) j m
theorem dv_putBack {j n : Nat} {q : mjZ → Prop} (hK : dvR c K) (hu : bgD (Z (c + 1)) 0 (j + (n + 1))) (hl : bgD (Z (c + 2)) 0 (n + 1)) (hjn : j + n < K)
    (hq : ∀ (Z' : mjZ) (y' : Int), dvWin c j (n + 1) Z Z' → 0 ≤ y' → bgS (Z' (c + 1)) j (n + 1) + bgP (n + 1) * y' = bgS (Z (c + 1)) j (n + 1) + bgS (Z (c + 2)) 0 (n + 1) → q Z') : mjW0 (d + 1) 108 [yR 1 c, yI (j : Int), yI (n : Int)] Z q := by
  obtain ⟨k1, k2, k3⟩ := id hK
  refine mje_108 (d := d) ?_
  have hI0 : bgI K c Z j Z := ⟨fun _ _ => rfl, fun _ _ => rfl, fun k g1 g2 => hu k (Nat.zero_le _) (by omega)⟩
  refine bg_loop (R := K) (c := c) (E := j + (n + 1)) (Z0 := Z) (L := fun J y Z => ∀ i, J = j + i → mjL_108_5 d c j n y i Z q) (F := pbF (Z (c + 1)) (Z (c + 2)) j) (G := pbG (Z (c + 1)) (Z (c + 2)) j) (Y := fun _ y => 0 ≤ y ∧ y ≤ 1) (fun J y hJ hy => ?_) (fun J y Z1 hJ hI hy hL i hi => ?_) (n + 1) j 0 Z rfl hI0 (by omega) (fun Z' y' g hy' hI hlo hg hdd hT i hi => ?_) 0 rfl
  · unfold pbF pbG
    have g1 := hu J (Nat.zero_le _) (by omega)
    have g2 := hl (J - j) (Nat.zero_le _) (by omega)
    omega
  · subst hi
    have g1 := hu (j + i) (Nat.zero_le _) (by omega)
    have g2 := hl i (Nat.zero_le _) (by omega)
    have e1 : Z1 (c + 1) (j + i) = Z (c + 1) (j + i) := hI.2.1 _ (Nat.le_refl _)
    have e2 : Z1 (c + 2) = Z (c + 2) := hI.1 _ (by omega)
    have hn : ((j : Int) + (i : Int)).toNat = j + i := by omega
    have hL2 := hL (i + 1) (by omega)
    unfold pbF pbG bgU at hL2
    rw [if_pos (by omega), show j + i - j = i by omega] at hL2
    refine mjl_108_5 ⟨by omega, by omega, fun h => by omega, fun _ => ⟨by omega, fun h => by omega, fun _ => ⟨by omega, by omega, fun h => by omega, fun _ => ?_⟩⟩⟩
    rw [hn, e1, e2]
    refine ⟨by omega, by omega, by omega, by omega, by omega, ?_⟩
    rw [wAndJ, wUshJ (by omega) (by omega)]
    exact hL2
  · have him : i = n + 1 := by omega
    subst him
    have hV := pb_val _ j 0 (Nat.le_refl _) hT
    rw [Nat.sub_self, Int.add_zero] at hV
    have hgd : ∀ k, j ≤ k → k < j + (n + 1) → Z' (c + 1) k = g k := fun k g1 g2 => hdd k g1 g2 (by omega)
    have hfin : q Z' := hq Z' y' ⟨hI.1, fun k hk => by
      rcases hk with hk | hk
      · exact hlo k hk
      · exact hI.2.1 k hk, fun k g1 g2 => by rw [hgd k g1 g2]; exact hg k g1 g2⟩ hy'.1 (by rw [bgS_congr (n + 1) j hgd]; exact hV)
    exact mjl_108_5 ⟨by omega, by omega, fun _ => hfin, fun h => by omega⟩
theorem dv_takeOff {j n : Nat} {gq qt r : Int} {q : Int → mjZ → Prop} (hK : dvR c K) (hu : bgD (Z (c + 1)) 0 (j + (n + 1))) (hl : bgD (Z (c + 2)) 0 (n + 1)) (hjn : j + n < K) (hg : 0 ≤ gq ∧ gq ≤ 1073741824) (hgq : gq = qt ∨ gq = qt + 1) (hW : bgS (Z (c + 1)) j (n + 1) = qt * bgS (Z (c + 2)) 0 (n + 1) + r) (hr : 0 ≤ r ∧ r < bgS (Z (c + 2)) 0 (n + 1))
    (hq : ∀ Z' : mjZ, dvWin c j (n + 1) Z Z' → bgS (Z' (c + 1)) j (n + 1) = r → q qt Z') : mjW1 (d + 2) 107 [yR 1 c, yI (j : Int), yI (n : Int), yJ gq] Z q := by
  obtain ⟨k1, k2, k3⟩ := id hK
  refine mje_107 (d := d + 1) ?_
  have hI0 : bgI K c Z j Z := ⟨fun _ _ => rfl, fun _ _ => rfl, fun k g1 g2 => hu k (Nat.zero_le _) (by omega)⟩
  have hll : ∀ J, J < j + (n + 1) → 0 ≤ gq * Z (c + 2) (J - j) ∧ gq * Z (c + 2) (J - j) ≤ 1152921503533105152 := fun J hJ => by
    have g2 := hl (J - j) (Nat.zero_le _) (by omega)
    refine ⟨Int.mul_nonneg hg.1 g2.1, ?_⟩
    have h1 : gq * Z (c + 2) (J - j) ≤ 1073741824 * Z (c + 2) (J - j) := Int.mul_le_mul_of_nonneg_right hg.2 g2.1
    omega
  refine bg_loop (R := K) (c := c) (E := j + (n + 1)) (Z0 := Z) (L := fun J y Z => ∀ i, J = j + i → mjL_107_6 (d + 1) c j n gq y i Z q) (F := tfF gq (Z (c + 1)) (Z (c + 2)) j) (G := tfG gq (Z (c + 1)) (Z (c + 2)) j) (Y := fun _ y => 0 ≤ y ∧ y ≤ 1073741824) (fun J y hJ hy => ?_) (fun J y Z1 hJ hI hy hL i hi => ?_) (n + 1) j 0 Z rfl hI0 (by omega) (fun Z' y' g hy' hI hlo hgd0 hdd hT i hi => ?_) 0 rfl
  · unfold tfF tfG
    have g1 := hu J (Nat.zero_le _) (by omega)
    have g2 := hll J hJ
    refine ⟨?_, by omega, by omega⟩
    split <;> omega
  · subst hi
    have g1 := hu (j + i) (Nat.zero_le _) (by omega)
    have g2 := hl i (Nat.zero_le _) (by omega)
    have g3 := hll (j + i) hJ
    rw [show j + i - j = i by omega] at g3
    have e1 : Z1 (c + 1) (j + i) = Z (c + 1) (j + i) := hI.2.1 _ (Nat.le_refl _)
    have e2 : Z1 (c + 2) = Z (c + 2) := hI.1 _ (by omega)
    have hn : ((j : Int) + (i : Int)).toNat = j + i := by omega
    have hL2 := hL (i + 1) (by omega)
    unfold tfF tfG bgU at hL2
    rw [show j + i - j = i by omega, if_pos (show j + i < K by omega)] at hL2
    refine mjl_107_6 ⟨by omega, by omega, fun h => by omega, fun _ => ⟨by omega, fun h => by omega, fun _ => ⟨by omega, by omega, fun h => by omega, fun _ => ?_⟩⟩⟩
    rw [hn, e1, e2, wAndJ, wUshJ (by omega) (by omega), wAndJ]
    refine ⟨by omega, by omega, by omega, by omega, by omega, by omega, by omega, fun h => ?_, fun h => ?_⟩
    · rw [if_pos h] at hL2
      exact hL2
    · rw [if_neg h] at hL2
      exact hL2
  · have him : i = n + 1 := by omega
    subst him
    have hV := tf_val (E := j + (n + 1)) (fun k g1 g2 => hu k (Nat.zero_le _) (by omega)) _ j 0 (Nat.le_refl _) rfl hT
    rw [Nat.sub_self, Int.sub_zero, hW] at hV
    have hgd : ∀ k, j ≤ k → k < j + (n + 1) → Z' (c + 1) k = g k := fun k g1 g2 => hdd k g1 g2 (by omega)
    have hwin : dvWin c j (n + 1) Z Z' := ⟨hI.1, fun k hk => by
      rcases hk with hk | hk
      · exact hlo k hk
      · exact hI.2.1 k hk, fun k g1 g2 => by rw [hgd k g1 g2]; exact hgd0 k g1 g2⟩
    have hS : bgS (Z' (c + 1)) j (n + 1) = bgS g j (n + 1) := bgS_congr (n + 1) j hgd
    have hb := bgS_b (n + 1) j hgd0
    have hlb := bgS_b (n + 1) 0 hl
    have hP := bgP_pos (n + 1)
    have hmul : gq = qt → gq * bgS (Z (c + 2)) 0 (n + 1) = qt * bgS (Z (c + 2)) 0 (n + 1) := fun h => by rw [h]
    have hmul2 : gq = qt + 1 → gq * bgS (Z (c + 2)) 0 (n + 1) = qt * bgS (Z (c + 2)) 0 (n + 1) + bgS (Z (c + 2)) 0 (n + 1) := fun h => by rw [h, Int.add_mul, Int.one_mul]
    have hy1 : 1 ≤ y' → bgP (n + 1) * 1 ≤ bgP (n + 1) * y' := fun h => Int.mul_le_mul_of_nonneg_left h (by omega)
    have hy2 : 2 ≤ y' → bgP (n + 1) * 2 ≤ bgP (n + 1) * y' := fun h => Int.mul_le_mul_of_nonneg_left h (by omega)
    have hy0 : y' = 0 → bgP (n + 1) * y' = 0 := fun h => by rw [h, Int.mul_zero]
    have hy3 : y' = 1 → bgP (n + 1) * y' = bgP (n + 1) := fun h => by rw [h, Int.mul_one]
    have hfin : (y' ≠ 0 → mjW0 (d + 1) 108 [yR 1 c, yI (j : Int), yI (n : Int)] Z' (fun Z2 => q (gq - 1) Z2)) ∧ (¬ y' ≠ 0 → q gq Z') := by
      refine ⟨fun h => ?_, fun h => ?_⟩
      · have hy : y' = 1 ∧ gq = qt + 1 := by
          rcases hgq with k | k
          · have := hmul k; have := hy1 (by omega); omega
          · have := hmul2 k
            rcases (show y' = 1 ∨ 2 ≤ y' by omega) with k2 | k2
            · exact ⟨k2, k⟩
            · have := hy2 k2; omega
        have e2 : Z' (c + 2) = Z (c + 2) := hI.1 _ (by omega)
        refine dv_putBack hK (fun k g1 g2 => ?_) (by rw [e2]; exact hl) hjn fun Z2 y2 w2 hy2' hv2 => ?_
        · rcases Nat.lt_or_ge k j with k9 | k9
          · rw [hlo k k9]; exact hu k g1 g2
          · have g3 : k < j + (n + 1) := by omega
            rw [hgd k k9 g3]; exact hgd0 k k9 g3
        · rw [e2, hS] at hv2
          have m2 := hmul2 hy.2
          have m3 := hy3 hy.1
          have hb2 := bgS_b (n + 1) j w2.2.2
          have hyy : bgP (n + 1) * y2 = bgP (n + 1) := by
            rcases (show y2 = 0 ∨ y2 = 1 ∨ 2 ≤ y2 by omega) with k2 | k2 | k2
            · rw [k2, Int.mul_zero] at hv2; omega
            · rw [k2, Int.mul_one]
            · have : bgP (n + 1) * 2 ≤ bgP (n + 1) * y2 := Int.mul_le_mul_of_nonneg_left k2 (by omega)
              omega
          rw [show gq - 1 = qt by omega]
          refine hq Z2 ⟨hwin.1.trans w2.1, fun k hk => (w2.2.1 k hk).trans (hwin.2.1 k hk), w2.2.2⟩ ?_
          omega
      · have h0 : y' = 0 := Classical.not_not.mp h
        have m0 := hy0 h0
        have hqq : gq = qt := by
          rcases hgq with k | k
          · exact k
          · have := hmul2 k; omega
        have := hmul hqq
        rw [hqq]
        exact hq Z' hwin (by rw [hS]; omega)
    exact mjl_107_6 ⟨by omega, by omega, fun _ => ⟨by omega, hfin⟩, fun h => by omega⟩
/-- what is left is divided by the stretch, digit by digit from the top -/
theorem dv_shrinkL {n r Rr : Nat} {s : Int} {q : mjZ → Prop} (hK : dvR c K) (hok : mjOk 0 r) (hR : bgR r Rr) (hr : Z c 4 = (r : Int)) (hx : r + 1 ≠ c ∧ r + 1 ≠ c + 1) (hn : n ≤ K) (hs : 1 ≤ s ∧ s < 1073741824) (hu : bgD (Z (c + 1)) 0 n) : ∀ (i : Nat) (y : Int) (Z1 : mjZ), i ≤ n → 0 ≤ y → y < s → mjO1 (r + 1) Z Z1 → (∀ (Z' : mjZ) (g : Nat → Int) (yf : Int), mjO1 (r + 1) Z Z' → (∀ k, i ≤ k → Z' (r + 1) k = Z1 (r + 1) k) → bgD g 0 i → (∀ k, k < i → k < Rr → Z' (r + 1) k = g k) → 0 ≤ yf → yf < s → s * bgS g 0 i + yf = bgS (Z (c + 1)) 0 i + bgP i * y → q Z') → mjL_109_15 (d + 1) c n s y ((i : Int) - 1) Z1 q
  | 0, y, Z1, hi, h0, h1, ho, hq => by
    refine mjl_109_15 ⟨by omega, fun _ => ?_, fun h => by omega⟩
    exact hq Z1 (fun _ => 0) y ho (fun _ _ => rfl) (fun k g1 g2 => by omega) (fun k g1 => by omega) h0 h1 (by simp [bgS, bgP])
  | i + 1, y, Z1, hi, h0, h1, ho, hq => by
    obtain ⟨k1, k2, k3⟩ := id hK
    obtain ⟨r1, r2, r3⟩ := id hR
    have e1 : ((i + 1 : Nat) : Int) - 1 = (i : Int) := by omega
    have e2 : Z1 (c + 1) = Z (c + 1) := ho _ (by omega)
    have e3 : (Z1 c 4).toNat = r := by rw [ho c (by omega), hr]; rfl
    have hd := hu i (Nat.zero_le _) (by omega)
    rw [e1]
    refine mjl_109_15 ⟨by omega, fun h => by omega, fun _ => ⟨by omega, fun h => by omega, fun _ => ?_⟩⟩
    rw [show ((i : Int)).toNat = i from rfl, e2, e3, wOrJ h0 (by omega) hd.1 hd.2]
    have t0 : 0 ≤ y * 1073741824 + Z (c + 1) i := by omega
    rw [Int.tdiv_eq_ediv_of_nonneg t0, Int.tmod_eq_emod_of_nonneg t0]
    have m1 : s * ((y * 1073741824 + Z (c + 1) i) / s) + (y * 1073741824 + Z (c + 1) i) % s = y * 1073741824 + Z (c + 1) i := Int.mul_ediv_add_emod _ _
    have m2 : 0 ≤ (y * 1073741824 + Z (c + 1) i) % s := Int.emod_nonneg _ (by omega)
    have m3 : (y * 1073741824 + Z (c + 1) i) % s < s := Int.emod_lt_of_pos _ (by omega)
    have m4 : 0 ≤ (y * 1073741824 + Z (c + 1) i) / s := Int.ediv_nonneg t0 (by omega)
    have m5 : (y * 1073741824 + Z (c + 1) i) / s < 1073741824 := by
      refine Int.ediv_lt_of_lt_mul (by omega) ?_
      omega
    refine ⟨by omega, by omega, by omega, hok, by omega, by omega, by omega, ?_⟩
    generalize (y * 1073741824 + Z (c + 1) i) / s = x at *
    generalize (y * 1073741824 + Z (c + 1) i) % s = w at *
    refine bg_setDigit hR (by omega) (by omega) ?_
    refine ⟨by omega, ?_⟩
    rw [show (i : Int) + (-1) = (i : Int) - 1 by omega, show ((i : Int)).toNat = i from rfl]
    refine dv_shrinkL hK hok hR hr hx hn hs hu i w _ (by omega) m2 m3 (ho.trans bgU_o) fun Z' g yf o2 hk hg hgd hy0 hy1 hval => ?_
    refine hq Z' (fun k => if k = i then x else g k) yf o2 (fun k hk2 => ?_) (fun k g1 g2 => ?_) (fun k g1 g2 => ?_) hy0 hy1 ?_
    · rw [hk k (by omega), bgU_d, if_neg (by omega)]
    · show 0 ≤ (if k = i then x else g k) ∧ (if k = i then x else g k) < 1073741824
      split
      · exact ⟨m4, m5⟩
      · exact hg k g1 (by omega)
    · show _ = if k = i then x else g k
      split
      · rename_i hki
        subst hki
        rw [hk k (Nat.le_refl _), bgU_d, if_pos ⟨rfl, g2⟩]
      · exact hgd k (by omega) g2
    · have f1 : bgS (fun k => if k = i then x else g k) 0 (i + 1) = bgS g 0 i + bgP i * x := by
        rw [bgS_app i 1 0, Nat.zero_add]
        rw [bgS_eq (g := g) (n := i) fun k hk => if_neg (by omega)]
        simp [bgS]
      have f2 : bgS (Z (c + 1)) 0 (i + 1) = bgS (Z (c + 1)) 0 i + bgP i * Z (c + 1) i := by
        rw [bgS_app i 1 0, Nat.zero_add]
        simp [bgS]
      have f3 : bgP (i + 1) * y = bgP i * (y * 1073741824) := by
        show 1073741824 * bgP i * y = _
        rw [Int.mul_comm 1073741824, Int.mul_assoc, Int.mul_comm 1073741824]
      rw [f1, f2, f3, Int.mul_add, Int.mul_left_comm s]
      have f4 : bgP i * (s * x) + bgP i * w = bgP i * (y * 1073741824) + bgP i * Z (c + 1) i := by rw [← Int.mul_add, ← Int.mul_add, m1]
      omega
end DVB
