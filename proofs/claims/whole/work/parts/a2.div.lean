/-! Long division: its rows, the guess, taking off, putting back, shrinking. -/
def dvR (c K : Nat) : Prop := mjNn 100 (c + 1) = K ∧ mjNn 100 (c + 2) = K ∧ K ≤ 100
section DVA
variable {d R R2 c e K : Nat} {Z : mjZ}
theorem dv_lower {i : Int} {q : Int → mjZ → Prop} (hK : dvR c K) (h1 : -1000 < i ∧ i < 1000) (hb : 0 ≤ i → i < K → 0 ≤ Z (c + 2) i.toNat ∧ Z (c + 2) i.toNat < 1073741824) (hq : q (if 0 ≤ i ∧ i < K then Z (c + 2) i.toNat else 0) Z) : mjW2 (d + 1) 105 [yR 1 c, yI i] Z q := by
  obtain ⟨k1, k2, k3⟩ := hK
  refine mje_105 ⟨by omega, fun h => ?_, fun h => ⟨by omega, fun h2 => ?_, fun h2 => ?_⟩⟩
  · rw [if_neg (by omega)] at hq; exact hq
  · rw [if_neg (by omega)] at hq; exact hq
  · have := hb (by omega) (by omega)
    rw [if_pos (by omega)] at hq
    exact ⟨by omega, by omega, by omega, hq⟩
theorem dv_upper {i : Int} {q : Int → mjZ → Prop} (hK : dvR c K) (h1 : -1000 < i ∧ i < 1000) (hb : 0 ≤ i → i < K → 0 ≤ Z (c + 1) i.toNat ∧ Z (c + 1) i.toNat < 1073741824) (hq : q (if 0 ≤ i ∧ i < K then Z (c + 1) i.toNat else 0) Z) : mjW2 (d + 1) 106 [yR 1 c, yI i] Z q := by
  obtain ⟨k1, k2, k3⟩ := hK
  refine mje_106 ⟨by omega, fun h => ?_, fun h => ⟨by omega, fun h2 => ?_, fun h2 => ?_⟩⟩
  · rw [if_neg (by omega)] at hq; exact hq
  · rw [if_neg (by omega)] at hq; exact hq
  · have := hb (by omega) (by omega)
    rw [if_pos (by omega)] at hq
    exact ⟨by omega, by omega, by omega, hq⟩
theorem dv_stretch {x n : Nat} {s : Int} {q : mjZ → Prop} (hK : mjNn 100 (x + 1) = K) (hK2 : K ≤ 100) (hR2 : bgR e R2) (hx : e ≠ x + 1 ∧ e + 1 ≠ x + 1) (h1 : bgW R2 Z e n) (hs : 1 ≤ s ∧ s < 1073741824) (hn : n + 1 ≤ K) (hq : ∀ Z', mjO1 (x + 1) Z Z' → bgD (Z' (x + 1)) 0 (n + 1) → bgS (Z' (x + 1)) 0 (n + 1) = s * bgS (Z (e + 1)) 0 n → q Z') : mjW0 (d + 2) 103 [yR 100 (x + 1), yR 0 e, yI s] Z q := by
  obtain ⟨t1, t2, t3⟩ := id hR2
  refine mje_103 (d := d + 1) ?_
  refine bg_loop (R := K) (c := x) (E := n + 1) (Z0 := Z) (L := fun i y Z => mjL_103_5 (d + 1) (x + 1) e s y i Z q) (F := scF s (bgG Z e)) (G := scG s (bgG Z e)) (Y := fun _ y => 0 ≤ y ∧ y ≤ s) (fun i y _ hy => ?_) (fun i y Z1 hi hI hy hL => ?_) (n + 1) 0 0 Z (Nat.zero_add _) bgI_0 (by omega) fun Z' y' g hy' hI _ hg hd hT => ?_
  · have g1 := bg_mulb (bgG_b h1 i) (show 0 ≤ s by omega)
    unfold scF scG
    omega
  · have he := bgI_e hI hx.1 hx.2
    have hw := bgW_congr h1 he
    have hw2 := hw.2.1
    have g1 := bg_mulb (bgG_b h1 i) (show 0 ≤ s by omega)
    have g2 := bgG_b h1 i
    unfold bgU scF scG at hL
    rw [if_pos (by omega)] at hL
    refine mjl_103_5 ⟨by omega, by omega, fun h => by omega, fun _ => ⟨by omega, fun h => by omega, fun _ => ?_⟩⟩
    refine bg_digit hR2 hw (by omega) (by omega) ?_
    rw [bgG_congr he, show ((i : Int)).toNat = i from rfl]
    refine ⟨by omega, by omega, by omega, by omega, ?_⟩
    rw [wAndJ, wUshJ (by omega) (by omega)]
    exact hL
  · have he := bgI_e hI hx.1 hx.2
    have hw := bgW_congr h1 he
    have hw2 := hw.2.1
    have hV := sc_val _ 0 0 hT
    rw [bgG_S h1 (show n ≤ n + 1 by omega), Int.add_zero] at hV
    have hb := bgS_b (n + 1) 0 hg
    have hb2 := bgS_b n 0 h1.2.2
    have hP3 : bgP (n + 1) = 1073741824 * bgP n := rfl
    have hup : s * bgS (Z (e + 1)) 0 n ≤ 1073741823 * bgS (Z (e + 1)) 0 n := Int.mul_le_mul_of_nonneg_right (by omega) hb2.1
    have hy0 : bgP (n + 1) * y' = 0 := by
      rcases Int.lt_or_le 0 y' with h | h
      · have : bgP (n + 1) * 1 ≤ bgP (n + 1) * y' := Int.mul_le_mul_of_nonneg_left (by omega) (Int.le_of_lt (bgP_pos _))
        omega
      · have : y' = 0 := by omega
        rw [this, Int.mul_zero]
    rw [hy0, Int.add_zero] at hV
    have hgd : ∀ k, k < n + 1 → Z' (x + 1) k = g k := fun k hk => hd k (Nat.zero_le _) hk (by omega)
    refine mjl_103_5 ⟨by omega, by omega, fun _ => hq Z' hI.1 (fun k g1 g2 => ?_) ?_, fun h => by omega⟩
    · rw [hgd k (by omega)]; exact hg k g1 g2
    · rw [bgS_eq hgd]; exact hV
theorem dv_guessL {j n : Nat} {L Lv u2 hd v1 v2 Pm U V : Int} {q : Int → mjZ → Prop} (hK : dvR c K) (hH : gsH L Lv u2 hd v1 v2 Pm U V) (hn : 1 ≤ n) (hjn : j + n < K) (hn1 : n = 1 → u2 = 0 ∧ v2 = 0) (hn2 : 2 ≤ n → u2 = Z (c + 1) (j + n - 2) ∧ v2 = Z (c + 2) (n - 2))
    (hq : ∀ g, 0 ≤ g → g ≤ 1073741824 → U < (g + 1) * V → (g - 1) * V ≤ U → q g Z) : ∀ (m i : Nat) (g w : Int), i + m = 3 → gsI hd v1 U V g w → g ≤ 1073741825 → (w < 1073741824 ∨ g ≤ 1073741824) → (g + i - 2) * V ≤ U → mjL_104_53 (d + 1) c j n v1 g w i Z q
  | 0, i, g, w, hi, hI, hg, hw, hU => by
    exfalso
    have h3 : (g + i - 2) * V = (g + 1) * V := by rw [show g + (i : Int) - 2 = g + 1 by omega]
    have := hI.2.2.1
    omega
  | m + 1, i, g, w, hi, hI, hg, hw, hU => by
    obtain ⟨k1, k2, k3⟩ := id hK
    have hle := gs_le hH hI hg
    obtain ⟨a1, a2, a3, a4, a5, a6, a7, a8, a9, a10, a11, a12, a13, a14⟩ := id hH
    obtain ⟨b1, b2, b3, b4⟩ := id hI
    have hgv : 0 ≤ g * v1 := Int.mul_nonneg b4 (by omega)
    have hstep : ∀ (hs : 1073741824 ≤ g ∨ w * 1073741824 + u2 < g * v2), mjL_104_53 (d + 1) c j n v1 (g - 1) (w + v1) (i + 1) Z q := fun hs => by
      refine dv_guessL hK hH hn hjn hn1 hn2 hq m (i + 1) (g - 1) (w + v1) (by omega) (gs_step hH hI hs) (by omega) (Or.inr (by omega)) ?_
      rw [show g - 1 + ((i + 1 : Nat) : Int) - 2 = g + (i : Int) - 2 by omega]
      exact hU
    refine mjl_104_53 ⟨by omega, fun h => by omega, fun _ => ⟨by omega, fun h => ?_, fun h => ⟨by omega, fun h1 => ⟨by omega, fun h2 => hstep (Or.inl h2), fun h2 => ?_⟩, fun h1 => ?_⟩⟩⟩
    · have hgb : g ≤ 1073741824 := by omega
      exact hq g b4 hgb b3 (gs_end hH hI hgb (Or.inl h))
    · obtain ⟨e1, e2⟩ := hn1 (by omega)
      refine dv_lower hK (by omega) (fun h => by omega) ?_
      rw [if_neg (by omega), Int.mul_zero]
      refine ⟨by omega, fun h3 => by omega, fun _ => ?_⟩
      exact hq g b4 (by omega) b3 (gs_end hH hI (by omega) (Or.inr (by rw [e1, e2, Int.mul_zero]; omega)))
    · obtain ⟨e1, e2⟩ := hn2 (by omega)
      have i1 : (((j : Int) + (n : Int)) - 2).toNat = j + n - 2 := by omega
      have i2 : ((n : Int) - 2).toNat = n - 2 := by omega
      refine dv_upper hK (by omega) (fun _ _ => by rw [i1, ← e1]; omega) ?_
      rw [if_pos (by omega), i1, ← e1]
      refine ⟨by omega, fun h2 => hstep (Or.inl h2), fun h2 => ?_⟩
      refine dv_lower hK (by omega) (fun _ _ => by rw [i2, ← e2]; omega) ?_
      rw [if_pos (by omega), i2, ← e2]
      have hgm := bg_mulb (x := g) (a := v2) ⟨b4, by omega⟩ a7
      rw [wOrJ b2 (by omega) a5 a6]
      refine ⟨by omega, by omega, fun h3 => hstep (Or.inr h3), fun h3 => ?_⟩
      exact hq g b4 (by omega) b3 (gs_end hH hI (by omega) (Or.inr (by omega)))
theorem dv_guess {j n : Nat} {q : Int → mjZ → Prop} (hK : dvR c K) (hu : bgD (Z (c + 1)) j (n + 1)) (hl : bgD (Z (c + 2)) 0 n) (hn : 1 ≤ n) (hjn : j + n < K) (hv1 : 536870912 ≤ Z (c + 2) (n - 1)) (hUV : bgS (Z (c + 1)) j (n + 1) < 1073741824 * bgS (Z (c + 2)) 0 n)
    (hq : ∀ g, 0 ≤ g → g ≤ 1073741824 → bgS (Z (c + 1)) j (n + 1) < (g + 1) * bgS (Z (c + 2)) 0 n → (g - 1) * bgS (Z (c + 2)) 0 n ≤ bgS (Z (c + 1)) j (n + 1) → q g Z) : mjW2 (d + 2) 104 [yR 1 c, yI (j : Int), yI (n : Int)] Z q := by
  obtain ⟨k1, k2, k3⟩ := id hK
  have q1 := hu (j + n) (by omega) (by omega)
  have q0 := hu (j + n - 1) (by omega) (by omega)
  have r1 := hl (n - 1) (by omega) (by omega)
  have i1 : ((n : Int) - 1).toNat = n - 1 := by omega
  have i2 : ((j : Int) + (n : Int)).toNat = j + n := by omega
  have i3 : (((j : Int) + (n : Int)) - 1).toNat = j + n - 1 := by omega
  refine mje_104 (d := d + 1) ?_
  refine dv_lower hK (by omega) (fun _ _ => by rw [i1]; exact r1) ?_
  rw [if_pos (by omega), i1]
  refine ⟨by omega, fun _ => ?_, fun h => by omega⟩
  refine dv_upper hK (by omega) (fun _ _ => by rw [i2]; exact q1) ?_
  rw [if_pos (by omega), i2]
  refine dv_upper hK (by omega) (fun _ _ => by rw [i3]; exact q0) ?_
  rw [if_pos (by omega), i3, wOrJ q1.1 (by omega) q0.1 q0.2]
  refine ⟨by omega, by omega, by omega, ?_⟩
  rw [Int.tdiv_eq_ediv_of_nonneg (by omega), Int.tmod_eq_emod_of_nonneg (by omega)]
  rcases (show n = 1 ∨ 2 ≤ n by omega) with h | h
  · subst h
    have hU : bgS (Z (c + 1)) j 2 = Z (c + 1) (j + 1) * 1073741824 + Z (c + 1) j := by simp [bgS]; omega
    have hV : bgS (Z (c + 2)) 0 1 = Z (c + 2) 0 := by simp [bgS]
    rw [hU, hV] at hq hUV
    simp only [Nat.add_sub_cancel, Nat.sub_self] at *
    have hH : gsH 0 0 0 (Z (c + 1) (j + 1) * 1073741824 + Z (c + 1) j) (Z (c + 2) 0) 0 1 (1073741824 * (Z (c + 1) (j + 1) * 1073741824 + Z (c + 1) j)) (1073741824 * Z (c + 2) 0) := by
      refine ⟨?_, ?_, ?_, ?_, ?_, ?_, ?_, ?_, ?_, ?_, ?_, ?_, ?_, ?_⟩ <;> omega
    obtain ⟨g1, g2, g3, g4⟩ := gs_0 hH
    refine dv_guessL (d := d) hK hH (by omega) (by omega) (fun _ => ⟨rfl, rfl⟩) (fun h => by omega) (fun g h0 h1 h2 h3 => hq g h0 h1 ?_ ?_) 3 0 _ _ rfl g1 g3 (Or.inl g2) (by rw [show ∀ x : Int, x + ((0 : Nat) : Int) - 2 = x - 2 by intro x; omega]; exact g4)
    · rw [Int.mul_left_comm] at h2; omega
    · rw [Int.mul_left_comm] at h3; omega
  · obtain ⟨p, rfl⟩ := Nat.le.dest h
    have hU : bgS (Z (c + 1)) j (2 + p + 1) = bgS (Z (c + 1)) j p + bgP p * (Z (c + 1) (j + p) + 1073741824 * (Z (c + 1) (j + (2 + p)) * 1073741824 + Z (c + 1) (j + (2 + p) - 1))) := by
      rw [show 2 + p + 1 = p + 3 by omega, bgS_app p 3 j]
      congr 2
      simp only [bgS]
      rw [show j + p + 1 = j + (2 + p) - 1 by omega, show j + (2 + p) - 1 + 1 = j + (2 + p) by omega]
      omega
    have hV : bgS (Z (c + 2)) 0 (2 + p) = bgS (Z (c + 2)) 0 p + bgP p * (Z (c + 2) p + 1073741824 * Z (c + 2) (2 + p - 1)) := by
      rw [show 2 + p = p + 2 by omega, bgS_app p 2 0, Nat.zero_add]
      congr 2
      simp only [bgS]
      rw [show p + 1 = p + 2 - 1 by omega]
      omega
    have b1 := bgS_b p j (bgD_sub hu (Nat.le_refl _) (by omega))
    have b2 := bgS_b p 0 (bgD_sub hl (Nat.le_refl _) (by omega))
    have q2 := hu (j + p) (by omega) (by omega)
    have r2 := hl p (by omega) (by omega)
    have hH : gsH (bgS (Z (c + 1)) j p) (bgS (Z (c + 2)) 0 p) (Z (c + 1) (j + p)) (Z (c + 1) (j + (2 + p)) * 1073741824 + Z (c + 1) (j + (2 + p) - 1)) (Z (c + 2) (2 + p - 1)) (Z (c + 2) p) (bgP p) (bgS (Z (c + 1)) j (2 + p + 1)) (bgS (Z (c + 2)) 0 (2 + p)) :=
      ⟨b1.1, b1.2, b2.1, b2.2, q2.1, q2.2, r2.1, r2.2, hv1, r1.2, by omega, hU, hV, hUV⟩
    obtain ⟨g1, g2, g3, g4⟩ := gs_0 hH
    exact dv_guessL (d := d) hK hH (by omega) (by omega) (fun h => by omega) (fun _ => ⟨by rw [show j + (2 + p) - 2 = j + p by omega], by rw [show 2 + p - 2 = p by omega]⟩) hq 3 0 _ _ rfl g1 g3 (Or.inl g2) (by rw [show ∀ x : Int, x + ((0 : Nat) : Int) - 2 = x - 2 by intro x; omega]; exact g4)
end DVA
