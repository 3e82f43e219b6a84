/-! Great numbers: products. -/
theorem bgT_cst {G : Nat → Int} {g : Nat → Int} {y' : Int} : ∀ (m i : Nat) (y : Int), bgT (fun _ _ => 0) (fun i _ => G i) i m y g y' → ∀ k, i ≤ k → k < i + m → g k = G k
  | 0, i, y, _, k, g1, g2 => by omega
  | m + 1, i, y, h, k, g1, g2 => by
    rcases Nat.eq_or_lt_of_le g1 with g3 | g3
    · subst g3
      exact h.1
    · exact bgT_cst m (i + 1) _ h.2 k g3 (by omega)
section BGM
variable {d R R2 c e : Nat} {Z : mjZ}
def mlF (f : Int) (b dd : Nat → Int) (o : Nat) (j : Nat) (y : Int) : Int := (y + (f * b (j - o) + dd j)) / 1073741824
def mlG (f : Int) (b dd : Nat → Int) (o : Nat) (j : Nat) (y : Int) : Int := (y + (f * b (j - o) + dd j)) % 1073741824
theorem ml_val {f : Int} {b dd g : Nat → Int} {o : Nat} {y' : Int} : ∀ (m i : Nat) (y : Int), o ≤ i → bgT (mlF f b dd o) (mlG f b dd o) i m y g y' → bgS g i m + bgP m * y' = f * bgS b (i - o) m + bgS dd i m + y
  | 0, i, y, _, h => by
    cases h
    simp [bgS, bgP]
  | m + 1, i, y, ho, h => by
    have h1 := ml_val m (i + 1) _ (by omega) h.2
    have h2 := h.1
    rw [show i + 1 - o = i - o + 1 by omega] at h1
    unfold bgS bgP
    rw [Int.mul_assoc, Int.mul_add, Int.mul_left_comm f]
    unfold mlF at h1
    unfold mlG at h2
    omega
/-- f times b is added from place o on; what is left over at the end is y' -/
theorem bg_addProduct {f : Int} {o E n : Nat} {q : mjZ → Prop} (hR : bgR c R) (hR2 : bgR e R2) (hx : bgX c e) (hw : bgW R2 Z e n) (hf : 0 ≤ f ∧ f < 1073741824) (hE : E ≤ R) (hoE : o ≤ E) (hd : bgD (Z (c + 1)) 0 E)
    (hq : ∀ (Z' : mjZ) (g : Nat → Int) (y' : Int), mjO1 (c + 1) Z Z' → bgD g o (min (n + 1) (E - o)) → (∀ k, o ≤ k → k < o + min (n + 1) (E - o) → Z' (c + 1) k = g k) → (∀ k, k < o ∨ o + min (n + 1) (E - o) ≤ k → Z' (c + 1) k = Z (c + 1) k) → 0 ≤ y' → bgS g o (min (n + 1) (E - o)) + bgP (min (n + 1) (E - o)) * y' = f * bgS (bgG Z e) 0 (min (n + 1) (E - o)) + bgS (Z (c + 1)) o (min (n + 1) (E - o)) → q Z') : mjW0 (d + 2) 96 [yR 0 c, yJ f, yR 0 e, yI (o : Int), yI (E : Int)] Z q := by
  obtain ⟨r1, r2, r3⟩ := id hR
  obtain ⟨t1, t2, t3⟩ := id hR2
  obtain ⟨w1, w2, w3⟩ := id hw
  refine mje_96 (d := d + 1) ?_
  have hm : min (n + 1) (E - o) ≤ n + 1 ∧ o + min (n + 1) (E - o) ≤ E ∧ (min (n + 1) (E - o) = n + 1 ∨ o + min (n + 1) (E - o) = E) := by omega
  generalize min (n + 1) (E - o) = m at *
  have hI0 : bgI R c Z o Z := ⟨fun _ _ => rfl, fun _ _ => rfl, fun k g1 g2 => by
    exact hd k (Nat.zero_le _) (by omega)⟩
  have hgb := fun i => bgG_b hw i
  refine bg_loop (R := R) (c := c) (E := o + m) (Z0 := Z) (L := fun j y Z => ∀ i, j = o + i → mjL_96_6 (d + 1) c f e o (E : Int) y i Z q) (F := mlF f (bgG Z e) (Z (c + 1)) o) (G := mlG f (bgG Z e) (Z (c + 1)) o) (Y := fun _ y => 0 ≤ y ∧ y < 1073741824) (fun j y hj hy => ?_) (fun j y Z1 hj hI hy hL i hi => ?_) m o 0 Z rfl hI0 (by omega) (fun Z' y' g hy' hI hlow hg hdd hT i hi => ?_) 0 rfl
  · have g1 := hgb (j - o)
    have g2 := hd j (Nat.zero_le _) (by omega)
    have g3 := bg_mulb hf g1.1
    unfold mlF mlG
    omega
  · subst hi
    have he := hx.o1 hI.1
    have g1 := hgb i
    have g2 := hd (o + i) (Nat.zero_le _) (by omega)
    have g3 := bg_mulb hf g1.1
    have hz : Z1 (c + 1) (o + i) = Z (c + 1) (o + i) := hI.2.1 _ (Nat.le_refl _)
    have hwe := bgW_congr hw he
    have hw2 := hwe.2.1
    have hn : ((o : Int) + (i : Int)).toNat = o + i := by omega
    have hL2 := hL (i + 1) (by omega)
    unfold mlF mlG bgU at hL2
    rw [if_pos (by omega), show o + i - o = i by omega] at hL2
    refine mjl_96_6 ⟨by omega, by omega, fun h => by omega, fun _ => ⟨by omega, by omega, fun h => by omega, fun _ => ?_⟩⟩
    refine bg_digit hR2 hwe (by omega) (by omega) ?_
    rw [bgG_congr he, show ((i : Int)).toNat = i from rfl, hn, hz]
    refine ⟨by omega, by omega, by omega, by omega, ?_⟩
    rw [wAndJ, wUshJ (by omega) (by omega)]
    exact hL2
  · have him : i = m := by omega
    subst him
    have he := hx.o1 hI.1
    have hwe := bgW_congr hw he
    have hw2 := hwe.2.1
    have hV := ml_val _ o 0 (Nat.le_refl _) hT
    rw [Nat.sub_self, Int.add_zero] at hV
    have hfin : q Z' := hq Z' g y' hI.1 hg (fun k g1 g2 => hdd k g1 g2 (by omega)) (fun k hk => by
      rcases hk with hk | hk
      · exact hlow k hk
      · exact hI.2.1 k hk) hy'.1 hV
    exact mjl_96_6 ⟨by omega, by omega, fun _ => hfin, fun h => ⟨by omega, by omega, fun _ => hfin, fun h2 => by omega⟩⟩
theorem bg_mulup {x y X Y : Int} (hx : 0 ≤ x ∧ x < X) (hy : 0 ≤ y ∧ y < Y) : x * y < X * Y := by
  have h1 : x * y ≤ x * Y := Int.mul_le_mul_of_nonneg_left (by omega) hx.1
  have h2 : (x + 1) * Y ≤ X * Y := Int.mul_le_mul_of_nonneg_right (by omega) (by omega)
  rw [Int.add_mul, Int.one_mul] at h2
  omega
theorem bg_productL {a b Ra Rb n1 n2 E : Nat} {v w : Int} {q : mjZ → Prop} (hR : bgR c R) (hRa : bgR a Ra) (hRb : bgR b Rb) (hxa : bgX c a) (hxb : bgX c b) (hv : bgIs Ra Z a v) (hw : bgIs Rb Z b w) (hf : bgA (v * w) < bgP R) (h1 : bgW Ra Z a n1) (h2 : bgW Rb Z b n2) (hn1 : n1 ≤ R) (hE : E = min (n1 + n2) R)
    (hs : v * w = Z a 0 * Z b 0 * (bgS (Z (a + 1)) 0 n1 * bgS (Z (b + 1)) 0 n2)) (hs3 : Z a 0 * Z b 0 = -1 ∨ Z a 0 * Z b 0 = 0 ∨ Z a 0 * Z b 0 = 1) (hs0 : Z a 0 * Z b 0 = 0 → bgS (Z (a + 1)) 0 n1 * bgS (Z (b + 1)) 0 n2 = 0) (hsf : bgS (Z (a + 1)) 0 n1 * bgS (Z (b + 1)) 0 n2 < bgP R)
    (hq : ∀ Z', mjO2 c Z Z' → bgIs R Z' c (v * w) → q Z') : ∀ (m i : Nat) (Z1 : mjZ), i + m = n1 → mjO1 (c + 1) Z Z1 → bgD (Z1 (c + 1)) 0 E → bgS (Z1 (c + 1)) 0 E = bgS (bgG Z a) 0 i * bgS (Z (b + 1)) 0 n2 → mjL_95_44 (d + 2) c a b (E : Int) i Z1 q
  | 0, i, Z1, hi, ho, hD, hT => by
    obtain ⟨r1, r2, r3⟩ := id hR
    obtain ⟨t1, t2, t3⟩ := id hRa
    have ea := hxa.o1 ho
    have eb := hxb.o1 ho
    have wa := bgW_congr h1 ea
    have wa2 := wa.2.1
    have wa1 := wa.1
    have hin : i = n1 := by omega
    subst hin
    rw [bgG_S h1 (Nat.le_refl i)] at hT
    refine mjl_95_44 ⟨by omega, by omega, fun _ => ?_, fun h => by omega⟩
    rw [ea.1, eb.1]
    refine bg_end (E := E) (s := Z a 0 * Z b 0) (v := v * w) (g := Z1 (c + 1)) hR (by omega) hD (fun k g1 g2 => ?_) mjUp_at hs3 (fun h => ?_) (by rw [hT]; exact hs) (by rw [hT]; exact hsf) fun Z2 o2 b2 => hq Z2 ((ho.to2.trans mjO2.up0).trans o2) b2
    · rw [mjUp_nc (by omega)]
    · rw [hT]; exact hs0 h
  | m + 1, i, Z1, hi, ho, hD, hT => by
    obtain ⟨r1, r2, r3⟩ := id hR
    obtain ⟨t1, t2, t3⟩ := id hRa
    have ea := hxa.o1 ho
    have eb := hxb.o1 ho
    have wa := bgW_congr h1 ea
    have wb := bgW_congr h2 eb
    have wa2 := wa.2.1
    have wa1 := wa.1
    have hfb := bgG_b h1 i
    refine mjl_95_44 ⟨by omega, by omega, fun h => by omega, fun _ => ?_⟩
    refine bg_digit hRa wa (by omega) (by omega) ?_
    rw [bgG_congr ea, show ((i : Int)).toNat = i from rfl]
    refine ⟨by omega, ?_⟩
    refine bg_addProduct (d := d) (E := E) (o := i) hR hRb hxb wb hfb (by omega) (by omega) hD fun Z2 g y' o2 hg hgd hrest hy' hval => ?_
    have hm : min (n2 + 1) (E - i) ≤ n2 + 1 ∧ i + min (n2 + 1) (E - i) ≤ E ∧ (min (n2 + 1) (E - i) = n2 + 1 ∨ (min (n2 + 1) (E - i) ≤ n2 ∧ i + min (n2 + 1) (E - i) = R)) := by omega
    generalize min (n2 + 1) (E - i) = p at *
    rw [bgG_congr eb] at hval
    have hA0 := bgS_b n1 0 h1.2.2
    have hW0 := bgS_b n2 0 h2.2.2
    have hai : bgS (bgG Z a) 0 (i + 1) = bgS (bgG Z a) 0 i + bgP i * bgG Z a i := by
      rw [bgS_app i 1 0, Nat.zero_add]
      simp [bgS]
    have hD2 : bgD (Z2 (c + 1)) 0 E := fun k g1 g2 => by
      rcases Nat.lt_or_ge k i with h | h
      · rw [hrest k (Or.inl h)]; exact hD k g1 g2
      · rcases Nat.lt_or_ge k (i + p) with h3 | h3
        · rw [hgd k h h3]; exact hg k h h3
        · rw [hrest k (Or.inr h3)]; exact hD k g1 g2
    obtain ⟨r, hr⟩ := Nat.le.dest hm.2.1
    have hT1 : bgS (Z1 (c + 1)) 0 E = bgS (Z1 (c + 1)) 0 i + bgP i * (bgS (Z1 (c + 1)) i p + bgP p * bgS (Z1 (c + 1)) (i + p) r) := by
      rw [← hr, Nat.add_assoc, bgS_app i (p + r) 0, Nat.zero_add, bgS_app p r i]
    have hT2 : bgS (Z2 (c + 1)) 0 E = bgS (Z1 (c + 1)) 0 i + bgP i * (bgS g i p + bgP p * bgS (Z1 (c + 1)) (i + p) r) := by
      rw [← hr, Nat.add_assoc, bgS_app i (p + r) 0, Nat.zero_add, bgS_app p r i]
      rw [bgS_congr (g := Z1 (c + 1)) i 0 fun k g1 g2 => hrest k (Or.inl (by omega)), bgS_congr (g := g) p i fun k g1 g2 => hgd k g1 g2, bgS_congr (g := Z1 (c + 1)) r (i + p) fun k g1 g2 => hrest k (Or.inr g1)]
    -- what b has beyond the first p places
    have hWr : ∃ u : Int, 0 ≤ u ∧ bgS (Z (b + 1)) 0 n2 = bgS (bgG Z b) 0 p + bgP p * u := by
      rcases hm.2.2 with h | h
      · refine ⟨0, Int.le_refl _, ?_⟩
        rw [bgG_S h2 (by omega), Int.mul_zero, Int.add_zero]
      · obtain ⟨x, hx⟩ := Nat.le.dest h.1
        refine ⟨bgS (Z (b + 1)) p x, (bgS_b x p (bgD_sub h2.2.2 (by omega) (by omega))).1, ?_⟩
        rw [← hx, bgS_app p x 0, Nat.zero_add, bgS_eq (g := Z (b + 1)) (n := p) fun k hk => bgG_lt h2 (by omega)]
    obtain ⟨u, hu0, hu⟩ := hWr
    have hU : bgS (Z2 (c + 1)) 0 E + bgP (i + p) * (y' + bgG Z a i * u) = bgS (bgG Z a) 0 (i + 1) * bgS (Z (b + 1)) 0 n2 := by
      rw [hai, Int.add_mul, ← hT, hT1, hT2, bgP_add, hu]
      have e1 : bgP i * bgG Z a i * (bgS (bgG Z b) 0 p + bgP p * u) = bgP i * (bgG Z a i * bgS (bgG Z b) 0 p) + bgP i * (bgP p * (bgG Z a i * u)) := by
        rw [Int.mul_assoc, Int.mul_add, Int.mul_add, Int.mul_left_comm (bgG Z a i)]
      rw [e1]
      have e2 : bgG Z a i * bgS (bgG Z b) 0 p = bgS g i p + bgP p * y' - bgS (Z1 (c + 1)) i p := by omega
      rw [e2]
      rw [Int.mul_assoc (bgP i) (bgP p), Int.mul_add (bgP p), Int.mul_add (bgP i), Int.mul_add (bgP i), Int.mul_add (bgP i), Int.mul_sub (bgP i), Int.mul_add (bgP i)]
      omega
    have hlt : bgS (bgG Z a) 0 (i + 1) * bgS (Z (b + 1)) 0 n2 < bgP (i + p) := by
      have hb1 := bgS_b (f := bgG Z a) (i + 1) 0 fun k _ _ => bgG_b h1 k
      rcases hm.2.2 with h | h
      · have := bg_mulup hb1 hW0
        rw [h, show i + (n2 + 1) = i + 1 + n2 by omega, bgP_add]
        exact this
      · rw [h.2]
        refine Int.lt_of_le_of_lt ?_ hsf
        refine Int.mul_le_mul_of_nonneg_right ?_ hW0.1
        have h9 := bgG_S h1 (Nat.le_refl n1)
        obtain ⟨x, hx⟩ := Nat.le.dest (show i + 1 ≤ n1 by omega)
        rw [← h9, ← hx, bgS_app (i + 1) x 0]
        have := (bgS_b (f := bgG Z a) x (0 + (i + 1)) fun k _ _ => bgG_b h1 k).1
        have := Int.mul_nonneg (Int.le_of_lt (bgP_pos (i + 1))) this
        omega
    have hX : y' + bgG Z a i * u = 0 := by
      have h0 : 0 ≤ bgG Z a i * u := Int.mul_nonneg hfb.1 hu0
      have h3 := (bgS_b E 0 hD2).1
      rcases Int.lt_or_le 0 (y' + bgG Z a i * u) with h | h
      · have : bgP (i + p) * 1 ≤ bgP (i + p) * (y' + bgG Z a i * u) := Int.mul_le_mul_of_nonneg_left (by omega) (Int.le_of_lt (bgP_pos _))
        omega
      · omega
    rw [hX, Int.mul_zero, Int.add_zero] at hU
    exact bg_productL hR hRa hRb hxa hxb hv hw hf h1 h2 hn1 hE hs hs3 hs0 hsf hq m (i + 1) Z2 (by omega) (ho.trans o2) hD2 hU
theorem bg_product {a b Ra Rb : Nat} {v w : Int} {q : mjZ → Prop} (hR : bgR c R) (hRa : bgR a Ra) (hRb : bgR b Rb) (hxa : bgX c a) (hxb : bgX c b) (hv : bgIs Ra Z a v) (hw : bgIs Rb Z b w) (hRR : Ra ≤ R) (hf : bgA (v * w) < bgP R) (hq : ∀ Z', mjO2 c Z Z' → bgIs R Z' c (v * w) → q Z') : mjW0 (d + 3) 95 [yR 0 c, yR 0 a, yR 0 b] Z q := by
  obtain ⟨n, h1, h2, h3, h4, h5, h6, h7, h8, h9, h10⟩ := hv.n
  obtain ⟨m, k1, k2, k3, k4, k5, k6, k7, k8, k9, k10⟩ := hw.n
  obtain ⟨r1, r2, r3⟩ := id hR
  obtain ⟨s1, s2, s3⟩ := id hRa
  obtain ⟨t1, t2, t3⟩ := id hRb
  have u1 := h1.1
  have u2 := h1.2.1
  have w1 := k1.1
  have w2 := k1.2.1
  have hA := (bgS_b n 0 h1.2.2).1
  have hB := (bgS_b m 0 k1.2.2).1
  have hs : v * w = Z a 0 * Z b 0 * (bgS (Z (a + 1)) 0 n * bgS (Z (b + 1)) 0 m) := by
    conv => lhs; rw [h5, k5]
    rw [Int.mul_assoc, Int.mul_assoc, Int.mul_left_comm (bgS (Z (a + 1)) 0 n)]
  have hs3 : Z a 0 * Z b 0 = -1 ∨ Z a 0 * Z b 0 = 0 ∨ Z a 0 * Z b 0 = 1 := by rcases h3 with h | h | h <;> rcases k3 with g | g | g <;> rw [h, g] <;> simp
  have hs0 : Z a 0 * Z b 0 = 0 → bgS (Z (a + 1)) 0 n * bgS (Z (b + 1)) 0 m = 0 := fun h => by
    rcases Int.mul_eq_zero.mp h with g | g
    · rw [h7 (h4.mp g), Int.zero_mul]
    · rw [k7 (k4.mp g), Int.mul_zero]
  have hsf : bgS (Z (a + 1)) 0 n * bgS (Z (b + 1)) 0 m < bgP R := by
    rcases (show Z a 0 * Z b 0 = 0 ∨ (Z a 0 * Z b 0 = -1 ∨ Z a 0 * Z b 0 = 1) by omega) with g | g
    · rw [hs0 g]; exact bgP_pos R
    · rw [hs, bgA_s g (Int.mul_nonneg hA hB)] at hf
      exact hf
  have hE : (if ((mjNn 100 (c + 1) : Nat) : Int) < ((Z a 1) + (Z b 1)) then ((mjNn 100 (c + 1) : Nat) : Int) else ((Z a 1) + (Z b 1))) = ((min (n + m) R : Nat) : Int) := by split <;> omega
  refine mje_95 (d := d + 1) ⟨by omega, by omega, ?_⟩
  rw [hE]
  refine bg_loop (R := R) (c := c) (E := min (n + m) R) (Z0 := Z) (L := fun i y Z => mjL_95_21 (d + 2) c a b ((min (n + m) R : Nat) : Int) i Z q) (F := fun _ _ => 0) (G := fun _ _ => 0) (Y := fun _ _ => True) (fun i y _ hy => ⟨trivial, by omega, by omega⟩) (fun i y Z1 hi hI hy hL => ?_) (min (n + m) R) 0 0 Z (Nat.zero_add _) bgI_0 trivial fun Z' y' g hy' hI _ hg hd hT => ?_
  · unfold bgU at hL
    rw [if_pos (by omega)] at hL
    exact mjl_95_21 ⟨by omega, by omega, fun h => by omega, fun _ => ⟨by omega, by omega, hL⟩⟩
  · refine mjl_95_21 ⟨by omega, by omega, fun _ => ?_, fun h => by omega⟩
    have hz : ∀ k, k < min (n + m) R → Z' (c + 1) k = 0 := fun k hk => by
      rw [hd k (Nat.zero_le _) hk (by omega)]
      exact bgT_cst (G := fun _ => 0) _ 0 0 hT k (Nat.zero_le _) (by omega)
    refine bg_productL (d := d) hR hRa hRb hxa hxb hv hw hf h1 k1 (by omega) rfl hs hs3 hs0 hsf hq n 0 Z' (Nat.zero_add _) hI.1 (fun k g1 g2 => ?_) ?_
    · rw [hz k (by omega)]; omega
    · rw [bgS_zero _ _ fun k g1 g2 => hz k (by omega)]
      simp [bgS]
end BGM
