/-! Great numbers: become, copy, adding, taking, scaling. -/
def bgA (z : Int) : Int := if 0 ≤ z then z else -z
def bgX (c e : Nat) : Prop := e ≠ c ∧ e ≠ c + 1 ∧ e + 1 ≠ c
theorem bgA_0 {z : Int} : 0 ≤ bgA z := by unfold bgA; split <;> omega
theorem bgA_s {s A : Int} (hs : s = -1 ∨ s = 1) (hA : 0 ≤ A) : bgA (s * A) = A := by
  rcases hs with h | h <;> subst h <;> (unfold bgA; split <;> omega)
theorem wTd (y : Int) : Int.tdiv y 1073741824 = if 0 ≤ y then y / 1073741824 else -((-y) / 1073741824) := by
  split
  · rename_i h
    exact Int.tdiv_eq_ediv_of_nonneg h
  · rename_i h
    rw [← Int.tdiv_eq_ediv_of_nonneg (show 0 ≤ -y by omega), Int.neg_tdiv, Int.neg_neg]
theorem wTm (y : Int) : Int.tmod y 1073741824 = if 0 ≤ y then y % 1073741824 else -((-y) % 1073741824) := by
  split
  · rename_i h
    exact Int.tmod_eq_emod_of_nonneg h
  · rename_i h
    rw [← Int.tmod_eq_emod_of_nonneg (show 0 ≤ -y by omega), Int.neg_tmod, Int.neg_neg]
def bcF (_ : Nat) (y : Int) : Int := Int.tdiv y 1073741824
def bcG (_ : Nat) (y : Int) : Int := if 0 ≤ Int.tmod y 1073741824 then Int.tmod y 1073741824 else 0 - Int.tmod y 1073741824
theorem bc_one (i : Nat) (y : Int) : bcG i y + 1073741824 * bgA (bcF i y) = bgA y ∧ 0 ≤ bcG i y ∧ bcG i y < 1073741824 ∧ (bcF i y = 0 ∨ (0 < y ↔ 0 < bcF i y)) := by
  unfold bcG bcF bgA
  rw [wTd, wTm]
  refine ⟨?_, ?_, ?_, ?_⟩ <;> (repeat' split) <;> omega
theorem bc_val {g : Nat → Int} {y' : Int} : ∀ (m i : Nat) (y : Int), bgT bcF bcG i m y g y' → bgS g i m + bgP m * bgA y' = bgA y
  | 0, i, y, h => by
    cases h
    simp [bgS, bgP]
  | m + 1, i, y, h => by
    have h1 := bc_val m (i + 1) (bcF i y) h.2
    have h2 := bc_one i y
    rw [← h.1] at h2
    unfold bgS bgP
    rw [Int.mul_assoc]
    omega
section BGB
variable {d R R2 c e : Nat} {Z : mjZ}
theorem bg_compare {x y : Int} {q : Int → mjZ → Prop} (hx : -9223372036854775808 ≤ x ∧ x < 9223372036854775808) (hy : -9223372036854775808 ≤ y ∧ y < 9223372036854775808) (hq : q (if x < y then -1 else if x = y then 0 else 1) Z) : mjW1 (d + 1) 85 [yJ x, yJ y] Z q := by
  refine mje_85 ⟨hx, hy, fun h => ⟨fun h2 => ?_, fun h2 => ?_⟩, fun h => ?_⟩
  · rw [if_neg (by omega), if_neg h2] at hq
    exact hq
  · rw [if_neg (by omega), if_pos (Classical.not_not.mp h2)] at hq
    exact hq
  · rw [if_pos (by omega)] at hq
    exact hq
theorem bg_become {v : Int} {q : mjZ → Prop} (hR : bgR c R) (hv : -9223372036854775808 ≤ v ∧ v < 9223372036854775808) (hq : ∀ Z', mjO2 c Z Z' → bgIs R Z' c v → q Z') : mjW0 (d + 3) 83 [yR 0 c, yJ v] Z q := by
  obtain ⟨r1, r2, r3⟩ := id hR
  refine mje_83 (d := d + 1) ?_
  refine bg_loop (R := R) (c := c) (E := 3) (Z0 := Z) (L := fun i y Z => mjL_83_5 (d + 2) c v y i Z q) (F := bcF) (G := bcG) (Y := fun _ y => -9223372036854775808 ≤ y ∧ y < 9223372036854775808) (fun i y _ hy => ?_) (fun i y Z1 hi hI hy hL => ?_) 3 0 v Z rfl bgI_0 hv fun Z' y' g hy' hI _ hg hd hT => ?_
  · have h2 := bc_one i y
    refine ⟨?_, h2.2.1, h2.2.2.1⟩
    unfold bcF
    rw [wTd]
    split <;> omega
  · have h2 := bc_one i y
    refine mjl_83_5 ⟨by omega, fun h => by omega, fun _ => ⟨hy, ?_, ?_⟩⟩
    · rw [wTm]
      split <;> omega
    · exact bg_setDigit hR (by omega) (by omega) hL
  · have h1 := bc_val 3 0 v hT
    have h2 := bgS_b 3 0 hg
    have hA : bgA v ≤ 9223372036854775808 := by unfold bgA; split <;> omega
    have hP : bgP 3 = 1237940039285380274899124224 := rfl
    have hy0 : bgP 3 * bgA y' = 0 := by
      have h3 : 0 ≤ bgA y' := bgA_0
      rw [hP] at h1 h2 ⊢
      omega
    rw [hy0, Int.add_zero] at h1
    refine mjl_83_5 ⟨by omega, fun _ => ?_, fun h => absurd (Int.le_refl 3) h⟩
    refine bg_compare hv (by omega) ?_
    have hP2 : bgP 3 ≤ bgP R := bgP_mono r2
    refine bg_end (E := 3) (s := if v < 0 then -1 else if v = 0 then 0 else 1) (v := v) (g := g) hR (by omega) hg (fun k g1 g2 => ?_) mjUp_at (by by_cases h1 : v < 0 <;> by_cases h2 : v = 0 <;> simp [h1, h2]) (fun h => ?_) ?_ (by omega) fun Z2 o2 b2 => hq Z2 ?_ b2
    · rw [mjUp_nc (by omega)]
      exact hd k (by omega) g1 g2
    · rw [h1]
      unfold bgA
      repeat' split at h
      all_goals first | omega | skip
    · rw [h1]
      unfold bgA
      repeat' split
      all_goals omega
    · exact (hI.1.to2.trans mjO2.up0).trans o2
theorem bgX.o1 (hx : bgX c e) {Z Z' : mjZ} (h : mjO1 (c + 1) Z Z') : Z' e = Z e ∧ Z' (e + 1) = Z (e + 1) := ⟨h e hx.2.1, h (e + 1) (by have := hx.1; omega)⟩
theorem bgX.o2 (hx : bgX c e) {Z Z' : mjZ} (h : mjO2 c Z Z') : Z' e = Z e ∧ Z' (e + 1) = Z (e + 1) := ⟨h e hx.1 hx.2.1, h (e + 1) hx.2.2 (by have := hx.1; omega)⟩
theorem bgIs.n {v : Int} (h : bgIs R Z c v) : ∃ n : Nat, bgW R Z c n ∧ (0 < n → Z (c + 1) (n - 1) ≠ 0) ∧ (Z c 0 = -1 ∨ Z c 0 = 0 ∨ Z c 0 = 1) ∧ (Z c 0 = 0 ↔ n = 0) ∧ v = Z c 0 * bgS (Z (c + 1)) 0 n ∧ bgA v = bgS (Z (c + 1)) 0 n ∧ (n = 0 → bgS (Z (c + 1)) 0 n = 0) ∧ (0 < n → bgP (n - 1) ≤ bgS (Z (c + 1)) 0 n) ∧ bgS (Z (c + 1)) 0 n < bgP n ∧ bgA v < bgP R := by
  obtain ⟨n, h1, h2, h3, h4, h5⟩ := h
  have hb := bgS_b n 0 h1.2.2
  have hz : n = 0 → bgS (Z (c + 1)) 0 n = 0 := fun h => by subst h; rfl
  have hA : bgA v = bgS (Z (c + 1)) 0 n := by
    rw [h5]
    by_cases h0 : Z c 0 = 0
    · rw [h0, Int.zero_mul, hz (h4.mp h0)]
      rfl
    · exact bgA_s (by omega) hb.1
  refine ⟨n, h1, h2, h3, h4, h5, hA, hz, fun h => ?_, hb.2, ?_⟩
  · obtain ⟨k, rfl⟩ := Nat.exists_eq_add_of_lt h
    rw [Nat.zero_add] at *
    rw [Nat.add_sub_cancel] at *
    exact bgS_top h1.2.2 (by rw [Nat.zero_add]; exact h2 h)
  · rw [hA]
    have := bgP_mono h1.1
    omega
theorem bg_copyL {n : Nat} {q : mjZ → Prop} (hR : bgR c R) (hR2 : bgR e R2) (hx : bgX c e) (h1 : bgW R2 Z e n) (hq : ∀ Z', mjO1 (c + 1) Z Z' → (∀ k, k < n → k < R → Z' (c + 1) k = Z (e + 1) k) → mjW0 (d + 1) 86 [yR 0 c, yI (n : Int)] (mjUp Z' c 0 (Z e 0)) q) : mjW0 (d + 2) 98 [yR 0 c, yR 0 e] Z q := by
  obtain ⟨r1, r2, r3⟩ := id hR2
  have hn := h1.1
  have hn2 := h1.2.1
  refine mje_98 (d := d + 1) ?_
  refine bg_loop (R := R) (c := c) (E := n) (Z0 := Z) (L := fun i y Z => mjL_98_2 (d + 1) c e i Z q) (F := fun _ _ => 0) (G := fun i _ => bgG Z e i) (Y := fun _ _ => True) (fun i y _ hy => ⟨trivial, bgG_b h1 i⟩) (fun i y Z1 hi hI hy hL => ?_) n 0 0 Z (Nat.zero_add _) bgI_0 trivial fun Z' y' g hy' hI _ hg hd hT => ?_
  · have he := hx.o1 hI.1
    have hw := bgW_congr h1 he
    have hw2 := hw.2.1
    refine mjl_98_2 ⟨by omega, by omega, fun h => by omega, fun _ => ?_⟩
    refine bg_digit hR2 hw (by omega) (by omega) ?_
    rw [bgG_congr he]
    exact bg_setDigit hR (by omega) (by omega) hL
  · have he := hx.o1 hI.1
    have hw := bgW_congr h1 he
    have hw2 := hw.2.1
    have e1 : mjUp Z' c 0 (Z' e 0) e 1 = (n : Int) := by rw [mjUp_nc hx.1]; exact hw2
    refine mjl_98_2 ⟨by omega, by omega, fun _ => ?_, fun h => by omega⟩
    rw [e1]
    have hG : ∀ (m i : Nat) (y : Int), bgT (fun _ _ => 0) (fun i _ => bgG Z e i) i m y g y' → ∀ k, i ≤ k → k < i + m → g k = bgG Z e k := by
      intro m
      induction m with
      | zero => intro i y _ k g1 g2; omega
      | succ m ih =>
        intro i y h k g1 g2
        rcases Nat.eq_or_lt_of_le g1 with g3 | g3
        · subst g3; exact h.1
        · exact ih (i + 1) _ h.2 k g3 (by omega)
    have e2 : Z' e 0 = Z e 0 := by rw [he.1]
    rw [e2]
    refine hq Z' hI.1 fun k g1 g2 => ?_
    rw [hd k (Nat.zero_le _) g1 g2, hG n 0 0 hT k (Nat.zero_le _) (by omega), bgG_lt h1 g1]
theorem bg_copy {v : Int} {q : mjZ → Prop} (hR : bgR c R) (hR2 : bgR e R2) (hx : bgX c e) (hv : bgIs R2 Z e v) (hf : bgA v < bgP R) (hq : ∀ Z', mjO2 c Z Z' → bgIs R Z' c v → q Z') : mjW0 (d + 2) 98 [yR 0 c, yR 0 e] Z q := by
  obtain ⟨n, h1, h2, h3, h4, h5, h6, h7, h8, h9, h10⟩ := hv.n
  obtain ⟨r1, r2, r3⟩ := id hR2
  have hn := h1.1
  refine bg_copyL hR hR2 hx h1 fun Z' o1 hd => ?_
  refine bg_end (E := n) (s := Z e 0) (v := v) (g := Z (e + 1)) hR (by omega) h1.2.2 (fun k g1 g2 => ?_) mjUp_at h3 (fun h => h7 (h4.mp h)) h5 (by omega) fun Z2 o2 b2 => hq Z2 ((o1.to2.trans mjO2.up0).trans o2) b2
  rw [mjUp_nc (by omega)]
  exact hd k g1 g2
def adF (a b : Nat → Int) (i : Nat) (y : Int) : Int := (a i + b i + y) / 1073741824
def adG (a b : Nat → Int) (i : Nat) (y : Int) : Int := (a i + b i + y) % 1073741824
theorem ad_val {a b g : Nat → Int} {y' : Int} : ∀ (m i : Nat) (y : Int), bgT (adF a b) (adG a b) i m y g y' → bgS g i m + bgP m * y' = bgS a i m + bgS b i m + y
  | 0, i, y, h => by
    cases h
    simp [bgS, bgP]
  | m + 1, i, y, h => by
    have h1 := ad_val m (i + 1) _ h.2
    have h2 := h.1
    unfold bgS bgP
    rw [Int.mul_assoc]
    unfold adF at h1
    unfold adG at h2
    omega
theorem bg_addSize {n m : Nat} {q : mjZ → Prop} (hR : bgR c R) (hR2 : bgR e R2) (hx : bgX c e) (h1 : bgW R Z c n) (h2 : bgW R2 Z e m) (hs : Z c 0 = -1 ∨ Z c 0 = 1) (hf : bgS (Z (c + 1)) 0 n + bgS (Z (e + 1)) 0 m < bgP R) (hq : ∀ Z', mjO2 c Z Z' → bgIs R Z' c (Z c 0 * (bgS (Z (c + 1)) 0 n + bgS (Z (e + 1)) 0 m)) → q Z') : mjW0 (d + 3) 99 [yR 0 c, yR 0 e] Z q := by
  obtain ⟨r1, r2, r3⟩ := id hR
  obtain ⟨t1, t2, t3⟩ := id hR2
  obtain ⟨u1, u2, u3⟩ := id h1
  obtain ⟨w1, w2, w3⟩ := id h2
  have hE : (if (Z c 1) < (Z e 1) then (Z e 1) else (Z c 1)) + 1 = ((max n m + 1 : Nat) : Int) := by split <;> omega
  refine mje_99 (d := d + 1) ⟨by omega, by omega, ?_⟩
  rw [hE]
  have hb1 := bgS_b n 0 u3
  have hb2 := bgS_b m 0 w3
  refine bg_loop (R := R) (c := c) (E := max n m + 1) (Z0 := Z) (L := fun i y Z => mjL_99_19 (d + 2) c e ((max n m + 1 : Nat) : Int) y i Z q) (F := adF (bgG Z c) (bgG Z e)) (G := adG (bgG Z c) (bgG Z e)) (Y := fun _ y => 0 ≤ y ∧ y ≤ 1) (fun i y _ hy => ?_) (fun i y Z1 hi hI hy hL => ?_) (max n m + 1) 0 0 Z (Nat.zero_add _) bgI_0 (by omega) fun Z' y' g hy' hI _ hg hd hT => ?_
  · have g1 := bgG_b h1 i
    have g2 := bgG_b h2 i
    unfold adF adG
    omega
  · have he := hx.o1 hI.1
    have g1 := bgG_b h1 i
    have g2 := bgG_b h2 i
    refine mjl_99_19 ⟨by omega, by omega, fun h => by omega, fun _ => ?_⟩
    refine bg_digit hR (bgI_W h1 hI) (by omega) (by omega) ?_
    refine bg_digit hR2 (bgW_congr h2 he) (by omega) (by omega) ?_
    rw [bgG_congr he, show ((i : Int)).toNat = i from rfl, bgI_G hI (Nat.le_refl i)]
    rw [wAndI, wUshI (by omega) (by omega)]
    exact bg_setDigit hR (by omega) (by omega) hL
  · have hV := ad_val _ 0 0 hT
    rw [bgG_S h1 (show n ≤ max n m + 1 by omega), bgG_S h2 (show m ≤ max n m + 1 by omega), Int.add_zero] at hV
    have hb := bgS_b (max n m + 1) 0 hg
    have hP1 := bgP_mono (show n ≤ max n m by omega)
    have hP2 := bgP_mono (show m ≤ max n m by omega)
    have hP3 : bgP (max n m + 1) = 1073741824 * bgP (max n m) := rfl
    have hy0 : bgP (max n m + 1) * y' = 0 := by
      rcases (show y' = 0 ∨ y' = 1 by omega) with h | h <;> subst h
      · exact Int.mul_zero _
      · rw [Int.mul_one] at hV
        omega
    rw [hy0, Int.add_zero] at hV
    refine mjl_99_19 ⟨by omega, by omega, fun _ => ?_, fun h => by omega⟩
    refine bg_end (E := max n m + 1) (s := Z c 0) (g := g) hR (by omega) hg (fun k g1 g2 => hd k (Nat.zero_le _) g1 g2) (by rw [hI.1 c (by omega)]) (by omega) (fun h => by omega) (by rw [hV]) (by omega) fun Z2 o2 b2 => hq Z2 (hI.1.to2.trans o2) b2
def tkF (a b : Nat → Int) (i : Nat) (y : Int) : Int := if 0 ≤ a i - b i - y then 0 else 1
def tkG (a b : Nat → Int) (i : Nat) (y : Int) : Int := (a i - b i - y) % 1073741824
theorem tk_val {a b g : Nat → Int} {y' : Int} {E : Nat} (ha : ∀ i, 0 ≤ a i ∧ a i < 1073741824) (hb : ∀ i, 0 ≤ b i ∧ b i < 1073741824) : ∀ (m i : Nat) (y : Int), 0 ≤ y ∧ y ≤ 1 → bgT (tkF a b) (tkG a b) i m y g y' → bgS g i m - bgP m * y' = bgS a i m - bgS b i m - y
  | 0, i, y, hy, h => by
    cases h
    simp [bgS, bgP]
  | m + 1, i, y, hy, h => by
    have h1 := tk_val (E := E) ha hb m (i + 1) _ (by unfold tkF; split <;> omega) h.2
    have h2 := h.1
    have h3 := ha i
    have h4 := hb i
    unfold bgS bgP
    rw [Int.mul_assoc]
    unfold tkF at h1
    unfold tkG at h2
    split at h1 <;> omega
theorem bg_takeSize {n m : Nat} {t : Int} {q : mjZ → Prop} (hR : bgR c R) (hR2 : bgR e R2) (hx : bgX c e) (h1 : bgW R Z c n) (h2 : bgW R2 Z e m) (hs : Z c 0 = -1 ∨ Z c 0 = 1) (ht : t = 0 ∨ t = 1) (hf : bgS (Z (c + 1)) 0 n < bgP R ∧ bgS (Z (e + 1)) 0 m < bgP R)
    (hle : if t = 0 then bgS (Z (e + 1)) 0 m ≤ bgS (Z (c + 1)) 0 n else bgS (Z (c + 1)) 0 n ≤ bgS (Z (e + 1)) 0 m)
    (hq : ∀ Z', mjO2 c Z Z' → bgIs R Z' c (Z c 0 * (if t = 0 then bgS (Z (c + 1)) 0 n - bgS (Z (e + 1)) 0 m else bgS (Z (e + 1)) 0 m - bgS (Z (c + 1)) 0 n)) → q Z') : mjW0 (d + 3) 101 [yR 0 c, yR 0 e, yI t] Z q := by
  obtain ⟨r1, r2, r3⟩ := id hR
  obtain ⟨t1, t2, t3⟩ := id hR2
  obtain ⟨u1, u2, u3⟩ := id h1
  obtain ⟨w1, w2, w3⟩ := id h2
  have hE : (if (Z c 1) < (Z e 1) then (Z e 1) else (Z c 1)) = ((max n m : Nat) : Int) := by split <;> omega
  refine mje_101 (d := d + 1) ⟨by omega, by omega, ?_⟩
  rw [hE]
  have hb1 := bgS_b n 0 u3
  have hb2 := bgS_b m 0 w3
  have ha := fun i => bgG_b h1 i
  have hb := fun i => bgG_b h2 i
  refine bg_loop (R := R) (c := c) (E := max n m) (Z0 := Z) (L := fun i y Z => mjL_101_18 (d + 2) c e t ((max n m : Nat) : Int) y i Z q) (F := tkF (if t = 0 then bgG Z c else bgG Z e) (if t = 0 then bgG Z e else bgG Z c)) (G := tkG (if t = 0 then bgG Z c else bgG Z e) (if t = 0 then bgG Z e else bgG Z c)) (Y := fun _ y => 0 ≤ y ∧ y ≤ 1) (fun i y _ hy => ?_) (fun i y Z1 hi hI hy hL => ?_) (max n m) 0 0 Z (Nat.zero_add _) bgI_0 (by omega) fun Z' y' g hy' hI _ hg hd hT => ?_
  · unfold tkF tkG
    refine ⟨?_, by omega, by omega⟩
    split <;> omega
  · have he := hx.o1 hI.1
    have g1 := ha i
    have g2 := hb i
    refine mjl_101_18 ⟨by omega, by omega, fun h => by omega, fun _ => ⟨by omega, fun h0 => ?_, fun h0 => ?_⟩⟩
    · refine bg_digit hR (bgI_W h1 hI) (by omega) (by omega) ?_
      refine bg_digit hR2 (bgW_congr h2 he) (by omega) (by omega) ?_
      rw [bgG_congr he, show ((i : Int)).toNat = i from rfl, bgI_G hI (Nat.le_refl i)]
      simp only [if_pos h0, tkF, tkG] at hL
      refine ⟨by omega, fun h => ?_, fun h => ?_⟩
      · rw [if_pos h] at hL
        rw [wAndI]
        exact bg_setDigit hR (by omega) (by omega) hL
      · rw [if_neg h] at hL
        rw [wAndI]
        exact bg_setDigit hR (by omega) (by omega) hL
    · refine bg_digit hR2 (bgW_congr h2 he) (by omega) (by omega) ?_
      refine bg_digit hR (bgI_W h1 hI) (by omega) (by omega) ?_
      rw [bgG_congr he, show ((i : Int)).toNat = i from rfl, bgI_G hI (Nat.le_refl i)]
      simp only [if_neg h0, tkF, tkG] at hL
      refine ⟨by omega, fun h => ?_, fun h => ?_⟩
      · rw [if_pos h] at hL
        rw [wAndI]
        exact bg_setDigit hR (by omega) (by omega) hL
      · rw [if_neg h] at hL
        rw [wAndI]
        exact bg_setDigit hR (by omega) (by omega) hL
  · have hbb := bgS_b (max n m) 0 hg
    have hV : bgS g 0 (max n m) - bgP (max n m) * y' = (if t = 0 then bgS (Z (c + 1)) 0 n - bgS (Z (e + 1)) 0 m else bgS (Z (e + 1)) 0 m - bgS (Z (c + 1)) 0 n) := by
      rcases ht with h | h <;> subst h
      · simp only [if_pos rfl] at hT ⊢
        have hV := tk_val (E := 0) ha hb _ 0 0 (by omega) hT
        rw [bgG_S h1 (show n ≤ max n m by omega), bgG_S h2 (show m ≤ max n m by omega), Int.sub_zero] at hV
        exact hV
      · simp only [if_neg (show ¬ (1 : Int) = 0 by decide)] at hT ⊢
        have hV := tk_val (E := 0) hb ha _ 0 0 (by omega) hT
        rw [bgG_S h1 (show n ≤ max n m by omega), bgG_S h2 (show m ≤ max n m by omega), Int.sub_zero] at hV
        exact hV
    have hN : 0 ≤ (if t = 0 then bgS (Z (c + 1)) 0 n - bgS (Z (e + 1)) 0 m else bgS (Z (e + 1)) 0 m - bgS (Z (c + 1)) 0 n) ∧ (if t = 0 then bgS (Z (c + 1)) 0 n - bgS (Z (e + 1)) 0 m else bgS (Z (e + 1)) 0 m - bgS (Z (c + 1)) 0 n) < bgP R := by
      split at hle
      · rename_i h
        simp only [if_pos h]
        omega
      · rename_i h
        simp only [if_neg h]
        omega
    have hy0 : bgP (max n m) * y' = 0 := by
      rcases (show y' = 0 ∨ y' = 1 by omega) with h | h <;> subst h
      · exact Int.mul_zero _
      · rw [Int.mul_one] at hV
        omega
    rw [hy0, Int.sub_zero] at hV
    refine mjl_101_18 ⟨by omega, by omega, fun _ => ?_, fun h => by omega⟩
    refine bg_end (E := max n m) (s := Z c 0) (g := g) hR (by omega) hg (fun k g1 g2 => hd k (Nat.zero_le _) g1 g2) (by rw [hI.1 c (by omega)]) (by omega) (fun h => by omega) (by rw [hV]) (by omega) fun Z2 o2 b2 => hq Z2 (hI.1.to2.trans o2) b2
end BGB
