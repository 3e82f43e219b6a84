/-! The other side: the least polynomial. -/
section LO
variable {U F : Nat → Nat → Int} {D M : Nat → Nat}
/-- all heads together -/
def ph (U : Nat → Nat → Int) (D M : Nat → Nat) : Nat → Int
  | 0 => 1
  | j + 1 => ph U D M j * hk (sOf (D j) (U j)) (M j)
theorem SG_hk {u f g : Nat → Int} {d m e : Nat} (h : SG u d m e f g) : 0 < hk (sOf d u) m ∧ hk (sOf d u) m ≤ 2 ^ (52 * m) ∧ m + e = d ∧ d ≤ 6 := by
  rcases h with ⟨h1, h2, h3, _⟩ | ⟨h6, hS, hZ, _⟩
  · subst h1 h2 h3
    refine ⟨?_, ?_, rfl, by omega⟩
    · rw [hk_0]; omega
    · rw [hk_0]; decide
  · obtain ⟨t1, t2, _, _, _, _, _, _, _, _, _, _, t13⟩ := hS
    exact ⟨t13 m (Nat.le_refl m), hZ.2.2 m (by omega), t2, h6⟩
theorem ph_all (hS : ∀ j, SG (U j) (D j) (M j) (D (j + 1)) (F j) (U (j + 1))) : ∀ j, 0 < ph U D M j ∧ ∃ s : Nat, ph U D M j ≤ 2 ^ (52 * s) ∧ s + D j = D 0
  | 0 => ⟨by
    show (0 : Int) < 1
    omega, 0, by
    show (1 : Int) ≤ 2 ^ (52 * 0)
    decide, by omega⟩
  | j + 1 => by
    obtain ⟨h1, s, h2, h3⟩ := ph_all hS j
    obtain ⟨g1, g2, g3, _⟩ := SG_hk (hS j)
    refine ⟨Int.mul_pos h1 g1, s + M j, ?_, by omega⟩
    have := Int.mul_le_mul h2 g2 (by omega) (by have := h1; omega)
    rw [show 52 * (s + M j) = 52 * s + 52 * M j by omega, Int.pow_add]
    exact this
theorem ph_dvd {p : Int} : ∀ (j i : Nat), i < j → p ∣ hk (sOf (D i) (U i)) (M i) → p ∣ ph U D M j
  | 0, i, h, _ => by omega
  | j + 1, i, h, hd => by
    show p ∣ ph U D M j * hk (sOf (D j) (U j)) (M j)
    by_cases e : i = j
    · subst e
      exact Int.dvd_mul_of_dvd_right hd
    · exact Int.dvd_trans (ph_dvd j i (by omega) hd) (Int.dvd_mul_right _ _)
theorem few (hS : ∀ j, SG (U j) (D j) (M j) (D (j + 1)) (F j) (U (j + 1))) (h6 : D 0 ≤ 6) : nbad (ph U D M 6).toNat 24 ≤ 10 := by
  obtain ⟨h1, s, h2, h3⟩ := ph_all hS 6
  refine nbad_few (by omega) ?_
  have h4 : s ≤ 6 := by omega
  have h5 : 2 ^ (52 * s) ≤ 2 ^ (52 * 6) := Nat.pow_le_pow_right (by omega) (by omega)
  have h7 : (((2 ^ (52 * s) : Nat)) : Int) = 2 ^ (52 * s) := Int.natCast_pow 2 (52 * s)
  have h8 : 2 ^ (52 * 6) < 2 ^ 330 := by decide
  have h9 : (ph U D M 6).toNat ≤ 2 ^ (52 * s) := by omega
  omega
/-- what all primes up to r have told -/
def tol (Z Za : mjZ) (U F : Nat → Nat → Int) (D M : Nat → Nat) (r : Nat) (Z' : mjZ) : Prop := (∀ c, c < 482 ∨ 487 < c → Z' c = Za c) ∧ ∀ q, q < r → (eq6 (fun i => Z' 482 (6 * q + i)) (fun i => (M i : Int)) ∨ lt6 (fun i => Z' 482 (6 * q + i)) fun i => (M i : Int)) ∧ (¬ pq q ∣ (ph U D M 6).toNat → eq6 (fun i => Z' 482 (6 * q + i)) fun i => (M i : Int)) ∧ (Z' 482 (6 * q) = (M 0 : Int) → ∀ k, k < 7 → Z' 483 (7 * q + k) = F 0 k % pq q) ∧ ∀ i, i < 6 → -7 ≤ Z' 482 (6 * q + i) ∧ Z' 482 (6 * q + i) ≤ 7
theorem fp_leastOf {d t n : Nat} {Z : mjZ} {T : Nat → Nat → Int} {q : mjZ → Prop} (ht : t < 60) (h1 : 1 ≤ n) (h6 : n ≤ 6) (h9 : Z 469 t = (n : Int)) (hT : ∀ i k, i < n → k < n → Z 470 (36 * t + 6 * i + k) = T i k ∧ -100 ≤ T i k ∧ T i k ≤ 100) (hpr : ∀ q, q < 24 → Z 481 q = (pq q : Int)) (u0 : U 0 = leU n T) (d0 : D 0 = n) (hS : ∀ j, SG (U j) (D j) (M j) (D (j + 1)) (F j) (U (j + 1))) (hq : ∀ Z', (∀ c, c < 478 ∨ 489 < c → c ≠ 464 → Z' c = Z c) → (∀ k, k ≠ 32 → Z' 464 k = Z 464 k) → Z' 481 = Z 481 → Z' 464 32 = (M 0 : Int) → (∀ j, j < 6 → Z' 489 j = (M j : Int)) → (∀ k, k < 7 → Z' 488 k = F 0 k) → q Z') : mjW0 (d + 8) 207 [yR 11 464, yI (t : Int)] Z q := by
  have hF : ∀ k, bgA (F 0 k) ≤ 46656000000000000 := by
    rcases hS 0 with ⟨h0, _⟩ | ⟨_, _, _, _, h⟩
    · omega
    · exact h
  have hU : ∀ k, bgA (U 0 k) ≤ 279936000000000000 := by
    rcases hS 0 with ⟨h0, _⟩ | ⟨_, _, hz, _, _⟩
    · omega
    · intro k
      have := hz.1 k
      omega
  have fw := few hS (by omega)
  refine mje_207 (d := d + 7) (fm_polyOf (d := d + 5) ht h1 h6 h9 hT fun g h p hp => ⟨by omega, by omega, ?_⟩)
  generalize hZa : wS Z g h p = Za
  have za : ∀ c, c ≠ 478 → c ≠ 479 → c ≠ 480 → Za c = Z c := fun c c1 c2 c3 => by rw [← hZa, wS_ne c1 c2 c3]
  have zp : ∀ k, k < 7 → Za 480 k = U 0 k := fun k hk => by
    rw [← hZa, wS_ap, hp k hk, u0]
    rfl
  have z481 : ∀ q, q < 24 → Za 481 q = (pq q : Int) := fun q hq => by
    rw [za 481 (by decide) (by decide) (by decide)]
    exact hpr q hq
  have z469 : Za 469 t = (n : Int) := by rw [za 469 (by decide) (by decide) (by decide), h9]
  rw [z469]
  refine lp_inv (n := 24) (a := Za) (L := fun r Zc => mjL_207_14 (d + 7) t (n : Int) r Zc q) (Y := tol Z Za U F D M) (fun r Zc hr hy hL => ?_) (fun Zc hy => ?_) ⟨fun c _ => rfl, fun q hq => by omega⟩
  · obtain ⟨y1, y2⟩ := hy
    refine mjl_207_14 ⟨by omega, fun g => by omega, fun _ => ?_⟩
    have rg := pq_rg r hr
    refine fp_byPrime (d := d + 1) (P := pq r) (p := (pq r : Int)) (U := U) (F := F) (D := D) (M := M) (pq_pri r hr) rfl (by omega) hr (by rw [y1 481 (by omega)]; exact z481 r hr) (fun k hk => by rw [y1 480 (by omega)]; exact zp k hk) hU (fun k hk => by rw [u0]; exact if_neg (by omega)) (by omega) hS fun Z2 hb => hL Z2 ?_
    obtain ⟨b1, b2, b3, ⟨_, _, b4⟩, b5, b6⟩ := hb
    refine ⟨fun c hc => by rw [b1 c hc, y1 c hc], fun q hq => ?_⟩
    by_cases e : q = r
    · subst e
      refine ⟨?_, fun hn => ?_, fun hM => b5 (by omega) hM, b6⟩
      · rcases b4 with ⟨a1, _⟩ | ⟨i, i1, i2, i3, _⟩
        · exact Or.inl fun j hj => a1 j hj
        · exact Or.inr ⟨i, i1, i2, i3⟩
      · rcases b4 with ⟨a1, _⟩ | ⟨i, i1, i2, i3, i4⟩
        · exact fun j hj => a1 j hj
        · exfalso
          have k1 := ph_dvd (U := U) (D := D) (M := M) 6 i i1 i4
          have k2 := (ph_all hS 6).1
          refine hn (Int.ofNat_dvd.mp ?_)
          rw [Int.toNat_of_nonneg (by omega)]
          exact k1
    · have s482 : ∀ i, i < 6 → Z2 482 (6 * q + i) = Zc 482 (6 * q + i) := fun i hi => b2 _ (by omega)
      have s483 : ∀ i, i < 7 → Z2 483 (7 * q + i) = Zc 483 (7 * q + i) := fun i hi => b3 _ (by omega)
      obtain ⟨c1, c2, c3, c4⟩ := y2 q (by omega)
      refine ⟨?_, fun hn j hj => ?_, fun hM k hk => ?_, fun i hi => ?_⟩
      · rcases c1 with g | ⟨j, j1, j2, j3⟩
        · exact Or.inl fun j hj => by
            show Z2 482 (6 * q + j) = _
            rw [s482 j hj]
            exact g j hj
        · refine Or.inr ⟨j, j1, fun i hi => ?_, ?_⟩
          · show Z2 482 (6 * q + i) = _
            rw [s482 i (by omega)]
            exact j2 i hi
          · show Z2 482 (6 * q + j) < _
            rw [s482 j j1]
            exact j3
      · show Z2 482 (6 * q + j) = _
        rw [s482 j hj]
        exact c2 hn j hj
      · have s0 := s482 0 (by omega)
        rw [Nat.add_zero] at s0
        rw [s483 k hk]
        exact c3 (by rw [← s0]; exact hM) k hk
      · rw [s482 i hi]
        exact c4 i hi
  · obtain ⟨y1, y2⟩ := hy
    refine mjl_207_14 ⟨by omega, fun _ => ?_, fun g => by omega⟩
    -- what is more is taken
    let tb : Nat → Nat → Int := fun q i => Zc 482 (6 * q + i)
    let tm : Nat → Int := fun i => (M i : Int)
    have hl : ∀ q, q < 24 → eq6 (tb q) tm ∨ lt6 (tb q) tm := fun q hq => (y2 q hq).1
    have hg : ∀ q, q < 24 → ¬ pq q ∣ (ph U D M 6).toNat → eq6 (tb q) tm := fun q hq => (y2 q hq).2.1
    have best : ∀ s x b, x + s = 24 → bst tb tm b x → (∀ b, bst tb tm b 24 → mjL_207_70 (d + 7) t b 0 Zc q) → mjL_207_37 (d + 7) t b x Zc q := fun s => by
      induction s with
      | zero =>
        intro x b hx hb h
        obtain rfl : x = 24 := by omega
        exact mjl_207_37 ⟨by omega, fun _ => h b hb, fun g => by omega⟩
      | succ s ih =>
        intro x b hx hb h
        refine mjl_207_37 ⟨by omega, fun g => by omega, fun _ => ?_⟩
        have hb0 := hb.1
        refine fp_isMore (d := d + 6) (by omega) (by omega) (y2 x (by omega)).2.2.2 (y2 b (by omega)).2.2.2 ?_
        obtain ⟨s1, s2⟩ := bst_s hl (show x < 24 by omega) hb
        have im0 : im (tb x) (tb b) = -1 ∨ im (tb x) (tb b) = 0 ∨ im (tb x) (tb b) = 1 := by
          unfold im
          generalize 0 = j
          generalize 6 = m
          induction m generalizing j with
          | zero => exact Or.inr (Or.inl rfl)
          | succ m ihm =>
            show (if tb x j - tb b j = 0 then imr (tb x) (tb b) m (j + 1) else if tb x j - tb b j ≤ 0 then -1 else 1) = -1 ∨ (if tb x j - tb b j = 0 then imr (tb x) (tb b) m (j + 1) else if tb x j - tb b j ≤ 0 then -1 else 1) = 0 ∨ (if tb x j - tb b j = 0 then imr (tb x) (tb b) m (j + 1) else if tb x j - tb b j ≤ 0 then -1 else 1) = 1
            have := ihm (j + 1)
            repeat' split
            all_goals omega
        have im1 : im (fun i => Zc 482 (6 * x + i)) (fun i => Zc 482 (6 * b + i)) = im (tb x) (tb b) := rfl
        rw [im1]
        exact ⟨by omega, fun g => ih (x + 1) b (by omega) (s1 g) h, fun g => ih (x + 1) x (by omega) (s2 g) h⟩
    refine best 23 1 0 (by omega) bst_0 fun b hb => ?_
    obtain ⟨b24, hb2⟩ := hb
    obtain ⟨e1, e2⟩ : eq6 (tb b) tm ∧ ∀ q, q < b → ¬ eq6 (tb q) tm := by
      rcases hb2 with g | g
      · exact g
      · obtain ⟨r, r1, _, _, r2⟩ := third fw hg 0 0
        exact absurd r2 (g r r1)
    -- the next two
    have nx : ∀ b2, ∃ r, r < 24 ∧ b2 < r ∧ eq6 (tb r) tm ∧ (∀ s, b2 < s → s < r → ¬ eq6 (tb s) tm) ∨ ∀ s, b2 < s → s < 24 → ¬ eq6 (tb s) tm := fun b2 => by
      rcases Classical.em (∃ r, r < 24 ∧ b2 < r ∧ eq6 (tb r) tm) with g | g
      · obtain ⟨r, r1⟩ := g
        obtain ⟨m, m1, m2⟩ := lst (P := fun r => r < 24 ∧ b2 < r ∧ eq6 (tb r) tm) r r1
        exact ⟨m, Or.inl ⟨m1.1, m1.2.1, m1.2.2, fun s s1 s2 s3 => m2 s s2 ⟨by have := m1.1; omega, s1, s3⟩⟩⟩
      · exact ⟨0, Or.inr fun s s1 s2 s3 => g ⟨s, s2, s1, s3⟩⟩
    obtain ⟨b2, k1, k2, k3, k4⟩ : ∃ r, r < 24 ∧ b < r ∧ eq6 (tb r) tm ∧ ∀ s, b < s → s < r → ¬ eq6 (tb s) tm := by
      obtain ⟨r, g | g⟩ := nx b
      · exact ⟨r, g⟩
      · obtain ⟨s, s1, s2, _, s3⟩ := third fw hg b b
        rcases Nat.lt_trichotomy s b with l | l | l
        · exact absurd s3 (e2 s l)
        · exact absurd l s2
        · exact absurd s3 (g s l s1)
    obtain ⟨b3, l1, l2, l3, l4⟩ : ∃ r, r < 24 ∧ b2 < r ∧ eq6 (tb r) tm ∧ ∀ s, b2 < s → s < r → ¬ eq6 (tb s) tm := by
      obtain ⟨r, g | g⟩ := nx b2
      · exact ⟨r, g⟩
      · obtain ⟨s, s1, s2, s4, s3⟩ := third fw hg b b2
        rcases Nat.lt_trichotomy s b with l | l | l
        · exact absurd s3 (e2 s l)
        · exact absurd l s2
        · rcases Nat.lt_trichotomy s b2 with l' | l' | l'
          · exact absurd s3 (k4 s l l')
          · exact absurd l' s4
          · exact absurd s3 (g s l' s1)
    -- how often
    refine lp_row (A := 489) (n := 6) (f := fun i g => va_up g i (Zc 482 (6 * b + i))) (L := fun i Z => mjL_207_70 (d + 7) t b i Z q) (fun i g hi hL => ?_) ?_
    · refine mjl_207_70 ⟨by omega, fun g => by omega, fun _ => ⟨by omega, by omega, by omega, by omega, ?_⟩⟩
      rw [mjRow_ne (show 482 ≠ 489 by decide), show ((6 * (b : Int)) + (i : Int)).toNat = 6 * b + i by omega, mjRow_up]
      exact hL
    · have hv : ∀ k, k < 6 → fo (fun i g => va_up g i (Zc 482 (6 * b + i))) 6 (Zc 489) k = (M k : Int) := fun k hk => by
        have := fo_seg (o := 0) (F := fun i _ => Zc 482 (6 * b + i)) (g := Zc 489) 6 k
        rw [if_pos (by omega), Nat.sub_zero] at this
        have e' : Zc 482 (6 * b + k) = (M k : Int) := e1 k hk
        refine Eq.trans ?_ (this.trans e')
        congr 1
      generalize fo (fun i g => va_up g i (Zc 482 (6 * b + i))) 6 (Zc 489) = a at hv
      refine mjl_207_70 ⟨by omega, fun _ => ?_, fun g => by omega⟩
      have a0 : mjRow Zc 489 a 489 0 = (M 0 : Int) := by rw [mjRow_at, hv 0 (by omega)]
      rw [a0]
      generalize hZd : mjUp (mjRow Zc 489 a) 464 32 (M 0 : Int) = Zd
      have d482 : Zd 482 = Zc 482 := by rw [← hZd, mjUp_nc (by decide), mjRow_ne (by decide)]
      have d483 : Zd 483 = Zc 483 := by rw [← hZd, mjUp_nc (by decide), mjRow_ne (by decide)]
      have d481 : ∀ q, q < 24 → Zd 481 q = (pq q : Int) := fun q hq => by
        rw [← hZd, mjUp_nc (by decide), mjRow_ne (by decide), y1 481 (by omega)]
        exact z481 q hq
      have dB : ∀ r, r < 24 → ∀ i, i < 6 → -7 ≤ Zd 482 (6 * r + i) ∧ Zd 482 (6 * r + i) ≤ 7 := fun r hr i hi => by
        rw [d482]
        exact (y2 r hr).2.2.2 i hi
      have imz : ∀ r s, r < 24 → eq6 (tb s) tm → (im (fun i => Zd 482 (6 * r + i)) (fun i => Zd 482 (6 * s + i)) = 0 ↔ eq6 (tb r) tm) := fun r s hr hs => by
        rw [d482, im_0]
        exact ⟨fun h j hj => (h j hj).trans (hs j hj), fun h j hj => (h j hj).trans (hs j hj).symm⟩
      have imr3 : ∀ A B : Nat → Int, -2147483648 ≤ im A B ∧ im A B < 2147483648 := fun A B => by
        have : ∀ m j, imr A B m j = -1 ∨ imr A B m j = 0 ∨ imr A B m j = 1 := fun m => by
          induction m with
          | zero => exact fun j => Or.inr (Or.inl rfl)
          | succ m ihm =>
            intro j
            have := ihm (j + 1)
            show (if A j - B j = 0 then imr A B m (j + 1) else if A j - B j ≤ 0 then -1 else 1) = -1 ∨ (if A j - B j = 0 then imr A B m (j + 1) else if A j - B j ≤ 0 then -1 else 1) = 0 ∨ (if A j - B j = 0 then imr A B m (j + 1) else if A j - B j ≤ 0 then -1 else 1) = 1
            repeat' split
            all_goals omega
        have := this 6 0
        unfold im
        omega
      have sq : ∀ r, r < 24 → eq6 (tb r) tm → ∀ k, k < 7 → Zd 483 (7 * r + k) = F 0 k % pq r := fun r hr he k hk => by
        rw [d483]
        exact (y2 r hr).2.2.1 (by
          have := he 0 (by omega)
          exact this) k hk
      have sB : ∀ s x, x + s = b2 → b < x → mjL_207_144 (d + 7) t b b2 (b2 + 1) Zd q → mjL_207_121 (d + 7) t b x Zd q := fun s => by
        induction s with
        | zero =>
          intro x hx hbx h
          obtain rfl : x = b2 := by omega
          refine mjl_207_121 (fp_isMore (d := d + 6) k1 b24 (dB x k1) (dB b b24) ⟨imr3 _ _, fun _ => h, fun g => ?_⟩)
          exact absurd ((imz x b k1 e1).mpr k3) g
        | succ s ih =>
          intro x hx hbx h
          refine mjl_207_121 (fp_isMore (d := d + 6) (by omega) b24 (dB x (by omega)) (dB b b24) ⟨imr3 _ _, fun g => ?_, fun _ => ih (x + 1) (by omega) (by omega) h⟩)
          exact absurd ((imz x b (by omega) e1).mp g) (k4 x hbx (by omega))
      have sC : ∀ s x, x + s = b3 → b2 < x → mjL_207_164 (d + 7) t b b2 b3 0 Zd q → mjL_207_144 (d + 7) t b b2 x Zd q := fun s => by
        induction s with
        | zero =>
          intro x hx hbx h
          obtain rfl : x = b3 := by omega
          refine mjl_207_144 (fp_isMore (d := d + 6) l1 b24 (dB x l1) (dB b b24) ⟨imr3 _ _, fun _ => h, fun g => ?_⟩)
          exact absurd ((imz x b l1 e1).mpr l3) g
        | succ s ih =>
          intro x hx hbx h
          refine mjl_207_144 (fp_isMore (d := d + 6) (by omega) b24 (dB x (by omega)) (dB b b24) ⟨imr3 _ _, fun g => ?_, fun _ => ih (x + 1) (by omega) (by omega) h⟩)
          exact absurd ((imz x b (by omega) e1).mp g) (l4 x hbx (by omega))
      refine sB (b2 - (b + 1)) (b + 1) (by omega) (by omega) (sC (b3 - (b2 + 1)) (b2 + 1) (by omega) (by omega) ?_)
      refine lp_inv (n := 7) (a := Zd) (L := fun i Z => mjL_207_164 (d + 7) t b b2 b3 i Z q) (Y := fun i Z => (∀ c, c ≠ 488 → Z c = Zd c) ∧ ∀ k, k < i → Z 488 k = F 0 k) (fun i Ze hi hy hL => ?_) (fun Ze hy => ?_) ⟨fun c _ => rfl, fun k hk => by omega⟩
      · obtain ⟨w1, w2⟩ := hy
        refine mjl_207_164 ⟨by omega, fun g => by omega, fun _ => ⟨by omega, by omega, by omega, by omega, by omega, by omega, by omega, by omega, by omega, by omega, by omega, by omega, ?_⟩⟩
        rw [show ((7 * (b : Int)) + (i : Int)).toNat = 7 * b + i by omega, show ((7 * (b2 : Int)) + (i : Int)).toNat = 7 * b2 + i by omega, show ((7 * (b3 : Int)) + (i : Int)).toNat = 7 * b3 + i by omega, w1 483 (by decide), w1 481 (by decide), sq b b24 e1 i hi, sq b2 k1 k3 i hi, sq b3 l1 l3 i hi, d481 b b24, d481 b2 k1, d481 b3 l1]
        refine fp_whole (d := d + 5) b24 k1 l1 (by omega) (by omega) (by omega) (hF i) ⟨by omega, by omega, hL _ ⟨fun c hc => by rw [mjUp_nc hc, w1 c hc], fun k hk => ?_⟩⟩
        show (if 488 = 488 ∧ k = i then F 0 i else Ze 488 k) = F 0 k
        by_cases e : k = i
        · rw [if_pos ⟨rfl, e⟩, e]
        · rw [if_neg fun c => e c.2]
          exact w2 k (by omega)
      · obtain ⟨w1, w2⟩ := hy
        refine mjl_207_164 ⟨by omega, fun _ => ?_, fun g => by omega⟩
        refine hq Ze (fun c hc h464 => ?_) (fun k hk => ?_) ?_ ?_ (fun j hj => ?_) w2
        · rw [w1 c (by omega), ← hZd, mjUp_nc h464, mjRow_ne (by omega), y1 c (by omega), za c (by omega) (by omega) (by omega)]
        · rw [w1 464 (by decide), ← hZd]
          show (if 464 = 464 ∧ k = 32 then _ else mjRow Zc 489 a 464 k) = _
          rw [if_neg fun c => hk c.2, mjRow_ne (by decide), y1 464 (by omega), za 464 (by decide) (by decide) (by decide)]
        · rw [w1 481 (by decide), ← hZd, mjUp_nc (by decide), mjRow_ne (by decide), y1 481 (by omega), za 481 (by decide) (by decide) (by decide)]
        · rw [w1 464 (by decide), ← hZd, mjUp_at]
        · rw [w1 489 (by decide), ← hZd, mjUp_nc (by decide), mjRow_at]
          exact hv j hj
end LO
