/-! The other side: one prime. -/
theorem pI_modl {q : Int} : ∀ (n : Nat) {c e W : Nat → Int} {k : Nat}, (∀ i, i < n → q ∣ c i - e i) → q ∣ pI n c W k - pI n e W k
  | 0, _, _, _, _, _ => ⟨0, by
    show (0 : Int) - 0 = q * 0
    omega⟩
  | n + 1, c, e, W, k, h => by
    have h0 := Int.dvd_mul_of_dvd_right (b := W k) (h 0 (by omega))
    show q ∣ c 0 * W k + su (pI n (fun i => c (i + 1)) W) k - (e 0 * W k + su (pI n (fun i => e (i + 1)) W) k)
    cases k with
    | zero =>
      rw [su_0, su_0]
      rw [show c 0 * W 0 + 0 - (e 0 * W 0 + 0) = W 0 * (c 0 - e 0) by grind]
      exact h0
    | succ k =>
      rw [su_s, su_s]
      have h1 := Int.dvd_add h0 (pI_modl n (c := fun i => c (i + 1)) (e := fun i => e (i + 1)) (W := W) (k := k) fun i hi => h (i + 1) (by omega))
      rw [show c 0 * W (k + 1) + pI n (fun i => c (i + 1)) W k - (e 0 * W (k + 1) + pI n (fun i => e (i + 1)) W k) = W (k + 1) * (c 0 - e 0) + (pI n (fun i => c (i + 1)) W k - pI n (fun i => e (i + 1)) W k) by grind]
      exact h1
/-- monic of degree e, in a row of seven -/
def mnc (s : Nat → Int) (e : Nat) : Prop := e < 7 ∧ s e = 1 ∧ ∀ k, e < k → k < 7 → s k = 0
theorem mnc_z {s : Nat → Int} {e : Nat} (h : mnc s e) (k : Nat) (hk : e < k) : tr7 s k = 0 := by
  unfold tr7
  by_cases l : k < 7
  · rw [if_pos l]; exact h.2.2 k hk l
  · rw [if_neg l]
theorem mnc_1 {s : Nat → Int} {e : Nat} (h : mnc s e) : tr7 s e = 1 := by
  rw [tr7_lt h.1]
  exact h.2.1
section ON
variable {p : Int} {u f g lv s : Nat → Int} {d m e1 dl e : Nat}
theorem on_step (hq : ¬ p ∣ 1) (hS : SG u d m e1 f g) (hl : mnc lv dl) (hs : mnc s e) (hG : gcq p (tr7 s) (tr7 lv) (slo (tr7 lv))) (hc : ∀ k, p ∣ tr7 lv k - u k) : dl = d ∧ (((if 1 ≤ dl then (dl : Int) - (e : Int) else 0) = (m : Int) ∧ e = e1 ∧ ∀ k, p ∣ tr7 s k - g k) ∨ ((if 1 ≤ dl then (dl : Int) - (e : Int) else 0) < (m : Int) ∧ p ∣ hk (sOf d u) m)) := by
  have sz := mnc_z hs
  have s1 := mnc_1 hs
  have lz := mnc_z hl
  have l1 := mnc_1 hl
  have dself := (hG e (tr7 s) s1 sz).mp (dvq_self fun i hi => sz i (by omega))
  rcases hS with ⟨rfl, rfl, rfl, rfl, rfl, rfl⟩ | ⟨h6, hS, hZ, hR, hF⟩
  · have d0 : dl = 0 := by
      refine Classical.byContradiction fun c => hq ?_
      have := hc dl
      rw [l1, show mono 0 dl = 0 from if_neg c, Int.sub_zero] at this
      exact this
    subst d0
    have e0 : e ≤ 0 := mq_le s1 dself.1 ⟨0, fun z => by rw [l1] at z; exact hq z⟩ fun k hk => by
      rw [lz k hk]
      exact ⟨0, by omega⟩
    obtain rfl : e = 0 := by omega
    refine ⟨rfl, Or.inl ⟨if_neg (by omega), rfl, fun k => ?_⟩⟩
    by_cases c : k = 0
    · rw [c, s1]
      exact ⟨0, by
        show (1 : Int) - (if 0 = 0 then 1 else 0) = _
        rw [if_pos rfl]
        omega⟩
    · rw [sz k (by omega)]
      exact ⟨0, by
        show (0 : Int) - (if k = 0 then 1 else 0) = _
        rw [if_neg c]
        omega⟩
  · obtain ⟨t1, t2, t3, t4, _⟩ := id hS
    have ed : dl = d := by
      rcases Nat.lt_trichotomy dl d with l | l | l
      · exfalso
        have := hc d
        rw [lz d l, t3] at this
        exact hq (by have h := Int.dvd_neg.mpr this; rw [show -((0 : Int) - 1) = 1 from rfl] at h; exact h)
      · exact l
      · exfalso
        have := hc dl
        rw [l1, t4 dl l, Int.sub_zero] at this
        exact hq this
    subst ed
    have cs : ∀ k, p ∣ slo (tr7 lv) k - slo u k := fun k => by
      unfold slo
      have := Int.dvd_mul_of_dvd_right (b := (k : Int) + 1) (hc (k + 1))
      rw [Int.mul_sub] at this
      exact this
    have sw : ∀ {a b : Nat → Int}, (∀ k, p ∣ a k - b k) → ∀ k, p ∣ b k - a k := fun h k => by
      have := Int.dvd_neg.mpr (h k)
      rw [Int.neg_sub] at this
      exact this
    have hG2 : gcq p (tr7 s) u (slo u) := fun e D D1 D2 => (hG e D D1 D2).trans ⟨fun h => ⟨dvq_cg (sw hc) h.1, dvq_cg (sw cs) h.2⟩, fun h => ⟨dvq_cg hc h.1, dvq_cg cs h.2⟩⟩
    obtain ⟨u1, u2⟩ := hS.up hG2 hq (c := e) (by rw [s1]; exact ⟨0, by omega⟩) fun k hk => by
      rw [sz k hk]
      exact ⟨0, by omega⟩
    refine ⟨rfl, ?_⟩
    rw [if_pos (by omega)]
    by_cases c : e = e1
    · exact Or.inl ⟨by omega, c, u2 c⟩
    · refine Or.inr ⟨by omega, Classical.byContradiction fun k => ?_⟩
      have := hS.lo hG2 s1 sz k
      omega
theorem on_sq (hS : SG u d m e1 f g) (h1 : 1 ≤ d) (hs : mnc s e1) (hc : ∀ k, p ∣ tr7 lv k - u k) (hg : ∀ k, p ∣ tr7 s k - g k) {o r : Nat → Int} (hr : ∀ k, e1 ≤ k → k < 7 → r k = 0) (hd : ∀ k, p ∣ tr7 lv k - (pI (e1 + 1) (tr7 s) (tr7 o) k + tr7 r k)) : ∀ k, p ∣ f k - tr7 o k := by
  rcases hS with ⟨h0, _⟩ | ⟨h6, hS, _⟩
  · omega
  · obtain ⟨t1, t2, t3, t4, t5, t6, t7, t8, t9, _⟩ := hS
    refine mq_quo (D := g) (e := e1) (N := m + 8) (r := tr7 r) t7 (fun k hk => ?_) (fun k hk => ?_) fun k => ?_
    · rw [t6 k (by omega), tr7_ge (by omega)]
      omega
    · unfold tr7
      by_cases l : k < 7
      · rw [if_pos l, hr k hk l]
        exact ⟨0, by omega⟩
      · rw [if_neg l]
        exact ⟨0, by omega⟩
    · rw [t9]
      have a1 := hc k
      have a2 := hd k
      have a3 := pI_modl (q := p) (e1 + 1) (c := tr7 s) (e := g) (W := tr7 o) (k := k) fun i _ => hg i
      have a4 := Int.dvd_add (Int.dvd_sub a2 a1) a3
      rw [show tr7 lv k - (pI (e1 + 1) (tr7 s) (tr7 o) k + tr7 r k) - (tr7 lv k - u k) + (pI (e1 + 1) (tr7 s) (tr7 o) k - pI (e1 + 1) g (tr7 o) k) = u k - (pI (e1 + 1) g (tr7 o) k + tr7 r k) by omega] at a4
      exact a4
end ON
theorem tm_em {a p : Int} (hp : 0 < p) : (0 ≤ Int.tmod a p → Int.tmod a p = a % p) ∧ (¬ 0 ≤ Int.tmod a p → Int.tmod a p + p = a % p) := by
  have h1 := Int.lt_tmod_of_pos a hp
  have h2 := Int.tmod_lt_of_pos a hp
  have h3 := tm_dv a p
  refine ⟨fun h => em_eq h h2 h3, fun h => em_eq (by omega) (by omega) ?_⟩
  have := Int.dvd_add h3 (Int.dvd_refl p)
  rw [show Int.tmod a p - a + p = Int.tmod a p + p - a by omega] at this
  exact this
/-- what a prime has told so far -/
def onW (p : Int) (U : Nat → Nat → Int) (D M : Nat → Nat) (tb lv : Nat → Int) (j : Nat) : Prop := rst p lv ∧ (∃ dl, mnc lv dl) ∧ (((∀ i, i < j → tb i = (M i : Int)) ∧ ∀ k, p ∣ tr7 lv k - U j k) ∨ ∃ i, i < j ∧ (∀ i2, i2 < i → tb i2 = (M i2 : Int)) ∧ tb i < (M i : Int) ∧ p ∣ hk (sOf (D i) (U i)) (M i))
section BP
variable {d x1 x2 : Nat} {Z : mjZ} {p : Int} {U F : Nat → Nat → Int} {D M : Nat → Nat}
theorem by_212 {i5 : Nat} {Zs : mjZ} {q : mjZ → Prop} (h : ∀ g, (∀ k, k < 7 → g k = Zs 487 k) → mjL_208_60 d x1 x2 p (i5 + 1) (mjRow Zs 486 g) q) : mjL_208_212 d x1 x2 p i5 0 Zs q := by
  refine lp_row (A := 486) (n := 7) (f := fun i g => va_up g i (Zs 487 i)) (L := fun i Z => mjL_208_212 d x1 x2 p i5 i Z q) (fun i g hi hL => ?_) ?_
  · refine mjl_208_212 ⟨by omega, fun g => by omega, fun _ => ⟨by omega, by omega, ?_⟩⟩
    rw [mjRow_ne (show 487 ≠ 486 by decide), mjRow_up]
    exact hL
  · refine mjl_208_212 ⟨by omega, fun _ => h _ fun k hk => ?_, fun g => by omega⟩
    have := fo_seg (o := 0) (F := fun i _ => Zs 487 i) (g := Zs 486) 7 k
    rw [if_pos (by omega), Nat.sub_zero] at this
    rw [← this]
    congr 1
/-- one prime's part -/
def byI (Z : mjZ) (x1 : Nat) (p : Int) (U F : Nat → Nat → Int) (D M : Nat → Nat) (j : Nat) (Z' : mjZ) : Prop := (∀ c, c < 482 ∨ 487 < c → Z' c = Z c) ∧ (∀ k, ¬ (6 * x1 ≤ k ∧ k < 6 * x1 + 6) → Z' 482 k = Z 482 k) ∧ (∀ k, ¬ (7 * x1 ≤ k ∧ k < 7 * x1 + 7) → Z' 483 k = Z 483 k) ∧ onW p U D M (fun i => Z' 482 (6 * x1 + i)) (Z' 486) j ∧ (1 ≤ j → Z' 482 (6 * x1) = (M 0 : Int) → ∀ k, k < 7 → Z' 483 (7 * x1 + k) = F 0 k % p) ∧ ∀ i, i < j → -7 ≤ Z' 482 (6 * x1 + i) ∧ Z' 482 (6 * x1 + i) ≤ 7
theorem onW_s {tb tb2 lv s : Nat → Int} {j dl e : Nat} (hq : ¬ p ∣ 1) (hS : SG (U j) (D j) (M j) (D (j + 1)) (F j) (U (j + 1))) (h : onW p U D M tb lv j) (hl : mnc lv dl) (hs : mnc s e) (hr : rst p s) (hG : gcq p (tr7 s) (tr7 lv) (slo (tr7 lv))) (ht : ∀ i, i < j → tb2 i = tb i) (htj : tb2 j = if 1 ≤ dl then (dl : Int) - (e : Int) else 0) : onW p U D M tb2 s (j + 1) := by
  obtain ⟨h1, h2, h3⟩ := h
  refine ⟨hr, ⟨e, hs⟩, ?_⟩
  rcases h3 with ⟨a1, a2⟩ | ⟨i, b1, b2, b3, b4⟩
  · obtain ⟨_, g⟩ := on_step hq hS hl hs hG a2
    rw [← htj] at g
    rcases g with ⟨c1, c2, c3⟩ | ⟨c1, c2⟩
    · refine Or.inl ⟨fun i hi => ?_, c3⟩
      by_cases e : i = j
      · rw [e]; exact c1
      · rw [ht i (by omega)]
        exact a1 i (by omega)
    · exact Or.inr ⟨j, by omega, fun i hi => by rw [ht i hi]; exact a1 i hi, c1, c2⟩
  · exact Or.inr ⟨i, by omega, fun i2 hi => by rw [ht i2 (by omega)]; exact b2 i2 hi, by rw [ht i b1]; exact b3, b4⟩
theorem fp_byPrime {P : Nat} {q : mjZ → Prop} (hP : pri P) (hp : p = (P : Int)) (hp2 : p < 2147483648) (hx : x1 < 24) (hpr : Z 481 x1 = p) (hu : ∀ k, k < 7 → Z 480 k = U 0 k) (hub : ∀ k, bgA (U 0 k) ≤ 279936000000000000) (hz : ∀ k, 7 ≤ k → U 0 k = 0) (hd : 1 ≤ D 0 ∧ D 0 ≤ 6) (hS : ∀ j, SG (U j) (D j) (M j) (D (j + 1)) (F j) (U (j + 1))) (hq : ∀ Z', byI Z x1 p U F D M 6 Z' → q Z') : mjW0 (d + 6) 208 [yR 11 464, yI (x1 : Int), yI (x2 : Int)] Z q := by
  have P0 := hP.1
  have nq : ¬ p ∣ 1 := fun g => by
    have := Int.le_of_dvd (by omega) g
    omega
  refine mje_208 (d := d + 5) ⟨by omega, by omega, ?_⟩
  rw [hpr]
  have dg : ∀ {g : Nat → Int}, rst p g → ∀ k, k < 7 → -9223372036854775808 ≤ g k ∧ g k < 9223372036854775808 := fun hg k hk => by
    have := hg k hk
    omega
  -- all six
  have loop : ∀ Za, byI Z x1 p U F D M 0 Za → mjL_208_60 (d + 5) x1 x2 p 0 Za q := fun Za ha => by
    refine lp_inv (n := 6) (a := Za) (L := fun j Zc => mjL_208_60 (d + 5) x1 x2 p j Zc q) (Y := fun j Zc => byI Z x1 p U F D M j Zc) (fun j Zc hj hy hL => ?_) (fun Zc hy => ?_) ha
    · obtain ⟨y1, y2, y3, y4, y5, y6⟩ := id hy
      obtain ⟨r1, ⟨dl, hl⟩, r3⟩ := id y4
      refine mjl_208_60 ⟨by omega, fun g => by omega, fun _ => ?_⟩
      refine fp_degree (dg r1) (fun z => ?_) fun n hn nz hnz => ?_
      · have := z dl hl.1
        rw [hl.2.1] at this
        omega
      · have en : n = dl := by
          rcases Nat.lt_trichotomy n dl with l | l | l
          · have := hnz dl l hl.1
            rw [hl.2.1] at this
            omega
          · exact l
          · exact absurd (hl.2.2 n l hn) nz
        subst en
        refine fp_common (d := d + 1) hP hp hp2 r1 (fun z => nz (z n hn)) fun o w s e c1 c2 c3 c4 c5 => ?_
        have hs : mnc s e := ⟨c2, c3, c4⟩
        have e487 : cS Zc o w s 487 = s := cS_s
        have e486 : cS Zc o w s 486 = Zc 486 := cS_ne (by decide) (by decide) (by decide)
        refine fp_degree (by rw [e487]; exact dg c1) (fun z => ?_) fun k hk knz hkz => ?_
        · rw [e487] at z
          have := z e c2
          omega
        · rw [e487] at knz hkz
          have ek : k = e := by
            rcases Nat.lt_trichotomy k e with l | l | l
            · have := hkz e l c2
              omega
            · exact l
            · exact absurd (c4 k l hk) knz
          subst ek
          -- the count written, then on
          have nxt : ∀ Zs : mjZ, (∀ c, c < 482 ∨ 487 < c → Zs c = Zc c) → (∀ i, i ≠ 6 * x1 + j → Zs 482 i = Zc 482 i) → Zs 482 (6 * x1 + j) = (if 1 ≤ n then (n : Int) - (k : Int) else 0) → Zs 487 = s → (∀ i, ¬ (7 * x1 ≤ i ∧ i < 7 * x1 + 7) → Zs 483 i = Zc 483 i) → (Zs 482 (6 * x1) = (M 0 : Int) → ∀ i, i < 7 → Zs 483 (7 * x1 + i) = F 0 i % p) → mjL_208_212 (d + 5) x1 x2 p j 0 Zs q := fun Zs s1 s2 s3 s4 s5 s6 => by
            refine by_212 fun g hg => hL _ ⟨fun c hc => ?_, fun i hi => ?_, fun i hi => ?_, ?_, fun _ hM i hi => ?_, fun i hi => ?_⟩
            · rw [mjRow_ne (by omega), s1 c hc, y1 c hc]
            · rw [mjRow_ne (by decide), s2 i (by omega), y2 i hi]
            · rw [mjRow_ne (by decide), s5 i hi, y3 i hi]
            · have e1 : mjRow Zs 486 g 486 = g := mjRow_at
              have e2 : mjRow Zs 486 g 482 = Zs 482 := mjRow_ne (by decide)
              rw [e1, e2]
              have hw := onW_s (tb2 := fun i => Zs 482 (6 * x1 + i)) nq (hS j) y4 hl hs c1 c5 (fun i hi => s2 _ (by omega)) s3
              have gs : ∀ k, k < 7 → g k = s k := fun k hk => by rw [hg k hk, s4]
              have gt : tr7 g = tr7 s := by
                funext k
                unfold tr7
                by_cases l : k < 7
                · rw [if_pos l, if_pos l, gs k l]
                · rw [if_neg l, if_neg l]
              obtain ⟨w1, ⟨e3, w2, w2a, w2b⟩, w3⟩ := hw
              refine ⟨fun k hk => by rw [gs k hk]; exact w1 k hk, ⟨e3, w2, by rw [gs e3 w2]; exact w2a, fun k h1 h2 => by rw [gs k h2]; exact w2b k h1 h2⟩, ?_⟩
              rw [gt]
              exact w3
            · rw [mjRow_ne (by decide)] at hM ⊢
              exact s6 hM i hi
            · rw [mjRow_ne (by decide)]
              by_cases e0 : i = j
              · rw [e0, s3]
                have := hl.1
                split <;> omega
              · rw [s2 _ (by omega)]
                exact y6 i (by omega)
          have e6 : ((6 * (x1 : Int)) + (j : Int)).toNat = 6 * x1 + j := by omega
          -- the square, at the first
          have sqr : j = 0 → ∀ Zs : mjZ, Zs = mjUp (cS Zc o w s) 482 (6 * x1 + j) (if 1 ≤ n then (n : Int) - (k : Int) else 0) → mjL_208_134 (d + 5) x1 x2 p j 0 Zs q := fun j0 Zs hZs => by
            refine lp_row (A := 485) (n := 7) (f := fun i g => va_up g i (Zs 486 i)) (L := fun i Z => mjL_208_134 (d + 5) x1 x2 p j i Z q) (fun i g hi hL => ?_) ?_
            · refine mjl_208_134 ⟨by omega, fun g => by omega, fun _ => ⟨by omega, by omega, ?_⟩⟩
              rw [mjRow_ne (show 486 ≠ 485 by decide), mjRow_up]
              exact hL
            · have hv : ∀ k, k < 7 → fo (fun i g => va_up g i (Zs 486 i)) 7 (Zs 485) k = Zs 486 k := fun k hk => by
                have := fo_seg (o := 0) (F := fun i _ => Zs 486 i) (g := Zs 485) 7 k
                rw [if_pos (by omega), Nat.sub_zero] at this
                rw [← this]
                congr 1
              generalize fo (fun i g => va_up g i (Zs 486 i)) 7 (Zs 485) = a at hv
              have z486 : Zs 486 = Zc 486 := by rw [hZs, mjUp_nc (by decide), e486]
              have z487 : Zs 487 = s := by rw [hZs, mjUp_nc (by decide), e487]
              rw [z486] at hv
              have ta : tr7 a = tr7 (Zc 486) := by
                funext k
                unfold tr7
                by_cases l : k < 7
                · rw [if_pos l, if_pos l, hv k l]
                · rw [if_neg l, if_neg l]
              refine mjl_208_134 ⟨by omega, fun _ => ?_, fun g => by omega⟩
              have a5 : mjRow Zs 485 a 485 = a := mjRow_at
              have a7 : mjRow Zs 485 a 487 = s := by rw [mjRow_ne (by decide), z487]
              refine fp_rest (d := d + 3) (m := k) ⟨by omega, hp2⟩ ⟨by decide, by decide, by decide⟩ (by rw [a5]; exact fun k hk => by rw [hv k hk]; exact r1 k hk) (by rw [a7]; exact c1) hk (by rw [a7]; exact c3) (by rw [a7]; exact c4) fun o1 g1 b1 b2 b3 b4 b5 => ?_
              rw [a5, a7, ta] at b5
              generalize hZ3 : mjRow (mjRow (mjRow Zs 485 a) 484 o1) 485 g1 = Z3
              have z3 : ∀ c, c ≠ 484 → c ≠ 485 → Z3 c = Zs c := fun c h1 h2 => by rw [← hZ3, mjRow_ne h2, mjRow_ne h1, mjRow_ne h2]
              have z34 : Z3 484 = o1 := by rw [← hZ3, mjRow_ne (by decide), mjRow_at]
              refine lp_row (A := 483) (n := 7) (f := fun i g => va_up g (7 * x1 + i) (o1 i)) (L := fun i Z => mjL_208_177 (d + 5) x1 x2 p j i Z q) (fun i g hi hL => ?_) ?_
              · refine mjl_208_177 ⟨by omega, fun g => by omega, fun _ => ⟨by omega, by omega, by omega, by omega, ?_⟩⟩
                rw [mjRow_ne (show 484 ≠ 483 by decide), z34, mjRow_up, show ((7 * (x1 : Int)) + (i : Int)).toNat = 7 * x1 + i by omega]
                exact hL
              · have hw : ∀ k, fo (fun i g => va_up g (7 * x1 + i) (o1 i)) 7 (Z3 483) k = if 7 * x1 ≤ k ∧ k < 7 * x1 + 7 then o1 (k - 7 * x1) else Z3 483 k := fun k => fo_seg (o := 7 * x1) (F := fun i _ => o1 i) (g := Z3 483) 7 k
                generalize fo (fun i g => va_up g (7 * x1 + i) (o1 i)) 7 (Z3 483) = b at hw
                refine mjl_208_177 ⟨by omega, fun _ => ?_, fun g => by omega⟩
                refine nxt _ (fun c hc => ?_) (fun i hi => ?_) ?_ ?_ (fun i hi => ?_) fun hM i hi => ?_
                · rw [mjRow_ne (by omega), z3 c (by omega) (by omega), hZs, mjUp_nc (by omega), cS_ne (by omega) (by omega) (by omega)]
                · rw [mjRow_ne (by decide), z3 482 (by decide) (by decide), hZs]
                  show (if 482 = 482 ∧ i = 6 * x1 + j then _ else cS Zc o w s 482 i) = _
                  rw [if_neg fun c => hi c.2, cS_ne (by decide) (by decide) (by decide)]
                · rw [mjRow_ne (by decide), z3 482 (by decide) (by decide), hZs, mjUp_at]
                · rw [mjRow_ne (by decide), z3 487 (by decide) (by decide), z487]
                · rw [mjRow_at, hw, if_neg hi, z3 483 (by decide) (by decide), hZs, mjUp_nc (by decide), cS_ne (by decide) (by decide) (by decide)]
                · rw [mjRow_ne (by decide), z3 482 (by decide) (by decide), hZs] at hM
                  have hM2 : mjUp (cS Zc o w s) 482 (6 * x1 + j) (if 1 ≤ n then (n : Int) - (k : Int) else 0) 482 (6 * x1 + j) = (M 0 : Int) := by
                    rw [j0, Nat.add_zero] at hM ⊢
                    exact hM
                  rw [mjUp_at] at hM2
                  rw [mjRow_at, hw, if_pos (by omega), show 7 * x1 + i - 7 * x1 = i by omega]
                  rcases r3 with ⟨_, r5⟩ | ⟨i0, b0, _⟩
                  · rw [j0] at r5
                    obtain ⟨ed, st⟩ := on_step nq (hS 0) hl hs c5 r5
                    rcases st with ⟨_, q2, q3⟩ | ⟨q1, _⟩
                    · rw [q2] at hs b2 b5
                      have := on_sq (hS 0) hd.1 hs r5 q3 b2 b5 i
                      rw [tr7_lt hi] at this
                      have h3 := Int.dvd_neg.mpr this
                      rw [Int.neg_sub] at h3
                      exact em_eq (b3 i hi).1 (b3 i hi).2 h3
                    · omega
                  · omega
          have go : ∀ v : Int, v = (if 1 ≤ n then (n : Int) - (k : Int) else 0) → ((j : Int) ≠ 0 → mjL_208_212 (d + 5) x1 x2 p j 0 (mjUp (cS Zc o w s) 482 ((6 * (x1 : Int)) + (j : Int)).toNat v) q) ∧ (¬ (j : Int) ≠ 0 → mjL_208_134 (d + 5) x1 x2 p j 0 (mjUp (cS Zc o w s) 482 ((6 * (x1 : Int)) + (j : Int)).toNat v) q) := fun v hv => by
            rw [e6, hv]
            refine ⟨fun g => ?_, fun g => sqr (by omega) _ rfl⟩
            refine nxt _ (fun c hc => ?_) (fun i hi => ?_) mjUp_at ?_ (fun i hi => ?_) fun hM i hi => ?_
            · rw [mjUp_nc (by omega), cS_ne (by omega) (by omega) (by omega)]
            · show (if 482 = 482 ∧ i = 6 * x1 + j then _ else cS Zc o w s 482 i) = _
              rw [if_neg fun c => hi c.2, cS_ne (by decide) (by decide) (by decide)]
            · rw [mjUp_nc (by decide), e487]
            · rw [mjUp_nc (by decide), cS_ne (by decide) (by decide) (by decide)]
            · rw [mjUp_nc (by decide), cS_ne (by decide) (by decide) (by decide)]
              refine y5 (by omega) ?_ i hi
              rw [← hM]
              show _ = (if 482 = 482 ∧ 6 * x1 = 6 * x1 + j then _ else cS Zc o w s 482 (6 * x1))
              rw [if_neg (by omega), cS_ne (by decide) (by decide) (by decide)]
          refine ⟨by omega, fun g => ⟨by omega, fun _ => ⟨by omega, by omega, ?_⟩, fun g => by omega⟩, fun g => ⟨by omega, by omega, ?_⟩⟩
          · exact go _ (by rw [if_pos (by omega)])
          · exact go _ (by rw [if_neg (by omega)])
    · refine mjl_208_60 ⟨by omega, fun _ => hq Zc hy, fun g => by omega⟩
  -- the level
  refine lp_row (A := 486) (n := 7) (f := fun i g => va_up g i (U 0 i % p)) (L := fun i Z => mjL_208_10 (d + 5) x1 x2 p i Z q) (fun i g hi hL => ?_) ?_
  · have ub := hub i
    have ub2 : -279936000000000000 ≤ U 0 i ∧ U 0 i ≤ 279936000000000000 := by
      unfold bgA at ub
      split at ub <;> omega
    have tb1 := Int.lt_tmod_of_pos (U 0 i) (show 0 < p by omega)
    have tb2 := Int.tmod_lt_of_pos (U 0 i) (show 0 < p by omega)
    obtain ⟨t1, t2⟩ := tm_em (a := U 0 i) (show 0 < p by omega)
    refine mjl_208_10 ⟨by omega, fun g => by omega, fun _ => ⟨by omega, by omega, ?_⟩⟩
    rw [mjRow_ne (show 480 ≠ 486 by decide), hu i hi]
    refine ⟨by omega, by omega, by omega, by omega, fun c => ⟨by omega, ?_⟩, fun c => ⟨by omega, ?_⟩⟩
    · rw [t1 c, mjRow_up]
      exact hL
    · rw [t2 c, mjRow_up]
      exact hL
  · have hv : ∀ k, k < 7 → fo (fun i g => va_up g i (U 0 i % p)) 7 (Z 486) k = U 0 k % p := fun k hk => by
      have := fo_seg (o := 0) (F := fun i _ => U 0 i % p) (g := Z 486) 7 k
      rw [if_pos (by omega), Nat.sub_zero] at this
      rw [← this]
      congr 1
    generalize fo (fun i g => va_up g i (U 0 i % p)) 7 (Z 486) = a at hv
    refine mjl_208_10 ⟨by omega, fun _ => ?_, fun g => by omega⟩
    have hr : rst p a := fun k hk => by
      rw [hv k hk]
      exact ⟨Int.emod_nonneg _ (by omega), Int.emod_lt_of_pos _ (by omega)⟩
    obtain ⟨u1, u2⟩ : U 0 (D 0) = 1 ∧ ∀ i, D 0 < i → U 0 i = 0 := by
      rcases hS 0 with ⟨h0, _⟩ | ⟨_, ⟨_, _, t3, t4, _⟩, _⟩
      · omega
      · exact ⟨t3, t4⟩
    refine loop _ ⟨fun c hc => mjRow_ne (by omega), fun k _ => by rw [mjRow_ne (by decide)], fun k _ => by rw [mjRow_ne (by decide)], ?_, fun h => by omega, fun i hi => by omega⟩
    have e1 : mjRow Z 486 a 486 = a := mjRow_at
    rw [e1]
    refine ⟨hr, ⟨D 0, by omega, ?_, fun k h1 h2 => ?_⟩, Or.inl ⟨fun i hi => by omega, fun k => ?_⟩⟩
    · rw [hv _ (by omega), u1]
      exact Int.emod_eq_of_lt (by omega) (by omega)
    · rw [hv k h2, u2 k h1, Int.zero_emod]
    · by_cases l : k < 7
      · rw [tr7_lt l, hv k l]
        exact em_dv _ _
      · rw [tr7_ge (by omega), hz k (by omega)]
        exact ⟨0, by omega⟩
end BP
