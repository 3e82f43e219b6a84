/-! Cases: mix. -/
theorem mul_bd {f x B K : Int} (hf : -K ≤ f ∧ f ≤ K) (hx : -B ≤ x ∧ x ≤ B) : -(K * B) ≤ f * x ∧ f * x ≤ K * B := by
  have hB : 0 ≤ B := by omega
  have hK : 0 ≤ K := by omega
  by_cases h : 0 ≤ f
  · have p1 := Int.mul_le_mul_of_nonneg_left hx.2 h
    have p2 := Int.mul_le_mul_of_nonneg_left hx.1 h
    have p3 := Int.mul_le_mul_of_nonneg_right hf.2 hB
    rw [Int.mul_neg] at p2
    omega
  · have h' : 0 ≤ -f := by omega
    have p1 := Int.mul_le_mul_of_nonneg_left hx.2 h'
    have p2 := Int.mul_le_mul_of_nonneg_left hx.1 h'
    have p3 := Int.mul_le_mul_of_nonneg_right (show -f ≤ K by omega) hB
    simp only [Int.neg_mul, Int.mul_neg] at p1 p2 p3
    omega
def mxT (a b : Nat) (f : Int) (T : Nat → Nat → Int) (u v : Nat) : Int := T u v + (if u = a then f * T b v else 0) + (if v = a then f * (T u b + if u = a then f * T b b else 0) else 0)
theorem mx_at {a b n u v : Nat} {f : Int} {g : Nat → Int} {T : Nat → Nat → Int} (hab : a ≠ b) (ha : a < n) (hb : b < n) (h6 : n ≤ 6) (hg : ∀ i k, i < n → k < n → g (6 * i + k) = T i k) (hu : u < n) (hv : v < n) : fo (mxC a b f) n (fo (mxR a b f) n g) (6 * u + v) = mxT a b f T u v := by
  have r : ∀ u v, u < n → v < n → fo (mxR a b f) n g (6 * u + v) = T u v + if u = a then f * T b v else 0 := fun u v hu hv => by
    rw [mxR_val hab ha hb h6 n _ (Nat.le_refl _), show (6 * u + v) / 6 = u by omega, show (6 * u + v) % 6 = v by omega, hg u v hu hv, hg b v hb hv]
    by_cases h : u = a
    · rw [if_pos ⟨h, hv⟩, if_pos h]
    · rw [if_neg (fun g => h g.1), if_neg h, Int.add_zero]
  rw [mxC_val hab ha hb h6 n _ (Nat.le_refl _), show (6 * u + v) / 6 = u by omega, show (6 * u + v) % 6 = v by omega, r u v hu hv, r u b hu hb]
  unfold mxT
  by_cases h : v = a
  · rw [if_pos ⟨h, hu⟩, if_pos h]
  · rw [if_neg (fun g => h g.1), if_neg h, Int.add_zero]
theorem mx_out {a b n j : Nat} {f : Int} {g : Nat → Int} (hab : a ≠ b) (ha : a < n) (hb : b < n) (h6 : n ≤ 6) (hj : ¬ (j / 6 < n ∧ j % 6 < n)) : fo (mxC a b f) n (fo (mxR a b f) n g) j = g j := by
  rw [mxC_val hab ha hb h6 n _ (Nat.le_refl _), if_neg (by omega), mxR_val hab ha hb h6 n _ (Nat.le_refl _), if_neg (by omega)]
theorem mxT_sym {a b n u v : Nat} {f : Int} {T : Nat → Nat → Int} (hb : b < n) (hT : ∀ i k, i < n → k < n → T i k = T k i) (hu : u < n) (hv : v < n) : mxT a b f T u v = mxT a b f T v u := by
  unfold mxT
  rw [hT v u hv hu, hT u b hu hb, hT v b hv hb]
  by_cases h1 : u = a <;> by_cases h2 : v = a
  · rw [h1, h2]
  · simp only [if_pos h1, if_neg h2, Int.add_zero]
  · simp only [if_neg h1, if_pos h2, Int.add_zero]
  · simp only [if_neg h1, if_neg h2, Int.add_zero]
theorem mxT_bd {a b n u v : Nat} {f : Int} {T : Nat → Nat → Int} (hb : b < n) (hf : -10 ≤ f ∧ f ≤ 10) (hT : ∀ i k, i < n → k < n → -100 ≤ T i k ∧ T i k ≤ 100) (hu : u < n) (hv : v < n) : -1000000 ≤ mxT a b f T u v ∧ mxT a b f T u v ≤ 1000000 := by
  unfold mxT
  have q1 := hT u v hu hv
  have q2 := mul_bd hf (hT b v hb hv)
  have q3 := mul_bd hf (hT b b hb hb)
  have q4 := hT u b hu hb
  have q5 : -1100 ≤ (T u b + if u = a then f * T b b else 0) ∧ (T u b + if u = a then f * T b b else 0) ≤ 1100 := by split <;> omega
  have q6 := mul_bd hf q5
  by_cases h1 : u = a <;> by_cases h2 : v = a
  · rw [if_pos h1, if_pos h1, if_pos h2]
    rw [if_pos h1] at q6
    omega
  · rw [if_pos h1, if_neg h2]; omega
  · rw [if_neg h1, if_neg h1, if_pos h2]
    rw [if_neg h1] at q6
    omega
  · rw [if_neg h1, if_neg h2]; omega
theorem iv_mix_ok : iv_mix INV := fun Z x1 x2 x3 x4 hI => by
  obtain ⟨m, a1, a2, a3, a4⟩ := id hI.2.1
  have hx := i32r x1
  have hx2 := i32r x2
  have hx3 := i32r x3
  have hx4 := i32r x4
  refine mje_56 (d := 9) (fc_tableAt (d := 8) a2 a1 hx (fun h => ?_) fun t ht htm => ?_)
  · refine mje_189 (d := 9) (fm_isTable (d := 7) a3 a1 hx ?_)
    rw [if_neg h]
    exact ⟨by omega, fun g => absurd rfl g, fun _ => ⟨rfl, hI⟩⟩
  · obtain ⟨n, b1, b2, b3, b4, b5, b6, -⟩ := a4 t htm
    have hn6 := b1.2.2
    have hn1 := b1.2.1
    have b10 := b1.1
    rw [ht]
    -- the reference, as far as its gates go
    have g1 : ∀ (Z1 : mjZ) (q : Int → mjZ → Prop), Z1 464 3 = (m : Int) → (¬ (-10 ≤ x4.toInt ∧ x4.toInt ≤ 10) → q (-102) Z1) → ((-10 ≤ x4.toInt ∧ x4.toInt ≤ 10) → (x2.toInt = x3.toInt → q (-102) Z1) ∧ (x2.toInt ≠ x3.toInt → (m = 60 → q (-104) Z1) ∧ (m ≠ 60 → (mjW1 9 185 [yR 11 464, yI (t : Int), yI x2.toInt] Z1 (fun v8 Z8 => (-2147483648 ≤ v8 ∧ v8 < 2147483648) ∧ ((v8 = 0 → (mjW1 9 170 [yR 11 464, yI 2] Z8 (fun v10 Z10 => q v10 Z10))) ∧ (¬(v8 = 0) → (mjW1 9 185 [yR 11 464, yI (t : Int), yI x3.toInt] Z8 (fun v11 Z11 => (-2147483648 ≤ v11 ∧ v11 < 2147483648) ∧ ((v11 ≠ 0 → (mjW0 9 190 [yR 11 464, yI (t : Int)] Z11 (fun Z13 => mjL_189_75 9 (t : Int) x2.toInt x3.toInt x4.toInt 0 Z13 q))) ∧ (¬(v11 ≠ 0) → (mjW1 9 170 [yR 11 464, yI 2] Z11 (fun v14 Z14 => q v14 Z14))))))))))))) → mjW1 10 189 [yR 11 464, yI (t : Int), yI x2.toInt, yI x3.toInt, yI x4.toInt] Z1 q := fun Z1 q e3 h1 h2 => by
      refine mje_189 (d := 9) (fm_isTable (d := 7) (m := m) e3 a1 (by omega) ?_)
      rw [if_pos (by omega)]
      refine ⟨by omega, fun _ => fm_in (d := 8) hx4 (by omega) (by omega) ?_, fun g => by omega⟩
      by_cases h : -10 ≤ x4.toInt ∧ x4.toInt ≤ 10
      · rw [if_pos h]
        have h3 := h2 h
        refine ⟨by omega, fun g => by omega, fun _ => ⟨hx2, hx3, fun g => ⟨by omega, fun k => ((h3.2 g).2 (by omega)), fun k => (h3.2 g).1 (by omega)⟩, fun g => h3.1 (by omega)⟩⟩
      · rw [if_neg h]
        exact ⟨by omega, fun _ => h1 h, fun g => absurd rfl g⟩
    have bad : ¬ (-10 ≤ x4.toInt ∧ x4.toInt ≤ 10) → mjW1 10 189 [yR 11 464, yI (t : Int), yI x2.toInt, yI x3.toInt, yI x4.toInt] Z (fun z' Z2 => Int32.ofInt z' = Int32.ofInt (-102) ∧ INV Z2) := fun h => g1 _ _ a3 (fun _ => ⟨rfl, hI⟩) (fun g => absurd g h)
    refine ⟨hx4, fun k1 => bad (by omega), fun k1 => ⟨fun k2 => bad (by omega), fun k2 => ⟨hx2, hx3, fun hne => fc_isFull (d := 8) a2 a1 ?_, fun heq => g1 _ _ a3 (fun _ => ⟨rfl, hI⟩) (fun g => ⟨fun _ => ⟨rfl, hI⟩, fun k => absurd k heq⟩)⟩⟩⟩
    have hr : -10 ≤ x4.toInt ∧ x4.toInt ≤ 10 := by omega
    by_cases hm : m = 60
    · rw [if_pos hm]
      exact ⟨by omega, fun g => by omega, fun _ => g1 _ _ a3 (fun g => absurd hr g) (fun _ => ⟨fun k => absurd k hne, fun _ => ⟨fun _ => ⟨rfl, hI⟩, fun k => absurd hm k⟩⟩)⟩
    · rw [if_neg hm]
      have e9 : fdC 2 Z 469 t = (n : Int) := by rw [fdC_ne (by decide) (by decide)]; exact b2
      have e3 : fdC 2 Z 464 3 = (m : Int) := by rw [fdC_ne (by decide) (by decide)]; exact a3
      have g2 := fun Z1 q (e3 : Z1 464 3 = (m : Int)) h => g1 Z1 q e3 (fun g => absurd hr g) (fun _ => ⟨fun k => absurd k hne, fun _ => ⟨fun k => absurd k hm, fun _ => h⟩⟩)
      have pl : ∀ (Z1 : mjZ) (x : Int32) (q : Int → mjZ → Prop), Z1 469 t = (n : Int) → q (if 0 ≤ x.toInt ∧ x.toInt < n then 1 else 0) Z1 → mjW1 9 185 [yR 11 464, yI (t : Int), yI x.toInt] Z1 q := fun Z1 x q g h => fm_isPlace (d := 7) (by omega) g hn6 (i32r x) h
      refine ⟨by omega, fun _ => tb_has (d := 8) b1 hx2 ?_, fun g => absurd rfl g⟩
      by_cases h2 : 0 ≤ x2.toInt ∧ x2.toInt < n
      · rw [if_pos h2]
        have pl2 := fun Z1 q (g : Z1 469 t = (n : Int)) h => pl Z1 x2 q g (by rw [if_pos h2]; exact h)
        refine ⟨by omega, fun g => by omega, fun _ => tb_has (d := 8) b1 hx3 ?_⟩
        by_cases h3 : 0 ≤ x3.toInt ∧ x3.toInt < n
        · rw [if_pos h3]
          refine ⟨by omega, fun _ => ?_, fun g => by omega⟩
          have pl3 := fun Z1 q (g : Z1 469 t = (n : Int)) h => pl Z1 x3 q g (by rw [if_pos h3]; exact h)
          obtain ⟨a, ha⟩ := Int.eq_ofNat_of_zero_le h2.1
          obtain ⟨b, hb⟩ := Int.eq_ofNat_of_zero_le h3.1
          rw [ha] at pl2 g2 h2 hne ⊢
          rw [hb] at pl3 g2 h3 hne ⊢
          have hab : a ≠ b := fun g => hne (by rw [g])
          have han : a < n := by omega
          have hbn : b < n := by omega
          rw [b10]
          have eD : ∀ c, c ≠ 35 + 2 * m → c ≠ 35 + 2 * m + 1 → drC m n Z c = Z c := fun c g1 g2 => drC_ne g1 g2
          have eDT : tE (drC m n Z) (35 + 2 * t) = tE Z (35 + 2 * t) := by
            funext i k
            exact congrFun (eD _ (by omega) (by omega)) _
          refine fc_draft (d := 6) a2 (by omega) hn1 hn6 ?_
          refine tb_mixed (d := 5) (drC_n hn1 hn6) (by unfold tN; rw [eD _ (by omega) (by omega)]; exact b1) (by omega) han hbn ?_
          rw [drC_row, eDT]
          have hG : ∀ i k, i < n → k < n → fo (mxC a b x4.toInt) n (fo (mxR a b x4.toInt) n (rL 0 n (tE Z (35 + 2 * t)) (drC m n Z (35 + 2 * m + 1)))) (6 * i + k) = mxT a b x4.toInt (tE Z (35 + 2 * t)) i k := fun i k hi hk => mx_at hab han hbn hn6 (fun i k hi hk => rL_T hn6 hi hk) hi hk
          generalize fo (mxC a b x4.toInt) n (fo (mxR a b x4.toInt) n (rL 0 n (tE Z (35 + 2 * t)) (drC m n Z (35 + 2 * m + 1)))) = G at *
          have hC : ∀ i k, i < n → k < n → cpRow t Z (6 * i + k) = tE Z (35 + 2 * t) i k := fun i k hi hk => by
            rw [cpRow_val (by omega), (b4 i k hi hk).1, Nat.add_assoc]
          refine mk_great (H := fo (mxC a b x4.toInt) n (fo (mxR a b x4.toInt) n (cpRow t Z))) hI a2 (by omega) hn1 hn6 (fun i k hi hk => ?_) (fun i k hi hk => ?_) (fun i k hi hk => ?_) (fun j hj hn => ?_) fun Z1 Q ek hQ => ?_
          · rw [hG i k hi hk]
            exact mxT_bd hbn hr (fun i k hi hk => (b4 i k hi hk).2) hi hk
          · rw [hG i k hi hk, hG k i hk hi]
            exact mxT_sym hbn b5 hi hk
          · rw [hG i k hi hk]
            exact mx_at hab han hbn hn6 hC hi hk
          · rw [mx_out hab han hbn hn6 hn, cpRow_val hj]
            exact b6 j hj hn
          · have k3 : Z1 464 3 = (m : Int) := by rw [ek _ (by decide) (by decide) (by omega) (by omega)]; exact a3
            have k9 : Z1 469 t = (n : Int) := by rw [ek _ (by decide) (by decide) (by omega) (by omega)]; exact b2
            refine g2 _ _ k3 (pl2 _ _ k9 ⟨by omega, fun g => by omega, fun _ => pl3 _ _ k9 ⟨by omega, fun _ => fm_copyMade (d := 8) (by omega) ?_, fun g => by omega⟩⟩)
            have ec : cpRow t Z1 = cpRow t Z := by
              unfold cpRow
              rw [ek 470 (by decide) (by decide) (by omega) (by omega), ek 471 (by decide) (by decide) (by omega) (by omega)]
            rw [ec]
            exact fm_mixL (by omega) k9 hn1 hn6 han hbn hQ
        · rw [if_neg h3]
          have pl3 := fun Z1 q (g : Z1 469 t = (n : Int)) h => pl Z1 x3 q g (by rw [if_neg h3]; exact h)
          exact ⟨by omega, fun g => absurd rfl g, fun _ => fc_found (d := 8) (f := 2) (by omega) (g2 _ _ e3 (pl2 _ _ e9 ⟨by omega, fun g => by omega, fun _ => pl3 _ _ e9 ⟨by omega, fun g => absurd rfl g, fun _ => fm_finds (d := 8) (f := 2) (by omega) ⟨rfl, INV_fd (by omega) hI⟩⟩⟩))⟩
      · rw [if_neg h2]
        have pl2 := fun Z1 q (g : Z1 469 t = (n : Int)) h => pl Z1 x2 q g (by rw [if_neg h2]; exact h)
        exact ⟨by omega, fun _ => fc_found (d := 8) (f := 2) (by omega) (g2 _ _ e3 (pl2 _ _ e9 ⟨by omega, fun _ => fm_finds (d := 8) (f := 2) (by omega) ⟨rfl, INV_fd (by omega) hI⟩, fun g => absurd rfl g⟩)), fun g => absurd rfl g⟩
