/-! Case: table, put together. -/
theorem sr_some {β : Type} {P : Nat → Option β} {b : β} : ∀ (m i : Nat), sr P m i = some b → ∃ k, i ≤ k ∧ k < i + m ∧ P k = some b
  | 0, i, h => by cases h
  | m + 1, i, h => by
    unfold sr at h
    cases hp : P i with
    | some c =>
      rw [hp] at h
      exact ⟨i, Nat.le_refl _, by omega, by rw [hp]; exact h⟩
    | none =>
      rw [hp] at h
      obtain ⟨k, h1, h2, h3⟩ := sr_some m (i + 1) h
      exact ⟨k, by omega, by omega, h3⟩
theorem tUn_some {n : Nat} {T : Nat → Nat → Int} {r : Int} (h6 : n ≤ 6) (h : tUn n T = some r) : 0 ≤ r ∧ r < 100 := by
  obtain ⟨i, h1, h2, h3⟩ := sr_some n 0 h
  obtain ⟨k, h4, h5, h7⟩ := sr_some n 0 h3
  by_cases g : T i k = T k i
  · rw [if_pos g] at h7; cases h7
  · rw [if_neg g] at h7
    have := Option.some.inj h7
    omega
theorem tUn_none {n : Nat} {T : Nat → Nat → Int} (h : tUn n T = none) : ∀ i k, i < n → k < n → T i k = T k i := fun i k hi hk => by
  have h1 := (sr_none n 0).mp h i (Nat.zero_le _) (by omega)
  have h2 := (sr_none n 0).mp h1 k (Nat.zero_le _) (by omega)
  by_cases g : T i k = T k i
  · exact g
  · rw [if_neg g] at h2; cases h2
theorem tkR_made {Z : mjZ} {m n : Nat} {g h : Nat → Int} {x t : Int} (h60 : m < 60) : tkR (kpC m x (drW m n g Z)) h t = mjRow (kpC m x (drW m n g (mjUp Z 464 12 t))) 471 h := by
  funext c k
  by_cases h1 : c = 471
  · subst h1
    rw [tkR_at, mjRow_at]
  · rw [mjRow_ne h1]
    by_cases h2 : c = 464
    · subst h2
      rw [kpC_ne (m := m) (by decide) (by omega), drW_ne (m := m) (by omega) (by omega)]
      by_cases hk : k = 12
      · subst hk
        rw [tkR_t, mjUp_at]
      · rw [tkR_4 hk, kpC_ne (m := m) (by decide) (by omega), drW_ne (m := m) (by omega) (by omega), mjUp_ne fun _ => hk]
    · rw [tkR_ne h2 h1]
      unfold kpC drW mjRow mjUp
      simp [h2]
theorem INV_t12 {Z : mjZ} {t : Int} (hI : INV Z) : INV (mjUp Z 464 12 t) := by
  have h := INV_tk (g := Z 471) (t := t) hI
  have e : tkR Z (Z 471) t = mjUp Z 464 12 t := by
    have e2 : Z 471 = mjUp Z 464 12 t 471 := (mjUp_nc (by decide)).symm
    unfold tkR
    rw [e2]
    exact mjRow_self
  rw [e] at h
  exact h
theorem tbS_v {Z : mjZ} {f0 n : Nat} (hL : ivL Z) (hf : f0 + n ≤ 16) (h : sr (tbP Z f0 n) n 0 = none) : ∀ i k, i < n → k < n → -100 ≤ tbV Z f0 i k ∧ tbV Z f0 i k ≤ 100 := fun i k hi hk => by
  have h1 := (sr_none n 0).mp h i (Nat.zero_le _) (by omega)
  unfold tbP at h1
  by_cases g : Z 465 (f0 + i) = -1
  · rw [if_pos g] at h1; cases h1
  · rw [if_neg g] at h1
    have h2 := (sr_none n 0).mp h1 k (Nat.zero_le _) (by omega)
    unfold tbR at h2
    by_cases g2 : tbF Z (f0 + i) k = 0
    · unfold tbF at g2
      by_cases g3 : (k : Int) < Z 465 (f0 + i)
      · rw [if_pos g3] at g2
        exact lfnV_bd g2
      · rw [if_neg g3] at g2; cases g2
    · rw [if_neg g2] at h2; cases h2
theorem iv_table_ok : iv_table INV := fun Z x1 x2 hI => by
  obtain ⟨m, a1, a2, a3, a4⟩ := id hI.2.1
  have hx1 := i32r x1
  have hx2 := i32r x2
  generalize x1.toInt = y1 at *
  generalize x2.toInt = y2 at *
  have out : ¬ ((1 ≤ y2 ∧ y2 ≤ 6) ∧ 0 ≤ y1 ∧ y1 ≤ 16 - y2) → mjW1 10 173 [yR 11 464, yI y1, yI y2] Z (fun z' Z2 => Int32.ofInt z' = Int32.ofInt (-102) ∧ INV Z2) := fun h => by
    refine mje_173 (d := 9) (fm_in (d := 8) hx2 (by omega) (by omega) ?_)
    by_cases h1 : 1 ≤ y2 ∧ y2 ≤ 6
    · rw [if_pos h1]
      exact ⟨by omega, fun g => by omega, fun _ => ⟨hx1, fun _ => ⟨rfl, hI⟩, fun g => ⟨by omega, fun g2 => absurd (show (1 ≤ y2 ∧ y2 ≤ 6) ∧ 0 ≤ y1 ∧ y1 ≤ 16 - y2 by omega) h, fun _ => ⟨rfl, hI⟩⟩⟩⟩
    · rw [if_neg h1]
      exact ⟨by omega, fun _ => ⟨rfl, hI⟩, fun g => absurd rfl g⟩
  refine mje_24 (d := 9) ⟨hx2, fun h => out (by omega), fun h => ⟨fun h2 => out (by omega), fun h2 => ⟨hx1, fun h3 => out (by omega), fun h3 => ⟨by omega, fun h4 => fc_isFull (d := 8) a2 a1 ?_, fun h4 => out (by omega)⟩⟩⟩⟩
  obtain ⟨f0, hf0⟩ := Int.eq_ofNat_of_zero_le (show 0 ≤ y1 by omega)
  obtain ⟨n, hn⟩ := Int.eq_ofNat_of_zero_le (show 0 ≤ y2 by omega)
  subst hf0 hn
  have h1 : 1 ≤ n := by omega
  have h6 : n ≤ 6 := by omega
  have hf : f0 + n ≤ 16 := by omega
  have hL := hI.1
  have ref0 : ∀ (Z1 : mjZ) (Q : Int → mjZ → Prop), (∀ c, 464 ≤ c → Z1 c = Z c) → (m = 60 → Q (-104) Z1) → (m < 60 → mjL_173_43 9 (f0 : Int) (n : Int) 0 (tkR Z1 (zRow (Z1 471)) (Z1 464 12)) Q) → mjW1 10 173 [yR 11 464, yI (f0 : Int), yI (n : Int)] Z1 Q := fun Z1 Q e q1 q2 => by
    have e3 : Z1 464 3 = (m : Int) := by rw [e _ (by omega)]; exact a3
    refine mje_173 (d := 9) (fm_in (d := 8) hx2 (by omega) (by omega) ?_)
    rw [if_pos (by omega), e3]
    refine ⟨by omega, fun g => by omega, fun _ => ⟨by omega, fun g => by omega, fun _ => ⟨by omega, fun _ => ⟨by omega, fun g => fm_emptyMade (d := 8) ?_, fun g => q1 (by omega)⟩, fun g => by omega⟩⟩⟩
    rw [tkR_self]
    exact q2 (by omega)
  by_cases hm : m = 60
  · rw [if_pos hm]
    exact ⟨by omega, fun g => by omega, fun _ => ref0 Z _ (fun _ _ => rfl) (fun _ => ⟨rfl, hI⟩) fun g => by omega⟩
  · rw [if_neg hm]
    have h60 : m < 60 := by omega
    refine ⟨by omega, fun _ => ?_, fun g => absurd rfl g⟩
    refine fc_draft (d := 6) a2 h60 h1 h6 ?_
    have eC : drC m n Z = drW m n (zRow (Z (35 + 2 * m + 1))) Z := rfl
    rw [eC]
    -- the reference, whatever the class's draft
    have ref : ∀ (Z1 : mjZ) (Q : Int → mjZ → Prop), (∀ c, 464 ≤ c → Z1 c = Z c) → (∀ f p : Nat, sr (tbP Z f0 n) n 0 = some (f, p) → ∀ g t, Q (-10 - (f : Int)) (fdM f (whM p (tkR Z1 g t)))) → (sr (tbP Z f0 n) n 0 = none → ∀ g t, (∀ i k, i < n → k < n → g (6 * i + k) = tbV Z f0 i k) → (∀ j, j < 36 → ¬ (j / 6 < n ∧ j % 6 < n) → g j = 0) → mjL_173_139 9 (f0 : Int) (n : Int) 0 (tkR Z1 g t) Q) → mjW1 10 173 [yR 11 464, yI (f0 : Int), yI (n : Int)] Z1 Q := fun Z1 Q e q1 q2 => ref0 Z1 Q e (fun g => by omega) fun _ => fm_tabL (d := 7) hL (e _ (by omega)) (e _ (by omega)) (e _ (by omega)) h1 h6 hf (fun j hj => by rw [zRow_val, if_pos hj]) q1 q2
    refine fc_tabL (d := 3) hL h60 h1 h6 hf (fun f p hs g => ?_) (fun hnone g hg => ?_)
    · have hf7 : f < 9 := by
        obtain ⟨i, g1, g2, g3⟩ := sr_some n 0 hs
        unfold tbP at g3
        by_cases k : Z 465 (f0 + i) = -1
        · rw [if_pos k] at g3
          have e := congrArg Prod.fst (Option.some.inj g3)
          have e2 : 1 = f := e
          omega
        · rw [if_neg k] at g3
          obtain ⟨j, g4, g5, g7⟩ := sr_some n 0 g3
          unfold tbR at g7
          by_cases k2 : tbF Z (f0 + i) j = 0
          · rw [if_pos k2] at g7; cases g7
          · rw [if_neg k2] at g7
            have e := congrArg Prod.fst (Option.some.inj g7)
            have e2 : tbF Z (f0 + i) j = f := e
            have := @tbF_le Z (f0 + i) j
            omega
      refine ref _ _ (fun c hc => ?_) (fun f' p' hs' g' t => ?_) (fun hn => by rw [hs] at hn; cases hn)
      · rw [fdC_ne (by omega) (by omega)]
        unfold whC
        rw [mjUp_nc (by omega), drW_ne (by omega) (by omega)]
      · rw [hs] at hs'
        have e := Option.some.inj hs'
        have e1 : f = f' := congrArg Prod.fst e
        have e2 : p = p' := congrArg Prod.snd e
        subst e1 e2
        exact ⟨rfl, INV_fdp hf7 (INV_draft hI a2 h60)⟩
    · have hv := tbS_v hL hf hnone
      have eT : tE (drW m n g Z) (35 + 2 * m) = fun i k => g (6 * i + k) := by
        funext i k
        exact drW_t
      have hb : ∀ i k, i < n → k < n → -100 ≤ g (6 * i + k) ∧ g (6 * i + k) ≤ 100 := fun i k hi hk => by rw [hg i k hi hk]; exact hv i k hi hk
      refine tb_uneven (d := 6) (drW_n h1 h6) (fun i k hi hk => by rw [drW_t]; have := hb i k hi hk; omega) ?_
      rw [eT]
      cases hu : tUn n (fun i k => g (6 * i + k)) with
      | some r =>
        have hr := tUn_some h6 hu
        refine ⟨by show -2147483648 ≤ r ∧ r < 2147483648; omega, fun _ => fc_foundAt (d := 7) (f := 7) (by omega) ?_, fun k => absurd (show r ≠ -1 by omega) k⟩
        refine ref _ _ (fun c hc => ?_) (fun f' p' hs' g' t => by rw [hnone] at hs'; cases hs') (fun _ g' t hg' hz' => ?_)
        · rw [fdC_ne (by omega) (by omega)]
          unfold whC
          rw [mjUp_nc (by omega), drW_ne (by omega) (by omega)]
        · refine fm_unev (d := 7) (T := fun i k => g (6 * i + k)) h1 h6 (fun i k hi hk => ?_) (fun r' hr' => ?_) (fun hn => by rw [hu] at hn; cases hn)
          · rw [tkR_at]
            have := hb i k hi hk
            exact ⟨by rw [hg' i k hi hk, hg i k hi hk], by omega, by omega⟩
          · rw [hu] at hr'
            have e := Option.some.inj hr'
            subst e
            exact ⟨rfl, INV_fdp (by omega) (INV_draft hI a2 h60)⟩
      | none =>
        have hs := tUn_none hu
        refine ⟨by show -2147483648 ≤ (-1 : Int) ∧ (-1 : Int) < 2147483648; decide, fun k => absurd rfl k, fun _ => ?_⟩
        refine fc_keep (d := 2) (by rw [drW_ne (by omega) (by omega)]; exact a2) (drW_n h1 h6) (fun i k hi hk => by rw [drW_t]; have := hb i k hi hk; omega) (by rw [eT]; exact hs) fun x hx => ?_
        rw [eT] at hx
        refine ref _ _ (fun c hc => by rw [kpC_ne (by omega) (by omega), drW_ne (by omega) (by omega)]) (fun f' p' hs' g' t => by rw [hnone] at hs'; cases hs') (fun _ g' t hg' hz' => ?_)
        have hTT : ∀ i k, i < n → k < n → tkR (kpC m x (drW m n g Z)) g' t 471 (6 * i + k) = (fun i k => g (6 * i + k)) i k ∧ -2147483648 ≤ (fun i k => g (6 * i + k)) i k ∧ (fun i k => g (6 * i + k)) i k < 2147483648 := fun i k hi hk => by
          rw [tkR_at]
          have := hb i k hi hk
          exact ⟨by rw [hg' i k hi hk]; exact (hg i k hi hk).symm, by dsimp only; omega, by dsimp only; omega⟩
        refine fm_unev (d := 7) (T := fun i k => g (6 * i + k)) h1 h6 hTT (fun r' hr' => by rw [hu] at hr'; cases hr') (fun _ => ?_)
        refine fm_kindOf (d := 8) (T := fun i k => g (6 * i + k)) h1 h6 hTT fun y hy => ?_
        have hyx := hy.uniq hx
        subst hyx
        refine fm_come (d := 8) (n := n) (x := y) (m := m) (by rw [tkR_4 (by decide), kpC_ne (by decide) (by omega), drW_ne (by omega) (by omega)]; exact a3) h60 ⟨rfl, ?_⟩
        rw [tkR_made h60]
        exact INV_made (INV_t12 hI) (by rw [mjUp_nc (by decide)]; exact a2) h60 h1 h6 hb hs (fun i k hi hk => by rw [hg' i k hi hk, hg i k hi hk]) hz' (Or.inl hy)
