/-! The other side: what a polynomial shares with its slope, by a prime. -/
theorem tr7_z {g : Nat → Int} (h : ∀ k, k < 7 → g k = 0) (k : Nat) : tr7 g k = 0 := by
  unfold tr7
  by_cases e : k < 7
  · rw [if_pos e]; exact h k e
  · rw [if_neg e]
theorem tr7_cg {p c : Int} {g h : Nat → Int} (e : ∀ k, k < 7 → p ∣ g k - c * h k) (k : Nat) : p ∣ tr7 g k - (c * tr7 h k + 0 * 0) := by
  unfold tr7
  by_cases l : k < 7
  · rw [if_pos l, if_pos l, Int.zero_mul, Int.add_zero]
    exact e k l
  · rw [if_neg l, if_neg l]
    exact ⟨0, by omega⟩
theorem dvq_sc {p c : Int} {n : Nat} {D g h : Nat → Int} (e : ∀ k, k < 7 → p ∣ g k - c * h k) (hd : dvq p n D (tr7 h)) : dvq p n D (tr7 g) := dvq_cg (C := fun k => c * tr7 h k + 0 * (fun _ => (0 : Int)) k) (fun k => tr7_cg e k) (dvq_lin hd dvq_0)
section CM
variable {d : Nat} {Z : mjZ} {p : Int}
/-- the rows of what is shared -/
def cS (Z : mjZ) (o w s : Nat → Int) : mjZ := mjRow (mjRow (mjRow Z 484 o) 485 w) 487 s
theorem cS_o {o w s : Nat → Int} : cS Z o w s 484 = o := by
  unfold cS
  rw [mjRow_ne (by decide), mjRow_ne (by decide), mjRow_at]
theorem cS_w {o w s : Nat → Int} : cS Z o w s 485 = w := by
  unfold cS
  rw [mjRow_ne (by decide), mjRow_at]
theorem cS_s {o w s : Nat → Int} : cS Z o w s 487 = s := mjRow_at
theorem cS_ne {o w s : Nat → Int} {a : Nat} (h1 : a ≠ 484) (h2 : a ≠ 485) (h3 : a ≠ 487) : cS Z o w s a = Z a := by
  unfold cS
  rw [mjRow_ne h3, mjRow_ne h2, mjRow_ne h1]
theorem cS_us {o w s : Nat → Int} {j : Nat} {v : Int} : mjUp (cS Z o w s) 487 j v = cS Z o w (va_up s j v) := mjRow_up
theorem cS_uw {o w s : Nat → Int} {j : Nat} {v : Int} : mjUp (cS Z o w s) 485 j v = cS Z o (va_up w j v) s := by
  unfold cS
  rw [mjUp_row_comm (by decide), mjRow_up]
theorem cS_rs {o w s t : Nat → Int} : mjRow (cS Z o w s) 487 t = cS Z o w t := mjRow_row
theorem cS_row {o w s u v : Nat → Int} : mjRow (mjRow (cS Z o w s) 484 u) 485 v = cS Z u v s := by
  funext a
  unfold cS mjRow
  repeat' split
  all_goals first | rfl | omega
theorem cS_0 : cS Z (Z 484) (Z 485) (Z 487) = Z := by
  unfold cS
  rw [mjRow_self, mjRow_self, mjRow_self]
theorem fo_two {F G : Nat → (Nat → Int) × (Nat → Int) → Int} {a : (Nat → Int) × (Nat → Int)} : ∀ n : Nat, (∀ k, n ≤ k → (fo (fun i (b : (Nat → Int) × (Nat → Int)) => (va_up b.1 i (F i b), va_up b.2 i (G i b))) n a).1 k = a.1 k ∧ (fo (fun i (b : (Nat → Int) × (Nat → Int)) => (va_up b.1 i (F i b), va_up b.2 i (G i b))) n a).2 k = a.2 k)
  | 0, k, _ => ⟨rfl, rfl⟩
  | n + 1, k, h => by
    obtain ⟨h1, h2⟩ := fo_two (F := F) (G := G) (a := a) n k (by omega)
    refine ⟨?_, ?_⟩
    · show (if k = n then _ else (fo _ n a).1 k) = _
      rw [if_neg (by omega)]
      exact h1
    · show (if k = n then _ else (fo _ n a).2 k) = _
      rw [if_neg (by omega)]
      exact h2
/-- what is shared, as the walk finds it -/
def shr (p : Int) (A B w s : Nat → Int) : Prop := ∀ (e : Nat) (D : Nat → Int), D e = 1 → (∀ i, e < i → D i = 0) → (dvq p (e + 1) D (tr7 w) ∧ dvq p (e + 1) D (tr7 s) ↔ dvq p (e + 1) D A ∧ dvq p (e + 1) D B)
theorem fp_commonL {P : Nat} {A B : Nat → Int} {q : mjZ → Prop} (hP : pri P) (hp : p = (P : Int)) (hp2 : p < 2147483648) (hq : ∀ (o w s : Nat → Int) (e : Nat), rst p s → e < 7 → s e = 1 → (∀ k, e < k → k < 7 → s k = 0) → gcq p (tr7 s) A B → q (cS Z o w s)) : ∀ (N : Nat) (o w s : Nat → Int), rst p w → rst p s → (∀ k, N ≤ k → k < 7 → s k = 0) → ¬ (∀ k, k < 7 → w k = 0 ∧ s k = 0) → shr p A B w s → mjL_210_59 (d + 3) p 1 (cS Z o w s) q := fun N => by
  have P0 := hP.1
  have rl : ∀ g, rst p g → ∀ k, k < 7 → -9223372036854775808 ≤ g k ∧ g k < 9223372036854775808 := fun g hg k hk => by
    have := hg k hk
    omega
  -- the end
  have fin : ∀ (o w s : Nat → Int), rst p w → (∀ k, k < 7 → s k = 0) → ¬ (∀ k, k < 7 → w k = 0 ∧ s k = 0) → shr p A B w s → mjL_210_76 (d + 3) p 0 (cS Z o w s) q := fun o w s hw hs hn hu => by
    refine lp_fold0 (n := 7) (f := fun i g => va_up g i (w i)) (L := fun i g => mjL_210_76 (d + 3) p i (cS Z o w g) q) (fun i g hi hL => ?_) ?_
    · refine mjl_210_76 ⟨by omega, fun g => by omega, fun _ => ⟨by omega, by omega, ?_⟩⟩
      rw [cS_w, cS_us]
      exact hL
    · have hv : ∀ k, k < 7 → fo (fun i g => va_up g i (w i)) 7 s k = w k := fun k hk => by
        have := fo_seg (o := 0) (F := fun i _ => w i) (g := s) 7 k
        rw [if_pos (by omega), Nat.sub_zero] at this
        rw [← this]
        congr 1
      generalize fo (fun i g => va_up g i (w i)) 7 s = s1 at hv
      have r1 : rst p s1 := fun k hk => by
        rw [hv k hk]
        exact hw k hk
      refine mjl_210_76 ⟨by omega, fun _ => ?_, fun g => by omega⟩
      refine mjl_210_59 ⟨by omega, fun _ => ?_, fun g => by omega⟩
      have e1 : cS Z o w s1 487 = s1 := cS_s
      refine fp_monic (d := d + 1) hP hp hp2 (by rw [e1]; exact r1) (fun z => ?_) fun n g c hn nz hz hg g1 g2 g3 g4 => ?_
      · rw [e1] at z
        exact absurd (fun k hk => ⟨by rw [← hv k hk]; exact z k hk, hs k hk⟩) hn
      · rw [e1] at nz hz g3 g4
        rw [cS_rs]
        refine hq o w g n hg hn g1 g2 fun e D D1 D2 => ?_
        rw [← hu e D D1 D2]
        refine ⟨fun h => ⟨?_, ?_⟩, fun h => ?_⟩
        · refine dvq_sc (c := s1 n) (fun k hk => ?_) h
          rw [← hv k hk]
          exact g4 k hk
        · exact dvq_cg (fun k => by rw [tr7_z hs, Int.sub_zero]; exact ⟨0, by omega⟩) dvq_0
        · refine dvq_sc (c := c) (fun k hk => ?_) h.1
          rw [← hv k hk]
          exact g3 k hk
  induction N using Nat.strongRecOn with
  | _ N ih =>
    intro o w s hw hs hz hn hu
    refine mjl_210_59 ⟨by omega, fun g => by omega, fun _ => ?_⟩
    have e1 : cS Z o w s 487 = s := cS_s
    refine fp_degree (by rw [e1]; exact rl s hs) (fun z => ?_) fun n hn7 nz hz2 => ?_
    · rw [e1] at z
      refine ⟨by omega, fun g => by omega, fun _ => fin o w s hw z hn hu⟩
    · rw [e1] at nz hz2
      refine ⟨by omega, fun _ => ?_, fun g => by omega⟩
      refine fp_monic (d := d + 1) hP hp hp2 (by rw [e1]; exact hs) (fun z => ?_) fun k g c hk knz hkz hg g1 g2 g3 g4 => ?_
      · rw [e1] at z
        exact absurd (z n hn7) nz
      · rw [e1] at knz hkz g3 g4
        have ek : k = n := by
          rcases Nat.lt_or_ge k n with l | l
          · exact absurd (hkz n l hn7) nz
          · rcases Nat.eq_or_lt_of_le l with j | j
            · exact j.symm
            · exact absurd (hz2 k j hk) knz
        subst ek
        rw [cS_rs]
        have e2 : cS Z o w g 485 = w := cS_w
        have e3 : cS Z o w g 487 = g := cS_s
        refine fp_rest (d := d + 1) (m := k) ⟨by omega, hp2⟩ ⟨by decide, by decide, by decide⟩ (by rw [e2]; exact hw) (by rw [e3]; exact hg) hk (by rw [e3]; exact g1) (by rw [e3]; exact g2) fun o1 w1 r1 r2 r3 r4 r5 => ?_
        rw [e2, e3] at r5
        rw [cS_row]
        -- they change places
        have sw : ∀ i, i ≤ 7 → ∀ a b : Nat → Int, (∀ j, j < 7 → a j = if j < i then g j else w1 j) → (∀ j, j < 7 → b j = if j < i then w1 j else g j) → mjL_210_132 (d + 3) p 1 i (cS Z o1 a b) q := by
          have down : ∀ t i, i + t = 7 → ∀ a b : Nat → Int, (∀ j, j < 7 → a j = if j < i then g j else w1 j) → (∀ j, j < 7 → b j = if j < i then w1 j else g j) → mjL_210_132 (d + 3) p 1 i (cS Z o1 a b) q := fun t => by
            induction t with
            | zero =>
              intro i hi a b h1 h2
              obtain rfl : i = 7 := by omega
              have ha : ∀ j, j < 7 → a j = g j := fun j hj => by rw [h1 j hj, if_pos hj]
              have hb : ∀ j, j < 7 → b j = w1 j := fun j hj => by rw [h2 j hj, if_pos hj]
              refine mjl_210_132 ⟨by omega, fun _ => ?_, fun g => by omega⟩
              have kN : k < N := by
                refine Classical.byContradiction fun c => nz (hz k (by omega) hk)
              refine ih k kN o1 a b (fun j hj => by rw [ha j hj]; exact hg j hj) (fun j hj => by rw [hb j hj]; exact r1 j hj) (fun j j1 j2 => by rw [hb j j2]; exact r2 j j1 j2) (fun c => ?_) fun e D D1 D2 => ?_
              · have := (c k hk).1
                rw [ha k hk, g1] at this
                omega
              · rw [← hu e D D1 D2]
                have ta : tr7 a = tr7 g := by
                  funext j
                  unfold tr7
                  by_cases l : j < 7
                  · rw [if_pos l, if_pos l, ha j l]
                  · rw [if_neg l, if_neg l]
                have tb : tr7 b = tr7 w1 := by
                  funext j
                  unfold tr7
                  by_cases l : j < 7
                  · rw [if_pos l, if_pos l, hb j l]
                  · rw [if_neg l, if_neg l]
                rw [ta, tb]
                have gs : dvq p (e + 1) D (tr7 g) ↔ dvq p (e + 1) D (tr7 s) := ⟨fun h => dvq_sc (c := s k) g4 h, fun h => dvq_sc (c := c) g3 h⟩
                have gz : ∀ i, k + 1 ≤ i → tr7 g i = 0 := fun i hi => by
                  unfold tr7
                  by_cases l : i < 7
                  · rw [if_pos l]; exact g2 i (by omega) l
                  · rw [if_neg l]
                have oz : ∀ i, 7 ≤ i → tr7 o1 i = 0 := fun i hi => tr7_ge hi
                refine ⟨fun h => ⟨?_, gs.mp h.1⟩, fun h => ⟨gs.mpr h.2, ?_⟩⟩
                · have h3 := dvq_lin (a := 1) (b := 1) (dvq_pI gz h.1 7 oz) h.2
                  refine dvq_cg (fun j => ?_) h3
                  have := r5 j
                  rw [show tr7 w j - (1 * pI (k + 1) (tr7 g) (tr7 o1) j + 1 * tr7 w1 j) = tr7 w j - (pI (k + 1) (tr7 g) (tr7 o1) j + tr7 w1 j) by omega]
                  exact this
                · have h3 := dvq_lin (a := 1) (b := -1) h.1 (dvq_pI gz (gs.mpr h.2) 7 oz)
                  refine dvq_cg (fun j => ?_) h3
                  have := Int.dvd_neg.mpr (r5 j)
                  rw [show tr7 w1 j - (1 * tr7 w j + -1 * pI (k + 1) (tr7 g) (tr7 o1) j) = -(tr7 w j - (pI (k + 1) (tr7 g) (tr7 o1) j + tr7 w1 j)) by omega]
                  exact this
            | succ t iht =>
              intro i hi a b h1 h2
              refine mjl_210_132 ⟨by omega, fun g => by omega, fun _ => ⟨by omega, by omega, ?_⟩⟩
              rw [cS_s, cS_w, cS_uw, cS_us]
              refine iht (i + 1) (by omega) _ _ (fun j hj => ?_) fun j hj => ?_
              · show (if j = i then b i else a j) = _
                by_cases e : j = i
                · rw [if_pos e, if_pos (by omega), e, h2 i (by omega), if_neg (by omega)]
                · rw [if_neg e, h1 j hj]
                  by_cases l : j < i
                  · rw [if_pos l, if_pos (by omega)]
                  · rw [if_neg l, if_neg (by omega)]
              · show (if j = i then a i else b j) = _
                by_cases e : j = i
                · rw [if_pos e, if_pos (by omega), e, h1 i (by omega), if_neg (by omega)]
                · rw [if_neg e, h2 j hj]
                  by_cases l : j < i
                  · rw [if_pos l, if_pos (by omega)]
                  · rw [if_neg l, if_neg (by omega)]
          exact fun i hi => down (7 - i) i (by omega)
        exact sw 0 (by omega) w1 g (fun j _ => by rw [if_neg (by omega)]) fun j _ => by rw [if_neg (by omega)]
/-- what level and its slope share -/
theorem fp_common {P : Nat} {q : mjZ → Prop} (hP : pri P) (hp : p = (P : Int)) (hp2 : p < 2147483648) (hr : rst p (Z 486)) (hn : ¬ ∀ k, k < 7 → Z 486 k = 0) (hq : ∀ (o w s : Nat → Int) (e : Nat), rst p s → e < 7 → s e = 1 → (∀ k, e < k → k < 7 → s k = 0) → gcq p (tr7 s) (tr7 (Z 486)) (slo (tr7 (Z 486))) → q (cS Z o w s)) : mjW0 (d + 4) 210 [yR 11 464, yJ p] Z q := by
  have P0 := hP.1
  have s1 : mjL_210_2 (d + 3) p 0 (cS Z (Z 484) (Z 485) (Z 487)) q := by
    have e6 : ∀ o w s, cS Z o w s 486 = Z 486 := fun o w s => cS_ne (by decide) (by decide) (by decide)
    refine lp_fold (n := 7) (f := fun i (b : (Nat → Int) × (Nat → Int)) => (va_up b.1 i (Z 486 i), va_up b.2 i (if i < 6 then Int.tmod (((i : Int) + 1) * Z 486 (i + 1)) p else 0))) (L := fun i b => mjL_210_2 (d + 3) p i (cS Z (Z 484) b.1 b.2) q) (Y := fun i b => ∀ j, j < i → b.1 j = Z 486 j ∧ b.2 j = if j < 6 then Int.tmod (((j : Int) + 1) * Z 486 (j + 1)) p else 0) (a := (Z 485, Z 487)) (fun i b hi hb j hj => ?_) (fun i b hi hb hL => ?_) (fun j hj => by omega) fun hb => ?_
    · show (if j = i then Z 486 i else b.1 j) = _ ∧ (if j = i then (if i < 6 then Int.tmod (((i : Int) + 1) * Z 486 (i + 1)) p else 0) else b.2 j) = _
      by_cases e : j = i
      · rw [if_pos e, if_pos e, e]
        exact ⟨rfl, rfl⟩
      · rw [if_neg e, if_neg e]
        exact hb j (by omega)
    · refine mjl_210_2 ⟨by omega, fun g => by omega, fun _ => ⟨by omega, by omega, fun g => ?_, fun g => ?_⟩⟩
      · rw [e6, cS_uw, cS_us]
        dsimp only at hL
        rw [if_neg (by omega)] at hL
        exact hL
      · rw [e6, cS_uw, e6, show (((i : Int) + 1)).toNat = i + 1 by omega]
        have h2 := hr (i + 1) (by omega)
        have h3 := Int.mul_nonneg (show 0 ≤ (i : Int) + 1 by omega) h2.1
        have h4 := Int.mul_le_mul (show (i : Int) + 1 ≤ 7 by omega) (show Z 486 (i + 1) ≤ 2147483648 by omega) h2.1 (by omega)
        refine ⟨by omega, by omega, by omega, by omega, by omega, by omega, ?_⟩
        rw [cS_us]
        dsimp only at hL
        rw [if_pos (by omega)] at hL
        exact hL
    · obtain ⟨w, s, hb2⟩ : ∃ w s : Nat → Int, fo (fun i (b : (Nat → Int) × (Nat → Int)) => (va_up b.1 i (Z 486 i), va_up b.2 i (if i < 6 then Int.tmod (((i : Int) + 1) * Z 486 (i + 1)) p else 0))) 7 (Z 485, Z 487) = (w, s) := ⟨_, _, rfl⟩
      rw [hb2] at hb ⊢
      dsimp only at hb ⊢
      refine mjl_210_2 ⟨by omega, fun _ => ?_, fun g => by omega⟩
      have sd : ∀ k, k < 7 → 0 ≤ s k ∧ s k < p ∧ p ∣ s k - slo (tr7 (Z 486)) k := fun k hk => by
        rw [(hb k hk).2]
        by_cases e : k < 6
        · rw [if_pos e]
          have h2 := hr (k + 1) (by omega)
          have h3 := Int.mul_nonneg (show 0 ≤ (k : Int) + 1 by omega) h2.1
          have := mod_b h3 (show 0 < p by omega)
          unfold slo
          rw [tr7_lt (by omega)]
          exact this
        · rw [if_neg e]
          unfold slo
          rw [tr7_ge (by omega), Int.mul_zero]
          exact ⟨by omega, by omega, ⟨0, by omega⟩⟩
      have tw : tr7 w = tr7 (Z 486) := by
        funext j
        unfold tr7
        by_cases l : j < 7
        · rw [if_pos l, if_pos l, (hb j l).1]
        · rw [if_neg l, if_neg l]
      have ts : ∀ j, p ∣ tr7 s j - slo (tr7 (Z 486)) j := fun j => by
        by_cases l : j < 7
        · rw [tr7_lt l]
          exact (sd j l).2.2
        · unfold slo
          rw [tr7_ge (by omega), tr7_ge (by omega), Int.mul_zero]
          exact ⟨0, by omega⟩
      refine fp_commonL hP hp hp2 hq 7 (Z 484) w s (fun k hk => by rw [(hb k hk).1]; exact hr k hk) (fun k hk => ⟨(sd k hk).1, (sd k hk).2.1⟩) (fun k h1 h2 => by omega) (fun c => hn fun k hk => by rw [← (hb k hk).1]; exact (c k hk).1) fun e D D1 D2 => ?_
      rw [tw]
      refine ⟨fun h => ⟨h.1, dvq_cg (fun j => ?_) h.2⟩, fun h => ⟨h.1, dvq_cg ts h.2⟩⟩
      have := Int.dvd_neg.mpr (ts j)
      rw [Int.neg_sub] at this
      exact this
  rw [cS_0] at s1
  exact mje_210 s1
end CM
