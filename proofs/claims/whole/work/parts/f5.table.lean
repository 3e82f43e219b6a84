/-! Case: table. -/
theorem lp_scan {α β : Type} {n : Nat} {P : Nat → Option β} {L Y : Nat → α → Prop} {E : β → Prop} (h : ∀ i a, i < n → Y i a → (P i = none → ∀ a', Y (i + 1) a' → L (i + 1) a') → (∀ r, P i = some r → E r) → L i a) (hn : sr P n 0 = none → ∀ a, Y n a → L n a) (hs : ∀ r, sr P n 0 = some r → E r) {a : α} (hY : Y 0 a) : L 0 a := by
  have : ∀ m i, i + m = n → (sr P m i = none → ∀ a, Y n a → L n a) → (∀ r, sr P m i = some r → E r) → ∀ a, Y i a → L i a := by
    intro m
    induction m with
    | zero => intro i hi h1 _ a ha; have : i = n := by omega
              subst this
              exact h1 rfl a ha
    | succ m ih =>
      intro i hi h1 h2 a ha
      refine h i a (by omega) ha (fun g a' ha' => ih (i + 1) (by omega) (fun k => h1 ?_) (fun r k => h2 r ?_) a' ha') fun r g => h2 r ?_
      · unfold sr; rw [g]; exact k
      · unfold sr; rw [g]; exact k
      · unfold sr; rw [g]
  exact this n 0 (Nat.zero_add _) hn hs a hY
/-- what is wrong with number k of leaf l -/
def tbF (Z : mjZ) (l k : Nat) : Nat := if (k : Int) < Z 465 l then lfnF (Z 466 l) (Z (3 + 2 * l) k) else 2
def tbR (Z : mjZ) (l n i k : Nat) : Option (Nat × Nat) := if tbF Z l k = 0 then none else some (tbF Z l k, 10 * i + k)
def tbP (Z : mjZ) (f0 n i : Nat) : Option (Nat × Nat) := if Z 465 (f0 + i) = -1 then some (1, 10 * i) else sr (tbR Z (f0 + i) n i) n 0
def tbV (Z : mjZ) (f0 i k : Nat) : Int := lfnV (Z 466 (f0 + i)) (Z (3 + 2 * (f0 + i)) k)
theorem lfnF_le {a w : Int} : lfnF a w ≤ 6 := by
  unfold lfnF
  repeat' split
  all_goals omega
theorem tbF_le {Z : mjZ} {l k : Nat} : tbF Z l k < 7 := by
  unfold tbF
  split
  · have := @lfnF_le (Z 466 l) (Z (3 + 2 * l) k); omega
  · omega
theorem lfnV_bd {a w : Int} (h : lfnF a w = 0) : -100 ≤ lfnV a w ∧ lfnV a w ≤ 100 := by
  unfold lfnF at h
  unfold lfnV
  by_cases g : a < 2
  · rw [if_pos g] at h ⊢
    by_cases g2 : -100 ≤ lfnW a w ∧ lfnW a w ≤ 100
    · exact g2
    · rw [if_neg g2] at h; exact absurd h (by decide)
  · rw [if_neg g] at h ⊢
    by_cases g1 : (a = 2 ∧ lfnE a w = 255) ∨ (a = 3 ∧ lfnE a w = 2047)
    · rw [if_pos g1] at h; exact absurd h (by decide)
    · rw [if_neg g1] at h
      by_cases g2 : lfnR a w ≠ 0
      · rw [if_pos g2] at h; exact absurd h (by decide)
      · rw [if_neg g2] at h
        by_cases g3 : 100 < lfnU a w
        · rw [if_pos g3] at h; exact absurd h (by decide)
        · have := fl_sgb (s := decide (lfnW a w < 0)) (Nat.le_of_not_lt g3)
          omega
/-- the state in which the reference works: the row of what is made, what was taken -/
def tkR (Z : mjZ) (g : Nat → Int) (t : Int) : mjZ := mjRow (mjUp Z 464 12 t) 471 g
theorem tkR_ne {Z : mjZ} {g : Nat → Int} {t : Int} {c : Nat} (h1 : c ≠ 464) (h2 : c ≠ 471) : tkR Z g t c = Z c := by unfold tkR; rw [mjRow_ne h2, mjUp_nc h1]
theorem tkR_4 {Z : mjZ} {g : Nat → Int} {t : Int} {k : Nat} (h : k ≠ 12) : tkR Z g t 464 k = Z 464 k := by unfold tkR; rw [mjRow_ne (by decide), mjUp_ne fun _ => h]
theorem tkR_at {Z : mjZ} {g : Nat → Int} {t : Int} : tkR Z g t 471 = g := mjRow_at
theorem tkR_t {Z : mjZ} {g : Nat → Int} {t : Int} : tkR Z g t 464 12 = t := by unfold tkR; rw [mjRow_ne (by decide), mjUp_at]
theorem tkR_up {Z : mjZ} {g : Nat → Int} {t t2 : Int} : mjUp (tkR Z g t) 464 12 t2 = tkR Z g t2 := by
  funext c k
  unfold tkR mjUp mjRow
  by_cases h : c = 464
  · subst h
    by_cases hk : k = 12
    · simp [hk]
    · simp [hk]
  · by_cases h2 : c = 471
    · simp [h2]
    · simp [h, h2]
theorem tkR_g {Z : mjZ} {g : Nat → Int} {t v : Int} {j : Nat} : mjUp (tkR Z g t) 471 j v = tkR Z (va_up g j v) t := mjRow_up
theorem tkR_self {Z : mjZ} {g : Nat → Int} : mjRow Z 471 g = tkR Z g (Z 464 12) := by
  funext c k
  unfold tkR mjUp mjRow
  by_cases h : c = 464
  · subst h
    by_cases hk : k = 12
    · simp [hk]
    · simp [hk]
  · by_cases h2 : c = 471
    · simp [h2]
    · simp [h, h2]
theorem INV_tk {Z : mjZ} {g : Nat → Int} {t : Int} (hI : INV Z) : INV (tkR Z g t) := by
  obtain ⟨i1, i2, i3, i4, i5, i6⟩ := hI
  have e : ∀ c, c ≠ 464 → c ≠ 471 → tkR Z g t c = Z c := fun c h1 h2 => tkR_ne h1 h2
  exact ⟨i1.fr (fun c g1 g2 => e c (by omega) (by omega)) (e _ (by decide) (by decide)) (e _ (by decide) (by decide)) (e _ (by decide) (by decide)), i2.fr (fun c g1 g2 => e c (by omega) (by omega)) (by rw [e _ (by decide) (by decide)]) (tkR_4 (by decide)) (e _ (by decide) (by decide)) (e _ (by decide) (by decide)) (e _ (by decide) (by decide)), i3.fr (fun c g1 g2 => e c (by omega) (by omega)) (by rw [e _ (by decide) (by decide)]) (tkR_4 (by decide)) (fun k _ => by rw [e _ (by decide) (by decide)]) (fun k _ => by rw [e _ (by decide) (by decide)]) (fun k _ => by rw [e _ (by decide) (by decide)]), i4.fr (by rw [e _ (by decide) (by decide)]) (by rw [e _ (by decide) (by decide)]) (by rw [e _ (by decide) (by decide)]) (tkR_4 (by decide)) (tkR_4 (by decide)) (tkR_4 (by decide)) (e _ (by decide) (by decide)) (e _ (by decide) (by decide)), i5.fr (by rw [e _ (by decide) (by decide)]) (tkR_4 (by decide)) (e _ (by decide) (by decide)) (e _ (by decide) (by decide)), i6.fr (fun k _ _ => by rw [e _ (by decide) (by decide)]) (fun k _ => by rw [e _ (by decide) (by decide)]) (fun k _ => by rw [e _ (by decide) (by decide)]) (e _ (by decide) (by decide)) (e _ (by decide) (by decide)) (e _ (by decide) (by decide)) (e _ (by decide) (by decide))⟩
/-- a finding at a place, by class and reference, in whatever order -/
theorem fd_swap {f : Nat} {p t : Int} {g : Nat → Int} {D : mjZ} : fdM f (whM p (tkR (fdC f (whC p D)) g t)) = fdM f (fdC f (whM p (whC p (tkR D g t)))) := by
  have : whM p (tkR (fdC f (whC p D)) g t) = fdC f (whM p (whC p (tkR D g t))) := by
    funext c k
    unfold whM whC fdC tkR mjUp mjRow
    by_cases h0 : c = 0
    · subst h0; simp
    · by_cases h1 : c = 253
      · subst h1; simp
      · by_cases h2 : c = 464
        · subst h2; simp
        · by_cases h3 : c = 471
          · subst h3; simp
          · simp [h0, h1, h2, h3]
  rw [this]
theorem INV_fdp {f : Nat} {p t : Int} {g : Nat → Int} {D : mjZ} (hf : f < 9) (h : INV D) : INV (fdM f (whM p (tkR (fdC f (whC p D)) g t))) := by
  rw [fd_swap]
  exact INV_fd hf (INV_wh (INV_tk h))
section TBL
variable {d m n f0 : Nat} {Z : mjZ}
/-- the class's rows -/
theorem fc_tabL {G : Nat → Int} {q : Int → mjZ → Prop} (hL : ivL Z) (h60 : m < 60) (h1 : 1 ≤ n) (h6 : n ≤ 6) (hf : f0 + n ≤ 16) (qs : ∀ f p : Nat, sr (tbP Z f0 n) n 0 = some (f, p) → ∀ g, q (-10 - (f : Int)) (fdC f (whC p (drW m n g Z)))) (qn : sr (tbP Z f0 n) n 0 = none → ∀ g, (∀ i k, i < n → k < n → g (6 * i + k) = tbV Z f0 i k) → mjW1 (d + 6) 39 [yR 6 (35 + 2 * m)] (drW m n g Z) (fun v3 Z3 => (-2147483648 ≤ v3 ∧ v3 < 2147483648) ∧ ((v3 ≠ (-1) → (mjW1 (d + 6) 28 [yR 10 0, yI 7, yI v3] Z3 (fun v5 Z5 => q v5 Z5))) ∧ (¬(v3 ≠ (-1)) → (mjW1 (d + 6) 41 [yR 10 0, yR 6 (35 + 2 * m)] Z3 (fun v6 Z6 => q v6 Z6)))))) : mjL_24_45 (d + 6) (f0 : Int) (n : Int) (35 + 2 * m) ((0 : Nat) : Int) (drW m n G Z) q := by
  refine lp_scan (n := n) (P := tbP Z f0 n) (L := fun i g => mjL_24_45 (d + 6) (f0 : Int) (n : Int) (35 + 2 * m) (i : Int) (drW m n g Z) q) (Y := fun i g => ∀ i' k, i' < i → k < n → g (6 * i' + k) = tbV Z f0 i' k) (E := fun r => ∀ g, q (-10 - (r.1 : Int)) (fdC r.1 (whC r.2 (drW m n g Z)))) (fun i g hi hy hLn hE => ?_) (fun hnone g hy => ?_) (fun r hr g => qs r.1 r.2 hr g) (fun i' k hi' => by omega)
  · have hl := hL (f0 + i) (by omega)
    have c2 : drW m n g Z (2 + 2 * (f0 + i)) = Z (2 + 2 * (f0 + i)) := drW_ne (by omega) (by omega)
    refine mjl_24_45 ⟨by omega, by omega, fun k => by omega, fun _ => ?_⟩
    refine fc_leafAt (d := d + 5) (by omega) (fun k => by omega) fun l hl2 hl16 => ?_
    have e : l = f0 + i := by omega
    subst e
    refine mje_19 (d := d + 5) ?_
    rw [c2, hl.1]
    have hlo := hl.2.1
    have hhi := hl.2.2.1
    have hP : tbP Z f0 n i = if Z 465 (f0 + i) = -1 then some (1, 10 * i) else sr (tbR Z (f0 + i) n i) n 0 := rfl
    refine ⟨by omega, fun k0 => ⟨by omega, fun _ => ?_, fun k => absurd rfl k⟩, fun k0 => ⟨by omega, fun k => absurd k (by decide), fun _ => ?_⟩⟩
    · rw [if_neg (by omega)] at hP
      rw [hP] at hLn hE
      obtain ⟨d1, d2, d3, d4⟩ := hl.2.2.2 k0
      refine lp_scan (n := n) (P := tbR Z (f0 + i) n i) (L := fun k g => mjL_24_88 (d + 6) (f0 : Int) (n : Int) (35 + 2 * m) (i : Int) (2 + 2 * (f0 + i)) k (drW m n g Z) q) (Y := fun k g => (∀ i' k, i' < i → k < n → g (6 * i' + k) = tbV Z f0 i' k) ∧ ∀ k', k' < k → g (6 * i + k') = tbV Z f0 i k') (E := fun r => ∀ g, q (-10 - (r.1 : Int)) (fdC r.1 (whC r.2 (drW m n g Z)))) (fun k g hk hy hLk hEk => ?_) (fun hnone g hy => ?_) (fun r hr => hE r hr) ⟨hy, fun k' hk' => by omega⟩
      · have c2 : drW m n g Z (2 + 2 * (f0 + i)) = Z (2 + 2 * (f0 + i)) := drW_ne (by omega) (by omega)
        have c3 : drW m n g Z (2 + 2 * (f0 + i) + 1) = Z (3 + 2 * (f0 + i)) := by rw [drW_ne (by omega) (by omega), show 2 + 2 * (f0 + i) + 1 = 3 + 2 * (f0 + i) by omega]
        have hw := (d4 k (by omega)).1
        have hF0 : tbR Z (f0 + i) n i k = if tbF Z (f0 + i) k = 0 then none else some (tbF Z (f0 + i) k, 10 * i + k) := rfl
        have bad : ∀ f : Nat, f = tbF Z (f0 + i) k → f ≠ 0 → mjW1 (d + 6) 28 [yR 10 0, yI (f : Int), yI ((10 * (i : Int)) + (k : Int))] (drW m n g Z) (fun v7 Z7 => q v7 Z7) := fun f hf h0 => by
          have hlt := @tbF_le Z (f0 + i) k
          rw [if_neg (by omega)] at hF0
          rw [show (10 * (i : Int)) + (k : Int) = ((10 * i + k : Nat) : Int) by omega]
          have := hEk _ hF0 g
          rw [← hf] at this
          exact fc_foundAt (d := d + 4) (by omega) this
        refine mjl_24_88 ⟨by omega, by omega, fun k => by omega, fun _ => ?_⟩
        refine lf_fault (d := d + 1) (a := Z 466 (f0 + i)) (len := Z 465 (f0 + i)) (by rw [c2]; exact d1) ⟨d2, d3⟩ (by rw [c2]; exact hl.1) hhi hlo (by omega) (by rw [c3]; exact hw) (fun g0 => ?_) (fun g0 => ?_)
        · have hF : tbF Z (f0 + i) k = 2 := if_neg g0
          exact ⟨by omega, fun k => absurd k (by decide), fun _ => bad 2 hF.symm (by decide)⟩
        · rw [c3]
          have hF : tbF Z (f0 + i) k = lfnF (Z 466 (f0 + i)) (Z (3 + 2 * (f0 + i)) k) := if_pos g0
          have hlt := @lfnF_le (Z 466 (f0 + i)) (Z (3 + 2 * (f0 + i)) k)
          refine ⟨by omega, fun g1 => ?_, fun g1 => bad _ hF.symm (by omega)⟩
          refine lf_whole (d := d + 2) (a := Z 466 (f0 + i)) (len := Z 465 (f0 + i)) (by rw [c2]; exact d1) ⟨d2, d3⟩ (by rw [c2]; exact hl.1) hhi g0 (by omega) (by rw [c3]; exact hw) (by rw [c3]; omega) ?_
          rw [c3]
          refine tb_write (d := d + 4) (drW_n h1 h6) hi hk ?_
          rw [if_pos (by omega)] at hF0
          have eD : mjUp (drW m n g Z) (35 + 2 * m + 1) (6 * i + k) (lfnV (Z 466 (f0 + i)) (Z (3 + 2 * (f0 + i)) k)) = drW m n (va_up g (6 * i + k) (lfnV (Z 466 (f0 + i)) (Z (3 + 2 * (f0 + i)) k))) Z := mjRow_up
          rw [eD]
          refine hLk hF0 _ ⟨fun i' k' h1 h2 => ?_, fun k' h1 => ?_⟩
          · rw [va_up_ne _ _ (by omega)]
            exact hy.1 i' k' h1 h2
          · by_cases hkk : k' = k
            · subst hkk
              exact va_up_self _ _ _
            · rw [va_up_ne _ _ (by omega)]
              exact hy.2 k' (by omega)
      · refine mjl_24_88 ⟨by omega, by omega, fun _ => ?_, fun k => by omega⟩
        rw [show (i : Int) + 1 = ((i + 1 : Nat) : Int) by omega]
        refine hLn hnone g fun i' k h1 h2 => ?_
        by_cases hii : i' = i
        · subst hii
          exact hy.2 k h2
        · exact hy.1 i' k (by omega) h2
    · rw [if_pos (by omega)] at hP
      rw [show (10 * (i : Int)) = ((10 * i : Nat) : Int) by omega]
      exact fc_foundAt (d := d + 4) (f := 1) (by omega) (hE _ hP g)
  · exact mjl_24_45 ⟨by omega, by omega, fun _ => qn hnone g hy, fun k => by omega⟩
/-- the reference's rows -/
theorem fm_tabL {Z1 : mjZ} {G : Nat → Int} {t0 : Int} {q : Int → mjZ → Prop} (hL : ivL Z) (e5 : Z1 465 = Z 465) (e6 : Z1 466 = Z 466) (e7 : Z1 467 = Z 467) (h1 : 1 ≤ n) (h6 : n ≤ 6) (hf : f0 + n ≤ 16) (hG : ∀ j, j < 36 → G j = 0) (qs : ∀ f p : Nat, sr (tbP Z f0 n) n 0 = some (f, p) → ∀ g t, q (-10 - (f : Int)) (fdM f (whM p (tkR Z1 g t)))) (qn : sr (tbP Z f0 n) n 0 = none → ∀ g t, (∀ i k, i < n → k < n → g (6 * i + k) = tbV Z f0 i k) → (∀ j, j < 36 → ¬ (j / 6 < n ∧ j % 6 < n) → g j = 0) → mjL_173_139 (d + 2) (f0 : Int) (n : Int) 0 (tkR Z1 g t) q) : mjL_173_43 (d + 2) (f0 : Int) (n : Int) 0 (tkR Z1 G t0) q := by
  refine lp_scan (α := (Nat → Int) × Int) (n := n) (P := tbP Z f0 n) (a := (G, t0)) (L := fun i a => mjL_173_43 (d + 2) (f0 : Int) (n : Int) i (tkR Z1 a.1 a.2) q) (Y := fun i a => (∀ i' k, i' < i → k < n → a.1 (6 * i' + k) = tbV Z f0 i' k) ∧ ∀ j, j < 36 → ¬ (j / 6 < n ∧ j % 6 < n) → a.1 j = 0) (E := fun r => ∀ g t, q (-10 - (r.1 : Int)) (fdM r.1 (whM r.2 (tkR Z1 g t)))) (fun i a hi hy hLn hE => ?_) (fun hnone a hy => ?_) (fun r hr g => qs r.1 r.2 hr g) ⟨fun i' k hi' => by omega, fun j hj _ => hG j hj⟩
  · obtain ⟨g, t⟩ := a
    have hl := hL (f0 + i) (by omega)
    have hlo := hl.2.1
    have hhi := hl.2.2.1
    have hP : tbP Z f0 n i = if Z 465 (f0 + i) = -1 then some (1, 10 * i) else sr (tbR Z (f0 + i) n i) n 0 := rfl
    have c5 : tkR Z1 g t 465 ((f0 : Int) + (i : Int)).toNat = Z 465 (f0 + i) := by
      rw [tkR_ne (by decide) (by decide), e5]
      congr 1
    refine mjl_173_43 ?_
    rw [c5]
    refine ⟨by omega, by omega, fun k => by omega, fun _ => ⟨by omega, by omega, by omega, fun k0 => ?_, fun k0 => ?_⟩⟩
    · rw [if_neg k0] at hP
      rw [hP] at hLn hE
      obtain ⟨d1, d2, d3, d4⟩ := hl.2.2.2 (by omega)
      refine lp_scan (α := (Nat → Int) × Int) (n := n) (P := tbR Z (f0 + i) n i) (a := (g, t)) (L := fun k a => mjL_173_73 (d + 2) (f0 : Int) (n : Int) i k (tkR Z1 a.1 a.2) q) (Y := fun k a => (∀ i' k, i' < i → k < n → a.1 (6 * i' + k) = tbV Z f0 i' k) ∧ (∀ k', k' < k → a.1 (6 * i + k') = tbV Z f0 i k') ∧ ∀ j, j < 36 → ¬ (j / 6 < n ∧ j % 6 < n) → a.1 j = 0) (E := fun r => ∀ g t, q (-10 - (r.1 : Int)) (fdM r.1 (whM r.2 (tkR Z1 g t)))) (fun k a hk hy hLk hEk => ?_) (fun hnone a hy => ?_) (fun r hr => hE r hr) ⟨hy.1, fun k' hk' => by omega, hy.2⟩
      · obtain ⟨g, t⟩ := a
        have hF0 : tbR Z (f0 + i) n i k = if tbF Z (f0 + i) k = 0 then none else some (tbF Z (f0 + i) k, 10 * i + k) := rfl
        have hlt := @tbF_le Z (f0 + i) k
        have bad : ∀ (f : Nat) (t2 : Int), f = tbF Z (f0 + i) k → f ≠ 0 → mjW1 (d + 2) 175 [yR 11 464, yI (f : Int), yI ((10 * (i : Int)) + (k : Int))] (tkR Z1 g t2) (fun v7 Z7 => q v7 Z7) := fun f t2 hf h0 => by
          rw [if_neg (by omega)] at hF0
          rw [show (10 * (i : Int)) + (k : Int) = ((10 * i + k : Nat) : Int) by omega]
          have := hEk _ hF0 g t2
          rw [← hf] at this
          exact fm_findsAt (d := d) (by omega) this
        refine mjl_173_73 ⟨by omega, by omega, fun k => by omega, fun _ => ?_⟩
        rw [show (f0 : Int) + (i : Int) = ((f0 + i : Nat) : Int) by omega]
        refine fm_take (d := d) (l := f0 + i) (a := Z 466 (f0 + i)) (len := Z 465 (f0 + i)) (w := Z (3 + 2 * (f0 + i)) k) (by omega) (by omega) (by rw [tkR_ne (by decide) (by decide), e5]) ⟨hlo, hhi⟩ (fun _ => by rw [tkR_ne (by decide) (by decide), e6]) (fun _ => ⟨d2, d3⟩) (fun _ => by rw [tkR_ne (by decide) (by decide), e7]; exact (d4 k (by omega)).2.1) (fun _ => (d4 k (by omega)).1) (fun _ => (d4 k (by omega)).2.2) (fun g0 => ?_) (fun g0 g1 t2 => ?_) (fun g0 g1 => ?_)
        · have hF : tbF Z (f0 + i) k = 2 := if_neg g0
          exact ⟨by omega, fun k => absurd k (by decide), fun _ => bad 2 t hF.symm (by decide)⟩
        · have hF : tbF Z (f0 + i) k = lfnF (Z 466 (f0 + i)) (Z (3 + 2 * (f0 + i)) k) := if_pos g0
          rw [tkR_up]
          exact ⟨by omega, fun g2 => by omega, fun _ => bad _ t2 hF.symm g1⟩
        · have hF : tbF Z (f0 + i) k = lfnF (Z 466 (f0 + i)) (Z (3 + 2 * (f0 + i)) k) := if_pos g0
          rw [if_pos (by omega)] at hF0
          rw [tkR_up, tkR_t, tkR_g, show ((6 * (i : Int)) + (k : Int)).toNat = 6 * i + k by omega]
          refine ⟨by omega, fun _ => ⟨by omega, by omega, ?_⟩, fun g2 => absurd rfl g2⟩
          refine hLk hF0 (va_up g (6 * i + k) (lfnV (Z 466 (f0 + i)) (Z (3 + 2 * (f0 + i)) k)), lfnV (Z 466 (f0 + i)) (Z (3 + 2 * (f0 + i)) k)) ⟨fun i' k' h1 h2 => ?_, fun k' h1 => ?_, fun j h1 h2 => ?_⟩
          · show va_up g (6 * i + k) _ (6 * i' + k') = _
            rw [va_up_ne _ _ (by omega)]
            exact hy.1 i' k' h1 h2
          · show va_up g (6 * i + k) _ (6 * i + k') = _
            by_cases hkk : k' = k
            · subst hkk
              exact va_up_self _ _ _
            · rw [va_up_ne _ _ (by omega)]
              exact hy.2.1 k' (by omega)
          · show va_up g (6 * i + k) _ j = _
            rw [va_up_ne _ _ (by omega)]
            exact hy.2.2 j h1 h2
      · refine mjl_173_73 ⟨by omega, by omega, fun _ => ?_, fun k => by omega⟩
        refine hLn hnone a ⟨fun i' k h1 h2 => ?_, hy.2.2⟩
        by_cases hii : i' = i
        · subst hii
          exact hy.2.1 k h2
        · exact hy.1 i' k (by omega) h2
    · rw [if_pos (by omega)] at hP
      rw [show (10 * (i : Int)) = ((10 * i : Nat) : Int) by omega]
      exact fm_findsAt (d := d) (f := 1) (by omega) (hE _ hP g t)
  · obtain ⟨g, t⟩ := a
    exact mjl_173_43 ⟨by omega, by omega, fun _ => qn hnone g t hy.1 hy.2, fun k => by omega⟩
/-- the reference's mirror places -/
theorem fm_unev {x1 : Int} {T : Nat → Nat → Int} {q : Int → mjZ → Prop} (h1 : 1 ≤ n) (h6 : n ≤ 6) (hT : ∀ i k, i < n → k < n → Z 471 (6 * i + k) = T i k ∧ -2147483648 ≤ T i k ∧ T i k < 2147483648) (qs : ∀ r : Int, tUn n T = some r → q (-17) (fdM 7 (whM r Z))) (qn : tUn n T = none → mjW1 (d + 2) 177 [yR 11 464, yI (n : Int)] Z (fun v3 Z3 => mjW1 (d + 2) 178 [yR 11 464, yI (n : Int), yI v3] Z3 (fun v4 Z4 => q v4 Z4))) : mjL_173_139 (d + 2) x1 (n : Int) 0 Z q := by
  refine lp_find (n := n) (P := fun i => sr (fun k => if T i k = T k i then none else some (10 * (i : Int) + k)) n 0) (L := fun i => mjL_173_139 (d + 2) x1 (n : Int) i Z q) (E := fun r => q (-17) (fdM 7 (whM r Z))) (fun i hi hL hE => ?_) (fun h => ?_) (fun r h => qs r h)
  · refine mjl_173_139 ⟨by omega, by omega, fun h => by omega, fun _ => ?_⟩
    refine lp_find (n := n) (P := fun k => if T i k = T k i then none else some (10 * (i : Int) + k)) (L := fun k => mjL_173_147 (d + 2) x1 (n : Int) i k Z q) (E := fun r => q (-17) (fdM 7 (whM r Z))) (fun k hk hL2 hE2 => ?_) (fun h => ?_) (fun r h => hE r h)
    · have t1 := hT i k hi hk
      have t2 := hT k i hk hi
      refine mjl_173_147 ?_
      rw [show ((6 * (i : Int)) + (k : Int)).toNat = 6 * i + k by omega, show ((6 * (k : Int)) + (i : Int)).toNat = 6 * k + i by omega, t1.1, t2.1]
      exact ⟨by omega, by omega, fun h => by omega, fun _ => ⟨by omega, by omega, by omega, by omega, t1.2, t2.2, fun h => hL2 (if_pos h), fun h => fm_findsAt (d := d) (f := 7) (by omega) (hE2 _ (if_neg h))⟩⟩
    · exact mjl_173_147 ⟨by omega, by omega, fun _ => hL h, fun h => by omega⟩
  · exact mjl_173_139 ⟨by omega, by omega, fun _ => qn h, fun h => by omega⟩
end TBL
