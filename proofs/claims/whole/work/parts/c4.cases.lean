/-! Case: bound. -/
def tRow (n : Nat) (T : Nat → Nat → Int) (i : Nat) : Int := fo (fun k s => s + bgA (T i k)) n 0
def tGrow (n : Nat) (T : Nat → Nat → Int) : Int := fo (fun i g => if g < tRow n T i then tRow n T i else g) n 0
def tGbet (n : Nat) (T : Nat → Nat → Int) : Int := fo (fun i g => if g < bgA (T i i) then bgA (T i i) else g) n 0
theorem tRow_b {n : Nat} {T : Nat → Nat → Int} {i : Nat} (h : ∀ k, k < n → bgA (T i k) ≤ 100) : ∀ m, m ≤ n → 0 ≤ fo (fun k s => s + bgA (T i k)) m 0 ∧ fo (fun k s => s + bgA (T i k)) m 0 ≤ 100 * (m : Int)
  | 0, _ => ⟨Int.le_refl _, Int.le_refl _⟩
  | m + 1, hm => by
    have h1 := tRow_b h m (by omega)
    have h2 := h m (by omega)
    have h3 : 0 ≤ bgA (T i m) := bgA_0
    have e : fo (fun k s => s + bgA (T i k)) (m + 1) 0 = fo (fun k s => s + bgA (T i k)) m 0 + bgA (T i m) := rfl
    rw [e]
    omega
theorem tRow_slant {n : Nat} {T : Nat → Nat → Int} {i : Nat} (hs : ∀ k, k < n → i ≠ k → T i k = 0) : ∀ m, m ≤ n → fo (fun k s => s + bgA (T i k)) m 0 = if i < m then bgA (T i i) else 0
  | 0, _ => by rw [if_neg (by omega)]; rfl
  | m + 1, hm => by
    have e : fo (fun k s => s + bgA (T i k)) (m + 1) 0 = fo (fun k s => s + bgA (T i k)) m 0 + bgA (T i m) := rfl
    rw [e, tRow_slant hs m (by omega)]
    by_cases h : i = m
    · subst h
      rw [if_neg (by omega), if_pos (by omega), Int.zero_add]
    · rw [hs m (by omega) h]
      have h0 : bgA 0 = 0 := rfl
      by_cases h2 : i < m
      · rw [if_pos h2, if_pos (by omega), h0, Int.add_zero]
      · rw [if_neg h2, if_neg (by omega), h0, Int.add_zero]
theorem tGrow_slant {n : Nat} {T : Nat → Nat → Int} (hs : tSlant n T) : tGrow n T = tGbet n T := fo_congr n fun i g hi => by
  have : tRow n T i = bgA (T i i) := by
    unfold tRow
    rw [tRow_slant (fun k hk hne => hs i k hi hk hne) n (Nat.le_refl _), if_pos hi]
  rw [this]
section BD
variable {d c n : Nat} {Z : mjZ}
theorem tb_greatestRow {q : Int → mjZ → Prop} (hn : tN Z c n) (hb : ∀ i k, i < n → k < n → -100 ≤ tE Z c i k ∧ tE Z c i k ≤ 100) (hq : q (tGrow n (tE Z c)) Z) : mjW1 (d + 4) 71 [yR 6 c] Z q := by
  obtain ⟨h0, h1, h2⟩ := id hn
  have hA : ∀ i k, i < n → k < n → bgA (tE Z c i k) ≤ 100 := fun i k hi hk => by
    have := hb i k hi hk
    have := bgA_or (tE Z c i k)
    omega
  refine mje_71 (d := d + 2) ?_
  refine lp_fold (n := n) (f := fun i g => if g < tRow n (tE Z c) i then tRow n (tE Z c) i else g) (L := fun i g => mjL_71_4 (d + 3) c g i Z q) (Y := fun i g => 0 ≤ g ∧ g ≤ 600) (fun i g hi hy => ?_) (fun i g hi hy hL => ?_) ⟨by omega, by omega⟩ (fun hy => ?_)
  · have := tRow_b (fun k hk => hA i k hi hk) n (Nat.le_refl _)
    unfold tRow
    split <;> omega
  · refine mjl_71_4 ⟨by omega, by omega, fun h => by omega, fun _ => ?_⟩
    refine lp_fold (n := n) (f := fun k s => s + bgA (tE Z c i k)) (L := fun k s => mjL_71_17 (d + 3) c g i s k Z q) (Y := fun k s => 0 ≤ s ∧ s ≤ 100 * (k : Int)) (fun k s hk hy2 => ?_) (fun k s hk hy2 hL2 => ?_) ⟨by omega, by omega⟩ (fun hy2 => ?_)
    · have := hA i k hi hk
      have h3 : 0 ≤ bgA (tE Z c i k) := bgA_0
      omega
    · have hbb := hb i k hi hk
      refine mjl_71_17 ⟨by omega, by omega, fun h => by omega, fun _ => tb_number (d := d + 1) hn hi hk ⟨by omega, ?_⟩⟩
      rw [show (if 0 ≤ tE Z c i k then tE Z c i k else 0 - tE Z c i k) = bgA (tE Z c i k) by unfold bgA; split <;> omega]
      exact hL2
    · exact mjl_71_17 ⟨by omega, by omega, fun _ => ⟨by omega, by omega, hL⟩, fun h => by omega⟩
  · exact mjl_71_4 ⟨by omega, by omega, fun _ => hq, fun h => by omega⟩
theorem tb_greatestBetween {q : Int → mjZ → Prop} (hn : tN Z c n) (hb : ∀ i k, i < n → k < n → -100 ≤ tE Z c i k ∧ tE Z c i k ≤ 100) (hq : q (tGbet n (tE Z c)) Z) : mjW1 (d + 4) 67 [yR 6 c] Z q := by
  obtain ⟨h0, h1, h2⟩ := id hn
  refine mje_67 (d := d + 2) ?_
  refine lp_fold (n := n) (f := fun i g => if g < bgA (tE Z c i i) then bgA (tE Z c i i) else g) (L := fun i g => mjL_67_4 (d + 3) c g i Z q) (Y := fun i g => 0 ≤ g ∧ g ≤ 600) (fun i g hi hy => ?_) (fun i g hi hy hL => ?_) ⟨by omega, by omega⟩ (fun hy => ?_)
  · have := hb i i hi hi
    have := bgA_or (tE Z c i i)
    split <;> omega
  · have hbb := hb i i hi hi
    refine mjl_67_4 ⟨by omega, by omega, fun h => by omega, fun _ => tb_number (d := d + 1) hn hi hi ?_⟩
    have e : (if 0 ≤ tE Z c i i then tE Z c i i else 0 - tE Z c i i) = bgA (tE Z c i i) := by unfold bgA; split <;> omega
    have ea := bgA_or (tE Z c i i)
    rw [e]
    exact ⟨by omega, by omega, by omega, hL⟩
  · exact mjl_67_4 ⟨by omega, by omega, fun _ => hq, fun h => by omega⟩
def mkC (x : Int) (k : Nat) (Z : mjZ) : mjZ := mjUp (mjUp Z 252 k x) 0 6 ((k : Int) + 1)
def mkM (x : Int) (k : Nat) (Z : mjZ) : mjZ := mjUp (mjUp Z 473 k x) 464 13 ((k : Int) + 1)
theorem fc_mark {x : Int} {k : Nat} {q : mjZ → Prop} (h : Z 0 6 = (k : Int)) (hk : k < 4) (hq : q (mkC x k Z)) : mjW0 (d + 1) 69 [yR 10 0, yI x] Z q := by
  have h4 : mjNn 10004 252 = 4 := rfl
  have e : mjUp Z 252 (Z 0 6).toNat x 0 6 = Z 0 6 := by rw [mjUp_nc (by decide)]
  refine mje_69 ⟨by omega, by omega, fun g => by omega, fun _ => ⟨by omega, by omega, ?_⟩⟩
  rw [e, h]
  exact hq
theorem fm_write {x : Int} {k : Nat} {q : mjZ → Prop} (h : Z 464 13 = (k : Int)) (hk : k < 4) (hq : q (mkM x k Z)) : mjW0 (d + 1) 198 [yR 11 464, yI x] Z q := by
  have e : mjUp Z 473 (Z 464 13).toNat x 464 13 = Z 464 13 := by rw [mjUp_nc (by decide)]
  refine mje_198 ⟨by omega, by omega, ?_⟩
  rw [e, h]
  exact hq
theorem fm_bdL {t : Nat} {q : Int → mjZ → Prop} (ht : t < 60) (h6 : n ≤ 6) (hn : Z 469 t = (n : Int)) {T : Nat → Nat → Int} (hT : ∀ i k, i < n → k < n → T i k = Z 470 (36 * t + 6 * i + k) ∧ -100 ≤ T i k ∧ T i k ≤ 100) (hq : q (tGrow n T) Z) : mjL_197_62 (d + 1) (t : Int) 0 0 Z q := by
  have hA : ∀ i k, i < n → k < n → bgA (T i k) ≤ 100 := fun i k hi hk => by
    have := hT i k hi hk
    have := bgA_or (T i k)
    omega
  have e0 : ((t : Int)).toNat = t := rfl
  refine lp_fold (n := n) (f := fun i g => if g < tRow n T i then tRow n T i else g) (L := fun i g => mjL_197_62 (d + 1) (t : Int) g i Z q) (Y := fun i g => 0 ≤ g ∧ g ≤ 600) (fun i g hi hy => ?_) (fun i g hi hy hL => ?_) ⟨by omega, by omega⟩ (fun hy => ?_)
  · have := tRow_b (fun k hk => hA i k hi hk) n (Nat.le_refl _)
    unfold tRow
    split <;> omega
  · refine mjl_197_62 ⟨by omega, by omega, by omega, by rw [e0]; omega, fun h => by rw [e0] at h; omega, fun _ => ?_⟩
    refine lp_fold (n := n) (f := fun k s => s + bgA (T i k)) (L := fun k s => mjL_197_79 (d + 1) (t : Int) g i s k Z q) (Y := fun k s => 0 ≤ s ∧ s ≤ 100 * (k : Int)) (fun k s hk hy2 => ?_) (fun k s hk hy2 hL2 => ?_) ⟨by omega, by omega⟩ (fun hy2 => ?_)
    · have := hA i k hi hk
      have h3 : 0 ≤ bgA (T i k) := bgA_0
      omega
    · have hbb := hT i k hi hk
      have ha := bgA_or (T i k)
      refine mjl_197_79 ⟨by omega, by omega, by omega, by rw [e0]; omega, fun h => by rw [e0] at h; omega, fun _ => fm_number (d := d) ht (by omega) (by omega) ?_⟩
      rw [← hbb.1]
      refine ⟨by omega, fun g => ?_, fun g => ?_⟩
      · rw [show bgA (T i k) = T i k by omega] at hL2; exact hL2
      · rw [show bgA (T i k) = -(T i k) by omega] at hL2; exact hL2
    · refine mjl_197_79 ⟨by omega, by omega, by omega, by rw [e0]; omega, fun _ => ⟨by omega, by omega, fun g => ?_, fun g => ?_⟩, fun h => by rw [e0] at h; omega⟩
      · have hL' := hL
        unfold tRow at hL'
        rw [if_neg (by omega)] at hL'
        exact hL'
      · have hL' := hL
        unfold tRow at hL'
        rw [if_pos (by omega)] at hL'
        exact hL'
  · exact mjl_197_62 ⟨by omega, by omega, by omega, by rw [e0]; omega, fun _ => hq, fun h => by rw [e0] at h; omega⟩
end BD
theorem INV_bd {Z Z' : mjZ} (h : INV Z) (e : ∀ c, c ≠ 0 → c ≠ 252 → c ≠ 464 → c ≠ 473 → Z' c = Z c) (e0 : ∀ k, k ≠ 6 → Z' 0 k = Z 0 k) (e4 : ∀ k, k ≠ 13 → Z' 464 k = Z 464 k) (hb : ivB Z') : INV Z' := by
  obtain ⟨h1, h2, h3, h4, h5, h6⟩ := h
  exact ⟨h1.fr (fun c g1 g2 => e c (by omega) (by omega) (by omega) (by omega)) (e _ (by decide) (by decide) (by decide) (by decide)) (e _ (by decide) (by decide) (by decide) (by decide)) (e _ (by decide) (by decide) (by decide) (by decide)), h2.fr (fun c g1 g2 => e c (by omega) (by omega) (by omega) (by omega)) (e0 2 (by decide)) (e4 3 (by decide)) (e _ (by decide) (by decide) (by decide) (by decide)) (e _ (by decide) (by decide) (by decide) (by decide)) (e _ (by decide) (by decide) (by decide) (by decide)), h3.fr (fun c g1 g2 => e c (by omega) (by omega) (by omega) (by omega)) (e0 4 (by decide)) (e4 18 (by decide)) (fun k _ => by rw [e _ (by decide) (by decide) (by decide) (by decide)]) (fun k _ => by rw [e _ (by decide) (by decide) (by decide) (by decide)]) (fun k _ => by rw [e _ (by decide) (by decide) (by decide) (by decide)]), h4.fr (e0 7 (by decide)) (e0 8 (by decide)) (e0 10 (by decide)) (e4 8 (by decide)) (e4 9 (by decide)) (e4 11 (by decide)) (e _ (by decide) (by decide) (by decide) (by decide)) (e _ (by decide) (by decide) (by decide) (by decide)), hb, h6.fr (fun k _ _ => by rw [e _ (by decide) (by decide) (by decide) (by decide)]) (fun k _ => by rw [e _ (by decide) (by decide) (by decide) (by decide)]) (fun k _ => by rw [e _ (by decide) (by decide) (by decide) (by decide)]) (e _ (by decide) (by decide) (by decide) (by decide)) (e _ (by decide) (by decide) (by decide) (by decide)) (e _ (by decide) (by decide) (by decide) (by decide)) (e _ (by decide) (by decide) (by decide) (by decide))⟩
theorem iv_bound_ok : iv_bound INV := fun Z x1 hI => by
  have hx := i32r x1
  obtain ⟨m, a1, a2, a3, a4⟩ := id hI.2.1
  have z2 : mjUp Z 0 6 0 0 2 = (m : Int) := by rw [mjUp_ne fun _ => by decide]; exact a2
  have nc : ∀ c, c ≠ 0 → mjUp Z 0 6 0 c = Z c := fun c h => mjUp_nc h
  refine mje_68 (d := 9) (fc_tableAt z2 a1 hx (fun h => ?_) fun t ht htm => ?_)
  · refine mje_197 (d := 9) (fm_isTable (d := 7) (m := m) (by simp [mjUp]; exact a3) a1 hx ?_)
    rw [if_neg h]
    refine ⟨by omega, fun g => absurd rfl g, fun _ => ⟨rfl, ?_⟩⟩
    refine INV_bd hI (fun c g1 g2 g3 g4 => by rw [mjUp_nc g3, mjUp_nc g1]) (fun k hk => by simp [mjUp, hk]) (fun k hk => by simp [mjUp, hk]) ⟨by simp [mjUp], by simp [mjUp], by simp [mjUp], fun k hk => by simp [mjUp] at hk; omega⟩
  · have hkr := (a4 t htm).kr
    obtain ⟨n, b1, b2, b3, b4, b5, b6, b7⟩ := a4 t htm
    have hn6 := b1.2.2
    -- the class's cells of the table stay, whatever is marked
    have cls : ∀ (Z1 : mjZ), Z1 (35 + 2 * t) = Z (35 + 2 * t) → Z1 (35 + 2 * t + 1) = Z (35 + 2 * t + 1) → tN Z1 (35 + 2 * t) n ∧ tE Z1 (35 + 2 * t) = tE Z (35 + 2 * t) := fun Z1 g1 g2 => ⟨by unfold tN at *; rw [g1]; exact b1, by funext i k; show Z1 (35 + 2 * t + 1) _ = _; rw [g2]⟩
    have mdl : ∀ (Z1 : mjZ) (q : Int → mjZ → Prop), Z1 469 t = (n : Int) → Z1 470 = Z 470 → q (tGrow n (tE Z (35 + 2 * t))) Z1 → mjL_197_62 9 (t : Int) 0 0 Z1 q := fun Z1 q g1 g2 hq => fm_bdL (d := 8) (by omega) hn6 g1 (fun i k hi hk => by rw [g2]; exact b4 i k hi hk) hq
    have ent : ∀ (Z1 : mjZ) (q : Int → mjZ → Prop), Z1 464 3 = (m : Int) → q 1 (mjUp Z1 464 13 0) → mjW1 9 181 [yR 11 464, yI x1.toInt] (mjUp Z1 464 13 0) q := fun Z1 q g h => fm_isTable (d := 7) (m := m) (by rw [mjUp_ne fun _ => by decide]; exact g) a1 hx (by rw [if_pos (by omega)]; exact h)
    have u1 : mjUp Z 0 6 0 (35 + 2 * t) = Z (35 + 2 * t) := nc _ (by omega)
    have u2 : mjUp Z 0 6 0 (35 + 2 * t + 1) = Z (35 + 2 * t + 1) := nc _ (by omega)
    have k0 : mjUp Z 0 6 0 0 6 = ((0 : Nat) : Int) := mjUp_at
    rw [ht, u1]
    have hK : Z 468 t = Z (35 + 2 * t) 1 := b3
    have hfin1 : ∀ x : Int, INV (mkM x 0 (mjUp (mkC x 0 (mjUp Z 0 6 0)) 464 13 0)) := fun x => by
      refine INV_bd hI (fun c g1 g2 g3 g4 => by simp only [mkM, mkC, mjUp_nc g1, mjUp_nc g2, mjUp_nc g3, mjUp_nc g4]) (fun k hk => by simp [mkM, mkC, mjUp, hk]) (fun k hk => by simp [mkM, mkC, mjUp, hk]) ⟨by simp [mkM, mkC, mjUp], by simp [mkM, mkC, mjUp], by simp [mkM, mkC, mjUp], fun k hk => ?_⟩
      have : k = 0 := by simp [mkM, mkC, mjUp] at hk; omega
      subst this
      simp [mkM, mkC, mjUp]
    have hfin2 : INV (mkM 1 1 (mkM 3 0 (mjUp (mkC 1 1 (mkC 3 0 (mjUp Z 0 6 0))) 464 13 0))) := by
      refine INV_bd hI (fun c g1 g2 g3 g4 => by simp only [mkM, mkC, mjUp_nc g1, mjUp_nc g2, mjUp_nc g3, mjUp_nc g4]) (fun k hk => by simp [mkM, mkC, mjUp, hk]) (fun k hk => by simp [mkM, mkC, mjUp, hk]) ⟨by simp [mkM, mkC, mjUp], by simp [mkM, mkC, mjUp], by simp [mkM, mkC, mjUp], fun k hk => ?_⟩
      have : k = 0 ∨ k = 1 := by simp [mkM, mkC, mjUp] at hk; omega
      rcases this with this | this <;> subst this <;> simp [mkM, mkC, mjUp]
    have hfin3 : INV (mkM 1 2 (mkM 3 1 (mkM 4 0 (mjUp (mkC 1 2 (mkC 3 1 (mkC 4 0 (mjUp Z 0 6 0)))) 464 13 0)))) := by
      refine INV_bd hI (fun c g1 g2 g3 g4 => by simp only [mkM, mkC, mjUp_nc g1, mjUp_nc g2, mjUp_nc g3, mjUp_nc g4]) (fun k hk => by simp [mkM, mkC, mjUp, hk]) (fun k hk => by simp [mkM, mkC, mjUp, hk]) ⟨by simp [mkM, mkC, mjUp], by simp [mkM, mkC, mjUp], by simp [mkM, mkC, mjUp], fun k hk => ?_⟩
      have : k = 0 ∨ k = 1 ∨ k = 2 := by simp [mkM, mkC, mjUp] at hk; omega
      rcases this with this | this | this <;> subst this <;> simp [mkM, mkC, mjUp]
    have hbb : ∀ i k, i < n → k < n → -100 ≤ tE Z (35 + 2 * t) i k ∧ tE Z (35 + 2 * t) i k ≤ 100 := fun i k hi hk => (b4 i k hi hk).2
    have o2 : ∀ (x : Int) (k : Nat) (Z1 : mjZ) (a : Nat), a ≠ 0 → a ≠ 252 → mkC x k Z1 a = Z1 a := fun x k Z1 a g1 g2 => by unfold mkC; rw [mjUp_nc g1, mjUp_nc g2]
    have o3 : ∀ (x : Int) (k : Nat) (Z1 : mjZ) (a : Nat), a ≠ 464 → a ≠ 473 → mkM x k Z1 a = Z1 a := fun x k Z1 a g1 g2 => by unfold mkM; rw [mjUp_nc g1, mjUp_nc g2]
    have s2 : ∀ (x : Int) (k : Nat) (Z1 : mjZ), mkC x k Z1 0 6 = ((k + 1 : Nat) : Int) := fun x k Z1 => by unfold mkC; rw [mjUp_at]; omega
    have s3 : ∀ (x : Int) (k : Nat) (Z1 : mjZ), mkM x k Z1 464 13 = ((k + 1 : Nat) : Int) := fun x k Z1 => by unfold mkM; rw [mjUp_at]; omega
    have s4 : ∀ (x : Int) (k : Nat) (Z1 : mjZ), mkC x k Z1 464 3 = Z1 464 3 := fun x k Z1 => by rw [o2 _ _ _ _ (by decide) (by decide)]
    have z0 : ∀ Z1 : mjZ, mjUp Z1 464 13 0 464 13 = ((0 : Nat) : Int) := fun Z1 => mjUp_at
    have row : ∀ (Z1 : mjZ) (q : Int → mjZ → Prop), Z1 (35 + 2 * t) = Z (35 + 2 * t) → Z1 (35 + 2 * t + 1) = Z (35 + 2 * t + 1) → q (tGrow n (tE Z (35 + 2 * t))) Z1 → mjW1 9 71 [yR 6 (35 + 2 * t)] Z1 q := fun Z1 q g1 g2 hq => by
      obtain ⟨c1, c2⟩ := cls Z1 g1 g2
      exact tb_greatestRow (d := 5) c1 (by rw [c2]; exact hbb) (by rw [c2]; exact hq)
    have a3' : ∀ Z1 : mjZ, Z1 464 3 = Z 464 3 → Z1 464 3 = (m : Int) := fun Z1 h => h.trans a3
    refine ⟨by omega, fun g1 => ⟨fun g4 => mje_70 (d := 8) ?_, fun g4 => ?_⟩, fun g1 => ?_⟩
    · rw [u1]
      refine ⟨by omega, fun g3 => ⟨by omega, fun g => by omega, fun _ => ?_⟩, fun g3 => ⟨fun _ => ⟨by omega, fun _ => ?_, fun g => absurd rfl g⟩, fun g => absurd g4 g⟩⟩
      · -- a net
        refine fc_mark (d := 8) k0 (by omega) (fc_mark (d := 8) (s2 _ _ _) (by omega) ?_)
        refine row _ _ (by rw [o2 _ _ _ _ (by omega) (by omega), o2 _ _ _ _ (by omega) (by omega), u1]) (by rw [o2 _ _ _ _ (by omega) (by omega), o2 _ _ _ _ (by omega) (by omega), u2]) ?_
        refine mje_197 (d := 9) ?_
        rw [ht] at *
        refine ent _ _ (a3' _ (by rw [s4, s4, mjUp_nc (by decide)])) ⟨by omega, fun _ => ⟨by omega, by omega, ?_⟩, fun g => by omega⟩
        have eK : mjUp (mkC 1 1 (mkC 3 0 (mjUp Z 0 6 0))) 464 13 0 468 ((t : Int)).toNat = Z (35 + 2 * t) 1 := by
          rw [mjUp_nc (by decide), o2 _ _ _ _ (by decide) (by decide), o2 _ _ _ _ (by decide) (by decide), mjUp_nc (by decide)]
          exact hK
        rw [eK, g3]
        refine ⟨by omega, fun _ => ⟨fun g => by omega, fun _ => fm_write (d := 8) (z0 _) (by omega) ⟨fun _ => fm_write (d := 8) (s3 _ _ _) (by omega) ?_, fun g => by omega⟩⟩, fun g => by omega⟩
        refine mdl _ _ ?_ ?_ ⟨rfl, hfin2⟩
        · rw [o3 _ _ _ _ (by decide) (by decide), o3 _ _ _ _ (by decide) (by decide), mjUp_nc (by decide), o2 _ _ _ _ (by decide) (by decide), o2 _ _ _ _ (by decide) (by decide), mjUp_nc (by decide)]
          exact b2
        · rw [o3 _ _ _ _ (by decide) (by decide), o3 _ _ _ _ (by decide) (by decide), mjUp_nc (by decide), o2 _ _ _ _ (by decide) (by decide), o2 _ _ _ _ (by decide) (by decide), mjUp_nc (by decide)]
      · -- a table or a band
        refine fc_mark (d := 8) k0 (by omega) ?_
        refine row _ _ (by rw [o2 _ _ _ _ (by omega) (by omega), u1]) (by rw [o2 _ _ _ _ (by omega) (by omega), u2]) ?_
        refine mje_197 (d := 9) ?_
        rw [ht] at *
        refine ent _ _ (a3' _ (by rw [s4, mjUp_nc (by decide)])) ⟨by omega, fun _ => ⟨by omega, by omega, ?_⟩, fun g => by omega⟩
        have eK : mjUp (mkC 1 0 (mjUp Z 0 6 0)) 464 13 0 468 ((t : Int)).toNat = Z (35 + 2 * t) 1 := by
          rw [mjUp_nc (by decide), o2 _ _ _ _ (by decide) (by decide), mjUp_nc (by decide)]
          exact hK
        rw [eK]
        refine ⟨by omega, fun _ => ⟨fun _ => ⟨fun _ => fm_write (d := 8) (z0 _) (by omega) ?_, fun g => by omega⟩, fun g => by omega⟩, fun g => by omega⟩
        refine mdl _ _ ?_ ?_ ⟨rfl, hfin1 1⟩
        · rw [o3 _ _ _ _ (by decide) (by decide), mjUp_nc (by decide), o2 _ _ _ _ (by decide) (by decide), mjUp_nc (by decide)]
          exact b2
        · rw [o3 _ _ _ _ (by decide) (by decide), mjUp_nc (by decide), o2 _ _ _ _ (by decide) (by decide), mjUp_nc (by decide)]
    · -- a flow
      have g4' : Z (35 + 2 * t) 1 = 4 := Classical.not_not.mp g4
      refine fc_mark (d := 8) k0 (by omega) (mje_70 (d := 8) ?_)
      rw [o2 _ _ _ _ (by omega) (by omega), u1]
      refine ⟨by omega, fun g3 => by omega, fun g3 => ⟨fun g => by omega, fun _ => ⟨by omega, fun g => by omega, fun _ => ?_⟩⟩⟩
      refine fc_mark (d := 8) (s2 _ _ _) (by omega) (fc_mark (d := 8) (s2 _ _ _) (by omega) ?_)
      refine row _ _ (by rw [o2 _ _ _ _ (by omega) (by omega), o2 _ _ _ _ (by omega) (by omega), o2 _ _ _ _ (by omega) (by omega), u1]) (by rw [o2 _ _ _ _ (by omega) (by omega), o2 _ _ _ _ (by omega) (by omega), o2 _ _ _ _ (by omega) (by omega), u2]) ?_
      refine mje_197 (d := 9) ?_
      rw [ht] at *
      refine ent _ _ (a3' _ (by rw [s4, s4, s4, mjUp_nc (by decide)])) ⟨by omega, fun _ => ⟨by omega, by omega, ?_⟩, fun g => by omega⟩
      have eK : mjUp (mkC 1 2 (mkC 3 1 (mkC 4 0 (mjUp Z 0 6 0)))) 464 13 0 468 ((t : Int)).toNat = Z (35 + 2 * t) 1 := by
        rw [mjUp_nc (by decide), o2 _ _ _ _ (by decide) (by decide), o2 _ _ _ _ (by decide) (by decide), o2 _ _ _ _ (by decide) (by decide), mjUp_nc (by decide)]
        exact hK
      rw [eK, g4']
      refine ⟨by omega, fun g => absurd rfl g, fun _ => fm_write (d := 8) (z0 _) (by omega) ⟨fun g => by omega, fun _ => fm_write (d := 8) (s3 _ _ _) (by omega) ⟨fun _ => fm_write (d := 8) (s3 _ _ _) (by omega) ?_, fun g => by omega⟩⟩⟩
      refine mdl _ _ ?_ ?_ ⟨rfl, hfin3⟩
      · rw [o3 _ _ _ _ (by decide) (by decide), o3 _ _ _ _ (by decide) (by decide), o3 _ _ _ _ (by decide) (by decide), mjUp_nc (by decide), o2 _ _ _ _ (by decide) (by decide), o2 _ _ _ _ (by decide) (by decide), o2 _ _ _ _ (by decide) (by decide), mjUp_nc (by decide)]
        exact b2
      · rw [o3 _ _ _ _ (by decide) (by decide), o3 _ _ _ _ (by decide) (by decide), o3 _ _ _ _ (by decide) (by decide), mjUp_nc (by decide), o2 _ _ _ _ (by decide) (by decide), o2 _ _ _ _ (by decide) (by decide), o2 _ _ _ _ (by decide) (by decide), mjUp_nc (by decide)]
    · -- a slant
      have g1' : Z (35 + 2 * t) 1 = 1 := Classical.not_not.mp g1
      refine fc_mark (d := 8) k0 (by omega) ?_
      obtain ⟨c1, c2⟩ := cls (mkC 2 0 (mjUp Z 0 6 0)) (by rw [o2 _ _ _ _ (by omega) (by omega), u1]) (by rw [o2 _ _ _ _ (by omega) (by omega), u2])
      refine tb_greatestBetween (d := 5) c1 (by rw [c2]; exact hbb) ?_
      rw [c2]
      refine mje_197 (d := 9) ?_
      rw [ht] at *
      refine ent _ _ (a3' _ (by rw [s4, mjUp_nc (by decide)])) ⟨by omega, fun _ => ⟨by omega, by omega, ?_⟩, fun g => by omega⟩
      have eK : mjUp (mkC 2 0 (mjUp Z 0 6 0)) 464 13 0 468 ((t : Int)).toNat = Z (35 + 2 * t) 1 := by
        rw [mjUp_nc (by decide), o2 _ _ _ _ (by decide) (by decide), mjUp_nc (by decide)]
        exact hK
      rw [eK, g1']
      have hsl : tSlant n (tE Z (35 + 2 * t)) := by
        rcases b7 with (⟨h, h'⟩ | ⟨h, -⟩ | ⟨h, -⟩ | ⟨h, -⟩) | ⟨h, -⟩
        · exact h'
        all_goals omega
      refine ⟨by omega, fun _ => ⟨fun _ => ⟨fun g => absurd rfl g, fun _ => fm_write (d := 8) (z0 _) (by omega) ?_⟩, fun g => by omega⟩, fun g => by omega⟩
      refine mdl _ _ ?_ ?_ ⟨by rw [tGrow_slant hsl], hfin1 2⟩
      · rw [o3 _ _ _ _ (by decide) (by decide), mjUp_nc (by decide), o2 _ _ _ _ (by decide) (by decide), mjUp_nc (by decide)]
        exact b2
      · rw [o3 _ _ _ _ (by decide) (by decide), mjUp_nc (by decide), o2 _ _ _ _ (by decide) (by decide), mjUp_nc (by decide)]
