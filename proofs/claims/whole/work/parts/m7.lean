/-! The class: what goes into a polynomial is taken out; unlike roots. -/
def cut (f : Nat → Int) (n j : Nat) : Int := if j < n then f j else 0
theorem cut_s (f : Nat → Int) (n : Nat) : cut f (n + 1) = fun j => 1 * cut f n j + f n * mono n j := by
  funext j
  show (if j < n + 1 then f j else 0) = 1 * (if j < n then f j else 0) + f n * (if j = n then 1 else 0)
  by_cases g : j = n
  · rw [if_pos (by omega), if_neg (by omega), if_pos g, g]
    omega
  · by_cases h : j < n
    · rw [if_pos (by omega), if_pos h, if_neg g]
      omega
    · rw [if_neg (by omega), if_neg h, if_neg g]
      omega
section OUT
variable {d m e : Nat} {u f g : Nat → Int}
theorem pI_cut (g1 : g e = 1) (t : Nat) : pI (e + 1) g (cut f (t + 1)) (t + e) = f t := by
  have z : ∀ i, t < i → cut f (t + 1) i = 0 := fun i hi => if_neg (by omega)
  rw [Nat.add_comm t e, pI_top (m := t) z e, g1, Int.one_mul]
  exact if_pos (by omega)
theorem pI_cut2 (t k : Nat) : pI (e + 1) g (cut f t) k = pI (e + 1) g (cut f (t + 1)) k - (if t ≤ k ∧ k < t + (e + 1) then f t * g (k - t) else 0) := by
  rw [cut_s f t, pI_add, pI_mono]
  by_cases h : t ≤ k ∧ k < t + (e + 1)
  · rw [if_pos h, if_pos h]
    omega
  · rw [if_neg h, if_neg h]
    omega
theorem SG_mul (h : SG u d m e f g) : m + e = d ∧ g e = 1 ∧ (∀ i, m < i → f i = 0) ∧ ∀ k, pI (e + 1) g f k = u k := by
  rcases h with ⟨h1, h2, h3, h4, h5, h6⟩ | ⟨_, ⟨_, h2, _, _, _, h6, h7, _, h9, _⟩, _⟩
  · subst h1 h2 h3
    refine ⟨rfl, by rw [h6]; rfl, fun i hi => by rw [h5]; exact if_neg (by omega), fun k => ?_⟩
    rw [h4, h5, h6, pI_mono]
    show _ = if k = 0 then (1 : Int) else 0
    by_cases g : k = 0
    · rw [if_pos (by omega), if_pos g, g]
      rfl
    · rw [if_neg (by omega), if_neg g]
  · exact ⟨h2, h7, h6, h9⟩
theorem ft_out {D : Nat} {Z : mjZ} {q : mjZ → Prop} (h0 : Z 261 0 = (d : Int)) (hu : ∀ i, i ≤ d → Z 262 i = u i) (h1 : Z 259 0 = (e : Int)) (hg : ∀ i, i ≤ e → Z 260 i = g i) (h6 : d ≤ 6) (hS : SG u d m e f g) (hq : ∀ Z', (∀ x, x ≠ 257 → x ≠ 258 → x ≠ 262 → Z' x = Z x) → Z' 257 0 = (m : Int) → (∀ i, i ≤ m → Z' 258 i = f i) → q Z') : mjW0 (D + 3) 112 [yR 3 261, yR 3 259, yR 3 257] Z q := by
  obtain ⟨md, g1, fz, hp⟩ := SG_mul hS
  refine mje_112 (d := D + 2) ?_
  rw [h0, h1, show (d : Int) - (e : Int) = (m : Int) by omega]
  refine pl_begin (d := D) (by omega) ?_
  rw [mjUp_at]
  have turn : ∀ (t : Nat) (Zc : mjZ), t ≤ m + 1 → (∀ x, x ≠ 257 → x ≠ 258 → x ≠ 262 → Zc x = Z x) → Zc 257 0 = (m : Int) → (∀ j, t ≤ j → j ≤ m → Zc 258 j = f j) → (∀ k, k ≤ d → Zc 262 k = pI (e + 1) g (cut f t) k) → mjL_112_18 (D + 2) 261 259 257 ((t : Int) - 1) Zc q := fun t => by
    induction t with
    | zero =>
      intro Zc ht f1 f2 f3 f4
      exact mjl_112_18 ⟨by omega, fun _ => hq Zc f1 f2 fun i hi => f3 i (by omega) hi, fun g => by omega⟩
    | succ t ih =>
      intro Zc ht f1 f2 f3 f4
      have e1 : Zc 259 0 = (e : Int) := by rw [f1 259 (by omega) (by omega) (by omega)]; exact h1
      rw [show ((t + 1 : Nat) : Int) - 1 = (t : Int) by omega]
      refine mjl_112_18 ⟨by omega, fun g => by omega, fun _ => ?_⟩
      rw [e1, show (t : Int) + (e : Int) = ((t + e : Nat) : Int) by omega]
      refine pl_nr (d := D + 1) (by omega) (pl_wr (d := D + 1) (by omega) ?_)
      have ef : Zc (261 + 1) (t + e) = f t := by
        have := f4 (t + e) (by omega)
        rw [pI_cut g1] at this
        exact this
      rw [ef]
      refine lp_inv (n := e + 1) (a := mjUp Zc (257 + 1) t (f t)) (L := fun i Zr => mjL_112_44 (D + 2) 261 259 257 (t : Int) (f t) i Zr q) (Y := fun i Zr => (∀ x, x ≠ 262 → Zr x = mjUp Zc (257 + 1) t (f t) x) ∧ ∀ k, k ≤ d → Zr 262 k = if t ≤ k ∧ k < t + i then Zc 262 k - f t * g (k - t) else Zc 262 k) (fun i Zr hi hy hL => ?_) (fun Zr hy => ?_) ⟨fun x _ => rfl, fun k _ => ?_⟩
      · obtain ⟨y1, y2⟩ := hy
        have e2 : Zr 259 0 = (e : Int) := by rw [y1 259 (by omega), mjUp_nc (by omega)]; exact e1
        refine mjl_112_44 ⟨by omega, ?_⟩
        rw [e2]
        refine ⟨by omega, fun g => by omega, fun _ => ?_⟩
        rw [show (t : Int) + (i : Int) = ((t + i : Nat) : Int) by omega]
        refine pl_nr (d := D + 1) (by omega) (pl_nr (d := D + 1) (by omega) (pl_wr (d := D + 1) (by omega) (hL _ ⟨fun x hx => ?_, fun k hk => ?_⟩)))
        · rw [mjUp_nc (by omega)]
          exact y1 x hx
        · have r1 : Zr (261 + 1) (t + i) = Zc 262 (t + i) := by
            have := y2 (t + i) (by omega)
            rw [if_neg (by omega)] at this
            exact this
          have r2 : Zr (259 + 1) i = g i := by
            rw [y1 260 (by omega), mjUp_nc (by omega), f1 260 (by omega) (by omega) (by omega)]
            exact hg i (by omega)
          rw [r1, r2]
          by_cases ek : k = t + i
          · rw [ek, if_pos (by omega), show t + i - t = i by omega]
            exact mjUp_at
          · rw [mjUp_ne (fun _ => ek), y2 k hk]
            by_cases g : t ≤ k ∧ k < t + i
            · rw [if_pos g, if_pos (by omega)]
            · rw [if_neg g, if_neg (by omega)]
      · obtain ⟨y1, y2⟩ := hy
        have e2 : Zr 259 0 = (e : Int) := by rw [y1 259 (by omega), mjUp_nc (by omega)]; exact e1
        refine mjl_112_44 ⟨by omega, ?_⟩
        rw [e2]
        refine ⟨by omega, fun _ => ?_, fun g => by omega⟩
        rw [show (t : Int) + -1 = (t : Int) - 1 by omega]
        refine ih Zr (by omega) (fun x h1 h2 h3 => ?_) ?_ (fun j h1 h2 => ?_) fun k hk => ?_
        · rw [y1 x h3, mjUp_nc (by omega)]
          exact f1 x h1 h2 h3
        · rw [y1 257 (by omega), mjUp_nc (by omega)]
          exact f2
        · rw [y1 258 (by omega)]
          by_cases ej : j = t
          · rw [ej]
            exact mjUp_at
          · rw [mjUp_ne (fun _ => ej)]
            exact f3 j (by omega) h2
        · rw [y2 k hk, pI_cut2 t k, f4 k hk]
          by_cases g : t ≤ k ∧ k < t + (e + 1)
          · rw [if_pos g, if_pos g]
          · rw [if_neg g, if_neg g]
            omega
      · rw [if_neg (by omega), mjUp_nc (by omega)]
  rw [show (m : Int) = ((m + 1 : Nat) : Int) - 1 by omega]
  refine turn (m + 1) _ (Nat.le_refl _) (fun x h1 _ _ => mjUp_nc h1) (by rw [mjUp_at]; omega) (fun j h1 h2 => by omega) fun k hk => ?_
  rw [mjUp_nc (by omega), hu k hk, ← hp]
  refine pI_eq _ (fun _ _ => rfl) fun j _ => ?_
  unfold cut
  by_cases g : j < m + 1
  · rw [if_pos g]
  · rw [if_neg g]
    exact fz j (by omega)
/-- what stays while the least polynomial is made -/
def lsF (Z Z' : mjZ) : Prop := ∀ x, x ≠ 254 → (x < 257 ∨ 262 < x) → (x < 266 ∨ 323 < x) → Z' x = Z x
theorem trO.cc {Z Z' : mjZ} (h : trO Z) (h1 : Z' 254 = Z 254) (h2 : Z' 315 = Z 315) : trO Z' := by
  obtain ⟨⟨a, b, c, h3⟩, o, t, r, hD⟩ := h
  exact ⟨⟨a, b, c, h3.cc h1⟩, o, t, r, hD.cc h2⟩
theorem ft_least {D : Nat} {Z : mjZ} {q : mjZ → Prop} (hO : trO Z) (h0 : Z 255 0 = (d : Int)) (hu : ∀ i, i ≤ d → Z 256 i = u i) (hS : SG u d m e f g) (gb : ∀ i, bgA (g i) ≤ 46656000000000000) (hq : ∀ Z', lsF Z Z' → trO Z' → Z' 257 0 = (m : Int) → (∀ i, i ≤ m → Z' 258 i = f i) → q Z') : mjW0 (D + 8) 90 [yR 7 254] Z q := by
  have h6 := SG_d6 hS
  refine mje_90 (d := D + 7) ?_
  refine ft_share (D := D) (Or.inl rfl) hO h0 hu hS gb fun Z1 a1 a2 a3 a4 => ?_
  have c0 : Z1 255 0 = (d : Int) := by rw [a1 255 (by omega) (by omega) (by omega) (by omega)]; exact h0
  refine pl_copy (d := D + 4) c0 h6 (by omega) ?_
  refine ft_out (D := D + 4) (m := m) (e := e) (u := u) (f := f) (g := g) ?_ (fun i hi => ?_) ?_ (fun i hi => ?_) h6 hS fun Z2 b1 b2 b3 => ?_
  · rw [mjRow_ne (by omega)]
    exact mjUp_at
  · rw [mjRow_at, if_pos (by omega), a1 256 (by omega) (by omega) (by omega) (by omega)]
    exact hu i hi
  · rw [mjRow_ne (by omega), mjUp_nc (by omega)]
    exact a3
  · rw [mjRow_ne (by omega), mjUp_nc (by omega)]
    exact a4 i hi
  · refine hq Z2 (fun x h1 h2 h3 => ?_) (a2.cc ?_ ?_) b2 b3
    · rw [b1 x (by omega) (by omega) (by omega), mjRow_ne (by omega), mjUp_nc (by omega)]
      exact a1 x h1 (by omega) (by omega) h3
    · rw [b1 _ (by omega) (by omega) (by omega), mjRow_ne (by omega), mjUp_nc (by omega)]
    · rw [b1 _ (by omega) (by omega) (by omega), mjRow_ne (by omega), mjUp_nc (by omega)]
end OUT
theorem ft_unlike {D s : Nat} {U F : Nat → Nat → Int} {Dg M : Nat → Nat} {Z : mjZ} {q : Int → mjZ → Prop} (hO : trO Z) (h0 : Z 255 0 = (Dg 0 : Int)) (hu : ∀ i, i ≤ Dg 0 → Z 256 i = U 0 i) (hS : ∀ j, SG (U j) (Dg j) (M j) (Dg (j + 1)) (F j) (U (j + 1))) (hs : s < 1000) (hq : ∀ Z', lsF Z Z' → trO Z' → q (M s : Int) Z') : mjW1 (D + 8) 114 [yR 7 254, yI ((s + 1 : Nat) : Int)] Z q := by
  refine mje_114 (d := D + 7) ?_
  refine pl_copy (d := D + 4) h0 (SG_d6 (hS 0)) (by omega) ?_
  refine lp_inv (n := s) (a := mjRow (mjUp Z 261 0 (Dg 0 : Int)) (261 + 1) fun j => if j < Dg 0 + 1 then Z (255 + 1) j else Z (261 + 1) j) (L := fun i Zc => mjL_114_13 (D + 7) (s + 1) (i + 1) Zc q) (Y := fun i Zc => lsF Z Zc ∧ trO Zc ∧ Zc 261 0 = (Dg i : Int) ∧ ∀ k, k ≤ Dg i → Zc 262 k = U i k) (fun i Zc hi hy hL => ?_) (fun Zc hy => ?_) ⟨fun x h1 h2 h3 => ?_, hO.cc ?_ ?_, ?_, fun k hk => ?_⟩
  · obtain ⟨y1, y2, y3, y4⟩ := hy
    refine mjl_114_13 ⟨by omega, by omega, fun g => by omega, fun _ => ?_⟩
    refine ft_share (D := D) (Or.inr rfl) y2 y3 y4 (hS i) (SG_bd (hS (i + 1))) fun Z1 a1 a2 a3 a4 => ?_
    refine pl_copy (d := D + 4) a3 (SG_d6 (hS (i + 1))) (by omega) (hL _ ⟨fun x h1 h2 h3 => ?_, a2.cc ?_ ?_, ?_, fun k hk => ?_⟩)
    · rw [mjRow_ne (by omega), mjUp_nc (by omega), a1 x h1 (by omega) (by omega) h3]
      exact y1 x h1 h2 h3
    · rw [mjRow_ne (by omega), mjUp_nc (by omega)]
    · rw [mjRow_ne (by omega), mjUp_nc (by omega)]
    · rw [mjRow_ne (by omega)]
      exact mjUp_at
    · rw [mjRow_at, if_pos (by omega)]
      exact a4 k hk
  · obtain ⟨y1, y2, y3, y4⟩ := hy
    refine mjl_114_13 ⟨by omega, by omega, fun _ => ?_, fun g => by omega⟩
    refine ft_share (D := D) (Or.inr rfl) y2 y3 y4 (hS s) (SG_bd (hS (s + 1))) fun Z1 a1 a2 a3 a4 => ?_
    have e1 := (SG_mul (hS s)).1
    rw [a3, a1 261 (by omega) (by omega) (by omega) (by omega), y3, show (Dg s : Int) - (Dg (s + 1) : Int) = (M s : Int) by omega]
    refine hq Z1 (fun x h1 h2 h3 => ?_) a2
    rw [a1 x h1 (by omega) (by omega) h3]
    exact y1 x h1 h2 h3
  · rw [mjRow_ne (by omega), mjUp_nc (by omega)]
  · rw [mjRow_ne (by omega), mjUp_nc (by omega)]
  · rw [mjRow_ne (by omega), mjUp_nc (by omega)]
  · rw [mjRow_ne (by omega)]
    exact mjUp_at
  · rw [mjRow_at, if_pos (by omega)]
    exact hu k hk
