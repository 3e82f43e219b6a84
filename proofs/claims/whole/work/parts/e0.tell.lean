/-! One answer: the class's answerOne, the reference's set and tell. -/
/-- only register i of the reference's results is touched -/
def stF (Z Z' : mjZ) (i : Nat) : Prop := (∀ a, a ≠ 474 → a ≠ 475 → a ≠ 476 → Z' a = Z a) ∧ (∀ k, k ≠ i → Z' 475 k = Z 475 k ∧ Z' 476 k = Z 476 k) ∧ (∀ k, ¬ (24 * i ≤ k ∧ k < 24 * i + 24) → Z' 474 k = Z 474 k)
theorem stF.tr {Z Z1 Z2 : mjZ} {i : Nat} (h : stF Z Z1 i) (g : stF Z1 Z2 i) : stF Z Z2 i := ⟨fun a h1 h2 h3 => (g.1 a h1 h2 h3).trans (h.1 a h1 h2 h3), fun k hk => ⟨(g.2.1 k hk).1.trans (h.2.1 k hk).1, (g.2.1 k hk).2.trans (h.2.1 k hk).2⟩, fun k hk => (g.2.2 k hk).trans (h.2.2 k hk)⟩
theorem stF_up5 {Z : mjZ} {i : Nat} {v : Int} : stF Z (mjUp Z 475 i v) i := ⟨fun a _ h _ => mjUp_nc h, fun k hk => ⟨if_neg fun c => hk c.2, congrFun (mjUp_nc (by decide)) _⟩, fun k _ => congrFun (mjUp_nc (by decide)) _⟩
theorem stF_up6 {Z : mjZ} {i : Nat} {v : Int} : stF Z (mjUp Z 476 i v) i := ⟨fun a _ _ h => mjUp_nc h, fun k hk => ⟨congrFun (mjUp_nc (by decide)) _, if_neg fun c => hk c.2⟩, fun k _ => congrFun (mjUp_nc (by decide)) _⟩
theorem stF_up4 {Z : mjZ} {i j : Nat} {v : Int} (hj : j < 24) : stF Z (mjUp Z 474 (24 * i + j) v) i := ⟨fun a h _ _ => mjUp_nc h, fun k _ => ⟨congrFun (mjUp_nc (by decide)) _, congrFun (mjUp_nc (by decide)) _⟩, fun k hk => if_neg fun c => hk (by omega)⟩
def lbF (Z : mjZ) (i k : Nat) : Int := Z 474 (24 * i + k)
theorem bgS_snoc {f : Nat → Int} : ∀ (m i : Nat), bgS f i (m + 1) = bgS f i m + bgP m * f (i + m) := fun m i => by
  rw [bgS_app m 1 i]
  show bgS f i m + bgP m * (f (i + m) + 1073741824 * 0) = _
  rw [Int.mul_zero, Int.add_zero]
section ST
variable {d i : Nat} {q : mjZ → Prop}
theorem fm_setL {x2 : Int} : ∀ (m j : Nat) (Z : mjZ) (x : Int), i < 128 → j + m ≤ 24 → 0 ≤ x → x < bgP m → x < 9223372036854775808 → Z 475 i = (j : Int) → bgD (lbF Z i) 0 j → (0 < j → x = 0 → lbF Z i (j - 1) ≠ 0) → (∀ (Z' : mjZ) (j' : Nat), stF Z Z' i → Z' 476 i = Z 476 i → j' ≤ 24 → Z' 475 i = (j' : Int) → bgD (lbF Z' i) 0 j' → (0 < j' → lbF Z' i (j' - 1) ≠ 0) → (j' = 0 ↔ j = 0 ∧ x = 0) → bgS (lbF Z' i) 0 j' = bgS (lbF Z i) 0 j + bgP j * x → q Z') → mjL_204_48 d i x2 x Z q
  | m, j, Z, x, hi, hj, h0, hx, hx2, h5, hd, ht, hq => by
    refine mjl_204_48 ⟨by omega, fun g => ?_, fun g => ⟨by omega, by omega, ?_⟩⟩
    · have x0 : x = 0 := by omega
      exact hq Z j ⟨fun _ _ _ _ => rfl, fun _ _ => ⟨rfl, rfl⟩, fun _ _ => rfl⟩ rfl (by omega) h5 hd (fun g => ht g x0) ⟨fun g => ⟨g, x0⟩, fun g => g.1⟩ (by rw [x0, Int.mul_zero, Int.add_zero])
    · cases m with
      | zero => exact absurd hx (by show ¬ x < 1; omega)
      | succ m =>
        rw [h5, show (24 * (i : Int) + (j : Int)).toNat = 24 * i + j by omega, wAndJ]
        have e5 : mjUp Z 474 (24 * i + j) (x % 1073741824) 475 i = (j : Int) := by rw [mjUp_nc (by decide)]; exact h5
        have eS : mjShrJ x 30 = x / 1073741824 := by
          have := wShrJ (x := x) (i := 30) (by omega) hx2 (by decide)
          exact this
        rw [e5, eS]
        refine ⟨by omega, by omega, ?_⟩
        have hF : ∀ k, k ≠ j → lbF (mjUp (mjUp Z 474 (24 * i + j) (x % 1073741824)) 475 i ((j : Int) + 1)) i k = lbF Z i k := fun k hk => by
          unfold lbF
          rw [mjUp_nc (by decide)]
          exact if_neg fun c => hk (by omega)
        have hJ : lbF (mjUp (mjUp Z 474 (24 * i + j) (x % 1073741824)) 475 i ((j : Int) + 1)) i j = x % 1073741824 := by
          unfold lbF
          rw [mjUp_nc (by decide), mjUp_at]
        refine fm_setL m (j + 1) _ (x / 1073741824) hi (by omega) (by omega) ?_ (by omega) ?_ (fun k h1 h2 => ?_) (fun _ hz => ?_) fun Z' j' b1 b2 b3 b4 b5 b6 b7 b8 => hq Z' j' ((stF_up4 (by omega)).tr stF_up5 |>.tr b1) ?_ b3 b4 b5 b6 ?_ ?_
        · have : x < 1073741824 * bgP m := hx
          omega
        · rw [mjUp_at]; omega
        · by_cases hk : k = j
          · rw [hk, hJ]; omega
          · rw [hF k hk]
            exact hd k h1 (by omega)
        · rw [show j + 1 - 1 = j by omega, hJ]
          omega
        · rw [b2, mjUp_nc (by decide), mjUp_nc (by decide)]
        · omega
        · rw [b8, bgS_snoc, Nat.zero_add, hJ, bgS_eq (f := lbF (mjUp (mjUp Z 474 (24 * i + j) (x % 1073741824)) 475 i ((j : Int) + 1)) i) (g := lbF Z i) fun k hk => hF k (by omega)]
          show bgS (lbF Z i) 0 j + bgP j * (x % 1073741824) + bgP (j + 1) * (x / 1073741824) = _
          have e : bgP (j + 1) = bgP j * 1073741824 := by
            show 1073741824 * bgP j = _
            rw [Int.mul_comm]
          rw [e, Int.mul_assoc, Int.add_assoc, ← Int.mul_add, show x % 1073741824 + 1073741824 * (x / 1073741824) = x by omega]
theorem fm_set {Z : mjZ} {x : Int} (hi : i < 128) (hx : -9223372036854775808 < x ∧ x < 9223372036854775808) (hq : ∀ Z', stF Z Z' i → lbIs Z' i x → q Z') : mjW0 (d + 1) 204 [yR 11 464, yI (i : Int), yJ x] Z q := by
  have main : ∀ s y : Int, 0 ≤ y → y < 9223372036854775808 → (s = -1 ∨ s = 0 ∨ s = 1) → (s = 0 ↔ y = 0) → x = s * y → mjL_204_48 d i x y (mjUp (mjUp Z 476 i s) 475 i 0) q := fun s y h0 h1 h2 h3 h4 => by
    refine fm_setL 3 0 _ y hi (by decide) h0 (by have : bgP 3 = 1237940039285380274899124224 := by decide
                                                 omega) h1 (by rw [mjUp_at]; rfl) (fun k h1 h2 => by omega) (fun g => by omega) fun Z' j b1 b2 b3 b4 b5 b6 b7 b8 => hq Z' (stF_up6.tr stF_up5 |>.tr b1) ?_
    have e6 : Z' 476 i = s := by rw [b2, mjUp_nc (by decide), mjUp_at]
    refine ⟨j, b3, b4, b5, b6, by rw [e6]; exact h2, ?_, ?_⟩
    · rw [e6, h3]
      exact ⟨fun g => b7.mpr ⟨rfl, g⟩, fun g => (b7.mp g).2⟩
    · have e8 : bgS (fun k => Z' 474 (24 * i + k)) 0 j = y := by
        have : bgS (lbF Z' i) 0 j = _ := b8
        rw [show bgS (lbF (mjUp (mjUp Z 476 i s) 475 i 0) i) 0 0 = 0 from rfl, show bgP 0 = 1 from rfl, Int.one_mul, Int.zero_add] at this
        exact this
      rw [e6, e8]
      exact h4
  refine mje_204 ⟨by omega, fun g => ⟨fun _ => ⟨fun k => ⟨by omega, by omega, main 0 x g (by omega) (by omega) (by omega) (by rw [Int.zero_mul]; omega)⟩, fun k => ⟨by omega, by omega, main 1 x g (by omega) (by omega) (by omega) (by rw [Int.one_mul])⟩⟩, fun k => absurd g k⟩, fun g => ⟨fun k => absurd k g, fun _ => ⟨by omega, by omega, main (-1) (-x) (by omega) (by omega) (by omega) (by omega) (by omega)⟩⟩⟩
end ST
/-- one answer, told by both: the invariant stands -/
theorem INV_ans1 {Z Zc Z' : mjZ} {x : Int} (hI : INV Z) (h1 : mjO2 156 Z Zc) (h2 : bgIs 12 Zc 156 x) (h3 : stF (mjUp (mjUp Zc 0 4 1) 464 18 0) Z' 0) (h4 : lbIs Z' 0 x) : INV (mjUp Z' 464 18 1) := by
  obtain ⟨i1, i2, i3, i4, i5, i6⟩ := hI
  have e : ∀ c, c ≠ 0 → c ≠ 156 → c ≠ 157 → c ≠ 464 → c ≠ 474 → c ≠ 475 → c ≠ 476 → mjUp Z' 464 18 1 c = Z c := fun c g0 g1 g2 g3 g4 g5 g6 => by
    rw [mjUp_nc g3, h3.1 c g4 g5 g6, mjUp_nc g3, mjUp_nc g0, h1 c g1 g2]
  have e0 : ∀ k, k ≠ 4 → mjUp Z' 464 18 1 0 k = Z 0 k := fun k hk => by
    rw [mjUp_nc (by decide), h3.1 0 (by decide) (by decide) (by decide), mjUp_nc (by decide)]
    show (if 0 = 0 ∧ k = 4 then (1 : Int) else Zc 0 k) = _
    rw [if_neg fun c => hk c.2, h1 0 (by decide) (by decide)]
  have e4 : ∀ k, k ≠ 18 → mjUp Z' 464 18 1 464 k = Z 464 k := fun k hk => by
    show (if 464 = 464 ∧ k = 18 then (1 : Int) else Z' 464 k) = _
    rw [if_neg fun c => hk c.2, h3.1 464 (by decide) (by decide) (by decide)]
    show (if 464 = 464 ∧ k = 18 then (0 : Int) else mjUp Zc 0 4 1 464 k) = _
    rw [if_neg fun c => hk c.2, mjUp_nc (by decide), h1 464 (by decide) (by decide)]
  have d7 : ∀ c, c ≠ 0 → c < 156 ∨ 157 < c → c ≠ 464 → c < 474 ∨ 476 < c → mjUp Z' 464 18 1 c = Z c := fun c g0 g1 g2 g3 => e c g0 (by omega) (by omega) g2 (by omega) (by omega) (by omega)
  refine ⟨i1.fr (fun c g1 g2 => d7 c (by omega) (by omega) (by omega) (by omega)) (d7 _ (by omega) (by omega) (by omega) (by omega)) (d7 _ (by omega) (by omega) (by omega) (by omega)) (d7 _ (by omega) (by omega) (by omega) (by omega)), i2.fr (fun c g1 g2 => d7 c (by omega) (by omega) (by omega) (by omega)) (e0 2 (by decide)) (e4 3 (by decide)) (d7 _ (by omega) (by omega) (by omega) (by omega)) (d7 _ (by omega) (by omega) (by omega) (by omega)) (d7 _ (by omega) (by omega) (by omega) (by omega)), ⟨1, by decide, ?_, mjUp_at, fun i hi => ⟨x, ?_, ?_⟩⟩, i4.fr (e0 7 (by decide)) (e0 8 (by decide)) (e0 10 (by decide)) (e4 8 (by decide)) (e4 9 (by decide)) (e4 11 (by decide)) (d7 _ (by omega) (by omega) (by omega) (by omega)) (d7 _ (by omega) (by omega) (by omega) (by omega)), i5.fr (e0 6 (by decide)) (e4 13 (by decide)) (d7 _ (by omega) (by omega) (by omega) (by omega)) (d7 _ (by omega) (by omega) (by omega) (by omega)), i6.fr (fun k _ _ => by rw [d7 _ (by omega) (by omega) (by omega) (by omega)]) (fun k _ => by rw [d7 _ (by omega) (by omega) (by omega) (by omega)]) (fun k _ => by rw [d7 _ (by omega) (by omega) (by omega) (by omega)]) (d7 _ (by omega) (by omega) (by omega) (by omega)) (d7 _ (by omega) (by omega) (by omega) (by omega)) (d7 _ (by omega) (by omega) (by omega) (by omega)) (d7 _ (by omega) (by omega) (by omega) (by omega))⟩
  · rw [mjUp_nc (by decide), h3.1 0 (by decide) (by decide) (by decide), mjUp_nc (by decide), mjUp_at]
    rfl
  · have i0 : i = 0 := by omega
    subst i0
    exact bgIs_congr h2 (by rw [mjUp_nc (by decide), h3.1 156 (by decide) (by decide) (by decide), mjUp_nc (by decide), mjUp_nc (by decide)]) (by rw [mjUp_nc (by decide), h3.1 157 (by decide) (by decide) (by decide), mjUp_nc (by decide), mjUp_nc (by decide)])
  · have i0 : i = 0 := by omega
    subst i0
    exact h4.fr (fun k _ => by rw [mjUp_nc (by decide)]) (by rw [mjUp_nc (by decide)]) (by rw [mjUp_nc (by decide)])
theorem an_one {mm : Nat} {as : List mjY} {Z : mjZ} {x : Int} (hI : INV Z) (hx : -9223372036854775808 < x ∧ x < 9223372036854775808) (hM : ∀ (Z1 : mjZ) (q : Int → mjZ → Prop), mjO2 156 Z Z1 → mjW0 9 202 [yR 11 464] (mjUp Z1 0 4 1) (fun Z3 => mjW0 9 203 [yR 11 464, yJ x] Z3 (fun Z4 => q 1 Z4)) → mjW1 10 mm as (mjUp Z1 0 4 1) q) : mjW1 9 88 [yR 10 0, yJ x] Z (fun v Z1 => mjW1 10 mm as Z1 (fun z' Z2 => Int32.ofInt z' = Int32.ofInt v ∧ INV Z2)) := by
  refine mje_88 (d := 8) (bg_become (d := 5) (R := 12) (bgR12 (i := 0) (by decide)) (by omega) fun Zc h1 h2 => hM Zc _ h1 ?_)
  refine mje_202 (d := 8) (mje_203 (d := 8) ?_)
  rw [mjUp_at]
  refine fm_set (d := 7) (i := 0) (by decide) hx fun Z' h3 h4 => ⟨rfl, ?_⟩
  have e : Z' 464 18 = 0 := by rw [h3.1 464 (by decide) (by decide) (by decide), mjUp_at]
  rw [e]
  exact INV_ans1 hI h1 h2 h3 h4
