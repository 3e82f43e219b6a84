/-! The reference's numbers: bits, twice, half. -/
def lbN (Z : mjZ) (r n : Nat) : Nat := (lbU Z r n).toNat
theorem lbW.N {Z : mjZ} {r n : Nat} (h : lbW Z r n) : (lbN Z r n : Int) = lbU Z r n := by have := h.b; unfold lbN; omega
theorem bgP_two : ∀ m : Nat, bgP m = ((2 ^ (30 * m) : Nat) : Int)
  | 0 => rfl
  | m + 1 => by
    show 1073741824 * bgP m = _
    rw [bgP_two m, show 30 * (m + 1) = 30 * m + 30 by omega, Nat.pow_add, Int.natCast_mul]
    have : ((2 ^ 30 : Nat) : Int) = 1073741824 := by decide
    rw [this, Int.mul_comm]
/-- the digit at place k -/
theorem dig_at {f : Nat → Int} {n : Nat} (h : bgD f 0 n) (k : Nat) : ∃ H L : Nat, (bgS f 0 n).toNat = L + 2 ^ (30 * k) * ((if k < n then (f k).toNat else 0) + 1073741824 * H) ∧ L < 2 ^ (30 * k) := by
  have hp := bgP_two k
  by_cases hk : k < n
  · rw [if_pos hk]
    obtain ⟨m, rfl⟩ := Nat.le.dest (show k + 1 ≤ n from hk)
    have h1 := bgS_b k 0 (bgD_sub h (Nat.le_refl _) (by omega))
    have h2 := bgS_b m (k + 1) (bgD_sub h (by omega) (by omega))
    have h3 := h k (by omega) (by omega)
    have e : bgS f 0 (k + 1 + m) = bgS f 0 k + bgP k * (f k + 1073741824 * bgS f (k + 1) m) := by
      rw [show k + 1 + m = k + (m + 1) by omega, bgS_app k (m + 1) 0, Nat.zero_add]
      rfl
    refine ⟨(bgS f (k + 1) m).toNat, (bgS f 0 k).toNat, ?_, by omega⟩
    have e2 : (((bgS f 0 k).toNat + 2 ^ (30 * k) * ((f k).toNat + 1073741824 * (bgS f (k + 1) m).toNat) : Nat) : Int) = bgS f 0 (k + 1 + m) := by
      rw [e, hp, Int.natCast_add, Int.natCast_mul, Int.natCast_add, Int.natCast_mul, Int.toNat_of_nonneg h1.1, Int.toNat_of_nonneg h3.1, Int.toNat_of_nonneg h2.1]
      rfl
    rw [← e2]
    exact Int.toNat_natCast _
  · rw [if_neg hk]
    have h1 := bgS_b n 0 h
    have h2 := bgP_mono (show n ≤ k by omega)
    exact ⟨0, (bgS f 0 n).toNat, by simp, by omega⟩
theorem bit_at {N D H L k j : Nat} (e : N = L + 2 ^ (30 * k) * (D + 1073741824 * H)) (hL : L < 2 ^ (30 * k)) (hj : j < 30) : N / 2 ^ (30 * k + j) % 2 = D / 2 ^ j % 2 := by
  have e1 : N / 2 ^ (30 * k) = D + 1073741824 * H := by
    rw [e, Nat.add_mul_div_left _ _ (Nat.two_pow_pos _), Nat.div_eq_of_lt hL, Nat.zero_add]
  rw [Nat.pow_add, ← Nat.div_div_eq_div_mul, e1]
  have e2 : 1073741824 * H = 2 ^ j * (2 * (2 ^ (29 - j) * H)) := by
    have : 1073741824 = 2 ^ j * (2 * 2 ^ (29 - j)) := by
      rw [← Nat.pow_succ', ← Nat.pow_add, show j + (29 - j).succ = 30 by omega]
    rw [this, Nat.mul_assoc, Nat.mul_assoc]
  rw [e2, Nat.add_mul_div_left _ _ (Nat.two_pow_pos _)]
  omega
theorem wAndJ1 (x : Int) : mjAndJ x 1 = x % 2 := wAndJp (i := 1) (by decide)
section BT
variable {d r a b n m : Nat} {Z : mjZ}
theorem fm_bitU {i : Nat} {q : Int → mjZ → Prop} (ha : a < 128) (h : lbW Z a n) (hi : i < 2000) (hq : q ((lbN Z a n / 2 ^ i % 2 : Nat) : Int) Z) : mjW1 (d + 2) 237 [yR 11 464, yI (a : Int), yI (i : Int)] Z q := by
  have eT : Int.tdiv (i : Int) 30 = ((i / 30 : Nat) : Int) := rfl
  have eM : Int.tmod (i : Int) 30 = ((i % 30 : Nat) : Int) := rfl
  obtain ⟨H, L, e1, e2⟩ := dig_at h.2.2 (i / 30)
  have e3 := bit_at (j := i % 30) e1 e2 (by omega)
  rw [show 30 * (i / 30) + i % 30 = i by omega] at e3
  have e4 : lbN Z a n / 2 ^ i % 2 = _ := e3
  rw [e4] at hq
  refine mje_237 (d := d + 1) ⟨by omega, ?_⟩
  rw [eT, eM]
  have fin : ∀ y : Nat, y < 1073741824 → mjAndI (mjL2I (mjShrJ (y : Int) ((i % 30 : Nat) : Int))) 1 = ((y / 2 ^ (i % 30) % 2 : Nat) : Int) := fun y hy => by
    have ub : y / 2 ^ (i % 30) ≤ y := Nat.div_le_self _ _
    have nn : (0 : Int) ≤ ((y / 2 ^ (i % 30) : Nat) : Int) := Int.natCast_nonneg _
    rw [wAndI1, wShrJ (by omega) (by omega) (by omega), ← Int.natCast_ediv, mjL2I_eq, Int.bmod_eq_of_le (by omega) (by omega)]
    omega
  refine fm_limbOf (d := d) ha h (by omega) ?_
  by_cases hk : i / 30 < n
  · have hd := h.2.2 (i / 30) (by omega) (by omega)
    rw [if_pos hk] at hq ⊢
    have e5 : lbF Z a (i / 30) = (((lbF Z a (i / 30)).toNat : Nat) : Int) := by omega
    rw [e5, fin _ (by omega)]
    exact hq
  · rw [if_neg hk] at hq ⊢
    rw [show (0 : Int) = ((0 : Nat) : Int) from rfl, fin 0 (by decide)]
    exact hq
theorem fm_bitsU {q : Int → mjZ → Prop} (ha : a < 128) (h : lbW Z a n) (hq : ∀ nb : Nat, lbN Z a n < 2 ^ nb → nb ≤ 30 * n → q (nb : Int) Z) : mjW1 (d + 1) 241 [yR 11 464, yI (a : Int)] Z q := by
  have h5 := h.2.1
  have h24 := h.1
  refine mje_241 ?_
  rw [h5]
  refine ⟨by omega, by omega, by omega, fun g => ⟨by omega, by omega, ?_⟩, fun g => ?_⟩
  · obtain ⟨p, rfl⟩ : ∃ p, n = p + 1 := ⟨n - 1, by omega⟩
    have hd := h.2.2 p (by omega) (by omega)
    rw [show ((24 * (a : Int) + ((p + 1 : Nat) : Int)) - 1).toNat = 24 * a + p by omega, show (30 * (((p + 1 : Nat) : Int) - 1)) = ((30 * p : Nat) : Int) by omega]
    have eF : Z 474 (24 * a + p) = lbF Z a p := rfl
    have e5 : lbF Z a p = (((lbF Z a p).toNat : Nat) : Int) := by omega
    have hy : (lbF Z a p).toNat < 1073741824 := by omega
    have hN : ∀ k, (lbF Z a p).toNat < 2 ^ k → lbN Z a (p + 1) < 2 ^ (30 * p + k) := fun k hk => by
      have hb := bgS_b p 0 (bgD_sub h.2.2 (Nat.le_refl _) (by omega))
      have e : lbU Z a (p + 1) = bgS (lbF Z a) 0 p + bgP p * lbF Z a p := by
        unfold lbU
        rw [bgS_snoc, Nat.zero_add]
      have h1 : bgP p * lbF Z a p + bgP p ≤ bgP p * ((2 ^ k : Nat) : Int) := by
        have : bgP p * (lbF Z a p + 1) ≤ bgP p * ((2 ^ k : Nat) : Int) := Int.mul_le_mul_of_nonneg_left (by omega) (by omega)
        rw [Int.mul_add, Int.mul_one] at this
        exact this
      have h2 : bgP p * ((2 ^ k : Nat) : Int) = ((2 ^ (30 * p + k) : Nat) : Int) := by rw [bgP_two, ← Int.natCast_mul, ← Nat.pow_add]
      have h3 := h.N
      omega
    rw [eF, e5]
    revert hy hN
    generalize (lbF Z a p).toNat = y
    intro hy hN
    have main : ∀ s k : Nat, k + s = 30 → mjL_241_42 d a (((30 * p : Nat) : Int) + (k : Int)) ((y / 2 ^ k : Nat) : Int) Z q := by
      intro s
      induction s with
      | zero =>
        intro k hk
        have z : y / 2 ^ k = 0 := Nat.div_eq_of_lt (by rw [show k = 30 by omega]; exact hy)
        rw [z, show ((30 * p : Nat) : Int) + (k : Int) = ((30 * p + k : Nat) : Int) by omega]
        refine mjl_241_42 ⟨by omega, fun _ => hq _ (hN k ?_) (by omega), fun g => by omega⟩
        rw [show k = 30 by omega]; exact hy
      | succ s ih =>
        intro k hk
        have ub : y / 2 ^ k ≤ y := Nat.div_le_self _ _
        have nn : (0 : Int) ≤ ((y / 2 ^ k : Nat) : Int) := Int.natCast_nonneg _
        refine mjl_241_42 ⟨by omega, fun g => ?_, fun g => ?_⟩
        · have z : y / 2 ^ k = 0 := by omega
          rw [show ((30 * p : Nat) : Int) + (k : Int) = ((30 * p + k : Nat) : Int) by omega]
          exact hq _ (hN k ((Nat.div_eq_zero_iff_lt (Nat.two_pow_pos k)).mp z)) (by omega)
        · have e : mjShrJ ((y / 2 ^ k : Nat) : Int) 1 = ((y / 2 ^ (k + 1) : Nat) : Int) := by
            have := wShrJ (x := ((y / 2 ^ k : Nat) : Int)) (i := 1) (by omega) (by omega) (by decide)
            rw [show ((1 : Nat) : Int) = 1 from rfl] at this
            rw [this, ← Int.natCast_ediv, Nat.div_div_eq_div_mul, ← Nat.pow_add]
          rw [e, Int.add_assoc, show (k : Int) + 1 = ((k + 1 : Nat) : Int) by omega]
          exact ih (k + 1) (by omega)
    have := main 30 0 (by omega)
    rw [show y / 2 ^ 0 = y by rw [Nat.pow_zero, Nat.div_one], show ((0 : Nat) : Int) = 0 from rfl, Int.add_zero] at this
    exact this
  · have n0 : n = 0 := by omega
    subst n0
    exact hq 0 (show (lbU Z a 0).toNat < 2 ^ 0 from (by decide : (0 : Int).toNat < 2 ^ 0)) (by decide)
/-- a size becomes twice itself and a bit -/
theorem fm_twice {w : Nat} {q : mjZ → Prop} (hr : r < 128) (h : lbT Z r n) (hn : n ≤ 23) (hw : w < 2) (hq : ∀ Z' n', stF Z Z' r → n' ≤ n + 1 → lbT Z' r n' → lbU Z' r n' = 2 * lbU Z r n + (w : Int) → Z' 476 r = (if n' = 0 then 0 else 1) → q Z') : mjW0 (d + 1) 239 [yR 11 464, yI (r : Int), yI (w : Int)] Z q := by
  have h5 := h.1.2.1
  refine mje_239 ⟨by omega, ?_⟩
  refine lp_inv (α := mjZ × Int) (n := n) (a := (Z, (w : Int))) (L := fun i p => mjL_239_6 d r (w : Int) p.2 i p.1 q) (Y := fun i p => stF Z p.1 r ∧ p.1 475 = Z 475 ∧ p.1 476 = Z 476 ∧ bgD (lbF p.1 r) 0 i ∧ (∀ k, i ≤ k → k < 24 → lbF p.1 r k = lbF Z r k) ∧ (0 ≤ p.2 ∧ p.2 ≤ 1) ∧ bgS (lbF p.1 r) 0 i + bgP i * p.2 = 2 * bgS (lbF Z r) 0 i + (w : Int)) (fun i p hi hy hL => ?_) (fun p hy => ?_) ⟨stF.refl, rfl, rfl, fun k k1 k2 => by omega, fun k _ _ => rfl, ⟨show (0 : Int) ≤ (w : Int) by omega, show (w : Int) ≤ 1 by omega⟩, by show (0 : Int) + 1 * (w : Int) = 2 * 0 + (w : Int); omega⟩
  · obtain ⟨Zi, x⟩ := p
    obtain ⟨y1, y2, y3, y4, y5, y6, y7⟩ := hy
    dsimp only at y1 y2 y3 y4 y5 y6 y7 ⊢
    have dr := h.1.2.2 i (by omega) (by omega)
    have eF : Zi 474 (24 * r + i) = lbF Z r i := y5 i (Nat.le_refl _) (by omega)
    refine mjl_239_6 ?_
    rw [y2, h5, show ((24 * (r : Int)) + (i : Int)).toNat = 24 * r + i by omega, eF, wAndJ]
    have eS : mjShrJ (x + 2 * lbF Z r i) 30 = (x + 2 * lbF Z r i) / 1073741824 := wShrJ (i := 30) (by omega) (by omega) (by decide)
    rw [eS]
    have up5 : mjUp Zi 474 (24 * r + i) ((x + 2 * lbF Z r i) % 1073741824) 475 = Z 475 := by rw [mjUp_nc (by decide)]; exact y2
    have up6 : mjUp Zi 474 (24 * r + i) ((x + 2 * lbF Z r i) % 1073741824) 476 = Z 476 := by rw [mjUp_nc (by decide)]; exact y3
    refine ⟨by omega, by omega, by omega, by omega, fun g => by omega, fun _ => ⟨by omega, by omega, hL (mjUp Zi 474 (24 * r + i) ((x + 2 * lbF Z r i) % 1073741824), (x + 2 * lbF Z r i) / 1073741824) ⟨y1.tr (stF_up4 (by omega)), up5, up6, fun k k1 k2 => ?_, fun k k1 k2 => ?_, ⟨?_, ?_⟩, ?_⟩⟩⟩
    · show 0 ≤ (if 474 = 474 ∧ 24 * r + k = 24 * r + i then _ else Zi 474 (24 * r + k)) ∧ (if 474 = 474 ∧ 24 * r + k = 24 * r + i then _ else Zi 474 (24 * r + k)) < 1073741824
      by_cases hk : k = i
      · rw [if_pos ⟨rfl, by omega⟩]; omega
      · rw [if_neg (by omega)]
        exact y4 k k1 (by omega)
    · show (if 474 = 474 ∧ 24 * r + k = 24 * r + i then _ else Zi 474 (24 * r + k)) = _
      rw [if_neg (by omega)]
      exact y5 k (by omega) k2
    · dsimp only; omega
    · dsimp only; omega
    · have e1 : lbF (mjUp Zi 474 (24 * r + i) ((x + 2 * lbF Z r i) % 1073741824)) r i = (x + 2 * lbF Z r i) % 1073741824 := mjUp_at
      have e2 : bgS (lbF (mjUp Zi 474 (24 * r + i) ((x + 2 * lbF Z r i) % 1073741824)) r) 0 i = bgS (lbF Zi r) 0 i := bgS_eq fun k hk => by
        unfold lbF
        exact if_neg fun c => by omega
      dsimp only
      rw [bgS_snoc, bgS_snoc, Nat.zero_add, e1, e2]
      have e3 : bgP (i + 1) = 1073741824 * bgP i := rfl
      rw [e3]
      have e4 := Int.emod_add_mul_ediv (x + 2 * lbF Z r i) 1073741824
      generalize (x + 2 * lbF Z r i) % 1073741824 = u at e4 ⊢
      generalize (x + 2 * lbF Z r i) / 1073741824 = c at e4 ⊢
      grind
  · obtain ⟨Zi, x⟩ := p
    obtain ⟨y1, y2, y3, y4, y5, y6, y7⟩ := hy
    dsimp only at y1 y2 y3 y4 y5 y6 y7 ⊢
    have y7' : bgS (lbF Zi r) 0 n + bgP n * x = 2 * lbU Z r n + (w : Int) := y7
    have hb := bgS_b n 0 y4
    have hU := h.1.b
    refine mjl_239_6 ?_
    rw [y2, h5]
    refine ⟨by omega, by omega, by omega, by omega, fun _ => ⟨by omega, fun g => ?_, fun g => ?_⟩, fun g => by omega⟩
    · have x0 : x = 0 := by omega
      rw [x0, Int.mul_zero, Int.add_zero] at y7'
      have e4 : ∀ s : Int, ∀ k, lbF (mjUp Zi 476 r s) r k = lbF Zi r k := fun s k => by unfold lbF; rw [mjUp_nc (by decide)]
      have hW : ∀ s : Int, lbT (mjUp Zi 476 r s) r n := fun s => ⟨⟨h.1.1, by rw [mjUp_nc (by decide), y2]; exact h5, fun k k1 k2 => by rw [e4]; exact y4 k k1 k2⟩, fun hn0 => by
        rw [e4]
        intro hz
        have ht := h.top hn0
        obtain ⟨p, rfl⟩ : ∃ p, n = p + 1 := ⟨n - 1, by omega⟩
        rw [Nat.add_sub_cancel] at hz ht
        rw [bgS_snoc, Nat.zero_add, hz, Int.mul_zero, Int.add_zero] at y7'
        have := (bgS_b p 0 (bgD_sub y4 (Nat.le_refl _) (by omega))).2
        have := bgP_pos p
        omega⟩
      have hUe : ∀ s : Int, lbU (mjUp Zi 476 r s) r n = 2 * lbU Z r n + (w : Int) := fun s => by
        rw [← y7']
        exact bgS_eq fun k _ => e4 s k
      refine ⟨fun g2 => ?_, fun g2 => ?_⟩
      · exact hq _ n (y1.tr stF_up6) (by omega) (hW 1) (hUe 1) (by rw [mjUp_at, if_neg (by omega)])
      · exact hq _ n (y1.tr stF_up6) (by omega) (hW 0) (hUe 0) (by rw [mjUp_at, if_pos (by omega)])
    · have x1 : x = 1 := by omega
      subst x1
      rw [show ((24 * (r : Int)) + (n : Int)).toNat = 24 * r + n by omega]
      have e5 : mjUp Zi 474 (24 * r + n) 1 475 r = (n : Int) := by rw [mjUp_nc (by decide), y2]; exact h5
      rw [e5, mjUp_at]
      have e4 : ∀ k, lbF (mjUp (mjUp (mjUp Zi 474 (24 * r + n) 1) 475 r ((n : Int) + 1)) 476 r 1) r k = if k = n then 1 else lbF Zi r k := fun k => by
        unfold lbF
        rw [mjUp_nc (by decide), mjUp_nc (by decide)]
        show (if 474 = 474 ∧ 24 * r + k = 24 * r + n then 1 else Zi 474 (24 * r + k)) = _
        by_cases hk : k = n
        · rw [if_pos ⟨rfl, by omega⟩, if_pos hk]
        · rw [if_neg (by omega), if_neg hk]
      refine ⟨by omega, by omega, by omega, fun g2 => ?_, fun g2 => absurd (by omega) g2⟩
      refine hq _ (n + 1) (((y1.tr (stF_up4 (by omega))).tr stF_up5).tr stF_up6) (Nat.le_refl _) ⟨⟨by omega, by rw [mjUp_nc (by decide), mjUp_at]; omega, fun k k1 k2 => ?_⟩, fun _ => ?_⟩ ?_ (by rw [mjUp_at, if_neg (by omega)])
      · rw [e4]
        by_cases hk : k = n
        · rw [if_pos hk]; omega
        · rw [if_neg hk]
          exact y4 k k1 (by omega)
      · rw [e4, if_pos (by omega)]
        decide
      · rw [← y7']
        unfold lbU
        rw [bgS_snoc, Nat.zero_add, e4, if_pos rfl, bgS_eq (g := lbF Zi r) fun k hk => by rw [e4, if_neg (by omega)]]
theorem wHalf {x b : Int} (h0 : 0 ≤ x) (h1 : x < 1073741824) (hb : b = 0 ∨ b = 1) : mjOrJ (mjShrJ x 1) (mjShlJ b 29) = x / 2 + b * 536870912 := by
  have e1 : mjShrJ x 1 = x / 2 := wShrJ (i := 1) (by omega) (by omega) (by decide)
  rw [e1]
  rcases hb with h | h
  · subst h
    have e2 : mjShlJ 0 29 = 0 := by decide +kernel
    rw [e2, Int.zero_mul, Int.add_zero]
    show (BitVec.ofInt 64 (x / 2) ||| BitVec.ofInt 64 0).toInt = _
    rw [show BitVec.ofInt 64 0 = 0#64 from rfl, BitVec.or_zero, BitVec.toInt_ofInt, Int.bmod_eq_of_le (by omega) (by omega)]
  · subst h
    have e2 : mjShlJ 1 29 = ((2 ^ 29 : Nat) : Int) := wShl1J (by decide)
    rw [e2, wOrMan (by decide) (by omega) (by show x / 2 < 536870912; omega), show ((2 ^ 29 : Nat) : Int) = 536870912 from rfl]
    omega
/-- a size becomes its half -/
theorem fm_half {q : mjZ → Prop} (hr : r < 128) (h : lbW Z r n) (hq : ∀ Z' n', stF Z Z' r → n' ≤ n → lbT Z' r n' → lbU Z' r n' = lbU Z r n / 2 → Z' 476 r = (if n' = 0 then 0 else Z 476 r) → q Z') : mjW0 (d + 2) 238 [yR 11 464, yI (r : Int)] Z q := by
  have h5 := h.2.1
  have h24 := h.1
  refine mje_238 (d := d + 1) ?_
  refine lp_inv (n := n) (a := Z) (L := fun i Z => mjL_238_2 (d + 1) r i Z q) (Y := fun i Zi => stF Z Zi r ∧ Zi 475 = Z 475 ∧ Zi 476 = Z 476 ∧ bgD (lbF Zi r) 0 i ∧ (∀ k, i ≤ k → k < 24 → lbF Zi r k = lbF Z r k) ∧ 2 * bgS (lbF Zi r) 0 i = bgS (lbG Z r n) 0 i - lbG Z r n 0 % 2 + bgP i * (lbG Z r n i % 2)) (fun i Zi hi hy hL => ?_) (fun Zi hy => ?_) ⟨stF.refl, rfl, rfl, fun k k1 k2 => by omega, fun k _ _ => rfl, by show (2 : Int) * 0 = 0 - lbG Z r n 0 % 2 + 1 * (lbG Z r n 0 % 2); omega⟩
  · obtain ⟨y1, y2, y3, y4, y5, y6⟩ := hy
    have dr := h.2.2 i (by omega) (by omega)
    have eF : Zi 474 (24 * r + i) = lbF Z r i := y5 i (Nat.le_refl _) (by omega)
    have eG : lbG Z r n i = lbF Z r i := if_pos hi
    have gb := lbG_b (k := i + 1) h
    have step : ∀ v : Int, v = lbG Z r n (i + 1) % 2 → mjL_238_2 (d + 1) r (i + 1) (mjUp Zi 474 (24 * r + i) (mjOrJ (mjShrJ (lbF Z r i) 1) (mjShlJ v 29))) q := fun v hv => by
      rw [wHalf dr.1 dr.2 (by omega)]
      refine hL _ ⟨y1.tr (stF_up4 (by omega)), by rw [mjUp_nc (by decide)]; exact y2, by rw [mjUp_nc (by decide)]; exact y3, fun k k1 k2 => ?_, fun k k1 k2 => ?_, ?_⟩
      · show 0 ≤ (if 474 = 474 ∧ 24 * r + k = 24 * r + i then _ else Zi 474 (24 * r + k)) ∧ (if 474 = 474 ∧ 24 * r + k = 24 * r + i then _ else Zi 474 (24 * r + k)) < 1073741824
        by_cases hk : k = i
        · rw [if_pos ⟨rfl, by omega⟩]; omega
        · rw [if_neg (by omega)]
          exact y4 k k1 (by omega)
      · show (if 474 = 474 ∧ 24 * r + k = 24 * r + i then _ else Zi 474 (24 * r + k)) = _
        rw [if_neg (by omega)]
        exact y5 k (by omega) k2
      · have e1 : lbF (mjUp Zi 474 (24 * r + i) (lbF Z r i / 2 + v * 536870912)) r i = lbF Z r i / 2 + v * 536870912 := mjUp_at
        have e2 : bgS (lbF (mjUp Zi 474 (24 * r + i) (lbF Z r i / 2 + v * 536870912)) r) 0 i = bgS (lbF Zi r) 0 i := bgS_eq fun k hk => by
          unfold lbF
          exact if_neg fun c => by omega
        rw [bgS_snoc, bgS_snoc, Nat.zero_add, e1, e2, ← hv, Int.mul_add, y6, eG]
        have e3 : bgP (i + 1) = 1073741824 * bgP i := rfl
        rw [e3]
        have e4 := Int.emod_add_mul_ediv (lbF Z r i) 2
        generalize lbF Z r i % 2 = u at e4 ⊢
        generalize lbF Z r i / 2 = c at e4 ⊢
        grind
    refine mjl_238_2 ?_
    rw [y2, h5, show ((24 * (r : Int)) + (i : Int)).toNat = 24 * r + i by omega, show ((24 * (r : Int)) + (i : Int) + 1).toNat = 24 * r + (i + 1) by omega, eF, wAndJ1]
    refine ⟨by omega, by omega, by omega, by omega, fun g => by omega, fun _ => ⟨by omega, fun g => ⟨by omega, by omega, step 0 ?_⟩, fun g => ⟨by omega, by omega, by omega, by omega, step _ ?_⟩⟩⟩
    · unfold lbG
      rw [if_neg (by omega)]
      rfl
    · have : Zi 474 (24 * r + (i + 1)) = lbF Z r (i + 1) := y5 (i + 1) (by omega) (by omega)
      rw [this]
      unfold lbG
      rw [if_pos (by omega)]
  · obtain ⟨y1, y2, y3, y4, y5, y6⟩ := hy
    have hW : lbW Zi r n := ⟨h24, by rw [y2]; exact h5, y4⟩
    refine mjl_238_2 ?_
    rw [y2, h5]
    refine ⟨by omega, by omega, by omega, by omega, fun _ => fm_trim (d := d) hr hW fun Z' n' b1 b2 b3 b4 b5 b6 => hq Z' n' (y1.tr b1) b2 b3 ?_ (by rw [b6, y3]), fun g => by omega⟩
    have e0 : lbG Z r n n = 0 := if_neg (by omega)
    rw [e0, lbG_S (Nat.le_refl n), show (0 : Int) % 2 = 0 from rfl, Int.mul_zero, Int.add_zero] at y6
    have y6' : 2 * lbU Zi r n = lbU Z r n - lbG Z r n 0 % 2 := y6
    rw [b5]
    omega
end BT
