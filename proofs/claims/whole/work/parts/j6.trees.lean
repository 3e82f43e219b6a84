/-! The reference's trees. -/
theorem wShl16 {i : Nat} (h : i < 16) : mjShlI 1 (i : Int) = ((2 ^ i : Nat) : Int) := by
  have : ∀ j : Fin 16, mjShlI 1 ((j.val : Nat) : Int) = ((2 ^ j.val : Nat) : Int) := by decide +kernel
  exact this ⟨i, h⟩
theorem wMb {mask e : Nat} (hm : mask < 2147483648) (he : e < 32) : mjAndI (mjShrI (mask : Int) (e : Int)) 1 = if mb mask e then 1 else 0 := by
  rw [wShrI (by omega) (by omega) he, wAndI1]
  unfold mb
  have e1 : (mask : Int) / ((2 ^ e : Nat) : Int) % 2 = ((mask / 2 ^ e % 2 : Nat) : Int) := rfl
  rw [e1]
  rcases Nat.mod_two_eq_zero_or_one (mask / 2 ^ e) with g | g <;> rw [g] <;> rfl
/-- the lines' ends -/
def enR (cd : Nat → Nat) (m : Nat) (Z : mjZ) : Prop := ∀ e, e < m → Z 493 (2 * e) = ((cd e / 6 : Nat) : Int) ∧ Z 493 (2 * e + 1) = ((cd e % 6 : Nat) : Int)
theorem rnm_stay {cd : Nat → Nat} {mask r : Nat} (h : rnm cd mask r = none) : ∀ d, rnm cd mask (r + d) = none
  | 0 => h
  | d + 1 => by
    show (match rnm cd mask (r + d) with
      | none => none
      | some K => _) = none
    rw [rnm_stay h d]
section TR
variable {d n m : Nat} {cd : Nat → Nat} {Z : mjZ}
theorem fm_colour {K : Nat → Nat} {mask i4 i5 a b : Nat} {x1 x2 : Int} {q : Int → mjZ → Prop} (h6 : n ≤ 6) (hK : ∀ v, v < n → Z 492 v = (K v : Int)) (hKn : ∀ v, v < n → K v < n) (ha : a < n) (hq : ∀ Z', wcS (fun c => c = 492) Z Z' → (∀ v, v < n → Z' 492 v = (rcl K (K a) b v : Int)) → mjL_250_30 d x1 x2 (n : Int) (i4 + 1) (i5 + 1) Z' q) : mjL_250_92 d x1 x2 (n : Int) i4 i5 (K a : Int) (b : Int) 0 Z q := by
  have ka := hKn a ha
  refine lp_inv (n := n) (a := Z) (L := fun r Zr => mjL_250_92 d x1 x2 (n : Int) i4 i5 (K a : Int) (b : Int) r Zr q) (Y := fun r Zr => wcS (fun c => c = 492) Z Zr ∧ (∀ v, v < r → Zr 492 v = (rcl K (K a) b v : Int)) ∧ ∀ v, r ≤ v → v < n → Zr 492 v = (K v : Int)) (fun r Zr hr hy hL => ?_) (fun Zr hy => ?_) ⟨wcS.rf, fun v hv => by omega, fun v _ hv => hK v hv⟩
  · obtain ⟨y1, y2, y3⟩ := hy
    have kr := hKn r hr
    have zr := y3 r (Nat.le_refl r) hr
    have nx : ∀ x : Int, x = (rcl K (K a) b r : Int) → mjL_250_92 d x1 x2 (n : Int) i4 i5 (K a : Int) (b : Int) (r + 1) (mjUp Zr 492 r x) q := fun x hx => hL _ ⟨y1.tr fun c hc => mjUp_nc hc, fun v hv => by
      rcases Nat.lt_or_ge v r with g | g
      · rw [show mjUp Zr 492 r x 492 v = Zr 492 v from if_neg fun c => by omega]
        exact y2 v g
      · rw [show v = r by omega, mjUp_at]
        exact hx, fun v g1 g2 => by
      rw [show mjUp Zr 492 r x 492 v = Zr 492 v from if_neg fun c => by omega]
      exact y3 v (by omega) g2⟩
    refine mjl_250_92 ?_
    rw [zr]
    refine ⟨by omega, by omega, fun g => by omega, fun _ => ⟨by omega, by omega, by omega, by omega, fun g => nx _ ?_, fun g => nx _ ?_⟩⟩
    · unfold rcl
      rw [if_neg (by omega)]
    · unfold rcl
      rw [if_pos (by omega)]
  · obtain ⟨y1, y2, y3⟩ := hy
    exact mjl_250_92 ⟨by omega, by omega, fun _ => hq Zr y1 y2, fun g => by omega⟩
theorem fm_isTree {mask : Nat} {q : Int → mjZ → Prop} (h1 : 1 ≤ n) (h6 : n ≤ 6) (hm : m ≤ 15) (hc : ∀ e, e < m → cd e / 6 < n ∧ cd e % 6 < n) (hE : enR cd m Z) (hk : mask < 2147483648) (hq : ∀ Z', wcS (fun c => c = 492) Z Z' → q (t1m n cd m mask) Z') : mjW1 (d + 1) 250 [yR 11 464, yI (mask : Int), yI (m : Int), yI (n : Int)] Z q := by
  refine mje_250 ?_
  refine lp_inv (n := n) (a := Z) (L := fun r Zr => mjL_250_6 d (mask : Int) (m : Int) (n : Int) 0 r Zr q) (Y := fun r Zr => wcS (fun c => c = 492) Z Zr ∧ ∀ v, v < r → Zr 492 v = ((id v : Nat) : Int)) (fun r Zr hr hy hL => ?_) (fun Zr hy => ?_) ⟨wcS.rf, fun v hv => by omega⟩
  · obtain ⟨y1, y2⟩ := hy
    refine mjl_250_6 ⟨by omega, by omega, fun g => by omega, fun _ => ⟨by omega, by omega, hL _ ⟨y1.tr fun c hc => mjUp_nc hc, fun v hv => ?_⟩⟩⟩
    rcases Nat.lt_or_ge v r with g | g
    · rw [show mjUp Zr 492 r (r : Int) 492 v = Zr 492 v from if_neg fun c => by omega]
      exact y2 v g
    · rw [show v = r by omega, mjUp_at]
      rfl
  · obtain ⟨y1, y2⟩ := hy
    refine mjl_250_6 ⟨by omega, by omega, fun _ => ?_, fun g => by omega⟩
    refine lp_inv (n := m) (a := Zr) (L := fun r Zs => mjL_250_30 d (mask : Int) (m : Int) (n : Int) (pcm mask r) r Zs q) (Y := fun r Zs => wcS (fun c => c = 492) Z Zs ∧ ∃ K, rnm cd mask r = some K ∧ (∀ v, v < n → Zs 492 v = (K v : Int)) ∧ ∀ v, v < n → K v < n) (fun r Zs hr hz hL => ?_) (fun Zs hz => ?_) ⟨y1, id, rfl, y2, fun v hv => hv⟩
    · obtain ⟨z1, K, k1, k2, k3⟩ := hz
      obtain ⟨c1, c2⟩ := hc r hr
      refine mjl_250_30 ?_
      rw [wMb hk (by omega)]
      refine ⟨by omega, by omega, fun g => by omega, fun _ => ⟨by split <;> omega, fun g => ?_, fun g => ?_⟩⟩
      · have hb : ¬ mb mask r = true := fun k => g (if_pos k)
        have e1 : pcm mask (r + 1) = pcm mask r := if_neg hb
        have nx := hL Zs ⟨z1, K, by
          unfold rnm
          rw [k1]
          exact if_neg hb, k2, k3⟩
        rw [e1] at nx
        exact nx
      · have hb : mb mask r = true := Classical.byContradiction fun k => g (by rw [if_neg k]; decide)
        have e1 : pcm mask (r + 1) = pcm mask r + 1 := if_pos hb
        obtain ⟨f1, f2⟩ := hE r hr
        have e493 : Zs 493 = Z 493 := z1 493 (by decide)
        have ka := k2 _ c1
        have kb := k2 _ c2
        have na := k3 _ c1
        have nb := k3 _ c2
        rw [e493, show (2 * (r : Int)).toNat = 2 * r by omega, show (2 * (r : Int) + 1).toNat = 2 * r + 1 by omega, f1, f2, show ((cd r / 6 : Nat) : Int).toNat = cd r / 6 from rfl, show ((cd r % 6 : Nat) : Int).toNat = cd r % 6 from rfl, ka, kb]
        refine ⟨by omega, by omega, by omega, by omega, by omega, by omega, by omega, by omega, by omega, by omega, fun g2 => ?_, fun g2 => ?_⟩
        · refine fm_colour (mask := mask) (K := K) (b := K (cd r % 6)) h6 k2 k3 c1 fun Z' w1 w2 => ?_
          have nx := hL Z' ⟨z1.tr w1, rcl K (K (cd r / 6)) (K (cd r % 6)), by
            unfold rnm
            rw [k1]
            show (if mb mask r = true then _ else _) = _
            rw [if_pos hb, if_neg (by omega)], w2, fun v hv => by
            unfold rcl
            split
            · exact nb
            · exact k3 v hv⟩
          rw [e1] at nx
          exact nx
        · have hn : rnm cd mask (r + 1) = none := by
            unfold rnm
            rw [k1]
            show (if mb mask r = true then _ else _) = _
            rw [if_pos hb, if_pos (by omega)]
          have hn2 := rnm_stay hn (m - (r + 1))
          rw [show r + 1 + (m - (r + 1)) = m by omega] at hn2
          have ht : t1m n cd m mask = 0 := by
            unfold t1m
            rw [hn2, if_neg (fun k => by cases k.1)]
          have := hq Zs z1
          rw [ht] at this
          exact this
    · obtain ⟨z1, K, k1, k2, k3⟩ := hz
      have pb : pcm mask m ≤ m := by
        have : ∀ r, pcm mask r ≤ r := fun r => by
          induction r with
          | zero => exact Nat.le_refl 0
          | succ r ih =>
            show (if mb mask r then pcm mask r + 1 else pcm mask r) ≤ r + 1
            split <;> omega
        exact this m
      have fin := hq Zs z1
      unfold t1m at fin
      rw [k1] at fin
      refine mjl_250_30 ⟨by omega, by omega, fun _ => ⟨by omega, by omega, fun g => ?_, fun g => ?_⟩, fun g => by omega⟩
      · rw [if_neg (fun k => by omega)] at fin
        exact fin
      · rw [if_pos ⟨rfl, by omega⟩] at fin
        exact fin
end TR
