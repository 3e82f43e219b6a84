/-! The reference's way: exchange, ready, bendOf. -/
def bdS (k : Nat) : Prop := (48 ≤ k ∧ k < 85) ∨ (87 ≤ k ∧ k ≤ 93) ∨ (106 ≤ k ∧ k ≤ 114)
def rwR (n : Nat) (Z : mjZ) (R : Nat → Nat → Int) : Prop := ∀ l j, l < n → j < n → lbIs Z (48 + 6 * l + j) (R l j)
def fbT (n t : Nat) (T : Nat → Nat → Int) (Z : mjZ) : Prop := t < 60 ∧ n ≤ 6 ∧ Z 469 t = (n : Int) ∧ ∀ i k, i < n → k < n → Z 470 (36 * t + 6 * i + k) = T i k ∧ -100 ≤ T i k ∧ T i k ≤ 100
theorem fbT.g {n t : Nat} {T : Nat → Nat → Int} {S : Nat → Prop} {Z Z' : mjZ} (h : fbT n t T Z) (g : stG S Z Z') : fbT n t T Z' := ⟨h.1, h.2.1, by rw [g.1 469 (by decide) (by decide) (by decide) (by decide)]; exact h.2.2.1, fun i k h1 h2 => by rw [g.1 470 (by decide) (by decide) (by decide) (by decide)]; exact h.2.2.2 i k h1 h2⟩
/-- the rows made ready for a stage, if they can be -/
def wyP (n : Nat) (T : Nat → Nat → Int) (i : Nat) (R : Nat → Nat → Int) : Option (Nat → Nat → Int) := match wyF n T R i with
  | some k => some (wyX i k R)
  | none => match wyA n T R i with
    | some k => some (wyD i k R)
    | none => none
theorem wyG_P {n i : Nat} {T R : Nat → Nat → Int} : wyG n T i R = match wyP n T i R with
  | some R' => wyZ n T i n R'
  | none => R := by
  unfold wyG wyP
  cases wyF n T R i with
  | some k => rfl
  | none => cases wyA n T R i <;> rfl
def wyR (n : Nat) (T : Nat → Nat → Int) : Nat → Nat → Nat → Int
  | 0 => fun k => ue k
  | i + 1 => wyG n T i (wyR n T i)
theorem wyR_K {n : Nat} {T : Nat → Nat → Int} (hS : tSym n T) (hT : ∀ i k, i < n → k < n → -100 ≤ T i k ∧ T i k ≤ 100) (h1 : 1 ≤ n) (h6 : n ≤ 6) : ∀ i, i ≤ n → wyK n T i (wyR n T i)
  | 0, _ => wyK_start h1
  | i + 1, h => wyK_step hS hT h6 h (wyR_K hS hT h1 h6 i (by omega))
theorem sr_here {β : Type} {P : Nat → Option β} {b : β} {m i : Nat} (h : P i = some b) : sr P (m + 1) i = some b := by
  unfold sr
  rw [h]
theorem sr_next {β : Type} {P : Nat → Option β} {m i : Nat} (h : P i = none) : sr P (m + 1) i = sr P m (i + 1) := by
  conv => lhs; unfold sr
  rw [h]
theorem wyX_self {i : Nat} {R : Nat → Nat → Int} : wyX i i R = R := by
  funext l
  unfold wyX
  by_cases g : l = i
  · rw [if_pos g, g]
  · rw [if_neg g, if_neg g]
/-- what is known of rows made ready -/
theorem wyP_ok {n i : Nat} {T R R' : Nat → Nat → Int} (hS : tSym n T) (h : wyK n T i R) (hi : i + 1 < n) (hP : wyP n T i R = some R') : idp n R' ∧ bfv n T (R' i) (R' i) ≠ 0 ∧ ∀ l j, i ≤ l → l < n → j < n → bgA (R' l j) ≤ wY := by
  obtain ⟨h1, h2, h3⟩ := h
  have hb := (h3 hi).1
  have hY : ((2 ^ 111 : Nat) : Int) + ((2 ^ 111 : Nat) : Int) ≤ wY ∧ (0 : Int) ≤ ((2 ^ 111 : Nat) : Int) := by decide +kernel
  unfold wyP at hP
  cases hF : wyF n T R i with
  | some k =>
    rw [hF] at hP
    have e : wyX i k R = R' := Option.some.inj hP
    obtain ⟨k1, k2, k3⟩ := wyF_some hF
    subst e
    refine ⟨idp_swap h1 (by omega) k2, ?_, fun l j g1 g2 g3 => ?_⟩
    · rw [show wyX i k R i = R k from if_pos rfl]
      exact k3
    · unfold wyX
      split
      · have := hb k j k1 k2 g3; omega
      · split
        · have := hb i j (Nat.le_refl i) (by omega) g3; omega
        · have := hb l j g1 g2 g3; omega
  | none =>
    rw [hF] at hP
    cases hA : wyA n T R i with
    | some k =>
      rw [hA] at hP
      have e : wyD i k R = R' := Option.some.inj hP
      obtain ⟨k1, k2, k3⟩ := wyA_some hA
      have h0 := wyF_none hF
      subst e
      refine ⟨idp_add h1 (by omega) k2 (by omega), ?_, fun l j g1 g2 g3 => ?_⟩
      · rw [show wyD i k R i = fun j => R i j + R k j from if_pos rfl, bfv_addl, bfv_addr hS, bfv_addr hS, h0 i (Nat.le_refl _) (by omega), h0 k (by omega) k2, bfv_symm hS (R i)]
        omega
      · unfold wyD
        split
        · have q1 := hb i j (Nat.le_refl i) (by omega) g3
          have q2 := hb k j (by omega) k2 g3
          have q3 := @bgA_le (R i j) (R k j)
          show bgA (R i j + R k j) ≤ _
          omega
        · have := hb l j g1 g2 g3; omega
    | none =>
      rw [hA] at hP
      exact absurd hP (by intro k; cases k)
section RD
variable {d t n : Nat} {T R : Nat → Nat → Int} {Z : mjZ}
theorem fm_exchange {x2 x3 : Nat} {q : mjZ → Prop} (h6 : n ≤ 6) (hx2 : x2 < n) (hx3 : x3 < n) (hne : x2 ≠ x3) (hR : rwR n Z R) (hq : ∀ Z', stG bdS Z Z' → rwR n Z' (wyX x2 x3 R) → q Z') : mjW0 (d + 2) 234 [yR 11 464, yI (n : Int), yI (x2 : Int), yI (x3 : Int)] Z q := by
  refine mje_234 (d := d + 1) ?_
  refine lp_inv (n := n) (a := Z) (L := fun r Zr => mjL_234_3 (d + 1) n x2 x3 r Zr q) (Y := fun r Zr => stG bdS Z Zr ∧ (∀ l j, l < n → j < r → lbIs Zr (48 + 6 * l + j) (wyX x2 x3 R l j)) ∧ ∀ l j, l < n → r ≤ j → j < n → lbIs Zr (48 + 6 * l + j) (R l j)) (fun r Zr hr hy hL => ?_) (fun Zr hy => ?_) ⟨stG.refl, fun l j _ hj => by omega, fun l j hl _ hj => hR l j hl hj⟩
  · obtain ⟨y1, y2, y3⟩ := hy
    have e2 : (48 + (6 * (x2 : Int))) + (r : Int) = ((48 + 6 * x2 + r : Nat) : Int) := by omega
    have e3 : (48 + (6 * (x3 : Int))) + (r : Int) = ((48 + 6 * x3 + r : Nat) : Int) := by omega
    refine mjl_234_3 ⟨by omega, by omega, fun g => by omega, fun _ => ?_⟩
    rw [e2, e3]
    refine fm_copy (d := d) (r := 88) (a := 48 + 6 * x2 + r) (by decide) (by omega) (y3 x2 r hx2 (Nat.le_refl r) hr) fun Z1 a1 a2 => ?_
    refine fm_copy (d := d) (r := 48 + 6 * x2 + r) (a := 48 + 6 * x3 + r) (by omega) (by omega) ((y3 x3 r hx3 (Nat.le_refl r) hr).stF a1 (by omega)) fun Z2 b1 b2 => ?_
    refine fm_copy (d := d) (r := 48 + 6 * x3 + r) (a := 88) (by omega) (by omega) (a2.stF b1 (by omega)) fun Z3 c1 c2 => hL Z3 ⟨?_, fun l j hl hj => ?_, fun l j hl h1 h2 => ?_⟩
    · exact y1.tr ((a1.R (by unfold bdS; omega)).tr ((b1.R (by unfold bdS; omega)).tr (c1.R (by unfold bdS; omega))))
    · rcases Nat.lt_or_ge j r with g | g
      · exact (((y2 l j hl g).stF a1 (by omega)).stF b1 (by omega)).stF c1 (by omega)
      · have ej : j = r := by omega
        subst ej
        unfold wyX
        by_cases k2 : l = x2
        · rw [if_pos k2, k2]; exact b2.stF c1 (by omega)
        · rw [if_neg k2]
          by_cases k3 : l = x3
          · rw [if_pos k3, k3]; exact c2
          · rw [if_neg k3]
            exact (((y3 l j hl (Nat.le_refl _) hr).stF a1 (by omega)).stF b1 (by omega)).stF c1 (by omega)
    · exact (((y3 l j hl (by omega) h2).stF a1 (by omega)).stF b1 (by omega)).stF c1 (by omega)
  · obtain ⟨y1, y2, y3⟩ := hy
    exact mjl_234_3 ⟨by omega, by omega, fun _ => hq Zr y1 y2, fun g => by omega⟩
theorem fm_r83 {t x2 x4 : Nat} {q : Int → mjZ → Prop} (h6 : n ≤ 6) (hx2 : x2 < n) (hx4 : x4 < n) (hne : x2 ≠ x4) (hR : rwR n Z R) (hb : ∀ l j, l < n → j < n → bgA (R l j) ≤ wX) (hq : ∀ Z', stG bdS Z Z' → rwR n Z' (wyD x2 x4 R) → q 1 Z') : mjL_231_83 (d + 3) t x2 (n : Int) (x4 : Int) 0 Z q := by
  have hX := wX_f
  refine lp_inv (n := n) (a := Z) (L := fun r Zr => mjL_231_83 (d + 3) t x2 (n : Int) (x4 : Int) r Zr q) (Y := fun r Zr => stG bdS Z Zr ∧ (∀ l j, l < n → j < r → lbIs Zr (48 + 6 * l + j) (wyD x2 x4 R l j)) ∧ ∀ l j, l < n → r ≤ j → j < n → lbIs Zr (48 + 6 * l + j) (R l j)) (fun r Zr hr hy hL => ?_) (fun Zr hy => ?_) ⟨stG.refl, fun l j _ hj => by omega, fun l j hl _ hj => hR l j hl hj⟩
  · obtain ⟨y1, y2, y3⟩ := hy
    have e2 : (48 + (6 * (x2 : Int))) + (r : Int) = ((48 + 6 * x2 + r : Nat) : Int) := by omega
    have e3 : (48 + (6 * (x4 : Int))) + (r : Int) = ((48 + 6 * x4 + r : Nat) : Int) := by omega
    refine mjl_231_83 ⟨by omega, by omega, fun g => by omega, fun _ => ?_⟩
    rw [e2, e3]
    have b1 := hb x2 r hx2 hr
    have b2 := hb x4 r hx4 hr
    refine fm_add (d := d) (r := 88) (a := 48 + 6 * x2 + r) (b := 48 + 6 * x4 + r) (by decide) (by omega) (by omega) (y3 x2 r hx2 (Nat.le_refl r) hr) (y3 x4 r hx4 (Nat.le_refl r) hr) (by omega) (by omega) (Or.inl rfl) fun Z1 a1 a2 => ?_
    rw [Int.one_mul] at a2
    refine fm_copy (d := d + 2) (r := 48 + 6 * x2 + r) (a := 88) (by omega) (by decide) a2 fun Z2 c1 c2 => hL Z2 ⟨?_, fun l j hl hj => ?_, fun l j hl h1 h2 => ?_⟩
    · exact y1.tr ((a1.R (by unfold bdS; omega)).tr (c1.R (by unfold bdS; omega)))
    · rcases Nat.lt_or_ge j r with g | g
      · exact ((y2 l j hl g).stF a1 (by omega)).stF c1 (by omega)
      · have ej : j = r := by omega
        subst ej
        unfold wyD
        by_cases k2 : l = x2
        · rw [if_pos k2, k2]; exact c2
        · rw [if_neg k2]
          exact ((y3 l j hl (Nat.le_refl _) hr).stF a1 (by omega)).stF c1 (by omega)
    · exact ((y3 l j hl (by omega) h2).stF a1 (by omega)).stF c1 (by omega)
  · obtain ⟨y1, y2, y3⟩ := hy
    exact mjl_231_83 ⟨by omega, by omega, fun _ => hq Zr y1 y2, fun g => by omega⟩
theorem rwR.g {S : Nat → Prop} {Z Z' : mjZ} (h : rwR n Z R) (h6 : n ≤ 6) (g : stG S Z Z') (hS : ∀ k, S k → 84 ≤ k) : rwR n Z' R := fun l j hl hj => (h l j hl hj).R g fun k => by have := hS _ k; omega
theorem fm_ready {i : Nat} {q : Int → mjZ → Prop} (hS : tSym n T) (hT : fbT n t T Z) (hi : i < n) (hR : rwR n Z R) (hb : ∀ l j, l < n → j < n → bgA (R l j) ≤ wX) (q1 : ∀ Z' R', wyP n T i R = some R' → stG bdS Z Z' → rwR n Z' R' → q 1 Z') (q0 : ∀ Z', wyP n T i R = none → stG bdS Z Z' → rwR n Z' R → q 0 Z') : mjW1 (d + 6) 231 [yR 11 464, yI (t : Int), yI (i : Int)] Z q := by
  have h6 := hT.2.1
  have ht := hT.1
  -- a look at a pair of rows
  have look : ∀ (a b : Nat) (Zr : mjZ) (q : Int → mjZ → Prop), a < n → b < n → stG bdS Z Zr → rwR n Zr R → (∀ s Z', stG bdS Z Z' → rwR n Z' R → -1 ≤ s ∧ s ≤ 1 → (s = 0 ↔ bfv n T (R a) (R b) = 0) → q s Z') → mjW1 (d + 5) 232 [yR 11 464, yI (t : Int), yI (a : Int), yI (b : Int)] Zr q := fun a b Zr q ha hb2 y1 y2 hq => by
    have hTr := hT.g y1
    refine fm_signAt (d := d) ht h6 hTr.2.2.1 hTr.2.2.2 (by omega) (by omega) (fun j hj => y2 a j ha hj) (fun j hj => y2 b j hb2 hj) (fun j hj => hb a j ha hj) (fun j hj => hb b j hb2 hj) fun s Z' g1 g2 g3 => hq s Z' (y1.tr (g1.mono fun k hk => by unfold bdS; omega)) (y2.g h6 g1 fun k hk => by omega) g2 g3
  have A : ∀ m x4 Zr, x4 + m = n → i < x4 → stG bdS Z Zr → rwR n Zr R → (∀ k Z', sr (fun k => if bfv n T (R k) (R k) = 0 then none else some k) m x4 = some k → stG bdS Z Z' → rwR n Z' R → k < n → i ≠ k → mjW0 (d + 5) 234 [yR 11 464, yI (n : Int), yI (i : Int), yI (k : Int)] Z' (fun Z5 => q 1 Z5)) → (∀ Z', sr (fun k => if bfv n T (R k) (R k) = 0 then none else some k) m x4 = none → stG bdS Z Z' → rwR n Z' R → mjL_231_63 (d + 5) t i (n : Int) ((i : Int) + 1) Z' q) → mjL_231_24 (d + 5) t i (n : Int) (x4 : Int) Zr q := by
    intro m
    induction m with
    | zero =>
      intro x4 Zr h1 h2 y1 y2 _ kn
      exact mjl_231_24 ⟨by omega, by omega, fun _ => kn Zr rfl y1 y2, fun g => by omega⟩
    | succ m ih =>
      intro x4 Zr h1 h2 y1 y2 ks kn
      refine mjl_231_24 ⟨by omega, by omega, fun g => by omega, fun _ => ?_⟩
      refine look x4 x4 Zr _ (by omega) (by omega) y1 y2 fun s Z' g1 g2 g3 g4 => ⟨by omega, fun e => ?_, fun e => ?_⟩
      · have e2 : (fun k => if bfv n T (R k) (R k) = 0 then none else some k) x4 = none := if_pos (g4.mp e)
        have e3 : sr (fun k => if bfv n T (R k) (R k) = 0 then none else some k) (m + 1) x4 = sr (fun k => if bfv n T (R k) (R k) = 0 then none else some k) m (x4 + 1) := sr_next e2
        exact ih (x4 + 1) Z' (by omega) (by omega) g1 g2 (fun k Z'' hk => ks k Z'' (e3.trans hk)) fun Z'' hk => kn Z'' (e3.trans hk)
      · have e2 : (fun k => if bfv n T (R k) (R k) = 0 then none else some k) x4 = some x4 := if_neg fun k => e (g4.mpr k)
        have e3 : sr (fun k => if bfv n T (R k) (R k) = 0 then none else some k) (m + 1) x4 = some x4 := sr_here e2
        exact ks x4 Z' e3 g1 g2 (by omega) (by omega)
  have B : wyF n T R i = none → ∀ m x4 Zr, x4 + m = n → i < x4 → stG bdS Z Zr → rwR n Zr R → (∀ k, sr (fun k => if bfv n T (R k) (R i) = 0 then none else some k) m x4 = some k → wyA n T R i = some k) → (sr (fun k => if bfv n T (R k) (R i) = 0 then none else some k) m x4 = none → wyA n T R i = none) → mjL_231_63 (d + 5) t i (n : Int) (x4 : Int) Zr q := fun hF => by
    intro m
    induction m with
    | zero =>
      intro x4 Zr h1 h2 y1 y2 _ kn
      refine mjl_231_63 ⟨by omega, by omega, fun _ => q0 Zr ?_ y1 y2, fun g => by omega⟩
      unfold wyP
      rw [hF, kn rfl]
    | succ m ih =>
      intro x4 Zr h1 h2 y1 y2 ks kn
      refine mjl_231_63 ⟨by omega, by omega, fun g => by omega, fun _ => ?_⟩
      refine look i x4 Zr _ hi (by omega) y1 y2 fun s Z' g1 g2 g3 g4 => ⟨by omega, fun e => ?_, fun e => ?_⟩
      · have e2 : (fun k => if bfv n T (R k) (R i) = 0 then none else some k) x4 = none := if_pos (by rw [bfv_symm hS]; exact g4.mp e)
        have e3 : sr (fun k => if bfv n T (R k) (R i) = 0 then none else some k) (m + 1) x4 = sr (fun k => if bfv n T (R k) (R i) = 0 then none else some k) m (x4 + 1) := sr_next e2
        exact ih (x4 + 1) Z' (by omega) (by omega) g1 g2 (fun k hk => ks k (e3.trans hk)) fun hk => kn (e3.trans hk)
      · have e2 : (fun k => if bfv n T (R k) (R i) = 0 then none else some k) x4 = some x4 := if_neg fun k => e (g4.mpr (by rw [bfv_symm hS]; exact k))
        have e3 : sr (fun k => if bfv n T (R k) (R i) = 0 then none else some k) (m + 1) x4 = some x4 := sr_here e2
        refine fm_r83 (d := d + 2) h6 hi (by omega) (by omega) g2 hb fun Z'' f1 f2 => q1 Z'' (wyD i x4 R) ?_ (g1.tr f1) f2
        unfold wyP
        rw [hF, ks x4 e3]
  refine mje_231 (d := d + 5) ⟨by omega, by omega, ?_⟩
  rw [hT.2.2.1]
  have en : n - i = (n - (i + 1)) + 1 := by omega
  refine look i i Z _ hi hi stG.refl hR fun s Z' g1 g2 g3 g4 => ⟨by omega, fun e => ?_, fun e => ?_⟩
  · have e2 : (fun k => if bfv n T (R k) (R k) = 0 then none else some k) i = none := if_pos (g4.mp e)
    have e3 : wyF n T R i = sr (fun k => if bfv n T (R k) (R k) = 0 then none else some k) (n - (i + 1)) (i + 1) := by
      unfold wyF
      rw [en]
      exact sr_next e2
    refine A (n - (i + 1)) (i + 1) Z' (by omega) (by omega) g1 g2 (fun k Z'' hk f1 f2 f3 f4 => ?_) fun Z'' hk f1 f2 => ?_
    · refine fm_exchange (d := d + 3) h6 hi f3 f4 f2 fun Z3 k1 k2 => q1 Z3 (wyX i k R) ?_ (f1.tr k1) k2
      unfold wyP
      rw [e3, hk]
    · exact B (e3.trans hk) (n - (i + 1)) (i + 1) Z'' (by omega) (by omega) f1 f2 (fun k hk => hk) fun hk => hk
  · have e2 : (fun k => if bfv n T (R k) (R k) = 0 then none else some k) i = some i := if_neg fun k => e (g4.mpr k)
    have e3 : wyF n T R i = some i := by
      unfold wyF
      rw [en]
      exact sr_here e2
    refine q1 Z' R ?_ g1 g2
    unfold wyP
    rw [e3]
    exact congrArg some wyX_self
end RD
