/-! The class's way: rows change places, rows are made ready. -/
def rwC (n : Nat) (Z : mjZ) (R : Nat → Nat → Int) : Prop := ∀ l j, l < n → j < n → bgIs 12 Z (Z 343 (6 * l + j)).toNat (R l j)
def wyS (a : Nat) : Prop := 342 ≤ a ∧ a ≤ 458
def wyC (n : Nat) (Z0 Z : mjZ) (R : Nat → Nat → Int) : Prop := wcS wyS Z0 Z ∧ Z 342 0 = (n : Int) ∧ pmC Z ∧ (∃ o t r, dvT 354 Z o t r) ∧ rwC n Z R
section WC
variable {n c : Nat} {T R : Nat → Nat → Int} {Z0 Z : mjZ}
theorem rwC.S {S : Nat → Prop} {Z' : mjZ} (h : rwC n Z R) (h6 : n ≤ 6) (hp : pmC Z) (g : wcS S Z Z') (h343 : ¬ S 343) (hS : ∀ a, S a → a < 387) : rwC n Z' R := fun l j hl hj => by
  obtain ⟨k, k1, k2, k3, k4⟩ := hp.at' (m := 6 * l + j) (by omega)
  rw [g 343 h343]
  exact (h l j hl hj).S g (fun e => by have := hS _ e; omega) fun e => by have := hS _ e; omega
theorem pmC.g {Z' : mjZ} (h : pmC Z) (e : Z' 343 = Z 343) : pmC Z' := by unfold pmC; rw [e]; exact h
theorem wyC.S {S : Nat → Prop} {Z' : mjZ} (h : wyC n Z0 Z R) (h6 : n ≤ 6) (g : wcS S Z Z') (hS : ∀ a, S a → 344 ≤ a ∧ a < 387 ∧ a ≠ 354) : wyC n Z0 Z' R := by
  obtain ⟨h1, h2, h3, ⟨o, t, r, h4⟩, h5⟩ := h
  have n343 : ¬ S 343 := fun e => by have := hS _ e; omega
  refine ⟨h1.tr (g.mono fun a ha => by have := hS a ha; unfold wyS; omega), by rw [g 342 fun e => by have := hS _ e; omega]; exact h2, h3.g (g 343 n343), ⟨o, t, r, h4.cc (g 354 fun e => by have := hS _ e; omega)⟩, h5.S h6 h3 g n343 fun a ha => by have := hS a ha; omega⟩
theorem wyC.lt (h : wyC n Z0 Z R) : ∀ a, a < 342 → Z a = Z0 a := fun a ha => h.1 a (by unfold wyS; omega)
def swp (a b m : Nat) : Nat := if m = a then b else if m = b then a else m
theorem swp_lt {a b m N : Nat} (ha : a < N) (hb : b < N) (hm : m < N) : swp a b m < N := by
  unfold swp
  split
  · exact hb
  · split
    · exact ha
    · exact hm
theorem swp_inj {a b m k : Nat} (h : swp a b m = swp a b k) : m = k := by
  unfold swp at h
  revert h
  repeat' split
  all_goals omega
/-- two references change places -/
theorem up_swp {a b : Nat} (hp : pmC Z) (ha : a < 36) (hb : b < 36) : ∀ m, mjUp (mjUp Z 343 a (((Z 343 b).toNat : Nat) : Int)) 343 b (((Z 343 a).toNat : Nat) : Int) 343 m = Z 343 (swp a b m) := fun m => by
  obtain ⟨k, h1, h2⟩ := hp.1 a ha
  obtain ⟨l, g1, g2⟩ := hp.1 b hb
  have e1 : (((Z 343 a).toNat : Nat) : Int) = Z 343 a := by omega
  have e2 : (((Z 343 b).toNat : Nat) : Int) = Z 343 b := by omega
  rw [e1, e2]
  unfold mjUp swp
  by_cases x : m = b
  · by_cases y : m = a
    · subst x y; simp
    · subst x; simp [y]
  · by_cases y : m = a
    · subst y; simp [x]
    · simp [x, y]
theorem pmC_swp {Z' : mjZ} {a b : Nat} (hp : pmC Z) (ha : a < 36) (hb : b < 36) (h : ∀ m, Z' 343 m = Z 343 (swp a b m)) : pmC Z' := ⟨fun j hj => by rw [h j]; exact hp.1 _ (swp_lt ha hb hj), fun i j hi hj e => by
  rw [h i, h j] at e
  exact swp_inj (hp.2 _ _ (swp_lt ha hb hi) (swp_lt ha hb hj) e)⟩
end WC
section WD
variable {d n c : Nat} {T R : Nat → Nat → Int} {Z0 Z : mjZ}
theorem fw_places {x1 x2 : Nat} {q : mjZ → Prop} (h6 : n ≤ 6) (hx1 : x1 < n) (hx2 : x2 < n) (W : wyC n Z0 Z R) (hq : ∀ Z', wcS (fun a => a = 343) Z Z' → wyC n Z0 Z' (wyX x1 x2 R) → q Z') : mjW0 (d + 1) 131 [yR 8 342, yI (x1 : Int), yI (x2 : Int)] Z q := by
  refine mje_131 ?_
  refine lp_inv (n := n) (a := Z) (L := fun r Zr => mjL_131_2 d x1 x2 r Zr q) (Y := fun r Zr => wcS (fun a => a = 343) Z Zr ∧ pmC Zr ∧ ∀ l j, l < n → j < n → bgIs 12 Zr (Zr 343 (6 * l + j)).toNat (if j < r then wyX x1 x2 R l j else R l j)) (fun r Zr hr hy hL => ?_) (fun Zr hy => ?_) ⟨wcS.rf, W.2.2.1, fun l j hl hj => by rw [if_neg (by omega)]; exact W.2.2.2.2 l j hl hj⟩
  · obtain ⟨y1, y2, y3⟩ := hy
    have e1 : ((x1 : Int) * 6 + (r : Int)).toNat = 6 * x1 + r := by omega
    have e2 : ((x2 : Int) * 6 + (r : Int)).toNat = 6 * x2 + r := by omega
    obtain ⟨k, k1, k2, k3, k4⟩ := y2.at' (m := 6 * x1 + r) (by omega)
    obtain ⟨k', l1, l2, l3, l4⟩ := y2.at' (m := 6 * x2 + r) (by omega)
    refine mjl_131_2 ?_
    rw [y1 342 (by decide), W.2.1, e1, e2]
    refine ⟨by omega, by omega, fun g => by omega, fun _ => ⟨by omega, by omega, k4, by omega, by omega, l4, ?_⟩⟩
    have us := up_swp y2 (a := 6 * x1 + r) (b := 6 * x2 + r) (by omega) (by omega)
    generalize hZ' : mjUp (mjUp Zr 343 (6 * x1 + r) (((Zr 343 (6 * x2 + r)).toNat : Nat) : Int)) 343 (6 * x2 + r) (((Zr 343 (6 * x1 + r)).toNat : Nat) : Int) = Z' at us
    have o : wcS (fun a => a = 343) Zr Z' := fun a ha => by rw [← hZ', mjUp_nc ha, mjUp_nc ha]
    refine hL Z' ⟨y1.tr o, pmC_swp y2 (by omega) (by omega) us, fun l j hl hj => ?_⟩
    rw [us]
    have go : ∀ m v, m < 36 → bgIs 12 Zr (Zr 343 m).toNat v → bgIs 12 Z' (Zr 343 m).toNat v := fun m v hm h => by
      obtain ⟨k, k1, k2, k3, k4⟩ := y2.at' hm
      exact h.S o (by omega) (by omega)
    by_cases g : j = r
    · subst g
      rw [if_pos (by omega)]
      unfold wyX swp
      by_cases c1 : l = x1
      · rw [if_pos c1, if_pos (by omega)]
        have := y3 x2 j hx2 hj
        rw [if_neg (by omega)] at this
        exact go _ _ (by omega) this
      · rw [if_neg c1, if_neg (by omega)]
        by_cases c2 : l = x2
        · rw [if_pos c2, if_pos (by omega)]
          have := y3 x1 j hx1 hj
          rw [if_neg (by omega)] at this
          exact go _ _ (by omega) this
        · rw [if_neg c2, if_neg (by omega)]
          have := y3 l j hl hj
          rw [if_neg (by omega)] at this
          exact go _ _ (by omega) this
    · have e : swp (6 * x1 + r) (6 * x2 + r) (6 * l + j) = 6 * l + j := by
        unfold swp
        rw [if_neg (by omega), if_neg (by omega)]
      rw [e]
      have := y3 l j hl hj
      by_cases k : j < r
      · rw [if_pos k] at this
        rw [if_pos (by omega)]
        exact go _ _ (by omega) this
      · rw [if_neg k] at this
        rw [if_neg (by omega)]
        exact go _ _ (by omega) this
  · obtain ⟨y1, y2, y3⟩ := hy
    refine mjl_131_2 ?_
    rw [y1 342 (by decide), W.2.1]
    refine ⟨by omega, by omega, fun _ => hq Zr y1 ⟨W.1.tr (y1.mono fun a ha => by unfold wyS; omega), by rw [y1 342 (by decide)]; exact W.2.1, y2, ?_, fun l j hl hj => ?_⟩, fun g => by omega⟩
    · obtain ⟨o, t, r, h4⟩ := W.2.2.2.1
      exact ⟨o, t, r, h4.cc (y1 354 (by decide))⟩
    · have := y3 l j hl hj
      rw [if_pos hj] at this
      exact this
theorem lnS_in {a : Nat} (h : lnS a) : 344 ≤ a ∧ a < 387 ∧ a ≠ 354 := by unfold lnS at h; omega
theorem lnIs.S {S : Nat → Prop} {u : Nat → Int} {Z' : mjZ} (h : lnIs n T Z u) (h6 : n ≤ 6) (g : wcS S Z Z') (hS : ∀ a, S a → a < 363 ∨ 387 ≤ a ∨ (a % 4 ≠ 1 ∧ a % 4 ≠ 2)) : lnIs n T Z' u := fun i hi => (h i hi).S g (fun e => by have := hS _ e; omega) fun e => by have := hS _ e; omega
theorem fw_pivot {i : Nat} {q : Int → mjZ → Prop} (hT : ctT n c T Z0) (W : wyC n Z0 Z R) (hi : i < n) (hb : ∀ l j, l < n → j < n → bgA (R l j) ≤ wX) (q1 : ∀ k Z', wyF n T R i = some k → wyC n Z0 Z' (wyX i k R) → lnIs n T Z' (R k) → bgIs 12 Z' 346 (bfv n T (R k) (R k)) → q 1 Z') (q0 : ∀ Z', wyF n T R i = none → wyC n Z0 Z' R → q 0 Z') : mjW1 (d + 6) 128 [yR 8 342, yR 6 c, yI (i : Int)] Z q := by
  have h6 := hT.1.2.2
  have A : ∀ m x3 Zr, x3 + m = n → wyC n Z0 Zr R → (∀ k, sr (fun k => if bfv n T (R k) (R k) = 0 then none else some k) m x3 = some k → wyF n T R i = some k) → (sr (fun k => if bfv n T (R k) (R k) = 0 then none else some k) m x3 = none → wyF n T R i = none) → mjL_128_2 (d + 5) c i (x3 : Int) Zr q := by
    intro m
    induction m with
    | zero =>
      intro x3 Zr h1 W _ kn
      refine mjl_128_2 ?_
      rw [W.2.1]
      exact ⟨by omega, by omega, fun _ => q0 Zr (kn rfl) W, fun g => by omega⟩
    | succ m ih =>
      intro x3 Zr h1 W ks kn
      refine mjl_128_2 ?_
      rw [W.2.1]
      refine ⟨by omega, by omega, fun g => by omega, fun _ => ?_⟩
      have hx3 : x3 < n := by omega
      refine fw_lean (d := d) (u := R x3) (hT.g W.lt) W.2.1 W.2.2.1 hx3 (fun j hj => W.2.2.2.2 x3 j hx3 hj) (fun j hj => hb x3 j hx3 hj) fun Z3 a1 a2 => ?_
      have W3 := W.S h6 a1 fun a ha => lnS_in ha
      refine fw_meet (d := d) (u := R x3) (v := R x3) h6 (fun i k g1 g2 => (hT.2.2 i k g1 g2).2) W3.2.1 W3.2.2.1 hx3 (Or.inl rfl) wB_own.1 (fun j hj => W3.2.2.2.2 x3 j hx3 hj) a2 (fun j hj => hb x3 j hx3 hj) (fun j hj => hb x3 j hx3 hj) fun Z4 b1 b2 => ?_
      have W4 := W3.S h6 b1 fun a ha => by omega
      have ln4 := a2.S h6 b1 fun a ha => by omega
      have sg := b2.sg
      refine ⟨by rw [sg]; repeat' split
                 all_goals omega, fun e => ?_, fun e => ?_⟩
      · have hz : bfv n T (R x3) (R x3) = 0 := by
          rw [sg] at e
          revert e
          repeat' split
          all_goals omega
        have e3 := sr_next (P := fun k => if bfv n T (R k) (R k) = 0 then none else some k) (m := m) (i := x3) (if_pos hz)
        exact ih (x3 + 1) Z4 (by omega) W4 (fun k hk => ks k (e3.trans hk)) fun hk => kn (e3.trans hk)
      · have hz : bfv n T (R x3) (R x3) ≠ 0 := fun k => e (by rw [sg, k]; rfl)
        have e3 := sr_here (P := fun k => if bfv n T (R k) (R k) = 0 then none else some k) (m := m) (i := x3) (b := x3) (if_neg hz)
        refine fw_places (d := d + 4) h6 hi hx3 W4 fun Z6 c1 c2 => q1 x3 Z6 (ks x3 e3) c2 (ln4.S h6 c1 fun a ha => by omega) (b2.S c1 (by decide) (by decide))
  exact mje_128 (A (n - i) i Z (by omega) W (fun k h => h) fun h => h)
theorem fw_addp {i : Nat} {q : Int → mjZ → Prop} (hT : ctT n c T Z0) (W : wyC n Z0 Z R) (hi : i < n) (hb : ∀ l j, l < n → j < n → bgA (R l j) ≤ wX) (hb2 : ∀ k, wyA n T R i = some k → ∀ j, j < n → bgA (R i j + R k j) ≤ wX) (q1 : ∀ k Z', wyA n T R i = some k → wyC n Z0 Z' (wyD i k R) → lnIs n T Z' (wyD i k R i) → bgIs 12 Z' 346 (bfv n T (wyD i k R i) (wyD i k R i)) → q 1 Z') (q0 : ∀ Z', wyA n T R i = none → wyC n Z0 Z' R → q 0 Z') : mjW1 (d + 6) 132 [yR 8 342, yR 6 c, yI (i : Int)] Z q := by
  have h6 := hT.1.2.2
  have hX : wX < bgP 12 := by decide +kernel
  have hTb : ∀ i k, i < n → k < n → -100 ≤ T i k ∧ T i k ≤ 100 := fun i k g1 g2 => (hT.2.2 i k g1 g2).2
  -- the rows added, then lean and meet once more
  have B : ∀ k Zr, wyA n T R i = some k → wyC n Z0 Zr R → mjL_132_40 (d + 5) c i (k : Int) 0 Zr q := fun k Zr hA W => by
    obtain ⟨k1, k2, k3⟩ := wyA_some hA
    have e0 : wyD i k R i = fun j => R i j + R k j := if_pos rfl
    have bD : ∀ j, j < n → bgA (wyD i k R i j) ≤ wX := fun j hj => by rw [e0]; exact hb2 k hA j hj
    refine lp_inv (n := n) (a := Zr) (L := fun r Zs => mjL_132_40 (d + 5) c i (k : Int) r Zs q) (Y := fun r Zs => wcS (fun a => 387 ≤ a ∧ a ≤ 458) Zr Zs ∧ (∀ l j, l < n → j < r → bgIs 12 Zs (Zr 343 (6 * l + j)).toNat (wyD i k R l j)) ∧ ∀ l j, l < n → r ≤ j → j < n → bgIs 12 Zs (Zr 343 (6 * l + j)).toNat (R l j)) (fun r Zs hr hy hL => ?_) (fun Zs hy => ?_) ⟨wcS.rf, fun l j _ hj => by omega, fun l j hl _ hj => W.2.2.2.2 l j hl hj⟩
    · obtain ⟨y1, y2, y3⟩ := hy
      have e1 : ((i : Int) * 6 + (r : Int)).toNat = 6 * i + r := by omega
      have e2 : ((k : Int) * 6 + (r : Int)).toNat = 6 * k + r := by omega
      have ne : ∀ l j, l < n → j < n → l ≠ i ∨ j ≠ r → bgX (Zr 343 (6 * i + r)).toNat (Zr 343 (6 * l + j)).toNat := fun l j hl hj h => by
        obtain ⟨a, a1, a2, a3, a4⟩ := W.2.2.1.at' (m := 6 * i + r) (by omega)
        obtain ⟨b, b1, b2, b3, b4⟩ := W.2.2.1.at' (m := 6 * l + j) (by omega)
        have := W.2.2.1.ne (a := 6 * i + r) (b := 6 * l + j) (by omega) (by omega) (by omega)
        unfold bgX
        omega
      obtain ⟨a, a1, a2, a3, a4⟩ := W.2.2.1.at' (m := 6 * i + r) (by omega)
      obtain ⟨b, b1, b2, b3, b4⟩ := W.2.2.1.at' (m := 6 * k + r) (by omega)
      refine mjl_132_40 ?_
      rw [y1 342 (by omega), W.2.1, e1, e2, y1 343 (by omega)]
      refine ⟨by omega, by omega, fun g => by omega, fun _ => ⟨by omega, by omega, a4, by omega, by omega, b4, ?_⟩⟩
      have q3 := hb k r k2 hr
      have q4 := hb2 k hA r hr
      refine bg_add (d := d + 1) (s := 1) a3 b3 (ne k r k2 hr (Or.inl (by omega))) (y3 i r hi (Nat.le_refl r) hr) (y3 k r k2 (Nat.le_refl r) hr) (Or.inr rfl) (by rw [Int.one_mul]; omega) (by omega) fun Z9 f1 f2 => hL Z9 ⟨y1.tr (f1.S (by omega) (by omega)), fun l j hl hj => ?_, fun l j hl g1 g2 => (y3 l j hl (by omega) g2).O f1 (ne l j hl g2 (Or.inr (by omega)))⟩
      by_cases g : l = i ∧ j = r
      · rw [g.1, g.2, e0]
        rw [Int.one_mul] at f2
        exact f2
      · have o := ne l j hl (by omega) (by omega)
        rcases Nat.lt_or_ge j r with x | x
        · exact (y2 l j hl x).O f1 o
        · have ej : j = r := by omega
          have el : wyD i k R l = R l := if_neg (by omega)
          rw [el]
          exact (y3 l j hl (by omega) (by omega)).O f1 o
    · obtain ⟨y1, y2, y3⟩ := hy
      have e342 : Zs 342 = Zr 342 := y1 342 (by omega)
      have e343 : Zs 343 = Zr 343 := y1 343 (by omega)
      have Ws : wyC n Z0 Zs (wyD i k R) := ⟨W.1.tr (y1.mono fun a ha => by unfold wyS; omega), by rw [e342]; exact W.2.1, W.2.2.1.g e343, by
        obtain ⟨o, t, r, h4⟩ := W.2.2.2.1
        exact ⟨o, t, r, h4.cc (y1 354 (by omega))⟩, fun l j hl hj => by rw [e343]; exact y2 l j hl hj⟩
      refine mjl_132_40 ?_
      rw [e342, W.2.1]
      refine ⟨by omega, by omega, fun _ => ?_, fun g => by omega⟩
      refine fw_lean (d := d) (u := wyD i k R i) (hT.g Ws.lt) Ws.2.1 Ws.2.2.1 hi (fun j hj => Ws.2.2.2.2 i j hi hj) bD fun Z3 a1 a2 => ?_
      have W3 := Ws.S h6 a1 fun a ha => lnS_in ha
      refine fw_meet (d := d) (u := wyD i k R i) (v := wyD i k R i) h6 hTb W3.2.1 W3.2.2.1 hi (Or.inl rfl) wB_own.1 (fun j hj => W3.2.2.2.2 i j hi hj) a2 bD bD fun Z4 b1 b2 => ?_
      exact q1 k Z4 hA (W3.S h6 b1 fun a ha => by omega) (a2.S h6 b1 fun a ha => by omega) b2
  have A : ∀ m x3 Zr, x3 + m = n → wyC n Z0 Zr R → lnIs n T Zr (R i) → (∀ k, sr (fun k => if bfv n T (R k) (R i) = 0 then none else some k) m x3 = some k → wyA n T R i = some k) → (sr (fun k => if bfv n T (R k) (R i) = 0 then none else some k) m x3 = none → wyA n T R i = none) → mjL_132_10 (d + 5) c i (x3 : Int) Zr q := by
    intro m
    induction m with
    | zero =>
      intro x3 Zr h1 W _ _ kn
      refine mjl_132_10 ?_
      rw [W.2.1]
      exact ⟨by omega, by omega, fun _ => q0 Zr (kn rfl) W, fun g => by omega⟩
    | succ m ih =>
      intro x3 Zr h1 W ln ks kn
      refine mjl_132_10 ?_
      rw [W.2.1]
      refine ⟨by omega, by omega, fun g => by omega, fun _ => ?_⟩
      have hx3 : x3 < n := by omega
      refine fw_meet (d := d) (u := R i) (v := R x3) h6 hTb W.2.1 W.2.2.1 hx3 (Or.inr (Or.inl rfl)) wB_own.2.1 (fun j hj => W.2.2.2.2 x3 j hx3 hj) ln (fun j hj => hb x3 j hx3 hj) (fun j hj => hb i j hi hj) fun Z4 b1 b2 => ?_
      have W4 := W.S h6 b1 fun a ha => by omega
      have ln4 := ln.S h6 b1 fun a ha => by omega
      have sg := b2.sg
      refine ⟨by rw [sg]; repeat' split
                 all_goals omega, fun e => ?_, fun e => ?_⟩
      · have hz : bfv n T (R x3) (R i) = 0 := by
          rw [sg] at e
          revert e
          repeat' split
          all_goals omega
        have e3 := sr_next (P := fun k => if bfv n T (R k) (R i) = 0 then none else some k) (m := m) (i := x3) (if_pos hz)
        exact ih (x3 + 1) Z4 (by omega) W4 ln4 (fun k hk => ks k (e3.trans hk)) fun hk => kn (e3.trans hk)
      · have hz : bfv n T (R x3) (R i) ≠ 0 := fun k => e (by rw [sg, k]; rfl)
        have e3 := sr_here (P := fun k => if bfv n T (R k) (R i) = 0 then none else some k) (m := m) (i := x3) (b := x3) (if_neg hz)
        exact B x3 Z4 (ks x3 e3) W4
  refine mje_132 (d := d + 5) (fw_lean (d := d) (u := R i) (hT.g W.lt) W.2.1 W.2.2.1 hi (fun j hj => W.2.2.2.2 i j hi hj) (fun j hj => hb i j hi hj) fun Z3 a1 a2 => ?_)
  exact A (n - (i + 1)) (i + 1) Z3 (by omega) (W.S h6 a1 fun a ha => lnS_in ha) a2 (fun k h => h) fun h => h
end WD
