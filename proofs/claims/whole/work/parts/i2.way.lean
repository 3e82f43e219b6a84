/-! The class's way: clear, lighten. -/
def wySet (l : Nat) (v : Nat → Int) (R : Nat → Nat → Int) : Nat → Nat → Int := fun k => if k = l then v else R k
section WE
variable {d n c : Nat} {T R : Nat → Nat → Int} {Z0 Z : mjZ}
theorem wyC.dv {Z' : mjZ} {t : Nat} (h : wyC n Z0 Z R) (h6 : n ≤ 6) (ht : 344 ≤ t ∧ t < 353) (g : ∀ k, k ≠ t → k ≠ t + 1 → k < 354 ∨ 354 + 8 < k → Z' k = Z k) (hv : ∃ o s r, dvT 354 Z' o s r) : wyC n Z0 Z' R := by
  obtain ⟨h1, h2, h3, h4, h5⟩ := h
  have e343 : Z' 343 = Z 343 := g 343 (by omega) (by omega) (by omega)
  refine ⟨fun a ha => ?_, by rw [g 342 (by omega) (by omega) (by omega)]; exact h2, h3.g e343, hv, fun l j hl hj => ?_⟩
  · rw [g a (by unfold wyS at ha; omega) (by unfold wyS at ha; omega) (by unfold wyS at ha; omega)]
    exact h1 a ha
  · obtain ⟨k, k1, k2, k3, k4⟩ := h3.at' (m := 6 * l + j) (by omega)
    rw [e343]
    exact bgIs_congr (h5 l j hl hj) (g _ (by omega) (by omega) (by omega)) (g _ (by omega) (by omega) (by omega))
theorem lnIs.dv {u : Nat → Int} {Z' : mjZ} {t : Nat} (h : lnIs n T Z u) (h6 : n ≤ 6) (ht : t < 353) (g : ∀ k, k ≠ t → k ≠ t + 1 → k < 354 ∨ 354 + 8 < k → Z' k = Z k) : lnIs n T Z' u := fun i hi => bgIs_congr (h i hi) (g _ (by omega) (by omega) (by omega)) (g _ (by omega) (by omega) (by omega))
theorem fw_clearL {i l : Nat} {al be : Int} {q : Int → mjZ → Prop} (h6 : n ≤ 6) (hi : i < n) (hl : l < n) (hil : i ≠ l) (W : wyC n Z0 Z R) (h350 : bgIs 12 Z 350 al) (h348 : bgIs 12 Z 348 be) (q3 : ∀ j, j < n → bgA (al * R l j) < bgP 12 ∧ bgA (be * R i j) < bgP 12 ∧ bgA (al * R l j - be * R i j) < bgP 12) (hq : ∀ Z', wcS (fun a => a = 352 ∨ a = 353 ∨ (387 ≤ a ∧ a ≤ 458)) Z Z' → wyC n Z0 Z' (wySet l (fun j => al * R l j - be * R i j) R) → q 1 Z') : mjL_133_94 (d + 4) i l 0 Z q := by
  have hp := W.2.2.1
  refine lp_inv (n := n) (a := Z) (L := fun r Zr => mjL_133_94 (d + 4) i l r Zr q) (Y := fun r Zr => wcS (fun a => a = 352 ∨ a = 353 ∨ (387 ≤ a ∧ a ≤ 458)) Z Zr ∧ ∀ k j, k < n → j < n → bgIs 12 Zr (Z 343 (6 * k + j)).toNat (if k = l ∧ j < r then al * R l j - be * R i j else R k j)) (fun r Zr hr hy hL => ?_) (fun Zr hy => ?_) ⟨wcS.rf, fun k j hk hj => by rw [if_neg (by omega)]; exact W.2.2.2.2 k j hk hj⟩
  · obtain ⟨y1, y2⟩ := hy
    have e1 : ((i : Int) * 6 + (r : Int)).toNat = 6 * i + r := by omega
    have e2 : ((l : Int) * 6 + (r : Int)).toNat = 6 * l + r := by omega
    obtain ⟨a, a1, a2, a3, a4⟩ := hp.at' (m := 6 * i + r) (by omega)
    obtain ⟨b, b1, b2, b3, b4⟩ := hp.at' (m := 6 * l + r) (by omega)
    have ne : ∀ k j, k < n → j < n → k ≠ l ∨ j ≠ r → bgX (Z 343 (6 * l + r)).toNat (Z 343 (6 * k + j)).toNat := fun k j hk hj h => by
      obtain ⟨c, c1, c2, c3, c4⟩ := hp.at' (m := 6 * k + j) (by omega)
      have := hp.ne (a := 6 * l + r) (b := 6 * k + j) (by omega) (by omega) (by omega)
      unfold bgX
      omega
    have x352 : ∀ m, m < 36 → bgX 352 (Z 343 m).toNat := fun m hm => by
      obtain ⟨c, c1, c2, c3, c4⟩ := hp.at' hm
      unfold bgX
      omega
    have al' : bgIs 12 Zr 350 al := h350.S y1 (by omega) (by omega)
    have be' : bgIs 12 Zr 348 be := h348.S y1 (by omega) (by omega)
    have vr := y2 l r hl hr
    rw [if_neg (by omega)] at vr
    have ur := y2 i r hi hr
    rw [if_neg (by omega)] at ur
    obtain ⟨p1, p2, p3⟩ := q3 r hr
    refine mjl_133_94 ?_
    rw [y1 342 (by omega), W.2.1, e1, e2, y1 343 (by omega)]
    refine ⟨by omega, by omega, fun g => by omega, fun _ => ⟨by omega, by omega, b4, ?_⟩⟩
    refine bg_product (d := d + 1) wB_own.2.2.2.1 b3 wB_own.2.2.1 (x352 _ (by omega)) (by unfold bgX; omega) vr al' (Nat.le_refl 12) (by rw [Int.mul_comm]; exact p1) fun Z6 f1 f2 => ?_
    rw [f1 343 (by decide) (by decide), y1 343 (by omega)]
    refine ⟨by omega, by omega, a4, ?_⟩
    refine bg_product (d := d + 1) b3 a3 wB_own.2.1 (ne i r hi hr (Or.inl hil)) (by unfold bgX; omega) (ur.O f1 (x352 _ (by omega))) (be'.O f1 (by unfold bgX; omega)) (Nat.le_refl 12) (by rw [Int.mul_comm]; exact p2) fun Z10 g1 g2 => ?_
    have ev : R l r * al + -1 * (R i r * be) = al * R l r - be * R i r := by grind
    refine bg_add (d := d) (s := -1) wB_own.2.2.2.1 b3 (x352 _ (by omega)) (f2.O g1 (by unfold bgX; omega)) g2 (Or.inl rfl) (by rw [ev]; exact p3) (by rw [Int.mul_comm]; exact p2) fun Z11 k1 k2 => ?_
    rw [ev] at k2
    refine bg_copy (d := d + 2) b3 wB_own.2.2.2.1 (by unfold bgX; omega) k2 p3 fun Z12 m1 m2 => hL Z12 ⟨?_, fun k j hk hj => ?_⟩
    · exact y1.tr ((f1.S (Or.inl rfl) (Or.inr (Or.inl rfl))).tr ((g1.S (by omega) (by omega)).tr ((k1.S (Or.inl rfl) (Or.inr (Or.inl rfl))).tr (m1.S (by omega) (by omega)))))
    · by_cases g : k = l ∧ j = r
      · rw [if_pos (by omega), g.1, g.2]
        exact m2
      · have o := ne k j hk hj (by omega)
        have e : (if k = l ∧ j < r + 1 then al * R l j - be * R i j else R k j) = if k = l ∧ j < r then al * R l j - be * R i j else R k j := by
          by_cases x : k = l ∧ j < r
          · rw [if_pos x, if_pos (by omega)]
          · rw [if_neg x, if_neg (by omega)]
        rw [e]
        exact (((((y2 k j hk hj).O f1 (x352 _ (by omega))).O g1 o).O k1 (x352 _ (by omega))).O m1 o)
  · obtain ⟨y1, y2⟩ := hy
    refine mjl_133_94 ?_
    rw [y1 342 (by omega), W.2.1]
    refine ⟨by omega, by omega, fun _ => hq Zr y1 ?_, fun g => by omega⟩
    have e343 : Zr 343 = Z 343 := y1 343 (by omega)
    refine ⟨W.1.tr (y1.mono fun a ha => by unfold wyS; omega), by rw [y1 342 (by omega)]; exact W.2.1, hp.g e343, by
      obtain ⟨o, t, r, h4⟩ := W.2.2.2.1
      exact ⟨o, t, r, h4.cc (y1 354 (by omega))⟩, fun k j hk hj => ?_⟩
    rw [e343]
    have := y2 k j hk hj
    unfold wySet
    by_cases g : k = l
    · rw [if_pos ⟨g, hj⟩] at this
      rw [if_pos g]
      exact this
    · rw [if_neg (by omega)] at this
      rw [if_neg g]
      exact this
theorem fw_clear {i l : Nat} {q : Int → mjZ → Prop} (h6 : n ≤ 6) (hTb : ∀ i k, i < n → k < n → -100 ≤ T i k ∧ T i k ≤ 100) (hi : i < n) (hl : l < n) (hil : i ≠ l) (W : wyC n Z0 Z R) (ln : lnIs n T Z (R i)) (h346 : bgIs 12 Z 346 (bfv n T (R i) (R i))) (hB : bfv n T (R i) (R i) ≠ 0) (ha : ∀ j, j < n → bgA (R i j) ≤ wY) (hb : ∀ j, j < n → bgA (R l j) ≤ wY) (q0 : ∀ Z', bfv n T (R l) (R i) = 0 → wyC n Z0 Z' R → lnIs n T Z' (R i) → bgIs 12 Z' 346 (bfv n T (R i) (R i)) → q 0 Z') (q1 : ∀ Z', bfv n T (R l) (R i) ≠ 0 → wyC n Z0 Z' (wySet l (wyV n T (R i) (R l)) R) → lnIs n T Z' (R i) → bgIs 12 Z' 346 (bfv n T (R i) (R i)) → q 1 Z') : mjW1 (d + 7) 133 [yR 8 342, yI (i : Int), yI (l : Int)] Z q := by
  have hX := wX_f
  have hY := wY_f
  obtain ⟨w1, w2, w3, w4, w5⟩ := wB_own
  refine mje_133 (d := d + 6) (fw_meet (d := d + 1) (u := R i) (v := R l) h6 hTb W.2.1 W.2.2.1 hl (Or.inr (Or.inl rfl)) w2 (fun j hj => W.2.2.2.2 l j hl hj) ln (fun j hj => by have := hb j hj; omega) (fun j hj => by have := ha j hj; omega) fun Z1 a1 a2 => ?_)
  have W1 := W.S h6 a1 fun a ha => by omega
  have ln1 := ln.S h6 a1 fun a ha => by omega
  have p1 : bgIs 12 Z1 346 (bfv n T (R i) (R i)) := h346.S a1 (by decide) (by decide)
  have sg := a2.sg
  refine ⟨by rw [sg]; repeat' split
             all_goals omega, fun e => ?_, fun e => ?_⟩
  · have hC : bfv n T (R l) (R i) ≠ 0 := fun k => e (by rw [sg, k]; rfl)
    obtain ⟨al, be, g, g0, g1, g2, g3, g4, g5, g6, g7⟩ := wyV_bd h6 (show 0 ≤ wY by omega) hTb ha hb hB
    obtain ⟨o, s, r, dv1⟩ := W1.2.2.2.1
    have hB2 := bfv_bd6 h6 (show 0 ≤ wY by omega) hTb ha ha
    refine bg_gcd (d := d) w5 dv1 w1 w2 w3 (by unfold dvE; omega) (by unfold dvE; omega) (by unfold dvE; omega) p1 a2 fun Z3 o s r b1 dv3 b2 => ?_
    have b2' : bgIs 12 Z3 350 g := by rw [← g1]; exact b2
    have W3 := W1.dv h6 (by decide) b1 ⟨o, s, r, dv3⟩
    have ln3 := ln1.dv h6 (by decide) b1
    have p3 : bgIs 12 Z3 346 (bfv n T (R i) (R i)) := bgIs_congr p1 (b1 346 (by decide) (by decide) (by decide)) (b1 347 (by decide) (by decide) (by decide))
    have c3 : bgIs 12 Z3 348 (bfv n T (R l) (R i)) := bgIs_congr a2 (b1 348 (by decide) (by decide) (by decide)) (b1 349 (by decide) (by decide) (by decide))
    refine dv_divideX (d := d + 1) w5 dv3 w2 w3 (by unfold bgX; decide) (by unfold dvE; omega) (by unfold dvE; omega) c3 b2' fun Z4 f1 dv4 f2 => ?_
    rw [g3, Int.mul_tdiv_cancel be g0] at f2
    have W4 := W3.dv h6 (by decide) f1 ⟨o, s, r, dv4⟩
    have ln4 := ln3.dv h6 (by decide) f1
    have p4 : bgIs 12 Z4 346 (bfv n T (R i) (R i)) := bgIs_congr p3 (f1 346 (by decide) (by decide) (by decide)) (f1 347 (by decide) (by decide) (by decide))
    have g4' : bgIs 12 Z4 350 g := bgIs_congr b2' (f1 350 (by decide) (by decide) (by decide)) (f1 351 (by decide) (by decide) (by decide))
    refine bg_copy (d := d + 4) w4 w1 (by unfold bgX; decide) p4 (by omega) fun Z5 k1 k2 => ?_
    have s5 : wcS (fun a => a = 352 ∨ a = 353) Z4 Z5 := k1.S (Or.inl rfl) (Or.inr rfl)
    have W5 := W4.S h6 s5 fun a ha => by omega
    have ln5 := ln4.S h6 s5 fun a ha => by omega
    have p5 := p4.S s5 (by decide) (by decide)
    have be5 := f2.S s5 (by decide) (by decide)
    have g5' := g4'.S s5 (by decide) (by decide)
    refine dv_divideX (d := d + 1) w5 (dv4.cc (s5 354 (by decide))) w4 w3 (by unfold bgX; decide) (by unfold dvE; omega) (by unfold dvE; omega) k2 g5' fun Z6 l1 dv6 l2 => ?_
    rw [g2, Int.mul_tdiv_cancel al g0] at l2
    have W6 := W5.dv h6 (by decide) l1 ⟨o, s, r, dv6⟩
    have ln6 := ln5.dv h6 (by decide) l1
    have p6 : bgIs 12 Z6 346 (bfv n T (R i) (R i)) := bgIs_congr p5 (l1 346 (by decide) (by decide) (by decide)) (l1 347 (by decide) (by decide) (by decide))
    have be6 : bgIs 12 Z6 348 be := bgIs_congr be5 (l1 348 (by decide) (by decide) (by decide)) (l1 349 (by decide) (by decide) (by decide))
    refine bg_copy (d := d + 4) w3 w4 (by unfold bgX; decide) l2 (by omega) fun Z7 m1 m2 => ?_
    have s7 : wcS (fun a => a = 350 ∨ a = 351) Z6 Z7 := m1.S (Or.inl rfl) (Or.inr rfl)
    have W7 := W6.S h6 s7 fun a ha => by omega
    have ln7 := ln6.S h6 s7 fun a ha => by omega
    have p7 := p6.S s7 (by decide) (by decide)
    have be7 := be6.S s7 (by decide) (by decide)
    have VV : wyV n T (R i) (R l) = fun j => al * R l j - be * R i j := funext g6
    refine fw_clearL (d := d + 2) h6 hi hl hil W7 m2 be7 (fun j hj => ?_) fun Z8 n1 n2 => q1 Z8 hC (by rw [VV]; exact n2) (ln7.S h6 n1 fun a ha => by omega) (p7.S n1 (by omega) (by omega))
    have k := g7 j hj
    have k2 := @bgA_le (al * R l j) (-(be * R i j))
    have k3 : bgA (-(be * R i j)) = bgA (be * R i j) := by unfold bgA; repeat' split <;> omega
    have k4 := bgA_nn (al * R l j)
    rw [Int.sub_eq_add_neg]
    omega
  · have hC : bfv n T (R l) (R i) = 0 := by
      by_cases k : bfv n T (R l) (R i) = 0
      · exact k
      · exfalso
        apply e
        rw [sg]
        repeat' split
        all_goals omega
    exact q0 Z1 hC W1 ln1 p1
theorem fw_light {l : Nat} {u : Nat → Int} {B : Int} {q : mjZ → Prop} (h6 : n ≤ 6) (hl : l < n) (W : wyC n Z0 Z R) (ln : lnIs n T Z u) (h346 : bgIs 12 Z 346 B) (hc : cnt n (R l) ≠ 0) (hq : ∀ Z', wyC n Z0 Z' (wySet l (fun j => R l j / (cnt n (R l) : Int)) R) → lnIs n T Z' u → bgIs 12 Z' 346 B → q Z') : mjW0 (d + 7) 137 [yR 8 342, yI (l : Int)] Z q := by
  obtain ⟨w1, w2, w3, w4, w5⟩ := wB_own
  refine mje_137 (d := d + 6) (bg_become (d := d + 3) w3 (by decide) fun Z1 a1 a2 => ?_)
  have s1 : wcS (fun a => a = 350 ∨ a = 351) Z Z1 := a1.S (Or.inl rfl) (Or.inr rfl)
  refine lp_inv (n := n) (a := Z1) (L := fun r Zr => mjL_137_10 (d + 6) l r Zr q) (Y := fun r Zr => wyC n Z0 Zr R ∧ lnIs n T Zr u ∧ bgIs 12 Zr 346 B ∧ bgIs 12 Zr 350 (cnt r (R l) : Int)) (fun r Zr hr hy hL => ?_) (fun Zr hy => ?_) ⟨W.S h6 s1 fun a ha => by omega, ln.S h6 s1 fun a ha => by omega, h346.S s1 (by decide) (by decide), a2⟩
  · obtain ⟨y1, y2, y3, y4⟩ := hy
    have e2 : ((l : Int) * 6 + (r : Int)).toNat = 6 * l + r := by omega
    obtain ⟨b, b1, b2, b3, b4⟩ := y1.2.2.1.at' (m := 6 * l + r) (by omega)
    obtain ⟨o, s, t, dv1⟩ := y1.2.2.2.1
    refine mjl_137_10 ?_
    rw [y1.2.1, e2]
    refine ⟨by omega, by omega, fun g => by omega, fun _ => ⟨by omega, by omega, b4, ?_⟩⟩
    refine bg_gcd (d := d) w5 dv1 b3 w3 w3 (by unfold dvE; omega) (by unfold dvE; omega) (by unfold dvE; omega) (y1.2.2.2.2 l r hl hr) y4 fun Z3 o s t c1 dv3 c2 => hL Z3 ⟨y1.dv h6 (by decide) c1 ⟨o, s, t, dv3⟩, y2.dv h6 (by decide) c1, bgIs_congr y3 (c1 346 (by decide) (by decide) (by decide)) (c1 347 (by decide) (by decide) (by decide)), c2⟩
  · obtain ⟨y1, y2, y3, y4⟩ := hy
    have hp := y1.2.2.1
    refine mjl_137_10 ?_
    rw [y1.2.1]
    refine ⟨by omega, by omega, fun _ => ?_, fun g => by omega⟩
    refine lp_inv (n := n) (a := Zr) (L := fun r Zs => mjL_137_52 (d + 6) l r Zs q) (Y := fun r Zs => wcS (fun a => (354 ≤ a ∧ a ≤ 362) ∨ (387 ≤ a ∧ a ≤ 458)) Zr Zs ∧ (∃ o s t, dvT 354 Zs o s t) ∧ ∀ k j, k < n → j < n → bgIs 12 Zs (Zr 343 (6 * k + j)).toNat (if k = l ∧ j < r then R l j / (cnt n (R l) : Int) else R k j)) (fun r Zs hr hy hL => ?_) (fun Zs hy => ?_) ⟨wcS.rf, y1.2.2.2.1, fun k j hk hj => by rw [if_neg (by omega)]; exact y1.2.2.2.2 k j hk hj⟩
    · obtain ⟨z1, ⟨o, s, t, z2⟩, z3⟩ := hy
      have e2 : ((l : Int) * 6 + (r : Int)).toNat = 6 * l + r := by omega
      obtain ⟨b, b1, b2, b3, b4⟩ := hp.at' (m := 6 * l + r) (by omega)
      have row := z3 l r hl hr
      rw [if_neg (by omega)] at row
      refine mjl_137_52 ?_
      rw [z1 342 (by omega), y1.2.1, e2, z1 343 (by omega)]
      refine ⟨by omega, by omega, fun g => by omega, fun _ => ⟨by omega, by omega, b4, ?_⟩⟩
      refine dv_divideX (d := d + 1) w5 z2 b3 w3 (by unfold bgX; omega) (by unfold dvE; omega) (by unfold dvE; omega) row (y4.S z1 (by omega) (by omega)) fun Z6 c1 dv6 c2 => hL Z6 ⟨?_, ⟨o, s, t, dv6⟩, fun k j hk hj => ?_⟩
      · exact z1.tr fun a ha => c1 a (by omega) (by omega) (by omega)
      · rw [Int.tdiv_eq_ediv_of_dvd (cnt_dvd n r hr)] at c2
        by_cases g : k = l ∧ j = r
        · rw [if_pos (by omega), g.1, g.2]
          exact c2
        · obtain ⟨b', b1', b2', b3', b4'⟩ := hp.at' (m := 6 * k + j) (by omega)
          have := hp.ne (a := 6 * l + r) (b := 6 * k + j) (by omega) (by omega) (by omega)
          have e : (if k = l ∧ j < r + 1 then R l j / (cnt n (R l) : Int) else R k j) = if k = l ∧ j < r then R l j / (cnt n (R l) : Int) else R k j := by
            by_cases x : k = l ∧ j < r
            · rw [if_pos x, if_pos (by omega)]
            · rw [if_neg x, if_neg (by omega)]
          rw [e]
          exact bgIs_congr (z3 k j hk hj) (c1 _ (by omega) (by omega) (by omega)) (c1 _ (by omega) (by omega) (by omega))
    · obtain ⟨z1, z2, z3⟩ := hy
      have e343 : Zs 343 = Zr 343 := z1 343 (by omega)
      refine mjl_137_52 ?_
      rw [z1 342 (by omega), y1.2.1]
      refine ⟨by omega, by omega, fun _ => hq Zs ⟨y1.1.tr (z1.mono fun a ha => by unfold wyS; omega), by rw [z1 342 (by omega)]; exact y1.2.1, hp.g e343, z2, fun k j hk hj => ?_⟩ (y2.S h6 z1 fun a ha => by omega) (y3.S z1 (by omega) (by omega)), fun g => by omega⟩
      rw [e343]
      have := z3 k j hk hj
      unfold wySet
      by_cases g : k = l
      · rw [if_pos ⟨g, hj⟩] at this
        rw [if_pos g]
        exact this
      · rw [if_neg (by omega)] at this
        rw [if_neg g]
        exact this
end WE
