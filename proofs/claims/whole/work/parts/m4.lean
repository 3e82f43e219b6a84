/-! The class: the rest of one polynomial by the next. -/
theorem tw_row {r i : Nat} (hr : r = 266 ∨ r = 281 ∨ r = 296) (hi : i < 7) : bgR (r + 1 + 2 * i) 40 := by
  have h1 : ∀ i : Fin 7, mjNn 100 (266 + 1 + 2 * i.val + 1) = 40 ∧ mjNn 100 (281 + 1 + 2 * i.val + 1) = 40 ∧ mjNn 100 (296 + 1 + 2 * i.val + 1) = 40 := by decide +kernel
  have h := h1 ⟨i, hi⟩
  rcases hr with e | e | e <;> subst e
  · exact ⟨h.1, by decide, by decide⟩
  · exact ⟨h.2.1, by decide, by decide⟩
  · exact ⟨h.2.2, by decide, by decide⟩
theorem tw_ok {r : Nat} (hr : r = 266 ∨ r = 281 ∨ r = 296) : mjOk 33 r := by
  have h : mjTgB 33 266 = true ∧ mjTgB 33 281 = true ∧ mjTgB 33 296 = true := by decide +kernel
  rcases hr with e | e | e <;> subst e
  · exact h.1
  · exact h.2.1
  · exact h.2.2
theorem tw_own : bgR 311 40 ∧ bgR 313 40 ∧ dvC 315 40 := by
  have h1 : mjNn 100 312 = 40 ∧ mjNn 100 314 = 40 := by decide +kernel
  have h2 : mjNn 100 316 = 42 ∧ mjNn 100 317 = 42 ∧ mjNn 100 319 = 40 ∧ mjNn 100 321 = 40 ∧ mjNn 100 323 = 40 ∧ mjTgB 0 318 = true ∧ mjTgB 0 320 = true ∧ mjTgB 0 322 = true := by decide +kernel
  obtain ⟨g1, g2, g3, g4, g5, g6, g7, g8⟩ := h2
  refine ⟨⟨h1.1, by decide, by decide⟩, ⟨h1.2, by decide, by decide⟩, ⟨g1, g2, by decide⟩, fun x hx => ?_⟩
  rcases hx with e | e | e <;> subst e
  · exact ⟨g6, g3, by decide, by decide⟩
  · exact ⟨g7, g4, by decide, by decide⟩
  · exact ⟨g8, g5, by decide, by decide⟩
/-- the three rows -/
def tw3 (Z : mjZ) (a b c : Nat) : Prop := Z 254 5 = (a : Int) ∧ Z 254 6 = (b : Int) ∧ Z 254 7 = (c : Int) ∧ (a = 266 ∨ a = 281 ∨ a = 296) ∧ (b = 266 ∨ b = 281 ∨ b = 296) ∧ (c = 266 ∨ c = 281 ∨ c = 296) ∧ a ≠ b ∧ a ≠ c ∧ b ≠ c
theorem tw3.n {Z : mjZ} {a b c : Nat} (h : tw3 Z a b c) : (Z 254 5).toNat = a ∧ (Z 254 6).toNat = b ∧ (Z 254 7).toNat = c := ⟨by rw [h.1]; rfl, by rw [h.2.1]; rfl, by rw [h.2.2.1]; rfl⟩
theorem tw3.cc {Z Z' : mjZ} {a b c : Nat} (h : tw3 Z a b c) (e : Z' 254 = Z 254) : tw3 Z' a b c := by
  unfold tw3 at h ⊢
  rw [e]
  exact h
/-- cells that a rest may change -/
def tkS (c x : Nat) : Prop := (c < x ∧ x < c + 15) ∨ (311 ≤ x ∧ x < 324)
def lfT (A B : Nat → Int) (l i : Nat) : Int := A i * B l - (if i = 0 then 0 else B (i - 1) * A (l + 1))
def rmT (A B : Nat → Int) (l i : Nat) : Int := lfT A B l i * B l - B i * lfT A B l l
theorem bgP40 : (2 : Int) ^ 350 < bgP 40 ∧ (2 : Int) ^ 350 * 2 ^ 350 + 2 ^ 350 * 2 ^ 350 < bgP 40 ∧ ((2 : Int) ^ 350 * 2 ^ 350 + 2 ^ 350 * 2 ^ 350) * 2 ^ 350 + 2 ^ 350 * (2 ^ 350 * 2 ^ 350 + 2 ^ 350 * 2 ^ 350) < bgP 40 ∧ (0 : Int) ≤ 2 ^ 350 ∧ (0 : Int) ≤ 2 ^ 350 * 2 ^ 350 ∧ ((2 : Int) ^ 350 * 2 ^ 350 + 2 ^ 350 * 2 ^ 350) * 2 ^ 350 < bgP 40 ∧ (2 : Int) ^ 350 * (2 ^ 350 * 2 ^ 350 + 2 ^ 350 * 2 ^ 350) < bgP 40 := by decide +kernel
def rmC (A B : Nat → Int) (l i : Nat) : Int := ((rmT A B l i).tdiv (A (l + 1))).tdiv (A (l + 1))
/-- whether one of them is not 0 -/
def anyT (A B : Nat → Int) (l i : Nat) (v : Int) : Prop := v = 0 ∧ (∀ j, j < i → rmC A B l j = 0) ∨ v = 1 ∧ ∃ j, j < i ∧ rmC A B l j ≠ 0
section TK
variable {d l a b c : Nat} {A B : Nat → Int} {Z : mjZ}
theorem bgA_neg (x : Int) : bgA (-x) = bgA x := by
  unfold bgA
  repeat' split
  all_goals omega
theorem lfT_bd (hA : ∀ i, i ≤ l + 1 → bgA (A i) ≤ 2 ^ 350) (hB : ∀ i, i ≤ l → bgA (B i) ≤ 2 ^ 350) {i : Nat} (hi : i ≤ l) : bgA (lfT A B l i) ≤ 2 ^ 350 * 2 ^ 350 + 2 ^ 350 * 2 ^ 350 := by
  unfold lfT
  have h1 := bgA_m (hA i (by omega)) (hB l (Nat.le_refl l))
  rw [Int.sub_eq_add_neg]
  refine bgA_a h1 ?_
  rw [bgA_neg]
  by_cases g : i = 0
  · rw [if_pos g]
    exact bgP40.2.2.2.2.1
  · rw [if_neg g]
    exact bgA_m (hB (i - 1) (by omega)) (hA (l + 1) (by omega))
theorem tb1 (hA : ∀ i, i ≤ l + 1 → bgA (A i) ≤ 2 ^ 350) (hB : ∀ i, i ≤ l → bgA (B i) ≤ 2 ^ 350) {i j : Nat} (hi : i ≤ l + 1) (hj : j ≤ l) : bgA (A i * B j) < bgP 40 ∧ bgA (B j * A i) < bgP 40 := by
  have h := bgA_m (hA i hi) (hB j hj)
  obtain ⟨p1, p2, p3, p4, p5, p6, p7⟩ := bgP40
  refine ⟨Int.lt_of_le_of_lt h (Int.lt_of_le_of_lt ?_ p2), ?_⟩
  · exact Int.le_add_of_nonneg_right p5
  · rw [Int.mul_comm]
    exact Int.lt_of_le_of_lt h (Int.lt_of_le_of_lt (Int.le_add_of_nonneg_right p5) p2)
theorem tb2 (hA : ∀ i, i ≤ l + 1 → bgA (A i) ≤ 2 ^ 350) (hB : ∀ i, i ≤ l → bgA (B i) ≤ 2 ^ 350) {i : Nat} (hi : i ≤ l) : bgA (lfT A B l i) < bgP 40 := Int.lt_of_le_of_lt (lfT_bd hA hB hi) bgP40.2.1
theorem tb3 (hA : ∀ i, i ≤ l + 1 → bgA (A i) ≤ 2 ^ 350) (hB : ∀ i, i ≤ l → bgA (B i) ≤ 2 ^ 350) {i j : Nat} (hi : i ≤ l) (hj : j ≤ l) : bgA (lfT A B l i * B j) < bgP 40 ∧ bgA (B j * lfT A B l i) < bgP 40 := ⟨Int.lt_of_le_of_lt (bgA_m (lfT_bd hA hB hi) (hB j hj)) bgP40.2.2.2.2.2.1, Int.lt_of_le_of_lt (bgA_m (hB j hj) (lfT_bd hA hB hi)) bgP40.2.2.2.2.2.2⟩
theorem tb4 (hA : ∀ i, i ≤ l + 1 → bgA (A i) ≤ 2 ^ 350) (hB : ∀ i, i ≤ l → bgA (B i) ≤ 2 ^ 350) {i : Nat} (hi : i ≤ l) : bgA (rmT A B l i) < bgP 40 := by
  unfold rmT
  rw [Int.sub_eq_add_neg]
  refine Int.lt_of_le_of_lt (bgA_a (bgA_m (lfT_bd hA hB hi) (hB l (Nat.le_refl l))) (Y := 2 ^ 350 * (2 ^ 350 * 2 ^ 350 + 2 ^ 350 * 2 ^ 350)) ?_) bgP40.2.2.1
  rw [bgA_neg]
  exact bgA_m (hB i hi) (lfT_bd hA hB (Nat.le_refl l))
theorem ft_rest {o t r : Nat} {q : Int → mjZ → Prop} (h3 : tw3 Z a b c) (hD : dvT 315 Z o t r) (hl : l < 6) (hA : ∀ i, i ≤ l + 1 → bgIs 40 Z (a + 1 + 2 * i) (A i)) (hB : ∀ i, i ≤ l → bgIs 40 Z (b + 1 + 2 * i) (B i)) (bA : ∀ i, i ≤ l + 1 → bgA (A i) ≤ 2 ^ 350) (bB : ∀ i, i ≤ l → bgA (B i) ≤ 2 ^ 350) (hq : ∀ (Z' : mjZ) (v : Int), wcS (tkS c) Z Z' → dvT 315 Z' o t r → (∀ i, i < l → bgIs 40 Z' (c + 1 + 2 * i) (rmC A B l i)) → anyT A B l l v → q v Z') : mjW1 (d + 6) 94 [yR 7 254, yI (l : Int)] Z q := by
  obtain ⟨_, _, _, ra, rb, rc, nab, nac, nbc⟩ := id h3
  have oa := tw_ok ra
  have ob := tw_ok rb
  have oc := tw_ok rc
  obtain ⟨R1, R3, RD⟩ := tw_own
  have nS : ∀ x, ¬ tkS c x ↔ ¬ ((c < x ∧ x < c + 15) ∨ (311 ≤ x ∧ x < 324)) := fun x => Iff.rfl
  have sa : ∀ i, i < 7 → ¬ tkS c (a + 1 + 2 * i) ∧ ¬ tkS c (a + 1 + 2 * i + 1) := fun i hi => by unfold tkS; omega
  have sb : ∀ i, i < 7 → ¬ tkS c (b + 1 + 2 * i) ∧ ¬ tkS c (b + 1 + 2 * i + 1) := fun i hi => by unfold tkS; omega
  have s4 : ¬ tkS c 254 := by unfold tkS; omega
  have cA : ∀ {Zc : mjZ}, wcS (tkS c) Z Zc → ∀ i, i ≤ l + 1 → bgIs 40 Zc (a + 1 + 2 * i) (A i) := fun h i hi => (hA i hi).S h (sa i (by omega)).1 (sa i (by omega)).2
  have cB : ∀ {Zc : mjZ}, wcS (tkS c) Z Zc → ∀ i, i ≤ l → bgIs 40 Zc (b + 1 + 2 * i) (B i) := fun h i hi => (hB i hi).S h (sb i (by omega)).1 (sb i (by omega)).2
  have c254 : ∀ {Zc : mjZ}, wcS (tkS c) Z Zc → (Zc 254 5).toNat = a ∧ (Zc 254 6).toNat = b ∧ (Zc 254 7).toNat = c := fun h => (h3.cc (h 254 s4)).n
  have tS : ∀ {Z1 Z2 : mjZ} {x : Nat}, mjO2 x Z1 Z2 → tkS c x → tkS c (x + 1) → wcS (tkS c) Z1 Z2 := fun h h1 h2 => h.S h1 h2
  have in1 : ∀ i, i < 7 → tkS c (c + 1 + 2 * i) ∧ tkS c (c + 1 + 2 * i + 1) := fun i hi => by unfold tkS; omega
  have i311 : tkS c 311 ∧ tkS c 312 := by unfold tkS; omega
  have i313 : tkS c 313 ∧ tkS c 314 := by unfold tkS; omega
  refine mje_94 ⟨by omega, fun g => by omega, fun _ => ⟨fun _ => ?_, fun g => by omega⟩⟩
  rw [h3.n.1, h3.n.2.1, show ((l : Int) + 1).toNat = l + 1 by omega, show ((l : Int)).toNat = l from rfl]
  refine ⟨oa, by omega, by omega, ob, by omega, by omega, ?_⟩
  -- the first turn
  refine lp_inv (n := l + 1) (a := Z) (L := fun i Zc => mjL_94_31 (d + 5) (l : Int) (a + 1 + 2 * (l + 1)) (b + 1 + 2 * l) i Zc q) (Y := fun i Zc => wcS (tkS c) Z Zc ∧ dvT 315 Zc o t r ∧ ∀ j, j < i → bgIs 40 Zc (c + 1 + 2 * j) (lfT A B l j)) (fun i Zc hi hy hL => ?_) (fun Zc hy => ?_) ⟨wcS.rf, hD, fun j hj => by omega⟩
  · obtain ⟨y1, y2, y3⟩ := hy
    refine mjl_94_31 ⟨by omega, by omega, fun g => by omega, fun _ => ?_⟩
    rw [(c254 y1).1, (c254 y1).2.2]
    refine ⟨oc, by omega, by omega, oa, ?_⟩
    have Ri := tw_row (i := i) rc (by omega)
    refine bg_product (d := d + 2) Ri (tw_row ra (by omega)) (tw_row rb (by omega)) (by unfold bgX; omega) (by unfold bgX; omega) (cA y1 i (by omega)) (cB y1 l (Nat.le_refl l)) (Nat.le_refl 40) (tb1 bA bB (by omega) (Nat.le_refl l)).1 fun Z1 b1 b2 => ?_
    have w1 := y1.tr (tS b1 (in1 i (by omega)).1 (in1 i (by omega)).2)
    have keep : ∀ j, j < i → bgIs 40 Z1 (c + 1 + 2 * j) (lfT A B l j) := fun j hj => (y3 j hj).O b1 (by unfold bgX; omega)
    have dv1 : dvT 315 Z1 o t r := y2.cc (b1 315 (by omega) (by omega))
    refine ⟨fun g => ?_, fun g => ?_⟩
    · obtain rfl : i = 0 := by omega
      refine hL Z1 ⟨w1, dv1, fun j hj => ?_⟩
      obtain rfl : j = 0 := by omega
      have : lfT A B l 0 = A 0 * B l := by
        unfold lfT
        rw [if_pos rfl, Int.sub_zero]
      rw [this]
      exact b2
    · rw [(c254 w1).2.1, show ((i : Int) - 1).toNat = i - 1 by omega]
      refine ⟨ob, by omega, by omega, ?_⟩
      refine bg_product (d := d + 2) R1 (tw_row rb (by omega)) (tw_row ra (by omega)) (by unfold bgX; omega) (by unfold bgX; omega) (cB w1 (i - 1) (by omega)) (cA w1 (l + 1) (Nat.le_refl _)) (Nat.le_refl 40) (tb1 bA bB (Nat.le_refl _) (by omega)).2 fun Z2 c1 c2 => ?_
      have w2 := w1.tr (tS c1 i311.1 i311.2)
      rw [(c254 w2).2.2]
      refine ⟨oc, ?_⟩
      have ev : A i * B l + -1 * (B (i - 1) * A (l + 1)) = lfT A B l i := by
        unfold lfT
        rw [if_neg (by omega)]
        omega
      refine bg_add (d := d + 1) Ri R1 (by unfold bgX; omega) (b2.O c1 (by unfold bgX; omega)) c2 (Or.inl rfl) (by rw [ev]; exact tb2 bA bB (by omega)) (tb1 bA bB (Nat.le_refl _) (by omega)).2 fun Z3 g1 g2 => ?_
      rw [ev] at g2
      have w3 := w2.tr (tS g1 (in1 i (by omega)).1 (in1 i (by omega)).2)
      refine hL Z3 ⟨w3, (dv1.cc (c1 315 (by omega) (by omega))).cc (g1 315 (by omega) (by omega)), fun j hj => ?_⟩
      by_cases e : j = i
      · rw [e]; exact g2
      · exact ((keep j (by omega)).O c1 (by unfold bgX; omega)).O g1 (by unfold bgX; omega)
  · obtain ⟨y1, y2, y3⟩ := hy
    refine mjl_94_31 ⟨by omega, by omega, fun _ => ?_, fun g => by omega⟩
    rw [(c254 y1).2.2, show ((l : Int)).toNat = l from rfl]
    refine ⟨oc, by omega, by omega, ?_⟩
    refine bg_copy (d := d + 3) R3 (tw_row rc (by omega)) (by unfold bgX; omega) (y3 l (by omega)) (tb2 bA bB (Nat.le_refl l)) fun Z1 b1 b2 => ?_
    have w1 := y1.tr (tS b1 i313.1 i313.2)
    have dv1 : dvT 315 Z1 o t r := y2.cc (b1 315 (by omega) (by omega))
    -- the second turn
    let Y : Nat → mjZ → Prop := fun i Zc => wcS (tkS c) Z Zc ∧ dvT 315 Zc o t r ∧ bgIs 40 Zc 313 (lfT A B l l) ∧ (∀ j, i ≤ j → j < l → bgIs 40 Zc (c + 1 + 2 * j) (lfT A B l j)) ∧ ∀ j, j < i → bgIs 40 Zc (c + 1 + 2 * j) (rmC A B l j)
    have turn : ∀ s i Zc (any : Nat), i + s = l → Y i Zc → anyT A B l i any → mjL_94_117 (d + 5) (l : Int) (a + 1 + 2 * (l + 1)) (b + 1 + 2 * l) any i Zc q := fun s => by
      induction s with
      | zero =>
        intro i Zc any hi hy ha
        obtain rfl : i = l := by omega
        obtain ⟨z1, z2, z3, z4, z5⟩ := hy
        refine mjl_94_117 ⟨by omega, by omega, fun _ => ⟨?_, hq Zc _ z1 z2 z5 ha⟩, fun g => by omega⟩
        rcases ha with ⟨g1, _⟩ | ⟨g1, _⟩
        · exact Or.inl g1
        · exact Or.inr g1
      | succ s ih =>
        intro i Zc any hi hy ha
        obtain ⟨z1, z2, z3, z4, z5⟩ := hy
        have Ri := tw_row (i := i) rc (by omega)
        refine mjl_94_117 ⟨by omega, by omega, fun g => by omega, fun _ => ?_⟩
        rw [(c254 z1).2.2]
        refine ⟨oc, by omega, by omega, ?_⟩
        refine bg_product (d := d + 2) R1 Ri (tw_row rb (by omega)) (by unfold bgX; omega) (by unfold bgX; omega) (z4 i (Nat.le_refl i) (by omega)) (cB z1 l (Nat.le_refl l)) (Nat.le_refl 40) (tb3 bA bB (by omega) (Nat.le_refl l)).1 fun Z2 c1 c2 => ?_
        have w2 := z1.tr (tS c1 i311.1 i311.2)
        rw [(c254 w2).2.1, (c254 w2).2.2]
        refine ⟨oc, ob, ?_⟩
        refine bg_product (d := d + 2) Ri (tw_row rb (by omega)) R3 (by unfold bgX; omega) (by unfold bgX; omega) (cB w2 i (by omega)) (z3.O c1 (by unfold bgX; omega)) (Nat.le_refl 40) (tb3 bA bB (Nat.le_refl l) (by omega)).2 fun Z3 g1 g2 => ?_
        have w3 := w2.tr (tS g1 (in1 i (by omega)).1 (in1 i (by omega)).2)
        rw [(c254 w3).2.2]
        refine ⟨oc, ?_⟩
        have ev : lfT A B l i * B l + -1 * (B i * lfT A B l l) = rmT A B l i := by
          unfold rmT
          omega
        refine bg_add (d := d + 1) R1 Ri (by unfold bgX; omega) (c2.O g1 (by unfold bgX; omega)) g2 (Or.inl rfl) (by rw [ev]; exact tb4 bA bB (by omega)) (tb3 bA bB (Nat.le_refl l) (by omega)).2 fun Z4 h1 h2 => ?_
        rw [ev] at h2
        have w4 := w3.tr (tS h1 i311.1 i311.2)
        have dv4 : dvT 315 Z4 o t r := ((z2.cc (c1 315 (by omega) (by omega))).cc (g1 315 (by omega) (by omega))).cc (h1 315 (by omega) (by omega))
        have bl : bgX 311 (a + 1 + 2 * (l + 1)) := by unfold bgX; omega
        refine dv_divideX (d := d) RD dv4 R1 (tw_row ra (by omega)) bl (by unfold dvE; omega) (by unfold dvE; omega) h2 (cA w4 (l + 1) (Nat.le_refl _)) fun Z5 m1 m2 m3 => ?_
        have k5 : wcS (tkS c) Z4 Z5 := fun x hx => by
          rw [nS] at hx
          exact m1 x (by omega) (by omega) (by omega)
        have w5 := w4.tr k5
        refine dv_divideX (d := d) RD m2 R1 (tw_row ra (by omega)) bl (by unfold dvE; omega) (by unfold dvE; omega) m3 (cA w5 (l + 1) (Nat.le_refl _)) fun Z6 n1 n2 n3 => ?_
        have k6 : wcS (tkS c) Z5 Z6 := fun x hx => by
          rw [nS] at hx
          exact n1 x (by omega) (by omega) (by omega)
        have w6 := w5.tr k6
        rw [(c254 w6).2.2]
        refine ⟨oc, ?_⟩
        have cb := n3.lt
        refine bg_copy (d := d + 3) Ri R1 (by unfold bgX; omega) n3 cb fun Z7 q1 q2 => ?_
        have w7 := w6.tr (tS q1 (in1 i (by omega)).1 (in1 i (by omega)).2)
        have dv7 : dvT 315 Z7 o t r := n2.cc (q1 315 (by omega) (by omega))
        have n7 : bgIs 40 Z7 311 (rmC A B l i) := n3.O q1 (by unfold bgX; omega)
        -- what stays from Zc
        have stay : ∀ {x : Nat} {v : Int}, bgIs 40 Zc x v → x + 1 < 311 ∨ x = 313 → x ≠ c + 1 + 2 * i → x ≠ c + 1 + 2 * i + 1 → x + 1 ≠ c + 1 + 2 * i → bgIs 40 Z7 x v := fun {x v} h hx x1 x2 x3 => by
          have a1 := h.O c1 (by unfold bgX; omega)
          have a2 := a1.O g1 (by unfold bgX; omega)
          have a3 := a2.O h1 (by unfold bgX; omega)
          have a4 := bgIs_congr a3 (m1 x (by omega) (by omega) (by omega)) (m1 (x + 1) (by omega) (by omega) (by omega))
          have a5 := bgIs_congr a4 (n1 x (by omega) (by omega) (by omega)) (n1 (x + 1) (by omega) (by omega) (by omega))
          exact a5.O q1 (by unfold bgX; omega)
        have Y7 : Y (i + 1) Z7 := by
          refine ⟨w7, dv7, stay z3 (Or.inr rfl) (by omega) (by omega) (by omega), fun j h1 h2 => stay (z4 j (by omega) h2) (Or.inl (by omega)) (by omega) (by omega) (by omega), fun j hj => ?_⟩
          by_cases e : j = i
          · rw [e]; exact q2
          · exact stay (z5 j (by omega)) (Or.inl (by omega)) (by omega) (by omega) (by omega)
        have s0 := n7.sg
        have any1 : (any : Int) = 0 ∨ (any : Int) = 1 := by
          rcases ha with ⟨g1, _⟩ | ⟨g1, _⟩
          · exact Or.inl g1
          · exact Or.inr g1
        refine ⟨by omega, fun g => ?_, fun g => ⟨?_, fun g2 => ?_, fun g2 => ?_⟩⟩
        · refine ih (i + 1) Z7 1 (by omega) Y7 (Or.inr ⟨rfl, ?_⟩)
          rcases ha with ⟨g1, _⟩ | ⟨_, j, j1, j2⟩
          · exact absurd g1 g
          · exact ⟨j, Nat.lt_succ_of_lt j1, j2⟩
        · rw [s0]
          repeat' split
          all_goals omega
        · have c0 : rmC A B l i = 0 := by
            rw [s0] at g2
            split at g2
            · omega
            · split at g2
              · assumption
              · omega
          refine ih (i + 1) Z7 0 (by omega) Y7 (Or.inl ⟨rfl, fun j hj => ?_⟩)
          rcases ha with ⟨_, h⟩ | ⟨h, _⟩
          · by_cases e : j = i
            · rw [e]; exact c0
            · exact h j (by omega)
          · omega
        · have c0 : rmC A B l i ≠ 0 := fun z => g2 (by rw [s0, z]; rfl)
          exact ih (i + 1) Z7 1 (by omega) Y7 (Or.inr ⟨rfl, i, by omega, c0⟩)
    refine turn l 0 Z1 0 (by omega) ⟨w1, dv1, b2, fun j _ hj => (y3 j (by omega)).O b1 (by unfold bgX; omega), fun j hj => by omega⟩ (Or.inl ⟨rfl, fun j hj => by omega⟩)
end TK
