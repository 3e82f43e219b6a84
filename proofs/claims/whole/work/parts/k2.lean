/-! Ordered fields with a root between unlike signs. -/
def pe {R : Type} [Lean.Grind.CommRing R] : Nat → (Nat → R) → R → R
  | 0, _, _ => 0
  | n + 1, c, x => c 0 + x * pe n (fun i => c (i + 1)) x
theorem pe_succ {R : Type} [Lean.Grind.CommRing R] {n : Nat} {c : Nat → R} {x : R} : pe (n + 1) c x = c 0 + x * pe n (fun i => c (i + 1)) x := rfl
theorem k_nn {K : Type} [Lean.Grind.Field K] [LE K] [LT K] [Std.LawfulOrderLT K] [Std.IsLinearOrder K] [Lean.Grind.OrderedRing K] {a b : K} (h1 : 0 ≤ a) (h2 : 0 ≤ b) : 0 ≤ a * b := Lean.Grind.OrderedRing.mul_nonneg h1 h2
theorem k_pp {K : Type} [Lean.Grind.Field K] [LE K] [LT K] [Std.LawfulOrderLT K] [Std.IsLinearOrder K] [Lean.Grind.OrderedRing K] {a b : K} (h1 : 0 < a) (h2 : 0 < b) : 0 < a * b := Lean.Grind.OrderedRing.mul_pos h1 h2
theorem k_mul {K : Type} [Lean.Grind.Field K] [LE K] [LT K] [Std.LawfulOrderLT K] [Std.IsLinearOrder K] [Lean.Grind.OrderedRing K] {x z M w : K} (h1 : -M ≤ x) (h2 : x ≤ M) (h3 : -w ≤ z) (h4 : z ≤ w) : -(M * w) ≤ x * z ∧ x * z ≤ M * w := by
  have e1 := k_nn (a := M - x) (b := w + z) (by grind) (by grind)
  have e2 := k_nn (a := M + x) (b := w - z) (by grind) (by grind)
  have e3 := k_nn (a := M - x) (b := w - z) (by grind) (by grind)
  have e4 := k_nn (a := M + x) (b := w + z) (by grind) (by grind)
  grind
theorem k_dv {K : Type} [Lean.Grind.Field K] [LE K] [LT K] [Std.LawfulOrderLT K] [Std.IsLinearOrder K] [Lean.Grind.OrderedRing K] {a b : K} (h1 : 0 < a) (h2 : 0 < b) : ∃ d : K, 0 < d ∧ b * d = a := by
  have e1 : (0 : K) < b⁻¹ := (Lean.Grind.Field.IsOrdered.inv_pos_iff).mpr h2
  have e2 : b * b⁻¹ = 1 := Lean.Grind.Field.mul_inv_cancel (by grind)
  refine ⟨a * b⁻¹, k_pp h1 e1, ?_⟩
  grind
theorem pe_lip {K : Type} [Lean.Grind.Field K] [LE K] [LT K] [Std.LawfulOrderLT K] [Std.IsLinearOrder K] [Lean.Grind.OrderedRing K] {M : K} (hM : 0 ≤ M) : ∀ (n : Nat) (c : Nat → K), ∃ B C : K, 0 ≤ B ∧ 0 ≤ C ∧ ∀ x y, -M ≤ x → x ≤ M → -M ≤ y → y ≤ M → y ≤ x → (-B ≤ pe n c y ∧ pe n c y ≤ B) ∧ (-(C * (x - y)) ≤ pe n c x - pe n c y ∧ pe n c x - pe n c y ≤ C * (x - y))
  | 0, c => ⟨0, 0, by grind, by grind, fun x y _ _ _ _ _ => by
    show (-(0 : K) ≤ 0 ∧ (0 : K) ≤ 0) ∧ (-(0 * (x - y)) ≤ (0 : K) - 0 ∧ (0 : K) - 0 ≤ 0 * (x - y))
    grind⟩
  | n + 1, c => by
    obtain ⟨B, C, hB, hC, h⟩ := pe_lip hM n fun i => c (i + 1)
    obtain ⟨D, hD, d1, d2⟩ : ∃ D : K, 0 ≤ D ∧ -D ≤ c 0 ∧ c 0 ≤ D := by
      rcases Std.le_total (a := (0 : K)) (b := c 0) with g | g
      · exact ⟨c 0, g, by grind, by grind⟩
      · exact ⟨-(c 0), by grind, by grind, by grind⟩
    refine ⟨D + M * B, M * C + B, by have := k_nn hM hB; grind, by have := k_nn hM hC; grind, fun x y x1 x2 y1 y2 hyx => ?_⟩
    obtain ⟨⟨p1, p2⟩, p3, p4⟩ := h x y x1 x2 y1 y2 hyx
    rw [pe_succ, pe_succ]
    generalize pe n (fun i => c (i + 1)) x = P at p3 p4 ⊢
    generalize pe n (fun i => c (i + 1)) y = Q at p1 p2 p3 p4 ⊢
    have e1 := k_mul y1 y2 p1 p2
    have e2 := k_mul (x := x) (z := P - Q) x1 x2 p3 p4
    have e3 := k_mul (x := x - y) (M := x - y) (by grind) (by grind) p1 p2
    grind
theorem dch {α : Type} {P : α → Prop} {Q : α → α → Prop} (a : α) (ha : P a) (h : ∀ a, P a → ∃ b, P b ∧ Q a b) : ∃ f : Nat → α, f 0 = a ∧ ∀ n, P (f n) ∧ Q (f n) (f (n + 1)) := by
  let g : Nat → { a // P a } := fun n => Nat.rec ⟨a, ha⟩ (fun _ p => ⟨Classical.choose (h p.1 p.2), (Classical.choose_spec (h p.1 p.2)).1⟩) n
  exact ⟨fun n => (g n).1, rfl, fun n => ⟨(g n).2, (Classical.choose_spec (h (g n).1 (g n).2)).2⟩⟩
theorem ra_arch {w e : Rat} (he : 0 < e) : ∃ n : Nat, w < e * (((n + 1 : Nat) : Int) : Rat) := by
  refine ⟨(w * e⁻¹).ceil.toNat, ?_⟩
  have e1 := Rat.mul_inv_cancel e (by grind)
  have e2 : w * e⁻¹ ≤ ((w * e⁻¹).ceil : Rat) := Rat.le_ceil
  have e3 : (w * e⁻¹).ceil ≤ (((w * e⁻¹).ceil.toNat : Nat) : Int) := Int.self_le_toNat _
  have e4 := Rat.intCast_le_intCast.mpr e3
  have e5 : ((((w * e⁻¹).ceil.toNat + 1 : Nat) : Int) : Rat) = ((((w * e⁻¹).ceil.toNat : Nat) : Int) : Rat) + 1 := by
    rw [Int.natCast_add, Rat.intCast_add]
    rfl
  rw [e5]
  generalize ((((w * e⁻¹).ceil.toNat : Nat) : Int) : Rat) = x at *
  have e6 := Rat.mul_le_mul_of_nonneg_left (c := e) (Rat.le_trans e2 e4) (Rat.le_of_lt he)
  rw [show e * (w * e⁻¹) = w by rw [Rat.mul_comm, Rat.mul_assoc, Rat.mul_comm e⁻¹ e, e1, Rat.mul_one]] at e6
  clear e1 e2 e3 e4 e5
  grind
/-- halves of halves -/
theorem ra_half {l h : Nat → Rat} (h0 : ∀ n, l n ≤ h n) (h1 : ∀ n, (h (n + 1) - l (n + 1)) * 2 = h n - l n) {e : Rat} (he : 0 < e) : ∃ n, h n - l n < e := by
  have key : ∀ n : Nat, (h n - l n) * (((n + 1 : Nat) : Int) : Rat) ≤ h 0 - l 0 := fun n => by
    induction n with
    | zero =>
      show (h 0 - l 0) * 1 ≤ _
      grind
    | succ n ih =>
      have a1 := h1 n
      have a2 := h0 (n + 1)
      have e5 : ((((n + 1 + 1 : Nat)) : Int) : Rat) = (((n + 1 : Nat) : Int) : Rat) + 1 := by
        rw [Int.natCast_add, Rat.intCast_add]
        rfl
      have e6 : (1 : Rat) ≤ (((n + 1 : Nat) : Int) : Rat) := by
        have : ((1 : Int) : Rat) ≤ (((n + 1 : Nat) : Int) : Rat) := Rat.intCast_le_intCast.mpr (by omega)
        exact this
      rw [e5]
      generalize (((n + 1 : Nat) : Int) : Rat) = x at *
      have e7 := Rat.mul_le_mul_of_nonneg_left (c := h (n + 1) - l (n + 1)) e6 (by clear h0 h1; grind)
      clear h0 h1
      rw [← a1] at ih
      generalize h (n + 1) - l (n + 1) = d at *
      generalize h 0 - l 0 = w at *
      clear a1 a2 e5 e6 he
      grind
  obtain ⟨n, hn⟩ := ra_arch (w := h 0 - l 0) he
  refine ⟨n, ?_⟩
  have a1 := key n
  have e6 : (0 : Rat) < (((n + 1 : Nat) : Int) : Rat) := by
    have : ((0 : Int) : Rat) < (((n + 1 : Nat) : Int) : Rat) := Rat.intCast_lt_intCast.mpr (by omega)
    exact this
  generalize (((n + 1 : Nat) : Int) : Rat) = x at *
  refine Classical.byContradiction fun g => ?_
  have e7 := Rat.mul_le_mul_of_nonneg_right (c := x) (show e ≤ h n - l n by grind) (by grind)
  grind
def ivP (K : Type) [Lean.Grind.Field K] [LE K] [LT K] : Prop := ∀ (n : Nat) (c : Nat → K) (a b : K), a < b → pe n c a < 0 → 0 < pe n c b → ∃ x, a < x ∧ x < b ∧ pe n c x = 0
def cpP (K : Type) [Lean.Grind.Field K] [LE K] [LT K] (cq : Rat → K) : Prop := (∀ a b, a ≤ b → cq a ≤ cq b) ∧ cq 0 = 0 ∧ (∀ a b, cq (a - b) = cq a - cq b) ∧ (∀ a b : K, a < b → ∃ q, a < cq q ∧ cq q < b) ∧ ∀ s, rcS s → ∃ x : K, (∀ q N, (∀ i, N ≤ i → q ≤ s i) → cq q ≤ x) ∧ (∀ q N, (∀ i, N ≤ i → s i ≤ q) → x ≤ cq q)
theorem k_abs {K : Type} [Lean.Grind.Field K] [LE K] [LT K] [Std.LawfulOrderLT K] [Std.IsLinearOrder K] [Lean.Grind.OrderedRing K] (a : K) : -(a * a + 1) ≤ a ∧ a ≤ a * a + 1 := by
  have e1 := Lean.Grind.OrderedRing.sq_nonneg (a := a + 1)
  have e2 := Lean.Grind.OrderedRing.sq_nonneg (a := a - 1)
  have e3 := Lean.Grind.OrderedRing.sq_nonneg (a := a)
  grind
theorem k_sq {K : Type} [Lean.Grind.Field K] [LE K] [LT K] [Std.LawfulOrderLT K] [Std.IsLinearOrder K] [Lean.Grind.OrderedRing K] (a : K) : 0 ≤ a * a := by
  have e1 := Lean.Grind.OrderedRing.sq_nonneg (a := a)
  grind
theorem iv_of {K : Type} [Lean.Grind.Field K] [LE K] [LT K] [Std.LawfulOrderLT K] [Std.IsLinearOrder K] [Lean.Grind.OrderedRing K] {cq : Rat → K} (h : cpP K cq) : ivP K := fun n c a b hab ha hb => by
  obtain ⟨cm, c0, cs, cd, cl⟩ := h
  have cm2 : ∀ {p q : Rat}, cq p < cq q → p < q := fun {p q} g => by
    refine Classical.byContradiction fun g2 => ?_
    have := cm q p (by grind)
    grind
  obtain ⟨M, hM, a1, a2, b1, b2⟩ : ∃ M : K, 0 ≤ M ∧ -M ≤ a ∧ a ≤ M ∧ -M ≤ b ∧ b ≤ M := by
    have e1 := k_abs a
    have e2 := k_abs b
    have e3 := k_sq a
    have e4 := k_sq b
    exact ⟨a * a + b * b + 1, by grind, by grind, by grind, by grind, by grind⟩
  obtain ⟨B, C, hB, hC, lip⟩ := pe_lip hM n c
  obtain ⟨da, da0, da1⟩ := k_dv (a := -(pe n c a)) (b := C + 1) (by grind) (by grind)
  obtain ⟨db, db0, db1⟩ := k_dv (a := pe n c b) (b := C + 1) (by grind) (by grind)
  obtain ⟨q0, p1, p2, p3⟩ : ∃ q0, a < cq q0 ∧ cq q0 < b ∧ cq q0 < a + da := by
    rcases Std.le_total (a := a + da) (b := b) with g | g
    · obtain ⟨q, g1, g2⟩ := cd a (a + da) (by grind)
      exact ⟨q, g1, by grind, g2⟩
    · obtain ⟨q, g1, g2⟩ := cd a b hab
      exact ⟨q, g1, g2, by grind⟩
  obtain ⟨q1, r1, r2, r3⟩ : ∃ q1, cq q0 < cq q1 ∧ cq q1 < b ∧ b - db < cq q1 := by
    rcases Std.le_total (a := b - db) (b := cq q0) with g | g
    · obtain ⟨q, g1, g2⟩ := cd (cq q0) b p2
      exact ⟨q, g1, g2, by grind⟩
    · obtain ⟨q, g1, g2⟩ := cd (b - db) b (by grind)
      exact ⟨q, by grind, g2, g1⟩
  have f0 : pe n c (cq q0) < 0 := by
    have := (lip (cq q0) a (by grind) (by grind) a1 a2 (by grind)).2.2
    have e2 := Lean.Grind.OrderedRing.mul_lt_mul_of_pos_left (a := cq q0 - a) (b := da) (c := C + 1) (by grind) (by grind)
    grind
  have f1 : 0 < pe n c (cq q1) := by
    have := (lip b (cq q1) (by grind) (by grind) (by grind) (by grind) (by grind)).2.2
    have e2 := Lean.Grind.OrderedRing.mul_lt_mul_of_pos_left (a := b - cq q1) (b := db) (c := C + 1) (by grind) (by grind)
    grind
  obtain ⟨f, e0, hf⟩ := dch (α := Rat × Rat) (P := fun p => p.1 ≤ p.2 ∧ pe n c (cq p.1) ≤ 0 ∧ 0 ≤ pe n c (cq p.2)) (Q := fun p r => p.1 ≤ r.1 ∧ r.2 ≤ p.2 ∧ (r.2 - r.1) * 2 = p.2 - p.1) (q0, q1) ⟨by have := cm2 r1; grind, by grind, by grind⟩ fun p hp => by
    obtain ⟨g1, g2, g3⟩ := hp
    rcases Std.le_total (a := pe n c (cq ((p.1 + p.2) / 2))) (b := 0) with g | g
    · exact ⟨((p.1 + p.2) / 2, p.2), ⟨by grind, g, g3⟩, by grind, by grind, by grind⟩
    · exact ⟨(p.1, (p.1 + p.2) / 2), ⟨by grind, g2, g⟩, by grind, by grind, by grind⟩
  have mono : ∀ i k, (f i).1 ≤ (f (i + k)).1 ∧ (f (i + k)).2 ≤ (f i).2 := fun i k => by
    induction k with
    | zero => exact ⟨Rat.le_refl, Rat.le_refl⟩
    | succ k ih =>
      have := (hf (i + k)).2
      exact ⟨Rat.le_trans ih.1 this.1, Rat.le_trans this.2.1 ih.2⟩
  have mono2 : ∀ N i, N ≤ i → (f N).1 ≤ (f i).1 ∧ (f i).2 ≤ (f N).2 := fun N i hi => by
    obtain ⟨k, rfl⟩ : ∃ k, i = N + k := ⟨i - N, by omega⟩
    exact mono N k
  have small : ∀ e : Rat, 0 < e → ∃ N, (f N).2 - (f N).1 < e := fun e he => ra_half (fun n => (hf n).1.1) (fun n => (hf n).2.2.2) he
  have hs : rcS fun i => (f i).1 := fun e he => by
    obtain ⟨N, hN⟩ := small e he
    refine ⟨N, fun i j hi hj => ?_⟩
    have m1 := mono2 N i hi
    have m2 := mono2 N j hj
    have m3 := (hf i).1.1
    show (f i).1 - (f j).1 < e
    grind
  obtain ⟨x, x1, x2⟩ := cl _ hs
  have lx : ∀ N, cq (f N).1 ≤ x := fun N => x1 _ N fun i hi => (mono2 N i hi).1
  have ux : ∀ N, x ≤ cq (f N).2 := fun N => x2 _ N fun i hi => Rat.le_trans (hf i).1.1 (mono2 N i hi).2
  have ax : a < x := by
    have := lx 0
    rw [e0] at this
    grind
  have bx : x < b := by
    have := ux 0
    rw [e0] at this
    grind
  have al : ∀ N, a ≤ cq (f N).1 := fun N => by
    have m1 := cm _ _ (mono2 0 N (Nat.zero_le _)).1
    rw [e0] at m1
    grind
  have bu : ∀ N, cq (f N).2 ≤ b := fun N => by
    have m1 := cm _ _ (mono2 0 N (Nat.zero_le _)).2
    rw [e0] at m1
    grind
  have none : ∀ y : K, 0 < y → (∀ N, y ≤ C * (cq (f N).2 - cq (f N).1)) → False := fun y hy g => by
    obtain ⟨d, d0, d1⟩ := k_dv (a := y) (b := C + 1) hy (by grind)
    obtain ⟨q, g1, g2⟩ := cd 0 d d0
    obtain ⟨N, hN⟩ := small q (cm2 (by rw [c0]; exact g1))
    have e1 := cm _ _ (Rat.le_of_lt hN)
    rw [cs] at e1
    have e2 := g N
    have e3 := Lean.Grind.OrderedRing.mul_le_mul_of_nonneg_left (c := C) e1 hC
    have e4 := Lean.Grind.OrderedRing.mul_lt_mul_of_pos_left (a := cq q) (b := d) (c := C + 1) g2 (by grind)
    grind
  refine ⟨x, ax, bx, ?_⟩
  refine Classical.byContradiction fun g => ?_
  rcases Std.le_total (a := pe n c x) (b := 0) with g1 | g1
  · refine none (-(pe n c x)) (by grind) fun N => ?_
    have e1 := (lip (cq (f N).2) x (by have := ux N; grind) (by have := bu N; grind) (by grind) (by grind) (ux N)).2.2
    have e2 := (hf N).1.2.2
    have e3 := Lean.Grind.OrderedRing.mul_le_mul_of_nonneg_left (a := cq (f N).1) (b := x) (c := C) (lx N) hC
    grind
  · refine none (pe n c x) (by grind) fun N => ?_
    have e1 := (lip x (cq (f N).1) (by grind) (by grind) (by have := al N; grind) (by have := lx N; grind) (lx N)).2.2
    have e2 := (hf N).1.2.1
    have e3 := Lean.Grind.OrderedRing.mul_le_mul_of_nonneg_left (a := x) (b := cq (f N).2) (c := C) (ux N) hC
    grind
theorem rnM_le {s t : Nat → Rat} {hs : rcS s} {ht : rcS t} : rnLe (rnM s hs) (rnM t ht) ↔ rcL s t := Iff.rfl
theorem rn_tot (a b : RN) : rnLe a b ∨ rnLe b a := by
  obtain ⟨s, hs, rfl⟩ := rnM_ex a
  obtain ⟨t, ht, rfl⟩ := rnM_ex b
  exact rcL_tot hs ht
theorem rn_mlt {a b c : RN} (h1 : ¬ rnLe b a) (h2 : ¬ rnLe c (rnQ 0)) : ¬ rnLe (rnP c b) (rnP c a) := by
  obtain ⟨s, hs, rfl⟩ := rnM_ex a
  obtain ⟨t, ht, rfl⟩ := rnM_ex b
  obtain ⟨u, hu, rfl⟩ := rnM_ex c
  obtain ⟨e, he, N, hN⟩ := rcL_not ht hs h1
  obtain ⟨d, hd, M, hM⟩ := rcL_not hu (rcS_cst 0) h2
  refine rcL_no (e := d * e) (N := N + M) (Rat.mul_pos hd he) fun i hi => ?_
  have a1 := hN i (by omega)
  have a2 := hM i (by omega)
  have a3 := Rat.mul_nonneg (a := u i - d) (b := t i - s i) (by grind) (by grind)
  have a4 := Rat.mul_nonneg (a := d) (b := t i - s i - e) (by grind) (by grind)
  show u i * s i + d * e ≤ u i * t i
  grind
theorem rn_pack : ∃ (K : Type) (_ : Lean.Grind.Field K) (_ : LE K) (_ : LT K) (_ : Std.LawfulOrderLT K) (_ : Std.IsLinearOrder K) (_ : Lean.Grind.OrderedRing K), ivP K := by
  let f : Lean.Grind.Field RN := rnF
  let le : LE RN := ⟨rnLe⟩
  let lt : LT RN := ⟨fun a b => ¬ rnLe b a⟩
  have lo : Std.LawfulOrderLT RN := ⟨fun a b => ⟨fun h => ⟨(rn_tot a b).resolve_right h, h⟩, fun h => h.2⟩⟩
  have li : Std.IsLinearOrder RN := {
    le_refl := fun a => by
      obtain ⟨s, hs, rfl⟩ := rnM_ex a
      exact rcL_refl
    le_trans := fun a b c h1 h2 => by
      obtain ⟨s, hs, rfl⟩ := rnM_ex a
      obtain ⟨t, ht, rfl⟩ := rnM_ex b
      obtain ⟨u, hu, rfl⟩ := rnM_ex c
      exact rcL_trans h1 h2
    le_antisymm := fun a b h1 h2 => by
      obtain ⟨s, hs, rfl⟩ := rnM_ex a
      obtain ⟨t, ht, rfl⟩ := rnM_ex b
      exact rnM_iff.mpr (rcE_L.mpr ⟨h1, h2⟩)
    le_total := rn_tot }
  have og : Lean.Grind.OrderedRing RN := {
    add_le_left_iff := fun {a b} c => by
      obtain ⟨s, hs, rfl⟩ := rnM_ex a
      obtain ⟨t, ht, rfl⟩ := rnM_ex b
      obtain ⟨u, hu, rfl⟩ := rnM_ex c
      show rcL s t ↔ rcL (fun i => s i + u i) fun i => t i + u i
      refine ⟨fun h => rcL_add h rcL_refl, fun h e he => ?_⟩
      obtain ⟨N, hN⟩ := h e he
      refine ⟨N, fun i hi => ?_⟩
      have : s i + u i - (t i + u i) < e := hN i hi
      grind
    zero_lt_one := fun h => by
      obtain ⟨N, hN⟩ := h (1 / 2) (by grind)
      have : (1 : Rat) - 0 < 1 / 2 := hN N (Nat.le_refl _)
      grind
    mul_lt_mul_of_pos_left := fun h1 h2 => rn_mlt h1 h2
    mul_lt_mul_of_pos_right := fun {a b c} h1 h2 => by
      show ¬ rnLe (rnP b c) (rnP a c)
      rw [rnP_comm b, rnP_comm a]
      exact rn_mlt h1 h2 }
  refine ⟨RN, f, le, lt, lo, li, og, iv_of (cq := rnQ) ⟨fun a b h => ?_, rfl, fun a b => ?_, fun a b h => ?_, fun s hs => ⟨rnM s hs, fun q N h => ?_, fun q N h => ?_⟩⟩⟩
  · exact fun e he => ⟨0, fun i _ => by grind⟩
  · exact rnM_eq fun i => Rat.sub_eq_add_neg _ _
  · obtain ⟨s, hs, rfl⟩ := rnM_ex a
    obtain ⟨t, ht, rfl⟩ := rnM_ex b
    obtain ⟨e, he, N, hN⟩ := rcL_not ht hs h
    obtain ⟨M, hM⟩ := hs (e / 4) (by grind)
    refine ⟨s (N + M) + e / 2, ?_, ?_⟩
    · refine rcL_no (e := e / 4) (N := N + M) (by grind) fun i hi => ?_
      have a1 := hM i (N + M) (by omega) (by omega)
      show s i + e / 4 ≤ s (N + M) + e / 2
      grind
    · refine rcL_no (e := e / 4) (N := N + M) (by grind) fun i hi => ?_
      have a1 := hM (N + M) i (by omega) (by omega)
      have a2 := hN i (by omega)
      show s (N + M) + e / 2 + e / 4 ≤ t i
      grind
  · exact fun e he => ⟨N, fun i hi => by have := h i hi; grind⟩
  · exact fun e he => ⟨N, fun i hi => by have := h i hi; grind⟩
