/-! Numbers told by rows of fractions that come nearer to each other: an ordered field. -/
theorem ra_div {B e : Rat} (hB : 0 < B) (he : 0 < e) : ∃ d, 0 < d ∧ B * d = e := by
  refine ⟨e * B⁻¹, Rat.mul_pos he (Rat.inv_pos.mpr hB), ?_⟩
  have := Rat.mul_inv_cancel B (by grind)
  grind
theorem ra_mul {x y B d : Rat} (h1 : -B < x) (h2 : x < B) (h3 : -d < y) (h4 : y < d) : -(B * d) < x * y ∧ x * y < B * d := by
  have hB : 0 < B := by grind
  rcases Classical.em (0 ≤ y) with g | g
  · have e1 := Rat.mul_le_mul_of_nonneg_right (c := y) (show x ≤ B by grind) g
    have e2 := Rat.mul_le_mul_of_nonneg_right (c := y) (show -B ≤ x by grind) g
    have e3 := Rat.mul_lt_mul_of_pos_left (c := B) h4 hB
    grind
  · have e1 := Rat.mul_le_mul_of_nonneg_right (c := -y) (show x ≤ B by grind) (by grind)
    have e2 := Rat.mul_le_mul_of_nonneg_right (c := -y) (show -B ≤ x by grind) (by grind)
    have e3 := Rat.mul_lt_mul_of_pos_left (c := B) (show -y < d by grind) hB
    grind
def rcS (s : Nat → Rat) : Prop := ∀ e : Rat, 0 < e → ∃ N, ∀ i j, N ≤ i → N ≤ j → s i - s j < e
def rcE (s t : Nat → Rat) : Prop := ∀ e : Rat, 0 < e → ∃ N, ∀ i, N ≤ i → s i - t i < e ∧ t i - s i < e
def rcL (s t : Nat → Rat) : Prop := ∀ e : Rat, 0 < e → ∃ N, ∀ i, N ≤ i → s i - t i < e
section RC
variable {s t u v : Nat → Rat}
theorem rcE_L : rcE s t ↔ rcL s t ∧ rcL t s := by
  refine ⟨fun h => ⟨fun e he => ?_, fun e he => ?_⟩, fun h e he => ?_⟩
  · obtain ⟨N, hN⟩ := h e he
    exact ⟨N, fun i hi => (hN i hi).1⟩
  · obtain ⟨N, hN⟩ := h e he
    exact ⟨N, fun i hi => (hN i hi).2⟩
  · obtain ⟨N, hN⟩ := h.1 e he
    obtain ⟨M, hM⟩ := h.2 e he
    exact ⟨N + M, fun i hi => ⟨hN i (by omega), hM i (by omega)⟩⟩
theorem rcL_refl : rcL s s := fun e he => ⟨0, fun i _ => by grind⟩
theorem rcL_trans (h1 : rcL s t) (h2 : rcL t u) : rcL s u := fun e he => by
  obtain ⟨N, hN⟩ := h1 (e / 2) (by grind)
  obtain ⟨M, hM⟩ := h2 (e / 2) (by grind)
  refine ⟨N + M, fun i hi => ?_⟩
  have a1 := hN i (by omega)
  have a2 := hM i (by omega)
  grind
theorem rcS_add (h1 : rcS s) (h2 : rcS t) : rcS fun i => s i + t i := fun e he => by
  obtain ⟨N, hN⟩ := h1 (e / 2) (by grind)
  obtain ⟨M, hM⟩ := h2 (e / 2) (by grind)
  refine ⟨N + M, fun i j hi hj => ?_⟩
  have a1 := hN i j (by omega) (by omega)
  have a2 := hM i j (by omega) (by omega)
  show s i + t i - (s j + t j) < e
  grind
theorem rcS_neg (h1 : rcS s) : rcS fun i => -(s i) := fun e he => by
  obtain ⟨N, hN⟩ := h1 e he
  refine ⟨N, fun i j hi hj => ?_⟩
  have a1 := hN j i hj hi
  show -(s i) - -(s j) < e
  grind
theorem rcS_cst (q : Rat) : rcS fun _ => q := fun e he => ⟨0, fun i j _ _ => by grind⟩
theorem rcS_bd (h : rcS s) : ∃ B, 0 < B ∧ ∃ N, ∀ i, N ≤ i → -B < s i ∧ s i < B := by
  obtain ⟨N, hN⟩ := h 1 (by grind)
  rcases Classical.em (0 ≤ s N) with g | g
  · refine ⟨s N + 1, by grind, N, fun i hi => ?_⟩
    have a1 := hN i N hi (Nat.le_refl _)
    have a2 := hN N i (Nat.le_refl _) hi
    grind
  · refine ⟨-(s N) + 1, by grind, N, fun i hi => ?_⟩
    have a1 := hN i N hi (Nat.le_refl _)
    have a2 := hN N i (Nat.le_refl _) hi
    grind
theorem rcS_mul (h1 : rcS s) (h2 : rcS t) : rcS fun i => s i * t i := fun e he => by
  obtain ⟨B1, b1, N1, n1⟩ := rcS_bd h1
  obtain ⟨B2, b2, N2, n2⟩ := rcS_bd h2
  obtain ⟨d, d0, hd⟩ := ra_div (B := B1 + B2) (e := e) (by grind) he
  obtain ⟨N3, n3⟩ := h1 d d0
  obtain ⟨N4, n4⟩ := h2 d d0
  refine ⟨N1 + N2 + N3 + N4, fun i j hi hj => ?_⟩
  have a1 := n1 i (by omega)
  have a2 := n2 j (by omega)
  have a3 := n3 i j (by omega) (by omega)
  have a4 := n3 j i (by omega) (by omega)
  have a5 := n4 i j (by omega) (by omega)
  have a6 := n4 j i (by omega) (by omega)
  have m1 := (ra_mul (y := t i - t j) (d := d) a1.1 a1.2 (by grind) a5).2
  have m2 := (ra_mul (y := s i - s j) (d := d) a2.1 a2.2 (by grind) a3).2
  show s i * t i - s j * t j < e
  grind
theorem rcL_add (h1 : rcL s t) (h2 : rcL u v) : rcL (fun i => s i + u i) fun i => t i + v i := fun e he => by
  obtain ⟨N, hN⟩ := h1 (e / 2) (by grind)
  obtain ⟨M, hM⟩ := h2 (e / 2) (by grind)
  refine ⟨N + M, fun i hi => ?_⟩
  have a1 := hN i (by omega)
  have a2 := hM i (by omega)
  show s i + u i - (t i + v i) < e
  grind
theorem rcL_neg (h1 : rcL s t) : rcL (fun i => -(t i)) fun i => -(s i) := fun e he => by
  obtain ⟨N, hN⟩ := h1 e he
  refine ⟨N, fun i hi => ?_⟩
  have a1 := hN i hi
  show -(t i) - -(s i) < e
  grind
theorem rcE_mul (hs : rcS s) (hv : rcS v) (h1 : rcE s t) (h2 : rcE u v) (ht : rcS t) : rcE (fun i => s i * u i) fun i => t i * v i := fun e he => by
  obtain ⟨B1, b1, N1, n1⟩ := rcS_bd hs
  obtain ⟨B2, b2, N2, n2⟩ := rcS_bd hv
  obtain ⟨d, d0, hd⟩ := ra_div (B := B1 + B2) (e := e) (by grind) he
  obtain ⟨N3, n3⟩ := h1 d d0
  obtain ⟨N4, n4⟩ := h2 d d0
  refine ⟨N1 + N2 + N3 + N4, fun i hi => ?_⟩
  have a1 := n1 i (by omega)
  have a2 := n2 i (by omega)
  have a3 := n3 i (by omega)
  have a4 := n4 i (by omega)
  have m1 := ra_mul (y := u i - v i) (d := d) a1.1 a1.2 (by grind) a4.1
  have m2 := ra_mul (y := s i - t i) (d := d) a2.1 a2.2 (by grind) a3.1
  show s i * u i - t i * v i < e ∧ t i * v i - s i * u i < e
  grind
theorem rcL_not (hs : rcS s) (ht : rcS t) (h : ¬ rcL s t) : ∃ e, 0 < e ∧ ∃ N, ∀ i, N ≤ i → t i + e ≤ s i := by
  have h1 : ∃ e, 0 < e ∧ ∀ N, ∃ i, N ≤ i ∧ e ≤ s i - t i := by
    refine Classical.byContradiction fun g => h fun e he => ?_
    refine Classical.byContradiction fun g2 => g ⟨e, he, fun N => ?_⟩
    refine Classical.byContradiction fun g3 => g2 ⟨N, fun i hi => ?_⟩
    refine Classical.byContradiction fun g4 => g3 ⟨i, hi, by grind⟩
  obtain ⟨e, he, h2⟩ := h1
  obtain ⟨N, hN⟩ := hs (e / 4) (by grind)
  obtain ⟨M, hM⟩ := ht (e / 4) (by grind)
  obtain ⟨k, hk, h3⟩ := h2 (N + M)
  refine ⟨e / 2, by grind, N + M, fun i hi => ?_⟩
  have a1 := hN k i (by omega) (by omega)
  have a2 := hM i k (by omega) (by omega)
  grind
theorem rcL_tot (hs : rcS s) (ht : rcS t) : rcL s t ∨ rcL t s := by
  rcases Classical.em (rcL s t) with h | h
  · exact Or.inl h
  · obtain ⟨e, he, N, hN⟩ := rcL_not hs ht h
    refine Or.inr fun d hd => ⟨N, fun i hi => ?_⟩
    have := hN i hi
    grind
theorem rcL_no {e : Rat} {N : Nat} (he : 0 < e) (h : ∀ i, N ≤ i → t i + e ≤ s i) : ¬ rcL s t := fun g => by
  obtain ⟨M, hM⟩ := g e he
  have a1 := hM (N + M) (by omega)
  have a2 := h (N + M) (by omega)
  grind
theorem rcS_inv {e : Rat} {N : Nat} (hs : rcS s) (he : 0 < e) (h : ∀ i, N ≤ i → e ≤ s i) : rcS fun i => (s i)⁻¹ := fun y hy => by
  have ei : 0 < e⁻¹ := Rat.inv_pos.mpr he
  have e1 := Rat.mul_inv_cancel e (by grind)
  obtain ⟨d, d0, hd⟩ := ra_div (B := e⁻¹ * e⁻¹) (e := y) (Rat.mul_pos ei ei) hy
  obtain ⟨M, hM⟩ := hs d d0
  refine ⟨N + M, fun i j hi hj => ?_⟩
  have hb : ∀ i, N ≤ i → 0 < (s i)⁻¹ ∧ (s i)⁻¹ ≤ e⁻¹ ∧ s i * (s i)⁻¹ = 1 := fun i hi => by
    have a1 := h i hi
    have a2 : 0 < (s i)⁻¹ := Rat.inv_pos.mpr (by grind)
    have a3 := Rat.mul_inv_cancel (s i) (by grind)
    refine ⟨a2, ?_, a3⟩
    have a4 := Rat.mul_le_mul_of_nonneg_right (c := (s i)⁻¹ * e⁻¹) a1 (Rat.le_of_lt (Rat.mul_pos a2 ei))
    have c1 : e * ((s i)⁻¹ * e⁻¹) = (s i)⁻¹ := by rw [Rat.mul_comm, Rat.mul_assoc, Rat.mul_comm e⁻¹ e, e1, Rat.mul_one]
    have c2 : s i * ((s i)⁻¹ * e⁻¹) = e⁻¹ := by rw [← Rat.mul_assoc, a3, Rat.one_mul]
    rw [c1, c2] at a4
    exact a4
  obtain ⟨a1, a2, a3⟩ := hb i (by omega)
  obtain ⟨b1, b2, b3⟩ := hb j (by omega)
  have c1 := hM j i (by omega) (by omega)
  show (s i)⁻¹ - (s j)⁻¹ < y
  have c2 : (s i)⁻¹ - (s j)⁻¹ = (s i)⁻¹ * (s j)⁻¹ * (s j - s i) := by grind
  have c3 : (s i)⁻¹ * (s j)⁻¹ ≤ e⁻¹ * e⁻¹ := by
    have m1 := Rat.mul_le_mul_of_nonneg_right (c := (s j)⁻¹) a2 (by grind)
    have m2 := Rat.mul_le_mul_of_nonneg_left (c := e⁻¹) b2 (by grind)
    grind
  have c4 := Rat.mul_pos a1 b1
  rw [c2]
  rcases Classical.em (s j - s i ≤ 0) with g | g
  · have := Rat.mul_le_mul_of_nonneg_left (c := (s i)⁻¹ * (s j)⁻¹) g (by grind)
    grind
  · have m1 := Rat.mul_le_mul_of_nonneg_right (c := s j - s i) c3 (by grind)
    have m2 := Rat.mul_lt_mul_of_pos_left (c := e⁻¹ * e⁻¹) c1 (Rat.mul_pos ei ei)
    grind
end RC
def RC : Type := { s : Nat → Rat // rcS s }
def rcT : Setoid RC where
  r s t := rcE s.1 t.1
  iseqv := {
    refl := fun _ => rcE_L.mpr ⟨rcL_refl, rcL_refl⟩
    symm := fun h => rcE_L.mpr (rcE_L.mp h).symm
    trans := fun h g => rcE_L.mpr ⟨rcL_trans (rcE_L.mp h).1 (rcE_L.mp g).1, rcL_trans (rcE_L.mp g).2 (rcE_L.mp h).2⟩ }
def RN : Type := Quotient rcT
def rnM (s : Nat → Rat) (h : rcS s) : RN := Quotient.mk rcT ⟨s, h⟩
theorem rnM_ex (a : RN) : ∃ s h, a = rnM s h := Quotient.inductionOn a fun s => ⟨s.1, s.2, rfl⟩
theorem rnM_iff {s t : Nat → Rat} {hs : rcS s} {ht : rcS t} : rnM s hs = rnM t ht ↔ rcE s t := ⟨fun h => Quotient.exact h, fun h => Quotient.sound (s := rcT) h⟩
theorem rnM_eq {s t : Nat → Rat} {hs : rcS s} {ht : rcS t} (h : ∀ i, s i = t i) : rnM s hs = rnM t ht := by
  have : s = t := funext h
  subst this
  rfl
def rnA : RN → RN → RN := Quotient.lift₂ (fun s t => rnM (fun i => s.1 i + t.1 i) (rcS_add s.2 t.2)) fun s t u v h1 h2 => rnM_iff.mpr (rcE_L.mpr ⟨rcL_add (rcE_L.mp h1).1 (rcE_L.mp h2).1, rcL_add (rcE_L.mp h1).2 (rcE_L.mp h2).2⟩)
def rnN : RN → RN := Quotient.lift (fun s => rnM (fun i => -(s.1 i)) (rcS_neg s.2)) fun s t h => rnM_iff.mpr (rcE_L.mpr ⟨rcL_neg (rcE_L.mp h).2, rcL_neg (rcE_L.mp h).1⟩)
def rnP : RN → RN → RN := Quotient.lift₂ (fun s t => rnM (fun i => s.1 i * t.1 i) (rcS_mul s.2 t.2)) fun s t u v h1 h2 => rnM_iff.mpr (rcE_mul s.2 v.2 h1 h2 u.2)
def rnLe : RN → RN → Prop := Quotient.lift₂ (fun s t => rcL s.1 t.1) fun s t u v h1 h2 => propext ⟨fun h => rcL_trans (rcE_L.mp h1).2 (rcL_trans h (rcE_L.mp h2).1), fun h => rcL_trans (rcE_L.mp h1).1 (rcL_trans h (rcE_L.mp h2).2)⟩
def rnQ (q : Rat) : RN := rnM (fun _ => q) (rcS_cst q)
def rnW (a : RN) : Nat → RN
  | 0 => rnQ 1
  | n + 1 => rnP (rnW a n) a
theorem rnInv_ex {a : RN} (h : a ≠ rnQ 0) : ∃ b, rnP a b = rnQ 1 := by
  have pos : ∀ (s : Nat → Rat) (hs : rcS s), ¬ rcL s (fun _ => 0) → ∃ b, rnP (rnM s hs) b = rnQ 1 := fun s hs g => by
    obtain ⟨e, he, N, hN⟩ := rcL_not hs (rcS_cst 0) g
    refine ⟨rnM (fun i => (s i)⁻¹) (rcS_inv hs he fun i hi => by have := hN i hi; grind), ?_⟩
    refine rnM_iff.mpr fun d hd => ⟨N, fun i hi => ?_⟩
    have a1 := hN i hi
    have a2 := Rat.mul_inv_cancel (s i) (by grind)
    show s i * (s i)⁻¹ - 1 < d ∧ 1 - s i * (s i)⁻¹ < d
    rw [a2]
    grind
  obtain ⟨s, hs, rfl⟩ := rnM_ex a
  rcases Classical.em (rcL s fun _ => 0) with g | g
  · have g2 : ¬ rcL (fun i => -(s i)) fun _ => 0 := fun g3 => h (rnM_iff.mpr (rcE_L.mpr ⟨g, fun e he => by
      obtain ⟨N, hN⟩ := g3 e he
      refine ⟨N, fun i hi => ?_⟩
      have := hN i hi
      show 0 - s i < e
      grind⟩))
    obtain ⟨b, hb⟩ := pos _ (rcS_neg hs) g2
    obtain ⟨t, ht, rfl⟩ := rnM_ex b
    refine ⟨rnM (fun i => -(t i)) (rcS_neg ht), ?_⟩
    rw [← hb]
    exact rnM_eq fun i => by
      show s i * -(t i) = -(s i) * t i
      grind
  · exact pos s hs g
noncomputable def rnI (a : RN) : RN := by
  classical
  exact if h : ∃ b, rnP a b = rnQ 1 then Classical.choose h else rnQ 0
theorem rnP_comm (a b : RN) : rnP a b = rnP b a := by
  obtain ⟨s, hs, rfl⟩ := rnM_ex a
  obtain ⟨t, ht, rfl⟩ := rnM_ex b
  exact rnM_eq fun i => Rat.mul_comm _ _
theorem rnP_assoc (a b c : RN) : rnP (rnP a b) c = rnP a (rnP b c) := by
  obtain ⟨s, hs, rfl⟩ := rnM_ex a
  obtain ⟨t, ht, rfl⟩ := rnM_ex b
  obtain ⟨u, hu, rfl⟩ := rnM_ex c
  exact rnM_eq fun i => Rat.mul_assoc _ _ _
theorem rnP_one (a : RN) : rnP a (rnQ 1) = a := by
  obtain ⟨s, hs, rfl⟩ := rnM_ex a
  exact rnM_eq fun i => Rat.mul_one _
theorem rnP_zero (a : RN) : rnP (rnQ 0) a = rnQ 0 := by
  obtain ⟨s, hs, rfl⟩ := rnM_ex a
  exact rnM_eq fun i => Rat.zero_mul _
theorem rn_01 : rnQ 0 ≠ rnQ 1 := fun h => by
  obtain ⟨N, hN⟩ := (rnM_iff.mp h) (1 / 2) (by grind)
  have : (1 : Rat) - 0 < 1 / 2 := (hN N (Nat.le_refl _)).2
  grind
theorem rnI_mul {a : RN} (h : a ≠ rnQ 0) : rnP a (rnI a) = rnQ 1 := by
  have g := rnInv_ex h
  unfold rnI
  rw [dif_pos g]
  exact Classical.choose_spec g
theorem rnI_zero : rnI (rnQ 0) = rnQ 0 := by
  unfold rnI
  rw [dif_neg]
  rintro ⟨b, hb⟩
  rw [rnP_zero] at hb
  exact rn_01 hb
theorem rnI_I (a : RN) : rnI (rnI a) = a := by
  rcases Classical.em (a = rnQ 0) with h | h
  · rw [h, rnI_zero, rnI_zero]
  · have h1 := rnI_mul h
    have h2 : rnI a ≠ rnQ 0 := fun g => by
      rw [g, rnP_comm, rnP_zero] at h1
      exact rn_01 h1
    have h3 := rnI_mul h2
    rw [← rnP_one (rnI (rnI a)), ← h1, ← rnP_assoc, rnP_comm (rnI (rnI a)), rnP_assoc, rnP_comm (rnI (rnI a)), h3, rnP_one]
theorem rnI_one : rnI (rnQ 1) = rnQ 1 := by
  have h := rnI_mul (a := rnQ 1) (fun h => rn_01 h.symm)
  rw [rnP_comm, rnP_one] at h
  exact h
noncomputable def rnZ (a : RN) : Int → RN
  | Int.ofNat n => rnW a n
  | Int.negSucc n => rnI (rnW a (n + 1))
noncomputable def rnF : Lean.Grind.Field RN where
  add := rnA
  mul := rnP
  neg := rnN
  sub a b := rnA a (rnN b)
  inv := rnI
  div a b := rnP a (rnI b)
  natCast := ⟨fun n => rnQ n⟩
  ofNat n := ⟨rnQ n⟩
  nsmul := ⟨fun n a => rnP (rnQ n) a⟩
  npow := ⟨rnW⟩
  intCast := ⟨fun n => rnQ n⟩
  zsmul := ⟨fun n a => rnP (rnQ n) a⟩
  zpow := ⟨rnZ⟩
  add_zero a := by
    obtain ⟨s, hs, rfl⟩ := rnM_ex a
    exact rnM_eq fun i => Rat.add_zero _
  add_comm a b := by
    obtain ⟨s, hs, rfl⟩ := rnM_ex a
    obtain ⟨t, ht, rfl⟩ := rnM_ex b
    exact rnM_eq fun i => Rat.add_comm _ _
  add_assoc a b c := by
    obtain ⟨s, hs, rfl⟩ := rnM_ex a
    obtain ⟨t, ht, rfl⟩ := rnM_ex b
    obtain ⟨u, hu, rfl⟩ := rnM_ex c
    exact rnM_eq fun i => Rat.add_assoc _ _ _
  mul_assoc := rnP_assoc
  mul_comm := rnP_comm
  mul_one := rnP_one
  one_mul a := (rnP_comm _ _).trans (rnP_one a)
  left_distrib a b c := by
    obtain ⟨s, hs, rfl⟩ := rnM_ex a
    obtain ⟨t, ht, rfl⟩ := rnM_ex b
    obtain ⟨u, hu, rfl⟩ := rnM_ex c
    exact rnM_eq fun i => Rat.mul_add _ _ _
  right_distrib a b c := by
    obtain ⟨s, hs, rfl⟩ := rnM_ex a
    obtain ⟨t, ht, rfl⟩ := rnM_ex b
    obtain ⟨u, hu, rfl⟩ := rnM_ex c
    exact rnM_eq fun i => Rat.add_mul _ _ _
  zero_mul a := rnP_zero a
  mul_zero a := (rnP_comm _ _).trans (rnP_zero a)
  pow_zero a := rfl
  pow_succ a n := rfl
  ofNat_succ n := rnM_eq fun i => by
    show (((n + 1 : Nat) : Int) : Rat) = ((n : Int) : Rat) + 1
    rw [Int.natCast_add, Rat.intCast_add]
    rfl
  ofNat_eq_natCast n := rfl
  nsmul_eq_natCast_mul n a := rfl
  neg_add_cancel a := by
    obtain ⟨s, hs, rfl⟩ := rnM_ex a
    exact rnM_eq fun i => Rat.neg_add_cancel _
  sub_eq_add_neg a b := rfl
  neg_zsmul n a := by
    obtain ⟨s, hs, rfl⟩ := rnM_ex a
    exact rnM_eq fun i => by
      show ((-n : Int) : Rat) * s i = -((n : Rat) * s i)
      rw [Rat.intCast_neg, Rat.neg_mul]
  zsmul_natCast_eq_nsmul n a := rfl
  intCast_ofNat n := rfl
  intCast_neg n := rnM_eq fun i => Rat.intCast_neg _
  div_eq_mul_inv a b := rfl
  zero_ne_one := rn_01
  inv_zero := rnI_zero
  mul_inv_cancel h := rnI_mul h
  zpow_zero a := rfl
  zpow_succ a n := rfl
  zpow_neg a n := by
    match n with
    | Int.ofNat 0 => exact rnI_one.symm
    | Int.ofNat (k + 1) => rfl
    | Int.negSucc k => exact (rnI_I _).symm
