/-! Rows told by integers, and ints and longs that integers tell. -/
def mjR (z : Int) : Prop := -2147483648 ≤ z ∧ z < 2147483648
def mjRL (z : Int) : Prop := -9223372036854775808 ≤ z ∧ z < 9223372036854775808
theorem mjR_int {z : Int} (h : mjR z) : (Int32.ofInt z).toInt = z := Int32.toInt_ofInt_of_le h.1 h.2
theorem mjRL_int {z : Int} (h : mjRL z) : (Int64.ofInt z).toInt = z := Int64.toInt_ofInt_of_le h.1 h.2
theorem mjR_nat {n : Nat} : Int32.ofInt (n : Int) = Int32.ofNat n := by
  unfold Int32.ofInt Int32.ofNat
  rw [BitVec.ofInt_natCast]
theorem mjR_idx {z : Int} (h : 0 ≤ z) : Int32.ofInt z = Int32.ofNat z.toNat := by
  rw [← mjR_nat, Int.toNat_of_nonneg h]
def mjIt (t : Nat) : Bool := Nat.beq t 100 || (Nat.ble 10000 t && Nat.blt t 20000)
/-- the length of a row of ints -/
def mjNn (t c : Nat) : Nat := bif Nat.beq t 100 then mjLn c else t - 10000
theorem mjIt_or {t : Nat} (h : mjIt t = true) : t = 100 ∨ 10000 ≤ t ∧ t < 20000 := by
  unfold mjIt at h
  rw [Bool.or_eq_true, Bool.and_eq_true] at h
  rcases h with h | h
  · exact Or.inl (Nat.eq_of_beq_eq_true h)
  · exact Or.inr ⟨Nat.le_of_ble_eq_true h.1, Nat.blt_eq ▸ h.2⟩
theorem mjTg_I2 {t c : Nat} (h : mjOk t c) (ht : mjIt t = true) : ∃ xs, mjSh c = .inr (.inl xs) ∧ xs.length < 4000 ∧ mjNn t c = xs.length := by
  obtain ⟨xs, h1, h2, h3⟩ := mjTg_I h (mjIt_or ht)
  refine ⟨xs, h1, h2, ?_⟩
  unfold mjNn
  rcases h3 with h3 | h3
  · subst h3
    simp only [Nat.beq_refl, cond_true, mjLn, h1]
  · have : Nat.beq t 100 = false := by
      cases hq : Nat.beq t 100 with
      | false => rfl
      | true => have := Nat.eq_of_beq_eq_true hq; omega
    rw [this, cond_false]
    omega
theorem mjGet_I {t c : Nat} {Z : mjZ} {z : Int} (h : mjOk t c) (ht : mjIt t = true) (h0 : 0 ≤ z) (hz : z < mjNn t c) : ((mjSc none (mjMZ Z) (c + 1)).bind fun xs => mjAt? xs (Int32.ofInt z)) = some (Int32.ofInt (Z c z.toNat)) := by
  obtain ⟨xs, h1, h2, h3⟩ := mjTg_I2 h ht
  have e : mjSc none (mjMZ Z) (c + 1) = some (mjA xs.length fun i => Int32.ofInt (Z c i)) := by
    show mjArI (mjMZ Z) c = _
    unfold mjArI
    rw [mjMZ_get (mjTg_lt h), h1]
    rfl
  rw [e, Option.bind_some]
  exact mjA_at (mjR_idx h0) (by omega) (by omega)
theorem mjPut_I {t c : Nat} {Z : mjZ} {z w : Int} (h : mjOk t c) (ht : mjIt t = true) (h0 : 0 ≤ z) (hz : z < mjNn t c) : ∃ xs : List Int32, mjArI (mjMZ Z) c = some xs ∧ mjIn (Int32.ofInt z) xs.length = true ∧ (mjMZ Z).set c (.inr (.inl (xs.set (Int32.ofInt z).toNatClampNeg (Int32.ofInt w)))) = mjMZ (mjUp Z c z.toNat w) := by
  obtain ⟨xs, h1, h2, h3⟩ := mjTg_I2 h ht
  refine ⟨mjA xs.length fun i => Int32.ofInt (Z c i), ?_, mjA_in (mjR_idx h0) (by omega) (by omega), ?_⟩
  · unfold mjArI
    rw [mjMZ_get (mjTg_lt h), h1]
    rfl
  · apply mjMZ_set
    rw [h1]
    simp only [mjFill]
    rw [mjA_set, mjN_clamp (mjR_idx h0) (by omega)]
    congr 2
    apply mjA_ext
    intro i _
    unfold va_up
    by_cases hi : i = z.toNat <;> simp [hi]
theorem mjGet_J {t c : Nat} {Z : mjZ} {z : Int} (h : mjOk t c) (ht : Nat.ble 20000 t = true) (h0 : 0 ≤ z) (hz : z < ((t - 20000 : Nat) : Int)) : ((mjArJ (mjMZ Z) c).bind fun xs => mjAt? xs (Int32.ofInt z)) = some (Int64.ofInt (Z c z.toNat)) := by
  obtain ⟨xs, h1, h2, h3⟩ := mjTg_J h (Nat.le_of_ble_eq_true ht)
  have e : mjArJ (mjMZ Z) c = some (mjA xs.length fun i => Int64.ofInt (Z c i)) := by
    unfold mjArJ
    rw [mjMZ_get (mjTg_lt h), h1]
    rfl
  rw [e, Option.bind_some]
  exact mjA_at (mjR_idx h0) (by omega) (by omega)
theorem mjPut_J {t c : Nat} {Z : mjZ} {z w : Int} (h : mjOk t c) (ht : Nat.ble 20000 t = true) (h0 : 0 ≤ z) (hz : z < ((t - 20000 : Nat) : Int)) : ∃ xs : List Int64, mjArJ (mjMZ Z) c = some xs ∧ mjIn (Int32.ofInt z) xs.length = true ∧ (mjMZ Z).set c (.inr (.inr (.inl (xs.set (Int32.ofInt z).toNatClampNeg (Int64.ofInt w))))) = mjMZ (mjUp Z c z.toNat w) := by
  obtain ⟨xs, h1, h2, h3⟩ := mjTg_J h (Nat.le_of_ble_eq_true ht)
  refine ⟨mjA xs.length fun i => Int64.ofInt (Z c i), ?_, mjA_in (mjR_idx h0) (by omega) (by omega), ?_⟩
  · unfold mjArJ
    rw [mjMZ_get (mjTg_lt h), h1]
    rfl
  · apply mjMZ_set
    rw [h1]
    simp only [mjFill]
    rw [mjA_set, mjN_clamp (mjR_idx h0) (by omega)]
    congr 3
    apply mjA_ext
    intro i _
    unfold va_up
    by_cases hi : i = z.toNat <;> simp [hi]
theorem mjEl_get {t c off st : Nat} : ∀ (rs : List (Option Nat)) (k i : Nat), mjElB t c off st k rs = true → i < rs.length → rs[i]? = some (some (c + off + st * (k + i) + 1)) ∧ mjOk t (c + off + st * (k + i))
  | [], k, i, _, h => by simp at h
  | none :: rs, k, i, h, _ => by simp [mjElB] at h
  | some r :: rs, k, 0, h, _ => by
    simp only [mjElB, Bool.and_eq_true] at h
    have := Nat.eq_of_beq_eq_true h.1.1
    subst this
    exact ⟨rfl, h.1.2⟩
  | some r :: rs, k, i + 1, h, hi => by
    simp only [mjElB, Bool.and_eq_true] at h
    rw [List.length_cons] at hi
    have := mjEl_get rs (k + 1) i h.2 (by omega)
    rw [show k + 1 + i = k + (i + 1) by omega] at this
    rw [List.getElem?_cons_succ]
    exact this
/-- an element of a row of references -/
def mjEc (t c : Nat) (Z : mjZ) (z : Int) : Nat := bif Nat.beq t 35 then (Z c z.toNat).toNat else c + (mjRw t).2.2.1 + (mjRw t).2.2.2 * z.toNat
def mjEk (t c : Nat) (Z : mjZ) (z : Int) : Prop := bif Nat.beq t 35 then mjOk (mjRw t).2.1 (Z c z.toNat).toNat else True
theorem mjGet_R {t c : Nat} {Z : mjZ} {z : Int} (h : mjOk t c) (ht : (Nat.blt 29 t && Nat.blt t 38) = true) (h0 : 0 ≤ z) (hz : z < ((mjRw t).1 : Int)) (hk : mjEk t c Z z) : ((mjArR (mjMZ Z) c).bind fun o => mjAt? o.2 (Int32.ofInt z)) = some (some (mjEc t c Z z + 1)) ∧ mjOk (mjRw t).2.1 (mjEc t c Z z) := by
  rw [Bool.and_eq_true] at ht
  obtain ⟨o, h1, h2, h3, h4, h5⟩ := mjTg_R h ⟨Nat.blt_eq ▸ ht.1, Nat.blt_eq ▸ ht.2⟩
  have e : mjArR (mjMZ Z) c = some (o.1, bif Nat.beq o.2.length 36 then mjA 36 (fun i => some ((Z c i).toNat + 1)) else o.2) := by
    unfold mjArR
    rw [mjMZ_get (mjTg_lt h), h1]
    rfl
  rw [e, Option.bind_some]
  have hb : (mjRw t).1 < 4000 := by
    unfold mjRw
    repeat' (first | (simp; done) | (rw [cond_eq_ite]; split))
  unfold mjEk at hk
  unfold mjEc
  cases h35 : Nat.beq t 35 with
  | true =>
    rw [h35] at hk h5
    rw [← h5]
    simp only [cond_true] at hk ⊢
    have := Nat.eq_of_beq_eq_true h5.symm
    exact ⟨mjA_at (g := fun i => some ((Z c i).toNat + 1)) (mjR_idx h0) (by omega) (by omega), hk⟩
  | false =>
    rw [h35] at h5
    rw [← h5]
    simp only [cond_false]
    have hg := mjEl_get o.2 0 z.toNat h4 (by omega)
    rw [Nat.zero_add] at hg
    refine ⟨?_, hg.2⟩
    unfold mjAt?
    rw [if_neg (mjN_pos (mjR_idx h0) (by omega)), mjN_clamp (mjR_idx h0) (by omega)]
    exact hg.1
theorem mjPut_R {t c v : Nat} {Z : mjZ} {z : Int} (h : mjOk t c) (ht : Nat.beq t 35 = true) (h0 : 0 ≤ z) (hz : z < 36) (hv : mjOk 0 v) : ∃ o : Nat × List (Option Nat), mjArR (mjMZ Z) c = some o ∧ (mjIn (Int32.ofInt z) o.2.length && mjIs (mjMZ Z) (.ref (v + 1)) o.1) = true ∧ (mjMZ Z).set c (.inr (.inr (.inr (o.1, o.2.set (Int32.ofInt z).toNatClampNeg (some (v + 1)))))) = mjMZ (mjUp Z c z.toNat (v : Int)) := by
  have ht := Nat.eq_of_beq_eq_true ht
  subst ht
  obtain ⟨o, h1, h2, h3, h4, h5⟩ := mjTg_R h (by decide)
  have h6 : Nat.beq o.2.length 36 = true := h5.symm
  refine ⟨(o.1, mjA 36 fun i => some ((Z c i).toNat + 1)), ?_, ?_, ?_⟩
  · unfold mjArR
    rw [mjMZ_get (mjTg_lt h), h1]
    simp only [mjFill, h6, cond_true]
  · rw [Bool.and_eq_true]
    refine ⟨mjA_in (mjR_idx h0) (by omega) (by omega), ?_⟩
    obtain ⟨ts, g1, -, -⟩ := mjTg_ob hv rfl
    have h7 : o.1 = 0 := h3
    simp only [mjIs, mjMZ_get (mjTg_lt hv), g1, mjFill, h7]
    rfl
  · apply mjMZ_set
    rw [h1]
    simp only [mjFill, h6, cond_true]
    rw [mjA_set, mjN_clamp (mjR_idx h0) (by omega)]
    congr 4
    apply mjA_ext
    intro i _
    unfold va_up
    by_cases hi : i = z.toNat <;> simp [hi]
