/-! The polynomial's numbers are within bounds: row sums through the steps of its making. -/
def sm (n : Nat) (f : Nat → Int) : Int := fo (fun j s => s + f j) n 0
theorem sm_succ {n : Nat} {f : Nat → Int} : sm (n + 1) f = sm n f + f n := rfl
theorem sm_le {f g : Nat → Int} : ∀ n, (∀ j, j < n → f j ≤ g j) → sm n f ≤ sm n g
  | 0, _ => Int.le_refl _
  | n + 1, h => by
    have := sm_le n fun j hj => h j (by omega)
    have := h n (by omega)
    rw [sm_succ, sm_succ]
    omega
theorem sm_eq {f g : Nat → Int} : ∀ n, (∀ j, j < n → f j = g j) → sm n f = sm n g
  | 0, _ => rfl
  | n + 1, h => by rw [sm_succ, sm_succ, sm_eq n fun j hj => h j (by omega), h n (by omega)]
theorem sm_abs {f : Nat → Int} : ∀ n, bgA (sm n f) ≤ sm n (fun j => bgA (f j))
  | 0 => by show bgA 0 ≤ 0; decide
  | n + 1 => by
    have := sm_abs (f := f) n
    rw [sm_succ, sm_succ]
    unfold bgA at *
    split at this <;> split <;> split <;> omega
theorem sm_mul {f : Nat → Int} {c : Int} : ∀ n, sm n (fun j => c * f j) = c * sm n f
  | 0 => (Int.mul_zero c).symm
  | n + 1 => by rw [sm_succ, sm_succ, sm_mul n, Int.mul_add]
theorem sm_add {f g : Nat → Int} : ∀ n, sm n (fun j => f j + g j) = sm n f + sm n g
  | 0 => rfl
  | n + 1 => by rw [sm_succ, sm_succ, sm_succ, sm_add n]; omega
theorem sm_swap {F : Nat → Nat → Int} {m : Nat} : ∀ n, sm n (fun k => sm m (fun j => F j k)) = sm m (fun j => sm n (fun k => F j k))
  | 0 => by
    have : ∀ m, sm m (fun _ => 0) = 0 := by
      intro m
      induction m with
      | zero => rfl
      | succ m ih => rw [sm_succ, ih]; rfl
    exact (this m).symm
  | n + 1 => by
    rw [sm_succ, sm_swap n, ← sm_add]
    rfl
theorem sm_cst {f : Nat → Int} {B : Int} : ∀ n : Nat, (∀ j, j < n → f j ≤ B) → sm n f ≤ (n : Int) * B
  | 0, _ => by
    show (0 : Int) ≤ ((0 : Nat) : Int) * B
    rw [show ((0 : Nat) : Int) = 0 from rfl, Int.zero_mul]
    exact Int.le_refl _
  | n + 1, h => by
    have := sm_cst n fun j hj => h j (by omega)
    have := h n (by omega)
    rw [sm_succ, show ((n + 1 : Nat) : Int) = (n : Int) + 1 by omega, Int.add_mul, Int.one_mul]
    omega
theorem bgA_mul100 {x y : Int} (hx : -100 ≤ x ∧ x ≤ 100) : bgA (x * y) ≤ 100 * bgA y := by
  have hy : -(bgA y) ≤ y ∧ y ≤ bgA y := by unfold bgA; split <;> omega
  have := mul_bd hx hy
  generalize x * y = z at *
  generalize bgA y = w at *
  unfold bgA
  split <;> omega
theorem bgA_nn (x : Int) : 0 ≤ bgA x := by unfold bgA; split <;> omega
section LE
variable {n : Nat} {T M : Nat → Nat → Int} {R : Int}
def rs (n : Nat) (M : Nat → Nat → Int) (i : Nat) : Int := sm n (fun k => bgA (M i k))
theorem rs_mx {i : Nat} (h6 : n ≤ 6) (hT : ∀ i k, i < n → k < n → -100 ≤ T i k ∧ T i k ≤ 100) (hM : ∀ j, j < n → rs n M j ≤ R) (hR : 0 ≤ R) (hi : i < n) : rs n (mxM n T M) i ≤ 600 * R := by
  have e1 : rs n (mxM n T M) i ≤ sm n (fun k => sm n (fun j => 100 * bgA (M j k))) := sm_le n fun k hk => by
    have a : bgA (mxM n T M i k) ≤ sm n (fun j => bgA (T i j * M j k)) := sm_abs (f := fun j => T i j * M j k) n
    have b := sm_le (f := fun j => bgA (T i j * M j k)) (g := fun j => 100 * bgA (M j k)) n fun j hj => bgA_mul100 (hT i j hi hj)
    exact Int.le_trans a b
  rw [sm_swap (F := fun j k => 100 * bgA (M j k))] at e1
  have e2 := sm_cst (f := fun j => sm n (fun k => 100 * bgA (M j k))) (B := 100 * R) n fun j hj => by
    have := hM j hj
    unfold rs at this
    rw [sm_mul (f := fun k => bgA (M j k))]
    omega
  have e3 : (n : Int) * (100 * R) ≤ 6 * (100 * R) := Int.mul_le_mul_of_nonneg_right (by omega) (by omega)
  omega
theorem tr_mx (h6 : n ≤ 6) (hT : ∀ i k, i < n → k < n → -100 ≤ T i k ∧ T i k ≤ 100) (hM : ∀ j, j < n → rs n M j ≤ R) (hR : 0 ≤ R) : bgA (mxTr n (mxM n T M)) ≤ 600 * R := by
  have e0 : bgA (mxTr n (mxM n T M)) ≤ sm n (fun i => bgA (mxM n T M i i)) := sm_abs (f := fun i => mxM n T M i i) n
  have e1 : sm n (fun i => bgA (mxM n T M i i)) ≤ sm n (fun i => sm n (fun j => 100 * bgA (M j i))) := sm_le n fun i hi => by
    have a : bgA (mxM n T M i i) ≤ sm n (fun j => bgA (T i j * M j i)) := sm_abs (f := fun j => T i j * M j i) n
    have b := sm_le (f := fun j => bgA (T i j * M j i)) (g := fun j => 100 * bgA (M j i)) n fun j hj => bgA_mul100 (hT i j hi hj)
    exact Int.le_trans a b
  rw [sm_swap (F := fun j k => 100 * bgA (M j k))] at e1
  have e2 := sm_cst (f := fun j => sm n (fun k => 100 * bgA (M j k))) (B := 100 * R) n fun j hj => by
    have := hM j hj
    unfold rs at this
    rw [sm_mul (f := fun k => bgA (M j k))]
    omega
  have e3 : (n : Int) * (100 * R) ≤ 6 * (100 * R) := Int.mul_le_mul_of_nonneg_right (by omega) (by omega)
  omega
/-- the steps: a coefficient, a table -/
def leC (n : Nat) (T M : Nat → Nat → Int) (r : Nat) : Int := Int.tdiv (-(mxTr n (mxM n T M))) ((r : Int) + 1)
def leS (n : Nat) (T M : Nat → Nat → Int) (r : Nat) (i k : Nat) : Int := mxM n T M i k + if i = k then leC n T M r else 0
def leB (n : Nat) (T : Nat → Nat → Int) : Nat → Nat → Nat → Int
  | 0 => fun i k => if i = k then 1 else 0
  | r + 1 => leS n T (leB n T r) r
theorem tdiv_bd {a A : Int} {k : Nat} (h : bgA a ≤ A) (hA : 0 ≤ A) : bgA (Int.tdiv a ((k : Int) + 1)) ≤ A / ((k : Int) + 1) := by
  have hk : (0 : Int) < (k : Int) + 1 := by omega
  have pos : ∀ b : Int, 0 ≤ b → b ≤ A → 0 ≤ Int.tdiv b ((k : Int) + 1) ∧ Int.tdiv b ((k : Int) + 1) ≤ A / ((k : Int) + 1) := fun b h0 h1 => by
    rw [Int.tdiv_eq_ediv_of_nonneg h0]
    exact ⟨Int.ediv_nonneg h0 (by omega), Int.ediv_le_ediv hk h1⟩
  by_cases g : 0 ≤ a
  · have e : bgA a = a := if_pos g
    have := pos a g (by omega)
    unfold bgA
    split <;> omega
  · have e : bgA a = -a := if_neg g
    have := pos (-a) (by omega) (by omega)
    rw [Int.neg_tdiv] at this
    unfold bgA
    split <;> omega
theorem rs_id {i : Nat} : rs n (leB n T 0) i ≤ 1 := by
  have : ∀ m, sm m (fun k => bgA (leB n T 0 i k)) = if i < m then 1 else 0 := by
    intro m
    induction m with
    | zero => rfl
    | succ m ih =>
      rw [sm_succ, ih]
      show _ + bgA (if i = m then 1 else 0) = _
      by_cases h : i = m
      · rw [if_neg (by omega), if_pos h, if_pos (by omega)]; rfl
      · rw [if_neg h, show bgA 0 = 0 from rfl, Int.add_zero]
        by_cases g : i < m
        · rw [if_pos g, if_pos (by omega)]
        · rw [if_neg g, if_neg (by omega)]
  unfold rs
  rw [this]
  split <;> omega
theorem rs_step {r i : Nat} (h6 : n ≤ 6) (hT : ∀ i k, i < n → k < n → -100 ≤ T i k ∧ T i k ≤ 100) (hM : ∀ j, j < n → rs n M j ≤ R) (hR : 0 ≤ R) (hi : i < n) : rs n (leS n T M r) i ≤ 600 * R + 600 * R / ((r : Int) + 1) := by
  have a := rs_mx h6 hT hM hR hi
  have c : bgA (leC n T M r) ≤ 600 * R / ((r : Int) + 1) := by
    refine tdiv_bd ?_ (by omega)
    have := tr_mx h6 hT hM hR
    generalize mxTr n (mxM n T M) = z at *
    unfold bgA at *
    split at this <;> split <;> omega
  have e : ∀ m, sm m (fun k => bgA (leS n T M r i k)) ≤ sm m (fun k => bgA (mxM n T M i k)) + if i < m then bgA (leC n T M r) else 0 := by
    intro m
    induction m with
    | zero => rw [if_neg (by omega)]; exact Int.le_refl _
    | succ m ih =>
      rw [sm_succ, sm_succ]
      have cn := bgA_nn (leC n T M r)
      have st : bgA (leS n T M r i m) ≤ bgA (mxM n T M i m) + if i = m then bgA (leC n T M r) else 0 := by
        unfold leS
        generalize mxM n T M i m = u
        generalize leC n T M r = v
        by_cases h : i = m
        · rw [if_pos h, if_pos h]
          unfold bgA
          split <;> split <;> split <;> omega
        · rw [if_neg h, if_neg h, Int.add_zero, Int.add_zero]
          exact Int.le_refl _
      by_cases h : i = m
      · rw [if_pos h] at st
        rw [if_neg (by omega)] at ih
        rw [if_pos (by omega)]
        omega
      · rw [if_neg h] at st
        by_cases g : i < m
        · rw [if_pos g] at ih
          rw [if_pos (by omega)]
          omega
        · rw [if_neg g] at ih
          rw [if_neg (by omega)]
          omega
  have e2 := e n
  rw [if_pos hi] at e2
  unfold rs at a ⊢
  omega
theorem rs_le (h6 : n ≤ 6) (hT : ∀ i k, i < n → k < n → -100 ≤ T i k ∧ T i k ≤ 100) : ∀ r, r ≤ 5 → ∀ i, i < n → rs n (leB n T r) i ≤ 466560000000000 := by
  have s0 : ∀ i, i < n → rs n (leB n T 0) i ≤ 1 := fun i _ => rs_id
  have s1 : ∀ i, i < n → rs n (leB n T 1) i ≤ 1200 := fun i hi => by have := rs_step (r := 0) h6 hT s0 (by omega) hi; exact Int.le_trans this (by decide)
  have s2 : ∀ i, i < n → rs n (leB n T 2) i ≤ 1080000 := fun i hi => by have := rs_step (r := 1) h6 hT s1 (by omega) hi; exact Int.le_trans this (by decide)
  have s3 : ∀ i, i < n → rs n (leB n T 3) i ≤ 864000000 := fun i hi => by have := rs_step (r := 2) h6 hT s2 (by omega) hi; exact Int.le_trans this (by decide)
  have s4 : ∀ i, i < n → rs n (leB n T 4) i ≤ 648000000000 := fun i hi => by have := rs_step (r := 3) h6 hT s3 (by omega) hi; exact Int.le_trans this (by decide)
  have s5 : ∀ i, i < n → rs n (leB n T 5) i ≤ 466560000000000 := fun i hi => by have := rs_step (r := 4) h6 hT s4 (by omega) hi; exact Int.le_trans this (by decide)
  intro r hr i hi
  match r, hr with
  | 0, _ => exact Int.le_trans (s0 i hi) (by decide)
  | 1, _ => exact Int.le_trans (s1 i hi) (by decide)
  | 2, _ => exact Int.le_trans (s2 i hi) (by decide)
  | 3, _ => exact Int.le_trans (s3 i hi) (by decide)
  | 4, _ => exact Int.le_trans (s4 i hi) (by decide)
  | 5, _ => exact s5 i hi
theorem le_tr {r : Nat} (h6 : n ≤ 6) (hT : ∀ i k, i < n → k < n → -100 ≤ T i k ∧ T i k ≤ 100) (hr : r ≤ 5) : bgA (mxTr n (mxM n T (leB n T r))) ≤ 279936000000000000 := by
  have := tr_mx h6 hT (rs_le h6 hT r hr) (by omega)
  exact Int.le_trans this (by decide)
theorem le_c {r : Nat} (h6 : n ≤ 6) (hT : ∀ i k, i < n → k < n → -100 ≤ T i k ∧ T i k ≤ 100) (hr : r ≤ 5) : bgA (leC n T (leB n T r) r) ≤ 279936000000000000 := by
  have t := le_tr h6 hT hr
  have : bgA (leC n T (leB n T r) r) ≤ 279936000000000000 / ((r : Int) + 1) := by
    refine tdiv_bd ?_ (by omega)
    generalize mxTr n (mxM n T (leB n T r)) = z at *
    unfold bgA at *
    split at t <;> split <;> omega
  exact Int.le_trans this (Int.ediv_le_self _ (by omega))
end LE
