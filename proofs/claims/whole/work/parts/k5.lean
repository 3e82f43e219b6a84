/-! Tables over a field, straightened by three terms. -/
theorem ks_nn {K : Type} [Lean.Grind.Field K] [LE K] [LT K] [Std.LawfulOrderLT K] [Std.IsLinearOrder K] [Lean.Grind.OrderedRing K] {f : Nat → K} : ∀ n, (∀ j, j < n → 0 ≤ f j) → 0 ≤ ks n f
  | 0, _ => by
    show (0 : K) ≤ 0
    grind
  | n + 1, h => by
    have h1 := ks_nn n fun j hj => h j (by omega)
    have h2 := h n (by omega)
    rw [ks_succ]
    grind
theorem ks_nz {K : Type} [Lean.Grind.Field K] [LE K] [LT K] [Std.LawfulOrderLT K] [Std.IsLinearOrder K] [Lean.Grind.OrderedRing K] {f : Nat → K} : ∀ n, (∀ j, j < n → 0 ≤ f j) → ks n f = 0 → ∀ j, j < n → f j = 0
  | 0, _, _, j, hj => by omega
  | n + 1, h, e, j, hj => by
    have h1 := ks_nn n fun j hj => h j (by omega)
    have h2 := h n (by omega)
    rw [ks_succ] at e
    have e1 : ks n f = 0 := by grind
    by_cases g : j = n
    · rw [g]
      grind
    · exact ks_nz n (fun j hj => h j (by omega)) e1 j (by omega)
def kin {R : Type} [Lean.Grind.CommRing R] (n : Nat) (A B : Nat → Nat → R) : R := ks n fun i => ks n fun j => A i j * B i j
def kmx {R : Type} [Lean.Grind.CommRing R] (n : Nat) (T A : Nat → Nat → R) (i j : Nat) : R := ks n fun l => T i l * A l j
def kid {R : Type} [Lean.Grind.CommRing R] (i j : Nat) : R := if i = j then 1 else 0
theorem kin_eq {R : Type} [Lean.Grind.CommRing R] {n : Nat} {A B C D : Nat → Nat → R} (h1 : ∀ i j, i < n → j < n → A i j = C i j) (h2 : ∀ i j, i < n → j < n → B i j = D i j) : kin n A B = kin n C D := ks_eq n fun i hi => ks_eq n fun j hj => by rw [h1 i j hi hj, h2 i j hi hj]
theorem kin_comm {R : Type} [Lean.Grind.CommRing R] {n : Nat} {A B : Nat → Nat → R} : kin n A B = kin n B A := ks_eq n fun i _ => ks_eq n fun j _ => by grind
theorem kin_add {R : Type} [Lean.Grind.CommRing R] {n : Nat} {A B C : Nat → Nat → R} : kin n (fun i j => A i j + B i j) C = kin n A C + kin n B C := by
  unfold kin
  rw [← ks_add]
  refine ks_eq n fun i _ => ?_
  rw [← ks_add]
  exact ks_eq n fun j _ => by grind
theorem kin_mul {R : Type} [Lean.Grind.CommRing R] {n : Nat} {A C : Nat → Nat → R} {a : R} : kin n (fun i j => a * A i j) C = a * kin n A C := by
  unfold kin
  rw [← ks_mul]
  refine ks_eq n fun i _ => ?_
  rw [← ks_mul]
  exact ks_eq n fun j _ => by grind
theorem kin_lin {R : Type} [Lean.Grind.CommRing R] {n : Nat} {A B C D E : Nat → Nat → R} {a b c : R} (h : ∀ i j, i < n → j < n → E i j = a * A i j + b * B i j + c * C i j) : kin n E D = a * kin n A D + b * kin n B D + c * kin n C D := by
  rw [kin_eq h fun _ _ _ _ => rfl, kin_add (A := fun i j => a * A i j + b * B i j) (B := fun i j => c * C i j), kin_add (A := fun i j => a * A i j) (B := fun i j => b * B i j), kin_mul, kin_mul, kin_mul]
theorem kin_sa {R : Type} [Lean.Grind.CommRing R] {n : Nat} {T A B : Nat → Nat → R} (hT : ∀ i j, i < n → j < n → T i j = T j i) : kin n (kmx n T A) B = kin n A (kmx n T B) := by
  have e1 : kin n (kmx n T A) B = ks n fun i => ks n fun j => ks n fun l => T i l * A l j * B i j := ks_eq n fun i _ => ks_eq n fun j _ => by
    show ks n (fun l => T i l * A l j) * B i j = _
    have : ks n (fun l => T i l * A l j) * B i j = B i j * ks n (fun l => T i l * A l j) := by grind
    rw [this, ← ks_mul]
    exact ks_eq n fun l _ => by grind
  have e2 : ks n (fun i => ks n fun j => ks n fun l => T i l * A l j * B i j) = ks n fun i => ks n fun l => ks n fun j => T i l * A l j * B i j := ks_eq n fun i _ => ks_swap (F := fun l j => T i l * A l j * B i j) n
  have e3 : ks n (fun i => ks n fun l => ks n fun j => T i l * A l j * B i j) = ks n fun l => ks n fun i => ks n fun j => T i l * A l j * B i j := ks_swap (F := fun l i => ks n fun j => T i l * A l j * B i j) n
  have e4 : ks n (fun l => ks n fun i => ks n fun j => T i l * A l j * B i j) = ks n fun l => ks n fun j => ks n fun i => T i l * A l j * B i j := ks_eq n fun l _ => ks_swap (F := fun j i => T i l * A l j * B i j) n
  rw [e1, e2, e3, e4]
  refine ks_eq n fun l hl => ks_eq n fun j _ => ?_
  show _ = A l j * ks n fun i => T l i * B i j
  rw [← ks_mul]
  exact ks_eq n fun i hi => by rw [hT i l hi hl]; grind
theorem kin_nn {K : Type} [Lean.Grind.Field K] [LE K] [LT K] [Std.LawfulOrderLT K] [Std.IsLinearOrder K] [Lean.Grind.OrderedRing K] {n : Nat} {A : Nat → Nat → K} : 0 ≤ kin n A A := ks_nn n fun i _ => ks_nn n fun j _ => k_sq _
theorem kin_nz {K : Type} [Lean.Grind.Field K] [LE K] [LT K] [Std.LawfulOrderLT K] [Std.IsLinearOrder K] [Lean.Grind.OrderedRing K] {n : Nat} {A : Nat → Nat → K} (h : kin n A A = 0) : ∀ i j, i < n → j < n → A i j = 0 := fun i j hi hj => by
  have h1 := ks_nz n (fun i _ => ks_nn n fun j _ => k_sq (A i j)) h i hi
  have h2 := ks_nz n (fun j _ => k_sq (A i j)) h1 j hj
  rcases Lean.Grind.Field.of_mul_eq_zero h2 with g | g <;> exact g
theorem kmx_lin {R : Type} [Lean.Grind.CommRing R] {n i j : Nat} {T A B C E : Nat → Nat → R} {a b c : R} (h : ∀ l, l < n → E l j = a * A l j + b * B l j + c * C l j) : kmx n T E i j = a * kmx n T A i j + b * kmx n T B i j + c * kmx n T C i j := by
  unfold kmx
  rw [← ks_mul, ← ks_mul, ← ks_mul, ← ks_add, ← ks_add]
  exact ks_eq n fun l hl => by rw [h l hl]; grind
section LQ
def lzaF {K : Type} [Lean.Grind.Field K] (n : Nat) (T A : Nat → Nat → K) : K := kin n (kmx n T A) A * (kin n A A)⁻¹
def lzbF {K : Type} [Lean.Grind.Field K] (n : Nat) (A B : Nat → Nat → K) : K := kin n A A * (kin n B B)⁻¹
def lzq {K : Type} [Lean.Grind.Field K] (n : Nat) (T : Nat → Nat → K) : Nat → Nat → Nat → K
  | 0 => kid
  | 1 => fun i j => kmx n T kid i j - lzaF n T kid * kid i j
  | k + 2 => fun i j => kmx n T (lzq n T (k + 1)) i j - lzaF n T (lzq n T (k + 1)) * lzq n T (k + 1) i j - lzbF n (lzq n T (k + 1)) (lzq n T k) * lzq n T k i j
def lza {K : Type} [Lean.Grind.Field K] (n : Nat) (T : Nat → Nat → K) (k : Nat) : K := lzaF n T (lzq n T k)
def lzb {K : Type} [Lean.Grind.Field K] (n : Nat) (T : Nat → Nat → K) : Nat → K
  | 0 => 0
  | k + 1 => lzbF n (lzq n T (k + 1)) (lzq n T k)
def lzN {K : Type} [Lean.Grind.Field K] (n : Nat) (T : Nat → Nat → K) (k : Nat) : K := kin n (lzq n T k) (lzq n T k)
def lzv {K : Type} [Lean.Grind.Field K] (n : Nat) (T : Nat → Nat → K) (x : K) : Nat → K
  | 0 => 1
  | 1 => x - lza n T 0
  | k + 2 => (x - lza n T (k + 1)) * lzv n T x (k + 1) - lzb n T (k + 1) * lzv n T x k
def lzC {K : Type} [Lean.Grind.Field K] (n : Nat) (T : Nat → Nat → K) (x : K) : Nat → Nat → Nat → K
  | 0 => fun _ _ => 0
  | 1 => lzq n T 0
  | k + 2 => fun i j => (x - lza n T (k + 1)) * lzC n T x (k + 1) i j - lzb n T (k + 1) * lzC n T x k i j + lzq n T (k + 1) i j
theorem lzq_step {K : Type} [Lean.Grind.Field K] {n : Nat} {T : Nat → Nat → K} {i j : Nat} : ∀ k, lzq n T (k + 1) i j = kmx n T (lzq n T k) i j - lza n T k * lzq n T k i j - lzb n T k * lzq n T (k - 1) i j
  | 0 => by
    show kmx n T kid i j - lzaF n T kid * kid i j = kmx n T kid i j - lzaF n T kid * kid i j - 0 * _
    grind
  | k + 1 => rfl
theorem lzC_step {K : Type} [Lean.Grind.Field K] {n : Nat} {T : Nat → Nat → K} {x : K} {i j : Nat} : ∀ k, lzC n T x (k + 1) i j = (x - lza n T k) * lzC n T x k i j - lzb n T k * lzC n T x (k - 1) i j + lzq n T k i j
  | 0 => by
    show lzq n T 0 i j = (x - lza n T 0) * 0 - 0 * 0 + lzq n T 0 i j
    grind
  | k + 1 => rfl
theorem lzv_step {K : Type} [Lean.Grind.Field K] {n : Nat} {T : Nat → Nat → K} {x : K} : ∀ k, lzv n T x (k + 1) = (x - lza n T k) * lzv n T x k - lzb n T k * lzv n T x (k - 1)
  | 0 => by
    show x - lza n T 0 = (x - lza n T 0) * 1 - 0 * _
    grind
  | k + 1 => rfl
theorem lzT_step {K : Type} [Lean.Grind.Field K] {n : Nat} {T : Nat → Nat → K} {i j : Nat} (k : Nat) : kmx n T (lzq n T k) i j = 1 * lzq n T (k + 1) i j + lza n T k * lzq n T k i j + lzb n T k * lzq n T (k - 1) i j := by
  rw [lzq_step k]
  grind
theorem lzb_N {K : Type} [Lean.Grind.Field K] {n : Nat} {T : Nat → Nat → K} {k : Nat} (h : lzN n T k ≠ 0) : lzb n T (k + 1) * lzN n T k = lzN n T (k + 1) := by
  show lzN n T (k + 1) * (lzN n T k)⁻¹ * lzN n T k = _
  have : (lzN n T k)⁻¹ * lzN n T k = 1 := Lean.Grind.Field.inv_mul_cancel h
  grind
theorem lzq_orth {K : Type} [Lean.Grind.Field K] {n : Nat} {T : Nat → Nat → K} (hT : ∀ i j, i < n → j < n → T i j = T j i) : ∀ k, (∀ j, j < k → lzN n T j ≠ 0) → ∀ i j, j < i → i ≤ k → kin n (lzq n T i) (lzq n T j) = 0
  | 0, _, i, j, h1, h2 => by omega
  | k + 1, h, i, j, h1, h2 => by
    have ih := lzq_orth hT k fun j hj => h j (by omega)
    by_cases g : i ≤ k
    · exact ih i j h1 g
    obtain rfl : i = k + 1 := by omega
    have e1 : kin n (lzq n T (k + 1)) (lzq n T j) = 1 * kin n (kmx n T (lzq n T k)) (lzq n T j) + -(lza n T k) * kin n (lzq n T k) (lzq n T j) + -(lzb n T k) * kin n (lzq n T (k - 1)) (lzq n T j) := kin_lin fun a b _ _ => by
      rw [lzq_step k]
      grind
    rw [e1]
    by_cases g2 : j = k
    · subst g2
      have e2 : lza n T j * kin n (lzq n T j) (lzq n T j) = kin n (kmx n T (lzq n T j)) (lzq n T j) := by
        show _ * (kin n (lzq n T j) (lzq n T j))⁻¹ * _ = _
        have : (kin n (lzq n T j) (lzq n T j))⁻¹ * kin n (lzq n T j) (lzq n T j) = 1 := Lean.Grind.Field.inv_mul_cancel (h j (by omega))
        grind
      have e3 : lzb n T j * kin n (lzq n T (j - 1)) (lzq n T j) = 0 := by
        cases j with
        | zero =>
          show (0 : K) * _ = 0
          grind
        | succ j =>
          rw [kin_comm, show j + 1 - 1 = j from rfl, ih (j + 1) j (by omega) (by omega)]
          grind
      grind
    · have hj : j < k := by omega
      have e2 : kin n (kmx n T (lzq n T k)) (lzq n T j) = 1 * kin n (lzq n T (j + 1)) (lzq n T k) + lza n T j * kin n (lzq n T j) (lzq n T k) + lzb n T j * kin n (lzq n T (j - 1)) (lzq n T k) := by
        rw [kin_sa hT, kin_comm]
        exact kin_lin fun a b _ _ => lzT_step j
      have e3 : kin n (lzq n T k) (lzq n T j) = 0 := ih k j hj (Nat.le_refl _)
      have e4 : kin n (lzq n T j) (lzq n T k) = 0 := by rw [kin_comm, e3]
      have e5 : lzb n T j * kin n (lzq n T (j - 1)) (lzq n T k) = 0 := by
        cases j with
        | zero =>
          show (0 : K) * _ = 0
          grind
        | succ j =>
          rw [kin_comm, ih k (j + 1 - 1) (by omega) (by omega)]
          grind
      rw [e2, e3, e4, e5]
      obtain ⟨k, rfl⟩ : ∃ l, k = l + 1 := ⟨k - 1, by omega⟩
      by_cases g3 : j = k
      · subst g3
        have := lzb_N (T := T) (n := n) (k := j) (h j (by omega))
        have e6 : kin n (lzq n T (j + 1)) (lzq n T (j + 1)) = lzN n T (j + 1) := rfl
        have e7 : kin n (lzq n T (j + 1 - 1)) (lzq n T j) = lzN n T j := rfl
        rw [e6, e7]
        grind
      · rw [kin_comm (A := lzq n T (j + 1)), ih (k + 1) (j + 1) (by omega) (by omega), ih (k + 1 - 1) j (by omega) (by omega)]
        grind
theorem lzC_mul {K : Type} [Lean.Grind.Field K] {n : Nat} {T : Nat → Nat → K} {x : K} {i j : Nat} (hi : i < n) : ∀ k, x * lzC n T x k i j - kmx n T (lzC n T x k) i j = lzv n T x k * kid i j - lzq n T k i j
  | 0 => by
    have : kmx n T (lzC n T x 0) i j = 0 := ks_zero n fun l _ => by
      show T i l * 0 = 0
      grind
    rw [this]
    show x * 0 - 0 = 1 * kid i j - kid i j
    grind
  | 1 => by
    have h := lzT_step (T := T) (n := n) (i := i) (j := j) 0
    show x * lzq n T 0 i j - kmx n T (lzq n T 0) i j = (x - lza n T 0) * lzq n T 0 i j - lzq n T 1 i j
    have : lzb n T 0 = 0 := rfl
    grind
  | k + 2 => by
    have h1 := lzC_mul (T := T) (x := x) (j := j) hi (k + 1)
    have h2 := lzC_mul (T := T) (x := x) (j := j) hi k
    have e1 : kmx n T (lzC n T x (k + 2)) i j = (x - lza n T (k + 1)) * kmx n T (lzC n T x (k + 1)) i j + -(lzb n T (k + 1)) * kmx n T (lzC n T x k) i j + 1 * kmx n T (lzq n T (k + 1)) i j := kmx_lin fun l _ => by
      show (x - lza n T (k + 1)) * lzC n T x (k + 1) l j - lzb n T (k + 1) * lzC n T x k l j + lzq n T (k + 1) l j = _
      grind
    have h3 := lzT_step (T := T) (n := n) (i := i) (j := j) (k + 1)
    rw [e1, h3]
    show x * ((x - lza n T (k + 1)) * lzC n T x (k + 1) i j - lzb n T (k + 1) * lzC n T x k i j + lzq n T (k + 1) i j) - _ = ((x - lza n T (k + 1)) * lzv n T x (k + 1) - lzb n T (k + 1) * lzv n T x k) * kid i j - _
    rw [show k + 1 - 1 = k from rfl]
    grind
/-- what the steps D come to, against the rows of three terms -/
theorem lzD_in {K : Type} [Lean.Grind.Field K] {n : Nat} {T : Nat → Nat → K} {D : Nat → Nat → Nat → K} {c : Nat → K} (hT : ∀ i j, i < n → j < n → T i j = T j i) (D0 : ∀ i j, i < n → j < n → D 0 i j = kid i j) (Ds : ∀ r i j, i < n → j < n → D (r + 1) i j = kmx n T (D r) i j + c r * kid i j) (h : ∀ j, lzN n T j ≠ 0) : ∀ r k, r ≤ k → kin n (D r) (lzq n T k) = if r = k then lzN n T k else 0
  | 0, k, _ => by
    rw [kin_eq D0 fun _ _ _ _ => rfl]
    by_cases g : 0 = k
    · rw [if_pos g, ← g]
      rfl
    · rw [if_neg g, kin_comm]
      exact lzq_orth hT k (fun j _ => h j) k 0 (by omega) (Nat.le_refl _)
  | r + 1, k, hk => by
    have e1 : kin n (D (r + 1)) (lzq n T k) = 1 * kin n (kmx n T (D r)) (lzq n T k) + c r * kin n kid (lzq n T k) + 0 * kin n kid (lzq n T k) := kin_lin fun i j hi hj => by
      rw [Ds r i j hi hj]
      grind
    have e2 : kin n kid (lzq n T k) = 0 := by
      rw [kin_comm]
      exact lzq_orth hT k (fun j _ => h j) k 0 (by omega) (Nat.le_refl _)
    have e3 : kin n (kmx n T (D r)) (lzq n T k) = 1 * kin n (lzq n T (k + 1)) (D r) + lza n T k * kin n (lzq n T k) (D r) + lzb n T k * kin n (lzq n T (k - 1)) (D r) := by
      rw [kin_sa hT, kin_comm]
      exact kin_lin fun a b _ _ => lzT_step k
    rw [e1, e2, e3, kin_comm (A := lzq n T (k + 1)), kin_comm (A := lzq n T k), kin_comm (A := lzq n T (k - 1)), lzD_in hT D0 Ds h r (k + 1) (by omega), lzD_in hT D0 Ds h r k (by omega), lzD_in hT D0 Ds h r (k - 1) (by omega), if_neg (show ¬ r = k + 1 by omega), if_neg (show ¬ r = k by omega)]
    obtain ⟨k, rfl⟩ : ∃ l, k = l + 1 := ⟨k - 1, by omega⟩
    rw [show k + 1 - 1 = k from rfl]
    by_cases g : r = k
    · rw [if_pos g, if_pos (by omega)]
      have := lzb_N (h k)
      grind
    · rw [if_neg g, if_neg (by omega)]
      grind
theorem lst {P : Nat → Prop} (n : Nat) (h : P n) : ∃ m, P m ∧ ∀ j, j < m → ¬ P j := by
  induction n using Nat.strongRecOn with
  | _ n ih =>
    rcases Classical.em (∃ j, j < n ∧ P j) with g | g
    · obtain ⟨j, h1, h2⟩ := g
      exact ih j h1 h2
    · exact ⟨n, h, fun j hj hp => g ⟨j, hj, hp⟩⟩
/-- a polynomial's worth -/
def PF {R : Type} [Lean.Grind.CommRing R] (f : R → R) : Prop := ∃ n c, ∀ x, f x = pe n c x
theorem pe_cut {R : Type} [Lean.Grind.CommRing R] {n : Nat} {c : Nat → R} {x : R} (k : Nat) : pe (n + k) (fun i => if i < n then c i else 0) x = pe n c x := by
  rw [pe_more k fun i h1 _ => if_neg (by omega)]
  exact pe_eq n fun i hi => if_pos hi
theorem PF_add {R : Type} [Lean.Grind.CommRing R] {f g : R → R} (h1 : PF f) (h2 : PF g) : PF fun x => f x + g x := by
  obtain ⟨n, c, hc⟩ := h1
  obtain ⟨m, e, he⟩ := h2
  refine ⟨n + m, fun i => (if i < n then c i else 0) + if i < m then e i else 0, fun x => ?_⟩
  rw [pe_add, pe_cut, Nat.add_comm n m, pe_cut, ← hc, ← he]
theorem PF_mul {R : Type} [Lean.Grind.CommRing R] {f : R → R} (a : R) (h1 : PF f) : PF fun x => a * f x := by
  obtain ⟨n, c, hc⟩ := h1
  exact ⟨n, fun i => a * c i, fun x => by rw [pe_mul, ← hc]⟩
theorem PF_x {R : Type} [Lean.Grind.CommRing R] {f : R → R} (h1 : PF f) : PF fun x => x * f x := by
  obtain ⟨n, c, hc⟩ := h1
  exact ⟨n + 1, su c, fun x => by rw [pe_su, ← hc]⟩
theorem PF_c {R : Type} [Lean.Grind.CommRing R] (a : R) : PF fun _ => a := ⟨1, fun _ => a, fun x => by
  show a = a + x * 0
  grind⟩
theorem PF_eq {R : Type} [Lean.Grind.CommRing R] {f g : R → R} (h : ∀ x, g x = f x) (h1 : PF f) : PF g := by
  obtain ⟨n, c, hc⟩ := h1
  exact ⟨n, c, fun x => by rw [h, hc]⟩
theorem PF_ks {R : Type} [Lean.Grind.CommRing R] {f : Nat → R → R} (h : ∀ i, PF (f i)) : ∀ n, PF fun x => ks n fun i => f i x
  | 0 => PF_c 0
  | n + 1 => PF_add (PF_ks h n) (h n)
theorem lzC_PF {K : Type} [Lean.Grind.Field K] {n : Nat} {T : Nat → Nat → K} {i j : Nat} : ∀ k, PF fun x => lzC n T x k i j
  | 0 => PF_c 0
  | 1 => PF_c (lzq n T 0 i j)
  | k + 2 => PF_eq (fun x => by
      show (x - lza n T (k + 1)) * lzC n T x (k + 1) i j - lzb n T (k + 1) * lzC n T x k i j + lzq n T (k + 1) i j = x * lzC n T x (k + 1) i j + -(lza n T (k + 1)) * lzC n T x (k + 1) i j + -(lzb n T (k + 1)) * lzC n T x k i j + lzq n T (k + 1) i j
      grind) (PF_add (PF_add (PF_add (PF_x (lzC_PF (k + 1))) (PF_mul _ (lzC_PF (k + 1)))) (PF_mul _ (lzC_PF k))) (PF_c _))
theorem lzv_M {K : Type} [Lean.Grind.Field K] {n : Nat} {T : Nat → Nat → K} : ∀ k, ∃ c : Nat → K, c k = 1 ∧ (∀ i, k < i → c i = 0) ∧ ∀ x, lzv n T x k = pe (k + 1) c x
  | 0 => ⟨fun i => if i = 0 then 1 else 0, rfl, fun i hi => if_neg (by omega), fun x => by
    show (1 : K) = 1 + x * 0
    grind⟩
  | 1 => ⟨fun i => if i = 0 then -(lza n T 0) else if i = 1 then 1 else 0, rfl, fun i hi => (if_neg (by omega)).trans (if_neg (by omega)), fun x => by
    show x - lza n T 0 = -(lza n T 0) + x * (1 + x * 0)
    grind⟩
  | k + 2 => by
    obtain ⟨c, c1, c2, c3⟩ := lzv_M (n := n) (T := T) (k + 1)
    obtain ⟨e, e1, e2, e3⟩ := lzv_M (n := n) (T := T) k
    refine ⟨fun i => su c i + -(lza n T (k + 1)) * c i + -(lzb n T (k + 1)) * e i, ?_, fun i hi => ?_, fun x => ?_⟩
    · show c (k + 1) + _ * c (k + 2) + _ * e (k + 2) = 1
      rw [c1, c2 _ (by omega), e2 _ (by omega)]
      grind
    · obtain ⟨i, rfl⟩ : ∃ j, i = j + 1 := ⟨i - 1, by omega⟩
      show c i + _ * c (i + 1) + _ * e (i + 1) = 0
      rw [c2 _ (by omega), c2 _ (by omega), e2 _ (by omega)]
      grind
    · rw [pe_add (c := fun i => su c i + -(lza n T (k + 1)) * c i) (e := fun i => -(lzb n T (k + 1)) * e i), pe_add, pe_su, pe_mul, pe_mul, ← c3, pe_more (n := k + 2) 1 fun i h1 _ => c2 i (by omega), ← c3, pe_more (n := k + 1) 2 fun i h1 _ => e2 i (by omega), ← e3]
      show (x - lza n T (k + 1)) * lzv n T x (k + 1) - lzb n T (k + 1) * lzv n T x k = _
      grind
theorem lzC_in {K : Type} [Lean.Grind.Field K] {n : Nat} {T : Nat → Nat → K} {x : K} {m : Nat} (hT : ∀ i j, i < n → j < n → T i j = T j i) (h : ∀ j, j < m → lzN n T j ≠ 0) : ∀ k j, k ≤ j → j < m → kin n (lzC n T x k) (lzq n T j) = 0 ∧ kin n (lzC n T x (k + 1)) (lzq n T j) = if j = k then lzN n T k else 0
  | 0, j, h1, h2 => by
    refine ⟨ks_zero n fun a _ => ks_zero n fun b _ => ?_, ?_⟩
    · show (0 : K) * _ = 0
      grind
    · show kin n (lzq n T 0) (lzq n T j) = _
      by_cases g : j = 0
      · rw [if_pos g, g]
        rfl
      · rw [if_neg g, kin_comm]
        exact lzq_orth hT j (fun i hi => h i (by omega)) j 0 (by omega) (Nat.le_refl _)
  | k + 1, j, h1, h2 => by
    have i1 := lzC_in (x := x) hT h k j (by omega) h2
    have e0 : kin n (lzC n T x (k + 1)) (lzq n T j) = 0 := by rw [i1.2, if_neg (by omega)]
    refine ⟨e0, ?_⟩
    have e1 : kin n (lzC n T x (k + 2)) (lzq n T j) = (x - lza n T (k + 1)) * kin n (lzC n T x (k + 1)) (lzq n T j) + -(lzb n T (k + 1)) * kin n (lzC n T x k) (lzq n T j) + 1 * kin n (lzq n T (k + 1)) (lzq n T j) := kin_lin fun a b _ _ => by
      show (x - lza n T (k + 1)) * lzC n T x (k + 1) a b - lzb n T (k + 1) * lzC n T x k a b + lzq n T (k + 1) a b = _
      grind
    rw [e1, e0, i1.1]
    by_cases g : j = k + 1
    · rw [if_pos g, g]
      show _ + 1 * lzN n T (k + 1) = _
      grind
    · rw [if_neg g, kin_comm, lzq_orth hT j (fun i hi => h i (by omega)) j (k + 1) (by omega) (Nat.le_refl _)]
      grind
/-- a table with equal numbers both ways about: a product of lines, all unlike, that it makes nothing -/
theorem lz_all {K : Type} [Lean.Grind.Field K] [LE K] [LT K] [Std.LawfulOrderLT K] [Std.IsLinearOrder K] [Lean.Grind.OrderedRing K] (iv : ivP K) {n : Nat} {T : Nat → Nat → K} {D : Nat → Nat → Nat → K} {c : Nat → K} (hn : 1 ≤ n) (hT : ∀ i j, i < n → j < n → T i j = T j i) (D0 : ∀ i j, i < n → j < n → D 0 i j = kid i j) (Ds : ∀ r i j, i < n → j < n → D (r + 1) i j = kmx n T (D r) i j + c r * kid i j) (Dn : ∀ i j, i < n → j < n → D n i j = 0) : ∃ (rs : List K) (C : K → Nat → Nat → K), (∃ u, dc u rs) ∧ (∀ x i j, i < n → j < n → x * C x i j - kmx n T (C x) i j = pl rs x * kid i j) ∧ (PF fun x => ks n fun i => C x i i) ∧ ∀ x, ∃ i j, i < n ∧ j < n ∧ C x i j ≠ 0 := by
  have h0 : ∃ k, lzN n T k = 0 := by
    refine Classical.byContradiction fun g => ?_
    have h : ∀ j, lzN n T j ≠ 0 := fun j e => g ⟨j, e⟩
    have e1 := lzD_in hT D0 Ds h n n (Nat.le_refl _)
    rw [if_pos rfl, kin_eq (C := fun _ _ => (0 : K) * 0) (fun i j hi hj => by rw [Dn i j hi hj]; grind) fun _ _ _ _ => rfl, kin_mul] at e1
    exact h n (by grind)
  obtain ⟨k, hk⟩ := h0
  obtain ⟨m, m0, m1⟩ := lst (P := fun k => lzN n T k = 0) k hk
  have m2 : 1 ≤ m := by
    refine Classical.byContradiction fun g => ?_
    obtain rfl : m = 0 := by omega
    have z := kin_nz m0 0 0 (by omega) (by omega)
    exact absurd (show (1 : K) = 0 from z) fun e => Lean.Grind.Field.zero_ne_one e.symm
  obtain ⟨rs, l1, l2, l3, _⟩ := three iv (v := fun k x => lzv n T x k) (a := lza n T) (b := lzb n T) (m := m) (fun x => rfl) (fun k _ => by
    obtain ⟨c, c1, _, c3⟩ := lzv_M (n := n) (T := T) k
    exact ⟨c, c1, c3⟩) (fun k x => rfl) (fun k hk => by
    have h1 := lzb_N (m1 k (by omega))
    have h2 : 0 ≤ lzN n T k := kin_nn
    have h3 : 0 ≤ lzN n T (k + 1) := kin_nn
    have h4 := m1 k (by omega)
    have h5 := m1 (k + 1) (by omega)
    refine Classical.byContradiction fun g => ?_
    have h6 := k_nn (a := -(lzb n T (k + 1))) (b := lzN n T k) (by grind) h2
    grind) m (Nat.le_refl _)
  obtain ⟨k, rfl⟩ : ∃ l, m = l + 1 := ⟨m - 1, by omega⟩
  have q0 := kin_nz m0
  refine ⟨rs, fun x => lzC n T x (k + 1), l2, fun x i j hi hj => ?_, PF_ks (fun i => lzC_PF (k + 1)) n, fun x => ?_⟩
  · rw [lzC_mul hi, q0 i j hi hj, ← l3]
    grind
  · refine Classical.byContradiction fun g => ?_
    have z : ∀ i j, i < n → j < n → lzC n T x (k + 1) i j = 0 * 0 := fun i j hi hj => by
      refine Classical.byContradiction fun g2 => g ⟨i, j, hi, hj, fun e => g2 (by
        have e2 : lzC n T x (k + 1) i j = 0 := e
        rw [e2]
        grind)⟩
    have e1 := (lzC_in (x := x) hT m1 k k (Nat.le_refl _) (by omega)).2
    rw [if_pos rfl, kin_eq (C := fun _ _ => (0 : K) * 0) z fun _ _ _ _ => rfl, kin_mul] at e1
    exact m1 k (by omega) (by grind)
end LQ
