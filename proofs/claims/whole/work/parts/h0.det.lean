/-! Determinants, by the first row. -/
def sg1 : Nat → Int
  | 0 => 1
  | n + 1 => -(sg1 n)
def dsk (j k : Nat) : Nat := if k < j then k else k + 1
def dmn (M : Nat → Nat → Int) (j : Nat) : Nat → Nat → Int := fun i k => M (i + 1) (dsk j k)
def dt : Nat → (Nat → Nat → Int) → Int
  | 0, _ => 1
  | n + 1, M => sm (n + 1) fun j => sg1 j * M 0 j * dt n (dmn M j)
theorem sg1_or : ∀ j, sg1 j = 1 ∨ sg1 j = -1
  | 0 => Or.inl rfl
  | n + 1 => by
    have := sg1_or n
    show -(sg1 n) = 1 ∨ -(sg1 n) = -1
    omega
theorem dsk_lt {j k n : Nat} (h : k < n) : dsk j k < n + 1 := by unfold dsk; split <;> omega
theorem dt_congr : ∀ (n : Nat) (M N : Nat → Nat → Int), (∀ i k, i < n → k < n → M i k = N i k) → dt n M = dt n N
  | 0, _, _, _ => rfl
  | n + 1, M, N, h => by
    show sm (n + 1) _ = sm (n + 1) _
    refine sm_eq (n + 1) fun j hj => ?_
    rw [h 0 j (by omega) hj, dt_congr n (dmn M j) (dmn N j) fun i k hi hk => h (i + 1) (dsk j k) (by omega) (dsk_lt hk)]
theorem sm_neg {f : Nat → Int} (n : Nat) : sm n (fun j => -(f j)) = -(sm n f) := by
  have := sm_mul (f := f) (c := -1) n
  rw [sm_eq (g := fun j => -1 * f j) n fun j _ => by omega, this]
  omega
/-- a sum over ordered pairs, told by the pairs k below j -/
theorem sm_pairs (f : Nat → Nat → Int) : ∀ n : Nat, sm (n + 1) (fun j => sm n (fun k => f j k)) = sm (n + 1) fun j => sm j fun k => f j k + f k (j - 1)
  | 0 => rfl
  | n + 1 => by
    have ih := sm_pairs f n
    rw [sm_succ, sm_succ (n := n + 1)]
    have e1 : sm (n + 1) (fun j => sm (n + 1) (fun k => f j k)) = sm (n + 1) (fun j => sm n (fun k => f j k)) + sm (n + 1) (fun j => f j n) := by
      rw [← sm_add]
      exact sm_eq (n + 1) fun j _ => sm_succ
    rw [e1, ih, sm_add, show n + 1 - 1 = n from rfl]
    have e2 : sm (n + 1) (fun k => f (n + 1) k) = sm (n + 1) (f (n + 1)) := rfl
    omega
/-- two rows behind each other change places -/
def dsw (p : Nat) (M : Nat → Nat → Int) : Nat → Nat → Int := fun i => if i = p then M (p + 1) else if i = p + 1 then M p else M i
theorem dmn2 {M : Nat → Nat → Int} {j k : Nat} (h : k < j) : dmn (dmn M j) k = dmn (dmn M k) (j - 1) := by
  funext i l
  show M (i + 2) (dsk j (dsk k l)) = M (i + 2) (dsk k (dsk (j - 1) l))
  congr 1
  unfold dsk
  repeat' split
  all_goals omega
theorem dt_two (n : Nat) (M : Nat → Nat → Int) : dt (n + 2) M = sm (n + 2) fun j => sm j fun k => sg1 j * sg1 k * (M 0 j * M 1 k - M 0 k * M 1 j) * dt n (dmn (dmn M j) k) := by
  have e : dt (n + 2) M = sm (n + 2) fun j => sm (n + 1) fun k => sg1 j * M 0 j * (sg1 k * M 1 (dsk j k) * dt n (dmn (dmn M j) k)) := by
    show sm (n + 2) _ = _
    exact sm_eq (n + 2) fun j _ => (sm_mul (n + 1)).symm
  rw [e, sm_pairs]
  refine sm_eq _ fun j _ => sm_eq _ fun k hk => ?_
  have h1 : dsk j k = k := if_pos hk
  have h2 : dsk k (j - 1) = j := by unfold dsk; rw [if_neg (by omega)]; omega
  have h3 : sg1 (j - 1) = -(sg1 j) := by
    obtain ⟨i, rfl⟩ : ∃ i, j = i + 1 := ⟨j - 1, by omega⟩
    show sg1 i = -(-(sg1 i))
    omega
  rw [h1, h2, h3, ← dmn2 hk]
  grind
theorem dt_swap : ∀ (n p : Nat) (M : Nat → Nat → Int), p + 1 < n → dt n (dsw p M) = -(dt n M)
  | 0, p, M, h => by omega
  | 1, p, M, h => by omega
  | n + 2, 0, M, _ => by
    rw [dt_two, dt_two, ← sm_neg]
    refine sm_eq _ fun j _ => ?_
    rw [← sm_neg]
    refine sm_eq _ fun k _ => ?_
    have e0 : dsw 0 M 0 = M 1 := rfl
    have e1 : dsw 0 M 1 = M 0 := rfl
    have e2 : dmn (dmn (dsw 0 M) j) k = dmn (dmn M j) k := by
      funext i l
      show dsw 0 M (i + 2) _ = M (i + 2) _
      unfold dsw
      rw [if_neg (by omega), if_neg (by omega)]
    rw [e0, e1, e2]
    grind
  | n + 2, p + 1, M, h => by
    show sm (n + 2) _ = -(sm (n + 2) _)
    rw [← sm_neg]
    refine sm_eq _ fun j _ => ?_
    have e0 : dsw (p + 1) M 0 = M 0 := rfl
    have e1 : dmn (dsw (p + 1) M) j = dsw p (dmn M j) := by
      funext i l
      show dsw (p + 1) M (i + 1) (dsk j l) = dsw p (dmn M j) i l
      unfold dsw
      by_cases h1 : i = p
      · rw [if_pos (by omega), if_pos h1]; rfl
      · by_cases h2 : i = p + 1
        · rw [if_neg (by omega), if_pos (by omega), if_neg h1, if_pos h2]; rfl
        · rw [if_neg (by omega), if_neg (by omega), if_neg h1, if_neg h2]; rfl
    rw [e0, e1, dt_swap (n + 1) p (dmn M j) (by omega)]
    grind
/-- two rows alike -/
theorem dt_same : ∀ (d p n : Nat) (M : Nat → Nat → Int), p + 1 + d < n → (∀ k, k < n → M p k = M (p + 1 + d) k) → dt n M = 0
  | 0, p, n, M, h, he => by
    have h1 := dt_swap n p M (by omega)
    have h2 : dt n (dsw p M) = dt n M := dt_congr n _ _ fun i k hi hk => by
      unfold dsw
      by_cases g : i = p
      · rw [if_pos g, g]; exact (he k hk).symm
      · by_cases g2 : i = p + 1
        · rw [if_neg g, if_pos g2, g2]; exact he k hk
        · rw [if_neg g, if_neg g2]
    omega
  | d + 1, p, n, M, h, he => by
    have h1 := dt_swap n (p + 1 + d) M (by omega)
    have h2 := dt_same d p n (dsw (p + 1 + d) M) (by omega) fun k hk => by
      unfold dsw
      rw [if_neg (by omega), if_neg (by omega), if_pos rfl]
      exact he k hk
    omega
/-- the first row goes behind the p rows after it -/
def drt (p : Nat) (M : Nat → Nat → Int) : Nat → Nat → Int := fun i => if i < p then M (i + 1) else if i = p then M 0 else M i
theorem dt_rot : ∀ (p n : Nat) (M : Nat → Nat → Int), p < n → dt n (drt p M) = sg1 p * dt n M
  | 0, n, M, h => by
    have : drt 0 M = M := by
      funext i
      unfold drt
      rw [if_neg (by omega)]
      split
      · rename_i g; rw [g]
      · rfl
    rw [this]
    show _ = 1 * _
    rw [Int.one_mul]
  | p + 1, n, M, h => by
    have h1 := dt_rot p n M (by omega)
    have h2 := dt_swap n p (drt p M) (by omega)
    have e : dsw p (drt p M) = drt (p + 1) M := by
      funext i
      unfold dsw drt
      by_cases g : i = p
      · rw [if_pos g, if_neg (by omega), if_neg (by omega), if_pos (by omega), g]
      · by_cases g2 : i = p + 1
        · rw [if_neg g, if_pos g2, if_neg (by omega), if_pos rfl, if_neg (by omega), if_pos g2]
        · rw [if_neg g, if_neg g2]
          by_cases g3 : i < p
          · rw [if_pos g3, if_pos (by omega)]
          · rw [if_neg g3, if_neg g, if_neg (by omega), if_neg g2]
    rw [← e, h2, h1]
    show _ = -(sg1 p) * _
    grind
/-- the cofactors of a first row that is still open -/
def dcf (n : Nat) (N : Nat → Nat → Int) (j : Nat) : Int := sg1 j * dt n (fun i k => N i (dsk j k))
def dco (r : Nat → Int) (N : Nat → Nat → Int) : Nat → Nat → Int
  | 0 => r
  | i + 1 => N i
theorem dt_open {n : Nat} {r : Nat → Int} {N : Nat → Nat → Int} : dt (n + 1) (dco r N) = sm (n + 1) fun j => r j * dcf n N j := by
  show sm (n + 1) _ = _
  refine sm_eq _ fun j _ => ?_
  have e : dmn (dco r N) j = fun i k => N i (dsk j k) := rfl
  rw [e]
  show sg1 j * r j * _ = r j * (sg1 j * _)
  grind
theorem dt_open0 {n p : Nat} {N : Nat → Nat → Int} (hp : p < n) : sm (n + 1) (fun j => N p j * dcf n N j) = 0 := by
  rw [← dt_open]
  refine dt_same p 0 (n + 1) (dco (N p) N) (by omega) fun k hk => ?_
  show N p k = dco (N p) N (0 + 1 + p) k
  rw [show 0 + 1 + p = p + 1 by omega]
  rfl
/-- products -/
def pr (n : Nat) (f : Nat → Nat) : Nat := match n with
  | 0 => 1
  | n + 1 => pr n f * f n
theorem pr_skip {f : Nat → Nat} : ∀ (n j : Nat), j < n + 1 → pr (n + 1) f = f j * pr n (fun k => f (dsk j k))
  | 0, j, h => by
    have : j = 0 := by omega
    subst this
    show 1 * f 0 = f 0 * 1
    omega
  | n + 1, j, h => by
    show pr (n + 1) f * f (n + 1) = f j * (pr n (fun k => f (dsk j k)) * f (dsk j n))
    by_cases g : j = n + 1
    · subst g
      have e : pr n (fun k => f (dsk (n + 1) k)) * f (dsk (n + 1) n) = pr (n + 1) f := by
        have e1 : ∀ m, m ≤ n + 1 → pr m (fun k => f (dsk (n + 1) k)) = pr m f := by
          intro m
          induction m with
          | zero => intro _; rfl
          | succ m ih =>
            intro hm
            show pr m _ * f (dsk (n + 1) m) = pr m f * f m
            rw [ih (by omega), show dsk (n + 1) m = m from if_pos (by omega)]
        exact e1 (n + 1) (Nat.le_refl _)
      rw [e, Nat.mul_comm]
    · rw [pr_skip n j (by omega), show dsk j n = n + 1 from if_neg (by omega), Nat.mul_assoc]
def fct : Nat → Nat
  | 0 => 1
  | n + 1 => (n + 1) * fct n
/-- a bound, by weights of rows and columns -/
theorem dt_bd {K : Nat} : ∀ (n : Nat) (M : Nat → Nat → Int) (a b : Nat → Nat), (∀ i k, i < n → k < n → bgA (M i k) ≤ ((K * a i * b k : Nat) : Int)) → bgA (dt n M) ≤ ((fct n * K ^ n * pr n a * pr n b : Nat) : Int)
  | 0, M, a, b, h => by show (1 : Int) ≤ ((1 * 1 * 1 * 1 : Nat) : Int); decide
  | n + 1, M, a, b, h => by
    have hj : ∀ j, j < n + 1 → bgA (sg1 j * M 0 j * dt n (dmn M j)) ≤ ((fct n * K ^ (n + 1) * pr (n + 1) a * pr (n + 1) b : Nat) : Int) := fun j hj => by
      have h1 := dt_bd n (dmn M j) (fun i => a (i + 1)) (fun k => b (dsk j k)) fun i k hi hk => h (i + 1) (dsk j k) (by omega) (dsk_lt hk)
      have h2 := h 0 j (by omega) hj
      rw [bgA_nat] at h1 h2 ⊢
      have h3 := Nat.mul_le_mul (Int.ofNat_le.mp h2) (Int.ofNat_le.mp h1)
      rw [← Int.natAbs_mul] at h3
      have e0 : (sg1 j * M 0 j * dt n (dmn M j)).natAbs = (M 0 j * dt n (dmn M j)).natAbs := by
        rcases sg1_or j with g | g <;> rw [g]
        · rw [Int.one_mul]
        · rw [Int.neg_mul, Int.one_mul, Int.neg_mul, Int.natAbs_neg]
      rw [e0]
      refine Int.ofNat_le.mpr (Nat.le_trans h3 (Nat.le_of_eq ?_))
      have ea : pr (n + 1) a = a 0 * pr n (fun i => a (i + 1)) := pr_skip n 0 (by omega)
      rw [ea, pr_skip n j hj, Nat.pow_succ]
      grind
    have h1 := sm_abs (f := fun j => sg1 j * M 0 j * dt n (dmn M j)) (n + 1)
    have h2 := sm_cst (n + 1) hj
    have e : ((fct (n + 1) * K ^ (n + 1) * pr (n + 1) a * pr (n + 1) b : Nat) : Int) = ((n + 1 : Nat) : Int) * ((fct n * K ^ (n + 1) * pr (n + 1) a * pr (n + 1) b : Nat) : Int) := by
      rw [← Int.natCast_mul]
      congr 1
      show (n + 1) * fct n * _ * _ * _ = _
      grind
    rw [e]
    exact Int.le_trans h1 h2
