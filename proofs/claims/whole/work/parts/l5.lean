/-! Sizes; the row of stages. -/
def pb : Nat → Nat → Nat
  | 0, i => if i = 0 then 1 else 0
  | n + 1, 0 => 600 * pb n 0
  | n + 1, i + 1 => pb n i + 600 * pb n (i + 1)
def qb : Nat → Nat → Nat
  | 0, _ => 0
  | n + 1, 0 => pb n 0 + 600 * qb n 0
  | n + 1, i + 1 => pb n (i + 1) + (qb n i + 600 * qb n (i + 1))
/-- x is no greater than z, whatever their signs -/
def kle {K : Type} [Lean.Grind.Field K] [LE K] (x : K) (z : Int) : Prop := -(zc z) ≤ x ∧ x ≤ zc z
theorem kle_add {K : Type} [Lean.Grind.Field K] [LE K] [LT K] [Std.LawfulOrderLT K] [Std.IsLinearOrder K] [Lean.Grind.OrderedRing K] {x y : K} {z w : Int} (h1 : kle x z) (h2 : kle y w) : kle (x + y) (z + w) := by
  unfold kle at *
  rw [zc_add]
  grind
theorem kle_mul {K : Type} [Lean.Grind.Field K] [LE K] [LT K] [Std.LawfulOrderLT K] [Std.IsLinearOrder K] [Lean.Grind.OrderedRing K] {x y : K} {z w : Int} (h1 : kle x z) (h2 : kle y w) : kle (x * y) (z * w) := by
  unfold kle at *
  rw [zc_mul]
  exact k_mul h1.1 h1.2 h2.1 h2.2
theorem kle_neg {K : Type} [Lean.Grind.Field K] [LE K] [LT K] [Std.LawfulOrderLT K] [Std.IsLinearOrder K] [Lean.Grind.OrderedRing K] {x : K} {z : Int} (h1 : kle x z) : kle (-x) z := by
  unfold kle at *
  grind
theorem kle_mono {K : Type} [Lean.Grind.Field K] [LE K] [LT K] [Std.LawfulOrderLT K] [Std.IsLinearOrder K] [Lean.Grind.OrderedRing K] {x : K} {z w : Int} (h1 : kle x z) (h : z ≤ w) : kle x w := by
  have := (zc_le (K := K)).mpr h
  unfold kle at *
  grind
theorem kle_0 {K : Type} [Lean.Grind.Field K] [LE K] [LT K] [Std.LawfulOrderLT K] [Std.IsLinearOrder K] [Lean.Grind.OrderedRing K] {z : Int} (h : 0 ≤ z) : kle (0 : K) z := by
  have h1 := (zc_le (K := K)).mpr h
  rw [zc_0] at h1
  unfold kle
  grind
theorem kle_z {K : Type} [Lean.Grind.Field K] [LE K] [LT K] [Std.LawfulOrderLT K] [Std.IsLinearOrder K] [Lean.Grind.OrderedRing K] {x z : Int} (h : kle (zc x : K) z) : bgA x ≤ z := by
  obtain ⟨h1, h2⟩ := h
  rw [← zc_neg] at h1
  have a1 := zc_le.mp h1
  have a2 := zc_le.mp h2
  unfold bgA
  split <;> omega
theorem kle_600 {K : Type} [Lean.Grind.Field K] [LE K] [LT K] [Std.LawfulOrderLT K] [Std.IsLinearOrder K] [Lean.Grind.OrderedRing K] {r : K} (h : -600 ≤ r ∧ r ≤ 600) : kle r 600 := by
  unfold kle
  rw [zc_600]
  exact h
theorem plc_bd {K : Type} [Lean.Grind.Field K] [LE K] [LT K] [Std.LawfulOrderLT K] [Std.IsLinearOrder K] [Lean.Grind.OrderedRing K] : ∀ (rs : List K) (i : Nat), (∀ r, r ∈ rs → -600 ≤ r ∧ r ≤ 600) → kle (plc rs i) (pb rs.length i)
  | [], i, _ => by
    show kle (if i = 0 then (1 : K) else 0) ((if i = 0 then 1 else 0 : Nat) : Int)
    by_cases g : i = 0
    · rw [if_pos g, if_pos g]
      unfold kle
      rw [show (((1 : Nat) : Int)) = 1 from rfl, zc_1]
      grind
    · rw [if_neg g, if_neg g]
      exact kle_0 (by omega)
  | r :: rs, 0, h => by
    have h1 := plc_bd rs 0 fun q hq => h q (List.mem_cons_of_mem _ hq)
    show kle (0 - r * plc rs 0) ((600 * pb rs.length 0 : Nat) : Int)
    have h2 := kle_neg (kle_mul (kle_600 (h r List.mem_cons_self)) h1)
    rw [show 0 - r * plc rs 0 = -(r * plc rs 0) by grind, Int.natCast_mul]
    exact h2
  | r :: rs, i + 1, h => by
    have h0 := plc_bd rs i fun q hq => h q (List.mem_cons_of_mem _ hq)
    have h1 := plc_bd rs (i + 1) fun q hq => h q (List.mem_cons_of_mem _ hq)
    show kle (plc rs i - r * plc rs (i + 1)) ((pb rs.length i + 600 * pb rs.length (i + 1) : Nat) : Int)
    have h2 := kle_add h0 (kle_neg (kle_mul (kle_600 (h r List.mem_cons_self)) h1))
    rw [show plc rs i - r * plc rs (i + 1) = plc rs i + -(r * plc rs (i + 1)) by grind, Int.natCast_add, Int.natCast_mul]
    exact h2
theorem dplc_bd {K : Type} [Lean.Grind.Field K] [LE K] [LT K] [Std.LawfulOrderLT K] [Std.IsLinearOrder K] [Lean.Grind.OrderedRing K] {f : K → K} {M : Int} (hM : 0 ≤ M) : ∀ (rs : List K) (i : Nat), (∀ r, r ∈ rs → -600 ≤ r ∧ r ≤ 600) → (∀ r, r ∈ rs → kle (f r) M) → kle (dplc f rs i) (M * (qb rs.length i : Nat))
  | [], i, _, _ => kle_0 (by
    show 0 ≤ M * ((0 : Nat) : Int)
    omega)
  | r :: rs, 0, h, hf => by
    have h0 := plc_bd rs 0 fun q hq => h q (List.mem_cons_of_mem _ hq)
    have h1 := dplc_bd hM rs 0 (fun q hq => h q (List.mem_cons_of_mem _ hq)) fun q hq => hf q (List.mem_cons_of_mem _ hq)
    show kle (f r * plc rs 0 + (0 - r * dplc f rs 0)) (M * ((pb rs.length 0 + 600 * qb rs.length 0 : Nat) : Int))
    have h2 := kle_add (kle_mul (hf r List.mem_cons_self) h0) (kle_neg (kle_mul (kle_600 (h r List.mem_cons_self)) h1))
    rw [show f r * plc rs 0 + (0 - r * dplc f rs 0) = f r * plc rs 0 + -(r * dplc f rs 0) by grind, Int.natCast_add, Int.natCast_mul, show M * (((pb rs.length 0 : Nat) : Int) + ((600 : Nat) : Int) * ((qb rs.length 0 : Nat) : Int)) = M * ((pb rs.length 0 : Nat) : Int) + 600 * (M * ((qb rs.length 0 : Nat) : Int)) by grind]
    exact h2
  | r :: rs, i + 1, h, hf => by
    have h0 := plc_bd rs (i + 1) fun q hq => h q (List.mem_cons_of_mem _ hq)
    have h1 := dplc_bd hM rs (i + 1) (fun q hq => h q (List.mem_cons_of_mem _ hq)) fun q hq => hf q (List.mem_cons_of_mem _ hq)
    have h3 := dplc_bd hM rs i (fun q hq => h q (List.mem_cons_of_mem _ hq)) fun q hq => hf q (List.mem_cons_of_mem _ hq)
    show kle (f r * plc rs (i + 1) + (dplc f rs i - r * dplc f rs (i + 1))) (M * ((pb rs.length (i + 1) + (qb rs.length i + 600 * qb rs.length (i + 1)) : Nat) : Int))
    have h2 := kle_add (kle_mul (hf r List.mem_cons_self) h0) (kle_add h3 (kle_neg (kle_mul (kle_600 (h r List.mem_cons_self)) h1)))
    rw [show f r * plc rs (i + 1) + (dplc f rs i - r * dplc f rs (i + 1)) = f r * plc rs (i + 1) + (dplc f rs i + -(r * dplc f rs (i + 1))) by grind, Int.natCast_add, Int.natCast_add, Int.natCast_mul, show M * (((pb rs.length (i + 1) : Nat) : Int) + (((qb rs.length i : Nat) : Int) + ((600 : Nat) : Int) * ((qb rs.length (i + 1) : Nat) : Int))) = M * ((pb rs.length (i + 1) : Nat) : Int) + (M * ((qb rs.length i : Nat) : Int) + 600 * (M * ((qb rs.length (i + 1) : Nat) : Int))) by grind]
    exact h2
theorem kle_pow {K : Type} [Lean.Grind.Field K] [LE K] [LT K] [Std.LawfulOrderLT K] [Std.IsLinearOrder K] [Lean.Grind.OrderedRing K] {r : K} (h : -600 ≤ r ∧ r ≤ 600) : ∀ l : Nat, kle (r ^ l) ((600 ^ l : Nat) : Int)
  | 0 => by
    rw [show r ^ 0 = 1 by grind]
    unfold kle
    rw [show (((600 ^ 0 : Nat)) : Int) = 1 from rfl, zc_1]
    grind
  | l + 1 => by
    have h1 := kle_mul (kle_pow h l) (kle_600 h)
    rw [show r ^ (l + 1) = r ^ l * r by grind, Nat.pow_succ, Int.natCast_mul]
    exact h1
theorem ls_bd {K : Type} [Lean.Grind.Field K] [LE K] [LT K] [Std.LawfulOrderLT K] [Std.IsLinearOrder K] [Lean.Grind.OrderedRing K] {f : K → K} {M : Int} : ∀ (rs : List K), (∀ r, r ∈ rs → kle (f r) M) → kle (ls f rs) ((rs.length : Int) * M)
  | [], _ => by
    show kle (0 : K) (((0 : Nat) : Int) * M)
    exact kle_0 (by rw [show ((0 : Nat) : Int) = 0 from rfl, Int.zero_mul]; omega)
  | r :: rs, h => by
    have h1 := kle_add (h r List.mem_cons_self) (ls_bd rs fun q hq => h q (List.mem_cons_of_mem _ hq))
    show kle (f r + ls f rs) (((rs.length + 1 : Nat) : Int) * M)
    rw [show ((rs.length + 1 : Nat) : Int) * M = M + (rs.length : Int) * M by grind]
    exact h1
theorem pb_bd : ∀ n i, n ≤ 6 → pb n i ≤ 46656000000000000 := by
  have h : ∀ n, n ≤ 6 → ∀ i, i ≤ n → pb n i ≤ 46656000000000000 := by decide
  have z : ∀ n i, n < i → pb n i = 0 := fun n => by
    induction n with
    | zero => exact fun i hi => if_neg (by omega)
    | succ n ih =>
      intro i hi
      obtain ⟨i, rfl⟩ : ∃ j, i = j + 1 := ⟨i - 1, by omega⟩
      show pb n i + 600 * pb n (i + 1) = 0
      rw [ih i (by omega), ih (i + 1) (by omega)]
  intro n i hn
  rcases Nat.lt_or_ge n i with l | l
  · rw [z n i l]; omega
  · exact h n hn i l
theorem qb_bd : ∀ n i, n ≤ 6 → i ≤ 6 → qb n i ≤ 466560000000000 := by
  have h : ∀ n, n ≤ 6 → ∀ i, i ≤ 6 → qb n i ≤ 466560000000000 := by decide
  exact fun n i hn hi => h n hn i hi
/-- sizes of a stage -/
def SZ (u : Nat → Int) (d : Nat) : Prop := (∀ i, bgA (u i) ≤ 46656000000000000) ∧ (∀ k i, k ≤ 5 → i < d → bgA (rk d u (sOf d u) k i) ≤ 2 ^ 350) ∧ ∀ k, k ≤ 6 → hk (sOf d u) k ≤ 2 ^ (52 * k)
theorem pr_600 : ∀ k, k ≤ 6 → pr k (fun i => 600 ^ i) ≤ 600 ^ 15 ∧ pr k (fun i => 600 ^ (i + 1)) ≤ 600 ^ 21 := by decide
theorem pr_mono {f g : Nat → Nat} : ∀ k, (∀ i, i < k → f i ≤ g i) → pr k f ≤ pr k g
  | 0, _ => Nat.le_refl 1
  | k + 1, h => Nat.mul_le_mul (pr_mono k fun i hi => h i (by omega)) (h k (by omega))
section SZS
variable {u : Nat → Int} {d : Nat}
theorem sO_bd {K : Type} [Lean.Grind.Field K] [LE K] [LT K] [Std.LawfulOrderLT K] [Std.IsLinearOrder K] [Lean.Grind.OrderedRing K] {rs : List K} (hu : isP u rs) (hr : ∀ r, r ∈ rs → -600 ≤ r ∧ r ≤ 600) (hd : rs.length = d) (h1 : 1 ≤ d) (h6 : d ≤ 6) (l : Nat) : bgA (sOf d u l) ≤ ((6 * 600 ^ l : Nat) : Int) := by
  refine kle_z (K := K) ?_
  rw [sO_K hu hd h1]
  refine kle_mono (ls_bd rs fun r h => kle_pow (hr r h) l) ?_
  rw [hd, Int.natCast_mul]
  exact Int.mul_le_mul_of_nonneg_right (by omega) (Int.natCast_nonneg _)
theorem hk_bd {K : Type} [Lean.Grind.Field K] [LE K] [LT K] [Std.LawfulOrderLT K] [Std.IsLinearOrder K] [Lean.Grind.OrderedRing K] {rs : List K} (hu : isP u rs) (hr : ∀ r, r ∈ rs → -600 ≤ r ∧ r ≤ 600) (hd : rs.length = d) (h1 : 1 ≤ d) (h6 : d ≤ 6) : ∀ k, k ≤ 6 → hk (sOf d u) k ≤ 2 ^ (52 * k) := fun k hk6 => by
  have h := dt_bd (K := 6) k (fun i c => sOf d u (i + c)) (fun i => 600 ^ i) (fun i => 600 ^ i) fun i c _ _ => by
    have := sO_bd hu hr hd h1 h6 (i + c)
    rw [Nat.pow_add, ← Nat.mul_assoc] at this
    exact this
  have n : ∀ k, k ≤ 6 → fct k * 6 ^ k * pr k (fun i => 600 ^ i) * pr k (fun i => 600 ^ i) ≤ 2 ^ (52 * k) := by decide
  have h2 := n k hk6
  have h3 : hk (sOf d u) k ≤ bgA (hk (sOf d u) k) := by unfold bgA; split <;> omega
  have h4 : bgA (hk (sOf d u) k) ≤ ((fct k * 6 ^ k * pr k (fun i => 600 ^ i) * pr k (fun i => 600 ^ i) : Nat) : Int) := h
  have h5 := Int.ofNat_le.mpr h2
  have h6 : (((2 ^ (52 * k) : Nat)) : Int) = 2 ^ (52 * k) := Int.natCast_pow 2 (52 * k)
  omega
theorem vk_bd {K : Type} [Lean.Grind.Field K] [LE K] [LT K] [Std.LawfulOrderLT K] [Std.IsLinearOrder K] [Lean.Grind.OrderedRing K] {rs : List K} (hu : isP u rs) (hr : ∀ r, r ∈ rs → -600 ≤ r ∧ r ≤ 600) (hd : rs.length = d) (h1 : 1 ≤ d) (h6 : d ≤ 6) (k l : Nat) (hk5 : k ≤ 5) : bgA (vk (sOf d u) k l) ≤ 2 ^ 252 := by
  unfold vk
  by_cases g : l ≤ k
  · rw [if_pos g]
    have h := dt_bd (K := 6) k (fun i c => sOf d u (i + dsk l c)) (fun i => 600 ^ i) (fun i => 600 ^ (i + 1)) fun i c _ _ => by
      have := sO_bd hu hr hd h1 h6 (i + dsk l c)
      rw [Nat.pow_add, ← Nat.mul_assoc] at this
      refine Int.le_trans this (Int.ofNat_le.mpr (Nat.mul_le_mul_left _ (Nat.pow_le_pow_right (by omega) ?_)))
      unfold dsk
      split <;> omega
    have n : ∀ k, k ≤ 5 → fct k * 6 ^ k * pr k (fun i => 600 ^ i) * pr k (fun i => 600 ^ (i + 1)) ≤ 2 ^ 252 := by decide
    have h5 := Int.ofNat_le.mpr (n k hk5)
    have e : bgA (sg1 k * dcf k (fun i c => sOf d u (i + c)) l) = bgA (dt k fun i c => sOf d u (i + dsk l c)) := by
      unfold dcf
      rw [bgA_nat, bgA_nat, Int.natAbs_mul, Int.natAbs_mul]
      have s1 : ∀ j, (sg1 j).natAbs = 1 := fun j => by rcases sg1_or j with e | e <;> rw [e] <;> rfl
      rw [s1, s1, Nat.one_mul, Nat.one_mul]
    rw [e]
    refine Int.le_trans h (Int.le_trans h5 ?_)
    decide
  · rw [if_neg g]
    decide
theorem rh_bd {K : Type} [Lean.Grind.Field K] [LE K] [LT K] [Std.LawfulOrderLT K] [Std.IsLinearOrder K] [Lean.Grind.OrderedRing K] {rs : List K} (hu : isP u rs) (hr : ∀ r, r ∈ rs → -600 ≤ r ∧ r ≤ 600) (hd : rs.length = d) (h1 : 1 ≤ d) (h6 : d ≤ 6) (l i : Nat) (hl : l ≤ 5) (hi : i < d) : bgA (rh d u l i) ≤ 2 ^ 95 := by
  have h : bgA (rh d u l i) ≤ ((600 ^ l : Nat) : Int) * (qb rs.length i : Nat) := by
    refine kle_z (K := K) ?_
    rw [rh_K hu hd h1 l i hi]
    exact dplc_bd (Int.natCast_nonneg _) rs i hr fun r h => kle_pow (hr r h) l
  have n : ∀ l, l ≤ 5 → 600 ^ l * 466560000000000 ≤ 2 ^ 95 := by decide
  have h2 := Nat.mul_le_mul_left (600 ^ l) (qb_bd rs.length i (by omega) (by omega))
  have h3 := Int.ofNat_le.mpr (Nat.le_trans h2 (n l hl))
  rw [Int.natCast_mul] at h3
  refine Int.le_trans h (Int.le_trans h3 ?_)
  decide
theorem sz_of {K : Type} [Lean.Grind.Field K] [LE K] [LT K] [Std.LawfulOrderLT K] [Std.IsLinearOrder K] [Lean.Grind.OrderedRing K] {rs : List K} (hu : isP u rs) (hr : ∀ r, r ∈ rs → -600 ≤ r ∧ r ≤ 600) (hd : rs.length = d) (h1 : 1 ≤ d) (h6 : d ≤ 6) (hz : ∀ i, d < i → u i = 0) : SZ u d := by
  refine ⟨fun i => ?_, fun k i hk5 hi => ?_, hk_bd hu hr hd h1 h6⟩
  · rcases Nat.lt_or_ge d i with l | l
    · rw [hz i l]; decide
    · have h : bgA (u i) ≤ (pb rs.length i : Nat) := by
        refine kle_z (K := K) ?_
        rw [hu i (by omega)]
        exact plc_bd rs i hr
      have := pb_bd rs.length i (by omega)
      omega
  · have h : ∀ l, l < k + 1 → bgA (vk (sOf d u) k l * rh d u l i) ≤ 2 ^ 252 * 2 ^ 95 := fun l hl => by
      have a1 := vk_bd hu hr hd h1 h6 k l hk5
      have a2 := rh_bd hu hr hd h1 h6 l i (by omega) hi
      rw [bgA_nat] at a1 a2 ⊢
      have a1' : (vk (sOf d u) k l).natAbs ≤ 2 ^ 252 := by
        refine Int.ofNat_le.mp (Int.le_trans a1 ?_)
        decide
      have a2' : (rh d u l i).natAbs ≤ 2 ^ 95 := by
        refine Int.ofNat_le.mp (Int.le_trans a2 ?_)
        decide
      rw [Int.natAbs_mul]
      refine Int.le_trans (Int.ofNat_le.mpr (Nat.mul_le_mul a1' a2')) ?_
      decide
    have h2 := sm_abs (f := fun l => vk (sOf d u) k l * rh d u l i) (k + 1)
    have h3 := sm_cst (k + 1) h
    have h4 : ((k + 1 : Nat) : Int) * (2 ^ 252 * 2 ^ 95) ≤ 6 * (2 ^ 252 * 2 ^ 95) := Int.mul_le_mul_of_nonneg_right (by omega) (by decide)
    have h5 : (6 : Int) * (2 ^ 252 * 2 ^ 95) ≤ 2 ^ 350 := by decide
    show bgA (sm (k + 1) fun l => vk (sOf d u) k l * rh d u l i) ≤ 2 ^ 350
    exact Int.le_trans h2 (Int.le_trans h3 (Int.le_trans h4 h5))
end SZS
/-- the rests hang together, three by three -/
def RC3 (u : Nat → Int) (d : Nat) : Prop := (∀ k i, i < d → hk (sOf d u) (k + 1) * hk (sOf d u) (k + 1) * rk d u (sOf d u) (k + 2) i = hk (sOf d u) (k + 1) * hk (sOf d u) (k + 2) * su (rk d u (sOf d u) (k + 1)) i + (hk (sOf d u) (k + 2) * mk (sOf d u) k (k + 1) - hk (sOf d u) (k + 1) * mk (sOf d u) (k + 1) (k + 2)) * rk d u (sOf d u) (k + 1) i - hk (sOf d u) (k + 2) * hk (sOf d u) (k + 2) * rk d u (sOf d u) k i) ∧ (∀ i, i < d → rk d u (sOf d u) 1 i = hk (sOf d u) 1 * su (rk d u (sOf d u) 0) i + -(mk (sOf d u) 0 1) * rk d u (sOf d u) 0 i - hk (sOf d u) 1 * hk (sOf d u) 1 * u i) ∧ (∀ k i, i < d → d ≤ i + k → rk d u (sOf d u) k i = 0) ∧ ∀ k i, i + k + 1 = d → rk d u (sOf d u) k i = hk (sOf d u) (k + 1)
/-- a stage, or 1 for ever -/
def SG (u : Nat → Int) (d m e : Nat) (f g : Nat → Int) : Prop := (d = 0 ∧ m = 0 ∧ e = 0 ∧ u = mono 0 ∧ f = mono 0 ∧ g = mono 0) ∨ (d ≤ 6 ∧ STP u d m e f g ∧ SZ u d ∧ RC3 u d ∧ ∀ i, bgA (f i) ≤ 46656000000000000)
theorem SG_ex {K : Type} [Lean.Grind.Field K] [LE K] [LT K] [Std.LawfulOrderLT K] [Std.IsLinearOrder K] [Lean.Grind.OrderedRing K] {u : Nat → Int} {rs : List K} {d : Nat} (hu : isP u rs) (hd : rs.length = d) (h6 : d ≤ 6) (hz : ∀ i, d < i → u i = 0) (hr : ∀ r, r ∈ rs → -600 ≤ r ∧ r ≤ 600) : ∃ (ds es : List K) (m e : Nat) (f g : Nat → Int), SG u d m e f g ∧ ds.length = m ∧ es.length = e ∧ isP f ds ∧ isP g es ∧ e ≤ 6 ∧ (∀ i, m < i → f i = 0) ∧ (∀ i, e < i → g i = 0) ∧ (∀ r, r ∈ ds → -600 ≤ r ∧ r ≤ 600) ∧ ∀ r, r ∈ es → -600 ≤ r ∧ r ≤ 600 := by
  by_cases h1 : d = 0
  · subst h1
    have e0 : rs = [] := List.eq_nil_of_length_eq_zero hd
    subst e0
    have u0 : u = mono 0 := by
      funext i
      show u i = if i = 0 then 1 else 0
      by_cases g : i = 0
      · rw [if_pos g, g]
        exact P_top hu
      · rw [if_neg g]
        exact hz i (by omega)
    have pm0 : isP (mono 0) ([] : List K) := by
      rw [← u0]
      exact hu
    exact ⟨[], [], 0, 0, mono 0, mono 0, Or.inl ⟨rfl, rfl, rfl, u0, rfl, rfl⟩, rfl, rfl, pm0, pm0, by omega, fun i hi => if_neg (by omega), fun i hi => if_neg (by omega), (fun r h => by cases h), (fun r h => by cases h)⟩
  · obtain ⟨ds, es, m, e, f, g, h, n1, n2, n3, n4, n5, n6, n7, n8, n9, n10, n11, n12, n13, n14, n15, n16, n17⟩ := str hu hd (by omega) hz
    have hs : ∀ l, zc (sOf d u l) = ls (fun r : K => r ^ l) rs := fun l => sO_K hu hd (by omega) l
    have d2 : ∀ r, r ∈ ds → -600 ≤ r ∧ r ≤ 600 := fun r h => hr r ((n2 r).mp h)
    have d3 : ∀ r, r ∈ es → -600 ≤ r ∧ r ≤ 600 := fun r h => hr r (n3 r h)
    have um : u d = 1 := by rw [← hd]; exact P_top hu
    have fm : f m = 1 := by rw [← n4]; exact P_top n8
    have gm : g e = 1 := by rw [← n5]; exact P_top n9
    refine ⟨ds, es, m, e, f, g, Or.inr ⟨h6, ⟨n6, n7, um, hz, fm, n10, gm, n11, n12, ⟨h, n13, n14⟩, n15, n16, n17⟩, sz_of hu hr hd (by omega) h6 hz, ⟨fun k i hi => rk_three hu hd (by omega) hs hi, fun i hi => rk_two hu hd (by omega) hs hi, fun k i hi h => rk_low hu hd (by omega) hs hi h, fun k i h => rk_head hu hd hs h⟩, fun i => ?_⟩, n4, n5, n8, n9, by omega, n10, n11, d2, d3⟩
    rcases Nat.lt_or_ge m i with l | l
    · rw [n10 i l]; decide
    · have h : bgA (f i) ≤ (pb ds.length i : Nat) := by
        refine kle_z (K := K) ?_
        rw [n8 i (by omega)]
        exact plc_bd ds i d2
      have := pb_bd ds.length i (by omega)
      omega
/-- the table's polynomial, cut -/
def leU (n : Nat) (T : Nat → Nat → Int) (j : Nat) : Int := if j ≤ n then leP n T j else 0
/-- all stages of a table's polynomial -/
theorem stages {n : Nat} {T : Nat → Nat → Int} (hn : 1 ≤ n) (h6 : n ≤ 6) (hT : ∀ i k, i < n → k < n → -100 ≤ T i k ∧ T i k ≤ 100) (hs : ∀ i j, i < n → j < n → T i j = T j i) : ∃ (K : Type) (_ : Lean.Grind.Field K) (_ : LE K) (_ : LT K) (_ : Std.LawfulOrderLT K) (_ : Std.IsLinearOrder K) (_ : Lean.Grind.OrderedRing K) (rs ds : List K) (U F : Nat → Nat → Int) (D M : Nat → Nat), isP (leU n T) rs ∧ rs.length = n ∧ (∀ r, r ∈ rs → -600 ≤ r ∧ r ≤ 600) ∧ isP (F 0) ds ∧ ds.length = M 0 ∧ (∀ r, r ∈ ds → -600 ≤ r ∧ r ≤ 600) ∧ U 0 = leU n T ∧ D 0 = n ∧ ∀ j, SG (U j) (D j) (M j) (D (j + 1)) (F j) (U (j + 1)) := by
  obtain ⟨K, i1, i2, i3, i4, i5, i6, iv⟩ := rn_pack
  obtain ⟨rs, r1, r2⟩ := tb_spl (K := K) iv hn h6 hT hs
  have p0 : isP (leU n T) rs := fun i hi => by
    have := sp_P r2 i hi
    rw [← this]
    unfold leU
    rw [if_pos (by omega)]
  have z0 : ∀ i, n < i → leU n T i = 0 := fun i hi => if_neg (by omega)
  let P : (List K × List K) × ((Nat → Int) × (Nat → Int)) × Nat × Nat → Prop := fun a => ∃ (es : List K) (e : Nat) (g : Nat → Int), isP a.2.1.1 a.1.1 ∧ a.1.1.length = a.2.2.1 ∧ a.2.2.1 ≤ 6 ∧ (∀ i, a.2.2.1 < i → a.2.1.1 i = 0) ∧ (∀ r, r ∈ a.1.1 → -600 ≤ r ∧ r ≤ 600) ∧ SG a.2.1.1 a.2.2.1 a.2.2.2 e a.2.1.2 g ∧ isP a.2.1.2 a.1.2 ∧ a.1.2.length = a.2.2.2 ∧ (∀ r, r ∈ a.1.2 → -600 ≤ r ∧ r ≤ 600) ∧ isP g es ∧ es.length = e ∧ e ≤ 6 ∧ (∀ i, e < i → g i = 0) ∧ ∀ r, r ∈ es → -600 ≤ r ∧ r ≤ 600
  have mk : ∀ (rs : List K) (u : Nat → Int) (d : Nat), isP u rs → rs.length = d → d ≤ 6 → (∀ i, d < i → u i = 0) → (∀ r, r ∈ rs → -600 ≤ r ∧ r ≤ 600) → ∃ a, P a ∧ a.1.1 = rs ∧ a.2.1.1 = u ∧ a.2.2.1 = d := fun rs u d h1 h2 h3 h4 h5 => by
    obtain ⟨ds, es, m, e, f, g, k1, k2, k3, k4, k5, k6, k7, k8, k9, k10⟩ := SG_ex h1 h2 h3 h4 h5
    exact ⟨((rs, ds), ((u, f), (d, m))), ⟨es, e, g, h1, h2, h3, h4, h5, k1, k4, k2, k9, k5, k3, k6, k8, k10⟩, rfl, rfl, rfl⟩
  obtain ⟨a0, p1, q1, q2, q3⟩ := mk rs (leU n T) n p0 r1 h6 z0 r2.1
  obtain ⟨fq, f0, f1⟩ := dch (P := P) (Q := fun a b => SG a.2.1.1 a.2.2.1 a.2.2.2 b.2.2.1 a.2.1.2 b.2.1.1) a0 p1 fun a ha => by
    obtain ⟨es, e, g, h1, h2, h3, h4, h5, h7, h8, h9, h10, h11, h12, h13, h14, h15⟩ := ha
    obtain ⟨b, b1, b2, b3, b4⟩ := mk es g e h11 h12 h13 h14 h15
    refine ⟨b, b1, ?_⟩
    rw [b3, b4]
    exact h7
  have g0 := (f1 0).1
  rw [f0] at g0
  obtain ⟨_, _, _, _, _, _, _, _, _, h8, h9, h10, _⟩ := g0
  refine ⟨K, i1, i2, i3, i4, i5, i6, rs, a0.1.2, fun j => (fq j).2.1.1, fun j => (fq j).2.1.2, fun j => (fq j).2.2.1, fun j => (fq j).2.2.2, p0, r1, r2.1, ?_, ?_, h10, ?_, ?_, fun j => (f1 j).2⟩
  · show isP (fq 0).2.1.2 a0.1.2
    rw [f0]
    exact h8
  · show a0.1.2.length = (fq 0).2.2.2
    rw [f0]
    exact h9
  · show (fq 0).2.1.1 = _
    rw [f0, q2]
  · show (fq 0).2.2.1 = _
    rw [f0, q3]
