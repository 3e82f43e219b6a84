/-! The primes. -/
def ch : Nat → Nat → Nat
  | _, 0 => 1
  | 0, _ + 1 => 0
  | n + 1, k + 1 => ch n k + ch n (k + 1)
theorem ch_0 (n : Nat) : ch n 0 = 1 := by cases n <;> rfl
theorem ch_out : ∀ n k, n < k → ch n k = 0
  | 0, k + 1, _ => rfl
  | n + 1, k + 1, h => by
    show ch n k + ch n (k + 1) = 0
    rw [ch_out n k (by omega), ch_out n (k + 1) (by omega)]
theorem ch_top : ∀ n, ch n n = 1
  | 0 => rfl
  | n + 1 => by
    show ch n n + ch n (n + 1) = 1
    rw [ch_top n, ch_out n (n + 1) (by omega)]
theorem ch_mul : ∀ n k, (k + 1) * ch (n + 1) (k + 1) = (n + 1) * ch n k
  | 0, 0 => rfl
  | 0, k + 1 => by
    show (k + 1 + 1) * (ch 0 (k + 1) + ch 0 (k + 2)) = (0 + 1) * ch 0 (k + 1)
    show (k + 1 + 1) * (0 + 0) = (0 + 1) * 0
    omega
  | n + 1, 0 => by
    have h := ch_mul n 0
    rw [ch_0] at h
    show (0 + 1) * (ch (n + 1) 0 + ch (n + 1) 1) = (n + 1 + 1) * ch (n + 1) 0
    rw [ch_0]
    have h2 : (0 + 1) * ch (n + 1) (0 + 1) = ch (n + 1) 1 := Nat.one_mul _
    omega
  | n + 1, k + 1 => by
    have h1 := ch_mul n k
    have h2 := ch_mul n (k + 1)
    show (k + 1 + 1) * (ch (n + 1) (k + 1) + ch (n + 1) (k + 1 + 1)) = (n + 1 + 1) * ch (n + 1) (k + 1)
    have h3 : ch (n + 1) (k + 1) = ch n k + ch n (k + 1) := rfl
    generalize ch (n + 1) (k + 1 + 1) = x at *
    generalize ch (n + 1) (k + 1) = y at *
    generalize ch n k = a at *
    generalize ch n (k + 1) = b at *
    subst h3
    grind
theorem ch_pe (a : Int) : ∀ n : Nat, pe (n + 1) (fun k => ((ch n k : Nat) : Int)) a = (a + 1) ^ n
  | 0 => by
    show ((1 : Nat) : Int) + a * 0 = (a + 1) ^ 0
    grind
  | n + 1 => by
    have e : pe (n + 1 + 1) (fun k => ((ch (n + 1) k : Nat) : Int)) a = pe (n + 2) (fun k => su (fun k => ((ch n k : Nat) : Int)) k + ((ch n k : Nat) : Int)) a := pe_eq _ fun i _ => by
      cases i with
      | zero =>
        show ((ch (n + 1) 0 : Nat) : Int) = 0 + ((ch n 0 : Nat) : Int)
        rw [ch_0, ch_0]
        rfl
      | succ i => exact Int.natCast_add _ _
    rw [e, pe_add (c := su fun k => ((ch n k : Nat) : Int)) (e := fun k => ((ch n k : Nat) : Int)), pe_su, pe_more (n := n + 1) 1 fun i h1 h2 => by rw [ch_out n i (by omega)]; rfl, ch_pe a n]
    rw [Int.pow_succ]
    grind
theorem pe_dvd {q a : Int} : ∀ (n : Nat) {c : Nat → Int}, (∀ i, i < n → q ∣ c i) → q ∣ pe n c a
  | 0, _, _ => ⟨0, by
    show (0 : Int) = q * 0
    omega⟩
  | n + 1, c, h => Int.dvd_add (h 0 (by omega)) (Int.dvd_mul_of_dvd_right (pe_dvd n fun i hi => h (i + 1) (by omega)))
theorem fermat0 {p : Nat} (hp : pri p) : ∀ a : Nat, (p : Int) ∣ (a : Int) ^ p - a
  | 0 => by
    have h1 := hp.1
    obtain ⟨k, rfl⟩ : ∃ k, p = k + 1 := ⟨p - 1, by omega⟩
    exact ⟨0, by
      show (0 : Int) ^ k * 0 - 0 = _
      rw [Int.mul_zero, Int.mul_zero]
      rfl⟩
  | a + 1 => by
    have h1 := hp.1
    obtain ⟨k, rfl⟩ : ∃ k, p = k + 2 := ⟨p - 2, by omega⟩
    have ih := fermat0 hp a
    have e := ch_pe (a : Int) (k + 2)
    rw [pe_top, ch_top, pe_succ, ch_0] at e
    have d : ((k + 2 : Nat) : Int) ∣ pe (k + 1) (fun i => ((ch (k + 2) (i + 1) : Nat) : Int)) (a : Int) := pe_dvd _ fun i hi => by
      have h2 := ch_mul (k + 1) i
      have h3 : ((k + 2 : Nat) : Int) ∣ ((i + 1 : Nat) : Int) * ((ch (k + 2) (i + 1) : Nat) : Int) := ⟨((ch (k + 1) i : Nat) : Int), by
        rw [← Int.natCast_mul, ← Int.natCast_mul, h2]⟩
      rcases hp.2 _ _ h3 with g | g
      · have := Int.le_of_dvd (by omega) g
        omega
      · exact g
    obtain ⟨x, hx⟩ := d
    obtain ⟨y, hy⟩ := ih
    have e2 : ((a + 1 : Nat) : Int) = (a : Int) + 1 := by omega
    rw [e2]
    refine ⟨(a : Int) * x + y, ?_⟩
    have e3 : ((a : Int) + 1) ^ (k + 2) = ((1 : Nat) : Int) + (a : Int) * pe (k + 1) (fun i => ((ch (k + 2) (i + 1) : Nat) : Int)) (a : Int) + ((1 : Nat) : Int) * (a : Int) ^ (k + 2) := e.symm
    rw [hx] at e3
    grind
theorem fermat {p : Nat} (hp : pri p) {a : Nat} (h : ¬ (p : Int) ∣ (a : Int)) : (p : Int) ∣ (a : Int) ^ (p - 1) - 1 := by
  have h0 := fermat0 hp a
  have h1 := hp.1
  obtain ⟨k, rfl⟩ : ∃ k, p = k + 1 := ⟨p - 1, by omega⟩
  have e : (a : Int) ^ (k + 1) - a = (a : Int) * ((a : Int) ^ k - 1) := by
    rw [Int.pow_succ]
    grind
  rw [e] at h0
  rw [Nat.add_sub_cancel]
  exact (hp.2 _ _ h0).resolve_left h
/-- products of rows of numbers -/
def prd : Nat → Nat → Nat
  | lo, 0 => lo * (lo + 1) * (lo + 2) * (lo + 3) * (lo + 4) * (lo + 5) * (lo + 6) * (lo + 7)
  | lo, k + 1 => prd lo k * prd (lo + 8 * 2 ^ k) k
theorem prd_dvd {d : Nat} : ∀ k lo, lo ≤ d → d < lo + 8 * 2 ^ k → d ∣ prd lo k
  | 0, lo, h1, h2 => by
    have h3 : d < lo + 8 := h2
    show d ∣ lo * (lo + 1) * (lo + 2) * (lo + 3) * (lo + 4) * (lo + 5) * (lo + 6) * (lo + 7)
    have c : d = lo ∨ d = lo + 1 ∨ d = lo + 2 ∨ d = lo + 3 ∨ d = lo + 4 ∨ d = lo + 5 ∨ d = lo + 6 ∨ d = lo + 7 := by omega
    rcases c with e | e | e | e | e | e | e | e <;> subst e
    · exact ⟨(d + 1) * (d + 2) * (d + 3) * (d + 4) * (d + 5) * (d + 6) * (d + 7), by grind⟩
    · exact ⟨lo * (lo + 2) * (lo + 3) * (lo + 4) * (lo + 5) * (lo + 6) * (lo + 7), by grind⟩
    · exact ⟨lo * (lo + 1) * (lo + 3) * (lo + 4) * (lo + 5) * (lo + 6) * (lo + 7), by grind⟩
    · exact ⟨lo * (lo + 1) * (lo + 2) * (lo + 4) * (lo + 5) * (lo + 6) * (lo + 7), by grind⟩
    · exact ⟨lo * (lo + 1) * (lo + 2) * (lo + 3) * (lo + 5) * (lo + 6) * (lo + 7), by grind⟩
    · exact ⟨lo * (lo + 1) * (lo + 2) * (lo + 3) * (lo + 4) * (lo + 6) * (lo + 7), by grind⟩
    · exact ⟨lo * (lo + 1) * (lo + 2) * (lo + 3) * (lo + 4) * (lo + 5) * (lo + 7), by grind⟩
    · exact Nat.dvd_mul_left _ _
  | k + 1, lo, h1, h2 => by
    show d ∣ prd lo k * prd (lo + 8 * 2 ^ k) k
    rw [Nat.pow_succ] at h2
    rcases Nat.lt_or_ge d (lo + 8 * 2 ^ k) with l | l
    · exact Nat.dvd_trans (prd_dvd k lo h1 l) (Nat.dvd_mul_right _ _)
    · exact Nat.dvd_trans (prd_dvd k _ l (by omega)) (Nat.dvd_mul_left _ _)
theorem pri_of {p : Nat} (h1 : 1 < p) (h : ∀ d, 1 < d → d * d ≤ p → ¬ d ∣ p) : pri p := by
  obtain ⟨q, ⟨q1, q2⟩, q3⟩ := lst (P := fun q => 1 < q ∧ q ∣ p) p ⟨h1, Nat.dvd_refl p⟩
  obtain ⟨r, hr⟩ := q2
  have e : q = p := by
    refine Classical.byContradiction fun g => ?_
    have r0 : r ≠ 0 := fun z => by
      rw [z, Nat.mul_zero] at hr
      omega
    have r1 : r ≠ 1 := fun z => by
      rw [z, Nat.mul_one] at hr
      exact g hr.symm
    have r2 : q ≤ r := by
      refine Classical.byContradiction fun l => q3 r (by omega) ⟨by omega, ⟨q, by rw [hr, Nat.mul_comm]⟩⟩
    exact h q q1 (by rw [hr]; exact Nat.mul_le_mul_left q r2) ⟨r, hr⟩
  obtain ⟨s, s1, s2⟩ := pri_ex p h1
  have s0 := s1.1
  obtain ⟨s, rfl⟩ : ∃ x : Nat, s = (x : Int) := ⟨s.toNat, by omega⟩
  have s3 : s ∣ p := Int.ofNat_dvd.mp s2
  have s4 : ¬ s < q := fun l => q3 s l ⟨by omega, s3⟩
  have s5 := Nat.le_of_dvd (by omega) s3
  have s6 : s = p := by omega
  rw [← s6]
  exact s1
def pqs : List Nat := [2147483647, 2147483629, 2147483587, 2147483579, 2147483563, 2147483549, 2147483543, 2147483497, 2147483489, 2147483477, 2147483423, 2147483399, 2147483353, 2147483323, 2147483269, 2147483249, 2147483237, 2147483179, 2147483171, 2147483137, 2147483123, 2147483077, 2147483069, 2147483059]
def pq (q : Nat) : Nat := pqs.getD q 0
def lprod : List Nat → Nat
  | [] => 1
  | a :: as => a * lprod as
set_option maxRecDepth 20000 in
theorem pqs_gcd : Nat.gcd (prd 2 13) (lprod pqs) = 1 := by decide +kernel
theorem lprod_dvd {a : Nat} : ∀ {as : List Nat}, a ∈ as → a ∣ lprod as
  | [], h => by cases h
  | b :: as, h => by
    rcases List.mem_cons.mp h with e | e
    · rw [e]
      exact Nat.dvd_mul_right _ _
    · exact Nat.dvd_trans (lprod_dvd e) (Nat.dvd_mul_left _ _)
theorem pq_mem : ∀ q, q < 24 → pq q ∈ pqs := by decide
theorem pq_rg : ∀ q, q < 24 → 2147483058 < pq q ∧ pq q < 2147483648 := by decide
theorem pq_ne : ∀ q, q < 24 → ∀ r, r < 24 → q ≠ r → pq q ≠ pq r := by decide
theorem pq_pri (q : Nat) (h : q < 24) : pri (pq q) := by
  have r := pq_rg q h
  refine pri_of (by omega) fun d d1 d2 d3 => ?_
  have d4 : d < 65538 := by
    refine Classical.byContradiction fun g => ?_
    have := Nat.mul_le_mul (show 65538 ≤ d by omega) (show 65538 ≤ d by omega)
    omega
  have h1 : d ∣ prd 2 13 := prd_dvd 13 2 (by omega) (by
    have : 2 + 8 * 2 ^ 13 = 65538 := by decide
    omega)
  have h2 := Nat.dvd_gcd h1 (Nat.dvd_trans d3 (lprod_dvd (pq_mem q h)))
  rw [pqs_gcd] at h2
  have := Nat.le_of_dvd (by omega) h2
  omega
/-- how many of the first n primes go into N -/
def nbad (N : Nat) : Nat → Nat
  | 0 => 0
  | n + 1 => nbad N n + if pq n ∣ N then 1 else 0
theorem pri_cop {p r : Nat} (hp : pri p) (hr : pri r) (h : p ≠ r) : ∀ {N M : Nat}, N = r * M → p ∣ N → p ∣ M := fun {N M} e hd => by
  have h1 : (p : Int) ∣ (r : Int) * (M : Int) := by
    rw [← Int.natCast_mul, ← e]
    exact Int.ofNat_dvd.mpr hd
  rcases hp.2 _ _ h1 with g | g
  · exfalso
    have g2 : p ∣ r := Int.ofNat_dvd.mp g
    obtain ⟨x, hx⟩ := g2
    have h3 : (r : Int) ∣ (p : Int) * (x : Int) := by
      rw [← Int.natCast_mul, ← hx]
      exact ⟨1, by omega⟩
    have p0 := hp.1
    have r0 := hr.1
    have x0 : x ≠ 0 := fun z => by
      rw [z, Nat.mul_zero] at hx
      omega
    have hle := Nat.le_of_dvd (by omega) (⟨x, hx⟩ : p ∣ r)
    rcases hr.2 _ _ h3 with k | k
    · have := Nat.le_of_dvd (by omega) (Int.ofNat_dvd.mp k)
      omega
    · have k2 := Nat.le_of_dvd (by omega) (Int.ofNat_dvd.mp k)
      have := Nat.mul_le_mul_left p k2
      have p2 : 2 * r ≤ p * r := Nat.mul_le_mul_right r (by omega)
      omega
  · exact Int.ofNat_dvd.mp g
/-- N is a multiple of the product of those that go into it -/
theorem nbad_le {N : Nat} (hN : N ≠ 0) : ∀ n, n ≤ 24 → ∃ M, M ≠ 0 ∧ (2 ^ 30) ^ nbad N n * M ≤ N ∧ ∀ j, n ≤ j → j < 24 → pq j ∣ N → pq j ∣ M
  | 0, _ => ⟨N, hN, by
    show (2 ^ 30) ^ 0 * N ≤ N
    omega, fun j _ _ h => h⟩
  | n + 1, h => by
    obtain ⟨M, m0, m1, m2⟩ := nbad_le hN n (by omega)
    by_cases g : pq n ∣ N
    · obtain ⟨L, hL⟩ := m2 n (Nat.le_refl n) (by omega) g
      have l0 : L ≠ 0 := fun z => by
        rw [z, Nat.mul_zero] at hL
        exact m0 hL
      refine ⟨L, l0, ?_, fun j h1 h2 h3 => ?_⟩
      · show (2 ^ 30) ^ (nbad N n + if pq n ∣ N then 1 else 0) * L ≤ N
        rw [if_pos g, Nat.pow_succ]
        have r := pq_rg n (by omega)
        have h1 : 2 ^ 30 * L ≤ M := by
          rw [hL]
          exact Nat.mul_le_mul_right L (by omega)
        have h2 := Nat.mul_le_mul_left ((2 ^ 30) ^ nbad N n) h1
        rw [Nat.mul_assoc]
        exact Nat.le_trans h2 m1
      · exact pri_cop (pq_pri j h2) (pq_pri n (by omega)) (pq_ne j h2 n (by omega) (by omega)) hL (m2 j (by omega) h2 h3)
    · refine ⟨M, m0, ?_, fun j h1 h2 h3 => m2 j (by omega) h2 h3⟩
      show (2 ^ 30) ^ (nbad N n + if pq n ∣ N then 1 else 0) * M ≤ N
      rw [if_neg g]
      exact m1
theorem nbad_few {N : Nat} (hN : N ≠ 0) (h : N < 2 ^ 330) : nbad N 24 ≤ 10 := by
  obtain ⟨M, m0, m1, _⟩ := nbad_le hN 24 (by omega)
  refine Classical.byContradiction fun g => ?_
  have h1 : (2 ^ 30) ^ 11 ≤ (2 ^ 30) ^ nbad N 24 := Nat.pow_le_pow_right (by decide) (by omega)
  have h2 := Nat.le_mul_of_pos_right ((2 ^ 30) ^ nbad N 24) (show 0 < M by omega)
  have h3 : (2 ^ 30) ^ 11 = 2 ^ 330 := by decide
  omega
