/-! What the primes tell, the greatest of it, and whole numbers by three rests. -/
/-- the first unlike place of two rows of six: its sign -/
def imr (a b : Nat → Int) : Nat → Nat → Int
  | 0, _ => 0
  | n + 1, j => if a j - b j = 0 then imr a b n (j + 1) else if a j - b j ≤ 0 then -1 else 1
def im (a b : Nat → Int) : Int := imr a b 6 0
def eq6 (a b : Nat → Int) : Prop := ∀ j, j < 6 → a j = b j
/-- a is below b at the first place where they are unlike -/
def lt6 (a b : Nat → Int) : Prop := ∃ j, j < 6 ∧ (∀ i, i < j → a i = b i) ∧ a j < b j
theorem imr_0 {a b : Nat → Int} : ∀ n j, imr a b n j = 0 ↔ ∀ i, j ≤ i → i < j + n → a i = b i
  | 0, j => ⟨fun _ i h1 h2 => by omega, fun _ => rfl⟩
  | n + 1, j => by
    have ih := imr_0 (a := a) (b := b) n (j + 1)
    show (if a j - b j = 0 then imr a b n (j + 1) else if a j - b j ≤ 0 then -1 else 1) = 0 ↔ _
    by_cases g : a j - b j = 0
    · rw [if_pos g, ih]
      refine ⟨fun h i h1 h2 => ?_, fun h i h1 h2 => h i (by omega) (by omega)⟩
      by_cases e : i = j
      · rw [e]; omega
      · exact h i (by omega) (by omega)
    · rw [if_neg g]
      refine ⟨fun h => ?_, fun h => absurd (h j (Nat.le_refl j) (by omega)) (by omega)⟩
      exfalso
      split at h <;> omega
theorem im_0 {a b : Nat → Int} : im a b = 0 ↔ eq6 a b := by
  unfold im
  rw [imr_0]
  exact ⟨fun h j hj => h j (by omega) (by omega), fun h i _ h2 => h i (by omega)⟩
theorem imr_at {a b : Nat → Int} {x : Int} : ∀ n j k, k < n → (∀ i, j ≤ i → i < j + k → a i = b i) → (if a (j + k) - b (j + k) ≤ 0 then (-1 : Int) else 1) = x → a (j + k) ≠ b (j + k) → imr a b n j = x
  | 0, j, k, h, _, _, _ => by omega
  | n + 1, j, 0, _, _, hx, hne => by
    rw [Nat.add_zero] at hx hne
    show (if a j - b j = 0 then imr a b n (j + 1) else if a j - b j ≤ 0 then -1 else 1) = x
    rw [if_neg (by omega), hx]
  | n + 1, j, k + 1, h, he, hx, hne => by
    show (if a j - b j = 0 then imr a b n (j + 1) else if a j - b j ≤ 0 then -1 else 1) = x
    rw [if_pos (by have := he j (Nat.le_refl j) (by omega); omega)]
    rw [show j + (k + 1) = j + 1 + k by omega] at hx hne
    exact imr_at n (j + 1) k (by omega) (fun i h1 h2 => he i (by omega) (by omega)) hx hne
theorem im_lt {a b : Nat → Int} (h : lt6 a b) : im a b = -1 ∧ im b a = 1 := by
  obtain ⟨j, h1, h2, h3⟩ := h
  refine ⟨imr_at 6 0 j h1 (fun i _ hi => h2 i (by omega)) ?_ (by rw [Nat.zero_add]; omega), imr_at 6 0 j h1 (fun i _ hi => (h2 i (by omega)).symm) ?_ (by rw [Nat.zero_add]; omega)⟩
  · rw [Nat.zero_add, if_pos (by omega)]
  · rw [Nat.zero_add, if_neg (by omega)]
theorem lt6_ne {a b : Nat → Int} (h : lt6 a b) : ¬ eq6 a b := fun g => by
  obtain ⟨j, h1, _, h3⟩ := h
  have := g j h1
  omega
section BEST
variable {tb : Nat → Nat → Int} {t : Nat → Int}
/-- what stands when x primes have been looked at -/
def bst (tb : Nat → Nat → Int) (t : Nat → Int) (b x : Nat) : Prop := b < x ∧ ((eq6 (tb b) t ∧ ∀ q, q < b → ¬ eq6 (tb q) t) ∨ ∀ q, q < x → ¬ eq6 (tb q) t)
theorem bst_0 : bst tb t 0 1 := by
  refine ⟨by omega, ?_⟩
  rcases Classical.em (eq6 (tb 0) t) with g | g
  · exact Or.inl ⟨g, fun q hq => by omega⟩
  · exact Or.inr fun q hq => by
      rw [show q = 0 by omega]
      exact g
theorem bst_s {b x : Nat} (hl : ∀ q, q < 24 → eq6 (tb q) t ∨ lt6 (tb q) t) (hx : x < 24) (h : bst tb t b x) : (im (tb x) (tb b) ≤ 0 → bst tb t b (x + 1)) ∧ (¬ im (tb x) (tb b) ≤ 0 → bst tb t x (x + 1)) := by
  obtain ⟨h1, h2⟩ := h
  rcases h2 with ⟨g1, g2⟩ | g
  · refine ⟨fun _ => ⟨by omega, Or.inl ⟨g1, g2⟩⟩, fun hn => ?_⟩
    exfalso
    have e : im (tb x) (tb b) = im (tb x) t := by
      have : ∀ n j, j + n ≤ 6 → imr (tb x) (tb b) n j = imr (tb x) t n j := fun n => by
        induction n with
        | zero => exact fun _ _ => rfl
        | succ n ih =>
          intro j hj
          show (if tb x j - tb b j = 0 then imr (tb x) (tb b) n (j + 1) else if tb x j - tb b j ≤ 0 then (-1 : Int) else 1) = if tb x j - t j = 0 then imr (tb x) t n (j + 1) else if tb x j - t j ≤ 0 then (-1 : Int) else 1
          rw [g1 j (by omega), ih (j + 1) (by omega)]
      exact this 6 0 (by omega)
    rw [e] at hn
    rcases hl x hx with k | k
    · have := im_0.mpr k
      omega
    · have := (im_lt k).1
      omega
  · rcases Classical.em (eq6 (tb x) t) with k | k
    · have hb : lt6 (tb b) t := (hl b (by omega)).resolve_left (g b h1)
      have e : im (tb x) (tb b) = 1 := by
        obtain ⟨j, j1, j2, j3⟩ := hb
        exact (im_lt (a := tb b) (b := tb x) ⟨j, j1, fun i hi => by rw [j2 i hi, k i (by omega)], by rw [k j j1]; exact j3⟩).2
      refine ⟨fun hn => by omega, fun _ => ⟨by omega, Or.inl ⟨k, fun q hq => g q hq⟩⟩⟩
    · have all : ∀ q, q < x + 1 → ¬ eq6 (tb q) t := fun q hq => by
        by_cases e : q = x
        · rw [e]; exact k
        · exact g q (by omega)
      exact ⟨fun _ => ⟨by omega, Or.inr all⟩, fun _ => ⟨by omega, Or.inr all⟩⟩
theorem nbad_ge {N a b : Nat} (h : ∀ q, q < 24 → q ≠ a → q ≠ b → pq q ∣ N) : ∀ n, n ≤ 24 → n ≤ nbad N n + (if a < n then 1 else 0) + if b < n then 1 else 0
  | 0, _ => by omega
  | n + 1, hn => by
    have ih := nbad_ge h n (by omega)
    show n + 1 ≤ nbad N n + (if pq n ∣ N then 1 else 0) + (if a < n + 1 then 1 else 0) + if b < n + 1 then 1 else 0
    by_cases e1 : n = a
    · rw [if_pos (show a < n + 1 by omega)]
      rw [if_neg (show ¬ a < n by omega)] at ih
      have : (if b < n then 1 else 0) ≤ if b < n + 1 then 1 else 0 := by
        by_cases g : b < n
        · rw [if_pos g, if_pos (by omega)]; omega
        · rw [if_neg g]; omega
      omega
    · by_cases e2 : n = b
      · rw [if_pos (show b < n + 1 by omega)]
        rw [if_neg (show ¬ b < n by omega)] at ih
        have : (if a < n then 1 else 0) ≤ if a < n + 1 then 1 else 0 := by
          by_cases g : a < n
          · rw [if_pos g, if_pos (by omega)]; omega
          · rw [if_neg g]; omega
        omega
      · rw [if_pos (h n (by omega) e1 e2)]
        have k1 : (if a < n then 1 else 0) ≤ if a < n + 1 then 1 else 0 := by
          by_cases g : a < n
          · rw [if_pos g, if_pos (by omega)]; omega
          · rw [if_neg g]; omega
        have k2 : (if b < n then 1 else 0) ≤ if b < n + 1 then 1 else 0 := by
          by_cases g : b < n
          · rw [if_pos g, if_pos (by omega)]; omega
          · rw [if_neg g]; omega
        omega
/-- a third one there is, besides any two -/
theorem third {N : Nat} (hN : nbad N 24 ≤ 10) (hg : ∀ q, q < 24 → ¬ pq q ∣ N → eq6 (tb q) t) (a b : Nat) : ∃ q, q < 24 ∧ q ≠ a ∧ q ≠ b ∧ eq6 (tb q) t := by
  refine Classical.byContradiction fun g => ?_
  have h := nbad_ge (N := N) (a := a) (b := b) (fun q h1 h2 h3 => Classical.byContradiction fun k => g ⟨q, h1, h2, h3, hg q h1 k⟩) 24 (by omega)
  split at h <;> split at h <;> omega
end BEST
/-- rests -/
theorem em_eq {x a q : Int} (h0 : 0 ≤ x) (h1 : x < q) (h : q ∣ x - a) : x = a % q := by
  have h2 := Int.emod_eq_emod_iff_emod_sub_eq_zero.mpr (Int.emod_eq_zero_of_dvd h)
  rw [Int.emod_eq_of_lt h0 h1] at h2
  exact h2
theorem em_dv (a q : Int) : q ∣ a % q - a := ⟨-(a / q), by
  have := Int.mul_ediv_add_emod a q
  rw [Int.mul_neg]
  omega⟩
theorem em_dv2 (a q : Int) : q ∣ a - a % q := ⟨a / q, by
  have := Int.mul_ediv_add_emod a q
  omega⟩
theorem tm_dv (a q : Int) : q ∣ Int.tmod a q - a := ⟨-(Int.tdiv a q), by
  have := Int.mul_tdiv_add_tmod a q
  rw [Int.mul_neg]
  omega⟩
theorem tm_pos {a q : Int} (ha : 0 ≤ a) : Int.tmod a q = a % q := Int.tmod_eq_emod_of_nonneg ha
theorem tm_fix {a q : Int} (hq : 0 < q) : Int.tmod (Int.tmod a q + q) q = a % q := by
  have h0 := Int.lt_tmod_of_pos a hq
  rw [tm_pos (by omega)]
  have h1 := Int.emod_nonneg (Int.tmod a q + q) (show q ≠ 0 by omega)
  have h2 := Int.emod_lt_of_pos (Int.tmod a q + q) hq
  refine em_eq h1 h2 ?_
  have e1 := em_dv (Int.tmod a q + q) q
  have e2 := tm_dv a q
  have e3 := Int.dvd_add (Int.dvd_add e1 e2) (Int.dvd_refl q)
  rw [show (Int.tmod a q + q) % q - (Int.tmod a q + q) + (Int.tmod a q - a) + q = (Int.tmod a q + q) % q - a by omega] at e3
  exact e3
theorem pow_dv {q : Int} {a b : Int} (h : q ∣ a - b) : ∀ n : Nat, q ∣ a ^ n - b ^ n
  | 0 => ⟨0, by
    rw [Int.pow_zero, Int.pow_zero]
    omega⟩
  | n + 1 => by
    rw [Int.pow_succ, Int.pow_succ]
    have e1 := Int.dvd_mul_of_dvd_right (b := a ^ n) h
    have e2 := Int.dvd_mul_of_dvd_right (b := b) (pow_dv h n)
    have e3 := Int.dvd_add e1 e2
    rw [show a ^ n * (a - b) + b * (a ^ n - b ^ n) = a ^ n * a - b ^ n * b by grind] at e3
    exact e3
theorem inv_ok {p : Nat} (hp : pri p) {a : Int} (h0 : 0 ≤ a) (h : ¬ (p : Int) ∣ a) : (p : Int) ∣ a * (a ^ (p - 2) % p) - 1 := by
  have h1 := hp.1
  obtain ⟨a, rfl⟩ : ∃ x : Nat, a = (x : Int) := ⟨a.toNat, by omega⟩
  have f := fermat hp h
  obtain ⟨k, rfl⟩ : ∃ k, p = k + 2 := ⟨p - 2, by omega⟩
  rw [show k + 2 - 1 = k + 1 from rfl, Int.pow_succ] at f
  rw [show k + 2 - 2 = k from rfl]
  have e := Int.dvd_mul_of_dvd_right (b := (a : Int)) (em_dv ((a : Int) ^ k) ((k + 2 : Nat) : Int))
  have e2 := Int.dvd_add e f
  rw [show (a : Int) * ((a : Int) ^ k % ((k + 2 : Nat) : Int) - (a : Int) ^ k) + ((a : Int) ^ k * (a : Int) - 1) = (a : Int) * ((a : Int) ^ k % ((k + 2 : Nat) : Int)) - 1 by grind] at e2
  exact e2
theorem pq_nd {q r : Nat} (hq : q < 24) (hr : r < 24) (h : q ≠ r) : ¬ (pq q : Int) ∣ (pq r : Int) := fun g => by
  obtain ⟨x, hx⟩ := Int.ofNat_dvd.mp g
  have a1 := pq_rg q hq
  have a2 := pq_rg r hr
  have x0 : x ≠ 0 := fun z => by
    rw [z, Nat.mul_zero] at hx
    omega
  by_cases x1 : x = 1
  · rw [x1, Nat.mul_one] at hx
    exact pq_ne q hq r hr h hx.symm
  · have := Nat.mul_le_mul_left (pq q) (show 2 ≤ x by omega)
    omega
/-- a small number, by its rests -/
theorem crt {a b c : Nat} (ha : a < 24) (hb : b < 24) (hc : c < 24) (hab : a ≠ b) (hac : a ≠ c) (hbc : b ≠ c) {F v w : Int} (hF : bgA F ≤ 46656000000000000) (hv : 0 ≤ v ∧ v < pq b) (hw : 0 ≤ w ∧ w < pq c) (h1 : (pq b : Int) ∣ F % pq a + pq a * v - F % pq b) (h2 : (pq c : Int) ∣ F % pq a + pq a * v + pq a * pq b * w - F % pq c) : (if w = 0 then F % pq a + pq a * v else F % pq a + pq a * v - pq a * pq b) = F := by
  have ra := pq_rg a ha
  have rb := pq_rg b hb
  have rc := pq_rg c hc
  have nba := pq_nd hb ha (fun e => hab e.symm)
  have nca := pq_nd hc ha (fun e => hac e.symm)
  have ncb := pq_nd hc hb (fun e => hbc e.symm)
  have pb := pq_pri b hb
  have pc := pq_pri c hc
  have em0 := Int.emod_nonneg F (show (pq a : Int) ≠ 0 by omega)
  have em1 := Int.emod_lt_of_pos F (show (0 : Int) < pq a by omega)
  have dA := em_dv F (pq a)
  have dB := em_dv F (pq b)
  have dC := em_dv F (pq c)
  have hF2 : -46656000000000000 ≤ F ∧ F ≤ 46656000000000000 := by
    unfold bgA at hF
    split at hF <;> omega
  generalize F % (pq a : Int) = x at *
  generalize F % (pq b : Int) = y at *
  generalize F % (pq c : Int) = z at *
  generalize hPa : (pq a : Int) = A at *
  generalize hPb : (pq b : Int) = B at *
  generalize hPc : (pq c : Int) = C at *
  -- all three go into the difference
  have kA : A ∣ x + A * v + A * B * w - F := by
    have e1 : A ∣ A * v + A * B * w := Int.dvd_add (Int.dvd_mul_right A v) ⟨B * w, by grind⟩
    have := Int.dvd_add dA e1
    rw [show x - F + (A * v + A * B * w) = x + A * v + A * B * w - F by omega] at this
    exact this
  have kB : B ∣ x + A * v + A * B * w - F := by
    have e1 : B ∣ A * B * w := ⟨A * w, by grind⟩
    have := Int.dvd_add (Int.dvd_add h1 dB) e1
    rw [show x + A * v - y + (y - F) + A * B * w = x + A * v + A * B * w - F by omega] at this
    exact this
  have kC : C ∣ x + A * v + A * B * w - F := by
    have := Int.dvd_add h2 dC
    rw [show x + A * v + A * B * w - z + (z - F) = x + A * v + A * B * w - F by omega] at this
    exact this
  obtain ⟨k1, e1⟩ := kA
  rw [e1] at kB kC
  obtain ⟨k2, rfl⟩ := (pb.2 _ _ kB).resolve_left nba
  have kC2 : C ∣ A * B * k2 := by
    rw [Int.mul_assoc]
    exact kC
  rcases pc.2 (A * B) k2 kC2 with g | g
  · exfalso
    rcases pc.2 A B g with g2 | g2
    · exact nca g2
    · exact ncb g2
  · obtain ⟨k, rfl⟩ := g
    have bN : 46656000000000000 < A * B ∧ A * v ≤ A * (B - 1) := by
      have m1 := Int.mul_le_mul (show (2147483059 : Int) ≤ A by omega) (show (2147483059 : Int) ≤ B by omega) (by omega) (by omega)
      refine ⟨by omega, Int.mul_le_mul_of_nonneg_left (by omega) (by omega)⟩
    have v0 := Int.mul_nonneg (show 0 ≤ A by omega) hv.1
    have aN : x + A * v < A * B := by
      have := bN.2
      rw [Int.mul_sub, Int.mul_one] at this
      omega
    have e2 : x + A * v + A * B * w - F = A * B * C * k := by rw [e1]; grind
    generalize hN : A * B = N at *
    have M1 : N * w ≤ N * (C - 1) := Int.mul_le_mul_of_nonneg_left (by omega) (by omega)
    have M0 := Int.mul_nonneg (show 0 ≤ N by omega) hw.1
    rw [Int.mul_sub, Int.mul_one] at M1
    have M2 : N * 2 ≤ N * C := Int.mul_le_mul_of_nonneg_left (by omega) (by omega)
    generalize hM : N * C = M at *
    have kk : k = 0 ∨ k = 1 := by
      refine Classical.byContradiction fun g => ?_
      rcases Int.lt_or_le k 0 with l | l
      · have := Int.mul_le_mul_of_nonneg_left (show k ≤ -1 by omega) (show 0 ≤ M by omega)
        omega
      · have := Int.mul_le_mul_of_nonneg_left (show 2 ≤ k by omega) (show 0 ≤ M by omega)
        omega
    rcases kk with rfl | rfl
    · have w0 : w = 0 := by
        refine Classical.byContradiction fun g => ?_
        have := Int.mul_le_mul_of_nonneg_left (show 1 ≤ w by omega) (show 0 ≤ N by omega)
        omega
      rw [if_pos w0]
      rw [w0] at e2
      omega
    · have w1 : w = C - 1 := by
        refine Classical.byContradiction fun g => ?_
        have := Int.mul_le_mul_of_nonneg_left (show w ≤ C - 2 by omega) (show 0 ≤ N by omega)
        rw [Int.mul_sub, hM] at this
        omega
      rw [if_neg (by omega)]
      rw [w1, Int.mul_sub, Int.mul_one, hM] at e2
      omega
