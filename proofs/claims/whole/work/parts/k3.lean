/-! Polynomials over a field: roots and factors. -/
def ks {R : Type} [Lean.Grind.CommRing R] : Nat → (Nat → R) → R
  | 0, _ => 0
  | n + 1, f => ks n f + f n
theorem ks_succ {R : Type} [Lean.Grind.CommRing R] {n : Nat} {f : Nat → R} : ks (n + 1) f = ks n f + f n := rfl
theorem ks_eq {R : Type} [Lean.Grind.CommRing R] {f g : Nat → R} : ∀ n, (∀ j, j < n → f j = g j) → ks n f = ks n g
  | 0, _ => rfl
  | n + 1, h => by rw [ks_succ, ks_succ, ks_eq n fun j hj => h j (by omega), h n (by omega)]
theorem ks_add {R : Type} [Lean.Grind.CommRing R] {f g : Nat → R} : ∀ n, ks n (fun j => f j + g j) = ks n f + ks n g
  | 0 => by
    show (0 : R) = 0 + 0
    grind
  | n + 1 => by
    rw [ks_succ, ks_succ, ks_succ, ks_add n]
    grind
theorem ks_mul {R : Type} [Lean.Grind.CommRing R] {f : Nat → R} {c : R} : ∀ n, ks n (fun j => c * f j) = c * ks n f
  | 0 => by
    show (0 : R) = c * 0
    grind
  | n + 1 => by
    rw [ks_succ, ks_succ, ks_mul n]
    grind
theorem ks_zero {R : Type} [Lean.Grind.CommRing R] {f : Nat → R} : ∀ (n : Nat), (∀ j, j < n → f j = 0) → ks n f = 0
  | 0, _ => rfl
  | n + 1, h => by
    rw [ks_succ, ks_zero n fun j hj => h j (by omega), h n (by omega)]
    grind
theorem ks_swap {R : Type} [Lean.Grind.CommRing R] {F : Nat → Nat → R} {m : Nat} : ∀ n, ks n (fun k => ks m (fun j => F j k)) = ks m (fun j => ks n (fun k => F j k))
  | 0 => (ks_zero m fun _ _ => rfl).symm
  | n + 1 => by
    rw [ks_succ, ks_swap n, ← ks_add]
    exact ks_eq m fun j _ => rfl
theorem ks_unit {R : Type} [Lean.Grind.CommRing R] {f : Nat → R} {e : Nat} : ∀ n, ks n (fun j => if j = e then f j else 0) = if e < n then f e else 0
  | 0 => rfl
  | n + 1 => by
    rw [ks_succ, ks_unit n]
    by_cases g : e < n
    · rw [if_pos g, if_pos (show e < n + 1 by omega), if_neg (show ¬ n = e by omega)]
      grind
    · rw [if_neg g]
      by_cases g2 : n = e
      · rw [if_pos g2, if_pos (show e < n + 1 by omega), g2]
        grind
      · rw [if_neg g2, if_neg (show ¬ e < n + 1 by omega)]
        grind
theorem pe_eq {R : Type} [Lean.Grind.CommRing R] : ∀ (n : Nat) {c e : Nat → R} {x : R}, (∀ i, i < n → c i = e i) → pe n c x = pe n e x
  | 0, _, _, _, _ => rfl
  | n + 1, c, e, x, h => by rw [pe_succ, pe_succ, h 0 (by omega), pe_eq n fun i hi => h (i + 1) (by omega)]
theorem pe_add {R : Type} [Lean.Grind.CommRing R] : ∀ (n : Nat) {c e : Nat → R} {x : R}, pe n (fun i => c i + e i) x = pe n c x + pe n e x
  | 0, _, _, x => by
    show (0 : R) = 0 + 0
    grind
  | n + 1, c, e, x => by
    rw [pe_succ, pe_succ, pe_succ, pe_add n (c := fun i => c (i + 1)) (e := fun i => e (i + 1))]
    grind
theorem pe_mul {R : Type} [Lean.Grind.CommRing R] : ∀ (n : Nat) {c : Nat → R} {a x : R}, pe n (fun i => a * c i) x = a * pe n c x
  | 0, _, a, x => by
    show (0 : R) = a * 0
    grind
  | n + 1, c, a, x => by
    rw [pe_succ, pe_succ, pe_mul n (c := fun i => c (i + 1))]
    grind
theorem pe_zero {R : Type} [Lean.Grind.CommRing R] : ∀ (n : Nat) {c : Nat → R} {x : R}, (∀ i, i < n → c i = 0) → pe n c x = 0
  | 0, _, _, _ => rfl
  | n + 1, c, x, h => by
    rw [pe_succ, h 0 (by omega), pe_zero n fun i hi => h (i + 1) (by omega)]
    grind
/-- the last number apart -/
theorem pe_top {R : Type} [Lean.Grind.CommRing R] : ∀ (n : Nat) {c : Nat → R} {x : R}, pe (n + 1) c x = pe n c x + c n * x ^ n
  | 0, c, x => by
    show c 0 + x * 0 = 0 + c 0 * x ^ 0
    grind
  | n + 1, c, x => by
    rw [pe_succ, pe_top n, pe_succ]
    grind
theorem pe_ks {R : Type} [Lean.Grind.CommRing R] : ∀ (n : Nat) {c : Nat → R} {x : R}, pe n c x = ks n fun i => c i * x ^ i
  | 0, _, _ => rfl
  | n + 1, c, x => by rw [pe_top, pe_ks n, ks_succ]
theorem pe_more {R : Type} [Lean.Grind.CommRing R] {n : Nat} {c : Nat → R} {x : R} : ∀ k, (∀ i, n ≤ i → i < n + k → c i = 0) → pe (n + k) c x = pe n c x
  | 0, _ => rfl
  | k + 1, h => by
    rw [← Nat.add_assoc, pe_top, pe_more k fun i h1 h2 => h i h1 (by omega), h (n + k) (by omega) (by omega)]
    grind
/-- times x -/
def su {R : Type} [Lean.Grind.CommRing R] (c : Nat → R) : Nat → R
  | 0 => 0
  | i + 1 => c i
theorem pe_su {R : Type} [Lean.Grind.CommRing R] {n : Nat} {c : Nat → R} {x : R} : pe (n + 1) (su c) x = x * pe n c x := by
  rw [pe_succ]
  show (0 : R) + x * pe n (fun i => c i) x = _
  grind
/-- the rest of a division by x - r -/
def qd {R : Type} [Lean.Grind.CommRing R] (r : R) (n : Nat) (c : Nat → R) (i : Nat) : R := pe (n - i) (fun j => c (i + 1 + j)) r
theorem pe_fac {R : Type} [Lean.Grind.CommRing R] : ∀ (n : Nat) {c : Nat → R} {x r : R}, pe (n + 1) c x = pe (n + 1) c r + (x - r) * pe n (qd r n c) x
  | 0, c, x, r => by
    show c 0 + x * 0 = c 0 + r * 0 + (x - r) * 0
    grind
  | n + 1, c, x, r => by
    rw [pe_succ, pe_succ (n := n + 1) (x := r), pe_fac n (r := r)]
    have e1 : qd r (n + 1) c 0 = pe (n + 1) (fun i => c (i + 1)) r := pe_eq (n + 1) fun i _ => by
      show c (0 + 1 + i) = c (i + 1)
      congr 1
      omega
    have e2 : pe n (fun i => qd r (n + 1) c (i + 1)) x = pe n (qd r n fun i => c (i + 1)) x := pe_eq n fun i hi => by
      show pe (n + 1 - (i + 1)) _ r = pe (n - i) _ r
      rw [show n + 1 - (i + 1) = n - i by omega]
      exact pe_eq _ fun j _ => by
        show c (i + 1 + 1 + j) = c (i + 1 + j + 1)
        congr 1
        omega
    rw [pe_succ (n := n) (c := qd r (n + 1) c), e1, e2]
    grind
theorem qd_step {R : Type} [Lean.Grind.CommRing R] {r : R} {n i : Nat} {c : Nat → R} (h : i < n) : qd r n c i = c (i + 1) + r * qd r n c (i + 1) := by
  unfold qd
  rw [show n - i = (n - (i + 1)) + 1 by omega, pe_succ]
  congr 1
  congr 1
  exact pe_eq _ fun j _ => by congr 1; omega
theorem qd_top {R : Type} [Lean.Grind.CommRing R] {r : R} {n : Nat} {c : Nat → R} : qd r (n + 1) c n = c (n + 1) := by
  rw [qd_step (by omega)]
  unfold qd
  rw [show n + 1 - (n + 1) = 0 by omega]
  show _ + r * (0 : R) = _
  grind
/-- as many roots as numbers: all are 0 -/
theorem pe_none {K : Type} [Lean.Grind.Field K] : ∀ (n : Nat) {c r : Nat → K}, (∀ i j, i < j → j < n → r i ≠ r j) → (∀ i, i < n → pe n c (r i) = 0) → ∀ i, i < n → c i = 0
  | 0, _, _, _, _, i, hi => by omega
  | n + 1, c, r, hr, h, i, hi => by
    have z := h n (by omega)
    have q0 := pe_none n (c := qd (r n) n c) (r := r) (fun i j h1 h2 => hr i j h1 (by omega)) fun i hi => by
      have h1 := pe_fac n (c := c) (x := r i) (r := r n)
      rw [h i (by omega), z] at h1
      have h2 : (r i - r n) * pe n (qd (r n) n c) (r i) = 0 := by grind
      rcases Lean.Grind.Field.of_mul_eq_zero h2 with g | g
      · exact absurd (by grind) (hr i n (by omega) (by omega))
      · exact g
    cases i with
    | succ i =>
      have h1 := qd_step (r := r n) (c := c) (n := n) (i := i) (by omega)
      have h2 : qd (r n) n c (i + 1) = 0 := by
        by_cases g : i + 1 < n
        · exact q0 (i + 1) g
        · unfold qd
          rw [show n - (i + 1) = 0 by omega]
          rfl
      rw [q0 i (by omega), h2] at h1
      grind
    | zero =>
      have h1 := pe_fac n (c := c) (x := 0) (r := r n)
      rw [z, pe_zero n q0, pe_succ] at h1
      grind
def kn {R : Type} [Lean.Grind.CommRing R] : Nat → R
  | 0 => 0
  | n + 1 => kn n + 1
theorem kn_lt {K : Type} [Lean.Grind.Field K] [LE K] [LT K] [Std.LawfulOrderLT K] [Std.IsLinearOrder K] [Lean.Grind.OrderedRing K] {i : Nat} : ∀ k, (kn i : K) < kn (i + 1 + k)
  | 0 => by
    show (kn i : K) < kn i + 1
    grind
  | k + 1 => by
    have := kn_lt (K := K) (i := i) k
    show (kn i : K) < kn (i + 1 + k) + 1
    grind
theorem pe_inj {K : Type} [Lean.Grind.Field K] [LE K] [LT K] [Std.LawfulOrderLT K] [Std.IsLinearOrder K] [Lean.Grind.OrderedRing K] {n : Nat} {c e : Nat → K} (h : ∀ x, pe n c x = pe n e x) : ∀ i, i < n → c i = e i := fun i hi => by
  have := pe_none n (c := fun i => c i + -1 * e i) (r := kn) (fun i j h1 _ h2 => by
    obtain ⟨k, rfl⟩ : ∃ k, j = i + 1 + k := ⟨j - i - 1, by omega⟩
    have := kn_lt (K := K) (i := i) k
    grind) (fun i _ => by
    rw [pe_add, pe_mul, h]
    grind) i hi
  grind
/-- products of lines -/
def pl {R : Type} [Lean.Grind.CommRing R] : List R → R → R
  | [], _ => 1
  | r :: rs, x => (x - r) * pl rs x
def plc {R : Type} [Lean.Grind.CommRing R] : List R → Nat → R
  | [], i => if i = 0 then 1 else 0
  | r :: rs, i => su (plc rs) i - r * plc rs i
theorem plc_out {R : Type} [Lean.Grind.CommRing R] : ∀ (rs : List R) (i : Nat), rs.length < i → plc rs i = 0
  | [], i, h => by
    have : ([] : List R).length = 0 := rfl
    exact if_neg (by omega)
  | r :: rs, i, h => by
    have h2 : rs.length + 1 < i := h
    obtain ⟨j, rfl⟩ : ∃ j, i = j + 1 := ⟨i - 1, by omega⟩
    show plc rs j - r * plc rs (j + 1) = 0
    rw [plc_out rs j (by omega), plc_out rs (j + 1) (by omega)]
    grind
theorem plc_top {R : Type} [Lean.Grind.CommRing R] : ∀ (rs : List R), plc rs rs.length = 1
  | [] => rfl
  | r :: rs => by
    show plc rs rs.length - r * plc rs (rs.length + 1) = 1
    rw [plc_top rs, plc_out rs _ (by omega)]
    grind
theorem plc_pe {R : Type} [Lean.Grind.CommRing R] {x : R} : ∀ (rs : List R), pe (rs.length + 1) (plc rs) x = pl rs x
  | [] => by
    show (1 : R) + x * 0 = 1
    grind
  | r :: rs => by
    have e : pe (rs.length + 1 + 1) (plc (r :: rs)) x = pe (rs.length + 1 + 1) (fun i => su (plc rs) i + -r * plc rs i) x := pe_eq _ fun i _ => by
      show su (plc rs) i - r * plc rs i = _
      grind
    show pe (rs.length + 1 + 1) _ x = (x - r) * pl rs x
    rw [e, pe_add, pe_su, pe_mul, pe_more (n := rs.length + 1) 1 fun i h1 h2 => plc_out rs i (by omega), plc_pe rs]
    grind
theorem pl_root {R : Type} [Lean.Grind.CommRing R] {r : R} : ∀ {rs : List R}, r ∈ rs → pl rs r = 0
  | [], h => by cases h
  | s :: rs, h => by
    show (r - s) * pl rs r = 0
    rcases List.mem_cons.mp h with g | g
    · rw [g]
      grind
    · rw [pl_root g]
      grind
theorem pl_mem {K : Type} [Lean.Grind.Field K] {r : K} : ∀ {rs : List K}, pl rs r = 0 → r ∈ rs
  | [], h => absurd (show (0 : K) = 1 from h.symm) Lean.Grind.Field.zero_ne_one
  | s :: rs, h => by
    rcases Lean.Grind.Field.of_mul_eq_zero (show (r - s) * pl rs r = 0 from h) with g | g
    · exact List.mem_cons.mpr (Or.inl (by grind))
    · exact List.mem_cons_of_mem _ (pl_mem g)
/-- a list without a number twice -/
def nd {α : Type} : List α → Prop
  | [] => True
  | r :: rs => ¬ r ∈ rs ∧ nd rs
/-- a polynomial with as many roots as its degree -/
theorem mon_split {K : Type} [Lean.Grind.Field K] : ∀ (rs : List K) {c : Nat → K}, c rs.length = 1 → nd rs → (∀ r, r ∈ rs → pe (rs.length + 1) c r = 0) → ∀ x, pe (rs.length + 1) c x = pl rs x
  | [], c, h1, _, _, x => by
    show c 0 + x * 0 = 1
    have : c 0 = 1 := h1
    grind
  | r :: rs, c, h1, hn, h, x => by
    have z : pe (rs.length + 1 + 1) c r = 0 := h r List.mem_cons_self
    have ih := mon_split rs (c := qd r (rs.length + 1) c) (by rw [qd_top]; exact h1) hn.2 (fun s hs => by
      have h2 := pe_fac (rs.length + 1) (c := c) (x := s) (r := r)
      have h4 : pe (rs.length + 1 + 1) c s = 0 := h s (List.mem_cons_of_mem _ hs)
      rw [h4, z] at h2
      have h3 : (s - r) * pe (rs.length + 1) (qd r (rs.length + 1) c) s = 0 := by grind
      rcases Lean.Grind.Field.of_mul_eq_zero h3 with g | g
      · exact absurd (show r ∈ rs by rw [show r = s by grind]; exact hs) hn.1
      · exact g) x
    show pe (rs.length + 1 + 1) c x = (x - r) * pl rs x
    rw [pe_fac (r := r), z, ih]
    grind
/-- far out a polynomial has the sign of its greatest power -/
def ep {R : Type} [Lean.Grind.CommRing R] (e : R) : Nat → R
  | 0 => 1
  | n + 1 => ep e n * e
theorem pe_far {K : Type} [Lean.Grind.Field K] [LE K] [LT K] [Std.LawfulOrderLT K] [Std.IsLinearOrder K] [Lean.Grind.OrderedRing K] {e : K} (he : e * e = 1) : ∀ (n : Nat) (c : Nat → K), c n = 1 → ∃ X : K, 1 ≤ X ∧ ∀ x, X ≤ x → 1 ≤ ep e n * pe (n + 1) c (e * x)
  | 0, c, h => ⟨1, by grind, fun x _ => by
    show (1 : K) ≤ 1 * (c 0 + e * x * 0)
    grind⟩
  | n + 1, c, h => by
    obtain ⟨X, hX, hx⟩ := pe_far he n (fun i => c (i + 1)) h
    have hb := k_abs (ep e (n + 1) * c 0)
    generalize hD : ep e (n + 1) * c 0 * (ep e (n + 1) * c 0) + 1 = D at hb
    have hD2 : 0 ≤ D := by
      have := k_sq (ep e (n + 1) * c 0)
      grind
    refine ⟨X + D + 1, by grind, fun x hx2 => ?_⟩
    have h1 := hx x (by grind)
    rw [pe_succ]
    generalize pe (n + 1) (fun i => c (i + 1)) (e * x) = P at h1 ⊢
    have h2 := Lean.Grind.OrderedRing.mul_le_mul_of_nonneg_left (c := x) h1 (by grind)
    have h3 : ep e (n + 1) * (c 0 + e * x * P) = ep e (n + 1) * c 0 + x * (ep e n * P) := by
      show ep e n * e * (c 0 + e * x * P) = ep e n * e * c 0 + _
      have : ep e n * e * (e * x * P) = (e * e) * (x * (ep e n * P)) := by grind
      grind
    rw [h3]
    grind
