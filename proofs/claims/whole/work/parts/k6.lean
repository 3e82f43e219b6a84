/-! A polynomial whose slope, times lines, it goes into: a product of lines. -/
theorem pe_prod {R : Type} [Lean.Grind.CommRing R] : ∀ (n : Nat) (c : Nat → R) (m : Nat) (e : Nat → R), ∃ f : Nat → R, (∀ x, pe (n + m + 1) f x = pe (n + 1) c x * pe (m + 1) e x) ∧ f (n + m) = c n * e m
  | 0, c, m, e => ⟨fun i => c 0 * e i, fun x => by
    rw [pe_mul, Nat.zero_add]
    show _ = (c 0 + x * 0) * _
    grind, by rw [Nat.zero_add]⟩
  | n + 1, c, m, e => by
    obtain ⟨f, h1, h2⟩ := pe_prod n (fun i => c (i + 1)) m e
    refine ⟨fun i => su f i + c 0 * if i < m + 1 then e i else 0, fun x => ?_, ?_⟩
    · rw [show n + 1 + m + 1 = n + m + 1 + 1 by omega, pe_add, pe_su, h1, pe_mul (c := fun i => if i < m + 1 then e i else 0), show n + m + 1 + 1 = m + 1 + (n + 1) by omega, pe_cut, pe_succ (n := n + 1)]
      grind
    · rw [show n + 1 + m = n + m + 1 by omega]
      show f (n + m) + c 0 * (if n + m + 1 < m + 1 then e (n + m + 1) else 0) = _
      rw [if_neg (by omega), h2]
      grind
theorem strip {R : Type} [Lean.Grind.CommRing R] (c : Nat → R) : ∀ n, (∀ i, i < n → c i = 0) ∨ ∃ N, N < n ∧ c N ≠ 0 ∧ ∀ i, N < i → i < n → c i = 0
  | 0 => Or.inl fun i hi => by omega
  | n + 1 => by
    rcases Classical.em (c n = 0) with g | g
    · rcases strip c n with h | ⟨N, h1, h2, h3⟩
      · exact Or.inl fun i hi => by
          by_cases e : i = n
          · rw [e]; exact g
          · exact h i (by omega)
      · exact Or.inr ⟨N, by omega, h2, fun i hi hi2 => by
          by_cases e : i = n
          · rw [e]; exact g
          · exact h3 i hi (by omega)⟩
    · exact Or.inr ⟨n, by omega, g, fun i h1 h2 => by omega⟩
/-- what a polynomial of a greater degree goes into is 0 -/
theorem mon_none {K : Type} [Lean.Grind.Field K] [LE K] [LT K] [Std.LawfulOrderLT K] [Std.IsLinearOrder K] [Lean.Grind.OrderedRing K] {d n : Nat} {c a e : Nat → K} (hc : c d = 1) (h : ∀ x, pe d a x = pe (d + 1) c x * pe n e x) : ∀ i, i < d → a i = 0 := by
  rcases strip e n with g | ⟨N, g1, g2, g3⟩
  · intro i hi
    refine pe_inj (n := d) (c := a) (e := fun _ => 0) (fun x => ?_) i hi
    rw [h, pe_zero n g, pe_zero d fun _ _ => rfl]
    grind
  · exfalso
    obtain ⟨f, f1, f2⟩ := pe_prod d c N e
    have e1 : ∀ x, pe n e x = pe (N + 1) e x := fun x => by
      obtain ⟨k, rfl⟩ : ∃ k, n = N + 1 + k := ⟨n - (N + 1), by omega⟩
      exact pe_more k fun i h1 h2 => g3 i (by omega) h2
    have h1 := pe_inj (n := d + (N + 1)) (c := fun i => if i < d then a i else 0) (e := f) (fun x => by
      rw [pe_cut, h, e1, ← f1]
      rfl) (d + N) (by omega)
    have h2 : (if d + N < d then a (d + N) else 0) = f (d + N) := h1
    rw [if_neg (by omega), f2, hc] at h2
    exact g2 (by grind)
theorem PF_off {K : Type} [Lean.Grind.Field K] [LE K] [LT K] [Std.LawfulOrderLT K] [Std.IsLinearOrder K] [Lean.Grind.OrderedRing K] {f g : K → K} (r : K) (hf : PF f) (hg : PF g) (h : ∀ x, x ≠ r → f x = g x) : ∀ x, f x = g x := by
  obtain ⟨n, c, hc⟩ := PF_add hf (PF_mul (-1) hg)
  have z := pe_none n (c := c) (r := fun i => r + 1 + kn i) (fun i j h1 _ e => by
    obtain ⟨k, rfl⟩ : ∃ k, j = i + 1 + k := ⟨j - i - 1, by omega⟩
    have := kn_lt (K := K) (i := i) k
    grind) fun i _ => by
    have h1 : (0 : K) ≤ kn i := by
      cases i with
      | zero =>
        show (0 : K) ≤ 0
        grind
      | succ i =>
        have h2 := kn_lt (K := K) (i := 0) i
        rw [show 0 + 1 + i = i + 1 by omega] at h2
        have h3 : (kn 0 : K) = 0 := rfl
        grind
    have h2 := h (r + 1 + kn i) (by grind)
    rw [← hc]
    show f (r + 1 + kn i) + -1 * g (r + 1 + kn i) = 0
    rw [h2]
    grind
  intro x
  have h1 := hc x
  rw [pe_zero n z] at h1
  grind
theorem PF_pe {R : Type} [Lean.Grind.CommRing R] (n : Nat) (c : Nat → R) : PF (pe n c) := ⟨n, c, fun _ => rfl⟩
theorem PF_pp {R : Type} [Lean.Grind.CommRing R] {f g : R → R} (h1 : PF f) (h2 : PF g) : PF fun x => f x * g x := by
  obtain ⟨n, c, hc⟩ := h1
  obtain ⟨m, e, he⟩ := h2
  cases n with
  | zero => exact PF_eq (fun x => by
      rw [hc]
      show (0 : R) * _ = 0
      grind) (PF_c (R := R) 0)
  | succ n =>
    cases m with
    | zero => exact PF_eq (fun x => by
        rw [he]
        show _ * (0 : R) = 0
        grind) (PF_c (R := R) 0)
    | succ m =>
      obtain ⟨f, h3, _⟩ := pe_prod n c m e
      exact ⟨n + m + 1, f, fun x => by
        show _ * _ = _
        rw [hc, he, h3]⟩
theorem PF_pl {R : Type} [Lean.Grind.CommRing R] : ∀ rs : List R, PF (pl rs)
  | rs => ⟨rs.length + 1, plc rs, fun x => (plc_pe rs).symm⟩
/-- a root is split off -/
theorem PF_root {K : Type} [Lean.Grind.Field K] {f : K → K} {r : K} (h : PF f) (z : f r = 0) : ∃ g, PF g ∧ ∀ x, f x = (x - r) * g x := by
  obtain ⟨n, c, hc⟩ := h
  cases n with
  | zero => exact ⟨fun _ => 0, PF_c 0, fun x => by
      rw [hc]
      show (0 : K) = _
      grind⟩
  | succ n => exact ⟨pe n (qd r n c), PF_pe _ _, fun x => by
      have h1 := pe_fac n (c := c) (x := x) (r := r)
      have h2 := hc r
      rw [hc, h1]
      grind⟩
theorem pl_out {K : Type} [Lean.Grind.Field K] [LE K] [LT K] [Std.LawfulOrderLT K] [Std.IsLinearOrder K] [Lean.Grind.OrderedRing K] {A p U : K → K} (hA : PF A) (hp : PF p) : ∀ (rs : List K) {U : K → K}, PF U → (∀ r, r ∈ rs → p r ≠ 0) → (∀ x, A x * pl rs x = p x * U x) → ∃ V, PF V ∧ ∀ x, A x = p x * V x
  | [], U, hU, _, h => ⟨U, hU, fun x => by
    have h1 := h x
    have h2 : pl ([] : List K) x = 1 := rfl
    rw [h2] at h1
    grind⟩
  | r :: rs, U, hU, hr, h => by
    have z : U r = 0 := by
      have h1 := h r
      rw [pl_root List.mem_cons_self] at h1
      rcases Lean.Grind.Field.of_mul_eq_zero (show p r * U r = 0 by grind) with g | g
      · exact absurd g (hr r List.mem_cons_self)
      · exact g
    obtain ⟨V, hV, v1⟩ := PF_root hU z
    refine pl_out (U := U) hA hp rs hV (fun q hq => hr q (List.mem_cons_of_mem _ hq)) ?_
    refine PF_off r (PF_pp hA (PF_pl rs)) (PF_pp hp hV) fun x hx => ?_
    have h1 := h x
    rw [v1] at h1
    have h2 : (x - r) * (A x * pl rs x - p x * V x) = 0 := by
      have h3 : pl (r :: rs) x = (x - r) * pl rs x := rfl
      rw [h3] at h1
      grind
    rcases Lean.Grind.Field.of_mul_eq_zero h2 with g | g
    · exact absurd (by grind) hx
    · grind
theorem pl_take {K : Type} [Lean.Grind.Field K] {r : K} : ∀ {rs : List K}, r ∈ rs → ∃ qs : List K, qs.length + 1 = rs.length ∧ (∀ q, q ∈ qs → q ∈ rs) ∧ ∀ x, pl rs x = (x - r) * pl qs x
  | [], h => by cases h
  | s :: rs, h => by
    rcases List.mem_cons.mp h with g | g
    · exact ⟨rs, rfl, fun q hq => List.mem_cons_of_mem _ hq, fun x => by rw [g]; rfl⟩
    · obtain ⟨qs, q1, q2, q3⟩ := pl_take g
      refine ⟨s :: qs, by show qs.length + 1 + 1 = rs.length + 1; omega, fun q hq => ?_, fun x => ?_⟩
      · rcases List.mem_cons.mp hq with e | e
        · rw [e]; exact List.mem_cons_self
        · exact List.mem_cons_of_mem _ (q2 q e)
      · show (x - s) * pl rs x = (x - r) * ((x - s) * pl qs x)
        rw [q3]
        grind
/-- the slope's numbers -/
def dv {R : Type} [Lean.Grind.CommRing R] (c : Nat → R) (i : Nat) : R := kn (i + 1) * c (i + 1)
theorem pe_kn {R : Type} [Lean.Grind.CommRing R] {n : Nat} {c : Nat → R} {x : R} : pe (n + 1) (fun i => kn (i + 1) * c i) x = pe (n + 1) c x + x * pe n (dv c) x := by
  have e1 : pe (n + 1) (fun i => kn (i + 1) * c i) x = pe (n + 1) (fun i => c i + kn i * c i) x := pe_eq _ fun i _ => by
    show (kn i + 1) * c i = _
    grind
  rw [e1, pe_add, pe_succ (c := fun i => kn i * c i)]
  show _ + ((0 : R) * c 0 + x * pe n (dv c) x) = _
  grind
theorem dv_fac {R : Type} [Lean.Grind.CommRing R] {d : Nat} {c : Nat → R} {r : R} (z : pe (d + 2) c r = 0) (x : R) : pe (d + 1) (dv c) x = pe (d + 1) (qd r (d + 1) c) x + (x - r) * pe d (dv (qd r (d + 1) c)) x := by
  have e1 : pe (d + 1) (dv c) x = pe (d + 1) (fun i => kn (i + 1) * qd r (d + 1) c i + -r * dv (qd r (d + 1) c) i) x := pe_eq _ fun i hi => by
    show kn (i + 1) * c (i + 1) = _ + -r * (kn (i + 1) * _)
    rw [qd_step (r := r) hi]
    grind
  have e2 : dv (qd r (d + 1) c) d = 0 := by
    show kn (d + 1) * pe (d + 1 - (d + 1)) _ r = 0
    rw [Nat.sub_self]
    show kn (d + 1) * (0 : R) = 0
    grind
  rw [e1, pe_add, pe_kn, pe_mul, pe_top d (c := dv (qd r (d + 1) c)), e2]
  grind
theorem kn_ne {K : Type} [Lean.Grind.Field K] [LE K] [LT K] [Std.LawfulOrderLT K] [Std.IsLinearOrder K] [Lean.Grind.OrderedRing K] (n : Nat) : (kn (n + 1) : K) ≠ 0 := fun e => by
  have h2 := kn_lt (K := K) (i := 0) n
  rw [show 0 + 1 + n = n + 1 by omega] at h2
  have h3 : (kn 0 : K) = 0 := rfl
  grind
theorem spl {K : Type} [Lean.Grind.Field K] [LE K] [LT K] [Std.LawfulOrderLT K] [Std.IsLinearOrder K] [Lean.Grind.OrderedRing K] : ∀ (d : Nat) {c : Nat → K} {rs : List K} {U : K → K}, c d = 1 → PF U → (∀ x, pe d (dv c) x * pl rs x = pe (d + 1) c x * U x) → ∃ qs : List K, qs.length = d ∧ (∀ x, pe (d + 1) c x = pl qs x) ∧ ∀ q, q ∈ qs → q ∈ rs
  | 0, c, rs, U, hc, _, _ => ⟨[], rfl, fun x => by
    show c 0 + x * 0 = 1
    grind, fun q hq => by cases hq⟩
  | d + 1, c, rs, U, hc, hU, h => by
    have hr : ∃ r, r ∈ rs ∧ pe (d + 2) c r = 0 := by
      refine Classical.byContradiction fun g => ?_
      obtain ⟨V, hV, v1⟩ := pl_out (U := U) (PF_pe (d + 1) (dv c)) (PF_pe (d + 2) c) rs hU (fun r h1 h2 => g ⟨r, h1, h2⟩) h
      obtain ⟨n, e, he⟩ := hV
      have z := mon_none (d := d + 1) (c := c) (a := dv c) (n := n) (e := e) hc (fun x => by rw [v1, he]) d (by omega)
      have z2 : kn (d + 1) * c (d + 1) = 0 := z
      rw [hc] at z2
      exact kn_ne (K := K) d (by grind)
    obtain ⟨r, r1, r2⟩ := hr
    obtain ⟨os, o1, o2, o3⟩ := pl_take r1
    obtain ⟨qs, q1, q2, q3⟩ := spl d (c := qd r (d + 1) c) (rs := rs) (U := fun x => U x + -1 * pl os x) (by rw [qd_top]; exact hc) (PF_add hU (PF_mul _ (PF_pl os))) (by
      refine PF_off r (PF_pp (PF_pe _ _) (PF_pl rs)) (PF_pp (PF_pe _ _) (PF_add hU (PF_mul _ (PF_pl os)))) fun x hx => ?_
      have h1 := h x
      have h2 := pe_fac (d + 1) (c := c) (x := x) (r := r)
      rw [dv_fac r2, h2, r2, o3] at h1
      rw [o3]
      generalize pe (d + 1) (qd r (d + 1) c) x = P at h1 ⊢
      generalize pe d (dv (qd r (d + 1) c)) x = D at h1 ⊢
      generalize pl os x = O at h1 ⊢
      generalize U x = V at h1 ⊢
      have h3 : (x - r) * (D * ((x - r) * O) - P * (V + -1 * O)) = 0 := by grind
      rcases Lean.Grind.Field.of_mul_eq_zero h3 with g | g
      · exact absurd (by grind) hx
      · grind)
    refine ⟨r :: qs, by show qs.length + 1 = d + 1; rw [q1], fun x => ?_, fun q hq => ?_⟩
    · have h2 := pe_fac (d + 1) (c := c) (x := x) (r := r)
      rw [r2, q2] at h2
      show _ = (x - r) * pl qs x
      grind
    · rcases List.mem_cons.mp hq with e | e
      · rw [e]; exact r1
      · exact q3 q e
