/-! Polynomials by three terms have all their roots. -/
def dc {K : Type} [LT K] : K → List K → Prop
  | _, [] => True
  | u, r :: rs => r < u ∧ dc r rs
def al {K : Type} [Lean.Grind.Field K] [LT K] (F : K → K) : K → List K → Prop
  | _, [] => True
  | s, r :: rs => 0 < s * F r ∧ al F (-s) rs
def il {K : Type} [LT K] : K → List K → List K → Prop
  | u, [], [m] => m < u
  | u, r :: rs, m :: ms => m < u ∧ r < m ∧ il r rs ms
  | _, _, _ => False
def fs {K : Type} [Lean.Grind.Field K] : K → List K → K
  | s, [] => -s
  | s, _ :: rs => fs (-s) rs
theorem fs_ep {K : Type} [Lean.Grind.Field K] : ∀ (rs : List K) (s : K), fs s rs = s * ep (-1) (rs.length + 1)
  | [], s => by
    show -s = s * (1 * -1)
    grind
  | r :: rs, s => by
    show fs (-s) rs = s * (ep (-1) (rs.length + 1) * -1)
    rw [fs_ep rs]
    grind
theorem dc_mono {K : Type} [Lean.Grind.Field K] [LE K] [LT K] [Std.LawfulOrderLT K] [Std.IsLinearOrder K] [Lean.Grind.OrderedRing K] {u w : K} : ∀ {rs : List K}, dc u rs → u ≤ w → dc w rs
  | [], _, _ => trivial
  | r :: rs, h, g => ⟨by have := h.1; grind, h.2⟩
theorem dc_lt {K : Type} [Lean.Grind.Field K] [LE K] [LT K] [Std.LawfulOrderLT K] [Std.IsLinearOrder K] [Lean.Grind.OrderedRing K] : ∀ {rs : List K} {u r : K}, dc u rs → r ∈ rs → r < u
  | s :: rs, u, r, h, g => by
    rcases List.mem_cons.mp g with e | e
    · rw [e]; exact h.1
    · have := dc_lt h.2 e
      have := h.1
      grind
theorem dc_nd {K : Type} [Lean.Grind.Field K] [LE K] [LT K] [Std.LawfulOrderLT K] [Std.IsLinearOrder K] [Lean.Grind.OrderedRing K] : ∀ {rs : List K} {u : K}, dc u rs → nd rs
  | [], _, _ => trivial
  | r :: rs, u, h => ⟨fun g => by have := dc_lt h.2 g; grind, dc_nd h.2⟩
theorem il_len {K : Type} [Lean.Grind.Field K] [LE K] [LT K] [Std.LawfulOrderLT K] [Std.IsLinearOrder K] [Lean.Grind.OrderedRing K] : ∀ {rs ms : List K} {u : K}, il u rs ms → ms.length = rs.length + 1
  | [], [m], u, h => rfl
  | r :: rs, m :: ms, u, h => by
    show ms.length + 1 = rs.length + 1 + 1
    rw [il_len h.2.2]
theorem il_dc {K : Type} [Lean.Grind.Field K] [LE K] [LT K] [Std.LawfulOrderLT K] [Std.IsLinearOrder K] [Lean.Grind.OrderedRing K] : ∀ {rs ms : List K} {u : K}, il u rs ms → dc u ms
  | [], [m], u, h => ⟨h, trivial⟩
  | r :: rs, m :: ms, u, h => ⟨h.1, dc_mono (il_dc h.2.2) (by have := h.2.1; grind)⟩
theorem iv2 {K : Type} [Lean.Grind.Field K] [LE K] [LT K] [Std.LawfulOrderLT K] [Std.IsLinearOrder K] [Lean.Grind.OrderedRing K] (iv : ivP K) {n : Nat} {c : Nat → K} {a b s : K} (hs : s = 1 ∨ s = -1) (hab : a < b) (h1 : 0 < s * pe n c b) (h2 : 0 < -s * pe n c a) : ∃ x, a < x ∧ x < b ∧ pe n c x = 0 := by
  rcases hs with e | e
  · subst e
    exact iv n c a b hab (by grind) (by grind)
  · subst e
    obtain ⟨x, x1, x2, x3⟩ := iv n (fun i => -1 * c i) a b hab (by rw [pe_mul]; grind) (by rw [pe_mul]; grind)
    rw [pe_mul] at x3
    exact ⟨x, x1, x2, by grind⟩
theorem fnd {K : Type} [Lean.Grind.Field K] [LE K] [LT K] [Std.LawfulOrderLT K] [Std.IsLinearOrder K] [Lean.Grind.OrderedRing K] (iv : ivP K) {n : Nat} {c : Nat → K} {L : K} : ∀ (rs : List K) (u s : K), s = 1 ∨ s = -1 → 0 < s * pe n c u → dc u rs → al (pe n c) (-s) rs → (∀ r, r ∈ rs → L < r) → L < u → 0 < fs s rs * pe n c L → ∃ ms, il u rs ms ∧ ∀ r, r ∈ ms → pe n c r = 0
  | [], u, s, hs, h1, _, _, _, hL, h2 => by
    obtain ⟨x, x1, x2, x3⟩ := iv2 iv hs hL h1 h2
    exact ⟨[x], x2, fun r hr => by
      have : r = x := by
        rcases List.mem_cons.mp hr with e | e
        · exact e
        · cases e
      rw [this]
      exact x3⟩
  | r :: rs, u, s, hs, h1, hd, ha, hl, hL, h2 => by
    obtain ⟨x, x1, x2, x3⟩ := iv2 iv hs hd.1 h1 ha.1
    obtain ⟨ms, m1, m2⟩ := fnd iv rs r (-s) (by rcases hs with e | e <;> rw [e] <;> grind) ha.1 hd.2 ha.2 (fun q hq => hl q (List.mem_cons_of_mem _ hq)) (hl r List.mem_cons_self) h2
    exact ⟨x :: ms, ⟨x2, x1, m1⟩, fun q hq => by
      rcases List.mem_cons.mp hq with e | e
      · rw [e]; exact x3
      · exact m2 q e⟩
theorem pl_pos {K : Type} [Lean.Grind.Field K] [LE K] [LT K] [Std.LawfulOrderLT K] [Std.IsLinearOrder K] [Lean.Grind.OrderedRing K] {x : K} : ∀ {rs : List K} {u : K}, dc u rs → u ≤ x → 0 < pl rs x
  | [], _, _, _ => by
    show (0 : K) < 1
    grind
  | r :: rs, u, h, g => k_pp (by have := h.1; grind) (pl_pos h.2 (by have := h.1; grind))
theorem al_S {K : Type} [Lean.Grind.Field K] [LE K] [LT K] [Std.LawfulOrderLT K] [Std.IsLinearOrder K] [Lean.Grind.OrderedRing K] {F : K → K} : ∀ (rs ms : List K) (u s : K) (A : K → K), il u rs ms → dc u rs → (∀ x, F x = A x * pl rs x) → (∀ x, x < u → 0 < s * A x) → al F s ms
  | [], [m], u, s, A, h, _, hF, hA => ⟨by
    have h1 := hA m h
    have h2 := hF m
    have h3 : pl ([] : List K) m = 1 := rfl
    rw [h3] at h2
    rw [h2]
    grind, trivial⟩
  | r :: rs, m :: ms, u, s, A, h, hd, hF, hA => by
    refine ⟨?_, al_S rs ms r (-s) (fun x => A x * (x - r)) h.2.2 hd.2 (fun x => ?_) fun x hx => ?_⟩
    · rw [hF m]
      have h1 := hA m h.1
      have h2 : 0 < (m - r) * pl rs m := k_pp (by have := h.2.1; grind) (pl_pos hd.2 (by have := h.2.1; grind))
      have h3 : 0 < s * A m * ((m - r) * pl rs m) := k_pp h1 h2
      show 0 < s * (A m * ((m - r) * pl rs m))
      grind
    · rw [hF x]
      show A x * ((x - r) * pl rs x) = A x * (x - r) * pl rs x
      grind
    · have h1 := hA x (by have := hd.1; grind)
      have h3 : 0 < s * A x * (r - x) := k_pp h1 (by grind)
      show 0 < -s * (A x * (x - r))
      grind
theorem al_map {K : Type} [Lean.Grind.Field K] [LE K] [LT K] [Std.LawfulOrderLT K] [Std.IsLinearOrder K] [Lean.Grind.OrderedRing K] {F G : K → K} {b : K} (hb : 0 < b) : ∀ (rs : List K) (s : K), (∀ r, r ∈ rs → G r = -b * F r) → al F s rs → al G (-s) rs
  | [], _, _, _ => trivial
  | r :: rs, s, h, ha => by
    refine ⟨?_, al_map hb rs (-s) (fun q hq => h q (List.mem_cons_of_mem _ hq)) ha.2⟩
    rw [h r List.mem_cons_self]
    have := k_pp hb ha.1
    grind
theorem low {K : Type} [Lean.Grind.Field K] [LE K] [LT K] [Std.LawfulOrderLT K] [Std.IsLinearOrder K] [Lean.Grind.OrderedRing K] : ∀ (rs : List K) (X : K), ∃ L, L ≤ X ∧ ∀ r, r ∈ rs → L < r
  | [], X => ⟨X, by grind, fun r h => by cases h⟩
  | s :: rs, X => by
    obtain ⟨L, h1, h2⟩ := low rs X
    rcases Std.le_total (a := L) (b := s - 1) with g | g
    · exact ⟨L, h1, fun r hr => by
        rcases List.mem_cons.mp hr with e | e
        · rw [e]; grind
        · exact h2 r e⟩
    · exact ⟨s - 1, by grind, fun r hr => by
        rcases List.mem_cons.mp hr with e | e
        · rw [e]; grind
        · have := h2 r e
          grind⟩
theorem ep_one {R : Type} [Lean.Grind.CommRing R] : ∀ n, ep (1 : R) n = 1
  | 0 => rfl
  | n + 1 => by
    show ep (1 : R) n * 1 = 1
    rw [ep_one n]
    grind
/-- all roots of what comes by three terms -/
theorem three {K : Type} [Lean.Grind.Field K] [LE K] [LT K] [Std.LawfulOrderLT K] [Std.IsLinearOrder K] [Lean.Grind.OrderedRing K] (iv : ivP K) {v : Nat → K → K} {a b : Nat → K} {m : Nat} (v0 : ∀ x, v 0 x = 1) (hv : ∀ k, k ≤ m → ∃ c : Nat → K, c k = 1 ∧ ∀ x, v k x = pe (k + 1) c x) (hs : ∀ k x, v (k + 2) x = (x - a (k + 1)) * v (k + 1) x - b (k + 1) * v k x) (hb : ∀ k, k + 1 < m → 0 < b (k + 1)) : ∀ k, k ≤ m → ∃ rs : List K, rs.length = k ∧ (∃ u, dc u rs) ∧ (∀ x, v k x = pl rs x) ∧ al (v (k - 1)) 1 rs
  | 0, _ => ⟨[], rfl, ⟨0, trivial⟩, fun x => v0 x, trivial⟩
  | k + 1, hk => by
    obtain ⟨rs, l1, ⟨u, hu⟩, e1, a1⟩ := three iv v0 hv hs hb k (by omega)
    obtain ⟨c, c1, c2⟩ := hv (k + 1) hk
    have ha : al (pe (k + 2) c) (-1) rs := by
      cases k with
      | zero =>
        have : rs = [] := List.eq_nil_of_length_eq_zero l1
        rw [this]
        trivial
      | succ k =>
        refine al_map (hb k (by omega)) rs 1 (fun r hr => ?_) a1
        rw [← c2, hs, e1 r, pl_root hr]
        show _ = -b (k + 1) * v k r
        grind
    obtain ⟨X, hX, x1⟩ := pe_far (e := (1 : K)) (by grind) (k + 1) c c1
    obtain ⟨Y, hY, y1⟩ := pe_far (e := (-1 : K)) (by grind) (k + 1) c c1
    obtain ⟨U, hU1, hU2⟩ : ∃ U : K, u ≤ U ∧ X ≤ U := by
      rcases Std.le_total (a := u) (b := X) with g | g
      · exact ⟨X, g, by grind⟩
      · exact ⟨u, by grind, g⟩
    obtain ⟨L, hL1, hL2⟩ := low rs (-Y)
    have f1 := x1 U hU2
    have f2 := y1 (-L) (by grind)
    rw [ep_one, show (1 : K) * U = U by grind] at f1
    rw [show (-1 : K) * -L = L by grind] at f2
    obtain ⟨ms, m1, m2⟩ := fnd iv (n := k + 2) (c := c) (L := L) rs U 1 (Or.inl rfl) (by grind) (dc_mono hu hU1) ha hL2 (by grind) (by rw [fs_ep, l1]; grind)
    have ml := il_len m1
    rw [l1] at ml
    have e2 := mon_split ms (c := c) (by rw [ml]; exact c1) (dc_nd (il_dc m1)) (by rw [ml]; exact m2)
    rw [ml] at e2
    refine ⟨ms, ml, ⟨U, il_dc m1⟩, fun x => by rw [c2, e2], ?_⟩
    exact al_S rs ms U 1 (fun _ => 1) m1 (dc_mono hu hU1) (fun x => by rw [show k + 1 - 1 = k from rfl, e1]; grind) fun x _ => by grind
