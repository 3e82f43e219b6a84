/-! What goes into a polynomial, but for multiples of q. -/
section DVQ
variable {q : Int}
/-- D, of e + 1 places, goes into C -/
def dvq (q : Int) (n : Nat) (D C : Nat → Int) : Prop := ∃ (W : Nat → Int) (N : Nat), (∀ k, N ≤ k → W k = 0) ∧ ∀ k, q ∣ C k - pI n D W k
theorem dvq_cg {n : Nat} {D C E : Nat → Int} (h : ∀ k, q ∣ E k - C k) (hd : dvq q n D C) : dvq q n D E := by
  obtain ⟨W, N, h1, h2⟩ := hd
  refine ⟨W, N, h1, fun k => ?_⟩
  have := Int.dvd_add (h k) (h2 k)
  rw [show E k - C k + (C k - pI n D W k) = E k - pI n D W k by omega] at this
  exact this
theorem dvq_lin {n : Nat} {D C E : Nat → Int} {a b : Int} (h1 : dvq q n D C) (h2 : dvq q n D E) : dvq q n D fun k => a * C k + b * E k := by
  obtain ⟨W, N, w1, w2⟩ := h1
  obtain ⟨V, M, v1, v2⟩ := h2
  refine ⟨fun k => a * W k + b * V k, N + M, fun k hk => ?_, fun k => ?_⟩
  · show a * W k + b * V k = 0
    rw [w1 k (by omega), v1 k (by omega)]
    omega
  · rw [pI_add n (e := W) (f := V)]
    have := Int.dvd_add (Int.dvd_mul_of_dvd_right (b := a) (w2 k)) (Int.dvd_mul_of_dvd_right (b := b) (v2 k))
    rw [show a * (C k - pI n D W k) + b * (E k - pI n D V k) = a * C k + b * E k - (a * pI n D W k + b * pI n D V k) by grind] at this
    exact this
theorem dvq_su {n : Nat} {D C : Nat → Int} (h1 : dvq q n D C) : dvq q n D (su C) := by
  obtain ⟨W, N, w1, w2⟩ := h1
  refine ⟨su W, N + 1, fun k hk => ?_, fun k => ?_⟩
  · obtain ⟨k, rfl⟩ : ∃ i, k = i + 1 := ⟨k - 1, by omega⟩
    rw [su_s]
    exact w1 k (by omega)
  · rw [pI_su]
    cases k with
    | zero => exact ⟨0, by rw [su_0, su_0]; omega⟩
    | succ k =>
      rw [su_s, su_s]
      exact w2 k
theorem dvq_0 {n : Nat} {D : Nat → Int} : dvq q n D fun _ => 0 := by
  refine ⟨fun _ => 0 * 0 + 0 * 0, 0, fun k _ => rfl, fun k => ?_⟩
  rw [pI_add n (e := fun _ => 0) (f := fun _ => 0)]
  show q ∣ (0 : Int) - (0 * pI n D (fun _ => 0) k + 0 * pI n D (fun _ => 0) k)
  exact ⟨0, by omega⟩
theorem dvq_self {n : Nat} {D : Nat → Int} (h : ∀ i, n ≤ i → D i = 0) : dvq q n D D := by
  refine ⟨mono 0, 1, fun k hk => if_neg (by omega), fun k => ?_⟩
  rw [pI_mono]
  by_cases g : k < n
  · rw [if_pos (by omega), Nat.sub_zero]
    exact ⟨0, by omega⟩
  · rw [if_neg (by omega), h k (by omega)]
    exact ⟨0, by omega⟩
theorem stripq (W : Nat → Int) : ∀ n, (∀ i, i < n → q ∣ W i) ∨ ∃ N, N < n ∧ ¬ q ∣ W N ∧ ∀ i, N < i → i < n → q ∣ W i
  | 0 => Or.inl fun i hi => by omega
  | n + 1 => by
    rcases Classical.em (q ∣ W n) with g | g
    · rcases stripq W n with h | ⟨N, h1, h2, h3⟩
      · refine Or.inl fun i hi => ?_
        by_cases e : i = n
        · rw [e]; exact g
        · exact h i (by omega)
      · refine Or.inr ⟨N, by omega, h2, fun i hi hi2 => ?_⟩
        by_cases e : i = n
        · rw [e]; exact g
        · exact h3 i hi (by omega)
    · exact Or.inr ⟨n, by omega, g, fun i h1 h2 => by omega⟩
theorem pI_mod {D W V : Nat → Int} {n k : Nat} (h : ∀ i, q ∣ W i - V i) : q ∣ pI n D W k - pI n D V k := by
  have h1 := pI_dvd (q := q) n (c := D) (e := fun i => 1 * W i + -1 * V i) (k := k) fun i _ => by
    have := h i
    rw [show W i - V i = 1 * W i + -1 * V i by omega] at this
    exact this
  rw [pI_add n] at h1
  rw [show pI n D W k - pI n D V k = 1 * pI n D W k + -1 * pI n D V k by omega]
  exact h1
/-- a quotient's greatest place shows in the product -/
theorem pI_lead {D W : Nat → Int} {e N : Nat} (hD : D e = 1) (h : ∀ i, N < i → q ∣ W i) : q ∣ pI (e + 1) D W (e + N) - W N := by
  have h1 := pI_mod (q := q) (D := D) (W := W) (V := fun i => if i ≤ N then W i else 0) (n := e + 1) (k := e + N) fun i => by
    by_cases g : i ≤ N
    · show q ∣ W i - if i ≤ N then W i else 0
      rw [if_pos g]
      exact ⟨0, by omega⟩
    · show q ∣ W i - if i ≤ N then W i else 0
      rw [if_neg g, Int.sub_zero]
      exact h i (by omega)
  rw [pI_top (m := N) (e := fun i => if i ≤ N then W i else 0) (fun i hi => if_neg (by omega)) e, hD] at h1
  rw [show W N = 1 * (if N ≤ N then W N else 0) by rw [if_pos (Nat.le_refl N)]; omega]
  exact h1
theorem dvq_fin {n : Nat} {D C : Nat → Int} (h : dvq q n D C) : ∃ W : Nat → Int, (∀ k, q ∣ C k - pI n D W k) ∧ ((∀ k, q ∣ W k) ∨ ∃ N, ¬ q ∣ W N ∧ ∀ i, N < i → q ∣ W i) := by
  obtain ⟨W, N, h1, h2⟩ := h
  have z : ∀ k, N ≤ k → q ∣ W k := fun k hk => by
    rw [h1 k hk]
    exact ⟨0, by omega⟩
  refine ⟨W, h2, ?_⟩
  rcases stripq (q := q) W N with g | ⟨M, g1, g2, g3⟩
  · refine Or.inl fun k => ?_
    rcases Nat.lt_or_ge k N with l | l
    · exact g k l
    · exact z k l
  · refine Or.inr ⟨M, g2, fun i hi => ?_⟩
    rcases Nat.lt_or_ge i N with l | l
    · exact g3 i hi l
    · exact z i l
theorem dv_tr {a b : Int} (h1 : q ∣ a - b) (h2 : q ∣ a) : q ∣ b := by
  have := Int.dvd_sub h2 h1
  rw [show a - (a - b) = b by omega] at this
  exact this
theorem dv_tr2 {a b : Int} (h1 : q ∣ a - b) (h2 : q ∣ b) : q ∣ a := by
  have := Int.dvd_add h1 h2
  rw [show a - b + b = a by omega] at this
  exact this
theorem mq_le {D C : Nat → Int} {e c : Nat} (hD : D e = 1) (h : dvq q (e + 1) D C) (hC : ∃ k, ¬ q ∣ C k) (hc : ∀ k, c < k → q ∣ C k) : e ≤ c := by
  obtain ⟨W, w1, w2⟩ := dvq_fin h
  rcases w2 with g | ⟨N, g1, g2⟩
  · obtain ⟨k, hk⟩ := hC
    exact absurd (dv_tr2 (w1 k) (pI_dvd _ fun i _ => g i)) hk
  · refine Classical.byContradiction fun l => g1 ?_
    exact dv_tr (pI_lead hD g2) (dv_tr (w1 (e + N)) (hc (e + N) (by omega)))
theorem mq_eq {D C : Nat → Int} {e : Nat} (hq : ¬ q ∣ 1) (hD : D e = 1) (h : dvq q (e + 1) D C) (hz : ∀ i, e < i → D i = 0) (hC : q ∣ C e - 1) (hc : ∀ k, e < k → q ∣ C k) : ∀ k, q ∣ C k - D k := by
  obtain ⟨W, w1, w2⟩ := dvq_fin h
  have nz : ¬ q ∣ C e := fun g => hq (dv_tr hC g)
  have w0 : ∀ i, 0 < i → q ∣ W i := by
    rcases w2 with g | ⟨N, g1, g2⟩
    · exact fun i _ => g i
    · refine fun i hi => g2 i ?_
      refine Classical.byContradiction fun l => g1 ?_
      exact dv_tr (pI_lead hD g2) (dv_tr (w1 (e + N)) (hc (e + N) (by omega)))
  have l0 : q ∣ pI (e + 1) D W e - W 0 := pI_lead (q := q) (N := 0) hD w0
  have W1 : q ∣ W 0 - 1 := by
    have a1 := Int.dvd_add (w1 e) l0
    have a2 := Int.dvd_sub hC a1
    rw [show C e - 1 - (C e - pI (e + 1) D W e + (pI (e + 1) D W e - W 0)) = W 0 - 1 by omega] at a2
    exact a2
  intro k
  have m1 := pI_mod (q := q) (D := D) (W := W) (V := mono 0) (n := e + 1) (k := k) fun i => by
    by_cases g : i = 0
    · show q ∣ W i - if i = 0 then 1 else 0
      rw [if_pos g, g]
      exact W1
    · show q ∣ W i - if i = 0 then 1 else 0
      rw [if_neg g, Int.sub_zero]
      exact w0 i (by omega)
  have e1 : pI (e + 1) D (mono 0) k = D k := by
    rw [pI_mono]
    by_cases g : k < e + 1
    · rw [if_pos (by omega), Nat.sub_zero]
    · rw [if_neg (by omega), hz k (by omega)]
  rw [e1] at m1
  have := Int.dvd_add (w1 k) m1
  rw [show C k - pI (e + 1) D W k + (pI (e + 1) D W k - D k) = C k - D k by omega] at this
  exact this
/-- the quotient is one alone -/
theorem mq_quo {D V W r : Nat → Int} {e N : Nat} (hD : D e = 1) (hN : ∀ k, N ≤ k → V k - W k = 0) (hr : ∀ k, e ≤ k → q ∣ r k) (h : ∀ k, q ∣ pI (e + 1) D V k - (pI (e + 1) D W k + r k)) : ∀ k, q ∣ V k - W k := by
  have h0 : dvq q (e + 1) D r := by
    refine ⟨fun k => 1 * V k + -1 * W k, N, fun k hk => by
      show 1 * V k + -1 * W k = 0
      have := hN k hk
      omega, fun k => ?_⟩
    rw [pI_add]
    have := h k
    rw [show pI (e + 1) D V k - (pI (e + 1) D W k + r k) = -(r k - (1 * pI (e + 1) D V k + -1 * pI (e + 1) D W k)) by omega] at this
    exact Int.dvd_neg.mp this
  let X : Nat → Int := fun k => 1 * V k + -1 * W k
  have hX : ∀ k, q ∣ r k - pI (e + 1) D X k := fun k => by
    show q ∣ r k - pI (e + 1) D (fun k => 1 * V k + -1 * W k) k
    rw [pI_add]
    have := h k
    rw [show pI (e + 1) D V k - (pI (e + 1) D W k + r k) = -(r k - (1 * pI (e + 1) D V k + -1 * pI (e + 1) D W k)) by omega] at this
    exact Int.dvd_neg.mp this
  have z : ∀ k, N ≤ k → q ∣ X k := fun k hk => by
    have := hN k hk
    rw [show X k = 0 from by show 1 * V k + -1 * W k = 0; omega]
    exact ⟨0, by omega⟩
  have all : ∀ k, q ∣ X k := by
    rcases stripq (q := q) X N with g | ⟨M, g1, g2, g3⟩
    · intro k
      rcases Nat.lt_or_ge k N with l | l
      · exact g k l
      · exact z k l
    · exfalso
      have hM : ∀ i, M < i → q ∣ X i := fun i hi => by
        rcases Nat.lt_or_ge i N with l | l
        · exact g3 i hi l
        · exact z i l
      exact g2 (dv_tr (pI_lead hD hM) (dv_tr (hX (e + M)) (hr (e + M) (by omega))))
  intro k
  have := all k
  rw [show V k - W k = X k from by show _ = 1 * V k + -1 * W k; omega]
  exact this
/-- G: what A and B share -/
def gcq (q : Int) (G A B : Nat → Int) : Prop := ∀ (e : Nat) (D : Nat → Int), D e = 1 → (∀ i, e < i → D i = 0) → (dvq q (e + 1) D G ↔ dvq q (e + 1) D A ∧ dvq q (e + 1) D B)
section STAGE
variable {u f g h : Nat → Int} {d m e : Nat}
def slo (u : Nat → Int) (k : Nat) : Int := ((k : Int) + 1) * u (k + 1)
theorem rh_out (hz : ∀ i, d < i → u i = 0) (hu : u d = 1) (h1 : 1 ≤ d) : ∀ l i, d ≤ i → rh d u l i = 0
  | 0, i, hi => by
    show ((i : Int) + 1) * u (i + 1) = 0
    rw [hz (i + 1) (by omega), Int.mul_zero]
  | l + 1, i, hi => by
    show su (rh d u l) i - rh d u l (d - 1) * u i = 0
    obtain ⟨i, rfl⟩ : ∃ j, i = j + 1 := ⟨i - 1, by omega⟩
    rw [su_s]
    by_cases g : i + 1 = d
    · rw [show i = d - 1 by omega, show d - 1 + 1 = d by omega, hu]
      omega
    · rw [rh_out hz hu h1 l i (by omega), hz (i + 1) (by omega)]
      omega
/-- what goes into u and its slope goes into all their rests -/
theorem rh_dvq {n : Nat} {D : Nat → Int} (h1 : dvq q n D u) (h2 : dvq q n D (slo u)) : ∀ l, dvq q n D (rh d u l)
  | 0 => h2
  | l + 1 => by
    have := dvq_lin (a := 1) (b := -(rh d u l (d - 1))) (dvq_su (rh_dvq h1 h2 l)) h1
    refine dvq_cg (fun k => ?_) this
    show q ∣ su (rh d u l) k - rh d u l (d - 1) * u k - (1 * su (rh d u l) k + -(rh d u l (d - 1)) * u k)
    exact ⟨0, by grind⟩
theorem sm_dvq {n : Nat} {D : Nat → Int} {F : Nat → Nat → Int} {c : Nat → Int} (h : ∀ l, dvq q n D (F l)) : ∀ k, dvq q n D fun i => sm k fun l => c l * F l i
  | 0 => dvq_0
  | k + 1 => by
    refine dvq_cg (fun i => ?_) (dvq_lin (a := 1) (b := c k) (sm_dvq (c := c) h k) (h k))
    show q ∣ sm (k + 1) (fun l => c l * F l i) - (1 * sm k (fun l => c l * F l i) + c k * F k i)
    rw [sm_succ]
    exact ⟨0, by omega⟩
/-- a stage: u by what it shares with its slope -/
def STP (u : Nat → Int) (d m e : Nat) (f g : Nat → Int) : Prop := 1 ≤ m ∧ m + e = d ∧ u d = 1 ∧ (∀ i, d < i → u i = 0) ∧ f m = 1 ∧ (∀ i, m < i → f i = 0) ∧ g e = 1 ∧ (∀ i, e < i → g i = 0) ∧ (∀ k, pI (e + 1) g f k = u k) ∧ (∃ h : Nat → Int, (∀ k, pI (e + 1) g h k = slo u k) ∧ ∀ k, m ≤ k → h k = 0) ∧ (∀ i, i < d → rk d u (sOf d u) (m - 1) i = hk (sOf d u) m * g i) ∧ (∀ i, i < d → rk d u (sOf d u) m i = 0) ∧ ∀ k, k ≤ m → 0 < hk (sOf d u) k
theorem STP.up (hS : STP u d m e f g) {G : Nat → Int} {c : Nat} (hG : gcq q G u (slo u)) (hq : ¬ q ∣ 1) (h1 : q ∣ G c - 1) (h2 : ∀ k, c < k → q ∣ G k) : e ≤ c ∧ (c = e → ∀ k, q ∣ G k - g k) := by
  obtain ⟨_, _, _, _, _, s6, s7, s8, s9, ⟨h, s10, s11⟩, _⟩ := hS
  have dg := (hG e g s7 s8).mpr ⟨⟨f, m + 1, fun k hk => s6 k (by omega), fun k => by
    rw [s9]
    exact ⟨0, by omega⟩⟩, ⟨h, m, s11, fun k => by
    rw [s10]
    exact ⟨0, by omega⟩⟩⟩
  have nz : ∃ k, ¬ q ∣ G k := ⟨c, fun z => hq (dv_tr h1 z)⟩
  refine ⟨mq_le s7 dg nz h2, fun ec => ?_⟩
  subst ec
  exact mq_eq hq s7 dg s8 h1 h2
theorem STP.lo (hS : STP u d m e f g) {G : Nat → Int} {c : Nat} (hG : gcq q G u (slo u)) (h1 : G c = 1) (h2 : ∀ i, c < i → G i = 0) (hH : ¬ q ∣ hk (sOf d u) m) : c ≤ e := by
  obtain ⟨s1, s2, s3, s4, s5, s6, s7, s8, s9, _, s11, s12, s13⟩ := hS
  obtain ⟨a1, a2⟩ := (hG c G h1 h2).mp (dvq_self fun i hi => h2 i (by omega))
  have h3 : dvq q (c + 1) G fun i => sm (m - 1 + 1) fun l => vk (sOf d u) (m - 1) l * rh d u l i := sm_dvq (F := rh d u) (c := vk (sOf d u) (m - 1)) (rh_dvq a1 a2) _
  have e1 : ∀ i, sm (m - 1 + 1) (fun l => vk (sOf d u) (m - 1) l * rh d u l i) = hk (sOf d u) m * g i := fun i => by
    rcases Nat.lt_or_ge i d with l | l
    · exact s11 i l
    · rw [s8 i (by omega), Int.mul_zero, sm_eq (g := fun _ => 0 * 0) _ fun l _ => by rw [rh_out s4 s3 (by omega) _ i (by omega)]; omega, sm_mul (f := fun _ => 0) (c := 0)]
      omega
  refine mq_le h1 h3 ⟨e, fun z => hH ?_⟩ fun k hk => ?_
  · have z2 : q ∣ sm (m - 1 + 1) (fun l => vk (sOf d u) (m - 1) l * rh d u l e) := z
    rw [e1, s7, Int.mul_one] at z2
    exact z2
  · show q ∣ sm (m - 1 + 1) (fun l => vk (sOf d u) (m - 1) l * rh d u l k)
    rw [e1, s8 k hk, Int.mul_zero]
    exact ⟨0, by omega⟩
end STAGE
end DVQ
