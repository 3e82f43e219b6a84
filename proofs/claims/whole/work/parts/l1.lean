/-! A polynomial, its unlike roots' polynomial, and what it shares with its slope: whole numbers. -/
theorem sp_P {K : Type} [Lean.Grind.Field K] [LE K] [LT K] [Std.LawfulOrderLT K] [Std.IsLinearOrder K] [Lean.Grind.OrderedRing K] {u : Nat → Int} {rs : List K} (h : spK K u rs) : isP u rs := fun i hi => pe_inj (n := rs.length + 1) (c := fun i => (zc (u i) : K)) (e := plc rs) (fun x => by rw [h.2, plc_pe]) i hi
theorem P_sp {K : Type} [Lean.Grind.Field K] [LE K] [LT K] [Std.LawfulOrderLT K] [Std.IsLinearOrder K] [Lean.Grind.OrderedRing K] {u : Nat → Int} {rs : List K} (h : isP u rs) (hr : ∀ r, r ∈ rs → -600 ≤ r ∧ r ≤ 600) : spK K u rs := ⟨hr, fun x => by rw [pe_eq _ h, plc_pe]⟩
theorem P_top {K : Type} [Lean.Grind.Field K] [LE K] [LT K] [Std.LawfulOrderLT K] [Std.IsLinearOrder K] [Lean.Grind.OrderedRing K] {u : Nat → Int} {rs : List K} (h : isP u rs) : u rs.length = 1 := by
  refine zc_inj (K := K) ?_
  rw [h _ (by omega), plc_top, zc_1]
theorem P_pe {R : Type} [Lean.Grind.CommRing R] {u : Nat → Int} {n k : Nat} {x : R} (hz : ∀ i, n ≤ i → u i = 0) : pe (n + k) (fun i => (zc (u i) : R)) x = pe n (fun i => zc (u i)) x := pe_more k fun i h1 _ => by rw [hz i h1, zc_0]
/-- the product of two, told by their lines -/
theorem P_mul {K : Type} [Lean.Grind.Field K] [LE K] [LT K] [Std.LawfulOrderLT K] [Std.IsLinearOrder K] [Lean.Grind.OrderedRing K] {f g u : Nat → Int} {fs gs us : List K} (hf : isP f fs) (hg : isP g gs) (hu : isP u us) (hl : gs.length + fs.length = us.length) (h : ∀ x, pl us x = pl gs x * pl fs x) (zf : ∀ i, fs.length < i → f i = 0) (zu : ∀ i, us.length < i → u i = 0) (k : Nat) : pI (gs.length + 1) g f k = u k := by
  rcases Nat.lt_or_ge k (us.length + 2) with l | l
  · refine zc_inj (K := K) ?_
    rw [zc_pI]
    refine pe_inj (n := us.length + 2) (c := pm (gs.length + 1) (fun i => zc (g i)) fun i => zc (f i)) (e := fun i => zc (u i)) (fun x => ?_) k l
    have h1 := pm_pe (M := fs.length + 1) (e := fun i => (zc (f i) : K)) (x := x) (fun i hi => by rw [zf i (by omega), zc_0]) (gs.length + 1) (c := fun i => zc (g i))
    rw [show gs.length + 1 + (fs.length + 1) = us.length + 2 by omega] at h1
    rw [h1, pe_eq _ hf, pe_eq _ hg, plc_pe, plc_pe, P_pe (n := us.length + 1) (k := 1) fun i hi => zu i (by omega), pe_eq _ hu, plc_pe, h]
  · rw [pI_out (M := fs.length + 1) (fun i hi => zf i (by omega)) (gs.length + 1) (by omega), zu k (by omega)]
theorem str {K : Type} [Lean.Grind.Field K] [LE K] [LT K] [Std.LawfulOrderLT K] [Std.IsLinearOrder K] [Lean.Grind.OrderedRing K] {u : Nat → Int} {rs : List K} {d : Nat} (hu : isP u rs) (hd : rs.length = d) (h1 : 1 ≤ d) (hz : ∀ i, d < i → u i = 0) : ∃ (ds es : List K) (m e : Nat) (f g h : Nat → Int), nd ds ∧ (∀ r, r ∈ ds ↔ r ∈ rs) ∧ (∀ r, r ∈ es → r ∈ rs) ∧ ds.length = m ∧ es.length = e ∧ 1 ≤ m ∧ m + e = d ∧ isP f ds ∧ isP g es ∧ (∀ i, m < i → f i = 0) ∧ (∀ i, e < i → g i = 0) ∧ (∀ k, pI (e + 1) g f k = u k) ∧ (∀ k, pI (e + 1) g h k = ((k : Int) + 1) * u (k + 1)) ∧ (∀ k, m ≤ k → h k = 0) ∧ (∀ i, i < d → rk d u (sOf d u) (m - 1) i = hk (sOf d u) m * g i) ∧ (∀ i, i < d → rk d u (sOf d u) m i = 0) ∧ ∀ k, k ≤ m → 0 < hk (sOf d u) k := by
  obtain ⟨ds, es, n1, n2, n3, n4, n5, n6⟩ := ddl rs
  have hs : ∀ l, zc (sOf d u l) = ls (fun r : K => r ^ l) rs := fun l => sO_K hu hd h1 l
  generalize hS : sOf d u = s at *
  obtain ⟨m, hm⟩ : ∃ m, ds.length = m := ⟨_, rfl⟩
  obtain ⟨e, he⟩ : ∃ e, es.length = e := ⟨_, rfl⟩
  have m1 : 1 ≤ m := by
    cases rs with
    | nil =>
      have : (0 : Nat) = d := hd
      omega
    | cons r rs =>
      have h2 := (n2 r).mpr List.mem_cons_self
      cases ds with
      | nil => cases h2
      | cons q ds =>
        have : ds.length + 1 = m := hm
        omega
  obtain ⟨m, rfl⟩ : ∃ q, m = q + 1 := ⟨m - 1, by omega⟩
  have hp := hk_pos hs n1 n2
  have H0 : 0 < hk s (m + 1) := hp (m + 1) (by omega)
  have HK : (zc (hk s (m + 1)) : K) ≠ 0 := fun z => by
    have : hk s (m + 1) = 0 := zc_inj (K := K) (by rw [z, zc_0])
    omega
  obtain ⟨v1, v2⟩ := vr_end hs n1 n2 hm
  have r2 := rk_end hu hd hs hm n4 (n6 (vr s m))
  rw [he] at r2
  have rl : ∀ i, i < d → e < i → rk d u s m i = 0 := fun i hi h2 => rk_low hu hd h1 hs hi (by omega)
  let R : Nat → Int := fun i => if i < d then rk d u s m i else 0
  have R1 : ∀ i, i < e + 1 → (zc (R i) : K) = zc (hk s (m + 1)) * plc es i := fun i hi => by
    have : R i = rk d u s m i := if_pos (by omega)
    rw [this, r2 i hi]
  have R2 : ∀ i, e < i → R i = 0 := fun i hi => by
    by_cases g : i < d
    · exact (if_pos g).trans (rl i g hi)
    · exact if_neg g
  have prod : ∀ k, pI (m + 1 + 1) (vk s (m + 1)) R k = hk s (m + 1) * hk s (m + 1) * u k := fun k => by
    rcases Nat.lt_or_ge k (d + 2) with l | l
    · refine zc_inj (K := K) ?_
      rw [zc_pI, zc_mul, zc_mul]
      refine pe_inj (n := d + 2) (c := pm (m + 1 + 1) (fun i => zc (vk s (m + 1) i)) fun i => zc (R i)) (e := fun i => zc (hk s (m + 1)) * zc (hk s (m + 1)) * zc (u i)) (fun x => ?_) k l
      have h2 := pm_pe (M := e + 1) (e := fun i => (zc (R i) : K)) (x := x) (fun i hi => by rw [R2 i (by omega), zc_0]) (m + 1 + 1) (c := fun i => zc (vk s (m + 1) i))
      rw [show m + 1 + 1 + (e + 1) = d + 2 by omega] at h2
      have h3 := plc_pe (x := x) ds
      have h4 := plc_pe (x := x) es
      have h5 := plc_pe (x := x) rs
      rw [hm] at h3
      rw [he] at h4
      rw [hd] at h5
      rw [h2, pe_eq _ v2, pe_eq _ R1, pe_mul, pe_mul, h3, h4, pe_mul, P_pe (n := d + 1) (k := 1) fun i hi => hz i (by omega), pe_eq (e := plc rs) (d + 1) fun i hi => hu i (by omega), h5, n5]
      grind
    · rw [pI_out (M := e + 1) (fun i hi => R2 i (by omega)) (m + 1 + 1) (by omega), hz k (by omega), Int.mul_zero]
  obtain ⟨d1, d2⟩ := gauss (m := m + 1) (e := e) (u := u) _ H0 H0 (Nat.le_refl _) (show vk s (m + 1) (m + 1) = hk s (m + 1) from vk_top) (show R e = hk s (m + 1) by
    have : R e = rk d u s m e := if_pos (by omega)
    rw [this, rk_head hu hd hs (by omega)]) (fun i hi => vk_out hi) prod
  let f : Nat → Int := fun i => vk s (m + 1) i / hk s (m + 1)
  let g : Nat → Int := fun i => R i / hk s (m + 1)
  have f1 : ∀ i, vk s (m + 1) i = hk s (m + 1) * f i := fun i => (Int.mul_ediv_cancel' (d1 i)).symm
  have g1 : ∀ i, R i = hk s (m + 1) * g i := fun i => (Int.mul_ediv_cancel' (d2 i)).symm
  have can : ∀ a b : K, zc (hk s (m + 1)) * a = zc (hk s (m + 1)) * b → a = b := fun a b h => by
    rcases Lean.Grind.Field.of_mul_eq_zero (show (zc (hk s (m + 1)) : K) * (a - b) = 0 by grind) with z | z
    · exact absurd z HK
    · grind
  have fP : isP f ds := fun i hi => can _ _ (by rw [← zc_mul, ← f1, v2 i (by omega)])
  have gP : isP g es := fun i hi => can _ _ (by rw [← zc_mul, ← g1, R1 i (by omega)])
  have fz : ∀ i, m + 1 < i → f i = 0 := fun i hi => by
    show vk s (m + 1) i / hk s (m + 1) = 0
    rw [vk_out hi, Int.zero_ediv]
  have gz : ∀ i, e < i → g i = 0 := fun i hi => by
    show R i / hk s (m + 1) = 0
    rw [R2 i hi, Int.zero_ediv]
  have gf : ∀ k, pI (e + 1) g f k = u k := fun k => by
    have := P_mul fP gP hu (by omega) (fun x => by rw [n5]; grind) (fun i hi => fz i (by omega)) (fun i hi => hz i (by omega)) k
    rw [he] at this
    exact this
  have ge : g e = 1 := by
    have := P_top gP
    rw [he] at this
    exact this
  obtain ⟨W, r, w1, w2, w3⟩ := pI_div ge d (c := fun k => ((k : Int) + 1) * u (k + 1)) fun i hi => by
    show ((i : Int) + 1) * u (i + 1) = 0
    rw [hz (i + 1) (by omega), Int.mul_zero]
  obtain ⟨G, G1, G2⟩ := n6 fun _ => 1
  have rz : ∀ k, r k = 0 := fun k => by
    rcases Nat.lt_or_ge k e with l | l
    · refine zc_inj (K := K) ?_
      obtain ⟨n, c, hc⟩ := PF_add G1 (PF_mul (-1) (PF_pe (m + 1) fun i => (zc (W i) : K)))
      have z := mon_none (d := e) (c := plc es) (a := fun i => (zc (r i) : K)) (n := n) (e := c) (by rw [← he]; exact plc_top es) (fun x => by
        have h4 := plc_pe (x := x) es
        rw [he] at h4
        have k1 : pe (e + 1 + (m + 1)) (fun i => (zc (((i : Int) + 1) * u (i + 1)) : K)) x = pe (e + 1 + (m + 1)) (fun i => pm (e + 1) (fun i => zc (g i)) (fun i => zc (W i)) i + zc (r i)) x := pe_eq _ fun i _ => by
          rw [w1 i, zc_add, zc_pI]
        have k2 := pm_pe (M := m + 1) (e := fun i => (zc (W i) : K)) (x := x) (fun i hi => by rw [w3 i (by omega), zc_0]) (e + 1) (c := fun i => zc (g i))
        have k3 : pe (e + 1 + (m + 1)) (fun i => (zc (r i) : K)) x = pe e (fun i => zc (r i)) x := by
          rw [show e + 1 + (m + 1) = e + (m + 2) by omega]
          exact P_pe fun i hi => w2 i hi
        have k4 : pe (e + 1 + (m + 1)) (fun i => (zc (((i : Int) + 1) * u (i + 1)) : K)) x = dpl (fun _ => 1) rs x := by
          rw [← dplc_pe, hd, show e + 1 + (m + 1) = d + 1 by omega, pe_top, show (((d : Nat) : Int) + 1) * u (d + 1) = 0 by rw [hz (d + 1) (by omega), Int.mul_zero], zc_0]
          have : pe d (fun i => (zc (((i : Int) + 1) * u (i + 1)) : K)) x = pe d (dplc (fun _ => 1) rs) x := pe_eq _ fun i hi => by
            rw [dplc_one, zc_mul, hu (i + 1) (by omega), show ((i : Int) + 1) = ((i + 1 : Nat) : Int) by omega, ← zc_kn]
            rfl
          rw [this]
          grind
        have k5 := pe_add (e + 1 + (m + 1)) (c := pm (e + 1) (fun i => (zc (g i) : K)) fun i => zc (W i)) (e := fun i => zc (r i)) (x := x)
        rw [k4, k5, k2, k3, G2, pe_eq (e := plc es) (e + 1) fun i hi => gP i (by omega), h4] at k1
        rw [h4, ← hc]
        grind) k l
      rw [zc_0]
      exact z
    · exact w2 k l
  refine ⟨ds, es, m + 1, e, f, g, W, n1, n2, n3, hm, he, by omega, by omega, fP, gP, fz, gz, gf, fun k => ?_, fun k hk => w3 k (by omega), fun i hi => ?_, fun i hi => ?_, fun k hk => hp k (by omega)⟩
  · have := w1 k
    rw [rz k] at this
    omega
  · have h2 : R i = rk d u s m i := if_pos hi
    rw [Nat.add_sub_cancel, ← h2, g1]
  · refine zc_inj (K := K) ?_
    rw [rk_K hu hd h1 hi, zc_0]
    exact dplc_0 v1
