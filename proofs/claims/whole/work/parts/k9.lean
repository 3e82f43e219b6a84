/-! Unlike roots; what a polynomial and its slope share. -/
def dpl {R : Type} [Lean.Grind.CommRing R] (f : R → R) : List R → R → R
  | [], _ => 0
  | r :: rs, x => f r * pl rs x + (x - r) * dpl f rs x
theorem dplc_pe {R : Type} [Lean.Grind.CommRing R] {f : R → R} {x : R} : ∀ (rs : List R), pe rs.length (dplc f rs) x = dpl f rs x
  | [] => rfl
  | r :: rs => by
    show pe (rs.length + 1) _ x = f r * pl rs x + (x - r) * dpl f rs x
    have e : pe (rs.length + 1) (dplc f (r :: rs)) x = pe (rs.length + 1) (fun i => f r * plc rs i + 1 * su (dplc f rs) i + -r * dplc f rs i + 0 * plc rs i) x := pe_eq _ fun i _ => by
      show f r * plc rs i + (su (dplc f rs) i - r * dplc f rs i) = _
      grind
    rw [e]
    refine (pe_lin4 (rs.length + 1) (c := plc rs) (e := su (dplc f rs)) (f := dplc f rs) (g := plc rs)).trans ?_
    rw [plc_pe, pe_su, dplc_pe rs, pe_top rs.length (c := dplc f rs), dplc_out (Nat.le_refl _), dplc_pe rs]
    grind
theorem pe_nl {K : Type} [Lean.Grind.Field K] : ∀ (n : Nat) {c : Nat → K} {ds : List K}, nd ds → n ≤ ds.length → (∀ r, r ∈ ds → pe n c r = 0) → ∀ i, i < n → c i = 0
  | 0, _, _, _, _, _, i, hi => by omega
  | n + 1, c, [], hn, hl, h, i, hi => by
    have : n + 1 ≤ 0 := hl
    omega
  | n + 1, c, r :: ds, hn, hl, h, i, hi => by
    have hl2 : n ≤ ds.length := by
      have : n + 1 ≤ ds.length + 1 := hl
      omega
    have z := h r List.mem_cons_self
    have q0 := pe_nl n (c := qd r n c) (ds := ds) hn.2 hl2 fun q hq => by
      have h1 := pe_fac n (c := c) (x := q) (r := r)
      rw [h q (List.mem_cons_of_mem _ hq), z] at h1
      have h2 : (q - r) * pe n (qd r n c) q = 0 := by grind
      rcases Lean.Grind.Field.of_mul_eq_zero h2 with g | g
      · exact absurd (show r ∈ ds by rw [show r = q by grind]; exact hq) hn.1
      · exact g
    cases i with
    | succ i =>
      have h1 := qd_step (r := r) (c := c) (n := n) (i := i) (by omega)
      have h2 : qd r n c (i + 1) = 0 := by
        by_cases g : i + 1 < n
        · exact q0 (i + 1) g
        · unfold qd
          rw [show n - (i + 1) = 0 by omega]
          rfl
      rw [q0 i (by omega), h2] at h1
      grind
    | zero =>
      have h1 := pe_fac n (c := c) (x := 0) (r := r)
      rw [z, pe_zero n q0, pe_succ] at h1
      grind
/-- the unlike ones, and the others -/
theorem ddl {K : Type} [Lean.Grind.Field K] : ∀ rs : List K, ∃ ds es : List K, nd ds ∧ (∀ r, r ∈ ds ↔ r ∈ rs) ∧ (∀ r, r ∈ es → r ∈ rs) ∧ ds.length + es.length = rs.length ∧ (∀ x, pl rs x = pl ds x * pl es x) ∧ ∀ f : K → K, ∃ G, PF G ∧ ∀ x, dpl f rs x = pl es x * G x
  | [] => ⟨[], [], trivial, fun r => Iff.rfl, (fun r h => by cases h), rfl, fun x => by
    show (1 : K) = 1 * 1
    grind, fun f => ⟨fun _ => 0, PF_c 0, fun x => by
    show (0 : K) = 1 * 0
    grind⟩⟩
  | r :: rs => by
    obtain ⟨ds, es, h1, h2, h3, h4, h5, h6⟩ := ddl rs
    rcases Classical.em (r ∈ ds) with g | g
    · refine ⟨ds, r :: es, h1, fun q => ⟨fun h => List.mem_cons_of_mem _ ((h2 q).mp h), fun h => ?_⟩, fun q hq => ?_, by show ds.length + (es.length + 1) = rs.length + 1; omega, fun x => ?_, fun f => ?_⟩
      · rcases List.mem_cons.mp h with e | e
        · rw [e]; exact g
        · exact (h2 q).mpr e
      · rcases List.mem_cons.mp hq with e | e
        · rw [e]; exact List.mem_cons_self
        · exact List.mem_cons_of_mem _ (h3 q e)
      · show (x - r) * pl rs x = pl ds x * ((x - r) * pl es x)
        rw [h5]
        grind
      · obtain ⟨G, g1, g2⟩ := h6 f
        obtain ⟨qs, _, _, q3⟩ := pl_take g
        refine ⟨fun x => f r * pl qs x + G x, PF_add (PF_mul _ (PF_pl qs)) g1, fun x => ?_⟩
        show f r * pl rs x + (x - r) * dpl f rs x = (x - r) * pl es x * (f r * pl qs x + G x)
        rw [h5, g2, q3]
        grind
    · refine ⟨r :: ds, es, ⟨g, h1⟩, fun q => ⟨fun h => ?_, fun h => ?_⟩, fun q hq => List.mem_cons_of_mem _ (h3 q hq), by show ds.length + 1 + es.length = rs.length + 1; omega, fun x => ?_, fun f => ?_⟩
      · rcases List.mem_cons.mp h with e | e
        · rw [e]; exact List.mem_cons_self
        · exact List.mem_cons_of_mem _ ((h2 q).mp e)
      · rcases List.mem_cons.mp h with e | e
        · rw [e]; exact List.mem_cons_self
        · exact List.mem_cons_of_mem _ ((h2 q).mpr e)
      · show (x - r) * pl rs x = (x - r) * pl ds x * pl es x
        rw [h5]
        grind
      · obtain ⟨G, g1, g2⟩ := h6 f
        refine ⟨fun x => f r * pl ds x + (x * G x + -r * G x), PF_add (PF_mul _ (PF_pl ds)) (PF_add (PF_x g1) (PF_mul _ g1)), fun x => ?_⟩
        show f r * pl rs x + (x - r) * dpl f rs x = pl es x * (f r * pl ds x + (x * G x + -r * G x))
        rw [h5, g2]
        grind
section UN
variable {s : Nat → Int} {d : Nat} {u : Nat → Int}
theorem rk_three {K : Type} [Lean.Grind.Field K] [LE K] [LT K] [Std.LawfulOrderLT K] [Std.IsLinearOrder K] [Lean.Grind.OrderedRing K] {rs : List K} (hu : isP u rs) (hd : rs.length = d) (h1 : 1 ≤ d) (hs : ∀ l, zc (s l) = ls (fun r => r ^ l) rs) {k i : Nat} (hi : i < d) : hk s (k + 1) * hk s (k + 1) * rk d u s (k + 2) i = hk s (k + 1) * hk s (k + 2) * su (rk d u s (k + 1)) i + (hk s (k + 2) * mk s k (k + 1) - hk s (k + 1) * mk s (k + 1) (k + 2)) * rk d u s (k + 1) i - hk s (k + 2) * hk s (k + 2) * rk d u s k i := by
  refine zc_inj (K := K) ?_
  rw [zc_sub, zc_add, zc_mul, zc_mul, zc_mul, zc_mul, zc_mul, zc_mul, zc_mul, zc_su, rk_K hu hd h1 hi, rk_K hu hd h1 hi, rk_K hu hd h1 hi]
  have e0 : su (fun i => (zc (rk d u s (k + 1) i) : K)) i = su (dplc (fun r => vr s (k + 1) r) rs) i := by
    cases i with
    | zero => rfl
    | succ i => exact rk_K hu hd h1 (by omega)
  have e1 := dplc_x (f := fun r => vr s (k + 1) r) (rs := rs) i
  have e2 : ls (fun r => vr s (k + 1) r) rs = 0 := by
    have h := mk_K hs (k + 1) 0
    rw [mk_0 (by omega), zc_0] at h
    rw [h]
    exact ls_eq fun r _ => by grind
  rw [e0, e1, e2]
  have e3 := dplc_eq (rs := rs) (i := i) (vr_three hs k)
  have e4 := dplc_lin (f := fun r => vr s (k + 2) r) (g := fun _ => (0 : K)) (a := zc (hk s (k + 1)) * zc (hk s (k + 1))) (b := 0) (rs := rs) (i := i)
  have e5 : dplc (fun r => zc (hk s (k + 1)) * zc (hk s (k + 1)) * vr s (k + 2) r) rs i = dplc (fun r => zc (hk s (k + 1)) * zc (hk s (k + 1)) * vr s (k + 2) r + 0 * 0) rs i := dplc_eq fun r _ => by grind
  generalize hT : (zc (hk s (k + 2) * mk s k (k + 1) - hk s (k + 1) * mk s (k + 1) (k + 2)) : K) = T at *
  have e6 := dplc_lin (f := fun r => 1 * (zc (hk s (k + 1)) * zc (hk s (k + 2)) * (r * vr s (k + 1) r) + T * vr s (k + 1) r) + 0 * 0) (g := fun r => vr s k r) (a := 1) (b := -(zc (hk s (k + 2)) * zc (hk s (k + 2)))) (rs := rs) (i := i)
  have e7 := dplc_lin (f := fun r => zc (hk s (k + 1)) * zc (hk s (k + 2)) * (r * vr s (k + 1) r) + T * vr s (k + 1) r) (g := fun _ => (0 : K)) (a := 1) (b := 0) (rs := rs) (i := i)
  have e8 := dplc_lin (f := fun r => r * vr s (k + 1) r) (g := fun r => vr s (k + 1) r) (a := zc (hk s (k + 1)) * zc (hk s (k + 2))) (b := T) (rs := rs) (i := i)
  have e9 : dplc (fun r => (zc (hk s (k + 1)) * zc (hk s (k + 2)) * r + T) * vr s (k + 1) r - zc (hk s (k + 2)) * zc (hk s (k + 2)) * vr s k r) rs i = dplc (fun r => 1 * (1 * (zc (hk s (k + 1)) * zc (hk s (k + 2)) * (r * vr s (k + 1) r) + T * vr s (k + 1) r) + 0 * 0) + -(zc (hk s (k + 2)) * zc (hk s (k + 2))) * vr s k r) rs i := dplc_eq fun r _ => by grind
  rw [e5, e4, e9, e6, e7, e8] at e3
  grind
theorem rk_two {K : Type} [Lean.Grind.Field K] [LE K] [LT K] [Std.LawfulOrderLT K] [Std.IsLinearOrder K] [Lean.Grind.OrderedRing K] {rs : List K} (hu : isP u rs) (hd : rs.length = d) (h1 : 1 ≤ d) (hs : ∀ l, zc (s l) = ls (fun r => r ^ l) rs) {i : Nat} (hi : i < d) : rk d u s 1 i = hk s 1 * su (rk d u s 0) i + -(mk s 0 1) * rk d u s 0 i - hk s 1 * hk s 1 * u i := by
  refine zc_inj (K := K) ?_
  have v0 : ∀ r : K, vr s 0 r = 1 := fun r => by
    show zc (vk s 0 0) + r * 0 = (1 : K)
    rw [vk_top, hk_0, zc_1]
    grind
  rw [zc_sub, zc_add, zc_mul, zc_mul, zc_mul, zc_mul, zc_su, rk_K hu hd h1 hi, rk_K hu hd h1 hi, hu i (by omega)]
  have e0 : su (fun i => (zc (rk d u s 0 i) : K)) i = su (dplc (fun r => vr s 0 r) rs) i := by
    cases i with
    | zero => rfl
    | succ i => exact rk_K hu hd h1 (by omega)
  have e1 := dplc_x (f := fun r => vr s 0 r) (rs := rs) i
  have e2 : ls (fun r => vr s 0 r) rs = zc (hk s 1) := by
    have h : hk s 1 = s 0 := by
      show 0 + 1 * s 0 * 1 = s 0
      omega
    rw [h, hs 0]
    exact ls_eq fun r _ => by rw [v0]; grind
  rw [e0, e1, e2]
  have e3 := dplc_lin (f := fun r => r * vr s 0 r) (g := fun r => vr s 0 r) (a := zc (hk s 1)) (b := zc (-(mk s 0 1))) (rs := rs) (i := i)
  have e4 : dplc (fun r => vr s 1 r) rs i = dplc (fun r => zc (hk s 1) * (r * vr s 0 r) + zc (-(mk s 0 1)) * vr s 0 r) rs i := dplc_eq fun r _ => by
    rw [vr_two hs, v0]
    grind
  rw [e4, e3]
  grind
theorem rk_low {K : Type} [Lean.Grind.Field K] [LE K] [LT K] [Std.LawfulOrderLT K] [Std.IsLinearOrder K] [Lean.Grind.OrderedRing K] {rs : List K} (hu : isP u rs) (hd : rs.length = d) (h1 : 1 ≤ d) (hs : ∀ l, zc (s l) = ls (fun r => r ^ l) rs) {k i : Nat} (hi : i < d) (h : d ≤ i + k) : rk d u s k i = 0 := by
  refine zc_inj (K := K) ?_
  rw [rk_K hu hd h1 hi, zc_0, ls_mom k fun t ht => by rw [← mk_K hs, mk_0 ht, zc_0], dplc_out (by omega)]
theorem rk_head {K : Type} [Lean.Grind.Field K] [LE K] [LT K] [Std.LawfulOrderLT K] [Std.IsLinearOrder K] [Lean.Grind.OrderedRing K] {rs : List K} (hu : isP u rs) (hd : rs.length = d) (hs : ∀ l, zc (s l) = ls (fun r => r ^ l) rs) {k i : Nat} (h : i + k + 1 = d) : rk d u s k i = hk s (k + 1) := by
  refine zc_inj (K := K) ?_
  rw [rk_K hu hd (by omega) (by omega), ls_mom k fun t ht => by rw [← mk_K hs, mk_0 ht, zc_0], dplc_top (by omega), ← mk_K hs, mk_k]
theorem hk_sq {K : Type} [Lean.Grind.Field K] [LE K] [LT K] [Std.LawfulOrderLT K] [Std.IsLinearOrder K] [Lean.Grind.OrderedRing K] {rs : List K} (hs : ∀ l, zc (s l) = ls (fun r => r ^ l) rs) (k : Nat) : ls (fun r => vr s k r * vr s k r) rs = zc (hk s k * hk s (k + 1)) := by
  have e : ls (fun r => vr s k r * vr s k r) rs = ls (fun r => pe (k + 1) (fun l => zc (vk s k l)) r * vr s k r) rs := rfl
  rw [e, ls_pe, ks_succ, ks_zero k fun l hl => by rw [← mk_K hs, mk_0 hl, zc_0]; grind, ← mk_K hs, mk_k, vk_top, zc_mul]
  grind
theorem hk_pos {K : Type} [Lean.Grind.Field K] [LE K] [LT K] [Std.LawfulOrderLT K] [Std.IsLinearOrder K] [Lean.Grind.OrderedRing K] {rs ds : List K} (hs : ∀ l, zc (s l) = ls (fun r => r ^ l) rs) (hn : nd ds) (hd : ∀ r, r ∈ ds ↔ r ∈ rs) : ∀ k, k ≤ ds.length → 0 < hk s k
  | 0, _ => by rw [hk_0]; omega
  | k + 1, h => by
    have ih := hk_pos hs hn hd k (by omega)
    obtain ⟨h1, h2⟩ := ls_sq (f := vr s k) (rs := rs)
    rw [hk_sq hs] at h1 h2
    have h3 : 0 ≤ hk s k * hk s (k + 1) := (zc_le (K := K)).mp (by rw [zc_0]; exact h1)
    have h4 : hk s k * hk s (k + 1) ≠ 0 := fun e => by
      have z := h2 (by rw [e, zc_0])
      have z2 := pe_nl (k + 1) (c := fun l => (zc (vk s k l) : K)) hn h (fun r hr => z r ((hd r).mp hr)) k (by omega)
      have z3 : (zc (vk s k k) : K) = zc 0 := by rw [zc_0]; exact z2
      have z4 := zc_inj z3
      rw [vk_top] at z4
      omega
    have h5 : 0 < hk s k * hk s (k + 1) := by omega
    refine Classical.byContradiction fun g => ?_
    have := Int.mul_nonneg (a := hk s k) (b := -(hk s (k + 1))) (by omega) (by omega)
    rw [Int.mul_neg] at this
    omega
theorem vr_end {K : Type} [Lean.Grind.Field K] [LE K] [LT K] [Std.LawfulOrderLT K] [Std.IsLinearOrder K] [Lean.Grind.OrderedRing K] {rs ds : List K} {m : Nat} (hs : ∀ l, zc (s l) = ls (fun r => r ^ l) rs) (hn : nd ds) (hd : ∀ r, r ∈ ds ↔ r ∈ rs) (hm : ds.length = m) : (∀ r, r ∈ rs → vr s m r = 0) ∧ ∀ l, l < m + 1 → zc (vk s m l) = zc (hk s m) * plc ds l := by
  let e : Nat → K := fun l => 1 * zc (vk s m l) + -(zc (hk s m)) * plc ds l + 0 * plc ds l + 0 * plc ds l
  have e0 : e m = 0 := by
    show 1 * zc (vk s m m) + -(zc (hk s m)) * plc ds m + 0 * plc ds m + 0 * plc ds m = 0
    rw [vk_top, ← hm, plc_top]
    grind
  have ev : ∀ x, pe m e x = vr s m x - zc (hk s m) * pl ds x := fun x => by
    have h1 : pe (m + 1) e x = pe m e x := by
      rw [pe_top, e0]
      grind
    rw [← h1]
    refine (pe_lin4 (m + 1) (c := fun l => zc (vk s m l)) (e := plc ds) (f := plc ds) (g := plc ds)).trans ?_
    have h2 := plc_pe (x := x) ds
    rw [hm] at h2
    rw [h2]
    have h3 : pe (m + 1) (fun l => zc (vk s m l)) x = vr s m x := rfl
    rw [h3]
    grind
  have er : ∀ r, r ∈ rs → pe m e r = vr s m r := fun r hr => by
    rw [ev, pl_root ((hd r).mpr hr)]
    grind
  have z := ls_orth (rs := rs) (n := m) (e := e) fun i hi => by
    have h := mk_K hs m i
    rw [mk_0 hi, zc_0] at h
    rw [h]
    exact ls_eq fun r hr => by rw [er r hr]
  refine ⟨fun r hr => by rw [← er r hr]; exact z r hr, fun l hl => ?_⟩
  have z2 := pe_nl m (c := e) hn (by omega) fun r hr => z r ((hd r).mp hr)
  have z3 : e l = 0 := by
    by_cases g : l = m
    · rw [g]; exact e0
    · exact z2 l (by omega)
  have z4 : 1 * zc (vk s m l) + -(zc (hk s m)) * plc ds l + 0 * plc ds l + 0 * plc ds l = 0 := z3
  grind
theorem rk_end {K : Type} [Lean.Grind.Field K] [LE K] [LT K] [Std.LawfulOrderLT K] [Std.IsLinearOrder K] [Lean.Grind.OrderedRing K] {rs ds es : List K} {m : Nat} (hu : isP u rs) (hd : rs.length = d) (hs : ∀ l, zc (s l) = ls (fun r => r ^ l) rs) (hm : ds.length = m + 1) (hl : ds.length + es.length = rs.length) (hG : ∃ G, PF G ∧ ∀ x, dpl (vr s m) rs x = pl es x * G x) : ∀ i, i < es.length + 1 → zc (rk d u s m i) = zc (hk s (m + 1)) * plc es i := by
  obtain ⟨G, g1, g2⟩ := hG
  let e := es.length
  have he : es.length = e := rfl
  have hde : d = e + 1 + m := by omega
  let a : Nat → K := fun i => 1 * dplc (vr s m) rs i + -(zc (hk s (m + 1))) * plc es i + 0 * plc es i + 0 * plc es i
  have k1 : ∀ i, i < d → zc (rk d u s m i) = dplc (vr s m) rs i := fun i hi => rk_K hu hd (by omega) hi
  have t1 : dplc (vr s m) rs e = zc (hk s (m + 1)) := by rw [← k1 e (by omega), rk_head hu hd hs (by omega)]
  have a0 : a e = 0 := by
    show 1 * dplc (vr s m) rs e + -(zc (hk s (m + 1))) * plc es e + 0 * plc es e + 0 * plc es e = 0
    rw [t1, ← he, plc_top]
    grind
  have av : ∀ x, pe e a x = pl es x * (G x + -(zc (hk s (m + 1)))) := fun x => by
    have h1 : pe (e + 1) a x = pe e a x := by
      rw [pe_top, a0]
      grind
    rw [← h1]
    refine (pe_lin4 (e + 1) (c := dplc (vr s m) rs) (e := plc es) (f := plc es) (g := plc es)).trans ?_
    have h2 := plc_pe (x := x) es
    rw [he] at h2
    have h3 := dplc_pe (f := vr s m) (x := x) rs
    rw [hd, hde, pe_more m fun i h1 h2 => by rw [← k1 i (by omega), rk_low hu hd (by omega) hs (by omega) (by omega), zc_0], g2] at h3
    rw [h2, h3]
    grind
  obtain ⟨n, c, hc⟩ := PF_add g1 (PF_c (-(zc (hk s (m + 1)) : K)))
  have z := mon_none (d := e) (c := plc es) (a := a) (n := n) (e := c) (plc_top es) fun x => by
    have h2 := plc_pe (x := x) es
    rw [he] at h2
    rw [av, h2, ← hc]
  intro i hi
  have z3 : a i = 0 := by
    by_cases g : i = e
    · rw [g]; exact a0
    · exact z i (by omega)
  have z4 : 1 * dplc (vr s m) rs i + -(zc (hk s (m + 1))) * plc es i + 0 * plc es i + 0 * plc es i = 0 := z3
  rw [k1 i (by omega)]
  grind
end UN
