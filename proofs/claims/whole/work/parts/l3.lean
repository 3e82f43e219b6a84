/-! A polynomial's roots stretched by b and moved by a, as both sides reckon it. -/
def hn (a : Int) (c : Nat → Int) : Nat → Nat → Int
  | 0, k => c k
  | m + 1, k => c k + a * hn a c m (k + 1)
theorem hn_eq {a : Int} {c e : Nat → Int} : ∀ m k, (∀ i, k ≤ i → i ≤ k + m → c i = e i) → hn a c m k = hn a e m k
  | 0, k, h => h k (by omega) (by omega)
  | m + 1, k, h => by
    show c k + a * hn a c m (k + 1) = e k + a * hn a e m (k + 1)
    rw [h k (by omega) (by omega), hn_eq m (k + 1) fun i h1 h2 => h i (by omega) (by omega)]
theorem hn_K {R : Type} [Lean.Grind.CommRing R] {a : Int} {c : Nat → Int} : ∀ m k, (zc (hn a c m k) : R) = pe (m + 1) (fun j => zc (c (k + j))) (zc a)
  | 0, k => by
    show zc (c k) = zc (c (k + 0)) + zc a * 0
    rw [Nat.add_zero]
    grind
  | m + 1, k => by
    show zc (c k + a * hn a c m (k + 1)) = _
    rw [zc_add, zc_mul, hn_K m (k + 1), pe_succ (n := m + 1), Nat.add_zero]
    congr 2
    exact pe_eq _ fun i _ => by rw [show k + 1 + i = k + (i + 1) by omega]
/-- one round from place i on, and i rounds -/
def ps (a : Int) (d i : Nat) (c : Nat → Int) (k : Nat) : Int := if i ≤ k ∧ k ≤ d then hn a c (d - k) k else c k
def pss (a : Int) (d : Nat) (w : Nat → Int) : Nat → Nat → Int
  | 0 => w
  | i + 1 => ps a d i (pss a d w i)
theorem pss_K {R : Type} [Lean.Grind.CommRing R] {a : Int} {d : Nat} {w : Nat → Int} {y : R} : ∀ i, i ≤ d → pe (d + 1) (fun k => (zc (w k) : R)) y = pe i (fun k => zc (pss a d w i k)) (y - zc a) + (y - zc a) ^ i * pe (d + 1 - i) (fun k => zc (pss a d w i (i + k))) y
  | 0, _ => by
    show _ = (0 : R) + (y - zc a) ^ 0 * pe (d + 1) (fun k => zc (w (0 + k))) y
    rw [pe_eq (e := fun k => zc (w (0 + k))) (d + 1) fun i _ => by rw [Nat.zero_add]]
    grind
  | i + 1, h => by
    have ih := pss_K (a := a) (w := w) (y := y) (d := d) i (by omega)
    generalize hC : pss a d w i = C at ih
    have e0 : pss a d w (i + 1) = ps a d i C := by
      rw [← hC]
      rfl
    rw [e0]
    obtain ⟨n, hn1⟩ : ∃ n, d - i = n := ⟨_, rfl⟩
    rw [show d + 1 - i = n + 1 by omega, pe_fac n (r := zc a)] at ih
    have e1 : pe i (fun k => (zc (C k) : R)) (y - zc a) = pe i (fun k => zc (ps a d i C k)) (y - zc a) := pe_eq _ fun k hk => by
      show _ = zc (if i ≤ k ∧ k ≤ d then hn a C (d - k) k else C k)
      rw [if_neg (by omega)]
    have e2 : pe (n + 1) (fun k => (zc (C (i + k)) : R)) (zc a) = zc (ps a d i C i) := by
      show _ = zc (if i ≤ i ∧ i ≤ d then hn a C (d - i) i else C i)
      rw [if_pos (by omega), hn_K, hn1]
    have e3 : pe n (qd (zc a) n fun k => (zc (C (i + k)) : R)) y = pe (d + 1 - (i + 1)) (fun k => zc (ps a d i C (i + 1 + k))) y := by
      rw [show d + 1 - (i + 1) = n by omega]
      refine pe_eq _ fun k hk => ?_
      show pe (n - k) (fun j => zc (C (i + (k + 1 + j)))) (zc a) = zc (if i ≤ i + 1 + k ∧ i + 1 + k ≤ d then hn a C (d - (i + 1 + k)) (i + 1 + k) else _)
      rw [if_pos (by omega), hn_K, show d - (i + 1 + k) + 1 = n - k by omega]
      exact pe_eq _ fun j _ => by rw [show i + (k + 1 + j) = i + 1 + k + j by omega]
    rw [ih, e1, e2, e3, pe_top i]
    grind
theorem pss_end {R : Type} [Lean.Grind.CommRing R] {a : Int} {d : Nat} {w : Nat → Int} {x : R} : pe (d + 1) (fun k => (zc (pss a d w d k) : R)) x = pe (d + 1) (fun k => zc (w k)) (x + zc a) := by
  rw [pss_K (a := a) (y := x + zc a) d (Nat.le_refl d), show d + 1 - d = 1 by omega, show x + zc a - zc a = x by grind, pe_top]
  show _ = _ + x ^ d * (zc (pss a d w d (d + 0)) + _ * 0)
  rw [Nat.add_zero]
  grind
/-- stretched by b -/
def wst (b : Int) (d : Nat) (u : Nat → Int) (i : Nat) : Int := u i * b ^ (d - i)
theorem zc_pow {R : Type} [Lean.Grind.CommRing R] (b : Int) (n : Nat) : (zc (b ^ n) : R) = zc b ^ n := Lean.Grind.Ring.intCast_pow b n
theorem plc_map {R : Type} [Lean.Grind.CommRing R] {b : R} : ∀ (rs : List R) (i : Nat), i ≤ rs.length → plc (rs.map fun r => b * r) i = b ^ (rs.length - i) * plc rs i
  | [], i, h => by
    have h2 : i = 0 := by
      have : i ≤ 0 := h
      omega
    subst h2
    show (1 : R) = b ^ 0 * 1
    grind
  | r :: rs, 0, _ => by
    show (0 : R) - b * r * plc (rs.map fun r => b * r) 0 = b ^ (rs.length + 1) * (0 - r * plc rs 0)
    rw [plc_map rs 0 (by omega), Nat.sub_zero]
    grind
  | r :: rs, i + 1, h => by
    have h2 : i + 1 ≤ rs.length + 1 := h
    show plc (rs.map fun r => b * r) i - b * r * plc (rs.map fun r => b * r) (i + 1) = b ^ (rs.length + 1 - (i + 1)) * (plc rs i - r * plc rs (i + 1))
    rw [plc_map rs i (by omega), show rs.length + 1 - (i + 1) = rs.length - i by omega]
    by_cases g : i + 1 ≤ rs.length
    · rw [plc_map rs (i + 1) g]
      obtain ⟨k, hk⟩ : ∃ k, rs.length - i = k + 1 := ⟨rs.length - i - 1, by omega⟩
      rw [hk, show rs.length - (i + 1) = k by omega]
      grind
    · rw [plc_out rs (i + 1) (by omega), plc_out (rs.map fun r => b * r) (i + 1) (by rw [List.length_map]; omega)]
      grind
theorem pl_map_sub {R : Type} [Lean.Grind.CommRing R] {a b x : R} : ∀ (rs : List R), pl (rs.map fun r => b * r) (x + a) = pl (rs.map fun r => b * r - a) x
  | [] => rfl
  | r :: rs => by
    show (x + a - b * r) * pl (rs.map fun r => b * r) (x + a) = (x - (b * r - a)) * pl (rs.map fun r => b * r - a) x
    rw [pl_map_sub rs]
    grind
/-- the roots, stretched and moved -/
def mv {K : Type} [Lean.Grind.Field K] (a b : Int) (rs : List K) : List K := rs.map fun r => zc b * r - zc a
theorem mv_len {K : Type} [Lean.Grind.Field K] {a b : Int} {rs : List K} : (mv a b rs).length = rs.length := List.length_map _
theorem wst_pe {K : Type} [Lean.Grind.Field K] [LE K] [LT K] [Std.LawfulOrderLT K] [Std.IsLinearOrder K] [Lean.Grind.OrderedRing K] {u : Nat → Int} {rs : List K} {b : Int} {y : K} (hu : isP u rs) : pe (rs.length + 1) (fun k => (zc (wst b rs.length u k) : K)) y = pl (rs.map fun r => zc b * r) y := by
  have h := plc_pe (x := y) (rs.map fun r => zc b * r)
  rw [List.length_map] at h
  rw [← h]
  refine pe_eq _ fun k hk => ?_
  show zc (u k * b ^ (rs.length - k)) = _
  rw [plc_map rs k (by omega), zc_mul, zc_pow, hu k hk]
  grind
theorem pss_plc {K : Type} [Lean.Grind.Field K] [LE K] [LT K] [Std.LawfulOrderLT K] [Std.IsLinearOrder K] [Lean.Grind.OrderedRing K] {u : Nat → Int} {rs : List K} {a b : Int} (hu : isP u rs) (k : Nat) (hk : k < rs.length + 1) : zc (pss a rs.length (wst b rs.length u) rs.length k) = plc (mv a b rs) k := by
  refine pe_inj (n := rs.length + 1) (c := fun k => (zc (pss a rs.length (wst b rs.length u) rs.length k) : K)) (e := plc (mv a b rs)) (fun x => ?_) k hk
  have h := plc_pe (x := x) (mv a b rs)
  rw [mv_len] at h
  rw [pss_end, wst_pe hu, h, pl_map_sub]
  rfl
/-- the other side's way: from the greatest power on -/
def rp (u : Nat → Int) (d : Nat) (a b : Int) : Nat → Nat → Int
  | 0 => fun j => if j = 0 then u d else 0
  | t + 1 => fun j => a * rp u d a b t j + su (rp u d a b t) j + if j = 0 then u (d - 1 - t) * b ^ (t + 1) else 0
theorem rp_out {u : Nat → Int} {d : Nat} {a b : Int} : ∀ t j, t < j → rp u d a b t j = 0
  | 0, j, h => if_neg (by omega)
  | t + 1, j, h => by
    obtain ⟨j, rfl⟩ : ∃ i, j = i + 1 := ⟨j - 1, by omega⟩
    show a * rp u d a b t (j + 1) + rp u d a b t j + (if j + 1 = 0 then _ else 0) = 0
    rw [rp_out t (j + 1) (by omega), rp_out t j (by omega), if_neg (by omega)]
    omega
theorem rp_K {R : Type} [Lean.Grind.CommRing R] {u : Nat → Int} {d : Nat} {a b : Int} {x : R} : ∀ t, pe (t + 1) (fun j => (zc (rp u d a b t j) : R)) x = hor (fun t => zc (u (d - t) * b ^ t)) (x + zc a) t
  | 0 => by
    show zc (if 0 = 0 then u d else 0) + x * 0 = zc (u (d - 0) * b ^ 0)
    rw [if_pos rfl, Nat.sub_zero, Int.pow_zero, Int.mul_one]
    grind
  | t + 1 => by
    have e1 : pe (t + 1 + 1) (fun j => (zc (rp u d a b (t + 1) j) : R)) x = pe (t + 2) (fun j => zc a * zc (rp u d a b t j) + 1 * su (fun j => zc (rp u d a b t j)) j + 1 * (if j = 0 then zc (u (d - 1 - t) * b ^ (t + 1)) else 0) + 0 * 0) x := pe_eq _ fun j _ => by
      show zc (a * rp u d a b t j + su (rp u d a b t) j + if j = 0 then _ else 0) = _
      rw [zc_add, zc_add, zc_mul, zc_su]
      by_cases g : j = 0
      · rw [if_pos g, if_pos g]
        grind
      · rw [if_neg g, if_neg g, zc_0]
        grind
    rw [e1]
    refine (pe_lin4 (t + 2) (c := fun j => zc (rp u d a b t j)) (e := su fun j => zc (rp u d a b t j)) (f := fun j => if j = 0 then zc (u (d - 1 - t) * b ^ (t + 1)) else 0) (g := fun _ => 0)).trans ?_
    have e2 : pe (t + 2) (fun j => if j = 0 then (zc (u (d - 1 - t) * b ^ (t + 1)) : R) else 0) x = zc (u (d - 1 - t) * b ^ (t + 1)) := by
      rw [pe_succ, if_pos rfl, pe_zero (t + 1) fun i _ => if_neg (by omega)]
      grind
    rw [e2, pe_su, pe_top (t + 1) (c := fun j => zc (rp u d a b t j)), rp_out t (t + 1) (by omega), zc_0, rp_K t]
    show _ = (x + zc a) * hor _ (x + zc a) t + zc (u (d - (t + 1)) * b ^ (t + 1))
    rw [show d - (t + 1) = d - 1 - t by omega]
    grind
theorem rp_plc {K : Type} [Lean.Grind.Field K] [LE K] [LT K] [Std.LawfulOrderLT K] [Std.IsLinearOrder K] [Lean.Grind.OrderedRing K] {u : Nat → Int} {rs : List K} {a b : Int} (hu : isP u rs) (k : Nat) (hk : k < rs.length + 1) : zc (rp u rs.length a b rs.length k) = plc (mv a b rs) k := by
  refine pe_inj (n := rs.length + 1) (c := fun k => (zc (rp u rs.length a b rs.length k) : K)) (e := plc (mv a b rs)) (fun x => ?_) k hk
  have h := plc_pe (x := x) (mv a b rs)
  rw [mv_len] at h
  rw [rp_K, hor_pe, h]
  have e : pe (rs.length + 1) (fun j => (zc (u (rs.length - (rs.length - j)) * b ^ (rs.length - j)) : K)) (x + zc a) = pe (rs.length + 1) (fun k => zc (wst b rs.length u k)) (x + zc a) := pe_eq _ fun j hj => by
    show _ = zc (u j * b ^ (rs.length - j))
    rw [show rs.length - (rs.length - j) = j by omega]
  rw [e, wst_pe hu, pl_map_sub]
  rfl
/-- both come to the same -/
theorem pss_rp {K : Type} [Lean.Grind.Field K] [LE K] [LT K] [Std.LawfulOrderLT K] [Std.IsLinearOrder K] [Lean.Grind.OrderedRing K] {u : Nat → Int} {rs : List K} {a b : Int} (hu : isP u rs) (k : Nat) (hk : k < rs.length + 1) : pss a rs.length (wst b rs.length u) rs.length k = rp u rs.length a b rs.length k := zc_inj (K := K) (by rw [pss_plc hu k hk, rp_plc hu k hk])
def isg (z : Int) : Int := if z < 0 then -1 else if z = 0 then 0 else 1
theorem ksg_zc {K : Type} [Lean.Grind.Field K] [LE K] [LT K] [Std.LawfulOrderLT K] [Std.IsLinearOrder K] [Lean.Grind.OrderedRing K] (z : Int) : ksg (zc z : K) = isg z := by
  unfold isg
  rcases ksg_c (zc z : K) with ⟨h1, h2⟩ | ⟨h1, h2⟩ | ⟨h1, h2⟩
  · have : z < 0 := (zc_lt (K := K)).mp (by rw [zc_0]; exact h1)
    rw [if_pos this, h2]
  · have : z = 0 := zc_inj (K := K) (by rw [zc_0]; exact h1)
    rw [h2, if_neg (by omega), if_pos this]
  · have : 0 < z := (zc_lt (K := K)).mp (by rw [zc_0]; exact h1)
    rw [h2, if_neg (by omega), if_neg (by omega)]
/-- how many roots are below, just at and above a / b -/
noncomputable def nLo {K : Type} [Lean.Grind.Field K] [LT K] (a b : Int) (rs : List K) : Nat := cN (fun r => r < 0) (mv a b rs)
noncomputable def nAt {K : Type} [Lean.Grind.Field K] (a b : Int) (rs : List K) : Nat := cN (fun r => r = 0) (mv a b rs)
noncomputable def nHi {K : Type} [Lean.Grind.Field K] [LT K] (a b : Int) (rs : List K) : Nat := cN (fun r => 0 < r) (mv a b rs)
theorem weigh {K : Type} [Lean.Grind.Field K] [LE K] [LT K] [Std.LawfulOrderLT K] [Std.IsLinearOrder K] [Lean.Grind.OrderedRing K] {u : Nat → Int} {rs : List K} {a b : Int} {N : Nat → Int} (hN : ∀ k, k < rs.length + 1 → zc (N k) = plc (mv a b rs) k) : (vs (fun i => isg (N i)) (rs.length + 1)).2 = (nHi a b rs : Int) ∧ (vs (fun i => sg1 i * isg (N i)) (rs.length + 1)).2 = (nLo a b rs : Int) ∧ (∀ i, i < nAt a b rs → N i = 0) ∧ N (nAt a b rs) ≠ 0 ∧ nHi a b rs + nAt a b rs + nLo a b rs = rs.length := by
  obtain ⟨h1, h2, h3, h4, h5⟩ := desc (mv a b rs)
  rw [mv_len] at h1 h2 h5
  have e : ∀ i, i < rs.length + 1 → ksg (plc (mv a b rs) i) = isg (N i) := fun i hi => by rw [← hN i hi, ksg_zc]
  have hle : nAt a b rs ≤ rs.length := by
    show cN _ (mv a b rs) ≤ _
    omega
  refine ⟨?_, ?_, fun i hi => ?_, fun g => h4 ?_, h5⟩
  · rw [← vs_eq _ e]
    exact h1
  · rw [← vs_eq (s := fun i => sg1 i * ksg (plc (mv a b rs) i)) _ fun i hi => by
      show sg1 i * ksg _ = sg1 i * isg _
      rw [e i hi]]
    exact h2
  · refine zc_inj (K := K) ?_
    rw [hN i (by omega), zc_0]
    exact h3 i hi
  · have := hN (nAt a b rs) (by omega)
    rw [g, zc_0] at this
    exact this.symm
theorem cN_le {α : Type} {p q : α → Prop} : ∀ {rs : List α}, (∀ r, r ∈ rs → p r → q r) → cN p rs ≤ cN q rs
  | [], _ => Nat.le_refl 0
  | r :: rs, h => by
    have ih := cN_le (p := p) (q := q) (rs := rs) fun s hs => h s (List.mem_cons_of_mem _ hs)
    rcases Classical.em (p r) with g | g
    · rw [cN_pos g, cN_pos (h r List.mem_cons_self g)]
      omega
    · rw [cN_not g]
      rcases Classical.em (q r) with g2 | g2
      · rw [cN_pos g2]; omega
      · rw [cN_not g2]; exact ih
theorem cN_map {α β : Type} {p : β → Prop} {f : α → β} : ∀ rs : List α, cN p (rs.map f) = cN (fun r => p (f r)) rs
  | [] => rfl
  | r :: rs => by
    rcases Classical.em (p (f r)) with g | g
    · show cN p (f r :: rs.map f) = _
      rw [cN_pos g, cN_pos (p := fun r => p (f r)) g, cN_map rs]
    · show cN p (f r :: rs.map f) = _
      rw [cN_not g, cN_not (p := fun r => p (f r)) g, cN_map rs]
theorem cN_all {α : Type} {p : α → Prop} : ∀ {rs : List α}, (∀ r, r ∈ rs → p r) → cN p rs = rs.length
  | [], _ => rfl
  | r :: rs, h => by
    rw [cN_pos (h r List.mem_cons_self), cN_all fun s hs => h s (List.mem_cons_of_mem _ hs)]
    rfl
theorem cN_none {α : Type} {p : α → Prop} : ∀ {rs : List α}, (∀ r, r ∈ rs → ¬ p r) → cN p rs = 0
  | [], _ => rfl
  | r :: rs, h => by
    rw [cN_not (h r List.mem_cons_self), cN_none fun s hs => h s (List.mem_cons_of_mem _ hs)]
theorem nLo_mono {K : Type} [Lean.Grind.Field K] [LE K] [LT K] [Std.LawfulOrderLT K] [Std.IsLinearOrder K] [Lean.Grind.OrderedRing K] {a c b : Int} {rs : List K} (h : a ≤ c) : nLo a b rs ≤ nLo c b rs := by
  unfold nLo mv
  rw [cN_map, cN_map]
  refine cN_le fun r _ hr => ?_
  have := (zc_le (K := K)).mpr h
  grind
theorem zc_601 {R : Type} [Lean.Grind.CommRing R] : (zc 601 : R) = 601 := Lean.Grind.Ring.intCast_ofNat 601
theorem nLo_top {K : Type} [Lean.Grind.Field K] [LE K] [LT K] [Std.LawfulOrderLT K] [Std.IsLinearOrder K] [Lean.Grind.OrderedRing K] {b : Int} {rs : List K} (hb : 0 < b) (hr : ∀ r, r ∈ rs → -600 ≤ r ∧ r ≤ 600) : nLo (601 * b) b rs = rs.length := by
  unfold nLo mv
  rw [cN_map]
  refine cN_all fun r h => ?_
  have h1 := (hr r h).2
  have h2 : (0 : K) < zc b := by
    rw [← zc_0]
    exact zc_lt.mpr hb
  have h3 := k_nn (a := 600 - r) (b := (zc b : K)) (by grind) (by grind)
  rw [zc_mul, zc_601]
  grind
theorem nLo_bot {K : Type} [Lean.Grind.Field K] [LE K] [LT K] [Std.LawfulOrderLT K] [Std.IsLinearOrder K] [Lean.Grind.OrderedRing K] {b : Int} {rs : List K} (hb : 0 < b) (hr : ∀ r, r ∈ rs → -600 ≤ r ∧ r ≤ 600) : nLo (-601 * b) b rs = 0 := by
  unfold nLo mv
  rw [cN_map]
  refine cN_none fun r h g => ?_
  have h1 := (hr r h).1
  have h2 : (0 : K) < zc b := by
    rw [← zc_0]
    exact zc_lt.mpr hb
  have h3 := k_nn (a := 600 + r) (b := (zc b : K)) (by grind) (by grind)
  rw [zc_mul, show (-601 : Int) = -(601 : Int) from rfl, zc_neg, zc_601] at g
  grind
