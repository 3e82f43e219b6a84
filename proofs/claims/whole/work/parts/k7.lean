/-! A table's polynomial is a product of lines over an ordered field. -/
def zc {R : Type} [Lean.Grind.CommRing R] (z : Int) : R := @Int.cast R Lean.Grind.Ring.intCast z
theorem zc_add {R : Type} [Lean.Grind.CommRing R] (a b : Int) : (zc (a + b) : R) = zc a + zc b := Lean.Grind.Ring.intCast_add a b
theorem zc_sub {R : Type} [Lean.Grind.CommRing R] (a b : Int) : (zc (a - b) : R) = zc a - zc b := Lean.Grind.Ring.intCast_sub a b
theorem zc_mul {R : Type} [Lean.Grind.CommRing R] (a b : Int) : (zc (a * b) : R) = zc a * zc b := Lean.Grind.Ring.intCast_mul a b
theorem zc_neg {R : Type} [Lean.Grind.CommRing R] (a : Int) : (zc (-a) : R) = -(zc a) := Lean.Grind.Ring.intCast_neg a
theorem zc_0 {R : Type} [Lean.Grind.CommRing R] : (zc 0 : R) = 0 := Lean.Grind.Ring.intCast_zero
theorem zc_1 {R : Type} [Lean.Grind.CommRing R] : (zc 1 : R) = 1 := Lean.Grind.Ring.intCast_one
theorem zc_600 {R : Type} [Lean.Grind.CommRing R] : (zc 600 : R) = 600 := Lean.Grind.Ring.intCast_ofNat 600
theorem zc_kn {R : Type} [Lean.Grind.CommRing R] : ∀ n : Nat, (kn n : R) = zc (n : Int)
  | 0 => zc_0.symm
  | n + 1 => by
    show kn n + 1 = zc ((n + 1 : Nat) : Int)
    rw [zc_kn n, show ((n + 1 : Nat) : Int) = (n : Int) + 1 by omega, zc_add, zc_1]
theorem zc_le {K : Type} [Lean.Grind.Field K] [LE K] [LT K] [Std.LawfulOrderLT K] [Std.IsLinearOrder K] [Lean.Grind.OrderedRing K] {a b : Int} : (zc a : K) ≤ zc b ↔ a ≤ b := by
  refine ⟨fun h => Lean.Grind.OrderedRing.le_of_intCast_le_intCast a b h, fun h => ?_⟩
  have h1 : (0 : K) ≤ zc (b - a) := Lean.Grind.OrderedRing.nonneg_intCast_of_nonneg (R := K) (b - a) (by omega)
  rw [zc_sub] at h1
  grind
theorem zc_inj {K : Type} [Lean.Grind.Field K] [LE K] [LT K] [Std.LawfulOrderLT K] [Std.IsLinearOrder K] [Lean.Grind.OrderedRing K] {a b : Int} (h : (zc a : K) = zc b) : a = b := by
  have h1 := (zc_le (K := K) (a := a) (b := b)).mp (by grind)
  have h2 := (zc_le (K := K) (a := b) (b := a)).mp (by grind)
  omega
theorem zc_lt {K : Type} [Lean.Grind.Field K] [LE K] [LT K] [Std.LawfulOrderLT K] [Std.IsLinearOrder K] [Lean.Grind.OrderedRing K] {a b : Int} : (zc a : K) < zc b ↔ a < b := by
  have h1 := zc_le (K := K) (a := b) (b := a)
  refine ⟨fun h => ?_, fun h => ?_⟩
  · refine Classical.byContradiction fun g => ?_
    have := h1.mpr (by omega)
    grind
  · refine Classical.byContradiction fun g => ?_
    have := h1.mp (by grind)
    omega
theorem zc_sm {R : Type} [Lean.Grind.CommRing R] {f : Nat → Int} : ∀ n, (zc (sm n f) : R) = ks n fun j => zc (f j)
  | 0 => zc_0
  | n + 1 => by rw [sm_succ, zc_add, zc_sm n, ks_succ]
theorem tU_none : ∀ (m k : Nat) {F : (Nat → Nat) → Int}, m < k → tU m k F = 0
  | 0, k + 1, F, _ => rfl
  | m + 1, k + 1, F, h => by
    show tU m (k + 1) F + tU m k _ = 0
    rw [tU_none m (k + 1) (by omega), tU_none m k (by omega)]
    rfl
section TB
variable {n : Nat} {T : Nat → Nat → Int}
theorem le_cols : ∀ i k, i < n → k < n → T i k = sm n fun e => (fun e i => T i e) e i * (fun e k => if e = k then (1 : Int) else 0) e k := fun i k _ hk => by
  have h := sm_unit (f := fun e => T i e) (e := k) n
  rw [if_pos hk] at h
  rw [← h]
  exact sm_eq n fun e _ => Int.mul_comm _ _
/-- the divisions of the steps leave no rest -/
theorem le_ex (r : Nat) : mxTr n (mxM n T (leB n T r)) = -(((r : Int) + 1) * leC n T (leB n T r) r) := by
  obtain ⟨h1, h2⟩ := le_cof2 (r := r) (le_cols (n := n) (T := T)) (le_all2 (le_cols (n := n) (T := T)) r)
  rw [h1, h2]
  show _ = -(((r : Int) + 1) * (-(sg1 r) * _))
  grind
theorem le_end {r : Nat} (h : n ≤ r) : leC n T (leB n T r) r = 0 := by
  obtain ⟨h1, h2⟩ := le_cof2 (r := r) (le_cols (n := n) (T := T)) (le_all2 (le_cols (n := n) (T := T)) r)
  rw [h2, tU_none n (r + 1) (by omega), Int.mul_zero]
theorem le_tr1 (r : Nat) : mxTr n (leB n T (r + 1)) = ((n : Int) - ((r : Int) + 1)) * leC n T (leB n T r) r := by
  have e : mxTr n (leB n T (r + 1)) = mxTr n (mxM n T (leB n T r)) + (n : Int) * leC n T (leB n T r) r := by
    show sm n (fun i => mxM n T (leB n T r) i i + if i = i then leC n T (leB n T r) r else 0) = _
    rw [sm_add, sm_eq (f := fun i => if i = i then leC n T (leB n T r) r else 0) (g := fun _ => leC n T (leB n T r) r) n fun i _ => if_pos rfl, sm_const]
    rfl
  rw [e, le_ex]
  grind
def leD {K : Type} [Lean.Grind.Field K] (n : Nat) (T : Nat → Nat → Int) (r i j : Nat) : K := zc (leB n T r i j)
theorem leD_0 {K : Type} [Lean.Grind.Field K] {i j : Nat} : (leD n T 0 i j : K) = kid i j := by
  show zc (if i = j then 1 else 0) = if i = j then (1 : K) else 0
  by_cases g : i = j
  · rw [if_pos g, if_pos g, zc_1]
  · rw [if_neg g, if_neg g, zc_0]
theorem leD_s {K : Type} [Lean.Grind.Field K] {r i j : Nat} : (leD n T (r + 1) i j : K) = kmx n (fun i j => zc (T i j)) (leD n T r) i j + zc (leC n T (leB n T r) r) * kid i j := by
  show zc (mxM n T (leB n T r) i j + if i = j then leC n T (leB n T r) r else 0) = _
  have e1 : (zc (mxM n T (leB n T r) i j) : K) = kmx n (fun i j => zc (T i j)) (leD n T r) i j := by
    show zc (sm n fun l => T i l * leB n T r l j) = _
    rw [zc_sm]
    exact ks_eq n fun l _ => zc_mul _ _
  rw [zc_add, e1]
  congr 1
  unfold kid
  by_cases g : i = j
  · rw [if_pos g, if_pos g]; grind
  · rw [if_neg g, if_neg g, zc_0]; grind
theorem kin_id {R : Type} [Lean.Grind.CommRing R] {A : Nat → Nat → R} : kin n kid A = ks n fun i => A i i := ks_eq n fun i hi => by
  have h := ks_unit (R := R) (f := fun j => A i j) (e := i) n
  rw [if_pos hi] at h
  rw [← h]
  refine ks_eq n fun j _ => ?_
  unfold kid
  by_cases g : i = j
  · rw [if_pos g, if_pos g.symm]; grind
  · rw [if_neg g, if_neg fun e => g e.symm]; grind
theorem leD_tr {K : Type} [Lean.Grind.Field K] (r : Nat) : ks n (fun i => (leD n T r i i : K)) = zc (mxTr n (leB n T r)) := by
  show _ = zc (sm n fun i => leB n T r i i)
  rw [zc_sm]
  rfl
theorem le_tr0 {r : Nat} (h : n ≤ r) (hn : 1 ≤ n) : mxTr n (leB n T r) = 0 := by
  obtain ⟨r, rfl⟩ : ∃ q, r = q + 1 := ⟨r - 1, by omega⟩
  rw [le_tr1]
  by_cases g : n = r + 1
  · rw [show (n : Int) - ((r : Int) + 1) = 0 by omega, Int.zero_mul]
  · rw [le_end (by omega), Int.mul_zero]
/-- the last step's table is empty -/
theorem leD_n {K : Type} [Lean.Grind.Field K] [LE K] [LT K] [Std.LawfulOrderLT K] [Std.IsLinearOrder K] [Lean.Grind.OrderedRing K] (hn : 1 ≤ n) (hs : ∀ i j, i < n → j < n → T i j = T j i) : ∀ i j, i < n → j < n → (leD n T n i j : K) = 0 := by
  have hT : ∀ i j, i < n → j < n → (zc (T i j) : K) = zc (T j i) := fun i j hi hj => by rw [hs i j hi hj]
  have key : ∀ r j, kin n (leD n T r) (leD n T (n + j) : Nat → Nat → K) = 0 := fun r => by
    induction r with
    | zero =>
      intro j
      rw [kin_eq (C := kid) (fun _ _ _ _ => leD_0) fun _ _ _ _ => rfl, kin_id, leD_tr, le_tr0 (by omega) hn, zc_0]
    | succ r ih =>
      intro j
      have e1 : kin n (leD n T (r + 1)) (leD n T (n + j) : Nat → Nat → K) = 1 * kin n (kmx n (fun i j => zc (T i j)) (leD n T r)) (leD n T (n + j)) + zc (leC n T (leB n T r) r) * kin n kid (leD n T (n + j)) + 0 * kin n kid (leD n T (n + j)) := kin_lin fun a b _ _ => by
        rw [leD_s]
        grind
      have e2 : kin n (leD n T r) (kmx n (fun i j => zc (T i j)) (leD n T (n + j) : Nat → Nat → K)) = kin n (leD n T r) (leD n T (n + (j + 1))) := kin_eq (fun _ _ _ _ => rfl) fun a b _ _ => by
        rw [← Nat.add_assoc, leD_s, le_end (by omega), zc_0]
        grind
      rw [e1, kin_sa hT, e2, ih (j + 1), kin_id, leD_tr, le_tr0 (by omega) hn, zc_0]
      grind
  exact kin_nz (key n 0)
def leK (n : Nat) (T : Nat → Nat → Int) : Nat → Int
  | 0 => 1
  | r + 1 => leC n T (leB n T r) r
theorem leP_K {j : Nat} (hn : 1 ≤ n) (h : j ≤ n) : leP n T j = leK n T (n - j) := by
  unfold leP
  by_cases g : j = n
  · rw [if_pos g, g, Nat.sub_self]
    rfl
  · rw [if_neg g]
    obtain ⟨r, hr⟩ : ∃ r, n - j = r + 1 := ⟨n - j - 1, by omega⟩
    rw [hr, show n - 1 - j = r by omega]
    rfl
/-- from the greatest power on -/
def hor {R : Type} [Lean.Grind.CommRing R] (e : Nat → R) (x : R) : Nat → R
  | 0 => e 0
  | r + 1 => x * hor e x r + e (r + 1)
theorem hor_pe {R : Type} [Lean.Grind.CommRing R] {e : Nat → R} {x : R} : ∀ r, hor e x r = pe (r + 1) (fun j => e (r - j)) x
  | 0 => by
    show e 0 = e 0 + x * 0
    grind
  | r + 1 => by
    rw [pe_succ]
    have : pe (r + 1) (fun i => e (r + 1 - (i + 1))) x = pe (r + 1) (fun j => e (r - j)) x := pe_eq _ fun i _ => by
      rw [show r + 1 - (i + 1) = r - i by omega]
    rw [this, ← hor_pe r]
    show x * hor e x r + e (r + 1) = e (r + 1) + _
    grind
def leX {K : Type} [Lean.Grind.Field K] (n : Nat) (T : Nat → Nat → Int) (x : K) : Nat → Nat → Nat → K
  | 0 => leD n T 0
  | r + 1 => fun i j => x * leX n T x r i j + leD n T (r + 1) i j
theorem leX_mul {K : Type} [Lean.Grind.Field K] {x : K} {i j : Nat} : ∀ r, x * leX n T x r i j - kmx n (fun i j => zc (T i j)) (leX n T x r) i j = hor (fun r => zc (leK n T r)) x (r + 1) * kid i j - leD n T (r + 1) i j
  | 0 => by
    rw [leD_s]
    have h0 : (leD n T 0 i j : K) = kid i j := leD_0
    show x * leD n T 0 i j - kmx n _ (leD n T 0) i j = (x * zc (leK n T 0) + zc (leK n T 1)) * kid i j - _
    rw [h0, show leK n T 0 = 1 from rfl, zc_1]
    show _ = (x * 1 + zc (leC n T (leB n T 0) 0)) * kid i j - _
    grind
  | r + 1 => by
    have h := leX_mul (x := x) (i := i) (j := j) r
    have e1 : kmx n (fun i j => zc (T i j)) (leX n T x (r + 1)) i j = x * kmx n (fun i j => zc (T i j)) (leX n T x r) i j + 1 * kmx n (fun i j => zc (T i j)) (leD n T (r + 1)) i j + 0 * kmx n (fun i j => zc (T i j)) (leD n T (r + 1)) i j := kmx_lin fun l _ => by
      show x * leX n T x r l j + leD n T (r + 1) l j = _
      grind
    rw [e1, leD_s (r := r + 1)]
    show x * (x * leX n T x r i j + leD n T (r + 1) i j) - _ = (x * hor _ x (r + 1) + zc (leK n T (r + 2))) * kid i j - _
    show _ = (_ + zc (leC n T (leB n T (r + 1)) (r + 1))) * kid i j - _
    grind
theorem leX_tr {K : Type} [Lean.Grind.Field K] (hn : 1 ≤ n) {x : K} : ∀ r, ks n (fun i => leX n T x r i i) = hor (fun r => zc (((n : Int) - (r : Int)) * leK n T r)) x r
  | 0 => by
    show ks n (fun i => leD n T 0 i i) = zc (((n : Int) - ((0 : Nat) : Int)) * 1)
    rw [leD_tr]
    congr 1
    show sm n (fun i => if i = i then (1 : Int) else 0) = _
    rw [sm_eq (g := fun _ => (1 : Int)) n fun i _ => if_pos rfl, sm_const]
    omega
  | r + 1 => by
    have e : ks n (fun i => leX n T x (r + 1) i i) = x * ks n (fun i => leX n T x r i i) + ks n fun i => leD n T (r + 1) i i := by
      rw [← ks_mul, ← ks_add]
      rfl
    rw [e, leX_tr hn r, leD_tr, le_tr1]
    rfl
/-- a polynomial that is a product of lines between -600 and 600 -/
def spK (K : Type) [Lean.Grind.Field K] [LE K] (u : Nat → Int) (rs : List K) : Prop := (∀ r, r ∈ rs → -600 ≤ r ∧ r ≤ 600) ∧ ∀ x, pe (rs.length + 1) (fun i => zc (u i)) x = pl rs x
theorem kmax {K : Type} [Lean.Grind.Field K] [LE K] [LT K] [Std.LawfulOrderLT K] [Std.IsLinearOrder K] [Lean.Grind.OrderedRing K] (v : Nat → K) : ∀ n, ∃ M : K, 0 ≤ M ∧ (∀ i, i < n → -M ≤ v i ∧ v i ≤ M) ∧ (1 ≤ n → ∃ i, i < n ∧ (v i = M ∨ v i = -M))
  | 0 => ⟨0, by grind, fun i hi => by omega, fun h => by omega⟩
  | n + 1 => by
    obtain ⟨M, h1, h2, h3⟩ := kmax v n
    obtain ⟨N, n0, n1⟩ : ∃ N : K, 0 ≤ N ∧ (v n = N ∨ v n = -N) := by
      rcases Std.le_total (a := (0 : K)) (b := v n) with g | g
      · exact ⟨v n, g, Or.inl rfl⟩
      · exact ⟨-(v n), by grind, Or.inr (by grind)⟩
    rcases Std.le_total (a := M) (b := N) with g | g
    · refine ⟨N, n0, fun i hi => ?_, fun _ => ⟨n, by omega, n1⟩⟩
      by_cases e : i = n
      · rw [e]; grind
      · have := h2 i (by omega)
        grind
    · by_cases e0 : n = 0
      · subst e0
        refine ⟨N, n0, fun i hi => ?_, fun _ => ⟨0, by omega, n1⟩⟩
        obtain rfl : i = 0 := by omega
        grind
      · obtain ⟨i, i1, i2⟩ := h3 (by omega)
        refine ⟨M, h1, fun j hj => ?_, fun _ => ⟨i, by omega, i2⟩⟩
        by_cases e : j = n
        · rw [e]; grind
        · exact h2 j (by omega)
theorem ks_bd {K : Type} [Lean.Grind.Field K] [LE K] [LT K] [Std.LawfulOrderLT K] [Std.IsLinearOrder K] [Lean.Grind.OrderedRing K] {f : Nat → K} {B : K} : ∀ n, (∀ j, j < n → -B ≤ f j ∧ f j ≤ B) → -(kn n * B) ≤ ks n f ∧ ks n f ≤ kn n * B
  | 0, _ => by
    show -((0 : K) * B) ≤ 0 ∧ (0 : K) ≤ 0 * B
    grind
  | n + 1, h => by
    have h1 := ks_bd n fun j hj => h j (by omega)
    have h2 := h n (by omega)
    rw [ks_succ]
    show -((kn n + 1) * B) ≤ _ ∧ _ ≤ (kn n + 1) * B
    grind
theorem tb_near {K : Type} [Lean.Grind.Field K] [LE K] [LT K] [Std.LawfulOrderLT K] [Std.IsLinearOrder K] [Lean.Grind.OrderedRing K] {C : Nat → Nat → K} {r : K} {i j : Nat} (h6 : n ≤ 6) (hT : ∀ i k, i < n → k < n → -100 ≤ T i k ∧ T i k ≤ 100) (hC : ∀ i j, i < n → j < n → r * C i j = kmx n (fun i j => zc (T i j)) C i j) (hi : i < n) (hj : j < n) (h : C i j ≠ 0) : -600 ≤ r ∧ r ≤ 600 := by
  obtain ⟨M, m0, m1, m2⟩ := kmax (fun i => C i j) n
  obtain ⟨l, l1, l2⟩ := m2 (by omega)
  have mp : 0 < M := by
    have := m1 i hi
    grind
  have hb := ks_bd (B := 100 * M) (f := fun q => zc (T l q) * C q j) n fun q hq => by
    have t := hT l q l1 hq
    have t1 := (zc_le (K := K) (a := -100) (b := T l q)).mpr t.1
    have t2 := (zc_le (K := K) (a := T l q) (b := 100)).mpr t.2
    have e100 : (zc 100 : K) = 100 := Lean.Grind.Ring.intCast_ofNat 100
    rw [show (-100 : Int) = -(100 : Int) from rfl, zc_neg, e100] at t1
    rw [e100] at t2
    exact k_mul t1 t2 (m1 q hq).1 (m1 q hq).2
  have hc := hC l j l1 hj
  have hk : (kn n : K) * (100 * M) ≤ 600 * M := by
    have h1 := (zc_le (K := K) (a := (n : Int)) (b := 6)).mpr (by omega)
    rw [← zc_kn, show (zc 6 : K) = 6 from Lean.Grind.Ring.intCast_ofNat 6] at h1
    have h2 := Lean.Grind.OrderedRing.mul_le_mul_of_nonneg_right (c := 100 * M) h1 (by grind)
    grind
  have hc2 : r * C l j = ks n fun q => zc (T l q) * C q j := hc
  rw [← hc2] at hb
  have hl : C l j = M ∨ C l j = -M := l2
  refine ⟨?_, ?_⟩
  · refine Classical.byContradiction fun g => ?_
    have := k_pp (a := -600 - r) (b := M) (by grind) mp
    rcases hl with e | e <;> rw [e] at hb <;> grind
  · refine Classical.byContradiction fun g => ?_
    have := k_pp (a := r - 600) (b := M) (by grind) mp
    rcases hl with e | e <;> rw [e] at hb <;> grind
theorem tb_spl {K : Type} [Lean.Grind.Field K] [LE K] [LT K] [Std.LawfulOrderLT K] [Std.IsLinearOrder K] [Lean.Grind.OrderedRing K] (iv : ivP K) (hn : 1 ≤ n) (h6 : n ≤ 6) (hT : ∀ i k, i < n → k < n → -100 ≤ T i k ∧ T i k ≤ 100) (hs : ∀ i j, i < n → j < n → T i j = T j i) : ∃ rs : List K, rs.length = n ∧ spK K (leP n T) rs := by
  have hK : ∀ i j, i < n → j < n → (zc (T i j) : K) = zc (T j i) := fun i j hi hj => by rw [hs i j hi hj]
  obtain ⟨rs, C, _, c1, c2, c3⟩ := lz_all iv (T := fun i j => zc (T i j)) (D := leD n T) (c := fun r => zc (leC n T (leB n T r) r)) hn hK (fun _ _ _ _ => leD_0) (fun r i j _ _ => leD_s) (leD_n hn hs)
  obtain ⟨m, rfl⟩ : ∃ m, n = m + 1 := ⟨n - 1, by omega⟩
  have hp : ∀ x : K, pe (m + 1 + 1) (fun i => zc (leP (m + 1) T i)) x = hor (fun r => zc (leK (m + 1) T r)) x (m + 1) := fun x => by
    rw [hor_pe]
    exact pe_eq _ fun i hi => by rw [leP_K hn (by omega)]
  have hd : ∀ x : K, pe (m + 1) (dv fun i => zc (leP (m + 1) T i)) x = ks (m + 1) fun i => leX (m + 1) T x m i i := fun x => by
    rw [leX_tr hn, hor_pe]
    refine pe_eq _ fun i hi => ?_
    show kn (i + 1) * zc (leP (m + 1) T (i + 1)) = zc ((((m + 1 : Nat) : Int) - ((m - i : Nat) : Int)) * leK (m + 1) T (m - i))
    rw [zc_kn, ← zc_mul, leP_K hn (by omega), show m + 1 - (i + 1) = m - i by omega, show ((i + 1 : Nat) : Int) = ((m + 1 : Nat) : Int) - ((m - i : Nat) : Int) by omega]
  have hx : ∀ (x : K) i j, i < m + 1 → j < m + 1 → x * leX (m + 1) T x m i j - kmx (m + 1) (fun i j => zc (T i j)) (leX (m + 1) T x m) i j = hor (fun r => zc (leK (m + 1) T r)) x (m + 1) * kid i j := fun x i j hi hj => by
    rw [leX_mul, leD_n hn hs i j hi hj]
    grind
  have hq : ∀ x : K, pe (m + 1) (dv fun i => zc (leP (m + 1) T i)) x * pl rs x = pe (m + 1 + 1) (fun i => zc (leP (m + 1) T i)) x * ks (m + 1) fun i => C x i i := fun x => by
    rw [hd, hp, ← kin_id, ← kin_id]
    have e1 : kin (m + 1) (fun i j => pl rs x * kid i j) (leX (m + 1) T x m) = x * kin (m + 1) (C x) (leX (m + 1) T x m) + -1 * kin (m + 1) (kmx (m + 1) (fun i j => zc (T i j)) (C x)) (leX (m + 1) T x m) + 0 * kin (m + 1) (C x) (leX (m + 1) T x m) := kin_lin fun i j hi hj => by
      have := c1 x i j hi hj
      grind
    have e2 : kin (m + 1) (fun i j => hor (fun r => zc (leK (m + 1) T r)) x (m + 1) * kid i j) (C x) = x * kin (m + 1) (leX (m + 1) T x m) (C x) + -1 * kin (m + 1) (kmx (m + 1) (fun i j => zc (T i j)) (leX (m + 1) T x m)) (C x) + 0 * kin (m + 1) (leX (m + 1) T x m) (C x) := kin_lin fun i j hi hj => by
      have := hx x i j hi hj
      grind
    rw [kin_mul] at e1 e2
    rw [kin_sa hK, kin_comm (A := C x), kin_comm (A := C x)] at e1
    grind
  obtain ⟨qs, q1, q2, q3⟩ := spl (m + 1) (c := fun i => zc (leP (m + 1) T i)) (rs := rs) (by
    show zc (leP (m + 1) T (m + 1)) = (1 : K)
    rw [show leP (m + 1) T (m + 1) = 1 from if_pos rfl, zc_1]) c2 hq
  refine ⟨qs, q1, fun r hr => ?_, fun x => by rw [q1]; exact q2 x⟩
  obtain ⟨i, j, hi, hj, hne⟩ := c3 r
  refine tb_near h6 hT (fun i j hi hj => ?_) hi hj hne
  have h1 := c1 r i j hi hj
  rw [pl_root (q3 r hr)] at h1
  grind
end TB
