/-! Sums over roots; the rows of rests of a polynomial and its slope, by determinants. -/
def ls {R : Type} [Lean.Grind.CommRing R] (f : R → R) : List R → R
  | [] => 0
  | r :: rs => f r + ls f rs
def dplc {R : Type} [Lean.Grind.CommRing R] (f : R → R) : List R → Nat → R
  | [], _ => 0
  | r :: rs, i => f r * plc rs i + (su (dplc f rs) i - r * dplc f rs i)
theorem ls_eq {R : Type} [Lean.Grind.CommRing R] {f g : R → R} : ∀ {rs : List R}, (∀ r, r ∈ rs → f r = g r) → ls f rs = ls g rs
  | [], _ => rfl
  | r :: rs, h => by
    show f r + ls f rs = g r + ls g rs
    rw [h r List.mem_cons_self, ls_eq fun q hq => h q (List.mem_cons_of_mem _ hq)]
theorem ls_lin {R : Type} [Lean.Grind.CommRing R] {f g : R → R} {a b : R} : ∀ {rs : List R}, ls (fun r => a * f r + b * g r) rs = a * ls f rs + b * ls g rs
  | [] => by
    show (0 : R) = a * 0 + b * 0
    grind
  | r :: rs => by
    show a * f r + b * g r + ls _ rs = a * (f r + ls f rs) + b * (g r + ls g rs)
    rw [ls_lin]
    grind
theorem ls_ks {R : Type} [Lean.Grind.CommRing R] {f : Nat → R → R} {rs : List R} : ∀ n, ls (fun r => ks n fun l => f l r) rs = ks n fun l => ls (f l) rs
  | 0 => by
    have h := ls_lin (f := fun _ : R => (0 : R)) (g := fun _ => 0) (a := 0) (b := 0) (rs := rs)
    have e : ls (fun r => ks 0 fun l => f l r) rs = ls (fun _ => (0 : R) * 0 + 0 * 0) rs := ls_eq fun r _ => by
      show (0 : R) = 0 * 0 + 0 * 0
      grind
    rw [e, h]
    show (0 : R) * _ + 0 * _ = 0
    grind
  | n + 1 => by
    have h := ls_lin (f := fun r => ks n fun l => f l r) (g := fun r => f n r) (a := 1) (b := 1) (rs := rs)
    have e : ls (fun r => ks (n + 1) fun l => f l r) rs = ls (fun r => 1 * (ks n fun l => f l r) + 1 * f n r) rs := ls_eq fun r _ => by
      rw [ks_succ]
      grind
    rw [e, h, ls_ks n, ks_succ]
    grind
theorem ls_pe {R : Type} [Lean.Grind.CommRing R] {rs : List R} {n : Nat} {c : Nat → R} {f : R → R} : ls (fun r => pe n c r * f r) rs = ks n fun l => c l * ls (fun r => r ^ l * f r) rs := by
  have e : ls (fun r => pe n c r * f r) rs = ls (fun r => ks n fun l => c l * (r ^ l * f r)) rs := ls_eq fun r _ => by
    rw [pe_ks]
    have : ks n (fun i => c i * r ^ i) * f r = f r * ks n (fun i => c i * r ^ i) := by grind
    rw [this, ← ks_mul]
    exact ks_eq n fun l _ => by grind
  rw [e, ls_ks]
  refine ks_eq n fun l _ => ?_
  have h := ls_lin (f := fun r => r ^ l * f r) (g := fun _ => 0) (a := c l) (b := 0) (rs := rs)
  have e2 : ls (fun r => c l * (r ^ l * f r)) rs = ls (fun r => c l * (r ^ l * f r) + 0 * 0) rs := ls_eq fun r _ => by grind
  rw [e2, h]
  grind
theorem dplc_eq {R : Type} [Lean.Grind.CommRing R] {f g : R → R} : ∀ {rs : List R} {i : Nat}, (∀ r, r ∈ rs → f r = g r) → dplc f rs i = dplc g rs i
  | [], _, _ => rfl
  | r :: rs, i, h => by
    show f r * plc rs i + (su (dplc f rs) i - r * dplc f rs i) = g r * plc rs i + (su (dplc g rs) i - r * dplc g rs i)
    have e : ∀ i, dplc f rs i = dplc g rs i := fun i => dplc_eq fun q hq => h q (List.mem_cons_of_mem _ hq)
    rw [h r List.mem_cons_self, e i, show dplc f rs = dplc g rs from funext e]
theorem dplc_lin {R : Type} [Lean.Grind.CommRing R] {f g : R → R} {a b : R} : ∀ {rs : List R} {i : Nat}, dplc (fun r => a * f r + b * g r) rs i = a * dplc f rs i + b * dplc g rs i
  | [], _ => by
    show (0 : R) = a * 0 + b * 0
    grind
  | r :: rs, 0 => by
    show (a * f r + b * g r) * plc rs 0 + (0 - r * dplc _ rs 0) = a * (f r * plc rs 0 + (0 - r * dplc f rs 0)) + b * (g r * plc rs 0 + (0 - r * dplc g rs 0))
    rw [dplc_lin]
    grind
  | r :: rs, i + 1 => by
    show (a * f r + b * g r) * plc rs (i + 1) + (dplc _ rs i - r * dplc _ rs (i + 1)) = a * (f r * plc rs (i + 1) + (dplc f rs i - r * dplc f rs (i + 1))) + b * (g r * plc rs (i + 1) + (dplc g rs i - r * dplc g rs (i + 1)))
    rw [dplc_lin, dplc_lin]
    grind
theorem dplc_0 {R : Type} [Lean.Grind.CommRing R] {rs : List R} {i : Nat} {f : R → R} (h : ∀ r, r ∈ rs → f r = 0) : dplc f rs i = 0 := by
  rw [dplc_eq (g := fun r => (0 : R) * f r + 0 * f r) fun r hr => by rw [h r hr]; grind, dplc_lin]
  grind
theorem dplc_ks {R : Type} [Lean.Grind.CommRing R] {f : Nat → R → R} {rs : List R} {i : Nat} {c : Nat → R} : ∀ n, dplc (fun r => ks n fun l => c l * f l r) rs i = ks n fun l => c l * dplc (f l) rs i
  | 0 => dplc_0 fun _ _ => rfl
  | n + 1 => by
    have h := dplc_lin (f := fun r => ks n fun l => c l * f l r) (g := f n) (a := 1) (b := c n) (rs := rs) (i := i)
    rw [dplc_eq (g := fun r => 1 * (ks n fun l => c l * f l r) + c n * f n r) fun r _ => by rw [ks_succ]; grind, h, dplc_ks n, ks_succ]
    grind
theorem dplc_out {R : Type} [Lean.Grind.CommRing R] {f : R → R} : ∀ {rs : List R} {i : Nat}, rs.length ≤ i → dplc f rs i = 0
  | [], _, _ => rfl
  | r :: rs, i, h => by
    have h2 : rs.length + 1 ≤ i := h
    obtain ⟨j, rfl⟩ : ∃ j, i = j + 1 := ⟨i - 1, by omega⟩
    show f r * plc rs (j + 1) + (dplc f rs j - r * dplc f rs (j + 1)) = 0
    rw [plc_out rs (j + 1) (by omega), dplc_out (by omega), dplc_out (by omega)]
    grind
theorem dplc_top {R : Type} [Lean.Grind.CommRing R] {f : R → R} : ∀ {rs : List R} {i : Nat}, rs.length = i + 1 → dplc f rs i = ls f rs
  | [], _, h => by
    have h2 : 0 = _ + 1 := h
    omega
  | r :: rs, i, h => by
    have h2 : rs.length = i := by
      have : rs.length + 1 = i + 1 := h
      omega
    show f r * plc rs i + (su (dplc f rs) i - r * dplc f rs i) = f r + ls f rs
    have e : su (dplc f rs) i = ls f rs := by
      cases i with
      | zero =>
        have : rs = [] := List.eq_nil_of_length_eq_zero h2
        rw [this]
        rfl
      | succ i => exact dplc_top h2
    rw [e, dplc_out (by omega), ← h2, plc_top]
    grind
theorem dplc_x {R : Type} [Lean.Grind.CommRing R] {f : R → R} : ∀ {rs : List R} (i : Nat), su (dplc f rs) i = dplc (fun r => r * f r) rs i + ls f rs * plc rs i
  | [], i => by
    show su (fun _ => (0 : R)) i = 0 + 0 * _
    cases i with
    | zero =>
      show (0 : R) = _
      grind
    | succ i =>
      show (0 : R) = _
      grind
  | r :: rs, 0 => by
    have h := dplc_x (f := f) (rs := rs) 0
    show (0 : R) = r * f r * plc rs 0 + (0 - r * dplc _ rs 0) + (f r + ls f rs) * (0 - r * plc rs 0)
    have h2 : (0 : R) = dplc (fun r => r * f r) rs 0 + ls f rs * plc rs 0 := h
    grind
  | r :: rs, i + 1 => by
    have h1 := dplc_x (f := f) (rs := rs) (i + 1)
    have h0 := dplc_x (f := f) (rs := rs) i
    have h2 : dplc f rs i = dplc (fun r => r * f r) rs (i + 1) + ls f rs * plc rs (i + 1) := h1
    show f r * plc rs i + (su (dplc f rs) i - r * dplc f rs i) = r * f r * plc rs (i + 1) + (dplc _ rs i - r * dplc _ rs (i + 1)) + (f r + ls f rs) * (plc rs i - r * plc rs (i + 1))
    rw [h0, h2]
    grind
theorem dplc_one {R : Type} [Lean.Grind.CommRing R] : ∀ {rs : List R} {i : Nat}, dplc (fun _ => 1) rs i = dv (plc rs) i
  | [], i => by
    show (0 : R) = kn (i + 1) * (if i + 1 = 0 then 1 else 0)
    rw [if_neg (by omega)]
    grind
  | r :: rs, 0 => by
    show 1 * plc rs 0 + (0 - r * dplc _ rs 0) = (0 + 1) * (plc rs 0 - r * plc rs 1)
    rw [dplc_one]
    show _ = _
    have : dv (plc rs) 0 = (0 + 1) * plc rs 1 := rfl
    grind
  | r :: rs, i + 1 => by
    show 1 * plc rs (i + 1) + (dplc _ rs i - r * dplc _ rs (i + 1)) = (kn (i + 1) + 1) * (plc rs (i + 1) - r * plc rs (i + 2))
    rw [dplc_one, dplc_one]
    have h1 : dv (plc rs) i = kn (i + 1) * plc rs (i + 1) := rfl
    have h2 : dv (plc rs) (i + 1) = (kn (i + 1) + 1) * plc rs (i + 2) := rfl
    grind
theorem ls_mom {R : Type} [Lean.Grind.CommRing R] {f : R → R} {rs : List R} {i : Nat} : ∀ k, (∀ t, t < k → ls (fun r => r ^ t * f r) rs = 0) → dplc f rs i = dplc (fun r => r ^ k * f r) rs (i + k)
  | 0, _ => dplc_eq fun r _ => by grind
  | k + 1, h => by
    rw [ls_mom k fun t ht => h t (by omega)]
    have h1 := dplc_x (f := fun r => r ^ k * f r) (rs := rs) (i + k + 1)
    rw [h k (by omega)] at h1
    have h2 : dplc (fun r => r ^ k * f r) rs (i + k) = dplc (fun r => r * (r ^ k * f r)) rs (i + k + 1) + 0 * plc rs (i + k + 1) := h1
    rw [h2, show i + (k + 1) = i + k + 1 by omega, dplc_eq (f := fun r => r ^ (k + 1) * f r) (g := fun r => r * (r ^ k * f r)) fun r _ => by grind]
    grind
theorem ls_sq {K : Type} [Lean.Grind.Field K] [LE K] [LT K] [Std.LawfulOrderLT K] [Std.IsLinearOrder K] [Lean.Grind.OrderedRing K] {f : K → K} : ∀ {rs : List K}, 0 ≤ ls (fun r => f r * f r) rs ∧ (ls (fun r => f r * f r) rs = 0 → ∀ r, r ∈ rs → f r = 0)
  | [] => ⟨by
    show (0 : K) ≤ 0
    grind, fun _ r h => by cases h⟩
  | q :: rs => by
    obtain ⟨h1, h2⟩ := ls_sq (f := f) (rs := rs)
    have h3 := k_sq (f q)
    refine ⟨?_, fun e r hr => ?_⟩
    · show 0 ≤ f q * f q + _
      grind
    · have e2 : f q * f q + ls (fun r => f r * f r) rs = 0 := e
      rcases List.mem_cons.mp hr with g | g
      · rw [g]
        have : f q * f q = 0 := by grind
        rcases Lean.Grind.Field.of_mul_eq_zero this with g | g <;> exact g
      · exact h2 (by grind) r g
/-- a polynomial across all powers below its number of places -/
theorem ls_orth {K : Type} [Lean.Grind.Field K] [LE K] [LT K] [Std.LawfulOrderLT K] [Std.IsLinearOrder K] [Lean.Grind.OrderedRing K] {rs : List K} {n : Nat} {e : Nat → K} (h : ∀ i, i < n → ls (fun r => r ^ i * pe n e r) rs = 0) : ∀ r, r ∈ rs → pe n e r = 0 := by
  refine (ls_sq (f := pe n e) (rs := rs)).2 ?_
  rw [ls_pe]
  exact ks_zero n fun l hl => by
    rw [h l hl]
    grind
section RK
variable {s : Nat → Int} {d : Nat} {u : Nat → Int}
/-- the rests of x^l times the slope -/
def rh (d : Nat) (u : Nat → Int) : Nat → Nat → Int
  | 0 => fun i => ((i : Int) + 1) * u (i + 1)
  | l + 1 => fun i => su (rh d u l) i - rh d u l (d - 1) * u i
def hk (s : Nat → Int) (k : Nat) : Int := dt k fun i c => s (i + c)
def vk (s : Nat → Int) (k l : Nat) : Int := if l ≤ k then sg1 k * dcf k (fun i c => s (i + c)) l else 0
def mk (s : Nat → Int) (k t : Nat) : Int := sm (k + 1) fun l => vk s k l * s (l + t)
theorem mk_row {k t : Nat} : mk s k t = sg1 k * sm (k + 1) fun j => s (t + j) * dcf k (fun i c => s (i + c)) j := by
  unfold mk
  rw [← sm_mul]
  refine sm_eq _ fun l hl => ?_
  unfold vk
  rw [if_pos (by omega), Nat.add_comm l t]
  grind
theorem mk_0 {k t : Nat} (h : t < k) : mk s k t = 0 := by
  rw [mk_row, dt_open0 (N := fun i c => s (i + c)) h, Int.mul_zero]
theorem vk_top {k : Nat} : vk s k k = hk s k := by
  unfold vk dcf
  rw [if_pos (Nat.le_refl k)]
  have e : dt k (fun i c => (fun i c => s (i + c)) i (dsk k c)) = hk s k := dt_congr k _ _ fun i c _ hc => by
    show s (i + dsk k c) = s (i + c)
    rw [show dsk k c = c from if_pos hc]
  rw [e]
  have := sg1_sq k
  grind
theorem mk_k {k : Nat} : mk s k k = hk s (k + 1) := by
  have h := dt_rot k (k + 1) (dco (fun j => s (k + j)) fun i c => s (i + c)) (by omega)
  rw [mk_row, ← dt_open, ← h]
  refine dt_congr _ _ _ fun i c hi _ => ?_
  unfold drt
  by_cases g : i < k
  · rw [if_pos g]
    rfl
  · rw [if_neg g, if_pos (by omega), show i = k by omega]
    rfl
theorem hk_0 : hk s 0 = 1 := rfl
theorem vk_out {k l : Nat} (h : k < l) : vk s k l = 0 := if_neg (by omega)
/-- the rests by determinants -/
def rk (d : Nat) (u s : Nat → Int) (k i : Nat) : Int := sm (k + 1) fun l => vk s k l * rh d u l i
section OVER
def sOf (d : Nat) (u : Nat → Int) (l : Nat) : Int := rh d u l (d - 1)
/-- u's numbers are those of the product of lines rs -/
def isP {K : Type} [Lean.Grind.Field K] (u : Nat → Int) (rs : List K) : Prop := ∀ i, i < rs.length + 1 → zc (u i) = plc rs i
theorem zc_su {R : Type} [Lean.Grind.CommRing R] {c : Nat → Int} : ∀ i, (zc (su c i) : R) = su (fun i => zc (c i)) i
  | 0 => zc_0
  | i + 1 => rfl
theorem rh_K {K : Type} [Lean.Grind.Field K] [LE K] [LT K] [Std.LawfulOrderLT K] [Std.IsLinearOrder K] [Lean.Grind.OrderedRing K] {rs : List K} (hu : isP u rs) (hd : rs.length = d) (h1 : 1 ≤ d) : ∀ l i, i < d → zc (rh d u l i) = dplc (fun r => r ^ l) rs i
  | 0, i, hi => by
    show zc (((i : Int) + 1) * u (i + 1)) = _
    rw [zc_mul, show ((i : Int) + 1) = ((i + 1 : Nat) : Int) by omega, ← zc_kn, hu (i + 1) (by omega), dplc_eq (g := fun _ => 1) fun r _ => by grind, dplc_one]
    rfl
  | l + 1, i, hi => by
    show zc (su (rh d u l) i - rh d u l (d - 1) * u i) = _
    rw [zc_sub, zc_mul, zc_su, rh_K hu hd h1 l (d - 1) (by omega), hu i (by omega), dplc_top (by omega)]
    have e : su (fun i => (zc (rh d u l i) : K)) i = su (dplc (fun r => r ^ l) rs) i := by
      cases i with
      | zero => rfl
      | succ i => exact rh_K hu hd h1 l i (by omega)
    rw [e, dplc_x, dplc_eq (f := fun r => r ^ (l + 1)) (g := fun r => r * r ^ l) fun r _ => by grind]
    grind
theorem sO_K {K : Type} [Lean.Grind.Field K] [LE K] [LT K] [Std.LawfulOrderLT K] [Std.IsLinearOrder K] [Lean.Grind.OrderedRing K] {rs : List K} (hu : isP u rs) (hd : rs.length = d) (h1 : 1 ≤ d) (l : Nat) : zc (sOf d u l) = ls (fun r => r ^ l) rs := by
  unfold sOf
  rw [rh_K hu hd h1 l (d - 1) (by omega), dplc_top (by omega)]
def vr {K : Type} [Lean.Grind.Field K] (s : Nat → Int) (k : Nat) (r : K) : K := pe (k + 1) (fun l => zc (vk s k l)) r
theorem mk_K {K : Type} [Lean.Grind.Field K] [LE K] [LT K] [Std.LawfulOrderLT K] [Std.IsLinearOrder K] [Lean.Grind.OrderedRing K] {rs : List K} (hs : ∀ l, zc (s l) = ls (fun r => r ^ l) rs) (k t : Nat) : zc (mk s k t) = ls (fun r => r ^ t * vr s k r) rs := by
  unfold mk
  have e : ls (fun r => r ^ t * vr s k r) rs = ls (fun r => pe (k + 1) (fun l => zc (vk s k l)) r * r ^ t) rs := ls_eq fun r _ => by
    show r ^ t * pe _ _ r = _
    grind
  rw [zc_sm, e, ls_pe]
  refine ks_eq _ fun l _ => ?_
  rw [zc_mul, hs]
  congr 1
  exact ls_eq fun r _ => by grind
theorem rk_K {K : Type} [Lean.Grind.Field K] [LE K] [LT K] [Std.LawfulOrderLT K] [Std.IsLinearOrder K] [Lean.Grind.OrderedRing K] {rs : List K} (hu : isP u rs) (hd : rs.length = d) (h1 : 1 ≤ d) {k i : Nat} (hi : i < d) : zc (rk d u s k i) = dplc (fun r => vr s k r) rs i := by
  unfold rk
  rw [zc_sm, dplc_eq (f := fun r => vr s k r) (g := fun r => ks (k + 1) fun l => zc (vk s k l) * r ^ l) fun r _ => pe_ks _, dplc_ks]
  refine ks_eq _ fun l _ => ?_
  rw [zc_mul, rh_K hu hd h1 l i hi]
theorem vr_more {K : Type} [Lean.Grind.Field K] {k n : Nat} {r : K} (h : k + 1 ≤ n) : pe n (fun l => zc (vk s k l)) r = vr s k r := by
  obtain ⟨j, rfl⟩ : ∃ j, n = k + 1 + j := ⟨n - (k + 1), by omega⟩
  exact pe_more j fun i h1 _ => by rw [vk_out (by omega), zc_0]
theorem pe_lin4 {R : Type} [Lean.Grind.CommRing R] (n : Nat) {c e f g : Nat → R} {x p q v w : R} : pe n (fun i => p * c i + q * e i + v * f i + w * g i) x = p * pe n c x + q * pe n e x + v * pe n f x + w * pe n g x := by
  rw [← pe_mul, ← pe_mul, ← pe_mul, ← pe_mul, ← pe_add, ← pe_add, ← pe_add]
/-- three of them hang together -/
theorem vr_three {K : Type} [Lean.Grind.Field K] [LE K] [LT K] [Std.LawfulOrderLT K] [Std.IsLinearOrder K] [Lean.Grind.OrderedRing K] {rs : List K} (hs : ∀ l, zc (s l) = ls (fun r => r ^ l) rs) (k : Nat) : ∀ r, r ∈ rs → zc (hk s (k + 1)) * zc (hk s (k + 1)) * vr s (k + 2) r = (zc (hk s (k + 1)) * zc (hk s (k + 2)) * r + zc (hk s (k + 2) * mk s k (k + 1) - hk s (k + 1) * mk s (k + 1) (k + 2))) * vr s (k + 1) r - zc (hk s (k + 2)) * zc (hk s (k + 2)) * vr s k r := fun r hr => by
  generalize hA : (zc (hk s (k + 1)) : K) = A
  generalize hB : (zc (hk s (k + 2)) : K) = B
  generalize hT : (zc (hk s (k + 2) * mk s k (k + 1) - hk s (k + 1) * mk s (k + 1) (k + 2)) : K) = T
  let e : Nat → K := fun l => A * B * su (fun l => zc (vk s (k + 1) l)) l + T * zc (vk s (k + 1) l) + -(B * B) * zc (vk s k l) + -(A * A) * zc (vk s (k + 2) l)
  have e0 : e (k + 2) = 0 := by
    show A * B * zc (vk s (k + 1) (k + 1)) + T * zc (vk s (k + 1) (k + 2)) + -(B * B) * zc (vk s k (k + 2)) + -(A * A) * zc (vk s (k + 2) (k + 2)) = 0
    rw [vk_top, vk_top, vk_out (k := k + 1) (l := k + 2) (by omega), vk_out (k := k) (l := k + 2) (by omega), zc_0, hA, hB]
    grind
  have ev : ∀ r, pe (k + 2) e r = A * B * (r * vr s (k + 1) r) + T * vr s (k + 1) r + -(B * B) * vr s k r + -(A * A) * vr s (k + 2) r := fun r => by
    have h1 : pe (k + 3) e r = pe (k + 2) e r := by
      rw [pe_top, e0]
      grind
    rw [← h1]
    refine (pe_lin4 (k + 3) (c := su fun l => zc (vk s (k + 1) l)) (e := fun l => zc (vk s (k + 1) l)) (f := fun l => zc (vk s k l)) (g := fun l => zc (vk s (k + 2) l))).trans ?_
    rw [pe_su, vr_more (by omega), vr_more (by omega), vr_more (by omega), vr_more (by omega)]
  have hm : ∀ i, ls (fun r => r ^ i * pe (k + 2) e r) rs = A * B * zc (mk s (k + 1) (i + 1)) + T * zc (mk s (k + 1) i) + -(B * B) * zc (mk s k i) + -(A * A) * zc (mk s (k + 2) i) := fun i => by
    rw [mk_K hs, mk_K hs, mk_K hs, mk_K hs]
    have e1 : ls (fun r => r ^ i * pe (k + 2) e r) rs = ls (fun r => 1 * (A * B * (r ^ (i + 1) * vr s (k + 1) r) + T * (r ^ i * vr s (k + 1) r)) + 1 * (-(B * B) * (r ^ i * vr s k r) + -(A * A) * (r ^ i * vr s (k + 2) r))) rs := ls_eq fun r _ => by
      rw [ev]
      grind
    rw [e1, ls_lin, ls_lin, ls_lin]
    grind
  have z := ls_orth (rs := rs) (n := k + 2) (e := e) (fun i hi => by
    rw [hm, mk_0 (k := k + 2) (t := i) hi, zc_0]
    by_cases g : i = k + 1
    · subst g
      have h1 : (zc (mk s (k + 1) (k + 1)) : K) = B := by rw [mk_k, hB]
      have h2 : T = B * zc (mk s k (k + 1)) - A * zc (mk s (k + 1) (k + 2)) := by rw [← hT, zc_sub, zc_mul, zc_mul, hA, hB]
      rw [h1, h2]
      grind
    · rw [mk_0 (k := k + 1) (t := i) (by omega), zc_0]
      by_cases g2 : i = k
      · subst g2
        have h1 : (zc (mk s (i + 1) (i + 1)) : K) = B := by rw [mk_k, hB]
        have h2 : (zc (mk s i i) : K) = A := by rw [mk_k, hA]
        rw [h1, h2]
        grind
      · rw [mk_0 (k := k + 1) (t := i + 1) (by omega), mk_0 (k := k) (t := i) (by omega), zc_0]
        grind) r hr
  rw [ev] at z
  grind
theorem vr_two {K : Type} [Lean.Grind.Field K] [LE K] [LT K] [Std.LawfulOrderLT K] [Std.IsLinearOrder K] [Lean.Grind.OrderedRing K] {rs : List K} (hs : ∀ l, zc (s l) = ls (fun r => r ^ l) rs) (r : K) : vr s 1 r = zc (hk s 1) * r + zc (-(mk s 0 1)) := by
  have h0 : vk s 0 0 = 1 := vk_top
  have e1 : mk s 0 1 = s 1 := by
    show 0 + vk s 0 0 * s 1 = _
    rw [h0]
    omega
  have e2 : vk s 1 0 = -(s 1) := by
    show sg1 1 * (sg1 0 * (0 + sg1 0 * s (0 + dsk 0 0) * 1)) = _
    show -1 * (1 * (0 + 1 * s 1 * 1)) = _
    omega
  show zc (vk s 1 0) + r * (zc (vk s 1 1) + r * 0) = _
  rw [vk_top, e2, e1]
  grind
end OVER
end RK
