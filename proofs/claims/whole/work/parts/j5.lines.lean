/-! The lines of a flow table. -/
abbrev flg (n : Nat) (T : Nat → Nat → Int) (x : Nat) : Prop := x / 6 < x % 6 ∧ x % 6 < n ∧ T (x / 6) (x % 6) ≠ 0
section LN
variable {n : Nat} {T : Nat → Nat → Int}
def ecn (n : Nat) (T : Nat → Nat → Int) : Nat → Nat
  | 0 => 0
  | c + 1 => if flg n T c then ecn n T c + 1 else ecn n T c
def edn (n : Nat) (T : Nat → Nat → Int) : Nat → Nat → Nat
  | 0 => fun _ => 0
  | c + 1 => if flg n T c then (fun e => if e = ecn n T c then c else edn n T c e) else edn n T c
theorem ed_sum {f : Nat → Int} : ∀ c, sm (ecn n T c) (fun e => f (edn n T c e)) = sm c fun x => if flg n T x then f x else 0
  | 0 => rfl
  | c + 1 => by
    rw [sm_succ, ← ed_sum c]
    by_cases g : flg n T c
    · have e1 : ecn n T (c + 1) = ecn n T c + 1 := if_pos g
      have e2 : edn n T (c + 1) = fun e => if e = ecn n T c then c else edn n T c e := if_pos g
      rw [e1, e2, sm_succ, if_pos g]
      show _ + f (if ecn n T c = ecn n T c then c else edn n T c (ecn n T c)) = _
      rw [if_pos rfl]
      congr 1
      refine sm_eq _ fun e he => ?_
      show f (if e = ecn n T c then c else edn n T c e) = _
      rw [if_neg (by omega)]
    · have e1 : ecn n T (c + 1) = ecn n T c := if_neg g
      have e2 : edn n T (c + 1) = edn n T c := if_neg g
      rw [e1, e2, if_neg g, Int.add_zero]
theorem ed_lt : ∀ c e, e < ecn n T c → edn n T c e < c ∧ flg n T (edn n T c e)
  | 0, e, h => by
    have : e < 0 := h
    omega
  | c + 1, e, h => by
    by_cases g : flg n T c
    · have e1 : ecn n T (c + 1) = ecn n T c + 1 := if_pos g
      have e2 : edn n T (c + 1) e = if e = ecn n T c then c else edn n T c e := by
        have : edn n T (c + 1) = fun e => if e = ecn n T c then c else edn n T c e := if_pos g
        rw [this]
      rw [e2]
      by_cases g2 : e = ecn n T c
      · rw [if_pos g2]
        exact ⟨by omega, g⟩
      · rw [if_neg g2]
        have := ed_lt c e (by omega)
        exact ⟨by omega, this.2⟩
    · have e1 : ecn n T (c + 1) = ecn n T c := if_neg g
      have e2 : edn n T (c + 1) = edn n T c := if_neg g
      rw [e2]
      have := ed_lt c e (by omega)
      exact ⟨by omega, this.2⟩
/-- where no line is, nothing changes -/
theorem ed_skip {c : Nat} : ∀ d, (∀ x, c ≤ x → x < c + d → ¬ flg n T x) → ecn n T (c + d) = ecn n T c ∧ edn n T (c + d) = edn n T c
  | 0, _ => ⟨rfl, rfl⟩
  | d + 1, h => by
    obtain ⟨h1, h2⟩ := ed_skip d fun x g1 g2 => h x g1 (by omega)
    have g := h (c + d) (by omega) (by omega)
    have e1 : ecn n T (c + d + 1) = ecn n T (c + d) := if_neg g
    have e2 : edn n T (c + d + 1) = edn n T (c + d) := if_neg g
    exact ⟨e1.trans h1, e2.trans h2⟩
theorem sm_36 {f : Nat → Int} : ∀ r, sm (6 * r) f = sm r fun a => sm 6 fun b => f (6 * a + b)
  | 0 => rfl
  | r + 1 => by
    rw [sm_succ, ← sm_36 r, show 6 * (r + 1) = 6 * r + 6 by omega, sm_split]
theorem sm_ue {f : Nat → Int} {i m : Nat} (hi : i < m) : sm m (fun a => ue a i * f a) = f i := by
  have := sm_unit (f := f) (e := i) m
  rw [if_pos hi] at this
  rw [← this]
  refine sm_eq m fun a _ => ?_
  show (if i = a then 1 else 0) * f a = (if a = i then 1 else 0) * f a
  by_cases g : a = i
  · rw [if_pos g, if_pos g.symm]
  · have g' : ¬ i = a := fun k => g k.symm
    rw [if_neg g, if_neg g']
/-- half of a sum over pairs -/
theorem sm_half {h : Nat → Nat → Int} (hs : ∀ a b, h a b = h b a) (h0 : ∀ a, h a a = 0) (m : Nat) : sm m (fun a => sm m fun b => h a b) = 2 * sm m fun a => sm m fun b => if a < b then h a b else 0 := by
  have e1 : sm m (fun a => sm m fun b => h a b) = sm m (fun a => sm m fun b => if a < b then h a b else 0) + sm m fun a => sm m fun b => if b < a then h a b else 0 := by
    rw [← sm_add]
    refine sm_eq m fun a _ => ?_
    rw [← sm_add]
    refine sm_eq m fun b _ => ?_
    rcases Nat.lt_trichotomy a b with g | g | g
    · rw [if_pos g, if_neg (by omega)]; omega
    · subst g
      rw [h0, if_neg (by omega)]; rfl
    · rw [if_neg (by omega), if_pos g]; omega
  have e2 : sm m (fun a => sm m fun b => if b < a then h a b else 0) = sm m fun a => sm m fun b => if a < b then h a b else 0 := by
    rw [sm_swap (F := fun b a => if b < a then h a b else 0)]
    refine sm_eq m fun a _ => sm_eq m fun b _ => ?_
    show (if a < b then h b a else 0) = _
    rw [hs]
  rw [e1, e2]
  omega
theorem flow_T (h6 : n ≤ 6) (hF : tFlow n T) {i k : Nat} (hi : i < n) (hk : k < n) : T i k = sm (ecn n T 36) fun e => bvC (edn n T 36 e) i * bvC (edn n T 36 e) k := by
  obtain ⟨N, n1, n2, n3, n4⟩ := hF
  rw [ed_sum (f := fun x => bvC x i * bvC x k) 36]
  have e36 := sm_36 (f := fun x => if flg n T x then bvC x i * bvC x k else 0) 6
  rw [show 6 * 6 = 36 from rfl] at e36
  rw [e36]
  let P : Nat → Nat → Int := fun a b => if a < n ∧ b < n then N a b else 0
  let h : Nat → Nat → Int := fun a b => P a b * ((ue a i - ue b i) * (ue a k - ue b k))
  have hP : ∀ a b, P a b = P b a := fun a b => by
    show (if a < n ∧ b < n then N a b else 0) = if b < n ∧ a < n then N b a else 0
    by_cases g : a < n ∧ b < n
    · rw [if_pos g, if_pos ⟨g.2, g.1⟩, n1 a b g.1 g.2]
    · rw [if_neg g, if_neg fun k => g ⟨k.2, k.1⟩]
  have hs : ∀ a b, h a b = h b a := fun a b => by
    show P a b * _ = P b a * _
    rw [hP a b]
    grind
  have h0 : ∀ a, h a a = 0 := fun a => by
    show P a a * ((ue a i - ue a i) * _) = 0
    rw [Int.sub_self, Int.zero_mul, Int.mul_zero]
  have t1 : sm 6 (fun a => sm 6 fun b => if flg n T (6 * a + b) then bvC (6 * a + b) i * bvC (6 * a + b) k else 0) = sm 6 fun a => sm 6 fun b => if a < b then h a b else 0 := by
    refine sm_eq 6 fun a ha => sm_eq 6 fun b hb => ?_
    have d1 : (6 * a + b) / 6 = a := by omega
    have d2 : (6 * a + b) % 6 = b := by omega
    unfold flg bvC
    rw [d1, d2]
    by_cases g : a < b
    · rw [if_pos g]
      by_cases g2 : b < n
      · have e := n4 a b (by omega) g2
        rw [if_neg (by omega)] at e
        have p : P a b = N a b := if_pos ⟨by omega, g2⟩
        show _ = P a b * _
        rw [p]
        rcases n2 a b (by omega) g2 with z | ⟨z, _⟩
        · rw [if_neg fun k => k.2.2 (by omega), z, Int.zero_mul]
        · rw [if_pos ⟨g, g2, by omega⟩, z, Int.one_mul]
      · have p : P a b = 0 := if_neg fun k => g2 k.2
        rw [if_neg fun k => g2 k.2.1]
        show _ = P a b * _
        rw [p, Int.zero_mul]
    · rw [if_neg g, if_neg fun k => g k.1]
  rw [t1]
  have t2 := sm_half hs h0 6
  have A : ∀ x y, x < 6 → y < 6 → sm 6 (fun a => sm 6 fun b => P a b * (ue a x * ue b y)) = P x y := fun x y hx hy => by
    have : ∀ a, a < 6 → sm 6 (fun b => P a b * (ue a x * ue b y)) = ue a x * P a y := fun a _ => by
      rw [← sm_ue (f := fun b => P a b) hy, ← sm_mul]
      exact sm_eq 6 fun b _ => by grind
    rw [sm_eq 6 this, sm_ue (f := fun a => P a y) hx]
  have D : sm 6 (fun a => sm 6 fun b => P a b * (ue a i * ue a k)) = if i = k then sm n (N i) else 0 := by
    have : ∀ a, a < 6 → sm 6 (fun b => P a b * (ue a i * ue a k)) = ue a i * (ue a k * sm 6 fun b => P a b) := fun a _ => by
      rw [sm_mulr]
      grind
    rw [sm_eq 6 this, sm_ue (f := fun a => ue a k * sm 6 fun b => P a b) (show i < 6 by omega)]
    show (if k = i then 1 else 0) * _ = _
    have deg : sm 6 (fun b => P i b) = sm n (N i) := by
      have := sm_split (f := fun b => P i b) (a := n) (6 - n)
      rw [show n + (6 - n) = 6 by omega] at this
      rw [this, sm_zero (f := fun x => P i (n + x)) (6 - n) fun x _ => if_neg (by omega), Int.add_zero]
      exact sm_eq n fun b hb => if_pos ⟨hi, hb⟩
    rw [deg]
    by_cases g : i = k
    · rw [if_pos g, if_pos g.symm, Int.one_mul]
    · have g' : ¬ k = i := fun z => g z.symm
      rw [if_neg g, if_neg g', Int.zero_mul]
  have D2 : sm 6 (fun a => sm 6 fun b => P a b * (ue b i * ue b k)) = if i = k then sm n (N i) else 0 := by
    rw [← D, sm_swap (F := fun b a => P a b * (ue b i * ue b k))]
    refine sm_eq 6 fun a _ => sm_eq 6 fun b _ => ?_
    show P b a * _ = P a b * _
    rw [hP]
  have t3 : sm 6 (fun a => sm 6 fun b => h a b) = sm 6 (fun a => sm 6 fun b => P a b * (ue a i * ue a k)) + sm 6 (fun a => sm 6 fun b => P a b * (ue b i * ue b k)) + -1 * (sm 6 (fun a => sm 6 fun b => P a b * (ue a i * ue b k)) + sm 6 fun a => sm 6 fun b => P a b * (ue a k * ue b i)) := by
    rw [← sm_add, ← sm_add, ← sm_mul, ← sm_add]
    refine sm_eq 6 fun a _ => ?_
    rw [← sm_add, ← sm_add, ← sm_mul, ← sm_add]
    refine sm_eq 6 fun b _ => ?_
    show P a b * _ = _
    grind
  rw [A i k (by omega) (by omega), A k i (by omega) (by omega), D, D2, hP k i, t2] at t3
  have pk : P i k = N i k := if_pos ⟨hi, hk⟩
  rw [pk] at t3
  have e := n4 i k hi hk
  by_cases g : i = k
  · rw [if_pos g] at t3 e
    have z : N i k = 0 := by
      rcases n2 i k hi hk with z | ⟨_, z⟩
      · exact z
      · exact absurd g z
    have e2 : T i k = sm n (N i) := e
    omega
  · rw [if_neg g] at t3 e
    omega
end LN
