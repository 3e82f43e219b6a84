/-! Powers at any cell; the Teller's reading. -/
section PG
variable {d n e c u v : Nat} {Z Z0 : mjZ} {M T : Nat → Nat → Int}
def PGI (c u v : Nat) (Z0 : mjZ) (n : Nat) (M : Nat → Nat → Int) (Z : mjZ) : Prop := (∀ x, x ≠ c → x ≠ u → x ≠ v → Z x = Z0 x) ∧ Z c 0 = (n : Int) ∧ ∃ a b : Nat, Z c 1 = (a : Int) ∧ Z c 2 = (b : Int) ∧ (a = u ∧ b = v ∨ a = v ∧ b = u) ∧ ∀ i k, i < n → k < n → Z a (6 * i + k) = M i k
theorem PGI.up {x j : Nat} {y : Int} (h : PGI c u v Z0 n M Z) (h1 : x ≠ c) (h2 : x ≠ u) (h3 : x ≠ v) : PGI c u v (mjUp Z0 x j y) n M (mjUp Z x j y) := by
  obtain ⟨p1, p2, a, b, p3, p4, p5, p6⟩ := h
  refine ⟨fun w g0 g1 g2 => ?_, by rw [mjUp_nc h1.symm]; exact p2, a, b, by rw [mjUp_nc h1.symm]; exact p3, by rw [mjUp_nc h1.symm]; exact p4, p5, fun i k hi hk => by rw [mjUp_nc (by omega)]; exact p6 i k hi hk⟩
  funext l
  show (if w = x ∧ l = j then y else Z w l) = (if w = x ∧ l = j then y else Z0 w l)
  rw [p1 w g0 g1 g2]
theorem pg_begin {q : mjZ → Prop} (hc : c ≠ u ∧ c ≠ v ∧ u ≠ v) (hok : ∀ {a : Nat}, a = u ∨ a = v → mjOk 20036 a) (h1 : 1 ≤ n) (h6 : n ≤ 6) (hp : Z c 1 = u ∧ Z c 2 = v ∨ Z c 1 = v ∧ Z c 2 = u) (hq : ∀ Z', PGI c u v Z n (mxP n T 0) Z' → q Z') : mjW0 (d + 3) 77 [yR 4 c, yI (n : Int)] Z q := by
  refine mje_77 (d := d + 1) ⟨by omega, by split <;> omega, ?_⟩
  rw [show (if 0 < (if 6 < (n : Int) then 6 else (n : Int)) then (if 6 < (n : Int) then 6 else (n : Int)) else 0) = (n : Int) by rw [show (if 6 < (n : Int) then 6 else (n : Int)) = (n : Int) from if_neg (by omega), if_pos (by omega)]]
  have main : ∀ a b : Nat, Z c 1 = (a : Int) → Z c 2 = (b : Int) → (a = u ∧ b = v ∨ a = v ∧ b = u) → mjL_77_16 (d + 2) c (n : Int) 0 (mjUp Z c 0 (n : Int)) q := fun a b ha hb hab => by
    have k1 : ∀ g, mjRow (mjUp Z c 0 (n : Int)) a g c 1 = (a : Int) := fun g => by
      rw [mjRow_ne (by omega)]
      exact (if_neg (by omega)).trans ha
    have k0 : ∀ g, mjRow (mjUp Z c 0 (n : Int)) a g c 0 = (n : Int) := fun g => by
      rw [mjRow_ne (by omega), mjUp_at]
    refine lp_row (A := a) (n := 36) (f := fun i g => va_up g i 0) (L := fun i Z => mjL_77_16 (d + 2) c (n : Int) i Z q) (fun i g hi hL => ?_) ?_
    · refine mjl_77_16 ?_
      rw [k1, show ((a : Int)).toNat = a from rfl, mjRow_up]
      exact ⟨by omega, fun h => by omega, fun _ => ⟨hok (by omega), by omega, by omega, hL⟩⟩
    · refine mjl_77_16 ⟨by omega, fun _ => ?_, fun h => by omega⟩
      refine mje_78 (d := d + 1) ?_
      refine lp_fold0 (n := n) (f := fun i g => va_up g (i * 7) (g (i * 7) + 1)) (L := fun i g => mjL_78_2 (d + 1) c 1 i (mjRow (mjUp Z c 0 (n : Int)) a g) q) (fun i g hi hL => ?_) ?_
      · refine mjl_78_2 ?_
        rw [k1, k0, show ((a : Int)).toNat = a from rfl, show ((i : Int) * 7).toNat = i * 7 by omega, mjRow_up, mjRow_at]
        exact ⟨by omega, by omega, fun h => by omega, fun _ => ⟨hok (by omega), by omega, by omega, hL⟩⟩
      · refine mjl_78_2 ?_
        rw [k0]
        refine ⟨by omega, by omega, fun _ => hq _ ⟨fun x g0 g1 g2 => ?_, k0 _, a, b, k1 _, ?_, hab, fun i k hi hk => ?_⟩, fun h => by omega⟩
        · rw [mjRow_ne (by omega), mjUp_nc g0]
        · rw [mjRow_ne (by omega)]
          exact (if_neg (by omega)).trans hb
        · rw [mjRow_at]
          show idR n _ (6 * i + k) = (if i = k then 1 else 0)
          rw [idR_val, fo_cst, if_pos (show 6 * i + k < 36 by omega)]
          by_cases h : i = k
          · rw [if_pos (by omega), if_pos h]; rfl
          · rw [if_neg (by omega), if_neg h]
  rcases hp with ⟨y1, y2⟩ | ⟨y1, y2⟩
  · exact main u v y1 y2 (Or.inl ⟨rfl, rfl⟩)
  · exact main v u y1 y2 (Or.inr ⟨rfl, rfl⟩)
theorem pg_mult {q : mjZ → Prop} (hc : c ≠ u ∧ c ≠ v ∧ u ≠ v) (hok : ∀ {a : Nat}, a = u ∨ a = v → mjOk 20036 a) (h : PGI c u v Z0 n M Z) (h1 : 1 ≤ n) (h6 : n ≤ 6) (hn : tN Z e n) (he : e ≠ c ∧ e ≠ u ∧ e ≠ v ∧ e + 1 ≠ c ∧ e + 1 ≠ u ∧ e + 1 ≠ v) (hT : ∀ i k, i < n → k < n → tE Z e i k = T i k ∧ -100 ≤ T i k ∧ T i k ≤ 100) (hq : ∀ Z', PGI c u v Z0 n (mxM n T M) Z' → q Z') : mjW0 (d + 3) 79 [yR 4 c, yR 6 e] Z q := by
  obtain ⟨p1, p2, a, b, p3, p4, p5, p6⟩ := h
  have k0 : ∀ g, mjRow Z b g c 0 = (n : Int) := fun g => by rw [mjRow_ne (by omega)]; exact p2
  have k1 : ∀ g, mjRow Z b g c 1 = (a : Int) := fun g => by rw [mjRow_ne (by omega)]; exact p3
  have k2 : ∀ g, mjRow Z b g c 2 = (b : Int) := fun g => by rw [mjRow_ne (by omega)]; exact p4
  have ka : ∀ g, mjRow Z b g a = Z a := fun g => mjRow_ne (by omega)
  have eT : ∀ g, tE (mjRow Z b g) e = tE Z e := fun g => by
    funext i k
    exact congrFun (mjRow_ne (by omega)) _
  have ta : ((a : Int)).toNat = a := rfl
  have tb : ((b : Int)).toNat = b := rfl
  refine mje_79 (d := d + 2) ?_
  refine lp_row (A := b) (n := n) (f := fun i g => fo (fun k g => va_up g (6 * i + k) (mxM n T M i k)) n g) (L := fun i Z => mjL_79_2 (d + 2) c e i Z q) (fun i g hi hL => ?_) ?_
  · refine mjl_79_2 ?_
    rw [k0]
    refine ⟨by omega, by omega, fun h => by omega, fun _ => ?_⟩
    refine lp_fold0 (n := n) (f := fun k g => va_up g (6 * i + k) (mxM n T M i k)) (L := fun k g => mjL_79_12 (d + 2) c e i k (mjRow Z b g) q) (a := g) (fun k g hk hL2 => ?_) ?_
    · refine mjl_79_12 ?_
      rw [k0]
      refine ⟨by omega, by omega, fun h => by omega, fun _ => ?_⟩
      refine lp_fold0 (n := n) (f := fun j s => s + T i j * M j k) (L := fun j s => mjL_79_26 (d + 2) c e i k s j (mjRow Z b g) q) (fun j s hj hL3 => ?_) ?_
      · have t := hT i j hi hj
        refine mjl_79_26 ?_
        rw [k0]
        refine ⟨by omega, by omega, fun h => by omega, fun _ => tb_number (d := d) (hn.row (by omega)) hi hj ?_⟩
        rw [eT, t.1, k1, ta, ka, show ((j : Int) * 6 + (k : Int)).toNat = 6 * j + k by omega, p6 j k hj hk]
        exact ⟨by omega, hok (by omega), by omega, by omega, hL3⟩
      · refine mjl_79_26 ?_
        rw [k0, k2, tb, show ((i : Int) * 6 + (k : Int)).toNat = 6 * i + k by omega, mjRow_up]
        exact ⟨by omega, by omega, fun _ => ⟨hok (by omega), by omega, by omega, hL2⟩, fun h => by omega⟩
    · refine mjl_79_12 ?_
      rw [k0]
      exact ⟨by omega, by omega, fun _ => hL, fun h => by omega⟩
  · refine mjl_79_2 ?_
    rw [k0, k1, k2, ta, tb]
    refine ⟨by omega, by omega, fun _ => ⟨hok (by omega), hok (by omega), hq _ ⟨fun x g0 g1 g2 => ?_, ?_, b, a, ?_, ?_, by omega, fun i k hi hk => ?_⟩⟩, fun h => by omega⟩
    · rw [mjUp_nc g0, mjUp_nc g0, mjRow_ne (by omega)]
      exact p1 x g0 g1 g2
    · exact (if_neg (by omega)).trans ((if_neg (by omega)).trans (k0 _))
    · exact (if_neg (by omega)).trans mjUp_at
    · exact mjUp_at
    · rw [mjUp_nc (by omega), mjUp_nc (by omega), mjRow_at]
      exact rF_T h6 hi hk
theorem pg_sum {q : Int → mjZ → Prop} (hc : c ≠ u ∧ c ≠ v ∧ u ≠ v) (hok : ∀ {a : Nat}, a = u ∨ a = v → mjOk 20036 a) (h : PGI c u v Z0 n M Z) (h1 : 1 ≤ n) (h6 : n ≤ 6) (hq : q (mxTr n M) Z) : mjW2 (d + 1) 80 [yR 4 c] Z q := by
  obtain ⟨p1, p2, a, b, p3, p4, p5, p6⟩ := h
  refine mje_80 ?_
  refine lp_fold0 (n := n) (f := fun i s => s + M i i) (L := fun i s => mjL_80_4 d c s i Z q) (fun i s hi hL => ?_) ?_
  · refine mjl_80_4 ?_
    rw [p2, p3, show ((a : Int)).toNat = a from rfl, show ((i : Int) * 7).toNat = 6 * i + i by omega, p6 i i hi hi]
    exact ⟨by omega, by omega, fun h => by omega, fun _ => ⟨hok (by omega), by omega, by omega, hL⟩⟩
  · refine mjl_80_4 ?_
    rw [p2]
    exact ⟨by omega, by omega, fun _ => hq, fun h => by omega⟩
theorem pg_shift {q : mjZ → Prop} {x : Int} (hc : c ≠ u ∧ c ≠ v ∧ u ≠ v) (hok : ∀ {a : Nat}, a = u ∨ a = v → mjOk 20036 a) (h : PGI c u v Z0 n M Z) (h6 : n ≤ 6) (hq : ∀ Z', PGI c u v Z0 n (fun i k => M i k + if i = k then x else 0) Z' → q Z') : mjW0 (d + 1) 78 [yR 4 c, yJ x] Z q := by
  obtain ⟨p1, p2, a, b, p3, p4, p5, p6⟩ := h
  have k0 : ∀ g, mjRow Z a g c 0 = (n : Int) := fun g => by rw [mjRow_ne (by omega)]; exact p2
  have k1 : ∀ g, mjRow Z a g c 1 = (a : Int) := fun g => by rw [mjRow_ne (by omega)]; exact p3
  refine mje_78 (d := d) ?_
  have val : ∀ m j, fo (fun i g => va_up g (i * 7) (g (i * 7) + x)) m (Z a) j = if j % 7 = 0 ∧ j / 7 < m then Z a j + x else Z a j := by
    intro m
    induction m with
    | zero => intro j; rw [if_neg (by omega)]; rfl
    | succ m ih =>
      intro j
      show (if j = m * 7 then fo (fun i g => va_up g (i * 7) (g (i * 7) + x)) m (Z a) (m * 7) + x else fo (fun i g => va_up g (i * 7) (g (i * 7) + x)) m (Z a) j) = _
      by_cases h : j = m * 7
      · rw [if_pos h, if_pos (by omega), ih, if_neg (by omega), h]
      · rw [if_neg h, ih j]
        by_cases h2 : j % 7 = 0 ∧ j / 7 < m
        · rw [if_pos h2, if_pos (by omega)]
        · rw [if_neg h2, if_neg (by omega)]
  refine lp_row (A := a) (n := n) (f := fun i g => va_up g (i * 7) (g (i * 7) + x)) (L := fun i Z => mjL_78_2 d c x i Z q) (fun i g hi hL => ?_) ?_
  · refine mjl_78_2 ?_
    rw [k1, k0, show ((a : Int)).toNat = a from rfl, show ((i : Int) * 7).toNat = i * 7 by omega, mjRow_up, mjRow_at]
    exact ⟨by omega, by omega, fun h => by omega, fun _ => ⟨hok (by omega), by omega, by omega, hL⟩⟩
  · refine mjl_78_2 ?_
    rw [k0]
    refine ⟨by omega, by omega, fun _ => hq _ ⟨fun w g0 g1 g2 => ?_, k0 _, a, b, k1 _, ?_, p5, fun i k hi hk => ?_⟩, fun h => by omega⟩
    · rw [mjRow_ne (by omega)]
      exact p1 w g0 g1 g2
    · rw [mjRow_ne (by omega)]
      exact p4
    · rw [mjRow_at, val, p6 i k hi hk]
      show _ = M i k + if i = k then x else 0
      by_cases h : i = k
      · rw [if_pos (by omega), if_pos h]
      · rw [if_neg (by omega), if_neg h, Int.add_zero]
end PG
/-- the polynomial's coefficients -/
def leP (n : Nat) (T : Nat → Nat → Int) (j : Nat) : Int := if j = n then 1 else leC n T (leB n T (n - 1 - j)) (n - 1 - j)
theorem ok263 {a : Nat} (h : a = 264 ∨ a = 265) : mjOk 20036 a := by
  rcases h with h | h <;> subst h <;> unfold mjOk <;> decide +kernel
theorem tl_read {d n e : Nat} {Z : mjZ} {T : Nat → Nat → Int} {q : mjZ → Prop} (h1 : 1 ≤ n) (h6 : n ≤ 6) (hp : Z 263 1 = 264 ∧ Z 263 2 = 265 ∨ Z 263 1 = 265 ∧ Z 263 2 = 264) (hn : tN Z e n) (he : e + 1 < 255) (hT : ∀ i k, i < n → k < n → tE Z e i k = T i k ∧ -100 ≤ T i k ∧ T i k ≤ 100) (hq : ∀ Z' p, PGI 263 264 265 (mjRow (mjUp Z 255 0 (n : Int)) 256 p) n (leB n T n) Z' → (∀ j, j ≤ n → p j = leP n T j) → q Z') : mjW0 (d + 4) 74 [yR 7 254, yR 6 e] Z q := by
  refine mje_74 (d := d + 3) ?_
  rw [hn.1]
  refine mje_75 (d := d + 1) ⟨by omega, by split <;> omega, ?_⟩
  rw [show (if 0 < (if 6 < (n : Int) then 6 else (n : Int)) then (if 6 < (n : Int) then 6 else (n : Int)) else 0) = (n : Int) by rw [show (if 6 < (n : Int) then 6 else (n : Int)) = (n : Int) from if_neg (by omega), if_pos (by omega)]]
  have e256 : ∀ Z : mjZ, ∀ j v, mjUp (mjUp Z 255 0 (n : Int)) 256 j v = mjRow (mjUp Z 255 0 (n : Int)) 256 (va_up (Z 256) j v) := fun Z j v => by
    have := mjRow_up (Z := mjUp Z 255 0 (n : Int)) (A := 256) (j := j) (g := Z 256) (v := v)
    rw [← this]
    have e : mjUp Z 255 0 (n : Int) 256 = Z 256 := mjUp_nc (by decide)
    rw [← e, mjRow_self]
  have wr : ∀ (Z1 : mjZ) (j : Nat) (y : Int) (q : mjZ → Prop), j < 7 → q (mjUp Z1 256 j y) → mjW0 (d + 3) 76 [yR 3 255, yI (j : Int), yJ y] Z1 q := fun Z1 j y q hj hq => by
    refine mje_76 (d := d + 2) ⟨by omega, fun g => by omega, fun _ => ⟨by decide, fun g => ?_, fun _ => ⟨by omega, by omega, hq⟩⟩⟩
    have : ((20007 - 20000 : Nat) : Int) = 7 := by decide
    omega
  refine wr _ n 1 _ (by omega) ?_
  rw [e256]
  have et : ∀ p, (mjRow (mjUp Z 255 0 (n : Int)) 256 p) e = Z e ∧ (mjRow (mjUp Z 255 0 (n : Int)) 256 p) (e + 1) = Z (e + 1) := fun p => ⟨by rw [mjRow_ne (by omega), mjUp_nc (by omega)], by rw [mjRow_ne (by omega), mjUp_nc (by omega)]⟩
  refine pg_begin (d := d) (T := T) (c := 263) (u := 264) (v := 265) (by decide) ok263 h1 h6 (by rw [mjRow_ne (by decide), mjUp_nc (by decide)]; exact hp) fun Z1 hZ1 => ?_
  have hT2 : ∀ i k, i < n → k < n → -100 ≤ T i k ∧ T i k ≤ 100 := fun i k hi hk => (hT i k hi hk).2
  refine lp_inv (n := n) (a := Z1) (L := fun r Z1 => mjL_74_32 (d + 3) e (n : Int) (r + 1) Z1 q) (Y := fun r Z1 => ∃ p, PGI 263 264 265 (mjRow (mjUp Z 255 0 (n : Int)) 256 p) n (leB n T r) Z1 ∧ ∀ j, n - r ≤ j → j ≤ n → p j = leP n T j) (fun r Z1 hr hy hL => ?_) (fun Z1 hy => ?_) ⟨_, hZ1, fun j g1 g2 => ?_⟩
  · obtain ⟨p, y1, y2⟩ := hy
    have z1 : Z1 e = Z e := (y1.1 e (by omega) (by omega) (by omega)).trans (et p).1
    have z2 : Z1 (e + 1) = Z (e + 1) := (y1.1 (e + 1) (by omega) (by omega) (by omega)).trans (et p).2
    have bt := le_tr (r := r) h6 hT2 (by omega)
    have bt2 : -279936000000000000 ≤ mxTr n (mxM n T (leB n T r)) ∧ mxTr n (mxM n T (leB n T r)) ≤ 279936000000000000 := by
      unfold bgA at bt
      split at bt <;> omega
    refine mjl_74_32 ⟨by omega, by omega, fun g => by omega, fun _ => pg_mult (d := d) (T := T) (c := 263) (u := 264) (v := 265) (by decide) ok263 y1 h1 h6 (by unfold tN; rw [z1]; exact hn) (by omega) (fun i k hi hk => ⟨?_, hT2 i k hi hk⟩) fun Z2 y3 => pg_sum (d := d + 2) (by decide) ok263 y3 h1 h6 ⟨by omega, by omega, by omega, ?_⟩⟩
    · rw [← (hT i k hi hk).1]
      exact congrFun z2 _
    · rw [show (n : Int) - ((r + 1 : Nat) : Int) = ((n - (r + 1) : Nat) : Int) by omega]
      have eC : Int.tdiv (-(mxTr n (mxM n T (leB n T r)))) ((r + 1 : Nat) : Int) = leC n T (leB n T r) r := by
        unfold leC
        rw [show ((r + 1 : Nat) : Int) = (r : Int) + 1 by omega]
      rw [eC]
      refine wr _ _ _ _ (by omega) (pg_shift (d := d + 2) (by decide) ok263 (y3.up (x := 256) (j := n - (r + 1)) (y := leC n T (leB n T r) r) (by decide) (by decide) (by decide)) h6 fun Z3 y4 => hL Z3 ⟨va_up p (n - (r + 1)) (leC n T (leB n T r) r), ?_, fun j g1 g2 => ?_⟩)
      · rw [mjRow_up] at y4
        exact y4
      · show (if j = n - (r + 1) then leC n T (leB n T r) r else p j) = _
        by_cases hj : j = n - (r + 1)
        · rw [if_pos hj]
          unfold leP
          rw [if_neg (by omega), show n - 1 - j = r by omega]
        · rw [if_neg hj]
          exact y2 j (by omega) g2
  · obtain ⟨p, y1, y2⟩ := hy
    exact mjl_74_32 ⟨by omega, by omega, fun _ => hq Z1 p y1 fun j hj => y2 j (by omega) hj, fun g => by omega⟩
  · have : j = n := by omega
    subst this
    unfold leP
    rw [if_pos rfl]
    exact if_pos rfl
