/-! A stage of the way: what becomes of the rows. -/
def ue (e : Nat) : Nat → Int := fun j => if j = e then 1 else 0
def wyV (n : Nat) (T : Nat → Nat → Int) (r0 r : Nat → Int) : Nat → Int := fun j => bfv n T r0 r0 / (Nat.gcd (bfv n T r0 r0).natAbs (bfv n T r r0).natAbs : Int) * r j - bfv n T r r0 / (Nat.gcd (bfv n T r0 r0).natAbs (bfv n T r r0).natAbs : Int) * r0 j
def wyN (n : Nat) (T : Nat → Nat → Int) (r0 r : Nat → Int) : Nat → Int := if bfv n T r r0 = 0 then r else fun j => wyV n T r0 r j / (cnt n (wyV n T r0 r) : Int)
def wyF (n : Nat) (T R : Nat → Nat → Int) (i : Nat) : Option Nat := sr (fun k => if bfv n T (R k) (R k) = 0 then none else some k) (n - i) i
def wyA (n : Nat) (T R : Nat → Nat → Int) (i : Nat) : Option Nat := sr (fun k => if bfv n T (R k) (R i) = 0 then none else some k) (n - (i + 1)) (i + 1)
def wyX (a b : Nat) (R : Nat → Nat → Int) : Nat → Nat → Int := fun k => if k = a then R b else if k = b then R a else R k
def wyD (a b : Nat) (R : Nat → Nat → Int) : Nat → Nat → Int := fun k => if k = a then (fun j => R a j + R b j) else R k
def wyZ (n : Nat) (T : Nat → Nat → Int) (i m : Nat) (R : Nat → Nat → Int) : Nat → Nat → Int := fun l => if i < l ∧ l < m then wyN n T (R i) (R l) else R l
def wyG (n : Nat) (T : Nat → Nat → Int) (i : Nat) (R : Nat → Nat → Int) : Nat → Nat → Int := match wyF n T R i with
  | some k => wyZ n T i n (wyX i k R)
  | none => match wyA n T R i with
    | some k => wyZ n T i n (wyD i k R)
    | none => R
/-- the rows of a way don't hang on each other -/
def idp (n : Nat) (R : Nat → Nat → Int) : Prop := ∃ (L : Nat → Nat → Int) (D : Int), D ≠ 0 ∧ ∀ k l, k < n → l < n → sm n (fun j => R k j * L j l) = if k = l then D else 0
section ID
variable {n : Nat} {T R : Nat → Nat → Int}
theorem idp_swap {a b : Nat} (h : idp n R) (ha : a < n) (hb : b < n) : idp n (wyX a b R) := by
  obtain ⟨L, D, h1, h2⟩ := h
  refine ⟨fun j l => L j (if l = a then b else if l = b then a else l), D, h1, fun k l hk hl => ?_⟩
  have e : wyX a b R k = R (if k = a then b else if k = b then a else k) := by
    unfold wyX
    by_cases g : k = a
    · rw [if_pos g, if_pos g]
    · by_cases g2 : k = b
      · rw [if_neg g, if_pos g2, if_neg g, if_pos g2]
      · rw [if_neg g, if_neg g2, if_neg g, if_neg g2]
  rw [e]
  have lt : ∀ x, x < n → (if x = a then b else if x = b then a else x) < n := fun x hx => by
    split
    · exact hb
    · split
      · exact ha
      · exact hx
  have := h2 (if k = a then b else if k = b then a else k) (if l = a then b else if l = b then a else l) (lt k hk) (lt l hl)
  rw [this]
  by_cases g : k = l
  · rw [if_pos g, if_pos (by rw [g])]
  · rw [if_neg g, if_neg]
    intro k2
    apply g
    revert k2
    repeat' split
    all_goals omega
theorem idp_add {a b : Nat} (h : idp n R) (ha : a < n) (hb : b < n) (hab : a ≠ b) : idp n (wyD a b R) := by
  obtain ⟨L, D, h1, h2⟩ := h
  refine ⟨fun j l => if l = b then L j b - L j a else L j l, D, h1, fun k l hk hl => ?_⟩
  have row : ∀ k, k < n → ∀ l, l < n → sm n (fun j => R k j * (if l = b then L j b - L j a else L j l)) = if l = b then (if k = b then D else 0) - (if k = a then D else 0) else if k = l then D else 0 := fun k hk l hl => by
    by_cases g : l = b
    · rw [if_pos g, ← h2 k b hk hb, ← h2 k a hk ha]
      have : sm n (fun j => R k j * L j b) = sm n (fun j => R k j * (L j b - L j a)) + sm n (fun j => R k j * L j a) := by
        rw [← sm_add]
        exact sm_eq n fun j _ => by grind
      rw [this, sm_eq (g := fun j => R k j * (L j b - L j a)) n fun j _ => by rw [if_pos g]]
      omega
    · rw [if_neg g, ← h2 k l hk hl]
      exact sm_eq n fun j _ => by rw [if_neg g]
  by_cases g : k = a
  · have e : sm n (fun j => wyD a b R k j * (if l = b then L j b - L j a else L j l)) = sm n (fun j => R a j * (if l = b then L j b - L j a else L j l)) + sm n (fun j => R b j * (if l = b then L j b - L j a else L j l)) := by
      rw [← sm_add]
      exact sm_eq n fun j _ => by
        unfold wyD
        rw [if_pos g]
        exact Int.add_mul _ _ _
    rw [e, row a ha l hl, row b hb l hl, g]
    repeat' split
    all_goals omega
  · have e : wyD a b R k = R k := if_neg g
    rw [e, row k hk l hl]
    repeat' split
    all_goals omega
theorem dvz {a c : Int} (h : a ≠ 0) : ∃ g : Int, g ≠ 0 ∧ (Nat.gcd a.natAbs c.natAbs : Int) = g ∧ a / g * g = a ∧ c / g * g = c := by
  refine ⟨(Nat.gcd a.natAbs c.natAbs : Int), ?_, rfl, ?_, ?_⟩
  · have : Nat.gcd a.natAbs c.natAbs ≠ 0 := fun k => by have := (Nat.gcd_eq_zero_iff.mp k).1; omega
    omega
  · exact Int.ediv_mul_cancel (Int.ofNat_dvd_left.mpr (Nat.gcd_dvd_left _ _))
  · exact Int.ediv_mul_cancel (Int.ofNat_dvd_left.mpr (Nat.gcd_dvd_right _ _))
/-- what is wyV, without the divisions -/
theorem wyV_ex {r0 r : Nat → Int} (ha : bfv n T r0 r0 ≠ 0) : ∃ al be g : Int, al ≠ 0 ∧ g ≠ 0 ∧ al * g = bfv n T r0 r0 ∧ be * g = bfv n T r r0 ∧ wyV n T r0 r = fun j => al * r j - be * r0 j := by
  obtain ⟨g, h1, h2, h3, h4⟩ := dvz (a := bfv n T r0 r0) (c := bfv n T r r0) ha
  refine ⟨bfv n T r0 r0 / g, bfv n T r r0 / g, g, fun k => ?_, h1, h3, h4, ?_⟩
  · rw [k, Int.zero_mul] at h3
    exact ha h3.symm
  · unfold wyV
    rw [h2]
theorem cnt_idp {i k : Nat} (h : idp n R) (hi : i < n) (hk : k < n) (hik : i ≠ k) (ha : bfv n T (R i) (R i) ≠ 0) : cnt n (wyV n T (R i) (R k)) ≠ 0 := fun hz => by
  obtain ⟨L, D, h1, h2⟩ := h
  obtain ⟨al, be, g, a1, a2, a3, a4, a5⟩ := wyV_ex (r := R k) ha
  have hv := cnt_zero hz
  rw [a5] at hv
  have e1 : sm n (fun j => (al * R k j - be * R i j) * L j k) = 0 := sm_zero n fun j hj => by
    have : al * R k j - be * R i j = 0 := hv j hj
    rw [this, Int.zero_mul]
  have e2 : sm n (fun j => (al * R k j - be * R i j) * L j k) = al * sm n (fun j => R k j * L j k) + -be * sm n (fun j => R i j * L j k) := by
    rw [← sm_mul, ← sm_mul, ← sm_add]
    exact sm_eq n fun j _ => by grind
  rw [e2, h2 k k hk hk, h2 i k hi hk, if_pos rfl, if_neg hik, Int.mul_zero, Int.add_zero] at e1
  rcases Int.mul_eq_zero.mp e1 with q | q
  · exact a1 q
  · exact h1 q
theorem idp_step {i k : Nat} (h : idp n R) (hi : i < n) (hk : k < n) (hik : i ≠ k) (ha : bfv n T (R i) (R i) ≠ 0) : idp n (fun l => if l = k then wyN n T (R i) (R k) else R l) := by
  by_cases hc : bfv n T (R k) (R i) = 0
  · have e : (fun l => if l = k then wyN n T (R i) (R k) else R l) = R := by
      funext l
      by_cases g : l = k
      · rw [if_pos g, g]; exact if_pos hc
      · rw [if_neg g]
    rw [e]
    exact h
  · have hz := cnt_idp h hi hk hik ha
    obtain ⟨L, D, h1, h2⟩ := h
    obtain ⟨al, be, g, a1, a2, a3, a4, a5⟩ := wyV_ex (r := R k) ha
    have hg : (cnt n (wyV n T (R i) (R k)) : Int) ≠ 0 := by omega
    have hN : ∀ j, j < n → (cnt n (wyV n T (R i) (R k)) : Int) * wyN n T (R i) (R k) j = al * R k j - be * R i j := fun j hj => by
      unfold wyN
      rw [if_neg hc]
      have := Int.mul_ediv_cancel' (cnt_dvd (v := wyV n T (R i) (R k)) n j hj)
      rw [this, a5]
    revert hg hN
    generalize (cnt n (wyV n T (R i) (R k)) : Int) = ga
    intro hg hN
    refine ⟨fun j l => if l = k then ga * L j k else if l = i then al * L j i + be * L j k else al * L j l, al * D, fun q => ?_, fun q l hq hl => ?_⟩
    · rcases Int.mul_eq_zero.mp q with q | q
      · exact a1 q
      · exact h1 q
    · dsimp only
      have row : ∀ q, q < n → ∀ l, l < n → sm n (fun j => R q j * (if l = k then ga * L j k else if l = i then al * L j i + be * L j k else al * L j l)) = if l = k then ga * (if q = k then D else 0) else if l = i then al * (if q = i then D else 0) + be * (if q = k then D else 0) else al * (if q = l then D else 0) := fun q hq l hl => by
        by_cases g1 : l = k
        · rw [if_pos g1, ← h2 q k hq hk, ← sm_mul]
          exact sm_eq n fun j _ => by rw [if_pos g1]; grind
        · by_cases g2 : l = i
          · rw [if_neg g1, if_pos g2, ← h2 q i hq hi, ← h2 q k hq hk, ← sm_mul, ← sm_mul, ← sm_add]
            exact sm_eq n fun j _ => by rw [if_neg g1, if_pos g2]; grind
          · rw [if_neg g1, if_neg g2, ← h2 q l hq hl, ← sm_mul]
            exact sm_eq n fun j _ => by rw [if_neg g1, if_neg g2]; grind
      by_cases g : q = k
      · refine Int.eq_of_mul_eq_mul_left hg ?_
        rw [← sm_mul]
        have e : sm n (fun j => ga * ((if q = k then wyN n T (R i) (R k) else R q) j * (if l = k then ga * L j k else if l = i then al * L j i + be * L j k else al * L j l))) = al * sm n (fun j => R k j * (if l = k then ga * L j k else if l = i then al * L j i + be * L j k else al * L j l)) + -be * sm n (fun j => R i j * (if l = k then ga * L j k else if l = i then al * L j i + be * L j k else al * L j l)) := by
          rw [← sm_mul, ← sm_mul, ← sm_add]
          exact sm_eq n fun j hj => by
            rw [if_pos g, ← Int.mul_assoc, hN j hj]
            grind
        rw [e, row k hk l hl, row i hi l hl, g]
        by_cases g1 : l = k
        · rw [if_pos g1, if_pos rfl, if_pos g1, if_neg hik, if_pos g1.symm]; grind
        · by_cases g2 : l = i
          · rw [if_neg g1, if_pos g2, if_neg (fun x => hik x.symm), if_pos rfl, if_neg g1, if_pos g2, if_pos rfl, if_neg hik, if_neg (fun x => g1 x.symm)]; grind
          · rw [if_neg g1, if_neg g2, if_neg (fun x => g1 x.symm), if_neg g1, if_neg g2, if_neg (fun x => g2 x.symm), if_neg (fun x => g1 x.symm)]; grind
      · rw [if_neg g, row q hq l hl]
        by_cases g1 : l = k
        · rw [if_pos g1, if_neg g, if_neg (fun x => g (x.trans g1))]; grind
        · by_cases g2 : l = i
          · rw [if_neg g1, if_pos g2, if_neg g]
            by_cases g3 : q = i
            · rw [if_pos g3, if_pos (by omega)]; grind
            · rw [if_neg g3, if_neg (by omega)]; grind
          · rw [if_neg g1, if_neg g2]
            by_cases g3 : q = l
            · rw [if_pos g3, if_pos g3]
            · rw [if_neg g3, if_neg g3]; grind
theorem idp_clear {i : Nat} (h : idp n R) (hi : i < n) (ha : bfv n T (R i) (R i) ≠ 0) : ∀ m, m ≤ n → idp n (wyZ n T i m R)
  | 0, _ => by
    have e : wyZ n T i 0 R = R := by
      funext l
      exact if_neg (by omega)
    rw [e]
    exact h
  | m + 1, hm => by
    have ih := idp_clear h hi ha m (by omega)
    by_cases g : i < m
    · have e0 : wyZ n T i m R i = R i := if_neg (by omega)
      have e1 : wyZ n T i m R m = R m := if_neg (by omega)
      have := idp_step (T := T) (i := i) (k := m) ih hi (by omega) (by omega) (by rw [e0]; exact ha)
      rw [e0, e1] at this
      have e : wyZ n T i (m + 1) R = fun l => if l = m then wyN n T (R i) (R m) else wyZ n T i m R l := by
        funext l
        unfold wyZ
        by_cases g2 : l = m
        · rw [if_pos (by omega), if_pos g2, g2]
        · rw [if_neg g2]
          by_cases g3 : i < l ∧ l < m
          · rw [if_pos (by omega), if_pos g3]
          · rw [if_neg (by omega), if_neg g3]
      rw [e]
      exact this
    · have e : wyZ n T i (m + 1) R = wyZ n T i m R := by
        funext l
        unfold wyZ
        rw [if_neg (by omega), if_neg (by omega)]
      rw [e]
      exact ih
end ID
section STP
variable {n s : Nat} {T F : Nat → Nat → Int} {g : Nat → Int}
/-- a row after the clearing -/
theorem wy_step (hT : tSym n T) {r0 r u : Nat → Int} {m x m' x' : Int} {p p' : Nat → Int} (h0 : wyQ n s T F g r0 m x p) (ha : bfv n T r0 r0 ≠ 0) (hF : ∀ j, j < n → F s j = g j) (hr : wyQ n s T F u r m' x' p') (hp : prm n r) (hz : cnt n (wyV n T r0 r) ≠ 0) : (∃ m x p, wyQ n (s + 1) T F u (wyN n T r0 r) m x p) ∧ prm n (wyN n T r0 r) := by
  obtain ⟨h1, h2, h3, h4⟩ := h0
  obtain ⟨k1, k2, k3, k4⟩ := hr
  -- upright on r0 and on F is upright on g
  have up : ∀ v : Nat → Int, bfv n T v r0 = 0 → (∀ a, a < s → bfv n T v (F a) = 0) → bfv n T v (F s) = 0 := fun v q1 q2 => by
    have e1 : bfv n T v (F s) = bfv n T v g := bfv_congr (fun j _ => rfl) hF
    have e2 : m * bfv n T v r0 = x * bfv n T v g + sm s fun a => p a * bfv n T v (F a) := by
      rw [← bfv_mulr hT, ← bfv_mulr hT, ← bfv_smr hT, ← bfv_addr hT]
      exact bfv_congr (fun j _ => rfl) fun j hj => h3 j hj
    rw [q1, sm_zero (f := fun a => p a * bfv n T v (F a)) s fun a ha => by rw [q2 a ha, Int.mul_zero], Int.mul_zero, Int.add_zero] at e2
    rw [e1]
    rcases Int.mul_eq_zero.mp e2.symm with q | q
    · exact absurd q h2
    · exact q
  have ups : ∀ v : Nat → Int, bfv n T v r0 = 0 → (∀ a, a < s → bfv n T v (F a) = 0) → ∀ a, a < s + 1 → bfv n T v (F a) = 0 := fun v q1 q2 a ha => by
    rcases Nat.lt_or_ge a s with q | q
    · exact q2 a q
    · rw [show a = s by omega]; exact up v q1 q2
  by_cases hc : bfv n T r r0 = 0
  · have e : wyN n T r0 r = r := if_pos hc
    rw [e]
    refine ⟨⟨m', x', fun a => if a < s then p' a else 0, k1, k2, fun j hj => ?_, ups r hc k4⟩, hp⟩
    rw [k3 j hj, sm_succ]
    dsimp only
    rw [if_neg (by omega), Int.zero_mul, Int.add_zero]
    congr 1
    exact sm_eq s fun a ha => by rw [if_pos ha]
  · obtain ⟨al, be, g', a1, a2, a3, a4, a5⟩ := wyV_ex (r := r) ha
    have hg : (cnt n (wyV n T r0 r) : Int) ≠ 0 := by omega
    have hN : ∀ j, j < n → (cnt n (wyV n T r0 r) : Int) * wyN n T r0 r j = al * r j - be * r0 j := fun j hj => by
      unfold wyN
      rw [if_neg hc]
      have := Int.mul_ediv_cancel' (cnt_dvd (v := wyV n T r0 r) n j hj)
      rw [this, a5]
    have hprm : prm n (wyN n T r0 r) := by
      have := cnt_prm hz
      unfold wyN
      rw [if_neg hc]
      exact this
    revert hg hN
    generalize (cnt n (wyV n T r0 r) : Int) = ga
    intro hg hN
    have hB : ∀ v : Nat → Int, ga * bfv n T (wyN n T r0 r) v = al * bfv n T r v - be * bfv n T r0 v := fun v => by
      have e : ga * bfv n T (wyN n T r0 r) v = al * bfv n T r v + -be * bfv n T r0 v := by
        rw [← bfv_mull, ← bfv_mull, ← bfv_mull, ← bfv_addl]
        exact bfv_congr (fun j hj => by rw [hN j hj]; grind) fun j _ => rfl
      rw [e]
      grind
    have hz0 : ∀ v : Nat → Int, al * bfv n T r v - be * bfv n T r0 v = 0 → bfv n T (wyN n T r0 r) v = 0 := fun v q => by
      have := hB v
      rw [q] at this
      rcases Int.mul_eq_zero.mp this with q | q
      · exact absurd q hg
      · exact q
    have hr0 : bfv n T (wyN n T r0 r) r0 = 0 := hz0 _ (by
      rw [← a3, ← a4]
      grind)
    refine ⟨⟨m' * m * ga, m * al * x', fun a => if a < s then m * al * p' a - m' * be * p a else -(m' * be * x), fun q => ?_, fun q => ?_, fun j hj => ?_, ups _ hr0 fun a ha => hz0 _ (by rw [k4 a ha, h4 a ha]; grind)⟩, hprm⟩
    · rcases Int.mul_eq_zero.mp q with q | q
      · rcases Int.mul_eq_zero.mp q with q | q
        · exact k1 q
        · exact h1 q
      · exact hg q
    · rcases Int.mul_eq_zero.mp q with q | q
      · rcases Int.mul_eq_zero.mp q with q | q
        · exact h1 q
        · exact a1 q
      · exact k2 q
    · rw [Int.mul_assoc, hN j hj, sm_succ]
      dsimp only
      rw [if_neg (by omega), hF j hj]
      have e1 : sm s (fun a => (if a < s then m * al * p' a - m' * be * p a else -(m' * be * x)) * F a j) = m * al * sm s (fun a => p' a * F a j) + -(m' * be) * sm s (fun a => p a * F a j) := by
        rw [← sm_mul, ← sm_mul, ← sm_add]
        exact sm_eq s fun a ha => by rw [if_pos ha]; grind
      rw [e1]
      have e2 := h3 j hj
      have e3 := k3 j hj
      generalize sm s (fun a => p' a * F a j) = U at e3 ⊢
      generalize sm s (fun a => p a * F a j) = V at e2 ⊢
      grind
end STP
