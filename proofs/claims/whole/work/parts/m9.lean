/-! The class: below, just at, above; the greatest fraction not above a root. -/
theorem vs_3 {s : Nat → Int} (h : ∀ i, s i = -1 ∨ s i = 0 ∨ s i = 1) : ∀ n, ((vs s n).1 = -1 ∨ (vs s n).1 = 0 ∨ (vs s n).1 = 1) ∧ 0 ≤ (vs s n).2 ∧ (vs s n).2 ≤ n
  | 0 => ⟨Or.inr (Or.inl rfl), Int.le_refl 0, Int.le_refl 0⟩
  | n + 1 => by
    obtain ⟨h1, h2, h3⟩ := vs_3 h n
    by_cases g : s n = 0
    · rw [vs_pass g]
      exact ⟨h1, h2, by omega⟩
    · rw [vs_take g]
      have := h n
      refine ⟨this, ?_⟩
      show 0 ≤ (vs s n).2 + (if s n = -(vs s n).1 then 1 else 0) ∧ (vs s n).2 + (if s n = -(vs s n).1 then 1 else 0) ≤ ((n + 1 : Nat) : Int)
      split <;> omega
theorem isg_3 (z : Int) : isg z = -1 ∨ isg z = 0 ∨ isg z = 1 := by
  unfold isg
  repeat' split
  all_goals omega
theorem isg_z {z : Int} (h : isg z = 0) : z = 0 := by
  unfold isg at h
  by_cases g : z < 0
  · rw [if_pos g] at h
    omega
  · by_cases k : z = 0
    · exact k
    · rw [if_neg g, if_neg k] at h
      omega
theorem cN_len {α : Type} {p : α → Prop} : ∀ rs : List α, cN p rs ≤ rs.length
  | [] => Nat.le_refl 0
  | r :: rs => by
    have ih := cN_len (p := p) rs
    show cN p (r :: rs) ≤ rs.length + 1
    by_cases g : p r
    · rw [cN_pos g]
      omega
    · rw [cN_not g]
      omega
def wgS (x : Nat) : Prop := x = 324 ∨ (326 ≤ x ∧ x < 342)
section WG
variable {D x1 d : Nat} {u N : Nat → Int} {a b : Int} {Z : mjZ}
theorem ft_weigh0 {j0 : Nat} {q : mjZ → Prop} (hx : x1 = 255 ∨ x1 = 257) (h6 : d ≤ 6) (h0 : Z x1 0 = (d : Int)) (hu : ∀ i, i ≤ d → Z (x1 + 1) i = u i) (ub : ∀ k, bgA (u k) ≤ 46656000000000000) (ha : -1073741824 < a ∧ a < 1073741824) (hb : -1073741824 < b ∧ b < 1073741824) (hN : ∀ k, k ≤ d → pss a d (wst b d u) d k = N k) (hj : j0 ≤ d) (hz : ∀ i, i < j0 → N i = 0) (hj0 : N j0 ≠ 0) (hq : ∀ Z', wcS wgS Z Z' → Z' 324 3 = (j0 : Int) → Z' 324 4 = (vs (fun i => isg (N i)) (d + 1)).2 → Z' 324 2 = (d : Int) - (j0 : Int) - (vs (fun i => isg (N i)) (d + 1)).2 → q Z') : mjW0 (D + 6) 116 [yR 5 324, yR 3 x1, yI a, yI b] Z q := by
  refine mje_116 (d := D + 5) ?_
  refine ft_move (D := D) hx h6 h0 hu ub ha hb fun Z1 a1 a2 => ?_
  rw [h0]
  have sgn : ∀ k, k ≤ d → Z1 (325 + 3 + 2 * k) 0 = isg (N k) := fun k hk => by
    have h := (a2 k hk).sg
    rw [hN k hk] at h
    exact h
  have fin : ∀ Zc, (∀ x, x ≠ 324 → Zc x = Z1 x) → Zc 324 3 = (j0 : Int) → Zc 324 4 = 0 → mjL_116_66 (D + 5) x1 a b (d : Int) 0 0 Zc q := fun Zc g1 g2 g3 => by
    refine lp_inv (n := d + 1) (a := Zc) (L := fun i Zd => mjL_116_66 (D + 5) x1 a b (d : Int) (vs (fun i => isg (N i)) i).1 i Zd q) (Y := fun i Zd => (∀ x, x ≠ 324 → Zd x = Z1 x) ∧ Zd 324 3 = (j0 : Int) ∧ Zd 324 4 = (vs (fun i => isg (N i)) i).2) (fun i Zd hi hy hL => ?_) (fun Zd hy => ?_) ⟨g1, g2, g3⟩
    · obtain ⟨y1, y2, y3⟩ := hy
      obtain ⟨v1, v2, v3⟩ := vs_3 (s := fun i => isg (N i)) (fun i => isg_3 (N i)) i
      have c := isg_3 (N i)
      have up : ∀ v, v = (vs (fun i => isg (N i)) (i + 1)).2 → (∀ x, x ≠ 324 → mjUp Zd 324 4 v x = Z1 x) ∧ mjUp Zd 324 4 v 324 3 = (j0 : Int) ∧ mjUp Zd 324 4 v 324 4 = (vs (fun i => isg (N i)) (i + 1)).2 := fun v hv => ⟨fun x hx => by rw [mjUp_nc hx]; exact y1 x hx, by rw [mjUp_ne (fun _ => by decide)]; exact y2, by rw [mjUp_at]; exact hv⟩
      refine mjl_116_66 ?_
      rw [y1 (325 + 3 + 2 * i) (by omega), sgn i (by omega), y3]
      by_cases g : isg (N i) = 0
      · have e : vs (fun i => isg (N i)) (i + 1) = vs (fun i => isg (N i)) i := vs_pass g
        refine ⟨by omega, by omega, fun h => by omega, fun _ => ⟨by omega, by omega, by omega, fun _ => ?_, fun h => absurd g h⟩⟩
        have := hL Zd ⟨y1, y2, by rw [e]; exact y3⟩
        rw [e] at this
        exact this
      · have e : vs (fun i => isg (N i)) (i + 1) = (isg (N i), (vs (fun i => isg (N i)) i).2 + if isg (N i) = -(vs (fun i => isg (N i)) i).1 then 1 else 0) := vs_take g
        refine ⟨by omega, by omega, fun h => by omega, fun _ => ⟨by omega, by omega, by omega, fun h => absurd h g, fun _ => ⟨by omega, fun h => ?_, fun h => ?_⟩⟩⟩
        · have := hL _ (up ((vs (fun i => isg (N i)) i).2 + 0) (by rw [e, if_neg h]))
          rw [e] at this
          exact this
        · have h := Decidable.not_not.mp h
          have := hL _ (up ((vs (fun i => isg (N i)) i).2 + 1) (by rw [e, if_pos h]))
          rw [e] at this
          exact this
    · obtain ⟨y1, y2, y3⟩ := hy
      refine mjl_116_66 ⟨by omega, by omega, fun _ => ?_, fun g => by omega⟩
      rw [y2, y3]
      refine hq _ (fun x hx => ?_) (by rw [mjUp_ne (fun _ => by decide)]; exact y2) (by rw [mjUp_ne (fun _ => by decide)]; exact y3) mjUp_at
      unfold wgS at hx
      rw [mjUp_nc (by omega), y1 x (by omega)]
      exact a1 x (by unfold mvS; omega)
  have zer : ∀ s i Zc, i + s = j0 → (∀ x, x ≠ 324 → Zc x = Z1 x) → Zc 324 3 = (i : Int) → mjL_116_18 (D + 5) x1 a b (d : Int) Zc q := fun s => by
    induction s with
    | zero =>
      intro i Zc hi y1 y2
      obtain rfl : i = j0 := by omega
      have go : mjL_116_66 (D + 5) x1 a b (d : Int) 0 0 (mjUp Zc 324 4 0) q := fin _ (fun x hx => by rw [mjUp_nc hx]; exact y1 x hx) (by rw [mjUp_ne (fun _ => by decide)]; exact y2) mjUp_at
      refine mjl_116_18 ?_
      rw [y2, show ((i : Int)).toNat = i from rfl, y1 (325 + 3 + 2 * i) (by omega), sgn i hj]
      have c := isg_3 (N i)
      refine ⟨by omega, by omega, fun _ => go, fun _ => ⟨by omega, by omega, by omega, fun _ => go, fun h => ?_⟩⟩
      exfalso
      exact hj0 (isg_z (Decidable.not_not.mp h))
    | succ s ih =>
      intro i Zc hi y1 y2
      refine mjl_116_18 ?_
      have z : isg (N i) = 0 := by
        rw [hz i (by omega)]
        rfl
      rw [y2, show ((i : Int)).toNat = i from rfl, y1 (325 + 3 + 2 * i) (by omega), sgn i (by omega), z]
      refine ⟨by omega, by omega, fun h => by omega, fun _ => ⟨by omega, by omega, by omega, fun h => absurd rfl h, fun _ => ?_⟩⟩
      exact ih (i + 1) _ (by omega) (fun x hx => by rw [mjUp_nc hx]; exact y1 x hx) (by rw [mjUp_at]; omega)
  exact zer j0 0 _ (by omega) (fun x hx => mjUp_nc hx) mjUp_at
theorem ft_weigh {K : Type} [Lean.Grind.Field K] [LE K] [LT K] [Std.LawfulOrderLT K] [Std.IsLinearOrder K] [Lean.Grind.OrderedRing K] {rs : List K} {q : mjZ → Prop} (hp : isP u rs) (hd : rs.length = d) (hx : x1 = 255 ∨ x1 = 257) (h6 : d ≤ 6) (h0 : Z x1 0 = (d : Int)) (hu : ∀ i, i ≤ d → Z (x1 + 1) i = u i) (ub : ∀ k, bgA (u k) ≤ 46656000000000000) (ha : -1073741824 < a ∧ a < 1073741824) (hb : -1073741824 < b ∧ b < 1073741824) (hq : ∀ Z', wcS wgS Z Z' → Z' 324 2 = (nLo a b rs : Int) → Z' 324 3 = (nAt a b rs : Int) → Z' 324 4 = (nHi a b rs : Int) → q Z') : mjW0 (D + 6) 116 [yR 5 324, yR 3 x1, yI a, yI b] Z q := by
  subst hd
  obtain ⟨w1, w2, w3, w4, w5⟩ := weigh (u := u) (N := fun k => pss a rs.length (wst b rs.length u) rs.length k) (a := a) (b := b) (rs := rs) fun k hk => pss_plc hp k hk
  refine ft_weigh0 (j0 := nAt a b rs) hx h6 h0 hu ub ha hb (fun _ _ => rfl) (by omega) w3 w4 fun Z' g1 g2 g3 g4 => ?_
  rw [w1] at g3 g4
  exact hq Z' g1 (by omega) g2 g3
/-- between what is not above and what is -/
theorem ft_great {K : Type} [Lean.Grind.Field K] [LE K] [LT K] [Std.LawfulOrderLT K] [Std.IsLinearOrder K] [Lean.Grind.OrderedRing K] {rs : List K} {i m : Int} {q : Int → mjZ → Prop} (hp : isP u rs) (hd : rs.length = d) (hx : x1 = 255 ∨ x1 = 257) (h6 : d ≤ 6) (h0 : Z x1 0 = (d : Int)) (hu : ∀ i, i ≤ d → Z (x1 + 1) i = u i) (ub : ∀ k, bgA (u k) ≤ 46656000000000000) (hb : 1 ≤ b ∧ b ≤ 1048576) (hi : 0 ≤ i ∧ i < 2147483648) (hm : -601 * b ≤ m ∧ m < 601 * b) (h1 : (nLo m b rs : Int) ≤ i) (h2 : i < (nLo (m + 1) b rs : Int)) (hq : ∀ Z', wcS wgS Z Z' → q m Z') : mjW1 (D + 7) 119 [yR 5 324, yR 3 x1, yI i, yI b] Z q := by
  refine mje_119 (d := D + 6) ?_
  have turn : ∀ s t lo hi Zc, t + s = 31 → lo ≤ m → m < hi → -601 * b ≤ lo → hi ≤ 601 * b → hi - lo ≤ 2 ^ s → wcS wgS Z Zc → mjL_119_17 (D + 6) x1 i b lo hi t Zc q := fun s => by
    induction s with
    | zero =>
      intro t lo hi Zc ht g1 g2 g3 g4 g5 g6
      have : (2 : Int) ^ 0 = 1 := rfl
      have e : lo = m := by omega
      subst e
      exact mjl_119_17 ⟨by omega, fun _ => hq Zc g6, fun _ => ⟨by omega, fun _ => hq Zc g6, fun g => by omega⟩⟩
    | succ s ih =>
      intro t lo hi Zc ht g1 g2 g3 g4 g5 g6
      rw [Int.pow_succ] at g5
      by_cases one : hi - lo ≤ 1
      · have e : lo = m := by omega
        subst e
        exact mjl_119_17 ⟨by omega, fun _ => hq Zc g6, fun _ => ⟨by omega, fun _ => hq Zc g6, fun g => by omega⟩⟩
      · have td : Int.tdiv (hi - lo) 2 = (hi - lo) / 2 := Int.tdiv_eq_ediv_of_nonneg (by omega)
        refine mjl_119_17 ⟨by omega, fun g => by omega, fun _ => ⟨by omega, fun g => absurd g one, fun _ => ?_⟩⟩
        rw [td]
        obtain ⟨md, hmd⟩ : ∃ md, lo + (hi - lo) / 2 = md := ⟨_, rfl⟩
        rw [hmd]
        have c0 : Zc x1 0 = (d : Int) := by rw [g6 x1 (by unfold wgS; omega)]; exact h0
        have c1 : ∀ i, i ≤ d → Zc (x1 + 1) i = u i := fun i hi => by rw [g6 (x1 + 1) (by unfold wgS; omega)]; exact hu i hi
        refine ft_weigh (D := D) hp hd hx h6 c0 c1 ub (by omega) (by omega) fun Z3 k1 k2 _ _ => ?_
        have le : nLo md b rs ≤ d := by
          rw [← hd, ← mv_len (a := md) (b := b)]
          exact cN_len _
        rw [k2]
        refine ⟨by omega, by omega, fun g => ?_, fun g => ?_⟩
        · refine ih (t + 1) lo md Z3 (by omega) g1 ?_ g3 (by omega) (by omega) (g6.tr k1)
          refine Classical.byContradiction fun n => ?_
          have := nLo_mono (rs := rs) (b := b) (show md ≤ m by omega)
          omega
        · refine ih (t + 1) md hi Z3 (by omega) ?_ g2 (by omega) g4 (by omega) (g6.tr k1)
          refine Classical.byContradiction fun n => ?_
          have := nLo_mono (rs := rs) (b := b) (show m + 1 ≤ md by omega)
          omega
  refine turn 31 0 (-601 * b) (601 * b) Z rfl hm.1 hm.2 (Int.le_refl _) (Int.le_refl _) ?_ wcS.rf
  rw [show (2 : Int) ^ 31 = 2147483648 by decide]
  omega
theorem ft_just {K : Type} [Lean.Grind.Field K] [LE K] [LT K] [Std.LawfulOrderLT K] [Std.IsLinearOrder K] [Lean.Grind.OrderedRing K] {rs : List K} {i m : Int} {q : Int → mjZ → Prop} (hp : isP u rs) (hd : rs.length = d) (hx : x1 = 255 ∨ x1 = 257) (h6 : d ≤ 6) (h0 : Z x1 0 = (d : Int)) (hu : ∀ i, i ≤ d → Z (x1 + 1) i = u i) (ub : ∀ k, bgA (u k) ≤ 46656000000000000) (ha : -1073741824 < m ∧ m < 1073741824) (hb : -1073741824 < b ∧ b < 1073741824) (hi : 0 ≤ i ∧ i < 2147483648) (hq : ∀ Z', wcS wgS Z Z' → q (if (nAt m b rs : Int) = 1 ∧ (nLo m b rs : Int) = i then 1 else 0) Z') : mjW1 (D + 7) 120 [yR 5 324, yR 3 x1, yI i, yI m, yI b] Z q := by
  refine mje_120 (d := D + 6) (ft_weigh (D := D) hp hd hx h6 h0 hu ub ha hb fun Z3 k1 k2 k3 _ => ?_)
  have e := hq Z3 k1
  have l1 : nLo m b rs ≤ d := by
    rw [← hd, ← mv_len (a := m) (b := b)]
    exact cN_len _
  have l2 : nAt m b rs ≤ d := by
    rw [← hd, ← mv_len (a := m) (b := b)]
    exact cN_len _
  rw [k2, k3]
  refine ⟨by omega, fun g => ?_, fun g => ⟨by omega, by omega, fun g2 => ?_, fun g2 => ?_⟩⟩
  · rw [if_neg fun h => g h.1] at e
    exact e
  · rw [if_neg fun h => g2 h.2] at e
    exact e
  · rw [if_pos ⟨Decidable.not_not.mp g, Decidable.not_not.mp g2⟩] at e
    exact e
end WG
