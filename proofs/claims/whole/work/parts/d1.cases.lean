/-! Cases: flow. -/
theorem fo_pair {α β : Type} {f : Nat → α → α} {h : Nat → β → β} {a : α} {b : β} : ∀ n, fo (fun k (p : α × β) => (f k p.1, h k p.2)) n (a, b) = (fo f n a, fo h n b)
  | 0 => rfl
  | n + 1 => by
    show (f n (fo (fun k (p : α × β) => (f k p.1, h k p.2)) n (a, b)).1, h n (fo (fun k (p : α × β) => (f k p.1, h k p.2)) n (a, b)).2) = _
    rw [fo_pair n]
    rfl
/-- a row's sum -/
def flS (N : Nat → Nat → Int) (n i : Nat) : Int := fo (fun j s => s + N i j) n 0
theorem flS_succ {N : Nat → Nat → Int} {n i : Nat} : flS N (n + 1) i = flS N n i + N i n := rfl
theorem flS_bd {N : Nat → Nat → Int} {n i : Nat} (h : ∀ k, k < n → 0 ≤ N i k ∧ N i k ≤ 1) : ∀ m, m ≤ n → 0 ≤ flS N m i ∧ flS N m i ≤ m
  | 0, _ => by show (0 : Int) ≤ 0 ∧ (0 : Int) ≤ ((0 : Nat) : Int); omega
  | m + 1, hm => by
    have := flS_bd h m (by omega)
    have := h m (by omega)
    rw [flS_succ]
    omega
theorem flS_cong {N M : Nat → Nat → Int} {n i : Nat} (h : ∀ k, k < n → N i k = M i k) : ∀ m, m ≤ n → flS N m i = flS M m i
  | 0, _ => rfl
  | m + 1, hm => by rw [flS_succ, flS_succ, flS_cong h m (by omega), h m (by omega)]
/-- the class's row, and the reference's -/
def flC (N : Nat → Nat → Int) (n i : Nat) (g : Nat → Int) : Nat → Int := va_up (fo (fun k g => va_up g (6 * i + k) (-(N i k))) n g) (6 * i + i) (flS N n i)
def flK (N : Nat → Nat → Int) (i k : Nat) (g : Nat → Int) : Nat → Int := va_up (va_up g (6 * i + i) (g (6 * i + i) + N i k)) (6 * i + k) ((va_up g (6 * i + i) (g (6 * i + i) + N i k)) (6 * i + k) - N i k)
def flT (N : Nat → Nat → Int) (n i k : Nat) : Int := if i = k then flS N n i else -(N i k)
theorem flC_val {N : Nat → Nat → Int} {n : Nat} {g : Nat → Int} (h6 : n ≤ 6) : ∀ m, m ≤ n → ∀ j, fo (flC N n) m g j = if j / 6 < m ∧ j % 6 < n then flT N n (j / 6) (j % 6) else g j
  | 0, _, j => by rw [if_neg (by omega)]; rfl
  | m + 1, hm, j => by
    show (if j = 6 * m + m then flS N n m else fo (fun k g => va_up g (6 * m + k) (-(N m k))) n (fo (flC N n) m g) j) = _
    by_cases h : j = 6 * m + m
    · rw [if_pos h, if_pos (by omega), show j / 6 = m by omega, show j % 6 = m by omega]
      unfold flT
      rw [if_pos rfl]
    · rw [if_neg h, rF1 (x := fun k => -(N m k)) h6 n (Nat.le_refl _), flC_val h6 m (by omega)]
      by_cases h1 : j / 6 = m ∧ j % 6 < n
      · rw [if_pos h1, if_pos (by omega), h1.1]
        unfold flT
        rw [if_neg (by omega)]
      · rw [if_neg h1]
        by_cases h2 : j / 6 < m ∧ j % 6 < n
        · rw [if_pos h2, if_pos (by omega)]
        · rw [if_neg h2, if_neg (by omega)]
theorem flK1 {N : Nat → Nat → Int} {n i : Nat} {g : Nat → Int} (h6 : n ≤ 6) (hi : i < n) (hd : N i i = 0) : ∀ m, m ≤ n → ∀ j, fo (flK N i) m g j = if j = 6 * i + i then g j + flS N m i else if j / 6 = i ∧ j % 6 < m then g j - N i (j % 6) else g j
  | 0, _, j => by
    rw [if_neg (show ¬ (j / 6 = i ∧ j % 6 < 0) by omega), show flS N 0 i = 0 from rfl, Int.add_zero, ite_self]
    rfl
  | m + 1, hm, j => by
    have ih := flK1 (g := g) h6 hi hd m (by omega)
    show (if j = 6 * i + m then (if 6 * i + m = 6 * i + i then fo (flK N i) m g (6 * i + i) + N i m else fo (flK N i) m g (6 * i + m)) - N i m else (if j = 6 * i + i then fo (flK N i) m g (6 * i + i) + N i m else fo (flK N i) m g j)) = _
    rw [flS_succ]
    by_cases hmi : m = i
    · subst hmi
      rw [hd, if_pos rfl]
      by_cases h : j = 6 * m + m
      · rw [if_pos h, if_pos h, ih, if_pos rfl, h]; omega
      · rw [if_neg h, if_neg h, if_neg h, ih, if_neg h]
        by_cases h2 : j / 6 = m ∧ j % 6 < m
        · rw [if_pos h2, if_pos (by omega)]
        · rw [if_neg h2, if_neg (by omega)]
    · rw [if_neg (show ¬ 6 * i + m = 6 * i + i by omega)]
      by_cases h : j = 6 * i + i
      · rw [if_neg (by omega), if_pos h, if_pos h, ih, if_pos rfl, h]; omega
      · rw [if_neg h, if_neg h]
        by_cases h2 : j = 6 * i + m
        · rw [if_pos h2, if_pos (by omega), ih, if_neg (by omega), if_neg (by omega), h2, show (6 * i + m) % 6 = m by omega]
        · rw [if_neg h2, ih, if_neg h]
          by_cases h3 : j / 6 = i ∧ j % 6 < m
          · rw [if_pos h3, if_pos (by omega)]
          · rw [if_neg h3, if_neg (by omega)]
theorem flK_val {N : Nat → Nat → Int} {n : Nat} {g : Nat → Int} (h6 : n ≤ 6) (hd : ∀ i, i < n → N i i = 0) (hg : ∀ j, j < 36 → g j = 0) : ∀ m, m ≤ n → ∀ j, j < 36 → fo (fun i g => fo (flK N i) n g) m g j = if j / 6 < m ∧ j % 6 < n then flT N n (j / 6) (j % 6) else 0
  | 0, _, j, hj => by rw [if_neg (by omega)]; exact hg j hj
  | m + 1, hm, j, hj => by
    show fo (flK N m) n (fo (fun i g => fo (flK N i) n g) m g) j = _
    rw [flK1 h6 (by omega) (hd m (by omega)) n (Nat.le_refl _), flK_val h6 hd hg m (by omega) j hj]
    by_cases h : j = 6 * m + m
    · rw [if_pos h, if_neg (by omega), if_pos (by omega), show j / 6 = m by omega, show j % 6 = m by omega]
      unfold flT
      rw [if_pos rfl]
      omega
    · rw [if_neg h]
      by_cases h1 : j / 6 = m ∧ j % 6 < n
      · rw [if_pos h1, if_neg (by omega), if_pos (by omega), h1.1]
        unfold flT
        rw [if_neg (by omega)]
        omega
      · rw [if_neg h1]
        by_cases h2 : j / 6 < m ∧ j % 6 < n
        · rw [if_pos h2, if_pos (by omega)]
        · rw [if_neg h2, if_neg (by omega)]
section FL
variable {d n m t c e : Nat} {Z : mjZ}
theorem tb_becomeFlow {q : mjZ → Prop} (hn : tN Z c n) (he : tN Z e n) (hx : e ≠ c ∧ e ≠ c + 1 ∧ c ≠ e + 1) (hq : q (mjRow Z (c + 1) (fo (flC (tE Z e) n) n (Z (c + 1))))) : mjW0 (d + 3) 53 [yR 6 c, yR 6 e] Z q := by
  have h6 := hn.2.2
  have hnc : ∀ G, mjRow Z (c + 1) G c 0 = (n : Int) := fun G => (hn.row (show c ≠ c + 1 by omega)).1
  have eE : ∀ G, tE (mjRow Z (c + 1) G) e = tE Z e := fun G => by
    funext i k
    exact congrFun (mjRow_ne (by omega)) _
  refine mje_53 (d := d + 2) ?_
  refine lp_row (A := c + 1) (n := n) (f := flC (tE Z e) n) (L := fun i Z => mjL_53_2 (d + 2) c e i Z q) (fun i g hi hL => ?_) ?_
  · refine mjl_53_2 ?_
    rw [hnc]
    refine ⟨by omega, by omega, fun h => by omega, fun _ => ?_⟩
    refine lp_fold0 (n := n) (α := Int × (Nat → Int)) (f := fun k p => (p.1 + tE Z e i k, va_up p.2 (6 * i + k) (-(tE Z e i k)))) (L := fun k p => mjL_53_15 (d + 2) c e i p.1 k (mjRow Z (c + 1) p.2) q) (a := (0, g)) (fun k p hk hL2 => ?_) ?_
    · have he2 := he.row (A := c + 1) (g := p.2) (by omega)
      have hn2 := hn.row (A := c + 1) (g := p.2) (by omega)
      refine mjl_53_15 ?_
      rw [hnc]
      refine ⟨by omega, by omega, fun h => by omega, fun _ => tb_number (d := d) he2 hi hk (tb_number (d := d) he2 hi hk (tb_write (d := d) hn2 hi hk ?_))⟩
      rw [mjRow_up, eE]
      exact hL2
    · rw [fo_pair (f := fun k s => s + tE Z e i k) (h := fun k g => va_up g (6 * i + k) (-(tE Z e i k)))]
      refine mjl_53_15 ?_
      rw [hnc]
      refine ⟨by omega, by omega, fun _ => tb_write (d := d) (hn.row (by omega)) hi hi ?_, fun h => by omega⟩
      rw [mjRow_up]
      exact hL
  · refine mjl_53_2 ?_
    rw [hnc]
    exact ⟨by omega, by omega, fun _ => hq, fun h => by omega⟩
theorem fm_flowL {q : Int → mjZ → Prop} (ht : t < 60) (hn : Z 469 t = (n : Int)) (h1 : 1 ≤ n) (h6 : n ≤ 6) (hq : mjW1 (d + 1) 178 [yR 11 464, yI (n : Int), yI 4] (mjRow Z 471 (fo (fun i g => fo (flK (fun i k => Z 470 (36 * t + 6 * i + k)) i) n g) n (Z 471))) (fun v5 Z5 => q v5 Z5)) : mjL_187_46 (d + 1) (t : Int) 0 Z q := by
  have hr : ∀ G, mjRow Z 471 G 469 t = (n : Int) := fun G => by rw [mjRow_ne (by decide)]; exact hn
  have e0 : ∀ G, mjRow Z 471 G 470 = Z 470 := fun G => mjRow_ne (by decide)
  refine lp_row (A := 471) (n := n) (f := fun i g => fo (flK (fun i k => Z 470 (36 * t + 6 * i + k)) i) n g) (L := fun i Z => mjL_187_46 (d + 1) (t : Int) i Z q) (fun i g hi hL => ?_) ?_
  · refine mjl_187_46 ?_
    rw [show ((t : Int)).toNat = t from rfl, hr]
    refine ⟨by omega, by omega, by omega, by omega, fun h => by omega, fun _ => ?_⟩
    refine lp_fold0 (n := n) (f := flK (fun i k => Z 470 (36 * t + 6 * i + k)) i) (L := fun k g => mjL_187_58 (d + 1) (t : Int) i k (mjRow Z 471 g) q) (a := g) (fun k g hk hL2 => ?_) ?_
    · refine mjl_187_58 ?_
      rw [show ((t : Int)).toNat = t from rfl, hr]
      refine ⟨by omega, by omega, by omega, by omega, fun h => by omega, fun _ => ⟨by omega, by omega, fm_number (d := d) ht (by omega) (by omega) ⟨by omega, by omega, ?_⟩⟩⟩
      rw [show ((6 * (i : Int)) + (i : Int)).toNat = 6 * i + i by omega, show ((6 * (i : Int)) + (k : Int)).toNat = 6 * i + k by omega, mjRow_up, mjRow_at, e0]
      refine fm_number (d := d) ht (by omega) (by omega) ?_
      rw [mjRow_up, mjRow_at, e0]
      exact hL2
    · refine mjl_187_58 ?_
      rw [show ((t : Int)).toNat = t from rfl, hr]
      exact ⟨by omega, by omega, by omega, by omega, fun _ => hL, fun h => by omega⟩
  · refine mjl_187_46 ?_
    rw [show ((t : Int)).toNat = t from rfl, hr]
    exact ⟨by omega, by omega, by omega, by omega, fun _ => hq, fun h => by omega⟩
end FL
theorem kpC_four {m : Nat} {x y : Int} {Z : mjZ} : mjUp (kpC m x Z) (35 + 2 * m) 1 y = kpC m y Z := by
  unfold kpC
  funext a k
  unfold mjUp
  by_cases h1 : a = 35 + 2 * m ∧ k = 1
  · rw [if_pos h1, if_neg (by omega), if_pos h1]
  · rw [if_neg h1]
    by_cases h2 : a = 0 ∧ k = 2
    · rw [if_pos h2, if_pos h2]
    · rw [if_neg h2, if_neg h2, if_neg h1, if_neg h1]
theorem iv_flow_ok : iv_flow INV := fun Z x1 hI => by
  obtain ⟨m, a1, a2, a3, a4⟩ := id hI.2.1
  have hx := i32r x1
  refine mje_52 (d := 9) (fc_tableAt (d := 8) a2 a1 hx (fun h => ?_) fun t ht htm => ?_)
  · refine mje_187 (d := 9) (fm_isTable (d := 7) a3 a1 hx ?_)
    rw [if_neg h]
    exact ⟨by omega, fun g => absurd rfl g, fun _ => ⟨rfl, hI⟩⟩
  · obtain ⟨n, b1, b2, b3, b4, b5, b6, b7⟩ := a4 t htm
    have hn6 := b1.2.2
    have hn1 := b1.2.1
    have b10 := b1.1
    have hk4 : 0 ≤ Z (35 + 2 * t) 1 ∧ Z (35 + 2 * t) 1 ≤ 4 := by
      rcases b7 with (⟨g, -⟩ | ⟨g, -⟩ | ⟨g, -⟩ | ⟨g, -⟩) | ⟨g, -⟩ <;> omega
    have e0 : ((t : Int)).toNat = t := rfl
    rw [ht]
    have go : ∀ (Z1 : mjZ) (q : Int → mjZ → Prop), Z1 464 3 = (m : Int) → Z1 468 t = Z (35 + 2 * t) 1 → (m = 60 → q (-104) Z1) → (m ≠ 60 → Z (35 + 2 * t) 1 ≠ 3 → mjW1 9 170 [yR 11 464, yI 8] Z1 (fun v8 Z8 => q v8 Z8)) → (m ≠ 60 → Z (35 + 2 * t) 1 = 3 → mjW0 9 174 [yR 11 464] Z1 (fun Z7 => mjL_187_46 9 (t : Int) 0 Z7 q)) → mjW1 10 187 [yR 11 464, yI (t : Int)] Z1 q := fun Z1 q g3 g8 h1 h2 h3 => by
      refine mje_187 (d := 9) (fm_isTable (d := 7) (m := m) g3 a1 (by omega) ?_)
      rw [if_pos (by omega), e0, g8]
      exact ⟨by omega, fun _ => ⟨by omega, fun g => ⟨by omega, by omega, by omega, fun k => h3 (by omega) k, fun k => h2 (by omega) k⟩, fun g => h1 (by omega)⟩, fun g => by omega⟩
    refine fc_isFull (d := 8) a2 a1 ?_
    by_cases hm : m = 60
    · rw [if_pos hm]
      exact ⟨by omega, fun g => by omega, fun _ => go _ _ a3 b3 (fun _ => ⟨rfl, hI⟩) (fun g => absurd hm g) (fun g => absurd hm g)⟩
    · rw [if_neg hm]
      refine ⟨by omega, fun _ => ⟨by omega, fun h3 => ?_, fun h3 => fc_found (d := 8) (f := 8) (by omega) (go _ _ (by rw [fdC_ne (by decide) (by decide)]; exact a3) (by rw [fdC_ne (by decide) (by decide)]; exact b3) (fun g => absurd g hm) (fun _ _ => fm_finds (d := 8) (f := 8) (by omega) ⟨rfl, INV_fd (by omega) hI⟩) (fun _ g => absurd g h3))⟩, fun g => absurd rfl g⟩
      rw [b10]
      have hL : ¬ tSlant n (tE Z (35 + 2 * t)) ∧ tLines n (tE Z (35 + 2 * t)) := by
        rcases b7 with (⟨g, -⟩ | ⟨g, g1, g2⟩ | ⟨g, -⟩ | ⟨g, -⟩) | ⟨g, -⟩
        · omega
        · exact ⟨g1, g2⟩
        · omega
        · omega
        · omega
      have hd : ∀ i, i < n → tE Z (35 + 2 * t) i i = 0 := fun i hi => (hL.2 i i hi hi).resolve_right fun g => g.2 rfl
      have h01 : ∀ i k, i < n → k < n → 0 ≤ tE Z (35 + 2 * t) i k ∧ tE Z (35 + 2 * t) i k ≤ 1 := fun i k hi hk => by
        rcases hL.2 i k hi hk with g | ⟨g, -⟩ <;> omega
      have eT : tE (drC m n Z) (35 + 2 * t) = tE Z (35 + 2 * t) := by
        funext i k
        exact congrFun (drC_ne (by omega) (by omega)) _
      refine fc_draft (d := 6) a2 (by omega) hn1 hn6 ?_
      refine tb_becomeFlow (d := 6) (drC_n hn1 hn6) (by unfold tN; rw [drC_ne (by omega) (by omega)]; exact b1) (by omega) ?_
      rw [drC_row, eT]
      generalize eGG : fo (flC (tE Z (35 + 2 * t)) n) n (drC m n Z (35 + 2 * m + 1)) = G
      have hG : ∀ i k, i < n → k < n → G (6 * i + k) = flT (tE Z (35 + 2 * t)) n i k := fun i k hi hk => by
        rw [← eGG, flC_val hn6 n (Nat.le_refl _), if_pos (by omega), show (6 * i + k) / 6 = i by omega, show (6 * i + k) % 6 = k by omega]
      have hb : ∀ i k, i < n → k < n → -100 ≤ G (6 * i + k) ∧ G (6 * i + k) ≤ 100 := fun i k hi hk => by
        rw [hG i k hi hk]
        unfold flT
        have := h01 i k hi hk
        have := flS_bd (n := n) (fun k hk => h01 i k hi hk) n (Nat.le_refl _)
        split <;> omega
      have hs : tSym n (fun i k => G (6 * i + k)) := fun i k hi hk => by
        show G (6 * i + k) = G (6 * k + i)
        rw [hG i k hi hk, hG k i hk hi]
        unfold flT
        by_cases h : i = k
        · rw [h]
        · rw [if_neg h, if_neg (fun g => h g.symm), b5 i k hi hk]
      have eT2 : tE (drW m n G Z) (35 + 2 * m) = fun i k => G (6 * i + k) := by
        funext i k
        exact drW_t
      refine fc_keep (d := 2) (by rw [drW_ne (by omega) (by omega)]; exact a2) (drW_n hn1 hn6) (fun i k hi hk => by rw [drW_t]; have := hb i k hi hk; omega) (by rw [eT2]; exact hs) fun x hx => ?_
      rw [kpC_four]
      have ek : ∀ c, c ≠ 0 → c ≠ 35 + 2 * m → c ≠ 35 + 2 * m + 1 → kpC m 4 (drW m n G Z) c = Z c := fun c g0 g1 g2 => by rw [kpC_ne g0 g1, drW_ne g1 g2]
      have k3 : kpC m 4 (drW m n G Z) 464 3 = (m : Int) := by rw [ek _ (by decide) (by omega) (by omega)]; exact a3
      have k8 : kpC m 4 (drW m n G Z) 468 t = Z (35 + 2 * t) 1 := by rw [ek _ (by decide) (by omega) (by omega)]; exact b3
      have k9 : kpC m 4 (drW m n G Z) 469 t = (n : Int) := by rw [ek _ (by decide) (by omega) (by omega)]; exact b2
      refine go _ _ k3 k8 (fun g => absurd g hm) (fun _ g => absurd h3 g) (fun _ _ => fm_emptyMade (d := 8) ?_)
      refine fm_flowL (d := 8) (by omega) (by rw [mjRow_ne (by decide)]; exact k9) hn1 hn6 ?_
      have u0 : mjRow (kpC m 4 (drW m n G Z)) 471 (zRow (kpC m 4 (drW m n G Z) 471)) 470 = Z 470 := by rw [mjRow_ne (by decide), ek _ (by decide) (by omega) (by omega)]
      have u1 : mjRow (kpC m 4 (drW m n G Z)) 471 (zRow (kpC m 4 (drW m n G Z) 471)) 471 = zRow (Z 471) := by rw [mjRow_at, ek _ (by decide) (by omega) (by omega)]
      rw [u0, u1, mjRow_row]
      have hN : ∀ i k, i < n → k < n → Z 470 (36 * t + 6 * i + k) = tE Z (35 + 2 * t) i k := fun i k hi hk => (b4 i k hi hk).1.symm
      have hH := flK_val (N := fun i k => Z 470 (36 * t + 6 * i + k)) (g := zRow (Z 471)) hn6 (fun i hi => by rw [hN i i hi hi]; exact hd i hi) (fun j hj => by rw [zRow_val, if_pos hj]) n (Nat.le_refl _)
      generalize fo (fun i g => fo (flK (fun i k => Z 470 (36 * t + 6 * i + k)) i) n g) n (zRow (Z 471)) = H at *
      have hHG : ∀ i k, i < n → k < n → H (6 * i + k) = G (6 * i + k) := fun i k hi hk => by
        rw [hH _ (by omega), if_pos (by omega), show (6 * i + k) / 6 = i by omega, show (6 * i + k) % 6 = k by omega, hG i k hi hk]
        unfold flT
        rw [flS_cong (M := tE Z (35 + 2 * t)) (fun k hk => hN i k hi hk) n (Nat.le_refl _)]
        dsimp only
        rw [hN i k hi hk]
      have z3 : mjRow (kpC m 4 (drW m n G Z)) 471 H 464 3 = (m : Int) := by rw [mjRow_ne (by decide)]; exact k3
      refine fm_come (d := 8) (n := n) (x := 4) z3 (by omega) ⟨rfl, INV_made hI a2 (by omega) hn1 hn6 hb hs hHG (fun j hj hn => by rw [hH j hj, if_neg hn]) (Or.inr ⟨rfl, tE Z (35 + 2 * t), b5, hL.2, hL.1, fun i k hi hk => hG i k hi hk⟩)⟩
