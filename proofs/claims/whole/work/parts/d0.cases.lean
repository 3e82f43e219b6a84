/-! Cases: weave. -/
section WV
variable {d n p m t u : Nat} {Z : mjZ}
theorem fm_weaveL {q : Int → mjZ → Prop} (ht : t < 60) (hu : u < 60) (h1 : 1 ≤ n) (h2 : 1 ≤ p) (h6 : n + p ≤ 6) (hq : mjW1 (d + 1) 177 [yR 11 464, yI ((n : Int) + (p : Int))] (mjRow Z 471 (rL n p (fun i k => Z 470 (36 * u + 6 * i + k)) (rL 0 n (fun i k => Z 470 (36 * t + 6 * i + k)) (Z 471)))) (fun v5 Z5 => mjW1 (d + 1) 178 [yR 11 464, yI ((n : Int) + (p : Int)), yI v5] Z5 (fun v6 Z6 => q v6 Z6))) : mjL_194_65 (d + 1) (t : Int) (u : Int) (n : Int) (p : Int) 0 Z q := by
  refine lp_row (A := 471) (n := n) (f := fun i g => fo (fun k g => va_up g (6 * (0 + i) + (0 + k)) (Z 470 (36 * t + 6 * i + k))) n g) (L := fun i Z => mjL_194_65 (d + 1) (t : Int) (u : Int) (n : Int) (p : Int) i Z q) (fun i g hi hL => ?_) ?_
  · refine mjl_194_65 ⟨by omega, by omega, fun h => by omega, fun _ => ?_⟩
    refine lp_fold0 (n := n) (f := fun k g => va_up g (6 * (0 + i) + (0 + k)) (Z 470 (36 * t + 6 * i + k))) (L := fun k g => mjL_194_74 (d + 1) (t : Int) (u : Int) (n : Int) (p : Int) i k (mjRow Z 471 g) q) (a := g) (fun k g hk hL2 => ?_) ?_
    · have e0 : mjRow Z 471 g 470 = Z 470 := mjRow_ne (by decide)
      refine mjl_194_74 ⟨by omega, by omega, fun h => by omega, fun _ => fm_number (d := d) ht (by omega) (by omega) ⟨by omega, by omega, ?_⟩⟩
      rw [show ((6 * (i : Int)) + (k : Int)).toNat = 6 * (0 + i) + (0 + k) by omega, mjRow_up, e0]
      exact hL2
    · exact mjl_194_74 ⟨by omega, by omega, fun _ => hL, fun h => by omega⟩
  · refine mjl_194_65 ⟨by omega, by omega, fun _ => ?_, fun h => by omega⟩
    refine lp_fold0 (n := p) (f := fun i g => fo (fun k g => va_up g (6 * (n + i) + (n + k)) (Z 470 (36 * u + 6 * i + k))) p g) (L := fun i g => mjL_194_117 (d + 1) (t : Int) (u : Int) (n : Int) (p : Int) i (mjRow Z 471 g) q) (fun i g hi hL => ?_) ?_
    · refine mjl_194_117 ⟨by omega, by omega, fun h => by omega, fun _ => ?_⟩
      refine lp_fold0 (n := p) (f := fun k g => va_up g (6 * (n + i) + (n + k)) (Z 470 (36 * u + 6 * i + k))) (L := fun k g => mjL_194_127 (d + 1) (t : Int) (u : Int) (n : Int) (p : Int) i k (mjRow Z 471 g) q) (a := g) (fun k g hk hL2 => ?_) ?_
      · have e0 : mjRow Z 471 g 470 = Z 470 := mjRow_ne (by decide)
        refine mjl_194_127 ⟨by omega, by omega, fun h => by omega, fun _ => fm_number (d := d) hu (by omega) (by omega) ⟨by omega, by omega, ?_⟩⟩
        rw [show (((6 * ((n : Int) + (i : Int))) + (n : Int)) + (k : Int)).toNat = 6 * (n + i) + (n + k) by omega, mjRow_up, e0]
        exact hL2
      · exact mjl_194_127 ⟨by omega, by omega, fun _ => hL, fun h => by omega⟩
    · exact mjl_194_117 ⟨by omega, by omega, fun _ => hq, fun h => by omega⟩
end WV
/-- two tables, one after the other, on the slant -/
def wvT (n : Nat) (S T : Nat → Nat → Int) (i k : Nat) : Int := if n ≤ i ∧ n ≤ k then T (i - n) (k - n) else if i < n ∧ k < n then S i k else 0
theorem wv_at {n p i k : Nat} {S T : Nat → Nat → Int} {g : Nat → Int} (h6 : n + p ≤ 6) (hi : i < n + p) (hk : k < n + p) (hg : ∀ j, j < 36 → g j = 0) : rL n p T (rL 0 n S g) (6 * i + k) = wvT n S T i k := by
  unfold wvT
  rw [rL_val h6, show (6 * i + k) / 6 = i by omega, show (6 * i + k) % 6 = k by omega]
  by_cases h : n ≤ i ∧ n ≤ k
  · rw [if_pos h, if_pos (by omega)]
  · rw [if_neg h, if_neg (by omega), rL_val (by omega), show (6 * i + k) / 6 = i by omega, show (6 * i + k) % 6 = k by omega]
    by_cases h2 : i < n ∧ k < n
    · rw [if_pos h2, if_pos (by omega), Nat.sub_zero, Nat.sub_zero]
    · rw [if_neg h2, if_neg (by omega)]
      exact hg _ (by omega)
theorem wv_out {n p j : Nat} {S T : Nat → Nat → Int} {g : Nat → Int} (h6 : n + p ≤ 6) (hj : ¬ (j / 6 < n + p ∧ j % 6 < n + p)) : rL n p T (rL 0 n S g) j = g j := by
  rw [rL_val h6, if_neg (by omega), rL_val (by omega), if_neg (by omega)]
theorem wvT_cong {n p i k : Nat} {S S' T T' : Nat → Nat → Int} (hs : ∀ i k, i < n → k < n → S i k = S' i k) (ht : ∀ i k, i < p → k < p → T i k = T' i k) (hi : i < n + p) (hk : k < n + p) : wvT n S T i k = wvT n S' T' i k := by
  unfold wvT
  by_cases h : n ≤ i ∧ n ≤ k
  · rw [if_pos h, if_pos h]; exact ht _ _ (by omega) (by omega)
  · rw [if_neg h, if_neg h]
    by_cases h2 : i < n ∧ k < n
    · rw [if_pos h2, if_pos h2]; exact hs _ _ h2.1 h2.2
    · rw [if_neg h2, if_neg h2]
theorem wvT_bd {n p i k : Nat} {S T : Nat → Nat → Int} (hs : ∀ i k, i < n → k < n → -100 ≤ S i k ∧ S i k ≤ 100) (ht : ∀ i k, i < p → k < p → -100 ≤ T i k ∧ T i k ≤ 100) (hi : i < n + p) (hk : k < n + p) : -100 ≤ wvT n S T i k ∧ wvT n S T i k ≤ 100 := by
  unfold wvT
  by_cases h : n ≤ i ∧ n ≤ k
  · rw [if_pos h]; exact ht _ _ (by omega) (by omega)
  · rw [if_neg h]
    by_cases h2 : i < n ∧ k < n
    · rw [if_pos h2]; exact hs _ _ h2.1 h2.2
    · rw [if_neg h2]; omega
theorem wvT_sym {n p i k : Nat} {S T : Nat → Nat → Int} (hs : ∀ i k, i < n → k < n → S i k = S k i) (ht : ∀ i k, i < p → k < p → T i k = T k i) (hi : i < n + p) (hk : k < n + p) : wvT n S T i k = wvT n S T k i := by
  unfold wvT
  by_cases h : n ≤ i ∧ n ≤ k
  · rw [if_pos h, if_pos ⟨h.2, h.1⟩]; exact ht _ _ (by omega) (by omega)
  · rw [if_neg h, if_neg (show ¬ (n ≤ k ∧ n ≤ i) from fun g => h ⟨g.2, g.1⟩)]
    by_cases h2 : i < n ∧ k < n
    · rw [if_pos h2, if_pos (show k < n ∧ i < n from ⟨h2.2, h2.1⟩)]; exact hs _ _ h2.1 h2.2
    · rw [if_neg h2, if_neg (show ¬ (k < n ∧ i < n) from fun g => h2 ⟨g.2, g.1⟩)]
theorem iv_weave_ok : iv_weave INV := fun Z x1 x2 hI => by
  obtain ⟨m, a1, a2, a3, a4⟩ := id hI.2.1
  have hx := i32r x1
  have hx2 := i32r x2
  have no1 : ¬ (0 ≤ x1.toInt ∧ x1.toInt < m) → mjW1 10 194 [yR 11 464, yI x1.toInt, yI x2.toInt] Z (fun z' Z2 => Int32.ofInt z' = Int32.ofInt (-101) ∧ INV Z2) := fun h => by
    refine mje_194 (d := 9) (fm_isTable (d := 7) a3 a1 hx ?_)
    rw [if_neg h]
    exact ⟨by omega, fun g => ⟨rfl, hI⟩, fun g => absurd rfl g⟩
  refine mje_64 (d := 9) (fc_tableAt (d := 8) a2 a1 hx (fun h => fc_tableAt (d := 8) a2 a1 hx2 (fun _ => no1 h) fun _ _ _ => no1 h) fun t ht htm => fc_tableAt (d := 8) a2 a1 hx2 (fun h => ?_) fun u hu hum => ?_)
  · refine mje_194 (d := 9) (fm_isTable (d := 7) a3 a1 hx ?_)
    rw [if_pos (by omega)]
    refine ⟨by omega, fun g => by omega, fun _ => fm_isTable (d := 7) a3 a1 hx2 ?_⟩
    rw [if_neg h]
    exact ⟨by omega, fun g => absurd rfl g, fun _ => ⟨rfl, hI⟩⟩
  · obtain ⟨n, b1, b2, b3, b4, b5, b6, -⟩ := a4 t htm
    obtain ⟨p, c1, c2, c3, c4, c5, c6, -⟩ := a4 u hum
    have hn6 := b1.2.2
    have hn1 := b1.2.1
    have hp6 := c1.2.2
    have hp1 := c1.2.1
    have b10 := b1.1
    have c10 := c1.1
    have e0t : ((t : Int)).toNat = t := rfl
    have e0u : ((u : Int)).toNat = u := rfl
    rw [ht, hu]
    have go : ∀ (Z1 : mjZ) (q : Int → mjZ → Prop), Z1 464 3 = (m : Int) → Z1 469 t = (n : Int) → Z1 469 u = (p : Int) → (6 < n + p → q (-102) Z1) → (n + p ≤ 6 → m = 60 → q (-104) Z1) → (n + p ≤ 6 → m ≠ 60 → mjW0 9 174 [yR 11 464] Z1 (fun Z11 => mjL_194_65 9 (t : Int) (u : Int) (n : Int) (p : Int) 0 Z11 q)) → mjW1 10 194 [yR 11 464, yI (t : Int), yI (u : Int)] Z1 q := fun Z1 q g3 g9 g9' h1 h2 h3 => by
      refine mje_194 (d := 9) (fm_isTable (d := 7) g3 a1 (by omega) ?_)
      rw [if_pos (by omega)]
      refine ⟨by omega, fun g => by omega, fun _ => fm_isTable (d := 7) g3 a1 (by omega) ?_⟩
      rw [if_pos (by omega), e0t, e0u, g9, g9']
      exact ⟨by omega, fun _ => ⟨by omega, by omega, by omega, by omega, by omega, fun g => ⟨by omega, fun k => h3 (by omega) (by omega), fun k => h2 (by omega) (by omega)⟩, fun g => h1 (by omega)⟩, fun g => by omega⟩
    rw [b10, c10]
    refine ⟨by omega, fun hs => fc_isFull (d := 8) a2 a1 ?_, fun hs => go _ _ a3 b2 c2 (fun _ => ⟨rfl, hI⟩) (fun g => by omega) (fun g => by omega)⟩
    have hs6 : n + p ≤ 6 := by omega
    by_cases hm : m = 60
    · rw [if_pos hm]
      exact ⟨by omega, fun g => by omega, fun _ => go _ _ a3 b2 c2 (fun g => by omega) (fun _ _ => ⟨rfl, hI⟩) (fun _ g => absurd hm g)⟩
    · rw [if_neg hm]
      refine ⟨by omega, fun _ => ?_, fun g => absurd rfl g⟩
      rw [b10, c10, show (n : Int) + (p : Int) = ((n + p : Nat) : Int) by omega]
      have h1np : 1 ≤ n + p := by omega
      refine fc_draft (d := 6) a2 (by omega) h1np hs6 ?_
      refine tb_lay (d := 6) (o := 0) (m := n) (drC_n h1np hs6) (by unfold tN; rw [drC_ne (by omega) (by omega)]; exact b1) (by omega) (by omega) ?_
      rw [drC_row, drW_ne (by omega) (by omega), b10]
      refine tb_lay (d := 6) (o := n) (m := p) (drW_n h1np hs6) (by unfold tN; rw [drW_ne (by omega) (by omega)]; exact c1) (by omega) (by omega) ?_
      have eT1 : tE (drC m (n + p) Z) (35 + 2 * t) = tE Z (35 + 2 * t) := by
        funext i k
        exact congrFun (drC_ne (by omega) (by omega)) _
      have eT2 : ∀ G, tE (drW m (n + p) G Z) (35 + 2 * u) = tE Z (35 + 2 * u) := fun G => by
        funext i k
        exact congrFun (drW_ne (by omega) (by omega)) _
      have eRow : ∀ G, drW m (n + p) G Z (35 + 2 * m + 1) = G := fun G => by rw [← drC_row]; exact mjRow_at
      have eC : drC m (n + p) Z (35 + 2 * m + 1) = zRow (Z (35 + 2 * m + 1)) := by unfold drC; exact mjRow_at
      rw [eT1, eT2, eRow, eC, ← drC_row, mjRow_row, drC_row]
      have hz0 : ∀ g : Nat → Int, ∀ j, j < 36 → zRow g j = 0 := fun g j hj => by rw [zRow_val, if_pos hj]
      have hG : ∀ i k, i < n + p → k < n + p → rL n p (tE Z (35 + 2 * u)) (rL 0 n (tE Z (35 + 2 * t)) (zRow (Z (35 + 2 * m + 1)))) (6 * i + k) = wvT n (tE Z (35 + 2 * t)) (tE Z (35 + 2 * u)) i k := fun i k hi hk => wv_at hs6 hi hk (hz0 _)
      generalize rL n p (tE Z (35 + 2 * u)) (rL 0 n (tE Z (35 + 2 * t)) (zRow (Z (35 + 2 * m + 1)))) = G at *
      refine mk_fin (H := rL n p (fun i k => Z 470 (36 * u + 6 * i + k)) (rL 0 n (fun i k => Z 470 (36 * t + 6 * i + k)) (zRow (Z 471)))) hI a2 (by omega) h1np hs6 (fun i k hi hk => ?_) (fun i k hi hk => ?_) (fun i k hi hk => ?_) (fun j hj hn => ?_) fun x Q hQ => ?_
      · rw [hG i k hi hk]
        exact wvT_bd (fun i k hi hk => (b4 i k hi hk).2) (fun i k hi hk => (c4 i k hi hk).2) hi hk
      · rw [hG i k hi hk, hG k i hk hi]
        exact wvT_sym b5 c5 hi hk
      · rw [hG i k hi hk, wv_at hs6 hi hk (hz0 _)]
        exact wvT_cong (fun i k hi hk => (b4 i k hi hk).1.symm) (fun i k hi hk => (c4 i k hi hk).1.symm) hi hk
      · rw [wv_out hs6 hn, hz0 _ j hj]
      · have ek : ∀ c, c ≠ 0 → c ≠ 35 + 2 * m → c ≠ 35 + 2 * m + 1 → kpC m x (drW m (n + p) G Z) c = Z c := fun c g0 g1 g2 => by rw [kpC_ne g0 g1, drW_ne g1 g2]
        have k3 : kpC m x (drW m (n + p) G Z) 464 3 = (m : Int) := by rw [ek _ (by decide) (by omega) (by omega)]; exact a3
        have k9 : kpC m x (drW m (n + p) G Z) 469 t = (n : Int) := by rw [ek _ (by decide) (by omega) (by omega)]; exact b2
        have k9' : kpC m x (drW m (n + p) G Z) 469 u = (p : Int) := by rw [ek _ (by decide) (by omega) (by omega)]; exact c2
        refine go _ _ k3 k9 k9' (fun g => by omega) (fun _ g => absurd g hm) (fun _ _ => fm_emptyMade (d := 8) ?_)
        refine fm_weaveL (d := 8) (by omega) (by omega) hn1 hp1 hs6 ?_
        have u0 : mjRow (kpC m x (drW m (n + p) G Z)) 471 (zRow (kpC m x (drW m (n + p) G Z) 471)) 470 = Z 470 := by rw [mjRow_ne (by decide), ek _ (by decide) (by omega) (by omega)]
        have u1 : mjRow (kpC m x (drW m (n + p) G Z)) 471 (zRow (kpC m x (drW m (n + p) G Z) 471)) 471 = zRow (Z 471) := by rw [mjRow_at, ek _ (by decide) (by omega) (by omega)]
        rw [u0, u1, mjRow_row, show (n : Int) + (p : Int) = ((n + p : Nat) : Int) by omega]
        exact hQ
