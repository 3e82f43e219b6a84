/-! Cases: pieces, two. -/
section PC
variable {d n t c : Nat} {T : Nat → Nat → Int} {Z : mjZ}
theorem fc_spread {s : Nat} {g : Nat → Int} {q : mjZ → Prop} (hn : tN Z c n) (hr : tR Z c n) (hc : c + 1 < 463) (hT : ∀ i k, i < n → k < n → tE Z c i k = T i k) (hs : s < n) (hg : MK g) (h0 : g s = -1) (hq : q (mjRow Z 463 (spN n T n s g))) : mjW0 (d + 4) 148 [yR 9 459, yR 6 c, yI (s : Int)] (mjRow Z 463 g) q := by
  have h6 := hn.2.2
  have hnc : ∀ G, mjRow Z 463 G c 0 = (n : Int) := fun G => (hn.row (show c ≠ 463 by omega)).1
  have eT : ∀ G, tE (mjRow Z 463 G) c = tE Z c := fun G => by
    funext i k
    exact congrFun (mjRow_ne (by omega)) _
  refine mje_148 (d := d + 3) ⟨by omega, by omega, ?_⟩
  rw [mjRow_up]
  have m0 : MK (va_up g s 0) := fun j hj => by
    show (if j = s then (0 : Int) else g j) = -1 ∨ (if j = s then (0 : Int) else g j) = 0 ∨ (if j = s then (0 : Int) else g j) = 1
    have := hg j hj
    split <;> omega
  refine lp_fold (n := n) (f := fun _ g => spA n T g) (L := fun i g => mjL_148_9 (d + 3) c s i (mjRow Z 463 g) q) (Y := fun _ g => MK g) (fun i g hi hy => (um_A h6 hy).1) (fun i g hi hy hL => ?_) m0 fun hy => ?_
  · refine mjl_148_9 ?_
    rw [hnc]
    refine ⟨by omega, by omega, fun h => by omega, fun _ => ?_⟩
    refine lp_fold (n := n) (f := fun i g => spR n T i g) (L := fun k g => mjL_148_20 (d + 3) c s i k (mjRow Z 463 g) q) (Y := fun _ g => MK g) (fun k g hk hy => (um_R (by omega) h6 hy).1) (fun a g ha hy hL2 => ?_) hy fun hy => ?_
    · refine mjl_148_20 ?_
      rw [hnc]
      refine ⟨by omega, by omega, fun h => by omega, fun _ => ?_⟩
      refine lp_fold (n := n) (f := fun k g => spS T a k g) (L := fun k g => mjL_148_32 (d + 3) c s i a k (mjRow Z 463 g) q) (Y := fun _ g => MK g) (fun k g hk hy => MK_S (by omega) hy) (fun k g hk hy hL3 => ?_) hy fun hy => ?_
      · have y1 := hy a (by omega)
        have y2 := hy k (by omega)
        have no : ¬ spC T a k g → mjL_148_32 (d + 3) c s i a (k + 1) (mjRow Z 463 g) q := fun h => by
          have e : spS T a k g = g := if_neg h
          rw [e] at hL3
          exact hL3
        refine mjl_148_32 ?_
        rw [hnc, mjRow_at]
        refine ⟨by omega, by omega, fun h => by omega, fun _ => ⟨by omega, by omega, by omega, fun h => no fun k => k.1 h, fun h1 => ⟨by omega, by omega, by omega, fun h => no fun k => h k.2.1, fun h2 => tb_isTied (d := d) (hn.row (by omega)) (by unfold tR; rw [eT]; exact hr) ha hk ?_⟩⟩⟩
        rw [eT, hT a k ha hk]
        by_cases hc : a ≠ k ∧ T a k ≠ 0
        · rw [if_pos hc]
          refine ⟨by omega, fun h => by omega, fun _ => ?_⟩
          rw [mjRow_at, mjRow_up]
          have e : spS T a k g = va_up g k (1 - g a) := if_pos ⟨h1, Classical.not_not.mp h2, hc⟩
          rw [e] at hL3
          exact hL3
        · rw [if_neg hc]
          exact ⟨by omega, fun _ => no fun k => hc k.2.2, fun h => absurd rfl h⟩
      · refine mjl_148_32 ?_
        rw [hnc]
        exact ⟨by omega, by omega, fun _ => hL2, fun h => by omega⟩
    · refine mjl_148_20 ?_
      rw [hnc]
      exact ⟨by omega, by omega, fun _ => hL, fun h => by omega⟩
  · refine mjl_148_9 ?_
    rw [hnc]
    exact ⟨by omega, by omega, fun _ => hq, fun h => by omega⟩
/-- no mark yet -/
def mk0 (Z : mjZ) : Nat → Int := fo (fun i g => va_up g i (-1)) 6 (Z 463)
theorem mk0_v {j : Nat} (hj : j < 6) : mk0 Z j = -1 := by unfold mk0; rw [fo_cst, if_pos hj]
theorem fc_hang {q : Int → mjZ → Prop} (hn : tN Z c n) (hr : tR Z c n) (hc : c + 1 < 463) (hT : ∀ i k, i < n → k < n → tE Z c i k = T i k) (hq : q ((fo (hgF n T) n (0, mk0 Z)).1 : Int) (mjRow Z 463 (fo (hgF n T) n (0, mk0 Z)).2)) : mjW1 (d + 5) 147 [yR 9 459, yR 6 c] Z q := by
  have h6 := hn.2.2
  have hnc : ∀ G, mjRow Z 463 G c 0 = (n : Int) := fun G => (hn.row (show c ≠ 463 by omega)).1
  refine mje_147 (d := d + 4) ?_
  refine lp_row (A := 463) (n := 6) (f := fun i g => va_up g i (-1)) (L := fun i Z => mjL_147_4 (d + 4) c 0 i Z q) (fun i g hi hL => ?_) ?_
  · rw [← mjRow_up] at hL
    exact mjl_147_4 ⟨by omega, fun h => by omega, fun _ => ⟨by omega, by omega, hL⟩⟩
  · refine mjl_147_4 ⟨by omega, fun _ => ?_, fun h => by omega⟩
    have hi := hg_inv (T := T) (n := n) h6 (fun j hj => mk0_v (Z := Z) hj)
    refine lp_inv (n := n) (α := Nat × (Nat → Int)) (a := (0, mk0 Z)) (L := fun s p => mjL_147_25 (d + 4) c p.1 s (mjRow Z 463 p.2) q) (Y := fun s p => p = fo (hgF n T) s (0, mk0 Z)) (fun s p hs hy hL => ?_) (fun p hy => ?_) rfl
    · obtain ⟨a1, a2, a3, -⟩ := hi s (by omega)
      rw [← hy] at a2
      have mk : MK p.2 := by rw [← a2]; exact a3.1
      have m1 := mk s (by omega)
      have nx := hL (hgF n T s p) (by rw [hy]; rfl)
      unfold hgF at nx
      refine mjl_147_25 ?_
      rw [hnc, mjRow_at]
      refine ⟨by omega, by omega, fun h => by omega, fun _ => ⟨by omega, by omega, by omega, fun h => ?_, fun h => fc_spread (d := d) hn hr hc hT hs mk (Classical.not_not.mp h) ?_⟩⟩
      · rw [if_pos h] at nx
        exact nx
      · rw [if_neg h] at nx
        exact nx
    · refine mjl_147_25 ?_
      rw [hnc]
      rw [← hy] at hq
      exact ⟨by omega, by omega, fun _ => hq, fun h => by omega⟩
/-- the reference's cells: colours and whether two will do -/
def pcS (Z : mjZ) (h : Nat → Int) (f : Int) : mjZ := mjRow (mjUp Z 464 40 f) 492 h
theorem pcS_f {h : Nat → Int} {f f' : Int} : mjUp (pcS Z h f) 464 40 f' = pcS Z h f' := by
  unfold pcS
  funext a k
  by_cases e : a = 492
  · subst e
    rw [mjUp_nc (by decide), mjRow_at, mjRow_at]
  · rw [mjRow_ne e]
    unfold mjUp
    by_cases g : a = 464 ∧ k = 40
    · rw [if_pos g, if_pos g]
    · rw [if_neg g, if_neg g, mjRow_ne e, if_neg g]
theorem pcS_h {h : Nat → Int} {f v : Int} {j : Nat} : mjUp (pcS Z h f) 492 j v = pcS Z (va_up h j v) f := mjRow_up
theorem pcS_at {h : Nat → Int} {f : Int} : pcS Z h f 492 = h := mjRow_at
theorem pcS_fl {h : Nat → Int} {f : Int} : pcS Z h f 464 40 = f := by unfold pcS; rw [mjRow_ne (by decide), mjUp_at]
theorem pcS_ne {h : Nat → Int} {f : Int} {a : Nat} (h1 : a ≠ 492) (h2 : a ≠ 464) : pcS Z h f a = Z a := by unfold pcS; rw [mjRow_ne h1, mjUp_nc h2]
def HB (n : Nat) (g h : Nat → Int) : Prop := ∀ j, j < n → h j = g j + 1
def HP (n : Nat) (p : (Nat → Int) × Int) (a : (Nat → Int) × Int) : Prop := HB n p.1 a.1 ∧ a.2 = p.2
theorem fm_hang {q : Int → mjZ → Prop} {G : Nat → Int} (ht : t < 60) (h1 : 1 ≤ n) (h6 : n ≤ 6) (h9 : Z 469 t = (n : Int)) (hT : ∀ i k, i < n → k < n → Z 470 (36 * t + 6 * i + k) = T i k ∧ -100 ≤ T i k ∧ T i k ≤ 100) (hG : ∀ j, j < 6 → G j = -1) (hq : ∀ h, q ((fo (hgF n T) n (0, G)).1 : Int) (pcS Z h (fo (hgP n T) n (0, (G, 1))).2.2)) : mjW1 (d + 2) 247 [yR 11 464, yI (t : Int)] Z q := by
  have hi := hg_inv (T := T) (n := n) h6 hG
  refine mje_247 (d := d + 1) ⟨by omega, by omega, ?_⟩
  rw [h9]
  have e0 : mjUp Z 464 40 1 = pcS Z (Z 492) 1 := by
    unfold pcS
    have : mjUp Z 464 40 1 492 = Z 492 := mjUp_nc (by decide)
    rw [← this, mjRow_self]
  rw [e0]
  refine lp_fold0 (n := n) (f := fun i g => va_up g i 0) (L := fun i h => mjL_247_17 (d + 1) t (n : Int) 0 i (pcS Z h 1) q) (fun i h hi hL => ?_) ?_
  · refine mjl_247_17 ⟨by omega, by omega, fun h => by omega, fun _ => ⟨by omega, by omega, ?_⟩⟩
    rw [pcS_h]
    exact hL
  · refine mjl_247_17 ⟨by omega, by omega, fun _ => ?_, fun h => by omega⟩
    refine lp_inv (n := n) (α := Nat × ((Nat → Int) × Int)) (a := (0, (fo (fun i g => va_up g i 0) n (Z 492), 1))) (L := fun s a => mjL_247_40 (d + 1) t (n : Int) a.1 s (pcS Z a.2.1 a.2.2) q) (Y := fun s a => a.1 = (fo (hgP n T) s (0, (G, 1))).1 ∧ HP n (fo (hgP n T) s (0, (G, 1))).2 a.2) (fun s a hs hy hL => ?_) (fun a hy => ?_) ⟨rfl, fun j hj => ?_, rfl⟩
    · obtain ⟨i1, i2, i3, i4, i5, i6⟩ := hi s (by omega)
      have nx := fun a' => hL a'
      rw [show fo (hgP n T) (s + 1) (0, (G, 1)) = hgP n T s (fo (hgP n T) s (0, (G, 1))) from rfl] at nx
      generalize fo (hgP n T) s (0, (G, 1)) = p at *
      obtain ⟨cnt, h, f⟩ := a
      obtain ⟨y1, y2, y3⟩ := hy
      dsimp only at y1 y2 y3 ⊢
      have hb := y2 s hs
      have mk := i3.1 s (by omega)
      unfold hgP at nx
      refine mjl_247_40 ⟨by omega, by omega, fun h => by omega, fun _ => ⟨by omega, by omega, ?_⟩⟩
      rw [pcS_at, pcS_h]
      refine ⟨by omega, fun g => ?_, fun g => ?_⟩
      · rw [if_pos (by omega)] at nx
        exact nx (cnt, (h, f)) ⟨y1, y2, y3⟩
      · have g0 : p.2.1 s = -1 := by omega
        rw [if_neg (fun k => k g0)] at nx
        have QN : ∀ m, QI n T (stN n T m s p.2) := fun m => QI_N h6 g0 i3
        refine lp_inv (n := n + 1) (α := (Nat → Int) × Int) (a := (va_up h s 1, f)) (L := fun r a => mjL_247_70 (d + 1) t (n : Int) (cnt + 1) s r (pcS Z a.1 a.2) q) (Y := fun r a => HP n (stN n T r s p.2) a) (fun r a hr hy2 hL2 => ?_) (fun a hy2 => ?_) ⟨fun j hj => ?_, y3⟩
        · refine mjl_247_70 ⟨by omega, by omega, fun h => by omega, fun _ => ?_⟩
          have q0 := QN r
          rw [show stN n T (r + 1) s p.2 = stA n T (stN n T r s p.2) from rfl] at hL2
          generalize stN n T r s p.2 = p0 at *
          refine lp_inv (n := n) (α := (Nat → Int) × Int) (a := a) (L := fun i a => mjL_247_79 (d + 1) t (n : Int) (cnt + 1) s r i (pcS Z a.1 a.2) q) (Y := fun i a => HP n (fo (stR n T) i p0) a) (fun i a hi2 hy3 hL3 => ?_) (fun a hy3 => ?_) hy2
          · refine mjl_247_79 ⟨by omega, by omega, fun h => by omega, fun _ => ?_⟩
            have q1 := QI_Am (m := i) h6 (by omega) q0
            rw [show fo (stR n T) (i + 1) p0 = stR n T i (fo (stR n T) i p0) from rfl] at hL3
            generalize fo (stR n T) i p0 = p1 at *
            refine lp_inv (n := n) (α := (Nat → Int) × Int) (a := a) (L := fun k a => mjL_247_88 (d + 1) t (n : Int) (cnt + 1) s r i k (pcS Z a.1 a.2) q) (Y := fun k a => HP n (fo (stp T i) k p1) a) (fun k a hk hy4 hL4 => ?_) (fun a hy4 => ?_) hy3
            · have q2 := QI_Rm (i := i) (m := k) h6 hi2 (by omega) q1
              rw [show fo (stp T i) (k + 1) p1 = stp T i k (fo (stp T i) k p1) from rfl] at hL4
              generalize fo (stp T i) k p1 = p2 at *
              obtain ⟨h', f'⟩ := a
              obtain ⟨z1, z2⟩ := hy4
              dsimp only at z1 z2 ⊢
              have zi := z1 i hi2
              have zk := z1 k hk
              have mi := q2.1 i (by omega)
              have mk2 := q2.1 k (by omega)
              have q22 := q2.2.1
              have hTik := hT i k hi2 hk
              have same : ¬ (i ≠ k ∧ T i k ≠ 0 ∧ p2.1 i ≠ -1) → mjL_247_88 (d + 1) t (n : Int) (cnt + 1) s r i (k + 1) (pcS Z h' f') q := fun hno => by
                refine hL4 (h', f') ⟨?_, ?_⟩
                · have e : (stp T i k p2).1 = p2.1 := if_neg fun c => hno ⟨c.2.2.1, c.2.2.2, c.1⟩
                  rw [e]
                  exact z1
                · have e : (stp T i k p2).2 = p2.2 := if_neg fun c => hno ⟨c.1, c.2.1, c.2.2.1⟩
                  rw [e]
                  exact z2
              refine mjl_247_88 ⟨by omega, by omega, fun h => by omega, fun _ => ⟨by omega, fun h => same fun c => c.1 (by omega), fun hik => fm_number (d := d) ht (by omega) (by omega) ?_⟩⟩
              rw [show pcS Z h' f' 470 = Z 470 from pcS_ne (by decide) (by decide), hTik.1]
              refine ⟨by omega, fun h => same fun c => c.2.1 h, fun hne => ⟨by omega, by omega, ?_⟩⟩
              rw [pcS_at, pcS_fl]
              refine ⟨by omega, fun h => same fun c => c.2.2 (by omega), fun hci => ⟨by omega, ?_⟩⟩
              have cc : i ≠ k ∧ T i k ≠ 0 ∧ p2.1 i ≠ -1 := ⟨by omega, hne, by omega⟩
              have fin : ∀ f2, f2 = flF T i k p2.1 p2.2 → 0 ≤ (k : Int) ∧ ((k : Int) < 6 ∧ ((-2147483648 ≤ h' k ∧ h' k < 2147483648) ∧ ((h' k ≠ 0 → mjL_247_88 (d + 1) t (n : Int) (cnt + 1) s r i (k + 1) (pcS Z (va_up h' k (h' k)) f2) q) ∧ (¬(h' k ≠ 0) → mjL_247_88 (d + 1) t (n : Int) (cnt + 1) s r i (k + 1) (pcS Z (va_up h' k (3 - h' i)) f2) q)))) := fun f2 hf2 => by
                refine ⟨by omega, by omega, by omega, fun g => hL4 (va_up h' k (h' k), f2) ⟨fun j hj => ?_, hf2⟩, fun g => hL4 (va_up h' k (3 - h' i), f2) ⟨fun j hj => ?_, hf2⟩⟩
                · have e : (stp T i k p2).1 = p2.1 := if_neg fun c => g (by have := c.2.1; omega)
                  rw [e]
                  show (if j = k then h' k else h' j) = _
                  by_cases hjk : j = k
                  · rw [if_pos hjk, hjk]; exact zk
                  · rw [if_neg hjk]; exact z1 j hj
                · have e : (stp T i k p2).1 = va_up p2.1 k (1 - p2.1 i) := if_pos ⟨cc.2.2, by omega, cc.1, cc.2.1⟩
                  rw [e]
                  show (if j = k then 3 - h' i else h' j) = (if j = k then 1 - p2.1 i else p2.1 j) + 1
                  by_cases hjk : j = k
                  · rw [if_pos hjk, if_pos hjk]; omega
                  · rw [if_neg hjk, if_neg hjk]; exact z1 j hj
              have flE : ¬ (p2.1 k = p2.1 i) → flF T i k p2.1 p2.2 = p2.2 := fun g => if_neg fun c => g c.2.2.2
              have flE2 : p2.1 k = p2.1 i → flF T i k p2.1 p2.2 = 0 := fun g => if_pos ⟨cc.1, cc.2.1, cc.2.2, g⟩
              simp only [pcS_f, pcS_h, pcS_at]
              refine ⟨fun g => ?_, fun g => ?_⟩
              · refine fin 0 ?_
                by_cases e : p2.1 k = p2.1 i
                · rw [flE2 e]
                · rw [flE e]; omega
              · have f1 : f' = 1 := by omega
                refine ⟨by omega, by omega, by omega, fun e => ?_, fun e => ?_⟩
                · exact (fin 0 (by rw [flE2 (by omega)])).2.2
                · exact (fin 1 (by rw [flE (by omega)]; omega)).2.2
            · exact mjl_247_88 ⟨by omega, by omega, fun _ => hL3 a hy4, fun h => by omega⟩
          · exact mjl_247_79 ⟨by omega, by omega, fun _ => hL2 a hy3, fun h => by omega⟩
        · exact mjl_247_70 ⟨by omega, by omega, fun _ => nx (cnt + 1, a) ⟨by show cnt + 1 = p.1 + 1; rw [y1], hy2⟩, fun h => by omega⟩
        · show (if j = s then (1 : Int) else h j) = (if j = s then (0 : Int) else p.2.1 j) + 1
          by_cases hjs : j = s
          · rw [if_pos hjs, if_pos hjs]; rfl
          · rw [if_neg hjs, if_neg hjs]; exact y2 j hj
    · obtain ⟨i1, -⟩ := hi n (Nat.le_refl _)
      refine mjl_247_40 ⟨by omega, by omega, fun _ => ?_, fun h => by omega⟩
      rw [hy.1, hy.2.2, i1]
      exact hq _
    · show fo (fun i g => va_up g i 0) n (Z 492) j = G j + 1
      rw [fo_cst, if_pos hj, hG j (by omega)]
      rfl
end PC
theorem INV_pc {Z : mjZ} {g h : Nat → Int} {f : Int} (hI : INV Z) : INV (pcS (mjRow Z 463 g) h f) := by
  obtain ⟨h1, h2, h3, h4, h5, h6⟩ := hI
  have e : ∀ c, c ≠ 463 → c ≠ 464 → c ≠ 492 → pcS (mjRow Z 463 g) h f c = Z c := fun c g1 g2 g3 => by rw [pcS_ne g3 g2, mjRow_ne g1]
  have eo : ∀ k, k ≠ 40 → pcS (mjRow Z 463 g) h f 464 k = Z 464 k := fun k g => by
    unfold pcS
    rw [mjRow_ne (by decide)]
    show (if 464 = 464 ∧ k = 40 then f else mjRow Z 463 _ 464 k) = _
    rw [if_neg (fun c => g c.2), mjRow_ne (by decide)]
  exact ⟨h1.fr (fun c g1 g2 => e c (by omega) (by omega) (by omega)) (e _ (by decide) (by decide) (by decide)) (e _ (by decide) (by decide) (by decide)) (e _ (by decide) (by decide) (by decide)), h2.fr (fun c g1 g2 => e c (by omega) (by omega) (by omega)) (by rw [e _ (by decide) (by decide) (by decide)]) (eo 3 (by decide)) (e _ (by decide) (by decide) (by decide)) (e _ (by decide) (by decide) (by decide)) (e _ (by decide) (by decide) (by decide)), h3.fr (fun c g1 g2 => e c (by omega) (by omega) (by omega)) (by rw [e _ (by decide) (by decide) (by decide)]) (eo 18 (by decide)) (fun k _ => by rw [e _ (by decide) (by decide) (by decide)]) (fun k _ => by rw [e _ (by decide) (by decide) (by decide)]) (fun k _ => by rw [e _ (by decide) (by decide) (by decide)]), h4.fr (by rw [e _ (by decide) (by decide) (by decide)]) (by rw [e _ (by decide) (by decide) (by decide)]) (by rw [e _ (by decide) (by decide) (by decide)]) (eo 8 (by decide)) (eo 9 (by decide)) (eo 11 (by decide)) (e _ (by decide) (by decide) (by decide)) (e _ (by decide) (by decide) (by decide)), h5.fr (by rw [e _ (by decide) (by decide) (by decide)]) (eo 13 (by decide)) (e _ (by decide) (by decide) (by decide)) (e _ (by decide) (by decide) (by decide)), h6.fr (fun k _ _ => by rw [e _ (by decide) (by decide) (by decide)]) (fun k _ => by rw [e _ (by decide) (by decide) (by decide)]) (fun k _ => by rw [e _ (by decide) (by decide) (by decide)]) (e _ (by decide) (by decide) (by decide)) (e _ (by decide) (by decide) (by decide)) (e _ (by decide) (by decide) (by decide)) (e _ (by decide) (by decide) (by decide))⟩
section PC2
variable {d n t c : Nat} {T : Nat → Nat → Int} {Z : mjZ}
theorem fc_two {g : Nat → Int} {q : Int → mjZ → Prop} (hn : tN Z c n) (hr : tR Z c n) (hc : c + 1 < 463) (hT : ∀ i k, i < n → k < n → tE Z c i k = T i k) (hS : ∀ i k, i < n → k < n → T i k = T k i) (hg : MK g) (hm : ∀ j, j < n → g j ≠ -1) (h0 : BAD n T g → q 0 (mjRow Z 463 g)) (h1 : ¬ BAD n T g → q 1 (mjRow Z 463 g)) : mjL_150_8 (d + 3) c 0 (mjRow Z 463 g) q := by
  have h6 := hn.2.2
  have hn2 := hn.row (A := 463) (g := g) (by omega)
  have eT : tE (mjRow Z 463 g) c = tE Z c := by
    funext i k
    exact congrFun (mjRow_ne (by omega)) _
  have hnc := hn2.1
  refine lp_inv (n := n) (a := ()) (L := fun i _ => mjL_150_8 (d + 3) c i (mjRow Z 463 g) q) (Y := fun i _ => ∀ a b, a < i → b < a → T a b ≠ 0 → g a ≠ g b) (fun i _ hi hy hL => ?_) (fun _ hy => ?_) (fun a b h => by omega)
  · refine mjl_150_8 ?_
    rw [hnc]
    refine ⟨by omega, by omega, fun h => by omega, fun _ => ?_⟩
    refine lp_inv (n := i) (a := ()) (L := fun k _ => mjL_150_18 (d + 3) c i k (mjRow Z 463 g) q) (Y := fun k _ => ∀ b, b < k → T i b ≠ 0 → g i ≠ g b) (fun k _ hk hy2 hL2 => ?_) (fun _ hy2 => ?_) (fun b h => by omega)
    · refine mjl_150_18 ⟨by omega, by omega, fun h => by omega, fun _ => tb_isTied (d := d) hn2 (by unfold tR; rw [eT]; exact hr) hi (by omega) ?_⟩
      rw [eT, hT i k hi (by omega)]
      have m1 := hg i (by omega)
      have m2 := hg k (by omega)
      by_cases hck : i ≠ k ∧ T i k ≠ 0
      · rw [if_pos hck]
        refine ⟨by omega, fun h => by omega, fun _ => ⟨by omega, by omega, by omega, by omega, ?_⟩⟩
        rw [mjRow_at]
        refine ⟨by omega, by omega, fun hne => hL2 () fun b hb hb2 => ?_, fun he => h0 ⟨i, k, hi, by omega, hck.1, hck.2, hm i hi, (Classical.not_not.mp he).symm⟩⟩
        rcases Nat.lt_or_ge b k with l | l
        · exact hy2 b l hb2
        · rw [show b = k by omega]; exact hne
      · rw [if_neg hck]
        refine ⟨by omega, fun _ => hL2 () fun b hb hb2 => ?_, fun h => absurd rfl h⟩
        rcases Nat.lt_or_ge b k with l | l
        · exact hy2 b l hb2
        · rw [show b = k by omega] at hb2
          exact absurd ⟨by omega, hb2⟩ hck
    · refine mjl_150_18 ⟨by omega, by omega, fun _ => hL () fun a b ha hb hb2 => ?_, fun h => by omega⟩
      rcases Nat.lt_or_ge a i with l | l
      · exact hy a b l hb hb2
      · have : a = i := by omega
        subst this
        exact hy2 b hb hb2
  · refine mjl_150_8 ?_
    rw [hnc]
    refine ⟨by omega, by omega, fun _ => h1 fun ⟨a, b, b1, b2, b3, b4, b5, b6⟩ => ?_, fun h => by omega⟩
    rcases Nat.lt_trichotomy a b with l | l | l
    · rw [hS a b b1 b2] at b4
      exact hy b a b2 l b4 b6
    · exact b3 l
    · exact hy a b b1 l b4 b6.symm
theorem hg_pos {G : Nat → Int} (hG : G 0 = -1) : ∀ s, 1 ≤ s → 1 ≤ (fo (hgF n T) s (0, G)).1
  | 0, h => by omega
  | s + 1, _ => by
    show 1 ≤ (hgF n T s (fo (hgF n T) s (0, G))).1
    by_cases h : s = 0
    · subst h
      show 1 ≤ (hgF n T 0 (0, G)).1
      unfold hgF
      rw [if_neg (fun k => k hG)]
      exact Nat.le_refl _
    · have := hg_pos hG s (by omega)
      generalize fo (hgF n T) s (0, G) = c at *
      unfold hgF
      split
      · exact this
      · show 1 ≤ c.1 + 1
        omega
theorem fc_isWeb {q : Int → mjZ → Prop} (hk : 0 ≤ Z c 1 ∧ Z c 1 ≤ 4) (hq : q (if 3 ≤ Z c 1 then 1 else 0) Z) : mjW1 (d + 1) 70 [yR 6 c] Z q := by
  refine mje_70 ⟨by omega, fun h => ?_, fun h => ⟨fun g => ?_, fun g => ?_⟩⟩
  · rw [if_pos (by omega)] at hq; exact hq
  · rw [if_neg (by omega)] at hq; exact hq
  · rw [if_pos (by omega)] at hq; exact hq
end PC2
theorem iv_pieces_ok : iv_pieces INV := fun Z x1 hI => by
  obtain ⟨m, a1, a2, a3, a4⟩ := id hI.2.1
  have hx := i32r x1
  refine mje_146 (d := 9) (fc_tableAt (d := 8) a2 a1 hx (fun h => ?_) fun t ht htm => ?_)
  · refine mje_246 (d := 9) (fm_isTable (d := 7) a3 a1 hx ?_)
    rw [if_neg h]
    exact ⟨by omega, fun g => absurd rfl g, fun _ => ⟨rfl, hI⟩⟩
  · obtain ⟨n, b1, b2, b3, b4, b5, b6, b7⟩ := a4 t htm
    have hn6 := b1.2.2
    have hn1 := b1.2.1
    have hk4 : 0 ≤ Z (35 + 2 * t) 1 ∧ Z (35 + 2 * t) 1 ≤ 4 := by
      rcases b7 with (⟨g, -⟩ | ⟨g, -⟩ | ⟨g, -⟩ | ⟨g, -⟩) | ⟨g, -⟩ <;> omega
    have e0 : ((t : Int)).toNat = t := rfl
    rw [ht]
    have go : ∀ (Z1 : mjZ) (q : Int → mjZ → Prop), Z1 464 3 = (m : Int) → Z1 468 t = Z (35 + 2 * t) 1 → (3 ≤ Z (35 + 2 * t) 1 → mjW1 9 247 [yR 11 464, yI (t : Int)] Z1 (fun v6 Z6 => q v6 Z6)) → (¬ 3 ≤ Z (35 + 2 * t) 1 → mjW1 9 170 [yR 11 464, yI 8] Z1 (fun v7 Z7 => q v7 Z7)) → mjW1 10 246 [yR 11 464, yI (t : Int)] Z1 q := fun Z1 q g3 g8 h1 h2 => by
      refine mje_246 (d := 9) (fm_isTable (d := 7) (m := m) g3 a1 (by omega) ?_)
      rw [if_pos (by omega), e0, g8]
      exact ⟨by omega, fun _ => ⟨by omega, by omega, by omega, h1, h2⟩, fun g => by omega⟩
    refine fc_isWeb (d := 8) hk4 ?_
    by_cases h3 : 3 ≤ Z (35 + 2 * t) 1
    · rw [if_pos h3]
      refine ⟨by omega, fun g => by omega, fun _ => ?_⟩
      refine fc_hang (d := 4) (T := fun i k => Z 470 (36 * t + 6 * i + k)) b1 (fun i k hi hk => by have := (b4 i k hi hk).2; omega) (by omega) (fun i k hi hk => (b4 i k hi hk).1) ?_
      refine go _ _ (by rw [mjRow_ne (by decide)]; exact a3) (by rw [mjRow_ne (by decide)]; exact b3) (fun _ => ?_) (fun g => absurd h3 g)
      refine fm_hang (d := 7) (T := fun i k => Z 470 (36 * t + 6 * i + k)) (G := mk0 Z) (by omega) hn1 hn6 (by rw [mjRow_ne (by decide)]; exact b2) (fun i k hi hk => ?_) (fun j hj => mk0_v hj) fun h => ⟨rfl, INV_pc hI⟩
      rw [mjRow_ne (by decide)]
      have := b4 i k hi hk
      exact ⟨rfl, by omega, by omega⟩
    · rw [if_neg h3]
      exact ⟨by omega, fun _ => fc_found (d := 8) (f := 8) (by omega) (go _ _ (by rw [fdC_ne (by decide) (by decide)]; exact a3) (by rw [fdC_ne (by decide) (by decide)]; exact b3) (fun g => absurd g h3) (fun _ => fm_finds (d := 8) (f := 8) (by omega) ⟨rfl, INV_fd (by omega) hI⟩)), fun g => absurd rfl g⟩
theorem iv_two_ok : iv_two INV := fun Z x1 hI => by
  obtain ⟨m, a1, a2, a3, a4⟩ := id hI.2.1
  have hx := i32r x1
  refine mje_149 (d := 9) (fc_tableAt (d := 8) a2 a1 hx (fun h => ?_) fun t ht htm => ?_)
  · refine mje_248 (d := 9) (fm_isTable (d := 7) a3 a1 hx ?_)
    rw [if_neg h]
    exact ⟨by omega, fun g => absurd rfl g, fun _ => ⟨rfl, hI⟩⟩
  · obtain ⟨n, b1, b2, b3, b4, b5, b6, b7⟩ := a4 t htm
    have hn6 := b1.2.2
    have hn1 := b1.2.1
    have hk4 : 0 ≤ Z (35 + 2 * t) 1 ∧ Z (35 + 2 * t) 1 ≤ 4 := by
      rcases b7 with (⟨g, -⟩ | ⟨g, -⟩ | ⟨g, -⟩ | ⟨g, -⟩) | ⟨g, -⟩ <;> omega
    have e0 : ((t : Int)).toNat = t := rfl
    rw [ht]
    have go : ∀ (Z1 : mjZ) (q : Int → mjZ → Prop), Z1 464 3 = (m : Int) → Z1 468 t = Z (35 + 2 * t) 1 → (3 ≤ Z (35 + 2 * t) 1 → mjW1 9 247 [yR 11 464, yI (t : Int)] Z1 (fun v6 Z6 => (-2147483648 ≤ v6 ∧ v6 < 2147483648) ∧ ((v6 ≤ 0 → (q 0 Z6)) ∧ (¬(v6 ≤ 0) → ((-2147483648 ≤ (Z6 464 40) ∧ (Z6 464 40) < 2147483648) ∧ (((Z6 464 40) = 0 → (q 0 Z6)) ∧ (¬((Z6 464 40) = 0) → (q 1 Z6)))))))) → (¬ 3 ≤ Z (35 + 2 * t) 1 → mjW1 9 170 [yR 11 464, yI 8] Z1 (fun v7 Z7 => q v7 Z7)) → mjW1 10 248 [yR 11 464, yI (t : Int)] Z1 q := fun Z1 q g3 g8 h1 h2 => by
      refine mje_248 (d := 9) (fm_isTable (d := 7) (m := m) g3 a1 (by omega) ?_)
      rw [if_pos (by omega), e0, g8]
      exact ⟨by omega, fun _ => ⟨by omega, by omega, by omega, h1, h2⟩, fun g => by omega⟩
    refine fc_isWeb (d := 8) hk4 ?_
    by_cases h3 : 3 ≤ Z (35 + 2 * t) 1
    · rw [if_pos h3]
      refine ⟨by omega, fun _ => ?_, fun g => by omega⟩
      have hr : tR Z (35 + 2 * t) n := fun i k hi hk => by have := (b4 i k hi hk).2; omega
      refine mje_150 (d := 8) (fc_hang (d := 3) (T := fun i k => Z 470 (36 * t + 6 * i + k)) b1 hr (by omega) (fun i k hi hk => (b4 i k hi hk).1) ?_)
      obtain ⟨i1, i2, i3, i4, i5, i6⟩ := hg_inv (T := fun i k => Z 470 (36 * t + 6 * i + k)) (n := n) (G := mk0 Z) hn6 (fun j hj => mk0_v (Z := Z) hj) n (Nat.le_refl _)
      have ps := hg_pos (n := n) (T := fun i k => Z 470 (36 * t + 6 * i + k)) (G := mk0 Z) (mk0_v (by decide)) n hn1
      have sy : ∀ i k, i < n → k < n → Z 470 (36 * t + 6 * i + k) = Z 470 (36 * t + 6 * k + i) := fun i k hi hk => by
        rw [← (b4 i k hi hk).1, ← (b4 k i hk hi).1]
        exact b5 i k hi hk
      have rf : ∀ (v : Int), (v = if (fo (hgP n (fun i k => Z 470 (36 * t + 6 * i + k))) n (0, (mk0 Z, 1))).2.2 = 0 then 0 else 1) → mjW1 10 248 [yR 11 464, yI (t : Int)] (mjRow Z 463 (fo (hgF n (fun i k => Z 470 (36 * t + 6 * i + k))) n (0, mk0 Z)).2) (fun z' Z2 => Int32.ofInt z' = Int32.ofInt v ∧ INV Z2) := fun v hv => by
        refine go _ _ (by rw [mjRow_ne (by decide)]; exact a3) (by rw [mjRow_ne (by decide)]; exact b3) (fun _ => ?_) (fun g => absurd h3 g)
        refine fm_hang (d := 7) (T := fun i k => Z 470 (36 * t + 6 * i + k)) (G := mk0 Z) (by omega) hn1 hn6 (by rw [mjRow_ne (by decide)]; exact b2) (fun i k hi hk => ?_) (fun j hj => mk0_v hj) fun h => ?_
        · rw [mjRow_ne (by decide)]
          have := b4 i k hi hk
          exact ⟨rfl, by omega, by omega⟩
        · rw [pcS_fl]
          have q2 := i3.2.1
          refine ⟨by omega, fun g => by omega, fun _ => ⟨by omega, fun g => ?_, fun g => ?_⟩⟩
          · rw [if_pos g] at hv
            exact ⟨by rw [hv], INV_pc hI⟩
          · rw [if_neg g] at hv
            exact ⟨by rw [hv], INV_pc hI⟩
      refine fc_two (d := 5) (T := fun i k => Z 470 (36 * t + 6 * i + k)) b1 hr (by omega) (fun i k hi hk => (b4 i k hi hk).1) sy (by rw [← i2]; exact i3.1) i5 (fun hB => ?_) (fun hB => ?_)
      · exact ⟨by omega, fun _ => rf 0 (by rw [if_pos (i4 hB)]), fun g => absurd rfl g⟩
      · refine ⟨by omega, fun g => by omega, fun _ => rf 1 ?_⟩
        rw [if_neg fun g => hB (by rw [← i2]; exact i3.2.2 g)]
    · rw [if_neg h3]
      exact ⟨by omega, fun g => absurd rfl g, fun _ => fc_found (d := 8) (f := 8) (by omega) (go _ _ (by rw [fdC_ne (by decide) (by decide)]; exact a3) (by rw [fdC_ne (by decide) (by decide)]; exact b3) (fun g => absurd g h3) (fun _ => fm_finds (d := 8) (f := 8) (by omega) ⟨rfl, INV_fd (by omega) hI⟩))⟩
