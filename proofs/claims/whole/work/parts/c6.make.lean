/-! Cases: turn, drop, shift, mix; what all tables that are made have alike. -/
theorem kpC_ne {m c : Nat} {x : Int} {Z : mjZ} (h0 : c ≠ 0) (h1 : c ≠ 35 + 2 * m) : kpC m x Z c = Z c := by unfold kpC; rw [mjUp_nc h0, mjUp_nc h1]
theorem INV_made {Z : mjZ} {m n : Nat} {g h : Nat → Int} {x : Int} (hI : INV Z) (hm : Z 0 2 = (m : Int)) (h60 : m < 60) (h1 : 1 ≤ n) (h6 : n ≤ 6) (hb : ∀ i k, i < n → k < n → -100 ≤ g (6 * i + k) ∧ g (6 * i + k) ≤ 100) (hs : tSym n (fun i k => g (6 * i + k))) (hh : ∀ i k, i < n → k < n → h (6 * i + k) = g (6 * i + k)) (hz : ∀ j, j < 36 → ¬ (j / 6 < n ∧ j % 6 < n) → h j = 0) (hk : tKind n (fun i k => g (6 * i + k)) x ∨ x = 4 ∧ tFlow n (fun i k => g (6 * i + k))) : INV (cmM m n x (mjRow (kpC m x (drW m n g Z)) 471 h)) := by
  have c470 : ∀ j, cmM m n x (mjRow (kpC m x (drW m n g Z)) 471 h) 470 j = if 36 * m ≤ j ∧ j < 36 * m + 36 then h (j - 36 * m) else Z 470 j := fun j => by
    unfold cmM
    rw [mjUp_nc (by decide), mjRow_at, mjRow_at, fo_cpy, mjRow_ne (by decide), kpC_ne (by decide) (by omega), drW_ne (by omega) (by omega)]
  have e : ∀ c, c ≠ 464 → c ≠ 468 → c ≠ 469 → c ≠ 470 → c ≠ 471 → cmM m n x (mjRow (kpC m x (drW m n g Z)) 471 h) c = kpC m x (drW m n g Z) c := fun c g1 g2 g3 g4 g5 => by
    unfold cmM
    rw [mjUp_nc g1, mjRow_ne g4, mjUp_nc g3, mjUp_nc g2, mjRow_ne g5]
  have ec : cmM m n x (mjRow (kpC m x (drW m n g Z)) 471 h) (35 + 2 * m) = mjUp (drW m n g Z) (35 + 2 * m) 1 x (35 + 2 * m) := by
    rw [e _ (by omega) (by omega) (by omega) (by omega) (by omega)]
    unfold kpC
    rw [mjUp_nc (by omega)]
  have ec1 : cmM m n x (mjRow (kpC m x (drW m n g Z)) 471 h) (35 + 2 * m + 1) = g := by
    rw [e _ (by omega) (by omega) (by omega) (by omega) (by omega), kpC_ne (by omega) (by omega)]
    unfold drW
    exact mjRow_at
  have eT : tE (cmM m n x (mjRow (kpC m x (drW m n g Z)) 471 h)) (35 + 2 * m) = fun i k => g (6 * i + k) := by
    funext i k
    exact congrFun ec1 _
  have e1x : cmM m n x (mjRow (kpC m x (drW m n g Z)) 471 h) (35 + 2 * m) 1 = x := by rw [ec, mjUp_at]
  have h468 : ∀ k, cmM m n x (mjRow (kpC m x (drW m n g Z)) 471 h) 468 k = if k = m then x else Z 468 k := fun k => by
    unfold cmM
    rw [mjUp_nc (by decide), mjRow_ne (by decide), mjUp_nc (by decide)]
    by_cases hkm : k = m
    · rw [if_pos hkm, hkm, mjUp_at]
    · rw [if_neg hkm, mjUp_ne fun _ => hkm, mjRow_ne (by decide), kpC_ne (by decide) (by omega), drW_ne (by omega) (by omega)]
  have h469 : ∀ k, cmM m n x (mjRow (kpC m x (drW m n g Z)) 471 h) 469 k = if k = m then (n : Int) else Z 469 k := fun k => by
    unfold cmM
    rw [mjUp_nc (by decide), mjRow_ne (by decide)]
    by_cases hkm : k = m
    · rw [if_pos hkm, hkm, mjUp_at]
    · rw [if_neg hkm, mjUp_ne fun _ => hkm, mjUp_nc (by decide), mjRow_ne (by decide), kpC_ne (by decide) (by omega), drW_ne (by omega) (by omega)]
  refine INV_new hI hm h60 (fun c g0 g1 g2 g3 g4 g5 g6 g7 => ?_) (fun k hk2 => ?_) ?_ (fun k hk2 _ => ?_) ?_ (fun k hk2 => by rw [h468, if_neg hk2]) (fun k hk2 => by rw [h469, if_neg hk2]) (fun k hk2 => by rw [c470, if_neg (by omega)]) ?_
  · rw [e c g3 g4 g5 g6 g7, kpC_ne g0 g1, drW_ne g1 g2]
  · rw [e 0 (by decide) (by decide) (by decide) (by decide) (by decide)]
    unfold kpC
    rw [mjUp_ne fun _ => hk2, mjUp_nc (by omega), drW_ne (by omega) (by omega)]
  · rw [e 0 (by decide) (by decide) (by decide) (by decide) (by decide)]
    exact mjUp_at
  · unfold cmM
    rw [mjUp_ne fun _ => hk2, mjRow_ne (by decide), mjUp_nc (by decide), mjUp_nc (by decide), mjRow_ne (by decide), kpC_ne (by decide) (by omega), drW_ne (by omega) (by omega)]
  · exact mjUp_at
  · refine ⟨n, ⟨?_, h1, h6⟩, by rw [h469, if_pos rfl], by rw [h468, if_pos rfl, e1x], fun i k hi hk2 => ?_, by rw [eT]; exact hs, fun j hj hn => ?_, by rw [eT, e1x]; exact hk⟩
    · rw [ec, mjUp_ne fun _ => by decide]
      exact (drW_n h1 h6).1
    · rw [eT, c470, if_pos (by omega), show 36 * m + 6 * i + k - 36 * m = 6 * i + k by omega, hh i k hi hk2]
      exact ⟨rfl, hb i k hi hk2⟩
    · rw [c470, if_pos (by omega), show 36 * m + j - 36 * m = j by omega]
      exact hz j hj hn
/-- cells that don't count: the draft, the row of what is being made -/
theorem INV_draft {Z : mjZ} {m n : Nat} {g : Nat → Int} (hI : INV Z) (hm : Z 0 2 = (m : Int)) (h60 : m < 60) : INV (drW m n g Z) := by
  obtain ⟨h1, h2, h3, h4, h5, h6⟩ := hI
  have e : ∀ c, c ≠ 35 + 2 * m → c ≠ 35 + 2 * m + 1 → drW m n g Z c = Z c := fun c g1 g2 => drW_ne g1 g2
  have e' : ∀ c, c < 34 ∨ 155 ≤ c → drW m n g Z c = Z c := fun c hc => e c (by omega) (by omega)
  refine ⟨h1.fr (fun c g1 g2 => e' c (by omega)) (e' _ (by omega)) (e' _ (by omega)) (e' _ (by omega)), ?_, h3.fr (fun c g1 g2 => e' c (by omega)) (by rw [e' _ (by omega)]) (by rw [e' _ (by omega)]) (fun k _ => by rw [e' _ (by omega)]) (fun k _ => by rw [e' _ (by omega)]) (fun k _ => by rw [e' _ (by omega)]), h4.fr (by rw [e' _ (by omega)]) (by rw [e' _ (by omega)]) (by rw [e' _ (by omega)]) (by rw [e' _ (by omega)]) (by rw [e' _ (by omega)]) (by rw [e' _ (by omega)]) (e' _ (by omega)) (e' _ (by omega)), h5.fr (by rw [e' _ (by omega)]) (by rw [e' _ (by omega)]) (e' _ (by omega)) (e' _ (by omega)), h6.fr (fun k _ _ => by rw [e' _ (by omega)]) (fun k _ => by rw [e' _ (by omega)]) (fun k _ => by rw [e' _ (by omega)]) (e' _ (by omega)) (e' _ (by omega)) (e' _ (by omega)) (e' _ (by omega))⟩
  obtain ⟨m', a1, a2, a3, a4⟩ := h2
  refine ⟨m', a1, by rw [e' _ (by omega)]; exact a2, by rw [e' _ (by omega)]; exact a3, fun t ht => (a4 t ht).fr (e _ (by omega) (by omega)) (e _ (by omega) (by omega)) (by rw [e' _ (by omega)]) (by rw [e' _ (by omega)]) (fun j _ => by rw [e' _ (by omega)])⟩
theorem INV_471 {Z : mjZ} {h : Nat → Int} (hI : INV Z) : INV (mjRow Z 471 h) := by
  obtain ⟨h1, h2, h3, h4, h5, h6⟩ := hI
  have e : ∀ c, c ≠ 471 → mjRow Z 471 h c = Z c := fun c g => mjRow_ne g
  exact ⟨h1.fr (fun c g1 g2 => e c (by omega)) (e _ (by decide)) (e _ (by decide)) (e _ (by decide)), h2.fr (fun c g1 g2 => e c (by omega)) (by rw [e _ (by decide)]) (by rw [e _ (by decide)]) (e _ (by decide)) (e _ (by decide)) (e _ (by decide)), h3.fr (fun c g1 g2 => e c (by omega)) (by rw [e _ (by decide)]) (by rw [e _ (by decide)]) (fun k _ => by rw [e _ (by decide)]) (fun k _ => by rw [e _ (by decide)]) (fun k _ => by rw [e _ (by decide)]), h4.fr (by rw [e _ (by decide)]) (by rw [e _ (by decide)]) (by rw [e _ (by decide)]) (by rw [e _ (by decide)]) (by rw [e _ (by decide)]) (by rw [e _ (by decide)]) (e _ (by decide)) (e _ (by decide)), h5.fr (by rw [e _ (by decide)]) (by rw [e _ (by decide)]) (e _ (by decide)) (e _ (by decide)), h6.fr (fun k _ _ => by rw [e _ (by decide)]) (fun k _ => by rw [e _ (by decide)]) (fun k _ => by rw [e _ (by decide)]) (e _ (by decide)) (e _ (by decide)) (e _ (by decide)) (e _ (by decide))⟩
theorem fdC_row {f : Nat} {Z : mjZ} {h : Nat → Int} : mjRow (fdC f Z) 471 h = fdC f (mjRow Z 471 h) := by
  funext c
  by_cases hc : c = 471
  · subst hc
    rw [mjRow_at, fdC_ne (by decide) (by decide), mjRow_at]
  · rw [mjRow_ne hc]
    unfold fdC
    by_cases h2 : c = 253
    · subst h2
      rw [mjUp_c, mjUp_c, mjUp_nc (by decide), mjUp_nc (by decide), mjRow_ne (by decide)]
    · rw [mjUp_nc h2, mjUp_nc h2]
      by_cases h3 : c = 0
      · subst h3
        rw [mjUp_c, mjUp_c, mjRow_ne (by decide)]
      · rw [mjUp_nc h3, mjUp_nc h3, mjRow_ne hc]
def sw (a b i : Nat) : Nat := if i = a then b else if i = b then a else i
def sk (g i : Nat) : Nat := if i < g then i else i + 1
section OPS
variable {d m n t : Nat} {Z : mjZ}
theorem tb_turned {c e a b : Nat} {q : mjZ → Prop} (hn : tN Z c n) (he : tN Z e n) (hx : e ≠ c ∧ e ≠ c + 1 ∧ c ≠ e + 1) (ha : a < n) (hb : b < n) (hq : q (mjRow Z (c + 1) (rF n (fun i k => tE Z e (sw a b i) (sw a b k)) (Z (c + 1))))) : mjW0 (d + 3) 55 [yR 6 c, yR 6 e, yI (a : Int), yI (b : Int)] Z q := by
  have h6 := hn.2.2
  have hsw : ∀ i, i < n → sw a b i < n := fun i hi => by unfold sw; split <;> (try split) <;> omega
  refine mje_55 (d := d + 2) ?_
  refine lp_row (A := c + 1) (n := n) (f := fun i g => fo (fun k g => va_up g (6 * i + k) (tE Z e (sw a b i) (sw a b k))) n g) (L := fun i Z => mjL_55_3 (d + 2) c e (a : Int) (b : Int) i Z q) (fun i g hi hL => ?_) ?_
  · have hnc := (hn.row (g := g) (show c ≠ c + 1 by omega)).1
    have inner : mjL_55_39 (d + 2) c e (a : Int) (b : Int) i ((sw a b i : Nat) : Int) 0 (mjRow Z (c + 1) g) q := by
      refine lp_fold0 (n := n) (f := fun k g => va_up g (6 * i + k) (tE Z e (sw a b i) (sw a b k))) (L := fun k g => mjL_55_39 (d + 2) c e (a : Int) (b : Int) i ((sw a b i : Nat) : Int) k (mjRow Z (c + 1) g) q) (a := g) (fun k g hk hL2 => ?_) ?_
      · have hnc := hn.row (g := g) (show c ≠ c + 1 by omega)
        have hne := he.row (g := g) hx.2.1
        have hnc0 := hnc.1
        have eT : ∀ u v, tE (mjRow Z (c + 1) g) e u v = tE Z e u v := fun u v => congrFun (mjRow_ne (by omega)) _
        have fin : ∀ w : Nat, w = sw a b k → mjW1 (d + 2) 40 [yR 6 e, yI ((sw a b i : Nat) : Int), yI (w : Int)] (mjRow Z (c + 1) g) (fun v Z6 => mjW0 (d + 2) 37 [yR 6 c, yI (i : Int), yI (k : Int), yI v] Z6 (fun Z7 => mjL_55_39 (d + 2) c e (a : Int) (b : Int) i ((sw a b i : Nat) : Int) (k + 1) Z7 q)) := fun w hw => by
          subst hw
          refine tb_number hne (hsw i hi) (hsw k hk) (tb_write hnc hi hk ?_)
          rw [eT, mjRow_up]
          exact hL2
        refine mjl_55_39 ⟨by omega, by omega, fun h => by omega, fun _ => ⟨by omega, fun g1 => ⟨by omega, fun g2 => fin k ?_, fun g2 => fin a ?_⟩, fun g1 => fin b ?_⟩⟩
        · unfold sw; rw [if_neg (by omega), if_neg (by omega)]
        · unfold sw; rw [if_neg (by omega), if_pos (by omega)]
        · unfold sw; rw [if_pos (by omega)]
      · have hnc0 := (hn.row (g := fo (fun k g => va_up g (6 * i + k) (tE Z e (sw a b i) (sw a b k))) n g) (show c ≠ c + 1 by omega)).1
        exact mjl_55_39 ⟨by omega, by omega, fun _ => hL, fun h => by omega⟩
    refine mjl_55_3 ⟨by omega, by omega, fun h => by omega, fun _ => ⟨by omega, fun g1 => ⟨by omega, fun g2 => ?_, fun g2 => ?_⟩, fun g1 => ?_⟩⟩
    · rw [show sw a b i = i by unfold sw; rw [if_neg (by omega), if_neg (by omega)]] at inner; exact inner
    · rw [show sw a b i = a by unfold sw; rw [if_neg (by omega), if_pos (by omega)]] at inner; exact inner
    · rw [show sw a b i = b by unfold sw; rw [if_pos (by omega)]] at inner; exact inner
  · have hnc : ∀ G, mjRow Z (c + 1) G c 0 = (n : Int) := fun G => (hn.row (show c ≠ c + 1 by omega)).1
    refine mjl_55_3 ?_
    rw [hnc]
    exact ⟨by omega, by omega, fun _ => hq, fun h => by omega⟩
theorem tb_without {c e w : Nat} {q : mjZ → Prop} (hn : tN Z c n) (he : tN Z e (n + 1)) (hx : e ≠ c ∧ e ≠ c + 1 ∧ c ≠ e + 1) (hw : w < n + 1) (hq : q (mjRow Z (c + 1) (rF n (fun i k => tE Z e (sk w i) (sk w k)) (Z (c + 1))))) : mjW0 (d + 3) 63 [yR 6 c, yR 6 e, yI (w : Int)] Z q := by
  have h6 := hn.2.2
  have hsk : ∀ i, i < n → sk w i < n + 1 := fun i hi => by unfold sk; split <;> omega
  refine mje_63 (d := d + 2) ?_
  refine lp_row (A := c + 1) (n := n) (f := fun i g => fo (fun k g => va_up g (6 * i + k) (tE Z e (sk w i) (sk w k))) n g) (L := fun i Z => mjL_63_2 (d + 2) c e w i Z q) (fun i g hi hL => ?_) ?_
  · have hnc := (hn.row (g := g) (show c ≠ c + 1 by omega)).1
    refine mjl_63_2 ⟨by omega, by omega, fun h => by omega, fun _ => ?_⟩
    refine lp_fold0 (n := n) (f := fun k g => va_up g (6 * i + k) (tE Z e (sk w i) (sk w k))) (L := fun k g => mjL_63_13 (d + 2) c e w i k (mjRow Z (c + 1) g) q) (a := g) (fun k g hk hL2 => ?_) ?_
    · have hnc := hn.row (g := g) (show c ≠ c + 1 by omega)
      have hne := he.row (g := g) hx.2.1
      have hnc0 := hnc.1
      have eT : ∀ u v, tE (mjRow Z (c + 1) g) e u v = tE Z e u v := fun u v => congrFun (mjRow_ne (by omega)) _
      have fin : ∀ u v : Nat, u = sk w i → v = sk w k → mjW1 (d + 2) 40 [yR 6 e, yI (u : Int), yI (v : Int)] (mjRow Z (c + 1) g) (fun v Z6 => mjW0 (d + 2) 37 [yR 6 c, yI (i : Int), yI (k : Int), yI v] Z6 (fun Z7 => mjL_63_13 (d + 2) c e w i (k + 1) Z7 q)) := fun u v hu hv => by
        subst hu hv
        refine tb_number hne (hsk i hi) (hsk k hk) (tb_write hnc hi hk ?_)
        rw [eT, mjRow_up]
        exact hL2
      refine mjl_63_13 ⟨by omega, by omega, fun h => by omega, fun _ => ⟨by omega, by omega, fun g1 => ⟨fun g2 => fin (i + 1) (k + 1) ?_ ?_, fun g2 => fin (i + 1) k ?_ ?_⟩, fun g1 => ⟨fun g2 => fin i (k + 1) ?_ ?_, fun g2 => fin i k ?_ ?_⟩⟩⟩ <;> (unfold sk; split <;> omega)
    · have hnc0 := (hn.row (g := fo (fun k g => va_up g (6 * i + k) (tE Z e (sk w i) (sk w k))) n g) (show c ≠ c + 1 by omega)).1
      exact mjl_63_13 ⟨by omega, by omega, fun _ => hL, fun h => by omega⟩
  · have hnc : ∀ G, mjRow Z (c + 1) G c 0 = (n : Int) := fun G => (hn.row (show c ≠ c + 1 by omega)).1
    refine mjl_63_2 ?_
    rw [hnc]
    exact ⟨by omega, by omega, fun _ => hq, fun h => by omega⟩
end OPS
