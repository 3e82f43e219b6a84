/-! Cases: signs, show, bend. -/
theorem INV_st {Z Z' : mjZ} (hI : INV Z) (g : stG bdS Z Z') : INV Z' := by
  obtain ⟨i1, i2, i3, i4, i5, i6⟩ := hI
  have e : ∀ c, c < 474 ∨ 477 < c → Z' c = Z c := fun c hc => g.1 c (by omega) (by omega) (by omega) (by omega)
  have r : ∀ k, k < 48 → ¬ bdS k := fun k hk => by unfold bdS; omega
  refine ⟨i1.fr (fun c g1 g2 => e c (by omega)) (e _ (by omega)) (e _ (by omega)) (e _ (by omega)), i2.fr (fun c g1 g2 => e c (by omega)) (by rw [e _ (by omega)]) (by rw [e _ (by omega)]) (e _ (by omega)) (e _ (by omega)) (e _ (by omega)), i3.fr (fun c g1 g2 => e c (by omega)) (by rw [e _ (by omega)]) (by rw [e _ (by omega)]) (fun k hk => ?_) (fun k hk => (g.2 k (r k hk)).1) (fun k hk => (g.2 k (r k hk)).2.1), i4.fr (by rw [e _ (by omega)]) (by rw [e _ (by omega)]) (by rw [e _ (by omega)]) (by rw [e _ (by omega)]) (by rw [e _ (by omega)]) (by rw [e _ (by omega)]) (e _ (by omega)) (e _ (by omega)), i5.fr (by rw [e _ (by omega)]) (by rw [e _ (by omega)]) (e _ (by omega)) (e _ (by omega)), i6.fr (fun k _ _ => by rw [e _ (by omega)]) (fun k _ => by rw [e _ (by omega)]) (fun k _ => by rw [e _ (by omega)]) (e _ (by omega)) (e _ (by omega)) (e _ (by omega)) (e _ (by omega))⟩
  have := (g.2 (k / 24) (r _ (by omega))).2.2 (k % 24) (by omega)
  rw [Nat.div_add_mod] at this
  exact this
/-- what is known when the class has made its way -/
def wyE (n t : Nat) (T : Nat → Nat → Int) (D : Nat → Int) (R : Nat → Nat → Int) (Z1 : mjZ) : Prop := INV Z1 ∧ n ≤ 6 ∧ 1 ≤ n ∧ t < 60 ∧ tSym n T ∧ Z1 342 0 = (n : Int) ∧ pmC Z1 ∧ rwC n Z1 R ∧ (∀ i, i < n → bgIs 12 Z1 (363 + 4 * i) (D i)) ∧ Z1 (35 + 2 * t) 0 = (n : Int) ∧ Z1 469 t = (n : Int) ∧ (∀ i k, i < n → k < n → Z1 470 (36 * t + 6 * i + k) = T i k ∧ -100 ≤ T i k ∧ T i k ≤ 100) ∧ R = wyR n T n ∧ D = fun i => bfv n T (wyR n T n i) (wyR n T n i)
theorem fw_way {Z : mjZ} {t m : Nat} {q : mjZ → Prop} (hI : INV Z) (a1 : m ≤ 60) (a4 : ∀ t, t < m → ivTab Z t) (htm : t < m) (hq : ∀ Z1 n T D R, wyE n t T D R Z1 → Z1 464 3 = Z 464 3 → q Z1) : mjW0 9 127 [yR 8 342, yR 6 (35 + 2 * t)] Z q := by
  obtain ⟨n, b1, b2, b3, b4, b5, b6, b7⟩ := a4 t htm
  obtain ⟨i1, i2, i3, i4, i5, i6⟩ := id hI
  obtain ⟨c1, c2, c3, c4, c5, c6, c7⟩ := i6
  refine fw_make (d := 1) (T := tE Z (35 + 2 * t)) b5 ⟨b1, by omega, fun i k hi hk => ⟨rfl, (b4 i k hi hk).2⟩⟩ c6 c5 fun Z1 W D => ?_
  obtain ⟨w1, w2, w3, w4, w5⟩ := id W
  refine hq Z1 n (tE Z (35 + 2 * t)) _ _ ⟨INV_wy hI w1 w3 w4, b1.2.2, b1.2.1, by omega, b5, w2, w3, w5, D, by rw [W.lt _ (by omega)]; exact b1.1, by rw [w1 469 (by unfold wyS; omega)]; exact b2, fun i k hi hk => ⟨by rw [w1 470 (by unfold wyS; omega)]; exact (b4 i k hi hk).1.symm, (b4 i k hi hk).2⟩, rfl, rfl⟩ (by rw [w1 464 (by unfold wyS; omega)])
/-- the reference's way, where the class's stands -/
theorem fm_way {Zb Z : mjZ} {n t : Nat} {T : Nat → Nat → Int} {D : Nat → Int} {R : Nat → Nat → Int} {q : mjZ → Prop} (h : wyE n t T D R Zb) (e9 : Z 469 = Zb 469) (e0 : Z 470 = Zb 470) (hq : ∀ Z', stG bdS Z Z' → rwR n Z' R → (∀ i, i < n → lbIs Z' (106 + i) (D i)) → q Z') : mjW0 9 230 [yR 11 464, yI (t : Int)] Z q := by
  obtain ⟨h1, h2, h3, h4, h5, h6, h7, h8, h9, h10, h11, h12, h13, h14⟩ := h
  subst h13 h14
  exact fm_bendOf (d := 2) h5 h3 ⟨h4, h2, by rw [e9]; exact h11, fun i k hi hk => by rw [e0]; exact h12 i k hi hk⟩ hq
def sgS (D : Nat → Int) (r : Nat) : Int := sm r fun i => if D i < 0 then 1 else if D i = 0 then 10 else 100
theorem iv_signs_ok : iv_signs INV := fun Z x1 hI => by
  obtain ⟨m, a1, a2, a3, a4⟩ := id hI.2.1
  have hx := i32r x1
  refine mje_139 (d := 9) (fc_tableAt (d := 8) a2 a1 hx (fun h => ?_) fun t ht htm => ?_)
  · refine mje_242 (d := 9) (fm_isTable (d := 7) a3 a1 hx ?_)
    rw [if_neg h]
    exact ⟨by omega, fun g => absurd rfl g, fun _ => ⟨rfl, hI⟩⟩
  · rw [ht]
    refine fw_way hI a1 a4 htm fun Z1 n T D R E e3 => ?_
    obtain ⟨h1, h2, h3, h4, h5, h6, h7, h8, h9, h10, h11, h12, h13, h14⟩ := id E
    refine lp_inv (n := n) (a := Z1) (L := fun r Zr => mjL_139_26 9 (t : Int) (35 + 2 * t) (sgS D r) r Zr _) (Y := fun r Zr => Zr = Z1) (fun r Zr hr hy hL => ?_) (fun Zr hy => ?_) rfl
    · subst hy
      have sg := (h9 r hr).sg
      have e : sgS D (r + 1) = sgS D r + if D r < 0 then 1 else if D r = 0 then 10 else 100 := sm_succ
      have nx := hL Zr rfl
      rw [e] at nx
      refine mjl_139_26 ?_
      rw [h10, show 344 + 19 + 4 * r = 363 + 4 * r by omega, sg]
      refine ⟨by omega, by omega, fun g => by omega, fun _ => ⟨by omega, by omega, by repeat' split
                                                                                      all_goals omega, ?_⟩⟩
      rcases Int.lt_trichotomy (D r) 0 with g | g | g
      · rw [if_pos g] at nx ⊢
        exact ⟨fun _ => ⟨fun _ => nx, fun k => absurd (by decide) k⟩, fun k => absurd (by decide) k⟩
      · rw [if_neg (by omega), if_pos g] at nx ⊢
        exact ⟨fun _ => ⟨fun k => absurd rfl k, fun _ => nx⟩, fun k => absurd (by decide) k⟩
      · rw [if_neg (by omega), if_neg (by omega)] at nx ⊢
        exact ⟨fun k => absurd k (by decide), fun _ => nx⟩
    · subst hy
      refine mjl_139_26 ?_
      rw [h10]
      refine ⟨by omega, by omega, fun _ => ?_, fun g => by omega⟩
      refine mje_242 (d := 9) (fm_isTable (d := 7) (m := m) (by rw [e3]; exact a3) a1 (by omega) ?_)
      rw [if_pos (by omega)]
      refine ⟨by omega, fun _ => ?_, fun k => by omega⟩
      refine fm_way E rfl rfl fun Zd s1 s2 s3 => ?_
      have en : Zd 469 t = (n : Int) := by rw [s1.1 469 (by decide) (by decide) (by decide) (by decide)]; exact h11
      refine lp_inv (n := n) (a := Zd) (L := fun r Zr => mjL_242_20 9 (t : Int) (sgS D r) r Zr _) (Y := fun r Zr => Zr = Zd) (fun r Zr hr hy hL => ?_) (fun Zr hy => ?_) rfl
      · subst hy
        have sg := (s3 r hr).s
        have e : sgS D (r + 1) = sgS D r + if D r < 0 then 1 else if D r = 0 then 10 else 100 := sm_succ
        have nx := hL Zr rfl
        rw [e] at nx
        refine mjl_242_20 ?_
        rw [show ((t : Int)).toNat = t from rfl, en, show (106 + (r : Int)).toNat = 106 + r by omega]
        refine ⟨by omega, by omega, by omega, by omega, fun g => by omega, fun _ => ⟨by omega, by omega, by omega, ?_⟩⟩
        rcases sg with ⟨g, k⟩ | ⟨g, k⟩ | ⟨g, k⟩
        · rw [if_neg (by omega), if_pos g] at nx
          rw [k]
          exact ⟨fun _ => ⟨fun k => absurd rfl k, fun _ => nx⟩, fun k => absurd (by decide) k⟩
        · rw [if_neg (by omega), if_neg (by omega)] at nx
          rw [k]
          exact ⟨fun k => absurd k (by decide), fun _ => nx⟩
        · rw [if_pos g] at nx
          rw [k]
          exact ⟨fun _ => ⟨fun _ => nx, fun k => absurd (by decide) k⟩, fun k => absurd (by decide) k⟩
      · subst hy
        refine mjl_242_20 ?_
        rw [show ((t : Int)).toNat = t from rfl, en]
        exact ⟨by omega, by omega, by omega, by omega, fun _ => ⟨rfl, INV_st h1 s1⟩, fun g => by omega⟩
theorem iv_show_ok : iv_show INV := fun Z x1 hI => by
  obtain ⟨m, a1, a2, a3, a4⟩ := id hI.2.1
  have hx := i32r x1
  refine mje_140 (d := 9) (fc_tableAt (d := 8) a2 a1 hx (fun h => ?_) fun t ht htm => ?_)
  · refine mje_243 (d := 9) (fm_isTable (d := 7) a3 a1 hx ?_)
    rw [if_neg h]
    exact ⟨by omega, fun g => absurd rfl g, fun _ => ⟨rfl, hI⟩⟩
  · rw [ht]
    refine fw_way hI a1 a4 htm fun Z1 n T D R E e3 => ?_
    obtain ⟨h1, h2, h3, h4, h5, h6, h7, h8, h9, h10, h11, h12, h13, h14⟩ := id E
    -- the reference, from any state with the class's answers; z what the class said
    have ref : ∀ (Zc : mjZ) (z : Int), (∀ c, c ≠ 0 → c < 156 ∨ 252 ≤ c → Zc c = Z1 c) → (sr (fun r => if 0 < D r then none else some r) n 0 = none → z = -1 ∧ INV Zc) → (∀ r, sr (fun r => if 0 < D r then none else some r) n 0 = some r → r < n → z = (n : Int) ∧ clR Z1 n Zc (R r)) → mjW1 10 243 [yR 11 464, yI (t : Int)] Zc (fun z' Z2 => Int32.ofInt z' = Int32.ofInt z ∧ INV Z2) := fun Zc z c1 c2 c3 => by
      refine mje_243 (d := 9) (fm_isTable (d := 7) (m := m) (by rw [c1 464 (by decide) (by decide), e3]; exact a3) a1 (by omega) ?_)
      rw [if_pos (by omega)]
      refine ⟨by omega, fun _ => ?_, fun k => by omega⟩
      refine fm_way E (c1 469 (by decide) (by decide)) (c1 470 (by decide) (by decide)) fun Zd s1 s2 s3 => ?_
      have en : Zd 469 t = (n : Int) := by rw [s1.1 469 (by decide) (by decide) (by decide) (by decide), c1 469 (by decide) (by decide)]; exact h11
      refine lp_scan (n := n) (P := fun r => if 0 < D r then none else some r) (E := fun r => mjW0 9 202 [yR 11 464] Zd (fun Z8 => mjL_243_46 9 (t : Int) r 0 Z8 (fun z' Z2 => Int32.ofInt z' = Int32.ofInt z ∧ INV Z2))) (L := fun r Zr => mjL_243_18 9 (t : Int) r Zr _) (Y := fun r Zr => Zr = Zd) (fun r Zr hr hy hN hS => ?_) (fun hn Zr hy => ?_) (fun r hs => ?_) rfl
      · subst hy
        refine mjl_243_18 ?_
        rw [show ((t : Int)).toNat = t from rfl, en, show (106 + (r : Int)).toNat = 106 + r by omega]
        have sg := (s3 r hr).s
        refine ⟨by omega, by omega, by omega, by omega, fun g => by omega, fun _ => ⟨by omega, by omega, by omega, fun g => hN (if_pos (by omega)) Zr rfl, fun g => hS r (if_neg (by omega))⟩⟩
      · subst hy
        refine mjl_243_18 ?_
        rw [show ((t : Int)).toNat = t from rfl, en]
        obtain ⟨c4, c5⟩ := c2 hn
        exact ⟨by omega, by omega, by omega, by omega, fun _ => ⟨by rw [c4], INV_st c5 s1⟩, fun g => by omega⟩
      · obtain ⟨k, g1, g2, g3⟩ := sr_some n 0 hs
        have g4 : k = r := by
          by_cases x : 0 < D k
          · have : (none : Option Nat) = some r := by rw [← g3]; exact (if_pos x).symm
            cases this
          · have : some k = some r := by rw [← g3]; exact (if_neg x).symm
            exact Option.some.inj this
        subst g4
        obtain ⟨c4, c5⟩ := c3 k hs (by omega)
        refine mje_202 (d := 8) ?_
        refine lp_inv (n := n) (a := mjUp Zd 464 18 0) (L := fun r Zr => mjL_243_46 9 (t : Int) k r Zr _) (Y := fun r Zr => tlR Zd r Zr (R k)) (fun r Zr hr hy hL => ?_) (fun Zr hy => ?_) tl_start
        · refine mjl_243_46 ?_
          have ez : Zr 469 t = (n : Int) := by rw [hy.1 469 (by decide) (by decide) (by decide) (by decide)]; exact en
          rw [show ((t : Int)).toNat = t from rfl, ez, show (48 + (6 * (k : Int))) + (r : Int) = ((48 + 6 * k + r : Nat) : Int) by omega]
          refine ⟨by omega, by omega, by omega, by omega, fun g => by omega, fun _ => ?_⟩
          exact tl_step (d := 8) (q := fun Z' => mjL_243_46 9 (t : Int) k (r + 1) Z' _) hy (by omega) (by omega) (s2 k r (by omega) hr) fun Z' h => hL Z' h
        · refine mjl_243_46 ?_
          have ez : Zr 469 t = (n : Int) := by rw [hy.1 469 (by decide) (by decide) (by decide) (by decide)]; exact en
          rw [show ((t : Int)).toNat = t from rfl, ez]
          refine ⟨by omega, by omega, by omega, by omega, fun _ => ⟨by rw [hy.2.2.1, c4], INV_tell h1 (by omega) c5 s1 hy⟩, fun g => by omega⟩
    refine lp_scan (n := n) (P := fun r => if 0 < D r then none else some r) (E := fun r => mjW0 9 138 [yR 10 0, yI (r : Int), yI 0] Z1 (fun Z6 => mjW1 10 243 [yR 11 464, yI (t : Int)] (mjUp Z6 0 4 (Z6 (35 + 2 * t) 0)) (fun z' Z2 => Int32.ofInt z' = Int32.ofInt ((mjUp Z6 0 4 (Z6 (35 + 2 * t) 0)) 0 4) ∧ INV Z2))) (L := fun r Zr => mjL_140_23 9 (t : Int) (35 + 2 * t) r Zr _) (Y := fun r Zr => Zr = Z1) (fun r Zr hr hy hN hS => ?_) (fun hn Zr hy => ?_) (fun r hs => ?_) rfl
    · subst hy
      have sg := (h9 r hr).sg
      refine mjl_140_23 ?_
      rw [h10, show 344 + 19 + 4 * r = 363 + 4 * r by omega, sg]
      refine ⟨by omega, by omega, fun g => by omega, fun _ => ⟨by omega, by omega, by repeat' split
                                                                                      all_goals omega, fun g => hN (if_pos ?_) Zr rfl, fun g => hS r (if_neg fun k => g ?_)⟩⟩
      · revert g
        repeat' split
        all_goals omega
      · rw [if_neg (by omega), if_neg (by omega)]
        decide
    · subst hy
      refine mjl_140_23 ?_
      rw [h10]
      refine ⟨by omega, by omega, fun _ => ref Zr (-1) (fun _ _ _ => rfl) (fun _ => ⟨rfl, h1⟩) fun r hs => ?_, fun g => by omega⟩
      rw [hn] at hs
      cases hs
    · obtain ⟨k, g1, g2, g3⟩ := sr_some n 0 hs
      have g4 : k = r := by
        by_cases x : 0 < D k
        · have : (none : Option Nat) = some r := by rw [← g3]; exact (if_pos x).symm
          cases this
        · have : some k = some r := by rw [← g3]; exact (if_neg x).symm
          exact Option.some.inj this
      subst g4
      refine fw_copyRow (d := 6) (x2 := 0) (R := R) h2 (by omega) (by omega) h6 h7 h8 fun Z6 f1 f2 => ?_
      have e6 : Z6 (35 + 2 * t) 0 = (n : Int) := by rw [f1 _ (by omega)]; exact h10
      rw [e6]
      refine ref _ _ (fun c k1 k2 => by rw [mjUp_nc k1, f1 c (by omega)]) (fun hn => ?_) fun r hs2 hr => ?_
      · rw [hn] at hs
        cases hs
      · rw [hs] at hs2
        have er : k = r := Option.some.inj hs2
        subst er
        refine ⟨mjUp_at, fun c k1 k2 => by rw [mjUp_nc k1, f1 c (by omega)], fun j hj => ?_, mjUp_at, fun i hi => ?_⟩
        · show (if 0 = 0 ∧ j = 4 then _ else Z6 0 j) = _
          rw [if_neg fun c => hj c.2, f1 0 (by omega)]
        · have := f2 i hi
          rw [Nat.zero_add] at this
          exact bgIs_congr this (mjUp_nc (by omega)) (mjUp_nc (by omega))
