/-! Cases: digest. -/
def dgS (Z : mjZ) (x : Int) : mjZ := mjUp Z 464 42 x
theorem dgS_up {Z : mjZ} {x y : Int} : mjUp (dgS Z x) 464 42 y = dgS Z y := by
  unfold dgS
  funext a k
  unfold mjUp
  by_cases h : a = 464 ∧ k = 42
  · rw [if_pos h, if_pos h]
  · rw [if_neg h, if_neg h, if_neg h]
theorem dgS_at {Z : mjZ} {x : Int} : dgS Z x 464 42 = x := mjUp_at
theorem dgS_ne {Z : mjZ} {x : Int} {c : Nat} (h : c ≠ 464) : dgS Z x c = Z c := mjUp_nc h
theorem dgS_o {Z : mjZ} {x : Int} {k : Nat} (h : k ≠ 42) : dgS Z x 464 k = Z 464 k := by simp [dgS, mjUp, h]
theorem INV_dg {Z : mjZ} {x : Int} (h : INV Z) : INV (dgS Z x) := by
  obtain ⟨h1, h2, h3, h4, h5, h6⟩ := h
  have e : ∀ c, c ≠ 464 → dgS Z x c = Z c := fun c g => dgS_ne g
  have eo : ∀ k, k ≠ 42 → dgS Z x 464 k = Z 464 k := fun k g => dgS_o g
  exact ⟨h1.fr (fun c g1 g2 => e c (by omega)) (e _ (by decide)) (e _ (by decide)) (e _ (by decide)), h2.fr (fun c g1 g2 => e c (by omega)) (by rw [e _ (by decide)]) (eo 3 (by decide)) (e _ (by decide)) (e _ (by decide)) (e _ (by decide)), h3.fr (fun c g1 g2 => e c (by omega)) (by rw [e _ (by decide)]) (eo 18 (by decide)) (fun k _ => by rw [e _ (by decide)]) (fun k _ => by rw [e _ (by decide)]) (fun k _ => by rw [e _ (by decide)]), h4.fr (by rw [e _ (by decide)]) (by rw [e _ (by decide)]) (by rw [e _ (by decide)]) (eo 8 (by decide)) (eo 9 (by decide)) (eo 11 (by decide)) (e _ (by decide)) (e _ (by decide)), h5.fr (by rw [e _ (by decide)]) (eo 13 (by decide)) (e _ (by decide)) (e _ (by decide)), h6.fr (fun k _ _ => by rw [e _ (by decide)]) (fun k _ => by rw [e _ (by decide)]) (fun k _ => by rw [e _ (by decide)]) (e _ (by decide)) (e _ (by decide)) (e _ (by decide)) (e _ (by decide))⟩
theorem fm_mix1 {d : Nat} {Z : mjZ} {x v : Int} {q : mjZ → Prop} (hq : q (dgS Z (31 * x + v))) : mjW0 (d + 1) 260 [yR 11 464, yJ v] (dgS Z x) q := by
  refine mje_260 ?_
  rw [dgS_at, dgS_up]
  exact hq
/-- what the digest takes in -/
def dgL (Z : mjZ) (i : Nat) (s : Int) : Int := 31 * s + Z 465 i
def dgE (Z : mjZ) (t n i : Nat) (s : Int) : Int := fo (fun k s => 31 * s + Z 470 (36 * t + 6 * i + k)) n s
def dgT (Z : mjZ) (t : Nat) (s : Int) : Int := fo (dgE Z t (Z 469 t).toNat) (Z 469 t).toNat (31 * (31 * s + Z 468 t) + Z 469 t)
def dgR (Z : mjZ) (r : Nat) (s : Int) : Int := 31 * (31 * (31 * s + Z 476 r) + btN Z r (Z 475 r).toNat) + (wdN Z r (Z 475 r).toNat 0 : Int)
theorem rgIs.dg {Z : mjZ} {i n : Nat} {x : Int} (h : rgIs Z i n) (hi : i < 48) : rgIs (dgS Z x) i n := by
  have e : ∀ c, c ≠ 464 → dgS Z x c = Z c := fun c g => dgS_ne g
  unfold rgIs bgW at h ⊢
  rw [e (156 + 2 * i) (by omega), e (156 + 2 * i + 1) (by omega), e (157 + 2 * i) (by omega), e 474 (by decide), e 475 (by decide), e 476 (by decide)]
  exact h
theorem lmN_dg {Z : mjZ} {i n j : Nat} {x : Int} : lmN (dgS Z x) i n j = lmN Z i n j := by unfold lmN; rw [dgS_ne (by decide)]
theorem btN_dg {Z : mjZ} {i n : Nat} {x : Int} : btN (dgS Z x) i n = btN Z i n := by unfold btN; rw [lmN_dg]
theorem wdN_dg {Z : mjZ} {i n k : Nat} {x : Int} : wdN (dgS Z x) i n k = wdN Z i n k := by unfold wdN; rw [lmN_dg, lmN_dg]
section DG
variable {d n t m : Nat} {Z : mjZ}
theorem tb_fold {s : Int} {q : Int → mjZ → Prop} (ht : t < 60) (hn : tN Z (35 + 2 * t) n) (h9 : Z 469 t = (n : Int)) (h8 : Z 468 t = Z (35 + 2 * t) 1) (hk : 0 ≤ Z (35 + 2 * t) 1 ∧ Z (35 + 2 * t) 1 ≤ 4) (hT : ∀ i k, i < n → k < n → tE Z (35 + 2 * t) i k = Z 470 (36 * t + 6 * i + k) ∧ -100 ≤ tE Z (35 + 2 * t) i k ∧ tE Z (35 + 2 * t) i k ≤ 100) (hq : q (dgT Z t s) Z) : mjW2 (d + 3) 165 [yR 6 (35 + 2 * t), yJ s] Z q := by
  obtain ⟨h0, h1, h6⟩ := id hn
  unfold dgT at hq
  rw [h9, show ((n : Int)).toNat = n from rfl] at hq
  refine mje_165 (d := d + 2) ?_
  rw [← h8, h0]
  refine ⟨by omega, by omega, ?_⟩
  refine lp_fold0 (n := n) (f := dgE Z t n) (L := fun i x => mjL_165_25 (d + 2) (35 + 2 * t) s x i Z q) (fun i x hi hL => ?_) ?_
  · refine mjl_165_25 ⟨by omega, by omega, fun h => by omega, fun _ => ?_⟩
    refine lp_fold0 (n := n) (f := fun k s => 31 * s + Z 470 (36 * t + 6 * i + k)) (L := fun k x => mjL_165_37 (d + 2) (35 + 2 * t) s x i k Z q) (fun k x hk hL2 => ?_) ?_
    · have := hT i k hi hk
      refine mjl_165_37 ⟨by omega, by omega, fun h => by omega, fun _ => tb_number (d := d) hn hi hk ⟨by omega, ?_⟩⟩
      rw [this.1]
      exact hL2
    · exact mjl_165_37 ⟨by omega, by omega, fun _ => hL, fun h => by omega⟩
  · exact mjl_165_25 ⟨by omega, by omega, fun _ => hq, fun h => by omega⟩
end DG
theorem iv_digest_ok : iv_digest INV := fun Z hI => by
  obtain ⟨m, a1, a2, a3, a4⟩ := hI.2.1
  obtain ⟨r, r1, r2, r3, r4⟩ := hI.2.2.1
  have hk4 : ∀ t, t < m → 0 ≤ Z (35 + 2 * t) 1 ∧ Z (35 + 2 * t) 1 ≤ 4 := fun t ht => by
    obtain ⟨n, b1, b2, b3, b4, b5, b6, b7⟩ := a4 t ht
    rcases b7 with (⟨g, -⟩ | ⟨g, -⟩ | ⟨g, -⟩ | ⟨g, -⟩) | ⟨g, -⟩ <;> omega
  have rg : ∀ i, i < r → rgIs Z i (Z 475 i).toNat := fun i hi => by
    obtain ⟨v, b1, b2⟩ := r4 i hi
    obtain ⟨n, g⟩ := rg_of b1 b2
    have := g.2.2.1
    rw [this]
    exact g
  -- the reference
  have ref : mjW2 10 259 [yR 11 464] Z (fun z' Z2 => Int64.ofInt z' = Int64.ofInt (fo (dgR Z) r (31 * fo (dgT Z) m (fo (dgL Z) 16 41) + (r : Int))) ∧ INV Z2) := by
    have e3 : ∀ x, dgS Z x 464 3 = (m : Int) := fun x => by rw [dgS_o (by decide)]; exact a3
    have e18 : ∀ x, dgS Z x 464 18 = (r : Int) := fun x => by rw [dgS_o (by decide)]; exact r3
    refine mje_259 (d := 9) ?_
    refine lp_fold0 (n := 16) (f := dgL Z) (L := fun i x => mjL_259_9 9 i (dgS Z x) _) (a := 41) (fun i x hi hL => ?_) ?_
    · have l := hI.1 i hi
      refine mjl_259_9 ⟨by omega, fun g => by omega, fun _ => ⟨by omega, by omega, ?_⟩⟩
      rw [dgS_ne (by decide)]
      have := l.2.1
      have := l.2.2.1
      exact ⟨by omega, fm_mix1 (d := 8) hL⟩
    · refine mjl_259_9 ⟨by omega, fun _ => ?_, fun g => by omega⟩
      refine lp_fold0 (n := m) (f := dgT Z) (L := fun i x => mjL_259_34 9 i (dgS Z x) _) (fun t x ht hL => ?_) ?_
      · obtain ⟨n, b1, b2, b3, b4, b5, b6, b7⟩ := a4 t ht
        have hk := hk4 t ht
        have hn6 := b1.2.2
        have hn1 := b1.2.1
        have e9 : ∀ x, dgS Z x 469 t = (n : Int) := fun x => by rw [dgS_ne (by decide)]; exact b2
        refine mjl_259_34 ?_
        rw [e3, dgS_ne (c := 468) (by decide)]
        refine ⟨by omega, by omega, fun g => by omega, fun _ => ⟨by omega, by omega, by omega, fm_mix1 (d := 8) ?_⟩⟩
        rw [e9]
        refine ⟨by omega, fm_mix1 (d := 8) ?_⟩
        unfold dgT at hL
        rw [b2, show ((n : Int)).toNat = n from rfl] at hL
        refine lp_fold0 (n := n) (f := dgE Z t n) (L := fun i x => mjL_259_66 9 t i (dgS Z x) _) (fun i x hi hL2 => ?_) ?_
        · refine mjl_259_66 ?_
          rw [e9]
          refine ⟨by omega, by omega, by omega, by omega, fun g => by omega, fun _ => ?_⟩
          refine lp_fold0 (n := n) (f := fun k s => 31 * s + Z 470 (36 * t + 6 * i + k)) (L := fun k x => mjL_259_78 9 t i k (dgS Z x) _) (fun k x hk2 hL3 => ?_) ?_
          · refine mjl_259_78 ?_
            rw [e9]
            have := b4 i k hi hk2
            refine ⟨by omega, by omega, by omega, by omega, fun g => by omega, fun _ => fm_number (d := 8) (by omega) (by omega) (by omega) ?_⟩
            rw [dgS_ne (by decide)]
            exact ⟨by omega, fm_mix1 (d := 8) hL3⟩
          · refine mjl_259_78 ?_
            rw [e9]
            exact ⟨by omega, by omega, by omega, by omega, fun _ => hL2, fun g => by omega⟩
        · refine mjl_259_66 ?_
          rw [e9]
          exact ⟨by omega, by omega, by omega, by omega, fun _ => hL, fun g => by omega⟩
      · refine mjl_259_34 ?_
        rw [e3, e18]
        refine ⟨by omega, by omega, fun _ => ⟨by omega, fm_mix1 (d := 8) ?_⟩, fun g => by omega⟩
        refine lp_fold0 (n := r) (f := dgR Z) (L := fun i x => mjL_259_129 9 i (dgS Z x) _) (fun i x hi hL => ?_) ?_
        · have g := rg i hi
          have g5 := g.2.2.2.2.1
          have gb := btN_bd (Z := Z) (i := i) g.1
          refine mjl_259_129 ?_
          rw [e18, dgS_ne (c := 476) (by decide)]
          refine ⟨by omega, by omega, fun g => by omega, fun _ => ⟨by omega, by omega, by omega, fm_mix1 (d := 8) (fm_bits (d := 8) (by omega) (g.dg (by omega)) ?_)⟩⟩
          rw [btN_dg]
          refine ⟨by omega, fm_mix1 (d := 8) (fm_wordOf (d := 6) (k := 0) (by omega) (g.dg (by omega)) (by decide) ?_)⟩
          rw [wdN_dg]
          exact fm_mix1 (d := 8) hL
        · refine mjl_259_129 ?_
          rw [e18, dgS_at]
          exact ⟨by omega, by omega, fun _ => ⟨rfl, INV_dg hI⟩, fun g => by omega⟩
  -- the class
  refine mje_164 (d := 9) ?_
  refine lp_fold0 (n := 16) (f := dgL Z) (L := fun i x => mjL_164_6 9 x i Z _) (fun i x hi hL => ?_) ?_
  · have l := hI.1 i hi
    have := l.2.1
    have := l.2.2.1
    refine mjl_164_6 ?_
    rw [show 1 + 1 + 2 * i = 2 + 2 * i by omega, l.1]
    exact ⟨by omega, fun g => by omega, fun _ => ⟨by omega, by omega, by omega, hL⟩⟩
  · refine mjl_164_6 ⟨by omega, fun _ => ?_, fun g => by omega⟩
    have fin : mjL_164_82 9 (31 * fo (dgT Z) m (fo (dgL Z) 16 41) + Z 0 4) 0 Z (fun z Z1 => mjW2 10 259 [yR 11 464] Z1 fun z' Z2 => Int64.ofInt z' = Int64.ofInt z ∧ INV Z2) := by
      rw [r2]
      refine lp_fold0 (n := r) (f := dgR Z) (L := fun i x => mjL_164_82 9 x i Z _) (fun i x hi hL => ?_) ?_
      · have g := rg i hi
        have g4 := g.2.2.2.1
        have g5 := g.2.2.2.2.1
        have gb := btN_bd (Z := Z) (i := i) g.1
        refine mjl_164_82 ?_
        rw [r2, show 155 + 1 + 2 * i = 156 + 2 * i by omega, g4]
        refine ⟨by omega, by omega, fun g => by omega, fun _ => ⟨fun g => by omega, fun _ => ⟨by omega, by omega, by omega, fc_width (d := 7) (bgR12 (by omega)) g ⟨by omega, ?_⟩⟩⟩⟩
        exact fc_wordAt (d := 7) (k := 0) (bgR12 (by omega)) g (by decide) hL
      · refine mjl_164_82 ?_
        rw [r2]
        exact ⟨by omega, by omega, fun _ => ref, fun g => by omega⟩
    refine lp_fold0 (n := m) (f := dgT Z) (L := fun i x => mjL_164_37 9 x i Z _) (fun t x ht hL => ?_) ?_
    · obtain ⟨n, b1, b2, b3, b4, b5, b6, b7⟩ := a4 t ht
      refine mjl_164_37 ?_
      rw [a2, show 34 + 1 + 2 * t = 35 + 2 * t by omega]
      exact ⟨by omega, by omega, fun g => by omega, fun _ => ⟨fun g => by omega, fun _ => ⟨by omega, by omega, tb_fold (d := 6) (by omega) b1 b2 b3 (hk4 t ht) b4 hL⟩⟩⟩
    · refine mjl_164_37 ?_
      rw [a2]
      exact ⟨by omega, by omega, fun _ => ⟨by omega, fin⟩, fun g => by omega⟩
