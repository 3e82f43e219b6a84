/-! Cases: walks, the reference and the case. -/
section VW
variable {d n t k : Nat} {Z : mjZ} {T : Nat → Nat → Int}
def vS (Z : mjZ) (g h : Nat → Int) : mjZ := mjRow (mjRow Z 478 g) 479 h
theorem vS_g {g h : Nat → Int} {j : Nat} {v : Int} : mjUp (vS Z g h) 478 j v = vS Z (va_up g j v) h := by
  unfold vS
  funext a i
  by_cases e : a = 479
  · subst e
    rw [mjUp_nc (by decide), mjRow_at, mjRow_at]
  · rw [mjRow_ne e]
    by_cases e2 : a = 478
    · subst e2
      rw [mjRow_at]
      show (if 478 = 478 ∧ i = j then v else mjRow (mjRow Z 478 g) 479 h 478 i) = (if i = j then v else g i)
      rw [mjRow_ne (by decide), mjRow_at]
      by_cases q : i = j
      · rw [if_pos ⟨rfl, q⟩, if_pos q]
      · rw [if_neg (fun c => q c.2), if_neg q]
    · rw [mjUp_nc e2, mjRow_ne e2, mjRow_ne e, mjRow_ne e2]
theorem vS_h {g h : Nat → Int} {j : Nat} {v : Int} : mjUp (vS Z g h) 479 j v = vS Z g (va_up h j v) := mjRow_up
theorem vS_ag {g h : Nat → Int} : vS Z g h 478 = g := by unfold vS; rw [mjRow_ne (by decide), mjRow_at]
theorem vS_ah {g h : Nat → Int} : vS Z g h 479 = h := mjRow_at
theorem vS_ne {g h : Nat → Int} {a : Nat} (h1 : a ≠ 478) (h2 : a ≠ 479) : vS Z g h a = Z a := by unfold vS; rw [mjRow_ne h2, mjRow_ne h1]
theorem stO_v {g h : Nat → Int} : stO Z (vS Z g h) := ⟨fun c h1 _ => vS_ne (by omega) (by omega), vS_ne (by decide) (by decide), fun k _ => congrFun (vS_ne (by decide) (by decide)) k⟩
theorem fm_walkL {q : Int → mjZ → Prop} (ht : t < 60) (hk : k ≤ 20) (h1 : 1 ≤ n) (h6 : n ≤ 6) (hT : ∀ i k, i < n → k < n → Z 470 (36 * t + 6 * i + k) = T i k ∧ 0 ≤ T i k ∧ T i k ≤ 1) (hq : ∀ Z2, stO Z Z2 → mjW0 (d + 1) 202 [yR 11 464] Z2 (fun Z3 => mjW0 (d + 1) 203 [yR 11 464, yJ (mxTr n (mxP n T k))] Z3 (fun Z4 => q 1 Z4))) : mjL_245_54 (d + 1) (t : Int) (k : Int) (n : Int) 0 0 Z q := by
  have eS : Z = vS Z (Z 478) (Z 479) := by
    unfold vS
    rw [mjRow_self]
    exact mjRow_self.symm
  rw [eS]
  refine lp_inv (n := n) (α := Int × ((Nat → Int) × (Nat → Int))) (a := (0, (Z 478, Z 479))) (L := fun i a => mjL_245_54 (d + 1) (t : Int) (k : Int) (n : Int) a.1 i (vS Z a.2.1 a.2.2) q) (Y := fun i a => a.1 = fo (fun i s => s + mxP n T k i i) i 0) (fun i a hi hy hL => ?_) (fun a hy => ?_) rfl
  · obtain ⟨s, g, h⟩ := a
    dsimp only at hy ⊢
    refine mjl_245_54 ⟨by omega, by omega, fun h => by omega, fun _ => ?_⟩
    refine lp_fold0 (n := n) (f := fun j g => va_up g (0 + j) (if j = i then 1 else 0)) (L := fun j g => mjL_245_63 (d + 1) (t : Int) (k : Int) (n : Int) s i j (vS Z g h) q) (fun j g hj hL2 => ?_) ?_
    · refine mjl_245_63 ⟨by omega, by omega, fun h => by omega, fun _ => ⟨by omega, fun hne => ⟨by omega, by omega, ?_⟩, fun he => ⟨by omega, by omega, ?_⟩⟩⟩
      · rw [vS_g]
        rw [if_neg (by omega), Nat.zero_add] at hL2
        exact hL2
      · rw [vS_g]
        rw [if_pos (by omega), Nat.zero_add] at hL2
        exact hL2
    · refine mjl_245_63 ⟨by omega, by omega, fun _ => ?_, fun h => by omega⟩
      refine lp_inv (n := k) (α := (Nat → Int) × (Nat → Int)) (a := (fo (fun j g => va_up g (0 + j) (if j = i then 1 else 0)) n g, h)) (L := fun r a => mjL_245_97 (d + 1) (t : Int) (k : Int) (n : Int) s i r (vS Z a.1 a.2) q) (Y := fun r a => ∀ j, j < n → a.1 j = mxP n T r j i) (fun r a hr hy2 hL2 => ?_) (fun a hy2 => ?_) (fun j hj => ?_)
      · obtain ⟨g, h⟩ := a
        dsimp only at hy2 ⊢
        refine mjl_245_97 ⟨by omega, by omega, fun h => by omega, fun _ => ?_⟩
        refine lp_inv (n := n) (a := h) (L := fun m h => mjL_245_106 (d + 1) (t : Int) (k : Int) (n : Int) s i r m (vS Z g h) q) (Y := fun m h => ∀ j, j < m → h j = mxP n T (r + 1) j i) (fun m h hm hy3 hL3 => ?_) (fun h hy3 => ?_) (fun j hj => by omega)
        · refine mjl_245_106 ⟨by omega, by omega, fun h => by omega, fun _ => ⟨by omega, by omega, ?_⟩⟩
          rw [vS_h]
          refine lp_inv (n := n) (a := va_up h m 0) (L := fun p h => mjL_245_123 (d + 1) (t : Int) (k : Int) (n : Int) s i r m p (vS Z g h) q) (Y := fun p h => (∀ j, j < m → h j = mxP n T (r + 1) j i) ∧ h m = fo (fun j s => s + T m j * mxP n T r j i) p 0) (fun p h hp hy4 hL4 => ?_) (fun h hy4 => ?_) ⟨fun j hj => ?_, if_pos rfl⟩
          · have tm := hT m p hm hp
            refine mjl_245_123 ⟨by omega, by omega, fun h => by omega, fun _ => ⟨by omega, by omega, fm_number (d := d) ht (by omega) (by omega) ?_⟩⟩
            rw [vS_ne (a := 470) (by decide) (by decide), tm.1]
            refine ⟨by omega, by omega, by omega, ?_⟩
            rw [vS_ag, vS_ah, vS_h, hy2 p hp]
            refine hL4 _ ⟨fun j hj => ?_, ?_⟩
            · show (if j = m then _ else h j) = _
              rw [if_neg (by omega)]
              exact hy4.1 j hj
            · show (if m = m then h m + T m p * mxP n T r p i else h m) = _
              rw [if_pos rfl, hy4.2]
              rfl
          · refine mjl_245_123 ⟨by omega, by omega, fun _ => hL3 h fun j hj => ?_, fun h => by omega⟩
            rcases Nat.lt_or_ge j m with l | l
            · exact hy4.1 j l
            · rw [show j = m by omega]
              exact hy4.2
          · show (if j = m then (0 : Int) else h j) = _
            rw [if_neg (by omega)]
            exact hy3 j hj
        · refine mjl_245_106 ⟨by omega, by omega, fun _ => ?_, fun h => by omega⟩
          refine lp_inv (n := n) (a := g) (L := fun m g => mjL_245_172 (d + 1) (t : Int) (k : Int) (n : Int) s i r m (vS Z g h) q) (Y := fun m g => ∀ j, j < m → g j = h j) (fun m g hm hy4 hL4 => ?_) (fun g hy4 => ?_) (fun j hj => by omega)
          · refine mjl_245_172 ⟨by omega, by omega, fun h => by omega, fun _ => ⟨by omega, by omega, ?_⟩⟩
            rw [vS_g, vS_ah]
            refine hL4 _ fun j hj => ?_
            show (if j = m then h m else g j) = h j
            by_cases e : j = m
            · rw [if_pos e, e]
            · rw [if_neg e]
              exact hy4 j (by omega)
          · exact mjl_245_172 ⟨by omega, by omega, fun _ => hL2 (g, h) fun j hj => by rw [← hy3 j hj]; exact hy4 j hj, fun h => by omega⟩
      · obtain ⟨g, h⟩ := a
        dsimp only at hy2 ⊢
        refine mjl_245_97 ⟨by omega, by omega, fun _ => ⟨by omega, by omega, ?_⟩, fun h => by omega⟩
        rw [vS_ag, hy2 i hi]
        refine hL (s + mxP n T k i i, (g, h)) ?_
        show s + mxP n T k i i = fo (fun i s => s + mxP n T k i i) i 0 + mxP n T k i i
        rw [hy]
      · show fo (fun j g => va_up g (0 + j) (if j = i then 1 else 0)) n g j = (if j = i then 1 else 0)
        rw [fo_cpy (x := fun j => if j = i then 1 else 0), if_pos (by omega), Nat.sub_zero]
  · obtain ⟨s, g, h⟩ := a
    dsimp only at hy ⊢
    refine mjl_245_54 ⟨by omega, by omega, fun _ => ?_, fun h => by omega⟩
    rw [hy]
    exact hq _ stO_v
end VW
theorem INV_pw {Z Z' : mjZ} {n : Nat} {M : Nat → Nat → Int} (hI : INV Z) (h : PWI Z n M Z') : INV Z' := by
  obtain ⟨p1, p2, a, b, p3, p4, p5, p6⟩ := h
  obtain ⟨i1, i2, i3, i4, i5, i6⟩ := hI
  obtain ⟨a1, a2, a3, a4, a5, a6, a7⟩ := i6
  have e : ∀ c, c < 460 ∨ 462 < c → Z' c = Z c := fun c hc => p1 c (by omega) (by omega) (by omega)
  refine ⟨i1.fr (fun c g1 g2 => e c (by omega)) (e _ (by omega)) (e _ (by omega)) (e _ (by omega)), i2.fr (fun c g1 g2 => e c (by omega)) (by rw [e _ (by omega)]) (by rw [e _ (by omega)]) (e _ (by omega)) (e _ (by omega)) (e _ (by omega)), i3.fr (fun c g1 g2 => e c (by omega)) (by rw [e _ (by omega)]) (by rw [e _ (by omega)]) (fun k _ => by rw [e _ (by omega)]) (fun k _ => by rw [e _ (by omega)]) (fun k _ => by rw [e _ (by omega)]), i4.fr (by rw [e _ (by omega)]) (by rw [e _ (by omega)]) (by rw [e _ (by omega)]) (by rw [e _ (by omega)]) (by rw [e _ (by omega)]) (by rw [e _ (by omega)]) (e _ (by omega)) (e _ (by omega)), i5.fr (by rw [e _ (by omega)]) (by rw [e _ (by omega)]) (e _ (by omega)) (e _ (by omega)), ?_⟩
  unfold ivA
  rw [e 254 (by omega), e 263 (by omega), e 343 (by omega), e 481 (by omega)]
  obtain ⟨o, t, r, dv1⟩ := a4
  obtain ⟨o2, t2, r2, dv2⟩ := a5
  exact ⟨a1, a2, by omega, ⟨o, t, r, dv1.cc (e 315 (by omega))⟩, ⟨o2, t2, r2, dv2.cc (e 354 (by omega))⟩, a6, a7⟩
theorem iv_walks_ok : iv_walks INV := fun Z x1 x2 hI => by
  obtain ⟨m, a1, a2, a3, a4⟩ := id hI.2.1
  have hx := i32r x1
  have hx2 := i32r x2
  refine mje_144 (d := 9) (fc_tableAt (d := 8) a2 a1 hx (fun h => ?_) fun t ht htm => ?_)
  · refine mje_245 (d := 9) (fm_isTable (d := 7) a3 a1 hx ?_)
    rw [if_neg h]
    exact ⟨by omega, fun g => absurd rfl g, fun _ => ⟨rfl, hI⟩⟩
  · obtain ⟨n, b1, b2, b3, b4, b5, b6, b7⟩ := a4 t htm
    have hn6 := b1.2.2
    have hn1 := b1.2.1
    have hk4 : 0 ≤ Z (35 + 2 * t) 1 ∧ Z (35 + 2 * t) 1 ≤ 4 := by
      rcases b7 with (⟨g, -⟩ | ⟨g, -⟩ | ⟨g, -⟩ | ⟨g, -⟩) | ⟨g, -⟩ <;> omega
    have e0 : ((t : Int)).toNat = t := rfl
    rw [ht]
    have go : ∀ (Z1 : mjZ) (q : Int → mjZ → Prop), Z1 464 3 = (m : Int) → Z1 468 t = Z (35 + 2 * t) 1 → Z1 469 t = (n : Int) → (¬ (0 ≤ x2.toInt ∧ x2.toInt ≤ 20) → q (-102) Z1) → (0 ≤ x2.toInt ∧ x2.toInt ≤ 20 → Z (35 + 2 * t) 1 = 3 → mjL_245_54 9 (t : Int) x2.toInt (n : Int) 0 0 Z1 q) → (0 ≤ x2.toInt ∧ x2.toInt ≤ 20 → Z (35 + 2 * t) 1 ≠ 3 → mjW1 9 170 [yR 11 464, yI 8] Z1 (fun v7 Z7 => q v7 Z7)) → mjW1 10 245 [yR 11 464, yI (t : Int), yI x2.toInt] Z1 q := fun Z1 q g3 g8 g9 h1 h2 h3 => by
      refine mje_245 (d := 9) (fm_isTable (d := 7) (m := m) g3 a1 (by omega) ?_)
      rw [if_pos (by omega)]
      refine ⟨by omega, fun _ => fm_in (d := 8) hx2 (by omega) (by omega) ?_, fun g => by omega⟩
      by_cases k : 0 ≤ x2.toInt ∧ x2.toInt ≤ 20
      · rw [if_pos k, e0, g8, g9]
        exact ⟨by omega, fun _ => ⟨by omega, by omega, by omega, h2 k, h3 k⟩, fun g => by omega⟩
      · rw [if_neg k]
        exact ⟨by omega, fun g => absurd rfl g, fun _ => h1 k⟩
    have bad : ¬ (0 ≤ x2.toInt ∧ x2.toInt ≤ 20) → mjW1 10 245 [yR 11 464, yI (t : Int), yI x2.toInt] Z (fun z' Z2 => Int32.ofInt z' = Int32.ofInt (-102) ∧ INV Z2) := fun k => go _ _ a3 b3 b2 (fun _ => ⟨rfl, hI⟩) (fun g => absurd g k) (fun g => absurd g k)
    refine ⟨hx2, fun g1 => bad (by omega), fun g1 => ⟨fun g2 => ⟨by omega, fun h3 => ?_, fun h3 => ?_⟩, fun g2 => bad (by omega)⟩⟩
    · exact fc_found (d := 8) (f := 8) (by omega) (go _ _ (by rw [fdC_ne (by decide) (by decide)]; exact a3) (by rw [fdC_ne (by decide) (by decide)]; exact b3) (by rw [fdC_ne (by decide) (by decide)]; exact b2) (fun g => absurd ⟨by omega, g2⟩ g) (fun _ g => absurd g h3) (fun _ _ => fm_finds (d := 8) (f := 8) (by omega) ⟨rfl, INV_fd (by omega) hI⟩))
    · have k3 : Z (35 + 2 * t) 1 = 3 := Classical.not_not.mp h3
      obtain ⟨k, hk⟩ := Int.eq_ofNat_of_zero_le (show 0 ≤ x2.toInt by omega)
      rw [hk] at go g2 ⊢
      have hL : tLines n (tE Z (35 + 2 * t)) := by
        rcases b7 with (⟨g, -⟩ | ⟨g, g1, g2⟩ | ⟨g, -⟩ | ⟨g, -⟩) | ⟨g, -⟩
        · omega
        · exact g2
        · omega
        · omega
        · omega
      have hT : ∀ i k, i < n → k < n → 0 ≤ Z 470 (36 * t + 6 * i + k) ∧ Z 470 (36 * t + 6 * i + k) ≤ 1 := fun i k hi hk => by
        rw [← (b4 i k hi hk).1]
        rcases hL i k hi hk with g | ⟨g, -⟩ <;> omega
      have hp : Z 460 1 = 461 ∧ Z 460 2 = 462 ∨ Z 460 1 = 462 ∧ Z 460 2 = 461 := hI.2.2.2.2.2.2.2.1
      refine mje_145 (d := 8) ?_
      rw [b1.1]
      refine pw_begin (d := 5) (T := fun i k => Z 470 (36 * t + 6 * i + k)) hn1 hn6 hp fun Z' h' => ?_
      refine lp_inv (n := k) (a := Z') (L := fun r Z' => mjL_145_13 8 (35 + 2 * t) (k : Int) r Z' _) (Y := fun r Z' => PWI Z n (mxP n (fun i k => Z 470 (36 * t + 6 * i + k)) r) Z') (fun r Z' hr hy hL => ?_) (fun Z' hy => ?_) h'
      · have et : Z' (35 + 2 * t) = Z (35 + 2 * t) := hy.1 _ (by omega) (by omega) (by omega)
        have et2 : Z' (35 + 2 * t + 1) = Z (35 + 2 * t + 1) := hy.1 _ (by omega) (by omega) (by omega)
        refine mjl_145_13 ⟨by omega, by omega, fun h => by omega, fun _ => pw_mult (d := 5) (T := fun i k => Z 470 (36 * t + 6 * i + k)) hy hn1 hn6 (by unfold tN; rw [et]; exact b1) (by omega) (fun i k hi hk => ⟨?_, hT i k hi hk⟩) fun Z2 h2 => hL Z2 h2⟩
        rw [← (b4 i k hi hk).1]
        exact congrFun et2 _
      · refine mjl_145_13 ⟨by omega, by omega, fun _ => pw_sum (d := 7) hy hn1 hn6 ?_, fun h => by omega⟩
        have bd := mxTr_bd (T := fun i k => Z 470 (36 * t + 6 * i + k)) (r := k) hn6 (by omega) hT
        refine an_one2 (INV_pw hI hy) (by omega) fun Z1 q f1 hq => ?_
        have f2 : ∀ c, c ≠ 0 → c ≠ 156 → c ≠ 157 → c ≠ 460 → c ≠ 461 → c ≠ 462 → Z1 c = Z c := fun c g0 g1 g2 g3 g4 g5 => by rw [f1 c g0 g1 g2, hy.1 c g3 g4 g5]
        refine go _ _ (by rw [f2 _ (by decide) (by decide) (by decide) (by decide) (by decide) (by decide)]; exact a3) (by rw [f2 _ (by decide) (by decide) (by decide) (by decide) (by decide) (by decide)]; exact b3) (by rw [f2 _ (by decide) (by decide) (by decide) (by decide) (by decide) (by decide)]; exact b2) (fun g => absurd ⟨by omega, g2⟩ g) (fun _ _ => ?_) (fun _ g => absurd k3 g)
        refine fm_walkL (d := 8) (T := fun i k => Z 470 (36 * t + 6 * i + k)) (by omega) (by omega) hn1 hn6 (fun i k hi hk => ⟨?_, hT i k hi hk⟩) hq
        rw [f2 470 (by decide) (by decide) (by decide) (by decide) (by decide) (by decide)]
