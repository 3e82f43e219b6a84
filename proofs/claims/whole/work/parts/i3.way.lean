/-! The class's way: make. -/
section WF
variable {d n c : Nat} {T R : Nat → Nat → Int} {Z0 Z : mjZ}
theorem wyZ_next {i l : Nat} (hl : i < l) : wyZ n T i (l + 1) R = wySet l (wyN n T (R i) (R l)) (wyZ n T i l R) := by
  funext k
  unfold wyZ wySet
  by_cases g : k = l
  · rw [if_pos g, if_pos (by omega), g]
  · rw [if_neg g]
    show _ = if i < k ∧ k < l then wyN n T (R i) (R k) else R k
    by_cases x : i < k ∧ k < l
    · rw [if_pos x, if_pos (by omega)]
    · rw [if_neg x, if_neg (by omega)]
theorem wySet_id {l : Nat} {v : Nat → Int} (h : R l = v) : wySet l v R = R := by
  funext k
  unfold wySet
  by_cases g : k = l
  · rw [if_pos g, g, h]
  · rw [if_neg g]
theorem wySet_two {l : Nat} {v w : Nat → Int} : wySet l v (wySet l w R) = wySet l v R := by
  funext k
  unfold wySet
  by_cases g : k = l
  · rw [if_pos g, if_pos g]
  · rw [if_neg g, if_neg g, if_neg g]
theorem fw_ones {q : mjZ → Prop} (h6 : n ≤ 6) (W0 : wcS wyS Z0 Z) (hs : Z 342 0 = (n : Int)) (hp : pmC Z) (hd : ∃ o t r, dvT 354 Z o t r) (hq : ∀ Z', wyC n Z0 Z' (fun k => ue k) → mjL_127_45 (d + 4) c 0 Z' q) : mjL_127_10 (d + 4) c 0 Z q := by
  refine lp_inv (n := 36) (a := Z) (L := fun r Zr => mjL_127_10 (d + 4) c r Zr q) (Y := fun r Zr => wcS (fun a => 387 ≤ a ∧ a ≤ 458) Z Zr ∧ ∀ m, m < r → bgIs 12 Zr (Z 343 m).toNat (if m % 7 = 0 then 1 else 0)) (fun r Zr hr hy hL => ?_) (fun Zr hy => ?_) ⟨wcS.rf, fun m hm => by omega⟩
  · obtain ⟨y1, y2⟩ := hy
    obtain ⟨b, b1, b2, b3, b4⟩ := hp.at' (m := r) hr
    have et : Int.tmod (r : Int) 7 = ((r % 7 : Nat) : Int) := by rw [Int.tmod_eq_emod_of_nonneg (by omega)]; rfl
    refine mjl_127_10 ?_
    rw [y1 343 (by omega), et]
    have fin : ∀ Z' : mjZ, mjO2 (Z 343 r).toNat Zr Z' → bgIs 12 Z' (Z 343 r).toNat (if r % 7 = 0 then 1 else 0) → mjL_127_10 (d + 4) c (r + 1) Z' q := fun Z' a1 a2 => hL Z' ⟨y1.tr (a1.S (by omega) (by omega)), fun m hm => by
      rcases Nat.lt_or_ge m r with g | g
      · obtain ⟨k, k1, k2, k3, k4⟩ := hp.at' (m := m) (by omega)
        have := hp.ne (a := r) (b := m) (by omega) (by omega) (by omega)
        exact (y2 m g).O a1 (by unfold bgX; omega)
      · rw [show m = r by omega]
        exact a2⟩
    refine ⟨by omega, fun g => by omega, fun _ => ⟨by omega, by omega, b4, by omega, fun g => ?_, fun g => ?_⟩⟩
    · refine bg_become (d := d + 1) b3 (by decide) fun Z' a1 a2 => fin Z' a1 ?_
      rw [if_neg (by omega)]
      exact a2
    · refine bg_become (d := d + 1) b3 (by decide) fun Z' a1 a2 => fin Z' a1 ?_
      rw [if_pos (by omega)]
      exact a2
  · obtain ⟨y1, y2⟩ := hy
    have e343 : Zr 343 = Z 343 := y1 343 (by omega)
    refine mjl_127_10 ⟨by omega, fun _ => hq Zr ⟨W0.tr (y1.mono fun a ha => by unfold wyS; omega), by rw [y1 342 (by omega)]; exact hs, hp.g e343, ?_, fun l j hl hj => ?_⟩, fun g => by omega⟩
    · obtain ⟨o, t, r, h4⟩ := hd
      exact ⟨o, t, r, h4.cc (y1 354 (by omega))⟩
    · rw [e343]
      have := y2 (6 * l + j) (by omega)
      have e : (if (6 * l + j) % 7 = 0 then (1 : Int) else 0) = ue l j := by
        unfold ue
        by_cases g : j = l
        · rw [if_pos g, if_pos (by omega)]
        · rw [if_neg g, if_neg (by omega)]
      rw [e] at this
      exact this
theorem fw_stage {i : Nat} {q : mjZ → Prop} (hT : ctT n c T Z0) (hi : i < n) (hid : idp n R) (hB : bfv n T (R i) (R i) ≠ 0) (hb : i + 1 < n → ∀ l j, i ≤ l → l < n → j < n → bgA (R l j) ≤ wY) (W : wyC n Z0 Z R) (ln : lnIs n T Z (R i)) (h346 : bgIs 12 Z 346 (bfv n T (R i) (R i))) (hq : ∀ Z', wyC n Z0 Z' (wyZ n T i n R) → mjL_127_45 (d + 7) c (i + 1) Z' q) : mjL_127_82 (d + 7) c i 1 ((i : Int) + 1) Z q := by
  have h6 := hT.1.2.2
  have hTb : ∀ i k, i < n → k < n → -100 ≤ T i k ∧ T i k ≤ 100 := fun i k g1 g2 => (hT.2.2 i k g1 g2).2
  have e0 : wyZ n T i (i + 1) R = R := by
    funext l
    exact if_neg (by omega)
  refine lp_inv (n := n - (i + 1)) (a := Z) (L := fun r Zr => mjL_127_82 (d + 7) c i 1 ((i : Int) + 1 + (r : Int)) Zr q) (Y := fun r Zr => wyC n Z0 Zr (wyZ n T i (i + 1 + r) R) ∧ lnIs n T Zr (R i) ∧ bgIs 12 Zr 346 (bfv n T (R i) (R i))) (fun r Zr hr hy hL => ?_) (fun Zr hy => ?_) ⟨by rw [show i + 1 + 0 = i + 1 from rfl, e0]; exact W, ln, h346⟩
  · obtain ⟨y1, y2, y3⟩ := hy
    have ex : (i : Int) + 1 + (r : Int) = ((i + 1 + r : Nat) : Int) := by omega
    have hb2 := hb (by omega)
    generalize hl : i + 1 + r = l at y1 ex
    have nx := wyZ_next (n := n) (T := T) (R := R) (i := i) (l := l) (by omega)
    have ei : wyZ n T i l R i = R i := if_neg (by omega)
    have el : wyZ n T i l R l = R l := if_neg (by omega)
    have e2 : (l : Int) + 1 = (i : Int) + 1 + ((r + 1 : Nat) : Int) := by omega
    have hc := cnt_idp hid hi (show l < n by omega) (by omega) hB
    have L1 : ∀ Z', wyC n Z0 Z' (wyZ n T i (l + 1) R) → lnIs n T Z' (R i) → bgIs 12 Z' 346 (bfv n T (R i) (R i)) → mjL_127_82 (d + 7) c i 1 ((l : Int) + 1) Z' q := fun Z' g1 g2 g3 => by
      rw [e2]
      refine hL Z' ⟨?_, g2, g3⟩
      rw [show i + 1 + (r + 1) = l + 1 by omega]
      exact g1
    refine mjl_127_82 ?_
    rw [ex, y1.2.1]
    refine ⟨by omega, by omega, fun g => by omega, fun _ => ⟨by decide, fun g => absurd g (by decide), fun _ => ?_⟩⟩
    refine fw_clear (d := d) (R := wyZ n T i l R) h6 hTb hi (show l < n by omega) (by omega) y1 (by rw [ei]; exact y2) (by rw [ei]; exact y3) (by rw [ei]; exact hB) (fun j hj => by rw [ei]; exact hb2 i j (Nat.le_refl i) hi hj) (fun j hj => by rw [el]; exact hb2 l j (by omega) (by omega) hj) (fun Z' hC g1 g2 g3 => ⟨by decide, fun _ => ?_, fun g => absurd rfl g⟩) fun Z' hC g1 g2 g3 => ⟨by decide, fun g => absurd g (by decide), fun _ => ?_⟩
    · rw [ei] at g2 g3 hC
      rw [el] at hC
      refine L1 Z' ?_ g2 g3
      rw [nx, wySet_id (by rw [el]; unfold wyN; rw [if_pos hC])]
      exact g1
    · rw [ei] at g2 g3 hC
      rw [ei, el] at g1
      rw [el] at hC
      have er : wySet l (wyV n T (R i) (R l)) (wyZ n T i l R) l = wyV n T (R i) (R l) := if_pos rfl
      refine fw_light (d := d) h6 (show l < n by omega) g1 g2 g3 (by rw [er]; exact hc) fun Z'' f1 f2 f3 => L1 Z'' ?_ f2 f3
      rw [er, wySet_two] at f1
      rw [nx]
      have : wyN n T (R i) (R l) = fun j => wyV n T (R i) (R l) j / (cnt n (wyV n T (R i) (R l)) : Int) := if_neg hC
      rw [this]
      exact f1
  · obtain ⟨y1, y2, y3⟩ := hy
    refine mjl_127_82 ?_
    rw [y1.2.1]
    refine ⟨by omega, by omega, fun _ => hq Zr ?_, fun g => by omega⟩
    rw [show i + 1 + (n - (i + 1)) = n by omega] at y1
    exact y1
theorem fw_make {q : mjZ → Prop} (hS : tSym n T) (hT : ctT n c T Z) (hp : pmC Z) (hd : ∃ o t r, dvT 354 Z o t r) (hq : ∀ Z', wyC n Z Z' (wyR n T n) → (∀ i, i < n → bgIs 12 Z' (363 + 4 * i) (bfv n T (wyR n T n i) (wyR n T n i))) → q Z') : mjW0 (d + 8) 127 [yR 8 342, yR 6 c] Z q := by
  have h6 := hT.1.2.2
  have h1 := hT.1.2.1
  have hTb : ∀ i k, i < n → k < n → -100 ≤ T i k ∧ T i k ≤ 100 := fun i k g1 g2 => (hT.2.2 i k g1 g2).2
  have hK := fun i hi => wyR_K hS hTb h1 h6 i hi
  have hX : wY ≤ wX := wY_f.2.1
  refine mje_127 (d := d + 7) ?_
  rw [hT.1.1]
  refine fw_ones (d := d + 3) (Z0 := Z) h6 (fun a ha => mjUp_nc fun e => ha (by rw [e]; unfold wyS; omega)) mjUp_at (hp.g (mjUp_nc (by decide))) ?_ fun Z1 W1 => ?_
  · obtain ⟨o, t, r, h4⟩ := hd
    exact ⟨o, t, r, h4.cc (mjUp_nc (by decide))⟩
  refine lp_inv (n := n) (a := Z1) (L := fun r Zr => mjL_127_45 (d + 7) c r Zr q) (Y := fun r Zr => wyC n Z Zr (wyR n T r)) (fun r Zr hr hy hL => ?_) (fun Zr hy => ?_) W1
  · have hKr := hK r (by omega)
    have kb : ∀ l j, l < n → j < n → bgA (wyR n T r l j) ≤ wX := fun l j hl hj => hKr.2.1 l j hl hj
    refine mjl_127_45 ?_
    rw [hy.2.1]
    refine ⟨by omega, by omega, fun g => by omega, fun _ => ?_⟩
    -- what is behind the rows made ready
    have go : ∀ (R' : Nat → Nat → Int) (Z' : mjZ), wyP n T r (wyR n T r) = some R' → wyC n Z Z' R' → lnIs n T Z' (R' r) → bgIs 12 Z' 346 (bfv n T (R' r) (R' r)) → mjL_127_82 (d + 7) c r 1 ((r : Int) + 1) Z' q := fun R' Z' hP W' l' p' => by
      have e : wyR n T (r + 1) = wyZ n T r n R' := wyG_go hP
      rcases Nat.lt_or_ge (r + 1) n with g | g
      · obtain ⟨p1, p2, p3⟩ := wyP_ok hS hKr g hP
        exact fw_stage (d := d) hT hr p1 p2 (fun _ => p3) W' l' p' fun Z'' f => hL Z'' (by rw [e]; exact f)
      · refine mjl_127_82 ?_
        rw [W'.2.1]
        refine ⟨by omega, by omega, fun _ => hL Z' ?_, fun g => by omega⟩
        have e2 : wyZ n T r n R' = R' := by
          funext l
          exact if_neg (by omega)
        rw [e, e2]
        exact W'
    refine fw_pivot (d := d + 1) (R := wyR n T r) hT hy hr kb (fun k Z' hF W' l' p' => ⟨by decide, fun _ => ?_, fun g => absurd (by decide) g⟩) fun Z' hF W' => ⟨by decide, fun g => absurd rfl g, fun _ => ?_⟩
    · have e : wyX r k (wyR n T r) r = wyR n T r k := if_pos rfl
      refine go (wyX r k (wyR n T r)) Z' ?_ W' (by rw [e]; exact l') (by rw [e]; exact p')
      unfold wyP
      rw [hF]
    · have hP : ∀ k, wyA n T (wyR n T r) r = some k → wyP n T r (wyR n T r) = some (wyD r k (wyR n T r)) := fun k hA => by
        unfold wyP
        rw [hF, hA]
      refine fw_addp (d := d + 1) (R := wyR n T r) hT W' hr kb (fun k hA j hj => ?_) (fun k Z'' hA W'' l'' p'' => ⟨by decide, fun g => absurd g (by decide), fun _ => go _ Z'' (hP k hA) W'' l'' p''⟩) fun Z'' hA W'' => ⟨by decide, fun _ => ?_, fun g => absurd rfl g⟩
      · obtain ⟨k1, k2, k3⟩ := wyA_some hA
        have := (wyP_ok hS hKr (by omega) (hP k hA)).2.2 r j (Nat.le_refl r) hr hj
        rw [show wyD r k (wyR n T r) r = fun j => wyR n T r r j + wyR n T r k j from if_pos rfl] at this
        exact Int.le_trans this hX
      · have e : wyR n T (r + 1) = wyR n T r := wyG_end (by
          unfold wyP
          rw [hF, hA])
        have nx : mjL_127_45 (d + 7) c (r + 1) Z'' q := hL Z'' (by rw [e]; exact W'')
        refine mjl_127_82 ?_
        rw [W''.2.1]
        exact ⟨by omega, by omega, fun _ => nx, fun _ => ⟨by decide, fun _ => nx, fun g => absurd rfl g⟩⟩
  · have kb : ∀ l j, l < n → j < n → bgA (wyR n T n l j) ≤ wX := fun l j hl hj => (hK n (Nat.le_refl n)).2.1 l j hl hj
    refine mjl_127_45 ?_
    rw [hy.2.1]
    refine ⟨by omega, by omega, fun _ => ?_, fun g => by omega⟩
    refine lp_inv (n := n) (a := Zr) (L := fun r Zs => mjL_127_125 (d + 7) c r Zs q) (Y := fun r Zs => wyC n Z Zs (wyR n T n) ∧ ∀ i, i < r → bgIs 12 Zs (363 + 4 * i) (bfv n T (wyR n T n i) (wyR n T n i))) (fun r Zs hr hy hL => ?_) (fun Zs hy => ?_) ⟨hy, fun i hi => by omega⟩
    · obtain ⟨W, y2⟩ := hy
      refine mjl_127_125 ?_
      rw [W.2.1]
      refine ⟨by omega, by omega, fun g => by omega, fun _ => ?_⟩
      refine fw_lean (d := d + 2) (u := wyR n T n r) (hT.g W.lt) W.2.1 W.2.2.1 hr (fun j hj => W.2.2.2.2 r j hr hj) (fun j hj => kb r j hr hj) fun Z3 a1 a2 => ?_
      have W3 := W.S h6 a1 fun a ha => lnS_in ha
      refine ⟨by omega, by omega, ?_⟩
      rw [show 344 + 19 + 4 * r = 363 + 4 * r by omega]
      refine fw_meet (d := d + 2) (u := wyR n T n r) (v := wyR n T n r) h6 hTb W3.2.1 W3.2.2.1 hr (Or.inr (Or.inr ⟨r, by omega, rfl⟩)) (wB_str (k := r) (by omega)).1 (fun j hj => W3.2.2.2.2 r j hr hj) a2 (fun j hj => kb r j hr hj) (fun j hj => kb r j hr hj) fun Z4 b1 b2 => hL Z4 ⟨W3.S h6 b1 fun a ha => by omega, fun i hi => ?_⟩
      rcases Nat.lt_or_ge i r with g | g
      · exact ((y2 i g).S a1 (by unfold lnS; omega) (by unfold lnS; omega)).S b1 (by omega) (by omega)
      · rw [show i = r by omega]
        exact b2
    · refine mjl_127_125 ?_
      rw [hy.1.2.1]
      exact ⟨by omega, by omega, fun _ => hq Zs hy.1 hy.2, fun g => by omega⟩
end WF
