/-! The reference's way: bendOf. -/
section RE
variable {d t n : Nat} {T R : Nat → Nat → Int} {Z : mjZ}
theorem clS_bd {x3 k : Nat} (h : x3 < 6) (g : clS x3 k) : bdS k := by unfold clS at g; unfold bdS; omega
theorem fm_clears {i : Nat} {x2 : Int} {q : mjZ → Prop} (hS : tSym n T) (hT : fbT n t T Z) (hi : i < n) (hR : rwR n Z R) (hid : idp n R) (hB : bfv n T (R i) (R i) ≠ 0) (hb : i + 1 < n → ∀ l j, i ≤ l → l < n → j < n → bgA (R l j) ≤ wY) (hx : x2 = (n : Int)) (hq : ∀ Z', stG bdS Z Z' → rwR n Z' (wyZ n T i n R) → mjL_230_62 (d + 6) t x2 (i + 1) Z' q) : mjL_230_81 (d + 6) t x2 i ((i : Int) + 1) Z q := by
  subst hx
  have h6 := hT.2.1
  refine lp_inv (n := n - (i + 1)) (a := Z) (L := fun r Zr => mjL_230_81 (d + 6) t (n : Int) i ((i : Int) + 1 + (r : Int)) Zr q) (Y := fun r Zr => stG bdS Z Zr ∧ rwR n Zr (wyZ n T i (i + 1 + r) R)) (fun r Zr hr hy hL => ?_) (fun Zr hy => ?_) ⟨stG.refl, ?_⟩
  · obtain ⟨y1, y2⟩ := hy
    have hTr := hT.g y1
    have ex : (i : Int) + 1 + (r : Int) = ((i + 1 + r : Nat) : Int) := by omega
    refine mjl_230_81 ⟨by omega, by omega, fun g => by omega, fun _ => ?_⟩
    rw [ex]
    have ei : wyZ n T i (i + 1 + r) R i = R i := if_neg (by omega)
    have el : wyZ n T i (i + 1 + r) R (i + 1 + r) = R (i + 1 + r) := if_neg (by omega)
    have hb2 := hb (by omega)
    refine fm_clear (d := d + 1) (u := R i) (v := R (i + 1 + r)) hTr.1 h6 hTr.2.2.1 hTr.2.2.2 (by omega) (by omega) (by omega) (fun j hj => by rw [← ei]; exact y2 i j hi hj) (fun j hj => by have := y2 (i + 1 + r) j (by omega) hj; rw [el] at this; exact this) (fun j hj => hb2 i j (Nat.le_refl i) hi hj) (fun j hj => hb2 (i + 1 + r) j (by omega) (by omega) hj) hB (cnt_idp hid hi (by omega) (by omega) hB) fun Z3 a1 a2 => ?_
    have e2 : ((i + 1 + r : Nat) : Int) + 1 = (i : Int) + 1 + ((r + 1 : Nat) : Int) := by omega
    rw [e2]
    refine hL Z3 ⟨y1.tr (a1.mono fun k hk => clS_bd (by omega) hk), fun l j hl hj => ?_⟩
    by_cases g : l = i + 1 + r
    · have e : wyZ n T i (i + 1 + (r + 1)) R l = wyN n T (R i) (R l) := if_pos (by omega)
      rw [e, g]
      exact a2 j hj
    · have e : wyZ n T i (i + 1 + (r + 1)) R l = wyZ n T i (i + 1 + r) R l := by
        unfold wyZ
        by_cases k : i < l ∧ l < i + 1 + r
        · rw [if_pos k, if_pos (by omega)]
        · rw [if_neg k, if_neg (by omega)]
      rw [e]
      exact (y2 l j hl hj).R a1 (by unfold clS; omega)
  · obtain ⟨y1, y2⟩ := hy
    refine mjl_230_81 ⟨by omega, by omega, fun _ => ?_, fun g => by omega⟩
    rw [show i + 1 + (n - (i + 1)) = n by omega] at y2
    exact hq Zr y1 y2
  · intro l j hl hj
    have e : wyZ n T i (i + 1 + 0) R l = R l := if_neg (by omega)
    rw [e]
    exact hR l j hl hj
theorem fm_units {q : mjZ → Prop} (h6 : n ≤ 6) (hq : ∀ Z', stG bdS Z Z' → rwR n Z' (fun k => ue k) → mjL_230_62 (d + 1) t (n : Int) 0 Z' q) : mjL_230_9 (d + 1) t (n : Int) 0 Z q := by
  refine lp_inv (n := n) (a := Z) (L := fun r Zr => mjL_230_9 (d + 1) t (n : Int) r Zr q) (Y := fun r Zr => stG bdS Z Zr ∧ ∀ l j, l < r → j < n → lbIs Zr (48 + 6 * l + j) (ue l j)) (fun r Zr hr hy hL => ?_) (fun Zr hy => ?_) ⟨stG.refl, fun l j hl _ => by omega⟩
  · obtain ⟨y1, y2⟩ := hy
    refine mjl_230_9 ⟨by omega, by omega, fun g => by omega, fun _ => ?_⟩
    refine lp_inv (n := n) (a := Zr) (L := fun k Zk => mjL_230_17 (d + 1) t (n : Int) r (k : Int) Zk q) (Y := fun k Zk => stG bdS Z Zk ∧ (∀ l j, l < r → j < n → lbIs Zk (48 + 6 * l + j) (ue l j)) ∧ ∀ j, j < k → lbIs Zk (48 + 6 * r + j) (ue r j)) (fun k Zk hk hy2 hL2 => ?_) (fun Zk hy2 => ?_) ⟨y1, y2, fun j hj => by omega⟩
    · obtain ⟨z1, z2, z3⟩ := hy2
      have e : (48 + (6 * (r : Int))) + (k : Int) = ((48 + 6 * r + k : Nat) : Int) := by omega
      have nxt : ∀ (x : Int), x = ue r k → -9223372036854775808 < x ∧ x < 9223372036854775808 → mjW0 (d + 1) 204 [yR 11 464, yI ((48 + 6 * r + k : Nat) : Int), yJ x] Zk (fun Z4 => mjL_230_17 (d + 1) t (n : Int) r ((k : Int) + 1) Z4 q) := fun x hx hr2 => by
        refine fm_set (d := d) (i := 48 + 6 * r + k) (by omega) hr2 fun Z4 a1 a2 => ?_
        have e2 : (k : Int) + 1 = ((k + 1 : Nat) : Int) := by omega
        rw [e2]
        refine hL2 Z4 ⟨z1.tr (a1.R (by unfold bdS; omega)), fun l j hl hj => (z2 l j hl hj).stF a1 (by omega), fun j hj => ?_⟩
        rcases Nat.lt_or_ge j k with g | g
        · exact (z3 j g).stF a1 (by omega)
        · rw [show j = k by omega, ← hx]
          exact a2
      refine mjl_230_17 ⟨by omega, by omega, fun g => by omega, fun _ => ⟨by omega, fun g => ?_, fun g => ?_⟩⟩
      · rw [e]
        exact nxt 0 (if_neg (by omega)).symm (by decide)
      · rw [e]
        exact nxt 1 (if_pos (by omega)).symm (by decide)
    · obtain ⟨z1, z2, z3⟩ := hy2
      refine mjl_230_17 ⟨by omega, by omega, fun _ => hL Zk ⟨z1, fun l j hl hj => ?_⟩, fun g => by omega⟩
      rcases Nat.lt_or_ge l r with g | g
      · exact z2 l j g hj
      · rw [show l = r by omega]
        exact z3 j hj
  · exact mjl_230_9 ⟨by omega, by omega, fun _ => hq Zr hy.1 hy.2, fun g => by omega⟩
theorem wyG_end {i : Nat} (h : wyP n T i R = none) : wyG n T i R = R := by rw [wyG_P, h]
theorem wyG_go {i : Nat} {R' : Nat → Nat → Int} (h : wyP n T i R = some R') : wyG n T i R = wyZ n T i n R' := by rw [wyG_P, h]
theorem fm_bendOf {q : mjZ → Prop} (hS : tSym n T) (h1 : 1 ≤ n) (hT : fbT n t T Z) (hq : ∀ Z', stG bdS Z Z' → rwR n Z' (wyR n T n) → (∀ i, i < n → lbIs Z' (106 + i) (bfv n T (wyR n T n i) (wyR n T n i))) → q Z') : mjW0 (d + 7) 230 [yR 11 464, yI (t : Int)] Z q := by
  have h6 := hT.2.1
  have ht := hT.1
  have hT2 : ∀ i k, i < n → k < n → -100 ≤ T i k ∧ T i k ≤ 100 := fun i k g1 g2 => (hT.2.2.2 i k g1 g2).2
  have hK := fun i hi => wyR_K hS hT2 h1 h6 i hi
  refine mje_230 (d := d + 6) ⟨by omega, by omega, ?_⟩
  rw [hT.2.2.1]
  refine fm_units (d := d + 5) h6 fun Z1 a1 a2 => ?_
  refine lp_inv (n := n) (a := Z1) (L := fun r Zr => mjL_230_62 (d + 6) t (n : Int) r Zr q) (Y := fun r Zr => stG bdS Z Zr ∧ rwR n Zr (wyR n T r)) (fun r Zr hr hy hL => ?_) (fun Zr hy => ?_) ⟨a1, a2⟩
  · obtain ⟨y1, y2⟩ := hy
    have hTr := hT.g y1
    obtain ⟨k1, k2, k3⟩ := hK r (by omega)
    refine mjl_230_62 ⟨by omega, by omega, fun g => by omega, fun _ => ?_⟩
    refine fm_ready (d := d) hS hTr hr y2 (fun l j hl hj => k2 l j hl hj) (fun Z' R' hP b1 b2 => ⟨by omega, fun g => absurd g (by decide), fun _ => ?_⟩) fun Z' hP b1 b2 => ⟨by omega, fun _ => ?_, fun g => absurd rfl g⟩
    · have e : wyR n T (r + 1) = wyZ n T r n R' := wyG_go hP
      rcases Nat.lt_or_ge (r + 1) n with g | g
      · obtain ⟨p1, p2, p3⟩ := wyP_ok hS (hK r (by omega)) g hP
        refine fm_clears (d := d) hS (hTr.g b1) hr b2 p1 p2 (fun _ => p3) rfl fun Z2 c1 c2 => hL Z2 ⟨y1.tr (b1.tr c1), ?_⟩
        rw [e]
        exact c2
      · -- the last row: nothing is behind it
        refine mjl_230_81 ⟨by omega, by omega, fun _ => hL Z' ⟨y1.tr b1, ?_⟩, fun g => by omega⟩
        rw [e]
        intro l j hl hj
        have e2 : wyZ n T r n R' l = R' l := if_neg (by omega)
        rw [e2]
        exact b2 l j hl hj
    · refine hL Z' ⟨y1.tr b1, ?_⟩
      have e : wyR n T (r + 1) = wyR n T r := wyG_end hP
      rw [e]
      exact b2
  · obtain ⟨y1, y2⟩ := hy
    have kb := (hK n (Nat.le_refl n)).2.1
    refine mjl_230_62 ⟨by omega, by omega, fun _ => ?_, fun g => by omega⟩
    refine lp_inv (n := n) (a := Zr) (L := fun r Zs => mjL_230_109 (d + 6) t (n : Int) r Zs q) (Y := fun r Zs => stG bdS Z Zs ∧ rwR n Zs (wyR n T n) ∧ ∀ i, i < r → lbIs Zs (106 + i) (bfv n T (wyR n T n i) (wyR n T n i))) (fun r Zs hr hy2 hL2 => ?_) (fun Zs hy2 => ?_) ⟨y1, y2, fun i hi => by omega⟩
    · obtain ⟨z1, z2, z3⟩ := hy2
      have hTr := hT.g z1
      refine mjl_230_109 ⟨by omega, by omega, fun g => by omega, fun _ => ?_⟩
      have e : 106 + (r : Int) = ((106 + r : Nat) : Int) := by omega
      rw [e]
      refine fm_bent (d := d + 2) ht h6 hTr.2.2.1 hTr.2.2.2 (by omega) (by omega) (by omega) (fun j hj => z2 r j hr hj) (fun j hj => z2 r j hr hj) (fun j hj => kb r j hr hj) (fun j hj => kb r j hr hj) fun Z3 c1 c2 => hL2 Z3 ⟨z1.tr (c1.mono fun k hk => by unfold bdS; omega), z2.g h6 c1 fun k hk => by omega, fun i hi => ?_⟩
      rcases Nat.lt_or_ge i r with g | g
      · exact (z3 i g).R c1 (by omega)
      · rw [show i = r by omega]
        exact c2
    · obtain ⟨z1, z2, z3⟩ := hy2
      exact mjl_230_109 ⟨by omega, by omega, fun _ => hq Zs z1 z2 z3, fun g => by omega⟩
end RE
