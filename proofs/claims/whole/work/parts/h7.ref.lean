/-! The reference's way: clear. -/
theorem bfv_bd6 {n : Nat} {T : Nat → Nat → Int} {u v : Nat → Int} {c : Int} (h6 : n ≤ 6) (h0 : 0 ≤ c) (hT : ∀ i k, i < n → k < n → -100 ≤ T i k ∧ T i k ≤ 100) (ha : ∀ j, j < n → bgA (u j) ≤ c) (hb : ∀ j, j < n → bgA (v j) ≤ c) : bgA (bfv n T u v) ≤ 3600 * c * c := by
  have e := sm_bd6 (f := fun i => u i * sm n fun m => T i m * v m) n h6 (c := c * (600 * c)) (Int.mul_nonneg h0 (by omega)) fun i hi => by
    rw [bgA_mulE]
    have := sm_bd6 (f := fun m => T i m * v m) n h6 (show (0 : Int) ≤ 100 * c by omega) fun j hj => Int.le_trans (bgA_mul100 (hT i j hi hj)) (by have := hb j hj; omega)
    exact Int.mul_le_mul (ha i hi) (by omega) (bgA_nn _) h0
  have e2 : 6 * (c * (600 * c)) = 3600 * c * c := by grind
  rw [e2] at e
  exact e
theorem bgA_nz {x : Int} (h : x ≠ 0) : 1 ≤ bgA x := by unfold bgA; split <;> omega
theorem bgA_dvd {x g y : Int} (h : x * g = y) (hg : g ≠ 0) : bgA x ≤ bgA y := by
  rw [← h, bgA_mulE]
  have := Int.mul_le_mul_of_nonneg_left (bgA_nz hg) (bgA_nn x)
  omega
theorem wyV_bd {n : Nat} {T : Nat → Nat → Int} {u v : Nat → Int} {c : Int} (h6 : n ≤ 6) (h0 : 0 ≤ c) (hT : ∀ i k, i < n → k < n → -100 ≤ T i k ∧ T i k ≤ 100) (ha : ∀ j, j < n → bgA (u j) ≤ c) (hb : ∀ j, j < n → bgA (v j) ≤ c) (hB : bfv n T u u ≠ 0) : ∃ al be g : Int, g ≠ 0 ∧ (Nat.gcd (bfv n T u u).natAbs (bfv n T v u).natAbs : Int) = g ∧ bfv n T u u = al * g ∧ bfv n T v u = be * g ∧ bgA al ≤ 3600 * c * c ∧ bgA be ≤ 3600 * c * c ∧ (∀ j, wyV n T u v j = al * v j - be * u j) ∧ ∀ j, j < n → bgA (al * v j) ≤ 3600 * c * c * c ∧ bgA (be * u j) ≤ 3600 * c * c * c := by
  obtain ⟨g, g1, g2, g3, g4⟩ := dvz (c := bfv n T v u) hB
  have q1 := bgA_dvd g3 g1
  have q2 := bgA_dvd g4 g1
  have q3 := bfv_bd6 h6 h0 hT ha ha
  have q4 := bfv_bd6 h6 h0 hT hb ha
  have q5 : 0 ≤ 3600 * c * c := Int.mul_nonneg (by omega) h0
  refine ⟨_, _, g, g1, g2, g3.symm, g4.symm, Int.le_trans q1 q3, Int.le_trans q2 q4, fun j => ?_, fun j hj => ⟨?_, ?_⟩⟩
  · show bfv n T u u / _ * v j - bfv n T v u / _ * u j = _
    rw [g2]
  · rw [bgA_mulE]
    exact Int.mul_le_mul (Int.le_trans q1 q3) (hb j hj) (bgA_nn _) q5
  · rw [bgA_mulE]
    exact Int.mul_le_mul (Int.le_trans q2 q4) (ha j hj) (bgA_nn _) q5
section RC
variable {d t n : Nat} {T : Nat → Nat → Int} {u v : Nat → Int}
/-- what clear may touch -/
def clS (x3 k : Nat) : Prop := k = 84 ∨ (87 ≤ k ∧ k ≤ 93) ∨ (112 ≤ k ∧ k ≤ 114) ∨ (48 + 6 * x3 ≤ k ∧ k < 48 + 6 * x3 + 6)
theorem fm_clearA {Z : mjZ} {x1 x2 x3 : Nat} {al be : Int} {q : mjZ → Prop} (h6 : n ≤ 6) (hx2 : x2 < 6) (hx3 : x3 < 6) (h23 : x2 ≠ x3) (hU : ∀ j, j < n → lbIs Z (48 + 6 * x2 + j) (u j)) (hV : ∀ j, j < n → lbIs Z (48 + 6 * x3 + j) (v j)) (h112 : lbIs Z 112 al) (h113 : lbIs Z 113 be) (h114 : lbIs Z 114 0) (q1 : bgA al < bgP 8) (q2 : bgA be < bgP 8) (ha : ∀ j, j < n → bgA (u j) < bgP 4) (hb : ∀ j, j < n → bgA (v j) < bgP 4) (q3 : ∀ j, j < n → bgA (al * v j) < bgP 23 ∧ bgA (be * u j) < bgP 23) (q4 : ∀ j, j < n → bgA (al * v j - be * u j) < bgP 12) (hq : ∀ Z', stG (clS x3) Z Z' → lbIs Z' 114 (cnt n (fun j => al * v j - be * u j) : Int) → (∀ j, j < n → lbIs Z' (48 + 6 * x3 + j) (al * v j - be * u j)) → mjL_235_174 (d + 4) x1 x2 x3 (n : Int) 0 Z' q) : mjL_235_77 (d + 4) x1 x2 x3 (n : Int) 0 Z q := by
  refine lp_inv (n := n) (a := Z) (L := fun r Zr => mjL_235_77 (d + 4) x1 x2 x3 (n : Int) r Zr q) (Y := fun r Zr => stG (clS x3) Z Zr ∧ lbIs Zr 112 al ∧ lbIs Zr 113 be ∧ lbIs Zr 114 (cnt r (fun j => al * v j - be * u j) : Int) ∧ (∀ j, j < r → lbIs Zr (48 + 6 * x3 + j) (al * v j - be * u j)) ∧ ∀ j, r ≤ j → j < n → lbIs Zr (48 + 6 * x3 + j) (v j)) (fun r Zr hr hy hL => ?_) (fun Zr hy => ?_) ⟨stG.refl, h112, h113, h114, fun j hj => by omega, fun j _ hj => hV j hj⟩
  · obtain ⟨y1, y2, y3, y4, y5, y6⟩ := hy
    have e2 : (48 + (6 * (x2 : Int))) + (r : Int) = ((48 + 6 * x2 + r : Nat) : Int) := by omega
    have e3 : (48 + (6 * (x3 : Int))) + (r : Int) = ((48 + 6 * x3 + r : Nat) : Int) := by omega
    refine mjl_235_77 ⟨by omega, by omega, fun g => by omega, fun _ => ?_⟩
    rw [e2, e3]
    have w : 8 + 4 ≤ 24 := by decide
    have u2 : lbIs Zr (48 + 6 * x2 + r) (u r) := (hU r hr).R y1 (by unfold clS; omega)
    have v2 := y6 r (Nat.le_refl r) hr
    have q3r := q3 r hr
    have q4r := q4 r hr
    refine fm_mul (d := d + 2) (r := 88) (a := 112) (u := 8) (w := 4) (by decide) (by decide) (by omega) y2 v2 q1 (hb r hr) w fun Z1 a1 a2 => ?_
    refine fm_mul (d := d + 2) (r := 89) (a := 113) (u := 8) (w := 4) (by decide) (by decide) (by omega) (y3.R a1 (by decide)) (u2.R a1 (by omega)) q2 (ha r hr) w fun Z2 b1 b2 => ?_
    refine fm_add (d := d + 1) (r := 87) (a := 88) (b := 89) (by decide) (by decide) (by decide) (a2.R b1 (by decide)) b2 q3r.1 q3r.2 (Or.inr rfl) fun Z3 c1 c2 => ?_
    have ev : al * v r + -1 * (be * u r) = al * v r - be * u r := by omega
    rw [ev] at c2
    refine fm_copy (d := d + 3) (a := 87) (by omega) (by decide) c2 fun Z4 f1 f2 => ?_
    have g114 : lbIs Z4 114 (cnt r (fun j => al * v j - be * u j) : Int) := (((y4.R a1 (by decide)).R b1 (by decide)).stF c1 (by decide)).stF f1 (by omega)
    have hcb : bgA (cnt r (fun j => al * v j - be * u j) : Int) < bgP 12 := by
      rw [bgA_nat, Int.natAbs_natCast]
      have q5 : (0 : Int) < bgP 12 := by decide +kernel
      cases r with
      | zero => exact q5
      | succ r =>
        have g := q4 r (by omega)
        by_cases z : al * v r - be * u r = 0
        · -- a row's place that is 0 tells nothing: any place before
          have : ∀ m, m ≤ r + 1 → ((cnt m (fun j => al * v j - be * u j) : Nat) : Int) < bgP 12 := fun m => by
            induction m with
            | zero => intro _; exact q5
            | succ m ih =>
              intro hm
              rw [cnt_succ]
              have k := q4 m (by omega)
              rw [bgA_nat] at k
              have k2 := ih (by omega)
              rcases Nat.eq_zero_or_pos (al * v m - be * u m).natAbs with z | z
              · rw [z, Nat.gcd_zero_left]; exact k2
              · have := Nat.gcd_le_left (cnt m (fun j => al * v j - be * u j)) z
                omega
          exact this (r + 1) (Nat.le_refl _)
        · rw [cnt_succ]
          rw [bgA_nat] at g
          have := Nat.gcd_le_left (cnt r (fun j => al * v j - be * u j)) (show 0 < (al * v r - be * u r).natAbs by omega)
          omega
    refine fm_greatest (d := d) (r := 84) (a := 114) (b := 87) (by decide) (by decide) (by decide) (by decide) (by decide) (by decide) g114 (c2.stF f1 (by omega)) hcb q4r fun Z5 k1 k2 => ?_
    refine fm_copy (d := d + 3) (r := 114) (a := 84) (by decide) (by decide) k2 fun Z6 l1 l2 => hL Z6 ?_
    have keep : ∀ a w, lbIs Zr a w → a ≠ 88 → a ≠ 89 → a ≠ 87 → a ≠ 48 + 6 * x3 + r → a ≠ 84 → a ≠ 92 → a ≠ 93 → a ≠ 114 → lbIs Z6 a w := fun a w h1 g1 g2 g3 g4 g5 g6 g7 g8 => ((((((h1.R a1 g1).R b1 g2).stF c1 g3).stF f1 g4).R k1 (by omega)).stF l1 g8)
    refine ⟨?_, keep _ _ y2 (by decide) (by decide) (by decide) (by omega) (by decide) (by decide) (by decide) (by decide), keep _ _ y3 (by decide) (by decide) (by decide) (by omega) (by decide) (by decide) (by decide) (by decide), ?_, fun j hj => ?_, fun j h1 h2 => keep _ _ (y6 j (by omega) h2) (by omega) (by omega) (by omega) (by omega) (by omega) (by omega) (by omega) (by omega)⟩
    · refine y1.tr ((a1.mono fun k hk => ?_).tr ((b1.mono fun k hk => ?_).tr ((c1.R ?_).tr ((f1.R ?_).tr ((k1.mono fun k hk => ?_).tr (l1.R ?_))))))
      all_goals unfold clS; omega
    · rw [cnt_succ, Nat.gcd_comm]
      exact l2
    · rcases Nat.lt_or_ge j r with g | g
      · exact keep _ _ (y5 j g) (by omega) (by omega) (by omega) (by omega) (by omega) (by omega) (by omega) (by omega)
      · rw [show j = r by omega]
        exact (f2.R k1 (by omega)).stF l1 (by omega)
  · obtain ⟨y1, y2, y3, y4, y5, y6⟩ := hy
    exact mjl_235_77 ⟨by omega, by omega, fun _ => hq Zr y1 y4 y5, fun g => by omega⟩
theorem fm_clearB {Z : mjZ} {x1 x2 x3 : Nat} {V : Nat → Int} {c : Nat} {q : mjZ → Prop} (h6 : n ≤ 6) (hx3 : x3 < 6) (hV : ∀ j, j < n → lbIs Z (48 + 6 * x3 + j) (V j)) (h114 : lbIs Z 114 (c : Int)) (hc : c ≠ 0) (hd : ∀ j, j < n → (c : Int) ∣ V j) (hb : ∀ j, j < n → bgA (V j) < bgP 22) (hcb : (c : Int) < bgP 22) (hq : ∀ Z', stG (clS x3) Z Z' → (∀ j, j < n → lbIs Z' (48 + 6 * x3 + j) (V j / (c : Int))) → q Z') : mjL_235_174 (d + 4) x1 x2 x3 (n : Int) 0 Z q := by
  refine lp_inv (n := n) (a := Z) (L := fun r Zr => mjL_235_174 (d + 4) x1 x2 x3 (n : Int) r Zr q) (Y := fun r Zr => stG (clS x3) Z Zr ∧ lbIs Zr 114 (c : Int) ∧ (∀ j, j < r → lbIs Zr (48 + 6 * x3 + j) (V j / (c : Int))) ∧ ∀ j, r ≤ j → j < n → lbIs Zr (48 + 6 * x3 + j) (V j)) (fun r Zr hr hy hL => ?_) (fun Zr hy => ?_) ⟨stG.refl, h114, fun j hj => by omega, fun j _ hj => hV j hj⟩
  · obtain ⟨y1, y2, y3, y4⟩ := hy
    have e3 : (48 + (6 * (x3 : Int))) + (r : Int) = ((48 + 6 * x3 + r : Nat) : Int) := by omega
    refine mjl_235_174 ⟨by omega, by omega, fun g => by omega, fun _ => ?_⟩
    rw [e3]
    refine fm_div (d := d) (r := 87) (b := 114) (w := V r / (c : Int)) (by decide) (by decide) (by omega) (by omega) (by decide) (by decide) (y4 r (Nat.le_refl r) hr) y2 (hb r hr) (by rw [bgA_nat, Int.natAbs_natCast]; exact hcb) (Int.ediv_mul_cancel (hd r hr)).symm (by omega) fun Z1 a1 a2 => ?_
    refine fm_copy (d := d + 3) (a := 87) (by omega) (by decide) a2 fun Z2 b1 b2 => hL Z2 ⟨y1.tr ((a1.mono fun k hk => by unfold clS; omega).tr (b1.R (by unfold clS; omega))), (y2.R a1 (by decide)).stF b1 (by omega), fun j hj => ?_, fun j h1 h2 => ((y4 j (by omega) h2).R a1 (by omega)).stF b1 (by omega)⟩
    rcases Nat.lt_or_ge j r with g | g
    · exact ((y3 j g).R a1 (by omega)).stF b1 (by omega)
    · rw [show j = r by omega]
      exact b2
  · obtain ⟨y1, y2, y3, y4⟩ := hy
    exact mjl_235_174 ⟨by omega, by omega, fun _ => hq Zr y1 y3, fun g => by omega⟩
theorem fm_clear {Z : mjZ} {x2 x3 : Nat} {q : mjZ → Prop} (ht : t < 60) (h6 : n ≤ 6) (hn : Z 469 t = (n : Int)) (hT : ∀ i k, i < n → k < n → Z 470 (36 * t + 6 * i + k) = T i k ∧ -100 ≤ T i k ∧ T i k ≤ 100) (hx2 : x2 < 6) (hx3 : x3 < 6) (h23 : x2 ≠ x3) (hU : ∀ j, j < n → lbIs Z (48 + 6 * x2 + j) (u j)) (hV : ∀ j, j < n → lbIs Z (48 + 6 * x3 + j) (v j)) (ha : ∀ j, j < n → bgA (u j) ≤ wY) (hb : ∀ j, j < n → bgA (v j) ≤ wY) (hB : bfv n T u u ≠ 0) (hc : cnt n (wyV n T u v) ≠ 0) (hq : ∀ Z', stG (clS x3) Z Z' → (∀ j, j < n → lbIs Z' (48 + 6 * x3 + j) (wyN n T u v j)) → q Z') : mjW0 (d + 5) 235 [yR 11 464, yI (t : Int), yI (x2 : Int), yI (x3 : Int)] Z q := by
  have hX := wX_f
  have hY := wY_f
  have hT2 : ∀ i k, i < n → k < n → -100 ≤ T i k ∧ T i k ≤ 100 := fun i k h1 h2 => (hT i k h1 h2).2
  have ha2 : ∀ j, j < n → bgA (u j) ≤ wX := fun j hj => by have := ha j hj; omega
  have hb2 : ∀ j, j < n → bgA (v j) ≤ wX := fun j hj => by have := hb j hj; omega
  refine mje_235 (d := d + 4) ⟨by omega, by omega, fm_bent (d := d) (x4 := 113) ht h6 hn hT hx3 hx2 (by decide) hV hU hb2 ha2 fun Z3 a1 a2 => ?_⟩
  have sg := a2.s
  have a3 : stG (clS x3) Z Z3 := a1.mono fun k hk => by unfold clS; omega
  refine ⟨by omega, fun hne => ?_, fun heq => ?_⟩
  · have hC : bfv n T v u ≠ 0 := by omega
    refine fm_bent (d := d) (u := u) (v := u) (x4 := 112) ht h6 (by rw [a1.1 469 (by decide) (by decide) (by decide) (by decide)]; exact hn) (fun i k h1 h2 => by rw [a1.1 470 (by decide) (by decide) (by decide) (by decide)]; exact hT i k h1 h2) hx2 hx2 (by decide) (fun j hj => (hU j hj).R a1 (by omega)) (fun j hj => (hU j hj).R a1 (by omega)) ha2 ha2 fun Z5 b1 b2 => ?_
    obtain ⟨al, be, g, g0, g1, g2, g3, g4, g5, g6, g7⟩ := wyV_bd h6 (show 0 ≤ wY by omega) hT2 ha hb hB
    have c0 : lbIs Z5 113 (bfv n T v u) := a2.R b1 (by decide)
    have hB2 := bfv_bd6 h6 (show 0 ≤ wY by omega) hT2 ha ha
    have hC2 := bfv_bd6 h6 (show 0 ≤ wY by omega) hT2 hb ha
    have hgb : bgA g < bgP 22 := by
      have e : g * al = bfv n T u u := by rw [g2]; exact Int.mul_comm _ _
      have := bgA_dvd e fun k => hB (by rw [g2, k, Int.zero_mul])
      omega
    refine fm_greatest (d := d) (r := 114) (a := 112) (b := 113) (by decide) (by decide) (by decide) (by decide) (by decide) (by decide) b2 c0 (by omega) (by omega) fun Z6 c1 c2 => ?_
    rw [g1] at c2
    refine fm_div (d := d) (r := 112) (a := 112) (b := 114) (w := al) (by decide) (by decide) (by decide) (by decide) (by decide) (by decide) (b2.R c1 (by decide)) c2 (by omega) hgb g2 g0 fun Z7 f1 f2 => ?_
    refine fm_div (d := d) (r := 113) (a := 113) (b := 114) (w := be) (by decide) (by decide) (by decide) (by decide) (by decide) (by decide) ((c0.R c1 (by decide)).R f1 (by decide)) (c2.R f1 (by decide)) (by omega) hgb g3 g0 fun Z8 k1 k2 => ?_
    refine fm_set (d := d + 3) (i := 114) (by decide) (by decide) fun Z9 l1 l2 => ?_
    have fr : stG (clS x3) Z3 Z9 := by
      refine (b1.mono fun k hk => ?_).tr ((c1.mono fun k hk => ?_).tr ((f1.mono fun k hk => ?_).tr ((k1.mono fun k hk => ?_).tr (l1.R ?_))))
      all_goals unfold clS; omega
    have keep : ∀ a w, lbIs Z3 a w → a < 84 → lbIs Z9 a w := fun a w h1 h2 => ((((h1.R b1 (by omega)).R c1 (by omega)).R f1 (by omega)).R k1 (by omega)).stF l1 (by omega)
    rw [hn]
    have VV : wyV n T u v = fun j => al * v j - be * u j := funext g6
    have Vb : ∀ j, j < n → bgA (al * v j - be * u j) ≤ 2 * (3600 * wY * wY * wY) := fun j hj => by
      have k := g7 j hj
      have k2 := @bgA_le (al * v j) (-(be * u j))
      have k3 : bgA (-(be * u j)) = bgA (be * u j) := by unfold bgA; repeat' split <;> omega
      rw [Int.sub_eq_add_neg]
      omega
    refine fm_clearA (u := u) (v := v) h6 hx2 hx3 h23 (fun j hj => keep _ _ ((hU j hj).R a1 (by omega)) (by omega)) (fun j hj => keep _ _ ((hV j hj).R a1 (by omega)) (by omega)) ((f2.R k1 (by decide)).stF l1 (by decide)) (k2.stF l1 (by decide)) l2 (by omega) (by omega) (fun j hj => by have := ha j hj; omega) (fun j hj => by have := hb j hj; omega) (fun j hj => by have := g7 j hj; have := bgA_nn (al * v j); omega) (fun j hj => by have := Vb j hj; omega) fun Za m1 m2 m3 => ?_
    rw [← VV] at m2
    have hcl : ((cnt n (wyV n T u v) : Nat) : Int) < bgP 22 := by
      -- some place is not 0, and the content divides it
      rcases Classical.em (∃ j, j < n ∧ wyV n T u v j ≠ 0) with ⟨j, h1, h2⟩ | hno
      · have h3 := cnt_dvd (v := wyV n T u v) n j h1
        have h4 := Int.natAbs_dvd_natAbs.mpr h3
        have h5 := Nat.le_of_dvd (show 0 < (wyV n T u v j).natAbs by omega) h4
        have h6 := Vb j h1
        rw [show al * v j - be * u j = wyV n T u v j from (g6 j).symm, bgA_nat] at h6
        rw [Int.natAbs_natCast] at h5
        omega
      · exfalso
        apply hc
        have z : ∀ m, m ≤ n → cnt m (wyV n T u v) = 0 := fun m => by
          induction m with
          | zero => exact fun _ => rfl
          | succ m ih =>
            intro hm
            have : wyV n T u v m = 0 := Classical.byContradiction fun k => hno ⟨m, by omega, k⟩
            rw [cnt_succ, ih (by omega), this]; rfl
        exact z n (Nat.le_refl n)
    refine fm_clearB (V := wyV n T u v) h6 hx3 (fun j hj => by rw [g6 j]; exact m3 j hj) m2 hc (fun j hj => cnt_dvd n j hj) (fun j hj => by rw [g6 j]; have := Vb j hj; omega) hcl fun Zb n1 n2 => hq Zb (a3.tr (fr.tr (m1.tr n1))) fun j hj => ?_
    have e : wyN n T u v j = wyV n T u v j / (cnt n (wyV n T u v) : Int) := by unfold wyN; rw [if_neg hC]
    rw [e]
    exact n2 j hj
  · have hC : bfv n T v u = 0 := by omega
    refine hq Z3 a3 fun j hj => ?_
    have e : wyN n T u v = v := by unfold wyN; rw [if_pos hC]
    rw [e]
    exact (hV j hj).R a1 (by omega)
end RC
