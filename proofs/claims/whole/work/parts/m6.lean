/-! The class: what a polynomial shares with its slope, whole. -/
section SHW
variable {d : Nat} {u : Nat → Int}
theorem n326 : (46656000000000000 : Int) * 7 < bgP 40 ∧ (46656000000000000 : Int) < bgP 40 := by decide +kernel
/-- the turns -/
theorem sh_turn {D x1 m e o t r : Nat} {f g : Nat → Int} {Z0 : mjZ} {q : mjZ → Prop} (h6 : d ≤ 6) (hS : STP u d m e f g) (hZ : SZ u d) (hR : RC3 u d) (gb : ∀ i, bgA (g i) ≤ 46656000000000000) (hq : ∀ Z', shF Z0 Z' → trO Z' → Z' 259 0 = (e : Int) → (∀ i, i ≤ e → Z' 260 i = g i) → q Z') : ∀ (l k a b c : Nat) (s v : Int) (Z : mjZ), l + k + 1 = d → k + 1 ≤ m → shF Z0 Z → dvT 315 Z o t r → tw3 Z a b c → (s = 1 ∨ s = -1) → (v = 1 ∨ v = -1) → (∀ i, i ≤ l + 1 → bgIs 40 Z (a + 1 + 2 * i) (s * Ak d u k i)) → (∀ i, i ≤ l → bgIs 40 Z (b + 1 + 2 * i) (v * Ak d u (k + 1) i)) → mjL_91_77 (D + 6) x1 (l : Int) Z q := fun l => by
  obtain ⟨s1, s2, s3, s4, s5, s6, s7, s8, s9, _, s11, s12, s13⟩ := hS
  -- the end
  have fin : ∀ (l k a b c : Nat) (v : Int) (Z : mjZ), l + k + 1 = d → k + 1 = m → shF Z0 Z → dvT 315 Z o t r → tw3 Z a b c → (v = 1 ∨ v = -1) → (∀ i, i ≤ l → bgIs 40 Z (b + 1 + 2 * i) (v * Ak d u (k + 1) i)) → mjW0 (D + 6) 75 [yR 3 259, yI (l : Int)] Z (shE (D + 6) x1 (l : Int) q) := fun l k a b c v Z hl km hF hD h3 hv hB => by
    have le : l = e := by omega
    subst le
    refine sh_end (h := hk (sOf d u) m) hF hD h3 (by omega) (fun i hi => ?_) hv (by have := s13 m (Nat.le_refl m); omega) s7 gb hq
    have e1 : Ak d u (k + 1) i = hk (sOf d u) m * g i := by
      have e2 := s11 i (by omega)
      rw [show m - 1 = k by omega] at e2
      exact e2
    have e3 := hB i hi
    rw [e1, ← Int.mul_assoc] at e3
    exact e3
  induction l with
  | zero =>
    intro k a b c s v Z hl hk hF hD h3 hs hv hA hB
    refine mjl_91_77 ⟨by omega, fun _ => fin 0 k a b c v Z hl (by omega) hF hD h3 hv hB, fun g => by omega⟩
  | succ l ih =>
    intro k a b c s v Z hl hk1 hF hD h3 hs hv hA hB
    obtain ⟨_, _, _, ra, rb, rc, nab, nac, nbc⟩ := id h3
    have oa := tw_ok ra
    have ob := tw_ok rb
    have oc := tw_ok rc
    obtain ⟨T, hT⟩ := ak_three hR k
    have p0 := s13 k (by omega)
    have p1 := s13 (k + 1) (by omega)
    have step : ∀ i, i < l + 1 → rmC (fun i => s * Ak d u k i) (fun i => v * Ak d u (k + 1) i) (l + 1) i = -s * Ak d u (k + 2) i := fun i hi => rm_step (a := Ak d u k) (b := Ak d u (k + 1)) (c := Ak d u (k + 2)) (T := T) hs hv (fun _ => rfl) (fun _ => rfl) (fun i hi => hT i (by omega)) (ak_head hR s3 (by omega)) (ak_low hR (by omega) (by omega)) (ak_head hR s3 (by omega)) (by omega) (by omega) hi
    refine mjl_91_77 ⟨by omega, fun g => by omega, fun _ => ?_⟩
    refine ft_rest (d := D) (l := l + 1) (A := fun i => s * Ak d u k i) (B := fun i => v * Ak d u (k + 1) i) h3 hD (by omega) hA hB (fun i hi => by rw [bgA_pm hs]; exact ak_bd hZ (by omega) (by omega)) (fun i hi => by rw [bgA_pm hv]; exact ak_bd hZ (by omega) (by omega)) fun Z' w g1 g2 g3 g4 => ?_
    have t' : tw3 Z' a b c := h3.cc (g1 254 (by unfold tkS; omega))
    have F' : shF Z0 Z' := hF.S (g1.mono fun x hx => by unfold tkS at hx; unfold shS; omega)
    have B' : ∀ i, i ≤ l + 1 → bgIs 40 Z' (b + 1 + 2 * i) (v * Ak d u (k + 1) i) := fun i hi => (hB i hi).S g1 (by unfold tkS; omega) (by unfold tkS; omega)
    have w01 : w = 0 ∨ w = 1 := by
      rcases g4 with ⟨e, _⟩ | ⟨e, _⟩
      · exact Or.inl e
      · exact Or.inr e
    refine ⟨by omega, fun w0 => fin (l + 1) k a b c v Z' hl ?_ F' g2 t' hv B', fun w1 => ?_⟩
    · rcases g4 with ⟨_, h⟩ | ⟨h, _⟩
      · refine Classical.byContradiction fun nk => ?_
        have z := h l (by omega)
        rw [step l (by omega), ak_head hR s3 (k := k + 2) (by omega)] at z
        have := s13 (k + 2) (by omega)
        rcases hs with e | e <;> subst e <;> omega
      · omega
    · have km : k + 2 ≤ m := by
        refine Classical.byContradiction fun nk => ?_
        rcases g4 with ⟨h, _⟩ | ⟨_, j, hj, h⟩
        · exact w1 h
        · refine h ?_
          rw [step j hj]
          have z := s12 j (by omega)
          have e : m = k + 1 := by omega
          rw [e] at z
          have z2 : Ak d u (k + 2) j = 0 := z
          rw [z2, Int.mul_zero]
      rw [t'.n.1, t'.n.2.1]
      have e1 : (mjUp Z' 254 5 (b : Int)) 254 7 = Z' 254 7 := mjUp_ne fun _ => by decide
      rw [e1, t'.n.2.2]
      refine ⟨oa, ob, oc, ?_⟩
      have up : ∀ x : Nat, x ≠ 254 → mjUp (mjUp (mjUp Z' 254 5 (b : Int)) 254 6 (c : Int)) 254 7 (a : Int) x = Z' x := fun x hx => by rw [mjUp_nc hx, mjUp_nc hx, mjUp_nc hx]
      rw [show ((l + 1 : Nat) : Int) + -1 = (l : Int) by omega]
      refine ih (k + 1) b c a v (-s) _ (by omega) (by omega) (((F'.U (Or.inl rfl)).U (Or.inl rfl)).U (Or.inl rfl)) (g2.cc (up 315 (by omega))) ?_ hv (by omega) (fun i hi => bgIs_congr (B' i hi) (up _ (by omega)) (up _ (by omega))) fun i hi => ?_
      · refine ⟨?_, ?_, mjUp_at, rb, rc, ra, nbc, Ne.symm nab, Ne.symm nac⟩
        · rw [mjUp_ne (fun _ => by decide), mjUp_ne (fun _ => by decide)]
          exact mjUp_at
        · rw [mjUp_ne (fun _ => by decide)]
          exact mjUp_at
      · have x := g3 i (by omega)
        rw [step i (by omega)] at x
        exact bgIs_congr x (up _ (by omega)) (up _ (by omega))
theorem ft_share {D x1 m e : Nat} {f g : Nat → Int} {Z : mjZ} {q : mjZ → Prop} (hx : x1 = 255 ∨ x1 = 261) (hO : trO Z) (h0 : Z x1 0 = (d : Int)) (hu : ∀ i, i ≤ d → Z (x1 + 1) i = u i) (hS : SG u d m e f g) (gb : ∀ i, bgA (g i) ≤ 46656000000000000) (hq : ∀ Z', shF Z Z' → trO Z' → Z' 259 0 = (e : Int) → (∀ i, i ≤ e → Z' 260 i = g i) → q Z') : mjW0 (D + 7) 91 [yR 7 254, yR 3 x1] Z q := by
  have h6 := SG_d6 hS
  have ub := SG_bd hS
  obtain ⟨⟨a, b, c, h3⟩, o, t, r, hD⟩ := hO
  obtain ⟨_, _, _, ra, rb, rc, nab, nac, nbc⟩ := id h3
  have oa := tw_ok ra
  have ob := tw_ok rb
  have oc := tw_ok rc
  refine mje_91 (d := D + 6) ?_
  rw [h0]
  have x254 : ∀ {Zc : mjZ}, wcS shS Z Zc → tw3 Zc a b c := fun h => h3.cc (h 254 (by unfold shS; omega))
  have xu : ∀ {Zc : mjZ}, wcS shS Z Zc → ∀ i, i ≤ d → Zc (x1 + 1) i = u i := fun h i hi => by
    rw [h (x1 + 1) (by unfold shS; omega)]
    exact hu i hi
  refine lp_inv (n := d + 1) (a := Z) (L := fun i Zc => mjL_91_7 (D + 6) x1 (d : Int) (i : Int) Zc q) (Y := fun i Zc => wcS shS Z Zc ∧ dvT 315 Zc o t r ∧ ∀ j, j < i → bgIs 40 Zc (a + 1 + 2 * j) (u j)) (fun i Zc hi hy hL => ?_) (fun Zc hy => ?_) ⟨wcS.rf, hD, fun j hj => by omega⟩
  · obtain ⟨y1, y2, y3⟩ := hy
    refine mjl_91_7 ⟨by omega, by omega, fun g => by omega, fun _ => ?_⟩
    rw [(x254 y1).n.1, show ((i : Int)).toNat = i from rfl]
    refine ⟨oa, by omega, by omega, pl_nr (d := D + 5) (by omega) ?_⟩
    rw [xu y1 i (by omega)]
    have ubi := ub i
    refine bg_become (d := D + 3) (tw_row ra (by omega)) (by unfold bgA at ubi; split at ubi <;> omega) fun Z1 b1 b2 => hL Z1 ⟨y1.tr (b1.S (by unfold shS; omega) (by unfold shS; omega)), y2.cc (b1 315 (by omega) (by omega)), fun j hj => ?_⟩
    by_cases ej : j = i
    · rw [ej]
      exact b2
    · exact (y3 j (by omega)).O b1 (by unfold bgX; omega)
  · obtain ⟨y1, y2, y3⟩ := hy
    refine mjl_91_7 ⟨by omega, by omega, fun _ => ?_, fun g => by omega⟩
    refine lp_inv (n := d) (a := Zc) (L := fun i Zc => mjL_91_34 (D + 6) x1 (d : Int) (i : Int) Zc q) (Y := fun i Zc => wcS shS Z Zc ∧ dvT 315 Zc o t r ∧ (∀ j, j < d + 1 → bgIs 40 Zc (a + 1 + 2 * j) (u j)) ∧ ∀ j, j < i → bgIs 40 Zc (b + 1 + 2 * j) (Ak d u 1 j)) (fun i Zc hi hy hL => ?_) (fun Zc hy => ?_) ⟨y1, y2, y3, fun j hj => by omega⟩
    · obtain ⟨z1, z2, z3, z4⟩ := hy
      refine mjl_91_34 ⟨by omega, by omega, fun g => by omega, fun _ => ?_⟩
      rw [(x254 z1).n.2.1, show ((i : Int)).toNat = i from rfl]
      refine ⟨ob, by omega, by omega, ?_⟩
      rw [show (i : Int) + 1 = ((i + 1 : Nat) : Int) by omega]
      refine pl_nr (d := D + 5) (by omega) ?_
      rw [xu z1 (i + 1) (by omega)]
      have ubi := ub (i + 1)
      refine bg_become (d := D + 3) (tw_row rb (by omega)) (by unfold bgA at ubi; split at ubi <;> omega) fun Z1 b1 b2 => ?_
      have w1 := z1.tr (b1.S (by unfold shS; omega) (by unfold shS; omega))
      rw [(x254 w1).n.2.1]
      have eq : u (i + 1) * ((i + 1 : Nat) : Int) = Ak d u 1 i := by
        rw [ak_0, Int.mul_comm]
        rfl
      have bq : bgA (u (i + 1) * ((i + 1 : Nat) : Int)) < bgP 40 := by
        have b7 : bgA ((i + 1 : Nat) : Int) ≤ 7 := by
          unfold bgA
          split <;> omega
        exact Int.lt_of_le_of_lt (bgA_m ubi b7) n326.1
      refine ⟨ob, bg_scaleBy (d := D + 3) (tw_row rb (by omega)) b2 (by omega) bq fun Z2 c1 c2 => hL Z2 ⟨w1.tr (c1.S (by unfold shS; omega) (by unfold shS; omega)), (z2.cc (b1 315 (by omega) (by omega))).cc (c1 315 (by omega) (by omega)), fun j hj => ((z3 j hj).O b1 (by unfold bgX; omega)).O c1 (by unfold bgX; omega), fun j hj => ?_⟩⟩
      rw [eq] at c2
      by_cases ej : j = i
      · rw [ej]
        exact c2
      · exact ((z4 j (by omega)).O b1 (by unfold bgX; omega)).O c1 (by unfold bgX; omega)
    · obtain ⟨z1, z2, z3, z4⟩ := hy
      refine mjl_91_34 ⟨by omega, by omega, fun _ => ?_, fun g => by omega⟩
      have F0 : shF Z Z := fun _ _ _ _ _ => rfl
      rcases hS with ⟨d0, m0, e0, _, _, gm⟩ | ⟨_, hS, hZ, hR, _⟩
      · subst d0
        subst e0
        refine mjl_91_77 ⟨by omega, fun _ => ?_, fun g => by omega⟩
        refine mje_75 (d := D + 4) ⟨by omega, by split <;> omega, ?_⟩
        rw [show (if 0 < (if 6 < ((0 : Nat) : Int) - 1 then 6 else ((0 : Nat) : Int) - 1) then (if 6 < ((0 : Nat) : Int) - 1 then 6 else ((0 : Nat) : Int) - 1) else 0) = ((0 : Nat) : Int) from rfl, mjUp_at]
        refine ⟨by omega, fun g => by omega, fun _ => pl_wr (d := D + 5) (j := 0) (by omega) (hq _ (((F0.S z1).U (Or.inr (Or.inl rfl))).U (Or.inr (Or.inr rfl))) ⟨⟨a, b, c, ((x254 z1).U (by omega)).U (by omega)⟩, o, t, r, (z2.cc (mjUp_nc (by omega))).cc (mjUp_nc (by omega))⟩ ?_ fun i hi => ?_)⟩
        · rw [mjUp_nc (by omega)]
          exact mjUp_at
        · rw [show i = 0 by omega, gm]
          exact mjUp_at
      · have m1 := hS.1
        have md := hS.2.1
        rw [show (d : Int) - 1 = ((d - 1 : Nat) : Int) by omega]
        exact sh_turn (D := D) h6 hS hZ hR gb hq (d - 1) 0 a b c 1 1 Zc (by omega) (by omega) (F0.S z1) z2 (x254 z1) (Or.inl rfl) (Or.inl rfl) (fun i hi => by rw [Int.one_mul]; exact z3 i (by omega)) fun i hi => by rw [Int.one_mul]; exact z4 i (by omega)
end SHW
