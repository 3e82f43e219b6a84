/-! The other side: the least polynomial by all primes. -/
section LE
variable {d : Nat} {Z : mjZ}
theorem fp_isMore {x1 x2 : Nat} {q : Int → mjZ → Prop} (h1 : x1 < 24) (h2 : x2 < 24) (b1 : ∀ i, i < 6 → -7 ≤ Z 482 (6 * x1 + i) ∧ Z 482 (6 * x1 + i) ≤ 7) (b2 : ∀ i, i < 6 → -7 ≤ Z 482 (6 * x2 + i) ∧ Z 482 (6 * x2 + i) ≤ 7) (hq : q (im (fun i => Z 482 (6 * x1 + i)) fun i => Z 482 (6 * x2 + i)) Z) : mjW1 (d + 1) 214 [yR 11 464, yI (x1 : Int), yI (x2 : Int)] Z q := by
  have main : ∀ n j, j + n = 6 → q (imr (fun i => Z 482 (6 * x1 + i)) (fun i => Z 482 (6 * x2 + i)) n j) Z → mjL_214_2 d x1 x2 j Z q := fun n => by
    induction n with
    | zero =>
      intro j hj h
      exact mjl_214_2 ⟨by omega, fun _ => h, fun g => by omega⟩
    | succ n ih =>
      intro j hj h
      have c1 := b1 j (by omega)
      have c2 := b2 j (by omega)
      refine mjl_214_2 ⟨by omega, fun g => by omega, fun _ => ?_⟩
      rw [show ((6 * (x1 : Int)) + (j : Int)).toNat = 6 * x1 + j by omega, show ((6 * (x2 : Int)) + (j : Int)).toNat = 6 * x2 + j by omega]
      have h0 : q (if Z 482 (6 * x1 + j) - Z 482 (6 * x2 + j) = 0 then imr (fun i => Z 482 (6 * x1 + i)) (fun i => Z 482 (6 * x2 + i)) n (j + 1) else if Z 482 (6 * x1 + j) - Z 482 (6 * x2 + j) ≤ 0 then -1 else 1) Z := h
      refine ⟨by omega, by omega, by omega, by omega, by omega, fun g => ?_, fun g => ⟨fun k => ?_, fun k => ?_⟩⟩
      · rw [if_pos g] at h0
        exact ih (j + 1) (by omega) h0
      · rw [if_neg g, if_pos k] at h0
        exact h0
      · rw [if_neg g, if_neg k] at h0
        exact h0
  exact mje_214 (main 6 0 (by omega) hq)
theorem fp_whole {a b c : Nat} {F : Int} {q : Int → mjZ → Prop} (ha : a < 24) (hb : b < 24) (hc : c < 24) (hab : a ≠ b) (hac : a ≠ c) (hbc : b ≠ c) (hF : bgA F ≤ 46656000000000000) (hq : q F Z) : mjW2 (d + 2) 215 [yJ (F % pq a), yJ (F % pq b), yJ (F % pq c), yJ (pq a), yJ (pq b), yJ (pq c)] Z q := by
  have ra := pq_rg a ha
  have rb := pq_rg b hb
  have rc := pq_rg c hc
  have nba := pq_nd hb ha (fun e => hab e.symm)
  have nca := pq_nd hc ha (fun e => hac e.symm)
  have ncb := pq_nd hc hb (fun e => hbc e.symm)
  have pb := pq_pri b hb
  have pc := pq_pri c hc
  have x0 := Int.emod_nonneg F (show (pq a : Int) ≠ 0 by omega)
  have x1 := Int.emod_lt_of_pos F (show (0 : Int) < pq a by omega)
  have y0 := Int.emod_nonneg F (show (pq b : Int) ≠ 0 by omega)
  have y1 := Int.emod_lt_of_pos F (show (0 : Int) < pq b by omega)
  have z0 := Int.emod_nonneg F (show (pq c : Int) ≠ 0 by omega)
  have z1 := Int.emod_lt_of_pos F (show (0 : Int) < pq c by omega)
  have fin : ∀ v w : Int, (0 ≤ v ∧ v < pq b) → (0 ≤ w ∧ w < pq c) → (pq b : Int) ∣ F % pq a + pq a * v - F % pq b → (pq c : Int) ∣ F % pq a + pq a * v + pq a * pq b * w - F % pq c → (w ≠ 0 → q (F % pq a + pq a * v - pq a * pq b) Z) ∧ (¬ w ≠ 0 → q (F % pq a + pq a * v) Z) := fun v w hv hw k1 k2 => by
    have h := crt ha hb hc hab hac hbc hF hv hw k1 k2
    refine ⟨fun g => ?_, fun g => ?_⟩
    · rw [if_neg g] at h
      rw [h]
      exact hq
    · rw [if_pos (by omega)] at h
      rw [h]
      exact hq
  generalize F % (pq a : Int) = x at *
  generalize F % (pq b : Int) = y at *
  generalize F % (pq c : Int) = z at *
  generalize hA : (pq a : Int) = A at *
  generalize hB : (pq b : Int) = B at *
  generalize hC : (pq c : Int) = C at *
  have A0 : 2147483058 < A ∧ A < 2147483648 := by omega
  have B0 : 2147483058 < B ∧ B < 2147483648 := by omega
  have C0 : 2147483058 < C ∧ C < 2147483648 := by omega
  -- the first number
  have l1 := Int.lt_tmod_of_pos (y - x) (show 0 < B by omega)
  have l2 := Int.tmod_lt_of_pos (y - x) (show 0 < B by omega)
  have E1 : Int.tmod (Int.tmod (y - x) B + B) B = (y - x) % B := tm_fix (by omega)
  have u0 := Int.emod_nonneg (y - x) (show B ≠ 0 by omega)
  have u1 := Int.emod_lt_of_pos (y - x) (show 0 < B by omega)
  have ud := em_dv (y - x) B
  have ab0 := Int.tmod_eq_emod_of_nonneg (a := A) (b := B) (by omega)
  have ab1 := Int.emod_nonneg A (show B ≠ 0 by omega)
  have ab2 := Int.emod_lt_of_pos A (show 0 < B by omega)
  have abd := em_dv A B
  have ac0 := Int.tmod_eq_emod_of_nonneg (a := A) (b := C) (by omega)
  have ac1 := Int.emod_nonneg A (show C ≠ 0 by omega)
  have ac2 := Int.emod_lt_of_pos A (show 0 < C by omega)
  have acd := em_dv A C
  have bc0 := Int.tmod_eq_emod_of_nonneg (a := B) (b := C) (by omega)
  have bc1 := Int.emod_nonneg B (show C ≠ 0 by omega)
  have bc2 := Int.emod_lt_of_pos B (show 0 < C by omega)
  have bcd := em_dv B C
  have xc0 := Int.tmod_eq_emod_of_nonneg (a := x) (b := C) x0
  have xc1 := Int.emod_nonneg x (show C ≠ 0 by omega)
  have xc2 := Int.emod_lt_of_pos x (show 0 < C by omega)
  have xcd := em_dv x C
  refine mje_215 ?_
  rw [E1, ab0, ac0, bc0, xc0]
  generalize (y - x) % B = u at *
  have nab : ¬ B ∣ A % B := fun g => nba (dv_tr abd g)
  have nac : ¬ C ∣ A % C := fun g => nca (dv_tr acd g)
  have nbc2 : ¬ C ∣ B % C := fun g => ncb (dv_tr bcd g)
  generalize A % B = aB at *
  generalize A % C = aC at *
  generalize B % C = bC at *
  generalize x % C = xC at *
  refine ⟨by omega, by omega, by omega, by omega, by omega, by omega, by omega, ?_⟩
  refine fp_pow ⟨by omega, by omega⟩ ⟨by omega, by omega⟩ ⟨by omega, by omega⟩ ?_
  have iv := inv_ok (pq_pri b hb) ab1 (by rw [hB]; exact nab)
  have e2 : (B - 2).toNat = pq b - 2 := by omega
  rw [e2]
  rw [hB] at iv
  have i0 := Int.emod_nonneg (aB ^ (pq b - 2)) (show B ≠ 0 by omega)
  have i1 := Int.emod_lt_of_pos (aB ^ (pq b - 2)) (show 0 < B by omega)
  generalize aB ^ (pq b - 2) % B = j at *
  have m1 := mul_b (x := u) (y := j) (p := B) ⟨u0, u1⟩ ⟨i0, i1⟩ (by omega)
  obtain ⟨v0, v1, vd⟩ := mod_b m1.1 (show 0 < B by omega)
  generalize Int.tmod (u * j) B = v at *
  have m2 := mul_b (x := v) (y := aC) (p := 2147483647) ⟨v0, by omega⟩ ⟨ac1, by omega⟩ (by omega)
  obtain ⟨s0, s1, sd⟩ := mod_b m2.1 (show 0 < C by omega)
  generalize hs : Int.tmod (v * aC) C = s at *
  obtain ⟨f0, f1, fd⟩ := mod_b (x := xC + s) (p := C) (by omega) (by omega)
  generalize hf : Int.tmod (xC + s) C = f at *
  have l3 := Int.lt_tmod_of_pos (z - f) (show 0 < C by omega)
  have l4 := Int.tmod_lt_of_pos (z - f) (show 0 < C by omega)
  have E2 : Int.tmod (Int.tmod (z - f) C + C) C = (z - f) % C := tm_fix (by omega)
  have g0 := Int.emod_nonneg (z - f) (show C ≠ 0 by omega)
  have g1 := Int.emod_lt_of_pos (z - f) (show 0 < C by omega)
  have gd := em_dv (z - f) C
  rw [E2]
  generalize (z - f) % C = g at *
  have m3 := mul_b (x := aC) (y := bC) (p := C) ⟨ac1, ac2⟩ ⟨bc1, bc2⟩ (by omega)
  obtain ⟨h0, h1, hd⟩ := mod_b m3.1 (show 0 < C by omega)
  generalize hh : Int.tmod (aC * bC) C = h at *
  refine ⟨by omega, by omega, by omega, by omega, by omega, by omega, by omega, by omega, by omega, by omega, by omega, by omega, by omega, by omega, by omega, by omega, by omega, by omega, ?_⟩
  refine fp_pow ⟨by omega, by omega⟩ ⟨by omega, by omega⟩ ⟨by omega, by omega⟩ ?_
  have nh : ¬ C ∣ h := fun k => by
    have k2 := dv_tr hd k
    rcases pc.2 aC bC k2 with k3 | k3
    · exact nac k3
    · exact nbc2 k3
  have iv2 := inv_ok (pq_pri c hc) h0 (by rw [hC]; exact nh)
  have e3 : (C - 2).toNat = pq c - 2 := by omega
  rw [e3]
  rw [hC] at iv2
  have k0 := Int.emod_nonneg (h ^ (pq c - 2)) (show C ≠ 0 by omega)
  have k1 := Int.emod_lt_of_pos (h ^ (pq c - 2)) (show 0 < C by omega)
  generalize h ^ (pq c - 2) % C = k at *
  have m4 := mul_b (x := g) (y := k) (p := C) ⟨g0, g1⟩ ⟨k0, k1⟩ (by omega)
  obtain ⟨w0, w1, wd⟩ := mod_b m4.1 (show 0 < C by omega)
  generalize Int.tmod (g * k) C = w at *
  refine ⟨by omega, by omega, by omega, ?_⟩
  refine fin v w ⟨v0, v1⟩ ⟨w0, w1⟩ ?_ ?_
  · -- x + A v - y
    have d1 := Int.dvd_mul_of_dvd_right (b := A) vd
    have d2 := Int.dvd_mul_of_dvd_right (b := -(u * j)) abd
    have d3 := Int.dvd_mul_of_dvd_right (b := u) iv
    have d4 := Int.dvd_add (Int.dvd_add d1 d2) (Int.dvd_add d3 ud)
    rw [show A * (v - u * j) + -(u * j) * (aB - A) + (u * (aB * j - 1) + (u - (y - x))) = x + A * v - y by grind] at d4
    exact d4
  · have d1 := Int.dvd_mul_of_dvd_right (b := A * B) wd
    have d2 := Int.dvd_mul_of_dvd_right (b := g) iv2
    have d3 := Int.dvd_mul_of_dvd_right (b := -(g * k)) hd
    have d4 := Int.dvd_mul_of_dvd_right (b := -(g * k) * bC) acd
    have d5 := Int.dvd_mul_of_dvd_right (b := -(g * k) * A) bcd
    have d6 := Int.dvd_mul_of_dvd_right (b := -v) acd
    have d7 := Int.dvd_add (Int.dvd_add (Int.dvd_add d1 d2) (Int.dvd_add d3 d4)) (Int.dvd_add d5 gd)
    have d8 := Int.dvd_sub (Int.dvd_sub (Int.dvd_sub d7 fd) sd) (Int.dvd_sub xcd d6)
    rw [show A * B * (w - g * k) + g * (h * k - 1) + (-(g * k) * (h - aC * bC) + -(g * k) * bC * (aC - A)) + (-(g * k) * A * (bC - B) + (g - (z - f))) - (f - (xC + s)) - (s - v * aC) - (xC - x - -v * (aC - A)) = x + A * v + A * B * w - z by grind] at d8
    exact d8
end LE
