/-! Cases: worth. -/
theorem an_one3 {mm : Nat} {as : List mjY} {Z : mjZ} {x : Int} (hI : INV Z) (hx : -9223372036854775808 < x ∧ x < 9223372036854775808) (hM : ∀ (Z1 : mjZ) (q : Int → mjZ → Prop), (∀ c, c ≠ 0 → c ≠ 156 → c ≠ 157 → Z1 c = Z c) → (∀ Z2, stO Z1 Z2 → mjW0 9 203 [yR 11 464, yJ x] (mjUp Z2 464 18 0) (fun Z4 => q 1 Z4)) → mjW1 10 mm as Z1 q) : mjW1 9 88 [yR 10 0, yJ x] Z (fun v Z1 => mjW1 10 mm as Z1 (fun z' Z2 => Int32.ofInt z' = Int32.ofInt v ∧ INV Z2)) := by
  refine mje_88 (d := 8) (bg_become (d := 5) (R := 12) (bgR12 (i := 0) (by decide)) (by omega) fun Zc h1 h2 => hM _ _ (fun c g0 g1 g2 => by rw [mjUp_nc g0, h1 c g1 g2]) fun Z2 hO => ?_)
  refine mje_203 (d := 8) ?_
  rw [mjUp_at]
  refine fm_set (d := 7) (i := 0) (by decide) hx fun Z' h3 h4 => ⟨rfl, ?_⟩
  have e : Z' 464 18 = 0 := by rw [h3.1 464 (by decide) (by decide) (by decide), mjUp_at]
  rw [e]
  exact INV_ans2 hI h1 h2 hO h3 h4
theorem INV_rd {Z Z' : mjZ} {n : Nat} {M : Nat → Nat → Int} {p : Nat → Int} (hI : INV Z) (h : PGI 263 264 265 (mjRow (mjUp Z 255 0 (n : Int)) 256 p) n M Z') : INV Z' := by
  obtain ⟨p1, p2, a, b, p3, p4, p5, p6⟩ := h
  obtain ⟨i1, i2, i3, i4, i5, i6⟩ := hI
  obtain ⟨a1, a2, a3, a4, a5, a6, a7⟩ := i6
  have e : ∀ c, c < 255 ∨ (256 < c ∧ c < 263) ∨ 265 < c → Z' c = Z c := fun c hc => by rw [p1 c (by omega) (by omega) (by omega), mjRow_ne (by omega), mjUp_nc (by omega)]
  refine ⟨i1.fr (fun c g1 g2 => e c (by omega)) (e _ (by omega)) (e _ (by omega)) (e _ (by omega)), i2.fr (fun c g1 g2 => e c (by omega)) (by rw [e _ (by omega)]) (by rw [e _ (by omega)]) (e _ (by omega)) (e _ (by omega)) (e _ (by omega)), i3.fr (fun c g1 g2 => e c (by omega)) (by rw [e _ (by omega)]) (by rw [e _ (by omega)]) (fun k _ => by rw [e _ (by omega)]) (fun k _ => by rw [e _ (by omega)]) (fun k _ => by rw [e _ (by omega)]), i4.fr (by rw [e _ (by omega)]) (by rw [e _ (by omega)]) (by rw [e _ (by omega)]) (by rw [e _ (by omega)]) (by rw [e _ (by omega)]) (by rw [e _ (by omega)]) (e _ (by omega)) (e _ (by omega)), i5.fr (by rw [e _ (by omega)]) (by rw [e _ (by omega)]) (e _ (by omega)) (e _ (by omega)), ?_⟩
  unfold ivA
  rw [e 254 (by omega), e 460 (by omega), e 343 (by omega), e 481 (by omega)]
  obtain ⟨o, t, r, dv1⟩ := a4
  obtain ⟨o2, t2, r2, dv2⟩ := a5
  exact ⟨a1, by omega, a3, ⟨o, t, r, dv1.cc (e 315 (by omega))⟩, ⟨o2, t2, r2, dv2.cc (e 354 (by omega))⟩, a6, a7⟩
theorem iv_worth_ok : iv_worth INV := fun Z x1 hI => by
  obtain ⟨m, a1, a2, a3, a4⟩ := id hI.2.1
  have hx := i32r x1
  refine mje_87 (d := 9) (fc_tableAt (d := 8) a2 a1 hx (fun h => ?_) fun t ht htm => ?_)
  · refine mje_205 (d := 9) (fm_isTable (d := 7) a3 a1 hx ?_)
    rw [if_neg h]
    exact ⟨by omega, fun g => absurd rfl g, fun _ => ⟨rfl, hI⟩⟩
  · obtain ⟨n, b1, b2, b3, b4, b5, b6, b7⟩ := a4 t htm
    have hn6 := b1.2.2
    have hn1 := b1.2.1
    have e0 : ((t : Int)).toNat = t := rfl
    have eM : Int.tmod (n : Int) 2 = ((n % 2 : Nat) : Int) := rfl
    have hp : Z 263 1 = 264 ∧ Z 263 2 = 265 ∨ Z 263 1 = 265 ∧ Z 263 2 = 264 := hI.2.2.2.2.2.2.1
    have hT2 : ∀ i k, i < n → k < n → -100 ≤ Z 470 (36 * t + 6 * i + k) ∧ Z 470 (36 * t + 6 * i + k) ≤ 100 := fun i k hi hk => by
      rw [← (b4 i k hi hk).1]
      exact (b4 i k hi hk).2
    rw [ht]
    refine tl_read (d := 5) (T := fun i k => Z 470 (36 * t + 6 * i + k)) hn1 hn6 hp b1 (by omega) (fun i k hi hk => ⟨(b4 i k hi hk).1, hT2 i k hi hk⟩) fun Z' p y1 y2 => ?_
    have f1 : ∀ c, c < 255 ∨ (256 < c ∧ c < 263) ∨ 265 < c → Z' c = Z c := fun c hc => by rw [y1.1 c (by omega) (by omega) (by omega), mjRow_ne (by omega), mjUp_nc (by omega)]
    have f2 : Z' 256 0 = leP n (fun i k => Z 470 (36 * t + 6 * i + k)) 0 := by
      rw [y1.1 256 (by decide) (by decide) (by decide), mjRow_at]
      exact y2 0 (by omega)
    have bd : -279936000000000000 ≤ leP n (fun i k => Z 470 (36 * t + 6 * i + k)) 0 ∧ leP n (fun i k => Z 470 (36 * t + 6 * i + k)) 0 ≤ 279936000000000000 := by
      have c := le_c (n := n) (T := fun i k => Z 470 (36 * t + 6 * i + k)) (r := n - 1 - 0) hn6 hT2 (by omega)
      have e : leP n (fun i k => Z 470 (36 * t + 6 * i + k)) 0 = leC n (fun i k => Z 470 (36 * t + 6 * i + k)) (leB n (fun i k => Z 470 (36 * t + 6 * i + k)) (n - 1 - 0)) (n - 1 - 0) := if_neg (by omega)
      rw [← e] at c
      unfold bgA at c
      split at c <;> omega
    generalize eV : leP n (fun i k => Z 470 (36 * t + 6 * i + k)) 0 = V at *
    have ref : ∀ (x : Int), x = (if n % 2 = 0 then V else -V) → ∀ (Z1 : mjZ) (q : Int → mjZ → Prop), (∀ c, c ≠ 0 → c ≠ 156 → c ≠ 157 → Z1 c = Z' c) → (∀ Z2, stO Z1 Z2 → mjW0 9 203 [yR 11 464, yJ x] (mjUp Z2 464 18 0) (fun Z4 => q 1 Z4)) → mjW1 10 205 [yR 11 464, yI (t : Int)] Z1 q := fun x hxv Z1 q g hq => by
      have g2 : ∀ c, 265 < c → Z1 c = Z c := fun c hc => by rw [g c (by omega) (by omega) (by omega), f1 c (by omega)]
      refine mje_205 (d := 9) (fm_isTable (d := 7) (m := m) (by rw [g2 464 (by omega)]; exact a3) a1 (by omega) ?_)
      rw [if_pos (by omega)]
      refine ⟨by omega, fun _ => ?_, fun k => by omega⟩
      refine fm_polyOf (d := 7) (T := fun i k => Z 470 (36 * t + 6 * i + k)) (by omega) hn1 hn6 (by rw [g2 469 (by omega)]; exact b2) (fun i k hi hk => ⟨by rw [g2 470 (by omega)], hT2 i k hi hk⟩) fun gg hh pp hpp => mje_202 (d := 8) ⟨by omega, by omega, ?_⟩
      have e9 : mjUp (wS Z1 gg hh pp) 464 18 0 469 t = (n : Int) := by rw [mjUp_nc (by decide), wS_ne (by decide) (by decide) (by decide), g2 469 (by omega)]; exact b2
      have e8 : mjUp (wS Z1 gg hh pp) 464 18 0 480 0 = V := by rw [mjUp_nc (by decide), wS_ap, hpp 0 (by decide), if_pos (by omega), eV]
      rw [e0, e9, eM, e8]
      have h := hq (wS Z1 gg hh pp) stO_w
      refine ⟨by omega, by omega, fun k => ?_, fun k => ?_⟩
      · rw [if_neg (by omega)] at hxv
        rw [hxv] at h
        exact h
      · rw [if_pos (by omega)] at hxv
        rw [hxv] at h
        exact h
    refine mje_82 (d := 8) ⟨by omega, fun g => by omega, fun _ => ⟨by decide, fun g => ?_, fun _ => ⟨by omega, by omega, ?_⟩⟩⟩
    · have : ((20007 - 20000 : Nat) : Int) = 7 := by decide
      omega
    · have ek : Z' (35 + 2 * t) 0 = (n : Int) := by rw [f1 _ (by omega)]; exact b1.1
      rw [ek, eM]
      refine ⟨by omega, by omega, fun k => ?_, fun k => ?_⟩
      · rw [show Z' (255 + 1) (0 : Int).toNat = V from f2]
        exact an_one3 (INV_rd hI y1) (by omega) fun Z1 q g hq => ref (-V) (by rw [if_neg (by omega)]) Z1 q g hq
      · rw [show Z' (255 + 1) (0 : Int).toNat = V from f2]
        exact an_one3 (INV_rd hI y1) (by omega) fun Z1 q g hq => ref V (by rw [if_pos (by omega)]) Z1 q g hq
