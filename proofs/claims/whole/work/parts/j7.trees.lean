/-! Case: trees. -/
def vcc : Nat → Nat
  | 0 => 0
  | c + 1 => if c / 6 < c % 6 then vcc c + 1 else vcc c
theorem vcc_mono (c : Nat) : ∀ d, vcc c ≤ vcc (c + d)
  | 0 => Nat.le_refl _
  | d + 1 => by
    have := vcc_mono c d
    show _ ≤ if (c + d) / 6 < (c + d) % 6 then vcc (c + d) + 1 else vcc (c + d)
    split <;> omega
theorem ecn_le {n : Nat} {T : Nat → Nat → Int} : ∀ c, ecn n T c ≤ vcc c
  | 0 => Nat.le_refl _
  | c + 1 => by
    have ih := ecn_le (n := n) (T := T) c
    show (if flg n T c then ecn n T c + 1 else ecn n T c) ≤ if c / 6 < c % 6 then vcc c + 1 else vcc c
    by_cases g : flg n T c
    · rw [if_pos g, if_pos g.1]; omega
    · rw [if_neg g]
      split <;> omega
theorem ecn_15 {n : Nat} {T : Nat → Nat → Int} {c : Nat} (h : c ≤ 36) : ecn n T c ≤ 15 := by
  have h1 := ecn_le (n := n) (T := T) c
  have h2 := vcc_mono c (36 - c)
  rw [show c + (36 - c) = 36 by omega] at h2
  have h3 : vcc 36 = 15 := by decide
  omega
section TT
variable {d n t : Nat} {T : Nat → Nat → Int} {Z : mjZ}
theorem fm_lines {q : Int → mjZ → Prop} (ht : t < 60) (h1 : 1 ≤ n) (h6 : n ≤ 6) (hT : ∀ i k, i < n → k < n → Z 470 (36 * t + 6 * i + k) = T i k ∧ -100 ≤ T i k ∧ T i k ≤ 100) (hq : ∀ Z', wcS (fun c => c = 493) Z Z' → enR (edn n T 36) (ecn n T 36) Z' → mjL_249_113 (d + 1) (t : Int) (n : Int) (ecn n T 36) 0 0 Z' q) : mjL_249_40 (d + 1) (t : Int) (n : Int) 0 0 Z q := by
  refine lp_inv (n := n) (a := Z) (L := fun r Zr => mjL_249_40 (d + 1) (t : Int) (n : Int) (ecn n T (6 * r)) (r : Int) Zr q) (Y := fun r Zr => wcS (fun c => c = 493) Z Zr ∧ enR (edn n T (6 * r)) (ecn n T (6 * r)) Zr) (fun r Zr hr hy hL => ?_) (fun Zr hy => ?_) ⟨wcS.rf, fun e he => by
    have : e < 0 := he
    omega⟩
  · obtain ⟨y1, y2⟩ := hy
    refine mjl_249_40 ⟨by omega, by omega, fun g => by omega, fun _ => ?_⟩
    have s0 := ed_skip (n := n) (T := T) (c := 6 * r) (r + 1) fun x g1 g2 k => by
      have := k.1
      omega
    have start : wcS (fun c => c = 493) Z Zr ∧ enR (edn n T (6 * r + (r + 1 + 0))) (ecn n T (6 * r + (r + 1 + 0))) Zr := by
      refine ⟨y1, ?_⟩
      rw [show r + 1 + 0 = r + 1 from rfl, s0.1, s0.2]
      exact y2
    have e0 : ecn n T (6 * r) = ecn n T (6 * r + (r + 1 + 0)) := s0.1.symm
    rw [e0]
    refine lp_inv (n := n - (r + 1)) (a := Zr) (L := fun s Zs => mjL_249_52 (d + 1) (t : Int) (n : Int) (ecn n T (6 * r + (r + 1 + s))) (r : Int) ((r : Int) + 1 + (s : Int)) Zs q) (Y := fun s Zs => wcS (fun c => c = 493) Z Zs ∧ enR (edn n T (6 * r + (r + 1 + s))) (ecn n T (6 * r + (r + 1 + s))) Zs) (fun s Zs hs hz hL2 => ?_) (fun Zs hz => ?_) start
    · obtain ⟨z1, z2⟩ := hz
      generalize hk : r + 1 + s = k at z2
      have hkn : k < n := by omega
      have ek : (r : Int) + 1 + (s : Int) = (k : Int) := by omega
      have ek2 : (k : Int) + 1 = (r : Int) + 1 + ((s + 1 : Nat) : Int) := by omega
      have d1 : (6 * r + k) / 6 = r := by omega
      have d2 : (6 * r + k) % 6 = k := by omega
      have hTr := hT r k hr hkn
      refine mjl_249_52 ?_
      rw [ek]
      refine ⟨by omega, by omega, fun g => by omega, fun _ => ?_⟩
      refine fm_number (d := d) ht (by omega) (by omega) ?_
      have ev : Zs 470 (36 * t + 6 * r + k) = T r k := by rw [z1 470 (by decide)]; exact hTr.1
      rw [ev, ek2]
      refine ⟨by omega, fun g => ?_, fun g => ?_⟩
      · have nf : ¬ flg n T (6 * r + k) := fun f => by
          have := f.2.2
          rw [d1, d2] at this
          exact this g
        have e1 : ecn n T (6 * r + k + 1) = ecn n T (6 * r + k) := if_neg nf
        have e2 : edn n T (6 * r + k + 1) = edn n T (6 * r + k) := if_neg nf
        have e3 : 6 * r + (r + 1 + (s + 1)) = 6 * r + k + 1 := by omega
        have nx := hL2 Zs ⟨z1, by rw [e3, e1, e2]; exact z2⟩
        rw [e3, e1] at nx
        exact nx
      · have f : flg n T (6 * r + k) := by
          unfold flg
          rw [d1, d2]
          exact ⟨by omega, hkn, g⟩
        have e1 : ecn n T (6 * r + k + 1) = ecn n T (6 * r + k) + 1 := if_pos f
        have e2 : edn n T (6 * r + k + 1) = fun e => if e = ecn n T (6 * r + k) then 6 * r + k else edn n T (6 * r + k) e := if_pos f
        have e3 : 6 * r + (r + 1 + (s + 1)) = 6 * r + k + 1 := by omega
        have b15 : ecn n T (6 * r + k) + 1 ≤ 15 := by rw [← e1]; exact ecn_15 (by omega)
        generalize hE : ecn n T (6 * r + k) = E at *
        rw [show (2 * (E : Int)).toNat = 2 * E by omega, show (2 * (E : Int) + 1).toNat = 2 * E + 1 by omega]
        refine ⟨by omega, by omega, by omega, by omega, ?_⟩
        have nx := hL2 (mjUp (mjUp Zs 493 (2 * E) (r : Int)) 493 (2 * E + 1) (k : Int)) ⟨z1.tr fun c hc => by rw [mjUp_nc hc, mjUp_nc hc], by
          rw [e3, e1, e2]
          intro e he
          show mjUp (mjUp Zs 493 (2 * E) (r : Int)) 493 (2 * E + 1) (k : Int) 493 (2 * e) = (((if e = E then 6 * r + k else edn n T (6 * r + k) e) / 6 : Nat) : Int) ∧ mjUp (mjUp Zs 493 (2 * E) (r : Int)) 493 (2 * E + 1) (k : Int) 493 (2 * e + 1) = (((if e = E then 6 * r + k else edn n T (6 * r + k) e) % 6 : Nat) : Int)
          by_cases g3 : e = E
          · subst g3
            rw [if_pos rfl, d1, d2]
            refine ⟨?_, mjUp_at⟩
            rw [show mjUp (mjUp Zs 493 (2 * e) (r : Int)) 493 (2 * e + 1) (k : Int) 493 (2 * e) = mjUp Zs 493 (2 * e) (r : Int) 493 (2 * e) from if_neg fun c => by omega]
            exact mjUp_at
          · rw [if_neg g3]
            have := z2 e (by omega)
            refine ⟨?_, ?_⟩
            · rw [show mjUp (mjUp Zs 493 (2 * E) (r : Int)) 493 (2 * E + 1) (k : Int) 493 (2 * e) = mjUp Zs 493 (2 * E) (r : Int) 493 (2 * e) from if_neg fun c => by omega, show mjUp Zs 493 (2 * E) (r : Int) 493 (2 * e) = Zs 493 (2 * e) from if_neg fun c => by omega]
              exact this.1
            · rw [show mjUp (mjUp Zs 493 (2 * E) (r : Int)) 493 (2 * E + 1) (k : Int) 493 (2 * e + 1) = mjUp Zs 493 (2 * E) (r : Int) 493 (2 * e + 1) from if_neg fun c => by omega, show mjUp Zs 493 (2 * E) (r : Int) 493 (2 * e + 1) = Zs 493 (2 * e + 1) from if_neg fun c => by omega]
              exact this.2⟩
        rw [e3, e1] at nx
        exact nx
    · obtain ⟨z1, z2⟩ := hz
      refine mjl_249_52 ⟨by omega, by omega, fun _ => ?_, fun g => by omega⟩
      have s2 := ed_skip (n := n) (T := T) (c := 6 * r + (r + 1 + (n - (r + 1)))) (6 - n) fun x g1 g2 k => by
        have := k.2.1
        omega
      have e3 : 6 * r + (r + 1 + (n - (r + 1))) + (6 - n) = 6 * (r + 1) := by omega
      rw [e3] at s2
      have nx := hL Zs ⟨z1, by rw [s2.1, s2.2]; exact z2⟩
      rw [s2.1] at nx
      exact nx
  · obtain ⟨y1, y2⟩ := hy
    refine mjl_249_40 ⟨by omega, by omega, fun _ => ?_, fun g => by omega⟩
    have s2 := ed_skip (n := n) (T := T) (c := 6 * n) (36 - 6 * n) fun x g1 g2 k => by
      have := k.1
      have := k.2.1
      omega
    rw [show 6 * n + (36 - 6 * n) = 36 by omega] at s2
    have nx := hq Zr y1 (by rw [s2.1, s2.2]; exact y2)
    rw [s2.1] at nx
    exact nx
theorem fm_masks {E : Nat} {cd : Nat → Nat} {q : Int → mjZ → Prop} (h1 : 1 ≤ n) (h6 : n ≤ 6) (hE : E ≤ 15) (hc : ∀ e, e < E → cd e / 6 < n ∧ cd e % 6 < n) (hZ : enR cd E Z) (hq : ∀ Z', wcS (fun c => c = 492) Z Z' → mjW0 (d + 1) 203 [yR 11 464, yJ (sm (2 ^ E) (t1m n cd E))] (mjUp Z' 464 18 0) (fun Z5 => q 1 Z5)) : mjL_249_113 (d + 1) (t : Int) (n : Int) E 0 0 Z q := by
  have p15 : 2 ^ E ≤ 2 ^ 15 := Nat.pow_le_pow_right (by decide) hE
  have p15' : (2 : Nat) ^ 15 = 32768 := by decide
  have bd : ∀ r, 0 ≤ sm r (t1m n cd E) ∧ sm r (t1m n cd E) ≤ (r : Int) := fun r => by
    induction r with
    | zero => show (0 : Int) ≤ 0 ∧ (0 : Int) ≤ ((0 : Nat) : Int); omega
    | succ r ih =>
      have : t1m n cd E r = 1 ∨ t1m n cd E r = 0 := by
        unfold t1m
        split
        · exact Or.inl rfl
        · exact Or.inr rfl
      rw [sm_succ]
      omega
  refine lp_inv (n := 2 ^ E) (a := Z) (L := fun r Zr => mjL_249_113 (d + 1) (t : Int) (n : Int) E (sm r (t1m n cd E)) (r : Int) Zr q) (Y := fun r Zr => wcS (fun c => c = 492) Z Zr) (fun r Zr hr hy hL => ?_) (fun Zr hy => ?_) wcS.rf
  · refine mjl_249_113 ?_
    rw [wShl16 (by omega)]
    refine ⟨by omega, by omega, fun g => by omega, fun _ => ?_⟩
    refine fm_isTree (d := d) h1 h6 hE hc (fun e he => by rw [hy 493 (by decide)]; exact hZ e he) (by omega) fun Z' w => ?_
    have nx := hL Z' (hy.tr w)
    rw [sm_succ] at nx
    have : t1m n cd E r = 1 ∨ t1m n cd E r = 0 := by
      unfold t1m
      split
      · exact Or.inl rfl
      · exact Or.inr rfl
    refine ⟨by omega, fun g => ?_, fun g => ?_⟩
    · rw [g] at nx
      exact nx
    · rw [show t1m n cd E r = 1 by omega] at nx
      exact nx
  · have b := bd (2 ^ E)
    refine mjl_249_113 ?_
    rw [wShl16 (by omega)]
    refine ⟨by omega, by omega, fun _ => ?_, fun g => by omega⟩
    exact mje_202 ⟨by omega, hq Zr hy⟩
/-- what the class divides -/
theorem trees_V (h1 : 1 ≤ n) (h6 : n ≤ 6) (hF : tFlow n T) : 0 ≤ sm (2 ^ ecn n T 36) (t1m n (edn n T 36) (ecn n T 36)) ∧ sm (2 ^ ecn n T 36) (t1m n (edn n T 36) (ecn n T 36)) ≤ 32768 ∧ bgA (leP n T 1) = (n : Int) * sm (2 ^ ecn n T 36) (t1m n (edn n T 36) (ecn n T 36)) := by
  have hE := ecn_15 (n := n) (T := T) (c := 36) (Nat.le_refl 36)
  have bd : ∀ r, 0 ≤ sm r (t1m n (edn n T 36) (ecn n T 36)) ∧ sm r (t1m n (edn n T 36) (ecn n T 36)) ≤ (r : Int) := fun r => by
    induction r with
    | zero => show (0 : Int) ≤ 0 ∧ (0 : Int) ≤ ((0 : Nat) : Int); omega
    | succ r ih =>
      have : t1m n (edn n T 36) (ecn n T 36) r = 1 ∨ t1m n (edn n T 36) (ecn n T 36) r = 0 := by
        unfold t1m
        split
        · exact Or.inl rfl
        · exact Or.inr rfl
      rw [sm_succ]
      omega
  have b := bd (2 ^ ecn n T 36)
  have p15 : 2 ^ ecn n T 36 ≤ 2 ^ 15 := Nat.pow_le_pow_right (by decide) hE
  have p15' : (2 : Nat) ^ 15 = 32768 := by decide
  refine ⟨b.1, by omega, ?_⟩
  rcases Nat.lt_or_ge n 2 with g | g
  · have e1 : n = 1 := by omega
    subst e1
    have s := ed_skip (n := 1) (T := T) (c := 0) 36 fun x _ _ k => by
      have := k.1
      have := k.2.1
      omega
    rw [Nat.zero_add] at s
    have eE : ecn 1 T 36 = 0 := s.1
    rw [eE]
    show (1 : Int) = ((1 : Nat) : Int) * (0 + t1m 1 _ 0 0)
    have : t1m 1 (edn 1 T 36) 0 0 = 1 := if_pos ⟨rfl, rfl⟩
    rw [this]
    rfl
  · have hc : ∀ e, e < ecn n T 36 → edn n T 36 e / 6 < n ∧ edn n T 36 e % 6 < n := fun e he => by
      have k := (ed_lt 36 e he).2
      have k1 := k.1
      have k2 := k.2.1
      omega
    rw [leP_one (m := ecn n T 36) (b := fun e => bvC (edn n T 36 e)) g fun i k hi hk => flow_T h6 hF hi hk, trees_sum h1 hc, bgA_mulE, bgA_mulE]
    have s1 : bgA (sg1 (n - 1)) = 1 := by
      rcases sg1_or (n - 1) with k | k <;> rw [k] <;> decide
    have s2 : bgA (n : Int) = (n : Int) := if_pos (by omega)
    have s3 : bgA (sm (2 ^ ecn n T 36) (t1m n (edn n T 36) (ecn n T 36))) = sm (2 ^ ecn n T 36) (t1m n (edn n T 36) (ecn n T 36)) := if_pos b.1
    rw [s1, s2, s3, Int.one_mul]
end TT
theorem iv_trees_ok : iv_trees INV := fun Z x1 hI => by
  obtain ⟨m, a1, a2, a3, a4⟩ := id hI.2.1
  have hx := i32r x1
  refine mje_151 (d := 8) (fc_tableAt (d := 8) a2 a1 hx (fun h => ?_) fun t ht htm => ?_)
  · refine mje_249 (d := 9) (fm_isTable (d := 7) a3 a1 hx ?_)
    rw [if_neg h]
    exact ⟨by omega, fun g => absurd rfl g, fun _ => ⟨rfl, hI⟩⟩
  · obtain ⟨n, b1, b2, b3, b4, b5, b6, b7⟩ := a4 t htm
    have hn6 := b1.2.2
    have hn1 := b1.2.1
    have e0 : ((t : Int)).toNat = t := rfl
    have hp : Z 263 1 = 264 ∧ Z 263 2 = 265 ∨ Z 263 1 = 265 ∧ Z 263 2 = 264 := hI.2.2.2.2.2.2.1
    have hk4 : 0 ≤ Z (35 + 2 * t) 1 ∧ Z (35 + 2 * t) 1 ≤ 4 := by
      rcases b7 with (⟨g, -⟩ | ⟨g, -⟩ | ⟨g, -⟩ | ⟨g, -⟩) | ⟨g, -⟩ <;> omega
    rw [ht]
    refine ⟨by omega, fun h4 => ?_, fun h4 => fc_found (d := 8) (f := 8) (by omega) ?_⟩
    · have hF : tFlow n (tE Z (35 + 2 * t)) := by
        rcases b7 with (⟨g, -⟩ | ⟨g, -⟩ | ⟨g, -⟩ | ⟨g, -⟩) | ⟨-, g⟩
        · omega
        · omega
        · omega
        · omega
        · exact g
      obtain ⟨v1, v2, v3⟩ := trees_V hn1 hn6 hF
      have hT2 : ∀ i k, i < n → k < n → -100 ≤ tE Z (35 + 2 * t) i k ∧ tE Z (35 + 2 * t) i k ≤ 100 := fun i k hi hk => (b4 i k hi hk).2
      refine tl_read (d := 5) (T := tE Z (35 + 2 * t)) hn1 hn6 hp b1 (by omega) (fun i k hi hk => ⟨rfl, hT2 i k hi hk⟩) fun Z' p y1 y2 => ?_
      have f1 : ∀ c, c < 255 ∨ (256 < c ∧ c < 263) ∨ 265 < c → Z' c = Z c := fun c hc => by rw [y1.1 c (by omega) (by omega) (by omega), mjRow_ne (by omega), mjUp_nc (by omega)]
      have f2 : Z' 256 1 = leP n (tE Z (35 + 2 * t)) 1 := by
        rw [y1.1 256 (by decide) (by decide) (by decide), mjRow_at]
        exact y2 1 (by omega)
      generalize eV : leP n (tE Z (35 + 2 * t)) 1 = V at *
      generalize eX : sm (2 ^ ecn n (tE Z (35 + 2 * t)) 36) (t1m n (edn n (tE Z (35 + 2 * t)) 36) (ecn n (tE Z (35 + 2 * t)) 36)) = X at *
      have ref : ∀ (Z1 : mjZ) (q : Int → mjZ → Prop), (∀ c, c ≠ 0 → c ≠ 156 → c ≠ 157 → Z1 c = Z' c) → (∀ Z2, stO Z1 Z2 → mjW0 9 203 [yR 11 464, yJ X] (mjUp Z2 464 18 0) (fun Z4 => q 1 Z4)) → mjW1 10 249 [yR 11 464, yI (t : Int)] Z1 q := fun Z1 q g hq => by
        have g2 : ∀ c, 265 < c → Z1 c = Z c := fun c hc => by rw [g c (by omega) (by omega) (by omega), f1 c (by omega)]
        refine mje_249 (d := 9) (fm_isTable (d := 7) (m := m) (by rw [g2 464 (by omega)]; exact a3) a1 (by omega) ?_)
        rw [if_pos (by omega), e0, g2 468 (by omega), g2 469 (by omega), b3, b2, h4]
        refine ⟨by omega, fun _ => ⟨by omega, by omega, by omega, fun _ => ?_, fun k => absurd rfl k⟩, fun k => by omega⟩
        refine fm_lines (d := 8) (T := tE Z (35 + 2 * t)) (by omega) hn1 hn6 (fun i k hi hk => ⟨by rw [g2 470 (by omega)]; exact (b4 i k hi hk).1.symm, hT2 i k hi hk⟩) fun Z2 w1 w2 => ?_
        refine fm_masks (d := 8) hn1 hn6 (ecn_15 (Nat.le_refl 36)) (fun e he => by
          have k := (ed_lt 36 e he).2
          have k1 := k.1
          have k2 := k.2.1
          omega) w2 fun Z3 u1 => ?_
        rw [eX]
        have o : ∀ c, c ≠ 492 → c ≠ 493 → Z3 c = Z1 c := fun c c1 c2 => by rw [u1 c c1, w1 c c2]
        exact hq Z3 ⟨fun c c1 c2 => o c (by omega) (by omega), o 481 (by decide) (by decide), fun k _ => by rw [o 464 (by decide) (by decide)]⟩
      have ek : Z' (35 + 2 * t) 0 = (n : Int) := by rw [f1 _ (by omega)]; exact b1.1
      have nX : 0 ≤ (n : Int) * X ∧ (n : Int) * X ≤ 6 * 32768 := ⟨Int.mul_nonneg (by omega) v1, Int.mul_le_mul (by omega) v2 v1 (by decide)⟩
      refine mje_82 (d := 8) ⟨by omega, fun g => by omega, fun _ => ⟨by decide, fun g => ?_, fun _ => ⟨by omega, by omega, ?_⟩⟩⟩
      · have : ((20007 - 20000 : Nat) : Int) = 7 := by decide
        omega
      · have e1 : (if 0 < V then V else -V) = (n : Int) * X := by
          rw [← v3]
          unfold bgA
          repeat' split
          all_goals omega
        have e2 : (if (n : Int) < 1 then 1 else (n : Int)) = (n : Int) := if_neg (by omega)
        have vb : -9223372036854775808 ≤ V ∧ V < 9223372036854775808 := by
          unfold bgA at v3
          split at v3 <;> omega
        rw [show Z' (255 + 1) (1 : Int).toNat = V from f2, ek, e2, e1, Int.mul_tdiv_cancel_left X (show (n : Int) ≠ 0 by omega)]
        exact ⟨by omega, by omega, by omega, by omega, by omega, by omega, an_one3 (INV_rd hI y1) (by omega) ref⟩
    · refine mje_249 (d := 9) (fm_isTable (d := 7) (m := m) (by rw [fdC_ne (by decide) (by decide)]; exact a3) a1 (by omega) ?_)
      rw [if_pos (by omega), e0, fdC_ne (by decide) (by decide), b3]
      exact ⟨by omega, fun _ => ⟨by omega, by omega, by omega, fun k => absurd k h4, fun _ => fm_finds (d := 8) (f := 8) (by omega) ⟨rfl, INV_fd (by omega) hI⟩⟩, fun g => by omega⟩
