/-! Cases: turn, drop. -/
section MT
variable {d m n t : Nat} {Z : mjZ}
/-- the reference's turn: the row of what is being made -/
theorem fm_turnL {a b : Nat} {q : Int → mjZ → Prop} (ht : t < 60) (hn : Z 469 t = (n : Int)) (h1 : 1 ≤ n) (h6 : n ≤ 6) (ha : a < n) (hb : b < n) (hq : mjW1 (d + 1) 177 [yR 11 464, yI (n : Int)] (mjRow Z 471 (rF n (fun i k => Z 470 (36 * t + 6 * sw a b i + sw a b k)) (Z 471))) (fun v5 Z5 => mjW1 (d + 1) 178 [yR 11 464, yI (n : Int), yI v5] Z5 (fun v6 Z6 => q v6 Z6))) : mjL_188_54 (d + 1) (t : Int) (a : Int) (b : Int) 0 Z q := by
  have hsw : ∀ i, i < n → sw a b i < n := fun i hi => by unfold sw; split <;> (try split) <;> omega
  have hr : ∀ G, mjRow Z 471 G 469 t = (n : Int) := fun G => by rw [mjRow_ne (by decide)]; exact hn
  refine lp_row (A := 471) (n := n) (f := fun i g => fo (fun k g => va_up g (6 * i + k) (Z 470 (36 * t + 6 * sw a b i + sw a b k))) n g) (L := fun i Z => mjL_188_54 (d + 1) (t : Int) (a : Int) (b : Int) i Z q) (fun i g hi hL => ?_) ?_
  · refine mjl_188_54 ?_
    rw [show ((t : Int)).toNat = t from rfl, hr]
    refine ⟨by omega, by omega, by omega, by omega, fun h => by omega, fun _ => ?_⟩
    refine lp_fold0 (n := n) (f := fun k g => va_up g (6 * i + k) (Z 470 (36 * t + 6 * sw a b i + sw a b k))) (L := fun k g => mjL_188_68 (d + 1) (t : Int) (a : Int) (b : Int) i k (mjRow Z 471 g) q) (a := g) (fun k g hk hL2 => ?_) ?_
    · have s1 := hsw i hi
      have s2 := hsw k hk
      have e0 : mjRow Z 471 g 470 = Z 470 := mjRow_ne (by decide)
      have fin : ∀ u v : Nat, u = sw a b i → v = sw a b k → mjW1 (d + 1) 186 [yR 11 464, yI (t : Int), yI (u : Int), yI (v : Int)] (mjRow Z 471 g) (fun v8 Z8 => 0 ≤ ((6 * (i : Int)) + (k : Int)) ∧ (((6 * (i : Int)) + (k : Int)) < 36 ∧ (mjL_188_68 (d + 1) (t : Int) (a : Int) (b : Int) i (k + 1) (mjUp Z8 471 ((6 * (i : Int)) + (k : Int)).toNat v8) q))) := fun u v hu hv => by
        subst hu hv
        refine fm_number (d := d) ht (by omega) (by omega) ⟨by omega, by omega, ?_⟩
        rw [show ((6 * (i : Int)) + (k : Int)).toNat = 6 * i + k by omega, mjRow_up, e0]
        exact hL2
      refine mjl_188_68 ?_
      rw [show ((t : Int)).toNat = t from rfl, hr]
      refine ⟨by omega, by omega, by omega, by omega, fun h => by omega, fun _ => ⟨by omega, by omega, fun g1 => ⟨by omega, fun g2 => ⟨fun g3 => ⟨fun g4 => fin i k ?_ ?_, fun g4 => fin i a ?_ ?_⟩, fun g3 => fin i b ?_ ?_⟩, fun g2 => ⟨fun g3 => ⟨fun g4 => fin a k ?_ ?_, fun g4 => fin a a ?_ ?_⟩, fun g3 => fin a b ?_ ?_⟩⟩, fun g1 => ⟨fun g3 => ⟨by omega, fun g4 => fin b k ?_ ?_, fun g4 => fin b a ?_ ?_⟩, fun g3 => fin b b ?_ ?_⟩⟩⟩ <;> (unfold sw; (repeat' split) <;> omega)
    · refine mjl_188_68 ?_
      rw [show ((t : Int)).toNat = t from rfl, hr]
      exact ⟨by omega, by omega, by omega, by omega, fun _ => hL, fun h => by omega⟩
  · refine mjl_188_54 ?_
    rw [show ((t : Int)).toNat = t from rfl, hr]
    exact ⟨by omega, by omega, by omega, by omega, fun _ => hq, fun h => by omega⟩
theorem fm_dropL {w : Nat} {q : Int → mjZ → Prop} (ht : t < 60) (h1 : 1 ≤ n) (h6 : n + 1 ≤ 6) (hw : w < n + 1) (hq : mjW1 (d + 1) 177 [yR 11 464, yI (n : Int)] (mjRow Z 471 (rF n (fun i k => Z 470 (36 * t + 6 * sk w i + sk w k)) (Z 471))) (fun v5 Z5 => mjW1 (d + 1) 178 [yR 11 464, yI (n : Int), yI v5] Z5 (fun v6 Z6 => q v6 Z6))) : mjL_193_67 (d + 1) (t : Int) (w : Int) (n : Int) 0 Z q := by
  have hsk : ∀ i, i < n → sk w i < n + 1 := fun i hi => by unfold sk; split <;> omega
  refine lp_row (A := 471) (n := n) (f := fun i g => fo (fun k g => va_up g (6 * i + k) (Z 470 (36 * t + 6 * sk w i + sk w k))) n g) (L := fun i Z => mjL_193_67 (d + 1) (t : Int) (w : Int) (n : Int) i Z q) (fun i g hi hL => ?_) ?_
  · refine mjl_193_67 ⟨by omega, by omega, fun h => by omega, fun _ => ?_⟩
    refine lp_fold0 (n := n) (f := fun k g => va_up g (6 * i + k) (Z 470 (36 * t + 6 * sk w i + sk w k))) (L := fun k g => mjL_193_76 (d + 1) (t : Int) (w : Int) (n : Int) i k (mjRow Z 471 g) q) (a := g) (fun k g hk hL2 => ?_) ?_
    · have s1 := hsk i hi
      have s2 := hsk k hk
      have e0 : mjRow Z 471 g 470 = Z 470 := mjRow_ne (by decide)
      have fin : ∀ u v : Nat, u = sk w i → v = sk w k → mjW1 (d + 1) 186 [yR 11 464, yI (t : Int), yI (u : Int), yI (v : Int)] (mjRow Z 471 g) (fun v8 Z8 => 0 ≤ ((6 * (i : Int)) + (k : Int)) ∧ (((6 * (i : Int)) + (k : Int)) < 36 ∧ (mjL_193_76 (d + 1) (t : Int) (w : Int) (n : Int) i (k + 1) (mjUp Z8 471 ((6 * (i : Int)) + (k : Int)).toNat v8) q))) := fun u v hu hv => by
        subst hu hv
        refine fm_number (d := d) ht (by omega) (by omega) ⟨by omega, by omega, ?_⟩
        rw [show ((6 * (i : Int)) + (k : Int)).toNat = 6 * i + k by omega, mjRow_up, e0]
        exact hL2
      refine mjl_193_76 ⟨by omega, by omega, fun h => by omega, fun _ => ⟨by omega, by omega, fun g1 => ⟨fun g2 => fin (i + 1) (k + 1) ?_ ?_, fun g2 => fin (i + 1) k ?_ ?_⟩, fun g1 => ⟨fun g2 => fin i (k + 1) ?_ ?_, fun g2 => fin i k ?_ ?_⟩⟩⟩ <;> (unfold sk; split <;> omega)
    · exact mjl_193_76 ⟨by omega, by omega, fun _ => hL, fun h => by omega⟩
  · exact mjl_193_67 ⟨by omega, by omega, fun _ => hq, fun h => by omega⟩
end MT
theorem rF_T {n : Nat} {x : Nat → Nat → Int} {g : Nat → Int} {i k : Nat} (h6 : n ≤ 6) (hi : i < n) (hk : k < n) : rF n x g (6 * i + k) = x i k := by
  rw [rF_val h6, if_pos (by omega), show (6 * i + k) / 6 = i by omega, show (6 * i + k) % 6 = k by omega]
/-- the draft is kept, and the reference's comes: alike -/
theorem mk_fin {Z : mjZ} {m n mm : Nat} {as : List mjY} {G H : Nat → Int} (hI : INV Z) (hm : Z 0 2 = (m : Int)) (h60 : m < 60) (h1 : 1 ≤ n) (h6 : n ≤ 6) (hb : ∀ i k, i < n → k < n → -100 ≤ G (6 * i + k) ∧ G (6 * i + k) ≤ 100) (hs : ∀ i k, i < n → k < n → G (6 * i + k) = G (6 * k + i)) (hh : ∀ i k, i < n → k < n → H (6 * i + k) = G (6 * i + k)) (hz : ∀ j, j < 36 → ¬ (j / 6 < n ∧ j % 6 < n) → H j = 0)
    (hM : ∀ (x : Int) (Q : Int → mjZ → Prop), mjW1 9 177 [yR 11 464, yI (n : Int)] (mjRow (kpC m x (drW m n G Z)) 471 H) (fun v5 Z5 => mjW1 9 178 [yR 11 464, yI (n : Int), yI v5] Z5 (fun v6 Z6 => Q v6 Z6)) → mjW1 10 mm as (kpC m x (drW m n G Z)) Q) :
    mjW1 9 41 [yR 10 0, yR 6 (35 + 2 * m)] (drW m n G Z) (fun v Z1 => mjW1 10 mm as Z1 (fun z' Z2 => Int32.ofInt z' = Int32.ofInt v ∧ INV Z2)) := by
  have eT : tE (drW m n G Z) (35 + 2 * m) = fun i k => G (6 * i + k) := by
    funext i k
    exact drW_t
  obtain ⟨m', c1, c2, c3, c4⟩ := id hI.2.1
  have hmm : m' = m := by omega
  refine fc_keep (d := 2) (by rw [drW_ne (by omega) (by omega)]; exact hm) (drW_n h1 h6) (fun i k hi hk => by rw [drW_t]; have := hb i k hi hk; omega) (by rw [eT]; exact hs) fun x hx => hM x _ ?_
  rw [eT] at hx
  have z3 : mjRow (kpC m x (drW m n G Z)) 471 H 464 3 = (m : Int) := by rw [mjRow_ne (by decide), kpC_ne (by decide) (by omega), drW_ne (by omega) (by omega), c3, hmm]
  refine fm_kindOf (d := 8) (T := fun i k => G (6 * i + k)) h1 h6 (fun i k hi hk => ?_) fun y hy => ?_
  · rw [mjRow_at]
    have := hb i k hi hk
    exact ⟨hh i k hi hk, by omega, by omega⟩
  · have hyx := hy.uniq hx
    subst hyx
    exact fm_come (d := 8) (n := n) (x := y) z3 h60 ⟨rfl, INV_made hI hm h60 h1 h6 hb hs hh hz (Or.inl hy)⟩
theorem iv_turn_ok : iv_turn INV := fun Z x1 x2 x3 hI => by
  obtain ⟨m, a1, a2, a3, a4⟩ := id hI.2.1
  have hx := i32r x1
  have hx2 := i32r x2
  have hx3 := i32r x3
  refine mje_54 (d := 9) (fc_tableAt (d := 8) a2 a1 hx (fun h => ?_) fun t ht htm => ?_)
  · refine mje_188 (d := 9) (fm_isTable (d := 7) a3 a1 hx ?_)
    rw [if_neg h]
    exact ⟨by omega, fun g => absurd rfl g, fun _ => ⟨rfl, hI⟩⟩
  · obtain ⟨n, b1, b2, b3, b4, b5, -⟩ := a4 t htm
    have hn6 := b1.2.2
    have hn1 := b1.2.1
    have b10 := b1.1
    have ent : ∀ (Z1 : mjZ) (q : Int → mjZ → Prop), Z1 464 3 = (m : Int) → q 1 Z1 → mjW1 9 181 [yR 11 464, yI (t : Int)] Z1 q := fun Z1 q g h => fm_isTable (d := 7) (m := m) g a1 (by omega) (by rw [if_pos (by omega)]; exact h)
    rw [ht]
    refine fc_isFull (d := 8) a2 a1 ?_
    by_cases hm : m = 60
    · rw [if_pos hm]
      refine ⟨by omega, fun g => by omega, fun _ => mje_188 (d := 9) (ent _ _ a3 ⟨by omega, fun _ => ⟨by omega, fun g => by omega, fun _ => ⟨rfl, hI⟩⟩, fun g => by omega⟩)⟩
    · rw [if_neg hm]
      have pl : ∀ (Z1 : mjZ) (x : Int32) (q : Int → mjZ → Prop), Z1 469 t = (n : Int) → q (if 0 ≤ x.toInt ∧ x.toInt < n then 1 else 0) Z1 → mjW1 9 185 [yR 11 464, yI (t : Int), yI x.toInt] Z1 q := fun Z1 x q g h => fm_isPlace (d := 7) (by omega) g hn6 (i32r x) h
      have e9 : fdC 2 Z 469 t = (n : Int) := by rw [fdC_ne (by decide) (by decide)]; exact b2
      have e3 : fdC 2 Z 464 3 = (m : Int) := by rw [fdC_ne (by decide) (by decide)]; exact a3
      refine ⟨by omega, fun _ => tb_has (d := 8) b1 hx2 ?_, fun g => absurd rfl g⟩
      by_cases h2 : 0 ≤ x2.toInt ∧ x2.toInt < n
      · rw [if_pos h2]
        have pl2 := fun Z1 q (g : Z1 469 t = (n : Int)) h => pl Z1 x2 q g (by rw [if_pos h2]; exact h)
        refine ⟨by omega, fun g => by omega, fun _ => tb_has (d := 8) b1 hx3 ?_⟩
        by_cases h3 : 0 ≤ x3.toInt ∧ x3.toInt < n
        · rw [if_pos h3]
          refine ⟨by omega, fun _ => ?_, fun g => by omega⟩
          have pl3 := fun Z1 q (g : Z1 469 t = (n : Int)) h => pl Z1 x3 q g (by rw [if_pos h3]; exact h)
          obtain ⟨a, ha⟩ := Int.eq_ofNat_of_zero_le h2.1
          obtain ⟨b, hb⟩ := Int.eq_ofNat_of_zero_le h3.1
          rw [ha] at pl2 h2 ⊢
          rw [hb] at pl3 h3 ⊢
          rw [b10]
          have hsw : ∀ i, i < n → sw a b i < n := fun i hi => by unfold sw; split <;> (try split) <;> omega
          have eD : ∀ c, c ≠ 35 + 2 * m → c ≠ 35 + 2 * m + 1 → drC m n Z c = Z c := fun c g1 g2 => drC_ne g1 g2
          refine fc_draft (d := 6) a2 (by omega) hn1 hn6 ?_
          refine tb_turned (d := 6) (drC_n hn1 hn6) (by unfold tN; rw [eD _ (by omega) (by omega)]; exact b1) (by omega) (by omega) (by omega) ?_
          rw [drC_row]
          have hG : ∀ i k, i < n → k < n → rF n (fun i k => tE (drC m n Z) (35 + 2 * t) (sw a b i) (sw a b k)) (drC m n Z (35 + 2 * m + 1)) (6 * i + k) = tE Z (35 + 2 * t) (sw a b i) (sw a b k) := fun i k hi hk => by
            rw [rF_T hn6 hi hk]
            exact congrFun (eD _ (by omega) (by omega)) _
          generalize rF n (fun i k => tE (drC m n Z) (35 + 2 * t) (sw a b i) (sw a b k)) (drC m n Z (35 + 2 * m + 1)) = G at *
          refine mk_fin (H := rF n (fun i k => Z 470 (36 * t + 6 * sw a b i + sw a b k)) (zRow (Z 471))) hI a2 (by omega) hn1 hn6 (fun i k hi hk => ?_) (fun i k hi hk => ?_) (fun i k hi hk => ?_) (fun j hj hn => ?_) fun x Q hQ => ?_
          · rw [hG i k hi hk]; exact (b4 _ _ (hsw i hi) (hsw k hk)).2
          · rw [hG i k hi hk, hG k i hk hi]; exact b5 _ _ (hsw i hi) (hsw k hk)
          · rw [hG i k hi hk, rF_T hn6 hi hk, (b4 _ _ (hsw i hi) (hsw k hk)).1]
          · rw [rF_val hn6, if_neg hn, zRow_val, if_pos hj]
          · have ek : ∀ c, c ≠ 0 → c ≠ 35 + 2 * m → c ≠ 35 + 2 * m + 1 → kpC m x (drW m n G Z) c = Z c := fun c g0 g1 g2 => by rw [kpC_ne g0 g1, drW_ne g1 g2]
            have k3 : kpC m x (drW m n G Z) 464 3 = (m : Int) := by rw [ek _ (by decide) (by omega) (by omega)]; exact a3
            have k9 : kpC m x (drW m n G Z) 469 t = (n : Int) := by rw [ek _ (by decide) (by omega) (by omega)]; exact b2
            refine mje_188 (d := 9) (ent _ _ k3 ⟨by omega, fun _ => ⟨by omega, fun _ => ?_, fun g => by omega⟩, fun g => by omega⟩)
            refine pl2 _ _ k9 ⟨by omega, fun g => by omega, fun _ => pl3 _ _ k9 ⟨by omega, fun _ => ?_, fun g => by omega⟩⟩
            refine fm_emptyMade (d := 8) ?_
            refine fm_turnL (d := 8) (by omega) (by rw [mjRow_ne (by decide)]; exact k9) hn1 hn6 (by omega) (by omega) ?_
            have u0 : mjRow (kpC m x (drW m n G Z)) 471 (zRow (kpC m x (drW m n G Z) 471)) 470 = Z 470 := by rw [mjRow_ne (by decide), ek _ (by decide) (by omega) (by omega)]
            have u1 : mjRow (kpC m x (drW m n G Z)) 471 (zRow (kpC m x (drW m n G Z) 471)) 471 = zRow (Z 471) := by rw [mjRow_at, ek _ (by decide) (by omega) (by omega)]
            rw [u0, u1, mjRow_row]
            exact hQ
        · rw [if_neg h3]
          have pl3 := fun Z1 q (g : Z1 469 t = (n : Int)) h => pl Z1 x3 q g (by rw [if_neg h3]; exact h)
          exact ⟨by omega, fun g => absurd rfl g, fun _ => fc_found (d := 8) (f := 2) (by omega) (mje_188 (d := 9) (ent _ _ e3 ⟨by omega, fun _ => ⟨by omega, fun _ => pl2 _ _ e9 ⟨by omega, fun g => by omega, fun _ => pl3 _ _ e9 ⟨by omega, fun g => absurd rfl g, fun _ => fm_finds (d := 8) (f := 2) (by omega) ⟨rfl, INV_fd (by omega) hI⟩⟩⟩, fun g => by omega⟩, fun g => by omega⟩))⟩
      · rw [if_neg h2]
        have pl2 := fun Z1 q (g : Z1 469 t = (n : Int)) h => pl Z1 x2 q g (by rw [if_neg h2]; exact h)
        exact ⟨by omega, fun _ => fc_found (d := 8) (f := 2) (by omega) (mje_188 (d := 9) (ent _ _ e3 ⟨by omega, fun _ => ⟨by omega, fun _ => pl2 _ _ e9 ⟨by omega, fun _ => fm_finds (d := 8) (f := 2) (by omega) ⟨rfl, INV_fd (by omega) hI⟩, fun g => absurd rfl g⟩, fun g => by omega⟩, fun g => by omega⟩)), fun g => absurd rfl g⟩
theorem iv_drop_ok : iv_drop INV := fun Z x1 x2 hI => by
  obtain ⟨m, a1, a2, a3, a4⟩ := id hI.2.1
  have hx := i32r x1
  have hx2 := i32r x2
  refine mje_62 (d := 9) (fc_tableAt (d := 8) a2 a1 hx (fun h => ?_) fun t ht htm => ?_)
  · refine mje_193 (d := 9) (fm_isTable (d := 7) a3 a1 hx ?_)
    rw [if_neg h]
    exact ⟨by omega, fun g => absurd rfl g, fun _ => ⟨rfl, hI⟩⟩
  · obtain ⟨n, b1, b2, b3, b4, b5, -⟩ := a4 t htm
    have hn6 := b1.2.2
    have hn1 := b1.2.1
    have b10 := b1.1
    have e0 : ((t : Int)).toNat = t := rfl
    have ent : ∀ (Z1 : mjZ) (q : Int → mjZ → Prop), Z1 464 3 = (m : Int) → q 1 Z1 → mjW1 9 181 [yR 11 464, yI (t : Int)] Z1 q := fun Z1 q g h => fm_isTable (d := 7) (m := m) g a1 (by omega) (by rw [if_pos (by omega)]; exact h)
    rw [ht]
    refine ⟨by omega, fun g1 => fc_isFull (d := 8) a2 a1 ?_, fun g1 => mje_193 (d := 9) (ent _ _ a3 ⟨by omega, fun _ => ⟨by omega, by omega, by rw [e0]; omega, fun g => by rw [e0] at g; omega, fun _ => ⟨rfl, hI⟩⟩, fun g => by omega⟩)⟩
    have go : ∀ (Z1 : mjZ) (q : Int → mjZ → Prop), Z1 464 3 = (m : Int) → Z1 469 t = (n : Int) → (m = 60 → q (-104) Z1) → (m ≠ 60 → mjW1 9 185 [yR 11 464, yI (t : Int), yI x2.toInt] Z1 (fun v7 Z7 => (-2147483648 ≤ v7 ∧ v7 < 2147483648) ∧ ((v7 ≠ 0 → (mjW0 9 174 [yR 11 464] Z7 (fun Z9 => mjL_193_67 9 (t : Int) x2.toInt ((Z9 469 t) - 1) 0 Z9 q))) ∧ (¬(v7 ≠ 0) → (mjW1 9 170 [yR 11 464, yI 2] Z7 (fun v10 Z10 => q v10 Z10)))))) → mjW1 10 193 [yR 11 464, yI (t : Int), yI x2.toInt] Z1 q := fun Z1 q g3 g9 h1 h2 => by
      refine mje_193 (d := 9) (ent _ _ g3 ⟨by omega, fun _ => ⟨by omega, by omega, by rw [e0]; omega, fun _ => ⟨by omega, fun g => h2 (by omega), fun g => h1 (by omega)⟩, fun g => by rw [e0] at g; omega⟩, fun g => by omega⟩)
    by_cases hm : m = 60
    · rw [if_pos hm]
      exact ⟨by omega, fun g => by omega, fun _ => go _ _ a3 b2 (fun _ => ⟨rfl, hI⟩) (fun g => absurd hm g)⟩
    · rw [if_neg hm]
      have e9 : fdC 2 Z 469 t = (n : Int) := by rw [fdC_ne (by decide) (by decide)]; exact b2
      have e3 : fdC 2 Z 464 3 = (m : Int) := by rw [fdC_ne (by decide) (by decide)]; exact a3
      refine ⟨by omega, fun _ => tb_has (d := 8) b1 hx2 ?_, fun g => absurd rfl g⟩
      by_cases h2 : 0 ≤ x2.toInt ∧ x2.toInt < n
      · rw [if_pos h2]
        refine ⟨by omega, fun _ => ?_, fun g => by omega⟩
        obtain ⟨w, hw⟩ := Int.eq_ofNat_of_zero_le h2.1
        obtain ⟨p, hp⟩ : ∃ p, n = p + 1 := ⟨n - 1, by omega⟩
        have hp1 : 1 ≤ p := by omega
        rw [hw] at go h2 ⊢
        have hsk : ∀ i, i < p → sk w i < n := fun i hi => by unfold sk; split <;> omega
        have eD : ∀ c, c ≠ 35 + 2 * m → c ≠ 35 + 2 * m + 1 → drC m p Z c = Z c := fun c g1 g2 => drC_ne g1 g2
        rw [b10, show (n : Int) - 1 = (p : Int) by omega]
        refine fc_draft (d := 6) a2 (by omega) hp1 (by omega) ?_
        refine tb_without (d := 6) (drC_n hp1 (by omega)) (by unfold tN; rw [eD _ (by omega) (by omega), ← hp]; exact b1) (by omega) (by omega) ?_
        rw [drC_row]
        have hG : ∀ i k, i < p → k < p → rF p (fun i k => tE (drC m p Z) (35 + 2 * t) (sk w i) (sk w k)) (drC m p Z (35 + 2 * m + 1)) (6 * i + k) = tE Z (35 + 2 * t) (sk w i) (sk w k) := fun i k hi hk => by
          rw [rF_T (by omega) hi hk]
          exact congrFun (eD _ (by omega) (by omega)) _
        generalize rF p (fun i k => tE (drC m p Z) (35 + 2 * t) (sk w i) (sk w k)) (drC m p Z (35 + 2 * m + 1)) = G at *
        refine mk_fin (H := rF p (fun i k => Z 470 (36 * t + 6 * sk w i + sk w k)) (zRow (Z 471))) hI a2 (by omega) hp1 (by omega) (fun i k hi hk => ?_) (fun i k hi hk => ?_) (fun i k hi hk => ?_) (fun j hj hn => ?_) fun x Q hQ => ?_
        · rw [hG i k hi hk]; exact (b4 _ _ (hsk i hi) (hsk k hk)).2
        · rw [hG i k hi hk, hG k i hk hi]; exact b5 _ _ (hsk i hi) (hsk k hk)
        · rw [hG i k hi hk, rF_T (by omega) hi hk, (b4 _ _ (hsk i hi) (hsk k hk)).1]
        · rw [rF_val (by omega), if_neg hn, zRow_val, if_pos hj]
        · have ek : ∀ c, c ≠ 0 → c ≠ 35 + 2 * m → c ≠ 35 + 2 * m + 1 → kpC m x (drW m p G Z) c = Z c := fun c g0 g1 g2 => by rw [kpC_ne g0 g1, drW_ne g1 g2]
          have k3 : kpC m x (drW m p G Z) 464 3 = (m : Int) := by rw [ek _ (by decide) (by omega) (by omega)]; exact a3
          have k9 : kpC m x (drW m p G Z) 469 t = (n : Int) := by rw [ek _ (by decide) (by omega) (by omega)]; exact b2
          refine go _ _ k3 k9 (fun g => absurd g hm) (fun _ => fm_isPlace (d := 7) (by omega) k9 hn6 (by omega) ?_)
          rw [if_pos (by omega)]
          refine ⟨by omega, fun _ => fm_emptyMade (d := 8) ?_, fun g => by omega⟩
          have u9 : mjRow (kpC m x (drW m p G Z)) 471 (zRow (kpC m x (drW m p G Z) 471)) 469 t - 1 = (p : Int) := by rw [mjRow_ne (by decide), k9]; omega
          rw [u9]
          refine fm_dropL (d := 8) (by omega) hp1 (by omega) (by omega) ?_
          have u0 : mjRow (kpC m x (drW m p G Z)) 471 (zRow (kpC m x (drW m p G Z) 471)) 470 = Z 470 := by rw [mjRow_ne (by decide), ek _ (by decide) (by omega) (by omega)]
          have u1 : mjRow (kpC m x (drW m p G Z)) 471 (zRow (kpC m x (drW m p G Z) 471)) 471 = zRow (Z 471) := by rw [mjRow_at, ek _ (by decide) (by omega) (by omega)]
          rw [u0, u1, mjRow_row]
          exact hQ
      · rw [if_neg h2]
        refine ⟨by omega, fun g => absurd rfl g, fun _ => fc_found (d := 8) (f := 2) (by omega) (go _ _ e3 e9 (fun g => absurd g hm) (fun _ => fm_isPlace (d := 7) (by omega) e9 hn6 hx2 ?_))⟩
        rw [if_neg h2]
        exact ⟨by omega, fun g => absurd rfl g, fun _ => fm_finds (d := 8) (f := 2) (by omega) ⟨rfl, INV_fd (by omega) hI⟩⟩
