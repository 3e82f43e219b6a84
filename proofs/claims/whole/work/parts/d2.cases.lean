/-! Cases: line. -/
section LN
variable {d n m t c e : Nat} {Z : mjZ}
theorem tb_deep {q : Int → mjZ → Prop} (hn : tN Z c n) (hb : ∀ i k, i < n → k < n → -100 ≤ tE Z c i k ∧ tE Z c i k ≤ 100) (hq : ∀ x, 0 ≤ x → x ≤ 100 → (x = 0 ↔ ∀ i, i < n → tE Z c i i = 0) → q x Z) : mjW1 (d + 4) 67 [yR 6 c] Z q := by
  obtain ⟨h0, h1, h2⟩ := id hn
  refine mje_67 (d := d + 2) ?_
  refine lp_inv (n := n) (a := (0 : Int)) (L := fun i x => mjL_67_4 (d + 3) c x i Z q) (Y := fun i x => 0 ≤ x ∧ x ≤ 100 ∧ (x = 0 ↔ ∀ j, j < i → tE Z c j j = 0)) (fun i x hi hy hL => ?_) (fun x hy => ?_) ⟨by omega, by omega, fun _ j hj => by omega, fun _ => rfl⟩
  · obtain ⟨y1, y2, y3⟩ := hy
    refine mjl_67_4 ⟨by omega, by omega, fun h => by omega, fun _ => tb_number (d := d + 1) hn hi hi ?_⟩
    have hbi := hb i i hi hi
    have ha : 0 ≤ (if 0 ≤ tE Z c i i then tE Z c i i else 0 - tE Z c i i) ∧ (if 0 ≤ tE Z c i i then tE Z c i i else 0 - tE Z c i i) ≤ 100 ∧ ((if 0 ≤ tE Z c i i then tE Z c i i else 0 - tE Z c i i) = 0 ↔ tE Z c i i = 0) := by split <;> omega
    generalize (if 0 ≤ tE Z c i i then tE Z c i i else 0 - tE Z c i i) = w at ha ⊢
    refine ⟨by omega, by omega, by omega, hL _ ⟨by split <;> omega, by split <;> omega, fun g j hj => ?_, fun g => ?_⟩⟩
    · rcases Nat.lt_or_ge j i with k | k
      · refine y3.mp ?_ j k
        split at g <;> omega
      · have : j = i := by omega
        subst this
        refine ha.2.2.mp ?_
        split at g <;> omega
    · have g1 := y3.mpr fun j hj => g j (by omega)
      have g2 := ha.2.2.mpr (g i (by omega))
      rw [g1, g2]
      rfl
  · exact mjl_67_4 ⟨by omega, by omega, fun _ => hq x hy.1 hy.2.1 hy.2.2, fun h => by omega⟩
theorem tb_empty {q : Int → mjZ → Prop} (hn : tN Z c n) (hb : ∀ i k, i < n → k < n → -100 ≤ tE Z c i k ∧ tE Z c i k ≤ 100) (hs : tSym n (tE Z c)) (h1 : (∀ i k, i < n → k < n → tE Z c i k = 0) → q 1 Z) (h0 : ¬ (∀ i k, i < n → k < n → tE Z c i k = 0) → q 0 Z) : mjW1 (d + 6) 66 [yR 6 c] Z q := by
  refine mje_66 (d := d + 5) (tb_reach (d := d) hn (fun i k hi hk => by have := hb i k hi hk; omega) fun x hx => ?_)
  obtain ⟨x1, x2, x3, x4⟩ := hx
  refine ⟨by omega, fun g => h0 fun k => ?_, fun g => tb_deep (d := d + 1) hn hb fun y y1 y2 y3 => ⟨by omega, fun k => h0 fun l => ?_, fun k => h1 fun a b ha hb2 => ?_⟩⟩
  · rcases x4 with x4 | ⟨a, b, r1, r2, r3, r4⟩
    · exact g x4
    · exact r3 (k a b r2 (by omega))
  · exact k (y3.mpr fun i hi => l i i hi hi)
  · rcases Nat.lt_trichotomy a b with r | r | r
    · rw [hs a b ha hb2]
      refine Classical.byContradiction fun l => ?_
      have := x3 b a hb2 r l
      omega
    · subst r
      exact (y3.mp (Classical.not_not.mp k)) a ha
    · refine Classical.byContradiction fun l => ?_
      have := x3 a b ha r l
      omega
theorem fm_isZero {q : Int → mjZ → Prop} (ht : t < 60) (hb : ∀ j, j < 36 → -100 ≤ Z 470 (36 * t + j) ∧ Z 470 (36 * t + j) ≤ 100) (h1 : (∀ j, j < 36 → Z 470 (36 * t + j) = 0) → q 1 Z) (h0 : ¬ (∀ j, j < 36 → Z 470 (36 * t + j) = 0) → q 0 Z) : mjW1 (d + 1) 196 [yR 11 464, yI (t : Int)] Z q := by
  refine mje_196 ?_
  refine lp_inv (n := 36) (a := (1 : Nat)) (L := fun i a => mjL_196_4 d t a i Z q) (Y := fun i a => (a = 1 ∧ ∀ j, j < i → Z 470 (36 * t + j) = 0) ∨ (a = 0 ∧ ¬ ∀ j, j < 36 → Z 470 (36 * t + j) = 0)) (fun i a hi hy hL => ?_) (fun a hy => ?_) (Or.inl ⟨rfl, fun j hj => by omega⟩)
  · have hbi := hb i hi
    refine mjl_196_4 ⟨by omega, fun g => by omega, fun _ => ?_⟩
    rcases hy with ⟨y1, y2⟩ | ⟨y1, y2⟩
    · subst y1
      refine ⟨by omega, fun g => by omega, fun _ => ⟨by omega, by omega, ?_⟩⟩
      rw [show ((36 * (t : Int)) + (i : Int)).toNat = 36 * t + i by omega]
      refine ⟨by omega, fun g => hL 0 (Or.inr ⟨rfl, fun k => g (k i hi)⟩), fun g => hL 1 (Or.inl ⟨rfl, fun j hj => ?_⟩)⟩
      rcases Nat.lt_or_ge j i with k | k
      · exact y2 j k
      · rw [show j = i by omega]; exact Classical.not_not.mp g
    · subst y1
      exact ⟨by omega, fun _ => hL 0 (Or.inr ⟨rfl, y2⟩), fun g => by omega⟩
  · rcases hy with ⟨y1, y2⟩ | ⟨y1, y2⟩
    · subst y1
      exact mjl_196_4 ⟨by omega, fun _ => ⟨by omega, h1 y2⟩, fun g => by omega⟩
    · subst y1
      exact mjl_196_4 ⟨by omega, fun _ => ⟨by omega, h0 y2⟩, fun g => by omega⟩
end LN
/-- one line more, or one less -/
def lnR (a b : Nat) (v : Int) (g : Nat → Int) : Nat → Int := va_up (va_up g (6 * a + b) v) (6 * b + a) v
theorem lnR_val {a b i k : Nat} {v : Int} {g : Nat → Int} (ha : a < 6) (hb : b < 6) (hi : i < 6) (hk : k < 6) : lnR a b v g (6 * i + k) = if (i = a ∧ k = b) ∨ (i = b ∧ k = a) then v else g (6 * i + k) := by
  show (if 6 * i + k = 6 * b + a then v else if 6 * i + k = 6 * a + b then v else g (6 * i + k)) = _
  by_cases h1 : i = b ∧ k = a
  · rw [if_pos (by omega), if_pos (Or.inr h1)]
  · rw [if_neg (by omega)]
    by_cases h2 : i = a ∧ k = b
    · rw [if_pos (by omega), if_pos (Or.inl h2)]
    · rw [if_neg (by omega), if_neg (by omega)]
theorem lnR_out {a b n j : Nat} {v : Int} {g : Nat → Int} (ha : a < n) (hb : b < n) (h6 : n ≤ 6) (hj : ¬ (j / 6 < n ∧ j % 6 < n)) : lnR a b v g j = g j := by
  show (if j = 6 * b + a then v else if j = 6 * a + b then v else g j) = _
  rw [if_neg (by omega), if_neg (by omega)]
theorem iv_line_ok : iv_line INV := fun Z x1 x2 x3 hI => by
  obtain ⟨m, a1, a2, a3, a4⟩ := id hI.2.1
  have hx := i32r x1
  have hx2 := i32r x2
  have hx3 := i32r x3
  refine mje_65 (d := 9) (fc_tableAt (d := 8) a2 a1 hx (fun h => ?_) fun t ht htm => ?_)
  · refine mje_195 (d := 9) (fm_isTable (d := 7) a3 a1 hx ?_)
    rw [if_neg h]
    exact ⟨by omega, fun g => absurd rfl g, fun _ => ⟨rfl, hI⟩⟩
  · obtain ⟨n, b1, b2, b3, b4, b5, b6, b7⟩ := a4 t htm
    have hn6 := b1.2.2
    have hn1 := b1.2.1
    have b10 := b1.1
    have hk4 : 0 ≤ Z (35 + 2 * t) 1 ∧ Z (35 + 2 * t) 1 ≤ 4 := by
      rcases b7 with (⟨g, -⟩ | ⟨g, -⟩ | ⟨g, -⟩ | ⟨g, -⟩) | ⟨g, -⟩ <;> omega
    have e0 : ((t : Int)).toNat = t := rfl
    have h01 : Z (35 + 2 * t) 1 = 3 ∨ (∀ i k, i < n → k < n → tE Z (35 + 2 * t) i k = 0) → ∀ i k, i < n → k < n → 0 ≤ tE Z (35 + 2 * t) i k ∧ tE Z (35 + 2 * t) i k ≤ 1 := fun h i k hi hk => by
      rcases h with h | h
      · have hL : tLines n (tE Z (35 + 2 * t)) := by
          rcases b7 with (⟨g, -⟩ | ⟨g, g1, g2⟩ | ⟨g, -⟩ | ⟨g, -⟩) | ⟨g, -⟩
          · omega
          · exact g2
          · omega
          · omega
          · omega
        rcases hL i k hi hk with g | ⟨g, -⟩ <;> omega
      · have := h i k hi hk
        omega
    have hzz : (∀ j, j < 36 → Z 470 (36 * t + j) = 0) ↔ (∀ i k, i < n → k < n → tE Z (35 + 2 * t) i k = 0) := by
      constructor
      · intro h i k hi hk
        rw [(b4 i k hi hk).1, Nat.add_assoc]
        exact h _ (by omega)
      · intro h j hj
        by_cases g : j / 6 < n ∧ j % 6 < n
        · have := h _ _ g.1 g.2
          rw [(b4 _ _ g.1 g.2).1, show 36 * t + 6 * (j / 6) + j % 6 = 36 * t + j by omega] at this
          exact this
        · exact b6 j hj g
    have hb470 : ∀ j, j < 36 → -100 ≤ Z 470 (36 * t + j) ∧ Z 470 (36 * t + j) ≤ 100 := fun j hj => by
      by_cases g : j / 6 < n ∧ j % 6 < n
      · have := b4 _ _ g.1 g.2
        rw [show 36 * t + 6 * (j / 6) + j % 6 = 36 * t + j by omega] at this
        omega
      · rw [b6 j hj g]; omega
    rw [ht]
    -- the reference up to its places
    have go : ∀ (Z1 : mjZ) (q : Int → mjZ → Prop), Z1 464 3 = (m : Int) → Z1 468 t = Z (35 + 2 * t) 1 → Z1 470 = Z 470 → (x2.toInt = x3.toInt → q (-102) Z1) → (x2.toInt ≠ x3.toInt → m = 60 → q (-104) Z1) → (x2.toInt ≠ x3.toInt → m ≠ 60 → ¬ (Z (35 + 2 * t) 1 = 3 ∨ (∀ i k, i < n → k < n → tE Z (35 + 2 * t) i k = 0)) → mjW1 9 170 [yR 11 464, yI 8] Z1 (fun v8 Z8 => q v8 Z8)) → (x2.toInt ≠ x3.toInt → m ≠ 60 → (Z (35 + 2 * t) 1 = 3 ∨ (∀ i k, i < n → k < n → tE Z (35 + 2 * t) i k = 0)) → mjW1 9 185 [yR 11 464, yI (t : Int), yI x2.toInt] Z1 (fun v9 Z9 => (-2147483648 ≤ v9 ∧ v9 < 2147483648) ∧ ((v9 = 0 → (mjW1 9 170 [yR 11 464, yI 2] Z9 (fun v11 Z11 => q v11 Z11))) ∧ (¬(v9 = 0) → (mjW1 9 185 [yR 11 464, yI (t : Int), yI x3.toInt] Z9 (fun v12 Z12 => (-2147483648 ≤ v12 ∧ v12 < 2147483648) ∧ ((v12 ≠ 0 → (mjW0 9 190 [yR 11 464, yI (t : Int)] Z12 (fun Z14 => 0 ≤ ((6 * x2.toInt) + x3.toInt) ∧ (((6 * x2.toInt) + x3.toInt) < 36 ∧ (0 ≤ ((6 * x3.toInt) + x2.toInt) ∧ (((6 * x3.toInt) + x2.toInt) < 36 ∧ (mjW1 9 177 [yR 11 464, yI ((mjUp (mjUp Z14 471 ((6 * x2.toInt) + x3.toInt).toNat (1 - (Z14 471 ((6 * x2.toInt) + x3.toInt).toNat))) 471 ((6 * x3.toInt) + x2.toInt).toNat ((mjUp Z14 471 ((6 * x2.toInt) + x3.toInt).toNat (1 - (Z14 471 ((6 * x2.toInt) + x3.toInt).toNat))) 471 ((6 * x2.toInt) + x3.toInt).toNat)) 469 ((t : Int)).toNat)] (mjUp (mjUp Z14 471 ((6 * x2.toInt) + x3.toInt).toNat (1 - (Z14 471 ((6 * x2.toInt) + x3.toInt).toNat))) 471 ((6 * x3.toInt) + x2.toInt).toNat ((mjUp Z14 471 ((6 * x2.toInt) + x3.toInt).toNat (1 - (Z14 471 ((6 * x2.toInt) + x3.toInt).toNat))) 471 ((6 * x2.toInt) + x3.toInt).toNat)) (fun v19 Z19 => mjW1 9 178 [yR 11 464, yI ((mjUp (mjUp Z14 471 ((6 * x2.toInt) + x3.toInt).toNat (1 - (Z14 471 ((6 * x2.toInt) + x3.toInt).toNat))) 471 ((6 * x3.toInt) + x2.toInt).toNat ((mjUp Z14 471 ((6 * x2.toInt) + x3.toInt).toNat (1 - (Z14 471 ((6 * x2.toInt) + x3.toInt).toNat))) 471 ((6 * x2.toInt) + x3.toInt).toNat)) 469 ((t : Int)).toNat), yI v19] Z19 (fun v20 Z20 => q v20 Z20))))))))) ∧ (¬(v12 ≠ 0) → (mjW1 9 170 [yR 11 464, yI 2] Z12 (fun v21 Z21 => q v21 Z21)))))))))) → mjW1 10 195 [yR 11 464, yI (t : Int), yI x2.toInt, yI x3.toInt] Z1 q := fun Z1 q g3 g8 g470 h1 h2 h3 h4 => by
      refine mje_195 (d := 9) (fm_isTable (d := 7) (m := m) g3 a1 (by omega) ?_)
      rw [if_pos (by omega)]
      refine ⟨by omega, fun _ => ⟨hx2, hx3, fun hne => ⟨by omega, fun k => ⟨by omega, by omega, ?_⟩, fun k => h2 hne (by omega)⟩, fun heq => h1 (Classical.not_not.mp heq)⟩, fun g => by omega⟩
      rw [show (Z1 468 ((t : Int)).toNat) = Z (35 + 2 * t) 1 from g8]
      refine ⟨by omega, fun r => h4 hne (by omega) (Or.inl r), fun r => fm_isZero (d := 8) (by omega) (fun j hj => by rw [g470]; exact hb470 j hj) (fun z => ⟨by omega, fun _ => ?_, fun g => by omega⟩) (fun z => ⟨by omega, fun g => absurd rfl g, fun _ => h3 hne (by omega) (fun s => s.elim r fun s => z (by rw [g470]; exact hzz.mpr s))⟩)⟩
      rw [g470] at z
      exact h4 hne (by omega) (Or.inr (hzz.mp z))
    refine ⟨hx2, hx3, fun hne => fc_isFull (d := 8) a2 a1 ?_, fun heq => go _ _ a3 b3 rfl (fun _ => ⟨rfl, hI⟩) (fun g => absurd g heq) (fun g => absurd g heq) (fun g => absurd g heq)⟩
    by_cases hm : m = 60
    · rw [if_pos hm]
      exact ⟨by omega, fun g => by omega, fun _ => go _ _ a3 b3 rfl (fun g => absurd g hne) (fun _ _ => ⟨rfl, hI⟩) (fun _ g => absurd hm g) (fun _ g => absurd hm g)⟩
    · rw [if_neg hm]
      have e9 : fdC 2 Z 469 t = (n : Int) := by rw [fdC_ne (by decide) (by decide)]; exact b2
      have e3 : fdC 2 Z 464 3 = (m : Int) := by rw [fdC_ne (by decide) (by decide)]; exact a3
      have pl : ∀ (Z1 : mjZ) (x : Int32) (q : Int → mjZ → Prop), Z1 469 t = (n : Int) → q (if 0 ≤ x.toInt ∧ x.toInt < n then 1 else 0) Z1 → mjW1 9 185 [yR 11 464, yI (t : Int), yI x.toInt] Z1 q := fun Z1 x q g h => fm_isPlace (d := 7) (by omega) g hn6 (i32r x) h
      have go2 := fun Z1 q g3 g8 g470 (hK : Z (35 + 2 * t) 1 = 3 ∨ (∀ i k, i < n → k < n → tE Z (35 + 2 * t) i k = 0)) h => go Z1 q g3 g8 g470 (fun g => absurd g hne) (fun _ g => absurd g hm) (fun _ _ g => absurd hK g) (fun _ _ _ => h)
      have clR : (Z (35 + 2 * t) 1 = 3 ∨ (∀ i k, i < n → k < n → tE Z (35 + 2 * t) i k = 0)) → mjW1 9 38 [yR 6 (35 + 2 * t), yI x2.toInt] Z (fun v7 Z7 => (-2147483648 ≤ v7 ∧ v7 < 2147483648) ∧ ((v7 = 0 → (mjW1 9 15 [yR 10 0, yI 2] Z7 (fun v9 Z9 => mjW1 10 195 [yR 11 464, yI (t : Int), yI x2.toInt, yI x3.toInt] Z9 (fun z' Z2 => Int32.ofInt z' = Int32.ofInt v9 ∧ INV Z2)))) ∧ (¬(v7 = 0) → (mjW1 9 38 [yR 6 (35 + 2 * t), yI x3.toInt] Z7 (fun v10 Z10 => (-2147483648 ≤ v10 ∧ v10 < 2147483648) ∧ ((v10 ≠ 0 → (mjW3 6 9 26 [yR 10 0, yI (Z10 (35 + 2 * t) 0)] Z10 (fun v12 Z12 => mjW0 9 58 [yR 6 v12, yR 6 (35 + 2 * t), yI 0] Z12 (fun Z13 => mjW1 9 40 [yR 6 (35 + 2 * t), yI x2.toInt, yI x3.toInt] Z13 (fun v14 Z14 => mjW0 9 37 [yR 6 v12, yI x2.toInt, yI x3.toInt, yI (1 - v14)] Z14 (fun Z15 => mjW0 9 37 [yR 6 v12, yI x3.toInt, yI x2.toInt, yI (1 - v14)] Z15 (fun Z16 => mjW1 9 41 [yR 10 0, yR 6 v12] Z16 (fun v17 Z17 => mjW1 10 195 [yR 11 464, yI (t : Int), yI x2.toInt, yI x3.toInt] Z17 (fun z' Z2 => Int32.ofInt z' = Int32.ofInt v17 ∧ INV Z2))))))))) ∧ (¬(v10 ≠ 0) → (mjW1 9 15 [yR 10 0, yI 2] Z10 (fun v18 Z18 => mjW1 10 195 [yR 11 464, yI (t : Int), yI x2.toInt, yI x3.toInt] Z18 (fun z' Z2 => Int32.ofInt z' = Int32.ofInt v18 ∧ INV Z2)))))))))) := fun hK => by
        have hT := h01 hK
        refine tb_has (d := 8) b1 hx2 ?_
        by_cases h2 : 0 ≤ x2.toInt ∧ x2.toInt < n
        · rw [if_pos h2]
          have pl2 := fun Z1 q (g : Z1 469 t = (n : Int)) h => pl Z1 x2 q g (by rw [if_pos h2]; exact h)
          refine ⟨by omega, fun g => by omega, fun _ => tb_has (d := 8) b1 hx3 ?_⟩
          by_cases h3 : 0 ≤ x3.toInt ∧ x3.toInt < n
          · rw [if_pos h3]
            refine ⟨by omega, fun _ => ?_, fun g => by omega⟩
            have pl3 := fun Z1 q (g : Z1 469 t = (n : Int)) h => pl Z1 x3 q g (by rw [if_pos h3]; exact h)
            obtain ⟨a, ha⟩ := Int.eq_ofNat_of_zero_le h2.1
            obtain ⟨b, hb⟩ := Int.eq_ofNat_of_zero_le h3.1
            rw [ha] at pl2 go2 h2 hne ⊢
            rw [hb] at pl3 go2 h3 hne ⊢
            have han : a < n := by omega
            have hbn : b < n := by omega
            rw [b10]
            have eT : tE (drC m n Z) (35 + 2 * t) = tE Z (35 + 2 * t) := by
              funext i k
              exact congrFun (drC_ne (by omega) (by omega)) _
            have eT2 : ∀ G, tE (drW m n G Z) (35 + 2 * t) = tE Z (35 + 2 * t) := fun G => by
              funext i k
              exact congrFun (drW_ne (by omega) (by omega)) _
            have eUp : ∀ G j v, mjUp (drW m n G Z) (35 + 2 * m + 1) j v = drW m n (va_up G j v) Z := fun G j v => by
              unfold drW
              exact mjRow_up
            refine fc_draft (d := 6) a2 (by omega) hn1 hn6 ?_
            refine tb_lay (d := 6) (o := 0) (m := n) (drC_n hn1 hn6) (by unfold tN; rw [drC_ne (by omega) (by omega)]; exact b1) (by omega) (by omega) ?_
            rw [drC_row, eT]
            refine tb_number (d := 7) (by unfold tN; rw [drW_ne (by omega) (by omega)]; exact b1) han hbn ?_
            rw [eT2]
            refine tb_write (d := 7) (drW_n hn1 hn6) han hbn ?_
            rw [eUp]
            refine tb_write (d := 7) (drW_n hn1 hn6) hbn han ?_
            rw [eUp]
            have hG : ∀ i k, i < n → k < n → va_up (va_up (rL 0 n (tE Z (35 + 2 * t)) (drC m n Z (35 + 2 * m + 1))) (6 * a + b) (1 - tE Z (35 + 2 * t) a b)) (6 * b + a) (1 - tE Z (35 + 2 * t) a b) (6 * i + k) = if (i = a ∧ k = b) ∨ (i = b ∧ k = a) then 1 - tE Z (35 + 2 * t) a b else tE Z (35 + 2 * t) i k := fun i k hi hk => by
              rw [← rL_T (n := n) (x := tE Z (35 + 2 * t)) (g := drC m n Z (35 + 2 * m + 1)) hn6 hi hk]
              exact lnR_val (by omega) (by omega) (by omega) (by omega)
            generalize va_up (va_up (rL 0 n (tE Z (35 + 2 * t)) (drC m n Z (35 + 2 * m + 1))) (6 * a + b) (1 - tE Z (35 + 2 * t) a b)) (6 * b + a) (1 - tE Z (35 + 2 * t) a b) = G at *
            have hab := hT a b han hbn
            have hC : ∀ i k, i < n → k < n → cpRow t Z (6 * i + k) = tE Z (35 + 2 * t) i k := fun i k hi hk => by
              rw [cpRow_val (by omega), (b4 i k hi hk).1, Nat.add_assoc]
            refine mk_fin (H := lnR a b (1 - tE Z (35 + 2 * t) a b) (cpRow t Z)) hI a2 (by omega) hn1 hn6 (fun i k hi hk => ?_) (fun i k hi hk => ?_) (fun i k hi hk => ?_) (fun j hj hn => ?_) fun x Q hQ => ?_
            · rw [hG i k hi hk]
              have := (b4 i k hi hk).2
              split <;> omega
            · rw [hG i k hi hk, hG k i hk hi]
              by_cases h : (i = a ∧ k = b) ∨ (i = b ∧ k = a)
              · rw [if_pos h, if_pos (by omega)]
              · rw [if_neg h, if_neg (by omega)]
                exact b5 i k hi hk
            · rw [hG i k hi hk, lnR_val (by omega) (by omega) (by omega) (by omega), hC i k hi hk]
            · rw [lnR_out han hbn hn6 hn, cpRow_val hj]
              exact b6 j hj hn
            · have ek : ∀ c, c ≠ 0 → c ≠ 35 + 2 * m → c ≠ 35 + 2 * m + 1 → kpC m x (drW m n G Z) c = Z c := fun c g0 g1 g2 => by rw [kpC_ne g0 g1, drW_ne g1 g2]
              have k3 : kpC m x (drW m n G Z) 464 3 = (m : Int) := by rw [ek _ (by decide) (by omega) (by omega)]; exact a3
              have k8 : kpC m x (drW m n G Z) 468 t = Z (35 + 2 * t) 1 := by rw [ek _ (by decide) (by omega) (by omega)]; exact b3
              have k9 : kpC m x (drW m n G Z) 469 t = (n : Int) := by rw [ek _ (by decide) (by omega) (by omega)]; exact b2
              have k470 : kpC m x (drW m n G Z) 470 = Z 470 := ek _ (by decide) (by omega) (by omega)
              have ec : cpRow t (kpC m x (drW m n G Z)) = cpRow t Z := by
                unfold cpRow
                rw [k470, ek 471 (by decide) (by omega) (by omega)]
              refine go2 _ _ k3 k8 k470 hK (pl2 _ _ k9 ⟨by omega, fun g => by omega, fun _ => pl3 _ _ k9 ⟨by omega, fun _ => fm_copyMade (d := 8) (by omega) ?_, fun g => by omega⟩⟩)
              rw [ec]
              refine ⟨by omega, by omega, by omega, by omega, ?_⟩
              rw [show ((6 * (a : Int)) + (b : Int)).toNat = 6 * a + b by omega, show ((6 * (b : Int)) + (a : Int)).toNat = 6 * b + a by omega, mjRow_at, mjRow_up, mjRow_at, hC a b han hbn, mjRow_up, show va_up (cpRow t Z) (6 * a + b) (1 - tE Z (35 + 2 * t) a b) (6 * a + b) = 1 - tE Z (35 + 2 * t) a b from if_pos rfl, mjRow_ne (by decide), e0, k9]
              exact hQ
          · rw [if_neg h3]
            have pl3 := fun Z1 q (g : Z1 469 t = (n : Int)) h => pl Z1 x3 q g (by rw [if_neg h3]; exact h)
            exact ⟨by omega, fun g => absurd rfl g, fun _ => fc_found (d := 8) (f := 2) (by omega) (go2 _ _ e3 (by rw [fdC_ne (by decide) (by decide)]; exact b3) (fdC_ne (by decide) (by decide)) hK (pl2 _ _ e9 ⟨by omega, fun g => by omega, fun _ => pl3 _ _ e9 ⟨by omega, fun g => absurd rfl g, fun _ => fm_finds (d := 8) (f := 2) (by omega) ⟨rfl, INV_fd (by omega) hI⟩⟩⟩))⟩
        · rw [if_neg h2]
          have pl2 := fun Z1 q (g : Z1 469 t = (n : Int)) h => pl Z1 x2 q g (by rw [if_neg h2]; exact h)
          exact ⟨by omega, fun _ => fc_found (d := 8) (f := 2) (by omega) (go2 _ _ e3 (by rw [fdC_ne (by decide) (by decide)]; exact b3) (fdC_ne (by decide) (by decide)) hK (pl2 _ _ e9 ⟨by omega, fun _ => fm_finds (d := 8) (f := 2) (by omega) ⟨rfl, INV_fd (by omega) hI⟩, fun g => absurd rfl g⟩)), fun g => absurd rfl g⟩
      refine ⟨by omega, fun _ => ⟨by omega, fun h3 => clR (Or.inl h3), fun h3 => tb_empty (d := 3) b1 (fun i k hi hk => (b4 i k hi hk).2) b5 (fun z => ⟨by omega, fun _ => clR (Or.inr z), fun g => by omega⟩) (fun z => ⟨by omega, fun g => absurd rfl g, fun _ => fc_found (d := 8) (f := 8) (by omega) ?_⟩)⟩, fun g => absurd rfl g⟩
      exact go _ _ (by rw [fdC_ne (by decide) (by decide)]; exact a3) (by rw [fdC_ne (by decide) (by decide)]; exact b3) (fdC_ne (by decide) (by decide)) (fun g => absurd g hne) (fun _ g => absurd g hm) (fun _ _ _ => fm_finds (d := 8) (f := 8) (by omega) ⟨rfl, INV_fd (by omega) hI⟩) (fun _ _ g => absurd g (fun s => s.elim h3 z))
