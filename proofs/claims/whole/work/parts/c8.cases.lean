/-! Cases: shift, mix. -/
theorem rL_T {n : Nat} {x : Nat → Nat → Int} {g : Nat → Int} {i k : Nat} (h6 : n ≤ 6) (hi : i < n) (hk : k < n) : rL 0 n x g (6 * i + k) = x i k := by
  rw [rL_val (by omega), if_pos (by omega), show (6 * i + k) / 6 - 0 = i by omega, show (6 * i + k) % 6 - 0 = k by omega]
def shG (x : Int) (i : Nat) (g : Nat → Int) : Nat → Int := va_up g (6 * i + i) (g (6 * i + i) + x)
theorem shG_val {x : Int} {g : Nat → Int} : ∀ n j : Nat, n ≤ 6 → fo (shG x) n g j = if j / 6 < n ∧ j / 6 = j % 6 then g j + x else g j
  | 0, j, _ => by rw [if_neg (by omega)]; rfl
  | n + 1, j, h6 => by
    show (if j = 6 * n + n then fo (shG x) n g (6 * n + n) + x else fo (shG x) n g j) = _
    by_cases h : j = 6 * n + n
    · rw [if_pos h, if_pos (by omega), shG_val n _ (by omega), if_neg (by omega), h]
    · rw [if_neg h, shG_val n j (by omega)]
      by_cases h2 : j / 6 < n ∧ j / 6 = j % 6
      · rw [if_pos h2, if_pos (by omega)]
      · rw [if_neg h2, if_neg (by omega)]
/-- rows: a takes on f times b; columns likewise -/
def mxR (a b : Nat) (f : Int) (k : Nat) (g : Nat → Int) : Nat → Int := va_up g (6 * a + k) (g (6 * a + k) + f * g (6 * b + k))
def mxC (a b : Nat) (f : Int) (i : Nat) (g : Nat → Int) : Nat → Int := va_up g (6 * i + a) (g (6 * i + a) + f * g (6 * i + b))
theorem mxR_val {a b n : Nat} {f : Int} {g : Nat → Int} (hab : a ≠ b) (ha : a < n) (hb : b < n) (h6 : n ≤ 6) : ∀ m j : Nat, m ≤ n → fo (mxR a b f) m g j = if j / 6 = a ∧ j % 6 < m then g j + f * g (6 * b + j % 6) else g j
  | 0, j, _ => by rw [if_neg (by omega)]; rfl
  | m + 1, j, hm => by
    show (if j = 6 * a + m then fo (mxR a b f) m g (6 * a + m) + f * fo (mxR a b f) m g (6 * b + m) else fo (mxR a b f) m g j) = _
    by_cases h : j = 6 * a + m
    · rw [if_pos h, if_pos (by omega), mxR_val hab ha hb h6 m _ (by omega), mxR_val hab ha hb h6 m _ (by omega), if_neg (by omega), if_neg (by omega), h, show (6 * a + m) % 6 = m by omega]
    · rw [if_neg h, mxR_val hab ha hb h6 m j (by omega)]
      by_cases h2 : j / 6 = a ∧ j % 6 < m
      · rw [if_pos h2, if_pos (by omega)]
      · rw [if_neg h2, if_neg (by omega)]
theorem mxC_val {a b n : Nat} {f : Int} {g : Nat → Int} (hab : a ≠ b) (ha : a < n) (hb : b < n) (h6 : n ≤ 6) : ∀ m j : Nat, m ≤ n → fo (mxC a b f) m g j = if j % 6 = a ∧ j / 6 < m then g j + f * g (6 * (j / 6) + b) else g j
  | 0, j, _ => by rw [if_neg (by omega)]; rfl
  | m + 1, j, hm => by
    show (if j = 6 * m + a then fo (mxC a b f) m g (6 * m + a) + f * fo (mxC a b f) m g (6 * m + b) else fo (mxC a b f) m g j) = _
    by_cases h : j = 6 * m + a
    · rw [if_pos h, if_pos (by omega), mxC_val hab ha hb h6 m _ (by omega), mxC_val hab ha hb h6 m _ (by omega), if_neg (by omega), if_neg (by omega), h, show (6 * m + a) / 6 = m by omega]
    · rw [if_neg h, mxC_val hab ha hb h6 m j (by omega)]
      by_cases h2 : j % 6 = a ∧ j / 6 < m
      · rw [if_pos h2, if_pos (by omega)]
      · rw [if_neg h2, if_neg (by omega)]
section SH
variable {d m n t c e : Nat} {Z : mjZ}
theorem tb_shifted {x : Int} {q : mjZ → Prop} (hn : tN Z c n) (he : tN Z e n) (hx : e ≠ c ∧ e ≠ c + 1 ∧ c ≠ e + 1) (hq : q (mjRow Z (c + 1) (fo (shG x) n (rL 0 n (tE Z e) (Z (c + 1)))))) : mjW0 (d + 4) 61 [yR 6 c, yR 6 e, yI x] Z q := by
  have h6 := hn.2.2
  refine mje_61 (d := d + 3) (tb_lay (d := d) (o := 0) hn he (by omega) hx ?_)
  refine lp_fold0 (n := n) (f := shG x) (L := fun i g => mjL_61_8 (d + 3) c e x i (mjRow Z (c + 1) g) q) (fun i g hi hL => ?_) ?_
  · have hnc := hn.row (g := g) (show c ≠ c + 1 by omega)
    have hnc0 := hnc.1
    refine mjl_61_8 ⟨by omega, by omega, fun h => by omega, fun _ => tb_number (d := d + 1) hnc hi hi (tb_write (d := d + 1) hnc hi hi ?_)⟩
    rw [mjRow_up, show tE (mjRow Z (c + 1) g) c i i = g (6 * i + i) from congrFun mjRow_at _]
    exact hL
  · have hnc : ∀ G, mjRow Z (c + 1) G c 0 = (n : Int) := fun G => (hn.row (show c ≠ c + 1 by omega)).1
    refine mjl_61_8 ?_
    rw [hnc]
    exact ⟨by omega, by omega, fun _ => hq, fun h => by omega⟩
theorem tb_mixed {a b : Nat} {f : Int} {q : mjZ → Prop} (hn : tN Z c n) (he : tN Z e n) (hx : e ≠ c ∧ e ≠ c + 1 ∧ c ≠ e + 1) (ha : a < n) (hb : b < n) (hq : q (mjRow Z (c + 1) (fo (mxC a b f) n (fo (mxR a b f) n (rL 0 n (tE Z e) (Z (c + 1))))))) : mjW0 (d + 4) 57 [yR 6 c, yR 6 e, yI (a : Int), yI (b : Int), yI f] Z q := by
  have h6 := hn.2.2
  have hnc : ∀ G, mjRow Z (c + 1) G c 0 = (n : Int) := fun G => (hn.row (show c ≠ c + 1 by omega)).1
  refine mje_57 (d := d + 3) (tb_lay (d := d) (o := 0) hn he (by omega) hx ?_)
  refine lp_fold0 (n := n) (f := mxR a b f) (L := fun i g => mjL_57_9 (d + 3) c e a b f i (mjRow Z (c + 1) g) q) (fun k g hk hL => ?_) ?_
  · have hn2 := hn.row (g := g) (show c ≠ c + 1 by omega)
    refine mjl_57_9 ?_
    rw [hnc]
    refine ⟨by omega, by omega, fun h => by omega, fun _ => tb_number (d := d + 1) hn2 ha hk (tb_number (d := d + 1) hn2 hb hk (tb_write (d := d + 1) hn2 ha hk ?_))⟩
    rw [mjRow_up, show tE (mjRow Z (c + 1) g) c a k = g (6 * a + k) from congrFun mjRow_at _, show tE (mjRow Z (c + 1) g) c b k = g (6 * b + k) from congrFun mjRow_at _]
    exact hL
  · refine mjl_57_9 ?_
    rw [hnc]
    refine ⟨by omega, by omega, fun _ => ?_, fun h => by omega⟩
    refine lp_fold0 (n := n) (f := mxC a b f) (L := fun i g => mjL_57_52 (d + 3) c e a b f i (mjRow Z (c + 1) g) q) (fun k g hk hL => ?_) ?_
    · have hn2 := hn.row (g := g) (show c ≠ c + 1 by omega)
      refine mjl_57_52 ?_
      rw [hnc]
      refine ⟨by omega, by omega, fun h => by omega, fun _ => tb_number (d := d + 1) hn2 hk ha (tb_number (d := d + 1) hn2 hk hb (tb_write (d := d + 1) hn2 hk ha ?_))⟩
      rw [mjRow_up, show tE (mjRow Z (c + 1) g) c k a = g (6 * k + a) from congrFun mjRow_at _, show tE (mjRow Z (c + 1) g) c k b = g (6 * k + b) from congrFun mjRow_at _]
      exact hL
    · refine mjl_57_52 ?_
      rw [hnc]
      exact ⟨by omega, by omega, fun _ => hq, fun h => by omega⟩
theorem fm_shiftL {x : Int} {g : Nat → Int} {q : Int → mjZ → Prop} (ht : t < 60) (hn : Z 469 t = (n : Int)) (h1 : 1 ≤ n) (h6 : n ≤ 6) (hq : mjW1 d 191 [yR 11 464, yI (n : Int)] (mjRow Z 471 (fo (shG x) n g)) (fun v5 Z5 => q v5 Z5)) : mjL_192_46 d (t : Int) x 0 (mjRow Z 471 g) q := by
  have hr : ∀ G, mjRow Z 471 G 469 t = (n : Int) := fun G => by rw [mjRow_ne (by decide)]; exact hn
  refine lp_fold0 (n := n) (f := shG x) (L := fun i g => mjL_192_46 d (t : Int) x i (mjRow Z 471 g) q) (fun i g hi hL => ?_) ?_
  · refine mjl_192_46 ?_
    rw [show ((t : Int)).toNat = t from rfl, hr, show ((6 * (i : Int)) + (i : Int)).toNat = 6 * i + i by omega, mjRow_up, mjRow_at]
    exact ⟨by omega, by omega, by omega, by omega, fun h => by omega, fun _ => ⟨by omega, by omega, hL⟩⟩
  · refine mjl_192_46 ?_
    rw [show ((t : Int)).toNat = t from rfl, hr]
    exact ⟨by omega, by omega, by omega, by omega, fun _ => hq, fun h => by omega⟩
theorem fm_mixL {a b : Nat} {f : Int} {g : Nat → Int} {q : Int → mjZ → Prop} (ht : t < 60) (hn : Z 469 t = (n : Int)) (h1 : 1 ≤ n) (h6 : n ≤ 6) (ha : a < n) (hb : b < n) (hq : mjW1 d 191 [yR 11 464, yI (n : Int)] (mjRow Z 471 (fo (mxC a b f) n (fo (mxR a b f) n g))) (fun v5 Z5 => q v5 Z5)) : mjL_189_75 d (t : Int) (a : Int) (b : Int) f 0 (mjRow Z 471 g) q := by
  have hr : ∀ G, mjRow Z 471 G 469 t = (n : Int) := fun G => by rw [mjRow_ne (by decide)]; exact hn
  refine lp_fold0 (n := n) (f := mxR a b f) (L := fun i g => mjL_189_75 d (t : Int) (a : Int) (b : Int) f i (mjRow Z 471 g) q) (fun i g hi hL => ?_) ?_
  · refine mjl_189_75 ?_
    rw [show ((t : Int)).toNat = t from rfl, hr, show ((6 * (a : Int)) + (i : Int)).toNat = 6 * a + i by omega, show ((6 * (b : Int)) + (i : Int)).toNat = 6 * b + i by omega, mjRow_up, mjRow_at]
    exact ⟨by omega, by omega, by omega, by omega, fun h => by omega, fun _ => ⟨by omega, by omega, by omega, by omega, hL⟩⟩
  · refine mjl_189_75 ?_
    rw [show ((t : Int)).toNat = t from rfl, hr]
    refine ⟨by omega, by omega, by omega, by omega, fun _ => ?_, fun h => by omega⟩
    refine lp_fold0 (n := n) (f := mxC a b f) (L := fun i g => mjL_189_125 d (t : Int) (a : Int) (b : Int) f i (mjRow Z 471 g) q) (fun i g hi hL => ?_) ?_
    · refine mjl_189_125 ?_
      rw [show ((t : Int)).toNat = t from rfl, hr, show ((6 * (i : Int)) + (a : Int)).toNat = 6 * i + a by omega, show ((6 * (i : Int)) + (b : Int)).toNat = 6 * i + b by omega, mjRow_up, mjRow_at]
      exact ⟨by omega, by omega, by omega, by omega, fun h => by omega, fun _ => ⟨by omega, by omega, by omega, by omega, hL⟩⟩
    · refine mjl_189_125 ?_
      rw [show ((t : Int)).toNat = t from rfl, hr]
      exact ⟨by omega, by omega, by omega, by omega, fun _ => hq, fun h => by omega⟩
end SH
/-- a draft that may be too great: GREAT on both sides, or kept on both -/
theorem mk_great {Z : mjZ} {m n mm : Nat} {as : List mjY} {G H : Nat → Int} (hI : INV Z) (hm : Z 0 2 = (m : Int)) (h60 : m < 60) (h1 : 1 ≤ n) (h6 : n ≤ 6) (hb : ∀ i k, i < n → k < n → -1000000 ≤ G (6 * i + k) ∧ G (6 * i + k) ≤ 1000000) (hs : ∀ i k, i < n → k < n → G (6 * i + k) = G (6 * k + i)) (hh : ∀ i k, i < n → k < n → H (6 * i + k) = G (6 * i + k)) (hz : ∀ j, j < 36 → ¬ (j / 6 < n ∧ j % 6 < n) → H j = 0)
    (hM : ∀ (Z1 : mjZ) (Q : Int → mjZ → Prop), (∀ c, c ≠ 0 → c ≠ 253 → c ≠ 35 + 2 * m → c ≠ 35 + 2 * m + 1 → Z1 c = Z c) → mjW1 9 191 [yR 11 464, yI (n : Int)] (mjRow Z1 471 H) (fun v5 Z5 => Q v5 Z5) → mjW1 10 mm as Z1 Q) :
    mjW1 9 59 [yR 6 (35 + 2 * m)] (drW m n G Z) (fun v14 Z14 => (-2147483648 ≤ v14 ∧ v14 < 2147483648) ∧ ((v14 = 0 → (mjW1 9 41 [yR 10 0, yR 6 (35 + 2 * m)] Z14 (fun v16 Z16 => mjW1 10 mm as Z16 (fun z' Z2 => Int32.ofInt z' = Int32.ofInt v16 ∧ INV Z2)))) ∧ (¬(v14 = 0) → (mjW1 9 15 [yR 10 0, yI 6] Z14 (fun v17 Z17 => mjW1 10 mm as Z17 (fun z' Z2 => Int32.ofInt z' = Int32.ofInt v17 ∧ INV Z2)))))) := by
  have eT : tE (drW m n G Z) (35 + 2 * m) = fun i k => G (6 * i + k) := by
    funext i k
    exact drW_t
  obtain ⟨m', c1, c2, c3, c4⟩ := id hI.2.1
  have hmm : m' = m := by omega
  have hT : ∀ Z1 : mjZ, ∀ i k, i < n → k < n → mjRow Z1 471 H 471 (6 * i + k) = (fun i k => G (6 * i + k)) i k ∧ -2147483648 ≤ (fun i k => G (6 * i + k)) i k ∧ (fun i k => G (6 * i + k)) i k < 2147483648 := fun Z1 i k hi hk => by
    rw [mjRow_at]
    have := hb i k hi hk
    exact ⟨hh i k hi hk, by dsimp only; omega, by dsimp only; omega⟩
  refine tb_isGreat (d := 5) (drW_n h1 h6) (fun i k hi hk => by rw [drW_t]; have := hb i k hi hk; omega) (fun i k hi hk => by rw [drW_t]; have := hb i k hi hk; omega) ?_
  rw [eT]
  cases hg : tGr n (fun i k => G (6 * i + k)) with
  | none =>
    refine ⟨by decide, fun _ => ?_, fun g => absurd rfl g⟩
    have hb2 : ∀ i k, i < n → k < n → -100 ≤ G (6 * i + k) ∧ G (6 * i + k) ≤ 100 := fun i k hi hk => by
      unfold tGr at hg
      have g1 := (sr_none n 0).mp hg i (Nat.zero_le _) (by omega)
      have g2 := (sr_none n 0).mp g1 k (Nat.zero_le _) (by omega)
      have ha := bgA_or (G (6 * i + k))
      by_cases h : bgA (G (6 * i + k)) ≤ 100
      · omega
      · rw [if_neg h] at g2; cases g2
    refine fc_keep (d := 2) (by rw [drW_ne (by omega) (by omega)]; exact hm) (drW_n h1 h6) (fun i k hi hk => by rw [drW_t]; have := hb i k hi hk; omega) (by rw [eT]; exact hs) fun x hx => hM _ _ (fun c g1 g2 g3 g4 => by rw [kpC_ne g1 g3, drW_ne g3 g4]) ?_
    rw [eT] at hx
    have z3 : mjRow (kpC m x (drW m n G Z)) 471 H 464 3 = (m : Int) := by rw [mjRow_ne (by decide), kpC_ne (by decide) (by omega), drW_ne (by omega) (by omega), c3, hmm]
    refine fm_comes (d := 7) (T := fun i k => G (6 * i + k)) z3 h60 h1 h6 (hT _) (fun _ y hy => ?_) (fun g => absurd hg g)
    have hyx := hy.uniq hx
    subst hyx
    exact ⟨rfl, INV_made hI hm h60 h1 h6 hb2 hs hh hz (Or.inl hy)⟩
  | some u =>
    refine ⟨by show (-2147483648 : Int) ≤ 1 ∧ (1 : Int) < 2147483648; decide, fun g => absurd g (by show ¬ (1 : Int) = 0; decide), fun _ => fc_found (d := 8) (f := 6) (by omega) (hM _ _ (fun c g1 g2 g3 g4 => by rw [fdC_ne g1 g2, drW_ne g3 g4]) ?_)⟩
    have z3 : mjRow (fdC 6 (drW m n G Z)) 471 H 464 3 = (m : Int) := by rw [mjRow_ne (by decide), fdC_ne (by decide) (by decide), drW_ne (by omega) (by omega), c3, hmm]
    refine fm_comes (d := 7) (T := fun i k => G (6 * i + k)) z3 h60 h1 h6 (hT _) (fun g => by rw [hg] at g; cases g) (fun _ => ⟨rfl, ?_⟩)
    rw [fdC_row]
    exact INV_fd (by omega) (INV_471 (INV_draft hI hm h60))
theorem iv_shift_ok : iv_shift INV := fun Z x1 x2 hI => by
  obtain ⟨m, a1, a2, a3, a4⟩ := id hI.2.1
  have hx := i32r x1
  have hx2 := i32r x2
  refine mje_60 (d := 9) (fc_tableAt (d := 8) a2 a1 hx (fun h => ?_) fun t ht htm => ?_)
  · refine mje_192 (d := 9) (fm_isTable (d := 7) a3 a1 hx ?_)
    rw [if_neg h]
    exact ⟨by omega, fun g => absurd rfl g, fun _ => ⟨rfl, hI⟩⟩
  · obtain ⟨n, b1, b2, b3, b4, b5, b6, -⟩ := a4 t htm
    have hn6 := b1.2.2
    have hn1 := b1.2.1
    have b10 := b1.1
    rw [ht]
    have go : ∀ (Z1 : mjZ) (q : Int → mjZ → Prop), Z1 464 3 = (m : Int) → (¬ (-200 ≤ x2.toInt ∧ x2.toInt ≤ 200) → q (-102) Z1) → (-200 ≤ x2.toInt ∧ x2.toInt ≤ 200 → m = 60 → q (-104) Z1) → (-200 ≤ x2.toInt ∧ x2.toInt ≤ 200 → m ≠ 60 → mjW0 9 190 [yR 11 464, yI (t : Int)] Z1 (fun Z6 => mjL_192_46 9 (t : Int) x2.toInt 0 Z6 q)) → mjW1 10 192 [yR 11 464, yI (t : Int), yI x2.toInt] Z1 q := fun Z1 q g3 h1 h2 h3 => by
      refine mje_192 (d := 9) (fm_isTable (d := 7) (m := m) g3 a1 (by omega) ?_)
      rw [if_pos (by omega)]
      refine ⟨by omega, fun _ => fm_in (d := 8) hx2 (by omega) (by omega) ?_, fun g => by omega⟩
      by_cases h : -200 ≤ x2.toInt ∧ x2.toInt ≤ 200
      · rw [if_pos h]
        exact ⟨by omega, fun _ => ⟨by omega, fun g => h3 h (by omega), fun g => h2 h (by omega)⟩, fun g => by omega⟩
      · rw [if_neg h]
        exact ⟨by omega, fun g => absurd rfl g, fun _ => h1 h⟩
    have bad : ¬ (-200 ≤ x2.toInt ∧ x2.toInt ≤ 200) → mjW1 10 192 [yR 11 464, yI (t : Int), yI x2.toInt] Z (fun z' Z2 => Int32.ofInt z' = Int32.ofInt (-102) ∧ INV Z2) := fun h => go _ _ a3 (fun _ => ⟨rfl, hI⟩) (fun g => absurd g h) (fun g => absurd g h)
    refine ⟨hx2, fun g1 => bad (by omega), fun g1 => ⟨fun g2 => fc_isFull (d := 8) a2 a1 ?_, fun g2 => bad (by omega)⟩⟩
    have hr : -200 ≤ x2.toInt ∧ x2.toInt ≤ 200 := by omega
    by_cases hm : m = 60
    · rw [if_pos hm]
      exact ⟨by omega, fun g => by omega, fun _ => go _ _ a3 (fun g => absurd hr g) (fun _ _ => ⟨rfl, hI⟩) (fun _ g => absurd hm g)⟩
    · rw [if_neg hm]
      refine ⟨by omega, fun _ => ?_, fun g => absurd rfl g⟩
      rw [b10]
      have eD : ∀ c, c ≠ 35 + 2 * m → c ≠ 35 + 2 * m + 1 → drC m n Z c = Z c := fun c g1 g2 => drC_ne g1 g2
      have eDT : tE (drC m n Z) (35 + 2 * t) = tE Z (35 + 2 * t) := by
        funext i k
        exact congrFun (eD _ (by omega) (by omega)) _
      refine fc_draft (d := 6) a2 (by omega) hn1 hn6 ?_
      refine tb_shifted (d := 5) (drC_n hn1 hn6) (by unfold tN; rw [eD _ (by omega) (by omega)]; exact b1) (by omega) ?_
      rw [drC_row, eDT]
      have hG : ∀ i k, i < n → k < n → fo (shG x2.toInt) n (rL 0 n (tE Z (35 + 2 * t)) (drC m n Z (35 + 2 * m + 1))) (6 * i + k) = if i = k then tE Z (35 + 2 * t) i k + x2.toInt else tE Z (35 + 2 * t) i k := fun i k hi hk => by
        rw [shG_val n _ hn6, rL_T hn6 hi hk]
        by_cases h : i = k
        · rw [if_pos h, if_pos (by omega)]
        · rw [if_neg h, if_neg (by omega)]
      generalize fo (shG x2.toInt) n (rL 0 n (tE Z (35 + 2 * t)) (drC m n Z (35 + 2 * m + 1))) = G at *
      have hC : ∀ i k, i < n → k < n → cpRow t Z (6 * i + k) = tE Z (35 + 2 * t) i k := fun i k hi hk => by
        rw [cpRow_val (by omega), (b4 i k hi hk).1, Nat.add_assoc]
      refine mk_great (H := fo (shG x2.toInt) n (cpRow t Z)) hI a2 (by omega) hn1 hn6 (fun i k hi hk => ?_) (fun i k hi hk => ?_) (fun i k hi hk => ?_) (fun j hj hn => ?_) fun Z1 Q ek hQ => ?_
      · rw [hG i k hi hk]
        have := b4 i k hi hk
        split <;> omega
      · rw [hG i k hi hk, hG k i hk hi, b5 i k hi hk]
        by_cases h : i = k
        · rw [if_pos h, if_pos h.symm]
        · rw [if_neg h, if_neg (fun g => h g.symm)]
      · rw [hG i k hi hk, shG_val n _ hn6, hC i k hi hk]
        by_cases h : i = k
        · rw [if_pos h, if_pos (by omega)]
        · rw [if_neg h, if_neg (by omega)]
      · rw [shG_val n _ hn6, if_neg (by omega), cpRow_val hj]
        exact b6 j hj hn
      · have k3 : Z1 464 3 = (m : Int) := by rw [ek _ (by decide) (by decide) (by omega) (by omega)]; exact a3
        have k9 : Z1 469 t = (n : Int) := by rw [ek _ (by decide) (by decide) (by omega) (by omega)]; exact b2
        refine go _ _ k3 (fun g => absurd hr g) (fun _ g => absurd g hm) (fun _ _ => fm_copyMade (d := 8) (by omega) ?_)
        have ec : cpRow t Z1 = cpRow t Z := by
          unfold cpRow
          rw [ek 470 (by decide) (by decide) (by omega) (by omega), ek 471 (by decide) (by decide) (by omega) (by omega)]
        rw [ec]
        exact fm_shiftL (by omega) k9 hn1 hn6 hQ
