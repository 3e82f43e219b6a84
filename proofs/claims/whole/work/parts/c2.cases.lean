/-! Cases: is, findings, trace, about, lose, leaf, bound. -/
theorem ivTab.kr {Z : mjZ} {t : Nat} (h : ivTab Z t) : 0 ≤ Z (35 + 2 * t) 1 ∧ Z (35 + 2 * t) 1 ≤ 4 := by
  obtain ⟨n, -, -, -, -, -, -, hk⟩ := h
  rcases hk with (⟨h, -⟩ | ⟨h, -⟩ | ⟨h, -⟩ | ⟨h, -⟩) | ⟨h, -⟩ <;> omega
theorem iv_is_ok : iv_is INV := fun Z x1 x2 hI => by
  obtain ⟨m, a1, a2, a3, a4⟩ := id hI.2.1
  have hx := i32r x1
  have hx2 := i32r x2
  refine mje_50 (d := 9) (fc_tableAt a2 a1 hx (fun h => ?_) fun t ht htm => ?_)
  · refine mje_183 (d := 9) (fm_isTable (d := 7) a3 a1 hx ?_)
    rw [if_neg h]
    exact ⟨by omega, fun g => absurd rfl g, fun _ => ⟨rfl, hI⟩⟩
  · have hkr := (a4 t htm).kr
    obtain ⟨n, b1, b2, b3, -⟩ := a4 t htm
    have fin : ∀ v : Int, v = (if x2.toInt < 0 ∨ 4 < x2.toInt then -102 else if x2.toInt = 0 ∨ Z (35 + 2 * t) 1 = x2.toInt ∨ x2.toInt = 3 ∧ Z (35 + 2 * t) 1 = 4 then 1 else 0) → mjW1 10 183 [yR 11 464, yI x1.toInt, yI x2.toInt] Z (fun z' Z2 => Int32.ofInt z' = Int32.ofInt v ∧ INV Z2) := fun v hv => by
      refine mje_183 (d := 9) (fm_isTable (d := 7) a3 a1 hx ?_)
      rw [if_pos (by omega)]
      refine ⟨by omega, fun _ => fm_in (d := 8) hx2 (by omega) (by omega) ?_, fun g => by omega⟩
      rw [ht]
      by_cases h4 : 0 ≤ x2.toInt ∧ x2.toInt ≤ 4
      · rw [if_pos h4]
        rw [if_neg (by omega)] at hv
        have c0 : (x2.toInt = 0 ∨ Z (35 + 2 * t) 1 = x2.toInt ∨ x2.toInt = 3 ∧ Z (35 + 2 * t) 1 = 4) → v = 1 := fun g => by rw [if_pos g] at hv; exact hv
        have c1 : ¬ (x2.toInt = 0 ∨ Z (35 + 2 * t) 1 = x2.toInt ∨ x2.toInt = 3 ∧ Z (35 + 2 * t) 1 = 4) → v = 0 := fun g => by rw [if_neg g] at hv; exact hv
        rw [show ((t : Int)).toNat = t from rfl, b3]
        exact ⟨by omega, fun _ => ⟨by omega, fun g => ⟨by rw [c0 (Or.inl g)], hI⟩, fun g => ⟨by omega, by omega, by omega, fun g2 => ⟨by rw [c0 (Or.inr (Or.inl g2))], hI⟩, fun g2 => ⟨fun g3 => ⟨by rw [c1 (by omega)], hI⟩, fun g3 => ⟨fun g4 => ⟨by rw [c1 (by omega)], hI⟩, fun g4 => ⟨by rw [c0 (by omega)], hI⟩⟩⟩⟩⟩, fun g => by omega⟩
      · rw [if_neg h4]
        rw [if_pos (by omega)] at hv
        exact ⟨by omega, fun g => by omega, fun _ => ⟨by rw [hv], hI⟩⟩
    refine ⟨hx2, fun g => fin _ ?_, fun g => ⟨fun g2 => ⟨fun g3 => fin _ ?_, fun g3 => ⟨by omega, fun g4 => fin _ ?_, fun g4 => ⟨fun g5 => fin _ ?_, fun g5 => ⟨fun g6 => fin _ ?_, fun g6 => fin _ ?_⟩⟩⟩⟩, fun g2 => fin _ ?_⟩⟩
    · rw [if_pos (by omega)]
    · rw [if_neg (by omega), if_pos (by omega)]
    · rw [if_neg (by omega), if_pos (by omega)]
    · rw [if_neg (by omega), if_neg (by omega)]
    · rw [if_neg (by omega), if_neg (by omega)]
    · rw [if_neg (by omega), if_pos (by omega)]
    · rw [if_pos (by omega)]
theorem iv_findings_ok : iv_findings INV := fun Z x1 hI => by
  have hx := i32r x1
  have hm := hI.2.2.2.1.2.2.1
  have fin : ∀ v : Int, v = (if 1 ≤ x1.toInt ∧ x1.toInt ≤ 8 then Z 472 x1.toInt.toNat else -102) → mjW1 10 257 [yR 11 464, yI x1.toInt] Z (fun z' Z2 => Int32.ofInt z' = Int32.ofInt v ∧ INV Z2) := fun v hv => by
    refine mje_257 (d := 9) (fm_in (d := 8) hx (by omega) (by omega) ?_)
    by_cases h : 1 ≤ x1.toInt ∧ x1.toInt ≤ 8
    · rw [if_pos h] at hv ⊢
      exact ⟨by omega, fun g => by omega, fun _ => ⟨by omega, by omega, by rw [hv], hI⟩⟩
    · rw [if_neg h] at hv ⊢
      exact ⟨by omega, fun g => ⟨by rw [hv], hI⟩, fun g => absurd rfl g⟩
  refine mje_160 (d := 9) ⟨hx, fun g => fin _ ?_, fun g => ⟨fun g2 => fin _ ?_, fun g2 => ⟨by omega, by omega, fin _ ?_⟩⟩⟩
  · rw [if_neg (by omega)]
  · rw [if_neg (by omega)]
  · rw [if_pos (by omega), hm _ (by omega)]
theorem iv_trace_ok : iv_trace INV := fun Z x1 hI => by
  have hx := i32r x1
  obtain ⟨b1, b2, b3, b4⟩ := hI.2.2.2.2.1
  have h4 : mjNn 10004 252 = 4 := rfl
  have fin : ∀ v : Int, v = (if 0 ≤ x1.toInt ∧ x1.toInt < Z 0 6 then Z 252 x1.toInt.toNat else -1) → mjW1 10 199 [yR 11 464, yI x1.toInt] Z (fun z' Z2 => Int32.ofInt z' = Int32.ofInt v ∧ INV Z2) := fun v hv => by
    refine mje_199 (d := 9) ?_
    rw [← b1]
    refine fm_in (d := 8) hx (by omega) (by omega) ?_
    by_cases h : 0 ≤ x1.toInt ∧ x1.toInt < Z 0 6
    · rw [if_pos h] at hv
      rw [if_pos (by omega)]
      exact ⟨by omega, fun g => by omega, fun _ => ⟨by omega, by omega, by rw [hv, b4 _ (by omega)], hI⟩⟩
    · rw [if_neg h] at hv
      rw [if_neg (by omega)]
      exact ⟨by omega, fun g => ⟨by rw [hv], hI⟩, fun g => absurd rfl g⟩
  refine mje_72 (d := 9) ⟨hx, fun g => fin _ ?_, fun g => ⟨by omega, fun g2 => fin _ ?_, fun g2 => ⟨by omega, fun g3 => by omega, fun g3 => ⟨by omega, by omega, fin _ ?_⟩⟩⟩⟩
  · rw [if_neg (by omega)]
  · rw [if_neg (by omega)]
  · rw [if_pos (by omega)]
/-- how many leaves there are; how many tables of a kind -/
def abL (Z : mjZ) (i : Nat) : Int := fo (fun l s => if Z 465 l = -1 then s else s + 1) i 0
def abT (Z : mjZ) (x : Int) (i : Nat) : Int := fo (fun t s => if Z 468 t = x then s + 1 else s) i 0
theorem ab_leaves {d : Nat} {Z : mjZ} {q : Int → mjZ → Prop} (h : ivL Z) (hq : q (abL Z 16) Z) : mjW1 (d + 2) 162 [yR 10 0] Z q := by
  refine mje_162 (d := d + 1) ?_
  refine lp_inv (n := 16) (a := (0 : Nat)) (L := fun i s => mjL_162_4 (d + 1) s i Z q) (Y := fun i s => (s : Int) = abL Z i) (fun i s hi hy hL => ?_) (fun s hy => ?_) rfl
  · obtain ⟨a, b, c, -⟩ := h i hi
    refine mjl_162_4 ⟨by omega, fun g => by omega, fun _ => ⟨by omega, by omega, ?_⟩⟩
    rw [show 1 + 1 + 2 * i = 2 + 2 * i by omega]
    have e1 : abL Z (i + 1) = if Z 465 i = -1 then abL Z i else abL Z i + 1 := rfl
    refine mje_19 ⟨by omega, fun g => ⟨by omega, fun g2 => absurd rfl g2, fun _ => hL (s + 1) ?_⟩, fun g => ⟨by omega, fun _ => hL s ?_, fun g2 => by omega⟩⟩
    · rw [e1, if_neg (by omega)]; omega
    · rw [e1, if_pos (by omega)]; exact hy
  · refine mjl_162_4 ⟨by omega, fun _ => ?_, fun g => by omega⟩
    rw [hy]; exact hq
theorem ab_tables {d m : Nat} {x : Int} {Z : mjZ} {q : Int → mjZ → Prop} (hm : m ≤ 60) (h2 : Z 0 2 = (m : Int)) (hx : 0 ≤ x ∧ x ≤ 4) (h : ∀ t, t < m → ivTab Z t) (hq : q (abT Z x m) Z) : mjW1 (d + 1) 163 [yR 10 0, yI x] Z q := by
  refine mje_163 ?_
  refine lp_inv (n := m) (a := (0 : Nat)) (L := fun i s => mjL_163_4 d x s i Z q) (Y := fun i s => (s : Int) = abT Z x i) (fun i s hi hy hL => ?_) (fun s hy => ?_) rfl
  · have hk := (h i hi).kr
    obtain ⟨n, -, -, b3, -⟩ := h i hi
    have e1 : abT Z x (i + 1) = if Z 468 i = x then abT Z x i + 1 else abT Z x i := rfl
    refine mjl_163_4 ⟨by omega, by omega, fun g => by omega, fun _ => ⟨fun g => by omega, fun _ => ⟨by omega, by omega, ?_⟩⟩⟩
    rw [show 34 + 1 + 2 * i = 35 + 2 * i by omega]
    refine ⟨by omega, by omega, fun g => hL s ?_, fun g => hL (s + 1) ?_⟩
    · rw [e1, if_neg (by omega)]; exact hy
    · rw [e1, if_pos (by omega)]; omega
  · refine mjl_163_4 ⟨by omega, by omega, fun _ => ?_, fun g => by omega⟩
    rw [hy]; exact hq
theorem iv_about_ok : iv_about INV := fun Z x1 hI => by
  have hx := i32r x1
  obtain ⟨m, a1, a2, a3, a4⟩ := id hI.2.1
  have fin : ∀ v : Int, v = (if x1.toInt < 0 ∨ 6 < x1.toInt then -102 else if x1.toInt = 0 then (m : Int) else if x1.toInt = 1 then abL Z 16 else abT Z (x1.toInt - 2) m) → mjW1 10 258 [yR 11 464, yI x1.toInt] Z (fun z' Z2 => Int32.ofInt z' = Int32.ofInt v ∧ INV Z2) := fun v hv => by
    refine mje_258 (d := 9) (fm_in (d := 8) hx (by omega) (by omega) ?_)
    by_cases h : 0 ≤ x1.toInt ∧ x1.toInt ≤ 6
    · rw [if_pos h]
      rw [if_neg (by omega)] at hv
      refine ⟨by omega, fun _ => ⟨hx, fun g => ⟨fun g2 => ?_, fun g2 => ?_⟩, fun g => ?_⟩, fun g => by omega⟩
      · rw [if_neg (by omega), if_neg (by omega)] at hv
        refine lp_inv (n := m) (a := (0 : Int)) (L := fun i s => mjL_258_65 9 x1.toInt s i Z _) (Y := fun i s => s = abT Z (x1.toInt - 2) i) (fun i s hi hy hL => ?_) (fun s hy => ?_) rfl
        · have hk := (a4 i hi).kr
          obtain ⟨n, -, -, b3, -⟩ := a4 i hi
          have e1 : abT Z (x1.toInt - 2) (i + 1) = if Z 468 i = x1.toInt - 2 then abT Z (x1.toInt - 2) i + 1 else abT Z (x1.toInt - 2) i := rfl
          refine mjl_258_65 ⟨by omega, by omega, fun g => by omega, fun _ => ⟨by omega, by omega, by omega, by omega, fun g3 => hL _ ?_, fun g3 => hL _ ?_⟩⟩
          · rw [e1, if_neg (by omega)]; omega
          · rw [e1, if_pos (by omega)]; omega
        · exact mjl_258_65 ⟨by omega, by omega, fun _ => ⟨by rw [hy, hv], hI⟩, fun g => by omega⟩
      · rw [if_neg (by omega), if_pos (by omega)] at hv
        refine lp_inv (n := 16) (a := (0 : Int)) (L := fun i s => mjL_258_31 9 x1.toInt s i Z _) (Y := fun i s => s = abL Z i) (fun i s hi hy hL => ?_) (fun s hy => ?_) rfl
        · obtain ⟨a, b, c, -⟩ := hI.1 i hi
          have e1 : abL Z (i + 1) = if Z 465 i = -1 then abL Z i else abL Z i + 1 := rfl
          refine mjl_258_31 ⟨by omega, fun g => by omega, fun _ => ⟨by omega, by omega, by omega, fun g3 => hL _ ?_, fun g3 => hL _ ?_⟩⟩
          · rw [e1, if_neg (by omega)]; omega
          · rw [e1, if_pos (by omega)]; omega
        · exact mjl_258_31 ⟨by omega, fun _ => ⟨by rw [hy, hv], hI⟩, fun g => by omega⟩
      · rw [if_pos (by omega)] at hv
        exact ⟨by rw [hv, a3], hI⟩
    · rw [if_neg h]
      rw [if_pos (by omega)] at hv
      exact ⟨by omega, fun g => absurd rfl g, fun _ => ⟨by rw [hv], hI⟩⟩
  refine mje_161 (d := 9) ⟨hx, fun g => fin _ ?_, fun g => ⟨fun g2 => ⟨fun g3 => ⟨fun g4 => ?_, fun g4 => ?_⟩, fun g3 => fin _ ?_⟩, fun g2 => fin _ ?_⟩⟩
  · rw [if_pos (by omega)]
  · refine ab_tables (d := 8) a1 a2 (by omega) a4 (fin _ ?_)
    rw [if_neg (by omega), if_neg (by omega), if_neg (by omega)]
  · refine ab_leaves (d := 7) hI.1 (fin _ ?_)
    rw [if_neg (by omega), if_neg (by omega), if_pos (by omega)]
  · rw [if_neg (by omega), if_pos (by omega), a2]
  · rw [if_pos (by omega)]
/-- one leaf changes, in class and reference -/
theorem INV_leaf {l : Nat} {Z Z' : mjZ} (hl : l < 16) (h : INV Z) (e : ∀ c, c ≠ 2 + 2 * l → c ≠ 3 + 2 * l → c ≠ 465 → c ≠ 466 → c ≠ 467 → Z' c = Z c) (e1 : ∀ k, k ≠ l → Z' 465 k = Z 465 k) (e2 : ∀ k, k ≠ l → Z' 466 k = Z 466 k) (e3 : ∀ k, k < 8 * l ∨ 8 * l + 8 ≤ k → Z' 467 k = Z 467 k) (hn : ivLeaf Z' l) : INV Z' := by
  obtain ⟨h1, h2, h3, h4, h5, h6⟩ := h
  have e' : ∀ c, (c < 2 ∨ 34 ≤ c) → c ≠ 465 → c ≠ 466 → c ≠ 467 → Z' c = Z c := fun c g1 g2 g3 g4 => e c (by omega) (by omega) g2 g3 g4
  have e0 := e' 0 (by omega) (by omega) (by omega) (by omega)
  have e4 := e' 464 (by omega) (by omega) (by omega) (by omega)
  refine ⟨fun k hk => ?_, h2.fr (fun c g1 g2 => e' c (by omega) (by omega) (by omega) (by omega)) (by rw [e0]) (by rw [e4]) (e' _ (by omega) (by omega) (by omega) (by omega)) (e' _ (by omega) (by omega) (by omega) (by omega)) (e' _ (by omega) (by omega) (by omega) (by omega)), h3.fr (fun c g1 g2 => e' c (by omega) (by omega) (by omega) (by omega)) (by rw [e0]) (by rw [e4]) (fun k _ => by rw [e' _ (by omega) (by omega) (by omega) (by omega)]) (fun k _ => by rw [e' _ (by omega) (by omega) (by omega) (by omega)]) (fun k _ => by rw [e' _ (by omega) (by omega) (by omega) (by omega)]), h4.fr (by rw [e0]) (by rw [e0]) (by rw [e0]) (by rw [e4]) (by rw [e4]) (by rw [e4]) (e' _ (by omega) (by omega) (by omega) (by omega)) (e' _ (by omega) (by omega) (by omega) (by omega)), h5.fr (by rw [e0]) (by rw [e4]) (e' _ (by omega) (by omega) (by omega) (by omega)) (e' _ (by omega) (by omega) (by omega) (by omega)), h6.fr (fun k _ _ => by rw [e' _ (by omega) (by omega) (by omega) (by omega)]) (fun k _ => by rw [e' _ (by omega) (by omega) (by omega) (by omega)]) (fun k _ => by rw [e' _ (by omega) (by omega) (by omega) (by omega)]) (e' _ (by omega) (by omega) (by omega) (by omega)) (e' _ (by omega) (by omega) (by omega) (by omega)) (e' _ (by omega) (by omega) (by omega) (by omega)) (e' _ (by omega) (by omega) (by omega) (by omega))⟩
  by_cases hkl : k = l
  · subst hkl; exact hn
  · exact (h1 k hk).fr (e _ (by omega) (by omega) (by omega) (by omega) (by omega)) (e _ (by omega) (by omega) (by omega) (by omega) (by omega)) (e1 k hkl) (e2 k hkl) (fun i hi => e3 _ (by omega))
theorem iv_lose_ok : iv_lose INV := fun Z x1 hI => by
  have hx := i32r x1
  refine mje_22 (d := 9) (fc_leafAt (d := 8) hx (fun h => ?_) fun l hl h16 => ?_)
  · refine mje_172 (d := 9) (fm_isLeaf (d := 7) hx ?_)
    rw [if_neg h]
    exact ⟨by omega, fun g => absurd rfl g, fun _ => ⟨rfl, hI⟩⟩
  · obtain ⟨a, b, c, dd⟩ := hI.1 l h16
    have em : ∀ Z1 q, (0 ≤ x1.toInt ∧ x1.toInt < 16) → q 1 Z1 → mjW1 9 168 [yI x1.toInt] Z1 q := fun Z1 q g h => fm_isLeaf (d := 7) hx (by rw [if_pos g]; exact h)
    refine mje_19 (d := 8) ⟨by omega, fun g => ⟨by omega, fun _ => mje_23 (d := 8) ?_, fun g2 => absurd rfl g2⟩, fun g => ⟨by omega, fun g2 => by omega, fun _ => fc_found (d := 8) (f := 1) (by omega) ?_⟩⟩
    · refine mje_172 (d := 9) (em _ _ (by omega) ⟨by omega, fun _ => ⟨by omega, by omega, ?_⟩, fun g2 => by omega⟩)
      have e1 : mjUp Z (2 + 2 * l) 1 (-1) 465 x1.toInt.toNat = Z 465 l := by rw [mjUp_nc (by omega)]; congr 1; omega
      rw [e1]
      refine ⟨by omega, fun _ => ⟨by rw [a], ?_⟩, fun g2 => by omega⟩
      rw [show x1.toInt.toNat = l by omega]
      refine INV_leaf h16 hI (fun k g1 g2 g3 g4 g5 => by rw [mjUp_nc g3, mjUp_nc g1]) (fun k hk => by rw [mjUp_ne fun _ => hk, mjUp_nc (by omega)]) (fun k hk => by rw [mjUp_nc (by omega), mjUp_nc (by omega)]) (fun k hk => by rw [mjUp_nc (by omega), mjUp_nc (by omega)]) ?_
      have e2 : mjUp (mjUp Z (2 + 2 * l) 1 (-1)) 465 l (-1) 465 l = -1 := mjUp_at
      refine ⟨?_, by rw [e2]; omega, by rw [e2]; omega, fun g => by rw [e2] at g; omega⟩
      rw [e2, mjUp_nc (by omega), mjUp_at]
    · refine mje_172 (d := 9) (em _ _ (by omega) ⟨by omega, fun _ => ⟨by omega, by omega, ?_⟩, fun g2 => by omega⟩)
      have e1 : fdC 1 Z 465 x1.toInt.toNat = Z 465 l := by
        unfold fdC
        rw [mjUp_nc (by omega), mjUp_nc (by omega)]; congr 1; omega
      rw [e1]
      exact ⟨by omega, fun g2 => by omega, fun _ => fm_finds (d := 8) (f := 1) (by omega) ⟨rfl, INV_fd (by omega) hI⟩⟩
