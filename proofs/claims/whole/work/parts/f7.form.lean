/-! Case: form. -/
theorem mulBd {x y : Int} {a b : Nat} (hx : -(a : Int) ≤ x ∧ x ≤ (a : Int)) (hy : -(b : Int) ≤ y ∧ y ≤ (b : Int)) : -((a * b : Nat) : Int) ≤ x * y ∧ x * y ≤ ((a * b : Nat) : Int) := by
  have h1 : x.natAbs ≤ a := by omega
  have h2 : y.natAbs ≤ b := by omega
  have h3 := Nat.mul_le_mul h1 h2
  rw [← Int.natAbs_mul] at h3
  omega
/-- sums over places -/
def fmQ (n : Nat) (T : Nat → Nat → Int) (V : Nat → Int) : Int := fo (fun i s => fo (fun k s => s + V i * T i k * V k) n s) n 0
def fmS (n : Nat) (V : Nat → Int) : Int := fo (fun i s => s + V i * V i) n 0
theorem fo_sumB {f : Nat → Int} {B : Nat} {n : Nat} (h : ∀ j, j < n → -(B : Int) ≤ f j ∧ f j ≤ (B : Int)) : ∀ (m : Nat) (s : Int) (A : Nat), m ≤ n → -(A : Int) ≤ s ∧ s ≤ (A : Int) → -((A + m * B : Nat) : Int) ≤ fo (fun j s => s + f j) m s ∧ fo (fun j s => s + f j) m s ≤ ((A + m * B : Nat) : Int)
  | 0, s, A, _, hs => by rw [Nat.zero_mul]; exact hs
  | m + 1, s, A, hm, hs => by
    have h1 := fo_sumB h m s A (by omega) hs
    have h2 := h m (by omega)
    show -((A + (m + 1) * B : Nat) : Int) ≤ fo (fun j s => s + f j) m s + f m ∧ fo (fun j s => s + f j) m s + f m ≤ _
    rw [Nat.succ_mul]
    omega
theorem fm_bd {n : Nat} {T : Nat → Nat → Int} {V : Nat → Int} (h6 : n ≤ 6) (hV : ∀ k, k < n → -100 ≤ V k ∧ V k ≤ 100) (hT : ∀ i k, i < n → k < n → -100 ≤ T i k ∧ T i k ≤ 100) : (∀ i k, i < n → k < n → -1000000 ≤ V i * T i k * V k ∧ V i * T i k * V k ≤ 1000000) ∧ (∀ i, i < n → -10000 ≤ V i * V i ∧ V i * V i ≤ 10000) ∧ (-36000000 ≤ fmQ n T V ∧ fmQ n T V ≤ 36000000) ∧ (-60000 ≤ fmS n V ∧ fmS n V ≤ 60000) := by
  have h1 : ∀ i k, i < n → k < n → -1000000 ≤ V i * T i k * V k ∧ V i * T i k * V k ≤ 1000000 := fun i k hi hk => mulBd (a := 10000) (b := 100) (mulBd (a := 100) (b := 100) (hV i hi) (hT i k hi hk)) (hV k hk)
  have h2 : ∀ i, i < n → -10000 ≤ V i * V i ∧ V i * V i ≤ 10000 := fun i hi => mulBd (a := 100) (b := 100) (hV i hi) (hV i hi)
  refine ⟨h1, h2, ?_, ?_⟩
  · have : ∀ m, m ≤ n → -((m * 6000000 : Nat) : Int) ≤ fo (fun i s => fo (fun k s => s + V i * T i k * V k) n s) m 0 ∧ fo (fun i s => fo (fun k s => s + V i * T i k * V k) n s) m 0 ≤ ((m * 6000000 : Nat) : Int) := by
      intro m
      induction m with
      | zero => intro _; exact ⟨show -((0 * 6000000 : Nat) : Int) ≤ 0 by decide, show (0 : Int) ≤ ((0 * 6000000 : Nat) : Int) by decide⟩
      | succ m ih =>
        intro hm
        have k := fo_sumB (f := fun k => V m * T m k * V k) (B := 1000000) (n := n) (fun k hk => h1 m k (by omega) hk) n _ (m * 6000000) (Nat.le_refl _) (ih (by omega))
        show -(((m + 1) * 6000000 : Nat) : Int) ≤ fo (fun k s => s + V m * T m k * V k) n _ ∧ fo (fun k s => s + V m * T m k * V k) n _ ≤ _
        omega
    have := this n (Nat.le_refl _)
    unfold fmQ
    omega
  · have := fo_sumB (f := fun i => V i * V i) (B := 10000) (n := n) (fun i hi => h2 i hi) n 0 0 (Nat.le_refl _) (by decide)
    unfold fmS
    omega
theorem fo_pair2 {α β : Type} {f : Nat → α → α} {g : Nat → β → β} {a : α} {b : β} : ∀ n, fo (fun i (p : α × β) => (f i p.1, g i p.2)) n (a, b) = (fo f n a, fo g n b)
  | 0 => rfl
  | n + 1 => by
    show (f n (fo (fun i (p : α × β) => (f i p.1, g i p.2)) n (a, b)).1, g n (fo (fun i (p : α × β) => (f i p.1, g i p.2)) n (a, b)).2) = _
    rw [fo_pair2 n]
    rfl
/-- the state in which the reference's form works -/
def tkQ (Z : mjZ) (g : Nat → Int) (t : Int) : mjZ := mjRow (mjUp Z 464 12 t) 491 g
theorem tkQ_ne {Z : mjZ} {g : Nat → Int} {t : Int} {c : Nat} (h1 : c ≠ 464) (h2 : c ≠ 491) : tkQ Z g t c = Z c := by unfold tkQ; rw [mjRow_ne h2, mjUp_nc h1]
theorem tkQ_4 {Z : mjZ} {g : Nat → Int} {t : Int} {k : Nat} (h : k ≠ 12) : tkQ Z g t 464 k = Z 464 k := by unfold tkQ; rw [mjRow_ne (by decide), mjUp_ne fun _ => h]
theorem tkQ_at {Z : mjZ} {g : Nat → Int} {t : Int} : tkQ Z g t 491 = g := mjRow_at
theorem tkQ_t {Z : mjZ} {g : Nat → Int} {t : Int} : tkQ Z g t 464 12 = t := by unfold tkQ; rw [mjRow_ne (by decide), mjUp_at]
theorem tkQ_up {Z : mjZ} {g : Nat → Int} {t t2 : Int} : mjUp (tkQ Z g t) 464 12 t2 = tkQ Z g t2 := by
  funext c k
  unfold tkQ mjUp mjRow
  by_cases h : c = 464
  · subst h
    by_cases hk : k = 12
    · simp [hk]
    · simp [hk]
  · by_cases h2 : c = 491
    · simp [h2]
    · simp [h, h2]
theorem tkQ_g {Z : mjZ} {g : Nat → Int} {t v : Int} {j : Nat} : mjUp (tkQ Z g t) 491 j v = tkQ Z (va_up g j v) t := mjRow_up
theorem tkQ_self {Z : mjZ} : Z = tkQ Z (Z 491) (Z 464 12) := by
  funext c k
  unfold tkQ mjUp mjRow
  by_cases h : c = 464
  · subst h
    by_cases hk : k = 12
    · simp [hk]
    · simp [hk]
  · by_cases h2 : c = 491
    · simp [h2]
    · simp [h, h2]
theorem INV_tq {Z : mjZ} {g : Nat → Int} {t : Int} (hI : INV Z) : INV (tkQ Z g t) := by
  have h := INV_t12 (t := t) hI
  exact INV_own h (fun c hc => mjRow_ne (by omega)) (h.2.2.2.2.2.own fun c hc => mjRow_ne (by omega))
theorem INV_fdq {f : Nat} {p t : Int} {g : Nat → Int} {D : mjZ} (hf : f < 9) (h : INV D) : INV (fdM f (whM p (tkQ (fdC f (whC p D)) g t))) := by
  have : whM p (tkQ (fdC f (whC p D)) g t) = fdC f (whM p (whC p (tkQ D g t))) := by
    funext c k
    unfold whM whC fdC tkQ mjUp mjRow
    by_cases h0 : c = 0
    · subst h0; simp
    · by_cases h1 : c = 253
      · subst h1; simp
      · by_cases h2 : c = 464
        · subst h2; simp
        · by_cases h3 : c = 491
          · subst h3; simp
          · simp [h0, h1, h2, h3]
  rw [this]
  exact INV_fd hf (INV_wh (INV_tq h))
/-- what is wrong first with the first n numbers of leaf l -/
def tqP (Z : mjZ) (l k : Nat) : Option (Nat × Nat) := if tbF Z l k = 0 then none else some (tbF Z l k, k)
section FRM
variable {d n l t c : Nat} {Z : mjZ}
theorem fm_formL {Z1 : mjZ} {x1 x2 : Int} {q : Int → mjZ → Prop} (hl16 : l < 16) (hx2 : x2 = (l : Int)) (hL : ivL Z) (h0 : 0 ≤ Z 465 l) (e5 : Z1 465 = Z 465) (e6 : Z1 466 = Z 466) (e7 : Z1 467 = Z 467) (h6 : n ≤ 6) (qs : ∀ f p : Nat, sr (tqP Z l) n 0 = some (f, p) → ∀ g t, q (-10 - (f : Int)) (fdM f (whM p (tkQ Z1 g t)))) (qn : sr (tqP Z l) n 0 = none → ∀ g t, (∀ k, k < n → g k = tbV Z 0 l k) → mjL_244_100 (d + 2) x1 x2 (n : Int) 0 0 0 (tkQ Z1 g t) q) : mjL_244_45 (d + 2) x1 x2 (n : Int) ((0 : Nat) : Int) Z1 q := by
  rw [@tkQ_self Z1]
  refine lp_scan (α := (Nat → Int) × Int) (n := n) (P := tqP Z l) (a := (Z1 491, Z1 464 12)) (L := fun k a => mjL_244_45 (d + 2) x1 x2 (n : Int) (k : Int) (tkQ Z1 a.1 a.2) q) (Y := fun k a => ∀ k', k' < k → a.1 k' = tbV Z 0 l k') (E := fun r => ∀ g t, q (-10 - (r.1 : Int)) (fdM r.1 (whM r.2 (tkQ Z1 g t)))) (fun k a hk hy hLk hEk => ?_) (fun hnone a hy => ?_) (fun r hr => qs r.1 r.2 hr) (fun k' hk' => by omega)
  · obtain ⟨g, t⟩ := a
    have hl := hL l hl16
    obtain ⟨d1, d2, d3, d4⟩ := hl.2.2.2 h0
    have hF0 : tqP Z l k = if tbF Z l k = 0 then none else some (tbF Z l k, k) := rfl
    have hlt := @tbF_le Z l k
    have bad : ∀ (f : Nat) (t2 : Int), f = tbF Z l k → f ≠ 0 → mjW1 (d + 2) 175 [yR 11 464, yI (f : Int), yI (k : Int)] (tkQ Z1 g t2) (fun v7 Z7 => q v7 Z7) := fun f t2 hf h0 => by
      rw [if_neg (by omega)] at hF0
      have := hEk _ hF0 g t2
      rw [← hf] at this
      exact fm_findsAt (d := d) (by omega) this
    refine mjl_244_45 ⟨by omega, by omega, fun k => by omega, fun _ => ?_⟩
    rw [hx2]
    refine fm_take (d := d) (l := l) (a := Z 466 l) (len := Z 465 l) (w := Z (3 + 2 * l) k) (by omega) (by omega) (by rw [tkQ_ne (by decide) (by decide), e5]) ⟨hl.2.1, hl.2.2.1⟩ (fun _ => by rw [tkQ_ne (by decide) (by decide), e6]) (fun _ => ⟨d2, d3⟩) (fun _ => by rw [tkQ_ne (by decide) (by decide), e7]; exact (d4 k (by omega)).2.1) (fun _ => (d4 k (by omega)).1) (fun _ => (d4 k (by omega)).2.2) (fun g0 => ?_) (fun g0 g1 t2 => ?_) (fun g0 g1 => ?_)
    · have hF : tbF Z l k = 2 := if_neg g0
      exact ⟨by omega, fun k => absurd k (by decide), fun _ => bad 2 t hF.symm (by decide)⟩
    · have hF : tbF Z l k = lfnF (Z 466 l) (Z (3 + 2 * l) k) := if_pos g0
      rw [tkQ_up]
      exact ⟨by omega, fun g2 => by omega, fun _ => bad _ t2 hF.symm g1⟩
    · have hF : tbF Z l k = lfnF (Z 466 l) (Z (3 + 2 * l) k) := if_pos g0
      rw [if_pos (by omega)] at hF0
      rw [tkQ_up, tkQ_t, tkQ_g, show ((k : Int)).toNat = k from rfl, show (k : Int) + 1 = ((k + 1 : Nat) : Int) by omega]
      refine ⟨by omega, fun _ => ⟨by omega, by omega, ?_⟩, fun g2 => absurd rfl g2⟩
      rw [← hx2]
      refine hLk hF0 (va_up g k (lfnV (Z 466 l) (Z (3 + 2 * l) k)), lfnV (Z 466 l) (Z (3 + 2 * l) k)) fun k' h1 => ?_
      show va_up g k _ k' = _
      by_cases hkk : k' = k
      · subst hkk
        rw [va_up_self]
        unfold tbV
        rw [Nat.zero_add]
      · rw [va_up_ne _ _ (by omega)]
        exact hy k' (by omega)
  · exact mjl_244_45 ⟨by omega, by omega, fun _ => qn hnone a.1 a.2 hy, fun k => by omega⟩
/-- the reference's sums -/
theorem fm_formS {T : Nat → Nat → Int} {V : Nat → Int} {x2 : Int} {q : Int → mjZ → Prop} (ht : t < 60) (h6 : n ≤ 6) (hV : ∀ k, k < n → Z 491 k = V k ∧ -100 ≤ V k ∧ V k ≤ 100) (hT : ∀ i k, i < n → k < n → Z 470 (36 * t + 6 * i + k) = T i k ∧ -100 ≤ T i k ∧ T i k ≤ 100) (hq : mjW0 (d + 1) 202 [yR 11 464] Z (fun Z3 => mjW0 (d + 1) 203 [yR 11 464, yJ (fmQ n T V)] Z3 (fun Z4 => mjW0 (d + 1) 203 [yR 11 464, yJ (fmS n V)] Z4 (fun Z5 => q 2 Z5)))) : mjL_244_100 (d + 1) (t : Int) x2 (n : Int) 0 0 0 Z q := by
  have hb := fm_bd (T := T) (V := V) h6 (fun k hk => (hV k hk).2) (fun i k hi hk => (hT i k hi hk).2)
  refine lp_fold0 (n := n) (f := fun i (p : Int × Int) => (fo (fun k s => s + V i * T i k * V k) n p.1, p.2 + V i * V i)) (L := fun i p => mjL_244_100 (d + 1) (t : Int) x2 (n : Int) p.1 p.2 i Z q) (a := (0, 0)) (fun i p hi hL => ?_) ?_
  · have v1 := hV i hi
    have b2 := hb.2.1 i hi
    refine mjl_244_100 ?_
    rw [v1.1]
    refine ⟨by omega, by omega, fun h => by omega, fun _ => ⟨by omega, by omega, by omega, ?_⟩⟩
    refine lp_fold0 (n := n) (f := fun k s => s + V i * T i k * V k) (L := fun k s => mjL_244_130 (d + 1) (t : Int) x2 (n : Int) s (p.2 + V i * V i) i k Z q) (a := p.1) (fun k s hk hL2 => ?_) ?_
    · have v2 := hV k hk
      have t1 := hT i k hi hk
      have b1 := hb.1 i k hi hk
      refine mjl_244_130 ⟨by omega, by omega, fun h => by omega, fun _ => ⟨by omega, by omega, fm_number (d := d) ht (by omega) (by omega) ⟨by omega, by omega, ?_⟩⟩⟩
      rw [v1.1, v2.1, t1.1]
      exact ⟨by omega, hL2⟩
    · exact mjl_244_130 ⟨by omega, by omega, fun _ => hL, fun h => by omega⟩
  · have e := fo_pair2 (f := fun i s => fo (fun k s => s + V i * T i k * V k) n s) (g := fun i s => s + V i * V i) (a := (0 : Int)) (b := (0 : Int)) n
    rw [e]
    exact mjl_244_100 ⟨by omega, by omega, fun _ => hq, fun h => by omega⟩
/-- the class's sums -/
theorem fc_formOf {T : Nat → Nat → Int} {V : Nat → Int} {q : Int → mjZ → Prop} (hn : tN Z c n) (hT : ∀ i k, i < n → k < n → tE Z c i k = T i k ∧ -100 ≤ T i k ∧ T i k ≤ 100) (hV : ∀ k, k < n → -100 ≤ V k ∧ V k ≤ 100) (hw : ∀ (k : Nat) (q : Int → mjZ → Prop), k < n → q (V k) Z → mjW1 (d + 4) 35 [yR 2 (2 + 2 * l), yI (k : Int)] Z q) (hq : q (fmQ n T V) Z) : mjW2 (d + 5) 142 [yR 6 c, yR 2 (2 + 2 * l)] Z q := by
  have h0 := hn.1
  have h6 := hn.2.2
  refine mje_142 (d := d + 4) ?_
  refine lp_fold0 (n := n) (f := fun i s => fo (fun k s => s + V i * T i k * V k) n s) (L := fun i s => mjL_142_5 (d + 4) c (2 + 2 * l) s i Z q) (a := 0) (fun i s hi hL => ?_) ?_
  · have v1 := hV i hi
    refine mjl_142_5 ⟨by omega, by omega, fun h => by omega, fun _ => ?_⟩
    refine lp_fold0 (n := n) (f := fun k s => s + V i * T i k * V k) (L := fun k s => mjL_142_17 (d + 4) c (2 + 2 * l) s i k Z q) (a := s) (fun k s hk hL2 => ?_) ?_
    · have v2 := hV k hk
      have t1 := hT i k hi hk
      refine mjl_142_17 ⟨by omega, by omega, fun h => by omega, fun _ => hw i _ hi ⟨by omega, tb_number (d := d + 2) hn hi hk ⟨by omega, hw k _ hk ⟨by omega, ?_⟩⟩⟩⟩
      rw [t1.1]
      exact hL2
    · exact mjl_142_17 ⟨by omega, by omega, fun _ => hL, fun h => by omega⟩
  · exact mjl_142_5 ⟨by omega, by omega, fun _ => hq, fun h => by omega⟩
theorem fc_squares {V : Nat → Int} {q : Int → mjZ → Prop} (h6 : n ≤ 6) (hV : ∀ k, k < n → -100 ≤ V k ∧ V k ≤ 100) (hw : ∀ (k : Nat) (q : Int → mjZ → Prop), k < n → q (V k) Z → mjW1 (d + 4) 35 [yR 2 (2 + 2 * l), yI (k : Int)] Z q) (hq : q (fmS n V) Z) : mjW2 (d + 5) 143 [yR 2 (2 + 2 * l), yI (n : Int)] Z q := by
  refine mje_143 (d := d + 4) ?_
  refine lp_fold0 (n := n) (f := fun i s => s + V i * V i) (L := fun i s => mjL_143_5 (d + 4) (2 + 2 * l) (n : Int) s i Z q) (a := 0) (fun i s hi hL => ?_) ?_
  · have v1 := hV i hi
    exact mjl_143_5 ⟨by omega, by omega, fun h => by omega, fun _ => hw i _ hi ⟨by omega, hw i _ hi ⟨by omega, hL⟩⟩⟩
  · exact mjl_143_5 ⟨by omega, by omega, fun _ => hq, fun h => by omega⟩
end FRM
theorem iv_form_ok : iv_form INV := fun Z x1 x2 hI => by
  obtain ⟨m, a1, a2, a3, a4⟩ := id hI.2.1
  have hx1 := i32r x1
  have hx2 := i32r x2
  generalize x1.toInt = y1 at *
  generalize x2.toInt = y2 at *
  have hL := hI.1
  have bad : ¬ (0 ≤ y1 ∧ y1 < m) ∨ ¬ (0 ≤ y2 ∧ y2 < 16) → mjW1 10 244 [yR 11 464, yI y1, yI y2] Z (fun z' Z2 => Int32.ofInt z' = Int32.ofInt (-101) ∧ INV Z2) := fun h => by
    refine mje_244 (d := 9) (fm_isTable (d := 7) a3 a1 hx1 ?_)
    by_cases h1 : 0 ≤ y1 ∧ y1 < m
    · rw [if_pos h1]
      refine ⟨by omega, fun g => by omega, fun _ => fm_isLeaf (d := 7) hx2 ?_⟩
      rw [if_neg (by omega)]
      exact ⟨by omega, fun g => absurd rfl g, fun _ => ⟨rfl, hI⟩⟩
    · rw [if_neg h1]
      exact ⟨by omega, fun _ => ⟨rfl, hI⟩, fun g => absurd rfl g⟩
  refine mje_141 (d := 9) (fc_tableAt (d := 8) a2 a1 hx1 (fun h => ?_) fun t ht htm => ?_)
  · exact fc_leafAt (d := 8) hx2 (fun _ => bad (Or.inl h)) fun l hl h16 => bad (Or.inl h)
  refine fc_leafAt (d := 8) hx2 (fun h => bad (Or.inr h)) fun l hl h16 => ?_
  obtain ⟨n, b1, b2, b3, b4, b5, b6, b7⟩ := a4 t htm
  have h1 := b1.2.1
  have h6 := b1.2.2
  have b10 := b1.1
  have lf := hL l h16
  have lo := lf.2.1
  have hi8 := lf.2.2.1
  -- the reference's way in
  have ref0 : ∀ (Z1 : mjZ) (Q : Int → mjZ → Prop), (∀ c, 464 ≤ c → c < 474 → Z1 c = Z c) → (Z 465 l = -1 → Q (-11) (fdM 1 (whM 0 Z1))) → (0 ≤ Z 465 l → mjL_244_45 9 y1 y2 (n : Int) ((0 : Nat) : Int) Z1 Q) → mjW1 10 244 [yR 11 464, yI y1, yI y2] Z1 Q := fun Z1 Q e q1 q2 => by
    refine mje_244 (d := 9) (fm_isTable (d := 7) (m := m) (by rw [e _ (by omega) (by omega)]; exact a3) a1 hx1 ?_)
    rw [if_pos (by omega)]
    refine ⟨by omega, fun g => by omega, fun _ => fm_isLeaf (d := 7) hx2 ?_⟩
    rw [if_pos (by omega), e 465 (by omega) (by omega), e 469 (by omega) (by omega), show y2.toNat = l by omega, show y1.toNat = t by omega, b2]
    exact ⟨by omega, fun _ => ⟨by omega, by omega, by omega, fun g => ⟨by omega, by omega, q2 (by omega)⟩, fun g => fm_findsAt (d := 7) (f := 1) (by omega) (q1 (by omega))⟩, fun g => absurd g (by decide)⟩
  refine mje_19 (d := 8) ?_
  rw [lf.1]
  refine ⟨by omega, fun k0 => ⟨by omega, fun _ => ?_, fun k => absurd rfl k⟩, fun k0 => ⟨by omega, fun k => absurd k (by decide), fun _ => fc_foundAt (d := 7) (f := 1) (by omega) ?_⟩⟩
  · obtain ⟨d1, d2, d3, d4⟩ := lf.2.2.2 k0
    have hw0 : ∀ (Z1 : mjZ), Z1 (2 + 2 * l) = Z (2 + 2 * l) → Z1 (3 + 2 * l) = Z (3 + 2 * l) → sr (tqP Z l) n 0 = none → ∀ (k : Nat) (q : Int → mjZ → Prop), k < n → q (tbV Z 0 l k) Z1 → mjW1 8 35 [yR 2 (2 + 2 * l), yI (k : Int)] Z1 q := fun Z1 e1 e2 hnone k q hk hq => by
      have h2 := (sr_none n 0).mp hnone k (Nat.zero_le _) (by omega)
      unfold tqP at h2
      have g2 : tbF Z l k = 0 := Decidable.byContradiction fun g => by rw [if_neg g] at h2; cases h2
      unfold tbF at g2
      have g3 : (k : Int) < Z 465 l := Decidable.byContradiction fun g => by rw [if_neg g] at g2; cases g2
      rw [if_pos g3] at g2
      have c3 : Z1 (2 + 2 * l + 1) = Z (3 + 2 * l) := by rw [show 2 + 2 * l + 1 = 3 + 2 * l by omega]; exact e2
      unfold tbV at hq
      rw [Nat.zero_add] at hq
      refine lf_whole (d := 4) (a := Z 466 l) (len := Z 465 l) (by rw [e1]; exact d1) ⟨d2, d3⟩ (by rw [e1]; exact lf.1) hi8 g3 (by omega) (by rw [c3]; exact (d4 k (by omega)).1) (by rw [c3]; exact g2) ?_
      rw [c3]
      exact hq
    have hV : sr (tqP Z l) n 0 = none → ∀ k, k < n → -100 ≤ tbV Z 0 l k ∧ tbV Z 0 l k ≤ 100 := fun hnone k hk => by
      have h2 := (sr_none n 0).mp hnone k (Nat.zero_le _) (by omega)
      unfold tqP at h2
      have g2 : tbF Z l k = 0 := Decidable.byContradiction fun g => by rw [if_neg g] at h2; cases h2
      unfold tbF at g2
      have g3 : (k : Int) < Z 465 l := Decidable.byContradiction fun g => by rw [if_neg g] at g2; cases g2
      rw [if_pos g3] at g2
      unfold tbV
      rw [Nat.zero_add]
      exact lfnV_bd g2
    have hT2 : ∀ i k, i < n → k < n → -100 ≤ Z 470 (36 * t + 6 * i + k) ∧ Z 470 (36 * t + 6 * i + k) ≤ 100 := fun i k hi hk => by
      rw [← (b4 i k hi hk).1]
      exact (b4 i k hi hk).2
    have c3 : Z (2 + 2 * l + 1) = Z (3 + 2 * l) := by rw [show 2 + 2 * l + 1 = 3 + 2 * l by omega]
    refine lp_find (n := n) (P := tqP Z l) (L := fun k => mjL_141_43 9 y1 y2 (35 + 2 * t) (2 + 2 * l) k Z _) (E := fun r => mjW1 10 244 [yR 11 464, yI y1, yI y2] (fdC r.1 (whC (r.2 : Int) Z)) (fun z' Z2 => Int32.ofInt z' = Int32.ofInt (-10 - (r.1 : Int)) ∧ INV Z2)) (fun k hk hLk hEk => ?_) (fun hnone => ?_) (fun r hr => ?_)
    · have hF0 : tqP Z l k = if tbF Z l k = 0 then none else some (tbF Z l k, k) := rfl
      have hlt := @tbF_le Z l k
      have stop : ∀ f : Nat, f = tbF Z l k → f ≠ 0 → mjW1 9 28 [yR 10 0, yI (f : Int), yI (k : Int)] Z (fun v Z1 => mjW1 10 244 [yR 11 464, yI y1, yI y2] Z1 (fun z' Z2 => Int32.ofInt z' = Int32.ofInt v ∧ INV Z2)) := fun f hf h0 => by
        rw [if_neg (by omega)] at hF0
        have := hEk _ hF0
        rw [← hf] at this
        exact fc_foundAt (d := 7) (by omega) this
      refine mjl_141_43 ?_
      rw [b10]
      refine ⟨by omega, by omega, fun h => by omega, fun _ => ?_⟩
      refine lf_fault (d := 4) (a := Z 466 l) (len := Z 465 l) d1 ⟨d2, d3⟩ lf.1 hi8 lo (by omega) (by rw [c3]; exact (d4 k (by omega)).1) (fun g0 => ?_) (fun g0 => ?_)
      · have hF : tbF Z l k = 2 := if_neg g0
        exact ⟨by omega, fun k => absurd k (by decide), fun _ => stop 2 hF.symm (by decide)⟩
      · rw [c3]
        have hF : tbF Z l k = lfnF (Z 466 l) (Z (3 + 2 * l) k) := if_pos g0
        exact ⟨by omega, fun g1 => hLk (by rw [hF0, if_pos (by omega)]), fun g1 => stop _ hF.symm (by omega)⟩
    · have hb := fm_bd (T := fun i k => Z 470 (36 * t + 6 * i + k)) (V := tbV Z 0 l) h6 (hV hnone) hT2
      refine mjl_141_43 ?_
      rw [b10]
      refine ⟨by omega, by omega, fun _ => ?_, fun h => by omega⟩
      refine fc_formOf (d := 4) (l := l) (T := fun i k => Z 470 (36 * t + 6 * i + k)) (V := tbV Z 0 l) b1 (fun i k hi hk => ⟨(b4 i k hi hk).1, hT2 i k hi hk⟩) (hV hnone) (hw0 Z rfl rfl hnone) ?_
      refine bg_become (d := 6) (R := 12) (bgR12 (i := 0) (by decide)) (by omega) fun Z4 h1 h2 => ?_
      have e40 : Z4 (35 + 2 * t) 0 = (n : Int) := by rw [h1 _ (by omega) (by omega)]; exact b10
      rw [e40]
      refine fc_squares (d := 4) (l := l) (V := tbV Z 0 l) h6 (hV hnone) (hw0 Z4 (h1 _ (by omega) (by omega)) (h1 _ (by omega) (by omega)) hnone) ?_
      refine bg_become (d := 6) (R := 12) (bgR12 (i := 1) (by decide)) (by omega) fun Z6 h3 h4 => ?_
      have f1 : ∀ c, c ≠ 156 → c ≠ 157 → c ≠ 158 → c ≠ 159 → Z6 c = Z c := fun c g1 g2 g3 g4 => by rw [h3 c g3 g4, h1 c g1 g2]
      have f2 : ∀ c, c ≠ 0 → c ≠ 156 → c ≠ 157 → c ≠ 158 → c ≠ 159 → mjUp Z6 0 4 2 c = Z c := fun c g0 g1 g2 g3 g4 => by rw [mjUp_nc g0, f1 c g1 g2 g3 g4]
      refine ref0 _ _ (fun c g1 g2 => f2 c (by omega) (by omega) (by omega) (by omega) (by omega)) (fun g => by omega) fun _ => ?_
      refine fm_formL (d := 7) (l := l) h16 hl hL k0 (f2 _ (by decide) (by decide) (by decide) (by decide) (by decide)) (f2 _ (by decide) (by decide) (by decide) (by decide) (by decide)) (f2 _ (by decide) (by decide) (by decide) (by decide) (by decide)) h6 (fun f p hs => by rw [hnone] at hs; cases hs) fun _ g tk hg => ?_
      rw [ht]
      refine fm_formS (d := 8) (T := fun i k => Z 470 (36 * t + 6 * i + k)) (V := tbV Z 0 l) (by omega) h6 (fun k hk => ⟨by rw [tkQ_at]; exact hg k hk, hV hnone k hk⟩) (fun i k hi hk => ⟨by rw [tkQ_ne (by decide) (by decide), f2 _ (by decide) (by decide) (by decide) (by decide) (by decide)], hT2 i k hi hk⟩) ?_
      refine mje_202 (d := 8) (mje_203 (d := 8) ?_)
      rw [mjUp_at]
      refine fm_set (d := 7) (i := 0) (by decide) (by omega) fun Zd h5 h7 => ?_
      have w1 : Zd 464 18 = 0 := by rw [h5.1 464 (by decide) (by decide) (by decide), mjUp_at]
      rw [w1]
      refine mje_203 (d := 8) ?_
      rw [mjUp_at]
      refine fm_set (d := 7) (i := 1) (by decide) (by omega) fun Zf h8 h9 => ?_
      have w2 : Zf 464 18 = 1 := by rw [h8.1 464 (by decide) (by decide) (by decide), mjUp_at]; rfl
      rw [w2]
      have z1 : ∀ c, c ≠ 464 → c ≠ 474 → c ≠ 475 → c ≠ 476 → c ≠ 491 → Zf c = mjUp Z6 0 4 2 c := fun c g1 g2 g3 g4 g5 => by rw [h8.1 c g2 g3 g4, mjUp_nc g1, h5.1 c g2 g3 g4, mjUp_nc g1, tkQ_ne g1 g5]
      have z4 : ∀ k, k ≠ 12 → k ≠ 18 → Zf 464 k = Z 464 k := fun k g1 g2 => by rw [h8.1 464 (by decide) (by decide) (by decide), mjUp_ne fun _ => g2, h5.1 464 (by decide) (by decide) (by decide), mjUp_ne fun _ => g2, tkQ_4 g1, f2 464 (by decide) (by decide) (by decide) (by decide) (by decide)]
      refine ⟨rfl, INV_ansN (m := 2) (x := fun i => if i = 0 then fmQ n (fun i k => Z 470 (36 * t + 6 * i + k)) (tbV Z 0 l) else fmS n (tbV Z 0 l)) hI (fun c g0 g1 => ?_) ?_ (fun k hk => ?_) (fun k hk => ?_) (by decide) ?_ ?_ (fun i hi => ?_) (fun i hi => ?_)⟩
      · rw [mjUp_nc (by omega), z1 c (by omega) (by omega) (by omega) (by omega) (by omega), f2 c g0 (by omega) (by omega) (by omega) (by omega)]
      · rw [mjUp_nc (by decide), z1 _ (by decide) (by decide) (by decide) (by decide) (by decide), f2 _ (by decide) (by decide) (by decide) (by decide) (by decide)]
      · rw [mjUp_nc (by decide), z1 0 (by decide) (by decide) (by decide) (by decide) (by decide), mjUp_ne fun _ => hk, f1 0 (by decide) (by decide) (by decide) (by decide)]
      · rw [mjUp_ne fun _ => by omega, z4 k (by omega) (by omega)]
      · rw [mjUp_nc (by decide), z1 0 (by decide) (by decide) (by decide) (by decide) (by decide), mjUp_at]; rfl
      · rw [mjUp_at]; rfl
      · have ez : ∀ c, 156 ≤ c → c < 160 → mjUp Zf 464 18 (1 + 1) c = Z6 c := fun c g1 g2 => by rw [mjUp_nc (by omega), z1 c (by omega) (by omega) (by omega) (by omega) (by omega), mjUp_nc (by omega)]
        rcases Nat.eq_or_lt_of_le (show i ≤ 1 by omega) with k | k
        · subst k
          exact bgIs_congr h4 (ez _ (by decide) (by decide)) (ez _ (by decide) (by decide))
        · have : i = 0 := by omega
          subst this
          exact bgIs_congr (bgIs_congr h2 (h3 156 (by decide) (by decide)) (h3 157 (by decide) (by decide))) (ez _ (by decide) (by decide)) (ez _ (by decide) (by decide))
      · rcases Nat.eq_or_lt_of_le (show i ≤ 1 by omega) with k | k
        · subst k
          exact h9.fr (fun k hk => by rw [mjUp_nc (by decide)]) (by rw [mjUp_nc (by decide)]) (by rw [mjUp_nc (by decide)])
        · have : i = 0 := by omega
          subst this
          refine h7.fr (fun k hk => ?_) ?_ ?_
          · rw [mjUp_nc (by decide), h8.2.2 _ (by omega), mjUp_nc (by decide)]
          · rw [mjUp_nc (by decide), (h8.2.1 0 (by decide)).1, mjUp_nc (by decide)]
          · rw [mjUp_nc (by decide), (h8.2.1 0 (by decide)).2, mjUp_nc (by decide)]
    · obtain ⟨f, p⟩ := r
      have hf7 : f < 9 := by
        obtain ⟨k, g1, g2, g3⟩ := sr_some n 0 hr
        unfold tqP at g3
        by_cases g : tbF Z l k = 0
        · rw [if_pos g] at g3; cases g3
        · rw [if_neg g] at g3
          have e2 : tbF Z l k = f := congrArg Prod.fst (Option.some.inj g3)
          have := @tbF_le Z l k
          omega
      have ez : ∀ c, 464 ≤ c → fdC f (whC (p : Int) Z) c = Z c := fun c hc => by
        rw [fdC_ne (by omega) (by omega)]
        unfold whC
        rw [mjUp_nc (by omega)]
      refine ref0 _ _ (fun c g1 g2 => ez c g1) (fun g => by omega) fun _ => ?_
      refine fm_formL (d := 7) (l := l) h16 hl hL k0 (ez _ (by decide)) (ez _ (by decide)) (ez _ (by decide)) h6 (fun f' p' hs g tk => ?_) fun hn => by rw [hr] at hn; cases hn
      rw [hr] at hs
      have e := Option.some.inj hs
      have e1 : f = f' := congrArg Prod.fst e
      have e2 : p = p' := congrArg Prod.snd e
      subst e1 e2
      exact ⟨rfl, INV_fdq hf7 hI⟩
  · refine ref0 _ _ (fun c g1 g2 => ?_) (fun g => ⟨rfl, ?_⟩) fun g => absurd g k0
    · rw [fdC_ne (by omega) (by omega)]
      unfold whC
      rw [mjUp_nc (by omega)]
    · have h := INV_fdq (f := 1) (p := 0) (t := Z 464 12) (g := Z 491) (by decide) hI
      have e : tkQ (fdC 1 (whC 0 Z)) (Z 491) (Z 464 12) = fdC 1 (whC 0 Z) := by
        have e1 : Z 491 = fdC 1 (whC 0 Z) 491 := by
          rw [fdC_ne (by decide) (by decide)]
          unfold whC
          rw [mjUp_nc (by decide)]
        have e2 : Z 464 = fdC 1 (whC 0 Z) 464 := by
          rw [fdC_ne (by decide) (by decide)]
          unfold whC
          rw [mjUp_nc (by decide)]
        rw [e1, e2]
        exact tkQ_self.symm
      rw [e] at h
      exact h
