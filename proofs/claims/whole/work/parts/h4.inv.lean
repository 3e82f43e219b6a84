/-! The way's invariant: pivots, weights, upright rows. -/
def tL (s : Nat) (f : Bool) : Nat := match s with
  | 0 => 1
  | 1 => bif f then 2 else 1
  | 2 => bif f then 20 else 2
  | 3 => bif f then 960000 else 20
  | 4 => bif f then 384000000000 else 960000
  | _ => 384000000000
theorem tL_mono (s : Nat) (f : Bool) : tL s f ≤ tL (s + 1) false := by
  match s, f with
  | 0, true => decide
  | 0, false => decide
  | 1, true => decide
  | 1, false => decide
  | 2, true => decide
  | 2, false => decide
  | 3, true => decide
  | 3, false => decide
  | 4, true => decide
  | 4, false => decide
  | s + 5, f => exact Nat.le_refl _
theorem tL_X {s : Nat} {f : Bool} (h : s ≤ 4) : fct (s + 1) * 100 ^ s * tL s f * tL s f ≤ 2 ^ 111 := by
  match s, f with
  | 0, true => decide
  | 0, false => decide
  | 1, true => decide
  | 1, false => decide
  | 2, true => decide
  | 2, false => decide
  | 3, true => decide
  | 3, false => decide
  | 4, true => decide +kernel
  | 4, false => decide +kernel
  | s + 5, f => omega
theorem tL_X5 {s : Nat} {f : Bool} (h : s ≤ 5) : fct (s + 1) * 100 ^ s * tL s f * tL s f ≤ 2 ^ 120 := by
  by_cases g : s ≤ 4
  · exact Nat.le_trans (tL_X g) (by decide +kernel)
  · have : s = 5 := by omega
    subst this
    cases f <;> decide +kernel
def wyI (n : Nat) (T : Nat → Nat → Int) (i s : Nat) (R F : Nat → Nat → Int) (w pi : Nat → Nat) (f : Bool) : Prop := s ≤ i ∧ dt s (grm n T F) ≠ 0 ∧ (∀ a, a < s → l1 n (F a) ≤ (w a : Int)) ∧ pr s w ≤ tL s f ∧ (∀ l, i ≤ l → l < n → pi l < n ∧ (∃ m x p, wyQ n s T F (ue (pi l)) (R l) m x p) ∧ prm n (R l)) ∧ (∀ l l', i ≤ l → l < n → i ≤ l' → l' < n → pi l = pi l' → l = l') ∧ (s = 1 → f = false → ∃ e, e < n ∧ (∀ j, j < n → F 0 j = ue e j) ∧ ∀ l, i ≤ l → l < n → pi l ≠ e) ∧ (f = true → ∃ l, i ≤ l ∧ l < n ∧ bfv n T (R l) (R l) ≠ 0)
theorem l1_ue {n e : Nat} : l1 n (ue e) ≤ 1 := by
  have : l1 n (ue e) = sm n fun j => (if j = e then 1 else 0) * (1 : Int) := sm_eq n fun j _ => by
    unfold ue
    by_cases h : j = e
    · rw [if_pos h]; rfl
    · rw [if_neg h]; rfl
  rw [this, sm_unit (f := fun _ => (1 : Int))]
  split <;> omega
section WI
variable {n i s : Nat} {T R F : Nat → Nat → Int} {w pi : Nat → Nat} {f : Bool}
theorem wyQ_F {F' : Nat → Nat → Int} {g r : Nat → Int} {m x : Int} {p : Nat → Int} (h : wyQ n s T F g r m x p) (hF : ∀ a, a < s → F' a = F a) : wyQ n s T F' g r m x p := by
  obtain ⟨h1, h2, h3, h4⟩ := h
  refine ⟨h1, h2, fun j hj => ?_, fun a ha => by rw [hF a ha]; exact h4 a ha⟩
  rw [h3 j hj]
  congr 1
  exact sm_eq s fun a ha => by rw [hF a ha]
theorem grm_F {F' : Nat → Nat → Int} (hF : ∀ a, a < s → F' a = F a) : dt s (grm n T F') = dt s (grm n T F) := dt_congr s _ _ fun a b ha hb => by
  unfold grm
  rw [hF a ha, hF b hb]
theorem pr_F {w' : Nat → Nat} (hw : ∀ a, a < s → w' a = w a) : pr s w' = pr s w := by
  have e : ∀ m, m ≤ s → pr m w' = pr m w := by
    intro m
    induction m with
    | zero => intro _; rfl
    | succ m ih =>
      intro hm
      show pr m w' * w' m = pr m w * w m
      rw [ih (by omega), hw m (by omega)]
  exact e s (Nat.le_refl _)
/-- the upright vectors are multiples of the rows; how great they are -/
theorem wyI_par (hS : tSym n T) (hT : ∀ i k, i < n → k < n → -100 ≤ T i k ∧ T i k ≤ 100) (h : wyI n T i s R F w pi f) {l : Nat} (hl : i ≤ l) (hl2 : l < n) : ∃ t : Int, t ≠ 0 ∧ (∀ j, j < n → wv n s T F (ue (pi l)) j = t * R l j) ∧ (∀ j, j < n → bgA (R l j) ≤ ((fct (s + 1) * 100 ^ s * pr s w * pr s w : Nat) : Int)) ∧ bgA t ≤ ((fct (s + 1) * 100 ^ s * pr s w * pr s w : Nat) : Int) := by
  obtain ⟨h1, h2, h3, h4, h5, h6, h7, h8⟩ := h
  obtain ⟨k1, ⟨m, x, p, k2⟩, k3⟩ := h5 l hl hl2
  obtain ⟨t, t1, t2⟩ := wy_prim hS h2 k2 k3
  have hb : ∀ j, j < n → bgA (wv n s T F (ue (pi l)) j) ≤ ((fct (s + 1) * 100 ^ s * pr s w * pr s w : Nat) : Int) := fun j hj => wv_bd hT h3 l1_ue hj
  exact ⟨t, t1, t2, prim_bd t1 t2 hb, prim_t t2 hb k3⟩
theorem wyI_bd (hS : tSym n T) (hT : ∀ i k, i < n → k < n → -100 ≤ T i k ∧ T i k ≤ 100) (h : wyI n T i s R F w pi f) {l j : Nat} (hl : i ≤ l) (hl2 : l < n) (hj : j < n) : bgA (R l j) ≤ ((fct (s + 1) * 100 ^ s * tL s f * tL s f : Nat) : Int) := by
  obtain ⟨t, t1, t2, t3, t4⟩ := wyI_par hS hT h hl hl2
  refine Int.le_trans (t3 j hj) (Int.ofNat_le.mpr ?_)
  exact Nat.mul_le_mul (Nat.mul_le_mul_left _ h.2.2.2.1) h.2.2.2.1
/-- a pivot that meets itself -/
theorem wyI_piv (hS : tSym n T) (h : wyI n T i s R F w pi f) (hd : idp n R) {k : Nat} (hk : i ≤ k) (hkn : k < n) (hB : bfv n T (R k) (R k) ≠ 0) : wyI n T (i + 1) (s + 1) (wyZ n T i n (wyX i k R)) (va_up F s (ue (pi k))) (va_up w s 1) (fun l => pi (if l = k then i else l)) false := by
  have hi : i < n := by omega
  have hd1 := idp_swap hd hi hkn
  obtain ⟨h1, h2, h3, h4, h5, h6, h7, h8⟩ := h
  have eF : ∀ a, a < s → (va_up F s (ue (pi k))) a = F a := fun a ha => va_up_ne _ _ (by omega)
  have eFs : (va_up F s (ue (pi k))) s = ue (pi k) := va_up_self _ _ _
  have ew : ∀ a, a < s → (va_up w s 1) a = w a := fun a ha => va_up_ne _ _ (by omega)
  obtain ⟨c1, ⟨m, x, p, c2⟩, c3⟩ := h5 k hk hkn
  have c2' := wyQ_F c2 eF
  have hd' : dt s (grm n T (va_up F s (ue (pi k)))) ≠ 0 := by rw [grm_F eF]; exact h2
  have e1 : wyX i k R i = R k := if_pos rfl
  have el : ∀ l, i < l → l < n → wyX i k R l = R (if l = k then i else l) := fun l h1 h2 => by
    unfold wyX
    rw [if_neg (by omega)]
    by_cases g : l = k
    · rw [if_pos g, if_pos g]
    · rw [if_neg g, if_neg g]
  refine ⟨by omega, piv_nz hS hd' c2' hB (fun j _ => by rw [eFs]), fun a ha => ?_, ?_, fun l hl hl2 => ?_, fun l l' g1 g2 g3 g4 g5 => ?_, fun hs1 _ => ?_, fun g => absurd g (by decide)⟩
  · by_cases g : a = s
    · subst g; rw [va_up_self, va_up_self]; exact l1_ue
    · rw [va_up_ne _ _ g, va_up_ne _ _ g]; exact h3 a (by omega)
  · show pr s _ * va_up w s 1 s ≤ _
    rw [va_up_self, Nat.mul_one, pr_F ew]
    exact Nat.le_trans h4 (tL_mono s f)
  · have q : i ≤ (if l = k then i else l) ∧ (if l = k then i else l) < n := by split <;> omega
    obtain ⟨d1, ⟨m', x', p', d2⟩, d3⟩ := h5 _ q.1 q.2
    have ez : wyZ n T i n (wyX i k R) l = wyN n T (R k) (R (if l = k then i else l)) := by
      unfold wyZ
      rw [if_pos (by omega), e1, el l (by omega) hl2]
    have hz := cnt_idp (T := T) (i := i) (k := l) hd1 hi hl2 (by omega) (by rw [e1]; exact hB)
    rw [e1, el l (by omega) hl2] at hz
    rw [ez]
    exact ⟨d1, wy_step hS c2' hB (fun j _ => by rw [eFs]) (wyQ_F d2 eF) d3 hz⟩
  · have q := h6 _ _ (show i ≤ (if l = k then i else l) by split <;> omega) (show (if l = k then i else l) < n by split <;> omega) (show i ≤ (if l' = k then i else l') by split <;> omega) (show (if l' = k then i else l') < n by split <;> omega) g5
    by_cases k1 : l = k <;> by_cases k2 : l' = k
    · omega
    · rw [if_pos k1, if_neg k2] at q; omega
    · rw [if_neg k1, if_pos k2] at q; omega
    · rw [if_neg k1, if_neg k2] at q; exact q
  · have s0 : s = 0 := by omega
    refine ⟨pi k, c1, fun j _ => by subst s0; rw [va_up_self], fun l g1 g2 q => ?_⟩
    have := h6 _ _ (show i ≤ (if l = k then i else l) by split <;> omega) (show (if l = k then i else l) < n by split <;> omega) hk hkn q
    by_cases k1 : l = k
    · rw [if_pos k1] at this; omega
    · rw [if_neg k1] at this; omega
/-- with a pivot made of two rows that meet each other alone -/
theorem wyI_addG (hS : tSym n T) (h : wyI n T i s R F w pi f) (hd : idp n R) {k W : Nat} (hk : i < k) (hkn : k < n) (h0 : ∀ l, i ≤ l → l < n → bfv n T (R l) (R l) = 0) (hb : bfv n T (R k) (R i) ≠ 0) {g : Nat → Int} {m x : Int} {p : Nat → Int} (hQ : wyQ n s T F g (fun j => R i j + R k j) m x p) (hg : l1 n g ≤ (W : Int)) (hW : pr s w * W ≤ tL (s + 1) true) : wyI n T (i + 1) (s + 1) (wyZ n T i n (wyD i k R)) (va_up F s g) (va_up w s W) pi true := by
  have hi : i < n := by omega
  have hd1 := idp_add hd hi hkn (by omega)
  obtain ⟨h1, h2, h3, h4, h5, h6, h7, h8⟩ := h
  have eF : ∀ a, a < s → (va_up F s g) a = F a := fun a ha => va_up_ne _ _ (by omega)
  have eFs : (va_up F s g) s = g := va_up_self _ _ _
  have ew : ∀ a, a < s → (va_up w s W) a = w a := fun a ha => va_up_ne _ _ (by omega)
  have hQ' := wyQ_F hQ eF
  have hd' : dt s (grm n T (va_up F s g)) ≠ 0 := by rw [grm_F eF]; exact h2
  have e1 : wyD i k R i = fun j => R i j + R k j := if_pos rfl
  have el : ∀ l, i < l → wyD i k R l = R l := fun l h1 => if_neg (by omega)
  have hbs : bfv n T (R i) (R k) = bfv n T (R k) (R i) := bfv_symm hS _ _
  have hBB : bfv n T (fun j => R i j + R k j) (fun j => R i j + R k j) = 2 * bfv n T (R k) (R i) := by
    rw [bfv_addl, bfv_addr hS, bfv_addr hS, h0 i (Nat.le_refl _) hi, h0 k (by omega) hkn, hbs]
    omega
  have hB : bfv n T (fun j => R i j + R k j) (fun j => R i j + R k j) ≠ 0 := by rw [hBB]; omega
  have hc : bfv n T (R k) (fun j => R i j + R k j) = bfv n T (R k) (R i) := by rw [bfv_addr hS, h0 k (by omega) hkn, Int.add_zero]
  have ez : ∀ l, i < l → l < n → wyZ n T i n (wyD i k R) l = wyN n T (fun j => R i j + R k j) (R l) := fun l g1 g2 => by
    unfold wyZ
    rw [if_pos ⟨g1, g2⟩, e1, el l g1]
  have hz : ∀ l, i < l → l < n → cnt n (wyV n T (fun j => R i j + R k j) (R l)) ≠ 0 := fun l g1 g2 => by
    have := cnt_idp (T := T) (i := i) (k := l) hd1 hi g2 (by omega) (by rw [e1]; exact hB)
    rw [e1, el l g1] at this
    exact this
  refine ⟨by omega, piv_nz hS hd' hQ' hB (fun j _ => by rw [eFs]), fun a ha => ?_, ?_, fun l hl hl2 => ?_, fun l l' g1 g2 g3 g4 g5 => h6 l l' (by omega) g2 (by omega) g4 g5, fun _ q => absurd q (by decide), fun _ => ⟨k, by omega, hkn, ?_⟩⟩
  · by_cases q : a = s
    · subst q; rw [va_up_self, va_up_self]; exact hg
    · rw [va_up_ne _ _ q, va_up_ne _ _ q]; exact h3 a (by omega)
  · show pr s _ * va_up w s W s ≤ _
    rw [va_up_self, pr_F ew]
    exact hW
  · obtain ⟨d1, ⟨m', x', p', d2⟩, d3⟩ := h5 l (by omega) hl2
    rw [ez l (by omega) hl2]
    exact ⟨d1, wy_step hS hQ' hB (fun j _ => by rw [eFs]) (wyQ_F d2 eF) d3 (hz l (by omega) hl2)⟩
  · rw [ez k hk hkn]
    have hzk := hz k hk hkn
    obtain ⟨al, be, g', a1, a2, a3, a4, a5⟩ := wyV_ex (r := R k) hB
    rw [hBB] at a3
    rw [hc] at a4
    have hal : al = 2 * be := by
      refine Int.eq_of_mul_eq_mul_right a2 ?_
      rw [a3, Int.mul_assoc, a4]
    have hbe : be ≠ 0 := fun q => by rw [q, Int.zero_mul] at a4; exact hb a4.symm
    have hN : ∀ j, j < n → (cnt n (wyV n T (fun j => R i j + R k j) (R k)) : Int) * wyN n T (fun j => R i j + R k j) (R k) j = be * (R k j + -1 * R i j) := fun j hj => by
      unfold wyN
      rw [if_neg (by rw [hc]; exact hb)]
      have := Int.mul_ediv_cancel' (cnt_dvd (v := wyV n T (fun j => R i j + R k j) (R k)) n j hj)
      rw [this, a5, hal]
      dsimp only
      grind
    intro q
    have e : (cnt n (wyV n T (fun j => R i j + R k j) (R k)) : Int) * ((cnt n (wyV n T (fun j => R i j + R k j) (R k)) : Int) * bfv n T (wyN n T (fun j => R i j + R k j) (R k)) (wyN n T (fun j => R i j + R k j) (R k))) = be * (be * (-2 * bfv n T (R k) (R i))) := by
      rw [← bfv_mulr hS, ← bfv_mull, bfv_congr (fun j hj => hN j hj) fun j hj => hN j hj, bfv_mull, bfv_mulr hS, bfv_addl, bfv_mull, bfv_addr hS, bfv_addr hS, bfv_mulr hS, bfv_mulr hS, h0 i (Nat.le_refl _) hi, h0 k (by omega) hkn, hbs]
      grind
    rw [q, Int.mul_zero, Int.mul_zero] at e
    rcases Int.mul_eq_zero.mp e.symm with q | q
    · exact hbe q
    · rcases Int.mul_eq_zero.mp q with q | q
      · exact hbe q
      · omega
end WI
