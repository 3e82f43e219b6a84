/-! The way keeps its invariant. -/
theorem l1_add {n : Nat} {u v : Nat → Int} : l1 n (fun j => u j + v j) ≤ l1 n u + l1 n v := by
  unfold l1
  rw [← sm_add]
  exact sm_le n fun j _ => bgA_le
theorem l1_mul {n : Nat} {v : Nat → Int} {c : Int} : l1 n (fun j => c * v j) = bgA c * l1 n v := by
  unfold l1
  rw [← sm_mul]
  exact sm_eq n fun j _ => bgA_mulE _ _
theorem l1_cue {n e : Nat} {c : Int} : l1 n (fun j => c * ue e j) ≤ bgA c := by
  rw [l1_mul]
  have := Int.mul_le_mul_of_nonneg_left (@l1_ue n e) (bgA_nn c)
  omega
theorem ten_of {r x d b t al be : Int} (h1 : al * r + be * x = 1) (h2 : r * d + x * b = 0) (h3 : r * b + x * t = 0) (hd : d ≠ 0) (hd2 : bgA d ≤ 100) : bgA x ≤ 10 := by
  have e1 : d = x * (be * d - al * b) := by grind
  have hx : x ≠ 0 := fun k => by rw [k, Int.zero_mul] at e1; exact hd e1
  have e2 : r * (be * d - al * b) = -b := by
    refine Int.eq_of_mul_eq_mul_left hx ?_
    have : x * (r * (be * d - al * b)) = r * (x * (be * d - al * b)) := by grind
    rw [this, ← e1]
    grind
  have e3 : r * r * (be * d - al * b) = x * t := by
    have : r * r * (be * d - al * b) = r * (r * (be * d - al * b)) := by grind
    rw [this, e2]
    grind
  have e4 : be * d - al * b = x * (al * al * t + (2 * al * be * r + be * be * x) * (be * d - al * b)) := by
    have : be * d - al * b = (al * r + be * x) * (al * r + be * x) * (be * d - al * b) := by rw [h1]; grind
    conv => lhs; rw [this]
    have : (al * r + be * x) * (al * r + be * x) * (be * d - al * b) = al * al * (r * r * (be * d - al * b)) + x * ((2 * al * be * r + be * be * x) * (be * d - al * b)) := by grind
    rw [this, e3]
    grind
  generalize hy : al * al * t + (2 * al * be * r + be * be * x) * (be * d - al * b) = y at e4
  rw [e4] at e1
  have hy0 : y ≠ 0 := fun k => by rw [k, Int.mul_zero, Int.mul_zero] at e1; exact hd e1
  have e5 : bgA d = bgA x * (bgA x * bgA y) := by rw [e1, bgA_mulE, bgA_mulE]
  have y1 : 1 ≤ bgA y := by unfold bgA; split <;> omega
  have x0 := bgA_nn x
  have e6 : bgA x * (bgA x * 1) ≤ bgA x * (bgA x * bgA y) := Int.mul_le_mul_of_nonneg_left (Int.mul_le_mul_of_nonneg_left y1 x0) x0
  rw [← e5, Int.mul_one] at e6
  rcases Int.lt_or_le 10 (bgA x) with k | k
  · have : 11 * 11 ≤ bgA x * bgA x := Int.mul_le_mul (by omega) (by omega) (by decide) x0
    omega
  · exact k
theorem sm_two {n e1 e2 : Nat} {c1 c2 : Int} {u : Nat → Int} (h1 : e1 < n) (h2 : e2 < n) : sm n (fun j => u j * (c1 * ue e1 j + c2 * ue e2 j)) = c1 * u e1 + c2 * u e2 := by
  have e : sm n (fun j => u j * (c1 * ue e1 j + c2 * ue e2 j)) = c1 * sm n (fun j => ue e1 j * u j) + c2 * sm n (fun j => ue e2 j * u j) := by
    rw [← sm_mul, ← sm_mul, ← sm_add]
    exact sm_eq n fun j _ => by grind
  have k : ∀ e, e < n → sm n (fun j => ue e j * u j) = u e := fun e he => by
    have := sm_unit (f := u) (e := e) n
    rw [if_pos he] at this
    exact this
  rw [e, k e1 h1, k e2 h2]
section KP
variable {n i s : Nat} {T R F : Nat → Nat → Int} {w pi : Nat → Nat}
/-- two rows that meet each other alone, taken together: what they are made of -/
theorem wyI_add (hS : tSym n T) (hT : ∀ i k, i < n → k < n → -100 ≤ T i k ∧ T i k ≤ 100) (h : wyI n T i s R F w pi false) (hd : idp n R) {k : Nat} (hk : i < k) (hkn : k < n) (hs : s ≤ 3) (h0 : ∀ l, i ≤ l → l < n → bfv n T (R l) (R l) = 0) (hb : bfv n T (R k) (R i) ≠ 0) : ∃ F' w', wyI n T (i + 1) (s + 1) (wyZ n T i n (wyD i k R)) F' w' pi true := by
  have hi : i < n := by omega
  obtain ⟨ti, a1, a2, a3, a4⟩ := wyI_par hS hT h (Nat.le_refl i) hi
  obtain ⟨tk, b1, b2, b3, b4⟩ := wyI_par hS hT h (show i ≤ k by omega) hkn
  have hh := h
  obtain ⟨h1, h2, h3, h4, h5, h6, h7, h8⟩ := hh
  obtain ⟨c1, ⟨mi, xi, pi', ci⟩, ci3⟩ := h5 i (Nat.le_refl i) hi
  obtain ⟨c2, ⟨mk, xk, pk', ck⟩, ck3⟩ := h5 k (by omega) hkn
  have up : ∀ a, a < s → bfv n T (fun j => R i j + R k j) (F a) = 0 := fun a ha => by rw [bfv_addl, ci.2.2.2 a ha, ck.2.2.2 a ha]; rfl
  have eC : ∀ g, dcf s (grn n s T F g) s = sg1 s * dt s (grm n T F) := fun g => grn_cof
  have hC : sg1 s * dt s (grm n T F) ≠ 0 := by rw [← eC (ue 0)]; exact grn_nz h2 _
  by_cases s1 : s = 1
  · -- F 0 is upright in one direction alone
    subst s1
    obtain ⟨e, q1, q2, q3⟩ := h7 rfl rfl
    have hd0 : dt 1 (grm n T F) = bfv n T (F 0) (F 0) := by
      show sm 1 (fun j => sg1 j * grm n T F 0 j * 1) = _
      show (0 : Int) + 1 * bfv n T (F 0) (F 0) * 1 = _
      omega
    have hdn : bfv n T (F 0) (F 0) ≠ 0 := by rw [← hd0]; exact h2
    have hl1 : l1 n (F 0) ≤ 1 := by
      have : l1 n (F 0) = l1 n (ue e) := sm_eq n fun j hj => by rw [q2 j hj]
      rw [this]; exact l1_ue
    have hdb : bgA (bfv n T (F 0) (F 0)) ≤ 100 := by
      have g1 := bfv_bd (u := F 0) (v := F 0) hT
      have g0 : 0 ≤ l1 n (F 0) := sm_nn n fun _ _ => bgA_nn _
      have g2 : 100 * l1 n (F 0) * l1 n (F 0) ≤ 100 * 1 * 1 := Int.mul_le_mul (by omega) hl1 g0 (by decide)
      omega
    have one : ∀ l t, i ≤ l → l < n → t ≠ 0 → (∀ j, j < n → wv n 1 T F (ue (pi l)) j = t * R l j) → (∃ m x p, wyQ n 1 T F (ue (pi l)) (R l) m x p) → prm n (R l) → pi l < n → bfv n T (R l) (R l) = 0 → (∀ j, j < n → R l j = R l (pi l) * ue (pi l) j + R l e * ue e j) ∧ bgA (R l (pi l)) ≤ 10 := fun l t g1 g2 t0 hw hQ hP hpl hBl => by
      have hne := q3 l g1 g2
      have wj : ∀ j, j < n → t * R l j = dcf 1 (grn n 1 T F (ue (pi l))) 0 * ue e j + dcf 1 (grn n 1 T F (ue (pi l))) 1 * ue (pi l) j := fun j hj => by
        rw [← hw j hj, ← q2 j hj]
        show (0 : Int) + dcf 1 (grn n 1 T F (ue (pi l))) 0 * F 0 j + _ = _
        omega
      have rep : ∀ j, j < n → R l j = R l (pi l) * ue (pi l) j + R l e * ue e j := fun j hj => by
        refine Int.eq_of_mul_eq_mul_left t0 ?_
        have w1 := wj j hj
        have w2 := wj (pi l) hpl
        have w3 := wj e q1
        have u1 : ue (pi l) (pi l) = 1 := if_pos rfl
        have u2 : ue e e = 1 := if_pos rfl
        have u3 : ue e (pi l) = 0 := if_neg hne
        have u4 : ue (pi l) e = 0 := if_neg fun x => hne x.symm
        rw [u1, u3] at w2
        rw [u2, u4] at w3
        grind
      refine ⟨rep, ?_⟩
      obtain ⟨u, hu⟩ := hP
      have hu2 : R l e * u e + R l (pi l) * u (pi l) = 1 := by
        rw [← hu, ← sm_two (u := u) (c1 := R l e) (c2 := R l (pi l)) q1 hpl]
        exact sm_eq n fun j hj => by rw [rep j hj]; grind
      obtain ⟨m, x, p, hq⟩ := hQ
      have o1 := hq.2.2.2 0 (by decide)
      have eR : ∀ v : Nat → Int, bfv n T (R l) v = R l (pi l) * bfv n T (ue (pi l)) v + R l e * bfv n T (F 0) v := fun v => by
        rw [← bfv_mull, ← bfv_mull, ← bfv_addl]
        exact bfv_congr (fun j hj => by rw [rep j hj, q2 j hj]) fun j _ => rfl
      have o2 := eR (F 0)
      rw [o1] at o2
      have o3 : bfv n T (R l) (R l) = R l (pi l) * bfv n T (R l) (ue (pi l)) + R l e * bfv n T (R l) (F 0) := by
        rw [eR (R l), bfv_symm hS (ue (pi l)), bfv_symm hS (F 0)]
      rw [hBl, o1, Int.mul_zero, Int.add_zero] at o3
      have xne : R l (pi l) ≠ 0 := fun k => by
        rw [k, Int.zero_mul, Int.zero_add] at o2
        rcases Int.mul_eq_zero.mp o2.symm with k2 | k2
        · rw [k, k2] at hu2; omega
        · exact hdn k2
      have o4 : bfv n T (R l) (ue (pi l)) = 0 := by
        rcases Int.mul_eq_zero.mp o3.symm with k | k
        · exact absurd k xne
        · exact k
      rw [eR (ue (pi l)), bfv_symm hS (F 0)] at o4
      exact ten_of (r := R l e) (x := R l (pi l)) (d := bfv n T (F 0) (F 0)) (b := bfv n T (ue (pi l)) (F 0)) (t := bfv n T (ue (pi l)) (ue (pi l))) (al := u e) (be := u (pi l)) (by grind) (by grind) (by grind) hdn hdb
    obtain ⟨ri, xi10⟩ := one i ti (Nat.le_refl i) hi a1 a2 ⟨mi, xi, pi', ci⟩ ci3 c1 (h0 i (Nat.le_refl i) hi)
    obtain ⟨rk, xk10⟩ := one k tk (by omega) hkn b1 b2 ⟨mk, xk, pk', ck⟩ ck3 c2 (h0 k (by omega) hkn)
    refine ⟨_, _, wyI_addG (W := 20) (g := fun j => R i (pi i) * ue (pi i) j + R k (pi k) * ue (pi k) j) (m := 1) (x := 1) (p := fun _ => R i e + R k e) hS h hd hk hkn h0 hb ⟨by decide, by decide, fun j hj => ?_, up⟩ ?_ ?_⟩
    · show 1 * (R i j + R k j) = 1 * (R i (pi i) * ue (pi i) j + R k (pi k) * ue (pi k) j) + (0 + (R i e + R k e) * F 0 j)
      rw [q2 j hj]
      have := ri j hj
      have := rk j hj
      grind
    · have g1 := l1_add (n := n) (u := fun j => R i (pi i) * ue (pi i) j) (v := fun j => R k (pi k) * ue (pi k) j)
      have g2 := @l1_cue n (pi i) (R i (pi i))
      have g3 := @l1_cue n (pi k) (R k (pi k))
      show _ ≤ (20 : Int)
      omega
    · have : pr 1 w ≤ 1 := h4
      show pr 1 w * 20 ≤ 20
      omega
  · refine ⟨_, _, wyI_addG (W := 2 * (fct (s + 1) * 100 ^ s * pr s w * pr s w)) (g := fun j => tk * ue (pi i) j + ti * ue (pi k) j) (m := ti * tk) (x := sg1 s * dt s (grm n T F)) (p := fun a => tk * dcf s (grn n s T F (ue (pi i))) a + ti * dcf s (grn n s T F (ue (pi k))) a) hS h hd hk hkn h0 hb ⟨fun k => ?_, hC, fun j hj => ?_, up⟩ ?_ ?_⟩
    · rcases Int.mul_eq_zero.mp k with k | k
      · exact a1 k
      · exact b1 k
    · have w1 := a2 j hj
      have w2 := b2 j hj
      unfold wv at w1 w2
      rw [eC] at w1 w2
      have e : sm s (fun a => (tk * dcf s (grn n s T F (ue (pi i))) a + ti * dcf s (grn n s T F (ue (pi k))) a) * F a j) = tk * sm s (fun a => dcf s (grn n s T F (ue (pi i))) a * F a j) + ti * sm s (fun a => dcf s (grn n s T F (ue (pi k))) a * F a j) := by
        rw [← sm_mul, ← sm_mul, ← sm_add]
        exact sm_eq s fun a _ => by grind
      show ti * tk * (R i j + R k j) = sg1 s * dt s (grm n T F) * (tk * ue (pi i) j + ti * ue (pi k) j) + sm s (fun a => (tk * dcf s (grn n s T F (ue (pi i))) a + ti * dcf s (grn n s T F (ue (pi k))) a) * F a j)
      rw [e]
      generalize sm s (fun a => dcf s (grn n s T F (ue (pi i))) a * F a j) = U at w1 ⊢
      generalize sm s (fun a => dcf s (grn n s T F (ue (pi k))) a * F a j) = V at w2 ⊢
      generalize sg1 s * dt s (grm n T F) = C at *
      grind
    · have g1 := l1_add (n := n) (u := fun j => tk * ue (pi i) j) (v := fun j => ti * ue (pi k) j)
      have g2 := @l1_cue n (pi i) tk
      have g3 := @l1_cue n (pi k) ti
      rw [Int.natCast_mul]
      show l1 n (fun j => tk * ue (pi i) j + ti * ue (pi k) j) ≤ 2 * _
      omega
    · have hm : pr s w * (2 * (fct (s + 1) * 100 ^ s * pr s w * pr s w)) ≤ tL s false * (2 * (fct (s + 1) * 100 ^ s * tL s false * tL s false)) := Nat.mul_le_mul h4 (Nat.mul_le_mul_left _ (Nat.mul_le_mul (Nat.mul_le_mul_left _ h4) h4))
      refine Nat.le_trans hm ?_
      match s, hs, s1 with
      | 0, _, _ => decide
      | 1, _, k => exact absurd rfl k
      | 2, _, _ => decide +kernel
      | 3, _, _ => decide +kernel
      | s + 4, k, _ => omega
end KP
/-- what a stage of the way starts from -/
def wyK (n : Nat) (T : Nat → Nat → Int) (i : Nat) (R : Nat → Nat → Int) : Prop := idp n R ∧ (∀ l j, l < n → j < n → bgA (R l j) ≤ ((2 ^ 120 : Nat) : Int)) ∧ (i + 1 < n → (∀ l j, i ≤ l → l < n → j < n → bgA (R l j) ≤ ((2 ^ 111 : Nat) : Int)) ∧ ∃ s F w pi f, wyI n T i s R F w pi f)
section WK
variable {n i : Nat} {T R : Nat → Nat → Int}
theorem wyF_some {k : Nat} (h : wyF n T R i = some k) : i ≤ k ∧ k < n ∧ bfv n T (R k) (R k) ≠ 0 := by
  obtain ⟨j, h1, h2, h3⟩ := sr_some _ _ h
  by_cases g : bfv n T (R j) (R j) = 0
  · rw [if_pos g] at h3; cases h3
  · rw [if_neg g] at h3
    have := Option.some.inj h3
    subst this
    exact ⟨h1, by omega, g⟩
theorem wyF_none (h : wyF n T R i = none) : ∀ l, i ≤ l → l < n → bfv n T (R l) (R l) = 0 := fun l h1 h2 => by
  have := (sr_none _ _).mp h l h1 (by omega)
  by_cases g : bfv n T (R l) (R l) = 0
  · exact g
  · rw [if_neg g] at this; cases this
theorem wyA_some {k : Nat} (h : wyA n T R i = some k) : i < k ∧ k < n ∧ bfv n T (R k) (R i) ≠ 0 := by
  obtain ⟨j, h1, h2, h3⟩ := sr_some _ _ h
  by_cases g : bfv n T (R j) (R i) = 0
  · rw [if_pos g] at h3; cases h3
  · rw [if_neg g] at h3
    have := Option.some.inj h3
    subst this
    exact ⟨h1, by omega, g⟩
theorem wyK_last (hi : i < n) (h : n ≤ i + 1) : wyG n T i R = R := by
  have eZ : ∀ R', wyZ n T i n R' = R' := fun R' => by
    funext l
    exact if_neg (by omega)
  have eX : wyX i i R = R := by
    funext l
    unfold wyX
    by_cases g : l = i
    · rw [if_pos g, g]
    · rw [if_neg g, if_neg g]
  unfold wyG
  cases hF : wyF n T R i with
  | some k =>
    have := wyF_some hF
    have : k = i := by omega
    subst this
    show wyZ n T k n (wyX k k R) = R
    rw [eZ, eX]
  | none =>
    cases hA : wyA n T R i with
    | some k =>
      have := wyA_some hA
      omega
    | none => rfl
theorem wyK_step (hS : tSym n T) (hT : ∀ i k, i < n → k < n → -100 ≤ T i k ∧ T i k ≤ 100) (h6 : n ≤ 6) (hi : i < n) (h : wyK n T i R) : wyK n T (i + 1) (wyG n T i R) := by
  obtain ⟨h1, h2, h3⟩ := h
  by_cases hl : n ≤ i + 1
  · rw [wyK_last hi hl]
    exact ⟨h1, h2, fun g => by omega⟩
  · obtain ⟨h4, s, F, w, pi, f, hI⟩ := h3 (by omega)
    have hsi := hI.1
    -- the rows behind, by the invariant
    have bdI : ∀ (s' : Nat) (R' F' : Nat → Nat → Int) (w' pi' : Nat → Nat) (f' : Bool), s' ≤ i + 1 → wyI n T (i + 1) s' R' F' w' pi' f' → idp n R' → (∀ l j, l ≤ i → j < n → bgA (R' l j) ≤ ((2 ^ 120 : Nat) : Int)) → wyK n T (i + 1) R' := fun s' R' F' w' pi' f' k1 k2 k3 k4 => by
      refine ⟨k3, fun l j g1 g2 => ?_, fun g => ⟨fun l j g1 g2 g3 => ?_, s', F', w', pi', f', k2⟩⟩
      · rcases Nat.lt_or_ge i l with q | q
        · exact Int.le_trans (wyI_bd hS hT k2 (by omega) g1 g2) (Int.ofNat_le.mpr (tL_X5 (by omega)))
        · exact k4 l j q g2
      · exact Int.le_trans (wyI_bd hS hT k2 g1 g2 g3) (Int.ofNat_le.mpr (tL_X (by omega)))
    unfold wyG
    cases hF : wyF n T R i with
    | some k =>
      obtain ⟨k1, k2, k3⟩ := wyF_some hF
      have e1 : wyX i k R i = R k := if_pos rfl
      show wyK n T (i + 1) (wyZ n T i n (wyX i k R))
      refine bdI (s + 1) _ _ _ _ _ (by omega) (wyI_piv hS hI h1 k1 k2 k3) (idp_clear (idp_swap h1 hi k2) hi (by rw [e1]; exact k3) n (Nat.le_refl n)) fun l j g1 g2 => ?_
      have e : wyZ n T i n (wyX i k R) l = wyX i k R l := if_neg (by omega)
      rw [e]
      unfold wyX
      split
      · exact h2 k j k2 g2
      · split
        · exact h2 i j hi g2
        · exact h2 l j (by omega) g2
    | none =>
      have h0 := wyF_none hF
      have hf : f = false := by
        cases f with
        | false => rfl
        | true =>
          obtain ⟨l, g1, g2, g3⟩ := hI.2.2.2.2.2.2.2 rfl
          exact absurd (h0 l g1 g2) g3
      subst hf
      show wyK n T (i + 1) (match wyA n T R i with | some k => wyZ n T i n (wyD i k R) | none => R)
      cases hA : wyA n T R i with
      | some k =>
        obtain ⟨k1, k2, k3⟩ := wyA_some hA
        show wyK n T (i + 1) (wyZ n T i n (wyD i k R))
        have e1 : wyD i k R i = fun j => R i j + R k j := if_pos rfl
        have hbs : bfv n T (R i) (R k) = bfv n T (R k) (R i) := bfv_symm hS _ _
        have hBB : bfv n T (fun j => R i j + R k j) (fun j => R i j + R k j) = 2 * bfv n T (R k) (R i) := by
          rw [bfv_addl, bfv_addr hS, bfv_addr hS, h0 i (Nat.le_refl _) hi, h0 k (by omega) k2, hbs]
          omega
        have hB : bfv n T (fun j => R i j + R k j) (fun j => R i j + R k j) ≠ 0 := by rw [hBB]; omega
        have hid := idp_clear (T := T) (idp_add h1 hi k2 (by omega)) hi (by rw [e1]; exact hB) n (Nat.le_refl n)
        have low : ∀ l j, l ≤ i → j < n → bgA (wyZ n T i n (wyD i k R) l j) ≤ ((2 ^ 120 : Nat) : Int) := fun l j g1 g2 => by
          have e : wyZ n T i n (wyD i k R) l = wyD i k R l := if_neg (by omega)
          rw [e]
          unfold wyD
          split
          · have q1 := h4 i j (Nat.le_refl i) hi g2
            have q2 := h4 k j (by omega) k2 g2
            have q3 := @bgA_le (R i j) (R k j)
            have q4 : ((2 ^ 120 : Nat) : Int) = 512 * ((2 ^ 111 : Nat) : Int) := by decide +kernel
            have q5 : (0 : Int) < ((2 ^ 111 : Nat) : Int) := by decide +kernel
            show bgA (R i j + R k j) ≤ _
            omega
          · exact h2 l j (by omega) g2
        by_cases hs : s ≤ 3
        · obtain ⟨F', w', hI'⟩ := wyI_add hS hT hI h1 k1 k2 hs h0 k3
          exact bdI (s + 1) _ F' w' pi true (by omega) hI' hid low
        · refine ⟨hid, fun l j g1 g2 => ?_, fun g => by omega⟩
          rcases Nat.lt_or_ge i l with q | q
          · have hlk : l = k := by omega
            subst hlk
            have ez : wyZ n T i n (wyD i l R) l = wyN n T (fun j => R i j + R l j) (R l) := by
              unfold wyZ
              rw [if_pos ⟨q, g1⟩, e1, show wyD i l R l = R l from if_neg (by omega)]
            have hc : bfv n T (R l) (fun j => R i j + R l j) = bfv n T (R l) (R i) := by rw [bfv_addr hS, h0 l (by omega) g1, Int.add_zero]
            have hz := cnt_idp (T := T) (i := i) (k := l) (idp_add h1 hi k2 (by omega)) hi g1 (by omega) (by rw [e1]; exact hB)
            rw [e1, show wyD i l R l = R l from if_neg (by omega)] at hz
            have hg : Nat.gcd (2 * bfv n T (R l) (R i)).natAbs (bfv n T (R l) (R i)).natAbs = (bfv n T (R l) (R i)).natAbs := Nat.gcd_eq_right (by rw [Int.natAbs_mul]; exact Nat.dvd_mul_left _ _)
            have hv : ∀ j, wyV n T (fun j => R i j + R l j) (R l) j = R l j - R i j ∨ wyV n T (fun j => R i j + R l j) (R l) j = R i j - R l j := fun j => by
              unfold wyV
              rw [hBB, hc, hg]
              have hb0 := k3
              revert hb0
              generalize bfv n T (R l) (R i) = b
              intro hb0
              rcases Int.lt_or_le 0 b with q | q
              · have e : (b.natAbs : Int) = b := by omega
                rw [e, Int.mul_ediv_cancel _ hb0, Int.ediv_self hb0]
                left; show 2 * 1 * R l j - 1 * (R i j + R l j) = _; omega
              · have e : (b.natAbs : Int) = -b := by omega
                rw [e, Int.ediv_neg, Int.ediv_neg, Int.mul_ediv_cancel _ hb0, Int.ediv_self hb0]
                right; show 2 * -1 * R l j - -1 * (R i j + R l j) = _; omega
            have hN : (cnt n (wyV n T (fun j => R i j + R l j) (R l)) : Int) * wyN n T (fun j => R i j + R l j) (R l) j = wyV n T (fun j => R i j + R l j) (R l) j := by
              unfold wyN
              rw [if_neg (by rw [hc]; exact k3)]
              exact Int.mul_ediv_cancel' (cnt_dvd (v := wyV n T (fun j => R i j + R l j) (R l)) n j g2)
            rw [ez]
            have q1 := h4 i j (Nat.le_refl i) hi g2
            have q2 := h4 l j (by omega) g1 g2
            have q4 : ((2 ^ 120 : Nat) : Int) = 512 * ((2 ^ 111 : Nat) : Int) := by decide +kernel
            have q5 : (0 : Int) < ((2 ^ 111 : Nat) : Int) := by decide +kernel
            have q6 : bgA (wyV n T (fun j => R i j + R l j) (R l) j) ≤ 2 * ((2 ^ 111 : Nat) : Int) := by
              have g3 : ∀ x : Int, bgA x = x ∨ bgA x = -x := fun x => by unfold bgA; split <;> omega
              rcases hv j with g | g <;> rw [g]
              · have := @bgA_le (R l j) (-(R i j))
                have e : bgA (-(R i j)) = bgA (R i j) := by unfold bgA; repeat' split <;> omega
                rw [Int.sub_eq_add_neg]
                omega
              · have := @bgA_le (R i j) (-(R l j))
                have e : bgA (-(R l j)) = bgA (R l j) := by unfold bgA; repeat' split <;> omega
                rw [Int.sub_eq_add_neg]
                omega
            rw [← hN, bgA_mulE] at q6
            have q7 : 1 ≤ bgA ((cnt n (wyV n T (fun j => R i j + R l j) (R l)) : Nat) : Int) := by rw [bgA_nat]; omega
            have q8 := Int.mul_le_mul_of_nonneg_right q7 (bgA_nn (wyN n T (fun j => R i j + R l j) (R l) j))
            omega
          · exact low l j q g2
      | none =>
        show wyK n T (i + 1) R
        refine bdI s R F w pi false (by omega) ?_ h1 fun l j g1 g2 => h2 l j (by omega) g2
        obtain ⟨c1, c2, c3, c4, c5, c6, c7, c8⟩ := hI
        exact ⟨by omega, c2, c3, c4, fun l g1 g2 => c5 l (by omega) g2, fun l l' g1 g2 g3 g4 => c6 l l' (by omega) g2 (by omega) g4, fun g1 g2 => by
          obtain ⟨e, q1, q2, q3⟩ := c7 g1 g2
          exact ⟨e, q1, q2, fun l g3 g4 => q3 l (by omega) g4⟩, fun g => absurd g (by decide)⟩
/-- the start: a row in each direction -/
theorem wyK_start (h1 : 1 ≤ n) : wyK n T 0 fun k => ue k := by
  have e : ∀ k l, k < n → sm n (fun j => ue k j * ue l j) = if k = l then 1 else 0 := fun k l hk => by
    have := sm_unit (f := ue l) (e := k) n
    rw [if_pos hk] at this
    have e2 : ue l k = if k = l then 1 else 0 := rfl
    rw [← e2]
    exact this
  have e3 : ∀ k l, ue k l = ue l k := fun k l => by
    unfold ue
    by_cases g : l = k
    · rw [if_pos g, if_pos g.symm]
    · rw [if_neg g, if_neg fun x => g x.symm]
  have bd : ∀ (P : Nat) l j, 1 ≤ P → bgA (ue l j) ≤ ((P : Nat) : Int) := fun P l j hP => by
    unfold ue bgA
    repeat' split
    all_goals omega
  refine ⟨⟨fun j l => ue l j, 1, by decide, fun k l hk hl => e k l hk⟩, fun l j _ _ => bd _ l j (Nat.one_le_two_pow), fun _ => ⟨fun l j _ _ _ => bd _ l j (Nat.one_le_two_pow), 0, fun _ _ => 0, fun _ => 0, id, false, Nat.le_refl 0, show (1 : Int) ≠ 0 by decide, fun a ha => by omega, Nat.le_refl 1, fun l hl hl2 => ⟨hl2, ⟨1, 1, fun _ => 0, by decide, by decide, fun j _ => ?_, fun a ha => by omega⟩, ⟨ue l, ?_⟩⟩, fun l l' _ _ _ _ g => g, fun g => by omega, fun g => absurd g (by decide)⟩⟩
  · show 1 * ue l j = 1 * ue l j + 0
    omega
  · rw [e l l hl2, if_pos rfl]
end WK
