/-! The class's way: lean, meet. -/
theorem wB_row {k : Nat} (hk : k < 36) : bgR (387 + 2 * k) 12 ∧ mjOk 0 (387 + 2 * k) := by
  have h1 : ∀ i : Fin 36, mjNn 100 (387 + 2 * i.val + 1) = 12 := by decide +kernel
  have h2 : ∀ i : Fin 36, mjTgB 0 (387 + 2 * i.val) = true := by decide +kernel
  exact ⟨⟨h1 ⟨k, hk⟩, by decide, by decide⟩, h2 ⟨k, hk⟩⟩
theorem wB_str {k : Nat} (hk : k < 6) : bgR (363 + 4 * k) 12 ∧ bgR (365 + 4 * k) 12 := by
  have h1 : ∀ i : Fin 6, mjNn 100 (363 + 4 * i.val + 1) = 12 ∧ mjNn 100 (365 + 4 * i.val + 1) = 12 := by decide +kernel
  exact ⟨⟨(h1 ⟨k, hk⟩).1, by decide, by decide⟩, ⟨(h1 ⟨k, hk⟩).2, by decide, by decide⟩⟩
theorem wB_own : bgR 346 12 ∧ bgR 348 12 ∧ bgR 350 12 ∧ bgR 352 12 ∧ dvC 354 12 := by
  have h1 : mjNn 100 347 = 12 ∧ mjNn 100 349 = 12 ∧ mjNn 100 351 = 12 ∧ mjNn 100 353 = 12 := by decide +kernel
  have h2 : mjNn 100 355 = 14 ∧ mjNn 100 356 = 14 ∧ mjNn 100 358 = 12 ∧ mjNn 100 360 = 12 ∧ mjNn 100 362 = 12 ∧ mjTgB 0 357 = true ∧ mjTgB 0 359 = true ∧ mjTgB 0 361 = true := by decide +kernel
  obtain ⟨g1, g2, g3, g4, g5, g6, g7, g8⟩ := h2
  refine ⟨⟨h1.1, by decide, by decide⟩, ⟨h1.2.1, by decide, by decide⟩, ⟨h1.2.2.1, by decide, by decide⟩, ⟨h1.2.2.2, by decide, by decide⟩, ⟨g1, g2, by decide⟩, fun x hx => ?_⟩
  rcases hx with e | e | e <;> subst e
  · exact ⟨g6, g3, by decide, by decide⟩
  · exact ⟨g7, g4, by decide, by decide⟩
  · exact ⟨g8, g5, by decide, by decide⟩
/-- other cells than those are as they were -/
def wcS (S : Nat → Prop) (Z Z' : mjZ) : Prop := ∀ a, ¬ S a → Z' a = Z a
theorem wcS.rf {S : Nat → Prop} {Z : mjZ} : wcS S Z Z := fun _ _ => rfl
theorem wcS.tr {S : Nat → Prop} {Z Z1 Z2 : mjZ} (h : wcS S Z Z1) (g : wcS S Z1 Z2) : wcS S Z Z2 := fun a ha => (g a ha).trans (h a ha)
theorem wcS.mono {S T : Nat → Prop} {Z Z1 : mjZ} (h : wcS S Z Z1) (hS : ∀ k, S k → T k) : wcS T Z Z1 := fun a ha => h a fun g => ha (hS a g)
theorem mjO2.S {S : Nat → Prop} {Z Z' : mjZ} {c : Nat} (h : mjO2 c Z Z') (h1 : S c) (h2 : S (c + 1)) : wcS S Z Z' := fun a ha => h a (fun e => ha (e ▸ h1)) fun e => ha (e ▸ h2)
theorem bgIs.S {S : Nat → Prop} {Z Z' : mjZ} {R c : Nat} {v : Int} (h : bgIs R Z c v) (g : wcS S Z Z') (h1 : ¬ S c) (h2 : ¬ S (c + 1)) : bgIs R Z' c v := bgIs_congr h (g c h1) (g (c + 1) h2)
theorem bgIs.O {Z Z' : mjZ} {R c e : Nat} {v : Int} (h : bgIs R Z e v) (g : mjO2 c Z Z') (h1 : bgX c e) : bgIs R Z' e v := bgIs_congr h (g e h1.1 h1.2.1) (g (e + 1) h1.2.2 (by unfold bgX at h1; omega))
/-- the rows' references -/
def pmC (Z : mjZ) : Prop := (∀ j, j < 36 → ∃ k : Nat, k < 36 ∧ Z 343 j = 387 + 2 * k) ∧ ∀ i j, i < 36 → j < 36 → Z 343 i = Z 343 j → i = j
theorem pmC.at' {Z : mjZ} (h : pmC Z) {m : Nat} (hm : m < 36) : ∃ k, k < 36 ∧ (Z 343 m).toNat = 387 + 2 * k ∧ bgR (Z 343 m).toNat 12 ∧ mjOk 0 (Z 343 m).toNat := by
  obtain ⟨k, h1, h2⟩ := h.1 m hm
  have e : (Z 343 m).toNat = 387 + 2 * k := by omega
  rw [e]
  exact ⟨k, h1, rfl, wB_row h1⟩
theorem pmC.ne {Z : mjZ} (h : pmC Z) {a b : Nat} (ha : a < 36) (hb : b < 36) (hne : a ≠ b) : (Z 343 a).toNat ≠ (Z 343 b).toNat := fun e => by
  obtain ⟨k, h1, h2⟩ := h.1 a ha
  obtain ⟨l, g1, g2⟩ := h.1 b hb
  exact hne (h.2 a b ha hb (by omega))
/-- a table the class reads -/
def ctT (n c : Nat) (T : Nat → Nat → Int) (Z : mjZ) : Prop := tN Z c n ∧ c + 1 < 342 ∧ ∀ i k, i < n → k < n → tE Z c i k = T i k ∧ -100 ≤ T i k ∧ T i k ≤ 100
theorem ctT.g {n c : Nat} {T : Nat → Nat → Int} {Z Z' : mjZ} (h : ctT n c T Z) (g : ∀ a, a < 342 → Z' a = Z a) : ctT n c T Z' := by
  have h2 := h.2.1
  have e0 : Z' c = Z c := g c (by omega)
  have e1 : Z' (c + 1) = Z (c + 1) := g (c + 1) (by omega)
  refine ⟨by unfold tN; rw [e0]; exact h.1, h2, fun i k hi hk => ?_⟩
  unfold tE
  rw [e1]
  exact h.2.2 i k hi hk
def lnS (a : Nat) : Prop := a = 352 ∨ a = 353 ∨ (363 ≤ a ∧ a < 387 ∧ (a % 4 = 1 ∨ a % 4 = 2))
/-- the leanings of a row -/
def lnIs (n : Nat) (T : Nat → Nat → Int) (Z : mjZ) (u : Nat → Int) : Prop := ∀ i, i < n → bgIs 12 Z (365 + 4 * i) (sm n fun m => T i m * u m)
section WB
variable {d n c : Nat} {T : Nat → Nat → Int} {u v : Nat → Int} {Z : mjZ}
theorem fw_lean {x2 : Nat} {q : mjZ → Prop} (hT : ctT n c T Z) (hs : Z 342 0 = (n : Int)) (hp : pmC Z) (hx2 : x2 < n) (hU : ∀ j, j < n → bgIs 12 Z (Z 343 (6 * x2 + j)).toNat (u j)) (hb : ∀ j, j < n → bgA (u j) ≤ wX) (hq : ∀ Z', wcS lnS Z Z' → lnIs n T Z' u → q Z') : mjW0 (d + 5) 129 [yR 8 342, yR 6 c, yI (x2 : Int)] Z q := by
  have hX := wX_f
  have h6 := hT.1.2.2
  have n1 : ∀ m, m < 343 → ¬ lnS m := fun m hm => by unfold lnS; omega
  have n2 : ¬ lnS 343 := by unfold lnS; omega
  have n3 : ∀ m k, m = 387 + 2 * k → ¬ lnS m ∧ ¬ lnS (m + 1) := fun m k hm => by unfold lnS; omega
  have big : 600 * wX < bgP 12 := by
    have : bgP 5 < bgP 12 := by decide +kernel
    omega
  refine mje_129 (d := d + 4) ?_
  refine lp_inv (n := n) (a := Z) (L := fun r Zr => mjL_129_2 (d + 4) c x2 r Zr q) (Y := fun r Zr => wcS lnS Z Zr ∧ ∀ i, i < r → bgIs 12 Zr (365 + 4 * i) (sm n fun m => T i m * u m)) (fun r Zr hr hy hL => ?_) (fun Zr hy => ?_) ⟨wcS.rf, fun i hi => by omega⟩
  · obtain ⟨y1, y2⟩ := hy
    have es : Zr 342 0 = (n : Int) := by rw [y1 342 (n1 _ (by decide))]; exact hs
    refine mjl_129_2 ?_
    rw [es]
    refine ⟨by omega, by omega, fun g => by omega, fun _ => ⟨by omega, by omega, ?_⟩⟩
    rw [show 345 + 20 + 4 * r = 365 + 4 * r by omega]
    have bL := (wB_str (k := r) (by omega)).2
    have sL : lnS (365 + 4 * r) ∧ lnS (365 + 4 * r + 1) := by unfold lnS; omega
    refine bg_become (d := d + 1) bL (by decide) fun Z1 a1 a2 => ?_
    refine lp_inv (n := n) (a := Z1) (L := fun k Zk => mjL_129_23 (d + 4) c x2 r k Zk q) (Y := fun k Zk => wcS (fun a => a = 352 ∨ a = 353 ∨ a = 365 + 4 * r ∨ a = 365 + 4 * r + 1) Zr Zk ∧ bgIs 12 Zk (365 + 4 * r) (sm k fun m => T r m * u m)) (fun k Zk hk hy2 hL2 => ?_) (fun Zk hy2 => ?_) ⟨a1.S (by omega) (by omega), a2⟩
    · obtain ⟨z1, z2⟩ := hy2
      have z3 : wcS lnS Z Zk := y1.tr (z1.mono fun a ha => by rcases ha with e | e | e | e <;> subst e <;> first | exact Or.inl rfl | exact Or.inr (Or.inl rfl) | exact sL.1 | exact sL.2)
      have e343 : Zk 343 = Z 343 := z3 343 n2
      obtain ⟨kk, k1, k2, k3, k4⟩ := hp.at' (m := 6 * x2 + k) (by omega)
      have ei : ((x2 : Int) * 6 + (k : Int)).toNat = 6 * x2 + k := by omega
      refine mjl_129_23 ?_
      rw [z3 342 (n1 _ (by decide)), hs, ei, e343]
      refine ⟨by omega, by omega, fun g => by omega, fun _ => ⟨by omega, by omega, k4, ?_⟩⟩
      have uk := hb k hk
      have row : bgIs 12 Zk (Z 343 (6 * x2 + k)).toNat (u k) := (hU k hk).S z3 (n3 _ kk k2).1 (n3 _ kk k2).2
      refine bg_copy (d := d + 2) wB_own.2.2.2.1 k3 (by unfold bgX; omega) row (by omega) fun Z6 b1 b2 => ?_
      have z6 : ∀ a, a < 342 → Z6 a = Z a := fun a ha => by rw [b1 a (by omega) (by omega), z3 a (n1 a (by omega))]
      have hT6 := hT.g z6
      refine tb_number (d := d + 2) hT6.1 hr hk ?_
      have tv := hT6.2.2 r k hr hk
      rw [tv.1]
      have tb : bgA (T r k * u k) ≤ 100 * wX := Int.le_trans (bgA_mul100 tv.2) (by omega)
      refine bg_scaleBy (d := d + 1) wB_own.2.2.2.1 b2 (by omega) (by rw [Int.mul_comm]; omega) fun Z8 c1 c2 => ?_
      rw [Int.mul_comm] at c2
      have g2 := sm_bd6 (f := fun m => T r m * u m) (k + 1) (by omega) (show (0 : Int) ≤ 100 * wX by omega) fun j hj => Int.le_trans (bgA_mul100 (hT.2.2 r j hr (by omega)).2) (by have := hb j (by omega); omega)
      rw [sm_succ] at g2
      have acc : bgIs 12 Z8 (365 + 4 * r) (sm k fun m => T r m * u m) := (z2.O b1 (by unfold bgX; omega)).O c1 (by unfold bgX; omega)
      refine ⟨by omega, by omega, ?_⟩
      rw [show 345 + 20 + 4 * r = 365 + 4 * r by omega]
      refine bg_add (d := d) (s := 1) bL wB_own.2.2.2.1 (by unfold bgX; omega) acc c2 (Or.inr rfl) (by rw [Int.one_mul]; omega) (by omega) fun Z9 f1 f2 => hL2 Z9 ⟨?_, ?_⟩
      · exact z1.tr ((b1.S (Or.inl rfl) (Or.inr (Or.inl rfl))).tr ((c1.S (Or.inl rfl) (Or.inr (Or.inl rfl))).tr (f1.S (Or.inr (Or.inr (Or.inl rfl))) (Or.inr (Or.inr (Or.inr rfl))))))
      · rw [Int.one_mul] at f2
        exact f2
    · obtain ⟨z1, z2⟩ := hy2
      have z3 : wcS lnS Z Zk := y1.tr (z1.mono fun a ha => by rcases ha with e | e | e | e <;> subst e <;> first | exact Or.inl rfl | exact Or.inr (Or.inl rfl) | exact sL.1 | exact sL.2)
      refine mjl_129_23 ?_
      rw [z3 342 (n1 _ (by decide)), hs]
      refine ⟨by omega, by omega, fun _ => hL Zk ⟨z3, fun i hi => ?_⟩, fun g => by omega⟩
      rcases Nat.lt_or_ge i r with g | g
      · exact (y2 i g).S z1 (by omega) (by omega)
      · rw [show i = r by omega]
        exact z2
  · obtain ⟨y1, y2⟩ := hy
    refine mjl_129_2 ?_
    rw [y1 342 (n1 _ (by decide)), hs]
    exact ⟨by omega, by omega, fun _ => hq Zr y1 y2, fun g => by omega⟩
theorem fw_meet {x1 x2 : Nat} {q : mjZ → Prop} (h6 : n ≤ 6) (hTb : ∀ i k, i < n → k < n → -100 ≤ T i k ∧ T i k ≤ 100) (hs : Z 342 0 = (n : Int)) (hp : pmC Z) (hx1 : x1 < n) (hx2 : x2 = 346 ∨ x2 = 348 ∨ ∃ k, k < 6 ∧ x2 = 363 + 4 * k) (hR : bgR x2 12) (hV : ∀ j, j < n → bgIs 12 Z (Z 343 (6 * x1 + j)).toNat (v j)) (hL : lnIs n T Z u) (ha : ∀ j, j < n → bgA (v j) ≤ wX) (hb : ∀ j, j < n → bgA (u j) ≤ wX) (hq : ∀ Z', wcS (fun a => a = 352 ∨ a = 353 ∨ a = x2 ∨ a = x2 + 1) Z Z' → bgIs 12 Z' x2 (bfv n T v u) → q Z') : mjW0 (d + 5) 130 [yR 8 342, yI (x1 : Int), yR 0 x2] Z q := by
  have hX := wX_f
  have xs : 346 ≤ x2 ∧ x2 < 387 ∧ (x2 = 346 ∨ x2 = 348 ∨ (363 ≤ x2 ∧ x2 % 4 = 3)) := by
    rcases hx2 with e | e | ⟨k, hk, e⟩ <;> omega
  have i1 : ∀ i, i < n → bgA (sm n fun m => T i m * u m) ≤ 600 * wX := fun i hi => by
    have := sm_bd6 (f := fun m => T i m * u m) n h6 (show (0 : Int) ≤ 100 * wX by omega) fun j hj => Int.le_trans (bgA_mul100 (hTb i j hi hj)) (by have := hb j hj; omega)
    omega
  have i2 : ∀ i, i < n → bgA (v i * sm n fun m => T i m * u m) ≤ 600 * wX * wX := fun i hi => by
    rw [bgA_mulE, Int.mul_comm]
    exact Int.mul_le_mul (i1 i hi) (ha i hi) (bgA_nn _) (by omega)
  have g3 : bgP 9 < bgP 12 := by decide +kernel
  have g4 : 3600 * wX * wX = 6 * (600 * wX * wX) := by grind
  have g5 : 0 ≤ 600 * wX * wX := Int.mul_nonneg (by omega) (by omega)
  refine mje_130 (d := d + 4) (bg_become (d := d + 1) hR (by decide) fun Z1 a1 a2 => ?_)
  refine lp_inv (n := n) (a := Z1) (L := fun k Zk => mjL_130_7 (d + 4) x1 x2 k Zk q) (Y := fun k Zk => wcS (fun a => a = 352 ∨ a = 353 ∨ a = x2 ∨ a = x2 + 1) Z Zk ∧ bgIs 12 Zk x2 (sm k fun i => v i * sm n fun m => T i m * u m)) (fun k Zk hk hy2 hL2 => ?_) (fun Zk hy2 => ?_) ⟨a1.S (by omega) (by omega), a2⟩
  · obtain ⟨z1, z2⟩ := hy2
    have e343 : Zk 343 = Z 343 := z1 343 (by omega)
    obtain ⟨kk, k1, k2, k3, k4⟩ := hp.at' (m := 6 * x1 + k) (by omega)
    have ei : ((x1 : Int) * 6 + (k : Int)).toNat = 6 * x1 + k := by omega
    refine mjl_130_7 ?_
    rw [z1 342 (by omega), hs, ei, e343]
    refine ⟨by omega, by omega, fun g => by omega, fun _ => ⟨by omega, by omega, k4, by omega, by omega, ?_⟩⟩
    rw [show 345 + 20 + 4 * k = 365 + 4 * k by omega]
    have row : bgIs 12 Zk (Z 343 (6 * x1 + k)).toNat (v k) := (hV k hk).S z1 (by omega) (by omega)
    have ln : bgIs 12 Zk (365 + 4 * k) (sm n fun m => T k m * u m) := (hL k hk).S z1 (by omega) (by omega)
    have q3 := i2 k hk
    have g2 := sm_bd6 (f := fun i => v i * sm n fun m => T i m * u m) (k + 1) (by omega) g5 fun j hj => i2 j (by omega)
    rw [sm_succ] at g2
    refine bg_product (d := d + 1) wB_own.2.2.2.1 k3 (wB_str (k := k) (by omega)).2 (by unfold bgX; omega) (by unfold bgX; omega) row ln (Nat.le_refl 12) (by omega) fun Z8 c1 c2 => ?_
    refine bg_add (d := d) (s := 1) hR wB_own.2.2.2.1 (by unfold bgX; omega) (z2.O c1 (by unfold bgX; omega)) c2 (Or.inr rfl) (by rw [Int.one_mul]; omega) (by omega) fun Z9 f1 f2 => hL2 Z9 ⟨?_, ?_⟩
    · exact z1.tr ((c1.S (Or.inl rfl) (Or.inr (Or.inl rfl))).tr (f1.S (Or.inr (Or.inr (Or.inl rfl))) (Or.inr (Or.inr (Or.inr rfl)))))
    · rw [Int.one_mul] at f2
      exact f2
  · obtain ⟨z1, z2⟩ := hy2
    refine mjl_130_7 ?_
    rw [z1 342 (by omega), hs]
    exact ⟨by omega, by omega, fun _ => hq Zk z1 z2, fun g => by omega⟩
end WB
