/-! The reference's way: bent, clear, ready. -/
def wX : Int := ((2 ^ 120 : Nat) : Int)
def wY : Int := ((2 ^ 112 : Nat) : Int)
theorem wX_f : 0 < wX ∧ 600 * wX < bgP 5 ∧ 600 * wX < bgP 23 ∧ 3600 * wX * wX < bgP 9 ∧ bgP 1 = 1073741824 ∧ wX < bgP 5 := by decide +kernel
theorem wY_f : 0 < wY ∧ wY ≤ wX ∧ wY < bgP 4 ∧ 3600 * wY * wY < bgP 8 ∧ 3600 * wY * wY < bgP 12 ∧ 2 * (3600 * wY * wY * wY) < bgP 12 ∧ 2 * (3600 * wY * wY * wY) < bgP 22 ∧ 2 * (3600 * wY * wY * wY) < bgP 23 ∧ 3600 * wY * wY < bgP 22 := by decide +kernel
theorem sm_bd {f : Nat → Int} {c : Int} (m : Nat) (h : ∀ j, j < m → bgA (f j) ≤ c) : bgA (sm m f) ≤ (m : Int) * c := Int.le_trans (sm_abs m) (sm_cst m h)
theorem sm_bd6 {f : Nat → Int} {c : Int} (m : Nat) (h6 : m ≤ 6) (h0 : 0 ≤ c) (h : ∀ j, j < m → bgA (f j) ≤ c) : bgA (sm m f) ≤ 6 * c := by
  have := sm_bd m h
  have : (m : Int) * c ≤ 6 * c := Int.mul_le_mul_of_nonneg_right (by omega) h0
  omega
theorem lbIs.s {Z : mjZ} {r : Nat} {v : Int} (h : lbIs Z r v) : (v = 0 ∧ Z 476 r = 0) ∨ (0 < v ∧ Z 476 r = 1) ∨ (v < 0 ∧ Z 476 r = -1) := by
  obtain ⟨n, h1, h2, h3, h4, h5⟩ := h.n
  have hz := h1.zero
  have hb := h1.1.b
  rcases h2 with g | g | g
  · rw [g] at h4 h3; refine Or.inr (Or.inr ⟨?_, g⟩); omega
  · rw [g] at h4; exact Or.inl ⟨by omega, g⟩
  · rw [g] at h4 h3; refine Or.inr (Or.inl ⟨?_, g⟩); omega
section RB
variable {d t n : Nat} {T : Nat → Nat → Int} {u v : Nat → Int}
theorem fm_bentI {Z : mjZ} {x2 x3 x4 i6 : Nat} {q : mjZ → Prop} (ht : t < 60) (h6 : n ≤ 6) (hi : i6 < n) (hT : ∀ i k, i < n → k < n → Z 470 (36 * t + 6 * i + k) = T i k ∧ -100 ≤ T i k ∧ T i k ≤ 100) (hx3 : x3 < 6) (hV : ∀ j, j < n → lbIs Z (48 + 6 * x3 + j) (v j)) (hb : ∀ j, j < n → bgA (v j) ≤ wX) (h0 : lbIs Z 88 0) (hq : ∀ Z', stG (fun k => k = 88 ∨ k = 89) Z Z' → lbIs Z' 88 (sm n fun m => T i6 m * v m) → mjL_233_35 (d + 3) t x2 x3 x4 (n : Int) i6 n Z' q) : mjL_233_35 (d + 3) t x2 x3 x4 (n : Int) i6 0 Z q := by
  have hX := wX_f
  refine lp_inv (n := n) (a := Z) (L := fun r Zr => mjL_233_35 (d + 3) t x2 x3 x4 (n : Int) i6 r Zr q) (Y := fun r Zr => stG (fun k => k = 88 ∨ k = 89) Z Zr ∧ lbIs Zr 88 (sm r fun m => T i6 m * v m)) (fun r Zr hr hy hL => ?_) (fun Zr hy => hq Zr hy.1 hy.2) ⟨stG.refl, h0⟩
  obtain ⟨y1, y2⟩ := hy
  have e : (48 + (6 * (x3 : Int))) + (r : Int) = ((48 + 6 * x3 + r : Nat) : Int) := by omega
  refine mjl_233_35 ⟨by omega, by omega, fun g => by omega, fun _ => ?_⟩
  rw [e]
  refine fm_number (d := d + 2) ht (by omega) (by omega) ?_
  have hTr := hT i6 r hi hr
  have hv := hb r hr
  have ev : Zr 470 (36 * t + 6 * i6 + r) = T i6 r := by rw [y1.1 470 (by decide) (by decide) (by decide) (by decide)]; exact hTr.1
  rw [ev]
  refine ⟨by omega, fm_set (d := d + 2) (i := 89) (by decide) (by omega) fun Z7 a1 a2 => ?_⟩
  have row : lbIs Z7 (48 + 6 * x3 + r) (v r) := ((hV r hr).R y1 (by omega)).stF a1 (by omega)
  have ha : bgA (T i6 r) ≤ 100 := by unfold bgA; split <;> omega
  refine fm_mul (d := d + 1) (u := 1) (w := 5) (by decide) (by decide) (by omega) a2 row (by omega) (by omega) (by decide) fun Z8 b1 b2 => ?_
  have acc : lbIs Z8 88 (sm r fun m => T i6 m * v m) := (y2.stF a1 (by decide)).R b1 (by decide)
  have g1 : ∀ j, j < n → bgA (T i6 j * v j) ≤ 100 * wX := fun j hj => Int.le_trans (bgA_mul100 (hT i6 j hi hj).2) (by have := hb j hj; omega)
  have g2 := sm_bd6 (f := fun m => T i6 m * v m) r (by omega) (show (0 : Int) ≤ 100 * wX by omega) fun j hj => g1 j (by omega)
  have g3 := g1 r hr
  refine fm_add (d := d) (by decide) (by decide) (by decide) acc b2 (by omega) (by omega) (Or.inl rfl) fun Z9 c1 c2 => hL Z9 ⟨?_, ?_⟩
  · exact y1.tr ((a1.R (Or.inr rfl)).tr ((b1.mono fun k hk => Or.inr hk).tr (c1.R (Or.inl rfl))))
  · rw [sm_succ, ← Int.one_mul (T i6 r * v r)]
    exact c2
theorem fm_bent {Z : mjZ} {x2 x3 x4 : Nat} {q : mjZ → Prop} (ht : t < 60) (h6 : n ≤ 6) (hn : Z 469 t = (n : Int)) (hT : ∀ i k, i < n → k < n → Z 470 (36 * t + 6 * i + k) = T i k ∧ -100 ≤ T i k ∧ T i k ≤ 100) (hx2 : x2 < 6) (hx3 : x3 < 6) (hx4 : x4 < 128) (hU : ∀ j, j < n → lbIs Z (48 + 6 * x2 + j) (u j)) (hV : ∀ j, j < n → lbIs Z (48 + 6 * x3 + j) (v j)) (ha : ∀ j, j < n → bgA (u j) ≤ wX) (hb : ∀ j, j < n → bgA (v j) ≤ wX) (hq : ∀ Z', stG (fun k => k = 87 ∨ k = 88 ∨ k = 89 ∨ k = x4) Z Z' → lbIs Z' x4 (bfv n T u v) → q Z') : mjW0 (d + 4) 233 [yR 11 464, yI (t : Int), yI (x2 : Int), yI (x3 : Int), yI (x4 : Int)] Z q := by
  have hX := wX_f
  refine mje_233 (d := d + 3) ⟨by omega, by omega, fm_set (d := d + 2) (i := 87) (by decide) (by decide) fun Z1 a1 a2 => ?_⟩
  rw [hn]
  have i1 : ∀ i, i < n → bgA (sm n fun m => T i m * v m) ≤ 600 * wX := fun i hi => by
    have := sm_bd6 (f := fun m => T i m * v m) n h6 (show (0 : Int) ≤ 100 * wX by omega) fun j hj => Int.le_trans (bgA_mul100 (hT i j hi hj).2) (by have := hb j hj; omega)
    omega
  have i2 : ∀ i, i < n → bgA (u i * sm n fun m => T i m * v m) ≤ 600 * wX * wX := fun i hi => by
    rw [bgA_mulE, Int.mul_comm]
    exact Int.mul_le_mul (i1 i hi) (ha i hi) (bgA_nn _) (by omega)
  refine lp_inv (n := n) (a := Z1) (L := fun r Zr => mjL_233_18 (d + 3) t x2 x3 x4 (n : Int) r Zr q) (Y := fun r Zr => stG (fun k => k = 87 ∨ k = 88 ∨ k = 89) Z Zr ∧ lbIs Zr 87 (sm r fun i => u i * sm n fun m => T i m * v m)) (fun r Zr hr hy hL => ?_) (fun Zr hy => ?_) ⟨a1.R (Or.inl rfl), a2⟩
  · obtain ⟨y1, y2⟩ := hy
    refine mjl_233_18 ⟨by omega, by omega, fun g => by omega, fun _ => ?_⟩
    refine fm_set (d := d + 2) (i := 88) (by decide) (by decide) fun Z4 b1 b2 => ?_
    have y3 : stG (fun k => k = 87 ∨ k = 88 ∨ k = 89) Z Z4 := y1.tr (b1.R (Or.inr (Or.inl rfl)))
    refine fm_bentI (v := v) ht h6 hr (fun i k h1 h2 => by rw [y3.1 470 (by decide) (by decide) (by decide) (by decide)]; exact hT i k h1 h2) hx3 (fun j hj => (hV j hj).R y3 (by omega)) hb b2 fun Z5 c1 c2 => ?_
    have y4 : stG (fun k => k = 87 ∨ k = 88 ∨ k = 89) Z Z5 := y3.tr (c1.mono fun k hk => Or.inr hk)
    have e : (48 + (6 * (x2 : Int))) + (r : Int) = ((48 + 6 * x2 + r : Nat) : Int) := by omega
    refine mjl_233_35 ⟨by omega, by omega, fun _ => ?_, fun g => by omega⟩
    rw [e]
    have q1 := i1 r hr
    have q2 := ha r hr
    have q3 := i2 r hr
    rw [Int.mul_comm] at q3
    refine fm_mul (d := d + 1) (u := 5) (w := 5) (by decide) (by decide) (by omega) c2 ((hU r hr).R y4 (by omega)) (by omega) (by omega) (by decide) fun Z6 f1 f2 => ?_
    have acc : lbIs Z6 87 (sm r fun i => u i * sm n fun m => T i m * v m) := ((y2.stF b1 (by decide)).R c1 (by decide)).R f1 (by decide)
    have g2 := sm_bd6 (f := fun i => u i * sm n fun m => T i m * v m) r (by omega) (Int.mul_nonneg (show (0 : Int) ≤ 600 * wX by omega) (by omega)) fun j hj => i2 j (by omega)
    have g3 : bgP 9 < bgP 23 := by decide +kernel
    have g4 : 3600 * wX * wX = 6 * (600 * wX * wX) := by grind
    have g5 : 0 ≤ 600 * wX * wX := Int.mul_nonneg (by omega) (by omega)
    refine fm_add (d := d) (by decide) (by decide) (by decide) acc f2 (by omega) (by omega) (Or.inl rfl) fun Z9 k1 k2 => hL Z9 ⟨?_, ?_⟩
    · exact y4.tr ((f1.mono fun k hk => Or.inr (Or.inl hk)).tr (k1.R (Or.inl rfl)))
    · rw [sm_succ, Int.mul_comm (u r), ← Int.one_mul (_ * u r)]
      exact k2
  · obtain ⟨y1, y2⟩ := hy
    refine mjl_233_18 ⟨by omega, by omega, fun _ => ?_, fun g => by omega⟩
    refine fm_copy (d := d + 2) hx4 (by decide) y2 fun Z3 b1 b2 => hq Z3 ?_ b2
    exact (y1.mono fun k hk => by omega).tr (b1.R (Or.inr (Or.inr (Or.inr rfl))))
theorem fm_signAt {Z : mjZ} {x2 x3 : Nat} {q : Int → mjZ → Prop} (ht : t < 60) (h6 : n ≤ 6) (hn : Z 469 t = (n : Int)) (hT : ∀ i k, i < n → k < n → Z 470 (36 * t + 6 * i + k) = T i k ∧ -100 ≤ T i k ∧ T i k ≤ 100) (hx2 : x2 < 6) (hx3 : x3 < 6) (hU : ∀ j, j < n → lbIs Z (48 + 6 * x2 + j) (u j)) (hV : ∀ j, j < n → lbIs Z (48 + 6 * x3 + j) (v j)) (ha : ∀ j, j < n → bgA (u j) ≤ wX) (hb : ∀ j, j < n → bgA (v j) ≤ wX) (hq : ∀ s Z', stG (fun k => k = 87 ∨ k = 88 ∨ k = 89 ∨ k = 112) Z Z' → -1 ≤ s ∧ s ≤ 1 → (s = 0 ↔ bfv n T u v = 0) → q s Z') : mjW1 (d + 5) 232 [yR 11 464, yI (t : Int), yI (x2 : Int), yI (x3 : Int)] Z q := by
  refine mje_232 (d := d + 4) (fm_bent (d := d) (x4 := 112) ht h6 hn hT hx2 hx3 (by decide) hU hV ha hb fun Z' a1 a2 => hq _ Z' a1 ?_ ?_)
  · rcases a2.s with ⟨_, g⟩ | ⟨_, g⟩ | ⟨_, g⟩ <;> rw [g] <;> decide
  · rcases a2.s with ⟨k, g⟩ | ⟨k, g⟩ | ⟨k, g⟩ <;> omega
end RB
