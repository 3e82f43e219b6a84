/-! The class: what a polynomial shares with its slope. -/
def Ak (d : Nat) (u : Nat → Int) : Nat → Nat → Int
  | 0 => u
  | k + 1 => rk d u (sOf d u) k
section AKS
variable {d : Nat} {u : Nat → Int}
theorem ak_three (h : RC3 u d) (k : Nat) : ∃ T : Int, ∀ i, i < d → hk (sOf d u) k * hk (sOf d u) k * Ak d u (k + 2) i = hk (sOf d u) k * hk (sOf d u) (k + 1) * su (Ak d u (k + 1)) i + T * Ak d u (k + 1) i - hk (sOf d u) (k + 1) * hk (sOf d u) (k + 1) * Ak d u k i := by
  cases k with
  | zero =>
    refine ⟨-(mk (sOf d u) 0 1), fun i hi => ?_⟩
    have e := h.2.1 i hi
    rw [hk_0, Int.one_mul, Int.one_mul, Int.one_mul]
    exact e
  | succ k => exact ⟨_, fun i hi => h.1 k i hi⟩
theorem ak_head (h : RC3 u d) (u1 : u d = 1) {k i : Nat} (e : i + k = d) : Ak d u k i = hk (sOf d u) k := by
  cases k with
  | zero =>
    rw [show i = d by omega]
    exact u1
  | succ k => exact h.2.2.2 k i (by omega)
theorem ak_low (h : RC3 u d) {k i : Nat} (hi : i < d) (e : d ≤ i + k) : Ak d u (k + 1) i = 0 := h.2.2.1 k i hi e
theorem ak_0 {i : Nat} : Ak d u 1 i = ((i : Int) + 1) * u (i + 1) := by
  show sm 1 (fun l => vk (sOf d u) 0 l * rh d u l i) = _
  show 0 + vk (sOf d u) 0 0 * rh d u 0 i = _
  rw [vk_top, hk_0, Int.zero_add, Int.one_mul]
  rfl
theorem bgA_pm {s x : Int} (h : s = 1 ∨ s = -1) : bgA (s * x) = bgA x := by
  rcases h with e | e
  · rw [e, Int.one_mul]
  · rw [e, show -1 * x = -x by omega, bgA_neg]
theorem n350 : (46656000000000000 : Int) ≤ 2 ^ 350 := by decide +kernel
theorem ak_bd (h : SZ u d) {k i : Nat} (hk : k ≤ 6) (hi : k = 0 ∨ i < d) : bgA (Ak d u k i) ≤ 2 ^ 350 := by
  cases k with
  | zero => exact Int.le_trans (h.1 i) n350
  | succ k =>
    refine h.2.1 k i (by omega) ?_
    rcases hi with e | e
    · omega
    · exact e
theorem rm_step {A B a b c : Nat → Int} {h0 h1 T s t : Int} {l : Nat} (hs : s = 1 ∨ s = -1) (ht : t = 1 ∨ t = -1) (eA : ∀ i, A i = s * a i) (eB : ∀ i, B i = t * b i) (e : ∀ i, i ≤ l → h0 * h0 * c i = h0 * h1 * su b i + T * b i - h1 * h1 * a i) (b1 : b l = h1) (c0 : c l = 0) (a1 : a (l + 1) = h0) (n0 : h0 ≠ 0) (n1 : h1 ≠ 0) {i : Nat} (hi : i < l) : rmC A B l i = -s * c i := by
  have T' : T = h1 * a l - h0 * su b l := Int.eq_of_mul_eq_mul_left n1 (by
    have e1 := e l (Nat.le_refl l)
    rw [b1, c0] at e1
    grind)
  have L : ∀ i, lfT A B l i = s * t * (a i * h1 - su b i * h0) := fun i => by
    unfold lfT
    cases i with
    | zero =>
      rw [if_pos rfl, eA, eB, b1, su_0]
      grind
    | succ i =>
      rw [if_neg (by omega), show i + 1 - 1 = i from rfl, eA, eB, eB, eA, b1, a1, su_s]
      grind
  have e2 := e i (by omega)
  have R : rmT A B l i = s * h0 * (s * h0 * (-s * c i)) := by
    unfold rmT
    rw [L, L, eB, eB, b1]
    rw [T'] at e2
    rcases hs with g | g <;> rcases ht with f | f <;> subst g <;> subst f <;> grind
  have ns : s * h0 ≠ 0 := fun z => by
    rcases hs with g | g <;> subst g <;> omega
  unfold rmC
  rw [eA, a1, R, Int.mul_tdiv_cancel_left _ ns, Int.mul_tdiv_cancel_left _ ns]
theorem SG_bd {m e : Nat} {f g : Nat → Int} (h : SG u d m e f g) (i : Nat) : bgA (u i) ≤ 46656000000000000 := by
  rcases h with ⟨_, _, _, e, _⟩ | ⟨_, _, h, _⟩
  · rw [e]
    unfold mono
    split <;> decide
  · exact h.1 i
theorem SG_d6 {m e : Nat} {f g : Nat → Int} (h : SG u d m e f g) : d ≤ 6 := by
  rcases h with ⟨h, _⟩ | ⟨h, _⟩
  · omega
  · exact h
end AKS
/-- what stays while the common part is made -/
def shF (Z Z' : mjZ) : Prop := ∀ x, x ≠ 254 → x ≠ 259 → x ≠ 260 → (x < 266 ∨ 323 < x) → Z' x = Z x
def trO (Z : mjZ) : Prop := (∃ a b c, tw3 Z a b c) ∧ ∃ o t r, dvT 315 Z o t r
def shS (x : Nat) : Prop := 266 ≤ x ∧ x < 324
theorem shF.S {Z Z1 Z2 : mjZ} (h : shF Z Z1) (g : wcS shS Z1 Z2) : shF Z Z2 := fun x h1 h2 h3 h4 => (g x (by unfold shS; omega)).trans (h x h1 h2 h3 h4)
theorem shF.U {Z Z1 : mjZ} {c k : Nat} {v : Int} (h : shF Z Z1) (hc : c = 254 ∨ c = 259 ∨ c = 260) : shF Z (mjUp Z1 c k v) := fun x h1 h2 h3 h4 => (by rw [mjUp_nc (by omega)]; exact h x h1 h2 h3 h4)
def shE (d x1 : Nat) (x3 : Int) (q : mjZ → Prop) (Z2 : mjZ) : Prop := (-2147483648 ≤ (Z2 259 0) ∧ (Z2 259 0) < 2147483648) ∧ (((Z2 259 0) ≠ 0 → (mjOk 33 (Z2 254 6).toNat ∧ (0 ≤ x3 ∧ (x3 < 7 ∧ (mjW0 d 98 [yR 0 313, yR 0 ((Z2 254 6).toNat + 1 + 2 * (x3).toNat)] Z2 (fun Z7 => mjL_91_167 d x1 x3 0 Z7 q)))))) ∧ (¬((Z2 259 0) ≠ 0) → (mjW0 d 76 [yR 3 259, yI 0, yJ 1] Z2 (fun Z8 => q Z8))))
theorem tw3.U {Z : mjZ} {a b c x k : Nat} {v : Int} (h : tw3 Z a b c) (hx : x ≠ 254) : tw3 (mjUp Z x k v) a b c := h.cc (mjUp_nc (Ne.symm hx))
theorem sh_end {d x1 e a b c o t r : Nat} {Z0 Z : mjZ} {g : Nat → Int} {h v : Int} {q : mjZ → Prop} (hF : shF Z0 Z) (hD : dvT 315 Z o t r) (h3 : tw3 Z a b c) (he : e ≤ 6) (hB : ∀ i, i ≤ e → bgIs 40 Z (b + 1 + 2 * i) (v * h * g i)) (hv : v = 1 ∨ v = -1) (hh : h ≠ 0) (g1 : g e = 1) (gb : ∀ i, bgA (g i) ≤ 46656000000000000) (hq : ∀ Z', shF Z0 Z' → trO Z' → Z' 259 0 = (e : Int) → (∀ i, i ≤ e → Z' 260 i = g i) → q Z') : mjW0 (d + 6) 75 [yR 3 259, yI (e : Int)] Z (shE (d + 6) x1 (e : Int) q) := by
  obtain ⟨_, _, _, ra, rb, rc, nab, nac, nbc⟩ := id h3
  have ob := tw_ok rb
  obtain ⟨R1, R3, RD⟩ := tw_own
  have nv : v * h ≠ 0 := fun z => by
    rcases hv with g | g <;> subst g <;> omega
  refine pl_begin (d := d + 4) he ?_
  have z0 : (mjUp Z 259 0 (e : Int)) 259 0 = (e : Int) := mjUp_at
  have t0 : tw3 (mjUp Z 259 0 (e : Int)) a b c := h3.U (by omega)
  unfold shE
  rw [z0]
  refine ⟨by omega, fun ne => ?_, fun e0 => ?_⟩
  · rw [t0.n.2.1, show ((e : Int)).toNat = e from rfl]
    have bB : ∀ i, i ≤ e → bgIs 40 (mjUp Z 259 0 (e : Int)) (b + 1 + 2 * i) (v * h * g i) := fun i hi => bgIs_congr (hB i hi) (mjUp_nc (by omega)) (mjUp_nc (by omega))
    refine ⟨ob, by omega, by omega, bg_copy (d := d + 4) R3 (tw_row rb (by omega)) (by unfold bgX; omega) (bB e (Nat.le_refl e)) (bB e (Nat.le_refl e)).lt fun Z1 b1 b2 => ?_⟩
    rw [g1, Int.mul_one] at b2
    have w1 : wcS shS (mjUp Z 259 0 (e : Int)) Z1 := b1.S (by unfold shS; omega) (by unfold shS; omega)
    have f1 : shF Z0 Z1 := (hF.U (Or.inr (Or.inl rfl))).S w1
    refine lp_inv (n := e + 1) (a := Z1) (L := fun i Zc => mjL_91_167 (d + 6) x1 (e : Int) (i : Int) Zc q) (Y := fun i Zc => shF Z0 Zc ∧ dvT 315 Zc o t r ∧ tw3 Zc a b c ∧ bgIs 40 Zc 313 (v * h) ∧ Zc 259 0 = (e : Int) ∧ (∀ j, i ≤ j → j ≤ e → bgIs 40 Zc (b + 1 + 2 * j) (v * h * g j)) ∧ ∀ j, j < i → Zc 260 j = g j) (fun i Zc hi hy hL => ?_) (fun Zc hy => ?_) ⟨f1, (hD.cc (mjUp_nc (by omega))).cc (b1 315 (by omega) (by omega)), t0.cc (b1 254 (by omega) (by omega)), b2, (by rw [b1 259 (by omega) (by omega)]; exact z0), fun j _ hj => (bB j hj).O b1 (by unfold bgX; omega), fun j hj => by omega⟩
    · obtain ⟨y1, y2, y3, y4, y5, y6, y7⟩ := hy
      refine mjl_91_167 ⟨by omega, by omega, fun g => by omega, fun _ => ?_⟩
      rw [y3.n.2.1, show ((i : Int)).toNat = i from rfl]
      refine ⟨ob, by omega, by omega, ?_⟩
      refine dv_divideX (d := d + 1) RD y2 (tw_row rb (by omega)) R3 (by unfold bgX; omega) (by unfold dvE; omega) (by unfold dvE; omega) (y6 i (Nat.le_refl i) (by omega)) y4 fun Z2 m1 m2 m3 => ?_
      rw [Int.mul_tdiv_cancel_left _ nv] at m3
      have t2 : tw3 Z2 a b c := y3.cc (m1 254 (by omega) (by omega) (by omega))
      rw [t2.n.2.1]
      have gbi := gb i
      refine ⟨ob, bg_asLong (d := d + 4) (tw_row rb (by omega)) m3 (by omega) (pl_wr (d := d + 5) (by omega) (hL _ ⟨?_, ?_, t2.U (by omega), ?_, ?_, fun j h1 h2 => ?_, fun j hj => ?_⟩))⟩
      · refine shF.U (fun x h1 h2 h3 h4 => ?_) (Or.inr (Or.inr rfl))
        rw [m1 x (by omega) (by omega) (by omega)]
        exact y1 x h1 h2 h3 h4
      · exact m2.cc (mjUp_nc (by omega))
      · exact bgIs_congr (bgIs_congr y4 (m1 _ (by omega) (by omega) (by omega)) (m1 _ (by omega) (by omega) (by omega))) (mjUp_nc (by omega)) (mjUp_nc (by omega))
      · rw [mjUp_nc (by omega), m1 259 (by omega) (by omega) (by omega)]
        exact y5
      · exact bgIs_congr (bgIs_congr (y6 j (by omega) h2) (m1 _ (by omega) (by omega) (by omega)) (m1 _ (by omega) (by omega) (by omega))) (mjUp_nc (by omega)) (mjUp_nc (by omega))
      · by_cases ej : j = i
        · rw [ej]
          exact mjUp_at
        · rw [mjUp_ne (fun _ => ej), m1 260 (by omega) (by omega) (by omega)]
          exact y7 j (by omega)
    · obtain ⟨y1, y2, y3, y4, y5, y6, y7⟩ := hy
      exact mjl_91_167 ⟨by omega, by omega, fun _ => hq Zc y1 ⟨⟨a, b, c, y3⟩, o, t, r, y2⟩ y5 fun i hi => y7 i (by omega), fun g => by omega⟩
  · have e0' : e = 0 := by omega
    subst e0'
    refine pl_wr (d := d + 5) (j := 0) (by omega) (hq _ ((hF.U (Or.inr (Or.inl rfl))).U (Or.inr (Or.inr rfl))) ⟨⟨a, b, c, t0.U (by omega)⟩, o, t, r, (hD.cc (mjUp_nc (by omega))).cc (mjUp_nc (by omega))⟩ ?_ fun i hi => ?_)
    · rw [mjUp_nc (by omega)]
      exact z0
    · rw [show i = 0 by omega, g1]
      exact mjUp_at
