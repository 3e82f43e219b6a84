/-! Rows: what goes into all of a row; how great a row is. -/
theorem gcd_bz (m n : Nat) : ∃ a b : Int, a * (m : Int) + b * (n : Int) = (Nat.gcd m n : Int) := by
  induction m, n using Nat.gcd.induction with
  | H0 n => exact ⟨0, 1, by rw [Nat.gcd_zero_left]; omega⟩
  | H1 m n h ih =>
    obtain ⟨a, b, e⟩ := ih
    refine ⟨b - a * ((n / m : Nat) : Int), a, ?_⟩
    have e1 : (n : Int) = (m : Int) * ((n / m : Nat) : Int) + ((n % m : Nat) : Int) := by
      have := Nat.div_add_mod n m
      rw [← Int.natCast_mul, ← Int.natCast_add, this]
    rw [Nat.gcd_rec m n, ← e]
    generalize ((n / m : Nat) : Int) = q at e1 ⊢
    generalize ((n % m : Nat) : Int) = r at e1 ⊢
    grind
theorem gcd_bzI (x y : Int) : ∃ a b : Int, a * x + b * y = (Nat.gcd x.natAbs y.natAbs : Int) := by
  obtain ⟨a, b, e⟩ := gcd_bz x.natAbs y.natAbs
  have h : ∀ z : Int, (z.natAbs : Int) = z ∨ (z.natAbs : Int) = -z := fun z => by omega
  rcases h x with g | g <;> rcases h y with g2 | g2 <;> rw [← e, g, g2]
  · exact ⟨a, b, rfl⟩
  · exact ⟨a, -b, by grind⟩
  · exact ⟨-a, b, by grind⟩
  · exact ⟨-a, -b, by grind⟩
/-- the greatest number that goes into all of a row -/
def cnt (n : Nat) (v : Nat → Int) : Nat := fo (fun j g => Nat.gcd (v j).natAbs g) n 0
theorem cnt_succ {n : Nat} {v : Nat → Int} : cnt (n + 1) v = Nat.gcd (v n).natAbs (cnt n v) := rfl
theorem cnt_bz {v : Nat → Int} : ∀ n, ∃ u : Nat → Int, sm n (fun j => u j * v j) = (cnt n v : Int)
  | 0 => ⟨fun _ => 0, rfl⟩
  | n + 1 => by
    obtain ⟨u, hu⟩ := cnt_bz (v := v) n
    obtain ⟨a, b, e⟩ := gcd_bzI (v n) (cnt n v : Int)
    refine ⟨fun j => if j = n then a else b * u j, ?_⟩
    show sm n (fun j => (if j = n then a else b * u j) * v j) + (if n = n then a else b * u n) * v n = _
    rw [if_pos rfl, cnt_succ]
    have e1 : sm n (fun j => (if j = n then a else b * u j) * v j) = b * (cnt n v : Int) := by
      rw [← hu, ← sm_mul]
      exact sm_eq n fun j hj => by rw [if_neg (by omega), Int.mul_assoc]
    rw [e1, Int.add_comm, e]
    rfl
theorem cnt_dvd {v : Nat → Int} : ∀ n j, j < n → ((cnt n v : Nat) : Int) ∣ v j
  | 0, j, h => by omega
  | n + 1, j, h => by
    rw [cnt_succ]
    by_cases g : j = n
    · subst g
      exact Int.ofNat_dvd_left.mpr (Nat.gcd_dvd_left _ _)
    · exact Int.dvd_trans (Int.natCast_dvd_natCast.mpr (Nat.gcd_dvd_right _ _)) (cnt_dvd n j (by omega))
theorem cnt_zero {v : Nat → Int} {n : Nat} (h : cnt n v = 0) : ∀ j, j < n → v j = 0 := fun j hj => by
  have := cnt_dvd (v := v) n j hj
  rw [h] at this
  exact Int.zero_dvd.mp this
/-- a row into all of whose numbers 1 alone goes -/
def prm (n : Nat) (v : Nat → Int) : Prop := ∃ u : Nat → Int, sm n (fun j => u j * v j) = 1
theorem cnt_prm {n : Nat} {v : Nat → Int} (h : cnt n v ≠ 0) : prm n fun j => v j / (cnt n v : Int) := by
  obtain ⟨u, hu⟩ := cnt_bz (v := v) n
  refine ⟨u, ?_⟩
  have hc : ((cnt n v : Nat) : Int) ≠ 0 := by omega
  refine Int.eq_of_mul_eq_mul_right hc ?_
  rw [← sm_mulr, Int.one_mul]
  conv => rhs; rw [← hu]
  exact sm_eq n fun j hj => by rw [Int.mul_assoc, Int.ediv_mul_cancel (cnt_dvd n j hj)]
theorem bgA_mulE (x y : Int) : bgA (x * y) = bgA x * bgA y := by rw [bgA_nat, bgA_nat, bgA_nat, Int.natAbs_mul, Int.natCast_mul]
def l1 (n : Nat) (v : Nat → Int) : Int := sm n fun j => bgA (v j)
theorem sm_nn {f : Nat → Int} : ∀ n, (∀ j, j < n → 0 ≤ f j) → 0 ≤ sm n f
  | 0, _ => Int.le_refl 0
  | n + 1, h => by
    have := sm_nn n fun j hj => h j (by omega)
    have := h n (by omega)
    rw [sm_succ]
    omega
theorem sm_one {f : Nat → Int} : ∀ n j, j < n → (∀ j, j < n → 0 ≤ f j) → f j ≤ sm n f
  | 0, j, h, _ => by omega
  | n + 1, j, h, h0 => by
    rw [sm_succ]
    by_cases g : j = n
    · subst g
      have := sm_nn j fun k hk => h0 k (by omega)
      omega
    · have := sm_one n j (by omega) fun k hk => h0 k (by omega)
      have := h0 n (by omega)
      omega
theorem l1_at {n j : Nat} {v : Nat → Int} (h : j < n) : bgA (v j) ≤ l1 n v := sm_one n j h fun _ _ => bgA_nn _
section RW
variable {n s : Nat} {T : Nat → Nat → Int}
theorem bfv_bd {u v : Nat → Int} (hT : ∀ i k, i < n → k < n → -100 ≤ T i k ∧ T i k ≤ 100) : bgA (bfv n T u v) ≤ 100 * l1 n u * l1 n v := by
  have h1 : ∀ j, j < n → bgA (sm n fun m => T j m * v m) ≤ 100 * l1 n v := fun j hj => by
    refine Int.le_trans (sm_abs n) ?_
    unfold l1
    rw [← sm_mul]
    exact sm_le n fun m hm => bgA_mul100 (hT j m hj hm)
  refine Int.le_trans (sm_abs n) ?_
  have e : 100 * l1 n u * l1 n v = sm n fun j => bgA (u j) * (100 * l1 n v) := by
    rw [sm_mulr]
    show _ = l1 n u * _
    grind
  rw [e]
  refine sm_le n fun j hj => ?_
  rw [bgA_mulE]
  exact Int.mul_le_mul_of_nonneg_left (h1 j hj) (bgA_nn _)
/-- how great the upright vector is -/
theorem wv_bd (hT : ∀ i k, i < n → k < n → -100 ≤ T i k ∧ T i k ≤ 100) {F : Nat → Nat → Int} {g : Nat → Int} {w : Nat → Nat} (hF : ∀ a, a < s → l1 n (F a) ≤ (w a : Int)) (hg : l1 n g ≤ 1) {j : Nat} (hj : j < n) : bgA (wv n s T F g j) ≤ ((fct (s + 1) * 100 ^ s * pr s w * pr s w : Nat) : Int) := by
  have hb : pr (s + 1) (fun k => if k < s then w k else 1) = pr s w := by
    have e : ∀ m, m ≤ s → pr m (fun k => if k < s then w k else 1) = pr m w := by
      intro m
      induction m with
      | zero => intro _; rfl
      | succ m ih =>
        intro hm
        show pr m _ * (if m < s then w m else 1) = pr m w * w m
        rw [ih (by omega), if_pos (by omega)]
    show pr s _ * (if s < s then w s else 1) = _
    rw [e s (Nat.le_refl _), if_neg (by omega), Nat.mul_one]
  have hN : ∀ i k, i < s → k < s + 1 → bgA (grn n s T F g i k) ≤ ((100 * w i * (if k < s then w k else 1) : Nat) : Int) := fun i k hi hk => by
    have wi : (0 : Int) ≤ l1 n (F i) := sm_nn n fun _ _ => bgA_nn _
    unfold grn
    by_cases h : k < s
    · rw [if_pos h, if_pos h]
      have h1 := bfv_bd (u := F i) (v := F k) hT
      have h2 : 100 * l1 n (F i) * l1 n (F k) ≤ 100 * (w i : Int) * (w k : Int) := Int.mul_le_mul (by have := hF i hi; omega) (hF k h) (sm_nn n fun _ _ => bgA_nn _) (by omega)
      rw [Int.natCast_mul, Int.natCast_mul]
      exact Int.le_trans h1 h2
    · rw [if_neg h, if_neg h]
      have h1 := bfv_bd (u := F i) (v := g) hT
      have h2 : 100 * l1 n (F i) * l1 n g ≤ 100 * (w i : Int) * 1 := Int.mul_le_mul (by have := hF i hi; omega) hg (sm_nn n fun _ _ => bgA_nn _) (by omega)
      rw [Int.natCast_mul, Int.natCast_mul]
      exact Int.le_trans h1 h2
  have cof : ∀ a, a < s + 1 → bgA (dcf s (grn n s T F g) a) * (((if a < s then w a else 1 : Nat) : Nat) : Int) ≤ ((fct s * 100 ^ s * pr s w * pr s w : Nat) : Int) := fun a ha => by
    have h1 := dt_bd (K := 100) s (fun i k => grn n s T F g i (dsk a k)) w (fun k => if dsk a k < s then w (dsk a k) else 1) fun i k hi hk => hN i (dsk a k) hi (dsk_lt hk)
    have h2 := pr_skip (f := fun k => if k < s then w k else 1) s a ha
    rw [hb] at h2
    have e : bgA (dcf s (grn n s T F g) a) = bgA (dt s fun i k => grn n s T F g i (dsk a k)) := by
      unfold dcf
      rw [bgA_mulE]
      rcases sg1_or a with k | k <;> rw [k]
      · show 1 * _ = _; rw [Int.one_mul]
      · show 1 * _ = _; rw [Int.one_mul]
    rw [e]
    have h3 := Int.mul_le_mul_of_nonneg_right h1 (show (0 : Int) ≤ (((if a < s then w a else 1 : Nat) : Nat) : Int) by omega)
    refine Int.le_trans h3 (Int.le_of_eq ?_)
    rw [← Int.natCast_mul]
    congr 1
    rw [Nat.mul_assoc, Nat.mul_comm (pr s fun k => if dsk a k < s then w (dsk a k) else 1), ← h2]
  have e : wv n s T F g j = sm (s + 1) fun a => dcf s (grn n s T F g) a * (if a < s then F a j else g j) := by
    rw [sm_succ, if_neg (by omega)]
    unfold wv
    congr 1
    exact sm_eq s fun a ha => by rw [if_pos ha]
  rw [e]
  refine Int.le_trans (sm_abs (s + 1)) ?_
  have hall : ∀ a, a < s + 1 → bgA (dcf s (grn n s T F g) a * (if a < s then F a j else g j)) ≤ ((fct s * 100 ^ s * pr s w * pr s w : Nat) : Int) := fun a ha => by
    rw [bgA_mulE]
    refine Int.le_trans ?_ (cof a ha)
    refine Int.mul_le_mul_of_nonneg_left ?_ (bgA_nn _)
    by_cases h : a < s
    · rw [if_pos h, if_pos h]
      exact Int.le_trans (l1_at hj) (hF a h)
    · rw [if_neg h, if_neg h]
      exact Int.le_trans (l1_at hj) hg
  refine Int.le_trans (sm_cst (s + 1) hall) (Int.le_of_eq ?_)
  rw [← Int.natCast_mul]
  congr 1
  show (s + 1) * _ = (s + 1) * fct s * _ * _ * _
  grind
/-- a row that 1 alone goes into is what the upright vector is a multiple of -/
theorem wy_prim (hT : tSym n T) {F : Nat → Nat → Int} (hd : dt s (grm n T F) ≠ 0) {g R : Nat → Int} {m x : Int} {p : Nat → Int} (h : wyQ n s T F g R m x p) (hp : prm n R) : ∃ t : Int, t ≠ 0 ∧ ∀ j, j < n → wv n s T F g j = t * R j := by
  have hpar := wy_par hT hd h
  have hnz := grn_nz hd g
  obtain ⟨u, hu⟩ := hp
  obtain ⟨h1, h2, -, -⟩ := h
  have e : x * sm n (fun j => u j * wv n s T F g j) = dcf s (grn n s T F g) s * m := by
    rw [← sm_mul]
    have e1 : sm n (fun j => x * (u j * wv n s T F g j)) = sm n fun j => dcf s (grn n s T F g) s * m * (u j * R j) := sm_eq n fun j hj => by
      have := hpar j hj
      grind
    rw [e1, sm_mul, hu, Int.mul_one]
  refine ⟨sm n fun j => u j * wv n s T F g j, fun k => ?_, fun j hj => ?_⟩
  · rw [k, Int.mul_zero] at e
    rcases Int.mul_eq_zero.mp e.symm with k | k
    · exact hnz k
    · exact h1 k
  · refine Int.eq_of_mul_eq_mul_left h2 ?_
    rw [← Int.mul_assoc, e, hpar j hj]
theorem prim_bd {R W : Nat → Int} {t X : Int} (ht : t ≠ 0) (h : ∀ j, j < n → W j = t * R j) (hX : ∀ j, j < n → bgA (W j) ≤ X) : ∀ j, j < n → bgA (R j) ≤ X := fun j hj => by
  have h1 := hX j hj
  rw [h j hj, bgA_mulE] at h1
  have h2 : 1 ≤ bgA t := by unfold bgA; split <;> omega
  have h3 : 1 * bgA (R j) ≤ bgA t * bgA (R j) := Int.mul_le_mul_of_nonneg_right h2 (bgA_nn _)
  omega
theorem prim_t {R W : Nat → Int} {t X : Int} (h : ∀ j, j < n → W j = t * R j) (hX : ∀ j, j < n → bgA (W j) ≤ X) (hp : prm n R) : bgA t ≤ X := by
  have : ∃ j, j < n ∧ R j ≠ 0 := Classical.byContradiction fun k => by
    obtain ⟨u, hu⟩ := hp
    rw [sm_zero n fun j hj => by rw [Classical.byContradiction fun k2 => k ⟨j, hj, k2⟩, Int.mul_zero]] at hu
    exact absurd hu (by decide)
  obtain ⟨j, hj, hne⟩ := this
  have h1 := hX j hj
  rw [h j hj, bgA_mulE] at h1
  have h2 : 1 ≤ bgA (R j) := by unfold bgA; split <;> omega
  have h3 : bgA t * 1 ≤ bgA t * bgA (R j) := Int.mul_le_mul_of_nonneg_left h2 (bgA_nn _)
  omega
end RW
