/-! The bilinear form of a table; vectors that stand upright on others, told by cofactors. -/
def bfv (n : Nat) (T : Nat → Nat → Int) (u v : Nat → Int) : Int := sm n fun j => u j * sm n fun m => T j m * v m
theorem sm_zero {f : Nat → Int} (n : Nat) (h : ∀ j, j < n → f j = 0) : sm n f = 0 := by
  have : sm n f = sm n fun _ => 0 * 0 := sm_eq n fun j hj => by rw [h j hj]; rfl
  rw [this, sm_mul (f := fun _ => (0 : Int))]
  exact Int.zero_mul _
theorem sm_mulr {f : Nat → Int} {c : Int} (n : Nat) : sm n (fun j => f j * c) = sm n f * c := by
  rw [sm_eq (g := fun j => c * f j) n fun j _ => Int.mul_comm _ _, sm_mul, Int.mul_comm]
theorem sm_unit {f : Nat → Int} {e : Nat} : ∀ n, sm n (fun j => (if j = e then 1 else 0) * f j) = if e < n then f e else 0
  | 0 => by rw [if_neg (by omega)]; rfl
  | n + 1 => by
    rw [sm_succ, sm_unit n]
    by_cases h : e = n
    · subst h
      rw [if_neg (by omega), if_pos rfl, if_pos (by omega)]
      omega
    · by_cases h2 : e < n
      · rw [if_pos h2, if_neg (by omega), if_pos (by omega)]; omega
      · rw [if_neg h2, if_neg (by omega), if_neg (by omega)]; omega
section BF
variable {n s : Nat} {T : Nat → Nat → Int}
theorem bfv_congr {u v u' v' : Nat → Int} (h1 : ∀ j, j < n → u j = u' j) (h2 : ∀ j, j < n → v j = v' j) : bfv n T u v = bfv n T u' v' := sm_eq n fun j hj => by
  rw [h1 j hj]
  congr 1
  exact sm_eq n fun m hm => by rw [h2 m hm]
theorem bfv_symm (hT : tSym n T) (u v : Nat → Int) : bfv n T u v = bfv n T v u := by
  unfold bfv
  have e1 : sm n (fun j => u j * sm n fun m => T j m * v m) = sm n fun j => sm n fun m => u j * (T j m * v m) := sm_eq n fun j _ => (sm_mul n).symm
  have e2 : sm n (fun j => v j * sm n fun m => T j m * u m) = sm n fun j => sm n fun m => v j * (T j m * u m) := sm_eq n fun j _ => (sm_mul n).symm
  rw [e1, e2, sm_swap]
  exact sm_eq n fun j hj => sm_eq n fun m hm => by rw [hT m j hm hj]; grind
theorem bfv_addl {u u' v : Nat → Int} : bfv n T (fun j => u j + u' j) v = bfv n T u v + bfv n T u' v := by
  unfold bfv
  rw [← sm_add]
  exact sm_eq n fun j _ => Int.add_mul _ _ _
theorem bfv_mull {u v : Nat → Int} {c : Int} : bfv n T (fun j => c * u j) v = c * bfv n T u v := by
  unfold bfv
  rw [← sm_mul]
  exact sm_eq n fun j _ => Int.mul_assoc _ _ _
theorem bfv_addr (hT : tSym n T) {u v v' : Nat → Int} : bfv n T u (fun j => v j + v' j) = bfv n T u v + bfv n T u v' := by
  rw [bfv_symm hT, bfv_addl, bfv_symm hT v, bfv_symm hT v']
theorem bfv_mulr (hT : tSym n T) {u v : Nat → Int} {c : Int} : bfv n T u (fun j => c * v j) = c * bfv n T u v := by
  rw [bfv_symm hT, bfv_mull, bfv_symm hT]
theorem bfv_sml {F : Nat → Nat → Int} {c : Nat → Int} {v : Nat → Int} : ∀ s, bfv n T (fun j => sm s fun a => c a * F a j) v = sm s fun a => c a * bfv n T (F a) v
  | 0 => sm_zero n fun j _ => Int.zero_mul _
  | s + 1 => by
    rw [sm_succ, ← bfv_sml s, ← bfv_mull (c := c s), ← bfv_addl]
    exact bfv_congr (fun j _ => sm_succ) fun j _ => rfl
theorem bfv_smr (hT : tSym n T) {F : Nat → Nat → Int} {c : Nat → Int} {v : Nat → Int} (s : Nat) : bfv n T v (fun j => sm s fun a => c a * F a j) = sm s fun a => c a * bfv n T v (F a) := by
  rw [bfv_symm hT, bfv_sml]
  exact sm_eq s fun a _ => by rw [bfv_symm hT]
/-- the table of the vectors F among each other -/
def grm (n : Nat) (T : Nat → Nat → Int) (F : Nat → Nat → Int) : Nat → Nat → Int := fun a b => bfv n T (F a) (F b)
/-- with one more column -/
def grn (n s : Nat) (T : Nat → Nat → Int) (F : Nat → Nat → Int) (g : Nat → Int) : Nat → Nat → Int := fun a b => if b < s then bfv n T (F a) (F b) else bfv n T (F a) g
theorem grn_cof {F : Nat → Nat → Int} {g : Nat → Int} : dcf s (grn n s T F g) s = sg1 s * dt s (grm n T F) := by
  unfold dcf
  congr 1
  refine dt_congr s _ _ fun i k hi hk => ?_
  show (if dsk s k < s then _ else _) = _
  rw [show dsk s k = k from if_pos hk, if_pos hk]
  rfl
/-- the vector that stands upright on F, in g's direction -/
def wv (n s : Nat) (T : Nat → Nat → Int) (F : Nat → Nat → Int) (g : Nat → Int) : Nat → Int := fun j => sm s (fun a => dcf s (grn n s T F g) a * F a j) + dcf s (grn n s T F g) s * g j
theorem wv_with (hT : tSym n T) {F : Nat → Nat → Int} {g v : Nat → Int} : bfv n T v (wv n s T F g) = sm (s + 1) fun b => (if b < s then bfv n T v (F b) else bfv n T v g) * dcf s (grn n s T F g) b := by
  unfold wv
  rw [bfv_addr hT, bfv_smr hT, bfv_mulr hT, sm_succ, if_neg (by omega)]
  congr 1
  · exact sm_eq s fun a ha => by rw [if_pos ha]; exact Int.mul_comm _ _
  · exact Int.mul_comm _ _
theorem wv_up (hT : tSym n T) {F : Nat → Nat → Int} {g : Nat → Int} {p : Nat} (hp : p < s) : bfv n T (F p) (wv n s T F g) = 0 := by
  rw [wv_with hT]
  exact dt_open0 (N := grn n s T F g) hp
/-- nothing made of F stands upright on all of F, if F's table has a worth that isn't 0 -/
theorem nd_of (hT : tSym n T) {F : Nat → Nat → Int} (hd : dt s (grm n T F) ≠ 0) {c : Nat → Int} (hc : ∀ k, k < s → sm s (fun a => c a * bfv n T (F a) (F k)) = 0) : ∀ a, a < s → c a = 0 := fun j hj => by
  obtain ⟨r, rfl⟩ : ∃ r, s = r + 1 := ⟨s - 1, by omega⟩
  have hrot := dt_rot j (r + 1) (dco (grm n T F j) fun i => grm n T F (dsk j i)) hj
  have e0 : dt (r + 1) (drt j (dco (grm n T F j) fun i => grm n T F (dsk j i))) = dt (r + 1) (grm n T F) := dt_congr _ _ _ fun i k hi hk => by
    unfold drt
    by_cases h : i < j
    · rw [if_pos h]
      show grm n T F (dsk j i) k = _
      rw [show dsk j i = i from if_pos h]
    · by_cases h2 : i = j
      · rw [if_neg h, if_pos h2, h2]; rfl
      · obtain ⟨i', rfl⟩ : ∃ i', i = i' + 1 := ⟨i - 1, by omega⟩
        rw [if_neg h, if_neg h2]
        show grm n T F (dsk j i') k = _
        rw [show dsk j i' = i' + 1 from if_neg (by omega)]
  rw [e0, dt_open] at hrot
  have hz : sm (r + 1) (fun k => dcf r (fun i => grm n T F (dsk j i)) k * sm (r + 1) fun a => c a * bfv n T (F a) (F k)) = 0 := sm_zero _ fun k hk => by rw [hc k hk, Int.mul_zero]
  have e1 : sm (r + 1) (fun k => dcf r (fun i => grm n T F (dsk j i)) k * sm (r + 1) fun a => c a * bfv n T (F a) (F k)) = sm (r + 1) fun a => c a * sm (r + 1) fun k => grm n T F a k * dcf r (fun i => grm n T F (dsk j i)) k := by
    have g1 : ∀ k, dcf r (fun i => grm n T F (dsk j i)) k * sm (r + 1) (fun a => c a * bfv n T (F a) (F k)) = sm (r + 1) fun a => dcf r (fun i => grm n T F (dsk j i)) k * (c a * bfv n T (F a) (F k)) := fun k => (sm_mul _).symm
    have g2 : ∀ a, c a * sm (r + 1) (fun k => grm n T F a k * dcf r (fun i => grm n T F (dsk j i)) k) = sm (r + 1) fun k => c a * (grm n T F a k * dcf r (fun i => grm n T F (dsk j i)) k) := fun a => (sm_mul _).symm
    rw [sm_eq _ fun k _ => g1 k, sm_eq (g := fun a => sm (r + 1) fun k => c a * (grm n T F a k * dcf r (fun i => grm n T F (dsk j i)) k)) _ fun a _ => g2 a, sm_swap]
    exact sm_eq _ fun a _ => sm_eq _ fun k _ => by
      show _ * (c a * grm n T F a k) = _
      grind
  rw [e1] at hz
  have e2 : sm (r + 1) (fun a => c a * sm (r + 1) fun k => grm n T F a k * dcf r (fun i => grm n T F (dsk j i)) k) = c j * sm (r + 1) fun k => grm n T F j k * dcf r (fun i => grm n T F (dsk j i)) k := by
    have g1 : ∀ a, a < r + 1 → c a * sm (r + 1) (fun k => grm n T F a k * dcf r (fun i => grm n T F (dsk j i)) k) = (if a = j then 1 else 0) * (c a * sm (r + 1) fun k => grm n T F a k * dcf r (fun i => grm n T F (dsk j i)) k) := fun a ha => by
      by_cases h : a = j
      · rw [if_pos h, Int.one_mul]
      · rw [if_neg h, Int.zero_mul]
        have : ∃ p, p < r ∧ dsk j p = a := by
          rcases Nat.lt_or_ge a j with k | k
          · exact ⟨a, by omega, if_pos k⟩
          · exact ⟨a - 1, by omega, by unfold dsk; rw [if_neg (by omega)]; omega⟩
        obtain ⟨p, p1, p2⟩ := this
        have h0 := dt_open0 (N := fun i => grm n T F (dsk j i)) p1
        rw [p2] at h0
        rw [h0, Int.mul_zero]
    rw [sm_eq _ g1, sm_unit, if_pos hj]
  rw [e2] at hz
  rcases Int.mul_eq_zero.mp hz with k | k
  · exact k
  · rw [k, Int.mul_zero] at hrot
    exact absurd hrot hd
/-- a row: m times it is x g and what is made of F; it stands upright on F -/
def wyQ (n s : Nat) (T F : Nat → Nat → Int) (g R : Nat → Int) (m x : Int) (p : Nat → Int) : Prop := m ≠ 0 ∧ x ≠ 0 ∧ (∀ j, j < n → m * R j = x * g j + sm s (fun a => p a * F a j)) ∧ ∀ a, a < s → bfv n T R (F a) = 0
theorem wy_par (hT : tSym n T) {F : Nat → Nat → Int} (hd : dt s (grm n T F) ≠ 0) {g R : Nat → Int} {m x : Int} {p : Nat → Int} (h : wyQ n s T F g R m x p) : ∀ j, j < n → dcf s (grn n s T F g) s * m * R j = x * wv n s T F g j := by
  obtain ⟨h1, h2, h3, h4⟩ := h
  have hc := nd_of hT hd (c := fun a => dcf s (grn n s T F g) s * p a - x * dcf s (grn n s T F g) a) fun k hk => ?_
  · intro j hj
    have e : ∀ a, a < s → dcf s (grn n s T F g) s * (p a * F a j) = x * (dcf s (grn n s T F g) a * F a j) := fun a ha => by
      have := hc a ha
      grind
    have e2 : dcf s (grn n s T F g) s * sm s (fun a => p a * F a j) = x * sm s fun a => dcf s (grn n s T F g) a * F a j := by
      rw [← sm_mul, ← sm_mul]
      exact sm_eq s e
    unfold wv
    rw [Int.mul_assoc, h3 j hj, Int.mul_add, Int.mul_add, e2]
    grind
  · -- m R and w stand upright on F k
    have u1 : m * bfv n T R (F k) = x * bfv n T g (F k) + sm s fun a => p a * bfv n T (F a) (F k) := by
      rw [← bfv_mull (c := m), ← bfv_mull (c := x), ← bfv_sml, ← bfv_addl]
      exact bfv_congr (fun j hj => h3 j hj) fun j _ => rfl
    have u2 : bfv n T (wv n s T F g) (F k) = 0 := by rw [bfv_symm hT]; exact wv_up hT hk
    have u3 : bfv n T (wv n s T F g) (F k) = (sm s fun a => dcf s (grn n s T F g) a * bfv n T (F a) (F k)) + dcf s (grn n s T F g) s * bfv n T g (F k) := by
      unfold wv
      rw [bfv_addl, bfv_sml, bfv_mull]
    rw [h4 k hk, Int.mul_zero] at u1
    rw [u2] at u3
    have e : sm s (fun a => (dcf s (grn n s T F g) s * p a - x * dcf s (grn n s T F g) a) * bfv n T (F a) (F k)) = dcf s (grn n s T F g) s * (sm s fun a => p a * bfv n T (F a) (F k)) + -x * (sm s fun a => dcf s (grn n s T F g) a * bfv n T (F a) (F k)) := by
      rw [← sm_mul, ← sm_mul, ← sm_add]
      exact sm_eq s fun a _ => by grind
    rw [e]
    generalize (sm s fun a => p a * bfv n T (F a) (F k)) = U at u1 ⊢
    generalize (sm s fun a => dcf s (grn n s T F g) a * bfv n T (F a) (F k)) = V at u3 ⊢
    grind
theorem grn_nz {F : Nat → Nat → Int} (hd : dt s (grm n T F) ≠ 0) (g : Nat → Int) : dcf s (grn n s T F g) s ≠ 0 := by
  rw [grn_cof]
  rcases sg1_or s with k | k <;> rw [k]
  · rw [Int.one_mul]; exact hd
  · rw [Int.neg_mul, Int.one_mul]; omega
/-- the worth stays away from 0 when a pivot comes in -/
theorem piv_nz (hT : tSym n T) {F : Nat → Nat → Int} (hd : dt s (grm n T F) ≠ 0) {g R : Nat → Int} {m x : Int} {p : Nat → Int} (h : wyQ n s T F g R m x p) (hR : bfv n T R R ≠ 0) (hF : ∀ j, j < n → F s j = g j) : dt (s + 1) (grm n T F) ≠ 0 := by
  have hpar := wy_par hT hd h
  have hnz := grn_nz hd g
  obtain ⟨h1, h2, h3, h4⟩ := h
  -- m B(R, R) is x B(g, R)
  have u1 : m * bfv n T R R = x * bfv n T g R := by
    rw [← bfv_mull (c := m), ← bfv_mull (c := x)]
    have e : bfv n T (fun j => m * R j) R = bfv n T (fun j => x * g j + sm s fun a => p a * F a j) R := bfv_congr (fun j hj => h3 j hj) fun j _ => rfl
    rw [e, bfv_addl, bfv_sml, sm_zero (f := fun a => p a * bfv n T (F a) R) s fun a ha => by rw [bfv_symm hT, h4 a ha, Int.mul_zero], Int.add_zero]
  have u2 : bfv n T g R ≠ 0 := fun k => by
    rw [k, Int.mul_zero] at u1
    rcases Int.mul_eq_zero.mp u1 with k | k
    · exact h1 k
    · exact hR k
  have u3 : dcf s (grn n s T F g) s * m * bfv n T g R = x * bfv n T g (wv n s T F g) := by
    rw [← bfv_mulr hT, ← bfv_mulr hT]
    exact bfv_congr (fun j _ => rfl) fun j hj => hpar j hj
  have u4 : bfv n T g (wv n s T F g) ≠ 0 := fun k => by
    rw [k, Int.mul_zero] at u3
    rcases Int.mul_eq_zero.mp u3 with k | k
    · rcases Int.mul_eq_zero.mp k with k | k
      · exact hnz k
      · exact h1 k
    · exact u2 k
  have hrot := dt_rot s (s + 1) (dco (fun b => if b < s then bfv n T g (F b) else bfv n T g g) (grn n s T F g)) (by omega)
  have e0 : dt (s + 1) (drt s (dco (fun b => if b < s then bfv n T g (F b) else bfv n T g g) (grn n s T F g))) = dt (s + 1) (grm n T F) := dt_congr _ _ _ fun i k hi hk => by
    unfold drt
    by_cases hh : i < s
    · rw [if_pos hh]
      show (if k < s then bfv n T (F i) (F k) else bfv n T (F i) g) = bfv n T (F i) (F k)
      by_cases k1 : k < s
      · rw [if_pos k1]
      · rw [if_neg k1, show k = s by omega]
        exact bfv_congr (fun j _ => rfl) fun j hj => (hF j hj).symm
    · rw [if_neg hh, if_pos (by omega)]
      show (if k < s then bfv n T g (F k) else bfv n T g g) = bfv n T (F i) (F k)
      rw [show i = s by omega]
      by_cases k1 : k < s
      · rw [if_pos k1]
        exact bfv_congr (fun j hj => (hF j hj).symm) fun j _ => rfl
      · rw [if_neg k1, show k = s by omega]
        exact bfv_congr (fun j hj => (hF j hj).symm) fun j hj => (hF j hj).symm
  rw [e0, dt_open] at hrot
  rw [wv_with hT] at u4
  rw [hrot]
  intro k
  rcases Int.mul_eq_zero.mp k with k | k
  · rcases sg1_or s with k2 | k2 <;> rw [k2] at k <;> exact absurd k (by decide)
  · exact u4 k
end BF
