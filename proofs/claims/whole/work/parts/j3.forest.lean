/-! A forest's determinant: the product of its trees' sizes. -/
def bvC (c : Nat) : Nat → Int := fun i => ue (c / 6) i - ue (c % 6) i
def FR (n k : Nat) (B : Nat → Nat → Int) (K : Nat → Nat) : Prop := (∀ v w, v < n → w < n → K v = K w → SPN n k B fun i => ue v i - ue w i) ∧ (∀ a, a < k → ∃ x y, x < n ∧ y < n ∧ K x = K y ∧ ∀ i, i < n → B a i = ue x i - ue y i) ∧ (∀ v, v < n → K v < n) ∧ dt k (gmt n B B) = prI n (szI n K) ∧ ncI n K + (k : Int) = (n : Int)
section FO
variable {n k : Nat} {B : Nat → Nat → Int} {K : Nat → Nat}
theorem cl_id {x : Nat} (hx : x < n) : clI n id x = 1 := by
  have := sm_unit (f := fun _ => 1) (e := x) n
  rw [if_pos hx] at this
  rw [← this]
  exact sm_eq n fun v _ => by
    show (if v = x then (1 : Int) else 0) = (if v = x then 1 else 0) * 1
    omega
theorem prI_ones : ∀ n, prI n (fun _ => 1) = 1
  | 0 => rfl
  | n + 1 => by
    show prI n _ * 1 = 1
    rw [prI_ones n]
    rfl
theorem FR_start (B : Nat → Nat → Int) : FR n 0 B id := by
  refine ⟨fun v w _ _ h => ?_, fun a ha => by omega, fun v hv => hv, ?_, ?_⟩
  · have e : v = w := h
    subst e
    exact spn_congr spn_zero fun i _ => by omega
  · show (1 : Int) = _
    rw [prI_eq (g := fun _ => 1) n fun x hx => by unfold szI; rw [cl_id hx]; rfl, prI_ones]
  · unfold ncI
    rw [sm_eq (g := fun _ => 1) n fun x hx => by rw [cl_id hx]; rfl, sm_const]
    omega
theorem ip_ue {z : Nat → Int} {x : Nat} (hx : x < n) : ip n z (ue x) = z x := by
  have := sm_unit (f := z) (e := x) n
  rw [if_pos hx] at this
  rw [← this]
  refine sm_eq n fun i _ => ?_
  show z i * (if i = x then 1 else 0) = (if i = x then 1 else 0) * z i
  exact Int.mul_comm _ _
theorem ip_subr {z x y : Nat → Int} : ip n z (fun i => x i - y i) = ip n z x - ip n z y := by
  have e : ip n z (fun i => x i - y i) + ip n z y = ip n z x := by
    unfold ip
    rw [← sm_add]
    exact sm_eq n fun i _ => by grind
  omega
theorem ip_cr {z x y : Nat → Int} (h : ∀ i, i < n → x i = y i) : ip n z x = ip n z y := sm_eq n fun i hi => by rw [h i hi]
/-- a line between two trees -/
theorem FR_more {a b : Nat} (h : FR n k B K) (ha : a < n) (hb : b < n) (hne : K a ≠ K b) : FR n (k + 1) (cns (fun i => ue a i - ue b i) B) (rcl K (K a) (K b)) := by
  obtain ⟨h1, h2, h3, h4, h5⟩ := h
  have np := clI_pos (K := K) ha
  have nq := clI_pos (K := K) hb
  generalize hp : clI n K (K a) = p at np
  generalize hq : clI n K (K b) = q at nq
  have szx : szI n K (K a) = p := by unfold szI; rw [if_neg (by omega)]; exact hp
  have szy : szI n K (K b) = q := by unfold szI; rw [if_neg (by omega)]; exact hq
  have szx' : szI n (rcl K (K a) (K b)) (K a) = 1 := by unfold szI; rw [if_pos (rcl_x hne)]
  have cy' : clI n (rcl K (K a) (K b)) (K b) = p + q := by rw [rcl_y hne, hp, hq]
  have szy' : szI n (rcl K (K a) (K b)) (K b) = p + q := by unfold szI; rw [cy', if_neg (by omega)]
  have szz' : ∀ z, z ≠ K a → z ≠ K b → szI n (rcl K (K a) (K b)) z = szI n K z := fun z g1 g2 => by unfold szI; rw [rcl_z g1 g2]
  -- two places of the old kind, and the new line
  have rel : ∀ v w, v < n → w < n → K v = K w → SPN n (k + 1) (cns (fun i => ue a i - ue b i) B) fun i => ue v i - ue w i := fun v w hv hw e => spn_cns (h1 v w hv hw e)
  have toB : ∀ v, v < n → K v = K a → SPN n (k + 1) (cns (fun i => ue a i - ue b i) B) fun i => ue v i - ue b i := fun v hv e => spn_congr (spn_add (rel v a hv ha e) spn_new) fun i _ => by omega
  have neg : ∀ v w, SPN n (k + 1) (cns (fun i => ue a i - ue b i) B) (fun i => ue v i - ue w i) → SPN n (k + 1) (cns (fun i => ue a i - ue b i) B) fun i => ue w i - ue v i := fun v w g => spn_congr (spn_mul (c := -1) g) fun i _ => by omega
  have rr : ∀ v w, v < n → w < n → rcl K (K a) (K b) v = rcl K (K a) (K b) w → SPN n (k + 1) (cns (fun i => ue a i - ue b i) B) fun i => ue v i - ue w i := fun v w hv hw e => by
    unfold rcl at e
    by_cases g1 : K v = K a
    · by_cases g2 : K w = K a
      · exact rel v w hv hw (g1.trans g2.symm)
      · rw [if_pos g1, if_neg g2] at e
        exact spn_congr (spn_add (toB v hv g1) (rel b w hb hw e)) fun i _ => by omega
    · by_cases g2 : K w = K a
      · rw [if_neg g1, if_pos g2] at e
        exact spn_congr (spn_add (rel v b hv hb e) (neg w b (toB w hw g2))) fun i _ => by omega
      · rw [if_neg g1, if_neg g2] at e
        exact rel v w hv hw e
  refine ⟨rr, fun x hx => ?_, fun v hv => ?_, ?_, ?_⟩
  · cases x with
    | zero =>
      refine ⟨a, b, ha, hb, ?_, fun i _ => rfl⟩
      unfold rcl
      rw [if_pos rfl, if_neg fun k => hne k.symm]
    | succ x =>
      obtain ⟨u, v, hu, hv, e, g⟩ := h2 x (by omega)
      refine ⟨u, v, hu, hv, ?_, g⟩
      unfold rcl
      rw [e]
  · unfold rcl
    split
    · exact h3 b hb
    · exact h3 v hv
  · -- the determinant
    have bx : K a < n := h3 a ha
    have by' : K b < n := h3 b hb
    have r1 : prI n (szI n (rcl K (K a) (K b))) * (p * q) = prI n (szI n K) * (p + q) := by
      have g1 := prI_one (f := szI n K) (g := fun z => if z = K a then 1 else szI n K z) (x := K a) (fun j hj => if_neg hj) n bx
      have g2 := prI_one (f := fun z => if z = K a then 1 else szI n K z) (g := szI n (rcl K (K a) (K b))) (x := K b) (fun j hj => by
        by_cases g : j = K a
        · rw [if_pos g, g, szx']
        · rw [if_neg g, szz' j g hj]) n by'
      rw [if_pos rfl, szx] at g1
      rw [if_neg fun k => hne k.symm, szy, szy'] at g2
      grind
    have hw : SPN n k B fun i => sm n fun v => (if K v = K a then q else 0) * (ue a i - ue v i) + (if K v = K b then p else 0) * (ue v i - ue b i) := spn_sm n fun v hv => by
      refine spn_add ?_ ?_
      · by_cases g : K v = K a
        · rw [if_pos g]
          exact spn_mul (h1 a v ha hv g.symm)
        · rw [if_neg g]
          exact spn_congr spn_zero fun i _ => Int.zero_mul _
      · by_cases g : K v = K b
        · rw [if_pos g]
          exact spn_mul (h1 v b hv hb g)
        · rw [if_neg g]
          exact spn_congr spn_zero fun i _ => Int.zero_mul _
    have cs : ∀ (c : Int) (x : Nat), sm n (fun v => if K v = x then c else 0) = c * clI n K x := fun c x => by
      unfold clI
      rw [← sm_mul]
      refine sm_eq n fun v _ => ?_
      split <;> omega
    have su : ∀ (x : Nat) (c : Int) i, i < n → sm n (fun v => (if K v = x then c else 0) * ue v i) = if K i = x then c else 0 := fun x c i hi => by
      have := sm_unit (f := fun v => if K v = x then c else 0) (e := i) n
      rw [if_pos hi] at this
      rw [← this]
      refine sm_eq n fun v _ => ?_
      show _ * (if i = v then 1 else 0) = (if v = i then 1 else 0) * _
      by_cases g : v = i
      · rw [if_pos g, if_pos g.symm]; omega
      · have g' : ¬ i = v := fun k => g k.symm
        rw [if_neg g, if_neg g']; omega
    have hd : ∀ i, i < n → p * q * (ue a i - ue b i) = ((if K i = K a then q else 0) - (if K i = K b then p else 0)) + sm n fun v => (if K v = K a then q else 0) * (ue a i - ue v i) + (if K v = K b then p else 0) * (ue v i - ue b i) := fun i hi => by
      have e1 : sm n (fun v => (if K v = K a then q else 0) * (ue a i - ue v i) + (if K v = K b then p else 0) * (ue v i - ue b i)) = sm n (fun v => (if K v = K a then q else 0) * ue a i) + -1 * sm n (fun v => (if K v = K a then q else 0) * ue v i) + (sm n (fun v => (if K v = K b then p else 0) * ue v i) + -1 * sm n fun v => (if K v = K b then p else 0) * ue b i) := by
        rw [← sm_mul, ← sm_mul, ← sm_add, ← sm_add, ← sm_add]
        exact sm_eq n fun v _ => by grind
      rw [e1, sm_mulr, sm_mulr, cs, cs, su _ _ i hi, su _ _ i hi, hp, hq]
      grind
    have hu : ∀ x, x < k → ip n (fun i => (if K i = K a then q else 0) - (if K i = K b then p else 0)) (B x) = 0 := fun x hx => by
      obtain ⟨u, v, hu, hv, e, g⟩ := h2 x hx
      rw [ip_cr g, ip_subr, ip_ue hu, ip_ue hv, e]
      omega
    have m := dt_more (k := k) (B := B) (b := fun i => ue a i - ue b i) hd hw hu
    have ipu : ip n (fun i => (if K i = K a then q else 0) - (if K i = K b then p else 0)) (fun i => ue a i - ue b i) = p + q := by
      rw [ip_subr, ip_ue ha, ip_ue hb, if_pos rfl, if_neg hne, if_neg fun k => hne k.symm, if_pos rfl]
      omega
    rw [ipu, h4] at m
    have pq : p * q ≠ 0 := Int.mul_ne_zero (by omega) (by omega)
    refine Int.eq_of_mul_eq_mul_left pq ?_
    rw [m, Int.mul_comm (p * q), r1, Int.mul_comm]
  · have bx : K a < n := h3 a ha
    have e := sm_oneD (f := fun x => if clI n K x = 0 then (0 : Int) else 1) (g := fun x => if clI n (rcl K (K a) (K b)) x = 0 then 0 else 1) (x := K a) (fun j hj => by
      by_cases g : j = K b
      · rw [g, cy', if_neg (by omega), hq, if_neg (by omega)]
      · rw [rcl_z hj g]) n bx
    rw [rcl_x hne, if_pos rfl, hp, if_neg (by omega)] at e
    unfold ncI at h5 ⊢
    rw [show ((k + 1 : Nat) : Int) = (k : Int) + 1 by omega]
    omega
/-- one tree -/
theorem FR_end (h : FR n k B K) (hn : 1 ≤ n) (hk : k + 1 = n) : dt k (gmt n B B) = (n : Int) := by
  obtain ⟨h1, h2, h3, h4, h5⟩ := h
  have nc : ncI n K = 1 := by omega
  have same : ∀ v, v < n → K v = K 0 := fun v hv => Classical.byContradiction fun g => by
    have p0 := clI_pos (n := n) (K := K) (v := 0) (by omega)
    have p1 := clI_pos (K := K) hv
    have e := sm_oneD (f := fun x => if clI n K x = 0 then (0 : Int) else 1) (g := fun x => if x = K 0 then 0 else if clI n K x = 0 then (0 : Int) else 1) (x := K 0) (fun j hj => if_neg hj) n (h3 0 (by omega))
    have o := sm_one (f := fun x => if x = K 0 then 0 else if clI n K x = 0 then (0 : Int) else 1) n (K v) (h3 v hv) fun x _ => by
      show (0 : Int) ≤ if x = K 0 then 0 else if clI n K x = 0 then (0 : Int) else 1
      repeat' split
      all_goals omega
    rw [if_neg g, if_neg (by omega)] at o
    rw [if_pos rfl, if_neg (by omega)] at e
    unfold ncI at nc
    omega
  have c0 : clI n K (K 0) = (n : Int) := by
    unfold clI
    rw [sm_eq (g := fun _ => 1) n fun v hv => if_pos (same v hv), sm_const]
    omega
  have cz : ∀ x, x ≠ K 0 → clI n K x = 0 := fun x hx => sm_zero n fun v hv => if_neg fun k => hx (by rw [← k, same v hv])
  have e := prI_one (f := fun _ => 1) (g := szI n K) (x := K 0) (fun j hj => by unfold szI; rw [if_pos (cz j hj)]) n (h3 0 (by omega))
  rw [prI_ones] at e
  rw [h4]
  unfold szI at e ⊢
  rw [c0, if_neg (by omega)] at e
  omega
end FO
