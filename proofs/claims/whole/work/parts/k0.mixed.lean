/-! Any table's coefficients, by its principal minors: j1 with two families. -/
theorem dt_row2 {n k : Nat} {u v : Nat → Int} {A B : Nat → Nat → Int} : dt (k + 1) (gmt n (cns u A) (cns v B)) = ip n u v * dt k (gmt n A B) + -1 * sm k fun j => ip n u (B j) * dt k (gmt n (cns (A j) fun i => A (dsk j i)) (cns v fun i => B (dsk j i))) := by
  show sm (k + 1) _ = _
  rw [sm_head]
  have e0 : dmn (gmt n (cns u A) (cns v B)) 0 = gmt n A B := by
    funext i l
    show ip n (A i) (cns v B (dsk 0 l)) = ip n (A i) (B l)
    have : dsk 0 l = l + 1 := if_neg (by omega)
    rw [this]
    rfl
  rw [e0, ← sm_mul]
  have e1 : ∀ j, j < k → sg1 (j + 1) * gmt n (cns u A) (cns v B) 0 (j + 1) * dt k (dmn (gmt n (cns u A) (cns v B)) (j + 1)) = -1 * (ip n u (B j) * dt k (gmt n (cns (A j) fun i => A (dsk j i)) (cns v fun i => B (dsk j i)))) := fun j hj => by
    have e2 : dmn (gmt n (cns u A) (cns v B)) (j + 1) = drt j (gmt n (cns (A j) fun i => A (dsk j i)) (cns v fun i => B (dsk j i))) := by
      funext i l
      have ec : cns v B (dsk (j + 1) l) = cns v (fun i => B (dsk j i)) l := by
        cases l with
        | zero =>
          have : dsk (j + 1) 0 = 0 := if_pos (by omega)
          rw [this]
          rfl
        | succ l =>
          have : dsk (j + 1) (l + 1) = dsk j l + 1 := by
            unfold dsk
            repeat' split
            all_goals omega
          rw [this]
          rfl
      show ip n (A i) (cns v B (dsk (j + 1) l)) = _
      rw [ec]
      unfold drt
      by_cases g : i < j
      · rw [if_pos g]
        show _ = ip n (A (dsk j i)) _
        rw [show dsk j i = i from if_pos g]
      · rw [if_neg g]
        by_cases g2 : i = j
        · rw [if_pos g2, g2]
          rfl
        · rw [if_neg g2]
          obtain ⟨i', rfl⟩ : ∃ i', i = i' + 1 := ⟨i - 1, by omega⟩
          show _ = ip n (A (dsk j i')) _
          rw [show dsk j i' = i' + 1 from if_neg (by omega)]
    rw [e2, dt_rot j k _ hj]
    have := sg1_sq j
    show -(sg1 j) * ip n u (B j) * _ = _
    generalize dt k (gmt n (cns (A j) fun i => A (dsk j i)) (cns v fun i => B (dsk j i))) = y
    generalize ip n u (B j) = x
    grind
  have e2 : sm k (fun j => sg1 (j + 1) * gmt n (cns u A) (cns v B) 0 (j + 1) * dt k (dmn (gmt n (cns u A) (cns v B)) (j + 1))) = sm k fun j => -1 * (ip n u (B j) * dt k (gmt n (cns (A j) fun i => A (dsk j i)) (cns v fun i => B (dsk j i)))) := sm_eq k e1
  rw [e2]
  show 1 * ip n u v * _ + _ = _
  rw [Int.one_mul]
section GM2
variable {n m : Nat} {a b : Nat → Nat → Int}
def gF2 (n : Nat) (a b : Nat → Nat → Int) (k : Nat) (t : Nat → Nat) : Int := dt k (gmt n (fun i => a (t i)) fun i => b (t i))
def hH2 (n m : Nat) (a b : Nat → Nat → Int) (k : Nat) (u v : Nat → Int) : Int := tsm m k fun t => dt (k + 1) (gmt n (cns u fun i => a (t i)) (cns v fun i => b (t i)))
def hE2 (n m : Nat) (a b : Nat → Nat → Int) (k : Nat) : Int := tsm m k (gF2 n a b k)
theorem hE2_H {k : Nat} : hE2 n m a b (k + 1) = sm m fun e => hH2 n m a b k (a e) (b e) := sm_eq m fun e _ => tsm_eq k fun t => by
  show dt (k + 1) (gmt n (fun i => a (cns e t i)) fun i => b (cns e t i)) = _
  rw [cns_map, cns_map]
theorem hH2_step {k : Nat} {u v : Nat → Int} : hH2 n m a b (k + 1) u v = ip n u v * hE2 n m a b (k + 1) + -1 * (((k : Int) + 1) * sm m fun e => ip n u (b e) * hH2 n m a b k (a e) v) := by
  unfold hH2 hE2
  rw [tsm_eq (k + 1) fun t => dt_row2, tsm_add, tsm_mul, tsm_mul, tsm_sm]
  congr 2
  have e1 : ∀ j, j < k + 1 → tsm m (k + 1) (fun t => ip n u (b (t j)) * dt (k + 1) (gmt n (cns (a (t j)) fun i => a (t (dsk j i))) (cns v fun i => b (t (dsk j i))))) = sm m fun e => ip n u (b e) * tsm m k fun t => dt (k + 1) (gmt n (cns (a e) fun i => a (t i)) (cns v fun i => b (t i))) := fun j hj => by
    have := tsm_pick (m := m) j k (F := fun e t => ip n u (b e) * dt (k + 1) (gmt n (cns (a e) fun i => a (t i)) (cns v fun i => b (t i)))) (by omega)
    rw [this]
    exact sm_eq m fun e _ => tsm_mul k
  rw [sm_eq (k + 1) e1, sm_const]
  rfl
theorem gF2_sy {k : Nat} : tSY k (gF2 n a b k) := fun t p hp => by
  refine ⟨?_, fun g => ?_⟩
  · have e : gmt n (fun i => a (t (csw p i))) (fun i => b (t (csw p i))) = dsw p (fun i l => gmt n (fun i => a (t i)) (fun i => b (t i)) i (csw p l)) := by
      funext i l
      unfold dsw
      show ip n (a (t (csw p i))) _ = _
      unfold csw
      by_cases g : i = p
      · rw [if_pos g, if_pos g]; rfl
      · rw [if_neg g, if_neg g]
        by_cases g2 : i = p + 1
        · rw [if_pos g2, if_pos g2]; rfl
        · rw [if_neg g2, if_neg g2]; rfl
    show dt k _ = dt k _
    rw [e, dt_swap k p _ hp, dt_cswap k p _ hp]
    omega
  · refine dt_same 0 p k _ (by omega) fun l _ => ?_
    show ip n (a (t p)) _ = ip n (a (t (p + 1))) _
    rw [g]
theorem hE2_U {k : Nat} : hE2 n m a b k = (fct k : Int) * tU m k (gF2 n a b k) := tsm_U m k gF2_sy
end GM2
section FL2
variable {n m : Nat} {a b T B : Nat → Nat → Int}
theorem sum_T2 {y : Nat → Int} {i : Nat} (hT : ∀ k, k < n → T i k = sm m fun e => b e i * a e k) : sm n (fun j => T i j * y j) = sm m fun e => b e i * sm n fun j => a e j * y j := by
  have e1 : ∀ j, j < n → T i j * y j = sm m fun e => b e i * (a e j * y j) := fun j hj => by
    rw [hT j hj, ← sm_mulr]
    exact sm_eq m fun e _ => Int.mul_assoc _ _ _
  rw [sm_eq n e1, sm_swap (F := fun e j => b e i * (a e j * y j))]
  exact sm_eq m fun e _ => sm_mul n
theorem bfv_mx2 {u v : Nat → Int} (hT : ∀ i k, i < n → k < n → T i k = sm m fun e => b e i * a e k) : bfv n (mxM n T B) u v = sm m fun e => ip n u (b e) * bfv n B (a e) v := by
  have e1 : ∀ i, i < n → sm n (fun k => mxM n T B i k * v k) = sm m fun e => b e i * bfv n B (a e) v := fun i hi => by
    have e2 : sm n (fun k => mxM n T B i k * v k) = sm n fun j => T i j * sm n fun k => B j k * v k := by
      have e3 : ∀ k, k < n → mxM n T B i k * v k = sm n fun j => T i j * (B j k * v k) := fun k _ => by
        show sm n (fun j => T i j * B j k) * v k = _
        rw [← sm_mulr]
        exact sm_eq n fun j _ => Int.mul_assoc _ _ _
      rw [sm_eq n e3, sm_swap (F := fun j k => T i j * (B j k * v k))]
      exact sm_eq n fun j _ => sm_mul n
    rw [e2, sum_T2 (hT i · hi)]
    rfl
  show sm n (fun i => u i * sm n fun k => mxM n T B i k * v k) = _
  have e4 : ∀ i, i < n → u i * sm n (fun k => mxM n T B i k * v k) = sm m fun e => u i * b e i * bfv n B (a e) v := fun i hi => by
    rw [e1 i hi, ← sm_mul]
    exact sm_eq m fun e _ => (Int.mul_assoc _ _ _).symm
  rw [sm_eq n e4, sm_swap (F := fun e i => u i * b e i * bfv n B (a e) v)]
  exact sm_eq m fun e _ => sm_mulr n
theorem tr_mxT2 (hT : ∀ i k, i < n → k < n → T i k = sm m fun e => b e i * a e k) : mxTr n (mxM n T B) = sm m fun e => bfv n B (a e) (b e) := by
  show sm n (fun i => sm n fun j => T i j * B j i) = _
  have e1 : ∀ i, i < n → sm n (fun j => T i j * B j i) = sm m fun e => b e i * sm n fun j => a e j * B j i := fun i hi => sum_T2 (hT i · hi)
  rw [sm_eq n e1, sm_swap (F := fun e i => b e i * sm n fun j => a e j * B j i)]
  refine sm_eq m fun e _ => ?_
  show sm n (fun i => b e i * sm n fun j => a e j * B j i) = sm n fun j => a e j * sm n fun i => B j i * b e i
  have e2 : ∀ i, i < n → b e i * sm n (fun j => a e j * B j i) = sm n fun j => a e j * (B j i * b e i) := fun i _ => by
    rw [← sm_mul]
    exact sm_eq n fun j _ => by grind
  rw [sm_eq n e2, sm_swap (F := fun j i => a e j * (B j i * b e i))]
  exact sm_eq n fun j _ => sm_mul n
/-- from the table of a step, its coefficient -/
theorem le_cof2 {r : Nat} (hT : ∀ i k, i < n → k < n → T i k = sm m fun e => b e i * a e k) (h : ∀ u v, (fct r : Int) * bfv n (leB n T r) u v = sg1 r * hH2 n m a b r u v) : mxTr n (mxM n T (leB n T r)) = sg1 r * (((r : Int) + 1) * tU m (r + 1) (gF2 n a b (r + 1))) ∧ leC n T (leB n T r) r = sg1 (r + 1) * tU m (r + 1) (gF2 n a b (r + 1)) := by
  have fp : (fct r : Int) ≠ 0 := by have := fct_pos r; omega
  have e1 : mxTr n (mxM n T (leB n T r)) = sg1 r * (((r : Int) + 1) * tU m (r + 1) (gF2 n a b (r + 1))) := by
    refine Int.eq_of_mul_eq_mul_left fp ?_
    rw [tr_mxT2 hT, ← sm_mul, sm_eq m fun e _ => h (a e) (b e), sm_mul, ← hE2_H, hE2_U, fct_succ]
    grind
  refine ⟨e1, ?_⟩
  unfold leC
  rw [e1, show -(sg1 r * (((r : Int) + 1) * tU m (r + 1) (gF2 n a b (r + 1)))) = sg1 (r + 1) * tU m (r + 1) (gF2 n a b (r + 1)) * ((r : Int) + 1) from by
    show _ = -(sg1 r) * _ * _
    grind]
  exact Int.mul_tdiv_cancel _ (by omega)
theorem le_all2 (hT : ∀ i k, i < n → k < n → T i k = sm m fun e => b e i * a e k) : ∀ r u v, (fct r : Int) * bfv n (leB n T r) u v = sg1 r * hH2 n m a b r u v
  | 0, u, v => by
    have e1 : bfv n (leB n T 0) u v = ip n u v := bfv_id
    rw [e1]
    show ((1 : Nat) : Int) * _ = 1 * sm 1 (fun j => sg1 j * gmt n _ _ 0 j * 1)
    show ((1 : Nat) : Int) * _ = 1 * (0 + 1 * ip n u v * 1)
    omega
  | r + 1, u, v => by
    have ih := le_all2 hT r
    obtain ⟨c1, c2⟩ := le_cof2 hT ih
    have e1 : bfv n (leB n T (r + 1)) u v = bfv n (mxM n T (leB n T r)) u v + leC n T (leB n T r) r * ip n u v := by
      rw [← bfv_id]
      show sm n (fun i => u i * sm n fun k => (mxM n T (leB n T r) i k + if i = k then leC n T (leB n T r) r else 0) * v k) = sm n (fun i => u i * sm n fun k => mxM n T (leB n T r) i k * v k) + _ * sm n fun i => u i * sm n fun k => (if i = k then 1 else 0) * v k
      rw [← sm_mul, ← sm_add]
      refine sm_eq n fun i _ => ?_
      have e2 : sm n (fun k => (mxM n T (leB n T r) i k + if i = k then leC n T (leB n T r) r else 0) * v k) = sm n (fun k => mxM n T (leB n T r) i k * v k) + leC n T (leB n T r) r * sm n fun k => (if i = k then 1 else 0) * v k := by
        rw [← sm_mul, ← sm_add]
        refine sm_eq n fun k _ => ?_
        by_cases g : i = k
        · rw [if_pos g, if_pos g]; grind
        · rw [if_neg g, if_neg g]; grind
      rw [e2]
      grind
    rw [e1, bfv_mx2 hT, c2, Int.mul_add, fct_succ, hH2_step, hE2_U, fct_succ]
    have e3 : (fct r : Int) * sm m (fun e => ip n u (b e) * bfv n (leB n T r) (a e) v) = sg1 r * sm m fun e => ip n u (b e) * hH2 n m a b r (a e) v := by
      rw [← sm_mul, ← sm_mul]
      refine sm_eq m fun e _ => ?_
      have := ih (a e) v
      grind
    show _ = -(sg1 r) * _
    generalize sm m (fun e => ip n u (b e) * hH2 n m a b r (a e) v) = X at e3 ⊢
    generalize sm m (fun e => ip n u (b e) * bfv n (leB n T r) (a e) v) = Y at e3 ⊢
    show ((r : Int) + 1) * (fct r : Int) * Y + ((r : Int) + 1) * (fct r : Int) * (-(sg1 r) * _ * _) = _
    generalize tU m (r + 1) (gF2 n a b (r + 1)) = W
    generalize ip n u v = P
    grind
end FL2
