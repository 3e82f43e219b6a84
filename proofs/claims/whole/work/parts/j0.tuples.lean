/-! Sums over rows of choices, and determinants of products. -/
def csw (p k : Nat) : Nat := if k = p then p + 1 else if k = p + 1 then p else k
theorem sm_csw {f : Nat → Int} : ∀ n p, p + 1 < n → sm n (fun j => f (csw p j)) = sm n f
  | 0, p, h => by omega
  | 1, p, h => by omega
  | n + 2, p, h => by
    by_cases g : p = n
    · subst g
      rw [sm_succ, sm_succ, sm_succ, sm_succ]
      have e1 : csw p p = p + 1 := if_pos rfl
      have e2 : csw p (p + 1) = p := by unfold csw; rw [if_neg (by omega), if_pos rfl]
      rw [e1, e2, sm_eq (g := f) p fun j hj => by unfold csw; rw [if_neg (by omega), if_neg (by omega)]]
      omega
    · rw [sm_succ, sm_succ (f := f), sm_csw (n + 1) p (by omega)]
      have e1 : csw p (n + 1) = n + 1 := by unfold csw; rw [if_neg (by omega), if_neg (by omega)]
      rw [e1]
/-- two columns behind each other change places -/
theorem dt_cswap : ∀ (n p : Nat) (M : Nat → Nat → Int), p + 1 < n → dt n (fun i k => M i (csw p k)) = -(dt n M)
  | 0, p, M, h => by omega
  | n + 1, p, M, h => by
    show sm (n + 1) (fun j => sg1 j * M 0 (csw p j) * dt n (dmn (fun i k => M i (csw p k)) j)) = -(sm (n + 1) fun j => sg1 j * M 0 j * dt n (dmn M j))
    suffices key : ∀ j, j < n + 1 → sg1 j * M 0 (csw p j) * dt n (dmn (fun i k => M i (csw p k)) j) = -((fun j => sg1 j * M 0 j * dt n (dmn M j)) (csw p j)) by
      rw [sm_eq (n + 1) key, sm_neg, sm_csw (f := fun j => sg1 j * M 0 j * dt n (dmn M j)) (n + 1) p h]
    intro j hj
    show _ = -(sg1 (csw p j) * M 0 (csw p j) * dt n (dmn M (csw p j)))
    by_cases g1 : j = p
    · subst g1
      have e1 : csw j j = j + 1 := if_pos rfl
      have e2 : dmn (fun i k => M i (csw j k)) j = dmn M (j + 1) := by
        funext i k
        show M (i + 1) (csw j (dsk j k)) = M (i + 1) (dsk (j + 1) k)
        congr 1
        unfold csw dsk
        repeat' split
        all_goals omega
      rw [e1, e2]
      show sg1 j * _ * _ = -(-(sg1 j) * _ * _)
      grind
    · by_cases g2 : j = p + 1
      · subst g2
        have e1 : csw p (p + 1) = p := by unfold csw; rw [if_neg (by omega), if_pos rfl]
        have e2 : dmn (fun i k => M i (csw p k)) (p + 1) = dmn M p := by
          funext i k
          show M (i + 1) (csw p (dsk (p + 1) k)) = M (i + 1) (dsk p k)
          congr 1
          unfold csw dsk
          repeat' split
          all_goals omega
        rw [e1, e2]
        show -(sg1 p) * _ * _ = _
        grind
      · have e1 : csw p j = j := by unfold csw; rw [if_neg g1, if_neg g2]
        rw [e1]
        have e2 : dt n (dmn (fun i k => M i (csw p k)) j) = -(dt n (dmn M j)) := by
          rcases Nat.lt_or_ge j p with g | g
          · have := dt_cswap n (p - 1) (dmn M j) (by omega)
            rw [← this]
            congr 1
            funext i k
            show M (i + 1) (csw p (dsk j k)) = M (i + 1) (dsk j (csw (p - 1) k))
            congr 1
            unfold csw dsk
            repeat' split
            all_goals omega
          · have := dt_cswap n p (dmn M j) (by omega)
            rw [← this]
            congr 1
            funext i k
            show M (i + 1) (csw p (dsk j k)) = M (i + 1) (dsk j (csw p k))
            congr 1
            unfold csw dsk
            repeat' split
            all_goals omega
        rw [e2]
        grind
/-- a choice more, at the front -/
def cns {α : Type} (e : α) (t : Nat → α) : Nat → α
  | 0 => e
  | i + 1 => t i
/-- the sum over all rows of k choices among m -/
def tsm (m : Nat) : Nat → ((Nat → Nat) → Int) → Int
  | 0, F => F fun _ => 0
  | k + 1, F => sm m fun e => tsm m k fun t => F (cns e t)
theorem tsm_eq {m : Nat} : ∀ (k : Nat) {F G : (Nat → Nat) → Int}, (∀ t, F t = G t) → tsm m k F = tsm m k G
  | 0, F, G, h => h _
  | k + 1, F, G, h => sm_eq m fun e _ => tsm_eq k fun t => h _
theorem tsm_add {m : Nat} : ∀ (k : Nat) {F G : (Nat → Nat) → Int}, tsm m k (fun t => F t + G t) = tsm m k F + tsm m k G
  | 0, F, G => rfl
  | k + 1, F, G => by
    show sm m (fun e => tsm m k fun t => F (cns e t) + G (cns e t)) = sm m _ + sm m _
    rw [← sm_add]
    exact sm_eq m fun e _ => tsm_add k
theorem tsm_mul {m : Nat} {c : Int} : ∀ (k : Nat) {F : (Nat → Nat) → Int}, tsm m k (fun t => c * F t) = c * tsm m k F
  | 0, F => rfl
  | k + 1, F => by
    show sm m (fun e => tsm m k fun t => c * F (cns e t)) = c * sm m _
    rw [← sm_mul]
    exact sm_eq m fun e _ => tsm_mul k
theorem tsm_sm {m : Nat} {k : Nat} {F : Nat → (Nat → Nat) → Int} : ∀ n : Nat, tsm m k (fun t => sm n fun j => F j t) = sm n fun j => tsm m k (F j)
  | 0 => by
    have : ∀ k, tsm m k (fun _ => (0 : Int)) = 0 := fun k => by
      have := tsm_mul (m := m) (c := 0) k (F := fun _ => 0)
      rw [Int.zero_mul, Int.zero_mul] at this
      exact this
    exact this k
  | n + 1 => by
    rw [sm_succ, ← tsm_sm n, ← tsm_add]
    exact tsm_eq k fun t => sm_succ
/-- one choice apart from the others -/
theorem tsm_pick {m : Nat} : ∀ (j k : Nat) {F : Nat → (Nat → Nat) → Int}, j ≤ k → tsm m (k + 1) (fun t => F (t j) (fun i => t (dsk j i))) = sm m fun e => tsm m k fun t => F e t
  | 0, k, F, _ => sm_eq m fun e _ => tsm_eq k fun t => by
    have : (fun i => cns e t (dsk 0 i)) = t := by
      funext i
      show cns e t (dsk 0 i) = t i
      unfold dsk
      rw [if_neg (by omega)]
      rfl
    show F (cns e t 0) _ = _
    rw [this]
    rfl
  | j + 1, 0, F, h => by omega
  | j + 1, k + 1, F, h => by
    show sm m (fun e0 => tsm m (k + 1) fun t => F (cns e0 t (j + 1)) fun i => cns e0 t (dsk (j + 1) i)) = sm m fun e => sm m fun e0 => tsm m k fun t => F e (cns e0 t)
    rw [sm_swap (F := fun e0 e => tsm m k fun t => F e (cns e0 t))]
    refine sm_eq m fun e0 _ => ?_
    rw [← tsm_pick j k (F := fun e t => F e (cns e0 t)) (by omega)]
    refine tsm_eq (k + 1) fun t => ?_
    have : (fun i => cns e0 t (dsk (j + 1) i)) = cns e0 fun i => t (dsk j i) := by
      funext i
      cases i with
      | zero =>
        show cns e0 t (dsk (j + 1) 0) = e0
        unfold dsk
        rw [if_pos (by omega)]
        rfl
      | succ i =>
        show cns e0 t (dsk (j + 1) (i + 1)) = t (dsk j i)
        unfold dsk
        by_cases g : i < j
        · rw [if_pos g, if_pos (by omega)]
          rfl
        · rw [if_neg g, if_neg (by omega)]
          rfl
    show F (t j) _ = F (t j) _
    rw [this]
/-- sums of falling choices -/
def tU : Nat → Nat → ((Nat → Nat) → Int) → Int
  | _, 0, F => F fun _ => 0
  | 0, _ + 1, _ => 0
  | m + 1, k + 1, F => tU m (k + 1) F + tU m k fun t => F (cns m t)
/-- what cares neither for the choices' order nor, 0, for two that are alike -/
def tSY (k : Nat) (F : (Nat → Nat) → Int) : Prop := ∀ t p, p + 1 < k → (F (fun i => t (csw p i)) = F t) ∧ (t p = t (p + 1) → F t = 0)
theorem tSY.c {k : Nat} {F : (Nat → Nat) → Int} (h : tSY (k + 1) F) (e : Nat) : tSY k fun t => F (cns e t) := fun t p hp => by
  obtain ⟨h1, h2⟩ := h (cns e t) (p + 1) (by omega)
  refine ⟨?_, fun g => h2 g⟩
  show F (cns e fun i => t (csw p i)) = F (cns e t)
  rw [← h1]
  congr 1
  funext i
  cases i with
  | zero => rfl
  | succ i =>
    show t (csw p i) = cns e t (csw (p + 1) (i + 1))
    have e2 : csw (p + 1) (i + 1) = csw p i + 1 := by
      unfold csw
      repeat' split
      all_goals omega
    rw [e2]
    rfl
theorem tsm_last {m : Nat} : ∀ (k : Nat) {F : (Nat → Nat) → Int}, tSY (k + 1) F → tsm (m + 1) (k + 1) F = tsm m (k + 1) F + ((k : Int) + 1) * tsm m k fun t => F (cns m t)
  | 0, F, h => by
    show sm (m + 1) _ = sm m _ + _
    rw [sm_succ]
    show _ = _ + (0 + 1) * _
    rw [Int.zero_add, Int.one_mul]
    rfl
  | k + 1, F, h => by
    show sm (m + 1) (fun e => tsm (m + 1) (k + 1) fun t => F (cns e t)) = sm m (fun e => tsm m (k + 1) fun t => F (cns e t)) + _
    rw [sm_succ]
    have e1 : sm m (fun e => tsm (m + 1) (k + 1) fun t => F (cns e t)) = sm m (fun e => tsm m (k + 1) fun t => F (cns e t)) + ((k : Int) + 1) * tsm m (k + 1) fun t => F (cns m t) := by
      rw [sm_eq m fun e _ => tsm_last (m := m) k (h.c e), sm_add, sm_mul]
      congr 2
      refine sm_eq m fun e _ => tsm_eq k fun t => ?_
      have h1 := (h (cns m (cns e t)) 0 (by omega)).1
      show F (cns e (cns m t)) = F (cns m (cns e t))
      rw [← h1]
      congr 1
      funext i
      match i with
      | 0 => rfl
      | 1 => rfl
      | i + 2 => rfl
    have e2 : tsm (m + 1) (k + 1) (fun t => F (cns m t)) = tsm m (k + 1) fun t => F (cns m t) := by
      rw [tsm_last (m := m) k (h.c m)]
      have z : tsm m k (fun t => F (cns m (cns m t))) = 0 := by
        rw [tsm_eq (G := fun _ => 0 * 0) k fun t => (h (cns m (cns m t)) 0 (by omega)).2 rfl, tsm_mul, Int.zero_mul]
      rw [z, Int.mul_zero, Int.add_zero]
    rw [e1, e2, Int.natCast_add]
    generalize tsm m (k + 1) (fun t => F (cns m t)) = y
    have : ((k : Int) + ((1 : Nat) : Int) + 1) * y = ((k : Int) + 1) * y + y := by
      show ((k : Int) + 1 + 1) * y = _
      rw [Int.add_mul ((k : Int) + 1), Int.one_mul]
    omega
theorem tsm_U : ∀ (m k : Nat) {F : (Nat → Nat) → Int}, tSY k F → tsm m k F = (fct k : Int) * tU m k F
  | m, 0, F, _ => by
    cases m <;> (show F _ = ((1 : Nat) : Int) * F _; omega)
  | 0, k + 1, F, _ => by
    show (0 : Int) = _ * 0
    rw [Int.mul_zero]
  | m + 1, k + 1, F, h => by
    rw [tsm_last k h, tsm_U m (k + 1) h, tsm_U m k (h.c m)]
    show _ = ((fct (k + 1) : Nat) : Int) * (_ + _)
    have e : ((fct (k + 1) : Nat) : Int) = ((k : Int) + 1) * (fct k : Int) := by
      show (((k + 1) * fct k : Nat) : Int) = _
      rw [Int.natCast_mul]
      rfl
    rw [e]
    grind
