/-! All choices of lines, by their masks. -/
theorem sm_split {f : Nat → Int} {a : Nat} : ∀ b, sm (a + b) f = sm a f + sm b fun x => f (a + x)
  | 0 => by
    show sm a f = sm a f + 0
    omega
  | b + 1 => by
    show sm (a + b) f + f (a + b) = _
    rw [sm_split b, sm_succ]
    omega
def mb (mask e : Nat) : Bool := mask / 2 ^ e % 2 == 1
def pcm (mask : Nat) : Nat → Nat
  | 0 => 0
  | m + 1 => if mb mask m then pcm mask m + 1 else pcm mask m
def tpm (mask : Nat) : Nat → Nat → Nat
  | 0 => fun _ => 0
  | m + 1 => if mb mask m then cns m (tpm mask m) else tpm mask m
def rnm (cd : Nat → Nat) (mask : Nat) : Nat → Option (Nat → Nat)
  | 0 => some id
  | m + 1 => match rnm cd mask m with
    | none => none
    | some K => if mb mask m then (if K (cd m / 6) = K (cd m % 6) then none else some (rcl K (K (cd m / 6)) (K (cd m % 6)))) else some K
theorem rnm_ok {n : Nat} {cd : Nat → Nat} {mask : Nat} : ∀ m, (∀ e, e < m → cd e / 6 < n ∧ cd e % 6 < n) → (∀ K, rnm cd mask m = some K → FR n (pcm mask m) (fun i => bvC (cd (tpm mask m i))) K) ∧ (rnm cd mask m = none → DEP n (pcm mask m) fun i => bvC (cd (tpm mask m i)))
  | 0, _ => ⟨fun K h => by
      have e : id = K := Option.some.inj h
      subst e
      exact FR_start _, fun h => by cases h⟩
  | m + 1, hc => by
    obtain ⟨ih1, ih2⟩ := rnm_ok (mask := mask) m fun e he => hc e (by omega)
    obtain ⟨c1, c2⟩ := hc m (by omega)
    by_cases hb : mb mask m = true
    · have e1 : pcm mask (m + 1) = pcm mask m + 1 := if_pos hb
      have e2 : (fun i => bvC (cd (tpm mask (m + 1) i))) = cns (bvC (cd m)) fun i => bvC (cd (tpm mask m i)) := by
        have : tpm mask (m + 1) = cns m (tpm mask m) := if_pos hb
        rw [this]
        exact cns_map (b := fun e => bvC (cd e))
      rw [e1, e2]
      cases hr : rnm cd mask m with
      | none =>
        have e3 : rnm cd mask (m + 1) = none := by
          unfold rnm
          rw [hr]
        rw [e3]
        exact ⟨fun K h => (by cases h), fun _ => dep_cns (ih2 hr)⟩
      | some K =>
        have F := ih1 K hr
        by_cases g : K (cd m / 6) = K (cd m % 6)
        · have e3 : rnm cd mask (m + 1) = none := by
            unfold rnm
            rw [hr]
            show (if mb mask m = true then _ else _) = _
            rw [if_pos hb, if_pos g]
          rw [e3]
          exact ⟨fun K h => (by cases h), fun _ => dep_new (F.1 _ _ c1 c2 g)⟩
        · have e3 : rnm cd mask (m + 1) = some (rcl K (K (cd m / 6)) (K (cd m % 6))) := by
            unfold rnm
            rw [hr]
            show (if mb mask m = true then _ else _) = _
            rw [if_pos hb, if_neg g]
          rw [e3]
          refine ⟨fun K' h => ?_, fun h => by cases h⟩
          have e : rcl K (K (cd m / 6)) (K (cd m % 6)) = K' := Option.some.inj h
          subst e
          exact FR_more F c1 c2 g
    · have e1 : pcm mask (m + 1) = pcm mask m := if_neg hb
      have e2 : tpm mask (m + 1) = tpm mask m := if_neg hb
      have e3 : rnm cd mask (m + 1) = rnm cd mask m := by
        conv => lhs; unfold rnm
        cases hr : rnm cd mask m with
        | none => rfl
        | some K => exact if_neg hb
      rw [e1, e2, e3]
      exact ⟨ih1, ih2⟩
theorem mb_hi {m x e : Nat} (h : e < m) : mb (2 ^ m + x) e = mb x e := by
  have e1 : 2 ^ m + x = x + 2 ^ e * (2 * 2 ^ (m - e - 1)) := by
    have : 2 ^ m = 2 ^ e * (2 * 2 ^ (m - e - 1)) := by
      rw [← Nat.pow_succ', ← Nat.pow_add]
      congr 1
      omega
    omega
  unfold mb
  rw [e1, Nat.add_mul_div_left _ _ (Nat.two_pow_pos e), Nat.add_mul_mod_self_left]
theorem pcm_hi {m x : Nat} : ∀ e, e ≤ m → pcm (2 ^ m + x) e = pcm x e
  | 0, _ => rfl
  | e + 1, h => by
    show (if mb (2 ^ m + x) e then pcm (2 ^ m + x) e + 1 else pcm (2 ^ m + x) e) = if mb x e then pcm x e + 1 else pcm x e
    rw [mb_hi h, pcm_hi e (by omega)]
theorem tpm_hi {m x : Nat} : ∀ e, e ≤ m → tpm (2 ^ m + x) e = tpm x e
  | 0, _ => rfl
  | e + 1, h => by
    show (if mb (2 ^ m + x) e then cns e (tpm (2 ^ m + x) e) else tpm (2 ^ m + x) e) = if mb x e then cns e (tpm x e) else tpm x e
    rw [mb_hi h, tpm_hi e (by omega)]
theorem tU_mask : ∀ (m k : Nat) (F : (Nat → Nat) → Int), tU m k F = sm (2 ^ m) fun mask => if pcm mask m = k then F (tpm mask m) else 0
  | 0, 0, F => by
    show F _ = 0 + F _
    rw [Int.zero_add]
    rfl
  | 0, k + 1, F => rfl
  | m + 1, k, F => by
    have e0 : 2 ^ (m + 1) = 2 ^ m + 2 ^ m := by rw [Nat.pow_succ]; omega
    rw [e0, sm_split]
    have lo : sm (2 ^ m) (fun mask => if pcm mask (m + 1) = k then F (tpm mask (m + 1)) else 0) = tU m k F := by
      rw [tU_mask m k F]
      refine sm_eq (2 ^ m) fun x hx => ?_
      have hb : ¬ mb x m = true := by
        unfold mb
        rw [Nat.div_eq_of_lt hx]
        decide
      have e1 : pcm x (m + 1) = pcm x m := if_neg hb
      have e2 : tpm x (m + 1) = tpm x m := if_neg hb
      rw [e1, e2]
    rw [lo]
    have hi : ∀ x, x < 2 ^ m → pcm (2 ^ m + x) (m + 1) = pcm x m + 1 ∧ tpm (2 ^ m + x) (m + 1) = cns m (tpm x m) := fun x hx => by
      have hb : mb (2 ^ m + x) m = true := by
        unfold mb
        have : (2 ^ m + x) / 2 ^ m = 1 := by
          have := Nat.add_mul_div_left x 1 (Nat.two_pow_pos m)
          rw [Nat.mul_one, Nat.div_eq_of_lt hx, Nat.add_comm] at this
          exact this
        rw [this]
        decide
      refine ⟨?_, ?_⟩
      · show (if mb (2 ^ m + x) m then pcm (2 ^ m + x) m + 1 else pcm (2 ^ m + x) m) = _
        rw [if_pos hb, pcm_hi m (Nat.le_refl m)]
      · show (if mb (2 ^ m + x) m then cns m (tpm (2 ^ m + x) m) else tpm (2 ^ m + x) m) = _
        rw [if_pos hb, tpm_hi m (Nat.le_refl m)]
    cases k with
    | zero =>
      have z : sm (2 ^ m) (fun x => if pcm (2 ^ m + x) (m + 1) = 0 then F (tpm (2 ^ m + x) (m + 1)) else 0) = 0 := sm_zero _ fun x hx => by
        rw [(hi x hx).1, if_neg (by omega)]
      rw [z, Int.add_zero]
      cases m <;> rfl
    | succ k =>
      show tU m (k + 1) F + tU m k (fun t => F (cns m t)) = _
      congr 1
      rw [tU_mask m k]
      refine sm_eq (2 ^ m) fun x hx => ?_
      rw [(hi x hx).1, (hi x hx).2]
      by_cases g : pcm x m = k
      · rw [if_pos g, if_pos (by omega)]
      · rw [if_neg g, if_neg (by omega)]
/-- one tree or none -/
def t1m (n : Nat) (cd : Nat → Nat) (m mask : Nat) : Int := if (rnm cd mask m).isSome = true ∧ pcm mask m + 1 = n then 1 else 0
theorem trees_sum {n m : Nat} {cd : Nat → Nat} (hn : 1 ≤ n) (hc : ∀ e, e < m → cd e / 6 < n ∧ cd e % 6 < n) : tU m (n - 1) (gF n (fun e => bvC (cd e)) (n - 1)) = (n : Int) * sm (2 ^ m) (t1m n cd m) := by
  rw [tU_mask, ← sm_mul]
  refine sm_eq (2 ^ m) fun mask _ => ?_
  obtain ⟨h1, h2⟩ := rnm_ok (mask := mask) m hc
  unfold t1m
  by_cases g : pcm mask m = n - 1
  · rw [if_pos g]
    show dt (n - 1) _ = _
    rw [g] at h1 h2
    cases hr : rnm cd mask m with
    | none =>
      rw [if_neg (fun k => by cases k.1), Int.mul_zero]
      exact dep_dt (h2 hr)
    | some K =>
      rw [if_pos ⟨rfl, by omega⟩, Int.mul_one]
      exact FR_end (h1 K hr) hn (by omega)
  · rw [if_neg g, if_neg fun k => g (by omega), Int.mul_zero]
