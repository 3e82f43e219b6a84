/-! The cells at the start: they are what the invariant says. -/
def z0F (c : mjC) (k : Nat) : Int := match c with
  | .inl o => match o.2[k]? with
    | some (.int i) => i.toInt
    | some (.long l) => l.toInt
    | some (.ref r) => (r : Int) - 1
    | _ => 0
  | .inr (.inl xs) => (xs.getD k 0).toInt
  | .inr (.inr (.inl xs)) => (xs.getD k 0).toInt
  | .inr (.inr (.inr o)) => match o.2[k]? with
    | some (some r) => (r : Int) - 1
    | _ => 0
def z0V (v : Value) : Bool := match v with
  | .ref r => Nat.blt 0 r
  | _ => true
def z0R (v : Option Nat) : Bool := match v with
  | some r => Nat.blt 0 r
  | none => false
def z0Ok (c : mjC) : Bool := match c with
  | .inl o => o.2.all z0V
  | .inr (.inl _) => true
  | .inr (.inr (.inl _)) => true
  | .inr (.inr (.inr o)) => bif Nat.beq o.2.length 36 then o.2.all z0R else true
theorem z0_fs {ci : Nat} : ∀ (ts : List Value) (k : Nat) (z : Nat → Int), (∀ j t, ts[j]? = some t → mjFv (mjMu ci (k + j)) t (z (k + j)) = t) → mjFs2 ci k ts z = ts
  | [], _, _, _ => rfl
  | t :: ts, k, z, h => by
    show mjFv (mjMu ci k) t (z k) :: mjFs2 ci (k + 1) ts z = t :: ts
    have h0 := h 0 t rfl
    rw [Nat.add_zero] at h0
    rw [h0, z0_fs ts (k + 1) z fun j t' ht => by
      have := h (j + 1) t' (by rw [List.getElem?_cons_succ]; exact ht)
      rw [show k + 1 + j = k + (j + 1) by omega]
      exact this]
theorem z0_A {α : Type} {xs : List α} {g : Nat → α} (h : ∀ i x, xs[i]? = some x → g i = x) : mjA xs.length g = xs := by
  refine List.ext_getElem? fun i => ?_
  by_cases hi : i < xs.length
  · rw [mjA_get hi]
    have := h i xs[i] (List.getElem?_eq_getElem hi)
    rw [List.getElem?_eq_getElem hi, this]
  · rw [List.getElem?_eq_none (by simp [mjA]; omega), List.getElem?_eq_none (by omega)]
theorem z0_r (r : Nat) (h : 0 < r) : ((r : Int) - 1).toNat + 1 = r := by omega
theorem z0_fill {c : mjC} (h : z0Ok c = true) : mjFill c (z0F c) = c := by
  cases c with
  | inl o =>
    have h : o.2.all z0V = true := h
    show (Sum.inl (o.1, mjFs2 o.1 0 o.2 (z0F (.inl o))) : mjC) = Sum.inl o
    rw [z0_fs o.2 0 _ fun j t ht => ?_]
    rw [Nat.zero_add]
    have hz : z0V t = true := List.all_eq_true.mp h t (List.mem_of_getElem? ht)
    have e : z0F (.inl o) j = match some t with | some (.int i) => i.toInt | some (.long l) => l.toInt | some (.ref r) => (r : Int) - 1 | _ => 0 := by
      rw [← ht]
      rfl
    rw [e]
    cases t with
    | int i => show Value.int (Int32.ofInt i.toInt) = _; rw [Int32.ofInt_toInt]
    | long l => show Value.long (Int64.ofInt l.toInt) = _; rw [Int64.ofInt_toInt]
    | ref r =>
      have hr : 0 < r := Nat.blt_eq ▸ hz
      show (bif mjMu o.1 j then Value.ref (((r : Int) - 1).toNat + 1) else Value.ref r) = Value.ref r
      cases mjMu o.1 j with
      | true =>
        exact congrArg Value.ref (z0_r r hr)
      | false => rfl
    | _ => rfl
  | inr c => cases c with
    | inl xs =>
      show (Sum.inr (Sum.inl (mjA xs.length fun i => Int32.ofInt (xs.getD i 0).toInt)) : mjC) = _
      rw [z0_A fun i x hx => by rw [Int32.ofInt_toInt, List.getD_eq_getElem?_getD, hx]; rfl]
    | inr c => cases c with
      | inl xs =>
        show (Sum.inr (Sum.inr (Sum.inl (mjA xs.length fun i => Int64.ofInt (xs.getD i 0).toInt))) : mjC) = _
        rw [z0_A fun i x hx => by rw [Int64.ofInt_toInt, List.getD_eq_getElem?_getD, hx]; rfl]
      | inr o =>
        have h : (bif Nat.beq o.2.length 36 then o.2.all z0R else true) = true := h
        show (Sum.inr (Sum.inr (Sum.inr (o.1, bif Nat.beq o.2.length 36 then mjA 36 (fun i => some ((z0F (.inr (.inr (.inr o))) i).toNat + 1)) else o.2))) : mjC) = _
        cases hb : Nat.beq o.2.length 36 with
        | false => rfl
        | true =>
          rw [hb] at h
          have hl := Nat.eq_of_beq_eq_true hb
          have : mjA 36 (fun i => some ((z0F (.inr (.inr (.inr o))) i).toNat + 1)) = o.2 := by
            rw [← hl]
            refine z0_A fun i x hx => ?_
            have hz : z0R x = true := List.all_eq_true.mp h x (List.mem_of_getElem? hx)
            have e : z0F (.inr (.inr (.inr o))) i = match some x with | some (some r) => (r : Int) - 1 | _ => 0 := by
              rw [← hx]
              rfl
            rw [e]
            cases x with
            | none => cases hz
            | some r =>
              have hr : 0 < r := Nat.blt_eq ▸ hz
              show some (((r : Int) - 1).toNat + 1) = some r
              congr 1
              omega
          rw [this]
          rfl
def mjZ0 : mjZ := fun c => z0F (mjSh c)
set_option maxRecDepth 100000 in
theorem z0_ok : mjHP.all z0Ok = true := by decide +kernel
theorem mjZ0_H : mjMZ mjZ0 = mjHP := by
  have hl : mjHP.length = 494 := mjHP_room.1
  have : mjMZ mjZ0 = mjA mjHP.length fun c => mjFill (mjSh c) (mjZ0 c) := by rw [hl]; rfl
  rw [this]
  refine z0_A fun i x hx => ?_
  have hs : mjSh i = x := by
    unfold mjSh
    rw [List.getD_eq_getElem?_getD, hx]
    rfl
  show mjFill (mjSh i) (z0F (mjSh i)) = x
  rw [hs]
  exact z0_fill (List.all_eq_true.mp z0_ok x (List.mem_of_getElem? hx))
set_option maxRecDepth 100000 in
theorem z0_leaf : ∀ l, l < 16 → mjZ0 (2 + 2 * l) 1 = -1 ∧ mjZ0 465 l = -1 := by decide +kernel
set_option maxRecDepth 100000 in
theorem z0_nums : mjZ0 0 2 = 0 ∧ mjZ0 464 3 = 0 ∧ mjZ0 0 4 = 0 ∧ mjZ0 464 18 = 0 ∧ mjZ0 0 7 = mjZ0 464 8 ∧ mjZ0 0 8 = mjZ0 464 9 ∧ mjZ0 0 10 = mjZ0 464 11 ∧ mjZ0 0 6 = 0 ∧ mjZ0 464 13 = 0 ∧ (∀ f, f < 9 → mjZ0 253 f = mjZ0 472 f) := by decide +kernel
set_option maxRecDepth 100000 in
theorem z0_refs : mjZ0 254 5 = 266 ∧ mjZ0 254 6 = 281 ∧ mjZ0 254 7 = 296 ∧ mjZ0 263 1 = 264 ∧ mjZ0 263 2 = 265 ∧ mjZ0 460 1 = 461 ∧ mjZ0 460 2 = 462 ∧ mjZ0 315 2 = 318 ∧ mjZ0 315 3 = 320 ∧ mjZ0 315 4 = 322 ∧ mjZ0 354 2 = 357 ∧ mjZ0 354 3 = 359 ∧ mjZ0 354 4 = 361 ∧ (∀ j, j < 36 → mjZ0 343 j = ((387 + 2 * j : Nat) : Int)) := by decide +kernel
set_option maxRecDepth 100000 in
theorem z0_primes : ∀ q, q < 24 → mjZ0 481 q = [2147483647, 2147483629, 2147483587, 2147483579, 2147483563, 2147483549, 2147483543, 2147483497, 2147483489, 2147483477, 2147483423, 2147483399, 2147483353, 2147483323, 2147483269, 2147483249, 2147483237, 2147483179, 2147483171, 2147483137, 2147483123, 2147483077, 2147483069, 2147483059].getD q (0 : Int) := by decide +kernel
theorem INV_Z0 : INV mjZ0 := by
  obtain ⟨n1, n2, n3, n4, n5, n6, n7, n8, n9, n10⟩ := z0_nums
  obtain ⟨r1, r2, r3, r4, r5, r6, r7, r8, r9, r10, r11, r12, r13, r14⟩ := z0_refs
  refine ⟨fun l hl => ?_, ⟨0, by decide, n1, n2, fun t ht => by omega⟩, ⟨0, by decide, n3, n4, fun i hi => by omega⟩, ⟨n5, n6, n10, n7⟩, ⟨by rw [n8, n9], by rw [n8]; decide, by rw [n8]; decide, fun k hk => by rw [n8] at hk; omega⟩, ⟨⟨266, 281, 296, r1, r2, r3, by decide, by decide, by decide, by decide, by decide, by decide⟩, Or.inl ⟨r4, r5⟩, Or.inl ⟨r6, r7⟩, ⟨318, 320, 322, r8, r9, r10, by decide, by decide, by decide, by decide, by decide, by decide⟩, ⟨357, 359, 361, r11, r12, r13, by decide, by decide, by decide, by decide, by decide, by decide⟩, ⟨fun j hj => ⟨j, hj, ?_⟩, fun i j hi hj he => ?_⟩, z0_primes⟩⟩
  · obtain ⟨a, b⟩ := z0_leaf l hl
    exact ⟨by rw [a, b], by rw [b]; decide, by rw [b]; decide, fun g => by rw [b] at g; omega⟩
  · rw [r14 j hj]
    omega
  · rw [r14 i hi, r14 j hj] at he
    omega
