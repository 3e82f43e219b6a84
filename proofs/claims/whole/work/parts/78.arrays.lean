/-! Cells as a function of their place, rows as functions; ints that are natural numbers. -/
def mjA {α : Type} (n : Nat) (g : Nat → α) : List α := (List.range n).map g
section MJB
variable {α : Type} {n i : Nat} {g f : Nat → α}
theorem mjA_len : (mjA n g).length = n := by simp [mjA]
theorem mjA_get (h : i < n) : (mjA n g)[i]? = some (g i) := by simp [mjA, h]
theorem mjA_none (h : n ≤ i) : (mjA n g)[i]? = none := by simp [mjA, h]
theorem mjA_ext (h : ∀ i, i < n → f i = g i) : mjA n f = mjA n g := by
  unfold mjA
  exact List.map_congr_left fun a ha => h a (List.mem_range.mp ha)
theorem mjA_set {v : α} : (mjA n g).set i v = mjA n (va_up g i v) := by
  apply List.ext_getElem?
  intro k
  rcases Nat.lt_or_ge k n with hk | hk
  · rw [mjA_get hk, List.getElem?_set]
    by_cases hik : i = k
    · subst hik
      rw [if_pos rfl, if_pos (by rw [mjA_len]; exact hk)]
      simp [va_up]
    · rw [if_neg hik, mjA_get hk]
      simp [va_up, Ne.symm hik]
  · rw [mjA_none hk]
    exact List.getElem?_eq_none (by rw [List.length_set, mjA_len]; exact hk)
theorem mjA_rep {c : α} : List.replicate n c = mjA n (fun _ => c) := by
  apply List.ext_getElem?
  intro k
  rcases Nat.lt_or_ge k n with hk | hk
  · rw [mjA_get hk]
    simp [hk]
  · rw [mjA_none hk]
    simp [hk]
theorem mjA_inj (h : mjA n f = mjA n g) (hi : i < n) : f i = g i := by
  have := mjA_get (g := f) hi
  rw [h, mjA_get hi] at this
  exact (Option.some.inj this).symm
end MJB
theorem mjN_clamp {x : Int32} {i : Nat} (hx : x = Int32.ofNat i) (h : i < 1000000) : x.toNatClampNeg = i := by
  subst hx
  exact nI_clamp (by omega)
theorem mjN_int {x : Int32} {i : Nat} (hx : x = Int32.ofNat i) (h : i < 1000000) : x.toInt = (i : Int) := by
  subst hx
  exact nI_toInt (by omega)
theorem mjN_pos {x : Int32} {i : Nat} (hx : x = Int32.ofNat i) (h : i < 1000000) : ¬ x < 0 := by
  subst hx
  exact nI_pos (by omega)
theorem mjA_at {α : Type} {n i : Nat} {g : Nat → α} {x : Int32} (hx : x = Int32.ofNat i) (h : i < n) (hn : n ≤ 4000) : mjAt? (mjA n g) x = some (g i) := by
  unfold mjAt?
  rw [if_neg (mjN_pos hx (by omega)), mjN_clamp hx (by omega), mjA_get h]
theorem mjA_in {α : Type} {n i : Nat} {g : Nat → α} {x : Int32} (hx : x = Int32.ofNat i) (h : i < n) (hn : n ≤ 4000) : mjIn x (mjA n g).length = true := by
  rw [mjA_len, hx]
  exact mjIn_nat h hn
theorem mjN_add {x y : Int32} {a b : Nat} (hx : x = Int32.ofNat a) (hy : y = Int32.ofNat b) : x + y = Int32.ofNat (a + b) := by
  subst hx; subst hy
  exact nI_add a b
theorem mjN_mul {x y : Int32} {a b : Nat} (hx : x = Int32.ofNat a) (hy : y = Int32.ofNat b) : x * y = Int32.ofNat (a * b) := by
  subst hx; subst hy
  exact pk_mul a b
theorem mjN_sub {x y : Int32} {a b : Nat} (hx : x = Int32.ofNat a) (hy : y = Int32.ofNat b) (h : b ≤ a) : x - y = Int32.ofNat (a - b) := by
  subst hx; subst hy
  exact pk_sub h
section MJN
variable {x y : Int32} {a b : Nat} (hx : x = Int32.ofNat a) (hy : y = Int32.ofNat b) (ha : a < 1000000) (hb : b < 1000000)
theorem nT_lt (hx : x = Int32.ofNat a) (hy : y = Int32.ofNat b) (ha : a < 1000000) (hb : b < 1000000) (h : a < b) : mjCmp .lt x y = true := cT_lt (by rw [mjN_int hx ha, mjN_int hy hb]; omega)
theorem nF_lt (hx : x = Int32.ofNat a) (hy : y = Int32.ofNat b) (ha : a < 1000000) (hb : b < 1000000) (h : b ≤ a) : mjCmp .lt x y = false := cF_lt (by rw [mjN_int hx ha, mjN_int hy hb]; omega)
theorem nT_ge (hx : x = Int32.ofNat a) (hy : y = Int32.ofNat b) (ha : a < 1000000) (hb : b < 1000000) (h : b ≤ a) : mjCmp .ge x y = true := cT_ge (by rw [mjN_int hx ha, mjN_int hy hb]; omega)
theorem nF_ge (hx : x = Int32.ofNat a) (hy : y = Int32.ofNat b) (ha : a < 1000000) (hb : b < 1000000) (h : a < b) : mjCmp .ge x y = false := cF_ge (by rw [mjN_int hx ha, mjN_int hy hb]; omega)
theorem nT_gt (hx : x = Int32.ofNat a) (hy : y = Int32.ofNat b) (ha : a < 1000000) (hb : b < 1000000) (h : b < a) : mjCmp .gt x y = true := cT_gt (by rw [mjN_int hx ha, mjN_int hy hb]; omega)
theorem nF_gt (hx : x = Int32.ofNat a) (hy : y = Int32.ofNat b) (ha : a < 1000000) (hb : b < 1000000) (h : a ≤ b) : mjCmp .gt x y = false := cF_gt (by rw [mjN_int hx ha, mjN_int hy hb]; omega)
theorem nT_le (hx : x = Int32.ofNat a) (hy : y = Int32.ofNat b) (ha : a < 1000000) (hb : b < 1000000) (h : a ≤ b) : mjCmp .le x y = true := cT_le (by rw [mjN_int hx ha, mjN_int hy hb]; omega)
theorem nF_le (hx : x = Int32.ofNat a) (hy : y = Int32.ofNat b) (ha : a < 1000000) (hb : b < 1000000) (h : b < a) : mjCmp .le x y = false := cF_le (by rw [mjN_int hx ha, mjN_int hy hb]; omega)
theorem nT_eq (hx : x = Int32.ofNat a) (hy : y = Int32.ofNat b) (ha : a < 1000000) (hb : b < 1000000) (h : a = b) : mjCmp .eq x y = true := cT_eq (by rw [mjN_int hx ha, mjN_int hy hb]; omega)
theorem nF_eq (hx : x = Int32.ofNat a) (hy : y = Int32.ofNat b) (ha : a < 1000000) (hb : b < 1000000) (h : a ≠ b) : mjCmp .eq x y = false := cF_eq (by rw [mjN_int hx ha, mjN_int hy hb]; omega)
theorem nT_ne (hx : x = Int32.ofNat a) (hy : y = Int32.ofNat b) (ha : a < 1000000) (hb : b < 1000000) (h : a ≠ b) : mjCmp .ne x y = true := cT_ne (by rw [mjN_int hx ha, mjN_int hy hb]; omega)
theorem nF_ne (hx : x = Int32.ofNat a) (hy : y = Int32.ofNat b) (ha : a < 1000000) (hb : b < 1000000) (h : a = b) : mjCmp .ne x y = false := cF_ne (by rw [mjN_int hx ha, mjN_int hy hb]; omega)
end MJN
theorem mjN_0 : (0 : Int32) = Int32.ofNat 0 := rfl
theorem va_up_same {α : Type} {C : Nat → α} {a : Nat} {c : α} : va_up C a c a = c := by simp [va_up]
theorem va_up_ne2 {α : Type} {C : Nat → α} {a k : Nat} {c : α} (h : k ≠ a) : va_up C a c k = C k := by simp [va_up, h]
theorem va_up_up {α : Type} {C : Nat → α} {a : Nat} {c e : α} : va_up (va_up C a c) a e = va_up C a e := by
  funext k
  by_cases h : k = a <;> simp [va_up, h]
theorem va_up_id {α : Type} {C : Nat → α} {a : Nat} {c : α} (h : C a = c) : va_up C a c = C := by
  funext k
  by_cases hk : k = a
  · subst hk; simp [va_up, h]
  · simp [va_up, hk]
