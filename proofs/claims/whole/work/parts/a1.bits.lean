/-! Words of two digits; the digit that is guessed in long division. -/
theorem wShlJ {w : Int} (h0 : 0 ≤ w) (h1 : w < 8589934592) : mjShlJ w 30 = w * 1073741824 := by
  have e0 : ((Int32.ofInt 30).toInt64 &&& 63) = 30 := by decide
  show (Int64.ofInt w <<< ((Int32.ofInt 30).toInt64 &&& 63)).toInt = _
  rw [e0]
  have e1 : (Int64.ofInt w <<< (30 : Int64)).toBitVec = BitVec.ofInt 64 w <<< (30 : Nat) := rfl
  show (Int64.ofInt w <<< (30 : Int64)).toBitVec.toInt = _
  rw [e1]
  have e2 : (BitVec.ofInt 64 w <<< (30 : Nat)).toNat = w.toNat * 1073741824 := by
    rw [BitVec.toNat_shiftLeft, BitVec.toNat_ofInt, Nat.shiftLeft_eq]
    omega
  rw [BitVec.toInt_eq_toNat_of_lt (by rw [e2]; omega), e2]
  omega
theorem wOrJ {x v : Int} (h0 : 0 ≤ x) (h1 : x < 8589934592) (g0 : 0 ≤ v) (g1 : v < 1073741824) : mjOrJ (mjShlJ x 30) v = x * 1073741824 + v := by
  rw [wShlJ h0 h1]
  show (BitVec.ofInt 64 (x * 1073741824) ||| BitVec.ofInt 64 v).toInt = _
  have e1 : (BitVec.ofInt 64 (x * 1073741824) ||| BitVec.ofInt 64 v).toNat = x.toNat * 1073741824 + v.toNat := by
    rw [BitVec.toNat_or, BitVec.toNat_ofInt, BitVec.toNat_ofInt]
    have e2 : (x * 1073741824 % ((2 ^ 64 : Nat) : Int)).toNat = x.toNat <<< 30 := by
      rw [Nat.shiftLeft_eq]
      omega
    have e3 : (v % ((2 ^ 64 : Nat) : Int)).toNat = v.toNat := by omega
    rw [e2, e3, ← Nat.shiftLeft_add_eq_or_of_lt (show v.toNat < 2 ^ 30 by omega), Nat.shiftLeft_eq]
  rw [BitVec.toInt_eq_toNat_of_lt (by rw [e1]; omega), e1]
  omega
section BGH
variable {d R R2 c e : Nat} {Z : mjZ}
theorem bg_isShort {v : Int} {n : Nat} {q : Int → mjZ → Prop} (h1 : bgW R Z c n) (hn : n < 2000000) (hq : q (if n < 3 then 1 else 0) Z) : mjW1 (d + 1) 135 [yR 0 c] Z q := by
  have h2 := h1.2.1
  refine mje_135 ⟨by omega, fun h => ?_, fun h => ?_⟩
  · rw [if_neg (by omega)] at hq
    exact hq
  · rw [if_pos (by omega)] at hq
    exact hq
theorem bg_asLong {v : Int} {q : Int → mjZ → Prop} (hR : bgR c R) (hv : bgIs R Z c v) (hf : bgA v < 9223372036854775808) (hq : q v Z) : mjW2 (d + 2) 110 [yR 0 c] Z q := by
  obtain ⟨n, h1, h2, h3, h4, h5, h6, h7, h8, h9, h10⟩ := hv.n
  have d0 := bgG_b h1 0
  have d1 := bgG_b h1 1
  have d2 := bgG_b h1 2
  have hS : bgA v = bgG Z c 0 + 1073741824 * (bgG Z c 1 + 1073741824 * bgG Z c 2) := by
    have hn3 : n ≤ 3 := by
      rcases Nat.lt_or_ge 3 n with h | h
      · have := h8 (by omega)
        have := bgP_mono (show 3 ≤ n - 1 by omega)
        have : bgP 3 = 1237940039285380274899124224 := rfl
        omega
      · exact h
    rw [h6, ← bgG_S h1 hn3]
    simp [bgS]
  have hsv : v = if 0 ≤ Z c 0 then bgA v else -(bgA v) := by
    have h0 : 0 ≤ bgA v := bgA_0
    rw [h5, h6] at *
    rcases h3 with h | h | h <;> rw [h]
    · rw [if_neg (by decide)]; omega
    · rw [if_pos (by decide), h7 (h4.mp h)]; rfl
    · rw [if_pos (by decide), Int.one_mul]
  have t2 : (2 : Int).toNat = 2 := rfl
  have t1 : ((2 : Int) + (-1)).toNat = 1 := rfl
  have t0 : ((2 : Int) + (-1) + (-1)).toNat = 0 := rfl
  refine mje_110 (d := d + 1) ?_
  refine mjl_110_4 ⟨by omega, fun h => by omega, fun _ => ?_⟩
  refine bg_digit hR h1 (by omega) (by omega) ?_
  rw [t2]
  refine ⟨by omega, ?_⟩
  refine mjl_110_4 ⟨by omega, fun h => by omega, fun _ => ?_⟩
  refine bg_digit hR h1 (by omega) (by omega) ?_
  rw [t1]
  refine ⟨by omega, ?_⟩
  refine mjl_110_4 ⟨by omega, fun h => by omega, fun _ => ?_⟩
  refine bg_digit hR h1 (by omega) (by omega) ?_
  rw [t0]
  refine ⟨by omega, ?_⟩
  rw [wOrJ (by omega) (by omega) d2.1 d2.2]
  rw [wOrJ (by omega) (by omega) d1.1 d1.2]
  rw [wOrJ (by omega) (by omega) d0.1 d0.2]
  have e9 : ((0 * 1073741824 + bgG Z c 2) * 1073741824 + bgG Z c 1) * 1073741824 + bgG Z c 0 = bgA v := by omega
  rw [e9]
  refine mjl_110_4 ⟨by omega, fun _ => ⟨by omega, fun h => ?_, fun h => ?_⟩, fun h => by omega⟩
  · rw [if_pos h] at hsv
    rw [← hsv]
    exact hq
  · rw [if_neg h] at hsv
    rw [← hsv]
    exact hq
end BGH
/-! What the guess is worth: U the window, V the divisor, both cut into their highest digits. -/
section BGQ
variable {L Lv u2 u0 u1 v1 v2 Pm U V : Int}
/-- head = u0 + B u1; U = L + Pm (u2 + B head), V = Lv + Pm (v2 + B v1) -/
def gsH (L Lv u2 hd v1 v2 Pm U V : Int) : Prop := 0 ≤ L ∧ L < Pm ∧ 0 ≤ Lv ∧ Lv < Pm ∧ 0 ≤ u2 ∧ u2 < 1073741824 ∧ 0 ≤ v2 ∧ v2 < 1073741824 ∧ 536870912 ≤ v1 ∧ v1 < 1073741824 ∧ 0 ≤ hd ∧ U = L + Pm * (u2 + 1073741824 * hd) ∧ V = Lv + Pm * (v2 + 1073741824 * v1) ∧ U < 1073741824 * V
theorem gsV {L Lv u2 hd v1 v2 Pm U V : Int} (h : gsH L Lv u2 hd v1 v2 Pm U V) : 0 < V ∧ Pm * (1073741824 * v1) ≤ V ∧ Pm * (v2 + 1073741824 * v1) ≤ V ∧ V < Pm * (v2 + 1073741824 * v1 + 1) ∧ Pm * 576460752303423488 ≤ V ∧ 0 < Pm := by
  obtain ⟨a1, a2, a3, a4, a5, a6, a7, a8, a9, a10, a11, a12, a13, a14⟩ := h
  have hp : 0 < Pm := by omega
  have e1 : Pm * (1073741824 * v1) ≤ Pm * (v2 + 1073741824 * v1) := Int.mul_le_mul_of_nonneg_left (by omega) (by omega)
  have e2 : Pm * (v2 + 1073741824 * v1 + 1) = Pm * (v2 + 1073741824 * v1) + Pm := by rw [Int.mul_add, Int.mul_one]
  have e3 : Pm * 576460752303423488 ≤ Pm * (1073741824 * v1) := Int.mul_le_mul_of_nonneg_left (by omega) (by omega)
  refine ⟨?_, ?_, ?_, ?_, ?_, hp⟩ <;> omega
theorem gsU {L Lv u2 hd v1 v2 Pm U V : Int} (h : gsH L Lv u2 hd v1 v2 Pm U V) : Pm * (u2 + 1073741824 * hd) ≤ U ∧ U < Pm * (u2 + 1073741824 * hd + 1) ∧ U < Pm * (1073741824 * (hd + 1)) + 1 := by
  obtain ⟨a1, a2, a3, a4, a5, a6, a7, a8, a9, a10, a11, a12, a13, a14⟩ := h
  have e2 : Pm * (u2 + 1073741824 * hd + 1) = Pm * (u2 + 1073741824 * hd) + Pm := by rw [Int.mul_add, Int.mul_one]
  have e3 : Pm * (u2 + 1073741824 * hd + 1) ≤ Pm * (1073741824 * (hd + 1)) := Int.mul_le_mul_of_nonneg_left (by omega) (by omega)
  refine ⟨?_, ?_, ?_⟩ <;> omega
/-- a guess g with what is left of the head, w -/
def gsI (hd v1 U V g w : Int) : Prop := hd = g * v1 + w ∧ 0 ≤ w ∧ U < (g + 1) * V ∧ 0 ≤ g
theorem gs_le {L Lv u2 hd v1 v2 Pm U V g w : Int} (h : gsH L Lv u2 hd v1 v2 Pm U V) (hI : gsI hd v1 U V g w) (hg : g ≤ 1073741825) : hd < 1073741824 * (v1 + 1) := by
  have hV := gsV h
  have hU := gsU h
  obtain ⟨a1, a2, a3, a4, a5, a6, a7, a8, a9, a10, a11, a12, a13, a14⟩ := h
  rcases Int.lt_or_le hd (1073741824 * (v1 + 1)) with h1 | h1
  · exact h1
  · have e1 : Pm * (u2 + 1073741824 * (1073741824 * (v1 + 1))) ≤ Pm * (u2 + 1073741824 * hd) := Int.mul_le_mul_of_nonneg_left (by omega) (by omega)
    have e2 : 1073741824 * (Pm * (v2 + 1073741824 * v1 + 1)) = Pm * (1073741824 * (v2 + 1073741824 * v1 + 1)) := by rw [Int.mul_left_comm]
    have e3 : Pm * (1073741824 * (v2 + 1073741824 * v1 + 1)) ≤ Pm * (u2 + 1073741824 * (1073741824 * (v1 + 1))) := Int.mul_le_mul_of_nonneg_left (by omega) (by omega)
    omega
theorem gs_0 {L Lv u2 hd v1 v2 Pm U V : Int} (h : gsH L Lv u2 hd v1 v2 Pm U V) : gsI hd v1 U V (hd / v1) (hd % v1) ∧ hd % v1 < 1073741824 ∧ hd / v1 ≤ 1073741825 ∧ (hd / v1 - 2) * V ≤ U := by
  have hV := gsV h
  have hU := gsU h
  obtain ⟨a1, a2, a3, a4, a5, a6, a7, a8, a9, a10, a11, a12, a13, a14⟩ := id h
  have b1 : hd % v1 < v1 := Int.emod_lt_of_pos hd (by omega)
  have b2 : 0 ≤ hd % v1 := Int.emod_nonneg hd (by omega)
  have b3 : v1 * (hd / v1) + hd % v1 = hd := Int.mul_ediv_add_emod hd v1
  have b4 : 0 ≤ hd / v1 := Int.ediv_nonneg a11 (by omega)
  rw [Int.mul_comm] at b3
  generalize hd / v1 = g at *
  generalize hd % v1 = w at *
  have hI : gsI hd v1 U V g w := by
    refine ⟨b3.symm, b2, ?_, b4⟩
    have c1 : (g + 1) * (Pm * (1073741824 * v1)) ≤ (g + 1) * V := Int.mul_le_mul_of_nonneg_left hV.2.1 (by omega)
    have c2 : (g + 1) * (Pm * (1073741824 * v1)) = Pm * (1073741824 * ((g + 1) * v1)) := by rw [Int.mul_left_comm, Int.mul_left_comm (g + 1)]
    have c3 : (g + 1) * v1 = g * v1 + v1 := by rw [Int.add_mul, Int.one_mul]
    have c4 : Pm * (1073741824 * (hd + 1)) ≤ Pm * (1073741824 * ((g + 1) * v1)) := Int.mul_le_mul_of_nonneg_left (by omega) (by omega)
    have c5 : Pm * (u2 + 1073741824 * hd + 1) ≤ Pm * (1073741824 * (hd + 1)) := Int.mul_le_mul_of_nonneg_left (by omega) (by omega)
    omega
  -- how great g may be
  have hgb : g ≤ 1073741825 := by
    rcases Int.lt_or_le 1073741825 g with k | k
    · have c1 : 1073741826 * v1 ≤ g * v1 := Int.mul_le_mul_of_nonneg_right (by omega) (by omega)
      have c2 : Pm * (u2 + 1073741824 * (1073741826 * v1)) ≤ Pm * (u2 + 1073741824 * hd) := Int.mul_le_mul_of_nonneg_left (by omega) (by omega)
      have e2 : 1073741824 * (Pm * (v2 + 1073741824 * v1 + 1)) = Pm * (1073741824 * (v2 + 1073741824 * v1 + 1)) := by rw [Int.mul_left_comm]
      have e3 : Pm * (1073741824 * (v2 + 1073741824 * v1 + 1)) ≤ Pm * (u2 + 1073741824 * (1073741826 * v1)) := Int.mul_le_mul_of_nonneg_left (by omega) (by omega)
      omega
    · exact k
  refine ⟨hI, by omega, hgb, ?_⟩
  -- g V < Pm (B g v1 + g (v2 + 1)) <= U + ..
  have d1 : g * V ≤ g * (Pm * (v2 + 1073741824 * v1 + 1)) := Int.mul_le_mul_of_nonneg_left (by omega) b4
  have d2 : g * (Pm * (v2 + 1073741824 * v1 + 1)) = Pm * (g * (v2 + 1) + 1073741824 * (g * v1)) := by
    rw [Int.mul_left_comm, show v2 + 1073741824 * v1 + 1 = (v2 + 1) + 1073741824 * v1 by omega, Int.mul_add, Int.mul_left_comm g]
  have d3 : (g - 2) * V = g * V - 2 * V := by rw [Int.sub_mul]
  rcases Int.lt_or_le 1073741824 g with k | k
  · have hg : g = 1073741825 := by omega
    subst hg
    -- (B - 1) V <= U
    have f1 : 1073741823 * V ≤ 1073741823 * (Pm * (v2 + 1073741824 * v1 + 1)) := Int.mul_le_mul_of_nonneg_left (by omega) (by omega)
    have f2 : 1073741823 * (Pm * (v2 + 1073741824 * v1 + 1)) = Pm * (1073741823 * (v2 + 1073741824 * v1 + 1)) := by rw [Int.mul_left_comm]
    have f3 : Pm * (1073741823 * (v2 + 1073741824 * v1 + 1)) ≤ Pm * (u2 + 1073741824 * hd) := Int.mul_le_mul_of_nonneg_left (by omega) (by omega)
    omega
  · have f0 : g * (v2 + 1) ≤ g * 1073741824 := Int.mul_le_mul_of_nonneg_left (by omega) b4
    have f1 : Pm * (g * (v2 + 1) + 1073741824 * (g * v1)) ≤ Pm * (1073741824 * g + 1073741824 * hd) := Int.mul_le_mul_of_nonneg_left (by omega) (by omega)
    have f2 : Pm * (1073741824 * g + 1073741824 * hd) = Pm * (1073741824 * g) + Pm * (1073741824 * hd) := Int.mul_add ..
    have f2b : Pm * (1073741824 * hd) ≤ Pm * (u2 + 1073741824 * hd) := Int.mul_le_mul_of_nonneg_left (by omega) (by omega)
    have f3 : Pm * (1073741824 * g) ≤ Pm * 1152921504606846976 := Int.mul_le_mul_of_nonneg_left (by omega) (by omega)
    omega
theorem gs_step {L Lv u2 hd v1 v2 Pm U V g w : Int} (h : gsH L Lv u2 hd v1 v2 Pm U V) (hI : gsI hd v1 U V g w) (ht : 1073741824 ≤ g ∨ w * 1073741824 + u2 < g * v2) : gsI hd v1 U V (g - 1) (w + v1) := by
  have hV := gsV h
  have hU := gsU h
  obtain ⟨a1, a2, a3, a4, a5, a6, a7, a8, a9, a10, a11, a12, a13, a14⟩ := id h
  obtain ⟨b1, b2, b3, b4⟩ := hI
  have hlt : U < g * V := by
    rcases ht with ht | ht
    · have : 1073741824 * V ≤ g * V := Int.mul_le_mul_of_nonneg_right ht (by omega)
      omega
    · have c1 : g * (Pm * (v2 + 1073741824 * v1)) ≤ g * V := Int.mul_le_mul_of_nonneg_left hV.2.2.1 b4
      have c2 : g * (Pm * (v2 + 1073741824 * v1)) = Pm * (g * v2 + 1073741824 * (g * v1)) := by rw [Int.mul_left_comm, Int.mul_add, Int.mul_left_comm g]
      have c3 : Pm * (u2 + 1073741824 * hd + 1) ≤ Pm * (g * v2 + 1073741824 * (g * v1)) := Int.mul_le_mul_of_nonneg_left (by omega) (by omega)
      omega
  have hg1 : 1 ≤ g := by
    rcases Int.lt_or_le 0 g with k | k
    · omega
    · have : g = 0 := by omega
      subst this
      rw [Int.zero_mul] at hlt
      have : 0 ≤ Pm * (u2 + 1073741824 * hd) := Int.mul_nonneg (by omega) (by omega)
      omega
  refine ⟨?_, by omega, by rw [Int.sub_add_cancel]; exact hlt, by omega⟩
  rw [Int.sub_mul, Int.one_mul]
  omega
theorem gs_end {L Lv u2 hd v1 v2 Pm U V g w : Int} (h : gsH L Lv u2 hd v1 v2 Pm U V) (hI : gsI hd v1 U V g w) (hg : g ≤ 1073741824) (ht : 1073741824 ≤ w ∨ g * v2 ≤ w * 1073741824 + u2) : (g - 1) * V ≤ U := by
  have hV := gsV h
  have hU := gsU h
  obtain ⟨a1, a2, a3, a4, a5, a6, a7, a8, a9, a10, a11, a12, a13, a14⟩ := id h
  obtain ⟨b1, b2, b3, b4⟩ := hI
  have d1 : g * V ≤ g * (Pm * (v2 + 1073741824 * v1 + 1)) := Int.mul_le_mul_of_nonneg_left (by omega) b4
  have d0 : g * (v2 + 1 + 1073741824 * v1) = g * v2 + g + 1073741824 * (g * v1) := by rw [Int.mul_add, Int.mul_add, Int.mul_one, Int.mul_left_comm g]
  have d2 : g * (Pm * (v2 + 1073741824 * v1 + 1)) = Pm * (g * v2 + g + 1073741824 * (g * v1)) := by
    rw [Int.mul_left_comm, show v2 + 1073741824 * v1 + 1 = v2 + 1 + 1073741824 * v1 by omega, d0]
  have d3 : (g - 1) * V = g * V - V := by rw [Int.sub_mul, Int.one_mul]
  have f3 : Pm * g ≤ Pm * 1073741824 := Int.mul_le_mul_of_nonneg_left (by omega) (by omega)
  rcases ht with ht | ht
  · have f0 : g * v2 ≤ g * 1073741823 := Int.mul_le_mul_of_nonneg_left (by omega) b4
    have f1 : Pm * (g * v2 + g + 1073741824 * (g * v1)) ≤ Pm * (u2 + 1073741824 * hd) := Int.mul_le_mul_of_nonneg_left (by omega) (by omega)
    omega
  · have f1 : Pm * (g * v2 + g + 1073741824 * (g * v1)) ≤ Pm * (u2 + 1073741824 * hd) + Pm * g := by
      rw [← Int.mul_add]
      exact Int.mul_le_mul_of_nonneg_left (by omega) (by omega)
    omega
end BGQ
