/-! Case: bend. -/
theorem ix_lt {i r n j : Nat} (hi : i < r) (hj : j < n) : i * n + j < r * n := by
  have := Nat.mul_le_mul_right n (show i + 1 ≤ r from hi)
  rw [Nat.succ_mul] at this
  omega
theorem ix_nn {r n : Nat} (hr : r < n) (h6 : n ≤ 6) : r * n + n ≤ n * n ∧ n * n ≤ 36 := by
  have h1 := Nat.mul_le_mul_right n (show r + 1 ≤ n from hr)
  have h2 := Nat.mul_le_mul h6 h6
  rw [Nat.succ_mul] at h1
  exact ⟨h1, h2⟩
/-- what is told, place by place -/
def xbT (n : Nat) (D : Nat → Int) (R : Nat → Nat → Int) (k : Nat) : Int := if k < n then D k else R ((k - n) / n) ((k - n) % n)
theorem xbT_d {n k : Nat} {D : Nat → Int} {R : Nat → Nat → Int} (h : k < n) : xbT n D R k = D k := if_pos h
theorem xbT_r {n i j : Nat} {D : Nat → Int} {R : Nat → Nat → Int} (h : j < n) : xbT n D R (n + i * n + j) = R i j := by
  have e : n + i * n + j - n = j + n * i := by rw [Nat.mul_comm n i]; omega
  unfold xbT
  rw [if_neg (by omega), e, Nat.add_mul_div_left _ _ (by omega), Nat.add_mul_mod_self_left, Nat.div_eq_of_lt h, Nat.mod_eq_of_lt h, Nat.zero_add]
theorem iv_bend_ok : iv_bend INV := fun Z x1 hI => by
  obtain ⟨m, a1, a2, a3, a4⟩ := id hI.2.1
  have hx := i32r x1
  refine mje_126 (d := 9) (fc_tableAt (d := 8) a2 a1 hx (fun h => ?_) fun t ht htm => ?_)
  · refine mje_229 (d := 9) (fm_isTable (d := 7) a3 a1 hx ?_)
    rw [if_neg h]
    exact ⟨by omega, fun g => absurd rfl g, fun _ => ⟨rfl, hI⟩⟩
  · rw [ht]
    refine fw_way hI a1 a4 htm fun Z1 n T D R E e3 => ?_
    obtain ⟨h1, h2, h3, h4, h5, h6, h7, h8, h9, h10, h11, h12, h13, h14⟩ := id E
    rw [h10]
    have nn : n * n ≤ 36 := (ix_nn (r := 0) (by omega) h2).2
    -- the reference
    have ref : ∀ (Zc : mjZ), clR Z1 (n + n * n) Zc (xbT n D R) → mjW1 10 229 [yR 11 464, yI (t : Int)] Zc (fun z' Z2 => Int32.ofInt z' = Int32.ofInt ((n + n * n : Nat) : Int) ∧ INV Z2) := fun Zc C => by
      obtain ⟨c1, c2, c3, c4⟩ := id C
      refine mje_229 (d := 9) (fm_isTable (d := 7) (m := m) (by rw [c1 464 (by decide) (by decide), e3]; exact a3) a1 (by omega) ?_)
      rw [if_pos (by omega)]
      refine ⟨by omega, fun _ => ?_, fun k => by omega⟩
      refine fm_way E (c1 469 (by decide) (by decide)) (c1 470 (by decide) (by decide)) fun Zd s1 s2 s3 => ⟨by omega, by omega, ?_⟩
      have en : Zd 469 (t : Int).toNat = (n : Int) := by
        show Zd 469 t = _
        rw [s1.1 469 (by decide) (by decide) (by decide) (by decide), c1 469 (by decide) (by decide)]
        exact h11
      rw [en]
      refine mje_202 (d := 8) ?_
      refine lp_inv (n := n) (a := mjUp Zd 464 18 0) (L := fun r Zr => mjL_229_29 9 (t : Int) (n : Int) r Zr _) (Y := fun r Zr => tlR Zd r Zr (xbT n D R)) (fun r Zr hr hy hL => ?_) (fun Zr hy => ?_) tl_start
      · refine mjl_229_29 ?_
        rw [show 106 + (r : Int) = ((106 + r : Nat) : Int) by omega]
        refine ⟨by omega, by omega, fun g => by omega, fun _ => ?_⟩
        exact tl_step (d := 8) (q := fun Z' => mjL_229_29 9 (t : Int) (n : Int) (r + 1) Z' _) hy (by omega) (by omega) (by rw [xbT_d hr]; exact s3 r hr) fun Z' h => hL Z' h
      · refine mjl_229_29 ⟨by omega, by omega, fun _ => ?_, fun g => by omega⟩
        refine lp_inv (n := n) (a := Zr) (L := fun r Zr => mjL_229_64 9 (t : Int) (n : Int) r Zr _) (Y := fun r Zr => tlR Zd (n + r * n) Zr (xbT n D R)) (fun r Zr hr hy hL => ?_) (fun Zr hy => ?_) (by rw [Nat.zero_mul]; exact hy)
        · have rn := (ix_nn hr h2).1
          refine mjl_229_64 ⟨by omega, by omega, fun g => by omega, fun _ => ?_⟩
          refine lp_inv (n := n) (a := Zr) (L := fun j Zr => mjL_229_72 9 (t : Int) (n : Int) r j Zr _) (Y := fun j Zr => tlR Zd (n + r * n + j) Zr (xbT n D R)) (fun j Zs hj hz hL2 => ?_) (fun Zs hz => ?_) hy
          · refine mjl_229_72 ?_
            rw [show (48 + (6 * (r : Int))) + (j : Int) = ((48 + 6 * r + j : Nat) : Int) by omega]
            refine ⟨by omega, by omega, fun g => by omega, fun _ => ?_⟩
            exact tl_step (d := 8) (q := fun Z' => mjL_229_72 9 (t : Int) (n : Int) r (j + 1) Z' _) hz (by omega) (by omega) (by rw [xbT_r hj]; exact s2 r j hr hj) fun Z' h => hL2 Z' h
          · refine mjl_229_72 ⟨by omega, by omega, fun _ => hL Zs ?_, fun g => by omega⟩
            rw [Nat.succ_mul, ← Nat.add_assoc]
            exact hz
        · refine mjl_229_64 ⟨by omega, by omega, fun _ => ⟨by rw [hy.2.2.1], INV_tell h1 (by omega) C s1 hy⟩, fun g => by omega⟩
    refine lp_inv (n := n) (a := Z1) (L := fun r Zr => mjL_126_29 9 (t : Int) (n : Int) r Zr _) (Y := fun r Zr => wcS (fun a => 156 ≤ a ∧ a < 252) Z1 Zr ∧ (∀ i, i < r → bgIs 12 Zr (156 + 2 * i) (D i)) ∧ ∀ i j, i < r → j < n → bgIs 12 Zr (156 + 2 * (n + i * n + j)) (R i j)) (fun r Zr hr hy hL => ?_) (fun Zr hy => ?_) ⟨wcS.rf, fun i hi => by omega, fun i j hi => by omega⟩
    · obtain ⟨y1, y2, y3⟩ := hy
      have rn := (ix_nn hr h2).1
      have ex : (n : Int) + (r : Int) * (n : Int) = ((n + r * n : Nat) : Int) := by rw [Int.natCast_add, Int.natCast_mul]
      refine mjl_126_29 ?_
      rw [ex, show 344 + 19 + 4 * r = 363 + 4 * r by omega, show 155 + 1 + 2 * r = 156 + 2 * r by omega]
      refine ⟨by omega, by omega, fun g => by omega, fun _ => ⟨by omega, by omega, by omega, ?_⟩⟩
      have st := (h9 r hr).S y1 (by omega) (by omega)
      refine bg_copy (d := 7) (bgR12 (by omega)) (wB_str (k := r) (by omega)).1 (by unfold bgX; omega) st st.lt fun Z6 b1 b2 => ?_
      have o6 : wcS (fun a => 156 ≤ a ∧ a < 252) Z1 Z6 := y1.tr (b1.S (by omega) (by omega))
      refine fw_copyRow (d := 6) (R := R) h2 hr (by omega) (by rw [o6 342 (by omega)]; exact h6) (h7.g (o6 343 (by omega))) (fun l j hl hj => ?_) fun Z7 f1 f2 => hL Z7 ⟨o6.tr (f1.mono fun a ha => by omega), fun i hi => ?_, fun i j hi hj => ?_⟩
      · obtain ⟨k, k1, k2, k3, k4⟩ := h7.at' (m := 6 * l + j) (by omega)
        rw [o6 343 (by omega)]
        exact (h8 l j hl hj).S o6 (by omega) (by omega)
      · have g6 : bgIs 12 Z6 (156 + 2 * i) (D i) := by
          rcases Nat.lt_or_ge i r with g | g
          · exact (y2 i g).O b1 (by unfold bgX; omega)
          · rw [show i = r by omega]
            exact b2
        exact g6.S f1 (by omega) (by omega)
      · rcases Nat.lt_or_ge i r with g | g
        · have := ix_lt g hj
          exact ((y3 i j g hj).O b1 (by unfold bgX; omega)).S f1 (by omega) (by omega)
        · rw [show i = r by omega]
          exact f2 j hj
    · obtain ⟨y1, y2, y3⟩ := hy
      have ex : (n : Int) + (n : Int) * (n : Int) = ((n + n * n : Nat) : Int) := by rw [Int.natCast_add, Int.natCast_mul]
      refine mjl_126_29 ?_
      rw [ex, mjUp_at]
      refine ⟨by omega, by omega, fun _ => ref _ ⟨fun c g1 g2 => by rw [mjUp_nc g1, y1 c (by omega)], fun k hk => ?_, mjUp_at, fun k hk => ?_⟩, fun g => by omega⟩
      · show (if 0 = 0 ∧ k = 4 then _ else Zr 0 k) = _
        rw [if_neg fun c => hk c.2, y1 0 (by omega)]
      · have up : ∀ v, bgIs 12 Zr (156 + 2 * k) v → bgIs 12 (mjUp Zr 0 4 ((n + n * n : Nat) : Int)) (156 + 2 * k) v := fun v h => bgIs_congr h (mjUp_nc (by omega)) (mjUp_nc (by omega))
        refine up _ ?_
        rcases Nat.lt_or_ge k n with g | g
        · rw [xbT_d g]
          exact y2 k g
        · have hd := Nat.div_add_mod (k - n) n
          have hm := Nat.mod_lt (k - n) (show 0 < n by omega)
          have hq : (k - n) / n < n := Nat.div_lt_of_lt_mul (by omega)
          have ek : k = n + (k - n) / n * n + (k - n) % n := by rw [Nat.mul_comm ((k - n) / n) n]; omega
          have := y3 ((k - n) / n) ((k - n) % n) hq hm
          rw [← ek] at this
          have e : xbT n D R k = R ((k - n) / n) ((k - n) % n) := if_neg (by omega)
          rw [e]
          exact this
