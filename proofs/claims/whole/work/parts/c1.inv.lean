/-! The invariant of the cells: what class and reference hold, alike. -/
/-- a word is no NaN of its lane -/
def nnW (a w : Int) : Prop := ¬ (a = 2 ∧ 2139095040 < w % 2147483648) ∧ ¬ (a = 3 ∧ 9218868437227405312 < w % 9223372036854775808)
def ivLeaf (Z : mjZ) (l : Nat) : Prop := Z (2 + 2 * l) 1 = Z 465 l ∧ -1 ≤ Z 465 l ∧ Z 465 l ≤ 8 ∧ (0 ≤ Z 465 l → Z (2 + 2 * l) 0 = Z 466 l ∧ 0 ≤ Z 466 l ∧ Z 466 l ≤ 3 ∧ ∀ i, i < 8 → (-9223372036854775808 ≤ Z (3 + 2 * l) i ∧ Z (3 + 2 * l) i < 9223372036854775808) ∧ Z 467 (8 * l + i) = (if Z 466 l = 0 ∨ Z 466 l = 2 then mjL2I (Z (3 + 2 * l) i) else Z (3 + 2 * l) i) ∧ nnW (Z 466 l) (Z (3 + 2 * l) i))
def tFlow (n : Nat) (T : Nat → Nat → Int) : Prop := ∃ N : Nat → Nat → Int, tSym n N ∧ tLines n N ∧ ¬ tSlant n N ∧ ∀ i k, i < n → k < n → T i k = if i = k then fo (fun j s => s + N i j) n 0 else -(N i k)
def ivTab (Z : mjZ) (t : Nat) : Prop := ∃ n : Nat, tN Z (35 + 2 * t) n ∧ Z 469 t = n ∧ Z 468 t = Z (35 + 2 * t) 1 ∧ (∀ i k, i < n → k < n → tE Z (35 + 2 * t) i k = Z 470 (36 * t + 6 * i + k) ∧ -100 ≤ tE Z (35 + 2 * t) i k ∧ tE Z (35 + 2 * t) i k ≤ 100) ∧ tSym n (tE Z (35 + 2 * t)) ∧ (∀ j, j < 36 → ¬ (j / 6 < n ∧ j % 6 < n) → Z 470 (36 * t + j) = 0) ∧ (tKind n (tE Z (35 + 2 * t)) (Z (35 + 2 * t) 1) ∨ Z (35 + 2 * t) 1 = 4 ∧ tFlow n (tE Z (35 + 2 * t)))
/-- a register of limbs that is the number v -/
def lbIs (Z : mjZ) (r : Nat) (v : Int) : Prop := ∃ n : Nat, n ≤ 24 ∧ Z 475 r = n ∧ bgD (fun k => Z 474 (24 * r + k)) 0 n ∧ (0 < n → Z 474 (24 * r + (n - 1)) ≠ 0) ∧ (Z 476 r = -1 ∨ Z 476 r = 0 ∨ Z 476 r = 1) ∧ (Z 476 r = 0 ↔ n = 0) ∧ v = Z 476 r * bgS (fun k => Z 474 (24 * r + k)) 0 n
def ivL (Z : mjZ) : Prop := ∀ l, l < 16 → ivLeaf Z l
def ivT (Z : mjZ) : Prop := ∃ m : Nat, m ≤ 60 ∧ Z 0 2 = m ∧ Z 464 3 = m ∧ ∀ t, t < m → ivTab Z t
def ivR (Z : mjZ) : Prop := ∃ m : Nat, m ≤ 48 ∧ Z 0 4 = m ∧ Z 464 18 = m ∧ ∀ i, i < m → ∃ v, bgIs 12 Z (156 + 2 * i) v ∧ lbIs Z i v
def ivM (Z : mjZ) : Prop := Z 0 7 = Z 464 8 ∧ Z 0 8 = Z 464 9 ∧ (∀ f, f < 9 → Z 253 f = Z 472 f) ∧ Z 0 10 = Z 464 11
def ivB (Z : mjZ) : Prop := Z 0 6 = Z 464 13 ∧ 0 ≤ Z 0 6 ∧ Z 0 6 ≤ 3 ∧ ∀ k : Nat, (k : Int) < Z 0 6 → Z 252 k = Z 473 k
/-- three rows, powers' rows, the dividers' own numbers, the rows of the way: references that change places; and the primes -/
def ivA (Z : mjZ) : Prop := (∃ a b c : Nat, Z 254 5 = (a : Int) ∧ Z 254 6 = (b : Int) ∧ Z 254 7 = (c : Int) ∧ (a = 266 ∨ a = 281 ∨ a = 296) ∧ (b = 266 ∨ b = 281 ∨ b = 296) ∧ (c = 266 ∨ c = 281 ∨ c = 296) ∧ a ≠ b ∧ a ≠ c ∧ b ≠ c)
  ∧ (Z 263 1 = 264 ∧ Z 263 2 = 265 ∨ Z 263 1 = 265 ∧ Z 263 2 = 264) ∧ (Z 460 1 = 461 ∧ Z 460 2 = 462 ∨ Z 460 1 = 462 ∧ Z 460 2 = 461) ∧ (∃ o t r, dvT 315 Z o t r) ∧ (∃ o t r, dvT 354 Z o t r)
  ∧ ((∀ j, j < 36 → ∃ k : Nat, k < 36 ∧ Z 343 j = 387 + 2 * k) ∧ ∀ i j, i < 36 → j < 36 → Z 343 i = Z 343 j → i = j)
  ∧ (∀ q, q < 24 → Z 481 q = [2147483647, 2147483629, 2147483587, 2147483579, 2147483563, 2147483549, 2147483543, 2147483497, 2147483489, 2147483477, 2147483423, 2147483399, 2147483353, 2147483323, 2147483269, 2147483249, 2147483237, 2147483179, 2147483171, 2147483137, 2147483123, 2147483077, 2147483069, 2147483059].getD q (0 : Int))
def INV (Z : mjZ) : Prop := ivL Z ∧ ivT Z ∧ ivR Z ∧ ivM Z ∧ ivB Z ∧ ivA Z
section IVF
variable {Z Z' : mjZ}
theorem ivLeaf.fr {l : Nat} (h : ivLeaf Z l) (h0 : Z' (2 + 2 * l) = Z (2 + 2 * l)) (h1 : Z' (3 + 2 * l) = Z (3 + 2 * l)) (h2 : Z' 465 l = Z 465 l) (h3 : Z' 466 l = Z 466 l) (h4 : ∀ i, i < 8 → Z' 467 (8 * l + i) = Z 467 (8 * l + i)) : ivLeaf Z' l := by
  unfold ivLeaf at h ⊢
  rw [h0, h1, h2, h3]
  obtain ⟨a, b, c, d⟩ := h
  exact ⟨a, b, c, fun g => ⟨(d g).1, (d g).2.1, (d g).2.2.1, fun i hi => by rw [h4 i hi]; exact (d g).2.2.2 i hi⟩⟩
theorem ivL.fr (h : ivL Z) (h0 : ∀ c, 2 ≤ c → c < 34 → Z' c = Z c) (h2 : Z' 465 = Z 465) (h3 : Z' 466 = Z 466) (h4 : Z' 467 = Z 467) : ivL Z' := fun l hl => (h l hl).fr (h0 _ (by omega) (by omega)) (h0 _ (by omega) (by omega)) (by rw [h2]) (by rw [h3]) (fun i _ => by rw [h4])
theorem ivTab.fr {t : Nat} (h : ivTab Z t) (h0 : Z' (35 + 2 * t) = Z (35 + 2 * t)) (h1 : Z' (35 + 2 * t + 1) = Z (35 + 2 * t + 1)) (h2 : Z' 468 t = Z 468 t) (h3 : Z' 469 t = Z 469 t) (h4 : ∀ j, j < 36 → Z' 470 (36 * t + j) = Z 470 (36 * t + j)) : ivTab Z' t := by
  obtain ⟨n, a1, a2, a3, a4, a5, a6, a7⟩ := h
  have eT : tE Z' (35 + 2 * t) = tE Z (35 + 2 * t) := by
    funext i k
    show Z' (35 + 2 * t + 1) _ = Z (35 + 2 * t + 1) _
    rw [h1]
  refine ⟨n, ?_, by rw [h3]; exact a2, by rw [h2, h0]; exact a3, fun i k hi hk => ?_, by rw [eT]; exact a5, fun j hj hn => by rw [h4 j hj]; exact a6 j hj hn, by rw [eT, h0]; exact a7⟩
  · unfold tN at a1 ⊢
    rw [h0]
    exact a1
  · have hn6 := a1.2.2
    rw [eT, Nat.add_assoc, h4 _ (by omega), ← Nat.add_assoc]
    exact a4 i k hi hk
theorem ivT.fr (h : ivT Z) (h0 : ∀ c, 34 ≤ c → c < 155 → Z' c = Z c) (hm : Z' 0 2 = Z 0 2) (hm2 : Z' 464 3 = Z 464 3) (h2 : Z' 468 = Z 468) (h3 : Z' 469 = Z 469) (h4 : Z' 470 = Z 470) : ivT Z' := by
  obtain ⟨m, a1, a2, a3, a4⟩ := h
  exact ⟨m, a1, by rw [hm]; exact a2, by rw [hm2]; exact a3, fun t ht => (a4 t ht).fr (h0 _ (by omega) (by omega)) (h0 _ (by omega) (by omega)) (by rw [h2]) (by rw [h3]) (fun j _ => by rw [h4])⟩
theorem lbIs.fr {r : Nat} {v : Int} (h : lbIs Z r v) (h0 : ∀ k, k < 24 → Z' 474 (24 * r + k) = Z 474 (24 * r + k)) (h1 : Z' 475 r = Z 475 r) (h2 : Z' 476 r = Z 476 r) : lbIs Z' r v := by
  obtain ⟨n, a1, a2, a3, a4, a5, a6, a7⟩ := h
  refine ⟨n, a1, by rw [h1]; exact a2, fun k g1 g2 => ?_, fun g => ?_, by rw [h2]; exact a5, by rw [h2]; exact a6, ?_⟩
  · show 0 ≤ Z' 474 (24 * r + k) ∧ Z' 474 (24 * r + k) < 1073741824
    rw [h0 k (by omega)]
    exact a3 k g1 g2
  · rw [h0 _ (by omega)]; exact a4 g
  · rw [h2, bgS_eq (f := fun k => Z' 474 (24 * r + k)) (g := fun k => Z 474 (24 * r + k)) fun k hk => h0 k (by omega)]
    exact a7
theorem ivR.fr (h : ivR Z) (h0 : ∀ c, 156 ≤ c → c < 252 → Z' c = Z c) (hm : Z' 0 4 = Z 0 4) (hm2 : Z' 464 18 = Z 464 18) (h2 : ∀ k, k < 1152 → Z' 474 k = Z 474 k) (h3 : ∀ k, k < 48 → Z' 475 k = Z 475 k) (h4 : ∀ k, k < 48 → Z' 476 k = Z 476 k) : ivR Z' := by
  obtain ⟨m, a1, a2, a3, a4⟩ := h
  refine ⟨m, a1, by rw [hm]; exact a2, by rw [hm2]; exact a3, fun i hi => ?_⟩
  obtain ⟨v, b1, b2⟩ := a4 i hi
  exact ⟨v, bgIs_congr b1 (h0 _ (by omega) (by omega)) (h0 _ (by omega) (by omega)), b2.fr (fun k hk => h2 _ (by omega)) (h3 i (by omega)) (h4 i (by omega))⟩
theorem ivM.fr (h : ivM Z) (h1 : Z' 0 7 = Z 0 7) (h2 : Z' 0 8 = Z 0 8) (h3 : Z' 0 10 = Z 0 10) (h4 : Z' 464 8 = Z 464 8) (h5 : Z' 464 9 = Z 464 9) (h6 : Z' 464 11 = Z 464 11) (h7 : Z' 253 = Z 253) (h8 : Z' 472 = Z 472) : ivM Z' := by
  unfold ivM at h ⊢
  rw [h1, h2, h3, h4, h5, h6, h7, h8]
  exact h
theorem ivB.fr (h : ivB Z) (h1 : Z' 0 6 = Z 0 6) (h2 : Z' 464 13 = Z 464 13) (h3 : Z' 252 = Z 252) (h4 : Z' 473 = Z 473) : ivB Z' := by
  unfold ivB at h ⊢
  rw [h1, h2, h3, h4]
  exact h
theorem ivA.fr (h : ivA Z) (h1 : ∀ k, 5 ≤ k → k ≤ 7 → Z' 254 k = Z 254 k) (h2 : ∀ k, 1 ≤ k → Z' 263 k = Z 263 k) (h3 : ∀ k, 1 ≤ k → Z' 460 k = Z 460 k) (h4 : Z' 315 = Z 315) (h5 : Z' 354 = Z 354) (h6 : Z' 343 = Z 343) (h7 : Z' 481 = Z 481) : ivA Z' := by
  obtain ⟨⟨a, b, c, a1, a2, a3, a4⟩, b1, b2, ⟨o, t, r, d1⟩, ⟨o2, t2, r2, d2⟩, e1, e2⟩ := h
  refine ⟨⟨a, b, c, by rw [h1 5 (by decide) (by decide)]; exact a1, by rw [h1 6 (by decide) (by decide)]; exact a2, by rw [h1 7 (by decide) (by decide)]; exact a3, a4⟩, by rw [h2 1 (by decide), h2 2 (by decide)]; exact b1, by rw [h3 1 (by decide), h3 2 (by decide)]; exact b2, ⟨o, t, r, d1.cc h4⟩, ⟨o2, t2, r2, d2.cc h5⟩, by rw [h6]; exact e1, by rw [h7]; exact e2⟩
end IVF
/-- a finding, as the class and as the reference tell it -/
def fdC (f : Nat) (Z : mjZ) : mjZ := mjUp (mjUp Z 0 8 (f : Int)) 253 f (Z 253 f + 1)
def fdM (f : Nat) (Z : mjZ) : mjZ := mjUp (mjUp Z 464 9 (f : Int)) 472 f (Z 472 f + 1)
theorem INV_fd {f : Nat} {Z : mjZ} (hf : f < 9) (h : INV Z) : INV (fdM f (fdC f Z)) := by
  obtain ⟨h1, h2, h3, h4, h5, h6⟩ := h
  have e : ∀ c, c ≠ 0 → c ≠ 253 → c ≠ 464 → c ≠ 472 → fdM f (fdC f Z) c = Z c := fun c g1 g2 g3 g4 => by
    unfold fdM fdC
    rw [mjUp_nc g4, mjUp_nc g3, mjUp_nc g2, mjUp_nc g1]
  have e0 : ∀ k, k ≠ 8 → fdM f (fdC f Z) 0 k = Z 0 k := fun k hk => by simp [fdM, fdC, mjUp, hk]
  have e4 : ∀ k, k ≠ 9 → fdM f (fdC f Z) 464 k = Z 464 k := fun k hk => by simp [fdM, fdC, mjUp, hk]
  refine ⟨h1.fr (fun c g1 g2 => e c (by omega) (by omega) (by omega) (by omega)) (e _ (by decide) (by decide) (by decide) (by decide)) (e _ (by decide) (by decide) (by decide) (by decide)) (e _ (by decide) (by decide) (by decide) (by decide)), h2.fr (fun c g1 g2 => e c (by omega) (by omega) (by omega) (by omega)) (e0 2 (by decide)) (e4 3 (by decide)) (e _ (by decide) (by decide) (by decide) (by decide)) (e _ (by decide) (by decide) (by decide) (by decide)) (e _ (by decide) (by decide) (by decide) (by decide)), h3.fr (fun c g1 g2 => e c (by omega) (by omega) (by omega) (by omega)) (e0 4 (by decide)) (e4 18 (by decide)) (fun k _ => by rw [e _ (by decide) (by decide) (by decide) (by decide)]) (fun k _ => by rw [e _ (by decide) (by decide) (by decide) (by decide)]) (fun k _ => by rw [e _ (by decide) (by decide) (by decide) (by decide)]), ?_, h5.fr (e0 6 (by decide)) (e4 13 (by decide)) (e _ (by decide) (by decide) (by decide) (by decide)) (e _ (by decide) (by decide) (by decide) (by decide)), h6.fr (fun k _ _ => by rw [e _ (by decide) (by decide) (by decide) (by decide)]) (fun k _ => by rw [e _ (by decide) (by decide) (by decide) (by decide)]) (fun k _ => by rw [e _ (by decide) (by decide) (by decide) (by decide)]) (e _ (by decide) (by decide) (by decide) (by decide)) (e _ (by decide) (by decide) (by decide) (by decide)) (e _ (by decide) (by decide) (by decide) (by decide)) (e _ (by decide) (by decide) (by decide) (by decide))⟩
  obtain ⟨m1, m2, m3, m4⟩ := h4
  refine ⟨by rw [e0 7 (by decide), e4 8 (by decide)]; exact m1, by simp [fdM, fdC, mjUp], fun g hg => ?_, by rw [e0 10 (by decide), e4 11 (by decide)]; exact m4⟩
  by_cases hgf : g = f
  · subst hgf
    simp [fdM, fdC, mjUp, m3 g hg]
  · simp [fdM, fdC, mjUp, hgf, m3 g hg]
/-- WHERE becomes a place -/
def whC (p : Int) (Z : mjZ) : mjZ := mjUp Z 0 7 p
def whM (p : Int) (Z : mjZ) : mjZ := mjUp Z 464 8 p
theorem INV_wh {p : Int} {Z : mjZ} (h : INV Z) : INV (whM p (whC p Z)) := by
  obtain ⟨h1, h2, h3, h4, h5, h6⟩ := h
  have e : ∀ c, c ≠ 0 → c ≠ 464 → whM p (whC p Z) c = Z c := fun c g1 g3 => by
    unfold whM whC
    rw [mjUp_nc g3, mjUp_nc g1]
  have e0 : ∀ k, k ≠ 7 → whM p (whC p Z) 0 k = Z 0 k := fun k hk => by simp [whM, whC, mjUp, hk]
  have e4 : ∀ k, k ≠ 8 → whM p (whC p Z) 464 k = Z 464 k := fun k hk => by simp [whM, whC, mjUp, hk]
  refine ⟨h1.fr (fun c g1 g2 => e c (by omega) (by omega)) (e _ (by decide) (by decide)) (e _ (by decide) (by decide)) (e _ (by decide) (by decide)), h2.fr (fun c g1 g2 => e c (by omega) (by omega)) (e0 2 (by decide)) (e4 3 (by decide)) (e _ (by decide) (by decide)) (e _ (by decide) (by decide)) (e _ (by decide) (by decide)), h3.fr (fun c g1 g2 => e c (by omega) (by omega)) (e0 4 (by decide)) (e4 18 (by decide)) (fun k _ => by rw [e _ (by decide) (by decide)]) (fun k _ => by rw [e _ (by decide) (by decide)]) (fun k _ => by rw [e _ (by decide) (by decide)]), ?_, h5.fr (e0 6 (by decide)) (e4 13 (by decide)) (e _ (by decide) (by decide)) (e _ (by decide) (by decide)), h6.fr (fun k _ _ => by rw [e _ (by decide) (by decide)]) (fun k _ => by rw [e _ (by decide) (by decide)]) (fun k _ => by rw [e _ (by decide) (by decide)]) (e _ (by decide) (by decide)) (e _ (by decide) (by decide)) (e _ (by decide) (by decide)) (e _ (by decide) (by decide))⟩
  obtain ⟨m1, m2, m3, m4⟩ := h4
  exact ⟨by simp [whM, whC, mjUp], by rw [e0 8 (by decide), e4 9 (by decide)]; exact m2, fun g hg => by rw [e _ (by decide) (by decide), e _ (by decide) (by decide)]; exact m3 g hg, by rw [e0 10 (by decide), e4 11 (by decide)]; exact m4⟩
section IVH
variable {d : Nat} {Z : mjZ}
theorem fc_found {f : Nat} {q : Int → mjZ → Prop} (hf : f < 9) (hq : q (-10 - (f : Int)) (fdC f Z)) : mjW1 (d + 1) 15 [yR 10 0, yI (f : Int)] Z q := by
  have h9 : mjNn 10009 253 = 9 := rfl
  have e : mjUp Z 0 8 (f : Int) 253 f = Z 253 f := by rw [mjUp_nc (by decide)]
  refine mje_15 ⟨by omega, fun h => by omega, fun _ => ⟨by omega, fun h => by omega, fun _ => ⟨by omega, by omega, ?_⟩⟩⟩
  rw [show ((f : Int)).toNat = f from rfl, e]
  exact hq
theorem fc_foundAt {f : Nat} {p : Int} {q : Int → mjZ → Prop} (hf : f < 9) (hq : q (-10 - (f : Int)) (fdC f (whC p Z))) : mjW1 (d + 2) 28 [yR 10 0, yI (f : Int), yI p] Z q := mje_28 (d := d + 1) (fc_found hf hq)
theorem fm_finds {f : Nat} {q : Int → mjZ → Prop} (hf : f < 9) (hq : q (-10 - (f : Int)) (fdM f Z)) : mjW1 (d + 1) 170 [yR 11 464, yI (f : Int)] Z q := by
  have e : mjUp Z 464 9 (f : Int) 472 f = Z 472 f := by rw [mjUp_nc (by decide)]
  refine mje_170 ⟨by omega, by omega, ?_⟩
  rw [show ((f : Int)).toNat = f from rfl, e]
  exact hq
theorem fm_findsAt {f : Nat} {p : Int} {q : Int → mjZ → Prop} (hf : f < 9) (hq : q (-10 - (f : Int)) (fdM f (whM p Z))) : mjW1 (d + 2) 175 [yR 11 464, yI (f : Int), yI p] Z q := mje_175 (d := d + 1) (fm_finds hf hq)
theorem fc_leafAt {l : Int} {q0 : mjZ → Prop} {q : Nat → mjZ → Prop} (hl : -2147483648 ≤ l ∧ l < 2147483648) (h0 : ¬ (0 ≤ l ∧ l < 16) → q0 Z) (h1 : ∀ n : Nat, l = n → n < 16 → q (2 + 2 * n) Z) : mjW4 2 (d + 1) 13 [yR 10 0, yI l] Z q0 q := by
  refine mje_13 ⟨hl, fun h => h0 (by omega), fun h => ⟨fun g => h0 (by omega), fun g => ⟨by omega, by omega, ?_⟩⟩⟩
  have := h1 l.toNat (by omega) (by omega)
  rw [show 1 + 1 + 2 * l.toNat = 2 + 2 * l.toNat by omega]
  exact this
theorem fc_tableAt {t : Int} {m : Nat} {q0 : mjZ → Prop} {q : Nat → mjZ → Prop} (hm : Z 0 2 = (m : Int)) (h60 : m ≤ 60) (ht : -2147483648 ≤ t ∧ t < 2147483648) (h0 : ¬ (0 ≤ t ∧ t < m) → q0 Z) (h1 : ∀ n : Nat, t = n → n < m → q (35 + 2 * n) Z) : mjW4 6 (d + 1) 48 [yR 10 0, yI t] Z q0 q := by
  refine mje_48 ⟨ht, fun h => h0 (by omega), fun h => ⟨by omega, fun g => h0 (by omega), fun g => ⟨fun g2 => h0 (by omega), fun g2 => ⟨by omega, by omega, ?_⟩⟩⟩⟩
  have := h1 t.toNat (by omega) (by omega)
  rw [show 34 + 1 + 2 * t.toNat = 35 + 2 * t.toNat by omega]
  exact this
theorem fm_in {v a b : Int} {q : Int → mjZ → Prop} (hv : -2147483648 ≤ v ∧ v < 2147483648) (ha : -2147483648 ≤ a ∧ a < 2147483648) (hb : -2147483648 ≤ b ∧ b < 2147483648) (hq : q (if a ≤ v ∧ v ≤ b then 1 else 0) Z) : mjW1 (d + 1) 169 [yI v, yI a, yI b] Z q := by
  refine mje_169 ⟨hv, ha, fun h => ?_, fun h => ⟨hb, fun g => ?_, fun g => ?_⟩⟩
  · rw [if_neg (by omega)] at hq; exact hq
  · rw [if_neg (by omega)] at hq; exact hq
  · rw [if_pos (by omega)] at hq; exact hq
theorem fm_isLeaf {l : Int} {q : Int → mjZ → Prop} (hl : -2147483648 ≤ l ∧ l < 2147483648) (hq : q (if 0 ≤ l ∧ l < 16 then 1 else 0) Z) : mjW1 (d + 2) 168 [yI l] Z q := by
  refine mje_168 (d := d + 1) (fm_in hl (by omega) (by omega) ?_)
  by_cases h : 0 ≤ l ∧ l < 16
  · rw [if_pos h] at hq
    rw [if_pos (by omega)]
    exact ⟨by omega, hq⟩
  · rw [if_neg h] at hq
    rw [if_neg (by omega)]
    exact ⟨by omega, hq⟩
theorem fm_isTable {t : Int} {m : Nat} {q : Int → mjZ → Prop} (hm : Z 464 3 = (m : Int)) (h60 : m ≤ 60) (ht : -2147483648 ≤ t ∧ t < 2147483648) (hq : q (if 0 ≤ t ∧ t < m then 1 else 0) Z) : mjW1 (d + 2) 181 [yR 11 464, yI t] Z q := by
  refine mje_181 (d := d + 1) ?_
  rw [hm]
  refine fm_in ht (by omega) (by omega) ?_
  by_cases h : 0 ≤ t ∧ t < m
  · rw [if_pos h] at hq
    rw [if_pos (by omega)]
    exact ⟨by omega, hq⟩
  · rw [if_neg h] at hq
    rw [if_neg (by omega)]
    exact ⟨by omega, hq⟩
theorem fm_isPlace {t n : Nat} {i : Int} {q : Int → mjZ → Prop} (ht : t < 60) (hn : Z 469 t = (n : Int)) (hn6 : n ≤ 6) (hi : -2147483648 ≤ i ∧ i < 2147483648) (hq : q (if 0 ≤ i ∧ i < n then 1 else 0) Z) : mjW1 (d + 2) 185 [yR 11 464, yI (t : Int), yI i] Z q := by
  refine mje_185 (d := d + 1) ⟨by omega, by omega, ?_⟩
  rw [show ((t : Int)).toNat = t from rfl, hn]
  refine fm_in hi (by omega) (by omega) ?_
  by_cases h : 0 ≤ i ∧ i < n
  · rw [if_pos h] at hq
    rw [if_pos (by omega)]
    exact ⟨by omega, hq⟩
  · rw [if_neg h] at hq
    rw [if_neg (by omega)]
    exact ⟨by omega, hq⟩
theorem fm_number {t i k : Nat} {q : Int → mjZ → Prop} (ht : t < 60) (hi : i < 6) (hk : k < 6) (hq : q (Z 470 (36 * t + 6 * i + k)) Z) : mjW1 (d + 1) 186 [yR 11 464, yI (t : Int), yI (i : Int), yI (k : Int)] Z q := by
  refine mje_186 ⟨by omega, by omega, ?_⟩
  rw [show (((36 * (t : Int)) + (6 * (i : Int))) + (k : Int)).toNat = 36 * t + 6 * i + k by omega]
  exact hq
end IVH
/-! The cases that only tell. -/
theorem i32r (x : Int32) : -2147483648 ≤ x.toInt ∧ x.toInt < 2147483648 := ⟨Int32.le_toInt x, Int32.toInt_lt x⟩
theorem iv_where_ok : iv_where INV := fun Z hI => mje_46 (mje_179 ⟨by rw [hI.2.2.2.1.1], hI⟩)
theorem iv_seen_ok : iv_seen INV := fun Z hI => mje_121 (mje_227 ⟨by rw [hI.2.2.2.1.2.2.2], hI⟩)
theorem iv_results_ok : iv_results INV := fun Z hI => by
  obtain ⟨m, a1, a2, a3, a4⟩ := hI.2.2.1
  exact mje_152 (mje_251 ⟨by rw [a2, a3], hI⟩)
theorem iv_finding_ok : iv_finding INV := fun Z hI => mje_159 (mje_256 ⟨by rw [hI.2.2.2.1.2.1], hI⟩)
theorem iv_kind_ok : iv_kind INV := fun Z x1 hI => by
  obtain ⟨m, a1, a2, a3, a4⟩ := id hI.2.1
  have hx := i32r x1
  refine mje_47 (d := 9) (fc_tableAt a2 a1 hx (fun h => ?_) fun t ht htm => ?_)
  · refine mje_180 (d := 9) (fm_isTable (d := 7) a3 a1 hx ?_)
    rw [if_neg h]
    exact ⟨by omega, fun _ => ⟨rfl, hI⟩, fun g => by omega⟩
  · obtain ⟨n, b1, b2, b3, -⟩ := a4 t htm
    refine mje_180 (d := 9) (fm_isTable (d := 7) a3 a1 hx ?_)
    rw [if_pos (by omega), ht]
    exact ⟨by omega, fun g => by omega, fun _ => ⟨by omega, by omega, by rw [show ((t : Int)).toNat = t from rfl, b3], hI⟩⟩
theorem iv_size_ok : iv_size INV := fun Z x1 hI => by
  obtain ⟨m, a1, a2, a3, a4⟩ := id hI.2.1
  have hx := i32r x1
  refine mje_49 (d := 9) (fc_tableAt a2 a1 hx (fun h => ?_) fun t ht htm => ?_)
  · refine mje_182 (d := 9) (fm_isTable (d := 7) a3 a1 hx ?_)
    rw [if_neg h]
    exact ⟨by omega, fun _ => ⟨rfl, hI⟩, fun g => by omega⟩
  · obtain ⟨n, b1, b2, b3, -⟩ := a4 t htm
    refine mje_182 (d := 9) (fm_isTable (d := 7) a3 a1 hx ?_)
    rw [if_pos (by omega), ht]
    exact ⟨by omega, fun g => by omega, fun _ => ⟨by omega, by omega, by rw [show ((t : Int)).toNat = t from rfl, b2, b1.1], hI⟩⟩
theorem iv_at_ok : iv_at INV := fun Z x1 x2 x3 hI => by
  obtain ⟨m, a1, a2, a3, a4⟩ := id hI.2.1
  have hx := i32r x1
  have hx2 := i32r x2
  have hx3 := i32r x3
  refine mje_51 (d := 9) (fc_tableAt a2 a1 hx (fun h => ?_) fun t ht htm => ?_)
  · refine mje_184 (d := 9) (fm_isTable (d := 7) a3 a1 hx ?_)
    rw [if_neg h]
    exact ⟨by omega, fun g => absurd rfl g, fun _ => ⟨rfl, hI⟩⟩
  · obtain ⟨n, b1, b2, b3, b4, -⟩ := a4 t htm
    have hn6 := b1.2.2
    have mt : ∀ Z1 q, Z1 464 3 = (m : Int) → q 1 Z1 → mjW1 9 181 [yR 11 464, yI x1.toInt] Z1 q := fun Z1 q g h => fm_isTable (d := 7) g a1 hx (by rw [if_pos (by omega)]; exact h)
    refine tb_has (d := 8) b1 hx2 ?_
    by_cases h2 : 0 ≤ x2.toInt ∧ x2.toInt < n
    · rw [if_pos h2]
      refine ⟨by omega, fun g => by omega, fun _ => tb_has (d := 8) b1 hx3 ?_⟩
      by_cases h3 : 0 ≤ x3.toInt ∧ x3.toInt < n
      · rw [if_pos h3]
        refine ⟨by omega, fun g => by omega, fun _ => ?_⟩
        obtain ⟨i, hi⟩ := Int.eq_ofNat_of_zero_le h2.1
        obtain ⟨k, hk⟩ := Int.eq_ofNat_of_zero_le h3.1
        rw [hi] at h2 hx2 ⊢
        rw [hk] at h3 hx3 ⊢
        refine tb_number (d := 7) b1 (by omega) (by omega) ?_
        refine mje_184 (d := 9) (mt Z _ a3 ⟨by omega, fun _ => ?_, fun g => by omega⟩)
        rw [ht]
        refine fm_isPlace (d := 7) (by omega) b2 hn6 hx2 ?_
        rw [if_pos h2]
        refine ⟨by omega, fun g => by omega, fun _ => fm_isPlace (d := 7) (by omega) b2 hn6 hx3 ?_⟩
        rw [if_pos h3]
        refine ⟨by omega, fun g => by omega, fun _ => fm_number (d := 8) (by omega) (by omega) (by omega) ⟨by rw [(b4 i k (by omega) (by omega)).1], hI⟩⟩
      · rw [if_neg h3]
        refine ⟨by omega, fun _ => fc_found (d := 8) (f := 2) (by omega) ?_, fun g => by omega⟩
        refine mje_184 (d := 9) (mt _ _ (by simp [fdC, mjUp]; exact a3) ⟨by omega, fun _ => ?_, fun g => by omega⟩)
        have e2 : fdC 2 Z 469 t = (n : Int) := by simp [fdC, mjUp]; exact b2
        rw [ht]
        refine fm_isPlace (d := 7) (by omega) e2 hn6 hx2 ?_
        rw [if_pos h2]
        refine ⟨by omega, fun g => by omega, fun _ => fm_isPlace (d := 7) (by omega) e2 hn6 hx3 ?_⟩
        rw [if_neg h3]
        exact ⟨by omega, fun _ => fm_finds (d := 8) (f := 2) (by omega) ⟨rfl, INV_fd (by omega) hI⟩, fun g => by omega⟩
    · rw [if_neg h2]
      refine ⟨by omega, fun _ => fc_found (d := 8) (f := 2) (by omega) ?_, fun g => by omega⟩
      refine mje_184 (d := 9) (mt _ _ (by simp [fdC, mjUp]; exact a3) ⟨by omega, fun _ => ?_, fun g => by omega⟩)
      have e2 : fdC 2 Z 469 t = (n : Int) := by simp [fdC, mjUp]; exact b2
      rw [ht]
      refine fm_isPlace (d := 7) (by omega) e2 hn6 hx2 ?_
      rw [if_neg h2]
      exact ⟨by omega, fun _ => fm_finds (d := 8) (f := 2) (by omega) ⟨rfl, INV_fd (by omega) hI⟩, fun g => by omega⟩
