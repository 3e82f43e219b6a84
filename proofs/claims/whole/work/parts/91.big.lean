/-! Great numbers: contracts of digit, setDigit, trim, become, copy. -/
def mjO1 (c : Nat) (Z Z' : mjZ) : Prop := ∀ a, a ≠ c → Z' a = Z a
def mjO2 (c : Nat) (Z Z' : mjZ) : Prop := ∀ a, a ≠ c → a ≠ c + 1 → Z' a = Z a
def bgR (c R : Nat) : Prop := mjNn 100 (c + 1) = R ∧ 3 ≤ R ∧ R ≤ 40
def bgW (R : Nat) (Z : mjZ) (c n : Nat) : Prop := n ≤ R ∧ Z c 1 = n ∧ bgD (Z (c + 1)) 0 n
/-- a Big of R places that is the number v -/
def bgIs (R : Nat) (Z : mjZ) (c : Nat) (v : Int) : Prop := ∃ n : Nat, bgW R Z c n ∧ (0 < n → Z (c + 1) (n - 1) ≠ 0) ∧ (Z c 0 = -1 ∨ Z c 0 = 0 ∨ Z c 0 = 1) ∧ (Z c 0 = 0 ↔ n = 0) ∧ v = Z c 0 * bgS (Z (c + 1)) 0 n
def bgG (Z : mjZ) (c k : Nat) : Int := if (k : Int) < Z c 1 then Z (c + 1) k else 0
def bgU (R : Nat) (Z : mjZ) (c i : Nat) (x : Int) : mjZ := if i < R then mjUp Z (c + 1) i x else Z
theorem mjO1.rfl' {c : Nat} {Z : mjZ} : mjO1 c Z Z := fun _ _ => rfl
theorem mjO1.trans {c : Nat} {Z Z1 Z2 : mjZ} (h1 : mjO1 c Z Z1) (h2 : mjO1 c Z1 Z2) : mjO1 c Z Z2 := fun a h => (h2 a h).trans (h1 a h)
theorem mjO1.to2 {c : Nat} {Z Z1 : mjZ} (h1 : mjO1 (c + 1) Z Z1) : mjO2 c Z Z1 := fun a _ h => h1 a h
theorem mjO2.rfl' {c : Nat} {Z : mjZ} : mjO2 c Z Z := fun _ _ _ => rfl
theorem mjO2.trans {c : Nat} {Z Z1 Z2 : mjZ} (h1 : mjO2 c Z Z1) (h2 : mjO2 c Z1 Z2) : mjO2 c Z Z2 := fun a h g => (h2 a h g).trans (h1 a h g)
theorem mjO2.up0 {c k : Nat} {x : Int} {Z : mjZ} : mjO2 c Z (mjUp Z c k x) := fun a h _ => mjUp_nc h
theorem mjO2.up1 {c k : Nat} {x : Int} {Z : mjZ} : mjO2 c Z (mjUp Z (c + 1) k x) := fun a _ h => mjUp_nc h
theorem bgU_o {R c i : Nat} {x : Int} {Z : mjZ} : mjO1 (c + 1) Z (bgU R Z c i x) := fun a h => by
  unfold bgU
  split
  · exact mjUp_nc h
  · rfl
theorem bgU_d {R c i k : Nat} {x : Int} {Z : mjZ} : bgU R Z c i x (c + 1) k = if k = i ∧ i < R then x else Z (c + 1) k := by
  unfold bgU mjUp
  by_cases h : i < R <;> by_cases h2 : k = i <;> simp [h, h2]
theorem bgIs_congr {R c : Nat} {v : Int} {Z Z' : mjZ} (h : bgIs R Z c v) (h0 : Z' c = Z c) (h1 : Z' (c + 1) = Z (c + 1)) : bgIs R Z' c v := by
  unfold bgIs bgW at h ⊢
  rw [h0, h1]
  exact h
theorem bgIs.o2 {R R2 c e : Nat} {v : Int} {Z Z' : mjZ} (h : bgIs R Z e v) (ho : mjO2 c Z Z') (h1 : e ≠ c) (h2 : e ≠ c + 1) (h3 : e + 1 ≠ c) : bgIs R Z' e v := bgIs_congr h (ho e h1 h2) (ho (e + 1) h3 (by omega))
section BGA
variable {d R c : Nat} {Z : mjZ}
theorem bgG_b {n : Nat} (h : bgW R Z c n) (k : Nat) : 0 ≤ bgG Z c k ∧ bgG Z c k < 1073741824 := by
  unfold bgG
  have h1 := h.2.1
  split
  · exact h.2.2 k (Nat.zero_le _) (by omega)
  · omega
theorem bgG_lt {n k : Nat} (h : bgW R Z c n) (hk : k < n) : bgG Z c k = Z (c + 1) k := by
  unfold bgG
  have h1 := h.2.1
  rw [if_pos (by omega)]
theorem bgG_ge {n k : Nat} (h : bgW R Z c n) (hk : n ≤ k) : bgG Z c k = 0 := by
  unfold bgG
  have h1 := h.2.1
  rw [if_neg (by omega)]
theorem bgG_S {n m : Nat} (h : bgW R Z c n) (hm : n ≤ m) : bgS (bgG Z c) 0 m = bgS (Z (c + 1)) 0 n := by
  obtain ⟨k, rfl⟩ := Nat.le.dest hm
  rw [bgS_app, bgS_zero k _ fun j h1 h2 => bgG_ge h (by omega), Int.mul_zero, Int.add_zero]
  exact bgS_eq fun k hk => bgG_lt h hk
theorem bg_digit {n : Nat} {i : Int} {q : Int → mjZ → Prop} (hR : bgR c R) (h : bgW R Z c n) (h0 : 0 ≤ i) (h1 : i < 1000) (hq : q (bgG Z c i.toNat) Z) : mjW1 (d + 1) 93 [yR 0 c, yI i] Z q := by
  obtain ⟨r1, r2, r3⟩ := hR
  obtain ⟨g1, g2, g3⟩ := h
  refine mje_93 ⟨by omega, fun h => by omega, fun _ => ⟨by omega, fun h2 => ?_, fun h2 => ⟨by omega, fun h3 => by omega, fun h3 => ⟨by omega, by omega, ?_⟩⟩⟩⟩
  · have e : bgG Z c i.toNat = 0 := by unfold bgG; rw [if_neg (by omega)]
    rw [e] at hq
    exact hq
  · have e : bgG Z c i.toNat = Z (c + 1) i.toNat := by unfold bgG; rw [if_pos (by omega)]
    rw [e] at hq
    exact hq
theorem bg_setDigit {i x : Int} {q : mjZ → Prop} (hR : bgR c R) (h0 : 0 ≤ i) (h1 : i < 1000) (hq : q (bgU R Z c i.toNat x)) : mjW0 (d + 1) 84 [yR 0 c, yI i, yI x] Z q := by
  obtain ⟨r1, r2, r3⟩ := hR
  unfold bgU at hq
  refine mje_84 ⟨by omega, fun h => by omega, fun _ => ⟨by omega, fun h3 => ?_, fun h3 => ⟨by omega, by omega, ?_⟩⟩⟩
  · rw [if_neg (by omega)] at hq
    exact hq
  · rw [if_pos (by omega)] at hq
    exact hq
theorem bg_trimL {m E : Nat} {q : mjZ → Prop} (hR : bgR c R) (hE : E ≤ R) (hd : bgD (Z (c + 1)) 0 E) (hq : ∀ n : Nat, n ≤ E → (0 < n → Z (c + 1) (n - 1) ≠ 0) → (∀ k, n ≤ k → k < E → Z (c + 1) k = 0) → q (if n = 0 then mjUp (mjUp Z c 1 0) c 0 0 else mjUp Z c 1 n)) : ∀ e : Nat, e ≤ E → (∀ k, e ≤ k → k < E → Z (c + 1) k = 0) → mjL_86_19 d c m (e : Int) Z q
  | 0, h1, h2 => by
    have h3 := hq 0 (Nat.zero_le _) (fun h => by omega) h2
    rw [if_pos rfl] at h3
    exact mjl_86_19 ⟨by omega, fun _ => ⟨fun h => absurd rfl h, fun _ => h3⟩, fun h => by omega⟩
  | e + 1, h1, h2 => by
    obtain ⟨r1, r2, r3⟩ := hR
    refine mjl_86_19 ?_
    rw [show (((e + 1 : Nat) : Int) - 1).toNat = e by omega]
    have h4 := hd e (Nat.zero_le _) (by omega)
    refine ⟨by omega, fun h => by omega, fun _ => ⟨by omega, by omega, by omega, fun h5 => ⟨fun _ => ?_, fun h => by omega⟩, fun h5 => ?_⟩⟩
    · have h3 := hq (e + 1) h1 (fun _ => h5) h2
      rw [if_neg (by omega)] at h3
      exact h3
    · rw [show ((e + 1 : Nat) : Int) + (-1) = (e : Int) by omega]
      refine bg_trimL ⟨r1, r2, r3⟩ hE hd hq e (by omega) fun k g1 g2 => ?_
      rcases Nat.lt_or_ge e k with h | h
      · exact h2 k h g2
      · have : k = e := by omega
        subst this
        exact Classical.not_not.mp h5
theorem bg_trim {m : Nat} {q : mjZ → Prop} (hR : bgR c R) (hm : m < 1000) (hd : bgD (Z (c + 1)) 0 (min m R)) (hq : ∀ n : Nat, n ≤ min m R → (0 < n → Z (c + 1) (n - 1) ≠ 0) → (∀ k, n ≤ k → k < min m R → Z (c + 1) k = 0) → q (if n = 0 then mjUp (mjUp Z c 1 0) c 0 0 else mjUp Z c 1 n)) : mjW0 (d + 1) 86 [yR 0 c, yI (m : Int)] Z q := by
  obtain ⟨r1, r2, r3⟩ := id hR
  have h := bg_trimL (d := d) (m := m) hR (Nat.min_le_right _ _) hd hq (min m R) (Nat.le_refl _) (fun k g1 g2 => by omega)
  refine mje_86 ⟨by omega, by omega, fun h1 => ?_, fun h1 => ?_⟩
  · rw [show ((mjNn 100 (c + 1) : Nat) : Int) = ((min m R : Nat) : Int) by omega]
    exact h
  · rw [show (m : Int) = ((min m R : Nat) : Int) by omega] at *
    exact h
/-- the digits stand as told, and the sign: trim makes the number -/
theorem bg_end {E : Nat} {s v : Int} {g : Nat → Int} {q : mjZ → Prop} (hR : bgR c R) (hE : E < 1000) (hg : bgD g 0 E) (hd : ∀ k, k < E → k < R → Z (c + 1) k = g k) (hs : Z c 0 = s) (hs3 : s = -1 ∨ s = 0 ∨ s = 1) (hz : s = 0 → bgS g 0 E = 0) (hv : v = s * bgS g 0 E) (hf : bgS g 0 E < bgP R) (hq : ∀ Z', mjO2 c Z Z' → bgIs R Z' c v → q Z') : mjW0 (d + 1) 86 [yR 0 c, yI (E : Int)] Z q := by
  have hdd : bgD (Z (c + 1)) 0 (min E R) := fun k h1 h2 => by
    rw [hd k (by omega) (by omega)]
    exact hg k h1 (by omega)
  have hS : bgS (Z (c + 1)) 0 (min E R) = bgS g 0 E := by
    rw [bgS_eq (g := g) fun k hk => hd k (by omega) (by omega)]
    rcases Nat.le_or_le E R with h | h
    · rw [Nat.min_eq_left h]
    · rw [Nat.min_eq_right h]
      obtain ⟨k, rfl⟩ := Nat.le.dest h
      rw [bgS_app] at hf ⊢
      rw [Nat.zero_add] at hf ⊢
      have h1 := (bgS_b R 0 (bgD_sub hg (Nat.le_refl _) (by omega))).1
      have h2 := (bgS_b k R (bgD_sub hg (by omega) (by omega))).1
      rcases Int.lt_or_le 0 (bgS g R k) with h3 | h3
      · have h4 : bgP R * 1 ≤ bgP R * bgS g R k := Int.mul_le_mul_of_nonneg_left (by omega) (Int.le_of_lt (bgP_pos R))
        omega
      · have h5 : bgS g R k = 0 := by omega
        rw [h5, Int.mul_zero, Int.add_zero]
  refine bg_trim hR hE hdd fun n h1 h2 h3 => hq _ ?_ ?_
  · split
    · exact mjO2.up0.trans mjO2.up0
    · exact mjO2.up0
  · have hSn : bgS (Z (c + 1)) 0 n = bgS g 0 E := by
      rw [← hS]
      obtain ⟨k, hk⟩ := Nat.le.dest h1
      rw [← hk, bgS_app, bgS_zero k _ fun j g1 g2 => h3 j (by omega) (by omega), Int.mul_zero, Int.add_zero]
    have hSp : 0 < n → 0 < bgS g 0 E := fun hn => by
      rw [← hSn]
      obtain ⟨k, rfl⟩ := Nat.exists_eq_add_of_lt hn
      rw [Nat.zero_add] at *
      have h5 := bgS_top (f := Z (c + 1)) (n := k) (i := 0) (bgD_sub hdd (Nat.le_refl _) (by omega)) (by rw [Nat.zero_add]; exact h2 (by omega))
      have := bgP_pos k
      omega
    split
    · rename_i hn
      subst hn
      have h0 : bgS g 0 E = 0 := hSn.symm
      refine ⟨0, ⟨Nat.zero_le _, ?_, fun k g1 g2 => by omega⟩, fun h => by omega, Or.inr (Or.inl ?_), ⟨fun _ => rfl, fun _ => ?_⟩, ?_⟩
      · simp [mjUp]
      · exact mjUp_at
      · exact mjUp_at
      · rw [hv, h0, Int.mul_zero]
        simp [mjUp]
    · rename_i hn
      have e0 : mjUp Z c 1 n c 0 = Z c 0 := mjUp_ne fun _ => by omega
      have e1 : mjUp Z c 1 n (c + 1) = Z (c + 1) := mjUp_nc (by omega)
      refine ⟨n, ⟨by omega, mjUp_at, ?_⟩, ?_, ?_, ?_, ?_⟩
      · rw [e1]; exact bgD_sub hdd (Nat.le_refl _) (by omega)
      · rw [e1]; exact h2
      · rw [e0, hs]; exact hs3
      · rw [e0, hs]
        refine ⟨fun h => ?_, fun h => absurd h hn⟩
        have := hz h
        have := hSp (by omega)
        omega
      · rw [e0, e1, hs, hSn]; exact hv
end BGA
def bgI (R c : Nat) (Z0 : mjZ) (i : Nat) (Z : mjZ) : Prop := mjO1 (c + 1) Z0 Z ∧ (∀ k, i ≤ k → Z (c + 1) k = Z0 (c + 1) k) ∧ ∀ k, k < i → k < R → 0 ≤ Z (c + 1) k ∧ Z (c + 1) k < 1073741824
def bgT (F G : Nat → Int → Int) : Nat → Nat → Int → (Nat → Int) → Int → Prop
  | _, 0, y, _, y' => y' = y
  | i, m + 1, y, g, y' => g i = G i y ∧ bgT F G (i + 1) m (F i y) g y'
theorem bgT_congr {F G : Nat → Int → Int} {g g' : Nat → Int} {y' : Int} : ∀ (m i : Nat) (y : Int), (∀ k, i ≤ k → g k = g' k) → bgT F G i m y g y' → bgT F G i m y g' y'
  | 0, _, _, _, h => h
  | m + 1, i, y, he, h => by
    unfold bgT at h ⊢
    exact ⟨by rw [← he i (Nat.le_refl _)]; exact h.1, bgT_congr m (i + 1) _ (fun k hk => he k (by omega)) h.2⟩
/-- a loop that writes a digit a turn, with a carry -/
theorem bg_loop {R c E : Nat} {Z0 : mjZ} {L : Nat → Int → mjZ → Prop} {F G : Nat → Int → Int} {Y : Nat → Int → Prop}
    (hY : ∀ i y, i < E → Y i y → Y (i + 1) (F i y) ∧ 0 ≤ G i y ∧ G i y < 1073741824)
    (hs : ∀ i y Z, i < E → bgI R c Z0 i Z → Y i y → L (i + 1) (F i y) (bgU R Z c i (G i y)) → L i y Z) :
    ∀ (m i : Nat) (y : Int) (Z : mjZ), i + m = E → bgI R c Z0 i Z → Y i y → (∀ (Z' : mjZ) (y' : Int) (g : Nat → Int), Y E y' → bgI R c Z0 E Z' → (∀ k, k < i → Z' (c + 1) k = Z (c + 1) k) → bgD g i m → (∀ k, i ≤ k → k < E → k < R → Z' (c + 1) k = g k) → bgT F G i m y g y' → L E y' Z') → L i y Z
  | 0, i, y, Z, hi, hI, hy, hk => by
    have : i = E := by omega
    subst this
    exact hk Z y (fun _ => 0) hy hI (fun _ _ => rfl) (fun k h1 h2 => by omega) (fun k h1 h2 => by omega) rfl
  | m + 1, i, y, Z, hi, hI, hy, hk => by
    obtain ⟨y1, y2, y3⟩ := hY i y (by omega) hy
    refine hs i y Z (by omega) hI hy (bg_loop hY hs m (i + 1) (F i y) _ (by omega) ⟨hI.1.trans bgU_o, fun k h1 => ?_, fun k h1 h2 => ?_⟩ y1 fun Z' y' g h1 h2 h3 h4 h5 h6 => ?_)
    · rw [bgU_d, if_neg (by omega)]
      exact hI.2.1 k (by omega)
    · rw [bgU_d]
      split
      · exact ⟨y2, y3⟩
      · exact hI.2.2 k (by omega) h2
    · refine hk Z' y' (fun k => if k = i then G i y else g k) h1 h2 (fun k g1 => ?_) (fun k g1 g2 => ?_) (fun k g1 g2 g3 => ?_) ⟨if_pos rfl, bgT_congr m (i + 1) _ (fun k hk => ?_) h6⟩
      · rw [h3 k (by omega), bgU_d, if_neg (by omega)]
      · dsimp only
        split
        · exact ⟨y2, y3⟩
        · exact h4 k (by omega) (by omega)
      · skip
        split
        · rename_i hki
          subst hki
          rw [h3 k (by omega), bgU_d, if_pos ⟨rfl, g3⟩]
        · exact h5 k (by omega) g2 g3
      · rw [if_neg (by omega)]
theorem bgI_0 {R c : Nat} {Z : mjZ} : bgI R c Z 0 Z := ⟨fun _ _ => rfl, fun _ _ => rfl, fun k h => by omega⟩
theorem bgI_W {R c n i : Nat} {Z Z0 : mjZ} (h : bgW R Z0 c n) (hI : bgI R c Z0 i Z) : bgW R Z c n := by
  obtain ⟨h1, h2, h3⟩ := h
  refine ⟨h1, ?_, fun k g1 g2 => ?_⟩
  · rw [hI.1 c (by omega)]; exact h2
  · rcases Nat.lt_or_ge k i with h | h
    · exact hI.2.2 k h (by omega)
    · rw [hI.2.1 k h]; exact h3 k g1 g2
theorem bgI_G {R c i k : Nat} {Z Z0 : mjZ} (hI : bgI R c Z0 i Z) (hk : i ≤ k) : bgG Z c k = bgG Z0 c k := by
  unfold bgG
  rw [hI.1 c (by omega), hI.2.1 k hk]
theorem bgI_e {R c e i : Nat} {Z Z0 : mjZ} (hI : bgI R c Z0 i Z) (h1 : e ≠ c + 1) (h2 : e + 1 ≠ c + 1) : Z e = Z0 e ∧ Z (e + 1) = Z0 (e + 1) := ⟨hI.1 e h1, hI.1 (e + 1) h2⟩
theorem bgW_congr {R e n : Nat} {Z Z0 : mjZ} (h : bgW R Z0 e n) (hI : Z e = Z0 e ∧ Z (e + 1) = Z0 (e + 1)) : bgW R Z e n := by
  unfold bgW at h ⊢
  rw [hI.1, hI.2]
  exact h
theorem bgG_congr {e : Nat} {Z Z0 : mjZ} (hI : Z e = Z0 e ∧ Z (e + 1) = Z0 (e + 1)) : bgG Z e = bgG Z0 e := by
  funext k
  unfold bgG
  rw [hI.1, hI.2]
