/-! Products of polynomials of whole numbers; what they share stays whole. -/
def pm {R : Type} [Lean.Grind.CommRing R] : Nat → (Nat → R) → (Nat → R) → Nat → R
  | 0, _, _ => fun _ => 0
  | n + 1, c, e => fun k => c 0 * e k + su (pm n (fun i => c (i + 1)) e) k
theorem pm_pe {R : Type} [Lean.Grind.CommRing R] {M : Nat} {e : Nat → R} {x : R} (he : ∀ i, M ≤ i → e i = 0) : ∀ (n : Nat) {c : Nat → R}, pe (n + M) (pm n c e) x = pe n c x * pe M e x
  | 0, c => by
    have e0 : pe M (pm 0 c e) x = 0 := pe_zero M fun _ _ => rfl
    rw [Nat.zero_add, e0]
    show (0 : R) = 0 * _
    grind
  | n + 1, c => by
    have e1 : pe (n + 1 + M) (pm (n + 1) c e) x = pe (n + 1 + M) (fun k => c 0 * e k + su (pm n (fun i => c (i + 1)) e) k) x := rfl
    rw [e1, pe_add (c := fun k => c 0 * e k) (e := su (pm n (fun i => c (i + 1)) e)), pe_mul, show n + 1 + M = M + (n + 1) by omega, pe_more (n + 1) fun i h1 _ => he i h1, show M + (n + 1) = n + M + 1 by omega, pe_su, pm_pe he n, pe_succ]
    grind
def pI : Nat → (Nat → Int) → (Nat → Int) → Nat → Int
  | 0, _, _ => fun _ => 0
  | n + 1, c, e => fun k => c 0 * e k + su (pI n (fun i => c (i + 1)) e) k
theorem zc_pI {R : Type} [Lean.Grind.CommRing R] : ∀ (n : Nat) {c e : Nat → Int} {k : Nat}, (zc (pI n c e k) : R) = pm n (fun i => zc (c i)) (fun i => zc (e i)) k
  | 0, _, _, _ => zc_0
  | n + 1, c, e, k => by
    show zc (c 0 * e k + su (pI n (fun i => c (i + 1)) e) k) = zc (c 0) * zc (e k) + su (pm n (fun i => zc (c (i + 1))) fun i => zc (e i)) k
    rw [zc_add, zc_mul, zc_su]
    congr 2
    funext i
    exact zc_pI n
section PI
variable {c e f : Nat → Int} {M : Nat}
theorem su_0 {c : Nat → Int} : su c 0 = 0 := rfl
theorem su_s {c : Nat → Int} {k : Nat} : su c (k + 1) = c k := rfl
theorem pI_eq : ∀ (n : Nat) {c e : Nat → Int}, (∀ i, i < n → c i = e i) → ∀ {f g : Nat → Int} {k : Nat}, (∀ i, i ≤ k → f i = g i) → pI n c f k = pI n e g k
  | 0, _, _, _, _, _, _, _ => rfl
  | n + 1, c, e, h, f, g, k, h2 => by
    show c 0 * f k + su _ k = e 0 * g k + su _ k
    rw [h 0 (by omega), h2 k (Nat.le_refl k)]
    cases k with
    | zero => rfl
    | succ k =>
      rw [su_s, su_s, pI_eq n (fun i hi => h (i + 1) (by omega)) fun i hi => h2 i (by omega)]
theorem pI_out (he : ∀ i, M ≤ i → e i = 0) : ∀ (n : Nat) {c : Nat → Int} {k : Nat}, n + M ≤ k + 1 → pI n c e k = 0
  | 0, _, _, _ => rfl
  | n + 1, c, k, h => by
    show c 0 * e k + su _ k = 0
    rw [he k (by omega), Int.mul_zero, Int.zero_add]
    cases k with
    | zero => rfl
    | succ k => rw [su_s, pI_out he n (by omega)]
theorem pI_top {m : Nat} (he : ∀ i, m < i → e i = 0) : ∀ (n : Nat) {c : Nat → Int}, pI (n + 1) c e (n + m) = c n * e m
  | 0, c => by
    show c 0 * e (0 + m) + su (fun _ => 0) (0 + m) = _
    rw [Nat.zero_add]
    have : su (fun _ => (0 : Int)) m = 0 := by cases m <;> rfl
    rw [this, Int.add_zero]
  | n + 1, c => by
    show c 0 * e (n + 1 + m) + su (pI (n + 1) (fun i => c (i + 1)) e) (n + 1 + m) = _
    rw [he (n + 1 + m) (by omega), Int.mul_zero, Int.zero_add, show n + 1 + m = (n + m) + 1 by omega, su_s, pI_top he n]
theorem pI_add : ∀ (n : Nat) {c : Nat → Int} {k : Nat} {f e : Nat → Int} {a b : Int}, pI n c (fun i => a * e i + b * f i) k = a * pI n c e k + b * pI n c f k
  | 0, _, _, _, _, a, b => by
    show (0 : Int) = a * 0 + b * 0
    omega
  | n + 1, c, k, f, e, a, b => by
    show c 0 * (a * e k + b * f k) + su _ k = a * (c 0 * e k + su _ k) + b * (c 0 * f k + su _ k)
    cases k with
    | zero =>
      rw [su_0, su_0, su_0]
      grind
    | succ k =>
      rw [su_s, su_s, su_s, pI_add n]
      grind
theorem pI_su : ∀ (n : Nat) {c : Nat → Int} {k : Nat} {e : Nat → Int}, pI n c (su e) k = su (pI n c e) k
  | 0, _, k, _ => by cases k <;> rfl
  | n + 1, c, k, e => by
    show c 0 * su e k + su (pI n _ (su e)) k = _
    cases k with
    | zero =>
      rw [su_0, su_0, su_0]
      omega
    | succ k =>
      rw [su_s, su_s, su_s, pI_su n]
      rfl
def mono (j k : Nat) : Int := if k = j then 1 else 0
theorem pI_mono : ∀ (n : Nat) {c : Nat → Int} {k j : Nat}, pI n c (mono j) k = if j ≤ k ∧ k < j + n then c (k - j) else 0
  | 0, _, k, j => by
    rw [if_neg (by omega)]
    rfl
  | n + 1, c, k, j => by
    show c 0 * (if k = j then 1 else 0) + su (pI n (fun i => c (i + 1)) (mono j)) k = _
    by_cases g : k = j
    · rw [if_pos g, if_pos (by omega), g, Nat.sub_self]
      have : su (pI n (fun i => c (i + 1)) (mono j)) j = 0 := by
        cases j with
        | zero => rfl
        | succ j => rw [su_s, pI_mono n, if_neg (by omega)]
      rw [this]
      omega
    · rw [if_neg g]
      cases k with
      | zero =>
        rw [su_0, if_neg (by omega)]
        omega
      | succ k =>
        rw [su_s, pI_mono n]
        by_cases g2 : j ≤ k ∧ k < j + n
        · rw [if_pos g2, if_pos (by omega), show k + 1 - j = k - j + 1 by omega]
          omega
        · rw [if_neg g2, if_neg (by omega)]
          omega
/-- division by a polynomial with 1 at its greatest power -/
theorem pI_div {g : Nat → Int} {e : Nat} (hg : g e = 1) : ∀ (N : Nat) {c : Nat → Int}, (∀ i, N ≤ i → c i = 0) → ∃ W r : Nat → Int, (∀ k, c k = pI (e + 1) g W k + r k) ∧ (∀ k, e ≤ k → r k = 0) ∧ ∀ k, N ≤ k + e → W k = 0
  | 0, c, h => ⟨fun _ => 0 * 0 + 0 * 0, c, fun k => by
    rw [pI_add (e := fun _ => 0) (f := fun _ => 0)]
    omega, fun k _ => h k (by omega), fun k _ => rfl⟩
  | N + 1, c, h => by
    rcases Nat.lt_or_ge N e with l | l
    · exact ⟨fun _ => 0 * 0 + 0 * 0, c, fun k => by
        rw [pI_add (e := fun _ => 0) (f := fun _ => 0)]
        omega, fun k _ => h k (by omega), fun k _ => rfl⟩
    · obtain ⟨W, r, h1, h2, h3⟩ := pI_div hg N (c := fun k => c k - c N * if N - e ≤ k ∧ k < N - e + (e + 1) then g (k - (N - e)) else 0) fun i hi => by
        show c i - c N * (if N - e ≤ i ∧ i < N - e + (e + 1) then g (i - (N - e)) else 0) = 0
        by_cases q : i = N
        · rw [if_pos (by omega), q, show N - (N - e) = e by omega, hg]
          omega
        · rw [if_neg (by omega), h i (by omega)]
          omega
      refine ⟨fun k => 1 * W k + c N * mono (N - e) k, r, fun k => ?_, h2, fun k hk => ?_⟩
      · have h4 := h1 k
        rw [pI_add, pI_mono]
        omega
      · show 1 * W k + c N * (if k = N - e then 1 else 0) = 0
        rw [h3 k (by omega), if_neg (by omega)]
        omega
def pri (q : Int) : Prop := 1 < q ∧ ∀ a b, q ∣ a * b → q ∣ a ∨ q ∣ b
theorem pri_ex (N : Nat) (h : 1 < N) : ∃ q, pri q ∧ q ∣ (N : Int) := by
  obtain ⟨q, ⟨q1, q2⟩, q3⟩ := lst (P := fun q => 1 < q ∧ q ∣ N) N ⟨h, Nat.dvd_refl N⟩
  refine ⟨q, ⟨by omega, fun a b hab => ?_⟩, Int.ofNat_dvd.mpr q2⟩
  have h1 : q ∣ a.natAbs * b.natAbs := by
    rw [← Int.natAbs_mul]
    exact Int.ofNat_dvd_left.mp hab
  have h2 : Nat.gcd q a.natAbs = 1 ∨ Nat.gcd q a.natAbs = q := by
    refine Classical.byContradiction fun g => ?_
    have d1 := Nat.gcd_dvd_left q a.natAbs
    have d2 := Nat.le_of_dvd (by omega) d1
    have d3 : Nat.gcd q a.natAbs ≠ 0 := fun z => by
      have := Nat.eq_zero_of_gcd_eq_zero_left z
      omega
    exact q3 _ (by omega) ⟨by omega, Nat.dvd_trans d1 q2⟩
  rcases h2 with g | g
  · exact Or.inr (Int.ofNat_dvd_left.mpr (Nat.Coprime.dvd_of_dvd_mul_left g h1))
  · refine Or.inl (Int.ofNat_dvd_left.mpr ?_)
    have := Nat.gcd_dvd_right q a.natAbs
    rw [g] at this
    exact this
theorem pI_dvd {q : Int} : ∀ (n : Nat) {c e : Nat → Int} {k : Nat}, (∀ i, i ≤ k → q ∣ e i) → q ∣ pI n c e k
  | 0, _, _, _, _ => ⟨0, by
    show (0 : Int) = q * 0
    omega⟩
  | n + 1, c, e, k, h => by
    refine Int.dvd_add (Int.dvd_trans (h k (Nat.le_refl k)) (Int.dvd_mul_left _ _)) ?_
    cases k with
    | zero => exact ⟨0, by rw [su_0]; omega⟩
    | succ k =>
      rw [su_s]
      exact pI_dvd n fun i hi => h i (by omega)
theorem pI_pri {q : Int} (hq : pri q) : ∀ (n : Nat) {c e : Nat → Int}, (∀ k, q ∣ pI n c e k) → (∀ i, i < n → q ∣ c i) ∨ ∀ k, q ∣ e k
  | 0, _, _, _ => Or.inl fun i hi => by omega
  | n + 1, c, e, h => by
    rcases Classical.em (q ∣ c 0) with g | g
    · rcases pI_pri hq n (c := fun i => c (i + 1)) (e := e) (fun k => by
        have h1 : q ∣ c 0 * e (k + 1) + pI n (fun i => c (i + 1)) e k := h (k + 1)
        have h2 := Int.dvd_sub h1 (Int.dvd_trans g (Int.dvd_mul_right (c 0) (e (k + 1))))
        rw [Int.add_comm, Int.add_sub_cancel] at h2
        exact h2) with g2 | g2
      · refine Or.inl fun i hi => ?_
        cases i with
        | zero => exact g
        | succ i => exact g2 i (by omega)
      · exact Or.inr g2
    · refine Or.inr fun k => ?_
      induction k using Nat.strongRecOn with
      | _ k ih =>
        have h1 : q ∣ c 0 * e k + su (pI n (fun i => c (i + 1)) e) k := h k
        have h3 : q ∣ su (pI n (fun i => c (i + 1)) e) k := by
          cases k with
          | zero => exact ⟨0, by rw [su_0]; omega⟩
          | succ k =>
            rw [su_s]
            exact pI_dvd n fun i hi => ih i (by omega)
        have h2 := Int.dvd_sub h1 h3
        rw [Int.add_sub_cancel] at h2
        exact (hq.2 _ _ h2).resolve_left g
theorem pI_mull {q : Int} : ∀ (n : Nat) {c e : Nat → Int} {k : Nat}, pI n (fun i => q * c i) e k = q * pI n c e k
  | 0, _, _, _ => by
    show (0 : Int) = q * 0
    omega
  | n + 1, c, e, k => by
    show q * c 0 * e k + su (pI n (fun i => q * c (i + 1)) e) k = q * (c 0 * e k + su _ k)
    cases k with
    | zero =>
      rw [su_0, su_0]
      grind
    | succ k =>
      rw [su_s, su_s, pI_mull n (c := fun i => c (i + 1))]
      grind
theorem gauss {m e : Nat} {u : Nat → Int} : ∀ (N : Nat) {a b : Int} {V R : Nat → Int}, 0 < a → 0 < b → a.toNat * b.toNat ≤ N → V m = a → R e = b → (∀ i, m < i → V i = 0) → (∀ k, pI (m + 1) V R k = a * b * u k) → (∀ i, a ∣ V i) ∧ ∀ i, b ∣ R i
  | 0, a, b, V, R, ha, hb, hN, _, _, _, _ => by
    have := Nat.mul_le_mul (show 1 ≤ a.toNat by omega) (show 1 ≤ b.toNat by omega)
    omega
  | N + 1, a, b, V, R, ha, hb, hN, hV, hR, hO, h => by
    obtain ⟨a, rfl⟩ : ∃ x : Nat, a = (x : Int) := ⟨a.toNat, by omega⟩
    obtain ⟨b, rfl⟩ : ∃ x : Nat, b = (x : Int) := ⟨b.toNat, by omega⟩
    rw [Int.toNat_natCast, Int.toNat_natCast] at hN
    rcases Nat.lt_or_ge 1 (a * b) with l | l
    · obtain ⟨q, q1, q2⟩ := pri_ex (a * b) l
      have q0 := q1.1
      obtain ⟨q, rfl⟩ : ∃ x : Nat, q = (x : Int) := ⟨q.toNat, by omega⟩
      have less : ∀ x y : Nat, 0 < x → 0 < y → x * y * q ≤ N + 1 → x * y ≤ N := fun x y hx hy hxy => by
        have h1 := Nat.mul_pos hx hy
        have h2 := Nat.mul_le_mul_left (x * y) (show 2 ≤ q by omega)
        omega
      rcases pI_pri q1 (m + 1) (c := V) (e := R) (fun k => by
        rw [h k]
        refine Int.dvd_trans ?_ (Int.dvd_mul_right _ _)
        rw [← Int.natCast_mul]
        exact q2) with g | g
      · have gv : ∀ i, (q : Int) ∣ V i := fun i => by
          rcases Nat.lt_or_ge i (m + 1) with l | l
          · exact g i l
          · rw [hO i (by omega)]
            exact ⟨0, by omega⟩
        obtain ⟨a2, ha2⟩ : (q : Int) ∣ (a : Int) := by rw [← hV]; exact gv m
        have hA : 0 < a2 := by
          refine Classical.byContradiction fun z => ?_
          have := Int.mul_nonneg (a := (q : Int)) (b := -a2) (by omega) (by omega)
          rw [Int.mul_neg] at this
          omega
        obtain ⟨a2, rfl⟩ : ∃ x : Nat, a2 = (x : Int) := ⟨a2.toNat, by omega⟩
        have ha3 : a = q * a2 := by
          rw [← Int.natCast_mul] at ha2
          exact Int.ofNat_inj.mp ha2
        let W : Nat → Int := fun i => V i / q
        have hW : ∀ i, V i = q * W i := fun i => (Int.mul_ediv_cancel' (gv i)).symm
        have hq : (q : Int) ≠ 0 := by omega
        obtain ⟨i1, i2⟩ := gauss (m := m) (e := e) (u := u) N (a := (a2 : Int)) (b := (b : Int)) (V := W) (R := R) hA hb (by
          rw [Int.toNat_natCast, Int.toNat_natCast]
          refine less a2 b (by omega) (by omega) ?_
          rw [ha3] at hN
          have : q * a2 * b = a2 * b * q := by rw [Nat.mul_comm q a2, Nat.mul_assoc, Nat.mul_comm q b, Nat.mul_assoc]
          omega) (by
          refine Int.eq_of_mul_eq_mul_left hq ?_
          rw [← hW, hV, ha2]) hR (fun i hi => by
          refine Int.eq_of_mul_eq_mul_left hq ?_
          rw [← hW, hO i hi, Int.mul_zero]) fun k => by
          refine Int.eq_of_mul_eq_mul_left hq ?_
          rw [← pI_mull, pI_eq (e := V) (g := R) (m + 1) (fun i _ => (hW i).symm) (fun _ _ => rfl), h k, ha2]
          grind
        refine ⟨fun i => ?_, i2⟩
        rw [ha2, hW]
        exact Int.mul_dvd_mul (Int.dvd_refl _) (i1 i)
      · obtain ⟨b2, hb2⟩ : (q : Int) ∣ (b : Int) := by rw [← hR]; exact g e
        have hB : 0 < b2 := by
          refine Classical.byContradiction fun z => ?_
          have := Int.mul_nonneg (a := (q : Int)) (b := -b2) (by omega) (by omega)
          rw [Int.mul_neg] at this
          omega
        obtain ⟨b2, rfl⟩ : ∃ x : Nat, b2 = (x : Int) := ⟨b2.toNat, by omega⟩
        have hb3 : b = q * b2 := by
          rw [← Int.natCast_mul] at hb2
          exact Int.ofNat_inj.mp hb2
        let W : Nat → Int := fun i => R i / q
        have hW : ∀ i, R i = q * W i := fun i => (Int.mul_ediv_cancel' (g i)).symm
        have hq : (q : Int) ≠ 0 := by omega
        obtain ⟨i1, i2⟩ := gauss (m := m) (e := e) (u := u) N (a := (a : Int)) (b := (b2 : Int)) (V := V) (R := W) ha hB (by
          rw [Int.toNat_natCast, Int.toNat_natCast]
          refine less a b2 (by omega) (by omega) ?_
          rw [hb3] at hN
          have : a * (q * b2) = a * b2 * q := by rw [Nat.mul_comm q b2, Nat.mul_assoc]
          omega) hV (by
          refine Int.eq_of_mul_eq_mul_left hq ?_
          rw [← hW, hR, hb2]) hO fun k => by
          refine Int.eq_of_mul_eq_mul_left hq ?_
          have h1 := pI_add (m + 1) (c := V) (k := k) (e := W) (f := fun _ => 0) (a := q) (b := 0)
          have h2 : pI (m + 1) V (fun i => q * W i + 0 * 0) k = pI (m + 1) V R k := pI_eq (m + 1) (fun _ _ => rfl) fun i _ => by rw [← hW]; omega
          rw [h2, h k, hb2] at h1
          grind
        refine ⟨i1, fun i => ?_⟩
        rw [hb2, hW]
        exact Int.mul_dvd_mul (Int.dvd_refl _) (i2 i)
    · have h1 := Nat.mul_le_mul_left a (show 1 ≤ b by omega)
      have h2 := Nat.mul_le_mul_right b (show 1 ≤ a by omega)
      have a1 : a = 1 := by omega
      have b1 : b = 1 := by omega
      subst a1 b1
      exact ⟨fun i => ⟨V i, by omega⟩, fun i => ⟨R i, by omega⟩⟩
end PI
