/-! Walks with ints cut to 32 bits; rows as functions; loops as folds and searches. -/
def mjL2I (x : Int) : Int := (Int64.ofInt x).toInt32.toInt
theorem mjL2I_eq (x : Int) : mjL2I x = Int.bmod x 4294967296 := by
  show (BitVec.signExtend 32 (BitVec.ofInt 64 x)).toInt = _
  rw [BitVec.toInt_signExtend, BitVec.toInt_ofInt]
  exact Int.bmod_bmod_of_dvd (by decide)
theorem mjL2I_id {x : Int} (h : -2147483648 ≤ x ∧ x < 2147483648) : mjL2I x = x := by
  rw [mjL2I_eq]
  exact Int.bmod_eq_of_le (by omega) (by omega)
theorem mjL2I_r (x : Int) : -2147483648 ≤ mjL2I x ∧ mjL2I x < 2147483648 := by
  rw [mjL2I_eq]
  have h1 := Int.le_bmod (x := x) (m := 4294967296) (by decide)
  have h2 := Int.bmod_lt (x := x) (m := 4294967296) (by decide)
  omega
def wpi2 (d : Nat) (P : mjPm) (rs : mjRs) (Q : mjQ) (ins : Instr) (k : mjK) (pc : Nat) (l : mjYl) (s : List mjY) (Z : mjZ) (next : mjNx) : Prop := match ins with
  | .l2i => match s with
    | .inr (.inl x) :: r => next (pc + 1) l (yI (mjL2I x) :: r) Z
    | _ => False
  | _ => wpi d P rs Q ins k pc l s Z next
def wpx2 (d : Nat) (P : mjPm) (rs : mjRs) (K : mjKs) (Q : mjQ) : Nat → Nat → mjYl → List mjY → mjZ → Prop
  | 0, _, _, _, _ => False
  | n + 1, pc, l, s, Z => match P.2.2 pc with
    | none => False
    | some e => wpi2 d P rs Q e.1 e.2.2 pc l s Z fun pc' l' s' Z' => match s', mjFi pc' K with
      | [], some is => mjOn (mjCan is l') fun l2 => mjWx d P pc' l2 [] Z' Q
      | s', _ => wpx2 d P rs K Q n pc' l' s' Z'
theorem wpi2_ok {d pc len : Nat} {P : mjPm} {rs : mjRs} {Q : mjQ} {k : mjK} {l : mjYl} {s : List mjY} {Z : mjZ} {next : mjNx} (ins : Instr) (h1 : P.2.2 pc = some (ins, len, k)) (ol : mjOkL l) (os : mjOkS s) (h : wpi2 d P rs Q ins k pc l s Z next) : mjAd2 d P pc l s Z next ∨ mjFin P ins s Z Q := by
  cases ins
  case l2i =>
    refine Or.inl (mjAd2.of h1 ?_)
    simp only [wpi2] at h
    split at h
    · exact ⟨_, _, _, _, ol, okc okI (okt os), fun _ => by simp only [mjStep, mjYs, List.map_cons, mjYv, mjL2I, Int32.ofInt_toInt], h⟩
    · exact h.elim
  all_goals exact wpi_ok (rs := rs) _ h1 ol os h
theorem wpx2_ok {d : Nat} {P : mjPm} {rs : mjRs} {K : mjKs} {Q : mjQ} (hK : mjKok K = true) : ∀ (n pc : Nat) (l : mjYl) (s : List mjY) (Z : mjZ), wpx2 d P rs K Q n pc l s Z → mjWx d P pc l s Z Q
  | 0, _, _, _, _, h => h.elim
  | n + 1, pc, l, s, Z, h => fun ol os => by
    unfold wpx2 at h
    split at h
    · exact h.elim
    · rename_i e he
      rcases wpi2_ok (len := e.2.1) e.1 he ol os h with h | h
      · obtain ⟨pc', l', s', Z', ol', os', hto, hn⟩ := h
        split at hn
        · rename_i is hfi
          obtain ⟨l2, h1, h2⟩ := mjOn_ex hn
          obtain ⟨g1, g2⟩ := mjCan_eq is l' l2 h1 ol'
          obtain ⟨v, Z2, g3, g4, g5⟩ := h2 g2 os'
          refine ⟨v, Z2, mjEnd_tr hto (mjEnd_ge g1 ?_ g3), g4, g5⟩
          obtain ⟨q, hq1, hq2⟩ := mjFi_mem hfi
          have h7 := mjNdB_ok (List.all_eq_true.mp hK q hq1)
          rw [hq2, ← mjCan_keys is l' l2 h1] at h7
          unfold mjNd mjYm
          rw [List.map_map]
          exact h7
        · obtain ⟨v, Z2, g3, g4, g5⟩ := wpx2_ok hK n pc' l' _ Z' hn ol' os'
          exact ⟨v, Z2, mjEnd_tr hto g3, g4, g5⟩
      · obtain ⟨v, h2, h3, h4, h5⟩ := h
        exact ⟨v, Z, mjEnd_here he h2 h3, h4, h5⟩
/-- a row of Z as a whole -/
def mjRow (Z : mjZ) (A : Nat) (g : Nat → Int) : mjZ := fun a => if a = A then g else Z a
theorem mjRow_at {Z : mjZ} {A : Nat} {g : Nat → Int} : mjRow Z A g A = g := if_pos rfl
theorem mjRow_ne {Z : mjZ} {A a : Nat} {g : Nat → Int} (h : a ≠ A) : mjRow Z A g a = Z a := if_neg h
theorem mjRow_self {Z : mjZ} {A : Nat} : mjRow Z A (Z A) = Z := by
  funext a
  unfold mjRow
  split
  · rename_i h; rw [h]
  · rfl
theorem mjRow_up {Z : mjZ} {A j : Nat} {g : Nat → Int} {v : Int} : mjUp (mjRow Z A g) A j v = mjRow Z A (va_up g j v) := by
  funext a i
  by_cases h : a = A
  · subst h
    rw [mjUp_c, mjRow_at, mjRow_at]
  · rw [mjUp_nc h, mjRow_ne h, mjRow_ne h]
theorem mjRow_row {Z : mjZ} {A : Nat} {g h : Nat → Int} : mjRow (mjRow Z A g) A h = mjRow Z A h := by
  funext a
  unfold mjRow
  split <;> rfl
/-- f 0, f 1, .. one after the other -/
def fo {α : Type} (f : Nat → α → α) : Nat → α → α
  | 0, a => a
  | m + 1, a => f m (fo f m a)
theorem lp_fold {α : Type} {n : Nat} {f : Nat → α → α} {L Y : Nat → α → Prop} {a : α} (hY : ∀ i a, i < n → Y i a → Y (i + 1) (f i a)) (h : ∀ i a, i < n → Y i a → L (i + 1) (f i a) → L i a) (ha : Y 0 a) (hf : Y n (fo f n a) → L n (fo f n a)) : L 0 a := by
  have hy : ∀ i, i ≤ n → Y i (fo f i a) := by
    intro i
    induction i with
    | zero => intro _; exact ha
    | succ i ih => intro hi; exact hY i _ (by omega) (ih (by omega))
  have : ∀ m i, i + m = n → L i (fo f i a) := by
    intro m
    induction m with
    | zero => intro i hi; have : i = n := by omega
              subst this
              exact hf (hy i (Nat.le_refl _))
    | succ m ih => intro i hi; exact h i _ (by omega) (hy i (by omega)) (ih (i + 1) (by omega))
  exact this n 0 (Nat.zero_add _)
theorem lp_fold0 {α : Type} {n : Nat} {f : Nat → α → α} {L : Nat → α → Prop} {a : α} (h : ∀ i a, i < n → L (i + 1) (f i a) → L i a) (hf : L n (fo f n a)) : L 0 a := lp_fold (Y := fun _ _ => True) (fun _ _ _ _ => trivial) (fun i a h1 _ => h i a h1) trivial fun _ => hf
/-- the first thing found -/
def sr {β : Type} (P : Nat → Option β) : Nat → Nat → Option β
  | 0, _ => none
  | m + 1, i => match P i with
    | some b => some b
    | none => sr P m (i + 1)
theorem lp_find {β : Type} {n : Nat} {P : Nat → Option β} {L : Nat → Prop} {E : β → Prop} (h : ∀ i, i < n → (P i = none → L (i + 1)) → (∀ r, P i = some r → E r) → L i) (hn : sr P n 0 = none → L n) (hs : ∀ r, sr P n 0 = some r → E r) : L 0 := by
  have : ∀ m i, i + m = n → (sr P m i = none → L n) → (∀ r, sr P m i = some r → E r) → L i := by
    intro m
    induction m with
    | zero => intro i hi h1 _; have : i = n := by omega
              subst this
              exact h1 rfl
    | succ m ih =>
      intro i hi h1 h2
      refine h i (by omega) (fun g => ih (i + 1) (by omega) (fun k => h1 ?_) fun r k => h2 r ?_) fun r g => h2 r ?_
      · unfold sr; rw [g]; exact k
      · unfold sr; rw [g]; exact k
      · unfold sr; rw [g]
  exact this n 0 (Nat.zero_add _) hn hs
theorem sr_none {β : Type} {P : Nat → Option β} : ∀ (m i : Nat), sr P m i = none ↔ ∀ k, i ≤ k → k < i + m → P k = none
  | 0, i => ⟨fun _ k h1 h2 => by omega, fun _ => rfl⟩
  | m + 1, i => by
    unfold sr
    constructor
    · intro h k h1 h2
      cases hp : P i with
      | some b => rw [hp] at h; cases h
      | none =>
        rw [hp] at h
        rcases Nat.eq_or_lt_of_le h1 with g | g
        · subst g; exact hp
        · exact (sr_none m (i + 1)).mp h k g (by omega)
    · intro h
      rw [h i (Nat.le_refl _) (by omega)]
      exact (sr_none m (i + 1)).mpr fun k h1 h2 => h k (by omega) (by omega)
theorem sr_congr {β : Type} {P Q : Nat → Option β} : ∀ (m i : Nat), (∀ k, i ≤ k → k < i + m → P k = Q k) → sr P m i = sr Q m i
  | 0, i, _ => rfl
  | m + 1, i, h => by
    unfold sr
    rw [h i (Nat.le_refl _) (by omega), sr_congr m (i + 1) fun k h1 h2 => h k (by omega) (by omega)]
theorem fo_congr {α : Type} {f g : Nat → α → α} {a : α} : ∀ n : Nat, (∀ i b, i < n → f i b = g i b) → fo f n a = fo g n a
  | 0, _ => rfl
  | n + 1, h => by
    show f n (fo f n a) = g n (fo g n a)
    rw [fo_congr n fun i b hi => h i b (by omega), h n _ (Nat.lt_succ_self n)]
theorem fo_inv {α : Type} {f : Nat → α → α} {Y : Nat → α → Prop} {a : α} : ∀ n : Nat, Y 0 a → (∀ i b, i < n → Y i b → Y (i + 1) (f i b)) → Y n (fo f n a)
  | 0, h0, _ => h0
  | n + 1, h0, h => h n _ (Nat.lt_succ_self n) (fo_inv n h0 fun i b hi => h i b (by omega))
/-- n times n places of a row of six by six -/
def rF (n : Nat) (x : Nat → Nat → Int) (g : Nat → Int) : Nat → Int := fo (fun i g => fo (fun k g => va_up g (6 * i + k) (x i k)) n g) n g
theorem rF1 {i n : Nat} {x : Nat → Int} {g : Nat → Int} (hn : n ≤ 6) : ∀ m, m ≤ n → ∀ j, fo (fun k g => va_up g (6 * i + k) (x k)) m g j = if j / 6 = i ∧ j % 6 < m then x (j % 6) else g j
  | 0, _, j => by rw [if_neg (by omega)]; rfl
  | m + 1, hm, j => by
    show (if j = 6 * i + m then x m else fo (fun k g => va_up g (6 * i + k) (x k)) m g j) = _
    by_cases h : j = 6 * i + m
    · rw [if_pos h, if_pos (by omega)]
      congr 1
      omega
    · rw [if_neg h, rF1 hn m (by omega) j]
      by_cases h2 : j / 6 = i ∧ j % 6 < m
      · rw [if_pos h2, if_pos (by omega)]
      · rw [if_neg h2, if_neg (by omega)]
theorem rF_val {n : Nat} {x : Nat → Nat → Int} {g : Nat → Int} (hn : n ≤ 6) (j : Nat) : rF n x g j = if j / 6 < n ∧ j % 6 < n then x (j / 6) (j % 6) else g j := by
  have : ∀ m, m ≤ n → fo (fun i g => fo (fun k g => va_up g (6 * i + k) (x i k)) n g) m g j = if j / 6 < m ∧ j % 6 < n then x (j / 6) (j % 6) else g j := by
    intro m
    induction m with
    | zero => intro _; rw [if_neg (by omega)]; rfl
    | succ m ih =>
      intro hm
      show fo (fun k g => va_up g (6 * m + k) (x m k)) n (fo _ m g) j = _
      rw [rF1 hn n (Nat.le_refl _) j, ih (by omega)]
      by_cases h : j / 6 = m ∧ j % 6 < n
      · rw [if_pos h, if_pos (by omega), h.1]
      · rw [if_neg h]
        by_cases h2 : j / 6 < m ∧ j % 6 < n
        · rw [if_pos h2, if_pos (by omega)]
        · rw [if_neg h2, if_neg (by omega)]
  exact this n (Nat.le_refl _)
