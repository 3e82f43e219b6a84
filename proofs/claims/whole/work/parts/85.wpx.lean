/-! What a walk wants: to its return, its loops and joins. -/
abbrev mjPm : Type := Nat × Option FieldType × mjTab
abbrev mjKs : Type := List (Nat × List Nat)
abbrev mjRs : Type := List (Nat × Nat × Nat)
def mjEnd (d : Nat) (P : mjPm) (st : mjS) (v : Option Value) (h' : mjH) : Prop := ∃ (st' : mjS) (e : mjI), mjTo d P.1 none P.2.2 st st' ∧ P.2.2 st'.1 = some e ∧ mjIsRet e.1 = true ∧ mjOut P.2.1 e.1 st'.2.2.1 = some v ∧ st'.2.2.2 = h'
def mjWx (d : Nat) (P : mjPm) (pc : Nat) (l : mjYl) (s : List mjY) (Z : mjZ) (Q : mjQ) : Prop := mjOkL l → mjOkS s → ∃ (v : Option mjY) (Z' : mjZ), mjEnd d P (pc, mjYm l, mjYs s, mjMZ Z) (v.map mjYv) (mjMZ Z') ∧ (∀ y, v = some y → mjYok y) ∧ Q v Z'
def mjCan : List Nat → mjYl → Option mjYl
  | [], _ => some []
  | i :: is, l => (mjLkY i l).bind fun y => (mjCan is l).bind fun t => some ((i, y) :: t)
def mjFi {α : Type} (i : Nat) : List (Nat × α) → Option α
  | [] => none
  | q :: t => bif Nat.beq q.1 i then some q.2 else mjFi i t
def mjRk (rs : mjRs) (mid : Nat) : Nat × Nat := match mjFi mid rs with
  | some q => q
  | none => (0, 0)
def wRet (ret : Option FieldType) (ins : Instr) (s : List mjY) (Z : mjZ) (Q : mjQ) : Prop := match ins, s with
  | .ireturn, [.inl z] => match ret with
    | some .int => Q (some (yI z)) Z
    | some .boolean => (z = 0 ∨ z = 1) ∧ Q (some (yI z)) Z
    | _ => False
  | .lreturn, [.inr (.inl z)] => match ret with
    | some .long => Q (some (yJ z)) Z
    | _ => False
  | .areturn, [.inr (.inr (.inl q))] => match ret with
    | some (.object _) => Q (some (yR q.1 q.2)) Z
    | some (.array _) => Q (some (yR q.1 q.2)) Z
    | _ => False
  | .areturn, [.inr (.inr (.inr .null))] => match ret with
    | some (.object _) => Q (some (yV .null)) Z
    | some (.array _) => Q (some (yV .null)) Z
    | _ => False
  | .return_, [] => match ret with
    | none => Q none Z
    | _ => False
  | _, _ => False
/-- the JDK's own -/
def wNat (t pc : Nat) (l : mjYl) (s : List mjY) (Z : mjZ) (next : mjNx) : Prop := match t with
  | 9 => match s with
    | .inl x :: r => bif Nat.ble (mjCat (mjYs r)) 8 then vn_sni2f (Int32.ofInt x) = false ∧ next (pc + 3) l (yV (.float (Int32.ofInt x).toUInt32) :: r) Z else False
    | _ => False
  | 10 => match s with
    | .inr (.inl x) :: r => bif Nat.ble (mjCat (mjYs r)) 8 then vn_snl2d (Int64.ofInt x) = false ∧ next (pc + 3) l (yV (.double (Int64.ofInt x).toUInt64) :: r) Z else False
    | _ => False
  | 11 => match s with
    | .inl y :: .inl x :: r => bif Nat.ble (mjCat (mjYs r)) 8 then mjR x ∧ mjR y ∧ next (pc + 3) l (yI (if x < y then y else x) :: r) Z else False
    | _ => False
  | 12 => match s with
    | .inl y :: .inl x :: r => bif Nat.ble (mjCat (mjYs r)) 8 then mjR x ∧ mjR y ∧ next (pc + 3) l (yI (if y < x then y else x) :: r) Z else False
    | _ => False
  | 13 => match s with
    | .inl x :: r => bif Nat.ble (mjCat (mjYs r)) 8 then mjR x ∧ next (pc + 3) l (yI (if 0 ≤ x then x else 0 - x) :: r) Z else False
    | _ => False
  | 14 => match s with
    | .inr (.inl x) :: r => bif Nat.ble (mjCat (mjYs r)) 8 then mjRL x ∧ next (pc + 3) l (yJ (if 0 < x then x else -x) :: r) Z else False
    | _ => False
  | _ => False
def wpi (d : Nat) (P : mjPm) (rs : mjRs) (Q : mjQ) (ins : Instr) (k : mjK) (pc : Nat) (l : mjYl) (s : List mjY) (Z : mjZ) (next : mjNx) : Prop := match ins with
  | .ifCond c off => match s with
    | .inl x :: r => mjR x ∧ mjOn (mjJmp pc off) fun n => (mjCz c x 0 → next n l r Z) ∧ (¬ mjCz c x 0 → next (pc + 3) l r Z)
    | _ => False
  | .if_icmp c off => match s with
    | .inl y :: .inl x :: r => mjR x ∧ mjR y ∧ mjOn (mjJmp pc off) fun n => (mjCz c x y → next n l r Z) ∧ (¬ mjCz c x y → next (pc + 3) l r Z)
    | _ => False
  | .ifnull off => match s with
    | .inr (.inr (.inr .null)) :: r => mjOn (mjJmp pc off) fun n => next n l r Z
    | .inr (.inr (.inl _)) :: r => mjOn (mjJmp pc off) fun _ => next (pc + 3) l r Z
    | _ => False
  | .ifnonnull off => match s with
    | .inr (.inr (.inr .null)) :: r => mjOn (mjJmp pc off) fun _ => next (pc + 3) l r Z
    | .inr (.inr (.inl _)) :: r => mjOn (mjJmp pc off) fun n => next n l r Z
    | _ => False
  | .invokevirtual _ => mjOn (mjSpY (k.2.2.1 + 1) s []) fun q => match q.1 with
    | .inr (.inr (.inl o)) :: _ => bif Nat.beq o.1 k.2.2.2.1 && Nat.blt o.1 12 && Nat.ble (mjCat (mjYs q.2)) 8 then mjWc (mjRk rs k.2.1) d k.2.1 q.1 q.2 Z fun s' Z' => next (pc + 3) l s' Z' else False
    | _ => False
  | .invokestatic _ => bif Nat.beq k.1 3 then mjOn (mjSpY k.2.2.1 s []) fun q => (bif Nat.ble (mjCat (mjYs q.2)) 8 then mjWc (mjRk rs k.2.1) d k.2.1 q.1 q.2 Z fun s' Z' => next (pc + 3) l s' Z' else False)
    else bif Nat.blt 0 d then wNat k.1 pc l s Z next else False
  | .ireturn => wRet P.2.1 .ireturn s Z Q
  | .lreturn => wRet P.2.1 .lreturn s Z Q
  | .areturn => wRet P.2.1 .areturn s Z Q
  | .return_ => wRet P.2.1 .return_ s Z Q
  | _ => wpp P.1 ins k pc l s Z next
def wpx (d : Nat) (P : mjPm) (rs : mjRs) (K : mjKs) (Q : mjQ) : Nat → Nat → mjYl → List mjY → mjZ → Prop
  | 0, _, _, _, _ => False
  | n + 1, pc, l, s, Z => match P.2.2 pc with
    | none => False
    | some e => wpi d P rs Q e.1 e.2.2 pc l s Z fun pc' l' s' Z' => match s', mjFi pc' K with
      | [], some is => mjOn (mjCan is l') fun l2 => mjWx d P pc' l2 [] Z' Q
      | s', _ => wpx d P rs K Q n pc' l' s' Z'
def mjAd2 (d : Nat) (P : mjPm) (pc : Nat) (l : mjYl) (s : List mjY) (Z : mjZ) (next : mjNx) : Prop := ∃ (pc' : Nat) (l' : mjYl) (s' : List mjY) (Z' : mjZ), mjOkL l' ∧ mjOkS s' ∧ mjTo d P.1 none P.2.2 (pc, mjYm l, mjYs s, mjMZ Z) (pc', mjYm l', mjYs s', mjMZ Z') ∧ next pc' l' s' Z'
def mjFin (P : mjPm) (ins : Instr) (s : List mjY) (Z : mjZ) (Q : mjQ) : Prop := ∃ v : Option mjY, mjIsRet ins = true ∧ mjOut P.2.1 ins (mjYs s) = some (v.map mjYv) ∧ (∀ y, v = some y → mjYok y) ∧ Q v Z
theorem wRet_ok {P : mjPm} {ins : Instr} {s : List mjY} {Z : mjZ} {Q : mjQ} (os : mjOkS s) (h : wRet P.2.1 ins s Z Q) : mjFin P ins s Z Q := by
  unfold wRet at h
  split at h
  · split at h
    · rename_i e
      exact ⟨_, rfl, by simp [mjOut, mjYs, mjYv, e], fun y hy => by cases hy; exact okI, h⟩
    · rename_i e
      obtain ⟨h1, h2⟩ := h
      refine ⟨_, rfl, ?_, fun y hy => by cases hy; exact okI, h2⟩
      rcases h1 with h1 | h1 <;> subst h1 <;> simp [mjOut, mjYs, mjYv, e]
    · exact h.elim
  · split at h
    · rename_i e
      exact ⟨_, rfl, by simp [mjOut, mjYs, mjYv, e], fun y hy => by cases hy; exact okJ, h⟩
    · exact h.elim
  · rename_i q
    split at h
    · rename_i e
      exact ⟨_, rfl, by simp [mjOut, mjYs, mjYv, e], fun y hy => by cases hy; exact okh (y := yR q.1 q.2) os, h⟩
    · rename_i e
      exact ⟨_, rfl, by simp [mjOut, mjYs, mjYv, e], fun y hy => by cases hy; exact okh (y := yR q.1 q.2) os, h⟩
    · exact h.elim
  · split at h
    · rename_i e
      exact ⟨_, rfl, by simp [mjOut, mjYs, mjYv, e], fun y hy => by cases hy; exact okV, h⟩
    · rename_i e
      exact ⟨_, rfl, by simp [mjOut, mjYs, mjYv, e], fun y hy => by cases hy; exact okV, h⟩
    · exact h.elim
  · split at h
    · rename_i e
      exact ⟨none, rfl, by simp [mjOut, mjYs, e], (fun y hy => by cases hy), h⟩
    · exact h.elim
  · exact h.elim
theorem mjSpY_eq : ∀ (n : Nat) (s acc as r : List mjY), mjSpY n s acc = some (as, r) → mjOkS s → mjOkS acc → mjSplit n (mjYs s) (mjYs acc) = some (mjYs as, mjYs r) ∧ mjOkS as ∧ mjOkS r
  | 0, s, acc, as, r, h, os, oa => by
    simp only [mjSpY, Option.some.injEq, Prod.mk.injEq] at h
    obtain ⟨h1, h2⟩ := h
    subst h1 h2
    exact ⟨rfl, oa, os⟩
  | n + 1, [], acc, as, r, h, os, oa => by cases h
  | n + 1, v :: s, acc, as, r, h, os, oa => mjSpY_eq n s (v :: acc) as r h (okt os) (okc (okh os) oa)
theorem mjTo.virK {d nL : Nat} {sc : Option (List Int32)} {tab : mjTab} {pc a idx len : Nat} {k : mjK} {l : mjL} {s as r : List Value} {h h' : mjH} {fs : List Value} {v : Option Value} (h1 : tab pc = some (.invokevirtual idx, len, k))
    (h2 : mjSplit (k.2.2.1 + 1) s [] = some (.ref (a + 1) :: as, r)) (h3 : h[a]? = some (.inl (k.2.2.2.1, fs))) (h4 : Nat.ble (mjCat r) 8 = true) (h5 : mjDoes d k.2.1 (.ref (a + 1) :: as) h v h') : mjTo d nL sc tab (pc, l, s, h) (pc + 3, l, mjRes v r, h') := by
  obtain ⟨F, h5⟩ := h5
  refine ⟨F, 1, ?_⟩
  unfold mjGon
  simp only [h1, Option.bind_some, mjStep, h2, mjIs, h3, Nat.beq_refl, cond_true, mjInv, h4, h5]
  rfl
theorem mjTo.staK {d nL : Nat} {sc : Option (List Int32)} {tab : mjTab} {pc idx len : Nat} {k : mjK} {l : mjL} {s as r : List Value} {h h' : mjH} {v : Option Value} (h1 : tab pc = some (.invokestatic idx, len, k)) (h0 : Nat.beq k.1 3 = true)
    (h2 : mjSplit k.2.2.1 s [] = some (as, r)) (h4 : Nat.ble (mjCat r) 8 = true) (h5 : mjDoes d k.2.1 as h v h') : mjTo d nL sc tab (pc, l, s, h) (pc + 3, l, mjRes v r, h') := by
  obtain ⟨F, h5⟩ := h5
  refine ⟨F, 1, ?_⟩
  unfold mjGon
  simp only [h1, Option.bind_some, mjStep, h2, h0, cond_true, mjInv, h4, h5]
  rfl
theorem mjWc_ex {rk : Nat × Nat} {d mid : Nat} {as r : List mjY} {Z : mjZ} {next : List mjY → mjZ → Prop} (oa : mjOkS as) (or : mjOkS r) (h : mjWc rk d mid as r Z next) : ∃ (v : Option mjY) (Z' : mjZ) (s' : List mjY), mjDoes d mid (mjYs as) (mjMZ Z) (v.map mjYv) (mjMZ Z') ∧ mjYs s' = mjRes (v.map mjYv) (mjYs r) ∧ mjOkS s' ∧ next s' Z' := by
  unfold mjWc at h
  split at h
  · obtain ⟨v, Z', h1, h2, h3, h4⟩ := h oa
    subst h3
    exact ⟨none, Z', r, h1, rfl, or, h4⟩
  · obtain ⟨v, Z', h1, h2, z, h3, h4⟩ := h oa
    subst h3
    exact ⟨_, Z', yI z :: r, h1, rfl, okc okI or, h4⟩
  · obtain ⟨v, Z', h1, h2, z, h3, h4⟩ := h oa
    subst h3
    exact ⟨_, Z', yJ z :: r, h1, rfl, okc okJ or, h4⟩
  · obtain ⟨v, Z', h1, h2, c, h3, h4⟩ := h oa
    subst h3
    exact ⟨_, Z', yR rk.2 c :: r, h1, rfl, okc (h2 _ rfl) or, h4⟩
  · obtain ⟨v, Z', h1, h2, h3 | ⟨c, h3, h4⟩⟩ := h oa
    · obtain ⟨h3, h4⟩ := h3
      subst h3
      exact ⟨_, Z', yV .null :: r, h1, rfl, okc okV or, h4⟩
    · subst h3
      exact ⟨_, Z', yR rk.2 c :: r, h1, rfl, okc (h2 _ rfl) or, h4⟩
theorem mjTo.stepK {d nL pc len : Nat} {sc : Option (List Int32)} {tab : mjTab} {ins : Instr} {k : mjK} {l : mjL} {s : List Value} {h : mjH} {s2 : mjS} (h1 : tab pc = some (ins, len, k)) (h2 : ∀ call : mjT, mjStep mjFs d nL sc call ins k pc l s h = some s2) : mjTo d nL sc tab (pc, l, s, h) s2 := mjTo.pure 1 fun call => by
  unfold mjGon
  rw [h1]
  simp only [Option.bind_some]
  rw [h2 call]
  rfl
section MJW
variable {d pc len : Nat} {P : mjPm} {rs : mjRs} {Q : mjQ} {k : mjK} {l : mjYl} {s : List mjY} {Z : mjZ} {next : mjNx}
theorem mjAd2.of {ins : Instr} (h1 : P.2.2 pc = some (ins, len, k)) (h : mjAdv P.1 d ins k pc l s Z next) : mjAd2 d P pc l s Z next := by
  obtain ⟨pc', l', s', Z', g1, g2, g3, g4⟩ := h
  exact ⟨pc', l', s', Z', g1, g2, mjTo.stepK h1 g3, g4⟩
theorem mjR_cmp {c : Jvm.ClassFile.Cond} {x y : Int} (hx : mjR x) (hy : mjR y) : mjCmp c (Int32.ofInt x) (Int32.ofInt y) = true ↔ mjCz c x y := by
  have e1 : Int32.ofInt x = Int32.ofInt y ↔ x = y := by rw [← Int32.toInt_inj, mjR_int hx, mjR_int hy]
  have e2 : Int32.ofInt x < Int32.ofInt y ↔ x < y := by rw [Int32.lt_iff_toInt_lt, mjR_int hx, mjR_int hy]
  have e3 : Int32.ofInt y < Int32.ofInt x ↔ y < x := by rw [Int32.lt_iff_toInt_lt, mjR_int hx, mjR_int hy]
  have e4 : Int32.ofInt x ≤ Int32.ofInt y ↔ x ≤ y := by rw [Int32.le_iff_toInt_le, mjR_int hx, mjR_int hy]
  have e5 : Int32.ofInt y ≤ Int32.ofInt x ↔ y ≤ x := by rw [Int32.le_iff_toInt_le, mjR_int hx, mjR_int hy]
  cases c <;> simp [mjCmp, mjCz, e1, e2, e3, e4, e5]
theorem mjR_0 : mjR 0 := by unfold mjR; omega
theorem mjBr_T {c : Jvm.ClassFile.Cond} {x y : Int} {n : Nat} {off : Int} {L : mjL} {S : List Value} {H : mjH} (hx : mjR x) (hy : mjR y) (hc : mjCz c x y) (hn : mjJmp pc off = some n) : mjBr (mjCmp c (Int32.ofInt x) (Int32.ofInt y)) pc 3 off L S H = some (n, L, S, H) := by
  rw [(mjR_cmp hx hy).mpr hc]
  unfold mjBr
  rw [hn]
  rfl
theorem mjBr_F {c : Jvm.ClassFile.Cond} {x y : Int} {n : Nat} {off : Int} {L : mjL} {S : List Value} {H : mjH} (hx : mjR x) (hy : mjR y) (hc : ¬ mjCz c x y) (hn : mjJmp pc off = some n) : mjBr (mjCmp c (Int32.ofInt x) (Int32.ofInt y)) pc 3 off L S H = some (pc + 3, L, S, H) := by
  have : mjCmp c (Int32.ofInt x) (Int32.ofInt y) = false := by
    cases hq : mjCmp c (Int32.ofInt x) (Int32.ofInt y) with
    | false => rfl
    | true => exact absurd ((mjR_cmp hx hy).mp hq) hc
  rw [this]
  unfold mjBr
  rw [hn]
  rfl
theorem mjR_ltI {x y : Int} (hx : mjR x) (hy : mjR y) : Int32.ofInt x < Int32.ofInt y ↔ x < y := by rw [Int32.lt_iff_toInt_lt, mjR_int hx, mjR_int hy]
theorem mjR_leI {x y : Int} (hx : mjR x) (hy : mjR y) : Int32.ofInt x ≤ Int32.ofInt y ↔ x ≤ y := by rw [Int32.le_iff_toInt_le, mjR_int hx, mjR_int hy]
theorem wNat_ok {idx t : Nat} (h1 : P.2.2 pc = some (.invokestatic idx, len, k)) (h0 : Nat.beq k.1 3 = false) (hd : Nat.blt 0 d = true) (ht : k.1 = t) (ol : mjOkL l) (os : mjOkS s) (h : wNat t pc l s Z next) : mjAd2 d P pc l s Z next := by
  have hs : ∀ call : mjT, mjStep mjFs d P.1 none call (.invokestatic idx) k pc (mjYm l) (mjYs s) (mjMZ Z) = mjNat t pc (mjYm l) (mjYs s) (mjMZ Z) := fun call => by
    subst ht
    simp only [mjStep, h0, cond_false, hd, cond_true]
  refine mjAd2.of h1 ?_
  unfold wNat at h
  split at h
  · split at h
    · rename_i x r
      cases hb : Nat.ble (mjCat (mjYs r)) 8 with
      | false => rw [hb] at h; exact h.elim
      | true =>
        rw [hb, cond_true] at h
        refine ⟨_, _, _, _, ol, okc okV (okt os), fun call => ?_, h.2⟩
        rw [hs call]
        simp only [mjNat, mjYs, List.map_cons, mjYv]
        have hb : Nat.ble (mjCat (List.map mjYv r)) 8 = true := hb
        rw [hb, h.1]
        rfl
    · exact h.elim
  · split at h
    · rename_i x r
      cases hb : Nat.ble (mjCat (mjYs r)) 8 with
      | false => rw [hb] at h; exact h.elim
      | true =>
        rw [hb, cond_true] at h
        refine ⟨_, _, _, _, ol, okc okV (okt os), fun call => ?_, h.2⟩
        rw [hs call]
        simp only [mjNat, mjYs, List.map_cons, mjYv]
        have hb : Nat.ble (mjCat (List.map mjYv r)) 8 = true := hb
        rw [hb, h.1]
        rfl
    · exact h.elim
  · split at h
    · rename_i y x r
      cases hb : Nat.ble (mjCat (mjYs r)) 8 with
      | false => rw [hb] at h; exact h.elim
      | true =>
        rw [hb, cond_true] at h
        refine ⟨_, _, _, _, ol, okc okI (okt (okt os)), fun call => ?_, h.2.2⟩
        rw [hs call]
        simp only [mjNat, mjYs, List.map_cons, mjYv]
        have hb : Nat.ble (mjCat (List.map mjYv r)) 8 = true := hb
        rw [hb]
        have e := mjR_ltI h.1 h.2.1
        by_cases g : x < y
        · rw [if_pos g, if_pos (e.mpr g)]; rfl
        · rw [if_neg g, if_neg (fun q => g (e.mp q))]; rfl
    · exact h.elim
  · split at h
    · rename_i y x r
      cases hb : Nat.ble (mjCat (mjYs r)) 8 with
      | false => rw [hb] at h; exact h.elim
      | true =>
        rw [hb, cond_true] at h
        refine ⟨_, _, _, _, ol, okc okI (okt (okt os)), fun call => ?_, h.2.2⟩
        rw [hs call]
        simp only [mjNat, mjYs, List.map_cons, mjYv]
        have hb : Nat.ble (mjCat (List.map mjYv r)) 8 = true := hb
        rw [hb]
        have e := mjR_ltI h.2.1 h.1
        by_cases g : y < x
        · rw [if_pos g, if_pos (e.mpr g)]; rfl
        · rw [if_neg g, if_neg (fun q => g (e.mp q))]; rfl
    · exact h.elim
  · split at h
    · rename_i x r
      cases hb : Nat.ble (mjCat (mjYs r)) 8 with
      | false => rw [hb] at h; exact h.elim
      | true =>
        rw [hb, cond_true] at h
        refine ⟨_, _, _, _, ol, okc okI (okt os), fun call => ?_, h.2⟩
        rw [hs call]
        simp only [mjNat, mjYs, List.map_cons, mjYv]
        have hb : Nat.ble (mjCat (List.map mjYv r)) 8 = true := hb
        rw [hb]
        have e : (0 : Int32) ≤ Int32.ofInt x ↔ 0 ≤ x := mjR_leI (x := 0) mjR_0 h.1
        by_cases g : 0 ≤ x
        · rw [if_pos g, if_pos (e.mpr g)]; rfl
        · rw [if_neg g, if_neg (fun q => g (e.mp q)), Int32.ofInt_sub]; rfl
    · exact h.elim
  · split at h
    · rename_i x r
      cases hb : Nat.ble (mjCat (mjYs r)) 8 with
      | false => rw [hb] at h; exact h.elim
      | true =>
        rw [hb, cond_true] at h
        refine ⟨_, _, _, _, ol, okc okJ (okt os), fun call => ?_, h.2⟩
        rw [hs call]
        simp only [mjNat, mjYs, List.map_cons, mjYv]
        have hb : Nat.ble (mjCat (List.map mjYv r)) 8 = true := hb
        rw [hb]
        have e : (0 : Int64) < Int64.ofInt x ↔ 0 < x := mjJ_lt (x := 0) (by unfold mjRL; omega) h.1
        by_cases g : 0 < x
        · rw [if_pos g, if_pos (e.mpr g)]; rfl
        · rw [if_neg g, if_neg (fun q => g (e.mp q)), Int64.ofInt_neg]; rfl
    · exact h.elim
  · exact h.elim
set_option maxHeartbeats 4000000 in
theorem wpi_ok (ins : Instr) (h1 : P.2.2 pc = some (ins, len, k)) (ol : mjOkL l) (os : mjOkS s) (h : wpi d P rs Q ins k pc l s Z next) : mjAd2 d P pc l s Z next ∨ mjFin P ins s Z Q := by
  unfold wpi at h
  split at h
  · rename_i c off
    split at h
    · obtain ⟨hx, h⟩ := h
      obtain ⟨n, hn, g1, g2⟩ := mjOn_ex h
      rename_i x r
      refine Or.inl (mjAd2.of h1 ?_)
      by_cases hc : mjCz c x 0
      · exact ⟨_, _, _, _, ol, okt os, fun call => mjBr_T (y := 0) hx mjR_0 hc hn, g1 hc⟩
      · exact ⟨_, _, _, _, ol, okt os, fun call => mjBr_F (y := 0) hx mjR_0 hc hn, g2 hc⟩
    · exact h.elim
  · rename_i c off
    split at h
    · obtain ⟨hx, hy, h⟩ := h
      obtain ⟨n, hn, g1, g2⟩ := mjOn_ex h
      rename_i y x r
      refine Or.inl (mjAd2.of h1 ?_)
      by_cases hc : mjCz c x y
      · exact ⟨_, _, _, _, ol, okt (okt os), fun call => mjBr_T hx hy hc hn, g1 hc⟩
      · exact ⟨_, _, _, _, ol, okt (okt os), fun call => mjBr_F hx hy hc hn, g2 hc⟩
    · exact h.elim
  · split at h
    · obtain ⟨n, hn, g⟩ := mjOn_ex h
      exact Or.inl (mjAd2.of h1 ⟨_, _, _, _, ol, okt os, fun call => by simp only [mjStep, mjYs, List.map_cons, mjYv, mjBr, hn]; rfl, g⟩)
    · obtain ⟨n, hn, g⟩ := mjOn_ex h
      exact Or.inl (mjAd2.of h1 ⟨_, _, _, _, ol, okt os, fun call => by simp only [mjStep, mjYs, List.map_cons, mjYv, mjBr, hn]; rfl, g⟩)
    · exact h.elim
  · split at h
    · obtain ⟨n, hn, g⟩ := mjOn_ex h
      exact Or.inl (mjAd2.of h1 ⟨_, _, _, _, ol, okt os, fun call => by simp only [mjStep, mjYs, List.map_cons, mjYv, mjBr, hn]; rfl, g⟩)
    · obtain ⟨n, hn, g⟩ := mjOn_ex h
      exact Or.inl (mjAd2.of h1 ⟨_, _, _, _, ol, okt os, fun call => by simp only [mjStep, mjYs, List.map_cons, mjYv, mjBr, hn]; rfl, g⟩)
    · exact h.elim
  · obtain ⟨⟨as, r⟩, hq, h⟩ := mjOn_ex h
    obtain ⟨e1, oa, or⟩ := mjSpY_eq _ _ _ _ _ hq os (fun y hy => by cases hy)
    split at h
    · rename_i o t e2
      dsimp only at e2
      cases hb : Nat.beq o.1 k.2.2.2.1 && Nat.blt o.1 12 && Nat.ble (mjCat (mjYs r)) 8 with
      | false => rw [hb] at h; exact h.elim
      | true =>
        rw [hb, cond_true] at h
        rw [Bool.and_eq_true, Bool.and_eq_true] at hb
        obtain ⟨⟨b1, b2⟩, b3⟩ := hb
        obtain ⟨v, Z', s', g1, g2, g3, g4⟩ := mjWc_ex oa or h
        subst e2
        have hr := Nat.eq_of_beq_eq_true b1
        have ho : mjOk o.1 o.2 := okh (y := yR o.1 o.2) oa
        obtain ⟨ts, c1, c2, c3⟩ := mjTg_ob ho b2
        refine Or.inl ⟨_, _, _, _, ol, g3, ?_, g4⟩
        rw [g2]
        refine mjTo.virK (a := o.2) (fs := mjFs2 o.1 0 ts (Z o.2)) h1 e1 ?_ b3 g1
        rw [mjMZ_get (mjTg_lt ho), c1, ← hr]
        rfl
    · exact h.elim
  · cases hb : Nat.beq k.1 3 with
    | true =>
      rw [hb, cond_true] at h
      obtain ⟨⟨as, r⟩, hq, h⟩ := mjOn_ex h
      obtain ⟨e1, oa, or⟩ := mjSpY_eq _ _ _ _ _ hq os (fun y hy => by cases hy)
      cases hc : Nat.ble (mjCat (mjYs r)) 8 with
      | false => rw [hc] at h; exact h.elim
      | true =>
        rw [hc, cond_true] at h
        obtain ⟨v, Z', s', g1, g2, g3, g4⟩ := mjWc_ex oa or h
        refine Or.inl ⟨_, _, _, _, ol, g3, ?_, g4⟩
        rw [g2]
        exact mjTo.staK h1 hb e1 hc g1
    | false =>
      rw [hb, cond_false] at h
      cases hd : Nat.blt 0 d with
      | false => rw [hd] at h; exact h.elim
      | true =>
        rw [hd, cond_true] at h
        exact Or.inl (wNat_ok h1 hb hd rfl ol os h)
  · exact Or.inr (wRet_ok os h)
  · exact Or.inr (wRet_ok os h)
  · exact Or.inr (wRet_ok os h)
  · exact Or.inr (wRet_ok os h)
  · exact Or.inl (mjAd2.of h1 (wpp_ok ins ol os h))
theorem mjCan_eq : ∀ (is : List Nat) (l l2 : mjYl), mjCan is l = some l2 → mjOkL l → (∀ (i : Nat) (v : Value), mjLk i (mjYm l2) = some v → mjLk i (mjYm l) = some v) ∧ mjOkL l2
  | [], l, l2, h, _ => by
    cases h
    exact ⟨fun i v h => by simp [mjYm, mjLk] at h, fun q hq => by cases hq⟩
  | i :: is, l, l2, h, ol => by
    unfold mjCan at h
    obtain ⟨y, h1, h2⟩ := Option.bind_eq_some_iff.mp h
    obtain ⟨t, h3, h4⟩ := Option.bind_eq_some_iff.mp h2
    cases h4
    obtain ⟨g1, g2⟩ := mjCan_eq is l t h3 ol
    refine ⟨fun j v hv => ?_, fun q hq => ?_⟩
    · rw [mjLkY_map] at hv ⊢
      unfold mjLkY at hv
      cases hb : Nat.beq i j with
      | true =>
        have := Nat.eq_of_beq_eq_true hb
        subst this
        rw [hb] at hv
        rw [h1]
        exact hv
      | false =>
        rw [hb, cond_false] at hv
        have := g1 j v (by rw [mjLkY_map]; exact hv)
        rwa [mjLkY_map] at this
    · rcases List.mem_cons.mp hq with hq | hq
      · subst hq
        exact mjLkY_ok ol h1
      · exact g2 q hq
end MJW
