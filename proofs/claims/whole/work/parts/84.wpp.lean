/-! What an instruction wants is enough. -/
theorem mjLkY_map (i : Nat) : ∀ l : mjYl, mjLk i (mjYm l) = (mjLkY i l).map mjYv
  | [] => rfl
  | q :: t => by
    simp only [mjYm, List.map_cons, mjLk, mjLkY]
    cases Nat.beq q.1 i with
    | true => rfl
    | false => exact mjLkY_map i t
theorem mjLkY_ok {i : Nat} {y : mjY} : ∀ {l : mjYl}, mjOkL l → mjLkY i l = some y → mjYok y
  | [], _, h => by cases h
  | q :: t, ho, h => by
    unfold mjLkY at h
    cases hb : Nat.beq q.1 i with
    | true =>
      rw [hb] at h
      cases h
      exact ho q (List.mem_cons_self ..)
    | false =>
      rw [hb] at h
      exact mjLkY_ok (fun q hq => ho q (List.mem_cons_of_mem _ hq)) h
theorem mjLdY_eq {t i : Nat} {l : mjYl} {y : mjY} (h : mjLdY t i l = some y) : mjLoad t i (mjYm l) = some (mjYv y) := by
  unfold mjLdY at h
  obtain ⟨v, h1, h2⟩ := Option.bind_eq_some_iff.mp h
  unfold mjLoad
  rw [mjLkY_map, h1]
  cases hb : Nat.beq (mjKd (mjYv v)) t with
  | false => rw [hb] at h2; cases h2
  | true =>
    rw [hb] at h2
    cases h2
    simp only [Option.map_some, Option.bind_some, hb, cond_true]
theorem mjLdY_ok {t i : Nat} {l : mjYl} {y : mjY} (ho : mjOkL l) (h : mjLdY t i l = some y) : mjYok y := by
  unfold mjLdY at h
  obtain ⟨v, h1, h2⟩ := Option.bind_eq_some_iff.mp h
  cases hb : Nat.beq (mjKd (mjYv v)) t with
  | false => rw [hb] at h2; cases h2
  | true =>
    rw [hb] at h2
    cases h2
    exact mjLkY_ok ho h1
theorem mjYm_filter (f : Nat × Value → Bool) (l : mjYl) : mjYm (l.filter fun q => f (q.1, mjYv q.2)) = (mjYm l).filter f := by
  unfold mjYm
  rw [List.filter_map]
  rfl
theorem mjS1Y_eq {t i nL : Nat} {y : mjY} {l l' : mjYl} (h : mjS1Y t i nL y l = some l') : mjSt1 t i nL (mjYv y) (mjYm l) = some (mjYm l') := by
  unfold mjS1Y at h
  unfold mjSt1
  cases hb : Nat.beq (mjKd (mjYv y)) t && Nat.blt i nL with
  | false => rw [hb] at h; cases h
  | true =>
    rw [hb] at h
    cases h
    rw [cond_true, ← mjYm_filter]
    rfl
theorem mjS2Y_eq {t i nL : Nat} {y : mjY} {l l' : mjYl} (h : mjS2Y t i nL y l = some l') : mjSt2 t i nL (mjYv y) (mjYm l) = some (mjYm l') := by
  unfold mjS2Y at h
  unfold mjSt2
  cases hb : Nat.beq (mjKd (mjYv y)) t && Nat.blt (i + 1) nL with
  | false => rw [hb] at h; cases h
  | true =>
    rw [hb] at h
    cases h
    rw [cond_true, ← mjYm_filter]
    rfl
theorem mjS1Y_ok {t i nL : Nat} {y : mjY} {l l' : mjYl} (ho : mjOkL l) (hy : mjYok y) (h : mjS1Y t i nL y l = some l') : mjOkL l' := by
  unfold mjS1Y at h
  cases hb : Nat.beq (mjKd (mjYv y)) t && Nat.blt i nL with
  | false => rw [hb] at h; cases h
  | true =>
    rw [hb] at h
    cases h
    intro q hq
    rcases List.mem_cons.mp hq with hq | hq
    · subst hq; exact hy
    · exact ho q (List.mem_filter.mp hq).1
theorem mjS2Y_ok {t i nL : Nat} {y : mjY} {l l' : mjYl} (ho : mjOkL l) (hy : mjYok y) (h : mjS2Y t i nL y l = some l') : mjOkL l' := by
  unfold mjS2Y at h
  cases hb : Nat.beq (mjKd (mjYv y)) t && Nat.blt (i + 1) nL with
  | false => rw [hb] at h; cases h
  | true =>
    rw [hb] at h
    cases h
    intro q hq
    rcases List.mem_cons.mp hq with hq | hq
    · subst hq; exact hy
    · exact ho q (List.mem_filter.mp hq).1
theorem okc {y : mjY} {s : List mjY} (hy : mjYok y) (hs : mjOkS s) : mjOkS (y :: s) := fun x hx => by
  rcases List.mem_cons.mp hx with h | h
  · subst h; exact hy
  · exact hs x h
theorem okt {y : mjY} {s : List mjY} (hs : mjOkS (y :: s)) : mjOkS s := fun x hx => hs x (List.mem_cons_of_mem _ hx)
theorem okh {y : mjY} {s : List mjY} (hs : mjOkS (y :: s)) : mjYok y := hs y (List.mem_cons_self ..)
theorem okI {z : Int} : mjYok (yI z) := trivial
theorem okJ {z : Int} : mjYok (yJ z) := trivial
theorem okV {v : Value} : mjYok (yV v) := trivial
def mjAdv (nL : Nat) (d : Nat) (ins : Instr) (k : mjK) (pc : Nat) (l : mjYl) (s : List mjY) (Z : mjZ) (next : mjNx) : Prop := ∃ (pc' : Nat) (l' : mjYl) (s' : List mjY) (Z' : mjZ), mjOkL l' ∧ mjOkS s' ∧ (∀ call : mjT, mjStep mjFs d nL none call ins k pc (mjYm l) (mjYs s) (mjMZ Z) = some (pc', mjYm l', mjYs s', mjMZ Z')) ∧ next pc' l' s' Z'
section MJP
variable {nL d pc : Nat} {k : mjK} {l : mjYl} {s : List mjY} {Z : mjZ} {next : mjNx}
theorem wII_ok {ins : Instr} {f : Int → Int → Int} {g : Int32 → Int32 → Int32} (hi : ∀ call : mjT, mjStep mjFs d nL none call ins k pc (mjYm l) (mjYs s) (mjMZ Z) = mjII g pc (mjYm l) (mjYs s) (mjMZ Z)) (hfg : ∀ x y : Int, g (Int32.ofInt x) (Int32.ofInt y) = Int32.ofInt (f x y)) (ol : mjOkL l) (os : mjOkS s) (h : wII f pc l s Z next) : mjAdv nL d ins k pc l s Z next := by
  unfold wII at h
  split at h
  · refine ⟨_, _, _, _, ol, okc okI (okt (okt os)), fun call => ?_, h⟩
    rw [hi call]
    simp only [mjII, mjYs, List.map_cons, mjYv, hfg]
  · exact h.elim
theorem wLL_ok {ins : Instr} {f : Int → Int → Int} {g : Int64 → Int64 → Int64} (hi : ∀ call : mjT, mjStep mjFs d nL none call ins k pc (mjYm l) (mjYs s) (mjMZ Z) = mjLL g pc (mjYm l) (mjYs s) (mjMZ Z)) (hfg : ∀ x y : Int, g (Int64.ofInt x) (Int64.ofInt y) = Int64.ofInt (f x y)) (ol : mjOkL l) (os : mjOkS s) (h : wLL f pc l s Z next) : mjAdv nL d ins k pc l s Z next := by
  unfold wLL at h
  split at h
  · refine ⟨_, _, _, _, ol, okc okJ (okt (okt os)), fun call => ?_, h⟩
    rw [hi call]
    simp only [mjLL, mjYs, List.map_cons, mjYv, hfg]
  · exact h.elim
theorem wLI_ok {ins : Instr} {f : Int → Int → Int} {g : Int64 → Int32 → Int64} (hi : ∀ call : mjT, mjStep mjFs d nL none call ins k pc (mjYm l) (mjYs s) (mjMZ Z) = mjLI g pc (mjYm l) (mjYs s) (mjMZ Z)) (hfg : ∀ x y : Int, g (Int64.ofInt x) (Int32.ofInt y) = Int64.ofInt (f x y)) (ol : mjOkL l) (os : mjOkS s) (h : wLI f pc l s Z next) : mjAdv nL d ins k pc l s Z next := by
  unfold wLI at h
  split at h
  · refine ⟨_, _, _, _, ol, okc okJ (okt (okt os)), fun call => ?_, h⟩
    rw [hi call]
    simp only [mjLI, mjYs, List.map_cons, mjYv, hfg]
  · exact h.elim
theorem wK_v (v : Value) : mjYv (wK v) = v := by
  cases v <;> simp [wK, mjYv]
theorem wK_ok (v : Value) : mjYok (wK v) := by
  cases v <;> exact trivial
theorem mjI2_of (f : Int32 → Int32 → Int32) (x y : Int) : f (Int32.ofInt x) (Int32.ofInt y) = Int32.ofInt (mjI2 f x y) := by simp [mjI2]
theorem mjJ2_of (f : Int64 → Int64 → Int64) (x y : Int) : f (Int64.ofInt x) (Int64.ofInt y) = Int64.ofInt (mjJ2 f x y) := by simp [mjJ2]
theorem mjJI_of (f : Int64 → Int32 → Int64) (x y : Int) : f (Int64.ofInt x) (Int32.ofInt y) = Int64.ofInt (mjJI f x y) := by simp [mjJI]
theorem mjI_ne0 {y : Int} (hy : mjR y) (h : y ≠ 0) : ¬ Int32.ofInt y = 0 := fun e => h (by
  have := congrArg Int32.toInt e
  rw [mjR_int hy] at this
  exact this)
theorem mjJ_ne0 {y : Int} (hy : mjRL y) (h : y ≠ 0) : ¬ Int64.ofInt y = 0 := fun e => h (by
  have := congrArg Int64.toInt e
  rw [mjRL_int hy] at this
  exact this)
theorem mjI_div {x y : Int} (hx : mjR x) (hy : mjR y) : Int32.ofInt x / Int32.ofInt y = Int32.ofInt (x.tdiv y) := by
  apply Int32.toInt_inj.mp
  rw [Int32.toInt_div, mjR_int hx, mjR_int hy, Int32.toInt_ofInt]
theorem mjJ_div {x y : Int} (hx : mjRL x) (hy : mjRL y) : Int64.ofInt x / Int64.ofInt y = Int64.ofInt (x.tdiv y) := by
  apply Int64.toInt_inj.mp
  rw [Int64.toInt_div, mjRL_int hx, mjRL_int hy, Int64.toInt_ofInt]
theorem mjT_mod (x y : Int) : x - x.tdiv y * y = x.tmod y := by
  have := Int.tmod_add_mul_tdiv x y
  rw [Int.mul_comm] at this
  omega
theorem mjI_rem {x y : Int} (hx : mjR x) (hy : mjR y) : Int32.ofInt x - Int32.ofInt x / Int32.ofInt y * Int32.ofInt y = Int32.ofInt (x.tmod y) := by
  rw [mjI_div hx hy, ← Int32.ofInt_mul, ← Int32.ofInt_sub, mjT_mod]
theorem mjJ_rem {x y : Int} (hx : mjRL x) (hy : mjRL y) : Int64.ofInt x - Int64.ofInt x / Int64.ofInt y * Int64.ofInt y = Int64.ofInt (x.tmod y) := by
  rw [mjJ_div hx hy, ← Int64.ofInt_mul, ← Int64.ofInt_sub, mjT_mod]
theorem mjJ_lt {x y : Int} (hx : mjRL x) (hy : mjRL y) : Int64.ofInt x < Int64.ofInt y ↔ x < y := by
  rw [Int64.lt_iff_toInt_lt, mjRL_int hx, mjRL_int hy]
theorem mjJ_eq {x y : Int} (hx : mjRL x) (hy : mjRL y) : Int64.ofInt x = Int64.ofInt y ↔ x = y := by
  rw [← Int64.toInt_inj, mjRL_int hx, mjRL_int hy]
theorem mjJ_cmp {x y : Int} (hx : mjRL x) (hy : mjRL y) : lg_cmp (Int64.ofInt x) (Int64.ofInt y) = Int32.ofInt (mjCm x y) := by
  unfold lg_cmp mjCm
  have h1 : (Int64.ofInt x > Int64.ofInt y) ↔ y < x := mjJ_lt hy hx
  have h2 := mjJ_eq hx hy
  by_cases g1 : y < x
  · rw [if_pos (h1.mpr g1), if_neg (by omega), if_neg (by omega)]
    rfl
  · rw [if_neg (fun g => g1 (h1.mp g))]
    by_cases g2 : x = y
    · rw [if_pos (h2.mpr g2), if_neg (by omega), if_pos g2]
      rfl
    · rw [if_neg (fun g => g2 (h2.mp g)), if_pos (by omega)]
      rfl
theorem mjI8 (n : Int) : (Int8.ofInt n).toInt32 = Int32.ofInt (Int8.ofInt n).toInt := by
  apply Int32.toInt_inj.mp
  rw [Int8.toInt_toInt32, Int32.toInt_ofInt_of_le]
  · have := Int8.le_toInt (Int8.ofInt n); omega
  · have := Int8.toInt_lt (Int8.ofInt n); omega
theorem mjI16 (n : Int) : (Int16.ofInt n).toInt32 = Int32.ofInt (Int16.ofInt n).toInt := by
  apply Int32.toInt_inj.mp
  rw [Int16.toInt_toInt32, Int32.toInt_ofInt_of_le]
  · have := Int16.le_toInt (Int16.ofInt n); omega
  · have := Int16.toInt_lt (Int16.ofInt n); omega
theorem mjI64 {x : Int} (h : mjR x) : (Int32.ofInt x).toInt64 = Int64.ofInt x := by
  apply Int64.toInt_inj.mp
  rw [Int32.toInt_toInt64, mjR_int h, Int64.toInt_ofInt_of_le]
  · have := h.1; omega
  · have := h.2; omega
theorem mjPz_ok {ci fk : Nat} {y : mjY} {z : Int} (h : mjPz ci fk y = some z) : True := trivial
set_option maxHeartbeats 4000000 in
theorem wpp_ok (ins : Instr) (ol : mjOkL l) (os : mjOkS s) (h : wpp nL ins k pc l s Z next) : mjAdv nL d ins k pc l s Z next := by
  cases ins
  case aconst_null => exact ⟨_, _, _, _, ol, okc okV os, fun _ => rfl, h⟩
  case iconst n => exact ⟨_, _, _, _, ol, okc okI os, fun _ => rfl, h⟩
  case bipush n => exact ⟨_, _, _, _, ol, okc okI os, fun _ => by simp only [mjStep, mjI8]; rfl, h⟩
  case sipush n => exact ⟨_, _, _, _, ol, okc okI os, fun _ => by simp only [mjStep, mjI16]; rfl, h⟩
  case lconst n => exact ⟨_, _, _, _, ol, okc okJ os, fun _ => by simp only [mjStep, ← Int64.ofInt_eq_ofNat]; rfl, h⟩
  case ldc => exact ⟨_, _, _, _, ol, okc (wK_ok _) os, fun _ => by simp only [mjStep, mjYs, List.map_cons, wK_v], h⟩
  case ldc_w => exact ⟨_, _, _, _, ol, okc (wK_ok _) os, fun _ => by simp only [mjStep, mjYs, List.map_cons, wK_v], h⟩
  case ldc2_w => exact ⟨_, _, _, _, ol, okc (wK_ok _) os, fun _ => by simp only [mjStep, mjYs, List.map_cons, wK_v], h⟩
  case iadd => exact wII_ok (fun _ => rfl) (fun x y => (Int32.ofInt_add x y).symm) ol os h
  case isub => exact wII_ok (fun _ => rfl) (fun x y => (Int32.ofInt_sub x y).symm) ol os h
  case imul => exact wII_ok (fun _ => rfl) (fun x y => (Int32.ofInt_mul x y).symm) ol os h
  case iand => exact wII_ok (fun _ => rfl) (mjI2_of _) ol os h
  case ishl => exact wII_ok (fun _ => rfl) (mjI2_of (fun x y => x <<< (y &&& 31))) ol os h
  case ishr => exact wII_ok (fun _ => rfl) (mjI2_of (fun x y => x >>> (y &&& 31))) ol os h
  case iushr => exact wII_ok (fun _ => rfl) (mjI2_of (fun x y => (x.toUInt32 >>> (y.toUInt32 &&& Int32.toUInt32 31)).toInt32)) ol os h
  case ladd => exact wLL_ok (fun _ => rfl) (fun x y => (Int64.ofInt_add x y).symm) ol os h
  case lsub => exact wLL_ok (fun _ => rfl) (fun x y => (Int64.ofInt_sub x y).symm) ol os h
  case lmul => exact wLL_ok (fun _ => rfl) (fun x y => (Int64.ofInt_mul x y).symm) ol os h
  case land => exact wLL_ok (fun _ => rfl) (mjJ2_of _) ol os h
  case lor => exact wLL_ok (fun _ => rfl) (mjJ2_of _) ol os h
  case lshl => exact wLI_ok (fun _ => rfl) (mjJI_of (fun x y => x <<< (y.toInt64 &&& 63))) ol os h
  case lshr => exact wLI_ok (fun _ => rfl) (mjJI_of (fun x y => x >>> (y.toInt64 &&& 63))) ol os h
  case lushr => exact wLI_ok (fun _ => rfl) (mjJI_of (fun x y => (x.toUInt64 >>> (y.toInt64.toUInt64 &&& Int64.toUInt64 63)).toInt64)) ol os h
  all_goals simp only [wpp] at h
  case iload => obtain ⟨v, h1, h2⟩ := mjOn_ex h; exact ⟨_, _, _, _, ol, okc (mjLdY_ok ol h1) os, fun _ => by simp only [mjStep, mjLdY_eq h1]; rfl, h2⟩
  case iload_n => obtain ⟨v, h1, h2⟩ := mjOn_ex h; exact ⟨_, _, _, _, ol, okc (mjLdY_ok ol h1) os, fun _ => by simp only [mjStep, mjLdY_eq h1]; rfl, h2⟩
  case lload => obtain ⟨v, h1, h2⟩ := mjOn_ex h; exact ⟨_, _, _, _, ol, okc (mjLdY_ok ol h1) os, fun _ => by simp only [mjStep, mjLdY_eq h1]; rfl, h2⟩
  case lload_n => obtain ⟨v, h1, h2⟩ := mjOn_ex h; exact ⟨_, _, _, _, ol, okc (mjLdY_ok ol h1) os, fun _ => by simp only [mjStep, mjLdY_eq h1]; rfl, h2⟩
  case dload => obtain ⟨v, h1, h2⟩ := mjOn_ex h; exact ⟨_, _, _, _, ol, okc (mjLdY_ok ol h1) os, fun _ => by simp only [mjStep, mjLdY_eq h1]; rfl, h2⟩
  case dload_n => obtain ⟨v, h1, h2⟩ := mjOn_ex h; exact ⟨_, _, _, _, ol, okc (mjLdY_ok ol h1) os, fun _ => by simp only [mjStep, mjLdY_eq h1]; rfl, h2⟩
  case aload => obtain ⟨v, h1, h2⟩ := mjOn_ex h; exact ⟨_, _, _, _, ol, okc (mjLdY_ok ol h1) os, fun _ => by simp only [mjStep, mjLdY_eq h1]; rfl, h2⟩
  case aload_n => obtain ⟨v, h1, h2⟩ := mjOn_ex h; exact ⟨_, _, _, _, ol, okc (mjLdY_ok ol h1) os, fun _ => by simp only [mjStep, mjLdY_eq h1]; rfl, h2⟩
  case istore =>
    split at h
    · obtain ⟨v, h1, h2⟩ := mjOn_ex h
      exact ⟨_, _, _, _, mjS1Y_ok ol (okh os) h1, okt os, fun _ => by simp only [mjStep, mjYs, List.map_cons, mjS1Y_eq h1]; rfl, h2⟩
    · exact h.elim
  case istore_n =>
    split at h
    · obtain ⟨v, h1, h2⟩ := mjOn_ex h
      exact ⟨_, _, _, _, mjS1Y_ok ol (okh os) h1, okt os, fun _ => by simp only [mjStep, mjYs, List.map_cons, mjS1Y_eq h1]; rfl, h2⟩
    · exact h.elim
  case astore =>
    split at h
    · obtain ⟨v, h1, h2⟩ := mjOn_ex h
      exact ⟨_, _, _, _, mjS1Y_ok ol (okh os) h1, okt os, fun _ => by simp only [mjStep, mjYs, List.map_cons, mjS1Y_eq h1]; rfl, h2⟩
    · exact h.elim
  case astore_n =>
    split at h
    · obtain ⟨v, h1, h2⟩ := mjOn_ex h
      exact ⟨_, _, _, _, mjS1Y_ok ol (okh os) h1, okt os, fun _ => by simp only [mjStep, mjYs, List.map_cons, mjS1Y_eq h1]; rfl, h2⟩
    · exact h.elim
  case lstore =>
    split at h
    · obtain ⟨v, h1, h2⟩ := mjOn_ex h
      exact ⟨_, _, _, _, mjS2Y_ok ol (okh os) h1, okt os, fun _ => by simp only [mjStep, mjYs, List.map_cons, mjS2Y_eq h1]; rfl, h2⟩
    · exact h.elim
  case lstore_n =>
    split at h
    · obtain ⟨v, h1, h2⟩ := mjOn_ex h
      exact ⟨_, _, _, _, mjS2Y_ok ol (okh os) h1, okt os, fun _ => by simp only [mjStep, mjYs, List.map_cons, mjS2Y_eq h1]; rfl, h2⟩
    · exact h.elim
  case dstore =>
    split at h
    · obtain ⟨v, h1, h2⟩ := mjOn_ex h
      exact ⟨_, _, _, _, mjS2Y_ok ol (okh os) h1, okt os, fun _ => by simp only [mjStep, mjYs, List.map_cons, mjS2Y_eq h1]; rfl, h2⟩
    · exact h.elim
  case dstore_n =>
    split at h
    · obtain ⟨v, h1, h2⟩ := mjOn_ex h
      exact ⟨_, _, _, _, mjS2Y_ok ol (okh os) h1, okt os, fun _ => by simp only [mjStep, mjYs, List.map_cons, mjS2Y_eq h1]; rfl, h2⟩
    · exact h.elim
  case iinc =>
    split at h
    · rename_i x hx
      obtain ⟨v, h1, h2⟩ := mjOn_ex h
      refine ⟨_, _, _, _, mjS1Y_ok ol okI h1, os, fun _ => ?_, h2⟩
      have e := mjS1Y_eq h1
      simp only [mjYv, Int32.ofInt_add] at e
      simp only [mjStep, mjLkY_map, hx, Option.map_some, mjYv, e]
      rfl
    · exact h.elim
  case goto => obtain ⟨v, h1, h2⟩ := mjOn_ex h; exact ⟨_, _, _, _, ol, os, fun _ => by simp only [mjStep, h1]; rfl, h2⟩
  case idiv =>
    split at h
    · obtain ⟨hx, hy, h0, h⟩ := h
      exact ⟨_, _, _, _, ol, okc okI (okt (okt os)), fun _ => by simp only [mjStep, mjYs, List.map_cons, mjYv, if_neg (mjI_ne0 hy h0), mjI_div hx hy], h⟩
    · exact h.elim
  case irem =>
    split at h
    · obtain ⟨hx, hy, h0, h⟩ := h
      exact ⟨_, _, _, _, ol, okc okI (okt (okt os)), fun _ => by simp only [mjStep, mjYs, List.map_cons, mjYv, if_neg (mjI_ne0 hy h0), mjI_rem hx hy], h⟩
    · exact h.elim
  case ldiv =>
    split at h
    · obtain ⟨hx, hy, h0, h⟩ := h
      exact ⟨_, _, _, _, ol, okc okJ (okt (okt os)), fun _ => by simp only [mjStep, mjYs, List.map_cons, mjYv, if_neg (mjJ_ne0 hy h0), mjJ_div hx hy], h⟩
    · exact h.elim
  case lrem =>
    split at h
    · obtain ⟨hx, hy, h0, h⟩ := h
      exact ⟨_, _, _, _, ol, okc okJ (okt (okt os)), fun _ => by simp only [mjStep, mjYs, List.map_cons, mjYv, if_neg (mjJ_ne0 hy h0), mjJ_rem hx hy], h⟩
    · exact h.elim
  case ineg =>
    split at h
    · exact ⟨_, _, _, _, ol, okc okI (okt os), fun _ => by simp only [mjStep, mjYs, List.map_cons, mjYv, Int32.ofInt_neg], h⟩
    · exact h.elim
  case lneg =>
    split at h
    · exact ⟨_, _, _, _, ol, okc okJ (okt os), fun _ => by simp only [mjStep, mjYs, List.map_cons, mjYv, Int64.ofInt_neg], h⟩
    · exact h.elim
  case lcmp =>
    split at h
    · obtain ⟨hx, hy, h⟩ := h
      exact ⟨_, _, _, _, ol, okc okI (okt (okt os)), fun _ => by simp only [mjStep, mjYs, List.map_cons, mjYv, mjJ_cmp hx hy], h⟩
    · exact h.elim
  case i2l =>
    split at h
    · obtain ⟨hx, h⟩ := h
      exact ⟨_, _, _, _, ol, okc okJ (okt os), fun _ => by simp only [mjStep, mjYs, List.map_cons, mjYv, mjI64 hx], h⟩
    · exact h.elim
  case l2i =>
    split at h
    · exact ⟨_, _, _, _, ol, okc okI (okt os), fun _ => by simp only [mjStep, mjYs, List.map_cons, mjYv, Int64.toInt32_ofInt], h⟩
    · exact h.elim
  case i2d =>
    split at h
    · exact ⟨_, _, _, _, ol, okc okV (okt os), fun _ => rfl, h⟩
    · exact h.elim
  case l2d =>
    split at h
    · exact ⟨_, _, _, _, ol, okc okV (okt os), fun _ => rfl, h⟩
    · exact h.elim
  case d2i =>
    split at h
    · exact ⟨_, _, _, _, ol, okc okI (okt os), fun _ => by simp only [mjStep, mjYs, List.map_cons, mjYv, Int32.ofInt_toInt], h⟩
    · exact h.elim
  case d2l =>
    split at h
    · exact ⟨_, _, _, _, ol, okc okJ (okt os), fun _ => by simp only [mjStep, mjYs, List.map_cons, mjYv, Int64.ofInt_toInt], h⟩
    · exact h.elim
  case f2d =>
    split at h
    · obtain ⟨hx, h⟩ := h
      exact ⟨_, _, _, _, ol, okc okV (okt os), fun _ => by simp only [mjStep, mjYs, List.map_cons, mjYv, if_pos hx], h⟩
    · exact h.elim
  case dcmp =>
    split at h
    · exact ⟨_, _, _, _, ol, okc okI (okt (okt os)), fun _ => by simp only [mjStep, mjYs, List.map_cons, mjYv, Int32.ofInt_toInt], h⟩
    · exact h.elim
  case dup =>
    split at h
    · rename_i v r
      cases hb : Nat.beq (mjYv v).category 1 with
      | false => rw [hb] at h; exact h.elim
      | true =>
        rw [hb] at h
        exact ⟨_, _, _, _, ol, okc (okh os) os, fun _ => by simp only [mjStep, mjYs, List.map_cons, hb, cond_true], h⟩
    · exact h.elim
  case pop =>
    split at h
    · rename_i v r
      cases hb : Nat.beq (mjYv v).category 1 with
      | false => rw [hb] at h; exact h.elim
      | true =>
        rw [hb] at h
        exact ⟨_, _, _, _, ol, okt os, fun _ => by simp only [mjStep, mjYs, List.map_cons, hb, cond_true], h⟩
    · exact h.elim
  case dup2 =>
    split at h
    · rename_i v w r
      cases hb : Nat.beq (mjYv v).category 1 && Nat.beq (mjYv w).category 1 with
      | false => rw [hb] at h; exact h.elim
      | true =>
        rw [hb] at h
        exact ⟨_, _, _, _, ol, okc (okh os) (okc (okh (okt os)) os), fun _ => by simp only [mjStep, mjYs, List.map_cons, hb, cond_true], h⟩
    · exact h.elim
  case getfield =>
    split at h
    · rename_i q r
      cases hb : Nat.beq q.1 k.2.1 && Nat.blt q.1 12 with
      | false => rw [hb] at h; exact h.elim
      | true =>
        rw [hb, cond_true] at h
        obtain ⟨v, h1, h2⟩ := mjOn_ex h
        rw [Bool.and_eq_true] at hb
        have hq := Nat.eq_of_beq_eq_true hb.1
        have ho : mjOk k.2.1 q.2 := by rw [← hq]; exact okh os
        have hk12 : Nat.blt k.2.1 12 = true := by rw [← hq]; exact hb.2
        have hgn : mjGk k.2.1 k.2.2.1 q.2 Z ∧ next (pc + 3) l (v :: r) Z := by
          revert h2
          unfold mjGk
          split
          · rename_i x1 x2 x3
            rw [x3]
            exact fun h2 => h2
          · rename_i x1 x2
            split
            · rename_i x3 x4 x5
              exact absurd x5 (x2 _ _)
            · exact fun h2 => ⟨trivial, h2⟩
        exact ⟨_, _, _, _, ol, okc (mjGet_ok ho hk12 h1 hgn.1) (okt os), fun _ => by simp only [mjStep, mjYs, List.map_cons, mjYv, mjGet_fld ho hk12 h1]; rfl, hgn.2⟩
    · exact h.elim
  case putfield =>
    split at h
    · rename_i v q r
      cases hb : Nat.beq q.1 k.2.1 && Nat.blt q.1 12 with
      | false => rw [hb] at h; exact h.elim
      | true =>
        rw [hb, cond_true] at h
        obtain ⟨z, h1, h2⟩ := mjOn_ex h
        rw [Bool.and_eq_true] at hb
        have hq := Nat.eq_of_beq_eq_true hb.1
        have ho : mjOk k.2.1 q.2 := by rw [← hq]; exact okh (okt os)
        have hk12 : Nat.blt k.2.1 12 = true := by rw [← hq]; exact hb.2
        have hty : mjTy k.2.2.2.1 (mjYv v) = true ∧ next (pc + 3) l r (mjUp Z q.2 k.2.2.1 z) := by
          cases h22 : Nat.beq k.2.2.2.1 2 with
          | true =>
            rw [h22, cond_true] at h2
            have e2 := Nat.eq_of_beq_eq_true h22
            refine ⟨?_, h2.2⟩
            rw [e2]
            obtain ⟨h23, h24⟩ := h2.1
            subst h23
            rcases h24 with h | h <;> subst h <;> rfl
          | false =>
            rw [h22, cond_false] at h2
            cases h33 : Nat.beq k.2.2.2.1 (mjPk v) with
            | false => rw [h33] at h2; exact h2.elim
            | true =>
              rw [h33, cond_true] at h2
              have e3 := Nat.eq_of_beq_eq_true h33
              refine ⟨?_, h2⟩
              rw [e3]
              unfold mjPz at h1
              split at h1
              · rfl
              · rfl
              · rfl
              · cases h1
        exact ⟨_, _, _, _, ol, okt (okt os), fun _ => by
          have := mjPut_fld (Z := Z) ho hk12 h1 hty.1
          simp only [mjStep, mjYs, List.map_cons, mjYv] at this ⊢
          rw [this]
          rfl, hty.2⟩
    · exact h.elim
  case iaload =>
    split at h
    · rename_i z q r
      cases hb : mjIt q.1 with
      | false => rw [hb] at h; exact h.elim
      | true =>
        rw [hb, cond_true] at h
        obtain ⟨h0, h1, h2⟩ := h
        have := mjGet_I (Z := Z) (okh (okt os)) hb h0 h1
        exact ⟨_, _, _, _, ol, okc okI (okt (okt os)), fun _ => by simp only [mjStep, mjYs, List.map_cons, mjYv, this]; rfl, h2⟩
    · exact h.elim
  case laload =>
    split at h
    · rename_i z q r
      cases hb : Nat.ble 20000 q.1 with
      | false => rw [hb] at h; exact h.elim
      | true =>
        rw [hb, cond_true] at h
        obtain ⟨h0, h1, h2⟩ := h
        have := mjGet_J (Z := Z) (okh (okt os)) hb h0 h1
        exact ⟨_, _, _, _, ol, okc okJ (okt (okt os)), fun _ => by simp only [mjStep, mjYs, List.map_cons, mjYv, this]; rfl, h2⟩
    · exact h.elim
  case aaload =>
    split at h
    · rename_i z q r
      cases hb : Nat.blt 29 q.1 && Nat.blt q.1 38 with
      | false => rw [hb] at h; exact h.elim
      | true =>
        rw [hb, cond_true] at h
        obtain ⟨h0, h1, h2⟩ := h
        have h3 : mjEk q.1 q.2 Z z ∧ next (pc + 1) l (yR (mjRw q.1).2.1 (mjEc q.1 q.2 Z z) :: r) Z := by
          cases h35 : Nat.beq q.1 35 with
          | true => rw [h35] at h2; exact h2
          | false =>
            rw [h35] at h2
            refine ⟨?_, h2⟩
            unfold mjEk
            rw [h35]
            trivial
        have := mjGet_R (Z := Z) (okh (okt os)) hb h0 h1 h3.1
        exact ⟨_, _, _, _, ol, okc (y := yR _ _) this.2 (okt (okt os)), fun _ => by simp only [mjStep, mjYs, List.map_cons, mjYv, this.1]; rfl, h3.2⟩
    · exact h.elim
  case iastore =>
    split at h
    · rename_i x z q r
      cases hb : mjIt q.1 with
      | false => rw [hb] at h; exact h.elim
      | true =>
        rw [hb, cond_true] at h
        obtain ⟨h0, h1, h2⟩ := h
        obtain ⟨xs, g1, g2, g3⟩ := mjPut_I (Z := Z) (w := x) (okh (okt (okt os))) hb h0 h1
        exact ⟨_, _, _, _, ol, okt (okt (okt os)), fun _ => by simp only [mjStep, mjYs, List.map_cons, mjYv, g1, Option.bind_some, g2, cond_true, g3], h2⟩
    · exact h.elim
  case lastore =>
    split at h
    · rename_i x z q r
      cases hb : Nat.ble 20000 q.1 with
      | false => rw [hb] at h; exact h.elim
      | true =>
        rw [hb, cond_true] at h
        obtain ⟨h0, h1, h2⟩ := h
        obtain ⟨xs, g1, g2, g3⟩ := mjPut_J (Z := Z) (w := x) (okh (okt (okt os))) hb h0 h1
        exact ⟨_, _, _, _, ol, okt (okt (okt os)), fun _ => by simp only [mjStep, mjYs, List.map_cons, mjYv, g1, Option.bind_some, g2, cond_true, g3], h2⟩
    · exact h.elim
  case aastore =>
    split at h
    · rename_i v z q r
      cases hb : Nat.beq q.1 35 && Nat.beq v.1 0 with
      | false => rw [hb] at h; exact h.elim
      | true =>
        rw [hb, cond_true] at h
        obtain ⟨h0, h1, h2⟩ := h
        rw [Bool.and_eq_true] at hb
        have hv0 := Nat.eq_of_beq_eq_true hb.2
        have hv : mjOk 0 v.2 := by rw [← hv0]; exact okh os
        obtain ⟨o, g1, g2, g3⟩ := mjPut_R (Z := Z) (okh (okt (okt os))) hb.1 h0 h1 hv
        exact ⟨_, _, _, _, ol, okt (okt (okt os)), fun _ => by simp only [mjStep, mjYs, List.map_cons, mjYv, g1, Option.bind_some, g2, cond_true, g3], h2⟩
    · exact h.elim
  case arraylength =>
    split at h
    · rename_i q r
      cases hb : mjIt q.1 with
      | true =>
        rw [hb, cond_true] at h
        obtain ⟨xs, g1, g2, g3⟩ := mjTg_I2 (okh os) hb
        refine ⟨_, _, _, _, ol, okc okI (okt os), fun _ => ?_, h⟩
        have e : mjLen none (mjMZ Z) (q.2 + 1) = some xs.length := by
          simp only [mjLen, mjMZ_get (mjTg_lt (okh os)), g1, mjFill, mjA_len]
        simp only [mjStep, mjYs, List.map_cons, mjYv, e, Option.bind_some, g3, mjR_nat]
      | false =>
        rw [hb, cond_false] at h
        cases hc : Nat.ble 20000 q.1 with
        | false => rw [hc] at h; exact h.elim
        | true =>
          rw [hc, cond_true] at h
          obtain ⟨xs, g1, g2, g3⟩ := mjTg_J (okh os) (Nat.le_of_ble_eq_true hc)
          refine ⟨_, _, _, _, ol, okc okI (okt os), fun _ => ?_, h⟩
          have e : mjLen none (mjMZ Z) (q.2 + 1) = some xs.length := by
            simp only [mjLen, mjMZ_get (mjTg_lt (okh os)), g1, mjFill, mjA_len]
          simp only [mjStep, mjYs, List.map_cons, mjYv, e, Option.bind_some, mjR_nat]
          rw [show q.1 - 20000 = xs.length by omega]
    · exact h.elim
  all_goals exact h.elim
end MJP
