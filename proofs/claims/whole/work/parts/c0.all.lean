/-! The law's end, out of an invariant of the cells and its 42 cases. -/
/-- both answer alike, and the invariant stands: ints, longs -/
def ivC1 (I : mjZ → Prop) (mx mm : Nat) (as : List mjY) (Z : mjZ) : Prop := mjW1 10 mx (yR 10 0 :: as) Z fun z Z1 => mjW1 10 mm (yR 11 464 :: as) Z1 fun z' Z2 => Int32.ofInt z' = Int32.ofInt z ∧ I Z2
def ivC2 (I : mjZ → Prop) (mx mm : Nat) (as : List mjY) (Z : mjZ) : Prop := mjW2 10 mx (yR 10 0 :: as) Z fun z Z1 => mjW2 10 mm (yR 11 464 :: as) Z1 fun z' Z2 => Int64.ofInt z' = Int64.ofInt z ∧ I Z2
theorem mjMZ_0 (Z : mjZ) : ∃ f, (mjMZ Z)[0]? = some (.inl (10, f)) := ⟨_, mjMZ_get (by decide)⟩
theorem mjMZ_464 (Z : mjZ) : ∃ f, (mjMZ Z)[464]? = some (.inl (11, f)) := ⟨_, mjMZ_get (by decide)⟩
theorem ivOk0 : mjOk 10 0 := by unfold mjOk; decide +kernel
theorem ivOk464 : mjOk 11 464 := by unfold mjOk; decide +kernel
theorem ivC1.ex {I : mjZ → Prop} {mx mm : Nat} {as : List mjY} {Z : mjZ} (oa : mjOkS as) (h : ivC1 I mx mm as Z) : ∃ (r : Int32) (Z1 Z2 : mjZ), mjDoes 10 mx (.ref 1 :: mjYs as) (mjMZ Z) (some (.int r)) (mjMZ Z1) ∧ mjDoes 10 mm (.ref 465 :: mjYs as) (mjMZ Z1) (some (.int r)) (mjMZ Z2) ∧ I Z2 := by
  obtain ⟨v, Z1, h1, -, z, rfl, h2⟩ := h (okc (y := yR 10 0) ivOk0 oa)
  obtain ⟨v', Z2, h3, -, z', rfl, h4, h5⟩ := h2 (okc (y := yR 11 464) ivOk464 oa)
  refine ⟨Int32.ofInt z, Z1, Z2, h1, ?_, h5⟩
  rw [← h4]
  exact h3
theorem ivC2.ex {I : mjZ → Prop} {mx mm : Nat} {as : List mjY} {Z : mjZ} (oa : mjOkS as) (h : ivC2 I mx mm as Z) : ∃ (r : Int64) (Z1 Z2 : mjZ), mjDoes 10 mx (.ref 1 :: mjYs as) (mjMZ Z) (some (.long r)) (mjMZ Z1) ∧ mjDoes 10 mm (.ref 465 :: mjYs as) (mjMZ Z1) (some (.long r)) (mjMZ Z2) ∧ I Z2 := by
  obtain ⟨v, Z1, h1, -, z, rfl, h2⟩ := h (okc (y := yR 10 0) ivOk0 oa)
  obtain ⟨v', Z2, h3, -, z', rfl, h4, h5⟩ := h2 (okc (y := yR 11 464) ivOk464 oa)
  refine ⟨Int64.ofInt z, Z1, Z2, h1, ?_, h5⟩
  rw [← h4]
  exact h3
theorem yI_toInt (x : Int32) : mjYv (yI x.toInt) = .int x := by simp only [mjYv, Int32.ofInt_toInt]
theorem yJ_toInt (x : Int64) : mjYv (yJ x.toInt) = .long x := by simp only [mjYv, Int64.ofInt_toInt]
abbrev ivWord (x4 x5 : Int32) : Int64 := (x4.toInt64 <<< ((Int8.ofInt 32).toInt32.toInt64 &&& 63)) ||| (x5.toInt64 &&& (4294967295))
def iv_leaf (I : mjZ → Prop) : Prop := ∀ (Z : mjZ) (x1 x2 x3 : Int32), I Z → ivC1 I 12 167 [yI x1.toInt, yI x2.toInt, yI x3.toInt] Z
def iv_put (I : mjZ → Prop) : Prop := ∀ (Z : mjZ) (x1 x2 x3 x4 x5 : Int32), I Z → ivC1 I 17 171 [yI x1.toInt, yI x2.toInt, yI x3.toInt, yJ (ivWord x4 x5).toInt] Z
def iv_lose (I : mjZ → Prop) : Prop := ∀ (Z : mjZ) (x1 : Int32), I Z → ivC1 I 22 172 [yI x1.toInt] Z
def iv_table (I : mjZ → Prop) : Prop := ∀ (Z : mjZ) (x1 x2 : Int32), I Z → ivC1 I 24 173 [yI x1.toInt, yI x2.toInt] Z
def iv_where (I : mjZ → Prop) : Prop := ∀ (Z : mjZ), I Z → ivC1 I 46 179 [] Z
def iv_kind (I : mjZ → Prop) : Prop := ∀ (Z : mjZ) (x1 : Int32), I Z → ivC1 I 47 180 [yI x1.toInt] Z
def iv_size (I : mjZ → Prop) : Prop := ∀ (Z : mjZ) (x1 : Int32), I Z → ivC1 I 49 182 [yI x1.toInt] Z
def iv_is (I : mjZ → Prop) : Prop := ∀ (Z : mjZ) (x1 x2 : Int32), I Z → ivC1 I 50 183 [yI x1.toInt, yI x2.toInt] Z
def iv_at (I : mjZ → Prop) : Prop := ∀ (Z : mjZ) (x1 x2 x3 : Int32), I Z → ivC1 I 51 184 [yI x1.toInt, yI x2.toInt, yI x3.toInt] Z
def iv_flow (I : mjZ → Prop) : Prop := ∀ (Z : mjZ) (x1 : Int32), I Z → ivC1 I 52 187 [yI x1.toInt] Z
def iv_turn (I : mjZ → Prop) : Prop := ∀ (Z : mjZ) (x1 x2 x3 : Int32), I Z → ivC1 I 54 188 [yI x1.toInt, yI x2.toInt, yI x3.toInt] Z
def iv_mix (I : mjZ → Prop) : Prop := ∀ (Z : mjZ) (x1 x2 x3 x4 : Int32), I Z → ivC1 I 56 189 [yI x1.toInt, yI x2.toInt, yI x3.toInt, yI x4.toInt] Z
def iv_shift (I : mjZ → Prop) : Prop := ∀ (Z : mjZ) (x1 x2 : Int32), I Z → ivC1 I 60 192 [yI x1.toInt, yI x2.toInt] Z
def iv_drop (I : mjZ → Prop) : Prop := ∀ (Z : mjZ) (x1 x2 : Int32), I Z → ivC1 I 62 193 [yI x1.toInt, yI x2.toInt] Z
def iv_weave (I : mjZ → Prop) : Prop := ∀ (Z : mjZ) (x1 x2 : Int32), I Z → ivC1 I 64 194 [yI x1.toInt, yI x2.toInt] Z
def iv_line (I : mjZ → Prop) : Prop := ∀ (Z : mjZ) (x1 x2 x3 : Int32), I Z → ivC1 I 65 195 [yI x1.toInt, yI x2.toInt, yI x3.toInt] Z
def iv_bound (I : mjZ → Prop) : Prop := ∀ (Z : mjZ) (x1 : Int32), I Z → ivC1 I 68 197 [yI x1.toInt] Z
def iv_trace (I : mjZ → Prop) : Prop := ∀ (Z : mjZ) (x1 : Int32), I Z → ivC1 I 72 199 [yI x1.toInt] Z
def iv_poly (I : mjZ → Prop) : Prop := ∀ (Z : mjZ) (x1 : Int32), I Z → ivC1 I 73 200 [yI x1.toInt] Z
def iv_worth (I : mjZ → Prop) : Prop := ∀ (Z : mjZ) (x1 : Int32), I Z → ivC1 I 87 205 [yI x1.toInt] Z
def iv_ring (I : mjZ → Prop) : Prop := ∀ (Z : mjZ) (x1 : Int32), I Z → ivC1 I 89 206 [yI x1.toInt] Z
def iv_often (I : mjZ → Prop) : Prop := ∀ (Z : mjZ) (x1 x2 : Int32), I Z → ivC1 I 113 216 [yI x1.toInt, yI x2.toInt] Z
def iv_count (I : mjZ → Prop) : Prop := ∀ (Z : mjZ) (x1 x2 x3 x4 : Int32), I Z → ivC1 I 115 217 [yI x1.toInt, yI x2.toInt, yI x3.toInt, yI x4.toInt] Z
def iv_shut (I : mjZ → Prop) : Prop := ∀ (Z : mjZ) (x1 x2 x3 : Int32), I Z → ivC1 I 118 226 [yI x1.toInt, yI x2.toInt, yI x3.toInt] Z
def iv_seen (I : mjZ → Prop) : Prop := ∀ (Z : mjZ), I Z → ivC2 I 121 227 [] Z
def iv_same (I : mjZ → Prop) : Prop := ∀ (Z : mjZ) (x1 x2 : Int32), I Z → ivC1 I 122 228 [yI x1.toInt, yI x2.toInt] Z
def iv_bend (I : mjZ → Prop) : Prop := ∀ (Z : mjZ) (x1 : Int32), I Z → ivC1 I 126 229 [yI x1.toInt] Z
def iv_signs (I : mjZ → Prop) : Prop := ∀ (Z : mjZ) (x1 : Int32), I Z → ivC1 I 139 242 [yI x1.toInt] Z
def iv_show (I : mjZ → Prop) : Prop := ∀ (Z : mjZ) (x1 : Int32), I Z → ivC1 I 140 243 [yI x1.toInt] Z
def iv_form (I : mjZ → Prop) : Prop := ∀ (Z : mjZ) (x1 x2 : Int32), I Z → ivC1 I 141 244 [yI x1.toInt, yI x2.toInt] Z
def iv_walks (I : mjZ → Prop) : Prop := ∀ (Z : mjZ) (x1 x2 : Int32), I Z → ivC1 I 144 245 [yI x1.toInt, yI x2.toInt] Z
def iv_pieces (I : mjZ → Prop) : Prop := ∀ (Z : mjZ) (x1 : Int32), I Z → ivC1 I 146 246 [yI x1.toInt] Z
def iv_two (I : mjZ → Prop) : Prop := ∀ (Z : mjZ) (x1 : Int32), I Z → ivC1 I 149 248 [yI x1.toInt] Z
def iv_trees (I : mjZ → Prop) : Prop := ∀ (Z : mjZ) (x1 : Int32), I Z → ivC1 I 151 249 [yI x1.toInt] Z
def iv_results (I : mjZ → Prop) : Prop := ∀ (Z : mjZ), I Z → ivC1 I 152 251 [] Z
def iv_sign (I : mjZ → Prop) : Prop := ∀ (Z : mjZ) (x1 : Int32), I Z → ivC1 I 153 252 [yI x1.toInt] Z
def iv_bits (I : mjZ → Prop) : Prop := ∀ (Z : mjZ) (x1 : Int32), I Z → ivC1 I 155 253 [yI x1.toInt] Z
def iv_word (I : mjZ → Prop) : Prop := ∀ (Z : mjZ) (x1 x2 : Int32), I Z → ivC2 I 157 254 [yI x1.toInt, yI x2.toInt] Z
def iv_finding (I : mjZ → Prop) : Prop := ∀ (Z : mjZ), I Z → ivC1 I 159 256 [] Z
def iv_findings (I : mjZ → Prop) : Prop := ∀ (Z : mjZ) (x1 : Int32), I Z → ivC1 I 160 257 [yI x1.toInt] Z
def iv_about (I : mjZ → Prop) : Prop := ∀ (Z : mjZ) (x1 : Int32), I Z → ivC1 I 161 258 [yI x1.toInt] Z
def iv_digest (I : mjZ → Prop) : Prop := ∀ (Z : mjZ), I Z → ivC2 I 164 259 [] Z
def ivAll (I : mjZ → Prop) : Prop := iv_leaf I ∧ iv_put I ∧ iv_lose I ∧ iv_table I ∧ iv_where I ∧ iv_kind I ∧ iv_size I ∧ iv_is I ∧ iv_at I ∧ iv_flow I ∧ iv_turn I ∧ iv_mix I ∧ iv_shift I ∧ iv_drop I ∧ iv_weave I ∧ iv_line I ∧ iv_bound I ∧ iv_trace I ∧ iv_poly I ∧ iv_worth I ∧ iv_ring I ∧ iv_often I ∧ iv_count I ∧ iv_shut I ∧ iv_seen I ∧ iv_same I ∧ iv_bend I ∧ iv_signs I ∧ iv_show I ∧ iv_form I ∧ iv_walks I ∧ iv_pieces I ∧ iv_two I ∧ iv_trees I ∧ iv_results I ∧ iv_sign I ∧ iv_bits I ∧ iv_word I ∧ iv_finding I ∧ iv_findings I ∧ iv_about I ∧ iv_digest I
theorem okI2 {x : Int} {s : List mjY} (h : mjOkS s) : mjOkS (yI x :: s) := okc okI h
theorem okJ2 {x : Int} {s : List mjY} (h : mjOkS s) : mjOkS (yJ x :: s) := okc okJ h
theorem okNil : mjOkS [] := fun y hy => by cases hy
theorem mjMZ_room (Z : mjZ) : (mjMZ Z).length = 494 := mjA_len
theorem iv_cases_0 {I : mjZ → Prop} (hA : ivAll I) {scr : List Int32} {i x0 x1 x2 x3 x4 x5 : Int32} {Z : mjZ} (hZ : I Z) (e1 : mjAt? scr (i + Int32.ofInt 1) = some x1) (e2 : mjAt? scr (i + Int32.ofInt 2) = some x2) (e3 : mjAt? scr (i + Int32.ofInt 3) = some x3) (e4 : mjAt? scr (i + Int32.ofInt 4) = some x4) (e5 : mjAt? scr (i + Int32.ofInt 5) = some x5) : ∀ (j : Nat), 0 ≤ j → j < 14 → x0 = Int32.ofNat j → ∃ Z2, I Z2 ∧ mjTo 10 4 (some scr) mjLt (33, mjLl i, [.int x0], mjMZ Z) (1455, mjLl i, [], mjMZ Z2) := by
  obtain ⟨c0, c1, c2, c3, c4, c5, c6, c7, c8, c9, c10, c11, c12, c13, c14, c15, c16, c17, c18, c19, c20, c21, c22, c23, c24, c25, c26, c27, c28, c29, c30, c31, c32, c33, c34, c35, c36, c37, c38, c39, c40, c41⟩ := hA
  intro j hj1 hj2 hs
  rcases (show j = 0 ∨ 0 < j by omega) with g | g
  · subst g
    obtain ⟨r, Z1, Z2, h1, h2, h3⟩ := (c0 Z x1 x2 x3 hZ).ex (okI2 (okI2 (okI2 okNil)))
    simp only [mjYs, List.map_cons, List.map_nil, yI_toInt] at h1 h2
    obtain ⟨f0, k0⟩ := mjMZ_0 Z
    obtain ⟨f1, k1⟩ := mjMZ_464 Z1
    exact ⟨Z2, h3, (law_sw_0 hs).trans (law_case_0 e1 e2 e3 h1 h2 k0 k1)⟩
  rcases (show j = 1 ∨ 1 < j by omega) with g | g
  · subst g
    obtain ⟨r, Z1, Z2, h1, h2, h3⟩ := (c1 Z x1 x2 x3 x4 x5 hZ).ex (okI2 (okI2 (okI2 (okJ2 okNil))))
    simp only [mjYs, List.map_cons, List.map_nil, yI_toInt, yJ_toInt] at h1 h2
    obtain ⟨f0, k0⟩ := mjMZ_0 Z
    obtain ⟨f1, k1⟩ := mjMZ_464 Z1
    exact ⟨Z2, h3, (law_sw_1 hs).trans (law_case_1 e1 e2 e3 e4 e5 h1 h2 k0 k1)⟩
  rcases (show j = 2 ∨ 2 < j by omega) with g | g
  · subst g
    obtain ⟨r, Z1, Z2, h1, h2, h3⟩ := (c2 Z x1 hZ).ex (okI2 okNil)
    simp only [mjYs, List.map_cons, List.map_nil, yI_toInt] at h1 h2
    obtain ⟨f0, k0⟩ := mjMZ_0 Z
    obtain ⟨f1, k1⟩ := mjMZ_464 Z1
    exact ⟨Z2, h3, (law_sw_2 hs).trans (law_case_2 e1 h1 h2 k0 k1)⟩
  rcases (show j = 3 ∨ 3 < j by omega) with g | g
  · subst g
    obtain ⟨r, Z1, Z2, h1, h2, h3⟩ := (c3 Z x1 x2 hZ).ex (okI2 (okI2 okNil))
    simp only [mjYs, List.map_cons, List.map_nil, yI_toInt] at h1 h2
    obtain ⟨f0, k0⟩ := mjMZ_0 Z
    obtain ⟨f1, k1⟩ := mjMZ_464 Z1
    exact ⟨Z2, h3, (law_sw_3 hs).trans (law_case_3 e1 e2 h1 h2 k0 k1)⟩
  rcases (show j = 4 ∨ 4 < j by omega) with g | g
  · subst g
    obtain ⟨r, Z1, Z2, h1, h2, h3⟩ := (c4 Z hZ).ex okNil
    obtain ⟨f0, k0⟩ := mjMZ_0 Z
    obtain ⟨f1, k1⟩ := mjMZ_464 Z1
    exact ⟨Z2, h3, (law_sw_4 hs).trans (law_case_4  h1 h2 k0 k1)⟩
  rcases (show j = 5 ∨ 5 < j by omega) with g | g
  · subst g
    obtain ⟨r, Z1, Z2, h1, h2, h3⟩ := (c5 Z x1 hZ).ex (okI2 okNil)
    simp only [mjYs, List.map_cons, List.map_nil, yI_toInt] at h1 h2
    obtain ⟨f0, k0⟩ := mjMZ_0 Z
    obtain ⟨f1, k1⟩ := mjMZ_464 Z1
    exact ⟨Z2, h3, (law_sw_5 hs).trans (law_case_5 e1 h1 h2 k0 k1)⟩
  rcases (show j = 6 ∨ 6 < j by omega) with g | g
  · subst g
    obtain ⟨r, Z1, Z2, h1, h2, h3⟩ := (c6 Z x1 hZ).ex (okI2 okNil)
    simp only [mjYs, List.map_cons, List.map_nil, yI_toInt] at h1 h2
    obtain ⟨f0, k0⟩ := mjMZ_0 Z
    obtain ⟨f1, k1⟩ := mjMZ_464 Z1
    exact ⟨Z2, h3, (law_sw_6 hs).trans (law_case_6 e1 h1 h2 k0 k1)⟩
  rcases (show j = 7 ∨ 7 < j by omega) with g | g
  · subst g
    obtain ⟨r, Z1, Z2, h1, h2, h3⟩ := (c7 Z x1 x2 hZ).ex (okI2 (okI2 okNil))
    simp only [mjYs, List.map_cons, List.map_nil, yI_toInt] at h1 h2
    obtain ⟨f0, k0⟩ := mjMZ_0 Z
    obtain ⟨f1, k1⟩ := mjMZ_464 Z1
    exact ⟨Z2, h3, (law_sw_7 hs).trans (law_case_7 e1 e2 h1 h2 k0 k1)⟩
  rcases (show j = 8 ∨ 8 < j by omega) with g | g
  · subst g
    obtain ⟨r, Z1, Z2, h1, h2, h3⟩ := (c8 Z x1 x2 x3 hZ).ex (okI2 (okI2 (okI2 okNil)))
    simp only [mjYs, List.map_cons, List.map_nil, yI_toInt] at h1 h2
    obtain ⟨f0, k0⟩ := mjMZ_0 Z
    obtain ⟨f1, k1⟩ := mjMZ_464 Z1
    exact ⟨Z2, h3, (law_sw_8 hs).trans (law_case_8 e1 e2 e3 h1 h2 k0 k1)⟩
  rcases (show j = 9 ∨ 9 < j by omega) with g | g
  · subst g
    obtain ⟨r, Z1, Z2, h1, h2, h3⟩ := (c9 Z x1 hZ).ex (okI2 okNil)
    simp only [mjYs, List.map_cons, List.map_nil, yI_toInt] at h1 h2
    obtain ⟨f0, k0⟩ := mjMZ_0 Z
    obtain ⟨f1, k1⟩ := mjMZ_464 Z1
    exact ⟨Z2, h3, (law_sw_9 hs).trans (law_case_9 e1 h1 h2 k0 k1)⟩
  rcases (show j = 10 ∨ 10 < j by omega) with g | g
  · subst g
    obtain ⟨r, Z1, Z2, h1, h2, h3⟩ := (c10 Z x1 x2 x3 hZ).ex (okI2 (okI2 (okI2 okNil)))
    simp only [mjYs, List.map_cons, List.map_nil, yI_toInt] at h1 h2
    obtain ⟨f0, k0⟩ := mjMZ_0 Z
    obtain ⟨f1, k1⟩ := mjMZ_464 Z1
    exact ⟨Z2, h3, (law_sw_10 hs).trans (law_case_10 e1 e2 e3 h1 h2 k0 k1)⟩
  rcases (show j = 11 ∨ 11 < j by omega) with g | g
  · subst g
    obtain ⟨r, Z1, Z2, h1, h2, h3⟩ := (c11 Z x1 x2 x3 x4 hZ).ex (okI2 (okI2 (okI2 (okI2 okNil))))
    simp only [mjYs, List.map_cons, List.map_nil, yI_toInt] at h1 h2
    obtain ⟨f0, k0⟩ := mjMZ_0 Z
    obtain ⟨f1, k1⟩ := mjMZ_464 Z1
    exact ⟨Z2, h3, (law_sw_11 hs).trans (law_case_11 e1 e2 e3 e4 h1 h2 k0 k1)⟩
  rcases (show j = 12 ∨ 12 < j by omega) with g | g
  · subst g
    obtain ⟨r, Z1, Z2, h1, h2, h3⟩ := (c12 Z x1 x2 hZ).ex (okI2 (okI2 okNil))
    simp only [mjYs, List.map_cons, List.map_nil, yI_toInt] at h1 h2
    obtain ⟨f0, k0⟩ := mjMZ_0 Z
    obtain ⟨f1, k1⟩ := mjMZ_464 Z1
    exact ⟨Z2, h3, (law_sw_12 hs).trans (law_case_12 e1 e2 h1 h2 k0 k1)⟩
  rcases (show j = 13 ∨ 13 < j by omega) with g | g
  · subst g
    obtain ⟨r, Z1, Z2, h1, h2, h3⟩ := (c13 Z x1 x2 hZ).ex (okI2 (okI2 okNil))
    simp only [mjYs, List.map_cons, List.map_nil, yI_toInt] at h1 h2
    obtain ⟨f0, k0⟩ := mjMZ_0 Z
    obtain ⟨f1, k1⟩ := mjMZ_464 Z1
    exact ⟨Z2, h3, (law_sw_13 hs).trans (law_case_13 e1 e2 h1 h2 k0 k1)⟩
  omega
theorem iv_cases_1 {I : mjZ → Prop} (hA : ivAll I) {scr : List Int32} {i x0 x1 x2 x3 x4 x5 : Int32} {Z : mjZ} (hZ : I Z) (e1 : mjAt? scr (i + Int32.ofInt 1) = some x1) (e2 : mjAt? scr (i + Int32.ofInt 2) = some x2) (e3 : mjAt? scr (i + Int32.ofInt 3) = some x3) (e4 : mjAt? scr (i + Int32.ofInt 4) = some x4) (e5 : mjAt? scr (i + Int32.ofInt 5) = some x5) : ∀ (j : Nat), 14 ≤ j → j < 28 → x0 = Int32.ofNat j → ∃ Z2, I Z2 ∧ mjTo 10 4 (some scr) mjLt (33, mjLl i, [.int x0], mjMZ Z) (1455, mjLl i, [], mjMZ Z2) := by
  obtain ⟨c0, c1, c2, c3, c4, c5, c6, c7, c8, c9, c10, c11, c12, c13, c14, c15, c16, c17, c18, c19, c20, c21, c22, c23, c24, c25, c26, c27, c28, c29, c30, c31, c32, c33, c34, c35, c36, c37, c38, c39, c40, c41⟩ := hA
  intro j hj1 hj2 hs
  rcases (show j = 14 ∨ 14 < j by omega) with g | g
  · subst g
    obtain ⟨r, Z1, Z2, h1, h2, h3⟩ := (c14 Z x1 x2 hZ).ex (okI2 (okI2 okNil))
    simp only [mjYs, List.map_cons, List.map_nil, yI_toInt] at h1 h2
    obtain ⟨f0, k0⟩ := mjMZ_0 Z
    obtain ⟨f1, k1⟩ := mjMZ_464 Z1
    exact ⟨Z2, h3, (law_sw_14 hs).trans (law_case_14 e1 e2 h1 h2 k0 k1)⟩
  rcases (show j = 15 ∨ 15 < j by omega) with g | g
  · subst g
    obtain ⟨r, Z1, Z2, h1, h2, h3⟩ := (c15 Z x1 x2 x3 hZ).ex (okI2 (okI2 (okI2 okNil)))
    simp only [mjYs, List.map_cons, List.map_nil, yI_toInt] at h1 h2
    obtain ⟨f0, k0⟩ := mjMZ_0 Z
    obtain ⟨f1, k1⟩ := mjMZ_464 Z1
    exact ⟨Z2, h3, (law_sw_15 hs).trans (law_case_15 e1 e2 e3 h1 h2 k0 k1)⟩
  rcases (show j = 16 ∨ 16 < j by omega) with g | g
  · subst g
    obtain ⟨r, Z1, Z2, h1, h2, h3⟩ := (c16 Z x1 hZ).ex (okI2 okNil)
    simp only [mjYs, List.map_cons, List.map_nil, yI_toInt] at h1 h2
    obtain ⟨f0, k0⟩ := mjMZ_0 Z
    obtain ⟨f1, k1⟩ := mjMZ_464 Z1
    exact ⟨Z2, h3, (law_sw_16 hs).trans (law_case_16 e1 h1 h2 k0 k1)⟩
  rcases (show j = 17 ∨ 17 < j by omega) with g | g
  · subst g
    obtain ⟨r, Z1, Z2, h1, h2, h3⟩ := (c17 Z x1 hZ).ex (okI2 okNil)
    simp only [mjYs, List.map_cons, List.map_nil, yI_toInt] at h1 h2
    obtain ⟨f0, k0⟩ := mjMZ_0 Z
    obtain ⟨f1, k1⟩ := mjMZ_464 Z1
    exact ⟨Z2, h3, (law_sw_17 hs).trans (law_case_17 e1 h1 h2 k0 k1)⟩
  rcases (show j = 18 ∨ 18 < j by omega) with g | g
  · subst g
    obtain ⟨r, Z1, Z2, h1, h2, h3⟩ := (c18 Z x1 hZ).ex (okI2 okNil)
    simp only [mjYs, List.map_cons, List.map_nil, yI_toInt] at h1 h2
    obtain ⟨f0, k0⟩ := mjMZ_0 Z
    obtain ⟨f1, k1⟩ := mjMZ_464 Z1
    exact ⟨Z2, h3, (law_sw_18 hs).trans (law_case_18 e1 h1 h2 k0 k1)⟩
  rcases (show j = 19 ∨ 19 < j by omega) with g | g
  · subst g
    obtain ⟨r, Z1, Z2, h1, h2, h3⟩ := (c19 Z x1 hZ).ex (okI2 okNil)
    simp only [mjYs, List.map_cons, List.map_nil, yI_toInt] at h1 h2
    obtain ⟨f0, k0⟩ := mjMZ_0 Z
    obtain ⟨f1, k1⟩ := mjMZ_464 Z1
    exact ⟨Z2, h3, (law_sw_19 hs).trans (law_case_19 e1 h1 h2 k0 k1)⟩
  rcases (show j = 20 ∨ 20 < j by omega) with g | g
  · subst g
    obtain ⟨r, Z1, Z2, h1, h2, h3⟩ := (c20 Z x1 hZ).ex (okI2 okNil)
    simp only [mjYs, List.map_cons, List.map_nil, yI_toInt] at h1 h2
    obtain ⟨f0, k0⟩ := mjMZ_0 Z
    obtain ⟨f1, k1⟩ := mjMZ_464 Z1
    exact ⟨Z2, h3, (law_sw_20 hs).trans (law_case_20 e1 h1 h2 k0 k1)⟩
  rcases (show j = 21 ∨ 21 < j by omega) with g | g
  · subst g
    obtain ⟨r, Z1, Z2, h1, h2, h3⟩ := (c21 Z x1 x2 hZ).ex (okI2 (okI2 okNil))
    simp only [mjYs, List.map_cons, List.map_nil, yI_toInt] at h1 h2
    obtain ⟨f0, k0⟩ := mjMZ_0 Z
    obtain ⟨f1, k1⟩ := mjMZ_464 Z1
    exact ⟨Z2, h3, (law_sw_21 hs).trans (law_case_21 e1 e2 h1 h2 k0 k1)⟩
  rcases (show j = 22 ∨ 22 < j by omega) with g | g
  · subst g
    obtain ⟨r, Z1, Z2, h1, h2, h3⟩ := (c22 Z x1 x2 x3 x4 hZ).ex (okI2 (okI2 (okI2 (okI2 okNil))))
    simp only [mjYs, List.map_cons, List.map_nil, yI_toInt] at h1 h2
    obtain ⟨f0, k0⟩ := mjMZ_0 Z
    obtain ⟨f1, k1⟩ := mjMZ_464 Z1
    exact ⟨Z2, h3, (law_sw_22 hs).trans (law_case_22 e1 e2 e3 e4 h1 h2 k0 k1)⟩
  rcases (show j = 23 ∨ 23 < j by omega) with g | g
  · subst g
    obtain ⟨r, Z1, Z2, h1, h2, h3⟩ := (c23 Z x1 x2 x3 hZ).ex (okI2 (okI2 (okI2 okNil)))
    simp only [mjYs, List.map_cons, List.map_nil, yI_toInt] at h1 h2
    obtain ⟨f0, k0⟩ := mjMZ_0 Z
    obtain ⟨f1, k1⟩ := mjMZ_464 Z1
    exact ⟨Z2, h3, (law_sw_23 hs).trans (law_case_23 e1 e2 e3 h1 h2 k0 k1)⟩
  rcases (show j = 24 ∨ 24 < j by omega) with g | g
  · subst g
    obtain ⟨r, Z1, Z2, h1, h2, h3⟩ := (c24 Z hZ).ex okNil
    obtain ⟨f0, k0⟩ := mjMZ_0 Z
    obtain ⟨f1, k1⟩ := mjMZ_464 Z1
    exact ⟨Z2, h3, (law_sw_24 hs).trans (law_case_24  h1 h2 k0 k1)⟩
  rcases (show j = 25 ∨ 25 < j by omega) with g | g
  · subst g
    obtain ⟨r, Z1, Z2, h1, h2, h3⟩ := (c25 Z x1 x2 hZ).ex (okI2 (okI2 okNil))
    simp only [mjYs, List.map_cons, List.map_nil, yI_toInt] at h1 h2
    obtain ⟨f0, k0⟩ := mjMZ_0 Z
    obtain ⟨f1, k1⟩ := mjMZ_464 Z1
    exact ⟨Z2, h3, (law_sw_25 hs).trans (law_case_25 e1 e2 h1 h2 k0 k1)⟩
  rcases (show j = 26 ∨ 26 < j by omega) with g | g
  · subst g
    obtain ⟨r, Z1, Z2, h1, h2, h3⟩ := (c26 Z x1 hZ).ex (okI2 okNil)
    simp only [mjYs, List.map_cons, List.map_nil, yI_toInt] at h1 h2
    obtain ⟨f0, k0⟩ := mjMZ_0 Z
    obtain ⟨f1, k1⟩ := mjMZ_464 Z1
    exact ⟨Z2, h3, (law_sw_26 hs).trans (law_case_26 e1 h1 h2 k0 k1)⟩
  rcases (show j = 27 ∨ 27 < j by omega) with g | g
  · subst g
    obtain ⟨r, Z1, Z2, h1, h2, h3⟩ := (c27 Z x1 hZ).ex (okI2 okNil)
    simp only [mjYs, List.map_cons, List.map_nil, yI_toInt] at h1 h2
    obtain ⟨f0, k0⟩ := mjMZ_0 Z
    obtain ⟨f1, k1⟩ := mjMZ_464 Z1
    exact ⟨Z2, h3, (law_sw_27 hs).trans (law_case_27 e1 h1 h2 k0 k1)⟩
  omega
theorem iv_cases_2 {I : mjZ → Prop} (hA : ivAll I) {scr : List Int32} {i x0 x1 x2 x3 x4 x5 : Int32} {Z : mjZ} (hZ : I Z) (e1 : mjAt? scr (i + Int32.ofInt 1) = some x1) (e2 : mjAt? scr (i + Int32.ofInt 2) = some x2) (e3 : mjAt? scr (i + Int32.ofInt 3) = some x3) (e4 : mjAt? scr (i + Int32.ofInt 4) = some x4) (e5 : mjAt? scr (i + Int32.ofInt 5) = some x5) : ∀ (j : Nat), 28 ≤ j → j < 42 → x0 = Int32.ofNat j → ∃ Z2, I Z2 ∧ mjTo 10 4 (some scr) mjLt (33, mjLl i, [.int x0], mjMZ Z) (1455, mjLl i, [], mjMZ Z2) := by
  obtain ⟨c0, c1, c2, c3, c4, c5, c6, c7, c8, c9, c10, c11, c12, c13, c14, c15, c16, c17, c18, c19, c20, c21, c22, c23, c24, c25, c26, c27, c28, c29, c30, c31, c32, c33, c34, c35, c36, c37, c38, c39, c40, c41⟩ := hA
  intro j hj1 hj2 hs
  rcases (show j = 28 ∨ 28 < j by omega) with g | g
  · subst g
    obtain ⟨r, Z1, Z2, h1, h2, h3⟩ := (c28 Z x1 hZ).ex (okI2 okNil)
    simp only [mjYs, List.map_cons, List.map_nil, yI_toInt] at h1 h2
    obtain ⟨f0, k0⟩ := mjMZ_0 Z
    obtain ⟨f1, k1⟩ := mjMZ_464 Z1
    exact ⟨Z2, h3, (law_sw_28 hs).trans (law_case_28 e1 h1 h2 k0 k1)⟩
  rcases (show j = 29 ∨ 29 < j by omega) with g | g
  · subst g
    obtain ⟨r, Z1, Z2, h1, h2, h3⟩ := (c29 Z x1 x2 hZ).ex (okI2 (okI2 okNil))
    simp only [mjYs, List.map_cons, List.map_nil, yI_toInt] at h1 h2
    obtain ⟨f0, k0⟩ := mjMZ_0 Z
    obtain ⟨f1, k1⟩ := mjMZ_464 Z1
    exact ⟨Z2, h3, (law_sw_29 hs).trans (law_case_29 e1 e2 h1 h2 k0 k1)⟩
  rcases (show j = 30 ∨ 30 < j by omega) with g | g
  · subst g
    obtain ⟨r, Z1, Z2, h1, h2, h3⟩ := (c30 Z x1 x2 hZ).ex (okI2 (okI2 okNil))
    simp only [mjYs, List.map_cons, List.map_nil, yI_toInt] at h1 h2
    obtain ⟨f0, k0⟩ := mjMZ_0 Z
    obtain ⟨f1, k1⟩ := mjMZ_464 Z1
    exact ⟨Z2, h3, (law_sw_30 hs).trans (law_case_30 e1 e2 h1 h2 k0 k1)⟩
  rcases (show j = 31 ∨ 31 < j by omega) with g | g
  · subst g
    obtain ⟨r, Z1, Z2, h1, h2, h3⟩ := (c31 Z x1 hZ).ex (okI2 okNil)
    simp only [mjYs, List.map_cons, List.map_nil, yI_toInt] at h1 h2
    obtain ⟨f0, k0⟩ := mjMZ_0 Z
    obtain ⟨f1, k1⟩ := mjMZ_464 Z1
    exact ⟨Z2, h3, (law_sw_31 hs).trans (law_case_31 e1 h1 h2 k0 k1)⟩
  rcases (show j = 32 ∨ 32 < j by omega) with g | g
  · subst g
    obtain ⟨r, Z1, Z2, h1, h2, h3⟩ := (c32 Z x1 hZ).ex (okI2 okNil)
    simp only [mjYs, List.map_cons, List.map_nil, yI_toInt] at h1 h2
    obtain ⟨f0, k0⟩ := mjMZ_0 Z
    obtain ⟨f1, k1⟩ := mjMZ_464 Z1
    exact ⟨Z2, h3, (law_sw_32 hs).trans (law_case_32 e1 h1 h2 k0 k1)⟩
  rcases (show j = 33 ∨ 33 < j by omega) with g | g
  · subst g
    obtain ⟨r, Z1, Z2, h1, h2, h3⟩ := (c33 Z x1 hZ).ex (okI2 okNil)
    simp only [mjYs, List.map_cons, List.map_nil, yI_toInt] at h1 h2
    obtain ⟨f0, k0⟩ := mjMZ_0 Z
    obtain ⟨f1, k1⟩ := mjMZ_464 Z1
    exact ⟨Z2, h3, (law_sw_33 hs).trans (law_case_33 e1 h1 h2 k0 k1)⟩
  rcases (show j = 34 ∨ 34 < j by omega) with g | g
  · subst g
    obtain ⟨r, Z1, Z2, h1, h2, h3⟩ := (c34 Z hZ).ex okNil
    obtain ⟨f0, k0⟩ := mjMZ_0 Z
    obtain ⟨f1, k1⟩ := mjMZ_464 Z1
    exact ⟨Z2, h3, (law_sw_34 hs).trans (law_case_34  h1 h2 k0 k1)⟩
  rcases (show j = 35 ∨ 35 < j by omega) with g | g
  · subst g
    obtain ⟨r, Z1, Z2, h1, h2, h3⟩ := (c35 Z x1 hZ).ex (okI2 okNil)
    simp only [mjYs, List.map_cons, List.map_nil, yI_toInt] at h1 h2
    obtain ⟨f0, k0⟩ := mjMZ_0 Z
    obtain ⟨f1, k1⟩ := mjMZ_464 Z1
    exact ⟨Z2, h3, (law_sw_35 hs).trans (law_case_35 e1 h1 h2 k0 k1)⟩
  rcases (show j = 36 ∨ 36 < j by omega) with g | g
  · subst g
    obtain ⟨r, Z1, Z2, h1, h2, h3⟩ := (c36 Z x1 hZ).ex (okI2 okNil)
    simp only [mjYs, List.map_cons, List.map_nil, yI_toInt] at h1 h2
    obtain ⟨f0, k0⟩ := mjMZ_0 Z
    obtain ⟨f1, k1⟩ := mjMZ_464 Z1
    exact ⟨Z2, h3, (law_sw_36 hs).trans (law_case_36 e1 h1 h2 k0 k1)⟩
  rcases (show j = 37 ∨ 37 < j by omega) with g | g
  · subst g
    obtain ⟨r, Z1, Z2, h1, h2, h3⟩ := (c37 Z x1 x2 hZ).ex (okI2 (okI2 okNil))
    simp only [mjYs, List.map_cons, List.map_nil, yI_toInt] at h1 h2
    obtain ⟨f0, k0⟩ := mjMZ_0 Z
    obtain ⟨f1, k1⟩ := mjMZ_464 Z1
    exact ⟨Z2, h3, (law_sw_37 hs).trans (law_case_37 e1 e2 h1 h2 k0 k1)⟩
  rcases (show j = 38 ∨ 38 < j by omega) with g | g
  · subst g
    obtain ⟨r, Z1, Z2, h1, h2, h3⟩ := (c38 Z hZ).ex okNil
    obtain ⟨f0, k0⟩ := mjMZ_0 Z
    obtain ⟨f1, k1⟩ := mjMZ_464 Z1
    exact ⟨Z2, h3, (law_sw_38 hs).trans (law_case_38  h1 h2 k0 k1)⟩
  rcases (show j = 39 ∨ 39 < j by omega) with g | g
  · subst g
    obtain ⟨r, Z1, Z2, h1, h2, h3⟩ := (c39 Z x1 hZ).ex (okI2 okNil)
    simp only [mjYs, List.map_cons, List.map_nil, yI_toInt] at h1 h2
    obtain ⟨f0, k0⟩ := mjMZ_0 Z
    obtain ⟨f1, k1⟩ := mjMZ_464 Z1
    exact ⟨Z2, h3, (law_sw_39 hs).trans (law_case_39 e1 h1 h2 k0 k1)⟩
  rcases (show j = 40 ∨ 40 < j by omega) with g | g
  · subst g
    obtain ⟨r, Z1, Z2, h1, h2, h3⟩ := (c40 Z x1 hZ).ex (okI2 okNil)
    simp only [mjYs, List.map_cons, List.map_nil, yI_toInt] at h1 h2
    obtain ⟨f0, k0⟩ := mjMZ_0 Z
    obtain ⟨f1, k1⟩ := mjMZ_464 Z1
    exact ⟨Z2, h3, (law_sw_40 hs).trans (law_case_40 e1 h1 h2 k0 k1)⟩
  rcases (show j = 41 ∨ 41 < j by omega) with g | g
  · subst g
    obtain ⟨r, Z1, Z2, h1, h2, h3⟩ := (c41 Z hZ).ex okNil
    obtain ⟨f0, k0⟩ := mjMZ_0 Z
    obtain ⟨f1, k1⟩ := mjMZ_464 Z1
    exact ⟨Z2, h3, (law_sw_41 hs).trans (law_case_41  h1 h2 k0 k1)⟩
  omega
theorem iv_idle {scr : List Int32} {i x0 : Int32} {h : mjH} : ∀ (j : Nat), 42 ≤ j → j < 64 → x0 = Int32.ofNat j → mjTo 10 4 (some scr) mjLt (33, mjLl i, [.int x0], h) (1455, mjLl i, [], h) := by
  intro j h1 h2 hs
  rcases (show j = 42 ∨ 42 < j by omega) with g | g
  · subst g
    exact law_sw_42 hs
  rcases (show j = 43 ∨ 43 < j by omega) with g | g
  · subst g
    exact law_sw_43 hs
  rcases (show j = 44 ∨ 44 < j by omega) with g | g
  · subst g
    exact law_sw_44 hs
  rcases (show j = 45 ∨ 45 < j by omega) with g | g
  · subst g
    exact law_sw_45 hs
  rcases (show j = 46 ∨ 46 < j by omega) with g | g
  · subst g
    exact law_sw_46 hs
  rcases (show j = 47 ∨ 47 < j by omega) with g | g
  · subst g
    exact law_sw_47 hs
  rcases (show j = 48 ∨ 48 < j by omega) with g | g
  · subst g
    exact law_sw_48 hs
  rcases (show j = 49 ∨ 49 < j by omega) with g | g
  · subst g
    exact law_sw_49 hs
  rcases (show j = 50 ∨ 50 < j by omega) with g | g
  · subst g
    exact law_sw_50 hs
  rcases (show j = 51 ∨ 51 < j by omega) with g | g
  · subst g
    exact law_sw_51 hs
  rcases (show j = 52 ∨ 52 < j by omega) with g | g
  · subst g
    exact law_sw_52 hs
  rcases (show j = 53 ∨ 53 < j by omega) with g | g
  · subst g
    exact law_sw_53 hs
  rcases (show j = 54 ∨ 54 < j by omega) with g | g
  · subst g
    exact law_sw_54 hs
  rcases (show j = 55 ∨ 55 < j by omega) with g | g
  · subst g
    exact law_sw_55 hs
  rcases (show j = 56 ∨ 56 < j by omega) with g | g
  · subst g
    exact law_sw_56 hs
  rcases (show j = 57 ∨ 57 < j by omega) with g | g
  · subst g
    exact law_sw_57 hs
  rcases (show j = 58 ∨ 58 < j by omega) with g | g
  · subst g
    exact law_sw_58 hs
  rcases (show j = 59 ∨ 59 < j by omega) with g | g
  · subst g
    exact law_sw_59 hs
  rcases (show j = 60 ∨ 60 < j by omega) with g | g
  · subst g
    exact law_sw_60 hs
  rcases (show j = 61 ∨ 61 < j by omega) with g | g
  · subst g
    exact law_sw_61 hs
  rcases (show j = 62 ∨ 62 < j by omega) with g | g
  · subst g
    exact law_sw_62 hs
  rcases (show j = 63 ∨ 63 < j by omega) with g | g
  · subst g
    exact law_sw_63 hs
  omega
/-- one turn of the law -/
theorem iv_oneTurn {I : mjZ → Prop} (hA : ivAll I) {scr : List Int32} {p : Nat} {Z : mjZ} (hZ : I Z) (hp : p + 6 ≤ scr.length) (hL : scr.length ≤ 3072) : ∃ Z2, I Z2 ∧ mjTo 10 4 (some scr) mjLt (18, mjLl (Int32.ofNat p), [], mjMZ Z) (18, mjLl (Int32.ofNat (p + 6)), [], mjMZ Z2) := by
  have hat : ∀ k, k < 6 → mjAt? scr (Int32.ofNat (p + k)) = some (scr[p + k]!) := fun k hk => by
    unfold mjAt?
    rw [if_neg (mjN_pos rfl (by omega)), mjN_clamp rfl (by omega), List.getElem?_eq_getElem (by omega)]
    rw [getElem!_pos scr (p + k) (by omega)]
  have e0 := hat 0 (by omega)
  have hi : ∀ k : Nat, Int32.ofNat p + Int32.ofNat k = Int32.ofNat (p + k) := fun k => mjN_add rfl rfl
  have e1 : mjAt? scr (Int32.ofNat p + Int32.ofInt 1) = some (scr[p + 1]!) := by rw [show Int32.ofInt 1 = Int32.ofNat 1 from rfl, hi]; exact hat 1 (by omega)
  have e2 : mjAt? scr (Int32.ofNat p + Int32.ofInt 2) = some (scr[p + 2]!) := by rw [show Int32.ofInt 2 = Int32.ofNat 2 from rfl, hi]; exact hat 2 (by omega)
  have e3 : mjAt? scr (Int32.ofNat p + Int32.ofInt 3) = some (scr[p + 3]!) := by rw [show Int32.ofInt 3 = Int32.ofNat 3 from rfl, hi]; exact hat 3 (by omega)
  have e4 : mjAt? scr (Int32.ofNat p + Int32.ofInt 4) = some (scr[p + 4]!) := by rw [show Int32.ofInt 4 = Int32.ofNat 4 from rfl, hi]; exact hat 4 (by omega)
  have e5 : mjAt? scr (Int32.ofNat p + Int32.ofInt 5) = some (scr[p + 5]!) := by rw [show Int32.ofInt 5 = Int32.ofNat 5 from rfl, hi]; exact hat 5 (by omega)
  have hgt : mjCmp .gt (Int32.ofNat p) (Int32.ofNat scr.length - (Int8.ofInt 6).toInt32) = false := by
    rw [show (Int8.ofInt 6).toInt32 = Int32.ofNat 6 from rfl, mjN_sub rfl rfl (by omega)]
    exact nF_gt rfl rfl (by omega) (by omega) (by omega)
  obtain ⟨j, hj, hs⟩ := pk_andE (scr[p + 0]!) (m := (Int8.ofInt 63).toInt32) 6 (by decide)
  have hbody : ∃ Z2, I Z2 ∧ mjTo 10 4 (some scr) mjLt (33, mjLl (Int32.ofNat p), [.int (scr[p + 0]! &&& (Int8.ofInt 63).toInt32)], mjMZ Z) (1455, mjLl (Int32.ofNat p), [], mjMZ Z2) := by
    rcases Nat.lt_or_ge j 14 with g | g
    · exact iv_cases_0 hA hZ e1 e2 e3 e4 e5 j (by omega) g hs
    · rcases Nat.lt_or_ge j 28 with g2 | g2
      · exact iv_cases_1 hA hZ e1 e2 e3 e4 e5 j g g2 hs
      · rcases Nat.lt_or_ge j 42 with g3 | g3
        · exact iv_cases_2 hA hZ e1 e2 e3 e4 e5 j g2 g3 hs
        · exact ⟨Z, hZ, iv_idle j g3 hj hs⟩
  obtain ⟨Z2, h2, h3⟩ := hbody
  refine ⟨Z2, h2, (law_head hgt e0).trans (h3.trans ?_)⟩
  have := law_next (scr := scr) (i := Int32.ofNat p) (h := mjMZ Z2)
  rw [show Int32.ofInt 6 = Int32.ofNat 6 from rfl, hi] at this
  exact this
theorem iv_loop {I : mjZ → Prop} (hA : ivAll I) {scr : List Int32} (hL : scr.length ≤ 3072) : ∀ (m p : Nat) (Z : mjZ), scr.length ≤ p + m → p ≤ scr.length → I Z → ∃ (p' : Nat) (Z2 : mjZ), mjTo 10 4 (some scr) mjLt (18, mjLl (Int32.ofNat p), [], mjMZ Z) (18, mjLl (Int32.ofNat p'), [], mjMZ Z2) ∧ scr.length < p' + 6 ∧ p' ≤ scr.length
  | 0, p, Z, h, hp, hZ => ⟨p, Z, mjTo.refl, by omega, hp⟩
  | m + 1, p, Z, h, hp, hZ => by
    rcases Nat.lt_or_ge scr.length (p + 6) with g | g
    · exact ⟨p, Z, mjTo.refl, g, hp⟩
    · obtain ⟨Z2, h2, h3⟩ := iv_oneTurn hA hZ g hL
      obtain ⟨p', Z3, h4, h5, h6⟩ := iv_loop hA hL m (p + 6) Z2 (by omega) g h2
      exact ⟨p', Z3, h3.trans h4, h5, h6⟩
theorem mjFs2_len {ci : Nat} {z : Nat → Int} : ∀ (ts : List Value) (k : Nat), (mjFs2 ci k ts z).length = ts.length
  | [], _ => rfl
  | t :: ts, k => by simp only [mjFs2, List.length_cons, mjFs2_len ts (k + 1)]
theorem mjFill_sz (c : mjC) (z : Nat → Int) : mjCs (mjFill c z) = mjCs c := by
  cases c with
  | inl o => exact mjFs2_len _ _
  | inr c => cases c with
    | inl xs => exact mjA_len
    | inr c => cases c with
      | inl xs => exact mjA_len
      | inr o =>
        simp only [mjFill, mjCs]
        cases hb : Nat.beq o.2.length 36 with
        | true => rw [cond_true, mjA_len, Nat.eq_of_beq_eq_true hb]
        | false => rfl
theorem mjSz_map {α : Type} (f g : α → mjC) (h : ∀ a, mjCs (f a) = mjCs (g a)) : ∀ l : List α, mjSz (l.map f) = mjSz (l.map g)
  | [] => rfl
  | a :: l => by simp only [List.map_cons, mjSz, h a, mjSz_map f g h l]
theorem mjMZ_size (Z : mjZ) : mjSz (mjMZ Z) ≤ 20000 := by
  have h1 : mjSz (mjMZ Z) = mjSz ((List.range 494).map mjSh) := mjSz_map _ _ (fun c => mjFill_sz _ _) _
  have h2 : mjSz ((List.range 494).map mjSh) ≤ 20000 := by decide +kernel
  omega
theorem iv_ends {I : mjZ → Prop} {Z0 : mjZ} (h0 : mjMZ Z0 = mjHP) (hI : I Z0) (hA : ivAll I) : mjLawEnds 3072 := by
  intro scr hL
  obtain ⟨p', Z2, h1, h2, h3⟩ := iv_loop hA hL scr.length 0 Z0 (by omega) (by omega) hI
  have r1 : (mjMZ Z2).length ≤ 600000 := by rw [mjMZ_room]; decide
  have r2 : mjSz (mjMZ Z2) ≤ 7302250 := Nat.le_trans (mjMZ_size Z2) (by decide)
  refine ⟨(1462, mjLl (Int32.ofNat p'), [.int (Int32.ofInt 1)], mjMZ Z2), ?_, mjLw_1462, rfl, by dsimp only; exact r1, by dsimp only; exact r2⟩
  have hs := mjLaw_start (scr := some scr)
  rw [← h0] at hs
  refine hs.trans (h1.trans (law_exit ?_))
  have e6 : Int32.ofNat scr.length - (Int8.ofInt 6).toInt32 = Int32.ofInt ((scr.length : Int) - 6) := by
    rw [Int32.ofInt_sub, mjR_nat]
    rfl
  rw [e6]
  refine cT_gt ?_
  rw [mjR_int ⟨by omega, by omega⟩, mjN_int rfl (by omega)]
  omega
