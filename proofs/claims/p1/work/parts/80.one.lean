/-! One call on a fresh object: both sides answer alike. -/
theorem mj_nan32 (w : Int64) : mjCmp .gt (lg_cmp (w &&& (2147483647)) (2139095040)) 0 = !(mjCmp .le (w.toInt32 &&& (2147483647)) (2139095040)) := by
  have e1 : (w.toInt32 &&& (2147483647 : Int32)) = nI (w.toInt32.toBitVec.toNat % 2 ^ 31) := pk_and w.toInt32 31 (by decide)
  have hb : w.toInt32.toBitVec.toNat % 2 ^ 31 = w.toBitVec.toNat % 2 ^ 31 := by
    have : w.toInt32.toBitVec.toNat = w.toBitVec.toNat % 2 ^ 32 := by
      show (w.toInt32.toBitVec).toNat = _
      rw [Int64.toBitVec_toInt32, BitVec.signExtend_eq_setWidth_of_le _ (by decide), BitVec.toNat_setWidth]
    rw [this]
    omega
  have h31 : w.toBitVec.toNat % 2 ^ 31 < 2 ^ 31 := Nat.mod_lt _ (by decide)
  have i1 : (w.toInt32 &&& (2147483647 : Int32)).toInt = ((w.toBitVec.toNat % 2 ^ 31 : Nat) : Int) := by
    rw [e1, hb, nI_toInt h31]
  have i2 : (w &&& (2147483647 : Int64)).toInt = ((w.toBitVec.toNat % 2 ^ 31 : Nat) : Int) := by
    have hn : (w &&& (2147483647 : Int64)).toBitVec.toNat = w.toBitVec.toNat % 2 ^ 31 := by
      rw [Int64.toBitVec_and, BitVec.toNat_and, show (2147483647 : Int64).toBitVec.toNat = 2 ^ 31 - 1 from by decide, Nat.and_two_pow_sub_one_eq_mod]
    rw [← Int64.toInt_toBitVec, BitVec.toInt_eq_toNat_of_lt (by rw [hn]; omega), hn]
  have c1 : (2139095040 : Int32).toInt = 2139095040 := by decide
  have c2 : (2139095040 : Int64).toInt = 2139095040 := by decide
  unfold lg_cmp
  by_cases hg : (w &&& (2147483647 : Int64)) > (2139095040 : Int64)
  · rw [if_pos hg]
    have hg2 := Int64.lt_iff_toInt_lt.mp hg
    rw [c2, i2] at hg2
    have : mjCmp .le (w.toInt32 &&& (2147483647)) (2139095040) = false := cF_le (by rw [i1, c1]; exact hg2)
    rw [this]
    decide
  · rw [if_neg hg]
    have hg2 : ¬ ((2139095040 : Int64).toInt < (w &&& (2147483647 : Int64)).toInt) := fun q => hg (Int64.lt_iff_toInt_lt.mpr q)
    rw [c2, i2] at hg2
    have : mjCmp .le (w.toInt32 &&& (2147483647)) (2139095040) = true := cT_le (by rw [i1, c1]; omega)
    rw [this]
    split <;> decide
/-- both calls, run -/
def mjBoth (t mx mm : Nat) (as : List Value) : Bool := match mjCall mjFs 3000 mjCd 6 mx (.ref 1 :: as) mjHP with
  | some (some v, h1) => (match mjCall mjFs 3000 mjCd 6 mm (.ref 465 :: as) h1 with
    | some (some w, _) => decide (v = w) && Nat.beq (mjKd v) t && mjIs h1 (.ref 465) 11
    | _ => false)
  | _ => false
theorem mjBoth_ok {t mx mm : Nat} {as : List Value} (h : mjBoth t mx mm as = true) : ∃ v h1 h2 f, mjKd v = t ∧ mjDoes 10 mx (.ref 1 :: as) mjHP (some v) h1 ∧ mjDoes 10 mm (.ref 465 :: as) h1 (some v) h2 ∧ h1[464]? = some (.inl (11, f)) := by
  unfold mjBoth at h
  cases hx : mjCall mjFs 3000 mjCd 6 mx (.ref 1 :: as) mjHP with
  | none => rw [hx] at h; cases h
  | some p =>
    obtain ⟨v, h1⟩ := p
    rw [hx] at h
    cases v with
    | none => cases h
    | some v =>
      dsimp only at h
      cases hm : mjCall mjFs 3000 mjCd 6 mm (.ref 465 :: as) h1 with
      | none => rw [hm] at h; cases h
      | some p2 =>
        obtain ⟨w, h2⟩ := p2
        rw [hm] at h
        cases w with
        | none => cases h
        | some w =>
          dsimp only at h
          simp only [Bool.and_eq_true, decide_eq_true_eq] at h
          obtain ⟨⟨e1, e2⟩, e3⟩ := h
          subst e1
          obtain ⟨a, fs, ea, ef⟩ := mjIs_inv e3
          cases ea
          exact ⟨v, h1, h2, fs, Nat.eq_of_beq_eq_true e2, mjDoes.up (by decide) ⟨3000, hx⟩, mjDoes.up (by decide) ⟨3000, hm⟩, ef⟩
theorem mj_in_of {x : Int32} {n : Nat} (hn : n ≤ 100) (h0 : 0 ≤ x.toInt) (h1 : x.toInt < n) : ∃ j : Nat, j < n ∧ x = Int32.ofNat j := by
  refine ⟨x.toInt.toNat, by omega, ?_⟩
  apply Int32.toInt_inj.mp
  rw [show Int32.ofNat x.toInt.toNat = nI x.toInt.toNat from rfl, nI_toInt (by omega)]
  omega
def mjCase (lng : Bool) (mx mm : Nat) (as : List Value) : Prop := ∃ (v : Value) (h1 h2 : mjH) (f : List Value), mjKd v = (bif lng then 1 else 0) ∧ mjDoes 10 mx (.ref 1 :: as) mjHP (some v) h1 ∧ mjDoes 10 mm (.ref 465 :: as) h1 (some v) h2 ∧ h1[464]? = some (.inl (11, f))
theorem mjCase.i {mx mm : Nat} {as : List Value} {d1 d2 : Nat} {r : Int32} {h1 h2 : mjH} (hx : mjDoes d1 mx (.ref 1 :: as) mjHP (some (.int r)) h1) (hm : mjDoes d2 mm (.ref 465 :: as) h1 (some (.int r)) h2) (hF : mjFM h1) (e1 : d1 ≤ 10) (e2 : d2 ≤ 10) : mjCase false mx mm as := ⟨_, h1, h2, _, rfl, hx.up e1, hm.up e2, hF.m⟩
theorem mjCase.j {mx mm : Nat} {as : List Value} {d1 d2 : Nat} {r : Int64} {h1 h2 : mjH} (hx : mjDoes d1 mx (.ref 1 :: as) mjHP (some (.long r)) h1) (hm : mjDoes d2 mm (.ref 465 :: as) h1 (some (.long r)) h2) (hF : mjFM h1) (e1 : d1 ≤ 10) (e2 : d2 ≤ 10) : mjCase true mx mm as := ⟨_, h1, h2, _, rfl, hx.up e1, hm.up e2, hF.m⟩
theorem fresh_kind (x1 : Int32) : mjCase false 47 180 [.int x1] := mjCase.i (x_kind x1) (m_kind x1) mjFM.hp (by decide) (by decide)
theorem fresh_size (x1 : Int32) : mjCase false 49 182 [.int x1] := mjCase.i (x_size x1) (m_size x1) mjFM.hp (by decide) (by decide)
theorem fresh_is (x1 x2 : Int32) : mjCase false 50 183 [.int x1, .int x2] := mjCase.i (x_is x1 x2) (m_is x1 x2) mjFM.hp (by decide) (by decide)
theorem fresh_at (x1 x2 x3 : Int32) : mjCase false 51 184 [.int x1, .int x2, .int x3] := mjCase.i (x_at x1 x2 x3) (m_at x1 x2 x3) mjFM.hp (by decide) (by decide)
theorem fresh_flow (x1 : Int32) : mjCase false 52 187 [.int x1] := mjCase.i (x_flow x1) (m_flow x1) mjFM.hp (by decide) (by decide)
theorem fresh_turn (x1 x2 x3 : Int32) : mjCase false 54 188 [.int x1, .int x2, .int x3] := mjCase.i (x_turn x1 x2 x3) (m_turn x1 x2 x3) mjFM.hp (by decide) (by decide)
theorem fresh_mix (x1 x2 x3 x4 : Int32) : mjCase false 56 189 [.int x1, .int x2, .int x3, .int x4] := mjCase.i (x_mix x1 x2 x3 x4) (m_mix x1 x2 x3 x4) mjFM.hp (by decide) (by decide)
theorem fresh_shift (x1 x2 : Int32) : mjCase false 60 192 [.int x1, .int x2] := mjCase.i (x_shift x1 x2) (m_shift x1 x2) mjFM.hp (by decide) (by decide)
theorem fresh_drop (x1 x2 : Int32) : mjCase false 62 193 [.int x1, .int x2] := mjCase.i (x_drop x1 x2) (m_drop x1 x2) mjFM.hp (by decide) (by decide)
theorem fresh_weave (x1 x2 : Int32) : mjCase false 64 194 [.int x1, .int x2] := mjCase.i (x_weave x1 x2) (m_weave x1 x2) mjFM.hp (by decide) (by decide)
theorem fresh_line (x1 x2 x3 : Int32) : mjCase false 65 195 [.int x1, .int x2, .int x3] := mjCase.i (x_line x1 x2 x3) (m_line x1 x2 x3) mjFM.hp (by decide) (by decide)
theorem fresh_poly (x1 : Int32) : mjCase false 73 200 [.int x1] := mjCase.i (x_poly x1) (m_poly x1) mjFM.hp (by decide) (by decide)
theorem fresh_worth (x1 : Int32) : mjCase false 87 205 [.int x1] := mjCase.i (x_worth x1) (m_worth x1) mjFM.hp (by decide) (by decide)
theorem fresh_ring (x1 : Int32) : mjCase false 89 206 [.int x1] := mjCase.i (x_ring x1) (m_ring x1) mjFM.hp (by decide) (by decide)
theorem fresh_often (x1 x2 : Int32) : mjCase false 113 216 [.int x1, .int x2] := mjCase.i (x_often x1 x2) (m_often x1 x2) mjFM.hp (by decide) (by decide)
theorem fresh_count (x1 x2 x3 x4 : Int32) : mjCase false 115 217 [.int x1, .int x2, .int x3, .int x4] := mjCase.i (x_count x1 x2 x3 x4) (m_count x1 x2 x3 x4) mjFM.hp (by decide) (by decide)
theorem fresh_shut (x1 x2 x3 : Int32) : mjCase false 118 226 [.int x1, .int x2, .int x3] := mjCase.i (x_shut x1 x2 x3) (m_shut x1 x2 x3) mjFM.hp (by decide) (by decide)
theorem fresh_same (x1 x2 : Int32) : mjCase false 122 228 [.int x1, .int x2] := mjCase.i (x_same x1 x2) (m_same x1 x2) mjFM.hp (by decide) (by decide)
theorem fresh_bend (x1 : Int32) : mjCase false 126 229 [.int x1] := mjCase.i (x_bend x1) (m_bend x1) mjFM.hp (by decide) (by decide)
theorem fresh_signs (x1 : Int32) : mjCase false 139 242 [.int x1] := mjCase.i (x_signs x1) (m_signs x1) mjFM.hp (by decide) (by decide)
theorem fresh_show (x1 : Int32) : mjCase false 140 243 [.int x1] := mjCase.i (x_show x1) (m_show x1) mjFM.hp (by decide) (by decide)
theorem fresh_walks (x1 x2 : Int32) : mjCase false 144 245 [.int x1, .int x2] := mjCase.i (x_walks x1 x2) (m_walks x1 x2) mjFM.hp (by decide) (by decide)
theorem fresh_pieces (x1 : Int32) : mjCase false 146 246 [.int x1] := mjCase.i (x_pieces x1) (m_pieces x1) mjFM.hp (by decide) (by decide)
theorem fresh_two (x1 : Int32) : mjCase false 149 248 [.int x1] := mjCase.i (x_two x1) (m_two x1) mjFM.hp (by decide) (by decide)
theorem fresh_trees (x1 : Int32) : mjCase false 151 249 [.int x1] := mjCase.i (x_trees x1) (m_trees x1) mjFM.hp (by decide) (by decide)
theorem fresh_bound (x1 : Int32) : mjCase false 68 197 [.int x1] := by
  have hx := x_bound x1
  rw [x_bound_eq] at hx
  exact mjCase.i hx (m_bound x1) mjFM.hp (by decide) (by decide)
theorem fresh_trace (x1 : Int32) : mjCase false 72 199 [.int x1] := mjCase.i (x_trace x1) (m_trace x1 mjFM.hp) mjFM.hp (by decide) (by decide)
theorem fresh_sign (x1 : Int32) : mjCase false 153 252 [.int x1] := mjCase.i (x_sign x1) (m_sign x1 mjFM.hp) mjFM.hp (by decide) (by decide)
theorem fresh_bits (x1 : Int32) : mjCase false 155 253 [.int x1] := mjCase.i (x_bits x1) (m_bits x1 mjFM.hp) mjFM.hp (by decide) (by decide)
theorem fresh_word (x1 x2 : Int32) : mjCase true 157 254 [.int x1, .int x2] := mjCase.j (x_word x1 x2) (m_word x1 x2 mjFM.hp) mjFM.hp (by decide) (by decide)
theorem fresh_where_b : mjBoth 0 46 179 [] = true := by decide +kernel
theorem fresh_where : mjCase false 46 179 [] := mjBoth_ok fresh_where_b
theorem fresh_seen_b : mjBoth 1 121 227 [] = true := by decide +kernel
theorem fresh_seen : mjCase true 121 227 [] := mjBoth_ok fresh_seen_b
theorem fresh_results_b : mjBoth 0 152 251 [] = true := by decide +kernel
theorem fresh_results : mjCase false 152 251 [] := mjBoth_ok fresh_results_b
theorem fresh_finding_b : mjBoth 0 159 256 [] = true := by decide +kernel
theorem fresh_finding : mjCase false 159 256 [] := mjBoth_ok fresh_finding_b
theorem fresh_digest_b : mjBoth 1 164 259 [] = true := by decide +kernel
theorem fresh_digest : mjCase true 164 259 [] := mjBoth_ok fresh_digest_b
theorem fresh_findings_1 : mjBoth 0 160 257 [.int (Int32.ofNat 1)] = true := by decide +kernel
theorem fresh_findings_2 : mjBoth 0 160 257 [.int (Int32.ofNat 2)] = true := by decide +kernel
theorem fresh_findings_3 : mjBoth 0 160 257 [.int (Int32.ofNat 3)] = true := by decide +kernel
theorem fresh_findings_4 : mjBoth 0 160 257 [.int (Int32.ofNat 4)] = true := by decide +kernel
theorem fresh_findings_5 : mjBoth 0 160 257 [.int (Int32.ofNat 5)] = true := by decide +kernel
theorem fresh_findings_6 : mjBoth 0 160 257 [.int (Int32.ofNat 6)] = true := by decide +kernel
theorem fresh_findings_7 : mjBoth 0 160 257 [.int (Int32.ofNat 7)] = true := by decide +kernel
theorem fresh_findings_8 : mjBoth 0 160 257 [.int (Int32.ofNat 8)] = true := by decide +kernel
theorem fresh_findings (x1 : Int32) : mjCase false 160 257 [.int x1] := by
  by_cases hq : x1.toInt < 1 ∨ 8 < x1.toInt
  · exact mjCase.i (x_findings_out hq) (m_findings_out hq) mjFM.hp (by decide) (by decide)
  · obtain ⟨j, hj, rfl⟩ := mj_in_of (x := x1) (n := 9) (by decide) (by omega) (by omega)
    have h0 : 1 ≤ j := by
      have := cj (show j < 100 by omega)
      omega
    match j, hj, h0 with
    | 0, _, h0 => exact absurd h0 (by decide)
    | 1, _, _ => exact mjBoth_ok fresh_findings_1
    | 2, _, _ => exact mjBoth_ok fresh_findings_2
    | 3, _, _ => exact mjBoth_ok fresh_findings_3
    | 4, _, _ => exact mjBoth_ok fresh_findings_4
    | 5, _, _ => exact mjBoth_ok fresh_findings_5
    | 6, _, _ => exact mjBoth_ok fresh_findings_6
    | 7, _, _ => exact mjBoth_ok fresh_findings_7
    | 8, _, _ => exact mjBoth_ok fresh_findings_8
    | j + 9, hj, _ => exact absurd hj (by omega)
theorem fresh_about_0 : mjBoth 0 161 258 [.int (Int32.ofNat 0)] = true := by decide +kernel
theorem fresh_about_1 : mjBoth 0 161 258 [.int (Int32.ofNat 1)] = true := by decide +kernel
theorem fresh_about_2 : mjBoth 0 161 258 [.int (Int32.ofNat 2)] = true := by decide +kernel
theorem fresh_about_3 : mjBoth 0 161 258 [.int (Int32.ofNat 3)] = true := by decide +kernel
theorem fresh_about_4 : mjBoth 0 161 258 [.int (Int32.ofNat 4)] = true := by decide +kernel
theorem fresh_about_5 : mjBoth 0 161 258 [.int (Int32.ofNat 5)] = true := by decide +kernel
theorem fresh_about_6 : mjBoth 0 161 258 [.int (Int32.ofNat 6)] = true := by decide +kernel
theorem fresh_about (x1 : Int32) : mjCase false 161 258 [.int x1] := by
  by_cases hq : x1.toInt < 0 ∨ 6 < x1.toInt
  · exact mjCase.i (x_about_out hq) (m_about_out hq) mjFM.hp (by decide) (by decide)
  · obtain ⟨j, hj, rfl⟩ := mj_in_of (x := x1) (n := 7) (by decide) (by omega) (by omega)
    match j, hj with
    | 0, _ => exact mjBoth_ok fresh_about_0
    | 1, _ => exact mjBoth_ok fresh_about_1
    | 2, _ => exact mjBoth_ok fresh_about_2
    | 3, _ => exact mjBoth_ok fresh_about_3
    | 4, _ => exact mjBoth_ok fresh_about_4
    | 5, _ => exact mjBoth_ok fresh_about_5
    | 6, _ => exact mjBoth_ok fresh_about_6
    | j + 7, hj => exact absurd hj (by omega)
theorem fresh_leaf (x1 x2 x3 : Int32) : mjCase false 12 167 [.int x1, .int x2, .int x3] := by
  by_cases hq : x1.toInt < 0 ∨ 15 < x1.toInt
  · exact mjCase.i (x_leaf_out hq) (m_leaf_out hq) mjFM.hp (by decide) (by decide)
  · obtain ⟨j, hj, rfl⟩ := mj_in_of (x := x1) (n := 16) (by decide) (by omega) (by omega)
    by_cases hl : x2.toInt < 0 ∨ 3 < x2.toInt
    · exact mjCase.i (x_leaf_lane hj hl) (m_leaf_lane hj hl) mjFM.hp (by decide) (by decide)
    · by_cases hb : 8 < x3.toInt
      · exact mjCase.i (x_leaf_big hj (by omega) (by omega) hb) (m_leaf_big hj (by omega) (by omega) hb) mjFM.hp (by decide) (by decide)
      · by_cases hs : x3.toInt < 0
        · obtain ⟨h1, hx, hF⟩ := x_leaf_size (lane := x2) (n := x3) hj (by omega) (by omega) hs
          obtain ⟨h2, hm⟩ := m_leaf_size (lane := x2) (n := x3) hF hj (by omega) (by omega) hs
          exact mjCase.i hx hm hF (by decide) (by decide)
        · obtain ⟨h1, hx, hF⟩ := x_leaf_ok (lane := x2) (n := x3) hj (by omega) (by omega) (by omega) (by omega)
          obtain ⟨h2, hm⟩ := m_leaf_ok (lane := x2) (n := x3) hF hj (by omega) (by omega) (by omega) (by omega)
          exact mjCase.i hx hm hF (by decide) (by decide)
theorem fresh_lose (x1 : Int32) : mjCase false 22 172 [.int x1] := by
  by_cases hq : x1.toInt < 0 ∨ 15 < x1.toInt
  · exact mjCase.i (x_lose_out hq) (m_lose_out hq) mjFM.hp (by decide) (by decide)
  · obtain ⟨j, hj, rfl⟩ := mj_in_of (x := x1) (n := 16) (by decide) (by omega) (by omega)
    obtain ⟨h1, hx, hF⟩ := x_lose_in hj
    obtain ⟨h2, hm⟩ := m_lose_in hF hj
    exact mjCase.i hx hm hF (by decide) (by decide)
theorem fresh_form (x1 x2 : Int32) : mjCase false 141 244 [.int x1, .int x2] := by
  by_cases hq : x2.toInt < 0 ∨ 15 < x2.toInt
  · exact mjCase.i (x_form_out hq) (m_form x1 x2 mjFM.hp) mjFM.hp (by decide) (by decide)
  · obtain ⟨j, hj, rfl⟩ := mj_in_of (x := x2) (n := 16) (by decide) (by omega) (by omega)
    exact mjCase.i (x_form_in hj) (m_form x1 _ mjFM.hp) mjFM.hp (by decide) (by decide)
theorem fresh_put (x1 x2 x3 x4 x5 : Int32) : mjCase false 17 171 [.int x1, .int x2, .int x3, .long ((x4.toInt64 <<< ((Int8.ofInt 32).toInt32.toInt64 &&& 63)) ||| (x5.toInt64 &&& (4294967295)))] := by
  generalize ((x4.toInt64 <<< ((Int8.ofInt 32).toInt32.toInt64 &&& 63)) ||| (x5.toInt64 &&& (4294967295))) = w
  by_cases hq : x1.toInt < 0 ∨ 15 < x1.toInt
  · exact mjCase.i (x_put_out hq) (m_put_out hq) mjFM.hp (by decide) (by decide)
  · obtain ⟨j, hj, rfl⟩ := mj_in_of (x := x1) (n := 16) (by decide) (by omega) (by omega)
    by_cases hl : x2.toInt < 0 ∨ 3 < x2.toInt
    · exact mjCase.i (x_put_lane hj hl) (m_put_lane hj hl) mjFM.hp (by decide) (by decide)
    · have fin : mjDoes 1 18 [.int x2, .long w] mjHP (some (.int (Int32.ofInt 0))) mjHP → (∀ h, mjFM h → ∃ h1, mjDoes 3 171 [.ref 465, .int (Int32.ofNat j), .int x2, .int x3, .long w] h (some (.int ((Int8.ofInt (-10)).toInt32 - Int32.ofInt 1))) h1) → mjCase false 17 171 [.int (Int32.ofNat j), .int x2, .int x3, .long w] := fun hn hm0 => by
        obtain ⟨h1, hx, hF⟩ := x_put_lost (i := x3) hj (by omega) (by omega) hn
        obtain ⟨h2, hm⟩ := hm0 h1 hF
        exact mjCase.i hx hm hF (by decide) (by decide)
      by_cases h2 : x2.toInt = 2
      · cases hc : mjCmp .le (w.toInt32 &&& (2147483647)) (2139095040) with
        | true =>
          have hg : mjCmp .gt (lg_cmp (w &&& (2147483647)) (2139095040)) 0 = false := by rw [mj_nan32, hc]; rfl
          exact fin (x_nn_fok mjHP h2 hc) fun h hF => m_put_lf hF hj h2 hg
        | false =>
          have hg : mjCmp .gt (lg_cmp (w &&& (2147483647)) (2139095040)) 0 = true := by rw [mj_nan32, hc]; rfl
          exact mjCase.i (x_put_nan hj (by omega) (by omega) (x_nn_f mjHP h2 hc)) (m_put_nf mjFM.hp hj h2 hg) mjFM.hp (by decide) (by decide)
      · by_cases h3 : x2.toInt = 3
        · cases hc : mjCmp .le (lg_cmp (w &&& (9223372036854775807)) (9218868437227405312)) 0 with
          | true => exact fin (x_nn_dok mjHP h3 hc) fun h hF => m_put_ld hF hj h3 hc
          | false => exact mjCase.i (x_put_nan hj (by omega) (by omega) (x_nn_d mjHP h3 hc)) (m_put_nd mjFM.hp hj h3 hc) mjFM.hp (by decide) (by decide)
        · exact fin (x_nn_i mjHP h2 h3) fun h hF => m_put_li hF hj (by omega) (by omega)
theorem fresh_table (x1 x2 : Int32) : mjCase false 24 173 [.int x1, .int x2] := by
  by_cases h1 : x2.toInt < 1
  · exact mjCase.i (x_table_n1 h1) (m_table_n (Or.inl h1)) mjFM.hp (by decide) (by decide)
  · by_cases h2 : 6 < x2.toInt
    · exact mjCase.i (x_table_n2 h2) (m_table_n (Or.inr h2)) mjFM.hp (by decide) (by decide)
    · obtain ⟨q, hq, rfl⟩ := mj_in_of (x := x2) (n := 7) (by decide) (by omega) (by omega)
      have hq2 := cj (show q < 100 by omega)
      have hq3 : 1 ≤ q ∧ q ≤ 6 := by omega
      by_cases h3 : x1.toInt < 0
      · exact mjCase.i (x_table_f1 (by omega) (by omega) h3) (m_table_f1 hq3 h3) mjFM.hp (by decide) (by decide)
      · by_cases h4 : (16 : Int) - q < x1.toInt
        · exact mjCase.i (x_table_f2 hq3 (by omega) h4) (m_table_f2 hq3 (by omega) h4) mjFM.hp (by decide) (by decide)
        · obtain ⟨j, hj, rfl⟩ := mj_in_of (x := x1) (n := 17) (by decide) (by omega) (by omega)
          have hj2 := cj (show j < 100 by omega)
          obtain ⟨g1, hx, hF⟩ := x_table_in hq3 (j := j) (by omega)
          obtain ⟨g2, hm⟩ := m_table_in hF hq3 (j := j) (by omega)
          exact mjCase.i hx hm hF (by decide) (by decide)
theorem p1_end {scr : List Int32} {x0 : Int32} (hl : scr.length = 6) (e0 : mjAt? scr (Int32.ofInt 0) = some x0) {h2 : mjH} (hlen : h2.length = 494) (hsz : mjSz h2 = mjSz mjHP) (hgo : mjTo 10 4 (some scr) mjLt (33, mjLl (Int32.ofInt 0), [.int (x0 &&& (Int8.ofInt 63).toInt32)], mjHP) (1455, mjLl (Int32.ofInt 0), [], h2)) :
    ∃ st : mjS, mjTo 10 4 (some scr) (mjTb mjT_law) (0, [(0, .ref 0)], [], []) st ∧ mjTb mjT_law st.1 = some (.ireturn, 1, mj0) ∧ st.2.2.1 = [.int 1] ∧ st.2.2.2.length ≤ 600000 ∧ mjSz st.2.2.2 ≤ 7302250 := by
  have hr := mjHP_room.2
  refine ⟨(1462, mjLl (Int32.ofInt 0 + Int32.ofInt 6), [.int (Int32.ofInt 1)], h2), ?_, mjLw_1462, rfl, by show h2.length ≤ _; omega, by show mjSz h2 ≤ _; omega⟩
  refine mjLaw_start.trans ?_
  refine (law_head (by rw [hl]; decide) e0).trans ?_
  refine hgo.trans ?_
  refine law_next.trans ?_
  exact law_exit (by rw [hl]; decide)
theorem mjCase.end {scr : List Int32} {x0 : Int32} {lng : Bool} {mx mm : Nat} {as : List Value} (hl : scr.length = 6) (e0 : mjAt? scr (Int32.ofInt 0) = some x0) (hc : mjCase lng mx mm as) (q1 : mjQm mx = true) (q2 : mjQm mm = true)
    (k : ∀ (v : Value) (h1 h2 : mjH) (f : List Value), mjKd v = (bif lng then 1 else 0) → mjDoes 10 mx (.ref 1 :: as) mjHP (some v) h1 → mjDoes 10 mm (.ref 465 :: as) h1 (some v) h2 → h1[464]? = some (.inl (11, f)) → mjTo 10 4 (some scr) mjLt (33, mjLl (Int32.ofInt 0), [.int (x0 &&& (Int8.ofInt 63).toInt32)], mjHP) (1455, mjLl (Int32.ofInt 0), [], h2)) :
    ∃ st : mjS, mjTo 10 4 (some scr) (mjTb mjT_law) (0, [(0, .ref 0)], [], []) st ∧ mjTb mjT_law st.1 = some (.ireturn, 1, mj0) ∧ st.2.2.1 = [.int 1] ∧ st.2.2.2.length ≤ 600000 ∧ mjSz st.2.2.2 ≤ 7302250 := by
  obtain ⟨v, h1, h2, f, hk, hx, hm, hf⟩ := hc
  have g1 := hx.quiet q1
  have g2 := hm.quiet q2
  exact p1_end hl e0 (by rw [g2.1, g1.1]; exact mjHP_room.1) (by rw [g2.2, g1.2]) (k v h1 h2 f hk hx hm hf)
theorem p1_six (x0 x1 x2 x3 x4 x5 : Int32) : ∃ st : mjS, mjTo 10 4 (some [x0, x1, x2, x3, x4, x5]) (mjTb mjT_law) (0, [(0, .ref 0)], [], []) st ∧ mjTb mjT_law st.1 = some (.ireturn, 1, mj0) ∧ st.2.2.1 = [.int 1] ∧ st.2.2.2.length ≤ 600000 ∧ mjSz st.2.2.2 ≤ 7302250 := by
  have e0 : mjAt? [x0, x1, x2, x3, x4, x5] (Int32.ofInt 0) = some x0 := rfl
  have e1 : mjAt? [x0, x1, x2, x3, x4, x5] (Int32.ofInt 0 + Int32.ofInt 1) = some x1 := rfl
  have e2 : mjAt? [x0, x1, x2, x3, x4, x5] (Int32.ofInt 0 + Int32.ofInt 2) = some x2 := rfl
  have e3 : mjAt? [x0, x1, x2, x3, x4, x5] (Int32.ofInt 0 + Int32.ofInt 3) = some x3 := rfl
  have e4 : mjAt? [x0, x1, x2, x3, x4, x5] (Int32.ofInt 0 + Int32.ofInt 4) = some x4 := rfl
  have e5 : mjAt? [x0, x1, x2, x3, x4, x5] (Int32.ofInt 0 + Int32.ofInt 5) = some x5 := rfl
  obtain ⟨j, hj, hs⟩ := pk_andE x0 (m := (Int8.ofInt 63).toInt32) 6 (by decide)
  have idle : mjTo 10 4 (some [x0, x1, x2, x3, x4, x5]) mjLt (33, mjLl (Int32.ofInt 0), [.int (x0 &&& (Int8.ofInt 63).toInt32)], mjHP) (1455, mjLl (Int32.ofInt 0), [], mjHP) → ∃ st : mjS, mjTo 10 4 (some [x0, x1, x2, x3, x4, x5]) (mjTb mjT_law) (0, [(0, .ref 0)], [], []) st ∧ mjTb mjT_law st.1 = some (.ireturn, 1, mj0) ∧ st.2.2.1 = [.int 1] ∧ st.2.2.2.length ≤ 600000 ∧ mjSz st.2.2.2 ≤ 7302250 := fun h => p1_end rfl e0 mjHP_room.1 rfl h
  match j, hj, hs with
  | 0, _, hs =>
    refine mjCase.end rfl e0 (fresh_leaf x1 x2 x3) (by decide +kernel) (by decide +kernel) fun v h1 h2 f hk hx hm hf => ?_
    obtain ⟨r, rfl⟩ := mjKd0 hk
    exact (law_sw_0 hs).trans (law_case_0 e1 e2 e3 hx hm mjHP_0 hf)
  | 1, _, hs =>
    refine mjCase.end rfl e0 (fresh_put x1 x2 x3 x4 x5) (by decide +kernel) (by decide +kernel) fun v h1 h2 f hk hx hm hf => ?_
    obtain ⟨r, rfl⟩ := mjKd0 hk
    exact (law_sw_1 hs).trans (law_case_1 e1 e2 e3 e4 e5 hx hm mjHP_0 hf)
  | 2, _, hs =>
    refine mjCase.end rfl e0 (fresh_lose x1) (by decide +kernel) (by decide +kernel) fun v h1 h2 f hk hx hm hf => ?_
    obtain ⟨r, rfl⟩ := mjKd0 hk
    exact (law_sw_2 hs).trans (law_case_2 e1 hx hm mjHP_0 hf)
  | 3, _, hs =>
    refine mjCase.end rfl e0 (fresh_table x1 x2) (by decide +kernel) (by decide +kernel) fun v h1 h2 f hk hx hm hf => ?_
    obtain ⟨r, rfl⟩ := mjKd0 hk
    exact (law_sw_3 hs).trans (law_case_3 e1 e2 hx hm mjHP_0 hf)
  | 4, _, hs =>
    refine mjCase.end rfl e0 (fresh_where ) (by decide +kernel) (by decide +kernel) fun v h1 h2 f hk hx hm hf => ?_
    obtain ⟨r, rfl⟩ := mjKd0 hk
    exact (law_sw_4 hs).trans (law_case_4  hx hm mjHP_0 hf)
  | 5, _, hs =>
    refine mjCase.end rfl e0 (fresh_kind x1) (by decide +kernel) (by decide +kernel) fun v h1 h2 f hk hx hm hf => ?_
    obtain ⟨r, rfl⟩ := mjKd0 hk
    exact (law_sw_5 hs).trans (law_case_5 e1 hx hm mjHP_0 hf)
  | 6, _, hs =>
    refine mjCase.end rfl e0 (fresh_size x1) (by decide +kernel) (by decide +kernel) fun v h1 h2 f hk hx hm hf => ?_
    obtain ⟨r, rfl⟩ := mjKd0 hk
    exact (law_sw_6 hs).trans (law_case_6 e1 hx hm mjHP_0 hf)
  | 7, _, hs =>
    refine mjCase.end rfl e0 (fresh_is x1 x2) (by decide +kernel) (by decide +kernel) fun v h1 h2 f hk hx hm hf => ?_
    obtain ⟨r, rfl⟩ := mjKd0 hk
    exact (law_sw_7 hs).trans (law_case_7 e1 e2 hx hm mjHP_0 hf)
  | 8, _, hs =>
    refine mjCase.end rfl e0 (fresh_at x1 x2 x3) (by decide +kernel) (by decide +kernel) fun v h1 h2 f hk hx hm hf => ?_
    obtain ⟨r, rfl⟩ := mjKd0 hk
    exact (law_sw_8 hs).trans (law_case_8 e1 e2 e3 hx hm mjHP_0 hf)
  | 9, _, hs =>
    refine mjCase.end rfl e0 (fresh_flow x1) (by decide +kernel) (by decide +kernel) fun v h1 h2 f hk hx hm hf => ?_
    obtain ⟨r, rfl⟩ := mjKd0 hk
    exact (law_sw_9 hs).trans (law_case_9 e1 hx hm mjHP_0 hf)
  | 10, _, hs =>
    refine mjCase.end rfl e0 (fresh_turn x1 x2 x3) (by decide +kernel) (by decide +kernel) fun v h1 h2 f hk hx hm hf => ?_
    obtain ⟨r, rfl⟩ := mjKd0 hk
    exact (law_sw_10 hs).trans (law_case_10 e1 e2 e3 hx hm mjHP_0 hf)
  | 11, _, hs =>
    refine mjCase.end rfl e0 (fresh_mix x1 x2 x3 x4) (by decide +kernel) (by decide +kernel) fun v h1 h2 f hk hx hm hf => ?_
    obtain ⟨r, rfl⟩ := mjKd0 hk
    exact (law_sw_11 hs).trans (law_case_11 e1 e2 e3 e4 hx hm mjHP_0 hf)
  | 12, _, hs =>
    refine mjCase.end rfl e0 (fresh_shift x1 x2) (by decide +kernel) (by decide +kernel) fun v h1 h2 f hk hx hm hf => ?_
    obtain ⟨r, rfl⟩ := mjKd0 hk
    exact (law_sw_12 hs).trans (law_case_12 e1 e2 hx hm mjHP_0 hf)
  | 13, _, hs =>
    refine mjCase.end rfl e0 (fresh_drop x1 x2) (by decide +kernel) (by decide +kernel) fun v h1 h2 f hk hx hm hf => ?_
    obtain ⟨r, rfl⟩ := mjKd0 hk
    exact (law_sw_13 hs).trans (law_case_13 e1 e2 hx hm mjHP_0 hf)
  | 14, _, hs =>
    refine mjCase.end rfl e0 (fresh_weave x1 x2) (by decide +kernel) (by decide +kernel) fun v h1 h2 f hk hx hm hf => ?_
    obtain ⟨r, rfl⟩ := mjKd0 hk
    exact (law_sw_14 hs).trans (law_case_14 e1 e2 hx hm mjHP_0 hf)
  | 15, _, hs =>
    refine mjCase.end rfl e0 (fresh_line x1 x2 x3) (by decide +kernel) (by decide +kernel) fun v h1 h2 f hk hx hm hf => ?_
    obtain ⟨r, rfl⟩ := mjKd0 hk
    exact (law_sw_15 hs).trans (law_case_15 e1 e2 e3 hx hm mjHP_0 hf)
  | 16, _, hs =>
    refine mjCase.end rfl e0 (fresh_bound x1) (by decide +kernel) (by decide +kernel) fun v h1 h2 f hk hx hm hf => ?_
    obtain ⟨r, rfl⟩ := mjKd0 hk
    exact (law_sw_16 hs).trans (law_case_16 e1 hx hm mjHP_0 hf)
  | 17, _, hs =>
    refine mjCase.end rfl e0 (fresh_trace x1) (by decide +kernel) (by decide +kernel) fun v h1 h2 f hk hx hm hf => ?_
    obtain ⟨r, rfl⟩ := mjKd0 hk
    exact (law_sw_17 hs).trans (law_case_17 e1 hx hm mjHP_0 hf)
  | 18, _, hs =>
    refine mjCase.end rfl e0 (fresh_poly x1) (by decide +kernel) (by decide +kernel) fun v h1 h2 f hk hx hm hf => ?_
    obtain ⟨r, rfl⟩ := mjKd0 hk
    exact (law_sw_18 hs).trans (law_case_18 e1 hx hm mjHP_0 hf)
  | 19, _, hs =>
    refine mjCase.end rfl e0 (fresh_worth x1) (by decide +kernel) (by decide +kernel) fun v h1 h2 f hk hx hm hf => ?_
    obtain ⟨r, rfl⟩ := mjKd0 hk
    exact (law_sw_19 hs).trans (law_case_19 e1 hx hm mjHP_0 hf)
  | 20, _, hs =>
    refine mjCase.end rfl e0 (fresh_ring x1) (by decide +kernel) (by decide +kernel) fun v h1 h2 f hk hx hm hf => ?_
    obtain ⟨r, rfl⟩ := mjKd0 hk
    exact (law_sw_20 hs).trans (law_case_20 e1 hx hm mjHP_0 hf)
  | 21, _, hs =>
    refine mjCase.end rfl e0 (fresh_often x1 x2) (by decide +kernel) (by decide +kernel) fun v h1 h2 f hk hx hm hf => ?_
    obtain ⟨r, rfl⟩ := mjKd0 hk
    exact (law_sw_21 hs).trans (law_case_21 e1 e2 hx hm mjHP_0 hf)
  | 22, _, hs =>
    refine mjCase.end rfl e0 (fresh_count x1 x2 x3 x4) (by decide +kernel) (by decide +kernel) fun v h1 h2 f hk hx hm hf => ?_
    obtain ⟨r, rfl⟩ := mjKd0 hk
    exact (law_sw_22 hs).trans (law_case_22 e1 e2 e3 e4 hx hm mjHP_0 hf)
  | 23, _, hs =>
    refine mjCase.end rfl e0 (fresh_shut x1 x2 x3) (by decide +kernel) (by decide +kernel) fun v h1 h2 f hk hx hm hf => ?_
    obtain ⟨r, rfl⟩ := mjKd0 hk
    exact (law_sw_23 hs).trans (law_case_23 e1 e2 e3 hx hm mjHP_0 hf)
  | 24, _, hs =>
    refine mjCase.end rfl e0 (fresh_seen ) (by decide +kernel) (by decide +kernel) fun v h1 h2 f hk hx hm hf => ?_
    obtain ⟨r, rfl⟩ := mjKd1 hk
    exact (law_sw_24 hs).trans (law_case_24  hx hm mjHP_0 hf)
  | 25, _, hs =>
    refine mjCase.end rfl e0 (fresh_same x1 x2) (by decide +kernel) (by decide +kernel) fun v h1 h2 f hk hx hm hf => ?_
    obtain ⟨r, rfl⟩ := mjKd0 hk
    exact (law_sw_25 hs).trans (law_case_25 e1 e2 hx hm mjHP_0 hf)
  | 26, _, hs =>
    refine mjCase.end rfl e0 (fresh_bend x1) (by decide +kernel) (by decide +kernel) fun v h1 h2 f hk hx hm hf => ?_
    obtain ⟨r, rfl⟩ := mjKd0 hk
    exact (law_sw_26 hs).trans (law_case_26 e1 hx hm mjHP_0 hf)
  | 27, _, hs =>
    refine mjCase.end rfl e0 (fresh_signs x1) (by decide +kernel) (by decide +kernel) fun v h1 h2 f hk hx hm hf => ?_
    obtain ⟨r, rfl⟩ := mjKd0 hk
    exact (law_sw_27 hs).trans (law_case_27 e1 hx hm mjHP_0 hf)
  | 28, _, hs =>
    refine mjCase.end rfl e0 (fresh_show x1) (by decide +kernel) (by decide +kernel) fun v h1 h2 f hk hx hm hf => ?_
    obtain ⟨r, rfl⟩ := mjKd0 hk
    exact (law_sw_28 hs).trans (law_case_28 e1 hx hm mjHP_0 hf)
  | 29, _, hs =>
    refine mjCase.end rfl e0 (fresh_form x1 x2) (by decide +kernel) (by decide +kernel) fun v h1 h2 f hk hx hm hf => ?_
    obtain ⟨r, rfl⟩ := mjKd0 hk
    exact (law_sw_29 hs).trans (law_case_29 e1 e2 hx hm mjHP_0 hf)
  | 30, _, hs =>
    refine mjCase.end rfl e0 (fresh_walks x1 x2) (by decide +kernel) (by decide +kernel) fun v h1 h2 f hk hx hm hf => ?_
    obtain ⟨r, rfl⟩ := mjKd0 hk
    exact (law_sw_30 hs).trans (law_case_30 e1 e2 hx hm mjHP_0 hf)
  | 31, _, hs =>
    refine mjCase.end rfl e0 (fresh_pieces x1) (by decide +kernel) (by decide +kernel) fun v h1 h2 f hk hx hm hf => ?_
    obtain ⟨r, rfl⟩ := mjKd0 hk
    exact (law_sw_31 hs).trans (law_case_31 e1 hx hm mjHP_0 hf)
  | 32, _, hs =>
    refine mjCase.end rfl e0 (fresh_two x1) (by decide +kernel) (by decide +kernel) fun v h1 h2 f hk hx hm hf => ?_
    obtain ⟨r, rfl⟩ := mjKd0 hk
    exact (law_sw_32 hs).trans (law_case_32 e1 hx hm mjHP_0 hf)
  | 33, _, hs =>
    refine mjCase.end rfl e0 (fresh_trees x1) (by decide +kernel) (by decide +kernel) fun v h1 h2 f hk hx hm hf => ?_
    obtain ⟨r, rfl⟩ := mjKd0 hk
    exact (law_sw_33 hs).trans (law_case_33 e1 hx hm mjHP_0 hf)
  | 34, _, hs =>
    refine mjCase.end rfl e0 (fresh_results ) (by decide +kernel) (by decide +kernel) fun v h1 h2 f hk hx hm hf => ?_
    obtain ⟨r, rfl⟩ := mjKd0 hk
    exact (law_sw_34 hs).trans (law_case_34  hx hm mjHP_0 hf)
  | 35, _, hs =>
    refine mjCase.end rfl e0 (fresh_sign x1) (by decide +kernel) (by decide +kernel) fun v h1 h2 f hk hx hm hf => ?_
    obtain ⟨r, rfl⟩ := mjKd0 hk
    exact (law_sw_35 hs).trans (law_case_35 e1 hx hm mjHP_0 hf)
  | 36, _, hs =>
    refine mjCase.end rfl e0 (fresh_bits x1) (by decide +kernel) (by decide +kernel) fun v h1 h2 f hk hx hm hf => ?_
    obtain ⟨r, rfl⟩ := mjKd0 hk
    exact (law_sw_36 hs).trans (law_case_36 e1 hx hm mjHP_0 hf)
  | 37, _, hs =>
    refine mjCase.end rfl e0 (fresh_word x1 x2) (by decide +kernel) (by decide +kernel) fun v h1 h2 f hk hx hm hf => ?_
    obtain ⟨r, rfl⟩ := mjKd1 hk
    exact (law_sw_37 hs).trans (law_case_37 e1 e2 hx hm mjHP_0 hf)
  | 38, _, hs =>
    refine mjCase.end rfl e0 (fresh_finding ) (by decide +kernel) (by decide +kernel) fun v h1 h2 f hk hx hm hf => ?_
    obtain ⟨r, rfl⟩ := mjKd0 hk
    exact (law_sw_38 hs).trans (law_case_38  hx hm mjHP_0 hf)
  | 39, _, hs =>
    refine mjCase.end rfl e0 (fresh_findings x1) (by decide +kernel) (by decide +kernel) fun v h1 h2 f hk hx hm hf => ?_
    obtain ⟨r, rfl⟩ := mjKd0 hk
    exact (law_sw_39 hs).trans (law_case_39 e1 hx hm mjHP_0 hf)
  | 40, _, hs =>
    refine mjCase.end rfl e0 (fresh_about x1) (by decide +kernel) (by decide +kernel) fun v h1 h2 f hk hx hm hf => ?_
    obtain ⟨r, rfl⟩ := mjKd0 hk
    exact (law_sw_40 hs).trans (law_case_40 e1 hx hm mjHP_0 hf)
  | 41, _, hs =>
    refine mjCase.end rfl e0 (fresh_digest ) (by decide +kernel) (by decide +kernel) fun v h1 h2 f hk hx hm hf => ?_
    obtain ⟨r, rfl⟩ := mjKd1 hk
    exact (law_sw_41 hs).trans (law_case_41  hx hm mjHP_0 hf)
  | 42, _, hs => exact idle (law_sw_42 hs)
  | 43, _, hs => exact idle (law_sw_43 hs)
  | 44, _, hs => exact idle (law_sw_44 hs)
  | 45, _, hs => exact idle (law_sw_45 hs)
  | 46, _, hs => exact idle (law_sw_46 hs)
  | 47, _, hs => exact idle (law_sw_47 hs)
  | 48, _, hs => exact idle (law_sw_48 hs)
  | 49, _, hs => exact idle (law_sw_49 hs)
  | 50, _, hs => exact idle (law_sw_50 hs)
  | 51, _, hs => exact idle (law_sw_51 hs)
  | 52, _, hs => exact idle (law_sw_52 hs)
  | 53, _, hs => exact idle (law_sw_53 hs)
  | 54, _, hs => exact idle (law_sw_54 hs)
  | 55, _, hs => exact idle (law_sw_55 hs)
  | 56, _, hs => exact idle (law_sw_56 hs)
  | 57, _, hs => exact idle (law_sw_57 hs)
  | 58, _, hs => exact idle (law_sw_58 hs)
  | 59, _, hs => exact idle (law_sw_59 hs)
  | 60, _, hs => exact idle (law_sw_60 hs)
  | 61, _, hs => exact idle (law_sw_61 hs)
  | 62, _, hs => exact idle (law_sw_62 hs)
  | 63, _, hs => exact idle (law_sw_63 hs)
  | j + 64, hj, _ => exact absurd hj (by omega)
theorem mjLaw_ends : mjLawEnds 6 := by
  intro scr hN
  have short : ∀ scr : List Int32, scr.length < 6 → mjCmp .gt (Int32.ofInt 0) (Int32.ofNat scr.length - (Int8.ofInt 6).toInt32) = true → ∃ st : mjS, mjTo 10 4 (some scr) (mjTb mjT_law) (0, [(0, .ref 0)], [], []) st ∧ mjTb mjT_law st.1 = some (.ireturn, 1, mj0) ∧ st.2.2.1 = [.int 1] ∧ st.2.2.2.length ≤ 600000 ∧ mjSz st.2.2.2 ≤ 7302250 := by
    intro scr _ hg
    have hr := mjHP_room
    exact ⟨(1462, mjLl (Int32.ofInt 0), [.int (Int32.ofInt 1)], mjHP), mjLaw_start.trans (law_exit hg), mjLw_1462, rfl, by show mjHP.length ≤ _; omega, by show mjSz mjHP ≤ _; omega⟩
  match scr, hN with
  | [], _ => exact short _ (show 0 < 6 by decide) (show mjCmp .gt (Int32.ofInt 0) (Int32.ofNat 0 - (Int8.ofInt 6).toInt32) = true by decide)
  | [_], _ => exact short _ (show 1 < 6 by decide) (show mjCmp .gt (Int32.ofInt 0) (Int32.ofNat 1 - (Int8.ofInt 6).toInt32) = true by decide)
  | [_, _], _ => exact short _ (show 2 < 6 by decide) (show mjCmp .gt (Int32.ofInt 0) (Int32.ofNat 2 - (Int8.ofInt 6).toInt32) = true by decide)
  | [_, _, _], _ => exact short _ (show 3 < 6 by decide) (show mjCmp .gt (Int32.ofInt 0) (Int32.ofNat 3 - (Int8.ofInt 6).toInt32) = true by decide)
  | [_, _, _, _], _ => exact short _ (show 4 < 6 by decide) (show mjCmp .gt (Int32.ofInt 0) (Int32.ofNat 4 - (Int8.ofInt 6).toInt32) = true by decide)
  | [_, _, _, _, _], _ => exact short _ (show 5 < 6 by decide) (show mjCmp .gt (Int32.ofInt 0) (Int32.ofNat 5 - (Int8.ofInt 6).toInt32) = true by decide)
  | [x0, x1, x2, x3, x4, x5], _ => exact p1_six x0 x1 x2 x3 x4 x5
  | _ :: _ :: _ :: _ :: _ :: _ :: _ :: _, h => exact absurd h (by simp [List.length_cons]; try omega)
