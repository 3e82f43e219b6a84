/-! What the small machine comes to, whatever the fuel. -/
def mjLe (call call' : mjT) : Prop := ∀ (mid : Nat) (as : List Value) (h : mjH) (x : Option Value × mjH), call mid as h = some x → call' mid as h = some x
theorem mjInv_ext {call call' : mjT} (hc : mjLe call call') {mid pc : Nat} {l : mjL} {as r : List Value} {h : mjH} {st' : mjS} (hv : mjInv call mid pc l as r h = some st') : mjInv call' mid pc l as r h = some st' := by
  unfold mjInv at hv ⊢
  cases hb : Nat.ble (mjCat r) 8 with
  | false => rw [hb] at hv; cases hv
  | true =>
    rw [hb] at hv
    simp only [cond_true] at hv ⊢
    obtain ⟨q, h1, h2⟩ := Option.bind_eq_some_iff.mp hv
    rw [hc _ _ _ _ h1]
    exact h2
set_option maxHeartbeats 4000000 in
theorem mjStep_ext {dfs : List (List Value)} {d d' nL : Nat} {sc sc' : Option (List Int32)} {call call' : mjT} (hd : d ≤ d') (hc : mjLe call call') (hs : ∀ xs : List Int32, sc = some xs → sc' = some xs) (ins : Instr) {k : mjK} {pc : Nat} {l : mjL} {s : List Value} {h : mjH} {st' : mjS}
    (hv : mjStep dfs d nL sc call ins k pc l s h = some st') : mjStep dfs d' nL sc' call' ins k pc l s h = some st' := by
  cases ins
  case iaload =>
    simp only [mjStep] at hv ⊢
    split at hv
    · obtain ⟨v, h1, h2⟩ := Option.bind_eq_some_iff.mp hv
      obtain ⟨xs, h3, h4⟩ := Option.bind_eq_some_iff.mp h1
      rename_i i a r
      have h5 : mjSc sc' h a = some xs := by
        cases a with
        | zero => exact hs xs h3
        | succ a => exact h3
      simp only [h5, Option.bind_some, h4]
      exact h2
    · cases hv
  case arraylength =>
    simp only [mjStep] at hv ⊢
    split at hv
    · obtain ⟨n, h1, h2⟩ := Option.bind_eq_some_iff.mp hv
      rename_i a r
      have h5 : mjLen sc' h a = some n := by
        cases a with
        | zero =>
          cases hsc : sc with
          | none => rw [hsc] at h1; cases h1
          | some xs => rw [hsc] at h1; rw [hs xs hsc]; exact h1
        | succ a => exact h1
      simp only [h5, Option.bind_some]
      exact h2
    · cases hv
  case invokevirtual idx =>
    simp only [mjStep] at hv ⊢
    obtain ⟨⟨as, r⟩, h1, h2⟩ := Option.bind_eq_some_iff.mp hv
    rw [h1]
    simp only [Option.bind_some]
    cases as with
    | nil => cases h2
    | cons v as =>
      dsimp only at h2 ⊢
      cases hb2 : mjIs h v k.2.2.2.1 with
      | false => rw [hb2] at h2; cases h2
      | true =>
        rw [hb2] at h2
        exact mjInv_ext hc h2
  case invokestatic idx =>
    simp only [mjStep] at hv ⊢
    cases hk3 : Nat.beq k.1 3 with
    | true =>
      rw [hk3] at hv
      simp only [cond_true] at hv ⊢
      obtain ⟨⟨as, r⟩, h1, h2⟩ := Option.bind_eq_some_iff.mp hv
      rw [h1]
      exact mjInv_ext hc h2
    | false =>
      rw [hk3] at hv
      simp only [cond_false] at hv ⊢
      cases hd2 : Nat.blt 0 d with
      | false => rw [hd2] at hv; cases hv
      | true =>
        have h3 : 0 < d := by simpa [Nat.blt_eq] using hd2
        have h4 : Nat.blt 0 d' = true := by simp [Nat.blt_eq]; omega
        rw [hd2] at hv
        rw [h4]
        exact hv
  case invokespecial idx =>
    simp only [mjStep] at hv ⊢
    cases hk3 : Nat.beq k.1 8 with
    | true =>
      rw [hk3] at hv
      simp only [cond_true] at hv ⊢
      cases hd2 : Nat.blt 0 d with
      | false => rw [hd2] at hv; split at hv <;> simp at hv
      | true =>
        have h3 : 0 < d := by simpa [Nat.blt_eq] using hd2
        have h4 : Nat.blt 0 d' = true := by simp [Nat.blt_eq]; omega
        rw [hd2] at hv
        rw [h4]
        exact hv
    | false =>
      rw [hk3] at hv
      simp only [cond_false] at hv ⊢
      obtain ⟨⟨as, r⟩, h1, h2⟩ := Option.bind_eq_some_iff.mp hv
      rw [h1]
      simp only [Option.bind_some]
      cases as with
      | nil => cases h2
      | cons v as =>
        cases v with
        | ref x => exact mjInv_ext hc h2
        | _ => cases h2
  case newarray ty => cases ty <;> exact hv
  all_goals exact hv
theorem mjGon_ext {dfs : List (List Value)} {d d' nL : Nat} {sc sc' : Option (List Int32)} {call call' : mjT} {tab : mjTab} (hd : d ≤ d') (hc : mjLe call call') (hs : ∀ xs : List Int32, sc = some xs → sc' = some xs) : ∀ (n : Nat) (st st' : mjS), mjGon dfs d nL sc call tab n st = some st' → mjGon dfs d' nL sc' call' tab n st = some st'
  | 0, st, st', h => h
  | n + 1, st, st', h => by
    unfold mjGon at h ⊢
    obtain ⟨en, h1, h2⟩ := Option.bind_eq_some_iff.mp h
    obtain ⟨s2, h3, h4⟩ := Option.bind_eq_some_iff.mp h2
    rw [h1]
    simp only [Option.bind_some]
    rw [mjStep_ext hd hc hs en.1 h3]
    exact mjGon_ext hd hc hs n s2 st' h4
theorem mjGon_add {dfs : List (List Value)} {d nL : Nat} {sc : Option (List Int32)} {call : mjT} {tab : mjTab} : ∀ (n k : Nat) (s1 s2 s3 : mjS), mjGon dfs d nL sc call tab n s1 = some s2 → mjGon dfs d nL sc call tab k s2 = some s3 → mjGon dfs d nL sc call tab (n + k) s1 = some s3
  | 0, k, s1, s2, s3, h1, h2 => by
    cases h1
    rw [Nat.zero_add]
    exact h2
  | n + 1, k, s1, s2, s3, h1, h2 => by
    rw [show n + 1 + k = (n + k) + 1 by omega]
    unfold mjGon at h1 ⊢
    obtain ⟨en, g1, g2⟩ := Option.bind_eq_some_iff.mp h1
    obtain ⟨t2, g3, g4⟩ := Option.bind_eq_some_iff.mp g2
    rw [g1]
    simp only [Option.bind_some]
    rw [g3]
    exact mjGon_add n k t2 s2 s3 g4 h2
/-- a run is so many steps and a return -/
theorem mjRun_of {dfs : List (List Value)} {d nL : Nat} {sc : Option (List Int32)} {call : mjT} {tab : mjTab} {e : mjI} : ∀ (n k : Nat) (s1 s2 : mjS), mjGon dfs d nL sc call tab n s1 = some s2 → tab s2.1 = some e → mjIsRet e.1 = true → n < k → mjRun dfs d nL sc call tab k s1 = some (e.1, s2)
  | 0, 0, s1, s2, _, _, _, h => absurd h (Nat.lt_irrefl 0)
  | 0, k + 1, s1, s2, h1, h2, h3, _ => by
    cases h1
    unfold mjRun
    rw [h2]
    simp only [Option.bind_some]
    rw [h3]
    rfl
  | n + 1, 0, s1, s2, _, _, _, h => absurd h (Nat.not_lt_zero _)
  | n + 1, k + 1, s1, s2, h1, h2, h3, h4 => by
    unfold mjGon at h1
    obtain ⟨en, g1, g2⟩ := Option.bind_eq_some_iff.mp h1
    obtain ⟨t2, g3, g4⟩ := Option.bind_eq_some_iff.mp g2
    unfold mjRun
    rw [g1]
    simp only [Option.bind_some]
    have hn : mjIsRet en.1 = false := by
      cases hi : en.1 <;> first | rfl | (rw [hi] at g3; simp [mjStep] at g3; done)
    rw [hn]
    simp only [cond_false]
    rw [g3]
    exact mjRun_of n k t2 s2 g4 h2 h3 (by omega)
theorem mjRun_inv {dfs : List (List Value)} {d nL : Nat} {sc : Option (List Int32)} {call : mjT} {tab : mjTab} : ∀ (k : Nat) (s1 : mjS) (r : Instr × mjS), mjRun dfs d nL sc call tab k s1 = some r → ∃ n e, n < k ∧ mjGon dfs d nL sc call tab n s1 = some r.2 ∧ tab r.2.1 = some e ∧ e.1 = r.1 ∧ mjIsRet e.1 = true
  | 0, s1, r, h => by cases h
  | k + 1, s1, r, h => by
    unfold mjRun at h
    obtain ⟨en, g1, g2⟩ := Option.bind_eq_some_iff.mp h
    cases hr : mjIsRet en.1 with
    | true =>
      rw [hr] at g2
      cases g2
      exact ⟨0, en, Nat.succ_pos _, rfl, g1, rfl, hr⟩
    | false =>
      rw [hr] at g2
      obtain ⟨t2, g3, g4⟩ := Option.bind_eq_some_iff.mp g2
      obtain ⟨n, e, h1, h2, h3⟩ := mjRun_inv k t2 r g4
      refine ⟨n + 1, e, by omega, ?_, h3⟩
      unfold mjGon
      rw [g1]
      simp only [Option.bind_some]
      rw [g3]
      exact h2
theorem mjCall_ext {dfs : List (List Value)} {code : mjCode} {F F' : Nat} (hF : F ≤ F') : ∀ d : Nat, mjLe (mjCall dfs F code d) (mjCall dfs F' code d)
  | 0 => fun mid as h x hc => by cases hc
  | d + 1 => fun mid as h x hc => by
    unfold mjCall at hc ⊢
    obtain ⟨q, hq, h1⟩ := Option.bind_eq_some_iff.mp hc
    rw [hq]
    simp only [Option.bind_some]
    cases hb2 : Nat.ble (lg_sl as).length q.1.2.2.1 with
    | false => rw [hb2] at h1; cases h1
    | true =>
      rw [hb2] at h1
      simp only [cond_true] at h1 ⊢
      obtain ⟨r, h2, h3⟩ := Option.bind_eq_some_iff.mp h1
      obtain ⟨n, e, g1, g2, g3, g4, g5⟩ := mjRun_inv F _ _ h2
      have g6 := mjGon_ext (Nat.le_refl d) (mjCall_ext hF d) (fun xs q => q) n _ _ g2
      rw [mjRun_of n F' _ r.2 g6 g3 g5 (by omega), g4]
      exact h3
theorem mjCall_up {dfs : List (List Value)} {code : mjCode} {F : Nat} : ∀ d : Nat, mjLe (mjCall dfs F code d) (mjCall dfs F code (d + 1))
  | 0 => fun mid as h x hc => by cases hc
  | d + 1 => fun mid as h x hc => by
    rw [mjCall] at hc ⊢
    dsimp only at hc ⊢
    obtain ⟨q, hq, h1⟩ := Option.bind_eq_some_iff.mp hc
    rw [hq]
    simp only [Option.bind_some]
    cases hb2 : Nat.ble (lg_sl as).length q.1.2.2.1 with
    | false => rw [hb2] at h1; cases h1
    | true =>
      rw [hb2] at h1
      simp only [cond_true] at h1 ⊢
      obtain ⟨r, h2, h3⟩ := Option.bind_eq_some_iff.mp h1
      obtain ⟨n, e, g1, g2, g3, g4, g5⟩ := mjRun_inv F _ _ h2
      have g6 := mjGon_ext (Nat.le_succ d) (mjCall_up d) (fun xs q => q) n _ _ g2
      rw [mjRun_of n F _ r.2 g6 g3 g5 g1, g4]
      exact h3
/-- the call comes to its end, with this answer and these cells -/
def mjDoes (d mid : Nat) (as : List Value) (h : mjH) (v : Option Value) (h' : mjH) : Prop := ∃ F : Nat, mjCall mjFs F mjCd d mid as h = some (v, h')
/-- from one state to another, in a frame above calls of depth d -/
def mjTo (d nL : Nat) (sc : Option (List Int32)) (tab : mjTab) (st st' : mjS) : Prop := ∃ F n : Nat, mjGon mjFs d nL sc (mjCall mjFs F mjCd d) tab n st = some st'
theorem mjDoes.up {d d' mid : Nat} {as : List Value} {h h' : mjH} {v : Option Value} (hd : d ≤ d') (hc : mjDoes d mid as h v h') : mjDoes d' mid as h v h' := by
  induction hd with
  | refl => exact hc
  | step _ ih =>
    obtain ⟨F, ih⟩ := ih
    exact ⟨F, mjCall_up _ _ _ _ _ ih⟩
section MJO
variable {d nL : Nat} {sc : Option (List Int32)} {tab : mjTab}
theorem mjTo.refl {st : mjS} : mjTo d nL sc tab st st := ⟨0, 0, rfl⟩
theorem mjTo.trans {s1 s2 s3 : mjS} (h1 : mjTo d nL sc tab s1 s2) (h2 : mjTo d nL sc tab s2 s3) : mjTo d nL sc tab s1 s3 := by
  obtain ⟨F1, n1, h1⟩ := h1
  obtain ⟨F2, n2, h2⟩ := h2
  exact ⟨max F1 F2, n1 + n2, mjGon_add n1 n2 s1 s2 s3 (mjGon_ext (Nat.le_refl d) (mjCall_ext (Nat.le_max_left _ _) d) (fun _ q => q) _ _ _ h1) (mjGon_ext (Nat.le_refl d) (mjCall_ext (Nat.le_max_right _ _) d) (fun _ q => q) _ _ _ h2)⟩
/-- n steps that call nothing -/
theorem mjTo.pure (n : Nat) {s1 s2 : mjS} (h : ∀ call : mjT, mjGon mjFs d nL sc call tab n s1 = some s2) : mjTo d nL sc tab s1 s2 := ⟨0, n, h _⟩
theorem mjTo.anyScr {s1 s2 : mjS} (h : mjTo d nL none tab s1 s2) : mjTo d nL sc tab s1 s2 := by
  obtain ⟨F, n, h⟩ := h
  exact ⟨F, n, mjGon_ext (Nat.le_refl d) (fun _ _ _ _ q => q) (fun xs q => by cases q) n _ _ h⟩
theorem mjTo.step {s1 s2 : mjS} {e : mjI} (h1 : tab s1.1 = some e) (h2 : ∀ call : mjT, mjStep mjFs d nL sc call e.1 e.2.2 s1.1 s1.2.1 s1.2.2.1 s1.2.2.2 = some s2) : mjTo d nL sc tab s1 s2 := mjTo.pure 1 fun call => by
  unfold mjGon
  rw [h1]
  simp only [Option.bind_some]
  rw [h2 call]
  rfl
/-- a call of a virtual method -/
theorem mjTo.virt {pc a idx len mid na rc pos : Nat} {l : mjL} {s as r : List Value} {h h' : mjH} {fs : List Value} {w : Value} {v : Option Value} (h1 : tab pc = some (.invokevirtual idx, len, (3, mid, na, rc, pos, w)))
    (h2 : mjSplit (na + 1) s [] = some (.ref (a + 1) :: as, r)) (h3 : h[a]? = some (.inl (rc, fs))) (h4 : mjCat r ≤ 8) (h5 : mjDoes d mid (.ref (a + 1) :: as) h v h') : mjTo d nL sc tab (pc, l, s, h) (pc + 3, l, mjRes v r, h') := by
  obtain ⟨F, h5⟩ := h5
  refine ⟨F, 1, ?_⟩
  unfold mjGon
  simp only [h1, Option.bind_some, mjStep, h2, mjIs, h3, Nat.beq_refl, cond_true, mjInv, Nat.ble_eq_true_of_le h4, h5]
  rfl
theorem mjTo.stat {pc idx len mid na rc pos : Nat} {l : mjL} {s as r : List Value} {h h' : mjH} {w : Value} {v : Option Value} (h1 : tab pc = some (.invokestatic idx, len, (3, mid, na, rc, pos, w)))
    (h2 : mjSplit na s [] = some (as, r)) (h4 : mjCat r ≤ 8) (h5 : mjDoes d mid as h v h') : mjTo d nL sc tab (pc, l, s, h) (pc + 3, l, mjRes v r, h') := by
  obtain ⟨F, h5⟩ := h5
  refine ⟨F, 1, ?_⟩
  unfold mjGon
  simp only [h1, Option.bind_some, mjStep, h2, Nat.beq_refl, cond_true, mjInv, Nat.ble_eq_true_of_le h4, h5]
  rfl
theorem mjDoes.of {mid : Nat} {q : mjM} {as : List Value} {h : mjH} {st : mjS} {e : mjI} {v : Option Value} (h1 : mjMt[mid]? = some q) (h2 : (lg_sl as).length ≤ q.1.2.2.1) (h3 : mjTo d q.1.2.2.1 none (mjCd mid) (0, lv_args 0 as, [], h) st) (h4 : mjCd mid st.1 = some e) (h5 : mjIsRet e.1 = true) (h6 : mjOut q.1.2.2.2 e.1 st.2.2.1 = some v) : mjDoes (d + 1) mid as h v st.2.2.2 := by
  obtain ⟨F, n, h3⟩ := h3
  refine ⟨max F (n + 1), ?_⟩
  unfold mjCall
  rw [h1]
  simp only [Option.bind_some, Nat.ble_eq_true_of_le h2, cond_true]
  rw [mjRun_of n (max F (n + 1)) _ st (mjGon_ext (Nat.le_refl d) (mjCall_ext (Nat.le_max_left _ _) d) (fun _ q => q) _ _ _ h3) h4 h5 (by omega)]
  simp only [Option.bind_some, h6]
end MJO
