/-! More locals do no harm. -/
def mjLge (l' l : mjL) : Prop := ∀ (i : Nat) (v : Value), mjLk i l = some v → mjLk i l' = some v
def mjLoc : Instr → Bool
  | .iload _ => true
  | .iload_n _ => true
  | .lload _ => true
  | .lload_n _ => true
  | .dload _ => true
  | .dload_n _ => true
  | .aload _ => true
  | .aload_n _ => true
  | .istore _ => true
  | .istore_n _ => true
  | .lstore _ => true
  | .lstore_n _ => true
  | .dstore _ => true
  | .dstore_n _ => true
  | .astore _ => true
  | .astore_n _ => true
  | .iinc _ _ => true
  | _ => false
def mjRe (l : mjL) (st : mjS) : mjS := (st.1, l, st.2.2)
theorem mjInv_l {call : mjT} {mid pc : Nat} {l : mjL} {as r : List Value} {h : mjH} : mjInv call mid pc l as r h = (mjInv call mid pc [] as r h).map (mjRe l) := by
  unfold mjInv
  cases Nat.ble (mjCat r) 8 with
  | false => rfl
  | true =>
    simp only [cond_true]
    cases call mid as h <;> rfl
theorem mjBr_l {t : Bool} {pc len : Nat} {off : Int} {l : mjL} {s : List Value} {h : mjH} : mjBr t pc len off l s h = (mjBr t pc len off [] s h).map (mjRe l) := by
  unfold mjBr
  cases mjJmp pc off <;> rfl
theorem mjNat_l {t pc : Nat} {l : mjL} {s : List Value} {h : mjH} : mjNat t pc l s h = (mjNat t pc [] s h).map (mjRe l) := by
  unfold mjNat
  repeat' split
  all_goals first | rfl | (rw [cond_eq_ite]; split <;> rename_i q <;> first | (rw [cond_eq_ite, if_pos q]; rfl) | (rw [cond_eq_ite, if_neg q]; rfl))
theorem mjRb {l : mjL} {b : Bool} {A B A' B' : Option mjS} (h1 : A = A'.map (mjRe l)) (h2 : B = B'.map (mjRe l)) : (bif b then A else B) = (bif b then A' else B').map (mjRe l) := by
  cases b
  · exact h2
  · exact h1
theorem mjRo {α : Type} {l : mjL} {o : Option α} {F F' : α → Option mjS} (h : ∀ a, F a = (F' a).map (mjRe l)) : o.bind F = (o.bind F').map (mjRe l) := by
  cases o with
  | none => rfl
  | some a => exact h a
set_option maxHeartbeats 8000000 in
theorem mjStep_l {dfs : List (List Value)} {d nL : Nat} {sc : Option (List Int32)} {call : mjT} (ins : Instr) {k : mjK} {pc : Nat} {l : mjL} {s : List Value} {h : mjH} (hn : mjLoc ins = false) : mjStep dfs d nL sc call ins k pc l s h = (mjStep dfs d nL sc call ins k pc [] s h).map (mjRe l) := by
  cases ins
  case newarray ty => cases ty <;> (simp only [mjStep]; repeat' (first | rfl | refine mjRb ?_ ?_ | refine mjRo fun a => ?_ | split))
  all_goals first
    | rfl
    | (cases hn; done)
    | (simp only [mjStep]; exact mjBr_l)
    | (simp only [mjStep, mjII, mjLL, mjLI]; split <;> rfl)
    | (simp only [mjStep]; split <;> first | rfl | exact mjBr_l)
    | (simp only [mjStep]; repeat' (first | rfl | exact mjInv_l | exact mjNat_l | exact mjBr_l | refine mjRb ?_ ?_ | refine mjRo fun a => ?_ | split))
def mjNd (l : mjL) : Prop := (l.map fun q => q.1).Nodup
theorem mjLk_me {j : Nat} {w : Value} : ∀ {l : mjL}, mjLk j l = some w → (j, w) ∈ l
  | [], h => by cases h
  | q :: t, h => by
    unfold mjLk at h
    cases hb : Nat.beq q.1 j with
    | true =>
      rw [hb] at h
      cases h
      have := Nat.eq_of_beq_eq_true hb
      subst this
      exact List.mem_cons_self ..
    | false =>
      rw [hb] at h
      exact List.mem_cons_of_mem _ (mjLk_me h)
theorem mjLk_flt1 {j : Nat} {w : Value} {f : Nat × Value → Bool} : ∀ {l : mjL}, mjNd l → mjLk j (l.filter f) = some w → mjLk j l = some w ∧ f (j, w) = true
  | [], _, h => by cases h
  | q :: t, hn, h => by
    have hn2 : mjNd t := (List.nodup_cons.mp hn).2
    have hn1 : q.1 ∉ t.map fun q => q.1 := (List.nodup_cons.mp hn).1
    cases hf : f q with
    | true =>
      rw [List.filter_cons_of_pos hf] at h
      unfold mjLk at h ⊢
      cases hb : Nat.beq q.1 j with
      | true =>
        rw [hb] at h
        cases h
        have := Nat.eq_of_beq_eq_true hb
        subst this
        exact ⟨rfl, hf⟩
      | false =>
        rw [hb] at h
        exact mjLk_flt1 hn2 h
    | false =>
      rw [List.filter_cons_of_neg (by rw [hf]; exact Bool.false_ne_true)] at h
      obtain ⟨g1, g2⟩ := mjLk_flt1 hn2 h
      refine ⟨?_, g2⟩
      unfold mjLk
      cases hb : Nat.beq q.1 j with
      | true =>
        have := Nat.eq_of_beq_eq_true hb
        subst this
        exact absurd (List.mem_map.mpr ⟨_, mjLk_me g1, rfl⟩) hn1
      | false => exact g1
theorem mjLk_flt2 {j : Nat} {w : Value} {f : Nat × Value → Bool} : ∀ {l : mjL}, mjLk j l = some w → f (j, w) = true → mjLk j (l.filter f) = some w
  | [], h, _ => by cases h
  | q :: t, h, hf => by
    unfold mjLk at h
    cases hb : Nat.beq q.1 j with
    | true =>
      rw [hb] at h
      cases h
      have := Nat.eq_of_beq_eq_true hb
      subst this
      rw [List.filter_cons_of_pos hf]
      unfold mjLk
      rw [hb]
      rfl
    | false =>
      rw [hb] at h
      have := mjLk_flt2 h hf
      cases hq : f q with
      | true =>
        rw [List.filter_cons_of_pos hq]
        unfold mjLk
        rw [hb]
        exact this
      | false =>
        rw [List.filter_cons_of_neg (by rw [hq]; exact Bool.false_ne_true)]
        exact this
theorem mjLge_put {l' l : mjL} {i : Nat} {v : Value} {f : Nat × Value → Bool} (hg : mjLge l' l) (hn : mjNd l) (hf : ∀ q : Nat × Value, q.1 = i → f q = false) : mjLge ((i, v) :: l'.filter f) ((i, v) :: l.filter f) ∧ mjNd ((i, v) :: l.filter f) := by
  refine ⟨fun j w hj => ?_, List.nodup_cons.mpr ⟨fun hm => ?_, ?_⟩⟩
  · unfold mjLk at hj ⊢
    cases hb : Nat.beq i j with
    | true => rw [hb] at hj; exact hj
    | false =>
      rw [hb] at hj
      obtain ⟨g1, g2⟩ := mjLk_flt1 hn hj
      exact mjLk_flt2 (hg j w g1) g2
  · obtain ⟨q, hq1, hq2⟩ := List.mem_map.mp hm
    have := (List.mem_filter.mp hq1).2
    rw [hf q hq2] at this
    cases this
  · exact List.Nodup.sublist (List.Sublist.map _ (List.filter_sublist)) hn
theorem mjF1_no {i : Nat} (q : Nat × Value) (h : q.1 = i) : mjF1 i q = false := by simp [mjF1, h]
theorem mjF2_no {i : Nat} (q : Nat × Value) (h : q.1 = i) : mjF2 i q = false := by simp [mjF2, h]
theorem mjSt1_ge {t i nL : Nat} {v : Value} {l' l l1 : mjL} (hg : mjLge l' l) (hn : mjNd l) (h : mjSt1 t i nL v l = some l1) : ∃ l2, mjSt1 t i nL v l' = some l2 ∧ mjLge l2 l1 ∧ mjNd l1 := by
  unfold mjSt1 at h ⊢
  cases hb : Nat.beq (mjKd v) t && Nat.blt i nL with
  | false => rw [hb] at h; cases h
  | true =>
    rw [hb] at h
    cases h
    exact ⟨_, rfl, mjLge_put hg hn mjF1_no⟩
theorem mjSt2_ge {t i nL : Nat} {v : Value} {l' l l1 : mjL} (hg : mjLge l' l) (hn : mjNd l) (h : mjSt2 t i nL v l = some l1) : ∃ l2, mjSt2 t i nL v l' = some l2 ∧ mjLge l2 l1 ∧ mjNd l1 := by
  unfold mjSt2 at h ⊢
  cases hb : Nat.beq (mjKd v) t && Nat.blt (i + 1) nL with
  | false => rw [hb] at h; cases h
  | true =>
    rw [hb] at h
    cases h
    exact ⟨_, rfl, mjLge_put hg hn mjF2_no⟩
theorem mjLoad_ge {t i : Nat} {v : Value} {l' l : mjL} (hg : mjLge l' l) (h : mjLoad t i l = some v) : mjLoad t i l' = some v := by
  unfold mjLoad at h ⊢
  obtain ⟨w, h1, h2⟩ := Option.bind_eq_some_iff.mp h
  rw [hg _ _ h1]
  exact h2
section MJG
variable {dfs : List (List Value)} {d nL : Nat} {sc : Option (List Int32)} {call : mjT} {k : mjK} {pc : Nat} {l' l : mjL} {s : List Value} {h : mjH} {st : mjS}
theorem mjGe_ld {t i n : Nat} (hg : mjLge l' l) (hn : mjNd l) (hv : ((mjLoad t i l).bind fun v => some (pc + n, l, v :: s, h)) = some st) : ∃ l2, ((mjLoad t i l').bind fun v => some (pc + n, l', v :: s, h)) = some (mjRe l2 st) ∧ mjLge l2 st.2.1 ∧ mjNd st.2.1 := by
  obtain ⟨v, h1, h2⟩ := Option.bind_eq_some_iff.mp hv
  cases h2
  rw [mjLoad_ge hg h1]
  exact ⟨l', rfl, hg, hn⟩
theorem mjGe_s1 {t i n : Nat} {v : Value} {r : List Value} (hg : mjLge l' l) (hn : mjNd l) (hv : ((mjSt1 t i nL v l).bind fun q => some (pc + n, q, r, h)) = some st) : ∃ l2, ((mjSt1 t i nL v l').bind fun q => some (pc + n, q, r, h)) = some (mjRe l2 st) ∧ mjLge l2 st.2.1 ∧ mjNd st.2.1 := by
  obtain ⟨q, h1, h2⟩ := Option.bind_eq_some_iff.mp hv
  cases h2
  obtain ⟨l2, g1, g2, g3⟩ := mjSt1_ge hg hn h1
  rw [g1]
  exact ⟨l2, rfl, g2, g3⟩
theorem mjGe_s2 {t i n : Nat} {v : Value} {r : List Value} (hg : mjLge l' l) (hn : mjNd l) (hv : ((mjSt2 t i nL v l).bind fun q => some (pc + n, q, r, h)) = some st) : ∃ l2, ((mjSt2 t i nL v l').bind fun q => some (pc + n, q, r, h)) = some (mjRe l2 st) ∧ mjLge l2 st.2.1 ∧ mjNd st.2.1 := by
  obtain ⟨q, h1, h2⟩ := Option.bind_eq_some_iff.mp hv
  cases h2
  obtain ⟨l2, g1, g2, g3⟩ := mjSt2_ge hg hn h1
  rw [g1]
  exact ⟨l2, rfl, g2, g3⟩
theorem mjStep_ge (ins : Instr) (hg : mjLge l' l) (hn : mjNd l) (hv : mjStep dfs d nL sc call ins k pc l s h = some st) : ∃ l2, mjStep dfs d nL sc call ins k pc l' s h = some (mjRe l2 st) ∧ mjLge l2 st.2.1 ∧ mjNd st.2.1 := by
  cases hloc : mjLoc ins with
  | false =>
    rw [mjStep_l ins hloc] at hv
    rw [mjStep_l ins hloc]
    obtain ⟨st0, h1, h2⟩ := Option.map_eq_some_iff.mp hv
    rw [h1]
    cases h2
    exact ⟨l', rfl, hg, hn⟩
  | true =>
    cases ins <;> first | (cases hloc; done) | skip
    all_goals simp only [mjStep] at hv ⊢
    all_goals first
      | exact mjGe_ld hg hn hv
      | (split at hv <;> first | exact mjGe_s1 hg hn hv | exact mjGe_s2 hg hn hv | (cases hv; done) | skip)
    rename_i x hx
    rw [hg _ _ hx]
    exact mjGe_s1 (n := 3) hg hn hv
theorem mjGon_ge {tab : mjTab} : ∀ (n : Nat) {pc : Nat} {l' l : mjL} {s : List Value} {h : mjH} {st : mjS}, mjLge l' l → mjNd l → mjGon dfs d nL sc call tab n (pc, l, s, h) = some st → ∃ l2, mjGon dfs d nL sc call tab n (pc, l', s, h) = some (mjRe l2 st)
  | 0, pc, l', l, s, h, st, hg, hn, hv => by
    cases hv
    exact ⟨l', rfl⟩
  | n + 1, pc, l', l, s, h, st, hg, hn, hv => by
    unfold mjGon at hv ⊢
    obtain ⟨en, h1, h2⟩ := Option.bind_eq_some_iff.mp hv
    obtain ⟨s2, h3, h4⟩ := Option.bind_eq_some_iff.mp h2
    rw [h1]
    simp only [Option.bind_some]
    obtain ⟨l2, g1, g2, g3⟩ := mjStep_ge en.1 hg hn h3
    obtain ⟨p2, q2, r2, t2⟩ := s2
    rw [show mjStep dfs d nL sc call en.1 en.2.2 pc l' s h = _ from g1]
    exact mjGon_ge n g2 g3 h4
end MJG
theorem mjEnd_ge {d : Nat} {P : mjPm} {pc : Nat} {l' l : mjL} {s : List Value} {h h' : mjH} {v : Option Value} (hg : mjLge l' l) (hn : mjNd l) (he : mjEnd d P (pc, l, s, h) v h') : mjEnd d P (pc, l', s, h) v h' := by
  obtain ⟨st', e, ⟨F, n, h1⟩, h2, h3, h4, h5⟩ := he
  obtain ⟨l2, g⟩ := mjGon_ge n hg hn h1
  exact ⟨mjRe l2 st', e, ⟨F, n, g⟩, h2, h3, h4, h5⟩
