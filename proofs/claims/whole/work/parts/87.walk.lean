/-! A walk that has what it wants comes to its return; calls that have what they want. -/
theorem mjCan_keys : ∀ (is : List Nat) (l l2 : mjYl), mjCan is l = some l2 → l2.map (fun q => q.1) = is
  | [], l, l2, h => by cases h; rfl
  | i :: is, l, l2, h => by
    unfold mjCan at h
    obtain ⟨y, h1, h2⟩ := Option.bind_eq_some_iff.mp h
    obtain ⟨t, h3, h4⟩ := Option.bind_eq_some_iff.mp h2
    cases h4
    rw [List.map_cons, mjCan_keys is l t h3]
theorem mjFi_mem {α : Type} {i : Nat} {a : α} : ∀ {K : List (Nat × α)}, mjFi i K = some a → ∃ q ∈ K, q.2 = a
  | [], h => by cases h
  | q :: t, h => by
    unfold mjFi at h
    cases hb : Nat.beq q.1 i with
    | true =>
      rw [hb] at h
      cases h
      exact ⟨q, List.mem_cons_self .., rfl⟩
    | false =>
      rw [hb] at h
      obtain ⟨q', h1, h2⟩ := mjFi_mem (K := t) h
      exact ⟨q', List.mem_cons_of_mem _ h1, h2⟩
def mjNdB : List Nat → Bool
  | [] => true
  | i :: is => !(is.any fun j => Nat.beq i j) && mjNdB is
theorem mjNdB_ok : ∀ {is : List Nat}, mjNdB is = true → is.Nodup
  | [], _ => List.nodup_nil
  | i :: is, h => by
    unfold mjNdB at h
    rw [Bool.and_eq_true] at h
    refine List.nodup_cons.mpr ⟨fun hm => ?_, mjNdB_ok h.2⟩
    have h1 := h.1
    rw [Bool.not_eq_true', List.any_eq_false] at h1
    exact h1 i hm (Nat.beq_refl i)
def mjKok (K : mjKs) : Bool := K.all fun q => mjNdB q.2
theorem mjEnd_tr {d : Nat} {P : mjPm} {st st2 : mjS} {v : Option Value} {h' : mjH} (h1 : mjTo d P.1 none P.2.2 st st2) (h2 : mjEnd d P st2 v h') : mjEnd d P st v h' := by
  obtain ⟨st', e, g1, g2⟩ := h2
  exact ⟨st', e, h1.trans g1, g2⟩
theorem mjEnd_here {d pc : Nat} {P : mjPm} {l : mjL} {s : List Value} {h : mjH} {v : Option Value} {e : mjI} (he : P.2.2 pc = some e) (h2 : mjIsRet e.1 = true) (h3 : mjOut P.2.1 e.1 s = some v) : mjEnd d P (pc, l, s, h) v h := ⟨(pc, l, s, h), e, mjTo.refl, he, h2, h3, rfl⟩
theorem wpx_ok {d : Nat} {P : mjPm} {rs : mjRs} {K : mjKs} {Q : mjQ} (hK : mjKok K = true) : ∀ (n pc : Nat) (l : mjYl) (s : List mjY) (Z : mjZ), wpx d P rs K Q n pc l s Z → mjWx d P pc l s Z Q
  | 0, _, _, _, _, h => h.elim
  | n + 1, pc, l, s, Z, h => fun ol os => by
    unfold wpx at h
    split at h
    · exact h.elim
    · rename_i e he
      rcases wpi_ok (len := e.2.1) e.1 he ol os h with h | h
      · obtain ⟨pc', l', s', Z', ol', os', hto, hn⟩ := h
        split at hn
        · rename_i is hfi
          obtain ⟨l2, h1, h2⟩ := mjOn_ex hn
          obtain ⟨g1, g2⟩ := mjCan_eq is l' l2 h1 ol'
          obtain ⟨v, Z2, g3, g4, g5⟩ := h2 g2 os'
          refine ⟨v, Z2, mjEnd_tr hto (mjEnd_ge g1 ?_ g3), g4, g5⟩
          obtain ⟨q, hq1, hq2⟩ := mjFi_mem hfi
          have h7 := mjNdB_ok (List.all_eq_true.mp hK q hq1)
          rw [hq2, ← mjCan_keys is l' l2 h1] at h7
          unfold mjNd mjYm
          rw [List.map_map]
          exact h7
        · obtain ⟨v, Z2, g3, g4, g5⟩ := wpx_ok hK n pc' l' _ Z' hn ol' os'
          exact ⟨v, Z2, mjEnd_tr hto g3, g4, g5⟩
      · obtain ⟨v, h2, h3, h4, h5⟩ := h
        exact ⟨v, Z, mjEnd_here he h2 h3, h4, h5⟩
def mjAl : Nat → List mjY → mjYl
  | _, [] => []
  | i, y :: ys => (i, y) :: mjAl (bif Nat.beq (mjYv y).category 2 then i + 2 else i + 1) ys
theorem mjAl_eq : ∀ (ys : List mjY) (i : Nat), lv_args i (mjYs ys) = mjYm (mjAl i ys)
  | [], i => rfl
  | y :: ys, i => by
    simp only [mjYs, List.map_cons, lv_args, mjAl, mjYm]
    congr 1
    have : (if (mjYv y).category = 2 then i + 2 else i + 1) = (bif Nat.beq (mjYv y).category 2 then i + 2 else i + 1) := by
      cases hb : Nat.beq (mjYv y).category 2 with
      | true => rw [if_pos (Nat.eq_of_beq_eq_true hb)]; rfl
      | false => rw [if_neg (fun h => by rw [h] at hb; cases hb)]; rfl
    rw [this]
    exact mjAl_eq ys _
theorem mjAl_ok : ∀ (ys : List mjY) (i : Nat), mjOkS ys → mjOkL (mjAl i ys)
  | [], i, h => fun q hq => by cases hq
  | y :: ys, i, h => fun q hq => by
    rcases List.mem_cons.mp hq with hq | hq
    · subst hq
      exact okh h
    · exact mjAl_ok ys _ (okt h) q hq
theorem mjW_of {d mid : Nat} {q : mjM} {tab : mjTab} {as : List mjY} {Z : mjZ} {Q : mjQ} (h0 : mjCd mid = tab) (h1 : mjMt[mid]? = some q) (h2 : Nat.ble (lg_sl (mjYs as)).length q.1.2.2.1 = true) (hx : mjWx d (q.1.2.2.1, q.1.2.2.2, tab) 0 (mjAl 0 as) [] Z Q) : mjW (d + 1) mid as Z Q := fun oa => by
  obtain ⟨v, Z', ⟨st', e, g1, g2, g3, g4, g5⟩, g6, g7⟩ := hx (mjAl_ok as 0 oa) (fun y hy => by cases hy)
  refine ⟨v, Z', ?_, g6, g7⟩
  rw [← g5]
  rw [← mjAl_eq] at g1
  exact mjDoes.of2 h0 h1 (Nat.le_of_ble_eq_true h2) g1 g2 g3 g4
theorem mjW.mono {d mid : Nat} {as : List mjY} {Z : mjZ} {Q Q' : mjQ} (h : mjW d mid as Z Q) (hq : ∀ v Z', Q v Z' → Q' v Z') : mjW d mid as Z Q' := fun oa => by
  obtain ⟨v, Z', h1, h2, h3⟩ := h oa
  exact ⟨v, Z', h1, h2, hq v Z' h3⟩
theorem mjW.up {d d' mid : Nat} {as : List mjY} {Z : mjZ} {Q : mjQ} (h : mjW d mid as Z Q) (hd : Nat.ble d d' = true) : mjW d' mid as Z Q := fun oa => by
  obtain ⟨v, Z', h1, h2, h3⟩ := h oa
  exact ⟨v, Z', h1.up (Nat.le_of_ble_eq_true hd), h2, h3⟩
theorem mjWx.mono {d : Nat} {P : mjPm} {pc : Nat} {l : mjYl} {s : List mjY} {Z : mjZ} {Q Q' : mjQ} (h : mjWx d P pc l s Z Q) (hq : ∀ v Z', Q v Z' → Q' v Z') : mjWx d P pc l s Z Q' := fun ol os => by
  obtain ⟨v, Z', h1, h2, h3⟩ := h ol os
  exact ⟨v, Z', h1, h2, hq v Z' h3⟩
theorem mjW0.mono {d mid : Nat} {as : List mjY} {Z : mjZ} {q q' : mjZ → Prop} (h : mjW0 d mid as Z q) (hq : ∀ Z', q Z' → q' Z') : mjW0 d mid as Z q' := mjW.mono h fun _ Z' g => ⟨g.1, hq Z' g.2⟩
theorem mjW1.mono {d mid : Nat} {as : List mjY} {Z : mjZ} {q q' : Int → mjZ → Prop} (h : mjW1 d mid as Z q) (hq : ∀ z Z', q z Z' → q' z Z') : mjW1 d mid as Z q' := mjW.mono h fun _ Z' g => by
  obtain ⟨z, g1, g2⟩ := g
  exact ⟨z, g1, hq z Z' g2⟩
theorem mjW2.mono {d mid : Nat} {as : List mjY} {Z : mjZ} {q q' : Int → mjZ → Prop} (h : mjW2 d mid as Z q) (hq : ∀ z Z', q z Z' → q' z Z') : mjW2 d mid as Z q' := mjW.mono h fun _ Z' g => by
  obtain ⟨z, g1, g2⟩ := g
  exact ⟨z, g1, hq z Z' g2⟩
theorem mjW3.mono {t d mid : Nat} {as : List mjY} {Z : mjZ} {q q' : Nat → mjZ → Prop} (h : mjW3 t d mid as Z q) (hq : ∀ z Z', q z Z' → q' z Z') : mjW3 t d mid as Z q' := mjW.mono h fun _ Z' g => by
  obtain ⟨z, g1, g2⟩ := g
  exact ⟨z, g1, hq z Z' g2⟩
theorem mjW4.mono {t d mid : Nat} {as : List mjY} {Z : mjZ} {p p' : mjZ → Prop} {q q' : Nat → mjZ → Prop} (h : mjW4 t d mid as Z p q) (hp : ∀ Z', p Z' → p' Z') (hq : ∀ z Z', q z Z' → q' z Z') : mjW4 t d mid as Z p' q' := mjW.mono h fun _ Z' g => by
  rcases g with ⟨g1, g2⟩ | ⟨z, g1, g2⟩
  · exact Or.inl ⟨g1, hp Z' g2⟩
  · exact Or.inr ⟨z, g1, hq z Z' g2⟩
