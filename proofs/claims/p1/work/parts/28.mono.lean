/-! What a step does to the room: it grows. -/
def mjP (h : mjH) (x : Option mjS) : Prop := ∀ st' : mjS, x = some st' → h.length ≤ st'.2.2.2.length ∧ mjSz h ≤ mjSz st'.2.2.2
theorem mjP_none {h : mjH} : mjP h none := fun _ q => by cases q
theorem mjP_same {h : mjH} {pc : Nat} {l : mjL} {s : List Value} : mjP h (some (pc, l, s, h)) := fun _ q => by cases q; exact ⟨Nat.le_refl _, Nat.le_refl _⟩
theorem mjP_set {h : mjH} {pc a : Nat} {l : mjL} {s : List Value} {c0 c1 : mjC} (h0 : h[a]? = some c0) (hc : mjCs c0 = mjCs c1) : mjP h (some (pc, l, s, h.set a c1)) := fun _ q => by
  cases q
  exact ⟨by simp, by show mjSz h ≤ mjSz (h.set a c1); rw [mjSz_set h0 hc]; exact Nat.le_refl _⟩
theorem mjP_app {h : mjH} {pc : Nat} {l : mjL} {s : List Value} {c1 : mjC} : mjP h (some (pc, l, s, h ++ [c1])) := fun _ q => by
  cases q
  exact ⟨by simp, by show mjSz h ≤ mjSz (h ++ [c1]); rw [mjSz_app]; omega⟩
theorem mjP_bind {α : Type} {h : mjH} {o : Option α} {f : α → Option mjS} (k : ∀ v, o = some v → mjP h (f v)) : mjP h (o.bind f) := fun st' q => by
  obtain ⟨v, h1, h2⟩ := Option.bind_eq_some_iff.mp q
  exact k v h1 st' h2
theorem mjP_cond {h : mjH} {t : Bool} {x y : Option mjS} (h1 : mjP h x) (h2 : mjP h y) : mjP h (bif t then x else y) := by cases t <;> assumption
theorem mjP_ii {f : Int32 → Int32 → Int32} {pc : Nat} {l : mjL} {s : List Value} {h : mjH} : mjP h (mjII f pc l s h) := fun st' q => by
  obtain ⟨x, y, r, rfl, rfl⟩ := mjII_inv q
  exact ⟨Nat.le_refl _, Nat.le_refl _⟩
theorem mjP_ll {f : Int64 → Int64 → Int64} {pc : Nat} {l : mjL} {s : List Value} {h : mjH} : mjP h (mjLL f pc l s h) := fun st' q => by
  obtain ⟨x, y, r, rfl, rfl⟩ := mjLL_inv q
  exact ⟨Nat.le_refl _, Nat.le_refl _⟩
theorem mjP_li {f : Int64 → Int32 → Int64} {pc : Nat} {l : mjL} {s : List Value} {h : mjH} : mjP h (mjLI f pc l s h) := fun st' q => by
  obtain ⟨x, y, r, rfl, rfl⟩ := mjLI_inv q
  exact ⟨Nat.le_refl _, Nat.le_refl _⟩
theorem mjP_br {t : Bool} {pc len : Nat} {off : Int} {l : mjL} {s : List Value} {h : mjH} : mjP h (mjBr t pc len off l s h) := fun st' q => by
  obtain ⟨n, -, ⟨-, rfl⟩ | ⟨-, rfl⟩⟩ := mjBr_inv q <;> exact ⟨Nat.le_refl _, Nat.le_refl _⟩
theorem mjP_nat {t pc : Nat} {l : mjL} {s : List Value} {h : mjH} : mjP h (mjNat t pc l s h) := by
  unfold mjNat
  repeat' first
    | exact mjP_none
    | exact mjP_same
    | refine mjP_cond ?_ ?_
    | split
def mjMono (call : mjT) : Prop := ∀ (mid : Nat) (as : List Value) (h : mjH) (r : Option Value) (h' : mjH), call mid as h = some (r, h') → h.length ≤ h'.length ∧ mjSz h ≤ mjSz h'
theorem mjP_inv {call : mjT} (hm : mjMono call) {mid pc : Nat} {l : mjL} {as r : List Value} {h : mjH} : mjP h (mjInv call mid pc l as r h) := fun st' q => by
  obtain ⟨-, ⟨rv, h'⟩, h1, rfl⟩ := mjInv_inv q
  exact hm _ _ _ _ _ h1
set_option maxHeartbeats 4000000 in
theorem mj_mono {dfs : List (List Value)} {d nL : Nat} {sc : Option (List Int32)} {call : mjT} (hm : mjMono call) (ins : Instr) {k : mjK} {pc : Nat} {l : mjL} {s : List Value} {h : mjH} : mjP h (mjStep dfs d nL sc call ins k pc l s h) := by
  cases ins
  case putfield idx =>
    simp only [mjStep]
    split
    · refine mjP_bind fun h' h1 => ?_
      obtain ⟨fs, ho, -, rfl⟩ := mjPut_inv h1
      exact mjP_set ho (by simp [mjCs])
    · exact mjP_none
  case iastore =>
    simp only [mjStep]
    split
    · exact mjP_bind fun xs h1 => mjP_cond (mjP_set (mjArI_inv h1) (by simp [mjCs])) mjP_none
    · exact mjP_none
  case lastore =>
    simp only [mjStep]
    split
    · exact mjP_bind fun xs h1 => mjP_cond (mjP_set (mjArJ_inv h1) (by simp [mjCs])) mjP_none
    · exact mjP_none
  case aastore =>
    simp only [mjStep]
    split
    · exact mjP_bind fun xs h1 => mjP_cond (mjP_set (mjArR_inv h1) (by simp [mjCs])) mjP_none
    · exact mjP_bind fun xs h1 => mjP_cond (mjP_set (mjArR_inv h1) (by simp [mjCs])) mjP_none
    · exact mjP_none
  case newarray ty =>
    cases ty <;> simp only [mjStep]
    all_goals first
      | exact mjP_none
      | (split
         · exact mjP_cond mjP_app mjP_none
         · exact mjP_none)
  case anewarray idx =>
    simp only [mjStep]
    split
    · exact mjP_cond mjP_app mjP_none
    · exact mjP_none
  case new idx =>
    simp only [mjStep]
    exact mjP_bind fun _ _ => mjP_app
  case invokevirtual idx =>
    simp only [mjStep]
    refine mjP_bind fun q _ => ?_
    split
    · exact mjP_cond (mjP_inv hm) mjP_none
    · exact mjP_none
  case invokestatic idx =>
    simp only [mjStep]
    exact mjP_cond (mjP_bind fun q _ => mjP_inv hm) (mjP_cond mjP_nat mjP_none)
  case invokespecial idx =>
    simp only [mjStep]
    refine mjP_cond ?_ (mjP_bind fun q _ => ?_)
    · split
      · exact mjP_cond mjP_same mjP_none
      · exact mjP_none
    · split
      · exact mjP_inv hm
      · exact mjP_none
  all_goals simp only [mjStep]
  all_goals repeat' first
    | exact mjP_none
    | exact mjP_same
    | exact mjP_ii
    | exact mjP_ll
    | exact mjP_li
    | exact mjP_br
    | refine mjP_cond ?_ ?_
    | refine mjP_bind fun _ _ => ?_
    | split
