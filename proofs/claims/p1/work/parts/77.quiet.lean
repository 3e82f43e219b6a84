/-! Methods that make nothing: the room stays. -/
def mjQm (mid : Nat) : Bool := (match mjMt[mid]? with | some q => !(Nat.beq q.2.1 2) | none => false) && !(Nat.beq mid 7)
def mjQr (e : mjI) : Bool := match e.1 with
  | .new _ => false
  | .newarray _ => false
  | .anewarray _ => false
  | .invokespecial _ => Nat.beq e.2.2.1 8
  | .invokevirtual _ => mjQm e.2.2.2.1
  | .invokestatic _ => !(Nat.beq e.2.2.1 3) || mjQm e.2.2.2.1
  | _ => true
def mjQt (L : List (Option mjI)) : Bool := L.all fun x => match x with
  | some e => mjQr e
  | none => true
def mjQk (mid : Nat) : Bool := !(mjQm mid) || mjQt (mjTs.getD mid [])
theorem mjQk_ok : (List.range 261).all mjQk = true := by decide +kernel
def mjE (h : mjH) (x : Option mjS) : Prop := ∀ st' : mjS, x = some st' → st'.2.2.2.length = h.length ∧ mjSz st'.2.2.2 = mjSz h
theorem mjE_none {h : mjH} : mjE h none := fun _ q => by cases q
theorem mjE_same {h : mjH} {pc : Nat} {l : mjL} {s : List Value} : mjE h (some (pc, l, s, h)) := fun _ q => by cases q; exact ⟨rfl, rfl⟩
theorem mjE_set {h : mjH} {pc a : Nat} {l : mjL} {s : List Value} {c0 c1 : mjC} (h0 : h[a]? = some c0) (hc : mjCs c0 = mjCs c1) : mjE h (some (pc, l, s, h.set a c1)) := fun _ q => by
  cases q
  exact ⟨by simp, by show mjSz (h.set a c1) = mjSz h; rw [mjSz_set h0 hc]⟩
theorem mjE_bind {α : Type} {h : mjH} {o : Option α} {f : α → Option mjS} (k : ∀ v, o = some v → mjE h (f v)) : mjE h (o.bind f) := fun st' q => by
  obtain ⟨v, h1, h2⟩ := Option.bind_eq_some_iff.mp q
  exact k v h1 st' h2
theorem mjE_cond {h : mjH} {t : Bool} {x y : Option mjS} (h1 : t = true → mjE h x) (h2 : t = false → mjE h y) : mjE h (bif t then x else y) := by
  cases t
  · exact h2 rfl
  · exact h1 rfl
theorem mjE_ii {f : Int32 → Int32 → Int32} {pc : Nat} {l : mjL} {s : List Value} {h : mjH} : mjE h (mjII f pc l s h) := fun st' q => by
  obtain ⟨x, y, r, rfl, rfl⟩ := mjII_inv q
  exact ⟨rfl, rfl⟩
theorem mjE_ll {f : Int64 → Int64 → Int64} {pc : Nat} {l : mjL} {s : List Value} {h : mjH} : mjE h (mjLL f pc l s h) := fun st' q => by
  obtain ⟨x, y, r, rfl, rfl⟩ := mjLL_inv q
  exact ⟨rfl, rfl⟩
theorem mjE_li {f : Int64 → Int32 → Int64} {pc : Nat} {l : mjL} {s : List Value} {h : mjH} : mjE h (mjLI f pc l s h) := fun st' q => by
  obtain ⟨x, y, r, rfl, rfl⟩ := mjLI_inv q
  exact ⟨rfl, rfl⟩
theorem mjE_br {t : Bool} {pc len : Nat} {off : Int} {l : mjL} {s : List Value} {h : mjH} : mjE h (mjBr t pc len off l s h) := fun st' q => by
  obtain ⟨n, -, ⟨-, rfl⟩ | ⟨-, rfl⟩⟩ := mjBr_inv q <;> exact ⟨rfl, rfl⟩
theorem mjE_nat {t pc : Nat} {l : mjL} {s : List Value} {h : mjH} : mjE h (mjNat t pc l s h) := by
  unfold mjNat
  repeat' first
    | exact mjE_none
    | exact mjE_same
    | refine mjE_cond (fun _ => ?_) (fun _ => ?_)
    | split
def mjEq (call : mjT) : Prop := ∀ (mid : Nat) (as : List Value) (h : mjH) (r : Option Value) (h' : mjH), mjQm mid = true → call mid as h = some (r, h') → h'.length = h.length ∧ mjSz h' = mjSz h
theorem mjE_inv {call : mjT} (hm : mjEq call) {mid pc : Nat} (hq : mjQm mid = true) {l : mjL} {as r : List Value} {h : mjH} : mjE h (mjInv call mid pc l as r h) := fun st' q => by
  obtain ⟨-, ⟨rv, h'⟩, h1, rfl⟩ := mjInv_inv q
  exact hm _ _ _ _ _ hq h1
set_option maxHeartbeats 4000000 in
theorem mj_quiet {dfs : List (List Value)} {d nL : Nat} {sc : Option (List Int32)} {call : mjT} (hm : mjEq call) (e : mjI) (hq : mjQr e = true) {pc : Nat} {l : mjL} {s : List Value} {h : mjH} : mjE h (mjStep dfs d nL sc call e.1 e.2.2 pc l s h) := by
  obtain ⟨ins, len, k⟩ := e
  dsimp only
  cases ins
  case putfield idx =>
    simp only [mjStep]
    split
    · refine mjE_bind fun h' h1 => ?_
      obtain ⟨fs, ho, -, rfl⟩ := mjPut_inv h1
      exact mjE_set ho (by simp [mjCs])
    · exact mjE_none
  case iastore =>
    simp only [mjStep]
    split
    · exact mjE_bind fun xs h1 => mjE_cond (fun _ => mjE_set (mjArI_inv h1) (by simp [mjCs])) (fun _ => mjE_none)
    · exact mjE_none
  case lastore =>
    simp only [mjStep]
    split
    · exact mjE_bind fun xs h1 => mjE_cond (fun _ => mjE_set (mjArJ_inv h1) (by simp [mjCs])) (fun _ => mjE_none)
    · exact mjE_none
  case aastore =>
    simp only [mjStep]
    split
    · exact mjE_bind fun xs h1 => mjE_cond (fun _ => mjE_set (mjArR_inv h1) (by simp [mjCs])) (fun _ => mjE_none)
    · exact mjE_bind fun xs h1 => mjE_cond (fun _ => mjE_set (mjArR_inv h1) (by simp [mjCs])) (fun _ => mjE_none)
    · exact mjE_none
  case newarray ty => cases hq
  case anewarray idx => cases hq
  case new idx => cases hq
  case invokevirtual idx =>
    have hq : mjQm k.2.1 = true := hq
    simp only [mjStep]
    refine mjE_bind fun q _ => ?_
    split
    · exact mjE_cond (fun _ => mjE_inv hm hq) (fun _ => mjE_none)
    · exact mjE_none
  case invokestatic idx =>
    have hq : (!(Nat.beq k.1 3) || mjQm k.2.1) = true := hq
    simp only [mjStep]
    refine mjE_cond (fun h3 => ?_) (fun _ => mjE_cond (fun _ => mjE_nat) (fun _ => mjE_none))
    rw [h3] at hq
    exact mjE_bind fun q _ => mjE_inv hm (by simpa using hq)
  case invokespecial idx =>
    have hq : Nat.beq k.1 8 = true := hq
    simp only [mjStep]
    refine mjE_cond (fun _ => ?_) (fun h8 => by rw [hq] at h8; cases h8)
    split
    · exact mjE_cond (fun _ => mjE_same) (fun _ => mjE_none)
    · exact mjE_none
  all_goals simp only [mjStep]
  all_goals repeat' first
    | exact mjE_none
    | exact mjE_same
    | exact mjE_ii
    | exact mjE_ll
    | exact mjE_li
    | exact mjE_br
    | refine mjE_cond (fun _ => ?_) (fun _ => ?_)
    | refine mjE_bind fun _ _ => ?_
    | split
theorem mjQ_row {mid pc : Nat} {e : mjI} (hq : mjQm mid = true) (he : mjCd mid pc = some e) : mjQr e = true := by
  have hlt : mid < 261 := by
    unfold mjQm at hq
    cases hm : mjMt[mid]? with
    | none => rw [hm] at hq; simp at hq
    | some q =>
      have h1 := (List.getElem?_eq_some_iff.mp hm).1
      have h2 : mjMt.length = 261 := by decide +kernel
      omega
  have h1 := List.all_eq_true.mp mjQk_ok mid (List.mem_range.mpr hlt)
  unfold mjQk at h1
  rw [hq] at h1
  have h2 : mjQt (mjTs.getD mid []) = true := by simpa using h1
  unfold mjQt at h2
  unfold mjCd mjTb at he
  cases hx : (mjTs.getD mid [])[pc]? with
  | none => rw [hx] at he; cases he
  | some x =>
    rw [hx] at he
    have hx2 : x = some e := by simpa using he
    subst hx2
    exact List.all_eq_true.mp h2 (some e) (List.mem_of_getElem? hx)
theorem mjQ_calls {dfs : List (List Value)} {F : Nat} : ∀ d : Nat, mjEq (mjCall dfs F mjCd d)
  | 0 => fun mid as h r h' _ hc => by cases hc
  | d + 1 => fun mid as h r h' hq hc => by
    unfold mjCall at hc
    obtain ⟨q, hm, h1⟩ := Option.bind_eq_some_iff.mp hc
    cases hb2 : Nat.ble (lg_sl as).length q.1.2.2.1 with
    | false => rw [hb2] at h1; cases h1
    | true =>
      rw [hb2] at h1
      obtain ⟨⟨ins, st⟩, h2, h3⟩ := Option.bind_eq_some_iff.mp h1
      obtain ⟨rv, h4, h5⟩ := Option.bind_eq_some_iff.mp h3
      cases h5
      have hh : ∀ (n : Nat) (s1 : mjS) (r : Instr × mjS), mjRun dfs d q.1.2.2.1 none (mjCall dfs F mjCd d) (mjCd mid) n s1 = some r → r.2.2.2.2.length = s1.2.2.2.length ∧ mjSz r.2.2.2.2 = mjSz s1.2.2.2 := by
        intro n
        induction n with
        | zero => intro s1 r hr; cases hr
        | succ n ihn =>
          intro s1 r hr
          unfold mjRun at hr
          obtain ⟨en, k1, k2⟩ := Option.bind_eq_some_iff.mp hr
          cases hret : mjIsRet en.1 with
          | true =>
            rw [hret] at k2
            cases k2
            exact ⟨rfl, rfl⟩
          | false =>
            rw [hret] at k2
            obtain ⟨s2, k3, k4⟩ := Option.bind_eq_some_iff.mp k2
            have k5 := mj_quiet (mjQ_calls d) en (mjQ_row hq k1) s2 k3
            have k6 := ihn s2 r k4
            exact ⟨k6.1.trans k5.1, k6.2.trans k5.2⟩
      exact hh F _ _ h2
theorem mjDoes.quiet {d mid : Nat} {as : List Value} {h h' : mjH} {v : Option Value} (hc : mjDoes d mid as h v h') (hq : mjQm mid = true) : h'.length = h.length ∧ mjSz h' = mjSz h := by
  obtain ⟨F, hc⟩ := hc
  exact mjQ_calls d mid as h v h' hq hc
