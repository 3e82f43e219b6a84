/-! Each instruction; then runs, then calls at every depth. -/
theorem mjII_inv {f : Int32 → Int32 → Int32} {pc : Nat} {l : mjL} {s : List Value} {h : mjH} {st' : mjS} (hv : mjII f pc l s h = some st') : ∃ x y r, s = .int y :: .int x :: r ∧ st' = (pc + 1, l, .int (f x y) :: r, h) := by
  unfold mjII at hv
  split at hv
  · cases hv; exact ⟨_, _, _, rfl, rfl⟩
  · cases hv
theorem mjLL_inv {f : Int64 → Int64 → Int64} {pc : Nat} {l : mjL} {s : List Value} {h : mjH} {st' : mjS} (hv : mjLL f pc l s h = some st') : ∃ x y r, s = .long y :: .long x :: r ∧ st' = (pc + 1, l, .long (f x y) :: r, h) := by
  unfold mjLL at hv
  split at hv
  · cases hv; exact ⟨_, _, _, rfl, rfl⟩
  · cases hv
theorem mjLI_inv {f : Int64 → Int32 → Int64} {pc : Nat} {l : mjL} {s : List Value} {h : mjH} {st' : mjS} (hv : mjLI f pc l s h = some st') : ∃ x y r, s = .int y :: .long x :: r ∧ st' = (pc + 1, l, .long (f x y) :: r, h) := by
  unfold mjLI at hv
  split at hv
  · cases hv; exact ⟨_, _, _, rfl, rfl⟩
  · cases hv
theorem mjBr_inv {t : Bool} {pc len : Nat} {off : Int} {l : mjL} {s : List Value} {h : mjH} {st' : mjS} (hv : mjBr t pc len off l s h = some st') : ∃ n : Nat, (pc : Int) + off = (n : Int) ∧ ((t = true ∧ st' = (n, l, s, h)) ∨ (t = false ∧ st' = (pc + len, l, s, h))) := by
  unfold mjBr at hv
  obtain ⟨n, h1, h2⟩ := Option.bind_eq_some_iff.mp hv
  cases h2
  refine ⟨n, mjJmp_inv h1, ?_⟩
  cases t
  · exact Or.inr ⟨rfl, rfl⟩
  · exact Or.inl ⟨rfl, rfl⟩
theorem mjLk_place {b base i : Nat} {v : Value} {l : mjL} (h : mjLk i l = some v) : ∃ k : Nat, (mjLm b base l)[k]? = some (i, mjVr b base v) :=
  List.getElem?_of_mem (List.mem_map.mpr ⟨(i, v), mjLk_mem h, rfl⟩)
theorem mjCat1 {b base : Nat} {v : Value} (h : Nat.beq v.category 1 = true) : (mjVr b base v).category = 1 := by rw [mjVr_cat]; exact Nat.eq_of_beq_eq_true h
section MJT
variable {p : Program} {L0 : Launch} {e : Env} {R : Room} {s : State} {m : MethodId} {args : Array Value} {below : List Frame} {meth : Method} {c : Code} {Q : State → Prop}
variable {cc : ByteArray} {nL b base d n0 z0 : Nat} {own : String} {ini : Bool} {D : va_G} {sc : Option (List Int32)} {H0 : Heap}
variable {pc : Nat} {l : mjL} {st : List Value} {h : mjH} {k : mjK} {call : mjT} {st' : mjS}
def mjDfs (dfs : List (List Value)) : Prop := ∀ (ci : Nat) (r : vw_C) (fs : List Value), vwCl[ci]? = some r → dfs[ci]? = some fs → fs.length = r.2.2 ∧ ∀ j, j < r.2.2 → fs[j]? = some (defaultValue (mjTyOf r j))
set_option maxHeartbeats 4000000 in
theorem mj_step {dfs : List (List Value)} (hdf : mjDfs dfs) (X : mjX p R s m args meth c cc nL own ini D b base d sc H0) (hcall : mjCallOK L0 D b base d call) (ins : Instr) (n : Nat) (hd : decode cc pc = .ok (ins, mjIl ins n)) (hlk : mjLinkB own ini ins k = true)
    (hst : mjStep dfs d nL sc call ins k pc l st h = some st') : mjGo p L0 e R s m args below meth c Q nL b base n0 z0 D H0 (pc, l, st, h) st' := by
  obtain ⟨hx, hb, hml, hown, hts, hK, hN, hfr, hlo, hb0, -, -⟩ := id X
  cases ins
  case aconst_null =>
    cases hst
    exact mjGo.pure fun H locs cells slots ls hl K => lv_null hx hb hd K
  case iconst i =>
    cases hst
    exact mjGo.pure fun H locs cells slots ls hl K => lv_iconst hx hb hd rfl K
  case bipush i =>
    cases hst
    exact mjGo.pure fun H locs cells slots ls hl K => lv_bipush hx hb hd rfl K
  case sipush i =>
    cases hst
    exact mjGo.pure fun H locs cells slots ls hl K => lv_sipush hx hb hd rfl K
  case lconst i =>
    cases hst
    exact mjGo.pure fun H locs cells slots ls hl K => lv_lconst hx hb hd rfl K
  case ldc idx =>
    cases hv : k.2.2.2.2.2 with
    | int v =>
      simp only [mjLinkB, hv, decide_eq_true_eq] at hlk
      have e0 : st' = (pc + 2, l, .int v :: st, h) := by rw [← hv]; exact (Option.some.inj hst).symm
      subst e0
      exact mjGo.pure fun H locs cells slots ls hl K => lv_ldc hx hb hown (mj_link hts hlk rfl) hd K
    | _ => simp [mjLinkB, hv] at hlk
  case ldc_w idx =>
    cases hv : k.2.2.2.2.2 with
    | int v =>
      simp only [mjLinkB, hv, decide_eq_true_eq] at hlk
      have e0 : st' = (pc + 3, l, .int v :: st, h) := by rw [← hv]; exact (Option.some.inj hst).symm
      subst e0
      exact mjGo.pure fun H locs cells slots ls hl K => lv_ldcw hx hb hown (mj_link hts hlk rfl) hd K
    | _ => simp [mjLinkB, hv] at hlk
  case ldc2_w idx =>
    cases hv : k.2.2.2.2.2 with
    | long v =>
      simp only [mjLinkB, hv, decide_eq_true_eq] at hlk
      have e0 : st' = (pc + 3, l, .long v :: st, h) := by rw [← hv]; exact (Option.some.inj hst).symm
      subst e0
      exact mjGo.pure fun H locs cells slots ls hl K => lv_ldc2 hx hb hown (mj_link hts hlk rfl) hd K
    | double v =>
      simp only [mjLinkB, hv, decide_eq_true_eq] at hlk
      have e0 : st' = (pc + 3, l, .double v :: st, h) := by rw [← hv]; exact (Option.some.inj hst).symm
      subst e0
      exact mjGo.pure fun H locs cells slots ls hl K => lv_ldc2d hx hb hown (mj_link hts hlk rfl) hd K
    | _ => simp [mjLinkB, hv] at hlk
  case iload i =>
    have hst' : (mjLoad 0 i l).bind (fun v => some (pc + 2, l, v :: st, h)) = some st' := hst
    obtain ⟨v, h1, h2⟩ := Option.bind_eq_some_iff.mp hst'
    cases h2
    obtain ⟨g1, g2⟩ := mjLoad_inv h1
    obtain ⟨x, rfl⟩ := mjKd0 g2
    exact mjGo.pure fun H locs cells slots ls hl K => lv_iload hx hb hd (mjLk_at hl g1) K
  case iload_n i =>
    have hst' : (mjLoad 0 i.val l).bind (fun v => some (pc + 1, l, v :: st, h)) = some st' := hst
    obtain ⟨v, h1, h2⟩ := Option.bind_eq_some_iff.mp hst'
    cases h2
    obtain ⟨g1, g2⟩ := mjLoad_inv h1
    obtain ⟨x, rfl⟩ := mjKd0 g2
    exact mjGo.pure fun H locs cells slots ls hl K => lv_iload_n hx hb hd rfl (mjLk_at hl g1) K
  case istore i =>
    match st, hst with
    | v :: r, hst =>
      have hst' : (mjSt1 0 i nL v l).bind (fun l' => some (pc + 2, l', r, h)) = some st' := hst
      obtain ⟨l', h1, h2⟩ := Option.bind_eq_some_iff.mp hst'
      cases h2
      obtain ⟨g1, g2, rfl⟩ := mjSt1_inv h1
      obtain ⟨x, rfl⟩ := mjKd0 g1
      exact mjGo.loc fun H locs cells slots ls hl K => lv_istore hx hb hd hl g2 (by rw [mjF1_map]; rfl) K
    | [], hst => cases hst
  case istore_n i =>
    match st, hst with
    | v :: r, hst =>
      have hst' : (mjSt1 0 i.val nL v l).bind (fun l' => some (pc + 1, l', r, h)) = some st' := hst
      obtain ⟨l', h1, h2⟩ := Option.bind_eq_some_iff.mp hst'
      cases h2
      obtain ⟨g1, g2, rfl⟩ := mjSt1_inv h1
      obtain ⟨x, rfl⟩ := mjKd0 g1
      exact mjGo.loc fun H locs cells slots ls hl K => lv_istore_n hx hb hd rfl hl g2 (by rw [mjF1_map]; rfl) K
    | [], hst => cases hst
  case lload i =>
    have hst' : (mjLoad 1 i l).bind (fun v => some (pc + 2, l, v :: st, h)) = some st' := hst
    obtain ⟨v, h1, h2⟩ := Option.bind_eq_some_iff.mp hst'
    cases h2
    obtain ⟨g1, g2⟩ := mjLoad_inv h1
    obtain ⟨x, rfl⟩ := mjKd1 g2
    exact mjGo.pure fun H locs cells slots ls hl K => lv_lload hx hb hd (mjLk_at hl g1) K
  case lload_n i =>
    have hst' : (mjLoad 1 i.val l).bind (fun v => some (pc + 1, l, v :: st, h)) = some st' := hst
    obtain ⟨v, h1, h2⟩ := Option.bind_eq_some_iff.mp hst'
    cases h2
    obtain ⟨g1, g2⟩ := mjLoad_inv h1
    obtain ⟨x, rfl⟩ := mjKd1 g2
    exact mjGo.pure fun H locs cells slots ls hl K => lv_lload_n hx hb hd rfl (mjLk_at hl g1) K
  case lstore i =>
    match st, hst with
    | v :: r, hst =>
      have hst' : (mjSt2 1 i nL v l).bind (fun l' => some (pc + 2, l', r, h)) = some st' := hst
      obtain ⟨l', h1, h2⟩ := Option.bind_eq_some_iff.mp hst'
      cases h2
      obtain ⟨g1, g2, rfl⟩ := mjSt2_inv h1
      obtain ⟨x, rfl⟩ := mjKd1 g1
      exact mjGo.loc fun H locs cells slots ls hl K => lv_lstore hx hb hd hl g2 (by rw [mjF2_map]; rfl) K
    | [], hst => cases hst
  case lstore_n i =>
    match st, hst with
    | v :: r, hst =>
      have hst' : (mjSt2 1 i.val nL v l).bind (fun l' => some (pc + 1, l', r, h)) = some st' := hst
      obtain ⟨l', h1, h2⟩ := Option.bind_eq_some_iff.mp hst'
      cases h2
      obtain ⟨g1, g2, rfl⟩ := mjSt2_inv h1
      obtain ⟨x, rfl⟩ := mjKd1 g1
      exact mjGo.loc fun H locs cells slots ls hl K => lv_lstore_n hx hb hd rfl hl g2 (by rw [mjF2_map]; rfl) K
    | [], hst => cases hst
  case dload i =>
    have hst' : (mjLoad 2 i l).bind (fun v => some (pc + 2, l, v :: st, h)) = some st' := hst
    obtain ⟨v, h1, h2⟩ := Option.bind_eq_some_iff.mp hst'
    cases h2
    obtain ⟨g1, g2⟩ := mjLoad_inv h1
    obtain ⟨x, rfl⟩ := mjKd2 g2
    exact mjGo.pure fun H locs cells slots ls hl K => lv_dload hx hb hd (mjLk_at hl g1) K
  case dload_n i =>
    have hst' : (mjLoad 2 i.val l).bind (fun v => some (pc + 1, l, v :: st, h)) = some st' := hst
    obtain ⟨v, h1, h2⟩ := Option.bind_eq_some_iff.mp hst'
    cases h2
    obtain ⟨g1, g2⟩ := mjLoad_inv h1
    obtain ⟨x, rfl⟩ := mjKd2 g2
    exact mjGo.pure fun H locs cells slots ls hl K => lv_dload_n hx hb hd rfl (mjLk_at hl g1) K
  case dstore i =>
    match st, hst with
    | v :: r, hst =>
      have hst' : (mjSt2 2 i nL v l).bind (fun l' => some (pc + 2, l', r, h)) = some st' := hst
      obtain ⟨l', h1, h2⟩ := Option.bind_eq_some_iff.mp hst'
      cases h2
      obtain ⟨g1, g2, rfl⟩ := mjSt2_inv h1
      obtain ⟨x, rfl⟩ := mjKd2 g1
      exact mjGo.loc fun H locs cells slots ls hl K => lv_dstore hx hb hd hl g2 (by rw [mjF2_map]; rfl) K
    | [], hst => cases hst
  case dstore_n i =>
    match st, hst with
    | v :: r, hst =>
      have hst' : (mjSt2 2 i.val nL v l).bind (fun l' => some (pc + 1, l', r, h)) = some st' := hst
      obtain ⟨l', h1, h2⟩ := Option.bind_eq_some_iff.mp hst'
      cases h2
      obtain ⟨g1, g2, rfl⟩ := mjSt2_inv h1
      obtain ⟨x, rfl⟩ := mjKd2 g1
      exact mjGo.loc fun H locs cells slots ls hl K => lv_dstore_n hx hb hd rfl hl g2 (by rw [mjF2_map]; rfl) K
    | [], hst => cases hst
  case aload i =>
    have hst' : (mjLoad 4 i l).bind (fun v => some (pc + 2, l, v :: st, h)) = some st' := hst
    obtain ⟨v, h1, h2⟩ := Option.bind_eq_some_iff.mp hst'
    cases h2
    obtain ⟨g1, g2⟩ := mjLoad_inv h1
    rcases mjKd4 g2 with rfl | ⟨x, rfl⟩
    · exact mjGo.pure fun H locs cells slots ls hl K => lv_aloadN hx hb hd (mjLk_at hl g1) K
    · exact mjGo.pure fun H locs cells slots ls hl K => lv_aload hx hb hd (mjLk_at hl g1) K
  case aload_n i =>
    have hst' : (mjLoad 4 i.val l).bind (fun v => some (pc + 1, l, v :: st, h)) = some st' := hst
    obtain ⟨v, h1, h2⟩ := Option.bind_eq_some_iff.mp hst'
    cases h2
    obtain ⟨g1, g2⟩ := mjLoad_inv h1
    rcases mjKd4 g2 with rfl | ⟨x, rfl⟩
    · exact mjGo.pure fun H locs cells slots ls hl K => lv_aload_nN hx hb hd rfl (mjLk_at hl g1) K
    · exact mjGo.pure fun H locs cells slots ls hl K => lv_aload_n hx hb hd rfl (mjLk_at hl g1) K
  case astore i =>
    match st, hst with
    | v :: r, hst =>
      have hst' : (mjSt1 4 i nL v l).bind (fun l' => some (pc + 2, l', r, h)) = some st' := hst
      obtain ⟨l', h1, h2⟩ := Option.bind_eq_some_iff.mp hst'
      cases h2
      obtain ⟨g1, g2, rfl⟩ := mjSt1_inv h1
      rcases mjKd4 g1 with rfl | ⟨x, rfl⟩
      · exact mjGo.loc fun H locs cells slots ls hl K => lv_astoreN hx hb hd hl g2 (by rw [mjF1_map]; rfl) K
      · exact mjGo.loc fun H locs cells slots ls hl K => lv_astore hx hb hd hl g2 (by rw [mjF1_map]; rfl) K
    | [], hst => cases hst
  case astore_n i =>
    match st, hst with
    | v :: r, hst =>
      have hst' : (mjSt1 4 i.val nL v l).bind (fun l' => some (pc + 1, l', r, h)) = some st' := hst
      obtain ⟨l', h1, h2⟩ := Option.bind_eq_some_iff.mp hst'
      cases h2
      obtain ⟨g1, g2, rfl⟩ := mjSt1_inv h1
      rcases mjKd4 g1 with rfl | ⟨x, rfl⟩
      · exact mjGo.loc fun H locs cells slots ls hl K => lv_astore_nN hx hb hd rfl hl g2 (by rw [mjF1_map]; rfl) K
      · exact mjGo.loc fun H locs cells slots ls hl K => lv_astore_n hx hb hd rfl hl g2 (by rw [mjF1_map]; rfl) K
    | [], hst => cases hst
  case iinc i n1 =>
    cases hq : mjLk i l with
    | none => simp [mjStep, hq] at hst
    | some v =>
      cases v with
      | int x =>
        have hst' : (mjSt1 0 i nL (.int (x + Int32.ofInt n1)) l).bind (fun l' => some (pc + 3, l', st, h)) = some st' := by simpa only [mjStep, hq] using hst
        obtain ⟨l', h1, h2⟩ := Option.bind_eq_some_iff.mp hst'
        cases h2
        obtain ⟨-, g2, rfl⟩ := mjSt1_inv h1
        obtain ⟨kk, hkk⟩ := mjLk_place (b := b) (base := base) hq
        exact mjGo.loc fun H locs cells slots ls hl K => lv_iinc hx hb hd hl hkk rfl g2 (by rw [mjF1_map]; rfl) K
      | _ => simp [mjStep, hq] at hst
  case iadd =>
    obtain ⟨x, y, r, rfl, rfl⟩ := mjII_inv (f := fun x y => x + y) hst
    exact mjGo.pure fun H locs cells slots ls hl K => lv_iadd hx hb hd K
  case isub =>
    obtain ⟨x, y, r, rfl, rfl⟩ := mjII_inv (f := fun x y => x - y) hst
    exact mjGo.pure fun H locs cells slots ls hl K => lv_isub hx hb hd K
  case imul =>
    obtain ⟨x, y, r, rfl, rfl⟩ := mjII_inv (f := fun x y => x * y) hst
    exact mjGo.pure fun H locs cells slots ls hl K => lv_imul hx hb hd K
  case iand =>
    obtain ⟨x, y, r, rfl, rfl⟩ := mjII_inv (f := fun x y => x &&& y) hst
    exact mjGo.pure fun H locs cells slots ls hl K => lv_iand hx hb hd K
  case ishl =>
    obtain ⟨x, y, r, rfl, rfl⟩ := mjII_inv (f := fun x y => x <<< (y &&& 31)) hst
    exact mjGo.pure fun H locs cells slots ls hl K => lv_ishl hx hb hd K
  case ishr =>
    obtain ⟨x, y, r, rfl, rfl⟩ := mjII_inv (f := fun x y => x >>> (y &&& 31)) hst
    exact mjGo.pure fun H locs cells slots ls hl K => lv_ishr hx hb hd K
  case iushr =>
    obtain ⟨x, y, r, rfl, rfl⟩ := mjII_inv (f := fun x y => (x.toUInt32 >>> (y.toUInt32 &&& Int32.toUInt32 31)).toInt32) hst
    exact mjGo.pure fun H locs cells slots ls hl K => lv_iushr hx hb hd rfl K
  case ladd =>
    obtain ⟨x, y, r, rfl, rfl⟩ := mjLL_inv (f := fun x y => x + y) hst
    exact mjGo.pure fun H locs cells slots ls hl K => lv_ladd hx hb hd K
  case lsub =>
    obtain ⟨x, y, r, rfl, rfl⟩ := mjLL_inv (f := fun x y => x - y) hst
    exact mjGo.pure fun H locs cells slots ls hl K => lv_lsub hx hb hd K
  case lmul =>
    obtain ⟨x, y, r, rfl, rfl⟩ := mjLL_inv (f := fun x y => x * y) hst
    exact mjGo.pure fun H locs cells slots ls hl K => lv_lmul hx hb hd K
  case land =>
    obtain ⟨x, y, r, rfl, rfl⟩ := mjLL_inv (f := fun x y => x &&& y) hst
    exact mjGo.pure fun H locs cells slots ls hl K => lv_land hx hb hd K
  case lor =>
    obtain ⟨x, y, r, rfl, rfl⟩ := mjLL_inv (f := fun x y => x ||| y) hst
    exact mjGo.pure fun H locs cells slots ls hl K => lv_lor hx hb hd K
  case lshl =>
    obtain ⟨x, y, r, rfl, rfl⟩ := mjLI_inv (f := fun x y => x <<< (y.toInt64 &&& 63)) hst
    exact mjGo.pure fun H locs cells slots ls hl K => lv_lshl hx hb hd rfl K
  case lshr =>
    obtain ⟨x, y, r, rfl, rfl⟩ := mjLI_inv (f := fun x y => x >>> (y.toInt64 &&& 63)) hst
    exact mjGo.pure fun H locs cells slots ls hl K => lv_lshr hx hb hd rfl K
  case lushr =>
    obtain ⟨x, y, r, rfl, rfl⟩ := mjLI_inv (f := fun x y => (x.toUInt64 >>> (y.toInt64.toUInt64 &&& Int64.toUInt64 63)).toInt64) hst
    exact mjGo.pure fun H locs cells slots ls hl K => lv_lushr hx hb hd rfl K
  case idiv =>
    simp only [mjStep] at hst
    split at hst
    · rename_i y x r
      split at hst
      · cases hst
      · rename_i hne
        cases hst
        exact mjGo.pure fun H locs cells slots ls hl K => lv_idiv hx hb hd hne K
    · cases hst
  case irem =>
    simp only [mjStep] at hst
    split at hst
    · rename_i y x r
      split at hst
      · cases hst
      · rename_i hne
        cases hst
        exact mjGo.pure fun H locs cells slots ls hl K => lv_irem hx hb hd hne K
    · cases hst
  case ldiv =>
    simp only [mjStep] at hst
    split at hst
    · rename_i y x r
      split at hst
      · cases hst
      · rename_i hne
        cases hst
        exact mjGo.pure fun H locs cells slots ls hl K => lv_ldiv hx hb hd hne K
    · cases hst
  case lrem =>
    simp only [mjStep] at hst
    split at hst
    · rename_i y x r
      split at hst
      · cases hst
      · rename_i hne
        cases hst
        exact mjGo.pure fun H locs cells slots ls hl K => lv_lrem hx hb hd hne K
    · cases hst
  case ineg =>
    simp only [mjStep] at hst
    split at hst
    · cases hst
      exact mjGo.pure fun H locs cells slots ls hl K => lv_ineg hx hb hd K
    · cases hst
  case lneg =>
    simp only [mjStep] at hst
    split at hst
    · cases hst
      exact mjGo.pure fun H locs cells slots ls hl K => lv_lneg hx hb hd K
    · cases hst
  case i2l =>
    simp only [mjStep] at hst
    split at hst
    · cases hst
      exact mjGo.pure fun H locs cells slots ls hl K => lv_i2l hx hb hd rfl K
    · cases hst
  case l2i =>
    simp only [mjStep] at hst
    split at hst
    · cases hst
      exact mjGo.pure fun H locs cells slots ls hl K => lv_l2i hx hb hd rfl K
    · cases hst
  case i2d =>
    simp only [mjStep] at hst
    split at hst
    · cases hst
      exact mjGo.pure fun H locs cells slots ls hl K => lv_i2d hx hb hd K
    · cases hst
  case l2d =>
    simp only [mjStep] at hst
    split at hst
    · cases hst
      exact mjGo.pure fun H locs cells slots ls hl K => lv_l2d hx hb hd K
    · cases hst
  case d2i =>
    simp only [mjStep] at hst
    split at hst
    · cases hst
      exact mjGo.pure fun H locs cells slots ls hl K => lv_d2i hx hb hd K
    · cases hst
  case d2l =>
    simp only [mjStep] at hst
    split at hst
    · cases hst
      exact mjGo.pure fun H locs cells slots ls hl K => lv_d2l hx hb hd K
    · cases hst
  case lcmp =>
    simp only [mjStep] at hst
    split at hst
    · cases hst
      exact mjGo.pure fun H locs cells slots ls hl K => W.lcmp hx hb hd K
    · cases hst
  case dcmp op =>
    simp only [mjStep] at hst
    split at hst
    · cases hst
      exact mjGo.pure fun H locs cells slots ls hl K => lv_dcmp hx hb hd K
    · cases hst
  case f2d =>
    simp only [mjStep] at hst
    split at hst
    · rename_i x r
      split at hst
      · rename_i hne
        cases hst
        exact mjGo.pure fun H locs cells slots ls hl K => lv_f2d hx hb hd hne K
      · cases hst
    · cases hst
  case dup =>
    simp only [mjStep] at hst
    split at hst
    · rename_i v r
      cases hb2 : Nat.beq v.category 1 with
      | false => rw [hb2] at hst; cases hst
      | true =>
        rw [hb2] at hst
        cases hst
        exact mjGo.pure fun H locs cells slots ls hl K => lv_dup hx hb hd (mjCat1 hb2) K
    · cases hst
  case pop =>
    simp only [mjStep] at hst
    split at hst
    · rename_i v r
      cases hb2 : Nat.beq v.category 1 with
      | false => rw [hb2] at hst; cases hst
      | true =>
        rw [hb2] at hst
        cases hst
        exact mjGo.pure fun H locs cells slots ls hl K => lv_pop hx hb hd (mjCat1 hb2) K
    · cases hst
  case dup2 =>
    simp only [mjStep] at hst
    split at hst
    · rename_i v w r
      cases hb2 : Nat.beq v.category 1 && Nat.beq w.category 1 with
      | false => rw [hb2] at hst; cases hst
      | true =>
        rw [hb2] at hst
        simp only [Bool.and_eq_true] at hb2
        cases hst
        exact mjGo.pure fun H locs cells slots ls hl K => lv_dup2_11 hx hb hd (mjCat1 hb2.1) (mjCat1 hb2.2) K
    · cases hst
  case goto off =>
    have hst' : (mjJmp pc off).bind (fun n => some (n, l, st, h)) = some st' := hst
    obtain ⟨n1, h1, h2⟩ := Option.bind_eq_some_iff.mp hst'
    cases h2
    exact mjGo.pure fun H locs cells slots ls hl K => lv_goto hx hb hd (mjJmp_inv h1) K
  case ifCond cnd off =>
    simp only [mjStep] at hst
    split at hst
    · rename_i x r
      obtain ⟨n1, hj, ⟨ht, rfl⟩ | ⟨ht, rfl⟩⟩ := mjBr_inv hst
      · cases cnd with
        | eq =>
          have hc : x = 0 := of_decide_eq_true ht
          exact mjGo.pure fun H locs cells slots ls hl K => lv_if_eq hx hb hd hj (by first | exact fun _ => K | exact fun q => absurd hc q | exact fun q => absurd q hc) (by first | exact fun _ => K | exact fun q => absurd hc q | exact fun q => absurd q hc)
        | ne =>
          have hc : ¬ x = 0 := of_decide_eq_true ht
          exact mjGo.pure fun H locs cells slots ls hl K => lv_if_ne hx hb hd hj (by first | exact fun _ => K | exact fun q => absurd hc q | exact fun q => absurd q hc) (by first | exact fun _ => K | exact fun q => absurd hc q | exact fun q => absurd q hc)
        | lt =>
          have hc : x < 0 := of_decide_eq_true ht
          exact mjGo.pure fun H locs cells slots ls hl K => lv_if_lt hx hb hd hj (by first | exact fun _ => K | exact fun q => absurd hc q | exact fun q => absurd q hc) (by first | exact fun _ => K | exact fun q => absurd hc q | exact fun q => absurd q hc)
        | ge =>
          have hc : 0 ≤ x := of_decide_eq_true ht
          exact mjGo.pure fun H locs cells slots ls hl K => lv_if_ge hx hb hd hj (by first | exact fun _ => K | exact fun q => absurd hc q | exact fun q => absurd q hc) (by first | exact fun _ => K | exact fun q => absurd hc q | exact fun q => absurd q hc)
        | gt =>
          have hc : 0 < x := of_decide_eq_true ht
          exact mjGo.pure fun H locs cells slots ls hl K => lv_if_gt hx hb hd hj (by first | exact fun _ => K | exact fun q => absurd hc q | exact fun q => absurd q hc) (by first | exact fun _ => K | exact fun q => absurd hc q | exact fun q => absurd q hc)
        | le =>
          have hc : x ≤ 0 := of_decide_eq_true ht
          exact mjGo.pure fun H locs cells slots ls hl K => lv_if_le hx hb hd hj (by first | exact fun _ => K | exact fun q => absurd hc q | exact fun q => absurd q hc) (by first | exact fun _ => K | exact fun q => absurd hc q | exact fun q => absurd q hc)
      · cases cnd with
        | eq =>
          have hc : ¬ (x = 0) := of_decide_eq_false ht
          exact mjGo.pure fun H locs cells slots ls hl K => lv_if_eq hx hb hd hj (by first | exact fun _ => K | exact fun q => absurd hc q | exact fun q => absurd q hc) (by first | exact fun _ => K | exact fun q => absurd hc q | exact fun q => absurd q hc)
        | ne =>
          have hc : ¬ (¬ x = 0) := of_decide_eq_false ht
          exact mjGo.pure fun H locs cells slots ls hl K => lv_if_ne hx hb hd hj (by first | exact fun _ => K | exact fun q => absurd hc q | exact fun q => absurd q hc) (by first | exact fun _ => K | exact fun q => absurd hc q | exact fun q => absurd q hc)
        | lt =>
          have hc : ¬ (x < 0) := of_decide_eq_false ht
          exact mjGo.pure fun H locs cells slots ls hl K => lv_if_lt hx hb hd hj (by first | exact fun _ => K | exact fun q => absurd hc q | exact fun q => absurd q hc) (by first | exact fun _ => K | exact fun q => absurd hc q | exact fun q => absurd q hc)
        | ge =>
          have hc : ¬ (0 ≤ x) := of_decide_eq_false ht
          exact mjGo.pure fun H locs cells slots ls hl K => lv_if_ge hx hb hd hj (by first | exact fun _ => K | exact fun q => absurd hc q | exact fun q => absurd q hc) (by first | exact fun _ => K | exact fun q => absurd hc q | exact fun q => absurd q hc)
        | gt =>
          have hc : ¬ (0 < x) := of_decide_eq_false ht
          exact mjGo.pure fun H locs cells slots ls hl K => lv_if_gt hx hb hd hj (by first | exact fun _ => K | exact fun q => absurd hc q | exact fun q => absurd q hc) (by first | exact fun _ => K | exact fun q => absurd hc q | exact fun q => absurd q hc)
        | le =>
          have hc : ¬ (x ≤ 0) := of_decide_eq_false ht
          exact mjGo.pure fun H locs cells slots ls hl K => lv_if_le hx hb hd hj (by first | exact fun _ => K | exact fun q => absurd hc q | exact fun q => absurd q hc) (by first | exact fun _ => K | exact fun q => absurd hc q | exact fun q => absurd q hc)
    · cases hst
  case if_icmp cnd off =>
    simp only [mjStep] at hst
    split at hst
    · rename_i y x r
      obtain ⟨n1, hj, ⟨ht, rfl⟩ | ⟨ht, rfl⟩⟩ := mjBr_inv hst
      · cases cnd with
        | eq =>
          have hc : x = y := of_decide_eq_true ht
          exact mjGo.pure fun H locs cells slots ls hl K => lv_icmp_eq hx hb hd hj (by first | exact fun _ => K | exact fun q => absurd hc q | exact fun q => absurd q hc) (by first | exact fun _ => K | exact fun q => absurd hc q | exact fun q => absurd q hc)
        | ne =>
          have hc : ¬ x = y := of_decide_eq_true ht
          exact mjGo.pure fun H locs cells slots ls hl K => lv_icmp_ne hx hb hd hj (by first | exact fun _ => K | exact fun q => absurd hc q | exact fun q => absurd q hc) (by first | exact fun _ => K | exact fun q => absurd hc q | exact fun q => absurd q hc)
        | lt =>
          have hc : x < y := of_decide_eq_true ht
          exact mjGo.pure fun H locs cells slots ls hl K => lv_icmp_lt hx hb hd hj (by first | exact fun _ => K | exact fun q => absurd hc q | exact fun q => absurd q hc) (by first | exact fun _ => K | exact fun q => absurd hc q | exact fun q => absurd q hc)
        | ge =>
          have hc : y ≤ x := of_decide_eq_true ht
          exact mjGo.pure fun H locs cells slots ls hl K => lv_icmp_ge hx hb hd hj (by first | exact fun _ => K | exact fun q => absurd hc q | exact fun q => absurd q hc) (by first | exact fun _ => K | exact fun q => absurd hc q | exact fun q => absurd q hc)
        | gt =>
          have hc : y < x := of_decide_eq_true ht
          exact mjGo.pure fun H locs cells slots ls hl K => lv_icmp_gt hx hb hd hj (by first | exact fun _ => K | exact fun q => absurd hc q | exact fun q => absurd q hc) (by first | exact fun _ => K | exact fun q => absurd hc q | exact fun q => absurd q hc)
        | le =>
          have hc : x ≤ y := of_decide_eq_true ht
          exact mjGo.pure fun H locs cells slots ls hl K => lv_icmp_le hx hb hd hj (by first | exact fun _ => K | exact fun q => absurd hc q | exact fun q => absurd q hc) (by first | exact fun _ => K | exact fun q => absurd hc q | exact fun q => absurd q hc)
      · cases cnd with
        | eq =>
          have hc : ¬ (x = y) := of_decide_eq_false ht
          exact mjGo.pure fun H locs cells slots ls hl K => lv_icmp_eq hx hb hd hj (by first | exact fun _ => K | exact fun q => absurd hc q | exact fun q => absurd q hc) (by first | exact fun _ => K | exact fun q => absurd hc q | exact fun q => absurd q hc)
        | ne =>
          have hc : ¬ (¬ x = y) := of_decide_eq_false ht
          exact mjGo.pure fun H locs cells slots ls hl K => lv_icmp_ne hx hb hd hj (by first | exact fun _ => K | exact fun q => absurd hc q | exact fun q => absurd q hc) (by first | exact fun _ => K | exact fun q => absurd hc q | exact fun q => absurd q hc)
        | lt =>
          have hc : ¬ (x < y) := of_decide_eq_false ht
          exact mjGo.pure fun H locs cells slots ls hl K => lv_icmp_lt hx hb hd hj (by first | exact fun _ => K | exact fun q => absurd hc q | exact fun q => absurd q hc) (by first | exact fun _ => K | exact fun q => absurd hc q | exact fun q => absurd q hc)
        | ge =>
          have hc : ¬ (y ≤ x) := of_decide_eq_false ht
          exact mjGo.pure fun H locs cells slots ls hl K => lv_icmp_ge hx hb hd hj (by first | exact fun _ => K | exact fun q => absurd hc q | exact fun q => absurd q hc) (by first | exact fun _ => K | exact fun q => absurd hc q | exact fun q => absurd q hc)
        | gt =>
          have hc : ¬ (y < x) := of_decide_eq_false ht
          exact mjGo.pure fun H locs cells slots ls hl K => lv_icmp_gt hx hb hd hj (by first | exact fun _ => K | exact fun q => absurd hc q | exact fun q => absurd q hc) (by first | exact fun _ => K | exact fun q => absurd hc q | exact fun q => absurd q hc)
        | le =>
          have hc : ¬ (x ≤ y) := of_decide_eq_false ht
          exact mjGo.pure fun H locs cells slots ls hl K => lv_icmp_le hx hb hd hj (by first | exact fun _ => K | exact fun q => absurd hc q | exact fun q => absurd q hc) (by first | exact fun _ => K | exact fun q => absurd hc q | exact fun q => absurd q hc)
    · cases hst
  case ifnull off =>
    simp only [mjStep] at hst
    split at hst
    · obtain ⟨n1, hj, ⟨ht, rfl⟩ | ⟨ht, rfl⟩⟩ := mjBr_inv hst
      · exact mjGo.pure fun H locs cells slots ls hl K => lv_ifnullN hx hb hd hj K
      · cases ht
    · obtain ⟨n1, hj, ⟨ht, rfl⟩ | ⟨ht, rfl⟩⟩ := mjBr_inv hst
      · cases ht
      · exact mjGo.pure fun H locs cells slots ls hl K => lv_ifnull hx hb hd K
    · cases hst
  case ifnonnull off =>
    simp only [mjStep] at hst
    split at hst
    · obtain ⟨n1, hj, ⟨ht, rfl⟩ | ⟨ht, rfl⟩⟩ := mjBr_inv hst
      · cases ht
      · exact mjGo.pure fun H locs cells slots ls hl K => lv_ifnonnullN hx hb hd K
    · obtain ⟨n1, hj, ⟨ht, rfl⟩ | ⟨ht, rfl⟩⟩ := mjBr_inv hst
      · exact mjGo.pure fun H locs cells slots ls hl K => lv_ifnonnull hx hb hd hj K
      · cases ht
    · cases hst
  case tableswitch dflt lo hi offs =>
    simp only [mjStep] at hst
    split at hst
    · rename_i x r
      split at hst
      · rename_i hout
        obtain ⟨n1, h1, h2⟩ := Option.bind_eq_some_iff.mp hst
        cases h2
        exact mjGo.pure fun H locs cells slots ls hl K => lv_tableOut hx hb hd hout (mjJmp_inv h1) K
      · rename_i hin
        obtain ⟨off, h0, h3⟩ := Option.bind_eq_some_iff.mp hst
        obtain ⟨n1, h1, h2⟩ := Option.bind_eq_some_iff.mp h3
        cases h2
        exact mjGo.pure fun H locs cells slots ls hl K => lv_tableIn hx hb hd (fun q => hin (Or.inl q)) (fun q => hin (Or.inr q)) h0 (mjJmp_inv h1) K
    · cases hst
  case getfield idx =>
    simp only [mjStep] at hst
    split at hst
    · obtain ⟨v, h1, h2⟩ := Option.bind_eq_some_iff.mp hst
      cases h2
      exact mj_getW X hd hlk h1
    · cases hst
  case putfield idx =>
    simp only [mjStep] at hst
    split at hst
    · obtain ⟨v, h1, h2⟩ := Option.bind_eq_some_iff.mp hst
      cases h2
      exact mj_putW X hd hlk h1
    · cases hst
  case iaload =>
    simp only [mjStep] at hst
    split at hst
    · obtain ⟨v, h1, h2⟩ := Option.bind_eq_some_iff.mp hst
      obtain ⟨xs, h3, h4⟩ := Option.bind_eq_some_iff.mp h1
      cases h2
      exact mj_ialdW X hd h3 h4
    · cases hst
  case laload =>
    simp only [mjStep] at hst
    split at hst
    · obtain ⟨v, h1, h2⟩ := Option.bind_eq_some_iff.mp hst
      obtain ⟨xs, h3, h4⟩ := Option.bind_eq_some_iff.mp h1
      cases h2
      exact mj_laldW X hd h3 h4
    · cases hst
  case aaload =>
    simp only [mjStep] at hst
    split at hst
    · obtain ⟨v, h1, h2⟩ := Option.bind_eq_some_iff.mp hst
      obtain ⟨xs, h3, h4⟩ := Option.bind_eq_some_iff.mp h1
      cases h2
      exact mj_aaldW X hd h3 h4
    · cases hst
  case iastore =>
    simp only [mjStep] at hst
    split at hst
    · rename_i x i a r
      obtain ⟨xs, h1, h2⟩ := Option.bind_eq_some_iff.mp hst
      cases hb2 : mjIn i xs.length with
      | false => rw [hb2] at h2; cases h2
      | true =>
        rw [hb2] at h2
        cases h2
        exact mj_iastW X hd h1 hb2
    · cases hst
  case lastore =>
    simp only [mjStep] at hst
    split at hst
    · rename_i x i a r
      obtain ⟨xs, h1, h2⟩ := Option.bind_eq_some_iff.mp hst
      cases hb2 : mjIn i xs.length with
      | false => rw [hb2] at h2; cases h2
      | true =>
        rw [hb2] at h2
        cases h2
        exact mj_lastW X hd h1 hb2
    · cases hst
  case aastore =>
    simp only [mjStep] at hst
    split at hst
    · rename_i v i a r
      obtain ⟨o, h1, h2⟩ := Option.bind_eq_some_iff.mp hst
      cases hb2 : mjIn i o.2.length && mjIs h (.ref v) o.1 with
      | false => rw [hb2] at h2; cases h2
      | true =>
        rw [hb2] at h2
        simp only [Bool.and_eq_true] at hb2
        cases h2
        exact mj_aastW X hd h1 hb2.1 hb2.2
    · rename_i i a r
      obtain ⟨o, h1, h2⟩ := Option.bind_eq_some_iff.mp hst
      cases hb2 : mjIn i o.2.length with
      | false => rw [hb2] at h2; cases h2
      | true =>
        rw [hb2] at h2
        cases h2
        exact mj_aastN X hd h1 hb2
    · cases hst
  case arraylength =>
    simp only [mjStep] at hst
    split at hst
    · obtain ⟨v, h1, h2⟩ := Option.bind_eq_some_iff.mp hst
      cases h2
      exact mj_alenW X hd h1
    · cases hst
  case newarray ty =>
    cases ty with
    | int =>
      simp only [mjStep] at hst
      split at hst
      · rename_i n1 r
        cases hb2 : mjNew n1 with
        | false => rw [hb2] at hst; cases hst
        | true =>
          rw [hb2] at hst
          cases hst
          exact mj_newIW X hd hb2
      · cases hst
    | long =>
      simp only [mjStep] at hst
      split at hst
      · rename_i n1 r
        cases hb2 : mjNew n1 with
        | false => rw [hb2] at hst; cases hst
        | true =>
          rw [hb2] at hst
          cases hst
          exact mj_newJW X hd hb2
      · cases hst
    | _ => simp [mjStep] at hst
  case anewarray idx =>
    simp only [mjStep] at hst
    split at hst
    · rename_i n1 r
      cases hb2 : mjNew n1 with
      | false => rw [hb2] at hst; cases hst
      | true =>
        rw [hb2] at hst
        cases hst
        exact mj_newRW X hd hlk hb2
    · cases hst
  case new idx =>
    simp only [mjStep] at hst
    obtain ⟨fs, h1, h2⟩ := Option.bind_eq_some_iff.mp hst
    cases h2
    exact mj_newW hdf X hd hlk h1
  case invokevirtual idx =>
    simp only [mjStep] at hst
    obtain ⟨⟨as, r⟩, h1, h2⟩ := Option.bind_eq_some_iff.mp hst
    cases as with
    | nil => cases h2
    | cons v as =>
      dsimp only at h2
      cases hb2 : mjIs h v k.2.2.2.1 with
      | false => rw [hb2] at h2; cases h2
      | true =>
        rw [hb2] at h2
        exact mj_virtW X hcall hd hlk h1 hb2 h2
  case invokestatic idx =>
    simp only [mjStep] at hst
    cases hk3 : Nat.beq k.1 3 with
    | true =>
      rw [hk3, cond_true] at hst
      obtain ⟨⟨as, r⟩, h1, h2⟩ := Option.bind_eq_some_iff.mp hst
      exact mj_statW X hcall hd hlk hk3 h1 h2
    | false =>
      rw [hk3, cond_false] at hst
      cases hd2 : Nat.blt 0 d with
      | false => rw [hd2] at hst; cases hst
      | true =>
        rw [hd2, cond_true] at hst
        exact mj_natW X hd hlk hk3 (by simpa [Nat.blt_eq] using hd2) hst
  case invokespecial idx =>
    simp only [mjStep] at hst
    cases hk8 : Nat.beq k.1 8 with
    | true =>
      rw [hk8, cond_true] at hst
      split at hst
      · rename_i x r
        cases hb2 : Nat.blt 0 d && Nat.ble (mjCat r) 8 with
        | false => rw [hb2] at hst; cases hst
        | true =>
          rw [hb2] at hst
          simp only [Bool.and_eq_true] at hb2
          have hd0 : 0 < d := by simpa [Nat.blt_eq] using hb2.1
          have hcat := Nat.le_of_ble_eq_true hb2.2
          simp only [mjLinkB] at hlk
          rw [hk8, cond_true, decide_eq_true_eq] at hlk
          cases hst
          refine mjGo.pure fun H locs cells slots ls hl K => ?_
          refine W.objInit hx hb hown (mj_link hts hlk rfl) (hts _ mjObj.1) (hts _ mjObj.2) rfl (hl.1.trans hml.symm) rfl hd (by omega) ?_ K
          have h1 : ((r.map (mjVr b base)).map fun v => v.category).sum = mjCat r := mjSm_cat b base r
          show 2 * 0 + ((r.map (mjVr b base)).map fun v => v.category).sum + 12 ≤ R.locals
          omega
      · cases hst
    | false =>
      rw [hk8, cond_false] at hst
      obtain ⟨⟨as, r⟩, h1, h2⟩ := Option.bind_eq_some_iff.mp hst
      cases as with
      | nil => cases h2
      | cons v as =>
        cases v with
        | ref x => exact mj_specW X hcall hd hlk hk8 h1 h2
        | _ => cases h2
  all_goals exact absurd hst (by simp [mjStep])
end MJT
