/-! A fresh object: the answers that are not UNKNOWN, on both sides. -/
theorem mjk_0 : (Int32.ofInt 0).toInt = 0 := by decide
theorem mjk_1 : (Int32.ofInt 1).toInt = 1 := by decide
theorem mjk_2 : (Int32.ofInt 2).toInt = 2 := by decide
theorem mjk_3 : (Int32.ofInt 3).toInt = 3 := by decide
theorem mjk_4 : (Int32.ofInt 4).toInt = 4 := by decide
theorem mjk_m1 : (Int32.ofInt (-1)).toInt = -1 := by decide
theorem mjk_b6 : (Int8.ofInt 6).toInt32.toInt = 6 := by decide
theorem mjk_b8 : (Int8.ofInt 8).toInt32.toInt = 8 := by decide
theorem mjk_b15 : (Int8.ofInt 15).toInt32.toInt = 15 := by decide
theorem mjk_b16 : (Int8.ofInt 16).toInt32.toInt = 16 := by decide
theorem mjk_b22 : (Int8.ofInt 22).toInt32.toInt = 22 := by decide
theorem mjk_b36 : (Int8.ofInt 36).toInt32.toInt = 36 := by decide
theorem mjk_b48 : (Int8.ofInt 48).toInt32.toInt = 48 := by decide
theorem mjk_b60 : (Int8.ofInt 60).toInt32.toInt = 60 := by decide
theorem mjk_b63 : (Int8.ofInt 63).toInt32.toInt = 63 := by decide
theorem mjk_z : (0 : Int32).toInt = 0 := by decide
theorem cT_lt {x y : Int32} (h : x.toInt < y.toInt) : mjCmp .lt x y = true := decide_eq_true (Int32.lt_iff_toInt_lt.mpr h)
theorem cF_lt {x y : Int32} (h : y.toInt ≤ x.toInt) : mjCmp .lt x y = false := decide_eq_false (fun q => by have := Int32.lt_iff_toInt_lt.mp q; omega)
theorem cT_ge {x y : Int32} (h : y.toInt ≤ x.toInt) : mjCmp .ge x y = true := decide_eq_true (Int32.le_iff_toInt_le.mpr h)
theorem cF_ge {x y : Int32} (h : x.toInt < y.toInt) : mjCmp .ge x y = false := decide_eq_false (fun q => by have := Int32.le_iff_toInt_le.mp q; omega)
theorem cT_gt {x y : Int32} (h : y.toInt < x.toInt) : mjCmp .gt x y = true := decide_eq_true (Int32.lt_iff_toInt_lt.mpr h)
theorem cF_gt {x y : Int32} (h : x.toInt ≤ y.toInt) : mjCmp .gt x y = false := decide_eq_false (fun q => by have := Int32.lt_iff_toInt_lt.mp q; omega)
theorem cT_le {x y : Int32} (h : x.toInt ≤ y.toInt) : mjCmp .le x y = true := decide_eq_true (Int32.le_iff_toInt_le.mpr h)
theorem cF_le {x y : Int32} (h : y.toInt < x.toInt) : mjCmp .le x y = false := decide_eq_false (fun q => by have := Int32.le_iff_toInt_le.mp q; omega)
theorem cT_eq {x y : Int32} (h : x.toInt = y.toInt) : mjCmp .eq x y = true := decide_eq_true (Int32.toInt_inj.mp h)
theorem cF_eq {x y : Int32} (h : x.toInt ≠ y.toInt) : mjCmp .eq x y = false := decide_eq_false (fun q => h (by rw [q]))
theorem cT_ne {x y : Int32} (h : x.toInt ≠ y.toInt) : mjCmp .ne x y = true := decide_eq_true (fun q => h (by rw [q]))
theorem cF_ne {x y : Int32} (h : x.toInt = y.toInt) : mjCmp .ne x y = false := decide_eq_false (fun q => q (Int32.toInt_inj.mp h))
theorem cj {j : Nat} (h : j < 100) : (Int32.ofNat j).toInt = (j : Int) := nI_toInt (by omega)
theorem mj_set_same {h : mjH} {a : Nat} {c : mjC} (ha : h[a]? = some c) : h.set a c = h := by
  apply List.ext_getElem?
  intro i
  by_cases hi : a = i
  · subst hi
    rw [List.getElem?_set_self (List.getElem?_eq_some_iff.mp ha).1, ha]
  · rw [List.getElem?_set_ne hi]
theorem mj_rep_set {α : Type} (n i : Nat) (x : α) : (List.replicate n x).set i x = List.replicate n x := by
  apply List.ext_getElem?
  intro k
  rw [List.getElem?_set]
  split
  · rename_i hk
    subst hk
    split
    · rename_i hl
      simp at hl
      simp [hl]
    · rename_i hl
      simp at hl
      simp [hl]
  · rfl
theorem mjTo.last0 {d nL : Nat} {scr : Option (List Int32)} {tab : mjTab} {pc len a n : Nat} {k : mjK} {l : mjL} {s : List Value} {h : mjH} {i : Int32} {x : Int64} (h1 : tab pc = some (.lastore, len, k)) (h2 : h[a]? = some (.inr (.inr (.inl (List.replicate n 0))))) (h3 : mjIn i n = true) (hx : x = 0) : mjTo d nL scr tab (pc, l, .long x :: .int i :: .ref (a + 1) :: s, h) (pc + 1, l, s, h) := by
  subst hx
  have := mjTo.last (d := d) (nL := nL) (sc := scr) (tab := tab) (l := l) (s := s) (x := 0) (i := i) h1 h2 (by rw [List.length_replicate]; exact h3)
  rw [mj_rep_set, mj_set_same h2] at this
  exact this
theorem mjTo.iast0 {d nL : Nat} {scr : Option (List Int32)} {tab : mjTab} {pc len a n : Nat} {k : mjK} {l : mjL} {s : List Value} {h : mjH} {i : Int32} {x : Int32} (h1 : tab pc = some (.iastore, len, k)) (h2 : h[a]? = some (.inr (.inl (List.replicate n 0)))) (h3 : mjIn i n = true) (hx : x = 0) : mjTo d nL scr tab (pc, l, .int x :: .int i :: .ref (a + 1) :: s, h) (pc + 1, l, s, h) := by
  subst hx
  have := mjTo.iast (d := d) (nL := nL) (sc := scr) (tab := tab) (l := l) (s := s) (x := 0) (i := i) h1 h2 (by rw [List.length_replicate]; exact h3)
  rw [mj_rep_set, mj_set_same h2] at this
  exact this
theorem mjIn_nat {j n : Nat} (h : j < n) (hn : n ≤ 4000) : mjIn (Int32.ofNat j) n = true := by
  have h1 : (nI j).toNatClampNeg = j := nI_clamp (by omega)
  have h2 : ¬ nI j < 0 := nI_pos (by omega)
  unfold mjIn
  rw [show Int32.ofNat j = nI j from rfl, h1]
  simp [h2, Nat.blt_eq, h]
theorem mj_inc (k : Nat) : Int32.ofNat k + Int32.ofInt 1 = Int32.ofNat (k + 1) := nI_1 k
/-- the reference's cells are as they were made -/
def mjFM (h : mjH) : Prop := ∀ k : Nat, 464 ≤ k → h[k]? = mjHP[k]?
theorem mjFM.hp : mjFM mjHP := fun _ _ => rfl
theorem mjFM.set {h : mjH} {a : Nat} {c : mjC} (hF : mjFM h) (ha : a < 464) : mjFM (h.set a c) := fun k hk => by
  rw [List.getElem?_set_ne (by omega)]
  exact hF k hk
theorem mjHP_at {k : Nat} {c : mjC} (h : mjMc[k]? = some c) : mjHP[464 + k]? = some c := by
  unfold mjHP
  rw [List.getElem?_append_right (by rw [mjXh_len]; omega), mjXh_len, Nat.add_sub_cancel_left]
  exact h
def mjOq (x : Option mjC) (y : mjC) : Bool := match x with
  | some c => mjCeq c y
  | none => false
theorem mjOq_eq {x : Option mjC} {y : mjC} (h : mjOq x y = true) : x = some y := by
  cases x with
  | none => cases h
  | some c => rw [mjCeq_eq h]
def mjLv : List (Option Nat) := [some 3, some 5, some 7, some 9, some 11, some 13, some 15, some 17, some 19, some 21, some 23, some 25, some 27, some 29, some 31, some 33]
theorem mjHP_1 : mjHP[1]? = some (.inr (.inr (.inr (2, mjLv)))) := rfl
theorem mjLv_at : ∀ j : Nat, j < 16 → mjAt? mjLv (Int32.ofNat j) = some (some (2 * j + 3)) := by decide +kernel
theorem mjHP_lf0 : ∀ j : Nat, j < 16 → mjOq (mjHP[2 * j + 2]?) (.inl (2, [.int 0, .int (-1), .ref (2 * j + 4)])) = true := by decide +kernel
theorem mjHP_lw0 : ∀ j : Nat, j < 16 → mjOq (mjHP[2 * j + 3]?) (.inr (.inr (.inl (List.replicate 8 0)))) = true := by decide +kernel
theorem mjHP_lf {j : Nat} (h : j < 16) : mjHP[2 * j + 2]? = some (.inl (2, [.int 0, .int (-1), .ref (2 * j + 4)])) := mjOq_eq (mjHP_lf0 j h)
theorem mjHP_lw {j : Nat} (h : j < 16) : mjHP[2 * j + 3]? = some (.inr (.inr (.inl (List.replicate 8 0)))) := mjOq_eq (mjHP_lw0 j h)
theorem mjHP_told : mjHP[253]? = some (.inr (.inl (List.replicate 9 0))) := mjOq_eq (by decide +kernel)
theorem mjHP_tabs : ∃ L, mjHP[34]? = some (.inr (.inr (.inr (6, some 36 :: L)))) := ⟨_, rfl⟩
theorem mjHP_t0 : mjHP[35]? = some (.inl (6, [.int 0, .int 0, .ref 37])) := mjOq_eq (by decide +kernel)
theorem mjHP_t0n : mjHP[36]? = some (.inr (.inl (List.replicate 36 0))) := mjOq_eq (by decide +kernel)
theorem mjHP_465 : mjHP[465]? = some (.inr (.inl (List.replicate 16 (-1)))) := mjHP_at (k := 1) rfl
theorem mjHP_466 : mjHP[466]? = some (.inr (.inl (List.replicate 16 0))) := mjHP_at (k := 2) rfl
theorem mjHP_467 : mjHP[467]? = some (.inr (.inr (.inl (List.replicate 128 0)))) := mjHP_at (k := 3) rfl
theorem mjHP_471 : mjHP[471]? = some (.inr (.inl (List.replicate 36 0))) := mjHP_at (k := 7) rfl
theorem mjHP_472 : mjHP[472]? = some (.inr (.inl (List.replicate 9 0))) := mjHP_at (k := 8) rfl
theorem mjAt_rep {n j : Nat} {x : Int32} (h : j < n) (hn : n ≤ 4000) : mjAt? (List.replicate n x) (Int32.ofNat j) = some x := by
  have h1 : (nI j).toNatClampNeg = j := nI_clamp (by omega)
  have h2 : ¬ nI j < 0 := nI_pos (by omega)
  unfold mjAt?
  rw [show Int32.ofNat j = nI j from rfl, if_neg h2, h1]
  simp [h]
set_option maxRecDepth 4000 in
theorem x_leafAt_out {l : Int32} (h : mjH) (hl : l.toInt < 0 ∨ 15 < l.toInt) : mjDoes 1 13 [.ref 1, .int l] h (some .null) h := by
  by_cases hq : l.toInt < 0
  · refine mjDoes.of2 (tab := mjTb mjT_13) (q := ((⟨"TableBench", "leafAt", "(I)LTableBench$Leaf;"⟩, prog_1_method_44_code, 2, some ((Jvm.ClassFile.FieldType.object "TableBench$Leaf"))), 0, 334, 333, 0, 1)) (st := (20, [(0, .ref 1), (1, .int l)], [.null], h)) (e := (.areturn, 1, mj0)) rfl rfl (Nat.le_of_ble_eq_true rfl) ?_ rfl rfl rfl
    refine (mjTo.pure 1 (s2 := (1, [(0, .ref 1), (1, .int l)], [.int l], h)) fun _ => rfl).trans ?_
    refine (mjTo.ifT (c := .lt) (x := l) (n := 19) rfl (cT_lt (by simp only [mjk_0, mjk_1, mjk_2, mjk_3, mjk_4, mjk_m1, mjk_b6, mjk_b8, mjk_b15, mjk_b16, mjk_b22, mjk_b36, mjk_b48, mjk_b60, mjk_b63, mjk_z]; omega)) rfl).trans ?_
    refine (mjTo.pure 1 (s2 := (20, [(0, .ref 1), (1, .int l)], [.null], h)) fun _ => rfl).trans ?_
    exact mjTo.refl
  · refine mjDoes.of2 (tab := mjTb mjT_13) (q := ((⟨"TableBench", "leafAt", "(I)LTableBench$Leaf;"⟩, prog_1_method_44_code, 2, some ((Jvm.ClassFile.FieldType.object "TableBench$Leaf"))), 0, 334, 333, 0, 1)) (st := (20, [(0, .ref 1), (1, .int l)], [.null], h)) (e := (.areturn, 1, mj0)) rfl rfl (Nat.le_of_ble_eq_true rfl) ?_ rfl rfl rfl
    refine (mjTo.pure 1 (s2 := (1, [(0, .ref 1), (1, .int l)], [.int l], h)) fun _ => rfl).trans ?_
    refine (mjTo.ifF (c := .lt) (x := l) (n := 19) rfl (cF_lt (by simp only [mjk_0, mjk_1, mjk_2, mjk_3, mjk_4, mjk_m1, mjk_b6, mjk_b8, mjk_b15, mjk_b16, mjk_b22, mjk_b36, mjk_b48, mjk_b60, mjk_b63, mjk_z]; omega)) rfl).trans ?_
    refine (mjTo.pure 2 (s2 := (7, [(0, .ref 1), (1, .int l)], [.int ((Int8.ofInt 16).toInt32), .int l], h)) fun _ => rfl).trans ?_
    refine (mjTo.icT (c := .ge) (x := l) (y := (Int8.ofInt 16).toInt32) (n := 19) rfl (cT_ge (by simp only [mjk_0, mjk_1, mjk_2, mjk_3, mjk_4, mjk_m1, mjk_b6, mjk_b8, mjk_b15, mjk_b16, mjk_b22, mjk_b36, mjk_b48, mjk_b60, mjk_b63, mjk_z]; omega)) rfl).trans ?_
    refine (mjTo.pure 1 (s2 := (20, [(0, .ref 1), (1, .int l)], [.null], h)) fun _ => rfl).trans ?_
    exact mjTo.refl
set_option maxRecDepth 4000 in
theorem x_leafAt_in {j : Nat} (hj : j < 16) {h : mjH} (hx : h[0]? = some (.inl (10, mjXf))) (hv : h[1]? = some (.inr (.inr (.inr (2, mjLv))))) : mjDoes 1 13 [.ref 1, .int (Int32.ofNat j)] h (some (.ref (2 * j + 3))) h := by
  refine mjDoes.of2 (tab := mjTb mjT_13) (q := ((⟨"TableBench", "leafAt", "(I)LTableBench$Leaf;"⟩, prog_1_method_44_code, 2, some ((Jvm.ClassFile.FieldType.object "TableBench$Leaf"))), 0, 334, 333, 0, 1)) (st := (20, [(0, .ref 1), (1, .int (Int32.ofNat j))], [.ref (2 * j + 3)], h)) (e := (.areturn, 1, mj0)) rfl rfl (Nat.le_of_ble_eq_true rfl) ?_ rfl rfl rfl
  refine (mjTo.pure 1 (s2 := (1, [(0, .ref 1), (1, .int (Int32.ofNat j))], [.int (Int32.ofNat j)], h)) fun _ => rfl).trans ?_
  refine (mjTo.ifF (c := .lt) (x := (Int32.ofNat j)) (n := 19) rfl (cF_lt (by simp only [cj (show j < 100 by omega), mjk_0, mjk_1, mjk_2, mjk_3, mjk_4, mjk_m1, mjk_b6, mjk_b8, mjk_b15, mjk_b16, mjk_b22, mjk_b36, mjk_b48, mjk_b60, mjk_b63, mjk_z]; omega)) rfl).trans ?_
  refine (mjTo.pure 2 (s2 := (7, [(0, .ref 1), (1, .int (Int32.ofNat j))], [.int ((Int8.ofInt 16).toInt32), .int (Int32.ofNat j)], h)) fun _ => rfl).trans ?_
  refine (mjTo.icF (c := .ge) (x := (Int32.ofNat j)) (y := (Int8.ofInt 16).toInt32) (n := 19) rfl (cF_ge (by simp only [cj (show j < 100 by omega), mjk_0, mjk_1, mjk_2, mjk_3, mjk_4, mjk_m1, mjk_b6, mjk_b8, mjk_b15, mjk_b16, mjk_b22, mjk_b36, mjk_b48, mjk_b60, mjk_b63, mjk_z]; omega)) rfl).trans ?_
  refine (mjTo.pure 1 (s2 := (11, [(0, .ref 1), (1, .int (Int32.ofNat j))], [.ref 1], h)) fun _ => rfl).trans ?_
  refine (mjTo.getf rfl hx rfl).trans ?_
  refine (mjTo.pure 1 (s2 := (15, [(0, .ref 1), (1, .int (Int32.ofNat j))], [.int (Int32.ofNat j), .ref 2], h)) fun _ => rfl).trans ?_
  refine (mjTo.aald (a := 1) rfl hv (mjLv_at j hj)).trans ?_
  refine (mjTo.pure 1 (s2 := (20, [(0, .ref 1), (1, .int (Int32.ofNat j))], [.ref (2 * j + 3)], h)) fun _ => rfl).trans ?_
  exact mjTo.refl
set_option maxRecDepth 4000 in
theorem x_isLane_in {lane : Int32} (h : mjH) (h1 : 0 ≤ lane.toInt) (h2 : lane.toInt ≤ 3) : mjDoes 1 14 [.int lane] h (some (.int (Int32.ofInt 1))) h := by
  refine mjDoes.of2 (tab := mjTb mjT_14) (q := ((⟨"TableBench$Leaf", "isLane", "(I)Z"⟩, prog_4_method_2_code, 1, some (Jvm.ClassFile.FieldType.boolean)), 1, 337, 336, 0, 2)) (st := (14, [(0, .int lane)], [.int (Int32.ofInt 1)], h)) (e := (.ireturn, 1, mj0)) rfl rfl (Nat.le_of_ble_eq_true rfl) ?_ rfl rfl rfl
  refine (mjTo.pure 1 (s2 := (1, [(0, .int lane)], [.int lane], h)) fun _ => rfl).trans ?_
  refine (mjTo.ifF (c := .lt) (x := lane) (n := 13) rfl (cF_lt (by simp only [mjk_0, mjk_1, mjk_2, mjk_3, mjk_4, mjk_m1, mjk_b6, mjk_b8, mjk_b15, mjk_b16, mjk_b22, mjk_b36, mjk_b48, mjk_b60, mjk_b63, mjk_z]; omega)) rfl).trans ?_
  refine (mjTo.pure 2 (s2 := (6, [(0, .int lane)], [.int (Int32.ofInt 3), .int lane], h)) fun _ => rfl).trans ?_
  refine (mjTo.icF (c := .gt) (x := lane) (y := (Int32.ofInt 3)) (n := 13) rfl (cF_gt (by simp only [mjk_0, mjk_1, mjk_2, mjk_3, mjk_4, mjk_m1, mjk_b6, mjk_b8, mjk_b15, mjk_b16, mjk_b22, mjk_b36, mjk_b48, mjk_b60, mjk_b63, mjk_z]; omega)) rfl).trans ?_
  refine (mjTo.pure 2 (s2 := (14, [(0, .int lane)], [.int (Int32.ofInt 1)], h)) fun _ => rfl).trans ?_
  exact mjTo.refl
set_option maxRecDepth 4000 in
theorem x_isLane_out {lane : Int32} (h : mjH) (hl : lane.toInt < 0 ∨ 3 < lane.toInt) : mjDoes 1 14 [.int lane] h (some (.int (Int32.ofInt 0))) h := by
  by_cases hq : lane.toInt < 0
  · refine mjDoes.of2 (tab := mjTb mjT_14) (q := ((⟨"TableBench$Leaf", "isLane", "(I)Z"⟩, prog_4_method_2_code, 1, some (Jvm.ClassFile.FieldType.boolean)), 1, 337, 336, 0, 2)) (st := (14, [(0, .int lane)], [.int (Int32.ofInt 0)], h)) (e := (.ireturn, 1, mj0)) rfl rfl (Nat.le_of_ble_eq_true rfl) ?_ rfl rfl rfl
    refine (mjTo.pure 1 (s2 := (1, [(0, .int lane)], [.int lane], h)) fun _ => rfl).trans ?_
    refine (mjTo.ifT (c := .lt) (x := lane) (n := 13) rfl (cT_lt (by simp only [mjk_0, mjk_1, mjk_2, mjk_3, mjk_4, mjk_m1, mjk_b6, mjk_b8, mjk_b15, mjk_b16, mjk_b22, mjk_b36, mjk_b48, mjk_b60, mjk_b63, mjk_z]; omega)) rfl).trans ?_
    refine (mjTo.pure 1 (s2 := (14, [(0, .int lane)], [.int (Int32.ofInt 0)], h)) fun _ => rfl).trans ?_
    exact mjTo.refl
  · refine mjDoes.of2 (tab := mjTb mjT_14) (q := ((⟨"TableBench$Leaf", "isLane", "(I)Z"⟩, prog_4_method_2_code, 1, some (Jvm.ClassFile.FieldType.boolean)), 1, 337, 336, 0, 2)) (st := (14, [(0, .int lane)], [.int (Int32.ofInt 0)], h)) (e := (.ireturn, 1, mj0)) rfl rfl (Nat.le_of_ble_eq_true rfl) ?_ rfl rfl rfl
    refine (mjTo.pure 1 (s2 := (1, [(0, .int lane)], [.int lane], h)) fun _ => rfl).trans ?_
    refine (mjTo.ifF (c := .lt) (x := lane) (n := 13) rfl (cF_lt (by simp only [mjk_0, mjk_1, mjk_2, mjk_3, mjk_4, mjk_m1, mjk_b6, mjk_b8, mjk_b15, mjk_b16, mjk_b22, mjk_b36, mjk_b48, mjk_b60, mjk_b63, mjk_z]; omega)) rfl).trans ?_
    refine (mjTo.pure 2 (s2 := (6, [(0, .int lane)], [.int (Int32.ofInt 3), .int lane], h)) fun _ => rfl).trans ?_
    refine (mjTo.icT (c := .gt) (x := lane) (y := (Int32.ofInt 3)) (n := 13) rfl (cT_gt (by simp only [mjk_0, mjk_1, mjk_2, mjk_3, mjk_4, mjk_m1, mjk_b6, mjk_b8, mjk_b15, mjk_b16, mjk_b22, mjk_b36, mjk_b48, mjk_b60, mjk_b63, mjk_z]; omega)) rfl).trans ?_
    refine (mjTo.pure 1 (s2 := (14, [(0, .int lane)], [.int (Int32.ofInt 0)], h)) fun _ => rfl).trans ?_
    exact mjTo.refl
set_option maxRecDepth 4000 in
theorem x_nn_f {lane : Int32} {w : Int64} (h : mjH) (h1 : lane.toInt = 2) (h2 : mjCmp .le (w.toInt32 &&& (2147483647)) (2139095040) = false) : mjDoes 1 18 [.int lane, .long w] h (some (.int (Int32.ofInt 1))) h := by
  refine mjDoes.of2 (tab := mjTb mjT_18) (q := ((⟨"TableBench$Leaf", "isNoNumber", "(IJ)Z"⟩, prog_4_method_3_code, 3, some (Jvm.ClassFile.FieldType.boolean)), 1, 355, 354, 0, 2)) (st := (20, [(0, .int lane), (1, .long w)], [.int (Int32.ofInt 1)], h)) (e := (.ireturn, 1, mj0)) rfl rfl (Nat.le_of_ble_eq_true rfl) ?_ rfl rfl rfl
  refine (mjTo.pure 2 (s2 := (2, [(0, .int lane), (1, .long w)], [.int (Int32.ofInt 2), .int lane], h)) fun _ => rfl).trans ?_
  refine (mjTo.icF (c := .ne) (x := lane) (y := (Int32.ofInt 2)) (n := 21) rfl (cF_ne (by simp only [mjk_0, mjk_1, mjk_2, mjk_3, mjk_4, mjk_m1, mjk_b6, mjk_b8, mjk_b15, mjk_b16, mjk_b22, mjk_b36, mjk_b48, mjk_b60, mjk_b63, mjk_z]; omega)) rfl).trans ?_
  refine (mjTo.pure 5 (s2 := (12, [(0, .int lane), (1, .long w)], [.int (2139095040), .int (w.toInt32 &&& (2147483647))], h)) fun _ => rfl).trans ?_
  refine (mjTo.icF (c := .le) (x := (w.toInt32 &&& (2147483647))) (y := (2139095040)) (n := 19) rfl h2 rfl).trans ?_
  refine (mjTo.pure 2 (s2 := (20, [(0, .int lane), (1, .long w)], [.int (Int32.ofInt 1)], h)) fun _ => rfl).trans ?_
  exact mjTo.refl
set_option maxRecDepth 4000 in
theorem x_nn_fok {lane : Int32} {w : Int64} (h : mjH) (h1 : lane.toInt = 2) (h2 : mjCmp .le (w.toInt32 &&& (2147483647)) (2139095040) = true) : mjDoes 1 18 [.int lane, .long w] h (some (.int (Int32.ofInt 0))) h := by
  refine mjDoes.of2 (tab := mjTb mjT_18) (q := ((⟨"TableBench$Leaf", "isNoNumber", "(IJ)Z"⟩, prog_4_method_3_code, 3, some (Jvm.ClassFile.FieldType.boolean)), 1, 355, 354, 0, 2)) (st := (20, [(0, .int lane), (1, .long w)], [.int (Int32.ofInt 0)], h)) (e := (.ireturn, 1, mj0)) rfl rfl (Nat.le_of_ble_eq_true rfl) ?_ rfl rfl rfl
  refine (mjTo.pure 2 (s2 := (2, [(0, .int lane), (1, .long w)], [.int (Int32.ofInt 2), .int lane], h)) fun _ => rfl).trans ?_
  refine (mjTo.icF (c := .ne) (x := lane) (y := (Int32.ofInt 2)) (n := 21) rfl (cF_ne (by simp only [mjk_0, mjk_1, mjk_2, mjk_3, mjk_4, mjk_m1, mjk_b6, mjk_b8, mjk_b15, mjk_b16, mjk_b22, mjk_b36, mjk_b48, mjk_b60, mjk_b63, mjk_z]; omega)) rfl).trans ?_
  refine (mjTo.pure 5 (s2 := (12, [(0, .int lane), (1, .long w)], [.int (2139095040), .int (w.toInt32 &&& (2147483647))], h)) fun _ => rfl).trans ?_
  refine (mjTo.icT (c := .le) (x := (w.toInt32 &&& (2147483647))) (y := (2139095040)) (n := 19) rfl h2 rfl).trans ?_
  refine (mjTo.pure 1 (s2 := (20, [(0, .int lane), (1, .long w)], [.int (Int32.ofInt 0)], h)) fun _ => rfl).trans ?_
  exact mjTo.refl
set_option maxRecDepth 4000 in
theorem x_nn_d {lane : Int32} {w : Int64} (h : mjH) (h1 : lane.toInt = 3) (h2 : mjCmp .le (lg_cmp (w &&& (9223372036854775807)) (9218868437227405312)) 0 = false) : mjDoes 1 18 [.int lane, .long w] h (some (.int (Int32.ofInt 1))) h := by
  refine mjDoes.of2 (tab := mjTb mjT_18) (q := ((⟨"TableBench$Leaf", "isNoNumber", "(IJ)Z"⟩, prog_4_method_3_code, 3, some (Jvm.ClassFile.FieldType.boolean)), 1, 355, 354, 0, 2)) (st := (43, [(0, .int lane), (1, .long w)], [.int (Int32.ofInt 1)], h)) (e := (.ireturn, 1, mj0)) rfl rfl (Nat.le_of_ble_eq_true rfl) ?_ rfl rfl rfl
  refine (mjTo.pure 2 (s2 := (2, [(0, .int lane), (1, .long w)], [.int (Int32.ofInt 2), .int lane], h)) fun _ => rfl).trans ?_
  refine (mjTo.icT (c := .ne) (x := lane) (y := (Int32.ofInt 2)) (n := 21) rfl (cT_ne (by simp only [mjk_0, mjk_1, mjk_2, mjk_3, mjk_4, mjk_m1, mjk_b6, mjk_b8, mjk_b15, mjk_b16, mjk_b22, mjk_b36, mjk_b48, mjk_b60, mjk_b63, mjk_z]; omega)) rfl).trans ?_
  refine (mjTo.pure 2 (s2 := (23, [(0, .int lane), (1, .long w)], [.int (Int32.ofInt 3), .int lane], h)) fun _ => rfl).trans ?_
  refine (mjTo.icF (c := .ne) (x := lane) (y := (Int32.ofInt 3)) (n := 42) rfl (cF_ne (by simp only [mjk_0, mjk_1, mjk_2, mjk_3, mjk_4, mjk_m1, mjk_b6, mjk_b8, mjk_b15, mjk_b16, mjk_b22, mjk_b36, mjk_b48, mjk_b60, mjk_b63, mjk_z]; omega)) rfl).trans ?_
  refine (mjTo.pure 5 (s2 := (35, [(0, .int lane), (1, .long w)], [.int (lg_cmp (w &&& (9223372036854775807)) (9218868437227405312))], h)) fun _ => rfl).trans ?_
  refine (mjTo.ifF (c := .le) (x := (lg_cmp (w &&& (9223372036854775807)) (9218868437227405312))) (n := 42) rfl h2 rfl).trans ?_
  refine (mjTo.pure 2 (s2 := (43, [(0, .int lane), (1, .long w)], [.int (Int32.ofInt 1)], h)) fun _ => rfl).trans ?_
  exact mjTo.refl
set_option maxRecDepth 4000 in
theorem x_nn_dok {lane : Int32} {w : Int64} (h : mjH) (h1 : lane.toInt = 3) (h2 : mjCmp .le (lg_cmp (w &&& (9223372036854775807)) (9218868437227405312)) 0 = true) : mjDoes 1 18 [.int lane, .long w] h (some (.int (Int32.ofInt 0))) h := by
  refine mjDoes.of2 (tab := mjTb mjT_18) (q := ((⟨"TableBench$Leaf", "isNoNumber", "(IJ)Z"⟩, prog_4_method_3_code, 3, some (Jvm.ClassFile.FieldType.boolean)), 1, 355, 354, 0, 2)) (st := (43, [(0, .int lane), (1, .long w)], [.int (Int32.ofInt 0)], h)) (e := (.ireturn, 1, mj0)) rfl rfl (Nat.le_of_ble_eq_true rfl) ?_ rfl rfl rfl
  refine (mjTo.pure 2 (s2 := (2, [(0, .int lane), (1, .long w)], [.int (Int32.ofInt 2), .int lane], h)) fun _ => rfl).trans ?_
  refine (mjTo.icT (c := .ne) (x := lane) (y := (Int32.ofInt 2)) (n := 21) rfl (cT_ne (by simp only [mjk_0, mjk_1, mjk_2, mjk_3, mjk_4, mjk_m1, mjk_b6, mjk_b8, mjk_b15, mjk_b16, mjk_b22, mjk_b36, mjk_b48, mjk_b60, mjk_b63, mjk_z]; omega)) rfl).trans ?_
  refine (mjTo.pure 2 (s2 := (23, [(0, .int lane), (1, .long w)], [.int (Int32.ofInt 3), .int lane], h)) fun _ => rfl).trans ?_
  refine (mjTo.icF (c := .ne) (x := lane) (y := (Int32.ofInt 3)) (n := 42) rfl (cF_ne (by simp only [mjk_0, mjk_1, mjk_2, mjk_3, mjk_4, mjk_m1, mjk_b6, mjk_b8, mjk_b15, mjk_b16, mjk_b22, mjk_b36, mjk_b48, mjk_b60, mjk_b63, mjk_z]; omega)) rfl).trans ?_
  refine (mjTo.pure 5 (s2 := (35, [(0, .int lane), (1, .long w)], [.int (lg_cmp (w &&& (9223372036854775807)) (9218868437227405312))], h)) fun _ => rfl).trans ?_
  refine (mjTo.ifT (c := .le) (x := (lg_cmp (w &&& (9223372036854775807)) (9218868437227405312))) (n := 42) rfl h2 rfl).trans ?_
  refine (mjTo.pure 1 (s2 := (43, [(0, .int lane), (1, .long w)], [.int (Int32.ofInt 0)], h)) fun _ => rfl).trans ?_
  exact mjTo.refl
set_option maxRecDepth 4000 in
theorem x_nn_i {lane : Int32} {w : Int64} (h : mjH) (h1 : lane.toInt ≠ 2) (h2 : lane.toInt ≠ 3) : mjDoes 1 18 [.int lane, .long w] h (some (.int (Int32.ofInt 0))) h := by
  refine mjDoes.of2 (tab := mjTb mjT_18) (q := ((⟨"TableBench$Leaf", "isNoNumber", "(IJ)Z"⟩, prog_4_method_3_code, 3, some (Jvm.ClassFile.FieldType.boolean)), 1, 355, 354, 0, 2)) (st := (43, [(0, .int lane), (1, .long w)], [.int (Int32.ofInt 0)], h)) (e := (.ireturn, 1, mj0)) rfl rfl (Nat.le_of_ble_eq_true rfl) ?_ rfl rfl rfl
  refine (mjTo.pure 2 (s2 := (2, [(0, .int lane), (1, .long w)], [.int (Int32.ofInt 2), .int lane], h)) fun _ => rfl).trans ?_
  refine (mjTo.icT (c := .ne) (x := lane) (y := (Int32.ofInt 2)) (n := 21) rfl (cT_ne (by simp only [mjk_0, mjk_1, mjk_2, mjk_3, mjk_4, mjk_m1, mjk_b6, mjk_b8, mjk_b15, mjk_b16, mjk_b22, mjk_b36, mjk_b48, mjk_b60, mjk_b63, mjk_z]; omega)) rfl).trans ?_
  refine (mjTo.pure 2 (s2 := (23, [(0, .int lane), (1, .long w)], [.int (Int32.ofInt 3), .int lane], h)) fun _ => rfl).trans ?_
  refine (mjTo.icT (c := .ne) (x := lane) (y := (Int32.ofInt 3)) (n := 42) rfl (cT_ne (by simp only [mjk_0, mjk_1, mjk_2, mjk_3, mjk_4, mjk_m1, mjk_b6, mjk_b8, mjk_b15, mjk_b16, mjk_b22, mjk_b36, mjk_b48, mjk_b60, mjk_b63, mjk_z]; omega)) rfl).trans ?_
  refine (mjTo.pure 1 (s2 := (43, [(0, .int lane), (1, .long w)], [.int (Int32.ofInt 0)], h)) fun _ => rfl).trans ?_
  exact mjTo.refl
set_option maxRecDepth 4000 in
theorem x_isLost {a : Nat} {h : mjH} {x y : Value} (ha : h[a]? = some (.inl (2, [x, .int (-1), y]))) : mjDoes 1 19 [.ref (a + 1)] h (some (.int (Int32.ofInt 1))) h := by
  refine mjDoes.of2 (tab := mjTb mjT_19) (q := ((⟨"TableBench$Leaf", "isLost", "()Z"⟩, prog_4_method_4_code, 1, some (Jvm.ClassFile.FieldType.boolean)), 0, 363, 361, 451, 2)) (st := (12, [(0, .ref (a + 1))], [.int (Int32.ofInt 1)], h)) (e := (.ireturn, 1, mj0)) rfl rfl (Nat.le_of_ble_eq_true rfl) ?_ rfl rfl rfl
  refine (mjTo.pure 1 (s2 := (1, [(0, .ref (a + 1))], [.ref (a + 1)], h)) fun _ => rfl).trans ?_
  refine (mjTo.getf rfl ha rfl).trans ?_
  refine (mjTo.ifF (c := .ge) (x := (-1)) (n := 11) rfl (by decide) rfl).trans ?_
  refine (mjTo.pure 2 (s2 := (12, [(0, .ref (a + 1))], [.int (Int32.ofInt 1)], h)) fun _ => rfl).trans ?_
  exact mjTo.refl
set_option maxRecDepth 4000 in
theorem x_found {f : Int32} {h : mjH} {fs : List Value} (hx : h[0]? = some (.inl (10, fs))) (hfs : fs[9]? = some (.ref 254)) (ht : h[253]? = some (.inr (.inl (List.replicate 9 0)))) (hf0 : mjCmp .lt f 0 = false) (hf9 : mjCmp .ge f (Int32.ofNat (List.replicate 9 (0 : Int32)).length) = false) (hat : mjAt? (List.replicate 9 (0 : Int32)) f = some 0) (hin : mjIn f (List.replicate 9 (0 : Int32)).length = true) : mjDoes 1 15 [.ref 1, .int f] h (some (.int ((Int8.ofInt (-10)).toInt32 - f))) ((h.set 0 (.inl (10, fs.set 8 (.int f)))).set 253 (.inr (.inl ((List.replicate 9 0).set f.toNatClampNeg (0 + Int32.ofInt 1))))) := by
  have hlt : 0 < h.length := (List.getElem?_eq_some_iff.mp hx).1
  have h0b : (h.set 0 (.inl (10, fs.set 8 (.int f))))[0]? = some (.inl (10, fs.set 8 (.int f))) := List.getElem?_set_self hlt
  have h1b : (h.set 0 (.inl (10, fs.set 8 (.int f))))[253]? = some (.inr (.inl (List.replicate 9 0))) := by rw [List.getElem?_set_ne (by decide)]; exact ht
  have hfb : (fs.set 8 (.int f))[9]? = some (.ref 254) := by rw [List.getElem?_set_ne (by decide)]; exact hfs
  refine mjDoes.of2 (tab := mjTb mjT_15) (q := ((⟨"TableBench", "found", "(I)I"⟩, prog_1_method_49_code, 2, some (Jvm.ClassFile.FieldType.int)), 0, 341, 340, 1, 1)) (st := (32, [(0, .ref 1), (1, .int f)], [.int ((Int8.ofInt (-10)).toInt32 - f)], ((h.set 0 (.inl (10, fs.set 8 (.int f)))).set 253 (.inr (.inl ((List.replicate 9 0).set f.toNatClampNeg (0 + Int32.ofInt 1))))))) (e := (.ireturn, 1, mj0)) rfl rfl (Nat.le_of_ble_eq_true rfl) ?_ rfl rfl rfl
  refine (mjTo.pure 2 (s2 := (2, [(0, .ref 1), (1, .int f)], [.int f, .ref 1], h)) fun _ => rfl).trans ?_
  refine (mjTo.putf rfl hx rfl).trans ?_
  refine (mjTo.pure 1 (s2 := (6, [(0, .ref 1), (1, .int f)], [.int f], (h.set 0 (.inl (10, fs.set 8 (.int f)))))) fun _ => rfl).trans ?_
  refine (mjTo.ifF (c := .lt) (x := f) (n := 28) rfl hf0 rfl).trans ?_
  refine (mjTo.pure 2 (s2 := (11, [(0, .ref 1), (1, .int f)], [.ref 1, .int f], (h.set 0 (.inl (10, fs.set 8 (.int f)))))) fun _ => rfl).trans ?_
  refine (mjTo.getf (w := .ref 254) rfl h0b hfb).trans ?_
  refine (mjTo.leni (a := 253) rfl h1b).trans ?_
  refine (mjTo.icF (c := .ge) (x := f) (y := (Int32.ofNat (List.replicate 9 (0 : Int32)).length)) (n := 28) rfl hf9 rfl).trans ?_
  refine (mjTo.pure 1 (s2 := (19, [(0, .ref 1), (1, .int f)], [.ref 1], (h.set 0 (.inl (10, fs.set 8 (.int f)))))) fun _ => rfl).trans ?_
  refine (mjTo.getf (w := .ref 254) rfl h0b hfb).trans ?_
  refine (mjTo.pure 2 (s2 := (24, [(0, .ref 1), (1, .int f)], [.int f, .ref 254, .int f, .ref 254], (h.set 0 (.inl (10, fs.set 8 (.int f)))))) fun _ => rfl).trans ?_
  refine (mjTo.iald (a := 253) rfl h1b hat).trans ?_
  refine (mjTo.pure 2 (s2 := (27, [(0, .ref 1), (1, .int f)], [.int ((0 : Int32) + (Int32.ofInt 1)), .int f, .ref 254], (h.set 0 (.inl (10, fs.set 8 (.int f)))))) fun _ => rfl).trans ?_
  refine (mjTo.iast (a := 253) rfl h1b hin).trans ?_
  refine (mjTo.pure 3 (s2 := (32, [(0, .ref 1), (1, .int f)], [.int ((Int8.ofInt (-10)).toInt32 - f)], ((h.set 0 (.inl (10, fs.set 8 (.int f)))).set 253 (.inr (.inl ((List.replicate 9 0).set f.toNatClampNeg (0 + Int32.ofInt 1))))))) fun _ => rfl).trans ?_
  exact mjTo.refl
theorem x_found_hp {f : Int32} (hf : f = Int32.ofInt 1 ∨ f = Int32.ofInt 4) {h : mjH} {fs : List Value} (hF : mjFM h) (hx : h[0]? = some (.inl (10, fs))) (hfs : fs[9]? = some (.ref 254)) (ht : h[253]? = some (.inr (.inl (List.replicate 9 0)))) : ∃ h1, mjDoes 1 15 [.ref 1, .int f] h (some (.int ((Int8.ofInt (-10)).toInt32 - f))) h1 ∧ mjFM h1 := by
  rcases hf with rfl | rfl
  · exact ⟨_, x_found hx hfs ht (by decide) (by decide) (by decide) (by decide), (hF.set (by decide)).set (by decide)⟩
  · exact ⟨_, x_found hx hfs ht (by decide) (by decide) (by decide) (by decide), (hF.set (by decide)).set (by decide)⟩
set_option maxRecDepth 4000 in
theorem m_finds {f : Int32} {h : mjH} {fs : List Value} (hm : h[464]? = some (.inl (11, fs))) (hfs : fs[10]? = some (.ref 473)) (ht : h[472]? = some (.inr (.inl (List.replicate 9 0)))) (hat : mjAt? (List.replicate 9 (0 : Int32)) f = some 0) (hin : mjIn f (List.replicate 9 (0 : Int32)).length = true) : mjDoes 1 170 [.ref 465, .int f] h (some (.int ((Int8.ofInt (-10)).toInt32 - f))) ((h.set 464 (.inl (11, fs.set 9 (.int f)))).set 472 (.inr (.inl ((List.replicate 9 0).set f.toNatClampNeg (0 + Int32.ofInt 1))))) := by
  have hlt : 464 < h.length := (List.getElem?_eq_some_iff.mp hm).1
  have h0b : (h.set 464 (.inl (11, fs.set 9 (.int f))))[464]? = some (.inl (11, fs.set 9 (.int f))) := List.getElem?_set_self hlt
  have h1b : (h.set 464 (.inl (11, fs.set 9 (.int f))))[472]? = some (.inr (.inl (List.replicate 9 0))) := by rw [List.getElem?_set_ne (by decide)]; exact ht
  have hfb : (fs.set 9 (.int f))[10]? = some (.ref 473) := by rw [List.getElem?_set_ne (by decide)]; exact hfs
  refine mjDoes.of2 (tab := mjTb mjT_170) (q := ((⟨"TableBenchModel", "finds", "(I)I"⟩, prog_13_method_4_code, 2, some (Jvm.ClassFile.FieldType.int)), 0, 1193, 1192, 43, 13)) (st := (19, [(0, .ref 465), (1, .int f)], [.int ((Int8.ofInt (-10)).toInt32 - f)], ((h.set 464 (.inl (11, fs.set 9 (.int f)))).set 472 (.inr (.inl ((List.replicate 9 0).set f.toNatClampNeg (0 + Int32.ofInt 1))))))) (e := (.ireturn, 1, mj0)) rfl rfl (Nat.le_of_ble_eq_true rfl) ?_ rfl rfl rfl
  refine (mjTo.pure 2 (s2 := (2, [(0, .ref 465), (1, .int f)], [.int f, .ref 465], h)) fun _ => rfl).trans ?_
  refine (mjTo.putf rfl hm rfl).trans ?_
  refine (mjTo.pure 1 (s2 := (6, [(0, .ref 465), (1, .int f)], [.ref 465], (h.set 464 (.inl (11, fs.set 9 (.int f)))))) fun _ => rfl).trans ?_
  refine (mjTo.getf (w := .ref 473) rfl h0b hfb).trans ?_
  refine (mjTo.pure 2 (s2 := (11, [(0, .ref 465), (1, .int f)], [.int f, .ref 473, .int f, .ref 473], (h.set 464 (.inl (11, fs.set 9 (.int f)))))) fun _ => rfl).trans ?_
  refine (mjTo.iald (a := 472) rfl h1b hat).trans ?_
  refine (mjTo.pure 2 (s2 := (14, [(0, .ref 465), (1, .int f)], [.int ((0 : Int32) + (Int32.ofInt 1)), .int f, .ref 473], (h.set 464 (.inl (11, fs.set 9 (.int f)))))) fun _ => rfl).trans ?_
  refine (mjTo.iast (a := 472) rfl h1b hin).trans ?_
  refine (mjTo.pure 3 (s2 := (19, [(0, .ref 465), (1, .int f)], [.int ((Int8.ofInt (-10)).toInt32 - f)], ((h.set 464 (.inl (11, fs.set 9 (.int f)))).set 472 (.inr (.inl ((List.replicate 9 0).set f.toNatClampNeg (0 + Int32.ofInt 1))))))) fun _ => rfl).trans ?_
  exact mjTo.refl
theorem m_finds_hp {f : Int32} (hf : f = Int32.ofInt 1 ∨ f = Int32.ofInt 4) {h : mjH} {fs : List Value} (hm : h[464]? = some (.inl (11, fs))) (hfs : fs[10]? = some (.ref 473)) (ht : h[472]? = some (.inr (.inl (List.replicate 9 0)))) : ∃ h1, mjDoes 1 170 [.ref 465, .int f] h (some (.int ((Int8.ofInt (-10)).toInt32 - f))) h1 := by
  rcases hf with rfl | rfl
  · exact ⟨_, m_finds hm hfs ht (by decide) (by decide)⟩
  · exact ⟨_, m_finds hm hfs ht (by decide) (by decide)⟩
theorem mjFM.m {h : mjH} (hF : mjFM h) : h[464]? = some (.inl (11, mjMf)) := (hF 464 (Nat.le_refl _)).trans mjHP_m
theorem mjFM.found {h : mjH} (hF : mjFM h) : h[472]? = some (.inr (.inl (List.replicate 9 0))) := (hF 472 (by decide)).trans mjHP_472
theorem mjFM.size {h : mjH} (hF : mjFM h) : h[465]? = some (.inr (.inl (List.replicate 16 (-1)))) := (hF 465 (by decide)).trans mjHP_465
set_option maxRecDepth 4000 in
theorem m_isLeaf_out {l : Int32} (h : mjH) (hl : l.toInt < 0 ∨ 15 < l.toInt) : mjDoes 2 168 [.int l] h (some (.int (Int32.ofInt 0))) h := by
  refine mjDoes.of2 (tab := mjTb mjT_168) (q := ((⟨"TableBenchModel", "isLeaf", "(I)Z"⟩, prog_13_method_6_code, 1, some (Jvm.ClassFile.FieldType.boolean)), 1, 1186, 1185, 0, 13)) (st := (7, [(0, .int l)], [.int (Int32.ofInt 0)], h)) (e := (.ireturn, 1, mj0)) rfl rfl (Nat.le_of_ble_eq_true rfl) ?_ rfl rfl rfl
  refine (mjTo.pure 3 (s2 := (4, [(0, .int l)], [.int ((Int8.ofInt 15).toInt32), .int (Int32.ofInt 0), .int l], h)) fun _ => rfl).trans ?_
  refine (mjTo.stat (as := [.int l, .int (Int32.ofInt 0), .int ((Int8.ofInt 15).toInt32)]) (r := []) (v := some (.int (Int32.ofInt 0))) (h' := h) rfl rfl (Nat.le_of_ble_eq_true rfl) ((m_in_out h (fun q => by have h3 := Int32.le_iff_toInt_le.mp q.1; have h4 := Int32.le_iff_toInt_le.mp q.2; simp only [mjk_0, mjk_1, mjk_2, mjk_3, mjk_4, mjk_m1, mjk_b6, mjk_b8, mjk_b15, mjk_b16, mjk_b22, mjk_b36, mjk_b48, mjk_b60, mjk_b63, mjk_z] at h3 h4; omega)).up (by decide))).trans ?_
  exact mjTo.refl
set_option maxRecDepth 4000 in
theorem m_isLeaf_in {l : Int32} (h : mjH) (h1 : 0 ≤ l.toInt) (h2 : l.toInt ≤ 15) : mjDoes 2 168 [.int l] h (some (.int (Int32.ofInt 1))) h := by
  refine mjDoes.of2 (tab := mjTb mjT_168) (q := ((⟨"TableBenchModel", "isLeaf", "(I)Z"⟩, prog_13_method_6_code, 1, some (Jvm.ClassFile.FieldType.boolean)), 1, 1186, 1185, 0, 13)) (st := (7, [(0, .int l)], [.int (Int32.ofInt 1)], h)) (e := (.ireturn, 1, mj0)) rfl rfl (Nat.le_of_ble_eq_true rfl) ?_ rfl rfl rfl
  refine (mjTo.pure 3 (s2 := (4, [(0, .int l)], [.int ((Int8.ofInt 15).toInt32), .int (Int32.ofInt 0), .int l], h)) fun _ => rfl).trans ?_
  refine (mjTo.stat (as := [.int l, .int (Int32.ofInt 0), .int ((Int8.ofInt 15).toInt32)]) (r := []) (v := some (.int (Int32.ofInt 1))) (h' := h) rfl rfl (Nat.le_of_ble_eq_true rfl) ((m_in_ok h (Int32.le_iff_toInt_le.mpr (by simp only [mjk_0, mjk_1, mjk_2, mjk_3, mjk_4, mjk_m1, mjk_b6, mjk_b8, mjk_b15, mjk_b16, mjk_b22, mjk_b36, mjk_b48, mjk_b60, mjk_b63, mjk_z]; omega)) (Int32.le_iff_toInt_le.mpr (by simp only [mjk_0, mjk_1, mjk_2, mjk_3, mjk_4, mjk_m1, mjk_b6, mjk_b8, mjk_b15, mjk_b16, mjk_b22, mjk_b36, mjk_b48, mjk_b60, mjk_b63, mjk_z]; omega))).up (by decide))).trans ?_
  exact mjTo.refl
theorem mj_add0 (x : Int32) : x + Int32.ofInt 0 = x := by rw [show Int32.ofInt 0 = 0 from by decide]; exact Int32.add_zero x
theorem mjX_told (x : Value) : (mjXf.set 7 x)[9]? = some (.ref 254) := rfl
set_option maxRecDepth 4000 in
theorem x_foundAt {pl : Int32} {h : mjH} (hF : mjFM h) (hx : h[0]? = some (.inl (10, mjXf))) (ht : h[253]? = some (.inr (.inl (List.replicate 9 0)))) : ∃ h1, mjDoes 2 28 [.ref 1, .int (Int32.ofInt 1), .int pl] h (some (.int ((Int8.ofInt (-10)).toInt32 - Int32.ofInt 1))) h1 ∧ mjFM h1 := by
  have hlt : 0 < h.length := (List.getElem?_eq_some_iff.mp hx).1
  have h0b : (h.set 0 (.inl (10, mjXf.set 7 (.int pl))))[0]? = some (.inl (10, mjXf.set 7 (.int pl))) := List.getElem?_set_self hlt
  obtain ⟨h1, hc, hF1⟩ := x_found_hp (f := Int32.ofInt 1) (Or.inl rfl) (h := (h.set 0 (.inl (10, mjXf.set 7 (.int pl))))) (hF.set (by decide)) h0b (mjX_told _) (by rw [List.getElem?_set_ne (by decide)]; exact ht)
  refine ⟨h1, ?_, hF1⟩
  refine mjDoes.of2 (tab := mjTb mjT_28) (q := ((⟨"TableBench", "foundAt", "(II)I"⟩, prog_1_method_50_code, 3, some (Jvm.ClassFile.FieldType.int)), 0, 402, 401, 4, 1)) (st := (10, [(0, .ref 1), (1, .int (Int32.ofInt 1)), (2, .int pl)], [.int ((Int8.ofInt (-10)).toInt32 - Int32.ofInt 1)], h1)) (e := (.ireturn, 1, mj0)) rfl rfl (Nat.le_of_ble_eq_true rfl) ?_ rfl rfl rfl
  refine (mjTo.pure 2 (s2 := (2, [(0, .ref 1), (1, .int (Int32.ofInt 1)), (2, .int pl)], [.int pl, .ref 1], h)) fun _ => rfl).trans ?_
  refine (mjTo.putf rfl hx rfl).trans ?_
  refine (mjTo.pure 2 (s2 := (7, [(0, .ref 1), (1, .int (Int32.ofInt 1)), (2, .int pl)], [.int (Int32.ofInt 1), .ref 1], (h.set 0 (.inl (10, mjXf.set 7 (.int pl)))))) fun _ => rfl).trans ?_
  refine (mjTo.virt (as := [.int (Int32.ofInt 1)]) (r := []) (v := some (.int ((Int8.ofInt (-10)).toInt32 - Int32.ofInt 1))) (h' := h1) rfl rfl h0b (Nat.le_of_ble_eq_true rfl) (hc.up (by decide))).trans ?_
  exact mjTo.refl
set_option maxRecDepth 4000 in
theorem x_begin_loop {a w : Nat} {lane n : Int32} {h : mjH} {y0 y1 : Value} (hA : h[a]? = some (.inl (2, [y0, y1, .ref (w + 1)]))) (hW : h[w]? = some (.inr (.inr (.inl (List.replicate 8 0))))) : ∀ m k : Nat, k + m = 8 → mjTo 1 4 none (mjTb mjT_16) (17, [(3, .int (Int32.ofNat k)), (0, .ref (a + 1)), (1, .int lane), (2, .int n)], [], h) (36, [(3, .int (Int32.ofNat 8)), (0, .ref (a + 1)), (1, .int lane), (2, .int n)], [], h) := by
  intro m
  induction m with
  | zero =>
    intro k hk
    have hk2 : k = 8 := by omega
    subst hk2
    refine (mjTo.pure 2 (s2 := (20, [(3, .int (Int32.ofNat 8)), (0, .ref (a + 1)), (1, .int lane), (2, .int n)], [.int ((Int8.ofInt 8).toInt32), .int (Int32.ofNat 8)], h)) fun _ => rfl).trans ?_
    refine (mjTo.icT (c := .ge) (x := (Int32.ofNat 8)) (y := (Int8.ofInt 8).toInt32) (n := 36) rfl (by decide) rfl).trans ?_
    exact mjTo.refl
  | succ m ih =>
    intro k hk
    have hkl : k < 8 := by omega
    refine (mjTo.pure 2 (s2 := (20, [(3, .int (Int32.ofNat k)), (0, .ref (a + 1)), (1, .int lane), (2, .int n)], [.int ((Int8.ofInt 8).toInt32), .int (Int32.ofNat k)], h)) fun _ => rfl).trans ?_
    refine (mjTo.icF (c := .ge) (x := (Int32.ofNat k)) (y := (Int8.ofInt 8).toInt32) (n := 36) rfl (cF_ge (by simp only [cj (show k < 100 by omega), mjk_0, mjk_1, mjk_2, mjk_3, mjk_4, mjk_m1, mjk_b6, mjk_b8, mjk_b15, mjk_b16, mjk_b22, mjk_b36, mjk_b48, mjk_b60, mjk_b63, mjk_z]; omega)) rfl).trans ?_
    refine (mjTo.pure 1 (s2 := (24, [(3, .int (Int32.ofNat k)), (0, .ref (a + 1)), (1, .int lane), (2, .int n)], [.ref (a + 1)], h)) fun _ => rfl).trans ?_
    refine (mjTo.getf rfl hA rfl).trans ?_
    refine (mjTo.pure 2 (s2 := (29, [(3, .int (Int32.ofNat k)), (0, .ref (a + 1)), (1, .int lane), (2, .int n)], [.long (Int64.ofNat 0), .int (Int32.ofNat k), .ref (w + 1)], h)) fun _ => rfl).trans ?_
    refine (mjTo.last0 (a := w) rfl hW (mjIn_nat hkl (by decide)) rfl).trans ?_
    refine (mjTo.pure 2 (s2 := (17, [(3, .int ((Int32.ofNat k) + Int32.ofInt 1)), (0, .ref (a + 1)), (1, .int lane), (2, .int n)], [], h)) fun _ => rfl).trans ?_
    rw [mj_inc k]
    exact ih (k + 1) (by omega)
set_option maxRecDepth 4000 in
theorem x_begin {a w : Nat} {lane n : Int32} {h : mjH} {x0 x1 : Value} (ha : h[a]? = some (.inl (2, [x0, x1, .ref (w + 1)]))) (hw : h[w]? = some (.inr (.inr (.inl (List.replicate 8 0))))) (hne : a ≠ w) : mjDoes 2 16 [.ref (a + 1), .int lane, .int n] h none ((h.set a (.inl (2, [.int lane, x1, .ref (w + 1)]))).set a (.inl (2, [.int lane, .int (if (Int8.ofInt 8).toInt32 < n then (Int8.ofInt 8).toInt32 else n), .ref (w + 1)]))) := by
  have hlt : a < h.length := (List.getElem?_eq_some_iff.mp ha).1
  have h1a : (h.set a (.inl (2, [.int lane, x1, .ref (w + 1)])))[a]? = some (.inl (2, [.int lane, x1, .ref (w + 1)])) := List.getElem?_set_self hlt
  have h2a : ((h.set a (.inl (2, [.int lane, x1, .ref (w + 1)]))).set a (.inl (2, [.int lane, .int (if (Int8.ofInt 8).toInt32 < n then (Int8.ofInt 8).toInt32 else n), .ref (w + 1)])))[a]? = some (.inl (2, [.int lane, .int (if (Int8.ofInt 8).toInt32 < n then (Int8.ofInt 8).toInt32 else n), .ref (w + 1)])) := List.getElem?_set_self (by rw [List.length_set]; exact hlt)
  have h2w : ((h.set a (.inl (2, [.int lane, x1, .ref (w + 1)]))).set a (.inl (2, [.int lane, .int (if (Int8.ofInt 8).toInt32 < n then (Int8.ofInt 8).toInt32 else n), .ref (w + 1)])))[w]? = some (.inr (.inr (.inl (List.replicate 8 0)))) := by rw [List.getElem?_set_ne hne, List.getElem?_set_ne hne]; exact hw
  refine mjDoes.of2 (tab := mjTb mjT_16) (q := ((⟨"TableBench$Leaf", "begin", "(II)V"⟩, prog_4_method_7_code, 4, none), 0, 345, 343, 433, 2)) (st := (36, [(3, .int (Int32.ofNat 8)), (0, .ref (a + 1)), (1, .int lane), (2, .int n)], [], ((h.set a (.inl (2, [.int lane, x1, .ref (w + 1)]))).set a (.inl (2, [.int lane, .int (if (Int8.ofInt 8).toInt32 < n then (Int8.ofInt 8).toInt32 else n), .ref (w + 1)]))))) (e := (.return_, 1, mj0)) rfl rfl (Nat.le_of_ble_eq_true rfl) ?_ rfl rfl rfl
  refine (mjTo.pure 2 (s2 := (2, [(0, .ref (a + 1)), (1, .int lane), (2, .int n)], [.int lane, .ref (a + 1)], h)) fun _ => rfl).trans ?_
  refine (mjTo.putf rfl ha rfl).trans ?_
  refine (mjTo.pure 4 (s2 := (12, [(0, .ref (a + 1)), (1, .int lane), (2, .int n)], [.int (if (Int8.ofInt 8).toInt32 < n then (Int8.ofInt 8).toInt32 else n), .ref (a + 1)], (h.set a (.inl (2, [.int lane, x1, .ref (w + 1)]))))) fun _ => rfl).trans ?_
  refine (mjTo.putf rfl h1a rfl).trans ?_
  refine (mjTo.pure 2 (s2 := (17, [(3, .int (Int32.ofInt 0)), (0, .ref (a + 1)), (1, .int lane), (2, .int n)], [], ((h.set a (.inl (2, [.int lane, x1, .ref (w + 1)]))).set a (.inl (2, [.int lane, .int (if (Int8.ofInt 8).toInt32 < n then (Int8.ofInt 8).toInt32 else n), .ref (w + 1)]))))) fun _ => rfl).trans ?_
  exact x_begin_loop h2a h2w 8 0 rfl
set_option maxRecDepth 4000 in
theorem x_leaf_out {l lane n : Int32} (hl : l.toInt < 0 ∨ 15 < l.toInt) : mjDoes 2 12 [.ref 1, .int l, .int lane, .int n] mjHP (some (.int ((Int8.ofInt (-101)).toInt32))) mjHP := by
  refine mjDoes.of2 (tab := mjTb mjT_12) (q := ((⟨"TableBench", "leaf", "(III)I"⟩, prog_1_method_2_code, 5, some (Jvm.ClassFile.FieldType.int)), 0, 330, 328, 418, 1)) (st := (14, [(4, .null), (0, .ref 1), (1, .int l), (2, .int lane), (3, .int n)], [.int ((Int8.ofInt (-101)).toInt32)], mjHP)) (e := (.ireturn, 1, mj0)) rfl rfl (Nat.le_of_ble_eq_true rfl) ?_ rfl rfl rfl
  refine (mjTo.pure 2 (s2 := (2, [(0, .ref 1), (1, .int l), (2, .int lane), (3, .int n)], [.int l, .ref 1], mjHP)) fun _ => rfl).trans ?_
  refine (mjTo.virt (as := [.int l]) (r := []) (v := some (.null)) (h' := mjHP) rfl rfl mjHP_0 (Nat.le_of_ble_eq_true rfl) ((x_leafAt_out mjHP hl).up (by decide))).trans ?_
  refine (mjTo.pure 4 (s2 := (14, [(4, .null), (0, .ref 1), (1, .int l), (2, .int lane), (3, .int n)], [.int ((Int8.ofInt (-101)).toInt32)], mjHP)) fun _ => rfl).trans ?_
  exact mjTo.refl
set_option maxRecDepth 4000 in
theorem x_leaf_lane {j : Nat} {lane n : Int32} (hj : j < 16) (hl : lane.toInt < 0 ∨ 3 < lane.toInt) : mjDoes 2 12 [.ref 1, .int (Int32.ofNat j), .int lane, .int n] mjHP (some (.int ((Int8.ofInt (-102)).toInt32))) mjHP := by
  refine mjDoes.of2 (tab := mjTb mjT_12) (q := ((⟨"TableBench", "leaf", "(III)I"⟩, prog_1_method_2_code, 5, some (Jvm.ClassFile.FieldType.int)), 0, 330, 328, 418, 1)) (st := (30, [(4, .ref (2 * j + 3)), (0, .ref 1), (1, .int (Int32.ofNat j)), (2, .int lane), (3, .int n)], [.int ((Int8.ofInt (-102)).toInt32)], mjHP)) (e := (.ireturn, 1, mj0)) rfl rfl (Nat.le_of_ble_eq_true rfl) ?_ rfl rfl rfl
  refine (mjTo.pure 2 (s2 := (2, [(0, .ref 1), (1, .int (Int32.ofNat j)), (2, .int lane), (3, .int n)], [.int (Int32.ofNat j), .ref 1], mjHP)) fun _ => rfl).trans ?_
  refine (mjTo.virt (as := [.int (Int32.ofNat j)]) (r := []) (v := some (.ref (2 * j + 3))) (h' := mjHP) rfl rfl mjHP_0 (Nat.le_of_ble_eq_true rfl) ((x_leafAt_in hj mjHP_0 mjHP_1).up (by decide))).trans ?_
  refine (mjTo.pure 4 (s2 := (16, [(4, .ref (2 * j + 3)), (0, .ref 1), (1, .int (Int32.ofNat j)), (2, .int lane), (3, .int n)], [.int lane], mjHP)) fun _ => rfl).trans ?_
  refine (mjTo.stat (as := [.int lane]) (r := []) (v := some (.int (Int32.ofInt 0))) (h' := mjHP) rfl rfl (Nat.le_of_ble_eq_true rfl) ((x_isLane_out mjHP hl).up (by decide))).trans ?_
  refine (mjTo.ifT (c := .eq) (x := (Int32.ofInt 0)) (n := 28) rfl (by decide) rfl).trans ?_
  refine (mjTo.pure 1 (s2 := (30, [(4, .ref (2 * j + 3)), (0, .ref 1), (1, .int (Int32.ofNat j)), (2, .int lane), (3, .int n)], [.int ((Int8.ofInt (-102)).toInt32)], mjHP)) fun _ => rfl).trans ?_
  exact mjTo.refl
set_option maxRecDepth 4000 in
theorem x_leaf_big {j : Nat} {lane n : Int32} (hj : j < 16) (h1 : 0 ≤ lane.toInt) (h2 : lane.toInt ≤ 3) (h3 : 8 < n.toInt) : mjDoes 2 12 [.ref 1, .int (Int32.ofNat j), .int lane, .int n] mjHP (some (.int ((Int8.ofInt (-102)).toInt32))) mjHP := by
  refine mjDoes.of2 (tab := mjTb mjT_12) (q := ((⟨"TableBench", "leaf", "(III)I"⟩, prog_1_method_2_code, 5, some (Jvm.ClassFile.FieldType.int)), 0, 330, 328, 418, 1)) (st := (30, [(4, .ref (2 * j + 3)), (0, .ref 1), (1, .int (Int32.ofNat j)), (2, .int lane), (3, .int n)], [.int ((Int8.ofInt (-102)).toInt32)], mjHP)) (e := (.ireturn, 1, mj0)) rfl rfl (Nat.le_of_ble_eq_true rfl) ?_ rfl rfl rfl
  refine (mjTo.pure 2 (s2 := (2, [(0, .ref 1), (1, .int (Int32.ofNat j)), (2, .int lane), (3, .int n)], [.int (Int32.ofNat j), .ref 1], mjHP)) fun _ => rfl).trans ?_
  refine (mjTo.virt (as := [.int (Int32.ofNat j)]) (r := []) (v := some (.ref (2 * j + 3))) (h' := mjHP) rfl rfl mjHP_0 (Nat.le_of_ble_eq_true rfl) ((x_leafAt_in hj mjHP_0 mjHP_1).up (by decide))).trans ?_
  refine (mjTo.pure 4 (s2 := (16, [(4, .ref (2 * j + 3)), (0, .ref 1), (1, .int (Int32.ofNat j)), (2, .int lane), (3, .int n)], [.int lane], mjHP)) fun _ => rfl).trans ?_
  refine (mjTo.stat (as := [.int lane]) (r := []) (v := some (.int (Int32.ofInt 1))) (h' := mjHP) rfl rfl (Nat.le_of_ble_eq_true rfl) ((x_isLane_in mjHP h1 h2).up (by decide))).trans ?_
  refine (mjTo.ifF (c := .eq) (x := (Int32.ofInt 1)) (n := 28) rfl (by decide) rfl).trans ?_
  refine (mjTo.pure 2 (s2 := (25, [(4, .ref (2 * j + 3)), (0, .ref 1), (1, .int (Int32.ofNat j)), (2, .int lane), (3, .int n)], [.int ((Int8.ofInt 8).toInt32), .int n], mjHP)) fun _ => rfl).trans ?_
  refine (mjTo.icF (c := .le) (x := n) (y := (Int8.ofInt 8).toInt32) (n := 31) rfl (cF_le (by simp only [mjk_0, mjk_1, mjk_2, mjk_3, mjk_4, mjk_m1, mjk_b6, mjk_b8, mjk_b15, mjk_b16, mjk_b22, mjk_b36, mjk_b48, mjk_b60, mjk_b63, mjk_z]; omega)) rfl).trans ?_
  refine (mjTo.pure 1 (s2 := (30, [(4, .ref (2 * j + 3)), (0, .ref 1), (1, .int (Int32.ofNat j)), (2, .int lane), (3, .int n)], [.int ((Int8.ofInt (-102)).toInt32)], mjHP)) fun _ => rfl).trans ?_
  exact mjTo.refl
set_option maxRecDepth 4000 in
theorem x_leaf_size {j : Nat} {lane n : Int32} (hj : j < 16) (h1 : 0 ≤ lane.toInt) (h2 : lane.toInt ≤ 3) (h3 : n.toInt < 0) : ∃ h1, mjDoes 2 12 [.ref 1, .int (Int32.ofNat j), .int lane, .int n] mjHP (some (.int ((Int8.ofInt (-10)).toInt32 - Int32.ofInt 4))) h1 ∧ mjFM h1 := by
  obtain ⟨hh, hc, hF1⟩ := x_found_hp (f := Int32.ofInt 4) (Or.inr rfl) mjFM.hp mjHP_0 rfl mjHP_told
  refine ⟨hh, ?_, hF1⟩
  refine mjDoes.of2 (tab := mjTb mjT_12) (q := ((⟨"TableBench", "leaf", "(III)I"⟩, prog_1_method_2_code, 5, some (Jvm.ClassFile.FieldType.int)), 0, 330, 328, 418, 1)) (st := (40, [(4, .ref (2 * j + 3)), (0, .ref 1), (1, .int (Int32.ofNat j)), (2, .int lane), (3, .int n)], [.int ((Int8.ofInt (-10)).toInt32 - Int32.ofInt 4)], hh)) (e := (.ireturn, 1, mj0)) rfl rfl (Nat.le_of_ble_eq_true rfl) ?_ rfl rfl rfl
  refine (mjTo.pure 2 (s2 := (2, [(0, .ref 1), (1, .int (Int32.ofNat j)), (2, .int lane), (3, .int n)], [.int (Int32.ofNat j), .ref 1], mjHP)) fun _ => rfl).trans ?_
  refine (mjTo.virt (as := [.int (Int32.ofNat j)]) (r := []) (v := some (.ref (2 * j + 3))) (h' := mjHP) rfl rfl mjHP_0 (Nat.le_of_ble_eq_true rfl) ((x_leafAt_in hj mjHP_0 mjHP_1).up (by decide))).trans ?_
  refine (mjTo.pure 4 (s2 := (16, [(4, .ref (2 * j + 3)), (0, .ref 1), (1, .int (Int32.ofNat j)), (2, .int lane), (3, .int n)], [.int lane], mjHP)) fun _ => rfl).trans ?_
  refine (mjTo.stat (as := [.int lane]) (r := []) (v := some (.int (Int32.ofInt 1))) (h' := mjHP) rfl rfl (Nat.le_of_ble_eq_true rfl) ((x_isLane_in mjHP h1 h2).up (by decide))).trans ?_
  refine (mjTo.ifF (c := .eq) (x := (Int32.ofInt 1)) (n := 28) rfl (by decide) rfl).trans ?_
  refine (mjTo.pure 2 (s2 := (25, [(4, .ref (2 * j + 3)), (0, .ref 1), (1, .int (Int32.ofNat j)), (2, .int lane), (3, .int n)], [.int ((Int8.ofInt 8).toInt32), .int n], mjHP)) fun _ => rfl).trans ?_
  refine (mjTo.icT (c := .le) (x := n) (y := (Int8.ofInt 8).toInt32) (n := 31) rfl (cT_le (by simp only [mjk_0, mjk_1, mjk_2, mjk_3, mjk_4, mjk_m1, mjk_b6, mjk_b8, mjk_b15, mjk_b16, mjk_b22, mjk_b36, mjk_b48, mjk_b60, mjk_b63, mjk_z]; omega)) rfl).trans ?_
  refine (mjTo.pure 1 (s2 := (32, [(4, .ref (2 * j + 3)), (0, .ref 1), (1, .int (Int32.ofNat j)), (2, .int lane), (3, .int n)], [.int n], mjHP)) fun _ => rfl).trans ?_
  refine (mjTo.ifF (c := .ge) (x := n) (n := 41) rfl (cF_ge (by simp only [mjk_0, mjk_1, mjk_2, mjk_3, mjk_4, mjk_m1, mjk_b6, mjk_b8, mjk_b15, mjk_b16, mjk_b22, mjk_b36, mjk_b48, mjk_b60, mjk_b63, mjk_z]; omega)) rfl).trans ?_
  refine (mjTo.pure 2 (s2 := (37, [(4, .ref (2 * j + 3)), (0, .ref 1), (1, .int (Int32.ofNat j)), (2, .int lane), (3, .int n)], [.int (Int32.ofInt 4), .ref 1], mjHP)) fun _ => rfl).trans ?_
  refine (mjTo.virt (as := [.int (Int32.ofInt 4)]) (r := []) (v := some (.int ((Int8.ofInt (-10)).toInt32 - Int32.ofInt 4))) (h' := hh) rfl rfl mjHP_0 (Nat.le_of_ble_eq_true rfl) (hc.up (by decide))).trans ?_
  exact mjTo.refl
set_option maxRecDepth 4000 in
theorem x_leaf_ok {j : Nat} {lane n : Int32} (hj : j < 16) (h1 : 0 ≤ lane.toInt) (h2 : lane.toInt ≤ 3) (h3 : 0 ≤ n.toInt) (h4 : n.toInt ≤ 8) : ∃ h1, mjDoes 3 12 [.ref 1, .int (Int32.ofNat j), .int lane, .int n] mjHP (some (.int n)) h1 ∧ mjFM h1 := by
  refine ⟨((mjHP.set (2 * j + 2) (.inl (2, [.int lane, .int (-1), .ref (2 * j + 3 + 1)]))).set (2 * j + 2) (.inl (2, [.int lane, .int (if (Int8.ofInt 8).toInt32 < n then (Int8.ofInt 8).toInt32 else n), .ref (2 * j + 3 + 1)]))), ?_, (mjFM.hp.set (by omega)).set (by omega)⟩
  refine mjDoes.of2 (tab := mjTb mjT_12) (q := ((⟨"TableBench", "leaf", "(III)I"⟩, prog_1_method_2_code, 5, some (Jvm.ClassFile.FieldType.int)), 0, 330, 328, 418, 1)) (st := (49, [(4, .ref (2 * j + 3)), (0, .ref 1), (1, .int (Int32.ofNat j)), (2, .int lane), (3, .int n)], [.int n], ((mjHP.set (2 * j + 2) (.inl (2, [.int lane, .int (-1), .ref (2 * j + 3 + 1)]))).set (2 * j + 2) (.inl (2, [.int lane, .int (if (Int8.ofInt 8).toInt32 < n then (Int8.ofInt 8).toInt32 else n), .ref (2 * j + 3 + 1)]))))) (e := (.ireturn, 1, mj0)) rfl rfl (Nat.le_of_ble_eq_true rfl) ?_ rfl rfl rfl
  refine (mjTo.pure 2 (s2 := (2, [(0, .ref 1), (1, .int (Int32.ofNat j)), (2, .int lane), (3, .int n)], [.int (Int32.ofNat j), .ref 1], mjHP)) fun _ => rfl).trans ?_
  refine (mjTo.virt (as := [.int (Int32.ofNat j)]) (r := []) (v := some (.ref (2 * j + 3))) (h' := mjHP) rfl rfl mjHP_0 (Nat.le_of_ble_eq_true rfl) ((x_leafAt_in hj mjHP_0 mjHP_1).up (by decide))).trans ?_
  refine (mjTo.pure 4 (s2 := (16, [(4, .ref (2 * j + 3)), (0, .ref 1), (1, .int (Int32.ofNat j)), (2, .int lane), (3, .int n)], [.int lane], mjHP)) fun _ => rfl).trans ?_
  refine (mjTo.stat (as := [.int lane]) (r := []) (v := some (.int (Int32.ofInt 1))) (h' := mjHP) rfl rfl (Nat.le_of_ble_eq_true rfl) ((x_isLane_in mjHP h1 h2).up (by decide))).trans ?_
  refine (mjTo.ifF (c := .eq) (x := (Int32.ofInt 1)) (n := 28) rfl (by decide) rfl).trans ?_
  refine (mjTo.pure 2 (s2 := (25, [(4, .ref (2 * j + 3)), (0, .ref 1), (1, .int (Int32.ofNat j)), (2, .int lane), (3, .int n)], [.int ((Int8.ofInt 8).toInt32), .int n], mjHP)) fun _ => rfl).trans ?_
  refine (mjTo.icT (c := .le) (x := n) (y := (Int8.ofInt 8).toInt32) (n := 31) rfl (cT_le (by simp only [mjk_0, mjk_1, mjk_2, mjk_3, mjk_4, mjk_m1, mjk_b6, mjk_b8, mjk_b15, mjk_b16, mjk_b22, mjk_b36, mjk_b48, mjk_b60, mjk_b63, mjk_z]; omega)) rfl).trans ?_
  refine (mjTo.pure 1 (s2 := (32, [(4, .ref (2 * j + 3)), (0, .ref 1), (1, .int (Int32.ofNat j)), (2, .int lane), (3, .int n)], [.int n], mjHP)) fun _ => rfl).trans ?_
  refine (mjTo.ifT (c := .ge) (x := n) (n := 41) rfl (cT_ge (by simp only [mjk_0, mjk_1, mjk_2, mjk_3, mjk_4, mjk_m1, mjk_b6, mjk_b8, mjk_b15, mjk_b16, mjk_b22, mjk_b36, mjk_b48, mjk_b60, mjk_b63, mjk_z]; omega)) rfl).trans ?_
  refine (mjTo.pure 3 (s2 := (45, [(4, .ref (2 * j + 3)), (0, .ref 1), (1, .int (Int32.ofNat j)), (2, .int lane), (3, .int n)], [.int n, .int lane, .ref (2 * j + 3)], mjHP)) fun _ => rfl).trans ?_
  refine (mjTo.virt (as := [.int lane, .int n]) (r := []) (v := none) (h' := ((mjHP.set (2 * j + 2) (.inl (2, [.int lane, .int (-1), .ref (2 * j + 3 + 1)]))).set (2 * j + 2) (.inl (2, [.int lane, .int (if (Int8.ofInt 8).toInt32 < n then (Int8.ofInt 8).toInt32 else n), .ref (2 * j + 3 + 1)])))) rfl rfl (mjHP_lf hj) (Nat.le_of_ble_eq_true rfl) ((x_begin (a := 2 * j + 2) (w := 2 * j + 3) (mjHP_lf hj) (mjHP_lw hj) (by omega)).up (by decide))).trans ?_
  refine (mjTo.pure 1 (s2 := (49, [(4, .ref (2 * j + 3)), (0, .ref 1), (1, .int (Int32.ofNat j)), (2, .int lane), (3, .int n)], [.int n], ((mjHP.set (2 * j + 2) (.inl (2, [.int lane, .int (-1), .ref (2 * j + 3 + 1)]))).set (2 * j + 2) (.inl (2, [.int lane, .int (if (Int8.ofInt 8).toInt32 < n then (Int8.ofInt 8).toInt32 else n), .ref (2 * j + 3 + 1)]))))) fun _ => rfl).trans ?_
  exact mjTo.refl
set_option maxRecDepth 4000 in
theorem x_lose_out {l : Int32} (hl : l.toInt < 0 ∨ 15 < l.toInt) : mjDoes 2 22 [.ref 1, .int l] mjHP (some (.int ((Int8.ofInt (-101)).toInt32))) mjHP := by
  refine mjDoes.of2 (tab := mjTb mjT_22) (q := ((⟨"TableBench", "lose", "(I)I"⟩, prog_1_method_4_code, 4, some (Jvm.ClassFile.FieldType.int)), 0, 376, 374, 464, 1)) (st := (12, [(2, .null), (0, .ref 1), (1, .int l)], [.int ((Int8.ofInt (-101)).toInt32)], mjHP)) (e := (.ireturn, 1, mj0)) rfl rfl (Nat.le_of_ble_eq_true rfl) ?_ rfl rfl rfl
  refine (mjTo.pure 2 (s2 := (2, [(0, .ref 1), (1, .int l)], [.int l, .ref 1], mjHP)) fun _ => rfl).trans ?_
  refine (mjTo.virt (as := [.int l]) (r := []) (v := some (.null)) (h' := mjHP) rfl rfl mjHP_0 (Nat.le_of_ble_eq_true rfl) ((x_leafAt_out mjHP hl).up (by decide))).trans ?_
  refine (mjTo.pure 4 (s2 := (12, [(2, .null), (0, .ref 1), (1, .int l)], [.int ((Int8.ofInt (-101)).toInt32)], mjHP)) fun _ => rfl).trans ?_
  exact mjTo.refl
set_option maxRecDepth 4000 in
theorem x_lose_in {j : Nat} (hj : j < 16) : ∃ h1, mjDoes 2 22 [.ref 1, .int (Int32.ofNat j)] mjHP (some (.int ((Int8.ofInt (-10)).toInt32 - Int32.ofInt 1))) h1 ∧ mjFM h1 := by
  obtain ⟨hh, hc, hF1⟩ := x_found_hp (f := Int32.ofInt 1) (Or.inl rfl) mjFM.hp mjHP_0 rfl mjHP_told
  refine ⟨hh, ?_, hF1⟩
  refine mjDoes.of2 (tab := mjTb mjT_22) (q := ((⟨"TableBench", "lose", "(I)I"⟩, prog_1_method_4_code, 4, some (Jvm.ClassFile.FieldType.int)), 0, 376, 374, 464, 1)) (st := (25, [(2, .ref (2 * j + 3)), (0, .ref 1), (1, .int (Int32.ofNat j))], [.int ((Int8.ofInt (-10)).toInt32 - Int32.ofInt 1)], hh)) (e := (.ireturn, 1, mj0)) rfl rfl (Nat.le_of_ble_eq_true rfl) ?_ rfl rfl rfl
  refine (mjTo.pure 2 (s2 := (2, [(0, .ref 1), (1, .int (Int32.ofNat j))], [.int (Int32.ofNat j), .ref 1], mjHP)) fun _ => rfl).trans ?_
  refine (mjTo.virt (as := [.int (Int32.ofNat j)]) (r := []) (v := some (.ref (2 * j + 3))) (h' := mjHP) rfl rfl mjHP_0 (Nat.le_of_ble_eq_true rfl) ((x_leafAt_in hj mjHP_0 mjHP_1).up (by decide))).trans ?_
  refine (mjTo.pure 4 (s2 := (14, [(2, .ref (2 * j + 3)), (0, .ref 1), (1, .int (Int32.ofNat j))], [.ref (2 * j + 3)], mjHP)) fun _ => rfl).trans ?_
  refine (mjTo.virt (as := []) (r := []) (v := some (.int (Int32.ofInt 1))) (h' := mjHP) rfl rfl (mjHP_lf hj) (Nat.le_of_ble_eq_true rfl) ((x_isLost (a := 2 * j + 2) (mjHP_lf hj)).up (by decide))).trans ?_
  refine (mjTo.ifF (c := .eq) (x := (Int32.ofInt 1)) (n := 26) rfl (by decide) rfl).trans ?_
  refine (mjTo.pure 2 (s2 := (22, [(2, .ref (2 * j + 3)), (0, .ref 1), (1, .int (Int32.ofNat j))], [.int (Int32.ofInt 1), .ref 1], mjHP)) fun _ => rfl).trans ?_
  refine (mjTo.virt (as := [.int (Int32.ofInt 1)]) (r := []) (v := some (.int ((Int8.ofInt (-10)).toInt32 - Int32.ofInt 1))) (h' := hh) rfl rfl mjHP_0 (Nat.le_of_ble_eq_true rfl) (hc.up (by decide))).trans ?_
  exact mjTo.refl
set_option maxRecDepth 4000 in
theorem x_put_out {l lane i : Int32} {w : Int64} (hl : l.toInt < 0 ∨ 15 < l.toInt) : mjDoes 2 17 [.ref 1, .int l, .int lane, .int i, .long w] mjHP (some (.int ((Int8.ofInt (-101)).toInt32))) mjHP := by
  refine mjDoes.of2 (tab := mjTb mjT_17) (q := ((⟨"TableBench", "put", "(IIIJ)I"⟩, prog_1_method_3_code, 7, some (Jvm.ClassFile.FieldType.int)), 0, 352, 350, 440, 1)) (st := (14, [(6, .null), (0, .ref 1), (1, .int l), (2, .int lane), (3, .int i), (4, .long w)], [.int ((Int8.ofInt (-101)).toInt32)], mjHP)) (e := (.ireturn, 1, mj0)) rfl rfl (Nat.le_of_ble_eq_true rfl) ?_ rfl rfl rfl
  refine (mjTo.pure 2 (s2 := (2, [(0, .ref 1), (1, .int l), (2, .int lane), (3, .int i), (4, .long w)], [.int l, .ref 1], mjHP)) fun _ => rfl).trans ?_
  refine (mjTo.virt (as := [.int l]) (r := []) (v := some (.null)) (h' := mjHP) rfl rfl mjHP_0 (Nat.le_of_ble_eq_true rfl) ((x_leafAt_out mjHP hl).up (by decide))).trans ?_
  refine (mjTo.pure 4 (s2 := (14, [(6, .null), (0, .ref 1), (1, .int l), (2, .int lane), (3, .int i), (4, .long w)], [.int ((Int8.ofInt (-101)).toInt32)], mjHP)) fun _ => rfl).trans ?_
  exact mjTo.refl
set_option maxRecDepth 4000 in
theorem x_put_lane {j : Nat} {lane i : Int32} {w : Int64} (hj : j < 16) (hl : lane.toInt < 0 ∨ 3 < lane.toInt) : mjDoes 2 17 [.ref 1, .int (Int32.ofNat j), .int lane, .int i, .long w] mjHP (some (.int ((Int8.ofInt (-102)).toInt32))) mjHP := by
  refine mjDoes.of2 (tab := mjTb mjT_17) (q := ((⟨"TableBench", "put", "(IIIJ)I"⟩, prog_1_method_3_code, 7, some (Jvm.ClassFile.FieldType.int)), 0, 352, 350, 440, 1)) (st := (33, [(6, .ref (2 * j + 3)), (0, .ref 1), (1, .int (Int32.ofNat j)), (2, .int lane), (3, .int i), (4, .long w)], [.int ((Int8.ofInt (-102)).toInt32)], mjHP)) (e := (.ireturn, 1, mj0)) rfl rfl (Nat.le_of_ble_eq_true rfl) ?_ rfl rfl rfl
  refine (mjTo.pure 2 (s2 := (2, [(0, .ref 1), (1, .int (Int32.ofNat j)), (2, .int lane), (3, .int i), (4, .long w)], [.int (Int32.ofNat j), .ref 1], mjHP)) fun _ => rfl).trans ?_
  refine (mjTo.virt (as := [.int (Int32.ofNat j)]) (r := []) (v := some (.ref (2 * j + 3))) (h' := mjHP) rfl rfl mjHP_0 (Nat.le_of_ble_eq_true rfl) ((x_leafAt_in hj mjHP_0 mjHP_1).up (by decide))).trans ?_
  refine (mjTo.pure 4 (s2 := (16, [(6, .ref (2 * j + 3)), (0, .ref 1), (1, .int (Int32.ofNat j)), (2, .int lane), (3, .int i), (4, .long w)], [.int lane], mjHP)) fun _ => rfl).trans ?_
  refine (mjTo.stat (as := [.int lane]) (r := []) (v := some (.int (Int32.ofInt 0))) (h' := mjHP) rfl rfl (Nat.le_of_ble_eq_true rfl) ((x_isLane_out mjHP hl).up (by decide))).trans ?_
  refine (mjTo.ifT (c := .eq) (x := (Int32.ofInt 0)) (n := 31) rfl (by decide) rfl).trans ?_
  refine (mjTo.pure 1 (s2 := (33, [(6, .ref (2 * j + 3)), (0, .ref 1), (1, .int (Int32.ofNat j)), (2, .int lane), (3, .int i), (4, .long w)], [.int ((Int8.ofInt (-102)).toInt32)], mjHP)) fun _ => rfl).trans ?_
  exact mjTo.refl
set_option maxRecDepth 4000 in
theorem x_put_nan {j : Nat} {lane i : Int32} {w : Int64} (hj : j < 16) (h1 : 0 ≤ lane.toInt) (h2 : lane.toInt ≤ 3) (hn : mjDoes 1 18 [.int lane, .long w] mjHP (some (.int (Int32.ofInt 1))) mjHP) : mjDoes 2 17 [.ref 1, .int (Int32.ofNat j), .int lane, .int i, .long w] mjHP (some (.int ((Int8.ofInt (-102)).toInt32))) mjHP := by
  refine mjDoes.of2 (tab := mjTb mjT_17) (q := ((⟨"TableBench", "put", "(IIIJ)I"⟩, prog_1_method_3_code, 7, some (Jvm.ClassFile.FieldType.int)), 0, 352, 350, 440, 1)) (st := (33, [(6, .ref (2 * j + 3)), (0, .ref 1), (1, .int (Int32.ofNat j)), (2, .int lane), (3, .int i), (4, .long w)], [.int ((Int8.ofInt (-102)).toInt32)], mjHP)) (e := (.ireturn, 1, mj0)) rfl rfl (Nat.le_of_ble_eq_true rfl) ?_ rfl rfl rfl
  refine (mjTo.pure 2 (s2 := (2, [(0, .ref 1), (1, .int (Int32.ofNat j)), (2, .int lane), (3, .int i), (4, .long w)], [.int (Int32.ofNat j), .ref 1], mjHP)) fun _ => rfl).trans ?_
  refine (mjTo.virt (as := [.int (Int32.ofNat j)]) (r := []) (v := some (.ref (2 * j + 3))) (h' := mjHP) rfl rfl mjHP_0 (Nat.le_of_ble_eq_true rfl) ((x_leafAt_in hj mjHP_0 mjHP_1).up (by decide))).trans ?_
  refine (mjTo.pure 4 (s2 := (16, [(6, .ref (2 * j + 3)), (0, .ref 1), (1, .int (Int32.ofNat j)), (2, .int lane), (3, .int i), (4, .long w)], [.int lane], mjHP)) fun _ => rfl).trans ?_
  refine (mjTo.stat (as := [.int lane]) (r := []) (v := some (.int (Int32.ofInt 1))) (h' := mjHP) rfl rfl (Nat.le_of_ble_eq_true rfl) ((x_isLane_in mjHP h1 h2).up (by decide))).trans ?_
  refine (mjTo.ifF (c := .eq) (x := (Int32.ofInt 1)) (n := 31) rfl (by decide) rfl).trans ?_
  refine (mjTo.pure 2 (s2 := (25, [(6, .ref (2 * j + 3)), (0, .ref 1), (1, .int (Int32.ofNat j)), (2, .int lane), (3, .int i), (4, .long w)], [.long w, .int lane], mjHP)) fun _ => rfl).trans ?_
  refine (mjTo.stat (as := [.int lane, .long w]) (r := []) (v := some (.int (Int32.ofInt 1))) (h' := mjHP) rfl rfl (Nat.le_of_ble_eq_true rfl) (hn.up (by decide))).trans ?_
  refine (mjTo.ifF (c := .eq) (x := (Int32.ofInt 1)) (n := 34) rfl (by decide) rfl).trans ?_
  refine (mjTo.pure 1 (s2 := (33, [(6, .ref (2 * j + 3)), (0, .ref 1), (1, .int (Int32.ofNat j)), (2, .int lane), (3, .int i), (4, .long w)], [.int ((Int8.ofInt (-102)).toInt32)], mjHP)) fun _ => rfl).trans ?_
  exact mjTo.refl
set_option maxRecDepth 4000 in
theorem x_put_lost {j : Nat} {lane i : Int32} {w : Int64} (hj : j < 16) (h1 : 0 ≤ lane.toInt) (h2 : lane.toInt ≤ 3) (hn : mjDoes 1 18 [.int lane, .long w] mjHP (some (.int (Int32.ofInt 0))) mjHP) : ∃ h1, mjDoes 2 17 [.ref 1, .int (Int32.ofNat j), .int lane, .int i, .long w] mjHP (some (.int ((Int8.ofInt (-10)).toInt32 - Int32.ofInt 1))) h1 ∧ mjFM h1 := by
  obtain ⟨hh, hc, hF1⟩ := x_found_hp (f := Int32.ofInt 1) (Or.inl rfl) mjFM.hp mjHP_0 rfl mjHP_told
  refine ⟨hh, ?_, hF1⟩
  refine mjDoes.of2 (tab := mjTb mjT_17) (q := ((⟨"TableBench", "put", "(IIIJ)I"⟩, prog_1_method_3_code, 7, some (Jvm.ClassFile.FieldType.int)), 0, 352, 350, 440, 1)) (st := (47, [(6, .ref (2 * j + 3)), (0, .ref 1), (1, .int (Int32.ofNat j)), (2, .int lane), (3, .int i), (4, .long w)], [.int ((Int8.ofInt (-10)).toInt32 - Int32.ofInt 1)], hh)) (e := (.ireturn, 1, mj0)) rfl rfl (Nat.le_of_ble_eq_true rfl) ?_ rfl rfl rfl
  refine (mjTo.pure 2 (s2 := (2, [(0, .ref 1), (1, .int (Int32.ofNat j)), (2, .int lane), (3, .int i), (4, .long w)], [.int (Int32.ofNat j), .ref 1], mjHP)) fun _ => rfl).trans ?_
  refine (mjTo.virt (as := [.int (Int32.ofNat j)]) (r := []) (v := some (.ref (2 * j + 3))) (h' := mjHP) rfl rfl mjHP_0 (Nat.le_of_ble_eq_true rfl) ((x_leafAt_in hj mjHP_0 mjHP_1).up (by decide))).trans ?_
  refine (mjTo.pure 4 (s2 := (16, [(6, .ref (2 * j + 3)), (0, .ref 1), (1, .int (Int32.ofNat j)), (2, .int lane), (3, .int i), (4, .long w)], [.int lane], mjHP)) fun _ => rfl).trans ?_
  refine (mjTo.stat (as := [.int lane]) (r := []) (v := some (.int (Int32.ofInt 1))) (h' := mjHP) rfl rfl (Nat.le_of_ble_eq_true rfl) ((x_isLane_in mjHP h1 h2).up (by decide))).trans ?_
  refine (mjTo.ifF (c := .eq) (x := (Int32.ofInt 1)) (n := 31) rfl (by decide) rfl).trans ?_
  refine (mjTo.pure 2 (s2 := (25, [(6, .ref (2 * j + 3)), (0, .ref 1), (1, .int (Int32.ofNat j)), (2, .int lane), (3, .int i), (4, .long w)], [.long w, .int lane], mjHP)) fun _ => rfl).trans ?_
  refine (mjTo.stat (as := [.int lane, .long w]) (r := []) (v := some (.int (Int32.ofInt 0))) (h' := mjHP) rfl rfl (Nat.le_of_ble_eq_true rfl) (hn.up (by decide))).trans ?_
  refine (mjTo.ifT (c := .eq) (x := (Int32.ofInt 0)) (n := 34) rfl (by decide) rfl).trans ?_
  refine (mjTo.pure 1 (s2 := (36, [(6, .ref (2 * j + 3)), (0, .ref 1), (1, .int (Int32.ofNat j)), (2, .int lane), (3, .int i), (4, .long w)], [.ref (2 * j + 3)], mjHP)) fun _ => rfl).trans ?_
  refine (mjTo.virt (as := []) (r := []) (v := some (.int (Int32.ofInt 1))) (h' := mjHP) rfl rfl (mjHP_lf hj) (Nat.le_of_ble_eq_true rfl) ((x_isLost (a := 2 * j + 2) (mjHP_lf hj)).up (by decide))).trans ?_
  refine (mjTo.ifF (c := .eq) (x := (Int32.ofInt 1)) (n := 48) rfl (by decide) rfl).trans ?_
  refine (mjTo.pure 2 (s2 := (44, [(6, .ref (2 * j + 3)), (0, .ref 1), (1, .int (Int32.ofNat j)), (2, .int lane), (3, .int i), (4, .long w)], [.int (Int32.ofInt 1), .ref 1], mjHP)) fun _ => rfl).trans ?_
  refine (mjTo.virt (as := [.int (Int32.ofInt 1)]) (r := []) (v := some (.int ((Int8.ofInt (-10)).toInt32 - Int32.ofInt 1))) (h' := hh) rfl rfl mjHP_0 (Nat.le_of_ble_eq_true rfl) (hc.up (by decide))).trans ?_
  exact mjTo.refl
set_option maxRecDepth 4000 in
theorem x_tbegin_loop {n : Int32} {h : mjH} {y0 y1 : Value} (hA : h[35]? = some (.inl (6, [y0, y1, .ref 37]))) (hW : h[36]? = some (.inr (.inl (List.replicate 36 0)))) : ∀ m k : Nat, k + m = 36 → mjTo 1 3 none (mjTb mjT_27) (16, [(2, .int (Int32.ofNat k)), (0, .ref 36), (1, .int n)], [], h) (35, [(2, .int (Int32.ofNat 36)), (0, .ref 36), (1, .int n)], [], h) := by
  intro m
  induction m with
  | zero =>
    intro k hk
    have hk2 : k = 36 := by omega
    subst hk2
    refine (mjTo.pure 2 (s2 := (19, [(2, .int (Int32.ofNat 36)), (0, .ref 36), (1, .int n)], [.int ((Int8.ofInt 36).toInt32), .int (Int32.ofNat 36)], h)) fun _ => rfl).trans ?_
    refine (mjTo.icT (c := .ge) (x := (Int32.ofNat 36)) (y := (Int8.ofInt 36).toInt32) (n := 35) rfl (by decide) rfl).trans ?_
    exact mjTo.refl
  | succ m ih =>
    intro k hk
    have hkl : k < 36 := by omega
    refine (mjTo.pure 2 (s2 := (19, [(2, .int (Int32.ofNat k)), (0, .ref 36), (1, .int n)], [.int ((Int8.ofInt 36).toInt32), .int (Int32.ofNat k)], h)) fun _ => rfl).trans ?_
    refine (mjTo.icF (c := .ge) (x := (Int32.ofNat k)) (y := (Int8.ofInt 36).toInt32) (n := 35) rfl (cF_ge (by simp only [cj (show k < 100 by omega), mjk_0, mjk_1, mjk_2, mjk_3, mjk_4, mjk_m1, mjk_b6, mjk_b8, mjk_b15, mjk_b16, mjk_b22, mjk_b36, mjk_b48, mjk_b60, mjk_b63, mjk_z]; omega)) rfl).trans ?_
    refine (mjTo.pure 1 (s2 := (23, [(2, .int (Int32.ofNat k)), (0, .ref 36), (1, .int n)], [.ref 36], h)) fun _ => rfl).trans ?_
    refine (mjTo.getf rfl hA rfl).trans ?_
    refine (mjTo.pure 2 (s2 := (28, [(2, .int (Int32.ofNat k)), (0, .ref 36), (1, .int n)], [.int (Int32.ofInt 0), .int (Int32.ofNat k), .ref 37], h)) fun _ => rfl).trans ?_
    refine (mjTo.iast0 (a := 36) rfl hW (mjIn_nat hkl (by decide)) rfl).trans ?_
    refine (mjTo.pure 2 (s2 := (16, [(2, .int ((Int32.ofNat k) + Int32.ofInt 1)), (0, .ref 36), (1, .int n)], [], h)) fun _ => rfl).trans ?_
    rw [mj_inc k]
    exact ih (k + 1) (by omega)
set_option maxRecDepth 4000 in
theorem x_tbegin (n : Int32) : mjDoes 2 27 [.ref 36, .int n] mjHP none (mjHP.set 35 (.inl (6, [.int (if (Int32.ofInt 1) < (if (Int8.ofInt 6).toInt32 < n then (Int8.ofInt 6).toInt32 else n) then (if (Int8.ofInt 6).toInt32 < n then (Int8.ofInt 6).toInt32 else n) else (Int32.ofInt 1)), .int 0, .ref 37]))) := by
  refine mjDoes.of2 (tab := mjTb mjT_27) (q := ((⟨"TableBench$Table", "begin", "(I)V"⟩, prog_8_method_5_code, 3, none), 0, 396, 394, 484, 3)) (st := (35, [(2, .int (Int32.ofNat 36)), (0, .ref 36), (1, .int n)], [], (mjHP.set 35 (.inl (6, [.int (if (Int32.ofInt 1) < (if (Int8.ofInt 6).toInt32 < n then (Int8.ofInt 6).toInt32 else n) then (if (Int8.ofInt 6).toInt32 < n then (Int8.ofInt 6).toInt32 else n) else (Int32.ofInt 1)), .int 0, .ref 37]))))) (e := (.return_, 1, mj0)) rfl rfl (Nat.le_of_ble_eq_true rfl) ?_ rfl rfl rfl
  refine (mjTo.pure 6 (s2 := (11, [(0, .ref 36), (1, .int n)], [.int (if (Int32.ofInt 1) < (if (Int8.ofInt 6).toInt32 < n then (Int8.ofInt 6).toInt32 else n) then (if (Int8.ofInt 6).toInt32 < n then (Int8.ofInt 6).toInt32 else n) else (Int32.ofInt 1)), .ref 36], mjHP)) fun _ => rfl).trans ?_
  refine (mjTo.putf rfl mjHP_t0 rfl).trans ?_
  refine (mjTo.pure 2 (s2 := (16, [(2, .int (Int32.ofInt 0)), (0, .ref 36), (1, .int n)], [], (mjHP.set 35 (.inl (6, [.int (if (Int32.ofInt 1) < (if (Int8.ofInt 6).toInt32 < n then (Int8.ofInt 6).toInt32 else n) then (if (Int8.ofInt 6).toInt32 < n then (Int8.ofInt 6).toInt32 else n) else (Int32.ofInt 1)), .int 0, .ref 37]))))) fun _ => rfl).trans ?_
  exact x_tbegin_loop (List.getElem?_set_self (by decide +kernel)) (by rw [List.getElem?_set_ne (by decide)]; exact mjHP_t0n) 36 0 rfl
set_option maxRecDepth 4000 in
theorem x_draft (n : Int32) : mjDoes 3 26 [.ref 1, .int n] mjHP (some (.ref 36)) (mjHP.set 35 (.inl (6, [.int (if (Int32.ofInt 1) < (if (Int8.ofInt 6).toInt32 < n then (Int8.ofInt 6).toInt32 else n) then (if (Int8.ofInt 6).toInt32 < n then (Int8.ofInt 6).toInt32 else n) else (Int32.ofInt 1)), .int 0, .ref 37]))) := by
  obtain ⟨L, hL⟩ := mjHP_tabs
  refine mjDoes.of2 (tab := mjTb mjT_26) (q := ((⟨"TableBench", "draft", "(I)LTableBench$Table;"⟩, prog_1_method_47_code, 3, some ((Jvm.ClassFile.FieldType.object "TableBench$Table"))), 0, 392, 391, 3, 1)) (st := (30, [(2, .ref 36), (0, .ref 1), (1, .int n)], [.ref 36], (mjHP.set 35 (.inl (6, [.int (if (Int32.ofInt 1) < (if (Int8.ofInt 6).toInt32 < n then (Int8.ofInt 6).toInt32 else n) then (if (Int8.ofInt 6).toInt32 < n then (Int8.ofInt 6).toInt32 else n) else (Int32.ofInt 1)), .int 0, .ref 37]))))) (e := (.areturn, 1, mj0)) rfl rfl (Nat.le_of_ble_eq_true rfl) ?_ rfl rfl rfl
  refine (mjTo.pure 1 (s2 := (1, [(0, .ref 1), (1, .int n)], [.ref 1], mjHP)) fun _ => rfl).trans ?_
  refine (mjTo.getf rfl mjHP_0 rfl).trans ?_
  refine (mjTo.pure 1 (s2 := (5, [(0, .ref 1), (1, .int n)], [.ref 1, .ref 35], mjHP)) fun _ => rfl).trans ?_
  refine (mjTo.getf rfl mjHP_0 rfl).trans ?_
  refine (mjTo.pure 1 (s2 := (10, [(0, .ref 1), (1, .int n)], [.int ((Int8.ofInt 60).toInt32), .int 0, .ref 35], mjHP)) fun _ => rfl).trans ?_
  refine (mjTo.icF (c := .ge) (x := 0) (y := (Int8.ofInt 60).toInt32) (n := 20) rfl (by decide) rfl).trans ?_
  refine (mjTo.pure 1 (s2 := (14, [(0, .ref 1), (1, .int n)], [.ref 1, .ref 35], mjHP)) fun _ => rfl).trans ?_
  refine (mjTo.getf rfl mjHP_0 rfl).trans ?_
  refine (mjTo.pure 1 (s2 := (22, [(0, .ref 1), (1, .int n)], [.int 0, .ref 35], mjHP)) fun _ => rfl).trans ?_
  refine (mjTo.aald (a := 34) rfl hL rfl).trans ?_
  refine (mjTo.pure 3 (s2 := (26, [(2, .ref 36), (0, .ref 1), (1, .int n)], [.int n, .ref 36], mjHP)) fun _ => rfl).trans ?_
  refine (mjTo.virt (as := [.int n]) (r := []) (v := none) (h' := (mjHP.set 35 (.inl (6, [.int (if (Int32.ofInt 1) < (if (Int8.ofInt 6).toInt32 < n then (Int8.ofInt 6).toInt32 else n) then (if (Int8.ofInt 6).toInt32 < n then (Int8.ofInt 6).toInt32 else n) else (Int32.ofInt 1)), .int 0, .ref 37])))) rfl rfl mjHP_t0 (Nat.le_of_ble_eq_true rfl) ((x_tbegin n).up (by decide))).trans ?_
  refine (mjTo.pure 1 (s2 := (30, [(2, .ref 36), (0, .ref 1), (1, .int n)], [.ref 36], (mjHP.set 35 (.inl (6, [.int (if (Int32.ofInt 1) < (if (Int8.ofInt 6).toInt32 < n then (Int8.ofInt 6).toInt32 else n) then (if (Int8.ofInt 6).toInt32 < n then (Int8.ofInt 6).toInt32 else n) else (Int32.ofInt 1)), .int 0, .ref 37]))))) fun _ => rfl).trans ?_
  exact mjTo.refl
set_option maxRecDepth 4000 in
theorem x_isFull  : mjDoes 1 25 [.ref 1] mjHP (some (.int (Int32.ofInt 0))) mjHP := by
  refine mjDoes.of2 (tab := mjTb mjT_25) (q := ((⟨"TableBench", "isFull", "()Z"⟩, prog_1_method_46_code, 1, some (Jvm.ClassFile.FieldType.boolean)), 0, 388, 387, 2, 1)) (st := (14, [(0, .ref 1)], [.int (Int32.ofInt 0)], mjHP)) (e := (.ireturn, 1, mj0)) rfl rfl (Nat.le_of_ble_eq_true rfl) ?_ rfl rfl rfl
  refine (mjTo.pure 1 (s2 := (1, [(0, .ref 1)], [.ref 1], mjHP)) fun _ => rfl).trans ?_
  refine (mjTo.getf rfl mjHP_0 rfl).trans ?_
  refine (mjTo.pure 1 (s2 := (6, [(0, .ref 1)], [.int ((Int8.ofInt 60).toInt32), .int 0], mjHP)) fun _ => rfl).trans ?_
  refine (mjTo.icT (c := .lt) (x := 0) (y := (Int8.ofInt 60).toInt32) (n := 13) rfl (by decide) rfl).trans ?_
  refine (mjTo.pure 1 (s2 := (14, [(0, .ref 1)], [.int (Int32.ofInt 0)], mjHP)) fun _ => rfl).trans ?_
  exact mjTo.refl
set_option maxRecDepth 4000 in
theorem x_table_n1 {first n : Int32} (h1 : n.toInt < 1) : mjDoes 4 24 [.ref 1, .int first, .int n] mjHP (some (.int ((Int8.ofInt (-102)).toInt32))) mjHP := by
  refine mjDoes.of2 (tab := mjTb mjT_24) (q := ((⟨"TableBench", "table", "(II)I"⟩, prog_1_method_5_code, 8, some (Jvm.ClassFile.FieldType.int)), 0, 384, 382, 472, 1)) (st := (25, [(0, .ref 1), (1, .int first), (2, .int n)], [.int ((Int8.ofInt (-102)).toInt32)], mjHP)) (e := (.ireturn, 1, mj0)) rfl rfl (Nat.le_of_ble_eq_true rfl) ?_ rfl rfl rfl
  refine (mjTo.pure 2 (s2 := (2, [(0, .ref 1), (1, .int first), (2, .int n)], [.int (Int32.ofInt 1), .int n], mjHP)) fun _ => rfl).trans ?_
  refine (mjTo.icT (c := .lt) (x := n) (y := (Int32.ofInt 1)) (n := 23) rfl (cT_lt (by simp only [mjk_0, mjk_1, mjk_2, mjk_3, mjk_4, mjk_m1, mjk_b6, mjk_b8, mjk_b15, mjk_b16, mjk_b22, mjk_b36, mjk_b48, mjk_b60, mjk_b63, mjk_z]; omega)) rfl).trans ?_
  refine (mjTo.pure 1 (s2 := (25, [(0, .ref 1), (1, .int first), (2, .int n)], [.int ((Int8.ofInt (-102)).toInt32)], mjHP)) fun _ => rfl).trans ?_
  exact mjTo.refl
set_option maxRecDepth 4000 in
theorem x_table_n2 {first n : Int32} (h1 : 6 < n.toInt) : mjDoes 4 24 [.ref 1, .int first, .int n] mjHP (some (.int ((Int8.ofInt (-102)).toInt32))) mjHP := by
  refine mjDoes.of2 (tab := mjTb mjT_24) (q := ((⟨"TableBench", "table", "(II)I"⟩, prog_1_method_5_code, 8, some (Jvm.ClassFile.FieldType.int)), 0, 384, 382, 472, 1)) (st := (25, [(0, .ref 1), (1, .int first), (2, .int n)], [.int ((Int8.ofInt (-102)).toInt32)], mjHP)) (e := (.ireturn, 1, mj0)) rfl rfl (Nat.le_of_ble_eq_true rfl) ?_ rfl rfl rfl
  refine (mjTo.pure 2 (s2 := (2, [(0, .ref 1), (1, .int first), (2, .int n)], [.int (Int32.ofInt 1), .int n], mjHP)) fun _ => rfl).trans ?_
  refine (mjTo.icF (c := .lt) (x := n) (y := (Int32.ofInt 1)) (n := 23) rfl (cF_lt (by simp only [mjk_0, mjk_1, mjk_2, mjk_3, mjk_4, mjk_m1, mjk_b6, mjk_b8, mjk_b15, mjk_b16, mjk_b22, mjk_b36, mjk_b48, mjk_b60, mjk_b63, mjk_z]; omega)) rfl).trans ?_
  refine (mjTo.pure 2 (s2 := (8, [(0, .ref 1), (1, .int first), (2, .int n)], [.int ((Int8.ofInt 6).toInt32), .int n], mjHP)) fun _ => rfl).trans ?_
  refine (mjTo.icT (c := .gt) (x := n) (y := (Int8.ofInt 6).toInt32) (n := 23) rfl (cT_gt (by simp only [mjk_0, mjk_1, mjk_2, mjk_3, mjk_4, mjk_m1, mjk_b6, mjk_b8, mjk_b15, mjk_b16, mjk_b22, mjk_b36, mjk_b48, mjk_b60, mjk_b63, mjk_z]; omega)) rfl).trans ?_
  refine (mjTo.pure 1 (s2 := (25, [(0, .ref 1), (1, .int first), (2, .int n)], [.int ((Int8.ofInt (-102)).toInt32)], mjHP)) fun _ => rfl).trans ?_
  exact mjTo.refl
set_option maxRecDepth 4000 in
theorem x_table_f1 {first n : Int32} (h1 : 1 ≤ n.toInt) (h2 : n.toInt ≤ 6) (h3 : first.toInt < 0) : mjDoes 4 24 [.ref 1, .int first, .int n] mjHP (some (.int ((Int8.ofInt (-102)).toInt32))) mjHP := by
  refine mjDoes.of2 (tab := mjTb mjT_24) (q := ((⟨"TableBench", "table", "(II)I"⟩, prog_1_method_5_code, 8, some (Jvm.ClassFile.FieldType.int)), 0, 384, 382, 472, 1)) (st := (25, [(0, .ref 1), (1, .int first), (2, .int n)], [.int ((Int8.ofInt (-102)).toInt32)], mjHP)) (e := (.ireturn, 1, mj0)) rfl rfl (Nat.le_of_ble_eq_true rfl) ?_ rfl rfl rfl
  refine (mjTo.pure 2 (s2 := (2, [(0, .ref 1), (1, .int first), (2, .int n)], [.int (Int32.ofInt 1), .int n], mjHP)) fun _ => rfl).trans ?_
  refine (mjTo.icF (c := .lt) (x := n) (y := (Int32.ofInt 1)) (n := 23) rfl (cF_lt (by simp only [mjk_0, mjk_1, mjk_2, mjk_3, mjk_4, mjk_m1, mjk_b6, mjk_b8, mjk_b15, mjk_b16, mjk_b22, mjk_b36, mjk_b48, mjk_b60, mjk_b63, mjk_z]; omega)) rfl).trans ?_
  refine (mjTo.pure 2 (s2 := (8, [(0, .ref 1), (1, .int first), (2, .int n)], [.int ((Int8.ofInt 6).toInt32), .int n], mjHP)) fun _ => rfl).trans ?_
  refine (mjTo.icF (c := .gt) (x := n) (y := (Int8.ofInt 6).toInt32) (n := 23) rfl (cF_gt (by simp only [mjk_0, mjk_1, mjk_2, mjk_3, mjk_4, mjk_m1, mjk_b6, mjk_b8, mjk_b15, mjk_b16, mjk_b22, mjk_b36, mjk_b48, mjk_b60, mjk_b63, mjk_z]; omega)) rfl).trans ?_
  refine (mjTo.pure 1 (s2 := (12, [(0, .ref 1), (1, .int first), (2, .int n)], [.int first], mjHP)) fun _ => rfl).trans ?_
  refine (mjTo.ifT (c := .lt) (x := first) (n := 23) rfl (cT_lt (by simp only [mjk_0, mjk_1, mjk_2, mjk_3, mjk_4, mjk_m1, mjk_b6, mjk_b8, mjk_b15, mjk_b16, mjk_b22, mjk_b36, mjk_b48, mjk_b60, mjk_b63, mjk_z]; omega)) rfl).trans ?_
  refine (mjTo.pure 1 (s2 := (25, [(0, .ref 1), (1, .int first), (2, .int n)], [.int ((Int8.ofInt (-102)).toInt32)], mjHP)) fun _ => rfl).trans ?_
  exact mjTo.refl
theorem mj_sub16 {q : Nat} (h : q ≤ 6) : ((Int8.ofInt 16).toInt32 - Int32.ofNat q).toInt = (16 : Int) - q := by
  rw [show (Int8.ofInt 16).toInt32 = nI 16 from by decide, show Int32.ofNat q = nI q from rfl, pk_sub (by omega), nI_toInt (by omega)]
  omega
set_option maxRecDepth 4000 in
theorem x_table_f2 {q : Nat} {first : Int32} (hq : 1 ≤ q ∧ q ≤ 6) (h3 : 0 ≤ first.toInt) (h4 : (16 : Int) - q < first.toInt) : mjDoes 4 24 [.ref 1, .int first, .int (Int32.ofNat q)] mjHP (some (.int ((Int8.ofInt (-102)).toInt32))) mjHP := by
  refine mjDoes.of2 (tab := mjTb mjT_24) (q := ((⟨"TableBench", "table", "(II)I"⟩, prog_1_method_5_code, 8, some (Jvm.ClassFile.FieldType.int)), 0, 384, 382, 472, 1)) (st := (25, [(0, .ref 1), (1, .int first), (2, .int (Int32.ofNat q))], [.int ((Int8.ofInt (-102)).toInt32)], mjHP)) (e := (.ireturn, 1, mj0)) rfl rfl (Nat.le_of_ble_eq_true rfl) ?_ rfl rfl rfl
  refine (mjTo.pure 2 (s2 := (2, [(0, .ref 1), (1, .int first), (2, .int (Int32.ofNat q))], [.int (Int32.ofInt 1), .int (Int32.ofNat q)], mjHP)) fun _ => rfl).trans ?_
  refine (mjTo.icF (c := .lt) (x := (Int32.ofNat q)) (y := (Int32.ofInt 1)) (n := 23) rfl (cF_lt (by simp only [cj (show q < 100 by omega), mjk_0, mjk_1, mjk_2, mjk_3, mjk_4, mjk_m1, mjk_b6, mjk_b8, mjk_b15, mjk_b16, mjk_b22, mjk_b36, mjk_b48, mjk_b60, mjk_b63, mjk_z]; omega)) rfl).trans ?_
  refine (mjTo.pure 2 (s2 := (8, [(0, .ref 1), (1, .int first), (2, .int (Int32.ofNat q))], [.int ((Int8.ofInt 6).toInt32), .int (Int32.ofNat q)], mjHP)) fun _ => rfl).trans ?_
  refine (mjTo.icF (c := .gt) (x := (Int32.ofNat q)) (y := (Int8.ofInt 6).toInt32) (n := 23) rfl (cF_gt (by simp only [cj (show q < 100 by omega), mjk_0, mjk_1, mjk_2, mjk_3, mjk_4, mjk_m1, mjk_b6, mjk_b8, mjk_b15, mjk_b16, mjk_b22, mjk_b36, mjk_b48, mjk_b60, mjk_b63, mjk_z]; omega)) rfl).trans ?_
  refine (mjTo.pure 1 (s2 := (12, [(0, .ref 1), (1, .int first), (2, .int (Int32.ofNat q))], [.int first], mjHP)) fun _ => rfl).trans ?_
  refine (mjTo.ifF (c := .lt) (x := first) (n := 23) rfl (cF_lt (by simp only [cj (show q < 100 by omega), mjk_0, mjk_1, mjk_2, mjk_3, mjk_4, mjk_m1, mjk_b6, mjk_b8, mjk_b15, mjk_b16, mjk_b22, mjk_b36, mjk_b48, mjk_b60, mjk_b63, mjk_z]; omega)) rfl).trans ?_
  refine (mjTo.pure 4 (s2 := (20, [(0, .ref 1), (1, .int first), (2, .int (Int32.ofNat q))], [.int ((Int8.ofInt 16).toInt32 - (Int32.ofNat q)), .int first], mjHP)) fun _ => rfl).trans ?_
  refine (mjTo.icF (c := .le) (x := first) (y := ((Int8.ofInt 16).toInt32 - (Int32.ofNat q))) (n := 26) rfl (cF_le (by simp only [cj (show q < 100 by omega), mj_sub16 (show q ≤ 6 by omega), mjk_0, mjk_1, mjk_2, mjk_3, mjk_4, mjk_m1, mjk_b6, mjk_b8, mjk_b15, mjk_b16, mjk_b22, mjk_b36, mjk_b48, mjk_b60, mjk_b63, mjk_z]; omega)) rfl).trans ?_
  refine (mjTo.pure 1 (s2 := (25, [(0, .ref 1), (1, .int first), (2, .int (Int32.ofNat q))], [.int ((Int8.ofInt (-102)).toInt32)], mjHP)) fun _ => rfl).trans ?_
  exact mjTo.refl
set_option maxRecDepth 4000 in
theorem x_table_in {q j : Nat} (hq : 1 ≤ q ∧ q ≤ 6) (hjq : j + q ≤ 16) : ∃ h1, mjDoes 4 24 [.ref 1, .int (Int32.ofNat j), .int (Int32.ofNat q)] mjHP (some (.int ((Int8.ofInt (-10)).toInt32 - Int32.ofInt 1))) h1 ∧ mjFM h1 := by
  have hj : j < 16 := by omega
  have hx : (mjHP.set 35 (.inl (6, [.int (if (Int32.ofInt 1) < (if (Int8.ofInt 6).toInt32 < (Int32.ofNat q) then (Int8.ofInt 6).toInt32 else (Int32.ofNat q)) then (if (Int8.ofInt 6).toInt32 < (Int32.ofNat q) then (Int8.ofInt 6).toInt32 else (Int32.ofNat q)) else (Int32.ofInt 1)), .int 0, .ref 37])))[0]? = some (.inl (10, mjXf)) := by rw [List.getElem?_set_ne (by decide)]; exact mjHP_0
  have hv : (mjHP.set 35 (.inl (6, [.int (if (Int32.ofInt 1) < (if (Int8.ofInt 6).toInt32 < (Int32.ofNat q) then (Int8.ofInt 6).toInt32 else (Int32.ofNat q)) then (if (Int8.ofInt 6).toInt32 < (Int32.ofNat q) then (Int8.ofInt 6).toInt32 else (Int32.ofNat q)) else (Int32.ofInt 1)), .int 0, .ref 37])))[1]? = some (.inr (.inr (.inr (2, mjLv)))) := by rw [List.getElem?_set_ne (by decide)]; exact mjHP_1
  have hlf : (mjHP.set 35 (.inl (6, [.int (if (Int32.ofInt 1) < (if (Int8.ofInt 6).toInt32 < (Int32.ofNat q) then (Int8.ofInt 6).toInt32 else (Int32.ofNat q)) then (if (Int8.ofInt 6).toInt32 < (Int32.ofNat q) then (Int8.ofInt 6).toInt32 else (Int32.ofNat q)) else (Int32.ofInt 1)), .int 0, .ref 37])))[2 * j + 2]? = some (.inl (2, [.int 0, .int (-1), .ref (2 * j + 4)])) := by rw [List.getElem?_set_ne (by omega)]; exact mjHP_lf hj
  obtain ⟨hh, hc, hF1⟩ := x_foundAt (pl := (Int8.ofInt 10).toInt32 * Int32.ofInt 0) (h := (mjHP.set 35 (.inl (6, [.int (if (Int32.ofInt 1) < (if (Int8.ofInt 6).toInt32 < (Int32.ofNat q) then (Int8.ofInt 6).toInt32 else (Int32.ofNat q)) then (if (Int8.ofInt 6).toInt32 < (Int32.ofNat q) then (Int8.ofInt 6).toInt32 else (Int32.ofNat q)) else (Int32.ofInt 1)), .int 0, .ref 37])))) (mjFM.hp.set (by decide)) hx (by rw [List.getElem?_set_ne (by decide)]; exact mjHP_told)
  refine ⟨hh, ?_, hF1⟩
  refine mjDoes.of2 (tab := mjTb mjT_24) (q := ((⟨"TableBench", "table", "(II)I"⟩, prog_1_method_5_code, 8, some (Jvm.ClassFile.FieldType.int)), 0, 384, 382, 472, 1)) (st := (84, [(5, .ref (2 * j + 3)), (4, .int (Int32.ofInt 0)), (3, .ref 36), (0, .ref 1), (1, .int (Int32.ofNat j)), (2, .int (Int32.ofNat q))], [.int ((Int8.ofInt (-10)).toInt32 - Int32.ofInt 1)], hh)) (e := (.ireturn, 1, mj0)) rfl rfl (Nat.le_of_ble_eq_true rfl) ?_ rfl rfl rfl
  refine (mjTo.pure 2 (s2 := (2, [(0, .ref 1), (1, .int (Int32.ofNat j)), (2, .int (Int32.ofNat q))], [.int (Int32.ofInt 1), .int (Int32.ofNat q)], mjHP)) fun _ => rfl).trans ?_
  refine (mjTo.icF (c := .lt) (x := (Int32.ofNat q)) (y := (Int32.ofInt 1)) (n := 23) rfl (cF_lt (by simp only [cj (show q < 100 by omega), mjk_0, mjk_1, mjk_2, mjk_3, mjk_4, mjk_m1, mjk_b6, mjk_b8, mjk_b15, mjk_b16, mjk_b22, mjk_b36, mjk_b48, mjk_b60, mjk_b63, mjk_z]; omega)) rfl).trans ?_
  refine (mjTo.pure 2 (s2 := (8, [(0, .ref 1), (1, .int (Int32.ofNat j)), (2, .int (Int32.ofNat q))], [.int ((Int8.ofInt 6).toInt32), .int (Int32.ofNat q)], mjHP)) fun _ => rfl).trans ?_
  refine (mjTo.icF (c := .gt) (x := (Int32.ofNat q)) (y := (Int8.ofInt 6).toInt32) (n := 23) rfl (cF_gt (by simp only [cj (show q < 100 by omega), mjk_0, mjk_1, mjk_2, mjk_3, mjk_4, mjk_m1, mjk_b6, mjk_b8, mjk_b15, mjk_b16, mjk_b22, mjk_b36, mjk_b48, mjk_b60, mjk_b63, mjk_z]; omega)) rfl).trans ?_
  refine (mjTo.pure 1 (s2 := (12, [(0, .ref 1), (1, .int (Int32.ofNat j)), (2, .int (Int32.ofNat q))], [.int (Int32.ofNat j)], mjHP)) fun _ => rfl).trans ?_
  refine (mjTo.ifF (c := .lt) (x := (Int32.ofNat j)) (n := 23) rfl (cF_lt (by simp only [cj (show j < 100 by omega), mjk_0, mjk_1, mjk_2, mjk_3, mjk_4, mjk_m1, mjk_b6, mjk_b8, mjk_b15, mjk_b16, mjk_b22, mjk_b36, mjk_b48, mjk_b60, mjk_b63, mjk_z]; omega)) rfl).trans ?_
  refine (mjTo.pure 4 (s2 := (20, [(0, .ref 1), (1, .int (Int32.ofNat j)), (2, .int (Int32.ofNat q))], [.int ((Int8.ofInt 16).toInt32 - (Int32.ofNat q)), .int (Int32.ofNat j)], mjHP)) fun _ => rfl).trans ?_
  refine (mjTo.icT (c := .le) (x := (Int32.ofNat j)) (y := ((Int8.ofInt 16).toInt32 - (Int32.ofNat q))) (n := 26) rfl (cT_le (by simp only [cj (show j < 100 by omega), mj_sub16 (show q ≤ 6 by omega), mjk_0, mjk_1, mjk_2, mjk_3, mjk_4, mjk_m1, mjk_b6, mjk_b8, mjk_b15, mjk_b16, mjk_b22, mjk_b36, mjk_b48, mjk_b60, mjk_b63, mjk_z]; omega)) rfl).trans ?_
  refine (mjTo.pure 1 (s2 := (27, [(0, .ref 1), (1, .int (Int32.ofNat j)), (2, .int (Int32.ofNat q))], [.ref 1], mjHP)) fun _ => rfl).trans ?_
  refine (mjTo.virt (as := []) (r := []) (v := some (.int (Int32.ofInt 0))) (h' := mjHP) rfl rfl mjHP_0 (Nat.le_of_ble_eq_true rfl) (x_isFull.up (by decide))).trans ?_
  refine (mjTo.ifT (c := .eq) (x := (Int32.ofInt 0)) (n := 36) rfl (by decide) rfl).trans ?_
  refine (mjTo.pure 2 (s2 := (38, [(0, .ref 1), (1, .int (Int32.ofNat j)), (2, .int (Int32.ofNat q))], [.int (Int32.ofNat q), .ref 1], mjHP)) fun _ => rfl).trans ?_
  refine (mjTo.virt (as := [.int (Int32.ofNat q)]) (r := []) (v := some (.ref 36)) (h' := (mjHP.set 35 (.inl (6, [.int (if (Int32.ofInt 1) < (if (Int8.ofInt 6).toInt32 < (Int32.ofNat q) then (Int8.ofInt 6).toInt32 else (Int32.ofNat q)) then (if (Int8.ofInt 6).toInt32 < (Int32.ofNat q) then (Int8.ofInt 6).toInt32 else (Int32.ofNat q)) else (Int32.ofInt 1)), .int 0, .ref 37])))) rfl rfl mjHP_0 (Nat.le_of_ble_eq_true rfl) ((x_draft (Int32.ofNat q)).up (by decide))).trans ?_
  refine (mjTo.pure 5 (s2 := (48, [(4, .int (Int32.ofInt 0)), (3, .ref 36), (0, .ref 1), (1, .int (Int32.ofNat j)), (2, .int (Int32.ofNat q))], [.int (Int32.ofNat q), .int (Int32.ofInt 0)], (mjHP.set 35 (.inl (6, [.int (if (Int32.ofInt 1) < (if (Int8.ofInt 6).toInt32 < (Int32.ofNat q) then (Int8.ofInt 6).toInt32 else (Int32.ofNat q)) then (if (Int8.ofInt 6).toInt32 < (Int32.ofNat q) then (Int8.ofInt 6).toInt32 else (Int32.ofNat q)) else (Int32.ofInt 1)), .int 0, .ref 37]))))) fun _ => rfl).trans ?_
  refine (mjTo.icF (c := .ge) (x := (Int32.ofInt 0)) (y := (Int32.ofNat q)) (n := 150) rfl (cF_ge (by simp only [cj (show q < 100 by omega), mjk_0, mjk_1, mjk_2, mjk_3, mjk_4, mjk_m1, mjk_b6, mjk_b8, mjk_b15, mjk_b16, mjk_b22, mjk_b36, mjk_b48, mjk_b60, mjk_b63, mjk_z]; omega)) rfl).trans ?_
  refine (mjTo.pure 4 (s2 := (56, [(4, .int (Int32.ofInt 0)), (3, .ref 36), (0, .ref 1), (1, .int (Int32.ofNat j)), (2, .int (Int32.ofNat q))], [.int ((Int32.ofNat j) + (Int32.ofInt 0)), .ref 1], (mjHP.set 35 (.inl (6, [.int (if (Int32.ofInt 1) < (if (Int8.ofInt 6).toInt32 < (Int32.ofNat q) then (Int8.ofInt 6).toInt32 else (Int32.ofNat q)) then (if (Int8.ofInt 6).toInt32 < (Int32.ofNat q) then (Int8.ofInt 6).toInt32 else (Int32.ofNat q)) else (Int32.ofInt 1)), .int 0, .ref 37]))))) fun _ => rfl).trans ?_
  refine (mjTo.virt (as := [.int ((Int32.ofNat j) + (Int32.ofInt 0))]) (r := []) (v := some (.ref (2 * j + 3))) (h' := (mjHP.set 35 (.inl (6, [.int (if (Int32.ofInt 1) < (if (Int8.ofInt 6).toInt32 < (Int32.ofNat q) then (Int8.ofInt 6).toInt32 else (Int32.ofNat q)) then (if (Int8.ofInt 6).toInt32 < (Int32.ofNat q) then (Int8.ofInt 6).toInt32 else (Int32.ofNat q)) else (Int32.ofInt 1)), .int 0, .ref 37])))) rfl rfl hx (Nat.le_of_ble_eq_true rfl) ((show mjDoes 1 13 [.ref 1, .int (Int32.ofNat j + Int32.ofInt 0)] (mjHP.set 35 (.inl (6, [.int (if (Int32.ofInt 1) < (if (Int8.ofInt 6).toInt32 < (Int32.ofNat q) then (Int8.ofInt 6).toInt32 else (Int32.ofNat q)) then (if (Int8.ofInt 6).toInt32 < (Int32.ofNat q) then (Int8.ofInt 6).toInt32 else (Int32.ofNat q)) else (Int32.ofInt 1)), .int 0, .ref 37]))) (some (.ref (2 * j + 3))) (mjHP.set 35 (.inl (6, [.int (if (Int32.ofInt 1) < (if (Int8.ofInt 6).toInt32 < (Int32.ofNat q) then (Int8.ofInt 6).toInt32 else (Int32.ofNat q)) then (if (Int8.ofInt 6).toInt32 < (Int32.ofNat q) then (Int8.ofInt 6).toInt32 else (Int32.ofNat q)) else (Int32.ofInt 1)), .int 0, .ref 37]))) from by rw [mj_add0]; exact x_leafAt_in hj hx hv).up (by decide))).trans ?_
  refine (mjTo.pure 4 (s2 := (68, [(5, .ref (2 * j + 3)), (4, .int (Int32.ofInt 0)), (3, .ref 36), (0, .ref 1), (1, .int (Int32.ofNat j)), (2, .int (Int32.ofNat q))], [.ref (2 * j + 3)], (mjHP.set 35 (.inl (6, [.int (if (Int32.ofInt 1) < (if (Int8.ofInt 6).toInt32 < (Int32.ofNat q) then (Int8.ofInt 6).toInt32 else (Int32.ofNat q)) then (if (Int8.ofInt 6).toInt32 < (Int32.ofNat q) then (Int8.ofInt 6).toInt32 else (Int32.ofNat q)) else (Int32.ofInt 1)), .int 0, .ref 37]))))) fun _ => rfl).trans ?_
  refine (mjTo.virt (as := []) (r := []) (v := some (.int (Int32.ofInt 1))) (h' := (mjHP.set 35 (.inl (6, [.int (if (Int32.ofInt 1) < (if (Int8.ofInt 6).toInt32 < (Int32.ofNat q) then (Int8.ofInt 6).toInt32 else (Int32.ofNat q)) then (if (Int8.ofInt 6).toInt32 < (Int32.ofNat q) then (Int8.ofInt 6).toInt32 else (Int32.ofNat q)) else (Int32.ofInt 1)), .int 0, .ref 37])))) rfl rfl hlf (Nat.le_of_ble_eq_true rfl) ((x_isLost (a := 2 * j + 2) hlf).up (by decide))).trans ?_
  refine (mjTo.ifF (c := .eq) (x := (Int32.ofInt 1)) (n := 85) rfl (by decide) rfl).trans ?_
  refine (mjTo.pure 5 (s2 := (81, [(5, .ref (2 * j + 3)), (4, .int (Int32.ofInt 0)), (3, .ref 36), (0, .ref 1), (1, .int (Int32.ofNat j)), (2, .int (Int32.ofNat q))], [.int ((Int8.ofInt 10).toInt32 * (Int32.ofInt 0)), .int (Int32.ofInt 1), .ref 1], (mjHP.set 35 (.inl (6, [.int (if (Int32.ofInt 1) < (if (Int8.ofInt 6).toInt32 < (Int32.ofNat q) then (Int8.ofInt 6).toInt32 else (Int32.ofNat q)) then (if (Int8.ofInt 6).toInt32 < (Int32.ofNat q) then (Int8.ofInt 6).toInt32 else (Int32.ofNat q)) else (Int32.ofInt 1)), .int 0, .ref 37]))))) fun _ => rfl).trans ?_
  refine (mjTo.virt (as := [.int (Int32.ofInt 1), .int ((Int8.ofInt 10).toInt32 * (Int32.ofInt 0))]) (r := []) (v := some (.int ((Int8.ofInt (-10)).toInt32 - Int32.ofInt 1))) (h' := hh) rfl rfl hx (Nat.le_of_ble_eq_true rfl) (hc.up (by decide))).trans ?_
  exact mjTo.refl
set_option maxRecDepth 4000 in
theorem x_trace (k : Int32) : mjDoes 1 72 [.ref 1, .int k] mjHP (some (.int (Int32.ofInt (-1)))) mjHP := by
  by_cases hq : k.toInt < 0
  · refine mjDoes.of2 (tab := mjTb mjT_72) (q := ((⟨"TableBench", "trace", "(I)I"⟩, prog_1_method_19_code, 2, some (Jvm.ClassFile.FieldType.int)), 0, 588, 586, 676, 1)) (st := (31, [(0, .ref 1), (1, .int k)], [.int (Int32.ofInt (-1))], mjHP)) (e := (.ireturn, 1, mj0)) rfl rfl (Nat.le_of_ble_eq_true rfl) ?_ rfl rfl rfl
    refine (mjTo.pure 1 (s2 := (1, [(0, .ref 1), (1, .int k)], [.int k], mjHP)) fun _ => rfl).trans ?_
    refine (mjTo.ifT (c := .lt) (x := k) (n := 30) rfl (cT_lt (by simp only [mjk_0, mjk_1, mjk_2, mjk_3, mjk_4, mjk_m1, mjk_b6, mjk_b8, mjk_b15, mjk_b16, mjk_b22, mjk_b36, mjk_b48, mjk_b60, mjk_b63, mjk_z]; omega)) rfl).trans ?_
    refine (mjTo.pure 1 (s2 := (31, [(0, .ref 1), (1, .int k)], [.int (Int32.ofInt (-1))], mjHP)) fun _ => rfl).trans ?_
    exact mjTo.refl
  · refine mjDoes.of2 (tab := mjTb mjT_72) (q := ((⟨"TableBench", "trace", "(I)I"⟩, prog_1_method_19_code, 2, some (Jvm.ClassFile.FieldType.int)), 0, 588, 586, 676, 1)) (st := (31, [(0, .ref 1), (1, .int k)], [.int (Int32.ofInt (-1))], mjHP)) (e := (.ireturn, 1, mj0)) rfl rfl (Nat.le_of_ble_eq_true rfl) ?_ rfl rfl rfl
    refine (mjTo.pure 1 (s2 := (1, [(0, .ref 1), (1, .int k)], [.int k], mjHP)) fun _ => rfl).trans ?_
    refine (mjTo.ifF (c := .lt) (x := k) (n := 30) rfl (cF_lt (by simp only [mjk_0, mjk_1, mjk_2, mjk_3, mjk_4, mjk_m1, mjk_b6, mjk_b8, mjk_b15, mjk_b16, mjk_b22, mjk_b36, mjk_b48, mjk_b60, mjk_b63, mjk_z]; omega)) rfl).trans ?_
    refine (mjTo.pure 2 (s2 := (6, [(0, .ref 1), (1, .int k)], [.ref 1, .int k], mjHP)) fun _ => rfl).trans ?_
    refine (mjTo.getf rfl mjHP_0 rfl).trans ?_
    refine (mjTo.icT (c := .ge) (x := k) (y := 0) (n := 30) rfl (cT_ge (by simp only [mjk_0, mjk_1, mjk_2, mjk_3, mjk_4, mjk_m1, mjk_b6, mjk_b8, mjk_b15, mjk_b16, mjk_b22, mjk_b36, mjk_b48, mjk_b60, mjk_b63, mjk_z]; omega)) rfl).trans ?_
    refine (mjTo.pure 1 (s2 := (31, [(0, .ref 1), (1, .int k)], [.int (Int32.ofInt (-1))], mjHP)) fun _ => rfl).trans ?_
    exact mjTo.refl
set_option maxRecDepth 4000 in
theorem x_hasOutcome (k : Int32) : mjDoes 1 154 [.ref 1, .int k] mjHP (some (.int (Int32.ofInt 0))) mjHP := by
  by_cases hq : k.toInt < 0
  · refine mjDoes.of2 (tab := mjTb mjT_154) (q := ((⟨"TableBench", "hasOutcome", "(I)Z"⟩, prog_1_method_52_code, 2, some (Jvm.ClassFile.FieldType.boolean)), 0, 972, 971, 40, 1)) (st := (23, [(0, .ref 1), (1, .int k)], [.int (Int32.ofInt 0)], mjHP)) (e := (.ireturn, 1, mj0)) rfl rfl (Nat.le_of_ble_eq_true rfl) ?_ rfl rfl rfl
    refine (mjTo.pure 1 (s2 := (1, [(0, .ref 1), (1, .int k)], [.int k], mjHP)) fun _ => rfl).trans ?_
    refine (mjTo.ifT (c := .lt) (x := k) (n := 22) rfl (cT_lt (by simp only [mjk_0, mjk_1, mjk_2, mjk_3, mjk_4, mjk_m1, mjk_b6, mjk_b8, mjk_b15, mjk_b16, mjk_b22, mjk_b36, mjk_b48, mjk_b60, mjk_b63, mjk_z]; omega)) rfl).trans ?_
    refine (mjTo.pure 1 (s2 := (23, [(0, .ref 1), (1, .int k)], [.int (Int32.ofInt 0)], mjHP)) fun _ => rfl).trans ?_
    exact mjTo.refl
  · refine mjDoes.of2 (tab := mjTb mjT_154) (q := ((⟨"TableBench", "hasOutcome", "(I)Z"⟩, prog_1_method_52_code, 2, some (Jvm.ClassFile.FieldType.boolean)), 0, 972, 971, 40, 1)) (st := (23, [(0, .ref 1), (1, .int k)], [.int (Int32.ofInt 0)], mjHP)) (e := (.ireturn, 1, mj0)) rfl rfl (Nat.le_of_ble_eq_true rfl) ?_ rfl rfl rfl
    refine (mjTo.pure 1 (s2 := (1, [(0, .ref 1), (1, .int k)], [.int k], mjHP)) fun _ => rfl).trans ?_
    refine (mjTo.ifF (c := .lt) (x := k) (n := 22) rfl (cF_lt (by simp only [mjk_0, mjk_1, mjk_2, mjk_3, mjk_4, mjk_m1, mjk_b6, mjk_b8, mjk_b15, mjk_b16, mjk_b22, mjk_b36, mjk_b48, mjk_b60, mjk_b63, mjk_z]; omega)) rfl).trans ?_
    refine (mjTo.pure 2 (s2 := (6, [(0, .ref 1), (1, .int k)], [.ref 1, .int k], mjHP)) fun _ => rfl).trans ?_
    refine (mjTo.getf rfl mjHP_0 rfl).trans ?_
    refine (mjTo.icT (c := .ge) (x := k) (y := 0) (n := 22) rfl (cT_ge (by simp only [mjk_0, mjk_1, mjk_2, mjk_3, mjk_4, mjk_m1, mjk_b6, mjk_b8, mjk_b15, mjk_b16, mjk_b22, mjk_b36, mjk_b48, mjk_b60, mjk_b63, mjk_z]; omega)) rfl).trans ?_
    refine (mjTo.pure 1 (s2 := (23, [(0, .ref 1), (1, .int k)], [.int (Int32.ofInt 0)], mjHP)) fun _ => rfl).trans ?_
    exact mjTo.refl
set_option maxRecDepth 4000 in
theorem x_sign (k : Int32) : mjDoes 2 153 [.ref 1, .int k] mjHP (some (.int (Int32.ofInt 0))) mjHP := by
  refine mjDoes.of2 (tab := mjTb mjT_153) (q := ((⟨"TableBench", "sign", "(I)I"⟩, prog_1_method_37_code, 2, some (Jvm.ClassFile.FieldType.int)), 0, 968, 966, 1056, 1)) (st := (21, [(0, .ref 1), (1, .int k)], [.int (Int32.ofInt 0)], mjHP)) (e := (.ireturn, 1, mj0)) rfl rfl (Nat.le_of_ble_eq_true rfl) ?_ rfl rfl rfl
  refine (mjTo.pure 2 (s2 := (2, [(0, .ref 1), (1, .int k)], [.int k, .ref 1], mjHP)) fun _ => rfl).trans ?_
  refine (mjTo.virt (as := [.int k]) (r := []) (v := some (.int (Int32.ofInt 0))) (h' := mjHP) rfl rfl mjHP_0 (Nat.le_of_ble_eq_true rfl) ((x_hasOutcome k).up (by decide))).trans ?_
  refine (mjTo.ifT (c := .eq) (x := (Int32.ofInt 0)) (n := 20) rfl (by decide) rfl).trans ?_
  refine (mjTo.pure 1 (s2 := (21, [(0, .ref 1), (1, .int k)], [.int (Int32.ofInt 0)], mjHP)) fun _ => rfl).trans ?_
  exact mjTo.refl
set_option maxRecDepth 4000 in
theorem x_bits (k : Int32) : mjDoes 2 155 [.ref 1, .int k] mjHP (some (.int (Int32.ofInt 0))) mjHP := by
  refine mjDoes.of2 (tab := mjTb mjT_155) (q := ((⟨"TableBench", "bits", "(I)I"⟩, prog_1_method_38_code, 2, some (Jvm.ClassFile.FieldType.int)), 0, 976, 974, 1064, 1)) (st := (21, [(0, .ref 1), (1, .int k)], [.int (Int32.ofInt 0)], mjHP)) (e := (.ireturn, 1, mj0)) rfl rfl (Nat.le_of_ble_eq_true rfl) ?_ rfl rfl rfl
  refine (mjTo.pure 2 (s2 := (2, [(0, .ref 1), (1, .int k)], [.int k, .ref 1], mjHP)) fun _ => rfl).trans ?_
  refine (mjTo.virt (as := [.int k]) (r := []) (v := some (.int (Int32.ofInt 0))) (h' := mjHP) rfl rfl mjHP_0 (Nat.le_of_ble_eq_true rfl) ((x_hasOutcome k).up (by decide))).trans ?_
  refine (mjTo.ifT (c := .eq) (x := (Int32.ofInt 0)) (n := 20) rfl (by decide) rfl).trans ?_
  refine (mjTo.pure 1 (s2 := (21, [(0, .ref 1), (1, .int k)], [.int (Int32.ofInt 0)], mjHP)) fun _ => rfl).trans ?_
  exact mjTo.refl
set_option maxRecDepth 4000 in
theorem x_word (k k2 : Int32) : mjDoes 2 157 [.ref 1, .int k, .int k2] mjHP (some (.long (Int64.ofNat 0))) mjHP := by
  refine mjDoes.of2 (tab := mjTb mjT_157) (q := ((⟨"TableBench", "word", "(II)J"⟩, prog_1_method_39_code, 3, some (Jvm.ClassFile.FieldType.long)), 0, 984, 982, 1072, 1)) (st := (22, [(0, .ref 1), (1, .int k), (2, .int k2)], [.long (Int64.ofNat 0)], mjHP)) (e := (.lreturn, 1, mj0)) rfl rfl (Nat.le_of_ble_eq_true rfl) ?_ rfl rfl rfl
  refine (mjTo.pure 2 (s2 := (2, [(0, .ref 1), (1, .int k), (2, .int k2)], [.int k, .ref 1], mjHP)) fun _ => rfl).trans ?_
  refine (mjTo.virt (as := [.int k]) (r := []) (v := some (.int (Int32.ofInt 0))) (h' := mjHP) rfl rfl mjHP_0 (Nat.le_of_ble_eq_true rfl) ((x_hasOutcome k).up (by decide))).trans ?_
  refine (mjTo.ifT (c := .eq) (x := (Int32.ofInt 0)) (n := 21) rfl (by decide) rfl).trans ?_
  refine (mjTo.pure 1 (s2 := (22, [(0, .ref 1), (1, .int k), (2, .int k2)], [.long (Int64.ofNat 0)], mjHP)) fun _ => rfl).trans ?_
  exact mjTo.refl
set_option maxRecDepth 4000 in
theorem x_findings_out {k : Int32} (hk : k.toInt < 1 ∨ 8 < k.toInt) : mjDoes 1 160 [.ref 1, .int k] mjHP (some (.int ((Int8.ofInt (-102)).toInt32))) mjHP := by
  by_cases hq : k.toInt < 1
  · refine mjDoes.of2 (tab := mjTb mjT_160) (q := ((⟨"TableBench", "findings", "(I)I"⟩, prog_1_method_41_code, 2, some (Jvm.ClassFile.FieldType.int)), 0, 997, 995, 1085, 1)) (st := (22, [(0, .ref 1), (1, .int k)], [.int ((Int8.ofInt (-102)).toInt32)], mjHP)) (e := (.ireturn, 1, mj0)) rfl rfl (Nat.le_of_ble_eq_true rfl) ?_ rfl rfl rfl
    refine (mjTo.pure 2 (s2 := (2, [(0, .ref 1), (1, .int k)], [.int (Int32.ofInt 1), .int k], mjHP)) fun _ => rfl).trans ?_
    refine (mjTo.icT (c := .lt) (x := k) (y := (Int32.ofInt 1)) (n := 20) rfl (cT_lt (by simp only [mjk_0, mjk_1, mjk_2, mjk_3, mjk_4, mjk_m1, mjk_b6, mjk_b8, mjk_b15, mjk_b16, mjk_b22, mjk_b36, mjk_b48, mjk_b60, mjk_b63, mjk_z]; omega)) rfl).trans ?_
    refine (mjTo.pure 1 (s2 := (22, [(0, .ref 1), (1, .int k)], [.int ((Int8.ofInt (-102)).toInt32)], mjHP)) fun _ => rfl).trans ?_
    exact mjTo.refl
  · refine mjDoes.of2 (tab := mjTb mjT_160) (q := ((⟨"TableBench", "findings", "(I)I"⟩, prog_1_method_41_code, 2, some (Jvm.ClassFile.FieldType.int)), 0, 997, 995, 1085, 1)) (st := (22, [(0, .ref 1), (1, .int k)], [.int ((Int8.ofInt (-102)).toInt32)], mjHP)) (e := (.ireturn, 1, mj0)) rfl rfl (Nat.le_of_ble_eq_true rfl) ?_ rfl rfl rfl
    refine (mjTo.pure 2 (s2 := (2, [(0, .ref 1), (1, .int k)], [.int (Int32.ofInt 1), .int k], mjHP)) fun _ => rfl).trans ?_
    refine (mjTo.icF (c := .lt) (x := k) (y := (Int32.ofInt 1)) (n := 20) rfl (cF_lt (by simp only [mjk_0, mjk_1, mjk_2, mjk_3, mjk_4, mjk_m1, mjk_b6, mjk_b8, mjk_b15, mjk_b16, mjk_b22, mjk_b36, mjk_b48, mjk_b60, mjk_b63, mjk_z]; omega)) rfl).trans ?_
    refine (mjTo.pure 2 (s2 := (8, [(0, .ref 1), (1, .int k)], [.int ((Int8.ofInt 8).toInt32), .int k], mjHP)) fun _ => rfl).trans ?_
    refine (mjTo.icT (c := .gt) (x := k) (y := (Int8.ofInt 8).toInt32) (n := 20) rfl (cT_gt (by simp only [mjk_0, mjk_1, mjk_2, mjk_3, mjk_4, mjk_m1, mjk_b6, mjk_b8, mjk_b15, mjk_b16, mjk_b22, mjk_b36, mjk_b48, mjk_b60, mjk_b63, mjk_z]; omega)) rfl).trans ?_
    refine (mjTo.pure 1 (s2 := (22, [(0, .ref 1), (1, .int k)], [.int ((Int8.ofInt (-102)).toInt32)], mjHP)) fun _ => rfl).trans ?_
    exact mjTo.refl
set_option maxRecDepth 4000 in
theorem x_about_out {k : Int32} (hk : k.toInt < 0 ∨ 6 < k.toInt) : mjDoes 1 161 [.ref 1, .int k] mjHP (some (.int ((Int8.ofInt (-102)).toInt32))) mjHP := by
  by_cases hq : k.toInt < 0
  · refine mjDoes.of2 (tab := mjTb mjT_161) (q := ((⟨"TableBench", "about", "(I)I"⟩, prog_1_method_42_code, 2, some (Jvm.ClassFile.FieldType.int)), 0, 1001, 999, 1089, 1)) (st := (12, [(0, .ref 1), (1, .int k)], [.int ((Int8.ofInt (-102)).toInt32)], mjHP)) (e := (.ireturn, 1, mj0)) rfl rfl (Nat.le_of_ble_eq_true rfl) ?_ rfl rfl rfl
    refine (mjTo.pure 1 (s2 := (1, [(0, .ref 1), (1, .int k)], [.int k], mjHP)) fun _ => rfl).trans ?_
    refine (mjTo.ifT (c := .lt) (x := k) (n := 10) rfl (cT_lt (by simp only [mjk_0, mjk_1, mjk_2, mjk_3, mjk_4, mjk_m1, mjk_b6, mjk_b8, mjk_b15, mjk_b16, mjk_b22, mjk_b36, mjk_b48, mjk_b60, mjk_b63, mjk_z]; omega)) rfl).trans ?_
    refine (mjTo.pure 1 (s2 := (12, [(0, .ref 1), (1, .int k)], [.int ((Int8.ofInt (-102)).toInt32)], mjHP)) fun _ => rfl).trans ?_
    exact mjTo.refl
  · refine mjDoes.of2 (tab := mjTb mjT_161) (q := ((⟨"TableBench", "about", "(I)I"⟩, prog_1_method_42_code, 2, some (Jvm.ClassFile.FieldType.int)), 0, 1001, 999, 1089, 1)) (st := (12, [(0, .ref 1), (1, .int k)], [.int ((Int8.ofInt (-102)).toInt32)], mjHP)) (e := (.ireturn, 1, mj0)) rfl rfl (Nat.le_of_ble_eq_true rfl) ?_ rfl rfl rfl
    refine (mjTo.pure 1 (s2 := (1, [(0, .ref 1), (1, .int k)], [.int k], mjHP)) fun _ => rfl).trans ?_
    refine (mjTo.ifF (c := .lt) (x := k) (n := 10) rfl (cF_lt (by simp only [mjk_0, mjk_1, mjk_2, mjk_3, mjk_4, mjk_m1, mjk_b6, mjk_b8, mjk_b15, mjk_b16, mjk_b22, mjk_b36, mjk_b48, mjk_b60, mjk_b63, mjk_z]; omega)) rfl).trans ?_
    refine (mjTo.pure 2 (s2 := (7, [(0, .ref 1), (1, .int k)], [.int ((Int8.ofInt 6).toInt32), .int k], mjHP)) fun _ => rfl).trans ?_
    refine (mjTo.icF (c := .le) (x := k) (y := (Int8.ofInt 6).toInt32) (n := 13) rfl (cF_le (by simp only [mjk_0, mjk_1, mjk_2, mjk_3, mjk_4, mjk_m1, mjk_b6, mjk_b8, mjk_b15, mjk_b16, mjk_b22, mjk_b36, mjk_b48, mjk_b60, mjk_b63, mjk_z]; omega)) rfl).trans ?_
    refine (mjTo.pure 1 (s2 := (12, [(0, .ref 1), (1, .int k)], [.int ((Int8.ofInt (-102)).toInt32)], mjHP)) fun _ => rfl).trans ?_
    exact mjTo.refl
set_option maxRecDepth 4000 in
theorem x_form_out {t l : Int32} (hl : l.toInt < 0 ∨ 15 < l.toInt) : mjDoes 2 141 [.ref 1, .int t, .int l] mjHP (some (.int ((Int8.ofInt (-101)).toInt32))) mjHP := by
  refine mjDoes.of2 (tab := mjTb mjT_141) (q := ((⟨"TableBench", "form", "(II)I"⟩, prog_1_method_31_code, 7, some (Jvm.ClassFile.FieldType.int)), 0, 911, 909, 999, 1)) (st := (24, [(4, .null), (3, .null), (0, .ref 1), (1, .int t), (2, .int l)], [.int ((Int8.ofInt (-101)).toInt32)], mjHP)) (e := (.ireturn, 1, mj0)) rfl rfl (Nat.le_of_ble_eq_true rfl) ?_ rfl rfl rfl
  refine (mjTo.pure 2 (s2 := (2, [(0, .ref 1), (1, .int t), (2, .int l)], [.int t, .ref 1], mjHP)) fun _ => rfl).trans ?_
  refine (mjTo.virt (as := [.int t]) (r := []) (v := some (.null)) (h' := mjHP) rfl rfl mjHP_0 (Nat.le_of_ble_eq_true rfl) ((x_tableAt t mjHP_0 rfl).up (by decide))).trans ?_
  refine (mjTo.pure 3 (s2 := (8, [(3, .null), (0, .ref 1), (1, .int t), (2, .int l)], [.int l, .ref 1], mjHP)) fun _ => rfl).trans ?_
  refine (mjTo.virt (as := [.int l]) (r := []) (v := some (.null)) (h' := mjHP) rfl rfl mjHP_0 (Nat.le_of_ble_eq_true rfl) ((x_leafAt_out mjHP hl).up (by decide))).trans ?_
  refine (mjTo.pure 4 (s2 := (24, [(4, .null), (3, .null), (0, .ref 1), (1, .int t), (2, .int l)], [.int ((Int8.ofInt (-101)).toInt32)], mjHP)) fun _ => rfl).trans ?_
  exact mjTo.refl
set_option maxRecDepth 4000 in
theorem x_form_in {t : Int32} {j : Nat} (hj : j < 16) : mjDoes 2 141 [.ref 1, .int t, .int (Int32.ofNat j)] mjHP (some (.int ((Int8.ofInt (-101)).toInt32))) mjHP := by
  refine mjDoes.of2 (tab := mjTb mjT_141) (q := ((⟨"TableBench", "form", "(II)I"⟩, prog_1_method_31_code, 7, some (Jvm.ClassFile.FieldType.int)), 0, 911, 909, 999, 1)) (st := (24, [(4, .ref (2 * j + 3)), (3, .null), (0, .ref 1), (1, .int t), (2, .int (Int32.ofNat j))], [.int ((Int8.ofInt (-101)).toInt32)], mjHP)) (e := (.ireturn, 1, mj0)) rfl rfl (Nat.le_of_ble_eq_true rfl) ?_ rfl rfl rfl
  refine (mjTo.pure 2 (s2 := (2, [(0, .ref 1), (1, .int t), (2, .int (Int32.ofNat j))], [.int t, .ref 1], mjHP)) fun _ => rfl).trans ?_
  refine (mjTo.virt (as := [.int t]) (r := []) (v := some (.null)) (h' := mjHP) rfl rfl mjHP_0 (Nat.le_of_ble_eq_true rfl) ((x_tableAt t mjHP_0 rfl).up (by decide))).trans ?_
  refine (mjTo.pure 3 (s2 := (8, [(3, .null), (0, .ref 1), (1, .int t), (2, .int (Int32.ofNat j))], [.int (Int32.ofNat j), .ref 1], mjHP)) fun _ => rfl).trans ?_
  refine (mjTo.virt (as := [.int (Int32.ofNat j)]) (r := []) (v := some (.ref (2 * j + 3))) (h' := mjHP) rfl rfl mjHP_0 (Nat.le_of_ble_eq_true rfl) ((x_leafAt_in hj mjHP_0 mjHP_1).up (by decide))).trans ?_
  refine (mjTo.pure 4 (s2 := (24, [(4, .ref (2 * j + 3)), (3, .null), (0, .ref 1), (1, .int t), (2, .int (Int32.ofNat j))], [.int ((Int8.ofInt (-101)).toInt32)], mjHP)) fun _ => rfl).trans ?_
  exact mjTo.refl
