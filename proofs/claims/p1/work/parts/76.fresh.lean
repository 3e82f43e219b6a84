/-! A fresh object: the other answers of the reference, whatever the class holds. -/
set_option maxRecDepth 4000 in
theorem m_leaf_out {l lane n : Int32} {h : mjH} (hl : l.toInt < 0 ∨ 15 < l.toInt) : mjDoes 3 167 [.ref 465, .int l, .int lane, .int n] h (some (.int ((Int8.ofInt (-101)).toInt32))) h := by
  refine mjDoes.of2 (tab := mjTb mjT_167) (q := ((⟨"TableBenchModel", "leaf", "(III)I"⟩, prog_13_method_7_code, 5, some (Jvm.ClassFile.FieldType.int)), 0, 1183, 1181, 1271, 13)) (st := (9, [(0, .ref 465), (1, .int l), (2, .int lane), (3, .int n)], [.int ((Int8.ofInt (-101)).toInt32)], h)) (e := (.ireturn, 1, mj0)) rfl rfl (Nat.le_of_ble_eq_true rfl) ?_ rfl rfl rfl
  refine (mjTo.pure 1 (s2 := (1, [(0, .ref 465), (1, .int l), (2, .int lane), (3, .int n)], [.int l], h)) fun _ => rfl).trans ?_
  refine (mjTo.stat (as := [.int l]) (r := []) (v := some (.int (Int32.ofInt 0))) (h' := h) rfl rfl (Nat.le_of_ble_eq_true rfl) ((m_isLeaf_out h hl).up (by decide))).trans ?_
  refine (mjTo.ifF (c := .ne) (x := (Int32.ofInt 0)) (n := 10) rfl (by decide) rfl).trans ?_
  refine (mjTo.pure 1 (s2 := (9, [(0, .ref 465), (1, .int l), (2, .int lane), (3, .int n)], [.int ((Int8.ofInt (-101)).toInt32)], h)) fun _ => rfl).trans ?_
  exact mjTo.refl
set_option maxRecDepth 4000 in
theorem m_leaf_lane {j : Nat} {lane n : Int32} {h : mjH} (hj : j < 16) (hl : lane.toInt < 0 ∨ 3 < lane.toInt) : mjDoes 3 167 [.ref 465, .int (Int32.ofNat j), .int lane, .int n] h (some (.int ((Int8.ofInt (-102)).toInt32))) h := by
  refine mjDoes.of2 (tab := mjTb mjT_167) (q := ((⟨"TableBenchModel", "leaf", "(III)I"⟩, prog_13_method_7_code, 5, some (Jvm.ClassFile.FieldType.int)), 0, 1183, 1181, 1271, 13)) (st := (27, [(0, .ref 465), (1, .int (Int32.ofNat j)), (2, .int lane), (3, .int n)], [.int ((Int8.ofInt (-102)).toInt32)], h)) (e := (.ireturn, 1, mj0)) rfl rfl (Nat.le_of_ble_eq_true rfl) ?_ rfl rfl rfl
  refine (mjTo.pure 1 (s2 := (1, [(0, .ref 465), (1, .int (Int32.ofNat j)), (2, .int lane), (3, .int n)], [.int (Int32.ofNat j)], h)) fun _ => rfl).trans ?_
  refine (mjTo.stat (as := [.int (Int32.ofNat j)]) (r := []) (v := some (.int (Int32.ofInt 1))) (h' := h) rfl rfl (Nat.le_of_ble_eq_true rfl) ((m_isLeaf_in h (by simp only [cj (show j < 100 by omega)]; omega) (by simp only [cj (show j < 100 by omega)]; omega)).up (by decide))).trans ?_
  refine (mjTo.ifT (c := .ne) (x := (Int32.ofInt 1)) (n := 10) rfl (by decide) rfl).trans ?_
  refine (mjTo.pure 3 (s2 := (13, [(0, .ref 465), (1, .int (Int32.ofNat j)), (2, .int lane), (3, .int n)], [.int (Int32.ofInt 3), .int (Int32.ofInt 0), .int lane], h)) fun _ => rfl).trans ?_
  refine (mjTo.stat (as := [.int lane, .int (Int32.ofInt 0), .int (Int32.ofInt 3)]) (r := []) (v := some (.int (Int32.ofInt 0))) (h' := h) rfl rfl (Nat.le_of_ble_eq_true rfl) ((m_in_out h (fun q => by have h3 := Int32.le_iff_toInt_le.mp q.1; have h4 := Int32.le_iff_toInt_le.mp q.2; simp only [mjk_0, mjk_1, mjk_2, mjk_3, mjk_4, mjk_m1, mjk_b6, mjk_b8, mjk_b15, mjk_b16, mjk_b22, mjk_b36, mjk_b48, mjk_b60, mjk_b63, mjk_z] at h3 h4; omega)).up (by decide))).trans ?_
  refine (mjTo.ifT (c := .eq) (x := (Int32.ofInt 0)) (n := 25) rfl (by decide) rfl).trans ?_
  refine (mjTo.pure 1 (s2 := (27, [(0, .ref 465), (1, .int (Int32.ofNat j)), (2, .int lane), (3, .int n)], [.int ((Int8.ofInt (-102)).toInt32)], h)) fun _ => rfl).trans ?_
  exact mjTo.refl
set_option maxRecDepth 4000 in
theorem m_leaf_big {j : Nat} {lane n : Int32} {h : mjH} (hj : j < 16) (h1 : 0 ≤ lane.toInt) (h2 : lane.toInt ≤ 3) (h3 : 8 < n.toInt) : mjDoes 3 167 [.ref 465, .int (Int32.ofNat j), .int lane, .int n] h (some (.int ((Int8.ofInt (-102)).toInt32))) h := by
  refine mjDoes.of2 (tab := mjTb mjT_167) (q := ((⟨"TableBenchModel", "leaf", "(III)I"⟩, prog_13_method_7_code, 5, some (Jvm.ClassFile.FieldType.int)), 0, 1183, 1181, 1271, 13)) (st := (27, [(0, .ref 465), (1, .int (Int32.ofNat j)), (2, .int lane), (3, .int n)], [.int ((Int8.ofInt (-102)).toInt32)], h)) (e := (.ireturn, 1, mj0)) rfl rfl (Nat.le_of_ble_eq_true rfl) ?_ rfl rfl rfl
  refine (mjTo.pure 1 (s2 := (1, [(0, .ref 465), (1, .int (Int32.ofNat j)), (2, .int lane), (3, .int n)], [.int (Int32.ofNat j)], h)) fun _ => rfl).trans ?_
  refine (mjTo.stat (as := [.int (Int32.ofNat j)]) (r := []) (v := some (.int (Int32.ofInt 1))) (h' := h) rfl rfl (Nat.le_of_ble_eq_true rfl) ((m_isLeaf_in h (by simp only [cj (show j < 100 by omega)]; omega) (by simp only [cj (show j < 100 by omega)]; omega)).up (by decide))).trans ?_
  refine (mjTo.ifT (c := .ne) (x := (Int32.ofInt 1)) (n := 10) rfl (by decide) rfl).trans ?_
  refine (mjTo.pure 3 (s2 := (13, [(0, .ref 465), (1, .int (Int32.ofNat j)), (2, .int lane), (3, .int n)], [.int (Int32.ofInt 3), .int (Int32.ofInt 0), .int lane], h)) fun _ => rfl).trans ?_
  refine (mjTo.stat (as := [.int lane, .int (Int32.ofInt 0), .int (Int32.ofInt 3)]) (r := []) (v := some (.int (Int32.ofInt 1))) (h' := h) rfl rfl (Nat.le_of_ble_eq_true rfl) ((m_in_ok h (Int32.le_iff_toInt_le.mpr (by simp only [mjk_0, mjk_1, mjk_2, mjk_3, mjk_4, mjk_m1, mjk_b6, mjk_b8, mjk_b15, mjk_b16, mjk_b22, mjk_b36, mjk_b48, mjk_b60, mjk_b63, mjk_z]; omega)) (Int32.le_iff_toInt_le.mpr (by simp only [mjk_0, mjk_1, mjk_2, mjk_3, mjk_4, mjk_m1, mjk_b6, mjk_b8, mjk_b15, mjk_b16, mjk_b22, mjk_b36, mjk_b48, mjk_b60, mjk_b63, mjk_z]; omega))).up (by decide))).trans ?_
  refine (mjTo.ifF (c := .eq) (x := (Int32.ofInt 1)) (n := 25) rfl (by decide) rfl).trans ?_
  refine (mjTo.pure 2 (s2 := (22, [(0, .ref 465), (1, .int (Int32.ofNat j)), (2, .int lane), (3, .int n)], [.int ((Int8.ofInt 8).toInt32), .int n], h)) fun _ => rfl).trans ?_
  refine (mjTo.icF (c := .le) (x := n) (y := (Int8.ofInt 8).toInt32) (n := 28) rfl (cF_le (by simp only [mjk_0, mjk_1, mjk_2, mjk_3, mjk_4, mjk_m1, mjk_b6, mjk_b8, mjk_b15, mjk_b16, mjk_b22, mjk_b36, mjk_b48, mjk_b60, mjk_b63, mjk_z]; omega)) rfl).trans ?_
  refine (mjTo.pure 1 (s2 := (27, [(0, .ref 465), (1, .int (Int32.ofNat j)), (2, .int lane), (3, .int n)], [.int ((Int8.ofInt (-102)).toInt32)], h)) fun _ => rfl).trans ?_
  exact mjTo.refl
set_option maxRecDepth 4000 in
theorem m_leaf_size {j : Nat} {lane n : Int32} {h : mjH} (hF : mjFM h) (hj : j < 16) (h1 : 0 ≤ lane.toInt) (h2 : lane.toInt ≤ 3) (h3 : n.toInt < 0) : ∃ h1, mjDoes 3 167 [.ref 465, .int (Int32.ofNat j), .int lane, .int n] h (some (.int ((Int8.ofInt (-10)).toInt32 - Int32.ofInt 4))) h1 := by
  obtain ⟨hh, hc⟩ := m_finds_hp (f := Int32.ofInt 4) (Or.inr rfl) hF.m rfl hF.found
  refine ⟨hh, ?_⟩
  refine mjDoes.of2 (tab := mjTb mjT_167) (q := ((⟨"TableBenchModel", "leaf", "(III)I"⟩, prog_13_method_7_code, 5, some (Jvm.ClassFile.FieldType.int)), 0, 1183, 1181, 1271, 13)) (st := (37, [(0, .ref 465), (1, .int (Int32.ofNat j)), (2, .int lane), (3, .int n)], [.int ((Int8.ofInt (-10)).toInt32 - Int32.ofInt 4)], hh)) (e := (.ireturn, 1, mj0)) rfl rfl (Nat.le_of_ble_eq_true rfl) ?_ rfl rfl rfl
  refine (mjTo.pure 1 (s2 := (1, [(0, .ref 465), (1, .int (Int32.ofNat j)), (2, .int lane), (3, .int n)], [.int (Int32.ofNat j)], h)) fun _ => rfl).trans ?_
  refine (mjTo.stat (as := [.int (Int32.ofNat j)]) (r := []) (v := some (.int (Int32.ofInt 1))) (h' := h) rfl rfl (Nat.le_of_ble_eq_true rfl) ((m_isLeaf_in h (by simp only [cj (show j < 100 by omega)]; omega) (by simp only [cj (show j < 100 by omega)]; omega)).up (by decide))).trans ?_
  refine (mjTo.ifT (c := .ne) (x := (Int32.ofInt 1)) (n := 10) rfl (by decide) rfl).trans ?_
  refine (mjTo.pure 3 (s2 := (13, [(0, .ref 465), (1, .int (Int32.ofNat j)), (2, .int lane), (3, .int n)], [.int (Int32.ofInt 3), .int (Int32.ofInt 0), .int lane], h)) fun _ => rfl).trans ?_
  refine (mjTo.stat (as := [.int lane, .int (Int32.ofInt 0), .int (Int32.ofInt 3)]) (r := []) (v := some (.int (Int32.ofInt 1))) (h' := h) rfl rfl (Nat.le_of_ble_eq_true rfl) ((m_in_ok h (Int32.le_iff_toInt_le.mpr (by simp only [mjk_0, mjk_1, mjk_2, mjk_3, mjk_4, mjk_m1, mjk_b6, mjk_b8, mjk_b15, mjk_b16, mjk_b22, mjk_b36, mjk_b48, mjk_b60, mjk_b63, mjk_z]; omega)) (Int32.le_iff_toInt_le.mpr (by simp only [mjk_0, mjk_1, mjk_2, mjk_3, mjk_4, mjk_m1, mjk_b6, mjk_b8, mjk_b15, mjk_b16, mjk_b22, mjk_b36, mjk_b48, mjk_b60, mjk_b63, mjk_z]; omega))).up (by decide))).trans ?_
  refine (mjTo.ifF (c := .eq) (x := (Int32.ofInt 1)) (n := 25) rfl (by decide) rfl).trans ?_
  refine (mjTo.pure 2 (s2 := (22, [(0, .ref 465), (1, .int (Int32.ofNat j)), (2, .int lane), (3, .int n)], [.int ((Int8.ofInt 8).toInt32), .int n], h)) fun _ => rfl).trans ?_
  refine (mjTo.icT (c := .le) (x := n) (y := (Int8.ofInt 8).toInt32) (n := 28) rfl (cT_le (by simp only [mjk_0, mjk_1, mjk_2, mjk_3, mjk_4, mjk_m1, mjk_b6, mjk_b8, mjk_b15, mjk_b16, mjk_b22, mjk_b36, mjk_b48, mjk_b60, mjk_b63, mjk_z]; omega)) rfl).trans ?_
  refine (mjTo.pure 1 (s2 := (29, [(0, .ref 465), (1, .int (Int32.ofNat j)), (2, .int lane), (3, .int n)], [.int n], h)) fun _ => rfl).trans ?_
  refine (mjTo.ifF (c := .ge) (x := n) (n := 38) rfl (cF_ge (by simp only [mjk_0, mjk_1, mjk_2, mjk_3, mjk_4, mjk_m1, mjk_b6, mjk_b8, mjk_b15, mjk_b16, mjk_b22, mjk_b36, mjk_b48, mjk_b60, mjk_b63, mjk_z]; omega)) rfl).trans ?_
  refine (mjTo.pure 2 (s2 := (34, [(0, .ref 465), (1, .int (Int32.ofNat j)), (2, .int lane), (3, .int n)], [.int (Int32.ofInt 4), .ref 465], h)) fun _ => rfl).trans ?_
  refine (mjTo.virt (as := [.int (Int32.ofInt 4)]) (r := []) (v := some (.int ((Int8.ofInt (-10)).toInt32 - Int32.ofInt 4))) (h' := hh) rfl rfl hF.m (Nat.le_of_ble_eq_true rfl) (hc.up (by decide))).trans ?_
  exact mjTo.refl
theorem mj_8jk {j k : Nat} : (Int8.ofInt 8).toInt32 * Int32.ofNat j + Int32.ofNat k = Int32.ofNat (8 * j + k) := by
  rw [show (Int8.ofInt 8).toInt32 = nI 8 from by decide]
  show nI 8 * nI j + nI k = nI (8 * j + k)
  rw [pk_mul, nI_add]
set_option maxRecDepth 4000 in
theorem m_leaf_loop {j : Nat} (hj : j < 16) {lane n : Int32} {h : mjH} (hm : h[464]? = some (.inl (11, mjMf))) (hw : h[467]? = some (.inr (.inr (.inl (List.replicate 128 0))))) : ∀ m k : Nat, k + m = 8 → mjTo 2 5 none (mjTb mjT_167) (55, [(4, .int (Int32.ofNat k)), (0, .ref 465), (1, .int (Int32.ofNat j)), (2, .int lane), (3, .int n)], [], h) (81, [(4, .int (Int32.ofNat 8)), (0, .ref 465), (1, .int (Int32.ofNat j)), (2, .int lane), (3, .int n)], [], h) := by
  intro m
  induction m with
  | zero =>
    intro k hk
    have hk2 : k = 8 := by omega
    subst hk2
    refine (mjTo.pure 2 (s2 := (59, [(4, .int (Int32.ofNat 8)), (0, .ref 465), (1, .int (Int32.ofNat j)), (2, .int lane), (3, .int n)], [.int ((Int8.ofInt 8).toInt32), .int (Int32.ofNat 8)], h)) fun _ => rfl).trans ?_
    refine (mjTo.icT (c := .ge) (x := (Int32.ofNat 8)) (y := (Int8.ofInt 8).toInt32) (n := 81) rfl (by decide) rfl).trans ?_
    exact mjTo.refl
  | succ m ih =>
    intro k hk
    have hkl : k < 8 := by omega
    refine (mjTo.pure 2 (s2 := (59, [(4, .int (Int32.ofNat k)), (0, .ref 465), (1, .int (Int32.ofNat j)), (2, .int lane), (3, .int n)], [.int ((Int8.ofInt 8).toInt32), .int (Int32.ofNat k)], h)) fun _ => rfl).trans ?_
    refine (mjTo.icF (c := .ge) (x := (Int32.ofNat k)) (y := (Int8.ofInt 8).toInt32) (n := 81) rfl (cF_ge (by simp only [cj (show k < 100 by omega), mjk_0, mjk_1, mjk_2, mjk_3, mjk_4, mjk_m1, mjk_b6, mjk_b8, mjk_b15, mjk_b16, mjk_b22, mjk_b36, mjk_b48, mjk_b60, mjk_b63, mjk_z]; omega)) rfl).trans ?_
    refine (mjTo.pure 1 (s2 := (63, [(4, .int (Int32.ofNat k)), (0, .ref 465), (1, .int (Int32.ofNat j)), (2, .int lane), (3, .int n)], [.ref 465], h)) fun _ => rfl).trans ?_
    refine (mjTo.getf rfl hm rfl).trans ?_
    refine (mjTo.pure 6 (s2 := (74, [(4, .int (Int32.ofNat k)), (0, .ref 465), (1, .int (Int32.ofNat j)), (2, .int lane), (3, .int n)], [.long (Int64.ofNat 0), .int (((Int8.ofInt 8).toInt32 * (Int32.ofNat j)) + (Int32.ofNat k)), .ref 468], h)) fun _ => rfl).trans ?_
    refine (mjTo.last0 (a := 467) rfl hw (by rw [mj_8jk]; exact mjIn_nat (show 8 * j + k < 128 by omega) (by decide)) rfl).trans ?_
    refine (mjTo.pure 2 (s2 := (55, [(4, .int ((Int32.ofNat k) + Int32.ofInt 1)), (0, .ref 465), (1, .int (Int32.ofNat j)), (2, .int lane), (3, .int n)], [], h)) fun _ => rfl).trans ?_
    rw [mj_inc k]
    exact ih (k + 1) (by omega)
set_option maxRecDepth 4000 in
theorem m_leaf_ok {j : Nat} {lane n : Int32} {h : mjH} (hF : mjFM h) (hj : j < 16) (h1 : 0 ≤ lane.toInt) (h2 : lane.toInt ≤ 3) (h3 : 0 ≤ n.toInt) (h4 : n.toInt ≤ 8) : ∃ h1, mjDoes 3 167 [.ref 465, .int (Int32.ofNat j), .int lane, .int n] h (some (.int n)) h1 := by
  have g1m : (h.set 465 (.inr (.inl ((List.replicate 16 (-1)).set (Int32.ofNat j).toNatClampNeg n))))[464]? = some (.inl (11, mjMf)) := by rw [List.getElem?_set_ne (by decide)]; exact hF.m
  have g1l : (h.set 465 (.inr (.inl ((List.replicate 16 (-1)).set (Int32.ofNat j).toNatClampNeg n))))[466]? = some (.inr (.inl (List.replicate 16 0))) := by rw [List.getElem?_set_ne (by decide)]; exact (hF 466 (by decide)).trans mjHP_466
  have g2m : ((h.set 465 (.inr (.inl ((List.replicate 16 (-1)).set (Int32.ofNat j).toNatClampNeg n)))).set 466 (.inr (.inl ((List.replicate 16 0).set (Int32.ofNat j).toNatClampNeg lane))))[464]? = some (.inl (11, mjMf)) := by rw [List.getElem?_set_ne (by decide)]; exact g1m
  have g2w : ((h.set 465 (.inr (.inl ((List.replicate 16 (-1)).set (Int32.ofNat j).toNatClampNeg n)))).set 466 (.inr (.inl ((List.replicate 16 0).set (Int32.ofNat j).toNatClampNeg lane))))[467]? = some (.inr (.inr (.inl (List.replicate 128 0)))) := by rw [List.getElem?_set_ne (by decide), List.getElem?_set_ne (by decide)]; exact (hF 467 (by decide)).trans mjHP_467
  refine ⟨((h.set 465 (.inr (.inl ((List.replicate 16 (-1)).set (Int32.ofNat j).toNatClampNeg n)))).set 466 (.inr (.inl ((List.replicate 16 0).set (Int32.ofNat j).toNatClampNeg lane)))), ?_⟩
  refine mjDoes.of2 (tab := mjTb mjT_167) (q := ((⟨"TableBenchModel", "leaf", "(III)I"⟩, prog_13_method_7_code, 5, some (Jvm.ClassFile.FieldType.int)), 0, 1183, 1181, 1271, 13)) (st := (82, [(4, .int (Int32.ofNat 8)), (0, .ref 465), (1, .int (Int32.ofNat j)), (2, .int lane), (3, .int n)], [.int n], ((h.set 465 (.inr (.inl ((List.replicate 16 (-1)).set (Int32.ofNat j).toNatClampNeg n)))).set 466 (.inr (.inl ((List.replicate 16 0).set (Int32.ofNat j).toNatClampNeg lane)))))) (e := (.ireturn, 1, mj0)) rfl rfl (Nat.le_of_ble_eq_true rfl) ?_ rfl rfl rfl
  refine (mjTo.pure 1 (s2 := (1, [(0, .ref 465), (1, .int (Int32.ofNat j)), (2, .int lane), (3, .int n)], [.int (Int32.ofNat j)], h)) fun _ => rfl).trans ?_
  refine (mjTo.stat (as := [.int (Int32.ofNat j)]) (r := []) (v := some (.int (Int32.ofInt 1))) (h' := h) rfl rfl (Nat.le_of_ble_eq_true rfl) ((m_isLeaf_in h (by simp only [cj (show j < 100 by omega)]; omega) (by simp only [cj (show j < 100 by omega)]; omega)).up (by decide))).trans ?_
  refine (mjTo.ifT (c := .ne) (x := (Int32.ofInt 1)) (n := 10) rfl (by decide) rfl).trans ?_
  refine (mjTo.pure 3 (s2 := (13, [(0, .ref 465), (1, .int (Int32.ofNat j)), (2, .int lane), (3, .int n)], [.int (Int32.ofInt 3), .int (Int32.ofInt 0), .int lane], h)) fun _ => rfl).trans ?_
  refine (mjTo.stat (as := [.int lane, .int (Int32.ofInt 0), .int (Int32.ofInt 3)]) (r := []) (v := some (.int (Int32.ofInt 1))) (h' := h) rfl rfl (Nat.le_of_ble_eq_true rfl) ((m_in_ok h (Int32.le_iff_toInt_le.mpr (by simp only [mjk_0, mjk_1, mjk_2, mjk_3, mjk_4, mjk_m1, mjk_b6, mjk_b8, mjk_b15, mjk_b16, mjk_b22, mjk_b36, mjk_b48, mjk_b60, mjk_b63, mjk_z]; omega)) (Int32.le_iff_toInt_le.mpr (by simp only [mjk_0, mjk_1, mjk_2, mjk_3, mjk_4, mjk_m1, mjk_b6, mjk_b8, mjk_b15, mjk_b16, mjk_b22, mjk_b36, mjk_b48, mjk_b60, mjk_b63, mjk_z]; omega))).up (by decide))).trans ?_
  refine (mjTo.ifF (c := .eq) (x := (Int32.ofInt 1)) (n := 25) rfl (by decide) rfl).trans ?_
  refine (mjTo.pure 2 (s2 := (22, [(0, .ref 465), (1, .int (Int32.ofNat j)), (2, .int lane), (3, .int n)], [.int ((Int8.ofInt 8).toInt32), .int n], h)) fun _ => rfl).trans ?_
  refine (mjTo.icT (c := .le) (x := n) (y := (Int8.ofInt 8).toInt32) (n := 28) rfl (cT_le (by simp only [mjk_0, mjk_1, mjk_2, mjk_3, mjk_4, mjk_m1, mjk_b6, mjk_b8, mjk_b15, mjk_b16, mjk_b22, mjk_b36, mjk_b48, mjk_b60, mjk_b63, mjk_z]; omega)) rfl).trans ?_
  refine (mjTo.pure 1 (s2 := (29, [(0, .ref 465), (1, .int (Int32.ofNat j)), (2, .int lane), (3, .int n)], [.int n], h)) fun _ => rfl).trans ?_
  refine (mjTo.ifT (c := .ge) (x := n) (n := 38) rfl (cT_ge (by simp only [mjk_0, mjk_1, mjk_2, mjk_3, mjk_4, mjk_m1, mjk_b6, mjk_b8, mjk_b15, mjk_b16, mjk_b22, mjk_b36, mjk_b48, mjk_b60, mjk_b63, mjk_z]; omega)) rfl).trans ?_
  refine (mjTo.pure 1 (s2 := (39, [(0, .ref 465), (1, .int (Int32.ofNat j)), (2, .int lane), (3, .int n)], [.ref 465], h)) fun _ => rfl).trans ?_
  refine (mjTo.getf rfl hF.m rfl).trans ?_
  refine (mjTo.pure 2 (s2 := (44, [(0, .ref 465), (1, .int (Int32.ofNat j)), (2, .int lane), (3, .int n)], [.int n, .int (Int32.ofNat j), .ref 466], h)) fun _ => rfl).trans ?_
  refine (mjTo.iast (a := 465) rfl hF.size (by rw [List.length_replicate]; exact mjIn_nat hj (by decide))).trans ?_
  refine (mjTo.pure 1 (s2 := (46, [(0, .ref 465), (1, .int (Int32.ofNat j)), (2, .int lane), (3, .int n)], [.ref 465], (h.set 465 (.inr (.inl ((List.replicate 16 (-1)).set (Int32.ofNat j).toNatClampNeg n)))))) fun _ => rfl).trans ?_
  refine (mjTo.getf rfl g1m rfl).trans ?_
  refine (mjTo.pure 2 (s2 := (51, [(0, .ref 465), (1, .int (Int32.ofNat j)), (2, .int lane), (3, .int n)], [.int lane, .int (Int32.ofNat j), .ref 467], (h.set 465 (.inr (.inl ((List.replicate 16 (-1)).set (Int32.ofNat j).toNatClampNeg n)))))) fun _ => rfl).trans ?_
  refine (mjTo.iast (a := 466) rfl g1l (by rw [List.length_replicate]; exact mjIn_nat hj (by decide))).trans ?_
  refine (mjTo.pure 2 (s2 := (55, [(4, .int (Int32.ofInt 0)), (0, .ref 465), (1, .int (Int32.ofNat j)), (2, .int lane), (3, .int n)], [], ((h.set 465 (.inr (.inl ((List.replicate 16 (-1)).set (Int32.ofNat j).toNatClampNeg n)))).set 466 (.inr (.inl ((List.replicate 16 0).set (Int32.ofNat j).toNatClampNeg lane)))))) fun _ => rfl).trans ?_
  refine (m_leaf_loop hj g2m g2w 8 0 rfl).trans ?_
  exact mjTo.pure 1 fun _ => rfl
set_option maxRecDepth 4000 in
theorem m_lose_out {l : Int32} {h : mjH} (hl : l.toInt < 0 ∨ 15 < l.toInt) : mjDoes 3 172 [.ref 465, .int l] h (some (.int ((Int8.ofInt (-101)).toInt32))) h := by
  refine mjDoes.of2 (tab := mjTb mjT_172) (q := ((⟨"TableBenchModel", "lose", "(I)I"⟩, prog_13_method_9_code, 3, some (Jvm.ClassFile.FieldType.int)), 0, 1204, 1202, 1292, 13)) (st := (9, [(0, .ref 465), (1, .int l)], [.int ((Int8.ofInt (-101)).toInt32)], h)) (e := (.ireturn, 1, mj0)) rfl rfl (Nat.le_of_ble_eq_true rfl) ?_ rfl rfl rfl
  refine (mjTo.pure 1 (s2 := (1, [(0, .ref 465), (1, .int l)], [.int l], h)) fun _ => rfl).trans ?_
  refine (mjTo.stat (as := [.int l]) (r := []) (v := some (.int (Int32.ofInt 0))) (h' := h) rfl rfl (Nat.le_of_ble_eq_true rfl) ((m_isLeaf_out h hl).up (by decide))).trans ?_
  refine (mjTo.ifF (c := .ne) (x := (Int32.ofInt 0)) (n := 10) rfl (by decide) rfl).trans ?_
  refine (mjTo.pure 1 (s2 := (9, [(0, .ref 465), (1, .int l)], [.int ((Int8.ofInt (-101)).toInt32)], h)) fun _ => rfl).trans ?_
  exact mjTo.refl
set_option maxRecDepth 4000 in
theorem m_lose_in {j : Nat} {h : mjH} (hF : mjFM h) (hj : j < 16) : ∃ h1, mjDoes 3 172 [.ref 465, .int (Int32.ofNat j)] h (some (.int ((Int8.ofInt (-10)).toInt32 - Int32.ofInt 1))) h1 := by
  obtain ⟨hh, hc⟩ := m_finds_hp (f := Int32.ofInt 1) (Or.inl rfl) hF.m rfl hF.found
  refine ⟨hh, ?_⟩
  refine mjDoes.of2 (tab := mjTb mjT_172) (q := ((⟨"TableBenchModel", "lose", "(I)I"⟩, prog_13_method_9_code, 3, some (Jvm.ClassFile.FieldType.int)), 0, 1204, 1202, 1292, 13)) (st := (25, [(0, .ref 465), (1, .int (Int32.ofNat j))], [.int ((Int8.ofInt (-10)).toInt32 - Int32.ofInt 1)], hh)) (e := (.ireturn, 1, mj0)) rfl rfl (Nat.le_of_ble_eq_true rfl) ?_ rfl rfl rfl
  refine (mjTo.pure 1 (s2 := (1, [(0, .ref 465), (1, .int (Int32.ofNat j))], [.int (Int32.ofNat j)], h)) fun _ => rfl).trans ?_
  refine (mjTo.stat (as := [.int (Int32.ofNat j)]) (r := []) (v := some (.int (Int32.ofInt 1))) (h' := h) rfl rfl (Nat.le_of_ble_eq_true rfl) ((m_isLeaf_in h (by simp only [cj (show j < 100 by omega)]; omega) (by simp only [cj (show j < 100 by omega)]; omega)).up (by decide))).trans ?_
  refine (mjTo.ifT (c := .ne) (x := (Int32.ofInt 1)) (n := 10) rfl (by decide) rfl).trans ?_
  refine (mjTo.pure 1 (s2 := (11, [(0, .ref 465), (1, .int (Int32.ofNat j))], [.ref 465], h)) fun _ => rfl).trans ?_
  refine (mjTo.getf rfl hF.m rfl).trans ?_
  refine (mjTo.pure 1 (s2 := (15, [(0, .ref 465), (1, .int (Int32.ofNat j))], [.int (Int32.ofNat j), .ref 466], h)) fun _ => rfl).trans ?_
  refine (mjTo.iald (a := 465) rfl hF.size (mjAt_rep hj (by decide))).trans ?_
  refine (mjTo.pure 1 (s2 := (17, [(0, .ref 465), (1, .int (Int32.ofNat j))], [.int (Int32.ofInt (-1)), .int (-1 : Int32)], h)) fun _ => rfl).trans ?_
  refine (mjTo.icF (c := .ne) (x := (-1 : Int32)) (y := (Int32.ofInt (-1))) (n := 26) rfl (by decide) rfl).trans ?_
  refine (mjTo.pure 2 (s2 := (22, [(0, .ref 465), (1, .int (Int32.ofNat j))], [.int (Int32.ofInt 1), .ref 465], h)) fun _ => rfl).trans ?_
  refine (mjTo.virt (as := [.int (Int32.ofInt 1)]) (r := []) (v := some (.int ((Int8.ofInt (-10)).toInt32 - Int32.ofInt 1))) (h' := hh) rfl rfl hF.m (Nat.le_of_ble_eq_true rfl) (hc.up (by decide))).trans ?_
  exact mjTo.refl
set_option maxRecDepth 4000 in
theorem m_put_out {l lane i : Int32} {w : Int64} {h : mjH} (hl : l.toInt < 0 ∨ 15 < l.toInt) : mjDoes 3 171 [.ref 465, .int l, .int lane, .int i, .long w] h (some (.int ((Int8.ofInt (-101)).toInt32))) h := by
  refine mjDoes.of2 (tab := mjTb mjT_171) (q := ((⟨"TableBenchModel", "put", "(IIIJ)I"⟩, prog_13_method_8_code, 6, some (Jvm.ClassFile.FieldType.int)), 0, 1197, 1195, 1285, 13)) (st := (9, [(0, .ref 465), (1, .int l), (2, .int lane), (3, .int i), (4, .long w)], [.int ((Int8.ofInt (-101)).toInt32)], h)) (e := (.ireturn, 1, mj0)) rfl rfl (Nat.le_of_ble_eq_true rfl) ?_ rfl rfl rfl
  refine (mjTo.pure 1 (s2 := (1, [(0, .ref 465), (1, .int l), (2, .int lane), (3, .int i), (4, .long w)], [.int l], h)) fun _ => rfl).trans ?_
  refine (mjTo.stat (as := [.int l]) (r := []) (v := some (.int (Int32.ofInt 0))) (h' := h) rfl rfl (Nat.le_of_ble_eq_true rfl) ((m_isLeaf_out h hl).up (by decide))).trans ?_
  refine (mjTo.ifF (c := .ne) (x := (Int32.ofInt 0)) (n := 10) rfl (by decide) rfl).trans ?_
  refine (mjTo.pure 1 (s2 := (9, [(0, .ref 465), (1, .int l), (2, .int lane), (3, .int i), (4, .long w)], [.int ((Int8.ofInt (-101)).toInt32)], h)) fun _ => rfl).trans ?_
  exact mjTo.refl
set_option maxRecDepth 4000 in
theorem m_put_lane {j : Nat} {lane i : Int32} {w : Int64} {h : mjH} (hj : j < 16) (hl : lane.toInt < 0 ∨ 3 < lane.toInt) : mjDoes 3 171 [.ref 465, .int (Int32.ofNat j), .int lane, .int i, .long w] h (some (.int ((Int8.ofInt (-102)).toInt32))) h := by
  refine mjDoes.of2 (tab := mjTb mjT_171) (q := ((⟨"TableBenchModel", "put", "(IIIJ)I"⟩, prog_13_method_8_code, 6, some (Jvm.ClassFile.FieldType.int)), 0, 1197, 1195, 1285, 13)) (st := (57, [(0, .ref 465), (1, .int (Int32.ofNat j)), (2, .int lane), (3, .int i), (4, .long w)], [.int ((Int8.ofInt (-102)).toInt32)], h)) (e := (.ireturn, 1, mj0)) rfl rfl (Nat.le_of_ble_eq_true rfl) ?_ rfl rfl rfl
  refine (mjTo.pure 1 (s2 := (1, [(0, .ref 465), (1, .int (Int32.ofNat j)), (2, .int lane), (3, .int i), (4, .long w)], [.int (Int32.ofNat j)], h)) fun _ => rfl).trans ?_
  refine (mjTo.stat (as := [.int (Int32.ofNat j)]) (r := []) (v := some (.int (Int32.ofInt 1))) (h' := h) rfl rfl (Nat.le_of_ble_eq_true rfl) ((m_isLeaf_in h (by simp only [cj (show j < 100 by omega)]; omega) (by simp only [cj (show j < 100 by omega)]; omega)).up (by decide))).trans ?_
  refine (mjTo.ifT (c := .ne) (x := (Int32.ofInt 1)) (n := 10) rfl (by decide) rfl).trans ?_
  refine (mjTo.pure 3 (s2 := (13, [(0, .ref 465), (1, .int (Int32.ofNat j)), (2, .int lane), (3, .int i), (4, .long w)], [.int (Int32.ofInt 3), .int (Int32.ofInt 0), .int lane], h)) fun _ => rfl).trans ?_
  refine (mjTo.stat (as := [.int lane, .int (Int32.ofInt 0), .int (Int32.ofInt 3)]) (r := []) (v := some (.int (Int32.ofInt 0))) (h' := h) rfl rfl (Nat.le_of_ble_eq_true rfl) ((m_in_out h (fun q => by have h3 := Int32.le_iff_toInt_le.mp q.1; have h4 := Int32.le_iff_toInt_le.mp q.2; simp only [mjk_0, mjk_1, mjk_2, mjk_3, mjk_4, mjk_m1, mjk_b6, mjk_b8, mjk_b15, mjk_b16, mjk_b22, mjk_b36, mjk_b48, mjk_b60, mjk_b63, mjk_z] at h3 h4; omega)).up (by decide))).trans ?_
  refine (mjTo.ifT (c := .eq) (x := (Int32.ofInt 0)) (n := 55) rfl (by decide) rfl).trans ?_
  refine (mjTo.pure 1 (s2 := (57, [(0, .ref 465), (1, .int (Int32.ofNat j)), (2, .int lane), (3, .int i), (4, .long w)], [.int ((Int8.ofInt (-102)).toInt32)], h)) fun _ => rfl).trans ?_
  exact mjTo.refl
set_option maxRecDepth 4000 in
theorem m_put_nf {j : Nat} {lane i : Int32} {w : Int64} {h : mjH} (hF : mjFM h) (hj : j < 16) (h1 : lane.toInt = 2) (h2 : mjCmp .gt (lg_cmp (w &&& (2147483647)) (2139095040)) 0 = true) : mjDoes 3 171 [.ref 465, .int (Int32.ofNat j), .int lane, .int i, .long w] h (some (.int ((Int8.ofInt (-102)).toInt32))) h := by
  refine mjDoes.of2 (tab := mjTb mjT_171) (q := ((⟨"TableBenchModel", "put", "(IIIJ)I"⟩, prog_13_method_8_code, 6, some (Jvm.ClassFile.FieldType.int)), 0, 1197, 1195, 1285, 13)) (st := (57, [(0, .ref 465), (1, .int (Int32.ofNat j)), (2, .int lane), (3, .int i), (4, .long w)], [.int ((Int8.ofInt (-102)).toInt32)], h)) (e := (.ireturn, 1, mj0)) rfl rfl (Nat.le_of_ble_eq_true rfl) ?_ rfl rfl rfl
  refine (mjTo.pure 1 (s2 := (1, [(0, .ref 465), (1, .int (Int32.ofNat j)), (2, .int lane), (3, .int i), (4, .long w)], [.int (Int32.ofNat j)], h)) fun _ => rfl).trans ?_
  refine (mjTo.stat (as := [.int (Int32.ofNat j)]) (r := []) (v := some (.int (Int32.ofInt 1))) (h' := h) rfl rfl (Nat.le_of_ble_eq_true rfl) ((m_isLeaf_in h (by simp only [cj (show j < 100 by omega)]; omega) (by simp only [cj (show j < 100 by omega)]; omega)).up (by decide))).trans ?_
  refine (mjTo.ifT (c := .ne) (x := (Int32.ofInt 1)) (n := 10) rfl (by decide) rfl).trans ?_
  refine (mjTo.pure 3 (s2 := (13, [(0, .ref 465), (1, .int (Int32.ofNat j)), (2, .int lane), (3, .int i), (4, .long w)], [.int (Int32.ofInt 3), .int (Int32.ofInt 0), .int lane], h)) fun _ => rfl).trans ?_
  refine (mjTo.stat (as := [.int lane, .int (Int32.ofInt 0), .int (Int32.ofInt 3)]) (r := []) (v := some (.int (Int32.ofInt 1))) (h' := h) rfl rfl (Nat.le_of_ble_eq_true rfl) ((m_in_ok h (Int32.le_iff_toInt_le.mpr (by simp only [mjk_0, mjk_1, mjk_2, mjk_3, mjk_4, mjk_m1, mjk_b6, mjk_b8, mjk_b15, mjk_b16, mjk_b22, mjk_b36, mjk_b48, mjk_b60, mjk_b63, mjk_z]; omega)) (Int32.le_iff_toInt_le.mpr (by simp only [mjk_0, mjk_1, mjk_2, mjk_3, mjk_4, mjk_m1, mjk_b6, mjk_b8, mjk_b15, mjk_b16, mjk_b22, mjk_b36, mjk_b48, mjk_b60, mjk_b63, mjk_z]; omega))).up (by decide))).trans ?_
  refine (mjTo.ifF (c := .eq) (x := (Int32.ofInt 1)) (n := 55) rfl (by decide) rfl).trans ?_
  refine (mjTo.pure 2 (s2 := (21, [(0, .ref 465), (1, .int (Int32.ofNat j)), (2, .int lane), (3, .int i), (4, .long w)], [.int (Int32.ofInt 2), .int lane], h)) fun _ => rfl).trans ?_
  refine (mjTo.icF (c := .ne) (x := lane) (y := (Int32.ofInt 2)) (n := 37) rfl (cF_ne (by simp only [mjk_0, mjk_1, mjk_2, mjk_3, mjk_4, mjk_m1, mjk_b6, mjk_b8, mjk_b15, mjk_b16, mjk_b22, mjk_b36, mjk_b48, mjk_b60, mjk_b63, mjk_z]; omega)) rfl).trans ?_
  refine (mjTo.pure 5 (s2 := (34, [(0, .ref 465), (1, .int (Int32.ofNat j)), (2, .int lane), (3, .int i), (4, .long w)], [.int (lg_cmp (w &&& (2147483647)) (2139095040))], h)) fun _ => rfl).trans ?_
  refine (mjTo.ifT (c := .gt) (x := (lg_cmp (w &&& (2147483647)) (2139095040))) (n := 55) rfl h2 rfl).trans ?_
  refine (mjTo.pure 1 (s2 := (57, [(0, .ref 465), (1, .int (Int32.ofNat j)), (2, .int lane), (3, .int i), (4, .long w)], [.int ((Int8.ofInt (-102)).toInt32)], h)) fun _ => rfl).trans ?_
  exact mjTo.refl
set_option maxRecDepth 4000 in
theorem m_put_nd {j : Nat} {lane i : Int32} {w : Int64} {h : mjH} (hF : mjFM h) (hj : j < 16) (h1 : lane.toInt = 3) (h2 : mjCmp .le (lg_cmp (w &&& (9223372036854775807)) (9218868437227405312)) 0 = false) : mjDoes 3 171 [.ref 465, .int (Int32.ofNat j), .int lane, .int i, .long w] h (some (.int ((Int8.ofInt (-102)).toInt32))) h := by
  refine mjDoes.of2 (tab := mjTb mjT_171) (q := ((⟨"TableBenchModel", "put", "(IIIJ)I"⟩, prog_13_method_8_code, 6, some (Jvm.ClassFile.FieldType.int)), 0, 1197, 1195, 1285, 13)) (st := (57, [(0, .ref 465), (1, .int (Int32.ofNat j)), (2, .int lane), (3, .int i), (4, .long w)], [.int ((Int8.ofInt (-102)).toInt32)], h)) (e := (.ireturn, 1, mj0)) rfl rfl (Nat.le_of_ble_eq_true rfl) ?_ rfl rfl rfl
  refine (mjTo.pure 1 (s2 := (1, [(0, .ref 465), (1, .int (Int32.ofNat j)), (2, .int lane), (3, .int i), (4, .long w)], [.int (Int32.ofNat j)], h)) fun _ => rfl).trans ?_
  refine (mjTo.stat (as := [.int (Int32.ofNat j)]) (r := []) (v := some (.int (Int32.ofInt 1))) (h' := h) rfl rfl (Nat.le_of_ble_eq_true rfl) ((m_isLeaf_in h (by simp only [cj (show j < 100 by omega)]; omega) (by simp only [cj (show j < 100 by omega)]; omega)).up (by decide))).trans ?_
  refine (mjTo.ifT (c := .ne) (x := (Int32.ofInt 1)) (n := 10) rfl (by decide) rfl).trans ?_
  refine (mjTo.pure 3 (s2 := (13, [(0, .ref 465), (1, .int (Int32.ofNat j)), (2, .int lane), (3, .int i), (4, .long w)], [.int (Int32.ofInt 3), .int (Int32.ofInt 0), .int lane], h)) fun _ => rfl).trans ?_
  refine (mjTo.stat (as := [.int lane, .int (Int32.ofInt 0), .int (Int32.ofInt 3)]) (r := []) (v := some (.int (Int32.ofInt 1))) (h' := h) rfl rfl (Nat.le_of_ble_eq_true rfl) ((m_in_ok h (Int32.le_iff_toInt_le.mpr (by simp only [mjk_0, mjk_1, mjk_2, mjk_3, mjk_4, mjk_m1, mjk_b6, mjk_b8, mjk_b15, mjk_b16, mjk_b22, mjk_b36, mjk_b48, mjk_b60, mjk_b63, mjk_z]; omega)) (Int32.le_iff_toInt_le.mpr (by simp only [mjk_0, mjk_1, mjk_2, mjk_3, mjk_4, mjk_m1, mjk_b6, mjk_b8, mjk_b15, mjk_b16, mjk_b22, mjk_b36, mjk_b48, mjk_b60, mjk_b63, mjk_z]; omega))).up (by decide))).trans ?_
  refine (mjTo.ifF (c := .eq) (x := (Int32.ofInt 1)) (n := 55) rfl (by decide) rfl).trans ?_
  refine (mjTo.pure 2 (s2 := (21, [(0, .ref 465), (1, .int (Int32.ofNat j)), (2, .int lane), (3, .int i), (4, .long w)], [.int (Int32.ofInt 2), .int lane], h)) fun _ => rfl).trans ?_
  refine (mjTo.icT (c := .ne) (x := lane) (y := (Int32.ofInt 2)) (n := 37) rfl (cT_ne (by simp only [mjk_0, mjk_1, mjk_2, mjk_3, mjk_4, mjk_m1, mjk_b6, mjk_b8, mjk_b15, mjk_b16, mjk_b22, mjk_b36, mjk_b48, mjk_b60, mjk_b63, mjk_z]; omega)) rfl).trans ?_
  refine (mjTo.pure 2 (s2 := (39, [(0, .ref 465), (1, .int (Int32.ofNat j)), (2, .int lane), (3, .int i), (4, .long w)], [.int (Int32.ofInt 3), .int lane], h)) fun _ => rfl).trans ?_
  refine (mjTo.icF (c := .ne) (x := lane) (y := (Int32.ofInt 3)) (n := 58) rfl (cF_ne (by simp only [mjk_0, mjk_1, mjk_2, mjk_3, mjk_4, mjk_m1, mjk_b6, mjk_b8, mjk_b15, mjk_b16, mjk_b22, mjk_b36, mjk_b48, mjk_b60, mjk_b63, mjk_z]; omega)) rfl).trans ?_
  refine (mjTo.pure 5 (s2 := (52, [(0, .ref 465), (1, .int (Int32.ofNat j)), (2, .int lane), (3, .int i), (4, .long w)], [.int (lg_cmp (w &&& (9223372036854775807)) (9218868437227405312))], h)) fun _ => rfl).trans ?_
  refine (mjTo.ifF (c := .le) (x := (lg_cmp (w &&& (9223372036854775807)) (9218868437227405312))) (n := 58) rfl h2 rfl).trans ?_
  refine (mjTo.pure 1 (s2 := (57, [(0, .ref 465), (1, .int (Int32.ofNat j)), (2, .int lane), (3, .int i), (4, .long w)], [.int ((Int8.ofInt (-102)).toInt32)], h)) fun _ => rfl).trans ?_
  exact mjTo.refl
set_option maxRecDepth 4000 in
theorem m_put_lf {j : Nat} {lane i : Int32} {w : Int64} {h : mjH} (hF : mjFM h) (hj : j < 16) (h1 : lane.toInt = 2) (h2 : mjCmp .gt (lg_cmp (w &&& (2147483647)) (2139095040)) 0 = false) : ∃ h1, mjDoes 3 171 [.ref 465, .int (Int32.ofNat j), .int lane, .int i, .long w] h (some (.int ((Int8.ofInt (-10)).toInt32 - Int32.ofInt 1))) h1 := by
  obtain ⟨hh, hc⟩ := m_finds_hp (f := Int32.ofInt 1) (Or.inl rfl) hF.m rfl hF.found
  refine ⟨hh, ?_⟩
  refine mjDoes.of2 (tab := mjTb mjT_171) (q := ((⟨"TableBenchModel", "put", "(IIIJ)I"⟩, prog_13_method_8_code, 6, some (Jvm.ClassFile.FieldType.int)), 0, 1197, 1195, 1285, 13)) (st := (73, [(0, .ref 465), (1, .int (Int32.ofNat j)), (2, .int lane), (3, .int i), (4, .long w)], [.int ((Int8.ofInt (-10)).toInt32 - Int32.ofInt 1)], hh)) (e := (.ireturn, 1, mj0)) rfl rfl (Nat.le_of_ble_eq_true rfl) ?_ rfl rfl rfl
  refine (mjTo.pure 1 (s2 := (1, [(0, .ref 465), (1, .int (Int32.ofNat j)), (2, .int lane), (3, .int i), (4, .long w)], [.int (Int32.ofNat j)], h)) fun _ => rfl).trans ?_
  refine (mjTo.stat (as := [.int (Int32.ofNat j)]) (r := []) (v := some (.int (Int32.ofInt 1))) (h' := h) rfl rfl (Nat.le_of_ble_eq_true rfl) ((m_isLeaf_in h (by simp only [cj (show j < 100 by omega)]; omega) (by simp only [cj (show j < 100 by omega)]; omega)).up (by decide))).trans ?_
  refine (mjTo.ifT (c := .ne) (x := (Int32.ofInt 1)) (n := 10) rfl (by decide) rfl).trans ?_
  refine (mjTo.pure 3 (s2 := (13, [(0, .ref 465), (1, .int (Int32.ofNat j)), (2, .int lane), (3, .int i), (4, .long w)], [.int (Int32.ofInt 3), .int (Int32.ofInt 0), .int lane], h)) fun _ => rfl).trans ?_
  refine (mjTo.stat (as := [.int lane, .int (Int32.ofInt 0), .int (Int32.ofInt 3)]) (r := []) (v := some (.int (Int32.ofInt 1))) (h' := h) rfl rfl (Nat.le_of_ble_eq_true rfl) ((m_in_ok h (Int32.le_iff_toInt_le.mpr (by simp only [mjk_0, mjk_1, mjk_2, mjk_3, mjk_4, mjk_m1, mjk_b6, mjk_b8, mjk_b15, mjk_b16, mjk_b22, mjk_b36, mjk_b48, mjk_b60, mjk_b63, mjk_z]; omega)) (Int32.le_iff_toInt_le.mpr (by simp only [mjk_0, mjk_1, mjk_2, mjk_3, mjk_4, mjk_m1, mjk_b6, mjk_b8, mjk_b15, mjk_b16, mjk_b22, mjk_b36, mjk_b48, mjk_b60, mjk_b63, mjk_z]; omega))).up (by decide))).trans ?_
  refine (mjTo.ifF (c := .eq) (x := (Int32.ofInt 1)) (n := 55) rfl (by decide) rfl).trans ?_
  refine (mjTo.pure 2 (s2 := (21, [(0, .ref 465), (1, .int (Int32.ofNat j)), (2, .int lane), (3, .int i), (4, .long w)], [.int (Int32.ofInt 2), .int lane], h)) fun _ => rfl).trans ?_
  refine (mjTo.icF (c := .ne) (x := lane) (y := (Int32.ofInt 2)) (n := 37) rfl (cF_ne (by simp only [mjk_0, mjk_1, mjk_2, mjk_3, mjk_4, mjk_m1, mjk_b6, mjk_b8, mjk_b15, mjk_b16, mjk_b22, mjk_b36, mjk_b48, mjk_b60, mjk_b63, mjk_z]; omega)) rfl).trans ?_
  refine (mjTo.pure 5 (s2 := (34, [(0, .ref 465), (1, .int (Int32.ofNat j)), (2, .int lane), (3, .int i), (4, .long w)], [.int (lg_cmp (w &&& (2147483647)) (2139095040))], h)) fun _ => rfl).trans ?_
  refine (mjTo.ifF (c := .gt) (x := (lg_cmp (w &&& (2147483647)) (2139095040))) (n := 55) rfl h2 rfl).trans ?_
  refine (mjTo.pure 2 (s2 := (39, [(0, .ref 465), (1, .int (Int32.ofNat j)), (2, .int lane), (3, .int i), (4, .long w)], [.int (Int32.ofInt 3), .int lane], h)) fun _ => rfl).trans ?_
  refine (mjTo.icT (c := .ne) (x := lane) (y := (Int32.ofInt 3)) (n := 58) rfl (cT_ne (by simp only [mjk_0, mjk_1, mjk_2, mjk_3, mjk_4, mjk_m1, mjk_b6, mjk_b8, mjk_b15, mjk_b16, mjk_b22, mjk_b36, mjk_b48, mjk_b60, mjk_b63, mjk_z]; omega)) rfl).trans ?_
  refine (mjTo.pure 1 (s2 := (59, [(0, .ref 465), (1, .int (Int32.ofNat j)), (2, .int lane), (3, .int i), (4, .long w)], [.ref 465], h)) fun _ => rfl).trans ?_
  refine (mjTo.getf rfl hF.m rfl).trans ?_
  refine (mjTo.pure 1 (s2 := (63, [(0, .ref 465), (1, .int (Int32.ofNat j)), (2, .int lane), (3, .int i), (4, .long w)], [.int (Int32.ofNat j), .ref 466], h)) fun _ => rfl).trans ?_
  refine (mjTo.iald (a := 465) rfl hF.size (mjAt_rep hj (by decide))).trans ?_
  refine (mjTo.pure 1 (s2 := (65, [(0, .ref 465), (1, .int (Int32.ofNat j)), (2, .int lane), (3, .int i), (4, .long w)], [.int (Int32.ofInt (-1)), .int (-1 : Int32)], h)) fun _ => rfl).trans ?_
  refine (mjTo.icF (c := .ne) (x := (-1 : Int32)) (y := (Int32.ofInt (-1))) (n := 74) rfl (by decide) rfl).trans ?_
  refine (mjTo.pure 2 (s2 := (70, [(0, .ref 465), (1, .int (Int32.ofNat j)), (2, .int lane), (3, .int i), (4, .long w)], [.int (Int32.ofInt 1), .ref 465], h)) fun _ => rfl).trans ?_
  refine (mjTo.virt (as := [.int (Int32.ofInt 1)]) (r := []) (v := some (.int ((Int8.ofInt (-10)).toInt32 - Int32.ofInt 1))) (h' := hh) rfl rfl hF.m (Nat.le_of_ble_eq_true rfl) (hc.up (by decide))).trans ?_
  exact mjTo.refl
set_option maxRecDepth 4000 in
theorem m_put_ld {j : Nat} {lane i : Int32} {w : Int64} {h : mjH} (hF : mjFM h) (hj : j < 16) (h1 : lane.toInt = 3) (h2 : mjCmp .le (lg_cmp (w &&& (9223372036854775807)) (9218868437227405312)) 0 = true) : ∃ h1, mjDoes 3 171 [.ref 465, .int (Int32.ofNat j), .int lane, .int i, .long w] h (some (.int ((Int8.ofInt (-10)).toInt32 - Int32.ofInt 1))) h1 := by
  obtain ⟨hh, hc⟩ := m_finds_hp (f := Int32.ofInt 1) (Or.inl rfl) hF.m rfl hF.found
  refine ⟨hh, ?_⟩
  refine mjDoes.of2 (tab := mjTb mjT_171) (q := ((⟨"TableBenchModel", "put", "(IIIJ)I"⟩, prog_13_method_8_code, 6, some (Jvm.ClassFile.FieldType.int)), 0, 1197, 1195, 1285, 13)) (st := (73, [(0, .ref 465), (1, .int (Int32.ofNat j)), (2, .int lane), (3, .int i), (4, .long w)], [.int ((Int8.ofInt (-10)).toInt32 - Int32.ofInt 1)], hh)) (e := (.ireturn, 1, mj0)) rfl rfl (Nat.le_of_ble_eq_true rfl) ?_ rfl rfl rfl
  refine (mjTo.pure 1 (s2 := (1, [(0, .ref 465), (1, .int (Int32.ofNat j)), (2, .int lane), (3, .int i), (4, .long w)], [.int (Int32.ofNat j)], h)) fun _ => rfl).trans ?_
  refine (mjTo.stat (as := [.int (Int32.ofNat j)]) (r := []) (v := some (.int (Int32.ofInt 1))) (h' := h) rfl rfl (Nat.le_of_ble_eq_true rfl) ((m_isLeaf_in h (by simp only [cj (show j < 100 by omega)]; omega) (by simp only [cj (show j < 100 by omega)]; omega)).up (by decide))).trans ?_
  refine (mjTo.ifT (c := .ne) (x := (Int32.ofInt 1)) (n := 10) rfl (by decide) rfl).trans ?_
  refine (mjTo.pure 3 (s2 := (13, [(0, .ref 465), (1, .int (Int32.ofNat j)), (2, .int lane), (3, .int i), (4, .long w)], [.int (Int32.ofInt 3), .int (Int32.ofInt 0), .int lane], h)) fun _ => rfl).trans ?_
  refine (mjTo.stat (as := [.int lane, .int (Int32.ofInt 0), .int (Int32.ofInt 3)]) (r := []) (v := some (.int (Int32.ofInt 1))) (h' := h) rfl rfl (Nat.le_of_ble_eq_true rfl) ((m_in_ok h (Int32.le_iff_toInt_le.mpr (by simp only [mjk_0, mjk_1, mjk_2, mjk_3, mjk_4, mjk_m1, mjk_b6, mjk_b8, mjk_b15, mjk_b16, mjk_b22, mjk_b36, mjk_b48, mjk_b60, mjk_b63, mjk_z]; omega)) (Int32.le_iff_toInt_le.mpr (by simp only [mjk_0, mjk_1, mjk_2, mjk_3, mjk_4, mjk_m1, mjk_b6, mjk_b8, mjk_b15, mjk_b16, mjk_b22, mjk_b36, mjk_b48, mjk_b60, mjk_b63, mjk_z]; omega))).up (by decide))).trans ?_
  refine (mjTo.ifF (c := .eq) (x := (Int32.ofInt 1)) (n := 55) rfl (by decide) rfl).trans ?_
  refine (mjTo.pure 2 (s2 := (21, [(0, .ref 465), (1, .int (Int32.ofNat j)), (2, .int lane), (3, .int i), (4, .long w)], [.int (Int32.ofInt 2), .int lane], h)) fun _ => rfl).trans ?_
  refine (mjTo.icT (c := .ne) (x := lane) (y := (Int32.ofInt 2)) (n := 37) rfl (cT_ne (by simp only [mjk_0, mjk_1, mjk_2, mjk_3, mjk_4, mjk_m1, mjk_b6, mjk_b8, mjk_b15, mjk_b16, mjk_b22, mjk_b36, mjk_b48, mjk_b60, mjk_b63, mjk_z]; omega)) rfl).trans ?_
  refine (mjTo.pure 2 (s2 := (39, [(0, .ref 465), (1, .int (Int32.ofNat j)), (2, .int lane), (3, .int i), (4, .long w)], [.int (Int32.ofInt 3), .int lane], h)) fun _ => rfl).trans ?_
  refine (mjTo.icF (c := .ne) (x := lane) (y := (Int32.ofInt 3)) (n := 58) rfl (cF_ne (by simp only [mjk_0, mjk_1, mjk_2, mjk_3, mjk_4, mjk_m1, mjk_b6, mjk_b8, mjk_b15, mjk_b16, mjk_b22, mjk_b36, mjk_b48, mjk_b60, mjk_b63, mjk_z]; omega)) rfl).trans ?_
  refine (mjTo.pure 5 (s2 := (52, [(0, .ref 465), (1, .int (Int32.ofNat j)), (2, .int lane), (3, .int i), (4, .long w)], [.int (lg_cmp (w &&& (9223372036854775807)) (9218868437227405312))], h)) fun _ => rfl).trans ?_
  refine (mjTo.ifT (c := .le) (x := (lg_cmp (w &&& (9223372036854775807)) (9218868437227405312))) (n := 58) rfl h2 rfl).trans ?_
  refine (mjTo.pure 1 (s2 := (59, [(0, .ref 465), (1, .int (Int32.ofNat j)), (2, .int lane), (3, .int i), (4, .long w)], [.ref 465], h)) fun _ => rfl).trans ?_
  refine (mjTo.getf rfl hF.m rfl).trans ?_
  refine (mjTo.pure 1 (s2 := (63, [(0, .ref 465), (1, .int (Int32.ofNat j)), (2, .int lane), (3, .int i), (4, .long w)], [.int (Int32.ofNat j), .ref 466], h)) fun _ => rfl).trans ?_
  refine (mjTo.iald (a := 465) rfl hF.size (mjAt_rep hj (by decide))).trans ?_
  refine (mjTo.pure 1 (s2 := (65, [(0, .ref 465), (1, .int (Int32.ofNat j)), (2, .int lane), (3, .int i), (4, .long w)], [.int (Int32.ofInt (-1)), .int (-1 : Int32)], h)) fun _ => rfl).trans ?_
  refine (mjTo.icF (c := .ne) (x := (-1 : Int32)) (y := (Int32.ofInt (-1))) (n := 74) rfl (by decide) rfl).trans ?_
  refine (mjTo.pure 2 (s2 := (70, [(0, .ref 465), (1, .int (Int32.ofNat j)), (2, .int lane), (3, .int i), (4, .long w)], [.int (Int32.ofInt 1), .ref 465], h)) fun _ => rfl).trans ?_
  refine (mjTo.virt (as := [.int (Int32.ofInt 1)]) (r := []) (v := some (.int ((Int8.ofInt (-10)).toInt32 - Int32.ofInt 1))) (h' := hh) rfl rfl hF.m (Nat.le_of_ble_eq_true rfl) (hc.up (by decide))).trans ?_
  exact mjTo.refl
set_option maxRecDepth 4000 in
theorem m_put_li {j : Nat} {lane i : Int32} {w : Int64} {h : mjH} (hF : mjFM h) (hj : j < 16) (h1 : 0 ≤ lane.toInt) (h2 : lane.toInt ≤ 1) : ∃ h1, mjDoes 3 171 [.ref 465, .int (Int32.ofNat j), .int lane, .int i, .long w] h (some (.int ((Int8.ofInt (-10)).toInt32 - Int32.ofInt 1))) h1 := by
  obtain ⟨hh, hc⟩ := m_finds_hp (f := Int32.ofInt 1) (Or.inl rfl) hF.m rfl hF.found
  refine ⟨hh, ?_⟩
  refine mjDoes.of2 (tab := mjTb mjT_171) (q := ((⟨"TableBenchModel", "put", "(IIIJ)I"⟩, prog_13_method_8_code, 6, some (Jvm.ClassFile.FieldType.int)), 0, 1197, 1195, 1285, 13)) (st := (73, [(0, .ref 465), (1, .int (Int32.ofNat j)), (2, .int lane), (3, .int i), (4, .long w)], [.int ((Int8.ofInt (-10)).toInt32 - Int32.ofInt 1)], hh)) (e := (.ireturn, 1, mj0)) rfl rfl (Nat.le_of_ble_eq_true rfl) ?_ rfl rfl rfl
  refine (mjTo.pure 1 (s2 := (1, [(0, .ref 465), (1, .int (Int32.ofNat j)), (2, .int lane), (3, .int i), (4, .long w)], [.int (Int32.ofNat j)], h)) fun _ => rfl).trans ?_
  refine (mjTo.stat (as := [.int (Int32.ofNat j)]) (r := []) (v := some (.int (Int32.ofInt 1))) (h' := h) rfl rfl (Nat.le_of_ble_eq_true rfl) ((m_isLeaf_in h (by simp only [cj (show j < 100 by omega)]; omega) (by simp only [cj (show j < 100 by omega)]; omega)).up (by decide))).trans ?_
  refine (mjTo.ifT (c := .ne) (x := (Int32.ofInt 1)) (n := 10) rfl (by decide) rfl).trans ?_
  refine (mjTo.pure 3 (s2 := (13, [(0, .ref 465), (1, .int (Int32.ofNat j)), (2, .int lane), (3, .int i), (4, .long w)], [.int (Int32.ofInt 3), .int (Int32.ofInt 0), .int lane], h)) fun _ => rfl).trans ?_
  refine (mjTo.stat (as := [.int lane, .int (Int32.ofInt 0), .int (Int32.ofInt 3)]) (r := []) (v := some (.int (Int32.ofInt 1))) (h' := h) rfl rfl (Nat.le_of_ble_eq_true rfl) ((m_in_ok h (Int32.le_iff_toInt_le.mpr (by simp only [mjk_0, mjk_1, mjk_2, mjk_3, mjk_4, mjk_m1, mjk_b6, mjk_b8, mjk_b15, mjk_b16, mjk_b22, mjk_b36, mjk_b48, mjk_b60, mjk_b63, mjk_z]; omega)) (Int32.le_iff_toInt_le.mpr (by simp only [mjk_0, mjk_1, mjk_2, mjk_3, mjk_4, mjk_m1, mjk_b6, mjk_b8, mjk_b15, mjk_b16, mjk_b22, mjk_b36, mjk_b48, mjk_b60, mjk_b63, mjk_z]; omega))).up (by decide))).trans ?_
  refine (mjTo.ifF (c := .eq) (x := (Int32.ofInt 1)) (n := 55) rfl (by decide) rfl).trans ?_
  refine (mjTo.pure 2 (s2 := (21, [(0, .ref 465), (1, .int (Int32.ofNat j)), (2, .int lane), (3, .int i), (4, .long w)], [.int (Int32.ofInt 2), .int lane], h)) fun _ => rfl).trans ?_
  refine (mjTo.icT (c := .ne) (x := lane) (y := (Int32.ofInt 2)) (n := 37) rfl (cT_ne (by simp only [mjk_0, mjk_1, mjk_2, mjk_3, mjk_4, mjk_m1, mjk_b6, mjk_b8, mjk_b15, mjk_b16, mjk_b22, mjk_b36, mjk_b48, mjk_b60, mjk_b63, mjk_z]; omega)) rfl).trans ?_
  refine (mjTo.pure 2 (s2 := (39, [(0, .ref 465), (1, .int (Int32.ofNat j)), (2, .int lane), (3, .int i), (4, .long w)], [.int (Int32.ofInt 3), .int lane], h)) fun _ => rfl).trans ?_
  refine (mjTo.icT (c := .ne) (x := lane) (y := (Int32.ofInt 3)) (n := 58) rfl (cT_ne (by simp only [mjk_0, mjk_1, mjk_2, mjk_3, mjk_4, mjk_m1, mjk_b6, mjk_b8, mjk_b15, mjk_b16, mjk_b22, mjk_b36, mjk_b48, mjk_b60, mjk_b63, mjk_z]; omega)) rfl).trans ?_
  refine (mjTo.pure 1 (s2 := (59, [(0, .ref 465), (1, .int (Int32.ofNat j)), (2, .int lane), (3, .int i), (4, .long w)], [.ref 465], h)) fun _ => rfl).trans ?_
  refine (mjTo.getf rfl hF.m rfl).trans ?_
  refine (mjTo.pure 1 (s2 := (63, [(0, .ref 465), (1, .int (Int32.ofNat j)), (2, .int lane), (3, .int i), (4, .long w)], [.int (Int32.ofNat j), .ref 466], h)) fun _ => rfl).trans ?_
  refine (mjTo.iald (a := 465) rfl hF.size (mjAt_rep hj (by decide))).trans ?_
  refine (mjTo.pure 1 (s2 := (65, [(0, .ref 465), (1, .int (Int32.ofNat j)), (2, .int lane), (3, .int i), (4, .long w)], [.int (Int32.ofInt (-1)), .int (-1 : Int32)], h)) fun _ => rfl).trans ?_
  refine (mjTo.icF (c := .ne) (x := (-1 : Int32)) (y := (Int32.ofInt (-1))) (n := 74) rfl (by decide) rfl).trans ?_
  refine (mjTo.pure 2 (s2 := (70, [(0, .ref 465), (1, .int (Int32.ofNat j)), (2, .int lane), (3, .int i), (4, .long w)], [.int (Int32.ofInt 1), .ref 465], h)) fun _ => rfl).trans ?_
  refine (mjTo.virt (as := [.int (Int32.ofInt 1)]) (r := []) (v := some (.int ((Int8.ofInt (-10)).toInt32 - Int32.ofInt 1))) (h' := hh) rfl rfl hF.m (Nat.le_of_ble_eq_true rfl) (hc.up (by decide))).trans ?_
  exact mjTo.refl
set_option maxRecDepth 4000 in
theorem m_table_n {first n : Int32} {h : mjH} (h1 : n.toInt < 1 ∨ 6 < n.toInt) : mjDoes 3 173 [.ref 465, .int first, .int n] h (some (.int ((Int8.ofInt (-102)).toInt32))) h := by
  refine mjDoes.of2 (tab := mjTb mjT_173) (q := ((⟨"TableBenchModel", "table", "(II)I"⟩, prog_13_method_18_code, 6, some (Jvm.ClassFile.FieldType.int)), 0, 1208, 1206, 1296, 13)) (st := (24, [(0, .ref 465), (1, .int first), (2, .int n)], [.int ((Int8.ofInt (-102)).toInt32)], h)) (e := (.ireturn, 1, mj0)) rfl rfl (Nat.le_of_ble_eq_true rfl) ?_ rfl rfl rfl
  refine (mjTo.pure 3 (s2 := (4, [(0, .ref 465), (1, .int first), (2, .int n)], [.int ((Int8.ofInt 6).toInt32), .int (Int32.ofInt 1), .int n], h)) fun _ => rfl).trans ?_
  refine (mjTo.stat (as := [.int n, .int (Int32.ofInt 1), .int ((Int8.ofInt 6).toInt32)]) (r := []) (v := some (.int (Int32.ofInt 0))) (h' := h) rfl rfl (Nat.le_of_ble_eq_true rfl) ((m_in_out h (fun q => by have h3 := Int32.le_iff_toInt_le.mp q.1; have h4 := Int32.le_iff_toInt_le.mp q.2; simp only [mjk_0, mjk_1, mjk_2, mjk_3, mjk_4, mjk_m1, mjk_b6, mjk_b8, mjk_b15, mjk_b16, mjk_b22, mjk_b36, mjk_b48, mjk_b60, mjk_b63, mjk_z] at h3 h4; omega)).up (by decide))).trans ?_
  refine (mjTo.ifT (c := .eq) (x := (Int32.ofInt 0)) (n := 22) rfl (by decide) rfl).trans ?_
  refine (mjTo.pure 1 (s2 := (24, [(0, .ref 465), (1, .int first), (2, .int n)], [.int ((Int8.ofInt (-102)).toInt32)], h)) fun _ => rfl).trans ?_
  exact mjTo.refl
set_option maxRecDepth 4000 in
theorem m_table_f1 {q : Nat} {first : Int32} {h : mjH} (hq : 1 ≤ q ∧ q ≤ 6) (h3 : first.toInt < 0) : mjDoes 3 173 [.ref 465, .int first, .int (Int32.ofNat q)] h (some (.int ((Int8.ofInt (-102)).toInt32))) h := by
  refine mjDoes.of2 (tab := mjTb mjT_173) (q := ((⟨"TableBenchModel", "table", "(II)I"⟩, prog_13_method_18_code, 6, some (Jvm.ClassFile.FieldType.int)), 0, 1208, 1206, 1296, 13)) (st := (24, [(0, .ref 465), (1, .int first), (2, .int (Int32.ofNat q))], [.int ((Int8.ofInt (-102)).toInt32)], h)) (e := (.ireturn, 1, mj0)) rfl rfl (Nat.le_of_ble_eq_true rfl) ?_ rfl rfl rfl
  refine (mjTo.pure 3 (s2 := (4, [(0, .ref 465), (1, .int first), (2, .int (Int32.ofNat q))], [.int ((Int8.ofInt 6).toInt32), .int (Int32.ofInt 1), .int (Int32.ofNat q)], h)) fun _ => rfl).trans ?_
  refine (mjTo.stat (as := [.int (Int32.ofNat q), .int (Int32.ofInt 1), .int ((Int8.ofInt 6).toInt32)]) (r := []) (v := some (.int (Int32.ofInt 1))) (h' := h) rfl rfl (Nat.le_of_ble_eq_true rfl) ((m_in_ok h (Int32.le_iff_toInt_le.mpr (by simp only [cj (show q < 100 by omega), mjk_0, mjk_1, mjk_2, mjk_3, mjk_4, mjk_m1, mjk_b6, mjk_b8, mjk_b15, mjk_b16, mjk_b22, mjk_b36, mjk_b48, mjk_b60, mjk_b63, mjk_z]; omega)) (Int32.le_iff_toInt_le.mpr (by simp only [cj (show q < 100 by omega), mjk_0, mjk_1, mjk_2, mjk_3, mjk_4, mjk_m1, mjk_b6, mjk_b8, mjk_b15, mjk_b16, mjk_b22, mjk_b36, mjk_b48, mjk_b60, mjk_b63, mjk_z]; omega))).up (by decide))).trans ?_
  refine (mjTo.ifF (c := .eq) (x := (Int32.ofInt 1)) (n := 22) rfl (by decide) rfl).trans ?_
  refine (mjTo.pure 1 (s2 := (11, [(0, .ref 465), (1, .int first), (2, .int (Int32.ofNat q))], [.int first], h)) fun _ => rfl).trans ?_
  refine (mjTo.ifT (c := .lt) (x := first) (n := 22) rfl (cT_lt (by simp only [mjk_0, mjk_1, mjk_2, mjk_3, mjk_4, mjk_m1, mjk_b6, mjk_b8, mjk_b15, mjk_b16, mjk_b22, mjk_b36, mjk_b48, mjk_b60, mjk_b63, mjk_z]; omega)) rfl).trans ?_
  refine (mjTo.pure 1 (s2 := (24, [(0, .ref 465), (1, .int first), (2, .int (Int32.ofNat q))], [.int ((Int8.ofInt (-102)).toInt32)], h)) fun _ => rfl).trans ?_
  exact mjTo.refl
set_option maxRecDepth 4000 in
theorem m_table_f2 {q : Nat} {first : Int32} {h : mjH} (hq : 1 ≤ q ∧ q ≤ 6) (h3 : 0 ≤ first.toInt) (h4 : (16 : Int) - q < first.toInt) : mjDoes 3 173 [.ref 465, .int first, .int (Int32.ofNat q)] h (some (.int ((Int8.ofInt (-102)).toInt32))) h := by
  refine mjDoes.of2 (tab := mjTb mjT_173) (q := ((⟨"TableBenchModel", "table", "(II)I"⟩, prog_13_method_18_code, 6, some (Jvm.ClassFile.FieldType.int)), 0, 1208, 1206, 1296, 13)) (st := (24, [(0, .ref 465), (1, .int first), (2, .int (Int32.ofNat q))], [.int ((Int8.ofInt (-102)).toInt32)], h)) (e := (.ireturn, 1, mj0)) rfl rfl (Nat.le_of_ble_eq_true rfl) ?_ rfl rfl rfl
  refine (mjTo.pure 3 (s2 := (4, [(0, .ref 465), (1, .int first), (2, .int (Int32.ofNat q))], [.int ((Int8.ofInt 6).toInt32), .int (Int32.ofInt 1), .int (Int32.ofNat q)], h)) fun _ => rfl).trans ?_
  refine (mjTo.stat (as := [.int (Int32.ofNat q), .int (Int32.ofInt 1), .int ((Int8.ofInt 6).toInt32)]) (r := []) (v := some (.int (Int32.ofInt 1))) (h' := h) rfl rfl (Nat.le_of_ble_eq_true rfl) ((m_in_ok h (Int32.le_iff_toInt_le.mpr (by simp only [cj (show q < 100 by omega), mjk_0, mjk_1, mjk_2, mjk_3, mjk_4, mjk_m1, mjk_b6, mjk_b8, mjk_b15, mjk_b16, mjk_b22, mjk_b36, mjk_b48, mjk_b60, mjk_b63, mjk_z]; omega)) (Int32.le_iff_toInt_le.mpr (by simp only [cj (show q < 100 by omega), mjk_0, mjk_1, mjk_2, mjk_3, mjk_4, mjk_m1, mjk_b6, mjk_b8, mjk_b15, mjk_b16, mjk_b22, mjk_b36, mjk_b48, mjk_b60, mjk_b63, mjk_z]; omega))).up (by decide))).trans ?_
  refine (mjTo.ifF (c := .eq) (x := (Int32.ofInt 1)) (n := 22) rfl (by decide) rfl).trans ?_
  refine (mjTo.pure 1 (s2 := (11, [(0, .ref 465), (1, .int first), (2, .int (Int32.ofNat q))], [.int first], h)) fun _ => rfl).trans ?_
  refine (mjTo.ifF (c := .lt) (x := first) (n := 22) rfl (cF_lt (by simp only [mjk_0, mjk_1, mjk_2, mjk_3, mjk_4, mjk_m1, mjk_b6, mjk_b8, mjk_b15, mjk_b16, mjk_b22, mjk_b36, mjk_b48, mjk_b60, mjk_b63, mjk_z]; omega)) rfl).trans ?_
  refine (mjTo.pure 4 (s2 := (19, [(0, .ref 465), (1, .int first), (2, .int (Int32.ofNat q))], [.int ((Int8.ofInt 16).toInt32 - (Int32.ofNat q)), .int first], h)) fun _ => rfl).trans ?_
  refine (mjTo.icF (c := .le) (x := first) (y := ((Int8.ofInt 16).toInt32 - (Int32.ofNat q))) (n := 25) rfl (cF_le (by simp only [mj_sub16 (show q ≤ 6 by omega), mjk_0, mjk_1, mjk_2, mjk_3, mjk_4, mjk_m1, mjk_b6, mjk_b8, mjk_b15, mjk_b16, mjk_b22, mjk_b36, mjk_b48, mjk_b60, mjk_b63, mjk_z]; omega)) rfl).trans ?_
  refine (mjTo.pure 1 (s2 := (24, [(0, .ref 465), (1, .int first), (2, .int (Int32.ofNat q))], [.int ((Int8.ofInt (-102)).toInt32)], h)) fun _ => rfl).trans ?_
  exact mjTo.refl
set_option maxRecDepth 4000 in
theorem m_empty_loop {h : mjH} (hm : h[464]? = some (.inl (11, mjMf))) (hw : h[471]? = some (.inr (.inl (List.replicate 36 0)))) : ∀ m k : Nat, k + m = 36 → mjTo 0 2 none (mjTb mjT_174) (2, [(1, .int (Int32.ofNat k)), (0, .ref 465)], [], h) (21, [(1, .int (Int32.ofNat 36)), (0, .ref 465)], [], h) := by
  intro m
  induction m with
  | zero =>
    intro k hk
    have hk2 : k = 36 := by omega
    subst hk2
    refine (mjTo.pure 2 (s2 := (5, [(1, .int (Int32.ofNat 36)), (0, .ref 465)], [.int ((Int8.ofInt 36).toInt32), .int (Int32.ofNat 36)], h)) fun _ => rfl).trans ?_
    refine (mjTo.icT (c := .ge) (x := (Int32.ofNat 36)) (y := (Int8.ofInt 36).toInt32) (n := 21) rfl (by decide) rfl).trans ?_
    exact mjTo.refl
  | succ m ih =>
    intro k hk
    have hkl : k < 36 := by omega
    refine (mjTo.pure 2 (s2 := (5, [(1, .int (Int32.ofNat k)), (0, .ref 465)], [.int ((Int8.ofInt 36).toInt32), .int (Int32.ofNat k)], h)) fun _ => rfl).trans ?_
    refine (mjTo.icF (c := .ge) (x := (Int32.ofNat k)) (y := (Int8.ofInt 36).toInt32) (n := 21) rfl (cF_ge (by simp only [cj (show k < 100 by omega), mjk_0, mjk_1, mjk_2, mjk_3, mjk_4, mjk_m1, mjk_b6, mjk_b8, mjk_b15, mjk_b16, mjk_b22, mjk_b36, mjk_b48, mjk_b60, mjk_b63, mjk_z]; omega)) rfl).trans ?_
    refine (mjTo.pure 1 (s2 := (9, [(1, .int (Int32.ofNat k)), (0, .ref 465)], [.ref 465], h)) fun _ => rfl).trans ?_
    refine (mjTo.getf rfl hm rfl).trans ?_
    refine (mjTo.pure 2 (s2 := (14, [(1, .int (Int32.ofNat k)), (0, .ref 465)], [.int (Int32.ofInt 0), .int (Int32.ofNat k), .ref 472], h)) fun _ => rfl).trans ?_
    refine (mjTo.iast0 (a := 471) rfl hw (mjIn_nat hkl (by decide)) rfl).trans ?_
    refine (mjTo.pure 2 (s2 := (2, [(1, .int ((Int32.ofNat k) + Int32.ofInt 1)), (0, .ref 465)], [], h)) fun _ => rfl).trans ?_
    rw [mj_inc k]
    exact ih (k + 1) (by omega)
set_option maxRecDepth 4000 in
theorem m_empty {h : mjH} (hF : mjFM h) : mjDoes 1 174 [.ref 465] h none h := by
  refine mjDoes.of2 (tab := mjTb mjT_174) (q := ((⟨"TableBenchModel", "emptyMade", "()V"⟩, prog_13_method_17_code, 2, none), 0, 1212, 1211, 44, 13)) (st := (21, [(1, .int (Int32.ofNat 36)), (0, .ref 465)], [], h)) (e := (.return_, 1, mj0)) rfl rfl (Nat.le_of_ble_eq_true rfl) ?_ rfl rfl rfl
  refine (mjTo.pure 2 (s2 := (2, [(1, .int (Int32.ofInt 0)), (0, .ref 465)], [], h)) fun _ => rfl).trans ?_
  exact m_empty_loop hF.m ((hF 471 (by decide)).trans mjHP_471) 36 0 rfl
theorem mjM_found (x : Value) : (mjMf.set 8 x)[10]? = some (.ref 473) := rfl
set_option maxRecDepth 4000 in
theorem m_findsAt {pl : Int32} {h : mjH} (hF : mjFM h) : ∃ h1, mjDoes 2 175 [.ref 465, .int (Int32.ofInt 1), .int pl] h (some (.int ((Int8.ofInt (-10)).toInt32 - Int32.ofInt 1))) h1 := by
  have hlt : 464 < h.length := (List.getElem?_eq_some_iff.mp hF.m).1
  have h0b : (h.set 464 (.inl (11, mjMf.set 8 (.int pl))))[464]? = some (.inl (11, mjMf.set 8 (.int pl))) := List.getElem?_set_self hlt
  obtain ⟨hh, hc⟩ := m_finds_hp (f := Int32.ofInt 1) (Or.inl rfl) h0b (mjM_found _) (by rw [List.getElem?_set_ne (by decide)]; exact hF.found)
  refine ⟨hh, ?_⟩
  refine mjDoes.of2 (tab := mjTb mjT_175) (q := ((⟨"TableBenchModel", "findsAt", "(II)I"⟩, prog_13_method_5_code, 3, some (Jvm.ClassFile.FieldType.int)), 0, 1216, 1215, 45, 13)) (st := (10, [(0, .ref 465), (1, .int (Int32.ofInt 1)), (2, .int pl)], [.int ((Int8.ofInt (-10)).toInt32 - Int32.ofInt 1)], hh)) (e := (.ireturn, 1, mj0)) rfl rfl (Nat.le_of_ble_eq_true rfl) ?_ rfl rfl rfl
  refine (mjTo.pure 2 (s2 := (2, [(0, .ref 465), (1, .int (Int32.ofInt 1)), (2, .int pl)], [.int pl, .ref 465], h)) fun _ => rfl).trans ?_
  refine (mjTo.putf rfl hF.m rfl).trans ?_
  refine (mjTo.pure 2 (s2 := (7, [(0, .ref 465), (1, .int (Int32.ofInt 1)), (2, .int pl)], [.int (Int32.ofInt 1), .ref 465], (h.set 464 (.inl (11, mjMf.set 8 (.int pl)))))) fun _ => rfl).trans ?_
  refine (mjTo.virt (as := [.int (Int32.ofInt 1)]) (r := []) (v := some (.int ((Int8.ofInt (-10)).toInt32 - Int32.ofInt 1))) (h' := hh) rfl rfl h0b (Nat.le_of_ble_eq_true rfl) (hc.up (by decide))).trans ?_
  exact mjTo.refl
set_option maxRecDepth 4000 in
theorem m_table_in {q j : Nat} {h : mjH} (hF : mjFM h) (hq : 1 ≤ q ∧ q ≤ 6) (hjq : j + q ≤ 16) : ∃ h1, mjDoes 3 173 [.ref 465, .int (Int32.ofNat j), .int (Int32.ofNat q)] h (some (.int ((Int8.ofInt (-10)).toInt32 - Int32.ofInt 1))) h1 := by
  have hj : j < 16 := by omega
  obtain ⟨hh, hc⟩ := m_findsAt (pl := (Int8.ofInt 10).toInt32 * Int32.ofInt 0) hF
  refine ⟨hh, ?_⟩
  refine mjDoes.of2 (tab := mjTb mjT_173) (q := ((⟨"TableBenchModel", "table", "(II)I"⟩, prog_13_method_18_code, 6, some (Jvm.ClassFile.FieldType.int)), 0, 1208, 1206, 1296, 13)) (st := (69, [(3, .int (Int32.ofInt 0)), (0, .ref 465), (1, .int (Int32.ofNat j)), (2, .int (Int32.ofNat q))], [.int ((Int8.ofInt (-10)).toInt32 - Int32.ofInt 1)], hh)) (e := (.ireturn, 1, mj0)) rfl rfl (Nat.le_of_ble_eq_true rfl) ?_ rfl rfl rfl
  refine (mjTo.pure 3 (s2 := (4, [(0, .ref 465), (1, .int (Int32.ofNat j)), (2, .int (Int32.ofNat q))], [.int ((Int8.ofInt 6).toInt32), .int (Int32.ofInt 1), .int (Int32.ofNat q)], h)) fun _ => rfl).trans ?_
  refine (mjTo.stat (as := [.int (Int32.ofNat q), .int (Int32.ofInt 1), .int ((Int8.ofInt 6).toInt32)]) (r := []) (v := some (.int (Int32.ofInt 1))) (h' := h) rfl rfl (Nat.le_of_ble_eq_true rfl) ((m_in_ok h (Int32.le_iff_toInt_le.mpr (by simp only [cj (show q < 100 by omega), mjk_0, mjk_1, mjk_2, mjk_3, mjk_4, mjk_m1, mjk_b6, mjk_b8, mjk_b15, mjk_b16, mjk_b22, mjk_b36, mjk_b48, mjk_b60, mjk_b63, mjk_z]; omega)) (Int32.le_iff_toInt_le.mpr (by simp only [cj (show q < 100 by omega), mjk_0, mjk_1, mjk_2, mjk_3, mjk_4, mjk_m1, mjk_b6, mjk_b8, mjk_b15, mjk_b16, mjk_b22, mjk_b36, mjk_b48, mjk_b60, mjk_b63, mjk_z]; omega))).up (by decide))).trans ?_
  refine (mjTo.ifF (c := .eq) (x := (Int32.ofInt 1)) (n := 22) rfl (by decide) rfl).trans ?_
  refine (mjTo.pure 1 (s2 := (11, [(0, .ref 465), (1, .int (Int32.ofNat j)), (2, .int (Int32.ofNat q))], [.int (Int32.ofNat j)], h)) fun _ => rfl).trans ?_
  refine (mjTo.ifF (c := .lt) (x := (Int32.ofNat j)) (n := 22) rfl (cF_lt (by simp only [cj (show j < 100 by omega), mjk_0, mjk_1, mjk_2, mjk_3, mjk_4, mjk_m1, mjk_b6, mjk_b8, mjk_b15, mjk_b16, mjk_b22, mjk_b36, mjk_b48, mjk_b60, mjk_b63, mjk_z]; omega)) rfl).trans ?_
  refine (mjTo.pure 4 (s2 := (19, [(0, .ref 465), (1, .int (Int32.ofNat j)), (2, .int (Int32.ofNat q))], [.int ((Int8.ofInt 16).toInt32 - (Int32.ofNat q)), .int (Int32.ofNat j)], h)) fun _ => rfl).trans ?_
  refine (mjTo.icT (c := .le) (x := (Int32.ofNat j)) (y := ((Int8.ofInt 16).toInt32 - (Int32.ofNat q))) (n := 25) rfl (cT_le (by simp only [cj (show j < 100 by omega), mj_sub16 (show q ≤ 6 by omega), mjk_0, mjk_1, mjk_2, mjk_3, mjk_4, mjk_m1, mjk_b6, mjk_b8, mjk_b15, mjk_b16, mjk_b22, mjk_b36, mjk_b48, mjk_b60, mjk_b63, mjk_z]; omega)) rfl).trans ?_
  refine (mjTo.pure 1 (s2 := (26, [(0, .ref 465), (1, .int (Int32.ofNat j)), (2, .int (Int32.ofNat q))], [.ref 465], h)) fun _ => rfl).trans ?_
  refine (mjTo.getf rfl hF.m rfl).trans ?_
  refine (mjTo.pure 1 (s2 := (31, [(0, .ref 465), (1, .int (Int32.ofNat j)), (2, .int (Int32.ofNat q))], [.int ((Int8.ofInt 60).toInt32), .int 0], h)) fun _ => rfl).trans ?_
  refine (mjTo.icT (c := .ne) (x := 0) (y := (Int8.ofInt 60).toInt32) (n := 37) rfl (by decide) rfl).trans ?_
  refine (mjTo.pure 1 (s2 := (38, [(0, .ref 465), (1, .int (Int32.ofNat j)), (2, .int (Int32.ofNat q))], [.ref 465], h)) fun _ => rfl).trans ?_
  refine (mjTo.virt (as := []) (r := []) (v := none) (h' := h) rfl rfl hF.m (Nat.le_of_ble_eq_true rfl) ((m_empty hF).up (by decide))).trans ?_
  refine (mjTo.pure 4 (s2 := (45, [(3, .int (Int32.ofInt 0)), (0, .ref 465), (1, .int (Int32.ofNat j)), (2, .int (Int32.ofNat q))], [.int (Int32.ofNat q), .int (Int32.ofInt 0)], h)) fun _ => rfl).trans ?_
  refine (mjTo.icF (c := .ge) (x := (Int32.ofInt 0)) (y := (Int32.ofNat q)) (n := 137) rfl (cF_ge (by simp only [cj (show q < 100 by omega), mjk_0, mjk_1, mjk_2, mjk_3, mjk_4, mjk_m1, mjk_b6, mjk_b8, mjk_b15, mjk_b16, mjk_b22, mjk_b36, mjk_b48, mjk_b60, mjk_b63, mjk_z]; omega)) rfl).trans ?_
  refine (mjTo.pure 1 (s2 := (49, [(3, .int (Int32.ofInt 0)), (0, .ref 465), (1, .int (Int32.ofNat j)), (2, .int (Int32.ofNat q))], [.ref 465], h)) fun _ => rfl).trans ?_
  refine (mjTo.getf rfl hF.m rfl).trans ?_
  refine (mjTo.pure 3 (s2 := (55, [(3, .int (Int32.ofInt 0)), (0, .ref 465), (1, .int (Int32.ofNat j)), (2, .int (Int32.ofNat q))], [.int ((Int32.ofNat j) + (Int32.ofInt 0)), .ref 466], h)) fun _ => rfl).trans ?_
  refine (mjTo.iald (a := 465) rfl hF.size (by rw [mj_add0]; exact mjAt_rep hj (by decide))).trans ?_
  refine (mjTo.pure 1 (s2 := (57, [(3, .int (Int32.ofInt 0)), (0, .ref 465), (1, .int (Int32.ofNat j)), (2, .int (Int32.ofNat q))], [.int (Int32.ofInt (-1)), .int (-1 : Int32)], h)) fun _ => rfl).trans ?_
  refine (mjTo.icF (c := .ne) (x := (-1 : Int32)) (y := (Int32.ofInt (-1))) (n := 70) rfl (by decide) rfl).trans ?_
  refine (mjTo.pure 5 (s2 := (66, [(3, .int (Int32.ofInt 0)), (0, .ref 465), (1, .int (Int32.ofNat j)), (2, .int (Int32.ofNat q))], [.int ((Int8.ofInt 10).toInt32 * (Int32.ofInt 0)), .int (Int32.ofInt 1), .ref 465], h)) fun _ => rfl).trans ?_
  refine (mjTo.virt (as := [.int (Int32.ofInt 1), .int ((Int8.ofInt 10).toInt32 * (Int32.ofInt 0))]) (r := []) (v := some (.int ((Int8.ofInt (-10)).toInt32 - Int32.ofInt 1))) (h' := hh) rfl rfl hF.m (Nat.le_of_ble_eq_true rfl) (hc.up (by decide))).trans ?_
  exact mjTo.refl
set_option maxRecDepth 4000 in
theorem m_trace (k : Int32) {h : mjH} (hF : mjFM h) : mjDoes 2 199 [.ref 465, .int k] h (some (.int (Int32.ofInt (-1)))) h := by
  refine mjDoes.of2 (tab := mjTb mjT_199) (q := ((⟨"TableBenchModel", "trace", "(I)I"⟩, prog_13_method_35_code, 2, some (Jvm.ClassFile.FieldType.int)), 0, 1326, 1324, 1414, 13)) (st := (24, [(0, .ref 465), (1, .int k)], [.int (Int32.ofInt (-1))], h)) (e := (.ireturn, 1, mj0)) rfl rfl (Nat.le_of_ble_eq_true rfl) ?_ rfl rfl rfl
  refine (mjTo.pure 3 (s2 := (3, [(0, .ref 465), (1, .int k)], [.ref 465, .int (Int32.ofInt 0), .int k], h)) fun _ => rfl).trans ?_
  refine (mjTo.getf rfl hF.m rfl).trans ?_
  refine (mjTo.pure 2 (s2 := (8, [(0, .ref 465), (1, .int k)], [.int (0 - (Int32.ofInt 1)), .int (Int32.ofInt 0), .int k], h)) fun _ => rfl).trans ?_
  refine (mjTo.stat (as := [.int k, .int (Int32.ofInt 0), .int (0 - (Int32.ofInt 1))]) (r := []) (v := some (.int (Int32.ofInt 0))) (h' := h) rfl rfl (Nat.le_of_ble_eq_true rfl) ((m_in_out h (t_none k)).up (by decide))).trans ?_
  refine (mjTo.ifT (c := .eq) (x := (Int32.ofInt 0)) (n := 23) rfl (by decide) rfl).trans ?_
  refine (mjTo.pure 1 (s2 := (24, [(0, .ref 465), (1, .int k)], [.int (Int32.ofInt (-1))], h)) fun _ => rfl).trans ?_
  exact mjTo.refl
set_option maxRecDepth 4000 in
theorem m_sign (k : Int32) {h : mjH} (hF : mjFM h) : mjDoes 2 252 [.ref 465, .int k] h (some (.int (Int32.ofInt 0))) h := by
  refine mjDoes.of2 (tab := mjTb mjT_252) (q := ((⟨"TableBenchModel", "sign", "(I)I"⟩, prog_13_method_88_code, 2, some (Jvm.ClassFile.FieldType.int)), 0, 1538, 1536, 1626, 13)) (st := (24, [(0, .ref 465), (1, .int k)], [.int (Int32.ofInt 0)], h)) (e := (.ireturn, 1, mj0)) rfl rfl (Nat.le_of_ble_eq_true rfl) ?_ rfl rfl rfl
  refine (mjTo.pure 3 (s2 := (3, [(0, .ref 465), (1, .int k)], [.ref 465, .int (Int32.ofInt 0), .int k], h)) fun _ => rfl).trans ?_
  refine (mjTo.getf rfl hF.m rfl).trans ?_
  refine (mjTo.pure 2 (s2 := (8, [(0, .ref 465), (1, .int k)], [.int (0 - (Int32.ofInt 1)), .int (Int32.ofInt 0), .int k], h)) fun _ => rfl).trans ?_
  refine (mjTo.stat (as := [.int k, .int (Int32.ofInt 0), .int (0 - (Int32.ofInt 1))]) (r := []) (v := some (.int (Int32.ofInt 0))) (h' := h) rfl rfl (Nat.le_of_ble_eq_true rfl) ((m_in_out h (t_none k)).up (by decide))).trans ?_
  refine (mjTo.ifT (c := .eq) (x := (Int32.ofInt 0)) (n := 23) rfl (by decide) rfl).trans ?_
  refine (mjTo.pure 1 (s2 := (24, [(0, .ref 465), (1, .int k)], [.int (Int32.ofInt 0)], h)) fun _ => rfl).trans ?_
  exact mjTo.refl
set_option maxRecDepth 4000 in
theorem m_bits (k : Int32) {h : mjH} (hF : mjFM h) : mjDoes 2 253 [.ref 465, .int k] h (some (.int (Int32.ofInt 0))) h := by
  refine mjDoes.of2 (tab := mjTb mjT_253) (q := ((⟨"TableBenchModel", "bits", "(I)I"⟩, prog_13_method_89_code, 2, some (Jvm.ClassFile.FieldType.int)), 0, 1542, 1540, 1630, 13)) (st := (23, [(0, .ref 465), (1, .int k)], [.int (Int32.ofInt 0)], h)) (e := (.ireturn, 1, mj0)) rfl rfl (Nat.le_of_ble_eq_true rfl) ?_ rfl rfl rfl
  refine (mjTo.pure 3 (s2 := (3, [(0, .ref 465), (1, .int k)], [.ref 465, .int (Int32.ofInt 0), .int k], h)) fun _ => rfl).trans ?_
  refine (mjTo.getf rfl hF.m rfl).trans ?_
  refine (mjTo.pure 2 (s2 := (8, [(0, .ref 465), (1, .int k)], [.int (0 - (Int32.ofInt 1)), .int (Int32.ofInt 0), .int k], h)) fun _ => rfl).trans ?_
  refine (mjTo.stat (as := [.int k, .int (Int32.ofInt 0), .int (0 - (Int32.ofInt 1))]) (r := []) (v := some (.int (Int32.ofInt 0))) (h' := h) rfl rfl (Nat.le_of_ble_eq_true rfl) ((m_in_out h (t_none k)).up (by decide))).trans ?_
  refine (mjTo.ifT (c := .eq) (x := (Int32.ofInt 0)) (n := 22) rfl (by decide) rfl).trans ?_
  refine (mjTo.pure 1 (s2 := (23, [(0, .ref 465), (1, .int k)], [.int (Int32.ofInt 0)], h)) fun _ => rfl).trans ?_
  exact mjTo.refl
set_option maxRecDepth 4000 in
theorem m_word (k k2 : Int32) {h : mjH} (hF : mjFM h) : mjDoes 2 254 [.ref 465, .int k, .int k2] h (some (.long (Int64.ofNat 0))) h := by
  refine mjDoes.of2 (tab := mjTb mjT_254) (q := ((⟨"TableBenchModel", "word", "(II)J"⟩, prog_13_method_91_code, 3, some (Jvm.ClassFile.FieldType.long)), 0, 1546, 1544, 1634, 13)) (st := (34, [(0, .ref 465), (1, .int k), (2, .int k2)], [.long (Int64.ofNat 0)], h)) (e := (.lreturn, 1, mj0)) rfl rfl (Nat.le_of_ble_eq_true rfl) ?_ rfl rfl rfl
  refine (mjTo.pure 3 (s2 := (3, [(0, .ref 465), (1, .int k), (2, .int k2)], [.ref 465, .int (Int32.ofInt 0), .int k], h)) fun _ => rfl).trans ?_
  refine (mjTo.getf rfl hF.m rfl).trans ?_
  refine (mjTo.pure 2 (s2 := (8, [(0, .ref 465), (1, .int k), (2, .int k2)], [.int (0 - (Int32.ofInt 1)), .int (Int32.ofInt 0), .int k], h)) fun _ => rfl).trans ?_
  refine (mjTo.stat (as := [.int k, .int (Int32.ofInt 0), .int (0 - (Int32.ofInt 1))]) (r := []) (v := some (.int (Int32.ofInt 0))) (h' := h) rfl rfl (Nat.le_of_ble_eq_true rfl) ((m_in_out h (t_none k)).up (by decide))).trans ?_
  refine (mjTo.ifT (c := .eq) (x := (Int32.ofInt 0)) (n := 33) rfl (by decide) rfl).trans ?_
  refine (mjTo.pure 1 (s2 := (34, [(0, .ref 465), (1, .int k), (2, .int k2)], [.long (Int64.ofNat 0)], h)) fun _ => rfl).trans ?_
  exact mjTo.refl
set_option maxRecDepth 4000 in
theorem m_findings_out {k : Int32} {h : mjH} (hk : k.toInt < 1 ∨ 8 < k.toInt) : mjDoes 2 257 [.ref 465, .int k] h (some (.int ((Int8.ofInt (-102)).toInt32))) h := by
  refine mjDoes.of2 (tab := mjTb mjT_257) (q := ((⟨"TableBenchModel", "findings", "(I)I"⟩, prog_13_method_93_code, 2, some (Jvm.ClassFile.FieldType.int)), 0, 1558, 1556, 1646, 13)) (st := (21, [(0, .ref 465), (1, .int k)], [.int ((Int8.ofInt (-102)).toInt32)], h)) (e := (.ireturn, 1, mj0)) rfl rfl (Nat.le_of_ble_eq_true rfl) ?_ rfl rfl rfl
  refine (mjTo.pure 3 (s2 := (4, [(0, .ref 465), (1, .int k)], [.int ((Int8.ofInt 8).toInt32), .int (Int32.ofInt 1), .int k], h)) fun _ => rfl).trans ?_
  refine (mjTo.stat (as := [.int k, .int (Int32.ofInt 1), .int ((Int8.ofInt 8).toInt32)]) (r := []) (v := some (.int (Int32.ofInt 0))) (h' := h) rfl rfl (Nat.le_of_ble_eq_true rfl) ((m_in_out h (fun q => by have h3 := Int32.le_iff_toInt_le.mp q.1; have h4 := Int32.le_iff_toInt_le.mp q.2; simp only [mjk_0, mjk_1, mjk_2, mjk_3, mjk_4, mjk_m1, mjk_b6, mjk_b8, mjk_b15, mjk_b16, mjk_b22, mjk_b36, mjk_b48, mjk_b60, mjk_b63, mjk_z] at h3 h4; omega)).up (by decide))).trans ?_
  refine (mjTo.ifT (c := .eq) (x := (Int32.ofInt 0)) (n := 19) rfl (by decide) rfl).trans ?_
  refine (mjTo.pure 1 (s2 := (21, [(0, .ref 465), (1, .int k)], [.int ((Int8.ofInt (-102)).toInt32)], h)) fun _ => rfl).trans ?_
  exact mjTo.refl
set_option maxRecDepth 4000 in
theorem m_about_out {k : Int32} {h : mjH} (hk : k.toInt < 0 ∨ 6 < k.toInt) : mjDoes 2 258 [.ref 465, .int k] h (some (.int ((Int8.ofInt (-102)).toInt32))) h := by
  refine mjDoes.of2 (tab := mjTb mjT_258) (q := ((⟨"TableBenchModel", "about", "(I)I"⟩, prog_13_method_94_code, 4, some (Jvm.ClassFile.FieldType.int)), 0, 1562, 1560, 1650, 13)) (st := (12, [(0, .ref 465), (1, .int k)], [.int ((Int8.ofInt (-102)).toInt32)], h)) (e := (.ireturn, 1, mj0)) rfl rfl (Nat.le_of_ble_eq_true rfl) ?_ rfl rfl rfl
  refine (mjTo.pure 3 (s2 := (4, [(0, .ref 465), (1, .int k)], [.int ((Int8.ofInt 6).toInt32), .int (Int32.ofInt 0), .int k], h)) fun _ => rfl).trans ?_
  refine (mjTo.stat (as := [.int k, .int (Int32.ofInt 0), .int ((Int8.ofInt 6).toInt32)]) (r := []) (v := some (.int (Int32.ofInt 0))) (h' := h) rfl rfl (Nat.le_of_ble_eq_true rfl) ((m_in_out h (fun q => by have h3 := Int32.le_iff_toInt_le.mp q.1; have h4 := Int32.le_iff_toInt_le.mp q.2; simp only [mjk_0, mjk_1, mjk_2, mjk_3, mjk_4, mjk_m1, mjk_b6, mjk_b8, mjk_b15, mjk_b16, mjk_b22, mjk_b36, mjk_b48, mjk_b60, mjk_b63, mjk_z] at h3 h4; omega)).up (by decide))).trans ?_
  refine (mjTo.ifF (c := .ne) (x := (Int32.ofInt 0)) (n := 13) rfl (by decide) rfl).trans ?_
  refine (mjTo.pure 1 (s2 := (12, [(0, .ref 465), (1, .int k)], [.int ((Int8.ofInt (-102)).toInt32)], h)) fun _ => rfl).trans ?_
  exact mjTo.refl
set_option maxRecDepth 4000 in
theorem m_form (t l : Int32) {h : mjH} (hF : mjFM h) : mjDoes 3 244 [.ref 465, .int t, .int l] h (some (.int ((Int8.ofInt (-101)).toInt32))) h := by
  refine mjDoes.of2 (tab := mjTb mjT_244) (q := ((⟨"TableBenchModel", "form", "(II)I"⟩, prog_13_method_80_code, 10, some (Jvm.ClassFile.FieldType.int)), 0, 1506, 1504, 1594, 13)) (st := (17, [(0, .ref 465), (1, .int t), (2, .int l)], [.int ((Int8.ofInt (-101)).toInt32)], h)) (e := (.ireturn, 1, mj0)) rfl rfl (Nat.le_of_ble_eq_true rfl) ?_ rfl rfl rfl
  refine (mjTo.pure 2 (s2 := (2, [(0, .ref 465), (1, .int t), (2, .int l)], [.int t, .ref 465], h)) fun _ => rfl).trans ?_
  refine (mjTo.virt (as := [.int t]) (r := []) (v := some (.int (Int32.ofInt 0))) (h' := h) rfl rfl hF.m (Nat.le_of_ble_eq_true rfl) ((m_isTable t hF.m rfl).up (by decide))).trans ?_
  refine (mjTo.ifT (c := .eq) (x := (Int32.ofInt 0)) (n := 15) rfl (by decide) rfl).trans ?_
  refine (mjTo.pure 1 (s2 := (17, [(0, .ref 465), (1, .int t), (2, .int l)], [.int ((Int8.ofInt (-101)).toInt32)], h)) fun _ => rfl).trans ?_
  exact mjTo.refl
