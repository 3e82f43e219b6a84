/-! A fresh object: what knows no table answers UNKNOWN, on both sides. -/
def mjXf : List Value := [.ref 2, .ref 35, .int 0, .ref 156, .int 0, .ref 253, .int 0, .int (-1), .int 0, .ref 254, .long 0, .ref 255, .ref 325, .ref 343, .ref 460]
def mjMf : List Value := [.ref 466, .ref 467, .ref 468, .int 0, .ref 469, .ref 470, .ref 471, .ref 472, .int (-1), .int 0, .ref 473, .long 0, .int 0, .int 0, .ref 474, .ref 475, .ref 476, .ref 477, .int 0, .ref 478, .ref 479, .ref 480, .ref 481, .ref 482, .ref 483, .ref 484, .ref 485, .ref 486, .ref 487, .ref 488, .int 0, .ref 489, .int 0, .ref 490, .int 0, .int 0, .int 0, .ref 491, .ref 492, .ref 493, .int 0, .ref 494, .long 0]
theorem mjDoes.of2 {d mid : Nat} {tab : mjTab} {q : mjM} {as : List Value} {h : mjH} {st : mjS} {e : mjI} {v : Option Value} (h0 : mjCd mid = tab) (h1 : mjMt[mid]? = some q) (h2 : (lg_sl as).length ≤ q.1.2.2.1) (h3 : mjTo d q.1.2.2.1 none tab (0, lv_args 0 as, [], h) st) (h4 : tab st.1 = some e) (h5 : mjIsRet e.1 = true) (h6 : mjOut q.1.2.2.2 e.1 st.2.2.1 = some v) : mjDoes (d + 1) mid as h v st.2.2.2 := by
  subst h0
  exact mjDoes.of h1 h2 h3 h4 h5 h6
theorem mjXh_len : mjXh.length = 464 := by decide +kernel
theorem mjHP_0 : mjHP[0]? = some (.inl (10, mjXf)) := rfl
theorem mjHP_m : mjHP[464]? = some (.inl (11, mjMf)) := by
  unfold mjHP
  rw [List.getElem?_append_right (by rw [mjXh_len]; exact Nat.le_refl _), mjXh_len]
  rfl
theorem m_in_lo {v lo hi : Int32} (h : mjH) (h1 : v < lo) : mjDoes 1 169 [.int v, .int lo, .int hi] h (some (.int (Int32.ofInt 0))) h := by
  refine mjDoes.of2 (tab := mjTb mjT_169) (q := ((⟨"TableBenchModel", "in", "(III)Z"⟩, prog_13_method_3_code, 3, some (Jvm.ClassFile.FieldType.boolean)), 1, 1189, 1188, 0, 13)) (st := (15, [(0, .int v), (1, .int lo), (2, .int hi)], [.int (Int32.ofInt 0)], h)) (e := (.ireturn, 1, mj0)) rfl rfl (Nat.le_of_ble_eq_true rfl) ?_ rfl rfl rfl
  refine (mjTo.pure 2 (s2 := (2, [(0, .int v), (1, .int lo), (2, .int hi)], [.int lo, .int v], h)) fun _ => rfl).trans ?_
  refine (mjTo.icT (c := .lt) (x := v) (y := lo) (n := 14) rfl (decide_eq_true h1) rfl).trans ?_
  refine (mjTo.pure 1 (s2 := (15, [(0, .int v), (1, .int lo), (2, .int hi)], [.int (Int32.ofInt 0)], h)) fun _ => rfl).trans ?_
  exact mjTo.refl
theorem m_in_hi {v lo hi : Int32} (h : mjH) (h1 : lo ≤ v) (h2 : hi < v) : mjDoes 1 169 [.int v, .int lo, .int hi] h (some (.int (Int32.ofInt 0))) h := by
  refine mjDoes.of2 (tab := mjTb mjT_169) (q := ((⟨"TableBenchModel", "in", "(III)Z"⟩, prog_13_method_3_code, 3, some (Jvm.ClassFile.FieldType.boolean)), 1, 1189, 1188, 0, 13)) (st := (15, [(0, .int v), (1, .int lo), (2, .int hi)], [.int (Int32.ofInt 0)], h)) (e := (.ireturn, 1, mj0)) rfl rfl (Nat.le_of_ble_eq_true rfl) ?_ rfl rfl rfl
  refine (mjTo.pure 2 (s2 := (2, [(0, .int v), (1, .int lo), (2, .int hi)], [.int lo, .int v], h)) fun _ => rfl).trans ?_
  refine (mjTo.icF (c := .lt) (x := v) (y := lo) (n := 14) rfl (decide_eq_false (Int32.not_lt.mpr h1)) rfl).trans ?_
  refine (mjTo.pure 2 (s2 := (7, [(0, .int v), (1, .int lo), (2, .int hi)], [.int hi, .int v], h)) fun _ => rfl).trans ?_
  refine (mjTo.icT (c := .gt) (x := v) (y := hi) (n := 14) rfl (decide_eq_true h2) rfl).trans ?_
  refine (mjTo.pure 1 (s2 := (15, [(0, .int v), (1, .int lo), (2, .int hi)], [.int (Int32.ofInt 0)], h)) fun _ => rfl).trans ?_
  exact mjTo.refl
theorem m_in_ok {v lo hi : Int32} (h : mjH) (h1 : lo ≤ v) (h2 : v ≤ hi) : mjDoes 1 169 [.int v, .int lo, .int hi] h (some (.int (Int32.ofInt 1))) h := by
  refine mjDoes.of2 (tab := mjTb mjT_169) (q := ((⟨"TableBenchModel", "in", "(III)Z"⟩, prog_13_method_3_code, 3, some (Jvm.ClassFile.FieldType.boolean)), 1, 1189, 1188, 0, 13)) (st := (15, [(0, .int v), (1, .int lo), (2, .int hi)], [.int (Int32.ofInt 1)], h)) (e := (.ireturn, 1, mj0)) rfl rfl (Nat.le_of_ble_eq_true rfl) ?_ rfl rfl rfl
  refine (mjTo.pure 2 (s2 := (2, [(0, .int v), (1, .int lo), (2, .int hi)], [.int lo, .int v], h)) fun _ => rfl).trans ?_
  refine (mjTo.icF (c := .lt) (x := v) (y := lo) (n := 14) rfl (decide_eq_false (Int32.not_lt.mpr h1)) rfl).trans ?_
  refine (mjTo.pure 2 (s2 := (7, [(0, .int v), (1, .int lo), (2, .int hi)], [.int hi, .int v], h)) fun _ => rfl).trans ?_
  refine (mjTo.icF (c := .gt) (x := v) (y := hi) (n := 14) rfl (decide_eq_false (Int32.not_lt.mpr h2)) rfl).trans ?_
  refine (mjTo.pure 2 (s2 := (15, [(0, .int v), (1, .int lo), (2, .int hi)], [.int (Int32.ofInt 1)], h)) fun _ => rfl).trans ?_
  exact mjTo.refl
theorem m_in_out {v lo hi : Int32} (h : mjH) (h1 : ¬ (lo ≤ v ∧ v ≤ hi)) : mjDoes 1 169 [.int v, .int lo, .int hi] h (some (.int (Int32.ofInt 0))) h := by
  by_cases h2 : v < lo
  · exact m_in_lo h h2
  · have h3 := Int32.not_lt.mp h2
    exact m_in_hi h h3 (Int32.not_le.mp fun q => h1 ⟨h3, q⟩)
theorem t_none (t : Int32) : ¬ (Int32.ofInt 0 ≤ t ∧ t ≤ 0 - Int32.ofInt 1) := by
  rintro ⟨h1, h2⟩
  have h3 := Int32.le_iff_toInt_le.mp h1
  have h4 := Int32.le_iff_toInt_le.mp h2
  rw [show (Int32.ofInt 0).toInt = 0 from by decide] at h3
  rw [show (0 - Int32.ofInt 1 : Int32).toInt = -1 from by decide] at h4
  omega
theorem m_isTable (t : Int32) {h : mjH} {fs : List Value} (hm : h[464]? = some (.inl (11, fs))) (hf : fs[3]? = some (.int 0)) : mjDoes 2 181 [.ref 465, .int t] h (some (.int (Int32.ofInt 0))) h := by
  have hn := t_none t
  refine mjDoes.of2 (tab := mjTb mjT_181) (q := ((⟨"TableBenchModel", "isTable", "(I)Z"⟩, prog_13_method_11_code, 2, some (Jvm.ClassFile.FieldType.boolean)), 0, 1254, 1253, 49, 13)) (st := (11, [(0, .ref 465), (1, .int t)], [.int (Int32.ofInt 0)], h)) (e := (.ireturn, 1, mj0)) rfl rfl (Nat.le_of_ble_eq_true rfl) ?_ rfl rfl rfl
  refine (mjTo.pure 3 (s2 := (3, [(0, .ref 465), (1, .int t)], [.ref 465, .int (Int32.ofInt 0), .int t], h)) fun _ => rfl).trans ?_
  refine (mjTo.getf (w := .int 0) rfl hm hf).trans ?_
  refine (mjTo.pure 2 (s2 := (8, [(0, .ref 465), (1, .int t)], [.int (0 - (Int32.ofInt 1)), .int (Int32.ofInt 0), .int t], h)) fun _ => rfl).trans ?_
  refine (mjTo.stat (as := [.int t, .int (Int32.ofInt 0), .int (0 - (Int32.ofInt 1))]) (r := []) (v := some (.int (Int32.ofInt 0))) (h' := h) rfl rfl (Nat.le_of_ble_eq_true rfl) ((m_in_out h (fun q => hn q)).up (by decide))).trans ?_
  exact mjTo.refl
theorem x_tableAt (t : Int32) {h : mjH} {fs : List Value} (hx : h[0]? = some (.inl (10, fs))) (hf : fs[2]? = some (.int 0)) : mjDoes 1 48 [.ref 1, .int t] h (some .null) h := by
  by_cases h1 : t < 0
  · refine mjDoes.of2 (tab := mjTb mjT_48) (q := ((⟨"TableBench", "tableAt", "(I)LTableBench$Table;"⟩, prog_1_method_45_code, 2, some ((Jvm.ClassFile.FieldType.object "TableBench$Table"))), 0, 484, 483, 14, 1)) (st := (28, [(0, .ref 1), (1, .int t)], [.null], h)) (e := (.areturn, 1, mj0)) rfl rfl (Nat.le_of_ble_eq_true rfl) ?_ rfl rfl rfl
    refine (mjTo.pure 1 (s2 := (1, [(0, .ref 1), (1, .int t)], [.int t], h)) fun _ => rfl).trans ?_
    refine (mjTo.ifT (c := .lt) (x := t) (n := 27) rfl (decide_eq_true h1) rfl).trans ?_
    refine (mjTo.pure 1 (s2 := (28, [(0, .ref 1), (1, .int t)], [.null], h)) fun _ => rfl).trans ?_
    exact mjTo.refl
  · refine mjDoes.of2 (tab := mjTb mjT_48) (q := ((⟨"TableBench", "tableAt", "(I)LTableBench$Table;"⟩, prog_1_method_45_code, 2, some ((Jvm.ClassFile.FieldType.object "TableBench$Table"))), 0, 484, 483, 14, 1)) (st := (28, [(0, .ref 1), (1, .int t)], [.null], h)) (e := (.areturn, 1, mj0)) rfl rfl (Nat.le_of_ble_eq_true rfl) ?_ rfl rfl rfl
    refine (mjTo.pure 1 (s2 := (1, [(0, .ref 1), (1, .int t)], [.int t], h)) fun _ => rfl).trans ?_
    refine (mjTo.ifF (c := .lt) (x := t) (n := 27) rfl (decide_eq_false h1) rfl).trans ?_
    refine (mjTo.pure 2 (s2 := (6, [(0, .ref 1), (1, .int t)], [.ref 1, .int t], h)) fun _ => rfl).trans ?_
    refine (mjTo.getf (w := .int 0) rfl hx hf).trans ?_
    refine (mjTo.icT (c := .ge) (x := t) (y := 0) (n := 27) rfl (decide_eq_true (Int32.not_lt.mp h1)) rfl).trans ?_
    refine (mjTo.pure 1 (s2 := (28, [(0, .ref 1), (1, .int t)], [.null], h)) fun _ => rfl).trans ?_
    exact mjTo.refl
theorem x_kind (t : Int32) : mjDoes 2 47 [.ref 1, .int t] mjHP (some (.int ((Int8.ofInt (-101)).toInt32))) mjHP := by
  refine mjDoes.of2 (tab := mjTb mjT_47) (q := ((⟨"TableBench", "kind", "(I)I"⟩, prog_1_method_7_code, 3, some (Jvm.ClassFile.FieldType.int)), 0, 480, 478, 568, 1)) (st := (19, [(2, .null), (0, .ref 1), (1, .int t)], [.int ((Int8.ofInt (-101)).toInt32)], mjHP)) (e := (.ireturn, 1, mj0)) rfl rfl (Nat.le_of_ble_eq_true rfl) ?_ rfl rfl rfl
  refine (mjTo.pure 2 (s2 := (2, [(0, .ref 1), (1, .int t)], [.int t, .ref 1], mjHP)) fun _ => rfl).trans ?_
  refine (mjTo.virt (as := [.int t]) (r := []) (v := some (.null)) (h' := mjHP) rfl rfl mjHP_0 (Nat.le_of_ble_eq_true rfl) ((x_tableAt t mjHP_0 rfl).up (by decide))).trans ?_
  refine (mjTo.pure 5 (s2 := (19, [(2, .null), (0, .ref 1), (1, .int t)], [.int ((Int8.ofInt (-101)).toInt32)], mjHP)) fun _ => rfl).trans ?_
  exact mjTo.refl
theorem m_kind (t : Int32) : mjDoes 3 180 [.ref 465, .int t] mjHP (some (.int ((Int8.ofInt (-101)).toInt32))) mjHP := by
  refine mjDoes.of2 (tab := mjTb mjT_180) (q := ((⟨"TableBenchModel", "kind", "(I)I"⟩, prog_13_method_20_code, 2, some (Jvm.ClassFile.FieldType.int)), 0, 1250, 1248, 1338, 13)) (st := (19, [(0, .ref 465), (1, .int t)], [.int ((Int8.ofInt (-101)).toInt32)], mjHP)) (e := (.ireturn, 1, mj0)) rfl rfl (Nat.le_of_ble_eq_true rfl) ?_ rfl rfl rfl
  refine (mjTo.pure 2 (s2 := (2, [(0, .ref 465), (1, .int t)], [.int t, .ref 465], mjHP)) fun _ => rfl).trans ?_
  refine (mjTo.virt (as := [.int t]) (r := []) (v := some (.int (Int32.ofInt 0))) (h' := mjHP) rfl rfl mjHP_m (Nat.le_of_ble_eq_true rfl) ((m_isTable t mjHP_m rfl).up (by decide))).trans ?_
  refine (mjTo.ifT (c := .eq) (x := (Int32.ofInt 0)) (n := 17) rfl (by decide) rfl).trans ?_
  refine (mjTo.pure 1 (s2 := (19, [(0, .ref 465), (1, .int t)], [.int ((Int8.ofInt (-101)).toInt32)], mjHP)) fun _ => rfl).trans ?_
  exact mjTo.refl
theorem x_size (t : Int32) : mjDoes 2 49 [.ref 1, .int t] mjHP (some (.int ((Int8.ofInt (-101)).toInt32))) mjHP := by
  refine mjDoes.of2 (tab := mjTb mjT_49) (q := ((⟨"TableBench", "size", "(I)I"⟩, prog_1_method_8_code, 3, some (Jvm.ClassFile.FieldType.int)), 0, 488, 486, 576, 1)) (st := (19, [(2, .null), (0, .ref 1), (1, .int t)], [.int ((Int8.ofInt (-101)).toInt32)], mjHP)) (e := (.ireturn, 1, mj0)) rfl rfl (Nat.le_of_ble_eq_true rfl) ?_ rfl rfl rfl
  refine (mjTo.pure 2 (s2 := (2, [(0, .ref 1), (1, .int t)], [.int t, .ref 1], mjHP)) fun _ => rfl).trans ?_
  refine (mjTo.virt (as := [.int t]) (r := []) (v := some (.null)) (h' := mjHP) rfl rfl mjHP_0 (Nat.le_of_ble_eq_true rfl) ((x_tableAt t mjHP_0 rfl).up (by decide))).trans ?_
  refine (mjTo.pure 5 (s2 := (19, [(2, .null), (0, .ref 1), (1, .int t)], [.int ((Int8.ofInt (-101)).toInt32)], mjHP)) fun _ => rfl).trans ?_
  exact mjTo.refl
theorem m_size (t : Int32) : mjDoes 3 182 [.ref 465, .int t] mjHP (some (.int ((Int8.ofInt (-101)).toInt32))) mjHP := by
  refine mjDoes.of2 (tab := mjTb mjT_182) (q := ((⟨"TableBenchModel", "size", "(I)I"⟩, prog_13_method_21_code, 2, some (Jvm.ClassFile.FieldType.int)), 0, 1258, 1256, 1346, 13)) (st := (19, [(0, .ref 465), (1, .int t)], [.int ((Int8.ofInt (-101)).toInt32)], mjHP)) (e := (.ireturn, 1, mj0)) rfl rfl (Nat.le_of_ble_eq_true rfl) ?_ rfl rfl rfl
  refine (mjTo.pure 2 (s2 := (2, [(0, .ref 465), (1, .int t)], [.int t, .ref 465], mjHP)) fun _ => rfl).trans ?_
  refine (mjTo.virt (as := [.int t]) (r := []) (v := some (.int (Int32.ofInt 0))) (h' := mjHP) rfl rfl mjHP_m (Nat.le_of_ble_eq_true rfl) ((m_isTable t mjHP_m rfl).up (by decide))).trans ?_
  refine (mjTo.ifT (c := .eq) (x := (Int32.ofInt 0)) (n := 17) rfl (by decide) rfl).trans ?_
  refine (mjTo.pure 1 (s2 := (19, [(0, .ref 465), (1, .int t)], [.int ((Int8.ofInt (-101)).toInt32)], mjHP)) fun _ => rfl).trans ?_
  exact mjTo.refl
theorem x_is (t a1 : Int32) : mjDoes 2 50 [.ref 1, .int t, .int a1] mjHP (some (.int ((Int8.ofInt (-101)).toInt32))) mjHP := by
  refine mjDoes.of2 (tab := mjTb mjT_50) (q := ((⟨"TableBench", "is", "(II)I"⟩, prog_1_method_9_code, 5, some (Jvm.ClassFile.FieldType.int)), 0, 492, 490, 580, 1)) (st := (12, [(3, .null), (0, .ref 1), (1, .int t), (2, .int a1)], [.int ((Int8.ofInt (-101)).toInt32)], mjHP)) (e := (.ireturn, 1, mj0)) rfl rfl (Nat.le_of_ble_eq_true rfl) ?_ rfl rfl rfl
  refine (mjTo.pure 2 (s2 := (2, [(0, .ref 1), (1, .int t), (2, .int a1)], [.int t, .ref 1], mjHP)) fun _ => rfl).trans ?_
  refine (mjTo.virt (as := [.int t]) (r := []) (v := some (.null)) (h' := mjHP) rfl rfl mjHP_0 (Nat.le_of_ble_eq_true rfl) ((x_tableAt t mjHP_0 rfl).up (by decide))).trans ?_
  refine (mjTo.pure 4 (s2 := (12, [(3, .null), (0, .ref 1), (1, .int t), (2, .int a1)], [.int ((Int8.ofInt (-101)).toInt32)], mjHP)) fun _ => rfl).trans ?_
  exact mjTo.refl
theorem m_is (t a1 : Int32) : mjDoes 3 183 [.ref 465, .int t, .int a1] mjHP (some (.int ((Int8.ofInt (-101)).toInt32))) mjHP := by
  refine mjDoes.of2 (tab := mjTb mjT_183) (q := ((⟨"TableBenchModel", "is", "(II)I"⟩, prog_13_method_22_code, 3, some (Jvm.ClassFile.FieldType.int)), 0, 1262, 1260, 1350, 13)) (st := (10, [(0, .ref 465), (1, .int t), (2, .int a1)], [.int ((Int8.ofInt (-101)).toInt32)], mjHP)) (e := (.ireturn, 1, mj0)) rfl rfl (Nat.le_of_ble_eq_true rfl) ?_ rfl rfl rfl
  refine (mjTo.pure 2 (s2 := (2, [(0, .ref 465), (1, .int t), (2, .int a1)], [.int t, .ref 465], mjHP)) fun _ => rfl).trans ?_
  refine (mjTo.virt (as := [.int t]) (r := []) (v := some (.int (Int32.ofInt 0))) (h' := mjHP) rfl rfl mjHP_m (Nat.le_of_ble_eq_true rfl) ((m_isTable t mjHP_m rfl).up (by decide))).trans ?_
  refine (mjTo.ifF (c := .ne) (x := (Int32.ofInt 0)) (n := 11) rfl (by decide) rfl).trans ?_
  refine (mjTo.pure 1 (s2 := (10, [(0, .ref 465), (1, .int t), (2, .int a1)], [.int ((Int8.ofInt (-101)).toInt32)], mjHP)) fun _ => rfl).trans ?_
  exact mjTo.refl
theorem x_at (t a1 a2 : Int32) : mjDoes 2 51 [.ref 1, .int t, .int a1, .int a2] mjHP (some (.int ((Int8.ofInt (-101)).toInt32))) mjHP := by
  refine mjDoes.of2 (tab := mjTb mjT_51) (q := ((⟨"TableBench", "at", "(III)I"⟩, prog_1_method_10_code, 5, some (Jvm.ClassFile.FieldType.int)), 0, 496, 494, 584, 1)) (st := (14, [(4, .null), (0, .ref 1), (1, .int t), (2, .int a1), (3, .int a2)], [.int ((Int8.ofInt (-101)).toInt32)], mjHP)) (e := (.ireturn, 1, mj0)) rfl rfl (Nat.le_of_ble_eq_true rfl) ?_ rfl rfl rfl
  refine (mjTo.pure 2 (s2 := (2, [(0, .ref 1), (1, .int t), (2, .int a1), (3, .int a2)], [.int t, .ref 1], mjHP)) fun _ => rfl).trans ?_
  refine (mjTo.virt (as := [.int t]) (r := []) (v := some (.null)) (h' := mjHP) rfl rfl mjHP_0 (Nat.le_of_ble_eq_true rfl) ((x_tableAt t mjHP_0 rfl).up (by decide))).trans ?_
  refine (mjTo.pure 4 (s2 := (14, [(4, .null), (0, .ref 1), (1, .int t), (2, .int a1), (3, .int a2)], [.int ((Int8.ofInt (-101)).toInt32)], mjHP)) fun _ => rfl).trans ?_
  exact mjTo.refl
theorem m_at (t a1 a2 : Int32) : mjDoes 3 184 [.ref 465, .int t, .int a1, .int a2] mjHP (some (.int ((Int8.ofInt (-101)).toInt32))) mjHP := by
  refine mjDoes.of2 (tab := mjTb mjT_184) (q := ((⟨"TableBenchModel", "at", "(III)I"⟩, prog_13_method_24_code, 4, some (Jvm.ClassFile.FieldType.int)), 0, 1266, 1264, 1354, 13)) (st := (10, [(0, .ref 465), (1, .int t), (2, .int a1), (3, .int a2)], [.int ((Int8.ofInt (-101)).toInt32)], mjHP)) (e := (.ireturn, 1, mj0)) rfl rfl (Nat.le_of_ble_eq_true rfl) ?_ rfl rfl rfl
  refine (mjTo.pure 2 (s2 := (2, [(0, .ref 465), (1, .int t), (2, .int a1), (3, .int a2)], [.int t, .ref 465], mjHP)) fun _ => rfl).trans ?_
  refine (mjTo.virt (as := [.int t]) (r := []) (v := some (.int (Int32.ofInt 0))) (h' := mjHP) rfl rfl mjHP_m (Nat.le_of_ble_eq_true rfl) ((m_isTable t mjHP_m rfl).up (by decide))).trans ?_
  refine (mjTo.ifF (c := .ne) (x := (Int32.ofInt 0)) (n := 11) rfl (by decide) rfl).trans ?_
  refine (mjTo.pure 1 (s2 := (10, [(0, .ref 465), (1, .int t), (2, .int a1), (3, .int a2)], [.int ((Int8.ofInt (-101)).toInt32)], mjHP)) fun _ => rfl).trans ?_
  exact mjTo.refl
theorem x_flow (t : Int32) : mjDoes 2 52 [.ref 1, .int t] mjHP (some (.int ((Int8.ofInt (-101)).toInt32))) mjHP := by
  refine mjDoes.of2 (tab := mjTb mjT_52) (q := ((⟨"TableBench", "flow", "(I)I"⟩, prog_1_method_11_code, 5, some (Jvm.ClassFile.FieldType.int)), 0, 502, 500, 590, 1)) (st := (12, [(2, .null), (0, .ref 1), (1, .int t)], [.int ((Int8.ofInt (-101)).toInt32)], mjHP)) (e := (.ireturn, 1, mj0)) rfl rfl (Nat.le_of_ble_eq_true rfl) ?_ rfl rfl rfl
  refine (mjTo.pure 2 (s2 := (2, [(0, .ref 1), (1, .int t)], [.int t, .ref 1], mjHP)) fun _ => rfl).trans ?_
  refine (mjTo.virt (as := [.int t]) (r := []) (v := some (.null)) (h' := mjHP) rfl rfl mjHP_0 (Nat.le_of_ble_eq_true rfl) ((x_tableAt t mjHP_0 rfl).up (by decide))).trans ?_
  refine (mjTo.pure 4 (s2 := (12, [(2, .null), (0, .ref 1), (1, .int t)], [.int ((Int8.ofInt (-101)).toInt32)], mjHP)) fun _ => rfl).trans ?_
  exact mjTo.refl
theorem m_flow (t : Int32) : mjDoes 3 187 [.ref 465, .int t] mjHP (some (.int ((Int8.ofInt (-101)).toInt32))) mjHP := by
  refine mjDoes.of2 (tab := mjTb mjT_187) (q := ((⟨"TableBenchModel", "flow", "(I)I"⟩, prog_13_method_25_code, 4, some (Jvm.ClassFile.FieldType.int)), 0, 1278, 1276, 1366, 13)) (st := (10, [(0, .ref 465), (1, .int t)], [.int ((Int8.ofInt (-101)).toInt32)], mjHP)) (e := (.ireturn, 1, mj0)) rfl rfl (Nat.le_of_ble_eq_true rfl) ?_ rfl rfl rfl
  refine (mjTo.pure 2 (s2 := (2, [(0, .ref 465), (1, .int t)], [.int t, .ref 465], mjHP)) fun _ => rfl).trans ?_
  refine (mjTo.virt (as := [.int t]) (r := []) (v := some (.int (Int32.ofInt 0))) (h' := mjHP) rfl rfl mjHP_m (Nat.le_of_ble_eq_true rfl) ((m_isTable t mjHP_m rfl).up (by decide))).trans ?_
  refine (mjTo.ifF (c := .ne) (x := (Int32.ofInt 0)) (n := 11) rfl (by decide) rfl).trans ?_
  refine (mjTo.pure 1 (s2 := (10, [(0, .ref 465), (1, .int t)], [.int ((Int8.ofInt (-101)).toInt32)], mjHP)) fun _ => rfl).trans ?_
  exact mjTo.refl
theorem x_turn (t a1 a2 : Int32) : mjDoes 2 54 [.ref 1, .int t, .int a1, .int a2] mjHP (some (.int ((Int8.ofInt (-101)).toInt32))) mjHP := by
  refine mjDoes.of2 (tab := mjTb mjT_54) (q := ((⟨"TableBench", "turn", "(III)I"⟩, prog_1_method_12_code, 6, some (Jvm.ClassFile.FieldType.int)), 0, 511, 509, 599, 1)) (st := (14, [(4, .null), (0, .ref 1), (1, .int t), (2, .int a1), (3, .int a2)], [.int ((Int8.ofInt (-101)).toInt32)], mjHP)) (e := (.ireturn, 1, mj0)) rfl rfl (Nat.le_of_ble_eq_true rfl) ?_ rfl rfl rfl
  refine (mjTo.pure 2 (s2 := (2, [(0, .ref 1), (1, .int t), (2, .int a1), (3, .int a2)], [.int t, .ref 1], mjHP)) fun _ => rfl).trans ?_
  refine (mjTo.virt (as := [.int t]) (r := []) (v := some (.null)) (h' := mjHP) rfl rfl mjHP_0 (Nat.le_of_ble_eq_true rfl) ((x_tableAt t mjHP_0 rfl).up (by decide))).trans ?_
  refine (mjTo.pure 4 (s2 := (14, [(4, .null), (0, .ref 1), (1, .int t), (2, .int a1), (3, .int a2)], [.int ((Int8.ofInt (-101)).toInt32)], mjHP)) fun _ => rfl).trans ?_
  exact mjTo.refl
theorem m_turn (t a1 a2 : Int32) : mjDoes 3 188 [.ref 465, .int t, .int a1, .int a2] mjHP (some (.int ((Int8.ofInt (-101)).toInt32))) mjHP := by
  refine mjDoes.of2 (tab := mjTb mjT_188) (q := ((⟨"TableBenchModel", "turn", "(III)I"⟩, prog_13_method_26_code, 6, some (Jvm.ClassFile.FieldType.int)), 0, 1282, 1280, 1370, 13)) (st := (10, [(0, .ref 465), (1, .int t), (2, .int a1), (3, .int a2)], [.int ((Int8.ofInt (-101)).toInt32)], mjHP)) (e := (.ireturn, 1, mj0)) rfl rfl (Nat.le_of_ble_eq_true rfl) ?_ rfl rfl rfl
  refine (mjTo.pure 2 (s2 := (2, [(0, .ref 465), (1, .int t), (2, .int a1), (3, .int a2)], [.int t, .ref 465], mjHP)) fun _ => rfl).trans ?_
  refine (mjTo.virt (as := [.int t]) (r := []) (v := some (.int (Int32.ofInt 0))) (h' := mjHP) rfl rfl mjHP_m (Nat.le_of_ble_eq_true rfl) ((m_isTable t mjHP_m rfl).up (by decide))).trans ?_
  refine (mjTo.ifF (c := .ne) (x := (Int32.ofInt 0)) (n := 11) rfl (by decide) rfl).trans ?_
  refine (mjTo.pure 1 (s2 := (10, [(0, .ref 465), (1, .int t), (2, .int a1), (3, .int a2)], [.int ((Int8.ofInt (-101)).toInt32)], mjHP)) fun _ => rfl).trans ?_
  exact mjTo.refl
theorem x_mix (t a1 a2 a3 : Int32) : mjDoes 2 56 [.ref 1, .int t, .int a1, .int a2, .int a3] mjHP (some (.int ((Int8.ofInt (-101)).toInt32))) mjHP := by
  refine mjDoes.of2 (tab := mjTb mjT_56) (q := ((⟨"TableBench", "mix", "(IIII)I"⟩, prog_1_method_13_code, 7, some (Jvm.ClassFile.FieldType.int)), 0, 519, 517, 607, 1)) (st := (14, [(5, .null), (0, .ref 1), (1, .int t), (2, .int a1), (3, .int a2), (4, .int a3)], [.int ((Int8.ofInt (-101)).toInt32)], mjHP)) (e := (.ireturn, 1, mj0)) rfl rfl (Nat.le_of_ble_eq_true rfl) ?_ rfl rfl rfl
  refine (mjTo.pure 2 (s2 := (2, [(0, .ref 1), (1, .int t), (2, .int a1), (3, .int a2), (4, .int a3)], [.int t, .ref 1], mjHP)) fun _ => rfl).trans ?_
  refine (mjTo.virt (as := [.int t]) (r := []) (v := some (.null)) (h' := mjHP) rfl rfl mjHP_0 (Nat.le_of_ble_eq_true rfl) ((x_tableAt t mjHP_0 rfl).up (by decide))).trans ?_
  refine (mjTo.pure 4 (s2 := (14, [(5, .null), (0, .ref 1), (1, .int t), (2, .int a1), (3, .int a2), (4, .int a3)], [.int ((Int8.ofInt (-101)).toInt32)], mjHP)) fun _ => rfl).trans ?_
  exact mjTo.refl
theorem m_mix (t a1 a2 a3 : Int32) : mjDoes 3 189 [.ref 465, .int t, .int a1, .int a2, .int a3] mjHP (some (.int ((Int8.ofInt (-101)).toInt32))) mjHP := by
  refine mjDoes.of2 (tab := mjTb mjT_189) (q := ((⟨"TableBenchModel", "mix", "(IIII)I"⟩, prog_13_method_27_code, 6, some (Jvm.ClassFile.FieldType.int)), 0, 1286, 1284, 1374, 13)) (st := (10, [(0, .ref 465), (1, .int t), (2, .int a1), (3, .int a2), (4, .int a3)], [.int ((Int8.ofInt (-101)).toInt32)], mjHP)) (e := (.ireturn, 1, mj0)) rfl rfl (Nat.le_of_ble_eq_true rfl) ?_ rfl rfl rfl
  refine (mjTo.pure 2 (s2 := (2, [(0, .ref 465), (1, .int t), (2, .int a1), (3, .int a2), (4, .int a3)], [.int t, .ref 465], mjHP)) fun _ => rfl).trans ?_
  refine (mjTo.virt (as := [.int t]) (r := []) (v := some (.int (Int32.ofInt 0))) (h' := mjHP) rfl rfl mjHP_m (Nat.le_of_ble_eq_true rfl) ((m_isTable t mjHP_m rfl).up (by decide))).trans ?_
  refine (mjTo.ifF (c := .ne) (x := (Int32.ofInt 0)) (n := 11) rfl (by decide) rfl).trans ?_
  refine (mjTo.pure 1 (s2 := (10, [(0, .ref 465), (1, .int t), (2, .int a1), (3, .int a2), (4, .int a3)], [.int ((Int8.ofInt (-101)).toInt32)], mjHP)) fun _ => rfl).trans ?_
  exact mjTo.refl
theorem x_shift (t a1 : Int32) : mjDoes 2 60 [.ref 1, .int t, .int a1] mjHP (some (.int ((Int8.ofInt (-101)).toInt32))) mjHP := by
  refine mjDoes.of2 (tab := mjTb mjT_60) (q := ((⟨"TableBench", "shift", "(II)I"⟩, prog_1_method_14_code, 5, some (Jvm.ClassFile.FieldType.int)), 0, 538, 536, 626, 1)) (st := (12, [(3, .null), (0, .ref 1), (1, .int t), (2, .int a1)], [.int ((Int8.ofInt (-101)).toInt32)], mjHP)) (e := (.ireturn, 1, mj0)) rfl rfl (Nat.le_of_ble_eq_true rfl) ?_ rfl rfl rfl
  refine (mjTo.pure 2 (s2 := (2, [(0, .ref 1), (1, .int t), (2, .int a1)], [.int t, .ref 1], mjHP)) fun _ => rfl).trans ?_
  refine (mjTo.virt (as := [.int t]) (r := []) (v := some (.null)) (h' := mjHP) rfl rfl mjHP_0 (Nat.le_of_ble_eq_true rfl) ((x_tableAt t mjHP_0 rfl).up (by decide))).trans ?_
  refine (mjTo.pure 4 (s2 := (12, [(3, .null), (0, .ref 1), (1, .int t), (2, .int a1)], [.int ((Int8.ofInt (-101)).toInt32)], mjHP)) fun _ => rfl).trans ?_
  exact mjTo.refl
theorem m_shift (t a1 : Int32) : mjDoes 3 192 [.ref 465, .int t, .int a1] mjHP (some (.int ((Int8.ofInt (-101)).toInt32))) mjHP := by
  refine mjDoes.of2 (tab := mjTb mjT_192) (q := ((⟨"TableBenchModel", "shift", "(II)I"⟩, prog_13_method_28_code, 4, some (Jvm.ClassFile.FieldType.int)), 0, 1298, 1296, 1386, 13)) (st := (10, [(0, .ref 465), (1, .int t), (2, .int a1)], [.int ((Int8.ofInt (-101)).toInt32)], mjHP)) (e := (.ireturn, 1, mj0)) rfl rfl (Nat.le_of_ble_eq_true rfl) ?_ rfl rfl rfl
  refine (mjTo.pure 2 (s2 := (2, [(0, .ref 465), (1, .int t), (2, .int a1)], [.int t, .ref 465], mjHP)) fun _ => rfl).trans ?_
  refine (mjTo.virt (as := [.int t]) (r := []) (v := some (.int (Int32.ofInt 0))) (h' := mjHP) rfl rfl mjHP_m (Nat.le_of_ble_eq_true rfl) ((m_isTable t mjHP_m rfl).up (by decide))).trans ?_
  refine (mjTo.ifF (c := .ne) (x := (Int32.ofInt 0)) (n := 11) rfl (by decide) rfl).trans ?_
  refine (mjTo.pure 1 (s2 := (10, [(0, .ref 465), (1, .int t), (2, .int a1)], [.int ((Int8.ofInt (-101)).toInt32)], mjHP)) fun _ => rfl).trans ?_
  exact mjTo.refl
theorem x_drop (t a1 : Int32) : mjDoes 2 62 [.ref 1, .int t, .int a1] mjHP (some (.int ((Int8.ofInt (-101)).toInt32))) mjHP := by
  refine mjDoes.of2 (tab := mjTb mjT_62) (q := ((⟨"TableBench", "drop", "(II)I"⟩, prog_1_method_15_code, 5, some (Jvm.ClassFile.FieldType.int)), 0, 546, 544, 634, 1)) (st := (12, [(3, .null), (0, .ref 1), (1, .int t), (2, .int a1)], [.int ((Int8.ofInt (-101)).toInt32)], mjHP)) (e := (.ireturn, 1, mj0)) rfl rfl (Nat.le_of_ble_eq_true rfl) ?_ rfl rfl rfl
  refine (mjTo.pure 2 (s2 := (2, [(0, .ref 1), (1, .int t), (2, .int a1)], [.int t, .ref 1], mjHP)) fun _ => rfl).trans ?_
  refine (mjTo.virt (as := [.int t]) (r := []) (v := some (.null)) (h' := mjHP) rfl rfl mjHP_0 (Nat.le_of_ble_eq_true rfl) ((x_tableAt t mjHP_0 rfl).up (by decide))).trans ?_
  refine (mjTo.pure 4 (s2 := (12, [(3, .null), (0, .ref 1), (1, .int t), (2, .int a1)], [.int ((Int8.ofInt (-101)).toInt32)], mjHP)) fun _ => rfl).trans ?_
  exact mjTo.refl
theorem m_drop (t a1 : Int32) : mjDoes 3 193 [.ref 465, .int t, .int a1] mjHP (some (.int ((Int8.ofInt (-101)).toInt32))) mjHP := by
  refine mjDoes.of2 (tab := mjTb mjT_193) (q := ((⟨"TableBenchModel", "drop", "(II)I"⟩, prog_13_method_29_code, 6, some (Jvm.ClassFile.FieldType.int)), 0, 1302, 1300, 1390, 13)) (st := (10, [(0, .ref 465), (1, .int t), (2, .int a1)], [.int ((Int8.ofInt (-101)).toInt32)], mjHP)) (e := (.ireturn, 1, mj0)) rfl rfl (Nat.le_of_ble_eq_true rfl) ?_ rfl rfl rfl
  refine (mjTo.pure 2 (s2 := (2, [(0, .ref 465), (1, .int t), (2, .int a1)], [.int t, .ref 465], mjHP)) fun _ => rfl).trans ?_
  refine (mjTo.virt (as := [.int t]) (r := []) (v := some (.int (Int32.ofInt 0))) (h' := mjHP) rfl rfl mjHP_m (Nat.le_of_ble_eq_true rfl) ((m_isTable t mjHP_m rfl).up (by decide))).trans ?_
  refine (mjTo.ifF (c := .ne) (x := (Int32.ofInt 0)) (n := 11) rfl (by decide) rfl).trans ?_
  refine (mjTo.pure 1 (s2 := (10, [(0, .ref 465), (1, .int t), (2, .int a1)], [.int ((Int8.ofInt (-101)).toInt32)], mjHP)) fun _ => rfl).trans ?_
  exact mjTo.refl
theorem x_weave (t a1 : Int32) : mjDoes 2 64 [.ref 1, .int t, .int a1] mjHP (some (.int ((Int8.ofInt (-101)).toInt32))) mjHP := by
  refine mjDoes.of2 (tab := mjTb mjT_64) (q := ((⟨"TableBench", "weave", "(II)I"⟩, prog_1_method_16_code, 6, some (Jvm.ClassFile.FieldType.int)), 0, 554, 552, 642, 1)) (st := (24, [(4, .null), (3, .null), (0, .ref 1), (1, .int t), (2, .int a1)], [.int ((Int8.ofInt (-101)).toInt32)], mjHP)) (e := (.ireturn, 1, mj0)) rfl rfl (Nat.le_of_ble_eq_true rfl) ?_ rfl rfl rfl
  refine (mjTo.pure 2 (s2 := (2, [(0, .ref 1), (1, .int t), (2, .int a1)], [.int t, .ref 1], mjHP)) fun _ => rfl).trans ?_
  refine (mjTo.virt (as := [.int t]) (r := []) (v := some (.null)) (h' := mjHP) rfl rfl mjHP_0 (Nat.le_of_ble_eq_true rfl) ((x_tableAt t mjHP_0 rfl).up (by decide))).trans ?_
  refine (mjTo.pure 3 (s2 := (8, [(3, .null), (0, .ref 1), (1, .int t), (2, .int a1)], [.int a1, .ref 1], mjHP)) fun _ => rfl).trans ?_
  refine (mjTo.virt (as := [.int a1]) (r := []) (v := some (.null)) (h' := mjHP) rfl rfl mjHP_0 (Nat.le_of_ble_eq_true rfl) ((x_tableAt a1 mjHP_0 rfl).up (by decide))).trans ?_
  refine (mjTo.pure 4 (s2 := (24, [(4, .null), (3, .null), (0, .ref 1), (1, .int t), (2, .int a1)], [.int ((Int8.ofInt (-101)).toInt32)], mjHP)) fun _ => rfl).trans ?_
  exact mjTo.refl
theorem m_weave (t a1 : Int32) : mjDoes 3 194 [.ref 465, .int t, .int a1] mjHP (some (.int ((Int8.ofInt (-101)).toInt32))) mjHP := by
  refine mjDoes.of2 (tab := mjTb mjT_194) (q := ((⟨"TableBenchModel", "weave", "(II)I"⟩, prog_13_method_30_code, 7, some (Jvm.ClassFile.FieldType.int)), 0, 1306, 1304, 1394, 13)) (st := (18, [(0, .ref 465), (1, .int t), (2, .int a1)], [.int ((Int8.ofInt (-101)).toInt32)], mjHP)) (e := (.ireturn, 1, mj0)) rfl rfl (Nat.le_of_ble_eq_true rfl) ?_ rfl rfl rfl
  refine (mjTo.pure 2 (s2 := (2, [(0, .ref 465), (1, .int t), (2, .int a1)], [.int t, .ref 465], mjHP)) fun _ => rfl).trans ?_
  refine (mjTo.virt (as := [.int t]) (r := []) (v := some (.int (Int32.ofInt 0))) (h' := mjHP) rfl rfl mjHP_m (Nat.le_of_ble_eq_true rfl) ((m_isTable t mjHP_m rfl).up (by decide))).trans ?_
  refine (mjTo.ifT (c := .eq) (x := (Int32.ofInt 0)) (n := 16) rfl (by decide) rfl).trans ?_
  refine (mjTo.pure 1 (s2 := (18, [(0, .ref 465), (1, .int t), (2, .int a1)], [.int ((Int8.ofInt (-101)).toInt32)], mjHP)) fun _ => rfl).trans ?_
  exact mjTo.refl
theorem x_line (t a1 a2 : Int32) : mjDoes 2 65 [.ref 1, .int t, .int a1, .int a2] mjHP (some (.int ((Int8.ofInt (-101)).toInt32))) mjHP := by
  refine mjDoes.of2 (tab := mjTb mjT_65) (q := ((⟨"TableBench", "line", "(III)I"⟩, prog_1_method_17_code, 7, some (Jvm.ClassFile.FieldType.int)), 0, 559, 557, 647, 1)) (st := (14, [(4, .null), (0, .ref 1), (1, .int t), (2, .int a1), (3, .int a2)], [.int ((Int8.ofInt (-101)).toInt32)], mjHP)) (e := (.ireturn, 1, mj0)) rfl rfl (Nat.le_of_ble_eq_true rfl) ?_ rfl rfl rfl
  refine (mjTo.pure 2 (s2 := (2, [(0, .ref 1), (1, .int t), (2, .int a1), (3, .int a2)], [.int t, .ref 1], mjHP)) fun _ => rfl).trans ?_
  refine (mjTo.virt (as := [.int t]) (r := []) (v := some (.null)) (h' := mjHP) rfl rfl mjHP_0 (Nat.le_of_ble_eq_true rfl) ((x_tableAt t mjHP_0 rfl).up (by decide))).trans ?_
  refine (mjTo.pure 4 (s2 := (14, [(4, .null), (0, .ref 1), (1, .int t), (2, .int a1), (3, .int a2)], [.int ((Int8.ofInt (-101)).toInt32)], mjHP)) fun _ => rfl).trans ?_
  exact mjTo.refl
theorem m_line (t a1 a2 : Int32) : mjDoes 3 195 [.ref 465, .int t, .int a1, .int a2] mjHP (some (.int ((Int8.ofInt (-101)).toInt32))) mjHP := by
  refine mjDoes.of2 (tab := mjTb mjT_195) (q := ((⟨"TableBenchModel", "line", "(III)I"⟩, prog_13_method_32_code, 4, some (Jvm.ClassFile.FieldType.int)), 0, 1310, 1308, 1398, 13)) (st := (10, [(0, .ref 465), (1, .int t), (2, .int a1), (3, .int a2)], [.int ((Int8.ofInt (-101)).toInt32)], mjHP)) (e := (.ireturn, 1, mj0)) rfl rfl (Nat.le_of_ble_eq_true rfl) ?_ rfl rfl rfl
  refine (mjTo.pure 2 (s2 := (2, [(0, .ref 465), (1, .int t), (2, .int a1), (3, .int a2)], [.int t, .ref 465], mjHP)) fun _ => rfl).trans ?_
  refine (mjTo.virt (as := [.int t]) (r := []) (v := some (.int (Int32.ofInt 0))) (h' := mjHP) rfl rfl mjHP_m (Nat.le_of_ble_eq_true rfl) ((m_isTable t mjHP_m rfl).up (by decide))).trans ?_
  refine (mjTo.ifF (c := .ne) (x := (Int32.ofInt 0)) (n := 11) rfl (by decide) rfl).trans ?_
  refine (mjTo.pure 1 (s2 := (10, [(0, .ref 465), (1, .int t), (2, .int a1), (3, .int a2)], [.int ((Int8.ofInt (-101)).toInt32)], mjHP)) fun _ => rfl).trans ?_
  exact mjTo.refl
theorem mjHP_0b : (mjHP.set 0 (.inl (10, mjXf.set 6 (.int (Int32.ofInt 0)))))[0]? = some (.inl (10, mjXf.set 6 (.int (Int32.ofInt 0)))) := List.getElem?_set_self (by decide +kernel)
theorem x_bound (t : Int32) : mjDoes 2 68 [.ref 1, .int t] mjHP (some (.int ((Int8.ofInt (-101)).toInt32))) (mjHP.set 0 (.inl (10, mjXf.set 6 (.int (Int32.ofInt 0))))) := by
  refine mjDoes.of2 (tab := mjTb mjT_68) (q := ((⟨"TableBench", "bound", "(I)I"⟩, prog_1_method_18_code, 3, some (Jvm.ClassFile.FieldType.int)), 0, 571, 569, 659, 1)) (st := (17, [(2, .null), (0, .ref 1), (1, .int t)], [.int ((Int8.ofInt (-101)).toInt32)], (mjHP.set 0 (.inl (10, mjXf.set 6 (.int (Int32.ofInt 0))))))) (e := (.ireturn, 1, mj0)) rfl rfl (Nat.le_of_ble_eq_true rfl) ?_ rfl rfl rfl
  refine (mjTo.pure 2 (s2 := (2, [(0, .ref 1), (1, .int t)], [.int (Int32.ofInt 0), .ref 1], mjHP)) fun _ => rfl).trans ?_
  refine (mjTo.putf rfl mjHP_0 rfl).trans ?_
  refine (mjTo.pure 2 (s2 := (7, [(0, .ref 1), (1, .int t)], [.int t, .ref 1], (mjHP.set 0 (.inl (10, mjXf.set 6 (.int (Int32.ofInt 0))))))) fun _ => rfl).trans ?_
  refine (mjTo.virt (as := [.int t]) (r := []) (v := some (.null)) (h' := (mjHP.set 0 (.inl (10, mjXf.set 6 (.int (Int32.ofInt 0)))))) rfl rfl mjHP_0b (Nat.le_of_ble_eq_true rfl) ((x_tableAt t mjHP_0b rfl).up (by decide))).trans ?_
  refine (mjTo.pure 4 (s2 := (17, [(2, .null), (0, .ref 1), (1, .int t)], [.int ((Int8.ofInt (-101)).toInt32)], (mjHP.set 0 (.inl (10, mjXf.set 6 (.int (Int32.ofInt 0))))))) fun _ => rfl).trans ?_
  exact mjTo.refl
theorem mjHP_mb : (mjHP.set 464 (.inl (11, mjMf.set 13 (.int (Int32.ofInt 0)))))[464]? = some (.inl (11, mjMf.set 13 (.int (Int32.ofInt 0)))) := List.getElem?_set_self (by decide +kernel)
theorem m_bound (t : Int32) : mjDoes 3 197 [.ref 465, .int t] mjHP (some (.int ((Int8.ofInt (-101)).toInt32))) (mjHP.set 464 (.inl (11, mjMf.set 13 (.int (Int32.ofInt 0))))) := by
  refine mjDoes.of2 (tab := mjTb mjT_197) (q := ((⟨"TableBenchModel", "bound", "(I)I"⟩, prog_13_method_34_code, 8, some (Jvm.ClassFile.FieldType.int)), 0, 1318, 1316, 1406, 13)) (st := (15, [(0, .ref 465), (1, .int t)], [.int ((Int8.ofInt (-101)).toInt32)], (mjHP.set 464 (.inl (11, mjMf.set 13 (.int (Int32.ofInt 0))))))) (e := (.ireturn, 1, mj0)) rfl rfl (Nat.le_of_ble_eq_true rfl) ?_ rfl rfl rfl
  refine (mjTo.pure 2 (s2 := (2, [(0, .ref 465), (1, .int t)], [.int (Int32.ofInt 0), .ref 465], mjHP)) fun _ => rfl).trans ?_
  refine (mjTo.putf rfl mjHP_m rfl).trans ?_
  refine (mjTo.pure 2 (s2 := (7, [(0, .ref 465), (1, .int t)], [.int t, .ref 465], (mjHP.set 464 (.inl (11, mjMf.set 13 (.int (Int32.ofInt 0))))))) fun _ => rfl).trans ?_
  refine (mjTo.virt (as := [.int t]) (r := []) (v := some (.int (Int32.ofInt 0))) (h' := (mjHP.set 464 (.inl (11, mjMf.set 13 (.int (Int32.ofInt 0)))))) rfl rfl mjHP_mb (Nat.le_of_ble_eq_true rfl) ((m_isTable t mjHP_mb rfl).up (by decide))).trans ?_
  refine (mjTo.ifF (c := .ne) (x := (Int32.ofInt 0)) (n := 16) rfl (by decide) rfl).trans ?_
  refine (mjTo.pure 1 (s2 := (15, [(0, .ref 465), (1, .int t)], [.int ((Int8.ofInt (-101)).toInt32)], (mjHP.set 464 (.inl (11, mjMf.set 13 (.int (Int32.ofInt 0))))))) fun _ => rfl).trans ?_
  exact mjTo.refl
theorem x_poly (t : Int32) : mjDoes 2 73 [.ref 1, .int t] mjHP (some (.int ((Int8.ofInt (-101)).toInt32))) mjHP := by
  refine mjDoes.of2 (tab := mjTb mjT_73) (q := ((⟨"TableBench", "poly", "(I)I"⟩, prog_1_method_20_code, 3, some (Jvm.ClassFile.FieldType.int)), 0, 592, 590, 680, 1)) (st := (12, [(2, .null), (0, .ref 1), (1, .int t)], [.int ((Int8.ofInt (-101)).toInt32)], mjHP)) (e := (.ireturn, 1, mj0)) rfl rfl (Nat.le_of_ble_eq_true rfl) ?_ rfl rfl rfl
  refine (mjTo.pure 2 (s2 := (2, [(0, .ref 1), (1, .int t)], [.int t, .ref 1], mjHP)) fun _ => rfl).trans ?_
  refine (mjTo.virt (as := [.int t]) (r := []) (v := some (.null)) (h' := mjHP) rfl rfl mjHP_0 (Nat.le_of_ble_eq_true rfl) ((x_tableAt t mjHP_0 rfl).up (by decide))).trans ?_
  refine (mjTo.pure 4 (s2 := (12, [(2, .null), (0, .ref 1), (1, .int t)], [.int ((Int8.ofInt (-101)).toInt32)], mjHP)) fun _ => rfl).trans ?_
  exact mjTo.refl
theorem m_poly (t : Int32) : mjDoes 3 200 [.ref 465, .int t] mjHP (some (.int ((Int8.ofInt (-101)).toInt32))) mjHP := by
  refine mjDoes.of2 (tab := mjTb mjT_200) (q := ((⟨"TableBenchModel", "poly", "(I)I"⟩, prog_13_method_62_code, 3, some (Jvm.ClassFile.FieldType.int)), 0, 1330, 1328, 1418, 13)) (st := (10, [(0, .ref 465), (1, .int t)], [.int ((Int8.ofInt (-101)).toInt32)], mjHP)) (e := (.ireturn, 1, mj0)) rfl rfl (Nat.le_of_ble_eq_true rfl) ?_ rfl rfl rfl
  refine (mjTo.pure 2 (s2 := (2, [(0, .ref 465), (1, .int t)], [.int t, .ref 465], mjHP)) fun _ => rfl).trans ?_
  refine (mjTo.virt (as := [.int t]) (r := []) (v := some (.int (Int32.ofInt 0))) (h' := mjHP) rfl rfl mjHP_m (Nat.le_of_ble_eq_true rfl) ((m_isTable t mjHP_m rfl).up (by decide))).trans ?_
  refine (mjTo.ifF (c := .ne) (x := (Int32.ofInt 0)) (n := 11) rfl (by decide) rfl).trans ?_
  refine (mjTo.pure 1 (s2 := (10, [(0, .ref 465), (1, .int t)], [.int ((Int8.ofInt (-101)).toInt32)], mjHP)) fun _ => rfl).trans ?_
  exact mjTo.refl
theorem x_worth (t : Int32) : mjDoes 2 87 [.ref 1, .int t] mjHP (some (.int ((Int8.ofInt (-101)).toInt32))) mjHP := by
  refine mjDoes.of2 (tab := mjTb mjT_87) (q := ((⟨"TableBench", "worth", "(I)I"⟩, prog_1_method_21_code, 5, some (Jvm.ClassFile.FieldType.int)), 0, 655, 653, 743, 1)) (st := (12, [(2, .null), (0, .ref 1), (1, .int t)], [.int ((Int8.ofInt (-101)).toInt32)], mjHP)) (e := (.ireturn, 1, mj0)) rfl rfl (Nat.le_of_ble_eq_true rfl) ?_ rfl rfl rfl
  refine (mjTo.pure 2 (s2 := (2, [(0, .ref 1), (1, .int t)], [.int t, .ref 1], mjHP)) fun _ => rfl).trans ?_
  refine (mjTo.virt (as := [.int t]) (r := []) (v := some (.null)) (h' := mjHP) rfl rfl mjHP_0 (Nat.le_of_ble_eq_true rfl) ((x_tableAt t mjHP_0 rfl).up (by decide))).trans ?_
  refine (mjTo.pure 4 (s2 := (12, [(2, .null), (0, .ref 1), (1, .int t)], [.int ((Int8.ofInt (-101)).toInt32)], mjHP)) fun _ => rfl).trans ?_
  exact mjTo.refl
theorem m_worth (t : Int32) : mjDoes 3 205 [.ref 465, .int t] mjHP (some (.int ((Int8.ofInt (-101)).toInt32))) mjHP := by
  refine mjDoes.of2 (tab := mjTb mjT_205) (q := ((⟨"TableBenchModel", "worth", "(I)I"⟩, prog_13_method_63_code, 2, some (Jvm.ClassFile.FieldType.int)), 0, 1351, 1349, 1439, 13)) (st := (10, [(0, .ref 465), (1, .int t)], [.int ((Int8.ofInt (-101)).toInt32)], mjHP)) (e := (.ireturn, 1, mj0)) rfl rfl (Nat.le_of_ble_eq_true rfl) ?_ rfl rfl rfl
  refine (mjTo.pure 2 (s2 := (2, [(0, .ref 465), (1, .int t)], [.int t, .ref 465], mjHP)) fun _ => rfl).trans ?_
  refine (mjTo.virt (as := [.int t]) (r := []) (v := some (.int (Int32.ofInt 0))) (h' := mjHP) rfl rfl mjHP_m (Nat.le_of_ble_eq_true rfl) ((m_isTable t mjHP_m rfl).up (by decide))).trans ?_
  refine (mjTo.ifF (c := .ne) (x := (Int32.ofInt 0)) (n := 11) rfl (by decide) rfl).trans ?_
  refine (mjTo.pure 1 (s2 := (10, [(0, .ref 465), (1, .int t)], [.int ((Int8.ofInt (-101)).toInt32)], mjHP)) fun _ => rfl).trans ?_
  exact mjTo.refl
theorem x_ring (t : Int32) : mjDoes 2 89 [.ref 1, .int t] mjHP (some (.int ((Int8.ofInt (-101)).toInt32))) mjHP := by
  refine mjDoes.of2 (tab := mjTb mjT_89) (q := ((⟨"TableBench", "ring", "(I)I"⟩, prog_1_method_22_code, 3, some (Jvm.ClassFile.FieldType.int)), 0, 663, 661, 751, 1)) (st := (12, [(2, .null), (0, .ref 1), (1, .int t)], [.int ((Int8.ofInt (-101)).toInt32)], mjHP)) (e := (.ireturn, 1, mj0)) rfl rfl (Nat.le_of_ble_eq_true rfl) ?_ rfl rfl rfl
  refine (mjTo.pure 2 (s2 := (2, [(0, .ref 1), (1, .int t)], [.int t, .ref 1], mjHP)) fun _ => rfl).trans ?_
  refine (mjTo.virt (as := [.int t]) (r := []) (v := some (.null)) (h' := mjHP) rfl rfl mjHP_0 (Nat.le_of_ble_eq_true rfl) ((x_tableAt t mjHP_0 rfl).up (by decide))).trans ?_
  refine (mjTo.pure 4 (s2 := (12, [(2, .null), (0, .ref 1), (1, .int t)], [.int ((Int8.ofInt (-101)).toInt32)], mjHP)) fun _ => rfl).trans ?_
  exact mjTo.refl
theorem m_ring (t : Int32) : mjDoes 3 206 [.ref 465, .int t] mjHP (some (.int ((Int8.ofInt (-101)).toInt32))) mjHP := by
  refine mjDoes.of2 (tab := mjTb mjT_206) (q := ((⟨"TableBenchModel", "ring", "(I)I"⟩, prog_13_method_64_code, 3, some (Jvm.ClassFile.FieldType.int)), 0, 1355, 1353, 1443, 13)) (st := (10, [(0, .ref 465), (1, .int t)], [.int ((Int8.ofInt (-101)).toInt32)], mjHP)) (e := (.ireturn, 1, mj0)) rfl rfl (Nat.le_of_ble_eq_true rfl) ?_ rfl rfl rfl
  refine (mjTo.pure 2 (s2 := (2, [(0, .ref 465), (1, .int t)], [.int t, .ref 465], mjHP)) fun _ => rfl).trans ?_
  refine (mjTo.virt (as := [.int t]) (r := []) (v := some (.int (Int32.ofInt 0))) (h' := mjHP) rfl rfl mjHP_m (Nat.le_of_ble_eq_true rfl) ((m_isTable t mjHP_m rfl).up (by decide))).trans ?_
  refine (mjTo.ifF (c := .ne) (x := (Int32.ofInt 0)) (n := 11) rfl (by decide) rfl).trans ?_
  refine (mjTo.pure 1 (s2 := (10, [(0, .ref 465), (1, .int t)], [.int ((Int8.ofInt (-101)).toInt32)], mjHP)) fun _ => rfl).trans ?_
  exact mjTo.refl
theorem x_often (t a1 : Int32) : mjDoes 2 113 [.ref 1, .int t, .int a1] mjHP (some (.int ((Int8.ofInt (-101)).toInt32))) mjHP := by
  refine mjDoes.of2 (tab := mjTb mjT_113) (q := ((⟨"TableBench", "often", "(II)I"⟩, prog_1_method_23_code, 4, some (Jvm.ClassFile.FieldType.int)), 0, 779, 777, 867, 1)) (st := (12, [(3, .null), (0, .ref 1), (1, .int t), (2, .int a1)], [.int ((Int8.ofInt (-101)).toInt32)], mjHP)) (e := (.ireturn, 1, mj0)) rfl rfl (Nat.le_of_ble_eq_true rfl) ?_ rfl rfl rfl
  refine (mjTo.pure 2 (s2 := (2, [(0, .ref 1), (1, .int t), (2, .int a1)], [.int t, .ref 1], mjHP)) fun _ => rfl).trans ?_
  refine (mjTo.virt (as := [.int t]) (r := []) (v := some (.null)) (h' := mjHP) rfl rfl mjHP_0 (Nat.le_of_ble_eq_true rfl) ((x_tableAt t mjHP_0 rfl).up (by decide))).trans ?_
  refine (mjTo.pure 4 (s2 := (12, [(3, .null), (0, .ref 1), (1, .int t), (2, .int a1)], [.int ((Int8.ofInt (-101)).toInt32)], mjHP)) fun _ => rfl).trans ?_
  exact mjTo.refl
theorem m_often (t a1 : Int32) : mjDoes 3 216 [.ref 465, .int t, .int a1] mjHP (some (.int ((Int8.ofInt (-101)).toInt32))) mjHP := by
  refine mjDoes.of2 (tab := mjTb mjT_216) (q := ((⟨"TableBenchModel", "often", "(II)I"⟩, prog_13_method_65_code, 3, some (Jvm.ClassFile.FieldType.int)), 0, 1392, 1390, 1480, 13)) (st := (10, [(0, .ref 465), (1, .int t), (2, .int a1)], [.int ((Int8.ofInt (-101)).toInt32)], mjHP)) (e := (.ireturn, 1, mj0)) rfl rfl (Nat.le_of_ble_eq_true rfl) ?_ rfl rfl rfl
  refine (mjTo.pure 2 (s2 := (2, [(0, .ref 465), (1, .int t), (2, .int a1)], [.int t, .ref 465], mjHP)) fun _ => rfl).trans ?_
  refine (mjTo.virt (as := [.int t]) (r := []) (v := some (.int (Int32.ofInt 0))) (h' := mjHP) rfl rfl mjHP_m (Nat.le_of_ble_eq_true rfl) ((m_isTable t mjHP_m rfl).up (by decide))).trans ?_
  refine (mjTo.ifF (c := .ne) (x := (Int32.ofInt 0)) (n := 11) rfl (by decide) rfl).trans ?_
  refine (mjTo.pure 1 (s2 := (10, [(0, .ref 465), (1, .int t), (2, .int a1)], [.int ((Int8.ofInt (-101)).toInt32)], mjHP)) fun _ => rfl).trans ?_
  exact mjTo.refl
theorem x_count (t a1 a2 a3 : Int32) : mjDoes 2 115 [.ref 1, .int t, .int a1, .int a2, .int a3] mjHP (some (.int ((Int8.ofInt (-101)).toInt32))) mjHP := by
  refine mjDoes.of2 (tab := mjTb mjT_115) (q := ((⟨"TableBench", "count", "(IIII)I"⟩, prog_1_method_24_code, 7, some (Jvm.ClassFile.FieldType.int)), 0, 787, 785, 875, 1)) (st := (14, [(5, .null), (0, .ref 1), (1, .int t), (2, .int a1), (3, .int a2), (4, .int a3)], [.int ((Int8.ofInt (-101)).toInt32)], mjHP)) (e := (.ireturn, 1, mj0)) rfl rfl (Nat.le_of_ble_eq_true rfl) ?_ rfl rfl rfl
  refine (mjTo.pure 2 (s2 := (2, [(0, .ref 1), (1, .int t), (2, .int a1), (3, .int a2), (4, .int a3)], [.int t, .ref 1], mjHP)) fun _ => rfl).trans ?_
  refine (mjTo.virt (as := [.int t]) (r := []) (v := some (.null)) (h' := mjHP) rfl rfl mjHP_0 (Nat.le_of_ble_eq_true rfl) ((x_tableAt t mjHP_0 rfl).up (by decide))).trans ?_
  refine (mjTo.pure 4 (s2 := (14, [(5, .null), (0, .ref 1), (1, .int t), (2, .int a1), (3, .int a2), (4, .int a3)], [.int ((Int8.ofInt (-101)).toInt32)], mjHP)) fun _ => rfl).trans ?_
  exact mjTo.refl
theorem m_count (t a1 a2 a3 : Int32) : mjDoes 3 217 [.ref 465, .int t, .int a1, .int a2, .int a3] mjHP (some (.int ((Int8.ofInt (-101)).toInt32))) mjHP := by
  refine mjDoes.of2 (tab := mjTb mjT_217) (q := ((⟨"TableBenchModel", "count", "(IIII)I"⟩, prog_13_method_67_code, 5, some (Jvm.ClassFile.FieldType.int)), 0, 1396, 1394, 1484, 13)) (st := (10, [(0, .ref 465), (1, .int t), (2, .int a1), (3, .int a2), (4, .int a3)], [.int ((Int8.ofInt (-101)).toInt32)], mjHP)) (e := (.ireturn, 1, mj0)) rfl rfl (Nat.le_of_ble_eq_true rfl) ?_ rfl rfl rfl
  refine (mjTo.pure 2 (s2 := (2, [(0, .ref 465), (1, .int t), (2, .int a1), (3, .int a2), (4, .int a3)], [.int t, .ref 465], mjHP)) fun _ => rfl).trans ?_
  refine (mjTo.virt (as := [.int t]) (r := []) (v := some (.int (Int32.ofInt 0))) (h' := mjHP) rfl rfl mjHP_m (Nat.le_of_ble_eq_true rfl) ((m_isTable t mjHP_m rfl).up (by decide))).trans ?_
  refine (mjTo.ifF (c := .ne) (x := (Int32.ofInt 0)) (n := 11) rfl (by decide) rfl).trans ?_
  refine (mjTo.pure 1 (s2 := (10, [(0, .ref 465), (1, .int t), (2, .int a1), (3, .int a2), (4, .int a3)], [.int ((Int8.ofInt (-101)).toInt32)], mjHP)) fun _ => rfl).trans ?_
  exact mjTo.refl
theorem x_shut (t a1 a2 : Int32) : mjDoes 2 118 [.ref 1, .int t, .int a1, .int a2] mjHP (some (.int ((Int8.ofInt (-101)).toInt32))) mjHP := by
  refine mjDoes.of2 (tab := mjTb mjT_118) (q := ((⟨"TableBench", "shut", "(III)I"⟩, prog_1_method_25_code, 7, some (Jvm.ClassFile.FieldType.int)), 0, 806, 804, 894, 1)) (st := (14, [(4, .null), (0, .ref 1), (1, .int t), (2, .int a1), (3, .int a2)], [.int ((Int8.ofInt (-101)).toInt32)], mjHP)) (e := (.ireturn, 1, mj0)) rfl rfl (Nat.le_of_ble_eq_true rfl) ?_ rfl rfl rfl
  refine (mjTo.pure 2 (s2 := (2, [(0, .ref 1), (1, .int t), (2, .int a1), (3, .int a2)], [.int t, .ref 1], mjHP)) fun _ => rfl).trans ?_
  refine (mjTo.virt (as := [.int t]) (r := []) (v := some (.null)) (h' := mjHP) rfl rfl mjHP_0 (Nat.le_of_ble_eq_true rfl) ((x_tableAt t mjHP_0 rfl).up (by decide))).trans ?_
  refine (mjTo.pure 4 (s2 := (14, [(4, .null), (0, .ref 1), (1, .int t), (2, .int a1), (3, .int a2)], [.int ((Int8.ofInt (-101)).toInt32)], mjHP)) fun _ => rfl).trans ?_
  exact mjTo.refl
theorem m_shut (t a1 a2 : Int32) : mjDoes 3 226 [.ref 465, .int t, .int a1, .int a2] mjHP (some (.int ((Int8.ofInt (-101)).toInt32))) mjHP := by
  refine mjDoes.of2 (tab := mjTb mjT_226) (q := ((⟨"TableBenchModel", "shut", "(III)I"⟩, prog_13_method_68_code, 7, some (Jvm.ClassFile.FieldType.int)), 0, 1434, 1432, 1522, 13)) (st := (10, [(0, .ref 465), (1, .int t), (2, .int a1), (3, .int a2)], [.int ((Int8.ofInt (-101)).toInt32)], mjHP)) (e := (.ireturn, 1, mj0)) rfl rfl (Nat.le_of_ble_eq_true rfl) ?_ rfl rfl rfl
  refine (mjTo.pure 2 (s2 := (2, [(0, .ref 465), (1, .int t), (2, .int a1), (3, .int a2)], [.int t, .ref 465], mjHP)) fun _ => rfl).trans ?_
  refine (mjTo.virt (as := [.int t]) (r := []) (v := some (.int (Int32.ofInt 0))) (h' := mjHP) rfl rfl mjHP_m (Nat.le_of_ble_eq_true rfl) ((m_isTable t mjHP_m rfl).up (by decide))).trans ?_
  refine (mjTo.ifF (c := .ne) (x := (Int32.ofInt 0)) (n := 11) rfl (by decide) rfl).trans ?_
  refine (mjTo.pure 1 (s2 := (10, [(0, .ref 465), (1, .int t), (2, .int a1), (3, .int a2)], [.int ((Int8.ofInt (-101)).toInt32)], mjHP)) fun _ => rfl).trans ?_
  exact mjTo.refl
theorem x_same (t a1 : Int32) : mjDoes 2 122 [.ref 1, .int t, .int a1] mjHP (some (.int ((Int8.ofInt (-101)).toInt32))) mjHP := by
  refine mjDoes.of2 (tab := mjTb mjT_122) (q := ((⟨"TableBench", "same", "(II)I"⟩, prog_1_method_27_code, 5, some (Jvm.ClassFile.FieldType.int)), 0, 823, 821, 911, 1)) (st := (24, [(4, .null), (3, .null), (0, .ref 1), (1, .int t), (2, .int a1)], [.int ((Int8.ofInt (-101)).toInt32)], mjHP)) (e := (.ireturn, 1, mj0)) rfl rfl (Nat.le_of_ble_eq_true rfl) ?_ rfl rfl rfl
  refine (mjTo.pure 2 (s2 := (2, [(0, .ref 1), (1, .int t), (2, .int a1)], [.int t, .ref 1], mjHP)) fun _ => rfl).trans ?_
  refine (mjTo.virt (as := [.int t]) (r := []) (v := some (.null)) (h' := mjHP) rfl rfl mjHP_0 (Nat.le_of_ble_eq_true rfl) ((x_tableAt t mjHP_0 rfl).up (by decide))).trans ?_
  refine (mjTo.pure 3 (s2 := (8, [(3, .null), (0, .ref 1), (1, .int t), (2, .int a1)], [.int a1, .ref 1], mjHP)) fun _ => rfl).trans ?_
  refine (mjTo.virt (as := [.int a1]) (r := []) (v := some (.null)) (h' := mjHP) rfl rfl mjHP_0 (Nat.le_of_ble_eq_true rfl) ((x_tableAt a1 mjHP_0 rfl).up (by decide))).trans ?_
  refine (mjTo.pure 4 (s2 := (24, [(4, .null), (3, .null), (0, .ref 1), (1, .int t), (2, .int a1)], [.int ((Int8.ofInt (-101)).toInt32)], mjHP)) fun _ => rfl).trans ?_
  exact mjTo.refl
theorem m_same (t a1 : Int32) : mjDoes 3 228 [.ref 465, .int t, .int a1] mjHP (some (.int ((Int8.ofInt (-101)).toInt32))) mjHP := by
  refine mjDoes.of2 (tab := mjTb mjT_228) (q := ((⟨"TableBenchModel", "same", "(II)I"⟩, prog_13_method_70_code, 5, some (Jvm.ClassFile.FieldType.int)), 0, 1442, 1440, 1530, 13)) (st := (18, [(0, .ref 465), (1, .int t), (2, .int a1)], [.int ((Int8.ofInt (-101)).toInt32)], mjHP)) (e := (.ireturn, 1, mj0)) rfl rfl (Nat.le_of_ble_eq_true rfl) ?_ rfl rfl rfl
  refine (mjTo.pure 2 (s2 := (2, [(0, .ref 465), (1, .int t), (2, .int a1)], [.int t, .ref 465], mjHP)) fun _ => rfl).trans ?_
  refine (mjTo.virt (as := [.int t]) (r := []) (v := some (.int (Int32.ofInt 0))) (h' := mjHP) rfl rfl mjHP_m (Nat.le_of_ble_eq_true rfl) ((m_isTable t mjHP_m rfl).up (by decide))).trans ?_
  refine (mjTo.ifT (c := .eq) (x := (Int32.ofInt 0)) (n := 16) rfl (by decide) rfl).trans ?_
  refine (mjTo.pure 1 (s2 := (18, [(0, .ref 465), (1, .int t), (2, .int a1)], [.int ((Int8.ofInt (-101)).toInt32)], mjHP)) fun _ => rfl).trans ?_
  exact mjTo.refl
theorem x_bend (t : Int32) : mjDoes 2 126 [.ref 1, .int t] mjHP (some (.int ((Int8.ofInt (-101)).toInt32))) mjHP := by
  refine mjDoes.of2 (tab := mjTb mjT_126) (q := ((⟨"TableBench", "bend", "(I)I"⟩, prog_1_method_28_code, 5, some (Jvm.ClassFile.FieldType.int)), 0, 839, 837, 927, 1)) (st := (12, [(2, .null), (0, .ref 1), (1, .int t)], [.int ((Int8.ofInt (-101)).toInt32)], mjHP)) (e := (.ireturn, 1, mj0)) rfl rfl (Nat.le_of_ble_eq_true rfl) ?_ rfl rfl rfl
  refine (mjTo.pure 2 (s2 := (2, [(0, .ref 1), (1, .int t)], [.int t, .ref 1], mjHP)) fun _ => rfl).trans ?_
  refine (mjTo.virt (as := [.int t]) (r := []) (v := some (.null)) (h' := mjHP) rfl rfl mjHP_0 (Nat.le_of_ble_eq_true rfl) ((x_tableAt t mjHP_0 rfl).up (by decide))).trans ?_
  refine (mjTo.pure 4 (s2 := (12, [(2, .null), (0, .ref 1), (1, .int t)], [.int ((Int8.ofInt (-101)).toInt32)], mjHP)) fun _ => rfl).trans ?_
  exact mjTo.refl
theorem m_bend (t : Int32) : mjDoes 3 229 [.ref 465, .int t] mjHP (some (.int ((Int8.ofInt (-101)).toInt32))) mjHP := by
  refine mjDoes.of2 (tab := mjTb mjT_229) (q := ((⟨"TableBenchModel", "bend", "(I)I"⟩, prog_13_method_77_code, 5, some (Jvm.ClassFile.FieldType.int)), 0, 1446, 1444, 1534, 13)) (st := (10, [(0, .ref 465), (1, .int t)], [.int ((Int8.ofInt (-101)).toInt32)], mjHP)) (e := (.ireturn, 1, mj0)) rfl rfl (Nat.le_of_ble_eq_true rfl) ?_ rfl rfl rfl
  refine (mjTo.pure 2 (s2 := (2, [(0, .ref 465), (1, .int t)], [.int t, .ref 465], mjHP)) fun _ => rfl).trans ?_
  refine (mjTo.virt (as := [.int t]) (r := []) (v := some (.int (Int32.ofInt 0))) (h' := mjHP) rfl rfl mjHP_m (Nat.le_of_ble_eq_true rfl) ((m_isTable t mjHP_m rfl).up (by decide))).trans ?_
  refine (mjTo.ifF (c := .ne) (x := (Int32.ofInt 0)) (n := 11) rfl (by decide) rfl).trans ?_
  refine (mjTo.pure 1 (s2 := (10, [(0, .ref 465), (1, .int t)], [.int ((Int8.ofInt (-101)).toInt32)], mjHP)) fun _ => rfl).trans ?_
  exact mjTo.refl
theorem x_signs (t : Int32) : mjDoes 2 139 [.ref 1, .int t] mjHP (some (.int ((Int8.ofInt (-101)).toInt32))) mjHP := by
  refine mjDoes.of2 (tab := mjTb mjT_139) (q := ((⟨"TableBench", "signs", "(I)I"⟩, prog_1_method_29_code, 6, some (Jvm.ClassFile.FieldType.int)), 0, 903, 901, 991, 1)) (st := (12, [(2, .null), (0, .ref 1), (1, .int t)], [.int ((Int8.ofInt (-101)).toInt32)], mjHP)) (e := (.ireturn, 1, mj0)) rfl rfl (Nat.le_of_ble_eq_true rfl) ?_ rfl rfl rfl
  refine (mjTo.pure 2 (s2 := (2, [(0, .ref 1), (1, .int t)], [.int t, .ref 1], mjHP)) fun _ => rfl).trans ?_
  refine (mjTo.virt (as := [.int t]) (r := []) (v := some (.null)) (h' := mjHP) rfl rfl mjHP_0 (Nat.le_of_ble_eq_true rfl) ((x_tableAt t mjHP_0 rfl).up (by decide))).trans ?_
  refine (mjTo.pure 4 (s2 := (12, [(2, .null), (0, .ref 1), (1, .int t)], [.int ((Int8.ofInt (-101)).toInt32)], mjHP)) fun _ => rfl).trans ?_
  exact mjTo.refl
theorem m_signs (t : Int32) : mjDoes 3 242 [.ref 465, .int t] mjHP (some (.int ((Int8.ofInt (-101)).toInt32))) mjHP := by
  refine mjDoes.of2 (tab := mjTb mjT_242) (q := ((⟨"TableBenchModel", "signs", "(I)I"⟩, prog_13_method_78_code, 5, some (Jvm.ClassFile.FieldType.int)), 0, 1498, 1496, 1586, 13)) (st := (10, [(0, .ref 465), (1, .int t)], [.int ((Int8.ofInt (-101)).toInt32)], mjHP)) (e := (.ireturn, 1, mj0)) rfl rfl (Nat.le_of_ble_eq_true rfl) ?_ rfl rfl rfl
  refine (mjTo.pure 2 (s2 := (2, [(0, .ref 465), (1, .int t)], [.int t, .ref 465], mjHP)) fun _ => rfl).trans ?_
  refine (mjTo.virt (as := [.int t]) (r := []) (v := some (.int (Int32.ofInt 0))) (h' := mjHP) rfl rfl mjHP_m (Nat.le_of_ble_eq_true rfl) ((m_isTable t mjHP_m rfl).up (by decide))).trans ?_
  refine (mjTo.ifF (c := .ne) (x := (Int32.ofInt 0)) (n := 11) rfl (by decide) rfl).trans ?_
  refine (mjTo.pure 1 (s2 := (10, [(0, .ref 465), (1, .int t)], [.int ((Int8.ofInt (-101)).toInt32)], mjHP)) fun _ => rfl).trans ?_
  exact mjTo.refl
theorem x_show (t : Int32) : mjDoes 2 140 [.ref 1, .int t] mjHP (some (.int ((Int8.ofInt (-101)).toInt32))) mjHP := by
  refine mjDoes.of2 (tab := mjTb mjT_140) (q := ((⟨"TableBench", "show", "(I)I"⟩, prog_1_method_30_code, 4, some (Jvm.ClassFile.FieldType.int)), 0, 907, 905, 995, 1)) (st := (12, [(2, .null), (0, .ref 1), (1, .int t)], [.int ((Int8.ofInt (-101)).toInt32)], mjHP)) (e := (.ireturn, 1, mj0)) rfl rfl (Nat.le_of_ble_eq_true rfl) ?_ rfl rfl rfl
  refine (mjTo.pure 2 (s2 := (2, [(0, .ref 1), (1, .int t)], [.int t, .ref 1], mjHP)) fun _ => rfl).trans ?_
  refine (mjTo.virt (as := [.int t]) (r := []) (v := some (.null)) (h' := mjHP) rfl rfl mjHP_0 (Nat.le_of_ble_eq_true rfl) ((x_tableAt t mjHP_0 rfl).up (by decide))).trans ?_
  refine (mjTo.pure 4 (s2 := (12, [(2, .null), (0, .ref 1), (1, .int t)], [.int ((Int8.ofInt (-101)).toInt32)], mjHP)) fun _ => rfl).trans ?_
  exact mjTo.refl
theorem m_show (t : Int32) : mjDoes 3 243 [.ref 465, .int t] mjHP (some (.int ((Int8.ofInt (-101)).toInt32))) mjHP := by
  refine mjDoes.of2 (tab := mjTb mjT_243) (q := ((⟨"TableBenchModel", "show", "(I)I"⟩, prog_13_method_79_code, 4, some (Jvm.ClassFile.FieldType.int)), 0, 1502, 1500, 1590, 13)) (st := (10, [(0, .ref 465), (1, .int t)], [.int ((Int8.ofInt (-101)).toInt32)], mjHP)) (e := (.ireturn, 1, mj0)) rfl rfl (Nat.le_of_ble_eq_true rfl) ?_ rfl rfl rfl
  refine (mjTo.pure 2 (s2 := (2, [(0, .ref 465), (1, .int t)], [.int t, .ref 465], mjHP)) fun _ => rfl).trans ?_
  refine (mjTo.virt (as := [.int t]) (r := []) (v := some (.int (Int32.ofInt 0))) (h' := mjHP) rfl rfl mjHP_m (Nat.le_of_ble_eq_true rfl) ((m_isTable t mjHP_m rfl).up (by decide))).trans ?_
  refine (mjTo.ifF (c := .ne) (x := (Int32.ofInt 0)) (n := 11) rfl (by decide) rfl).trans ?_
  refine (mjTo.pure 1 (s2 := (10, [(0, .ref 465), (1, .int t)], [.int ((Int8.ofInt (-101)).toInt32)], mjHP)) fun _ => rfl).trans ?_
  exact mjTo.refl
theorem x_walks (t a1 : Int32) : mjDoes 2 144 [.ref 1, .int t, .int a1] mjHP (some (.int ((Int8.ofInt (-101)).toInt32))) mjHP := by
  refine mjDoes.of2 (tab := mjTb mjT_144) (q := ((⟨"TableBench", "walks", "(II)I"⟩, prog_1_method_32_code, 4, some (Jvm.ClassFile.FieldType.int)), 0, 925, 923, 1013, 1)) (st := (12, [(3, .null), (0, .ref 1), (1, .int t), (2, .int a1)], [.int ((Int8.ofInt (-101)).toInt32)], mjHP)) (e := (.ireturn, 1, mj0)) rfl rfl (Nat.le_of_ble_eq_true rfl) ?_ rfl rfl rfl
  refine (mjTo.pure 2 (s2 := (2, [(0, .ref 1), (1, .int t), (2, .int a1)], [.int t, .ref 1], mjHP)) fun _ => rfl).trans ?_
  refine (mjTo.virt (as := [.int t]) (r := []) (v := some (.null)) (h' := mjHP) rfl rfl mjHP_0 (Nat.le_of_ble_eq_true rfl) ((x_tableAt t mjHP_0 rfl).up (by decide))).trans ?_
  refine (mjTo.pure 4 (s2 := (12, [(3, .null), (0, .ref 1), (1, .int t), (2, .int a1)], [.int ((Int8.ofInt (-101)).toInt32)], mjHP)) fun _ => rfl).trans ?_
  exact mjTo.refl
theorem m_walks (t a1 : Int32) : mjDoes 3 245 [.ref 465, .int t, .int a1] mjHP (some (.int ((Int8.ofInt (-101)).toInt32))) mjHP := by
  refine mjDoes.of2 (tab := mjTb mjT_245) (q := ((⟨"TableBenchModel", "walks", "(II)I"⟩, prog_13_method_81_code, 10, some (Jvm.ClassFile.FieldType.int)), 0, 1510, 1508, 1598, 13)) (st := (10, [(0, .ref 465), (1, .int t), (2, .int a1)], [.int ((Int8.ofInt (-101)).toInt32)], mjHP)) (e := (.ireturn, 1, mj0)) rfl rfl (Nat.le_of_ble_eq_true rfl) ?_ rfl rfl rfl
  refine (mjTo.pure 2 (s2 := (2, [(0, .ref 465), (1, .int t), (2, .int a1)], [.int t, .ref 465], mjHP)) fun _ => rfl).trans ?_
  refine (mjTo.virt (as := [.int t]) (r := []) (v := some (.int (Int32.ofInt 0))) (h' := mjHP) rfl rfl mjHP_m (Nat.le_of_ble_eq_true rfl) ((m_isTable t mjHP_m rfl).up (by decide))).trans ?_
  refine (mjTo.ifF (c := .ne) (x := (Int32.ofInt 0)) (n := 11) rfl (by decide) rfl).trans ?_
  refine (mjTo.pure 1 (s2 := (10, [(0, .ref 465), (1, .int t), (2, .int a1)], [.int ((Int8.ofInt (-101)).toInt32)], mjHP)) fun _ => rfl).trans ?_
  exact mjTo.refl
theorem x_pieces (t : Int32) : mjDoes 2 146 [.ref 1, .int t] mjHP (some (.int ((Int8.ofInt (-101)).toInt32))) mjHP := by
  refine mjDoes.of2 (tab := mjTb mjT_146) (q := ((⟨"TableBench", "pieces", "(I)I"⟩, prog_1_method_33_code, 3, some (Jvm.ClassFile.FieldType.int)), 0, 936, 934, 1024, 1)) (st := (12, [(2, .null), (0, .ref 1), (1, .int t)], [.int ((Int8.ofInt (-101)).toInt32)], mjHP)) (e := (.ireturn, 1, mj0)) rfl rfl (Nat.le_of_ble_eq_true rfl) ?_ rfl rfl rfl
  refine (mjTo.pure 2 (s2 := (2, [(0, .ref 1), (1, .int t)], [.int t, .ref 1], mjHP)) fun _ => rfl).trans ?_
  refine (mjTo.virt (as := [.int t]) (r := []) (v := some (.null)) (h' := mjHP) rfl rfl mjHP_0 (Nat.le_of_ble_eq_true rfl) ((x_tableAt t mjHP_0 rfl).up (by decide))).trans ?_
  refine (mjTo.pure 4 (s2 := (12, [(2, .null), (0, .ref 1), (1, .int t)], [.int ((Int8.ofInt (-101)).toInt32)], mjHP)) fun _ => rfl).trans ?_
  exact mjTo.refl
theorem m_pieces (t : Int32) : mjDoes 3 246 [.ref 465, .int t] mjHP (some (.int ((Int8.ofInt (-101)).toInt32))) mjHP := by
  refine mjDoes.of2 (tab := mjTb mjT_246) (q := ((⟨"TableBenchModel", "pieces", "(I)I"⟩, prog_13_method_83_code, 2, some (Jvm.ClassFile.FieldType.int)), 0, 1514, 1512, 1602, 13)) (st := (10, [(0, .ref 465), (1, .int t)], [.int ((Int8.ofInt (-101)).toInt32)], mjHP)) (e := (.ireturn, 1, mj0)) rfl rfl (Nat.le_of_ble_eq_true rfl) ?_ rfl rfl rfl
  refine (mjTo.pure 2 (s2 := (2, [(0, .ref 465), (1, .int t)], [.int t, .ref 465], mjHP)) fun _ => rfl).trans ?_
  refine (mjTo.virt (as := [.int t]) (r := []) (v := some (.int (Int32.ofInt 0))) (h' := mjHP) rfl rfl mjHP_m (Nat.le_of_ble_eq_true rfl) ((m_isTable t mjHP_m rfl).up (by decide))).trans ?_
  refine (mjTo.ifF (c := .ne) (x := (Int32.ofInt 0)) (n := 11) rfl (by decide) rfl).trans ?_
  refine (mjTo.pure 1 (s2 := (10, [(0, .ref 465), (1, .int t)], [.int ((Int8.ofInt (-101)).toInt32)], mjHP)) fun _ => rfl).trans ?_
  exact mjTo.refl
theorem x_two (t : Int32) : mjDoes 2 149 [.ref 1, .int t] mjHP (some (.int ((Int8.ofInt (-101)).toInt32))) mjHP := by
  refine mjDoes.of2 (tab := mjTb mjT_149) (q := ((⟨"TableBench", "two", "(I)I"⟩, prog_1_method_34_code, 3, some (Jvm.ClassFile.FieldType.int)), 0, 949, 947, 1037, 1)) (st := (12, [(2, .null), (0, .ref 1), (1, .int t)], [.int ((Int8.ofInt (-101)).toInt32)], mjHP)) (e := (.ireturn, 1, mj0)) rfl rfl (Nat.le_of_ble_eq_true rfl) ?_ rfl rfl rfl
  refine (mjTo.pure 2 (s2 := (2, [(0, .ref 1), (1, .int t)], [.int t, .ref 1], mjHP)) fun _ => rfl).trans ?_
  refine (mjTo.virt (as := [.int t]) (r := []) (v := some (.null)) (h' := mjHP) rfl rfl mjHP_0 (Nat.le_of_ble_eq_true rfl) ((x_tableAt t mjHP_0 rfl).up (by decide))).trans ?_
  refine (mjTo.pure 4 (s2 := (12, [(2, .null), (0, .ref 1), (1, .int t)], [.int ((Int8.ofInt (-101)).toInt32)], mjHP)) fun _ => rfl).trans ?_
  exact mjTo.refl
theorem m_two (t : Int32) : mjDoes 3 248 [.ref 465, .int t] mjHP (some (.int ((Int8.ofInt (-101)).toInt32))) mjHP := by
  refine mjDoes.of2 (tab := mjTb mjT_248) (q := ((⟨"TableBenchModel", "two", "(I)I"⟩, prog_13_method_84_code, 3, some (Jvm.ClassFile.FieldType.int)), 0, 1522, 1520, 1610, 13)) (st := (10, [(0, .ref 465), (1, .int t)], [.int ((Int8.ofInt (-101)).toInt32)], mjHP)) (e := (.ireturn, 1, mj0)) rfl rfl (Nat.le_of_ble_eq_true rfl) ?_ rfl rfl rfl
  refine (mjTo.pure 2 (s2 := (2, [(0, .ref 465), (1, .int t)], [.int t, .ref 465], mjHP)) fun _ => rfl).trans ?_
  refine (mjTo.virt (as := [.int t]) (r := []) (v := some (.int (Int32.ofInt 0))) (h' := mjHP) rfl rfl mjHP_m (Nat.le_of_ble_eq_true rfl) ((m_isTable t mjHP_m rfl).up (by decide))).trans ?_
  refine (mjTo.ifF (c := .ne) (x := (Int32.ofInt 0)) (n := 11) rfl (by decide) rfl).trans ?_
  refine (mjTo.pure 1 (s2 := (10, [(0, .ref 465), (1, .int t)], [.int ((Int8.ofInt (-101)).toInt32)], mjHP)) fun _ => rfl).trans ?_
  exact mjTo.refl
theorem x_trees (t : Int32) : mjDoes 2 151 [.ref 1, .int t] mjHP (some (.int ((Int8.ofInt (-101)).toInt32))) mjHP := by
  refine mjDoes.of2 (tab := mjTb mjT_151) (q := ((⟨"TableBench", "trees", "(I)I"⟩, prog_1_method_35_code, 5, some (Jvm.ClassFile.FieldType.int)), 0, 958, 956, 1046, 1)) (st := (12, [(2, .null), (0, .ref 1), (1, .int t)], [.int ((Int8.ofInt (-101)).toInt32)], mjHP)) (e := (.ireturn, 1, mj0)) rfl rfl (Nat.le_of_ble_eq_true rfl) ?_ rfl rfl rfl
  refine (mjTo.pure 2 (s2 := (2, [(0, .ref 1), (1, .int t)], [.int t, .ref 1], mjHP)) fun _ => rfl).trans ?_
  refine (mjTo.virt (as := [.int t]) (r := []) (v := some (.null)) (h' := mjHP) rfl rfl mjHP_0 (Nat.le_of_ble_eq_true rfl) ((x_tableAt t mjHP_0 rfl).up (by decide))).trans ?_
  refine (mjTo.pure 4 (s2 := (12, [(2, .null), (0, .ref 1), (1, .int t)], [.int ((Int8.ofInt (-101)).toInt32)], mjHP)) fun _ => rfl).trans ?_
  exact mjTo.refl
theorem m_trees (t : Int32) : mjDoes 3 249 [.ref 465, .int t] mjHP (some (.int ((Int8.ofInt (-101)).toInt32))) mjHP := by
  refine mjDoes.of2 (tab := mjTb mjT_249) (q := ((⟨"TableBenchModel", "trees", "(I)I"⟩, prog_13_method_85_code, 6, some (Jvm.ClassFile.FieldType.int)), 0, 1526, 1524, 1614, 13)) (st := (10, [(0, .ref 465), (1, .int t)], [.int ((Int8.ofInt (-101)).toInt32)], mjHP)) (e := (.ireturn, 1, mj0)) rfl rfl (Nat.le_of_ble_eq_true rfl) ?_ rfl rfl rfl
  refine (mjTo.pure 2 (s2 := (2, [(0, .ref 465), (1, .int t)], [.int t, .ref 465], mjHP)) fun _ => rfl).trans ?_
  refine (mjTo.virt (as := [.int t]) (r := []) (v := some (.int (Int32.ofInt 0))) (h' := mjHP) rfl rfl mjHP_m (Nat.le_of_ble_eq_true rfl) ((m_isTable t mjHP_m rfl).up (by decide))).trans ?_
  refine (mjTo.ifF (c := .ne) (x := (Int32.ofInt 0)) (n := 11) rfl (by decide) rfl).trans ?_
  refine (mjTo.pure 1 (s2 := (10, [(0, .ref 465), (1, .int t)], [.int ((Int8.ofInt (-101)).toInt32)], mjHP)) fun _ => rfl).trans ?_
  exact mjTo.refl
theorem x_bound_eq : mjHP.set 0 (.inl (10, mjXf.set 6 (.int (Int32.ofInt 0)))) = mjHP := rfl
