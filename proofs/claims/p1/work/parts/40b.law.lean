/-! The law's own rows. -/
set_option maxRecDepth 20000 in
theorem mjTl_0_ok : mjChk code "TableBenchLaw" false 0 mjTl_0 = true := by decide +kernel
set_option maxRecDepth 20000 in
theorem mjTl_1_ok : mjChk code "TableBenchLaw" false 150 mjTl_1 = true := by decide +kernel
set_option maxRecDepth 20000 in
theorem mjTl_2_ok : mjChk code "TableBenchLaw" false 300 mjTl_2 = true := by decide +kernel
set_option maxRecDepth 20000 in
theorem mjTl_3_ok : mjChk code "TableBenchLaw" false 450 mjTl_3 = true := by decide +kernel
set_option maxRecDepth 20000 in
theorem mjTl_4_ok : mjChk code "TableBenchLaw" false 600 mjTl_4 = true := by decide +kernel
set_option maxRecDepth 20000 in
theorem mjTl_5_ok : mjChk code "TableBenchLaw" false 750 mjTl_5 = true := by decide +kernel
set_option maxRecDepth 20000 in
theorem mjTl_6_ok : mjChk code "TableBenchLaw" false 900 mjTl_6 = true := by decide +kernel
set_option maxRecDepth 20000 in
theorem mjTl_7_ok : mjChk code "TableBenchLaw" false 1050 mjTl_7 = true := by decide +kernel
set_option maxRecDepth 20000 in
theorem mjTl_8_ok : mjChk code "TableBenchLaw" false 1200 mjTl_8 = true := by decide +kernel
set_option maxRecDepth 20000 in
theorem mjTl_9_ok : mjChk code "TableBenchLaw" false 1350 mjTl_9 = true := by decide +kernel
def mjT_law : List (Option mjI) := mjTl_0 ++ (mjTl_1 ++ (mjTl_2 ++ (mjTl_3 ++ (mjTl_4 ++ (mjTl_5 ++ (mjTl_6 ++ (mjTl_7 ++ (mjTl_8 ++ (mjTl_9)))))))))
theorem mjChk_app {cc : ByteArray} {own : String} {ini : Bool} : ∀ {a b : List (Option mjI)} {p n : Nat}, mjChk cc own ini p a = true → a.length = n → mjChk cc own ini (p + n) b = true → mjChk cc own ini p (a ++ b) = true
  | [], b, p, n, _, hn, h2 => by
    cases hn
    exact h2
  | none :: t, b, p, n, h1, hn, h2 => by
    cases hn
    exact mjChk_app (a := t) (p := p + 1) h1 rfl (by rw [show p + 1 + t.length = p + (none :: t).length by simp [List.length_cons]; omega]; exact h2)
  | some e :: t, b, p, n, h1, hn, h2 => by
    cases hn
    simp only [mjChk, Bool.and_eq_true] at h1
    show (decide (decode cc p = .ok (e.1, mjIl e.1 e.2.1)) && mjLinkB own ini e.1 e.2.2 && mjChk cc own ini (p + 1) (t ++ b)) = true
    rw [h1.1.1, h1.1.2, mjChk_app (a := t) (p := p + 1) h1.2 rfl (by rw [show p + 1 + t.length = p + (some e :: t).length by simp [List.length_cons]; omega]; exact h2)]
    rfl
theorem mjT_law_ok : mjChk code "TableBenchLaw" false 0 mjT_law = true := (mjChk_app mjTl_0_ok (n := 150) (by decide +kernel) (mjChk_app mjTl_1_ok (n := 150) (by decide +kernel) (mjChk_app mjTl_2_ok (n := 150) (by decide +kernel) (mjChk_app mjTl_3_ok (n := 150) (by decide +kernel) (mjChk_app mjTl_4_ok (n := 150) (by decide +kernel) (mjChk_app mjTl_5_ok (n := 150) (by decide +kernel) (mjChk_app mjTl_6_ok (n := 150) (by decide +kernel) (mjChk_app mjTl_7_ok (n := 150) (by decide +kernel) (mjChk_app mjTl_8_ok (n := 150) (by decide +kernel) mjTl_9_ok)))))))))
