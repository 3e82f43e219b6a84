/-! The law up to its loop. -/
def mjLl (i : Int32) : mjL := [(3, .int i), (2, .ref 465), (1, .ref 1), (0, .ref 0)]
theorem mjTo.new {d nL : Nat} {scr : Option (List Int32)} {tab : mjTab} {pc idx len n : Nat} {k : mjK} {l : mjL} {s fs : List Value} {h : mjH} (h1 : tab pc = some (.new idx, len, k)) (h2 : mjFs[k.2.1]? = some fs) (hn : h.length = n) : mjTo d nL scr tab (pc, l, s, h) (pc + 3, l, .ref (n + 1) :: s, h ++ [.inl (k.2.1, fs)]) :=
  mjTo.step h1 fun call => by simp only [mjStep, mjDf, h2, Option.bind_some, hn]
theorem mjLaw_start {scr : Option (List Int32)} : mjTo 10 4 scr (mjTb mjT_law) (0, [(0, .ref 0)], [], []) (18, mjLl (Int32.ofInt 0), [], mjHP) := by
  refine (mjTo.pure 2 (s2 := (4, [(0, .ref 0)], [.ref 1, .ref 1], [mjX0])) fun _ => rfl).trans ?_
  refine (mjTo.spec (a := 1) (as := []) (r := [.ref 1]) rfl rfl rfl (by decide) mjX_init).trans ?_
  refine (mjTo.pure 1 (s2 := (8, [(1, .ref 1), (0, .ref 0)], [], mjXh)) fun _ => rfl).trans ?_
  refine (mjTo.new (n := 464) rfl rfl (by decide +kernel)).trans ?_
  refine (mjTo.pure 1 (s2 := (12, [(1, .ref 1), (0, .ref 0)], [.ref 465, .ref 465], mjXh ++ [mjM0])) fun _ => rfl).trans ?_
  refine (mjTo.spec (a := 465) (as := []) (r := [.ref 465]) rfl rfl rfl (by decide) mjM_init).trans ?_
  exact mjTo.pure 3 (s2 := (18, mjLl (Int32.ofInt 0), [], mjHP)) fun _ => rfl
theorem mjHP_room : mjHP.length = 494 ∧ mjSz mjHP ≤ 20000 := by decide +kernel
