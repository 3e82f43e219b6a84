/-! How often signs change, where all roots are there. -/
noncomputable def ksg {K : Type} [Lean.Grind.Field K] [LT K] (x : K) : Int := by
  classical
  exact if x < 0 then -1 else if x = 0 then 0 else 1
theorem ksg_c {K : Type} [Lean.Grind.Field K] [LE K] [LT K] [Std.LawfulOrderLT K] [Std.IsLinearOrder K] [Lean.Grind.OrderedRing K] (x : K) : (x < 0 ∧ ksg x = -1) ∨ (x = 0 ∧ ksg x = 0) ∨ (0 < x ∧ ksg x = 1) := by
  rcases Classical.em (x < 0) with g | g
  · exact Or.inl ⟨g, if_pos g⟩
  · rcases Classical.em (x = 0) with g2 | g2
    · exact Or.inr (Or.inl ⟨g2, (if_neg g).trans (if_pos g2)⟩)
    · exact Or.inr (Or.inr ⟨by grind, (if_neg g).trans (if_neg g2)⟩)
theorem ksg_neg {K : Type} [Lean.Grind.Field K] [LE K] [LT K] [Std.LawfulOrderLT K] [Std.IsLinearOrder K] [Lean.Grind.OrderedRing K] (x : K) : ksg (-x) = -(ksg x) := by
  rcases ksg_c x with ⟨h1, h2⟩ | ⟨h1, h2⟩ | ⟨h1, h2⟩ <;> rcases ksg_c (-x) with ⟨h3, h4⟩ | ⟨h3, h4⟩ | ⟨h3, h4⟩ <;> first | omega | (exfalso; grind)
theorem ksg_0 {K : Type} [Lean.Grind.Field K] [LE K] [LT K] [Std.LawfulOrderLT K] [Std.IsLinearOrder K] [Lean.Grind.OrderedRing K] {x : K} (h : ksg x = 0) : x = 0 := by
  rcases ksg_c x with ⟨h1, h2⟩ | ⟨h1, h2⟩ | ⟨h1, h2⟩
  · omega
  · exact h1
  · omega
/-- the last sign, and how often it has changed -/
def vs (s : Nat → Int) : Nat → Int × Int
  | 0 => (0, 0)
  | n + 1 => if s n = 0 then vs s n else (s n, (vs s n).2 + if s n = -(vs s n).1 then 1 else 0)
theorem vs_eq {s t : Nat → Int} : ∀ n, (∀ i, i < n → s i = t i) → vs s n = vs t n
  | 0, _ => rfl
  | n + 1, h => by
    have ih := vs_eq n fun i hi => h i (by omega)
    show (if s n = 0 then vs s n else (s n, (vs s n).2 + if s n = -(vs s n).1 then 1 else 0)) = (if t n = 0 then vs t n else (t n, (vs t n).2 + if t n = -(vs t n).1 then 1 else 0))
    rw [ih, h n (by omega)]
theorem vs_pass {s : Nat → Int} {n : Nat} (h : s n = 0) : vs s (n + 1) = vs s n := if_pos h
theorem vs_take {s : Nat → Int} {n : Nat} (h : s n ≠ 0) : vs s (n + 1) = (s n, (vs s n).2 + if s n = -(vs s n).1 then 1 else 0) := if_neg h
theorem vs_neg {s : Nat → Int} : ∀ n, (vs (fun i => -(s i)) n).1 = -(vs s n).1 ∧ (vs (fun i => -(s i)) n).2 = (vs s n).2
  | 0 => ⟨rfl, rfl⟩
  | n + 1 => by
    obtain ⟨h1, h2⟩ := vs_neg (s := s) n
    by_cases g : s n = 0
    · rw [vs_pass g, vs_pass (s := fun i => -(s i)) (by omega)]
      exact ⟨h1, h2⟩
    · rw [vs_take g, vs_take (s := fun i => -(s i)) (by omega)]
      refine ⟨rfl, ?_⟩
      show (vs (fun i => -(s i)) n).2 + (if -(s n) = -(vs (fun i => -(s i)) n).1 then 1 else 0) = (vs s n).2 + if s n = -(vs s n).1 then 1 else 0
      rw [h1, h2]
      by_cases g2 : s n = -(vs s n).1
      · rw [if_pos g2, if_pos (by omega)]
      · rw [if_neg g2, if_neg (by omega)]
/-- what multiplying by x - r does, place by place -/
theorem vmul_in {K : Type} [Lean.Grind.Field K] [LE K] [LT K] [Std.LawfulOrderLT K] [Std.IsLinearOrder K] [Lean.Grind.OrderedRing K] {c : Nat → K} {r : K} (hr : 0 < r) : ∀ n, ((vs (fun i => ksg (c i)) n).1 = 0 ∧ (vs (fun i => ksg (su c i - r * c i)) n).1 = 0 ∧ (vs (fun i => ksg (c i)) n).2 = 0 ∧ (vs (fun i => ksg (su c i - r * c i)) n).2 = 0 ∧ su c n = 0) ∨ (((vs (fun i => ksg (c i)) n).1 = 1 ∨ (vs (fun i => ksg (c i)) n).1 = -1) ∧ (ksg (su c n) = 0 ∨ ksg (su c n) = (vs (fun i => ksg (c i)) n).1) ∧ (((vs (fun i => ksg (c i)) n).2 ≤ (vs (fun i => ksg (su c i - r * c i)) n).2 ∧ (vs (fun i => ksg (su c i - r * c i)) n).1 = -(vs (fun i => ksg (c i)) n).1) ∨ ((vs (fun i => ksg (c i)) n).2 + 1 ≤ (vs (fun i => ksg (su c i - r * c i)) n).2 ∧ ((vs (fun i => ksg (su c i - r * c i)) n).1 = 1 ∨ (vs (fun i => ksg (su c i - r * c i)) n).1 = -1))))
  | 0 => Or.inl ⟨rfl, rfl, rfl, rfl, rfl⟩
  | n + 1 => by
    have ih := vmul_in (c := c) hr n
    have e3 : su c (n + 1) = c n := rfl
    have cy := ksg_c (c n)
    have cx := ksg_c (su c n)
    have cz := ksg_c (su c n - r * c n)
    -- the sign of what stands there
    have l1 : ksg (c n) = 0 → ksg (su c n - r * c n) = ksg (su c n) := fun h => by
      rw [ksg_0 h]
      congr 1
      grind
    have l2 : ksg (c n) ≠ 0 → ksg (su c n) = 0 ∨ ksg (su c n) = -(ksg (c n)) → ksg (su c n - r * c n) = -(ksg (c n)) := fun h h2 => by
      rcases cy with ⟨y1, y2⟩ | ⟨y1, y2⟩ | ⟨y1, y2⟩
      · have p := k_pp hr (b := -(c n)) (by grind)
        have x0 : 0 ≤ su c n := by
          rcases cx with ⟨x1, x2⟩ | ⟨x1, x2⟩ | ⟨x1, x2⟩
          · omega
          · grind
          · grind
        rcases cz with ⟨z1, z2⟩ | ⟨z1, z2⟩ | ⟨z1, z2⟩
        · exfalso; grind
        · exfalso; grind
        · omega
      · omega
      · have p := k_pp hr (b := c n) (by grind)
        have x0 : su c n ≤ 0 := by
          rcases cx with ⟨x1, x2⟩ | ⟨x1, x2⟩ | ⟨x1, x2⟩
          · grind
          · grind
          · omega
        rcases cz with ⟨z1, z2⟩ | ⟨z1, z2⟩ | ⟨z1, z2⟩
        · omega
        · exfalso; grind
        · exfalso; grind
    have by1 : ksg (c n) = -1 ∨ ksg (c n) = 0 ∨ ksg (c n) = 1 := by omega
    have bz : ksg (su c n - r * c n) = -1 ∨ ksg (su c n - r * c n) = 0 ∨ ksg (su c n - r * c n) = 1 := by omega
    have fx : su c n = 0 → ksg (su c n) = 0 := fun h => by
      rcases cx with ⟨x1, x2⟩ | ⟨x1, x2⟩ | ⟨x1, x2⟩
      · exfalso; grind
      · exact x2
      · exfalso; grind
    have fy : ksg (c n) = 0 → c n = 0 := ksg_0
    rw [e3]
    clear cy cx cz
    generalize hsx : ksg (su c n) = sx at *
    generalize hsy : ksg (c n) = sy at *
    generalize hsz : ksg (su c n - r * c n) = sz at *
    have g1 : vs (fun i => ksg (c i)) (n + 1) = if sy = 0 then vs (fun i => ksg (c i)) n else (sy, (vs (fun i => ksg (c i)) n).2 + if sy = -(vs (fun i => ksg (c i)) n).1 then 1 else 0) := by
      rw [← hsy]
      rfl
    have g2 : vs (fun i => ksg (su c i - r * c i)) (n + 1) = if sz = 0 then vs (fun i => ksg (su c i - r * c i)) n else (sz, (vs (fun i => ksg (su c i - r * c i)) n).2 + if sz = -(vs (fun i => ksg (su c i - r * c i)) n).1 then 1 else 0) := by
      rw [← hsz]
      rfl
    rw [g1, g2]
    clear g1 g2
    generalize vs (fun i => ksg (c i)) n = A at *
    generalize vs (fun i => ksg (su c i - r * c i)) n = B at *
    obtain ⟨S, V⟩ := A
    obtain ⟨S', V'⟩ := B
    dsimp only at *
    rcases ih with ⟨i1, i2, i3, i4, i5⟩ | ⟨i1, i2, i3⟩
    · subst i1 i2 i3 i4
      have i6 := fx i5
      by_cases y0 : sy = 0
      · have z0 : sz = 0 := by rw [l1 y0, i6]
        rw [if_pos y0, if_pos z0]
        exact Or.inl ⟨rfl, rfl, rfl, rfl, fy y0⟩
      · have z0 := l2 y0 (Or.inl i6)
        rw [if_neg y0, if_neg (by omega)]
        refine Or.inr ⟨by dsimp only; omega, by dsimp only; omega, Or.inl ?_⟩
        dsimp only
        rw [if_neg (by omega), if_neg (by omega)]
        omega
    · by_cases y0 : sy = 0
      · have z0 := l1 y0
        rw [if_pos y0]
        by_cases q : sz = 0
        · rw [if_pos q]
          exact Or.inr ⟨i1, Or.inl y0, i3⟩
        · rw [if_neg q]
          refine Or.inr ⟨i1, Or.inl y0, Or.inr ?_⟩
          dsimp only
          by_cases w : sz = -S'
          · rw [if_pos w]; omega
          · rw [if_neg w]; omega
      · rw [if_neg y0]
        by_cases y1 : sy = S
        · have w0 : (if sy = -S then (1 : Int) else 0) = 0 := if_neg (by omega)
          by_cases q : sz = 0
          · rw [if_pos q]
            refine Or.inr ⟨?_, ?_, ?_⟩ <;> dsimp only <;> omega
          · rw [if_neg q]
            refine Or.inr ⟨by dsimp only; omega, by dsimp only; omega, ?_⟩
            dsimp only
            rw [w0]
            by_cases w : sz = -S'
            · rw [if_pos w]; omega
            · rw [if_neg w]; omega
        · have z0 := l2 y0 (by omega)
          have w0 : (if sy = -S then (1 : Int) else 0) = 1 := if_pos (by omega)
          have z1 : ¬ sz = 0 := by omega
          rw [if_neg z1]
          refine Or.inr ⟨by dsimp only; omega, by dsimp only; omega, ?_⟩
          dsimp only
          rw [w0]
          by_cases w : sz = -S'
          · rw [if_pos w]; omega
          · rw [if_neg w]; omega
theorem vmul {K : Type} [Lean.Grind.Field K] [LE K] [LT K] [Std.LawfulOrderLT K] [Std.IsLinearOrder K] [Lean.Grind.OrderedRing K] {c : Nat → K} {r : K} {n : Nat} (hr : 0 < r) (h1 : c n ≠ 0) (h2 : c (n + 1) = 0) : (vs (fun i => ksg (c i)) (n + 1)).2 + 1 ≤ (vs (fun i => ksg (su c i - r * c i)) (n + 2)).2 := by
  have hs : ∀ x : K, x = 0 → ksg x = 0 := fun x hx => by
    rcases ksg_c x with ⟨x1, x2⟩ | ⟨x1, x2⟩ | ⟨x1, x2⟩
    · exfalso; grind
    · exact x2
    · exfalso; grind
  have e1 : vs (fun i => ksg (c i)) (n + 2) = vs (fun i => ksg (c i)) (n + 1) := vs_pass (hs _ h2)
  have n1 : ksg (c n) ≠ 0 := fun g => h1 (ksg_0 g)
  have t1 : vs (fun i => ksg (c i)) (n + 1) = (ksg (c n), _) := vs_take n1
  have e4 : su c (n + 1) - r * c (n + 1) = c n := by
    rw [h2]
    show c n - r * 0 = c n
    grind
  have n2 : ksg (su c (n + 1) - r * c (n + 1)) ≠ 0 := by rw [e4]; exact n1
  have t2 : vs (fun i => ksg (su c i - r * c i)) (n + 2) = (ksg (su c (n + 1) - r * c (n + 1)), _) := vs_take n2
  have q1 : (vs (fun i => ksg (c i)) (n + 1)).1 = ksg (c n) := by rw [t1]
  have q2 : (vs (fun i => ksg (su c i - r * c i)) (n + 2)).1 = ksg (c n) := by rw [t2, e4]
  have h := vmul_in (c := c) hr (n + 2)
  rw [e1] at h
  omega
theorem sg1_par {t : Nat} : ∀ k, sg1 (t + k) = if k % 2 = 0 then sg1 t else -(sg1 t)
  | 0 => rfl
  | k + 1 => by
    show -(sg1 (t + k)) = _
    rw [sg1_par k]
    by_cases g : k % 2 = 0
    · rw [if_pos g, if_neg (by omega)]
    · rw [if_neg g, if_pos (by omega)]
      omega
/-- the changes of both together are no more than the places between -/
theorem vub {s : Nat → Int} {j0 : Nat} (hs : ∀ i, s i = -1 ∨ s i = 0 ∨ s i = 1) (h0 : ∀ i, i < j0 → s i = 0) : ∀ n, ((∀ i, i < n → s i = 0) ∧ vs s n = (0, 0) ∧ vs (fun i => sg1 i * s i) n = (0, 0)) ∨ ∃ t, t < n ∧ s t ≠ 0 ∧ (∀ i, t < i → i < n → s i = 0) ∧ (vs s n).1 = s t ∧ (vs (fun i => sg1 i * s i) n).1 = sg1 t * s t ∧ (vs s n).2 + (vs (fun i => sg1 i * s i) n).2 + (j0 : Int) ≤ (t : Int)
  | 0 => Or.inl ⟨fun i hi => by omega, rfl, rfl⟩
  | n + 1 => by
    have ih := vub hs h0 n
    by_cases g : s n = 0
    · have g2 : sg1 n * s n = 0 := by rw [g, Int.mul_zero]
      rw [vs_pass g, vs_pass (s := fun i => sg1 i * s i) g2]
      rcases ih with ⟨a1, a2, a3⟩ | ⟨t, b1, b2, b3, b4, b5, b6⟩
      · refine Or.inl ⟨fun i hi => ?_, a2, a3⟩
        by_cases e : i = n
        · rw [e]; exact g
        · exact a1 i (by omega)
      · refine Or.inr ⟨t, by omega, b2, fun i h1 h2 => ?_, b4, b5, b6⟩
        by_cases e : i = n
        · rw [e]; exact g
        · exact b3 i h1 (by omega)
    · have hn := hs n
      have g2 : sg1 n * s n ≠ 0 := by
        rcases sg1_or n with e | e <;> rw [e] <;> omega
      rw [vs_take g, vs_take (s := fun i => sg1 i * s i) g2]
      have hj : j0 ≤ n := by
        refine Classical.byContradiction fun w => g (h0 n (by omega))
      refine Or.inr ⟨n, by omega, g, fun i h1 h2 => by omega, rfl, rfl, ?_⟩
      dsimp only
      rcases ih with ⟨a1, a2, a3⟩ | ⟨t, b1, b2, b3, b4, b5, b6⟩
      · rw [a2, a3]
        dsimp only
        rw [if_neg (by omega), if_neg (by omega)]
        omega
      · rw [b4, b5]
        have ht := hs t
        have hp := sg1_par (t := t) (n - t)
        rw [show t + (n - t) = n by omega] at hp
        rcases sg1_or t with e | e <;> rw [e] at hp ⊢ <;> by_cases w : (n - t) % 2 = 0
        · rw [if_pos w] at hp
          rw [hp]
          split <;> split <;> omega
        · rw [if_neg w] at hp
          rw [hp]
          split <;> split <;> omega
        · rw [if_pos w] at hp
          rw [hp]
          split <;> split <;> omega
        · rw [if_neg w] at hp
          rw [hp]
          split <;> split <;> omega
noncomputable def cN {α : Type} (p : α → Prop) : List α → Nat
  | [] => 0
  | r :: rs => cN p rs + (by
      classical
      exact if p r then 1 else 0)
theorem cN_pos {α : Type} {p : α → Prop} {r : α} {rs : List α} (h : p r) : cN p (r :: rs) = cN p rs + 1 := by
  show cN p rs + (@ite Nat (p r) (Classical.propDecidable (p r)) 1 0) = _
  rw [if_pos h]
theorem cN_not {α : Type} {p : α → Prop} {r : α} {rs : List α} (h : ¬ p r) : cN p (r :: rs) = cN p rs := by
  show cN p rs + (@ite Nat (p r) (Classical.propDecidable (p r)) 1 0) = _
  rw [if_neg h]
  rfl
theorem pl_app {R : Type} [Lean.Grind.CommRing R] {x : R} : ∀ (as bs : List R), pl (as ++ bs) x = pl as x * pl bs x
  | [], bs => by
    show pl bs x = 1 * pl bs x
    grind
  | a :: as, bs => by
    show (x - a) * pl (as ++ bs) x = (x - a) * pl as x * pl bs x
    rw [pl_app as bs]
    grind
theorem part3 {K : Type} [Lean.Grind.Field K] [LE K] [LT K] [Std.LawfulOrderLT K] [Std.IsLinearOrder K] [Lean.Grind.OrderedRing K] : ∀ qs : List K, ∃ ps zs ns : List K, (∀ r, r ∈ ps → 0 < r) ∧ (∀ r, r ∈ zs → r = 0) ∧ (∀ r, r ∈ ns → r < 0) ∧ ps.length = cN (fun r => 0 < r) qs ∧ zs.length = cN (fun r => r = 0) qs ∧ ns.length = cN (fun r => r < 0) qs ∧ ps.length + zs.length + ns.length = qs.length ∧ ∀ x, pl qs x = pl ps x * (pl zs x * pl ns x)
  | [] => ⟨[], [], [], (fun r h => by cases h), (fun r h => by cases h), (fun r h => by cases h), rfl, rfl, rfl, rfl, fun x => by
    show (1 : K) = 1 * (1 * 1)
    grind⟩
  | q :: qs => by
    obtain ⟨ps, zs, ns, h1, h2, h3, h4, h5, h6, h7, h8⟩ := part3 qs
    rcases ksg_c q with ⟨g, _⟩ | ⟨g, _⟩ | ⟨g, _⟩
    · refine ⟨ps, zs, q :: ns, h1, h2, fun r hr => ?_, ?_, ?_, ?_, ?_, fun x => ?_⟩
      · rcases List.mem_cons.mp hr with e | e
        · rw [e]; exact g
        · exact h3 r e
      · rw [cN_not (by grind), h4]
      · rw [cN_not (by grind), h5]
      · rw [cN_pos (p := fun r => r < 0) g, ← h6]; rfl
      · show ps.length + zs.length + (ns.length + 1) = qs.length + 1
        omega
      · show (x - q) * pl qs x = pl ps x * (pl zs x * ((x - q) * pl ns x))
        rw [h8]
        grind
    · refine ⟨ps, q :: zs, ns, h1, fun r hr => ?_, h3, ?_, ?_, ?_, ?_, fun x => ?_⟩
      · rcases List.mem_cons.mp hr with e | e
        · rw [e]; exact g
        · exact h2 r e
      · rw [cN_not (by grind), h4]
      · rw [cN_pos (p := fun r => r = 0) g, ← h5]; rfl
      · rw [cN_not (by grind), h6]
      · show ps.length + (zs.length + 1) + ns.length = qs.length + 1
        omega
      · show (x - q) * pl qs x = pl ps x * ((x - q) * pl zs x * pl ns x)
        rw [h8]
        grind
    · refine ⟨q :: ps, zs, ns, fun r hr => ?_, h2, h3, ?_, ?_, ?_, ?_, fun x => ?_⟩
      · rcases List.mem_cons.mp hr with e | e
        · rw [e]; exact g
        · exact h1 r e
      · rw [cN_pos (p := fun r => 0 < r) g, ← h4]; rfl
      · rw [cN_not (by grind), h5]
      · rw [cN_not (by grind), h6]
      · show ps.length + 1 + zs.length + ns.length = qs.length + 1
        omega
      · show (x - q) * pl qs x = (x - q) * pl ps x * (pl zs x * pl ns x)
        rw [h8]
        grind
theorem v_up {K : Type} [Lean.Grind.Field K] [LE K] [LT K] [Std.LawfulOrderLT K] [Std.IsLinearOrder K] [Lean.Grind.OrderedRing K] : ∀ (ps qs : List K), (∀ r, r ∈ ps → 0 < r) → (ps.length : Int) + (vs (fun i => ksg (plc qs i)) (qs.length + 1)).2 ≤ (vs (fun i => ksg (plc (ps ++ qs) i)) ((ps ++ qs).length + 1)).2
  | [], qs, _ => by
    show ((0 : Nat) : Int) + _ ≤ _
    show ((0 : Nat) : Int) + _ ≤ (vs (fun i => ksg (plc qs i)) (qs.length + 1)).2
    omega
  | p :: ps, qs, h => by
    have ih := v_up ps qs fun r hr => h r (List.mem_cons_of_mem _ hr)
    have h1 := vmul (c := plc (ps ++ qs)) (n := (ps ++ qs).length) (h p List.mem_cons_self) (by rw [plc_top]; exact fun e => Lean.Grind.Field.zero_ne_one e.symm) (plc_out _ _ (by omega))
    have e : (vs (fun i => ksg (plc (p :: ps ++ qs) i)) ((p :: ps ++ qs).length + 1)).2 = (vs (fun i => ksg (su (plc (ps ++ qs)) i - p * plc (ps ++ qs) i)) ((ps ++ qs).length + 2)).2 := rfl
    rw [e]
    show ((ps.length + 1 : Nat) : Int) + _ ≤ _
    omega
theorem sg_su {K : Type} [Lean.Grind.Field K] [LE K] [LT K] [Std.LawfulOrderLT K] [Std.IsLinearOrder K] [Lean.Grind.OrderedRing K] {c : Nat → K} {r : K} (i : Nat) : ep (-1) i * (su c i - r * c i) = -(su (fun i => ep (-1) i * c i) i - -r * (ep (-1) i * c i)) := by
  cases i with
  | zero =>
    show 1 * (0 - r * c 0) = -(0 - -r * (1 * c 0))
    grind
  | succ i =>
    show ep (-1) i * -1 * (c i - r * c (i + 1)) = -(ep (-1) i * c i - -r * (ep (-1) i * -1 * c (i + 1)))
    grind
theorem v_dn {K : Type} [Lean.Grind.Field K] [LE K] [LT K] [Std.LawfulOrderLT K] [Std.IsLinearOrder K] [Lean.Grind.OrderedRing K] : ∀ (ns qs : List K), (∀ r, r ∈ ns → r < 0) → (ns.length : Int) + (vs (fun i => ksg (ep (-1) i * plc qs i)) (qs.length + 1)).2 ≤ (vs (fun i => ksg (ep (-1) i * plc (ns ++ qs) i)) ((ns ++ qs).length + 1)).2
  | [], qs, _ => by
    show ((0 : Nat) : Int) + _ ≤ (vs (fun i => ksg (ep (-1) i * plc qs i)) (qs.length + 1)).2
    omega
  | p :: ns, qs, h => by
    have ih := v_dn ns qs fun r hr => h r (List.mem_cons_of_mem _ hr)
    have hp := h p List.mem_cons_self
    have ee : ∀ i, (ep (-1 : K) i = 1 ∨ ep (-1 : K) i = -1) := fun i => by
      induction i with
      | zero => exact Or.inl rfl
      | succ i ih =>
        show ep (-1 : K) i * -1 = 1 ∨ ep (-1 : K) i * -1 = -1
        rcases ih with e | e <;> rw [e] <;> grind
    have h1 := vmul (c := fun i => ep (-1) i * plc (ns ++ qs) i) (r := -p) (n := (ns ++ qs).length) (by grind) (by
      show ep (-1) _ * plc (ns ++ qs) _ ≠ 0
      rw [plc_top]
      have := Lean.Grind.Field.zero_ne_one (α := K)
      rcases ee (ns ++ qs).length with e | e <;> rw [e] <;> grind) (by
      show ep (-1) _ * plc (ns ++ qs) _ = 0
      rw [plc_out _ _ (by omega)]
      grind)
    have e : (vs (fun i => ksg (ep (-1) i * plc (p :: ns ++ qs) i)) ((p :: ns ++ qs).length + 1)).2 = (vs (fun i => -(ksg (su (fun i => ep (-1) i * plc (ns ++ qs) i) i - -p * (ep (-1) i * plc (ns ++ qs) i)))) ((ns ++ qs).length + 2)).2 := by
      congr 1
      refine vs_eq _ fun i _ => ?_
      show ksg (ep (-1) i * (su (plc (ns ++ qs)) i - p * plc (ns ++ qs) i)) = _
      rw [sg_su, ksg_neg]
    rw [e, (vs_neg _).2]
    show ((ns.length + 1 : Nat) : Int) + _ ≤ _
    omega
theorem plc_same {K : Type} [Lean.Grind.Field K] [LE K] [LT K] [Std.LawfulOrderLT K] [Std.IsLinearOrder K] [Lean.Grind.OrderedRing K] {as bs : List K} (hl : as.length = bs.length) (h : ∀ x, pl as x = pl bs x) : plc as = plc bs := by
  funext i
  rcases Nat.lt_or_ge i (as.length + 1) with l | l
  · refine pe_inj (n := as.length + 1) (c := plc as) (e := plc bs) (fun x => ?_) i l
    rw [plc_pe, h, hl, plc_pe]
  · rw [plc_out as i (by omega), plc_out bs i (by omega)]
theorem plc_zs {K : Type} [Lean.Grind.Field K] [LE K] [LT K] [Std.LawfulOrderLT K] [Std.IsLinearOrder K] [Lean.Grind.OrderedRing K] : ∀ (zs qs : List K), (∀ r, r ∈ zs → r = 0) → ∀ i, i < zs.length → plc (zs ++ qs) i = 0
  | [], qs, _, i, hi => by
    have : i < 0 := hi
    omega
  | z :: zs, qs, h, i, hi => by
    show su (plc (zs ++ qs)) i - z * plc (zs ++ qs) i = 0
    rw [h z List.mem_cons_self]
    cases i with
    | zero =>
      show (0 : K) - 0 * _ = 0
      grind
    | succ i =>
      have hi2 : i + 1 < zs.length + 1 := hi
      show plc (zs ++ qs) i - 0 * _ = 0
      rw [plc_zs zs qs (fun r hr => h r (List.mem_cons_of_mem _ hr)) i (by omega)]
      grind
theorem vs_nn {s : Nat → Int} : ∀ n, 0 ≤ (vs s n).2
  | 0 => Int.le_refl 0
  | n + 1 => by
    have ih := vs_nn (s := s) n
    by_cases g : s n = 0
    · rw [vs_pass g]; exact ih
    · rw [vs_take g]
      dsimp only
      split <;> omega
theorem ksg_ep {K : Type} [Lean.Grind.Field K] [LE K] [LT K] [Std.LawfulOrderLT K] [Std.IsLinearOrder K] [Lean.Grind.OrderedRing K] {x : K} (i : Nat) : ksg (ep (-1) i * x) = sg1 i * ksg x := by
  induction i with
  | zero =>
    show ksg (1 * x) = 1 * ksg x
    rw [Int.one_mul]
    congr 1
    grind
  | succ i ih =>
    show ksg (ep (-1) i * -1 * x) = -(sg1 i) * ksg x
    rw [show ep (-1) i * -1 * x = -(ep (-1) i * x) by grind, ksg_neg, ih, Int.neg_mul]
/-- where all roots are there: the changes are the roots above and below 0 -/
theorem desc {K : Type} [Lean.Grind.Field K] [LE K] [LT K] [Std.LawfulOrderLT K] [Std.IsLinearOrder K] [Lean.Grind.OrderedRing K] (qs : List K) : (vs (fun i => ksg (plc qs i)) (qs.length + 1)).2 = (cN (fun r => 0 < r) qs : Int) ∧ (vs (fun i => sg1 i * ksg (plc qs i)) (qs.length + 1)).2 = (cN (fun r => r < 0) qs : Int) ∧ (∀ i, i < cN (fun r => r = 0) qs → plc qs i = 0) ∧ plc qs (cN (fun r => r = 0) qs) ≠ 0 ∧ cN (fun r => 0 < r) qs + cN (fun r => r = 0) qs + cN (fun r => r < 0) qs = qs.length := by
  obtain ⟨ps, zs, ns, h1, h2, h3, h4, h5, h6, h7, h8⟩ := part3 qs
  have l1 : (ps ++ (zs ++ ns)).length = qs.length := by rw [List.length_append, List.length_append]; omega
  have l2 : (ns ++ (ps ++ zs)).length = qs.length := by rw [List.length_append, List.length_append]; omega
  have l3 : (zs ++ (ps ++ ns)).length = qs.length := by rw [List.length_append, List.length_append]; omega
  have e1 : plc (ps ++ (zs ++ ns)) = plc qs := plc_same l1 fun x => by rw [pl_app, pl_app, h8]
  have e2 : plc (ns ++ (ps ++ zs)) = plc qs := plc_same l2 fun x => by rw [pl_app, pl_app, h8]; grind
  have e3 : plc (zs ++ (ps ++ ns)) = plc qs := plc_same l3 fun x => by rw [pl_app, pl_app, h8]; grind
  have v1 := v_up ps (zs ++ ns) h1
  have v2 := v_dn ns (ps ++ zs) h3
  have w1 := vs_nn (s := fun i => ksg (plc (zs ++ ns) i)) ((zs ++ ns).length + 1)
  have w2 := vs_nn (s := fun i => ksg (ep (-1) i * plc (ps ++ zs) i)) ((ps ++ zs).length + 1)
  rw [l1, e1] at v1
  rw [l2, e2] at v2
  have z1 : ∀ i, i < zs.length → plc qs i = 0 := by
    rw [← e3]
    exact plc_zs zs _ h2
  have k0 : ksg (0 : K) = 0 := by
    rcases ksg_c (0 : K) with ⟨g, _⟩ | ⟨_, g⟩ | ⟨g, _⟩
    · exfalso; grind
    · exact g
    · exfalso; grind
  have q2 : (vs (fun i => ksg (ep (-1) i * plc qs i)) (qs.length + 1)) = (vs (fun i => sg1 i * ksg (plc qs i)) (qs.length + 1)) := vs_eq _ fun i _ => ksg_ep i
  rw [q2] at v2
  have hs : ∀ i, ksg (plc qs i) = -1 ∨ ksg (plc qs i) = 0 ∨ ksg (plc qs i) = 1 := fun i => by
    rcases ksg_c (plc qs i) with ⟨_, g⟩ | ⟨_, g⟩ | ⟨_, g⟩ <;> omega
  have top : ksg (plc qs qs.length) ≠ 0 := fun g => by
    have := ksg_0 g
    rw [plc_top] at this
    exact Lean.Grind.Field.zero_ne_one this.symm
  have ub : ∀ j0, (∀ i, i < j0 → plc qs i = 0) → (vs (fun i => ksg (plc qs i)) (qs.length + 1)).2 + (vs (fun i => sg1 i * ksg (plc qs i)) (qs.length + 1)).2 + (j0 : Int) ≤ (qs.length : Int) := fun j0 hj => by
    rcases vub (s := fun i => ksg (plc qs i)) (j0 := j0) hs (fun i hi => by
      show ksg (plc qs i) = 0
      rw [hj i hi, k0]) (qs.length + 1) with ⟨a1, _, _⟩ | ⟨t, b1, _, _, _, _, b6⟩
    · exact absurd (a1 qs.length (by omega)) top
    · have b7 : (vs (fun i => ksg (plc qs i)) (qs.length + 1)).2 + (vs (fun i => sg1 i * ksg (plc qs i)) (qs.length + 1)).2 + (j0 : Int) ≤ (t : Int) := b6
      omega
  have u0 := ub zs.length z1
  refine ⟨by omega, by omega, fun i hi => z1 i (by omega), fun g => ?_, by omega⟩
  have u1 := ub (zs.length + 1) fun i hi => by
    by_cases e : i = zs.length
    · rw [e, h5]; exact g
    · exact z1 i (by omega)
  omega
