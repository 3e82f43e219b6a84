/-! Forests: rows that hang on each other, and those that don't. -/
def SPN (n k : Nat) (B : Nat → Nat → Int) (x : Nat → Int) : Prop := ∃ l : Nat → Int, ∀ i, i < n → x i = sm k fun a => l a * B a i
section SP
variable {n k : Nat} {B V : Nat → Nat → Int} {x y : Nat → Int}
theorem spn_congr (h : SPN n k B x) (e : ∀ i, i < n → y i = x i) : SPN n k B y := by
  obtain ⟨l, h⟩ := h
  exact ⟨l, fun i hi => (e i hi).trans (h i hi)⟩
theorem spn_zero : SPN n k B fun _ => 0 := ⟨fun _ => 0, fun i _ => (sm_zero k fun a _ => Int.zero_mul _).symm⟩
theorem spn_add (h : SPN n k B x) (g : SPN n k B y) : SPN n k B fun i => x i + y i := by
  obtain ⟨l, h⟩ := h
  obtain ⟨l2, g⟩ := g
  refine ⟨fun a => l a + l2 a, fun i hi => ?_⟩
  show x i + y i = _
  rw [h i hi, g i hi, ← sm_add]
  exact sm_eq k fun a _ => (Int.add_mul _ _ _).symm
theorem spn_mul {c : Int} (h : SPN n k B x) : SPN n k B fun i => c * x i := by
  obtain ⟨l, h⟩ := h
  refine ⟨fun a => c * l a, fun i hi => ?_⟩
  show c * x i = _
  rw [h i hi, ← sm_mul]
  exact sm_eq k fun a _ => (Int.mul_assoc _ _ _).symm
theorem spn_cns {e : Nat → Int} (h : SPN n k B x) : SPN n (k + 1) (cns e B) x := by
  obtain ⟨l, h⟩ := h
  refine ⟨cns 0 l, fun i hi => ?_⟩
  rw [sm_head, h i hi]
  show _ = 0 * e i + sm k fun a => l a * B a i
  omega
theorem spn_new {e : Nat → Int} : SPN n (k + 1) (cns e B) e := ⟨cns 1 fun _ => 0, fun i _ => by
  rw [sm_head]
  show _ = 1 * e i + sm k fun a => 0 * B a i
  rw [sm_zero k fun a _ => Int.zero_mul _]
  omega⟩
theorem spn_sm {f : Nat → Nat → Int} : ∀ m, (∀ v, v < m → SPN n k B (f v)) → SPN n k B fun i => sm m fun v => f v i
  | 0, _ => spn_zero
  | m + 1, h => spn_add (spn_sm m fun v hv => h v (by omega)) (h m (by omega))
theorem ip_addl {z : Nat → Int} : ip n (fun i => x i + y i) z = ip n x z + ip n y z := by
  unfold ip
  rw [← sm_add]
  exact sm_eq n fun i _ => Int.add_mul _ _ _
theorem ip_mull {c : Int} {z : Nat → Int} : ip n (fun i => c * x i) z = c * ip n x z := by
  unfold ip
  rw [← sm_mul]
  exact sm_eq n fun i _ => Int.mul_assoc _ _ _
theorem dt_w : dt (k + 1) (gmt n (cns x B) V) = sm (k + 1) fun j => ip n x (V j) * (sg1 j * dt k fun i l => ip n (B i) (V (dsk j l))) := sm_eq (k + 1) fun j _ => by
  show sg1 j * ip n x (V j) * dt k (fun i l => ip n (B i) (V (dsk j l))) = _
  grind
theorem dt_spn (h : SPN n k B x) : dt (k + 1) (gmt n (cns x B) V) = 0 := by
  obtain ⟨l, h⟩ := h
  have e1 : ∀ z : Nat → Int, ip n x z = sm k fun a => l a * ip n (B a) z := fun z => by
    unfold ip
    have e2 : ∀ i, i < n → x i * z i = sm k fun a => l a * (B a i * z i) := fun i hi => by
      rw [h i hi, ← sm_mulr]
      exact sm_eq k fun a _ => Int.mul_assoc _ _ _
    rw [sm_eq n e2, sm_swap (F := fun a i => l a * (B a i * z i))]
    exact sm_eq k fun a _ => sm_mul n
  rw [dt_w]
  have e2 : ∀ j, j < k + 1 → ip n x (V j) * (sg1 j * dt k fun i l => ip n (B i) (V (dsk j l))) = sm k fun a => l a * (ip n (B a) (V j) * (sg1 j * dt k fun i l => ip n (B i) (V (dsk j l)))) := fun j _ => by
    rw [e1, ← sm_mulr]
    exact sm_eq k fun a _ => Int.mul_assoc _ _ _
  rw [sm_eq (k + 1) e2, sm_swap (F := fun a j => l a * (ip n (B a) (V j) * (sg1 j * dt k fun i l => ip n (B i) (V (dsk j l)))))]
  refine sm_zero k fun a ha => ?_
  rw [sm_mul, ← dt_w, dt_same a 0 (k + 1) _ (by omega) fun l _ => ?_, Int.mul_zero]
  show ip n (B a) _ = ip n (cns (B a) B (0 + 1 + a)) _
  rw [show 0 + 1 + a = a + 1 by omega]
  rfl
/-- a vector more -/
theorem dt_more {b u w : Nat → Int} {D : Int} (hb : ∀ i, i < n → D * b i = u i + w i) (hw : SPN n k B w) (hu : ∀ a, a < k → ip n u (B a) = 0) : D * dt (k + 1) (gmt n (cns b B) (cns b B)) = ip n u b * dt k (gmt n B B) := by
  have e1 : ∀ z, D * ip n b z = ip n u z + ip n w z := fun z => by
    rw [← ip_mull, ← ip_addl]
    exact sm_eq n fun i hi => by
      show D * b i * z i = (u i + w i) * z i
      rw [hb i hi]
  have e2 : D * dt (k + 1) (gmt n (cns b B) (cns b B)) = dt (k + 1) (gmt n (cns u B) (cns b B)) + dt (k + 1) (gmt n (cns w B) (cns b B)) := by
    rw [dt_w, dt_w, dt_w, ← sm_mul, ← sm_add]
    refine sm_eq (k + 1) fun j _ => ?_
    have := e1 (cns b B j)
    generalize sg1 j * dt k _ = y
    rw [← Int.mul_assoc, this, Int.add_mul]
  rw [e2, dt_spn hw, dt_row, sm_zero k fun a ha => by rw [hu a ha, Int.zero_mul]]
  omega
def DEP (n k : Nat) (B : Nat → Nat → Int) : Prop := ∃ l : Nat → Int, (∃ a, a < k ∧ l a ≠ 0) ∧ ∀ i, i < n → sm k (fun a => l a * B a i) = 0
theorem dep_cns {e : Nat → Int} (h : DEP n k B) : DEP n (k + 1) (cns e B) := by
  obtain ⟨l, ⟨a, ha, h1⟩, h2⟩ := h
  refine ⟨cns 0 l, ⟨a + 1, by omega, h1⟩, fun i hi => ?_⟩
  rw [sm_head]
  show 0 * e i + sm k (fun a => l a * B a i) = 0
  rw [h2 i hi]
  omega
theorem dep_new {e : Nat → Int} (h : SPN n k B e) : DEP n (k + 1) (cns e B) := by
  obtain ⟨l, h⟩ := h
  refine ⟨cns (-1) l, ⟨0, by omega, by show (-1 : Int) ≠ 0; decide⟩, fun i hi => ?_⟩
  rw [sm_head]
  show -1 * e i + sm k (fun a => l a * B a i) = 0
  rw [h i hi]
  omega
theorem dep_dt (h : DEP n k B) : dt k (gmt n B B) = 0 := by
  obtain ⟨l, ⟨a, ha, h1⟩, h2⟩ := h
  refine Classical.byContradiction fun hd => h1 ?_
  have hS : tSym n fun i k => if i = k then (1 : Int) else 0 := fun i j _ _ => by
    show (if i = j then (1 : Int) else 0) = if j = i then 1 else 0
    by_cases g : i = j
    · rw [if_pos g, if_pos g.symm]
    · rw [if_neg g, if_neg fun x => g x.symm]
  have eg : grm n (fun i k => if i = k then (1 : Int) else 0) B = gmt n B B := by
    funext i j
    exact bfv_id
  refine nd_of (n := n) (s := k) (F := B) hS (by rw [eg]; exact hd) (c := l) (fun j hj => ?_) a ha
  have e1 : ∀ a, a < k → l a * bfv n (fun i k => if i = k then (1 : Int) else 0) (B a) (B j) = sm n fun i => l a * B a i * B j i := fun a _ => by
    rw [bfv_id]
    unfold ip
    rw [← sm_mul]
    exact sm_eq n fun i _ => (Int.mul_assoc _ _ _).symm
  rw [sm_eq k e1, sm_swap (F := fun i a => l a * B a i * B j i)]
  refine sm_zero n fun i hi => ?_
  rw [sm_mulr, h2 i hi, Int.zero_mul]
end SP
/-- products -/
def prI : Nat → (Nat → Int) → Int
  | 0, _ => 1
  | n + 1, f => prI n f * f n
theorem prI_eq {f g : Nat → Int} : ∀ n, (∀ j, j < n → f j = g j) → prI n f = prI n g
  | 0, _ => rfl
  | n + 1, h => by
    show prI n f * f n = prI n g * g n
    rw [prI_eq n fun j hj => h j (by omega), h n (by omega)]
theorem prI_one {f g : Nat → Int} {x : Nat} (h : ∀ j, j ≠ x → g j = f j) : ∀ n, x < n → prI n g * f x = prI n f * g x
  | 0, hx => by omega
  | n + 1, hx => by
    show prI n g * g n * f x = prI n f * f n * g x
    by_cases e : x = n
    · subst e
      rw [prI_eq (f := g) (g := f) x fun j hj => h j (by omega)]
      grind
    · have := prI_one h n (by omega)
      rw [h n fun k => e k.symm]
      grind
theorem sm_oneD {f g : Nat → Int} {x : Nat} (h : ∀ j, j ≠ x → g j = f j) : ∀ n, x < n → sm n g + f x = sm n f + g x
  | 0, hx => by omega
  | n + 1, hx => by
    rw [sm_succ, sm_succ]
    by_cases e : x = n
    · subst e
      rw [sm_eq (f := g) (g := f) x fun j hj => h j (by omega)]
      omega
    · have := sm_oneD h n (by omega)
      rw [h n fun k => e k.symm]
      omega
/-- how many have a colour -/
def clI (n : Nat) (K : Nat → Nat) (x : Nat) : Int := sm n fun v => if K v = x then 1 else 0
def szI (n : Nat) (K : Nat → Nat) (x : Nat) : Int := if clI n K x = 0 then 1 else clI n K x
def ncI (n : Nat) (K : Nat → Nat) : Int := sm n fun x => if clI n K x = 0 then 0 else 1
theorem clI_nn {n x : Nat} {K : Nat → Nat} : 0 ≤ clI n K x := sm_nn n fun v _ => by
  show (0 : Int) ≤ if K v = x then 1 else 0
  split <;> omega
theorem clI_pos {n v : Nat} {K : Nat → Nat} (hv : v < n) : 1 ≤ clI n K (K v) := by
  have := sm_one (f := fun w => if K w = K v then (1 : Int) else 0) n v hv fun w _ => by
    show (0 : Int) ≤ if K w = K v then 1 else 0
    split <;> omega
  rw [if_pos rfl] at this
  exact this
/-- one colour for another -/
def rcl (K : Nat → Nat) (x y : Nat) : Nat → Nat := fun v => if K v = x then y else K v
theorem rcl_x {n x y : Nat} {K : Nat → Nat} (h : x ≠ y) : clI n (rcl K x y) x = 0 := sm_zero n fun v _ => by
  unfold rcl
  by_cases g : K v = x
  · rw [if_pos g, if_neg fun k => h k.symm]
  · rw [if_neg g, if_neg g]
theorem rcl_y {n x y : Nat} {K : Nat → Nat} (h : x ≠ y) : clI n (rcl K x y) y = clI n K x + clI n K y := by
  unfold clI
  rw [← sm_add]
  refine sm_eq n fun v _ => ?_
  unfold rcl
  by_cases g : K v = x
  · rw [if_pos g, if_pos rfl, if_pos g, if_neg (by omega)]; rfl
  · rw [if_neg g, if_neg g]
    omega
theorem rcl_z {n x y z : Nat} {K : Nat → Nat} (h1 : z ≠ x) (h2 : z ≠ y) : clI n (rcl K x y) z = clI n K z := sm_eq n fun v _ => by
  unfold rcl
  by_cases g : K v = x
  · rw [if_pos g, if_neg fun k => h2 k.symm, if_neg (by omega)]
  · rw [if_neg g]
