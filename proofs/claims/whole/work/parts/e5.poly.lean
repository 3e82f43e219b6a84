/-! The reference's polyOf. -/
theorem mjUp_row_comm {Z : mjZ} {A a j : Nat} {g : Nat → Int} {v : Int} (h : a ≠ A) : mjUp (mjRow Z A g) a j v = mjRow (mjUp Z a j v) A g := by
  funext x k
  by_cases e : x = A
  · subst e
    rw [mjUp_nc h.symm, mjRow_at, mjRow_at]
  · rw [mjRow_ne e]
    show (if x = a ∧ k = j then v else mjRow Z A g x k) = (if x = a ∧ k = j then v else Z x k)
    rw [mjRow_ne e]
section WS
variable {d n t : Nat} {Z : mjZ} {T : Nat → Nat → Int}
def wS (Z : mjZ) (g h p : Nat → Int) : mjZ := mjRow (vS Z g h) 480 p
theorem wS_g {g h p : Nat → Int} {j : Nat} {v : Int} : mjUp (wS Z g h p) 478 j v = wS Z (va_up g j v) h p := by unfold wS; rw [mjUp_row_comm (by decide), vS_g]
theorem wS_h {g h p : Nat → Int} {j : Nat} {v : Int} : mjUp (wS Z g h p) 479 j v = wS Z g (va_up h j v) p := by unfold wS; rw [mjUp_row_comm (by decide), vS_h]
theorem wS_p {g h p : Nat → Int} {j : Nat} {v : Int} : mjUp (wS Z g h p) 480 j v = wS Z g h (va_up p j v) := mjRow_up
theorem wS_ag {g h p : Nat → Int} : wS Z g h p 478 = g := by unfold wS; rw [mjRow_ne (by decide), vS_ag]
theorem wS_ah {g h p : Nat → Int} : wS Z g h p 479 = h := by unfold wS; rw [mjRow_ne (by decide), vS_ah]
theorem wS_ap {g h p : Nat → Int} : wS Z g h p 480 = p := mjRow_at
theorem wS_ne {g h p : Nat → Int} {a : Nat} (h1 : a ≠ 478) (h2 : a ≠ 479) (h3 : a ≠ 480) : wS Z g h p a = Z a := by unfold wS; rw [mjRow_ne h3, vS_ne h1 h2]
theorem stO_w {g h p : Nat → Int} : stO Z (wS Z g h p) := ⟨fun c h1 _ => wS_ne (by omega) (by omega) (by omega), wS_ne (by decide) (by decide) (by decide), fun k _ => congrFun (wS_ne (by decide) (by decide) (by decide)) k⟩
theorem fo_dg {g : Nat → Int} : ∀ n j : Nat, n ≤ 6 → fo (fun i g => va_up g (6 * i + i) 1) n g j = if j / 6 < n ∧ j / 6 = j % 6 then 1 else g j
  | 0, j, _ => by rw [if_neg (by omega)]; rfl
  | n + 1, j, h6 => by
    show (if j = 6 * n + n then 1 else fo (fun i g => va_up g (6 * i + i) 1) n g j) = _
    by_cases h : j = 6 * n + n
    · rw [if_pos h, if_pos (by omega)]
    · rw [if_neg h, fo_dg n j (by omega)]
      by_cases h2 : j / 6 < n ∧ j / 6 = j % 6
      · rw [if_pos h2, if_pos (by omega)]
      · rw [if_neg h2, if_neg (by omega)]
theorem fm_polyOf {q : mjZ → Prop} (ht : t < 60) (h1 : 1 ≤ n) (h6 : n ≤ 6) (h9 : Z 469 t = (n : Int)) (hT : ∀ i k, i < n → k < n → Z 470 (36 * t + 6 * i + k) = T i k ∧ -100 ≤ T i k ∧ T i k ≤ 100) (hq : ∀ g h p, (∀ j, j < 7 → p j = if j ≤ n then leP n T j else 0) → q (wS Z g h p)) : mjW0 (d + 2) 201 [yR 11 464, yI (t : Int)] Z q := by
  have hT2 : ∀ i k, i < n → k < n → -100 ≤ T i k ∧ T i k ≤ 100 := fun i k hi hk => (hT i k hi hk).2
  refine mje_201 (d := d + 1) ⟨by omega, by omega, ?_⟩
  rw [h9]
  have eS : Z = wS Z (Z 478) (Z 479) (Z 480) := by
    have e1 : vS Z (Z 478) (Z 479) = Z := by
      unfold vS
      rw [mjRow_self]
      exact mjRow_self
    unfold wS
    rw [e1]
    exact mjRow_self.symm
  suffices H : mjL_201_9 (d + 1) t (n : Int) 0 (wS Z (Z 478) (Z 479) (Z 480)) q by rw [← eS] at H; exact H
  refine lp_fold0 (n := 36) (f := fun i g => va_up g i 0) (L := fun i g => mjL_201_9 (d + 1) t (n : Int) i (wS Z g (Z 479) (Z 480)) q) (fun i g hi hL => ?_) ?_
  · refine mjl_201_9 ⟨by omega, fun g => by omega, fun _ => ⟨by omega, by omega, ?_⟩⟩
    rw [wS_g]
    exact hL
  · refine mjl_201_9 ⟨by omega, fun _ => ?_, fun g => by omega⟩
    refine lp_fold0 (n := n) (f := fun i g => va_up g (6 * i + i) 1) (L := fun i g => mjL_201_30 (d + 1) t (n : Int) i (wS Z g (Z 479) (Z 480)) q) (fun i g hi hL => ?_) ?_
    · refine mjl_201_30 ⟨by omega, by omega, fun g => by omega, fun _ => ⟨by omega, by omega, ?_⟩⟩
      rw [show ((6 * (i : Int)) + (i : Int)).toNat = 6 * i + i by omega, wS_g]
      exact hL
    · refine mjl_201_30 ⟨by omega, by omega, fun _ => ?_, fun g => by omega⟩
      have g0 : ∀ i k, i < n → k < n → fo (fun i g => va_up g (6 * i + i) 1) n (fo (fun i g => va_up g i 0) 36 (Z 478)) (6 * i + k) = leB n T 0 i k := fun i k hi hk => by
        show _ = (if i = k then 1 else 0)
        rw [fo_dg n _ h6, fo_cst, if_pos (show 6 * i + k < 36 by omega)]
        by_cases h : i = k
        · rw [if_pos (by omega), if_pos h]
        · rw [if_neg (by omega), if_neg h]
      generalize fo (fun i g => va_up g (6 * i + i) 1) n (fo (fun i g => va_up g i 0) 36 (Z 478)) = G0 at *
      refine lp_fold0 (n := 7) (f := fun i g => va_up g i 0) (L := fun i p => mjL_201_55 (d + 1) t (n : Int) i (wS Z G0 (Z 479) p) q) (fun i g hi hL => ?_) ?_
      · refine mjl_201_55 ⟨by omega, fun g => by omega, fun _ => ⟨by omega, by omega, ?_⟩⟩
        rw [wS_p]
        exact hL
      · refine mjl_201_55 ⟨by omega, fun _ => ⟨by omega, by omega, ?_⟩, fun g => by omega⟩
        rw [wS_p, show ((n : Int)).toNat = n from rfl]
        refine lp_inv (n := n) (α := (Nat → Int) × ((Nat → Int) × (Nat → Int))) (a := (G0, (Z 479, va_up (fo (fun i g => va_up g i 0) 7 (Z 480)) n 1))) (L := fun r a => mjL_201_83 (d + 1) t (n : Int) (r + 1) (wS Z a.1 a.2.1 a.2.2) q) (Y := fun r a => (∀ i k, i < n → k < n → a.1 (6 * i + k) = leB n T r i k) ∧ ∀ j, j < 7 → a.2.2 j = if n - r ≤ j ∧ j ≤ n then leP n T j else 0) (fun r a hr hy hL => ?_) (fun a hy => ?_) ⟨g0, fun j hj => ?_⟩
        · obtain ⟨g, h, p⟩ := a
          obtain ⟨y1, y2⟩ := hy
          dsimp only at y1 y2 ⊢
          have bt := le_tr (r := r) h6 hT2 (by omega)
          have bt2 : -279936000000000000 ≤ mxTr n (mxM n T (leB n T r)) ∧ mxTr n (mxM n T (leB n T r)) ≤ 279936000000000000 := by
            unfold bgA at bt
            split at bt <;> omega
          refine mjl_201_83 ⟨by omega, by omega, fun g => by omega, fun _ => ?_⟩
          refine lp_inv (n := n) (α := Int × (Nat → Int)) (a := (0, h)) (L := fun i a => mjL_201_94 (d + 1) t (n : Int) (r + 1) a.1 i (wS Z g a.2 p) q) (Y := fun i a => a.1 = fo (fun i s => s + mxM n T (leB n T r) i i) i 0 ∧ ∀ u k, u < i → k < n → a.2 (6 * u + k) = mxM n T (leB n T r) u k) (fun i a hi hy2 hL2 => ?_) (fun a hy2 => ?_) ⟨rfl, fun u k hu => by omega⟩
          · obtain ⟨s, h⟩ := a
            obtain ⟨z1, z2⟩ := hy2
            dsimp only at z1 z2 ⊢
            refine mjl_201_94 ⟨by omega, by omega, fun g => by omega, fun _ => ?_⟩
            refine lp_inv (n := n) (a := h) (L := fun k h => mjL_201_103 (d + 1) t (n : Int) (r + 1) s i k (wS Z g h p) q) (Y := fun m h => (∀ u k, u < i → k < n → h (6 * u + k) = mxM n T (leB n T r) u k) ∧ ∀ k, k < m → h (6 * i + k) = mxM n T (leB n T r) i k) (fun m h hm hy3 hL3 => ?_) (fun h hy3 => ?_) ⟨z2, fun k hk => by omega⟩
            · refine mjl_201_103 ⟨by omega, by omega, fun g => by omega, fun _ => ?_⟩
              refine lp_fold0 (n := n) (f := fun j s => s + T i j * leB n T r j m) (L := fun j x => mjL_201_115 (d + 1) t (n : Int) (r + 1) s i m x j (wS Z g h p) q) (fun j x hj hL4 => ?_) ?_
              · have tj := hT i j hi hj
                refine mjl_201_115 ⟨by omega, by omega, fun g => by omega, fun _ => fm_number (d := d) ht (by omega) (by omega) ?_⟩
                rw [wS_ne (a := 470) (by decide) (by decide) (by decide), tj.1, wS_ag, show ((6 * (j : Int)) + (m : Int)).toNat = 6 * j + m by omega, y1 j m hj hm]
                exact ⟨by omega, by omega, by omega, hL4⟩
              · refine mjl_201_115 ⟨by omega, by omega, fun _ => ⟨by omega, by omega, ?_⟩, fun g => by omega⟩
                rw [show ((6 * (i : Int)) + (m : Int)).toNat = 6 * i + m by omega, wS_h]
                refine hL3 _ ⟨fun u k hu hk => ?_, fun k hk => ?_⟩
                · show (if 6 * u + k = 6 * i + m then _ else h (6 * u + k)) = _
                  rw [if_neg (by omega)]
                  exact hy3.1 u k hu hk
                · show (if 6 * i + k = 6 * i + m then _ else h (6 * i + k)) = _
                  by_cases e : k = m
                  · rw [if_pos (by omega), e]; rfl
                  · rw [if_neg (by omega)]
                    exact hy3.2 k (by omega)
            · refine mjl_201_103 ⟨by omega, by omega, fun _ => ⟨by omega, by omega, ?_⟩, fun g => by omega⟩
              rw [wS_ah, show ((6 * (i : Int)) + (i : Int)).toNat = 6 * i + i by omega, hy3.2 i hi]
              refine hL2 (s + mxM n T (leB n T r) i i, h) ⟨?_, fun u k hu hk => ?_⟩
              · show s + mxM n T (leB n T r) i i = fo (fun i s => s + mxM n T (leB n T r) i i) i 0 + mxM n T (leB n T r) i i
                rw [z1]
              · rcases Nat.lt_or_ge u i with l | l
                · exact hy3.1 u k l hk
                · rw [show u = i by omega]
                  exact hy3.2 k hk
          · obtain ⟨s, h⟩ := a
            obtain ⟨z1, z2⟩ := hy2
            dsimp only at z1 z2 ⊢
            have zT : s = mxTr n (mxM n T (leB n T r)) := z1
            have eC : Int.tdiv (-s) ((r + 1 : Nat) : Int) = leC n T (leB n T r) r := by
              unfold leC
              rw [zT, show ((r + 1 : Nat) : Int) = (r : Int) + 1 by omega]
            refine mjl_201_94 ⟨by omega, by omega, fun _ => ⟨by omega, by omega, by omega, by omega, by omega, by omega, ?_⟩, fun g => by omega⟩
            rw [eC, show ((n : Int) - ((r + 1 : Nat) : Int)).toNat = n - (r + 1) by omega, wS_p]
            have pN : va_up p (n - (r + 1)) (leC n T (leB n T r) r) (n - (r + 1)) = leC n T (leB n T r) r := if_pos rfl
            refine lp_inv (n := n) (a := g) (L := fun i g => mjL_201_218 (d + 1) t (n : Int) (r + 1) i (wS Z g h (va_up p (n - (r + 1)) (leC n T (leB n T r) r))) q) (Y := fun i g => ∀ u k, u < i → k < n → g (6 * u + k) = leB n T (r + 1) u k) (fun i g hi hy3 hL3 => ?_) (fun g hy3 => ?_) (fun u k hu => by omega)
            · refine mjl_201_218 ⟨by omega, by omega, fun g => by omega, fun _ => ?_⟩
              refine lp_inv (n := n) (a := g) (L := fun k g => mjL_201_227 (d + 1) t (n : Int) (r + 1) i k (wS Z g h (va_up p (n - (r + 1)) (leC n T (leB n T r) r))) q) (Y := fun m g => (∀ u k, u < i → k < n → g (6 * u + k) = leB n T (r + 1) u k) ∧ ∀ k, k < m → g (6 * i + k) = leB n T (r + 1) i k) (fun m g hm hy4 hL4 => ?_) (fun g hy4 => ?_) ⟨hy3, fun k hk => by omega⟩
              · have up : ∀ v, v = leB n T (r + 1) i m → mjL_201_227 (d + 1) t (n : Int) (r + 1) i (m + 1) (wS Z (va_up g (6 * i + m) v) h (va_up p (n - (r + 1)) (leC n T (leB n T r) r))) q := fun v hv => by
                  refine hL4 _ ⟨fun u k hu hk => ?_, fun k hk => ?_⟩
                  · show (if 6 * u + k = 6 * i + m then _ else g (6 * u + k)) = _
                    rw [if_neg (by omega)]
                    exact hy4.1 u k hu hk
                  · show (if 6 * i + k = 6 * i + m then _ else g (6 * i + k)) = _
                    by_cases e : k = m
                    · rw [if_pos (by omega), e]; exact hv
                    · rw [if_neg (by omega)]
                      exact hy4.2 k (by omega)
                refine mjl_201_227 ⟨by omega, by omega, fun g => by omega, fun _ => ⟨by omega, by omega, by omega, fun hne => ?_, fun he => ⟨by omega, by omega, ?_⟩⟩⟩
                · rw [wS_ah, show ((6 * (i : Int)) + (m : Int)).toNat = 6 * i + m by omega, z2 i m hi hm, wS_g]
                  refine up _ ?_
                  show _ = mxM n T (leB n T r) i m + if i = m then _ else 0
                  rw [if_neg (by omega)]
                · rw [wS_ah, wS_ap, show ((6 * (i : Int)) + (m : Int)).toNat = 6 * i + m by omega, show ((n : Int) - ((r + 1 : Nat) : Int)).toNat = n - (r + 1) by omega, z2 i m hi hm, pN, wS_g]
                  refine up _ ?_
                  show _ = mxM n T (leB n T r) i m + if i = m then _ else 0
                  rw [if_pos (by omega)]
              · refine mjl_201_227 ⟨by omega, by omega, fun _ => hL3 g fun u k hu hk => ?_, fun g => by omega⟩
                rcases Nat.lt_or_ge u i with l | l
                · exact hy4.1 u k l hk
                · rw [show u = i by omega]
                  exact hy4.2 k hk
            · refine mjl_201_218 ⟨by omega, by omega, fun _ => hL (g, (h, va_up p (n - (r + 1)) (leC n T (leB n T r) r))) ⟨hy3, fun j hj => ?_⟩, fun g => by omega⟩
              show (if j = n - (r + 1) then leC n T (leB n T r) r else p j) = _
              by_cases e : j = n - (r + 1)
              · rw [if_pos e, if_pos (by omega)]
                unfold leP
                rw [if_neg (by omega), show n - 1 - j = r by omega]
              · rw [if_neg e, y2 j hj]
                by_cases l : n - r ≤ j ∧ j ≤ n
                · rw [if_pos l, if_pos (by omega)]
                · rw [if_neg l, if_neg (by omega)]
        · obtain ⟨g, h, p⟩ := a
          obtain ⟨y1, y2⟩ := hy
          dsimp only at y1 y2 ⊢
          refine mjl_201_83 ⟨by omega, by omega, fun _ => hq g h p fun j hj => ?_, fun g => by omega⟩
          rw [y2 j hj]
          by_cases l : j ≤ n
          · rw [if_pos l, if_pos (by omega)]
          · rw [if_neg l, if_neg (by omega)]
        · show (if j = n then 1 else fo (fun i g => va_up g i 0) 7 (Z 480) j) = _
          by_cases e : j = n
          · rw [if_pos e, if_pos (by omega), e]
            unfold leP
            rw [if_pos rfl]
          · rw [if_neg e, fo_cst, if_pos hj, if_neg (by omega)]
end WS
