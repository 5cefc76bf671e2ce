/-! layer 2: law, lists of comparisons of the reference -/
def Grow (sub : Nat → pR) : Prop := ∀ i, (sub i).1 = true → i + (sub i).2.2.length + 1 ≤ (sub i).2.1
section GR
variable {T : Nat → Int32}
theorem pCmp_grow : Grow (pCmp T) := by
  intro i h
  unfold pCmp at h ⊢
  split at h
  · simp at h
  · rename_i c1
    rw [if_neg c1]
    split at h
    · simp at h
    · rename_i c2
      rw [if_neg c2]
      split at h
      · simp at h
      · rename_i c3
        rw [if_neg c3]
        show i + 1 + 1 ≤ i + 3
        omega
theorem pLoop_grow {sub : Nat → pR} {tok : Int32} {st : hl_S} (hs : Grow sub) {i : Nat} : ∀ (r : Nat) (x : pR), (x.1 = true → i + x.2.2.length + 1 ≤ x.2.1) → (pLoop T sub tok st r x).1 = true → i + (pLoop T sub tok st r x).2.2.length + 1 ≤ (pLoop T sub tok st r x).2.1
  | 0, x, h, hx => h hx
  | r + 1, x, h, hx => by
    rw [pLoop_s] at hx ⊢
    by_cases c : x.1 = true ∧ T x.2.1 = tok
    · rw [if_pos c] at hx ⊢
      refine pLoop_grow hs r _ (fun z => ?_) hx
      have h1 := hs _ z
      have h2 := h c.1
      show i + (x.2.2 ++ (sub (x.2.1 + 1)).2.2 ++ [st]).length + 1 ≤ (sub (x.2.1 + 1)).2.1
      rw [List.length_append, List.length_append]
      show i + (x.2.2.length + (sub (x.2.1 + 1)).2.2.length + 1) + 1 ≤ (sub (x.2.1 + 1)).2.1
      omega
    · rw [if_neg c] at hx ⊢
      exact h hx
theorem pAll_grow {sub : Nat → pR} (hs : Grow sub) : Grow (pAll T sub) := fun i h => pLoop_grow hs 700 (sub i) (hs i) h
theorem pAny_grow {sub : Nat → pR} (hs : Grow sub) : Grow (pAny T sub) := fun i h => pLoop_grow (pAll_grow hs) 700 (pAll T sub i) (pAll_grow hs i) h
theorem pOne_grow : ∀ k, Grow (pOne T k)
  | 0, i, h => by
    have e : pOne T 0 i = if T i = 10020 ∨ T i = 20040 then (false, i, []) else pCmp T i := rfl
    rw [e] at h ⊢
    by_cases c : T i = 10020 ∨ T i = 20040
    · rw [if_pos c] at h; simp at h
    · rw [if_neg c] at h ⊢; exact pCmp_grow i h
  | k + 1, i, h => by
    have e : pOne T (k + 1) i = if T i = 10020 then ((pOne T k (i + 1)).1, (pOne T k (i + 1)).2.1, (pOne T k (i + 1)).2.2 ++ [(5, 0, 0)])
    else if T i = 20040 then (if (pAny T (pOne T k) (i + 1)).1 = true ∧ T (pAny T (pOne T k) (i + 1)).2.1 = 20041 then (true, (pAny T (pOne T k) (i + 1)).2.1 + 1, (pAny T (pOne T k) (i + 1)).2.2) else (false, (pAny T (pOne T k) (i + 1)).2.1, []))
    else pCmp T i := rfl
    rw [e] at h ⊢
    by_cases c : T i = 10020
    · rw [if_pos c] at h ⊢
      have h1 := pOne_grow k (i + 1) h
      show i + ((pOne T k (i + 1)).2.2 ++ [(5, 0, 0)]).length + 1 ≤ (pOne T k (i + 1)).2.1
      rw [List.length_append]
      show i + ((pOne T k (i + 1)).2.2.length + 1) + 1 ≤ (pOne T k (i + 1)).2.1
      omega
    · rw [if_neg c] at h ⊢
      by_cases c2 : T i = 20040
      · rw [if_pos c2] at h ⊢
        by_cases c3 : (pAny T (pOne T k) (i + 1)).1 = true ∧ T (pAny T (pOne T k) (i + 1)).2.1 = 20041
        · rw [if_pos c3]
          have h1 := pAny_grow (pOne_grow k) (i + 1) c3.1
          show i + (pAny T (pOne T k) (i + 1)).2.2.length + 1 ≤ (pAny T (pOne T k) (i + 1)).2.1 + 1
          omega
        · rw [if_neg c3] at h; simp at h
      · rw [if_neg c2] at h ⊢
        exact pCmp_grow i h
end GR
section LM
variable {N : Nat} {t : Nat → Int32} {μ m m' : hx_M} {h d i i' : Nat} {V : List hl_S} {T : Nat → Int32}
theorem tk_700 (hT : T = tkF t N) (hN : N ≤ 700) (hi : 700 ≤ i) : T i = -2 := by
  subst hT
  have := tkC_le (t := t) (N := N)
  exact tk_end (Nat.le_trans this (Nat.le_trans hN hi))
theorem all_L9 {W1 : hx_M → (Int32 → hx_M → Prop) → Prop} {sub : Nat → pR} {K : Int32 → hx_M → Prop} (hT : T = tkF t N) (tx : TX N t μ) (hh : h ≤ 3500) (hs : Grow sub) (h1 : SpM N t μ h d W1 sub) : ∀ (r : Nat) (x : pR) (m : hx_M), 700 ≤ x.2.1 + r → x.1 = true → RS N t μ h d (V ++ x.2.2) x.2.1 m → (∀ m', RO N t μ h d V (pLoop T sub 10018 (4, 0, 0) r x) m' → K (bI (pLoop T sub 10018 (4, 0, 0) r x).1) m') → wX12_all_L9 W1 K (r + 1) m := by
  intro r
  induction r with
  | zero =>
    intro x m hr hx rs k
    unfold wX12_all_L9
    refine takesT (k := 18) (x := 10018) hT (rs.tx tx) rs.1 (by omega) (wkE 18 (by omega)).symm (by decide) (fun z m1 o a => ?_) (fun z m1 o a => ?_)
    · rw [tk_700 hT tx.1 (by omega)] at z
      exact absurd z (by decide)
    · have k' := k m1 (RO.yes hx (rs.oX o a.at (Nat.le_refl _)))
      have e : pLoop T sub 10018 (4, 0, 0) 0 x = x := rfl
      rw [e, hx] at k'
      exact sel0 k'
  | succ r ih =>
    intro x m hr hx rs k
    rw [pLoop_s] at k
    unfold wX12_all_L9
    refine takesT (k := 18) (x := 10018) hT (rs.tx tx) rs.1 (by omega) (wkE 18 (by omega)).symm (by decide) (fun z m1 o a => ?_) (fun z m1 o a => ?_)
    · rw [if_pos ⟨hx, z⟩] at k
      have hN := tx.1
      have hC := tkC_le (t := t) (N := N)
      have rs1 := rs.oX o a (Nat.le_succ _)
      refine sel1 (h1 _ _ _ _ rs1 (fun m2 ro => ?_))
      cases hb : (sub (x.2.1 + 1)).1 with
      | true =>
        have rs2 := ro.1 hb
        have hg := hs _ hb
        have hlen := rs.2.1
        have i2 := rs2.1.1
        refine seln1 (putsM (a := 4) (b := 0) (c := 0) (by omega) rs2 ?_ rfl rfl rfl (fun m3 rs3 => ?_))
        · rw [List.length_append]; omega
        · refine ih ((sub (x.2.1 + 1)).1, (sub (x.2.1 + 1)).2.1, x.2.2 ++ (sub (x.2.1 + 1)).2.2 ++ [(4, 0, 0)]) m3 ?_ hb ?_ k
          · show 700 ≤ (sub (x.2.1 + 1)).2.1 + r
            omega
          · show RS N t μ h d (V ++ (x.2.2 ++ (sub (x.2.1 + 1)).2.2 ++ [(4, 0, 0)])) (sub (x.2.1 + 1)).2.1 m3
            rw [← List.append_assoc, ← List.append_assoc]
            exact rs3
      | false =>
        have e : ∀ r, pLoop T sub 10018 (4, 0, 0) r ((sub (x.2.1 + 1)).1, (sub (x.2.1 + 1)).2.1, x.2.2 ++ (sub (x.2.1 + 1)).2.2 ++ [(4, 0, 0)]) = ((sub (x.2.1 + 1)).1, (sub (x.2.1 + 1)).2.1, x.2.2 ++ (sub (x.2.1 + 1)).2.2 ++ [(4, 0, 0)]) := fun r => by
          cases r with
          | zero => rfl
          | succ r =>
            rw [pLoop_s]
            exact if_neg (fun z => by rw [hb] at z; exact absurd z.1 (by decide))
        rw [e] at k
        have k' := k m2 (RO.no hb (ro.2 hb))
        rw [show (((sub (x.2.1 + 1)).1, (sub (x.2.1 + 1)).2.1, x.2.2 ++ (sub (x.2.1 + 1)).2.2 ++ [(4, 0, 0)]) : pR).1 = false from hb] at k'
        exact seln0 k'
    · rw [if_neg (fun y => z y.2)] at k
      have k' := k m1 (RO.yes hx (rs.oX o a.at (Nat.le_refl _)))
      rw [hx] at k'
      exact sel0 k'
end LM
