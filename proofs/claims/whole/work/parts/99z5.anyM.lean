/-! layer 2: law, lists of lists, the reference -/
section LN
variable {N : Nat} {t : Nat → Int32} {μ m m' : hx_M} {h d i i' : Nat} {V : List hl_S} {T : Nat → Int32}
theorem allM {W1 : hx_M → (Int32 → hx_M → Prop) → Prop} {sub : Nat → pR} (hT : T = tkF t N) (tx : TX N t μ) (hh : h ≤ 3500) (hs : Grow sub) (h1 : SpM N t μ h d W1 sub) : SpM N t μ h d (wX12_all W1) (pAll T sub) := by
  intro V i m K rs k
  unfold wX12_all
  refine h1 _ _ _ _ rs (fun m1 ro => ?_)
  unfold pAll at k
  cases hb : (sub i).1 with
  | true => exact seln1 ⟨_, all_L9 hT tx hh hs h1 700 (sub i) m1 (by omega) hb (ro.1 hb) k⟩
  | false =>
    have e : pLoop T sub 10018 (4, 0, 0) 700 (sub i) = sub i := by
      rw [pLoop_s]
      exact if_neg (fun z => by rw [hb] at z; exact absurd z.1 (by decide))
    rw [e] at k
    have k' := k m1 ro
    rw [hb] at k'
    exact seln0 k'
theorem any_L9 {W1 : hx_M → (Int32 → hx_M → Prop) → Prop} {sub : Nat → pR} {K : Int32 → hx_M → Prop} (hT : T = tkF t N) (tx : TX N t μ) (hh : h ≤ 3500) (hs : Grow sub) (h1 : SpM N t μ h d (wX12_all W1) sub) : ∀ (r : Nat) (x : pR) (m : hx_M), 700 ≤ x.2.1 + r → x.1 = true → RS N t μ h d (V ++ x.2.2) x.2.1 m → (∀ m', RO N t μ h d V (pLoop T sub 10019 (3, 0, 0) r x) m' → K (bI (pLoop T sub 10019 (3, 0, 0) r x).1) m') → wX12_any_L9 W1 K (r + 1) m := by
  intro r
  induction r with
  | zero =>
    intro x m hr hx rs k
    unfold wX12_any_L9
    refine takesT (k := 19) (x := 10019) hT (rs.tx tx) rs.1 (by omega) (wkE 19 (by omega)).symm (by decide) (fun z m1 o a => ?_) (fun z m1 o a => ?_)
    · rw [tk_700 hT tx.1 (by omega)] at z
      exact absurd z (by decide)
    · have k' := k m1 (RO.yes hx (rs.oX o a.at (Nat.le_refl _)))
      have e : pLoop T sub 10019 (3, 0, 0) 0 x = x := rfl
      rw [e, hx] at k'
      exact sel0 k'
  | succ r ih =>
    intro x m hr hx rs k
    rw [pLoop_s] at k
    unfold wX12_any_L9
    refine takesT (k := 19) (x := 10019) hT (rs.tx tx) rs.1 (by omega) (wkE 19 (by omega)).symm (by decide) (fun z m1 o a => ?_) (fun z m1 o a => ?_)
    · rw [if_pos ⟨hx, z⟩] at k
      have hN := tx.1
      have hC := tkC_le (t := t) (N := N)
      have rs1 := rs.oX o a (Nat.le_succ _)
      refine sel1 (h1 _ _ _ _ rs1 (fun m2 ro => ?_))
      cases hb : (sub (x.2.1 + 1)).1 with
      | true =>
        have rs2 := ro.1 hb
        have hg := hs _ hb
        have hlen := rs.2.1
        have i2 := rs2.1.1
        refine seln1 (putsM (a := 3) (b := 0) (c := 0) (by omega) rs2 ?_ rfl rfl rfl (fun m3 rs3 => ?_))
        · rw [List.length_append]; omega
        · refine ih ((sub (x.2.1 + 1)).1, (sub (x.2.1 + 1)).2.1, x.2.2 ++ (sub (x.2.1 + 1)).2.2 ++ [(3, 0, 0)]) m3 ?_ hb ?_ k
          · show 700 ≤ (sub (x.2.1 + 1)).2.1 + r
            omega
          · show RS N t μ h d (V ++ (x.2.2 ++ (sub (x.2.1 + 1)).2.2 ++ [(3, 0, 0)])) (sub (x.2.1 + 1)).2.1 m3
            rw [← List.append_assoc, ← List.append_assoc]
            exact rs3
      | false =>
        have e : ∀ r, pLoop T sub 10019 (3, 0, 0) r ((sub (x.2.1 + 1)).1, (sub (x.2.1 + 1)).2.1, x.2.2 ++ (sub (x.2.1 + 1)).2.2 ++ [(3, 0, 0)]) = ((sub (x.2.1 + 1)).1, (sub (x.2.1 + 1)).2.1, x.2.2 ++ (sub (x.2.1 + 1)).2.2 ++ [(3, 0, 0)]) := fun r => by
          cases r with
          | zero => rfl
          | succ r =>
            rw [pLoop_s]
            exact if_neg (fun z => by rw [hb] at z; exact absurd z.1 (by decide))
        rw [e] at k
        have k' := k m2 (RO.no hb (ro.2 hb))
        rw [show (((sub (x.2.1 + 1)).1, (sub (x.2.1 + 1)).2.1, x.2.2 ++ (sub (x.2.1 + 1)).2.2 ++ [(3, 0, 0)]) : pR).1 = false from hb] at k'
        exact seln0 k'
    · rw [if_neg (fun y => z y.2)] at k
      have k' := k m1 (RO.yes hx (rs.oX o a.at (Nat.le_refl _)))
      rw [hx] at k'
      exact sel0 k'
theorem anyM {W1 : hx_M → (Int32 → hx_M → Prop) → Prop} {sub : Nat → pR} (hT : T = tkF t N) (tx : TX N t μ) (hh : h ≤ 3500) (hs : Grow sub) (h1 : SpM N t μ h d W1 sub) : SpM N t μ h d (wX12_any W1) (pAny T sub) := by
  intro V i m K rs k
  have h2 := allM hT tx hh hs h1
  unfold wX12_any
  refine h2 _ _ _ _ rs (fun m1 ro => ?_)
  unfold pAny at k
  cases hb : (pAll T sub i).1 with
  | true => exact seln1 ⟨_, any_L9 hT tx hh (pAll_grow hs) h2 700 (pAll T sub i) m1 (by omega) hb (ro.1 hb) k⟩
  | false =>
    have e : pLoop T (pAll T sub) 10019 (3, 0, 0) 700 (pAll T sub i) = pAll T sub i := by
      rw [pLoop_s]
      exact if_neg (fun z => by rw [hb] at z; exact absurd z.1 (by decide))
    rw [e] at k
    have k' := k m1 ro
    rw [hb] at k'
    exact seln0 k'
end LN
