/-! layer 2: law, comparisons of the reference -/
section CM
variable {N : Nat} {t : Nat → Int32} {μ m m' : hx_M} {h d i i' : Nat} {V : List hl_S}
theorem cmpM {T : Nat → Int32} (hT : T = tkF t N) {W1 : hx_M → (Int32 → hx_M → Prop) → Prop} (tx : TX N t μ) (hh : h ≤ 3500) : SpM N t μ h d (fun m K => wX12_single_J130 W1 K m) (pCmp T) := by
  intro V i m K r k
  have hN := tx.1
  have hC := tkC_le (t := t) (N := N)
  show wX12_single_J130 W1 K m
  unfold wX12_single_J130
  unfold pCmp at k
  refine wordT hT (r.tx tx) r.1 (fun v m1 o1 a1 hw hn => askedByM hw (fun g hg e => ?_) (fun e => ?_))
  · have c1 : 10000 ≤ T i ∧ T i ≤ 10011 := by
      rw [e]
      exact ⟨(n32_le (a := 10000) (by omega) (by omega)).mpr (by omega), (n32_le (b := 10011) (by omega) (by omega)).mpr (by omega)⟩
    rw [if_neg (not_not_intro c1)] at k
    refine selN (n32_neg (by omega) (by decide)) ?_
    have at1 := hn g (by omega) e
    have r1 : RS N t μ h d V (i + 1) (hx_sI m1 49 25 (m1.1 49 41)) := r.oX (o1.sI (by omega)) at1 (by omega)
    have i1 := at1.1
    have Jn : ∀ (s : Nat) (m2 : hx_M), s ≤ 2 → (T (i + 1) = 20060 ∨ T (i + 1) = 20062 ∨ T (i + 1) = 20061) → (if T (i + 1) = 20060 then 0 else if T (i + 1) = 20062 then 1 else 2) = s → RS N t μ h d V (i + 2) m2 → wX12_single_J193 W1 K (Int32.ofNat g) (Int32.ofNat s) m2 := by
      intro s m2 hs hsg est r2
      rw [if_neg (not_not_intro hsg)] at k
      unfold wX12_single_J193
      refine selF (n32_neg (by omega) (by decide)) (takesNumberT hT (r2.tx tx) r2.1 (by decide) (by decide) (fun z m3 o3 a3 h42 => ?_) (fun z m3 o3 a3 => ?_))
      · rw [if_neg (not_not_intro z)] at k
        obtain ⟨n, en, hn9⟩ := n32_of (hi := 9999) z.1 z.2 (by omega)
        have r3 : RS N t μ h d V (i + 3) m3 := r2.oX o3 a3 (by omega)
        have i3 := a3.1
        refine seln1 (putsM (a := s) (b := g) (c := n) (by omega) r3 (by have := r.2.1; omega) rfl rfl (by rw [h42]; exact en) (fun m4 r4 => k m4 (RO.yes rfl ?_)))
        have ec : ((if T (i + 1) = 20060 then 0 else if T (i + 1) = 20062 then 1 else 2), (T i - 10000).toNatClampNeg, (T (i + 2)).toNatClampNeg) = ((s, g, n) : hl_S) := by
          have e1 : (10000 : Int32) = Int32.ofNat 10000 := rfl
          rw [est, e, e1, n32_subn (by omega), n32_nat (by omega), en, n32_nat (by omega), show 10000 + g - 10000 = g by omega]
        show RS N t μ h d (V ++ [_]) (i + 3) m4
        rw [ec]
        exact r4
      · rw [if_pos z] at k
        exact seln0 (k _ (RO.no rfl (r2.fail o3 a3)))
    have n1 : (-1 : Int32) = -1 := rfl
    refine takesSignT hT (r1.tx tx) r1.1 (x := 20060) (by decide) (by decide) (fun z m2 o2 a2 => ?_) (fun z m2 o2 a2 => ?_)
    · have z' : T (i + 1) = 20060 := z
      exact sel1 (Jn 0 m2 (by omega) (Or.inl z') (if_pos z') (r1.oX o2 a2 (by omega)))
    · have z' : T (i + 1) ≠ 20060 := z
      have r2 := r1.oX o2 a2.at (Nat.le_refl _)
      refine sel0 (takesSignT hT (r2.tx tx) r2.1 (x := 20062) (by decide) (by decide) (fun y m3 o3 a3 => ?_) (fun y m3 o3 a3 => ?_))
      · have y' : T (i + 1) = 20062 := y
        exact sel1 (Jn 1 m3 (by omega) (Or.inr (Or.inl y')) (by rw [if_neg z', if_pos y']) (r2.oX o3 a3 (by omega)))
      · have y' : T (i + 1) ≠ 20062 := y
        have r3 := r2.oX o3 a3.at (Nat.le_refl _)
        refine sel0 (takesSignT hT (r3.tx tx) r3.1 (x := 20061) (by decide) (by decide) (fun x m4 o4 a4 => ?_) (fun x m4 o4 a4 => ?_))
        · have x' : T (i + 1) = 20061 := x
          exact sel1 (Jn 2 m4 (by omega) (Or.inr (Or.inr x')) (by rw [if_neg z', if_neg y']) (r3.oX o4 a4 (by omega)))
        · have x' : T (i + 1) ≠ 20061 := x
          have hno : ¬ (T (i + 1) = 20060 ∨ T (i + 1) = 20062 ∨ T (i + 1) = 20061) := fun w => by
            rcases w with w | w | w
            · exact z' w
            · exact y' w
            · exact x' w
          rw [if_pos hno] at k
          refine sel0 ?_
          unfold wX12_single_J193
          exact selT rfl (k _ (RO.no rfl (r3.fail o4 a4)))
  · have c1 : ¬ (10000 ≤ T i ∧ T i ≤ 10011) := fun z => by
      obtain ⟨x, ex, hx⟩ := n32_of (hi := 10011) (Int32.le_trans (by decide) z.1) z.2 (by omega)
      have hx0 : 10000 ≤ x := by
        have := z.1
        rw [ex] at this
        exact (n32_le (a := 10000) (by omega) (by omega)).mp this
      exact e (x - 10000) (by omega) (by rw [ex, show 10000 + (x - 10000) = x by omega])
    rw [if_pos c1] at k
    exact selE rfl (k _ (RO.no rfl (r.fail o1 a1)))
end CM
