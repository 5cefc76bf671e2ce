/-! layer 2: the class's look, whole -/
theorem look_L177 {Λ : hx_L} {μ : hx_M} {K : hx_M → Prop} {c f g : Nat → Int32}
    (hg : ∀ w, w < 4 → g w = if c w = 0 then -1 else f w / c w)
    (h : ∀ m, off2 23 24 μ m → (∀ w, w < 4 → m.1 24 w = g w) → K m) : ∀ (r i : Nat) (m : hx_M), i + r = 4 → off2 23 24 μ m → (∀ w, w < 4 → m.1 23 w = c w ∧ m.1 24 w = if w < i then g w else f w) → wX6_look_L177 Λ K (r + 1) (Int32.ofNat i) m := by
  intro r
  induction r with
  | zero =>
    intro i m e ho hw
    obtain rfl : i = 4 := by omega
    unfold wX6_look_L177
    refine ⟨fun _ => h m ho (fun w hw4 => by rw [(hw w hw4).2, if_pos hw4]), fun z => absurd (by decide) z⟩
  | succ r ih =>
    intro i m e ho hw
    have h3 : (3 : Int32) = Int32.ofNat 3 := rfl
    obtain ⟨h1, h2⟩ := hw i (by omega)
    rw [if_neg (by omega)] at h2
    unfold wX6_look_L177
    rw [h3]
    simp (disch := omega) only [n32_lt, n32_nat, n32_in, true_and, h1, h2]
    have st : ∀ v : Int32, v = g i → wX6_look_J213 Λ K (wX6_look_L177 Λ K (r + 1)) (Int32.ofNat i) (Int32.ofNat i) v m := by
      rintro v rfl
      unfold wX6_look_J213
      rw [n32_nat (by omega), n32_add1]
      refine ⟨n32_in (by omega) (by omega), ih (i + 1) _ (by omega) (off2_sI ho (Or.inr rfl)) (fun w hw4 => ?_)⟩
      obtain ⟨h5, h6⟩ := hw w hw4
      simp only [hm_sI]
      refine ⟨by simp [h5], ?_⟩
      by_cases hq : w = i
      · subst hq; simp
      · by_cases hq2 : w < i
        · simp [hq, h6, hq2, show w < i + 1 by omega]
        · simp [hq, h6, hq2, show ¬ w < i + 1 by omega]
    refine ⟨fun z => by omega, fun _ => ⟨fun z => ⟨z, ?_⟩, fun z => st _ ?_⟩⟩
    · rintro x rfl
      exact st _ (by rw [hg i (by omega), if_neg z])
    · rw [hg i (by omega), if_pos z]
theorem t_look {Λ : hx_L} {μ : hx_M} {n s p : Nat} {K : hx_M → Prop} (F : cF Λ) (hn : μ.1 8 0 = Int32.ofNat n) (hn16 : n ≤ 16) (hs : s ≤ 300) (hp : p < n) (hr : ∀ q, q < n → 0 ≤ μ.1 9 q ∧ μ.1 9 q ≤ 9)
    (h : ∀ m, off2 23 24 μ m → (∀ w, w < 4 → m.1 24 w = meanW (μ.1 9) (μ.1 11 p) (fun q => μ.1 16 (16 * s + q)) p w n) → K m) : wX6_look Λ μ (Int32.ofNat p) (Int32.ofNat s) K := by
  unfold wX6_look
  refine fillI (cF_S23 F) (by omega) (fillI (cF_S24 F) (by omega) ?_)
  refine ⟨n + 1, look_L18 (μ := μ) hn hn16 hs hp hr (fun m ho hw => ?_) n 0 _ (by omega) ?_ ?_⟩
  · have z0 : (0 : Int32).toNatClampNeg = 0 := rfl
    have z1 : (1 : Int32).toNatClampNeg = 1 := rfl
    have z2 : (2 : Int32).toNatClampNeg = 2 := rfl
    have z3 : (3 : Int32).toNatClampNeg = 3 := rfl
    rw [z0, z1, z2, z3]
    refine ⟨by unfold vp_in; decide, by unfold vp_in; decide, ?_⟩
    rintro x rfl
    refine ⟨by unfold vp_in; decide, ?_⟩
    rintro y rfl
    refine ⟨by unfold vp_in; decide, by unfold vp_in; decide, by unfold vp_in; decide, ?_⟩
    rintro u rfl
    refine ⟨by unfold vp_in; decide, ?_⟩
    rintro v rfl
    refine ⟨by unfold vp_in; decide, 5, look_L177 (μ := μ) (c := fun w => meanCnt (μ.1 9) (μ.1 11 p) p w n) (f := fun w => meanSum (μ.1 9) (μ.1 11 p) (fun q => μ.1 16 (16 * s + q)) p w n) (g := fun w => meanW (μ.1 9) (μ.1 11 p) (fun q => μ.1 16 (16 * s + q)) p w n) (fun w _ => rfl) h 4 0 _ (by omega) (off2_sI (off2_sI ho (Or.inr rfl)) (Or.inl rfl)) (fun w hw4 => ?_)⟩
    have a0 := hw 0 (by omega)
    have a1 := hw 1 (by omega)
    have a2 := hw 2 (by omega)
    simp only [hm_sI]
    have : w = 0 ∨ w = 1 ∨ w = 2 ∨ w = 3 := by omega
    rcases this with rfl | rfl | rfl | rfl
    · simp [a0]
    · simp [a1]
    · simp [a2]
    · simp [a0, a1, a2, meanSum3, meanCnt3]
  · exact off2_sA (off2_sA ⟨fun _ _ _ => rfl, rfl⟩ (Or.inl rfl)) (Or.inr rfl)
  · intro w hw3
    simp only [hm_sA]
    refine ⟨?_, ?_⟩
    · simp [show w < 4 by omega]; rfl
    · simp [show w < 4 by omega]; rfl
