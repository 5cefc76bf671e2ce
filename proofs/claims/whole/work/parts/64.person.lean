/-! layer 2: person -/
/-- six numbers of a row taken to 0 -/
def six0 (f : Nat → Int32) (n i : Nat) : Nat → Int32 := fun j => if 6 * n + i ≤ j ∧ j < 6 * n + 6 then 0 else f j
theorem six0_s {f : Nat → Int32} {n i : Nat} (hi : i < 6) : six0 (upd f (6 * n + i) 0) n (i + 1) = six0 f n i := by
  funext j
  unfold six0 upd
  grind
theorem six0_e {f : Nat → Int32} {n : Nat} : six0 f n 6 = f := by
  funext j
  unfold six0
  rw [if_neg (by omega)]
theorem sA_sI {μ : hx_M} {c j : Nat} {v : Int32} {g : (Nat → Int32) → Nat → Int32} : hx_sA (hx_sI μ c j v) c (g ((hx_sI μ c j v).1 c)) = hx_sA μ c (g (upd (μ.1 c) j v)) := by
  unfold hx_sA hx_sI
  simp only [if_true]
  refine Prod.ext (funext fun k => ?_) rfl
  by_cases h : k = c <;> simp [h]
theorem sA_self {μ : hx_M} {c : Nat} : hx_sA μ c (μ.1 c) = μ := by
  refine Prod.ext (funext fun k => ?_) rfl
  show (if k = c then _ else _) = _
  by_cases h : k = c
  · subst h; simp
  · simp [h]
theorem join_L64 {n : Nat} {K : Int32 → hx_M → Prop} (hn : n < 16) : ∀ (r i : Nat) (m : hx_M), i + r = 6 → K (Int32.ofNat n) (hx_sA m 14 (six0 (m.1 14) n i)) → wX4_join_L64 (Int32.ofNat n) K (r + 1) (Int32.ofNat i) m := by
  intro r
  induction r with
  | zero =>
    intro i m e h
    obtain rfl : i = 6 := by omega
    unfold wX4_join_L64
    rw [six0_e, sA_self] at h
    exact selT (by decide) h
  | succ r ih =>
    intro i m e h
    have e6 : Int32.ofNat n * 6 + Int32.ofNat i = Int32.ofNat (6 * n + i) := by
      rw [Nat.mul_comm 6, ← n32_add, ← n32_mul]; rfl
    unfold wX4_join_L64
    rw [e6, n32_nat (by omega), n32_add1]
    refine selF (fun z => by have := (n32_le (a := 6) (by omega) (by omega)).mp z; omega) ⟨n32_in (by omega) (by omega), ih (i + 1) _ (by omega) ?_⟩
    have := sA_sI (μ := m) (c := 14) (j := 6 * n + i) (v := 0) (g := fun f => six0 f n (i + 1))
    rw [this, six0_s (by omega)]
    exact h
theorem person_L111 {n : Nat} {K : Int32 → hx_M → Prop} {K1 : hx_M → Prop} (hn : n < 16) : ∀ (r i : Nat) (m : hx_M), m.1 49 0 = Int32.ofNat n → i + r = 6 → K1 (hx_sA m 56 (six0 (m.1 56) n i)) → wX12_person_L111 K K1 (r + 1) (Int32.ofNat i) m := by
  intro r
  induction r with
  | zero =>
    intro i m hm e h
    obtain rfl : i = 6 := by omega
    unfold wX12_person_L111
    rw [six0_e, sA_self] at h
    exact selT (by decide) h
  | succ r ih =>
    intro i m hm e h
    have e6 : 6 * Int32.ofNat n + Int32.ofNat i = Int32.ofNat (6 * n + i) := by
      rw [← n32_add, ← n32_mul]; rfl
    unfold wX12_person_L111
    rw [hm, e6, n32_nat (by omega), n32_add1]
    refine selF (fun z => by have := (n32_le (a := 6) (by omega) (by omega)).mp z; omega) ⟨n32_in (by omega) (by omega), ih (i + 1) _ (by simpa [hm_sI] using hm) (by omega) ?_⟩
    have := sA_sI (μ := m) (c := 56) (j := 6 * n + i) (v := 0) (g := fun f => six0 f n (i + 1))
    rw [this, six0_s (by omega)]
    exact h
def hw_join (a : hw_T) (u v w : Int32) : hw_T := ((a.1.1 + 1, a.1.2.1, a.1.2.2), hx_sI (hx_sA (hx_sI (hx_sI (hx_sI (hx_sI (hx_sI a.2 0 a.1.1 u) 1 a.1.1 v) 2 a.1.1 0) 3 a.1.1 0) 4 a.1.1 0) 5 (six0 (a.2.1 5) a.1.1 0)) 6 a.1.1 w)
theorem WF_join {S : Nat} {a : hw_T} (h : WF S a) (hn : a.1.1 < 16) (hs : a.1.2.1 = 0) {u v w : Int32} (hu : 0 ≤ u ∧ u ≤ 9) (hv : 0 ≤ v ∧ v ≤ 99) (hw : 0 ≤ w ∧ w ≤ 60) : WF S (hw_join a u v w) := by
  obtain ⟨h1, h2, h3, h4, h5, h6, h7, h8⟩ := h
  unfold hw_join
  refine ⟨⟨by simp; omega, h1.2.1, h1.2.2.1, by simp, by simp⟩, by simpa [hm_sI, hm_sA] using h2, ?_, ?_, ?_, by simpa [hm_sI, hm_sA] using h6, by simpa [hm_sI, hm_sA] using h7, by simpa [hm_sI, hm_sA] using h8⟩
  · intro p hp
    simp at hp
    by_cases hpn : p = a.1.1
    · subst hpn
      simp [hm_sI, hm_sA, hu, hv, hs]
    · have := h3 p (by omega)
      simpa [hm_sI, hm_sA, hpn] using this
  · intro p hp
    simp at hp
    by_cases hpn : p = a.1.1
    · subst hpn
      refine ⟨0, Nat.two_pow_pos _, by simp [hm_sI, hm_sA]⟩
    · obtain ⟨x, hx, ex⟩ := h4 p (by omega)
      refine ⟨x, ?_, by simpa [hm_sI, hm_sA, hpn] using ex⟩
      simp [Nat.pow_succ]
      omega
  · intro t p ht hp
    simp at hp ht
    have ht0 : t = 0 := by omega
    subst ht0
    by_cases hpn : p = a.1.1
    · subst hpn
      simpa [hm_sI, hm_sA] using hw
    · have := h5 0 p (by omega) (by omega)
      simpa [hm_sI, hm_sA, hpn] using this
theorem six0_lt {f : Nat → Int32} {n k : Nat} : six0 f n 0 k = if 6 * n ≤ k ∧ k < 6 * n + 6 then 0 else f k := rfl
theorem sumN_upd {f : Nat → Int32} {n : Nat} {v : Int32} : ∀ {k : Nat}, k ≤ n → sumN (fun q => if q = n then v else f q) k = sumN f k := by
  intro k hk
  exact sumN_eq fun i hi => by rw [if_neg (by omega)]
theorem CW_join {a : hw_T} {μ m : hx_M} (h : CW 0 a μ) (hs : a.1.2.1 = 0) {u v w : Int32} (hm : m = hx_sA (hx_sI (hx_sI (hx_sI (hx_sI (hx_sI (hx_sI μ 8 0 (Int32.ofNat (a.1.1 + 1))) 9 a.1.1 u) 10 a.1.1 v) 11 a.1.1 0) 12 a.1.1 0) 13 a.1.1 0) 14 (six0 (μ.1 14) a.1.1 0)) : CW 0 (hw_join a u v w) (hx_sI (hx_sI m 16 a.1.1 w) 17 0 (m.1 17 0 + w)) := by
  subst hm
  obtain ⟨h1, h2, h3, h4, h5, h6, h7, h8, h9, h10⟩ := h
  unfold hw_join
  refine ⟨?_, by simpa [hm_sI, hm_sA, hx_sI, hx_sA] using h2, ?_, ?_, ?_, ?_, ?_, by simpa [hm_sI, hm_sA] using h8, by simpa [hm_sI, hm_sA] using h9, by simpa [hm_sI, hm_sA] using h10⟩
  · simpa [hm_sI, hm_sA] using h1.2
  · intro p hp
    simp at hp
    by_cases hpn : p = a.1.1
    · subst hpn
      simp [hm_sI, hm_sA]
    · have := h3 p (by omega)
      simpa [hm_sI, hm_sA, hpn] using this
  · intro k hk
    simp at hk
    simp [hm_sI, hm_sA, six0_lt]
    by_cases hk2 : 6 * a.1.1 ≤ k ∧ k < 6 * a.1.1 + 6
    · rw [if_pos hk2, if_pos hk2]
    · rw [if_neg hk2, if_neg hk2]
      exact h4 k (by omega)
  · intro t p ht hp
    simp at hp ht
    have ht0 : t = 0 := by omega
    subst ht0
    by_cases hpn : p = a.1.1
    · subst hpn
      simp [hm_sI, hm_sA]
    · have := h5 0 p (by omega) (by omega)
      simpa [hm_sI, hm_sA, hpn] using this
  · intro t ht
    simp at ht
    have ht0 : t = 0 := by omega
    subst ht0
    have e := h6 0 (by omega)
    unfold hw_sum at e ⊢
    simp [hm_sI, hm_sA] at e ⊢
    show _ = sumN _ _ + _
    rw [sumN_upd (Nat.le_refl _)]
    dsimp only
    rw [if_pos rfl, e]
  · intro t p h1 h2
    simp at h2
    omega
theorem MW_join {a : hw_T} {μ m : hx_M} (h : MW a μ) (hs : a.1.2.1 = 0) {u v w : Int32} (hm : m = hx_sA (hx_sI (hx_sI (hx_sI (hx_sI (hx_sI (hx_sI μ 50 a.1.1 u) 51 a.1.1 v) 57 a.1.1 w) 52 a.1.1 0) 53 a.1.1 0) 54 a.1.1 0) 56 (six0 (μ.1 56) a.1.1 0)) : MW (hw_join a u v w) (hx_sI m 49 0 (Int32.ofNat (a.1.1 + 1))) := by
  subst hm
  obtain ⟨h1, h2, h3, h4, h5, h6, h7, h8, h9, h10, h11⟩ := h
  unfold hw_join
  refine ⟨?_, by simpa [hm_sI, hm_sA, hm_sI2, hm_sA2] using h2, ?_, ?_, ?_, ?_, by simpa [hm_sI, hm_sA] using h7, by simpa [hm_sI, hm_sA] using h8, by simpa [hm_sI, hm_sA] using h9, by simpa [hm_sI, hm_sA] using h10, by simpa [hm_sI, hm_sA] using h11⟩
  · simpa [hm_sI, hm_sA] using h1.2
  · intro p hp
    simp at hp
    by_cases hpn : p = a.1.1
    · subst hpn
      simp [hm_sI, hm_sA]
    · have := h3 p (by omega)
      simpa [hm_sI, hm_sA, hpn] using this
  · intro k hk
    simp at hk
    simp [hm_sI, hm_sA, six0_lt]
    by_cases hk2 : 6 * a.1.1 ≤ k ∧ k < 6 * a.1.1 + 6
    · rw [if_pos hk2, if_pos hk2]
    · rw [if_neg hk2, if_neg hk2]
      exact h4 k (by omega)
  · intro t p ht hp
    simp at hp ht
    have ht0 : t = 0 := by omega
    subst ht0
    by_cases hpn : p = a.1.1
    · subst hpn
      simp [hm_sI, hm_sA]
    · have := h5 0 p (by omega) (by omega)
      simpa [hm_sI, hm_sA, hpn] using this
  · intro t p h1 h2
    simp at h2
    omega
theorem op_person (Λ : hx_L) (μ : hx_M) (a1 a2 a3 : Int32) (h : hI Λ μ) : wL_0 Λ μ a1 a2 a3 hI := by
  obtain ⟨hF, hM, h15, a, ls, fo, is, w, hc, hm, ht, hl, hi⟩ := id h
  have hn := w.n
  have hs := w.s
  unfold wL_0 wX11_person wX11_person_J34
  have hno : ∀ K : Int32 → Prop, True := fun _ => trivial
  by_cases h1 : 0 ≤ a1 ∧ a1 ≤ 9
  · refine t_withinY h1 (sel1 ?_)
    by_cases h2 : 0 ≤ a2 ∧ a2 ≤ 99
    · refine t_withinY h2 (sel1 ?_)
      by_cases h3 : 0 ≤ a3 ∧ a3 ≤ 60
      · refine t_withinY h3 (sel1 ?_)
        unfold wX11_person_J35_13 wX12_person
        refine sel1 ?_
        by_cases h4 : a.1.2.1 = 0
        · have hs0 : μ.1 7 7 = 0 := by rw [hc.s, h4]; rfl
          have hs0' : μ.1 49 1 = 0 := by rw [hm.s, h4]; rfl
          refine selT hs0 ?_
          unfold wX4_join
          rw [hc.n, n32_nat (by omega), n32_add1]
          by_cases h5 : a.1.1 < 16
          · refine selT ((n32_lt (b := 16) (by omega) (by omega)).mpr h5) ?_
            have v16 : vp_in (Int32.ofNat a.1.1) 16 := n32_in (by omega) (by omega)
            refine ⟨v16, v16, v16, v16, ?_⟩
            rintro m rfl
            refine ⟨v16, 7, join_L64 h5 6 0 _ (by omega) ?_⟩
            have ne1 : ¬ Int32.ofNat a.1.1 = -1 := fun z => by
              have := (n32_le (a := 0) (b := a.1.1) (by omega) (by omega)).mpr (by omega)
              rw [z] at this
              exact absurd this (by decide)
            refine selF ne1 ⟨n32_in (by omega) (by omega), by unfold vp_in; decide, ?_⟩
            rintro x rfl
            refine ⟨by unfold vp_in; decide, ?_⟩
            have z0 : (0 : Int32).toNatClampNeg = 0 := rfl
            rw [z0, n32_nat (by omega)]
            have hcj := CW_join (w := a3) hc h4 (u := a1) (v := a2) (m := _) rfl
            have e14 : (hx_sI (hx_sI (hx_sI (hx_sI (hx_sI (hx_sI μ 8 0 (Int32.ofNat (a.1.1 + 1))) 9 a.1.1 a1) 10 a.1.1 a2) 11 a.1.1 0) 12 a.1.1 0) 13 a.1.1 0).1 14 = μ.1 14 := rfl
            rw [e14]
            generalize hm0 : hx_sI (hx_sI (hx_sA (hx_sI (hx_sI (hx_sI (hx_sI (hx_sI (hx_sI μ 8 0 (Int32.ofNat (a.1.1 + 1))) 9 a.1.1 a1) 10 a.1.1 a2) 11 a.1.1 0) 12 a.1.1 0) 13 a.1.1 0) 14 (six0 (μ.1 14) a.1.1 0)) 16 a.1.1 a3) 17 0 ((hx_sA (hx_sI (hx_sI (hx_sI (hx_sI (hx_sI (hx_sI μ 8 0 (Int32.ofNat (a.1.1 + 1))) 9 a.1.1 a1) 10 a.1.1 a2) 11 a.1.1 0) 12 a.1.1 0) 13 a.1.1 0) 14 (six0 (μ.1 14) a.1.1 0)).1 17 0 + a3) = m0
            have k1 : keepC μ m0 := by
              rw [← hm0]
              exact ((((((((keepC.rf.sI (by omega)).sI (by omega)).sI (by omega)).sI (by omega)).sI (by omega)).sI (by omega)).sA (by omega)).sI (by omega)).sI (by omega)
            have hcj0 : CW 0 (hw_join a a1 a2 a3) m0 := by rw [← hm0]; exact hcj
            have hm1 := hm.kC k1
            refine t_isInY h1 (sel1 (t_isInY h2 (sel1 (t_isInY h3 (sel1 ?_)))))
            rw [hm1.n, hm1.s, h4]
            refine selF (fun z => by have := (n32_eq (b := 16) (by omega) (by omega)).mp z; omega) (selT (by decide) ⟨v16, v16, n32_in (by omega) (by omega), v16, ?_⟩)
            rw [n32_nat (by omega)]
            rintro m rfl
            have e49 : (hx_sI (hx_sI (hx_sI (hx_sI m0 50 a.1.1 a1) 51 a.1.1 a2) 57 a.1.1 a3) 52 a.1.1 0).1 49 0 = Int32.ofNat a.1.1 := hm1.n
            rw [e49, n32_nat (by omega)]
            refine ⟨v16, v16, 7, person_L111 h5 6 0 _ ?_ (by omega) ?_⟩
            · exact hm1.n
            · have e50 : (hx_sA (hx_sI (hx_sI (hx_sI (hx_sI (hx_sI (hx_sI m0 50 a.1.1 a1) 51 a.1.1 a2) 57 a.1.1 a3) 52 a.1.1 0) 53 a.1.1 0) 54 a.1.1 0) 56 (six0 ((hx_sI (hx_sI (hx_sI (hx_sI (hx_sI (hx_sI m0 50 a.1.1 a1) 51 a.1.1 a2) 57 a.1.1 a3) 52 a.1.1 0) 53 a.1.1 0) 54 a.1.1 0).1 56) a.1.1 0)).1 49 0 = Int32.ofNat a.1.1 := hm1.n
              have e51 : (hx_sI (hx_sI (hx_sI (hx_sI (hx_sI (hx_sI m0 50 a.1.1 a1) 51 a.1.1 a2) 57 a.1.1 a3) 52 a.1.1 0) 53 a.1.1 0) 54 a.1.1 0).1 56 = m0.1 56 := rfl
              dsimp only
              rw [e50, e51, n32_add1]
              have k2 : keepM m0 (hx_sI (hx_sA (hx_sI (hx_sI (hx_sI (hx_sI (hx_sI (hx_sI m0 50 a.1.1 a1) 51 a.1.1 a2) 57 a.1.1 a3) 52 a.1.1 0) 53 a.1.1 0) 54 a.1.1 0) 56 (six0 (m0.1 56) a.1.1 0)) 49 0 (Int32.ofNat (a.1.1 + 1))) :=
                (((((((keepM.rf.sI (by omega) (by omega)).sI (by omega) (by omega)).sI (by omega) (by omega)).sI (by omega) (by omega)).sI (by omega) (by omega)).sI (by omega) (by omega)).sA (by omega)).sI (by omega) (fun _ => keepM_n (by omega))
              refine ⟨?_, hI.q (a := a) hF hM h15 ht hl hi k1 k2 (WF_join w h5 h4 h1 h2 h3) (hcj0.kM k2) (MW_join hm1 h4 rfl)⟩
              rw [← n32_add1, Int32.add_sub_cancel]
          · have h5' : a.1.1 = 16 := by omega
            refine selF (fun z => by have := (n32_lt (b := 16) (by omega) (by omega)).mp z; omega) (selT rfl (t_isInY h1 (sel1 (t_isInY h2 (sel1 (t_isInY h3 (sel1 (selT ?_ ⟨rfl, h⟩))))))))
            rw [hm.n, h5']; rfl
        · have hs0 : ¬ μ.1 7 7 = 0 := by rw [hc.s]; exact fun z => h4 ((n32_eq (b := 0) (by omega) (by omega)).mp z)
          have hs0' : ¬ μ.1 49 1 ≤ 0 := by rw [hm.s]; exact fun z => by have := (n32_le (b := 0) (by omega) (by omega)).mp z; omega
          refine selF hs0 (t_isInY h1 (sel1 (t_isInY h2 (sel1 (t_isInY h3 (sel1 ?_))))))
          exact ⟨fun _ => ⟨rfl, h⟩, fun _ => selF hs0' ⟨rfl, h⟩⟩
      · refine t_withinN h3 (sel0 ?_)
        unfold wX11_person_J35 wX12_person
        exact sel0 (t_isInY h1 (sel1 (t_isInY h2 (sel1 (t_isInN h3 (sel0 ⟨rfl, h⟩))))))
    · refine t_withinN h2 (sel0 ?_)
      unfold wX11_person_J35 wX12_person
      exact sel0 (t_isInY h1 (sel1 (t_isInN h2 (sel0 ⟨rfl, h⟩))))
  · refine t_withinN h1 (sel0 ?_)
    unfold wX11_person_J35 wX12_person
    exact sel0 (t_isInN h1 (sel0 ⟨rfl, h⟩))
