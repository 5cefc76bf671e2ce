/-! layer 2: the calls that set -/
theorem hm_sI2' {μ : hx_M} {k j a b : Nat} {v : Int32} : (hx_sI μ k j v).2 a b = μ.2 a b := rfl
theorem CW_money {a : hw_T} {μ : hx_M} (h : CW 0 a μ) (v : Int32) : CW 0 (a.1, hx_sI a.2 11 a.1.2.1 v) (hx_sI μ 20 a.1.2.1 v) := by
  obtain ⟨h1, h2, h3, h4, h5, h6, h7, h8, h9, h10⟩ := h
  refine ⟨by simpa [hm_sI] using h1, by simpa [hm_sI, hm_sI2] using h2, by simpa [hm_sI] using h3, by simpa [hm_sI] using h4, by simpa [hm_sI] using h5, by simpa [hm_sI, hw_sum] using h6, by simpa [hm_sI] using h7, by simpa [hm_sI] using h8, ?_, by simpa [hm_sI] using h10⟩
  intro t ht
  have := h9 t ht
  simp [hm_sI] at this ⊢
  grind
theorem MW_money {a : hw_T} {μ : hx_M} (h : MW a μ) (v : Int32) : MW (a.1, hx_sI a.2 11 a.1.2.1 v) (hx_sI μ 49 2 v) := by
  obtain ⟨h1, h2, h3, h4, h5, h6, h7, h8, h9, h10, h11⟩ := h
  refine ⟨by simpa [hm_sI] using h1, by simpa [hm_sI, hm_sI2] using h2, by simpa [hm_sI] using h3, by simpa [hm_sI] using h4, by simpa [hm_sI] using h5, by simpa [hm_sI] using h6, by simpa [hm_sI] using h7, by simpa [hm_sI] using h8, by simp [hm_sI], ?_, by simpa [hm_sI] using h11⟩
  intro t ht
  have := h10 t ht
  simp at ht
  simp [hm_sI] at this ⊢
  grind
theorem WF_money {S : Nat} {a : hw_T} (h : WF S a) {v : Int32} (hv : 0 ≤ v ∧ v ≤ 99) : WF S (a.1, hx_sI a.2 11 a.1.2.1 v) := by
  obtain ⟨h1, h2, h3, h4, h5, h6, h7, h8⟩ := h
  refine ⟨h1, by simpa [hm_sI] using h2, by simpa [hm_sI] using h3, by simpa [hm_sI] using h4, by simpa [hm_sI] using h5, by simpa [hm_sI] using h6, ?_, by simpa [hm_sI] using h8⟩
  intro t ht
  have := h7 t ht
  simp [hm_sI] at this ⊢
  grind
