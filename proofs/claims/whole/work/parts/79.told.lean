/-! layer 2: held, plate, feed -/
theorem op_held (Λ : hx_L) (μ : hx_M) (a1 a2 : Int32) (h : hI Λ μ) : wL_28 Λ μ a1 a2 hI := by
  obtain ⟨hF, hM, h15, a, ls, fo, is, w, hc, hm, ht, hl, hi⟩ := id h
  have hft := w.ft
  have hs3 := w.s
  unfold wL_28 wX11_held wX12_held
  rw [hc.ft]
  by_cases h1 : ∃ k, k < a.1.2.2 ∧ a1 = Int32.ofNat k
  · have h1' := (n32_pred (by omega)).mpr h1
    obtain ⟨k, hk, rfl⟩ := h1
    have vk : vp_in (Int32.ofNat k) 20 := n32_in (by omega) (by omega)
    have h0 := w.fn (by omega)
    obtain ⟨c1, c2, c3⟩ := hc.told hk
    obtain ⟨m1, m2, m3⟩ := hm.told hk
    refine t_withinY h1' (sel1 ?_)
    rw [n32_nat (by omega), c1, c2, c3]
    by_cases h2 : 0 ≤ a2 ∧ a2 ≤ 3
    · have pre : ∀ v : Int32, ((2 ≤ a2 → (a.2.1 13 k ≤ μ.1 49 1 → wX12_lineAt μ (a.2.1 13 k) (fun r => (a2 ≠ 2 → v = ab (r - a.2.1 15 k)) ∧ (a2 = 2 → v = ab (r - a.2.1 14 k)))) ∧ (¬ a.2.1 13 k ≤ μ.1 49 1 → v = -1)) ∧ (¬ 2 ≤ a2 → (a2 ≠ 0 → v = a.2.1 13 k) ∧ (a2 = 0 → v = a.2.1 14 k))) → wX12_held μ (Int32.ofNat k) a2 (fun q => v = q ∧ hI Λ μ) := by
        intro v hv
        unfold wX12_held wX12_held_J96
        rw [hm.ft, n32_nat (by omega), m1, m2, m3]
        refine t_isInY h1' (sel1 (t_isInY h2 (seln1 ⟨fun z => ⟨vk, fun z2 => ⟨vk, ?_⟩, fun z2 => ⟨(hv.1 z).2 z2, h⟩⟩, fun z => ⟨fun z2 => ⟨vk, (hv.2 z).1 z2, h⟩, fun z2 => ⟨vk, (hv.2 z).2 z2, h⟩⟩⟩)))
        obtain ⟨e0, e1⟩ := w.2.2.2.2.2.2.2 k hk
        obtain ⟨x, ex, hx⟩ := n32_of (hi := 250) e0 e1 (by omega)
        have hle : x ≤ a.1.2.1 := by
          rw [ex, hm.s] at z2
          exact (n32_le (by omega) (by omega)).mp z2
        have hv1 := (hv.1 z).1 z2
        rw [ex] at hv1 ⊢
        have := w.up
        have hl2 : ∀ (R S : Int32 → Prop), (∀ x, R x → S x) → wX12_lineAt μ (Int32.ofNat x) R → R (hw_line a x) := by
          intro R S hRS hR
          sorry
        sorry
      sorry
    · exact t_withinN h2 (seln0 sorry)
  · sorry
