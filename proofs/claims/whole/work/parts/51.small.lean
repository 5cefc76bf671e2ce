/-! layer 2: the smallest methods -/
/-- 1 or 0 -/
def b01 (p : Prop) [Decidable p] : Int32 := if p then 1 else 0
theorem b01_bit (p : Prop) [Decidable p] : b01 p = 0 ∨ b01 p = 1 := by
  unfold b01
  by_cases h : p <;> simp [h]
theorem b01_ne {p : Prop} [Decidable p] : b01 p ≠ 0 ↔ p := by
  unfold b01
  by_cases h : p <;> simp [h]
theorem b01_z {p : Prop} [Decidable p] : b01 p = 0 ↔ ¬ p := by
  unfold b01
  by_cases h : p <;> simp [h]
theorem t_within {v lo hi : Int32} {K : Int32 → Prop} (h : K (b01 (lo ≤ v ∧ v ≤ hi))) : wX11_within v lo hi K := by
  unfold wX11_within
  unfold b01 at h
  refine ⟨fun a => ?_, fun a => ⟨fun b => ?_, fun b => ?_⟩⟩
  · rw [if_neg (fun z => Int32.not_lt.mpr z.1 a)] at h; exact h
  · rw [if_neg (fun z => Int32.not_lt.mpr z.2 b)] at h; exact h
  · rw [if_pos ⟨Int32.not_lt.mp a, Int32.not_lt.mp b⟩] at h; exact h
theorem t_isIn {v lo hi : Int32} {K : Int32 → Prop} (h : K (b01 (lo ≤ v ∧ v ≤ hi))) : wX12_isIn v lo hi K := t_within h
theorem t_isHouse {v : Int32} {K : Int32 → Prop} (h : K (b01 (0 ≤ v ∧ v ≤ 3))) : wX11_isHouse v K := t_within ⟨b01_bit _, h⟩
theorem t_one {v : Int32} {K : Int32 → Prop} (h : K (b01 (v ≠ 0))) : wX12_one v K := by
  unfold wX12_one
  unfold b01 at h
  refine ⟨fun a => ?_, fun a => ?_⟩
  · rw [if_neg (fun z => z a)] at h; exact h
  · rw [if_pos a] at h; exact h
theorem t_isPerson {μ : hx_M} {v : Int32} {K : Int32 → Prop} (h : K (b01 (0 ≤ v ∧ v ≤ μ.1 49 0 - 1))) : wX12_isPerson μ v K := t_isIn ⟨b01_bit _, h⟩
