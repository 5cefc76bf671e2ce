/-! layer 2: held, plate -/
theorem ab_neg (d : Int32) : ab (0 - d) = ab d := by
  unfold ab
  have e0 : (0 : Int32).toInt = 0 := rfl
  have b1 := Int32.le_toInt d
  have b2 := Int32.toInt_lt d
  by_cases hm : d = Int32.minValue
  · subst hm; decide
  · have hm2 : d.toInt ≠ -2 ^ 31 := fun z => hm (Int32.toInt_inj.mp (z.trans (by decide)))
    have hs : (0 - d).toInt = - d.toInt := by
      rw [Int32.toInt_sub, e0, Int.zero_sub]
      apply Int.bmod_eq_of_le <;> omega
    by_cases h1 : 0 ≤ d
    · rw [if_pos h1]
      by_cases h2 : 0 ≤ 0 - d
      · rw [if_pos h2]
        rw [Int32.le_iff_toInt_le, e0] at h1 h2
        apply Int32.toInt_inj.mp
        omega
      · rw [if_neg h2]; grind
    · rw [if_neg h1]
      by_cases h2 : 0 ≤ 0 - d
      · rw [if_pos h2]
      · rw [Int32.le_iff_toInt_le, e0] at h1 h2
        omega
theorem ab_sym (x y : Int32) : ab (x - y) = ab (y - x) := by
  rw [← ab_neg (y - x)]
  congr 1
  grind
theorem op_held (Λ : hx_L) (μ : hx_M) (a1 a2 : Int32) (h : hI Λ μ) : wL_28 Λ μ a1 a2 hI := by
  obtain ⟨hF, hM, h15, a, ls, fo, is, w, hc, hm, ht, hl, hi⟩ := id h
  have hft := w.ft
  have hs3 := w.s
  unfold wL_28 wX11_held
  rw [hc.ft]
  by_cases h1 : ∃ k, k < a.1.2.2 ∧ a1 = Int32.ofNat k
  · have h1' := (n32_pred (by omega)).mpr h1
    obtain ⟨k, hk, rfl⟩ := h1
    have vk : vp_in (Int32.ofNat k) 20 := n32_in (by omega) (by omega)
    have h0 := w.fn (by omega)
    obtain ⟨c1, c2, c3⟩ := hc.told hk
    obtain ⟨m1, m2, m3⟩ := hm.told hk
    refine t_withinY h1' (sel1 ?_)
    rw [n32_nat (by omega), c1, c2, c3]
    by_cases h2 : 0 ≤ a2 ∧ a2 ≤ 3
    · obtain ⟨q, rfl, hq⟩ := n32_of (hi := 3) h2.1 h2.2 (by omega)
      obtain ⟨e0, e1⟩ := w.2.2.2.2.2.2.2 k hk
      obtain ⟨x, ex, hx⟩ := n32_of (hi := 250) e0 e1 (by omega)
      rw [ex] at m1 ⊢
      refine t_withinY h2 (seln1 ⟨vk, ?_⟩)
      have q4 : q = 0 ∨ q = 1 ∨ q = 2 ∨ q = 3 := by omega
      rcases q4 with rfl | rfl | rfl | rfl
      · refine selF (by decide) (selE rfl ⟨vk, ?_⟩)
        unfold wX12_held
        rw [hm.ft, n32_nat (by omega), m1, m2]
        exact t_isInY h1' (sel1 (t_isInY h2 (seln1 (selF (by decide) (selE rfl ⟨vk, rfl, h⟩)))))
      · refine selF (by decide) (selN (by decide) ?_)
        unfold wX12_held
        rw [hm.ft, n32_nat (by omega), m1, m2]
        exact t_isInY h1' (sel1 (t_isInY h2 (seln1 (selF (by decide) (selN (by decide) ⟨vk, rfl, h⟩)))))
      all_goals
        refine selT (by decide) ?_
        by_cases hxs : x ≤ a.1.2.1
      · refine t_hasSeasonY hc w.up hxs (seln1 (selE rfl ⟨vk, ?_⟩))
        unfold wX11_held_J101
        refine lineC hc w.up hxs h0 ?_
        rintro y rfl
        unfold wX12_held wX12_held_J96
        rw [hm.ft, n32_nat (by omega), m1, m2, hm.s]
        refine t_isInY h1' (sel1 (t_isInY h2 (seln1 (selT (by decide) ⟨vk, selT ((n32_le (by omega) (by omega)).mpr hxs) ⟨vk, lineM hm w.up hxs h0 (selE rfl ⟨vk, ?_⟩)⟩⟩))))
        rintro y rfl
        exact ⟨ab_sym _ _, h⟩
      · refine t_hasSeasonN hc w.up (fun ⟨t, ht, e⟩ => hxs (by rw [(n32_eq (by omega) (by omega)).mp e]; exact ht)) (seln0 ?_)
        unfold wX12_held
        rw [hm.ft, n32_nat (by omega), m1, hm.s]
        exact t_isInY h1' (sel1 (t_isInY h2 (seln1 (selT (by decide) ⟨vk, selF (fun z => hxs ((n32_le (by omega) (by omega)).mp z)) ⟨rfl, h⟩⟩))))
      · refine t_hasSeasonY hc w.up hxs (seln1 (selN (by decide) ⟨vk, ?_⟩))
        unfold wX11_held_J101
        refine lineC hc w.up hxs h0 ?_
        rintro y rfl
        unfold wX12_held wX12_held_J96
        rw [hm.ft, n32_nat (by omega), m1, m3, hm.s]
        refine t_isInY h1' (sel1 (t_isInY h2 (seln1 (selT (by decide) ⟨vk, selT ((n32_le (by omega) (by omega)).mpr hxs) ⟨vk, lineM hm w.up hxs h0 (selN (by decide) ⟨vk, ?_⟩)⟩⟩))))
        rintro y rfl
        exact ⟨ab_sym _ _, h⟩
      · refine t_hasSeasonN hc w.up (fun ⟨t, ht, e⟩ => hxs (by rw [(n32_eq (by omega) (by omega)).mp e]; exact ht)) (seln0 ?_)
        unfold wX12_held
        rw [hm.ft, n32_nat (by omega), m1, hm.s]
        exact t_isInY h1' (sel1 (t_isInY h2 (seln1 (selT (by decide) ⟨vk, selF (fun z => hxs ((n32_le (by omega) (by omega)).mp z)) ⟨rfl, h⟩⟩))))
    · refine t_withinN h2 (seln0 ?_)
      unfold wX12_held
      rw [hm.ft]
      exact t_isInY h1' (sel1 (t_isInN h2 (seln0 ⟨rfl, h⟩)))
  · have h1' : ¬ (0 ≤ a1 ∧ a1 ≤ Int32.ofNat a.1.2.2 - 1) := fun z => h1 ((n32_pred (by omega)).mp z)
    refine t_withinN h1' (sel0 ?_)
    unfold wX12_held
    rw [hm.ft]
    exact t_isInN h1' (sel0 ⟨rfl, h⟩)
