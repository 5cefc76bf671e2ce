/-! layer 2: followed -/
def sh_B (a : hw_T) (h s : Nat) : Bool := !decide (a.2.1 10 (4 * s + h) = -1)
def fo_B (a : hw_T) (h s : Nat) : Bool := sh_B a h s && decide (ab (hw_line a (s + 1) - 100 * a.2.1 10 (4 * s + h)) < ab (hw_line a s - 100 * a.2.1 10 (4 * s + h)))
section FO
variable {a : hw_T} {μ : hx_M} {h s : Nat} {K : Int32 → Prop}
theorem shownC (hc : CW 0 a μ) (w : WF 300 a) (hs : s ≤ a.1.2.1) (hh : h < 4) (k : K (bI (sh_B a h s))) : wX8_isShown μ (Int32.ofNat h) (Int32.ofNat s) K := by
  unfold wX8_isShown
  refine houseC hc w hs hh ⟨fun z => ?_, fun z => ?_⟩
  · unfold sh_B at k; rw [decide_eq_true z] at k; exact k
  · unfold sh_B at k; rw [decide_eq_false z] at k; exact k
theorem followC (hc : CW 0 a μ) (w : WF 300 a) (hs : s < a.1.2.1) (hh : h < 4) (k : K (bI (fo_B a h s))) : wX8_isFollowed μ (Int32.ofNat h) (Int32.ofNat s) K := by
  have h0 := w.sn (by omega)
  unfold fo_B at k
  unfold wX8_isFollowed
  refine houseC hc w (by omega) hh (shownC hc w (by omega) hh ?_)
  cases h1 : sh_B a h s with
  | false => rw [h1] at k; exact selT rfl k
  | true =>
    rw [h1, Bool.true_and] at k
    refine selF (by decide) ?_
    rw [n32_add1]
    refine lineC hc w (by omega) h0 ?_
    rintro x rfl
    refine lineC hc w (by omega) h0 ?_
    rintro x rfl
    refine ⟨fun z => ?_, fun z => ?_⟩
    · have z' : ab (hw_line a s - 100 * a.2.1 10 (4 * s + h)) ≤ ab (hw_line a (s + 1) - 100 * a.2.1 10 (4 * s + h)) := z
      rw [decide_eq_false (Int32.not_lt.mpr z')] at k; exact k
    · have z' : ¬ ab (hw_line a s - 100 * a.2.1 10 (4 * s + h)) ≤ ab (hw_line a (s + 1) - 100 * a.2.1 10 (4 * s + h)) := z
      rw [decide_eq_true (Int32.not_le.mp z')] at k; exact k
theorem followM (hc : MW a μ) (w : WF 300 a) (hs : s < a.1.2.1) (hh : h < 4) (h1 : sh_B a h s = true) (k : K (bI (fo_B a h s))) : wX12_isFollowed μ (Int32.ofNat h) (Int32.ofNat s) K := by
  have h0 := w.sn (by omega)
  unfold fo_B at k
  unfold wX12_isFollowed
  refine houseM hc w (by omega) hh ?_
  rw [h1, Bool.true_and] at k
  rw [n32_add1]
  refine lineM hc w (by omega) h0 ?_
  rintro x rfl
  refine lineM hc w (by omega) h0 ?_
  rintro x rfl
  refine ⟨fun z => ?_, fun z => ?_⟩
  · have z' : ab (hw_line a s - 100 * a.2.1 10 (4 * s + h)) ≤ ab (hw_line a (s + 1) - 100 * a.2.1 10 (4 * s + h)) := z
    rw [decide_eq_false (Int32.not_lt.mpr z')] at k; exact k
  · have z' : ¬ ab (hw_line a s - 100 * a.2.1 10 (4 * s + h)) ≤ ab (hw_line a (s + 1) - 100 * a.2.1 10 (4 * s + h)) := z
    rw [decide_eq_true (Int32.not_le.mp z')] at k; exact k
theorem shown_no (z : a.2.1 10 (4 * s + h) = -1) : sh_B a h s = false := by unfold sh_B; rw [decide_eq_true z]; rfl
theorem shown_yes (z : ¬ a.2.1 10 (4 * s + h) = -1) : sh_B a h s = true := by unfold sh_B; rw [decide_eq_false z]; rfl
theorem followed_L4 (hc : CW 0 a μ) (w : WF 300 a) (hh : h < 4) : ∀ (r s : Nat) (acc : Int32), s + r = a.1.2.1 → K (acc + sumR (fun s => bI (fo_B a h s)) s r) → wX8_followedSeasons_L4 μ (Int32.ofNat h) K (r + 1) acc (Int32.ofNat s) := by
  have hs3 := w.s
  intro r
  induction r with
  | zero =>
    intro s acc e k
    obtain rfl : s = a.1.2.1 := by omega
    unfold wX8_followedSeasons_L4
    rw [hc.s]
    unfold sumR at k
    rw [Int32.add_zero] at k
    exact selT (Int32.le_refl _) k
  | succ r ih =>
    intro s acc e k
    unfold sumR at k
    have hi := fun acc' => ih (s + 1) acc' (by omega)
    rw [← n32_add1] at hi
    unfold wX8_followedSeasons_L4 wX8_followedSeasons_J27
    rw [hc.s]
    refine selF (fun z => by have := (n32_le (by omega) (by omega)).mp z; omega) (followC hc w (by omega) hh ?_)
    cases h1 : fo_B a h s with
    | false =>
      rw [h1, bI_f, Int32.zero_add] at k
      exact selT rfl (hi _ k)
    | true =>
      rw [h1, bI_t, ← Int32.add_assoc] at k
      exact selF (by decide) (hi _ k)
theorem shown_L4 (hc : CW 0 a μ) (w : WF 300 a) (hh : h < 4) : ∀ (r s : Nat) (acc : Int32), s + r = a.1.2.1 → K (acc + sumR (fun s => bI (sh_B a h s)) s r) → wX8_shownSeasons_L4 μ (Int32.ofNat h) K (r + 1) acc (Int32.ofNat s) := by
  have hs3 := w.s
  intro r
  induction r with
  | zero =>
    intro s acc e k
    obtain rfl : s = a.1.2.1 := by omega
    unfold wX8_shownSeasons_L4
    rw [hc.s]
    unfold sumR at k
    rw [Int32.add_zero] at k
    exact selT (Int32.le_refl _) k
  | succ r ih =>
    intro s acc e k
    unfold sumR at k
    have hi := fun acc' => ih (s + 1) acc' (by omega)
    rw [← n32_add1] at hi
    unfold wX8_shownSeasons_L4 wX8_shownSeasons_J27
    rw [hc.s]
    refine selF (fun z => by have := (n32_le (by omega) (by omega)).mp z; omega) (shownC hc w (by omega) hh ?_)
    cases h1 : sh_B a h s with
    | false =>
      rw [h1, bI_f, Int32.zero_add] at k
      exact selT rfl (hi _ k)
    | true =>
      rw [h1, bI_t, ← Int32.add_assoc] at k
      exact selF (by decide) (hi _ k)
theorem one_1 {K : Int32 → Prop} (k : K 1) : wX12_one 1 K := t_one (by rw [b01_1 (by decide)]; exact k)
theorem one_0 {K : Int32 → Prop} (k : K 0) : wX12_one 0 K := t_one (by rw [b01_0 (by decide)]; exact k)
theorem followed_L25 {q : Nat} (hq : q < 2) (hc : MW a μ) (w : WF 300 a) (hh : h < 4) : ∀ (r s : Nat) (acc : Int32), s + r = a.1.2.1 → K (acc + sumR (fun s => bI (if q = 1 then sh_B a h s else fo_B a h s)) s r) → wX12_followed_L25 μ (Int32.ofNat h) (Int32.ofNat q) K (r + 1) acc (Int32.ofNat s) := by
  have hs3 := w.s
  intro r
  induction r with
  | zero =>
    intro s acc e k
    obtain rfl : s = a.1.2.1 := by omega
    unfold wX12_followed_L25
    rw [hc.s]
    unfold sumR at k
    rw [Int32.add_zero] at k
    exact selT (Int32.le_refl _) k
  | succ r ih =>
    intro s acc e k
    unfold sumR at k
    have hi := fun acc' => ih (s + 1) acc' (by omega)
    rw [← n32_add1] at hi
    have k0 : (if q = 1 then sh_B a h s else fo_B a h s) = false → wX12_followed_J65 μ K (wX12_followed_L25 μ (Int32.ofNat h) (Int32.ofNat q) K (r + 1)) (Int32.ofNat h) (Int32.ofNat q) (Int32.ofNat s) acc := by
      intro z
      rw [z, bI_f, Int32.zero_add] at k
      unfold wX12_followed_J65 wX12_followed_J66
      exact one_0 (by rw [Int32.add_zero]; exact hi _ k)
    have k1 : (if q = 1 then sh_B a h s else fo_B a h s) = true → wX12_followed_J61 μ K (wX12_followed_L25 μ (Int32.ofNat h) (Int32.ofNat q) K (r + 1)) (Int32.ofNat h) (Int32.ofNat q) (Int32.ofNat s) acc := by
      intro z
      rw [z, bI_t, ← Int32.add_assoc] at k
      unfold wX12_followed_J61 wX12_followed_J66_9
      exact one_1 (hi _ k)
    unfold wX12_followed_L25
    rw [hc.s]
    refine selF (fun z => by have := (n32_le (by omega) (by omega)).mp z; omega) (houseM hc w (by omega) hh ⟨fun z => k0 ?_, fun z => ⟨fun z2 => k1 ?_, fun z2 => followM hc w (by omega) hh (shown_yes z) ?_⟩⟩)
    · have := shown_no z
      split
      · exact this
      · unfold fo_B; rw [this]; rfl
    · rw [if_pos ((n32_eq (b := 1) (by omega) (by omega)).mp z2), shown_yes z]
    · have hq1 : ¬ q = 1 := fun hh => z2 (by rw [hh]; rfl)
      rw [if_neg hq1] at k0 k1
      cases h1 : fo_B a h s with
      | false => exact selT rfl (k0 h1)
      | true => exact selF (by decide) (k1 h1)
end FO
theorem op_followed (Λ : hx_L) (μ : hx_M) (a1 a2 : Int32) (h : hI Λ μ) : wL_20 Λ μ a1 a2 hI := by
  obtain ⟨hF, hM, h15, a, ls, fo, is, w, hc, hm, ht, hl, hi⟩ := id h
  unfold wL_20 wX11_followed wX12_followed
  by_cases h1 : 0 ≤ a1 ∧ a1 ≤ 3
  · obtain ⟨i, rfl, hi3⟩ := n32_of (hi := 3) h1.1 h1.2 (by omega)
    by_cases h2 : 0 ≤ a2 ∧ a2 ≤ 1
    · obtain ⟨q, rfl, hq⟩ := n32_of (hi := 1) h2.1 h2.2 (by omega)
      have ref : ∀ v, v = sumR (fun s => bI (if q = 1 then sh_B a i s else fo_B a i s)) 0 a.1.2.1 → wX12_followed μ (Int32.ofNat i) (Int32.ofNat q) (fun q => v = q ∧ hI Λ μ) := by
        intro v hv
        unfold wX12_followed
        exact t_isInY h1 (sel1 (t_isInY h2 (seln1 ⟨_, followed_L25 (by omega) hm w.up (by omega) a.1.2.1 0 0 (by omega) ⟨by rw [Int32.zero_add]; exact hv, h⟩⟩)))
      refine t_isHouseY h1 (sel1 (t_withinY h2 (seln1 ⟨fun z => ?_, fun z => ?_⟩)))
      · have : q = 1 := by
          have : q ≠ 0 := fun hh => z (by rw [hh]; rfl)
          omega
        subst this
        unfold wX8_shownSeasons
        exact ⟨_, shown_L4 hc w.up (by omega) a.1.2.1 0 0 (by omega) (ref _ (by rw [Int32.zero_add]; rfl))⟩
      · have : q = 0 := (n32_eq (b := 0) (by omega) (by omega)).mp z
        subst this
        unfold wX8_followedSeasons
        exact ⟨_, followed_L4 hc w.up (by omega) a.1.2.1 0 0 (by omega) (ref _ (by rw [Int32.zero_add]; rfl))⟩
    · exact t_isHouseY h1 (sel1 (t_withinN h2 (seln0 (t_isInY h1 (sel1 (t_isInN h2 (seln0 ⟨rfl, h⟩)))))))
  · exact t_isHouseN h1 (sel0 (t_isInN h1 (sel0 ⟨rfl, h⟩)))
