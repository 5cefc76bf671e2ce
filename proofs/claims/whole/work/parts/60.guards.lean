/-! layer 2: guards and choices -/
theorem selT {c A B : Prop} (hc : c) (h : A) : (c → A) ∧ (¬ c → B) := ⟨fun _ => h, fun z => absurd hc z⟩
theorem selF {c A B : Prop} (hc : ¬ c) (h : B) : (c → A) ∧ (¬ c → B) := ⟨fun z => absurd z hc, fun _ => h⟩
theorem selE {x y : Int32} {A B : Prop} (hc : x = y) (h : B) : (x ≠ y → A) ∧ (x = y → B) := ⟨fun z => absurd hc z, fun _ => h⟩
theorem selN {x y : Int32} {A B : Prop} (hc : x ≠ y) (h : A) : (x ≠ y → A) ∧ (x = y → B) := ⟨fun _ => h, fun z => absurd z hc⟩
theorem sel0 {A B : Prop} (h : A) : ((0 : Int32) = 0 → A) ∧ (¬ (0 : Int32) = 0 → B) := selT rfl h
theorem sel1 {A B : Prop} (h : B) : ((1 : Int32) = 0 → A) ∧ (¬ (1 : Int32) = 0 → B) := selF (by decide) h
theorem seln0 {A B : Prop} (h : B) : ((0 : Int32) ≠ 0 → A) ∧ ((0 : Int32) = 0 → B) := selE rfl h
theorem seln1 {A B : Prop} (h : A) : ((1 : Int32) ≠ 0 → A) ∧ ((1 : Int32) = 0 → B) := selN (by decide) h
theorem b01_1 {p : Prop} [Decidable p] (h : p) : b01 p = 1 := if_pos h
theorem b01_0 {p : Prop} [Decidable p] (h : ¬ p) : b01 p = 0 := if_neg h
theorem n32_pred {n : Nat} {v : Int32} (hn : n < 2 ^ 30) : (0 ≤ v ∧ v ≤ Int32.ofNat n - 1) ↔ ∃ p, p < n ∧ v = Int32.ofNat p := by
  have hs := n32_sub (a := n) (b := 1) hn (by decide)
  have z1 : Int32.ofNat 1 = 1 := rfl
  rw [z1] at hs
  constructor
  · rintro ⟨h0, h1⟩
    have h1' := Int32.le_iff_toInt_le.mp h1
    have h0' := Int32.le_iff_toInt_le.mp h0
    have z0 : (0 : Int32).toInt = 0 := rfl
    rw [hs] at h1'
    rw [z0] at h0'
    refine ⟨v.toInt.toNat, by omega, ?_⟩
    rw [← Int32.toInt_inj, Int32.toInt_ofNat_of_lt (by omega)]
    omega
  · rintro ⟨p, hp, rfl⟩
    refine ⟨(n32_le (a := 0) (by omega) (by omega)).mpr (by omega), Int32.le_iff_toInt_le.mpr ?_⟩
    rw [hs, Int32.toInt_ofNat_of_lt (by omega)]
    omega
theorem n32_upto {n : Nat} {v : Int32} (hn : n < 2 ^ 30) : (0 ≤ v ∧ v ≤ Int32.ofNat n) ↔ ∃ p, p ≤ n ∧ v = Int32.ofNat p := by
  constructor
  · rintro ⟨h0, h1⟩
    obtain ⟨p, e, hp⟩ := n32_of h0 h1 (by omega)
    exact ⟨p, hp, e⟩
  · rintro ⟨p, hp, rfl⟩
    exact ⟨(n32_le (a := 0) (by omega) (by omega)).mpr (by omega), (n32_le (by omega) (by omega)).mpr hp⟩
theorem t_withinY {v lo hi : Int32} {K : Int32 → Prop} (h1 : lo ≤ v ∧ v ≤ hi) (h : K 1) : wX11_within v lo hi K := t_within (by rw [b01_1 h1]; exact h)
theorem t_withinN {v lo hi : Int32} {K : Int32 → Prop} (h1 : ¬ (lo ≤ v ∧ v ≤ hi)) (h : K 0) : wX11_within v lo hi K := t_within (by rw [b01_0 h1]; exact h)
theorem t_isInY {v lo hi : Int32} {K : Int32 → Prop} (h1 : lo ≤ v ∧ v ≤ hi) (h : K 1) : wX12_isIn v lo hi K := t_isIn (by rw [b01_1 h1]; exact h)
theorem t_isInN {v lo hi : Int32} {K : Int32 → Prop} (h1 : ¬ (lo ≤ v ∧ v ≤ hi)) (h : K 0) : wX12_isIn v lo hi K := t_isIn (by rw [b01_0 h1]; exact h)
theorem t_isHouseY {v : Int32} {K : Int32 → Prop} (h1 : 0 ≤ v ∧ v ≤ 3) (h : K 1) : wX11_isHouse v K := t_isHouse (by rw [b01_1 h1]; exact h)
theorem t_isHouseN {v : Int32} {K : Int32 → Prop} (h1 : ¬ (0 ≤ v ∧ v ≤ 3)) (h : K 0) : wX11_isHouse v K := t_isHouse (by rw [b01_0 h1]; exact h)
/-- of all people -/
abbrev isP (a : hw_T) (v : Int32) : Prop := ∃ p, p < a.1.1 ∧ v = Int32.ofNat p
/-- of all recorded seasons -/
abbrev isS (a : hw_T) (v : Int32) : Prop := ∃ p, p ≤ a.1.2.1 ∧ v = Int32.ofNat p
section Q
variable {a : hw_T} {μ : hx_M} {S p t : Nat} {v : Int32} {K : Int32 → Prop}
theorem CW.n (h : CW 0 a μ) : μ.1 8 0 = Int32.ofNat a.1.1 := h.1.1
theorem CW.s (h : CW 0 a μ) : μ.1 7 7 = Int32.ofNat a.1.2.1 := h.1.2.1
theorem CW.ft (h : CW 0 a μ) : μ.1 7 8 = Int32.ofNat a.1.2.2 := h.1.2.2
theorem CW.price (h : CW 0 a μ) : μ.1 7 3 = a.2.1 12 0 := h.2.1.1
theorem CW.seam (h : CW 0 a μ) : μ.1 7 4 = a.2.1 12 1 := h.2.1.2.1
theorem CW.over (h : CW 0 a μ) : μ.1 7 5 = a.2.1 12 2 := h.2.1.2.2.1
theorem CW.z (h : CW 0 a μ) : μ.2 7 6 = a.2.2 0 0 := h.2.1.2.2.2
theorem CW.rank (h : CW 0 a μ) (hp : p < a.1.1) : μ.1 9 p = a.2.1 0 p := (h.2.2.1 p hp).1
theorem CW.purse (h : CW 0 a μ) (hp : p < a.1.1) : μ.1 10 p = a.2.1 1 p := (h.2.2.1 p hp).2.1
theorem CW.sees (h : CW 0 a μ) (hp : p < a.1.1) : μ.1 11 p = a.2.1 2 p := (h.2.2.1 p hp).2.2.1
theorem CW.coin (h : CW 0 a μ) (hp : p < a.1.1) : μ.1 12 p = a.2.1 3 p := (h.2.2.1 p hp).2.2.2.1
theorem CW.worn (h : CW 0 a μ) (hp : p < a.1.1) : μ.1 13 p = a.2.1 4 p := (h.2.2.1 p hp).2.2.2.2
theorem CW.tally (h : CW 0 a μ) (hp : p < 6 * a.1.1) : μ.1 14 p = a.2.1 5 p := h.2.2.2.1 p hp
theorem CW.len (h : CW 0 a μ) (ht : t ≤ a.1.2.1) (hp : p < a.1.1) : μ.1 16 (16 * t + p) = a.2.1 6 (16 * t + p) := h.2.2.2.2.1 t p ht hp
theorem CW.sum (h : CW 0 a μ) (ht : t ≤ a.1.2.1) : μ.1 17 t = hw_sum a t := h.2.2.2.2.2.1 t ht
theorem CW.asked (h : CW 0 a μ) (h1 : 1 ≤ t) (ht : t ≤ a.1.2.1) (hp : p < a.1.1) : μ.1 18 (16 * t + p) >>> (16 &&& 31) = a.2.1 7 (16 * t + p) ∧ (μ.1 18 (16 * t + p) >>> (7 &&& 31)) &&& 511 = a.2.1 8 (16 * t + p) ∧ μ.1 18 (16 * t + p) &&& 127 = a.2.1 9 (16 * t + p) := h.2.2.2.2.2.2.1 t p h1 ht hp
theorem CW.house (h : CW 0 a μ) (ht : t ≤ a.1.2.1) (hp : p < 4) : μ.1 19 (4 * t + p) = a.2.1 10 (4 * t + p) := h.2.2.2.2.2.2.2.1 t p ht hp
theorem CW.money (h : CW 0 a μ) (ht : t ≤ a.1.2.1) : μ.1 20 t = a.2.1 11 t := h.2.2.2.2.2.2.2.2.1 t ht
theorem CW.told (h : CW 0 a μ) (hp : p < a.1.2.2) : μ.1 25 p = a.2.1 13 p ∧ μ.1 26 p = a.2.1 14 p ∧ μ.1 27 p = a.2.1 15 p := h.2.2.2.2.2.2.2.2.2 p hp
theorem MW.n (h : MW a μ) : μ.1 49 0 = Int32.ofNat a.1.1 := h.1.1
theorem MW.s (h : MW a μ) : μ.1 49 1 = Int32.ofNat a.1.2.1 := h.1.2.1
theorem MW.ft (h : MW a μ) : μ.1 49 59 = Int32.ofNat a.1.2.2 := h.1.2.2
theorem MW.price (h : MW a μ) : μ.1 49 3 = a.2.1 12 0 := h.2.1.1
theorem MW.seam (h : MW a μ) : μ.1 49 4 = a.2.1 12 1 := h.2.1.2.1
theorem MW.over (h : MW a μ) : μ.1 49 5 = a.2.1 12 2 := h.2.1.2.2.1
theorem MW.z (h : MW a μ) : μ.2 49 6 = a.2.2 0 0 := h.2.1.2.2.2
theorem MW.rank (h : MW a μ) (hp : p < a.1.1) : μ.1 50 p = a.2.1 0 p := (h.2.2.1 p hp).1
theorem MW.purse (h : MW a μ) (hp : p < a.1.1) : μ.1 51 p = a.2.1 1 p := (h.2.2.1 p hp).2.1
theorem MW.sees (h : MW a μ) (hp : p < a.1.1) : μ.1 54 p = a.2.1 2 p := (h.2.2.1 p hp).2.2.1
theorem MW.coin (h : MW a μ) (hp : p < a.1.1) : μ.1 52 p = a.2.1 3 p := (h.2.2.1 p hp).2.2.2.1
theorem MW.worn (h : MW a μ) (hp : p < a.1.1) : μ.1 53 p = a.2.1 4 p := (h.2.2.1 p hp).2.2.2.2
theorem MW.tally (h : MW a μ) (hp : p < 6 * a.1.1) : μ.1 56 p = a.2.1 5 p := h.2.2.2.1 p hp
theorem MW.len (h : MW a μ) (ht : t ≤ a.1.2.1) (hp : p < a.1.1) : μ.1 57 (16 * t + p) = a.2.1 6 (16 * t + p) := h.2.2.2.2.1 t p ht hp
theorem MW.asked (h : MW a μ) (h1 : 1 ≤ t) (ht : t ≤ a.1.2.1) (hp : p < a.1.1) : μ.1 58 (16 * t + p) = a.2.1 7 (16 * t + p) ∧ μ.1 59 (16 * t + p) = a.2.1 8 (16 * t + p) ∧ μ.1 60 (16 * t + p) = a.2.1 9 (16 * t + p) := h.2.2.2.2.2.1 t p h1 ht hp
theorem MW.house1 (h : MW a μ) (hp : p < 4) : μ.1 55 p = a.2.1 10 (4 * a.1.2.1 + p) := h.2.2.2.2.2.2.1 p hp
theorem MW.house2 (h : MW a μ) (ht : t < a.1.2.1) (hp : p < 4) : μ.1 61 (4 * t + p) = a.2.1 10 (4 * t + p) := h.2.2.2.2.2.2.2.1 t p ht hp
theorem MW.money1 (h : MW a μ) : μ.1 49 2 = a.2.1 11 a.1.2.1 := h.2.2.2.2.2.2.2.2.1
theorem MW.money2 (h : MW a μ) (ht : t < a.1.2.1) : μ.1 62 t = a.2.1 11 t := h.2.2.2.2.2.2.2.2.2.1 t ht
theorem MW.told (h : MW a μ) (hp : p < a.1.2.2) : μ.1 86 p = a.2.1 13 p ∧ μ.1 85 p = a.2.1 14 p ∧ μ.1 87 p = a.2.1 15 p := h.2.2.2.2.2.2.2.2.2.2 p hp
theorem WF.n (h : WF S a) : a.1.1 ≤ 16 := h.1.1
theorem WF.s (h : WF S a) : a.1.2.1 ≤ S := h.1.2.1
theorem WF.ft (h : WF S a) : a.1.2.2 ≤ 20 := h.1.2.2.1
theorem WF.sn (h : WF S a) : 0 < a.1.2.1 → 0 < a.1.1 := h.1.2.2.2.1
theorem WF.fn (h : WF S a) : 0 < a.1.2.2 → 0 < a.1.1 := h.1.2.2.2.2
theorem t_hasY (h : CW 0 a μ) (w : WF S a) (hp : p < a.1.1) (k : K 1) : wX4_has μ (Int32.ofNat p) K := by
  have := w.n
  unfold wX4_has
  rw [h.n]
  exact t_withinY ((n32_pred (by omega)).mpr ⟨p, hp, rfl⟩) ⟨Or.inr rfl, k⟩
theorem t_hasN (h : CW 0 a μ) (w : WF S a) (hp : ¬ isP a v) (k : K 0) : wX4_has μ v K := by
  have := w.n
  unfold wX4_has
  rw [h.n]
  exact t_withinN (fun z => hp ((n32_pred (by omega)).mp z)) ⟨Or.inl rfl, k⟩
theorem t_isPersonY (h : MW a μ) (w : WF S a) (hp : p < a.1.1) (k : K 1) : wX12_isPerson μ (Int32.ofNat p) K := by
  have := w.n
  unfold wX12_isPerson
  rw [h.n]
  exact t_isInY ((n32_pred (by omega)).mpr ⟨p, hp, rfl⟩) ⟨Or.inr rfl, k⟩
theorem t_isPersonN (h : MW a μ) (w : WF S a) (hp : ¬ isP a v) (k : K 0) : wX12_isPerson μ v K := by
  have := w.n
  unfold wX12_isPerson
  rw [h.n]
  exact t_isInN (fun z => hp ((n32_pred (by omega)).mp z)) ⟨Or.inl rfl, k⟩
theorem t_hasSeasonY (h : CW 0 a μ) (w : WF 300 a) (hp : p ≤ a.1.2.1) (k : K 1) : wX10_hasSeason μ (Int32.ofNat p) K := by
  have := w.s
  unfold wX10_hasSeason
  rw [h.s]
  exact t_withinY ((n32_upto (by omega)).mpr ⟨p, hp, rfl⟩) ⟨Or.inr rfl, k⟩
theorem t_hasSeasonN (h : CW 0 a μ) (w : WF 300 a) (hp : ¬ isS a v) (k : K 0) : wX10_hasSeason μ v K := by
  have := w.s
  unfold wX10_hasSeason
  rw [h.s]
  exact t_withinN (fun z => hp ((n32_upto (by omega)).mp z)) ⟨Or.inl rfl, k⟩
theorem t_isSeasonY (h : MW a μ) (w : WF 300 a) (hp : p ≤ a.1.2.1) (k : K 1) : wX12_isSeason μ (Int32.ofNat p) K := by
  have := w.s
  unfold wX12_isSeason
  rw [h.s]
  exact t_isInY ((n32_upto (by omega)).mpr ⟨p, hp, rfl⟩) ⟨Or.inr rfl, k⟩
theorem t_isSeasonN (h : MW a μ) (w : WF 300 a) (hp : ¬ isS a v) (k : K 0) : wX12_isSeason μ v K := by
  have := w.s
  unfold wX12_isSeason
  rw [h.s]
  exact t_isInN (fun z => hp ((n32_upto (by omega)).mp z)) ⟨Or.inl rfl, k⟩
theorem WF.up (h : WF 200 a) : WF 300 a := by
  obtain ⟨⟨h1, h2, h3⟩, h4⟩ := h
  exact ⟨⟨h1, by omega, h3⟩, h4⟩
theorem lenC (h : CW 0 a μ) (w : WF 300 a) (ht : t ≤ a.1.2.1) (hp : p < a.1.1) (k : K (a.2.1 6 (16 * t + p))) : wX3_lengthOf μ (Int32.ofNat p) (Int32.ofNat t) K := by
  have h1 := w.n
  have h2 := w.s
  exact t_lengthOf (by omega) (by omega) (by rw [h.len ht hp]; exact k)
theorem lenM (h : MW a μ) (w : WF 300 a) (ht : t ≤ a.1.2.1) (hp : p < a.1.1) (k : K (a.2.1 6 (16 * t + p))) : wX12_lengthAt μ (Int32.ofNat p) (Int32.ofNat t) K := by
  have h1 := w.n
  have h2 := w.s
  exact t_lengthAt (by omega) (by omega) (by rw [h.len ht hp]; exact k)
theorem rowM_eq (h : MW a μ) (ht : t ≤ a.1.2.1) : rowM μ t a.1.1 = hw_sum a t := sumN_eq fun k hk => h.len ht hk
theorem lineC (h : CW 0 a μ) (w : WF 300 a) (ht : t ≤ a.1.2.1) (h0 : 0 < a.1.1) (k : K (hw_line a t)) : wX10_lineAt μ (Int32.ofNat t) K := by
  have h1 := w.n
  have h2 := w.s
  exact t_lineAtC h.n (by omega) h0 (by omega) (by rw [h.sum ht]; exact k)
theorem lineM (h : MW a μ) (w : WF 300 a) (ht : t ≤ a.1.2.1) (h0 : 0 < a.1.1) (k : K (hw_line a t)) : wX12_lineAt μ (Int32.ofNat t) K := by
  have h1 := w.n
  have h2 := w.s
  exact t_lineAtM h.n (by omega) h0 (by omega) (by rw [rowM_eq h ht]; exact k)
theorem houseC (h : CW 0 a μ) (w : WF 300 a) (ht : t ≤ a.1.2.1) (hp : p < 4) (k : K (a.2.1 10 (4 * t + p))) : wX3_shownBy μ (Int32.ofNat p) (Int32.ofNat t) K := by
  have h2 := w.s
  have e : Int32.ofNat t * 4 + Int32.ofNat p = Int32.ofNat (4 * t + p) := by
    rw [Nat.mul_comm 4 t, ← n32_add, ← n32_mul]; rfl
  unfold wX3_shownBy
  rw [e, n32_nat (by omega), h.house ht hp]
  exact ⟨n32_in (by omega) (by omega), k⟩
theorem houseM (h : MW a μ) (w : WF 300 a) (ht : t ≤ a.1.2.1) (hp : p < 4) (k : K (a.2.1 10 (4 * t + p))) : wX12_houseAt μ (Int32.ofNat p) (Int32.ofNat t) K := by
  have h2 := w.s
  have e : 4 * Int32.ofNat t + Int32.ofNat p = Int32.ofNat (4 * t + p) := by
    rw [← n32_add, ← n32_mul]; rfl
  unfold wX12_houseAt
  rw [e, h.s, n32_nat (by omega), n32_nat (by omega)]
  refine ⟨fun z => ?_, fun z => ?_⟩
  · have hne : t ≠ a.1.2.1 := fun hh => z (by rw [hh])
    rw [h.house2 (by omega) hp]
    exact ⟨n32_in (by omega) (by omega), k⟩
  · have hne : t = a.1.2.1 := (n32_eq (by omega) (by omega)).mp z
    rw [h.house1 hp, ← hne]
    exact ⟨n32_in (by omega) (by omega), k⟩
theorem moneyM (h : MW a μ) (w : WF 300 a) (ht : t ≤ a.1.2.1) (k : K (a.2.1 11 t)) : wX12_moneyAt μ (Int32.ofNat t) K := by
  have h2 := w.s
  unfold wX12_moneyAt
  rw [h.s, n32_nat (by omega)]
  refine ⟨fun z => ?_, fun z => ?_⟩
  · have hne : t ≠ a.1.2.1 := fun hh => z (by rw [hh])
    rw [h.money2 (by omega)]
    exact ⟨n32_in (by omega) (by omega), k⟩
  · have hne : t = a.1.2.1 := (n32_eq (by omega) (by omega)).mp z
    rw [h.money1, ← hne]
    exact k
end Q
/-! the first calls that only answer -/
theorem op_fault (Λ : hx_L) (μ : hx_M) (h : hI Λ μ) : wL_9 Λ μ hI := by
  unfold wL_9 wX11_fault wX12_fault
  obtain ⟨_, _, _, _, _, _, _, _, _, _, h3, _⟩ := id h
  exact ⟨h3.2.1, h⟩
theorem op_line (Λ : hx_L) (μ : hx_M) (a1 : Int32) (h : hI Λ μ) : wL_11 Λ μ a1 hI := by
  unfold wL_11 wX11_line wX12_line
  obtain ⟨_, _, _, a, ls, fo, is, w, hc, hm, _⟩ := id h
  by_cases h1 : isS a a1
  · obtain ⟨t, ht, rfl⟩ := h1
    refine t_hasSeasonY hc w.up ht (sel1 ?_)
    have hn := w.n
    by_cases h0 : 0 < a.1.1
    · refine lineC hc w.up ht h0 (t_isSeasonY hm w.up ht (sel1 ?_))
      rw [hm.n]
      exact selF (fun z => by have := (n32_le (b := 0) (by omega) (by omega)).mp z; omega) (lineM hm w.up ht h0 ⟨rfl, h⟩)
    · have h2 : a.1.1 = 0 := by omega
      refine t_lineAtC0 (by rw [hc.n, h2]; rfl) (t_isSeasonY hm w.up ht (sel1 ?_))
      rw [hm.n, h2]
      exact selT (by decide) ⟨rfl, h⟩
  · exact t_hasSeasonN hc w.up h1 (sel0 (t_isSeasonN hm w.up h1 (sel0 ⟨rfl, h⟩)))
theorem op_length (Λ : hx_L) (μ : hx_M) (a1 a2 : Int32) (h : hI Λ μ) : wL_12 Λ μ a1 a2 hI := by
  unfold wL_12 wX11_length wX12_length
  obtain ⟨_, _, _, a, ls, fo, is, w, hc, hm, _⟩ := id h
  by_cases h1 : isP a a1
  · obtain ⟨p, hp, rfl⟩ := h1
    by_cases h2 : isS a a2
    · obtain ⟨t, ht, rfl⟩ := h2
      exact t_hasY hc w hp (sel1 (t_hasSeasonY hc w.up ht (seln1 (lenC hc w.up ht hp (t_isPersonY hm w hp (sel1 (t_isSeasonY hm w.up ht (sel1 (lenM hm w.up ht hp ⟨rfl, h⟩)))))))))
    · exact t_hasY hc w hp (sel1 (t_hasSeasonN hc w.up h2 (seln0 (t_isPersonY hm w hp (sel1 (t_isSeasonN hm w.up h2 (sel0 ⟨rfl, h⟩)))))))
  · exact t_hasN hc w h1 (sel0 (t_isPersonN hm w h1 (sel0 ⟨rfl, h⟩)))
