/-! layer 2: what a person sees, the class's look -/
theorem b1and (S : Int32) (q : Nat) : ((S >>> (Int32.ofNat q &&& 31)) &&& 1) = 0 ↔ ¬ bitq S q := by
  have h := and1 (S >>> (Int32.ofNat q &&& 31))
  unfold bitq
  constructor
  · intro h1 h2
    rw [h1] at h2
    exact absurd h2 (by decide)
  · intro h1
    rcases h with h | h
    · exact h
    · exact absurd h h1
theorem meanSum_s (rank : Nat → Int32) (S : Int32) (len : Nat → Int32) (p who q : Nat) : meanSum rank S len p who (q + 1) = meanSum rank S len p who q + (if selq rank S p who q then len q else 0) := rfl
theorem meanCnt_s (rank : Nat → Int32) (S : Int32) (p who q : Nat) : meanCnt rank S p who (q + 1) = meanCnt rank S p who q + (if selq rank S p who q then 1 else 0) := rfl
theorem selq3 {rank : Nat → Int32} {S : Int32} {p q : Nat} : selq rank S p 3 q ↔ bitq S q := by simp [selq]
theorem selq0 {rank : Nat → Int32} {S : Int32} {p q : Nat} : selq rank S p 0 q ↔ bitq S q ∧ rank p < rank q := by simp [selq]
theorem selq1 {rank : Nat → Int32} {S : Int32} {p q : Nat} : selq rank S p 1 q ↔ bitq S q ∧ rank q < rank p := by simp [selq]
theorem selq2 {rank : Nat → Int32} {S : Int32} {p q : Nat} : selq rank S p 2 q ↔ bitq S q ∧ rank q = rank p := by simp [selq]
theorem meanSum3 (rank : Nat → Int32) (S : Int32) (len : Nat → Int32) (p : Nat) : ∀ n, meanSum rank S len p 3 n = meanSum rank S len p 0 n + meanSum rank S len p 1 n + meanSum rank S len p 2 n
  | 0 => rfl
  | n + 1 => by
    simp only [meanSum_s, meanSum3 rank S len p n, selq0, selq1, selq2, selq3]
    grind
theorem meanCnt3 (rank : Nat → Int32) (S : Int32) (p : Nat) : ∀ n, meanCnt rank S p 3 n = meanCnt rank S p 0 n + meanCnt rank S p 1 n + meanCnt rank S p 2 n
  | 0 => rfl
  | n + 1 => by
    simp only [meanCnt_s, meanCnt3 rank S p n, selq0, selq1, selq2, selq3]
    grind
theorem look_L18 {Λ : hx_L} {μ : hx_M} {n s p : Nat} {K K1 : hx_M → Prop} (hn : μ.1 8 0 = Int32.ofNat n) (hn16 : n ≤ 16) (hs : s ≤ 300) (hp : p < n) (hr : ∀ q, q < n → 0 ≤ μ.1 9 q ∧ μ.1 9 q ≤ 9)
    (h : ∀ m, off2 23 24 μ m → (∀ w, w < 3 → m.1 23 w = meanCnt (μ.1 9) (μ.1 11 p) p w n ∧ m.1 24 w = meanSum (μ.1 9) (μ.1 11 p) (fun q => μ.1 16 (16 * s + q)) p w n) → K1 m) : ∀ (r q : Nat) (m : hx_M), q + r = n → off2 23 24 μ m → (∀ w, w < 3 → m.1 23 w = meanCnt (μ.1 9) (μ.1 11 p) p w q ∧ m.1 24 w = meanSum (μ.1 9) (μ.1 11 p) (fun q => μ.1 16 (16 * s + q)) p w q) → wX6_look_L18 Λ (Int32.ofNat p) (Int32.ofNat s) K K1 (r + 1) (Int32.ofNat q) m := by
  intro r
  induction r with
  | zero =>
    intro q m e ho hw
    obtain rfl : q = n := by omega
    unfold wX6_look_L18
    rw [ho.1 8 (by omega) (by omega), hn]
    exact ⟨fun _ => h m ho hw, fun z => absurd (Int32.le_refl _) z⟩
  | succ r ih =>
    intro q m e ho hw
    unfold wX6_look_L18
    rw [ho.1 8 (by omega) (by omega), ho.1 9 (by omega) (by omega), ho.1 11 (by omega) (by omega), hn]
    simp (disch := omega) only [n32_le, n32_nat, n32_in, b1and, true_and]
    refine ⟨fun z => by omega, fun _ => ?_⟩
    rintro x rfl
    have st : ∀ w0 : Nat, w0 < 3 → bitq (μ.1 11 p) q → (∀ w, w < 3 → (selq (μ.1 9) (μ.1 11 p) p w q ↔ w = w0)) → wX6_look_J85 Λ K (wX6_look_L18 Λ (Int32.ofNat p) (Int32.ofNat s) K K1 (r + 1)) (Int32.ofNat p) (Int32.ofNat s) (Int32.ofNat q) (Int32.ofNat w0) m := by
      intro w0 h0 hb hsel
      unfold wX6_look_J85
      refine ⟨n32_in (by omega) (by omega), t_lengthOf hs (by omega) ⟨n32_in (by omega) (by omega), n32_in (by omega) (by omega), n32_in (by omega) (by omega), ?_⟩⟩
      unfold wX6_look_J117_16
      rw [n32_nat (by omega), n32_add1, ho.1 16 (by omega) (by omega)]
      refine ih (q + 1) _ (by omega) (off2_sI (off2_sI ho (Or.inr rfl)) (Or.inl rfl)) (fun w hw3 => ?_)
      obtain ⟨h1, h2⟩ := hw w hw3
      obtain ⟨h1', h2'⟩ := hw w0 h0
      rw [meanCnt_s, meanSum_s, ← h1, ← h2]
      simp only [hm_sI, hsel w hw3]
      by_cases hq : w = w0
      · subst hq; simp
      · simp [hq]
    by_cases hb : bitq (μ.1 11 p) q
    · refine ⟨fun z => absurd ((b1and _ _).mp z) (not_not_intro hb), fun _ => ?_⟩
      rintro x rfl
      have hq := hr q (by omega)
      have hpr := hr p hp
      refine ⟨fun z => ⟨fun z2 => st 2 (by omega) hb ?_, fun z2 => st 1 (by omega) hb ?_⟩, fun z => st 0 (by omega) hb ?_⟩
      all_goals
        intro w hw3
        have : w = 0 ∨ w = 1 ∨ w = 2 := by omega
        rcases this with rfl | rfl | rfl
      all_goals
        simp only [selq0, selq1, selq2, hb, true_and]
        grind
    · refine ⟨fun _ => ?_, fun z => absurd ((b1and _ _).mpr hb) z⟩
      unfold wX6_look_J117
      rw [n32_add1]
      refine ih (q + 1) _ (by omega) ho (fun w hw3 => ?_)
      rw [meanCnt_s, meanSum_s, if_neg (fun z => hb z.1), if_neg (fun z => hb z.1), Int32.add_zero, Int32.add_zero]
      exact hw w hw3
