/-! layer 2: street, whole -/
theorem cnt_bI {T : Nat} : ∀ n, sumN (fun q => bI (T.testBit q)) n = Int32.ofNat (cnt T n)
  | 0 => rfl
  | n + 1 => by
    show sumN (fun q => bI (T.testBit q)) n + bI (T.testBit n) = Int32.ofNat (cnt T n + (if T.testBit n = true then 1 else 0))
    rw [cnt_bI n, ← n32_add]
    congr 1
    cases T.testBit n <;> rfl
theorem op_street (Λ : hx_L) (μ : hx_M) (a1 a2 : Int32) (h : hI Λ μ) : wL_19 Λ μ a1 a2 hI := by
  obtain ⟨hF, hM, h15, a, ls, fo, is, w, hc, hm, ht, hl, hi⟩ := id h
  have hn := w.n
  have fin : ∀ L m, ML a L μ m → hI Λ m := fun L m hL => by
    have k2 : keepM μ m := ⟨fun k hk => ⟨hL.2.1 k (by omega), by rw [hL.2.2]⟩, fun j _ => by rw [hL.2.1 49 (by omega)]⟩
    exact hI.q (a := a) hF hM h15 ht hl hi keepC.rf k2 w (hc.kM k2) (hm.fr (fun j _ => by rw [hL.2.1 49 (by omega)]) (by rw [hL.2.2]) (fun k hk => hL.2.1 k (by omega)))
  unfold wL_19 wX11_street
  have J20 : (a1 ≠ -1 ∨ a2 ≠ 0) → wX11_street_J20 μ (fun r => wX12_street μ a1 a2 (fun q m1 => r = q ∧ hI Λ m1)) a1 a2 := by
    intro hne
    unfold wX11_street_J20
    by_cases h1 : isP a a1
    · obtain ⟨p, hp, rfl⟩ := h1
      refine t_hasY hc w hp (sel1 ?_)
      have hne1 : Int32.ofNat p ≠ -1 := n32_neg (by omega) (by decide)
      by_cases h2 : 0 ≤ a2 ∧ a2 ≤ 1
      · refine t_withinY h2 (seln1 (streetOfC hc w hp (fun T hT => ?_)))
        have ref : ∀ v : Int32, (∀ L, lab a L → qui a L → (a2 ≠ 0 → v = (100 * sumN (fun q => if T.testBit q = true then a.2.1 6 (16 * a.1.2.1 + q) else 0) a.1.1) / Int32.ofNat (cnt T a.1.1)) ∧ (a2 = 0 → v = Int32.ofNat (L p))) → wX12_street μ (Int32.ofNat p) a2 (fun q m1 => v = q ∧ hI Λ m1) := by
          intro v hv
          unfold wX12_street wX12_street_J31
          refine selN hne1 (t_isPersonY hm w hp (sel1 (t_isInY h2 (seln1 (streetsM hm w (fun L m1 m1L hL hq => ?_))))))
          have hsel := st_lab hT hL hq hp
          have h1c := cnt_pos hp hT.2.2.1
          have hcl := cnt_le T a.1.1
          have e0 := street_L43 (K := fun q m1 => v = q ∧ hI Λ m1) (v2 := a2) (sel := fun q => T.testBit q) (K1 := fun v3 v4 => (Int32.ofNat p ≠ -1 → ((a2 ≠ 0 → (¬ v3 = 0 ∧ v = (100 * v4) / v3 ∧ hI Λ m1)) ∧ (a2 = 0 → (vp_in (Int32.ofNat p) 16 ∧ v = m1.1 79 (Int32.ofNat p).toNatClampNeg ∧ hI Λ m1)))) ∧ (Int32.ofNat p = -1 → (v = v3 ∧ hI Λ m1))) hm w m1L (fun p hp => (hL p hp).1) (Or.inr ⟨p, hp, rfl, hsel⟩) ?_ a.1.1 0 (by omega)
          · exact ⟨a.1.1 + 1, e0⟩
          · rw [cnt_bI]
            refine selN hne1 ⟨fun z => ⟨n32_ne0 (by omega) (by omega), (hv L hL hq).1 z, fin L m1 m1L⟩, fun z => ⟨n32_in (by omega) (by omega), ?_, fin L m1 m1L⟩⟩
            rw [n32_nat (by omega), m1L.1 p hp]
            exact (hv L hL hq).2 z
        refine ⟨fun z => ?_, fun z => ?_⟩
        · refine lineOfC hc w hT.1 (cnt_pos hp hT.2.2.1) (ref _ (fun L hL hq => ⟨fun _ => by rw [Int32.mul_comm], fun z2 => absurd z2 z⟩))
        · obtain ⟨x, x1, x2, x3⟩ := least_ex (T := T) (p := p) (p + 1) (by omega) hT.2.2.1
          refine leastC hc w hT.1 (by omega) x2 x3 (ref _ (fun L hL hq => ⟨fun z2 => absurd z z2, fun _ => ?_⟩))
          obtain ⟨y1, y2, y3⟩ := st_least hT hL hq hp
          have : x = L p := by
            rcases Nat.lt_trichotomy x (L p) with c | c | c
            · exact absurd x2 (y3 x c)
            · exact c
            · exact absurd y2 (x3 _ c)
          rw [this]
      · refine t_withinN h2 (seln0 ?_)
        unfold wX12_street
        exact selN hne1 (t_isPersonY hm w hp (sel1 (t_isInN h2 (seln0 ⟨rfl, h⟩))))
    · refine t_hasN hc w h1 (sel0 ?_)
      unfold wX12_street
      refine ⟨fun _ => t_isPersonN hm w h1 (sel0 ⟨rfl, h⟩), fun z => selF (fun z2 => ?_) ⟨rfl, h⟩⟩
      rcases hne with hne | hne
      · exact hne z
      · exact hne z2
  refine ⟨fun z => J20 (Or.inl z), fun z => ⟨fun z2 => J20 (Or.inr z2), fun z2 => ?_⟩⟩
  subst z
  subst z2
  unfold wX4_streetCount
  refine ⟨a.1.1 + 1, streetCount_L4 hc w (fun Ts hTs => ?_) a.1.1 0 (fun _ => 0) (by omega) (fun p hp => by omega)⟩
  unfold wX12_street wX12_street_J31
  refine selE rfl (selT rfl (streetsM hm w (fun L m1 m1L hL hq => ?_)))
  have hsel : ∀ q, q < a.1.1 → (lbB (Ts q) q = true ↔ L q = q) := by
    intro q hqn
    have hst := st_lab (hTs q hqn) hL hq hqn
    obtain ⟨y1, y2, y3⟩ := st_least (hTs q hqn) hL hq hqn
    have hlq := (hL q hqn).1
    unfold lbB
    rw [decide_eq_true_eq]
    constructor
    · intro hz
      apply Classical.byContradiction
      intro hne
      have := hz (L q) (by omega)
      rw [y2] at this
      simp at this
    · intro he p hp
      have := y3 p (by omega)
      simpa using this
  have e0 := street_L43 (K := fun q m1 => sumN (fun p => bI (lbB (Ts p) p)) a.1.1 = q ∧ hI Λ m1) (v1 := -1) (v2 := 0) (sel := fun q => lbB (Ts q) q) (K1 := fun v3 v4 => ((-1 : Int32) ≠ -1 → (((0 : Int32) ≠ 0 → (¬ v3 = 0 ∧ sumN (fun p => bI (lbB (Ts p) p)) a.1.1 = (100 * v4) / v3 ∧ hI Λ m1)) ∧ ((0 : Int32) = 0 → (vp_in (-1) 16 ∧ sumN (fun p => bI (lbB (Ts p) p)) a.1.1 = m1.1 79 (-1 : Int32).toNatClampNeg ∧ hI Λ m1)))) ∧ ((-1 : Int32) = -1 → (sumN (fun p => bI (lbB (Ts p) p)) a.1.1 = v3 ∧ hI Λ m1))) hm w m1L (fun p hp => (hL p hp).1) (Or.inl ⟨rfl, hsel⟩) (selE rfl ⟨rfl, fin L m1 m1L⟩) a.1.1 0 (by omega)
  exact ⟨a.1.1 + 1, e0⟩
