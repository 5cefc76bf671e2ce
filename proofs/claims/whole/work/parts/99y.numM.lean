/-! layer 2: law, numbers and words the reference takes -/
section NM
variable {N : Nat} {t : Nat → Int32} {m : hx_M} {i : Nat}
theorem numF_snoc : ∀ (r p : Nat) (acc : Int32), numF t (r + 1) p acc = numF t r p acc * 10 + t (p + r) - 48
  | 0, p, acc => rfl
  | r + 1, p, acc => by
    have e : numF t (r + 1 + 1) p acc = numF t (r + 1) (p + 1) (acc * 10 + t p - 48) := rfl
    rw [e, numF_snoc r (p + 1), show p + 1 + r = p + (r + 1) by omega]
    rfl
theorem tok_num {lo hi : Int32} (hlo : 0 ≤ lo) (hhi : hi ≤ 9999) : (lo ≤ tkF t N i ∧ tkF t N i ≤ hi) ↔ (run bD t N (pos t N i) ≠ pos t N i ∧ run bD t N (pos t N i) - pos t N i ≤ 4 ∧ lo ≤ numF t (run bD t N (pos t N i) - pos t N i) (pos t N i) 0 ∧ numF t (run bD t N (pos t N i) - pos t N i) (pos t N i) 0 ≤ hi) := by
  have big : ∀ v : Nat, 10000 ≤ v → v < 2 ^ 31 → ¬ (lo ≤ Int32.ofNat v ∧ Int32.ofNat v ≤ hi) := fun v v1 v2 z => by
    have := Int32.le_trans z.2 hhi
    have := (n32_le (b := 9999) v2 (by omega)).mp this
    omega
  have neg : ∀ x : Int32, x < 0 → ¬ (lo ≤ x ∧ x ≤ hi) := fun x hx z => by
    exact absurd (Int32.le_trans hlo z.1) (Int32.not_le.mpr hx)
  by_cases hi' : i < tkC t N
  · obtain ⟨p1, p2, p3⟩ := pos_s hi'
    rw [tk_at hi']
    rcases tK_kind (t := t) p1 with ⟨h1, h3⟩ | ⟨h1, h2, h3⟩ | ⟨h1, h2, h3⟩
    · constructor
      · intro z
        exfalso
        rcases h3 with h3 | ⟨j, hj, h3⟩
        · rw [h3] at z; exact neg _ (by decide) z
        · rw [h3] at z; exact big _ (by omega) (by omega) z
      · rintro ⟨z, _⟩
        exfalso
        apply z
        refine run_no ?_
        cases hd : bD (t (pos t N i)) with
        | false => rfl
        | true =>
          have a1 := decide_eq_true_iff.mp h1
          have a2 := decide_eq_true_iff.mp hd
          exact absurd (Int32.le_trans a1.1 a2.2) (by decide)
    · have hE : tE t N (pos t N i) = run bD t N (pos t N i) := by
        unfold tE
        rw [if_neg (by rw [h1]; simp), if_pos h2, ← run_yes p1 h2]
      have hne : run bD t N (pos t N i) ≠ pos t N i := by
        have := (tE_rng (t := t) p1).1
        rw [← hE]; omega
      have ek : tK t N (pos t N i) = if run bD t N (pos t N i) - pos t N i ≤ 4 then numF t (run bD t N (pos t N i) - pos t N i) (pos t N i) 0 else -3 := by
        unfold tK
        rw [if_neg (by rw [h1]; simp), if_pos h2, hE]
      rw [ek]
      by_cases c : run bD t N (pos t N i) - pos t N i ≤ 4
      · rw [if_pos c]
        exact ⟨fun z => ⟨hne, c, z⟩, fun z => z.2.2⟩
      · rw [if_neg c]
        exact ⟨fun z => absurd z (neg _ (by decide)), fun z => absurd z.2.1 c⟩
    · constructor
      · intro z
        exfalso
        rcases h3 with ⟨h3, h4⟩ | ⟨h3, h4⟩
        · obtain ⟨v, v1, v2, ev⟩ := n20 (c := 0) h3
          rw [h4, ev, show (20000 : Int32) = Int32.ofNat 20000 from rfl, n32_add] at z
          exact big _ (by omega) (by omega) z
        · rw [h4] at z; exact neg _ (by decide) z
      · rintro ⟨z, _⟩
        exact absurd (run_no h2) z
  · rw [tk_end (Nat.not_lt.mp hi'), pos_e (Nat.not_lt.mp hi')]
    exact ⟨fun z => absurd z (neg _ (by decide)), fun z => absurd (run_ge _ _ _ (Nat.le_refl _)) z.1⟩
theorem num_next {lo hi : Int32} (hlo : 0 ≤ lo) (hhi : hi ≤ 9999) (h : lo ≤ tkF t N i ∧ tkF t N i ≤ hi) : i < tkC t N ∧ nb t N (run bD t N (pos t N i)) = pos t N (i + 1) ∧ tkF t N i = numF t (run bD t N (pos t N i) - pos t N i) (pos t N i) 0 := by
  have hi' : i < tkC t N := tk_lt (fun z => by
    rw [z] at h
    exact absurd (Int32.le_trans hlo h.1) (by decide))
  obtain ⟨p1, p2, p3⟩ := pos_s hi'
  obtain ⟨a1, a2, a3⟩ := (tok_num hlo hhi).mp h
  have hd : bD (t (pos t N i)) = true := by
    cases hd : bD (t (pos t N i)) with
    | true => rfl
    | false => exact absurd (run_no hd) a1
  have hl : bL (t (pos t N i)) = false := by
    cases hl : bL (t (pos t N i)) with
    | false => rfl
    | true =>
      have a1 := decide_eq_true_iff.mp hl
      have a2 := decide_eq_true_iff.mp hd
      exact absurd (Int32.le_trans a1.1 a2.2) (by decide)
  have hE : tE t N (pos t N i) = run bD t N (pos t N i) := by
    unfold tE
    rw [if_neg (by rw [hl]; simp), if_pos hd, ← run_yes p1 hd]
  refine ⟨hi', by rw [← hE]; exact p3, ?_⟩
  rw [tk_at hi']
  unfold tK
  rw [if_neg (by rw [hl]; simp), if_pos hd, hE, if_pos a2]
theorem num_L14 {lo hi : Int32} {μ : hx_M} {K K1 : Int32 → hx_M → Prop} {q : Nat} (hq : q ≤ N) (k : ∀ m', offX μ m' → m'.1 49 25 = Int32.ofNat q → (run bD t N q - q ≤ 4 → m'.1 49 42 = numF t (run bD t N q - q) q 0) → K1 (Int32.ofNat (run bD t N q)) m') : ∀ (r p : Nat) (m : hx_M), N - p = r → q ≤ p → p ≤ N → TX N t m → offX μ m → m.1 49 25 = Int32.ofNat q → run bD t N p = run bD t N q → (p - q ≤ 4 → m.1 49 42 = numF t (p - q) q 0) → wX12_takesNumber_L14 lo hi K K1 (r + 1) (Int32.ofNat p) m := by
  intro r
  induction r with
  | zero =>
    intro p m e hqp hp tx o h25 hr hv
    have hN := tx.1
    unfold wX12_takesNumber_L14
    have e1 : run bD t N p = p := run_ge _ _ _ (by omega)
    rw [tx.2.1]
    refine selT ((n32_le (by omega) (by omega)).mpr (by omega)) ?_
    rw [← e1, hr]
    exact k m o h25 (by rw [← hr, e1]; exact hv)
  | succ r ih =>
    intro p m e hqp hp tx o h25 hr hv
    have hN := tx.1
    unfold wX12_takesNumber_L14 wX12_takesNumber_J75
    rw [h25, tx.2.1, n32_nat (by omega), tx.2.2 p (by omega), n32_add1, n32_subn hqp]
    have vp : vp_in (Int32.ofNat p) 700 := n32_in (by omega) (by omega)
    have stop : bD (t p) = false → K1 (Int32.ofNat p) m := fun hb => by
      have e1 : run bD t N p = p := run_no hb
      rw [← e1, hr]
      exact k m o h25 (by rw [← hr, e1]; exact hv)
    have bD' : bD (t p) = true ↔ (48 ≤ t p ∧ t p ≤ 57) := decide_eq_true_iff
    refine selF (fun z => by have := (n32_le (by omega) (by omega)).mp z; omega) ⟨vp, fun z => stop ?_, fun z => ⟨vp, fun z2 => stop ?_, fun z2 => ?_⟩⟩
    · cases hb : bD (t p) with
      | false => rfl
      | true => exact absurd (bD'.mp hb).1 (Int32.not_le.mpr z)
    · cases hb : bD (t p) with
      | false => rfl
      | true => exact absurd (bD'.mp hb).2 (Int32.not_le.mpr z2)
    · have hb : bD (t p) = true := bD'.mpr ⟨Int32.not_lt.mp z, Int32.not_lt.mp z2⟩
      have hrun : run bD t N (p + 1) = run bD t N q := by rw [← hr]; exact (run_yes (by omega) hb).symm
      have e4 : (4 : Int32) = Int32.ofNat 4 := rfl
      rw [e4, n32_le (by omega) (by omega)]
      refine ⟨fun z3 => ih (p + 1) m (by omega) (by omega) (by omega) tx o h25 hrun (fun z4 => by omega), fun z3 => ⟨vp, ?_⟩⟩
      rintro x rfl
      have o1 : offX m (hx_sI m 49 42 (10 * m.1 49 42 + t p - 48)) := offX.rf.sI (by omega)
      refine ih (p + 1) _ (by omega) (by omega) (by omega) (tx.oX o1) (o.tr o1) (by rw [sIj (by omega)]; exact h25) hrun (fun z4 => ?_)
      rw [sIe, hv (by omega), show p + 1 - q = (p - q) + 1 by omega, numF_snoc, show q + (p - q) = p by omega, Int32.mul_comm 10]
theorem takesNumberM {lo hi : Int32} {K : Int32 → hx_M → Prop} (tx : TX N t m) (a : AT N t i m) (hlo : 0 ≤ lo) (hhi : hi ≤ 9999) (k1 : lo ≤ tkF t N i ∧ tkF t N i ≤ hi → ∀ m', offX m m' → AT N t (i + 1) m' → m'.1 49 42 = tkF t N i → K 1 m') (k0 : ¬ (lo ≤ tkF t N i ∧ tkF t N i ≤ hi) → ∀ m', offX m m' → AX N t i m' → K 0 m') : wX12_takesNumber m lo hi K := by
  obtain ⟨ai, b, hb, h25, hn⟩ := a
  have hN := tx.1
  have hp := pos_le (t := t) (N := N) (i := i)
  unfold wX12_takesNumber
  refine blanksM tx hb h25 (fun m1 o1 h1 => ?_)
  rw [hn] at h1
  have o2 := o1.sI (j := 42) (v := 0) (by omega)
  rw [h1]
  refine ⟨_, num_L14 (μ := m) (t := t) (N := N) (q := pos t N i) hp (fun m' o h2 h3 => ?_) (N - pos t N i) (pos t N i) _ rfl (Nat.le_refl _) hp (tx.oX o2) o2 (by rw [sIj (by omega)]; exact h1) rfl (fun _ => by rw [Nat.sub_self, sIe]; rfl)⟩
  have hr := run_rng bD t N (pos t N i)
  have hr2 := hr.2.1 hp
  unfold wX12_takesNumber_J81
  have e4 : (4 : Int32) = Int32.ofNat 4 := rfl
  rw [h2, n32_subn hr.1, n32_eq (by omega) (by omega), e4, n32_lt (by omega) (by omega)]
  refine ⟨fun z => k0 (fun z2 => ((tok_num hlo hhi).mp z2).1 z) m' o ⟨ai, h2⟩, fun z => ⟨fun z2 => k0 (fun z3 => by have := ((tok_num hlo hhi).mp z3).2.1; omega) m' o ⟨ai, h2⟩, fun z2 => ?_⟩⟩
  have h42 := h3 (by omega)
  by_cases c : lo ≤ m'.1 49 42 ∧ m'.1 49 42 ≤ hi
  · refine t_isInY c (seln1 ?_)
    rw [h42] at c
    have hT := (tok_num hlo hhi).mpr ⟨z, by omega, c⟩
    obtain ⟨g1, g2, g3⟩ := num_next hlo hhi hT
    refine k1 hT _ (o.sI (by omega)) ⟨g1, _, hr2, sIe, g2⟩ ?_
    rw [sIj (by omega), h42, g3]
  · refine t_isInN c (seln0 (k0 (fun z3 => c ?_) m' o ⟨ai, h2⟩))
    rw [h42]
    exact ((tok_num hlo hhi).mp z3).2.2
end NM
