/-! layer 2: sums and means -/
def sumN (f : Nat → Int32) : Nat → Int32
  | 0 => 0
  | k + 1 => sumN f k + f k
theorem sumN_eq {f g : Nat → Int32} : ∀ {n : Nat}, (∀ k, k < n → f k = g k) → sumN f n = sumN g n
  | 0, _ => rfl
  | n + 1, h => by
    show sumN f n + f n = sumN g n + g n
    rw [sumN_eq (n := n) (fun k hk => h k (by omega)), h n (by omega)]
/-- the bit q of S -/
abbrev bitq (S : Int32) (q : Nat) : Prop := (S >>> (Int32.ofNat q &&& 31)) &&& 1 = 1
theorem idxM {s p : Nat} : (16 * Int32.ofNat s) + Int32.ofNat p = Int32.ofNat (16 * s + p) := by
  rw [← n32_add, ← n32_mul]; rfl
theorem idxC {s p : Nat} : (Int32.ofNat s * 16) + Int32.ofNat p = Int32.ofNat (16 * s + p) := by
  rw [Nat.mul_comm 16 s, ← n32_add, ← n32_mul]; rfl
theorem t_lengthAt {μ : hx_M} {s p : Nat} {K : Int32 → Prop} (hs : s ≤ 300) (hp : p < 16) (h : K (μ.1 57 (16 * s + p))) : wX12_lengthAt μ (Int32.ofNat p) (Int32.ofNat s) K := by
  unfold wX12_lengthAt
  rw [idxM, n32_nat (by omega)]
  exact ⟨n32_in (by omega) (by omega), h⟩
theorem t_lengthOf {μ : hx_M} {s p : Nat} {K : Int32 → Prop} (hs : s ≤ 300) (hp : p < 16) (h : K (μ.1 16 (16 * s + p))) : wX3_lengthOf μ (Int32.ofNat p) (Int32.ofNat s) K := by
  unfold wX3_lengthOf
  rw [idxC, n32_nat (by omega)]
  exact ⟨n32_in (by omega) (by omega), h⟩
theorem t_has {S : Int32} {q : Nat} {K : Int32 → Prop} (h : K (b01 (bitq S q))) : wX12_has S (Int32.ofNat q) K := by
  unfold wX12_has
  unfold b01 at h
  refine ⟨fun a => ?_, fun a => ?_⟩
  · rw [if_neg a] at h; exact h
  · rw [if_pos a] at h; exact h
/-- whom a person looks at: by rank, those seen -/
abbrev selq (rank : Nat → Int32) (S : Int32) (p who q : Nat) : Prop := bitq S q ∧ (who = 0 → rank p < rank q) ∧ (who = 1 → rank q < rank p) ∧ (who = 2 → rank q = rank p)
def meanSum (rank : Nat → Int32) (S : Int32) (len : Nat → Int32) (p who n : Nat) : Int32 := sumN (fun q => if selq rank S p who q then len q else 0) n
def meanCnt (rank : Nat → Int32) (S : Int32) (p who n : Nat) : Int32 := sumN (fun q => if selq rank S p who q then 1 else 0) n
def meanW (rank : Nat → Int32) (S : Int32) (len : Nat → Int32) (p who n : Nat) : Int32 := if meanCnt rank S p who n = 0 then -1 else meanSum rank S len p who n / meanCnt rank S p who n
theorem t_meanOf_L {μ : hx_M} {n s p who : Nat} {K : Int32 → Prop} {K1 : Int32 → Int32 → Prop} (hn : μ.1 49 0 = Int32.ofNat n) (hn16 : n ≤ 16) (hs : s ≤ 300) (hp : p < n) (hw : who < 4)
    (h : K1 (meanSum (μ.1 50) (μ.1 54 p) (fun q => μ.1 57 (16 * s + q)) p who n) (meanCnt (μ.1 50) (μ.1 54 p) p who n)) : ∀ (r q : Nat), q + r = n → wX12_meanOf_L9 μ (Int32.ofNat p) (Int32.ofNat who) (Int32.ofNat s) K K1 (r + 1) (meanSum (μ.1 50) (μ.1 54 p) (fun q => μ.1 57 (16 * s + q)) p who q) (meanCnt (μ.1 50) (μ.1 54 p) p who q) (Int32.ofNat q) := by
  intro r
  induction r with
  | zero =>
    intro q e
    have hq : q = n := by omega
    subst hq
    unfold wX12_meanOf_L9
    rw [hn]
    exact ⟨fun _ => h, fun z => absurd ((n32_le (by omega) (by omega)).mpr (Nat.le_refl _)) z⟩
  | succ r ih =>
    intro q e
    have hi := ih (q + 1) (by omega)
    have hq : q < 16 := by omega
    unfold wX12_meanOf_L9
    rw [hn]
    refine ⟨fun z => absurd ((n32_le (by omega) (by omega)).mp z) (by omega), fun _ => ⟨n32_in (by omega) (by omega), t_has ?_⟩⟩
    rw [n32_nat (show p < 2 ^ 31 by omega)]
    have e1 : meanSum (μ.1 50) (μ.1 54 p) (fun q => μ.1 57 (16 * s + q)) p who (q + 1) = meanSum (μ.1 50) (μ.1 54 p) (fun q => μ.1 57 (16 * s + q)) p who q + (if selq (μ.1 50) (μ.1 54 p) p who q then μ.1 57 (16 * s + q) else 0) := rfl
    have e2 : meanCnt (μ.1 50) (μ.1 54 p) p who (q + 1) = meanCnt (μ.1 50) (μ.1 54 p) p who q + (if selq (μ.1 50) (μ.1 54 p) p who q then 1 else 0) := rfl
    rw [e1, e2, ← n32_add1] at hi
    have hvq : vp_in (Int32.ofNat q) 16 := n32_in hq (by omega)
    have hvp : vp_in (Int32.ofNat p) 16 := n32_in (by omega) (by omega)
    have no : ¬ selq (μ.1 50) (μ.1 54 p) p who q → wX12_meanOf_L9 μ (Int32.ofNat p) (Int32.ofNat who) (Int32.ofNat s) K K1 (r + 1) (meanSum (μ.1 50) (μ.1 54 p) (fun q => μ.1 57 (16 * s + q)) p who q) (meanCnt (μ.1 50) (μ.1 54 p) p who q) (Int32.ofNat q + 1) := by
      intro z
      rw [if_neg z, if_neg z, Int32.add_zero, Int32.add_zero] at hi
      exact hi
    have yes : selq (μ.1 50) (μ.1 54 p) p who q → wX12_meanOf_J100 μ K (wX12_meanOf_L9 μ (Int32.ofNat p) (Int32.ofNat who) (Int32.ofNat s) K K1 (r + 1)) (Int32.ofNat p) (Int32.ofNat who) (Int32.ofNat s) (meanSum (μ.1 50) (μ.1 54 p) (fun q => μ.1 57 (16 * s + q)) p who q) (meanCnt (μ.1 50) (μ.1 54 p) p who q) (Int32.ofNat q) := by
      intro z
      rw [if_pos z, if_pos z] at hi
      exact t_lengthAt hs hq hi
    by_cases hb : bitq (μ.1 54 p) q
    · refine ⟨fun _ => ?_, fun z => absurd hb (b01_z.mp z)⟩
      have w0 : Int32.ofNat who = 0 ↔ who = 0 := n32_eq (b := 0) (by omega) (by omega)
      have w1 : Int32.ofNat who = 1 ↔ who = 1 := n32_eq (b := 1) (by omega) (by omega)
      have w2 : Int32.ofNat who = 2 ↔ who = 2 := n32_eq (b := 2) (by omega) (by omega)
      have J76 : (who = 0 → μ.1 50 p < μ.1 50 q) → (who = 1 → μ.1 50 q < μ.1 50 p) → wX12_meanOf_J76 μ K (wX12_meanOf_L9 μ (Int32.ofNat p) (Int32.ofNat who) (Int32.ofNat s) K K1 (r + 1)) (Int32.ofNat p) (Int32.ofNat who) (Int32.ofNat s) (meanSum (μ.1 50) (μ.1 54 p) (fun q => μ.1 57 (16 * s + q)) p who q) (meanCnt (μ.1 50) (μ.1 54 p) p who q) (Int32.ofNat q) := by
        intro h0 h1
        unfold wX12_meanOf_J76
        rw [n32_nat (show p < 2 ^ 31 by omega), n32_nat (show q < 2 ^ 31 by omega)]
        refine ⟨fun z => yes ⟨hb, h0, h1, fun z2 => absurd (w2.mpr z2) z⟩, fun z => ⟨hvq, hvp, fun a => yes ⟨hb, h0, h1, fun _ => a⟩, fun a => no fun z3 => a (z3.2.2.2 (w2.mp z))⟩⟩
      have J55 : (who = 0 → μ.1 50 p < μ.1 50 q) → wX12_meanOf_J55 μ K (wX12_meanOf_L9 μ (Int32.ofNat p) (Int32.ofNat who) (Int32.ofNat s) K K1 (r + 1)) (Int32.ofNat p) (Int32.ofNat who) (Int32.ofNat s) (meanSum (μ.1 50) (μ.1 54 p) (fun q => μ.1 57 (16 * s + q)) p who q) (meanCnt (μ.1 50) (μ.1 54 p) p who q) (Int32.ofNat q) := by
        intro h0
        unfold wX12_meanOf_J55
        rw [n32_nat (show p < 2 ^ 31 by omega), n32_nat (show q < 2 ^ 31 by omega)]
        refine ⟨fun z => J76 h0 (fun z2 => absurd (w1.mpr z2) z), fun z => ⟨hvq, hvp, fun a => no fun z3 => absurd (z3.2.2.1 (w1.mp z)) (Int32.not_lt.mpr a), fun a => J76 h0 (fun _ => Int32.not_le.mp a)⟩⟩
      rw [n32_nat (show q < 2 ^ 31 by omega)]
      refine ⟨fun z => J55 (fun z2 => absurd (w0.mpr z2) z), fun z => ⟨hvq, hvp, fun a => no fun z3 => absurd (z3.2.1 (w0.mp z)) (Int32.not_lt.mpr a), fun a => J55 (fun _ => Int32.not_le.mp a)⟩⟩
    · exact ⟨fun z => absurd (b01_ne.mp z) hb, fun _ => no fun z => hb z.1⟩
theorem t_meanOf {μ : hx_M} {n s p who : Nat} {K : Int32 → Prop} (hn : μ.1 49 0 = Int32.ofNat n) (hn16 : n ≤ 16) (hs : s ≤ 300) (hp : p < n) (hw : who < 4) (h : K (meanW (μ.1 50) (μ.1 54 p) (fun q => μ.1 57 (16 * s + q)) p who n)) : wX12_meanOf μ (Int32.ofNat p) (Int32.ofNat who) (Int32.ofNat s) K := by
  unfold wX12_meanOf
  refine ⟨n + 1, t_meanOf_L hn hn16 hs hp hw ?_ n 0 (by omega)⟩
  unfold meanW at h
  refine ⟨fun z => ?_, fun z => ?_⟩
  · rw [if_neg z] at h; exact ⟨z, h⟩
  · rw [if_pos z] at h; exact h
