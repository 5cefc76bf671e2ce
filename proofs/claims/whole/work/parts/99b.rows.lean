/-! layer 2: images, the reference's row -/
theorem lays_L2 {Λ : hx_L} {μ : hx_M} {c N n P : Nat} {K K1 : hx_M → Prop} (hs : Λ.1 c = (1, N)) (hn : n ≤ N) (hN : N ≤ 5000) (hP : P + n ≤ 45000) (h90 : c ≠ 90) (e66 : μ.1 49 66 = Int32.ofNat P) (k : ∀ m, (∀ k, k ≠ 90 → m.1 k = μ.1 k) → m.2 = μ.2 → (∀ j, m.1 90 j = if P ≤ j ∧ j < P + n then μ.1 c (j - P) else μ.1 90 j) → K1 m) : ∀ (r i : Nat) (m : hx_M), i + r = n → (∀ k, k ≠ 90 → m.1 k = μ.1 k) → m.2 = μ.2 → (∀ j, m.1 90 j = if P ≤ j ∧ j < P + i then μ.1 c (j - P) else μ.1 90 j) → wX12_lays_L2 Λ c (Int32.ofNat n) K K1 (r + 1) (Int32.ofNat i) m := by
  intro r
  induction r with
  | zero =>
    intro i m e h1 h2 h3
    obtain rfl : i = n := by omega
    unfold wX12_lays_L2
    exact selT (Int32.le_refl _) (k m h1 h2 h3)
  | succ r ih =>
    intro i m e h1 h2 h3
    unfold wX12_lays_L2
    rw [h1 49 (by omega), e66, n32_add, n32_nat (by omega), n32_nat (by omega), n32_add1, h1 c h90]
    refine selF (fun z => by have := (n32_le (by omega) (by omega)).mp z; omega) ⟨N, hs, n32_in (by omega) (by omega), n32_in (by omega) (by omega), ih (i + 1) _ (by omega) (fun k hk => by rw [sIk hk]; exact h1 k hk) h2 (fun j => ?_)⟩
    rw [hm_sI, h3]
    by_cases e : j = P + i
    · subst e
      rw [if_pos ⟨rfl, rfl⟩, if_pos (by omega), show P + i - P = i by omega]
    · rw [if_neg (fun z => e z.2)]
      by_cases c2 : P ≤ j ∧ j < P + i
      · rw [if_pos c2, if_pos (by omega)]
      · rw [if_neg c2, if_neg (by omega)]
/-- laid so far, from a base on: the row to be is F -/
def LDS (base P : Nat) (F : Nat → Int32) (ν m : hx_M) : Prop := (∀ k, k ≠ 49 → k ≠ 90 → m.1 k = ν.1 k) ∧ (∀ j, j ≠ 66 → m.1 49 j = ν.1 49 j) ∧ m.1 49 66 = Int32.ofNat (base + P) ∧ m.2 = ν.2 ∧ (∀ j, j < P → m.1 90 (base + j) = F j) ∧ (∀ j, j < base ∨ base + P ≤ j → m.1 90 j = ν.1 90 j)
theorem LDS.lay {Λ : hx_L} {ν m : hx_M} {c N n base P : Nat} {F : Nat → Int32} {K : hx_M → Prop} (h : LDS base P F ν m) (hs : Λ.1 c = (1, N)) (hn : n ≤ N) (hN : N ≤ 5000) (hP : base + P + n ≤ 45000) (h90 : c ≠ 90) (h49 : c ≠ 49) (hF : ∀ i, i < n → F (P + i) = ν.1 c i) (k : ∀ m', LDS base (P + n) F ν m' → K m') : wX12_lays Λ m c (Int32.ofNat n) K := by
  obtain ⟨h1, h2, h3, h4, h5, h6⟩ := h
  unfold wX12_lays
  refine ⟨n + 1, lays_L2 hs hn hN (P := base + P) (by omega) h90 h3 (fun m1 g1 g2 g3 => k _ ?_) n 0 m (by omega) (fun _ _ => rfl) rfl (fun j => by rw [if_neg (by omega)])⟩
  have e66 : m1.1 49 66 = Int32.ofNat (base + P) := by rw [g1 49 (by omega)]; exact h3
  rw [e66, n32_add]
  refine ⟨fun i a b => by rw [sIk a, g1 i b]; exact h1 i a b, fun j hj => by rw [sIj hj, g1 49 (by omega)]; exact h2 j hj, by rw [sIe, Nat.add_assoc], by rw [sIk2, g2]; exact h4, fun j hj => ?_, fun j hj => ?_⟩
  · rw [sIk (by omega), g3]
    by_cases c1 : j < P
    · rw [if_neg (by omega)]; exact h5 j c1
    · rw [if_pos (by omega), h1 c h49 h90, show base + j - (base + P) = j - P by omega, ← hF (j - P) (by omega), show P + (j - P) = j by omega]
  · rw [sIk (by omega), g3, if_neg (by omega)]
    exact h6 j (by omega)
theorem fetches_L2 {Λ : hx_L} {μ : hx_M} {c N n P : Nat} {K K1 : hx_M → Prop} (hs : Λ.1 c = (1, N)) (hn : n ≤ N) (hN : N ≤ 5000) (hP : P + n ≤ 45000) (h90 : c ≠ 90) (h49 : c ≠ 49) (e66 : μ.1 49 66 = Int32.ofNat P) (k : ∀ m, (∀ k, k ≠ c → m.1 k = μ.1 k) → m.2 = μ.2 → (∀ j, j < n → m.1 c j = μ.1 90 (P + j)) → K1 m) : ∀ (r i : Nat) (m : hx_M), i + r = n → (∀ k, k ≠ c → m.1 k = μ.1 k) → m.2 = μ.2 → (∀ j, j < i → m.1 c j = μ.1 90 (P + j)) → wX12_fetches_L2 Λ c (Int32.ofNat n) K K1 (r + 1) (Int32.ofNat i) m := by
  intro r
  induction r with
  | zero =>
    intro i m e h1 h2 h3
    obtain rfl : i = n := by omega
    unfold wX12_fetches_L2
    exact selT (Int32.le_refl _) (k m h1 h2 h3)
  | succ r ih =>
    intro i m e h1 h2 h3
    unfold wX12_fetches_L2
    rw [h1 49 h49.symm, e66, n32_add, n32_nat (by omega), n32_nat (by omega), n32_add1, h1 90 h90.symm]
    refine selF (fun z => by have := (n32_le (by omega) (by omega)).mp z; omega) ⟨n32_in (by omega) (by omega), N, hs, n32_in (by omega) (by omega), ih (i + 1) _ (by omega) (fun k hk => by rw [sIk hk]; exact h1 k hk) h2 (fun j hj => ?_)⟩
    by_cases e : j = i
    · subst e
      rw [sIe]
    · rw [sIj e]; exact h3 j (by omega)
/-- fetched so far: cell, place, how many -/
def FE (base P : Nat) (segs : List (Nat × Nat × Nat)) (ν m : hx_M) : Prop := (∀ k, k ≠ 49 → (∀ s ∈ segs, s.1 ≠ k) → m.1 k = ν.1 k) ∧ (∀ j, j ≠ 66 → m.1 49 j = ν.1 49 j) ∧ m.1 49 66 = Int32.ofNat (base + P) ∧ m.2 = ν.2 ∧ (∀ s ∈ segs, ∀ i, i < s.2.2 → m.1 s.1 i = ν.1 90 (base + s.2.1 + i))
theorem FE.fetch {Λ : hx_L} {ν m : hx_M} {c N n base P : Nat} {segs : List (Nat × Nat × Nat)} {K : hx_M → Prop} (h : FE base P segs ν m) (hs : Λ.1 c = (1, N)) (hn : n ≤ N) (hN : N ≤ 5000) (hP : base + P + n ≤ 45000) (h90 : c ≠ 90) (h49 : c ≠ 49) (hc : ∀ s ∈ segs, s.1 ≠ c) (hs9 : ∀ s ∈ segs, s.1 ≠ 90 ∧ s.1 ≠ 49) (k : ∀ m', FE base (P + n) ((c, P, n) :: segs) ν m' → K m') : wX12_fetches Λ m c (Int32.ofNat n) K := by
  obtain ⟨h1, h2, h3, h4, h5⟩ := h
  unfold wX12_fetches
  refine ⟨n + 1, fetches_L2 hs hn hN (P := base + P) (by omega) h90 h49 h3 (fun m1 g1 g2 g3 => k _ ?_) n 0 m (by omega) (fun _ _ => rfl) rfl (fun j hj => by omega)⟩
  have e66 : m1.1 49 66 = Int32.ofNat (base + P) := by rw [g1 49 h49.symm]; exact h3
  rw [e66, n32_add]
  refine ⟨fun i a b => ?_, fun j hj => by rw [sIj hj, g1 49 h49.symm]; exact h2 j hj, by rw [sIe, Nat.add_assoc], by rw [sIk2, g2]; exact h4, fun s hs i hi => ?_⟩
  · have := b (c, P, n) List.mem_cons_self
    rw [sIk a, g1 i (fun z => this z.symm)]
    exact h1 i a (fun s hs => b s (List.mem_cons_of_mem _ hs))
  · rcases List.mem_cons.mp hs with rfl | hs'
    · show (hx_sI m1 49 66 _).1 c i = ν.1 90 (base + P + i)
      rw [sIk h49, g3 i hi, h1 90 (by omega) (fun s hs => (hs9 s hs).1)]
    · rw [sIk (hs9 s hs').2, g1 s.1 (hc s hs')]
      exact h5 s hs' i hi
/-- a row's world depends on its first numbers alone -/
theorem MIr_fr {b b' : Nat → Int32} {z : Int64} {a : hw_T} (w : WF 200 a) (hb : ∀ j, j < 14117 → b' j = b j) (h : MW a (MIr b z)) : MW a (MIr b' z) := by
  have hn := w.n
  have hs := w.s
  have hft := w.ft
  obtain ⟨h1, h2, h3, h4, h5, h6, h7, h8, h9, h10, h11⟩ := h
  refine ⟨⟨?_, ?_, ?_⟩, ⟨?_, ?_, ?_, h2.2.2.2⟩, fun p hp => ⟨?_, ?_, ?_, ?_, ?_⟩, fun k hk => ?_, fun t p ht hp => ?_, fun t p t1 ht hp => ⟨?_, ?_, ?_⟩, fun h hh => ?_, fun t h ht hh => ?_, ?_, fun t ht => ?_, fun k hk => ⟨?_, ?_, ?_⟩⟩
  · exact (hb 0 (by omega)).trans h1.1
  · exact (hb 1 (by omega)).trans h1.2.1
  · exact (hb 6 (by omega)).trans h1.2.2
  · exact (hb 3 (by omega)).trans h2.1
  · exact (hb 4 (by omega)).trans h2.2.1
  · exact (hb 5 (by omega)).trans h2.2.2.1
  · exact (hb (8 + p) (by omega)).trans (h3 p hp).1
  · exact (hb (24 + p) (by omega)).trans (h3 p hp).2.1
  · exact (hb (72 + p) (by omega)).trans (h3 p hp).2.2.1
  · exact (hb (40 + p) (by omega)).trans (h3 p hp).2.2.2.1
  · exact (hb (56 + p) (by omega)).trans (h3 p hp).2.2.2.2
  · exact (hb (92 + k) (by omega)).trans (h4 k hk)
  · exact (hb (248 + (16 * t + p)) (by omega)).trans (h5 t p ht hp)
  · exact (hb (3464 + (16 * t + p)) (by omega)).trans (h6 t p t1 ht hp).1
  · exact (hb (6680 + (16 * t + p)) (by omega)).trans (h6 t p t1 ht hp).2.1
  · exact (hb (9896 + (16 * t + p)) (by omega)).trans (h6 t p t1 ht hp).2.2
  · exact (hb (88 + h) (by omega)).trans (h7 h hh)
  · exact (hb (13112 + (4 * t + h)) (by omega)).trans (h8 t h ht hh)
  · exact (hb 2 (by omega)).trans h9
  · exact (hb (13916 + t) (by omega)).trans (h10 t ht)
  · exact (hb (208 + k) (by omega)).trans (h11 k hk).1
  · exact (hb (188 + k) (by omega)).trans (h11 k hk).2.1
  · exact (hb (228 + k) (by omega)).trans (h11 k hk).2.2
