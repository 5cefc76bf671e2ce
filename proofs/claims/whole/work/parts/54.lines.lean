/-! layer 2: lines -/
theorem n32_ne0 {n : Nat} (h : 0 < n) (h2 : n < 2 ^ 31) : ¬ Int32.ofNat n = 0 := fun z => by
  have := (n32_eq (b := 0) h2 (by omega)).mp z
  omega
/-- the lengths of a row of the reference, added -/
abbrev rowM (μ : hx_M) (s n : Nat) : Int32 := sumN (fun q => μ.1 57 (16 * s + q)) n
theorem t_lineAt_L {μ : hx_M} {n s : Nat} {K K1 : Int32 → Prop} (hn : μ.1 49 0 = Int32.ofNat n) (hn16 : n ≤ 16) (hs : s ≤ 300) (h : K1 (rowM μ s n)) : ∀ (r q : Nat), q + r = n → wX12_lineAt_L4 μ (Int32.ofNat s) K K1 (r + 1) (rowM μ s q) (Int32.ofNat q) := by
  intro r
  induction r with
  | zero =>
    intro q e
    have hq : q = n := by omega
    subst hq
    unfold wX12_lineAt_L4
    rw [hn]
    exact ⟨fun _ => h, fun z => absurd ((n32_le (by omega) (by omega)).mpr (Nat.le_refl _)) z⟩
  | succ r ih =>
    intro q e
    have hi := ih (q + 1) (by omega)
    rw [← n32_add1] at hi
    unfold wX12_lineAt_L4
    rw [hn]
    exact ⟨fun z => absurd ((n32_le (by omega) (by omega)).mp z) (by omega), fun _ => t_lengthAt hs (by omega) hi⟩
theorem t_lineAtM {μ : hx_M} {n s : Nat} {K : Int32 → Prop} (hn : μ.1 49 0 = Int32.ofNat n) (hn16 : n ≤ 16) (h0 : 0 < n) (hs : s ≤ 300) (h : K ((100 * rowM μ s n) / Int32.ofNat n)) : wX12_lineAt μ (Int32.ofNat s) K := by
  unfold wX12_lineAt
  refine ⟨n + 1, t_lineAt_L hn hn16 hs ?_ n 0 (by omega)⟩
  rw [hn]
  exact ⟨n32_ne0 h0 (by omega), h⟩
theorem t_meanOfAll_L {μ : hx_M} {n s : Nat} {K : Int32 → Prop} (hn : μ.1 49 0 = Int32.ofNat n) (hn16 : n ≤ 16) (h0 : 0 < n) (hs : s ≤ 300) (h : K (rowM μ s n / Int32.ofNat n)) : ∀ (r q : Nat), q + r = n → wX12_meanOfAll_L17 μ (Int32.ofNat s) K (r + 1) (rowM μ s q) (Int32.ofNat q) := by
  intro r
  induction r with
  | zero =>
    intro q e
    have hq : q = n := by omega
    subst hq
    unfold wX12_meanOfAll_L17
    rw [hn]
    exact ⟨fun _ => ⟨n32_ne0 h0 (by omega), h⟩, fun z => absurd ((n32_le (by omega) (by omega)).mpr (Nat.le_refl _)) z⟩
  | succ r ih =>
    intro q e
    have hi := ih (q + 1) (by omega)
    rw [← n32_add1] at hi
    unfold wX12_meanOfAll_L17
    rw [hn]
    exact ⟨fun z => absurd ((n32_le (by omega) (by omega)).mp z) (by omega), fun _ => t_lengthAt hs (by omega) hi⟩
theorem t_lineAtC {μ : hx_M} {n s : Nat} {K : Int32 → Prop} (hn : μ.1 8 0 = Int32.ofNat n) (hn16 : n ≤ 16) (h0 : 0 < n) (hs : s ≤ 300) (h : K ((100 * μ.1 17 s) / Int32.ofNat n)) : wX10_lineAt μ (Int32.ofNat s) K := by
  unfold wX10_lineAt
  rw [hn, n32_nat (by omega), Int32.mul_comm]
  refine ⟨fun z => ?_, fun _ => ⟨n32_in (by omega) (by omega), n32_ne0 h0 (by omega), h⟩⟩
  have := (n32_le (b := 0) (by omega) (by omega)).mp z
  omega
theorem t_lineAtC0 {μ : hx_M} {v : Int32} {K : Int32 → Prop} (hn : μ.1 8 0 = 0) (h : K (-1)) : wX10_lineAt μ v K := by
  unfold wX10_lineAt
  rw [hn]
  exact ⟨fun _ => h, fun z => absurd (Int32.le_refl _) z⟩
