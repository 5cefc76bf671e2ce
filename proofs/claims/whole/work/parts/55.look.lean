/-! layer 2: the class's means -/
theorem n32_any (x : Int32) : ∃ k : Nat, x = Int32.ofNat k := ⟨x.toBitVec.toNat, by
  apply Int32.toBitVec_inj.mp
  rw [n32_bv, BitVec.ofNat_toNat, BitVec.setWidth_eq]⟩
theorem and1 (x : Int32) : x &&& 1 = 0 ∨ x &&& 1 = 1 := by
  obtain ⟨k, rfl⟩ := n32_any x
  have h : Int32.ofNat k &&& 1 = Int32.ofNat (k &&& 1) := n32_and (b := 1)
  rw [h, Nat.and_one_is_mod]
  rcases Nat.mod_two_eq_zero_or_one k with h | h <;> rw [h]
  · exact Or.inl rfl
  · exact Or.inr rfl
theorem n32_sub {a b : Nat} (ha : a < 2 ^ 30) (hb : b < 2 ^ 30) : (Int32.ofNat a - Int32.ofNat b).toInt = (a : Int) - b := by
  rw [Int32.toInt_sub, Int32.toInt_ofNat_of_lt (by omega), Int32.toInt_ofNat_of_lt (by omega)]
  apply Int.bmod_eq_of_le <;> omega
theorem n32_sub_le {a b : Nat} (ha : a < 2 ^ 30) (hb : b < 2 ^ 30) : Int32.ofNat a - Int32.ofNat b ≤ 0 ↔ Int32.ofNat a ≤ Int32.ofNat b := by
  rw [Int32.le_iff_toInt_le, n32_sub ha hb, n32_le (by omega) (by omega)]
  have : (0 : Int32).toInt = 0 := rfl
  rw [this]
  omega
theorem n32_sub_ge {a b : Nat} (ha : a < 2 ^ 30) (hb : b < 2 ^ 30) : 0 ≤ Int32.ofNat a - Int32.ofNat b ↔ Int32.ofNat b ≤ Int32.ofNat a := by
  rw [Int32.le_iff_toInt_le, n32_sub ha hb, n32_le (by omega) (by omega)]
  have : (0 : Int32).toInt = 0 := rfl
  rw [this]
  omega
/-- the same but for two cells of ints -/
abbrev off2 (a b : Nat) (μ m : hx_M) : Prop := (∀ k, k ≠ a → k ≠ b → m.1 k = μ.1 k) ∧ m.2 = μ.2
theorem off2_sI {a b k j : Nat} {μ m : hx_M} {v : Int32} (h : off2 a b μ m) (hk : k = a ∨ k = b) : off2 a b μ (hx_sI m k j v) := by
  refine ⟨fun i h1 h2 => ?_, h.2⟩
  have : i ≠ k := by rcases hk with rfl | rfl <;> assumption
  show (if i = k then _ else m.1 i) = μ.1 i
  rw [if_neg this]
  exact h.1 i h1 h2
theorem off2_sA {a b k : Nat} {μ m : hx_M} {f : Nat → Int32} (h : off2 a b μ m) (hk : k = a ∨ k = b) : off2 a b μ (hx_sA m k f) := by
  refine ⟨fun i h1 h2 => ?_, h.2⟩
  have : i ≠ k := by rcases hk with rfl | rfl <;> assumption
  show (if i = k then _ else m.1 i) = μ.1 i
  rw [if_neg this]
  exact h.1 i h1 h2
