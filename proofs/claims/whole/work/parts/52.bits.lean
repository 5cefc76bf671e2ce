/-! layer 2: bits of small numbers -/
theorem n32_tb {x : Nat} (h : x < 2 ^ 32) : (Int32.ofNat x).toUInt32.toNat = x := by
  show (x % 2 ^ 32) = x
  exact Nat.mod_eq_of_lt h
theorem n32_bv {a : Nat} : (Int32.ofNat a).toBitVec = BitVec.ofNat 32 a := rfl
theorem n32_and {a b : Nat} : Int32.ofNat a &&& Int32.ofNat b = Int32.ofNat (a &&& b) := by
  apply Int32.toBitVec_inj.mp
  rw [Int32.toBitVec_and, n32_bv, n32_bv, n32_bv, BitVec.ofNat_and]
theorem n32_or {a b : Nat} : Int32.ofNat a ||| Int32.ofNat b = Int32.ofNat (a ||| b) := by
  apply Int32.toBitVec_inj.mp
  rw [Int32.toBitVec_or, n32_bv, n32_bv, n32_bv, BitVec.ofNat_or]
theorem n32_xor {a b : Nat} : Int32.ofNat a ^^^ Int32.ofNat b = Int32.ofNat (a ^^^ b) := by
  apply Int32.toBitVec_inj.mp
  rw [Int32.toBitVec_xor, n32_bv, n32_bv, n32_bv, BitVec.ofNat_xor]
theorem n32_sm : ∀ k : Nat, k < 32 → ((BitVec.ofNat 32 k).smod 32).toNat = k := by decide +kernel
theorem n32_shl {a k : Nat} (hk : k < 32) : Int32.ofNat a <<< Int32.ofNat k = Int32.ofNat (a * 2 ^ k) := by
  apply Int32.toBitVec_inj.mp
  rw [Int32.toBitVec_shiftLeft, n32_bv, n32_bv, n32_bv]
  apply BitVec.eq_of_toNat_eq
  rw [BitVec.shiftLeft_eq', BitVec.toNat_shiftLeft, n32_sm k hk]
  simp [Nat.shiftLeft_eq, Nat.mod_mul_mod]
theorem n32_shr {a k : Nat} (ha : a < 2 ^ 31) (hk : k < 32) : Int32.ofNat a >>> Int32.ofNat k = Int32.ofNat (a / 2 ^ k) := by
  apply Int32.toBitVec_inj.mp
  rw [Int32.toBitVec_shiftRight, n32_bv, n32_bv, n32_bv, BitVec.sshiftRight_eq', n32_sm k hk]
  apply BitVec.eq_of_toNat_eq
  have hm : (BitVec.ofNat 32 a).msb = false := by
    rw [BitVec.msb_eq_decide]
    simp
    omega
  rw [BitVec.sshiftRight_eq_of_msb_false hm]
  have h1 : a / 2 ^ k ≤ a := Nat.div_le_self _ _
  simp [Nat.shiftRight_eq_div_pow]
  rw [Nat.mod_eq_of_lt (by omega), Nat.mod_eq_of_lt (by omega)]
theorem n32_m31 {k : Nat} (hk : k < 32) : Int32.ofNat k &&& 31 = Int32.ofNat k := by
  have h : ∀ k : Nat, k < 32 → Int32.ofNat k &&& 31 = Int32.ofNat k := by decide +kernel
  exact h k hk
