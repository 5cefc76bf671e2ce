/-! layer 2: streets, the reference; street -/
theorem n32_ushrk {a k : Nat} (h : a < 2 ^ 31) (hk : k < 32) (e : (Int32.ofNat k).toUInt32 &&& Int32.toUInt32 31 = UInt32.ofNat k) : (((Int32.ofNat a).toUInt32 >>> ((Int32.ofNat k).toUInt32 &&& Int32.toUInt32 31)).toInt32) = Int32.ofNat (a / 2 ^ k) := by
  apply Int32.toBitVec_inj.mp
  apply BitVec.eq_of_toNat_eq
  show ((Int32.ofNat a).toUInt32 >>> ((Int32.ofNat k).toUInt32 &&& Int32.toUInt32 31)).toNat = (BitVec.ofNat 32 (a / 2 ^ k)).toNat
  have ek : (UInt32.ofNat k).toNat % 32 = k := by
    rw [UInt32.toNat_ofNat']
    omega
  rw [e, UInt32.toNat_shiftRight, n32_tb (by omega), ek, Nat.shiftRight_eq_div_pow, BitVec.toNat_ofNat]
  have := Nat.div_le_self a (2 ^ k)
  exact (Nat.mod_eq_of_lt (Nat.lt_of_le_of_lt this (by omega))).symm
/-- bits of a number under 65536, counted by halves -/
def pop1 (S : Nat) : Nat := S - ((S / 2) &&& 1431655765)
def pop2 (v : Nat) : Nat := (v &&& 858993459) + ((v / 4) &&& 858993459)
def pop3 (v : Nat) : Nat := (v + v / 16) &&& 252645135
def popN (S : Nat) : Nat := (pop3 (pop2 (pop1 S)) + pop3 (pop2 (pop1 S)) / 256 + (pop3 (pop2 (pop1 S)) + pop3 (pop2 (pop1 S)) / 256) / 65536) &&& 63
def popR (S : Nat) : Nat := S % 2 + S / 2 % 2 + S / 4 % 2 + S / 8 % 2 + S / 16 % 2 + S / 32 % 2 + S / 64 % 2 + S / 128 % 2 + S / 256 % 2 + S / 512 % 2 + S / 1024 % 2 + S / 2048 % 2 + S / 4096 % 2 + S / 8192 % 2 + S / 16384 % 2 + S / 32768 % 2
def popOk : Nat → Nat → Bool
  | 0, _ => true
  | r + 1, S => (Nat.beq (popN S) (popR S)) && popOk r (S + 1)
theorem popOk_s : ∀ (r S : Nat), popOk r S = true → ∀ i, i < r → popN (S + i) = popR (S + i)
  | 0, _, _, i, hi => by omega
  | r + 1, S, h, i, hi => by
    unfold popOk at h
    rw [Bool.and_eq_true] at h
    by_cases e : i = 0
    · rw [e, Nat.add_zero]; exact Nat.eq_of_beq_eq_true h.1
    · have := popOk_s r (S + 1) h.2 (i - 1) (by omega)
      rw [show S + 1 + (i - 1) = S + i by omega] at this
      exact this
def popAll : Nat → Bool
  | 0 => true
  | r + 1 => popOk 256 (r * 256) && popAll r
theorem popAll_s : ∀ (r : Nat), popAll r = true → ∀ S, S < r * 256 → popN S = popR S
  | 0, _, S, hS => by omega
  | r + 1, h, S, hS => by
    unfold popAll at h
    rw [Bool.and_eq_true] at h
    by_cases c : S < r * 256
    · exact popAll_s r h.2 S c
    · have := popOk_s 256 (r * 256) h.1 (S - r * 256) (by omega)
      rw [show r * 256 + (S - r * 256) = S by omega] at this
      exact this
theorem pop_all : popAll 256 = true := by decide +kernel
theorem pop_eq {S : Nat} (h : S < 65536) : popN S = popR S := popAll_s 256 pop_all S (by omega)
