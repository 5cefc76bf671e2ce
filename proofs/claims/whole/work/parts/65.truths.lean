/-! layer 2: truths in bits -/
theorem nat2 {x y : Nat} (h1 : x / 2 = y / 2) (h2 : x % 2 = 1 ↔ y % 2 = 1) : x = y := by omega
theorem n32_mask {x k : Nat} : Int32.ofNat x &&& Int32.ofNat (2 ^ k - 1) = Int32.ofNat (x % 2 ^ k) := by
  rw [n32_and, Nat.and_two_pow_sub_one_eq_mod]
theorem n32_ushr1 {a : Nat} (h : a < 2 ^ 32) : (((Int32.ofNat a).toUInt32 >>> ((1 : Int32).toUInt32 &&& Int32.toUInt32 31)).toInt32) = Int32.ofNat (a / 2) := by
  apply Int32.toBitVec_inj.mp
  apply BitVec.eq_of_toNat_eq
  show ((Int32.ofNat a).toUInt32 >>> ((1 : Int32).toUInt32 &&& Int32.toUInt32 31)).toNat = (BitVec.ofNat 32 (a / 2)).toNat
  have e : (1 : Int32).toUInt32 &&& Int32.toUInt32 31 = 1 := by decide
  rw [e, UInt32.toNat_shiftRight, n32_tb h]
  simp [Nat.shiftRight_eq_div_pow]
  omega
/-- truths, the latest lowest, under a one -/
def tru : List Bool → Nat
  | [] => 1
  | x :: r => 2 * tru r + (if x then 1 else 0)
theorem tru_lt : ∀ b : List Bool, tru b < 2 ^ (b.length + 1)
  | [] => by decide
  | x :: r => by
    have := tru_lt r
    simp only [tru, List.length_cons, Nat.pow_succ] at *
    split <;> omega
theorem tru_21 {b : List Bool} (h : b.length ≤ 20) : tru b < 2 ^ 21 := Nat.lt_of_lt_of_le (tru_lt b) (Nat.pow_le_pow_right (by omega) (by omega))
theorem tru_d (x : Bool) (r : List Bool) : tru (x :: r) / 2 = tru r := by
  simp only [tru]
  split <;> omega
theorem tru_m (x : Bool) (r : List Bool) : tru (x :: r) % 2 = 1 ↔ x = true := by
  simp only [tru]
  split <;> rename_i h <;> simp [h] <;> omega
theorem tru_not (x : Bool) (r : List Bool) : tru (x :: r) ^^^ 1 = tru ((!x) :: r) := by
  apply nat2
  · rw [Nat.xor_div_two, tru_d, tru_d]
    simp
  · rw [Nat.xor_mod_two_eq_one, tru_m, tru_m]
    cases x <;> simp
theorem tru_or (x y : Bool) (r : List Bool) : (tru (x :: y :: r) / 2) ||| (tru (x :: y :: r) &&& 1) = tru ((y || x) :: r) := by
  rw [tru_d]
  apply nat2
  · rw [Nat.or_div_two, Nat.and_div_two, tru_d, tru_d, tru_d]
    simp
  · rw [Nat.or_mod_two_eq_one, Nat.and_mod_two_eq_one, tru_m, tru_m, tru_m]
    cases x <;> cases y <;> simp
theorem tru_and (x y : Bool) (r : List Bool) (h : r.length ≤ 20) : (tru (x :: y :: r) / 2) &&& ((tru (x :: y :: r) &&& 1) ||| 4294967294) = tru ((y && x) :: r) := by
  have ht := tru_21 h
  rw [tru_d]
  apply nat2
  · rw [Nat.and_div_two, Nat.or_div_two, Nat.and_div_two, tru_d, tru_d, tru_d]
    have : (4294967294 / 2 : Nat) = 2 ^ 31 - 1 := by decide
    rw [this, show (1 / 2 : Nat) = 0 from rfl, Nat.and_zero, Nat.zero_or, Nat.and_two_pow_sub_one_eq_mod, Nat.mod_eq_of_lt (by omega)]
  · rw [Nat.and_mod_two_eq_one, Nat.or_mod_two_eq_one, Nat.and_mod_two_eq_one, tru_m, tru_m, tru_m]
    cases x <;> cases y <;> simp
theorem tru_push (x : Bool) (r : List Bool) : (tru r * 2) ||| (if x then 1 else 0) = tru (x :: r) := by
  apply nat2
  · rw [Nat.or_div_two, tru_d]
    cases x <;> simp
  · rw [Nat.or_mod_two_eq_one, tru_m]
    cases x <;> simp
/-- a step told as a number -/
theorem stepD {w t g : Nat} (hw : w < 12) (ht : t ≤ 9999) (hg : g < 128) : (Int32.ofNat (t * 2048 + g * 16 + w) &&& 15 = Int32.ofNat w) ∧ (Int32.ofNat (t * 2048 + g * 16 + w) >>> (4 &&& 31)) &&& 127 = Int32.ofNat g ∧ Int32.ofNat (t * 2048 + g * 16 + w) >>> (11 &&& 31) = Int32.ofNat t := by
  have e4 : (4 : Int32) &&& 31 = Int32.ofNat 4 := by decide
  have e11 : (11 : Int32) &&& 31 = Int32.ofNat 11 := by decide
  have e15 : (15 : Int32) = Int32.ofNat (2 ^ 4 - 1) := rfl
  have e127 : (127 : Int32) = Int32.ofNat (2 ^ 7 - 1) := rfl
  rw [e4, e11, e15, e127, n32_shr (by omega) (by omega), n32_shr (by omega) (by omega), n32_mask, n32_mask]
  refine ⟨?_, ?_, ?_⟩ <;> congr 1 <;> omega
theorem n32_nn {x : Nat} (h : x < 2 ^ 31) : ¬ Int32.ofNat x < 0 := fun z => by
  have := (n32_lt (b := 0) h (by omega)).mp z
  omega
theorem n32_neg {x : Nat} {v : Int32} (h : x < 2 ^ 31) (hv : v < 0) : Int32.ofNat x ≠ v := fun z => n32_nn h (z ▸ hv)
/-! what the steps of a law come to -/
def ev1 (ans : Nat → Int32) (b : List Bool) (s : hl_S) : List Bool :=
  if s.1 = 0 then decide (ans s.2.1 < Int32.ofNat s.2.2) :: b else if s.1 = 1 then decide (Int32.ofNat s.2.2 < ans s.2.1) :: b else if s.1 = 2 then decide (ans s.2.1 = Int32.ofNat s.2.2) :: b
  else if s.1 = 3 then (match b with | x :: y :: r => (y || x) :: r | r => r) else if s.1 = 4 then (match b with | x :: y :: r => (y && x) :: r | r => r) else (match b with | x :: r => (!x) :: r | r => r)
def evL (ans : Nat → Int32) : List Bool → List hl_S → List Bool
  | b, [] => b
  | b, s :: r => evL ans (ev1 ans b s) r
/-- whether an ANY holds; one without steps does -/
def hl_holds (ans : Nat → Int32) (st : List hl_S) : Bool := match evL ans [] st with | [] => true | v :: _ => v
theorem evL_one {ans : Nat → Int32} : ∀ {st : List hl_S} {b : List Bool}, hl_okS b.length st → ∃ v, evL ans b st = [v]
  | [], b, h => by
    match b, h with
    | [v], _ => exact ⟨v, rfl⟩
  | s :: r, b, h => by
    unfold evL
    refine evL_one (st := r) ?_
    unfold hl_okS at h
    rcases h with ⟨h1, h2, h3, h4, h5⟩ | ⟨h1, h2, h3⟩ | ⟨h1, h2, h3⟩
    · have : s.1 = 0 ∨ s.1 = 1 ∨ s.1 = 2 := by omega
      rcases this with e | e | e <;> simpa [ev1, e] using h5
    · match b, h2, h3 with
      | x :: y :: r', _, h3 => rcases h1 with e | e <;> simpa [ev1, e] using h3
    · match b, h2, h3 with
      | x :: r', _, h3 => simpa [ev1, h1] using h3
theorem holds_one {ans : Nat → Int32} {st : List hl_S} {v : Bool} (h : evL ans [] st = [v]) : hl_holds ans st = v := by
  unfold hl_holds
  rw [h]
