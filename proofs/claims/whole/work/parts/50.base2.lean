/-! layer 2: numbers and arrays -/
theorem n32_nat {a : Nat} (h : a < 2 ^ 31) : (Int32.ofNat a).toNatClampNeg = a := by
  have h1 : (Int32.ofNat a).toInt = a := Int32.toInt_ofNat_of_lt h
  show (Int32.ofNat a).toInt.toNat = a
  rw [h1]; rfl
theorem n32_lt {a b : Nat} (ha : a < 2 ^ 31) (hb : b < 2 ^ 31) : Int32.ofNat a < Int32.ofNat b ↔ a < b := by
  rw [Int32.lt_iff_toInt_lt, Int32.toInt_ofNat_of_lt ha, Int32.toInt_ofNat_of_lt hb]
  omega
theorem n32_le {a b : Nat} (ha : a < 2 ^ 31) (hb : b < 2 ^ 31) : Int32.ofNat a ≤ Int32.ofNat b ↔ a ≤ b := by
  rw [Int32.le_iff_toInt_le, Int32.toInt_ofNat_of_lt ha, Int32.toInt_ofNat_of_lt hb]
  omega
theorem n32_eq {a b : Nat} (ha : a < 2 ^ 31) (hb : b < 2 ^ 31) : Int32.ofNat a = Int32.ofNat b ↔ a = b := by
  rw [← Int32.toInt_inj, Int32.toInt_ofNat_of_lt ha, Int32.toInt_ofNat_of_lt hb]
  omega
theorem n32_add {a b : Nat} : Int32.ofNat a + Int32.ofNat b = Int32.ofNat (a + b) := (Int32.ofNat_add a b).symm
theorem n32_add1 {a : Nat} : Int32.ofNat a + 1 = Int32.ofNat (a + 1) := (Int32.ofNat_add a 1).symm
theorem n32_mul {a b : Nat} : Int32.ofNat a * Int32.ofNat b = Int32.ofNat (a * b) := (Int32.ofNat_mul a b).symm
theorem n32_in {m n : Nat} (h : m < n) (hm : m < 2 ^ 31) : vp_in (Int32.ofNat m) n := by
  intro h2
  rcases h2 with h2 | h2
  · have h3 := (n32_lt (a := m) (b := 0) hm (by decide)).mp h2
    omega
  · rw [n32_nat hm] at h2
    omega
/-- an int told to lie between two numbers is a number -/
theorem n32_of {v : Int32} {hi : Nat} (h0 : 0 ≤ v) (h1 : v ≤ Int32.ofNat hi) (hh : hi < 2 ^ 31) : ∃ n : Nat, v = Int32.ofNat n ∧ n ≤ hi := by
  have e0 := Int32.le_iff_toInt_le.mp h0
  have e1 := Int32.le_iff_toInt_le.mp h1
  rw [Int32.toInt_ofNat_of_lt hh] at e1
  have z0 : (0 : Int32).toInt = 0 := rfl
  rw [z0] at e0
  refine ⟨v.toInt.toNat, ?_, by omega⟩
  rw [← Int32.toInt_inj, Int32.toInt_ofNat_of_lt (by omega)]
  omega
theorem hm_ext {μ ν : hx_M} (h1 : ∀ k j, μ.1 k j = ν.1 k j) (h2 : ∀ k j, μ.2 k j = ν.2 k j) : μ = ν := Prod.ext (funext fun k => funext fun j => h1 k j) (funext fun k => funext fun j => h2 k j)
theorem hm_sI {μ : hx_M} {k j a b : Nat} {v : Int32} : (hx_sI μ k j v).1 a b = if a = k ∧ b = j then v else μ.1 a b := by
  unfold hx_sI upd
  by_cases h : a = k
  · by_cases h2 : b = j <;> simp [h, h2]
  · simp [h]
theorem hm_sI2 {μ : hx_M} {k j : Nat} {v : Int32} : (hx_sI μ k j v).2 = μ.2 := rfl
theorem hm_sA {μ : hx_M} {k a b : Nat} {f : Nat → Int32} : (hx_sA μ k f).1 a b = if a = k then f b else μ.1 a b := by
  unfold hx_sA
  by_cases h : a = k <;> simp [h]
theorem hm_sA2 {μ : hx_M} {k : Nat} {f : Nat → Int32} : (hx_sA μ k f).2 = μ.2 := rfl
theorem fillI_L {Λ : hx_L} {v0 n : Nat} {v1 : Int32} {K : hx_M → Prop} (hs : Λ.1 v0 = (1, n)) (hn : n < 2 ^ 31) : ∀ (r i : Nat) (μ : hx_M), i + r = n → K (hx_sA μ v0 (fun j => if i ≤ j ∧ j < n then v1 else μ.1 v0 j)) → wJ7_fill_53178_L5 Λ v0 v1 (Int32.ofNat n) K (r + 1) (Int32.ofNat i) μ := by
  intro r
  induction r with
  | zero =>
    intro i μ e hk
    have hi : i = n := by omega
    subst hi
    unfold wJ7_fill_53178_L5
    refine ⟨fun _ => ?_, fun h => absurd ((n32_le hn hn).mpr (Nat.le_refl _)) h⟩
    have he : hx_sA μ v0 (fun j => if i ≤ j ∧ j < i then v1 else μ.1 v0 j) = μ := by
      refine hm_ext (fun k j => ?_) (fun k j => rfl)
      rw [hm_sA]
      by_cases h : k = v0
      · subst h
        have : ¬ (i ≤ j ∧ j < i) := by omega
        simp [this]
      · simp [h]
    rw [he] at hk
    exact hk
  | succ r ih =>
    intro i μ e hk
    unfold wJ7_fill_53178_L5
    refine ⟨fun h => ?_, fun _ => ⟨n, hs, n32_in (by omega) (by omega), ?_⟩⟩
    · have h3 := (n32_le hn (by omega)).mp h
      omega
    · rw [n32_add1, n32_nat (by omega)]
      refine ih (i + 1) _ (by omega) ?_
      have he : hx_sA (hx_sI μ v0 i v1) v0 (fun j => if i + 1 ≤ j ∧ j < n then v1 else (hx_sI μ v0 i v1).1 v0 j) = hx_sA μ v0 (fun j => if i ≤ j ∧ j < n then v1 else μ.1 v0 j) := by
        refine hm_ext (fun k j => ?_) (fun k j => rfl)
        rw [hm_sA, hm_sA]
        by_cases h : k = v0
        · subst h
          rw [if_pos rfl, if_pos rfl, hm_sI]
          by_cases h1 : j = i
          · subst h1
            have a1 : ¬ (j + 1 ≤ j ∧ j < n) := by omega
            have a2 : j ≤ j ∧ j < n := by omega
            rw [if_neg a1, if_pos a2, if_pos ⟨rfl, rfl⟩]
          · rw [if_neg (fun z : k = k ∧ j = i => h1 z.2)]
            by_cases h2 : i ≤ j ∧ j < n
            · rw [if_pos h2, if_pos ⟨by omega, h2.2⟩]
            · rw [if_neg h2, if_neg (fun z => h2 ⟨by omega, z.2⟩)]
        · rw [if_neg h, if_neg h, hm_sI, if_neg (fun z => h z.1)]
      rw [he]
      exact hk
/-- a filled array of ints -/
theorem fillI {Λ : hx_L} {μ : hx_M} {v0 n : Nat} {v1 : Int32} {K : hx_M → Prop} (hs : Λ.1 v0 = (1, n)) (hn : n < 2 ^ 31) (hk : K (hx_sA μ v0 (fun j => if j < n then v1 else μ.1 v0 j))) : wJ7_fill_53178 Λ μ v0 v1 K := by
  unfold wJ7_fill_53178
  refine ⟨n, hs, n + 1, fillI_L hs hn n 0 μ (by omega) ?_⟩
  have : (fun j => if 0 ≤ j ∧ j < n then v1 else μ.1 v0 j) = (fun j => if j < n then v1 else μ.1 v0 j) := funext fun j => by simp
  rw [this]
  exact hk
