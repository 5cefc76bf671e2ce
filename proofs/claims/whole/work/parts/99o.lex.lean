/-! layer 2: law, the words -/
/-- the letters of the words, padded -/
def wbN : List Nat := [115, 101, 97, 115, 111, 110, 108, 101, 110, 103, 116, 104, 112, 117, 114, 115, 101, 32, 99, 111, 105, 110, 32, 32, 114, 97, 110, 107, 32, 32, 109, 111, 110, 101, 121, 32, 99, 104, 97, 110, 99, 101, 119, 111, 114, 110, 32, 32, 97, 98, 111, 118, 101, 32, 98, 101, 108, 111, 119, 32, 97, 108, 105, 107, 101, 32, 97, 108, 108, 32, 32, 32, 104, 111, 117, 115, 101, 32, 111, 108, 100, 32, 32, 32, 116, 111, 32, 32, 32, 32, 102, 114, 111, 109, 32, 32, 115, 116, 97, 121, 32, 32, 105, 102, 32, 32, 32, 32, 97, 110, 100, 32, 32, 32, 111, 114, 32, 32, 32, 32, 110, 111, 116, 32, 32, 32]
def chV (i : Nat) : Int32 := (((hx_bytes.getD i 0) &&& 255 : Int32).toUInt32 % 65536).toInt32
theorem ch_all : ∀ i, i < 126 → chV i = Int32.ofNat (wbN.getD i 0) ∧ ((chV i).toUInt32 % 65536).toInt32 = chV i := by decide +kernel
theorem charC {i : Nat} {K : Int32 → Prop} (hi : i < 126) (k : K (Int32.ofNat (wbN.getD i 0))) : wJ0_charAt_5068e (Int32.ofNat i) K := by
  obtain ⟨h1, h2⟩ := ch_all i hi
  have hnar : narrow .char (.int (chV i)) = .int (chV i) := by
    show Value.int (((chV i).toUInt32 % 65536).toInt32) = _
    rw [h2]
  unfold wJ0_charAt_5068e wJ0_isLatin1_aae02 wJ1_charAt_3b067 wJ0_checkIndex_df160
  refine selF (by decide) (selE rfl (selF (by decide) ?_))
  rw [n32_nat (by omega)]
  intro sv hsv
  unfold wJ3_checkIndex_8e157
  have hv : (((hx_bytes.getD i 0) &&& 255 : Int32).toUInt32 % 65536).toInt32 = chV i := rfl
  rw [hv]
  refine selF (n32_nn (by omega)) (selT ((n32_lt (b := 126) (by omega) (by omega)).mpr hi) ⟨n32_in hi (by omega), hnar, hnar, ?_⟩)
  rw [h1]
  exact k
/-! lexing -/
def bL (x : Int32) : Bool := decide (97 ≤ x ∧ x ≤ 122)
def bD (x : Int32) : Bool := decide (48 ≤ x ∧ x ≤ 57)
def bB (x : Int32) : Bool := decide (x = 32 ∨ x = 10)
def rE (P : Int32 → Bool) (t : Nat → Int32) (N : Nat) : Nat → Nat → Nat
  | 0, p => p
  | r + 1, p => if p < N ∧ P (t p) = true then rE P t N r (p + 1) else p
/-- the end of a run from p on -/
def run (P : Int32 → Bool) (t : Nat → Int32) (N p : Nat) : Nat := rE P t N (N - p) p
theorem run_ge (P : Int32 → Bool) (t : Nat → Int32) (N : Nat) {p : Nat} (h : N ≤ p) : run P t N p = p := by
  unfold run
  rw [show N - p = 0 by omega]; rfl
theorem run_no {P : Int32 → Bool} {t : Nat → Int32} {N p : Nat} (h : P (t p) = false) : run P t N p = p := by
  unfold run
  cases hr : N - p with
  | zero => rfl
  | succ r =>
    show (if p < N ∧ P (t p) = true then _ else p) = p
    rw [if_neg (fun z => by rw [h] at z; simp at z)]
theorem run_yes {P : Int32 → Bool} {t : Nat → Int32} {N p : Nat} (hp : p < N) (h : P (t p) = true) : run P t N p = run P t N (p + 1) := by
  unfold run
  obtain ⟨r, hr⟩ : ∃ r, N - p = r + 1 := ⟨N - p - 1, by omega⟩
  rw [hr, show N - (p + 1) = r by omega]
  show (if p < N ∧ P (t p) = true then rE P t N r (p + 1) else p) = _
  rw [if_pos ⟨hp, h⟩]
theorem rE_rng (P : Int32 → Bool) (t : Nat → Int32) (N : Nat) : ∀ r p, p ≤ rE P t N r p ∧ (p ≤ N → rE P t N r p ≤ N) ∧ (∀ q, p ≤ q → q < rE P t N r p → P (t q) = true)
  | 0, p => ⟨Nat.le_refl _, fun h => h, fun q h1 h2 => absurd h2 (by show ¬ q < p; omega)⟩
  | r + 1, p => by
    show p ≤ (if p < N ∧ P (t p) = true then rE P t N r (p + 1) else p) ∧ _ ∧ _
    by_cases c : p < N ∧ P (t p) = true
    · have e : rE P t N (r + 1) p = rE P t N r (p + 1) := if_pos c
      obtain ⟨h1, h2, h3⟩ := rE_rng P t N r (p + 1)
      rw [if_pos c, e]
      refine ⟨by omega, fun _ => h2 (by omega), fun q q1 q2 => ?_⟩
      by_cases e2 : q = p
      · rw [e2]; exact c.2
      · exact h3 q (by omega) q2
    · have e : rE P t N (r + 1) p = p := if_neg c
      rw [if_neg c, e]
      exact ⟨Nat.le_refl _, fun h => h, fun q h1 h2 => by omega⟩
theorem run_rng (P : Int32 → Bool) (t : Nat → Int32) (N p : Nat) : p ≤ run P t N p ∧ (p ≤ N → run P t N p ≤ N) ∧ (∀ q, p ≤ q → q < run P t N p → P (t q) = true) := rE_rng P t N _ p
/-- behind the run stands something else -/
theorem run_end (P : Int32 → Bool) (t : Nat → Int32) (N : Nat) : ∀ p, run P t N p < N → P (t (run P t N p)) = false := by
  have : ∀ r p, N - p = r → run P t N p < N → P (t (run P t N p)) = false := by
    intro r
    induction r with
    | zero =>
      intro p e h
      rw [run_ge P t N (by omega)] at h
      omega
    | succ r ih =>
      intro p e h
      cases hP : P (t p) with
      | false => rw [run_no hP]; exact hP
      | true =>
        rw [run_yes (by omega) hP] at h ⊢
        exact ih (p + 1) (by omega) h
  exact fun p => this _ p rfl
/-- the next place that is no blank -/
def nb (t : Nat → Int32) (N p : Nat) : Nat := run bB t N p
/-- where the token at p ends -/
def tE (t : Nat → Int32) (N p : Nat) : Nat := if bL (t p) = true then run bL t N (p + 1) else if bD (t p) = true then run bD t N (p + 1) else p + 1
/-- letters read backwards -/
def wm (t : Nat → Int32) (p : Nat) : Nat → List Nat → Bool
  | 0, [] => true
  | L + 1, c :: r => decide (t (p + L) = Int32.ofNat c) && wm t p L r
  | _, _ => false
/-- the words, backwards -/
def wds : List (List Nat) := [[110, 111, 115, 97, 101, 115], [104, 116, 103, 110, 101, 108], [101, 115, 114, 117, 112], [110, 105, 111, 99], [107, 110, 97, 114], [121, 101, 110, 111, 109], [101, 99, 110, 97, 104, 99], [110, 114, 111, 119], [101, 118, 111, 98, 97], [119, 111, 108, 101, 98], [101, 107, 105, 108, 97], [108, 108, 97], [101, 115, 117, 111, 104], [100, 108, 111], [111, 116], [109, 111, 114, 102], [121, 97, 116, 115], [102, 105], [100, 110, 97], [114, 111], [116, 111, 110]]
def wkF (t : Nat → Int32) (p L : Nat) : List (List Nat) → Nat → Int32
  | [], _ => -3
  | c :: r, k => if wm t p L c = true then Int32.ofNat (10000 + k) else wkF t p L r (k + 1)
def numF (t : Nat → Int32) : Nat → Nat → Int32 → Int32
  | 0, _, acc => acc
  | r + 1, p, acc => numF t r (p + 1) (acc * 10 + t p - 48)
def isSg (x : Int32) : Bool := decide (x = 59 ∨ x = 40 ∨ x = 41 ∨ x = 60 ∨ x = 62 ∨ x = 61)
/-- the kind of the token at p -/
def tK (t : Nat → Int32) (N p : Nat) : Int32 := if bL (t p) = true then wkF t p (tE t N p - p) wds 0 else if bD (t p) = true then (if tE t N p - p ≤ 4 then numF t (tE t N p - p) p 0 else -3) else if isSg (t p) = true then 20000 + t p else -3
theorem isLC {x : Int32} {K : Int32 → Prop} (k : K (bI (bL x))) : wX2_isLetter x K := by
  unfold wX2_isLetter
  have e : bL x = true ↔ (97 ≤ x ∧ x ≤ 122) := decide_eq_true_iff
  refine ⟨fun z => ?_, fun z => ⟨fun z2 => ?_, fun z2 => ?_⟩⟩
  · have : bL x = false := by
      cases hb : bL x
      · rfl
      · exact absurd (e.mp hb).1 (Int32.not_le.mpr z)
    rw [this] at k; exact k
  · have : bL x = false := by
      cases hb : bL x
      · rfl
      · exact absurd (e.mp hb).2 (Int32.not_le.mpr z2)
    rw [this] at k; exact k
  · have : bL x = true := e.mpr ⟨Int32.not_lt.mp z, Int32.not_lt.mp z2⟩
    rw [this] at k; exact k
theorem isDC {x : Int32} {K : Int32 → Prop} (k : K (bI (bD x))) : wX2_isDigit x K := by
  unfold wX2_isDigit
  have e : bD x = true ↔ (48 ≤ x ∧ x ≤ 57) := decide_eq_true_iff
  refine ⟨fun z => ?_, fun z => ⟨fun z2 => ?_, fun z2 => ?_⟩⟩
  · have : bD x = false := by
      cases hb : bD x
      · rfl
      · exact absurd (e.mp hb).1 (Int32.not_le.mpr z)
    rw [this] at k; exact k
  · have : bD x = false := by
      cases hb : bD x
      · rfl
      · exact absurd (e.mp hb).2 (Int32.not_le.mpr z2)
    rw [this] at k; exact k
  · have : bD x = true := e.mpr ⟨Int32.not_lt.mp z, Int32.not_lt.mp z2⟩
    rw [this] at k; exact k
/-! the class's tokens -/
section LX
variable {Λ : hx_L} {μ m : hx_M} {N : Nat}
theorem endT_L16 {K : Int32 → Prop} (hN : N ≤ 700) (eN : μ.1 2 1 = Int32.ofNat N) : ∀ (r p : Nat), N - p = r → p ≤ N → K (Int32.ofNat (run bL (μ.1 1) N p)) → wX2_endOfToken_L16 μ K (r + 1) (Int32.ofNat p) := by
  intro r
  induction r with
  | zero =>
    intro p e hp k
    unfold wX2_endOfToken_L16
    rw [run_ge _ _ _ (by omega)] at k
    rw [eN]
    exact selT ((n32_le (by omega) (by omega)).mpr (by omega)) k
  | succ r ih =>
    intro p e hp k
    unfold wX2_endOfToken_L16
    rw [eN, n32_nat (by omega), n32_add1]
    refine selF (fun z => by have := (n32_le (by omega) (by omega)).mp z; omega) ⟨n32_in (by omega) (by omega), isLC ?_⟩
    cases hb : bL (μ.1 1 p) with
    | false => rw [run_no hb] at k; exact sel0 k
    | true => rw [run_yes (by omega) hb] at k; exact sel1 (ih (p + 1) (by omega) (by omega) k)
theorem endT_L54 {K : Int32 → Prop} (hN : N ≤ 700) (eN : μ.1 2 1 = Int32.ofNat N) : ∀ (r p : Nat), N - p = r → p ≤ N → K (Int32.ofNat (run bD (μ.1 1) N p)) → wX2_endOfToken_L54 μ K (r + 1) (Int32.ofNat p) := by
  intro r
  induction r with
  | zero =>
    intro p e hp k
    unfold wX2_endOfToken_L54
    rw [run_ge _ _ _ (by omega)] at k
    rw [eN]
    exact selT ((n32_le (by omega) (by omega)).mpr (by omega)) k
  | succ r ih =>
    intro p e hp k
    unfold wX2_endOfToken_L54
    rw [eN, n32_nat (by omega), n32_add1]
    refine selF (fun z => by have := (n32_le (by omega) (by omega)).mp z; omega) ⟨n32_in (by omega) (by omega), isDC ?_⟩
    cases hb : bD (μ.1 1 p) with
    | false => rw [run_no hb] at k; exact sel0 k
    | true => rw [run_yes (by omega) hb] at k; exact sel1 (ih (p + 1) (by omega) (by omega) k)
theorem endTC {p : Nat} {K : Int32 → Prop} (hN : N ≤ 700) (eN : μ.1 2 1 = Int32.ofNat N) (hp : p < N) (k : K (Int32.ofNat (tE (μ.1 1) N p))) : wX2_endOfToken μ (Int32.ofNat p) K := by
  unfold wX2_endOfToken
  unfold tE at k
  have vp : vp_in (Int32.ofNat p) 700 := n32_in (by omega) (by omega)
  rw [n32_nat (by omega), n32_add1]
  refine ⟨vp, isLC ?_⟩
  cases hb : bL (μ.1 1 p) with
  | true => rw [if_pos hb] at k; exact sel1 ⟨_, endT_L16 hN eN _ (p + 1) rfl (by omega) k⟩
  | false =>
    rw [if_neg (by rw [hb]; simp)] at k
    refine sel0 ⟨vp, isDC ?_⟩
    cases hd : bD (μ.1 1 p) with
    | true => rw [if_pos hd] at k; exact sel1 ⟨_, endT_L54 hN eN _ (p + 1) rfl (by omega) k⟩
    | false => rw [if_neg (by rw [hd]; simp)] at k; exact sel0 k
theorem number_L15 {e : Nat} {K : Int32 → Prop} (he : e ≤ 700) : ∀ (r p : Nat) (acc : Int32), p + r = e → K (numF (μ.1 1) r p acc) → wX2_numberOf_L15 μ (Int32.ofNat e) K (r + 1) acc (Int32.ofNat p) := by
  intro r
  induction r with
  | zero =>
    intro p acc h k
    obtain rfl : p = e := by omega
    unfold wX2_numberOf_L15
    exact selT (Int32.le_refl _) k
  | succ r ih =>
    intro p acc h k
    unfold wX2_numberOf_L15
    rw [n32_nat (by omega), n32_add1]
    exact selF (fun z => by have := (n32_le (by omega) (by omega)).mp z; omega) ⟨n32_in (by omega) (by omega), ih (p + 1) _ (by omega) k⟩
theorem numberC {p e : Nat} {K : Int32 → Prop} (he : e ≤ 700) (hpe : p ≤ e) (k : K (if e - p ≤ 4 then numF (μ.1 1) (e - p) p 0 else -3)) : wX2_numberOf μ (Int32.ofNat p) (Int32.ofNat e) K := by
  unfold wX2_numberOf
  rw [n32_subn hpe]
  have e4 : (4 : Int32) = Int32.ofNat 4 := rfl
  rw [e4, n32_le (by omega) (by omega)]
  refine ⟨fun z => ?_, fun z => ?_⟩
  · rw [if_pos z] at k
    exact ⟨_, number_L15 he (e - p) p 0 (by omega) k⟩
  · rw [if_neg z] at k; exact k
end LX
