/-! layer 2: streets, the class -/
theorem bitN {S q : Nat} (hS : S < 2 ^ 31) (hq : q < 31) : bitq (Int32.ofNat S) q ↔ S.testBit q = true := by
  unfold bitq
  rw [n32_m31 (by omega), n32_shr hS (by omega)]
  have e1 : (1 : Int32) = Int32.ofNat 1 := rfl
  have hb : Int32.ofNat (S / 2 ^ q) &&& 1 = Int32.ofNat ((S / 2 ^ q) % 2) := by
    rw [e1, n32_and, Nat.and_one_is_mod]
  have hm : (S / 2 ^ q) % 2 < 2 := Nat.mod_lt _ (by omega)
  rw [hb, e1, n32_eq (by omega) (by omega), Nat.testBit_eq_decide_div_mod_eq, decide_eq_true_eq]
def cnt (S : Nat) : Nat → Nat
  | 0 => 0
  | k + 1 => cnt S k + (if S.testBit k = true then 1 else 0)
theorem cnt_le (S : Nat) : ∀ k, cnt S k ≤ k
  | 0 => Nat.le_refl _
  | k + 1 => by
    have := cnt_le S k
    show cnt S k + (if S.testBit k = true then 1 else 0) ≤ k + 1
    split <;> omega
theorem cnt_mono {S W : Nat} : ∀ {k : Nat}, (∀ q, q < k → S.testBit q = true → W.testBit q = true) → cnt S k ≤ cnt W k
  | 0, _ => Nat.le_refl _
  | k + 1, h => by
    have := cnt_mono (S := S) (W := W) (k := k) (fun q hq => h q (by omega))
    show cnt S k + (if S.testBit k = true then 1 else 0) ≤ cnt W k + (if W.testBit k = true then 1 else 0)
    by_cases c : S.testBit k = true
    · rw [if_pos c, if_pos (h k (by omega) c)]; omega
    · rw [if_neg c]; omega
theorem cnt_lt {S W : Nat} : ∀ {k : Nat}, (∀ q, q < k → S.testBit q = true → W.testBit q = true) → (∃ q, q < k ∧ W.testBit q = true ∧ ¬ S.testBit q = true) → cnt S k < cnt W k
  | 0, _, ⟨q, hq, _⟩ => by omega
  | k + 1, h, ⟨q, hq, w1, w2⟩ => by
    show cnt S k + (if S.testBit k = true then 1 else 0) < cnt W k + (if W.testBit k = true then 1 else 0)
    by_cases e : q = k
    · subst e
      rw [if_neg w2, if_pos w1]
      have := cnt_mono (S := S) (W := W) (k := q) (fun q hq => h q (by omega))
      omega
    · have := cnt_lt (S := S) (W := W) (k := k) (fun q hq => h q (by omega)) ⟨q, by omega, w1, w2⟩
      by_cases c : S.testBit k = true
      · rw [if_pos c, if_pos (h k (by omega) c)]; omega
      · rw [if_neg c]; omega
theorem cnt_pos {S v : Nat} : ∀ {k : Nat}, v < k → S.testBit v = true → 1 ≤ cnt S k
  | 0, h, _ => by omega
  | k + 1, h, hv => by
    show 1 ≤ cnt S k + (if S.testBit k = true then 1 else 0)
    by_cases e : v = k
    · subst e; rw [if_pos hv]; omega
    · have := cnt_pos (S := S) (v := v) (k := k) (by omega) hv
      omega
/-- one sees the other -/
def nei (a : hw_T) (p q : Nat) : Prop := bitq (a.2.1 2 p) q ∨ bitq (a.2.1 2 q) p
theorem nei_s {a : hw_T} {p q : Nat} : nei a p q ↔ nei a q p := Or.comm
/-- a set that no neighbour leaves -/
def clo (a : hw_T) (C : Nat → Prop) : Prop := ∀ p q, p < a.1.1 → q < a.1.1 → nei a p q → C p → C q
/-- the street of a person, as bits -/
def isSt (a : hw_T) (v T : Nat) : Prop := T < 2 ^ a.1.1 ∧ clo a (fun q => T.testBit q = true) ∧ T.testBit v = true ∧ ∀ C : Nat → Prop, clo a C → C v → ∀ q, q < a.1.1 → T.testBit q = true → C q
theorem bit_n {S n q : Nat} (hS : S < 2 ^ n) (h : S.testBit q = true) : q < n := by
  apply Classical.byContradiction
  intro c
  have := Nat.testBit_lt_two_pow (x := S) (i := q) (Nat.lt_of_lt_of_le hS (Nat.pow_le_pow_right (by omega) (by omega)))
  rw [this] at h
  simp at h
section ST
variable {a : hw_T} {μ : hx_M} {K : Int32 → Prop}
theorem p16 {n S : Nat} (hn : n ≤ 16) (hS : S < 2 ^ n) : S < 65536 := by
  have h : 2 ^ n ≤ 2 ^ 16 := Nat.pow_le_pow_right (by omega) hn
  omega
theorem withN_L4 {S : Nat} (hc : CW 0 a μ) (w : WF 200 a) (hS : S < 2 ^ a.1.1) (k : ∀ W, W < 2 ^ a.1.1 → (∀ q, q < a.1.1 → (W.testBit q = true ↔ S.testBit q = true ∨ ∃ p, p < a.1.1 ∧ S.testBit p = true ∧ nei a p q)) → K (Int32.ofNat W)) : ∀ (r j W : Nat), j + r = a.1.1 → W < 2 ^ a.1.1 → (∀ q, q < a.1.1 → (W.testBit q = true ↔ S.testBit q = true ∨ (∃ p, p < j ∧ S.testBit p = true ∧ bitq (a.2.1 2 p) q) ∨ (q < j ∧ ¬ S.testBit q = true ∧ ∃ p, p < a.1.1 ∧ S.testBit p = true ∧ bitq (a.2.1 2 q) p))) → wX4_withNeighbours_L4 μ (Int32.ofNat S) K (r + 1) (Int32.ofNat W) (Int32.ofNat j) := by
  have hn := w.n
  have hS16 := p16 hn hS
  intro r
  induction r with
  | zero =>
    intro j W e hW h
    obtain rfl : j = a.1.1 := by omega
    unfold wX4_withNeighbours_L4
    rw [hc.n]
    refine selT (Int32.le_refl _) (k W hW (fun q hq => ?_))
    rw [h q hq]
    constructor
    · rintro (c | ⟨p, h1, h2, h3⟩ | ⟨_, _, p, h1, h2, h3⟩)
      · exact Or.inl c
      · exact Or.inr ⟨p, h1, h2, Or.inl h3⟩
      · exact Or.inr ⟨p, h1, h2, Or.inr h3⟩
    · rintro (c | ⟨p, h1, h2, h3⟩)
      · exact Or.inl c
      · by_cases cq : S.testBit q = true
        · exact Or.inl cq
        · rcases h3 with h3 | h3
          · exact Or.inr (Or.inl ⟨p, h1, h2, h3⟩)
          · exact Or.inr (Or.inr ⟨hq, cq, p, h1, h2, h3⟩)
  | succ r ih =>
    intro j W e hW h
    have hW16 := p16 hn hW
    obtain ⟨x, hx, ex⟩ := w.2.2.2.1 j (by omega)
    have hx16 := p16 hn hx
    have bx : ∀ q, q < 31 → (bitq (a.2.1 2 j) q ↔ x.testBit q = true) := fun q hq => by rw [ex]; exact bitN (by omega) hq
    unfold wX4_withNeighbours_L4 wX4_withNeighbours_J49
    rw [hc.n, n32_nat (by omega), hc.sees (by omega), n32_add1]
    refine selF (fun z => by have := (n32_le (by omega) (by omega)).mp z; omega) ?_
    have hbj : ((Int32.ofNat S >>> (Int32.ofNat j &&& 31)) &&& 1) = 0 ↔ ¬ S.testBit j = true := by rw [b1and, bitN (by omega) (by omega)]
    have vj : vp_in (Int32.ofNat j) 16 := n32_in (by omega) (by omega)
    refine ⟨fun z => ⟨vj, ?_⟩, fun z => ⟨vj, ?_⟩⟩
    · have nj := hbj.mp z
      rw [ex, n32_and]
      have hand : Int32.ofNat (x &&& S) = 0 ↔ x &&& S = 0 := by
        have : x &&& S ≤ x := Nat.and_le_left
        exact n32_eq (b := 0) (by omega) (by omega)
      refine ⟨fun z2 => ?_, fun z2 => ?_⟩
      · have z3 := hand.mp z2
        refine ih (j + 1) W (by omega) hW (fun q hq => ?_)
        rw [h q hq]
        refine or_congr Iff.rfl (or_congr ⟨fun ⟨p, h1, h2⟩ => ⟨p, by omega, h2⟩, fun ⟨p, h1, h2, h3⟩ => ⟨p, ?_, h2, h3⟩⟩ ⟨fun ⟨h1, h2⟩ => ⟨by omega, h2⟩, fun ⟨h1, h2, p, p1, p2, p3⟩ => ⟨?_, h2, p, p1, p2, p3⟩⟩)
        · have : p ≠ j := fun z4 => nj (by rw [← z4]; exact h2)
          omega
        · have : q ≠ j := fun z4 => by
            subst z4
            have hp3 := (bx p (by omega)).mp p3
            have : (x &&& S).testBit p = true := by rw [Nat.testBit_and, hp3, p2]; rfl
            rw [z3, Nat.zero_testBit] at this
            simp at this
          omega
      · have z3 : x &&& S ≠ 0 := fun z4 => z2 (hand.mpr z4)
        obtain ⟨p0, hp0⟩ := Nat.exists_testBit_of_ne_zero z3
        rw [Nat.testBit_and, Bool.and_eq_true] at hp0
        have e2 : (1 : Int32) <<< (Int32.ofNat j &&& 31) = Int32.ofNat (2 ^ j) := by
          rw [n32_m31 (by omega)]
          have : (1 : Int32) = Int32.ofNat 1 := rfl
          rw [this, n32_shl (by omega), Nat.one_mul]
        rw [e2, n32_or]
        refine ih (j + 1) (W ||| 2 ^ j) (by omega) (Nat.or_lt_two_pow hW (Nat.pow_lt_pow_right (by omega) (by omega))) (fun q hq => ?_)
        rw [Nat.testBit_or, Bool.or_eq_true, h q hq, Nat.testBit_two_pow, decide_eq_true_eq]
        constructor
        · rintro ((c | ⟨p, h1, h2⟩ | ⟨h1, h2⟩) | c)
          · exact Or.inl c
          · exact Or.inr (Or.inl ⟨p, by omega, h2⟩)
          · exact Or.inr (Or.inr ⟨by omega, h2⟩)
          · subst c
            exact Or.inr (Or.inr ⟨by omega, nj, p0, bit_n hS hp0.2, hp0.2, (bx p0 (by have := bit_n hS hp0.2; omega)).mpr hp0.1⟩)
        · rintro (c | ⟨p, h1, h2, h3⟩ | ⟨h1, h2⟩)
          · exact Or.inl (Or.inl c)
          · have : p ≠ j := fun z4 => nj (by rw [← z4]; exact h2)
            exact Or.inl (Or.inr (Or.inl ⟨p, by omega, h2, h3⟩))
          · by_cases c : j = q
            · exact Or.inr c
            · exact Or.inl (Or.inr (Or.inr ⟨by omega, h2⟩))
    · have yj : S.testBit j = true := Classical.byContradiction fun z2 => z (hbj.mpr z2)
      rw [ex, n32_or]
      refine ih (j + 1) (W ||| x) (by omega) (Nat.or_lt_two_pow hW hx) (fun q hq => ?_)
      rw [Nat.testBit_or, Bool.or_eq_true, h q hq, ← bx q (by omega)]
      constructor
      · rintro ((c | ⟨p, h1, h2⟩ | ⟨h1, h2⟩) | c)
        · exact Or.inl c
        · exact Or.inr (Or.inl ⟨p, by omega, h2⟩)
        · exact Or.inr (Or.inr ⟨by omega, h2⟩)
        · exact Or.inr (Or.inl ⟨j, by omega, yj, c⟩)
      · rintro (c | ⟨p, h1, h2, h3⟩ | ⟨h1, h2, h3⟩)
        · exact Or.inl (Or.inl c)
        · by_cases c : p = j
          · subst c; exact Or.inr h3
          · exact Or.inl (Or.inr (Or.inl ⟨p, by omega, h2, h3⟩))
        · have : q ≠ j := fun z4 => h2 (by rw [z4]; exact yj)
          exact Or.inl (Or.inr (Or.inr ⟨by omega, h2, h3⟩))
theorem streetOf_L6 {v : Nat} (hc : CW 0 a μ) (w : WF 200 a) (hv : v < a.1.1) (k : ∀ T, isSt a v T → K (Int32.ofNat T)) : ∀ (r j S : Nat), j + r = a.1.1 → S < 2 ^ a.1.1 → S.testBit v = true → (∀ C : Nat → Prop, clo a C → C v → ∀ q, q < a.1.1 → S.testBit q = true → C q) → j + 1 ≤ cnt S a.1.1 → wX4_streetOf_L6 μ K (r + 1) (Int32.ofNat S) (Int32.ofNat j) := by
  have hn := w.n
  intro r
  induction r with
  | zero =>
    intro j S e hS h1 h2 h3
    have := cnt_le S a.1.1
    omega
  | succ r ih =>
    intro j S e hS h1 h2 h3
    have hS16 := p16 hn hS
    unfold wX4_streetOf_L6
    rw [hc.n, n32_add1]
    refine selF (fun z => by have := (n32_le (by omega) (by omega)).mp z; omega) ?_
    unfold wX4_withNeighbours
    refine ⟨a.1.1 + 1, withN_L4 hc w hS (fun W hW hb => ?_) a.1.1 0 S (by omega) hS (fun q hq => ⟨fun z => Or.inl z, ?_⟩)⟩
    · have hW16 := p16 hn hW
      refine ⟨fun z => ?_, fun z => ?_⟩
      · have hne : W ≠ S := fun z2 => z (by rw [z2])
        refine ih (j + 1) W (by omega) hW ((hb v hv).mpr (Or.inl h1)) (fun C hC hCv q hq hWq => ?_) ?_
        · rcases (hb q hq).mp hWq with c | ⟨p, p1, p2, p3⟩
          · exact h2 C hC hCv q hq c
          · exact hC p q p1 hq p3 (h2 C hC hCv p p1 p2)
        · have hsub : ∀ q, q < a.1.1 → S.testBit q = true → W.testBit q = true := fun q hq c => (hb q hq).mpr (Or.inl c)
          have hex : ∃ q, q < a.1.1 ∧ W.testBit q = true ∧ ¬ S.testBit q = true := by
            apply Classical.byContradiction
            intro hno
            apply hne
            apply Nat.eq_of_testBit_eq
            intro q
            by_cases hq : q < a.1.1
            · by_cases c : S.testBit q = true
              · rw [c, hsub q hq c]
              · by_cases c2 : W.testBit q = true
                · exact absurd ⟨q, hq, c2, c⟩ hno
                · have c' : S.testBit q = false := by simpa using c
                  have c2' : W.testBit q = false := by simpa using c2
                  rw [c', c2']
            · have c' : S.testBit q = false := by
                cases hh : S.testBit q
                · rfl
                · exact absurd (bit_n hS hh) hq
              have c2' : W.testBit q = false := by
                cases hh : W.testBit q
                · rfl
                · exact absurd (bit_n hW hh) hq
              rw [c', c2']
          have := cnt_lt hsub hex
          omega
      · have heq : W = S := (n32_eq (by omega) (by omega)).mp z
        refine k S ⟨hS, fun p q hp hq hpq hSp => ?_, h1, h2⟩
        have := (hb q hq).mpr (Or.inr ⟨p, hp, hSp, hpq⟩)
        rw [heq] at this
        exact this
    · rintro (c | ⟨p, h1, _⟩ | ⟨h1, _⟩)
      · exact c
      · omega
      · omega
theorem streetOfC {v : Nat} (hc : CW 0 a μ) (w : WF 200 a) (hv : v < a.1.1) (k : ∀ T, isSt a v T → K (Int32.ofNat T)) : wX4_streetOf μ (Int32.ofNat v) K := by
  have hn := w.n
  unfold wX4_streetOf
  have e2 : (1 : Int32) <<< (Int32.ofNat v &&& 31) = Int32.ofNat (2 ^ v) := by
    rw [n32_m31 (by omega)]
    have : (1 : Int32) = Int32.ofNat 1 := rfl
    rw [this, n32_shl (by omega), Nat.one_mul]
  have hbv : (2 ^ v).testBit v = true := by rw [Nat.testBit_two_pow]; simp
  rw [e2]
  refine ⟨a.1.1 + 1, streetOf_L6 hc w hv k a.1.1 0 (2 ^ v) (by omega) (Nat.pow_lt_pow_right (by omega) hv) hbv (fun C _ hCv q hq hb => ?_) (cnt_pos hv hbv)⟩
  rw [Nat.testBit_two_pow, decide_eq_true_eq] at hb
  rw [← hb]; exact hCv
theorem leastOf_L2 {T p : Nat} (hn8 : μ.1 8 0 = Int32.ofNat a.1.1) (hn : a.1.1 ≤ 16) (hT : T < 2 ^ a.1.1) (hp : p < a.1.1) (h1 : T.testBit p = true) (h2 : ∀ q, q < p → ¬ T.testBit q = true) (k : K (Int32.ofNat p)) : ∀ (r j : Nat), j + r = p → wX4_leastOf_L2 μ (Int32.ofNat T) K (r + 1) (Int32.ofNat j) := by
  have hT16 := p16 hn hT
  intro r
  induction r with
  | zero =>
    intro j e
    obtain rfl : j = p := by omega
    unfold wX4_leastOf_L2
    rw [hn8]
    refine selF (fun z => by have := (n32_le (by omega) (by omega)).mp z; omega) (selF (fun z => ?_) k)
    rw [b1and, bitN (by omega) (by omega)] at z
    exact z h1
  | succ r ih =>
    intro j e
    unfold wX4_leastOf_L2
    rw [hn8, n32_add1]
    refine selF (fun z => by have := (n32_le (by omega) (by omega)).mp z; omega) (selT ?_ (ih (j + 1) (by omega)))
    rw [b1and, bitN (by omega) (by omega)]
    exact h2 j (by omega)
theorem leastC {T p : Nat} (hc : CW 0 a μ) (w : WF 200 a) (hT : T < 2 ^ a.1.1) (hp : p < a.1.1) (h1 : T.testBit p = true) (h2 : ∀ q, q < p → ¬ T.testBit q = true) (k : K (Int32.ofNat p)) : wX4_leastOf μ (Int32.ofNat T) K := by
  unfold wX4_leastOf
  exact ⟨p + 1, leastOf_L2 hc.n w.n hT hp h1 h2 k p 0 (by omega)⟩
end ST
