/-! layer 2: street -/
theorem bit_if {T q : Nat} : (if T.testBit q = true then 1 else 0) = T / 2 ^ q % 2 := by
  have hl : T / 2 ^ q % 2 < 2 := Nat.mod_lt _ (by omega)
  have hb := Nat.testBit_eq_decide_div_mod_eq (x := T) (i := q)
  by_cases h : T / 2 ^ q % 2 = 1
  · rw [if_pos (by rw [hb]; exact decide_eq_true h), h]
  · rw [if_neg (by rw [hb, decide_eq_false h]; simp)]
    omega
def sumBits (T : Nat) : Nat → Nat
  | 0 => 0
  | k + 1 => sumBits T k + T / 2 ^ k % 2
theorem cnt_sum {T : Nat} : ∀ k, cnt T k = sumBits T k
  | 0 => rfl
  | k + 1 => by
    show cnt T k + (if T.testBit k = true then 1 else 0) = sumBits T k + T / 2 ^ k % 2
    rw [cnt_sum k, bit_if]
theorem cnt_16 {T : Nat} : cnt T 16 = popR T := by
  rw [cnt_sum]
  simp only [sumBits, popR, Nat.reducePow, Nat.div_one, Nat.zero_add]
theorem cnt_up {T n : Nat} (hT : T < 2 ^ n) : ∀ d, cnt T (n + d) = cnt T n
  | 0 => rfl
  | d + 1 => by
    show cnt T (n + d) + (if T.testBit (n + d) = true then 1 else 0) = cnt T n
    have : ¬ T.testBit (n + d) = true := fun z => by have := bit_n hT z; omega
    rw [if_neg this, cnt_up hT d]
    omega
theorem bitCountC {T n : Nat} {K : Int32 → Prop} (hn : n ≤ 16) (hT : T < 2 ^ n) (k : K (Int32.ofNat (cnt T n))) : wJ6_bitCount_0f7a4 (Int32.ofNat T) K := by
  have hT16 := p16 hn hT
  have a1 : (T / 2) &&& 1431655765 ≤ T / 2 := Nat.and_le_left
  have hp1 : pop1 T ≤ T := by unfold pop1; omega
  have a2 : pop1 T &&& 858993459 ≤ pop1 T := Nat.and_le_left
  have a3 : (pop1 T / 4) &&& 858993459 ≤ pop1 T / 4 := Nat.and_le_left
  have hp2 : pop2 (pop1 T) ≤ 2 * T := by unfold pop2; omega
  have a4 : (pop2 (pop1 T) + pop2 (pop1 T) / 16) &&& 252645135 ≤ pop2 (pop1 T) + pop2 (pop1 T) / 16 := Nat.and_le_left
  have hp3 : pop3 (pop2 (pop1 T)) ≤ 4 * T := by unfold pop3; omega
  have e1 : (1 : Int32) = Int32.ofNat 1 := rfl
  have e2 : (2 : Int32) = Int32.ofNat 2 := rfl
  have e4 : (4 : Int32) = Int32.ofNat 4 := rfl
  have e8 : (8 : Int32) = Int32.ofNat 8 := rfl
  have e16 : (16 : Int32) = Int32.ofNat 16 := rfl
  have m1 : (1431655765 : Int32) = Int32.ofNat 1431655765 := rfl
  have m2 : (858993459 : Int32) = Int32.ofNat 858993459 := rfl
  have m3 : (252645135 : Int32) = Int32.ofNat 252645135 := rfl
  have m4 : (63 : Int32) = Int32.ofNat 63 := rfl
  unfold wJ6_bitCount_0f7a4
  rw [e1, e2, e4, e8, e16, m1, m2, m3, m4]
  rintro x1 rfl
  rw [n32_ushrk (by omega) (by omega) (by decide), n32_and, Nat.pow_one, n32_subn (by omega)]
  rintro x2 rfl
  rw [show T - (T / 2 &&& 1431655765) = pop1 T from rfl, n32_ushrk (by omega) (by omega) (by decide)]
  rintro x3 rfl
  rw [n32_and, n32_and, n32_add, show pop1 T / 2 ^ 2 = pop1 T / 4 from rfl, show (pop1 T &&& 858993459) + (pop1 T / 4 &&& 858993459) = pop2 (pop1 T) from rfl]
  rintro x4 rfl
  rw [n32_ushrk (by omega) (by omega) (by decide), n32_add, n32_and, show pop2 (pop1 T) / 2 ^ 4 = pop2 (pop1 T) / 16 from rfl, show (pop2 (pop1 T) + pop2 (pop1 T) / 16 &&& 252645135) = pop3 (pop2 (pop1 T)) from rfl]
  rintro x5 rfl
  rw [n32_ushrk (by omega) (by omega) (by decide), n32_add, show pop3 (pop2 (pop1 T)) / 2 ^ 8 = pop3 (pop2 (pop1 T)) / 256 from rfl]
  rintro x6 rfl
  rw [n32_ushrk (by omega) (by omega) (by decide), n32_add, n32_and]
  rintro x7 rfl
  have : (pop3 (pop2 (pop1 T)) + pop3 (pop2 (pop1 T)) / 256 + (pop3 (pop2 (pop1 T)) + pop3 (pop2 (pop1 T)) / 256) / 2 ^ 16 &&& 63) = cnt T n := by
    show popN T = _
    rw [pop_eq hT16, ← cnt_16]
    have := cnt_up hT (16 - n)
    rw [show n + (16 - n) = 16 by omega] at this
    exact this
  rw [this]
  exact k
section S2
variable {a : hw_T} {μ m : hx_M}
theorem lineOf_L4 {T : Nat} {K K1 : Int32 → Prop} (hc : CW 0 a μ) (w : WF 200 a) (hT : T < 2 ^ a.1.1) (k : K1 (sumN (fun q => if T.testBit q = true then a.2.1 6 (16 * a.1.2.1 + q) else 0) a.1.1)) : ∀ (r j : Nat), j + r = a.1.1 → wX10_lineOf_L4 μ (Int32.ofNat T) K K1 (r + 1) (sumN (fun q => if T.testBit q = true then a.2.1 6 (16 * a.1.2.1 + q) else 0) j) (Int32.ofNat j) := by
  have hn := w.n
  have hT16 := p16 hn hT
  intro r
  induction r with
  | zero =>
    intro j e
    obtain rfl : j = a.1.1 := by omega
    unfold wX10_lineOf_L4
    rw [hc.n]
    exact selT (Int32.le_refl _) k
  | succ r ih =>
    intro j e
    have hi := ih (j + 1) (by omega)
    have es : sumN (fun q => if T.testBit q = true then a.2.1 6 (16 * a.1.2.1 + q) else 0) (j + 1) = sumN (fun q => if T.testBit q = true then a.2.1 6 (16 * a.1.2.1 + q) else 0) j + (if T.testBit j = true then a.2.1 6 (16 * a.1.2.1 + j) else 0) := rfl
    rw [es] at hi
    unfold wX10_lineOf_L4 wX10_lineOf_J38
    rw [hc.n, hc.s, n32_add1]
    refine selF (fun z => by have := (n32_le (by omega) (by omega)).mp z; omega) ⟨fun z => ?_, fun z => lenC hc w.up (Nat.le_refl _) (by omega) ?_⟩
    · rw [b1and, bitN (by omega) (by omega)] at z
      rw [if_neg z, Int32.add_zero] at hi
      exact hi
    · have : T.testBit j = true := Classical.byContradiction fun z2 => z (by rw [b1and, bitN (by omega) (by omega)]; exact z2)
      rw [if_pos this] at hi
      exact hi
theorem lineOfC {T : Nat} {K : Int32 → Prop} (hc : CW 0 a μ) (w : WF 200 a) (hT : T < 2 ^ a.1.1) (h1 : 1 ≤ cnt T a.1.1) (k : K ((sumN (fun q => if T.testBit q = true then a.2.1 6 (16 * a.1.2.1 + q) else 0) a.1.1 * 100) / Int32.ofNat (cnt T a.1.1))) : wX10_lineOf μ (Int32.ofNat T) K := by
  have hn := w.n
  have hl := cnt_le T a.1.1
  unfold wX10_lineOf
  refine ⟨a.1.1 + 1, lineOf_L4 hc w hT (bitCountC hn hT (selF (fun z => ?_) ⟨n32_ne0 (by omega) (by omega), k⟩)) a.1.1 0 (by omega)⟩
  have := (n32_le (b := 0) (by omega) (by omega)).mp z
  omega
/-- labels told -/
def lab (a : hw_T) (L : Nat → Nat) : Prop := ∀ p, p < a.1.1 → L p ≤ p ∧ ∀ C : Nat → Prop, clo a C → (C p ↔ C (L p))
def smL (L : Nat → Nat) : Nat → Nat
  | 0 => 0
  | k + 1 => smL L k + L k
theorem smL_up {L : Nat → Nat} {p v : Nat} (hv : v < L p) : ∀ {n}, p < n → smL (fun i => if i = p then v else L i) n < smL L n
  | 0, h => by omega
  | n + 1, h => by
    show smL (fun i => if i = p then v else L i) n + (if n = p then v else L n) < smL L n + L n
    by_cases e : n = p
    · subst e
      rw [if_pos rfl]
      have : smL (fun i => if i = n then v else L i) n = smL L n := by
        have : ∀ k, k ≤ n → smL (fun i => if i = n then v else L i) k = smL L k := by
          intro k
          induction k with
          | zero => intro _; rfl
          | succ k ih =>
            intro hk
            show smL _ k + (if k = n then v else L k) = smL L k + L k
            rw [ih (by omega), if_neg (by omega)]
        exact this n (Nat.le_refl _)
      omega
    · rw [if_neg e]
      have := smL_up hv (n := n) (by omega)
      omega
theorem lab_up {L : Nat → Nat} {p q : Nat} (h : lab a L) (hp : p < a.1.1) (hq : q < a.1.1) (hpq : nei a p q) (hl : L q < L p) : lab a (fun i => if i = p then L q else L i) := by
  intro i hi
  show (if i = p then L q else L i) ≤ i ∧ ∀ C : Nat → Prop, clo a C → (C i ↔ C (if i = p then L q else L i))
  by_cases e : i = p
  · subst e
    rw [if_pos rfl]
    refine ⟨by have := (h i hi).1; omega, fun C hC => ?_⟩
    rw [← (h q hq).2 C hC]
    exact ⟨hC i q hi hq hpq, hC q i hq hi (nei_s.mp hpq)⟩
  · rw [if_neg e]; exact h i hi
/-- the labels in the reference's row -/
def ML (a : hw_T) (L : Nat → Nat) (μ m : hx_M) : Prop := (∀ p, p < a.1.1 → m.1 79 p = Int32.ofNat (L p)) ∧ (∀ k, k ≠ 79 → m.1 k = μ.1 k) ∧ m.2 = μ.2
/-- a pass so far: nothing done and quiet up to (p, j), or less than before -/
def PSo (a : hw_T) (L0 L : Nat → Nat) (b : Bool) (p j : Nat) : Prop := lab a L ∧ smL L a.1.1 ≤ smL L0 a.1.1 ∧ (b = true → smL L a.1.1 < smL L0 a.1.1) ∧ (b = false → L = L0 ∧ (∀ p', p' < p → ∀ q, q < a.1.1 → nei a p' q → L p' ≤ L q) ∧ ∀ q, q < j → nei a p q → L p ≤ L q)
theorem streets_L43 {K : hx_M → Prop} {K1 : Int32 → hx_M → Prop} {L0 : Nat → Nat} {p : Nat} (hm : MW a μ) (w : WF 200 a) (hp : p < a.1.1) (k : ∀ L b m', ML a L μ m' → PSo a L0 L b (p + 1) 0 → K1 (bI b) m') : ∀ (r j : Nat) (L : Nat → Nat) (b : Bool) (m : hx_M), j + r = a.1.1 → ML a L μ m → PSo a L0 L b p j → wX12_streets_L43 (Int32.ofNat p) K K1 (r + 1) (bI b) (Int32.ofNat j) m := by
  have hn := w.n
  intro r
  induction r with
  | zero =>
    intro j L b m e h hs
    obtain rfl : j = a.1.1 := by omega
    unfold wX12_streets_L43
    rw [h.2.1 49 (by omega), hm.n]
    refine selT (Int32.le_refl _) (k L b m h ⟨hs.1, hs.2.1, hs.2.2.1, fun z => ⟨(hs.2.2.2 z).1, fun p' hp' q hq hn => ?_, fun q hq => by omega⟩⟩)
    by_cases e2 : p' = p
    · subst e2; exact (hs.2.2.2 z).2.2 q hq hn
    · exact (hs.2.2.2 z).2.1 p' (by omega) q hq hn
  | succ r ih =>
    intro j L b m e h hs
    unfold wX12_streets_L43
    have vp : vp_in (Int32.ofNat p) 16 := n32_in (by omega) (by omega)
    have vj : vp_in (Int32.ofNat j) 16 := n32_in (by omega) (by omega)
    rw [h.2.1 49 (by omega), hm.n, n32_nat (by omega), n32_nat (by omega), h.2.1 54 (by omega), hm.sees hp, hm.sees (by omega)]
    have next : (nei a p j → L p ≤ L j) → wX12_streets_L43 (Int32.ofNat p) K K1 (r + 1) (bI b) (Int32.ofNat j + 1) m := by
      intro hn
      rw [n32_add1]
      refine ih (j + 1) L b m (by omega) h ⟨hs.1, hs.2.1, hs.2.2.1, fun z => ⟨(hs.2.2.2 z).1, (hs.2.2.2 z).2.1, fun q hq hq2 => ?_⟩⟩
      by_cases e2 : q = j
      · subst e2; exact hn hq2
      · exact (hs.2.2.2 z).2.2 q (by omega) hq2
    have l1 := (hs.1 p hp).1
    have l2 := (hs.1 j (by omega)).1
    have J77 : nei a p j → wX12_streets_J77 K (wX12_streets_L43 (Int32.ofNat p) K K1 (r + 1)) (bI b) (Int32.ofNat p) (Int32.ofNat j) m := by
      intro hpj
      unfold wX12_streets_J77 wX12_streets_J109
      rw [n32_nat (by omega), n32_nat (by omega), h.1 p hp, h.1 j (by omega), n32_lt (by omega) (by omega)]
      refine ⟨vj, vp, fun z => ⟨vj, vp, ?_⟩, fun z => next (fun _ => by omega)⟩
      rw [n32_add1]
      refine ih (j + 1) (fun i => if i = p then L j else L i) true _ (by omega) ⟨fun i hi => ?_, fun k hk => by rw [sIk hk]; exact h.2.1 k hk, h.2.2⟩ ⟨lab_up hs.1 hp (by omega) hpj z, ?_, ?_, fun z2 => by simp at z2⟩
      · rw [hm_sI]
        show _ = Int32.ofNat (if i = p then L j else L i)
        by_cases e2 : i = p
        · rw [if_pos ⟨rfl, e2⟩, if_pos e2]
        · rw [if_neg (fun z => e2 z.2), if_neg e2]; exact h.1 i hi
      · have := smL_up (L := L) z hp
        have := hs.2.1
        omega
      · intro _
        have := smL_up (L := L) z hp
        have := hs.2.1
        omega
    refine selF (fun z => by have := (n32_le (by omega) (by omega)).mp z; omega) ⟨vp, t_has ⟨fun z => J77 (Or.inl (b01_ne.mp z)), fun z => ⟨vj, t_has ⟨fun z2 => ?_, fun z2 => J77 (Or.inr (b01_ne.mp z2))⟩⟩⟩⟩
    unfold wX12_streets_J109_13
    exact next (fun hh => by
      rcases hh with hh | hh
      · exact absurd hh (b01_z.mp z)
      · exact absurd hh (b01_z.mp z2))
theorem streets_L33 {K : hx_M → Prop} {K1 : Int32 → hx_M → Prop} {L0 : Nat → Nat} (hm : MW a μ) (w : WF 200 a) (k : ∀ L b m', ML a L μ m' → PSo a L0 L b a.1.1 0 → K1 (bI b) m') : ∀ (r p : Nat) (L : Nat → Nat) (b : Bool) (m : hx_M), p + r = a.1.1 → ML a L μ m → PSo a L0 L b p 0 → wX12_streets_L33 K K1 (r + 1) (bI b) (Int32.ofNat p) m := by
  have hn := w.n
  intro r
  induction r with
  | zero =>
    intro p L b m e h hs
    obtain rfl : p = a.1.1 := by omega
    unfold wX12_streets_L33
    rw [h.2.1 49 (by omega), hm.n]
    exact selT (Int32.le_refl _) (k L b m h hs)
  | succ r ih =>
    intro p L b m e h hs
    unfold wX12_streets_L33
    rw [h.2.1 49 (by omega), hm.n, n32_add1]
    exact selF (fun z => by have := (n32_le (by omega) (by omega)).mp z; omega) ⟨a.1.1 + 1, streets_L43 hm w (by omega) (fun L' b' m' h' hs' => ih (p + 1) L' b' m' (by omega) h' hs') a.1.1 0 L b m (by omega) h hs⟩
/-- quiet: neighbours alike -/
def qui (a : hw_T) (L : Nat → Nat) : Prop := ∀ p, p < a.1.1 → ∀ q, q < a.1.1 → nei a p q → L p ≤ L q
theorem streets_L25 {K : hx_M → Prop} (hm : MW a μ) (w : WF 200 a) (k : ∀ L m', ML a L μ m' → lab a L → qui a L → K m') : ∀ (N : Nat) (L : Nat → Nat) (b : Bool) (m : hx_M), smL L a.1.1 ≤ N → lab a L → ML a L μ m → (b = false → qui a L) → wX12_streets_L25 K (N + 2) (bI b) m := by
  intro N
  induction N with
  | zero =>
    intro L b m hN hl h hq
    unfold wX12_streets_L25
    cases b with
    | false => exact sel0 (k L m h hl (hq rfl))
    | true =>
      refine sel1 ⟨a.1.1 + 1, streets_L33 (L0 := L) hm w (fun L' b' m' h' hs' => ?_) a.1.1 0 L false m (by omega) h ⟨hl, Nat.le_refl _, fun z => by simp at z, fun _ => ⟨rfl, fun p' hp' => by omega, fun q hq => by omega⟩⟩⟩
      cases b' with
      | true => have := hs'.2.2.1 rfl; omega
      | false =>
        unfold wX12_streets_L25
        exact sel0 (k L' m' h' hs'.1 (hs'.2.2.2 rfl).2.1)
  | succ N ih =>
    intro L b m hN hl h hq
    unfold wX12_streets_L25
    cases b with
    | false => exact sel0 (k L m h hl (hq rfl))
    | true =>
      refine sel1 ⟨a.1.1 + 1, streets_L33 (L0 := L) hm w (fun L' b' m' h' hs' => ?_) a.1.1 0 L false m (by omega) h ⟨hl, Nat.le_refl _, fun z => by simp at z, fun _ => ⟨rfl, fun p' hp' => by omega, fun q hq => by omega⟩⟩⟩
      cases b' with
      | true =>
        have := hs'.2.2.1 rfl
        exact ih L' true m' (by omega) hs'.1 h' (fun z => by simp at z)
      | false =>
        unfold wX12_streets_L25
        exact sel0 (k L' m' h' hs'.1 (hs'.2.2.2 rfl).2.1)
theorem streets_L2 {K K1 : hx_M → Prop} (hm : MW a μ) (w : WF 200 a) (k : ∀ m', ML a (fun p => p) μ m' → K1 m') : ∀ (r i : Nat) (m : hx_M), i + r = a.1.1 → (∀ p, p < i → m.1 79 p = Int32.ofNat p) → (∀ k, k ≠ 79 → m.1 k = μ.1 k) → m.2 = μ.2 → wX12_streets_L2 K K1 (r + 1) (Int32.ofNat i) m := by
  have hn := w.n
  intro r
  induction r with
  | zero =>
    intro i m e h1 h2 h3
    obtain rfl : i = a.1.1 := by omega
    unfold wX12_streets_L2
    rw [h2 49 (by omega), hm.n]
    exact selT (Int32.le_refl _) (k m ⟨h1, h2, h3⟩)
  | succ r ih =>
    intro i m e h1 h2 h3
    unfold wX12_streets_L2
    rw [h2 49 (by omega), hm.n, n32_nat (by omega), n32_add1]
    refine selF (fun z => by have := (n32_le (by omega) (by omega)).mp z; omega) ⟨n32_in (by omega) (by omega), ih (i + 1) _ (by omega) (fun p hp => ?_) (fun k hk => by rw [sIk hk]; exact h2 k hk) h3⟩
    rw [hm_sI]
    by_cases e2 : p = i
    · rw [if_pos ⟨rfl, e2⟩, e2]
    · rw [if_neg (fun z => e2 z.2)]; exact h1 p (by omega)
theorem streetsM {K : hx_M → Prop} (hm : MW a μ) (w : WF 200 a) (k : ∀ L m', ML a L μ m' → lab a L → qui a L → K m') : wX12_streets μ K := by
  unfold wX12_streets
  exact ⟨a.1.1 + 1, streets_L2 hm w (fun m1 h1 => ⟨_, streets_L25 hm w k (smL (fun p => p) a.1.1) (fun p => p) true m1 (Nat.le_refl _) (fun p _ => ⟨Nat.le_refl _, fun _ _ => Iff.rfl⟩) h1 (fun z => by simp at z)⟩) a.1.1 0 μ (by omega) (fun p hp => by omega) (fun _ _ => rfl) rfl⟩
/-- a street is those of one label -/
theorem st_lab {L : Nat → Nat} {v T : Nat} (h : isSt a v T) (hl : lab a L) (hq : qui a L) (hv : v < a.1.1) : ∀ q, q < a.1.1 → (T.testBit q = true ↔ L q = L v) := by
  intro q hqn
  obtain ⟨h1, h2, h3, h4⟩ := h
  constructor
  · intro hT
    refine h4 (fun q => q < a.1.1 → L q = L v) (fun p q hp hq2 hpq hC hq3 => ?_) (fun _ => rfl) q hqn hT hqn
    have e1 := hC hp
    have e2 := hq p hp q hq3 hpq
    have e3 := hq q hq3 p hp (nei_s.mp hpq)
    omega
  · intro he
    have hc : clo a (fun q => T.testBit q = true) := h2
    have c1 := ((hl v hv).2 _ hc).mp h3
    refine ((hl q hqn).2 _ hc).mpr ?_
    rw [he]
    exact c1
theorem st_least {L : Nat → Nat} {v T : Nat} (h : isSt a v T) (hl : lab a L) (hq : qui a L) (hv : v < a.1.1) : L v < a.1.1 ∧ T.testBit (L v) = true ∧ ∀ q, q < L v → ¬ T.testBit q = true := by
  have hlv := (hl v hv).1
  refine ⟨by omega, ((hl v hv).2 (fun q => T.testBit q = true) h.2.1).mp h.2.2.1, fun q hqv hT => ?_⟩
  have := (st_lab h hl hq hv q (by omega)).mp hT
  have := (hl q (by omega)).1
  omega
theorem least_ex {T p : Nat} : ∀ n, p < n → T.testBit p = true → ∃ x, x ≤ p ∧ T.testBit x = true ∧ ∀ q, q < x → ¬ T.testBit q = true := by
  intro n
  induction p using Nat.strongRecOn with
  | _ p ih =>
    intro hn hp
    by_cases c : ∃ q, q < p ∧ T.testBit q = true
    · obtain ⟨q, h1, h2⟩ := c
      obtain ⟨x, x1, x2, x3⟩ := ih q h1 (by omega) h2
      exact ⟨x, by omega, x2, x3⟩
    · exact ⟨p, Nat.le_refl _, hp, fun q hq hT => c ⟨q, hq, hT⟩⟩
def lbB (T p : Nat) : Bool := decide (∀ q, q < p → T.testBit q = false)
theorem streetCount_L4 {K : Int32 → Prop} (hc : CW 0 a μ) (w : WF 200 a) (k : ∀ Ts : Nat → Nat, (∀ p, p < a.1.1 → isSt a p (Ts p)) → K (sumN (fun p => bI (lbB (Ts p) p)) a.1.1)) : ∀ (r j : Nat) (Ts : Nat → Nat), j + r = a.1.1 → (∀ p, p < j → isSt a p (Ts p)) → wX4_streetCount_L4 μ K (r + 1) (sumN (fun p => bI (lbB (Ts p) p)) j) (Int32.ofNat j) := by
  have hn := w.n
  intro r
  induction r with
  | zero =>
    intro j Ts e h
    obtain rfl : j = a.1.1 := by omega
    unfold wX4_streetCount_L4
    rw [hc.n]
    exact selT (Int32.le_refl _) (k Ts h)
  | succ r ih =>
    intro j Ts e h
    unfold wX4_streetCount_L4 wX4_streetCount_J28
    rw [hc.n, n32_add1]
    refine selF (fun z => by have := (n32_le (by omega) (by omega)).mp z; omega) (streetOfC hc w (by omega) (fun T hT => ?_))
    obtain ⟨x, x1, x2, x3⟩ := least_ex (T := T) (p := j) (j + 1) (by omega) hT.2.2.1
    refine leastC hc w hT.1 (by omega) x2 x3 ?_
    have hi := ih (j + 1) (fun p => if p = j then T else Ts p) (by omega) (fun p hp => by
      show isSt a p (if p = j then T else Ts p)
      by_cases e2 : p = j
      · rw [if_pos e2, e2]; exact hT
      · rw [if_neg e2]; exact h p (by omega))
    have es : sumN (fun p => bI (lbB ((fun p => if p = j then T else Ts p) p) p)) (j + 1) = sumN (fun p => bI (lbB (Ts p) p)) j + bI (lbB T j) := by
      show sumN _ j + bI (lbB (if j = j then T else Ts j) j) = _
      rw [if_pos rfl]
      congr 1
      exact sumN_eq fun q hq => by
        show bI (lbB (if q = j then T else Ts q) q) = _
        rw [if_neg (by omega)]
    rw [es] at hi
    refine ⟨fun z => ?_, fun z => ?_⟩
    · have hxj : x < j := by
        have : x ≠ j := fun z2 => z (by rw [z2])
        omega
      have : lbB T j = false := decide_eq_false fun z2 => by
        have := z2 x hxj
        rw [x2] at this
        simp at this
      rw [this] at hi
      have : sumN (fun p => bI (lbB (Ts p) p)) j + bI false = sumN (fun p => bI (lbB (Ts p) p)) j := Int32.add_zero _
      rw [this] at hi
      exact hi
    · have hxj : x = j := (n32_eq (by omega) (by omega)).mp z
      have : lbB T j = true := decide_eq_true fun q hq => by
        have := x3 q (by omega)
        simpa using this
      rw [this] at hi
      exact hi
theorem street_L43 {L : Nat → Nat} {sel : Nat → Bool} {v1 v2 : Int32} {K : Int32 → hx_M → Prop} {K1 : Int32 → Int32 → Prop} (hm : MW a μ) (w : WF 200 a) (h : ML a L μ m) (hL : ∀ p, p < a.1.1 → L p ≤ p) (hv : (v1 = -1 ∧ ∀ q, q < a.1.1 → (sel q = true ↔ L q = q)) ∨ ∃ v, v < a.1.1 ∧ v1 = Int32.ofNat v ∧ ∀ q, q < a.1.1 → (sel q = true ↔ L q = L v)) (k : K1 (sumN (fun q => bI (sel q)) a.1.1) (sumN (fun q => if sel q = true then a.2.1 6 (16 * a.1.2.1 + q) else 0) a.1.1)) : ∀ (r j : Nat), j + r = a.1.1 → wX12_street_L43 m v1 v2 K K1 (r + 1) (sumN (fun q => bI (sel q)) j) (sumN (fun q => if sel q = true then a.2.1 6 (16 * a.1.2.1 + q) else 0) j) (Int32.ofNat j) := by
  have hn := w.n
  have hmm : MW a m := hm.fr (fun j _ => by rw [h.2.1 49 (by omega)]) (by rw [h.2.2]) (fun k hk => h.2.1 k (by omega))
  intro r
  induction r with
  | zero =>
    intro j e
    obtain rfl : j = a.1.1 := by omega
    unfold wX12_street_L43
    rw [hmm.n]
    exact selT (Int32.le_refl _) k
  | succ r ih =>
    intro j e
    have hi := ih (j + 1) (by omega)
    have es1 : sumN (fun q => bI (sel q)) (j + 1) = sumN (fun q => bI (sel q)) j + bI (sel j) := rfl
    have es2 : sumN (fun q => if sel q = true then a.2.1 6 (16 * a.1.2.1 + q) else 0) (j + 1) = sumN (fun q => if sel q = true then a.2.1 6 (16 * a.1.2.1 + q) else 0) j + (if sel j = true then a.2.1 6 (16 * a.1.2.1 + j) else 0) := rfl
    rw [es1, es2] at hi
    have vj : vp_in (Int32.ofNat j) 16 := n32_in (by omega) (by omega)
    have hlj := hL j (by omega)
    have yes : sel j = true → wX12_street_J91 K (wX12_street_L43 m v1 v2 K K1 (r + 1)) v1 v2 (sumN (fun q => bI (sel q)) j) (sumN (fun q => if sel q = true then a.2.1 6 (16 * a.1.2.1 + q) else 0) j) (Int32.ofNat j) m := by
      intro hs
      unfold wX12_street_J91 wX12_street_J109
      rw [hmm.s]
      refine lenM hmm w.up (Nat.le_refl _) (by omega) ?_
      rw [n32_add1]
      rw [hs, if_pos rfl] at hi
      exact hi
    have no : ¬ sel j = true → wX12_street_J109_11 K (wX12_street_L43 m v1 v2 K K1 (r + 1)) v1 v2 (sumN (fun q => bI (sel q)) j) (sumN (fun q => if sel q = true then a.2.1 6 (16 * a.1.2.1 + q) else 0) j) (Int32.ofNat j) m := by
      intro hs
      unfold wX12_street_J109_11
      rw [n32_add1]
      have hs' : sel j = false := by simpa using hs
      rw [hs', if_neg (by simp), Int32.add_zero] at hi
      have : sumN (fun q => bI (sel q)) j + bI false = sumN (fun q => bI (sel q)) j := Int32.add_zero _
      rw [this] at hi
      exact hi
    unfold wX12_street_L43
    rw [hmm.n, n32_nat (by omega), h.1 j (by omega)]
    refine selF (fun z => by have := (n32_le (by omega) (by omega)).mp z; omega) ?_
    rcases hv with ⟨rfl, hv⟩ | ⟨v, hvn, rfl, hv⟩
    · refine selE rfl ⟨vj, fun z => yes ((hv j (by omega)).mpr ((n32_eq (by omega) (by omega)).mp z)), fun z => no (fun z2 => z ?_)⟩
      rw [(hv j (by omega)).mp z2]
    · have hlv := hL v hvn
      rw [n32_nat (by omega), h.1 v hvn]
      refine selN (n32_neg (by omega) (by decide)) ⟨vj, n32_in (by omega) (by omega), fun z => yes ((hv j (by omega)).mpr ((n32_eq (by omega) (by omega)).mp z)), fun z => no (fun z2 => z ?_)⟩
      rw [(hv j (by omega)).mp z2]
end S2
