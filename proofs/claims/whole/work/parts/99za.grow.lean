/-! layer 2: law, what a law that was read is -/
/-- what was read leaves one answer more -/
def OKx (B : Nat) (sub : Nat → pR) : Prop := ∀ i, (sub i).1 = true → ∀ d rest, d ≤ B → hl_okS (d + 1) rest → hl_okS d ((sub i).2.2 ++ rest)
section OKS
variable {T : Nat → Int32} {i : Nat}
theorem rg {x : Int32} {lo hi : Nat} (h : Int32.ofNat lo ≤ x ∧ x ≤ Int32.ofNat hi) (hl : lo ≤ hi) (hh : hi < 2 ^ 30) : ∃ n, x = Int32.ofNat n ∧ lo ≤ n ∧ n ≤ hi := by
  obtain ⟨n, en, hn⟩ := n32_of (hi := hi) (Int32.le_trans ((n32_le (a := 0) (by omega) (by omega)).mpr (Nat.zero_le lo)) h.1) h.2 (by omega)
  refine ⟨n, en, ?_, hn⟩
  have := h.1
  rw [en] at this
  exact (n32_le (by omega) (by omega)).mp this
theorem pCmp_ok : OKx 19 (pCmp T) := by
  intro i h d rest hd hr
  unfold pCmp at h ⊢
  by_cases c1 : 10000 ≤ T i ∧ T i ≤ 10011
  · rw [if_neg (not_not_intro c1)] at h ⊢
    by_cases c2 : T (i + 1) = 20060 ∨ T (i + 1) = 20062 ∨ T (i + 1) = 20061
    · rw [if_neg (not_not_intro c2)] at h ⊢
      by_cases c3 : 0 ≤ T (i + 2) ∧ T (i + 2) ≤ 9999
      · rw [if_neg (not_not_intro c3)]
        obtain ⟨w, ew, w1, w2⟩ := rg (lo := 10000) (hi := 10011) c1 (by omega) (by omega)
        obtain ⟨n, en, n1, n2⟩ := rg (lo := 0) (hi := 9999) c3 (by omega) (by omega)
        show hl_okS d (((if T (i + 1) = 20060 then 0 else if T (i + 1) = 20062 then 1 else 2), (T i - 10000).toNatClampNeg, (T (i + 2)).toNatClampNeg) :: rest)
        refine Or.inl ⟨?_, ?_, ?_, by omega, hr⟩
        · show (if T (i + 1) = 20060 then 0 else if T (i + 1) = 20062 then 1 else 2) ≤ 2
          split
          · omega
          · split <;> omega
        · show (T i - 10000).toNatClampNeg < 12
          rw [ew, show (10000 : Int32) = Int32.ofNat 10000 from rfl, n32_subn w1, n32_nat (by omega)]
          omega
        · show (T (i + 2)).toNatClampNeg ≤ 9999
          rw [en, n32_nat (by omega)]
          exact n2
      · rw [if_pos c3] at h; simp at h
    · rw [if_pos c2] at h; simp at h
  · rw [if_pos c1] at h; simp at h
theorem pLoop_ok {B : Nat} {sub : Nat → pR} {tok : Int32} {st : hl_S} (hst : st.1 = 3 ∨ st.1 = 4) (hs : OKx (B + 1) sub) : ∀ (r : Nat) (x : pR), (x.1 = true → ∀ d rest, d ≤ B → hl_okS (d + 1) rest → hl_okS d (x.2.2 ++ rest)) → (pLoop T sub tok st r x).1 = true → ∀ d rest, d ≤ B → hl_okS (d + 1) rest → hl_okS d ((pLoop T sub tok st r x).2.2 ++ rest)
  | 0, x, h, hx => h hx
  | r + 1, x, h, hx => by
    rw [pLoop_s] at hx ⊢
    by_cases c : x.1 = true ∧ T x.2.1 = tok
    · rw [if_pos c] at hx ⊢
      refine pLoop_ok hst hs r _ (fun z d rest hd hr => ?_) hx
      show hl_okS d ((x.2.2 ++ (sub (x.2.1 + 1)).2.2 ++ [st]) ++ rest)
      rw [List.append_assoc, List.append_assoc]
      refine h c.1 d _ hd (hs _ z (d + 1) _ (by omega) ?_)
      show hl_okS (d + 1 + 1) (st :: rest)
      exact Or.inr (Or.inl ⟨hst, by omega, hr⟩)
    · rw [if_neg c] at hx ⊢
      exact h hx
theorem pAll_ok {B : Nat} {sub : Nat → pR} (hs : OKx (B + 1) sub) : OKx B (pAll T sub) := fun i h => pLoop_ok (Or.inr rfl) hs 700 (sub i) (fun z d rest hd hr => hs i z d rest (by omega) hr) h
theorem pAny_ok {B : Nat} {sub : Nat → pR} (hs : OKx (B + 2) sub) : OKx B (pAny T sub) := by
  have h1 : OKx (B + 1) (pAll T sub) := pAll_ok hs
  exact fun i h => pLoop_ok (Or.inl rfl) h1 700 (pAll T sub i) (fun z d rest hd hr => h1 i z d rest (by omega) hr) h
theorem pOne_ok : ∀ k, k ≤ 9 → OKx (19 - 2 * k) (pOne T k)
  | 0, _ => fun i h d rest hd hr => by
    have e : pOne T 0 i = if T i = 10020 ∨ T i = 20040 then (false, i, []) else pCmp T i := rfl
    rw [e] at h ⊢
    by_cases c : T i = 10020 ∨ T i = 20040
    · rw [if_pos c] at h; simp at h
    · rw [if_neg c] at h ⊢; exact pCmp_ok i h d rest (by omega) hr
  | k + 1, hk => fun i h d rest hd hr => by
    have e : pOne T (k + 1) i = if T i = 10020 then ((pOne T k (i + 1)).1, (pOne T k (i + 1)).2.1, (pOne T k (i + 1)).2.2 ++ [(5, 0, 0)])
    else if T i = 20040 then (if (pAny T (pOne T k) (i + 1)).1 = true ∧ T (pAny T (pOne T k) (i + 1)).2.1 = 20041 then (true, (pAny T (pOne T k) (i + 1)).2.1 + 1, (pAny T (pOne T k) (i + 1)).2.2) else (false, (pAny T (pOne T k) (i + 1)).2.1, []))
    else pCmp T i := rfl
    have h1 := pOne_ok k (by omega)
    rw [e] at h ⊢
    by_cases c : T i = 10020
    · rw [if_pos c] at h ⊢
      show hl_okS d (((pOne T k (i + 1)).2.2 ++ [(5, 0, 0)]) ++ rest)
      rw [List.append_assoc]
      refine h1 (i + 1) h d _ (by omega) ?_
      show hl_okS (d + 1) ((5, 0, 0) :: rest)
      exact Or.inr (Or.inr ⟨rfl, by omega, hr⟩)
    · rw [if_neg c] at h ⊢
      by_cases c2 : T i = 20040
      · rw [if_pos c2] at h ⊢
        by_cases c3 : (pAny T (pOne T k) (i + 1)).1 = true ∧ T (pAny T (pOne T k) (i + 1)).2.1 = 20041
        · rw [if_pos c3]
          have h2 : OKx (19 - 2 * (k + 1)) (pAny T (pOne T k)) := pAny_ok (by
            have e : 19 - 2 * (k + 1) + 2 = 19 - 2 * k := by omega
            rw [e]; exact h1)
          exact h2 (i + 1) c3.1 d rest hd hr
        · rw [if_neg c3] at h; simp at h
      · rw [if_neg c2] at h ⊢
        exact pCmp_ok i h d rest (by omega) hr
theorem any8_ok (h : (pAny T (pOne T 8) i).1 = true) : hl_okS 0 (pAny T (pOne T 8) i).2.2 := by
  have h8 : OKx 3 (pOne T 8) := pOne_ok 8 (by omega)
  have := pAny_ok (B := 1) h8 i h 0 [] (by omega) rfl
  rw [List.append_nil] at this
  exact this
theorem pW_ok (h : (pW T i).1 = true) : i + 1 ≤ (pW T i).2.1 ∧ (pW T i).2.2.1 ≤ 5 ∧ ((pW T i).2.2.1 = 4 → (pW T i).2.2.2 ≤ 3) ∧ ((pW T i).2.2.1 = 5 → 1 ≤ (pW T i).2.2.2) ∧ (pW T i).2.2.2 ≤ 99 := by
  unfold pW at h ⊢
  by_cases c1 : 10008 ≤ T i ∧ T i ≤ 10013
  · rw [if_neg (not_not_intro c1)] at h ⊢
    by_cases c4 : T i = 10012
    · rw [if_pos c4] at h ⊢
      by_cases c5 : 0 ≤ T (i + 1) ∧ T (i + 1) ≤ 3
      · rw [if_neg (not_not_intro c5)]
        obtain ⟨n, en, n1, n2⟩ := rg (lo := 0) (hi := 3) c5 (by omega) (by omega)
        have e : (T (i + 1)).toNatClampNeg = n := by rw [en, n32_nat (by omega)]
        show i + 1 ≤ i + 2 ∧ 4 ≤ 5 ∧ (4 = 4 → (T (i + 1)).toNatClampNeg ≤ 3) ∧ (4 = 5 → 1 ≤ (T (i + 1)).toNatClampNeg) ∧ (T (i + 1)).toNatClampNeg ≤ 99
        rw [e]; omega
      · rw [if_pos c5] at h; simp at h
    · rw [if_neg c4] at h ⊢
      by_cases c6 : T i = 10013
      · rw [if_pos c6] at h ⊢
        by_cases c5 : 1 ≤ T (i + 1) ∧ T (i + 1) ≤ 99
        · rw [if_neg (not_not_intro c5)]
          obtain ⟨n, en, n1, n2⟩ := rg (lo := 1) (hi := 99) c5 (by omega) (by omega)
          have e : (T (i + 1)).toNatClampNeg = n := by rw [en, n32_nat (by omega)]
          show i + 1 ≤ i + 2 ∧ 5 ≤ 5 ∧ (5 = 4 → (T (i + 1)).toNatClampNeg ≤ 3) ∧ (5 = 5 → 1 ≤ (T (i + 1)).toNatClampNeg) ∧ (T (i + 1)).toNatClampNeg ≤ 99
          rw [e]; omega
        · rw [if_pos c5] at h; simp at h
      · rw [if_neg c6]
        obtain ⟨n, en, n1, n2⟩ := rg (lo := 10008) (hi := 10013) c1 (by omega) (by omega)
        have e : (T i - 10008).toNatClampNeg = n - 10008 := by
          rw [en, show (10008 : Int32) = Int32.ofNat 10008 from rfl, n32_subn n1, n32_nat (by omega)]
        have n4 : n ≠ 10012 := fun z => c4 (by rw [en, z]; rfl)
        have n5 : n ≠ 10013 := fun z => c6 (by rw [en, z]; rfl)
        show i + 1 ≤ i + 1 ∧ (T i - 10008).toNatClampNeg ≤ 5 ∧ ((T i - 10008).toNatClampNeg = 4 → 0 ≤ 3) ∧ ((T i - 10008).toNatClampNeg = 5 → 1 ≤ 0) ∧ 0 ≤ 99
        rw [e]; omega
  · rw [if_pos c1] at h; simp at h
theorem pAim_ok (h : (pAim T i).1 = true) : i + 1 ≤ (pAim T i).2.1 ∧ (pAim T i).2.2.1 ≤ 2 ∧ ((pAim T i).2.2.1 = 2 → (pAim T i).2.2.2 = (0, 0, 0)) ∧ (pAim T i).2.2.2.1 ≤ 5 ∧ ((pAim T i).2.2.2.1 = 4 → (pAim T i).2.2.2.2.1 ≤ 3) ∧ ((pAim T i).2.2.2.1 = 5 → 1 ≤ (pAim T i).2.2.2.2.1) ∧ (pAim T i).2.2.2.2.1 ≤ 99 ∧ (pAim T i).2.2.2.2.2 ≤ 60 := by
  rw [pAim_eq] at h ⊢
  by_cases c1 : 10014 ≤ T i ∧ T i ≤ 10016
  · rw [if_neg (not_not_intro c1)] at h ⊢
    by_cases c2 : T i = 10016
    · rw [if_pos c2]
      exact ⟨Nat.le_refl _, Nat.le_refl _, fun _ => rfl, Nat.zero_le _, fun _ => Nat.zero_le _, fun z => by have : (0 : Nat) = 5 := z; omega, Nat.zero_le _, Nat.zero_le _⟩
    · rw [if_neg c2] at h ⊢
      by_cases c3 : (pW T (i + 1)).1 = false
      · rw [if_pos c3] at h; simp at h
      · rw [if_neg c3] at h ⊢
        by_cases c4 : 0 ≤ T (pW T (i + 1)).2.1 ∧ T (pW T (i + 1)).2.1 ≤ 60
        · rw [if_neg (not_not_intro c4)]
          have hw : (pW T (i + 1)).1 = true := by
            cases hb : (pW T (i + 1)).1 with
            | true => rfl
            | false => exact absurd hb c3
          obtain ⟨w1, w2, w3, w4, w5⟩ := pW_ok hw
          obtain ⟨n, en, n1, n2⟩ := rg (lo := 0) (hi := 60) c4 (by omega) (by omega)
          obtain ⟨v, ev, v1, v2⟩ := rg (lo := 10014) (hi := 10016) c1 (by omega) (by omega)
          have e : (T (pW T (i + 1)).2.1).toNatClampNeg = n := by rw [en, n32_nat (by omega)]
          have e2 : (T i - 10014).toNatClampNeg = v - 10014 := by
            rw [ev, show (10014 : Int32) = Int32.ofNat 10014 from rfl, n32_subn v1, n32_nat (by omega)]
          have v3 : v ≠ 10016 := fun z => c2 (by rw [ev, z]; rfl)
          refine ⟨?_, ?_, fun z => ?_, w2, w3, w4, w5, ?_⟩
          · show i + 1 ≤ (pW T (i + 1)).2.1 + 1
            omega
          · show (T i - 10014).toNatClampNeg ≤ 2
            rw [e2]; omega
          · have z' : (T i - 10014).toNatClampNeg = 2 := z
            rw [e2] at z'
            exact absurd z' (by omega)
          · show (T (pW T (i + 1)).2.1).toNatClampNeg ≤ 60
            rw [e]; exact n2
        · rw [if_pos c4] at h; simp at h
  · rw [if_pos c1] at h; simp at h
theorem pIf_ok (h : (pIf T i).1 = true) : (((pIf T i).2.2 = [] ∧ i + 1 ≤ (pIf T i).2.1) ∨ i + (pIf T i).2.2.length + 3 ≤ (pIf T i).2.1) ∧ ((pIf T i).2.2 = [] ∨ hl_okS 0 (pIf T i).2.2) ∧ ∃ q, (pIf T i).2.1 = q + 1 ∧ T q = 20059 := by
  unfold pIf at h ⊢
  by_cases c1 : T i = 10017
  · rw [if_pos c1] at h ⊢
    by_cases c2 : (pAny T (pOne T 8) (i + 1)).1 = false
    · rw [if_pos c2] at h; simp at h
    · rw [if_neg c2] at h ⊢
      have hb : (pAny T (pOne T 8) (i + 1)).1 = true := by
        cases hb : (pAny T (pOne T 8) (i + 1)).1 with
        | true => rfl
        | false => exact absurd hb c2
      by_cases c3 : T (pAny T (pOne T 8) (i + 1)).2.1 = 20059
      · rw [if_pos c3]
        have hg := pAny_grow (pOne_grow 8) (i + 1) hb
        refine ⟨Or.inr ?_, Or.inr (any8_ok hb), _, rfl, c3⟩
        show i + (pAny T (pOne T 8) (i + 1)).2.2.length + 3 ≤ (pAny T (pOne T 8) (i + 1)).2.1 + 1
        omega
      · rw [if_neg c3] at h; simp at h
  · rw [if_neg c1] at h ⊢
    by_cases c3 : T i = 20059
    · rw [if_pos c3]
      exact ⟨Or.inl ⟨rfl, Nat.le_refl _⟩, Or.inl rfl, _, rfl, c3⟩
    · rw [if_neg c3] at h; simp at h
theorem pRule_ok (h : (pRule T i).1 = true) : hl_okR (pRule T i).2.2 ∧ (((pRule T i).2.2.2 = [] ∧ i + 2 ≤ (pRule T i).2.1) ∨ i + (pRule T i).2.2.2.length + 4 ≤ (pRule T i).2.1) ∧ ∃ q, (pRule T i).2.1 = q + 1 ∧ T q = 20059 := by
  rw [pRule_eq] at h ⊢
  by_cases c1 : (pAim T i).1 = false
  · rw [if_pos c1] at h; simp at h
  · rw [if_neg c1] at h ⊢
    by_cases c2 : (pIf T (pAim T i).2.1).1 = false
    · rw [if_pos c2] at h; simp at h
    · rw [if_neg c2]
      have hb1 : (pAim T i).1 = true := by
        cases hb : (pAim T i).1 with
        | true => rfl
        | false => exact absurd hb c1
      have hb2 : (pIf T (pAim T i).2.1).1 = true := by
        cases hb : (pIf T (pAim T i).2.1).1 with
        | true => rfl
        | false => exact absurd hb c2
      obtain ⟨a1, a2, a3, a4, a5, a6, a7, a8⟩ := pAim_ok hb1
      obtain ⟨b1, b2, b3⟩ := pIf_ok hb2
      refine ⟨⟨a2, a3, a4, a5, a6, a7, a8, b2⟩, ?_, b3⟩
      show ((pIf T (pAim T i).2.1).2.2 = [] ∧ i + 2 ≤ (pIf T (pAim T i).2.1).2.1) ∨ i + (pIf T (pAim T i).2.1).2.2.length + 4 ≤ (pIf T (pAim T i).2.1).2.1
      rcases b1 with ⟨b4, b5⟩ | b5
      · exact Or.inl ⟨b4, by omega⟩
      · exact Or.inr (by omega)
/-- how much code a law is -/
def cl : List hl_R → Nat
  | [] => 0
  | r :: rs => 2 + r.2.length + cl rs
/-- how many steps -/
def sl : List hl_R → Nat
  | [] => 0
  | r :: rs => r.2.length + sl rs
theorem pLaw_s {f k : Nat} : pLaw T (f + 1) k i = if T i = -2 then (true, i, []) else if k = 16 then (false, i, []) else if (pRule T i).1 = true then ((pLaw T f (k + 1) (pRule T i).2.1).1, (pLaw T f (k + 1) (pRule T i).2.1).2.1, (pRule T i).2.2 :: (pLaw T f (k + 1) (pRule T i).2.1).2.2) else (false, (pRule T i).2.1, []) := rfl
theorem pLaw_ok {C : Nat} (hC : ∀ j, C ≤ j → T j = -2) : ∀ (f k i : Nat), k + f = 17 → i ≤ C → (pLaw T f k i).1 = true → (∀ r ∈ (pLaw T f k i).2.2, hl_okR r) ∧ k + (pLaw T f k i).2.2.length ≤ 16 ∧ cl (pLaw T f k i).2.2 + i ≤ (pLaw T f k i).2.1 ∧ (cl (pLaw T f k i).2.2 = 2 * (pLaw T f k i).2.2.length ∨ cl (pLaw T f k i).2.2 + i + 2 ≤ (pLaw T f k i).2.1) ∧ (pLaw T f k i).2.1 ≤ C
  | 0, k, i, _, _, h => by
    have e : pLaw T 0 k i = (false, i, []) := rfl
    rw [e] at h; simp at h
  | f + 1, k, i, hk, hi, h => by
    rw [pLaw_s] at h ⊢
    by_cases c1 : T i = -2
    · rw [if_pos c1]
      refine ⟨fun r hr => by simp at hr, ?_, ?_, Or.inl rfl, hi⟩
      · show k + 0 ≤ 16
        omega
      · show 0 + i ≤ i
        omega
    · rw [if_neg c1] at h ⊢
      by_cases c2 : k = 16
      · rw [if_pos c2] at h; simp at h
      · rw [if_neg c2] at h ⊢
        by_cases c3 : (pRule T i).1 = true
        · rw [if_pos c3] at h ⊢
          obtain ⟨r1, r2, q, r3, r4⟩ := pRule_ok c3
          have hq : q < C := by
            apply Classical.byContradiction
            intro z
            rw [hC q (by omega)] at r4
            exact absurd r4 (by decide)
          obtain ⟨p1, p2, p3, p4, p5⟩ := pLaw_ok hC f (k + 1) (pRule T i).2.1 (by omega) (by omega) h
          refine ⟨fun r hr => ?_, ?_, ?_, ?_, p5⟩
          · rcases List.mem_cons.mp hr with rfl | hr
            · exact r1
            · exact p1 r hr
          · show k + (List.length _ + 1) ≤ 16
            omega
          · show 2 + (pRule T i).2.2.2.length + cl (pLaw T f (k + 1) (pRule T i).2.1).2.2 + i ≤ (pLaw T f (k + 1) (pRule T i).2.1).2.1
            rcases r2 with ⟨e, r2⟩ | r2
            · rw [e]; show 2 + 0 + _ + i ≤ _; omega
            · omega
          · show 2 + (pRule T i).2.2.2.length + cl (pLaw T f (k + 1) (pRule T i).2.1).2.2 = 2 * (List.length (pLaw T f (k + 1) (pRule T i).2.1).2.2 + 1) ∨ 2 + (pRule T i).2.2.2.length + cl (pLaw T f (k + 1) (pRule T i).2.1).2.2 + i + 2 ≤ (pLaw T f (k + 1) (pRule T i).2.1).2.1
            rcases r2 with ⟨e, r2⟩ | r2
            · rw [e]
              show 2 + 0 + cl (pLaw T f (k + 1) (pRule T i).2.1).2.2 = 2 * (List.length (pLaw T f (k + 1) (pRule T i).2.1).2.2 + 1) ∨ 2 + 0 + cl (pLaw T f (k + 1) (pRule T i).2.1).2.2 + i + 2 ≤ (pLaw T f (k + 1) (pRule T i).2.1).2.1
              omega
            · right; omega
        · rw [if_neg c3] at h; simp at h
theorem sl_cl : ∀ L : List hl_R, sl L + 2 * L.length = cl L
  | [] => rfl
  | r :: rs => by
    have := sl_cl rs
    show r.2.length + sl rs + 2 * (rs.length + 1) = 2 + r.2.length + cl rs
    omega
theorem lCode_len : ∀ (L : List hl_R) (at0 : Nat), (lCode L at0).length = cl L
  | [], _ => rfl
  | r :: rs, at0 => by
    have e : lCode (r :: rs) at0 = rCode r at0 ++ lCode rs (at0 + 2 + r.2.length) := rfl
    rw [e, List.length_append, rCode_len, lCode_len rs]
    rfl
theorem lCode_C {μ : hx_M} {cc len : Nat} : ∀ (L : List hl_R) (at0 : Nat), (∀ j, j < cl L → μ.1 cc (at0 + j) = (lCode L at0).getD j 0) → at0 + cl L ≤ len → hl_C μ cc len at0 L
  | [], _, _, _ => trivial
  | r :: rs, at0, h, hl => by
    have ec : lCode (r :: rs) at0 = hl_head r :: Int32.ofNat (at0 + 2 + r.2.length) :: (r.2.map hl_step ++ lCode rs (at0 + 2 + r.2.length)) := rfl
    have hc : cl (r :: rs) = 2 + r.2.length + cl rs := rfl
    rw [ec] at h
    rw [hc] at h hl
    refine ⟨by omega, ?_, ?_, fun i s e => ?_, lCode_C rs _ (fun j hj => ?_) (by omega)⟩
    · have := h 0 (by omega)
      rw [Nat.add_zero] at this
      exact this
    · exact h 1 (by omega)
    · have hi : i < r.2.length := (List.getElem?_eq_some_iff.mp e).1
      have := h (2 + i) (by omega)
      rw [← Nat.add_assoc] at this
      rw [this, show 2 + i = i + 1 + 1 by omega, List.getD_cons_succ, List.getD_cons_succ]
      simp only [List.getD]
      rw [List.getElem?_append_left (by rw [List.length_map]; exact hi), List.getElem?_map, e]
      rfl
    · have := h (2 + r.2.length + j) (by omega)
      rw [show at0 + 2 + r.2.length + j = at0 + (2 + r.2.length + j) by omega, this, show 2 + r.2.length + j = (r.2.length + j) + 1 + 1 by omega, List.getD_cons_succ, List.getD_cons_succ]
      simp only [List.getD]
      rw [List.getElem?_append_right (by rw [List.length_map]; omega), List.length_map, show r.2.length + j - r.2.length = j by omega]
theorem hl_M_app {μ : hx_M} {sm : Nat} : ∀ {L1 L2 : List hl_R} {k : Nat}, hl_M μ sm k L1 → hl_M μ sm (k + L1.length) L2 → hl_M μ sm k (L1 ++ L2)
  | [], L2, k, _, h => h
  | r :: rs, L2, k, h1, h2 => ⟨h1.1, h1.2.1, h1.2.2.1, hl_M_app h1.2.2.2 (by
      rw [show k + 1 + rs.length = k + (rs.length + 1) by omega]; exact h2)⟩
theorem hl_M_mono {μ m : hx_M} {sm sm' : Nat} (hs : sm ≤ sm') (h7 : ∀ j, j < sm → m.1 70 j = μ.1 70 j ∧ m.1 71 j = μ.1 71 j ∧ m.1 72 j = μ.1 72 j) : ∀ {L : List hl_R} {k : Nat}, (∀ c, 64 ≤ c → c ≤ 69 → ∀ j, k ≤ j → j < k + L.length → m.1 c j = μ.1 c j) → hl_M μ sm k L → hl_M m sm' k L
  | [], _, _, _ => trivial
  | r :: rs, k, hc, ⟨a1, a2, ⟨fr, b1, b2, b3, b4⟩, a3⟩ => by
    have e : ∀ c, 64 ≤ c → c ≤ 69 → m.1 c k = μ.1 c k := fun c h1 h2 => hc c h1 h2 k (Nat.le_refl _) (by rw [List.length_cons]; omega)
    refine ⟨by rw [e 64 (by omega) (by omega)]; exact a1, fun z => ?_, ⟨fr, ?_, ?_, by omega, fun i s ei => ?_⟩, hl_M_mono hs h7 (fun c h1 h2 j h3 h4 => hc c h1 h2 j (by omega) (by rw [List.length_cons]; omega)) a3⟩
    · rw [e 65 (by omega) (by omega), e 66 (by omega) (by omega), e 67 (by omega) (by omega)]; exact a2 z
    · rw [e 68 (by omega) (by omega)]; exact b1
    · rw [e 69 (by omega) (by omega)]; exact b2
    · have hi : i < r.2.length := (List.getElem?_eq_some_iff.mp ei).1
      obtain ⟨q1, q2, q3⟩ := h7 (fr + i) (by omega)
      rw [q1, q2, q3]
      exact b4 i s ei
end OKS
