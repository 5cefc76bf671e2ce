/-! layer 2: law, how it is read; the class -/
abbrev pR : Type := Bool × Nat × List hl_S
def pCmp (T : Nat → Int32) (i : Nat) : pR :=
  if ¬ (10000 ≤ T i ∧ T i ≤ 10011) then (false, i, []) else if ¬ (T (i + 1) = 20060 ∨ T (i + 1) = 20062 ∨ T (i + 1) = 20061) then (false, i + 1, []) else if ¬ (0 ≤ T (i + 2) ∧ T (i + 2) ≤ 9999) then (false, i + 2, []) else (true, i + 3, [((if T (i + 1) = 20060 then 0 else if T (i + 1) = 20062 then 1 else 2), (T i - 10000).toNatClampNeg, (T (i + 2)).toNatClampNeg)])
def pLoop (T : Nat → Int32) (sub : Nat → pR) (tok : Int32) (st : hl_S) : Nat → pR → pR
  | 0, x => x
  | r + 1, x => if x.1 = true ∧ T x.2.1 = tok then pLoop T sub tok st r ((sub (x.2.1 + 1)).1, (sub (x.2.1 + 1)).2.1, x.2.2 ++ (sub (x.2.1 + 1)).2.2 ++ [st]) else x
def pAll (T : Nat → Int32) (sub : Nat → pR) (i : Nat) : pR := pLoop T sub 10018 (4, 0, 0) 700 (sub i)
def pAny (T : Nat → Int32) (sub : Nat → pR) (i : Nat) : pR := pLoop T (pAll T sub) 10019 (3, 0, 0) 700 (pAll T sub i)
def pOne (T : Nat → Int32) : Nat → Nat → pR
  | 0, i => if T i = 10020 ∨ T i = 20040 then (false, i, []) else pCmp T i
  | k + 1, i => if T i = 10020 then ((pOne T k (i + 1)).1, (pOne T k (i + 1)).2.1, (pOne T k (i + 1)).2.2 ++ [(5, 0, 0)])
    else if T i = 20040 then (if (pAny T (pOne T k) (i + 1)).1 = true ∧ T (pAny T (pOne T k) (i + 1)).2.1 = 20041 then (true, (pAny T (pOne T k) (i + 1)).2.1 + 1, (pAny T (pOne T k) (i + 1)).2.2) else (false, (pAny T (pOne T k) (i + 1)).2.1, []))
    else pCmp T i
/-- the tokens: behind the last nothing but the end -/
def TOK (C : Nat) (T : Nat → Int32) : Prop := C ≤ 700 ∧ ∀ i, C ≤ i → T i = -2
/-- the class's reader amid a text: at token i, V put so far -/
def PS (C : Nat) (T : Nat → Int32) (μ : hx_M) (V : List Int32) (i : Nat) (m : hx_M) : Prop :=
  i ≤ C ∧ m.1 2 4 = Int32.ofNat i ∧ m.1 2 6 = Int32.ofNat (min 700 V.length) ∧ (∀ j, j < V.length → j < 700 → m.1 5 j = V.getD j 0) ∧ (∀ c, c ≠ 2 → c ≠ 5 → m.1 c = μ.1 c) ∧ (∀ j, j ≠ 4 → j ≠ 6 → m.1 2 j = μ.1 2 j) ∧ m.2 = μ.2
/-- the tokens stand in the class's row -/
def TR (C : Nat) (T : Nat → Int32) (μ : hx_M) : Prop := TOK C T ∧ ∀ i, i ≤ C → μ.1 3 i = T i
section PC
variable {C : Nat} {T : Nat → Int32} {μ m : hx_M} {V : List Int32} {i : Nat}
theorem PS.tok (h : PS C T μ V i m) (t : TR C T μ) : vp_in (m.1 2 4) 701 ∧ m.1 3 (m.1 2 4).toNatClampNeg = T i := by
  obtain ⟨h1, h2, h3, h4, h5, h6, h7⟩ := h
  have := t.1.1
  rw [h2, n32_nat (by omega), h5 3 (by omega) (by omega)]
  exact ⟨n32_in (by omega) (by omega), t.2 i h1⟩
theorem PS.next (h : PS C T μ V i m) (hi : i < C) : PS C T μ V (i + 1) (hx_sI m 2 4 (m.1 2 4 + 1)) := by
  obtain ⟨h1, h2, h3, h4, h5, h6, h7⟩ := h
  rw [h2, n32_add1]
  exact ⟨hi, sIe, by rw [sIj (by omega)]; exact h3, fun j a b => by rw [sIk (by omega)]; exact h4 j a b, fun c a b => by rw [sIk a]; exact h5 c a b, fun j a b => by rw [sIj a]; exact h6 j a b, h7⟩
theorem TR.lt (t : TR C T μ) (h : i ≤ C) (hT : T i ≠ -2) : i < C := by
  apply Classical.byContradiction
  intro c
  exact hT (t.1.2 i (by omega))
theorem takesC {tok : Int32} {K : Int32 → hx_M → Prop} (t : TR C T μ) (h : PS C T μ V i m) (ht : tok ≠ -2) (k1 : T i = tok → ∀ m', PS C T μ V (i + 1) m' → K 1 m') (k0 : T i ≠ tok → K 0 m) : wX2_takes m tok K := by
  obtain ⟨h1, h2⟩ := h.tok t
  unfold wX2_takes
  rw [h2]
  exact ⟨h1, fun z => k1 z _ (h.next (t.lt h.1 (by rw [z]; exact ht))), fun z => k0 z⟩
theorem putC2 {v : Int32} {K : hx_M → Prop} (h : PS C T μ V i m) (k : ∀ m', PS C T μ (V ++ [v]) i m' → K m') : wX2_put m v K := by
  obtain ⟨h1, h2, h3, h4, h5, h6, h7⟩ := h
  have hl : (V ++ [v]).length = V.length + 1 := by simp
  unfold wX2_put
  rw [h3]
  refine ⟨fun z => ?_, fun z => ?_⟩
  · have hz := (n32_le (by omega) (by omega)).mp z
    refine k m ⟨h1, h2, by rw [hl, h3]; congr 1; omega, fun j a b => ?_, h5, h6, h7⟩
    rw [h4 j (by omega) b]
    simp only [List.getD]
    rw [List.getElem?_append_left (by omega)]
  · have hz : ¬ 700 ≤ min 700 V.length := fun z2 => z ((n32_le (by omega) (by omega)).mpr z2)
    have hm : min 700 V.length = V.length := by omega
    rw [hm, n32_nat (by omega), n32_add1]
    refine ⟨n32_in (by omega) (by omega), k _ ⟨h1, by rw [sIj (by omega), sIk (by omega)]; exact h2, by rw [sIe, hl]; congr 1; omega, fun j a b => ?_, fun c a b => by rw [sIk a, sIk b]; exact h5 c a b, fun j a b => by rw [sIj b, sIk (by omega)]; exact h6 j a b, h7⟩⟩
    rw [sIk (by omega), hm_sI]
    by_cases e : j = V.length
    · subst e
      rw [if_pos ⟨rfl, rfl⟩]
      simp
    · rw [if_neg (fun z => e z.2), h4 j (by omega) b]
      simp only [List.getD]
      rw [List.getElem?_append_left (by omega)]
theorem numC {lo hi : Int32} {K : Int32 → hx_M → Prop} (t : TR C T μ) (h : PS C T μ V i m) (hlo : 0 ≤ lo) (k1 : lo ≤ T i ∧ T i ≤ hi → ∀ m', PS C T μ V (i + 1) m' → K (T i) m') (k0 : ¬ (lo ≤ T i ∧ T i ≤ hi) → K (-1) m) : wX2_readNumber m lo hi K := by
  obtain ⟨h1, h2⟩ := h.tok t
  unfold wX2_readNumber
  rw [h2]
  refine ⟨h1, fun z => k0 (fun z2 => absurd z2.1 (Int32.not_le.mpr z)), fun z => ⟨fun z2 => k1 ⟨Int32.not_lt.mp z, z2⟩ _ (h.next (t.lt h.1 (fun z3 => ?_))), fun z2 => k0 (fun z3 => z2 z3.2)⟩⟩
  rw [z3] at z
  exact z (Int32.lt_of_lt_of_le (by decide) hlo)
/-- what is left behind a part: the token at hand, and what was put if it went well -/
def Out (C : Nat) (T : Nat → Int32) (μ : hx_M) (V : List Int32) (y : pR) (m : hx_M) : Prop := ∃ V', PS C T μ V' y.2.1 m ∧ (y.1 = true → V' = V ++ y.2.2.map hl_step)
theorem cmpStep {w s n : Nat} {x : Int32} {g : Nat} (hg : g < 128) (hw : w < 12) (hn : n ≤ 9999) : ((Int32.ofNat n <<< ((11 : Int32) &&& 31)) ||| (Int32.ofNat g <<< ((4 : Int32) &&& 31))) ||| Int32.ofNat w = Int32.ofNat (n * 2048 + g * 16 + w) := by
  have e11 : (11 : Int32) &&& 31 = Int32.ofNat 11 := rfl
  have e4 : (4 : Int32) &&& 31 = Int32.ofNat 4 := rfl
  have o1 : n * 2 ^ 11 ||| g * 2 ^ 4 = n * 2048 + g * 16 := by
    rw [Nat.mul_comm n, ← Nat.two_pow_add_eq_or_of_lt (by omega)]
    try omega
  have o2 : (n * 2048 + g * 16) ||| w = n * 2048 + g * 16 + w := by
    have : n * 2048 + g * 16 = 2 ^ 4 * (n * 128 + g) := by omega
    rw [this, ← Nat.two_pow_add_eq_or_of_lt (by omega)]
  rw [e11, e4, n32_shl (by omega), n32_shl (by omega), n32_or, o1, n32_or, o2]
theorem comparisonC {K : Int32 → hx_M → Prop} (t : TR C T μ) (h : PS C T μ V i m) (k : ∀ m', Out C T μ V (pCmp T i) m' → K (bI (pCmp T i).1) m') : wX2_readComparison m K := by
  obtain ⟨h1, h2⟩ := h.tok t
  unfold pCmp at k
  unfold wX2_readComparison
  rw [h2]
  refine ⟨h1, ?_⟩
  by_cases c1 : 10000 ≤ T i ∧ T i ≤ 10011
  · rw [if_neg (not_not_intro c1)] at k
    have c1' : 0 ≤ T i - 10000 ∧ T i - 10000 ≤ 11 := by
      obtain ⟨x, e, hx⟩ := n32_of (hi := 10011) (Int32.le_trans (by decide) c1.1) c1.2 (by omega)
      have hx0 : 10000 ≤ x := by
        have := c1.1
        rw [e] at this
        exact (n32_le (a := 10000) (by omega) (by omega)).mp this
      have : (10000 : Int32) = Int32.ofNat 10000 := rfl
      rw [e, this, n32_subn hx0]
      exact ⟨(n32_le (a := 0) (by omega) (by omega)).mpr (by omega), (n32_le (b := 11) (by omega) (by omega)).mpr (by omega)⟩
    obtain ⟨w, ew, hw⟩ := n32_of (hi := 11) c1'.1 c1'.2 (by omega)
    have hiC := t.lt h.1 (i := i) (fun z => by rw [z] at c1; exact absurd c1.1 (by decide))
    have p1 := h.next hiC
    have hC := t.1.1
    obtain ⟨q1, q2⟩ := p1.tok t
    rw [sIe, h.2.1, n32_add1] at q1
    rw [sIe, h.2.1, n32_add1, sIk (by omega)] at q2
    refine t_withinY c1' (seln1 ⟨by rw [h.2.1, n32_add1]; exact q1, ?_⟩)
    rw [h.2.1, n32_add1, q2, ← n32_add1, ← h.2.1]
    rintro x rfl
    have Jn : ∀ g : Nat, g < 128 → (T (i + 1) = 20060 ∨ T (i + 1) = 20062 ∨ T (i + 1) = 20061) → (∀ n : Nat, hl_step (if T (i + 1) = 20060 then 0 else if T (i + 1) = 20062 then 1 else 2, w, n) = Int32.ofNat (n * 2048 + g * 16 + w)) → wX2_readComparison_J70 K (T i - 10000) (Int32.ofNat g) (hx_sI m 2 4 (m.1 2 4 + 1)) := by
      intro g hg hsg hst
      rw [if_neg (not_not_intro hsg)] at k
      have hi1 : i + 1 < C := t.lt p1.1 (fun z => by rw [z] at hsg; rcases hsg with z | z | z <;> exact absurd z (by decide))
      have p2 := p1.next hi1
      rw [sIe] at p2
      unfold wX2_readComparison_J70
      rw [sIe]
      refine numC t p2 (by decide) (fun z m2 p3 => ?_) (fun z => ?_)
      · rw [if_neg (not_not_intro z)] at k
        have hz : T (i + 1 + 1) ≠ -1 := fun z2 => by rw [z2] at z; exact absurd z.1 (by decide)
        refine selN hz ?_
        obtain ⟨n, en, hn⟩ := n32_of (hi := 9999) z.1 z.2 (by omega)
        unfold wX1_comparison
        rintro x rfl
        refine putC2 p3 (fun m4 p4 => k m4 ⟨_, p4, fun _ => ?_⟩)
        show V ++ [_] = V ++ [hl_step _]
        have en' : T (i + 2) = Int32.ofNat n := en
        rw [en', ew, n32_nat (by omega), n32_nat (by omega), hst n, cmpStep (s := 0) (x := 0) hg (by omega) hn]
      · have z' : ¬ (0 ≤ T (i + 2) ∧ T (i + 2) ≤ 9999) := z
        rw [if_pos z'] at k
        exact selE rfl (k _ ⟨V, p2, fun z2 => by simp at z2⟩)
    have s60 : T (i + 1) - 20000 = 60 ↔ T (i + 1) = 20060 := by constructor <;> intro z <;> grind
    have s62 : T (i + 1) - 20000 = 62 ↔ T (i + 1) = 20062 := by constructor <;> intro z <;> grind
    have s61 : T (i + 1) - 20000 = 61 ↔ T (i + 1) = 20061 := by constructor <;> intro z <;> grind
    refine ⟨fun z => ?_, fun z => ⟨fun z2 => ?_, fun z2 => ⟨fun z3 => ?_, fun z3 => ?_⟩⟩⟩
    · have e := s60.mp z
      rw [z]
      refine Jn 60 (by omega) (Or.inl e) (fun n => ?_)
      rw [if_pos e]; rfl
    · have e := s62.mp z2
      have ne : ¬ T (i + 1) = 20060 := fun z4 => z (s60.mpr z4)
      rw [z2]
      refine Jn 62 (by omega) (Or.inr (Or.inl e)) (fun n => ?_)
      rw [if_neg ne, if_pos e]; rfl
    · have e := s61.mp z3
      have ne : ¬ T (i + 1) = 20060 := fun z4 => z (s60.mpr z4)
      have ne2 : ¬ T (i + 1) = 20062 := fun z4 => z2 (s62.mpr z4)
      rw [z3]
      refine Jn 61 (by omega) (Or.inr (Or.inr e)) (fun n => ?_)
      rw [if_neg ne, if_neg ne2]; rfl
    · have ne : ¬ (T (i + 1) = 20060 ∨ T (i + 1) = 20062 ∨ T (i + 1) = 20061) := fun z4 => by
        rcases z4 with z4 | z4 | z4
        · exact z (s60.mpr z4)
        · exact z2 (s62.mpr z4)
        · exact z3 (s61.mpr z4)
      rw [if_pos ne] at k
      exact k _ ⟨V, p1, fun z2 => by simp at z2⟩
  · rw [if_pos c1] at k
    have c1' : ¬ (0 ≤ T i - 10000 ∧ T i - 10000 ≤ 11) := fun z => by
      obtain ⟨w, ew, hw⟩ := n32_of (hi := 11) z.1 z.2 (by omega)
      have : T i = Int32.ofNat (w + 10000) := by
        rw [← n32_add, ← ew]
        have : Int32.ofNat 10000 = 10000 := rfl
        rw [this]; grind
      rw [this] at c1
      exact c1 ⟨(n32_le (a := 10000) (by omega) (by omega)).mpr (by omega), (n32_le (b := 10011) (by omega) (by omega)).mpr (by omega)⟩
    exact t_withinN c1' (seln0 (k m ⟨V, h, fun z => by simp at z⟩))
end PC
