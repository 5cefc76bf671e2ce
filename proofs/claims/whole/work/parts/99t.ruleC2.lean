/-! layer 2: law, how the class reads all rules -/
theorem getD_two {V S : List Int32} {x y x' y' : Int32} {j : Nat} (h1 : j ≠ V.length) (h2 : j ≠ V.length + 1) : (V ++ x :: y :: S).getD j 0 = (V ++ x' :: y' :: S).getD j 0 := by
  simp only [List.getD]
  by_cases c : j < V.length
  · rw [List.getElem?_append_left c, List.getElem?_append_left c]
  · rw [List.getElem?_append_right (by omega), List.getElem?_append_right (by omega)]
    obtain ⟨q, hq⟩ : ∃ q, j - V.length = q + 2 := ⟨j - V.length - 2, by omega⟩
    rw [hq]
    rfl
theorem getD_0 {V S : List Int32} {x y : Int32} : (V ++ x :: y :: S).getD V.length 0 = x := by
  simp [List.getD]
theorem getD_1 {V S : List Int32} {x y : Int32} : (V ++ x :: y :: S).getD (V.length + 1) 0 = y := by
  simp only [List.getD]
  rw [List.getElem?_append_right (by omega), show V.length + 1 - V.length = 1 by omega]
  rfl
def pLaw (T : Nat → Int32) : Nat → Nat → Nat → Bool × Nat × List hl_R
  | 0, _, i => (false, i, [])
  | f + 1, k, i => if T i = -2 then (true, i, []) else if k = 16 then (false, i, []) else if (pRule T i).1 = true then ((pLaw T f (k + 1) (pRule T i).2.1).1, (pLaw T f (k + 1) (pRule T i).2.1).2.1, (pRule T i).2.2 :: (pLaw T f (k + 1) (pRule T i).2.1).2.2) else (false, (pRule T i).2.1, [])
/-- all rules as the class puts them, from a place on -/
def lCode : List hl_R → Nat → List Int32
  | [], _ => []
  | r :: rs, at0 => rCode r at0 ++ lCode rs (at0 + 2 + r.2.length)
section RL
variable {C : Nat} {T : Nat → Int32} {μ m : hx_M} {V : List Int32} {i : Nat}
def OutR (C : Nat) (T : Nat → Int32) (μ : hx_M) (V : List Int32) (y : Bool × Nat × hl_R) (m : hx_M) : Prop := ∃ V', PS C T μ V' y.2.1 m ∧ (y.1 = true → V.length + 2 + y.2.2.2.length ≤ 700 → V' = V ++ rCode y.2.2 V.length)
theorem ruleC {K : Int32 → hx_M → Prop} (t : TR C T μ) (h : PS C T μ V i m) (k : ∀ m', OutR C T μ V (pRule T i) m' → K (bI (pRule T i).1) m') : wX2_readRule m K := by
  unfold wX2_readRule
  have e6 : m.1 2 6 = Int32.ofNat (min 700 V.length) := h.2.2.1
  rw [e6]
  refine putC2 h (fun m1 p1 => putC2 p1 (fun m2 p2 => aimC t p2 (fun m3 p3 => ?_)))
  have hV2 : V ++ [0] ++ [0] = V ++ 0 :: 0 :: [] := by rw [List.append_assoc]; rfl
  rw [hV2] at p3
  unfold pRule at k
  cases ha : (pAim T i).1 with
  | false =>
    rw [ha] at k
    rw [if_neg (by simp)]
    rw [if_pos rfl] at k
    exact selE rfl (k m3 ⟨_, p3, fun z => by simp at z⟩)
  | true =>
    rw [ha, if_neg (show ¬ (true = false) by simp)] at k
    rw [if_pos rfl]
    have hne : aimH (pAim T i).2.2 ≠ -1 := by
      have key : (pAim T i).2.2.1 ≤ 2 ∧ (pAim T i).2.2.2.1 ≤ 5 ∧ (pAim T i).2.2.2.2.2 ≤ 60 ∧ (pAim T i).2.2.2.2.1 ≤ 99 := by
        have lt : ∀ {x : Int32} {b : Nat}, 0 ≤ x → x ≤ Int32.ofNat b → b < 2 ^ 31 → x.toNatClampNeg ≤ b := fun h0 h1 h2 => by
          obtain ⟨n, e, hn⟩ := n32_of h0 h1 h2
          rw [e, n32_nat (by omega)]; exact hn
        have lt1 : ∀ {x : Int32} {b : Nat}, 1 ≤ x → x ≤ Int32.ofNat b → b < 2 ^ 31 → x.toNatClampNeg ≤ b := fun h0 h1 h2 => lt (Int32.le_trans (by decide) h0) h1 h2
        have w1 : (10014 ≤ T i ∧ T i ≤ 10016) → 0 ≤ T i - 10014 ∧ T i - 10014 ≤ 2 := fun z => (sub_c (c := 10014) (hi := 2) (by omega) (by omega)).mpr z
        have w2 : (10008 ≤ T (i + 1) ∧ T (i + 1) ≤ 10013) → 0 ≤ T (i + 1) - 10008 ∧ T (i + 1) - 10008 ≤ 5 := fun z => (sub_c (c := 10008) (hi := 5) (by omega) (by omega)).mpr z
        unfold pAim
        by_cases c1 : 10014 ≤ T i ∧ T i ≤ 10016
        · have v1 := lt (b := 2) (w1 c1).1 (w1 c1).2 (by omega)
          rw [if_neg (not_not_intro c1)]
          by_cases c2 : T i = 10016
          · rw [if_pos c2]; exact ⟨by show 2 ≤ 2; omega, by show 0 ≤ 5; omega, by show 0 ≤ 60; omega, by show 0 ≤ 99; omega⟩
          · rw [if_neg c2]
            by_cases c3 : 10008 ≤ T (i + 1) ∧ T (i + 1) ≤ 10013
            · have v2 := lt (b := 5) (w2 c3).1 (w2 c3).2 (by omega)
              rw [if_neg (not_not_intro c3)]
              have z4 : (false, i + 2, ((0, 0, 0, 0) : Nat × Nat × Nat × Nat)).2.2.1 ≤ 2 := by show 0 ≤ 2; omega
              by_cases c4 : T (i + 1) = 10012
              · rw [if_pos c4]
                by_cases c5 : 0 ≤ T (i + 2) ∧ T (i + 2) ≤ 3
                · rw [if_neg (not_not_intro c5)]
                  by_cases c6 : 0 ≤ T (i + 3) ∧ T (i + 3) ≤ 60
                  · rw [if_neg (not_not_intro c6)]
                    exact ⟨v1, by show 4 ≤ 5; omega, lt (b := 60) c6.1 c6.2 (by omega), Nat.le_trans (lt (b := 3) c5.1 c5.2 (by omega)) (by omega)⟩
                  · rw [if_pos c6]; exact ⟨by show 0 ≤ 2; omega, by show 0 ≤ 5; omega, by show 0 ≤ 60; omega, by show 0 ≤ 99; omega⟩
                · rw [if_pos c5]; exact ⟨by show 0 ≤ 2; omega, by show 0 ≤ 5; omega, by show 0 ≤ 60; omega, by show 0 ≤ 99; omega⟩
              · rw [if_neg c4]
                by_cases c7 : T (i + 1) = 10013
                · rw [if_pos c7]
                  by_cases c5 : 1 ≤ T (i + 2) ∧ T (i + 2) ≤ 99
                  · rw [if_neg (not_not_intro c5)]
                    by_cases c6 : 0 ≤ T (i + 3) ∧ T (i + 3) ≤ 60
                    · rw [if_neg (not_not_intro c6)]
                      exact ⟨v1, by show 5 ≤ 5; omega, lt (b := 60) c6.1 c6.2 (by omega), lt1 (b := 99) c5.1 c5.2 (by omega)⟩
                    · rw [if_pos c6]; exact ⟨by show 0 ≤ 2; omega, by show 0 ≤ 5; omega, by show 0 ≤ 60; omega, by show 0 ≤ 99; omega⟩
                  · rw [if_pos c5]; exact ⟨by show 0 ≤ 2; omega, by show 0 ≤ 5; omega, by show 0 ≤ 60; omega, by show 0 ≤ 99; omega⟩
                · rw [if_neg c7]
                  by_cases c5 : 0 ≤ T (i + 2) ∧ T (i + 2) ≤ 60
                  · rw [if_neg (not_not_intro c5)]
                    exact ⟨v1, v2, lt (b := 60) c5.1 c5.2 (by omega), by show 0 ≤ 99; omega⟩
                  · rw [if_pos c5]; exact ⟨by show 0 ≤ 2; omega, by show 0 ≤ 5; omega, by show 0 ≤ 60; omega, by show 0 ≤ 99; omega⟩
            · rw [if_pos c3]; exact ⟨by show 0 ≤ 2; omega, by show 0 ≤ 5; omega, by show 0 ≤ 60; omega, by show 0 ≤ 99; omega⟩
        · rw [if_pos c1]; exact ⟨by show 0 ≤ 2; omega, by show 0 ≤ 5; omega, by show 0 ≤ 60; omega, by show 0 ≤ 99; omega⟩
      unfold aimH
      exact n32_neg (by omega) (by decide)
    refine selN hne ?_
    have fin : ∀ (j : Nat) (st : List hl_S) (m' : hx_M), PS C T μ (V ++ 0 :: 0 :: st.map hl_step) j m' → (T j = 20059 → ∀ m'', (∃ V', PS C T μ V' (j + 1) m'' ∧ (V.length + 2 + st.length ≤ 700 → V' = V ++ rCode ((pAim T i).2.2, st) V.length)) → K 1 m'') → (T j ≠ 20059 → ∀ m'', (∃ V', PS C T μ V' j m'') → K 0 m'') → wX2_readRule_J47 K (Int32.ofNat (min 700 V.length)) (aimH (pAim T i).2.2) m' := by
      intro j st m' hp f1 f0
      have J77 : ∀ V' m'', PS C T μ V' j m'' → (V.length + 2 + st.length ≤ 700 → V' = V ++ rCode ((pAim T i).2.2, st) V.length) → wX2_readRule_J77 K m'' := by
        intro V' m'' hp' hv'
        unfold wX2_readRule_J77
        exact takesC t hp' (by decide) (fun z m4 p4 => ⟨Or.inr rfl, f1 z m4 ⟨V', p4, hv'⟩⟩) (fun z => ⟨Or.inl rfl, f0 z m'' ⟨V', hp'⟩⟩)
      unfold wX2_readRule_J47
      rw [n32_add1, n32_le (by omega) (by omega)]
      refine ⟨fun z => J77 _ m' hp (fun z2 => by omega), fun z => ?_⟩
      have hmin : min 700 V.length = V.length := by omega
      rw [hmin, n32_nat (by omega), n32_nat (by omega)]
      refine ⟨n32_in (by omega) (by omega), n32_in (by omega) (by omega), ?_⟩
      obtain ⟨a1, a2, a3, a4, a5, a6, a7⟩ := hp
      have hlen : (V ++ 0 :: 0 :: st.map hl_step).length = V.length + 2 + st.length := by simp; omega
      have hlen2 : (V ++ aimH (pAim T i).2.2 :: Int32.ofNat (min 700 (V.length + 2 + st.length)) :: st.map hl_step).length = V.length + 2 + st.length := by simp; omega
      refine J77 (V ++ aimH (pAim T i).2.2 :: Int32.ofNat (min 700 (V.length + 2 + st.length)) :: st.map hl_step) _ ⟨a1, ?_, ?_, fun q q1 q2 => ?_, fun c b1 b2 => ?_, fun q q1 q2 => ?_, a7⟩ (fun z2 => ?_)
      · rw [sIk (by omega), sIk (by omega)]; exact a2
      · rw [sIk (by omega), sIk (by omega), hlen2, ← hlen]; exact a3
      · rw [hlen2, ← hlen] at q1
        rw [a3, hlen]
        by_cases e1 : q = V.length + 1
        · subst e1
          rw [sIe, getD_1]
        · rw [sIj e1]
          by_cases e2 : q = V.length
          · subst e2
            rw [sIe, getD_0]
          · rw [sIj e2, a4 q q1 q2]
            exact getD_two e2 e1
      · rw [sIk b2, sIk b2]; exact a5 c b1 b2
      · rw [sIk (by omega), sIk (by omega)]; exact a6 q q1 q2
      · unfold rCode
        have : min 700 (V.length + 2 + st.length) = V.length + 2 + st.length := by omega
        rw [this]
        rfl
    refine takesC t p3 (by decide) (fun z m4 p4 => sel1 ?_) (fun z => sel0 ?_)
    · rw [if_pos z] at k
      have hs := readOneC t 8 (Nat.le_refl _)
      refine readAnyC (d := 0) t hs _ _ m4 _ p4 (fun m5 o5 => ?_)
      obtain ⟨V5, hp5, hv5⟩ := o5
      cases hy : (pAny T (pOne T 8) ((pAim T i).2.1 + 1)).1 with
      | false =>
        rw [if_pos hy] at k
        exact seln0 (k m5 ⟨V5, hp5, fun z => by simp at z⟩)
      | true =>
        rw [if_neg (by rw [hy]; simp)] at k
        rw [hv5 hy, List.append_assoc] at hp5
        refine seln1 (fin _ _ m5 hp5 (fun z2 m6 h6 => ?_) (fun z2 m6 h6 => ?_))
        · rw [if_pos z2] at k
          obtain ⟨V6, p6, q6⟩ := h6
          exact k m6 ⟨V6, p6, fun _ => q6⟩
        · rw [if_neg z2] at k
          obtain ⟨V6, p6⟩ := h6
          exact k m6 ⟨V6, p6, fun z => by simp at z⟩
    · rw [if_neg z] at k
      refine fin _ [] m3 p3 (fun z2 m6 h6 => ?_) (fun z2 m6 h6 => ?_)
      · rw [if_pos z2] at k
        obtain ⟨V6, p6, q6⟩ := h6
        exact k m6 ⟨V6, p6, fun _ => q6⟩
      · rw [if_neg z2] at k
        obtain ⟨V6, p6⟩ := h6
        exact k m6 ⟨V6, p6, fun z => by simp at z⟩
theorem rCode_len {r : hl_R} {at0 : Nat} : (rCode r at0).length = 2 + r.2.length := by
  unfold rCode
  simp
  omega
theorem compile_L38 {Λ : hx_L} {K : Option Nat → hx_L → hx_M → Prop} {K1 : Int32 → hx_M → Prop} (t : TR C T μ) : ∀ (f kk i : Nat) (V : List Int32) (m : hx_M), kk + f = 17 → kk ≤ 16 → PS C T μ V i m → (∀ m', (pLaw T f kk i).1 = false → (∃ V', PS C T μ V' (pLaw T f kk i).2.1 m') → K none Λ m') → (∀ m', (pLaw T f kk i).1 = true → (∃ V', PS C T μ V' (pLaw T f kk i).2.1 m' ∧ (V.length + (lCode (pLaw T f kk i).2.2 V.length).length ≤ 700 → V' = V ++ lCode (pLaw T f kk i).2.2 V.length)) → K1 (Int32.ofNat (kk + (pLaw T f kk i).2.2.length)) m') → wX2_compile_L38 Λ K K1 f (Int32.ofNat kk) m := by
  intro f
  induction f with
  | zero => intro kk i V m e hk; omega
  | succ f ih =>
    intro kk i V m e hk h k0 k1
    obtain ⟨h1, h2⟩ := h.tok t
    have ep : pLaw T (f + 1) kk i = if T i = -2 then (true, i, []) else if kk = 16 then (false, i, []) else if (pRule T i).1 = true then ((pLaw T f (kk + 1) (pRule T i).2.1).1, (pLaw T f (kk + 1) (pRule T i).2.1).2.1, (pRule T i).2.2 :: (pLaw T f (kk + 1) (pRule T i).2.1).2.2) else (false, (pRule T i).2.1, []) := rfl
    rw [ep] at k0 k1
    unfold wX2_compile_L38
    rw [h2]
    refine selF (fun z => by have := (n32_lt (a := 16) (by omega) (by omega)).mp z; omega) ⟨h1, fun z => ?_, fun z => ?_⟩
    · rw [if_neg z] at k0 k1
      refine ⟨fun z2 => ?_, fun z2 => ?_⟩
      · have : kk = 16 := (n32_eq (b := 16) (by omega) (by omega)).mp z2
        rw [if_pos this] at k0
        exact k0 m rfl ⟨V, h⟩
      · have hk2 : kk ≠ 16 := fun z3 => z2 (by rw [z3]; rfl)
        rw [if_neg hk2] at k0 k1
        refine ruleC t h (fun m1 o1 => ?_)
        obtain ⟨V1, p1, q1⟩ := o1
        cases hy : (pRule T i).1 with
        | false =>
          rw [if_neg (by rw [hy]; simp)] at k0
          exact seln0 (k0 m1 rfl ⟨V1, p1⟩)
        | true =>
          rw [if_pos hy] at k0 k1
          rw [n32_add1]
          refine seln1 (ih (kk + 1) _ V1 m1 (by omega) (by omega) p1 (fun m2 g1 g2 => k0 m2 g1 g2) (fun m2 g1 g2 => ?_))
          have k1' := k1 m2 g1
          obtain ⟨V2, p2, q2⟩ := g2
          have elen : kk + 1 + (pLaw T f (kk + 1) (pRule T i).2.1).2.2.length = kk + ((pRule T i).2.2 :: (pLaw T f (kk + 1) (pRule T i).2.1).2.2).length := by
            rw [List.length_cons]; omega
          rw [elen]
          refine k1' ⟨V2, p2, fun hle => ?_⟩
          have ec : lCode ((pRule T i).2.2 :: (pLaw T f (kk + 1) (pRule T i).2.1).2.2) V.length = rCode (pRule T i).2.2 V.length ++ lCode (pLaw T f (kk + 1) (pRule T i).2.1).2.2 (V.length + 2 + (pRule T i).2.2.2.length) := rfl
          have hle' : V.length + (lCode ((pRule T i).2.2 :: (pLaw T f (kk + 1) (pRule T i).2.1).2.2) V.length).length ≤ 700 := hle
          rw [ec, List.length_append, rCode_len] at hle'
          have e1 := q1 hy (by omega)
          have elV : V1.length = V.length + 2 + (pRule T i).2.2.2.length := by
            rw [e1, List.length_append, rCode_len]; omega
          rw [elV] at q2
          show V2 = V ++ lCode ((pRule T i).2.2 :: (pLaw T f (kk + 1) (pRule T i).2.1).2.2) V.length
          rw [q2 (by omega), e1, ec, List.append_assoc]
    · rw [if_pos z] at k1
      exact k1 m rfl ⟨V, h, fun _ => by show V = V ++ []; rw [List.append_nil]⟩
end RL
