/-! layer 2: off -/
def low_B (a : hw_T) (t : Nat) (L : Int32) : Nat → Bool
  | 0 => false
  | p + 1 => low_B a t L p || decide (a.2.1 6 (16 * t + p) ≤ L)
def hi_B (a : hw_T) (t : Nat) (L : Int32) : Nat → Bool
  | 0 => false
  | p + 1 => hi_B a t L p || decide (L ≤ a.2.1 6 (16 * t + p))
def hw_within (a : hw_T) (t : Nat) (L : Int32) : Bool := low_B a t L a.1.1 && hi_B a t L a.1.1
section OF
variable {a : hw_T} {μ : hx_M} {t : Nat} {L : Int32}
theorem low_any {n p : Nat} (hp : p < n) (h : a.2.1 6 (16 * t + p) ≤ L) : low_B a t L n = true := by
  induction n with
  | zero => omega
  | succ n ih =>
    unfold low_B
    by_cases c : p = n
    · subst c; simp [h]
    · simp [ih (by omega)]
theorem hi_any {n p : Nat} (hp : p < n) (h : L ≤ a.2.1 6 (16 * t + p)) : hi_B a t L n = true := by
  induction n with
  | zero => omega
  | succ n ih =>
    unfold hi_B
    by_cases c : p = n
    · subst c; simp [h]
    · simp [ih (by omega)]
theorem withinC {K : Int32 → Prop} (hc : CW 0 a μ) (w : WF 300 a) (ht : t ≤ a.1.2.1) (h0 : 0 < a.1.1) (k : K (bI (hw_within a t L))) : wX5_isWithinWorn μ L (Int32.ofNat t) K := by
  have hn := w.n
  have go : ∀ (r p : Nat) (x y : Int32), p + r = a.1.1 → (x ≤ L ↔ (low_B a t L p = true ∨ 60 ≤ L)) → (L ≤ y ↔ (hi_B a t L p = true ∨ L ≤ 0)) → wX5_isWithinWorn_L9 μ L (Int32.ofNat t) K (fun v3_3 v4_3 => wX11_within L v3_3 v4_3 (fun r65_5 => (r65_5 = 0 ∨ r65_5 = 1) ∧ K r65_5)) (r + 1) x y (Int32.ofNat p) := by
    intro r
    induction r with
    | zero =>
      intro p x y e h1 h2
      obtain rfl : p = a.1.1 := by omega
      unfold wX5_isWithinWorn_L9
      rw [hc.n]
      have hl0 := w.2.2.2.2.1 t 0 ht h0
      have e1 : (60 : Int32) ≤ L → low_B a t L a.1.1 = true := fun h => low_any h0 (Int32.le_trans hl0.2 h)
      have e2 : L ≤ 0 → hi_B a t L a.1.1 = true := fun h => hi_any h0 (Int32.le_trans h hl0.1)
      refine selT (Int32.le_refl _) (t_within ⟨b01_bit _, ?_⟩)
      have : b01 (x ≤ L ∧ L ≤ y) = bI (hw_within a t L) := by
        unfold b01 bI hw_within
        have h3 : (x ≤ L ∧ L ≤ y) ↔ (low_B a t L a.1.1 && hi_B a t L a.1.1) = true := by
          rw [h1, h2, Bool.and_eq_true]
          constructor
          · rintro ⟨h4, h5⟩
            exact ⟨h4.elim id e1, h5.elim id e2⟩
          · rintro ⟨h4, h5⟩
            exact ⟨Or.inl h4, Or.inl h5⟩
        by_cases c : (x ≤ L ∧ L ≤ y)
        · rw [if_pos c, if_pos (h3.mp c)]
        · rw [if_neg c, if_neg (fun z => c (h3.mpr z))]
      rw [this]
      exact k
    | succ r ih =>
      intro p x y e h1 h2
      unfold wX5_isWithinWorn_L9
      rw [hc.n, n32_add1]
      refine selF (fun z => by have := (n32_le (by omega) (by omega)).mp z; omega) (lenC hc w ht (by omega) (ih (p + 1) _ _ (by omega) ?_ ?_))
      · unfold low_B
        rw [Bool.or_eq_true, decide_eq_true_iff]
        generalize a.2.1 6 (16 * t + p) = u at *
        constructor
        · intro h
          by_cases c : u < x
          · rw [if_pos c] at h; exact Or.inl (Or.inr h)
          · rw [if_neg c] at h
            rcases h1.mp h with h | h
            · exact Or.inl (Or.inl h)
            · exact Or.inr h
        · intro h
          by_cases c : u < x
          · rw [if_pos c]
            rcases h with (h | h) | h
            · have := h1.mpr (Or.inl h); grind
            · exact h
            · have := h1.mpr (Or.inr h); grind
          · rw [if_neg c]
            rcases h with (h | h) | h
            · exact h1.mpr (Or.inl h)
            · grind
            · exact h1.mpr (Or.inr h)
      · unfold hi_B
        rw [Bool.or_eq_true, decide_eq_true_iff]
        generalize a.2.1 6 (16 * t + p) = u at *
        constructor
        · intro h
          by_cases c : y < u
          · rw [if_pos c] at h; exact Or.inl (Or.inr h)
          · rw [if_neg c] at h
            rcases h2.mp h with h | h
            · exact Or.inl (Or.inl h)
            · exact Or.inr h
        · intro h
          by_cases c : y < u
          · rw [if_pos c]
            rcases h with (h | h) | h
            · have := h2.mpr (Or.inl h); grind
            · exact h
            · have := h2.mpr (Or.inr h); grind
          · rw [if_neg c]
            rcases h with (h | h) | h
            · exact h2.mpr (Or.inl h)
            · grind
            · exact h2.mpr (Or.inr h)
  unfold wX5_isWithinWorn
  refine ⟨_, go a.1.1 0 60 0 (by omega) ?_ ?_⟩
  · simp [low_B]
  · simp [hi_B]
theorem withinM {K : Int32 → Prop} (hc : MW a μ) (w : WF 300 a) (ht : t ≤ a.1.2.1) (k : K (bI (hw_within a t L))) : wX12_isWithin μ L (Int32.ofNat t) K := by
  have hn := w.n
  have go : ∀ (r p : Nat), p + r = a.1.1 → wX12_isWithin_L8 μ L (Int32.ofNat t) K (fun v3_12 v4_12 => (v3_12 = 0 → (K 0)) ∧ (¬ (v3_12 = 0) → ((v4_12 = 0 → (K 0)) ∧ (¬ (v4_12 = 0) → (K 1))))) (r + 1) (bI (low_B a t L p)) (bI (hi_B a t L p)) (Int32.ofNat p) := by
    intro r
    induction r with
    | zero =>
      intro p e
      obtain rfl : p = a.1.1 := by omega
      unfold wX12_isWithin_L8
      rw [hc.n]
      refine selT (Int32.le_refl _) ?_
      unfold hw_within at k
      cases h1 : low_B a t L a.1.1 with
      | false => rw [h1] at k; exact sel0 k
      | true =>
        refine selF (by decide) ?_
        cases h2 : hi_B a t L a.1.1 with
        | false => rw [h1, h2] at k; exact sel0 k
        | true => rw [h1, h2] at k; exact selF (by decide) k
    | succ r ih =>
      intro p e
      have hi := ih (p + 1) (by omega)
      rw [← n32_add1] at hi
      unfold low_B hi_B at hi
      unfold wX12_isWithin_L8 wX12_isWithin_J32 wX12_isWithin_J37_6 wX12_isWithin_J37 wX12_isWithin_J54 wX12_isWithin_J54_7 wX12_isWithin_J59 wX12_isWithin_J59_3 wX12_isWithin_J59_8 wX12_isWithin_J59_11
      rw [hc.n]
      refine selF (fun z => by have := (n32_le (by omega) (by omega)).mp z; omega) ?_
      generalize hu : a.2.1 6 (16 * t + p) = u at *
      have lenx : ∀ K : Int32 → Prop, K u → wX12_lengthAt μ (Int32.ofNat p) (Int32.ofNat t) K := fun K kk => lenM hc w ht (by omega) (by rw [hu]; exact kk)
      cases h1 : low_B a t L p with
      | true =>
        rw [h1, Bool.true_or] at hi
        refine selN (by decide) ?_
        cases h2 : hi_B a t L p with
        | true => rw [h2, Bool.true_or] at hi; exact selN (by decide) hi
        | false =>
          rw [h2, Bool.false_or] at hi
          refine selE rfl (lenx _ ⟨fun z => ?_, fun z => ?_⟩)
          · rw [decide_eq_false (Int32.not_le.mpr z)] at hi; exact hi
          · rw [decide_eq_true (Int32.not_lt.mp z)] at hi; exact hi
      | false =>
        rw [h1, Bool.false_or] at hi
        refine selE rfl (lenx _ ⟨fun z0 => ?_, fun z0 => ?_⟩)
        · rw [decide_eq_false (Int32.not_le.mpr z0)] at hi
          cases h2 : hi_B a t L p with
          | true => rw [h2, Bool.true_or] at hi; exact selN (by decide) hi
          | false =>
            rw [h2, Bool.false_or] at hi
            refine selE rfl (lenx _ ⟨fun z => ?_, fun z => ?_⟩)
            · rw [decide_eq_false (Int32.not_le.mpr z)] at hi; exact hi
            · rw [decide_eq_true (Int32.not_lt.mp z)] at hi; exact hi
        · rw [decide_eq_true (Int32.not_lt.mp z0)] at hi
          cases h2 : hi_B a t L p with
          | true => rw [h2, Bool.true_or] at hi; exact selN (by decide) hi
          | false =>
            rw [h2, Bool.false_or] at hi
            refine selE rfl (lenx _ ⟨fun z => ?_, fun z => ?_⟩)
            · rw [decide_eq_false (Int32.not_le.mpr z)] at hi; exact hi
            · rw [decide_eq_true (Int32.not_lt.mp z)] at hi; exact hi
  unfold wX12_isWithin
  exact ⟨_, go a.1.1 0 (by omega)⟩
/-- a plate: paper, season, length -/
def of_st (a : hw_T) (pp ss ll : Nat → Int32) (v : Int32) : Nat → Int32 × Int32 × Int32 → Int32 × Int32 × Int32 := fun k b => if pp k = v ∧ (ss k).toNatClampNeg ≤ a.1.2.1 then (b.1 + ab (100 * ll k - hw_line a (ss k).toNatClampNeg), b.2.1 + 1, b.2.2 + bI (hw_within a (ss k).toNatClampNeg (ll k))) else b
theorem offC_L11 {np : Nat} {v v2 : Int32} {K : Int32 → Prop} {K1 : Int32 → Int32 → Int32 → Prop} (hc : CW 0 a μ) (w : WF 300 a) (h0 : 0 < a.1.1) (hnp : np ≤ 60) (e39 : μ.1 39 1 = Int32.ofNat np) (hs : ∀ k, k < np → 0 ≤ μ.1 41 k ∧ μ.1 41 k ≤ 200) : ∀ (r i : Nat) (b : Int32 × Int32 × Int32), i + r = np → (∀ b', b' = itN (of_st a (μ.1 40) (μ.1 41) (μ.1 42) v) i r b → K1 b'.1 b'.2.1 b'.2.2) → wX5_offOf_L11 μ v v2 K K1 (r + 1) b.1 b.2.1 b.2.2 (Int32.ofNat i) := by
  have hs3 := w.s
  intro r
  induction r with
  | zero =>
    intro i b e k
    obtain rfl : i = np := by omega
    unfold wX5_offOf_L11
    rw [e39]
    exact selT (Int32.le_refl _) (k b rfl)
  | succ r ih =>
    intro i b e k
    have hi := ih (i + 1) (of_st a (μ.1 40) (μ.1 41) (μ.1 42) v i b) (by omega) k
    rw [← n32_add1] at hi
    unfold of_st at hi
    have v60 : vp_in (Int32.ofNat i) 60 := n32_in (by omega) (by omega)
    obtain ⟨s, es, hs2⟩ := n32_of (hi := 200) (hs i (by omega)).1 (hs i (by omega)).2 (by omega)
    have ns : (Int32.ofNat s).toNatClampNeg = s := n32_nat (by omega)
    rw [es, ns] at hi
    unfold wX5_offOf_L11 wX5_offOf_J113
    rw [e39, n32_nat (by omega), es]
    refine selF (fun z => by have := (n32_le (by omega) (by omega)).mp z; omega) ⟨v60, ?_⟩
    by_cases g1 : μ.1 40 i = v
    · refine selE g1 ⟨v60, ?_⟩
      by_cases g2 : s ≤ a.1.2.1
      · rw [if_pos ⟨g1, g2⟩] at hi
        refine t_hasSeasonY hc w g2 (selF (by decide) ⟨v60, v60, lineC hc w g2 h0 ?_⟩)
        rintro x rfl
        refine ⟨v60, v60, withinC hc w g2 h0 ?_⟩
        unfold wX5_offOf_J110 wX5_offOf_J113_14
        cases hb : hw_within a s (μ.1 42 i) with
        | false => rw [hb] at hi; exact selT rfl hi
        | true => rw [hb] at hi; exact selF (by decide) hi
      · rw [if_neg (fun z => g2 z.2)] at hi
        refine t_hasSeasonN hc w ?_ (selT rfl hi)
        rintro ⟨q, hq, eq⟩
        have := (n32_eq (by omega) (by omega)).mp eq
        omega
    · rw [if_neg (fun z => g1 z.1)] at hi
      exact selN g1 hi
theorem offM_L32 {np q : Nat} {v : Int32} {K : Int32 → Prop} (hq : q < 3) (hc : MW a μ) (w : WF 300 a) (h0 : 0 < a.1.1) (hnp : np ≤ 60) (e39 : μ.1 49 55 = Int32.ofNat np) (hs : ∀ k, k < np → 0 ≤ μ.1 83 k ∧ μ.1 83 k ≤ 200) : ∀ (r i : Nat) (b : Int32 × Int32 × Int32), i + r = np → (∀ b', b' = itN (of_st a (μ.1 82) (μ.1 83) (μ.1 84) v) i r b → K (if q = 0 then b'.1 else if q = 1 then b'.2.1 else b'.2.2)) → wX12_off_L32 μ v (Int32.ofNat q) K (r + 1) (if q = 0 then b.1 else if q = 1 then b.2.1 else b.2.2) (Int32.ofNat i) := by
  have hs3 := w.s
  intro r
  induction r with
  | zero =>
    intro i b e k
    obtain rfl : i = np := by omega
    unfold wX12_off_L32
    rw [e39]
    exact selT (Int32.le_refl _) (k b rfl)
  | succ r ih =>
    intro i b e k
    have hi := ih (i + 1) (of_st a (μ.1 82) (μ.1 83) (μ.1 84) v i b) (by omega) k
    rw [← n32_add1] at hi
    have v60 : vp_in (Int32.ofNat i) 60 := n32_in (by omega) (by omega)
    obtain ⟨s, es, hs2⟩ := n32_of (hi := 200) (hs i (by omega)).1 (hs i (by omega)).2 (by omega)
    have ns : (Int32.ofNat s).toNatClampNeg = s := n32_nat (by omega)
    have one1 : ∀ K : Int32 → Prop, K 1 → wX12_one 1 K := fun K k => t_one (by rw [b01_1 (by decide)]; exact k)
    have one0 : ∀ K : Int32 → Prop, K 0 → wX12_one 0 K := fun K k => t_one (by rw [b01_0 (by decide)]; exact k)
    unfold wX12_off_L32 wX12_off_J138 wX12_off_J128 wX12_off_J133 wX12_off_J133_16 wX12_off_J136 wX12_off_J136_19 wX12_off_J136_26 wX12_off_J138_11 wX12_off_J138_20 wX12_off_J138_27
    rw [e39, n32_nat (by omega), es]
    refine selF (fun z => by have := (n32_le (by omega) (by omega)).mp z; omega) ⟨v60, ?_⟩
    by_cases g1 : μ.1 82 i = v
    · refine selE g1 ⟨v60, ?_⟩
      by_cases g2 : s ≤ a.1.2.1
      · have est : of_st a (μ.1 82) (μ.1 83) (μ.1 84) v i b = (b.1 + ab (100 * μ.1 84 i - hw_line a s), b.2.1 + 1, b.2.2 + bI (hw_within a s (μ.1 84 i))) := by
          unfold of_st
          rw [es, ns, if_pos ⟨g1, g2⟩]
        rw [est] at hi
        refine t_isSeasonY hc w g2 (seln1 ?_)
        have hq3 : q = 0 ∨ q = 1 ∨ q = 2 := by omega
        rcases hq3 with rfl | rfl | rfl
        · refine selE rfl ⟨v60, v60, lineM hc w g2 h0 ?_⟩
          rintro x rfl
          exact hi
        · exact selN (by decide) (selT rfl (one1 _ hi))
        · refine selN (by decide) (selF (by decide) ⟨v60, v60, withinM hc w g2 ?_⟩)
          cases hb : hw_within a s (μ.1 84 i) with
          | false => rw [hb] at hi; exact selT rfl (one0 _ hi)
          | true => rw [hb] at hi; exact selF (by decide) (one1 _ hi)
      · have est : of_st a (μ.1 82) (μ.1 83) (μ.1 84) v i b = b := by
          unfold of_st
          rw [es, ns, if_neg (fun z => g2 z.2)]
        rw [est] at hi
        refine t_isSeasonN hc w ?_ (seln0 hi)
        rintro ⟨q, hq, eq⟩
        have := (n32_eq (by omega) (by omega)).mp eq
        omega
    · have est : of_st a (μ.1 82) (μ.1 83) (μ.1 84) v i b = b := by
        unfold of_st
        rw [es, ns, if_neg (fun z => g1 z.1)]
      rw [est] at hi
      exact selN g1 hi
theorem itN_congr {α : Type} {f g : Nat → α → α} : ∀ (r i : Nat) (x : α), (∀ j, i ≤ j → j < i + r → ∀ y, f j y = g j y) → itN f i r x = itN g i r x
  | 0, _, _, _ => rfl
  | r + 1, i, x, h => by
    unfold itN
    rw [h i (Nat.le_refl _) (by omega)]
    exact itN_congr r (i + 1) _ (fun j h1 h2 y => h j (by omega) (by omega) y)
end OF
theorem op_off (Λ : hx_L) (μ : hx_M) (a1 a2 : Int32) (h : hI Λ μ) : wL_25 Λ μ a1 a2 hI := by
  obtain ⟨hF, hM, h15, a, ls, fo, is, w, hc, hm, ht, hl, hi⟩ := id h
  obtain ⟨_, _, np, p6, p7, p8, p9⟩ := id ht
  have hn3 := w.n
  unfold wL_25 wX11_off wX12_off
  by_cases h1 : 0 ≤ a1 ∧ a1 ≤ 3
  · by_cases h2 : 0 ≤ a2 ∧ a2 ≤ 2
    · obtain ⟨q, rfl, hq⟩ := n32_of (hi := 2) h2.1 h2.2 (by omega)
      by_cases h0 : 0 < a.1.1
      · refine t_withinY h1 (sel1 (t_withinY h2 (sel1 (t_emptyN hc w.up h0 (sel0 ?_)))))
        have hm0 : ¬ μ.1 49 0 = 0 := by rw [hm.n]; exact n32_ne0 h0 (by omega)
        unfold wX5_offOf
        refine ⟨np + 1, offC_L11 hc w.up h0 p6 p7 (fun k hk => by rw [(p9 k hk).2.1]; exact (p9 k hk).2.2.2) np 0 (0, 0, 0) (by omega) (fun b hb => ?_)⟩
        have hcg : itN (of_st a (μ.1 40) (μ.1 41) (μ.1 42) a1) 0 np (0, 0, 0) = itN (of_st a (μ.1 82) (μ.1 83) (μ.1 84) a1) 0 np (0, 0, 0) := by
          refine itN_congr np 0 _ (fun j _ hj y => ?_)
          obtain ⟨q1, q2, q3, _⟩ := p9 j (by omega)
          unfold of_st
          rw [q1, q2, q3]
        have ref : ∀ v, v = (if q = 0 then b.1 else if q = 1 then b.2.1 else b.2.2) → wX12_off μ a1 (Int32.ofNat q) (fun q => v = q ∧ hI Λ μ) := by
          intro v hv
          unfold wX12_off
          have h00 := offM_L32 (q := q) (v := a1) (K := fun q => v = q ∧ hI Λ μ) (by omega) hm w.up h0 p6 p8 (fun k hk => (p9 k hk).2.2.2) np 0 (0, 0, 0) (by omega) (fun b' hb' => by rw [← hcg, ← hb] at hb'; subst hb'; exact ⟨hv, h⟩)
          have e0 : (if q = 0 then ((0, 0, 0) : Int32 × Int32 × Int32).1 else if q = 1 then ((0, 0, 0) : Int32 × Int32 × Int32).2.1 else ((0, 0, 0) : Int32 × Int32 × Int32).2.2) = 0 := by split; rfl; split <;> rfl
          rw [e0] at h00
          exact t_isInY h1 (sel1 (t_isInY h2 (sel1 (selN hm0 ⟨_, h00⟩))))
        refine ⟨fun z => ⟨fun z2 => ref _ ?_, fun z2 => ref _ ?_⟩, fun z => ref _ ?_⟩
        · rw [if_neg (fun hh => z (by rw [hh]; rfl)), if_neg (fun hh => z2 (by rw [hh]; rfl))]
        · have : q = 1 := (n32_eq (b := 1) (by omega) (by omega)).mp z2
          rw [if_neg (by omega), if_pos this]
        · have : q = 0 := (n32_eq (b := 0) (by omega) (by omega)).mp z
          rw [if_pos this]
      · have h00 : a.1.1 = 0 := by omega
        refine t_withinY h1 (sel1 (t_withinY h2 (sel1 (t_emptyY hc h00 (sel1 (t_isInY h1 (sel1 (t_isInY h2 (sel1 (selE ?_ ⟨rfl, h⟩))))))))))
        rw [hm.n, h00]; rfl
    · exact t_withinY h1 (sel1 (t_withinN h2 (sel0 (t_isInY h1 (sel1 (t_isInN h2 (sel0 ⟨rfl, h⟩)))))))
  · exact t_withinN h1 (sel0 (t_isInN h1 (sel0 ⟨rfl, h⟩)))
