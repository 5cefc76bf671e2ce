/-! layer 2: again, behind -/
def la_I (o : Option Nat) : Int32 := match o with | none => -1 | some k => Int32.ofNat k
abbrev ag_T : Type := (Int32 × Int32) × (Nat × Option Nat)
def ag_st (a : hw_T) (len : Int32) : Nat → ag_T → ag_T := fun s b => if ab (hw_line a s - 100 * len) < 100 then (match b.2.2 with | none => ((b.1.1 + 1, b.1.2 + 1), (0, some s)) | some k => if k + 1 < s then ((b.1.1 + 1, b.1.2 + 1), (max b.2.1 (s - 1 - k), some s)) else ((b.1.1 + 1, b.1.2), (b.2.1, some s))) else b
/-- the latest visit lies ahead; without one nothing is longest -/
def ag_ok (s : Nat) (b : ag_T) : Prop := b.2.1 ≤ 300 ∧ match b.2.2 with | none => b.2.1 = 0 | some k => k < s
theorem ag_ok_s {a : hw_T} {len : Int32} {s : Nat} {b : ag_T} (hs : s ≤ 300) (h : ag_ok s b) : ag_ok (s + 1) (ag_st a len s b) := by
  obtain ⟨⟨v, r⟩, ⟨g, o⟩⟩ := b
  obtain ⟨h1, h2⟩ := h
  unfold ag_st
  by_cases c : ab (hw_line a s - 100 * len) < 100
  · rw [if_pos c]
    cases o with
    | none => exact ⟨by simp, by simp⟩
    | some k =>
      simp only at h1 h2 ⊢
      by_cases c2 : k + 1 < s
      · rw [if_pos c2]
        exact ⟨by simp; omega, by simp⟩
      · rw [if_neg c2]
        exact ⟨h1, by simp⟩
  · rw [if_neg c]
    refine ⟨h1, ?_⟩
    cases o with
    | none => exact h2
    | some k => simp only at h2 ⊢; omega
theorem visitsOf_L14 {a : hw_T} {μ : hx_M} {len v2 : Int32} {K : Int32 → Prop} {K1 : Int32 → Int32 → Int32 → Prop} (hc : CW 0 a μ) (w : WF 300 a) (h0 : 0 < a.1.1) : ∀ (r s : Nat) (b : ag_T), s + r = a.1.2.1 + 1 → ag_ok s b → (∀ b', b' = itN (ag_st a len) s r b → K1 b'.1.1 b'.1.2 (Int32.ofNat b'.2.1)) → wX0_visitsOf_L14 μ len v2 K K1 (r + 1) b.1.1 b.1.2 (Int32.ofNat b.2.1) (la_I b.2.2) (Int32.ofNat s) := by
  have hs3 := w.s
  intro r
  induction r with
  | zero =>
    intro s b e hb k
    unfold wX0_visitsOf_L14
    rw [hc.s]
    exact selT ((n32_lt (by omega) (by omega)).mpr (by omega)) (k b rfl)
  | succ r ih =>
    intro s b e hb k
    have hi := ih (s + 1) (ag_st a len s b) (by omega) (ag_ok_s (by omega) hb) k
    obtain ⟨⟨v, r0⟩, ⟨g, o⟩⟩ := b
    obtain ⟨hb1, hb2⟩ := hb
    unfold wX0_visitsOf_L14
    rw [hc.s]
    refine selF (fun z => by have := (n32_lt (by omega) (by omega)).mp z; omega) (lineC hc w (by omega) h0 ?_)
    rintro x rfl
    unfold ag_st at hi
    rw [← n32_add1] at hi
    refine ⟨fun z => ?_, fun z => ?_⟩
    · have z' : ¬ ab (hw_line a s - 100 * len) < 100 := Int32.not_lt.mpr z
      rw [if_neg z'] at hi
      unfold wX0_visitsOf_J97
      exact hi
    · have z' : ab (hw_line a s - 100 * len) < 100 := Int32.not_le.mp z
      rw [if_pos z'] at hi
      cases o with
      | none =>
        refine selT rfl ?_
        unfold wX0_visitsOf_J66
        refine selE rfl ?_
        unfold wX0_visitsOf_J91 wX0_visitsOf_J93 wX0_visitsOf_J97_5
        exact hi
      | some q =>
        simp only at hb1 hb2 hi ⊢
        have hne : Int32.ofNat q ≠ -1 := n32_neg (by omega) (by decide)
        refine selF hne ?_
        rw [n32_sub1 (by omega)]
        by_cases c2 : q + 1 < s
        · rw [if_pos c2] at hi
          refine selF (fun z => by have := (n32_le (by omega) (by omega)).mp z; omega) ?_
          unfold wX0_visitsOf_J66
          refine selN hne ?_
          rintro x rfl
          show wX0_visitsOf_J91 μ K _ len v2 (v + 1) (r0 + 1) (Int32.ofNat s) (if Int32.ofNat g < (Int32.ofNat s - 1) - Int32.ofNat q then (Int32.ofNat s - 1) - Int32.ofNat q else Int32.ofNat g)
          rw [n32_sub1 (by omega), n32_subn (by omega)]
          have em : (if Int32.ofNat g < Int32.ofNat (s - 1 - q) then Int32.ofNat (s - 1 - q) else Int32.ofNat g) = Int32.ofNat (max g (s - 1 - q)) := by
            by_cases c : g < s - 1 - q
            · rw [if_pos ((n32_lt (by omega) (by omega)).mpr c), Nat.max_eq_right (by omega)]
            · rw [if_neg (fun z => c ((n32_lt (by omega) (by omega)).mp z)), Nat.max_eq_left (by omega)]
          rw [em]
          unfold wX0_visitsOf_J91 wX0_visitsOf_J93 wX0_visitsOf_J97_5
          exact hi
        · rw [if_neg c2] at hi
          refine selT ((n32_le (by omega) (by omega)).mpr (by omega)) ?_
          unfold wX0_visitsOf_J93_6 wX0_visitsOf_J97_7
          exact hi
theorem again_L42 {a : hw_T} {μ : hx_M} {len v2 : Int32} {K : Int32 → Prop} {K1 : Int32 → Int32 → Int32 → Prop} (hc : MW a μ) (w : WF 300 a) (h0 : 0 < a.1.1) : ∀ (r s : Nat) (b : ag_T), s + r = a.1.2.1 + 1 → ag_ok s b → (∀ b', b' = itN (ag_st a len) s r b → K1 b'.1.1 b'.1.2 (Int32.ofNat b'.2.1)) → wX12_again_L42 μ len v2 K K1 (r + 1) b.1.1 b.1.2 (Int32.ofNat b.2.1) (la_I b.2.2) (Int32.ofNat s) := by
  have hs3 := w.s
  intro r
  induction r with
  | zero =>
    intro s b e hb k
    unfold wX12_again_L42
    rw [hc.s]
    exact selT ((n32_lt (by omega) (by omega)).mpr (by omega)) (k b rfl)
  | succ r ih =>
    intro s b e hb k
    have hi := ih (s + 1) (ag_st a len s b) (by omega) (ag_ok_s (by omega) hb) k
    obtain ⟨⟨v, r0⟩, ⟨g, o⟩⟩ := b
    obtain ⟨hb1, hb2⟩ := hb
    unfold wX12_again_L42
    rw [hc.s]
    refine selF (fun z => by have := (n32_lt (by omega) (by omega)).mp z; omega) (lineM hc w (by omega) h0 ?_)
    rintro x rfl
    unfold ag_st at hi
    rw [← n32_add1] at hi
    refine ⟨fun z => ?_, fun z => ?_⟩
    · have z' : ab (hw_line a s - 100 * len) < 100 := z
      rw [if_pos z'] at hi
      cases o with
      | none =>
        simp only at hb1 hb2 hi ⊢
        refine selT rfl ?_
        unfold wX12_again_J91 wX12_again_J94
        refine selT rfl ?_
        unfold wX12_again_J114 wX12_again_J118
        rw [hb2]
        exact hi
      | some q =>
        simp only at hb1 hb2 hi ⊢
        have hne : Int32.ofNat q ≠ -1 := n32_neg (by omega) (by decide)
        refine selF hne ?_
        rw [n32_sub1 (by omega)]
        have em : (Int32.ofNat s - Int32.ofNat q) - 1 = Int32.ofNat (s - 1 - q) := by
          rw [n32_subn (by omega), n32_sub1 (by omega), show s - q - 1 = s - 1 - q by omega]
        have em2 : (if Int32.ofNat g < Int32.ofNat (s - 1 - q) then Int32.ofNat (s - 1 - q) else Int32.ofNat g) = Int32.ofNat (max g (s - 1 - q)) := by
          by_cases c : g < s - 1 - q
          · rw [if_pos ((n32_lt (by omega) (by omega)).mpr c), Nat.max_eq_right (by omega)]
          · rw [if_neg (fun z => c ((n32_lt (by omega) (by omega)).mp z)), Nat.max_eq_left (by omega)]
        by_cases c2 : q + 1 < s
        · rw [if_pos c2] at hi
          refine selF (fun z => by have := (n32_le (by omega) (by omega)).mp z; omega) ?_
          unfold wX12_again_J91 wX12_again_J94
          refine selF hne ?_
          rintro x rfl
          show wX12_again_J114 μ K _ len v2 (v + 1) (r0 + 1) (if Int32.ofNat g < (Int32.ofNat s - Int32.ofNat q) - 1 then (Int32.ofNat s - Int32.ofNat q) - 1 else Int32.ofNat g) (Int32.ofNat s)
          rw [em, em2]
          unfold wX12_again_J114 wX12_again_J118
          exact hi
        · rw [if_neg c2] at hi
          refine selT ((n32_le (by omega) (by omega)).mpr (by omega)) ?_
          unfold wX12_again_J94_9
          refine selF hne ?_
          rintro x rfl
          show wX12_again_J114_10 μ K _ len v2 (v + 1) r0 (if Int32.ofNat g < (Int32.ofNat s - Int32.ofNat q) - 1 then (Int32.ofNat s - Int32.ofNat q) - 1 else Int32.ofNat g) (Int32.ofNat s)
          rw [em, em2, show max g (s - 1 - q) = g by omega]
          unfold wX12_again_J114_10 wX12_again_J118_11
          exact hi
    · have z' : ¬ ab (hw_line a s - 100 * len) < 100 := z
      rw [if_neg z'] at hi
      unfold wX12_again_J118_13
      exact hi
theorem op_again (Λ : hx_L) (μ : hx_M) (a1 a2 : Int32) (h : hI Λ μ) : wL_26 Λ μ a1 a2 hI := by
  obtain ⟨hF, hM, h15, a, ls, fo, is, w, hc, hm, ht, hl, hi⟩ := id h
  have hs3 := w.s
  have hn3 := w.n
  unfold wL_26 wX11_again wX12_again
  by_cases h1 : 0 ≤ a1 ∧ a1 ≤ 60
  · by_cases h2 : 0 ≤ a2 ∧ a2 ≤ 2
    · by_cases h0 : 0 < a.1.1
      · refine t_withinY h1 (sel1 (t_withinY h2 (sel1 (t_emptyN hc w.up h0 (sel0 ?_)))))
        unfold wX0_visitsOf
        have ok0 : ag_ok 0 ((0, 0), (0, none)) := ⟨by simp, rfl⟩
        refine ⟨a.1.2.1 + 1 + 1, visitsOf_L14 hc w.up h0 (a.1.2.1 + 1) 0 ((0, 0), (0, none)) (by omega) ok0 (fun b hb => ?_)⟩
        have hm0 : ¬ μ.1 49 0 = 0 := by rw [hm.n]; exact n32_ne0 h0 (by omega)
        have ref : ∀ v, v = (if a2 = 0 then b.1.1 else if a2 = 1 then b.1.2 else Int32.ofNat b.2.1) → wX12_again μ a1 a2 (fun q => v = q ∧ hI Λ μ) := by
          intro v hv
          unfold wX12_again
          refine t_isInY h1 (sel1 (t_isInY h2 (sel1 (selN hm0 ⟨a.1.2.1 + 1 + 1, again_L42 hm w.up h0 (a.1.2.1 + 1) 0 ((0, 0), (0, none)) (by omega) ok0 (fun b' hb' => ?_)⟩))))
          rw [← hb] at hb'
          subst hb'
          refine ⟨fun z => ⟨fun z2 => ⟨?_, h⟩, fun z2 => ⟨?_, h⟩⟩, fun z => ⟨?_, h⟩⟩
          · rw [hv, if_neg z, if_neg z2]
          · rw [hv, if_neg z, if_pos z2]
          · rw [hv, if_pos z]
        refine ⟨fun z => ⟨fun z2 => ref _ ?_, fun z2 => ref _ ?_⟩, fun z => ref _ ?_⟩
        · rw [if_neg z, if_neg z2]
        · rw [if_neg z, if_pos z2]
        · rw [if_pos z]
      · have h00 : a.1.1 = 0 := by omega
        refine t_withinY h1 (sel1 (t_withinY h2 (sel1 (t_emptyY hc h00 (sel1 (t_isInY h1 (sel1 (t_isInY h2 (sel1 (selE ?_ ⟨rfl, h⟩))))))))))
        rw [hm.n, h00]; rfl
    · exact t_withinY h1 (sel1 (t_withinN h2 (sel0 (t_isInY h1 (sel1 (t_isInN h2 (sel0 ⟨rfl, h⟩)))))))
  · exact t_withinN h1 (sel0 (t_isInN h1 (sel0 ⟨rfl, h⟩)))
/-! behind -/
def bh_st (a : hw_T) (v : Int32) (oth : Bool) : Nat → Int32 × Int32 → Int32 × Int32 := fun p b => if decide (v < a.2.1 1 p) = oth then (b.1 + ab (100 * a.2.1 6 (16 * a.1.2.1 + p) - hw_line a a.1.2.1), b.2 + 1) else b
theorem farFrom_L25 {a : hw_T} {μ : hx_M} {v v3 : Int32} {oth : Bool} {K : Int32 → Prop} {K1 : Int32 → Int32 → Prop} (hc : CW 0 a μ) (w : WF 300 a) : ∀ (r p : Nat) (b : Int32 × Int32), p + r = a.1.1 → (∀ b', b' = itN (bh_st a v oth) p r b → K1 b'.1 b'.2) → wX0_farFromLine_L25 μ v (if oth then 1 else 0) v3 (hw_line a a.1.2.1) K K1 (r + 1) b.1 b.2 (Int32.ofNat p) := by
  have hn := w.n
  intro r
  induction r with
  | zero =>
    intro p b e k
    obtain rfl : p = a.1.1 := by omega
    unfold wX0_farFromLine_L25
    rw [hc.n]
    exact selT (Int32.le_refl _) (k b rfl)
  | succ r ih =>
    intro p b e k
    have hi := ih (p + 1) (bh_st a v oth p b) (by omega) k
    unfold bh_st at hi
    rw [← n32_add1] at hi
    unfold wX0_farFromLine_L25
    rw [hc.n, n32_nat (by omega), hc.purse (by omega)]
    refine selF (fun z => by have := (n32_le (by omega) (by omega)).mp z; omega) ⟨n32_in (by omega) (by omega), ?_⟩
    have st : ∀ (t0 : Int32) (c : Bool), decide (v < a.2.1 1 p) = c → t0 = (if c then 1 else 0) → wX0_farFromLine_J62 μ K (wX0_farFromLine_L25 μ v (if oth then 1 else 0) v3 (hw_line a a.1.2.1) K K1 (r + 1)) v (if oth then 1 else 0) v3 b.1 b.2 (hw_line a a.1.2.1) (Int32.ofNat p) t0 := by
      intro t0 c hcc ht0
      rw [hcc] at hi
      unfold wX0_farFromLine_J62
      rw [hc.s]
      by_cases g : c = oth
      · rw [if_pos g] at hi
        refine selE (by rw [ht0, g]) (lenC hc w (Nat.le_refl _) (by omega) ?_)
        rintro x rfl
        unfold wX0_farFromLine_J106
        exact hi
      · rw [if_neg g] at hi
        refine selN ?_ ?_
        · rw [ht0]; cases c <;> cases oth <;> simp at g ⊢
        · unfold wX0_farFromLine_J106
          exact hi
    exact ⟨fun z => st 0 false (decide_eq_false (Int32.not_lt.mpr z)) rfl, fun z => st 1 true (decide_eq_true (Int32.not_le.mp z)) rfl⟩
theorem behind_L33 {a : hw_T} {μ : hx_M} {v : Int32} {q : Nat} {K : Int32 → Prop} (hq : q < 4) (hc : MW a μ) (w : WF 300 a) (h0 : 0 < a.1.1) : ∀ (r p : Nat) (b : Int32 × Int32), p + r = a.1.1 → (∀ b', b' = itN (bh_st a v (decide (2 ≤ q))) p r b → K (if q % 2 = 0 then b'.1 else b'.2)) → wX12_behind_L33 μ v (Int32.ofNat q) K (r + 1) (if q % 2 = 0 then b.1 else b.2) (Int32.ofNat p) := by
  have hn := w.n
  intro r
  induction r with
  | zero =>
    intro p b e k
    obtain rfl : p = a.1.1 := by omega
    unfold wX12_behind_L33
    rw [hc.n]
    exact selT (Int32.le_refl _) (k b rfl)
  | succ r ih =>
    intro p b e k
    have hi := ih (p + 1) (bh_st a v (decide (2 ≤ q)) p b) (by omega) k
    unfold bh_st at hi
    rw [← n32_add1] at hi
    unfold wX12_behind_L33
    rw [hc.n, n32_nat (by omega), hc.purse (by omega)]
    refine selF (fun z => by have := (n32_le (by omega) (by omega)).mp z; omega) ⟨n32_in (by omega) (by omega), ?_⟩
    have hrem : (Int32.ofNat q - Int32.ofNat q / 2 * 2) = Int32.ofNat (q % 2) := by
      have : q = 0 ∨ q = 1 ∨ q = 2 ∨ q = 3 := by omega
      rcases this with rfl | rfl | rfl | rfl <;> decide
    have st : ∀ (t0 t1 : Int32) (c : Bool), decide (v < a.2.1 1 p) = c → t0 = (if c then 0 else 1) → t1 = (if 2 ≤ q then 0 else 1) → wX12_behind_J68 μ K (wX12_behind_L33 μ v (Int32.ofNat q) K (r + 1)) v (Int32.ofNat q) (if q % 2 = 0 then b.1 else b.2) (Int32.ofNat p) t0 t1 := by
      intro t0 t1 c hcc ht0 ht1
      rw [hcc] at hi
      unfold wX12_behind_J68
      rw [hc.s, hrem]
      by_cases g : c = decide (2 ≤ q)
      · rw [if_pos g] at hi
        refine selT ?_ ?_
        · rw [ht0, ht1, g]; by_cases h : 2 ≤ q <;> simp [h]
        by_cases g2 : q % 2 = 0
        · simp only [g2, if_true] at hi ⊢
          refine selE rfl (lenM hc w (Nat.le_refl _) (by omega) (lineM hc w (Nat.le_refl _) h0 ?_))
          rintro x rfl
          unfold wX12_behind_J110 wX12_behind_J112
          exact hi
        · have g3 : q % 2 = 1 := by omega
          simp only [g3] at hi ⊢
          refine selN (by decide) ?_
          unfold wX12_behind_J110 wX12_behind_J112
          exact hi
      · rw [if_neg g] at hi
        refine selF ?_ ?_
        · rw [ht0, ht1]
          cases c <;> by_cases h : 2 ≤ q <;> simp [h] at g ⊢
        · unfold wX12_behind_J112_11
          exact hi
    have st2 : ∀ (t0 : Int32) (c : Bool), decide (v < a.2.1 1 p) = c → t0 = (if c then 0 else 1) → wX12_behind_J58 μ K (wX12_behind_L33 μ v (Int32.ofNat q) K (r + 1)) v (Int32.ofNat q) (if q % 2 = 0 then b.1 else b.2) (Int32.ofNat p) t0 := by
      intro t0 c hcc ht0
      unfold wX12_behind_J58
      refine ⟨fun z => st t0 0 c hcc ht0 ?_, fun z => st t0 1 c hcc ht0 ?_⟩
      · rw [if_pos ((n32_le (a := 2) (by omega) (by omega)).mp z)]
      · rw [if_neg (fun h => z ((n32_le (a := 2) (by omega) (by omega)).mpr h))]
    exact ⟨fun z => st2 0 true (decide_eq_true z) rfl, fun z => st2 1 false (decide_eq_false z) rfl⟩
theorem op_behind (Λ : hx_L) (μ : hx_M) (a1 a2 : Int32) (h : hI Λ μ) : wL_29 Λ μ a1 a2 hI := by
  obtain ⟨hF, hM, h15, a, ls, fo, is, w, hc, hm, ht, hl, hi⟩ := id h
  have hs3 := w.s
  have hn3 := w.n
  unfold wL_29 wX11_behind
  by_cases h1 : 0 ≤ a1 ∧ a1 ≤ 99
  · by_cases h2 : 0 ≤ a2 ∧ a2 ≤ 3
    · obtain ⟨q, rfl, hq⟩ := n32_of (hi := 3) h2.1 h2.2 (by omega)
      by_cases h0 : 0 < a.1.1
      · refine t_withinY h1 (sel1 (t_withinY h2 (sel1 (t_emptyN hc w.up h0 (sel0 ?_)))))
        have hm0 : ¬ μ.1 49 0 = 0 := by rw [hm.n]; exact n32_ne0 h0 (by omega)
        have hrem : (Int32.ofNat q - Int32.ofNat q / 2 * 2) = Int32.ofNat (q % 2) := by
          have : q = 0 ∨ q = 1 ∨ q = 2 ∨ q = 3 := by omega
          rcases this with rfl | rfl | rfl | rfl <;> decide
        have key : ∀ t3 : Int32, t3 = Int32.ofNat (q % 2) → wX11_behind_J61 μ (fun r => wX12_behind μ a1 (Int32.ofNat q) (fun q => r = q ∧ hI Λ μ)) a1 (if decide (2 ≤ q) then 1 else 0) t3 := by
          intro t3 ht3
          unfold wX11_behind_J61 wX0_farFromLine
          rw [hc.s]
          refine lineC hc w.up (Nat.le_refl _) h0 ⟨a.1.1 + 1, farFrom_L25 hc w.up a.1.1 0 (0, 0) (by omega) (fun b hb => ?_)⟩
          have ref : ∀ v, v = (if q % 2 = 0 then b.1 else b.2) → wX12_behind μ a1 (Int32.ofNat q) (fun q => v = q ∧ hI Λ μ) := by
            intro v hv
            unfold wX12_behind
            have h00 := behind_L33 (q := q) (v := a1) (K := fun q => v = q ∧ hI Λ μ) (by omega) hm w.up h0 a.1.1 0 (0, 0) (by omega) (fun b' hb' => by rw [← hb] at hb'; subst hb'; exact ⟨hv, h⟩)
            have e0 : (if q % 2 = 0 then ((0, 0) : Int32 × Int32).1 else ((0, 0) : Int32 × Int32).2) = 0 := by split <;> rfl
            rw [e0] at h00
            exact t_isInY h1 (sel1 (t_isInY h2 (sel1 (selN hm0 ⟨_, h00⟩))))
          rw [ht3]
          refine ⟨fun z => ref _ ?_, fun z => ref _ ?_⟩
          · rw [if_pos ((n32_eq (b := 0) (by omega) (by omega)).mp z)]
          · rw [if_neg (fun hh => z (by rw [hh]; rfl))]
        have key2 : wX11_behind_J49 μ (fun r => wX12_behind μ a1 (Int32.ofNat q) (fun q => r = q ∧ hI Λ μ)) (Int32.ofNat q) a1 (if decide (2 ≤ q) then 1 else 0) := by
          unfold wX11_behind_J49
          rw [hrem]
          refine ⟨fun z => key 0 ?_, fun z => key 1 z.symm⟩
          have : q % 2 ≠ 1 := fun hh => z (by rw [hh]; rfl)
          rw [show q % 2 = 0 by omega]; rfl
        refine ⟨fun z => ?_, fun z => ?_⟩
        · have := (n32_lt (b := 2) (by omega) (by omega)).mp z
          rw [show decide (2 ≤ q) = false from decide_eq_false (by omega)] at key2
          exact key2
        · have : 2 ≤ q := Nat.le_of_not_lt fun hh => z ((n32_lt (b := 2) (by omega) (by omega)).mpr hh)
          rw [show decide (2 ≤ q) = true from decide_eq_true this] at key2
          exact key2
      · have h00 : a.1.1 = 0 := by omega
        unfold wX12_behind
        refine t_withinY h1 (sel1 (t_withinY h2 (sel1 (t_emptyY hc h00 (sel1 (t_isInY h1 (sel1 (t_isInY h2 (sel1 (selE ?_ ⟨rfl, h⟩))))))))))
        rw [hm.n, h00]; rfl
    · unfold wX12_behind
      exact t_withinY h1 (sel1 (t_withinN h2 (sel0 (t_isInY h1 (sel1 (t_isInN h2 (sel0 ⟨rfl, h⟩)))))))
  · unfold wX12_behind
    exact t_withinN h1 (sel0 (t_isInN h1 (sel0 ⟨rfl, h⟩)))
