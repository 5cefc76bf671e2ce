/-! layer 2: like, again, behind -/
section LK
variable {a : hw_T} {μ : hx_M}
theorem t_emptyN {K : Int32 → Prop} (hc : CW 0 a μ) (w : WF 300 a) (h0 : 0 < a.1.1) (k : K 0) : wX4_isEmpty μ K := by
  have hn := w.n
  unfold wX4_isEmpty
  rw [hc.n]
  exact selN (n32_ne0 h0 (by omega)) k
theorem t_emptyY {K : Int32 → Prop} (hc : CW 0 a μ) (h0 : a.1.1 = 0) (k : K 1) : wX4_isEmpty μ K := by
  unfold wX4_isEmpty
  rw [hc.n, h0]
  exact selE rfl k
theorem n32_subn {x y : Nat} (h : y ≤ x) : Int32.ofNat x - Int32.ofNat y = Int32.ofNat (x - y) := by
  have : Int32.ofNat x = Int32.ofNat (x - y) + Int32.ofNat y := by rw [n32_add, Nat.sub_add_cancel h]
  rw [this, Int32.add_sub_cancel]
def lk_in (a : hw_T) (s : Nat) : Nat → Int32 → Int32 := fun i acc => acc + ab (hw_line a (s - i) - hw_line a (a.1.2.1 - i))
def lk_off (a : hw_T) (n s : Nat) : Int32 := itN (lk_in a s) 0 n 0
def lk_st (a : hw_T) (n : Nat) : Nat → Int32 × Int32 → Int32 × Int32 := fun s b => if b.1 = -1 then (Int32.ofNat s, lk_off a n s) else if b.2 < lk_off a n s then b else (Int32.ofNat s, lk_off a n s)
def hw_like (a : hw_T) (n : Nat) : Int32 := (itN (lk_st a n) (n - 1) (a.1.2.1 - (n - 1)) (-1, 0)).1
theorem likeC_L27 {n s : Nat} {x y : Int32} {K K1 : Int32 → Prop} (hc : CW 0 a μ) (w : WF 300 a) (h0 : 0 < a.1.1) (hn1 : n ≤ s + 1) (hs : s < a.1.2.1) : ∀ (r i : Nat) (acc : Int32), i + r = n → K1 (itN (lk_in a s) i r acc) → wX0_mostLike_L27 μ (Int32.ofNat n) x y (Int32.ofNat s) K K1 (r + 1) acc (Int32.ofNat i) := by
  have hs3 := w.s
  intro r
  induction r with
  | zero =>
    intro i acc e k
    obtain rfl : i = n := by omega
    unfold wX0_mostLike_L27
    exact selT (Int32.le_refl _) k
  | succ r ih =>
    intro i acc e k
    unfold wX0_mostLike_L27
    rw [hc.s, n32_subn (by omega), n32_subn (by omega), n32_add1]
    refine selF (fun z => by have := (n32_le (by omega) (by omega)).mp z; omega) (lineC hc w (by omega) h0 (lineC hc w (by omega) h0 ?_))
    rintro x rfl
    exact ih (i + 1) _ (by omega) k
theorem likeC_L9 {n : Nat} {K : Int32 → Prop} (hc : CW 0 a μ) (w : WF 300 a) (h0 : 0 < a.1.1) (hn1 : n ≤ 10) : ∀ (r s : Nat) (b : Int32 × Int32), r = a.1.2.1 - s → n ≤ s + 1 → s ≤ 300 → K (itN (lk_st a n) s r b).1 → wX0_mostLike_L9 μ (Int32.ofNat n) K (r + 1) b.1 b.2 (Int32.ofNat s) := by
  have hs3 := w.s
  intro r
  induction r with
  | zero =>
    intro s b e h1 h2 k
    unfold wX0_mostLike_L9
    rw [hc.s]
    exact selT ((n32_le (by omega) (by omega)).mpr (by omega)) k
  | succ r ih =>
    intro s b e h1 h2 k
    have hi := ih (s + 1) (lk_st a n s b) (by omega) (by omega) (by omega) k
    unfold wX0_mostLike_L9
    rw [hc.s]
    refine selF (fun z => by have := (n32_le (by omega) (by omega)).mp z; omega) ⟨n + 1, likeC_L27 hc w h0 h1 (by omega) n 0 0 (by omega) ?_⟩
    unfold wX0_mostLike_J88 wX0_mostLike_J94 wX0_mostLike_J94_7
    rw [n32_add1]
    unfold lk_st lk_off at hi
    refine ⟨fun z => ?_, fun z => ⟨fun z2 => ?_, fun z2 => ?_⟩⟩
    · rw [if_pos z] at hi; exact hi
    · rw [if_neg z, if_pos z2] at hi; exact hi
    · rw [if_neg z, if_neg z2] at hi; exact hi
theorem likeM_L53 {n s : Nat} {x y v2 : Int32} {K K1 : Int32 → Prop} (hc : MW a μ) (w : WF 300 a) (h0 : 0 < a.1.1) (hn1 : n ≤ s + 1) (hs : s < a.1.2.1) : ∀ (r i : Nat) (acc : Int32), i + r = n → K1 (itN (lk_in a s) i r acc) → wX12_like_L53 μ (Int32.ofNat n) v2 x y (Int32.ofNat s) K K1 (r + 1) acc (Int32.ofNat i) := by
  have hs3 := w.s
  intro r
  induction r with
  | zero =>
    intro i acc e k
    obtain rfl : i = n := by omega
    unfold wX12_like_L53
    exact selT (Int32.le_refl _) k
  | succ r ih =>
    intro i acc e k
    unfold wX12_like_L53
    rw [hc.s, n32_subn (by omega), n32_subn (by omega), n32_add1]
    refine selF (fun z => by have := (n32_le (by omega) (by omega)).mp z; omega) (lineM hc w (by omega) h0 (lineM hc w (by omega) h0 ?_))
    rintro x rfl
    exact ih (i + 1) _ (by omega) k
theorem likeM_L38 {n : Nat} {v2 : Int32} {K K1 : Int32 → Prop} (hc : MW a μ) (w : WF 300 a) (h0 : 0 < a.1.1) (hn1 : n ≤ 10) : ∀ (r s : Nat) (b : Int32 × Int32), r = a.1.2.1 - s → n ≤ s + 1 → s ≤ 300 → K1 (itN (lk_st a n) s r b).1 → wX12_like_L38 μ (Int32.ofNat n) v2 K K1 (r + 1) b.1 b.2 (Int32.ofNat s) := by
  have hs3 := w.s
  intro r
  induction r with
  | zero =>
    intro s b e h1 h2 k
    unfold wX12_like_L38
    rw [hc.s]
    exact selT ((n32_le (by omega) (by omega)).mpr (by omega)) k
  | succ r ih =>
    intro s b e h1 h2 k
    have hi := ih (s + 1) (lk_st a n s b) (by omega) (by omega) (by omega) k
    unfold wX12_like_L38
    rw [hc.s]
    refine selF (fun z => by have := (n32_le (by omega) (by omega)).mp z; omega) ⟨n + 1, likeM_L53 hc w h0 h1 (by omega) n 0 0 (by omega) ?_⟩
    unfold wX12_like_J109 wX12_like_J116 wX12_like_J116_11
    rw [n32_add1]
    unfold lk_st lk_off at hi
    refine ⟨fun z => ?_, fun z => ⟨fun z2 => ?_, fun z2 => ?_⟩⟩
    · rw [if_pos z] at hi; exact hi
    · rw [if_neg z, if_neg (Int32.not_lt.mpr z2)] at hi; exact hi
    · rw [if_neg z, if_pos (Int32.not_le.mp z2)] at hi; exact hi
theorem lk_res {n : Nat} : ∀ (r s : Nat) (b : Int32 × Int32), s + r ≤ a.1.2.1 → (b.1 = -1 ∨ ∃ k, k < a.1.2.1 ∧ b.1 = Int32.ofNat k) → ((itN (lk_st a n) s r b).1 = -1 ∨ ∃ k, k < a.1.2.1 ∧ (itN (lk_st a n) s r b).1 = Int32.ofNat k)
  | 0, _, _, _, h => h
  | r + 1, s, b, hr, h => by
    refine lk_res r (s + 1) _ (by omega) ?_
    unfold lk_st
    by_cases z : b.1 = -1
    · rw [if_pos z]; exact Or.inr ⟨s, by omega, rfl⟩
    · rw [if_neg z]
      by_cases z2 : b.2 < lk_off a n s
      · rw [if_pos z2]; exact h
      · rw [if_neg z2]; exact Or.inr ⟨s, by omega, rfl⟩
end LK
def hw_guess (a : hw_T) (n : Nat) (what : Int32) : Int32 := if hw_like a n = -1 ∨ what = 0 then hw_like a n else (hw_line a ((hw_like a n).toNatClampNeg + 1) + hw_line a a.1.2.1) - hw_line a (hw_like a n).toNatClampNeg
theorem op_like (Λ : hx_L) (μ : hx_M) (a1 a2 : Int32) (h : hI Λ μ) : wL_18 Λ μ a1 a2 hI := by
  obtain ⟨hF, hM, h15, a, ls, fo, is, w, hc, hm, ht, hl, hi⟩ := id h
  have hs3 := w.s
  have hn3 := w.n
  unfold wL_18 wX11_like wX12_like
  by_cases h1 : 1 ≤ a1 ∧ a1 ≤ 10
  · obtain ⟨n, rfl, hn⟩ := n32_of (v := a1) (hi := 10) (Int32.le_trans (by decide) h1.1) h1.2 (by omega)
    have hn1 : 1 ≤ n := (n32_le (a := 1) (by omega) (by omega)).mp h1.1
    by_cases h2 : 0 ≤ a2 ∧ a2 ≤ 1
    · by_cases h0 : 0 < a.1.1
      · refine t_withinY h1 (sel1 (t_withinY h2 (sel1 (t_emptyN hc w.up h0 (sel0 ?_)))))
        unfold wX0_mostLike
        rw [n32_sub1 hn1]
        refine ⟨_, likeC_L9 hc w.up h0 hn (a.1.2.1 - (n - 1)) (n - 1) (-1, 0) rfl (by omega) (by omega) ?_⟩
        have hR : ∀ R : Int32 → Prop, R (hw_like a n) → wX12_isIn (Int32.ofNat n) 1 10 (fun r4_2 => (r4_2 = 0 → R (-1)) ∧ (¬ (r4_2 = 0) → R (hw_like a n))) := fun R hr => t_isInY h1 (sel1 hr)
        have res := lk_res (a := a) (n := n) (a.1.2.1 - (n - 1)) (n - 1) (-1, 0)
        show ((hw_like a n) = (-1) → _) ∧ (¬ ((hw_like a n) = (-1)) → _)
        have hm0 : ¬ μ.1 49 0 = 0 := by rw [hm.n]; exact n32_ne0 h0 (by omega)
        have ref : ∀ (v : Int32), v = hw_guess a n a2 → wX12_isIn (Int32.ofNat n) 1 10 (fun r4_2 => (r4_2 = 0 → (v = (-1) ∧ hI Λ μ)) ∧ (¬ (r4_2 = 0) → (wX12_isIn a2 0 1 (fun r13_4 => (r13_4 = 0 → (v = (-1) ∧ hI Λ μ)) ∧ (¬ (r13_4 = 0) → (((μ.1 49 0) ≠ 0 → (∃ n38_20, wX12_like_L38 μ (Int32.ofNat n) a2 (fun q => v = q ∧ hI Λ μ) (fun v3_13 => (v3_13 = (-1) → (v = v3_13 ∧ hI Λ μ)) ∧ (¬ (v3_13 = (-1)) → ((a2 ≠ 0 → (wX12_lineAt μ (v3_13 + 1) (fun r139_15 => wX12_lineAt μ (μ.1 49 1) (fun r147_17 => wX12_lineAt μ v3_13 (fun r153_19 => v = ((r139_15 + r147_17) - r153_19) ∧ hI Λ μ))))) ∧ (a2 = 0 → (v = v3_13 ∧ hI Λ μ))))) n38_20 (-1) 0 (Int32.ofNat (n - 1)))) ∧ ((μ.1 49 0) = 0 → (v = (-1) ∧ hI Λ μ)))))))) := by
          intro v hv
          refine t_isInY h1 (sel1 (t_isInY h2 (sel1 (selN hm0 ?_))))
          refine ⟨_, likeM_L38 hm w.up h0 hn (a.1.2.1 - (n - 1)) (n - 1) (-1, 0) rfl (by omega) (by omega) ?_⟩
          show ((hw_like a n) = (-1) → _) ∧ (¬ ((hw_like a n) = (-1)) → _)
          refine ⟨fun z => ⟨by rw [hv]; unfold hw_guess; rw [if_pos (Or.inl z)]; rfl, h⟩, fun z => ⟨fun z2 => ?_, fun z2 => ⟨by rw [hv]; unfold hw_guess; rw [if_pos (Or.inr z2)]; rfl, h⟩⟩⟩
          by_cases hle : n - 1 ≤ a.1.2.1
          · obtain ⟨k, hk, ek⟩ := (res (by omega) (Or.inl rfl)).resolve_left z
            have ek' : hw_like a n = Int32.ofNat k := ek
            rw [hm.s, ek, n32_add1]
            refine lineM hm w.up (by omega) h0 (lineM hm w.up (Nat.le_refl _) h0 (lineM hm w.up (by omega) h0 ⟨?_, h⟩))
            rw [hv]
            unfold hw_guess
            rw [if_neg (fun hh => hh.elim z z2), ek', n32_nat (by omega)]
          · exact absurd (by unfold hw_like; rw [show a.1.2.1 - (n - 1) = 0 by omega]; rfl) z
        refine ⟨fun z => ref _ ?_, fun z => ⟨fun z2 => ?_, fun z2 => ref _ ?_⟩⟩
        · unfold hw_guess
          rw [if_pos (Or.inl z)]
          rfl
        · by_cases hle : n - 1 ≤ a.1.2.1
          · obtain ⟨k, hk, ek⟩ := (res (by omega) (Or.inl rfl)).resolve_left z
            have ek' : hw_like a n = Int32.ofNat k := ek
            rw [hc.s, ek, n32_add1]
            refine lineC hc w.up (by omega) h0 (lineC hc w.up (Nat.le_refl _) h0 (lineC hc w.up (by omega) h0 (ref _ ?_)))
            unfold hw_guess
            rw [if_neg (fun hh => hh.elim z z2), ek', n32_nat (by omega)]
          · exact absurd (by unfold hw_like; rw [show a.1.2.1 - (n - 1) = 0 by omega]; rfl) z
        · unfold hw_guess
          rw [if_pos (Or.inr z2)]
          rfl
      · have h00 : a.1.1 = 0 := by omega
        refine t_withinY h1 (sel1 (t_withinY h2 (sel1 (t_emptyY hc h00 (sel1 (t_isInY h1 (sel1 (t_isInY h2 (sel1 (selE ?_ ⟨rfl, h⟩))))))))))
        rw [hm.n, h00]; rfl
    · exact t_withinY h1 (sel1 (t_withinN h2 (sel0 (t_isInY h1 (sel1 (t_isInN h2 (sel0 ⟨rfl, h⟩)))))))
  · exact t_withinN h1 (sel0 (t_isInN h1 (sel0 ⟨rfl, h⟩)))
