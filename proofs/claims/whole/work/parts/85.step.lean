/-! layer 2: a season passes -/
theorem sI_ne {μ : hx_M} {c j k i : Nat} {v : Int32} (h : k ≠ c ∨ i ≠ j) : (hx_sI μ c j v).1 k i = μ.1 k i := by
  rw [hm_sI, if_neg (by omega)]
theorem tal_ne {μ : hx_M} {p i k j : Nat} (h : k ≠ 5) : (htal μ p i).1 k j = μ.1 k j := by
  unfold htal
  rw [sI_ne (Or.inl h)]
theorem ask_ne {b : hx_M} {kk p k j : Nat} (h3 : k ≠ 3 ∨ j ≠ p) (h6 : (k = 7 ∨ k = 8 ∨ k = 9) → j ≠ kk) : (hs_ask kk p b).1 k j = b.1 k j := by
  unfold hs_ask
  rw [sI_ne (by omega), sI_ne (by omega), sI_ne (by omega), sI_ne (by omega), hm_sL1]
section GO
variable {a : hw_T} {l : List hl_R} {p : Nat} {b : hx_M}
theorem go_ne {k j : Nat} (h3 : k ≠ 3 ∨ j ≠ p) (h4 : k ≠ 4 ∨ j ≠ p) (h5 : k ≠ 5) (h6 : (k = 6 ∨ k = 7 ∨ k = 8 ∨ k = 9) → j ≠ 16 * (a.1.2.1 + 1) + p) : (hs_go a l p b).1 k j = b.1 k j := by
  unfold hs_go
  rw [sI_ne (by omega)]
  unfold hs_do
  by_cases c1 : (hs_w a l p b).1 = a.2.1 6 (16 * a.1.2.1 + p)
  · rw [if_pos c1, sI_ne (by omega), tal_ne h5, ask_ne h3 (by omega)]
  · rw [if_neg c1]
    by_cases c2 : hs_cost a l p b ≤ hg_coin (b.1 3 p) (b.1 1 p)
    · rw [if_neg (not_not_intro c2), sI_ne (by omega), tal_ne h5, sI_ne (by omega), tal_ne h5, ask_ne h3 (by omega)]
    · rw [if_pos c2, sI_ne (by omega), tal_ne h5, tal_ne h5, ask_ne h3 (by omega)]
theorem go_3 : (hs_go a l p b).1 3 p = hg_coin (b.1 3 p) (b.1 1 p) ∨ (hs_cost a l p b ≤ hg_coin (b.1 3 p) (b.1 1 p) ∧ (hs_go a l p b).1 3 p = hg_coin (b.1 3 p) (b.1 1 p) - hs_cost a l p b) := by
  have e : (hs_ask (16 * (a.1.2.1 + 1) + p) p b).1 3 p = hg_coin (b.1 3 p) (b.1 1 p) := by simp [hs_ask, hm_sI]
  unfold hs_go
  rw [sI_ne (by omega)]
  unfold hs_do
  by_cases c1 : (hs_w a l p b).1 = a.2.1 6 (16 * a.1.2.1 + p)
  · rw [if_pos c1, sI_ne (by omega), tal_ne (by omega)]; exact Or.inl e
  · rw [if_neg c1]
    by_cases c2 : hs_cost a l p b ≤ hg_coin (b.1 3 p) (b.1 1 p)
    · rw [if_neg (not_not_intro c2), sI_ne (by omega), tal_ne (by omega), sIe]
      exact Or.inr ⟨c2, rfl⟩
    · rw [if_pos c2, sI_ne (by omega), tal_ne (by omega), tal_ne (by omega)]; exact Or.inl e
theorem go_4 : (hs_go a l p b).1 4 p = b.1 4 p + 1 ∨ (hs_go a l p b).1 4 p = 0 := by
  unfold hs_go
  rw [sI_ne (by omega)]
  unfold hs_do
  by_cases c1 : (hs_w a l p b).1 = a.2.1 6 (16 * a.1.2.1 + p)
  · rw [if_pos c1, sIe]; exact Or.inl rfl
  · rw [if_neg c1]
    by_cases c2 : hs_cost a l p b ≤ hg_coin (b.1 3 p) (b.1 1 p)
    · rw [if_neg (not_not_intro c2), sIe]; exact Or.inr rfl
    · rw [if_pos c2, sIe]; exact Or.inl rfl
theorem go_6 : (hs_go a l p b).1 6 (16 * (a.1.2.1 + 1) + p) = a.2.1 6 (16 * a.1.2.1 + p) ∨ (hs_go a l p b).1 6 (16 * (a.1.2.1 + 1) + p) = (hs_w a l p b).1 := by
  unfold hs_go
  rw [sIe]
  unfold hs_do
  by_cases c1 : (hs_w a l p b).1 = a.2.1 6 (16 * a.1.2.1 + p)
  · rw [if_pos c1]; exact Or.inl rfl
  · rw [if_neg c1]
    by_cases c2 : hs_cost a l p b ≤ hg_coin (b.1 3 p) (b.1 1 p)
    · rw [if_neg (not_not_intro c2)]; exact Or.inr rfl
    · rw [if_pos c2]; exact Or.inl rfl
/-- as a season begins -/
def hs_beg (a : hw_T) : hx_M := (fun k j => if k = 11 ∧ j = a.1.2.1 + 1 then a.2.1 11 a.1.2.1 else if k = 10 ∧ 4 * (a.1.2.1 + 1) ≤ j ∧ j < 4 * (a.1.2.1 + 1) + 4 then a.2.1 10 (j - 4) else a.2.1 k j, a.2.2)
def hw_step (a : hw_T) (l : List hl_R) : hw_T := ((a.1.1, a.1.2.1 + 1, a.1.2.2), itN (hs_go a l) 0 a.1.1 (hs_beg a))
/-- what a season leaves alone -/
def FR (a : hw_T) (b : hx_M) : Prop := ∀ k j, k ≠ 3 → k ≠ 4 → k ≠ 5 → ((k = 6 ∨ k = 7 ∨ k = 8 ∨ k = 9) → j < 16 * (a.1.2.1 + 1)) → b.1 k j = (hs_beg a).1 k j
theorem FR.go (h : FR a b) : FR a (hs_go a l p b) := fun k j h3 h4 h5 h6 => by
  rw [go_ne (Or.inl h3) (Or.inl h4) h5 (fun z => by have := h6 z; omega)]
  exact h k j h3 h4 h5 h6
theorem sub_rng {x y : Int32} {B : Nat} (hB : B < 2 ^ 30) (hy : 0 ≤ y) (hyx : y ≤ x) (hx : x ≤ Int32.ofNat B) : 0 ≤ x - y ∧ x - y ≤ Int32.ofNat B := by
  obtain ⟨n, rfl, hn⟩ := n32_of (hi := B) (Int32.le_trans hy hyx) hx (by omega)
  obtain ⟨m, rfl, hm⟩ := n32_of (hi := n) hy hyx (by omega)
  rw [n32_subn hm]
  exact ⟨(n32_le (a := 0) (by omega) (by omega)).mpr (by omega), (n32_le (by omega) (by omega)).mpr (by omega)⟩
theorem cost_rng {S : Nat} (w : WF S a) : 0 ≤ hs_cost a l p b := by
  unfold hs_cost
  by_cases c : hs_seam a l p b
  · rw [if_pos c]; exact w.2.1.2.2.2.2.1
  · rw [if_neg c]; exact w.2.1.1
theorem BR.go (w : WF 300 a) (hs : a.1.2.1 < 300) (hp : p < a.1.1) (hok : ∀ r ∈ l, hl_okR r) (h : BR a p b) : BR a (p + 1) (hs_go a l p b) := by
  obtain ⟨r1, r2, r3, r4⟩ := h
  refine ⟨fun q hq => ?_, fun q hq => ?_, fun q hq => ?_, fun q => ?_⟩
  · rw [go_ne (by omega) (by omega) (by omega) (by omega), go_ne (by omega) (by omega) (by omega) (by omega)]
    exact r1 q (by omega)
  · by_cases e : q = p
    · subst e
      have hpu : 0 ≤ b.1 1 q ∧ b.1 1 q ≤ 99 := by rw [r4]; exact (w.2.2.1 q hp).2.1
      obtain ⟨c, hc1, ec⟩ := coin_rng (r2 q hq).1 hpu
      have e9 : (9999 : Int32) = Int32.ofNat 9999 := rfl
      constructor
      · rcases go_3 (a := a) (l := l) (p := q) (b := b) with h | ⟨h1, h2⟩
        · rw [h, ec, e9]
          exact ⟨(n32_le (a := 0) (by omega) (by omega)).mpr (by omega), (n32_le (by omega) (by omega)).mpr hc1⟩
        · rw [h2]
          refine sub_rng (B := 9999) (by omega) (cost_rng w) h1 ?_
          rw [ec]
          exact (n32_le (by omega) (by omega)).mpr hc1
      · rcases go_4 (a := a) (l := l) (p := q) (b := b) with h | h
        · rw [h, (r1 q (Nat.le_refl _)).2]
          obtain ⟨x, ex, hx⟩ := n32_of (hi := a.1.2.1) (w.2.2.1 q hp).2.2.2.1 (w.2.2.1 q hp).2.2.2.2 (by omega)
          rw [ex, n32_add1]
          exact ⟨(n32_le (a := 0) (by omega) (by omega)).mpr (by omega), (n32_le (by omega) (by omega)).mpr (by omega)⟩
        · rw [h]
          exact ⟨Int32.le_refl _, (n32_le (a := 0) (by omega) (by omega)).mpr (by omega)⟩
    · rw [go_ne (by omega) (by omega) (by omega) (by omega), go_ne (by omega) (by omega) (by omega) (by omega)]
      exact r2 q hq
  · by_cases e : q = p
    · subst e
      rcases go_6 (a := a) (l := l) (p := q) (b := b) with h | h
      · rw [h]; exact w.2.2.2.2.1 _ q (Nat.le_refl _) hp
      · rw [h]; exact wish_rng w (Nat.le_refl _) hp hok
    · rw [go_ne (by omega) (by omega) (by omega) (by omega)]
      exact r3 q (by omega)
  · rw [go_ne (by omega) (by omega) (by omega) (by omega)]
    exact r4 q
theorem BR.beg (w : WF 300 a) (hs : a.1.2.1 < 300) : BR a 0 (hs_beg a) := by
  refine ⟨fun q _ => ⟨?_, ?_⟩, fun q hq => ?_, fun q hq => by omega, fun q => ?_⟩
  · unfold hs_beg; simp
  · unfold hs_beg; simp
  · have h := w.2.2.1 q hq
    have e3 : (hs_beg a).1 3 q = a.2.1 3 q := by unfold hs_beg; simp
    have e4 : (hs_beg a).1 4 q = a.2.1 4 q := by unfold hs_beg; simp
    rw [e3, e4]
    exact ⟨h.2.2.1, h.2.2.2.1, Int32.le_trans h.2.2.2.2 ((n32_le (by omega) (by omega)).mpr (by omega))⟩
  · unfold hs_beg; simp
theorem it_ok (w : WF 300 a) (hs : a.1.2.1 < 300) (hok : ∀ r ∈ l, hl_okR r) : ∀ (r p : Nat) (b : hx_M), p + r = a.1.1 → BR a p b → FR a b → BR a a.1.1 (itN (hs_go a l) p r b) ∧ FR a (itN (hs_go a l) p r b) := by
  intro r
  induction r with
  | zero => intro p b e h1 h2; obtain rfl : p = a.1.1 := (by omega); exact ⟨h1, h2⟩
  | succ r ih => intro p b e h1 h2; exact ih (p + 1) _ (by omega) (h1.go w hs (by omega) hok) h2.go
theorem step_ok (w : WF 300 a) (hs : a.1.2.1 < 300) (hok : ∀ r ∈ l, hl_okR r) : BR a a.1.1 (hw_step a l).2 ∧ FR a (hw_step a l).2 := it_ok w hs hok a.1.1 0 _ (by omega) (BR.beg w hs) (fun _ _ _ _ _ _ => rfl)
theorem beg_len {k j : Nat} (h : k ≠ 10) (h2 : k ≠ 11) : (hs_beg a).1 k j = a.2.1 k j := by unfold hs_beg; simp [h, h2]
theorem beg_11 {j : Nat} : (hs_beg a).1 11 j = if j = a.1.2.1 + 1 then a.2.1 11 a.1.2.1 else a.2.1 11 j := by unfold hs_beg; simp
theorem beg_10 {j : Nat} : (hs_beg a).1 10 j = if 4 * (a.1.2.1 + 1) ≤ j ∧ j < 4 * (a.1.2.1 + 1) + 4 then a.2.1 10 (j - 4) else a.2.1 10 j := by unfold hs_beg; simp
theorem WF_step {S : Nat} (w : WF S a) (hS : S ≤ 300) (hs : a.1.2.1 < S) (h0 : 0 < a.1.1) (hok : ∀ r ∈ l, hl_okR r) : WF S (hw_step a l) := by
  have w3 : WF 300 a := by
    obtain ⟨⟨h1, h2, h3⟩, h4⟩ := w
    exact ⟨⟨h1, by omega, h3⟩, h4⟩
  obtain ⟨⟨b1, b2, b3, b4⟩, fr⟩ := step_ok (l := l) w3 (by omega) hok
  have hn := w.n
  have f : ∀ k j, k ≠ 3 → k ≠ 4 → k ≠ 5 → ((k = 6 ∨ k = 7 ∨ k = 8 ∨ k = 9) → j < 16 * (a.1.2.1 + 1)) → (hw_step a l).2.1 k j = (hs_beg a).1 k j := fr
  obtain ⟨⟨h1, h2, h3, h4, h5⟩, g2, g3, g4, g5, g6, g7, g8⟩ := w
  refine ⟨⟨h1, hs, h3, fun _ => h0, h5⟩, ?_, fun p hp => ?_, fun p hp => ?_, fun t p ht hp => ?_, fun t p ht hp => ?_, fun t ht => ?_, fun k hk => ?_⟩
  · rw [f 12 0 (by omega) (by omega) (by omega) (by omega), f 12 1 (by omega) (by omega) (by omega) (by omega), f 12 2 (by omega) (by omega) (by omega) (by omega), beg_len (by omega) (by omega), beg_len (by omega) (by omega), beg_len (by omega) (by omega)]
    exact g2
  · rw [f 0 p (by omega) (by omega) (by omega) (by omega), f 1 p (by omega) (by omega) (by omega) (by omega), beg_len (by omega) (by omega), beg_len (by omega) (by omega)]
    exact ⟨(g3 p hp).1, (g3 p hp).2.1, b2 p hp⟩
  · rw [f 2 p (by omega) (by omega) (by omega) (by omega), beg_len (by omega) (by omega)]
    exact g4 p hp
  · have hp' : p < a.1.1 := hp
    have ht' : t ≤ a.1.2.1 + 1 := ht
    by_cases e : t = a.1.2.1 + 1
    · subst e
      exact b3 p hp
    · rw [f 6 _ (by omega) (by omega) (by omega) (by omega), beg_len (by omega) (by omega)]
      exact g5 t p (by omega) hp
  · have ht' : t ≤ a.1.2.1 + 1 := ht
    rw [f 10 _ (by omega) (by omega) (by omega) (by omega), beg_10]
    by_cases e : t = a.1.2.1 + 1
    · subst e
      rw [if_pos (by omega), show 4 * (a.1.2.1 + 1) + p - 4 = 4 * a.1.2.1 + p by omega]
      exact g6 _ p (Nat.le_refl _) hp
    · rw [if_neg (by omega)]
      exact g6 t p (by omega) hp
  · have ht' : t ≤ a.1.2.1 + 1 := ht
    rw [f 11 _ (by omega) (by omega) (by omega) (by omega), beg_11]
    by_cases e : t = a.1.2.1 + 1
    · rw [if_pos e]; exact g7 _ (Nat.le_refl _)
    · rw [if_neg e]; exact g7 t (by omega)
  · rw [f 13 _ (by omega) (by omega) (by omega) (by omega), beg_len (by omega) (by omega)]
    exact g8 k hk
end GO
