/-! layer 2: luck -/
/-- an array of longs told, all else the same -/
def WL (c n : Nat) (w : Nat → Int64) (μ m : hx_M) : Prop := m.1 = μ.1 ∧ (∀ k, k ≠ c → m.2 k = μ.2 k) ∧ ∀ k, k < n → m.2 c k = w k
theorem WL.set {c n : Nat} {w : Nat → Int64} {μ m : hx_M} (h : WL c n w μ m) (j : Nat) (v : Int64) : WL c n (fun k => if k = j then v else w k) μ (hx_sL m c j v) := by
  refine ⟨h.1, fun k hk => ?_, fun k hk => ?_⟩
  · rw [← h.2.1 k hk]
    funext i
    rw [hm_sLv, if_neg (fun z => hk z.1)]
  · rw [hm_sLv]
    show _ = if k = j then v else w k
    by_cases e : k = j
    · rw [if_pos ⟨rfl, e⟩, if_pos e]
    · rw [if_neg (fun z => e z.2), if_neg e]; exact h.2.2 k hk
theorem WL.to {c n : Nat} {w w' : Nat → Int64} {μ m : hx_M} (h : WL c n w μ m) (e : ∀ k, k < n → w k = w' k) : WL c n w' μ m := ⟨h.1, h.2.1, fun k hk => (h.2.2 k hk).trans (e k hk)⟩
theorem fillL_L {Λ : hx_L} {c n : Nat} {v1 : Int64} {μ : hx_M} {K : hx_M → Prop} (hs : Λ.1 c = (3, n)) (hn : n < 2 ^ 30) (k : ∀ m, WL c n (fun _ => v1) μ m → K m) : ∀ (r i : Nat) (m : hx_M), i + r = n → m.1 = μ.1 → (∀ k, k ≠ c → m.2 k = μ.2 k) → (∀ k, k < i → m.2 c k = v1) → wJ7_fill_d0a16_L6 Λ c v1 (Int32.ofNat n) K (r + 1) (Int32.ofNat i) m := by
  intro r
  induction r with
  | zero =>
    intro i m e h1 h2 h3
    obtain rfl : i = n := by omega
    unfold wJ7_fill_d0a16_L6
    exact selT (Int32.le_refl _) (k m ⟨h1, h2, h3⟩)
  | succ r ih =>
    intro i m e h1 h2 h3
    unfold wJ7_fill_d0a16_L6
    rw [n32_nat (by omega), n32_add1]
    refine selF (fun z => by have := (n32_le (by omega) (by omega)).mp z; omega) ⟨n, hs, n32_in (by omega) (by omega), ih (i + 1) _ (by omega) h1 (fun k hk => ?_) (fun k hk => ?_)⟩
    · rw [← h2 k hk]
      funext j
      rw [hm_sLv, if_neg (fun z => hk z.1)]
    · rw [hm_sLv]
      by_cases e : k = i
      · rw [if_pos ⟨rfl, e⟩]
      · rw [if_neg (fun z => e z.2)]; exact h3 k (by omega)
theorem fillL {Λ : hx_L} {c n : Nat} {v1 : Int64} {μ : hx_M} {K : hx_M → Prop} (hs : Λ.1 c = (3, n)) (hn : n < 2 ^ 30) (k : ∀ m, WL c n (fun _ => v1) μ m → K m) : wJ7_fill_d0a16 Λ μ c v1 K := by
  unfold wJ7_fill_d0a16
  exact ⟨n, hs, n + 1, fillL_L hs hn k n 0 μ (by omega) rfl (fun _ _ => rfl) (fun k hk => by omega)⟩
/-- one season more chosen from -/
def wy (w : Nat → Int64) (g b : Int32) : Nat → Int64 := fun k => w k * b.toInt64 + (if k = 0 then 0 else w (k - 1) * g.toInt64)
def lk_s (a : hw_T) (s : Nat) : Nat → Int32 × Int32 → Int32 × Int32 := fun h b => if fo_B a h s = true then (b.1 + 1, b.2) else if sh_B a h s = true then (b.1, b.2 + 1) else b
abbrev luT : Type := (Nat × Nat) × (Nat → Int64)
/-- from the latest season down -/
def luF (a : hw_T) (h : Nat) : Nat → luT → luT
  | 0, x => x
  | c + 1, x => if 12 ≤ x.1.1 then x else if sh_B a h c = true then luF a h c ((x.1.1 + 1, x.1.2 + (if fo_B a h c = true then 1 else 0)), wy x.2 (itN (lk_s a c) 0 4 (0, 0)).1 (itN (lk_s a c) 0 4 (0, 0)).2) else luF a h c x
def sumL (w : Nat → Int64) : Nat → Nat → Int64 → Int64
  | 0, _, acc => acc
  | r + 1, i, acc => sumL w r (i + 1) (acc + w i)
section LU
variable {a : hw_T} {μ m : hx_M} {h s p : Nat} {w : Nat → Int64} {g b : Int32}
theorem fo_sh : fo_B a h s = true → sh_B a h s = true := fun z => by
  unfold fo_B at z
  rw [Bool.and_eq_true] at z
  exact z.1
theorem CW.wl (hc : CW 0 a μ) (o : m.1 = μ.1) (o2 : ∀ k, k ≠ 38 → m.2 k = μ.2 k) : CW 0 a m := hc.fr fun k h1 h2 => ⟨by rw [o], o2 _ (by omega)⟩
theorem MW.wl {c : Nat} (hc : MW a μ) (o : m.1 = μ.1) (o2 : ∀ k, k ≠ c → m.2 k = μ.2 k) (h : c ≠ 49) : MW a m := hc.fr (fun j _ => by rw [o]) (o2 49 (by omega)) (fun k _ => by rw [o])
theorem choose_L7 {K : hx_M → Prop} {K1 : Int32 → Int32 → Prop} (hc : CW 0 a m) (wf : WF 300 a) (hs : s < a.1.2.1) : ∀ (r i : Nat) (x : Int32 × Int32), i + r = 4 → K1 (itN (lk_s a s) i r x).1 (itN (lk_s a s) i r x).2 → wX8_chooseIn_L7 m (Int32.ofNat s) K K1 (r + 1) x.1 x.2 (Int32.ofNat i) := by
  intro r
  induction r with
  | zero =>
    intro i x e k
    obtain rfl : i = 4 := by omega
    unfold wX8_chooseIn_L7
    exact selT (by decide) k
  | succ r ih =>
    intro i x e k
    unfold wX8_chooseIn_L7 wX8_chooseIn_J42
    rw [n32_add1]
    have k' : K1 (itN (lk_s a s) (i + 1) r (lk_s a s i x)).1 (itN (lk_s a s) (i + 1) r (lk_s a s i x)).2 := k
    unfold lk_s at k'
    refine selF (fun z => by have := (n32_le (a := 4) (by omega) (by omega)).mp z; omega) (followC hc wf hs (by omega) ?_)
    by_cases c1 : fo_B a i s = true
    · rw [c1]
      rw [if_pos c1] at k'
      exact sel1 (ih (i + 1) (x.1 + 1, x.2) (by omega) k')
    · rw [if_neg c1] at k'
      have : fo_B a i s = false := by simpa using c1
      rw [this]
      refine sel0 (shownC hc wf (Nat.le_of_lt hs) (by omega) ?_)
      by_cases c2 : sh_B a i s = true
      · rw [c2]
        rw [if_pos c2] at k'
        exact sel1 (ih (i + 1) (x.1, x.2 + 1) (by omega) k')
      · rw [if_neg c2] at k'
        have : sh_B a i s = false := by simpa using c2
        rw [this]
        exact sel0 (ih (i + 1) x (by omega) k')
theorem choose_L52 {K K1 : hx_M → Prop} (k : ∀ m, WL 38 13 (fun k => if 0 < k then wy w g b k else w k) μ m → K1 m) : ∀ (j : Nat) (m : hx_M), j ≤ 12 → WL 38 13 (fun k => if j < k then wy w g b k else w k) μ m → wX8_chooseIn_L52 g b K K1 (j + 1) (Int32.ofNat j) m := by
  intro j
  induction j with
  | zero =>
    intro m hj h
    unfold wX8_chooseIn_L52
    exact selT (by decide) (k m h)
  | succ j ih =>
    intro m hj h
    unfold wX8_chooseIn_L52
    rw [n32_sub1 (by omega), Nat.add_sub_cancel, n32_nat (by omega), n32_nat (by omega), n32_addm1 (by omega), Nat.add_sub_cancel]
    refine selF (fun z => by have := (n32_le (b := 0) (by omega) (by omega)).mp z; omega) ⟨n32_in (by omega) (by omega), ?_⟩
    rintro x rfl
    refine ⟨n32_in (by omega) (by omega), ?_⟩
    rintro y rfl
    refine ⟨n32_in (by omega) (by omega), ih _ (by omega) ((h.set (j + 1) _).to (fun i hi => ?_))⟩
    have q1 : m.2 38 (j + 1) = w (j + 1) := (h.2.2 (j + 1) (by omega)).trans (if_neg (by omega))
    have q2 : m.2 38 j = w j := (h.2.2 j (by omega)).trans (if_neg (by omega))
    rw [q1, q2]
    by_cases e : i = j + 1
    · subst e
      rw [if_pos rfl, if_pos (by omega)]
      unfold wy
      rw [if_neg (by omega), Nat.add_sub_cancel]
    · rw [if_neg e]
      by_cases c : j + 1 < i
      · rw [if_pos c, if_pos (by omega)]
      · rw [if_neg c, if_neg (by omega)]
theorem chooseC {K : hx_M → Prop} (hc : CW 0 a m) (wf : WF 300 a) (hs : s < a.1.2.1) (hw : WL 38 13 w μ m) (k : ∀ m', WL 38 13 (wy w (itN (lk_s a s) 0 4 (0, 0)).1 (itN (lk_s a s) 0 4 (0, 0)).2) μ m' → K m') : wX8_chooseIn m (Int32.ofNat s) K := by
  unfold wX8_chooseIn
  have z0 : (0 : Int32).toNatClampNeg = 0 := rfl
  refine ⟨5, choose_L7 hc wf hs 4 0 (0, 0) (by omega) ⟨13, choose_L52 (μ := μ) (w := w) (fun m1 h1 => ?_) 12 m (by omega) (hw.to fun i hi => by rw [if_neg (by omega)])⟩⟩
  refine ⟨by unfold vp_in; decide, ?_⟩
  rintro x rfl
  rw [z0]
  refine ⟨by unfold vp_in; decide, k _ ((h1.set 0 _).to fun i hi => ?_)⟩
  have q1 : m1.2 38 0 = w 0 := (h1.2.2 0 (by omega)).trans (if_neg (by omega))
  rw [q1]
  by_cases e : i = 0
  · subst e
    rw [if_pos rfl]
    unfold wy
    rw [if_pos rfl, Int64.add_zero]
  · rw [if_neg e, if_pos (by omega)]
theorem luck_L116 {v1 v2 v3 v4 : Int32} {K : Int64 → hx_M → Prop} {K1 : Int32 → Int32 → Prop} (hc : MW a m) (wf : WF 300 a) (hs : s < a.1.2.1) : ∀ (r i : Nat) (x : Int32 × Int32), i + r = 4 → K1 (itN (lk_s a s) i r x).1 (itN (lk_s a s) i r x).2 → wX12_luck_L116 m v1 v2 v3 v4 (Int32.ofNat s) K K1 (r + 1) x.1 x.2 (Int32.ofNat i) := by
  intro r
  induction r with
  | zero =>
    intro i x e k
    obtain rfl : i = 4 := by omega
    unfold wX12_luck_L116
    exact selT (by decide) k
  | succ r ih =>
    intro i x e k
    unfold wX12_luck_L116 wX12_luck_J157
    rw [n32_add1]
    have k' : K1 (itN (lk_s a s) (i + 1) r (lk_s a s i x)).1 (itN (lk_s a s) (i + 1) r (lk_s a s i x)).2 := k
    unfold lk_s at k'
    refine selF (fun z => by have := (n32_le (a := 4) (by omega) (by omega)).mp z; omega) (houseM hc wf (Nat.le_of_lt hs) (by omega) ⟨fun z => followM hc wf hs (by omega) (shown_yes z) ?_, fun z => ?_⟩)
    · by_cases c1 : fo_B a i s = true
      · rw [c1]
        rw [if_pos c1] at k'
        exact sel1 (ih (i + 1) (x.1 + 1, x.2) (by omega) k')
      · rw [if_neg c1, if_pos (shown_yes z)] at k'
        have : fo_B a i s = false := by simpa using c1
        rw [this]
        exact sel0 (ih (i + 1) (x.1, x.2 + 1) (by omega) k')
    · have c2 := shown_no (a := a) (h := i) (s := s) z
      have c1 : ¬ fo_B a i s = true := fun z2 => by have := fo_sh z2; rw [c2] at this; simp at this
      rw [if_neg c1, if_neg (by rw [c2]; simp)] at k'
      exact ih (i + 1) x (by omega) k'
theorem luck_L167 {v1 v2 v3 v4 v5 : Int32} {K : Int64 → hx_M → Prop} {K1 : hx_M → Prop} (k : ∀ m, WL 80 13 (wy w g b) μ m → K1 m) : ∀ (c : Nat) (m : hx_M), c ≤ 13 → WL 80 13 (fun k => if c ≤ k then wy w g b k else w k) μ m → wX12_luck_L167 v1 v2 v3 v4 v5 g b K K1 (c + 1) (Int32.ofNat c - 1) m := by
  intro c
  induction c with
  | zero =>
    intro m hj h
    unfold wX12_luck_L167
    exact selT (by decide) (k m (h.to fun i hi => by rw [if_pos (by omega)]))
  | succ j ih =>
    intro m hj h
    unfold wX12_luck_L167 wX12_luck_J211
    have em : Int32.ofNat j + (-1) = Int32.ofNat j - 1 := by grind
    rw [n32_sub1 (by omega), Nat.add_sub_cancel, n32_nat (by omega)]
    refine selF (n32_nn (by omega)) ⟨n32_in (by omega) (by omega), ?_⟩
    rintro x rfl
    have q2 : m.2 80 j = w j := (h.2.2 j (by omega)).trans (if_neg (by omega))
    rw [q2, em]
    have fin : ∀ y : Int64, y = (if j = 0 then 0 else w (j - 1) * g.toInt64) → vp_in (Int32.ofNat j) 13 ∧ wX12_luck_L167 v1 v2 v3 v4 v5 g b K K1 (j + 1) (Int32.ofNat j - 1) (hx_sL m 80 j (w j * b.toInt64 + y)) := by
      rintro y rfl
      refine ⟨n32_in (by omega) (by omega), ih _ (by omega) ((h.set j _).to fun i hi => ?_)⟩
      by_cases e : i = j
      · subst e
        rw [if_pos rfl, show (if i ≤ i then wy w g b i else w i) = wy w g b i from if_pos (Nat.le_refl _)]
        rfl
      · rw [if_neg e]
        by_cases c : j + 1 ≤ i
        · rw [if_pos c, if_pos (by omega)]
        · rw [if_neg c, if_neg (by omega)]
    refine ⟨fun z => fin 0 ?_, fun z => ?_⟩
    · have := (n32_le (b := 0) (by omega) (by omega)).mp z
      rw [if_pos (by omega)]
    · have hj0 : 0 < j := Nat.pos_of_ne_zero fun e => z (by rw [e]; exact Int32.le_refl _)
      rw [show (Int32.ofNat j - 1).toNatClampNeg = j - 1 by rw [n32_sub1 hj0, n32_nat (by omega)]]
      refine ⟨by rw [n32_sub1 hj0]; exact n32_in (by omega) (by omega), ?_⟩
      rintro y rfl
      refine fin _ ?_
      have q3 : m.2 80 (j - 1) = w (j - 1) := (h.2.2 (j - 1) (by omega)).trans (if_neg (by omega))
      rw [if_neg (by omega), q3]
end LU
