/-! layer 2: luck, whole -/
section LV
variable {Λ : hx_L} {a : hw_T} {μ m : hx_M} {h : Nat}
theorem m1i {c : Nat} : Int32.ofNat c + (-1) = Int32.ofNat c - 1 := by grind
theorem lu_neg {c : Nat} (hc : c ≤ 400) : Int32.ofNat c - 1 < 0 ↔ c = 0 := by
  constructor
  · intro z
    apply Classical.byContradiction
    intro h
    rw [n32_sub1 (by omega)] at z
    exact n32_nn (by omega) z
  · rintro rfl; decide
theorem waysOf_L31 {v2 : Int32} {K : Int64 → hx_M → Prop} {K1 : Int32 → hx_M → Prop} (hc : CW 0 a μ) (wf : WF 300 a) (hh : h < 4) (k : ∀ x : luT, x = luF a h a.1.2.1 ((0, 0), fun k => if k = 0 then 1 else 0) → ∀ m, WL 38 13 x.2 μ m → K1 (Int32.ofNat x.1.2) m) : ∀ (c : Nat) (x : luT) (m : hx_M), c ≤ a.1.2.1 → x.1.1 ≤ 12 → luF a h a.1.2.1 ((0, 0), fun k => if k = 0 then 1 else 0) = luF a h c x → WL 38 13 x.2 μ m → wX8_waysOf_L31 Λ (Int32.ofNat h) v2 K K1 (c + 1) (Int32.ofNat x.1.1) (Int32.ofNat x.1.2) (Int32.ofNat c - 1) m := by
  have hs := wf.s
  intro c
  induction c with
  | zero =>
    intro x m hca hx he hw
    unfold wX8_waysOf_L31
    exact selT (by decide) (k x he.symm m hw)
  | succ c ih =>
    intro x m hca hx he hw
    unfold wX8_waysOf_L31
    conv at he => rhs; unfold luF
    have hc1 : CW 0 a m := hc.wl hw.1 hw.2.1
    refine selF (fun z => by have := (lu_neg (by omega)).mp z; omega) ?_
    by_cases c12 : 12 ≤ x.1.1
    · rw [if_pos c12] at he
      exact selT ((n32_le (a := 12) (by omega) (by omega)).mpr c12) (k x he.symm m hw)
    · rw [if_neg c12] at he
      refine selF (fun z => c12 ((n32_le (a := 12) (by omega) (by omega)).mp z)) ?_
      rw [n32_sub1 (by omega), Nat.add_sub_cancel]
      refine shownC hc1 wf (by omega) hh ?_
      unfold wX8_waysOf_J81 wX8_waysOf_J72 wX8_waysOf_J81_10
      by_cases c2 : sh_B a h c = true
      · rw [if_pos c2] at he
        rw [c2]
        refine sel1 (followC hc1 wf (by omega) hh ?_)
        have go : ∀ (t : Nat), t = (if fo_B a h c = true then 1 else 0) → wX8_chooseIn m (Int32.ofNat c) (fun m78 => wX8_waysOf_L31 Λ (Int32.ofNat h) v2 K K1 (c + 1) (Int32.ofNat x.1.1 + 1) (Int32.ofNat x.1.2 + Int32.ofNat t) (Int32.ofNat c + -1) m78) := by
          intro t et
          refine chooseC hc1 wf (by omega) hw (fun m' hw' => ?_)
          rw [n32_add1, n32_add, m1i, et]
          exact ih ((x.1.1 + 1, x.1.2 + (if fo_B a h c = true then 1 else 0)), wy x.2 (itN (lk_s a c) 0 4 (0, 0)).1 (itN (lk_s a c) 0 4 (0, 0)).2) m' (by omega) (by show x.1.1 + 1 ≤ 12; omega) he hw'
        by_cases c3 : fo_B a h c = true
        · rw [c3]
          exact sel1 (go 1 (by rw [if_pos c3]))
        · have e3 : fo_B a h c = false := by simpa using c3
          rw [e3]
          exact sel0 (go 0 (by rw [if_neg c3]))
      · rw [if_neg c2] at he
        have e2 : sh_B a h c = false := by simpa using c2
        rw [e2, m1i]
        exact sel0 (ih x m (by omega) hx he hw)
theorem waysOf_L102 {K : Int64 → hx_M → Prop} {w : Nat → Int64} (hw : ∀ k, k < 13 → m.2 38 k = w k) : ∀ (r i : Nat) (acc : Int64), i + r = 13 → K (sumL w r i acc) m → wX8_waysOf_L102 Λ m K (r + 1) acc (Int32.ofNat i) := by
  intro r
  induction r with
  | zero =>
    intro i acc e k
    obtain rfl : i = 13 := by omega
    unfold wX8_waysOf_L102
    exact selT (by decide) k
  | succ r ih =>
    intro i acc e k
    unfold wX8_waysOf_L102
    rw [n32_nat (by omega), hw i (by omega), n32_add1]
    exact selF (fun z => by have := (n32_lt (a := 12) (by omega) (by omega)).mp z; omega) ⟨n32_in (by omega) (by omega), ih (i + 1) _ (by omega) k⟩
theorem luck_L248 {K : Int64 → hx_M → Prop} {w : Nat → Int64} (hw : ∀ k, k < 13 → m.2 80 k = w k) : ∀ (r i : Nat) (acc : Int64), i + r = 13 → K (sumL w r i acc) m → wX12_luck_L248 m K (r + 1) acc (Int32.ofNat i) := by
  intro r
  induction r with
  | zero =>
    intro i acc e k
    obtain rfl : i = 13 := by omega
    unfold wX12_luck_L248
    exact selT (by decide) k
  | succ r ih =>
    intro i acc e k
    unfold wX12_luck_L248
    rw [n32_nat (by omega), hw i (by omega), n32_add1]
    exact selF (fun z => by have := (n32_le (a := 13) (by omega) (by omega)).mp z; omega) ⟨n32_in (by omega) (by omega), ih (i + 1) _ (by omega) k⟩
theorem luck_L24 {v1 v2 : Int32} {K : Int64 → hx_M → Prop} {K1 : hx_M → Prop} (k : ∀ m, WL 80 13 (fun k => if k = 0 then 1 else 0) μ m → K1 m) : ∀ (r i : Nat) (m : hx_M), i + r = 13 → m.1 = μ.1 → (∀ k, k ≠ 80 → m.2 k = μ.2 k) → (∀ k, k < i → m.2 80 k = if k = 0 then 1 else 0) → wX12_luck_L24 v1 v2 K K1 (r + 1) (Int32.ofNat i) m := by
  intro r
  induction r with
  | zero =>
    intro i m e h1 h2 h3
    obtain rfl : i = 13 := by omega
    unfold wX12_luck_L24
    exact selT (by decide) (k m ⟨h1, h2, h3⟩)
  | succ r ih =>
    intro i m e h1 h2 h3
    unfold wX12_luck_L24 wX12_luck_J44
    rw [n32_nat (by omega), n32_add1]
    have go : ∀ v : Int64, v = (if i = 0 then 1 else 0) → vp_in (Int32.ofNat i) 13 ∧ wX12_luck_L24 v1 v2 K K1 (r + 1) (Int32.ofNat (i + 1)) (hx_sL m 80 i v) := by
      intro v hv
      refine ⟨n32_in (by omega) (by omega), ih (i + 1) _ (by omega) h1 (fun k hk => ?_) (fun k hk => ?_)⟩
      · rw [← h2 k hk]
        funext j
        rw [hm_sLv, if_neg (fun z => hk z.1)]
      · rw [hm_sLv]
        by_cases e : k = i
        · rw [if_pos ⟨rfl, e⟩, hv, e]
        · rw [if_neg (fun z => e z.2)]; exact h3 k (by omega)
    refine selF (fun z => by have := (n32_le (a := 13) (by omega) (by omega)).mp z; omega) ⟨fun z => go 0 ?_, fun z => go 1 ?_⟩
    · rw [if_neg (fun z2 => z (by rw [z2]; rfl))]
    · rw [if_pos ((n32_eq (b := 0) (by omega) (by omega)).mp z)]
theorem luck_L64 {v2 : Int32} {K : Int64 → hx_M → Prop} {K1 : Int32 → Int32 → hx_M → Prop} (hc : MW a μ) (wf : WF 300 a) (hh : h < 4) (k : ∀ x : luT, x = luF a h a.1.2.1 ((0, 0), fun k => if k = 0 then 1 else 0) → ∀ m, WL 80 13 x.2 μ m → K1 (Int32.ofNat x.1.1) (Int32.ofNat x.1.2) m) : ∀ (c : Nat) (x : luT) (m : hx_M), c ≤ a.1.2.1 → x.1.1 ≤ 12 → luF a h a.1.2.1 ((0, 0), fun k => if k = 0 then 1 else 0) = luF a h c x → WL 80 13 x.2 μ m → wX12_luck_L64 (Int32.ofNat h) v2 K K1 (c + 1) (Int32.ofNat x.1.1) (Int32.ofNat x.1.2) (Int32.ofNat c - 1) m := by
  have hs := wf.s
  intro c
  induction c with
  | zero =>
    intro x m hca hx he hw
    unfold wX12_luck_L64
    exact selT (by decide) (k x he.symm m hw)
  | succ c ih =>
    intro x m hca hx he hw
    unfold wX12_luck_L64
    conv at he => rhs; unfold luF
    have hc1 : MW a m := hc.wl hw.1 hw.2.1 (by omega)
    refine selF (fun z => by have := (lu_neg (by omega)).mp z; omega) ?_
    by_cases c12 : 12 ≤ x.1.1
    · rw [if_pos c12] at he
      exact selT ((n32_le (a := 12) (by omega) (by omega)).mpr c12) (k x he.symm m hw)
    · rw [if_neg c12] at he
      refine selF (fun z => c12 ((n32_le (a := 12) (by omega) (by omega)).mp z)) ?_
      rw [n32_sub1 (by omega), Nat.add_sub_cancel]
      unfold wX12_luck_J219
      refine houseM hc1 wf (by omega) hh ⟨fun z => ?_, fun z => ?_⟩
      · have c2 := shown_yes (a := a) (h := h) (s := c) z
        rw [if_pos c2] at he
        refine followM hc1 wf (by omega) hh c2 ?_
        have go : ∀ (t : Nat), t = (if fo_B a h c = true then 1 else 0) → ∃ n116, wX12_luck_L116 m (Int32.ofNat h) v2 (Int32.ofNat x.1.1 + 1) (Int32.ofNat x.1.2 + Int32.ofNat t) (Int32.ofNat c) K (fun v6 v7 => ∃ n167, wX12_luck_L167 (Int32.ofNat h) v2 (Int32.ofNat x.1.1 + 1) (Int32.ofNat x.1.2 + Int32.ofNat t) (Int32.ofNat c) v6 v7 K (fun m_23 => wX12_luck_L64 (Int32.ofNat h) v2 K K1 (c + 1) (Int32.ofNat x.1.1 + 1) (Int32.ofNat x.1.2 + Int32.ofNat t) (Int32.ofNat c + (-1)) m_23) n167 12 m) n116 0 0 0 := by
          intro t et
          refine ⟨5, luck_L116 hc1 wf (by omega) 4 0 (0, 0) (by omega) ⟨14, ?_⟩⟩
          refine luck_L167 (μ := μ) (w := x.2) (fun m' hw' => ?_) 13 m (Nat.le_refl _) (hw.to fun i hi => by rw [if_neg (by omega)])
          rw [n32_add1, n32_add, m1i, et]
          exact ih ((x.1.1 + 1, x.1.2 + (if fo_B a h c = true then 1 else 0)), wy x.2 (itN (lk_s a c) 0 4 (0, 0)).1 (itN (lk_s a c) 0 4 (0, 0)).2) m' (by omega) (by show x.1.1 + 1 ≤ 12; omega) he hw'
        by_cases c3 : fo_B a h c = true
        · rw [c3]
          exact one_1 (go 1 (by rw [if_pos c3]))
        · have e3 : fo_B a h c = false := by simpa using c3
          rw [e3]
          exact one_0 (go 0 (by rw [if_neg c3]))
      · have c2 := shown_no (a := a) (h := h) (s := c) z
        rw [if_neg (by rw [c2]; simp)] at he
        rw [m1i]
        exact ih x m (by omega) hx he hw
theorem lu_own : ∀ (c : Nat) (x : luT), x.1.1 ≤ 12 → x.1.2 ≤ x.1.1 → (luF a h c x).1.2 ≤ (luF a h c x).1.1 ∧ (luF a h c x).1.1 ≤ 12
  | 0, x, h1, h2 => ⟨h2, h1⟩
  | c + 1, x, h1, h2 => by
    unfold luF
    by_cases c12 : 12 ≤ x.1.1
    · rw [if_pos c12]; exact ⟨h2, h1⟩
    · rw [if_neg c12]
      by_cases c2 : sh_B a h c = true
      · rw [if_pos c2]
        refine lu_own c _ (by show x.1.1 + 1 ≤ 12; omega) ?_
        show x.1.2 + (if fo_B a h c = true then 1 else 0) ≤ x.1.1 + 1
        split <;> omega
      · rw [if_neg c2]; exact lu_own c x h1 h2
theorem lu_0 : ∀ (c : Nat) (x : luT), (luF a h c x).1.1 = 0 ↔ (x.1.1 = 0 ∧ ∀ t, t < c → sh_B a h t = false)
  | 0, x => ⟨fun z => ⟨z, fun t ht => by omega⟩, fun z => z.1⟩
  | c + 1, x => by
    unfold luF
    by_cases c12 : 12 ≤ x.1.1
    · rw [if_pos c12]
      exact ⟨fun z => by omega, fun z => z.1⟩
    · rw [if_neg c12]
      by_cases c2 : sh_B a h c = true
      · rw [if_pos c2, lu_0 c]
        refine ⟨fun z => ?_, fun z => ?_⟩
        · have : x.1.1 + 1 = 0 := z.1
          omega
        · have := z.2 c (by omega)
          rw [c2] at this
          simp at this
      · have e2 : sh_B a h c = false := by simpa using c2
        rw [if_neg c2, lu_0 c]
        refine ⟨fun z => ⟨z.1, fun t ht => ?_⟩, fun z => ⟨z.1, fun t ht => z.2 t (by omega)⟩⟩
        by_cases e : t = c
        · rw [e]; exact e2
        · exact z.2 t (by omega)
theorem sumB_nat (f : Nat → Bool) : ∀ r i, ∃ k : Nat, sumR (fun s => bI (f s)) i r = Int32.ofNat k ∧ k ≤ r ∧ (k = 0 ↔ ∀ t, i ≤ t → t < i + r → f t = false)
  | 0, i => ⟨0, rfl, Nat.le_refl _, fun _ t h1 h2 => by omega, fun _ => rfl⟩
  | r + 1, i => by
    obtain ⟨k, e, hk, hz⟩ := sumB_nat f r (i + 1)
    have es : sumR (fun s => bI (f s)) i (r + 1) = bI (f i) + sumR (fun s => bI (f s)) (i + 1) r := rfl
    rw [es, e]
    cases hf : f i
    · refine ⟨k, ?_, by omega, ?_⟩
      · show (0 : Int32) + _ = _
        rw [Int32.zero_add]
      · rw [hz]
        refine ⟨fun z t h1 h2 => ?_, fun z t h1 h2 => z t (by omega) (by omega)⟩
        by_cases e : t = i
        · rw [e]; exact hf
        · exact z t (by omega) (by omega)
    · refine ⟨1 + k, ?_, by omega, ?_⟩
      · show (1 : Int32) + _ = _
        rw [← n32_add]; rfl
      · refine ⟨fun z => by omega, fun z => ?_⟩
        have := z i (Nat.le_refl _) (by omega)
        rw [hf] at this
        simp at this
end LV
theorem op_luck (Λ : hx_L) (μ : hx_M) (a1 a2 : Int32) (h : hI Λ μ) : wL_21 Λ μ a1 a2 hI := by
  obtain ⟨hF, hM, h15, a, ls, fo, is, w, hc, hm, ht, hl, hi⟩ := id h
  have hs := w.s
  unfold wL_21 wX11_luck
  by_cases h1 : 0 ≤ a1 ∧ a1 ≤ 3
  · obtain ⟨i, rfl, hi3⟩ := n32_of (hi := 3) h1.1 h1.2 (by omega)
    by_cases h2 : 0 ≤ a2 ∧ a2 ≤ 1
    · obtain ⟨q, rfl, hq⟩ := n32_of (hi := 1) h2.1 h2.2 (by omega)
      refine t_isHouseY h1 (sel1 (t_withinY h2 (sel1 ?_)))
      obtain ⟨nk, ek, hnk, hz⟩ := sumB_nat (fun s => sh_B a i s) a.1.2.1 0
      have hseen : (luF a i a.1.2.1 ((0, 0), fun k => if k = 0 then 1 else 0)).1.1 = 0 ↔ nk = 0 := by
        rw [lu_0, hz]
        exact ⟨fun z t _ h2 => z.2 t (by omega), fun z => ⟨rfl, fun t ht => z t (by omega) (by omega)⟩⟩
      have hown := lu_own (a := a) (h := i) a.1.2.1 ((0, 0), fun k => if k = 0 then 1 else 0) (by show 0 ≤ 12; omega) (Nat.le_refl _)
      have ref : ∀ (m1 : hx_M) (v : Int64), keepC μ m1 → CW 0 a m1 → (v = if nk = 0 then -1 else sumL (luF a i a.1.2.1 ((0, 0), fun k => if k = 0 then 1 else 0)).2 (13 - (if q = 0 then (luF a i a.1.2.1 ((0, 0), fun k => if k = 0 then 1 else 0)).1.2 else 0)) (if q = 0 then (luF a i a.1.2.1 ((0, 0), fun k => if k = 0 then 1 else 0)).1.2 else 0) 0) → wX12_luck m1 (Int32.ofNat i) (Int32.ofNat q) (fun q m => v = q ∧ hI Λ m) := by
        intro m1 v k1 c1 hv
        have hm1 : MW a m1 := hm.kC k1
        unfold wX12_luck
        refine t_isInY h1 (sel1 (t_isInY h2 (seln1 ⟨14, luck_L24 (μ := m1) (fun m2 w2 => ?_) 13 0 m1 (by omega) rfl (fun _ _ => rfl) (fun k hk => by omega)⟩)))
        have hm2 : MW a m2 := hm1.wl w2.1 w2.2.1 (by omega)
        rw [hm2.s]
        refine ⟨a.1.2.1 + 1, luck_L64 (μ := m1) hm1 w.up (by omega) (fun x hx m3 w3 => ?_) a.1.2.1 ((0, 0), fun k => if k = 0 then 1 else 0) m2 (Nat.le_refl _) (by show 0 ≤ 12; omega) rfl w2⟩
        have k3 : keepM m1 m3 := ⟨fun k hk => ⟨by rw [w3.1], w3.2.1 k (by omega)⟩, fun j _ => by rw [w3.1]⟩
        have fin : hI Λ m3 := hI.q (a := a) hF hM h15 ht hl hi k1 k3 w (c1.kM k3) (hm1.wl w3.1 w3.2.1 (by omega))
        unfold wX12_luck_J225 wX12_luck_J246
        rw [← hx] at hv hseen hown
        refine ⟨fun z => ?_, fun z => ?_⟩
        · have hnk0 : ¬ nk = 0 := fun z2 => z (by rw [hseen.mpr z2]; rfl)
          rw [if_neg hnk0] at hv
          refine ⟨fun z2 => ⟨14, luck_L248 w3.2.2 13 0 0 (by omega) ⟨?_, fin⟩⟩, fun z2 => ⟨(13 - x.1.2) + 1, luck_L248 w3.2.2 (13 - x.1.2) x.1.2 0 (by omega) ⟨?_, fin⟩⟩⟩
          · have hq0 : ¬ q = 0 := fun z3 => z2 (by rw [z3]; rfl)
            rw [hv, if_neg hq0]
          · have hq0 : q = 0 := (n32_eq (b := 0) (by omega) (by omega)).mp z2
            rw [hv, if_pos hq0]
        · have hnk0 : nk = 0 := hseen.mp ((n32_eq (b := 0) (by omega) (by omega)).mp z)
          rw [if_pos hnk0] at hv
          exact ⟨hv, fin⟩
      unfold wX8_shownSeasons
      refine ⟨_, shown_L4 hc w.up (by omega) a.1.2.1 0 0 (by omega) ?_⟩
      rw [ek, Int32.zero_add]
      refine ⟨fun z => ?_, fun z => ?_⟩
      · have hnk0 : ¬ nk = 0 := fun z2 => z (by rw [z2]; rfl)
        unfold wX11_luck_J46
        have go : ∀ t2 : Int32, (t2 = 0 ↔ q = 0) → wX8_waysOf Λ μ (Int32.ofNat i) t2 (fun r46 m46 => wX12_luck m46 (Int32.ofNat i) (Int32.ofNat q) (fun q m => r46 = q ∧ hI Λ m)) := by
          intro t2 ht2
          have z0 : (0 : Int32).toNatClampNeg = 0 := rfl
          unfold wX8_waysOf
          refine fillL (cF_S38 hF) (by omega) (fun m1 w1 => ⟨by unfold vp_in; decide, ?_⟩)
          rw [z0]
          have e7 : m1.1 7 7 = Int32.ofNat a.1.2.1 := by rw [w1.1]; exact hc.s
          rw [e7]
          refine ⟨a.1.2.1 + 1, waysOf_L31 (μ := μ) hc w.up (by omega) (fun x hx m2 w2 => ?_) a.1.2.1 ((0, 0), fun k => if k = 0 then 1 else 0) _ (Nat.le_refl _) (by show 0 ≤ 12; omega) rfl (w1.set 0 1)⟩
          have k2 : keepC μ m2 := fun k hk => ⟨by rw [w2.1], w2.2.1 k (by omega)⟩
          have c2 := hc.wl w2.1 w2.2.1
          unfold wX8_waysOf_J87 wX8_waysOf_J100
          have hx' := hx
          rw [← hx] at ref hown
          refine ⟨fun z3 => ⟨(13 - x.1.2) + 1, waysOf_L102 w2.2.2 (13 - x.1.2) x.1.2 0 (by omega) (ref m2 _ k2 c2 ?_)⟩, fun z3 => ⟨14, waysOf_L102 w2.2.2 13 0 0 (by omega) (ref m2 _ k2 c2 ?_)⟩⟩
          · rw [if_neg hnk0, if_pos (ht2.mp z3)]
          · rw [if_neg hnk0, if_neg (fun z4 => z3 (ht2.mpr z4))]
        refine ⟨fun z2 => go 0 ⟨fun _ => ?_, fun _ => rfl⟩, fun z2 => go 1 ⟨fun z3 => absurd z3 (by decide), fun z3 => ?_⟩⟩
        · have : ¬ q = 1 := fun z3 => z2 (by rw [z3]; rfl)
          omega
        · have := (n32_eq (b := 1) (by omega) (by omega)).mp z2
          omega
      · have hnk0 : nk = 0 := (n32_eq (b := 0) (by omega) (by omega)).mp z
        exact ref μ _ keepC.rf hc (by rw [if_pos hnk0])
    · refine t_isHouseY h1 (sel1 (t_withinN h2 (sel0 ?_)))
      unfold wX12_luck
      exact t_isInY h1 (sel1 (t_isInN h2 (seln0 ⟨rfl, h⟩)))
  · refine t_isHouseN h1 (sel0 ?_)
    unfold wX12_luck
    exact t_isInN h1 (sel0 ⟨rfl, h⟩)
