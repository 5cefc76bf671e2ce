/-! layer 2: the reference's isTrue -/
def pil (m : hx_M) : List Bool → Prop
  | [] => True
  | x :: r => m.1 73 r.length = (if x then 1 else 0) ∧ pil m r
theorem pil_up {m : hx_M} {v : Int32} : ∀ {b : List Bool} {j : Nat}, pil m b → b.length ≤ j → pil (hx_sI m 73 j v) b
  | [], _, _, _ => trivial
  | x :: r, j, h, hj => by
    simp only [List.length_cons] at hj
    exact ⟨by rw [hm_sI, if_neg (by omega)]; exact h.1, pil_up h.2 (by omega)⟩
theorem sI73 {m : hx_M} {j k : Nat} {v : Int32} (h : k ≠ 73) : (hx_sI m 73 j v).1 k = m.1 k := by
  show (if k = 73 then _ else m.1 k) = _
  rw [if_neg h]
theorem n32_sub1 {n : Nat} (h : 0 < n) : Int32.ofNat n - 1 = Int32.ofNat (n - 1) := by
  obtain ⟨k, rfl⟩ : ∃ k, n = k + 1 := ⟨n - 1, by omega⟩
  rw [← n32_add1, Int32.add_sub_cancel]; rfl
theorem n32_addm1 {n : Nat} (h : 0 < n) : Int32.ofNat n + (-1) = Int32.ofNat (n - 1) := by
  rw [← n32_sub1 h, Int32.sub_eq_add_neg]
theorem isTrue_L5 {μ : hx_M} {fr sm : Nat} {K : Int32 → hx_M → Prop} {ans : Nat → Int32} (hfr : sm ≤ 4200) : ∀ (st : List hl_S) (b : List Bool) (i : Nat) (m : hx_M), i + st.length = fr → fr ≤ sm → b.length ≤ 20 → hl_okS b.length st → (∀ q s, st[q]? = some s → μ.1 70 (i + q) = Int32.ofNat s.1 ∧ μ.1 71 (i + q) = Int32.ofNat s.2.1 ∧ μ.1 72 (i + q) = Int32.ofNat s.2.2) → (∀ k, k ≠ 73 → m.1 k = μ.1 k) → m.2 = μ.2 → (∀ q, q < 12 → μ.1 77 q = ans q) → pil m b →
    (∀ m', (∀ k, k ≠ 73 → m'.1 k = μ.1 k) → m'.2 = μ.2 → ∀ v, evL ans b st = [v] → K (if v then 1 else 0) m') → wX12_isTrue_L5 (Int32.ofNat fr) K (st.length + 1) (Int32.ofNat b.length) (Int32.ofNat i) m := by
  intro st
  induction st with
  | nil =>
    intro b i m e hf hb hok hst h1 h2 ha hp k
    simp at e
    subst e
    unfold wX12_isTrue_L5
    match b, hok, hp with
    | [v], _, hp =>
      have e0 : m.1 73 0 = (if v then 1 else 0) := hp.1
      refine selT (Int32.le_refl _) ⟨by unfold vp_in; decide, ?_, ?_⟩
      · rw [show (0 : Int32).toNatClampNeg = 0 from rfl, e0]
        cases v <;> simp
      · rw [show (0 : Int32).toNatClampNeg = 0 from rfl, e0]
        exact k m h1 h2 v rfl
  | cons s r ih =>
    intro b i m e hf hb hok hst h1 h2 ha hp k
    simp only [List.length_cons] at e ⊢
    obtain ⟨s0, s1, s2⟩ := hst 0 s rfl
    simp only [Nat.add_zero] at s0 s1 s2
    have hst' : ∀ q s', r[q]? = some s' → μ.1 70 (i + 1 + q) = Int32.ofNat s'.1 ∧ μ.1 71 (i + 1 + q) = Int32.ofNat s'.2.1 ∧ μ.1 72 (i + 1 + q) = Int32.ofNat s'.2.2 := fun q s' h => by
      have := hst (q + 1) s' (by simpa using h)
      rwa [show i + (q + 1) = i + 1 + q by omega] at this
    have vi : vp_in (Int32.ofNat i) 4200 := n32_in (by omega) (by omega)
    have fin : ∀ (b' : List Bool) (j : Nat) (v : Bool), ev1 ans b s = v :: b' → b'.length = j → j < 20 → pil m b' → hl_okS (j + 1) r → wX12_isTrue_L5 (Int32.ofNat fr) K (r.length + 1) (Int32.ofNat (j + 1)) (Int32.ofNat (i + 1)) (hx_sI m 73 j (if v then 1 else 0)) := by
      intro b' j v hev hj hj20 hp' hok'
      subst hj
      refine ih (v :: b') (i + 1) _ (by omega) hf (by simp; omega) hok' hst' (fun q hq => by rw [sI73 hq]; exact h1 q hq) h2 ha ⟨by rw [hm_sI, if_pos ⟨rfl, rfl⟩], pil_up hp' (Nat.le_refl _)⟩ (fun m' a1 a2 v' hv' => k m' a1 a2 v' ?_)
      unfold evL
      rw [hev]
      exact hv'
    unfold wX12_isTrue_L5
    refine selF (fun z => by have := (n32_le (by omega) (by omega)).mp z; omega) ⟨vi, ?_⟩
    rw [n32_nat (by omega), h1 70 (by omega), h1 71 (by omega), h1 72 (by omega), h1 77 (by omega), s0, s1, s2]
    unfold hl_okS at hok
    rcases hok with ⟨g1, g2, g3, g4, g5⟩ | ⟨g1, g2, g3⟩ | ⟨g1, g2, g3⟩
    · have ev := ev1_cmp (ans := ans) (b := b) g1
      refine selF (fun z => by have := (n32_lt (a := 2) (by omega) (by omega)).mp z; omega) ⟨vi, n32_in (by omega) (by omega), ?_⟩
      rintro x rfl
      rw [n32_nat (by omega), ha _ g2]
      have w0 : ∀ c : Bool, ev1 ans b s = c :: b → ∀ v : Int32, v = (if c then 1 else 0) → wX12_isTrue_J119 K (wX12_isTrue_L5 (Int32.ofNat fr) K (r.length + 1)) (Int32.ofNat fr) (Int32.ofNat b.length) (Int32.ofNat i) (Int32.ofNat b.length) v m := by
        intro c hc v hv
        unfold wX12_isTrue_J119 wX12_isTrue_J239_26
        refine ⟨n32_in (by omega) (by omega), ?_⟩
        have hnar : vp_nar .boolean v = (if c then 1 else 0) := by rw [hv]; cases c <;> rfl
        rw [hnar, n32_nat (by omega), n32_add1, n32_add1]
        exact fin b b.length c hc rfl g4 hp g5
      have : s.1 = 0 ∨ s.1 = 1 ∨ s.1 = 2 := by omega
      refine ⟨vi, ?_⟩
      rcases this with e0 | e0 | e0
      · rw [e0]
        refine selE rfl ⟨vi, fun z => w0 false ?_ 0 rfl, fun z => w0 true ?_ 1 rfl⟩
        · rw [ev, decide_eq_false]; simp [e0, Int32.not_lt.mpr z]
        · rw [ev, decide_eq_true]; simp [e0, Int32.not_le.mp z]
      · rw [e0]
        refine selN (by decide) ⟨vi, selE rfl ⟨vi, fun z => w0 false ?_ 0 rfl, fun z => w0 true ?_ 1 rfl⟩⟩
        · rw [ev, decide_eq_false]; simp [e0, Int32.not_lt.mpr z]
        · rw [ev, decide_eq_true]; simp [e0, Int32.not_le.mp z]
      · rw [e0]
        refine selN (by decide) ⟨vi, selN (by decide) ⟨vi, fun z => w0 false ?_ 0 rfl, fun z => w0 true ?_ 1 rfl⟩⟩
        · rw [ev, decide_eq_false]; simp [e0, z]
        · rw [ev, decide_eq_true]; simp [e0, z]
    · match b, hb, g2, g3, hp, fin, k with
      | x :: y :: r', hb, _, g3, hp, fin, k =>
        simp only [List.length_cons] at hb g3 fin ⊢
        obtain ⟨p1, p2, p3⟩ := hp
        simp only [List.length_cons] at p1
        have e1 : Int32.ofNat (r'.length + 1 + 1) + (-1) = Int32.ofNat (r'.length + 1) := n32_addm1 (by omega)
        have e2 : Int32.ofNat (r'.length + 1) - 1 = Int32.ofNat r'.length := n32_sub1 (by omega)
        rw [e1, e2, n32_nat (by omega), n32_nat (by omega), p1, p2]
        have v1 : vp_in (Int32.ofNat (r'.length + 1)) 64 := n32_in (by omega) (by omega)
        have v2 : vp_in (Int32.ofNat r'.length) 64 := n32_in (by omega) (by omega)
        have b0 : vp_nar .boolean 0 = 0 := rfl
        have b1 : vp_nar .boolean 1 = 1 := rfl
        rcases g1 with e0 | e0
        · have hev : ev1 ans (x :: y :: r') s = (y || x) :: r' := by simp [ev1, e0]
          have fn := fin r' r'.length (y || x) hev rfl (by omega) p3 g3
          rw [e0]
          refine selT (by decide) ⟨vi, selN (by decide) ⟨vi, selE rfl ⟨v2, ?_⟩⟩⟩
          have f1 : (y || x) = true → wX12_isTrue_J205 K (wX12_isTrue_L5 (Int32.ofNat fr) K (r.length + 1)) (Int32.ofNat fr) (Int32.ofNat (r'.length + 1)) (Int32.ofNat i) (Int32.ofNat r'.length) m := by
            intro hx
            unfold wX12_isTrue_J205 wX12_isTrue_J238_12 wX12_isTrue_J239_14
            rw [hx] at fn
            rw [n32_nat (by omega), b1, n32_add1]
            exact ⟨v2, fn⟩
          have f0 : (y || x) = false → wX12_isTrue_J238_8 K (wX12_isTrue_L5 (Int32.ofNat fr) K (r.length + 1)) (Int32.ofNat fr) (Int32.ofNat (r'.length + 1)) (Int32.ofNat i) (Int32.ofNat r'.length) 0 m := by
            intro hx
            unfold wX12_isTrue_J238_8 wX12_isTrue_J239_10
            rw [hx] at fn
            rw [n32_nat (by omega), b0, n32_add1]
            exact ⟨v2, fn⟩
          cases y
          · refine selE rfl ⟨v1, ?_⟩
            cases x
            · exact selT rfl (f0 rfl)
            · exact selF (by decide) (f1 rfl)
          · exact selN (by decide) (f1 rfl)
        · have hev : ev1 ans (x :: y :: r') s = (y && x) :: r' := by simp [ev1, e0]
          have fn := fin r' r'.length (y && x) hev rfl (by omega) p3 g3
          rw [e0]
          refine selT (by decide) ⟨vi, selN (by decide) ⟨vi, selN (by decide) ⟨v2, ?_⟩⟩⟩
          have f0 : (y && x) = false → wX12_isTrue_J237 K (wX12_isTrue_L5 (Int32.ofNat fr) K (r.length + 1)) (Int32.ofNat fr) (Int32.ofNat (r'.length + 1)) (Int32.ofNat i) (Int32.ofNat r'.length) m := by
            intro hx
            unfold wX12_isTrue_J237 wX12_isTrue_J238 wX12_isTrue_J239
            rw [hx] at fn
            rw [n32_nat (by omega), b0, n32_add1]
            exact ⟨v2, fn⟩
          have f1 : (y && x) = true → wX12_isTrue_J238_8 K (wX12_isTrue_L5 (Int32.ofNat fr) K (r.length + 1)) (Int32.ofNat fr) (Int32.ofNat (r'.length + 1)) (Int32.ofNat i) (Int32.ofNat r'.length) 1 m := by
            intro hx
            unfold wX12_isTrue_J238_8 wX12_isTrue_J239_10
            rw [hx] at fn
            rw [n32_nat (by omega), b1, n32_add1]
            exact ⟨v2, fn⟩
          cases y
          · exact selT rfl (f0 rfl)
          · refine selF (by decide) ⟨v1, ?_⟩
            cases x
            · exact selT rfl (f0 rfl)
            · exact selF (by decide) (f1 rfl)
    · match b, hb, g2, g3, hp, fin, k with
      | x :: r', hb, _, g3, hp, fin, k =>
        simp only [List.length_cons] at hb g3 fin ⊢
        obtain ⟨p1, p3⟩ := hp
        have e2 : Int32.ofNat (r'.length + 1) - 1 = Int32.ofNat r'.length := n32_sub1 (by omega)
        rw [e2, n32_nat (by omega), p1]
        have v2 : vp_in (Int32.ofNat r'.length) 64 := n32_in (by omega) (by omega)
        have b0 : vp_nar .boolean 0 = 0 := rfl
        have b1 : vp_nar .boolean 1 = 1 := rfl
        have hev : ev1 ans (x :: r') s = (!x) :: r' := by simp [ev1, g1]
        have fn := fin r' r'.length (!x) hev rfl (by omega) p3 g3
        rw [g1]
        refine selT (by decide) ⟨vi, selE rfl ⟨v2, ?_⟩⟩
        cases x
        · refine selE rfl ?_
          unfold wX12_isTrue_J160 wX12_isTrue_J239_18
          rw [n32_nat (by omega), b1, n32_add1]
          exact ⟨v2, fn⟩
        · refine selN (by decide) ?_
          unfold wX12_isTrue_J160 wX12_isTrue_J239_18
          rw [n32_nat (by omega), b0, n32_add1]
          exact ⟨v2, fn⟩
