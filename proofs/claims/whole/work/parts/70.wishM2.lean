/-! layer 2: what a person wants: the reference, its rules -/
theorem t_isTrue {μ m : hx_M} {fr sm : Nat} {st : List hl_S} {K : Int32 → hx_M → Prop} {ans : Nat → Int32} (hsm : sm ≤ 4200) (hf : fr + st.length ≤ sm) (hok : hl_okS 0 st) (hst : ∀ q s, st[q]? = some s → μ.1 70 (fr + q) = Int32.ofNat s.1 ∧ μ.1 71 (fr + q) = Int32.ofNat s.2.1 ∧ μ.1 72 (fr + q) = Int32.ofNat s.2.2) (h1 : ∀ k, k ≠ 73 → m.1 k = μ.1 k) (h2 : m.2 = μ.2) (ha : ∀ q, q < 12 → μ.1 77 q = ans q)
    (k : ∀ m', (∀ k, k ≠ 73 → m'.1 k = μ.1 k) → m'.2 = μ.2 → K (b01 (hl_holds ans st = true)) m') : wX12_isTrue m (Int32.ofNat fr) (Int32.ofNat (fr + st.length)) K := by
  unfold wX12_isTrue
  refine ⟨_, isTrue_L5 hsm st [] fr m rfl hf (by simp) hok hst h1 h2 ha trivial (fun m' a1 a2 v hv => ?_)⟩
  have := k m' a1 a2
  rw [holds_one hv] at this
  unfold b01 at this
  exact this
theorem wants_L163 {a : hw_T} {m1 : hx_M} {p t f sm tot : Nat} {own : Int32} {K : Int32 → hx_M → Prop} {mn ans : Nat → Int32} (hm : MW a m1) (w : WF 300 a) (ht : t ≤ a.1.2.1) (hp : p < a.1.1) (hmn : ∀ w, w < 4 → m1.1 76 w = mn w) (ha : ∀ q, q < 12 → m1.1 77 q = ans q) (hf : f < 5) (htot : tot ≤ 16) (h63 : m1.1 63 f = Int32.ofNat tot) (hsm : sm ≤ 3500) (h45 : m1.1 49 45 = 2) :
    ∀ (rs : List hl_R) (j : Nat) (m : hx_M), j + rs.length = tot → hl_M m1 sm (16 * f + j) rs → (∀ r ∈ rs, hl_okR r) → (∀ k, k ≠ 73 → m.1 k = m1.1 k) → m.2 = m1.2 →
    (∀ m', offW m1 m' → m'.1 49 45 = Int32.ofNat (hl_wish ans mn (fun h => a.2.1 10 (4 * t + h)) (fun k => hw_old a k t) own rs).2 → K (hl_wish ans mn (fun h => a.2.1 10 (4 * t + h)) (fun k => hw_old a k t) own rs).1 m') → wX12_wants_L163 (Int32.ofNat f) (Int32.ofNat t) own K (rs.length + 1) (Int32.ofNat (16 * f + j)) m := by
  have hn := w.n
  have vf : vp_in (Int32.ofNat f) 6 := n32_in (by omega) (by omega)
  have e16 : 16 * Int32.ofNat f + Int32.ofNat tot = Int32.ofNat (16 * f + tot) := idxM
  have off : ∀ m : hx_M, (∀ k, k ≠ 73 → m.1 k = m1.1 k) → m.2 = m1.2 → offW m1 m := fun m h1 h2 => ⟨fun k _ b _ _ => h1 k b, fun j _ => by rw [h1 49 (by omega)], h2⟩
  intro rs
  induction rs with
  | nil =>
    intro j m e hM hok h1 h2 k
    simp at e
    subst e
    unfold wX12_wants_L163
    rw [n32_nat (by omega), h1 63 (by omega), h63, e16]
    exact ⟨vf, selT (Int32.le_refl _) (k m (off m h1 h2) (by rw [h1 49 (by omega), h45]; rfl))⟩
  | cons r rs ih =>
    intro j m e hM hok h1 h2 k
    simp only [List.length_cons] at e ⊢
    obtain ⟨c1, c2, ⟨fr, c3, c4, c5, c6⟩, c7⟩ := hM
    have hokr := hok r List.mem_cons_self
    have hr2 := hokr.1
    have v96 : vp_in (Int32.ofNat (16 * f + j)) 96 := n32_in (by omega) (by omega)
    have hnext : ∀ m' : hx_M, (∀ k, k ≠ 73 → m'.1 k = m1.1 k) → m'.2 = m1.2 → hl_wish ans mn (fun h => a.2.1 10 (4 * t + h)) (fun k => hw_old a k t) own (r :: rs) = hl_wish ans mn (fun h => a.2.1 10 (4 * t + h)) (fun k => hw_old a k t) own rs → wX12_wants_L163 (Int32.ofNat f) (Int32.ofNat t) own K (rs.length + 1) (Int32.ofNat (16 * f + j) + 1) m' := by
      intro m' a1 a2 a3
      rw [a3] at k
      rw [n32_add1]
      exact ih (j + 1) m' (by omega) c7 (fun r' hr' => hok r' (List.mem_cons_of_mem _ hr')) a1 a2 k
    have go : ∀ m' : hx_M, (∀ k, k ≠ 73 → m'.1 k = m1.1 k) → m'.2 = m1.2 → hl_holds ans r.2 = true → wX12_wants_J220 K (wX12_wants_L163 (Int32.ofNat f) (Int32.ofNat t) own K (rs.length + 1)) (Int32.ofNat f) (Int32.ofNat t) own (Int32.ofNat (16 * f + j)) m' := by
      intro m' a1 a2 g1
      unfold wX12_wants_J220
      rw [n32_nat (by omega), a1 64 (by omega), a1 67 (by omega), c1]
      refine ⟨v96, ?_⟩
      by_cases g2 : r.1.1 = 2
      · refine selE (by rw [g2]; rfl) ?_
        have hw : hl_wish ans mn (fun h => a.2.1 10 (4 * t + h)) (fun k => hw_old a k t) own (r :: rs) = (own, 2) := by
          simp only [hl_wish, g1, g2, if_true]
        rw [hw] at k
        exact k m' (off m' a1 a2) (by rw [a1 49 (by omega), h45]; rfl)
      · obtain ⟨d1, d2, d3⟩ := c2 g2
        have hw : hl_wish ans mn (fun h => a.2.1 10 (4 * t + h)) (fun k => hw_old a k t) own (r :: rs) = if hl_mean mn (fun h => a.2.1 10 (4 * t + h)) (fun k => hw_old a k t) r = -1 then hl_wish ans mn (fun h => a.2.1 10 (4 * t + h)) (fun k => hw_old a k t) own rs else (hl_goal r.1.1 own (hl_mean mn (fun h => a.2.1 10 (4 * t + h)) (fun k => hw_old a k t) r) (Int32.ofNat r.1.2.2.2), r.1.1) := by
          simp only [hl_wish, g1, if_true, if_neg g2]
        refine selN (fun z => g2 ((n32_eq (b := 2) (by omega) (by omega)).mp z)) ?_
        refine meanByM (μ := m') (mn := mn) (hm.oW (off m' a1 a2)) w ht (by omega) hokr (by omega) (by rw [a1 65 (by omega)]; exact d1) (by rw [a1 66 (by omega)]; exact d2) (fun w hw => by rw [a1 76 (by omega)]; exact hmn w hw) ?_
        rw [d3]
        by_cases g3 : hl_mean mn (fun h => a.2.1 10 (4 * t + h)) (fun k => hw_old a k t) r = -1
        · refine selE g3 ?_
          unfold wX12_wants_J375
          exact hnext m' a1 a2 (by rw [hw, if_pos g3])
        · refine selN g3 ?_
          rw [if_neg g3] at hw
          rw [hw] at k
          generalize hl_mean mn (fun h => a.2.1 10 (4 * t + h)) (fun k => hw_old a k t) r = mean at k ⊢
          have k' := k (hx_sI m' 49 45 (Int32.ofNat r.1.1)) (off m' a1 a2).s45 (by simp [hm_sI])
          refine ⟨v96, v96, ?_⟩
          simp only [hl_goal] at k'
          by_cases g4 : r.1.1 = 0
          · refine selE (by rw [g4]; rfl) ⟨fun z => ⟨v96, ?_⟩, fun z => ⟨v96, ?_⟩⟩
            · rintro x rfl
              rw [if_pos g4, if_pos z] at k'
              exact k'
            · rintro x rfl
              rw [if_pos g4, if_neg z] at k'
              exact k'
          · rw [if_neg g4] at k'
            refine selN (fun z => g4 ((n32_eq (b := 0) (by omega) (by omega)).mp z)) ?_
            rintro x rfl
            refine ⟨v96, fun z => ⟨fun z2 => ⟨v96, ?_⟩, fun z2 => ⟨v96, ?_⟩⟩, fun z => ?_⟩
            · rintro x rfl
              rw [if_neg (Int32.not_le.mpr z), if_pos z2] at k'
              exact k'
            · rintro x rfl
              rw [if_neg (Int32.not_le.mpr z), if_neg z2] at k'
              exact k'
            · rw [if_pos (Int32.not_lt.mp z)] at k'
              exact k'
    unfold wX12_wants_L163
    rw [n32_nat (by omega), n32_nat (by omega), h1 63 (by omega), h1 68 (by omega), h1 69 (by omega), h63, e16, c3, c4]
    refine ⟨vf, selF (fun z => by have := (n32_le (by omega) (by omega)).mp z; omega) ⟨v96, v96, ?_⟩⟩
    by_cases g0 : r.2 = []
    · refine selT ?_ (go m h1 h2 ?_)
      · rw [g0]; exact Int32.le_refl _
      · rw [g0]; rfl
    · have hlen : 0 < r.2.length := List.length_pos_iff.mpr g0
      have hokS : hl_okS 0 r.2 := hokr.2.2.2.2.2.2.2.resolve_left g0
      refine selF (fun z => by have := (n32_le (by omega) (by omega)).mp z; omega) ⟨v96, v96, ?_⟩
      refine t_isTrue (μ := m1) (ans := ans) (sm := sm) (by omega) c5 hokS c6 h1 h2 ha (fun m' a1 a2 => ?_)
      by_cases g1 : hl_holds ans r.2 = true
      · rw [b01_1 g1]
        exact seln1 (go m' a1 a2 g1)
      · rw [b01_0 g1]
        refine seln0 ?_
        unfold wX12_wants_J375_47
        exact hnext m' a1 a2 (by simp only [hl_wish, if_neg g1])
theorem wishM {a : hw_T} {μ : hx_M} {p t f sm : Nat} {l : List hl_R} {coin worn chance : Int32} {K : Int32 → hx_M → Prop} (hm : MW a μ) (w : WF 300 a) (ht : t ≤ a.1.2.1) (hp : p < a.1.1) (hf : f < 5) (hsm : sm ≤ 3500) (hl : hl_LM μ sm f l) (hl16 : l.length ≤ 16) (hok : ∀ r ∈ l, hl_okR r)
    (k : ∀ m, offW μ m → m.1 49 45 = Int32.ofNat (hw_wish a l p t coin worn chance).2 → K (hw_wish a l p t coin worn chance).1 m) : wX12_wants μ (Int32.ofNat f) (Int32.ofNat p) (Int32.ofNat t) chance coin worn K := by
  have hn := w.n
  have hs := w.s
  obtain ⟨l1, l2⟩ := hl
  have vp : vp_in (Int32.ofNat p) 16 := n32_in (by omega) (by omega)
  have z0 : (0 : Int32).toNatClampNeg = 0 := rfl
  have z1 : (1 : Int32).toNatClampNeg = 1 := rfl
  have z2 : (2 : Int32).toNatClampNeg = 2 := rfl
  have z3 : (3 : Int32).toNatClampNeg = 3 := rfl
  have z4 : (4 : Int32).toNatClampNeg = 4 := rfl
  have z5 : (5 : Int32).toNatClampNeg = 5 := rfl
  have z6 : (6 : Int32).toNatClampNeg = 6 := rfl
  have z7 : (7 : Int32).toNatClampNeg = 7 := rfl
  unfold wX12_wants
  refine lenM hm w ht hp ⟨5, wants_L11 hm w ht hp (fun m1 o1 e1 => ⟨by unfold vp_in; decide, by unfold vp_in; decide, vp, by unfold vp_in; decide, ?_⟩) 4 0 μ (by omega) offW.rf (fun q hq => by omega)⟩
  rintro m2 rfl
  rw [n32_add1, n32_nat (by omega), z0, z1, z2, z3, z4, z5, z6, z7]
  refine ⟨by unfold vp_in; decide, vp, by unfold vp_in; decide, ?_⟩
  have o2 : offW μ (hx_sI (hx_sI (hx_sI (hx_sI (hx_sI m1 77 0 (Int32.ofNat (t + 1))) 77 1 (a.2.1 6 (16 * t + p))) 77 2 (m1.1 51 p)) 77 3 coin) 77 4 ((hx_sI (hx_sI (hx_sI m1 77 0 (Int32.ofNat (t + 1))) 77 1 (a.2.1 6 (16 * t + p))) 77 2 (m1.1 51 p)).1 50 p)) := ((((o1.sI (by omega)).sI (by omega)).sI (by omega)).sI (by omega)).sI (by omega)
  refine moneyM (hm.oW o2) w ht ⟨by unfold vp_in; decide, ?_⟩
  rintro m3 rfl
  refine ⟨by unfold vp_in; decide, by unfold vp_in; decide, ?_⟩
  generalize hm0 : hx_sI (hx_sI (hx_sI (hx_sI (hx_sI (hx_sI (hx_sI (hx_sI m1 77 0 (Int32.ofNat (t + 1))) 77 1 (a.2.1 6 (16 * t + p))) 77 2 (m1.1 51 p)) 77 3 coin) 77 4 ((hx_sI (hx_sI (hx_sI m1 77 0 (Int32.ofNat (t + 1))) 77 1 (a.2.1 6 (16 * t + p))) 77 2 (m1.1 51 p)).1 50 p)) 77 5 (a.2.1 11 t)) 77 6 chance) 77 7 worn = m0
  have o0 : offW μ m0 := by
    rw [← hm0]
    exact ((o2.sI (by omega)).sI (by omega)).sI (by omega)
  have hm1 := hm.oW o1
  have a0 : ∀ i, i < 8 → m0.1 77 i = hw_ans a p t coin worn chance i := by
    intro i hi
    have q1 := hm1.purse hp
    have q2 := hm1.rank hp
    rw [← hm0]
    have : i = 0 ∨ i = 1 ∨ i = 2 ∨ i = 3 ∨ i = 4 ∨ i = 5 ∨ i = 6 ∨ i = 7 := by omega
    rcases this with rfl | rfl | rfl | rfl | rfl | rfl | rfl | rfl <;> simp [hm_sI, hw_ans, q1, q2]
  have e0 : ∀ i, i < 4 → m0.1 76 i = hw_mean a p i t := by
    intro i hi
    rw [← hm0]
    simpa [hm_sI] using e1 i hi
  refine ⟨5, wants_L119 (m0 := m0) e0 (fun m4 o4 e4 e5 => ?_) 4 0 m0 (by omega) offW.rf e0 (fun q hq => by rw [if_neg (by omega)])⟩
  have o4' : offW μ m4 := o0.tr o4
  have o5 : offW μ (hx_sI m4 49 45 2) := o4'.s45
  have e16 : 16 * Int32.ofNat f = Int32.ofNat (16 * f + 0) := n32_mul (a := 16)
  have n49 : ∀ k, k ≠ 49 → (hx_sI m4 49 45 2).1 k = m4.1 k := fun k hk => by
    show (if k = 49 then _ else m4.1 k) = _
    rw [if_neg hk]
  rw [e16]
  refine ⟨l.length + 1, wants_L163 (m1 := hx_sI m4 49 45 2) (mn := fun i => hw_mean a p i t) (ans := hw_ans a p t coin worn chance) (tot := l.length) (sm := sm) (hm.oW o5) w ht hp (fun i hi => by rw [n49 76 (by omega)]; exact e4 i hi) (fun i hi => ?_) hf hl16 (by rw [o5.1 63 (by omega) (by omega) (by omega) (by omega)]; exact l1) hsm (by simp [hm_sI]) l 0 _ (by omega) (hl_M.fr (fun k h1 h2 => o5.1 k (by omega) (by omega) (by omega) (by omega)) l2) hok (fun _ _ => rfl) rfl (fun m' o6 e6 => k m' (o5.tr o6) e6)⟩
  rw [n49 77 (by omega), e5 i hi]
  by_cases c : i < 8
  · rw [if_pos c, a0 i c]
  · rw [if_neg c]
    simp only [hw_ans, show ¬ i = 0 by omega, show ¬ i = 1 by omega, show ¬ i = 2 by omega, show ¬ i = 3 by omega, show ¬ i = 4 by omega, show ¬ i = 5 by omega, show ¬ i = 6 by omega, show ¬ i = 7 by omega, if_false]
