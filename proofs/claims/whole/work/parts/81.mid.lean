/-! layer 2: what a wish reads, amid a season -/
section Q
variable {a : hw_T} {μ : hx_M} {S p t : Nat} {v : Int32} {K : Int32 → Prop}
def CWp (a : hw_T) (μ : hx_M) : Prop :=
  μ.1 8 0 = Int32.ofNat a.1.1 ∧ (∀ p, p < a.1.1 → μ.1 9 p = a.2.1 0 p ∧ μ.1 10 p = a.2.1 1 p ∧ μ.1 11 p = a.2.1 2 p) ∧
  (∀ t p, t ≤ a.1.2.1 → p < a.1.1 → μ.1 16 (16 * t + p) = a.2.1 6 (16 * t + p)) ∧
  (∀ t, t ≤ a.1.2.1 → μ.1 17 t = hw_sum a t) ∧
  (∀ t h, t ≤ a.1.2.1 → h < 4 → μ.1 19 (4 * t + h) = a.2.1 10 (4 * t + h)) ∧
  (∀ t, t ≤ a.1.2.1 → μ.1 20 t = a.2.1 11 t)
theorem CWp.n (h : CWp a μ) : μ.1 8 0 = Int32.ofNat a.1.1 := h.1
theorem CWp.rank (h : CWp a μ) (hp : p < a.1.1) : μ.1 9 p = a.2.1 0 p := (h.2.1 p hp).1
theorem CWp.purse (h : CWp a μ) (hp : p < a.1.1) : μ.1 10 p = a.2.1 1 p := (h.2.1 p hp).2.1
theorem CWp.sees (h : CWp a μ) (hp : p < a.1.1) : μ.1 11 p = a.2.1 2 p := (h.2.1 p hp).2.2
theorem CWp.len (h : CWp a μ) (ht : t ≤ a.1.2.1) (hp : p < a.1.1) : μ.1 16 (16 * t + p) = a.2.1 6 (16 * t + p) := h.2.2.1 t p ht hp
theorem CWp.sum (h : CWp a μ) (ht : t ≤ a.1.2.1) : μ.1 17 t = hw_sum a t := h.2.2.2.1 t ht
theorem CWp.house (h : CWp a μ) (ht : t ≤ a.1.2.1) (hp : p < 4) : μ.1 19 (4 * t + p) = a.2.1 10 (4 * t + p) := h.2.2.2.2.1 t p ht hp
theorem CWp.money (h : CWp a μ) (ht : t ≤ a.1.2.1) : μ.1 20 t = a.2.1 11 t := h.2.2.2.2.2 t ht
theorem CWp.frs {m : hx_M} (h : CWp a μ) (hk : ∀ k, (7 ≤ k ∧ k ≤ 20 ∨ 25 ≤ k ∧ k ≤ 27) → m.1 k = μ.1 k) (_ : m.2 7 = μ.2 7) : CWp a m := by
  unfold CWp
  rw [hk 8 (by omega), hk 9 (by omega), hk 10 (by omega), hk 11 (by omega), hk 16 (by omega), hk 17 (by omega), hk 19 (by omega), hk 20 (by omega)]
  exact h
theorem CWp.oR {m : hx_M} (h : CWp a μ) (o : offR μ m) : CWp a m := h.frs (fun k hk => o.1 k (by omega)) (by rw [o.2])
end Q
section Q
variable {a : hw_T} {μ : hx_M} {S p t : Nat} {v : Int32} {K : Int32 → Prop}
theorem lenCp (h : CWp a μ) (w : WF 300 a) (ht : t ≤ a.1.2.1) (hp : p < a.1.1) (k : K (a.2.1 6 (16 * t + p))) : wX3_lengthOf μ (Int32.ofNat p) (Int32.ofNat t) K := by
  have h1 := w.n
  have h2 := w.s
  exact t_lengthOf (by omega) (by omega) (by rw [h.len ht hp]; exact k)
end Q
section Q
variable {a : hw_T} {μ : hx_M} {S p t : Nat} {v : Int32} {K : Int32 → Prop}
theorem houseCp (h : CWp a μ) (w : WF 300 a) (ht : t ≤ a.1.2.1) (hp : p < 4) (k : K (a.2.1 10 (4 * t + p))) : wX3_shownBy μ (Int32.ofNat p) (Int32.ofNat t) K := by
  have h2 := w.s
  have e : Int32.ofNat t * 4 + Int32.ofNat p = Int32.ofNat (4 * t + p) := by
    rw [Nat.mul_comm 4 t, ← n32_add, ← n32_mul]; rfl
  unfold wX3_shownBy
  rw [e, n32_nat (by omega), h.house ht hp]
  exact ⟨n32_in (by omega) (by omega), k⟩
end Q
section WC
variable {a : hw_T} {Λ : hx_L} {μ : hx_M} {p t lc cc len tot : Nat} {K : Int32 → hx_M → Prop}
theorem meanCp {m : hx_M} {r : hl_R} {K : Int32 → Prop} (hc : CWp a m) (w : WF 300 a) (ht : t ≤ a.1.2.1) (hp : p < a.1.1) (hok : hl_okR r) {mn : Nat → Int32} (hm : ∀ w, w < 4 → m.1 24 w = mn w) (k : K (hl_mean mn (fun h => a.2.1 10 (4 * t + h)) (fun k => hw_old a k t) r)) : wX6_meanOf m (hl_head r) (Int32.ofNat t) K := by
  have hs := w.s
  have hn := w.n
  obtain ⟨d1, d2, d3, d4⟩ := headD hok
  obtain ⟨h1, h2, h3, h4, h5, h6, h7, h8⟩ := hok
  unfold wX6_meanOf wX1_whomOf wX1_numberOf
  rw [d2, d4]
  unfold hl_mean at k
  by_cases c1 : r.1.2.1 ≤ 3
  · rw [if_pos c1] at k
    refine selF (fun z => by have := (n32_lt (a := 3) (by omega) (by omega)).mp z; omega) ⟨n32_in (by omega) (by omega), ?_⟩
    rw [n32_nat (by omega), hm _ (by omega)]
    exact k
  · rw [if_neg c1] at k
    refine selT ((n32_lt (a := 3) (by omega) (by omega)).mpr (by omega)) ?_
    by_cases c2 : r.1.2.1 = 4
    · rw [if_pos c2] at k
      refine selE (by rw [c2]; rfl) ?_
      rw [if_neg (fun z => by have := (n32_lt (a := 3) (by omega) (by omega)).mp z; have := h4 c2; omega)]
      exact houseCp hc w ht (by have := h4 c2; omega) k
    · rw [if_neg c2] at k
      refine selN (fun z => c2 ((n32_eq (b := 4) (by omega) (by omega)).mp z)) ?_
      have hsub := n32_sub (a := t) (b := r.1.2.2.1) (by omega) (by omega)
      simp only [hw_old] at k
      unfold wX6_meanOf_J55
      by_cases c3 : r.1.2.2.1 ≤ t
      · rw [if_pos c3] at k
        have e : Int32.ofNat t - Int32.ofNat r.1.2.2.1 = Int32.ofNat (t - r.1.2.2.1) := by
          rw [← Int32.toInt_inj, hsub, Int32.toInt_ofNat_of_lt (by omega)]; omega
        rw [e, hc.n]
        refine selF (n32_nn (by omega)) (sel1 ?_)
        refine selF (fun z => by have := (n32_le (b := 0) (by omega) (by omega)).mp z; omega) ⟨n32_in (by omega) (by omega), n32_ne0 (by omega) (by omega), ?_⟩
        rintro x rfl
        rw [n32_nat (by omega), hc.sum (by omega)]
        exact k
      · rw [if_neg c3] at k
        refine selT ?_ (sel0 k)
        rw [Int32.lt_iff_toInt_lt, hsub]
        have : (0 : Int32).toInt = 0 := rfl
        rw [this]
        omega
end WC
section WC
variable {a : hw_T} {Λ : hx_L} {μ : hx_M} {p t lc cc len tot : Nat} {K : Int32 → hx_M → Prop}
theorem wishByRules_L12p {mn : Nat → Int32} {ans : Nat → Int32} {own : Int32} (hc : CWp a μ) (w : WF 300 a) (ht : t ≤ a.1.2.1) (hp : p < a.1.1) (hm : ∀ w, w < 4 → μ.1 24 w = mn w) (ha : ∀ i, i < 12 → μ.1 22 i = ans i)
    (s1 : Λ.1 lc = (0, 1)) (s2 : Λ.1 cc = (1, len)) (s3 : len ≤ 700) (s4 : 93 ≤ lc) (s5 : 93 ≤ cc) (s6 : μ.1 lc 1 = Int32.ofNat tot) (s7 : tot ≤ 16) (hown : own ≠ -1) : ∀ (rs : List hl_R) (at0 j : Nat) (m : hx_M), j + rs.length = tot → (∀ k, k ≠ 21 → m.1 k = μ.1 k) → m.2 = μ.2 → hl_C μ cc len at0 rs → (∀ r ∈ rs, hl_okR r) →
    (∀ m', (∀ k, k ≠ 21 → m'.1 k = μ.1 k) → m'.2 = μ.2 → m'.1 21 5 = Int32.ofNat (hl_wish ans mn (fun h => a.2.1 10 (4 * t + h)) (fun k => hw_old a k t) own rs).2 → K (hl_wish ans mn (fun h => a.2.1 10 (4 * t + h)) (fun k => hw_old a k t) own rs).1 m') → wX6_wishByRules_L12 Λ lc own (Int32.ofNat t) cc K (rs.length + 1) (Int32.ofNat at0) (Int32.ofNat j) m := by
  intro rs
  induction rs with
  | nil =>
    intro at0 j m e hm1 hm2 hC hok k
    simp at e
    subst e
    unfold wX6_wishByRules_L12
    rw [hm1 lc (by omega), s6]
    refine ⟨s1, selT (Int32.le_refl _) (k _ (fun i hi => ?_) hm2 (by simp [hm_sI, hl_wish]))⟩
    show (if i = 21 then _ else m.1 i) = _
    rw [if_neg hi]
    exact hm1 i hi
  | cons r rs ih =>
    intro at0 j m e hm1 hm2 hC hok k
    have hokr := hok r List.mem_cons_self
    obtain ⟨d1, d2, d3, d4⟩ := headD hokr
    obtain ⟨c1, c2, c3, c4, c5⟩ := hC
    have hr2 := hokr.1
    simp only [List.length_cons] at e ⊢
    unfold wX6_wishByRules_L12
    rw [hm1 lc (by omega), s6, hm1 cc (by omega)]
    refine ⟨s1, selF (fun z => by have := (n32_le (by omega) (by omega)).mp z; omega) ⟨len, s2, ?_⟩⟩
    rw [n32_add1, n32_nat (by omega), n32_nat (by omega), c2, c3]
    refine selF (fun z => by have := (n32_le (by omega) (by omega)).mp z; omega) ⟨n32_in (by omega) (by omega), n32_in (by omega) (by omega), ?_⟩
    rintro x rfl
    rw [if_neg (fun z => by have := (n32_lt (by omega) (by omega)).mp z; omega)]
    have e2 : Int32.ofNat at0 + 2 = Int32.ofNat (at0 + 2) := n32_add (b := 2)
    rw [e2]
    have hnext : ∀ m' : hx_M, (∀ k, k ≠ 21 → m'.1 k = μ.1 k) → m'.2 = μ.2 → hl_wish ans mn (fun h => a.2.1 10 (4 * t + h)) (fun k => hw_old a k t) own (r :: rs) = hl_wish ans mn (fun h => a.2.1 10 (4 * t + h)) (fun k => hw_old a k t) own rs → wX6_wishByRules_L12 Λ lc own (Int32.ofNat t) cc K (rs.length + 1) (Int32.ofNat (at0 + 2 + r.2.length)) (Int32.ofNat j + 1) m' := by
      intro m' h1 h2 h3
      rw [h3] at k
      rw [n32_add1]
      exact ih _ _ m' (by omega) h1 h2 c5 (fun r' hr' => hok r' (List.mem_cons_of_mem _ hr')) k
    have hh : hl_holds (m.1 22) r.2 = hl_holds ans r.2 := hl_holds_congr (fun i hi => by rw [hm1 22 (by omega)]; exact ha i hi) hokr.2.2.2.2.2.2.2
    refine t_holds s2 s3 c1 hokr.2.2.2.2.2.2.2 (fun i s h => by rw [hm1 cc (by omega)]; exact c4 i s h) ?_
    rw [hh]
    by_cases g1 : hl_holds ans r.2 = true
    · rw [b01_1 g1]
      refine sel1 ?_
      unfold wX1_verbOf
      rw [d1]
      have hv : ∀ k, k ≠ 21 → (hx_sI m 21 5 (Int32.ofNat r.1.1)).1 k = μ.1 k := by
        intro i hi
        show (if i = 21 then _ else m.1 i) = _
        rw [if_neg hi]
        exact hm1 i hi
      have hv5 : (hx_sI m 21 5 (Int32.ofNat r.1.1)).1 21 5 = Int32.ofNat r.1.1 := by simp [hm_sI]
      by_cases g2 : r.1.1 = 2
      · refine selE (by rw [g2]; rfl) ?_
        have hw : hl_wish ans mn (fun h => a.2.1 10 (4 * t + h)) (fun k => hw_old a k t) own (r :: rs) = (own, 2) := by
          simp only [hl_wish, g1, g2, if_true]
        unfold wX6_wishByRules_J96
        refine selF hown ?_
        unfold wX1_byOf wX6_goal
        rw [hv5]
        rw [hw] at k
        refine selN ?_ (selN ?_ (k _ hv hm2 ?_))
        · rw [g2]; decide
        · rw [g2]; decide
        · rw [hv5, g2]
      · refine selN (fun z => g2 ((n32_eq (b := 2) (by omega) (by omega)).mp z)) ?_
        have hc' : CWp a (hx_sI m 21 5 (Int32.ofNat r.1.1)) := hc.frs (fun i hi => hv i (by omega)) (by show m.2 7 = _; rw [hm2])
        refine meanCp hc' w ht hp hokr (mn := mn) (fun w hw4 => by rw [hv 24 (by omega)]; exact hm w hw4) ?_
        unfold wX6_wishByRules_J96
        have hw : hl_wish ans mn (fun h => a.2.1 10 (4 * t + h)) (fun k => hw_old a k t) own (r :: rs) = if hl_mean mn (fun h => a.2.1 10 (4 * t + h)) (fun k => hw_old a k t) r = -1 then hl_wish ans mn (fun h => a.2.1 10 (4 * t + h)) (fun k => hw_old a k t) own rs else (hl_goal r.1.1 own (hl_mean mn (fun h => a.2.1 10 (4 * t + h)) (fun k => hw_old a k t) r) (Int32.ofNat r.1.2.2.2), r.1.1) := by
          simp only [hl_wish, g1, if_true, if_neg g2]
        refine ⟨fun z => ?_, fun z => ?_⟩
        · unfold wX6_wishByRules_J117_15
          exact hnext _ hv hm2 (by rw [hw, if_pos z])
        · rw [if_neg z] at hw
          unfold wX1_byOf
          rw [d3]
          rw [hw] at k
          exact goalC (by omega) hv5 (k _ hv hm2 hv5)
    · rw [b01_0 g1]
      refine sel0 ?_
      unfold wX6_wishByRules_J117
      exact hnext m hm1 hm2 (by simp only [hl_wish, if_neg g1])
end WC
theorem lookCp {a : hw_T} {Λ : hx_L} {μ : hx_M} {p t : Nat} {K : hx_M → Prop} (F : cF Λ) (hc : CWp a μ) (w : WF 300 a) (ht : t ≤ a.1.2.1) (hp : p < a.1.1) (k : ∀ m, off2 23 24 μ m → (∀ w, w < 4 → m.1 24 w = hw_mean a p w t) → K m) : wX6_look Λ μ (Int32.ofNat p) (Int32.ofNat t) K := by
  have hn := w.n
  have hs := w.s
  refine t_look F hc.n hn (by omega) hp (fun q hq => by rw [hc.rank hq]; exact (w.2.2.1 q hq).1) (fun m h1 h2 => k m h1 (fun i hi => ?_))
  rw [h2 i hi, hc.sees hp]
  exact meanW_congr hp (fun q hq => hc.rank hq) (fun q hq => hc.len ht hq)
theorem wishCp {a : hw_T} {Λ : hx_L} {μ : hx_M} {p t f lc : Nat} {l : List hl_R} {coin worn chance : Int32} {K : Int32 → hx_M → Prop} (F : cF Λ) (hc : CWp a μ) (w : WF 300 a) (ht : t ≤ a.1.2.1) (hp : p < a.1.1) (hl : hl_LC Λ μ f l) (hlc : Λ.2.1 6 f = some lc) (hl16 : l.length ≤ 16) (hok : ∀ r ∈ l, hl_okR r)
    (k : ∀ m, offR μ m → m.1 21 5 = Int32.ofNat (hw_wish a l p t coin worn chance).2 → K (hw_wish a l p t coin worn chance).1 m) : wX6_wishOf Λ μ lc (Int32.ofNat p) (Int32.ofNat (t + 1)) coin worn chance K := by
  have hn := w.n
  have hs := w.s
  obtain ⟨lc', cc, len, b1, b2, b3, b4, b5, b6, b7, b8, b9, b10, b11⟩ := hl
  rw [hlc] at b1
  cases b1
  have et : Int32.ofNat (t + 1) - 1 = Int32.ofNat t := by rw [← n32_add1, Int32.add_sub_cancel]
  have vp : vp_in (Int32.ofNat p) 16 := n32_in (by omega) (by omega)
  have z0 : (0 : Int32).toNatClampNeg = 0 := rfl
  have z1 : (1 : Int32).toNatClampNeg = 1 := rfl
  have z2 : (2 : Int32).toNatClampNeg = 2 := rfl
  have z3 : (3 : Int32).toNatClampNeg = 3 := rfl
  have z4 : (4 : Int32).toNatClampNeg = 4 := rfl
  have z5 : (5 : Int32).toNatClampNeg = 5 := rfl
  have z6 : (6 : Int32).toNatClampNeg = 6 := rfl
  have z7 : (7 : Int32).toNatClampNeg = 7 := rfl
  unfold wX6_wishOf
  rw [et]
  refine lenCp hc w ht hp ⟨by unfold vp_in; decide, by unfold vp_in; decide, vp, by unfold vp_in; decide, ?_⟩
  rintro m1 rfl
  refine ⟨by unfold vp_in; decide, vp, by unfold vp_in; decide, n32_in (by omega) (by omega), by unfold vp_in; decide, ?_⟩
  rintro m2 rfl
  refine ⟨by unfold vp_in; decide, by unfold vp_in; decide, ?_⟩
  rw [n32_nat (by omega), n32_nat (by omega), z0, z1, z2, z3, z4, z5, z6, z7]
  generalize hm0 : hx_sI (hx_sI (hx_sI (hx_sI (hx_sI (hx_sI (hx_sI (hx_sI μ 22 0 (Int32.ofNat (t + 1))) 22 1 (a.2.1 6 (16 * t + p))) 22 2 (μ.1 10 p)) 22 3 coin) 22 4 ((hx_sI (hx_sI (hx_sI μ 22 0 (Int32.ofNat (t + 1))) 22 1 (a.2.1 6 (16 * t + p))) 22 2 (μ.1 10 p)).1 9 p)) 22 5 ((hx_sI (hx_sI (hx_sI μ 22 0 (Int32.ofNat (t + 1))) 22 1 (a.2.1 6 (16 * t + p))) 22 2 (μ.1 10 p)).1 20 t)) 22 6 chance) 22 7 worn = m0
  have o0 : offR μ m0 := by
    rw [← hm0]
    exact (((((((offR.rf.sI (by omega)).sI (by omega)).sI (by omega)).sI (by omega)).sI (by omega)).sI (by omega)).sI (by omega)).sI (by omega)
  have a0 : ∀ i, i < 8 → m0.1 22 i = hw_ans a p t coin worn chance i := by
    intro i hi
    have q1 := hc.purse hp
    have q2 := hc.rank hp
    have q3 := hc.money ht
    rw [← hm0]
    have : i = 0 ∨ i = 1 ∨ i = 2 ∨ i = 3 ∨ i = 4 ∨ i = 5 ∨ i = 6 ∨ i = 7 := by omega
    rcases this with rfl | rfl | rfl | rfl | rfl | rfl | rfl | rfl <;> simp [hm_sI, hw_ans, q1, q2, q3]
  refine lookCp F (hc.oR o0) w ht hp (fun m3 h3 h4 => ?_)
  have o3 : offR μ m3 := o0.tr (offR.o2 h3)
  refine ⟨5, wishOf_L112 (m0 := m3) h4 (fun m5 h5 h6 h7 => ?_) 4 0 m3 (by omega) (fun _ _ => rfl) rfl (fun q hq => by rw [if_neg (by omega)])⟩
  have o5 : offR μ m5 := o3.tr ⟨fun i hi => h5 i (by omega), h6⟩
  unfold wX6_wishByRules
  refine ⟨b6, cc, b7, l.length + 1, wishByRules_L12p (ans := hw_ans a p t coin worn chance) (hc.oR o5) w ht hp (mn := fun i => hw_mean a p i t) (fun i hi => by rw [h5 24 (by omega)]; exact h4 i hi) (fun i hi => ?_) b6 b8 b9 b2 b4 (by rw [o5.1 lc (by omega)]; exact b10) hl16 (len_ne w ht hp) l 0 0 m5 (by omega) (fun _ _ => rfl) rfl (hl_C.fr (o5.1 cc (by omega)) b11) hok (fun m6 h8 h9 h10 => k m6 (o5.tr ⟨fun i hi => h8 i (by omega), h9⟩) h10)⟩
  rw [h7 i hi]
  by_cases c : i < 8
  · rw [if_pos c, h3.1 22 (by omega) (by omega), a0 i c]
  · rw [if_neg c]
    simp only [hw_ans, show ¬ i = 0 by omega, show ¬ i = 1 by omega, show ¬ i = 2 by omega, show ¬ i = 3 by omega, show ¬ i = 4 by omega, show ¬ i = 5 by omega, show ¬ i = 6 by omega, show ¬ i = 7 by omega, if_false]
section Q
variable {a : hw_T} {μ : hx_M} {S p t : Nat} {v : Int32} {K : Int32 → Prop}
def MWp (a : hw_T) (μ : hx_M) : Prop :=
  μ.1 49 0 = Int32.ofNat a.1.1 ∧ (∀ p, p < a.1.1 → μ.1 50 p = a.2.1 0 p ∧ μ.1 51 p = a.2.1 1 p ∧ μ.1 54 p = a.2.1 2 p) ∧
  (∀ t p, t ≤ a.1.2.1 → p < a.1.1 → μ.1 57 (16 * t + p) = a.2.1 6 (16 * t + p)) ∧
  μ.1 49 1 = Int32.ofNat (a.1.2.1 + 1) ∧
  (∀ t h, t ≤ a.1.2.1 → h < 4 → μ.1 61 (4 * t + h) = a.2.1 10 (4 * t + h)) ∧
  (∀ t, t ≤ a.1.2.1 → μ.1 62 t = a.2.1 11 t)
theorem MWp.n (h : MWp a μ) : μ.1 49 0 = Int32.ofNat a.1.1 := h.1
theorem MWp.rank (h : MWp a μ) (hp : p < a.1.1) : μ.1 50 p = a.2.1 0 p := (h.2.1 p hp).1
theorem MWp.purse (h : MWp a μ) (hp : p < a.1.1) : μ.1 51 p = a.2.1 1 p := (h.2.1 p hp).2.1
theorem MWp.sees (h : MWp a μ) (hp : p < a.1.1) : μ.1 54 p = a.2.1 2 p := (h.2.1 p hp).2.2
theorem MWp.len (h : MWp a μ) (ht : t ≤ a.1.2.1) (hp : p < a.1.1) : μ.1 57 (16 * t + p) = a.2.1 6 (16 * t + p) := h.2.2.1 t p ht hp
theorem MWp.s (h : MWp a μ) : μ.1 49 1 = Int32.ofNat (a.1.2.1 + 1) := h.2.2.2.1
theorem MWp.house2 (h : MWp a μ) (ht : t ≤ a.1.2.1) (hp : p < 4) : μ.1 61 (4 * t + p) = a.2.1 10 (4 * t + p) := h.2.2.2.2.1 t p ht hp
theorem MWp.money2 (h : MWp a μ) (ht : t ≤ a.1.2.1) : μ.1 62 t = a.2.1 11 t := h.2.2.2.2.2 t ht
theorem MWp.oW {m : hx_M} (h : MWp a μ) (o : offW μ m) : MWp a m := by
  unfold MWp
  rw [o.2.1 0 (by omega), o.2.1 1 (by omega), o.1 50 (by omega) (by omega) (by omega) (by omega), o.1 51 (by omega) (by omega) (by omega) (by omega), o.1 54 (by omega) (by omega) (by omega) (by omega), o.1 57 (by omega) (by omega) (by omega) (by omega), o.1 61 (by omega) (by omega) (by omega) (by omega), o.1 62 (by omega) (by omega) (by omega) (by omega)]
  exact h
theorem houseMp (h : MWp a μ) (w : WF 300 a) (ht : t ≤ a.1.2.1) (hp : p < 4) (k : K (a.2.1 10 (4 * t + p))) : wX12_houseAt μ (Int32.ofNat p) (Int32.ofNat t) K := by
  have h2 := w.s
  have e : 4 * Int32.ofNat t + Int32.ofNat p = Int32.ofNat (4 * t + p) := by
    rw [← n32_add, ← n32_mul]; rfl
  unfold wX12_houseAt
  rw [e, h.s, n32_nat (by omega), n32_nat (by omega)]
  refine ⟨fun z => ?_, fun z => ?_⟩
  · rw [h.house2 ht hp]
    exact ⟨n32_in (by omega) (by omega), k⟩
  · have := (n32_eq (by omega) (by omega)).mp z
    omega
theorem moneyMp (h : MWp a μ) (w : WF 300 a) (ht : t ≤ a.1.2.1) (k : K (a.2.1 11 t)) : wX12_moneyAt μ (Int32.ofNat t) K := by
  have h2 := w.s
  unfold wX12_moneyAt
  rw [h.s, n32_nat (by omega)]
  refine ⟨fun z => ?_, fun z => ?_⟩
  · rw [h.money2 ht]
    exact ⟨n32_in (by omega) (by omega), k⟩
  · have := (n32_eq (by omega) (by omega)).mp z
    omega
theorem lenMp (h : MWp a μ) (w : WF 300 a) (ht : t ≤ a.1.2.1) (hp : p < a.1.1) (k : K (a.2.1 6 (16 * t + p))) : wX12_lengthAt μ (Int32.ofNat p) (Int32.ofNat t) K := by
  have h1 := w.n
  have h2 := w.s
  exact t_lengthAt (by omega) (by omega) (by rw [h.len ht hp]; exact k)
theorem rowM_eqp (h : MWp a μ) (ht : t ≤ a.1.2.1) : rowM μ t a.1.1 = hw_sum a t := sumN_eq fun k hk => h.len ht hk
end Q
theorem meanMp {a : hw_T} {μ : hx_M} {p t w0 : Nat} {K : Int32 → Prop} (hm : MWp a μ) (w : WF 300 a) (ht : t ≤ a.1.2.1) (hp : p < a.1.1) (hw : w0 < 4) (k : K (hw_mean a p w0 t)) : wX12_meanOf μ (Int32.ofNat p) (Int32.ofNat w0) (Int32.ofNat t) K := by
  have hn := w.n
  have hs := w.s
  refine t_meanOf hm.n hn (by omega) hp hw ?_
  rw [hm.sees hp, show meanW (μ.1 50) (a.2.1 2 p) (fun q => μ.1 57 (16 * t + q)) p w0 a.1.1 = hw_mean a p w0 t from meanW_congr hp (fun q hq => hm.rank hq) (fun q hq => hm.len ht hq)]
  exact k
theorem wants_L11p {a : hw_T} {μ : hx_M} {p t : Nat} {v1 v4 v5 v6 v7 : Int32} {K : Int32 → hx_M → Prop} {K1 : hx_M → Prop} (hm : MWp a μ) (w : WF 300 a) (ht : t ≤ a.1.2.1) (hp : p < a.1.1) (k : ∀ m, offW μ m → (∀ i, i < 4 → m.1 76 i = hw_mean a p i t) → K1 m) : ∀ (r i : Nat) (m : hx_M), i + r = 4 → offW μ m → (∀ q, q < i → m.1 76 q = hw_mean a p q t) → wX12_wants_L11 v1 (Int32.ofNat p) (Int32.ofNat t) v4 v5 v6 v7 K K1 (r + 1) (Int32.ofNat i) m := by
  intro r
  induction r with
  | zero =>
    intro i m e h1 h2
    obtain rfl : i = 4 := by omega
    unfold wX12_wants_L11
    exact selT (by decide) (k m h1 h2)
  | succ r ih =>
    intro i m e h1 h2
    unfold wX12_wants_L11
    refine selF (fun z => by have := (n32_le (a := 4) (by omega) (by omega)).mp z; omega) (meanMp (hm.oW h1) w ht hp (by omega) ⟨n32_in (by omega) (by omega), ?_⟩)
    rw [n32_nat (by omega), n32_add1]
    refine ih (i + 1) _ (by omega) (h1.sI (by omega)) (fun q hq => ?_)
    rw [hm_sI]
    by_cases c : q = i
    · rw [if_pos ⟨rfl, c⟩, c]
    · rw [if_neg (fun z => c z.2)]
      exact h2 q (by omega)
theorem meanOfAllMp {a : hw_T} {μ : hx_M} {t : Nat} {K : Int32 → Prop} (hm : MWp a μ) (w : WF 300 a) (ht : t ≤ a.1.2.1) (h0 : 0 < a.1.1) (k : K (hw_sum a t / Int32.ofNat a.1.1)) : wX12_meanOfAll μ (Int32.ofNat t) K := by
  have hn := w.n
  have hs := w.s
  unfold wX12_meanOfAll
  rw [hm.n]
  refine selF (n32_nn (by omega)) (selN (n32_ne0 h0 (by omega)) ⟨a.1.1 + 1, t_meanOfAll_L hm.n hn h0 (by omega) (by rw [rowM_eqp hm ht]; exact k) a.1.1 0 (by omega)⟩)
theorem meanByMp {a : hw_T} {μ m : hx_M} {t q : Nat} {r : hl_R} {K : Int32 → Prop} {mn : Nat → Int32} (hm : MWp a m) (w : WF 300 a) (ht : t ≤ a.1.2.1) (h0 : 0 < a.1.1) (hok : hl_okR r) (hq : q < 96) (e1 : m.1 65 q = Int32.ofNat r.1.2.1) (e2 : m.1 66 q = Int32.ofNat r.1.2.2.1) (hmn : ∀ w, w < 4 → m.1 76 w = mn w) (k : K (hl_mean mn (fun h => a.2.1 10 (4 * t + h)) (fun k => hw_old a k t) r)) : wX12_meanBy m (Int32.ofNat q) (Int32.ofNat t) K := by
  have hn := w.n
  have hs := w.s
  obtain ⟨h1, h2, h3, h4, h5, h6, h7, h8⟩ := hok
  have vq : vp_in (Int32.ofNat q) 96 := n32_in (by omega) (by omega)
  unfold wX12_meanBy
  rw [n32_nat (by omega), e1, e2]
  unfold hl_mean at k
  by_cases c1 : r.1.2.1 ≤ 3
  · rw [if_pos c1] at k
    refine ⟨vq, selN (fun z => by have := (n32_eq (b := 4) (by omega) (by omega)).mp z; omega) ⟨vq, selN (fun z => by have := (n32_eq (b := 5) (by omega) (by omega)).mp z; omega) ⟨vq, n32_in (by omega) (by omega), ?_⟩⟩⟩
    rintro x rfl
    rw [n32_nat (by omega), hmn _ (by omega)]
    exact k
  · rw [if_neg c1] at k
    by_cases c2 : r.1.2.1 = 4
    · rw [if_pos c2] at k
      exact ⟨vq, selE (by rw [c2]; rfl) ⟨vq, houseMp hm w ht (by have := h4 c2; omega) k⟩⟩
    · rw [if_neg c2] at k
      have c5 : r.1.2.1 = 5 := by omega
      refine ⟨vq, selN (fun z => c2 ((n32_eq (b := 4) (by omega) (by omega)).mp z)) ⟨vq, selE (by rw [c5]; rfl) ⟨vq, ?_⟩⟩⟩
      have hsub := n32_sub (a := t) (b := r.1.2.2.1) (by omega) (by omega)
      simp only [hw_old] at k
      by_cases c3 : r.1.2.2.1 ≤ t
      · rw [if_pos c3] at k
        have e : Int32.ofNat t - Int32.ofNat r.1.2.2.1 = Int32.ofNat (t - r.1.2.2.1) := by
          rw [← Int32.toInt_inj, hsub, Int32.toInt_ofNat_of_lt (by omega)]; omega
        rw [e]
        exact meanOfAllMp hm w (by omega) h0 k
      · rw [if_neg c3] at k
        unfold wX12_meanOfAll
        refine selT ?_ k
        rw [Int32.lt_iff_toInt_lt, hsub]
        have : (0 : Int32).toInt = 0 := rfl
        rw [this]
        omega
theorem wants_L163p {a : hw_T} {m1 : hx_M} {p t f sm tot : Nat} {own : Int32} {K : Int32 → hx_M → Prop} {mn ans : Nat → Int32} (hm : MWp a m1) (w : WF 300 a) (ht : t ≤ a.1.2.1) (hp : p < a.1.1) (hmn : ∀ w, w < 4 → m1.1 76 w = mn w) (ha : ∀ q, q < 12 → m1.1 77 q = ans q) (hf : f < 5) (htot : tot ≤ 16) (h63 : m1.1 63 f = Int32.ofNat tot) (hsm : sm ≤ 3500) (h45 : m1.1 49 45 = 2) :
    ∀ (rs : List hl_R) (j : Nat) (m : hx_M), j + rs.length = tot → hl_M m1 sm (16 * f + j) rs → (∀ r ∈ rs, hl_okR r) → (∀ k, k ≠ 73 → m.1 k = m1.1 k) → m.2 = m1.2 →
    (∀ m', offW m1 m' → m'.1 49 45 = Int32.ofNat (hl_wish ans mn (fun h => a.2.1 10 (4 * t + h)) (fun k => hw_old a k t) own rs).2 → K (hl_wish ans mn (fun h => a.2.1 10 (4 * t + h)) (fun k => hw_old a k t) own rs).1 m') → wX12_wants_L163 (Int32.ofNat f) (Int32.ofNat t) own K (rs.length + 1) (Int32.ofNat (16 * f + j)) m := by
  have hn := w.n
  have vf : vp_in (Int32.ofNat f) 6 := n32_in (by omega) (by omega)
  have e16 : 16 * Int32.ofNat f + Int32.ofNat tot = Int32.ofNat (16 * f + tot) := idxM
  have off : ∀ m : hx_M, (∀ k, k ≠ 73 → m.1 k = m1.1 k) → m.2 = m1.2 → offW m1 m := fun m h1 h2 => ⟨fun k _ b _ _ => h1 k b, fun j _ => by rw [h1 49 (by omega)], h2⟩
  intro rs
  induction rs with
  | nil =>
    intro j m e hM hok h1 h2 k
    simp at e
    subst e
    unfold wX12_wants_L163
    rw [n32_nat (by omega), h1 63 (by omega), h63, e16]
    exact ⟨vf, selT (Int32.le_refl _) (k m (off m h1 h2) (by rw [h1 49 (by omega), h45]; rfl))⟩
  | cons r rs ih =>
    intro j m e hM hok h1 h2 k
    simp only [List.length_cons] at e ⊢
    obtain ⟨c1, c2, ⟨fr, c3, c4, c5, c6⟩, c7⟩ := hM
    have hokr := hok r List.mem_cons_self
    have hr2 := hokr.1
    have v96 : vp_in (Int32.ofNat (16 * f + j)) 96 := n32_in (by omega) (by omega)
    have hnext : ∀ m' : hx_M, (∀ k, k ≠ 73 → m'.1 k = m1.1 k) → m'.2 = m1.2 → hl_wish ans mn (fun h => a.2.1 10 (4 * t + h)) (fun k => hw_old a k t) own (r :: rs) = hl_wish ans mn (fun h => a.2.1 10 (4 * t + h)) (fun k => hw_old a k t) own rs → wX12_wants_L163 (Int32.ofNat f) (Int32.ofNat t) own K (rs.length + 1) (Int32.ofNat (16 * f + j) + 1) m' := by
      intro m' a1 a2 a3
      rw [a3] at k
      rw [n32_add1]
      exact ih (j + 1) m' (by omega) c7 (fun r' hr' => hok r' (List.mem_cons_of_mem _ hr')) a1 a2 k
    have go : ∀ m' : hx_M, (∀ k, k ≠ 73 → m'.1 k = m1.1 k) → m'.2 = m1.2 → hl_holds ans r.2 = true → wX12_wants_J220 K (wX12_wants_L163 (Int32.ofNat f) (Int32.ofNat t) own K (rs.length + 1)) (Int32.ofNat f) (Int32.ofNat t) own (Int32.ofNat (16 * f + j)) m' := by
      intro m' a1 a2 g1
      unfold wX12_wants_J220
      rw [n32_nat (by omega), a1 64 (by omega), a1 67 (by omega), c1]
      refine ⟨v96, ?_⟩
      by_cases g2 : r.1.1 = 2
      · refine selE (by rw [g2]; rfl) ?_
        have hw : hl_wish ans mn (fun h => a.2.1 10 (4 * t + h)) (fun k => hw_old a k t) own (r :: rs) = (own, 2) := by
          simp only [hl_wish, g1, g2, if_true]
        rw [hw] at k
        exact k m' (off m' a1 a2) (by rw [a1 49 (by omega), h45]; rfl)
      · obtain ⟨d1, d2, d3⟩ := c2 g2
        have hw : hl_wish ans mn (fun h => a.2.1 10 (4 * t + h)) (fun k => hw_old a k t) own (r :: rs) = if hl_mean mn (fun h => a.2.1 10 (4 * t + h)) (fun k => hw_old a k t) r = -1 then hl_wish ans mn (fun h => a.2.1 10 (4 * t + h)) (fun k => hw_old a k t) own rs else (hl_goal r.1.1 own (hl_mean mn (fun h => a.2.1 10 (4 * t + h)) (fun k => hw_old a k t) r) (Int32.ofNat r.1.2.2.2), r.1.1) := by
          simp only [hl_wish, g1, if_true, if_neg g2]
        refine selN (fun z => g2 ((n32_eq (b := 2) (by omega) (by omega)).mp z)) ?_
        refine meanByMp (μ := m') (mn := mn) (hm.oW (off m' a1 a2)) w ht (by omega) hokr (by omega) (by rw [a1 65 (by omega)]; exact d1) (by rw [a1 66 (by omega)]; exact d2) (fun w hw => by rw [a1 76 (by omega)]; exact hmn w hw) ?_
        rw [d3]
        by_cases g3 : hl_mean mn (fun h => a.2.1 10 (4 * t + h)) (fun k => hw_old a k t) r = -1
        · refine selE g3 ?_
          unfold wX12_wants_J375
          exact hnext m' a1 a2 (by rw [hw, if_pos g3])
        · refine selN g3 ?_
          rw [if_neg g3] at hw
          rw [hw] at k
          generalize hl_mean mn (fun h => a.2.1 10 (4 * t + h)) (fun k => hw_old a k t) r = mean at k ⊢
          have k' := k (hx_sI m' 49 45 (Int32.ofNat r.1.1)) (off m' a1 a2).s45 (by simp [hm_sI])
          refine ⟨v96, v96, ?_⟩
          simp only [hl_goal] at k'
          by_cases g4 : r.1.1 = 0
          · refine selE (by rw [g4]; rfl) ⟨fun z => ⟨v96, ?_⟩, fun z => ⟨v96, ?_⟩⟩
            · rintro x rfl
              rw [if_pos g4, if_pos z] at k'
              exact k'
            · rintro x rfl
              rw [if_pos g4, if_neg z] at k'
              exact k'
          · rw [if_neg g4] at k'
            refine selN (fun z => g4 ((n32_eq (b := 0) (by omega) (by omega)).mp z)) ?_
            rintro x rfl
            refine ⟨v96, fun z => ⟨fun z2 => ⟨v96, ?_⟩, fun z2 => ⟨v96, ?_⟩⟩, fun z => ?_⟩
            · rintro x rfl
              rw [if_neg (Int32.not_le.mpr z), if_pos z2] at k'
              exact k'
            · rintro x rfl
              rw [if_neg (Int32.not_le.mpr z), if_neg z2] at k'
              exact k'
            · rw [if_pos (Int32.not_lt.mp z)] at k'
              exact k'
    unfold wX12_wants_L163
    rw [n32_nat (by omega), n32_nat (by omega), h1 63 (by omega), h1 68 (by omega), h1 69 (by omega), h63, e16, c3, c4]
    refine ⟨vf, selF (fun z => by have := (n32_le (by omega) (by omega)).mp z; omega) ⟨v96, v96, ?_⟩⟩
    by_cases g0 : r.2 = []
    · refine selT ?_ (go m h1 h2 ?_)
      · rw [g0]; exact Int32.le_refl _
      · rw [g0]; rfl
    · have hlen : 0 < r.2.length := List.length_pos_iff.mpr g0
      have hokS : hl_okS 0 r.2 := hokr.2.2.2.2.2.2.2.resolve_left g0
      refine selF (fun z => by have := (n32_le (by omega) (by omega)).mp z; omega) ⟨v96, v96, ?_⟩
      refine t_isTrue (μ := m1) (ans := ans) (sm := sm) (by omega) c5 hokS c6 h1 h2 ha (fun m' a1 a2 => ?_)
      by_cases g1 : hl_holds ans r.2 = true
      · rw [b01_1 g1]
        exact seln1 (go m' a1 a2 g1)
      · rw [b01_0 g1]
        refine seln0 ?_
        unfold wX12_wants_J375_47
        exact hnext m' a1 a2 (by simp only [hl_wish, if_neg g1])
theorem wishMp {a : hw_T} {μ : hx_M} {p t f sm : Nat} {l : List hl_R} {coin worn chance : Int32} {K : Int32 → hx_M → Prop} (hm : MWp a μ) (w : WF 300 a) (ht : t ≤ a.1.2.1) (hp : p < a.1.1) (hf : f < 5) (hsm : sm ≤ 3500) (hl : hl_LM μ sm f l) (hl16 : l.length ≤ 16) (hok : ∀ r ∈ l, hl_okR r)
    (k : ∀ m, offW μ m → m.1 49 45 = Int32.ofNat (hw_wish a l p t coin worn chance).2 → K (hw_wish a l p t coin worn chance).1 m) : wX12_wants μ (Int32.ofNat f) (Int32.ofNat p) (Int32.ofNat t) chance coin worn K := by
  have hn := w.n
  have hs := w.s
  obtain ⟨l1, l2⟩ := hl
  have vp : vp_in (Int32.ofNat p) 16 := n32_in (by omega) (by omega)
  have z0 : (0 : Int32).toNatClampNeg = 0 := rfl
  have z1 : (1 : Int32).toNatClampNeg = 1 := rfl
  have z2 : (2 : Int32).toNatClampNeg = 2 := rfl
  have z3 : (3 : Int32).toNatClampNeg = 3 := rfl
  have z4 : (4 : Int32).toNatClampNeg = 4 := rfl
  have z5 : (5 : Int32).toNatClampNeg = 5 := rfl
  have z6 : (6 : Int32).toNatClampNeg = 6 := rfl
  have z7 : (7 : Int32).toNatClampNeg = 7 := rfl
  unfold wX12_wants
  refine lenMp hm w ht hp ⟨5, wants_L11p hm w ht hp (fun m1 o1 e1 => ⟨by unfold vp_in; decide, by unfold vp_in; decide, vp, by unfold vp_in; decide, ?_⟩) 4 0 μ (by omega) offW.rf (fun q hq => by omega)⟩
  rintro m2 rfl
  rw [n32_add1, n32_nat (by omega), z0, z1, z2, z3, z4, z5, z6, z7]
  refine ⟨by unfold vp_in; decide, vp, by unfold vp_in; decide, ?_⟩
  have o2 : offW μ (hx_sI (hx_sI (hx_sI (hx_sI (hx_sI m1 77 0 (Int32.ofNat (t + 1))) 77 1 (a.2.1 6 (16 * t + p))) 77 2 (m1.1 51 p)) 77 3 coin) 77 4 ((hx_sI (hx_sI (hx_sI m1 77 0 (Int32.ofNat (t + 1))) 77 1 (a.2.1 6 (16 * t + p))) 77 2 (m1.1 51 p)).1 50 p)) := ((((o1.sI (by omega)).sI (by omega)).sI (by omega)).sI (by omega)).sI (by omega)
  refine moneyMp (hm.oW o2) w ht ⟨by unfold vp_in; decide, ?_⟩
  rintro m3 rfl
  refine ⟨by unfold vp_in; decide, by unfold vp_in; decide, ?_⟩
  generalize hm0 : hx_sI (hx_sI (hx_sI (hx_sI (hx_sI (hx_sI (hx_sI (hx_sI m1 77 0 (Int32.ofNat (t + 1))) 77 1 (a.2.1 6 (16 * t + p))) 77 2 (m1.1 51 p)) 77 3 coin) 77 4 ((hx_sI (hx_sI (hx_sI m1 77 0 (Int32.ofNat (t + 1))) 77 1 (a.2.1 6 (16 * t + p))) 77 2 (m1.1 51 p)).1 50 p)) 77 5 (a.2.1 11 t)) 77 6 chance) 77 7 worn = m0
  have o0 : offW μ m0 := by
    rw [← hm0]
    exact ((o2.sI (by omega)).sI (by omega)).sI (by omega)
  have hm1 := hm.oW o1
  have a0 : ∀ i, i < 8 → m0.1 77 i = hw_ans a p t coin worn chance i := by
    intro i hi
    have q1 := hm1.purse hp
    have q2 := hm1.rank hp
    rw [← hm0]
    have : i = 0 ∨ i = 1 ∨ i = 2 ∨ i = 3 ∨ i = 4 ∨ i = 5 ∨ i = 6 ∨ i = 7 := by omega
    rcases this with rfl | rfl | rfl | rfl | rfl | rfl | rfl | rfl <;> simp [hm_sI, hw_ans, q1, q2]
  have e0 : ∀ i, i < 4 → m0.1 76 i = hw_mean a p i t := by
    intro i hi
    rw [← hm0]
    simpa [hm_sI] using e1 i hi
  refine ⟨5, wants_L119 (m0 := m0) e0 (fun m4 o4 e4 e5 => ?_) 4 0 m0 (by omega) offW.rf e0 (fun q hq => by rw [if_neg (by omega)])⟩
  have o4' : offW μ m4 := o0.tr o4
  have o5 : offW μ (hx_sI m4 49 45 2) := o4'.s45
  have e16 : 16 * Int32.ofNat f = Int32.ofNat (16 * f + 0) := n32_mul (a := 16)
  have n49 : ∀ k, k ≠ 49 → (hx_sI m4 49 45 2).1 k = m4.1 k := fun k hk => by
    show (if k = 49 then _ else m4.1 k) = _
    rw [if_neg hk]
  rw [e16]
  refine ⟨l.length + 1, wants_L163p (m1 := hx_sI m4 49 45 2) (mn := fun i => hw_mean a p i t) (ans := hw_ans a p t coin worn chance) (tot := l.length) (sm := sm) (hm.oW o5) w ht hp (fun i hi => by rw [n49 76 (by omega)]; exact e4 i hi) (fun i hi => ?_) hf hl16 (by rw [o5.1 63 (by omega) (by omega) (by omega) (by omega)]; exact l1) hsm (by simp [hm_sI]) l 0 _ (by omega) (hl_M.fr (fun k h1 h2 => o5.1 k (by omega) (by omega) (by omega) (by omega)) l2) hok (fun _ _ => rfl) rfl (fun m' o6 e6 => k m' (o5.tr o6) e6)⟩
  rw [n49 77 (by omega), e5 i hi]
  by_cases c : i < 8
  · rw [if_pos c, a0 i c]
  · rw [if_neg c]
    simp only [hw_ans, show ¬ i = 0 by omega, show ¬ i = 1 by omega, show ¬ i = 2 by omega, show ¬ i = 3 by omega, show ¬ i = 4 by omega, show ¬ i = 5 by omega, show ¬ i = 6 by omega, show ¬ i = 7 by omega, if_false]
