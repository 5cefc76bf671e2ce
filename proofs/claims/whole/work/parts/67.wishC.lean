/-! layer 2: what a person wants: the class -/
def hl_goal (act : Nat) (own mean by0 : Int32) : Int32 :=
  if act = 0 then (if mean ≤ own then (if mean < own - by0 then own - by0 else mean) else (if own + by0 < mean then own + by0 else mean))
  else (if by0 ≤ (if 0 ≤ own - mean then own - mean else 0 - (own - mean)) then own else if own < mean then (if 0 < mean - by0 then mean - by0 else 0) else (if mean + by0 < 60 then mean + by0 else 60))
def hl_mean (means house old : Nat → Int32) (r : hl_R) : Int32 := if r.1.2.1 ≤ 3 then means r.1.2.1 else if r.1.2.1 = 4 then house r.1.2.2.1 else old r.1.2.2.1
def hl_wish (ans means house old : Nat → Int32) (own : Int32) : List hl_R → Int32 × Nat
  | [] => (own, 2)
  | r :: rs => if hl_holds ans r.2 = true then (if r.1.1 = 2 then (own, 2) else if hl_mean means house old r = -1 then hl_wish ans means house old own rs else (hl_goal r.1.1 own (hl_mean means house old r) (Int32.ofNat r.1.2.2.2), r.1.1)) else hl_wish ans means house old own rs
theorem evL_congr {f g : Nat → Int32} (h : ∀ i, i < 12 → f i = g i) : ∀ {st : List hl_S} {b : List Bool} {d : Nat}, hl_okS d st → evL f b st = evL g b st
  | [], _, _, _ => rfl
  | s :: r, b, d, hok => by
    unfold hl_okS at hok
    unfold evL
    rcases hok with ⟨h1, h2, h3, h4, h5⟩ | ⟨h1, h2, h3⟩ | ⟨h1, h2, h3⟩
    · rw [show ev1 f b s = ev1 g b s by rw [ev1_cmp h1, ev1_cmp h1, h _ h2]]
      exact evL_congr h h5
    · rw [show ev1 f b s = ev1 g b s by rcases h1 with e | e <;> simp [ev1, e]]
      exact evL_congr h h3
    · rw [show ev1 f b s = ev1 g b s by simp [ev1, h1]]
      exact evL_congr h h3
theorem hl_holds_congr {f g : Nat → Int32} (h : ∀ i, i < 12 → f i = g i) {st : List hl_S} (hok : st = [] ∨ hl_okS 0 st) : hl_holds f st = hl_holds g st := by
  unfold hl_holds
  rcases hok with rfl | hok
  · rfl
  · rw [evL_congr h hok]
/-- the same but for the reckoner's own rows -/
def offR (μ m : hx_M) : Prop := (∀ k, (k < 21 ∨ 24 < k) → m.1 k = μ.1 k) ∧ m.2 = μ.2
theorem offR.rf {μ : hx_M} : offR μ μ := ⟨fun _ _ => rfl, rfl⟩
theorem offR.tr {μ m m' : hx_M} (h1 : offR μ m) (h2 : offR m m') : offR μ m' := ⟨fun k hk => (h2.1 k hk).trans (h1.1 k hk), h2.2.trans h1.2⟩
theorem offR.sI {μ m : hx_M} {c j : Nat} {v : Int32} (h : offR μ m) (hc : 21 ≤ c ∧ c ≤ 24) : offR μ (hx_sI m c j v) := by
  refine ⟨fun k hk => ?_, h.2⟩
  show (if k = c then _ else m.1 k) = μ.1 k
  rw [if_neg (by omega)]
  exact h.1 k hk
theorem offR.o2 {μ m : hx_M} (h : off2 23 24 μ m) : offR μ m := ⟨fun k hk => h.1 k (by omega) (by omega), h.2⟩
theorem offR.keep {μ m : hx_M} (h : offR μ m) : keepC μ m := fun k hk => ⟨h.1 k (by omega), by rw [h.2]⟩
theorem CW.frs {a : hw_T} {μ m : hx_M} (h : CW 0 a μ) (hk : ∀ k, (7 ≤ k ∧ k ≤ 20 ∨ 25 ≤ k ∧ k ≤ 27) → m.1 k = μ.1 k) (h2 : m.2 7 = μ.2 7) : CW 0 a m := by
  unfold CW
  simp only [Nat.add_zero]
  rw [hk 8 (by omega), hk 7 (by omega), h2, hk 9 (by omega), hk 10 (by omega), hk 11 (by omega), hk 12 (by omega), hk 13 (by omega), hk 14 (by omega), hk 16 (by omega), hk 17 (by omega), hk 18 (by omega), hk 19 (by omega), hk 20 (by omega), hk 25 (by omega), hk 26 (by omega), hk 27 (by omega)]
  exact h
theorem CW.oR {a : hw_T} {μ m : hx_M} (h : CW 0 a μ) (o : offR μ m) : CW 0 a m := h.frs (fun k hk => o.1 k (by omega)) (by rw [o.2])
/-- a rule's head told as a number -/
theorem headD {r : hl_R} (h : hl_okR r) : hl_head r &&& 3 = Int32.ofNat r.1.1 ∧ (hl_head r >>> (2 &&& 31)) &&& 7 = Int32.ofNat r.1.2.1 ∧ (hl_head r >>> (5 &&& 31)) &&& 63 = Int32.ofNat r.1.2.2.2 ∧ hl_head r >>> (11 &&& 31) = Int32.ofNat r.1.2.2.1 := by
  obtain ⟨h1, h2, h3, h4, h5, h6, h7, h8⟩ := h
  have e2 : (2 : Int32) &&& 31 = Int32.ofNat 2 := by decide
  have e5 : (5 : Int32) &&& 31 = Int32.ofNat 5 := by decide
  have e11 : (11 : Int32) &&& 31 = Int32.ofNat 11 := by decide
  have m3 : (3 : Int32) = Int32.ofNat (2 ^ 2 - 1) := rfl
  have m7 : (7 : Int32) = Int32.ofNat (2 ^ 3 - 1) := rfl
  have m63 : (63 : Int32) = Int32.ofNat (2 ^ 6 - 1) := rfl
  unfold hl_head
  rw [e2, e5, e11, m3, m7, m63, n32_shr (by omega) (by omega), n32_shr (by omega) (by omega), n32_shr (by omega) (by omega), n32_mask, n32_mask, n32_mask]
  refine ⟨?_, ?_, ?_, ?_⟩ <;> congr 1 <;> omega
theorem goalC {μ : hx_M} {act : Nat} {own mean by0 : Int32} {K : Int32 → Prop} (ha : act ≤ 1) (hv : μ.1 21 5 = Int32.ofNat act) (k : K (hl_goal act own mean by0)) : wX6_goal μ own mean by0 K := by
  unfold wX6_goal
  rw [hv]
  unfold hl_goal at k
  have : act = 0 ∨ act = 1 := by omega
  rcases this with rfl | rfl
  · refine selE rfl ⟨fun z => ?_, fun z => ?_⟩
    · rw [if_pos rfl, if_pos z] at k; exact k
    · rw [if_pos rfl, if_neg z] at k; exact k
  · refine selN (by decide) (selE rfl ?_)
    rintro x rfl
    rw [if_neg (by omega)] at k
    refine ⟨fun z => ?_, fun z => ⟨fun z2 => ?_, fun z2 => ?_⟩⟩
    · rw [if_pos z] at k; exact k
    · rw [if_neg z, if_pos z2] at k; exact k
    · rw [if_neg z, if_neg z2] at k; exact k
section WC
variable {a : hw_T} {Λ : hx_L} {μ : hx_M} {p t lc cc len tot : Nat} {K : Int32 → hx_M → Prop}
theorem meanC {m : hx_M} {r : hl_R} {K : Int32 → Prop} (hc : CW 0 a m) (w : WF 300 a) (ht : t ≤ a.1.2.1) (hp : p < a.1.1) (hok : hl_okR r) {mn : Nat → Int32} (hm : ∀ w, w < 4 → m.1 24 w = mn w) (k : K (hl_mean mn (fun h => a.2.1 10 (4 * t + h)) (fun k => hw_old a k t) r)) : wX6_meanOf m (hl_head r) (Int32.ofNat t) K := by
  have hs := w.s
  have hn := w.n
  obtain ⟨d1, d2, d3, d4⟩ := headD hok
  obtain ⟨h1, h2, h3, h4, h5, h6, h7, h8⟩ := hok
  unfold wX6_meanOf wX1_whomOf wX1_numberOf
  rw [d2, d4]
  unfold hl_mean at k
  by_cases c1 : r.1.2.1 ≤ 3
  · rw [if_pos c1] at k
    refine selF (fun z => by have := (n32_lt (a := 3) (by omega) (by omega)).mp z; omega) ⟨n32_in (by omega) (by omega), ?_⟩
    rw [n32_nat (by omega), hm _ (by omega)]
    exact k
  · rw [if_neg c1] at k
    refine selT ((n32_lt (a := 3) (by omega) (by omega)).mpr (by omega)) ?_
    by_cases c2 : r.1.2.1 = 4
    · rw [if_pos c2] at k
      refine selE (by rw [c2]; rfl) ?_
      rw [if_neg (fun z => by have := (n32_lt (a := 3) (by omega) (by omega)).mp z; have := h4 c2; omega)]
      exact houseC hc w ht (by have := h4 c2; omega) k
    · rw [if_neg c2] at k
      refine selN (fun z => c2 ((n32_eq (b := 4) (by omega) (by omega)).mp z)) ?_
      have hsub := n32_sub (a := t) (b := r.1.2.2.1) (by omega) (by omega)
      simp only [hw_old] at k
      unfold wX6_meanOf_J55
      by_cases c3 : r.1.2.2.1 ≤ t
      · rw [if_pos c3] at k
        have e : Int32.ofNat t - Int32.ofNat r.1.2.2.1 = Int32.ofNat (t - r.1.2.2.1) := by
          rw [← Int32.toInt_inj, hsub, Int32.toInt_ofNat_of_lt (by omega)]; omega
        rw [e, hc.n]
        refine selF (n32_nn (by omega)) (sel1 ?_)
        refine selF (fun z => by have := (n32_le (b := 0) (by omega) (by omega)).mp z; omega) ⟨n32_in (by omega) (by omega), n32_ne0 (by omega) (by omega), ?_⟩
        rintro x rfl
        rw [n32_nat (by omega), hc.sum (by omega)]
        exact k
      · rw [if_neg c3] at k
        refine selT ?_ (sel0 k)
        rw [Int32.lt_iff_toInt_lt, hsub]
        have : (0 : Int32).toInt = 0 := rfl
        rw [this]
        omega
theorem wishByRules_L12 {mn : Nat → Int32} {ans : Nat → Int32} {own : Int32} (hc : CW 0 a μ) (w : WF 300 a) (ht : t ≤ a.1.2.1) (hp : p < a.1.1) (hm : ∀ w, w < 4 → μ.1 24 w = mn w) (ha : ∀ i, i < 12 → μ.1 22 i = ans i)
    (s1 : Λ.1 lc = (0, 1)) (s2 : Λ.1 cc = (1, len)) (s3 : len ≤ 700) (s4 : 93 ≤ lc) (s5 : 93 ≤ cc) (s6 : μ.1 lc 1 = Int32.ofNat tot) (s7 : tot ≤ 16) (hown : own ≠ -1) : ∀ (rs : List hl_R) (at0 j : Nat) (m : hx_M), j + rs.length = tot → (∀ k, k ≠ 21 → m.1 k = μ.1 k) → m.2 = μ.2 → hl_C μ cc len at0 rs → (∀ r ∈ rs, hl_okR r) →
    (∀ m', (∀ k, k ≠ 21 → m'.1 k = μ.1 k) → m'.2 = μ.2 → m'.1 21 5 = Int32.ofNat (hl_wish ans mn (fun h => a.2.1 10 (4 * t + h)) (fun k => hw_old a k t) own rs).2 → K (hl_wish ans mn (fun h => a.2.1 10 (4 * t + h)) (fun k => hw_old a k t) own rs).1 m') → wX6_wishByRules_L12 Λ lc own (Int32.ofNat t) cc K (rs.length + 1) (Int32.ofNat at0) (Int32.ofNat j) m := by
  intro rs
  induction rs with
  | nil =>
    intro at0 j m e hm1 hm2 hC hok k
    simp at e
    subst e
    unfold wX6_wishByRules_L12
    rw [hm1 lc (by omega), s6]
    refine ⟨s1, selT (Int32.le_refl _) (k _ (fun i hi => ?_) hm2 (by simp [hm_sI, hl_wish]))⟩
    show (if i = 21 then _ else m.1 i) = _
    rw [if_neg hi]
    exact hm1 i hi
  | cons r rs ih =>
    intro at0 j m e hm1 hm2 hC hok k
    have hokr := hok r List.mem_cons_self
    obtain ⟨d1, d2, d3, d4⟩ := headD hokr
    obtain ⟨c1, c2, c3, c4, c5⟩ := hC
    have hr2 := hokr.1
    simp only [List.length_cons] at e ⊢
    unfold wX6_wishByRules_L12
    rw [hm1 lc (by omega), s6, hm1 cc (by omega)]
    refine ⟨s1, selF (fun z => by have := (n32_le (by omega) (by omega)).mp z; omega) ⟨len, s2, ?_⟩⟩
    rw [n32_add1, n32_nat (by omega), n32_nat (by omega), c2, c3]
    refine selF (fun z => by have := (n32_le (by omega) (by omega)).mp z; omega) ⟨n32_in (by omega) (by omega), n32_in (by omega) (by omega), ?_⟩
    rintro x rfl
    rw [if_neg (fun z => by have := (n32_lt (by omega) (by omega)).mp z; omega)]
    have e2 : Int32.ofNat at0 + 2 = Int32.ofNat (at0 + 2) := n32_add (b := 2)
    rw [e2]
    have hnext : ∀ m' : hx_M, (∀ k, k ≠ 21 → m'.1 k = μ.1 k) → m'.2 = μ.2 → hl_wish ans mn (fun h => a.2.1 10 (4 * t + h)) (fun k => hw_old a k t) own (r :: rs) = hl_wish ans mn (fun h => a.2.1 10 (4 * t + h)) (fun k => hw_old a k t) own rs → wX6_wishByRules_L12 Λ lc own (Int32.ofNat t) cc K (rs.length + 1) (Int32.ofNat (at0 + 2 + r.2.length)) (Int32.ofNat j + 1) m' := by
      intro m' h1 h2 h3
      rw [h3] at k
      rw [n32_add1]
      exact ih _ _ m' (by omega) h1 h2 c5 (fun r' hr' => hok r' (List.mem_cons_of_mem _ hr')) k
    have hh : hl_holds (m.1 22) r.2 = hl_holds ans r.2 := hl_holds_congr (fun i hi => by rw [hm1 22 (by omega)]; exact ha i hi) hokr.2.2.2.2.2.2.2
    refine t_holds s2 s3 c1 hokr.2.2.2.2.2.2.2 (fun i s h => by rw [hm1 cc (by omega)]; exact c4 i s h) ?_
    rw [hh]
    by_cases g1 : hl_holds ans r.2 = true
    · rw [b01_1 g1]
      refine sel1 ?_
      unfold wX1_verbOf
      rw [d1]
      have hv : ∀ k, k ≠ 21 → (hx_sI m 21 5 (Int32.ofNat r.1.1)).1 k = μ.1 k := by
        intro i hi
        show (if i = 21 then _ else m.1 i) = _
        rw [if_neg hi]
        exact hm1 i hi
      have hv5 : (hx_sI m 21 5 (Int32.ofNat r.1.1)).1 21 5 = Int32.ofNat r.1.1 := by simp [hm_sI]
      by_cases g2 : r.1.1 = 2
      · refine selE (by rw [g2]; rfl) ?_
        have hw : hl_wish ans mn (fun h => a.2.1 10 (4 * t + h)) (fun k => hw_old a k t) own (r :: rs) = (own, 2) := by
          simp only [hl_wish, g1, g2, if_true]
        unfold wX6_wishByRules_J96
        refine selF hown ?_
        unfold wX1_byOf wX6_goal
        rw [hv5]
        rw [hw] at k
        refine selN ?_ (selN ?_ (k _ hv hm2 ?_))
        · rw [g2]; decide
        · rw [g2]; decide
        · rw [hv5, g2]
      · refine selN (fun z => g2 ((n32_eq (b := 2) (by omega) (by omega)).mp z)) ?_
        have hc' : CW 0 a (hx_sI m 21 5 (Int32.ofNat r.1.1)) := hc.frs (fun i hi => hv i (by omega)) (by show m.2 7 = _; rw [hm2])
        refine meanC hc' w ht hp hokr (mn := mn) (fun w hw4 => by rw [hv 24 (by omega)]; exact hm w hw4) ?_
        unfold wX6_wishByRules_J96
        have hw : hl_wish ans mn (fun h => a.2.1 10 (4 * t + h)) (fun k => hw_old a k t) own (r :: rs) = if hl_mean mn (fun h => a.2.1 10 (4 * t + h)) (fun k => hw_old a k t) r = -1 then hl_wish ans mn (fun h => a.2.1 10 (4 * t + h)) (fun k => hw_old a k t) own rs else (hl_goal r.1.1 own (hl_mean mn (fun h => a.2.1 10 (4 * t + h)) (fun k => hw_old a k t) r) (Int32.ofNat r.1.2.2.2), r.1.1) := by
          simp only [hl_wish, g1, if_true, if_neg g2]
        refine ⟨fun z => ?_, fun z => ?_⟩
        · unfold wX6_wishByRules_J117_15
          exact hnext _ hv hm2 (by rw [hw, if_pos z])
        · rw [if_neg z] at hw
          unfold wX1_byOf
          rw [d3]
          rw [hw] at k
          exact goalC (by omega) hv5 (k _ hv hm2 hv5)
    · rw [b01_0 g1]
      refine sel0 ?_
      unfold wX6_wishByRules_J117
      exact hnext m hm1 hm2 (by simp only [hl_wish, if_neg g1])
theorem wishOf_L112 {m0 : hx_M} {lc : Nat} {own : Int32} {t0 : Int32} {mn : Nat → Int32} {K1 : hx_M → Prop} (hm : ∀ w, w < 4 → m0.1 24 w = mn w) (k : ∀ m, (∀ k, k ≠ 22 → m.1 k = m0.1 k) → m.2 = m0.2 → (∀ i, i < 12 → m.1 22 i = if i < 8 then m0.1 22 i else if 0 < mn (i - 8) then mn (i - 8) else 0) → K1 m) : ∀ (r i : Nat) (m : hx_M), i + r = 4 → (∀ k, k ≠ 22 → m.1 k = m0.1 k) → m.2 = m0.2 → (∀ q, q < 12 → m.1 22 q = if q < 8 + i ∧ 8 ≤ q then (if 0 < mn (q - 8) then mn (q - 8) else 0) else m0.1 22 q) → wX6_wishOf_L112 Λ lc t0 own K K1 (r + 1) (Int32.ofNat i) m := by
  intro r
  induction r with
  | zero =>
    intro i m e h1 h2 h3
    obtain rfl : i = 4 := by omega
    unfold wX6_wishOf_L112
    refine selT (by decide) (k m h1 h2 (fun q hq => ?_))
    rw [h3 q hq]
    by_cases c : q < 8
    · rw [if_neg (by omega), if_pos c]
    · rw [if_pos (by omega), if_neg c]
  | succ r ih =>
    intro i m e h1 h2 h3
    unfold wX6_wishOf_L112
    refine selF (fun z => by have := (n32_lt (a := 3) (by omega) (by omega)).mp z; omega) ⟨n32_in (by omega) (by omega), ?_⟩
    rintro x rfl
    have e8 : 8 + Int32.ofNat i = Int32.ofNat (8 + i) := n32_add (a := 8)
    rw [e8, n32_nat (by omega), n32_nat (by omega), n32_add1, h1 24 (by omega), hm i (by omega)]
    refine ⟨n32_in (by omega) (by omega), ih (i + 1) _ (by omega) (fun q hq => ?_) h2 (fun q hq => ?_)⟩
    · show (if q = 22 then _ else m.1 q) = _
      rw [if_neg hq]
      exact h1 q hq
    · rw [hm_sI]
      by_cases c : q = 8 + i
      · subst c
        rw [if_pos ⟨rfl, rfl⟩, if_pos (show 8 + i < 8 + (i + 1) ∧ 8 ≤ 8 + i by omega), show 8 + i - 8 = i by omega]
      · rw [if_neg (fun z => c z.2), h3 q hq]
        by_cases c2 : q < 8 + i ∧ 8 ≤ q
        · rw [if_pos c2, if_pos (show q < 8 + (i + 1) ∧ 8 ≤ q by omega)]
        · rw [if_neg c2, if_neg (show ¬ (q < 8 + (i + 1) ∧ 8 ≤ q) by omega)]
end WC
def hw_ans (a : hw_T) (p t : Nat) (coin worn chance : Int32) : Nat → Int32 := fun i => if i = 0 then Int32.ofNat (t + 1) else if i = 1 then a.2.1 6 (16 * t + p) else if i = 2 then a.2.1 1 p else if i = 3 then coin else if i = 4 then a.2.1 0 p else if i = 5 then a.2.1 11 t else if i = 6 then chance else if i = 7 then worn else if 0 < hw_mean a p (i - 8) t then hw_mean a p (i - 8) t else 0
/-- what a person wants for the season behind t, and by which verb -/
def hw_wish (a : hw_T) (l : List hl_R) (p t : Nat) (coin worn chance : Int32) : Int32 × Nat := hl_wish (hw_ans a p t coin worn chance) (fun w => hw_mean a p w t) (fun h => a.2.1 10 (4 * t + h)) (fun k => hw_old a k t) (a.2.1 6 (16 * t + p)) l
theorem meanW_congr {rank rank' len len' : Nat → Int32} {S : Int32} {p who n : Nat} (hp : p < n) (hr : ∀ q, q < n → rank q = rank' q) (hl : ∀ q, q < n → len q = len' q) : meanW rank S len p who n = meanW rank' S len' p who n := by
  have e1 : ∀ q, q < n → (selq rank S p who q ↔ selq rank' S p who q) := fun q hq => by
    unfold selq
    rw [hr q hq, hr p hp]
  have e2 : meanCnt rank S p who n = meanCnt rank' S p who n := sumN_eq fun q hq => by simp only [e1 q hq]
  have e3 : meanSum rank S len p who n = meanSum rank' S len' p who n := sumN_eq fun q hq => by simp only [e1 q hq, hl q hq]
  unfold meanW
  rw [e2, e3]
theorem lookC {a : hw_T} {Λ : hx_L} {μ : hx_M} {p t : Nat} {K : hx_M → Prop} (F : cF Λ) (hc : CW 0 a μ) (w : WF 300 a) (ht : t ≤ a.1.2.1) (hp : p < a.1.1) (k : ∀ m, off2 23 24 μ m → (∀ w, w < 4 → m.1 24 w = hw_mean a p w t) → K m) : wX6_look Λ μ (Int32.ofNat p) (Int32.ofNat t) K := by
  have hn := w.n
  have hs := w.s
  refine t_look F hc.n hn (by omega) hp (fun q hq => by rw [hc.rank hq]; exact (w.2.2.1 q hq).1) (fun m h1 h2 => k m h1 (fun i hi => ?_))
  rw [h2 i hi, hc.sees hp]
  exact meanW_congr hp (fun q hq => hc.rank hq) (fun q hq => hc.len ht hq)
theorem len_ne {a : hw_T} {p t : Nat} (w : WF 300 a) (ht : t ≤ a.1.2.1) (hp : p < a.1.1) : a.2.1 6 (16 * t + p) ≠ -1 := fun z => by
  have := (w.2.2.2.2.1 t p ht hp).1
  rw [z] at this
  exact absurd this (by decide)
theorem wishC {a : hw_T} {Λ : hx_L} {μ : hx_M} {p t f lc : Nat} {l : List hl_R} {coin worn chance : Int32} {K : Int32 → hx_M → Prop} (F : cF Λ) (hc : CW 0 a μ) (w : WF 300 a) (ht : t ≤ a.1.2.1) (hp : p < a.1.1) (hl : hl_LC Λ μ f l) (hlc : Λ.2.1 6 f = some lc) (hl16 : l.length ≤ 16) (hok : ∀ r ∈ l, hl_okR r)
    (k : ∀ m, offR μ m → m.1 21 5 = Int32.ofNat (hw_wish a l p t coin worn chance).2 → K (hw_wish a l p t coin worn chance).1 m) : wX6_wishOf Λ μ lc (Int32.ofNat p) (Int32.ofNat (t + 1)) coin worn chance K := by
  have hn := w.n
  have hs := w.s
  obtain ⟨lc', cc, len, b1, b2, b3, b4, b5, b6, b7, b8, b9, b10, b11⟩ := hl
  rw [hlc] at b1
  cases b1
  have et : Int32.ofNat (t + 1) - 1 = Int32.ofNat t := by rw [← n32_add1, Int32.add_sub_cancel]
  have vp : vp_in (Int32.ofNat p) 16 := n32_in (by omega) (by omega)
  have z0 : (0 : Int32).toNatClampNeg = 0 := rfl
  have z1 : (1 : Int32).toNatClampNeg = 1 := rfl
  have z2 : (2 : Int32).toNatClampNeg = 2 := rfl
  have z3 : (3 : Int32).toNatClampNeg = 3 := rfl
  have z4 : (4 : Int32).toNatClampNeg = 4 := rfl
  have z5 : (5 : Int32).toNatClampNeg = 5 := rfl
  have z6 : (6 : Int32).toNatClampNeg = 6 := rfl
  have z7 : (7 : Int32).toNatClampNeg = 7 := rfl
  unfold wX6_wishOf
  rw [et]
  refine lenC hc w ht hp ⟨by unfold vp_in; decide, by unfold vp_in; decide, vp, by unfold vp_in; decide, ?_⟩
  rintro m1 rfl
  refine ⟨by unfold vp_in; decide, vp, by unfold vp_in; decide, n32_in (by omega) (by omega), by unfold vp_in; decide, ?_⟩
  rintro m2 rfl
  refine ⟨by unfold vp_in; decide, by unfold vp_in; decide, ?_⟩
  rw [n32_nat (by omega), n32_nat (by omega), z0, z1, z2, z3, z4, z5, z6, z7]
  generalize hm0 : hx_sI (hx_sI (hx_sI (hx_sI (hx_sI (hx_sI (hx_sI (hx_sI μ 22 0 (Int32.ofNat (t + 1))) 22 1 (a.2.1 6 (16 * t + p))) 22 2 (μ.1 10 p)) 22 3 coin) 22 4 ((hx_sI (hx_sI (hx_sI μ 22 0 (Int32.ofNat (t + 1))) 22 1 (a.2.1 6 (16 * t + p))) 22 2 (μ.1 10 p)).1 9 p)) 22 5 ((hx_sI (hx_sI (hx_sI μ 22 0 (Int32.ofNat (t + 1))) 22 1 (a.2.1 6 (16 * t + p))) 22 2 (μ.1 10 p)).1 20 t)) 22 6 chance) 22 7 worn = m0
  have o0 : offR μ m0 := by
    rw [← hm0]
    exact (((((((offR.rf.sI (by omega)).sI (by omega)).sI (by omega)).sI (by omega)).sI (by omega)).sI (by omega)).sI (by omega)).sI (by omega)
  have a0 : ∀ i, i < 8 → m0.1 22 i = hw_ans a p t coin worn chance i := by
    intro i hi
    have q1 := hc.purse hp
    have q2 := hc.rank hp
    have q3 := hc.money ht
    rw [← hm0]
    have : i = 0 ∨ i = 1 ∨ i = 2 ∨ i = 3 ∨ i = 4 ∨ i = 5 ∨ i = 6 ∨ i = 7 := by omega
    rcases this with rfl | rfl | rfl | rfl | rfl | rfl | rfl | rfl <;> simp [hm_sI, hw_ans, q1, q2, q3]
  refine lookC F (hc.oR o0) w ht hp (fun m3 h3 h4 => ?_)
  have o3 : offR μ m3 := o0.tr (offR.o2 h3)
  refine ⟨5, wishOf_L112 (m0 := m3) h4 (fun m5 h5 h6 h7 => ?_) 4 0 m3 (by omega) (fun _ _ => rfl) rfl (fun q hq => by rw [if_neg (by omega)])⟩
  have o5 : offR μ m5 := o3.tr ⟨fun i hi => h5 i (by omega), h6⟩
  unfold wX6_wishByRules
  refine ⟨b6, cc, b7, l.length + 1, wishByRules_L12 (ans := hw_ans a p t coin worn chance) (hc.oR o5) w ht hp (mn := fun i => hw_mean a p i t) (fun i hi => by rw [h5 24 (by omega)]; exact h4 i hi) (fun i hi => ?_) b6 b8 b9 b2 b4 (by rw [o5.1 lc (by omega)]; exact b10) hl16 (len_ne w ht hp) l 0 0 m5 (by omega) (fun _ _ => rfl) rfl (hl_C.fr (o5.1 cc (by omega)) b11) hok (fun m6 h8 h9 h10 => k m6 (o5.tr ⟨fun i hi => h8 i (by omega), h9⟩) h10)⟩
  rw [h7 i hi]
  by_cases c : i < 8
  · rw [if_pos c, h3.1 22 (by omega) (by omega), a0 i c]
  · rw [if_neg c]
    simp only [hw_ans, show ¬ i = 0 by omega, show ¬ i = 1 by omega, show ¬ i = 2 by omega, show ¬ i = 3 by omega, show ¬ i = 4 by omega, show ¬ i = 5 by omega, show ¬ i = 6 by omega, show ¬ i = 7 by omega, if_false]
