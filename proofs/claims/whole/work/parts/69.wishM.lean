/-! layer 2: what a person wants: the reference -/
/-- the same but for what wants writes -/
def offW (μ m : hx_M) : Prop := (∀ k, k ≠ 49 → k ≠ 73 → k ≠ 76 → k ≠ 77 → m.1 k = μ.1 k) ∧ (∀ j, j ≠ 45 → m.1 49 j = μ.1 49 j) ∧ m.2 = μ.2
theorem offW.rf {μ : hx_M} : offW μ μ := ⟨fun _ _ _ _ _ => rfl, fun _ _ => rfl, rfl⟩
theorem offW.tr {μ m m' : hx_M} (h1 : offW μ m) (h2 : offW m m') : offW μ m' := ⟨fun k a b c d => (h2.1 k a b c d).trans (h1.1 k a b c d), fun j hj => (h2.2.1 j hj).trans (h1.2.1 j hj), h2.2.2.trans h1.2.2⟩
theorem offW.sI {μ m : hx_M} {c j : Nat} {v : Int32} (h : offW μ m) (hc : c = 73 ∨ c = 76 ∨ c = 77) : offW μ (hx_sI m c j v) := by
  refine ⟨fun k a b c2 d => ?_, fun i hi => ?_, h.2.2⟩
  · show (if k = c then _ else m.1 k) = μ.1 k
    rw [if_neg (by omega)]
    exact h.1 k a b c2 d
  · rw [hm_sI, if_neg (by omega)]
    exact h.2.1 i hi
theorem offW.s45 {μ m : hx_M} {v : Int32} (h : offW μ m) : offW μ (hx_sI m 49 45 v) := by
  refine ⟨fun k a b c2 d => ?_, fun i hi => ?_, h.2.2⟩
  · show (if k = 49 then _ else m.1 k) = μ.1 k
    rw [if_neg (by omega)]
    exact h.1 k a b c2 d
  · rw [hm_sI, if_neg (by omega)]
    exact h.2.1 i hi
theorem offW.keep {μ m : hx_M} (h : offW μ m) : keepM μ m := ⟨fun k hk => ⟨h.1 k (by omega) (by omega) (by omega) (by omega), by rw [h.2.2]⟩, fun j hj => h.2.1 j (by simp at hj; omega)⟩
theorem MW.oW {a : hw_T} {μ m : hx_M} (h : MW a μ) (o : offW μ m) : MW a m := h.fr (fun j hj => o.2.1 j (by simp at hj; omega)) (by rw [o.2.2]) (fun k hk => o.1 k (by omega) (by omega) (by omega) (by omega))
theorem meanM {a : hw_T} {μ : hx_M} {p t w0 : Nat} {K : Int32 → Prop} (hm : MW a μ) (w : WF 300 a) (ht : t ≤ a.1.2.1) (hp : p < a.1.1) (hw : w0 < 4) (k : K (hw_mean a p w0 t)) : wX12_meanOf μ (Int32.ofNat p) (Int32.ofNat w0) (Int32.ofNat t) K := by
  have hn := w.n
  have hs := w.s
  refine t_meanOf hm.n hn (by omega) hp hw ?_
  rw [hm.sees hp, show meanW (μ.1 50) (a.2.1 2 p) (fun q => μ.1 57 (16 * t + q)) p w0 a.1.1 = hw_mean a p w0 t from meanW_congr hp (fun q hq => hm.rank hq) (fun q hq => hm.len ht hq)]
  exact k
theorem wants_L11 {a : hw_T} {μ : hx_M} {p t : Nat} {v1 v4 v5 v6 v7 : Int32} {K : Int32 → hx_M → Prop} {K1 : hx_M → Prop} (hm : MW a μ) (w : WF 300 a) (ht : t ≤ a.1.2.1) (hp : p < a.1.1) (k : ∀ m, offW μ m → (∀ i, i < 4 → m.1 76 i = hw_mean a p i t) → K1 m) : ∀ (r i : Nat) (m : hx_M), i + r = 4 → offW μ m → (∀ q, q < i → m.1 76 q = hw_mean a p q t) → wX12_wants_L11 v1 (Int32.ofNat p) (Int32.ofNat t) v4 v5 v6 v7 K K1 (r + 1) (Int32.ofNat i) m := by
  intro r
  induction r with
  | zero =>
    intro i m e h1 h2
    obtain rfl : i = 4 := by omega
    unfold wX12_wants_L11
    exact selT (by decide) (k m h1 h2)
  | succ r ih =>
    intro i m e h1 h2
    unfold wX12_wants_L11
    refine selF (fun z => by have := (n32_le (a := 4) (by omega) (by omega)).mp z; omega) (meanM (hm.oW h1) w ht hp (by omega) ⟨n32_in (by omega) (by omega), ?_⟩)
    rw [n32_nat (by omega), n32_add1]
    refine ih (i + 1) _ (by omega) (h1.sI (by omega)) (fun q hq => ?_)
    rw [hm_sI]
    by_cases c : q = i
    · rw [if_pos ⟨rfl, c⟩, c]
    · rw [if_neg (fun z => c z.2)]
      exact h2 q (by omega)
theorem wants_L119 {m0 : hx_M} {v1 v3 own : Int32} {mn : Nat → Int32} {K : Int32 → hx_M → Prop} {K1 : hx_M → Prop} (hm : ∀ w, w < 4 → m0.1 76 w = mn w) (k : ∀ m, offW m0 m → (∀ w, w < 4 → m.1 76 w = mn w) → (∀ i, i < 12 → m.1 77 i = if i < 8 then m0.1 77 i else if 0 < mn (i - 8) then mn (i - 8) else 0) → K1 m) : ∀ (r i : Nat) (m : hx_M), i + r = 4 → offW m0 m → (∀ w, w < 4 → m.1 76 w = mn w) → (∀ q, q < 12 → m.1 77 q = if q < 8 + i ∧ 8 ≤ q then (if 0 < mn (q - 8) then mn (q - 8) else 0) else m0.1 77 q) → wX12_wants_L119 v1 v3 own K K1 (r + 1) (Int32.ofNat i) m := by
  intro r
  induction r with
  | zero =>
    intro i m e h1 h2 h3
    obtain rfl : i = 4 := by omega
    unfold wX12_wants_L119
    refine selT (by decide) (k m h1 h2 (fun q hq => ?_))
    rw [h3 q hq]
    by_cases c : q < 8
    · rw [if_neg (by omega), if_pos c]
    · rw [if_pos (by omega), if_neg c]
  | succ r ih =>
    intro i m e h1 h2 h3
    unfold wX12_wants_L119
    refine selF (fun z => by have := (n32_le (a := 4) (by omega) (by omega)).mp z; omega) ⟨n32_in (by omega) (by omega), ?_⟩
    rintro x rfl
    have e8 : 8 + Int32.ofNat i = Int32.ofNat (8 + i) := n32_add (a := 8)
    rw [e8, n32_nat (by omega), n32_nat (by omega), n32_add1, h2 i (by omega)]
    refine ⟨n32_in (by omega) (by omega), ih (i + 1) _ (by omega) (h1.sI (by omega)) (fun w hw => by rw [hm_sI, if_neg (by omega)]; exact h2 w hw) (fun q hq => ?_)⟩
    rw [hm_sI]
    by_cases c : q = 8 + i
    · subst c
      rw [if_pos ⟨rfl, rfl⟩, if_pos (show 8 + i < 8 + (i + 1) ∧ 8 ≤ 8 + i by omega), show 8 + i - 8 = i by omega]
    · rw [if_neg (fun z => c z.2), h3 q hq]
      by_cases c2 : q < 8 + i ∧ 8 ≤ q
      · rw [if_pos c2, if_pos (show q < 8 + (i + 1) ∧ 8 ≤ q by omega)]
      · rw [if_neg c2, if_neg (show ¬ (q < 8 + (i + 1) ∧ 8 ≤ q) by omega)]
theorem meanOfAllM {a : hw_T} {μ : hx_M} {t : Nat} {K : Int32 → Prop} (hm : MW a μ) (w : WF 300 a) (ht : t ≤ a.1.2.1) (h0 : 0 < a.1.1) (k : K (hw_sum a t / Int32.ofNat a.1.1)) : wX12_meanOfAll μ (Int32.ofNat t) K := by
  have hn := w.n
  have hs := w.s
  unfold wX12_meanOfAll
  rw [hm.n]
  refine selF (n32_nn (by omega)) (selN (n32_ne0 h0 (by omega)) ⟨a.1.1 + 1, t_meanOfAll_L hm.n hn h0 (by omega) (by rw [rowM_eq hm ht]; exact k) a.1.1 0 (by omega)⟩)
theorem meanByM {a : hw_T} {μ m : hx_M} {t q : Nat} {r : hl_R} {K : Int32 → Prop} {mn : Nat → Int32} (hm : MW a m) (w : WF 300 a) (ht : t ≤ a.1.2.1) (h0 : 0 < a.1.1) (hok : hl_okR r) (hq : q < 96) (e1 : m.1 65 q = Int32.ofNat r.1.2.1) (e2 : m.1 66 q = Int32.ofNat r.1.2.2.1) (hmn : ∀ w, w < 4 → m.1 76 w = mn w) (k : K (hl_mean mn (fun h => a.2.1 10 (4 * t + h)) (fun k => hw_old a k t) r)) : wX12_meanBy m (Int32.ofNat q) (Int32.ofNat t) K := by
  have hn := w.n
  have hs := w.s
  obtain ⟨h1, h2, h3, h4, h5, h6, h7, h8⟩ := hok
  have vq : vp_in (Int32.ofNat q) 96 := n32_in (by omega) (by omega)
  unfold wX12_meanBy
  rw [n32_nat (by omega), e1, e2]
  unfold hl_mean at k
  by_cases c1 : r.1.2.1 ≤ 3
  · rw [if_pos c1] at k
    refine ⟨vq, selN (fun z => by have := (n32_eq (b := 4) (by omega) (by omega)).mp z; omega) ⟨vq, selN (fun z => by have := (n32_eq (b := 5) (by omega) (by omega)).mp z; omega) ⟨vq, n32_in (by omega) (by omega), ?_⟩⟩⟩
    rintro x rfl
    rw [n32_nat (by omega), hmn _ (by omega)]
    exact k
  · rw [if_neg c1] at k
    by_cases c2 : r.1.2.1 = 4
    · rw [if_pos c2] at k
      exact ⟨vq, selE (by rw [c2]; rfl) ⟨vq, houseM hm w ht (by have := h4 c2; omega) k⟩⟩
    · rw [if_neg c2] at k
      have c5 : r.1.2.1 = 5 := by omega
      refine ⟨vq, selN (fun z => c2 ((n32_eq (b := 4) (by omega) (by omega)).mp z)) ⟨vq, selE (by rw [c5]; rfl) ⟨vq, ?_⟩⟩⟩
      have hsub := n32_sub (a := t) (b := r.1.2.2.1) (by omega) (by omega)
      simp only [hw_old] at k
      by_cases c3 : r.1.2.2.1 ≤ t
      · rw [if_pos c3] at k
        have e : Int32.ofNat t - Int32.ofNat r.1.2.2.1 = Int32.ofNat (t - r.1.2.2.1) := by
          rw [← Int32.toInt_inj, hsub, Int32.toInt_ofNat_of_lt (by omega)]; omega
        rw [e]
        exact meanOfAllM hm w (by omega) h0 k
      · rw [if_neg c3] at k
        unfold wX12_meanOfAll
        refine selT ?_ k
        rw [Int32.lt_iff_toInt_lt, hsub]
        have : (0 : Int32).toInt = 0 := rfl
        rw [this]
        omega
