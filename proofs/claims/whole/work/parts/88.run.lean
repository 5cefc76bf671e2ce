/-! layer 2: run -/
def hw_run (l : List hl_R) : Nat → hw_T → hw_T
  | 0, a => a
  | r + 1, a => hw_run l r (hw_step a l)
theorem run_s {l : List hl_R} : ∀ (r : Nat) (a : hw_T), (hw_run l r a).1 = (a.1.1, a.1.2.1 + r, a.1.2.2)
  | 0, _ => rfl
  | r + 1, a => by
    show (hw_run l r (hw_step a l)).1 = _
    rw [run_s r]
    show (a.1.1, a.1.2.1 + 1 + r, a.1.2.2) = _
    rw [show a.1.2.1 + 1 + r = a.1.2.1 + (r + 1) by omega]
theorem run_WF {l : List hl_R} {S : Nat} (hS : S ≤ 300) (hok : ∀ r ∈ l, hl_okR r) : ∀ (r : Nat) (a : hw_T), WF S a → 0 < a.1.1 → a.1.2.1 + r ≤ S → WF S (hw_run l r a)
  | 0, _, w, _, _ => w
  | r + 1, a, w, h0, hs => run_WF hS hok r (hw_step a l) (WF_step w hS (by omega) h0 hok) h0 (by show a.1.2.1 + 1 + r ≤ S; omega)
theorem WF.up2 {S : Nat} {a : hw_T} (w : WF S a) (hS : S ≤ 300) : WF 300 a := by
  obtain ⟨⟨h1, h2, h3⟩, h4⟩ := w
  exact ⟨⟨h1, by omega, h3⟩, h4⟩
/-- the law in force, the class -/
def LKC (Λ : hx_L) (μ : hx_M) (f lc : Nat) (l : List hl_R) : Prop := cF Λ ∧ hl_LC Λ μ f l ∧ Λ.2.1 6 f = some lc ∧ μ.1 15 0 = Int32.ofNat 301 ∧ l.length ≤ 16 ∧ ∀ r ∈ l, hl_okR r
/-- the law in force, the reference -/
def LKM (μ : hx_M) (sm f : Nat) (l : List hl_R) : Prop := hl_LM μ sm f l ∧ μ.1 49 21 = Int32.ofNat f ∧ f < 5 ∧ sm ≤ 3500 ∧ l.length ≤ 16 ∧ ∀ r ∈ l, hl_okR r
theorem LKC.fr {Λ : hx_L} {μ m : hx_M} {f lc : Nat} {l : List hl_R} (h : LKC Λ μ f lc l) (h15 : m.1 15 = μ.1 15) (hk : ∀ k, 93 ≤ k → m.1 k = μ.1 k) : LKC Λ m f lc l := by
  obtain ⟨h0, ⟨lc', cc, len, b1, b2, b3, b4, b5, b6, b7, b8, b9, b10, b11⟩, h2, h3, h4⟩ := h
  exact ⟨h0, ⟨lc', cc, len, b1, b2, b3, b4, b5, b6, b7, b8, b9, by rw [hk lc' b2]; exact b10, hl_C.fr (hk cc b4) b11⟩, h2, by rw [h15]; exact h3, h4⟩
theorem LKC.oP {Λ : hx_L} {μ m : hx_M} {f lc : Nat} {l : List hl_R} (h : LKC Λ μ f lc l) (o : offP μ m) : LKC Λ m f lc l := h.fr (o 15 (by omega)).1 (fun k hk => (o k (by omega)).1)
theorem LKM.fr {μ m : hx_M} {sm f : Nat} {l : List hl_R} (h : LKM μ sm f l) (h21 : m.1 49 21 = μ.1 49 21) (hk : ∀ k, 63 ≤ k → k ≤ 72 → m.1 k = μ.1 k) : LKM m sm f l := by
  obtain ⟨⟨h1, h2⟩, h3, h4⟩ := h
  exact ⟨⟨by rw [hk 63 (by omega) (by omega)]; exact h1, hl_M.fr (fun k a b => hk k (by omega) b) h2⟩, by rw [h21]; exact h3, h4⟩
theorem LKM.oG {μ m : hx_M} {sm f : Nat} {l : List hl_R} (h : LKM μ sm f l) (o : offG μ m) : LKM m sm f l := h.fr (o.2.1 21 (by omega) (by omega)) (fun k a b => o.1 k (by omega) (by omega) (by omega) (by omega) (by omega))
theorem offP.keep {μ m : hx_M} (h : offP μ m) : keepC μ m := fun k hk => h k (by omega)
theorem offG.keep {μ m : hx_M} (h : offG μ m) : keepM μ m := ⟨fun k hk => ⟨h.1 k (by omega) (by omega) (by omega) (by omega) (by omega), h.2.2.1 k (by omega)⟩, fun j hj => h.2.1 j (by simp at hj; omega) (by simp at hj; omega)⟩
theorem passC {a : hw_T} {Λ : hx_L} {μ : hx_M} {f lc : Nat} {l : List hl_R} {K : hx_M → Prop} (hl : LKC Λ μ f lc l) (hc : CW 0 a μ) (w : WF 300 a) (hs : a.1.2.1 < 300) (k : ∀ m, offP μ m → CW 0 (hw_step a l) m → K m) : wX10_pass Λ μ lc K := stepC hl.1 hc w hs hl.2.2.2.1 hl.2.1 hl.2.2.1 hl.2.2.2.2.1 hl.2.2.2.2.2 k
theorem passM {a : hw_T} {μ : hx_M} {f sm : Nat} {l : List hl_R} {K : hx_M → Prop} (hl : LKM μ sm f l) (hc : MW a μ) (w : WF 300 a) (hs : a.1.2.1 < 300) (k : ∀ m, offG μ m → MW (hw_step a l) m → K m) : wX12_step μ K := stepM hc w hs hl.2.1 hl.2.2.1 hl.2.2.2.1 hl.1 hl.2.2.2.2.1 hl.2.2.2.2.2 k
theorem run_L51 {Λ : hx_L} {f lc n S : Nat} {l : List hl_R} {K : Int32 → hx_M → Prop} {μ : hx_M} (hn : n ≤ 100) (hS : S ≤ 300) (hl : LKC Λ μ f lc l) : ∀ (r i : Nat) (a : hw_T) (m : hx_M), i + r = n → WF S a → 0 < a.1.1 → a.1.2.1 + r ≤ S → CW 0 a m → offP μ m → (∀ m', offP μ m' → CW 0 (hw_run l r a) m' → K (m'.1 7 7) m') → wX11_run_L51 Λ (Int32.ofNat n) lc K (r + 1) (Int32.ofNat i) m := by
  intro r
  induction r with
  | zero =>
    intro i a m e w h0 hs hc o k
    obtain rfl : i = n := by omega
    unfold wX11_run_L51
    exact selT (Int32.le_refl _) (k m o hc)
  | succ r ih =>
    intro i a m e w h0 hs hc o k
    unfold wX11_run_L51
    rw [n32_add1]
    refine selF (fun z => by have := (n32_le (by omega) (by omega)).mp z; omega) (passC (hl.oP o) hc (w.up2 hS) (by omega) (fun m1 o1 c1 => ?_))
    exact ih (i + 1) _ m1 (by omega) (WF_step w hS (by omega) h0 hl.2.2.2.2.2) h0 (by show a.1.2.1 + 1 + r ≤ S; omega) c1 (o.tr o1) k
theorem run_L41 {f n S sm : Nat} {l : List hl_R} {K : Int32 → hx_M → Prop} {μ : hx_M} (hn : n ≤ 100) (hS : S ≤ 300) (hl : LKM μ sm f l) : ∀ (r i : Nat) (a : hw_T) (m : hx_M), i + r = n → WF S a → 0 < a.1.1 → a.1.2.1 + r ≤ S → MW a m → offG μ m → (∀ m', offG μ m' → MW (hw_run l r a) m' → K (m'.1 49 1) m') → wX12_run_L41 (Int32.ofNat n) K (r + 1) (Int32.ofNat i) m := by
  intro r
  induction r with
  | zero =>
    intro i a m e w h0 hs hc o k
    obtain rfl : i = n := by omega
    unfold wX12_run_L41
    exact selT (Int32.le_refl _) (k m o hc)
  | succ r ih =>
    intro i a m e w h0 hs hc o k
    unfold wX12_run_L41
    rw [n32_add1]
    refine selF (fun z => by have := (n32_le (by omega) (by omega)).mp z; omega) (passM (hl.oG o) hc (w.up2 hS) (by omega) (fun m1 o1 c1 => ?_))
    exact ih (i + 1) _ m1 (by omega) (WF_step w hS (by omega) h0 hl.2.2.2.2.2) h0 (by show a.1.2.1 + 1 + r ≤ S; omega) c1 (o.tr o1) k
/-- the law in force, in both -/
theorem LAWS.force {Λ : hx_L} {μ : hx_M} {ls : List (List hl_R)} {f : Nat} (h : LAWS Λ μ ls (some f)) (F : cF Λ) (h15 : μ.1 15 0 = Int32.ofNat 301) : ∃ l lc sm, Λ.2.1 6 f = some lc ∧ LKC Λ μ f lc l ∧ LKM μ sm f l := by
  obtain ⟨l, sm, g1, g2, g3, g4, g5, g6⟩ := h.get h.2.2.2.1.1
  have hlen := h.1
  have hf := h.2.2.2.1.1
  have h21 := h.2.2.2.1.2.2
  have g5' := g5
  obtain ⟨lc, cc, len, b1, b2⟩ := g5
  exact ⟨l, lc, sm, b1, ⟨F, g5', b1, h15, g2, g3⟩, g6, h21, by omega, g4, g2, g3⟩
theorem op_run (Λ : hx_L) (μ : hx_M) (a1 : Int32) (h : hI Λ μ) : wL_10 Λ μ a1 hI := by
  obtain ⟨hF, hM, h15, a, ls, fo, is, w, hc, hm, ht, hl, hi⟩ := id h
  have hn := w.n
  have hs := w.s
  unfold wL_10 wX11_run
  by_cases h1 : 1 ≤ a1 ∧ a1 ≤ 60
  · obtain ⟨n, rfl, hn60⟩ := n32_of (hi := 60) (Int32.le_trans (by decide) h1.1) h1.2 (by omega)
    have e200 : (200 : Int32) = Int32.ofNat 200 := rfl
    rw [hc.s, n32_add, e200]
    by_cases h2 : 200 < a.1.2.1 + n
    · have refn : wX12_run μ (Int32.ofNat n) (fun q m1 => -1 = q ∧ hI Λ m1) := by
        unfold wX12_run
        rw [hm.s, n32_add]
        exact t_isInY h1 (sel1 (selT ((n32_lt (a := 200) (by omega) (by omega)).mpr h2) ⟨rfl, h⟩))
      cases fo with
      | none => exact lawC0 hl (t_withinY h1 (sel1 (selT ((n32_lt (a := 200) (by omega) (by omega)).mpr h2) refn)))
      | some f => exact lawC1 hl (t_withinY h1 (sel1 (selT ((n32_lt (a := 200) (by omega) (by omega)).mpr h2) refn)))
    · have h2' : ¬ Int32.ofNat 200 < Int32.ofNat (a.1.2.1 + n) := fun z => h2 ((n32_lt (by omega) (by omega)).mp z)
      by_cases h0 : a.1.1 = 0
      · have refn : wX12_run μ (Int32.ofNat n) (fun q m1 => -1 = q ∧ hI Λ m1) := by
          unfold wX12_run
          rw [hm.s, n32_add, hm.n]
          exact t_isInY h1 (sel1 (selF h2' (selT (by rw [h0]; rfl) ⟨rfl, h⟩)))
        cases fo with
        | none => exact lawC0 hl (t_withinY h1 (sel1 (selF h2' (t_emptyY hc h0 (seln1 refn)))))
        | some f => exact lawC1 hl (t_withinY h1 (sel1 (selF h2' (t_emptyY hc h0 (seln1 refn)))))
      · have h0' : 0 < a.1.1 := by omega
        cases fo with
        | none =>
          refine lawC0 hl (t_withinY h1 (sel1 (selF h2' (t_emptyN hc w.up h0' (seln0 ⟨fun k z => by simp at z, fun _ => ?_⟩)))))
          show wX12_run μ (Int32.ofNat n) (fun q m1 => -1 = q ∧ hI Λ m1)
          unfold wX12_run
          rw [hm.s, n32_add, hm.n, hl.2.2.2.1.2.2]
          exact t_isInY h1 (sel1 (selF h2' (selF (n32_ne0 h0' (by omega)) (selE rfl ⟨rfl, h⟩))))
        | some f =>
          obtain ⟨l, lc, sm, elc, hC, hMk⟩ := hl.force hF h15
          refine lawC1 hl (t_withinY h1 (sel1 (selF h2' (t_emptyN hc w.up h0' (seln0 ⟨fun k z => ?_, fun z => by rw [elc] at z; simp at z⟩)))))
          rw [elc] at z
          obtain rfl : lc = k := by simpa using z
          refine ⟨n + 1, run_L51 (n := n) (S := 200) (by omega) (by omega) hC n 0 a μ (by omega) w h0' (by omega) hc offP.rf (fun m1 o1 c1 => ?_)⟩
          have k1 := o1.keep
          have hm1 : MW a m1 := hm.kC k1
          unfold wX12_run
          rw [hm1.s, n32_add, hm1.n]
          have e21 : m1.1 49 21 = Int32.ofNat f := by rw [k1.a 49 (by omega)]; exact hMk.2.1
          rw [e21]
          refine t_isInY h1 (sel1 (selF h2' (selF (n32_ne0 h0' (by omega)) (selN (n32_neg (by have := hMk.2.2.1; omega) (by decide)) ⟨n + 1, ?_⟩))))
          refine run_L41 (n := n) (S := 200) (by omega) (by omega) (hMk.fr (by rw [k1.a 49 (by omega)]) (fun k a b => k1.a k (by omega))) n 0 a m1 (by omega) w h0' (by omega) hm1 offG.rf (fun m2 o2 c2 => ?_)
          refine ⟨?_, hI.q (a := a) hF hM h15 ht hl hi k1 o2.keep (run_WF (by omega) hC.2.2.2.2.2 n a w h0' (by omega)) (c1.kM o2.keep) c2⟩
          rw [c1.s, c2.s]
  · have refn : wX12_run μ a1 (fun q m1 => -1 = q ∧ hI Λ m1) := by
      unfold wX12_run
      exact t_isInN h1 (sel0 ⟨rfl, h⟩)
    cases fo with
    | none => exact lawC0 hl (t_withinN h1 (sel0 refn))
    | some f => exact lawC1 hl (t_withinN h1 (sel0 refn))
