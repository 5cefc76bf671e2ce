/-! layer 2: pushed, foretell -/
theorem op_pushed (Λ : hx_L) (μ : hx_M) (a1 a2 a3 a4 : Int32) (h : hI Λ μ) : wL_15 Λ μ a1 a2 a3 a4 hI := by
  obtain ⟨hF, hM, h15, a, ls, fo, is, w, hc, hm, ht, hl, hi⟩ := id h
  have hn := w.n
  have hs := w.s
  have law : ∀ K : Option Nat → Prop, (∀ o, (fo = none → o = none) → (∀ f, fo = some f → o = Λ.2.1 6 f) → K o) → wX11_lawInForce Λ μ K := fun K hk => by
    cases fo with
    | none => exact lawC0 hl (hk none (fun _ => rfl) (fun f z => by simp at z))
    | some f => exact lawC1 hl (hk _ (fun z => by simp at z) (fun g z => by simp at z; rw [z]))
  unfold wL_15 wX11_pushed wX11_pushed_J50 wX11_pushed_J51 wX11_pushed_J51_18
  refine law _ (fun o ho1 ho2 => ?_)
  by_cases h1 : 1 ≤ a1 ∧ a1 ≤ 100
  · obtain ⟨n, rfl, hn100⟩ := n32_of (hi := 100) (Int32.le_trans (by decide) h1.1) h1.2 (by omega)
    by_cases h3 : 1 ≤ a2 ∧ a2 ≤ 20
    · obtain ⟨ev, rfl, hev⟩ := n32_of (hi := 20) (Int32.le_trans (by decide) h3.1) h3.2 (by omega)
      have hev1 : 1 ≤ ev := (n32_le (a := 1) (by omega) (by omega)).mp h3.1
      have e2v : 2 * Int32.ofNat ev = Int32.ofNat (2 * ev) := by rw [← n32_mul]; rfl
      by_cases h4 : 0 ≤ a3 ∧ a3 ≤ 99
      · by_cases h2 : 0 ≤ a4 ∧ a4 ≤ 1
        · obtain ⟨wh, rfl, hwh⟩ := n32_of (hi := 1) h2.1 h2.2 (by omega)
          refine t_withinY h1 (sel1 (t_withinY h3 (sel1 (t_withinY h4 (sel1 (t_withinY h2 (sel1 (sel1 ⟨fun z => ?_, fun kk z => ?_⟩))))))))
          · have hfo : fo = none := by
              cases fo with
              | none => rfl
              | some f =>
                obtain ⟨l, lc, sm, elc, _⟩ := hl.force hF h15
                rw [ho2 f rfl, elc] at z
                simp at z
            subst hfo
            show wX12_pushed μ _ _ _ _ _
            unfold wX12_pushed
            exact t_isInY h1 (sel1 (t_isInY h3 (sel1 (t_isInY h4 (sel1 (t_isInY h2 (sel1 (mayTryN hm w (Or.inr hl.2.2.2.1.2.2) (seln0 ⟨rfl, h⟩)))))))))
          · by_cases h0 : a.1.1 = 0
            · refine t_emptyY hc h0 (sel1 ?_)
              show wX12_pushed μ _ _ _ _ _
              unfold wX12_pushed
              exact t_isInY h1 (sel1 (t_isInY h3 (sel1 (t_isInY h4 (sel1 (t_isInY h2 (sel1 (mayTryN hm w (Or.inl h0) (seln0 ⟨rfl, h⟩)))))))))
            · have h0' : 0 < a.1.1 := by omega
              cases fo with
              | none => rw [ho1 rfl] at z; simp at z
              | some f =>
                obtain ⟨l, lc, sm, elc, hC, hMk⟩ := hl.force hF h15
                rw [ho2 f rfl, elc] at z
                obtain rfl : lc = kk := by simpa using z
                rw [e2v]
                refine t_emptyN hc w.up h0' (sel0 (trialC (n := n) (ev := ev) (ap := 2 * ev) (told := a3) (wh := wh) hc w h0' hn100 ⟨hev1, hev⟩ (by omega) (by omega) (by omega) (Or.inr h4) hC (fun m1 k1 c1 => ?_)))
                have hm1 : MW a m1 := hm.kC k1
                have hM1 : LKM m1 sm f l := hMk.fr (by rw [k1.a 49 (by omega)]) (fun k a b => k1.a k (by omega))
                unfold wX12_pushed
                rw [e2v]
                refine t_isInY h1 (sel1 (t_isInY h3 (sel1 (t_isInY h4 (sel1 (t_isInY h2 (sel1 (mayTryY hm1 w h0' hM1 (seln1 (triesM (n := n) (ev := ev) (ap := 2 * ev) (told := a3) hm1 w h0' hn100 ⟨hev1, hev⟩ (by omega) (by omega) (Or.inr h4) hM1 (fun m2 k2 c2 a2 => ?_)))))))))))
                have fin : hI Λ m2 := hI.q (a := a) hF hM h15 ht hl hi k1 k2 w (c1.kM k2) c2
                refine ⟨fun z => ⟨?_, fin⟩, fun z => ⟨?_, fin⟩⟩
                · rw [if_neg (fun z2 => z (by rw [z2]; rfl)), a2.2]
                · rw [if_pos ((n32_eq (b := 0) (by omega) (by omega)).mp z), a2.1]
        · refine t_withinY h1 (sel1 (t_withinY h3 (sel1 (t_withinY h4 (sel1 (t_withinN h2 (sel0 (sel0 ?_))))))))
          unfold wX12_pushed
          exact t_isInY h1 (sel1 (t_isInY h3 (sel1 (t_isInY h4 (sel1 (t_isInN h2 (sel0 ⟨rfl, h⟩)))))))
      · refine t_withinY h1 (sel1 (t_withinY h3 (sel1 (t_withinN h4 (sel0 (sel0 ?_))))))
        unfold wX12_pushed
        exact t_isInY h1 (sel1 (t_isInY h3 (sel1 (t_isInN h4 (sel0 ⟨rfl, h⟩)))))
    · refine t_withinY h1 (sel1 (t_withinN h3 (sel0 (sel0 ?_))))
      unfold wX12_pushed
      exact t_isInY h1 (sel1 (t_isInN h3 (sel0 ⟨rfl, h⟩)))
  · refine t_withinN h1 (sel0 (sel0 ?_))
    unfold wX12_pushed
    exact t_isInN h1 (sel0 ⟨rfl, h⟩)
/-- a foretelling kept -/
def hw_told (a : hw_T) (x y z : Int32) : hw_T := ((a.1.1, a.1.2.1, a.1.2.2 + 1), hx_sI (hx_sI (hx_sI a.2 13 a.1.2.2 x) 14 a.1.2.2 y) 15 a.1.2.2 z)
theorem told_ne {a : hw_T} {x y z : Int32} {k j : Nat} (h : k < 13) : (hw_told a x y z).2.1 k j = a.2.1 k j := by
  unfold hw_told
  rw [sI_ne (by omega), sI_ne (by omega), sI_ne (by omega)]
theorem told_13 {a : hw_T} {x y z : Int32} {j : Nat} : (hw_told a x y z).2.1 13 j = if j = a.1.2.2 then x else a.2.1 13 j := by
  unfold hw_told
  rw [sI_ne (by omega), sI_ne (by omega), hm_sI]
  simp
theorem told_14 {a : hw_T} {x y z : Int32} {j : Nat} : (hw_told a x y z).2.1 14 j = if j = a.1.2.2 then y else a.2.1 14 j := by
  unfold hw_told
  rw [sI_ne (by omega), hm_sI, sI_ne (by omega)]
  simp
theorem told_15 {a : hw_T} {x y z : Int32} {j : Nat} : (hw_told a x y z).2.1 15 j = if j = a.1.2.2 then z else a.2.1 15 j := by
  unfold hw_told
  rw [hm_sI, sI_ne (by omega), sI_ne (by omega)]
  simp
theorem CW_told {a : hw_T} {m : hx_M} {x y z : Int32} (h : CW 0 a m) : CW 0 (hw_told a x y z) (hx_sI (hx_sI (hx_sI (hx_sI m 25 a.1.2.2 x) 26 a.1.2.2 y) 27 a.1.2.2 z) 7 8 (Int32.ofNat (a.1.2.2 + 1))) := by
  generalize hm : hx_sI (hx_sI (hx_sI (hx_sI m 25 a.1.2.2 x) 26 a.1.2.2 y) 27 a.1.2.2 z) 7 8 (Int32.ofNat (a.1.2.2 + 1)) = m'
  have f1 : ∀ k, k ≠ 7 → k ≠ 25 → k ≠ 26 → k ≠ 27 → m'.1 k = m.1 k := fun k a b c d => by rw [← hm, sIk a, sIk d, sIk c, sIk b]
  have f7 : ∀ j, j ≠ 8 → m'.1 7 j = m.1 7 j := fun j hj => by rw [← hm, sIj hj, sIk (by omega), sIk (by omega), sIk (by omega)]
  have f8 : m'.1 7 8 = Int32.ofNat (a.1.2.2 + 1) := by rw [← hm, sIe]
  have f2 : m'.2 = m.2 := by rw [← hm]; rfl
  have f25 : ∀ k, m'.1 25 k = if k = a.1.2.2 then x else m.1 25 k := fun k => by rw [← hm, sIk (by omega), sIk (by omega), sIk (by omega), hm_sI]; simp
  have f26 : ∀ k, m'.1 26 k = if k = a.1.2.2 then y else m.1 26 k := fun k => by rw [← hm, sIk (by omega), sIk (by omega), hm_sI, sIk (by omega)]; simp
  have f27 : ∀ k, m'.1 27 k = if k = a.1.2.2 then z else m.1 27 k := fun k => by rw [← hm, sIk (by omega), hm_sI, sIk (by omega), sIk (by omega)]; simp
  obtain ⟨h1, h2, h3, h4, h5, h6, h7, h8, h9, h10⟩ := h
  unfold CW hw_sum
  simp only [told_ne (show 0 < 13 by omega), told_ne (show 1 < 13 by omega), told_ne (show 2 < 13 by omega), told_ne (show 3 < 13 by omega), told_ne (show 4 < 13 by omega), told_ne (show 5 < 13 by omega), told_ne (show 6 < 13 by omega), told_ne (show 7 < 13 by omega), told_ne (show 8 < 13 by omega), told_ne (show 9 < 13 by omega), told_ne (show 10 < 13 by omega), told_ne (show 11 < 13 by omega), told_ne (show 12 < 13 by omega), Nat.add_zero, f2, f8, f7 7 (by omega), f7 3 (by omega), f7 4 (by omega), f7 5 (by omega), f1 8 (by omega) (by omega) (by omega) (by omega), f1 9 (by omega) (by omega) (by omega) (by omega), f1 10 (by omega) (by omega) (by omega) (by omega), f1 11 (by omega) (by omega) (by omega) (by omega), f1 12 (by omega) (by omega) (by omega) (by omega), f1 13 (by omega) (by omega) (by omega) (by omega), f1 14 (by omega) (by omega) (by omega) (by omega), f1 16 (by omega) (by omega) (by omega) (by omega), f1 17 (by omega) (by omega) (by omega) (by omega), f1 18 (by omega) (by omega) (by omega) (by omega), f1 19 (by omega) (by omega) (by omega) (by omega), f1 20 (by omega) (by omega) (by omega) (by omega)]
  refine ⟨⟨h1.1, h1.2.1, rfl⟩, h2, h3, h4, h5, h6, h7, h8, h9, fun k hk => ?_⟩
  have hk' : k < a.1.2.2 + 1 := hk
  rw [told_13, told_14, told_15, f25, f26, f27]
  by_cases c : k = a.1.2.2
  · simp only [if_pos c]; exact ⟨trivial, trivial, trivial⟩
  · simp only [if_neg c]; exact h10 k (by omega)
theorem MW_told {a : hw_T} {m : hx_M} {x y z : Int32} (h : MW a m) (e1 : m.1 86 a.1.2.2 = x) (e2 : m.1 85 a.1.2.2 = y) (e3 : m.1 87 a.1.2.2 = z) : MW (hw_told a x y z) (hx_sI m 49 59 (Int32.ofNat (a.1.2.2 + 1))) := by
  obtain ⟨h1, h2, h3, h4, h5, h6, h7, h8, h9, h10, h11⟩ := h
  unfold MW
  simp only [told_ne (show 0 < 13 by omega), told_ne (show 1 < 13 by omega), told_ne (show 2 < 13 by omega), told_ne (show 3 < 13 by omega), told_ne (show 4 < 13 by omega), told_ne (show 5 < 13 by omega), told_ne (show 6 < 13 by omega), told_ne (show 7 < 13 by omega), told_ne (show 8 < 13 by omega), told_ne (show 9 < 13 by omega), told_ne (show 10 < 13 by omega), told_ne (show 11 < 13 by omega), told_ne (show 12 < 13 by omega), sIe, sIk2, sIj (show (0 : Nat) ≠ 59 by omega), sIj (show (1 : Nat) ≠ 59 by omega), sIj (show (2 : Nat) ≠ 59 by omega), sIj (show (3 : Nat) ≠ 59 by omega), sIj (show (4 : Nat) ≠ 59 by omega), sIj (show (5 : Nat) ≠ 59 by omega), sIk (show (50 : Nat) ≠ 49 by omega), sIk (show (51 : Nat) ≠ 49 by omega), sIk (show (52 : Nat) ≠ 49 by omega), sIk (show (53 : Nat) ≠ 49 by omega), sIk (show (54 : Nat) ≠ 49 by omega), sIk (show (55 : Nat) ≠ 49 by omega), sIk (show (56 : Nat) ≠ 49 by omega), sIk (show (57 : Nat) ≠ 49 by omega), sIk (show (58 : Nat) ≠ 49 by omega), sIk (show (59 : Nat) ≠ 49 by omega), sIk (show (60 : Nat) ≠ 49 by omega), sIk (show (61 : Nat) ≠ 49 by omega), sIk (show (62 : Nat) ≠ 49 by omega), sIk (show (85 : Nat) ≠ 49 by omega), sIk (show (86 : Nat) ≠ 49 by omega), sIk (show (87 : Nat) ≠ 49 by omega)]
  refine ⟨⟨h1.1, h1.2.1, rfl⟩, h2, h3, h4, h5, h6, h7, h8, h9, h10, fun k hk => ?_⟩
  have hk' : k < a.1.2.2 + 1 := hk
  rw [told_13, told_14, told_15]
  by_cases c : k = a.1.2.2
  · subst c; simp only [if_true]; exact ⟨e1, e2, e3⟩
  · simp only [if_neg c]; exact h11 k (by omega)
theorem WF_told {S : Nat} {a : hw_T} {x y z : Int32} (h : WF S a) (h0 : 0 < a.1.1) (hf : a.1.2.2 < 20) (hx : 0 ≤ x ∧ x ≤ 250) : WF S (hw_told a x y z) := by
  obtain ⟨h1, h2, h3, h4, h5, h6, h7, h8⟩ := h
  unfold WF
  simp only [told_ne (show 0 < 13 by omega), told_ne (show 1 < 13 by omega), told_ne (show 2 < 13 by omega), told_ne (show 3 < 13 by omega), told_ne (show 4 < 13 by omega), told_ne (show 6 < 13 by omega), told_ne (show 10 < 13 by omega), told_ne (show 11 < 13 by omega), told_ne (show 12 < 13 by omega)]
  refine ⟨⟨h1.1, h1.2.1, hf, h1.2.2.2.1, fun _ => h0⟩, h2, h3, h4, h5, h6, h7, fun k hk => ?_⟩
  have hk' : k < a.1.2.2 + 1 := hk
  rw [told_13]
  by_cases c : k = a.1.2.2
  · rw [if_pos c]; exact hx
  · rw [if_neg c]; exact h8 k (by omega)
