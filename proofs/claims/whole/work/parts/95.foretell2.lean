/-! layer 2: foretell, whole -/
theorem MW_tail {a : hw_T} {m : hx_M} {c : Nat} {x : Int32} (h : MW a m) (hc : 85 ≤ c ∧ c ≤ 87) : MW a (hx_sI m c a.1.2.2 x) := by
  obtain ⟨h1, h2, h3, h4, h5, h6, h7, h8, h9, h10, h11⟩ := h
  unfold MW
  have f : ∀ k, ¬ (85 ≤ k ∧ k ≤ 87) → (hx_sI m c a.1.2.2 x).1 k = m.1 k := fun k hk => sIk (by omega)
  rw [sIk2, f 49 (by omega), f 50 (by omega), f 51 (by omega), f 52 (by omega), f 53 (by omega), f 54 (by omega), f 55 (by omega), f 56 (by omega), f 57 (by omega), f 58 (by omega), f 59 (by omega), f 60 (by omega), f 61 (by omega), f 62 (by omega)]
  refine ⟨h1, h2, h3, h4, h5, h6, h7, h8, h9, h10, fun k hk => ?_⟩
  rw [sI_ne (by omega), sI_ne (by omega), sI_ne (by omega)]
  exact h11 k hk
section FT
variable {Λ : hx_L} {a : hw_T} {l : List hl_R} {f sm n : Nat} {m μ : hx_M}
theorem foretell_L66 {K : Int32 → hx_M → Prop} {K1 : hx_M → Prop} {was : Int32} (w : WF 200 a) (h0 : 0 < a.1.1) (hn : n ≤ 100) (h2 : 0 ≤ was ∧ was ≤ 99) (hwas : a.2.1 11 a.1.2.1 = was) (hl : LKM μ sm f l) :
    ∀ (r t : Nat) (m : hx_M), t + r = n → MW (hw_W l (tr_mo (-1) was 1) a t) m → offT μ m → (∀ m', MW (hw_W l (tr_mo (-1) was 1) a n) m' → offT μ m' → K1 m') → wX12_foretell_L66 (Int32.ofNat n) K K1 (r + 1) (Int32.ofNat t) m := by
  have hs := w.s
  have hok := hl.2.2.2.2.2
  have h1 : (-1 : Int32) = -1 ∨ 0 ≤ (-1 : Int32) ∧ (-1 : Int32) ≤ 99 := Or.inl rfl
  intro r
  induction r with
  | zero =>
    intro t m e hc o k
    obtain rfl : t = n := by omega
    unfold wX12_foretell_L66
    exact selT (Int32.le_refl _) (k m hc o)
  | succ r ih =>
    intro t m e hc o k
    have e1 := W_1 (l := l) (mo := tr_mo (-1) was 1) (a := a) t
    have es : (hw_W l (tr_mo (-1) was 1) a t).1.2.1 = a.1.2.1 + t := by rw [e1]
    have hmo : ∀ t, ∀ u, u < t → 0 ≤ tr_mo (-1) was 1 u ∧ tr_mo (-1) was 1 u ≤ 99 := fun t u _ => mo_rng h1 h2 u
    have wt := W_WF (mo := tr_mo (-1) was 1) w h0 hok t (by omega) (hmo t)
    have em : tr_mo (-1) was 1 t = (hw_W l (tr_mo (-1) was 1) a t).2.1 11 (hw_W l (tr_mo (-1) was 1) a t).1.2.1 := by
      have e3 : tr_mo (-1) was 1 t = was := by unfold tr_mo; rw [if_pos rfl]
      rw [e3, es]
      cases t with
      | zero => exact hwas.symm
      | succ t' =>
        rw [W_mon w h0 hok (by omega) (hmo _)]
        unfold tr_mo
        rw [if_pos rfl]
    have hc2 : MW (hw_mon (hw_W l (tr_mo (-1) was 1) a t) (tr_mo (-1) was 1 t)) m := by
      rw [em]
      unfold hw_mon
      rw [sI_self]
      exact hc
    unfold wX12_foretell_L66
    rw [n32_add1]
    refine selF (fun z => by have := (n32_le (by omega) (by omega)).mp z; omega) (passM (a := hw_mon (hw_W l (tr_mo (-1) was 1) a t) (tr_mo (-1) was 1 t)) (hl.oT o) hc2 (WF_money wt (mo_rng h1 h2 t)) (by show (hw_W l (tr_mo (-1) was 1) a t).1.2.1 < 300; omega) (fun m3 o3 c3 => ?_))
    exact ih (t + 1) m3 (by omega) c3 (o.oG o3) k
end FT
theorem op_foretell (Λ : hx_L) (μ : hx_M) (a1 : Int32) (h : hI Λ μ) : wL_27 Λ μ a1 hI := by
  obtain ⟨hF, hM, h15, a, ls, fo, is, w, hc, hm, ht, hl, hi⟩ := id h
  have hn := w.n
  have hs := w.s
  have hft := w.ft
  have law : ∀ K : Option Nat → Prop, (∀ o, (fo = none → o = none) → (∀ f, fo = some f → o = Λ.2.1 6 f) → K o) → wX11_lawInForce Λ μ K := fun K hk => by
    cases fo with
    | none => exact lawC0 hl (hk none (fun _ => rfl) (fun f z => by simp at z))
    | some f => exact lawC1 hl (hk _ (fun z => by simp at z) (fun g z => by simp at z; rw [z]))
  unfold wL_27 wX11_foretell
  refine law _ (fun o ho1 ho2 => ?_)
  by_cases h1 : 1 ≤ a1 ∧ a1 ≤ 50
  · obtain ⟨n, rfl, hn50⟩ := n32_of (hi := 50) (Int32.le_trans (by decide) h1.1) h1.2 (by omega)
    have ref0 : a.1.2.2 = 20 ∨ a.1.1 = 0 ∨ fo = none → wX12_foretell μ (Int32.ofNat n) (fun q m1 => -1 = q ∧ hI Λ m1) := by
      intro hz
      unfold wX12_foretell
      rw [hm.ft]
      refine t_isInY h1 (sel1 ⟨fun _ => ⟨rfl, h⟩, fun z => ?_⟩)
      have hno : a.1.1 = 0 ∨ μ.1 49 21 = -1 := by
        rcases hz with hz | hz | hz
        · exact absurd (by rw [hz]; rfl) z
        · exact Or.inl hz
        · subst hz; exact Or.inr hl.2.2.2.1.2.2
      exact mayTryN hm w hno (seln0 ⟨rfl, h⟩)
    refine t_withinY h1 (sel1 ⟨fun z => ?_, fun kk z => ?_⟩)
    · refine ref0 (Or.inr (Or.inr ?_))
      cases fo with
      | none => rfl
      | some f =>
        obtain ⟨l, lc, sm, elc, _⟩ := hl.force hF h15
        rw [ho2 f rfl, elc] at z
        simp at z
    · by_cases h0 : a.1.1 = 0
      · exact t_emptyY hc h0 (sel1 (ref0 (Or.inr (Or.inl h0))))
      · have h0' : 0 < a.1.1 := by omega
        cases fo with
        | none => rw [ho1 rfl] at z; simp at z
        | some f =>
          obtain ⟨l, lc, sm, elc, hC, hMk⟩ := hl.force hF h15
          rw [ho2 f rfl, elc] at z
          obtain rfl : lc = kk := by simpa using z
          have hok := hC.2.2.2.2.2
          have hwas : 0 ≤ a.2.1 11 a.1.2.1 ∧ a.2.1 11 a.1.2.1 ≤ 99 := w.2.2.2.2.2.2.1 _ (Nat.le_refl _)
          refine t_emptyN hc w.up h0' (sel0 (rehC (n := n) (ev := 1) (told := -1) hc w h0' (by omega) (by omega) (Or.inl rfl) hC (fun m1 g1 c1 g3 g4 => ?_)))
          have hm1 : MW a m1 := hm.kC (fun i hi => g1 i (by omega))
          have hM1 : LKM m1 sm f l := hMk.fr (by rw [(g1 49 (by omega)).1]) (fun k a b => (g1 k (by omega)).1)
          have k1 : keepC μ m1 := fun i hi => g1 i (by omega)
          rw [c1.s, n32_add]
          generalize hL : (100 * m1.1 17 (a.1.2.1 + n)) / Int32.ofNat a.1.1 = L
          refine t_lineAtC c1.n hn h0' (by omega) ?_
          rw [hL]
          refine lineC c1 w.up (Nat.le_refl _) h0' ?_
          unfold wX10_keepForetold
          rw [c1.ft]
          by_cases hf20 : a.1.2.2 < 20
          · have vf : vp_in (Int32.ofNat a.1.2.2) 20 := n32_in hf20 (by omega)
            refine selT ((n32_lt (b := 20) (by omega) (by omega)).mpr hf20) ⟨vf, vf, vf, ?_⟩
            rw [n32_nat (by omega), n32_add1]
            have c2 := CW_told (x := Int32.ofNat (a.1.2.1 + n)) (y := L) (z := hw_line a a.1.2.1) c1
            have k2 : keepC μ (hx_sI (hx_sI (hx_sI (hx_sI m1 25 a.1.2.2 (Int32.ofNat (a.1.2.1 + n))) 26 a.1.2.2 L) 27 a.1.2.2 (hw_line a a.1.2.1)) 7 8 (Int32.ofNat (a.1.2.2 + 1))) := (((k1.sI (by omega)).sI (by omega)).sI (by omega)).sI (by omega)
            have hm2 : MW a (hx_sI (hx_sI (hx_sI (hx_sI m1 25 a.1.2.2 (Int32.ofNat (a.1.2.1 + n))) 26 a.1.2.2 L) 27 a.1.2.2 (hw_line a a.1.2.1)) 7 8 (Int32.ofNat (a.1.2.2 + 1))) := hm.kC k2
            have hM2 : LKM (hx_sI (hx_sI (hx_sI (hx_sI m1 25 a.1.2.2 (Int32.ofNat (a.1.2.1 + n))) 26 a.1.2.2 L) 27 a.1.2.2 (hw_line a a.1.2.1)) 7 8 (Int32.ofNat (a.1.2.2 + 1))) sm f l := hMk.fr (by rw [k2.a 49 (by omega)]) (fun k a b => k2.a k (by omega))
            revert c2 k2 hm2 hM2
            generalize hx_sI (hx_sI (hx_sI (hx_sI m1 25 a.1.2.2 (Int32.ofNat (a.1.2.1 + n))) 26 a.1.2.2 L) 27 a.1.2.2 (hw_line a a.1.2.1)) 7 8 (Int32.ofNat (a.1.2.2 + 1)) = m2
            intro c2 k2 hm2 hM2
            show wX12_foretell m2 (Int32.ofNat n) (fun q m1 => Int32.ofNat (a.1.2.2 + 1) - 1 = q ∧ hI Λ m1)
            unfold wX12_foretell
            rw [hm2.ft, hm2.s, n32_add, n32_nat (by omega)]
            refine t_isInY h1 (sel1 (selF (fun z => by have := (n32_eq (b := 20) (by omega) (by omega)).mp z; omega) (mayTryY hm2 w h0' hM2 (seln1 (lineM hm2 w.up (Nat.le_refl _) h0' ⟨vf, vf, ?_⟩)))))
            generalize hm3 : hx_sI (hx_sI m2 87 a.1.2.2 (hw_line a a.1.2.1)) 86 a.1.2.2 (Int32.ofNat (a.1.2.1 + n)) = m3
            have hm3W : MW a m3 := by rw [← hm3]; exact MW_tail (MW_tail hm2 (by omega)) (by omega)
            have m3k : ∀ k, ¬ (86 ≤ k ∧ k ≤ 87) → m3.1 k = m2.1 k := fun k hk => by rw [← hm3, sIk (by omega), sIk (by omega)]
            refine keepsM (fun m4 x1 x2 x3 x4 x5 x6 x7 => ?_)
            have c4 : MW a m4 := hm3W.fr' (fun j hj => by rw [x1 49 (by omega)]) (by rw [x3, if_neg (by omega)]) (fun i hi => x1 i (by omega))
            have l4 : LKM m4 sm f l := hM2.fr (by rw [x1 49 (by omega), m3k 49 (by omega)]) (fun k a b => by rw [x1 k (by omega), m3k k (by omega)])
            have hmo : ∀ t, ∀ u, u < t → 0 ≤ tr_mo (-1) (a.2.1 11 a.1.2.1) 1 u ∧ tr_mo (-1) (a.2.1 11 a.1.2.1) 1 u ≤ 99 := fun t u _ => mo_rng (Or.inl rfl) hwas u
            refine ⟨n + 1, foretell_L66 (a := a) w h0' (by omega) hwas rfl l4 n 0 m4 (by omega) c4 offT.rf (fun m5 c5 o5 => ?_)⟩
            have e1 := W_1 (l := l) (mo := tr_mo (-1) (a.2.1 11 a.1.2.1) 1) (a := a) n
            have w5 := W_WF (mo := tr_mo (-1) (a.2.1 11 a.1.2.1) 1) w h0' hok n (by omega) (hmo n)
            have eL : hw_line (hw_W l (tr_mo (-1) (a.2.1 11 a.1.2.1) 1) a n) (a.1.2.1 + n) = L := by
              rw [← hL, g4 n (Nat.le_refl _)]
              unfold hw_line hw_sum
              rw [e1]
            rw [c5.s, e1]
            refine lineM c5 w5 (by rw [e1]; exact Nat.le_refl _) (by rw [e1]; exact h0') ?_
            rw [eL, c5.ft, e1]
            refine ⟨vf, ?_⟩
            show wX12_takesBack (hx_sI m5 85 (Int32.ofNat a.1.2.2).toNatClampNeg L) _
            rw [n32_nat (by omega)]
            refine backM (fun m6 b1 b49 b2 bz b52 b56 => ?_)
            have f59 : m6.1 49 59 = Int32.ofNat a.1.2.2 := by
              rw [b49, if_neg (by omega), if_neg (by omega), sIk (by omega), c5.ft, e1]
            rw [f59, n32_add1]
            have cell : ∀ k, k ≠ 49 → k ≠ 52 → k ≠ 53 → k ≠ 56 → k ≠ 85 → ¬ (57 ≤ k ∧ k ≤ 62) → k ≠ 73 → ¬ (76 ≤ k ∧ k ≤ 78) → ¬ (86 ≤ k ∧ k ≤ 87) → m6.1 k = m2.1 k := fun k h1 h2 h3 h4 h5 h6 h7 h8 h9 => by
              rw [b1 k h1 h2 h3 h4, sIk h5, o5.1 k h1 (by omega) (by omega) h7 (by omega), x1 k (by omega), m3k k h9]
            have t86 : ∀ j, m6.1 86 j = if j = a.1.2.2 then Int32.ofNat (a.1.2.1 + n) else m2.1 86 j := fun j => by
              rw [b1 86 (by omega) (by omega) (by omega) (by omega), sIk (by omega), o5.1 86 (by omega) (by omega) (by omega) (by omega) (by omega), x1 86 (by omega), ← hm3, hm_sI, sIk (by omega)]
              simp
            have t87 : ∀ j, m6.1 87 j = if j = a.1.2.2 then hw_line a a.1.2.1 else m2.1 87 j := fun j => by
              rw [b1 87 (by omega) (by omega) (by omega) (by omega), sIk (by omega), o5.1 87 (by omega) (by omega) (by omega) (by omega) (by omega), x1 87 (by omega), ← hm3, sIk (by omega), hm_sI]
              simp
            have t85 : ∀ j, m6.1 85 j = if j = a.1.2.2 then L else m2.1 85 j := fun j => by
              rw [b1 85 (by omega) (by omega) (by omega) (by omega), hm_sI, o5.1 85 (by omega) (by omega) (by omega) (by omega) (by omega), x1 85 (by omega), m3k 85 (by omega)]
              simp
            have c6 : MW a m6 := by
              refine back_MW (m0 := m2) (m1 := m4) (m2 := m5) w h0' hok (by omega) (hmo n) hm2 (fun k a b c => by rw [x1 k b, m3k k (by omega)]) ⟨?_, ?_⟩ (fun p hp => ?_) (fun j hj => ?_) ?_ (fun j hj => by rw [x1 49 (by omega), m3k 49 (by omega)]) c5 o5 (fun k a b c d e => by rw [b1 k a b c d, sIk (by omega)]) (fun j => by rw [b49, sIk (by omega), sIk (by omega)]) ?_ (fun j hj => by have := b52 j hj; rw [sIk (by omega)] at this; exact this) (fun j hj => by have := b56 j hj; rw [sIk (by omega)] at this; exact this) (fun k hk => ?_)
              · rw [x4, m3k 49 (by omega)]
              · rw [x5, m3k 49 (by omega)]
              · have := x6 p hp
                rw [m3k 52 (by omega), m3k 53 (by omega)] at this
                exact this
              · rw [x7 j hj, m3k 56 (by omega)]
              · rw [x3, if_pos rfl, ← hm3]; rfl
              · rw [bz, if_pos rfl]; rfl
              · rw [t85, t86, t87, if_neg (by omega), if_neg (by omega), if_neg (by omega)]
                exact hm2.told hk
            have k6 : keepM m2 (hx_sI m6 49 59 (Int32.ofNat (a.1.2.2 + 1))) := by
              refine ⟨fun i hi => ⟨?_, ?_⟩, fun j hj => ?_⟩
              · rw [sIk (by omega), cell i (by omega) (by omega) (by omega) (by omega) (by omega) (by omega) (by omega) (by omega) (by omega)]
              · rw [sIk2, b2 i (by omega), sIk2, o5.2.2.1 i (by omega), x2 i (by omega), ← hm3]; rfl
              · rw [sIj (by simp at hj; omega), b49, if_neg (by simp at hj; omega), if_neg (by simp at hj; omega), sIk (by omega), o5.2.1 j (by simp at hj; omega) (by simp at hj; omega) (by simp at hj; omega) (by simp at hj; omega) (by simp at hj; omega), x1 49 (by omega), m3k 49 (by omega)]
            refine ⟨rfl, hI.q (a := a) hF hM h15 ht hl hi k2 k6 (WF_told w h0' hf20 ⟨(n32_le (a := 0) (by omega) (by omega)).mpr (by omega), (n32_le (b := 250) (by omega) (by omega)).mpr (by omega)⟩) (c2.kM k6) (MW_told c6 ?_ ?_ ?_)⟩
            · rw [t86, if_pos rfl]
            · rw [t85, if_pos rfl]
            · rw [t87, if_pos rfl]
          · have hf : a.1.2.2 = 20 := by omega
            refine selF (fun z => hf20 ((n32_lt (b := 20) (by omega) (by omega)).mp z)) ?_
            have hfin : hI Λ m1 := hI.q (a := a) hF hM h15 ht hl hi k1 keepM.rf w c1 hm1
            show wX12_foretell m1 (Int32.ofNat n) (fun q m1 => -1 = q ∧ hI Λ m1)
            unfold wX12_foretell
            rw [hm1.ft, hf]
            exact t_isInY h1 (sel1 (selT rfl ⟨rfl, hfin⟩))
  · refine t_withinN h1 (sel0 ?_)
    unfold wX12_foretell
    exact t_isInN h1 (sel0 ⟨rfl, h⟩)
