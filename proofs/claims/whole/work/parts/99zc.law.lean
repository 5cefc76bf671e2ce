/-! layer 2: law -/
section OLW
variable {N : Nat} {t : Nat → Int32}
theorem law_hu (hN : N ≤ 700) (h : (pLaw (tkF t N) 17 0 0).1 = true) : cl (pLaw (tkF t N) 17 0 0).2.2 < 700 ∧ (pLaw (tkF t N) 17 0 0).2.2.length ≤ 16 ∧ ∀ r ∈ (pLaw (tkF t N) 17 0 0).2.2, hl_okR r := by
  obtain ⟨p1, p2, p3, p4, p5⟩ := pLaw_ok (T := tkF t N) (C := tkC t N) (fun j hj => tk_end hj) 17 0 0 rfl (Nat.zero_le _) h
  have h6 := tkC_le (t := t) (N := N)
  generalize pLaw (tkF t N) 17 0 0 = y at p1 p2 p3 p4 p5 ⊢
  generalize tkC t N = C at p5 h6
  exact ⟨by omega, by omega, p1⟩
end OLW
theorem op_law (Λ : hx_L) (μ : hx_M) (a1 : Int32) (h : hI Λ μ) : wL_7 Λ μ a1 hI := by
  obtain ⟨hF, hM, h15, a, ls, fo, is, w, hc, hm, ht, hl, hi⟩ := id h
  obtain ⟨⟨fd, hfd, d1, d2, d3⟩, hfa, np, hnp, n1, n2, n3⟩ := id ht
  obtain ⟨l1, l2, l3, l4, sm, l6, l7, l8⟩ := id hl
  obtain ⟨⟨i1, i2, i3, i4⟩, hbd⟩ := id hi
  have h93 := hM.2.2
  have hs := w.s
  unfold wL_7 wX11_law
  by_cases c0 : a1 < 0
  · refine selT c0 ⟨hM, ?_⟩
    unfold wX12_law
    exact t_isInN (fun z => absurd c0 (Int32.not_lt.mpr z.1)) (seln0 ⟨rfl, h⟩)
  · refine selF c0 ?_
    rw [d1]
    by_cases c1 : a1 ≤ Int32.ofNat fd
    · obtain ⟨N, rfl, hN⟩ := n32_of (hi := fd) (Int32.not_lt.mp c0) c1 (by omega)
      refine selT c1 ?_
      rw [l2]
      by_cases c2 : ls.length < 5
      · refine selT ((n32_lt (b := 5) (by omega) (by omega)).mpr c2) ?_
        refine compileC (μ := hx_sI μ 0 1 0) (t := μ.1 1) (N := N) hF (by omega) h93 (by omega) (sIk (by omega)) (fun hz => ?_) (fun hz m g1 g2 pl => ?_) (fun hz L m nb g1 g2 g3 g4 => ?_)
        · have := (law_hu (t := μ.1 1) (N := N) (by omega) hz).1
          rw [lCode_len]; exact this
        · -- a fault
          refine ⟨fun k e => (by cases e), fun _ => ⟨hF, pl _ ⟨hM, ?_⟩⟩⟩
          generalize hmc : hx_sI m 0 6 (Int32.ofNat ((tl (μ.1 1) N (N + 1) 0).getD (pLaw (tkT (μ.1 1) N (tl (μ.1 1) N (N + 1) 0)) 17 0 0).2.1 N)) = mc
          have k0 : ∀ j, j ≠ 1 → j ≠ 6 → mc.1 0 j = μ.1 0 j := fun j h1 h6 => by rw [← hmc, sIj h6, g1 0 (by omega) (by omega) (by omega) (by omega), sIj h1]
          have k01 : mc.1 0 1 = 0 := by rw [← hmc, sIj (by omega), g1 0 (by omega) (by omega) (by omega) (by omega), sIe]
          have k06 : mc.1 0 6 = Int32.ofNat (pos (μ.1 1) N (pLaw (tkF (μ.1 1) N) 17 0 0).2.1) := by rw [← hmc, sIe]; rfl
          have kc : ∀ c, c ≠ 0 → c ≠ 2 → c ≠ 3 → c ≠ 4 → c ≠ 5 → mc.1 c = μ.1 c := fun c h0 h2 h3 h4 h5 => by rw [← hmc, sIk h0, g1 c h2 h3 h4 h5, sIk h0]
          have k2 : mc.2 = μ.2 := by rw [← hmc]; exact g2
          have k49 : mc.1 49 = μ.1 49 := kc 49 (by omega) (by omega) (by omega) (by omega) (by omega)
          refine lawM (μ := mc) (t := μ.1 1) (lc := ls.length) (h := sm) (fd := fd) (T := tkF (μ.1 1) N) rfl hN hfd (fun j hj => ?_) (by rw [k49]; exact l3) (by omega) (by rw [k49]; exact l7) (by omega) (by rw [k49]; exact d2) (fun hz2 => ?_) (fun _ m2 o f22 f27 f21 f20 => ⟨rfl, ?_⟩)
          · rw [kc 74 (by omega) (by omega) (by omega) (by omega) (by omega)]
            exact (d3 j (by omega)).symm
          · have hz' : (pLaw (tkF (μ.1 1) N) 17 0 0).1 = false := hz
            rw [hz'] at hz2
            exact absurd hz2 (by decide)
          · obtain ⟨o1, o2, o3, o4, o5, o6, o7⟩ := o
            have e2 : m2.2 = μ.2 := o6.trans k2
            have ec : ∀ c, c ≠ 0 → c ≠ 2 → c ≠ 3 → c ≠ 4 → c ≠ 5 → c ≠ 49 → c ≠ 75 → (c < 63 ∨ 72 < c) → m2.1 c = μ.1 c := fun c h0 h2 h3 h4 h5 h6 h7 h8 => (o1 c h6 h7 h8).trans (kc c h0 h2 h3 h4 h5)
            have e0 : ∀ j, j ≠ 1 → j ≠ 6 → m2.1 0 j = μ.1 0 j := fun j h1 h6 => by rw [o1 0 (by omega) (by omega) (by omega)]; exact k0 j h1 h6
            have e49 : ∀ j, j < 20 ∨ 27 < j → j ≠ 41 → j ≠ 42 → m2.1 49 j = μ.1 49 j := fun j h1 h2 h3 => by rw [o4 j h1 h2 h3, k49]
            rw [k49] at f20 f21
            refine ⟨hF, hM, by rw [ec 15 (by omega) (by omega) (by omega) (by omega) (by omega) (by omega) (by omega) (by omega)]; exact h15, a, ls, fo, is, w, ?_, ?_, ⟨⟨0, by omega, ?_, ?_, fun j hj => by omega⟩, ?_, np, hnp, ?_, ?_, ?_⟩, ⟨l1, ?_, ?_, ?_, sm, l6, f22, fun k l hk => ?_⟩, ?_⟩
            · exact hc.fr fun k k1 k2 => ⟨ec _ (by omega) (by omega) (by omega) (by omega) (by omega) (by omega) (by omega) (by omega), by rw [e2]⟩
            · exact hm.fr (fun j hj => e49 j (by simp at hj; omega) (by simp at hj; omega) (by simp at hj; omega)) (by rw [e2]) (fun k hk => ec k (by omega) (by omega) (by omega) (by omega) (by omega) (by omega) (by omega) (by omega))
            · rw [o1 0 (by omega) (by omega) (by omega)]; exact k01
            · exact o7
            · rw [o1 0 (by omega) (by omega) (by omega), f27]; exact k06
            · rw [ec 39 (by omega) (by omega) (by omega) (by omega) (by omega) (by omega) (by omega) (by omega)]; exact n1
            · rw [e49 55 (by omega) (by omega) (by omega)]; exact n2
            · rw [ec 40 (by omega) (by omega) (by omega) (by omega) (by omega) (by omega) (by omega) (by omega), ec 41 (by omega) (by omega) (by omega) (by omega) (by omega) (by omega) (by omega) (by omega), ec 42 (by omega) (by omega) (by omega) (by omega) (by omega) (by omega) (by omega) (by omega), ec 82 (by omega) (by omega) (by omega) (by omega) (by omega) (by omega) (by omega) (by omega), ec 83 (by omega) (by omega) (by omega) (by omega) (by omega) (by omega) (by omega) (by omega), ec 84 (by omega) (by omega) (by omega) (by omega) (by omega) (by omega) (by omega) (by omega)]
              exact n3
            · rw [e0 4 (by omega) (by omega)]; exact l2
            · rw [f20]; exact l3
            · rw [e0 5 (by omega) (by omega), f21]; exact l4
            · obtain ⟨a1, a2, ⟨lc, cc, len, b1, b2, b3, b4, b5, b6, b7, b8, b9, b10, b11⟩, q1, q2⟩ := l8 k l hk
              have hkl : k < ls.length := (List.getElem?_eq_some_iff.mp hk).1
              refine ⟨a1, a2, ⟨lc, cc, len, b1, b2, b3, b4, b5, b6, b7, b8, b9, ?_, hl_C.fr (ec cc (by omega) (by omega) (by omega) (by omega) (by omega) (by omega) (by omega) (by omega)) b11⟩, ?_, ?_⟩
              · rw [ec lc (by omega) (by omega) (by omega) (by omega) (by omega) (by omega) (by omega) (by omega)]; exact b10
              · rw [o2 k (by omega), kc 63 (by omega) (by omega) (by omega) (by omega) (by omega)]; exact q1
              · refine hl_M_mono (Nat.le_refl _) (fun j hj => ?_) (fun c h1 h2 j h3 h4 => ?_) q2
                · obtain ⟨x1, x2, x3⟩ := o5 j hj
                  rw [x1, x2, x3, kc 70 (by omega) (by omega) (by omega) (by omega) (by omega), kc 71 (by omega) (by omega) (by omega) (by omega) (by omega), kc 72 (by omega) (by omega) (by omega) (by omega) (by omega)]
                  exact ⟨rfl, rfl, rfl⟩
                · rw [o3 c h1 h2 j (by omega), kc c (by omega) (by omega) (by omega) (by omega) (by omega)]
            · exact hi.fr (e0 14 (by omega) (by omega)) (e49 65 (by omega) (by omega) (by omega)) (ec 90 (by omega) (by omega) (by omega) (by omega) (by omega) (by omega) (by omega) (by omega)) (by rw [e2]) (fun k hk => ⟨ec k (by omega) (by omega) (by omega) (by omega) (by omega) (by omega) (by omega) (by omega), by rw [e2]⟩)
        · -- a law
          have hz' : (pLaw (tkF (μ.1 1) N) 17 0 0).1 = true := hz
          obtain ⟨u1, u2, u3⟩ := law_hu (t := μ.1 1) (N := N) (by omega) hz'
          have g3' : m.1 Λ.2.2 1 = Int32.ofNat (pLaw (tkF (μ.1 1) N) 17 0 0).2.2.length := g3
          have g4' : ∀ j, j < (lCode (pLaw (tkF (μ.1 1) N) 17 0 0).2.2 0).length → m.1 (Λ.2.2 + 1) j = (lCode (pLaw (tkF (μ.1 1) N) 17 0 0).2.2 0).getD j 0 := g4
          have nb' : NB Λ.2.2 Λ m 2 [(1, 1, (lCode (pLaw (tkF (μ.1 1) N) 17 0 0).2.2 0).length), (0, 0, 1)] [(0, 0, 1)] L m := nb
          clear g3 g4 nb hz
          rw [lCode_len] at g4' nb'
          have cl0 : ∀ c, c < Λ.2.2 → L.1 c = Λ.1 c ∧ ∀ j, L.2.1 c j = Λ.2.1 c j := nb'.2.1
          refine ⟨fun k e => ?_, fun e => by cases e⟩
          obtain rfl : Λ.2.2 = k := Option.some.inj e
          have f4 : m.1 0 4 = Int32.ofNat ls.length := by rw [g1 0 (by omega) (by omega) (by omega) (by omega) (by omega), sIj (by omega)]; exact l2
          rw [f4, n32_nat (by omega), n32_add1]
          refine ⟨nb'.c hF h93, n32_in (by omega) (by omega), nb'.s (c := 0) (by simp), ?_⟩
          intro L2 eL2
          have cF2 : cF L2 := by rw [eL2]; exact (nb'.c hF h93).sR (Or.inl rfl)
          have mF2 : mF L2 := by rw [eL2]; exact (nb'.mF hM h93).sR (by omega)
          have cl2 : ∀ c, c ≠ 6 → L2.1 c = L.1 c ∧ ∀ j, L2.2.1 c j = L.2.1 c j := fun c hc => by
            rw [eL2]
            refine ⟨rfl, fun j => ?_⟩
            show (if c = 6 then _ else _) = _
            rw [if_neg hc]
          have clA : ∀ c, c ≠ 6 → c < Λ.2.2 → L2.1 c = Λ.1 c ∧ ∀ j, L2.2.1 c j = Λ.2.1 c j := fun c h6 hc => ⟨(cl2 c h6).1.trans (cl0 c hc).1, fun j => ((cl2 c h6).2 j).trans ((cl0 c hc).2 j)⟩
          have n2' : L2.2.2 = Λ.2.2 + 2 := by rw [eL2]; exact nb'.n
          have r6 : ∀ j, L2.2.1 6 j = if j = ls.length then some Λ.2.2 else Λ.2.1 6 j := fun j => by
            rw [eL2, sR_eq, (cl0 6 (by omega)).2]
          have s0 : L2.1 Λ.2.2 = (0, 1) := by
            rw [(cl2 Λ.2.2 (by omega)).1]; exact nb'.s (c := 0) (by simp)
          have s1 : L2.1 (Λ.2.2 + 1) = (1, cl (pLaw (tkF (μ.1 1) N) 17 0 0).2.2) := by
            rw [(cl2 (Λ.2.2 + 1) (by omega)).1]; exact nb'.s (c := 1) (by simp)
          have rr : L2.2.1 Λ.2.2 0 = some (Λ.2.2 + 1) := by
            rw [(cl2 Λ.2.2 (by omega)).2]; exact nb'.r (c := 0) (by simp)
          clear eL2 nb' cl2 cl0
          refine ⟨cF2, mF2, ?_⟩
          generalize hmc : hx_sI (hx_sI (hx_sI m 0 6 (-1)) 0 5 (Int32.ofNat ls.length)) 0 4 (Int32.ofNat (ls.length + 1)) = mc
          have k0 : ∀ j, j ≠ 1 → j ≠ 4 → j ≠ 5 → j ≠ 6 → mc.1 0 j = μ.1 0 j := fun j h1 h4 h5 h6 => by rw [← hmc, sIj h4, sIj h5, sIj h6, g1 0 (by omega) (by omega) (by omega) (by omega) (by omega), sIj h1]
          have k01 : mc.1 0 1 = 0 := by rw [← hmc, sIj (by omega), sIj (by omega), sIj (by omega), g1 0 (by omega) (by omega) (by omega) (by omega) (by omega), sIe]
          have k04 : mc.1 0 4 = Int32.ofNat (ls.length + 1) := by rw [← hmc, sIe]
          have k05 : mc.1 0 5 = Int32.ofNat ls.length := by rw [← hmc, sIj (by omega), sIe]
          have k06 : mc.1 0 6 = -1 := by rw [← hmc, sIj (by omega), sIj (by omega), sIe]
          have km : ∀ c, c ≠ 0 → mc.1 c = m.1 c := fun c h0 => by rw [← hmc, sIk h0, sIk h0, sIk h0]
          have kc : ∀ c, c < Λ.2.2 → c ≠ 0 → c ≠ 2 → c ≠ 3 → c ≠ 4 → c ≠ 5 → mc.1 c = μ.1 c := fun c hc h0 h2 h3 h4 h5 => by rw [km c h0, g1 c hc h2 h3 h4 h5, sIk h0]
          have k2 : ∀ c, c < Λ.2.2 → mc.2 c = μ.2 c := fun c hc => by rw [← hmc]; exact g2 c hc
          have k49 : mc.1 49 = μ.1 49 := kc 49 (by omega) (by omega) (by omega) (by omega) (by omega) (by omega)
          clear hmc
          refine lawM (μ := mc) (t := μ.1 1) (lc := ls.length) (h := sm) (fd := fd) (T := tkF (μ.1 1) N) rfl hN hfd (fun j hj => ?_) (by rw [k49]; exact l3) (by omega) (by rw [k49]; exact l7) (by omega) (by rw [k49]; exact d2) (fun _ m2 o f63 f22 fM f27 f21 f20 => ⟨rfl, ?_⟩) (fun hz2 => ?_)
          · rw [kc 74 (by omega) (by omega) (by omega) (by omega) (by omega) (by omega)]
            exact (d3 j (by omega)).symm
          · generalize (pLaw (tkF (μ.1 1) N) 17 0 0).2.2 = l at u1 u2 u3 g3' g4' s1 f63 f22 fM
            obtain ⟨o1, o2, o3, o4, o5, o6, o7⟩ := o
            have e2 : ∀ c, c < Λ.2.2 → m2.2 c = μ.2 c := fun c hc => by rw [o6]; exact k2 c hc
            have ec : ∀ c, c < Λ.2.2 → c ≠ 0 → c ≠ 2 → c ≠ 3 → c ≠ 4 → c ≠ 5 → c ≠ 49 → c ≠ 75 → (c < 63 ∨ 72 < c) → m2.1 c = μ.1 c := fun c hc h0 h2 h3 h4 h5 h6 h7 h8 => (o1 c h6 h7 h8).trans (kc c hc h0 h2 h3 h4 h5)
            have e0 : ∀ j, m2.1 0 j = mc.1 0 j := fun j => by rw [o1 0 (by omega) (by omega) (by omega)]
            have e49 : ∀ j, j < 20 ∨ 27 < j → j ≠ 41 → j ≠ 42 → m2.1 49 j = μ.1 49 j := fun j h1 h2 h3 => by rw [o4 j h1 h2 h3, k49]
            have hsl : sl l ≤ 700 := by
              have := sl_cl l
              omega
            refine ⟨cF2, mF2, by rw [ec 15 (by omega) (by omega) (by omega) (by omega) (by omega) (by omega) (by omega) (by omega) (by omega)]; exact h15, a, ls ++ [l], some ls.length, is, w, ?_, ?_, ⟨⟨0, by omega, ?_, ?_, fun j hj => by omega⟩, ?_, np, hnp, ?_, ?_, ?_⟩, ⟨?_, ?_, ?_, ⟨?_, ?_, ?_⟩, sm + sl l, ?_, f22, fun k l' hk => ?_⟩, ⟨⟨i1, ?_, ?_, fun i b hib => ?_⟩, ?_⟩⟩
            · exact hc.fr fun k k1 k2 => ⟨ec _ (by omega) (by omega) (by omega) (by omega) (by omega) (by omega) (by omega) (by omega) (by omega), e2 _ (by omega)⟩
            · exact hm.fr (fun j hj => e49 j (by simp at hj; omega) (by simp at hj; omega) (by simp at hj; omega)) (e2 _ (by omega)) (fun k hk => ec k (by omega) (by omega) (by omega) (by omega) (by omega) (by omega) (by omega) (by omega) (by omega))
            · rw [e0 1]; exact k01
            · exact o7
            · rw [e0 6, f27]; exact k06
            · rw [ec 39 (by omega) (by omega) (by omega) (by omega) (by omega) (by omega) (by omega) (by omega) (by omega)]; exact n1
            · rw [e49 55 (by omega) (by omega) (by omega)]; exact n2
            · rw [ec 40 (by omega) (by omega) (by omega) (by omega) (by omega) (by omega) (by omega) (by omega) (by omega), ec 41 (by omega) (by omega) (by omega) (by omega) (by omega) (by omega) (by omega) (by omega) (by omega), ec 42 (by omega) (by omega) (by omega) (by omega) (by omega) (by omega) (by omega) (by omega) (by omega), ec 82 (by omega) (by omega) (by omega) (by omega) (by omega) (by omega) (by omega) (by omega) (by omega), ec 83 (by omega) (by omega) (by omega) (by omega) (by omega) (by omega) (by omega) (by omega) (by omega), ec 84 (by omega) (by omega) (by omega) (by omega) (by omega) (by omega) (by omega) (by omega) (by omega)]
              exact n3
            · rw [List.length_append]
              show ls.length + 1 ≤ 5
              omega
            · rw [e0 4, List.length_append]; exact k04
            · rw [List.length_append]; exact f20
            · rw [List.length_append]
              show ls.length < ls.length + 1
              omega
            · rw [e0 5]; exact k05
            · exact f21
            · rw [List.length_append]
              show sm + sl l ≤ 700 * (ls.length + 1)
              omega
            · by_cases hkl : k < ls.length
              · rw [List.getElem?_append_left hkl] at hk
                obtain ⟨a1, a2, ⟨lc, cc, len, b1, b2, b3, b4, b5, b6, b7, b8, b9, b10, b11⟩, q1, q2⟩ := l8 k l' hk
                refine ⟨a1, a2, ⟨lc, cc, len, ?_, b2, by omega, b4, by omega, ?_, ?_, ?_, b9, ?_, hl_C.fr (ec cc b5 (by omega) (by omega) (by omega) (by omega) (by omega) (by omega) (by omega) (by omega)) b11⟩, ?_, ?_⟩
                · rw [r6, if_neg (by omega)]; exact b1
                · rw [(clA lc (by omega) b3).1]; exact b6
                · rw [(clA lc (by omega) b3).2]; exact b7
                · rw [(clA cc (by omega) b5).1]; exact b8
                · rw [ec lc b3 (by omega) (by omega) (by omega) (by omega) (by omega) (by omega) (by omega) (by omega)]; exact b10
                · rw [o2 k (by omega), kc 63 (by omega) (by omega) (by omega) (by omega) (by omega) (by omega)]; exact q1
                · refine hl_M_mono (Nat.le_add_right _ _) (fun j hj => ?_) (fun c h1 h2 j h3 h4 => ?_) q2
                  · obtain ⟨x1, x2, x3⟩ := o5 j hj
                    rw [x1, x2, x3, kc 70 (by omega) (by omega) (by omega) (by omega) (by omega) (by omega), kc 71 (by omega) (by omega) (by omega) (by omega) (by omega) (by omega), kc 72 (by omega) (by omega) (by omega) (by omega) (by omega) (by omega)]
                    exact ⟨rfl, rfl, rfl⟩
                  · rw [o3 c h1 h2 j (by omega), kc c (by omega) (by omega) (by omega) (by omega) (by omega) (by omega)]
              · have hkk : k = ls.length := by
                  have h1 := (List.getElem?_eq_some_iff.mp hk).1
                  rw [List.length_append] at h1
                  have : k < ls.length + 1 := h1
                  omega
                subst hkk
                rw [List.getElem?_append_right (Nat.le_refl _), Nat.sub_self] at hk
                have : l = l' := by simpa using hk
                subst this
                have ecell : ∀ c, Λ.2.2 ≤ c → m2.1 c = m.1 c := fun c hc => (o1 c (by omega) (by omega) (by omega)).trans (km c (by omega))
                refine ⟨u2, u3, ⟨Λ.2.2, Λ.2.2 + 1, cl l, ?_, h93, by omega, by omega, by omega, s0, rr, s1, by omega, ?_, lCode_C l 0 (fun j hj => ?_) (by omega)⟩, f63, fM⟩
                · rw [r6, if_pos rfl]
                · rw [ecell _ (Nat.le_refl _)]; exact g3'
                · rw [ecell _ (by omega), Nat.zero_add]; exact g4' j hj
            · rw [e0 14, k0 14 (by omega) (by omega) (by omega) (by omega)]; exact i2
            · rw [e49 65 (by omega) (by omega) (by omega)]; exact i3
            · obtain ⟨wb, mb, d, q1, q2, q3, q4, q5, q6⟩ := i4 i b hib
              refine ⟨wb, ?_, d, q1, by omega, ?_, q4.frL (fun c h1 h2 => clA c (by omega) (by omega)), ?_, q6.fr fun k k1 k2 => ⟨ec _ (by omega) (by omega) (by omega) (by omega) (by omega) (by omega) (by omega) (by omega) (by omega), e2 _ (by omega)⟩⟩
              · rw [MI.fr (ec 90 (by omega) (by omega) (by omega) (by omega) (by omega) (by omega) (by omega) (by omega) (by omega)) (e2 91 (by omega))]; exact mb
              · rw [(clA 48 (by omega) (by omega)).2]; exact q3
              · rw [ec (15 + d) (by omega) (by omega) (by omega) (by omega) (by omega) (by omega) (by omega) (by omega) (by omega)]; exact q5
            · rw [n2', List.length_append]
              show Λ.2.2 + 2 ≤ 93 + 2 * (ls.length + 1) + 21 * is.length
              omega
          · rw [hz'] at hz2
            exact absurd hz2 (by decide)
      · have h5 : ls.length = 5 := by omega
        refine selF (fun z => c2 ((n32_lt (b := 5) (by omega) (by omega)).mp z)) ⟨hM, ?_⟩
        unfold wX12_law
        rw [d2, l3, h5]
        exact t_isInY ⟨Int32.not_lt.mp c0, c1⟩ (seln1 (selE rfl ⟨rfl, h⟩))
    · refine selF c1 ⟨hM, ?_⟩
      unfold wX12_law
      rw [d2]
      exact t_isInN (fun z => c1 z.2) (seln0 ⟨rfl, h⟩)
