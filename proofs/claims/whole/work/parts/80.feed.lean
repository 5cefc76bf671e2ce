/-! layer 2: plate, feed -/
theorem sIk {μ : hx_M} {c j k : Nat} {v : Int32} (h : k ≠ c) : (hx_sI μ c j v).1 k = μ.1 k := by
  show (if k = c then _ else μ.1 k) = μ.1 k
  rw [if_neg h]
theorem sIj {μ : hx_M} {c j i : Nat} {v : Int32} (h : i ≠ j) : (hx_sI μ c j v).1 c i = μ.1 c i := by
  rw [hm_sI, if_neg (fun z => h z.2)]
theorem sIe {μ : hx_M} {c j : Nat} {v : Int32} : (hx_sI μ c j v).1 c j = v := by
  rw [hm_sI, if_pos ⟨rfl, rfl⟩]
theorem sIk2 {μ : hx_M} {c j : Nat} {v : Int32} : (hx_sI μ c j v).2 = μ.2 := rfl
/-- bytes told: the first fd are f -/
def TC (c0 s c1 : Nat) (f : Nat → Int32) (fd : Nat) (μ m : hx_M) : Prop := m.1 c0 s = Int32.ofNat fd ∧ (∀ j, j < fd → m.1 c1 j = f j) ∧ (∀ k, k ≠ c0 → k ≠ c1 → m.1 k = μ.1 k) ∧ (∀ j, j ≠ s → m.1 c0 j = μ.1 c0 j) ∧ m.2 = μ.2
theorem TC.put {c0 s c1 : Nat} {f : Nat → Int32} {fd : Nat} {μ m : hx_M} {v : Int32} (h : TC c0 s c1 f fd μ m) (hc : c0 ≠ c1) (hfd : fd < 700) : TC c0 s c1 (fun j => if j = fd then v else f j) (fd + 1) μ (hx_sI (hx_sI m c1 (m.1 c0 s).toNatClampNeg v) c0 s (m.1 c0 s + 1)) := by
  obtain ⟨h1, h2, h3, h4, h5⟩ := h
  rw [h1, n32_nat (by omega), n32_add1]
  refine ⟨sIe, fun j hj => ?_, fun k k0 k1 => ?_, fun j hj => ?_, h5⟩
  · rw [sIk hc.symm]
    show _ = if j = fd then v else f j
    by_cases e : j = fd
    · rw [if_pos e, e]; exact sIe
    · rw [if_neg e, sIj e]; exact h2 j (by omega)
  · rw [sIk k0, sIk k1]; exact h3 k k0 k1
  · rw [sIj hj, sIk hc]; exact h4 j hj
def by1 (v x : Int32) : Int32 := vp_nar .byte ((v >>> (x &&& 31) : Int32).toInt8.toInt32)
/-- four bytes of a number from fd on -/
def fd4 (f : Nat → Int32) (fd : Nat) (v : Int32) : Nat → Int32 := fun j => if j = fd + 1 + 1 + 1 then by1 v 0 else if j = fd + 1 + 1 then by1 v 8 else if j = fd + 1 then by1 v 16 else if j = fd then by1 v 24 else f j
theorem nar_nar {y : Int32} : vp_nar .byte (vp_nar .byte y) = vp_nar .byte y := by
  show y.toInt8.toInt32.toInt8.toInt32 = y.toInt8.toInt32
  rw [Int8.toInt8_toInt32]
theorem fd4_nar {f g : Nat → Int32} {fd : Nat} {v : Int32} (h : ∀ j, j < fd → f j = vp_nar .byte (g j)) : ∀ j, j < fd + 4 → fd4 f fd v j = vp_nar .byte (fd4 g fd v j) := by
  intro j hj
  have hb : ∀ x, by1 v x = vp_nar .byte (by1 v x) := fun x => nar_nar.symm
  unfold fd4
  by_cases c1 : j = fd + 1 + 1 + 1
  · rw [if_pos c1, if_pos c1]; exact hb 0
  · rw [if_neg c1, if_neg c1]
    by_cases c2 : j = fd + 1 + 1
    · rw [if_pos c2, if_pos c2]; exact hb 8
    · rw [if_neg c2, if_neg c2]
      by_cases c3 : j = fd + 1
      · rw [if_pos c3, if_pos c3]; exact hb 16
      · rw [if_neg c3, if_neg c3]
        by_cases c4 : j = fd
        · rw [if_pos c4, if_pos c4]; exact hb 24
        · rw [if_neg c4, if_neg c4]; exact h j (by omega)
theorem putC {f : Nat → Int32} {fd : Nat} {μ m : hx_M} {v : Int32} {K : hx_M → Prop} (h : TC 0 1 1 f fd μ m) (hfd : fd + 4 ≤ 700) (k : ∀ m', TC 0 1 1 (fd4 f fd v) (fd + 4) μ m' → K m') : wX11_putOnTape m v K := by
  unfold wX11_putOnTape
  refine ⟨5, ?_⟩
  have one : ∀ (n g : Nat) (x : Int32) (f : Nat → Int32) (m : hx_M), TC 0 1 1 f g μ m → g < 700 → ¬ x < 0 → (∀ m', TC 0 1 1 (fun j => if j = g then by1 v x else f j) (g + 1) μ m' → wX11_putOnTape_L3 v K n (x + (-8)) m') → wX11_putOnTape_L3 v K (n + 1) x m := by
    intro n g x f m h hg hx k
    unfold wX11_putOnTape_L3
    refine selF hx (selF ?_ ⟨?_, k _ (h.put (by omega) hg)⟩)
    · rw [h.1, n32_le (by omega) (by omega)]; omega
    · rw [h.1]; exact n32_in hg (by omega)
  refine one _ fd 24 _ _ h (by omega) (by decide) fun m h => ?_
  refine one _ (fd + 1) 16 _ _ h (by omega) (by decide) fun m h => ?_
  refine one _ (fd + 1 + 1) 8 _ _ h (by omega) (by decide) fun m h => ?_
  refine one _ (fd + 1 + 1 + 1) 0 _ _ h (by omega) (by decide) fun m h => ?_
  unfold wX11_putOnTape_L3
  exact selT (by decide) (k m h)
theorem putM {f : Nat → Int32} {fd : Nat} {μ m : hx_M} {v : Int32} {K : hx_M → Prop} (h : TC 49 23 74 f fd μ m) (hfd : fd + 4 ≤ 700) (k : ∀ m', TC 49 23 74 (fd4 f fd v) (fd + 4) μ m' → K m') : wX12_four m v K := by
  unfold wX12_four
  refine ⟨5, ?_⟩
  have one : ∀ (n g : Nat) (x : Int32) (f : Nat → Int32) (m : hx_M), TC 49 23 74 f g μ m → g < 700 → ¬ x < 0 → (∀ m', TC 49 23 74 (fun j => if j = g then by1 v x else f j) (g + 1) μ m' → wX12_four_L3 v K n (x + (-8)) m') → wX12_four_L3 v K (n + 1) x m := by
    intro n g x f m h hg hx k
    unfold wX12_four_L3
    refine selF hx ⟨?_, k _ (h.put (by omega) hg)⟩
    rw [h.1]; exact n32_in hg (by omega)
  refine one _ fd 24 _ _ h (by omega) (by decide) fun m h => ?_
  refine one _ (fd + 1) 16 _ _ h (by omega) (by decide) fun m h => ?_
  refine one _ (fd + 1 + 1) 8 _ _ h (by omega) (by decide) fun m h => ?_
  refine one _ (fd + 1 + 1 + 1) 0 _ _ h (by omega) (by decide) fun m h => ?_
  unfold wX12_four_L3
  exact selT (by decide) (k m h)
theorem op_feed (Λ : hx_L) (μ : hx_M) (a1 a2 a3 a4 a5 : Int32) (h : hI Λ μ) : wL_6 Λ μ a1 a2 a3 a4 a5 hI := by
  obtain ⟨hF, hM, h15, a, ls, fo, is, w, hc, hm, ht, hl, hi⟩ := id h
  obtain ⟨⟨fd, hfd, d1, d2, d3⟩, hfa, np, hnp, n1, n2, n3⟩ := id ht
  unfold wL_6 wX11_feed
  have e20 : ∀ x : Nat, (Int32.ofNat x + 20 ≤ 700) ↔ (Int32.ofNat (x + 20) ≤ Int32.ofNat 700) := fun x => by rw [← n32_add]; exact Iff.rfl
  rw [d1, e20, n32_le (by omega) (by omega)]
  by_cases hf : fd + 20 ≤ 700
  · refine selT hf ?_
    have s0 : TC 0 1 1 (μ.1 1) fd μ μ := ⟨d1, fun _ _ => rfl, fun _ _ _ => rfl, fun _ _ => rfl, rfl⟩
    refine putC s0 (by omega) fun m h1 => putC h1 (by omega) fun m h1 => putC h1 (by omega) fun m h1 => putC h1 (by omega) fun m h1 => putC h1 (by omega) fun m1 h1 => ?_
    obtain ⟨p1, p2, p3, p4, p5⟩ := h1
    unfold wX12_feed
    have d2' : m1.1 49 23 = Int32.ofNat fd := by rw [p3 49 (by omega) (by omega)]; exact d2
    rw [d2', e20, n32_le (by omega) (by omega)]
    refine selT hf ?_
    have t0 : TC 49 23 74 (μ.1 74) fd m1 m1 := ⟨d2', fun j hj => by rw [p3 74 (by omega) (by omega)], fun _ _ _ => rfl, fun _ _ => rfl, rfl⟩
    refine putM t0 (by omega) fun m h1 => putM h1 (by omega) fun m h1 => putM h1 (by omega) fun m h1 => putM h1 (by omega) fun m h1 => putM h1 (by omega) fun m2 h2 => ?_
    obtain ⟨q1, q2, q3, q4, q5⟩ := h2
    have x3 : ∀ k, k ≠ 0 → k ≠ 1 → k ≠ 49 → k ≠ 74 → m2.1 k = μ.1 k := fun k a b c d => (q3 k c d).trans (p3 k a b)
    have x0 : ∀ j, j ≠ 1 → m2.1 0 j = μ.1 0 j := fun j hj => by rw [q3 0 (by omega) (by omega)]; exact p4 j hj
    have x49 : ∀ j, j ≠ 23 → m2.1 49 j = μ.1 49 j := fun j hj => by rw [q4 j hj, p3 49 (by omega) (by omega)]
    have x2 : m2.2 = μ.2 := q5.trans p5
    refine ⟨by rw [p1, q1], hF, hM, by rw [x3 15 (by omega) (by omega) (by omega) (by omega)]; exact h15, a, ls, fo, is, w, ?_, ?_, ?_, ?_, ?_⟩
    · exact hc.fr fun k k1 k2 => ⟨x3 _ (by omega) (by omega) (by omega) (by omega), by rw [x2]⟩
    · exact hm.fr (fun j hj => x49 j (by simp at hj; omega)) (by rw [x2]) (fun k hk => x3 _ (by omega) (by omega) (by omega) (by omega))
    · refine ⟨⟨fd + 4 + 4 + 4 + 4 + 4, by omega, by rw [q3 0 (by omega) (by omega)]; exact p1, q1, fun j hj => ?_⟩, ?_, np, hnp, ?_, ?_, ?_⟩
      · rw [q3 1 (by omega) (by omega), p2 j hj, q2 j hj]
        exact fd4_nar (fd4_nar (fd4_nar (fd4_nar (fd4_nar d3)))) j hj
      · rw [x0 6 (by omega), x49 27 (by omega)]; exact hfa
      · rw [x3 39 (by omega) (by omega) (by omega) (by omega)]; exact n1
      · rw [x49 55 (by omega)]; exact n2
      · rw [x3 40 (by omega) (by omega) (by omega) (by omega), x3 41 (by omega) (by omega) (by omega) (by omega), x3 42 (by omega) (by omega) (by omega) (by omega), x3 82 (by omega) (by omega) (by omega) (by omega), x3 83 (by omega) (by omega) (by omega) (by omega), x3 84 (by omega) (by omega) (by omega) (by omega)]
        exact n3
    · exact hl.fr (x0 4 (by omega)) (x0 5 (by omega)) (fun j hj => x49 j (by simp at hj; omega)) (fun k _ _ => x3 _ (by omega) (by omega) (by omega) (by omega)) (fun k _ => x3 _ (by omega) (by omega) (by omega) (by omega))
    · exact hi.fr (x0 14 (by omega)) (x49 65 (by omega)) (x3 _ (by omega) (by omega) (by omega) (by omega)) (by rw [x2]) (fun k _ => ⟨x3 _ (by omega) (by omega) (by omega) (by omega), by rw [x2]⟩)
  · refine selF hf ?_
    show wX12_feed μ a1 a2 a3 a4 a5 _
    unfold wX12_feed
    rw [d2, e20, n32_le (by omega) (by omega)]
    exact selF hf ⟨rfl, h⟩
theorem op_plate (Λ : hx_L) (μ : hx_M) (a1 a2 a3 : Int32) (h : hI Λ μ) : wL_24 Λ μ a1 a2 a3 hI := by
  obtain ⟨hF, hM, h15, a, ls, fo, is, w, hc, hm, ht, hl, hi⟩ := id h
  obtain ⟨hfd, hfa, np, hnp, n1, n2, n3⟩ := id ht
  unfold wL_24 wX11_plate wX11_plate_J34 wX11_plate_J35 wX11_plate_J35_9
  by_cases h1 : 0 ≤ a1 ∧ a1 ≤ 3
  · by_cases h2 : 0 ≤ a2 ∧ a2 ≤ 200
    · by_cases h3 : 0 ≤ a3 ∧ a3 ≤ 60
      · refine t_withinY h1 (sel1 (t_withinY h2 (sel1 (t_withinY h3 (sel1 (sel1 ?_))))))
        unfold wX5_add
        by_cases hn : np = 60
        · subst hn
          rw [n1]
          refine selF (by decide) ?_
          unfold wX12_plate
          refine t_isInY h1 (sel1 (t_isInY h2 (sel1 (t_isInY h3 (sel1 ?_)))))
          rw [n2]
          exact selE rfl ⟨rfl, h⟩
        · have v : vp_in (Int32.ofNat np) 60 := n32_in (by omega) (by omega)
          rw [n1]
          refine selT ((n32_lt (b := 60) (by omega) (by omega)).mpr (by omega)) ⟨v, v, v, ?_⟩
          rw [n32_nat (by omega)]
          rintro m1 e1
          unfold wX12_plate
          refine t_isInY h1 (sel1 (t_isInY h2 (sel1 (t_isInY h3 (sel1 ?_)))))
          have n2' : m1.1 49 55 = Int32.ofNat np := by rw [e1, sIk (by omega), sIk (by omega), sIk (by omega), sIk (by omega)]; exact n2
          rw [n2']
          refine selN (fun z => hn ((n32_eq (b := 60) (by omega) (by omega)).mp z)) ⟨v, v, v, ?_⟩
          rw [n32_nat (by omega)]
          rintro m2 e2
          have x3 : ∀ k, ¬ (39 ≤ k ∧ k ≤ 42) → k ≠ 49 → ¬ (82 ≤ k ∧ k ≤ 84) → m2.1 k = μ.1 k := fun k a b c => by
            rw [e2, e1, sIk (by omega), sIk (by omega), sIk (by omega), sIk (by omega), sIk (by omega), sIk (by omega), sIk (by omega), sIk (by omega)]
          have x49 : ∀ j, j ≠ 55 → m2.1 49 j = μ.1 49 j := fun j hj => by
            rw [e2, e1, sIj hj, sIk (by omega), sIk (by omega), sIk (by omega), sIk (by omega), sIk (by omega), sIk (by omega), sIk (by omega)]
          have x2 : m2.2 = μ.2 := by rw [e2, e1]; rfl
          have y39 : m2.1 39 1 = Int32.ofNat (np + 1) := by
            rw [e2, e1, sIk (by omega), sIk (by omega), sIk (by omega), sIk (by omega), sIe, n32_add1]
          have y49 : m2.1 49 55 = Int32.ofNat (np + 1) := by rw [e2, sIe, n32_add1]
          refine ⟨?_, hF, hM, by rw [x3 15 (by omega) (by omega) (by omega)]; exact h15, a, ls, fo, is, w, ?_, ?_, ?_, ?_, ?_⟩
          · rw [y49, e1, sIe, n32_add1]
          · exact hc.fr fun k k1 k2 => ⟨x3 _ (by omega) (by omega) (by omega), by rw [x2]⟩
          · exact hm.fr (fun j hj => x49 j (by simp at hj; omega)) (by rw [x2]) (fun k hk => x3 _ (by omega) (by omega) (by omega))
          · refine ⟨?_, ?_, np + 1, by omega, y39, y49, fun k hk => ?_⟩
            · obtain ⟨fd, f1, f2, f3, f4⟩ := hfd
              refine ⟨fd, f1, ?_, ?_, ?_⟩
              · rw [x3 0 (by omega) (by omega) (by omega)]; exact f2
              · rw [x49 23 (by omega)]; exact f3
              · rw [x3 1 (by omega) (by omega) (by omega), x3 74 (by omega) (by omega) (by omega)]; exact f4
            · rw [x3 0 (by omega) (by omega) (by omega), x49 27 (by omega)]; exact hfa
            · have y40 : m2.1 40 k = if k = np then a1 else μ.1 40 k := by
                rw [e2, e1, sIk (by omega), sIk (by omega), sIk (by omega), sIk (by omega), sIk (by omega), sIk (by omega), sIk (by omega), hm_sI]; simp
              have y41 : m2.1 41 k = if k = np then a2 else μ.1 41 k := by
                rw [e2, e1, sIk (by omega), sIk (by omega), sIk (by omega), sIk (by omega), sIk (by omega), sIk (by omega), hm_sI, sIk (by omega)]; simp
              have y42 : m2.1 42 k = if k = np then a3 else μ.1 42 k := by
                rw [e2, e1, sIk (by omega), sIk (by omega), sIk (by omega), sIk (by omega), sIk (by omega), hm_sI, sIk (by omega), sIk (by omega)]; simp
              have y82 : m2.1 82 k = if k = np then a1 else μ.1 82 k := by
                rw [e2, e1, sIk (by omega), sIk (by omega), sIk (by omega), hm_sI, sIk (by omega), sIk (by omega), sIk (by omega), sIk (by omega)]; simp
              have y83 : m2.1 83 k = if k = np then a2 else μ.1 83 k := by
                rw [e2, e1, sIk (by omega), sIk (by omega), hm_sI, sIk (by omega), sIk (by omega), sIk (by omega), sIk (by omega), sIk (by omega)]; simp
              have y84 : m2.1 84 k = if k = np then a3 else μ.1 84 k := by
                rw [e2, e1, sIk (by omega), hm_sI, sIk (by omega), sIk (by omega), sIk (by omega), sIk (by omega), sIk (by omega), sIk (by omega)]; simp
              rw [y40, y41, y42, y82, y83, y84]
              by_cases e : k = np
              · simp only [if_pos e]
                exact ⟨trivial, trivial, trivial, h2⟩
              · simp only [if_neg e]
                exact n3 k (by omega)
          · exact hl.fr (by rw [x3 0 (by omega) (by omega) (by omega)]) (by rw [x3 0 (by omega) (by omega) (by omega)]) (fun j hj => x49 j (by simp at hj; omega)) (fun k _ _ => x3 _ (by omega) (by omega) (by omega)) (fun k _ => x3 _ (by omega) (by omega) (by omega))
          · exact hi.fr (by rw [x3 0 (by omega) (by omega) (by omega)]) (x49 65 (by omega)) (x3 _ (by omega) (by omega) (by omega)) (by rw [x2]) (fun k _ => ⟨x3 _ (by omega) (by omega) (by omega), by rw [x2]⟩)
      · refine t_withinY h1 (sel1 (t_withinY h2 (sel1 (t_withinN h3 (sel0 (sel0 ?_))))))
        unfold wX12_plate
        exact t_isInY h1 (sel1 (t_isInY h2 (sel1 (t_isInN h3 (sel0 ⟨rfl, h⟩)))))
    · refine t_withinY h1 (sel1 (t_withinN h2 (sel0 (sel0 ?_))))
      unfold wX12_plate
      exact t_isInY h1 (sel1 (t_isInN h2 (sel0 ⟨rfl, h⟩)))
  · refine t_withinN h1 (sel0 (sel0 ?_))
    unfold wX12_plate
    exact t_isInN h1 (sel0 ⟨rfl, h⟩)
