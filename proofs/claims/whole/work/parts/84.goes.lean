/-! layer 2: a person passes a season, the reference -/
theorem sI_comm {μ : hx_M} {c c' j j' : Nat} {v v' : Int32} (h : c ≠ c') : hx_sI (hx_sI μ c j v) c' j' v' = hx_sI (hx_sI μ c' j' v') c j v := by
  refine hm_ext (fun k i => ?_) (fun _ _ => rfl)
  rw [hm_sI, hm_sI, hm_sI, hm_sI]
  by_cases h1 : k = c' ∧ i = j'
  · rw [if_pos h1, if_neg (fun z => h (z.1.symm.trans h1.1)), if_pos h1]
  · rw [if_neg h1, if_neg h1]
theorem sI_over {μ : hx_M} {c j : Nat} {v v' : Int32} : hx_sI (hx_sI μ c j v) c j v' = hx_sI μ c j v' := by
  refine hm_ext (fun k i => ?_) (fun _ _ => rfl)
  rw [hm_sI, hm_sI, hm_sI]
  by_cases h1 : k = c ∧ i = j
  · rw [if_pos h1, if_pos h1]
  · rw [if_neg h1, if_neg h1, if_neg h1]
theorem tal_comm {μ : hx_M} {c j p i : Nat} {v : Int32} (h : c ≠ 5) : htal (hx_sI μ c j v) p i = hx_sI (htal μ p i) c j v := by
  unfold htal
  rw [sI_comm h, sIk h.symm]
/-- what the reference's cells hold amid a season -/
def MB (n s : Nat) (m0 b : hx_M) (pl pk : Nat) (m : hx_M) : Prop :=
  ((∀ k, k ≠ 49 → ¬ (52 ≤ k ∧ k ≤ 53) → ¬ (56 ≤ k ∧ k ≤ 60) → k ≠ 73 → ¬ (76 ≤ k ∧ k ≤ 77) → m.1 k = m0.1 k) ∧ (∀ j, j ≠ 45 → m.1 49 j = m0.1 49 j) ∧ (∀ k, k ≠ 49 → m.2 k = m0.2 k) ∧ (∀ j, j ≠ 6 → m.2 49 j = m0.2 49 j) ∧ (∀ j, j < 16 * (s + 1) → m.1 57 j = m0.1 57 j ∧ m.1 58 j = m0.1 58 j ∧ m.1 59 j = m0.1 59 j ∧ m.1 60 j = m0.1 60 j)) ∧
  m.2 49 6 = b.2 0 0 ∧ (∀ q, q < n → m.1 52 q = b.1 3 q) ∧ (∀ q, q < n → m.1 53 q = b.1 4 q) ∧ (∀ k, k < 6 * n → m.1 56 k = b.1 5 k) ∧
  (∀ q, q < pl → m.1 57 (16 * (s + 1) + q) = b.1 6 (16 * (s + 1) + q)) ∧
  (∀ q, q < pk → m.1 58 (16 * (s + 1) + q) = b.1 7 (16 * (s + 1) + q) ∧ m.1 59 (16 * (s + 1) + q) = b.1 8 (16 * (s + 1) + q) ∧ m.1 60 (16 * (s + 1) + q) = b.1 9 (16 * (s + 1) + q))
section DM
variable {n s p pl pk i : Nat} {m0 b m : hx_M} {v : Int32}
theorem MB.oW {m' : hx_M} (h : MB n s m0 b pl pk m) (o : offW m m') : MB n s m0 b pl pk m' := by
  obtain ⟨⟨h1, h2, h3, h4, h4'⟩, h5, h6, h7, h8, h9, h10⟩ := h
  unfold MB
  rw [o.2.2, o.1 52 (by omega) (by omega) (by omega) (by omega), o.1 53 (by omega) (by omega) (by omega) (by omega), o.1 56 (by omega) (by omega) (by omega) (by omega), o.1 57 (by omega) (by omega) (by omega) (by omega), o.1 58 (by omega) (by omega) (by omega) (by omega), o.1 59 (by omega) (by omega) (by omega) (by omega), o.1 60 (by omega) (by omega) (by omega) (by omega)]
  exact ⟨⟨fun k a1 a2 a3 a4 a5 => by rw [o.1 k (by omega) (by omega) (by omega) (by omega)]; exact h1 k a1 a2 a3 a4 a5, fun j hj => by rw [o.2.1 j hj]; exact h2 j hj, h3, h4, h4'⟩, h5, h6, h7, h8, h9, h10⟩
theorem MB.tal (h : MB n s m0 b pl pk m) (hp : p < n) (hi : i < 6) : MB n s m0 (htal b p i) pl pk (hx_sI m 56 (6 * p + i) (m.1 56 (6 * p + i) + 1)) := by
  obtain ⟨⟨h1, h2, h3, h4, h4'⟩, h5, h6, h7, h8, h9, h10⟩ := h
  refine ⟨⟨fun k a1 a2 a3 a4 a5 => by rw [sIk (by omega)]; exact h1 k a1 a2 a3 a4 a5, fun j hj => by rw [sIk (by omega)]; exact h2 j hj, h3, h4, by rw [sIk (by omega), sIk (by omega), sIk (by omega), sIk (by omega)]; exact h4'⟩, h5, by simpa [hm_sI, htal] using h6, by simpa [hm_sI, htal] using h7, ?_, by simpa [hm_sI, htal] using h9, by simpa [hm_sI, htal] using h10⟩
  intro k hk
  unfold htal
  rw [hm_sI, hm_sI, h8 k hk, h8 (6 * p + i) (by omega)]
  simp
theorem MB.coin (h : MB n s m0 b pl pk m) : MB n s m0 (hx_sI b 3 p v) pl pk (hx_sI m 52 p v) := by
  obtain ⟨⟨h1, h2, h3, h4, h4'⟩, h5, h6, h7, h8, h9, h10⟩ := h
  refine ⟨⟨fun k a1 a2 a3 a4 a5 => by rw [sIk (by omega)]; exact h1 k a1 a2 a3 a4 a5, fun j hj => by rw [sIk (by omega)]; exact h2 j hj, h3, h4, by rw [sIk (by omega), sIk (by omega), sIk (by omega), sIk (by omega)]; exact h4'⟩, h5, ?_, by simpa [hm_sI] using h7, by simpa [hm_sI] using h8, by simpa [hm_sI] using h9, by simpa [hm_sI] using h10⟩
  intro k hk
  rw [hm_sI, hm_sI, h6 k hk]
  simp
theorem MB.worn (h : MB n s m0 b pl pk m) : MB n s m0 (hx_sI b 4 p v) pl pk (hx_sI m 53 p v) := by
  obtain ⟨⟨h1, h2, h3, h4, h4'⟩, h5, h6, h7, h8, h9, h10⟩ := h
  refine ⟨⟨fun k a1 a2 a3 a4 a5 => by rw [sIk (by omega)]; exact h1 k a1 a2 a3 a4 a5, fun j hj => by rw [sIk (by omega)]; exact h2 j hj, h3, h4, by rw [sIk (by omega), sIk (by omega), sIk (by omega), sIk (by omega)]; exact h4'⟩, h5, by simpa [hm_sI] using h6, ?_, by simpa [hm_sI] using h8, by simpa [hm_sI] using h9, by simpa [hm_sI] using h10⟩
  intro k hk
  rw [hm_sI, hm_sI, h7 k hk]
  simp
theorem MB.len (h : MB n s m0 b pl pk m) (hl : pl = p ∨ pl = p + 1) : MB n s m0 (hx_sI b 6 (16 * (s + 1) + p) v) (p + 1) pk (hx_sI m 57 (16 * (s + 1) + p) v) := by
  obtain ⟨⟨h1, h2, h3, h4, h4'⟩, h5, h6, h7, h8, h9, h10⟩ := h
  refine ⟨⟨fun k a1 a2 a3 a4 a5 => by rw [sIk (by omega)]; exact h1 k a1 a2 a3 a4 a5, fun j hj => by rw [sIk (by omega)]; exact h2 j hj, h3, h4, fun j hj => by rw [sIj (by omega), sIk (by omega), sIk (by omega), sIk (by omega)]; exact h4' j hj⟩, h5, by simpa [hm_sI] using h6, by simpa [hm_sI] using h7, by simpa [hm_sI] using h8, ?_, by simpa [hm_sI] using h10⟩
  intro k hk
  rw [hm_sI, hm_sI]
  by_cases e : k = p
  · simp [e]
  · rw [if_neg (by omega), if_neg (by omega)]; exact h9 k (by omega)
theorem MB.ask (h : MB n s m0 b p p m) (hp : p < n) :
    MB n s m0 (hs_ask (16 * (s + 1) + p) p b) p (p + 1) (hx_sI (hx_sI (hx_sI (hx_sI (hx_sL m 49 6 (hg_z (b.2 0 0))) 52 p (hg_coin (b.1 3 p) (b.1 1 p))) 60 (16 * (s + 1) + p) (hg_ch (b.2 0 0))) 58 (16 * (s + 1) + p) (hg_coin (b.1 3 p) (b.1 1 p))) 59 (16 * (s + 1) + p) (b.1 4 p)) := by
  obtain ⟨⟨h1, h2, h3, h4, h4'⟩, h5, h6, h7, h8, h9, h10⟩ := h
  refine ⟨⟨fun k a1 a2 a3 a4 a5 => ?_, fun j hj => ?_, fun k hk => ?_, fun j hj => ?_, fun j hj => ?_⟩, ?_, ?_, ?_, ?_, ?_, ?_⟩
  · rw [sIk (by omega), sIk (by omega), sIk (by omega), sIk (by omega)]; exact h1 k a1 a2 a3 a4 a5
  · rw [sIk (by omega), sIk (by omega), sIk (by omega), sIk (by omega)]; exact h2 j hj
  · rw [sIk2, sIk2, sIk2, sIk2, ← h3 k hk]
    funext j
    rw [hm_sLv, if_neg (fun z => hk z.1)]
  · rw [sIk2, sIk2, sIk2, sIk2, hm_sLv, if_neg (fun z => hj z.2)]; exact h4 j hj
  · have := h4' j hj
    rw [sIk (by omega), sIk (by omega), sIk (by omega), sIk (by omega), sIk (by omega), sIj (by omega), sIk (by omega), sIk (by omega), sIj (by omega), sIk (by omega), sIk (by omega), sIk (by omega), sIk (by omega), sIk (by omega), sIj (by omega), sIk (by omega)]; exact this
  · rw [sIk2, sIk2, sIk2, sIk2, hm_sLv, if_pos ⟨rfl, rfl⟩]
    unfold hs_ask
    rw [sIk2, sIk2, sIk2, sIk2, hm_sLv, if_pos ⟨rfl, rfl⟩]
  · intro q hq
    have := h6 q hq
    unfold hs_ask
    simp [hm_sI, hm_sL1, this]
  · intro q hq
    have := h7 q hq
    unfold hs_ask
    simp [hm_sI, hm_sL1, this]
  · intro q hq
    have := h8 q hq
    unfold hs_ask
    simp [hm_sI, hm_sL1, this]
  · intro q hq
    have := h9 q hq
    unfold hs_ask
    simp [hm_sI, hm_sL1, this]
  · intro q hq
    unfold hs_ask
    by_cases e : q = p
    · subst e
      simp [hm_sI, hm_sL1]
    · have := h10 q (by omega)
      simpa [hm_sI, hm_sL1, e] using this
end DM
theorem cntM {p i : Nat} {m : hx_M} {K : hx_M → Prop} (hp : p < 16) (hi : i < 6) (k : K (hx_sI m 56 (6 * p + i) (m.1 56 (6 * p + i) + 1))) : wX12_counts m (Int32.ofNat p) (Int32.ofNat i) K := by
  unfold wX12_counts
  have e : 6 * Int32.ofNat p + Int32.ofNat i = Int32.ofNat (6 * p + i) := by rw [← n32_add, ← n32_mul]; rfl
  rw [e, n32_nat (by omega)]
  exact ⟨n32_in (by omega) (by omega), n32_in (by omega) (by omega), k⟩
section ER
variable {a : hw_T} {p s : Nat} {m0 b m : hx_M} {l : List hl_R} {f : Nat}
theorem MB.mid {pl pk : Nat} (h : MB a.1.1 a.1.2.1 m0 b pl pk m) (hc : MWp a m0) (w : WF 300 a) : MWp a m := by
  obtain ⟨⟨h1, h2, h3, h4, h4'⟩, h5⟩ := h
  have hn := w.n
  unfold MWp
  rw [h2 0 (by omega), h2 1 (by omega), h1 50 (by omega) (by omega) (by omega) (by omega) (by omega), h1 51 (by omega) (by omega) (by omega) (by omega) (by omega), h1 54 (by omega) (by omega) (by omega) (by omega) (by omega), h1 61 (by omega) (by omega) (by omega) (by omega) (by omega), h1 62 (by omega) (by omega) (by omega) (by omega) (by omega)]
  obtain ⟨c1, c2, c3, c4, c5, c6⟩ := hc
  exact ⟨c1, c2, fun t p ht hp => by rw [(h4' _ (by omega)).1]; exact c3 t p ht hp, c4, c5, c6⟩
/-- behind the wish -/
theorem goesT {K : hx_M → Prop} {m2 : hx_M} {e0 : Int32} (hB : MB a.1.1 a.1.2.1 m0 (hs_ask (16 * (a.1.2.1 + 1) + p) p b) p (p + 1) m2) (w : WF 300 a) (hs : a.1.2.1 < 300) (h73 : m0.1 49 3 = a.2.1 12 0) (h74 : m0.1 49 4 = a.2.1 12 1) (h75 : m0.1 49 5 = a.2.1 12 2) (hp : p < a.1.1) (hok : ∀ r ∈ l, hl_okR r) (he : e0 = Int32.ofNat (hs_w a l p b).2)
    (k : ∀ m', MB a.1.1 a.1.2.1 m0 (hs_go a l p b) (p + 1) (p + 1) m' → K m') : ((hs_w a l p b).1 ≠ a.2.1 6 (16 * a.1.2.1 + p) → ((e0 ≠ 0 → (wX12_goes_J179 K (Int32.ofNat p) (Int32.ofNat (16 * (a.1.2.1 + 1) + p)) (a.2.1 6 (16 * a.1.2.1 + p)) (hs_w a l p b).1 (Int32.ofNat p) 1 (hx_sI (hx_sI m2 57 (16 * (a.1.2.1 + 1) + p) (a.2.1 6 (16 * a.1.2.1 + p))) 53 p (m2.1 53 p + 1)))) ∧ (e0 = 0 → (wX12_goes_J179 K (Int32.ofNat p) (Int32.ofNat (16 * (a.1.2.1 + 1) + p)) (a.2.1 6 (16 * a.1.2.1 + p)) (hs_w a l p b).1 (Int32.ofNat p) 0 (hx_sI (hx_sI m2 57 (16 * (a.1.2.1 + 1) + p) (a.2.1 6 (16 * a.1.2.1 + p))) 53 p (m2.1 53 p + 1)))))) ∧ ((hs_w a l p b).1 = a.2.1 6 (16 * a.1.2.1 + p) → (wX12_counts (hx_sI (hx_sI m2 57 (16 * (a.1.2.1 + 1) + p) (a.2.1 6 (16 * a.1.2.1 + p))) 53 p (m2.1 53 p + 1)) (Int32.ofNat p) 2 (fun m => K m))) := by
  have hn := w.n
  have vp : vp_in (Int32.ofNat p) 16 := n32_in (by omega) (by omega)
  have vk : vp_in (Int32.ofNat (16 * (a.1.2.1 + 1) + p)) 4816 := n32_in (by omega) (by omega)
  have e13 : m2.1 53 p = b.1 4 p := by rw [hB.2.2.2.1 p hp]; simp [hs_ask, hm_sI, hm_sL1]
  have dos : hs_go a l p b = hs_go a l p b := rfl
  conv at dos => rhs; unfold hs_go hs_do
  rw [e13]
  have hW := (hB.len (p := p) (v := a.2.1 6 (16 * a.1.2.1 + p)) (Or.inl rfl)).worn (p := p) (v := b.1 4 p + 1)
  revert hW
  generalize (hx_sI (hx_sI m2 57 (16 * (a.1.2.1 + 1) + p) (a.2.1 6 (16 * a.1.2.1 + p))) 53 p (b.1 4 p + 1)) = m3
  intro hW
  by_cases c1 : (hs_w a l p b).1 = a.2.1 6 (16 * a.1.2.1 + p)
  · rw [if_pos c1] at dos
    refine selE c1 (cntM (i := 2) (by omega) (by omega) (k _ ?_))
    rw [dos]
    have hT := hW.tal (i := 2) hp (by omega)
    rw [tal_comm (by omega), tal_comm (by omega), sI_comm (by omega)] at hT
    exact hT
  · rw [if_neg c1] at dos
    refine selN c1 ?_
    have J : ∀ (i : Nat), i < 2 → i = (if (hs_w a l p b).2 = 0 then 0 else 1) → wX12_goes_J179 K (Int32.ofNat p) (Int32.ofNat (16 * (a.1.2.1 + 1) + p)) (a.2.1 6 (16 * a.1.2.1 + p)) (hs_w a l p b).1 (Int32.ofNat p) (Int32.ofNat i) m3 := by
      intro i hi ei
      unfold wX12_goes_J179
      refine cntM (by omega) (by omega) ?_
      rintro x rfl
      have hT := hW.tal (i := i) hp (by omega)
      have f74 : (hx_sI m3 56 (6 * p + i) (m3.1 56 (6 * p + i) + 1)).1 49 4 = a.2.1 12 1 := by rw [hT.1.2.1 4 (by omega), h74]
      rw [f74]
      revert hT
      generalize (hx_sI m3 56 (6 * p + i) (m3.1 56 (6 * p + i) + 1)) = m4
      intro hT
      have f73 : m4.1 49 3 = a.2.1 12 0 := by rw [hT.1.2.1 3 (by omega), h73]
      have f75 : m4.1 49 5 = a.2.1 12 2 := by rw [hT.1.2.1 5 (by omega), h75]
      rw [tal_comm (by omega), tal_comm (by omega)] at hT
      have e52 : m4.1 52 p = hg_coin (b.1 3 p) (b.1 1 p) := by rw [hT.2.2.1 p hp]; simp [htal, hs_ask, hm_sI]
      have pay : ∀ (x : Int32) (y : Bool), (x = 0 ↔ y = false) → (y = true ↔ hs_seam a l p b) → wX12_goes_J220 K (Int32.ofNat p) (Int32.ofNat (16 * (a.1.2.1 + 1) + p)) (hs_w a l p b).1 x (hs_cost a l p b) m4 := by
        intro x y hx hy
        unfold wX12_goes_J220
        have e45 : (if y then 4 else 5) = (if hs_seam a l p b then 4 else 5) := by
          by_cases c2 : hs_seam a l p b
          · rw [if_pos (hy.mpr c2), if_pos c2]
          · rw [if_neg (fun z => c2 (hy.mp z)), if_neg c2]
        rw [n32_nat (by omega), e52]
        refine ⟨vp, fun hle => ⟨vp, vp, ?_⟩, fun hle => ?_⟩
        · rw [if_neg (not_not_intro hle), ← ei, ← e45] at dos
          have go : ∀ j, j < 6 → j = (if y then 4 else 5) → wX12_goes_J263 K (Int32.ofNat p) (Int32.ofNat (16 * (a.1.2.1 + 1) + p)) (hs_w a l p b).1 (Int32.ofNat p) (Int32.ofNat j) (hx_sI m4 52 p (hg_coin (b.1 3 p) (b.1 1 p) - hs_cost a l p b)) := by
            intro j hj ej
            unfold wX12_goes_J263
            refine cntM (by omega) hj ⟨vk, vp, ?_⟩
            rw [n32_nat (by omega), n32_nat (by omega)]
            have hE := ((((hT.coin (p := p) (v := hg_coin (b.1 3 p) (b.1 1 p) - hs_cost a l p b)).tal (i := j) hp hj).len (p := p) (v := (hs_w a l p b).1) (Or.inr rfl)).worn (p := p) (v := 0))
            refine k _ ?_
            rw [dos, ← ej]
            rw [sI_comm (c := 4) (c' := 3) (by omega), sI_comm (c := 6) (c' := 3) (by omega), tal_comm (by omega), tal_comm (by omega), sI_comm (c := 6) (c' := 4) (by omega), sI_over, sI_comm (c := 6) (c' := 4) (by omega), sI_over] at hE
            exact hE
          refine ⟨fun z => ?_, fun z => ?_⟩
          · exact go 5 (by omega) (by rw [hx.mp z]; rfl)
          · have : y = true := by
              cases y
              · exact absurd (hx.mpr rfl) z
              · rfl
            exact go 4 (by omega) (by rw [this]; rfl)
        · rw [if_pos hle, ← ei] at dos
          refine cntM (i := 3) (by omega) (by omega) (k _ ?_)
          rw [dos]
          have hE := hT.tal (i := 3) hp (by omega)
          rw [tal_comm (by omega), tal_comm (by omega), sI_comm (c := 6) (c' := 4) (by omega)] at hE
          exact hE
      have c0 : ∀ x : Int32, (x = 0 → hs_cost a l p b = a.2.1 12 0) → (¬ x = 0 → hs_cost a l p b = a.2.1 12 2) → wX12_goes_J220 K (Int32.ofNat p) (Int32.ofNat (16 * (a.1.2.1 + 1) + p)) (hs_w a l p b).1 x (hs_cost a l p b) m4 → wX12_goes_J202 K (Int32.ofNat p) (Int32.ofNat (16 * (a.1.2.1 + 1) + p)) (hs_w a l p b).1 x m4 := by
        intro x h1 h2 h3
        unfold wX12_goes_J202
        rw [f73, f75]
        exact ⟨fun z => by rw [← h1 z]; exact h3, fun z => by rw [← h2 z]; exact h3⟩
      refine ⟨fun z => ?_, fun z => ?_⟩
      · have ns : ¬ hs_seam a l p b := fun z2 => z2 z
        exact c0 0 (fun _ => by unfold hs_cost; rw [if_neg ns]) (fun z => absurd rfl z) (pay 0 false ⟨fun _ => rfl, fun _ => rfl⟩ ⟨fun z2 => by simp at z2, fun z2 => absurd z2 ns⟩)
      · have ns : hs_seam a l p b := z
        exact c0 1 (fun z => absurd z (by decide)) (fun _ => by unfold hs_cost; rw [if_pos ns]) (pay 1 true ⟨fun z => absurd z (by decide), fun z2 => by simp at z2⟩ ⟨fun _ => ns, fun _ => rfl⟩)
    rw [he]
    by_cases c3 : (hs_w a l p b).2 = 0
    · rw [c3]
      exact selE rfl (J 0 (by omega) (by rw [if_pos c3]))
    · refine selN (fun z => c3 ?_) (J 1 (by omega) (by rw [if_neg c3]))
      have := wish_verb (a := a) (l := l) (p := p) (t := a.1.2.1) (coin := hg_coin (b.1 3 p) (b.1 1 p)) (worn := b.1 4 p) (chance := hg_ch (b.2 0 0)) hok
      exact (n32_eq (b := 0) (Nat.lt_of_le_of_lt this (by omega)) (by omega)).mp z
end ER
