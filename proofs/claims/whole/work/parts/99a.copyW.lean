/-! layer 2: worlds copied -/
/-- the shape of a past at a cell -/
def PaS (Λ : hx_L) (x r : Nat) : Prop := Λ.1 x = (0, 3) ∧ (∀ i, 1 ≤ i → i ≤ 5 → Λ.2.1 x i = some (x + i)) ∧ Λ.1 (x + 1) = (1, 16 * r) ∧ Λ.1 (x + 2) = (1, r) ∧ Λ.1 (x + 3) = (1, 16 * r) ∧ Λ.1 (x + 4) = (1, 4 * r) ∧ Λ.1 (x + 5) = (1, r)
theorem IS.s {Λ : hx_L} {d r : Nat} (h : IS Λ d r) {k t n : Nat} (hk : (k, t, n) ∈ [(7, 0, 10), (8, 0, 4), (9, 1, 16), (10, 1, 16), (11, 1, 16), (12, 1, 16), (13, 1, 16), (14, 1, 96), (15, 0, 3), (16, 1, 16 * r), (17, 1, r), (18, 1, 16 * r), (19, 1, 4 * r), (20, 1, r), (25, 1, 20), (26, 1, 20), (27, 1, 20)]) : Λ.1 (k + d) = (t, n) := h.1 (k, t, n) hk
theorem IS.r {Λ : hx_L} {d r : Nat} (h : IS Λ d r) {k t n : Nat} (hk : (k, t, n) ∈ [(7, 0, 8), (7, 1, 15), (7, 9, 25), (7, 10, 26), (7, 11, 27), (8, 1, 9), (8, 2, 10), (8, 3, 11), (8, 4, 12), (8, 5, 13), (8, 6, 14), (15, 1, 16), (15, 2, 17), (15, 3, 18), (15, 4, 19), (15, 5, 20)]) : Λ.2.1 (k + d) t = some (n + d) := h.2 (k, t, n) hk
theorem IS.p {Λ : hx_L} {d r : Nat} (h : IS Λ d r) : PSh Λ (8 + d) := by
  refine ⟨h.s (by simp), fun i h1 h6 => ?_, fun i h1 h5 => ?_, ?_⟩
  · have : i = 1 ∨ i = 2 ∨ i = 3 ∨ i = 4 ∨ i = 5 ∨ i = 6 := by omega
    rcases this with rfl | rfl | rfl | rfl | rfl | rfl
    · rw [h.r (k := 8) (t := 1) (n := 9) (by simp)]; congr 1; omega
    · rw [h.r (k := 8) (t := 2) (n := 10) (by simp)]; congr 1; omega
    · rw [h.r (k := 8) (t := 3) (n := 11) (by simp)]; congr 1; omega
    · rw [h.r (k := 8) (t := 4) (n := 12) (by simp)]; congr 1; omega
    · rw [h.r (k := 8) (t := 5) (n := 13) (by simp)]; congr 1; omega
    · rw [h.r (k := 8) (t := 6) (n := 14) (by simp)]; congr 1; omega
  · have : i = 1 ∨ i = 2 ∨ i = 3 ∨ i = 4 ∨ i = 5 := by omega
    rcases this with rfl | rfl | rfl | rfl | rfl
    · rw [show 8 + d + 1 = 9 + d by omega]; exact h.s (by simp)
    · rw [show 8 + d + 2 = 10 + d by omega]; exact h.s (by simp)
    · rw [show 8 + d + 3 = 11 + d by omega]; exact h.s (by simp)
    · rw [show 8 + d + 4 = 12 + d by omega]; exact h.s (by simp)
    · rw [show 8 + d + 5 = 13 + d by omega]; exact h.s (by simp)
  · rw [show 8 + d + 6 = 14 + d by omega]; exact h.s (by simp)
theorem IS.a {Λ : hx_L} {d r : Nat} (h : IS Λ d r) : PaS Λ (15 + d) r := by
  refine ⟨h.s (by simp), fun i h1 h6 => ?_, ?_, ?_, ?_, ?_, ?_⟩
  · have : i = 1 ∨ i = 2 ∨ i = 3 ∨ i = 4 ∨ i = 5 := by omega
    rcases this with rfl | rfl | rfl | rfl | rfl
    · rw [h.r (k := 15) (t := 1) (n := 16) (by simp)]; congr 1; omega
    · rw [h.r (k := 15) (t := 2) (n := 17) (by simp)]; congr 1; omega
    · rw [h.r (k := 15) (t := 3) (n := 18) (by simp)]; congr 1; omega
    · rw [h.r (k := 15) (t := 4) (n := 19) (by simp)]; congr 1; omega
    · rw [h.r (k := 15) (t := 5) (n := 20) (by simp)]; congr 1; omega
  · rw [show 15 + d + 1 = 16 + d by omega]; exact h.s (by simp)
  · rw [show 15 + d + 2 = 17 + d by omega]; exact h.s (by simp)
  · rw [show 15 + d + 3 = 18 + d by omega]; exact h.s (by simp)
  · rw [show 15 + d + 4 = 19 + d by omega]; exact h.s (by simp)
  · rw [show 15 + d + 5 = 20 + d by omega]; exact h.s (by simp)
theorem IS0 {Λ : hx_L} (F : cF Λ) : IS Λ 0 301 := by
  refine ⟨fun q hq => ?_, fun q hq => ?_⟩
  · simp only [List.mem_cons, List.not_mem_nil, or_false] at hq
    rcases hq with rfl | rfl | rfl | rfl | rfl | rfl | rfl | rfl | rfl | rfl | rfl | rfl | rfl | rfl | rfl | rfl | rfl
    · exact cF_S7 F
    · exact cF_S8 F
    · exact cF_S9 F
    · exact cF_S10 F
    · exact cF_S11 F
    · exact cF_S12 F
    · exact cF_S13 F
    · exact cF_S14 F
    · exact cF_S15 F
    · exact cF_S16 F
    · exact cF_S17 F
    · exact cF_S18 F
    · exact cF_S19 F
    · exact cF_S20 F
    · exact cF_S25 F
    · exact cF_S26 F
    · exact cF_S27 F
  · simp only [List.mem_cons, List.not_mem_nil, or_false] at hq
    rcases hq with rfl | rfl | rfl | rfl | rfl | rfl | rfl | rfl | rfl | rfl | rfl | rfl | rfl | rfl | rfl | rfl
    · exact cF_R7_0 F
    · exact cF_R7_1 F
    · exact cF_R7_9 F
    · exact cF_R7_10 F
    · exact cF_R7_11 F
    · exact cF_R8_1 F
    · exact cF_R8_2 F
    · exact cF_R8_3 F
    · exact cF_R8_4 F
    · exact cF_R8_5 F
    · exact cF_R8_6 F
    · exact cF_R15_1 F
    · exact cF_R15_2 F
    · exact cF_R15_3 F
    · exact cF_R15_4 F
    · exact cF_R15_5 F
theorem copyPast {Λ : hx_L} {μ : hx_M} {x y rx ry n : Nat} {K : hx_M → Prop} (hx : PaS Λ x rx) (hy : PaS Λ y ry) (hxy : x + 5 < y ∨ y + 5 < x) (ex : μ.1 x 0 = Int32.ofNat rx) (ey : μ.1 y 0 = Int32.ofNat ry) (hnx : n ≤ rx) (hny : n ≤ ry) (hrx : rx ≤ 301) (hry : ry ≤ 301)
    (k : ∀ m, (∀ k, k ≤ x ∨ x + 5 < k → m.1 k = μ.1 k) → m.2 = μ.2 → (∀ q, q < 16 * n → m.1 (x + 1) q = μ.1 (y + 1) q) → (∀ q, q < n → m.1 (x + 2) q = μ.1 (y + 2) q) → (∀ q, q < 16 * n → m.1 (x + 3) q = μ.1 (y + 3) q) → (∀ q, q < 4 * n → m.1 (x + 4) q = μ.1 (y + 4) q) → (∀ q, q < n → m.1 (x + 5) q = μ.1 (y + 5) q) → K m) : wX3_copyOf Λ μ x (some y) (Int32.ofNat n) K := by
  obtain ⟨x0, x1, x2, x3, x4, x5, x6⟩ := hx
  obtain ⟨y0, y1, y2, y3, y4, y5, y6⟩ := hy
  have z0 : (0 : Int32).toNatClampNeg = 0 := rfl
  unfold wX3_copyOf
  refine ⟨x0, y, rfl, y0, ?_⟩
  rw [ex, ey]
  intro x_4 e4
  have en : (if x_4 < Int32.ofNat n then x_4 else Int32.ofNat n) = Int32.ofNat n := by
    have : x_4 = Int32.ofNat rx ∨ x_4 = Int32.ofNat ry := by
      rw [e4]
      by_cases c : Int32.ofNat ry < Int32.ofNat rx
      · rw [if_pos c]; exact Or.inr rfl
      · rw [if_neg c]; exact Or.inl rfl
    rcases this with h | h
    · rw [h, if_neg]
      intro z
      have := (n32_lt (by omega) (by omega)).mp z
      omega
    · rw [h, if_neg]
      intro z
      have := (n32_lt (by omega) (by omega)).mp z
      omega
  have e16 : Int32.ofNat n * 16 = Int32.ofNat (16 * n) := by rw [Nat.mul_comm 16 n, ← n32_mul]; rfl
  have e4n : Int32.ofNat n * 4 = Int32.ofNat (4 * n) := by rw [Nat.mul_comm 4 n, ← n32_mul]; rfl
  rw [en, e16, e4n, z0, n32_nat (by omega), n32_nat (by omega), n32_nat (by omega)]
  refine ⟨y + 1, y1 1 (by omega) (by omega), x + 1, x1 1 (by omega) (by omega), 16 * ry, y2, 16 * rx, x2, by decide, by decide, n32_nn (by omega), by omega, by omega, ?_⟩
  intro m1 e1
  refine ⟨y + 2, y1 2 (by omega) (by omega), x + 2, x1 2 (by omega) (by omega), ry, y3, rx, x3, by decide, by decide, n32_nn (by omega), by omega, by omega, ?_⟩
  intro m2 e2
  refine ⟨y + 3, y1 3 (by omega) (by omega), x + 3, x1 3 (by omega) (by omega), 16 * ry, y4, 16 * rx, x4, by decide, by decide, n32_nn (by omega), by omega, by omega, ?_⟩
  intro m3 e3
  refine ⟨y + 4, y1 4 (by omega) (by omega), x + 4, x1 4 (by omega) (by omega), 4 * ry, y5, 4 * rx, x5, by decide, by decide, n32_nn (by omega), by omega, by omega, ?_⟩
  intro m4 e5
  refine ⟨y + 5, y1 5 (by omega) (by omega), x + 5, x1 5 (by omega) (by omega), ry, y6, rx, x6, by decide, by decide, n32_nn (by omega), by omega, by omega, ?_⟩
  intro m5 e6
  have c1 : ∀ k, k ≠ x + 1 → m1.1 k = μ.1 k := fun k hk => by rw [e1, sAk hk]
  have c2 : ∀ k, k ≠ x + 2 → m2.1 k = m1.1 k := fun k hk => by rw [e2, sAk hk]
  have c3 : ∀ k, k ≠ x + 3 → m3.1 k = m2.1 k := fun k hk => by rw [e3, sAk hk]
  have c4 : ∀ k, k ≠ x + 4 → m4.1 k = m3.1 k := fun k hk => by rw [e5, sAk hk]
  have c5 : ∀ k, k ≠ x + 5 → m5.1 k = m4.1 k := fun k hk => by rw [e6, sAk hk]
  refine k m5 (fun i hi => ?_) ?_ (fun q hq => ?_) (fun q hq => ?_) (fun q hq => ?_) (fun q hq => ?_) (fun q hq => ?_)
  · rw [c5 i (by omega), c4 i (by omega), c3 i (by omega), c2 i (by omega), c1 i (by omega)]
  · rw [e6, e5, e3, e2, e1]; rfl
  · rw [c5 _ (by omega), c4 _ (by omega), c3 _ (by omega), c2 _ (by omega), e1, sAe, pk_cpy_in (by omega) (by omega), show 0 + (q - 0) = q by omega]
  · rw [c5 _ (by omega), c4 _ (by omega), c3 _ (by omega), e2, sAe, pk_cpy_in (by omega) (by omega), c1 _ (by omega), show 0 + (q - 0) = q by omega]
  · rw [c5 _ (by omega), c4 _ (by omega), e3, sAe, pk_cpy_in (by omega) (by omega), c2 _ (by omega), c1 _ (by omega), show 0 + (q - 0) = q by omega]
  · rw [c5 _ (by omega), e5, sAe, pk_cpy_in (by omega) (by omega), c3 _ (by omega), c2 _ (by omega), c1 _ (by omega), show 0 + (q - 0) = q by omega]
  · rw [e6, sAe, pk_cpy_in (by omega) (by omega), c4 _ (by omega), c3 _ (by omega), c2 _ (by omega), c1 _ (by omega), show 0 + (q - 0) = q by omega]
theorem copyW {Λ : hx_L} {μ : hx_M} {dx dy rx ry : Nat} {a : hw_T} {K : hx_M → Prop} (hx : IS Λ dx rx) (hy : IS Λ dy ry) (hxy : dx + 21 ≤ dy ∨ dy + 21 ≤ dx) (ex : μ.1 (15 + dx) 0 = Int32.ofNat rx) (ey : μ.1 (15 + dy) 0 = Int32.ofNat ry) (hc : CW dy a μ) (w : WF 200 a) (hsx : a.1.2.1 + 1 ≤ rx) (hsy : a.1.2.1 + 1 ≤ ry) (hrx : rx ≤ 301) (hry : ry ≤ 301)
    (k : ∀ m, (∀ k, (k < 7 + dx ∨ k = 15 + dx ∨ 27 + dx < k) → m.1 k = μ.1 k ∧ m.2 k = μ.2 k) → m.1 (15 + dx) 0 = Int32.ofNat rx → CW dx a m → K m) : wX10_copyOf Λ μ (7 + dx) (some (7 + dy)) K := by
  have hn := w.n
  have hs := w.s
  have hft := w.ft
  obtain ⟨⟨a1, a2, a3⟩, ⟨b1, b2, b3, b4⟩, h3, h4, h5, h6, h7, h8, h9, h10⟩ := hc
  have z0 : (0 : Int32).toNatClampNeg = 0 := rfl
  unfold wX10_copyOf
  refine ⟨hx.s (by simp), 8 + dx, hx.r (by simp), 7 + dy, rfl, hy.s (by simp), 8 + dy, hy.r (by simp), hx.s (by simp), copyOfP hx.p hy.p (by omega) a1 hn (fun m1 p1 p2 p3 p4 p5 => ?_)⟩
  refine ⟨15 + dx, hx.r (by simp), 15 + dy, hy.r (by simp), hx.s (by simp), ?_⟩
  rw [p1 (7 + dy) (by omega), a2, n32_add1]
  refine copyPast hx.a hy.a (by omega) (by rw [p1 _ (by omega)]; exact ex) (by rw [p1 _ (by omega)]; exact ey) hsx hsy hrx hry (fun m2 q1 q2 q3 q4 q5 q6 q7 => ?_)
  intro m3 e3
  intro m4 e4
  have s7y : ∀ j, m2.1 (7 + dy) j = μ.1 (7 + dy) j := fun j => by rw [q1 _ (by omega), p1 _ (by omega)]
  have l7y : m2.2 = μ.2 := q2.trans p2
  have f3 : ∀ k, k ≠ 7 + dx → m3.1 k = m2.1 k := fun k hk => by rw [e3, sIk hk, sIk hk, sIk hk]
  have g3 : m3.2 = μ.2 := by rw [e3]; exact l7y
  have v3 : m3.1 (7 + dx) 3 = a.2.1 12 0 ∧ m3.1 (7 + dx) 4 = a.2.1 12 1 ∧ m3.1 (7 + dx) 5 = a.2.1 12 2 := by
    rw [e3]
    refine ⟨?_, ?_, ?_⟩
    · rw [sIj (by omega), sIj (by omega), sIe, s7y]; exact b1
    · rw [sIj (by omega), sIe, sIk (by omega), s7y]; exact b2
    · rw [sIe, sIk (by omega), sIk (by omega), s7y]; exact b3
  have f4 : ∀ k, k ≠ 7 + dx → m4.1 k = m2.1 k := fun k hk => by rw [e4, sIk hk, sIk hk, hm_sL1]; exact f3 k hk
  have v4 : (∀ j, j ≠ 7 → j ≠ 8 → m4.1 (7 + dx) j = m3.1 (7 + dx) j) ∧ m4.1 (7 + dx) 7 = Int32.ofNat a.1.2.1 ∧ m4.1 (7 + dx) 8 = Int32.ofNat a.1.2.2 := by
    rw [e4]
    refine ⟨fun j h7 h8 => by rw [sIj h8, sIj h7, hm_sL1], ?_, ?_⟩
    · rw [sIj (by omega), sIe, f3 _ (by omega), s7y]; exact a2
    · rw [sIe, sIk (by omega), hm_sL1, f3 _ (by omega), s7y]; exact a3
  have g4 : ∀ k j, m4.2 k j = if k = 7 + dx ∧ j = 6 then a.2.2 0 0 else μ.2 k j := fun k j => by
    rw [e4, sIk2, sIk2, hm_sLv, g3, b4]
  refine ⟨25 + dy, hy.r (by simp), 25 + dx, hx.r (by simp), 20, hy.s (by simp), 20, hx.s (by simp), by decide, by decide, ?_⟩
  rw [v4.2.2, z0, n32_nat (by omega)]
  refine ⟨n32_nn (by omega), by omega, by omega, ?_⟩
  intro m5 e5
  have t5 : m5.1 (7 + dx) 8 = Int32.ofNat a.1.2.2 := by rw [e5, sAk (by omega)]; exact v4.2.2
  rw [t5, n32_nat (by omega)]
  refine ⟨26 + dy, hy.r (by simp), 26 + dx, hx.r (by simp), 20, hy.s (by simp), 20, hx.s (by simp), by decide, by decide, n32_nn (by omega), by omega, by omega, ?_⟩
  intro m6 e6
  have t6 : m6.1 (7 + dx) 8 = Int32.ofNat a.1.2.2 := by rw [e6, sAk (by omega)]; exact t5
  rw [t6, n32_nat (by omega)]
  refine ⟨27 + dy, hy.r (by simp), 27 + dx, hx.r (by simp), 20, hy.s (by simp), 20, hx.s (by simp), by decide, by decide, n32_nn (by omega), by omega, by omega, ?_⟩
  intro m7 e7
  have c5 : ∀ k, k ≠ 25 + dx → m5.1 k = m4.1 k := fun k hk => by rw [e5, sAk hk]
  have c6 : ∀ k, k ≠ 26 + dx → m6.1 k = m5.1 k := fun k hk => by rw [e6, sAk hk]
  have c7 : ∀ k, k ≠ 27 + dx → m7.1 k = m6.1 k := fun k hk => by rw [e7, sAk hk]
  have l7 : m7.2 = m4.2 := by rw [e7, e6, e5]; rfl
  have to4 : ∀ k, k < 25 + dx ∨ 27 + dx < k → m7.1 k = m4.1 k := fun k hk => by rw [c7 k (by omega), c6 k (by omega), c5 k (by omega)]
  have to2 : ∀ k, k < 25 + dx ∨ 27 + dx < k → k ≠ 7 + dx → m7.1 k = m2.1 k := fun k hk h7 => by rw [to4 k hk, f4 k h7]
  have src : ∀ k, (25 + dy ≤ k ∧ k ≤ 27 + dy) → m4.1 k = μ.1 k := fun k hk => by rw [f4 k (by omega), q1 k (by omega), p1 k (by omega)]
  refine k m7 (fun i hi => ⟨?_, ?_⟩) ?_ ?_
  · rw [to2 i (by omega) (by omega), q1 i (by omega), p1 i (by omega)]
  · rw [l7]; funext j; rw [g4, if_neg (by omega)]
  · rw [to2 _ (by omega) (by omega), q1 _ (by omega), p1 _ (by omega)]; exact ex
  · have ar : ∀ i, 1 ≤ i → i ≤ 5 → ∀ q, q < a.1.1 → m7.1 (8 + i + dx) q = μ.1 (8 + i + dy) q := fun i i1 i5 q hq => by
      rw [to2 _ (by omega) (by omega), q1 _ (by omega), show 8 + i + dx = 8 + dx + i by omega, p4 i i1 i5 q hq, show 8 + dy + i = 8 + i + dy by omega]
    refine ⟨⟨?_, ?_, ?_⟩, ⟨?_, ?_, ?_, ?_⟩, fun p hp => ?_, fun k hk => ?_, fun t p ht hp => ?_, fun t ht => ?_, fun t p t1 ht hp => ?_, fun t h ht hh => ?_, fun t ht => ?_, fun k hk => ?_⟩
    · rw [to2 _ (by omega) (by omega), q1 _ (by omega)]; exact p3
    · rw [to4 _ (by omega)]; exact v4.2.1
    · rw [to4 _ (by omega)]; exact v4.2.2
    · rw [to4 _ (by omega), v4.1 3 (by omega) (by omega)]; exact v3.1
    · rw [to4 _ (by omega), v4.1 4 (by omega) (by omega)]; exact v3.2.1
    · rw [to4 _ (by omega), v4.1 5 (by omega) (by omega)]; exact v3.2.2
    · rw [l7, g4, if_pos ⟨rfl, rfl⟩]
    · have := h3 p hp
      exact ⟨(ar 1 (by omega) (by omega) p hp).trans this.1, (ar 2 (by omega) (by omega) p hp).trans this.2.1, (ar 3 (by omega) (by omega) p hp).trans this.2.2.1, (ar 4 (by omega) (by omega) p hp).trans this.2.2.2.1, (ar 5 (by omega) (by omega) p hp).trans this.2.2.2.2⟩
    · rw [to2 _ (by omega) (by omega), q1 _ (by omega), show 14 + dx = 8 + dx + 6 by omega, p5 k hk, show 8 + dy + 6 = 14 + dy by omega]; exact h4 k hk
    · rw [to2 _ (by omega) (by omega), show 16 + dx = 15 + dx + 1 by omega, q3 _ (by omega), p1 _ (by omega), show 15 + dy + 1 = 16 + dy by omega]; exact h5 t p ht hp
    · rw [to2 _ (by omega) (by omega), show 17 + dx = 15 + dx + 2 by omega, q4 _ (by omega), p1 _ (by omega), show 15 + dy + 2 = 17 + dy by omega]; exact h6 t ht
    · rw [to2 _ (by omega) (by omega), show 18 + dx = 15 + dx + 3 by omega, q5 _ (by omega), p1 _ (by omega), show 15 + dy + 3 = 18 + dy by omega]; exact h7 t p t1 ht hp
    · rw [to2 _ (by omega) (by omega), show 19 + dx = 15 + dx + 4 by omega, q6 _ (by omega), p1 _ (by omega), show 15 + dy + 4 = 19 + dy by omega]; exact h8 t h ht hh
    · rw [to2 _ (by omega) (by omega), show 20 + dx = 15 + dx + 5 by omega, q7 _ (by omega), p1 _ (by omega), show 15 + dy + 5 = 20 + dy by omega]; exact h9 t ht
    · have := h10 k hk
      rw [c7 _ (by omega), c6 _ (by omega), e5, sAe, pk_cpy_in (by omega) (by omega), src _ (by omega)]
      rw [c7 (26 + dx) (by omega), e6, sAe, pk_cpy_in (by omega) (by omega), c5 _ (by omega), src _ (by omega)]
      rw [e7, sAe, pk_cpy_in (by omega) (by omega), c6 _ (by omega), c5 _ (by omega), src _ (by omega), show 0 + (k - 0) = k by omega]
      exact this
