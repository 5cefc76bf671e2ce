/-! layer 2: a world made -/
/-- made so far behind n0: how many cells, their shapes, their references -/
def NB (n0 : Nat) (Λ0 : hx_L) (μ : hx_M) (k : Nat) (sh rf : List (Nat × Nat × Nat)) (Λ : hx_L) (m : hx_M) : Prop :=
  Λ.2.2 = n0 + k ∧ (∀ c, c < n0 → Λ.1 c = Λ0.1 c ∧ ∀ j, Λ.2.1 c j = Λ0.2.1 c j) ∧ (∀ c, c < n0 → m.1 c = μ.1 c ∧ m.2 c = μ.2 c) ∧ (∀ q ∈ sh, q.1 < k ∧ Λ.1 (n0 + q.1) = q.2) ∧ (∀ q ∈ rf, q.1 < k ∧ Λ.2.1 (n0 + q.1) q.2.1 = some (n0 + q.2.2))
section NBS
variable {n0 k : Nat} {Λ0 Λ : hx_L} {μ m : hx_M} {sh rf : List (Nat × Nat × Nat)}
theorem NB.n (h : NB n0 Λ0 μ k sh rf Λ m) : Λ.2.2 = n0 + k := h.1
theorem NB.s (h : NB n0 Λ0 μ k sh rf Λ m) {c t n : Nat} (hq : (c, t, n) ∈ sh) : Λ.1 (n0 + c) = (t, n) := (h.2.2.2.1 (c, t, n) hq).2
theorem NB.r (h : NB n0 Λ0 μ k sh rf Λ m) {c j q : Nat} (hq : (c, j, q) ∈ rf) : Λ.2.1 (n0 + c) j = some (n0 + q) := (h.2.2.2.2 (c, j, q) hq).2
theorem NB.push (h : NB n0 Λ0 μ k sh rf Λ m) (s : Nat × Nat) : NB n0 Λ0 μ (k + 1) ((k, s) :: sh) rf (hx_push Λ s) (hx_z m (n0 + k)) := by
  obtain ⟨h1, h2, h3, h4, h5⟩ := h
  refine ⟨?_, fun c hc => ⟨?_, fun j => ?_⟩, fun c hc => ⟨?_, ?_⟩, fun q hq => ?_, fun q hq => ?_⟩
  · show Λ.2.2 + 1 = _
    rw [h1]; omega
  · show (if c = Λ.2.2 then s else Λ.1 c) = _
    rw [if_neg (by omega)]; exact (h2 c hc).1
  · show (if c = Λ.2.2 then none else Λ.2.1 c j) = _
    rw [if_neg (by omega)]; exact (h2 c hc).2 j
  · show (if c = n0 + k then _ else m.1 c) = _
    rw [if_neg (by omega)]; exact (h3 c hc).1
  · show (if c = n0 + k then _ else m.2 c) = _
    rw [if_neg (by omega)]; exact (h3 c hc).2
  · rcases List.mem_cons.mp hq with rfl | hq
    · refine ⟨by show k < k + 1; omega, ?_⟩
      show (if n0 + k = Λ.2.2 then s else _) = s
      rw [if_pos h1.symm]
    · have := h4 q hq
      refine ⟨by omega, ?_⟩
      show (if n0 + q.1 = Λ.2.2 then s else Λ.1 (n0 + q.1)) = _
      rw [if_neg (by omega)]; exact this.2
  · have := h5 q hq
    refine ⟨by omega, ?_⟩
    show (if n0 + q.1 = Λ.2.2 then none else Λ.2.1 (n0 + q.1) q.2.1) = _
    rw [if_neg (by omega)]; exact this.2
theorem NB.ref (h : NB n0 Λ0 μ k sh rf Λ m) {c j q : Nat} (hc : c < k) (hf : ∀ x ∈ rf, ¬ (x.1 = c ∧ x.2.1 = j)) : NB n0 Λ0 μ k sh ((c, j, q) :: rf) (hx_sR Λ (n0 + c) j (n0 + q)) m := by
  obtain ⟨h1, h2, h3, h4, h5⟩ := h
  refine ⟨h1, fun c' hc' => ⟨(h2 c' hc').1, fun i => ?_⟩, h3, h4, fun x hx => ?_⟩
  · show (if c' = n0 + c then _ else Λ.2.1 c' i) = _
    rw [if_neg (by omega)]; exact (h2 c' hc').2 i
  · rcases List.mem_cons.mp hx with rfl | hx
    · refine ⟨hc, ?_⟩
      show (if n0 + c = n0 + c then (if j = j then some (n0 + q) else _) else _) = _
      rw [if_pos rfl, if_pos rfl]
    · have := h5 x hx
      refine ⟨this.1, ?_⟩
      have hne := hf x hx
      show (if n0 + x.1 = n0 + c then (if x.2.1 = j then some (n0 + q) else Λ.2.1 (n0 + x.1) x.2.1) else Λ.2.1 (n0 + x.1) x.2.1) = _
      by_cases e : n0 + x.1 = n0 + c
      · rw [if_pos e, if_neg (fun z => hne ⟨by omega, z⟩)]; exact this.2
      · rw [if_neg e]; exact this.2
theorem NB.mem (h : NB n0 Λ0 μ k sh rf Λ m) {m' : hx_M} (hm : ∀ c, c < n0 → m'.1 c = m.1 c ∧ m'.2 c = m.2 c) : NB n0 Λ0 μ k sh rf Λ m' := ⟨h.1, h.2.1, fun c hc => ⟨(hm c hc).1.trans (h.2.2.1 c hc).1, (hm c hc).2.trans (h.2.2.1 c hc).2⟩, h.2.2.2⟩
theorem NB.sI (h : NB n0 Λ0 μ k sh rf Λ m) {c j : Nat} {v : Int32} : NB n0 Λ0 μ k sh rf Λ (hx_sI m (n0 + c) j v) := h.mem fun i hi => ⟨sIk (by omega), rfl⟩
theorem NB.sL (h : NB n0 Λ0 μ k sh rf Λ m) {c j : Nat} {v : Int64} : NB n0 Λ0 μ k sh rf Λ (hx_sL m (n0 + c) j v) := h.mem fun i hi => ⟨rfl, by funext q; rw [hm_sLv, if_neg (by omega)]⟩
theorem cF.fr {Λ Λ' : hx_L} (h : cF Λ) (hs : ∀ c, c < 49 → Λ'.1 c = Λ.1 c ∧ ∀ j, Λ'.2.1 c j = Λ.2.1 c j) (hn : 49 ≤ Λ'.2.2) : cF Λ' := by
  have b1 : ∀ q ∈ cFS, q.1 < 49 := by decide
  have b2 : ∀ q ∈ cFR, q.1 < 49 := by decide
  exact ⟨fun q hq => (hs q.1 (b1 q hq)).1.trans (h.1 q hq), fun q hq => ((hs q.1 (b2 q hq)).2 q.2.1).trans (h.2.1 q hq), hn⟩
theorem mF.fr {Λ Λ' : hx_L} (h : mF Λ) (hs : ∀ c, 49 ≤ c → c < 93 → Λ'.1 c = Λ.1 c ∧ ∀ j, Λ'.2.1 c j = Λ.2.1 c j) (hn : 93 ≤ Λ'.2.2) : mF Λ' := by
  have b1 : ∀ q ∈ mFS, 49 ≤ q.1 ∧ q.1 < 93 := by decide
  have b2 : ∀ q ∈ mFR, 49 ≤ q.1 ∧ q.1 < 93 := by decide
  exact ⟨fun q hq => (hs q.1 (b1 q hq).1 (b1 q hq).2).1.trans (h.1 q hq), fun q hq => ((hs q.1 (b2 q hq).1 (b2 q hq).2).2 q.2.1).trans (h.2.1 q hq), hn⟩
theorem cF.sR {Λ : hx_L} (h : cF Λ) {c j q : Nat} (hc : c = 6 ∨ c = 48) : cF (hx_sR Λ c j q) := by
  have b2 : ∀ q ∈ cFR, q.1 ≠ 6 ∧ q.1 ≠ 48 := by decide
  refine ⟨h.1, fun x hx => ?_, h.2.2⟩
  show (if x.1 = c then _ else Λ.2.1 x.1 x.2.1) = _
  have := b2 x hx
  rw [if_neg (by omega)]
  exact h.2.1 x hx
theorem mF.sR {Λ : hx_L} (h : mF Λ) {c j q : Nat} (hc : c < 49) : mF (hx_sR Λ c j q) := by
  have b2 : ∀ q ∈ mFR, 49 ≤ q.1 := by decide
  refine ⟨h.1, fun x hx => ?_, h.2.2⟩
  show (if x.1 = c then _ else Λ.2.1 x.1 x.2.1) = _
  have := b2 x hx
  rw [if_neg (by omega)]
  exact h.2.1 x hx
theorem NB.c (h : NB n0 Λ0 μ k sh rf Λ m) (F : cF Λ0) (hn : 93 ≤ n0) : cF Λ := F.fr (fun c hc => h.2.1 c (by omega)) (by rw [h.1]; omega)
theorem NB.mF (h : NB n0 Λ0 μ k sh rf Λ m) (F : mF Λ0) (hn : 93 ≤ n0) : mF Λ := F.fr (fun c _ hc => h.2.1 c (by omega)) (by rw [h.1]; omega)
theorem z_ne {μ : hx_M} {N c : Nat} (h : c ≠ N) : (hx_z μ N).1 c = μ.1 c := by
  show (if c = N then _ else μ.1 c) = _
  rw [if_neg h]
end NBS
theorem worldI {n0 r : Nat} {Λ0 Λ : hx_L} {μ m : hx_M} {K : hx_L → hx_M → Prop} (hbig : n0 + 21 < 1000000) (hr : 1 ≤ r) (hr2 : r ≤ 201) (h : NB n0 Λ0 μ 1 [(0, 0, 10)] [] Λ m) (k : ∀ L m', NB n0 Λ0 μ 21 [(20, 1, 20), (19, 1, 20), (18, 1, 20), (17, 1, 4), (16, 1, 4), (15, 1, 12), (14, 0, 6), (13, 1, r), (12, 1, 4 * r), (11, 1, 16 * r), (10, 1, r), (9, 1, 16 * r), (8, 0, 3), (7, 1, 96), (6, 1, 16), (5, 1, 16), (4, 1, 16), (3, 1, 16), (2, 1, 16), (1, 0, 4), (0, 0, 10)] [(0, 11, 20), (0, 10, 19), (0, 9, 18), (0, 2, 14), (14, 4, 17), (14, 3, 16), (14, 2, 15), (14, 1, 8), (14, 0, 1), (0, 1, 8), (8, 5, 13), (8, 4, 12), (8, 3, 11), (8, 2, 10), (8, 1, 9), (0, 0, 1), (1, 6, 7), (1, 5, 6), (1, 4, 5), (1, 3, 4), (1, 2, 3), (1, 1, 2)] L m' → m'.1 (n0 + 8) 0 = Int32.ofNat r → K L m') : wX10_init Λ m n0 (Int32.ofNat r) K := by
  have e0 : n0 = n0 + 0 := rfl
  unfold wX10_init
  rw [h.n]
  refine ⟨by unfold hx_big; omega, ?_⟩
  intro L0 eL0 m0 em0
  have h0 : NB n0 Λ0 μ 2 [(1, 0, 4), (0, 0, 10)] [] L0 m0 := by rw [eL0, em0]; exact (h).push (0, 4)
  unfold wX4_init
  refine ⟨h0.s (c := 1) (by simp), ?_⟩
  rw [h0.n]
  refine ⟨by unfold hx_big; omega, ?_⟩
  intro L1 eL1 m1 em1
  have h1 : NB n0 Λ0 μ 3 [(2, 1, 16), (1, 0, 4), (0, 0, 10)] [] L1 m1 := by rw [eL1, em1]; exact (h0.sI (c := 1) (j := 0) (v := 0)).push (1, 16)
  refine ⟨h1.s (c := 1) (by simp), ?_⟩
  intro L2 eL2
  have h2 : NB n0 Λ0 μ 3 [(2, 1, 16), (1, 0, 4), (0, 0, 10)] [(1, 1, 2)] L2 m1 := by rw [eL2]; exact h1.ref (c := 1) (j := 1) (q := 2) (by omega) (by simp)
  rw [h2.n]
  refine ⟨by unfold hx_big; omega, ?_⟩
  intro L3 eL3 m3 em3
  have h3 : NB n0 Λ0 μ 4 [(3, 1, 16), (2, 1, 16), (1, 0, 4), (0, 0, 10)] [(1, 1, 2)] L3 m3 := by rw [eL3, em3]; exact (h2).push (1, 16)
  refine ⟨h3.s (c := 1) (by simp), ?_⟩
  intro L4 eL4
  have h4 : NB n0 Λ0 μ 4 [(3, 1, 16), (2, 1, 16), (1, 0, 4), (0, 0, 10)] [(1, 2, 3), (1, 1, 2)] L4 m3 := by rw [eL4]; exact h3.ref (c := 1) (j := 2) (q := 3) (by omega) (by simp)
  rw [h4.n]
  refine ⟨by unfold hx_big; omega, ?_⟩
  intro L5 eL5 m5 em5
  have h5 : NB n0 Λ0 μ 5 [(4, 1, 16), (3, 1, 16), (2, 1, 16), (1, 0, 4), (0, 0, 10)] [(1, 2, 3), (1, 1, 2)] L5 m5 := by rw [eL5, em5]; exact (h4).push (1, 16)
  refine ⟨h5.s (c := 1) (by simp), ?_⟩
  intro L6 eL6
  have h6 : NB n0 Λ0 μ 5 [(4, 1, 16), (3, 1, 16), (2, 1, 16), (1, 0, 4), (0, 0, 10)] [(1, 3, 4), (1, 2, 3), (1, 1, 2)] L6 m5 := by rw [eL6]; exact h5.ref (c := 1) (j := 3) (q := 4) (by omega) (by simp)
  rw [h6.n]
  refine ⟨by unfold hx_big; omega, ?_⟩
  intro L7 eL7 m7 em7
  have h7 : NB n0 Λ0 μ 6 [(5, 1, 16), (4, 1, 16), (3, 1, 16), (2, 1, 16), (1, 0, 4), (0, 0, 10)] [(1, 3, 4), (1, 2, 3), (1, 1, 2)] L7 m7 := by rw [eL7, em7]; exact (h6).push (1, 16)
  refine ⟨h7.s (c := 1) (by simp), ?_⟩
  intro L8 eL8
  have h8 : NB n0 Λ0 μ 6 [(5, 1, 16), (4, 1, 16), (3, 1, 16), (2, 1, 16), (1, 0, 4), (0, 0, 10)] [(1, 4, 5), (1, 3, 4), (1, 2, 3), (1, 1, 2)] L8 m7 := by rw [eL8]; exact h7.ref (c := 1) (j := 4) (q := 5) (by omega) (by simp)
  rw [h8.n]
  refine ⟨by unfold hx_big; omega, ?_⟩
  intro L9 eL9 m9 em9
  have h9 : NB n0 Λ0 μ 7 [(6, 1, 16), (5, 1, 16), (4, 1, 16), (3, 1, 16), (2, 1, 16), (1, 0, 4), (0, 0, 10)] [(1, 4, 5), (1, 3, 4), (1, 2, 3), (1, 1, 2)] L9 m9 := by rw [eL9, em9]; exact (h8).push (1, 16)
  refine ⟨h9.s (c := 1) (by simp), ?_⟩
  intro L10 eL10
  have h10 : NB n0 Λ0 μ 7 [(6, 1, 16), (5, 1, 16), (4, 1, 16), (3, 1, 16), (2, 1, 16), (1, 0, 4), (0, 0, 10)] [(1, 5, 6), (1, 4, 5), (1, 3, 4), (1, 2, 3), (1, 1, 2)] L10 m9 := by rw [eL10]; exact h9.ref (c := 1) (j := 5) (q := 6) (by omega) (by simp)
  rw [h10.n]
  refine ⟨by unfold hx_big; omega, ?_⟩
  intro L11 eL11 m11 em11
  have h11 : NB n0 Λ0 μ 8 [(7, 1, 96), (6, 1, 16), (5, 1, 16), (4, 1, 16), (3, 1, 16), (2, 1, 16), (1, 0, 4), (0, 0, 10)] [(1, 5, 6), (1, 4, 5), (1, 3, 4), (1, 2, 3), (1, 1, 2)] L11 m11 := by rw [eL11, em11]; exact (h10).push (1, 96)
  refine ⟨h11.s (c := 1) (by simp), ?_⟩
  intro L12 eL12
  have h12 : NB n0 Λ0 μ 8 [(7, 1, 96), (6, 1, 16), (5, 1, 16), (4, 1, 16), (3, 1, 16), (2, 1, 16), (1, 0, 4), (0, 0, 10)] [(1, 6, 7), (1, 5, 6), (1, 4, 5), (1, 3, 4), (1, 2, 3), (1, 1, 2)] L12 m11 := by rw [eL12]; exact h11.ref (c := 1) (j := 6) (q := 7) (by omega) (by simp)
  refine ⟨h12.s (c := 0) (by simp), ?_⟩
  intro L13 eL13
  have h13 : NB n0 Λ0 μ 8 [(7, 1, 96), (6, 1, 16), (5, 1, 16), (4, 1, 16), (3, 1, 16), (2, 1, 16), (1, 0, 4), (0, 0, 10)] [(0, 0, 1), (1, 6, 7), (1, 5, 6), (1, 4, 5), (1, 3, 4), (1, 2, 3), (1, 1, 2)] L13 m11 := by rw [eL13]; exact h12.ref (c := 0) (j := 0) (q := 1) (by omega) (by simp)
  rw [h13.n]
  refine ⟨by unfold hx_big; omega, ?_⟩
  intro L14 eL14 m14 em14
  have h14 : NB n0 Λ0 μ 9 [(8, 0, 3), (7, 1, 96), (6, 1, 16), (5, 1, 16), (4, 1, 16), (3, 1, 16), (2, 1, 16), (1, 0, 4), (0, 0, 10)] [(0, 0, 1), (1, 6, 7), (1, 5, 6), (1, 4, 5), (1, 3, 4), (1, 2, 3), (1, 1, 2)] L14 m14 := by rw [eL14, em14]; exact (h13).push (0, 3)
  unfold wX3_init
  refine ⟨h14.s (c := 8) (by simp), ?_⟩
  have er : (if 1 < Int32.ofNat r then Int32.ofNat r else 1) = Int32.ofNat r := by
    by_cases c : 1 < Int32.ofNat r
    · rw [if_pos c]
    · rw [if_neg c]
      have : ¬ 1 < r := fun z => c ((n32_lt (a := 1) (by omega) (by omega)).mpr z)
      rw [show r = 1 by omega]; rfl
  have e16 : Int32.ofNat r * 16 = Int32.ofNat (16 * r) := by rw [Nat.mul_comm 16 r, ← n32_mul]; rfl
  have e4 : Int32.ofNat r * 4 = Int32.ofNat (4 * r) := by rw [Nat.mul_comm 4 r, ← n32_mul]; rfl
  rw [er, sIe, e16]
  rintro x2 rfl
  rw [n32_nat (by omega)]
  refine ⟨n32_nn (by omega), by omega, by omega, ?_⟩
  rw [h14.n]
  refine ⟨by unfold hx_big; omega, ?_⟩
  intro L15 eL15 m15 em15
  have h15 : NB n0 Λ0 μ 10 [(9, 1, 16 * r), (8, 0, 3), (7, 1, 96), (6, 1, 16), (5, 1, 16), (4, 1, 16), (3, 1, 16), (2, 1, 16), (1, 0, 4), (0, 0, 10)] [(0, 0, 1), (1, 6, 7), (1, 5, 6), (1, 4, 5), (1, 3, 4), (1, 2, 3), (1, 1, 2)] L15 m15 := by rw [eL15, em15]; exact (h14.sI (c := 8) (j := 0) (v := Int32.ofNat r)).push (1, 16 * r)
  have v_m15 : m15.1 (n0 + 8) 0 = Int32.ofNat r := by rw [em15, z_ne (by omega), sIe]
  refine ⟨h15.s (c := 8) (by simp), ?_⟩
  intro L16 eL16
  have h16 : NB n0 Λ0 μ 10 [(9, 1, 16 * r), (8, 0, 3), (7, 1, 96), (6, 1, 16), (5, 1, 16), (4, 1, 16), (3, 1, 16), (2, 1, 16), (1, 0, 4), (0, 0, 10)] [(8, 1, 9), (0, 0, 1), (1, 6, 7), (1, 5, 6), (1, 4, 5), (1, 3, 4), (1, 2, 3), (1, 1, 2)] L16 m15 := by rw [eL16]; exact h15.ref (c := 8) (j := 1) (q := 9) (by omega) (by simp)
  refine ⟨h16.s (c := 8) (by simp), ?_⟩
  rw [v_m15, n32_nat (by omega)]
  refine ⟨n32_nn (by omega), by omega, by omega, ?_⟩
  rw [h16.n]
  refine ⟨by unfold hx_big; omega, ?_⟩
  intro L17 eL17 m17 em17
  have h17 : NB n0 Λ0 μ 11 [(10, 1, r), (9, 1, 16 * r), (8, 0, 3), (7, 1, 96), (6, 1, 16), (5, 1, 16), (4, 1, 16), (3, 1, 16), (2, 1, 16), (1, 0, 4), (0, 0, 10)] [(8, 1, 9), (0, 0, 1), (1, 6, 7), (1, 5, 6), (1, 4, 5), (1, 3, 4), (1, 2, 3), (1, 1, 2)] L17 m17 := by rw [eL17, em17]; exact (h16).push (1, r)
  have v_m17 : m17.1 (n0 + 8) 0 = Int32.ofNat r := by rw [em17, z_ne (by omega)]; exact v_m15
  refine ⟨h17.s (c := 8) (by simp), ?_⟩
  intro L18 eL18
  have h18 : NB n0 Λ0 μ 11 [(10, 1, r), (9, 1, 16 * r), (8, 0, 3), (7, 1, 96), (6, 1, 16), (5, 1, 16), (4, 1, 16), (3, 1, 16), (2, 1, 16), (1, 0, 4), (0, 0, 10)] [(8, 2, 10), (8, 1, 9), (0, 0, 1), (1, 6, 7), (1, 5, 6), (1, 4, 5), (1, 3, 4), (1, 2, 3), (1, 1, 2)] L18 m17 := by rw [eL18]; exact h17.ref (c := 8) (j := 2) (q := 10) (by omega) (by simp)
  refine ⟨h18.s (c := 8) (by simp), ?_⟩
  rw [v_m17, e16, n32_nat (by omega)]
  refine ⟨n32_nn (by omega), by omega, by omega, ?_⟩
  rw [h18.n]
  refine ⟨by unfold hx_big; omega, ?_⟩
  intro L19 eL19 m19 em19
  have h19 : NB n0 Λ0 μ 12 [(11, 1, 16 * r), (10, 1, r), (9, 1, 16 * r), (8, 0, 3), (7, 1, 96), (6, 1, 16), (5, 1, 16), (4, 1, 16), (3, 1, 16), (2, 1, 16), (1, 0, 4), (0, 0, 10)] [(8, 2, 10), (8, 1, 9), (0, 0, 1), (1, 6, 7), (1, 5, 6), (1, 4, 5), (1, 3, 4), (1, 2, 3), (1, 1, 2)] L19 m19 := by rw [eL19, em19]; exact (h18).push (1, 16 * r)
  have v_m19 : m19.1 (n0 + 8) 0 = Int32.ofNat r := by rw [em19, z_ne (by omega)]; exact v_m17
  refine ⟨h19.s (c := 8) (by simp), ?_⟩
  intro L20 eL20
  have h20 : NB n0 Λ0 μ 12 [(11, 1, 16 * r), (10, 1, r), (9, 1, 16 * r), (8, 0, 3), (7, 1, 96), (6, 1, 16), (5, 1, 16), (4, 1, 16), (3, 1, 16), (2, 1, 16), (1, 0, 4), (0, 0, 10)] [(8, 3, 11), (8, 2, 10), (8, 1, 9), (0, 0, 1), (1, 6, 7), (1, 5, 6), (1, 4, 5), (1, 3, 4), (1, 2, 3), (1, 1, 2)] L20 m19 := by rw [eL20]; exact h19.ref (c := 8) (j := 3) (q := 11) (by omega) (by simp)
  refine ⟨h20.s (c := 8) (by simp), ?_⟩
  rw [v_m19, e4, n32_nat (by omega)]
  refine ⟨n32_nn (by omega), by omega, by omega, ?_⟩
  rw [h20.n]
  refine ⟨by unfold hx_big; omega, ?_⟩
  intro L21 eL21 m21 em21
  have h21 : NB n0 Λ0 μ 13 [(12, 1, 4 * r), (11, 1, 16 * r), (10, 1, r), (9, 1, 16 * r), (8, 0, 3), (7, 1, 96), (6, 1, 16), (5, 1, 16), (4, 1, 16), (3, 1, 16), (2, 1, 16), (1, 0, 4), (0, 0, 10)] [(8, 3, 11), (8, 2, 10), (8, 1, 9), (0, 0, 1), (1, 6, 7), (1, 5, 6), (1, 4, 5), (1, 3, 4), (1, 2, 3), (1, 1, 2)] L21 m21 := by rw [eL21, em21]; exact (h20).push (1, 4 * r)
  have v_m21 : m21.1 (n0 + 8) 0 = Int32.ofNat r := by rw [em21, z_ne (by omega)]; exact v_m19
  refine ⟨h21.s (c := 8) (by simp), ?_⟩
  intro L22 eL22
  have h22 : NB n0 Λ0 μ 13 [(12, 1, 4 * r), (11, 1, 16 * r), (10, 1, r), (9, 1, 16 * r), (8, 0, 3), (7, 1, 96), (6, 1, 16), (5, 1, 16), (4, 1, 16), (3, 1, 16), (2, 1, 16), (1, 0, 4), (0, 0, 10)] [(8, 4, 12), (8, 3, 11), (8, 2, 10), (8, 1, 9), (0, 0, 1), (1, 6, 7), (1, 5, 6), (1, 4, 5), (1, 3, 4), (1, 2, 3), (1, 1, 2)] L22 m21 := by rw [eL22]; exact h21.ref (c := 8) (j := 4) (q := 12) (by omega) (by simp)
  refine ⟨h22.s (c := 8) (by simp), ?_⟩
  rw [v_m21, n32_nat (by omega)]
  refine ⟨n32_nn (by omega), by omega, by omega, ?_⟩
  rw [h22.n]
  refine ⟨by unfold hx_big; omega, ?_⟩
  intro L23 eL23 m23 em23
  have h23 : NB n0 Λ0 μ 14 [(13, 1, r), (12, 1, 4 * r), (11, 1, 16 * r), (10, 1, r), (9, 1, 16 * r), (8, 0, 3), (7, 1, 96), (6, 1, 16), (5, 1, 16), (4, 1, 16), (3, 1, 16), (2, 1, 16), (1, 0, 4), (0, 0, 10)] [(8, 4, 12), (8, 3, 11), (8, 2, 10), (8, 1, 9), (0, 0, 1), (1, 6, 7), (1, 5, 6), (1, 4, 5), (1, 3, 4), (1, 2, 3), (1, 1, 2)] L23 m23 := by rw [eL23, em23]; exact (h22).push (1, r)
  have v_m23 : m23.1 (n0 + 8) 0 = Int32.ofNat r := by rw [em23, z_ne (by omega)]; exact v_m21
  refine ⟨h23.s (c := 8) (by simp), ?_⟩
  intro L24 eL24
  have h24 : NB n0 Λ0 μ 14 [(13, 1, r), (12, 1, 4 * r), (11, 1, 16 * r), (10, 1, r), (9, 1, 16 * r), (8, 0, 3), (7, 1, 96), (6, 1, 16), (5, 1, 16), (4, 1, 16), (3, 1, 16), (2, 1, 16), (1, 0, 4), (0, 0, 10)] [(8, 5, 13), (8, 4, 12), (8, 3, 11), (8, 2, 10), (8, 1, 9), (0, 0, 1), (1, 6, 7), (1, 5, 6), (1, 4, 5), (1, 3, 4), (1, 2, 3), (1, 1, 2)] L24 m23 := by rw [eL24]; exact h23.ref (c := 8) (j := 5) (q := 13) (by omega) (by simp)
  refine ⟨h24.s (c := 8) (by simp), ?_⟩
  refine ⟨n0 + 12, h24.r (by simp), fillI (h24.s (c := 12) (t := 1) (n := 4 * r) (by simp)) (by omega) ?_⟩
  generalize em25 : hx_sA m23 (n0 + 12) _ = m25
  have h25 : NB n0 Λ0 μ 14 [(13, 1, r), (12, 1, 4 * r), (11, 1, 16 * r), (10, 1, r), (9, 1, 16 * r), (8, 0, 3), (7, 1, 96), (6, 1, 16), (5, 1, 16), (4, 1, 16), (3, 1, 16), (2, 1, 16), (1, 0, 4), (0, 0, 10)] [(8, 5, 13), (8, 4, 12), (8, 3, 11), (8, 2, 10), (8, 1, 9), (0, 0, 1), (1, 6, 7), (1, 5, 6), (1, 4, 5), (1, 3, 4), (1, 2, 3), (1, 1, 2)] L24 m25 := h24.mem fun c hc => by rw [← em25]; exact ⟨sAk (by omega), rfl⟩
  have v_m25 : m25.1 (n0 + 8) 0 = Int32.ofNat r := by rw [← em25, sAk (by omega)]; exact v_m23
  refine ⟨h25.s (c := 0) (by simp), ?_⟩
  intro L26 eL26
  have h26 : NB n0 Λ0 μ 14 [(13, 1, r), (12, 1, 4 * r), (11, 1, 16 * r), (10, 1, r), (9, 1, 16 * r), (8, 0, 3), (7, 1, 96), (6, 1, 16), (5, 1, 16), (4, 1, 16), (3, 1, 16), (2, 1, 16), (1, 0, 4), (0, 0, 10)] [(0, 1, 8), (8, 5, 13), (8, 4, 12), (8, 3, 11), (8, 2, 10), (8, 1, 9), (0, 0, 1), (1, 6, 7), (1, 5, 6), (1, 4, 5), (1, 3, 4), (1, 2, 3), (1, 1, 2)] L26 m25 := by rw [eL26]; exact h25.ref (c := 0) (j := 1) (q := 8) (by omega) (by simp)
  rw [h26.n]
  refine ⟨by unfold hx_big; omega, ?_⟩
  intro L27 eL27 m27 em27
  have h27 : NB n0 Λ0 μ 15 [(14, 0, 6), (13, 1, r), (12, 1, 4 * r), (11, 1, 16 * r), (10, 1, r), (9, 1, 16 * r), (8, 0, 3), (7, 1, 96), (6, 1, 16), (5, 1, 16), (4, 1, 16), (3, 1, 16), (2, 1, 16), (1, 0, 4), (0, 0, 10)] [(0, 1, 8), (8, 5, 13), (8, 4, 12), (8, 3, 11), (8, 2, 10), (8, 1, 9), (0, 0, 1), (1, 6, 7), (1, 5, 6), (1, 4, 5), (1, 3, 4), (1, 2, 3), (1, 1, 2)] L27 m27 := by rw [eL27, em27]; exact (h26).push (0, 6)
  have v_m27 : m27.1 (n0 + 8) 0 = Int32.ofNat r := by rw [em27, z_ne (by omega)]; exact v_m25
  refine ⟨h27.s (c := 0) (by simp), ?_⟩
  refine ⟨n0 + 1, h27.r (c := 0) (by simp), n0 + 8, h27.r (c := 0) (by simp), ?_⟩
  unfold wX6_init
  refine ⟨h27.s (c := 14) (by simp), ?_⟩
  intro L28 eL28
  have h28 : NB n0 Λ0 μ 15 [(14, 0, 6), (13, 1, r), (12, 1, 4 * r), (11, 1, 16 * r), (10, 1, r), (9, 1, 16 * r), (8, 0, 3), (7, 1, 96), (6, 1, 16), (5, 1, 16), (4, 1, 16), (3, 1, 16), (2, 1, 16), (1, 0, 4), (0, 0, 10)] [(14, 0, 1), (0, 1, 8), (8, 5, 13), (8, 4, 12), (8, 3, 11), (8, 2, 10), (8, 1, 9), (0, 0, 1), (1, 6, 7), (1, 5, 6), (1, 4, 5), (1, 3, 4), (1, 2, 3), (1, 1, 2)] L28 m27 := by rw [eL28]; exact h27.ref (c := 14) (j := 0) (q := 1) (by omega) (by simp)
  refine ⟨h28.s (c := 14) (by simp), ?_⟩
  intro L29 eL29
  have h29 : NB n0 Λ0 μ 15 [(14, 0, 6), (13, 1, r), (12, 1, 4 * r), (11, 1, 16 * r), (10, 1, r), (9, 1, 16 * r), (8, 0, 3), (7, 1, 96), (6, 1, 16), (5, 1, 16), (4, 1, 16), (3, 1, 16), (2, 1, 16), (1, 0, 4), (0, 0, 10)] [(14, 1, 8), (14, 0, 1), (0, 1, 8), (8, 5, 13), (8, 4, 12), (8, 3, 11), (8, 2, 10), (8, 1, 9), (0, 0, 1), (1, 6, 7), (1, 5, 6), (1, 4, 5), (1, 3, 4), (1, 2, 3), (1, 1, 2)] L29 m27 := by rw [eL29]; exact h28.ref (c := 14) (j := 1) (q := 8) (by omega) (by simp)
  rw [h29.n]
  refine ⟨by unfold hx_big; omega, ?_⟩
  intro L30 eL30 m30 em30
  have h30 : NB n0 Λ0 μ 16 [(15, 1, 12), (14, 0, 6), (13, 1, r), (12, 1, 4 * r), (11, 1, 16 * r), (10, 1, r), (9, 1, 16 * r), (8, 0, 3), (7, 1, 96), (6, 1, 16), (5, 1, 16), (4, 1, 16), (3, 1, 16), (2, 1, 16), (1, 0, 4), (0, 0, 10)] [(14, 1, 8), (14, 0, 1), (0, 1, 8), (8, 5, 13), (8, 4, 12), (8, 3, 11), (8, 2, 10), (8, 1, 9), (0, 0, 1), (1, 6, 7), (1, 5, 6), (1, 4, 5), (1, 3, 4), (1, 2, 3), (1, 1, 2)] L30 m30 := by rw [eL30, em30]; exact (h29).push (1, 12)
  have v_m30 : m30.1 (n0 + 8) 0 = Int32.ofNat r := by rw [em30, z_ne (by omega)]; exact v_m27
  refine ⟨h30.s (c := 14) (by simp), ?_⟩
  intro L31 eL31
  have h31 : NB n0 Λ0 μ 16 [(15, 1, 12), (14, 0, 6), (13, 1, r), (12, 1, 4 * r), (11, 1, 16 * r), (10, 1, r), (9, 1, 16 * r), (8, 0, 3), (7, 1, 96), (6, 1, 16), (5, 1, 16), (4, 1, 16), (3, 1, 16), (2, 1, 16), (1, 0, 4), (0, 0, 10)] [(14, 2, 15), (14, 1, 8), (14, 0, 1), (0, 1, 8), (8, 5, 13), (8, 4, 12), (8, 3, 11), (8, 2, 10), (8, 1, 9), (0, 0, 1), (1, 6, 7), (1, 5, 6), (1, 4, 5), (1, 3, 4), (1, 2, 3), (1, 1, 2)] L31 m30 := by rw [eL31]; exact h30.ref (c := 14) (j := 2) (q := 15) (by omega) (by simp)
  rw [h31.n]
  refine ⟨by unfold hx_big; omega, ?_⟩
  intro L32 eL32 m32 em32
  have h32 : NB n0 Λ0 μ 17 [(16, 1, 4), (15, 1, 12), (14, 0, 6), (13, 1, r), (12, 1, 4 * r), (11, 1, 16 * r), (10, 1, r), (9, 1, 16 * r), (8, 0, 3), (7, 1, 96), (6, 1, 16), (5, 1, 16), (4, 1, 16), (3, 1, 16), (2, 1, 16), (1, 0, 4), (0, 0, 10)] [(14, 2, 15), (14, 1, 8), (14, 0, 1), (0, 1, 8), (8, 5, 13), (8, 4, 12), (8, 3, 11), (8, 2, 10), (8, 1, 9), (0, 0, 1), (1, 6, 7), (1, 5, 6), (1, 4, 5), (1, 3, 4), (1, 2, 3), (1, 1, 2)] L32 m32 := by rw [eL32, em32]; exact (h31).push (1, 4)
  have v_m32 : m32.1 (n0 + 8) 0 = Int32.ofNat r := by rw [em32, z_ne (by omega)]; exact v_m30
  refine ⟨h32.s (c := 14) (by simp), ?_⟩
  intro L33 eL33
  have h33 : NB n0 Λ0 μ 17 [(16, 1, 4), (15, 1, 12), (14, 0, 6), (13, 1, r), (12, 1, 4 * r), (11, 1, 16 * r), (10, 1, r), (9, 1, 16 * r), (8, 0, 3), (7, 1, 96), (6, 1, 16), (5, 1, 16), (4, 1, 16), (3, 1, 16), (2, 1, 16), (1, 0, 4), (0, 0, 10)] [(14, 3, 16), (14, 2, 15), (14, 1, 8), (14, 0, 1), (0, 1, 8), (8, 5, 13), (8, 4, 12), (8, 3, 11), (8, 2, 10), (8, 1, 9), (0, 0, 1), (1, 6, 7), (1, 5, 6), (1, 4, 5), (1, 3, 4), (1, 2, 3), (1, 1, 2)] L33 m32 := by rw [eL33]; exact h32.ref (c := 14) (j := 3) (q := 16) (by omega) (by simp)
  rw [h33.n]
  refine ⟨by unfold hx_big; omega, ?_⟩
  intro L34 eL34 m34 em34
  have h34 : NB n0 Λ0 μ 18 [(17, 1, 4), (16, 1, 4), (15, 1, 12), (14, 0, 6), (13, 1, r), (12, 1, 4 * r), (11, 1, 16 * r), (10, 1, r), (9, 1, 16 * r), (8, 0, 3), (7, 1, 96), (6, 1, 16), (5, 1, 16), (4, 1, 16), (3, 1, 16), (2, 1, 16), (1, 0, 4), (0, 0, 10)] [(14, 3, 16), (14, 2, 15), (14, 1, 8), (14, 0, 1), (0, 1, 8), (8, 5, 13), (8, 4, 12), (8, 3, 11), (8, 2, 10), (8, 1, 9), (0, 0, 1), (1, 6, 7), (1, 5, 6), (1, 4, 5), (1, 3, 4), (1, 2, 3), (1, 1, 2)] L34 m34 := by rw [eL34, em34]; exact (h33).push (1, 4)
  have v_m34 : m34.1 (n0 + 8) 0 = Int32.ofNat r := by rw [em34, z_ne (by omega)]; exact v_m32
  refine ⟨h34.s (c := 14) (by simp), ?_⟩
  intro L35 eL35
  have h35 : NB n0 Λ0 μ 18 [(17, 1, 4), (16, 1, 4), (15, 1, 12), (14, 0, 6), (13, 1, r), (12, 1, 4 * r), (11, 1, 16 * r), (10, 1, r), (9, 1, 16 * r), (8, 0, 3), (7, 1, 96), (6, 1, 16), (5, 1, 16), (4, 1, 16), (3, 1, 16), (2, 1, 16), (1, 0, 4), (0, 0, 10)] [(14, 4, 17), (14, 3, 16), (14, 2, 15), (14, 1, 8), (14, 0, 1), (0, 1, 8), (8, 5, 13), (8, 4, 12), (8, 3, 11), (8, 2, 10), (8, 1, 9), (0, 0, 1), (1, 6, 7), (1, 5, 6), (1, 4, 5), (1, 3, 4), (1, 2, 3), (1, 1, 2)] L35 m34 := by rw [eL35]; exact h34.ref (c := 14) (j := 4) (q := 17) (by omega) (by simp)
  refine ⟨h35.s (c := 14) (by simp), ?_⟩
  refine ⟨h35.s (c := 0) (by simp), ?_⟩
  intro L36 eL36
  have h36 : NB n0 Λ0 μ 18 [(17, 1, 4), (16, 1, 4), (15, 1, 12), (14, 0, 6), (13, 1, r), (12, 1, 4 * r), (11, 1, 16 * r), (10, 1, r), (9, 1, 16 * r), (8, 0, 3), (7, 1, 96), (6, 1, 16), (5, 1, 16), (4, 1, 16), (3, 1, 16), (2, 1, 16), (1, 0, 4), (0, 0, 10)] [(0, 2, 14), (14, 4, 17), (14, 3, 16), (14, 2, 15), (14, 1, 8), (14, 0, 1), (0, 1, 8), (8, 5, 13), (8, 4, 12), (8, 3, 11), (8, 2, 10), (8, 1, 9), (0, 0, 1), (1, 6, 7), (1, 5, 6), (1, 4, 5), (1, 3, 4), (1, 2, 3), (1, 1, 2)] L36 m34 := by rw [eL36]; exact h35.ref (c := 0) (j := 2) (q := 14) (by omega) (by simp)
  refine ⟨h36.s (c := 0) (by simp), ?_⟩
  rw [h36.n]
  refine ⟨by unfold hx_big; omega, ?_⟩
  intro L37 eL37 m37 em37
  have h37 : NB n0 Λ0 μ 19 [(18, 1, 20), (17, 1, 4), (16, 1, 4), (15, 1, 12), (14, 0, 6), (13, 1, r), (12, 1, 4 * r), (11, 1, 16 * r), (10, 1, r), (9, 1, 16 * r), (8, 0, 3), (7, 1, 96), (6, 1, 16), (5, 1, 16), (4, 1, 16), (3, 1, 16), (2, 1, 16), (1, 0, 4), (0, 0, 10)] [(0, 2, 14), (14, 4, 17), (14, 3, 16), (14, 2, 15), (14, 1, 8), (14, 0, 1), (0, 1, 8), (8, 5, 13), (8, 4, 12), (8, 3, 11), (8, 2, 10), (8, 1, 9), (0, 0, 1), (1, 6, 7), (1, 5, 6), (1, 4, 5), (1, 3, 4), (1, 2, 3), (1, 1, 2)] L37 m37 := by rw [eL37, em37]; exact (((((((h36.sI (c := 14) (j := 5) (v := 2)).sI (c := 0) (j := 3) (v := 0)).sI (c := 0) (j := 4) (v := 0)).sI (c := 0) (j := 5) (v := 0)).sL (c := 0) (j := 6) (v := 1)).sI (c := 0) (j := 7) (v := 0)).sI (c := 0) (j := 8) (v := 0)).push (1, 20)
  have v_m37 : m37.1 (n0 + 8) 0 = Int32.ofNat r := by rw [em37, z_ne (by omega), sIk (by omega), sIk (by omega), hm_sL1, sIk (by omega), sIk (by omega), sIk (by omega), sIk (by omega)]; exact v_m34
  refine ⟨h37.s (c := 0) (by simp), ?_⟩
  intro L38 eL38
  have h38 : NB n0 Λ0 μ 19 [(18, 1, 20), (17, 1, 4), (16, 1, 4), (15, 1, 12), (14, 0, 6), (13, 1, r), (12, 1, 4 * r), (11, 1, 16 * r), (10, 1, r), (9, 1, 16 * r), (8, 0, 3), (7, 1, 96), (6, 1, 16), (5, 1, 16), (4, 1, 16), (3, 1, 16), (2, 1, 16), (1, 0, 4), (0, 0, 10)] [(0, 9, 18), (0, 2, 14), (14, 4, 17), (14, 3, 16), (14, 2, 15), (14, 1, 8), (14, 0, 1), (0, 1, 8), (8, 5, 13), (8, 4, 12), (8, 3, 11), (8, 2, 10), (8, 1, 9), (0, 0, 1), (1, 6, 7), (1, 5, 6), (1, 4, 5), (1, 3, 4), (1, 2, 3), (1, 1, 2)] L38 m37 := by rw [eL38]; exact h37.ref (c := 0) (j := 9) (q := 18) (by omega) (by simp)
  rw [h38.n]
  refine ⟨by unfold hx_big; omega, ?_⟩
  intro L39 eL39 m39 em39
  have h39 : NB n0 Λ0 μ 20 [(19, 1, 20), (18, 1, 20), (17, 1, 4), (16, 1, 4), (15, 1, 12), (14, 0, 6), (13, 1, r), (12, 1, 4 * r), (11, 1, 16 * r), (10, 1, r), (9, 1, 16 * r), (8, 0, 3), (7, 1, 96), (6, 1, 16), (5, 1, 16), (4, 1, 16), (3, 1, 16), (2, 1, 16), (1, 0, 4), (0, 0, 10)] [(0, 9, 18), (0, 2, 14), (14, 4, 17), (14, 3, 16), (14, 2, 15), (14, 1, 8), (14, 0, 1), (0, 1, 8), (8, 5, 13), (8, 4, 12), (8, 3, 11), (8, 2, 10), (8, 1, 9), (0, 0, 1), (1, 6, 7), (1, 5, 6), (1, 4, 5), (1, 3, 4), (1, 2, 3), (1, 1, 2)] L39 m39 := by rw [eL39, em39]; exact (h38).push (1, 20)
  have v_m39 : m39.1 (n0 + 8) 0 = Int32.ofNat r := by rw [em39, z_ne (by omega)]; exact v_m37
  refine ⟨h39.s (c := 0) (by simp), ?_⟩
  intro L40 eL40
  have h40 : NB n0 Λ0 μ 20 [(19, 1, 20), (18, 1, 20), (17, 1, 4), (16, 1, 4), (15, 1, 12), (14, 0, 6), (13, 1, r), (12, 1, 4 * r), (11, 1, 16 * r), (10, 1, r), (9, 1, 16 * r), (8, 0, 3), (7, 1, 96), (6, 1, 16), (5, 1, 16), (4, 1, 16), (3, 1, 16), (2, 1, 16), (1, 0, 4), (0, 0, 10)] [(0, 10, 19), (0, 9, 18), (0, 2, 14), (14, 4, 17), (14, 3, 16), (14, 2, 15), (14, 1, 8), (14, 0, 1), (0, 1, 8), (8, 5, 13), (8, 4, 12), (8, 3, 11), (8, 2, 10), (8, 1, 9), (0, 0, 1), (1, 6, 7), (1, 5, 6), (1, 4, 5), (1, 3, 4), (1, 2, 3), (1, 1, 2)] L40 m39 := by rw [eL40]; exact h39.ref (c := 0) (j := 10) (q := 19) (by omega) (by simp)
  rw [h40.n]
  refine ⟨by unfold hx_big; omega, ?_⟩
  intro L41 eL41 m41 em41
  have h41 : NB n0 Λ0 μ 21 [(20, 1, 20), (19, 1, 20), (18, 1, 20), (17, 1, 4), (16, 1, 4), (15, 1, 12), (14, 0, 6), (13, 1, r), (12, 1, 4 * r), (11, 1, 16 * r), (10, 1, r), (9, 1, 16 * r), (8, 0, 3), (7, 1, 96), (6, 1, 16), (5, 1, 16), (4, 1, 16), (3, 1, 16), (2, 1, 16), (1, 0, 4), (0, 0, 10)] [(0, 10, 19), (0, 9, 18), (0, 2, 14), (14, 4, 17), (14, 3, 16), (14, 2, 15), (14, 1, 8), (14, 0, 1), (0, 1, 8), (8, 5, 13), (8, 4, 12), (8, 3, 11), (8, 2, 10), (8, 1, 9), (0, 0, 1), (1, 6, 7), (1, 5, 6), (1, 4, 5), (1, 3, 4), (1, 2, 3), (1, 1, 2)] L41 m41 := by rw [eL41, em41]; exact (h40).push (1, 20)
  have v_m41 : m41.1 (n0 + 8) 0 = Int32.ofNat r := by rw [em41, z_ne (by omega)]; exact v_m39
  refine ⟨h41.s (c := 0) (by simp), ?_⟩
  intro L42 eL42
  have h42 : NB n0 Λ0 μ 21 [(20, 1, 20), (19, 1, 20), (18, 1, 20), (17, 1, 4), (16, 1, 4), (15, 1, 12), (14, 0, 6), (13, 1, r), (12, 1, 4 * r), (11, 1, 16 * r), (10, 1, r), (9, 1, 16 * r), (8, 0, 3), (7, 1, 96), (6, 1, 16), (5, 1, 16), (4, 1, 16), (3, 1, 16), (2, 1, 16), (1, 0, 4), (0, 0, 10)] [(0, 11, 20), (0, 10, 19), (0, 9, 18), (0, 2, 14), (14, 4, 17), (14, 3, 16), (14, 2, 15), (14, 1, 8), (14, 0, 1), (0, 1, 8), (8, 5, 13), (8, 4, 12), (8, 3, 11), (8, 2, 10), (8, 1, 9), (0, 0, 1), (1, 6, 7), (1, 5, 6), (1, 4, 5), (1, 3, 4), (1, 2, 3), (1, 1, 2)] L42 m41 := by rw [eL42]; exact h41.ref (c := 0) (j := 11) (q := 20) (by omega) (by simp)
  exact k _ _ h42 v_m41
