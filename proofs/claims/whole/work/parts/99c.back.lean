/-! layer 2: back -/
abbrev hseg : List (Nat × Nat × Nat) := [(50, 8, 16), (51, 24, 16), (52, 40, 16), (53, 56, 16), (54, 72, 16), (55, 88, 4), (56, 92, 96), (85, 188, 20), (86, 208, 20), (87, 228, 20), (57, 248, 3216), (58, 3464, 3216), (59, 6680, 3216), (60, 9896, 3216), (61, 13112, 804), (62, 13916, 201)]
theorem seg_rng : ∀ s ∈ hseg, (50 ≤ s.1 ∧ s.1 ≤ 62) ∨ (85 ≤ s.1 ∧ s.1 ≤ 87) := by decide
/-- a row told in the reference's cells -/
def RB (B : Nat → Int32) (z : Int64) (m : hx_M) : Prop := (m.1 49 0 = B 0 ∧ m.1 49 1 = B 1 ∧ m.1 49 2 = B 2 ∧ m.1 49 3 = B 3 ∧ m.1 49 4 = B 4 ∧ m.1 49 5 = B 5 ∧ m.1 49 59 = B 6) ∧ m.2 49 6 = z ∧ ∀ s ∈ hseg, ∀ i, i < s.2.2 → m.1 s.1 i = B (s.2.1 + i)
theorem RB.c {B : Nat → Int32} {z : Int64} {m : hx_M} (h : RB B z m) {c p n i : Nat} (hs : (c, p, n) ∈ hseg) (hi : i < n) : m.1 c i = B (p + i) := h.2.2 (c, p, n) hs i hi
theorem RB.m {a : hw_T} {B : Nat → Int32} {z : Int64} {m : hx_M} (r : RB B z m) (w : WF 200 a) (h : MW a (MIr B z)) : MW a m := by
  have hn := w.n
  have hs := w.s
  have hft := w.ft
  obtain ⟨h1, h2, h3, h4, h5, h6, h7, h8, h9, h10, h11⟩ := h
  refine ⟨⟨?_, ?_, ?_⟩, ⟨?_, ?_, ?_, ?_⟩, fun p hp => ⟨?_, ?_, ?_, ?_, ?_⟩, fun k hk => ?_, fun t p ht hp => ?_, fun t p t1 ht hp => ⟨?_, ?_, ?_⟩, fun h hh => ?_, fun t h ht hh => ?_, ?_, fun t ht => ?_, fun k hk => ⟨?_, ?_, ?_⟩⟩
  · exact (r.1.1).trans h1.1
  · exact (r.1.2.1).trans h1.2.1
  · exact (r.1.2.2.2.2.2.2).trans h1.2.2
  · exact (r.1.2.2.2.1).trans h2.1
  · exact (r.1.2.2.2.2.1).trans h2.2.1
  · exact (r.1.2.2.2.2.2.1).trans h2.2.2.1
  · exact (r.2.1).trans h2.2.2.2
  · exact (r.c (c := 50) (p := 8) (n := 16) (by simp [hseg]) (by omega)).trans (h3 p hp).1
  · exact (r.c (c := 51) (p := 24) (n := 16) (by simp [hseg]) (by omega)).trans (h3 p hp).2.1
  · exact (r.c (c := 54) (p := 72) (n := 16) (by simp [hseg]) (by omega)).trans (h3 p hp).2.2.1
  · exact (r.c (c := 52) (p := 40) (n := 16) (by simp [hseg]) (by omega)).trans (h3 p hp).2.2.2.1
  · exact (r.c (c := 53) (p := 56) (n := 16) (by simp [hseg]) (by omega)).trans (h3 p hp).2.2.2.2
  · exact (r.c (c := 56) (p := 92) (n := 96) (by simp [hseg]) (by omega)).trans (h4 k hk)
  · exact (r.c (c := 57) (p := 248) (n := 3216) (by simp [hseg]) (by omega)).trans (h5 t p ht hp)
  · exact (r.c (c := 58) (p := 3464) (n := 3216) (by simp [hseg]) (by omega)).trans (h6 t p t1 ht hp).1
  · exact (r.c (c := 59) (p := 6680) (n := 3216) (by simp [hseg]) (by omega)).trans (h6 t p t1 ht hp).2.1
  · exact (r.c (c := 60) (p := 9896) (n := 3216) (by simp [hseg]) (by omega)).trans (h6 t p t1 ht hp).2.2
  · exact (r.c (c := 55) (p := 88) (n := 4) (by simp [hseg]) (by omega)).trans (h7 h hh)
  · exact (r.c (c := 61) (p := 13112) (n := 804) (by simp [hseg]) (by omega)).trans (h8 t h ht hh)
  · exact (r.1.2.2.1).trans h9
  · exact (r.c (c := 62) (p := 13916) (n := 201) (by simp [hseg]) (by omega)).trans (h10 t ht)
  · exact (r.c (c := 86) (p := 208) (n := 20) (by simp [hseg]) (by omega)).trans (h11 k hk).1
  · exact (r.c (c := 85) (p := 188) (n := 20) (by simp [hseg]) (by omega)).trans (h11 k hk).2.1
  · exact (r.c (c := 87) (p := 228) (n := 20) (by simp [hseg]) (by omega)).trans (h11 k hk).2.2
theorem RB.r {a : hw_T} {B : Nat → Int32} {z : Int64} {m : hx_M} (r : RB B z m) (w : WF 200 a) (h : MW a m) : MW a (MIr B z) := by
  have hn := w.n
  have hs := w.s
  have hft := w.ft
  obtain ⟨h1, h2, h3, h4, h5, h6, h7, h8, h9, h10, h11⟩ := h
  refine ⟨⟨?_, ?_, ?_⟩, ⟨?_, ?_, ?_, ?_⟩, fun p hp => ⟨?_, ?_, ?_, ?_, ?_⟩, fun k hk => ?_, fun t p ht hp => ?_, fun t p t1 ht hp => ⟨?_, ?_, ?_⟩, fun h hh => ?_, fun t h ht hh => ?_, ?_, fun t ht => ?_, fun k hk => ⟨?_, ?_, ?_⟩⟩
  · exact ((r.1.1).symm).trans h1.1
  · exact ((r.1.2.1).symm).trans h1.2.1
  · exact ((r.1.2.2.2.2.2.2).symm).trans h1.2.2
  · exact ((r.1.2.2.2.1).symm).trans h2.1
  · exact ((r.1.2.2.2.2.1).symm).trans h2.2.1
  · exact ((r.1.2.2.2.2.2.1).symm).trans h2.2.2.1
  · exact ((r.2.1).symm).trans h2.2.2.2
  · exact ((r.c (c := 50) (p := 8) (n := 16) (by simp [hseg]) (by omega))).symm.trans (h3 p hp).1
  · exact ((r.c (c := 51) (p := 24) (n := 16) (by simp [hseg]) (by omega))).symm.trans (h3 p hp).2.1
  · exact ((r.c (c := 54) (p := 72) (n := 16) (by simp [hseg]) (by omega))).symm.trans (h3 p hp).2.2.1
  · exact ((r.c (c := 52) (p := 40) (n := 16) (by simp [hseg]) (by omega))).symm.trans (h3 p hp).2.2.2.1
  · exact ((r.c (c := 53) (p := 56) (n := 16) (by simp [hseg]) (by omega))).symm.trans (h3 p hp).2.2.2.2
  · exact ((r.c (c := 56) (p := 92) (n := 96) (by simp [hseg]) (by omega))).symm.trans (h4 k hk)
  · exact ((r.c (c := 57) (p := 248) (n := 3216) (by simp [hseg]) (by omega))).symm.trans (h5 t p ht hp)
  · exact ((r.c (c := 58) (p := 3464) (n := 3216) (by simp [hseg]) (by omega))).symm.trans (h6 t p t1 ht hp).1
  · exact ((r.c (c := 59) (p := 6680) (n := 3216) (by simp [hseg]) (by omega))).symm.trans (h6 t p t1 ht hp).2.1
  · exact ((r.c (c := 60) (p := 9896) (n := 3216) (by simp [hseg]) (by omega))).symm.trans (h6 t p t1 ht hp).2.2
  · exact ((r.c (c := 55) (p := 88) (n := 4) (by simp [hseg]) (by omega))).symm.trans (h7 h hh)
  · exact ((r.c (c := 61) (p := 13112) (n := 804) (by simp [hseg]) (by omega))).symm.trans (h8 t h ht hh)
  · exact ((r.1.2.2.1).symm).trans h9
  · exact ((r.c (c := 62) (p := 13916) (n := 201) (by simp [hseg]) (by omega))).symm.trans (h10 t ht)
  · exact ((r.c (c := 86) (p := 208) (n := 20) (by simp [hseg]) (by omega))).symm.trans (h11 k hk).1
  · exact ((r.c (c := 85) (p := 188) (n := 20) (by simp [hseg]) (by omega))).symm.trans (h11 k hk).2.1
  · exact ((r.c (c := 87) (p := 228) (n := 20) (by simp [hseg]) (by omega))).symm.trans (h11 k hk).2.2
theorem fetch16 {Λ : hx_L} {ν : hx_M} {base : Nat} {K : hx_M → Prop} (M : mF Λ) (hb : base ≤ 30000) (e66 : ν.1 49 66 = Int32.ofNat (base + 8)) (k : ∀ m, FE base 14117 [(62, 13916, 201), (61, 13112, 804), (60, 9896, 3216), (59, 6680, 3216), (58, 3464, 3216), (57, 248, 3216), (87, 228, 20), (86, 208, 20), (85, 188, 20), (56, 92, 96), (55, 88, 4), (54, 72, 16), (53, 56, 16), (52, 40, 16), (51, 24, 16), (50, 8, 16)] ν m → K m) :
    wX12_fetches Λ ν 50 16 (fun m0 => wX12_fetches Λ m0 51 16 (fun m1 => wX12_fetches Λ m1 52 16 (fun m2 => wX12_fetches Λ m2 53 16 (fun m3 => wX12_fetches Λ m3 54 16 (fun m4 => wX12_fetches Λ m4 55 4 (fun m5 => wX12_fetches Λ m5 56 96 (fun m6 => wX12_fetches Λ m6 85 20 (fun m7 => wX12_fetches Λ m7 86 20 (fun m8 => wX12_fetches Λ m8 87 20 (fun m9 => wX12_fetches Λ m9 57 3216 (fun m10 => wX12_fetches Λ m10 58 3216 (fun m11 => wX12_fetches Λ m11 59 3216 (fun m12 => wX12_fetches Λ m12 60 3216 (fun m13 => wX12_fetches Λ m13 61 804 (fun m14 => wX12_fetches Λ m14 62 201 (fun m15 => K m15)))))))))))))))) := by
  have h0 : FE base 8 [] ν ν := ⟨fun _ _ _ => rfl, fun _ _ => rfl, e66, rfl, fun s hs => by simp at hs⟩
  refine h0.fetch (c := 50) (N := 16) (n := 16) (mF_S50 M) (by omega) (by omega) (by omega) (by omega) (by omega) (by simp) (by simp) (fun m0 h1 => ?_)
  refine h1.fetch (c := 51) (N := 16) (n := 16) (mF_S51 M) (by omega) (by omega) (by omega) (by omega) (by omega) (by simp) (by simp) (fun m1 h2 => ?_)
  refine h2.fetch (c := 52) (N := 16) (n := 16) (mF_S52 M) (by omega) (by omega) (by omega) (by omega) (by omega) (by simp) (by simp) (fun m2 h3 => ?_)
  refine h3.fetch (c := 53) (N := 16) (n := 16) (mF_S53 M) (by omega) (by omega) (by omega) (by omega) (by omega) (by simp) (by simp) (fun m3 h4 => ?_)
  refine h4.fetch (c := 54) (N := 16) (n := 16) (mF_S54 M) (by omega) (by omega) (by omega) (by omega) (by omega) (by simp) (by simp) (fun m4 h5 => ?_)
  refine h5.fetch (c := 55) (N := 4) (n := 4) (mF_S55 M) (by omega) (by omega) (by omega) (by omega) (by omega) (by simp) (by simp) (fun m5 h6 => ?_)
  refine h6.fetch (c := 56) (N := 96) (n := 96) (mF_S56 M) (by omega) (by omega) (by omega) (by omega) (by omega) (by simp) (by simp) (fun m6 h7 => ?_)
  refine h7.fetch (c := 85) (N := 20) (n := 20) (mF_S85 M) (by omega) (by omega) (by omega) (by omega) (by omega) (by simp) (by simp) (fun m7 h8 => ?_)
  refine h8.fetch (c := 86) (N := 20) (n := 20) (mF_S86 M) (by omega) (by omega) (by omega) (by omega) (by omega) (by simp) (by simp) (fun m8 h9 => ?_)
  refine h9.fetch (c := 87) (N := 20) (n := 20) (mF_S87 M) (by omega) (by omega) (by omega) (by omega) (by omega) (by simp) (by simp) (fun m9 h10 => ?_)
  refine h10.fetch (c := 57) (N := 4816) (n := 3216) (mF_S57 M) (by omega) (by omega) (by omega) (by omega) (by omega) (by simp) (by simp) (fun m10 h11 => ?_)
  refine h11.fetch (c := 58) (N := 4816) (n := 3216) (mF_S58 M) (by omega) (by omega) (by omega) (by omega) (by omega) (by simp) (by simp) (fun m11 h12 => ?_)
  refine h12.fetch (c := 59) (N := 4816) (n := 3216) (mF_S59 M) (by omega) (by omega) (by omega) (by omega) (by omega) (by simp) (by simp) (fun m12 h13 => ?_)
  refine h13.fetch (c := 60) (N := 4816) (n := 3216) (mF_S60 M) (by omega) (by omega) (by omega) (by omega) (by omega) (by simp) (by simp) (fun m13 h14 => ?_)
  refine h14.fetch (c := 61) (N := 1204) (n := 804) (mF_S61 M) (by omega) (by omega) (by omega) (by omega) (by omega) (by simp) (by simp) (fun m14 h15 => ?_)
  refine h15.fetch (c := 62) (N := 301) (n := 201) (mF_S62 M) (by omega) (by omega) (by omega) (by omega) (by omega) (by simp) (by simp) (fun m15 h16 => ?_)
  exact k _ h16
theorem op_back (Λ : hx_L) (μ : hx_M) (a1 : Int32) (h : hI Λ μ) : wL_33 Λ μ a1 hI := by
  obtain ⟨hF, hM, h15, a, ls, fo, is, w, hc, hm, ht, hl, hi⟩ := id h
  obtain ⟨⟨i1, i2, i3, i4⟩, hbd⟩ := id hi
  unfold wL_33 wX11_back
  rw [i2]
  by_cases h1 : ∃ i, i < is.length ∧ a1 = Int32.ofNat i
  · have h1' := (n32_pred (by omega)).mpr h1
    obtain ⟨i, hil, rfl⟩ := h1
    have hib : is[i]? = some is[i] := List.getElem?_eq_getElem hil
    generalize is[i] = b at hib
    obtain ⟨wb, mb, d, d1, d2, d3, d4, d5, d6⟩ := i4 i b hib
    have hbs := wb.s
    have v3 : vp_in (Int32.ofNat i) 3 := n32_in (by omega) (by omega)
    refine t_withinY h1' (seln1 ⟨v3, fun kk hk => ?_, fun hk => ?_⟩)
    · rw [n32_nat (by omega), d3] at hk
      obtain rfl : 7 + d = kk := by simpa using hk
      refine copyW (dx := 0) (dy := d) (IS0 hF) d4 (by omega) h15 d5 d6 wb (by omega) (Nat.le_refl _) (by omega) (by omega) (fun m1 g1 g2 c1 => ?_)
      have k1 : keepC μ m1 := fun k hk => g1 k (by omega)
      show wX12_back Λ m1 (Int32.ofNat i) (fun q m => 1 = q ∧ hI Λ m)
      unfold wX12_back
      have e65 : m1.1 49 65 = Int32.ofNat is.length := by rw [k1.a 49 (by omega)]; exact i3
      have eb : 15000 * Int32.ofNat i = Int32.ofNat (15000 * i) := by rw [← n32_mul]; rfl
      rw [e65, eb, n32_nat (by omega)]
      refine t_isInY h1' (seln1 ⟨v3, ?_⟩)
      have x0 : FE (15000 * i) 0 [] (hx_sL (hx_sI m1 49 66 (Int32.ofNat (15000 * i))) 49 6 (m1.2 91 i)) (hx_sL (hx_sI m1 49 66 (Int32.ofNat (15000 * i))) 49 6 (m1.2 91 i)) := ⟨fun _ _ _ => rfl, fun _ _ => rfl, by rw [hm_sL1, sIe]; rfl, rfl, fun s hs => by simp at hs⟩
      refine x0.fetch (c := 92) (N := 8) (n := 8) (mF_S92 hM) (by omega) (by omega) (by omega) (by omega) (by omega) (by simp) (by simp) (fun m2 y1 => ?_)
      obtain ⟨y1, y2, y3, y4, y5⟩ := y1
      have B92 : ∀ j, j < 8 → m2.1 92 j = μ.1 90 (15000 * i + j) := fun j hj => by
        have := y5 (92, 0, 8) List.mem_cons_self j hj
        rw [this, hm_sL1, sIk (by omega), k1.a 90 (by omega)]
        show μ.1 90 (15000 * i + 0 + j) = _
        rw [Nat.add_zero]
      have z0 : (0 : Int32).toNatClampNeg = 0 := rfl
      have z1 : (1 : Int32).toNatClampNeg = 1 := rfl
      have z2 : (2 : Int32).toNatClampNeg = 2 := rfl
      have z3 : (3 : Int32).toNatClampNeg = 3 := rfl
      have z4 : (4 : Int32).toNatClampNeg = 4 := rfl
      have z5 : (5 : Int32).toNatClampNeg = 5 := rfl
      have z6 : (6 : Int32).toNatClampNeg = 6 := rfl
      rw [z0, z1, z2, z3, z4, z5, z6, B92 0 (by omega), B92 1 (by omega), B92 2 (by omega)]
      refine ⟨by unfold vp_in; decide, by unfold vp_in; decide, by unfold vp_in; decide, ?_⟩
      intro m9 e9
      have f9 : m9.1 92 = m2.1 92 := by rw [e9, sIk (by omega), sIk (by omega), sIk (by omega)]
      rw [f9, B92 3 (by omega), B92 4 (by omega), B92 5 (by omega)]
      refine ⟨by unfold vp_in; decide, by unfold vp_in; decide, by unfold vp_in; decide, ?_⟩
      intro m13 e13
      have f13 : m13.1 92 = m2.1 92 := by rw [e13, sIk (by omega), sIk (by omega), sIk (by omega)]; exact f9
      rw [f13, B92 6 (by omega)]
      refine ⟨by unfold vp_in; decide, ?_⟩
      generalize hν : hx_sI m13 49 59 (μ.1 90 (15000 * i + 6)) = ν
      have n1 : ∀ k, k ≠ 49 → ν.1 k = m2.1 k := fun k hk => by rw [← hν, sIk hk, e13, sIk hk, sIk hk, sIk hk, e9, sIk hk, sIk hk, sIk hk]
      have n2 : ∀ j, j ≠ 0 → j ≠ 1 → j ≠ 2 → j ≠ 3 → j ≠ 4 → j ≠ 5 → j ≠ 59 → ν.1 49 j = m2.1 49 j := fun j j0 j1 j2 j3 j4 j5 j59 => by rw [← hν, sIj j59, e13, sIj j5, sIj j4, sIj j3, e9, sIj j2, sIj j1, sIj j0]
      have n3 : ν.2 = m2.2 := by rw [← hν, e13, e9]; rfl
      have n4 : ν.1 49 0 = μ.1 90 (15000 * i + 0) ∧ ν.1 49 1 = μ.1 90 (15000 * i + 1) ∧ ν.1 49 2 = μ.1 90 (15000 * i + 2) ∧ ν.1 49 3 = μ.1 90 (15000 * i + 3) ∧ ν.1 49 4 = μ.1 90 (15000 * i + 4) ∧ ν.1 49 5 = μ.1 90 (15000 * i + 5) ∧ ν.1 49 59 = μ.1 90 (15000 * i + 6) := by
        rw [← hν]
        refine ⟨?_, ?_, ?_, ?_, ?_, ?_, sIe⟩
        · rw [sIj (by omega), e13, sIj (by omega), sIj (by omega), sIj (by omega), e9, sIj (by omega), sIj (by omega), sIe]
        · rw [sIj (by omega), e13, sIj (by omega), sIj (by omega), sIj (by omega), e9, sIj (by omega), sIe]
        · rw [sIj (by omega), e13, sIj (by omega), sIj (by omega), sIj (by omega), e9, sIe]
        · rw [sIj (by omega), e13, sIj (by omega), sIj (by omega), sIe]
        · rw [sIj (by omega), e13, sIj (by omega), sIe]
        · rw [sIj (by omega), e13, sIe]
      refine fetch16 hM (base := 15000 * i) (by omega) (by rw [n2 66 (by omega) (by omega) (by omega) (by omega) (by omega) (by omega) (by omega)]; exact y3) (fun mf xf => ?_)
      obtain ⟨x1, x2, x3, x4, x5⟩ := xf
      have cell : ∀ k, k ≠ 49 → ¬ (50 ≤ k ∧ k ≤ 62) → ¬ (85 ≤ k ∧ k ≤ 87) → k ≠ 92 → mf.1 k = m1.1 k := fun k h49 h50 h85 h92 => by
        rw [x1 k h49 (fun s hs z => by have := seg_rng s (List.mem_reverse.mp hs); omega), n1 k h49, y1 k h49 (fun s hs z => h92 (by rw [← z, List.mem_singleton.mp hs])), hm_sL1, sIk h49]
      have l2 : mf.2 = (hx_sL (hx_sI m1 49 66 (Int32.ofNat (15000 * i))) 49 6 (m1.2 91 i)).2 := by rw [x4, n3, y4]
      have k2 : keepM m1 mf := by
        refine ⟨fun k hk => ⟨cell k (by omega) (by omega) (by omega) (by omega), ?_⟩, fun j hj => ?_⟩
        · rw [l2]; funext q; rw [hm_sLv, if_neg (by omega)]; rfl
        · rw [x2 j (by simp at hj; omega), n2 j (by simp at hj; omega) (by simp at hj; omega) (by simp at hj; omega) (by simp at hj; omega) (by simp at hj; omega) (by simp at hj; omega) (by simp at hj; omega), y2 j (by simp at hj; omega), hm_sL1, sIj (by simp at hj; omega)]
      have rb : RB (fun j => μ.1 90 (15000 * i + j)) (μ.2 91 i) mf := by
        refine ⟨?_, ?_, fun s hs q hq => ?_⟩
        · rw [x2 0 (by omega), x2 1 (by omega), x2 2 (by omega), x2 3 (by omega), x2 4 (by omega), x2 5 (by omega), x2 59 (by omega)]
          exact n4
        · rw [l2, hm_sLv, if_pos ⟨rfl, rfl⟩, k1.b 91 (by omega)]
        · have := x5 s (List.mem_reverse.mp hs) q hq
          rw [this, n1 90 (by omega), y1 90 (by omega) (fun s hs z => by rw [List.mem_singleton.mp hs] at z; simp at z), hm_sL1, sIk (by omega), k1.a 90 (by omega), Nat.add_assoc]
      exact ⟨rfl, hI.q (a := a) hF hM h15 ht hl hi k1 k2 wb (c1.kM k2) (rb.m wb mb)⟩
    · rw [n32_nat (by omega), d3] at hk
      simp at hk
  · have h1' : ¬ (0 ≤ a1 ∧ a1 ≤ Int32.ofNat is.length - 1) := fun z => h1 ((n32_pred (by omega)).mp z)
    refine t_withinN h1' (seln0 ?_)
    show wX12_back Λ μ a1 (fun q m => 0 = q ∧ hI Λ m)
    unfold wX12_back
    rw [i3]
    exact t_isInN h1' (seln0 ⟨rfl, h⟩)
