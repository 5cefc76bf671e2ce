/-! layer 2: image -/
/-- a row laid -/
def laid (ν : hx_M) : Nat → Int32 := fun j => if j < 8 then ν.1 92 (j - 0) else if j < 24 then ν.1 50 (j - 8) else if j < 40 then ν.1 51 (j - 24) else if j < 56 then ν.1 52 (j - 40) else if j < 72 then ν.1 53 (j - 56) else if j < 88 then ν.1 54 (j - 72) else if j < 92 then ν.1 55 (j - 88) else if j < 188 then ν.1 56 (j - 92) else if j < 208 then ν.1 85 (j - 188) else if j < 228 then ν.1 86 (j - 208) else if j < 248 then ν.1 87 (j - 228) else if j < 3464 then ν.1 57 (j - 248) else if j < 6680 then ν.1 58 (j - 3464) else if j < 9896 then ν.1 59 (j - 6680) else if j < 13112 then ν.1 60 (j - 9896) else if j < 13916 then ν.1 61 (j - 13112) else ν.1 62 (j - 13916)
theorem laid_92 {ν : hx_M} {i : Nat} (hi : i < 8) : laid ν (0 + i) = ν.1 92 i := by
  unfold laid
  rw [if_pos (show 0 + i < 8 by omega), show 0 + i - 0 = i by omega]
theorem laid_50 {ν : hx_M} {i : Nat} (hi : i < 16) : laid ν (8 + i) = ν.1 50 i := by
  unfold laid
  rw [if_neg (show ¬ 8 + i < 8 by omega), if_pos (show 8 + i < 24 by omega), show 8 + i - 8 = i by omega]
theorem laid_51 {ν : hx_M} {i : Nat} (hi : i < 16) : laid ν (24 + i) = ν.1 51 i := by
  unfold laid
  rw [if_neg (show ¬ 24 + i < 8 by omega), if_neg (show ¬ 24 + i < 24 by omega), if_pos (show 24 + i < 40 by omega), show 24 + i - 24 = i by omega]
theorem laid_52 {ν : hx_M} {i : Nat} (hi : i < 16) : laid ν (40 + i) = ν.1 52 i := by
  unfold laid
  rw [if_neg (show ¬ 40 + i < 8 by omega), if_neg (show ¬ 40 + i < 24 by omega), if_neg (show ¬ 40 + i < 40 by omega), if_pos (show 40 + i < 56 by omega), show 40 + i - 40 = i by omega]
theorem laid_53 {ν : hx_M} {i : Nat} (hi : i < 16) : laid ν (56 + i) = ν.1 53 i := by
  unfold laid
  rw [if_neg (show ¬ 56 + i < 8 by omega), if_neg (show ¬ 56 + i < 24 by omega), if_neg (show ¬ 56 + i < 40 by omega), if_neg (show ¬ 56 + i < 56 by omega), if_pos (show 56 + i < 72 by omega), show 56 + i - 56 = i by omega]
theorem laid_54 {ν : hx_M} {i : Nat} (hi : i < 16) : laid ν (72 + i) = ν.1 54 i := by
  unfold laid
  rw [if_neg (show ¬ 72 + i < 8 by omega), if_neg (show ¬ 72 + i < 24 by omega), if_neg (show ¬ 72 + i < 40 by omega), if_neg (show ¬ 72 + i < 56 by omega), if_neg (show ¬ 72 + i < 72 by omega), if_pos (show 72 + i < 88 by omega), show 72 + i - 72 = i by omega]
theorem laid_55 {ν : hx_M} {i : Nat} (hi : i < 4) : laid ν (88 + i) = ν.1 55 i := by
  unfold laid
  rw [if_neg (show ¬ 88 + i < 8 by omega), if_neg (show ¬ 88 + i < 24 by omega), if_neg (show ¬ 88 + i < 40 by omega), if_neg (show ¬ 88 + i < 56 by omega), if_neg (show ¬ 88 + i < 72 by omega), if_neg (show ¬ 88 + i < 88 by omega), if_pos (show 88 + i < 92 by omega), show 88 + i - 88 = i by omega]
theorem laid_56 {ν : hx_M} {i : Nat} (hi : i < 96) : laid ν (92 + i) = ν.1 56 i := by
  unfold laid
  rw [if_neg (show ¬ 92 + i < 8 by omega), if_neg (show ¬ 92 + i < 24 by omega), if_neg (show ¬ 92 + i < 40 by omega), if_neg (show ¬ 92 + i < 56 by omega), if_neg (show ¬ 92 + i < 72 by omega), if_neg (show ¬ 92 + i < 88 by omega), if_neg (show ¬ 92 + i < 92 by omega), if_pos (show 92 + i < 188 by omega), show 92 + i - 92 = i by omega]
theorem laid_85 {ν : hx_M} {i : Nat} (hi : i < 20) : laid ν (188 + i) = ν.1 85 i := by
  unfold laid
  rw [if_neg (show ¬ 188 + i < 8 by omega), if_neg (show ¬ 188 + i < 24 by omega), if_neg (show ¬ 188 + i < 40 by omega), if_neg (show ¬ 188 + i < 56 by omega), if_neg (show ¬ 188 + i < 72 by omega), if_neg (show ¬ 188 + i < 88 by omega), if_neg (show ¬ 188 + i < 92 by omega), if_neg (show ¬ 188 + i < 188 by omega), if_pos (show 188 + i < 208 by omega), show 188 + i - 188 = i by omega]
theorem laid_86 {ν : hx_M} {i : Nat} (hi : i < 20) : laid ν (208 + i) = ν.1 86 i := by
  unfold laid
  rw [if_neg (show ¬ 208 + i < 8 by omega), if_neg (show ¬ 208 + i < 24 by omega), if_neg (show ¬ 208 + i < 40 by omega), if_neg (show ¬ 208 + i < 56 by omega), if_neg (show ¬ 208 + i < 72 by omega), if_neg (show ¬ 208 + i < 88 by omega), if_neg (show ¬ 208 + i < 92 by omega), if_neg (show ¬ 208 + i < 188 by omega), if_neg (show ¬ 208 + i < 208 by omega), if_pos (show 208 + i < 228 by omega), show 208 + i - 208 = i by omega]
theorem laid_87 {ν : hx_M} {i : Nat} (hi : i < 20) : laid ν (228 + i) = ν.1 87 i := by
  unfold laid
  rw [if_neg (show ¬ 228 + i < 8 by omega), if_neg (show ¬ 228 + i < 24 by omega), if_neg (show ¬ 228 + i < 40 by omega), if_neg (show ¬ 228 + i < 56 by omega), if_neg (show ¬ 228 + i < 72 by omega), if_neg (show ¬ 228 + i < 88 by omega), if_neg (show ¬ 228 + i < 92 by omega), if_neg (show ¬ 228 + i < 188 by omega), if_neg (show ¬ 228 + i < 208 by omega), if_neg (show ¬ 228 + i < 228 by omega), if_pos (show 228 + i < 248 by omega), show 228 + i - 228 = i by omega]
theorem laid_57 {ν : hx_M} {i : Nat} (hi : i < 3216) : laid ν (248 + i) = ν.1 57 i := by
  unfold laid
  rw [if_neg (show ¬ 248 + i < 8 by omega), if_neg (show ¬ 248 + i < 24 by omega), if_neg (show ¬ 248 + i < 40 by omega), if_neg (show ¬ 248 + i < 56 by omega), if_neg (show ¬ 248 + i < 72 by omega), if_neg (show ¬ 248 + i < 88 by omega), if_neg (show ¬ 248 + i < 92 by omega), if_neg (show ¬ 248 + i < 188 by omega), if_neg (show ¬ 248 + i < 208 by omega), if_neg (show ¬ 248 + i < 228 by omega), if_neg (show ¬ 248 + i < 248 by omega), if_pos (show 248 + i < 3464 by omega), show 248 + i - 248 = i by omega]
theorem laid_58 {ν : hx_M} {i : Nat} (hi : i < 3216) : laid ν (3464 + i) = ν.1 58 i := by
  unfold laid
  rw [if_neg (show ¬ 3464 + i < 8 by omega), if_neg (show ¬ 3464 + i < 24 by omega), if_neg (show ¬ 3464 + i < 40 by omega), if_neg (show ¬ 3464 + i < 56 by omega), if_neg (show ¬ 3464 + i < 72 by omega), if_neg (show ¬ 3464 + i < 88 by omega), if_neg (show ¬ 3464 + i < 92 by omega), if_neg (show ¬ 3464 + i < 188 by omega), if_neg (show ¬ 3464 + i < 208 by omega), if_neg (show ¬ 3464 + i < 228 by omega), if_neg (show ¬ 3464 + i < 248 by omega), if_neg (show ¬ 3464 + i < 3464 by omega), if_pos (show 3464 + i < 6680 by omega), show 3464 + i - 3464 = i by omega]
theorem laid_59 {ν : hx_M} {i : Nat} (hi : i < 3216) : laid ν (6680 + i) = ν.1 59 i := by
  unfold laid
  rw [if_neg (show ¬ 6680 + i < 8 by omega), if_neg (show ¬ 6680 + i < 24 by omega), if_neg (show ¬ 6680 + i < 40 by omega), if_neg (show ¬ 6680 + i < 56 by omega), if_neg (show ¬ 6680 + i < 72 by omega), if_neg (show ¬ 6680 + i < 88 by omega), if_neg (show ¬ 6680 + i < 92 by omega), if_neg (show ¬ 6680 + i < 188 by omega), if_neg (show ¬ 6680 + i < 208 by omega), if_neg (show ¬ 6680 + i < 228 by omega), if_neg (show ¬ 6680 + i < 248 by omega), if_neg (show ¬ 6680 + i < 3464 by omega), if_neg (show ¬ 6680 + i < 6680 by omega), if_pos (show 6680 + i < 9896 by omega), show 6680 + i - 6680 = i by omega]
theorem laid_60 {ν : hx_M} {i : Nat} (hi : i < 3216) : laid ν (9896 + i) = ν.1 60 i := by
  unfold laid
  rw [if_neg (show ¬ 9896 + i < 8 by omega), if_neg (show ¬ 9896 + i < 24 by omega), if_neg (show ¬ 9896 + i < 40 by omega), if_neg (show ¬ 9896 + i < 56 by omega), if_neg (show ¬ 9896 + i < 72 by omega), if_neg (show ¬ 9896 + i < 88 by omega), if_neg (show ¬ 9896 + i < 92 by omega), if_neg (show ¬ 9896 + i < 188 by omega), if_neg (show ¬ 9896 + i < 208 by omega), if_neg (show ¬ 9896 + i < 228 by omega), if_neg (show ¬ 9896 + i < 248 by omega), if_neg (show ¬ 9896 + i < 3464 by omega), if_neg (show ¬ 9896 + i < 6680 by omega), if_neg (show ¬ 9896 + i < 9896 by omega), if_pos (show 9896 + i < 13112 by omega), show 9896 + i - 9896 = i by omega]
theorem laid_61 {ν : hx_M} {i : Nat} (hi : i < 804) : laid ν (13112 + i) = ν.1 61 i := by
  unfold laid
  rw [if_neg (show ¬ 13112 + i < 8 by omega), if_neg (show ¬ 13112 + i < 24 by omega), if_neg (show ¬ 13112 + i < 40 by omega), if_neg (show ¬ 13112 + i < 56 by omega), if_neg (show ¬ 13112 + i < 72 by omega), if_neg (show ¬ 13112 + i < 88 by omega), if_neg (show ¬ 13112 + i < 92 by omega), if_neg (show ¬ 13112 + i < 188 by omega), if_neg (show ¬ 13112 + i < 208 by omega), if_neg (show ¬ 13112 + i < 228 by omega), if_neg (show ¬ 13112 + i < 248 by omega), if_neg (show ¬ 13112 + i < 3464 by omega), if_neg (show ¬ 13112 + i < 6680 by omega), if_neg (show ¬ 13112 + i < 9896 by omega), if_neg (show ¬ 13112 + i < 13112 by omega), if_pos (show 13112 + i < 13916 by omega), show 13112 + i - 13112 = i by omega]
theorem laid_62 {ν : hx_M} {i : Nat} (hi : i < 201) : laid ν (13916 + i) = ν.1 62 i := by
  unfold laid
  rw [if_neg (show ¬ 13916 + i < 8 by omega), if_neg (show ¬ 13916 + i < 24 by omega), if_neg (show ¬ 13916 + i < 40 by omega), if_neg (show ¬ 13916 + i < 56 by omega), if_neg (show ¬ 13916 + i < 72 by omega), if_neg (show ¬ 13916 + i < 88 by omega), if_neg (show ¬ 13916 + i < 92 by omega), if_neg (show ¬ 13916 + i < 188 by omega), if_neg (show ¬ 13916 + i < 208 by omega), if_neg (show ¬ 13916 + i < 228 by omega), if_neg (show ¬ 13916 + i < 248 by omega), if_neg (show ¬ 13916 + i < 3464 by omega), if_neg (show ¬ 13916 + i < 6680 by omega), if_neg (show ¬ 13916 + i < 9896 by omega), if_neg (show ¬ 13916 + i < 13112 by omega), if_neg (show ¬ 13916 + i < 13916 by omega), show 13916 + i - 13916 = i by omega]
theorem lays17 {Λ : hx_L} {ν : hx_M} {base : Nat} {K : hx_M → Prop} (M : mF Λ) (hb : base ≤ 30000) (e66 : ν.1 49 66 = Int32.ofNat base) (k : ∀ m, LDS base 14117 (laid ν) ν m → K m) :
    wX12_lays Λ ν 92 8 (fun m0 => wX12_lays Λ m0 50 16 (fun m1 => wX12_lays Λ m1 51 16 (fun m2 => wX12_lays Λ m2 52 16 (fun m3 => wX12_lays Λ m3 53 16 (fun m4 => wX12_lays Λ m4 54 16 (fun m5 => wX12_lays Λ m5 55 4 (fun m6 => wX12_lays Λ m6 56 96 (fun m7 => wX12_lays Λ m7 85 20 (fun m8 => wX12_lays Λ m8 86 20 (fun m9 => wX12_lays Λ m9 87 20 (fun m10 => wX12_lays Λ m10 57 3216 (fun m11 => wX12_lays Λ m11 58 3216 (fun m12 => wX12_lays Λ m12 59 3216 (fun m13 => wX12_lays Λ m13 60 3216 (fun m14 => wX12_lays Λ m14 61 804 (fun m15 => wX12_lays Λ m15 62 201 (fun m16 => K m16))))))))))))))))) := by
  have h0 : LDS base 0 (laid ν) ν ν := ⟨fun _ _ _ => rfl, fun _ _ => rfl, e66, rfl, fun j hj => by omega, fun _ _ => rfl⟩
  refine h0.lay (c := 92) (N := 8) (n := 8) (mF_S92 M) (by omega) (by omega) (by omega) (by omega) (by omega) (fun i hi => laid_92 hi) (fun m0 h1 => ?_)
  refine h1.lay (c := 50) (N := 16) (n := 16) (mF_S50 M) (by omega) (by omega) (by omega) (by omega) (by omega) (fun i hi => laid_50 hi) (fun m1 h2 => ?_)
  refine h2.lay (c := 51) (N := 16) (n := 16) (mF_S51 M) (by omega) (by omega) (by omega) (by omega) (by omega) (fun i hi => laid_51 hi) (fun m2 h3 => ?_)
  refine h3.lay (c := 52) (N := 16) (n := 16) (mF_S52 M) (by omega) (by omega) (by omega) (by omega) (by omega) (fun i hi => laid_52 hi) (fun m3 h4 => ?_)
  refine h4.lay (c := 53) (N := 16) (n := 16) (mF_S53 M) (by omega) (by omega) (by omega) (by omega) (by omega) (fun i hi => laid_53 hi) (fun m4 h5 => ?_)
  refine h5.lay (c := 54) (N := 16) (n := 16) (mF_S54 M) (by omega) (by omega) (by omega) (by omega) (by omega) (fun i hi => laid_54 hi) (fun m5 h6 => ?_)
  refine h6.lay (c := 55) (N := 4) (n := 4) (mF_S55 M) (by omega) (by omega) (by omega) (by omega) (by omega) (fun i hi => laid_55 hi) (fun m6 h7 => ?_)
  refine h7.lay (c := 56) (N := 96) (n := 96) (mF_S56 M) (by omega) (by omega) (by omega) (by omega) (by omega) (fun i hi => laid_56 hi) (fun m7 h8 => ?_)
  refine h8.lay (c := 85) (N := 20) (n := 20) (mF_S85 M) (by omega) (by omega) (by omega) (by omega) (by omega) (fun i hi => laid_85 hi) (fun m8 h9 => ?_)
  refine h9.lay (c := 86) (N := 20) (n := 20) (mF_S86 M) (by omega) (by omega) (by omega) (by omega) (by omega) (fun i hi => laid_86 hi) (fun m9 h10 => ?_)
  refine h10.lay (c := 87) (N := 20) (n := 20) (mF_S87 M) (by omega) (by omega) (by omega) (by omega) (by omega) (fun i hi => laid_87 hi) (fun m10 h11 => ?_)
  refine h11.lay (c := 57) (N := 4816) (n := 3216) (mF_S57 M) (by omega) (by omega) (by omega) (by omega) (by omega) (fun i hi => laid_57 hi) (fun m11 h12 => ?_)
  refine h12.lay (c := 58) (N := 4816) (n := 3216) (mF_S58 M) (by omega) (by omega) (by omega) (by omega) (by omega) (fun i hi => laid_58 hi) (fun m12 h13 => ?_)
  refine h13.lay (c := 59) (N := 4816) (n := 3216) (mF_S59 M) (by omega) (by omega) (by omega) (by omega) (by omega) (fun i hi => laid_59 hi) (fun m13 h14 => ?_)
  refine h14.lay (c := 60) (N := 4816) (n := 3216) (mF_S60 M) (by omega) (by omega) (by omega) (by omega) (by omega) (fun i hi => laid_60 hi) (fun m14 h15 => ?_)
  refine h15.lay (c := 61) (N := 1204) (n := 804) (mF_S61 M) (by omega) (by omega) (by omega) (by omega) (by omega) (fun i hi => laid_61 hi) (fun m15 h16 => ?_)
  refine h16.lay (c := 62) (N := 301) (n := 201) (mF_S62 M) (by omega) (by omega) (by omega) (by omega) (by omega) (fun i hi => laid_62 hi) (fun m16 h17 => ?_)
  exact k _ h17
theorem NB.is {d r : Nat} {Λ0 Λ : hx_L} {μ m : hx_M} (h : NB (7 + d) Λ0 μ 21 [(20, 1, 20), (19, 1, 20), (18, 1, 20), (17, 1, 4), (16, 1, 4), (15, 1, 12), (14, 0, 6), (13, 1, r), (12, 1, 4 * r), (11, 1, 16 * r), (10, 1, r), (9, 1, 16 * r), (8, 0, 3), (7, 1, 96), (6, 1, 16), (5, 1, 16), (4, 1, 16), (3, 1, 16), (2, 1, 16), (1, 0, 4), (0, 0, 10)] [(0, 11, 20), (0, 10, 19), (0, 9, 18), (0, 2, 14), (14, 4, 17), (14, 3, 16), (14, 2, 15), (14, 1, 8), (14, 0, 1), (0, 1, 8), (8, 5, 13), (8, 4, 12), (8, 3, 11), (8, 2, 10), (8, 1, 9), (0, 0, 1), (1, 6, 7), (1, 5, 6), (1, 4, 5), (1, 3, 4), (1, 2, 3), (1, 1, 2)] Λ m) : IS Λ d r := by
  refine ⟨fun q hq => ?_, fun q hq => ?_⟩
  · simp only [List.mem_cons, List.not_mem_nil, or_false] at hq
    rcases hq with rfl | rfl | rfl | rfl | rfl | rfl | rfl | rfl | rfl | rfl | rfl | rfl | rfl | rfl | rfl | rfl | rfl
    · have := h.s (c := 0) (t := 0) (n := 10) (by simp)
      rw [show 7 + d + 0 = 7 + d by omega] at this
      exact this
    · have := h.s (c := 1) (t := 0) (n := 4) (by simp)
      rw [show 7 + d + 1 = 8 + d by omega] at this
      exact this
    · have := h.s (c := 2) (t := 1) (n := 16) (by simp)
      rw [show 7 + d + 2 = 9 + d by omega] at this
      exact this
    · have := h.s (c := 3) (t := 1) (n := 16) (by simp)
      rw [show 7 + d + 3 = 10 + d by omega] at this
      exact this
    · have := h.s (c := 4) (t := 1) (n := 16) (by simp)
      rw [show 7 + d + 4 = 11 + d by omega] at this
      exact this
    · have := h.s (c := 5) (t := 1) (n := 16) (by simp)
      rw [show 7 + d + 5 = 12 + d by omega] at this
      exact this
    · have := h.s (c := 6) (t := 1) (n := 16) (by simp)
      rw [show 7 + d + 6 = 13 + d by omega] at this
      exact this
    · have := h.s (c := 7) (t := 1) (n := 96) (by simp)
      rw [show 7 + d + 7 = 14 + d by omega] at this
      exact this
    · have := h.s (c := 8) (t := 0) (n := 3) (by simp)
      rw [show 7 + d + 8 = 15 + d by omega] at this
      exact this
    · have := h.s (c := 9) (t := 1) (n := 16 * r) (by simp)
      rw [show 7 + d + 9 = 16 + d by omega] at this
      exact this
    · have := h.s (c := 10) (t := 1) (n := r) (by simp)
      rw [show 7 + d + 10 = 17 + d by omega] at this
      exact this
    · have := h.s (c := 11) (t := 1) (n := 16 * r) (by simp)
      rw [show 7 + d + 11 = 18 + d by omega] at this
      exact this
    · have := h.s (c := 12) (t := 1) (n := 4 * r) (by simp)
      rw [show 7 + d + 12 = 19 + d by omega] at this
      exact this
    · have := h.s (c := 13) (t := 1) (n := r) (by simp)
      rw [show 7 + d + 13 = 20 + d by omega] at this
      exact this
    · have := h.s (c := 18) (t := 1) (n := 20) (by simp)
      rw [show 7 + d + 18 = 25 + d by omega] at this
      exact this
    · have := h.s (c := 19) (t := 1) (n := 20) (by simp)
      rw [show 7 + d + 19 = 26 + d by omega] at this
      exact this
    · have := h.s (c := 20) (t := 1) (n := 20) (by simp)
      rw [show 7 + d + 20 = 27 + d by omega] at this
      exact this
  · simp only [List.mem_cons, List.not_mem_nil, or_false] at hq
    rcases hq with rfl | rfl | rfl | rfl | rfl | rfl | rfl | rfl | rfl | rfl | rfl | rfl | rfl | rfl | rfl | rfl
    · have := h.r (c := 0) (j := 0) (q := 1) (by simp)
      rw [show 7 + d + 0 = 7 + d by omega, show 7 + d + 1 = 8 + d by omega] at this
      exact this
    · have := h.r (c := 0) (j := 1) (q := 8) (by simp)
      rw [show 7 + d + 0 = 7 + d by omega, show 7 + d + 8 = 15 + d by omega] at this
      exact this
    · have := h.r (c := 0) (j := 9) (q := 18) (by simp)
      rw [show 7 + d + 0 = 7 + d by omega, show 7 + d + 18 = 25 + d by omega] at this
      exact this
    · have := h.r (c := 0) (j := 10) (q := 19) (by simp)
      rw [show 7 + d + 0 = 7 + d by omega, show 7 + d + 19 = 26 + d by omega] at this
      exact this
    · have := h.r (c := 0) (j := 11) (q := 20) (by simp)
      rw [show 7 + d + 0 = 7 + d by omega, show 7 + d + 20 = 27 + d by omega] at this
      exact this
    · have := h.r (c := 1) (j := 1) (q := 2) (by simp)
      rw [show 7 + d + 1 = 8 + d by omega, show 7 + d + 2 = 9 + d by omega] at this
      exact this
    · have := h.r (c := 1) (j := 2) (q := 3) (by simp)
      rw [show 7 + d + 1 = 8 + d by omega, show 7 + d + 3 = 10 + d by omega] at this
      exact this
    · have := h.r (c := 1) (j := 3) (q := 4) (by simp)
      rw [show 7 + d + 1 = 8 + d by omega, show 7 + d + 4 = 11 + d by omega] at this
      exact this
    · have := h.r (c := 1) (j := 4) (q := 5) (by simp)
      rw [show 7 + d + 1 = 8 + d by omega, show 7 + d + 5 = 12 + d by omega] at this
      exact this
    · have := h.r (c := 1) (j := 5) (q := 6) (by simp)
      rw [show 7 + d + 1 = 8 + d by omega, show 7 + d + 6 = 13 + d by omega] at this
      exact this
    · have := h.r (c := 1) (j := 6) (q := 7) (by simp)
      rw [show 7 + d + 1 = 8 + d by omega, show 7 + d + 7 = 14 + d by omega] at this
      exact this
    · have := h.r (c := 8) (j := 1) (q := 9) (by simp)
      rw [show 7 + d + 8 = 15 + d by omega, show 7 + d + 9 = 16 + d by omega] at this
      exact this
    · have := h.r (c := 8) (j := 2) (q := 10) (by simp)
      rw [show 7 + d + 8 = 15 + d by omega, show 7 + d + 10 = 17 + d by omega] at this
      exact this
    · have := h.r (c := 8) (j := 3) (q := 11) (by simp)
      rw [show 7 + d + 8 = 15 + d by omega, show 7 + d + 11 = 18 + d by omega] at this
      exact this
    · have := h.r (c := 8) (j := 4) (q := 12) (by simp)
      rw [show 7 + d + 8 = 15 + d by omega, show 7 + d + 12 = 19 + d by omega] at this
      exact this
    · have := h.r (c := 8) (j := 5) (q := 13) (by simp)
      rw [show 7 + d + 8 = 15 + d by omega, show 7 + d + 13 = 20 + d by omega] at this
      exact this
theorem IS.frL {Λ Λ' : hx_L} {d r : Nat} (h : IS Λ d r) (hs : ∀ c, 7 + d ≤ c → c ≤ 27 + d → Λ'.1 c = Λ.1 c ∧ ∀ j, Λ'.2.1 c j = Λ.2.1 c j) : IS Λ' d r := by
  refine ⟨fun q hq => ?_, fun q hq => ?_⟩
  · rw [← h.1 q hq]
    refine (hs _ ?_ ?_).1
    all_goals
      simp only [List.mem_cons, List.not_mem_nil, or_false] at hq
      rcases hq with rfl | rfl | rfl | rfl | rfl | rfl | rfl | rfl | rfl | rfl | rfl | rfl | rfl | rfl | rfl | rfl | rfl <;> simp only [] <;> omega
  · rw [← h.2 q hq]
    refine (hs _ ?_ ?_).2 _
    all_goals
      simp only [List.mem_cons, List.not_mem_nil, or_false] at hq
      rcases hq with rfl | rfl | rfl | rfl | rfl | rfl | rfl | rfl | rfl | rfl | rfl | rfl | rfl | rfl | rfl | rfl <;> simp only [] <;> omega
theorem LAWS.frL {Λ Λ' : hx_L} {μ : hx_M} {ls : List (List hl_R)} {fo : Option Nat} (h : LAWS Λ μ ls fo) (h6 : ∀ j, Λ'.2.1 6 j = Λ.2.1 6 j) (hs : ∀ c, 93 ≤ c → c < Λ.2.2 → Λ'.1 c = Λ.1 c ∧ ∀ j, Λ'.2.1 c j = Λ.2.1 c j) (hn : Λ.2.2 ≤ Λ'.2.2) : LAWS Λ' μ ls fo := by
  obtain ⟨h1, h2, h3, h4, sm, h7, h8, h9⟩ := h
  refine ⟨h1, h2, h3, h4, sm, h7, h8, fun k l hl => ?_⟩
  obtain ⟨a1, a2, ⟨lc, cc, len, b1, b2, b3, b4, b5, b6, b7, b8, b9, b10, b11⟩, c1⟩ := h9 k l hl
  exact ⟨a1, a2, ⟨lc, cc, len, by rw [h6]; exact b1, b2, by omega, b4, by omega, by rw [(hs lc b2 b3).1]; exact b6, by rw [(hs lc b2 b3).2]; exact b7, by rw [(hs cc b4 b5).1]; exact b8, b9, b10, b11⟩, c1⟩
theorem sR_eq {Λ : hx_L} {c j q i : Nat} : (hx_sR Λ c j q).2.1 c i = if i = j then some q else Λ.2.1 c i := by
  unfold hx_sR
  simp
theorem op_image (Λ : hx_L) (μ : hx_M) (h : hI Λ μ) : wL_32 Λ μ hI := by
  obtain ⟨hF, hM, h15, a, ls, fo, is, w, hc, hm, ht, hl, hi⟩ := id h
  obtain ⟨⟨i1, i2, i3, i4⟩, hbd⟩ := id hi
  have hs := w.s
  have hll := hl.1
  have h93 := hM.2.2
  unfold wL_32 wX11_image
  rw [i2]
  by_cases h3 : is.length = 3
  · refine selF (fun z => by have := (n32_lt (b := 3) (by omega) (by omega)).mp z; omega) ⟨hM, ?_⟩
    unfold wX12_image
    rw [i3, h3]
    exact selE rfl ⟨rfl, h⟩
  · refine selT ((n32_lt (b := 3) (by omega) (by omega)).mpr (by omega)) ?_
    obtain ⟨d, hd⟩ : ∃ d, Λ.2.2 = 7 + d := ⟨Λ.2.2 - 7, by omega⟩
    rw [hd]
    refine ⟨by unfold hx_big; omega, ?_⟩
    intro L0 eL0 m0 em0
    have n0 : NB (7 + d) Λ μ 1 [(0, 0, 10)] [] L0 m0 := by
      rw [eL0, em0]
      have b0 : NB (7 + d) Λ μ 0 [] [] Λ μ := ⟨hd, fun _ _ => ⟨rfl, fun _ => rfl⟩, fun _ _ => ⟨rfl, rfl⟩, fun q hq => by simp at hq, fun q hq => by simp at hq⟩
      exact b0.push (0, 10)
    have e7 : m0.1 7 7 = Int32.ofNat a.1.2.1 := by rw [(n0.2.2.1 7 (by omega)).1]; exact hc.s
    rw [e7, n32_add1]
    refine ⟨n0.c hF (by omega), worldI (by omega) (by omega) (by omega) n0 (fun L m1 nb v8 => ⟨nb.c hF (by omega), nb.s (c := 0) (by simp), ?_⟩)⟩
    have mem : ∀ c, c < 7 + d → m1.1 c = μ.1 c ∧ m1.2 c = μ.2 c := nb.2.2.1
    have cl : ∀ c, c < 7 + d → L.1 c = Λ.1 c ∧ ∀ j, L.2.1 c j = Λ.2.1 c j := nb.2.1
    have c1 : CW 0 a m1 := hc.fr fun k k1 k2 => mem _ (by omega)
    have isd : IS L d (a.1.2.1 + 1) := nb.is
    refine copyW (dx := d) (dy := 0) (rx := a.1.2.1 + 1) (ry := 301) isd (IS0 (nb.c hF (by omega))) (by omega) (by rw [show 15 + d = 7 + d + 8 by omega]; exact v8) (by rw [(mem 15 (by omega)).1]; exact h15) c1 w (Nat.le_refl _) (by omega) (by omega) (by omega) (fun m2 g1 g2 c2 => ?_)
    have mem2 : ∀ c, c < 7 + d → m2.1 c = μ.1 c ∧ m2.2 c = μ.2 c := fun c hc => ⟨(g1 c (by omega)).1.trans (mem c hc).1, (g1 c (by omega)).2.trans (mem c hc).2⟩
    have e14 : m2.1 0 14 = Int32.ofNat is.length := by rw [(mem2 0 (by omega)).1]; exact i2
    rw [e14, n32_nat (by omega), n32_add1]
    refine ⟨n32_in (by omega) (by omega), nb.s (c := 0) (by simp), ?_⟩
    intro L2 eL2
    have cF2 : cF L2 := by rw [eL2]; exact (nb.c hF (by omega)).sR (by omega)
    have mF2 : mF L2 := by rw [eL2]; exact (nb.mF hM (by omega)).sR (by omega)
    have cl2 : ∀ c, c ≠ 48 → L2.1 c = L.1 c ∧ ∀ j, L2.2.1 c j = L.2.1 c j := fun c hc => by
      rw [eL2]
      refine ⟨rfl, fun j => ?_⟩
      show (if c = 48 then _ else _) = _
      rw [if_neg hc]
    have n2 : L2.2.2 = 7 + d + 21 := by rw [eL2]; exact nb.n
    have r48 : ∀ j, L2.2.1 48 j = if j = is.length then some (7 + d) else Λ.2.1 48 j := fun j => by
      rw [eL2, sR_eq, (cl 48 (by omega)).2]
    refine ⟨cF2, mF2, ?_⟩
    generalize hmc : hx_sI m2 0 14 (Int32.ofNat (is.length + 1)) = mc
    have mc0 : ∀ j, j ≠ 14 → mc.1 0 j = μ.1 0 j := fun j hj => by rw [← hmc, sIj hj, (mem2 0 (by omega)).1]
    have mc14 : mc.1 0 14 = Int32.ofNat (is.length + 1) := by rw [← hmc, sIe]
    have mck : ∀ c, c ≠ 0 → c < 7 + d → mc.1 c = μ.1 c ∧ mc.2 c = μ.2 c := fun c h0 hc => by rw [← hmc, sIk h0]; exact mem2 c hc
    have mcd : CW d a mc := c2.fr fun k k1 k2 => by rw [← hmc, sIk (by omega)]; exact ⟨rfl, rfl⟩
    have mc15 : mc.1 (15 + d) 0 = Int32.ofNat (a.1.2.1 + 1) := by rw [← hmc, sIk (by omega)]; exact g2
    have cc : CW 0 a mc := hc.fr fun k k1 k2 => mck _ (by omega) (by omega)
    have hmc' : MW a mc := hm.fr (fun j _ => by rw [(mck 49 (by omega) (by omega)).1]) (mck 49 (by omega) (by omega)).2 (fun k hk => (mck k (by omega) (by omega)).1)
    clear hmc
    unfold wX12_image
    have e65 : mc.1 49 65 = Int32.ofNat is.length := by rw [(mck 49 (by omega) (by omega)).1]; exact i3
    have eb : 15000 * Int32.ofNat is.length = Int32.ofNat (15000 * is.length) := by rw [← n32_mul]; rfl
    have z0 : (0 : Int32).toNatClampNeg = 0 := rfl
    have z1 : (1 : Int32).toNatClampNeg = 1 := rfl
    have z2 : (2 : Int32).toNatClampNeg = 2 := rfl
    have z3 : (3 : Int32).toNatClampNeg = 3 := rfl
    have z4 : (4 : Int32).toNatClampNeg = 4 := rfl
    have z5 : (5 : Int32).toNatClampNeg = 5 := rfl
    have z6 : (6 : Int32).toNatClampNeg = 6 := rfl
    rw [e65, eb, n32_nat (by omega), z0, z1, z2, z3, z4, z5, z6]
    refine selN (fun z => h3 ((n32_eq (b := 3) (by omega) (by omega)).mp z)) ⟨n32_in (by omega) (by omega), by unfold vp_in; decide, by unfold vp_in; decide, ?_⟩
    intro m4 e4
    have f4 : m4.1 49 = (hx_sI mc 49 66 (Int32.ofNat (15000 * is.length))).1 49 := by rw [e4, sIk (by omega), sIk (by omega), hm_sL1]
    refine ⟨by unfold vp_in; decide, by unfold vp_in; decide, by unfold vp_in; decide, ?_⟩
    intro m8 e8
    have f8 : m8.1 49 = (hx_sI mc 49 66 (Int32.ofNat (15000 * is.length))).1 49 := by rw [e8, sIk (by omega), sIk (by omega), sIk (by omega)]; exact f4
    refine ⟨by unfold vp_in; decide, by unfold vp_in; decide, ?_⟩
    generalize hν : hx_sI (hx_sI m8 92 5 (m8.1 49 5)) 92 6 (m8.1 49 59) = ν
    have n1 : ∀ k, k ≠ 49 → k ≠ 92 → ν.1 k = mc.1 k := fun k h49 h92 => by rw [← hν, sIk h92, sIk h92, e8, sIk h92, sIk h92, sIk h92, e4, sIk h92, sIk h92, hm_sL1, sIk h49]
    have n49 : ν.1 49 = (hx_sI mc 49 66 (Int32.ofNat (15000 * is.length))).1 49 := by rw [← hν, sIk (by omega), sIk (by omega)]; exact f8
    have nl : ∀ k j, ν.2 k j = if k = 91 ∧ j = is.length then mc.2 49 6 else mc.2 k j := fun k j => by rw [← hν, sIk2, sIk2, e8, sIk2, sIk2, sIk2, e4, sIk2, sIk2, hm_sLv, sIk2]
    have n92 : ν.1 92 0 = mc.1 49 0 ∧ ν.1 92 1 = mc.1 49 1 ∧ ν.1 92 2 = mc.1 49 2 ∧ ν.1 92 3 = mc.1 49 3 ∧ ν.1 92 4 = mc.1 49 4 ∧ ν.1 92 5 = mc.1 49 5 ∧ ν.1 92 6 = mc.1 49 59 := by
      rw [← hν]
      refine ⟨?_, ?_, ?_, ?_, ?_, ?_, ?_⟩
      · rw [sIj (by omega), sIj (by omega), e8, sIj (by omega), sIj (by omega), sIj (by omega), e4, sIj (by omega), sIe]
      · rw [sIj (by omega), sIj (by omega), e8, sIj (by omega), sIj (by omega), sIj (by omega), e4, sIe]
      · rw [sIj (by omega), sIj (by omega), e8, sIj (by omega), sIj (by omega), sIe, f4, sIj (by omega)]
      · rw [sIj (by omega), sIj (by omega), e8, sIj (by omega), sIe, f4, sIj (by omega)]
      · rw [sIj (by omega), sIj (by omega), e8, sIe, f4, sIj (by omega)]
      · rw [sIj (by omega), sIe, f8, sIj (by omega)]
      · rw [sIe, f8, sIj (by omega)]
    have hMν : MW a ν := hmc'.fr (fun j hj => by rw [n49, sIj (by simp at hj; omega)]) (by funext j; rw [nl, if_neg (by omega)]) (fun k hk => n1 k (by omega) (by omega))
    refine lays17 (base := 15000 * is.length) mF2 (by omega) (by rw [n49, sIe]) (fun mf xf => ?_)
    obtain ⟨x1, x2, x3, x4, x5, x6⟩ := xf
    have e65f : mf.1 49 65 = Int32.ofNat is.length := by rw [x2 65 (by omega), n49, sIj (by omega)]; exact e65
    rw [e65f, n32_add1]
    have cell : ∀ k, k ≠ 49 → k ≠ 90 → k ≠ 92 → mf.1 k = mc.1 k := fun k a b c => by rw [x1 k a b, n1 k a c]
    have sl : ∀ j, j ≠ 66 → mf.1 49 j = mc.1 49 j := fun j hj => by rw [x2 j hj, n49, sIj hj]
    have ll : ∀ k j, mf.2 k j = if k = 91 ∧ j = is.length then mc.2 49 6 else mc.2 k j := fun k j => by rw [x4]; exact nl k j
    have llk : ∀ k, k ≠ 91 → mf.2 k = mc.2 k := fun k hk => by funext j; rw [ll, if_neg (fun z => hk z.1)]
    generalize hmg : hx_sI mf 49 65 (Int32.ofNat (is.length + 1)) = mg
    have gk : ∀ k, k ≠ 49 → k ≠ 90 → k ≠ 92 → mg.1 k = mc.1 k := fun k a b c => by rw [← hmg, sIk a]; exact cell k a b c
    have g49 : ∀ j, j ≠ 65 → j ≠ 66 → mg.1 49 j = mc.1 49 j := fun j a b => by rw [← hmg, sIj a]; exact sl j b
    have g65 : mg.1 49 65 = Int32.ofNat (is.length + 1) := by rw [← hmg, sIe]
    have gl : mg.2 = mf.2 := by rw [← hmg]; rfl
    have g90 : mg.1 90 = mf.1 90 := by rw [← hmg, sIk (by omega)]
    have g49' : ∀ j, j ≠ 65 → j ≠ 66 → mg.1 49 j = μ.1 49 j := fun j a b => by rw [g49 j a b, (mck 49 (by omega) (by omega)).1]
    have gk' : ∀ k, k ≠ 0 → k ≠ 49 → k ≠ 90 → k ≠ 92 → k < 7 + d → mg.1 k = μ.1 k := fun k z a b c e => by rw [gk k a b c, (mck k z e).1]
    have g0 : ∀ j, j ≠ 14 → mg.1 0 j = μ.1 0 j := fun j hj => by rw [gk 0 (by omega) (by omega) (by omega)]; exact mc0 j hj
    have rb : RB (fun j => mg.1 90 (15000 * is.length + j)) (mg.2 91 is.length) ν := by
      have B : ∀ j, j < 14117 → mg.1 90 (15000 * is.length + j) = laid ν j := fun j hj => by rw [g90]; exact x5 j hj
      refine ⟨?_, ?_, fun s hs q hq => ?_⟩
      · have L8 : ∀ j, j < 8 → mg.1 90 (15000 * is.length + j) = ν.1 92 j := fun j hj => by
          rw [B j (by omega)]
          have := laid_92 (ν := ν) hj
          rw [Nat.zero_add] at this
          exact this
        simp only [L8 0 (by omega), L8 1 (by omega), L8 2 (by omega), L8 3 (by omega), L8 4 (by omega), L8 5 (by omega), L8 6 (by omega), n92, n49, sIj (show (0 : Nat) ≠ 66 by omega), sIj (show (1 : Nat) ≠ 66 by omega), sIj (show (2 : Nat) ≠ 66 by omega), sIj (show (3 : Nat) ≠ 66 by omega), sIj (show (4 : Nat) ≠ 66 by omega), sIj (show (5 : Nat) ≠ 66 by omega), sIj (show (59 : Nat) ≠ 66 by omega)]
        exact ⟨trivial, trivial, trivial, trivial, trivial, trivial, trivial⟩
      · rw [nl, if_neg (by omega), gl, ll, if_pos ⟨rfl, rfl⟩]
      · simp only [hseg, List.mem_cons, List.not_mem_nil, or_false] at hs
        rcases hs with rfl | rfl | rfl | rfl | rfl | rfl | rfl | rfl | rfl | rfl | rfl | rfl | rfl | rfl | rfl | rfl
        · exact ((B (8 + q) (by have : q < 16 := hq; omega)).trans (laid_50 hq)).symm
        · exact ((B (24 + q) (by have : q < 16 := hq; omega)).trans (laid_51 hq)).symm
        · exact ((B (40 + q) (by have : q < 16 := hq; omega)).trans (laid_52 hq)).symm
        · exact ((B (56 + q) (by have : q < 16 := hq; omega)).trans (laid_53 hq)).symm
        · exact ((B (72 + q) (by have : q < 16 := hq; omega)).trans (laid_54 hq)).symm
        · exact ((B (88 + q) (by have : q < 4 := hq; omega)).trans (laid_55 hq)).symm
        · exact ((B (92 + q) (by have : q < 96 := hq; omega)).trans (laid_56 hq)).symm
        · exact ((B (188 + q) (by have : q < 20 := hq; omega)).trans (laid_85 hq)).symm
        · exact ((B (208 + q) (by have : q < 20 := hq; omega)).trans (laid_86 hq)).symm
        · exact ((B (228 + q) (by have : q < 20 := hq; omega)).trans (laid_87 hq)).symm
        · exact ((B (248 + q) (by have : q < 3216 := hq; omega)).trans (laid_57 hq)).symm
        · exact ((B (3464 + q) (by have : q < 3216 := hq; omega)).trans (laid_58 hq)).symm
        · exact ((B (6680 + q) (by have : q < 3216 := hq; omega)).trans (laid_59 hq)).symm
        · exact ((B (9896 + q) (by have : q < 3216 := hq; omega)).trans (laid_60 hq)).symm
        · exact ((B (13112 + q) (by have : q < 804 := hq; omega)).trans (laid_61 hq)).symm
        · exact ((B (13916 + q) (by have : q < 201 := hq; omega)).trans (laid_62 hq)).symm
    refine ⟨?_, cF2, mF2, by rw [gk' 15 (by omega) (by omega) (by omega) (by omega) (by omega)]; exact h15, a, ls, fo, is ++ [a], w, ?_, ?_, ?_, ?_, ⟨?_, ?_, ?_, ?_⟩, ?_⟩
    · rfl
    · exact cc.fr fun k k1 k2 => ⟨gk _ (by omega) (by omega) (by omega), by rw [gl, llk _ (by omega)]⟩
    · exact hmc'.fr (fun j hj => g49 j (by simp at hj; omega) (by simp at hj; omega)) (by rw [gl, llk 49 (by omega)]) (fun k hk => gk k (by omega) (by omega) (by omega))
    · exact ht.fr (g0 1 (by omega)) (g0 6 (by omega)) (gk' 1 (by omega) (by omega) (by omega) (by omega) (by omega)) (fun j hj => g49' j (by simp at hj; omega) (by simp at hj; omega)) (gk' 74 (by omega) (by omega) (by omega) (by omega) (by omega)) (fun k _ _ => gk' k (by omega) (by omega) (by omega) (by omega) (by omega)) (fun k _ _ => gk' k (by omega) (by omega) (by omega) (by omega) (by omega))
    · have hl2 : LAWS L2 μ ls fo := hl.frL (fun j => by rw [(cl2 6 (by omega)).2, (cl 6 (by omega)).2]) (fun c h1 h2 => by
        have := cl2 c (by omega)
        have q := cl c (by omega)
        exact ⟨this.1.trans q.1, fun j => (this.2 j).trans (q.2 j)⟩) (by omega)
      obtain ⟨q1, q2, q3, q4, sm, q7, q8, q9⟩ := hl2
      refine ⟨q1, by rw [g0 4 (by omega)]; exact q2, by rw [g49' 20 (by omega) (by omega)]; exact q3, by rw [g0 5 (by omega), g49' 21 (by omega) (by omega)]; exact q4, sm, q7, by rw [g49' 22 (by omega) (by omega)]; exact q8, fun k l hk => ?_⟩
      have hold := hl.2.2.2.2
      obtain ⟨a1, a2, ⟨lc, cc', len, b1, b2, b3, b4, b5, b6, b7, b8, b9, b10, b11⟩, d1, d2⟩ := q9 k l hk
      obtain ⟨sm', _, _, p9⟩ := hold
      obtain ⟨_, _, ⟨lc2, cc2, len2, r1, r2, r3, r4, r5, r6, r7, r8, r9, r10, r11⟩, _⟩ := p9 k l hk
      have elc : lc2 = lc := by
        have : L2.2.1 6 k = some lc2 := by rw [(cl2 6 (by omega)).2, (cl 6 (by omega)).2]; exact r1
        rw [b1] at this
        simpa using this.symm
      subst elc
      have ecc : cc2 = cc' := by
        have : L2.2.1 lc2 0 = some cc2 := by rw [(cl2 lc2 (by omega)).2, (cl lc2 (by omega)).2]; exact r7
        rw [b7] at this
        simpa using this.symm
      subst ecc
      refine ⟨a1, a2, ⟨lc2, cc2, len, b1, b2, b3, b4, b5, b6, b7, b8, b9, ?_, hl_C.fr (gk' cc2 (by omega) (by omega) (by omega) (by omega) (by omega)) b11⟩, ?_, hl_M.fr (fun k h1 h2 => gk' k (by omega) (by omega) (by omega) (by omega) (by omega)) d2⟩
      · rw [gk' lc2 (by omega) (by omega) (by omega) (by omega) (by omega)]; exact b10
      · rw [gk' 63 (by omega) (by omega) (by omega) (by omega) (by omega)]; exact d1
    · rw [List.length_append]
      show is.length + 1 ≤ 3
      omega
    · rw [gk 0 (by omega) (by omega) (by omega), List.length_append]; exact mc14
    · rw [List.length_append]; exact g65
    · intro i b hib
      by_cases hil : i < is.length
      · rw [List.getElem?_append_left hil] at hib
        obtain ⟨wb, mb, d', d1, d2, d3, d4, d5, d6⟩ := i4 i b hib
        refine ⟨wb, ?_, d', d1, by omega, ?_, ?_, ?_, ?_⟩
        · have : mg.2 91 i = μ.2 91 i := by rw [gl, ll, if_neg (by omega), (mck 91 (by omega) (by omega)).2]
          unfold MI
          rw [this]
          refine MIr_fr wb (fun j hj => ?_) mb
          rw [g90, x6 _ (by omega), n1 90 (by omega) (by omega), (mck 90 (by omega) (by omega)).1]
        · rw [r48, if_neg (by omega)]; exact d3
        · refine d4.frL (fun c h1 h2 => ?_)
          have := cl2 c (by omega)
          have q := cl c (by omega)
          exact ⟨this.1.trans q.1, fun j => (this.2 j).trans (q.2 j)⟩
        · rw [gk' _ (by omega) (by omega) (by omega) (by omega) (by omega)]; exact d5
        · exact d6.fr fun k k1 k2 => ⟨gk' _ (by omega) (by omega) (by omega) (by omega) (by omega), by rw [gl, llk _ (by omega), (mck _ (by omega) (by omega)).2]⟩
      · have hii : i = is.length := by
          have := List.getElem?_eq_some_iff.mp hib
          obtain ⟨h1, _⟩ := this
          rw [List.length_append] at h1
          have : i < is.length + 1 := h1
          omega
        subst hii
        rw [List.getElem?_append_right (Nat.le_refl _), Nat.sub_self] at hib
        have : a = b := by simpa using hib
        subst this
        refine ⟨w, ?_, d, by omega, by omega, ?_, ?_, ?_, ?_⟩
        · exact rb.r w hMν
        · rw [r48, if_pos rfl]
        · exact isd.frL (fun c h1 h2 => cl2 c (by omega))
        · rw [gk _ (by omega) (by omega) (by omega)]; exact mc15
        · exact mcd.fr fun k k1 k2 => ⟨gk _ (by omega) (by omega) (by omega), by rw [gl, llk _ (by omega)]⟩
    · rw [n2, List.length_append]
      show 7 + d + 21 ≤ 93 + 2 * ls.length + 21 * (is.length + 1)
      omega
