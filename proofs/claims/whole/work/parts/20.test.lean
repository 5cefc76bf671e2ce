/-! HemLine$Past.lengthOf(II)I -/
def tbX3_lengthOf_0 : List (Nat × Instr × Nat) := [(0, .aload_n 0, 1), (1, .getfield 21, 3), (4, .iload_n 2, 1), (5, .bipush 16, 2), (7, .imul, 1), (8, .iload_n 1, 1), (9, .iadd, 1), (10, .iaload, 1), (11, .ireturn, 1)]
theorem tdX3_lengthOf_0 : hx_dt cX3_lengthOf tbX3_lengthOf_0 = true := by decide +kernel
def wX3_lengthOf (μ : hx_M) (v1 : Int32) (v2 : Int32) (K : Int32 → Prop) : Prop := vp_in ((v2 * 16) + v1) 4816 ∧ K ((μ.1 16 (((v2 * 16) + v1).toNatClampNeg)))
set_option maxRecDepth 100000 in
set_option maxHeartbeats 4000000 in
theorem kX3_lengthOf {G : hx_GT} {KK : hx_KT} (hG : hx_K cX3_lengthOf 3 0 0 (some .int) TbX3 KK G) (cA : hx_CA RX3 cX3_lengthOf 1 0 0 G) {Λ : hx_L} (hF : cF Λ) {μ : hx_M} (v1 : Int32) (v2 : Int32) {K : Int32 → Prop} (hK : ∀ (r : Int32), K r → KK (some (.int r)) Λ μ) (hw : wX3_lengthOf μ v1 v2 K) : G Λ μ (0, 0) 0 [some (.ref 15), some (.int v1), some (.int v2)] [] := by
  unfold wX3_lengthOf at hw
  obtain ⟨i10_1, hw⟩ := hw
  exact cl_aload_n hG (hx_dq tdX3_lengthOf_0 0 rfl) rfl (cl_getS hG fmX3_21 (hx_dq tdX3_lengthOf_0 1 rfl) (cF_S15 hF) (cF_R15_1 hF) (cl_iload_n hG (hx_dq tdX3_lengthOf_0 2 rfl) rfl (cl_bipush hG 16 (hx_dq tdX3_lengthOf_0 3 rfl) bipush_16 (cl_imul hG (hx_dq tdX3_lengthOf_0 4 rfl) (cl_iload_n hG (hx_dq tdX3_lengthOf_0 5 rfl) rfl (cl_iadd hG (hx_dq tdX3_lengthOf_0 6 rfl) (cl_iald hG (hx_dq tdX3_lengthOf_0 7 rfl) (cF_S16 hF) i10_1 (cl_iret hG (hx_dq tdX3_lengthOf_0 8 rfl) rfl rfl (hK _ hw) (Nat.le_refl _) (Nat.le_refl _)))))))))
def sX3_lengthOf : hx_ST := fun Λ μ as KK => cF Λ ∧ ∃ (v1 : Int32) (v2 : Int32) (K : Int32 → Prop), as = [.ref 15, .int v1, .int v2] ∧ wX3_lengthOf μ v1 v2 K ∧ (∀ (r : Int32), K r → KK (some (.int r)) Λ μ)
theorem sX3_lengthOf_mk {Λ : hx_L} {μ : hx_M} {KK : hx_KT} {v1 : Int32} {v2 : Int32} {K : Int32 → Prop} (hF : cF Λ) (hw : wX3_lengthOf μ v1 v2 K) (hk : ∀ (r : Int32), K r → KK (some (.int r)) Λ μ) : sX3_lengthOf Λ μ [.ref 15, .int v1, .int v2] KK := ⟨hF, _, _, _, rfl, hw, hk⟩
theorem conX3_lengthOf : hx_Con yX3_lengthOf cX3_lengthOf 3 (some .int) 1 0 0 sX3_lengthOf := by
  refine hx_con_of (by decide +kernel) tokX3 (by decide) ?_ ?_
  · intro Λ μ as KK h
    obtain ⟨hF, v1, v2, K, rfl, hw, hK⟩ := h
    exact Nat.le_of_ble_eq_true rfl
  · intro G KK hG cA Λ μ as h
    obtain ⟨hF, v1, v2, K, rfl, hw, hK⟩ := h
    exact cl_sub hG (hx_le_c rfl (hx_le_c rfl (hx_le_c rfl hx_le_0))) (kX3_lengthOf hG cA hF v1 v2 hK hw)
/-! HemLine$Past.shownBy(II)I -/
def tbX3_shownBy_0 : List (Nat × Instr × Nat) := [(0, .aload_n 0, 1), (1, .getfield 31, 3), (4, .iload_n 2, 1), (5, .iconst 4, 1), (6, .imul, 1), (7, .iload_n 1, 1), (8, .iadd, 1), (9, .iaload, 1), (10, .ireturn, 1)]
theorem tdX3_shownBy_0 : hx_dt cX3_shownBy tbX3_shownBy_0 = true := by decide +kernel
def wX3_shownBy (μ : hx_M) (v1 : Int32) (v2 : Int32) (K : Int32 → Prop) : Prop := vp_in ((v2 * 4) + v1) 1204 ∧ K ((μ.1 19 (((v2 * 4) + v1).toNatClampNeg)))
set_option maxRecDepth 100000 in
set_option maxHeartbeats 4000000 in
theorem kX3_shownBy {G : hx_GT} {KK : hx_KT} (hG : hx_K cX3_shownBy 3 0 0 (some .int) TbX3 KK G) (cA : hx_CA RX3 cX3_shownBy 1 0 0 G) {Λ : hx_L} (hF : cF Λ) {μ : hx_M} (v1 : Int32) (v2 : Int32) {K : Int32 → Prop} (hK : ∀ (r : Int32), K r → KK (some (.int r)) Λ μ) (hw : wX3_shownBy μ v1 v2 K) : G Λ μ (0, 0) 0 [some (.ref 15), some (.int v1), some (.int v2)] [] := by
  unfold wX3_shownBy at hw
  obtain ⟨i9_1, hw⟩ := hw
  exact cl_aload_n hG (hx_dq tdX3_shownBy_0 0 rfl) rfl (cl_getS hG fmX3_31 (hx_dq tdX3_shownBy_0 1 rfl) (cF_S15 hF) (cF_R15_4 hF) (cl_iload_n hG (hx_dq tdX3_shownBy_0 2 rfl) rfl (cl_iconst hG 4 (hx_dq tdX3_shownBy_0 3 rfl) iconst_4 (cl_imul hG (hx_dq tdX3_shownBy_0 4 rfl) (cl_iload_n hG (hx_dq tdX3_shownBy_0 5 rfl) rfl (cl_iadd hG (hx_dq tdX3_shownBy_0 6 rfl) (cl_iald hG (hx_dq tdX3_shownBy_0 7 rfl) (cF_S19 hF) i9_1 (cl_iret hG (hx_dq tdX3_shownBy_0 8 rfl) rfl rfl (hK _ hw) (Nat.le_refl _) (Nat.le_refl _)))))))))
def sX3_shownBy : hx_ST := fun Λ μ as KK => cF Λ ∧ ∃ (v1 : Int32) (v2 : Int32) (K : Int32 → Prop), as = [.ref 15, .int v1, .int v2] ∧ wX3_shownBy μ v1 v2 K ∧ (∀ (r : Int32), K r → KK (some (.int r)) Λ μ)
theorem sX3_shownBy_mk {Λ : hx_L} {μ : hx_M} {KK : hx_KT} {v1 : Int32} {v2 : Int32} {K : Int32 → Prop} (hF : cF Λ) (hw : wX3_shownBy μ v1 v2 K) (hk : ∀ (r : Int32), K r → KK (some (.int r)) Λ μ) : sX3_shownBy Λ μ [.ref 15, .int v1, .int v2] KK := ⟨hF, _, _, _, rfl, hw, hk⟩
theorem conX3_shownBy : hx_Con yX3_shownBy cX3_shownBy 3 (some .int) 1 0 0 sX3_shownBy := by
  refine hx_con_of (by decide +kernel) tokX3 (by decide) ?_ ?_
  · intro Λ μ as KK h
    obtain ⟨hF, v1, v2, K, rfl, hw, hK⟩ := h
    exact Nat.le_of_ble_eq_true rfl
  · intro G KK hG cA Λ μ as h
    obtain ⟨hF, v1, v2, K, rfl, hw, hK⟩ := h
    exact cl_sub hG (hx_le_c rfl (hx_le_c rfl (hx_le_c rfl hx_le_0))) (kX3_shownBy hG cA hF v1 v2 hK hw)
/-! HemLine$Past.sameLengths(III)Z -/
def tbX3_sameLengths_0 : List (Nat × Instr × Nat) := [(0, .aload_n 0, 1), (1, .getfield 25, 3), (4, .iload_n 1, 1), (5, .iaload, 1), (6, .aload_n 0, 1), (7, .getfield 25, 3), (10, .iload_n 2, 1), (11, .iaload, 1), (12, .if_icmp .eq 5, 3), (15, .iconst 0, 1), (16, .ireturn, 1), (17, .iconst 0, 1), (18, .istore 4, 2), (20, .iload 4, 2), (22, .iload_n 3, 1), (23, .if_icmp .ge 28, 3), (26, .aload_n 0, 1), (27, .iload 4, 2), (29, .iload_n 1, 1), (30, .invokevirtual 49, 3), (33, .aload_n 0, 1), (34, .iload 4, 2), (36, .iload_n 2, 1), (37, .invokevirtual 49, 3), (40, .if_icmp .eq 5, 3), (43, .iconst 0, 1), (44, .ireturn, 1), (45, .iinc 4 1, 3), (48, .goto (-28), 3), (51, .iconst 1, 1), (52, .ireturn, 1)]
theorem tdX3_sameLengths_0 : hx_dt cX3_sameLengths tbX3_sameLengths_0 = true := by decide +kernel
theorem caX3_sameLengths_49 {G : hx_GT} (cA : hx_CA RX3 cX3_sameLengths 2 0 0 G) : hx_CV cX3_sameLengths G 0 0 49 3 2 sX3_lengthOf 0 0 := cA.1 conX3_lengthOf rfl rfl ⟨by decide +kernel, by decide +kernel, by decide +kernel⟩ mw_835 mw_717 mw_718 mw_88 mw_719 (by decide) (by decide)
def wX3_sameLengths_L20 (μ : hx_M) (v1 : Int32) (v2 : Int32) (v3 : Int32) (K : Int32 → Prop)  : Nat → Int32 → Prop
  | 0, _ => False
  | n + 1, v4 => (v3 ≤ v4 → (K 1)) ∧ (¬ (v3 ≤ v4) → (wX3_lengthOf μ v4 v1 (fun r30_4 => wX3_lengthOf μ v4 v2 (fun r37_6 => (r30_4 = r37_6 → (wX3_sameLengths_L20 μ v1 v2 v3 K n (v4 + 1))) ∧ (¬ (r30_4 = r37_6) → (K 0))))))
set_option maxRecDepth 100000 in
set_option maxHeartbeats 4000000 in
theorem kX3_sameLengths_L20 {G : hx_GT} {KK : hx_KT} (hG : hx_K cX3_sameLengths 5 0 0 (some .boolean) TbX3 KK G) (cA : hx_CA RX3 cX3_sameLengths 2 0 0 G) {Λ : hx_L} (hF : cF Λ) {μ : hx_M} (v1 : Int32) (v2 : Int32) (v3 : Int32) {K : Int32 → Prop} (hK : ∀ (r : Int32), K r → KK (some (.int r)) Λ μ)  : ∀ (n : Nat) (v4 : Int32), wX3_sameLengths_L20 μ v1 v2 v3 K n v4 → G Λ μ (0, 0) 20 [some (.ref 15), some (.int v1), some (.int v2), some (.int v3), some (.int v4)] [] := by
  intro n
  induction n with
  | zero =>
    intro v4 hw
    exact False.elim (by simpa only [wX3_sameLengths_L20] using hw)
  | succ n ih =>
    intro v4 hw
    unfold wX3_sameLengths_L20 at hw
    refine cl_iload hG (hx_dq tdX3_sameLengths_0 13 rfl) rfl (cl_iload_n hG (hx_dq tdX3_sameLengths_0 14 rfl) rfl (cl_icmp_ge hG 51 (hx_dq tdX3_sameLengths_0 15 rfl) rfl (fun c23 => ?_) (fun c23 => ?_)))
    · have hw := hw.1 c23
      exact cl_iconst hG 1 (hx_dq tdX3_sameLengths_0 29 rfl) iconst_1 (cl_iret hG (hx_dq tdX3_sameLengths_0 30 rfl) rfl rfl (hK _ hw) (Nat.le_refl _) (Nat.le_refl _))
    · have hw := hw.2 c23
      refine cl_aload_n hG (hx_dq tdX3_sameLengths_0 16 rfl) rfl (cl_iload hG (hx_dq tdX3_sameLengths_0 17 rfl) rfl (cl_iload_n hG (hx_dq tdX3_sameLengths_0 18 rfl) rfl (cl_callV2 (caX3_sameLengths_49 cA) (hx_dq tdX3_sameLengths_0 19 rfl) (cF_S15 hF) (Nat.le_of_ble_eq_true rfl) (Nat.le_refl _) (Nat.le_refl _) (sX3_lengthOf_mk hF hw (fun r30_4 hw => ?_)))))
      refine cl_aload_n hG (hx_dq tdX3_sameLengths_0 20 rfl) rfl (cl_iload hG (hx_dq tdX3_sameLengths_0 21 rfl) rfl (cl_iload_n hG (hx_dq tdX3_sameLengths_0 22 rfl) rfl (cl_callV2 (caX3_sameLengths_49 cA) (hx_dq tdX3_sameLengths_0 23 rfl) (cF_S15 hF) (Nat.le_of_ble_eq_true rfl) (Nat.le_refl _) (Nat.le_refl _) (sX3_lengthOf_mk hF hw (fun r37_6 hw => ?_)))))
      refine cl_icmp_eq hG 45 (hx_dq tdX3_sameLengths_0 24 rfl) rfl (fun c40 => ?_) (fun c40 => ?_)
      · have hw := hw.1 c40
        exact cl_iinc hG (v4 + 1) (hx_dq tdX3_sameLengths_0 27 rfl) rfl (congrArg (fun z => v4 + z) iconst_1) (Nat.le_of_ble_eq_true rfl) rfl (cl_goto hG 20 (hx_dq tdX3_sameLengths_0 28 rfl) rfl (cl_sub hG (hx_le_c rfl (hx_le_c rfl (hx_le_c rfl (hx_le_c rfl (hx_le_c rfl hx_le_0))))) (ih (v4 + 1) hw)))
      · have hw := hw.2 c40
        exact cl_iconst hG 0 (hx_dq tdX3_sameLengths_0 25 rfl) iconst_0 (cl_iret hG (hx_dq tdX3_sameLengths_0 26 rfl) rfl rfl (hK _ hw) (Nat.le_refl _) (Nat.le_refl _))
def wX3_sameLengths (μ : hx_M) (v1 : Int32) (v2 : Int32) (v3 : Int32) (K : Int32 → Prop) : Prop := vp_in v1 301 ∧ vp_in v2 301 ∧ ((μ.1 17 v1.toNatClampNeg) = (μ.1 17 v2.toNatClampNeg) → (∃ n20_7, wX3_sameLengths_L20 μ v1 v2 v3 K n20_7 0)) ∧ (¬ ((μ.1 17 v1.toNatClampNeg) = (μ.1 17 v2.toNatClampNeg)) → (K 0))
set_option maxRecDepth 100000 in
set_option maxHeartbeats 4000000 in
theorem kX3_sameLengths {G : hx_GT} {KK : hx_KT} (hG : hx_K cX3_sameLengths 5 0 0 (some .boolean) TbX3 KK G) (cA : hx_CA RX3 cX3_sameLengths 2 0 0 G) {Λ : hx_L} (hF : cF Λ) {μ : hx_M} (v1 : Int32) (v2 : Int32) (v3 : Int32) {K : Int32 → Prop} (hK : ∀ (r : Int32), K r → KK (some (.int r)) Λ μ) (hw : wX3_sameLengths μ v1 v2 v3 K) : G Λ μ (0, 0) 0 [some (.ref 15), some (.int v1), some (.int v2), some (.int v3), none] [] := by
  unfold wX3_sameLengths at hw
  obtain ⟨i5_1, hw⟩ := hw
  obtain ⟨i11_2, hw⟩ := hw
  refine cl_aload_n hG (hx_dq tdX3_sameLengths_0 0 rfl) rfl (cl_getS hG fmX3_25 (hx_dq tdX3_sameLengths_0 1 rfl) (cF_S15 hF) (cF_R15_2 hF) (cl_iload_n hG (hx_dq tdX3_sameLengths_0 2 rfl) rfl (cl_iald hG (hx_dq tdX3_sameLengths_0 3 rfl) (cF_S17 hF) i5_1 (cl_aload_n hG (hx_dq tdX3_sameLengths_0 4 rfl) rfl (cl_getS hG fmX3_25 (hx_dq tdX3_sameLengths_0 5 rfl) (cF_S15 hF) (cF_R15_2 hF) (cl_iload_n hG (hx_dq tdX3_sameLengths_0 6 rfl) rfl (cl_iald hG (hx_dq tdX3_sameLengths_0 7 rfl) (cF_S17 hF) i11_2 (cl_icmp_eq hG 17 (hx_dq tdX3_sameLengths_0 8 rfl) rfl (fun c12 => ?_) (fun c12 => ?_)))))))))
  · have hw := hw.1 c12
    refine cl_iconst hG 0 (hx_dq tdX3_sameLengths_0 11 rfl) iconst_0 (cl_istore hG (hx_dq tdX3_sameLengths_0 12 rfl) (Nat.le_of_ble_eq_true rfl) rfl ?_)
    obtain ⟨n_, hw⟩ := hw
    refine cl_sub hG (hx_le_c rfl (hx_le_c rfl (hx_le_c rfl (hx_le_c rfl (hx_le_c rfl hx_le_0))))) (kX3_sameLengths_L20 hG cA hF v1 v2 v3 hK n_ 0 hw)
  · have hw := hw.2 c12
    exact cl_iconst hG 0 (hx_dq tdX3_sameLengths_0 9 rfl) iconst_0 (cl_iret hG (hx_dq tdX3_sameLengths_0 10 rfl) rfl rfl (hK _ hw) (Nat.le_refl _) (Nat.le_refl _))
def sX3_sameLengths : hx_ST := fun Λ μ as KK => cF Λ ∧ ∃ (v1 : Int32) (v2 : Int32) (v3 : Int32) (K : Int32 → Prop), as = [.ref 15, .int v1, .int v2, .int v3] ∧ wX3_sameLengths μ v1 v2 v3 K ∧ (∀ (r : Int32), K r → KK (some (.int r)) Λ μ)
theorem sX3_sameLengths_mk {Λ : hx_L} {μ : hx_M} {KK : hx_KT} {v1 : Int32} {v2 : Int32} {v3 : Int32} {K : Int32 → Prop} (hF : cF Λ) (hw : wX3_sameLengths μ v1 v2 v3 K) (hk : ∀ (r : Int32), K r → KK (some (.int r)) Λ μ) : sX3_sameLengths Λ μ [.ref 15, .int v1, .int v2, .int v3] KK := ⟨hF, _, _, _, _, rfl, hw, hk⟩
theorem conX3_sameLengths : hx_Con yX3_sameLengths cX3_sameLengths 5 (some .boolean) 2 0 0 sX3_sameLengths := by
  refine hx_con_of (by decide +kernel) tokX3 (by decide) ?_ ?_
  · intro Λ μ as KK h
    obtain ⟨hF, v1, v2, v3, K, rfl, hw, hK⟩ := h
    exact Nat.le_of_ble_eq_true rfl
  · intro G KK hG cA Λ μ as h
    obtain ⟨hF, v1, v2, v3, K, rfl, hw, hK⟩ := h
    exact cl_sub hG (hx_le_c rfl (hx_le_c rfl (hx_le_c rfl (hx_le_c rfl (hx_le_n hx_le_0))))) (kX3_sameLengths hG cA hF v1 v2 v3 hK hw)
/-! HemLine.within(III)Z -/
def tbX11_within_0 : List (Nat × Instr × Nat) := [(0, .iload_n 0, 1), (1, .iload_n 1, 1), (2, .if_icmp .lt 12, 3), (5, .iload_n 0, 1), (6, .iload_n 2, 1), (7, .if_icmp .gt 7, 3), (10, .iconst 1, 1), (11, .goto 4, 3), (14, .iconst 0, 1), (15, .ireturn, 1)]
theorem tdX11_within_0 : hx_dt cX11_within tbX11_within_0 = true := by decide +kernel
def wX11_within  (v0 : Int32) (v1 : Int32) (v2 : Int32) (K : Int32 → Prop) : Prop := (v0 < v1 → (K 0)) ∧ (¬ (v0 < v1) → ((v2 < v0 → (K 0)) ∧ (¬ (v2 < v0) → (K 1))))
set_option maxRecDepth 100000 in
set_option maxHeartbeats 4000000 in
theorem kX11_within {G : hx_GT} {KK : hx_KT} (hG : hx_K cX11_within 3 0 0 (some .boolean) TbX11 KK G) (cA : hx_CA RX11 cX11_within 1 0 0 G) {Λ : hx_L}  {μ : hx_M} (v0 : Int32) (v1 : Int32) (v2 : Int32) {K : Int32 → Prop} (hK : ∀ (r : Int32), K r → KK (some (.int r)) Λ μ) (hw : wX11_within v0 v1 v2 K) : G Λ μ (0, 0) 0 [some (.int v0), some (.int v1), some (.int v2)] [] := by
  unfold wX11_within at hw
  refine cl_iload_n hG (hx_dq tdX11_within_0 0 rfl) rfl (cl_iload_n hG (hx_dq tdX11_within_0 1 rfl) rfl (cl_icmp_lt hG 14 (hx_dq tdX11_within_0 2 rfl) rfl (fun c2 => ?_) (fun c2 => ?_)))
  · have hw := hw.1 c2
    exact cl_iconst hG 0 (hx_dq tdX11_within_0 8 rfl) iconst_0 (cl_iret hG (hx_dq tdX11_within_0 9 rfl) rfl rfl (hK _ hw) (Nat.le_refl _) (Nat.le_refl _))
  · have hw := hw.2 c2
    refine cl_iload_n hG (hx_dq tdX11_within_0 3 rfl) rfl (cl_iload_n hG (hx_dq tdX11_within_0 4 rfl) rfl (cl_icmp_gt hG 14 (hx_dq tdX11_within_0 5 rfl) rfl (fun c7 => ?_) (fun c7 => ?_)))
    · have hw := hw.1 c7
      exact cl_iconst hG 0 (hx_dq tdX11_within_0 8 rfl) iconst_0 (cl_iret hG (hx_dq tdX11_within_0 9 rfl) rfl rfl (hK _ hw) (Nat.le_refl _) (Nat.le_refl _))
    · have hw := hw.2 c7
      exact cl_iconst hG 1 (hx_dq tdX11_within_0 6 rfl) iconst_1 (cl_goto hG 15 (hx_dq tdX11_within_0 7 rfl) rfl (cl_iret hG (hx_dq tdX11_within_0 9 rfl) rfl rfl (hK _ hw) (Nat.le_refl _) (Nat.le_refl _)))
def sX11_within : hx_ST := fun Λ μ as KK => ∃ (v0 : Int32) (v1 : Int32) (v2 : Int32) (K : Int32 → Prop), as = [.int v0, .int v1, .int v2] ∧ wX11_within v0 v1 v2 K ∧ (∀ (r : Int32), K r → KK (some (.int r)) Λ μ)
theorem sX11_within_mk {Λ : hx_L} {μ : hx_M} {KK : hx_KT} {v0 : Int32} {v1 : Int32} {v2 : Int32} {K : Int32 → Prop}  (hw : wX11_within v0 v1 v2 K) (hk : ∀ (r : Int32), K r → KK (some (.int r)) Λ μ) : sX11_within Λ μ [.int v0, .int v1, .int v2] KK := ⟨_, _, _, _, rfl, hw, hk⟩
theorem conX11_within : hx_Con yX11_within cX11_within 3 (some .boolean) 1 0 0 sX11_within := by
  refine hx_con_of (by decide +kernel) tokX11 (by decide) ?_ ?_
  · intro Λ μ as KK h
    obtain ⟨v0, v1, v2, K, rfl, hw, hK⟩ := h
    exact Nat.le_of_ble_eq_true rfl
  · intro G KK hG cA Λ μ as h
    obtain ⟨v0, v1, v2, K, rfl, hw, hK⟩ := h
    exact cl_sub hG (hx_le_c rfl (hx_le_c rfl (hx_le_c rfl hx_le_0))) (kX11_within hG cA v0 v1 v2 hK hw)
/-! HemLine$People.leastOf(I)I -/
def tbX4_leastOf_0 : List (Nat × Instr × Nat) := [(0, .iconst 0, 1), (1, .istore_n 2, 1), (2, .iload_n 2, 1), (3, .aload_n 0, 1), (4, .getfield 9, 3), (7, .if_icmp .ge 19, 3), (10, .iload_n 1, 1), (11, .iload_n 2, 1), (12, .ishr, 1), (13, .iconst 1, 1), (14, .iand, 1), (15, .ifCond .eq 5, 3), (18, .iload_n 2, 1), (19, .ireturn, 1), (20, .iinc 2 1, 3), (23, .goto (-21), 3), (26, .iconst (-1), 1), (27, .ireturn, 1)]
theorem tdX4_leastOf_0 : hx_dt cX4_leastOf tbX4_leastOf_0 = true := by decide +kernel
def wX4_leastOf_L2 (μ : hx_M) (v1 : Int32) (K : Int32 → Prop)  : Nat → Int32 → Prop
  | 0, _ => False
  | n + 1, v2 => ((μ.1 8 0) ≤ v2 → (K (-1))) ∧ (¬ ((μ.1 8 0) ≤ v2) → ((((v1 >>> (v2 &&& 31)) &&& 1) = 0 → (wX4_leastOf_L2 μ v1 K n (v2 + 1))) ∧ (¬ (((v1 >>> (v2 &&& 31)) &&& 1) = 0) → (K v2))))
set_option maxRecDepth 100000 in
set_option maxHeartbeats 4000000 in
theorem kX4_leastOf_L2 {G : hx_GT} {KK : hx_KT} (hG : hx_K cX4_leastOf 3 0 0 (some .int) TbX4 KK G) (cA : hx_CA RX4 cX4_leastOf 1 0 0 G) {Λ : hx_L} (hF : cF Λ) {μ : hx_M} (v1 : Int32) {K : Int32 → Prop} (hK : ∀ (r : Int32), K r → KK (some (.int r)) Λ μ)  : ∀ (n : Nat) (v2 : Int32), wX4_leastOf_L2 μ v1 K n v2 → G Λ μ (0, 0) 2 [some (.ref 8), some (.int v1), some (.int v2)] [] := by
  intro n
  induction n with
  | zero =>
    intro v2 hw
    exact False.elim (by simpa only [wX4_leastOf_L2] using hw)
  | succ n ih =>
    intro v2 hw
    unfold wX4_leastOf_L2 at hw
    refine cl_iload_n hG (hx_dq tdX4_leastOf_0 2 rfl) rfl (cl_aload_n hG (hx_dq tdX4_leastOf_0 3 rfl) rfl (cl_getI hG fmX4_9 (hx_dq tdX4_leastOf_0 4 rfl) (cF_S8 hF) (cl_icmp_ge hG 26 (hx_dq tdX4_leastOf_0 5 rfl) rfl (fun c7 => ?_) (fun c7 => ?_))))
    · have hw := hw.1 c7
      exact cl_iconst hG (-1) (hx_dq tdX4_leastOf_0 16 rfl) iconst_m1 (cl_iret hG (hx_dq tdX4_leastOf_0 17 rfl) rfl rfl (hK _ hw) (Nat.le_refl _) (Nat.le_refl _))
    · have hw := hw.2 c7
      refine cl_iload_n hG (hx_dq tdX4_leastOf_0 6 rfl) rfl (cl_iload_n hG (hx_dq tdX4_leastOf_0 7 rfl) rfl (cl_ishr hG (hx_dq tdX4_leastOf_0 8 rfl) (cl_iconst hG 1 (hx_dq tdX4_leastOf_0 9 rfl) iconst_1 (cl_iand hG (hx_dq tdX4_leastOf_0 10 rfl) (cl_if_eq hG 20 (hx_dq tdX4_leastOf_0 11 rfl) rfl (fun c15 => ?_) (fun c15 => ?_))))))
      · have hw := hw.1 c15
        exact cl_iinc hG (v2 + 1) (hx_dq tdX4_leastOf_0 14 rfl) rfl (congrArg (fun z => v2 + z) iconst_1) (Nat.le_of_ble_eq_true rfl) rfl (cl_goto hG 2 (hx_dq tdX4_leastOf_0 15 rfl) rfl (cl_sub hG (hx_le_c rfl (hx_le_c rfl (hx_le_c rfl hx_le_0))) (ih (v2 + 1) hw)))
      · have hw := hw.2 c15
        exact cl_iload_n hG (hx_dq tdX4_leastOf_0 12 rfl) rfl (cl_iret hG (hx_dq tdX4_leastOf_0 13 rfl) rfl rfl (hK _ hw) (Nat.le_refl _) (Nat.le_refl _))
def wX4_leastOf (μ : hx_M) (v1 : Int32) (K : Int32 → Prop) : Prop := ∃ n2_1, wX4_leastOf_L2 μ v1 K n2_1 0
set_option maxRecDepth 100000 in
set_option maxHeartbeats 4000000 in
theorem kX4_leastOf {G : hx_GT} {KK : hx_KT} (hG : hx_K cX4_leastOf 3 0 0 (some .int) TbX4 KK G) (cA : hx_CA RX4 cX4_leastOf 1 0 0 G) {Λ : hx_L} (hF : cF Λ) {μ : hx_M} (v1 : Int32) {K : Int32 → Prop} (hK : ∀ (r : Int32), K r → KK (some (.int r)) Λ μ) (hw : wX4_leastOf μ v1 K) : G Λ μ (0, 0) 0 [some (.ref 8), some (.int v1), none] [] := by
  unfold wX4_leastOf at hw
  refine cl_iconst hG 0 (hx_dq tdX4_leastOf_0 0 rfl) iconst_0 (cl_istore_n hG (hx_dq tdX4_leastOf_0 1 rfl) (Nat.le_of_ble_eq_true rfl) rfl ?_)
  obtain ⟨n_, hw⟩ := hw
  refine cl_sub hG (hx_le_c rfl (hx_le_c rfl (hx_le_c rfl hx_le_0))) (kX4_leastOf_L2 hG cA hF v1 hK n_ 0 hw)
def sX4_leastOf : hx_ST := fun Λ μ as KK => cF Λ ∧ ∃ (v1 : Int32) (K : Int32 → Prop), as = [.ref 8, .int v1] ∧ wX4_leastOf μ v1 K ∧ (∀ (r : Int32), K r → KK (some (.int r)) Λ μ)
theorem sX4_leastOf_mk {Λ : hx_L} {μ : hx_M} {KK : hx_KT} {v1 : Int32} {K : Int32 → Prop} (hF : cF Λ) (hw : wX4_leastOf μ v1 K) (hk : ∀ (r : Int32), K r → KK (some (.int r)) Λ μ) : sX4_leastOf Λ μ [.ref 8, .int v1] KK := ⟨hF, _, _, rfl, hw, hk⟩
theorem conX4_leastOf : hx_Con yX4_leastOf cX4_leastOf 3 (some .int) 1 0 0 sX4_leastOf := by
  refine hx_con_of (by decide +kernel) tokX4 (by decide) ?_ ?_
  · intro Λ μ as KK h
    obtain ⟨hF, v1, K, rfl, hw, hK⟩ := h
    exact Nat.le_of_ble_eq_true rfl
  · intro G KK hG cA Λ μ as h
    obtain ⟨hF, v1, K, rfl, hw, hK⟩ := h
    exact cl_sub hG (hx_le_c rfl (hx_le_c rfl (hx_le_n hx_le_0))) (kX4_leastOf hG cA hF v1 hK hw)
/-! HemLine$Past.coinAsked(II)I -/
def tbX3_coinAsked_0 : List (Nat × Instr × Nat) := [(0, .aload_n 0, 1), (1, .getfield 28, 3), (4, .iload_n 2, 1), (5, .bipush 16, 2), (7, .imul, 1), (8, .iload_n 1, 1), (9, .iadd, 1), (10, .iaload, 1), (11, .bipush 16, 2), (13, .ishr, 1), (14, .ireturn, 1)]
theorem tdX3_coinAsked_0 : hx_dt cX3_coinAsked tbX3_coinAsked_0 = true := by decide +kernel
def wX3_coinAsked (μ : hx_M) (v1 : Int32) (v2 : Int32) (K : Int32 → Prop) : Prop := vp_in ((v2 * 16) + v1) 4816 ∧ K (((μ.1 18 (((v2 * 16) + v1).toNatClampNeg))) >>> (16 &&& 31))
set_option maxRecDepth 100000 in
set_option maxHeartbeats 4000000 in
theorem kX3_coinAsked {G : hx_GT} {KK : hx_KT} (hG : hx_K cX3_coinAsked 3 0 0 (some .int) TbX3 KK G) (cA : hx_CA RX3 cX3_coinAsked 1 0 0 G) {Λ : hx_L} (hF : cF Λ) {μ : hx_M} (v1 : Int32) (v2 : Int32) {K : Int32 → Prop} (hK : ∀ (r : Int32), K r → KK (some (.int r)) Λ μ) (hw : wX3_coinAsked μ v1 v2 K) : G Λ μ (0, 0) 0 [some (.ref 15), some (.int v1), some (.int v2)] [] := by
  unfold wX3_coinAsked at hw
  obtain ⟨i10_1, hw⟩ := hw
  exact cl_aload_n hG (hx_dq tdX3_coinAsked_0 0 rfl) rfl (cl_getS hG fmX3_28 (hx_dq tdX3_coinAsked_0 1 rfl) (cF_S15 hF) (cF_R15_3 hF) (cl_iload_n hG (hx_dq tdX3_coinAsked_0 2 rfl) rfl (cl_bipush hG 16 (hx_dq tdX3_coinAsked_0 3 rfl) bipush_16 (cl_imul hG (hx_dq tdX3_coinAsked_0 4 rfl) (cl_iload_n hG (hx_dq tdX3_coinAsked_0 5 rfl) rfl (cl_iadd hG (hx_dq tdX3_coinAsked_0 6 rfl) (cl_iald hG (hx_dq tdX3_coinAsked_0 7 rfl) (cF_S18 hF) i10_1 (cl_bipush hG 16 (hx_dq tdX3_coinAsked_0 8 rfl) bipush_16 (cl_ishr hG (hx_dq tdX3_coinAsked_0 9 rfl) (cl_iret hG (hx_dq tdX3_coinAsked_0 10 rfl) rfl rfl (hK _ hw) (Nat.le_refl _) (Nat.le_refl _)))))))))))
def sX3_coinAsked : hx_ST := fun Λ μ as KK => cF Λ ∧ ∃ (v1 : Int32) (v2 : Int32) (K : Int32 → Prop), as = [.ref 15, .int v1, .int v2] ∧ wX3_coinAsked μ v1 v2 K ∧ (∀ (r : Int32), K r → KK (some (.int r)) Λ μ)
theorem sX3_coinAsked_mk {Λ : hx_L} {μ : hx_M} {KK : hx_KT} {v1 : Int32} {v2 : Int32} {K : Int32 → Prop} (hF : cF Λ) (hw : wX3_coinAsked μ v1 v2 K) (hk : ∀ (r : Int32), K r → KK (some (.int r)) Λ μ) : sX3_coinAsked Λ μ [.ref 15, .int v1, .int v2] KK := ⟨hF, _, _, _, rfl, hw, hk⟩
theorem conX3_coinAsked : hx_Con yX3_coinAsked cX3_coinAsked 3 (some .int) 1 0 0 sX3_coinAsked := by
  refine hx_con_of (by decide +kernel) tokX3 (by decide) ?_ ?_
  · intro Λ μ as KK h
    obtain ⟨hF, v1, v2, K, rfl, hw, hK⟩ := h
    exact Nat.le_of_ble_eq_true rfl
  · intro G KK hG cA Λ μ as h
    obtain ⟨hF, v1, v2, K, rfl, hw, hK⟩ := h
    exact cl_sub hG (hx_le_c rfl (hx_le_c rfl (hx_le_c rfl hx_le_0))) (kX3_coinAsked hG cA hF v1 v2 hK hw)
