/-! HemLine.length(II)I -/
def tbX11_length_0 : List (Nat × Instr × Nat) := [(0, .aload_n 0, 1), (1, .getfield 46, 3), (4, .getfield 101, 3), (7, .iload_n 1, 1), (8, .invokevirtual 124, 3), (11, .ifCond .eq 14, 3), (14, .aload_n 0, 1), (15, .getfield 46, 3), (18, .iload_n 2, 1), (19, .invokevirtual 177, 3), (22, .ifCond .ne 5, 3), (25, .iconst (-1), 1), (26, .ireturn, 1), (27, .aload_n 0, 1), (28, .getfield 46, 3), (31, .getfield 111, 3), (34, .iload_n 1, 1), (35, .iload_n 2, 1), (36, .invokevirtual 184, 3), (39, .ireturn, 1)]
theorem tdX11_length_0 : hx_dt cX11_length tbX11_length_0 = true := by decide +kernel
theorem caX11_length_124 {G : hx_GT} (cA : hx_CA RX11 cX11_length 3 0 0 G) : hx_CV cX11_length G 0 0 124 4 1 sX4_has 0 0 := cA.1 conX4_has rfl rfl ⟨by decide +kernel, by decide +kernel, by decide +kernel⟩ mw_488 mw_489 mw_490 mw_87 mw_491 (by decide) (by decide)
theorem caX11_length_177 {G : hx_GT} (cA : hx_CA RX11 cX11_length 3 0 0 G) : hx_CV cX11_length G 0 0 177 10 1 sX10_hasSeason 0 0 := cA.1 conX10_hasSeason rfl rfl ⟨by decide +kernel, by decide +kernel, by decide +kernel⟩ mw_786 mw_787 mw_788 mw_86 mw_789 (by decide) (by decide)
theorem caX11_length_184 {G : hx_GT} (cA : hx_CA RX11 cX11_length 3 0 0 G) : hx_CV cX11_length G 0 0 184 3 2 sX3_lengthOf 0 0 := cA.1 conX3_lengthOf rfl rfl ⟨by decide +kernel, by decide +kernel, by decide +kernel⟩ mw_799 mw_717 mw_718 mw_88 mw_719 (by decide) (by decide)
def wX11_length (μ : hx_M) (v1 : Int32) (v2 : Int32) (K : Int32 → Prop) : Prop := wX4_has μ v1 (fun r8_2 => (r8_2 = 0 → (K (-1))) ∧ (¬ (r8_2 = 0) → (wX10_hasSeason μ v2 (fun r19_4 => (r19_4 ≠ 0 → (wX3_lengthOf μ v1 v2 (fun r36_6 => K r36_6))) ∧ (r19_4 = 0 → (K (-1)))))))
set_option maxRecDepth 100000 in
set_option maxHeartbeats 4000000 in
theorem kX11_length {G : hx_GT} {KK : hx_KT} (hG : hx_K cX11_length 3 0 0 (some .int) TbX11 KK G) (cA : hx_CA RX11 cX11_length 3 0 0 G) {Λ : hx_L} (hF : cF Λ) {μ : hx_M} (v1 : Int32) (v2 : Int32) {K : Int32 → Prop} (hK : ∀ (r : Int32), K r → KK (some (.int r)) Λ μ) (hw : wX11_length μ v1 v2 K) : G Λ μ (0, 0) 0 [some (.ref 0), some (.int v1), some (.int v2)] [] := by
  unfold wX11_length at hw
  refine cl_aload_n hG (hx_dq tdX11_length_0 0 rfl) rfl (cl_getS hG fmX11_46 (hx_dq tdX11_length_0 1 rfl) (cF_S0 hF) (cF_R0_7 hF) (cl_getS hG fmX11_101 (hx_dq tdX11_length_0 2 rfl) (cF_S7 hF) (cF_R7_0 hF) (cl_iload_n hG (hx_dq tdX11_length_0 3 rfl) rfl (cl_callV1 (caX11_length_124 cA) (hx_dq tdX11_length_0 4 rfl) (cF_S8 hF) (Nat.le_of_ble_eq_true rfl) (Nat.le_refl _) (Nat.le_refl _) (sX4_has_mk hF hw (fun r8_2 hw => ?_))))))
  refine cl_if_eq hG 25 (hx_dq tdX11_length_0 5 rfl) rfl (fun c11 => ?_) (fun c11 => ?_)
  · replace hw := hw.1 c11
    exact cl_iconst hG (-1) (hx_dq tdX11_length_0 11 rfl) iconst_m1 (cl_iret hG (hx_dq tdX11_length_0 12 rfl) rfl rfl (hK _ hw) (Nat.le_refl _) (Nat.le_refl _))
  · replace hw := hw.2 c11
    refine cl_aload_n hG (hx_dq tdX11_length_0 6 rfl) rfl (cl_getS hG fmX11_46 (hx_dq tdX11_length_0 7 rfl) (cF_S0 hF) (cF_R0_7 hF) (cl_iload_n hG (hx_dq tdX11_length_0 8 rfl) rfl (cl_callV1 (caX11_length_177 cA) (hx_dq tdX11_length_0 9 rfl) (cF_S7 hF) (Nat.le_of_ble_eq_true rfl) (Nat.le_refl _) (Nat.le_refl _) (sX10_hasSeason_mk hF hw (fun r19_4 hw => ?_)))))
    refine cl_if_ne hG 27 (hx_dq tdX11_length_0 10 rfl) rfl (fun c22 => ?_) (fun c22 => ?_)
    · replace hw := hw.1 c22
      refine cl_aload_n hG (hx_dq tdX11_length_0 13 rfl) rfl (cl_getS hG fmX11_46 (hx_dq tdX11_length_0 14 rfl) (cF_S0 hF) (cF_R0_7 hF) (cl_getS hG fmX11_111 (hx_dq tdX11_length_0 15 rfl) (cF_S7 hF) (cF_R7_1 hF) (cl_iload_n hG (hx_dq tdX11_length_0 16 rfl) rfl (cl_iload_n hG (hx_dq tdX11_length_0 17 rfl) rfl (cl_callV2 (caX11_length_184 cA) (hx_dq tdX11_length_0 18 rfl) (cF_S15 hF) (Nat.le_of_ble_eq_true rfl) (Nat.le_refl _) (Nat.le_refl _) (sX3_lengthOf_mk hF hw (fun r36_6 hw => ?_)))))))
      exact cl_iret hG (hx_dq tdX11_length_0 19 rfl) rfl rfl (hK _ hw) (Nat.le_refl _) (Nat.le_refl _)
    · replace hw := hw.2 c22
      exact cl_iconst hG (-1) (hx_dq tdX11_length_0 11 rfl) iconst_m1 (cl_iret hG (hx_dq tdX11_length_0 12 rfl) rfl rfl (hK _ hw) (Nat.le_refl _) (Nat.le_refl _))
def sX11_length : hx_ST := fun Λ μ as KK => cF Λ ∧ ∃ (v1 : Int32) (v2 : Int32) (K : Int32 → Prop), as = [.ref 0, .int v1, .int v2] ∧ wX11_length μ v1 v2 K ∧ (∀ (r : Int32), K r → KK (some (.int r)) Λ μ)
theorem sX11_length_mk {Λ : hx_L} {μ : hx_M} {KK : hx_KT} {v1 : Int32} {v2 : Int32} {K : Int32 → Prop} (hF : cF Λ) (hw : wX11_length μ v1 v2 K) (hk : ∀ (r : Int32), K r → KK (some (.int r)) Λ μ) : sX11_length Λ μ [.ref 0, .int v1, .int v2] KK := ⟨hF, _, _, _, rfl, hw, hk⟩
theorem conX11_length : hx_Con yX11_length cX11_length 3 (some .int) 3 0 0 sX11_length := by
  refine hx_con_of (by decide +kernel) tokX11 (by decide) ?_ ?_
  · intro Λ μ as KK h
    obtain ⟨hF, v1, v2, K, rfl, hw, hK⟩ := h
    exact Nat.le_of_ble_eq_true rfl
  · intro G KK hG cA Λ μ as h
    obtain ⟨hF, v1, v2, K, rfl, hw, hK⟩ := h
    exact cl_sub hG (hx_le_c rfl (hx_le_c rfl (hx_le_c rfl hx_le_0))) (kX11_length hG cA hF _ _ hK hw)
/-! HemLine.wears(II)I -/
def tbX11_wears_0 : List (Nat × Instr × Nat) := [(0, .aload_n 0, 1), (1, .getfield 46, 3), (4, .getfield 101, 3), (7, .iload_n 1, 1), (8, .invokevirtual 124, 3), (11, .ifCond .ne 5, 3), (14, .iconst (-1), 1), (15, .ireturn, 1), (16, .aload_n 0, 1), (17, .getfield 46, 3), (20, .getfield 101, 3), (23, .astore_n 3, 1), (24, .iload_n 2, 1), (25, .tableswitch 110 0 6 #[43, 50, 57, 76, 83, 90, 97], 43), (68, .aload_n 3, 1), (69, .getfield 187, 3), (72, .iload_n 1, 1), (73, .iaload, 1), (74, .ireturn, 1), (75, .aload_n 3, 1), (76, .getfield 190, 3), (79, .iload_n 1, 1), (80, .iaload, 1), (81, .ireturn, 1), (82, .aload_n 0, 1), (83, .getfield 46, 3), (86, .getfield 111, 3), (89, .iload_n 1, 1), (90, .aload_n 0, 1), (91, .getfield 46, 3), (94, .getfield 98, 3), (97, .invokevirtual 184, 3)]
def tbX11_wears_1 : List (Nat × Instr × Nat) := [(100, .ireturn, 1), (101, .aload_n 3, 1), (102, .getfield 193, 3), (105, .iload_n 1, 1), (106, .iaload, 1), (107, .ireturn, 1), (108, .aload_n 3, 1), (109, .getfield 196, 3), (112, .iload_n 1, 1), (113, .iaload, 1), (114, .ireturn, 1), (115, .aload_n 3, 1), (116, .getfield 128, 3), (119, .iload_n 1, 1), (120, .iaload, 1), (121, .ireturn, 1), (122, .aload_n 0, 1), (123, .getfield 46, 3), (126, .aload_n 0, 1), (127, .invokevirtual 165, 3), (130, .iload_n 1, 1), (131, .invokevirtual 199, 3), (134, .ireturn, 1), (135, .iload_n 2, 1), (136, .bipush 10, 2), (138, .bipush 15, 2), (140, .invokestatic 94, 3), (143, .ifCond .eq 20, 3), (146, .aload_n 3, 1), (147, .getfield 203, 3), (150, .iload_n 1, 1), (151, .bipush 6, 2)]
def tbX11_wears_2 : List (Nat × Instr × Nat) := [(153, .imul, 1), (154, .iload_n 2, 1), (155, .iadd, 1), (156, .bipush 10, 2), (158, .isub, 1), (159, .iaload, 1), (160, .goto 4, 3), (163, .iconst (-1), 1), (164, .ireturn, 1)]
theorem tdX11_wears_0 : hx_dt cX11_wears tbX11_wears_0 = true := by decide +kernel
theorem tdX11_wears_1 : hx_dt cX11_wears tbX11_wears_1 = true := by decide +kernel
theorem tdX11_wears_2 : hx_dt cX11_wears tbX11_wears_2 = true := by decide +kernel
theorem caX11_wears_94 {G : hx_GT} (cA : hx_CA RX11 cX11_wears 6 0 0 G) : hx_CS cX11_wears G 0 0 94 3 sX11_within 0 0 := cA.2.1 conX11_within ⟨by decide +kernel, by decide +kernel, by decide +kernel⟩ mw_477 mw_478 mw_84 mw_479 (by decide) (by decide)
theorem caX11_wears_124 {G : hx_GT} (cA : hx_CA RX11 cX11_wears 6 0 0 G) : hx_CV cX11_wears G 0 0 124 4 1 sX4_has 0 0 := cA.1 conX4_has rfl rfl ⟨by decide +kernel, by decide +kernel, by decide +kernel⟩ mw_488 mw_489 mw_490 mw_87 mw_491 (by decide) (by decide)
theorem caX11_wears_165 {G : hx_GT} (cA : hx_CA RX11 cX11_wears 6 0 0 G) : hx_CV cX11_wears G 0 0 165 11 0 sX11_lawInForce 0 0 := cA.1 conX11_lawInForce rfl rfl ⟨by decide +kernel, by decide +kernel, by decide +kernel⟩ mw_687 mw_689 mw_15 mw_84 mw_690 (by decide) (by decide)
theorem caX11_wears_184 {G : hx_GT} (cA : hx_CA RX11 cX11_wears 6 0 0 G) : hx_CV cX11_wears G 0 0 184 3 2 sX3_lengthOf 0 0 := cA.1 conX3_lengthOf rfl rfl ⟨by decide +kernel, by decide +kernel, by decide +kernel⟩ mw_799 mw_717 mw_718 mw_88 mw_719 (by decide) (by decide)
theorem caX11_wears_199 {G : hx_GT} (cA : hx_CA RX11 cX11_wears 6 0 0 G) : hx_CV cX11_wears G 0 0 199 10 2 sX10_wishNow 0 0 := cA.1 conX10_wishNow rfl rfl ⟨by decide +kernel, by decide +kernel, by decide +kernel⟩ mw_804 mw_805 mw_806 mw_86 mw_807 (by decide) (by decide)
def wX11_wears (Λ : hx_L) (μ : hx_M) (v1 : Int32) (v2 : Int32) (K : Int32 → hx_M → Prop) : Prop := wX4_has μ v1 (fun r8_2 => (r8_2 ≠ 0 → (((v2 : Int32).toInt < 0 ∨ 6 < (v2 : Int32).toInt → (wX11_within v2 10 15 (fun r140_4 => (r140_4 = 0 → (K (-1) μ)) ∧ (¬ (r140_4 = 0) → (vp_in (((v1 * 6) + v2) - 10) 96 ∧ ∀ x_6 : Int32, x_6 = ((μ.1 14 ((((v1 * 6) + v2) - 10).toNatClampNeg))) → K x_6 μ))))) ∧ (v2 = 0 → (vp_in v1 16 ∧ K (μ.1 9 v1.toNatClampNeg) μ)) ∧ (v2 = 1 → (vp_in v1 16 ∧ K (μ.1 10 v1.toNatClampNeg) μ)) ∧ (v2 = 2 → (wX3_lengthOf μ v1 (μ.1 7 7) (fun r97_10 => K r97_10 μ))) ∧ (v2 = 3 → (vp_in v1 16 ∧ K (μ.1 12 v1.toNatClampNeg) μ)) ∧ (v2 = 4 → (vp_in v1 16 ∧ K (μ.1 13 v1.toNatClampNeg) μ)) ∧ (v2 = 5 → (vp_in v1 16 ∧ K (μ.1 11 v1.toNatClampNeg) μ)) ∧ (v2 = 6 → (wX11_lawInForce Λ μ (fun r127_15 => wX10_wishNow Λ μ r127_15 v1 (fun r131_17 m131_16 => K r131_17 m131_16)))))) ∧ (r8_2 = 0 → (K (-1) μ)))
set_option maxRecDepth 100000 in
set_option maxHeartbeats 4000000 in
theorem kX11_wears {G : hx_GT} {KK : hx_KT} (hG : hx_K cX11_wears 4 0 0 (some .int) TbX11 KK G) (cA : hx_CA RX11 cX11_wears 6 0 0 G) {Λ : hx_L} (hF : cF Λ) {μ : hx_M} (v1 : Int32) (v2 : Int32) {K : Int32 → hx_M → Prop} (hK : ∀ (r : Int32) (m : hx_M), K r m → KK (some (.int r)) Λ m) (hw : wX11_wears Λ μ v1 v2 K) : G Λ μ (0, 0) 0 [some (.ref 0), some (.int v1), some (.int v2), none] [] := by
  unfold wX11_wears at hw
  refine cl_aload_n hG (hx_dq tdX11_wears_0 0 rfl) rfl (cl_getS hG fmX11_46 (hx_dq tdX11_wears_0 1 rfl) (cF_S0 hF) (cF_R0_7 hF) (cl_getS hG fmX11_101 (hx_dq tdX11_wears_0 2 rfl) (cF_S7 hF) (cF_R7_0 hF) (cl_iload_n hG (hx_dq tdX11_wears_0 3 rfl) rfl (cl_callV1 (caX11_wears_124 cA) (hx_dq tdX11_wears_0 4 rfl) (cF_S8 hF) (Nat.le_of_ble_eq_true rfl) (Nat.le_refl _) (Nat.le_refl _) (sX4_has_mk hF hw (fun r8_2 hw => ?_))))))
  refine cl_if_ne hG 16 (hx_dq tdX11_wears_0 5 rfl) rfl (fun c11 => ?_) (fun c11 => ?_)
  · replace hw := hw.1 c11
    refine cl_aload_n hG (hx_dq tdX11_wears_0 8 rfl) rfl (cl_getS hG fmX11_46 (hx_dq tdX11_wears_0 9 rfl) (cF_S0 hF) (cF_R0_7 hF) (cl_getS hG fmX11_101 (hx_dq tdX11_wears_0 10 rfl) (cF_S7 hF) (cF_R7_0 hF) (cl_astore_n hG (hx_dq tdX11_wears_0 11 rfl) (Nat.le_of_ble_eq_true rfl) rfl (cl_iload_n hG (hx_dq tdX11_wears_0 12 rfl) rfl (hG.1 _ _ _ (hx_dq tdX11_wears_0 13 rfl) _ _ _ _ _ ⟨_, _, rfl, fun c25 => ⟨135, rfl, ?_⟩, fun c25 e25 => ?_⟩)))))
    · replace hw := hw.1 c25
      refine cl_iload_n hG (hx_dq tdX11_wears_1 23 rfl) rfl (cl_bipush hG 10 (hx_dq tdX11_wears_1 24 rfl) bipush_10 (cl_bipush hG 15 (hx_dq tdX11_wears_1 25 rfl) bipush_15 (cl_callS3 (caX11_wears_94 cA) (hx_dq tdX11_wears_1 26 rfl) (Nat.le_of_ble_eq_true rfl) (Nat.le_refl _) (Nat.le_refl _) (sX11_within_mk hw (fun r140_4 hw => ?_)))))
      refine cl_if_eq hG 163 (hx_dq tdX11_wears_1 27 rfl) rfl (fun c143 => ?_) (fun c143 => ?_)
      · replace hw := hw.1 c143
        exact cl_iconst hG (-1) (hx_dq tdX11_wears_2 7 rfl) iconst_m1 (cl_iret hG (hx_dq tdX11_wears_2 8 rfl) rfl rfl (hK _ _ hw) (Nat.le_refl _) (Nat.le_refl _))
      · replace hw := hw.2 c143
        obtain ⟨i159_5, hw⟩ := hw
        refine cl_aload_n hG (hx_dq tdX11_wears_1 28 rfl) rfl (cl_getS hG fmX11_203 (hx_dq tdX11_wears_1 29 rfl) (cF_S8 hF) (cF_R8_6 hF) (cl_iload_n hG (hx_dq tdX11_wears_1 30 rfl) rfl (cl_bipush hG 6 (hx_dq tdX11_wears_1 31 rfl) bipush_6 (cl_imul hG (hx_dq tdX11_wears_2 0 rfl) (cl_iload_n hG (hx_dq tdX11_wears_2 1 rfl) rfl (cl_iadd hG (hx_dq tdX11_wears_2 2 rfl) (cl_bipush hG 10 (hx_dq tdX11_wears_2 3 rfl) bipush_10 (cl_isub hG (hx_dq tdX11_wears_2 4 rfl) (cl_iald hG (hx_dq tdX11_wears_2 5 rfl) (cF_S14 hF) i159_5 (cl_nmI (fun x_6 e_6 => ?_)))))))))))
        replace hw := hw x_6 e_6
        exact cl_goto hG 164 (hx_dq tdX11_wears_2 6 rfl) rfl (cl_iret hG (hx_dq tdX11_wears_2 8 rfl) rfl rfl (hK _ _ hw) (Nat.le_refl _) (Nat.le_refl _))
    · replace hw := hw.2
      rcases hx_sw6 _ c25 e25 with c | c | c | c | c | c | c
      · replace hw := hw.1 c
        refine ⟨43, 68, by rw [c]; decide, rfl, ?_⟩
        obtain ⟨i73_7, hw⟩ := hw
        exact cl_aload_n hG (hx_dq tdX11_wears_0 14 rfl) rfl (cl_getS hG fmX11_187 (hx_dq tdX11_wears_0 15 rfl) (cF_S8 hF) (cF_R8_1 hF) (cl_iload_n hG (hx_dq tdX11_wears_0 16 rfl) rfl (cl_iald hG (hx_dq tdX11_wears_0 17 rfl) (cF_S9 hF) i73_7 (cl_iret hG (hx_dq tdX11_wears_0 18 rfl) rfl rfl (hK _ _ hw) (Nat.le_refl _) (Nat.le_refl _)))))
      · replace hw := hw.2.1 c
        refine ⟨50, 75, by rw [c]; decide, rfl, ?_⟩
        obtain ⟨i80_8, hw⟩ := hw
        exact cl_aload_n hG (hx_dq tdX11_wears_0 19 rfl) rfl (cl_getS hG fmX11_190 (hx_dq tdX11_wears_0 20 rfl) (cF_S8 hF) (cF_R8_2 hF) (cl_iload_n hG (hx_dq tdX11_wears_0 21 rfl) rfl (cl_iald hG (hx_dq tdX11_wears_0 22 rfl) (cF_S10 hF) i80_8 (cl_iret hG (hx_dq tdX11_wears_0 23 rfl) rfl rfl (hK _ _ hw) (Nat.le_refl _) (Nat.le_refl _)))))
      · replace hw := hw.2.2.1 c
        refine ⟨57, 82, by rw [c]; decide, rfl, ?_⟩
        refine cl_aload_n hG (hx_dq tdX11_wears_0 24 rfl) rfl (cl_getS hG fmX11_46 (hx_dq tdX11_wears_0 25 rfl) (cF_S0 hF) (cF_R0_7 hF) (cl_getS hG fmX11_111 (hx_dq tdX11_wears_0 26 rfl) (cF_S7 hF) (cF_R7_1 hF) (cl_iload_n hG (hx_dq tdX11_wears_0 27 rfl) rfl (cl_aload_n hG (hx_dq tdX11_wears_0 28 rfl) rfl (cl_getS hG fmX11_46 (hx_dq tdX11_wears_0 29 rfl) (cF_S0 hF) (cF_R0_7 hF) (cl_getI hG fmX11_98 (hx_dq tdX11_wears_0 30 rfl) (cF_S7 hF) (cl_callV2 (caX11_wears_184 cA) (hx_dq tdX11_wears_0 31 rfl) (cF_S15 hF) (Nat.le_of_ble_eq_true rfl) (Nat.le_refl _) (Nat.le_refl _) (sX3_lengthOf_mk hF hw (fun r97_10 hw => ?_)))))))))
        exact cl_iret hG (hx_dq tdX11_wears_1 0 rfl) rfl rfl (hK _ _ hw) (Nat.le_refl _) (Nat.le_refl _)
      · replace hw := hw.2.2.2.1 c
        refine ⟨76, 101, by rw [c]; decide, rfl, ?_⟩
        obtain ⟨i106_11, hw⟩ := hw
        exact cl_aload_n hG (hx_dq tdX11_wears_1 1 rfl) rfl (cl_getS hG fmX11_193 (hx_dq tdX11_wears_1 2 rfl) (cF_S8 hF) (cF_R8_4 hF) (cl_iload_n hG (hx_dq tdX11_wears_1 3 rfl) rfl (cl_iald hG (hx_dq tdX11_wears_1 4 rfl) (cF_S12 hF) i106_11 (cl_iret hG (hx_dq tdX11_wears_1 5 rfl) rfl rfl (hK _ _ hw) (Nat.le_refl _) (Nat.le_refl _)))))
      · replace hw := hw.2.2.2.2.1 c
        refine ⟨83, 108, by rw [c]; decide, rfl, ?_⟩
        obtain ⟨i113_12, hw⟩ := hw
        exact cl_aload_n hG (hx_dq tdX11_wears_1 6 rfl) rfl (cl_getS hG fmX11_196 (hx_dq tdX11_wears_1 7 rfl) (cF_S8 hF) (cF_R8_5 hF) (cl_iload_n hG (hx_dq tdX11_wears_1 8 rfl) rfl (cl_iald hG (hx_dq tdX11_wears_1 9 rfl) (cF_S13 hF) i113_12 (cl_iret hG (hx_dq tdX11_wears_1 10 rfl) rfl rfl (hK _ _ hw) (Nat.le_refl _) (Nat.le_refl _)))))
      · replace hw := hw.2.2.2.2.2.1 c
        refine ⟨90, 115, by rw [c]; decide, rfl, ?_⟩
        obtain ⟨i120_13, hw⟩ := hw
        exact cl_aload_n hG (hx_dq tdX11_wears_1 11 rfl) rfl (cl_getS hG fmX11_128 (hx_dq tdX11_wears_1 12 rfl) (cF_S8 hF) (cF_R8_3 hF) (cl_iload_n hG (hx_dq tdX11_wears_1 13 rfl) rfl (cl_iald hG (hx_dq tdX11_wears_1 14 rfl) (cF_S11 hF) i120_13 (cl_iret hG (hx_dq tdX11_wears_1 15 rfl) rfl rfl (hK _ _ hw) (Nat.le_refl _) (Nat.le_refl _)))))
      · replace hw := hw.2.2.2.2.2.2 c
        refine ⟨97, 122, by rw [c]; decide, rfl, ?_⟩
        refine cl_aload_n hG (hx_dq tdX11_wears_1 16 rfl) rfl (cl_getS hG fmX11_46 (hx_dq tdX11_wears_1 17 rfl) (cF_S0 hF) (cF_R0_7 hF) (cl_aload_n hG (hx_dq tdX11_wears_1 18 rfl) rfl (cl_callV0 (caX11_wears_165 cA) (hx_dq tdX11_wears_1 19 rfl) (cF_S0 hF) (Nat.le_of_ble_eq_true rfl) (Nat.le_refl _) (Nat.le_refl _) (sX11_lawInForce_mk hF hw (fun r127_15 hw => ?_)))))
        refine cl_iload_n hG (hx_dq tdX11_wears_1 20 rfl) rfl (cl_callV2 (caX11_wears_199 cA) (hx_dq tdX11_wears_1 21 rfl) (cF_S7 hF) (Nat.le_of_ble_eq_true rfl) (Nat.le_refl _) (Nat.le_refl _) (sX10_wishNow_mk hF hw (fun r131_17 m131_16 hw => ?_)))
        exact cl_iret hG (hx_dq tdX11_wears_1 22 rfl) rfl rfl (hK _ _ hw) (Nat.le_refl _) (Nat.le_refl _)
  · replace hw := hw.2 c11
    exact cl_iconst hG (-1) (hx_dq tdX11_wears_0 6 rfl) iconst_m1 (cl_iret hG (hx_dq tdX11_wears_0 7 rfl) rfl rfl (hK _ _ hw) (Nat.le_refl _) (Nat.le_refl _))
def sX11_wears : hx_ST := fun Λ μ as KK => cF Λ ∧ ∃ (v1 : Int32) (v2 : Int32) (K : Int32 → hx_M → Prop), as = [.ref 0, .int v1, .int v2] ∧ wX11_wears Λ μ v1 v2 K ∧ (∀ (r : Int32) (m : hx_M), K r m → KK (some (.int r)) Λ m)
theorem sX11_wears_mk {Λ : hx_L} {μ : hx_M} {KK : hx_KT} {v1 : Int32} {v2 : Int32} {K : Int32 → hx_M → Prop} (hF : cF Λ) (hw : wX11_wears Λ μ v1 v2 K) (hk : ∀ (r : Int32) (m : hx_M), K r m → KK (some (.int r)) Λ m) : sX11_wears Λ μ [.ref 0, .int v1, .int v2] KK := ⟨hF, _, _, _, rfl, hw, hk⟩
theorem conX11_wears : hx_Con yX11_wears cX11_wears 4 (some .int) 6 0 0 sX11_wears := by
  refine hx_con_of (by decide +kernel) tokX11 (by decide) ?_ ?_
  · intro Λ μ as KK h
    obtain ⟨hF, v1, v2, K, rfl, hw, hK⟩ := h
    exact Nat.le_of_ble_eq_true rfl
  · intro G KK hG cA Λ μ as h
    obtain ⟨hF, v1, v2, K, rfl, hw, hK⟩ := h
    exact cl_sub hG (hx_le_c rfl (hx_le_c rfl (hx_le_c rfl (hx_le_n hx_le_0)))) (kX11_wears hG cA hF _ _ hK hw)
/-! HemLine.round(II)I -/
def tbX11_round_0 : List (Nat × Instr × Nat) := [(0, .aload_n 0, 1), (1, .invokevirtual 165, 3), (4, .astore_n 3, 1), (5, .iload_n 1, 1), (6, .iconst 1, 1), (7, .bipush 100, 2), (9, .invokestatic 94, 3), (12, .ifCond .eq 16, 3), (15, .iload_n 2, 1), (16, .iconst 0, 1), (17, .iconst 1, 1), (18, .invokestatic 94, 3), (21, .ifCond .eq 7, 3), (24, .iconst 1, 1), (25, .goto 4, 3), (28, .iconst 0, 1), (29, .istore 4, 2), (31, .iload 4, 2), (33, .ifCond .eq 20, 3), (36, .aload_n 3, 1), (37, .ifnull 16, 3), (40, .aload_n 0, 1), (41, .getfield 46, 3), (44, .getfield 101, 3), (47, .invokevirtual 169, 3), (50, .ifCond .eq 5, 3), (53, .iconst (-1), 1), (54, .ireturn, 1), (55, .aload_n 0, 1), (56, .getfield 55, 3), (59, .aload_n 3, 1), (60, .iload_n 1, 1)]
def tbX11_round_1 : List (Nat × Instr × Nat) := [(61, .iconst 1, 1), (62, .iconst (-1), 1), (63, .invokevirtual 206, 3), (66, .aload_n 0, 1), (67, .getfield 55, 3), (70, .iload_n 1, 1), (71, .iconst 1, 1), (72, .iload_n 2, 1), (73, .invokevirtual 210, 3), (76, .ireturn, 1)]
theorem tdX11_round_0 : hx_dt cX11_round tbX11_round_0 = true := by decide +kernel
theorem tdX11_round_1 : hx_dt cX11_round tbX11_round_1 = true := by decide +kernel
theorem caX11_round_94 {G : hx_GT} (cA : hx_CA RX11 cX11_round 8 0 0 G) : hx_CS cX11_round G 0 0 94 3 sX11_within 0 0 := cA.2.1 conX11_within ⟨by decide +kernel, by decide +kernel, by decide +kernel⟩ mw_477 mw_478 mw_84 mw_479 (by decide) (by decide)
theorem caX11_round_165 {G : hx_GT} (cA : hx_CA RX11 cX11_round 8 0 0 G) : hx_CV cX11_round G 0 0 165 11 0 sX11_lawInForce 0 0 := cA.1 conX11_lawInForce rfl rfl ⟨by decide +kernel, by decide +kernel, by decide +kernel⟩ mw_687 mw_689 mw_15 mw_84 mw_690 (by decide) (by decide)
theorem caX11_round_169 {G : hx_GT} (cA : hx_CA RX11 cX11_round 8 0 0 G) : hx_CV cX11_round G 0 0 169 4 0 sX4_isEmpty 0 0 := cA.1 conX4_isEmpty rfl rfl ⟨by decide +kernel, by decide +kernel, by decide +kernel⟩ mw_691 mw_692 mw_693 mw_87 mw_694 (by decide) (by decide)
theorem caX11_round_206 {G : hx_GT} (cA : hx_CA RX11 cX11_round 8 0 0 G) : hx_CV cX11_round G 0 0 206 9 4 sX9_rehearse 0 0 := cA.1 conX9_rehearse rfl rfl ⟨by decide +kernel, by decide +kernel, by decide +kernel⟩ mw_812 mw_813 mw_814 mw_92 mw_815 (by decide) (by decide)
theorem caX11_round_210 {G : hx_GT} (cA : hx_CA RX11 cX11_round 8 0 0 G) : hx_CV cX11_round G 0 0 210 9 3 sX9_roundIn 0 0 := cA.1 conX9_roundIn rfl rfl ⟨by decide +kernel, by decide +kernel, by decide +kernel⟩ mw_822 mw_823 mw_824 mw_92 mw_825 (by decide) (by decide)
def wX11_round_J29 (Λ : hx_L) (K : Int32 → hx_M → Prop)  (v1 : Int32) (v2 : Int32) (v3 : Option Nat) (t0 : Int32) (μ : hx_M) : Prop := (t0 = 0 → (K (-1) μ)) ∧ (¬ (t0 = 0) → ((v3 = none → (K (-1) μ)) ∧ (∀ k37_5, v3 = some k37_5 → (wX4_isEmpty μ (fun r47_7 => (r47_7 = 0 → (wX9_rehearse Λ μ k37_5 v1 1 (-1) (fun m63_8 => wX9_roundIn m63_8 v1 1 v2 (fun r73_11 => K r73_11 m63_8)))) ∧ (¬ (r47_7 = 0) → (K (-1) μ)))))))
set_option maxRecDepth 100000 in
set_option maxHeartbeats 4000000 in
theorem kX11_round_J29 {G : hx_GT} {KK : hx_KT} (hG : hx_K cX11_round 5 0 0 (some .int) TbX11 KK G) (cA : hx_CA RX11 cX11_round 8 0 0 G) {Λ : hx_L} (hF : cF Λ) {μ : hx_M} (v1 : Int32) (v2 : Int32) (v3 : Option Nat) (t0 : Int32) {K : Int32 → hx_M → Prop} (hK : ∀ (r : Int32) (m : hx_M), K r m → KK (some (.int r)) Λ m)  (hw : wX11_round_J29 Λ K v1 v2 v3 t0 μ) : G Λ μ (0, 0) 29 [some (.ref 0), some (.int v1), some (.int v2), some (va_rf v3), none] [.int t0] := by
  unfold wX11_round_J29 at hw
  refine cl_istore hG (hx_dq tdX11_round_0 16 rfl) (Nat.le_of_ble_eq_true rfl) (hx_n2q rfl) (cl_iload hG (hx_dq tdX11_round_0 17 rfl) rfl (cl_if_eq hG 53 (hx_dq tdX11_round_0 18 rfl) rfl (fun c33 => ?_) (fun c33 => ?_)))
  · replace hw := hw.1 c33
    exact cl_iconst hG (-1) (hx_dq tdX11_round_0 26 rfl) iconst_m1 (cl_iret hG (hx_dq tdX11_round_0 27 rfl) rfl rfl (hK _ _ hw) (Nat.le_refl _) (Nat.le_refl _))
  · replace hw := hw.2 c33
    refine cl_aload_nQ hG (hx_dq tdX11_round_0 19 rfl) rfl (cl_ifnull hG 53 (hx_dq tdX11_round_0 20 rfl) rfl (fun c37 => ?_) (fun k37_5 c37 => ?_))
    · replace hw := hw.1 c37
      exact cl_iconst hG (-1) (hx_dq tdX11_round_0 26 rfl) iconst_m1 (cl_iret hG (hx_dq tdX11_round_0 27 rfl) rfl rfl (hK _ _ hw) (Nat.le_refl _) (Nat.le_refl _))
    · replace hw := hw.2 k37_5 c37
      revert hw
      subst c37
      intro hw
      refine cl_aload_n hG (hx_dq tdX11_round_0 21 rfl) rfl (cl_getS hG fmX11_46 (hx_dq tdX11_round_0 22 rfl) (cF_S0 hF) (cF_R0_7 hF) (cl_getS hG fmX11_101 (hx_dq tdX11_round_0 23 rfl) (cF_S7 hF) (cF_R7_0 hF) (cl_callV0 (caX11_round_169 cA) (hx_dq tdX11_round_0 24 rfl) (cF_S8 hF) (Nat.le_of_ble_eq_true rfl) (Nat.le_refl _) (Nat.le_refl _) (sX4_isEmpty_mk hF hw (fun r47_7 hw => ?_)))))
      refine cl_if_eq hG 55 (hx_dq tdX11_round_0 25 rfl) rfl (fun c50 => ?_) (fun c50 => ?_)
      · replace hw := hw.1 c50
        refine cl_aload_n hG (hx_dq tdX11_round_0 28 rfl) rfl (cl_getS hG fmX11_55 (hx_dq tdX11_round_0 29 rfl) (cF_S0 hF) (cF_R0_8 hF) (cl_aload_n hG (hx_dq tdX11_round_0 30 rfl) rfl (cl_iload_n hG (hx_dq tdX11_round_0 31 rfl) rfl (cl_iconst hG 1 (hx_dq tdX11_round_1 0 rfl) iconst_1 (cl_iconst hG (-1) (hx_dq tdX11_round_1 1 rfl) iconst_m1 (cl_callV4 (caX11_round_206 cA) (hx_dq tdX11_round_1 2 rfl) (cF_S28 hF) (Nat.le_of_ble_eq_true rfl) (Nat.le_refl _) (Nat.le_refl _) (sX9_rehearse_mk hF hw (fun m63_8 hw => ?_))))))))
        refine cl_aload_n hG (hx_dq tdX11_round_1 3 rfl) rfl (cl_getS hG fmX11_55 (hx_dq tdX11_round_1 4 rfl) (cF_S0 hF) (cF_R0_8 hF) (cl_iload_n hG (hx_dq tdX11_round_1 5 rfl) rfl (cl_iconst hG 1 (hx_dq tdX11_round_1 6 rfl) iconst_1 (cl_iload_n hG (hx_dq tdX11_round_1 7 rfl) rfl (cl_callV3 (caX11_round_210 cA) (hx_dq tdX11_round_1 8 rfl) (cF_S28 hF) (Nat.le_of_ble_eq_true rfl) (Nat.le_refl _) (Nat.le_refl _) (sX9_roundIn_mk hF hw (fun r73_11 hw => ?_)))))))
        exact cl_iret hG (hx_dq tdX11_round_1 9 rfl) rfl rfl (hK _ _ hw) (Nat.le_refl _) (Nat.le_refl _)
      · replace hw := hw.2 c50
        exact cl_iconst hG (-1) (hx_dq tdX11_round_0 26 rfl) iconst_m1 (cl_iret hG (hx_dq tdX11_round_0 27 rfl) rfl rfl (hK _ _ hw) (Nat.le_refl _) (Nat.le_refl _))
def wX11_round_J28 (Λ : hx_L) (K : Int32 → hx_M → Prop)  (v1 : Int32) (v2 : Int32) (v3 : Option Nat)  (μ : hx_M) : Prop := wX11_round_J29 Λ K v1 v2 v3 0 μ
set_option maxRecDepth 100000 in
set_option maxHeartbeats 4000000 in
theorem kX11_round_J28 {G : hx_GT} {KK : hx_KT} (hG : hx_K cX11_round 5 0 0 (some .int) TbX11 KK G) (cA : hx_CA RX11 cX11_round 8 0 0 G) {Λ : hx_L} (hF : cF Λ) {μ : hx_M} (v1 : Int32) (v2 : Int32) (v3 : Option Nat)  {K : Int32 → hx_M → Prop} (hK : ∀ (r : Int32) (m : hx_M), K r m → KK (some (.int r)) Λ m)  (hw : wX11_round_J28 Λ K v1 v2 v3 μ) : G Λ μ (0, 0) 28 [some (.ref 0), some (.int v1), some (.int v2), some (va_rf v3), none] [] := by
  unfold wX11_round_J28 at hw
  refine cl_iconst hG 0 (hx_dq tdX11_round_0 15 rfl) iconst_0 ?_
  exact cl_sub hG (hx_le_c rfl (hx_le_c rfl (hx_le_c rfl (hx_le_c rfl (hx_le_n hx_le_0))))) (kX11_round_J29 hG cA hF v1 v2 v3 0 hK hw)
def wX11_round_J29_14 (Λ : hx_L) (K : Int32 → hx_M → Prop)  (v1 : Int32) (v2 : Int32) (v3 : Option Nat) (t0 : Int32) (μ : hx_M) : Prop := (t0 = 0 → (K (-1) μ)) ∧ (¬ (t0 = 0) → ((v3 = none → (K (-1) μ)) ∧ (∀ k37_15, v3 = some k37_15 → (wX4_isEmpty μ (fun r47_17 => (r47_17 = 0 → (wX9_rehearse Λ μ k37_15 v1 1 (-1) (fun m63_18 => wX9_roundIn m63_18 v1 1 v2 (fun r73_21 => K r73_21 m63_18)))) ∧ (¬ (r47_17 = 0) → (K (-1) μ)))))))
set_option maxRecDepth 100000 in
set_option maxHeartbeats 4000000 in
theorem kX11_round_J29_14 {G : hx_GT} {KK : hx_KT} (hG : hx_K cX11_round 5 0 0 (some .int) TbX11 KK G) (cA : hx_CA RX11 cX11_round 8 0 0 G) {Λ : hx_L} (hF : cF Λ) {μ : hx_M} (v1 : Int32) (v2 : Int32) (v3 : Option Nat) (t0 : Int32) {K : Int32 → hx_M → Prop} (hK : ∀ (r : Int32) (m : hx_M), K r m → KK (some (.int r)) Λ m)  (hw : wX11_round_J29_14 Λ K v1 v2 v3 t0 μ) : G Λ μ (0, 0) 29 [some (.ref 0), some (.int v1), some (.int v2), some (va_rf v3), none] [.int t0] := by
  unfold wX11_round_J29_14 at hw
  refine cl_istore hG (hx_dq tdX11_round_0 16 rfl) (Nat.le_of_ble_eq_true rfl) (hx_n2q rfl) (cl_iload hG (hx_dq tdX11_round_0 17 rfl) rfl (cl_if_eq hG 53 (hx_dq tdX11_round_0 18 rfl) rfl (fun c33 => ?_) (fun c33 => ?_)))
  · replace hw := hw.1 c33
    exact cl_iconst hG (-1) (hx_dq tdX11_round_0 26 rfl) iconst_m1 (cl_iret hG (hx_dq tdX11_round_0 27 rfl) rfl rfl (hK _ _ hw) (Nat.le_refl _) (Nat.le_refl _))
  · replace hw := hw.2 c33
    refine cl_aload_nQ hG (hx_dq tdX11_round_0 19 rfl) rfl (cl_ifnull hG 53 (hx_dq tdX11_round_0 20 rfl) rfl (fun c37 => ?_) (fun k37_15 c37 => ?_))
    · replace hw := hw.1 c37
      exact cl_iconst hG (-1) (hx_dq tdX11_round_0 26 rfl) iconst_m1 (cl_iret hG (hx_dq tdX11_round_0 27 rfl) rfl rfl (hK _ _ hw) (Nat.le_refl _) (Nat.le_refl _))
    · replace hw := hw.2 k37_15 c37
      revert hw
      subst c37
      intro hw
      refine cl_aload_n hG (hx_dq tdX11_round_0 21 rfl) rfl (cl_getS hG fmX11_46 (hx_dq tdX11_round_0 22 rfl) (cF_S0 hF) (cF_R0_7 hF) (cl_getS hG fmX11_101 (hx_dq tdX11_round_0 23 rfl) (cF_S7 hF) (cF_R7_0 hF) (cl_callV0 (caX11_round_169 cA) (hx_dq tdX11_round_0 24 rfl) (cF_S8 hF) (Nat.le_of_ble_eq_true rfl) (Nat.le_refl _) (Nat.le_refl _) (sX4_isEmpty_mk hF hw (fun r47_17 hw => ?_)))))
      refine cl_if_eq hG 55 (hx_dq tdX11_round_0 25 rfl) rfl (fun c50 => ?_) (fun c50 => ?_)
      · replace hw := hw.1 c50
        refine cl_aload_n hG (hx_dq tdX11_round_0 28 rfl) rfl (cl_getS hG fmX11_55 (hx_dq tdX11_round_0 29 rfl) (cF_S0 hF) (cF_R0_8 hF) (cl_aload_n hG (hx_dq tdX11_round_0 30 rfl) rfl (cl_iload_n hG (hx_dq tdX11_round_0 31 rfl) rfl (cl_iconst hG 1 (hx_dq tdX11_round_1 0 rfl) iconst_1 (cl_iconst hG (-1) (hx_dq tdX11_round_1 1 rfl) iconst_m1 (cl_callV4 (caX11_round_206 cA) (hx_dq tdX11_round_1 2 rfl) (cF_S28 hF) (Nat.le_of_ble_eq_true rfl) (Nat.le_refl _) (Nat.le_refl _) (sX9_rehearse_mk hF hw (fun m63_18 hw => ?_))))))))
        refine cl_aload_n hG (hx_dq tdX11_round_1 3 rfl) rfl (cl_getS hG fmX11_55 (hx_dq tdX11_round_1 4 rfl) (cF_S0 hF) (cF_R0_8 hF) (cl_iload_n hG (hx_dq tdX11_round_1 5 rfl) rfl (cl_iconst hG 1 (hx_dq tdX11_round_1 6 rfl) iconst_1 (cl_iload_n hG (hx_dq tdX11_round_1 7 rfl) rfl (cl_callV3 (caX11_round_210 cA) (hx_dq tdX11_round_1 8 rfl) (cF_S28 hF) (Nat.le_of_ble_eq_true rfl) (Nat.le_refl _) (Nat.le_refl _) (sX9_roundIn_mk hF hw (fun r73_21 hw => ?_)))))))
        exact cl_iret hG (hx_dq tdX11_round_1 9 rfl) rfl rfl (hK _ _ hw) (Nat.le_refl _) (Nat.le_refl _)
      · replace hw := hw.2 c50
        exact cl_iconst hG (-1) (hx_dq tdX11_round_0 26 rfl) iconst_m1 (cl_iret hG (hx_dq tdX11_round_0 27 rfl) rfl rfl (hK _ _ hw) (Nat.le_refl _) (Nat.le_refl _))
def wX11_round (Λ : hx_L) (μ : hx_M) (v1 : Int32) (v2 : Int32) (K : Int32 → hx_M → Prop) : Prop := wX11_lawInForce Λ μ (fun r1_2 => wX11_within v1 1 100 (fun r9_4 => (r9_4 = 0 → (wX11_round_J28 Λ K v1 v2 r1_2 μ)) ∧ (¬ (r9_4 = 0) → (wX11_within v2 0 1 (fun r18_13 => (r18_13 = 0 → (wX11_round_J28 Λ K v1 v2 r1_2 μ)) ∧ (¬ (r18_13 = 0) → (wX11_round_J29_14 Λ K v1 v2 r1_2 1 μ)))))))
set_option maxRecDepth 100000 in
set_option maxHeartbeats 4000000 in
theorem kX11_round {G : hx_GT} {KK : hx_KT} (hG : hx_K cX11_round 5 0 0 (some .int) TbX11 KK G) (cA : hx_CA RX11 cX11_round 8 0 0 G) {Λ : hx_L} (hF : cF Λ) {μ : hx_M} (v1 : Int32) (v2 : Int32) {K : Int32 → hx_M → Prop} (hK : ∀ (r : Int32) (m : hx_M), K r m → KK (some (.int r)) Λ m) (hw : wX11_round Λ μ v1 v2 K) : G Λ μ (0, 0) 0 [some (.ref 0), some (.int v1), some (.int v2), none, none] [] := by
  unfold wX11_round at hw
  refine cl_aload_n hG (hx_dq tdX11_round_0 0 rfl) rfl (cl_callV0 (caX11_round_165 cA) (hx_dq tdX11_round_0 1 rfl) (cF_S0 hF) (Nat.le_of_ble_eq_true rfl) (Nat.le_refl _) (Nat.le_refl _) (sX11_lawInForce_mk hF hw (fun r1_2 hw => ?_)))
  refine cl_astore_nQ hG (hx_dq tdX11_round_0 2 rfl) (Nat.le_of_ble_eq_true rfl) rfl (cl_iload_n hG (hx_dq tdX11_round_0 3 rfl) rfl (cl_iconst hG 1 (hx_dq tdX11_round_0 4 rfl) iconst_1 (cl_bipush hG 100 (hx_dq tdX11_round_0 5 rfl) bipush_100 (cl_callS3 (caX11_round_94 cA) (hx_dq tdX11_round_0 6 rfl) (Nat.le_of_ble_eq_true rfl) (Nat.le_refl _) (Nat.le_refl _) (sX11_within_mk hw (fun r9_4 hw => ?_))))))
  refine cl_if_eq hG 28 (hx_dq tdX11_round_0 7 rfl) rfl (fun c12 => ?_) (fun c12 => ?_)
  · replace hw := hw.1 c12
    exact cl_sub hG (hx_le_c rfl (hx_le_c rfl (hx_le_c rfl (hx_le_c rfl (hx_le_n hx_le_0))))) (kX11_round_J28 hG cA hF v1 v2 r1_2 hK hw)
  · replace hw := hw.2 c12
    refine cl_iload_n hG (hx_dq tdX11_round_0 8 rfl) rfl (cl_iconst hG 0 (hx_dq tdX11_round_0 9 rfl) iconst_0 (cl_iconst hG 1 (hx_dq tdX11_round_0 10 rfl) iconst_1 (cl_callS3 (caX11_round_94 cA) (hx_dq tdX11_round_0 11 rfl) (Nat.le_of_ble_eq_true rfl) (Nat.le_refl _) (Nat.le_refl _) (sX11_within_mk hw (fun r18_13 hw => ?_)))))
    refine cl_if_eq hG 28 (hx_dq tdX11_round_0 12 rfl) rfl (fun c21 => ?_) (fun c21 => ?_)
    · replace hw := hw.1 c21
      exact cl_sub hG (hx_le_c rfl (hx_le_c rfl (hx_le_c rfl (hx_le_c rfl (hx_le_n hx_le_0))))) (kX11_round_J28 hG cA hF v1 v2 r1_2 hK hw)
    · replace hw := hw.2 c21
      refine cl_iconst hG 1 (hx_dq tdX11_round_0 13 rfl) iconst_1 (cl_goto hG 29 (hx_dq tdX11_round_0 14 rfl) rfl ?_)
      exact cl_sub hG (hx_le_c rfl (hx_le_c rfl (hx_le_c rfl (hx_le_c rfl (hx_le_n hx_le_0))))) (kX11_round_J29_14 hG cA hF v1 v2 r1_2 1 hK hw)
def sX11_round : hx_ST := fun Λ μ as KK => cF Λ ∧ ∃ (v1 : Int32) (v2 : Int32) (K : Int32 → hx_M → Prop), as = [.ref 0, .int v1, .int v2] ∧ wX11_round Λ μ v1 v2 K ∧ (∀ (r : Int32) (m : hx_M), K r m → KK (some (.int r)) Λ m)
theorem sX11_round_mk {Λ : hx_L} {μ : hx_M} {KK : hx_KT} {v1 : Int32} {v2 : Int32} {K : Int32 → hx_M → Prop} (hF : cF Λ) (hw : wX11_round Λ μ v1 v2 K) (hk : ∀ (r : Int32) (m : hx_M), K r m → KK (some (.int r)) Λ m) : sX11_round Λ μ [.ref 0, .int v1, .int v2] KK := ⟨hF, _, _, _, rfl, hw, hk⟩
theorem conX11_round : hx_Con yX11_round cX11_round 5 (some .int) 8 0 0 sX11_round := by
  refine hx_con_of (by decide +kernel) tokX11 (by decide) ?_ ?_
  · intro Λ μ as KK h
    obtain ⟨hF, v1, v2, K, rfl, hw, hK⟩ := h
    exact Nat.le_of_ble_eq_true rfl
  · intro G KK hG cA Λ μ as h
    obtain ⟨hF, v1, v2, K, rfl, hw, hK⟩ := h
    exact cl_sub hG (hx_le_c rfl (hx_le_c rfl (hx_le_c rfl (hx_le_n (hx_le_n hx_le_0))))) (kX11_round hG cA hF _ _ hK hw)
/-! HemLine.pushed(IIII)I -/
def tbX11_pushed_0 : List (Nat × Instr × Nat) := [(0, .aload_n 0, 1), (1, .invokevirtual 165, 3), (4, .astore 5, 2), (6, .iload_n 1, 1), (7, .iconst 1, 1), (8, .bipush 100, 2), (10, .invokestatic 94, 3), (13, .ifCond .eq 37, 3), (16, .iload_n 2, 1), (17, .iconst 1, 1), (18, .bipush 20, 2), (20, .invokestatic 94, 3), (23, .ifCond .eq 27, 3), (26, .iload_n 3, 1), (27, .iconst 0, 1), (28, .bipush 99, 2), (30, .invokestatic 94, 3), (33, .ifCond .eq 17, 3), (36, .iload 4, 2), (38, .iconst 0, 1), (39, .iconst 1, 1), (40, .invokestatic 94, 3), (43, .ifCond .eq 7, 3), (46, .iconst 1, 1), (47, .goto 4, 3), (50, .iconst 0, 1), (51, .istore 6, 2), (53, .iload 6, 2), (55, .ifCond .eq 21, 3), (58, .aload 5, 2), (60, .ifnull 16, 3), (63, .aload_n 0, 1)]
def tbX11_pushed_1 : List (Nat × Instr × Nat) := [(64, .getfield 46, 3), (67, .getfield 101, 3), (70, .invokevirtual 169, 3), (73, .ifCond .eq 5, 3), (76, .iconst (-1), 1), (77, .ireturn, 1), (78, .aload_n 0, 1), (79, .getfield 55, 3), (82, .aload 5, 2), (84, .iload_n 1, 1), (85, .iload_n 2, 1), (86, .iload_n 3, 1), (87, .invokevirtual 206, 3), (90, .aload_n 0, 1), (91, .getfield 55, 3), (94, .iload_n 1, 1), (95, .iconst 2, 1), (96, .iload_n 2, 1), (97, .imul, 1), (98, .iload 4, 2), (100, .invokevirtual 210, 3), (103, .ireturn, 1)]
theorem tdX11_pushed_0 : hx_dt cX11_pushed tbX11_pushed_0 = true := by decide +kernel
theorem tdX11_pushed_1 : hx_dt cX11_pushed tbX11_pushed_1 = true := by decide +kernel
theorem caX11_pushed_94 {G : hx_GT} (cA : hx_CA RX11 cX11_pushed 8 0 0 G) : hx_CS cX11_pushed G 0 0 94 3 sX11_within 0 0 := cA.2.1 conX11_within ⟨by decide +kernel, by decide +kernel, by decide +kernel⟩ mw_477 mw_478 mw_84 mw_479 (by decide) (by decide)
theorem caX11_pushed_165 {G : hx_GT} (cA : hx_CA RX11 cX11_pushed 8 0 0 G) : hx_CV cX11_pushed G 0 0 165 11 0 sX11_lawInForce 0 0 := cA.1 conX11_lawInForce rfl rfl ⟨by decide +kernel, by decide +kernel, by decide +kernel⟩ mw_687 mw_689 mw_15 mw_84 mw_690 (by decide) (by decide)
theorem caX11_pushed_169 {G : hx_GT} (cA : hx_CA RX11 cX11_pushed 8 0 0 G) : hx_CV cX11_pushed G 0 0 169 4 0 sX4_isEmpty 0 0 := cA.1 conX4_isEmpty rfl rfl ⟨by decide +kernel, by decide +kernel, by decide +kernel⟩ mw_691 mw_692 mw_693 mw_87 mw_694 (by decide) (by decide)
theorem caX11_pushed_206 {G : hx_GT} (cA : hx_CA RX11 cX11_pushed 8 0 0 G) : hx_CV cX11_pushed G 0 0 206 9 4 sX9_rehearse 0 0 := cA.1 conX9_rehearse rfl rfl ⟨by decide +kernel, by decide +kernel, by decide +kernel⟩ mw_812 mw_813 mw_814 mw_92 mw_815 (by decide) (by decide)
theorem caX11_pushed_210 {G : hx_GT} (cA : hx_CA RX11 cX11_pushed 8 0 0 G) : hx_CV cX11_pushed G 0 0 210 9 3 sX9_roundIn 0 0 := cA.1 conX9_roundIn rfl rfl ⟨by decide +kernel, by decide +kernel, by decide +kernel⟩ mw_822 mw_823 mw_824 mw_92 mw_825 (by decide) (by decide)
def wX11_pushed_J51 (Λ : hx_L) (K : Int32 → hx_M → Prop)  (v1 : Int32) (v2 : Int32) (v3 : Int32) (v4 : Int32) (v5 : Option Nat) (t0 : Int32) (μ : hx_M) : Prop := (t0 = 0 → (K (-1) μ)) ∧ (¬ (t0 = 0) → ((v5 = none → (K (-1) μ)) ∧ (∀ k60_5, v5 = some k60_5 → (wX4_isEmpty μ (fun r70_7 => (r70_7 = 0 → (wX9_rehearse Λ μ k60_5 v1 v2 v3 (fun m87_8 => wX9_roundIn m87_8 v1 (2 * v2) v4 (fun r100_11 => K r100_11 m87_8)))) ∧ (¬ (r70_7 = 0) → (K (-1) μ)))))))
set_option maxRecDepth 100000 in
set_option maxHeartbeats 4000000 in
theorem kX11_pushed_J51 {G : hx_GT} {KK : hx_KT} (hG : hx_K cX11_pushed 7 0 0 (some .int) TbX11 KK G) (cA : hx_CA RX11 cX11_pushed 8 0 0 G) {Λ : hx_L} (hF : cF Λ) {μ : hx_M} (v1 : Int32) (v2 : Int32) (v3 : Int32) (v4 : Int32) (v5 : Option Nat) (t0 : Int32) {K : Int32 → hx_M → Prop} (hK : ∀ (r : Int32) (m : hx_M), K r m → KK (some (.int r)) Λ m)  (hw : wX11_pushed_J51 Λ K v1 v2 v3 v4 v5 t0 μ) : G Λ μ (0, 0) 51 [some (.ref 0), some (.int v1), some (.int v2), some (.int v3), some (.int v4), some (va_rf v5), none] [.int t0] := by
  unfold wX11_pushed_J51 at hw
  refine cl_istore hG (hx_dq tdX11_pushed_0 26 rfl) (Nat.le_of_ble_eq_true rfl) (hx_n2q rfl) (cl_iload hG (hx_dq tdX11_pushed_0 27 rfl) rfl (cl_if_eq hG 76 (hx_dq tdX11_pushed_0 28 rfl) rfl (fun c55 => ?_) (fun c55 => ?_)))
  · replace hw := hw.1 c55
    exact cl_iconst hG (-1) (hx_dq tdX11_pushed_1 4 rfl) iconst_m1 (cl_iret hG (hx_dq tdX11_pushed_1 5 rfl) rfl rfl (hK _ _ hw) (Nat.le_refl _) (Nat.le_refl _))
  · replace hw := hw.2 c55
    refine cl_aloadQ hG (hx_dq tdX11_pushed_0 29 rfl) rfl (cl_ifnull hG 76 (hx_dq tdX11_pushed_0 30 rfl) rfl (fun c60 => ?_) (fun k60_5 c60 => ?_))
    · replace hw := hw.1 c60
      exact cl_iconst hG (-1) (hx_dq tdX11_pushed_1 4 rfl) iconst_m1 (cl_iret hG (hx_dq tdX11_pushed_1 5 rfl) rfl rfl (hK _ _ hw) (Nat.le_refl _) (Nat.le_refl _))
    · replace hw := hw.2 k60_5 c60
      revert hw
      subst c60
      intro hw
      refine cl_aload_n hG (hx_dq tdX11_pushed_0 31 rfl) rfl (cl_getS hG fmX11_46 (hx_dq tdX11_pushed_1 0 rfl) (cF_S0 hF) (cF_R0_7 hF) (cl_getS hG fmX11_101 (hx_dq tdX11_pushed_1 1 rfl) (cF_S7 hF) (cF_R7_0 hF) (cl_callV0 (caX11_pushed_169 cA) (hx_dq tdX11_pushed_1 2 rfl) (cF_S8 hF) (Nat.le_of_ble_eq_true rfl) (Nat.le_refl _) (Nat.le_refl _) (sX4_isEmpty_mk hF hw (fun r70_7 hw => ?_)))))
      refine cl_if_eq hG 78 (hx_dq tdX11_pushed_1 3 rfl) rfl (fun c73 => ?_) (fun c73 => ?_)
      · replace hw := hw.1 c73
        refine cl_aload_n hG (hx_dq tdX11_pushed_1 6 rfl) rfl (cl_getS hG fmX11_55 (hx_dq tdX11_pushed_1 7 rfl) (cF_S0 hF) (cF_R0_8 hF) (cl_aload hG (hx_dq tdX11_pushed_1 8 rfl) rfl (cl_iload_n hG (hx_dq tdX11_pushed_1 9 rfl) rfl (cl_iload_n hG (hx_dq tdX11_pushed_1 10 rfl) rfl (cl_iload_n hG (hx_dq tdX11_pushed_1 11 rfl) rfl (cl_callV4 (caX11_pushed_206 cA) (hx_dq tdX11_pushed_1 12 rfl) (cF_S28 hF) (Nat.le_of_ble_eq_true rfl) (Nat.le_refl _) (Nat.le_refl _) (sX9_rehearse_mk hF hw (fun m87_8 hw => ?_))))))))
        refine cl_aload_n hG (hx_dq tdX11_pushed_1 13 rfl) rfl (cl_getS hG fmX11_55 (hx_dq tdX11_pushed_1 14 rfl) (cF_S0 hF) (cF_R0_8 hF) (cl_iload_n hG (hx_dq tdX11_pushed_1 15 rfl) rfl (cl_iconst hG 2 (hx_dq tdX11_pushed_1 16 rfl) iconst_2 (cl_iload_n hG (hx_dq tdX11_pushed_1 17 rfl) rfl (cl_imul hG (hx_dq tdX11_pushed_1 18 rfl) (cl_iload hG (hx_dq tdX11_pushed_1 19 rfl) rfl (cl_callV3 (caX11_pushed_210 cA) (hx_dq tdX11_pushed_1 20 rfl) (cF_S28 hF) (Nat.le_of_ble_eq_true rfl) (Nat.le_refl _) (Nat.le_refl _) (sX9_roundIn_mk hF hw (fun r100_11 hw => ?_)))))))))
        exact cl_iret hG (hx_dq tdX11_pushed_1 21 rfl) rfl rfl (hK _ _ hw) (Nat.le_refl _) (Nat.le_refl _)
      · replace hw := hw.2 c73
        exact cl_iconst hG (-1) (hx_dq tdX11_pushed_1 4 rfl) iconst_m1 (cl_iret hG (hx_dq tdX11_pushed_1 5 rfl) rfl rfl (hK _ _ hw) (Nat.le_refl _) (Nat.le_refl _))
def wX11_pushed_J50 (Λ : hx_L) (K : Int32 → hx_M → Prop)  (v1 : Int32) (v2 : Int32) (v3 : Int32) (v4 : Int32) (v5 : Option Nat)  (μ : hx_M) : Prop := wX11_pushed_J51 Λ K v1 v2 v3 v4 v5 0 μ
set_option maxRecDepth 100000 in
set_option maxHeartbeats 4000000 in
theorem kX11_pushed_J50 {G : hx_GT} {KK : hx_KT} (hG : hx_K cX11_pushed 7 0 0 (some .int) TbX11 KK G) (cA : hx_CA RX11 cX11_pushed 8 0 0 G) {Λ : hx_L} (hF : cF Λ) {μ : hx_M} (v1 : Int32) (v2 : Int32) (v3 : Int32) (v4 : Int32) (v5 : Option Nat)  {K : Int32 → hx_M → Prop} (hK : ∀ (r : Int32) (m : hx_M), K r m → KK (some (.int r)) Λ m)  (hw : wX11_pushed_J50 Λ K v1 v2 v3 v4 v5 μ) : G Λ μ (0, 0) 50 [some (.ref 0), some (.int v1), some (.int v2), some (.int v3), some (.int v4), some (va_rf v5), none] [] := by
  unfold wX11_pushed_J50 at hw
  refine cl_iconst hG 0 (hx_dq tdX11_pushed_0 25 rfl) iconst_0 ?_
  exact cl_sub hG (hx_le_c rfl (hx_le_c rfl (hx_le_c rfl (hx_le_c rfl (hx_le_c rfl (hx_le_c rfl (hx_le_n hx_le_0))))))) (kX11_pushed_J51 hG cA hF v1 v2 v3 v4 v5 0 hK hw)
def wX11_pushed_J51_18 (Λ : hx_L) (K : Int32 → hx_M → Prop)  (v1 : Int32) (v2 : Int32) (v3 : Int32) (v4 : Int32) (v5 : Option Nat) (t0 : Int32) (μ : hx_M) : Prop := (t0 = 0 → (K (-1) μ)) ∧ (¬ (t0 = 0) → ((v5 = none → (K (-1) μ)) ∧ (∀ k60_19, v5 = some k60_19 → (wX4_isEmpty μ (fun r70_21 => (r70_21 = 0 → (wX9_rehearse Λ μ k60_19 v1 v2 v3 (fun m87_22 => wX9_roundIn m87_22 v1 (2 * v2) v4 (fun r100_25 => K r100_25 m87_22)))) ∧ (¬ (r70_21 = 0) → (K (-1) μ)))))))
set_option maxRecDepth 100000 in
set_option maxHeartbeats 4000000 in
theorem kX11_pushed_J51_18 {G : hx_GT} {KK : hx_KT} (hG : hx_K cX11_pushed 7 0 0 (some .int) TbX11 KK G) (cA : hx_CA RX11 cX11_pushed 8 0 0 G) {Λ : hx_L} (hF : cF Λ) {μ : hx_M} (v1 : Int32) (v2 : Int32) (v3 : Int32) (v4 : Int32) (v5 : Option Nat) (t0 : Int32) {K : Int32 → hx_M → Prop} (hK : ∀ (r : Int32) (m : hx_M), K r m → KK (some (.int r)) Λ m)  (hw : wX11_pushed_J51_18 Λ K v1 v2 v3 v4 v5 t0 μ) : G Λ μ (0, 0) 51 [some (.ref 0), some (.int v1), some (.int v2), some (.int v3), some (.int v4), some (va_rf v5), none] [.int t0] := by
  unfold wX11_pushed_J51_18 at hw
  refine cl_istore hG (hx_dq tdX11_pushed_0 26 rfl) (Nat.le_of_ble_eq_true rfl) (hx_n2q rfl) (cl_iload hG (hx_dq tdX11_pushed_0 27 rfl) rfl (cl_if_eq hG 76 (hx_dq tdX11_pushed_0 28 rfl) rfl (fun c55 => ?_) (fun c55 => ?_)))
  · replace hw := hw.1 c55
    exact cl_iconst hG (-1) (hx_dq tdX11_pushed_1 4 rfl) iconst_m1 (cl_iret hG (hx_dq tdX11_pushed_1 5 rfl) rfl rfl (hK _ _ hw) (Nat.le_refl _) (Nat.le_refl _))
  · replace hw := hw.2 c55
    refine cl_aloadQ hG (hx_dq tdX11_pushed_0 29 rfl) rfl (cl_ifnull hG 76 (hx_dq tdX11_pushed_0 30 rfl) rfl (fun c60 => ?_) (fun k60_19 c60 => ?_))
    · replace hw := hw.1 c60
      exact cl_iconst hG (-1) (hx_dq tdX11_pushed_1 4 rfl) iconst_m1 (cl_iret hG (hx_dq tdX11_pushed_1 5 rfl) rfl rfl (hK _ _ hw) (Nat.le_refl _) (Nat.le_refl _))
    · replace hw := hw.2 k60_19 c60
      revert hw
      subst c60
      intro hw
      refine cl_aload_n hG (hx_dq tdX11_pushed_0 31 rfl) rfl (cl_getS hG fmX11_46 (hx_dq tdX11_pushed_1 0 rfl) (cF_S0 hF) (cF_R0_7 hF) (cl_getS hG fmX11_101 (hx_dq tdX11_pushed_1 1 rfl) (cF_S7 hF) (cF_R7_0 hF) (cl_callV0 (caX11_pushed_169 cA) (hx_dq tdX11_pushed_1 2 rfl) (cF_S8 hF) (Nat.le_of_ble_eq_true rfl) (Nat.le_refl _) (Nat.le_refl _) (sX4_isEmpty_mk hF hw (fun r70_21 hw => ?_)))))
      refine cl_if_eq hG 78 (hx_dq tdX11_pushed_1 3 rfl) rfl (fun c73 => ?_) (fun c73 => ?_)
      · replace hw := hw.1 c73
        refine cl_aload_n hG (hx_dq tdX11_pushed_1 6 rfl) rfl (cl_getS hG fmX11_55 (hx_dq tdX11_pushed_1 7 rfl) (cF_S0 hF) (cF_R0_8 hF) (cl_aload hG (hx_dq tdX11_pushed_1 8 rfl) rfl (cl_iload_n hG (hx_dq tdX11_pushed_1 9 rfl) rfl (cl_iload_n hG (hx_dq tdX11_pushed_1 10 rfl) rfl (cl_iload_n hG (hx_dq tdX11_pushed_1 11 rfl) rfl (cl_callV4 (caX11_pushed_206 cA) (hx_dq tdX11_pushed_1 12 rfl) (cF_S28 hF) (Nat.le_of_ble_eq_true rfl) (Nat.le_refl _) (Nat.le_refl _) (sX9_rehearse_mk hF hw (fun m87_22 hw => ?_))))))))
        refine cl_aload_n hG (hx_dq tdX11_pushed_1 13 rfl) rfl (cl_getS hG fmX11_55 (hx_dq tdX11_pushed_1 14 rfl) (cF_S0 hF) (cF_R0_8 hF) (cl_iload_n hG (hx_dq tdX11_pushed_1 15 rfl) rfl (cl_iconst hG 2 (hx_dq tdX11_pushed_1 16 rfl) iconst_2 (cl_iload_n hG (hx_dq tdX11_pushed_1 17 rfl) rfl (cl_imul hG (hx_dq tdX11_pushed_1 18 rfl) (cl_iload hG (hx_dq tdX11_pushed_1 19 rfl) rfl (cl_callV3 (caX11_pushed_210 cA) (hx_dq tdX11_pushed_1 20 rfl) (cF_S28 hF) (Nat.le_of_ble_eq_true rfl) (Nat.le_refl _) (Nat.le_refl _) (sX9_roundIn_mk hF hw (fun r100_25 hw => ?_)))))))))
        exact cl_iret hG (hx_dq tdX11_pushed_1 21 rfl) rfl rfl (hK _ _ hw) (Nat.le_refl _) (Nat.le_refl _)
      · replace hw := hw.2 c73
        exact cl_iconst hG (-1) (hx_dq tdX11_pushed_1 4 rfl) iconst_m1 (cl_iret hG (hx_dq tdX11_pushed_1 5 rfl) rfl rfl (hK _ _ hw) (Nat.le_refl _) (Nat.le_refl _))
def wX11_pushed (Λ : hx_L) (μ : hx_M) (v1 : Int32) (v2 : Int32) (v3 : Int32) (v4 : Int32) (K : Int32 → hx_M → Prop) : Prop := wX11_lawInForce Λ μ (fun r1_2 => wX11_within v1 1 100 (fun r10_4 => (r10_4 = 0 → (wX11_pushed_J50 Λ K v1 v2 v3 v4 r1_2 μ)) ∧ (¬ (r10_4 = 0) → (wX11_within v2 1 20 (fun r20_13 => (r20_13 = 0 → (wX11_pushed_J50 Λ K v1 v2 v3 v4 r1_2 μ)) ∧ (¬ (r20_13 = 0) → (wX11_within v3 0 99 (fun r30_15 => (r30_15 = 0 → (wX11_pushed_J50 Λ K v1 v2 v3 v4 r1_2 μ)) ∧ (¬ (r30_15 = 0) → (wX11_within v4 0 1 (fun r40_17 => (r40_17 = 0 → (wX11_pushed_J50 Λ K v1 v2 v3 v4 r1_2 μ)) ∧ (¬ (r40_17 = 0) → (wX11_pushed_J51_18 Λ K v1 v2 v3 v4 r1_2 1 μ)))))))))))))
set_option maxRecDepth 100000 in
set_option maxHeartbeats 4000000 in
theorem kX11_pushed {G : hx_GT} {KK : hx_KT} (hG : hx_K cX11_pushed 7 0 0 (some .int) TbX11 KK G) (cA : hx_CA RX11 cX11_pushed 8 0 0 G) {Λ : hx_L} (hF : cF Λ) {μ : hx_M} (v1 : Int32) (v2 : Int32) (v3 : Int32) (v4 : Int32) {K : Int32 → hx_M → Prop} (hK : ∀ (r : Int32) (m : hx_M), K r m → KK (some (.int r)) Λ m) (hw : wX11_pushed Λ μ v1 v2 v3 v4 K) : G Λ μ (0, 0) 0 [some (.ref 0), some (.int v1), some (.int v2), some (.int v3), some (.int v4), none, none] [] := by
  unfold wX11_pushed at hw
  refine cl_aload_n hG (hx_dq tdX11_pushed_0 0 rfl) rfl (cl_callV0 (caX11_pushed_165 cA) (hx_dq tdX11_pushed_0 1 rfl) (cF_S0 hF) (Nat.le_of_ble_eq_true rfl) (Nat.le_refl _) (Nat.le_refl _) (sX11_lawInForce_mk hF hw (fun r1_2 hw => ?_)))
  refine cl_astoreQ hG (hx_dq tdX11_pushed_0 2 rfl) (Nat.le_of_ble_eq_true rfl) rfl (cl_iload_n hG (hx_dq tdX11_pushed_0 3 rfl) rfl (cl_iconst hG 1 (hx_dq tdX11_pushed_0 4 rfl) iconst_1 (cl_bipush hG 100 (hx_dq tdX11_pushed_0 5 rfl) bipush_100 (cl_callS3 (caX11_pushed_94 cA) (hx_dq tdX11_pushed_0 6 rfl) (Nat.le_of_ble_eq_true rfl) (Nat.le_refl _) (Nat.le_refl _) (sX11_within_mk hw (fun r10_4 hw => ?_))))))
  refine cl_if_eq hG 50 (hx_dq tdX11_pushed_0 7 rfl) rfl (fun c13 => ?_) (fun c13 => ?_)
  · replace hw := hw.1 c13
    exact cl_sub hG (hx_le_c rfl (hx_le_c rfl (hx_le_c rfl (hx_le_c rfl (hx_le_c rfl (hx_le_c rfl (hx_le_n hx_le_0))))))) (kX11_pushed_J50 hG cA hF v1 v2 v3 v4 r1_2 hK hw)
  · replace hw := hw.2 c13
    refine cl_iload_n hG (hx_dq tdX11_pushed_0 8 rfl) rfl (cl_iconst hG 1 (hx_dq tdX11_pushed_0 9 rfl) iconst_1 (cl_bipush hG 20 (hx_dq tdX11_pushed_0 10 rfl) bipush_20 (cl_callS3 (caX11_pushed_94 cA) (hx_dq tdX11_pushed_0 11 rfl) (Nat.le_of_ble_eq_true rfl) (Nat.le_refl _) (Nat.le_refl _) (sX11_within_mk hw (fun r20_13 hw => ?_)))))
    refine cl_if_eq hG 50 (hx_dq tdX11_pushed_0 12 rfl) rfl (fun c23 => ?_) (fun c23 => ?_)
    · replace hw := hw.1 c23
      exact cl_sub hG (hx_le_c rfl (hx_le_c rfl (hx_le_c rfl (hx_le_c rfl (hx_le_c rfl (hx_le_c rfl (hx_le_n hx_le_0))))))) (kX11_pushed_J50 hG cA hF v1 v2 v3 v4 r1_2 hK hw)
    · replace hw := hw.2 c23
      refine cl_iload_n hG (hx_dq tdX11_pushed_0 13 rfl) rfl (cl_iconst hG 0 (hx_dq tdX11_pushed_0 14 rfl) iconst_0 (cl_bipush hG 99 (hx_dq tdX11_pushed_0 15 rfl) bipush_99 (cl_callS3 (caX11_pushed_94 cA) (hx_dq tdX11_pushed_0 16 rfl) (Nat.le_of_ble_eq_true rfl) (Nat.le_refl _) (Nat.le_refl _) (sX11_within_mk hw (fun r30_15 hw => ?_)))))
      refine cl_if_eq hG 50 (hx_dq tdX11_pushed_0 17 rfl) rfl (fun c33 => ?_) (fun c33 => ?_)
      · replace hw := hw.1 c33
        exact cl_sub hG (hx_le_c rfl (hx_le_c rfl (hx_le_c rfl (hx_le_c rfl (hx_le_c rfl (hx_le_c rfl (hx_le_n hx_le_0))))))) (kX11_pushed_J50 hG cA hF v1 v2 v3 v4 r1_2 hK hw)
      · replace hw := hw.2 c33
        refine cl_iload hG (hx_dq tdX11_pushed_0 18 rfl) rfl (cl_iconst hG 0 (hx_dq tdX11_pushed_0 19 rfl) iconst_0 (cl_iconst hG 1 (hx_dq tdX11_pushed_0 20 rfl) iconst_1 (cl_callS3 (caX11_pushed_94 cA) (hx_dq tdX11_pushed_0 21 rfl) (Nat.le_of_ble_eq_true rfl) (Nat.le_refl _) (Nat.le_refl _) (sX11_within_mk hw (fun r40_17 hw => ?_)))))
        refine cl_if_eq hG 50 (hx_dq tdX11_pushed_0 22 rfl) rfl (fun c43 => ?_) (fun c43 => ?_)
        · replace hw := hw.1 c43
          exact cl_sub hG (hx_le_c rfl (hx_le_c rfl (hx_le_c rfl (hx_le_c rfl (hx_le_c rfl (hx_le_c rfl (hx_le_n hx_le_0))))))) (kX11_pushed_J50 hG cA hF v1 v2 v3 v4 r1_2 hK hw)
        · replace hw := hw.2 c43
          refine cl_iconst hG 1 (hx_dq tdX11_pushed_0 23 rfl) iconst_1 (cl_goto hG 51 (hx_dq tdX11_pushed_0 24 rfl) rfl ?_)
          exact cl_sub hG (hx_le_c rfl (hx_le_c rfl (hx_le_c rfl (hx_le_c rfl (hx_le_c rfl (hx_le_c rfl (hx_le_n hx_le_0))))))) (kX11_pushed_J51_18 hG cA hF v1 v2 v3 v4 r1_2 1 hK hw)
def sX11_pushed : hx_ST := fun Λ μ as KK => cF Λ ∧ ∃ (v1 : Int32) (v2 : Int32) (v3 : Int32) (v4 : Int32) (K : Int32 → hx_M → Prop), as = [.ref 0, .int v1, .int v2, .int v3, .int v4] ∧ wX11_pushed Λ μ v1 v2 v3 v4 K ∧ (∀ (r : Int32) (m : hx_M), K r m → KK (some (.int r)) Λ m)
theorem sX11_pushed_mk {Λ : hx_L} {μ : hx_M} {KK : hx_KT} {v1 : Int32} {v2 : Int32} {v3 : Int32} {v4 : Int32} {K : Int32 → hx_M → Prop} (hF : cF Λ) (hw : wX11_pushed Λ μ v1 v2 v3 v4 K) (hk : ∀ (r : Int32) (m : hx_M), K r m → KK (some (.int r)) Λ m) : sX11_pushed Λ μ [.ref 0, .int v1, .int v2, .int v3, .int v4] KK := ⟨hF, _, _, _, _, _, rfl, hw, hk⟩
theorem conX11_pushed : hx_Con yX11_pushed cX11_pushed 7 (some .int) 8 0 0 sX11_pushed := by
  refine hx_con_of (by decide +kernel) tokX11 (by decide) ?_ ?_
  · intro Λ μ as KK h
    obtain ⟨hF, v1, v2, v3, v4, K, rfl, hw, hK⟩ := h
    exact Nat.le_of_ble_eq_true rfl
  · intro G KK hG cA Λ μ as h
    obtain ⟨hF, v1, v2, v3, v4, K, rfl, hw, hK⟩ := h
    exact cl_sub hG (hx_le_c rfl (hx_le_c rfl (hx_le_c rfl (hx_le_c rfl (hx_le_c rfl (hx_le_n (hx_le_n hx_le_0))))))) (kX11_pushed hG cA hF _ _ _ _ hK hw)
/-! HemLine.led(II)I -/
def tbX11_led_0 : List (Nat × Instr × Nat) := [(0, .aload_n 0, 1), (1, .getfield 46, 3), (4, .getfield 101, 3), (7, .iload_n 1, 1), (8, .invokevirtual 124, 3), (11, .ifCond .eq 12, 3), (14, .iload_n 2, 1), (15, .iconst 0, 1), (16, .iconst 3, 1), (17, .invokestatic 94, 3), (20, .ifCond .ne 5, 3), (23, .iconst (-1), 1), (24, .ireturn, 1), (25, .aload_n 0, 1), (26, .getfield 62, 3), (29, .iload_n 1, 1), (30, .iload_n 2, 1), (31, .invokevirtual 214, 3), (34, .ireturn, 1)]
theorem tdX11_led_0 : hx_dt cX11_led tbX11_led_0 = true := by decide +kernel
theorem caX11_led_94 {G : hx_GT} (cA : hx_CA RX11 cX11_led 5 0 0 G) : hx_CS cX11_led G 0 0 94 3 sX11_within 0 0 := cA.2.1 conX11_within ⟨by decide +kernel, by decide +kernel, by decide +kernel⟩ mw_477 mw_478 mw_84 mw_479 (by decide) (by decide)
theorem caX11_led_124 {G : hx_GT} (cA : hx_CA RX11 cX11_led 5 0 0 G) : hx_CV cX11_led G 0 0 124 4 1 sX4_has 0 0 := cA.1 conX4_has rfl rfl ⟨by decide +kernel, by decide +kernel, by decide +kernel⟩ mw_488 mw_489 mw_490 mw_87 mw_491 (by decide) (by decide)
theorem caX11_led_214 {G : hx_GT} (cA : hx_CA RX11 cX11_led 5 0 0 G) : hx_CV cX11_led G 0 0 214 0 2 sX0_changesOf 0 0 := cA.1 conX0_changesOf rfl rfl ⟨by decide +kernel, by decide +kernel, by decide +kernel⟩ mw_844 mw_845 mw_846 mw_93 mw_847 (by decide) (by decide)
def wX11_led (Λ : hx_L) (μ : hx_M) (v1 : Int32) (v2 : Int32) (K : Int32 → hx_M → Prop) : Prop := wX4_has μ v1 (fun r8_2 => (r8_2 = 0 → (K (-1) μ)) ∧ (¬ (r8_2 = 0) → (wX11_within v2 0 3 (fun r17_4 => (r17_4 ≠ 0 → (wX0_changesOf Λ μ v1 v2 (fun r31_6 m31_5 => K r31_6 m31_5))) ∧ (r17_4 = 0 → (K (-1) μ))))))
set_option maxRecDepth 100000 in
set_option maxHeartbeats 4000000 in
theorem kX11_led {G : hx_GT} {KK : hx_KT} (hG : hx_K cX11_led 3 0 0 (some .int) TbX11 KK G) (cA : hx_CA RX11 cX11_led 5 0 0 G) {Λ : hx_L} (hF : cF Λ) {μ : hx_M} (v1 : Int32) (v2 : Int32) {K : Int32 → hx_M → Prop} (hK : ∀ (r : Int32) (m : hx_M), K r m → KK (some (.int r)) Λ m) (hw : wX11_led Λ μ v1 v2 K) : G Λ μ (0, 0) 0 [some (.ref 0), some (.int v1), some (.int v2)] [] := by
  unfold wX11_led at hw
  refine cl_aload_n hG (hx_dq tdX11_led_0 0 rfl) rfl (cl_getS hG fmX11_46 (hx_dq tdX11_led_0 1 rfl) (cF_S0 hF) (cF_R0_7 hF) (cl_getS hG fmX11_101 (hx_dq tdX11_led_0 2 rfl) (cF_S7 hF) (cF_R7_0 hF) (cl_iload_n hG (hx_dq tdX11_led_0 3 rfl) rfl (cl_callV1 (caX11_led_124 cA) (hx_dq tdX11_led_0 4 rfl) (cF_S8 hF) (Nat.le_of_ble_eq_true rfl) (Nat.le_refl _) (Nat.le_refl _) (sX4_has_mk hF hw (fun r8_2 hw => ?_))))))
  refine cl_if_eq hG 23 (hx_dq tdX11_led_0 5 rfl) rfl (fun c11 => ?_) (fun c11 => ?_)
  · replace hw := hw.1 c11
    exact cl_iconst hG (-1) (hx_dq tdX11_led_0 11 rfl) iconst_m1 (cl_iret hG (hx_dq tdX11_led_0 12 rfl) rfl rfl (hK _ _ hw) (Nat.le_refl _) (Nat.le_refl _))
  · replace hw := hw.2 c11
    refine cl_iload_n hG (hx_dq tdX11_led_0 6 rfl) rfl (cl_iconst hG 0 (hx_dq tdX11_led_0 7 rfl) iconst_0 (cl_iconst hG 3 (hx_dq tdX11_led_0 8 rfl) iconst_3 (cl_callS3 (caX11_led_94 cA) (hx_dq tdX11_led_0 9 rfl) (Nat.le_of_ble_eq_true rfl) (Nat.le_refl _) (Nat.le_refl _) (sX11_within_mk hw (fun r17_4 hw => ?_)))))
    refine cl_if_ne hG 25 (hx_dq tdX11_led_0 10 rfl) rfl (fun c20 => ?_) (fun c20 => ?_)
    · replace hw := hw.1 c20
      refine cl_aload_n hG (hx_dq tdX11_led_0 13 rfl) rfl (cl_getS hG fmX11_62 (hx_dq tdX11_led_0 14 rfl) (cF_S0 hF) (cF_R0_9 hF) (cl_iload_n hG (hx_dq tdX11_led_0 15 rfl) rfl (cl_iload_n hG (hx_dq tdX11_led_0 16 rfl) rfl (cl_callV2 (caX11_led_214 cA) (hx_dq tdX11_led_0 17 rfl) (cF_S36 hF) (Nat.le_of_ble_eq_true rfl) (Nat.le_refl _) (Nat.le_refl _) (sX0_changesOf_mk hF hw (fun r31_6 m31_5 hw => ?_))))))
      exact cl_iret hG (hx_dq tdX11_led_0 18 rfl) rfl rfl (hK _ _ hw) (Nat.le_refl _) (Nat.le_refl _)
    · replace hw := hw.2 c20
      exact cl_iconst hG (-1) (hx_dq tdX11_led_0 11 rfl) iconst_m1 (cl_iret hG (hx_dq tdX11_led_0 12 rfl) rfl rfl (hK _ _ hw) (Nat.le_refl _) (Nat.le_refl _))
def sX11_led : hx_ST := fun Λ μ as KK => cF Λ ∧ ∃ (v1 : Int32) (v2 : Int32) (K : Int32 → hx_M → Prop), as = [.ref 0, .int v1, .int v2] ∧ wX11_led Λ μ v1 v2 K ∧ (∀ (r : Int32) (m : hx_M), K r m → KK (some (.int r)) Λ m)
theorem sX11_led_mk {Λ : hx_L} {μ : hx_M} {KK : hx_KT} {v1 : Int32} {v2 : Int32} {K : Int32 → hx_M → Prop} (hF : cF Λ) (hw : wX11_led Λ μ v1 v2 K) (hk : ∀ (r : Int32) (m : hx_M), K r m → KK (some (.int r)) Λ m) : sX11_led Λ μ [.ref 0, .int v1, .int v2] KK := ⟨hF, _, _, _, rfl, hw, hk⟩
theorem conX11_led : hx_Con yX11_led cX11_led 3 (some .int) 5 0 0 sX11_led := by
  refine hx_con_of (by decide +kernel) tokX11 (by decide) ?_ ?_
  · intro Λ μ as KK h
    obtain ⟨hF, v1, v2, K, rfl, hw, hK⟩ := h
    exact Nat.le_of_ble_eq_true rfl
  · intro G KK hG cA Λ μ as h
    obtain ⟨hF, v1, v2, K, rfl, hw, hK⟩ := h
    exact cl_sub hG (hx_le_c rfl (hx_le_c rfl (hx_le_c rfl hx_le_0))) (kX11_led hG cA hF _ _ hK hw)
/-! HemLine.alone(III)I -/
def tbX11_alone_0 : List (Nat × Instr × Nat) := [(0, .iload_n 1, 1), (1, .iconst 1, 1), (2, .bipush 60, 2), (4, .invokestatic 94, 3), (7, .ifCond .eq 22, 3), (10, .iload_n 2, 1), (11, .iconst 1, 1), (12, .bipush 20, 2), (14, .invokestatic 94, 3), (17, .ifCond .eq 12, 3), (20, .iload_n 3, 1), (21, .iconst 0, 1), (22, .iconst 2, 1), (23, .invokestatic 94, 3), (26, .ifCond .ne 5, 3), (29, .iconst (-1), 1), (30, .ireturn, 1), (31, .aload_n 0, 1), (32, .getfield 62, 3), (35, .iload_n 1, 1), (36, .iload_n 2, 1), (37, .iload_n 3, 1), (38, .invokevirtual 217, 3), (41, .ireturn, 1)]
theorem tdX11_alone_0 : hx_dt cX11_alone tbX11_alone_0 = true := by decide +kernel
theorem caX11_alone_94 {G : hx_GT} (cA : hx_CA RX11 cX11_alone 5 0 0 G) : hx_CS cX11_alone G 0 0 94 3 sX11_within 0 0 := cA.2.1 conX11_within ⟨by decide +kernel, by decide +kernel, by decide +kernel⟩ mw_477 mw_478 mw_84 mw_479 (by decide) (by decide)
theorem caX11_alone_217 {G : hx_GT} (cA : hx_CA RX11 cX11_alone 5 0 0 G) : hx_CV cX11_alone G 0 0 217 0 3 sX0_startsOf 0 0 := cA.1 conX0_startsOf rfl rfl ⟨by decide +kernel, by decide +kernel, by decide +kernel⟩ mw_859 mw_860 mw_861 mw_93 mw_862 (by decide) (by decide)
def wX11_alone (μ : hx_M) (v1 : Int32) (v2 : Int32) (v3 : Int32) (K : Int32 → Prop) : Prop := wX11_within v1 1 60 (fun r4_2 => (r4_2 = 0 → (K (-1))) ∧ (¬ (r4_2 = 0) → (wX11_within v2 1 20 (fun r14_4 => (r14_4 = 0 → (K (-1))) ∧ (¬ (r14_4 = 0) → (wX11_within v3 0 2 (fun r23_6 => (r23_6 ≠ 0 → (wX0_startsOf μ v1 v2 v3 (fun r38_8 => K r38_8))) ∧ (r23_6 = 0 → (K (-1))))))))))
set_option maxRecDepth 100000 in
set_option maxHeartbeats 4000000 in
theorem kX11_alone {G : hx_GT} {KK : hx_KT} (hG : hx_K cX11_alone 4 0 0 (some .int) TbX11 KK G) (cA : hx_CA RX11 cX11_alone 5 0 0 G) {Λ : hx_L} (hF : cF Λ) {μ : hx_M} (v1 : Int32) (v2 : Int32) (v3 : Int32) {K : Int32 → Prop} (hK : ∀ (r : Int32), K r → KK (some (.int r)) Λ μ) (hw : wX11_alone μ v1 v2 v3 K) : G Λ μ (0, 0) 0 [some (.ref 0), some (.int v1), some (.int v2), some (.int v3)] [] := by
  unfold wX11_alone at hw
  refine cl_iload_n hG (hx_dq tdX11_alone_0 0 rfl) rfl (cl_iconst hG 1 (hx_dq tdX11_alone_0 1 rfl) iconst_1 (cl_bipush hG 60 (hx_dq tdX11_alone_0 2 rfl) bipush_60 (cl_callS3 (caX11_alone_94 cA) (hx_dq tdX11_alone_0 3 rfl) (Nat.le_of_ble_eq_true rfl) (Nat.le_refl _) (Nat.le_refl _) (sX11_within_mk hw (fun r4_2 hw => ?_)))))
  refine cl_if_eq hG 29 (hx_dq tdX11_alone_0 4 rfl) rfl (fun c7 => ?_) (fun c7 => ?_)
  · replace hw := hw.1 c7
    exact cl_iconst hG (-1) (hx_dq tdX11_alone_0 15 rfl) iconst_m1 (cl_iret hG (hx_dq tdX11_alone_0 16 rfl) rfl rfl (hK _ hw) (Nat.le_refl _) (Nat.le_refl _))
  · replace hw := hw.2 c7
    refine cl_iload_n hG (hx_dq tdX11_alone_0 5 rfl) rfl (cl_iconst hG 1 (hx_dq tdX11_alone_0 6 rfl) iconst_1 (cl_bipush hG 20 (hx_dq tdX11_alone_0 7 rfl) bipush_20 (cl_callS3 (caX11_alone_94 cA) (hx_dq tdX11_alone_0 8 rfl) (Nat.le_of_ble_eq_true rfl) (Nat.le_refl _) (Nat.le_refl _) (sX11_within_mk hw (fun r14_4 hw => ?_)))))
    refine cl_if_eq hG 29 (hx_dq tdX11_alone_0 9 rfl) rfl (fun c17 => ?_) (fun c17 => ?_)
    · replace hw := hw.1 c17
      exact cl_iconst hG (-1) (hx_dq tdX11_alone_0 15 rfl) iconst_m1 (cl_iret hG (hx_dq tdX11_alone_0 16 rfl) rfl rfl (hK _ hw) (Nat.le_refl _) (Nat.le_refl _))
    · replace hw := hw.2 c17
      refine cl_iload_n hG (hx_dq tdX11_alone_0 10 rfl) rfl (cl_iconst hG 0 (hx_dq tdX11_alone_0 11 rfl) iconst_0 (cl_iconst hG 2 (hx_dq tdX11_alone_0 12 rfl) iconst_2 (cl_callS3 (caX11_alone_94 cA) (hx_dq tdX11_alone_0 13 rfl) (Nat.le_of_ble_eq_true rfl) (Nat.le_refl _) (Nat.le_refl _) (sX11_within_mk hw (fun r23_6 hw => ?_)))))
      refine cl_if_ne hG 31 (hx_dq tdX11_alone_0 14 rfl) rfl (fun c26 => ?_) (fun c26 => ?_)
      · replace hw := hw.1 c26
        refine cl_aload_n hG (hx_dq tdX11_alone_0 17 rfl) rfl (cl_getS hG fmX11_62 (hx_dq tdX11_alone_0 18 rfl) (cF_S0 hF) (cF_R0_9 hF) (cl_iload_n hG (hx_dq tdX11_alone_0 19 rfl) rfl (cl_iload_n hG (hx_dq tdX11_alone_0 20 rfl) rfl (cl_iload_n hG (hx_dq tdX11_alone_0 21 rfl) rfl (cl_callV3 (caX11_alone_217 cA) (hx_dq tdX11_alone_0 22 rfl) (cF_S36 hF) (Nat.le_of_ble_eq_true rfl) (Nat.le_refl _) (Nat.le_refl _) (sX0_startsOf_mk hF hw (fun r38_8 hw => ?_)))))))
        exact cl_iret hG (hx_dq tdX11_alone_0 23 rfl) rfl rfl (hK _ hw) (Nat.le_refl _) (Nat.le_refl _)
      · replace hw := hw.2 c26
        exact cl_iconst hG (-1) (hx_dq tdX11_alone_0 15 rfl) iconst_m1 (cl_iret hG (hx_dq tdX11_alone_0 16 rfl) rfl rfl (hK _ hw) (Nat.le_refl _) (Nat.le_refl _))
def sX11_alone : hx_ST := fun Λ μ as KK => cF Λ ∧ ∃ (v1 : Int32) (v2 : Int32) (v3 : Int32) (K : Int32 → Prop), as = [.ref 0, .int v1, .int v2, .int v3] ∧ wX11_alone μ v1 v2 v3 K ∧ (∀ (r : Int32), K r → KK (some (.int r)) Λ μ)
theorem sX11_alone_mk {Λ : hx_L} {μ : hx_M} {KK : hx_KT} {v1 : Int32} {v2 : Int32} {v3 : Int32} {K : Int32 → Prop} (hF : cF Λ) (hw : wX11_alone μ v1 v2 v3 K) (hk : ∀ (r : Int32), K r → KK (some (.int r)) Λ μ) : sX11_alone Λ μ [.ref 0, .int v1, .int v2, .int v3] KK := ⟨hF, _, _, _, _, rfl, hw, hk⟩
theorem conX11_alone : hx_Con yX11_alone cX11_alone 4 (some .int) 5 0 0 sX11_alone := by
  refine hx_con_of (by decide +kernel) tokX11 (by decide) ?_ ?_
  · intro Λ μ as KK h
    obtain ⟨hF, v1, v2, v3, K, rfl, hw, hK⟩ := h
    exact Nat.le_of_ble_eq_true rfl
  · intro G KK hG cA Λ μ as h
    obtain ⟨hF, v1, v2, v3, K, rfl, hw, hK⟩ := h
    exact cl_sub hG (hx_le_c rfl (hx_le_c rfl (hx_le_c rfl (hx_le_c rfl hx_le_0)))) (kX11_alone hG cA hF _ _ _ hK hw)
/-! HemLine.like(II)I -/
def tbX11_like_0 : List (Nat × Instr × Nat) := [(0, .iload_n 1, 1), (1, .iconst 1, 1), (2, .bipush 10, 2), (4, .invokestatic 94, 3), (7, .ifCond .eq 25, 3), (10, .iload_n 2, 1), (11, .iconst 0, 1), (12, .iconst 1, 1), (13, .invokestatic 94, 3), (16, .ifCond .eq 16, 3), (19, .aload_n 0, 1), (20, .getfield 46, 3), (23, .getfield 101, 3), (26, .invokevirtual 169, 3), (29, .ifCond .eq 5, 3), (32, .iconst (-1), 1), (33, .ireturn, 1), (34, .aload_n 0, 1), (35, .getfield 62, 3), (38, .iload_n 1, 1), (39, .invokevirtual 220, 3), (42, .istore_n 3, 1), (43, .iload_n 3, 1), (44, .iconst (-1), 1), (45, .if_icmp .eq 7, 3), (48, .iload_n 2, 1), (49, .ifCond .ne 5, 3), (52, .iload_n 3, 1), (53, .ireturn, 1), (54, .aload_n 0, 1), (55, .getfield 46, 3), (58, .iload_n 3, 1)]
def tbX11_like_1 : List (Nat × Instr × Nat) := [(59, .iconst 1, 1), (60, .iadd, 1), (61, .invokevirtual 180, 3), (64, .aload_n 0, 1), (65, .getfield 46, 3), (68, .aload_n 0, 1), (69, .getfield 46, 3), (72, .getfield 98, 3), (75, .invokevirtual 180, 3), (78, .iadd, 1), (79, .aload_n 0, 1), (80, .getfield 46, 3), (83, .iload_n 3, 1), (84, .invokevirtual 180, 3), (87, .isub, 1), (88, .ireturn, 1)]
theorem tdX11_like_0 : hx_dt cX11_like tbX11_like_0 = true := by decide +kernel
theorem tdX11_like_1 : hx_dt cX11_like tbX11_like_1 = true := by decide +kernel
theorem caX11_like_94 {G : hx_GT} (cA : hx_CA RX11 cX11_like 3 0 0 G) : hx_CS cX11_like G 0 0 94 3 sX11_within 0 0 := cA.2.1 conX11_within ⟨by decide +kernel, by decide +kernel, by decide +kernel⟩ mw_477 mw_478 mw_84 mw_479 (by decide) (by decide)
theorem caX11_like_169 {G : hx_GT} (cA : hx_CA RX11 cX11_like 3 0 0 G) : hx_CV cX11_like G 0 0 169 4 0 sX4_isEmpty 0 0 := cA.1 conX4_isEmpty rfl rfl ⟨by decide +kernel, by decide +kernel, by decide +kernel⟩ mw_691 mw_692 mw_693 mw_87 mw_694 (by decide) (by decide)
theorem caX11_like_180 {G : hx_GT} (cA : hx_CA RX11 cX11_like 3 0 0 G) : hx_CV cX11_like G 0 0 180 10 1 sX10_lineAt 0 0 := cA.1 conX10_lineAt rfl rfl ⟨by decide +kernel, by decide +kernel, by decide +kernel⟩ mw_791 mw_792 mw_793 mw_86 mw_794 (by decide) (by decide)
theorem caX11_like_220 {G : hx_GT} (cA : hx_CA RX11 cX11_like 3 0 0 G) : hx_CV cX11_like G 0 0 220 0 1 sX0_mostLike 0 0 := cA.1 conX0_mostLike rfl rfl ⟨by decide +kernel, by decide +kernel, by decide +kernel⟩ mw_876 mw_877 mw_878 mw_93 mw_879 (by decide) (by decide)
def wX11_like (μ : hx_M) (v1 : Int32) (v2 : Int32) (K : Int32 → Prop) : Prop := wX11_within v1 1 10 (fun r4_2 => (r4_2 = 0 → (K (-1))) ∧ (¬ (r4_2 = 0) → (wX11_within v2 0 1 (fun r13_4 => (r13_4 = 0 → (K (-1))) ∧ (¬ (r13_4 = 0) → (wX4_isEmpty μ (fun r26_6 => (r26_6 = 0 → (wX0_mostLike μ v1 (fun r39_8 => (r39_8 = (-1) → (K r39_8)) ∧ (¬ (r39_8 = (-1)) → ((v2 ≠ 0 → (wX10_lineAt μ (r39_8 + 1) (fun r61_10 => wX10_lineAt μ (μ.1 7 7) (fun r75_12 => wX10_lineAt μ r39_8 (fun r84_14 => K ((r61_10 + r75_12) - r84_14)))))) ∧ (v2 = 0 → (K r39_8))))))) ∧ (¬ (r26_6 = 0) → (K (-1))))))))))
set_option maxRecDepth 100000 in
set_option maxHeartbeats 4000000 in
theorem kX11_like {G : hx_GT} {KK : hx_KT} (hG : hx_K cX11_like 4 0 0 (some .int) TbX11 KK G) (cA : hx_CA RX11 cX11_like 3 0 0 G) {Λ : hx_L} (hF : cF Λ) {μ : hx_M} (v1 : Int32) (v2 : Int32) {K : Int32 → Prop} (hK : ∀ (r : Int32), K r → KK (some (.int r)) Λ μ) (hw : wX11_like μ v1 v2 K) : G Λ μ (0, 0) 0 [some (.ref 0), some (.int v1), some (.int v2), none] [] := by
  unfold wX11_like at hw
  refine cl_iload_n hG (hx_dq tdX11_like_0 0 rfl) rfl (cl_iconst hG 1 (hx_dq tdX11_like_0 1 rfl) iconst_1 (cl_bipush hG 10 (hx_dq tdX11_like_0 2 rfl) bipush_10 (cl_callS3 (caX11_like_94 cA) (hx_dq tdX11_like_0 3 rfl) (Nat.le_of_ble_eq_true rfl) (Nat.le_refl _) (Nat.le_refl _) (sX11_within_mk hw (fun r4_2 hw => ?_)))))
  refine cl_if_eq hG 32 (hx_dq tdX11_like_0 4 rfl) rfl (fun c7 => ?_) (fun c7 => ?_)
  · replace hw := hw.1 c7
    exact cl_iconst hG (-1) (hx_dq tdX11_like_0 15 rfl) iconst_m1 (cl_iret hG (hx_dq tdX11_like_0 16 rfl) rfl rfl (hK _ hw) (Nat.le_refl _) (Nat.le_refl _))
  · replace hw := hw.2 c7
    refine cl_iload_n hG (hx_dq tdX11_like_0 5 rfl) rfl (cl_iconst hG 0 (hx_dq tdX11_like_0 6 rfl) iconst_0 (cl_iconst hG 1 (hx_dq tdX11_like_0 7 rfl) iconst_1 (cl_callS3 (caX11_like_94 cA) (hx_dq tdX11_like_0 8 rfl) (Nat.le_of_ble_eq_true rfl) (Nat.le_refl _) (Nat.le_refl _) (sX11_within_mk hw (fun r13_4 hw => ?_)))))
    refine cl_if_eq hG 32 (hx_dq tdX11_like_0 9 rfl) rfl (fun c16 => ?_) (fun c16 => ?_)
    · replace hw := hw.1 c16
      exact cl_iconst hG (-1) (hx_dq tdX11_like_0 15 rfl) iconst_m1 (cl_iret hG (hx_dq tdX11_like_0 16 rfl) rfl rfl (hK _ hw) (Nat.le_refl _) (Nat.le_refl _))
    · replace hw := hw.2 c16
      refine cl_aload_n hG (hx_dq tdX11_like_0 10 rfl) rfl (cl_getS hG fmX11_46 (hx_dq tdX11_like_0 11 rfl) (cF_S0 hF) (cF_R0_7 hF) (cl_getS hG fmX11_101 (hx_dq tdX11_like_0 12 rfl) (cF_S7 hF) (cF_R7_0 hF) (cl_callV0 (caX11_like_169 cA) (hx_dq tdX11_like_0 13 rfl) (cF_S8 hF) (Nat.le_of_ble_eq_true rfl) (Nat.le_refl _) (Nat.le_refl _) (sX4_isEmpty_mk hF hw (fun r26_6 hw => ?_)))))
      refine cl_if_eq hG 34 (hx_dq tdX11_like_0 14 rfl) rfl (fun c29 => ?_) (fun c29 => ?_)
      · replace hw := hw.1 c29
        refine cl_aload_n hG (hx_dq tdX11_like_0 17 rfl) rfl (cl_getS hG fmX11_62 (hx_dq tdX11_like_0 18 rfl) (cF_S0 hF) (cF_R0_9 hF) (cl_iload_n hG (hx_dq tdX11_like_0 19 rfl) rfl (cl_callV1 (caX11_like_220 cA) (hx_dq tdX11_like_0 20 rfl) (cF_S36 hF) (Nat.le_of_ble_eq_true rfl) (Nat.le_refl _) (Nat.le_refl _) (sX0_mostLike_mk hF hw (fun r39_8 hw => ?_)))))
        refine cl_istore_n hG (hx_dq tdX11_like_0 21 rfl) (Nat.le_of_ble_eq_true rfl) rfl (cl_iload_n hG (hx_dq tdX11_like_0 22 rfl) rfl (cl_iconst hG (-1) (hx_dq tdX11_like_0 23 rfl) iconst_m1 (cl_icmp_eq hG 52 (hx_dq tdX11_like_0 24 rfl) rfl (fun c45 => ?_) (fun c45 => ?_))))
        · replace hw := hw.1 c45
          exact cl_iload_n hG (hx_dq tdX11_like_0 27 rfl) rfl (cl_iret hG (hx_dq tdX11_like_0 28 rfl) rfl rfl (hK _ hw) (Nat.le_refl _) (Nat.le_refl _))
        · replace hw := hw.2 c45
          refine cl_iload_n hG (hx_dq tdX11_like_0 25 rfl) rfl (cl_if_ne hG 54 (hx_dq tdX11_like_0 26 rfl) rfl (fun c49 => ?_) (fun c49 => ?_))
          · replace hw := hw.1 c49
            refine cl_aload_n hG (hx_dq tdX11_like_0 29 rfl) rfl (cl_getS hG fmX11_46 (hx_dq tdX11_like_0 30 rfl) (cF_S0 hF) (cF_R0_7 hF) (cl_iload_n hG (hx_dq tdX11_like_0 31 rfl) rfl (cl_iconst hG 1 (hx_dq tdX11_like_1 0 rfl) iconst_1 (cl_iadd hG (hx_dq tdX11_like_1 1 rfl) (cl_callV1 (caX11_like_180 cA) (hx_dq tdX11_like_1 2 rfl) (cF_S7 hF) (Nat.le_of_ble_eq_true rfl) (Nat.le_refl _) (Nat.le_refl _) (sX10_lineAt_mk hF hw (fun r61_10 hw => ?_)))))))
            refine cl_aload_n hG (hx_dq tdX11_like_1 3 rfl) rfl (cl_getS hG fmX11_46 (hx_dq tdX11_like_1 4 rfl) (cF_S0 hF) (cF_R0_7 hF) (cl_aload_n hG (hx_dq tdX11_like_1 5 rfl) rfl (cl_getS hG fmX11_46 (hx_dq tdX11_like_1 6 rfl) (cF_S0 hF) (cF_R0_7 hF) (cl_getI hG fmX11_98 (hx_dq tdX11_like_1 7 rfl) (cF_S7 hF) (cl_callV1 (caX11_like_180 cA) (hx_dq tdX11_like_1 8 rfl) (cF_S7 hF) (Nat.le_of_ble_eq_true rfl) (Nat.le_refl _) (Nat.le_refl _) (sX10_lineAt_mk hF hw (fun r75_12 hw => ?_)))))))
            refine cl_iadd hG (hx_dq tdX11_like_1 9 rfl) (cl_aload_n hG (hx_dq tdX11_like_1 10 rfl) rfl (cl_getS hG fmX11_46 (hx_dq tdX11_like_1 11 rfl) (cF_S0 hF) (cF_R0_7 hF) (cl_iload_n hG (hx_dq tdX11_like_1 12 rfl) rfl (cl_callV1 (caX11_like_180 cA) (hx_dq tdX11_like_1 13 rfl) (cF_S7 hF) (Nat.le_of_ble_eq_true rfl) (Nat.le_refl _) (Nat.le_refl _) (sX10_lineAt_mk hF hw (fun r84_14 hw => ?_))))))
            exact cl_isub hG (hx_dq tdX11_like_1 14 rfl) (cl_iret hG (hx_dq tdX11_like_1 15 rfl) rfl rfl (hK _ hw) (Nat.le_refl _) (Nat.le_refl _))
          · replace hw := hw.2 c49
            exact cl_iload_n hG (hx_dq tdX11_like_0 27 rfl) rfl (cl_iret hG (hx_dq tdX11_like_0 28 rfl) rfl rfl (hK _ hw) (Nat.le_refl _) (Nat.le_refl _))
      · replace hw := hw.2 c29
        exact cl_iconst hG (-1) (hx_dq tdX11_like_0 15 rfl) iconst_m1 (cl_iret hG (hx_dq tdX11_like_0 16 rfl) rfl rfl (hK _ hw) (Nat.le_refl _) (Nat.le_refl _))
def sX11_like : hx_ST := fun Λ μ as KK => cF Λ ∧ ∃ (v1 : Int32) (v2 : Int32) (K : Int32 → Prop), as = [.ref 0, .int v1, .int v2] ∧ wX11_like μ v1 v2 K ∧ (∀ (r : Int32), K r → KK (some (.int r)) Λ μ)
theorem sX11_like_mk {Λ : hx_L} {μ : hx_M} {KK : hx_KT} {v1 : Int32} {v2 : Int32} {K : Int32 → Prop} (hF : cF Λ) (hw : wX11_like μ v1 v2 K) (hk : ∀ (r : Int32), K r → KK (some (.int r)) Λ μ) : sX11_like Λ μ [.ref 0, .int v1, .int v2] KK := ⟨hF, _, _, _, rfl, hw, hk⟩
theorem conX11_like : hx_Con yX11_like cX11_like 4 (some .int) 3 0 0 sX11_like := by
  refine hx_con_of (by decide +kernel) tokX11 (by decide) ?_ ?_
  · intro Λ μ as KK h
    obtain ⟨hF, v1, v2, K, rfl, hw, hK⟩ := h
    exact Nat.le_of_ble_eq_true rfl
  · intro G KK hG cA Λ μ as h
    obtain ⟨hF, v1, v2, K, rfl, hw, hK⟩ := h
    exact cl_sub hG (hx_le_c rfl (hx_le_c rfl (hx_le_c rfl (hx_le_n hx_le_0)))) (kX11_like hG cA hF _ _ hK hw)
/-! HemLine.street(II)I -/
def tbX11_street_0 : List (Nat × Instr × Nat) := [(0, .iload_n 1, 1), (1, .iconst (-1), 1), (2, .if_icmp .ne 18, 3), (5, .iload_n 2, 1), (6, .ifCond .ne 14, 3), (9, .aload_n 0, 1), (10, .getfield 46, 3), (13, .getfield 101, 3), (16, .invokevirtual 223, 3), (19, .ireturn, 1), (20, .aload_n 0, 1), (21, .getfield 46, 3), (24, .getfield 101, 3), (27, .iload_n 1, 1), (28, .invokevirtual 124, 3), (31, .ifCond .eq 12, 3), (34, .iload_n 2, 1), (35, .iconst 0, 1), (36, .iconst 1, 1), (37, .invokestatic 94, 3), (40, .ifCond .ne 5, 3), (43, .iconst (-1), 1), (44, .ireturn, 1), (45, .aload_n 0, 1), (46, .getfield 46, 3), (49, .getfield 101, 3), (52, .iload_n 1, 1), (53, .invokevirtual 226, 3), (56, .istore_n 3, 1), (57, .iload_n 2, 1), (58, .ifCond .ne 17, 3), (61, .aload_n 0, 1)]
def tbX11_street_1 : List (Nat × Instr × Nat) := [(62, .getfield 46, 3), (65, .getfield 101, 3), (68, .iload_n 3, 1), (69, .invokevirtual 229, 3), (72, .goto 11, 3), (75, .aload_n 0, 1), (76, .getfield 46, 3), (79, .iload_n 3, 1), (80, .invokevirtual 232, 3), (83, .ireturn, 1)]
theorem tdX11_street_0 : hx_dt cX11_street tbX11_street_0 = true := by decide +kernel
theorem tdX11_street_1 : hx_dt cX11_street tbX11_street_1 = true := by decide +kernel
theorem caX11_street_94 {G : hx_GT} (cA : hx_CA RX11 cX11_street 4 0 0 G) : hx_CS cX11_street G 0 0 94 3 sX11_within 0 0 := cA.2.1 conX11_within ⟨by decide +kernel, by decide +kernel, by decide +kernel⟩ mw_477 mw_478 mw_84 mw_479 (by decide) (by decide)
theorem caX11_street_124 {G : hx_GT} (cA : hx_CA RX11 cX11_street 4 0 0 G) : hx_CV cX11_street G 0 0 124 4 1 sX4_has 0 0 := cA.1 conX4_has rfl rfl ⟨by decide +kernel, by decide +kernel, by decide +kernel⟩ mw_488 mw_489 mw_490 mw_87 mw_491 (by decide) (by decide)
theorem caX11_street_223 {G : hx_GT} (cA : hx_CA RX11 cX11_street 4 0 0 G) : hx_CV cX11_street G 0 0 223 4 0 sX4_streetCount 0 0 := cA.1 conX4_streetCount rfl rfl ⟨by decide +kernel, by decide +kernel, by decide +kernel⟩ mw_885 mw_886 mw_887 mw_87 mw_888 (by decide) (by decide)
theorem caX11_street_226 {G : hx_GT} (cA : hx_CA RX11 cX11_street 4 0 0 G) : hx_CV cX11_street G 0 0 226 4 1 sX4_streetOf 0 0 := cA.1 conX4_streetOf rfl rfl ⟨by decide +kernel, by decide +kernel, by decide +kernel⟩ mw_901 mw_890 mw_891 mw_87 mw_892 (by decide) (by decide)
theorem caX11_street_229 {G : hx_GT} (cA : hx_CA RX11 cX11_street 4 0 0 G) : hx_CV cX11_street G 0 0 229 4 1 sX4_leastOf 0 0 := cA.1 conX4_leastOf rfl rfl ⟨by decide +kernel, by decide +kernel, by decide +kernel⟩ mw_902 mw_898 mw_899 mw_87 mw_900 (by decide) (by decide)
theorem caX11_street_232 {G : hx_GT} (cA : hx_CA RX11 cX11_street 4 0 0 G) : hx_CV cX11_street G 0 0 232 10 1 sX10_lineOf 0 0 := cA.1 conX10_lineOf rfl rfl ⟨by decide +kernel, by decide +kernel, by decide +kernel⟩ mw_903 mw_904 mw_905 mw_86 mw_906 (by decide) (by decide)
def wX11_street_J20 (μ : hx_M) (K : Int32 → Prop)  (v1 : Int32) (v2 : Int32)   : Prop := wX4_has μ v1 (fun r28_2 => (r28_2 = 0 → (K (-1))) ∧ (¬ (r28_2 = 0) → (wX11_within v2 0 1 (fun r37_4 => (r37_4 ≠ 0 → (wX4_streetOf μ v1 (fun r53_6 => (v2 ≠ 0 → (wX10_lineOf μ r53_6 (fun r80_8 => K r80_8))) ∧ (v2 = 0 → (wX4_leastOf μ r53_6 (fun r69_10 => K r69_10)))))) ∧ (r37_4 = 0 → (K (-1)))))))
set_option maxRecDepth 100000 in
set_option maxHeartbeats 4000000 in
theorem kX11_street_J20 {G : hx_GT} {KK : hx_KT} (hG : hx_K cX11_street 4 0 0 (some .int) TbX11 KK G) (cA : hx_CA RX11 cX11_street 4 0 0 G) {Λ : hx_L} (hF : cF Λ) {μ : hx_M} (v1 : Int32) (v2 : Int32)  {K : Int32 → Prop} (hK : ∀ (r : Int32), K r → KK (some (.int r)) Λ μ)  (hw : wX11_street_J20 μ K v1 v2) : G Λ μ (0, 0) 20 [some (.ref 0), some (.int v1), some (.int v2), none] [] := by
  unfold wX11_street_J20 at hw
  refine cl_aload_n hG (hx_dq tdX11_street_0 10 rfl) rfl (cl_getS hG fmX11_46 (hx_dq tdX11_street_0 11 rfl) (cF_S0 hF) (cF_R0_7 hF) (cl_getS hG fmX11_101 (hx_dq tdX11_street_0 12 rfl) (cF_S7 hF) (cF_R7_0 hF) (cl_iload_n hG (hx_dq tdX11_street_0 13 rfl) rfl (cl_callV1 (caX11_street_124 cA) (hx_dq tdX11_street_0 14 rfl) (cF_S8 hF) (Nat.le_of_ble_eq_true rfl) (Nat.le_refl _) (Nat.le_refl _) (sX4_has_mk hF hw (fun r28_2 hw => ?_))))))
  refine cl_if_eq hG 43 (hx_dq tdX11_street_0 15 rfl) rfl (fun c31 => ?_) (fun c31 => ?_)
  · replace hw := hw.1 c31
    exact cl_iconst hG (-1) (hx_dq tdX11_street_0 21 rfl) iconst_m1 (cl_iret hG (hx_dq tdX11_street_0 22 rfl) rfl rfl (hK _ hw) (Nat.le_refl _) (Nat.le_refl _))
  · replace hw := hw.2 c31
    refine cl_iload_n hG (hx_dq tdX11_street_0 16 rfl) rfl (cl_iconst hG 0 (hx_dq tdX11_street_0 17 rfl) iconst_0 (cl_iconst hG 1 (hx_dq tdX11_street_0 18 rfl) iconst_1 (cl_callS3 (caX11_street_94 cA) (hx_dq tdX11_street_0 19 rfl) (Nat.le_of_ble_eq_true rfl) (Nat.le_refl _) (Nat.le_refl _) (sX11_within_mk hw (fun r37_4 hw => ?_)))))
    refine cl_if_ne hG 45 (hx_dq tdX11_street_0 20 rfl) rfl (fun c40 => ?_) (fun c40 => ?_)
    · replace hw := hw.1 c40
      refine cl_aload_n hG (hx_dq tdX11_street_0 23 rfl) rfl (cl_getS hG fmX11_46 (hx_dq tdX11_street_0 24 rfl) (cF_S0 hF) (cF_R0_7 hF) (cl_getS hG fmX11_101 (hx_dq tdX11_street_0 25 rfl) (cF_S7 hF) (cF_R7_0 hF) (cl_iload_n hG (hx_dq tdX11_street_0 26 rfl) rfl (cl_callV1 (caX11_street_226 cA) (hx_dq tdX11_street_0 27 rfl) (cF_S8 hF) (Nat.le_of_ble_eq_true rfl) (Nat.le_refl _) (Nat.le_refl _) (sX4_streetOf_mk hF hw (fun r53_6 hw => ?_))))))
      refine cl_istore_n hG (hx_dq tdX11_street_0 28 rfl) (Nat.le_of_ble_eq_true rfl) rfl (cl_iload_n hG (hx_dq tdX11_street_0 29 rfl) rfl (cl_if_ne hG 75 (hx_dq tdX11_street_0 30 rfl) rfl (fun c58 => ?_) (fun c58 => ?_)))
      · replace hw := hw.1 c58
        refine cl_aload_n hG (hx_dq tdX11_street_1 5 rfl) rfl (cl_getS hG fmX11_46 (hx_dq tdX11_street_1 6 rfl) (cF_S0 hF) (cF_R0_7 hF) (cl_iload_n hG (hx_dq tdX11_street_1 7 rfl) rfl (cl_callV1 (caX11_street_232 cA) (hx_dq tdX11_street_1 8 rfl) (cF_S7 hF) (Nat.le_of_ble_eq_true rfl) (Nat.le_refl _) (Nat.le_refl _) (sX10_lineOf_mk hF hw (fun r80_8 hw => ?_)))))
        exact cl_iret hG (hx_dq tdX11_street_1 9 rfl) rfl rfl (hK _ hw) (Nat.le_refl _) (Nat.le_refl _)
      · replace hw := hw.2 c58
        refine cl_aload_n hG (hx_dq tdX11_street_0 31 rfl) rfl (cl_getS hG fmX11_46 (hx_dq tdX11_street_1 0 rfl) (cF_S0 hF) (cF_R0_7 hF) (cl_getS hG fmX11_101 (hx_dq tdX11_street_1 1 rfl) (cF_S7 hF) (cF_R7_0 hF) (cl_iload_n hG (hx_dq tdX11_street_1 2 rfl) rfl (cl_callV1 (caX11_street_229 cA) (hx_dq tdX11_street_1 3 rfl) (cF_S8 hF) (Nat.le_of_ble_eq_true rfl) (Nat.le_refl _) (Nat.le_refl _) (sX4_leastOf_mk hF hw (fun r69_10 hw => ?_))))))
        exact cl_goto hG 83 (hx_dq tdX11_street_1 4 rfl) rfl (cl_iret hG (hx_dq tdX11_street_1 9 rfl) rfl rfl (hK _ hw) (Nat.le_refl _) (Nat.le_refl _))
    · replace hw := hw.2 c40
      exact cl_iconst hG (-1) (hx_dq tdX11_street_0 21 rfl) iconst_m1 (cl_iret hG (hx_dq tdX11_street_0 22 rfl) rfl rfl (hK _ hw) (Nat.le_refl _) (Nat.le_refl _))
def wX11_street (μ : hx_M) (v1 : Int32) (v2 : Int32) (K : Int32 → Prop) : Prop := (v1 ≠ (-1) → (wX11_street_J20 μ K v1 v2)) ∧ (v1 = (-1) → ((v2 ≠ 0 → (wX11_street_J20 μ K v1 v2)) ∧ (v2 = 0 → (wX4_streetCount μ (fun r16_12 => K r16_12)))))
set_option maxRecDepth 100000 in
set_option maxHeartbeats 4000000 in
theorem kX11_street {G : hx_GT} {KK : hx_KT} (hG : hx_K cX11_street 4 0 0 (some .int) TbX11 KK G) (cA : hx_CA RX11 cX11_street 4 0 0 G) {Λ : hx_L} (hF : cF Λ) {μ : hx_M} (v1 : Int32) (v2 : Int32) {K : Int32 → Prop} (hK : ∀ (r : Int32), K r → KK (some (.int r)) Λ μ) (hw : wX11_street μ v1 v2 K) : G Λ μ (0, 0) 0 [some (.ref 0), some (.int v1), some (.int v2), none] [] := by
  unfold wX11_street at hw
  refine cl_iload_n hG (hx_dq tdX11_street_0 0 rfl) rfl (cl_iconst hG (-1) (hx_dq tdX11_street_0 1 rfl) iconst_m1 (cl_icmp_ne hG 20 (hx_dq tdX11_street_0 2 rfl) rfl (fun c2 => ?_) (fun c2 => ?_)))
  · replace hw := hw.1 c2
    exact cl_sub hG (hx_le_c rfl (hx_le_c rfl (hx_le_c rfl (hx_le_n hx_le_0)))) (kX11_street_J20 hG cA hF v1 v2 hK hw)
  · replace hw := hw.2 c2
    refine cl_iload_n hG (hx_dq tdX11_street_0 3 rfl) rfl (cl_if_ne hG 20 (hx_dq tdX11_street_0 4 rfl) rfl (fun c6 => ?_) (fun c6 => ?_))
    · replace hw := hw.1 c6
      exact cl_sub hG (hx_le_c rfl (hx_le_c rfl (hx_le_c rfl (hx_le_n hx_le_0)))) (kX11_street_J20 hG cA hF v1 v2 hK hw)
    · replace hw := hw.2 c6
      refine cl_aload_n hG (hx_dq tdX11_street_0 5 rfl) rfl (cl_getS hG fmX11_46 (hx_dq tdX11_street_0 6 rfl) (cF_S0 hF) (cF_R0_7 hF) (cl_getS hG fmX11_101 (hx_dq tdX11_street_0 7 rfl) (cF_S7 hF) (cF_R7_0 hF) (cl_callV0 (caX11_street_223 cA) (hx_dq tdX11_street_0 8 rfl) (cF_S8 hF) (Nat.le_of_ble_eq_true rfl) (Nat.le_refl _) (Nat.le_refl _) (sX4_streetCount_mk hF hw (fun r16_12 hw => ?_)))))
      exact cl_iret hG (hx_dq tdX11_street_0 9 rfl) rfl rfl (hK _ hw) (Nat.le_refl _) (Nat.le_refl _)
def sX11_street : hx_ST := fun Λ μ as KK => cF Λ ∧ ∃ (v1 : Int32) (v2 : Int32) (K : Int32 → Prop), as = [.ref 0, .int v1, .int v2] ∧ wX11_street μ v1 v2 K ∧ (∀ (r : Int32), K r → KK (some (.int r)) Λ μ)
theorem sX11_street_mk {Λ : hx_L} {μ : hx_M} {KK : hx_KT} {v1 : Int32} {v2 : Int32} {K : Int32 → Prop} (hF : cF Λ) (hw : wX11_street μ v1 v2 K) (hk : ∀ (r : Int32), K r → KK (some (.int r)) Λ μ) : sX11_street Λ μ [.ref 0, .int v1, .int v2] KK := ⟨hF, _, _, _, rfl, hw, hk⟩
theorem conX11_street : hx_Con yX11_street cX11_street 4 (some .int) 4 0 0 sX11_street := by
  refine hx_con_of (by decide +kernel) tokX11 (by decide) ?_ ?_
  · intro Λ μ as KK h
    obtain ⟨hF, v1, v2, K, rfl, hw, hK⟩ := h
    exact Nat.le_of_ble_eq_true rfl
  · intro G KK hG cA Λ μ as h
    obtain ⟨hF, v1, v2, K, rfl, hw, hK⟩ := h
    exact cl_sub hG (hx_le_c rfl (hx_le_c rfl (hx_le_c rfl (hx_le_n hx_le_0)))) (kX11_street hG cA hF _ _ hK hw)
/-! HemLine.followed(II)I -/
def tbX11_followed_0 : List (Nat × Instr × Nat) := [(0, .iload_n 1, 1), (1, .invokestatic 131, 3), (4, .ifCond .eq 12, 3), (7, .iload_n 2, 1), (8, .iconst 0, 1), (9, .iconst 1, 1), (10, .invokestatic 94, 3), (13, .ifCond .ne 5, 3), (16, .iconst (-1), 1), (17, .ireturn, 1), (18, .iload_n 2, 1), (19, .ifCond .ne 14, 3), (22, .aload_n 0, 1), (23, .getfield 69, 3), (26, .iload_n 1, 1), (27, .invokevirtual 235, 3), (30, .goto 11, 3), (33, .aload_n 0, 1), (34, .getfield 69, 3), (37, .iload_n 1, 1), (38, .invokevirtual 238, 3), (41, .ireturn, 1)]
theorem tdX11_followed_0 : hx_dt cX11_followed tbX11_followed_0 = true := by decide +kernel
theorem caX11_followed_94 {G : hx_GT} (cA : hx_CA RX11 cX11_followed 5 0 0 G) : hx_CS cX11_followed G 0 0 94 3 sX11_within 0 0 := cA.2.1 conX11_within ⟨by decide +kernel, by decide +kernel, by decide +kernel⟩ mw_477 mw_478 mw_84 mw_479 (by decide) (by decide)
theorem caX11_followed_131 {G : hx_GT} (cA : hx_CA RX11 cX11_followed 5 0 0 G) : hx_CS cX11_followed G 0 0 131 1 sX11_isHouse 0 0 := cA.2.1 conX11_isHouse ⟨by decide +kernel, by decide +kernel, by decide +kernel⟩ mw_497 mw_498 mw_84 mw_499 (by decide) (by decide)
theorem caX11_followed_235 {G : hx_GT} (cA : hx_CA RX11 cX11_followed 5 0 0 G) : hx_CV cX11_followed G 0 0 235 8 1 sX8_followedSeasons 0 0 := cA.1 conX8_followedSeasons rfl rfl ⟨by decide +kernel, by decide +kernel, by decide +kernel⟩ mw_917 mw_918 mw_919 mw_94 mw_920 (by decide) (by decide)
theorem caX11_followed_238 {G : hx_GT} (cA : hx_CA RX11 cX11_followed 5 0 0 G) : hx_CV cX11_followed G 0 0 238 8 1 sX8_shownSeasons 0 0 := cA.1 conX8_shownSeasons rfl rfl ⟨by decide +kernel, by decide +kernel, by decide +kernel⟩ mw_932 mw_933 mw_934 mw_94 mw_935 (by decide) (by decide)
def wX11_followed (μ : hx_M) (v1 : Int32) (v2 : Int32) (K : Int32 → Prop) : Prop := wX11_isHouse v1 (fun r1_2 => (r1_2 = 0 → (K (-1))) ∧ (¬ (r1_2 = 0) → (wX11_within v2 0 1 (fun r10_4 => (r10_4 ≠ 0 → ((v2 ≠ 0 → (wX8_shownSeasons μ v1 (fun r38_6 => K r38_6))) ∧ (v2 = 0 → (wX8_followedSeasons μ v1 (fun r27_8 => K r27_8))))) ∧ (r10_4 = 0 → (K (-1)))))))
set_option maxRecDepth 100000 in
set_option maxHeartbeats 4000000 in
theorem kX11_followed {G : hx_GT} {KK : hx_KT} (hG : hx_K cX11_followed 3 0 0 (some .int) TbX11 KK G) (cA : hx_CA RX11 cX11_followed 5 0 0 G) {Λ : hx_L} (hF : cF Λ) {μ : hx_M} (v1 : Int32) (v2 : Int32) {K : Int32 → Prop} (hK : ∀ (r : Int32), K r → KK (some (.int r)) Λ μ) (hw : wX11_followed μ v1 v2 K) : G Λ μ (0, 0) 0 [some (.ref 0), some (.int v1), some (.int v2)] [] := by
  unfold wX11_followed at hw
  refine cl_iload_n hG (hx_dq tdX11_followed_0 0 rfl) rfl (cl_callS1 (caX11_followed_131 cA) (hx_dq tdX11_followed_0 1 rfl) (Nat.le_of_ble_eq_true rfl) (Nat.le_refl _) (Nat.le_refl _) (sX11_isHouse_mk hw (fun r1_2 hw => ?_)))
  refine cl_if_eq hG 16 (hx_dq tdX11_followed_0 2 rfl) rfl (fun c4 => ?_) (fun c4 => ?_)
  · replace hw := hw.1 c4
    exact cl_iconst hG (-1) (hx_dq tdX11_followed_0 8 rfl) iconst_m1 (cl_iret hG (hx_dq tdX11_followed_0 9 rfl) rfl rfl (hK _ hw) (Nat.le_refl _) (Nat.le_refl _))
  · replace hw := hw.2 c4
    refine cl_iload_n hG (hx_dq tdX11_followed_0 3 rfl) rfl (cl_iconst hG 0 (hx_dq tdX11_followed_0 4 rfl) iconst_0 (cl_iconst hG 1 (hx_dq tdX11_followed_0 5 rfl) iconst_1 (cl_callS3 (caX11_followed_94 cA) (hx_dq tdX11_followed_0 6 rfl) (Nat.le_of_ble_eq_true rfl) (Nat.le_refl _) (Nat.le_refl _) (sX11_within_mk hw (fun r10_4 hw => ?_)))))
    refine cl_if_ne hG 18 (hx_dq tdX11_followed_0 7 rfl) rfl (fun c13 => ?_) (fun c13 => ?_)
    · replace hw := hw.1 c13
      refine cl_iload_n hG (hx_dq tdX11_followed_0 10 rfl) rfl (cl_if_ne hG 33 (hx_dq tdX11_followed_0 11 rfl) rfl (fun c19 => ?_) (fun c19 => ?_))
      · replace hw := hw.1 c19
        refine cl_aload_n hG (hx_dq tdX11_followed_0 17 rfl) rfl (cl_getS hG fmX11_69 (hx_dq tdX11_followed_0 18 rfl) (cF_S0 hF) (cF_R0_10 hF) (cl_iload_n hG (hx_dq tdX11_followed_0 19 rfl) rfl (cl_callV1 (caX11_followed_238 cA) (hx_dq tdX11_followed_0 20 rfl) (cF_S37 hF) (Nat.le_of_ble_eq_true rfl) (Nat.le_refl _) (Nat.le_refl _) (sX8_shownSeasons_mk hF hw (fun r38_6 hw => ?_)))))
        exact cl_iret hG (hx_dq tdX11_followed_0 21 rfl) rfl rfl (hK _ hw) (Nat.le_refl _) (Nat.le_refl _)
      · replace hw := hw.2 c19
        refine cl_aload_n hG (hx_dq tdX11_followed_0 12 rfl) rfl (cl_getS hG fmX11_69 (hx_dq tdX11_followed_0 13 rfl) (cF_S0 hF) (cF_R0_10 hF) (cl_iload_n hG (hx_dq tdX11_followed_0 14 rfl) rfl (cl_callV1 (caX11_followed_235 cA) (hx_dq tdX11_followed_0 15 rfl) (cF_S37 hF) (Nat.le_of_ble_eq_true rfl) (Nat.le_refl _) (Nat.le_refl _) (sX8_followedSeasons_mk hF hw (fun r27_8 hw => ?_)))))
        exact cl_goto hG 41 (hx_dq tdX11_followed_0 16 rfl) rfl (cl_iret hG (hx_dq tdX11_followed_0 21 rfl) rfl rfl (hK _ hw) (Nat.le_refl _) (Nat.le_refl _))
    · replace hw := hw.2 c13
      exact cl_iconst hG (-1) (hx_dq tdX11_followed_0 8 rfl) iconst_m1 (cl_iret hG (hx_dq tdX11_followed_0 9 rfl) rfl rfl (hK _ hw) (Nat.le_refl _) (Nat.le_refl _))
def sX11_followed : hx_ST := fun Λ μ as KK => cF Λ ∧ ∃ (v1 : Int32) (v2 : Int32) (K : Int32 → Prop), as = [.ref 0, .int v1, .int v2] ∧ wX11_followed μ v1 v2 K ∧ (∀ (r : Int32), K r → KK (some (.int r)) Λ μ)
theorem sX11_followed_mk {Λ : hx_L} {μ : hx_M} {KK : hx_KT} {v1 : Int32} {v2 : Int32} {K : Int32 → Prop} (hF : cF Λ) (hw : wX11_followed μ v1 v2 K) (hk : ∀ (r : Int32), K r → KK (some (.int r)) Λ μ) : sX11_followed Λ μ [.ref 0, .int v1, .int v2] KK := ⟨hF, _, _, _, rfl, hw, hk⟩
theorem conX11_followed : hx_Con yX11_followed cX11_followed 3 (some .int) 5 0 0 sX11_followed := by
  refine hx_con_of (by decide +kernel) tokX11 (by decide) ?_ ?_
  · intro Λ μ as KK h
    obtain ⟨hF, v1, v2, K, rfl, hw, hK⟩ := h
    exact Nat.le_of_ble_eq_true rfl
  · intro G KK hG cA Λ μ as h
    obtain ⟨hF, v1, v2, K, rfl, hw, hK⟩ := h
    exact cl_sub hG (hx_le_c rfl (hx_le_c rfl (hx_le_c rfl hx_le_0))) (kX11_followed hG cA hF _ _ hK hw)
/-! HemLine.luck(II)J -/
def tbX11_luck_0 : List (Nat × Instr × Nat) := [(0, .iload_n 1, 1), (1, .invokestatic 131, 3), (4, .ifCond .eq 23, 3), (7, .iload_n 2, 1), (8, .iconst 0, 1), (9, .iconst 1, 1), (10, .invokestatic 94, 3), (13, .ifCond .eq 14, 3), (16, .aload_n 0, 1), (17, .getfield 69, 3), (20, .iload_n 1, 1), (21, .invokevirtual 238, 3), (24, .ifCond .ne 7, 3), (27, .ldc2_w 241, 3), (30, .lreturn, 1), (31, .aload_n 0, 1), (32, .getfield 69, 3), (35, .iload_n 1, 1), (36, .iload_n 2, 1), (37, .iconst 1, 1), (38, .if_icmp .ne 7, 3), (41, .iconst 1, 1), (42, .goto 4, 3), (45, .iconst 0, 1), (46, .invokevirtual 243, 3), (49, .lreturn, 1)]
theorem tdX11_luck_0 : hx_dt cX11_luck tbX11_luck_0 = true := by decide +kernel
theorem caX11_luck_94 {G : hx_GT} (cA : hx_CA RX11 cX11_luck 6 0 0 G) : hx_CS cX11_luck G 0 0 94 3 sX11_within 0 0 := cA.2.1 conX11_within ⟨by decide +kernel, by decide +kernel, by decide +kernel⟩ mw_477 mw_478 mw_84 mw_479 (by decide) (by decide)
theorem caX11_luck_131 {G : hx_GT} (cA : hx_CA RX11 cX11_luck 6 0 0 G) : hx_CS cX11_luck G 0 0 131 1 sX11_isHouse 0 0 := cA.2.1 conX11_isHouse ⟨by decide +kernel, by decide +kernel, by decide +kernel⟩ mw_497 mw_498 mw_84 mw_499 (by decide) (by decide)
theorem caX11_luck_238 {G : hx_GT} (cA : hx_CA RX11 cX11_luck 6 0 0 G) : hx_CV cX11_luck G 0 0 238 8 1 sX8_shownSeasons 0 0 := cA.1 conX8_shownSeasons rfl rfl ⟨by decide +kernel, by decide +kernel, by decide +kernel⟩ mw_932 mw_933 mw_934 mw_94 mw_935 (by decide) (by decide)
theorem caX11_luck_243 {G : hx_GT} (cA : hx_CA RX11 cX11_luck 6 0 0 G) : hx_CV cX11_luck G 0 0 243 8 2 sX8_waysOf 0 0 := cA.1 conX8_waysOf rfl rfl ⟨by decide +kernel, by decide +kernel, by decide +kernel⟩ mw_941 mw_942 mw_943 mw_94 mw_944 (by decide) (by decide)
def wX11_luck_J46 (Λ : hx_L) (K : Int64 → hx_M → Prop)   (t1 : Int32) (t2 : Int32) (μ : hx_M) : Prop := wX8_waysOf Λ μ t1 t2 (fun r46_8 m46_7 => K r46_8 m46_7)
set_option maxRecDepth 100000 in
set_option maxHeartbeats 4000000 in
theorem kX11_luck_J46 {G : hx_GT} {KK : hx_KT} (hG : hx_K cX11_luck 3 0 0 (some .long) TbX11 KK G) (cA : hx_CA RX11 cX11_luck 6 0 0 G) {Λ : hx_L} (hF : cF Λ) {μ : hx_M}  (t1 : Int32) (t2 : Int32) {K : Int64 → hx_M → Prop} (hK : ∀ (r : Int64) (m : hx_M), K r m → KK (some (.long r)) Λ m)  (hw : wX11_luck_J46 Λ K t1 t2 μ) : G Λ μ (0, 0) 46 [none, none, none] [.int t2, .int t1, .ref 37] := by
  unfold wX11_luck_J46 at hw
  refine cl_callV2 (caX11_luck_243 cA) (hx_dq tdX11_luck_0 24 rfl) (cF_S37 hF) (Nat.le_of_ble_eq_true rfl) (Nat.le_refl _) (Nat.le_refl _) (sX8_waysOf_mk hF hw (fun r46_8 m46_7 hw => ?_))
  exact cl_lret hG (hx_dq tdX11_luck_0 25 rfl) rfl (hK _ _ hw) (Nat.le_refl _) (Nat.le_refl _)
def wX11_luck (Λ : hx_L) (μ : hx_M) (v1 : Int32) (v2 : Int32) (K : Int64 → hx_M → Prop) : Prop := wX11_isHouse v1 (fun r1_2 => (r1_2 = 0 → (K (-1 : Int64) μ)) ∧ (¬ (r1_2 = 0) → (wX11_within v2 0 1 (fun r10_4 => (r10_4 = 0 → (K (-1 : Int64) μ)) ∧ (¬ (r10_4 = 0) → (wX8_shownSeasons μ v1 (fun r21_6 => (r21_6 ≠ 0 → ((v2 ≠ 1 → (wX11_luck_J46 Λ K v1 0 μ)) ∧ (v2 = 1 → (wX11_luck_J46 Λ K v1 1 μ)))) ∧ (r21_6 = 0 → (K (-1 : Int64) μ)))))))))
set_option maxRecDepth 100000 in
set_option maxHeartbeats 4000000 in
theorem kX11_luck {G : hx_GT} {KK : hx_KT} (hG : hx_K cX11_luck 3 0 0 (some .long) TbX11 KK G) (cA : hx_CA RX11 cX11_luck 6 0 0 G) {Λ : hx_L} (hF : cF Λ) {μ : hx_M} (v1 : Int32) (v2 : Int32) {K : Int64 → hx_M → Prop} (hK : ∀ (r : Int64) (m : hx_M), K r m → KK (some (.long r)) Λ m) (hw : wX11_luck Λ μ v1 v2 K) : G Λ μ (0, 0) 0 [some (.ref 0), some (.int v1), some (.int v2)] [] := by
  unfold wX11_luck at hw
  refine cl_iload_n hG (hx_dq tdX11_luck_0 0 rfl) rfl (cl_callS1 (caX11_luck_131 cA) (hx_dq tdX11_luck_0 1 rfl) (Nat.le_of_ble_eq_true rfl) (Nat.le_refl _) (Nat.le_refl _) (sX11_isHouse_mk hw (fun r1_2 hw => ?_)))
  refine cl_if_eq hG 27 (hx_dq tdX11_luck_0 2 rfl) rfl (fun c4 => ?_) (fun c4 => ?_)
  · replace hw := hw.1 c4
    exact cl_ldc2 hG ciX11_241 (hx_dq tdX11_luck_0 13 rfl) (cl_lret hG (hx_dq tdX11_luck_0 14 rfl) rfl (hK _ _ hw) (Nat.le_refl _) (Nat.le_refl _))
  · replace hw := hw.2 c4
    refine cl_iload_n hG (hx_dq tdX11_luck_0 3 rfl) rfl (cl_iconst hG 0 (hx_dq tdX11_luck_0 4 rfl) iconst_0 (cl_iconst hG 1 (hx_dq tdX11_luck_0 5 rfl) iconst_1 (cl_callS3 (caX11_luck_94 cA) (hx_dq tdX11_luck_0 6 rfl) (Nat.le_of_ble_eq_true rfl) (Nat.le_refl _) (Nat.le_refl _) (sX11_within_mk hw (fun r10_4 hw => ?_)))))
    refine cl_if_eq hG 27 (hx_dq tdX11_luck_0 7 rfl) rfl (fun c13 => ?_) (fun c13 => ?_)
    · replace hw := hw.1 c13
      exact cl_ldc2 hG ciX11_241 (hx_dq tdX11_luck_0 13 rfl) (cl_lret hG (hx_dq tdX11_luck_0 14 rfl) rfl (hK _ _ hw) (Nat.le_refl _) (Nat.le_refl _))
    · replace hw := hw.2 c13
      refine cl_aload_n hG (hx_dq tdX11_luck_0 8 rfl) rfl (cl_getS hG fmX11_69 (hx_dq tdX11_luck_0 9 rfl) (cF_S0 hF) (cF_R0_10 hF) (cl_iload_n hG (hx_dq tdX11_luck_0 10 rfl) rfl (cl_callV1 (caX11_luck_238 cA) (hx_dq tdX11_luck_0 11 rfl) (cF_S37 hF) (Nat.le_of_ble_eq_true rfl) (Nat.le_refl _) (Nat.le_refl _) (sX8_shownSeasons_mk hF hw (fun r21_6 hw => ?_)))))
      refine cl_if_ne hG 31 (hx_dq tdX11_luck_0 12 rfl) rfl (fun c24 => ?_) (fun c24 => ?_)
      · replace hw := hw.1 c24
        refine cl_aload_n hG (hx_dq tdX11_luck_0 15 rfl) rfl (cl_getS hG fmX11_69 (hx_dq tdX11_luck_0 16 rfl) (cF_S0 hF) (cF_R0_10 hF) (cl_iload_n hG (hx_dq tdX11_luck_0 17 rfl) rfl (cl_iload_n hG (hx_dq tdX11_luck_0 18 rfl) rfl (cl_iconst hG 1 (hx_dq tdX11_luck_0 19 rfl) iconst_1 (cl_icmp_ne hG 45 (hx_dq tdX11_luck_0 20 rfl) rfl (fun c38 => ?_) (fun c38 => ?_))))))
        · replace hw := hw.1 c38
          refine cl_iconst hG 0 (hx_dq tdX11_luck_0 23 rfl) iconst_0 ?_
          exact cl_sub hG (hx_le_n (hx_le_n (hx_le_n hx_le_0))) (kX11_luck_J46 hG cA hF v1 0 hK hw)
        · replace hw := hw.2 c38
          refine cl_iconst hG 1 (hx_dq tdX11_luck_0 21 rfl) iconst_1 (cl_goto hG 46 (hx_dq tdX11_luck_0 22 rfl) rfl ?_)
          exact cl_sub hG (hx_le_n (hx_le_n (hx_le_n hx_le_0))) (kX11_luck_J46 hG cA hF v1 1 hK hw)
      · replace hw := hw.2 c24
        exact cl_ldc2 hG ciX11_241 (hx_dq tdX11_luck_0 13 rfl) (cl_lret hG (hx_dq tdX11_luck_0 14 rfl) rfl (hK _ _ hw) (Nat.le_refl _) (Nat.le_refl _))
def sX11_luck : hx_ST := fun Λ μ as KK => cF Λ ∧ ∃ (v1 : Int32) (v2 : Int32) (K : Int64 → hx_M → Prop), as = [.ref 0, .int v1, .int v2] ∧ wX11_luck Λ μ v1 v2 K ∧ (∀ (r : Int64) (m : hx_M), K r m → KK (some (.long r)) Λ m)
theorem sX11_luck_mk {Λ : hx_L} {μ : hx_M} {KK : hx_KT} {v1 : Int32} {v2 : Int32} {K : Int64 → hx_M → Prop} (hF : cF Λ) (hw : wX11_luck Λ μ v1 v2 K) (hk : ∀ (r : Int64) (m : hx_M), K r m → KK (some (.long r)) Λ m) : sX11_luck Λ μ [.ref 0, .int v1, .int v2] KK := ⟨hF, _, _, _, rfl, hw, hk⟩
theorem conX11_luck : hx_Con yX11_luck cX11_luck 3 (some .long) 6 0 0 sX11_luck := by
  refine hx_con_of (by decide +kernel) tokX11 (by decide) ?_ ?_
  · intro Λ μ as KK h
    obtain ⟨hF, v1, v2, K, rfl, hw, hK⟩ := h
    exact Nat.le_of_ble_eq_true rfl
  · intro G KK hG cA Λ μ as h
    obtain ⟨hF, v1, v2, K, rfl, hw, hK⟩ := h
    exact cl_sub hG (hx_le_c rfl (hx_le_c rfl (hx_le_c rfl hx_le_0))) (kX11_luck hG cA hF _ _ hK hw)
/-! HemLine.claim(II)J -/
def tbX11_claim_0 : List (Nat × Instr × Nat) := [(0, .iload_n 1, 1), (1, .iconst 0, 1), (2, .bipush 9, 2), (4, .invokestatic 94, 3), (7, .ifCond .eq 12, 3), (10, .iload_n 2, 1), (11, .iconst 0, 1), (12, .iconst 2, 1), (13, .invokestatic 94, 3), (16, .ifCond .ne 7, 3), (19, .ldc2_w 241, 3), (22, .lreturn, 1), (23, .aload_n 0, 1), (24, .getfield 69, 3), (27, .iload_n 1, 1), (28, .invokevirtual 247, 3), (31, .iload_n 2, 1), (32, .iconst 2, 1), (33, .if_icmp .ne 11, 3), (36, .aload_n 0, 1), (37, .getfield 69, 3), (40, .invokevirtual 250, 3), (43, .lreturn, 1), (44, .iload_n 2, 1), (45, .ifCond .ne 14, 3), (48, .aload_n 0, 1), (49, .getfield 69, 3), (52, .getfield 254, 3), (55, .i2l, 1), (56, .goto 11, 3), (59, .aload_n 0, 1), (60, .getfield 69, 3)]
def tbX11_claim_1 : List (Nat × Instr × Nat) := [(63, .getfield 257, 3), (66, .i2l, 1), (67, .lreturn, 1)]
theorem tdX11_claim_0 : hx_dt cX11_claim tbX11_claim_0 = true := by decide +kernel
theorem tdX11_claim_1 : hx_dt cX11_claim tbX11_claim_1 = true := by decide +kernel
theorem caX11_claim_94 {G : hx_GT} (cA : hx_CA RX11 cX11_claim 3 0 0 G) : hx_CS cX11_claim G 0 0 94 3 sX11_within 0 0 := cA.2.1 conX11_within ⟨by decide +kernel, by decide +kernel, by decide +kernel⟩ mw_477 mw_478 mw_84 mw_479 (by decide) (by decide)
theorem caX11_claim_247 {G : hx_GT} (cA : hx_CA RX11 cX11_claim 3 0 0 G) : hx_CV cX11_claim G 0 0 247 8 1 sX8_gather 0 0 := cA.1 conX8_gather rfl rfl ⟨by decide +kernel, by decide +kernel, by decide +kernel⟩ mw_956 mw_957 mw_958 mw_94 mw_959 (by decide) (by decide)
theorem caX11_claim_250 {G : hx_GT} (cA : hx_CA RX11 cX11_claim 3 0 0 G) : hx_CV cX11_claim G 0 0 250 8 0 sX8_odds 0 0 := cA.1 conX8_odds rfl rfl ⟨by decide +kernel, by decide +kernel, by decide +kernel⟩ mw_963 mw_964 mw_965 mw_94 mw_966 (by decide) (by decide)
def wX11_claim (μ : hx_M) (v1 : Int32) (v2 : Int32) (K : Int64 → hx_M → Prop) : Prop := wX11_within v1 0 9 (fun r4_2 => (r4_2 = 0 → (K (-1 : Int64) μ)) ∧ (¬ (r4_2 = 0) → (wX11_within v2 0 2 (fun r13_4 => (r13_4 ≠ 0 → (wX8_gather μ v1 (fun m28_5 => (v2 ≠ 2 → ((v2 ≠ 0 → (K (((m28_5.1 37 2) : Int32).toInt64) m28_5)) ∧ (v2 = 0 → (K (((m28_5.1 37 3) : Int32).toInt64) m28_5)))) ∧ (v2 = 2 → (wX8_odds m28_5 (fun r40_8 => K r40_8 m28_5)))))) ∧ (r13_4 = 0 → (K (-1 : Int64) μ))))))
set_option maxRecDepth 100000 in
set_option maxHeartbeats 4000000 in
theorem kX11_claim {G : hx_GT} {KK : hx_KT} (hG : hx_K cX11_claim 3 0 0 (some .long) TbX11 KK G) (cA : hx_CA RX11 cX11_claim 3 0 0 G) {Λ : hx_L} (hF : cF Λ) {μ : hx_M} (v1 : Int32) (v2 : Int32) {K : Int64 → hx_M → Prop} (hK : ∀ (r : Int64) (m : hx_M), K r m → KK (some (.long r)) Λ m) (hw : wX11_claim μ v1 v2 K) : G Λ μ (0, 0) 0 [some (.ref 0), some (.int v1), some (.int v2)] [] := by
  unfold wX11_claim at hw
  refine cl_iload_n hG (hx_dq tdX11_claim_0 0 rfl) rfl (cl_iconst hG 0 (hx_dq tdX11_claim_0 1 rfl) iconst_0 (cl_bipush hG 9 (hx_dq tdX11_claim_0 2 rfl) bipush_9 (cl_callS3 (caX11_claim_94 cA) (hx_dq tdX11_claim_0 3 rfl) (Nat.le_of_ble_eq_true rfl) (Nat.le_refl _) (Nat.le_refl _) (sX11_within_mk hw (fun r4_2 hw => ?_)))))
  refine cl_if_eq hG 19 (hx_dq tdX11_claim_0 4 rfl) rfl (fun c7 => ?_) (fun c7 => ?_)
  · replace hw := hw.1 c7
    exact cl_ldc2 hG ciX11_241 (hx_dq tdX11_claim_0 10 rfl) (cl_lret hG (hx_dq tdX11_claim_0 11 rfl) rfl (hK _ _ hw) (Nat.le_refl _) (Nat.le_refl _))
  · replace hw := hw.2 c7
    refine cl_iload_n hG (hx_dq tdX11_claim_0 5 rfl) rfl (cl_iconst hG 0 (hx_dq tdX11_claim_0 6 rfl) iconst_0 (cl_iconst hG 2 (hx_dq tdX11_claim_0 7 rfl) iconst_2 (cl_callS3 (caX11_claim_94 cA) (hx_dq tdX11_claim_0 8 rfl) (Nat.le_of_ble_eq_true rfl) (Nat.le_refl _) (Nat.le_refl _) (sX11_within_mk hw (fun r13_4 hw => ?_)))))
    refine cl_if_ne hG 23 (hx_dq tdX11_claim_0 9 rfl) rfl (fun c16 => ?_) (fun c16 => ?_)
    · replace hw := hw.1 c16
      refine cl_aload_n hG (hx_dq tdX11_claim_0 12 rfl) rfl (cl_getS hG fmX11_69 (hx_dq tdX11_claim_0 13 rfl) (cF_S0 hF) (cF_R0_10 hF) (cl_iload_n hG (hx_dq tdX11_claim_0 14 rfl) rfl (cl_callV1 (caX11_claim_247 cA) (hx_dq tdX11_claim_0 15 rfl) (cF_S37 hF) (Nat.le_of_ble_eq_true rfl) (Nat.le_refl _) (Nat.le_refl _) (sX8_gather_mk hF hw (fun m28_5 hw => ?_)))))
      refine cl_iload_n hG (hx_dq tdX11_claim_0 16 rfl) rfl (cl_iconst hG 2 (hx_dq tdX11_claim_0 17 rfl) iconst_2 (cl_icmp_ne hG 44 (hx_dq tdX11_claim_0 18 rfl) rfl (fun c33 => ?_) (fun c33 => ?_)))
      · replace hw := hw.1 c33
        refine cl_iload_n hG (hx_dq tdX11_claim_0 23 rfl) rfl (cl_if_ne hG 59 (hx_dq tdX11_claim_0 24 rfl) rfl (fun c45 => ?_) (fun c45 => ?_))
        · replace hw := hw.1 c45
          exact cl_aload_n hG (hx_dq tdX11_claim_0 30 rfl) rfl (cl_getS hG fmX11_69 (hx_dq tdX11_claim_0 31 rfl) (cF_S0 hF) (cF_R0_10 hF) (cl_getI hG fmX11_257 (hx_dq tdX11_claim_1 0 rfl) (cF_S37 hF) (cl_i2l hG (hx_dq tdX11_claim_1 1 rfl) (cl_lret hG (hx_dq tdX11_claim_1 2 rfl) rfl (hK _ _ hw) (Nat.le_refl _) (Nat.le_refl _)))))
        · replace hw := hw.2 c45
          exact cl_aload_n hG (hx_dq tdX11_claim_0 25 rfl) rfl (cl_getS hG fmX11_69 (hx_dq tdX11_claim_0 26 rfl) (cF_S0 hF) (cF_R0_10 hF) (cl_getI hG fmX11_254 (hx_dq tdX11_claim_0 27 rfl) (cF_S37 hF) (cl_i2l hG (hx_dq tdX11_claim_0 28 rfl) (cl_goto hG 67 (hx_dq tdX11_claim_0 29 rfl) rfl (cl_lret hG (hx_dq tdX11_claim_1 2 rfl) rfl (hK _ _ hw) (Nat.le_refl _) (Nat.le_refl _))))))
      · replace hw := hw.2 c33
        refine cl_aload_n hG (hx_dq tdX11_claim_0 19 rfl) rfl (cl_getS hG fmX11_69 (hx_dq tdX11_claim_0 20 rfl) (cF_S0 hF) (cF_R0_10 hF) (cl_callV0 (caX11_claim_250 cA) (hx_dq tdX11_claim_0 21 rfl) (cF_S37 hF) (Nat.le_of_ble_eq_true rfl) (Nat.le_refl _) (Nat.le_refl _) (sX8_odds_mk hF hw (fun r40_8 hw => ?_))))
        exact cl_lret hG (hx_dq tdX11_claim_0 22 rfl) rfl (hK _ _ hw) (Nat.le_refl _) (Nat.le_refl _)
    · replace hw := hw.2 c16
      exact cl_ldc2 hG ciX11_241 (hx_dq tdX11_claim_0 10 rfl) (cl_lret hG (hx_dq tdX11_claim_0 11 rfl) rfl (hK _ _ hw) (Nat.le_refl _) (Nat.le_refl _))
def sX11_claim : hx_ST := fun Λ μ as KK => cF Λ ∧ ∃ (v1 : Int32) (v2 : Int32) (K : Int64 → hx_M → Prop), as = [.ref 0, .int v1, .int v2] ∧ wX11_claim μ v1 v2 K ∧ (∀ (r : Int64) (m : hx_M), K r m → KK (some (.long r)) Λ m)
theorem sX11_claim_mk {Λ : hx_L} {μ : hx_M} {KK : hx_KT} {v1 : Int32} {v2 : Int32} {K : Int64 → hx_M → Prop} (hF : cF Λ) (hw : wX11_claim μ v1 v2 K) (hk : ∀ (r : Int64) (m : hx_M), K r m → KK (some (.long r)) Λ m) : sX11_claim Λ μ [.ref 0, .int v1, .int v2] KK := ⟨hF, _, _, _, rfl, hw, hk⟩
theorem conX11_claim : hx_Con yX11_claim cX11_claim 3 (some .long) 3 0 0 sX11_claim := by
  refine hx_con_of (by decide +kernel) tokX11 (by decide) ?_ ?_
  · intro Λ μ as KK h
    obtain ⟨hF, v1, v2, K, rfl, hw, hK⟩ := h
    exact Nat.le_of_ble_eq_true rfl
  · intro G KK hG cA Λ μ as h
    obtain ⟨hF, v1, v2, K, rfl, hw, hK⟩ := h
    exact cl_sub hG (hx_le_c rfl (hx_le_c rfl (hx_le_c rfl hx_le_0))) (kX11_claim hG cA hF _ _ hK hw)
/-! HemLine.best()I -/
def tbX11_best_0 : List (Nat × Instr × Nat) := [(0, .aload_n 0, 1), (1, .getfield 69, 3), (4, .invokevirtual 260, 3), (7, .ireturn, 1)]
theorem tdX11_best_0 : hx_dt cX11_best tbX11_best_0 = true := by decide +kernel
theorem caX11_best_260 {G : hx_GT} (cA : hx_CA RX11 cX11_best 4 0 0 G) : hx_CV cX11_best G 0 0 260 8 0 sX8_bestLag 0 0 := cA.1 conX8_bestLag rfl rfl ⟨by decide +kernel, by decide +kernel, by decide +kernel⟩ mw_971 mw_972 mw_973 mw_94 mw_974 (by decide) (by decide)
def wX11_best (μ : hx_M)  (K : Int32 → hx_M → Prop) : Prop := wX8_bestLag μ (fun r4_2 m4_1 => K r4_2 m4_1)
set_option maxRecDepth 100000 in
set_option maxHeartbeats 4000000 in
theorem kX11_best {G : hx_GT} {KK : hx_KT} (hG : hx_K cX11_best 1 0 0 (some .int) TbX11 KK G) (cA : hx_CA RX11 cX11_best 4 0 0 G) {Λ : hx_L} (hF : cF Λ) {μ : hx_M}  {K : Int32 → hx_M → Prop} (hK : ∀ (r : Int32) (m : hx_M), K r m → KK (some (.int r)) Λ m) (hw : wX11_best μ K) : G Λ μ (0, 0) 0 [some (.ref 0)] [] := by
  unfold wX11_best at hw
  refine cl_aload_n hG (hx_dq tdX11_best_0 0 rfl) rfl (cl_getS hG fmX11_69 (hx_dq tdX11_best_0 1 rfl) (cF_S0 hF) (cF_R0_10 hF) (cl_callV0 (caX11_best_260 cA) (hx_dq tdX11_best_0 2 rfl) (cF_S37 hF) (Nat.le_of_ble_eq_true rfl) (Nat.le_refl _) (Nat.le_refl _) (sX8_bestLag_mk hF hw (fun r4_2 m4_1 hw => ?_))))
  exact cl_iret hG (hx_dq tdX11_best_0 3 rfl) rfl rfl (hK _ _ hw) (Nat.le_refl _) (Nat.le_refl _)
def sX11_best : hx_ST := fun Λ μ as KK => cF Λ ∧ ∃ (K : Int32 → hx_M → Prop), as = [.ref 0] ∧ wX11_best μ K ∧ (∀ (r : Int32) (m : hx_M), K r m → KK (some (.int r)) Λ m)
theorem sX11_best_mk {Λ : hx_L} {μ : hx_M} {KK : hx_KT}  {K : Int32 → hx_M → Prop} (hF : cF Λ) (hw : wX11_best μ K) (hk : ∀ (r : Int32) (m : hx_M), K r m → KK (some (.int r)) Λ m) : sX11_best Λ μ [.ref 0] KK := ⟨hF, _, rfl, hw, hk⟩
theorem conX11_best : hx_Con yX11_best cX11_best 1 (some .int) 4 0 0 sX11_best := by
  refine hx_con_of (by decide +kernel) tokX11 (by decide) ?_ ?_
  · intro Λ μ as KK h
    obtain ⟨hF, K, rfl, hw, hK⟩ := h
    exact Nat.le_of_ble_eq_true rfl
  · intro G KK hG cA Λ μ as h
    obtain ⟨hF, K, rfl, hw, hK⟩ := h
    exact cl_sub hG (hx_le_c rfl hx_le_0) (kX11_best hG cA hF hK hw)
/-! HemLine.plate(III)I -/
def tbX11_plate_0 : List (Nat × Instr × Nat) := [(0, .iload_n 1, 1), (1, .iconst 0, 1), (2, .iconst 3, 1), (3, .invokestatic 94, 3), (6, .ifCond .eq 28, 3), (9, .iload_n 2, 1), (10, .iconst 0, 1), (11, .sipush 200, 3), (14, .invokestatic 94, 3), (17, .ifCond .eq 17, 3), (20, .iload_n 3, 1), (21, .iconst 0, 1), (22, .bipush 60, 2), (24, .invokestatic 94, 3), (27, .ifCond .eq 7, 3), (30, .iconst 1, 1), (31, .goto 4, 3), (34, .iconst 0, 1), (35, .istore 4, 2), (37, .iload 4, 2), (39, .ifCond .eq 16, 3), (42, .aload_n 0, 1), (43, .getfield 76, 3), (46, .iload_n 1, 1), (47, .iload_n 2, 1), (48, .iload_n 3, 1), (49, .invokevirtual 263, 3), (52, .goto 4, 3), (55, .iconst (-1), 1), (56, .ireturn, 1)]
theorem tdX11_plate_0 : hx_dt cX11_plate tbX11_plate_0 = true := by decide +kernel
theorem caX11_plate_94 {G : hx_GT} (cA : hx_CA RX11 cX11_plate 2 0 0 G) : hx_CS cX11_plate G 0 0 94 3 sX11_within 0 0 := cA.2.1 conX11_within ⟨by decide +kernel, by decide +kernel, by decide +kernel⟩ mw_477 mw_478 mw_84 mw_479 (by decide) (by decide)
theorem caX11_plate_263 {G : hx_GT} (cA : hx_CA RX11 cX11_plate 2 0 0 G) : hx_CV cX11_plate G 0 0 263 5 3 sX5_add 0 0 := cA.1 conX5_add rfl rfl ⟨by decide +kernel, by decide +kernel, by decide +kernel⟩ mw_981 mw_982 mw_983 mw_95 mw_984 (by decide) (by decide)
def wX11_plate_J35  (K : Int32 → hx_M → Prop)  (v1 : Int32) (v2 : Int32) (v3 : Int32) (t0 : Int32) (μ : hx_M) : Prop := (t0 = 0 → (K (-1) μ)) ∧ (¬ (t0 = 0) → (wX5_add μ v1 v2 v3 (fun r49_4 m49_3 => K r49_4 m49_3)))
set_option maxRecDepth 100000 in
set_option maxHeartbeats 4000000 in
theorem kX11_plate_J35 {G : hx_GT} {KK : hx_KT} (hG : hx_K cX11_plate 5 0 0 (some .int) TbX11 KK G) (cA : hx_CA RX11 cX11_plate 2 0 0 G) {Λ : hx_L} (hF : cF Λ) {μ : hx_M} (v1 : Int32) (v2 : Int32) (v3 : Int32) (t0 : Int32) {K : Int32 → hx_M → Prop} (hK : ∀ (r : Int32) (m : hx_M), K r m → KK (some (.int r)) Λ m)  (hw : wX11_plate_J35 K v1 v2 v3 t0 μ) : G Λ μ (0, 0) 35 [some (.ref 0), some (.int v1), some (.int v2), some (.int v3), none] [.int t0] := by
  unfold wX11_plate_J35 at hw
  refine cl_istore hG (hx_dq tdX11_plate_0 18 rfl) (Nat.le_of_ble_eq_true rfl) rfl (cl_iload hG (hx_dq tdX11_plate_0 19 rfl) rfl (cl_if_eq hG 55 (hx_dq tdX11_plate_0 20 rfl) rfl (fun c39 => ?_) (fun c39 => ?_)))
  · replace hw := hw.1 c39
    exact cl_iconst hG (-1) (hx_dq tdX11_plate_0 28 rfl) iconst_m1 (cl_iret hG (hx_dq tdX11_plate_0 29 rfl) rfl rfl (hK _ _ hw) (Nat.le_refl _) (Nat.le_refl _))
  · replace hw := hw.2 c39
    refine cl_aload_n hG (hx_dq tdX11_plate_0 21 rfl) rfl (cl_getS hG fmX11_76 (hx_dq tdX11_plate_0 22 rfl) (cF_S0 hF) (cF_R0_11 hF) (cl_iload_n hG (hx_dq tdX11_plate_0 23 rfl) rfl (cl_iload_n hG (hx_dq tdX11_plate_0 24 rfl) rfl (cl_iload_n hG (hx_dq tdX11_plate_0 25 rfl) rfl (cl_callV3 (caX11_plate_263 cA) (hx_dq tdX11_plate_0 26 rfl) (cF_S39 hF) (Nat.le_of_ble_eq_true rfl) (Nat.le_refl _) (Nat.le_refl _) (sX5_add_mk hF hw (fun r49_4 m49_3 hw => ?_)))))))
    exact cl_goto hG 56 (hx_dq tdX11_plate_0 27 rfl) rfl (cl_iret hG (hx_dq tdX11_plate_0 29 rfl) rfl rfl (hK _ _ hw) (Nat.le_refl _) (Nat.le_refl _))
def wX11_plate_J34  (K : Int32 → hx_M → Prop)  (v1 : Int32) (v2 : Int32) (v3 : Int32)  (μ : hx_M) : Prop := wX11_plate_J35 K v1 v2 v3 0 μ
set_option maxRecDepth 100000 in
set_option maxHeartbeats 4000000 in
theorem kX11_plate_J34 {G : hx_GT} {KK : hx_KT} (hG : hx_K cX11_plate 5 0 0 (some .int) TbX11 KK G) (cA : hx_CA RX11 cX11_plate 2 0 0 G) {Λ : hx_L} (hF : cF Λ) {μ : hx_M} (v1 : Int32) (v2 : Int32) (v3 : Int32)  {K : Int32 → hx_M → Prop} (hK : ∀ (r : Int32) (m : hx_M), K r m → KK (some (.int r)) Λ m)  (hw : wX11_plate_J34 K v1 v2 v3 μ) : G Λ μ (0, 0) 34 [some (.ref 0), some (.int v1), some (.int v2), some (.int v3), none] [] := by
  unfold wX11_plate_J34 at hw
  refine cl_iconst hG 0 (hx_dq tdX11_plate_0 17 rfl) iconst_0 ?_
  exact cl_sub hG (hx_le_c rfl (hx_le_c rfl (hx_le_c rfl (hx_le_c rfl (hx_le_n hx_le_0))))) (kX11_plate_J35 hG cA hF v1 v2 v3 0 hK hw)
def wX11_plate_J35_9  (K : Int32 → hx_M → Prop)  (v1 : Int32) (v2 : Int32) (v3 : Int32) (t0 : Int32) (μ : hx_M) : Prop := (t0 = 0 → (K (-1) μ)) ∧ (¬ (t0 = 0) → (wX5_add μ v1 v2 v3 (fun r49_11 m49_10 => K r49_11 m49_10)))
set_option maxRecDepth 100000 in
set_option maxHeartbeats 4000000 in
theorem kX11_plate_J35_9 {G : hx_GT} {KK : hx_KT} (hG : hx_K cX11_plate 5 0 0 (some .int) TbX11 KK G) (cA : hx_CA RX11 cX11_plate 2 0 0 G) {Λ : hx_L} (hF : cF Λ) {μ : hx_M} (v1 : Int32) (v2 : Int32) (v3 : Int32) (t0 : Int32) {K : Int32 → hx_M → Prop} (hK : ∀ (r : Int32) (m : hx_M), K r m → KK (some (.int r)) Λ m)  (hw : wX11_plate_J35_9 K v1 v2 v3 t0 μ) : G Λ μ (0, 0) 35 [some (.ref 0), some (.int v1), some (.int v2), some (.int v3), none] [.int t0] := by
  unfold wX11_plate_J35_9 at hw
  refine cl_istore hG (hx_dq tdX11_plate_0 18 rfl) (Nat.le_of_ble_eq_true rfl) rfl (cl_iload hG (hx_dq tdX11_plate_0 19 rfl) rfl (cl_if_eq hG 55 (hx_dq tdX11_plate_0 20 rfl) rfl (fun c39 => ?_) (fun c39 => ?_)))
  · replace hw := hw.1 c39
    exact cl_iconst hG (-1) (hx_dq tdX11_plate_0 28 rfl) iconst_m1 (cl_iret hG (hx_dq tdX11_plate_0 29 rfl) rfl rfl (hK _ _ hw) (Nat.le_refl _) (Nat.le_refl _))
  · replace hw := hw.2 c39
    refine cl_aload_n hG (hx_dq tdX11_plate_0 21 rfl) rfl (cl_getS hG fmX11_76 (hx_dq tdX11_plate_0 22 rfl) (cF_S0 hF) (cF_R0_11 hF) (cl_iload_n hG (hx_dq tdX11_plate_0 23 rfl) rfl (cl_iload_n hG (hx_dq tdX11_plate_0 24 rfl) rfl (cl_iload_n hG (hx_dq tdX11_plate_0 25 rfl) rfl (cl_callV3 (caX11_plate_263 cA) (hx_dq tdX11_plate_0 26 rfl) (cF_S39 hF) (Nat.le_of_ble_eq_true rfl) (Nat.le_refl _) (Nat.le_refl _) (sX5_add_mk hF hw (fun r49_11 m49_10 hw => ?_)))))))
    exact cl_goto hG 56 (hx_dq tdX11_plate_0 27 rfl) rfl (cl_iret hG (hx_dq tdX11_plate_0 29 rfl) rfl rfl (hK _ _ hw) (Nat.le_refl _) (Nat.le_refl _))
def wX11_plate (μ : hx_M) (v1 : Int32) (v2 : Int32) (v3 : Int32) (K : Int32 → hx_M → Prop) : Prop := wX11_within v1 0 3 (fun r3_2 => (r3_2 = 0 → (wX11_plate_J34 K v1 v2 v3 μ)) ∧ (¬ (r3_2 = 0) → (wX11_within v2 0 200 (fun r14_6 => (r14_6 = 0 → (wX11_plate_J34 K v1 v2 v3 μ)) ∧ (¬ (r14_6 = 0) → (wX11_within v3 0 60 (fun r24_8 => (r24_8 = 0 → (wX11_plate_J34 K v1 v2 v3 μ)) ∧ (¬ (r24_8 = 0) → (wX11_plate_J35_9 K v1 v2 v3 1 μ)))))))))
set_option maxRecDepth 100000 in
set_option maxHeartbeats 4000000 in
theorem kX11_plate {G : hx_GT} {KK : hx_KT} (hG : hx_K cX11_plate 5 0 0 (some .int) TbX11 KK G) (cA : hx_CA RX11 cX11_plate 2 0 0 G) {Λ : hx_L} (hF : cF Λ) {μ : hx_M} (v1 : Int32) (v2 : Int32) (v3 : Int32) {K : Int32 → hx_M → Prop} (hK : ∀ (r : Int32) (m : hx_M), K r m → KK (some (.int r)) Λ m) (hw : wX11_plate μ v1 v2 v3 K) : G Λ μ (0, 0) 0 [some (.ref 0), some (.int v1), some (.int v2), some (.int v3), none] [] := by
  unfold wX11_plate at hw
  refine cl_iload_n hG (hx_dq tdX11_plate_0 0 rfl) rfl (cl_iconst hG 0 (hx_dq tdX11_plate_0 1 rfl) iconst_0 (cl_iconst hG 3 (hx_dq tdX11_plate_0 2 rfl) iconst_3 (cl_callS3 (caX11_plate_94 cA) (hx_dq tdX11_plate_0 3 rfl) (Nat.le_of_ble_eq_true rfl) (Nat.le_refl _) (Nat.le_refl _) (sX11_within_mk hw (fun r3_2 hw => ?_)))))
  refine cl_if_eq hG 34 (hx_dq tdX11_plate_0 4 rfl) rfl (fun c6 => ?_) (fun c6 => ?_)
  · replace hw := hw.1 c6
    exact cl_sub hG (hx_le_c rfl (hx_le_c rfl (hx_le_c rfl (hx_le_c rfl (hx_le_n hx_le_0))))) (kX11_plate_J34 hG cA hF v1 v2 v3 hK hw)
  · replace hw := hw.2 c6
    refine cl_iload_n hG (hx_dq tdX11_plate_0 5 rfl) rfl (cl_iconst hG 0 (hx_dq tdX11_plate_0 6 rfl) iconst_0 (cl_sipush hG 200 (hx_dq tdX11_plate_0 7 rfl) sipush_200 (cl_callS3 (caX11_plate_94 cA) (hx_dq tdX11_plate_0 8 rfl) (Nat.le_of_ble_eq_true rfl) (Nat.le_refl _) (Nat.le_refl _) (sX11_within_mk hw (fun r14_6 hw => ?_)))))
    refine cl_if_eq hG 34 (hx_dq tdX11_plate_0 9 rfl) rfl (fun c17 => ?_) (fun c17 => ?_)
    · replace hw := hw.1 c17
      exact cl_sub hG (hx_le_c rfl (hx_le_c rfl (hx_le_c rfl (hx_le_c rfl (hx_le_n hx_le_0))))) (kX11_plate_J34 hG cA hF v1 v2 v3 hK hw)
    · replace hw := hw.2 c17
      refine cl_iload_n hG (hx_dq tdX11_plate_0 10 rfl) rfl (cl_iconst hG 0 (hx_dq tdX11_plate_0 11 rfl) iconst_0 (cl_bipush hG 60 (hx_dq tdX11_plate_0 12 rfl) bipush_60 (cl_callS3 (caX11_plate_94 cA) (hx_dq tdX11_plate_0 13 rfl) (Nat.le_of_ble_eq_true rfl) (Nat.le_refl _) (Nat.le_refl _) (sX11_within_mk hw (fun r24_8 hw => ?_)))))
      refine cl_if_eq hG 34 (hx_dq tdX11_plate_0 14 rfl) rfl (fun c27 => ?_) (fun c27 => ?_)
      · replace hw := hw.1 c27
        exact cl_sub hG (hx_le_c rfl (hx_le_c rfl (hx_le_c rfl (hx_le_c rfl (hx_le_n hx_le_0))))) (kX11_plate_J34 hG cA hF v1 v2 v3 hK hw)
      · replace hw := hw.2 c27
        refine cl_iconst hG 1 (hx_dq tdX11_plate_0 15 rfl) iconst_1 (cl_goto hG 35 (hx_dq tdX11_plate_0 16 rfl) rfl ?_)
        exact cl_sub hG (hx_le_c rfl (hx_le_c rfl (hx_le_c rfl (hx_le_c rfl (hx_le_n hx_le_0))))) (kX11_plate_J35_9 hG cA hF v1 v2 v3 1 hK hw)
def sX11_plate : hx_ST := fun Λ μ as KK => cF Λ ∧ ∃ (v1 : Int32) (v2 : Int32) (v3 : Int32) (K : Int32 → hx_M → Prop), as = [.ref 0, .int v1, .int v2, .int v3] ∧ wX11_plate μ v1 v2 v3 K ∧ (∀ (r : Int32) (m : hx_M), K r m → KK (some (.int r)) Λ m)
theorem sX11_plate_mk {Λ : hx_L} {μ : hx_M} {KK : hx_KT} {v1 : Int32} {v2 : Int32} {v3 : Int32} {K : Int32 → hx_M → Prop} (hF : cF Λ) (hw : wX11_plate μ v1 v2 v3 K) (hk : ∀ (r : Int32) (m : hx_M), K r m → KK (some (.int r)) Λ m) : sX11_plate Λ μ [.ref 0, .int v1, .int v2, .int v3] KK := ⟨hF, _, _, _, _, rfl, hw, hk⟩
theorem conX11_plate : hx_Con yX11_plate cX11_plate 5 (some .int) 2 0 0 sX11_plate := by
  refine hx_con_of (by decide +kernel) tokX11 (by decide) ?_ ?_
  · intro Λ μ as KK h
    obtain ⟨hF, v1, v2, v3, K, rfl, hw, hK⟩ := h
    exact Nat.le_of_ble_eq_true rfl
  · intro G KK hG cA Λ μ as h
    obtain ⟨hF, v1, v2, v3, K, rfl, hw, hK⟩ := h
    exact cl_sub hG (hx_le_c rfl (hx_le_c rfl (hx_le_c rfl (hx_le_c rfl (hx_le_n hx_le_0))))) (kX11_plate hG cA hF _ _ _ hK hw)
/-! HemLine.off(II)I -/
def tbX11_off_0 : List (Nat × Instr × Nat) := [(0, .iload_n 1, 1), (1, .iconst 0, 1), (2, .iconst 3, 1), (3, .invokestatic 94, 3), (6, .ifCond .eq 25, 3), (9, .iload_n 2, 1), (10, .iconst 0, 1), (11, .iconst 2, 1), (12, .invokestatic 94, 3), (15, .ifCond .eq 16, 3), (18, .aload_n 0, 1), (19, .getfield 46, 3), (22, .getfield 101, 3), (25, .invokevirtual 169, 3), (28, .ifCond .eq 5, 3), (31, .iconst (-1), 1), (32, .ireturn, 1), (33, .aload_n 0, 1), (34, .getfield 76, 3), (37, .iload_n 1, 1), (38, .iload_n 2, 1), (39, .invokevirtual 266, 3), (42, .ireturn, 1)]
theorem tdX11_off_0 : hx_dt cX11_off tbX11_off_0 = true := by decide +kernel
theorem caX11_off_94 {G : hx_GT} (cA : hx_CA RX11 cX11_off 4 0 0 G) : hx_CS cX11_off G 0 0 94 3 sX11_within 0 0 := cA.2.1 conX11_within ⟨by decide +kernel, by decide +kernel, by decide +kernel⟩ mw_477 mw_478 mw_84 mw_479 (by decide) (by decide)
theorem caX11_off_169 {G : hx_GT} (cA : hx_CA RX11 cX11_off 4 0 0 G) : hx_CV cX11_off G 0 0 169 4 0 sX4_isEmpty 0 0 := cA.1 conX4_isEmpty rfl rfl ⟨by decide +kernel, by decide +kernel, by decide +kernel⟩ mw_691 mw_692 mw_693 mw_87 mw_694 (by decide) (by decide)
theorem caX11_off_266 {G : hx_GT} (cA : hx_CA RX11 cX11_off 4 0 0 G) : hx_CV cX11_off G 0 0 266 5 2 sX5_offOf 0 0 := cA.1 conX5_offOf rfl rfl ⟨by decide +kernel, by decide +kernel, by decide +kernel⟩ mw_989 mw_990 mw_991 mw_95 mw_992 (by decide) (by decide)
def wX11_off (μ : hx_M) (v1 : Int32) (v2 : Int32) (K : Int32 → Prop) : Prop := wX11_within v1 0 3 (fun r3_2 => (r3_2 = 0 → (K (-1))) ∧ (¬ (r3_2 = 0) → (wX11_within v2 0 2 (fun r12_4 => (r12_4 = 0 → (K (-1))) ∧ (¬ (r12_4 = 0) → (wX4_isEmpty μ (fun r25_6 => (r25_6 = 0 → (wX5_offOf μ v1 v2 (fun r39_8 => K r39_8))) ∧ (¬ (r25_6 = 0) → (K (-1))))))))))
set_option maxRecDepth 100000 in
set_option maxHeartbeats 4000000 in
theorem kX11_off {G : hx_GT} {KK : hx_KT} (hG : hx_K cX11_off 3 0 0 (some .int) TbX11 KK G) (cA : hx_CA RX11 cX11_off 4 0 0 G) {Λ : hx_L} (hF : cF Λ) {μ : hx_M} (v1 : Int32) (v2 : Int32) {K : Int32 → Prop} (hK : ∀ (r : Int32), K r → KK (some (.int r)) Λ μ) (hw : wX11_off μ v1 v2 K) : G Λ μ (0, 0) 0 [some (.ref 0), some (.int v1), some (.int v2)] [] := by
  unfold wX11_off at hw
  refine cl_iload_n hG (hx_dq tdX11_off_0 0 rfl) rfl (cl_iconst hG 0 (hx_dq tdX11_off_0 1 rfl) iconst_0 (cl_iconst hG 3 (hx_dq tdX11_off_0 2 rfl) iconst_3 (cl_callS3 (caX11_off_94 cA) (hx_dq tdX11_off_0 3 rfl) (Nat.le_of_ble_eq_true rfl) (Nat.le_refl _) (Nat.le_refl _) (sX11_within_mk hw (fun r3_2 hw => ?_)))))
  refine cl_if_eq hG 31 (hx_dq tdX11_off_0 4 rfl) rfl (fun c6 => ?_) (fun c6 => ?_)
  · replace hw := hw.1 c6
    exact cl_iconst hG (-1) (hx_dq tdX11_off_0 15 rfl) iconst_m1 (cl_iret hG (hx_dq tdX11_off_0 16 rfl) rfl rfl (hK _ hw) (Nat.le_refl _) (Nat.le_refl _))
  · replace hw := hw.2 c6
    refine cl_iload_n hG (hx_dq tdX11_off_0 5 rfl) rfl (cl_iconst hG 0 (hx_dq tdX11_off_0 6 rfl) iconst_0 (cl_iconst hG 2 (hx_dq tdX11_off_0 7 rfl) iconst_2 (cl_callS3 (caX11_off_94 cA) (hx_dq tdX11_off_0 8 rfl) (Nat.le_of_ble_eq_true rfl) (Nat.le_refl _) (Nat.le_refl _) (sX11_within_mk hw (fun r12_4 hw => ?_)))))
    refine cl_if_eq hG 31 (hx_dq tdX11_off_0 9 rfl) rfl (fun c15 => ?_) (fun c15 => ?_)
    · replace hw := hw.1 c15
      exact cl_iconst hG (-1) (hx_dq tdX11_off_0 15 rfl) iconst_m1 (cl_iret hG (hx_dq tdX11_off_0 16 rfl) rfl rfl (hK _ hw) (Nat.le_refl _) (Nat.le_refl _))
    · replace hw := hw.2 c15
      refine cl_aload_n hG (hx_dq tdX11_off_0 10 rfl) rfl (cl_getS hG fmX11_46 (hx_dq tdX11_off_0 11 rfl) (cF_S0 hF) (cF_R0_7 hF) (cl_getS hG fmX11_101 (hx_dq tdX11_off_0 12 rfl) (cF_S7 hF) (cF_R7_0 hF) (cl_callV0 (caX11_off_169 cA) (hx_dq tdX11_off_0 13 rfl) (cF_S8 hF) (Nat.le_of_ble_eq_true rfl) (Nat.le_refl _) (Nat.le_refl _) (sX4_isEmpty_mk hF hw (fun r25_6 hw => ?_)))))
      refine cl_if_eq hG 33 (hx_dq tdX11_off_0 14 rfl) rfl (fun c28 => ?_) (fun c28 => ?_)
      · replace hw := hw.1 c28
        refine cl_aload_n hG (hx_dq tdX11_off_0 17 rfl) rfl (cl_getS hG fmX11_76 (hx_dq tdX11_off_0 18 rfl) (cF_S0 hF) (cF_R0_11 hF) (cl_iload_n hG (hx_dq tdX11_off_0 19 rfl) rfl (cl_iload_n hG (hx_dq tdX11_off_0 20 rfl) rfl (cl_callV2 (caX11_off_266 cA) (hx_dq tdX11_off_0 21 rfl) (cF_S39 hF) (Nat.le_of_ble_eq_true rfl) (Nat.le_refl _) (Nat.le_refl _) (sX5_offOf_mk hF hw (fun r39_8 hw => ?_))))))
        exact cl_iret hG (hx_dq tdX11_off_0 22 rfl) rfl rfl (hK _ hw) (Nat.le_refl _) (Nat.le_refl _)
      · replace hw := hw.2 c28
        exact cl_iconst hG (-1) (hx_dq tdX11_off_0 15 rfl) iconst_m1 (cl_iret hG (hx_dq tdX11_off_0 16 rfl) rfl rfl (hK _ hw) (Nat.le_refl _) (Nat.le_refl _))
def sX11_off : hx_ST := fun Λ μ as KK => cF Λ ∧ ∃ (v1 : Int32) (v2 : Int32) (K : Int32 → Prop), as = [.ref 0, .int v1, .int v2] ∧ wX11_off μ v1 v2 K ∧ (∀ (r : Int32), K r → KK (some (.int r)) Λ μ)
theorem sX11_off_mk {Λ : hx_L} {μ : hx_M} {KK : hx_KT} {v1 : Int32} {v2 : Int32} {K : Int32 → Prop} (hF : cF Λ) (hw : wX11_off μ v1 v2 K) (hk : ∀ (r : Int32), K r → KK (some (.int r)) Λ μ) : sX11_off Λ μ [.ref 0, .int v1, .int v2] KK := ⟨hF, _, _, _, rfl, hw, hk⟩
theorem conX11_off : hx_Con yX11_off cX11_off 3 (some .int) 4 0 0 sX11_off := by
  refine hx_con_of (by decide +kernel) tokX11 (by decide) ?_ ?_
  · intro Λ μ as KK h
    obtain ⟨hF, v1, v2, K, rfl, hw, hK⟩ := h
    exact Nat.le_of_ble_eq_true rfl
  · intro G KK hG cA Λ μ as h
    obtain ⟨hF, v1, v2, K, rfl, hw, hK⟩ := h
    exact cl_sub hG (hx_le_c rfl (hx_le_c rfl (hx_le_c rfl hx_le_0))) (kX11_off hG cA hF _ _ hK hw)
/-! HemLine.again(II)I -/
def tbX11_again_0 : List (Nat × Instr × Nat) := [(0, .iload_n 1, 1), (1, .iconst 0, 1), (2, .bipush 60, 2), (4, .invokestatic 94, 3), (7, .ifCond .eq 25, 3), (10, .iload_n 2, 1), (11, .iconst 0, 1), (12, .iconst 2, 1), (13, .invokestatic 94, 3), (16, .ifCond .eq 16, 3), (19, .aload_n 0, 1), (20, .getfield 46, 3), (23, .getfield 101, 3), (26, .invokevirtual 169, 3), (29, .ifCond .eq 5, 3), (32, .iconst (-1), 1), (33, .ireturn, 1), (34, .aload_n 0, 1), (35, .getfield 62, 3), (38, .iload_n 1, 1), (39, .iload_n 2, 1), (40, .invokevirtual 269, 3), (43, .ireturn, 1)]
theorem tdX11_again_0 : hx_dt cX11_again tbX11_again_0 = true := by decide +kernel
theorem caX11_again_94 {G : hx_GT} (cA : hx_CA RX11 cX11_again 3 0 0 G) : hx_CS cX11_again G 0 0 94 3 sX11_within 0 0 := cA.2.1 conX11_within ⟨by decide +kernel, by decide +kernel, by decide +kernel⟩ mw_477 mw_478 mw_84 mw_479 (by decide) (by decide)
theorem caX11_again_169 {G : hx_GT} (cA : hx_CA RX11 cX11_again 3 0 0 G) : hx_CV cX11_again G 0 0 169 4 0 sX4_isEmpty 0 0 := cA.1 conX4_isEmpty rfl rfl ⟨by decide +kernel, by decide +kernel, by decide +kernel⟩ mw_691 mw_692 mw_693 mw_87 mw_694 (by decide) (by decide)
theorem caX11_again_269 {G : hx_GT} (cA : hx_CA RX11 cX11_again 3 0 0 G) : hx_CV cX11_again G 0 0 269 0 2 sX0_visitsOf 0 0 := cA.1 conX0_visitsOf rfl rfl ⟨by decide +kernel, by decide +kernel, by decide +kernel⟩ mw_1008 mw_1009 mw_1010 mw_93 mw_1011 (by decide) (by decide)
def wX11_again (μ : hx_M) (v1 : Int32) (v2 : Int32) (K : Int32 → Prop) : Prop := wX11_within v1 0 60 (fun r4_2 => (r4_2 = 0 → (K (-1))) ∧ (¬ (r4_2 = 0) → (wX11_within v2 0 2 (fun r13_4 => (r13_4 = 0 → (K (-1))) ∧ (¬ (r13_4 = 0) → (wX4_isEmpty μ (fun r26_6 => (r26_6 = 0 → (wX0_visitsOf μ v1 v2 (fun r40_8 => K r40_8))) ∧ (¬ (r26_6 = 0) → (K (-1))))))))))
set_option maxRecDepth 100000 in
set_option maxHeartbeats 4000000 in
theorem kX11_again {G : hx_GT} {KK : hx_KT} (hG : hx_K cX11_again 3 0 0 (some .int) TbX11 KK G) (cA : hx_CA RX11 cX11_again 3 0 0 G) {Λ : hx_L} (hF : cF Λ) {μ : hx_M} (v1 : Int32) (v2 : Int32) {K : Int32 → Prop} (hK : ∀ (r : Int32), K r → KK (some (.int r)) Λ μ) (hw : wX11_again μ v1 v2 K) : G Λ μ (0, 0) 0 [some (.ref 0), some (.int v1), some (.int v2)] [] := by
  unfold wX11_again at hw
  refine cl_iload_n hG (hx_dq tdX11_again_0 0 rfl) rfl (cl_iconst hG 0 (hx_dq tdX11_again_0 1 rfl) iconst_0 (cl_bipush hG 60 (hx_dq tdX11_again_0 2 rfl) bipush_60 (cl_callS3 (caX11_again_94 cA) (hx_dq tdX11_again_0 3 rfl) (Nat.le_of_ble_eq_true rfl) (Nat.le_refl _) (Nat.le_refl _) (sX11_within_mk hw (fun r4_2 hw => ?_)))))
  refine cl_if_eq hG 32 (hx_dq tdX11_again_0 4 rfl) rfl (fun c7 => ?_) (fun c7 => ?_)
  · replace hw := hw.1 c7
    exact cl_iconst hG (-1) (hx_dq tdX11_again_0 15 rfl) iconst_m1 (cl_iret hG (hx_dq tdX11_again_0 16 rfl) rfl rfl (hK _ hw) (Nat.le_refl _) (Nat.le_refl _))
  · replace hw := hw.2 c7
    refine cl_iload_n hG (hx_dq tdX11_again_0 5 rfl) rfl (cl_iconst hG 0 (hx_dq tdX11_again_0 6 rfl) iconst_0 (cl_iconst hG 2 (hx_dq tdX11_again_0 7 rfl) iconst_2 (cl_callS3 (caX11_again_94 cA) (hx_dq tdX11_again_0 8 rfl) (Nat.le_of_ble_eq_true rfl) (Nat.le_refl _) (Nat.le_refl _) (sX11_within_mk hw (fun r13_4 hw => ?_)))))
    refine cl_if_eq hG 32 (hx_dq tdX11_again_0 9 rfl) rfl (fun c16 => ?_) (fun c16 => ?_)
    · replace hw := hw.1 c16
      exact cl_iconst hG (-1) (hx_dq tdX11_again_0 15 rfl) iconst_m1 (cl_iret hG (hx_dq tdX11_again_0 16 rfl) rfl rfl (hK _ hw) (Nat.le_refl _) (Nat.le_refl _))
    · replace hw := hw.2 c16
      refine cl_aload_n hG (hx_dq tdX11_again_0 10 rfl) rfl (cl_getS hG fmX11_46 (hx_dq tdX11_again_0 11 rfl) (cF_S0 hF) (cF_R0_7 hF) (cl_getS hG fmX11_101 (hx_dq tdX11_again_0 12 rfl) (cF_S7 hF) (cF_R7_0 hF) (cl_callV0 (caX11_again_169 cA) (hx_dq tdX11_again_0 13 rfl) (cF_S8 hF) (Nat.le_of_ble_eq_true rfl) (Nat.le_refl _) (Nat.le_refl _) (sX4_isEmpty_mk hF hw (fun r26_6 hw => ?_)))))
      refine cl_if_eq hG 34 (hx_dq tdX11_again_0 14 rfl) rfl (fun c29 => ?_) (fun c29 => ?_)
      · replace hw := hw.1 c29
        refine cl_aload_n hG (hx_dq tdX11_again_0 17 rfl) rfl (cl_getS hG fmX11_62 (hx_dq tdX11_again_0 18 rfl) (cF_S0 hF) (cF_R0_9 hF) (cl_iload_n hG (hx_dq tdX11_again_0 19 rfl) rfl (cl_iload_n hG (hx_dq tdX11_again_0 20 rfl) rfl (cl_callV2 (caX11_again_269 cA) (hx_dq tdX11_again_0 21 rfl) (cF_S36 hF) (Nat.le_of_ble_eq_true rfl) (Nat.le_refl _) (Nat.le_refl _) (sX0_visitsOf_mk hF hw (fun r40_8 hw => ?_))))))
        exact cl_iret hG (hx_dq tdX11_again_0 22 rfl) rfl rfl (hK _ hw) (Nat.le_refl _) (Nat.le_refl _)
      · replace hw := hw.2 c29
        exact cl_iconst hG (-1) (hx_dq tdX11_again_0 15 rfl) iconst_m1 (cl_iret hG (hx_dq tdX11_again_0 16 rfl) rfl rfl (hK _ hw) (Nat.le_refl _) (Nat.le_refl _))
def sX11_again : hx_ST := fun Λ μ as KK => cF Λ ∧ ∃ (v1 : Int32) (v2 : Int32) (K : Int32 → Prop), as = [.ref 0, .int v1, .int v2] ∧ wX11_again μ v1 v2 K ∧ (∀ (r : Int32), K r → KK (some (.int r)) Λ μ)
theorem sX11_again_mk {Λ : hx_L} {μ : hx_M} {KK : hx_KT} {v1 : Int32} {v2 : Int32} {K : Int32 → Prop} (hF : cF Λ) (hw : wX11_again μ v1 v2 K) (hk : ∀ (r : Int32), K r → KK (some (.int r)) Λ μ) : sX11_again Λ μ [.ref 0, .int v1, .int v2] KK := ⟨hF, _, _, _, rfl, hw, hk⟩
theorem conX11_again : hx_Con yX11_again cX11_again 3 (some .int) 3 0 0 sX11_again := by
  refine hx_con_of (by decide +kernel) tokX11 (by decide) ?_ ?_
  · intro Λ μ as KK h
    obtain ⟨hF, v1, v2, K, rfl, hw, hK⟩ := h
    exact Nat.le_of_ble_eq_true rfl
  · intro G KK hG cA Λ μ as h
    obtain ⟨hF, v1, v2, K, rfl, hw, hK⟩ := h
    exact cl_sub hG (hx_le_c rfl (hx_le_c rfl (hx_le_c rfl hx_le_0))) (kX11_again hG cA hF _ _ hK hw)
/-! HemLine.foretell(I)I -/
def tbX11_foretell_0 : List (Nat × Instr × Nat) := [(0, .aload_n 0, 1), (1, .invokevirtual 165, 3), (4, .astore_n 2, 1), (5, .iload_n 1, 1), (6, .iconst 1, 1), (7, .bipush 50, 2), (9, .invokestatic 94, 3), (12, .ifCond .eq 20, 3), (15, .aload_n 2, 1), (16, .ifnull 16, 3), (19, .aload_n 0, 1), (20, .getfield 46, 3), (23, .getfield 101, 3), (26, .invokevirtual 169, 3), (29, .ifCond .eq 5, 3), (32, .iconst (-1), 1), (33, .ireturn, 1), (34, .aload_n 0, 1), (35, .getfield 55, 3), (38, .aload_n 2, 1), (39, .iload_n 1, 1), (40, .iconst 1, 1), (41, .iconst (-1), 1), (42, .invokevirtual 206, 3), (45, .aload_n 0, 1), (46, .getfield 46, 3), (49, .getfield 98, 3), (52, .iload_n 1, 1), (53, .iadd, 1), (54, .istore_n 3, 1), (55, .aload_n 0, 1), (56, .getfield 46, 3)]
def tbX11_foretell_1 : List (Nat × Instr × Nat) := [(59, .iload_n 3, 1), (60, .aload_n 0, 1), (61, .getfield 46, 3), (64, .iload_n 3, 1), (65, .invokevirtual 180, 3), (68, .aload_n 0, 1), (69, .getfield 46, 3), (72, .aload_n 0, 1), (73, .getfield 46, 3), (76, .getfield 98, 3), (79, .invokevirtual 180, 3), (82, .invokevirtual 272, 3), (85, .ireturn, 1)]
theorem tdX11_foretell_0 : hx_dt cX11_foretell tbX11_foretell_0 = true := by decide +kernel
theorem tdX11_foretell_1 : hx_dt cX11_foretell tbX11_foretell_1 = true := by decide +kernel
theorem caX11_foretell_94 {G : hx_GT} (cA : hx_CA RX11 cX11_foretell 8 0 0 G) : hx_CS cX11_foretell G 0 0 94 3 sX11_within 0 0 := cA.2.1 conX11_within ⟨by decide +kernel, by decide +kernel, by decide +kernel⟩ mw_477 mw_478 mw_84 mw_479 (by decide) (by decide)
theorem caX11_foretell_165 {G : hx_GT} (cA : hx_CA RX11 cX11_foretell 8 0 0 G) : hx_CV cX11_foretell G 0 0 165 11 0 sX11_lawInForce 0 0 := cA.1 conX11_lawInForce rfl rfl ⟨by decide +kernel, by decide +kernel, by decide +kernel⟩ mw_687 mw_689 mw_15 mw_84 mw_690 (by decide) (by decide)
theorem caX11_foretell_169 {G : hx_GT} (cA : hx_CA RX11 cX11_foretell 8 0 0 G) : hx_CV cX11_foretell G 0 0 169 4 0 sX4_isEmpty 0 0 := cA.1 conX4_isEmpty rfl rfl ⟨by decide +kernel, by decide +kernel, by decide +kernel⟩ mw_691 mw_692 mw_693 mw_87 mw_694 (by decide) (by decide)
theorem caX11_foretell_180 {G : hx_GT} (cA : hx_CA RX11 cX11_foretell 8 0 0 G) : hx_CV cX11_foretell G 0 0 180 10 1 sX10_lineAt 0 0 := cA.1 conX10_lineAt rfl rfl ⟨by decide +kernel, by decide +kernel, by decide +kernel⟩ mw_791 mw_792 mw_793 mw_86 mw_794 (by decide) (by decide)
theorem caX11_foretell_206 {G : hx_GT} (cA : hx_CA RX11 cX11_foretell 8 0 0 G) : hx_CV cX11_foretell G 0 0 206 9 4 sX9_rehearse 0 0 := cA.1 conX9_rehearse rfl rfl ⟨by decide +kernel, by decide +kernel, by decide +kernel⟩ mw_812 mw_813 mw_814 mw_92 mw_815 (by decide) (by decide)
theorem caX11_foretell_272 {G : hx_GT} (cA : hx_CA RX11 cX11_foretell 8 0 0 G) : hx_CV cX11_foretell G 0 0 272 10 3 sX10_keepForetold 0 0 := cA.1 conX10_keepForetold rfl rfl ⟨by decide +kernel, by decide +kernel, by decide +kernel⟩ mw_1017 mw_1018 mw_1019 mw_86 mw_1020 (by decide) (by decide)
def wX11_foretell (Λ : hx_L) (μ : hx_M) (v1 : Int32) (K : Int32 → hx_M → Prop) : Prop := wX11_lawInForce Λ μ (fun r1_2 => wX11_within v1 1 50 (fun r9_4 => (r9_4 = 0 → (K (-1) μ)) ∧ (¬ (r9_4 = 0) → ((r1_2 = none → (K (-1) μ)) ∧ (∀ k16_5, r1_2 = some k16_5 → (wX4_isEmpty μ (fun r26_7 => (r26_7 = 0 → (wX9_rehearse Λ μ k16_5 v1 1 (-1) (fun m42_8 => wX10_lineAt m42_8 ((m42_8.1 7 7) + v1) (fun r65_11 => wX10_lineAt m42_8 (m42_8.1 7 7) (fun r79_13 => wX10_keepForetold m42_8 ((m42_8.1 7 7) + v1) r65_11 r79_13 (fun r82_15 m82_14 => K r82_15 m82_14)))))) ∧ (¬ (r26_7 = 0) → (K (-1) μ)))))))))
set_option maxRecDepth 100000 in
set_option maxHeartbeats 4000000 in
theorem kX11_foretell {G : hx_GT} {KK : hx_KT} (hG : hx_K cX11_foretell 4 0 0 (some .int) TbX11 KK G) (cA : hx_CA RX11 cX11_foretell 8 0 0 G) {Λ : hx_L} (hF : cF Λ) {μ : hx_M} (v1 : Int32) {K : Int32 → hx_M → Prop} (hK : ∀ (r : Int32) (m : hx_M), K r m → KK (some (.int r)) Λ m) (hw : wX11_foretell Λ μ v1 K) : G Λ μ (0, 0) 0 [some (.ref 0), some (.int v1), none, none] [] := by
  unfold wX11_foretell at hw
  refine cl_aload_n hG (hx_dq tdX11_foretell_0 0 rfl) rfl (cl_callV0 (caX11_foretell_165 cA) (hx_dq tdX11_foretell_0 1 rfl) (cF_S0 hF) (Nat.le_of_ble_eq_true rfl) (Nat.le_refl _) (Nat.le_refl _) (sX11_lawInForce_mk hF hw (fun r1_2 hw => ?_)))
  refine cl_astore_nQ hG (hx_dq tdX11_foretell_0 2 rfl) (Nat.le_of_ble_eq_true rfl) rfl (cl_iload_n hG (hx_dq tdX11_foretell_0 3 rfl) rfl (cl_iconst hG 1 (hx_dq tdX11_foretell_0 4 rfl) iconst_1 (cl_bipush hG 50 (hx_dq tdX11_foretell_0 5 rfl) bipush_50 (cl_callS3 (caX11_foretell_94 cA) (hx_dq tdX11_foretell_0 6 rfl) (Nat.le_of_ble_eq_true rfl) (Nat.le_refl _) (Nat.le_refl _) (sX11_within_mk hw (fun r9_4 hw => ?_))))))
  refine cl_if_eq hG 32 (hx_dq tdX11_foretell_0 7 rfl) rfl (fun c12 => ?_) (fun c12 => ?_)
  · replace hw := hw.1 c12
    exact cl_iconst hG (-1) (hx_dq tdX11_foretell_0 15 rfl) iconst_m1 (cl_iret hG (hx_dq tdX11_foretell_0 16 rfl) rfl rfl (hK _ _ hw) (Nat.le_refl _) (Nat.le_refl _))
  · replace hw := hw.2 c12
    refine cl_aload_nQ hG (hx_dq tdX11_foretell_0 8 rfl) rfl (cl_ifnull hG 32 (hx_dq tdX11_foretell_0 9 rfl) rfl (fun c16 => ?_) (fun k16_5 c16 => ?_))
    · replace hw := hw.1 c16
      exact cl_iconst hG (-1) (hx_dq tdX11_foretell_0 15 rfl) iconst_m1 (cl_iret hG (hx_dq tdX11_foretell_0 16 rfl) rfl rfl (hK _ _ hw) (Nat.le_refl _) (Nat.le_refl _))
    · replace hw := hw.2 k16_5 c16
      revert hw
      subst c16
      intro hw
      refine cl_aload_n hG (hx_dq tdX11_foretell_0 10 rfl) rfl (cl_getS hG fmX11_46 (hx_dq tdX11_foretell_0 11 rfl) (cF_S0 hF) (cF_R0_7 hF) (cl_getS hG fmX11_101 (hx_dq tdX11_foretell_0 12 rfl) (cF_S7 hF) (cF_R7_0 hF) (cl_callV0 (caX11_foretell_169 cA) (hx_dq tdX11_foretell_0 13 rfl) (cF_S8 hF) (Nat.le_of_ble_eq_true rfl) (Nat.le_refl _) (Nat.le_refl _) (sX4_isEmpty_mk hF hw (fun r26_7 hw => ?_)))))
      refine cl_if_eq hG 34 (hx_dq tdX11_foretell_0 14 rfl) rfl (fun c29 => ?_) (fun c29 => ?_)
      · replace hw := hw.1 c29
        refine cl_aload_n hG (hx_dq tdX11_foretell_0 17 rfl) rfl (cl_getS hG fmX11_55 (hx_dq tdX11_foretell_0 18 rfl) (cF_S0 hF) (cF_R0_8 hF) (cl_aload_n hG (hx_dq tdX11_foretell_0 19 rfl) rfl (cl_iload_n hG (hx_dq tdX11_foretell_0 20 rfl) rfl (cl_iconst hG 1 (hx_dq tdX11_foretell_0 21 rfl) iconst_1 (cl_iconst hG (-1) (hx_dq tdX11_foretell_0 22 rfl) iconst_m1 (cl_callV4 (caX11_foretell_206 cA) (hx_dq tdX11_foretell_0 23 rfl) (cF_S28 hF) (Nat.le_of_ble_eq_true rfl) (Nat.le_refl _) (Nat.le_refl _) (sX9_rehearse_mk hF hw (fun m42_8 hw => ?_))))))))
        refine cl_aload_n hG (hx_dq tdX11_foretell_0 24 rfl) rfl (cl_getS hG fmX11_46 (hx_dq tdX11_foretell_0 25 rfl) (cF_S0 hF) (cF_R0_7 hF) (cl_getI hG fmX11_98 (hx_dq tdX11_foretell_0 26 rfl) (cF_S7 hF) (cl_iload_n hG (hx_dq tdX11_foretell_0 27 rfl) rfl (cl_iadd hG (hx_dq tdX11_foretell_0 28 rfl) (cl_istore_n hG (hx_dq tdX11_foretell_0 29 rfl) (Nat.le_of_ble_eq_true rfl) rfl (cl_aload_n hG (hx_dq tdX11_foretell_0 30 rfl) rfl (cl_getS hG fmX11_46 (hx_dq tdX11_foretell_0 31 rfl) (cF_S0 hF) (cF_R0_7 hF) (cl_iload_n hG (hx_dq tdX11_foretell_1 0 rfl) rfl (cl_aload_n hG (hx_dq tdX11_foretell_1 1 rfl) rfl (cl_getS hG fmX11_46 (hx_dq tdX11_foretell_1 2 rfl) (cF_S0 hF) (cF_R0_7 hF) (cl_iload_n hG (hx_dq tdX11_foretell_1 3 rfl) rfl (cl_callV1 (caX11_foretell_180 cA) (hx_dq tdX11_foretell_1 4 rfl) (cF_S7 hF) (Nat.le_of_ble_eq_true rfl) (Nat.le_refl _) (Nat.le_refl _) (sX10_lineAt_mk hF hw (fun r65_11 hw => ?_))))))))))))))
        refine cl_aload_n hG (hx_dq tdX11_foretell_1 5 rfl) rfl (cl_getS hG fmX11_46 (hx_dq tdX11_foretell_1 6 rfl) (cF_S0 hF) (cF_R0_7 hF) (cl_aload_n hG (hx_dq tdX11_foretell_1 7 rfl) rfl (cl_getS hG fmX11_46 (hx_dq tdX11_foretell_1 8 rfl) (cF_S0 hF) (cF_R0_7 hF) (cl_getI hG fmX11_98 (hx_dq tdX11_foretell_1 9 rfl) (cF_S7 hF) (cl_callV1 (caX11_foretell_180 cA) (hx_dq tdX11_foretell_1 10 rfl) (cF_S7 hF) (Nat.le_of_ble_eq_true rfl) (Nat.le_refl _) (Nat.le_refl _) (sX10_lineAt_mk hF hw (fun r79_13 hw => ?_)))))))
        refine cl_callV3 (caX11_foretell_272 cA) (hx_dq tdX11_foretell_1 11 rfl) (cF_S7 hF) (Nat.le_of_ble_eq_true rfl) (Nat.le_refl _) (Nat.le_refl _) (sX10_keepForetold_mk hF hw (fun r82_15 m82_14 hw => ?_))
        exact cl_iret hG (hx_dq tdX11_foretell_1 12 rfl) rfl rfl (hK _ _ hw) (Nat.le_refl _) (Nat.le_refl _)
      · replace hw := hw.2 c29
        exact cl_iconst hG (-1) (hx_dq tdX11_foretell_0 15 rfl) iconst_m1 (cl_iret hG (hx_dq tdX11_foretell_0 16 rfl) rfl rfl (hK _ _ hw) (Nat.le_refl _) (Nat.le_refl _))
def sX11_foretell : hx_ST := fun Λ μ as KK => cF Λ ∧ ∃ (v1 : Int32) (K : Int32 → hx_M → Prop), as = [.ref 0, .int v1] ∧ wX11_foretell Λ μ v1 K ∧ (∀ (r : Int32) (m : hx_M), K r m → KK (some (.int r)) Λ m)
theorem sX11_foretell_mk {Λ : hx_L} {μ : hx_M} {KK : hx_KT} {v1 : Int32} {K : Int32 → hx_M → Prop} (hF : cF Λ) (hw : wX11_foretell Λ μ v1 K) (hk : ∀ (r : Int32) (m : hx_M), K r m → KK (some (.int r)) Λ m) : sX11_foretell Λ μ [.ref 0, .int v1] KK := ⟨hF, _, _, rfl, hw, hk⟩
theorem conX11_foretell : hx_Con yX11_foretell cX11_foretell 4 (some .int) 8 0 0 sX11_foretell := by
  refine hx_con_of (by decide +kernel) tokX11 (by decide) ?_ ?_
  · intro Λ μ as KK h
    obtain ⟨hF, v1, K, rfl, hw, hK⟩ := h
    exact Nat.le_of_ble_eq_true rfl
  · intro G KK hG cA Λ μ as h
    obtain ⟨hF, v1, K, rfl, hw, hK⟩ := h
    exact cl_sub hG (hx_le_c rfl (hx_le_c rfl (hx_le_n (hx_le_n hx_le_0)))) (kX11_foretell hG cA hF _ hK hw)
/-! HemLine.held(II)I -/
def tbX11_held_0 : List (Nat × Instr × Nat) := [(0, .iload_n 1, 1), (1, .iconst 0, 1), (2, .aload_n 0, 1), (3, .getfield 46, 3), (6, .getfield 275, 3), (9, .iconst 1, 1), (10, .isub, 1), (11, .invokestatic 94, 3), (14, .ifCond .eq 12, 3), (17, .iload_n 2, 1), (18, .iconst 0, 1), (19, .iconst 3, 1), (20, .invokestatic 94, 3), (23, .ifCond .ne 6, 3), (26, .bipush (-2), 2), (28, .ireturn, 1), (29, .aload_n 0, 1), (30, .getfield 46, 3), (33, .getfield 278, 3), (36, .iload_n 1, 1), (37, .iaload, 1), (38, .istore_n 3, 1), (39, .iload_n 2, 1), (40, .iconst 2, 1), (41, .if_icmp .ge 21, 3), (44, .iload_n 2, 1), (45, .ifCond .ne 15, 3), (48, .aload_n 0, 1), (49, .getfield 46, 3), (52, .getfield 281, 3), (55, .iload_n 1, 1), (56, .iaload, 1)]
def tbX11_held_1 : List (Nat × Instr × Nat) := [(57, .goto 4, 3), (60, .iload_n 3, 1), (61, .ireturn, 1), (62, .aload_n 0, 1), (63, .getfield 46, 3), (66, .iload_n 3, 1), (67, .invokevirtual 177, 3), (70, .ifCond .ne 5, 3), (73, .iconst (-1), 1), (74, .ireturn, 1), (75, .iload_n 2, 1), (76, .iconst 2, 1), (77, .if_icmp .ne 15, 3), (80, .aload_n 0, 1), (81, .getfield 46, 3), (84, .getfield 281, 3), (87, .iload_n 1, 1), (88, .iaload, 1), (89, .goto 12, 3), (92, .aload_n 0, 1), (93, .getfield 46, 3), (96, .getfield 284, 3), (99, .iload_n 1, 1), (100, .iaload, 1), (101, .istore 4, 2), (103, .iload 4, 2), (105, .aload_n 0, 1), (106, .getfield 46, 3), (109, .iload_n 3, 1), (110, .invokevirtual 180, 3), (113, .isub, 1), (114, .invokestatic 287, 3)]
def tbX11_held_2 : List (Nat × Instr × Nat) := [(117, .ireturn, 1)]
theorem tdX11_held_0 : hx_dt cX11_held tbX11_held_0 = true := by decide +kernel
theorem tdX11_held_1 : hx_dt cX11_held tbX11_held_1 = true := by decide +kernel
theorem tdX11_held_2 : hx_dt cX11_held tbX11_held_2 = true := by decide +kernel
theorem caX11_held_94 {G : hx_GT} (cA : hx_CA RX11 cX11_held 3 0 0 G) : hx_CS cX11_held G 0 0 94 3 sX11_within 0 0 := cA.2.1 conX11_within ⟨by decide +kernel, by decide +kernel, by decide +kernel⟩ mw_477 mw_478 mw_84 mw_479 (by decide) (by decide)
theorem caX11_held_177 {G : hx_GT} (cA : hx_CA RX11 cX11_held 3 0 0 G) : hx_CV cX11_held G 0 0 177 10 1 sX10_hasSeason 0 0 := cA.1 conX10_hasSeason rfl rfl ⟨by decide +kernel, by decide +kernel, by decide +kernel⟩ mw_786 mw_787 mw_788 mw_86 mw_789 (by decide) (by decide)
theorem caX11_held_180 {G : hx_GT} (cA : hx_CA RX11 cX11_held 3 0 0 G) : hx_CV cX11_held G 0 0 180 10 1 sX10_lineAt 0 0 := cA.1 conX10_lineAt rfl rfl ⟨by decide +kernel, by decide +kernel, by decide +kernel⟩ mw_791 mw_792 mw_793 mw_86 mw_794 (by decide) (by decide)
def wX11_held_J101 (μ : hx_M) (K : Int32 → Prop)  (v3 : Int32) (t0 : Int32)  : Prop := wX10_lineAt μ v3 (fun r110_10 => ∀ x_11 : Int32, x_11 = (if 0 ≤ (t0 - r110_10) then (t0 - r110_10) else 0 - (t0 - r110_10)) → K x_11)
set_option maxRecDepth 100000 in
set_option maxHeartbeats 4000000 in
theorem kX11_held_J101 {G : hx_GT} {KK : hx_KT} (hG : hx_K cX11_held 5 0 0 (some .int) TbX11 KK G) (cA : hx_CA RX11 cX11_held 3 0 0 G) {Λ : hx_L} (hF : cF Λ) {μ : hx_M} (v3 : Int32) (t0 : Int32) {K : Int32 → Prop} (hK : ∀ (r : Int32), K r → KK (some (.int r)) Λ μ)  (hw : wX11_held_J101 μ K v3 t0) : G Λ μ (0, 0) 101 [some (.ref 0), none, none, some (.int v3), none] [.int t0] := by
  unfold wX11_held_J101 at hw
  refine cl_istore hG (hx_dq tdX11_held_1 24 rfl) (Nat.le_of_ble_eq_true rfl) rfl (cl_iload hG (hx_dq tdX11_held_1 25 rfl) rfl (cl_aload_n hG (hx_dq tdX11_held_1 26 rfl) rfl (cl_getS hG fmX11_46 (hx_dq tdX11_held_1 27 rfl) (cF_S0 hF) (cF_R0_7 hF) (cl_iload_n hG (hx_dq tdX11_held_1 28 rfl) rfl (cl_callV1 (caX11_held_180 cA) (hx_dq tdX11_held_1 29 rfl) (cF_S7 hF) (Nat.le_of_ble_eq_true rfl) (Nat.le_refl _) (Nat.le_refl _) (sX10_lineAt_mk hF hw (fun r110_10 hw => ?_)))))))
  refine cl_isub hG (hx_dq tdX11_held_1 30 rfl) (cl_mabs hG mmX11_287 (hx_dq tdX11_held_1 31 rfl) (Nat.le_refl _) (Nat.le_refl _) (Nat.le_of_ble_eq_true rfl) (cl_nmI (fun x_11 e_11 => ?_)))
  replace hw := hw x_11 e_11
  exact cl_iret hG (hx_dq tdX11_held_2 0 rfl) rfl rfl (hK _ hw) (Nat.le_refl _) (Nat.le_refl _)
def wX11_held (μ : hx_M) (v1 : Int32) (v2 : Int32) (K : Int32 → Prop) : Prop := wX11_within v1 0 ((μ.1 7 8) - 1) (fun r11_2 => (r11_2 = 0 → (K (-2))) ∧ (¬ (r11_2 = 0) → (wX11_within v2 0 3 (fun r20_4 => (r20_4 ≠ 0 → (vp_in v1 20 ∧ (2 ≤ v2 → (wX10_hasSeason μ (μ.1 25 v1.toNatClampNeg) (fun r67_7 => (r67_7 ≠ 0 → ((v2 ≠ 2 → (vp_in v1 20 ∧ wX11_held_J101 μ K (μ.1 25 v1.toNatClampNeg) (μ.1 27 v1.toNatClampNeg))) ∧ (v2 = 2 → (vp_in v1 20 ∧ wX11_held_J101 μ K (μ.1 25 v1.toNatClampNeg) (μ.1 26 v1.toNatClampNeg))))) ∧ (r67_7 = 0 → (K (-1)))))) ∧ (¬ (2 ≤ v2) → ((v2 ≠ 0 → (K (μ.1 25 v1.toNatClampNeg))) ∧ (v2 = 0 → (vp_in v1 20 ∧ K (μ.1 26 v1.toNatClampNeg))))))) ∧ (r20_4 = 0 → (K (-2)))))))
set_option maxRecDepth 100000 in
set_option maxHeartbeats 4000000 in
theorem kX11_held {G : hx_GT} {KK : hx_KT} (hG : hx_K cX11_held 5 0 0 (some .int) TbX11 KK G) (cA : hx_CA RX11 cX11_held 3 0 0 G) {Λ : hx_L} (hF : cF Λ) {μ : hx_M} (v1 : Int32) (v2 : Int32) {K : Int32 → Prop} (hK : ∀ (r : Int32), K r → KK (some (.int r)) Λ μ) (hw : wX11_held μ v1 v2 K) : G Λ μ (0, 0) 0 [some (.ref 0), some (.int v1), some (.int v2), none, none] [] := by
  unfold wX11_held at hw
  refine cl_iload_n hG (hx_dq tdX11_held_0 0 rfl) rfl (cl_iconst hG 0 (hx_dq tdX11_held_0 1 rfl) iconst_0 (cl_aload_n hG (hx_dq tdX11_held_0 2 rfl) rfl (cl_getS hG fmX11_46 (hx_dq tdX11_held_0 3 rfl) (cF_S0 hF) (cF_R0_7 hF) (cl_getI hG fmX11_275 (hx_dq tdX11_held_0 4 rfl) (cF_S7 hF) (cl_iconst hG 1 (hx_dq tdX11_held_0 5 rfl) iconst_1 (cl_isub hG (hx_dq tdX11_held_0 6 rfl) (cl_callS3 (caX11_held_94 cA) (hx_dq tdX11_held_0 7 rfl) (Nat.le_of_ble_eq_true rfl) (Nat.le_refl _) (Nat.le_refl _) (sX11_within_mk hw (fun r11_2 hw => ?_)))))))))
  refine cl_if_eq hG 26 (hx_dq tdX11_held_0 8 rfl) rfl (fun c14 => ?_) (fun c14 => ?_)
  · replace hw := hw.1 c14
    exact cl_bipush hG (-2) (hx_dq tdX11_held_0 14 rfl) bipush_m2 (cl_iret hG (hx_dq tdX11_held_0 15 rfl) rfl rfl (hK _ hw) (Nat.le_refl _) (Nat.le_refl _))
  · replace hw := hw.2 c14
    refine cl_iload_n hG (hx_dq tdX11_held_0 9 rfl) rfl (cl_iconst hG 0 (hx_dq tdX11_held_0 10 rfl) iconst_0 (cl_iconst hG 3 (hx_dq tdX11_held_0 11 rfl) iconst_3 (cl_callS3 (caX11_held_94 cA) (hx_dq tdX11_held_0 12 rfl) (Nat.le_of_ble_eq_true rfl) (Nat.le_refl _) (Nat.le_refl _) (sX11_within_mk hw (fun r20_4 hw => ?_)))))
    refine cl_if_ne hG 29 (hx_dq tdX11_held_0 13 rfl) rfl (fun c23 => ?_) (fun c23 => ?_)
    · replace hw := hw.1 c23
      obtain ⟨i37_5, hw⟩ := hw
      refine cl_aload_n hG (hx_dq tdX11_held_0 16 rfl) rfl (cl_getS hG fmX11_46 (hx_dq tdX11_held_0 17 rfl) (cF_S0 hF) (cF_R0_7 hF) (cl_getS hG fmX11_278 (hx_dq tdX11_held_0 18 rfl) (cF_S7 hF) (cF_R7_9 hF) (cl_iload_n hG (hx_dq tdX11_held_0 19 rfl) rfl (cl_iald hG (hx_dq tdX11_held_0 20 rfl) (cF_S25 hF) i37_5 (cl_istore_n hG (hx_dq tdX11_held_0 21 rfl) (Nat.le_of_ble_eq_true rfl) rfl (cl_iload_n hG (hx_dq tdX11_held_0 22 rfl) rfl (cl_iconst hG 2 (hx_dq tdX11_held_0 23 rfl) iconst_2 (cl_icmp_ge hG 62 (hx_dq tdX11_held_0 24 rfl) rfl (fun c41 => ?_) (fun c41 => ?_)))))))))
      · replace hw := hw.1 c41
        refine cl_aload_n hG (hx_dq tdX11_held_1 3 rfl) rfl (cl_getS hG fmX11_46 (hx_dq tdX11_held_1 4 rfl) (cF_S0 hF) (cF_R0_7 hF) (cl_iload_n hG (hx_dq tdX11_held_1 5 rfl) rfl (cl_callV1 (caX11_held_177 cA) (hx_dq tdX11_held_1 6 rfl) (cF_S7 hF) (Nat.le_of_ble_eq_true rfl) (Nat.le_refl _) (Nat.le_refl _) (sX10_hasSeason_mk hF hw (fun r67_7 hw => ?_)))))
        refine cl_if_ne hG 75 (hx_dq tdX11_held_1 7 rfl) rfl (fun c70 => ?_) (fun c70 => ?_)
        · replace hw := hw.1 c70
          refine cl_iload_n hG (hx_dq tdX11_held_1 10 rfl) rfl (cl_iconst hG 2 (hx_dq tdX11_held_1 11 rfl) iconst_2 (cl_icmp_ne hG 92 (hx_dq tdX11_held_1 12 rfl) rfl (fun c77 => ?_) (fun c77 => ?_)))
          · replace hw := hw.1 c77
            obtain ⟨i100_8, hw⟩ := hw
            refine cl_aload_n hG (hx_dq tdX11_held_1 19 rfl) rfl (cl_getS hG fmX11_46 (hx_dq tdX11_held_1 20 rfl) (cF_S0 hF) (cF_R0_7 hF) (cl_getS hG fmX11_284 (hx_dq tdX11_held_1 21 rfl) (cF_S7 hF) (cF_R7_11 hF) (cl_iload_n hG (hx_dq tdX11_held_1 22 rfl) rfl (cl_iald hG (hx_dq tdX11_held_1 23 rfl) (cF_S27 hF) i100_8 ?_))))
            exact cl_sub hG (hx_le_c rfl (hx_le_n (hx_le_n (hx_le_c rfl (hx_le_n hx_le_0))))) (kX11_held_J101 hG cA hF (μ.1 25 v1.toNatClampNeg) (μ.1 27 v1.toNatClampNeg) hK hw)
          · replace hw := hw.2 c77
            obtain ⟨i88_12, hw⟩ := hw
            refine cl_aload_n hG (hx_dq tdX11_held_1 13 rfl) rfl (cl_getS hG fmX11_46 (hx_dq tdX11_held_1 14 rfl) (cF_S0 hF) (cF_R0_7 hF) (cl_getS hG fmX11_281 (hx_dq tdX11_held_1 15 rfl) (cF_S7 hF) (cF_R7_10 hF) (cl_iload_n hG (hx_dq tdX11_held_1 16 rfl) rfl (cl_iald hG (hx_dq tdX11_held_1 17 rfl) (cF_S26 hF) i88_12 (cl_goto hG 101 (hx_dq tdX11_held_1 18 rfl) rfl ?_)))))
            exact cl_sub hG (hx_le_c rfl (hx_le_n (hx_le_n (hx_le_c rfl (hx_le_n hx_le_0))))) (kX11_held_J101 hG cA hF (μ.1 25 v1.toNatClampNeg) (μ.1 26 v1.toNatClampNeg) hK hw)
        · replace hw := hw.2 c70
          exact cl_iconst hG (-1) (hx_dq tdX11_held_1 8 rfl) iconst_m1 (cl_iret hG (hx_dq tdX11_held_1 9 rfl) rfl rfl (hK _ hw) (Nat.le_refl _) (Nat.le_refl _))
      · replace hw := hw.2 c41
        refine cl_iload_n hG (hx_dq tdX11_held_0 25 rfl) rfl (cl_if_ne hG 60 (hx_dq tdX11_held_0 26 rfl) rfl (fun c45 => ?_) (fun c45 => ?_))
        · replace hw := hw.1 c45
          exact cl_iload_n hG (hx_dq tdX11_held_1 1 rfl) rfl (cl_iret hG (hx_dq tdX11_held_1 2 rfl) rfl rfl (hK _ hw) (Nat.le_refl _) (Nat.le_refl _))
        · replace hw := hw.2 c45
          obtain ⟨i56_13, hw⟩ := hw
          exact cl_aload_n hG (hx_dq tdX11_held_0 27 rfl) rfl (cl_getS hG fmX11_46 (hx_dq tdX11_held_0 28 rfl) (cF_S0 hF) (cF_R0_7 hF) (cl_getS hG fmX11_281 (hx_dq tdX11_held_0 29 rfl) (cF_S7 hF) (cF_R7_10 hF) (cl_iload_n hG (hx_dq tdX11_held_0 30 rfl) rfl (cl_iald hG (hx_dq tdX11_held_0 31 rfl) (cF_S26 hF) i56_13 (cl_goto hG 61 (hx_dq tdX11_held_1 0 rfl) rfl (cl_iret hG (hx_dq tdX11_held_1 2 rfl) rfl rfl (hK _ hw) (Nat.le_refl _) (Nat.le_refl _)))))))
    · replace hw := hw.2 c23
      exact cl_bipush hG (-2) (hx_dq tdX11_held_0 14 rfl) bipush_m2 (cl_iret hG (hx_dq tdX11_held_0 15 rfl) rfl rfl (hK _ hw) (Nat.le_refl _) (Nat.le_refl _))
def sX11_held : hx_ST := fun Λ μ as KK => cF Λ ∧ ∃ (v1 : Int32) (v2 : Int32) (K : Int32 → Prop), as = [.ref 0, .int v1, .int v2] ∧ wX11_held μ v1 v2 K ∧ (∀ (r : Int32), K r → KK (some (.int r)) Λ μ)
theorem sX11_held_mk {Λ : hx_L} {μ : hx_M} {KK : hx_KT} {v1 : Int32} {v2 : Int32} {K : Int32 → Prop} (hF : cF Λ) (hw : wX11_held μ v1 v2 K) (hk : ∀ (r : Int32), K r → KK (some (.int r)) Λ μ) : sX11_held Λ μ [.ref 0, .int v1, .int v2] KK := ⟨hF, _, _, _, rfl, hw, hk⟩
theorem conX11_held : hx_Con yX11_held cX11_held 5 (some .int) 3 0 0 sX11_held := by
  refine hx_con_of (by decide +kernel) tokX11 (by decide) ?_ ?_
  · intro Λ μ as KK h
    obtain ⟨hF, v1, v2, K, rfl, hw, hK⟩ := h
    exact Nat.le_of_ble_eq_true rfl
  · intro G KK hG cA Λ μ as h
    obtain ⟨hF, v1, v2, K, rfl, hw, hK⟩ := h
    exact cl_sub hG (hx_le_c rfl (hx_le_c rfl (hx_le_c rfl (hx_le_n (hx_le_n hx_le_0))))) (kX11_held hG cA hF _ _ hK hw)
/-! HemLine.behind(II)I -/
def tbX11_behind_0 : List (Nat × Instr × Nat) := [(0, .iload_n 1, 1), (1, .iconst 0, 1), (2, .bipush 99, 2), (4, .invokestatic 94, 3), (7, .ifCond .eq 25, 3), (10, .iload_n 2, 1), (11, .iconst 0, 1), (12, .iconst 3, 1), (13, .invokestatic 94, 3), (16, .ifCond .eq 16, 3), (19, .aload_n 0, 1), (20, .getfield 46, 3), (23, .getfield 101, 3), (26, .invokevirtual 169, 3), (29, .ifCond .eq 5, 3), (32, .iconst (-1), 1), (33, .ireturn, 1), (34, .aload_n 0, 1), (35, .getfield 62, 3), (38, .iload_n 1, 1), (39, .iload_n 2, 1), (40, .iconst 2, 1), (41, .if_icmp .lt 7, 3), (44, .iconst 1, 1), (45, .goto 4, 3), (48, .iconst 0, 1), (49, .iload_n 2, 1), (50, .iconst 2, 1), (51, .irem, 1), (52, .iconst 1, 1), (53, .if_icmp .ne 7, 3), (56, .iconst 1, 1)]
def tbX11_behind_1 : List (Nat × Instr × Nat) := [(57, .goto 4, 3), (60, .iconst 0, 1), (61, .invokevirtual 292, 3), (64, .ireturn, 1)]
theorem tdX11_behind_0 : hx_dt cX11_behind tbX11_behind_0 = true := by decide +kernel
theorem tdX11_behind_1 : hx_dt cX11_behind tbX11_behind_1 = true := by decide +kernel
theorem caX11_behind_94 {G : hx_GT} (cA : hx_CA RX11 cX11_behind 3 0 0 G) : hx_CS cX11_behind G 0 0 94 3 sX11_within 0 0 := cA.2.1 conX11_within ⟨by decide +kernel, by decide +kernel, by decide +kernel⟩ mw_477 mw_478 mw_84 mw_479 (by decide) (by decide)
theorem caX11_behind_169 {G : hx_GT} (cA : hx_CA RX11 cX11_behind 3 0 0 G) : hx_CV cX11_behind G 0 0 169 4 0 sX4_isEmpty 0 0 := cA.1 conX4_isEmpty rfl rfl ⟨by decide +kernel, by decide +kernel, by decide +kernel⟩ mw_691 mw_692 mw_693 mw_87 mw_694 (by decide) (by decide)
theorem caX11_behind_292 {G : hx_GT} (cA : hx_CA RX11 cX11_behind 3 0 0 G) : hx_CV cX11_behind G 0 0 292 0 3 sX0_farFromLine 0 0 := cA.1 conX0_farFromLine rfl rfl ⟨by decide +kernel, by decide +kernel, by decide +kernel⟩ mw_1030 mw_1031 mw_1032 mw_93 mw_1033 (by decide) (by decide)
def wX11_behind_J61 (μ : hx_M) (K : Int32 → Prop)   (t1 : Int32) (t2 : Int32) (t3 : Int32)  : Prop := wX0_farFromLine μ t1 t2 t3 (fun r61_8 => K r61_8)
set_option maxRecDepth 100000 in
set_option maxHeartbeats 4000000 in
theorem kX11_behind_J61 {G : hx_GT} {KK : hx_KT} (hG : hx_K cX11_behind 3 0 0 (some .int) TbX11 KK G) (cA : hx_CA RX11 cX11_behind 3 0 0 G) {Λ : hx_L} (hF : cF Λ) {μ : hx_M}  (t1 : Int32) (t2 : Int32) (t3 : Int32) {K : Int32 → Prop} (hK : ∀ (r : Int32), K r → KK (some (.int r)) Λ μ)  (hw : wX11_behind_J61 μ K t1 t2 t3) : G Λ μ (0, 0) 61 [none, none, none] [.int t3, .int t2, .int t1, .ref 36] := by
  unfold wX11_behind_J61 at hw
  refine cl_callV3 (caX11_behind_292 cA) (hx_dq tdX11_behind_1 2 rfl) (cF_S36 hF) (Nat.le_of_ble_eq_true rfl) (Nat.le_refl _) (Nat.le_refl _) (sX0_farFromLine_mk hF hw (fun r61_8 hw => ?_))
  exact cl_iret hG (hx_dq tdX11_behind_1 3 rfl) rfl rfl (hK _ hw) (Nat.le_refl _) (Nat.le_refl _)
def wX11_behind_J49 (μ : hx_M) (K : Int32 → Prop)  (v2 : Int32) (t1 : Int32) (t2 : Int32)  : Prop := ((v2 - v2 / 2 * 2) ≠ 1 → (wX11_behind_J61 μ K t1 t2 0)) ∧ ((v2 - v2 / 2 * 2) = 1 → (wX11_behind_J61 μ K t1 t2 1))
set_option maxRecDepth 100000 in
set_option maxHeartbeats 4000000 in
theorem kX11_behind_J49 {G : hx_GT} {KK : hx_KT} (hG : hx_K cX11_behind 3 0 0 (some .int) TbX11 KK G) (cA : hx_CA RX11 cX11_behind 3 0 0 G) {Λ : hx_L} (hF : cF Λ) {μ : hx_M} (v2 : Int32) (t1 : Int32) (t2 : Int32) {K : Int32 → Prop} (hK : ∀ (r : Int32), K r → KK (some (.int r)) Λ μ)  (hw : wX11_behind_J49 μ K v2 t1 t2) : G Λ μ (0, 0) 49 [none, none, some (.int v2)] [.int t2, .int t1, .ref 36] := by
  unfold wX11_behind_J49 at hw
  refine cl_iload_n hG (hx_dq tdX11_behind_0 26 rfl) rfl (cl_iconst hG 2 (hx_dq tdX11_behind_0 27 rfl) iconst_2 (cl_irem hG (hx_dq tdX11_behind_0 28 rfl) (by decide) (cl_iconst hG 1 (hx_dq tdX11_behind_0 29 rfl) iconst_1 (cl_icmp_ne hG 60 (hx_dq tdX11_behind_0 30 rfl) rfl (fun c53 => ?_) (fun c53 => ?_)))))
  · replace hw := hw.1 c53
    refine cl_iconst hG 0 (hx_dq tdX11_behind_1 1 rfl) iconst_0 ?_
    exact cl_sub hG (hx_le_n (hx_le_n (hx_le_n hx_le_0))) (kX11_behind_J61 hG cA hF t1 t2 0 hK hw)
  · replace hw := hw.2 c53
    refine cl_iconst hG 1 (hx_dq tdX11_behind_0 31 rfl) iconst_1 (cl_goto hG 61 (hx_dq tdX11_behind_1 0 rfl) rfl ?_)
    exact cl_sub hG (hx_le_n (hx_le_n (hx_le_n hx_le_0))) (kX11_behind_J61 hG cA hF t1 t2 1 hK hw)
def wX11_behind (μ : hx_M) (v1 : Int32) (v2 : Int32) (K : Int32 → Prop) : Prop := wX11_within v1 0 99 (fun r4_2 => (r4_2 = 0 → (K (-1))) ∧ (¬ (r4_2 = 0) → (wX11_within v2 0 3 (fun r13_4 => (r13_4 = 0 → (K (-1))) ∧ (¬ (r13_4 = 0) → (wX4_isEmpty μ (fun r26_6 => (r26_6 = 0 → ((v2 < 2 → (wX11_behind_J49 μ K v2 v1 0)) ∧ (¬ (v2 < 2) → (wX11_behind_J49 μ K v2 v1 1)))) ∧ (¬ (r26_6 = 0) → (K (-1))))))))))
set_option maxRecDepth 100000 in
set_option maxHeartbeats 4000000 in
theorem kX11_behind {G : hx_GT} {KK : hx_KT} (hG : hx_K cX11_behind 3 0 0 (some .int) TbX11 KK G) (cA : hx_CA RX11 cX11_behind 3 0 0 G) {Λ : hx_L} (hF : cF Λ) {μ : hx_M} (v1 : Int32) (v2 : Int32) {K : Int32 → Prop} (hK : ∀ (r : Int32), K r → KK (some (.int r)) Λ μ) (hw : wX11_behind μ v1 v2 K) : G Λ μ (0, 0) 0 [some (.ref 0), some (.int v1), some (.int v2)] [] := by
  unfold wX11_behind at hw
  refine cl_iload_n hG (hx_dq tdX11_behind_0 0 rfl) rfl (cl_iconst hG 0 (hx_dq tdX11_behind_0 1 rfl) iconst_0 (cl_bipush hG 99 (hx_dq tdX11_behind_0 2 rfl) bipush_99 (cl_callS3 (caX11_behind_94 cA) (hx_dq tdX11_behind_0 3 rfl) (Nat.le_of_ble_eq_true rfl) (Nat.le_refl _) (Nat.le_refl _) (sX11_within_mk hw (fun r4_2 hw => ?_)))))
  refine cl_if_eq hG 32 (hx_dq tdX11_behind_0 4 rfl) rfl (fun c7 => ?_) (fun c7 => ?_)
  · replace hw := hw.1 c7
    exact cl_iconst hG (-1) (hx_dq tdX11_behind_0 15 rfl) iconst_m1 (cl_iret hG (hx_dq tdX11_behind_0 16 rfl) rfl rfl (hK _ hw) (Nat.le_refl _) (Nat.le_refl _))
  · replace hw := hw.2 c7
    refine cl_iload_n hG (hx_dq tdX11_behind_0 5 rfl) rfl (cl_iconst hG 0 (hx_dq tdX11_behind_0 6 rfl) iconst_0 (cl_iconst hG 3 (hx_dq tdX11_behind_0 7 rfl) iconst_3 (cl_callS3 (caX11_behind_94 cA) (hx_dq tdX11_behind_0 8 rfl) (Nat.le_of_ble_eq_true rfl) (Nat.le_refl _) (Nat.le_refl _) (sX11_within_mk hw (fun r13_4 hw => ?_)))))
    refine cl_if_eq hG 32 (hx_dq tdX11_behind_0 9 rfl) rfl (fun c16 => ?_) (fun c16 => ?_)
    · replace hw := hw.1 c16
      exact cl_iconst hG (-1) (hx_dq tdX11_behind_0 15 rfl) iconst_m1 (cl_iret hG (hx_dq tdX11_behind_0 16 rfl) rfl rfl (hK _ hw) (Nat.le_refl _) (Nat.le_refl _))
    · replace hw := hw.2 c16
      refine cl_aload_n hG (hx_dq tdX11_behind_0 10 rfl) rfl (cl_getS hG fmX11_46 (hx_dq tdX11_behind_0 11 rfl) (cF_S0 hF) (cF_R0_7 hF) (cl_getS hG fmX11_101 (hx_dq tdX11_behind_0 12 rfl) (cF_S7 hF) (cF_R7_0 hF) (cl_callV0 (caX11_behind_169 cA) (hx_dq tdX11_behind_0 13 rfl) (cF_S8 hF) (Nat.le_of_ble_eq_true rfl) (Nat.le_refl _) (Nat.le_refl _) (sX4_isEmpty_mk hF hw (fun r26_6 hw => ?_)))))
      refine cl_if_eq hG 34 (hx_dq tdX11_behind_0 14 rfl) rfl (fun c29 => ?_) (fun c29 => ?_)
      · replace hw := hw.1 c29
        refine cl_aload_n hG (hx_dq tdX11_behind_0 17 rfl) rfl (cl_getS hG fmX11_62 (hx_dq tdX11_behind_0 18 rfl) (cF_S0 hF) (cF_R0_9 hF) (cl_iload_n hG (hx_dq tdX11_behind_0 19 rfl) rfl (cl_iload_n hG (hx_dq tdX11_behind_0 20 rfl) rfl (cl_iconst hG 2 (hx_dq tdX11_behind_0 21 rfl) iconst_2 (cl_icmp_lt hG 48 (hx_dq tdX11_behind_0 22 rfl) rfl (fun c41 => ?_) (fun c41 => ?_))))))
        · replace hw := hw.1 c41
          refine cl_iconst hG 0 (hx_dq tdX11_behind_0 25 rfl) iconst_0 ?_
          exact cl_sub hG (hx_le_n (hx_le_n (hx_le_c rfl hx_le_0))) (kX11_behind_J49 hG cA hF v2 v1 0 hK hw)
        · replace hw := hw.2 c41
          refine cl_iconst hG 1 (hx_dq tdX11_behind_0 23 rfl) iconst_1 (cl_goto hG 49 (hx_dq tdX11_behind_0 24 rfl) rfl ?_)
          exact cl_sub hG (hx_le_n (hx_le_n (hx_le_c rfl hx_le_0))) (kX11_behind_J49 hG cA hF v2 v1 1 hK hw)
      · replace hw := hw.2 c29
        exact cl_iconst hG (-1) (hx_dq tdX11_behind_0 15 rfl) iconst_m1 (cl_iret hG (hx_dq tdX11_behind_0 16 rfl) rfl rfl (hK _ hw) (Nat.le_refl _) (Nat.le_refl _))
def sX11_behind : hx_ST := fun Λ μ as KK => cF Λ ∧ ∃ (v1 : Int32) (v2 : Int32) (K : Int32 → Prop), as = [.ref 0, .int v1, .int v2] ∧ wX11_behind μ v1 v2 K ∧ (∀ (r : Int32), K r → KK (some (.int r)) Λ μ)
theorem sX11_behind_mk {Λ : hx_L} {μ : hx_M} {KK : hx_KT} {v1 : Int32} {v2 : Int32} {K : Int32 → Prop} (hF : cF Λ) (hw : wX11_behind μ v1 v2 K) (hk : ∀ (r : Int32), K r → KK (some (.int r)) Λ μ) : sX11_behind Λ μ [.ref 0, .int v1, .int v2] KK := ⟨hF, _, _, _, rfl, hw, hk⟩
theorem conX11_behind : hx_Con yX11_behind cX11_behind 3 (some .int) 3 0 0 sX11_behind := by
  refine hx_con_of (by decide +kernel) tokX11 (by decide) ?_ ?_
  · intro Λ μ as KK h
    obtain ⟨hF, v1, v2, K, rfl, hw, hK⟩ := h
    exact Nat.le_of_ble_eq_true rfl
  · intro G KK hG cA Λ μ as h
    obtain ⟨hF, v1, v2, K, rfl, hw, hK⟩ := h
    exact cl_sub hG (hx_le_c rfl (hx_le_c rfl (hx_le_c rfl hx_le_0))) (kX11_behind hG cA hF _ _ hK hw)
/-! HemLine.shop(II)I -/
def tbX11_shop_0 : List (Nat × Instr × Nat) := [(0, .aload_n 0, 1), (1, .invokevirtual 165, 3), (4, .astore_n 3, 1), (5, .iload_n 1, 1), (6, .iconst 1, 1), (7, .bipush 6, 2), (9, .invokestatic 94, 3), (12, .ifCond .eq 24, 3), (15, .iload_n 2, 1), (16, .ifCond .eq 16, 3), (19, .iload_n 2, 1), (20, .bipush 10, 2), (22, .bipush 9, 2), (24, .iload_n 1, 1), (25, .iadd, 1), (26, .invokestatic 94, 3), (29, .ifCond .eq 7, 3), (32, .iconst 1, 1), (33, .goto 4, 3), (36, .iconst 0, 1), (37, .istore 4, 2), (39, .iload 4, 2), (41, .ifCond .eq 20, 3), (44, .aload_n 3, 1), (45, .ifnull 16, 3), (48, .aload_n 0, 1), (49, .getfield 46, 3), (52, .getfield 101, 3), (55, .invokevirtual 169, 3), (58, .ifCond .eq 5, 3), (61, .iconst (-1), 1), (62, .ireturn, 1)]
def tbX11_shop_1 : List (Nat × Instr × Nat) := [(63, .aload_n 0, 1), (64, .getfield 83, 3), (67, .aload_n 3, 1), (68, .invokevirtual 296, 3), (71, .aload_n 0, 1), (72, .getfield 83, 3), (75, .iload_n 1, 1), (76, .invokevirtual 299, 3), (79, .iload_n 2, 1), (80, .ifCond .ne 13, 3), (83, .aload_n 0, 1), (84, .getfield 83, 3), (87, .getfield 302, 3), (90, .goto 15, 3), (93, .aload_n 0, 1), (94, .getfield 83, 3), (97, .getfield 305, 3), (100, .iload_n 2, 1), (101, .bipush 10, 2), (103, .isub, 1), (104, .iaload, 1), (105, .ireturn, 1)]
theorem tdX11_shop_0 : hx_dt cX11_shop tbX11_shop_0 = true := by decide +kernel
theorem tdX11_shop_1 : hx_dt cX11_shop tbX11_shop_1 = true := by decide +kernel
theorem caX11_shop_94 {G : hx_GT} (cA : hx_CA RX11 cX11_shop 7 0 0 G) : hx_CS cX11_shop G 0 0 94 3 sX11_within 0 0 := cA.2.1 conX11_within ⟨by decide +kernel, by decide +kernel, by decide +kernel⟩ mw_477 mw_478 mw_84 mw_479 (by decide) (by decide)
theorem caX11_shop_165 {G : hx_GT} (cA : hx_CA RX11 cX11_shop 7 0 0 G) : hx_CV cX11_shop G 0 0 165 11 0 sX11_lawInForce 0 0 := cA.1 conX11_lawInForce rfl rfl ⟨by decide +kernel, by decide +kernel, by decide +kernel⟩ mw_687 mw_689 mw_15 mw_84 mw_690 (by decide) (by decide)
theorem caX11_shop_169 {G : hx_GT} (cA : hx_CA RX11 cX11_shop 7 0 0 G) : hx_CV cX11_shop G 0 0 169 4 0 sX4_isEmpty 0 0 := cA.1 conX4_isEmpty rfl rfl ⟨by decide +kernel, by decide +kernel, by decide +kernel⟩ mw_691 mw_692 mw_693 mw_87 mw_694 (by decide) (by decide)
theorem caX11_shop_296 {G : hx_GT} (cA : hx_CA RX11 cX11_shop 7 0 0 G) : hx_CV cX11_shop G 0 0 296 7 1 sX7_gatherWishes 0 0 := cA.1 conX7_gatherWishes rfl rfl ⟨by decide +kernel, by decide +kernel, by decide +kernel⟩ mw_1038 mw_1039 mw_1040 mw_96 mw_1041 (by decide) (by decide)
theorem caX11_shop_299 {G : hx_GT} (cA : hx_CA RX11 cX11_shop 7 0 0 G) : hx_CV cX11_shop G 0 0 299 7 1 sX7_order 0 0 := cA.1 conX7_order rfl rfl ⟨by decide +kernel, by decide +kernel, by decide +kernel⟩ mw_1045 mw_1046 mw_1047 mw_96 mw_1048 (by decide) (by decide)
def wX11_shop_J37 (Λ : hx_L) (K : Int32 → hx_M → Prop)  (v1 : Int32) (v2 : Int32) (v3 : Option Nat) (t0 : Int32) (μ : hx_M) : Prop := (t0 = 0 → (K (-1) μ)) ∧ (¬ (t0 = 0) → ((v3 = none → (K (-1) μ)) ∧ (∀ k45_5, v3 = some k45_5 → (wX4_isEmpty μ (fun r55_7 => (r55_7 = 0 → (wX7_gatherWishes Λ μ k45_5 (fun m68_8 => wX7_order m68_8 v1 (fun m76_10 => (v2 ≠ 0 → (vp_in (v2 - 10) 6 ∧ K ((m76_10.1 47 ((v2 - 10).toNatClampNeg))) m76_10)) ∧ (v2 = 0 → (K (m76_10.1 43 5) m76_10)))))) ∧ (¬ (r55_7 = 0) → (K (-1) μ)))))))
set_option maxRecDepth 100000 in
set_option maxHeartbeats 4000000 in
theorem kX11_shop_J37 {G : hx_GT} {KK : hx_KT} (hG : hx_K cX11_shop 5 0 0 (some .int) TbX11 KK G) (cA : hx_CA RX11 cX11_shop 7 0 0 G) {Λ : hx_L} (hF : cF Λ) {μ : hx_M} (v1 : Int32) (v2 : Int32) (v3 : Option Nat) (t0 : Int32) {K : Int32 → hx_M → Prop} (hK : ∀ (r : Int32) (m : hx_M), K r m → KK (some (.int r)) Λ m)  (hw : wX11_shop_J37 Λ K v1 v2 v3 t0 μ) : G Λ μ (0, 0) 37 [some (.ref 0), some (.int v1), some (.int v2), some (va_rf v3), none] [.int t0] := by
  unfold wX11_shop_J37 at hw
  refine cl_istore hG (hx_dq tdX11_shop_0 20 rfl) (Nat.le_of_ble_eq_true rfl) (hx_n2q rfl) (cl_iload hG (hx_dq tdX11_shop_0 21 rfl) rfl (cl_if_eq hG 61 (hx_dq tdX11_shop_0 22 rfl) rfl (fun c41 => ?_) (fun c41 => ?_)))
  · replace hw := hw.1 c41
    exact cl_iconst hG (-1) (hx_dq tdX11_shop_0 30 rfl) iconst_m1 (cl_iret hG (hx_dq tdX11_shop_0 31 rfl) rfl rfl (hK _ _ hw) (Nat.le_refl _) (Nat.le_refl _))
  · replace hw := hw.2 c41
    refine cl_aload_nQ hG (hx_dq tdX11_shop_0 23 rfl) rfl (cl_ifnull hG 61 (hx_dq tdX11_shop_0 24 rfl) rfl (fun c45 => ?_) (fun k45_5 c45 => ?_))
    · replace hw := hw.1 c45
      exact cl_iconst hG (-1) (hx_dq tdX11_shop_0 30 rfl) iconst_m1 (cl_iret hG (hx_dq tdX11_shop_0 31 rfl) rfl rfl (hK _ _ hw) (Nat.le_refl _) (Nat.le_refl _))
    · replace hw := hw.2 k45_5 c45
      revert hw
      subst c45
      intro hw
      refine cl_aload_n hG (hx_dq tdX11_shop_0 25 rfl) rfl (cl_getS hG fmX11_46 (hx_dq tdX11_shop_0 26 rfl) (cF_S0 hF) (cF_R0_7 hF) (cl_getS hG fmX11_101 (hx_dq tdX11_shop_0 27 rfl) (cF_S7 hF) (cF_R7_0 hF) (cl_callV0 (caX11_shop_169 cA) (hx_dq tdX11_shop_0 28 rfl) (cF_S8 hF) (Nat.le_of_ble_eq_true rfl) (Nat.le_refl _) (Nat.le_refl _) (sX4_isEmpty_mk hF hw (fun r55_7 hw => ?_)))))
      refine cl_if_eq hG 63 (hx_dq tdX11_shop_0 29 rfl) rfl (fun c58 => ?_) (fun c58 => ?_)
      · replace hw := hw.1 c58
        refine cl_aload_n hG (hx_dq tdX11_shop_1 0 rfl) rfl (cl_getS hG fmX11_83 (hx_dq tdX11_shop_1 1 rfl) (cF_S0 hF) (cF_R0_12 hF) (cl_aload_n hG (hx_dq tdX11_shop_1 2 rfl) rfl (cl_callV1 (caX11_shop_296 cA) (hx_dq tdX11_shop_1 3 rfl) (cF_S43 hF) (Nat.le_of_ble_eq_true rfl) (Nat.le_refl _) (Nat.le_refl _) (sX7_gatherWishes_mk hF hw (fun m68_8 hw => ?_)))))
        refine cl_aload_n hG (hx_dq tdX11_shop_1 4 rfl) rfl (cl_getS hG fmX11_83 (hx_dq tdX11_shop_1 5 rfl) (cF_S0 hF) (cF_R0_12 hF) (cl_iload_n hG (hx_dq tdX11_shop_1 6 rfl) rfl (cl_callV1 (caX11_shop_299 cA) (hx_dq tdX11_shop_1 7 rfl) (cF_S43 hF) (Nat.le_of_ble_eq_true rfl) (Nat.le_refl _) (Nat.le_refl _) (sX7_order_mk hF hw (fun m76_10 hw => ?_)))))
        refine cl_iload_n hG (hx_dq tdX11_shop_1 8 rfl) rfl (cl_if_ne hG 93 (hx_dq tdX11_shop_1 9 rfl) rfl (fun c80 => ?_) (fun c80 => ?_))
        · replace hw := hw.1 c80
          obtain ⟨i104_12, hw⟩ := hw
          exact cl_aload_n hG (hx_dq tdX11_shop_1 14 rfl) rfl (cl_getS hG fmX11_83 (hx_dq tdX11_shop_1 15 rfl) (cF_S0 hF) (cF_R0_12 hF) (cl_getS hG fmX11_305 (hx_dq tdX11_shop_1 16 rfl) (cF_S43 hF) (cF_R43_4 hF) (cl_iload_n hG (hx_dq tdX11_shop_1 17 rfl) rfl (cl_bipush hG 10 (hx_dq tdX11_shop_1 18 rfl) bipush_10 (cl_isub hG (hx_dq tdX11_shop_1 19 rfl) (cl_iald hG (hx_dq tdX11_shop_1 20 rfl) (cF_S47 hF) i104_12 (cl_iret hG (hx_dq tdX11_shop_1 21 rfl) rfl rfl (hK _ _ hw) (Nat.le_refl _) (Nat.le_refl _))))))))
        · replace hw := hw.2 c80
          exact cl_aload_n hG (hx_dq tdX11_shop_1 10 rfl) rfl (cl_getS hG fmX11_83 (hx_dq tdX11_shop_1 11 rfl) (cF_S0 hF) (cF_R0_12 hF) (cl_getI hG fmX11_302 (hx_dq tdX11_shop_1 12 rfl) (cF_S43 hF) (cl_goto hG 105 (hx_dq tdX11_shop_1 13 rfl) rfl (cl_iret hG (hx_dq tdX11_shop_1 21 rfl) rfl rfl (hK _ _ hw) (Nat.le_refl _) (Nat.le_refl _)))))
      · replace hw := hw.2 c58
        exact cl_iconst hG (-1) (hx_dq tdX11_shop_0 30 rfl) iconst_m1 (cl_iret hG (hx_dq tdX11_shop_0 31 rfl) rfl rfl (hK _ _ hw) (Nat.le_refl _) (Nat.le_refl _))
def wX11_shop_J36 (Λ : hx_L) (K : Int32 → hx_M → Prop)  (v1 : Int32) (v2 : Int32) (v3 : Option Nat)  (μ : hx_M) : Prop := wX11_shop_J37 Λ K v1 v2 v3 0 μ
set_option maxRecDepth 100000 in
set_option maxHeartbeats 4000000 in
theorem kX11_shop_J36 {G : hx_GT} {KK : hx_KT} (hG : hx_K cX11_shop 5 0 0 (some .int) TbX11 KK G) (cA : hx_CA RX11 cX11_shop 7 0 0 G) {Λ : hx_L} (hF : cF Λ) {μ : hx_M} (v1 : Int32) (v2 : Int32) (v3 : Option Nat)  {K : Int32 → hx_M → Prop} (hK : ∀ (r : Int32) (m : hx_M), K r m → KK (some (.int r)) Λ m)  (hw : wX11_shop_J36 Λ K v1 v2 v3 μ) : G Λ μ (0, 0) 36 [some (.ref 0), some (.int v1), some (.int v2), some (va_rf v3), none] [] := by
  unfold wX11_shop_J36 at hw
  refine cl_iconst hG 0 (hx_dq tdX11_shop_0 19 rfl) iconst_0 ?_
  exact cl_sub hG (hx_le_c rfl (hx_le_c rfl (hx_le_c rfl (hx_le_c rfl (hx_le_n hx_le_0))))) (kX11_shop_J37 hG cA hF v1 v2 v3 0 hK hw)
def wX11_shop_J37_13 (Λ : hx_L) (K : Int32 → hx_M → Prop)  (v1 : Int32) (v2 : Int32) (v3 : Option Nat) (t0 : Int32) (μ : hx_M) : Prop := (t0 = 0 → (K (-1) μ)) ∧ (¬ (t0 = 0) → ((v3 = none → (K (-1) μ)) ∧ (∀ k45_14, v3 = some k45_14 → (wX4_isEmpty μ (fun r55_16 => (r55_16 = 0 → (wX7_gatherWishes Λ μ k45_14 (fun m68_17 => wX7_order m68_17 v1 (fun m76_19 => (v2 ≠ 0 → (vp_in (v2 - 10) 6 ∧ K ((m76_19.1 47 ((v2 - 10).toNatClampNeg))) m76_19)) ∧ (v2 = 0 → (K (m76_19.1 43 5) m76_19)))))) ∧ (¬ (r55_16 = 0) → (K (-1) μ)))))))
set_option maxRecDepth 100000 in
set_option maxHeartbeats 4000000 in
theorem kX11_shop_J37_13 {G : hx_GT} {KK : hx_KT} (hG : hx_K cX11_shop 5 0 0 (some .int) TbX11 KK G) (cA : hx_CA RX11 cX11_shop 7 0 0 G) {Λ : hx_L} (hF : cF Λ) {μ : hx_M} (v1 : Int32) (v2 : Int32) (v3 : Option Nat) (t0 : Int32) {K : Int32 → hx_M → Prop} (hK : ∀ (r : Int32) (m : hx_M), K r m → KK (some (.int r)) Λ m)  (hw : wX11_shop_J37_13 Λ K v1 v2 v3 t0 μ) : G Λ μ (0, 0) 37 [some (.ref 0), some (.int v1), some (.int v2), some (va_rf v3), none] [.int t0] := by
  unfold wX11_shop_J37_13 at hw
  refine cl_istore hG (hx_dq tdX11_shop_0 20 rfl) (Nat.le_of_ble_eq_true rfl) (hx_n2q rfl) (cl_iload hG (hx_dq tdX11_shop_0 21 rfl) rfl (cl_if_eq hG 61 (hx_dq tdX11_shop_0 22 rfl) rfl (fun c41 => ?_) (fun c41 => ?_)))
  · replace hw := hw.1 c41
    exact cl_iconst hG (-1) (hx_dq tdX11_shop_0 30 rfl) iconst_m1 (cl_iret hG (hx_dq tdX11_shop_0 31 rfl) rfl rfl (hK _ _ hw) (Nat.le_refl _) (Nat.le_refl _))
  · replace hw := hw.2 c41
    refine cl_aload_nQ hG (hx_dq tdX11_shop_0 23 rfl) rfl (cl_ifnull hG 61 (hx_dq tdX11_shop_0 24 rfl) rfl (fun c45 => ?_) (fun k45_14 c45 => ?_))
    · replace hw := hw.1 c45
      exact cl_iconst hG (-1) (hx_dq tdX11_shop_0 30 rfl) iconst_m1 (cl_iret hG (hx_dq tdX11_shop_0 31 rfl) rfl rfl (hK _ _ hw) (Nat.le_refl _) (Nat.le_refl _))
    · replace hw := hw.2 k45_14 c45
      revert hw
      subst c45
      intro hw
      refine cl_aload_n hG (hx_dq tdX11_shop_0 25 rfl) rfl (cl_getS hG fmX11_46 (hx_dq tdX11_shop_0 26 rfl) (cF_S0 hF) (cF_R0_7 hF) (cl_getS hG fmX11_101 (hx_dq tdX11_shop_0 27 rfl) (cF_S7 hF) (cF_R7_0 hF) (cl_callV0 (caX11_shop_169 cA) (hx_dq tdX11_shop_0 28 rfl) (cF_S8 hF) (Nat.le_of_ble_eq_true rfl) (Nat.le_refl _) (Nat.le_refl _) (sX4_isEmpty_mk hF hw (fun r55_16 hw => ?_)))))
      refine cl_if_eq hG 63 (hx_dq tdX11_shop_0 29 rfl) rfl (fun c58 => ?_) (fun c58 => ?_)
      · replace hw := hw.1 c58
        refine cl_aload_n hG (hx_dq tdX11_shop_1 0 rfl) rfl (cl_getS hG fmX11_83 (hx_dq tdX11_shop_1 1 rfl) (cF_S0 hF) (cF_R0_12 hF) (cl_aload_n hG (hx_dq tdX11_shop_1 2 rfl) rfl (cl_callV1 (caX11_shop_296 cA) (hx_dq tdX11_shop_1 3 rfl) (cF_S43 hF) (Nat.le_of_ble_eq_true rfl) (Nat.le_refl _) (Nat.le_refl _) (sX7_gatherWishes_mk hF hw (fun m68_17 hw => ?_)))))
        refine cl_aload_n hG (hx_dq tdX11_shop_1 4 rfl) rfl (cl_getS hG fmX11_83 (hx_dq tdX11_shop_1 5 rfl) (cF_S0 hF) (cF_R0_12 hF) (cl_iload_n hG (hx_dq tdX11_shop_1 6 rfl) rfl (cl_callV1 (caX11_shop_299 cA) (hx_dq tdX11_shop_1 7 rfl) (cF_S43 hF) (Nat.le_of_ble_eq_true rfl) (Nat.le_refl _) (Nat.le_refl _) (sX7_order_mk hF hw (fun m76_19 hw => ?_)))))
        refine cl_iload_n hG (hx_dq tdX11_shop_1 8 rfl) rfl (cl_if_ne hG 93 (hx_dq tdX11_shop_1 9 rfl) rfl (fun c80 => ?_) (fun c80 => ?_))
        · replace hw := hw.1 c80
          obtain ⟨i104_21, hw⟩ := hw
          exact cl_aload_n hG (hx_dq tdX11_shop_1 14 rfl) rfl (cl_getS hG fmX11_83 (hx_dq tdX11_shop_1 15 rfl) (cF_S0 hF) (cF_R0_12 hF) (cl_getS hG fmX11_305 (hx_dq tdX11_shop_1 16 rfl) (cF_S43 hF) (cF_R43_4 hF) (cl_iload_n hG (hx_dq tdX11_shop_1 17 rfl) rfl (cl_bipush hG 10 (hx_dq tdX11_shop_1 18 rfl) bipush_10 (cl_isub hG (hx_dq tdX11_shop_1 19 rfl) (cl_iald hG (hx_dq tdX11_shop_1 20 rfl) (cF_S47 hF) i104_21 (cl_iret hG (hx_dq tdX11_shop_1 21 rfl) rfl rfl (hK _ _ hw) (Nat.le_refl _) (Nat.le_refl _))))))))
        · replace hw := hw.2 c80
          exact cl_aload_n hG (hx_dq tdX11_shop_1 10 rfl) rfl (cl_getS hG fmX11_83 (hx_dq tdX11_shop_1 11 rfl) (cF_S0 hF) (cF_R0_12 hF) (cl_getI hG fmX11_302 (hx_dq tdX11_shop_1 12 rfl) (cF_S43 hF) (cl_goto hG 105 (hx_dq tdX11_shop_1 13 rfl) rfl (cl_iret hG (hx_dq tdX11_shop_1 21 rfl) rfl rfl (hK _ _ hw) (Nat.le_refl _) (Nat.le_refl _)))))
      · replace hw := hw.2 c58
        exact cl_iconst hG (-1) (hx_dq tdX11_shop_0 30 rfl) iconst_m1 (cl_iret hG (hx_dq tdX11_shop_0 31 rfl) rfl rfl (hK _ _ hw) (Nat.le_refl _) (Nat.le_refl _))
def wX11_shop_J32 (Λ : hx_L) (K : Int32 → hx_M → Prop)  (v1 : Int32) (v2 : Int32) (v3 : Option Nat)  (μ : hx_M) : Prop := wX11_shop_J37_13 Λ K v1 v2 v3 1 μ
set_option maxRecDepth 100000 in
set_option maxHeartbeats 4000000 in
theorem kX11_shop_J32 {G : hx_GT} {KK : hx_KT} (hG : hx_K cX11_shop 5 0 0 (some .int) TbX11 KK G) (cA : hx_CA RX11 cX11_shop 7 0 0 G) {Λ : hx_L} (hF : cF Λ) {μ : hx_M} (v1 : Int32) (v2 : Int32) (v3 : Option Nat)  {K : Int32 → hx_M → Prop} (hK : ∀ (r : Int32) (m : hx_M), K r m → KK (some (.int r)) Λ m)  (hw : wX11_shop_J32 Λ K v1 v2 v3 μ) : G Λ μ (0, 0) 32 [some (.ref 0), some (.int v1), some (.int v2), some (va_rf v3), none] [] := by
  unfold wX11_shop_J32 at hw
  refine cl_iconst hG 1 (hx_dq tdX11_shop_0 17 rfl) iconst_1 (cl_goto hG 37 (hx_dq tdX11_shop_0 18 rfl) rfl ?_)
  exact cl_sub hG (hx_le_c rfl (hx_le_c rfl (hx_le_c rfl (hx_le_c rfl (hx_le_n hx_le_0))))) (kX11_shop_J37_13 hG cA hF v1 v2 v3 1 hK hw)
def wX11_shop (Λ : hx_L) (μ : hx_M) (v1 : Int32) (v2 : Int32) (K : Int32 → hx_M → Prop) : Prop := wX11_lawInForce Λ μ (fun r1_2 => wX11_within v1 1 6 (fun r9_4 => (r9_4 = 0 → (wX11_shop_J36 Λ K v1 v2 r1_2 μ)) ∧ (¬ (r9_4 = 0) → ((v2 = 0 → (wX11_shop_J32 Λ K v1 v2 r1_2 μ)) ∧ (¬ (v2 = 0) → (wX11_within v2 10 (9 + v1) (fun r26_23 => (r26_23 = 0 → (wX11_shop_J36 Λ K v1 v2 r1_2 μ)) ∧ (¬ (r26_23 = 0) → (wX11_shop_J32 Λ K v1 v2 r1_2 μ)))))))))
set_option maxRecDepth 100000 in
set_option maxHeartbeats 4000000 in
theorem kX11_shop {G : hx_GT} {KK : hx_KT} (hG : hx_K cX11_shop 5 0 0 (some .int) TbX11 KK G) (cA : hx_CA RX11 cX11_shop 7 0 0 G) {Λ : hx_L} (hF : cF Λ) {μ : hx_M} (v1 : Int32) (v2 : Int32) {K : Int32 → hx_M → Prop} (hK : ∀ (r : Int32) (m : hx_M), K r m → KK (some (.int r)) Λ m) (hw : wX11_shop Λ μ v1 v2 K) : G Λ μ (0, 0) 0 [some (.ref 0), some (.int v1), some (.int v2), none, none] [] := by
  unfold wX11_shop at hw
  refine cl_aload_n hG (hx_dq tdX11_shop_0 0 rfl) rfl (cl_callV0 (caX11_shop_165 cA) (hx_dq tdX11_shop_0 1 rfl) (cF_S0 hF) (Nat.le_of_ble_eq_true rfl) (Nat.le_refl _) (Nat.le_refl _) (sX11_lawInForce_mk hF hw (fun r1_2 hw => ?_)))
  refine cl_astore_nQ hG (hx_dq tdX11_shop_0 2 rfl) (Nat.le_of_ble_eq_true rfl) rfl (cl_iload_n hG (hx_dq tdX11_shop_0 3 rfl) rfl (cl_iconst hG 1 (hx_dq tdX11_shop_0 4 rfl) iconst_1 (cl_bipush hG 6 (hx_dq tdX11_shop_0 5 rfl) bipush_6 (cl_callS3 (caX11_shop_94 cA) (hx_dq tdX11_shop_0 6 rfl) (Nat.le_of_ble_eq_true rfl) (Nat.le_refl _) (Nat.le_refl _) (sX11_within_mk hw (fun r9_4 hw => ?_))))))
  refine cl_if_eq hG 36 (hx_dq tdX11_shop_0 7 rfl) rfl (fun c12 => ?_) (fun c12 => ?_)
  · replace hw := hw.1 c12
    exact cl_sub hG (hx_le_c rfl (hx_le_c rfl (hx_le_c rfl (hx_le_c rfl (hx_le_n hx_le_0))))) (kX11_shop_J36 hG cA hF v1 v2 r1_2 hK hw)
  · replace hw := hw.2 c12
    refine cl_iload_n hG (hx_dq tdX11_shop_0 8 rfl) rfl (cl_if_eq hG 32 (hx_dq tdX11_shop_0 9 rfl) rfl (fun c16 => ?_) (fun c16 => ?_))
    · replace hw := hw.1 c16
      exact cl_sub hG (hx_le_c rfl (hx_le_c rfl (hx_le_c rfl (hx_le_c rfl (hx_le_n hx_le_0))))) (kX11_shop_J32 hG cA hF v1 v2 r1_2 hK hw)
    · replace hw := hw.2 c16
      refine cl_iload_n hG (hx_dq tdX11_shop_0 10 rfl) rfl (cl_bipush hG 10 (hx_dq tdX11_shop_0 11 rfl) bipush_10 (cl_bipush hG 9 (hx_dq tdX11_shop_0 12 rfl) bipush_9 (cl_iload_n hG (hx_dq tdX11_shop_0 13 rfl) rfl (cl_iadd hG (hx_dq tdX11_shop_0 14 rfl) (cl_callS3 (caX11_shop_94 cA) (hx_dq tdX11_shop_0 15 rfl) (Nat.le_of_ble_eq_true rfl) (Nat.le_refl _) (Nat.le_refl _) (sX11_within_mk hw (fun r26_23 hw => ?_)))))))
      refine cl_if_eq hG 36 (hx_dq tdX11_shop_0 16 rfl) rfl (fun c29 => ?_) (fun c29 => ?_)
      · replace hw := hw.1 c29
        exact cl_sub hG (hx_le_c rfl (hx_le_c rfl (hx_le_c rfl (hx_le_c rfl (hx_le_n hx_le_0))))) (kX11_shop_J36 hG cA hF v1 v2 r1_2 hK hw)
      · replace hw := hw.2 c29
        exact cl_sub hG (hx_le_c rfl (hx_le_c rfl (hx_le_c rfl (hx_le_c rfl (hx_le_n hx_le_0))))) (kX11_shop_J32 hG cA hF v1 v2 r1_2 hK hw)
def sX11_shop : hx_ST := fun Λ μ as KK => cF Λ ∧ ∃ (v1 : Int32) (v2 : Int32) (K : Int32 → hx_M → Prop), as = [.ref 0, .int v1, .int v2] ∧ wX11_shop Λ μ v1 v2 K ∧ (∀ (r : Int32) (m : hx_M), K r m → KK (some (.int r)) Λ m)
theorem sX11_shop_mk {Λ : hx_L} {μ : hx_M} {KK : hx_KT} {v1 : Int32} {v2 : Int32} {K : Int32 → hx_M → Prop} (hF : cF Λ) (hw : wX11_shop Λ μ v1 v2 K) (hk : ∀ (r : Int32) (m : hx_M), K r m → KK (some (.int r)) Λ m) : sX11_shop Λ μ [.ref 0, .int v1, .int v2] KK := ⟨hF, _, _, _, rfl, hw, hk⟩
theorem conX11_shop : hx_Con yX11_shop cX11_shop 5 (some .int) 7 0 0 sX11_shop := by
  refine hx_con_of (by decide +kernel) tokX11 (by decide) ?_ ?_
  · intro Λ μ as KK h
    obtain ⟨hF, v1, v2, K, rfl, hw, hK⟩ := h
    exact Nat.le_of_ble_eq_true rfl
  · intro G KK hG cA Λ μ as h
    obtain ⟨hF, v1, v2, K, rfl, hw, hK⟩ := h
    exact cl_sub hG (hx_le_c rfl (hx_le_c rfl (hx_le_c rfl (hx_le_n (hx_le_n hx_le_0))))) (kX11_shop hG cA hF _ _ hK hw)
/-! HemLine.lawReadingBest()I -/
def tbX11_lawReadingBest_0 : List (Nat × Instr × Nat) := [(0, .iconst (-1), 1), (1, .istore_n 1, 1), (2, .iconst 0, 1), (3, .istore_n 2, 1), (4, .iconst 0, 1), (5, .istore_n 3, 1), (6, .iload_n 3, 1), (7, .aload_n 0, 1), (8, .getfield 32, 3), (11, .if_icmp .ge 40, 3), (14, .aload_n 0, 1), (15, .getfield 62, 3), (18, .aload_n 0, 1), (19, .getfield 28, 3), (22, .iload_n 3, 1), (23, .aaload, 1), (24, .invokevirtual 311, 3), (27, .istore 4, 2), (29, .iload_n 1, 1), (30, .iconst (-1), 1), (31, .if_icmp .eq 9, 3), (34, .iload 4, 2), (36, .iload_n 2, 1), (37, .if_icmp .ge 8, 3), (40, .iload_n 3, 1), (41, .istore_n 1, 1), (42, .iload 4, 2), (44, .istore_n 2, 1), (45, .iinc 3 1, 3), (48, .goto (-42), 3), (51, .iload_n 1, 1), (52, .ireturn, 1)]
theorem tdX11_lawReadingBest_0 : hx_dt cX11_lawReadingBest tbX11_lawReadingBest_0 = true := by decide +kernel
theorem caX11_lawReadingBest_311 {G : hx_GT} (cA : hx_CA RX11 cX11_lawReadingBest 6 0 0 G) : hx_CV cX11_lawReadingBest G 0 0 311 0 1 sX0_offOf 0 0 := cA.1 conX0_offOf rfl rfl ⟨by decide +kernel, by decide +kernel, by decide +kernel⟩ mw_1079 mw_1080 mw_1081 mw_93 mw_1082 (by decide) (by decide)
def wX11_lawReadingBest_J45 (Λ : hx_L) (K : Int32 → hx_M → Prop) (K6 : Int32 → Int32 → Int32 → hx_M → Prop) (v1 : Int32) (v2 : Int32) (v3 : Int32)  (μ : hx_M) : Prop := K6 v1 v2 (v3 + 1) μ
set_option maxRecDepth 100000 in
set_option maxHeartbeats 4000000 in
theorem kX11_lawReadingBest_J45 {G : hx_GT} {KK : hx_KT} (hG : hx_K cX11_lawReadingBest 5 0 0 (some .int) TbX11 KK G) (cA : hx_CA RX11 cX11_lawReadingBest 6 0 0 G) {Λ : hx_L} (hF : cF Λ) {μ : hx_M} (v1 : Int32) (v2 : Int32) (v3 : Int32)  {K : Int32 → hx_M → Prop} (hK : ∀ (r : Int32) (m : hx_M), K r m → KK (some (.int r)) Λ m) {K6 : Int32 → Int32 → Int32 → hx_M → Prop} (hk6 : ∀ (v1 : Int32) (v2 : Int32) (v3 : Int32) (μ : hx_M), K6 v1 v2 v3 μ → G Λ μ (0, 0) 6 [some (.ref 0), some (.int v1), some (.int v2), some (.int v3), none] []) (hw : wX11_lawReadingBest_J45 Λ K K6 v1 v2 v3 μ) : G Λ μ (0, 0) 45 [some (.ref 0), some (.int v1), some (.int v2), some (.int v3), none] [] := by
  unfold wX11_lawReadingBest_J45 at hw
  exact cl_iinc hG (v3 + 1) (hx_dq tdX11_lawReadingBest_0 28 rfl) rfl (congrArg (fun z => v3 + z) iconst_1) (Nat.le_of_ble_eq_true rfl) rfl (cl_goto hG 6 (hx_dq tdX11_lawReadingBest_0 29 rfl) rfl (cl_sub hG (hx_le_c rfl (hx_le_c rfl (hx_le_c rfl (hx_le_c rfl (hx_le_n hx_le_0))))) (hk6 v1 v2 (v3 + 1) _ hw)))
def wX11_lawReadingBest_J40 (Λ : hx_L) (K : Int32 → hx_M → Prop) (K6 : Int32 → Int32 → Int32 → hx_M → Prop) (v3 : Int32) (v4 : Int32)  (μ : hx_M) : Prop := wX11_lawReadingBest_J45 Λ K (K6) v3 v4 v3 μ
set_option maxRecDepth 100000 in
set_option maxHeartbeats 4000000 in
theorem kX11_lawReadingBest_J40 {G : hx_GT} {KK : hx_KT} (hG : hx_K cX11_lawReadingBest 5 0 0 (some .int) TbX11 KK G) (cA : hx_CA RX11 cX11_lawReadingBest 6 0 0 G) {Λ : hx_L} (hF : cF Λ) {μ : hx_M} (v3 : Int32) (v4 : Int32)  {K : Int32 → hx_M → Prop} (hK : ∀ (r : Int32) (m : hx_M), K r m → KK (some (.int r)) Λ m) {K6 : Int32 → Int32 → Int32 → hx_M → Prop} (hk6 : ∀ (v1 : Int32) (v2 : Int32) (v3 : Int32) (μ : hx_M), K6 v1 v2 v3 μ → G Λ μ (0, 0) 6 [some (.ref 0), some (.int v1), some (.int v2), some (.int v3), none] []) (hw : wX11_lawReadingBest_J40 Λ K K6 v3 v4 μ) : G Λ μ (0, 0) 40 [some (.ref 0), none, none, some (.int v3), some (.int v4)] [] := by
  unfold wX11_lawReadingBest_J40 at hw
  refine cl_iload_n hG (hx_dq tdX11_lawReadingBest_0 24 rfl) rfl (cl_istore_n hG (hx_dq tdX11_lawReadingBest_0 25 rfl) (Nat.le_of_ble_eq_true rfl) rfl (cl_iload hG (hx_dq tdX11_lawReadingBest_0 26 rfl) rfl (cl_istore_n hG (hx_dq tdX11_lawReadingBest_0 27 rfl) (Nat.le_of_ble_eq_true rfl) rfl ?_)))
  exact cl_sub hG (hx_le_c rfl (hx_le_c rfl (hx_le_c rfl (hx_le_c rfl (hx_le_n hx_le_0))))) (kX11_lawReadingBest_J45 hG cA hF v3 v4 v3 hK (fun z0 z1 z2 z3 hw => hk6 z0 z1 z2 z3 hw) hw)
def wX11_lawReadingBest_J45_4 (Λ : hx_L) (K : Int32 → hx_M → Prop) (K6 : Int32 → Int32 → Int32 → hx_M → Prop) (v1 : Int32) (v2 : Int32) (v3 : Int32)  (μ : hx_M) : Prop := K6 v1 v2 (v3 + 1) μ
set_option maxRecDepth 100000 in
set_option maxHeartbeats 4000000 in
theorem kX11_lawReadingBest_J45_4 {G : hx_GT} {KK : hx_KT} (hG : hx_K cX11_lawReadingBest 5 0 0 (some .int) TbX11 KK G) (cA : hx_CA RX11 cX11_lawReadingBest 6 0 0 G) {Λ : hx_L} (hF : cF Λ) {μ : hx_M} (v1 : Int32) (v2 : Int32) (v3 : Int32)  {K : Int32 → hx_M → Prop} (hK : ∀ (r : Int32) (m : hx_M), K r m → KK (some (.int r)) Λ m) {K6 : Int32 → Int32 → Int32 → hx_M → Prop} (hk6 : ∀ (v1 : Int32) (v2 : Int32) (v3 : Int32) (μ : hx_M), K6 v1 v2 v3 μ → G Λ μ (0, 0) 6 [some (.ref 0), some (.int v1), some (.int v2), some (.int v3), none] []) (hw : wX11_lawReadingBest_J45_4 Λ K K6 v1 v2 v3 μ) : G Λ μ (0, 0) 45 [some (.ref 0), some (.int v1), some (.int v2), some (.int v3), none] [] := by
  unfold wX11_lawReadingBest_J45_4 at hw
  exact cl_iinc hG (v3 + 1) (hx_dq tdX11_lawReadingBest_0 28 rfl) rfl (congrArg (fun z => v3 + z) iconst_1) (Nat.le_of_ble_eq_true rfl) rfl (cl_goto hG 6 (hx_dq tdX11_lawReadingBest_0 29 rfl) rfl (cl_sub hG (hx_le_c rfl (hx_le_c rfl (hx_le_c rfl (hx_le_c rfl (hx_le_n hx_le_0))))) (hk6 v1 v2 (v3 + 1) _ hw)))
def wX11_lawReadingBest_L6 (Λ : hx_L) (K : Int32 → hx_M → Prop)  : Nat → Int32 → Int32 → Int32 → hx_M → Prop
  | 0, _, _, _, _ => False
  | n + 1, v1, v2, v3, μ => ((μ.1 0 4) ≤ v3 → (K v1 μ)) ∧ (¬ ((μ.1 0 4) ≤ v3) → (vp_in v3 5 ∧ wX0_offOf Λ μ (Λ.2.1 6 v3.toNatClampNeg) (fun r24_3 m24_2 => (v1 = (-1) → (wX11_lawReadingBest_J40 Λ K (wX11_lawReadingBest_L6 Λ K n) v3 r24_3 m24_2)) ∧ (¬ (v1 = (-1)) → ((v2 ≤ r24_3 → (wX11_lawReadingBest_J45_4 Λ K (wX11_lawReadingBest_L6 Λ K n) v1 v2 v3 m24_2)) ∧ (¬ (v2 ≤ r24_3) → (wX11_lawReadingBest_J40 Λ K (wX11_lawReadingBest_L6 Λ K n) v3 r24_3 m24_2)))))))
set_option maxRecDepth 100000 in
set_option maxHeartbeats 4000000 in
theorem kX11_lawReadingBest_L6 {G : hx_GT} {KK : hx_KT} (hG : hx_K cX11_lawReadingBest 5 0 0 (some .int) TbX11 KK G) (cA : hx_CA RX11 cX11_lawReadingBest 6 0 0 G) {Λ : hx_L} (hF : cF Λ)   {K : Int32 → hx_M → Prop} (hK : ∀ (r : Int32) (m : hx_M), K r m → KK (some (.int r)) Λ m)  : ∀ (n : Nat) (v1 : Int32) (v2 : Int32) (v3 : Int32) (μ : hx_M), wX11_lawReadingBest_L6 Λ K n v1 v2 v3 μ → G Λ μ (0, 0) 6 [some (.ref 0), some (.int v1), some (.int v2), some (.int v3), none] [] := by
  intro n
  induction n with
  | zero =>
    intro v1 v2 v3 μ hw
    exact False.elim (by simpa only [wX11_lawReadingBest_L6] using hw)
  | succ n ih =>
    intro v1 v2 v3 μ hw
    unfold wX11_lawReadingBest_L6 at hw
    refine cl_iload_n hG (hx_dq tdX11_lawReadingBest_0 6 rfl) rfl (cl_aload_n hG (hx_dq tdX11_lawReadingBest_0 7 rfl) rfl (cl_getI hG fmX11_32 (hx_dq tdX11_lawReadingBest_0 8 rfl) (cF_S0 hF) (cl_icmp_ge hG 51 (hx_dq tdX11_lawReadingBest_0 9 rfl) rfl (fun c11 => ?_) (fun c11 => ?_))))
    · replace hw := hw.1 c11
      exact cl_iload_n hG (hx_dq tdX11_lawReadingBest_0 30 rfl) rfl (cl_iret hG (hx_dq tdX11_lawReadingBest_0 31 rfl) rfl rfl (hK _ _ hw) (Nat.le_refl _) (Nat.le_refl _))
    · replace hw := hw.2 c11
      obtain ⟨i23_1, hw⟩ := hw
      refine cl_aload_n hG (hx_dq tdX11_lawReadingBest_0 10 rfl) rfl (cl_getS hG fmX11_62 (hx_dq tdX11_lawReadingBest_0 11 rfl) (cF_S0 hF) (cF_R0_9 hF) (cl_aload_n hG (hx_dq tdX11_lawReadingBest_0 12 rfl) rfl (cl_getS hG fmX11_28 (hx_dq tdX11_lawReadingBest_0 13 rfl) (cF_S0 hF) (cF_R0_3 hF) (cl_iload_n hG (hx_dq tdX11_lawReadingBest_0 14 rfl) rfl (cl_aldL hG (hx_dq tdX11_lawReadingBest_0 15 rfl) (cF_S6 hF) i23_1 (cl_callV1 (caX11_lawReadingBest_311 cA) (hx_dq tdX11_lawReadingBest_0 16 rfl) (cF_S36 hF) (Nat.le_of_ble_eq_true rfl) (Nat.le_refl _) (Nat.le_refl _) (sX0_offOf_mk hF hw (fun r24_3 m24_2 hw => ?_))))))))
      refine cl_istore hG (hx_dq tdX11_lawReadingBest_0 17 rfl) (Nat.le_of_ble_eq_true rfl) rfl (cl_iload_n hG (hx_dq tdX11_lawReadingBest_0 18 rfl) rfl (cl_iconst hG (-1) (hx_dq tdX11_lawReadingBest_0 19 rfl) iconst_m1 (cl_icmp_eq hG 40 (hx_dq tdX11_lawReadingBest_0 20 rfl) rfl (fun c31 => ?_) (fun c31 => ?_))))
      · replace hw := hw.1 c31
        exact cl_sub hG (hx_le_c rfl (hx_le_n (hx_le_n (hx_le_c rfl (hx_le_c rfl hx_le_0))))) (kX11_lawReadingBest_J40 hG cA hF v3 r24_3 hK (fun z0 z1 z2 z3 hw => ih z0 z1 z2 z3 hw) hw)
      · replace hw := hw.2 c31
        refine cl_iload hG (hx_dq tdX11_lawReadingBest_0 21 rfl) rfl (cl_iload_n hG (hx_dq tdX11_lawReadingBest_0 22 rfl) rfl (cl_icmp_ge hG 45 (hx_dq tdX11_lawReadingBest_0 23 rfl) rfl (fun c37 => ?_) (fun c37 => ?_)))
        · replace hw := hw.1 c37
          exact cl_sub hG (hx_le_c rfl (hx_le_c rfl (hx_le_c rfl (hx_le_c rfl (hx_le_n hx_le_0))))) (kX11_lawReadingBest_J45_4 hG cA hF v1 v2 v3 hK (fun z0 z1 z2 z3 hw => ih z0 z1 z2 z3 hw) hw)
        · replace hw := hw.2 c37
          exact cl_sub hG (hx_le_c rfl (hx_le_n (hx_le_n (hx_le_c rfl (hx_le_c rfl hx_le_0))))) (kX11_lawReadingBest_J40 hG cA hF v3 r24_3 hK (fun z0 z1 z2 z3 hw => ih z0 z1 z2 z3 hw) hw)
def wX11_lawReadingBest (Λ : hx_L) (μ : hx_M)  (K : Int32 → hx_M → Prop) : Prop := ∃ n6_5, wX11_lawReadingBest_L6 Λ K n6_5 (-1) 0 0 μ
set_option maxRecDepth 100000 in
set_option maxHeartbeats 4000000 in
theorem kX11_lawReadingBest {G : hx_GT} {KK : hx_KT} (hG : hx_K cX11_lawReadingBest 5 0 0 (some .int) TbX11 KK G) (cA : hx_CA RX11 cX11_lawReadingBest 6 0 0 G) {Λ : hx_L} (hF : cF Λ) {μ : hx_M}  {K : Int32 → hx_M → Prop} (hK : ∀ (r : Int32) (m : hx_M), K r m → KK (some (.int r)) Λ m) (hw : wX11_lawReadingBest Λ μ K) : G Λ μ (0, 0) 0 [some (.ref 0), none, none, none, none] [] := by
  unfold wX11_lawReadingBest at hw
  refine cl_iconst hG (-1) (hx_dq tdX11_lawReadingBest_0 0 rfl) iconst_m1 (cl_istore_n hG (hx_dq tdX11_lawReadingBest_0 1 rfl) (Nat.le_of_ble_eq_true rfl) rfl (cl_iconst hG 0 (hx_dq tdX11_lawReadingBest_0 2 rfl) iconst_0 (cl_istore_n hG (hx_dq tdX11_lawReadingBest_0 3 rfl) (Nat.le_of_ble_eq_true rfl) rfl (cl_iconst hG 0 (hx_dq tdX11_lawReadingBest_0 4 rfl) iconst_0 (cl_istore_n hG (hx_dq tdX11_lawReadingBest_0 5 rfl) (Nat.le_of_ble_eq_true rfl) rfl ?_)))))
  obtain ⟨n_, hw⟩ := hw
  refine cl_sub hG (hx_le_c rfl (hx_le_c rfl (hx_le_c rfl (hx_le_c rfl (hx_le_n hx_le_0))))) (kX11_lawReadingBest_L6 hG cA hF hK n_ (-1) 0 0 _ hw)
def sX11_lawReadingBest : hx_ST := fun Λ μ as KK => cF Λ ∧ ∃ (K : Int32 → hx_M → Prop), as = [.ref 0] ∧ wX11_lawReadingBest Λ μ K ∧ (∀ (r : Int32) (m : hx_M), K r m → KK (some (.int r)) Λ m)
theorem sX11_lawReadingBest_mk {Λ : hx_L} {μ : hx_M} {KK : hx_KT}  {K : Int32 → hx_M → Prop} (hF : cF Λ) (hw : wX11_lawReadingBest Λ μ K) (hk : ∀ (r : Int32) (m : hx_M), K r m → KK (some (.int r)) Λ m) : sX11_lawReadingBest Λ μ [.ref 0] KK := ⟨hF, _, rfl, hw, hk⟩
theorem conX11_lawReadingBest : hx_Con yX11_lawReadingBest cX11_lawReadingBest 5 (some .int) 6 0 0 sX11_lawReadingBest := by
  refine hx_con_of (by decide +kernel) tokX11 (by decide) ?_ ?_
  · intro Λ μ as KK h
    obtain ⟨hF, K, rfl, hw, hK⟩ := h
    exact Nat.le_of_ble_eq_true rfl
  · intro G KK hG cA Λ μ as h
    obtain ⟨hF, K, rfl, hw, hK⟩ := h
    exact cl_sub hG (hx_le_c rfl (hx_le_n (hx_le_n (hx_le_n (hx_le_n hx_le_0))))) (kX11_lawReadingBest hG cA hF hK hw)
/-! HemLine.read(I)I -/
def tbX11_read_0 : List (Nat × Instr × Nat) := [(0, .iload_n 1, 1), (1, .iconst (-1), 1), (2, .if_icmp .ne 8, 3), (5, .aload_n 0, 1), (6, .invokevirtual 308, 3), (9, .ireturn, 1), (10, .iload_n 1, 1), (11, .iconst 0, 1), (12, .aload_n 0, 1), (13, .getfield 32, 3), (16, .iconst 1, 1), (17, .isub, 1), (18, .invokestatic 94, 3), (21, .ifCond .eq 19, 3), (24, .aload_n 0, 1), (25, .getfield 62, 3), (28, .aload_n 0, 1), (29, .getfield 28, 3), (32, .iload_n 1, 1), (33, .aaload, 1), (34, .invokevirtual 311, 3), (37, .goto 4, 3), (40, .iconst (-1), 1), (41, .ireturn, 1)]
theorem tdX11_read_0 : hx_dt cX11_read tbX11_read_0 = true := by decide +kernel
theorem caX11_read_94 {G : hx_GT} (cA : hx_CA RX11 cX11_read 7 0 0 G) : hx_CS cX11_read G 0 0 94 3 sX11_within 0 0 := cA.2.1 conX11_within ⟨by decide +kernel, by decide +kernel, by decide +kernel⟩ mw_477 mw_478 mw_84 mw_479 (by decide) (by decide)
theorem caX11_read_308 {G : hx_GT} (cA : hx_CA RX11 cX11_read 7 0 0 G) : hx_CV cX11_read G 0 0 308 11 0 sX11_lawReadingBest 0 0 := cA.1 conX11_lawReadingBest rfl rfl ⟨by decide +kernel, by decide +kernel, by decide +kernel⟩ mw_1075 mw_1077 mw_36 mw_84 mw_1078 (by decide) (by decide)
theorem caX11_read_311 {G : hx_GT} (cA : hx_CA RX11 cX11_read 7 0 0 G) : hx_CV cX11_read G 0 0 311 0 1 sX0_offOf 0 0 := cA.1 conX0_offOf rfl rfl ⟨by decide +kernel, by decide +kernel, by decide +kernel⟩ mw_1079 mw_1080 mw_1081 mw_93 mw_1082 (by decide) (by decide)
def wX11_read (Λ : hx_L) (μ : hx_M) (v1 : Int32) (K : Int32 → hx_M → Prop) : Prop := (v1 ≠ (-1) → (wX11_within v1 0 ((μ.1 0 4) - 1) (fun r18_2 => (r18_2 = 0 → (K (-1) μ)) ∧ (¬ (r18_2 = 0) → (vp_in v1 5 ∧ wX0_offOf Λ μ (Λ.2.1 6 v1.toNatClampNeg) (fun r34_5 m34_4 => K r34_5 m34_4)))))) ∧ (v1 = (-1) → (wX11_lawReadingBest Λ μ (fun r6_7 m6_6 => K r6_7 m6_6)))
set_option maxRecDepth 100000 in
set_option maxHeartbeats 4000000 in
theorem kX11_read {G : hx_GT} {KK : hx_KT} (hG : hx_K cX11_read 2 0 0 (some .int) TbX11 KK G) (cA : hx_CA RX11 cX11_read 7 0 0 G) {Λ : hx_L} (hF : cF Λ) {μ : hx_M} (v1 : Int32) {K : Int32 → hx_M → Prop} (hK : ∀ (r : Int32) (m : hx_M), K r m → KK (some (.int r)) Λ m) (hw : wX11_read Λ μ v1 K) : G Λ μ (0, 0) 0 [some (.ref 0), some (.int v1)] [] := by
  unfold wX11_read at hw
  refine cl_iload_n hG (hx_dq tdX11_read_0 0 rfl) rfl (cl_iconst hG (-1) (hx_dq tdX11_read_0 1 rfl) iconst_m1 (cl_icmp_ne hG 10 (hx_dq tdX11_read_0 2 rfl) rfl (fun c2 => ?_) (fun c2 => ?_)))
  · replace hw := hw.1 c2
    refine cl_iload_n hG (hx_dq tdX11_read_0 6 rfl) rfl (cl_iconst hG 0 (hx_dq tdX11_read_0 7 rfl) iconst_0 (cl_aload_n hG (hx_dq tdX11_read_0 8 rfl) rfl (cl_getI hG fmX11_32 (hx_dq tdX11_read_0 9 rfl) (cF_S0 hF) (cl_iconst hG 1 (hx_dq tdX11_read_0 10 rfl) iconst_1 (cl_isub hG (hx_dq tdX11_read_0 11 rfl) (cl_callS3 (caX11_read_94 cA) (hx_dq tdX11_read_0 12 rfl) (Nat.le_of_ble_eq_true rfl) (Nat.le_refl _) (Nat.le_refl _) (sX11_within_mk hw (fun r18_2 hw => ?_))))))))
    refine cl_if_eq hG 40 (hx_dq tdX11_read_0 13 rfl) rfl (fun c21 => ?_) (fun c21 => ?_)
    · replace hw := hw.1 c21
      exact cl_iconst hG (-1) (hx_dq tdX11_read_0 22 rfl) iconst_m1 (cl_iret hG (hx_dq tdX11_read_0 23 rfl) rfl rfl (hK _ _ hw) (Nat.le_refl _) (Nat.le_refl _))
    · replace hw := hw.2 c21
      obtain ⟨i33_3, hw⟩ := hw
      refine cl_aload_n hG (hx_dq tdX11_read_0 14 rfl) rfl (cl_getS hG fmX11_62 (hx_dq tdX11_read_0 15 rfl) (cF_S0 hF) (cF_R0_9 hF) (cl_aload_n hG (hx_dq tdX11_read_0 16 rfl) rfl (cl_getS hG fmX11_28 (hx_dq tdX11_read_0 17 rfl) (cF_S0 hF) (cF_R0_3 hF) (cl_iload_n hG (hx_dq tdX11_read_0 18 rfl) rfl (cl_aldL hG (hx_dq tdX11_read_0 19 rfl) (cF_S6 hF) i33_3 (cl_callV1 (caX11_read_311 cA) (hx_dq tdX11_read_0 20 rfl) (cF_S36 hF) (Nat.le_of_ble_eq_true rfl) (Nat.le_refl _) (Nat.le_refl _) (sX0_offOf_mk hF hw (fun r34_5 m34_4 hw => ?_))))))))
      exact cl_goto hG 41 (hx_dq tdX11_read_0 21 rfl) rfl (cl_iret hG (hx_dq tdX11_read_0 23 rfl) rfl rfl (hK _ _ hw) (Nat.le_refl _) (Nat.le_refl _))
  · replace hw := hw.2 c2
    refine cl_aload_n hG (hx_dq tdX11_read_0 3 rfl) rfl (cl_callV0 (caX11_read_308 cA) (hx_dq tdX11_read_0 4 rfl) (cF_S0 hF) (Nat.le_of_ble_eq_true rfl) (Nat.le_refl _) (Nat.le_refl _) (sX11_lawReadingBest_mk hF hw (fun r6_7 m6_6 hw => ?_)))
    exact cl_iret hG (hx_dq tdX11_read_0 5 rfl) rfl rfl (hK _ _ hw) (Nat.le_refl _) (Nat.le_refl _)
def sX11_read : hx_ST := fun Λ μ as KK => cF Λ ∧ ∃ (v1 : Int32) (K : Int32 → hx_M → Prop), as = [.ref 0, .int v1] ∧ wX11_read Λ μ v1 K ∧ (∀ (r : Int32) (m : hx_M), K r m → KK (some (.int r)) Λ m)
theorem sX11_read_mk {Λ : hx_L} {μ : hx_M} {KK : hx_KT} {v1 : Int32} {K : Int32 → hx_M → Prop} (hF : cF Λ) (hw : wX11_read Λ μ v1 K) (hk : ∀ (r : Int32) (m : hx_M), K r m → KK (some (.int r)) Λ m) : sX11_read Λ μ [.ref 0, .int v1] KK := ⟨hF, _, _, rfl, hw, hk⟩
theorem conX11_read : hx_Con yX11_read cX11_read 2 (some .int) 7 0 0 sX11_read := by
  refine hx_con_of (by decide +kernel) tokX11 (by decide) ?_ ?_
  · intro Λ μ as KK h
    obtain ⟨hF, v1, K, rfl, hw, hK⟩ := h
    exact Nat.le_of_ble_eq_true rfl
  · intro G KK hG cA Λ μ as h
    obtain ⟨hF, v1, K, rfl, hw, hK⟩ := h
    exact cl_sub hG (hx_le_c rfl (hx_le_c rfl hx_le_0)) (kX11_read hG cA hF _ hK hw)
/-! HemLine.image()I -/
def tbX11_image_0 : List (Nat × Instr × Nat) := [(0, .aload_n 0, 1), (1, .getfield 91, 3), (4, .iconst 3, 1), (5, .if_icmp .lt 5, 3), (8, .iconst (-1), 1), (9, .ireturn, 1), (10, .new 41, 3), (13, .dup, 1), (14, .aload_n 0, 1), (15, .getfield 46, 3), (18, .getfield 98, 3), (21, .iconst 1, 1), (22, .iadd, 1), (23, .invokespecial 43, 3), (26, .astore_n 1, 1), (27, .aload_n 1, 1), (28, .aload_n 0, 1), (29, .getfield 46, 3), (32, .invokevirtual 314, 3), (35, .aload_n 0, 1), (36, .getfield 87, 3), (39, .aload_n 0, 1), (40, .getfield 91, 3), (43, .aload_n 1, 1), (44, .aastore, 1), (45, .aload_n 0, 1), (46, .dup, 1), (47, .getfield 91, 3), (50, .iconst 1, 1), (51, .iadd, 1), (52, .putfield 91, 3), (55, .aload_n 0, 1)]
def tbX11_image_1 : List (Nat × Instr × Nat) := [(56, .getfield 91, 3), (59, .iconst 1, 1), (60, .isub, 1), (61, .ireturn, 1)]
theorem tdX11_image_0 : hx_dt cX11_image tbX11_image_0 = true := by decide +kernel
theorem tdX11_image_1 : hx_dt cX11_image tbX11_image_1 = true := by decide +kernel
def TAX11_image : hx_TA := ([(41, 10, 12)], [], [], [])
theorem taX11_image_n41 : (41, 10, 12) ∈ TAX11_image.1 := List.mem_of_getElem? (i := 0) rfl
theorem toX11_image_n41 : hx_nok RX11 (41, 10, 12) := ⟨RX10, TX10, tyX10, rfl, inX10, tyX10_ok, mw_145, mw_146, mw_86, nkX10, rfl⟩
theorem taokX11_image : hx_taok RX11 TAX11_image := ⟨(List.forall_mem_cons.mpr ⟨toX11_image_n41, (fun _ h => absurd h List.not_mem_nil)⟩), (fun _ h => absurd h List.not_mem_nil), (fun _ h => absurd h List.not_mem_nil), (fun _ h => absurd h List.not_mem_nil)⟩
theorem caX11_image_43 {G : hx_GT} (cA : hx_CA RX11 cX11_image 4 21 11725 G) : hx_CI cX11_image G 21 11725 43 1 sX10_init 20 11713 := cA.2.2.2 conX10_init ⟨by decide +kernel, by decide +kernel, by decide +kernel⟩ rfl mw_147 mw_148 mw_86 mw_149 (by decide) (by decide)
theorem caX11_image_314 {G : hx_GT} (cA : hx_CA RX11 cX11_image 4 21 11725 G) : hx_CV cX11_image G 21 11725 314 10 1 sX10_copyOf 0 0 := cA.1 conX10_copyOf rfl rfl ⟨by decide +kernel, by decide +kernel, by decide +kernel⟩ mw_1100 mw_1101 mw_1102 mw_86 mw_1103 (by decide) (by decide)
def wX11_image (Λ : hx_L) (μ : hx_M)  (K : Int32 → hx_L → hx_M → Prop) : Prop := ((μ.1 0 14) < 3 → (Λ.2.2 < hx_big ∧ ∀ L_2 : hx_L, L_2 = hx_push Λ (0, 10) → ∀ m_3 : hx_M, m_3 = (hx_z μ Λ.2.2) → cF L_2 ∧ wX10_init L_2 m_3 Λ.2.2 ((m_3.1 7 7) + 1) (fun Lm23_5 m23_5 => cF Lm23_5 ∧ Lm23_5.1 Λ.2.2 = (0, 10) ∧ wX10_copyOf Lm23_5 m23_5 Λ.2.2 (some 7) (fun m32_8 => vp_in (m32_8.1 0 14) 3 ∧ Lm23_5.1 Λ.2.2 = (0, 10) ∧ ∀ L_13 : hx_L, L_13 = hx_sR Lm23_5 48 (m32_8.1 0 14).toNatClampNeg Λ.2.2 → cF L_13 ∧ K (((m32_8.1 0 14) + 1) - 1) L_13 (hx_sI m32_8 0 14 ((m32_8.1 0 14) + 1)))))) ∧ (¬ ((μ.1 0 14) < 3) → (K (-1) Λ μ))
set_option maxRecDepth 100000 in
set_option maxHeartbeats 4000000 in
theorem kX11_image {G : hx_GT} {KK : hx_KT} (hG : hx_K cX11_image 2 21 11725 (some .int) TbX11 KK G) (hM : hx_KA cX11_image 21 11725 TAX11_image G) (cA : hx_CA RX11 cX11_image 4 21 11725 G) {Λ : hx_L} (hF : cF Λ) {μ : hx_M}  {K : Int32 → hx_L → hx_M → Prop} (hK : ∀ (r : Int32) (Λ1 : hx_L) (m : hx_M), K r Λ1 m → KK (some (.int r)) Λ1 m) (hw : wX11_image Λ μ K) : G Λ μ (0, 0) 0 [some (.ref 0), none] [] := by
  unfold wX11_image at hw
  refine cl_aload_n hG (hx_dq tdX11_image_0 0 rfl) rfl (cl_getI hG fmX11_91 (hx_dq tdX11_image_0 1 rfl) (cF_S0 hF) (cl_iconst hG 3 (hx_dq tdX11_image_0 2 rfl) iconst_3 (cl_icmp_lt hG 10 (hx_dq tdX11_image_0 3 rfl) rfl (fun c5 => ?_) (fun c5 => ?_))))
  · replace hw := hw.1 c5
    obtain ⟨b1, hw⟩ := hw
    refine cl_new hM taX11_image_n41 (hx_dq tdX11_image_0 6 rfl) (Nat.le_of_ble_eq_true rfl) (Nat.le_of_ble_eq_true rfl) b1 (cl_nmA (fun L_2 e_2 => ?_))
    replace hw := hw L_2 e_2
    refine cl_nmM (fun m_3 e_3 => ?_)
    replace hw := hw m_3 e_3
    obtain ⟨f4, hw⟩ := hw
    refine cl_dup hG (hx_dq tdX11_image_0 7 rfl) rfl (cl_aload_n hG (hx_dq tdX11_image_0 8 rfl) rfl (cl_getS hG fmX11_46 (hx_dq tdX11_image_0 9 rfl) (cF_S0 f4) (cF_R0_7 f4) (cl_getI hG fmX11_98 (hx_dq tdX11_image_0 10 rfl) (cF_S7 f4) (cl_iconst hG 1 (hx_dq tdX11_image_0 11 rfl) iconst_1 (cl_iadd hG (hx_dq tdX11_image_0 12 rfl) (cl_callI1 (caX11_image_43 cA) (hx_dq tdX11_image_0 13 rfl) (Nat.le_of_ble_eq_true rfl) (Nat.le_of_ble_eq_true rfl) (Nat.le_of_ble_eq_true rfl) (sX10_init_mk hw (fun Lm23_5 m23_5 hw => ?_))))))))
    obtain ⟨f7, hw⟩ := hw
    obtain ⟨o32_10, hw⟩ := hw
    refine cl_astore_n hG (hx_dq tdX11_image_0 14 rfl) (Nat.le_of_ble_eq_true rfl) rfl (cl_aload_n hG (hx_dq tdX11_image_0 15 rfl) rfl (cl_aload_n hG (hx_dq tdX11_image_0 16 rfl) rfl (cl_getS hG fmX11_46 (hx_dq tdX11_image_0 17 rfl) (cF_S0 f7) (cF_R0_7 f7) (cl_callV1 (caX11_image_314 cA) (hx_dq tdX11_image_0 18 rfl) o32_10 (Nat.le_of_ble_eq_true rfl) (Nat.le_of_ble_eq_true rfl) (Nat.le_of_ble_eq_true rfl) (sX10_copyOf_mk hw (fun m32_8 hw => ?_))))))
    obtain ⟨i44_11, o44_12, hw⟩ := hw
    refine cl_aload_n hG (hx_dq tdX11_image_0 19 rfl) rfl (cl_getS hG fmX11_87 (hx_dq tdX11_image_0 20 rfl) (cF_S0 f7) (cF_R0_13 f7) (cl_aload_n hG (hx_dq tdX11_image_0 21 rfl) rfl (cl_getI hG fmX11_91 (hx_dq tdX11_image_0 22 rfl) (cF_S0 f7) (cl_aload_n hG (hx_dq tdX11_image_0 23 rfl) rfl (cl_astW hM (hx_dq tdX11_image_0 24 rfl) (cF_S48 f7) o44_12 i44_11 (cl_nmA (fun L_13 e_13 => ?_)))))))
    replace hw := hw L_13 e_13
    obtain ⟨f14, hw⟩ := hw
    exact cl_aload_n hG (hx_dq tdX11_image_0 25 rfl) rfl (cl_dup hG (hx_dq tdX11_image_0 26 rfl) rfl (cl_getI hG fmX11_91 (hx_dq tdX11_image_0 27 rfl) (cF_S0 f14) (cl_iconst hG 1 (hx_dq tdX11_image_0 28 rfl) iconst_1 (cl_iadd hG (hx_dq tdX11_image_0 29 rfl) (cl_putI hG fmX11_91 (hx_dq tdX11_image_0 30 rfl) (cF_S0 f14) (cl_aload_n hG (hx_dq tdX11_image_0 31 rfl) rfl (cl_getI hG fmX11_91 (hx_dq tdX11_image_1 0 rfl) (cF_S0 f14) (cl_iconst hG 1 (hx_dq tdX11_image_1 1 rfl) iconst_1 (cl_isub hG (hx_dq tdX11_image_1 2 rfl) (cl_iret hG (hx_dq tdX11_image_1 3 rfl) rfl rfl (hK _ _ _ hw) (Nat.le_of_ble_eq_true rfl) (Nat.le_of_ble_eq_true rfl)))))))))))
  · replace hw := hw.2 c5
    exact cl_iconst hG (-1) (hx_dq tdX11_image_0 4 rfl) iconst_m1 (cl_iret hG (hx_dq tdX11_image_0 5 rfl) rfl rfl (hK _ _ _ hw) (Nat.le_of_ble_eq_true rfl) (Nat.le_of_ble_eq_true rfl))
def sX11_image : hx_ST := fun Λ μ as KK => cF Λ ∧ ∃ (K : Int32 → hx_L → hx_M → Prop), as = [.ref 0] ∧ wX11_image Λ μ K ∧ (∀ (r : Int32) (Λ1 : hx_L) (m : hx_M), K r Λ1 m → KK (some (.int r)) Λ1 m)
theorem sX11_image_mk {Λ : hx_L} {μ : hx_M} {KK : hx_KT}  {K : Int32 → hx_L → hx_M → Prop} (hF : cF Λ) (hw : wX11_image Λ μ K) (hk : ∀ (r : Int32) (Λ1 : hx_L) (m : hx_M), K r Λ1 m → KK (some (.int r)) Λ1 m) : sX11_image Λ μ [.ref 0] KK := ⟨hF, _, rfl, hw, hk⟩
theorem conX11_image : hx_Con yX11_image cX11_image 2 (some .int) 4 21 11725 sX11_image := by
  refine hx_con_ofA (by decide +kernel) tokX11 taokX11_image (Or.inl rfl) (by decide) ?_ ?_
  · intro Λ μ as KK h
    obtain ⟨hF, K, rfl, hw, hK⟩ := h
    exact Nat.le_of_ble_eq_true rfl
  · intro G KK hG hM cA Λ μ as h
    obtain ⟨hF, K, rfl, hw, hK⟩ := h
    exact cl_sub hG (hx_le_c rfl (hx_le_n hx_le_0)) (kX11_image hG hM cA hF hK hw)
/-! HemLine.back(I)Z -/
def tbX11_back_0 : List (Nat × Instr × Nat) := [(0, .iload_n 1, 1), (1, .iconst 0, 1), (2, .aload_n 0, 1), (3, .getfield 91, 3), (6, .iconst 1, 1), (7, .isub, 1), (8, .invokestatic 94, 3), (11, .ifCond .ne 5, 3), (14, .iconst 0, 1), (15, .ireturn, 1), (16, .aload_n 0, 1), (17, .getfield 87, 3), (20, .iload_n 1, 1), (21, .aaload, 1), (22, .astore_n 2, 1), (23, .aload_n 2, 1), (24, .ifnonnull 5, 3), (27, .iconst 0, 1), (28, .ireturn, 1), (29, .aload_n 0, 1), (30, .getfield 46, 3), (33, .aload_n 2, 1), (34, .invokevirtual 314, 3), (37, .iconst 1, 1), (38, .ireturn, 1)]
theorem tdX11_back_0 : hx_dt cX11_back tbX11_back_0 = true := by decide +kernel
theorem caX11_back_94 {G : hx_GT} (cA : hx_CA RX11 cX11_back 3 0 0 G) : hx_CS cX11_back G 0 0 94 3 sX11_within 0 0 := cA.2.1 conX11_within ⟨by decide +kernel, by decide +kernel, by decide +kernel⟩ mw_477 mw_478 mw_84 mw_479 (by decide) (by decide)
theorem caX11_back_314 {G : hx_GT} (cA : hx_CA RX11 cX11_back 3 0 0 G) : hx_CV cX11_back G 0 0 314 10 1 sX10_copyOf 0 0 := cA.1 conX10_copyOf rfl rfl ⟨by decide +kernel, by decide +kernel, by decide +kernel⟩ mw_1100 mw_1101 mw_1102 mw_86 mw_1103 (by decide) (by decide)
def wX11_back (Λ : hx_L) (μ : hx_M) (v1 : Int32) (K : Int32 → hx_M → Prop) : Prop := wX11_within v1 0 ((μ.1 0 14) - 1) (fun r8_2 => (r8_2 ≠ 0 → (vp_in v1 3 ∧ (∀ k24_4, (Λ.2.1 48 v1.toNatClampNeg) = some k24_4 → (wX10_copyOf Λ μ 7 (some k24_4) (fun m34_5 => K 1 m34_5))) ∧ ((Λ.2.1 48 v1.toNatClampNeg) = none → (K 0 μ)))) ∧ (r8_2 = 0 → (K 0 μ)))
set_option maxRecDepth 100000 in
set_option maxHeartbeats 4000000 in
theorem kX11_back {G : hx_GT} {KK : hx_KT} (hG : hx_K cX11_back 3 0 0 (some .boolean) TbX11 KK G) (cA : hx_CA RX11 cX11_back 3 0 0 G) {Λ : hx_L} (hF : cF Λ) {μ : hx_M} (v1 : Int32) {K : Int32 → hx_M → Prop} (hK : ∀ (r : Int32) (m : hx_M), K r m → KK (some (.int r)) Λ m) (hw : wX11_back Λ μ v1 K) : G Λ μ (0, 0) 0 [some (.ref 0), some (.int v1), none] [] := by
  unfold wX11_back at hw
  refine cl_iload_n hG (hx_dq tdX11_back_0 0 rfl) rfl (cl_iconst hG 0 (hx_dq tdX11_back_0 1 rfl) iconst_0 (cl_aload_n hG (hx_dq tdX11_back_0 2 rfl) rfl (cl_getI hG fmX11_91 (hx_dq tdX11_back_0 3 rfl) (cF_S0 hF) (cl_iconst hG 1 (hx_dq tdX11_back_0 4 rfl) iconst_1 (cl_isub hG (hx_dq tdX11_back_0 5 rfl) (cl_callS3 (caX11_back_94 cA) (hx_dq tdX11_back_0 6 rfl) (Nat.le_of_ble_eq_true rfl) (Nat.le_refl _) (Nat.le_refl _) (sX11_within_mk hw (fun r8_2 hw => ?_))))))))
  refine cl_if_ne hG 16 (hx_dq tdX11_back_0 7 rfl) rfl (fun c11 => ?_) (fun c11 => ?_)
  · replace hw := hw.1 c11
    obtain ⟨i21_3, hw⟩ := hw
    refine cl_aload_n hG (hx_dq tdX11_back_0 10 rfl) rfl (cl_getS hG fmX11_87 (hx_dq tdX11_back_0 11 rfl) (cF_S0 hF) (cF_R0_13 hF) (cl_iload_n hG (hx_dq tdX11_back_0 12 rfl) rfl (cl_aldW hG (hx_dq tdX11_back_0 13 rfl) (cF_S48 hF) i21_3 (cl_astore_nQ hG (hx_dq tdX11_back_0 14 rfl) (Nat.le_of_ble_eq_true rfl) rfl (cl_aload_nQ hG (hx_dq tdX11_back_0 15 rfl) rfl (cl_ifnonnull hG 29 (hx_dq tdX11_back_0 16 rfl) rfl (fun k24_4 c24 => ?_) (fun c24 => ?_)))))))
    · replace hw := hw.1 k24_4 c24
      refine cl_aload_n hG (hx_dq tdX11_back_0 19 rfl) rfl (cl_getS hG fmX11_46 (hx_dq tdX11_back_0 20 rfl) (cF_S0 hF) (cF_R0_7 hF) (cl_aload_nQ hG (hx_dq tdX11_back_0 21 rfl) rfl (cl_nn c24 (cl_callV1 (caX11_back_314 cA) (hx_dq tdX11_back_0 22 rfl) (cF_S7 hF) (Nat.le_of_ble_eq_true rfl) (Nat.le_refl _) (Nat.le_refl _) (sX10_copyOf_mk hw (fun m34_5 hw => ?_))))))
      exact cl_iconst hG 1 (hx_dq tdX11_back_0 23 rfl) iconst_1 (cl_iret hG (hx_dq tdX11_back_0 24 rfl) rfl rfl (hK _ _ hw) (Nat.le_refl _) (Nat.le_refl _))
    · replace hw := hw.2 c24
      exact cl_iconst hG 0 (hx_dq tdX11_back_0 17 rfl) iconst_0 (cl_iret hG (hx_dq tdX11_back_0 18 rfl) rfl rfl (hK _ _ hw) (Nat.le_refl _) (Nat.le_refl _))
  · replace hw := hw.2 c11
    exact cl_iconst hG 0 (hx_dq tdX11_back_0 8 rfl) iconst_0 (cl_iret hG (hx_dq tdX11_back_0 9 rfl) rfl rfl (hK _ _ hw) (Nat.le_refl _) (Nat.le_refl _))
def sX11_back : hx_ST := fun Λ μ as KK => cF Λ ∧ ∃ (v1 : Int32) (K : Int32 → hx_M → Prop), as = [.ref 0, .int v1] ∧ wX11_back Λ μ v1 K ∧ (∀ (r : Int32) (m : hx_M), K r m → KK (some (.int r)) Λ m)
theorem sX11_back_mk {Λ : hx_L} {μ : hx_M} {KK : hx_KT} {v1 : Int32} {K : Int32 → hx_M → Prop} (hF : cF Λ) (hw : wX11_back Λ μ v1 K) (hk : ∀ (r : Int32) (m : hx_M), K r m → KK (some (.int r)) Λ m) : sX11_back Λ μ [.ref 0, .int v1] KK := ⟨hF, _, _, rfl, hw, hk⟩
theorem conX11_back : hx_Con yX11_back cX11_back 3 (some .boolean) 3 0 0 sX11_back := by
  refine hx_con_of (by decide +kernel) tokX11 (by decide) ?_ ?_
  · intro Λ μ as KK h
    obtain ⟨hF, v1, K, rfl, hw, hK⟩ := h
    exact Nat.le_of_ble_eq_true rfl
  · intro G KK hG cA Λ μ as h
    obtain ⟨hF, v1, K, rfl, hw, hK⟩ := h
    exact cl_sub hG (hx_le_c rfl (hx_le_c rfl (hx_le_n hx_le_0))) (kX11_back hG cA hF _ hK hw)
/-! HemLine.count(I)I -/
def tbX11_count_0 : List (Nat × Instr × Nat) := [(0, .aload_n 0, 1), (1, .invokevirtual 165, 3), (4, .astore_n 2, 1), (5, .iload_n 1, 1), (6, .tableswitch 141 0 9 #[54, 65, 73, 78, 83, 96, 104, 112, 117, 122], 54), (60, .aload_n 0, 1), (61, .getfield 46, 3), (64, .getfield 101, 3), (67, .getfield 317, 3), (70, .ireturn, 1), (71, .aload_n 0, 1), (72, .getfield 46, 3), (75, .getfield 98, 3), (78, .ireturn, 1), (79, .aload_n 0, 1), (80, .getfield 32, 3), (83, .ireturn, 1), (84, .aload_n 0, 1), (85, .getfield 35, 3), (88, .ireturn, 1), (89, .aload_n 2, 1), (90, .ifnonnull 7, 3), (93, .iconst 0, 1), (94, .goto 7, 3), (97, .aload_n 2, 1), (98, .getfield 320, 3), (101, .ireturn, 1), (102, .aload_n 0, 1), (103, .getfield 76, 3), (106, .getfield 323, 3), (109, .ireturn, 1), (110, .aload_n 0, 1)]
def tbX11_count_1 : List (Nat × Instr × Nat) := [(111, .getfield 46, 3), (114, .getfield 275, 3), (117, .ireturn, 1), (118, .aload_n 0, 1), (119, .getfield 91, 3), (122, .ireturn, 1), (123, .aload_n 0, 1), (124, .getfield 13, 3), (127, .ireturn, 1), (128, .aload_n 0, 1), (129, .getfield 46, 3), (132, .getfield 111, 3), (135, .getfield 137, 3), (138, .aload_n 0, 1), (139, .getfield 46, 3), (142, .getfield 98, 3), (145, .iaload, 1), (146, .ireturn, 1), (147, .iload_n 1, 1), (148, .bipush 10, 2), (150, .isub, 1), (151, .invokestatic 131, 3), (154, .ifCond .eq 27, 3), (157, .aload_n 0, 1), (158, .getfield 46, 3), (161, .getfield 111, 3), (164, .iload_n 1, 1), (165, .bipush 10, 2), (167, .isub, 1), (168, .aload_n 0, 1), (169, .getfield 46, 3), (172, .getfield 98, 3)]
def tbX11_count_2 : List (Nat × Instr × Nat) := [(175, .invokevirtual 324, 3), (178, .goto 4, 3), (181, .iconst (-1), 1), (182, .ireturn, 1)]
theorem tdX11_count_0 : hx_dt cX11_count tbX11_count_0 = true := by decide +kernel
theorem tdX11_count_1 : hx_dt cX11_count tbX11_count_1 = true := by decide +kernel
theorem tdX11_count_2 : hx_dt cX11_count tbX11_count_2 = true := by decide +kernel
theorem caX11_count_131 {G : hx_GT} (cA : hx_CA RX11 cX11_count 3 0 0 G) : hx_CS cX11_count G 0 0 131 1 sX11_isHouse 0 0 := cA.2.1 conX11_isHouse ⟨by decide +kernel, by decide +kernel, by decide +kernel⟩ mw_497 mw_498 mw_84 mw_499 (by decide) (by decide)
theorem caX11_count_165 {G : hx_GT} (cA : hx_CA RX11 cX11_count 3 0 0 G) : hx_CV cX11_count G 0 0 165 11 0 sX11_lawInForce 0 0 := cA.1 conX11_lawInForce rfl rfl ⟨by decide +kernel, by decide +kernel, by decide +kernel⟩ mw_687 mw_689 mw_15 mw_84 mw_690 (by decide) (by decide)
theorem caX11_count_324 {G : hx_GT} (cA : hx_CA RX11 cX11_count 3 0 0 G) : hx_CV cX11_count G 0 0 324 3 2 sX3_shownBy 0 0 := cA.1 conX3_shownBy rfl rfl ⟨by decide +kernel, by decide +kernel, by decide +kernel⟩ mw_1119 mw_760 mw_761 mw_88 mw_762 (by decide) (by decide)
def wX11_count (Λ : hx_L) (μ : hx_M) (v1 : Int32) (K : Int32 → Prop) : Prop := wX11_lawInForce Λ μ (fun r1_2 => ((v1 : Int32).toInt < 0 ∨ 9 < (v1 : Int32).toInt → (wX11_isHouse (v1 - 10) (fun r151_4 => (r151_4 = 0 → (K (-1))) ∧ (¬ (r151_4 = 0) → (wX3_shownBy μ (v1 - 10) (μ.1 7 7) (fun r175_6 => K r175_6)))))) ∧ (v1 = 0 → (K (μ.1 8 0))) ∧ (v1 = 1 → (K (μ.1 7 7))) ∧ (v1 = 2 → (K (μ.1 0 4))) ∧ (v1 = 3 → (K (μ.1 0 5))) ∧ (v1 = 4 → ((∀ k90_7, r1_2 = some k90_7 → (Λ.1 k90_7 = (0, 1) ∧ K (μ.1 k90_7 1))) ∧ (r1_2 = none → (K 0)))) ∧ (v1 = 5 → (K (μ.1 39 1))) ∧ (v1 = 6 → (K (μ.1 7 8))) ∧ (v1 = 7 → (K (μ.1 0 14))) ∧ (v1 = 8 → (K (μ.1 0 1))) ∧ (v1 = 9 → (vp_in (μ.1 7 7) 301 ∧ K ((μ.1 20 ((μ.1 7 7).toNatClampNeg))))))
set_option maxRecDepth 100000 in
set_option maxHeartbeats 4000000 in
theorem kX11_count {G : hx_GT} {KK : hx_KT} (hG : hx_K cX11_count 3 0 0 (some .int) TbX11 KK G) (cA : hx_CA RX11 cX11_count 3 0 0 G) {Λ : hx_L} (hF : cF Λ) {μ : hx_M} (v1 : Int32) {K : Int32 → Prop} (hK : ∀ (r : Int32), K r → KK (some (.int r)) Λ μ) (hw : wX11_count Λ μ v1 K) : G Λ μ (0, 0) 0 [some (.ref 0), some (.int v1), none] [] := by
  unfold wX11_count at hw
  refine cl_aload_n hG (hx_dq tdX11_count_0 0 rfl) rfl (cl_callV0 (caX11_count_165 cA) (hx_dq tdX11_count_0 1 rfl) (cF_S0 hF) (Nat.le_of_ble_eq_true rfl) (Nat.le_refl _) (Nat.le_refl _) (sX11_lawInForce_mk hF hw (fun r1_2 hw => ?_)))
  refine cl_astore_nQ hG (hx_dq tdX11_count_0 2 rfl) (Nat.le_of_ble_eq_true rfl) rfl (cl_iload_n hG (hx_dq tdX11_count_0 3 rfl) rfl (hG.1 _ _ _ (hx_dq tdX11_count_0 4 rfl) _ _ _ _ _ ⟨_, _, rfl, fun c6 => ⟨147, rfl, ?_⟩, fun c6 e6 => ?_⟩))
  · replace hw := hw.1 c6
    refine cl_iload_n hG (hx_dq tdX11_count_1 18 rfl) rfl (cl_bipush hG 10 (hx_dq tdX11_count_1 19 rfl) bipush_10 (cl_isub hG (hx_dq tdX11_count_1 20 rfl) (cl_callS1 (caX11_count_131 cA) (hx_dq tdX11_count_1 21 rfl) (Nat.le_of_ble_eq_true rfl) (Nat.le_refl _) (Nat.le_refl _) (sX11_isHouse_mk hw (fun r151_4 hw => ?_)))))
    refine cl_if_eq hG 181 (hx_dq tdX11_count_1 22 rfl) rfl (fun c154 => ?_) (fun c154 => ?_)
    · replace hw := hw.1 c154
      exact cl_iconst hG (-1) (hx_dq tdX11_count_2 2 rfl) iconst_m1 (cl_iret hG (hx_dq tdX11_count_2 3 rfl) rfl rfl (hK _ hw) (Nat.le_refl _) (Nat.le_refl _))
    · replace hw := hw.2 c154
      refine cl_aload_n hG (hx_dq tdX11_count_1 23 rfl) rfl (cl_getS hG fmX11_46 (hx_dq tdX11_count_1 24 rfl) (cF_S0 hF) (cF_R0_7 hF) (cl_getS hG fmX11_111 (hx_dq tdX11_count_1 25 rfl) (cF_S7 hF) (cF_R7_1 hF) (cl_iload_n hG (hx_dq tdX11_count_1 26 rfl) rfl (cl_bipush hG 10 (hx_dq tdX11_count_1 27 rfl) bipush_10 (cl_isub hG (hx_dq tdX11_count_1 28 rfl) (cl_aload_n hG (hx_dq tdX11_count_1 29 rfl) rfl (cl_getS hG fmX11_46 (hx_dq tdX11_count_1 30 rfl) (cF_S0 hF) (cF_R0_7 hF) (cl_getI hG fmX11_98 (hx_dq tdX11_count_1 31 rfl) (cF_S7 hF) (cl_callV2 (caX11_count_324 cA) (hx_dq tdX11_count_2 0 rfl) (cF_S15 hF) (Nat.le_of_ble_eq_true rfl) (Nat.le_refl _) (Nat.le_refl _) (sX3_shownBy_mk hF hw (fun r175_6 hw => ?_)))))))))))
      exact cl_goto hG 182 (hx_dq tdX11_count_2 1 rfl) rfl (cl_iret hG (hx_dq tdX11_count_2 3 rfl) rfl rfl (hK _ hw) (Nat.le_refl _) (Nat.le_refl _))
  · replace hw := hw.2
    rcases hx_sw9 _ c6 e6 with c | c | c | c | c | c | c | c | c | c
    · replace hw := hw.1 c
      refine ⟨54, 60, by rw [c]; decide, rfl, ?_⟩
      exact cl_aload_n hG (hx_dq tdX11_count_0 5 rfl) rfl (cl_getS hG fmX11_46 (hx_dq tdX11_count_0 6 rfl) (cF_S0 hF) (cF_R0_7 hF) (cl_getS hG fmX11_101 (hx_dq tdX11_count_0 7 rfl) (cF_S7 hF) (cF_R7_0 hF) (cl_getI hG fmX11_317 (hx_dq tdX11_count_0 8 rfl) (cF_S8 hF) (cl_iret hG (hx_dq tdX11_count_0 9 rfl) rfl rfl (hK _ hw) (Nat.le_refl _) (Nat.le_refl _)))))
    · replace hw := hw.2.1 c
      refine ⟨65, 71, by rw [c]; decide, rfl, ?_⟩
      exact cl_aload_n hG (hx_dq tdX11_count_0 10 rfl) rfl (cl_getS hG fmX11_46 (hx_dq tdX11_count_0 11 rfl) (cF_S0 hF) (cF_R0_7 hF) (cl_getI hG fmX11_98 (hx_dq tdX11_count_0 12 rfl) (cF_S7 hF) (cl_iret hG (hx_dq tdX11_count_0 13 rfl) rfl rfl (hK _ hw) (Nat.le_refl _) (Nat.le_refl _))))
    · replace hw := hw.2.2.1 c
      refine ⟨73, 79, by rw [c]; decide, rfl, ?_⟩
      exact cl_aload_n hG (hx_dq tdX11_count_0 14 rfl) rfl (cl_getI hG fmX11_32 (hx_dq tdX11_count_0 15 rfl) (cF_S0 hF) (cl_iret hG (hx_dq tdX11_count_0 16 rfl) rfl rfl (hK _ hw) (Nat.le_refl _) (Nat.le_refl _)))
    · replace hw := hw.2.2.2.1 c
      refine ⟨78, 84, by rw [c]; decide, rfl, ?_⟩
      exact cl_aload_n hG (hx_dq tdX11_count_0 17 rfl) rfl (cl_getI hG fmX11_35 (hx_dq tdX11_count_0 18 rfl) (cF_S0 hF) (cl_iret hG (hx_dq tdX11_count_0 19 rfl) rfl rfl (hK _ hw) (Nat.le_refl _) (Nat.le_refl _)))
    · replace hw := hw.2.2.2.2.1 c
      refine ⟨83, 89, by rw [c]; decide, rfl, ?_⟩
      refine cl_aload_nQ hG (hx_dq tdX11_count_0 20 rfl) rfl (cl_ifnonnull hG 97 (hx_dq tdX11_count_0 21 rfl) rfl (fun k90_7 c90 => ?_) (fun c90 => ?_))
      · replace hw := hw.1 k90_7 c90
        revert hw
        subst c90
        intro hw
        obtain ⟨o98_8, hw⟩ := hw
        exact cl_aload_n hG (hx_dq tdX11_count_0 24 rfl) rfl (cl_getF hG fmX11_320 (hx_dq tdX11_count_0 25 rfl) o98_8 (cl_iret hG (hx_dq tdX11_count_0 26 rfl) rfl rfl (hK _ hw) (Nat.le_refl _) (Nat.le_refl _)))
      · replace hw := hw.2 c90
        exact cl_iconst hG 0 (hx_dq tdX11_count_0 22 rfl) iconst_0 (cl_goto hG 101 (hx_dq tdX11_count_0 23 rfl) rfl (cl_iret hG (hx_dq tdX11_count_0 26 rfl) rfl rfl (hK _ hw) (Nat.le_refl _) (Nat.le_refl _)))
    · replace hw := hw.2.2.2.2.2.1 c
      refine ⟨96, 102, by rw [c]; decide, rfl, ?_⟩
      exact cl_aload_n hG (hx_dq tdX11_count_0 27 rfl) rfl (cl_getS hG fmX11_76 (hx_dq tdX11_count_0 28 rfl) (cF_S0 hF) (cF_R0_11 hF) (cl_getI hG fmX11_323 (hx_dq tdX11_count_0 29 rfl) (cF_S39 hF) (cl_iret hG (hx_dq tdX11_count_0 30 rfl) rfl rfl (hK _ hw) (Nat.le_refl _) (Nat.le_refl _))))
    · replace hw := hw.2.2.2.2.2.2.1 c
      refine ⟨104, 110, by rw [c]; decide, rfl, ?_⟩
      exact cl_aload_n hG (hx_dq tdX11_count_0 31 rfl) rfl (cl_getS hG fmX11_46 (hx_dq tdX11_count_1 0 rfl) (cF_S0 hF) (cF_R0_7 hF) (cl_getI hG fmX11_275 (hx_dq tdX11_count_1 1 rfl) (cF_S7 hF) (cl_iret hG (hx_dq tdX11_count_1 2 rfl) rfl rfl (hK _ hw) (Nat.le_refl _) (Nat.le_refl _))))
    · replace hw := hw.2.2.2.2.2.2.2.1 c
      refine ⟨112, 118, by rw [c]; decide, rfl, ?_⟩
      exact cl_aload_n hG (hx_dq tdX11_count_1 3 rfl) rfl (cl_getI hG fmX11_91 (hx_dq tdX11_count_1 4 rfl) (cF_S0 hF) (cl_iret hG (hx_dq tdX11_count_1 5 rfl) rfl rfl (hK _ hw) (Nat.le_refl _) (Nat.le_refl _)))
    · replace hw := hw.2.2.2.2.2.2.2.2.1 c
      refine ⟨117, 123, by rw [c]; decide, rfl, ?_⟩
      exact cl_aload_n hG (hx_dq tdX11_count_1 6 rfl) rfl (cl_getI hG fmX11_13 (hx_dq tdX11_count_1 7 rfl) (cF_S0 hF) (cl_iret hG (hx_dq tdX11_count_1 8 rfl) rfl rfl (hK _ hw) (Nat.le_refl _) (Nat.le_refl _)))
    · replace hw := hw.2.2.2.2.2.2.2.2.2 c
      refine ⟨122, 128, by rw [c]; decide, rfl, ?_⟩
      obtain ⟨i145_9, hw⟩ := hw
      exact cl_aload_n hG (hx_dq tdX11_count_1 9 rfl) rfl (cl_getS hG fmX11_46 (hx_dq tdX11_count_1 10 rfl) (cF_S0 hF) (cF_R0_7 hF) (cl_getS hG fmX11_111 (hx_dq tdX11_count_1 11 rfl) (cF_S7 hF) (cF_R7_1 hF) (cl_getS hG fmX11_137 (hx_dq tdX11_count_1 12 rfl) (cF_S15 hF) (cF_R15_5 hF) (cl_aload_n hG (hx_dq tdX11_count_1 13 rfl) rfl (cl_getS hG fmX11_46 (hx_dq tdX11_count_1 14 rfl) (cF_S0 hF) (cF_R0_7 hF) (cl_getI hG fmX11_98 (hx_dq tdX11_count_1 15 rfl) (cF_S7 hF) (cl_iald hG (hx_dq tdX11_count_1 16 rfl) (cF_S20 hF) i145_9 (cl_iret hG (hx_dq tdX11_count_1 17 rfl) rfl rfl (hK _ hw) (Nat.le_refl _) (Nat.le_refl _)))))))))
def sX11_count : hx_ST := fun Λ μ as KK => cF Λ ∧ ∃ (v1 : Int32) (K : Int32 → Prop), as = [.ref 0, .int v1] ∧ wX11_count Λ μ v1 K ∧ (∀ (r : Int32), K r → KK (some (.int r)) Λ μ)
theorem sX11_count_mk {Λ : hx_L} {μ : hx_M} {KK : hx_KT} {v1 : Int32} {K : Int32 → Prop} (hF : cF Λ) (hw : wX11_count Λ μ v1 K) (hk : ∀ (r : Int32), K r → KK (some (.int r)) Λ μ) : sX11_count Λ μ [.ref 0, .int v1] KK := ⟨hF, _, _, rfl, hw, hk⟩
theorem conX11_count : hx_Con yX11_count cX11_count 3 (some .int) 3 0 0 sX11_count := by
  refine hx_con_of (by decide +kernel) tokX11 (by decide) ?_ ?_
  · intro Λ μ as KK h
    obtain ⟨hF, v1, K, rfl, hw, hK⟩ := h
    exact Nat.le_of_ble_eq_true rfl
  · intro G KK hG cA Λ μ as h
    obtain ⟨hF, v1, K, rfl, hw, hK⟩ := h
    exact cl_sub hG (hx_le_c rfl (hx_le_c rfl (hx_le_n hx_le_0))) (kX11_count hG cA hF _ hK hw)
