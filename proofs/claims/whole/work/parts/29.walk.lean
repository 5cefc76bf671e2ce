/-! HemLineModel.pushed(IIII)I -/
def tbX12_pushed_0 : List (Nat × Instr × Nat) := [(0, .iload_n 1, 1), (1, .iconst 1, 1), (2, .bipush 100, 2), (4, .invokestatic 157, 3), (7, .ifCond .eq 40, 3), (10, .iload_n 2, 1), (11, .iconst 1, 1), (12, .bipush 20, 2), (14, .invokestatic 157, 3), (17, .ifCond .eq 30, 3), (20, .iload_n 3, 1), (21, .iconst 0, 1), (22, .bipush 99, 2), (24, .invokestatic 157, 3), (27, .ifCond .eq 20, 3), (30, .iload 4, 2), (32, .iconst 0, 1), (33, .iconst 1, 1), (34, .invokestatic 157, 3), (37, .ifCond .eq 10, 3), (40, .aload_n 0, 1), (41, .invokevirtual 389, 3), (44, .ifCond .ne 5, 3), (47, .iconst (-1), 1), (48, .ireturn, 1), (49, .aload_n 0, 1), (50, .iload_n 1, 1), (51, .iload_n 2, 1), (52, .iload_n 3, 1), (53, .iconst 2, 1), (54, .iload_n 2, 1), (55, .imul, 1)]
def tbX12_pushed_1 : List (Nat × Instr × Nat) := [(56, .invokevirtual 392, 3), (59, .iload 4, 2), (61, .ifCond .ne 10, 3), (64, .aload_n 0, 1), (65, .getfield 377, 3), (68, .goto 7, 3), (71, .aload_n 0, 1), (72, .getfield 380, 3), (75, .ireturn, 1)]
theorem tdX12_pushed_0 : hx_dt cX12_pushed tbX12_pushed_0 = true := by decide +kernel
theorem tdX12_pushed_1 : hx_dt cX12_pushed tbX12_pushed_1 = true := by decide +kernel
theorem caX12_pushed_157 {G : hx_GT} (cA : hx_CA RX12 cX12_pushed 8 0 0 G) : hx_CS cX12_pushed G 0 0 157 3 sX12_isIn 0 0 := cA.2.1 conX12_isIn ⟨by decide +kernel, by decide +kernel, by decide +kernel⟩ mw_1343 mw_1344 mw_97 mw_1345 (by decide) (by decide)
theorem caX12_pushed_389 {G : hx_GT} (cA : hx_CA RX12 cX12_pushed 8 0 0 G) : hx_CV cX12_pushed G 0 0 389 12 0 sX12_mayTry 0 0 := cA.1 conX12_mayTry rfl rfl ⟨by decide +kernel, by decide +kernel, by decide +kernel⟩ mw_1555 mw_1557 mw_66 mw_97 mw_1558 (by decide) (by decide)
theorem caX12_pushed_392 {G : hx_GT} (cA : hx_CA RX12 cX12_pushed 8 0 0 G) : hx_CV cX12_pushed G 0 0 392 12 4 sX12_tries 0 0 := cA.1 conX12_tries rfl rfl ⟨by decide +kernel, by decide +kernel, by decide +kernel⟩ mw_1559 mw_1561 mw_67 mw_97 mw_1562 (by decide) (by decide)
def wX12_pushed (μ : hx_M) (v1 : Int32) (v2 : Int32) (v3 : Int32) (v4 : Int32) (K : Int32 → hx_M → Prop) : Prop := wX12_isIn v1 1 100 (fun r4_2 => (r4_2 = 0 → (K (-1) μ)) ∧ (¬ (r4_2 = 0) → (wX12_isIn v2 1 20 (fun r14_4 => (r14_4 = 0 → (K (-1) μ)) ∧ (¬ (r14_4 = 0) → (wX12_isIn v3 0 99 (fun r24_6 => (r24_6 = 0 → (K (-1) μ)) ∧ (¬ (r24_6 = 0) → (wX12_isIn v4 0 1 (fun r34_8 => (r34_8 = 0 → (K (-1) μ)) ∧ (¬ (r34_8 = 0) → (wX12_mayTry μ (fun r41_10 => (r41_10 ≠ 0 → (wX12_tries μ v1 v2 v3 (2 * v2) (fun m56_11 => (v4 ≠ 0 → (K (m56_11.1 49 49) m56_11)) ∧ (v4 = 0 → (K (m56_11.1 49 48) m56_11))))) ∧ (r41_10 = 0 → (K (-1) μ)))))))))))))))
set_option maxRecDepth 100000 in
set_option maxHeartbeats 4000000 in
theorem kX12_pushed {G : hx_GT} {KK : hx_KT} (hG : hx_K cX12_pushed 5 0 0 (some .int) TbX12 KK G) (cA : hx_CA RX12 cX12_pushed 8 0 0 G) {Λ : hx_L} (hF : mF Λ) {μ : hx_M} (v1 : Int32) (v2 : Int32) (v3 : Int32) (v4 : Int32) {K : Int32 → hx_M → Prop} (hK : ∀ (r : Int32) (m : hx_M), K r m → KK (some (.int r)) Λ m) (hw : wX12_pushed μ v1 v2 v3 v4 K) : G Λ μ (0, 0) 0 [some (.ref 49), some (.int v1), some (.int v2), some (.int v3), some (.int v4)] [] := by
  unfold wX12_pushed at hw
  refine cl_iload_n hG (hx_dq tdX12_pushed_0 0 rfl) rfl (cl_iconst hG 1 (hx_dq tdX12_pushed_0 1 rfl) iconst_1 (cl_bipush hG 100 (hx_dq tdX12_pushed_0 2 rfl) bipush_100 (cl_callS3 (caX12_pushed_157 cA) (hx_dq tdX12_pushed_0 3 rfl) (Nat.le_of_ble_eq_true rfl) (Nat.le_refl _) (Nat.le_refl _) (sX12_isIn_mk hw (fun r4_2 hw => ?_)))))
  refine cl_if_eq hG 47 (hx_dq tdX12_pushed_0 4 rfl) rfl (fun c7 => ?_) (fun c7 => ?_)
  · replace hw := hw.1 c7
    exact cl_iconst hG (-1) (hx_dq tdX12_pushed_0 23 rfl) iconst_m1 (cl_iret hG (hx_dq tdX12_pushed_0 24 rfl) rfl rfl (hK _ _ hw) (Nat.le_refl _) (Nat.le_refl _))
  · replace hw := hw.2 c7
    refine cl_iload_n hG (hx_dq tdX12_pushed_0 5 rfl) rfl (cl_iconst hG 1 (hx_dq tdX12_pushed_0 6 rfl) iconst_1 (cl_bipush hG 20 (hx_dq tdX12_pushed_0 7 rfl) bipush_20 (cl_callS3 (caX12_pushed_157 cA) (hx_dq tdX12_pushed_0 8 rfl) (Nat.le_of_ble_eq_true rfl) (Nat.le_refl _) (Nat.le_refl _) (sX12_isIn_mk hw (fun r14_4 hw => ?_)))))
    refine cl_if_eq hG 47 (hx_dq tdX12_pushed_0 9 rfl) rfl (fun c17 => ?_) (fun c17 => ?_)
    · replace hw := hw.1 c17
      exact cl_iconst hG (-1) (hx_dq tdX12_pushed_0 23 rfl) iconst_m1 (cl_iret hG (hx_dq tdX12_pushed_0 24 rfl) rfl rfl (hK _ _ hw) (Nat.le_refl _) (Nat.le_refl _))
    · replace hw := hw.2 c17
      refine cl_iload_n hG (hx_dq tdX12_pushed_0 10 rfl) rfl (cl_iconst hG 0 (hx_dq tdX12_pushed_0 11 rfl) iconst_0 (cl_bipush hG 99 (hx_dq tdX12_pushed_0 12 rfl) bipush_99 (cl_callS3 (caX12_pushed_157 cA) (hx_dq tdX12_pushed_0 13 rfl) (Nat.le_of_ble_eq_true rfl) (Nat.le_refl _) (Nat.le_refl _) (sX12_isIn_mk hw (fun r24_6 hw => ?_)))))
      refine cl_if_eq hG 47 (hx_dq tdX12_pushed_0 14 rfl) rfl (fun c27 => ?_) (fun c27 => ?_)
      · replace hw := hw.1 c27
        exact cl_iconst hG (-1) (hx_dq tdX12_pushed_0 23 rfl) iconst_m1 (cl_iret hG (hx_dq tdX12_pushed_0 24 rfl) rfl rfl (hK _ _ hw) (Nat.le_refl _) (Nat.le_refl _))
      · replace hw := hw.2 c27
        refine cl_iload hG (hx_dq tdX12_pushed_0 15 rfl) rfl (cl_iconst hG 0 (hx_dq tdX12_pushed_0 16 rfl) iconst_0 (cl_iconst hG 1 (hx_dq tdX12_pushed_0 17 rfl) iconst_1 (cl_callS3 (caX12_pushed_157 cA) (hx_dq tdX12_pushed_0 18 rfl) (Nat.le_of_ble_eq_true rfl) (Nat.le_refl _) (Nat.le_refl _) (sX12_isIn_mk hw (fun r34_8 hw => ?_)))))
        refine cl_if_eq hG 47 (hx_dq tdX12_pushed_0 19 rfl) rfl (fun c37 => ?_) (fun c37 => ?_)
        · replace hw := hw.1 c37
          exact cl_iconst hG (-1) (hx_dq tdX12_pushed_0 23 rfl) iconst_m1 (cl_iret hG (hx_dq tdX12_pushed_0 24 rfl) rfl rfl (hK _ _ hw) (Nat.le_refl _) (Nat.le_refl _))
        · replace hw := hw.2 c37
          refine cl_aload_n hG (hx_dq tdX12_pushed_0 20 rfl) rfl (cl_callV0 (caX12_pushed_389 cA) (hx_dq tdX12_pushed_0 21 rfl) (mF_S49 hF) (Nat.le_of_ble_eq_true rfl) (Nat.le_refl _) (Nat.le_refl _) (sX12_mayTry_mk hF hw (fun r41_10 hw => ?_)))
          refine cl_if_ne hG 49 (hx_dq tdX12_pushed_0 22 rfl) rfl (fun c44 => ?_) (fun c44 => ?_)
          · replace hw := hw.1 c44
            refine cl_aload_n hG (hx_dq tdX12_pushed_0 25 rfl) rfl (cl_iload_n hG (hx_dq tdX12_pushed_0 26 rfl) rfl (cl_iload_n hG (hx_dq tdX12_pushed_0 27 rfl) rfl (cl_iload_n hG (hx_dq tdX12_pushed_0 28 rfl) rfl (cl_iconst hG 2 (hx_dq tdX12_pushed_0 29 rfl) iconst_2 (cl_iload_n hG (hx_dq tdX12_pushed_0 30 rfl) rfl (cl_imul hG (hx_dq tdX12_pushed_0 31 rfl) (cl_callV4 (caX12_pushed_392 cA) (hx_dq tdX12_pushed_1 0 rfl) (mF_S49 hF) (Nat.le_of_ble_eq_true rfl) (Nat.le_refl _) (Nat.le_refl _) (sX12_tries_mk hF hw (fun m56_11 hw => ?_)))))))))
            refine cl_iload hG (hx_dq tdX12_pushed_1 1 rfl) rfl (cl_if_ne hG 71 (hx_dq tdX12_pushed_1 2 rfl) rfl (fun c61 => ?_) (fun c61 => ?_))
            · replace hw := hw.1 c61
              exact cl_aload_n hG (hx_dq tdX12_pushed_1 6 rfl) rfl (cl_getI hG fmX12_380 (hx_dq tdX12_pushed_1 7 rfl) (mF_S49 hF) (cl_iret hG (hx_dq tdX12_pushed_1 8 rfl) rfl rfl (hK _ _ hw) (Nat.le_refl _) (Nat.le_refl _)))
            · replace hw := hw.2 c61
              exact cl_aload_n hG (hx_dq tdX12_pushed_1 3 rfl) rfl (cl_getI hG fmX12_377 (hx_dq tdX12_pushed_1 4 rfl) (mF_S49 hF) (cl_goto hG 75 (hx_dq tdX12_pushed_1 5 rfl) rfl (cl_iret hG (hx_dq tdX12_pushed_1 8 rfl) rfl rfl (hK _ _ hw) (Nat.le_refl _) (Nat.le_refl _))))
          · replace hw := hw.2 c44
            exact cl_iconst hG (-1) (hx_dq tdX12_pushed_0 23 rfl) iconst_m1 (cl_iret hG (hx_dq tdX12_pushed_0 24 rfl) rfl rfl (hK _ _ hw) (Nat.le_refl _) (Nat.le_refl _))
def sX12_pushed : hx_ST := fun Λ μ as KK => mF Λ ∧ ∃ (v1 : Int32) (v2 : Int32) (v3 : Int32) (v4 : Int32) (K : Int32 → hx_M → Prop), as = [.ref 49, .int v1, .int v2, .int v3, .int v4] ∧ wX12_pushed μ v1 v2 v3 v4 K ∧ (∀ (r : Int32) (m : hx_M), K r m → KK (some (.int r)) Λ m)
theorem sX12_pushed_mk {Λ : hx_L} {μ : hx_M} {KK : hx_KT} {v1 : Int32} {v2 : Int32} {v3 : Int32} {v4 : Int32} {K : Int32 → hx_M → Prop} (hF : mF Λ) (hw : wX12_pushed μ v1 v2 v3 v4 K) (hk : ∀ (r : Int32) (m : hx_M), K r m → KK (some (.int r)) Λ m) : sX12_pushed Λ μ [.ref 49, .int v1, .int v2, .int v3, .int v4] KK := ⟨hF, _, _, _, _, _, rfl, hw, hk⟩
theorem conX12_pushed : hx_Con yX12_pushed cX12_pushed 5 (some .int) 8 0 0 sX12_pushed := by
  refine hx_con_of (by decide +kernel) tokX12 (by decide) ?_ ?_
  · intro Λ μ as KK h
    obtain ⟨hF, v1, v2, v3, v4, K, rfl, hw, hK⟩ := h
    exact Nat.le_of_ble_eq_true rfl
  · intro G KK hG cA Λ μ as h
    obtain ⟨hF, v1, v2, v3, v4, K, rfl, hw, hK⟩ := h
    exact cl_sub hG (hx_le_c rfl (hx_le_c rfl (hx_le_c rfl (hx_le_c rfl (hx_le_c rfl hx_le_0))))) (kX12_pushed hG cA hF _ _ _ _ hK hw)
/-! HemLineModel.led(II)I -/
def tbX12_led_0 : List (Nat × Instr × Nat) := [(0, .aload_n 0, 1), (1, .iload_n 1, 1), (2, .invokevirtual 167, 3), (5, .ifCond .eq 12, 3), (8, .iload_n 2, 1), (9, .iconst 0, 1), (10, .iconst 3, 1), (11, .invokestatic 157, 3), (14, .ifCond .ne 5, 3), (17, .iconst (-1), 1), (18, .ireturn, 1), (19, .iconst 0, 1), (20, .istore_n 3, 1), (21, .iconst 1, 1), (22, .istore 4, 2), (24, .iload 4, 2), (26, .aload_n 0, 1), (27, .getfield 161, 3), (30, .if_icmp .gt 123, 3), (33, .aload_n 0, 1), (34, .iload_n 1, 1), (35, .iload 4, 2), (37, .iconst 1, 1), (38, .isub, 1), (39, .invokevirtual 302, 3), (42, .istore 5, 2), (44, .aload_n 0, 1), (45, .iload_n 1, 1), (46, .iload 4, 2), (48, .invokevirtual 302, 3), (51, .istore 6, 2), (53, .iload 5, 2)]
def tbX12_led_1 : List (Nat × Instr × Nat) := [(55, .iload 6, 2), (57, .if_icmp .ne 6, 3), (60, .goto 87, 3), (63, .iload_n 2, 1), (64, .iconst 3, 1), (65, .if_icmp .ne 7, 3), (68, .iconst (-1), 1), (69, .goto 13, 3), (72, .aload_n 0, 1), (73, .iload_n 1, 1), (74, .iload_n 2, 1), (75, .iload 4, 2), (77, .iconst 1, 1), (78, .isub, 1), (79, .invokevirtual 313, 3), (82, .istore 7, 2), (84, .iload 7, 2), (86, .iconst (-1), 1), (87, .if_icmp .ne 7, 3), (90, .iconst 0, 1), (91, .goto 20, 3), (94, .iload 6, 2), (96, .iload 7, 2), (98, .isub, 1), (99, .invokestatic 337, 3), (102, .iload 5, 2), (104, .iload 7, 2), (106, .isub, 1), (107, .invokestatic 337, 3), (110, .isub, 1), (111, .istore 8, 2), (113, .iload_n 3, 1)]
def tbX12_led_2 : List (Nat × Instr × Nat) := [(114, .iload_n 2, 1), (115, .iconst 3, 1), (116, .if_icmp .eq 21, 3), (119, .iload_n 2, 1), (120, .iconst 1, 1), (121, .if_icmp .ne 11, 3), (124, .iload 8, 2), (126, .ifCond .le 15, 3), (129, .goto 8, 3), (132, .iload 8, 2), (134, .ifCond .ge 7, 3), (137, .iconst 1, 1), (138, .goto 4, 3), (141, .iconst 0, 1), (142, .invokestatic 396, 3), (145, .iadd, 1), (146, .istore_n 3, 1), (147, .iinc 4 1, 3), (150, .goto (-126), 3), (153, .iload_n 3, 1), (154, .ireturn, 1)]
theorem tdX12_led_0 : hx_dt cX12_led tbX12_led_0 = true := by decide +kernel
theorem tdX12_led_1 : hx_dt cX12_led tbX12_led_1 = true := by decide +kernel
theorem tdX12_led_2 : hx_dt cX12_led tbX12_led_2 = true := by decide +kernel
theorem caX12_led_157 {G : hx_GT} (cA : hx_CA RX12 cX12_led 3 0 0 G) : hx_CS cX12_led G 0 0 157 3 sX12_isIn 0 0 := cA.2.1 conX12_isIn ⟨by decide +kernel, by decide +kernel, by decide +kernel⟩ mw_1343 mw_1344 mw_97 mw_1345 (by decide) (by decide)
theorem caX12_led_167 {G : hx_GT} (cA : hx_CA RX12 cX12_led 3 0 0 G) : hx_CV cX12_led G 0 0 167 12 1 sX12_isPerson 0 0 := cA.1 conX12_isPerson rfl rfl ⟨by decide +kernel, by decide +kernel, by decide +kernel⟩ mw_1350 mw_1352 mw_37 mw_97 mw_1353 (by decide) (by decide)
theorem caX12_led_302 {G : hx_GT} (cA : hx_CA RX12 cX12_led 3 0 0 G) : hx_CV cX12_led G 0 0 302 12 2 sX12_lengthAt 0 0 := cA.1 conX12_lengthAt rfl rfl ⟨by decide +kernel, by decide +kernel, by decide +kernel⟩ mw_1486 mw_1488 mw_54 mw_97 mw_1489 (by decide) (by decide)
theorem caX12_led_313 {G : hx_GT} (cA : hx_CA RX12 cX12_led 3 0 0 G) : hx_CV cX12_led G 0 0 313 12 3 sX12_meanOf 0 0 := cA.1 conX12_meanOf rfl rfl ⟨by decide +kernel, by decide +kernel, by decide +kernel⟩ mw_1494 mw_1496 mw_56 mw_97 mw_1497 (by decide) (by decide)
theorem caX12_led_396 {G : hx_GT} (cA : hx_CA RX12 cX12_led 3 0 0 G) : hx_CS cX12_led G 0 0 396 1 sX12_one 0 0 := cA.2.1 conX12_one ⟨by decide +kernel, by decide +kernel, by decide +kernel⟩ mw_1583 mw_1584 mw_97 mw_1585 (by decide) (by decide)
def wX12_led_J147 (μ : hx_M) (K : Int32 → Prop) (K24 : Int32 → Int32 → Prop) (v1 : Int32) (v2 : Int32) (v3 : Int32) (v4 : Int32)   : Prop := K24 v3 (v4 + 1)
set_option maxRecDepth 100000 in
set_option maxHeartbeats 4000000 in
theorem kX12_led_J147 {G : hx_GT} {KK : hx_KT} (hG : hx_K cX12_led 9 0 0 (some .int) TbX12 KK G) (cA : hx_CA RX12 cX12_led 3 0 0 G) {Λ : hx_L} (hF : mF Λ) {μ : hx_M} (v1 : Int32) (v2 : Int32) (v3 : Int32) (v4 : Int32)  {K : Int32 → Prop} (hK : ∀ (r : Int32), K r → KK (some (.int r)) Λ μ) {K24 : Int32 → Int32 → Prop} (hk24 : ∀ (v3 : Int32) (v4 : Int32), K24 v3 v4 → G Λ μ (0, 0) 24 [some (.ref 49), some (.int v1), some (.int v2), some (.int v3), some (.int v4), none, none, none, none] []) (hw : wX12_led_J147 μ K K24 v1 v2 v3 v4) : G Λ μ (0, 0) 147 [some (.ref 49), some (.int v1), some (.int v2), some (.int v3), some (.int v4), none, none, none, none] [] := by
  unfold wX12_led_J147 at hw
  exact cl_iinc hG (v4 + 1) (hx_dq tdX12_led_2 17 rfl) rfl (congrArg (fun z => v4 + z) iconst_1) (Nat.le_of_ble_eq_true rfl) rfl (cl_goto hG 24 (hx_dq tdX12_led_2 18 rfl) rfl (cl_sub hG (hx_le_c rfl (hx_le_c rfl (hx_le_c rfl (hx_le_c rfl (hx_le_c rfl (hx_le_n (hx_le_n (hx_le_n (hx_le_n hx_le_0))))))))) (hk24 v3 (v4 + 1) hw)))
def wX12_led_J142 (μ : hx_M) (K : Int32 → Prop) (K24 : Int32 → Int32 → Prop) (v1 : Int32) (v2 : Int32) (v4 : Int32) (t0 : Int32) (t1 : Int32)  : Prop := wX12_one t1 (fun r142_14 => wX12_led_J147 μ K (K24) v1 v2 (t0 + r142_14) v4)
set_option maxRecDepth 100000 in
set_option maxHeartbeats 4000000 in
theorem kX12_led_J142 {G : hx_GT} {KK : hx_KT} (hG : hx_K cX12_led 9 0 0 (some .int) TbX12 KK G) (cA : hx_CA RX12 cX12_led 3 0 0 G) {Λ : hx_L} (hF : mF Λ) {μ : hx_M} (v1 : Int32) (v2 : Int32) (v4 : Int32) (t0 : Int32) (t1 : Int32) {K : Int32 → Prop} (hK : ∀ (r : Int32), K r → KK (some (.int r)) Λ μ) {K24 : Int32 → Int32 → Prop} (hk24 : ∀ (v3 : Int32) (v4 : Int32), K24 v3 v4 → G Λ μ (0, 0) 24 [some (.ref 49), some (.int v1), some (.int v2), some (.int v3), some (.int v4), none, none, none, none] []) (hw : wX12_led_J142 μ K K24 v1 v2 v4 t0 t1) : G Λ μ (0, 0) 142 [some (.ref 49), some (.int v1), some (.int v2), none, some (.int v4), none, none, none, none] [.int t1, .int t0] := by
  unfold wX12_led_J142 at hw
  refine cl_callS1 (caX12_led_396 cA) (hx_dq tdX12_led_2 14 rfl) (Nat.le_of_ble_eq_true rfl) (Nat.le_refl _) (Nat.le_refl _) (sX12_one_mk hw (fun r142_14 hw => ?_))
  refine cl_iadd hG (hx_dq tdX12_led_2 15 rfl) (cl_istore_n hG (hx_dq tdX12_led_2 16 rfl) (Nat.le_of_ble_eq_true rfl) rfl ?_)
  exact cl_sub hG (hx_le_c rfl (hx_le_c rfl (hx_le_c rfl (hx_le_c rfl (hx_le_c rfl (hx_le_n (hx_le_n (hx_le_n (hx_le_n hx_le_0))))))))) (kX12_led_J147 hG cA hF v1 v2 (t0 + r142_14) v4 hK (fun z0 z1 hw => hk24 z0 z1 hw) hw)
def wX12_led_J137 (μ : hx_M) (K : Int32 → Prop) (K24 : Int32 → Int32 → Prop) (v1 : Int32) (v2 : Int32) (v4 : Int32) (t0 : Int32)  : Prop := wX12_led_J142 μ K (K24) v1 v2 v4 t0 1
set_option maxRecDepth 100000 in
set_option maxHeartbeats 4000000 in
theorem kX12_led_J137 {G : hx_GT} {KK : hx_KT} (hG : hx_K cX12_led 9 0 0 (some .int) TbX12 KK G) (cA : hx_CA RX12 cX12_led 3 0 0 G) {Λ : hx_L} (hF : mF Λ) {μ : hx_M} (v1 : Int32) (v2 : Int32) (v4 : Int32) (t0 : Int32) {K : Int32 → Prop} (hK : ∀ (r : Int32), K r → KK (some (.int r)) Λ μ) {K24 : Int32 → Int32 → Prop} (hk24 : ∀ (v3 : Int32) (v4 : Int32), K24 v3 v4 → G Λ μ (0, 0) 24 [some (.ref 49), some (.int v1), some (.int v2), some (.int v3), some (.int v4), none, none, none, none] []) (hw : wX12_led_J137 μ K K24 v1 v2 v4 t0) : G Λ μ (0, 0) 137 [some (.ref 49), some (.int v1), some (.int v2), none, some (.int v4), none, none, none, none] [.int t0] := by
  unfold wX12_led_J137 at hw
  refine cl_iconst hG 1 (hx_dq tdX12_led_2 11 rfl) iconst_1 (cl_goto hG 142 (hx_dq tdX12_led_2 12 rfl) rfl ?_)
  exact cl_sub hG (hx_le_c rfl (hx_le_c rfl (hx_le_c rfl (hx_le_n (hx_le_c rfl (hx_le_n (hx_le_n (hx_le_n (hx_le_n hx_le_0))))))))) (kX12_led_J142 hG cA hF v1 v2 v4 t0 1 hK (fun z0 z1 hw => hk24 z0 z1 hw) hw)
def wX12_led_J147_18 (μ : hx_M) (K : Int32 → Prop) (K24 : Int32 → Int32 → Prop) (v1 : Int32) (v2 : Int32) (v3 : Int32) (v4 : Int32)   : Prop := K24 v3 (v4 + 1)
set_option maxRecDepth 100000 in
set_option maxHeartbeats 4000000 in
theorem kX12_led_J147_18 {G : hx_GT} {KK : hx_KT} (hG : hx_K cX12_led 9 0 0 (some .int) TbX12 KK G) (cA : hx_CA RX12 cX12_led 3 0 0 G) {Λ : hx_L} (hF : mF Λ) {μ : hx_M} (v1 : Int32) (v2 : Int32) (v3 : Int32) (v4 : Int32)  {K : Int32 → Prop} (hK : ∀ (r : Int32), K r → KK (some (.int r)) Λ μ) {K24 : Int32 → Int32 → Prop} (hk24 : ∀ (v3 : Int32) (v4 : Int32), K24 v3 v4 → G Λ μ (0, 0) 24 [some (.ref 49), some (.int v1), some (.int v2), some (.int v3), some (.int v4), none, none, none, none] []) (hw : wX12_led_J147_18 μ K K24 v1 v2 v3 v4) : G Λ μ (0, 0) 147 [some (.ref 49), some (.int v1), some (.int v2), some (.int v3), some (.int v4), none, none, none, none] [] := by
  unfold wX12_led_J147_18 at hw
  exact cl_iinc hG (v4 + 1) (hx_dq tdX12_led_2 17 rfl) rfl (congrArg (fun z => v4 + z) iconst_1) (Nat.le_of_ble_eq_true rfl) rfl (cl_goto hG 24 (hx_dq tdX12_led_2 18 rfl) rfl (cl_sub hG (hx_le_c rfl (hx_le_c rfl (hx_le_c rfl (hx_le_c rfl (hx_le_c rfl (hx_le_n (hx_le_n (hx_le_n (hx_le_n hx_le_0))))))))) (hk24 v3 (v4 + 1) hw)))
def wX12_led_J142_15 (μ : hx_M) (K : Int32 → Prop) (K24 : Int32 → Int32 → Prop) (v1 : Int32) (v2 : Int32) (v4 : Int32) (t0 : Int32) (t1 : Int32)  : Prop := wX12_one t1 (fun r142_17 => wX12_led_J147_18 μ K (K24) v1 v2 (t0 + r142_17) v4)
set_option maxRecDepth 100000 in
set_option maxHeartbeats 4000000 in
theorem kX12_led_J142_15 {G : hx_GT} {KK : hx_KT} (hG : hx_K cX12_led 9 0 0 (some .int) TbX12 KK G) (cA : hx_CA RX12 cX12_led 3 0 0 G) {Λ : hx_L} (hF : mF Λ) {μ : hx_M} (v1 : Int32) (v2 : Int32) (v4 : Int32) (t0 : Int32) (t1 : Int32) {K : Int32 → Prop} (hK : ∀ (r : Int32), K r → KK (some (.int r)) Λ μ) {K24 : Int32 → Int32 → Prop} (hk24 : ∀ (v3 : Int32) (v4 : Int32), K24 v3 v4 → G Λ μ (0, 0) 24 [some (.ref 49), some (.int v1), some (.int v2), some (.int v3), some (.int v4), none, none, none, none] []) (hw : wX12_led_J142_15 μ K K24 v1 v2 v4 t0 t1) : G Λ μ (0, 0) 142 [some (.ref 49), some (.int v1), some (.int v2), none, some (.int v4), none, none, none, none] [.int t1, .int t0] := by
  unfold wX12_led_J142_15 at hw
  refine cl_callS1 (caX12_led_396 cA) (hx_dq tdX12_led_2 14 rfl) (Nat.le_of_ble_eq_true rfl) (Nat.le_refl _) (Nat.le_refl _) (sX12_one_mk hw (fun r142_17 hw => ?_))
  refine cl_iadd hG (hx_dq tdX12_led_2 15 rfl) (cl_istore_n hG (hx_dq tdX12_led_2 16 rfl) (Nat.le_of_ble_eq_true rfl) rfl ?_)
  exact cl_sub hG (hx_le_c rfl (hx_le_c rfl (hx_le_c rfl (hx_le_c rfl (hx_le_c rfl (hx_le_n (hx_le_n (hx_le_n (hx_le_n hx_le_0))))))))) (kX12_led_J147_18 hG cA hF v1 v2 (t0 + r142_17) v4 hK (fun z0 z1 hw => hk24 z0 z1 hw) hw)
def wX12_led_J141 (μ : hx_M) (K : Int32 → Prop) (K24 : Int32 → Int32 → Prop) (v1 : Int32) (v2 : Int32) (v4 : Int32) (t0 : Int32)  : Prop := wX12_led_J142_15 μ K (K24) v1 v2 v4 t0 0
set_option maxRecDepth 100000 in
set_option maxHeartbeats 4000000 in
theorem kX12_led_J141 {G : hx_GT} {KK : hx_KT} (hG : hx_K cX12_led 9 0 0 (some .int) TbX12 KK G) (cA : hx_CA RX12 cX12_led 3 0 0 G) {Λ : hx_L} (hF : mF Λ) {μ : hx_M} (v1 : Int32) (v2 : Int32) (v4 : Int32) (t0 : Int32) {K : Int32 → Prop} (hK : ∀ (r : Int32), K r → KK (some (.int r)) Λ μ) {K24 : Int32 → Int32 → Prop} (hk24 : ∀ (v3 : Int32) (v4 : Int32), K24 v3 v4 → G Λ μ (0, 0) 24 [some (.ref 49), some (.int v1), some (.int v2), some (.int v3), some (.int v4), none, none, none, none] []) (hw : wX12_led_J141 μ K K24 v1 v2 v4 t0) : G Λ μ (0, 0) 141 [some (.ref 49), some (.int v1), some (.int v2), none, some (.int v4), none, none, none, none] [.int t0] := by
  unfold wX12_led_J141 at hw
  refine cl_iconst hG 0 (hx_dq tdX12_led_2 13 rfl) iconst_0 ?_
  exact cl_sub hG (hx_le_c rfl (hx_le_c rfl (hx_le_c rfl (hx_le_n (hx_le_c rfl (hx_le_n (hx_le_n (hx_le_n (hx_le_n hx_le_0))))))))) (kX12_led_J142_15 hG cA hF v1 v2 v4 t0 0 hK (fun z0 z1 hw => hk24 z0 z1 hw) hw)
def wX12_led_J111 (μ : hx_M) (K : Int32 → Prop) (K24 : Int32 → Int32 → Prop) (v1 : Int32) (v2 : Int32) (v3 : Int32) (v4 : Int32) (t0 : Int32)  : Prop := (v2 = 3 → (wX12_led_J137 μ K (K24) v1 v2 v4 v3)) ∧ (¬ (v2 = 3) → ((v2 ≠ 1 → ((0 ≤ t0 → (wX12_led_J141 μ K (K24) v1 v2 v4 v3)) ∧ (¬ (0 ≤ t0) → (wX12_led_J137 μ K (K24) v1 v2 v4 v3)))) ∧ (v2 = 1 → ((t0 ≤ 0 → (wX12_led_J141 μ K (K24) v1 v2 v4 v3)) ∧ (¬ (t0 ≤ 0) → (wX12_led_J137 μ K (K24) v1 v2 v4 v3))))))
set_option maxRecDepth 100000 in
set_option maxHeartbeats 4000000 in
theorem kX12_led_J111 {G : hx_GT} {KK : hx_KT} (hG : hx_K cX12_led 9 0 0 (some .int) TbX12 KK G) (cA : hx_CA RX12 cX12_led 3 0 0 G) {Λ : hx_L} (hF : mF Λ) {μ : hx_M} (v1 : Int32) (v2 : Int32) (v3 : Int32) (v4 : Int32) (t0 : Int32) {K : Int32 → Prop} (hK : ∀ (r : Int32), K r → KK (some (.int r)) Λ μ) {K24 : Int32 → Int32 → Prop} (hk24 : ∀ (v3 : Int32) (v4 : Int32), K24 v3 v4 → G Λ μ (0, 0) 24 [some (.ref 49), some (.int v1), some (.int v2), some (.int v3), some (.int v4), none, none, none, none] []) (hw : wX12_led_J111 μ K K24 v1 v2 v3 v4 t0) : G Λ μ (0, 0) 111 [some (.ref 49), some (.int v1), some (.int v2), some (.int v3), some (.int v4), none, none, none, none] [.int t0] := by
  unfold wX12_led_J111 at hw
  refine cl_istore hG (hx_dq tdX12_led_1 30 rfl) (Nat.le_of_ble_eq_true rfl) rfl (cl_iload_n hG (hx_dq tdX12_led_1 31 rfl) rfl (cl_iload_n hG (hx_dq tdX12_led_2 0 rfl) rfl (cl_iconst hG 3 (hx_dq tdX12_led_2 1 rfl) iconst_3 (cl_icmp_eq hG 137 (hx_dq tdX12_led_2 2 rfl) rfl (fun c116 => ?_) (fun c116 => ?_)))))
  · replace hw := hw.1 c116
    exact cl_sub hG (hx_le_c rfl (hx_le_c rfl (hx_le_c rfl (hx_le_n (hx_le_c rfl (hx_le_n (hx_le_n (hx_le_n (hx_le_n hx_le_0))))))))) (kX12_led_J137 hG cA hF v1 v2 v4 v3 hK (fun z0 z1 hw => hk24 z0 z1 hw) hw)
  · replace hw := hw.2 c116
    refine cl_iload_n hG (hx_dq tdX12_led_2 3 rfl) rfl (cl_iconst hG 1 (hx_dq tdX12_led_2 4 rfl) iconst_1 (cl_icmp_ne hG 132 (hx_dq tdX12_led_2 5 rfl) rfl (fun c121 => ?_) (fun c121 => ?_)))
    · replace hw := hw.1 c121
      refine cl_iload hG (hx_dq tdX12_led_2 9 rfl) rfl (cl_if_ge hG 141 (hx_dq tdX12_led_2 10 rfl) rfl (fun c134 => ?_) (fun c134 => ?_))
      · replace hw := hw.1 c134
        exact cl_sub hG (hx_le_c rfl (hx_le_c rfl (hx_le_c rfl (hx_le_n (hx_le_c rfl (hx_le_n (hx_le_n (hx_le_n (hx_le_n hx_le_0))))))))) (kX12_led_J141 hG cA hF v1 v2 v4 v3 hK (fun z0 z1 hw => hk24 z0 z1 hw) hw)
      · replace hw := hw.2 c134
        exact cl_sub hG (hx_le_c rfl (hx_le_c rfl (hx_le_c rfl (hx_le_n (hx_le_c rfl (hx_le_n (hx_le_n (hx_le_n (hx_le_n hx_le_0))))))))) (kX12_led_J137 hG cA hF v1 v2 v4 v3 hK (fun z0 z1 hw => hk24 z0 z1 hw) hw)
    · replace hw := hw.2 c121
      refine cl_iload hG (hx_dq tdX12_led_2 6 rfl) rfl (cl_if_le hG 141 (hx_dq tdX12_led_2 7 rfl) rfl (fun c126 => ?_) (fun c126 => ?_))
      · replace hw := hw.1 c126
        exact cl_sub hG (hx_le_c rfl (hx_le_c rfl (hx_le_c rfl (hx_le_n (hx_le_c rfl (hx_le_n (hx_le_n (hx_le_n (hx_le_n hx_le_0))))))))) (kX12_led_J141 hG cA hF v1 v2 v4 v3 hK (fun z0 z1 hw => hk24 z0 z1 hw) hw)
      · replace hw := hw.2 c126
        refine cl_goto hG 137 (hx_dq tdX12_led_2 8 rfl) rfl ?_
        exact cl_sub hG (hx_le_c rfl (hx_le_c rfl (hx_le_c rfl (hx_le_n (hx_le_c rfl (hx_le_n (hx_le_n (hx_le_n (hx_le_n hx_le_0))))))))) (kX12_led_J137 hG cA hF v1 v2 v4 v3 hK (fun z0 z1 hw => hk24 z0 z1 hw) hw)
def wX12_led_J82 (μ : hx_M) (K : Int32 → Prop) (K24 : Int32 → Int32 → Prop) (v1 : Int32) (v2 : Int32) (v3 : Int32) (v4 : Int32) (v5 : Int32) (v6 : Int32) (t0 : Int32)  : Prop := (t0 ≠ (-1) → (∀ x_11 : Int32, x_11 = (if 0 ≤ (v6 - t0) then (v6 - t0) else 0 - (v6 - t0)) → ∀ x_12 : Int32, x_12 = (if 0 ≤ (v5 - t0) then (v5 - t0) else 0 - (v5 - t0)) → wX12_led_J111 μ K (K24) v1 v2 v3 v4 (x_11 - x_12))) ∧ (t0 = (-1) → (wX12_led_J111 μ K (K24) v1 v2 v3 v4 0))
set_option maxRecDepth 100000 in
set_option maxHeartbeats 4000000 in
theorem kX12_led_J82 {G : hx_GT} {KK : hx_KT} (hG : hx_K cX12_led 9 0 0 (some .int) TbX12 KK G) (cA : hx_CA RX12 cX12_led 3 0 0 G) {Λ : hx_L} (hF : mF Λ) {μ : hx_M} (v1 : Int32) (v2 : Int32) (v3 : Int32) (v4 : Int32) (v5 : Int32) (v6 : Int32) (t0 : Int32) {K : Int32 → Prop} (hK : ∀ (r : Int32), K r → KK (some (.int r)) Λ μ) {K24 : Int32 → Int32 → Prop} (hk24 : ∀ (v3 : Int32) (v4 : Int32), K24 v3 v4 → G Λ μ (0, 0) 24 [some (.ref 49), some (.int v1), some (.int v2), some (.int v3), some (.int v4), none, none, none, none] []) (hw : wX12_led_J82 μ K K24 v1 v2 v3 v4 v5 v6 t0) : G Λ μ (0, 0) 82 [some (.ref 49), some (.int v1), some (.int v2), some (.int v3), some (.int v4), some (.int v5), some (.int v6), none, none] [.int t0] := by
  unfold wX12_led_J82 at hw
  refine cl_istore hG (hx_dq tdX12_led_1 15 rfl) (Nat.le_of_ble_eq_true rfl) rfl (cl_iload hG (hx_dq tdX12_led_1 16 rfl) rfl (cl_iconst hG (-1) (hx_dq tdX12_led_1 17 rfl) iconst_m1 (cl_icmp_ne hG 94 (hx_dq tdX12_led_1 18 rfl) rfl (fun c87 => ?_) (fun c87 => ?_))))
  · replace hw := hw.1 c87
    refine cl_iload hG (hx_dq tdX12_led_1 21 rfl) rfl (cl_iload hG (hx_dq tdX12_led_1 22 rfl) rfl (cl_isub hG (hx_dq tdX12_led_1 23 rfl) (cl_mabs hG mmX12_337 (hx_dq tdX12_led_1 24 rfl) (Nat.le_refl _) (Nat.le_refl _) (Nat.le_of_ble_eq_true rfl) (cl_nmI (fun x_11 e_11 => ?_)))))
    replace hw := hw x_11 e_11
    refine cl_iload hG (hx_dq tdX12_led_1 25 rfl) rfl (cl_iload hG (hx_dq tdX12_led_1 26 rfl) rfl (cl_isub hG (hx_dq tdX12_led_1 27 rfl) (cl_mabs hG mmX12_337 (hx_dq tdX12_led_1 28 rfl) (Nat.le_refl _) (Nat.le_refl _) (Nat.le_of_ble_eq_true rfl) (cl_nmI (fun x_12 e_12 => ?_)))))
    replace hw := hw x_12 e_12
    refine cl_isub hG (hx_dq tdX12_led_1 29 rfl) ?_
    exact cl_sub hG (hx_le_c rfl (hx_le_c rfl (hx_le_c rfl (hx_le_c rfl (hx_le_c rfl (hx_le_n (hx_le_n (hx_le_n (hx_le_n hx_le_0))))))))) (kX12_led_J111 hG cA hF v1 v2 v3 v4 (x_11 - x_12) hK (fun z0 z1 hw => hk24 z0 z1 hw) hw)
  · replace hw := hw.2 c87
    refine cl_iconst hG 0 (hx_dq tdX12_led_1 19 rfl) iconst_0 (cl_goto hG 111 (hx_dq tdX12_led_1 20 rfl) rfl ?_)
    exact cl_sub hG (hx_le_c rfl (hx_le_c rfl (hx_le_c rfl (hx_le_c rfl (hx_le_c rfl (hx_le_n (hx_le_n (hx_le_n (hx_le_n hx_le_0))))))))) (kX12_led_J111 hG cA hF v1 v2 v3 v4 0 hK (fun z0 z1 hw => hk24 z0 z1 hw) hw)
def wX12_led_J147_19 (μ : hx_M) (K : Int32 → Prop) (K24 : Int32 → Int32 → Prop) (v1 : Int32) (v2 : Int32) (v3 : Int32) (v4 : Int32)   : Prop := K24 v3 (v4 + 1)
set_option maxRecDepth 100000 in
set_option maxHeartbeats 4000000 in
theorem kX12_led_J147_19 {G : hx_GT} {KK : hx_KT} (hG : hx_K cX12_led 9 0 0 (some .int) TbX12 KK G) (cA : hx_CA RX12 cX12_led 3 0 0 G) {Λ : hx_L} (hF : mF Λ) {μ : hx_M} (v1 : Int32) (v2 : Int32) (v3 : Int32) (v4 : Int32)  {K : Int32 → Prop} (hK : ∀ (r : Int32), K r → KK (some (.int r)) Λ μ) {K24 : Int32 → Int32 → Prop} (hk24 : ∀ (v3 : Int32) (v4 : Int32), K24 v3 v4 → G Λ μ (0, 0) 24 [some (.ref 49), some (.int v1), some (.int v2), some (.int v3), some (.int v4), none, none, none, none] []) (hw : wX12_led_J147_19 μ K K24 v1 v2 v3 v4) : G Λ μ (0, 0) 147 [some (.ref 49), some (.int v1), some (.int v2), some (.int v3), some (.int v4), none, none, none, none] [] := by
  unfold wX12_led_J147_19 at hw
  exact cl_iinc hG (v4 + 1) (hx_dq tdX12_led_2 17 rfl) rfl (congrArg (fun z => v4 + z) iconst_1) (Nat.le_of_ble_eq_true rfl) rfl (cl_goto hG 24 (hx_dq tdX12_led_2 18 rfl) rfl (cl_sub hG (hx_le_c rfl (hx_le_c rfl (hx_le_c rfl (hx_le_c rfl (hx_le_c rfl (hx_le_n (hx_le_n (hx_le_n (hx_le_n hx_le_0))))))))) (hk24 v3 (v4 + 1) hw)))
def wX12_led_L24 (μ : hx_M) (v1 : Int32) (v2 : Int32) (K : Int32 → Prop)  : Nat → Int32 → Int32 → Prop
  | 0, _, _ => False
  | n + 1, v3, v4 => ((μ.1 49 1) < v4 → (K v3)) ∧ (¬ ((μ.1 49 1) < v4) → (wX12_lengthAt μ v1 (v4 - 1) (fun r39_6 => wX12_lengthAt μ v1 v4 (fun r48_8 => (r39_6 ≠ r48_8 → ((v2 ≠ 3 → (wX12_meanOf μ v1 v2 (v4 - 1) (fun r79_10 => wX12_led_J82 μ K (wX12_led_L24 μ v1 v2 K n) v1 v2 v3 v4 r39_6 r48_8 r79_10))) ∧ (v2 = 3 → (wX12_led_J82 μ K (wX12_led_L24 μ v1 v2 K n) v1 v2 v3 v4 r39_6 r48_8 (-1))))) ∧ (r39_6 = r48_8 → (wX12_led_J147_19 μ K (wX12_led_L24 μ v1 v2 K n) v1 v2 v3 v4))))))
set_option maxRecDepth 100000 in
set_option maxHeartbeats 4000000 in
theorem kX12_led_L24 {G : hx_GT} {KK : hx_KT} (hG : hx_K cX12_led 9 0 0 (some .int) TbX12 KK G) (cA : hx_CA RX12 cX12_led 3 0 0 G) {Λ : hx_L} (hF : mF Λ) {μ : hx_M} (v1 : Int32) (v2 : Int32) {K : Int32 → Prop} (hK : ∀ (r : Int32), K r → KK (some (.int r)) Λ μ)  : ∀ (n : Nat) (v3 : Int32) (v4 : Int32), wX12_led_L24 μ v1 v2 K n v3 v4 → G Λ μ (0, 0) 24 [some (.ref 49), some (.int v1), some (.int v2), some (.int v3), some (.int v4), none, none, none, none] [] := by
  intro n
  induction n with
  | zero =>
    intro v3 v4 hw
    exact False.elim (by simpa only [wX12_led_L24] using hw)
  | succ n ih =>
    intro v3 v4 hw
    unfold wX12_led_L24 at hw
    refine cl_iload hG (hx_dq tdX12_led_0 15 rfl) rfl (cl_aload_n hG (hx_dq tdX12_led_0 16 rfl) rfl (cl_getI hG fmX12_161 (hx_dq tdX12_led_0 17 rfl) (mF_S49 hF) (cl_icmp_gt hG 153 (hx_dq tdX12_led_0 18 rfl) rfl (fun c30 => ?_) (fun c30 => ?_))))
    · replace hw := hw.1 c30
      exact cl_iload_n hG (hx_dq tdX12_led_2 19 rfl) rfl (cl_iret hG (hx_dq tdX12_led_2 20 rfl) rfl rfl (hK _ hw) (Nat.le_refl _) (Nat.le_refl _))
    · replace hw := hw.2 c30
      refine cl_aload_n hG (hx_dq tdX12_led_0 19 rfl) rfl (cl_iload_n hG (hx_dq tdX12_led_0 20 rfl) rfl (cl_iload hG (hx_dq tdX12_led_0 21 rfl) rfl (cl_iconst hG 1 (hx_dq tdX12_led_0 22 rfl) iconst_1 (cl_isub hG (hx_dq tdX12_led_0 23 rfl) (cl_callV2 (caX12_led_302 cA) (hx_dq tdX12_led_0 24 rfl) (mF_S49 hF) (Nat.le_of_ble_eq_true rfl) (Nat.le_refl _) (Nat.le_refl _) (sX12_lengthAt_mk hF hw (fun r39_6 hw => ?_)))))))
      refine cl_istore hG (hx_dq tdX12_led_0 25 rfl) (Nat.le_of_ble_eq_true rfl) rfl (cl_aload_n hG (hx_dq tdX12_led_0 26 rfl) rfl (cl_iload_n hG (hx_dq tdX12_led_0 27 rfl) rfl (cl_iload hG (hx_dq tdX12_led_0 28 rfl) rfl (cl_callV2 (caX12_led_302 cA) (hx_dq tdX12_led_0 29 rfl) (mF_S49 hF) (Nat.le_of_ble_eq_true rfl) (Nat.le_refl _) (Nat.le_refl _) (sX12_lengthAt_mk hF hw (fun r48_8 hw => ?_))))))
      refine cl_istore hG (hx_dq tdX12_led_0 30 rfl) (Nat.le_of_ble_eq_true rfl) rfl (cl_iload hG (hx_dq tdX12_led_0 31 rfl) rfl (cl_iload hG (hx_dq tdX12_led_1 0 rfl) rfl (cl_icmp_ne hG 63 (hx_dq tdX12_led_1 1 rfl) rfl (fun c57 => ?_) (fun c57 => ?_))))
      · replace hw := hw.1 c57
        refine cl_iload_n hG (hx_dq tdX12_led_1 3 rfl) rfl (cl_iconst hG 3 (hx_dq tdX12_led_1 4 rfl) iconst_3 (cl_icmp_ne hG 72 (hx_dq tdX12_led_1 5 rfl) rfl (fun c65 => ?_) (fun c65 => ?_)))
        · replace hw := hw.1 c65
          refine cl_aload_n hG (hx_dq tdX12_led_1 8 rfl) rfl (cl_iload_n hG (hx_dq tdX12_led_1 9 rfl) rfl (cl_iload_n hG (hx_dq tdX12_led_1 10 rfl) rfl (cl_iload hG (hx_dq tdX12_led_1 11 rfl) rfl (cl_iconst hG 1 (hx_dq tdX12_led_1 12 rfl) iconst_1 (cl_isub hG (hx_dq tdX12_led_1 13 rfl) (cl_callV3 (caX12_led_313 cA) (hx_dq tdX12_led_1 14 rfl) (mF_S49 hF) (Nat.le_of_ble_eq_true rfl) (Nat.le_refl _) (Nat.le_refl _) (sX12_meanOf_mk hF hw (fun r79_10 hw => ?_))))))))
          exact cl_sub hG (hx_le_c rfl (hx_le_c rfl (hx_le_c rfl (hx_le_c rfl (hx_le_c rfl (hx_le_c rfl (hx_le_c rfl (hx_le_n (hx_le_n hx_le_0))))))))) (kX12_led_J82 hG cA hF v1 v2 v3 v4 r39_6 r48_8 r79_10 hK (fun z0 z1 hw => ih z0 z1 hw) hw)
        · replace hw := hw.2 c65
          refine cl_iconst hG (-1) (hx_dq tdX12_led_1 6 rfl) iconst_m1 (cl_goto hG 82 (hx_dq tdX12_led_1 7 rfl) rfl ?_)
          exact cl_sub hG (hx_le_c rfl (hx_le_c rfl (hx_le_c rfl (hx_le_c rfl (hx_le_c rfl (hx_le_c rfl (hx_le_c rfl (hx_le_n (hx_le_n hx_le_0))))))))) (kX12_led_J82 hG cA hF v1 v2 v3 v4 r39_6 r48_8 (-1) hK (fun z0 z1 hw => ih z0 z1 hw) hw)
      · replace hw := hw.2 c57
        refine cl_goto hG 147 (hx_dq tdX12_led_1 2 rfl) rfl ?_
        exact cl_sub hG (hx_le_c rfl (hx_le_c rfl (hx_le_c rfl (hx_le_c rfl (hx_le_c rfl (hx_le_n (hx_le_n (hx_le_n (hx_le_n hx_le_0))))))))) (kX12_led_J147_19 hG cA hF v1 v2 v3 v4 hK (fun z0 z1 hw => ih z0 z1 hw) hw)
def wX12_led (μ : hx_M) (v1 : Int32) (v2 : Int32) (K : Int32 → Prop) : Prop := wX12_isPerson μ v1 (fun r2_2 => (r2_2 = 0 → (K (-1))) ∧ (¬ (r2_2 = 0) → (wX12_isIn v2 0 3 (fun r11_4 => (r11_4 ≠ 0 → (∃ n24_20, wX12_led_L24 μ v1 v2 K n24_20 0 1)) ∧ (r11_4 = 0 → (K (-1)))))))
set_option maxRecDepth 100000 in
set_option maxHeartbeats 4000000 in
theorem kX12_led {G : hx_GT} {KK : hx_KT} (hG : hx_K cX12_led 9 0 0 (some .int) TbX12 KK G) (cA : hx_CA RX12 cX12_led 3 0 0 G) {Λ : hx_L} (hF : mF Λ) {μ : hx_M} (v1 : Int32) (v2 : Int32) {K : Int32 → Prop} (hK : ∀ (r : Int32), K r → KK (some (.int r)) Λ μ) (hw : wX12_led μ v1 v2 K) : G Λ μ (0, 0) 0 [some (.ref 49), some (.int v1), some (.int v2), none, none, none, none, none, none] [] := by
  unfold wX12_led at hw
  refine cl_aload_n hG (hx_dq tdX12_led_0 0 rfl) rfl (cl_iload_n hG (hx_dq tdX12_led_0 1 rfl) rfl (cl_callV1 (caX12_led_167 cA) (hx_dq tdX12_led_0 2 rfl) (mF_S49 hF) (Nat.le_of_ble_eq_true rfl) (Nat.le_refl _) (Nat.le_refl _) (sX12_isPerson_mk hF hw (fun r2_2 hw => ?_))))
  refine cl_if_eq hG 17 (hx_dq tdX12_led_0 3 rfl) rfl (fun c5 => ?_) (fun c5 => ?_)
  · replace hw := hw.1 c5
    exact cl_iconst hG (-1) (hx_dq tdX12_led_0 9 rfl) iconst_m1 (cl_iret hG (hx_dq tdX12_led_0 10 rfl) rfl rfl (hK _ hw) (Nat.le_refl _) (Nat.le_refl _))
  · replace hw := hw.2 c5
    refine cl_iload_n hG (hx_dq tdX12_led_0 4 rfl) rfl (cl_iconst hG 0 (hx_dq tdX12_led_0 5 rfl) iconst_0 (cl_iconst hG 3 (hx_dq tdX12_led_0 6 rfl) iconst_3 (cl_callS3 (caX12_led_157 cA) (hx_dq tdX12_led_0 7 rfl) (Nat.le_of_ble_eq_true rfl) (Nat.le_refl _) (Nat.le_refl _) (sX12_isIn_mk hw (fun r11_4 hw => ?_)))))
    refine cl_if_ne hG 19 (hx_dq tdX12_led_0 8 rfl) rfl (fun c14 => ?_) (fun c14 => ?_)
    · replace hw := hw.1 c14
      refine cl_iconst hG 0 (hx_dq tdX12_led_0 11 rfl) iconst_0 (cl_istore_n hG (hx_dq tdX12_led_0 12 rfl) (Nat.le_of_ble_eq_true rfl) rfl (cl_iconst hG 1 (hx_dq tdX12_led_0 13 rfl) iconst_1 (cl_istore hG (hx_dq tdX12_led_0 14 rfl) (Nat.le_of_ble_eq_true rfl) rfl ?_)))
      obtain ⟨n_, hw⟩ := hw
      refine cl_sub hG (hx_le_c rfl (hx_le_c rfl (hx_le_c rfl (hx_le_c rfl (hx_le_c rfl (hx_le_n (hx_le_n (hx_le_n (hx_le_n hx_le_0))))))))) (kX12_led_L24 hG cA hF v1 v2 hK n_ 0 1 hw)
    · replace hw := hw.2 c14
      exact cl_iconst hG (-1) (hx_dq tdX12_led_0 9 rfl) iconst_m1 (cl_iret hG (hx_dq tdX12_led_0 10 rfl) rfl rfl (hK _ hw) (Nat.le_refl _) (Nat.le_refl _))
def sX12_led : hx_ST := fun Λ μ as KK => mF Λ ∧ ∃ (v1 : Int32) (v2 : Int32) (K : Int32 → Prop), as = [.ref 49, .int v1, .int v2] ∧ wX12_led μ v1 v2 K ∧ (∀ (r : Int32), K r → KK (some (.int r)) Λ μ)
theorem sX12_led_mk {Λ : hx_L} {μ : hx_M} {KK : hx_KT} {v1 : Int32} {v2 : Int32} {K : Int32 → Prop} (hF : mF Λ) (hw : wX12_led μ v1 v2 K) (hk : ∀ (r : Int32), K r → KK (some (.int r)) Λ μ) : sX12_led Λ μ [.ref 49, .int v1, .int v2] KK := ⟨hF, _, _, _, rfl, hw, hk⟩
theorem conX12_led : hx_Con yX12_led cX12_led 9 (some .int) 3 0 0 sX12_led := by
  refine hx_con_of (by decide +kernel) tokX12 (by decide) ?_ ?_
  · intro Λ μ as KK h
    obtain ⟨hF, v1, v2, K, rfl, hw, hK⟩ := h
    exact Nat.le_of_ble_eq_true rfl
  · intro G KK hG cA Λ μ as h
    obtain ⟨hF, v1, v2, K, rfl, hw, hK⟩ := h
    exact cl_sub hG (hx_le_c rfl (hx_le_c rfl (hx_le_c rfl (hx_le_n (hx_le_n (hx_le_n (hx_le_n (hx_le_n (hx_le_n hx_le_0))))))))) (kX12_led hG cA hF _ _ hK hw)
/-! HemLineModel.isAlone(III)Z -/
def tbX12_isAlone_0 : List (Nat × Instr × Nat) := [(0, .iconst 1, 1), (1, .istore 4, 2), (3, .iconst 0, 1), (4, .istore 5, 2), (6, .iload 5, 2), (8, .aload_n 0, 1), (9, .getfield 154, 3), (12, .if_icmp .ge 48, 3), (15, .iload 4, 2), (17, .ifCond .eq 34, 3), (20, .iload 5, 2), (22, .iload_n 1, 1), (23, .if_icmp .eq 24, 3), (26, .aload_n 0, 1), (27, .iload 5, 2), (29, .iload_n 2, 1), (30, .invokevirtual 302, 3), (33, .aload_n 0, 1), (34, .iload_n 1, 1), (35, .iload_n 2, 1), (36, .invokevirtual 302, 3), (39, .isub, 1), (40, .invokestatic 337, 3), (43, .iload_n 3, 1), (44, .if_icmp .lt 7, 3), (47, .iconst 1, 1), (48, .goto 4, 3), (51, .iconst 0, 1), (52, .istore 4, 2), (54, .iinc 5 1, 3), (57, .goto (-51), 3), (60, .iload 4, 2)]
def tbX12_isAlone_1 : List (Nat × Instr × Nat) := [(62, .ireturn, 1)]
theorem tdX12_isAlone_0 : hx_dt cX12_isAlone tbX12_isAlone_0 = true := by decide +kernel
theorem tdX12_isAlone_1 : hx_dt cX12_isAlone tbX12_isAlone_1 = true := by decide +kernel
theorem caX12_isAlone_302 {G : hx_GT} (cA : hx_CA RX12 cX12_isAlone 2 0 0 G) : hx_CV cX12_isAlone G 0 0 302 12 2 sX12_lengthAt 0 0 := cA.1 conX12_lengthAt rfl rfl ⟨by decide +kernel, by decide +kernel, by decide +kernel⟩ mw_1486 mw_1488 mw_54 mw_97 mw_1489 (by decide) (by decide)
def wX12_isAlone_J52 (μ : hx_M) (K : Int32 → Prop) (K6 : Int32 → Int32 → Prop) (v1 : Int32) (v2 : Int32) (v3 : Int32) (v5 : Int32) (t0 : Int32)  : Prop := K6 t0 (v5 + 1)
set_option maxRecDepth 100000 in
set_option maxHeartbeats 4000000 in
theorem kX12_isAlone_J52 {G : hx_GT} {KK : hx_KT} (hG : hx_K cX12_isAlone 6 0 0 (some .boolean) TbX12 KK G) (cA : hx_CA RX12 cX12_isAlone 2 0 0 G) {Λ : hx_L} (hF : mF Λ) {μ : hx_M} (v1 : Int32) (v2 : Int32) (v3 : Int32) (v5 : Int32) (t0 : Int32) {K : Int32 → Prop} (hK : ∀ (r : Int32), K r → KK (some (.int r)) Λ μ) {K6 : Int32 → Int32 → Prop} (hk6 : ∀ (v4 : Int32) (v5 : Int32), K6 v4 v5 → G Λ μ (0, 0) 6 [some (.ref 49), some (.int v1), some (.int v2), some (.int v3), some (.int v4), some (.int v5)] []) (hw : wX12_isAlone_J52 μ K K6 v1 v2 v3 v5 t0) : G Λ μ (0, 0) 52 [some (.ref 49), some (.int v1), some (.int v2), some (.int v3), none, some (.int v5)] [.int t0] := by
  unfold wX12_isAlone_J52 at hw
  exact cl_istore hG (hx_dq tdX12_isAlone_0 28 rfl) (Nat.le_of_ble_eq_true rfl) rfl (cl_iinc hG (v5 + 1) (hx_dq tdX12_isAlone_0 29 rfl) rfl (congrArg (fun z => v5 + z) iconst_1) (Nat.le_of_ble_eq_true rfl) rfl (cl_goto hG 6 (hx_dq tdX12_isAlone_0 30 rfl) rfl (cl_sub hG (hx_le_c rfl (hx_le_c rfl (hx_le_c rfl (hx_le_c rfl (hx_le_c rfl (hx_le_c rfl hx_le_0)))))) (hk6 t0 (v5 + 1) hw))))
def wX12_isAlone_J51 (μ : hx_M) (K : Int32 → Prop) (K6 : Int32 → Int32 → Prop) (v1 : Int32) (v2 : Int32) (v3 : Int32) (v5 : Int32)   : Prop := wX12_isAlone_J52 μ K (K6) v1 v2 v3 v5 0
set_option maxRecDepth 100000 in
set_option maxHeartbeats 4000000 in
theorem kX12_isAlone_J51 {G : hx_GT} {KK : hx_KT} (hG : hx_K cX12_isAlone 6 0 0 (some .boolean) TbX12 KK G) (cA : hx_CA RX12 cX12_isAlone 2 0 0 G) {Λ : hx_L} (hF : mF Λ) {μ : hx_M} (v1 : Int32) (v2 : Int32) (v3 : Int32) (v5 : Int32)  {K : Int32 → Prop} (hK : ∀ (r : Int32), K r → KK (some (.int r)) Λ μ) {K6 : Int32 → Int32 → Prop} (hk6 : ∀ (v4 : Int32) (v5 : Int32), K6 v4 v5 → G Λ μ (0, 0) 6 [some (.ref 49), some (.int v1), some (.int v2), some (.int v3), some (.int v4), some (.int v5)] []) (hw : wX12_isAlone_J51 μ K K6 v1 v2 v3 v5) : G Λ μ (0, 0) 51 [some (.ref 49), some (.int v1), some (.int v2), some (.int v3), none, some (.int v5)] [] := by
  unfold wX12_isAlone_J51 at hw
  refine cl_iconst hG 0 (hx_dq tdX12_isAlone_0 27 rfl) iconst_0 ?_
  exact cl_sub hG (hx_le_c rfl (hx_le_c rfl (hx_le_c rfl (hx_le_c rfl (hx_le_n (hx_le_c rfl hx_le_0)))))) (kX12_isAlone_J52 hG cA hF v1 v2 v3 v5 0 hK (fun z0 z1 hw => hk6 z0 z1 hw) hw)
def wX12_isAlone_J52_1 (μ : hx_M) (K : Int32 → Prop) (K6 : Int32 → Int32 → Prop) (v1 : Int32) (v2 : Int32) (v3 : Int32) (v5 : Int32) (t0 : Int32)  : Prop := K6 t0 (v5 + 1)
set_option maxRecDepth 100000 in
set_option maxHeartbeats 4000000 in
theorem kX12_isAlone_J52_1 {G : hx_GT} {KK : hx_KT} (hG : hx_K cX12_isAlone 6 0 0 (some .boolean) TbX12 KK G) (cA : hx_CA RX12 cX12_isAlone 2 0 0 G) {Λ : hx_L} (hF : mF Λ) {μ : hx_M} (v1 : Int32) (v2 : Int32) (v3 : Int32) (v5 : Int32) (t0 : Int32) {K : Int32 → Prop} (hK : ∀ (r : Int32), K r → KK (some (.int r)) Λ μ) {K6 : Int32 → Int32 → Prop} (hk6 : ∀ (v4 : Int32) (v5 : Int32), K6 v4 v5 → G Λ μ (0, 0) 6 [some (.ref 49), some (.int v1), some (.int v2), some (.int v3), some (.int v4), some (.int v5)] []) (hw : wX12_isAlone_J52_1 μ K K6 v1 v2 v3 v5 t0) : G Λ μ (0, 0) 52 [some (.ref 49), some (.int v1), some (.int v2), some (.int v3), none, some (.int v5)] [.int t0] := by
  unfold wX12_isAlone_J52_1 at hw
  exact cl_istore hG (hx_dq tdX12_isAlone_0 28 rfl) (Nat.le_of_ble_eq_true rfl) rfl (cl_iinc hG (v5 + 1) (hx_dq tdX12_isAlone_0 29 rfl) rfl (congrArg (fun z => v5 + z) iconst_1) (Nat.le_of_ble_eq_true rfl) rfl (cl_goto hG 6 (hx_dq tdX12_isAlone_0 30 rfl) rfl (cl_sub hG (hx_le_c rfl (hx_le_c rfl (hx_le_c rfl (hx_le_c rfl (hx_le_c rfl (hx_le_c rfl hx_le_0)))))) (hk6 t0 (v5 + 1) hw))))
def wX12_isAlone_J47 (μ : hx_M) (K : Int32 → Prop) (K6 : Int32 → Int32 → Prop) (v1 : Int32) (v2 : Int32) (v3 : Int32) (v5 : Int32)   : Prop := wX12_isAlone_J52_1 μ K (K6) v1 v2 v3 v5 1
set_option maxRecDepth 100000 in
set_option maxHeartbeats 4000000 in
theorem kX12_isAlone_J47 {G : hx_GT} {KK : hx_KT} (hG : hx_K cX12_isAlone 6 0 0 (some .boolean) TbX12 KK G) (cA : hx_CA RX12 cX12_isAlone 2 0 0 G) {Λ : hx_L} (hF : mF Λ) {μ : hx_M} (v1 : Int32) (v2 : Int32) (v3 : Int32) (v5 : Int32)  {K : Int32 → Prop} (hK : ∀ (r : Int32), K r → KK (some (.int r)) Λ μ) {K6 : Int32 → Int32 → Prop} (hk6 : ∀ (v4 : Int32) (v5 : Int32), K6 v4 v5 → G Λ μ (0, 0) 6 [some (.ref 49), some (.int v1), some (.int v2), some (.int v3), some (.int v4), some (.int v5)] []) (hw : wX12_isAlone_J47 μ K K6 v1 v2 v3 v5) : G Λ μ (0, 0) 47 [some (.ref 49), some (.int v1), some (.int v2), some (.int v3), none, some (.int v5)] [] := by
  unfold wX12_isAlone_J47 at hw
  refine cl_iconst hG 1 (hx_dq tdX12_isAlone_0 25 rfl) iconst_1 (cl_goto hG 52 (hx_dq tdX12_isAlone_0 26 rfl) rfl ?_)
  exact cl_sub hG (hx_le_c rfl (hx_le_c rfl (hx_le_c rfl (hx_le_c rfl (hx_le_n (hx_le_c rfl hx_le_0)))))) (kX12_isAlone_J52_1 hG cA hF v1 v2 v3 v5 1 hK (fun z0 z1 hw => hk6 z0 z1 hw) hw)
def wX12_isAlone_L6 (μ : hx_M) (v1 : Int32) (v2 : Int32) (v3 : Int32) (K : Int32 → Prop)  : Nat → Int32 → Int32 → Prop
  | 0, _, _ => False
  | n + 1, v4, v5 => ((μ.1 49 0) ≤ v5 → ((v4 = 0 ∨ v4 = 1) ∧ K v4)) ∧ (¬ ((μ.1 49 0) ≤ v5) → ((v4 = 0 → (wX12_isAlone_J51 μ K (wX12_isAlone_L6 μ v1 v2 v3 K n) v1 v2 v3 v5)) ∧ (¬ (v4 = 0) → ((v5 = v1 → (wX12_isAlone_J47 μ K (wX12_isAlone_L6 μ v1 v2 v3 K n) v1 v2 v3 v5)) ∧ (¬ (v5 = v1) → (wX12_lengthAt μ v5 v2 (fun r30_3 => wX12_lengthAt μ v1 v2 (fun r36_5 => ∀ x_6 : Int32, x_6 = (if 0 ≤ (r30_3 - r36_5) then (r30_3 - r36_5) else 0 - (r30_3 - r36_5)) → (x_6 < v3 → (wX12_isAlone_J51 μ K (wX12_isAlone_L6 μ v1 v2 v3 K n) v1 v2 v3 v5)) ∧ (¬ (x_6 < v3) → (wX12_isAlone_J47 μ K (wX12_isAlone_L6 μ v1 v2 v3 K n) v1 v2 v3 v5))))))))))
set_option maxRecDepth 100000 in
set_option maxHeartbeats 4000000 in
theorem kX12_isAlone_L6 {G : hx_GT} {KK : hx_KT} (hG : hx_K cX12_isAlone 6 0 0 (some .boolean) TbX12 KK G) (cA : hx_CA RX12 cX12_isAlone 2 0 0 G) {Λ : hx_L} (hF : mF Λ) {μ : hx_M} (v1 : Int32) (v2 : Int32) (v3 : Int32) {K : Int32 → Prop} (hK : ∀ (r : Int32), K r → KK (some (.int r)) Λ μ)  : ∀ (n : Nat) (v4 : Int32) (v5 : Int32), wX12_isAlone_L6 μ v1 v2 v3 K n v4 v5 → G Λ μ (0, 0) 6 [some (.ref 49), some (.int v1), some (.int v2), some (.int v3), some (.int v4), some (.int v5)] [] := by
  intro n
  induction n with
  | zero =>
    intro v4 v5 hw
    exact False.elim (by simpa only [wX12_isAlone_L6] using hw)
  | succ n ih =>
    intro v4 v5 hw
    unfold wX12_isAlone_L6 at hw
    refine cl_iload hG (hx_dq tdX12_isAlone_0 4 rfl) rfl (cl_aload_n hG (hx_dq tdX12_isAlone_0 5 rfl) rfl (cl_getI hG fmX12_154 (hx_dq tdX12_isAlone_0 6 rfl) (mF_S49 hF) (cl_icmp_ge hG 60 (hx_dq tdX12_isAlone_0 7 rfl) rfl (fun c12 => ?_) (fun c12 => ?_))))
    · replace hw := hw.1 c12
      obtain ⟨b62, hw⟩ := hw
      exact cl_iload hG (hx_dq tdX12_isAlone_0 31 rfl) rfl (cl_iret hG (hx_dq tdX12_isAlone_1 0 rfl) rfl (hx_nb b62) (hK _ hw) (Nat.le_refl _) (Nat.le_refl _))
    · replace hw := hw.2 c12
      refine cl_iload hG (hx_dq tdX12_isAlone_0 8 rfl) rfl (cl_if_eq hG 51 (hx_dq tdX12_isAlone_0 9 rfl) rfl (fun c17 => ?_) (fun c17 => ?_))
      · replace hw := hw.1 c17
        exact cl_sub hG (hx_le_c rfl (hx_le_c rfl (hx_le_c rfl (hx_le_c rfl (hx_le_n (hx_le_c rfl hx_le_0)))))) (kX12_isAlone_J51 hG cA hF v1 v2 v3 v5 hK (fun z0 z1 hw => ih z0 z1 hw) hw)
      · replace hw := hw.2 c17
        refine cl_iload hG (hx_dq tdX12_isAlone_0 10 rfl) rfl (cl_iload_n hG (hx_dq tdX12_isAlone_0 11 rfl) rfl (cl_icmp_eq hG 47 (hx_dq tdX12_isAlone_0 12 rfl) rfl (fun c23 => ?_) (fun c23 => ?_)))
        · replace hw := hw.1 c23
          exact cl_sub hG (hx_le_c rfl (hx_le_c rfl (hx_le_c rfl (hx_le_c rfl (hx_le_n (hx_le_c rfl hx_le_0)))))) (kX12_isAlone_J47 hG cA hF v1 v2 v3 v5 hK (fun z0 z1 hw => ih z0 z1 hw) hw)
        · replace hw := hw.2 c23
          refine cl_aload_n hG (hx_dq tdX12_isAlone_0 13 rfl) rfl (cl_iload hG (hx_dq tdX12_isAlone_0 14 rfl) rfl (cl_iload_n hG (hx_dq tdX12_isAlone_0 15 rfl) rfl (cl_callV2 (caX12_isAlone_302 cA) (hx_dq tdX12_isAlone_0 16 rfl) (mF_S49 hF) (Nat.le_of_ble_eq_true rfl) (Nat.le_refl _) (Nat.le_refl _) (sX12_lengthAt_mk hF hw (fun r30_3 hw => ?_)))))
          refine cl_aload_n hG (hx_dq tdX12_isAlone_0 17 rfl) rfl (cl_iload_n hG (hx_dq tdX12_isAlone_0 18 rfl) rfl (cl_iload_n hG (hx_dq tdX12_isAlone_0 19 rfl) rfl (cl_callV2 (caX12_isAlone_302 cA) (hx_dq tdX12_isAlone_0 20 rfl) (mF_S49 hF) (Nat.le_of_ble_eq_true rfl) (Nat.le_refl _) (Nat.le_refl _) (sX12_lengthAt_mk hF hw (fun r36_5 hw => ?_)))))
          refine cl_isub hG (hx_dq tdX12_isAlone_0 21 rfl) (cl_mabs hG mmX12_337 (hx_dq tdX12_isAlone_0 22 rfl) (Nat.le_refl _) (Nat.le_refl _) (Nat.le_of_ble_eq_true rfl) (cl_nmI (fun x_6 e_6 => ?_)))
          replace hw := hw x_6 e_6
          refine cl_iload_n hG (hx_dq tdX12_isAlone_0 23 rfl) rfl (cl_icmp_lt hG 51 (hx_dq tdX12_isAlone_0 24 rfl) rfl (fun c44 => ?_) (fun c44 => ?_))
          · replace hw := hw.1 c44
            exact cl_sub hG (hx_le_c rfl (hx_le_c rfl (hx_le_c rfl (hx_le_c rfl (hx_le_n (hx_le_c rfl hx_le_0)))))) (kX12_isAlone_J51 hG cA hF v1 v2 v3 v5 hK (fun z0 z1 hw => ih z0 z1 hw) hw)
          · replace hw := hw.2 c44
            exact cl_sub hG (hx_le_c rfl (hx_le_c rfl (hx_le_c rfl (hx_le_c rfl (hx_le_n (hx_le_c rfl hx_le_0)))))) (kX12_isAlone_J47 hG cA hF v1 v2 v3 v5 hK (fun z0 z1 hw => ih z0 z1 hw) hw)
def wX12_isAlone (μ : hx_M) (v1 : Int32) (v2 : Int32) (v3 : Int32) (K : Int32 → Prop) : Prop := ∃ n6_7, wX12_isAlone_L6 μ v1 v2 v3 K n6_7 1 0
set_option maxRecDepth 100000 in
set_option maxHeartbeats 4000000 in
theorem kX12_isAlone {G : hx_GT} {KK : hx_KT} (hG : hx_K cX12_isAlone 6 0 0 (some .boolean) TbX12 KK G) (cA : hx_CA RX12 cX12_isAlone 2 0 0 G) {Λ : hx_L} (hF : mF Λ) {μ : hx_M} (v1 : Int32) (v2 : Int32) (v3 : Int32) {K : Int32 → Prop} (hK : ∀ (r : Int32), K r → KK (some (.int r)) Λ μ) (hw : wX12_isAlone μ v1 v2 v3 K) : G Λ μ (0, 0) 0 [some (.ref 49), some (.int v1), some (.int v2), some (.int v3), none, none] [] := by
  unfold wX12_isAlone at hw
  refine cl_iconst hG 1 (hx_dq tdX12_isAlone_0 0 rfl) iconst_1 (cl_istore hG (hx_dq tdX12_isAlone_0 1 rfl) (Nat.le_of_ble_eq_true rfl) rfl (cl_iconst hG 0 (hx_dq tdX12_isAlone_0 2 rfl) iconst_0 (cl_istore hG (hx_dq tdX12_isAlone_0 3 rfl) (Nat.le_of_ble_eq_true rfl) rfl ?_)))
  obtain ⟨n_, hw⟩ := hw
  refine cl_sub hG (hx_le_c rfl (hx_le_c rfl (hx_le_c rfl (hx_le_c rfl (hx_le_c rfl (hx_le_c rfl hx_le_0)))))) (kX12_isAlone_L6 hG cA hF v1 v2 v3 hK n_ 1 0 hw)
def sX12_isAlone : hx_ST := fun Λ μ as KK => mF Λ ∧ ∃ (v1 : Int32) (v2 : Int32) (v3 : Int32) (K : Int32 → Prop), as = [.ref 49, .int v1, .int v2, .int v3] ∧ wX12_isAlone μ v1 v2 v3 K ∧ (∀ (r : Int32), K r → KK (some (.int r)) Λ μ)
theorem sX12_isAlone_mk {Λ : hx_L} {μ : hx_M} {KK : hx_KT} {v1 : Int32} {v2 : Int32} {v3 : Int32} {K : Int32 → Prop} (hF : mF Λ) (hw : wX12_isAlone μ v1 v2 v3 K) (hk : ∀ (r : Int32), K r → KK (some (.int r)) Λ μ) : sX12_isAlone Λ μ [.ref 49, .int v1, .int v2, .int v3] KK := ⟨hF, _, _, _, _, rfl, hw, hk⟩
theorem conX12_isAlone : hx_Con yX12_isAlone cX12_isAlone 6 (some .boolean) 2 0 0 sX12_isAlone := by
  refine hx_con_of (by decide +kernel) tokX12 (by decide) ?_ ?_
  · intro Λ μ as KK h
    obtain ⟨hF, v1, v2, v3, K, rfl, hw, hK⟩ := h
    exact Nat.le_of_ble_eq_true rfl
  · intro G KK hG cA Λ μ as h
    obtain ⟨hF, v1, v2, v3, K, rfl, hw, hK⟩ := h
    exact cl_sub hG (hx_le_c rfl (hx_le_c rfl (hx_le_c rfl (hx_le_c rfl (hx_le_n (hx_le_n hx_le_0)))))) (kX12_isAlone hG cA hF _ _ _ hK hw)
/-! HemLineModel.endsBy(IIII)I -/
def tbX12_endsBy_0 : List (Nat × Instr × Nat) := [(0, .iload_n 2, 1), (1, .iconst 1, 1), (2, .iadd, 1), (3, .istore 5, 2), (5, .iload 5, 2), (7, .aload_n 0, 1), (8, .getfield 161, 3), (11, .iload_n 2, 1), (12, .iload 4, 2), (14, .iadd, 1), (15, .invokestatic 334, 3), (18, .if_icmp .gt 40, 3), (21, .aload_n 0, 1), (22, .iload_n 1, 1), (23, .iload 5, 2), (25, .invokevirtual 302, 3), (28, .aload_n 0, 1), (29, .iload_n 1, 1), (30, .iload_n 2, 1), (31, .invokevirtual 302, 3), (34, .if_icmp .eq 5, 3), (37, .iconst 2, 1), (38, .ireturn, 1), (39, .aload_n 0, 1), (40, .iload_n 1, 1), (41, .iload 5, 2), (43, .iload_n 3, 1), (44, .invokevirtual 400, 3), (47, .ifCond .ne 5, 3), (50, .iconst 1, 1), (51, .ireturn, 1), (52, .iinc 5 1, 3)]
def tbX12_endsBy_1 : List (Nat × Instr × Nat) := [(55, .goto (-50), 3), (58, .iconst 0, 1), (59, .ireturn, 1)]
theorem tdX12_endsBy_0 : hx_dt cX12_endsBy tbX12_endsBy_0 = true := by decide +kernel
theorem tdX12_endsBy_1 : hx_dt cX12_endsBy tbX12_endsBy_1 = true := by decide +kernel
theorem caX12_endsBy_302 {G : hx_GT} (cA : hx_CA RX12 cX12_endsBy 3 0 0 G) : hx_CV cX12_endsBy G 0 0 302 12 2 sX12_lengthAt 0 0 := cA.1 conX12_lengthAt rfl rfl ⟨by decide +kernel, by decide +kernel, by decide +kernel⟩ mw_1486 mw_1488 mw_54 mw_97 mw_1489 (by decide) (by decide)
theorem caX12_endsBy_400 {G : hx_GT} (cA : hx_CA RX12 cX12_endsBy 3 0 0 G) : hx_CV cX12_endsBy G 0 0 400 12 3 sX12_isAlone 0 0 := cA.1 conX12_isAlone rfl rfl ⟨by decide +kernel, by decide +kernel, by decide +kernel⟩ mw_1590 mw_1592 mw_71 mw_97 mw_1593 (by decide) (by decide)
def wX12_endsBy_L5 (μ : hx_M) (v1 : Int32) (v2 : Int32) (v3 : Int32) (v4 : Int32) (K : Int32 → Prop)  : Nat → Int32 → Prop
  | 0, _ => False
  | n + 1, v5 => ∀ x_1 : Int32, x_1 = (if (v2 + v4) < (μ.1 49 1) then (v2 + v4) else (μ.1 49 1)) → (x_1 < v5 → (K 0)) ∧ (¬ (x_1 < v5) → (wX12_lengthAt μ v1 v5 (fun r25_3 => wX12_lengthAt μ v1 v2 (fun r31_5 => (r25_3 = r31_5 → (wX12_isAlone μ v1 v5 v3 (fun r44_7 => (r44_7 ≠ 0 → (wX12_endsBy_L5 μ v1 v2 v3 v4 K n (v5 + 1))) ∧ (r44_7 = 0 → (K 1))))) ∧ (¬ (r25_3 = r31_5) → (K 2))))))
set_option maxRecDepth 100000 in
set_option maxHeartbeats 4000000 in
theorem kX12_endsBy_L5 {G : hx_GT} {KK : hx_KT} (hG : hx_K cX12_endsBy 6 0 0 (some .int) TbX12 KK G) (cA : hx_CA RX12 cX12_endsBy 3 0 0 G) {Λ : hx_L} (hF : mF Λ) {μ : hx_M} (v1 : Int32) (v2 : Int32) (v3 : Int32) (v4 : Int32) {K : Int32 → Prop} (hK : ∀ (r : Int32), K r → KK (some (.int r)) Λ μ)  : ∀ (n : Nat) (v5 : Int32), wX12_endsBy_L5 μ v1 v2 v3 v4 K n v5 → G Λ μ (0, 0) 5 [some (.ref 49), some (.int v1), some (.int v2), some (.int v3), some (.int v4), some (.int v5)] [] := by
  intro n
  induction n with
  | zero =>
    intro v5 hw
    exact False.elim (by simpa only [wX12_endsBy_L5] using hw)
  | succ n ih =>
    intro v5 hw
    unfold wX12_endsBy_L5 at hw
    refine cl_iload hG (hx_dq tdX12_endsBy_0 4 rfl) rfl (cl_aload_n hG (hx_dq tdX12_endsBy_0 5 rfl) rfl (cl_getI hG fmX12_161 (hx_dq tdX12_endsBy_0 6 rfl) (mF_S49 hF) (cl_iload_n hG (hx_dq tdX12_endsBy_0 7 rfl) rfl (cl_iload hG (hx_dq tdX12_endsBy_0 8 rfl) rfl (cl_iadd hG (hx_dq tdX12_endsBy_0 9 rfl) (cl_mmin hG mmX12_334 (hx_dq tdX12_endsBy_0 10 rfl) (Nat.le_refl _) (Nat.le_refl _) (Nat.le_of_ble_eq_true rfl) (cl_nmI (fun x_1 e_1 => ?_))))))))
    replace hw := hw x_1 e_1
    refine cl_icmp_gt hG 58 (hx_dq tdX12_endsBy_0 11 rfl) rfl (fun c18 => ?_) (fun c18 => ?_)
    · replace hw := hw.1 c18
      exact cl_iconst hG 0 (hx_dq tdX12_endsBy_1 1 rfl) iconst_0 (cl_iret hG (hx_dq tdX12_endsBy_1 2 rfl) rfl rfl (hK _ hw) (Nat.le_refl _) (Nat.le_refl _))
    · replace hw := hw.2 c18
      refine cl_aload_n hG (hx_dq tdX12_endsBy_0 12 rfl) rfl (cl_iload_n hG (hx_dq tdX12_endsBy_0 13 rfl) rfl (cl_iload hG (hx_dq tdX12_endsBy_0 14 rfl) rfl (cl_callV2 (caX12_endsBy_302 cA) (hx_dq tdX12_endsBy_0 15 rfl) (mF_S49 hF) (Nat.le_of_ble_eq_true rfl) (Nat.le_refl _) (Nat.le_refl _) (sX12_lengthAt_mk hF hw (fun r25_3 hw => ?_)))))
      refine cl_aload_n hG (hx_dq tdX12_endsBy_0 16 rfl) rfl (cl_iload_n hG (hx_dq tdX12_endsBy_0 17 rfl) rfl (cl_iload_n hG (hx_dq tdX12_endsBy_0 18 rfl) rfl (cl_callV2 (caX12_endsBy_302 cA) (hx_dq tdX12_endsBy_0 19 rfl) (mF_S49 hF) (Nat.le_of_ble_eq_true rfl) (Nat.le_refl _) (Nat.le_refl _) (sX12_lengthAt_mk hF hw (fun r31_5 hw => ?_)))))
      refine cl_icmp_eq hG 39 (hx_dq tdX12_endsBy_0 20 rfl) rfl (fun c34 => ?_) (fun c34 => ?_)
      · replace hw := hw.1 c34
        refine cl_aload_n hG (hx_dq tdX12_endsBy_0 23 rfl) rfl (cl_iload_n hG (hx_dq tdX12_endsBy_0 24 rfl) rfl (cl_iload hG (hx_dq tdX12_endsBy_0 25 rfl) rfl (cl_iload_n hG (hx_dq tdX12_endsBy_0 26 rfl) rfl (cl_callV3 (caX12_endsBy_400 cA) (hx_dq tdX12_endsBy_0 27 rfl) (mF_S49 hF) (Nat.le_of_ble_eq_true rfl) (Nat.le_refl _) (Nat.le_refl _) (sX12_isAlone_mk hF hw (fun r44_7 hw => ?_))))))
        refine cl_if_ne hG 52 (hx_dq tdX12_endsBy_0 28 rfl) rfl (fun c47 => ?_) (fun c47 => ?_)
        · replace hw := hw.1 c47
          exact cl_iinc hG (v5 + 1) (hx_dq tdX12_endsBy_0 31 rfl) rfl (congrArg (fun z => v5 + z) iconst_1) (Nat.le_of_ble_eq_true rfl) rfl (cl_goto hG 5 (hx_dq tdX12_endsBy_1 0 rfl) rfl (cl_sub hG (hx_le_c rfl (hx_le_c rfl (hx_le_c rfl (hx_le_c rfl (hx_le_c rfl (hx_le_c rfl hx_le_0)))))) (ih (v5 + 1) hw)))
        · replace hw := hw.2 c47
          exact cl_iconst hG 1 (hx_dq tdX12_endsBy_0 29 rfl) iconst_1 (cl_iret hG (hx_dq tdX12_endsBy_0 30 rfl) rfl rfl (hK _ hw) (Nat.le_refl _) (Nat.le_refl _))
      · replace hw := hw.2 c34
        exact cl_iconst hG 2 (hx_dq tdX12_endsBy_0 21 rfl) iconst_2 (cl_iret hG (hx_dq tdX12_endsBy_0 22 rfl) rfl rfl (hK _ hw) (Nat.le_refl _) (Nat.le_refl _))
def wX12_endsBy (μ : hx_M) (v1 : Int32) (v2 : Int32) (v3 : Int32) (v4 : Int32) (K : Int32 → Prop) : Prop := ∃ n5_8, wX12_endsBy_L5 μ v1 v2 v3 v4 K n5_8 (v2 + 1)
set_option maxRecDepth 100000 in
set_option maxHeartbeats 4000000 in
theorem kX12_endsBy {G : hx_GT} {KK : hx_KT} (hG : hx_K cX12_endsBy 6 0 0 (some .int) TbX12 KK G) (cA : hx_CA RX12 cX12_endsBy 3 0 0 G) {Λ : hx_L} (hF : mF Λ) {μ : hx_M} (v1 : Int32) (v2 : Int32) (v3 : Int32) (v4 : Int32) {K : Int32 → Prop} (hK : ∀ (r : Int32), K r → KK (some (.int r)) Λ μ) (hw : wX12_endsBy μ v1 v2 v3 v4 K) : G Λ μ (0, 0) 0 [some (.ref 49), some (.int v1), some (.int v2), some (.int v3), some (.int v4), none] [] := by
  unfold wX12_endsBy at hw
  refine cl_iload_n hG (hx_dq tdX12_endsBy_0 0 rfl) rfl (cl_iconst hG 1 (hx_dq tdX12_endsBy_0 1 rfl) iconst_1 (cl_iadd hG (hx_dq tdX12_endsBy_0 2 rfl) (cl_istore hG (hx_dq tdX12_endsBy_0 3 rfl) (Nat.le_of_ble_eq_true rfl) rfl ?_)))
  obtain ⟨n_, hw⟩ := hw
  refine cl_sub hG (hx_le_c rfl (hx_le_c rfl (hx_le_c rfl (hx_le_c rfl (hx_le_c rfl (hx_le_c rfl hx_le_0)))))) (kX12_endsBy_L5 hG cA hF v1 v2 v3 v4 hK n_ (v2 + 1) hw)
def sX12_endsBy : hx_ST := fun Λ μ as KK => mF Λ ∧ ∃ (v1 : Int32) (v2 : Int32) (v3 : Int32) (v4 : Int32) (K : Int32 → Prop), as = [.ref 49, .int v1, .int v2, .int v3, .int v4] ∧ wX12_endsBy μ v1 v2 v3 v4 K ∧ (∀ (r : Int32), K r → KK (some (.int r)) Λ μ)
theorem sX12_endsBy_mk {Λ : hx_L} {μ : hx_M} {KK : hx_KT} {v1 : Int32} {v2 : Int32} {v3 : Int32} {v4 : Int32} {K : Int32 → Prop} (hF : mF Λ) (hw : wX12_endsBy μ v1 v2 v3 v4 K) (hk : ∀ (r : Int32), K r → KK (some (.int r)) Λ μ) : sX12_endsBy Λ μ [.ref 49, .int v1, .int v2, .int v3, .int v4] KK := ⟨hF, _, _, _, _, _, rfl, hw, hk⟩
theorem conX12_endsBy : hx_Con yX12_endsBy cX12_endsBy 6 (some .int) 3 0 0 sX12_endsBy := by
  refine hx_con_of (by decide +kernel) tokX12 (by decide) ?_ ?_
  · intro Λ μ as KK h
    obtain ⟨hF, v1, v2, v3, v4, K, rfl, hw, hK⟩ := h
    exact Nat.le_of_ble_eq_true rfl
  · intro G KK hG cA Λ μ as h
    obtain ⟨hF, v1, v2, v3, v4, K, rfl, hw, hK⟩ := h
    exact cl_sub hG (hx_le_c rfl (hx_le_c rfl (hx_le_c rfl (hx_le_c rfl (hx_le_c rfl (hx_le_n hx_le_0)))))) (kX12_endsBy hG cA hF _ _ _ _ hK hw)
/-! HemLineModel.alone(III)I -/
def tbX12_alone_0 : List (Nat × Instr × Nat) := [(0, .iload_n 1, 1), (1, .iconst 1, 1), (2, .bipush 60, 2), (4, .invokestatic 157, 3), (7, .ifCond .eq 22, 3), (10, .iload_n 2, 1), (11, .iconst 1, 1), (12, .bipush 20, 2), (14, .invokestatic 157, 3), (17, .ifCond .eq 12, 3), (20, .iload_n 3, 1), (21, .iconst 0, 1), (22, .iconst 2, 1), (23, .invokestatic 157, 3), (26, .ifCond .ne 5, 3), (29, .iconst (-1), 1), (30, .ireturn, 1), (31, .iconst 0, 1), (32, .istore 4, 2), (34, .iconst 1, 1), (35, .istore 5, 2), (37, .iload 5, 2), (39, .aload_n 0, 1), (40, .getfield 161, 3), (43, .if_icmp .gt 87, 3), (46, .iconst 0, 1), (47, .istore 6, 2), (49, .iload 6, 2), (51, .aload_n 0, 1), (52, .getfield 154, 3), (55, .if_icmp .ge 69, 3), (58, .aload_n 0, 1)]
def tbX12_alone_1 : List (Nat × Instr × Nat) := [(59, .iload 6, 2), (61, .iload 5, 2), (63, .iload_n 1, 1), (64, .invokevirtual 400, 3), (67, .ifCond .eq 51, 3), (70, .aload_n 0, 1), (71, .iload 6, 2), (73, .iload 5, 2), (75, .iconst 1, 1), (76, .isub, 1), (77, .iload_n 1, 1), (78, .invokevirtual 400, 3), (81, .ifCond .eq 6, 3), (84, .goto 34, 3), (87, .iload 4, 2), (89, .iload_n 3, 1), (90, .ifCond .eq 17, 3), (93, .aload_n 0, 1), (94, .iload 6, 2), (96, .iload 5, 2), (98, .iload_n 1, 1), (99, .iload_n 2, 1), (100, .invokevirtual 403, 3), (103, .iload_n 3, 1), (104, .if_icmp .ne 7, 3), (107, .iconst 1, 1), (108, .goto 4, 3), (111, .iconst 0, 1), (112, .invokestatic 396, 3), (115, .iadd, 1), (116, .istore 4, 2), (118, .iinc 6 1, 3)]
def tbX12_alone_2 : List (Nat × Instr × Nat) := [(121, .goto (-72), 3), (124, .iinc 5 1, 3), (127, .goto (-90), 3), (130, .iload 4, 2), (132, .ireturn, 1)]
theorem tdX12_alone_0 : hx_dt cX12_alone tbX12_alone_0 = true := by decide +kernel
theorem tdX12_alone_1 : hx_dt cX12_alone tbX12_alone_1 = true := by decide +kernel
theorem tdX12_alone_2 : hx_dt cX12_alone tbX12_alone_2 = true := by decide +kernel
theorem caX12_alone_157 {G : hx_GT} (cA : hx_CA RX12 cX12_alone 4 0 0 G) : hx_CS cX12_alone G 0 0 157 3 sX12_isIn 0 0 := cA.2.1 conX12_isIn ⟨by decide +kernel, by decide +kernel, by decide +kernel⟩ mw_1343 mw_1344 mw_97 mw_1345 (by decide) (by decide)
theorem caX12_alone_396 {G : hx_GT} (cA : hx_CA RX12 cX12_alone 4 0 0 G) : hx_CS cX12_alone G 0 0 396 1 sX12_one 0 0 := cA.2.1 conX12_one ⟨by decide +kernel, by decide +kernel, by decide +kernel⟩ mw_1583 mw_1584 mw_97 mw_1585 (by decide) (by decide)
theorem caX12_alone_400 {G : hx_GT} (cA : hx_CA RX12 cX12_alone 4 0 0 G) : hx_CV cX12_alone G 0 0 400 12 3 sX12_isAlone 0 0 := cA.1 conX12_isAlone rfl rfl ⟨by decide +kernel, by decide +kernel, by decide +kernel⟩ mw_1590 mw_1592 mw_71 mw_97 mw_1593 (by decide) (by decide)
theorem caX12_alone_403 {G : hx_GT} (cA : hx_CA RX12 cX12_alone 4 0 0 G) : hx_CV cX12_alone G 0 0 403 12 4 sX12_endsBy 0 0 := cA.1 conX12_endsBy rfl rfl ⟨by decide +kernel, by decide +kernel, by decide +kernel⟩ mw_1594 mw_1596 mw_72 mw_97 mw_1597 (by decide) (by decide)
def wX12_alone_J118 (μ : hx_M) (K : Int32 → Prop) (K49 : Int32 → Int32 → Prop) (v1 : Int32) (v2 : Int32) (v3 : Int32) (v4 : Int32) (v5 : Int32) (v6 : Int32)   : Prop := K49 v4 (v6 + 1)
set_option maxRecDepth 100000 in
set_option maxHeartbeats 4000000 in
theorem kX12_alone_J118 {G : hx_GT} {KK : hx_KT} (hG : hx_K cX12_alone 7 0 0 (some .int) TbX12 KK G) (cA : hx_CA RX12 cX12_alone 4 0 0 G) {Λ : hx_L} (hF : mF Λ) {μ : hx_M} (v1 : Int32) (v2 : Int32) (v3 : Int32) (v4 : Int32) (v5 : Int32) (v6 : Int32)  {K : Int32 → Prop} (hK : ∀ (r : Int32), K r → KK (some (.int r)) Λ μ) {K49 : Int32 → Int32 → Prop} (hk49 : ∀ (v4 : Int32) (v6 : Int32), K49 v4 v6 → G Λ μ (0, 0) 49 [some (.ref 49), some (.int v1), some (.int v2), some (.int v3), some (.int v4), some (.int v5), some (.int v6)] []) (hw : wX12_alone_J118 μ K K49 v1 v2 v3 v4 v5 v6) : G Λ μ (0, 0) 118 [some (.ref 49), some (.int v1), some (.int v2), some (.int v3), some (.int v4), some (.int v5), some (.int v6)] [] := by
  unfold wX12_alone_J118 at hw
  exact cl_iinc hG (v6 + 1) (hx_dq tdX12_alone_1 31 rfl) rfl (congrArg (fun z => v6 + z) iconst_1) (Nat.le_of_ble_eq_true rfl) rfl (cl_goto hG 49 (hx_dq tdX12_alone_2 0 rfl) rfl (cl_sub hG (hx_le_c rfl (hx_le_c rfl (hx_le_c rfl (hx_le_c rfl (hx_le_c rfl (hx_le_c rfl (hx_le_c rfl hx_le_0))))))) (hk49 v4 (v6 + 1) hw)))
def wX12_alone_J118_13 (μ : hx_M) (K : Int32 → Prop) (K49 : Int32 → Int32 → Prop) (v1 : Int32) (v2 : Int32) (v3 : Int32) (v4 : Int32) (v5 : Int32) (v6 : Int32)   : Prop := K49 v4 (v6 + 1)
set_option maxRecDepth 100000 in
set_option maxHeartbeats 4000000 in
theorem kX12_alone_J118_13 {G : hx_GT} {KK : hx_KT} (hG : hx_K cX12_alone 7 0 0 (some .int) TbX12 KK G) (cA : hx_CA RX12 cX12_alone 4 0 0 G) {Λ : hx_L} (hF : mF Λ) {μ : hx_M} (v1 : Int32) (v2 : Int32) (v3 : Int32) (v4 : Int32) (v5 : Int32) (v6 : Int32)  {K : Int32 → Prop} (hK : ∀ (r : Int32), K r → KK (some (.int r)) Λ μ) {K49 : Int32 → Int32 → Prop} (hk49 : ∀ (v4 : Int32) (v6 : Int32), K49 v4 v6 → G Λ μ (0, 0) 49 [some (.ref 49), some (.int v1), some (.int v2), some (.int v3), some (.int v4), some (.int v5), some (.int v6)] []) (hw : wX12_alone_J118_13 μ K K49 v1 v2 v3 v4 v5 v6) : G Λ μ (0, 0) 118 [some (.ref 49), some (.int v1), some (.int v2), some (.int v3), some (.int v4), some (.int v5), some (.int v6)] [] := by
  unfold wX12_alone_J118_13 at hw
  exact cl_iinc hG (v6 + 1) (hx_dq tdX12_alone_1 31 rfl) rfl (congrArg (fun z => v6 + z) iconst_1) (Nat.le_of_ble_eq_true rfl) rfl (cl_goto hG 49 (hx_dq tdX12_alone_2 0 rfl) rfl (cl_sub hG (hx_le_c rfl (hx_le_c rfl (hx_le_c rfl (hx_le_c rfl (hx_le_c rfl (hx_le_c rfl (hx_le_c rfl hx_le_0))))))) (hk49 v4 (v6 + 1) hw)))
def wX12_alone_J112 (μ : hx_M) (K : Int32 → Prop) (K49 : Int32 → Int32 → Prop) (v1 : Int32) (v2 : Int32) (v3 : Int32) (v5 : Int32) (v6 : Int32) (t0 : Int32) (t1 : Int32)  : Prop := wX12_one t1 (fun r112_12 => wX12_alone_J118_13 μ K (K49) v1 v2 v3 (t0 + r112_12) v5 v6)
set_option maxRecDepth 100000 in
set_option maxHeartbeats 4000000 in
theorem kX12_alone_J112 {G : hx_GT} {KK : hx_KT} (hG : hx_K cX12_alone 7 0 0 (some .int) TbX12 KK G) (cA : hx_CA RX12 cX12_alone 4 0 0 G) {Λ : hx_L} (hF : mF Λ) {μ : hx_M} (v1 : Int32) (v2 : Int32) (v3 : Int32) (v5 : Int32) (v6 : Int32) (t0 : Int32) (t1 : Int32) {K : Int32 → Prop} (hK : ∀ (r : Int32), K r → KK (some (.int r)) Λ μ) {K49 : Int32 → Int32 → Prop} (hk49 : ∀ (v4 : Int32) (v6 : Int32), K49 v4 v6 → G Λ μ (0, 0) 49 [some (.ref 49), some (.int v1), some (.int v2), some (.int v3), some (.int v4), some (.int v5), some (.int v6)] []) (hw : wX12_alone_J112 μ K K49 v1 v2 v3 v5 v6 t0 t1) : G Λ μ (0, 0) 112 [some (.ref 49), some (.int v1), some (.int v2), some (.int v3), none, some (.int v5), some (.int v6)] [.int t1, .int t0] := by
  unfold wX12_alone_J112 at hw
  refine cl_callS1 (caX12_alone_396 cA) (hx_dq tdX12_alone_1 28 rfl) (Nat.le_of_ble_eq_true rfl) (Nat.le_refl _) (Nat.le_refl _) (sX12_one_mk hw (fun r112_12 hw => ?_))
  refine cl_iadd hG (hx_dq tdX12_alone_1 29 rfl) (cl_istore hG (hx_dq tdX12_alone_1 30 rfl) (Nat.le_of_ble_eq_true rfl) rfl ?_)
  exact cl_sub hG (hx_le_c rfl (hx_le_c rfl (hx_le_c rfl (hx_le_c rfl (hx_le_c rfl (hx_le_c rfl (hx_le_c rfl hx_le_0))))))) (kX12_alone_J118_13 hG cA hF v1 v2 v3 (t0 + r112_12) v5 v6 hK (fun z0 z1 hw => hk49 z0 z1 hw) hw)
def wX12_alone_J107 (μ : hx_M) (K : Int32 → Prop) (K49 : Int32 → Int32 → Prop) (v1 : Int32) (v2 : Int32) (v3 : Int32) (v5 : Int32) (v6 : Int32) (t0 : Int32)  : Prop := wX12_alone_J112 μ K (K49) v1 v2 v3 v5 v6 t0 1
set_option maxRecDepth 100000 in
set_option maxHeartbeats 4000000 in
theorem kX12_alone_J107 {G : hx_GT} {KK : hx_KT} (hG : hx_K cX12_alone 7 0 0 (some .int) TbX12 KK G) (cA : hx_CA RX12 cX12_alone 4 0 0 G) {Λ : hx_L} (hF : mF Λ) {μ : hx_M} (v1 : Int32) (v2 : Int32) (v3 : Int32) (v5 : Int32) (v6 : Int32) (t0 : Int32) {K : Int32 → Prop} (hK : ∀ (r : Int32), K r → KK (some (.int r)) Λ μ) {K49 : Int32 → Int32 → Prop} (hk49 : ∀ (v4 : Int32) (v6 : Int32), K49 v4 v6 → G Λ μ (0, 0) 49 [some (.ref 49), some (.int v1), some (.int v2), some (.int v3), some (.int v4), some (.int v5), some (.int v6)] []) (hw : wX12_alone_J107 μ K K49 v1 v2 v3 v5 v6 t0) : G Λ μ (0, 0) 107 [some (.ref 49), some (.int v1), some (.int v2), some (.int v3), none, some (.int v5), some (.int v6)] [.int t0] := by
  unfold wX12_alone_J107 at hw
  refine cl_iconst hG 1 (hx_dq tdX12_alone_1 25 rfl) iconst_1 (cl_goto hG 112 (hx_dq tdX12_alone_1 26 rfl) rfl ?_)
  exact cl_sub hG (hx_le_c rfl (hx_le_c rfl (hx_le_c rfl (hx_le_c rfl (hx_le_n (hx_le_c rfl (hx_le_c rfl hx_le_0))))))) (kX12_alone_J112 hG cA hF v1 v2 v3 v5 v6 t0 1 hK (fun z0 z1 hw => hk49 z0 z1 hw) hw)
def wX12_alone_J118_19 (μ : hx_M) (K : Int32 → Prop) (K49 : Int32 → Int32 → Prop) (v1 : Int32) (v2 : Int32) (v3 : Int32) (v4 : Int32) (v5 : Int32) (v6 : Int32)   : Prop := K49 v4 (v6 + 1)
set_option maxRecDepth 100000 in
set_option maxHeartbeats 4000000 in
theorem kX12_alone_J118_19 {G : hx_GT} {KK : hx_KT} (hG : hx_K cX12_alone 7 0 0 (some .int) TbX12 KK G) (cA : hx_CA RX12 cX12_alone 4 0 0 G) {Λ : hx_L} (hF : mF Λ) {μ : hx_M} (v1 : Int32) (v2 : Int32) (v3 : Int32) (v4 : Int32) (v5 : Int32) (v6 : Int32)  {K : Int32 → Prop} (hK : ∀ (r : Int32), K r → KK (some (.int r)) Λ μ) {K49 : Int32 → Int32 → Prop} (hk49 : ∀ (v4 : Int32) (v6 : Int32), K49 v4 v6 → G Λ μ (0, 0) 49 [some (.ref 49), some (.int v1), some (.int v2), some (.int v3), some (.int v4), some (.int v5), some (.int v6)] []) (hw : wX12_alone_J118_19 μ K K49 v1 v2 v3 v4 v5 v6) : G Λ μ (0, 0) 118 [some (.ref 49), some (.int v1), some (.int v2), some (.int v3), some (.int v4), some (.int v5), some (.int v6)] [] := by
  unfold wX12_alone_J118_19 at hw
  exact cl_iinc hG (v6 + 1) (hx_dq tdX12_alone_1 31 rfl) rfl (congrArg (fun z => v6 + z) iconst_1) (Nat.le_of_ble_eq_true rfl) rfl (cl_goto hG 49 (hx_dq tdX12_alone_2 0 rfl) rfl (cl_sub hG (hx_le_c rfl (hx_le_c rfl (hx_le_c rfl (hx_le_c rfl (hx_le_c rfl (hx_le_c rfl (hx_le_c rfl hx_le_0))))))) (hk49 v4 (v6 + 1) hw)))
def wX12_alone_J112_16 (μ : hx_M) (K : Int32 → Prop) (K49 : Int32 → Int32 → Prop) (v1 : Int32) (v2 : Int32) (v3 : Int32) (v5 : Int32) (v6 : Int32) (t0 : Int32) (t1 : Int32)  : Prop := wX12_one t1 (fun r112_18 => wX12_alone_J118_19 μ K (K49) v1 v2 v3 (t0 + r112_18) v5 v6)
set_option maxRecDepth 100000 in
set_option maxHeartbeats 4000000 in
theorem kX12_alone_J112_16 {G : hx_GT} {KK : hx_KT} (hG : hx_K cX12_alone 7 0 0 (some .int) TbX12 KK G) (cA : hx_CA RX12 cX12_alone 4 0 0 G) {Λ : hx_L} (hF : mF Λ) {μ : hx_M} (v1 : Int32) (v2 : Int32) (v3 : Int32) (v5 : Int32) (v6 : Int32) (t0 : Int32) (t1 : Int32) {K : Int32 → Prop} (hK : ∀ (r : Int32), K r → KK (some (.int r)) Λ μ) {K49 : Int32 → Int32 → Prop} (hk49 : ∀ (v4 : Int32) (v6 : Int32), K49 v4 v6 → G Λ μ (0, 0) 49 [some (.ref 49), some (.int v1), some (.int v2), some (.int v3), some (.int v4), some (.int v5), some (.int v6)] []) (hw : wX12_alone_J112_16 μ K K49 v1 v2 v3 v5 v6 t0 t1) : G Λ μ (0, 0) 112 [some (.ref 49), some (.int v1), some (.int v2), some (.int v3), none, some (.int v5), some (.int v6)] [.int t1, .int t0] := by
  unfold wX12_alone_J112_16 at hw
  refine cl_callS1 (caX12_alone_396 cA) (hx_dq tdX12_alone_1 28 rfl) (Nat.le_of_ble_eq_true rfl) (Nat.le_refl _) (Nat.le_refl _) (sX12_one_mk hw (fun r112_18 hw => ?_))
  refine cl_iadd hG (hx_dq tdX12_alone_1 29 rfl) (cl_istore hG (hx_dq tdX12_alone_1 30 rfl) (Nat.le_of_ble_eq_true rfl) rfl ?_)
  exact cl_sub hG (hx_le_c rfl (hx_le_c rfl (hx_le_c rfl (hx_le_c rfl (hx_le_c rfl (hx_le_c rfl (hx_le_c rfl hx_le_0))))))) (kX12_alone_J118_19 hG cA hF v1 v2 v3 (t0 + r112_18) v5 v6 hK (fun z0 z1 hw => hk49 z0 z1 hw) hw)
def wX12_alone_L49 (μ : hx_M) (v1 : Int32) (v2 : Int32) (v3 : Int32) (v5 : Int32) (K : Int32 → Prop) (K124 : Int32 → Prop) : Nat → Int32 → Int32 → Prop
  | 0, _, _ => False
  | n + 1, v4, v6 => ((μ.1 49 0) ≤ v6 → (K124 v4)) ∧ (¬ ((μ.1 49 0) ≤ v6) → (wX12_isAlone μ v6 v5 v1 (fun r64_8 => (r64_8 = 0 → (wX12_alone_J118 μ K (wX12_alone_L49 μ v1 v2 v3 v5 K K124 n) v1 v2 v3 v4 v5 v6)) ∧ (¬ (r64_8 = 0) → (wX12_isAlone μ v6 (v5 - 1) v1 (fun r78_10 => (r78_10 = 0 → ((v3 = 0 → (wX12_alone_J107 μ K (wX12_alone_L49 μ v1 v2 v3 v5 K K124 n) v1 v2 v3 v5 v6 v4)) ∧ (¬ (v3 = 0) → (wX12_endsBy μ v6 v5 v1 v2 (fun r100_15 => (r100_15 ≠ v3 → (wX12_alone_J112_16 μ K (wX12_alone_L49 μ v1 v2 v3 v5 K K124 n) v1 v2 v3 v5 v6 v4 0)) ∧ (r100_15 = v3 → (wX12_alone_J107 μ K (wX12_alone_L49 μ v1 v2 v3 v5 K K124 n) v1 v2 v3 v5 v6 v4))))))) ∧ (¬ (r78_10 = 0) → (wX12_alone_J118 μ K (wX12_alone_L49 μ v1 v2 v3 v5 K K124 n) v1 v2 v3 v4 v5 v6))))))))
set_option maxRecDepth 100000 in
set_option maxHeartbeats 4000000 in
theorem kX12_alone_L49 {G : hx_GT} {KK : hx_KT} (hG : hx_K cX12_alone 7 0 0 (some .int) TbX12 KK G) (cA : hx_CA RX12 cX12_alone 4 0 0 G) {Λ : hx_L} (hF : mF Λ) {μ : hx_M} (v1 : Int32) (v2 : Int32) (v3 : Int32) (v5 : Int32) {K : Int32 → Prop} (hK : ∀ (r : Int32), K r → KK (some (.int r)) Λ μ) {K124 : Int32 → Prop} (hk124 : ∀ (v4 : Int32), K124 v4 → G Λ μ (0, 0) 124 [some (.ref 49), some (.int v1), some (.int v2), some (.int v3), some (.int v4), some (.int v5), none] []) : ∀ (n : Nat) (v4 : Int32) (v6 : Int32), wX12_alone_L49 μ v1 v2 v3 v5 K K124 n v4 v6 → G Λ μ (0, 0) 49 [some (.ref 49), some (.int v1), some (.int v2), some (.int v3), some (.int v4), some (.int v5), some (.int v6)] [] := by
  intro n
  induction n with
  | zero =>
    intro v4 v6 hw
    exact False.elim (by simpa only [wX12_alone_L49] using hw)
  | succ n ih =>
    intro v4 v6 hw
    unfold wX12_alone_L49 at hw
    refine cl_iload hG (hx_dq tdX12_alone_0 27 rfl) rfl (cl_aload_n hG (hx_dq tdX12_alone_0 28 rfl) rfl (cl_getI hG fmX12_154 (hx_dq tdX12_alone_0 29 rfl) (mF_S49 hF) (cl_icmp_ge hG 124 (hx_dq tdX12_alone_0 30 rfl) rfl (fun c55 => ?_) (fun c55 => ?_))))
    · replace hw := hw.1 c55
      exact cl_sub hG (hx_le_c rfl (hx_le_c rfl (hx_le_c rfl (hx_le_c rfl (hx_le_c rfl (hx_le_c rfl (hx_le_n hx_le_0))))))) (hk124 v4 hw)
    · replace hw := hw.2 c55
      refine cl_aload_n hG (hx_dq tdX12_alone_0 31 rfl) rfl (cl_iload hG (hx_dq tdX12_alone_1 0 rfl) rfl (cl_iload hG (hx_dq tdX12_alone_1 1 rfl) rfl (cl_iload_n hG (hx_dq tdX12_alone_1 2 rfl) rfl (cl_callV3 (caX12_alone_400 cA) (hx_dq tdX12_alone_1 3 rfl) (mF_S49 hF) (Nat.le_of_ble_eq_true rfl) (Nat.le_refl _) (Nat.le_refl _) (sX12_isAlone_mk hF hw (fun r64_8 hw => ?_))))))
      refine cl_if_eq hG 118 (hx_dq tdX12_alone_1 4 rfl) rfl (fun c67 => ?_) (fun c67 => ?_)
      · replace hw := hw.1 c67
        exact cl_sub hG (hx_le_c rfl (hx_le_c rfl (hx_le_c rfl (hx_le_c rfl (hx_le_c rfl (hx_le_c rfl (hx_le_c rfl hx_le_0))))))) (kX12_alone_J118 hG cA hF v1 v2 v3 v4 v5 v6 hK (fun z0 z1 hw => ih z0 z1 hw) hw)
      · replace hw := hw.2 c67
        refine cl_aload_n hG (hx_dq tdX12_alone_1 5 rfl) rfl (cl_iload hG (hx_dq tdX12_alone_1 6 rfl) rfl (cl_iload hG (hx_dq tdX12_alone_1 7 rfl) rfl (cl_iconst hG 1 (hx_dq tdX12_alone_1 8 rfl) iconst_1 (cl_isub hG (hx_dq tdX12_alone_1 9 rfl) (cl_iload_n hG (hx_dq tdX12_alone_1 10 rfl) rfl (cl_callV3 (caX12_alone_400 cA) (hx_dq tdX12_alone_1 11 rfl) (mF_S49 hF) (Nat.le_of_ble_eq_true rfl) (Nat.le_refl _) (Nat.le_refl _) (sX12_isAlone_mk hF hw (fun r78_10 hw => ?_))))))))
        refine cl_if_eq hG 87 (hx_dq tdX12_alone_1 12 rfl) rfl (fun c81 => ?_) (fun c81 => ?_)
        · replace hw := hw.1 c81
          refine cl_iload hG (hx_dq tdX12_alone_1 14 rfl) rfl (cl_iload_n hG (hx_dq tdX12_alone_1 15 rfl) rfl (cl_if_eq hG 107 (hx_dq tdX12_alone_1 16 rfl) rfl (fun c90 => ?_) (fun c90 => ?_)))
          · replace hw := hw.1 c90
            exact cl_sub hG (hx_le_c rfl (hx_le_c rfl (hx_le_c rfl (hx_le_c rfl (hx_le_n (hx_le_c rfl (hx_le_c rfl hx_le_0))))))) (kX12_alone_J107 hG cA hF v1 v2 v3 v5 v6 v4 hK (fun z0 z1 hw => ih z0 z1 hw) hw)
          · replace hw := hw.2 c90
            refine cl_aload_n hG (hx_dq tdX12_alone_1 17 rfl) rfl (cl_iload hG (hx_dq tdX12_alone_1 18 rfl) rfl (cl_iload hG (hx_dq tdX12_alone_1 19 rfl) rfl (cl_iload_n hG (hx_dq tdX12_alone_1 20 rfl) rfl (cl_iload_n hG (hx_dq tdX12_alone_1 21 rfl) rfl (cl_callV4 (caX12_alone_403 cA) (hx_dq tdX12_alone_1 22 rfl) (mF_S49 hF) (Nat.le_of_ble_eq_true rfl) (Nat.le_refl _) (Nat.le_refl _) (sX12_endsBy_mk hF hw (fun r100_15 hw => ?_)))))))
            refine cl_iload_n hG (hx_dq tdX12_alone_1 23 rfl) rfl (cl_icmp_ne hG 111 (hx_dq tdX12_alone_1 24 rfl) rfl (fun c104 => ?_) (fun c104 => ?_))
            · replace hw := hw.1 c104
              refine cl_iconst hG 0 (hx_dq tdX12_alone_1 27 rfl) iconst_0 ?_
              exact cl_sub hG (hx_le_c rfl (hx_le_c rfl (hx_le_c rfl (hx_le_c rfl (hx_le_n (hx_le_c rfl (hx_le_c rfl hx_le_0))))))) (kX12_alone_J112_16 hG cA hF v1 v2 v3 v5 v6 v4 0 hK (fun z0 z1 hw => ih z0 z1 hw) hw)
            · replace hw := hw.2 c104
              exact cl_sub hG (hx_le_c rfl (hx_le_c rfl (hx_le_c rfl (hx_le_c rfl (hx_le_n (hx_le_c rfl (hx_le_c rfl hx_le_0))))))) (kX12_alone_J107 hG cA hF v1 v2 v3 v5 v6 v4 hK (fun z0 z1 hw => ih z0 z1 hw) hw)
        · replace hw := hw.2 c81
          refine cl_goto hG 118 (hx_dq tdX12_alone_1 13 rfl) rfl ?_
          exact cl_sub hG (hx_le_c rfl (hx_le_c rfl (hx_le_c rfl (hx_le_c rfl (hx_le_c rfl (hx_le_c rfl (hx_le_c rfl hx_le_0))))))) (kX12_alone_J118 hG cA hF v1 v2 v3 v4 v5 v6 hK (fun z0 z1 hw => ih z0 z1 hw) hw)
def wX12_alone_L37 (μ : hx_M) (v1 : Int32) (v2 : Int32) (v3 : Int32) (K : Int32 → Prop)  : Nat → Int32 → Int32 → Prop
  | 0, _, _ => False
  | n + 1, v4, v5 => ((μ.1 49 1) < v5 → (K v4)) ∧ (¬ ((μ.1 49 1) < v5) → (∃ n49_21, wX12_alone_L49 μ v1 v2 v3 v5 K (fun v4_20 => wX12_alone_L37 μ v1 v2 v3 K n v4_20 (v5 + 1)) n49_21 v4 0))
set_option maxRecDepth 100000 in
set_option maxHeartbeats 4000000 in
theorem kX12_alone_L37 {G : hx_GT} {KK : hx_KT} (hG : hx_K cX12_alone 7 0 0 (some .int) TbX12 KK G) (cA : hx_CA RX12 cX12_alone 4 0 0 G) {Λ : hx_L} (hF : mF Λ) {μ : hx_M} (v1 : Int32) (v2 : Int32) (v3 : Int32) {K : Int32 → Prop} (hK : ∀ (r : Int32), K r → KK (some (.int r)) Λ μ)  : ∀ (n : Nat) (v4 : Int32) (v5 : Int32), wX12_alone_L37 μ v1 v2 v3 K n v4 v5 → G Λ μ (0, 0) 37 [some (.ref 49), some (.int v1), some (.int v2), some (.int v3), some (.int v4), some (.int v5), none] [] := by
  intro n
  induction n with
  | zero =>
    intro v4 v5 hw
    exact False.elim (by simpa only [wX12_alone_L37] using hw)
  | succ n ih =>
    intro v4 v5 hw
    unfold wX12_alone_L37 at hw
    refine cl_iload hG (hx_dq tdX12_alone_0 21 rfl) rfl (cl_aload_n hG (hx_dq tdX12_alone_0 22 rfl) rfl (cl_getI hG fmX12_161 (hx_dq tdX12_alone_0 23 rfl) (mF_S49 hF) (cl_icmp_gt hG 130 (hx_dq tdX12_alone_0 24 rfl) rfl (fun c43 => ?_) (fun c43 => ?_))))
    · replace hw := hw.1 c43
      exact cl_iload hG (hx_dq tdX12_alone_2 3 rfl) rfl (cl_iret hG (hx_dq tdX12_alone_2 4 rfl) rfl rfl (hK _ hw) (Nat.le_refl _) (Nat.le_refl _))
    · replace hw := hw.2 c43
      refine cl_iconst hG 0 (hx_dq tdX12_alone_0 25 rfl) iconst_0 (cl_istore hG (hx_dq tdX12_alone_0 26 rfl) (Nat.le_of_ble_eq_true rfl) rfl ?_)
      obtain ⟨n_, hw⟩ := hw
      refine cl_sub hG (hx_le_c rfl (hx_le_c rfl (hx_le_c rfl (hx_le_c rfl (hx_le_c rfl (hx_le_c rfl (hx_le_c rfl hx_le_0))))))) (kX12_alone_L49 hG cA hF v1 v2 v3 v5 hK (fun v4_20 hw => ?_) n_ v4 0 hw)
      · exact cl_iinc hG (v5 + 1) (hx_dq tdX12_alone_2 1 rfl) rfl (congrArg (fun z => v5 + z) iconst_1) (Nat.le_of_ble_eq_true rfl) rfl (cl_goto hG 37 (hx_dq tdX12_alone_2 2 rfl) rfl (cl_sub hG (hx_le_c rfl (hx_le_c rfl (hx_le_c rfl (hx_le_c rfl (hx_le_c rfl (hx_le_c rfl (hx_le_n hx_le_0))))))) (ih v4_20 (v5 + 1) hw)))
def wX12_alone (μ : hx_M) (v1 : Int32) (v2 : Int32) (v3 : Int32) (K : Int32 → Prop) : Prop := wX12_isIn v1 1 60 (fun r4_2 => (r4_2 = 0 → (K (-1))) ∧ (¬ (r4_2 = 0) → (wX12_isIn v2 1 20 (fun r14_4 => (r14_4 = 0 → (K (-1))) ∧ (¬ (r14_4 = 0) → (wX12_isIn v3 0 2 (fun r23_6 => (r23_6 ≠ 0 → (∃ n37_22, wX12_alone_L37 μ v1 v2 v3 K n37_22 0 1)) ∧ (r23_6 = 0 → (K (-1))))))))))
set_option maxRecDepth 100000 in
set_option maxHeartbeats 4000000 in
theorem kX12_alone {G : hx_GT} {KK : hx_KT} (hG : hx_K cX12_alone 7 0 0 (some .int) TbX12 KK G) (cA : hx_CA RX12 cX12_alone 4 0 0 G) {Λ : hx_L} (hF : mF Λ) {μ : hx_M} (v1 : Int32) (v2 : Int32) (v3 : Int32) {K : Int32 → Prop} (hK : ∀ (r : Int32), K r → KK (some (.int r)) Λ μ) (hw : wX12_alone μ v1 v2 v3 K) : G Λ μ (0, 0) 0 [some (.ref 49), some (.int v1), some (.int v2), some (.int v3), none, none, none] [] := by
  unfold wX12_alone at hw
  refine cl_iload_n hG (hx_dq tdX12_alone_0 0 rfl) rfl (cl_iconst hG 1 (hx_dq tdX12_alone_0 1 rfl) iconst_1 (cl_bipush hG 60 (hx_dq tdX12_alone_0 2 rfl) bipush_60 (cl_callS3 (caX12_alone_157 cA) (hx_dq tdX12_alone_0 3 rfl) (Nat.le_of_ble_eq_true rfl) (Nat.le_refl _) (Nat.le_refl _) (sX12_isIn_mk hw (fun r4_2 hw => ?_)))))
  refine cl_if_eq hG 29 (hx_dq tdX12_alone_0 4 rfl) rfl (fun c7 => ?_) (fun c7 => ?_)
  · replace hw := hw.1 c7
    exact cl_iconst hG (-1) (hx_dq tdX12_alone_0 15 rfl) iconst_m1 (cl_iret hG (hx_dq tdX12_alone_0 16 rfl) rfl rfl (hK _ hw) (Nat.le_refl _) (Nat.le_refl _))
  · replace hw := hw.2 c7
    refine cl_iload_n hG (hx_dq tdX12_alone_0 5 rfl) rfl (cl_iconst hG 1 (hx_dq tdX12_alone_0 6 rfl) iconst_1 (cl_bipush hG 20 (hx_dq tdX12_alone_0 7 rfl) bipush_20 (cl_callS3 (caX12_alone_157 cA) (hx_dq tdX12_alone_0 8 rfl) (Nat.le_of_ble_eq_true rfl) (Nat.le_refl _) (Nat.le_refl _) (sX12_isIn_mk hw (fun r14_4 hw => ?_)))))
    refine cl_if_eq hG 29 (hx_dq tdX12_alone_0 9 rfl) rfl (fun c17 => ?_) (fun c17 => ?_)
    · replace hw := hw.1 c17
      exact cl_iconst hG (-1) (hx_dq tdX12_alone_0 15 rfl) iconst_m1 (cl_iret hG (hx_dq tdX12_alone_0 16 rfl) rfl rfl (hK _ hw) (Nat.le_refl _) (Nat.le_refl _))
    · replace hw := hw.2 c17
      refine cl_iload_n hG (hx_dq tdX12_alone_0 10 rfl) rfl (cl_iconst hG 0 (hx_dq tdX12_alone_0 11 rfl) iconst_0 (cl_iconst hG 2 (hx_dq tdX12_alone_0 12 rfl) iconst_2 (cl_callS3 (caX12_alone_157 cA) (hx_dq tdX12_alone_0 13 rfl) (Nat.le_of_ble_eq_true rfl) (Nat.le_refl _) (Nat.le_refl _) (sX12_isIn_mk hw (fun r23_6 hw => ?_)))))
      refine cl_if_ne hG 31 (hx_dq tdX12_alone_0 14 rfl) rfl (fun c26 => ?_) (fun c26 => ?_)
      · replace hw := hw.1 c26
        refine cl_iconst hG 0 (hx_dq tdX12_alone_0 17 rfl) iconst_0 (cl_istore hG (hx_dq tdX12_alone_0 18 rfl) (Nat.le_of_ble_eq_true rfl) rfl (cl_iconst hG 1 (hx_dq tdX12_alone_0 19 rfl) iconst_1 (cl_istore hG (hx_dq tdX12_alone_0 20 rfl) (Nat.le_of_ble_eq_true rfl) rfl ?_)))
        obtain ⟨n_, hw⟩ := hw
        refine cl_sub hG (hx_le_c rfl (hx_le_c rfl (hx_le_c rfl (hx_le_c rfl (hx_le_c rfl (hx_le_c rfl (hx_le_n hx_le_0))))))) (kX12_alone_L37 hG cA hF v1 v2 v3 hK n_ 0 1 hw)
      · replace hw := hw.2 c26
        exact cl_iconst hG (-1) (hx_dq tdX12_alone_0 15 rfl) iconst_m1 (cl_iret hG (hx_dq tdX12_alone_0 16 rfl) rfl rfl (hK _ hw) (Nat.le_refl _) (Nat.le_refl _))
def sX12_alone : hx_ST := fun Λ μ as KK => mF Λ ∧ ∃ (v1 : Int32) (v2 : Int32) (v3 : Int32) (K : Int32 → Prop), as = [.ref 49, .int v1, .int v2, .int v3] ∧ wX12_alone μ v1 v2 v3 K ∧ (∀ (r : Int32), K r → KK (some (.int r)) Λ μ)
theorem sX12_alone_mk {Λ : hx_L} {μ : hx_M} {KK : hx_KT} {v1 : Int32} {v2 : Int32} {v3 : Int32} {K : Int32 → Prop} (hF : mF Λ) (hw : wX12_alone μ v1 v2 v3 K) (hk : ∀ (r : Int32), K r → KK (some (.int r)) Λ μ) : sX12_alone Λ μ [.ref 49, .int v1, .int v2, .int v3] KK := ⟨hF, _, _, _, _, rfl, hw, hk⟩
theorem conX12_alone : hx_Con yX12_alone cX12_alone 7 (some .int) 4 0 0 sX12_alone := by
  refine hx_con_of (by decide +kernel) tokX12 (by decide) ?_ ?_
  · intro Λ μ as KK h
    obtain ⟨hF, v1, v2, v3, K, rfl, hw, hK⟩ := h
    exact Nat.le_of_ble_eq_true rfl
  · intro G KK hG cA Λ μ as h
    obtain ⟨hF, v1, v2, v3, K, rfl, hw, hK⟩ := h
    exact cl_sub hG (hx_le_c rfl (hx_le_c rfl (hx_le_c rfl (hx_le_c rfl (hx_le_n (hx_le_n (hx_le_n hx_le_0))))))) (kX12_alone hG cA hF _ _ _ hK hw)
/-! HemLineModel.like(II)I -/
def tbX12_like_0 : List (Nat × Instr × Nat) := [(0, .iload_n 1, 1), (1, .iconst 1, 1), (2, .bipush 10, 2), (4, .invokestatic 157, 3), (7, .ifCond .eq 19, 3), (10, .iload_n 2, 1), (11, .iconst 0, 1), (12, .iconst 1, 1), (13, .invokestatic 157, 3), (16, .ifCond .eq 10, 3), (19, .aload_n 0, 1), (20, .getfield 154, 3), (23, .ifCond .ne 5, 3), (26, .iconst (-1), 1), (27, .ireturn, 1), (28, .iconst (-1), 1), (29, .istore_n 3, 1), (30, .iconst 0, 1), (31, .istore 4, 2), (33, .iload_n 1, 1), (34, .iconst 1, 1), (35, .isub, 1), (36, .istore 5, 2), (38, .iload 5, 2), (40, .aload_n 0, 1), (41, .getfield 161, 3), (44, .if_icmp .ge 78, 3), (47, .iconst 0, 1), (48, .istore 6, 2), (50, .iconst 0, 1), (51, .istore 7, 2), (53, .iload 7, 2)]
def tbX12_like_1 : List (Nat × Instr × Nat) := [(55, .iload_n 1, 1), (56, .if_icmp .ge 38, 3), (59, .iload 6, 2), (61, .aload_n 0, 1), (62, .iload 5, 2), (64, .iload 7, 2), (66, .isub, 1), (67, .invokevirtual 365, 3), (70, .aload_n 0, 1), (71, .aload_n 0, 1), (72, .getfield 161, 3), (75, .iload 7, 2), (77, .isub, 1), (78, .invokevirtual 365, 3), (81, .isub, 1), (82, .invokestatic 337, 3), (85, .iadd, 1), (86, .istore 6, 2), (88, .iinc 7 1, 3), (91, .goto (-38), 3), (94, .iload_n 3, 1), (95, .iconst (-1), 1), (96, .if_icmp .eq 13, 3), (99, .iload 6, 2), (101, .iload 4, 2), (103, .if_icmp .le 6, 3), (106, .goto 10, 3), (109, .iload 5, 2), (111, .istore_n 3, 1), (112, .iload 6, 2), (114, .istore 4, 2), (116, .iinc 5 1, 3)]
def tbX12_like_2 : List (Nat × Instr × Nat) := [(119, .goto (-81), 3), (122, .iload_n 3, 1), (123, .iconst (-1), 1), (124, .if_icmp .eq 7, 3), (127, .iload_n 2, 1), (128, .ifCond .ne 7, 3), (131, .iload_n 3, 1), (132, .goto 25, 3), (135, .aload_n 0, 1), (136, .iload_n 3, 1), (137, .iconst 1, 1), (138, .iadd, 1), (139, .invokevirtual 365, 3), (142, .aload_n 0, 1), (143, .aload_n 0, 1), (144, .getfield 161, 3), (147, .invokevirtual 365, 3), (150, .iadd, 1), (151, .aload_n 0, 1), (152, .iload_n 3, 1), (153, .invokevirtual 365, 3), (156, .isub, 1), (157, .ireturn, 1)]
theorem tdX12_like_0 : hx_dt cX12_like tbX12_like_0 = true := by decide +kernel
theorem tdX12_like_1 : hx_dt cX12_like tbX12_like_1 = true := by decide +kernel
theorem tdX12_like_2 : hx_dt cX12_like tbX12_like_2 = true := by decide +kernel
theorem caX12_like_157 {G : hx_GT} (cA : hx_CA RX12 cX12_like 3 0 0 G) : hx_CS cX12_like G 0 0 157 3 sX12_isIn 0 0 := cA.2.1 conX12_isIn ⟨by decide +kernel, by decide +kernel, by decide +kernel⟩ mw_1343 mw_1344 mw_97 mw_1345 (by decide) (by decide)
theorem caX12_like_365 {G : hx_GT} (cA : hx_CA RX12 cX12_like 3 0 0 G) : hx_CV cX12_like G 0 0 365 12 1 sX12_lineAt 0 0 := cA.1 conX12_lineAt rfl rfl ⟨by decide +kernel, by decide +kernel, by decide +kernel⟩ mw_1535 mw_1537 mw_64 mw_97 mw_1538 (by decide) (by decide)
def wX12_like_L53 (μ : hx_M) (v1 : Int32) (v2 : Int32) (v3 : Int32) (v4 : Int32) (v5 : Int32) (K : Int32 → Prop) (K94 : Int32 → Prop) : Nat → Int32 → Int32 → Prop
  | 0, _, _ => False
  | n + 1, v6, v7 => (v1 ≤ v7 → (K94 v6)) ∧ (¬ (v1 ≤ v7) → (wX12_lineAt μ (v5 - v7) (fun r67_6 => wX12_lineAt μ ((μ.1 49 1) - v7) (fun r78_8 => ∀ x_9 : Int32, x_9 = (if 0 ≤ (r67_6 - r78_8) then (r67_6 - r78_8) else 0 - (r67_6 - r78_8)) → wX12_like_L53 μ v1 v2 v3 v4 v5 K K94 n (v6 + x_9) (v7 + 1)))))
set_option maxRecDepth 100000 in
set_option maxHeartbeats 4000000 in
theorem kX12_like_L53 {G : hx_GT} {KK : hx_KT} (hG : hx_K cX12_like 8 0 0 (some .int) TbX12 KK G) (cA : hx_CA RX12 cX12_like 3 0 0 G) {Λ : hx_L} (hF : mF Λ) {μ : hx_M} (v1 : Int32) (v2 : Int32) (v3 : Int32) (v4 : Int32) (v5 : Int32) {K : Int32 → Prop} (hK : ∀ (r : Int32), K r → KK (some (.int r)) Λ μ) {K94 : Int32 → Prop} (hk94 : ∀ (v6 : Int32), K94 v6 → G Λ μ (0, 0) 94 [some (.ref 49), some (.int v1), some (.int v2), some (.int v3), some (.int v4), some (.int v5), some (.int v6), none] []) : ∀ (n : Nat) (v6 : Int32) (v7 : Int32), wX12_like_L53 μ v1 v2 v3 v4 v5 K K94 n v6 v7 → G Λ μ (0, 0) 53 [some (.ref 49), some (.int v1), some (.int v2), some (.int v3), some (.int v4), some (.int v5), some (.int v6), some (.int v7)] [] := by
  intro n
  induction n with
  | zero =>
    intro v6 v7 hw
    exact False.elim (by simpa only [wX12_like_L53] using hw)
  | succ n ih =>
    intro v6 v7 hw
    unfold wX12_like_L53 at hw
    refine cl_iload hG (hx_dq tdX12_like_0 31 rfl) rfl (cl_iload_n hG (hx_dq tdX12_like_1 0 rfl) rfl (cl_icmp_ge hG 94 (hx_dq tdX12_like_1 1 rfl) rfl (fun c56 => ?_) (fun c56 => ?_)))
    · replace hw := hw.1 c56
      exact cl_sub hG (hx_le_c rfl (hx_le_c rfl (hx_le_c rfl (hx_le_c rfl (hx_le_c rfl (hx_le_c rfl (hx_le_c rfl (hx_le_n hx_le_0)))))))) (hk94 v6 hw)
    · replace hw := hw.2 c56
      refine cl_iload hG (hx_dq tdX12_like_1 2 rfl) rfl (cl_aload_n hG (hx_dq tdX12_like_1 3 rfl) rfl (cl_iload hG (hx_dq tdX12_like_1 4 rfl) rfl (cl_iload hG (hx_dq tdX12_like_1 5 rfl) rfl (cl_isub hG (hx_dq tdX12_like_1 6 rfl) (cl_callV1 (caX12_like_365 cA) (hx_dq tdX12_like_1 7 rfl) (mF_S49 hF) (Nat.le_of_ble_eq_true rfl) (Nat.le_refl _) (Nat.le_refl _) (sX12_lineAt_mk hF hw (fun r67_6 hw => ?_)))))))
      refine cl_aload_n hG (hx_dq tdX12_like_1 8 rfl) rfl (cl_aload_n hG (hx_dq tdX12_like_1 9 rfl) rfl (cl_getI hG fmX12_161 (hx_dq tdX12_like_1 10 rfl) (mF_S49 hF) (cl_iload hG (hx_dq tdX12_like_1 11 rfl) rfl (cl_isub hG (hx_dq tdX12_like_1 12 rfl) (cl_callV1 (caX12_like_365 cA) (hx_dq tdX12_like_1 13 rfl) (mF_S49 hF) (Nat.le_of_ble_eq_true rfl) (Nat.le_refl _) (Nat.le_refl _) (sX12_lineAt_mk hF hw (fun r78_8 hw => ?_)))))))
      refine cl_isub hG (hx_dq tdX12_like_1 14 rfl) (cl_mabs hG mmX12_337 (hx_dq tdX12_like_1 15 rfl) (Nat.le_refl _) (Nat.le_refl _) (Nat.le_of_ble_eq_true rfl) (cl_nmI (fun x_9 e_9 => ?_)))
      replace hw := hw x_9 e_9
      exact cl_iadd hG (hx_dq tdX12_like_1 16 rfl) (cl_istore hG (hx_dq tdX12_like_1 17 rfl) (Nat.le_of_ble_eq_true rfl) rfl (cl_iinc hG (v7 + 1) (hx_dq tdX12_like_1 18 rfl) rfl (congrArg (fun z => v7 + z) iconst_1) (Nat.le_of_ble_eq_true rfl) rfl (cl_goto hG 53 (hx_dq tdX12_like_1 19 rfl) rfl (cl_sub hG (hx_le_c rfl (hx_le_c rfl (hx_le_c rfl (hx_le_c rfl (hx_le_c rfl (hx_le_c rfl (hx_le_c rfl (hx_le_c rfl hx_le_0)))))))) (ih (v6 + x_9) (v7 + 1) hw)))))
def wX12_like_J116 (μ : hx_M) (K : Int32 → Prop) (K38 : Int32 → Int32 → Int32 → Prop) (v1 : Int32) (v2 : Int32) (v3 : Int32) (v4 : Int32) (v5 : Int32)   : Prop := K38 v3 v4 (v5 + 1)
set_option maxRecDepth 100000 in
set_option maxHeartbeats 4000000 in
theorem kX12_like_J116 {G : hx_GT} {KK : hx_KT} (hG : hx_K cX12_like 8 0 0 (some .int) TbX12 KK G) (cA : hx_CA RX12 cX12_like 3 0 0 G) {Λ : hx_L} (hF : mF Λ) {μ : hx_M} (v1 : Int32) (v2 : Int32) (v3 : Int32) (v4 : Int32) (v5 : Int32)  {K : Int32 → Prop} (hK : ∀ (r : Int32), K r → KK (some (.int r)) Λ μ) {K38 : Int32 → Int32 → Int32 → Prop} (hk38 : ∀ (v3 : Int32) (v4 : Int32) (v5 : Int32), K38 v3 v4 v5 → G Λ μ (0, 0) 38 [some (.ref 49), some (.int v1), some (.int v2), some (.int v3), some (.int v4), some (.int v5), none, none] []) (hw : wX12_like_J116 μ K K38 v1 v2 v3 v4 v5) : G Λ μ (0, 0) 116 [some (.ref 49), some (.int v1), some (.int v2), some (.int v3), some (.int v4), some (.int v5), none, none] [] := by
  unfold wX12_like_J116 at hw
  exact cl_iinc hG (v5 + 1) (hx_dq tdX12_like_1 31 rfl) rfl (congrArg (fun z => v5 + z) iconst_1) (Nat.le_of_ble_eq_true rfl) rfl (cl_goto hG 38 (hx_dq tdX12_like_2 0 rfl) rfl (cl_sub hG (hx_le_c rfl (hx_le_c rfl (hx_le_c rfl (hx_le_c rfl (hx_le_c rfl (hx_le_c rfl (hx_le_n (hx_le_n hx_le_0)))))))) (hk38 v3 v4 (v5 + 1) hw)))
def wX12_like_J109 (μ : hx_M) (K : Int32 → Prop) (K38 : Int32 → Int32 → Int32 → Prop) (v1 : Int32) (v2 : Int32) (v5 : Int32) (v6 : Int32)   : Prop := wX12_like_J116 μ K (K38) v1 v2 v5 v6 v5
set_option maxRecDepth 100000 in
set_option maxHeartbeats 4000000 in
theorem kX12_like_J109 {G : hx_GT} {KK : hx_KT} (hG : hx_K cX12_like 8 0 0 (some .int) TbX12 KK G) (cA : hx_CA RX12 cX12_like 3 0 0 G) {Λ : hx_L} (hF : mF Λ) {μ : hx_M} (v1 : Int32) (v2 : Int32) (v5 : Int32) (v6 : Int32)  {K : Int32 → Prop} (hK : ∀ (r : Int32), K r → KK (some (.int r)) Λ μ) {K38 : Int32 → Int32 → Int32 → Prop} (hk38 : ∀ (v3 : Int32) (v4 : Int32) (v5 : Int32), K38 v3 v4 v5 → G Λ μ (0, 0) 38 [some (.ref 49), some (.int v1), some (.int v2), some (.int v3), some (.int v4), some (.int v5), none, none] []) (hw : wX12_like_J109 μ K K38 v1 v2 v5 v6) : G Λ μ (0, 0) 109 [some (.ref 49), some (.int v1), some (.int v2), none, none, some (.int v5), some (.int v6), none] [] := by
  unfold wX12_like_J109 at hw
  refine cl_iload hG (hx_dq tdX12_like_1 27 rfl) rfl (cl_istore_n hG (hx_dq tdX12_like_1 28 rfl) (Nat.le_of_ble_eq_true rfl) rfl (cl_iload hG (hx_dq tdX12_like_1 29 rfl) rfl (cl_istore hG (hx_dq tdX12_like_1 30 rfl) (Nat.le_of_ble_eq_true rfl) rfl ?_)))
  exact cl_sub hG (hx_le_c rfl (hx_le_c rfl (hx_le_c rfl (hx_le_c rfl (hx_le_c rfl (hx_le_c rfl (hx_le_n (hx_le_n hx_le_0)))))))) (kX12_like_J116 hG cA hF v1 v2 v5 v6 v5 hK (fun z0 z1 z2 hw => hk38 z0 z1 z2 hw) hw)
def wX12_like_J116_11 (μ : hx_M) (K : Int32 → Prop) (K38 : Int32 → Int32 → Int32 → Prop) (v1 : Int32) (v2 : Int32) (v3 : Int32) (v4 : Int32) (v5 : Int32)   : Prop := K38 v3 v4 (v5 + 1)
set_option maxRecDepth 100000 in
set_option maxHeartbeats 4000000 in
theorem kX12_like_J116_11 {G : hx_GT} {KK : hx_KT} (hG : hx_K cX12_like 8 0 0 (some .int) TbX12 KK G) (cA : hx_CA RX12 cX12_like 3 0 0 G) {Λ : hx_L} (hF : mF Λ) {μ : hx_M} (v1 : Int32) (v2 : Int32) (v3 : Int32) (v4 : Int32) (v5 : Int32)  {K : Int32 → Prop} (hK : ∀ (r : Int32), K r → KK (some (.int r)) Λ μ) {K38 : Int32 → Int32 → Int32 → Prop} (hk38 : ∀ (v3 : Int32) (v4 : Int32) (v5 : Int32), K38 v3 v4 v5 → G Λ μ (0, 0) 38 [some (.ref 49), some (.int v1), some (.int v2), some (.int v3), some (.int v4), some (.int v5), none, none] []) (hw : wX12_like_J116_11 μ K K38 v1 v2 v3 v4 v5) : G Λ μ (0, 0) 116 [some (.ref 49), some (.int v1), some (.int v2), some (.int v3), some (.int v4), some (.int v5), none, none] [] := by
  unfold wX12_like_J116_11 at hw
  exact cl_iinc hG (v5 + 1) (hx_dq tdX12_like_1 31 rfl) rfl (congrArg (fun z => v5 + z) iconst_1) (Nat.le_of_ble_eq_true rfl) rfl (cl_goto hG 38 (hx_dq tdX12_like_2 0 rfl) rfl (cl_sub hG (hx_le_c rfl (hx_le_c rfl (hx_le_c rfl (hx_le_c rfl (hx_le_c rfl (hx_le_c rfl (hx_le_n (hx_le_n hx_le_0)))))))) (hk38 v3 v4 (v5 + 1) hw)))
def wX12_like_L38 (μ : hx_M) (v1 : Int32) (v2 : Int32) (K : Int32 → Prop) (K122 : Int32 → Prop) : Nat → Int32 → Int32 → Int32 → Prop
  | 0, _, _, _ => False
  | n + 1, v3, v4, v5 => ((μ.1 49 1) ≤ v5 → (K122 v3)) ∧ (¬ ((μ.1 49 1) ≤ v5) → (∃ n53_12, wX12_like_L53 μ v1 v2 v3 v4 v5 K (fun v6_10 => (v3 = (-1) → (wX12_like_J109 μ K (wX12_like_L38 μ v1 v2 K K122 n) v1 v2 v5 v6_10)) ∧ (¬ (v3 = (-1)) → ((v6_10 ≤ v4 → (wX12_like_J109 μ K (wX12_like_L38 μ v1 v2 K K122 n) v1 v2 v5 v6_10)) ∧ (¬ (v6_10 ≤ v4) → (wX12_like_J116_11 μ K (wX12_like_L38 μ v1 v2 K K122 n) v1 v2 v3 v4 v5))))) n53_12 0 0))
set_option maxRecDepth 100000 in
set_option maxHeartbeats 4000000 in
theorem kX12_like_L38 {G : hx_GT} {KK : hx_KT} (hG : hx_K cX12_like 8 0 0 (some .int) TbX12 KK G) (cA : hx_CA RX12 cX12_like 3 0 0 G) {Λ : hx_L} (hF : mF Λ) {μ : hx_M} (v1 : Int32) (v2 : Int32) {K : Int32 → Prop} (hK : ∀ (r : Int32), K r → KK (some (.int r)) Λ μ) {K122 : Int32 → Prop} (hk122 : ∀ (v3 : Int32), K122 v3 → G Λ μ (0, 0) 122 [some (.ref 49), none, some (.int v2), some (.int v3), none, none, none, none] []) : ∀ (n : Nat) (v3 : Int32) (v4 : Int32) (v5 : Int32), wX12_like_L38 μ v1 v2 K K122 n v3 v4 v5 → G Λ μ (0, 0) 38 [some (.ref 49), some (.int v1), some (.int v2), some (.int v3), some (.int v4), some (.int v5), none, none] [] := by
  intro n
  induction n with
  | zero =>
    intro v3 v4 v5 hw
    exact False.elim (by simpa only [wX12_like_L38] using hw)
  | succ n ih =>
    intro v3 v4 v5 hw
    unfold wX12_like_L38 at hw
    refine cl_iload hG (hx_dq tdX12_like_0 23 rfl) rfl (cl_aload_n hG (hx_dq tdX12_like_0 24 rfl) rfl (cl_getI hG fmX12_161 (hx_dq tdX12_like_0 25 rfl) (mF_S49 hF) (cl_icmp_ge hG 122 (hx_dq tdX12_like_0 26 rfl) rfl (fun c44 => ?_) (fun c44 => ?_))))
    · replace hw := hw.1 c44
      exact cl_sub hG (hx_le_c rfl (hx_le_n (hx_le_c rfl (hx_le_c rfl (hx_le_n (hx_le_n (hx_le_n (hx_le_n hx_le_0)))))))) (hk122 v3 hw)
    · replace hw := hw.2 c44
      refine cl_iconst hG 0 (hx_dq tdX12_like_0 27 rfl) iconst_0 (cl_istore hG (hx_dq tdX12_like_0 28 rfl) (Nat.le_of_ble_eq_true rfl) rfl (cl_iconst hG 0 (hx_dq tdX12_like_0 29 rfl) iconst_0 (cl_istore hG (hx_dq tdX12_like_0 30 rfl) (Nat.le_of_ble_eq_true rfl) rfl ?_)))
      obtain ⟨n_, hw⟩ := hw
      refine cl_sub hG (hx_le_c rfl (hx_le_c rfl (hx_le_c rfl (hx_le_c rfl (hx_le_c rfl (hx_le_c rfl (hx_le_c rfl (hx_le_c rfl hx_le_0)))))))) (kX12_like_L53 hG cA hF v1 v2 v3 v4 v5 hK (fun v6_10 hw => ?_) n_ 0 0 hw)
      · refine cl_iload_n hG (hx_dq tdX12_like_1 20 rfl) rfl (cl_iconst hG (-1) (hx_dq tdX12_like_1 21 rfl) iconst_m1 (cl_icmp_eq hG 109 (hx_dq tdX12_like_1 22 rfl) rfl (fun c96 => ?_) (fun c96 => ?_)))
        · replace hw := hw.1 c96
          exact cl_sub hG (hx_le_c rfl (hx_le_c rfl (hx_le_c rfl (hx_le_n (hx_le_n (hx_le_c rfl (hx_le_c rfl (hx_le_n hx_le_0)))))))) (kX12_like_J109 hG cA hF v1 v2 v5 v6_10 hK (fun z0 z1 z2 hw => ih z0 z1 z2 hw) hw)
        · replace hw := hw.2 c96
          refine cl_iload hG (hx_dq tdX12_like_1 23 rfl) rfl (cl_iload hG (hx_dq tdX12_like_1 24 rfl) rfl (cl_icmp_le hG 109 (hx_dq tdX12_like_1 25 rfl) rfl (fun c103 => ?_) (fun c103 => ?_)))
          · replace hw := hw.1 c103
            exact cl_sub hG (hx_le_c rfl (hx_le_c rfl (hx_le_c rfl (hx_le_n (hx_le_n (hx_le_c rfl (hx_le_c rfl (hx_le_n hx_le_0)))))))) (kX12_like_J109 hG cA hF v1 v2 v5 v6_10 hK (fun z0 z1 z2 hw => ih z0 z1 z2 hw) hw)
          · replace hw := hw.2 c103
            refine cl_goto hG 116 (hx_dq tdX12_like_1 26 rfl) rfl ?_
            exact cl_sub hG (hx_le_c rfl (hx_le_c rfl (hx_le_c rfl (hx_le_c rfl (hx_le_c rfl (hx_le_c rfl (hx_le_n (hx_le_n hx_le_0)))))))) (kX12_like_J116_11 hG cA hF v1 v2 v3 v4 v5 hK (fun z0 z1 z2 hw => ih z0 z1 z2 hw) hw)
def wX12_like (μ : hx_M) (v1 : Int32) (v2 : Int32) (K : Int32 → Prop) : Prop := wX12_isIn v1 1 10 (fun r4_2 => (r4_2 = 0 → (K (-1))) ∧ (¬ (r4_2 = 0) → (wX12_isIn v2 0 1 (fun r13_4 => (r13_4 = 0 → (K (-1))) ∧ (¬ (r13_4 = 0) → (((μ.1 49 0) ≠ 0 → (∃ n38_20, wX12_like_L38 μ v1 v2 K (fun v3_13 => (v3_13 = (-1) → (K v3_13)) ∧ (¬ (v3_13 = (-1)) → ((v2 ≠ 0 → (wX12_lineAt μ (v3_13 + 1) (fun r139_15 => wX12_lineAt μ (μ.1 49 1) (fun r147_17 => wX12_lineAt μ v3_13 (fun r153_19 => K ((r139_15 + r147_17) - r153_19)))))) ∧ (v2 = 0 → (K v3_13))))) n38_20 (-1) 0 (v1 - 1))) ∧ ((μ.1 49 0) = 0 → (K (-1)))))))))
set_option maxRecDepth 100000 in
set_option maxHeartbeats 4000000 in
theorem kX12_like {G : hx_GT} {KK : hx_KT} (hG : hx_K cX12_like 8 0 0 (some .int) TbX12 KK G) (cA : hx_CA RX12 cX12_like 3 0 0 G) {Λ : hx_L} (hF : mF Λ) {μ : hx_M} (v1 : Int32) (v2 : Int32) {K : Int32 → Prop} (hK : ∀ (r : Int32), K r → KK (some (.int r)) Λ μ) (hw : wX12_like μ v1 v2 K) : G Λ μ (0, 0) 0 [some (.ref 49), some (.int v1), some (.int v2), none, none, none, none, none] [] := by
  unfold wX12_like at hw
  refine cl_iload_n hG (hx_dq tdX12_like_0 0 rfl) rfl (cl_iconst hG 1 (hx_dq tdX12_like_0 1 rfl) iconst_1 (cl_bipush hG 10 (hx_dq tdX12_like_0 2 rfl) bipush_10 (cl_callS3 (caX12_like_157 cA) (hx_dq tdX12_like_0 3 rfl) (Nat.le_of_ble_eq_true rfl) (Nat.le_refl _) (Nat.le_refl _) (sX12_isIn_mk hw (fun r4_2 hw => ?_)))))
  refine cl_if_eq hG 26 (hx_dq tdX12_like_0 4 rfl) rfl (fun c7 => ?_) (fun c7 => ?_)
  · replace hw := hw.1 c7
    exact cl_iconst hG (-1) (hx_dq tdX12_like_0 13 rfl) iconst_m1 (cl_iret hG (hx_dq tdX12_like_0 14 rfl) rfl rfl (hK _ hw) (Nat.le_refl _) (Nat.le_refl _))
  · replace hw := hw.2 c7
    refine cl_iload_n hG (hx_dq tdX12_like_0 5 rfl) rfl (cl_iconst hG 0 (hx_dq tdX12_like_0 6 rfl) iconst_0 (cl_iconst hG 1 (hx_dq tdX12_like_0 7 rfl) iconst_1 (cl_callS3 (caX12_like_157 cA) (hx_dq tdX12_like_0 8 rfl) (Nat.le_of_ble_eq_true rfl) (Nat.le_refl _) (Nat.le_refl _) (sX12_isIn_mk hw (fun r13_4 hw => ?_)))))
    refine cl_if_eq hG 26 (hx_dq tdX12_like_0 9 rfl) rfl (fun c16 => ?_) (fun c16 => ?_)
    · replace hw := hw.1 c16
      exact cl_iconst hG (-1) (hx_dq tdX12_like_0 13 rfl) iconst_m1 (cl_iret hG (hx_dq tdX12_like_0 14 rfl) rfl rfl (hK _ hw) (Nat.le_refl _) (Nat.le_refl _))
    · replace hw := hw.2 c16
      refine cl_aload_n hG (hx_dq tdX12_like_0 10 rfl) rfl (cl_getI hG fmX12_154 (hx_dq tdX12_like_0 11 rfl) (mF_S49 hF) (cl_if_ne hG 28 (hx_dq tdX12_like_0 12 rfl) rfl (fun c23 => ?_) (fun c23 => ?_)))
      · replace hw := hw.1 c23
        refine cl_iconst hG (-1) (hx_dq tdX12_like_0 15 rfl) iconst_m1 (cl_istore_n hG (hx_dq tdX12_like_0 16 rfl) (Nat.le_of_ble_eq_true rfl) rfl (cl_iconst hG 0 (hx_dq tdX12_like_0 17 rfl) iconst_0 (cl_istore hG (hx_dq tdX12_like_0 18 rfl) (Nat.le_of_ble_eq_true rfl) rfl (cl_iload_n hG (hx_dq tdX12_like_0 19 rfl) rfl (cl_iconst hG 1 (hx_dq tdX12_like_0 20 rfl) iconst_1 (cl_isub hG (hx_dq tdX12_like_0 21 rfl) (cl_istore hG (hx_dq tdX12_like_0 22 rfl) (Nat.le_of_ble_eq_true rfl) rfl ?_)))))))
        obtain ⟨n_, hw⟩ := hw
        refine cl_sub hG (hx_le_c rfl (hx_le_c rfl (hx_le_c rfl (hx_le_c rfl (hx_le_c rfl (hx_le_c rfl (hx_le_n (hx_le_n hx_le_0)))))))) (kX12_like_L38 hG cA hF v1 v2 hK (fun v3_13 hw => ?_) n_ (-1) 0 (v1 - 1) hw)
        · refine cl_iload_n hG (hx_dq tdX12_like_2 1 rfl) rfl (cl_iconst hG (-1) (hx_dq tdX12_like_2 2 rfl) iconst_m1 (cl_icmp_eq hG 131 (hx_dq tdX12_like_2 3 rfl) rfl (fun c124 => ?_) (fun c124 => ?_)))
          · replace hw := hw.1 c124
            exact cl_iload_n hG (hx_dq tdX12_like_2 6 rfl) rfl (cl_goto hG 157 (hx_dq tdX12_like_2 7 rfl) rfl (cl_iret hG (hx_dq tdX12_like_2 22 rfl) rfl rfl (hK _ hw) (Nat.le_refl _) (Nat.le_refl _)))
          · replace hw := hw.2 c124
            refine cl_iload_n hG (hx_dq tdX12_like_2 4 rfl) rfl (cl_if_ne hG 135 (hx_dq tdX12_like_2 5 rfl) rfl (fun c128 => ?_) (fun c128 => ?_))
            · replace hw := hw.1 c128
              refine cl_aload_n hG (hx_dq tdX12_like_2 8 rfl) rfl (cl_iload_n hG (hx_dq tdX12_like_2 9 rfl) rfl (cl_iconst hG 1 (hx_dq tdX12_like_2 10 rfl) iconst_1 (cl_iadd hG (hx_dq tdX12_like_2 11 rfl) (cl_callV1 (caX12_like_365 cA) (hx_dq tdX12_like_2 12 rfl) (mF_S49 hF) (Nat.le_of_ble_eq_true rfl) (Nat.le_refl _) (Nat.le_refl _) (sX12_lineAt_mk hF hw (fun r139_15 hw => ?_))))))
              refine cl_aload_n hG (hx_dq tdX12_like_2 13 rfl) rfl (cl_aload_n hG (hx_dq tdX12_like_2 14 rfl) rfl (cl_getI hG fmX12_161 (hx_dq tdX12_like_2 15 rfl) (mF_S49 hF) (cl_callV1 (caX12_like_365 cA) (hx_dq tdX12_like_2 16 rfl) (mF_S49 hF) (Nat.le_of_ble_eq_true rfl) (Nat.le_refl _) (Nat.le_refl _) (sX12_lineAt_mk hF hw (fun r147_17 hw => ?_)))))
              refine cl_iadd hG (hx_dq tdX12_like_2 17 rfl) (cl_aload_n hG (hx_dq tdX12_like_2 18 rfl) rfl (cl_iload_n hG (hx_dq tdX12_like_2 19 rfl) rfl (cl_callV1 (caX12_like_365 cA) (hx_dq tdX12_like_2 20 rfl) (mF_S49 hF) (Nat.le_of_ble_eq_true rfl) (Nat.le_refl _) (Nat.le_refl _) (sX12_lineAt_mk hF hw (fun r153_19 hw => ?_)))))
              exact cl_isub hG (hx_dq tdX12_like_2 21 rfl) (cl_iret hG (hx_dq tdX12_like_2 22 rfl) rfl rfl (hK _ hw) (Nat.le_refl _) (Nat.le_refl _))
            · replace hw := hw.2 c128
              exact cl_iload_n hG (hx_dq tdX12_like_2 6 rfl) rfl (cl_goto hG 157 (hx_dq tdX12_like_2 7 rfl) rfl (cl_iret hG (hx_dq tdX12_like_2 22 rfl) rfl rfl (hK _ hw) (Nat.le_refl _) (Nat.le_refl _)))
      · replace hw := hw.2 c23
        exact cl_iconst hG (-1) (hx_dq tdX12_like_0 13 rfl) iconst_m1 (cl_iret hG (hx_dq tdX12_like_0 14 rfl) rfl rfl (hK _ hw) (Nat.le_refl _) (Nat.le_refl _))
def sX12_like : hx_ST := fun Λ μ as KK => mF Λ ∧ ∃ (v1 : Int32) (v2 : Int32) (K : Int32 → Prop), as = [.ref 49, .int v1, .int v2] ∧ wX12_like μ v1 v2 K ∧ (∀ (r : Int32), K r → KK (some (.int r)) Λ μ)
theorem sX12_like_mk {Λ : hx_L} {μ : hx_M} {KK : hx_KT} {v1 : Int32} {v2 : Int32} {K : Int32 → Prop} (hF : mF Λ) (hw : wX12_like μ v1 v2 K) (hk : ∀ (r : Int32), K r → KK (some (.int r)) Λ μ) : sX12_like Λ μ [.ref 49, .int v1, .int v2] KK := ⟨hF, _, _, _, rfl, hw, hk⟩
theorem conX12_like : hx_Con yX12_like cX12_like 8 (some .int) 3 0 0 sX12_like := by
  refine hx_con_of (by decide +kernel) tokX12 (by decide) ?_ ?_
  · intro Λ μ as KK h
    obtain ⟨hF, v1, v2, K, rfl, hw, hK⟩ := h
    exact Nat.le_of_ble_eq_true rfl
  · intro G KK hG cA Λ μ as h
    obtain ⟨hF, v1, v2, K, rfl, hw, hK⟩ := h
    exact cl_sub hG (hx_le_c rfl (hx_le_c rfl (hx_le_c rfl (hx_le_n (hx_le_n (hx_le_n (hx_le_n (hx_le_n hx_le_0)))))))) (kX12_like hG cA hF _ _ hK hw)
/-! HemLineModel.streets()V -/
def tbX12_streets_0 : List (Nat × Instr × Nat) := [(0, .iconst 0, 1), (1, .istore_n 1, 1), (2, .iload_n 1, 1), (3, .aload_n 0, 1), (4, .getfield 154, 3), (7, .if_icmp .ge 16, 3), (10, .aload_n 0, 1), (11, .getfield 110, 3), (14, .iload_n 1, 1), (15, .iload_n 1, 1), (16, .iastore, 1), (17, .iinc 1 1, 3), (20, .goto (-18), 3), (23, .iconst 1, 1), (24, .istore_n 1, 1), (25, .iload_n 1, 1), (26, .ifCond .eq 98, 3), (29, .iconst 0, 1), (30, .istore_n 1, 1), (31, .iconst 0, 1), (32, .istore_n 2, 1), (33, .iload_n 2, 1), (34, .aload_n 0, 1), (35, .getfield 154, 3), (38, .if_icmp .ge 83, 3), (41, .iconst 0, 1), (42, .istore_n 3, 1), (43, .iload_n 3, 1), (44, .aload_n 0, 1), (45, .getfield 154, 3), (48, .if_icmp .ge 67, 3), (51, .aload_n 0, 1)]
def tbX12_streets_1 : List (Nat × Instr × Nat) := [(52, .getfield 26, 3), (55, .iload_n 2, 1), (56, .iaload, 1), (57, .iload_n 3, 1), (58, .invokestatic 299, 3), (61, .ifCond .ne 16, 3), (64, .aload_n 0, 1), (65, .getfield 26, 3), (68, .iload_n 3, 1), (69, .iaload, 1), (70, .iload_n 2, 1), (71, .invokestatic 299, 3), (74, .ifCond .eq 35, 3), (77, .aload_n 0, 1), (78, .getfield 110, 3), (81, .iload_n 3, 1), (82, .iaload, 1), (83, .aload_n 0, 1), (84, .getfield 110, 3), (87, .iload_n 2, 1), (88, .iaload, 1), (89, .if_icmp .lt 6, 3), (92, .goto 17, 3), (95, .aload_n 0, 1), (96, .getfield 110, 3), (99, .iload_n 2, 1), (100, .aload_n 0, 1), (101, .getfield 110, 3), (104, .iload_n 3, 1), (105, .iaload, 1), (106, .iastore, 1), (107, .iconst 1, 1)]
def tbX12_streets_2 : List (Nat × Instr × Nat) := [(108, .istore_n 1, 1), (109, .iinc 3 1, 3), (112, .goto (-69), 3), (115, .iinc 2 1, 3), (118, .goto (-85), 3), (121, .goto (-96), 3), (124, .return_, 1)]
theorem tdX12_streets_0 : hx_dt cX12_streets tbX12_streets_0 = true := by decide +kernel
theorem tdX12_streets_1 : hx_dt cX12_streets tbX12_streets_1 = true := by decide +kernel
theorem tdX12_streets_2 : hx_dt cX12_streets tbX12_streets_2 = true := by decide +kernel
theorem caX12_streets_299 {G : hx_GT} (cA : hx_CA RX12 cX12_streets 2 0 0 G) : hx_CS cX12_streets G 0 0 299 2 sX12_has 0 0 := cA.2.1 conX12_has ⟨by decide +kernel, by decide +kernel, by decide +kernel⟩ mw_1498 mw_1499 mw_97 mw_1500 (by decide) (by decide)
def wX12_streets_L2  (K : hx_M → Prop) (K23 : hx_M → Prop) : Nat → Int32 → hx_M → Prop
  | 0, _, _ => False
  | n + 1, v1, μ => ((μ.1 49 0) ≤ v1 → (K23 μ)) ∧ (¬ ((μ.1 49 0) ≤ v1) → (vp_in v1 16 ∧ wX12_streets_L2 K K23 n (v1 + 1) (hx_sI μ 79 v1.toNatClampNeg v1)))
set_option maxRecDepth 100000 in
set_option maxHeartbeats 4000000 in
theorem kX12_streets_L2 {G : hx_GT} {KK : hx_KT} (hG : hx_K cX12_streets 4 0 0 (none) TbX12 KK G) (cA : hx_CA RX12 cX12_streets 2 0 0 G) {Λ : hx_L} (hF : mF Λ)   {K : hx_M → Prop} (hK : ∀ (m : hx_M), K m → KK none Λ m) {K23 : hx_M → Prop} (hk23 : ∀ (μ : hx_M), K23 μ → G Λ μ (0, 0) 23 [some (.ref 49), none, none, none] []) : ∀ (n : Nat) (v1 : Int32) (μ : hx_M), wX12_streets_L2 K K23 n v1 μ → G Λ μ (0, 0) 2 [some (.ref 49), some (.int v1), none, none] [] := by
  intro n
  induction n with
  | zero =>
    intro v1 μ hw
    exact False.elim (by simpa only [wX12_streets_L2] using hw)
  | succ n ih =>
    intro v1 μ hw
    unfold wX12_streets_L2 at hw
    refine cl_iload_n hG (hx_dq tdX12_streets_0 2 rfl) rfl (cl_aload_n hG (hx_dq tdX12_streets_0 3 rfl) rfl (cl_getI hG fmX12_154 (hx_dq tdX12_streets_0 4 rfl) (mF_S49 hF) (cl_icmp_ge hG 23 (hx_dq tdX12_streets_0 5 rfl) rfl (fun c7 => ?_) (fun c7 => ?_))))
    · replace hw := hw.1 c7
      exact cl_sub hG (hx_le_c rfl (hx_le_n (hx_le_n (hx_le_n hx_le_0)))) (hk23 _ hw)
    · replace hw := hw.2 c7
      obtain ⟨i16_1, hw⟩ := hw
      exact cl_aload_n hG (hx_dq tdX12_streets_0 6 rfl) rfl (cl_getS hG fmX12_110 (hx_dq tdX12_streets_0 7 rfl) (mF_S49 hF) (mF_R49_50 hF) (cl_iload_n hG (hx_dq tdX12_streets_0 8 rfl) rfl (cl_iload_n hG (hx_dq tdX12_streets_0 9 rfl) rfl (cl_iast hG (hx_dq tdX12_streets_0 10 rfl) (mF_S79 hF) i16_1 (cl_iinc hG (v1 + 1) (hx_dq tdX12_streets_0 11 rfl) rfl (congrArg (fun z => v1 + z) iconst_1) (Nat.le_of_ble_eq_true rfl) rfl (cl_goto hG 2 (hx_dq tdX12_streets_0 12 rfl) rfl (cl_sub hG (hx_le_c rfl (hx_le_c rfl (hx_le_n (hx_le_n hx_le_0)))) (ih (v1 + 1) _ hw))))))))
def wX12_streets_J109  (K : hx_M → Prop) (K43 : Int32 → Int32 → hx_M → Prop) (v1 : Int32) (v2 : Int32) (v3 : Int32)  (μ : hx_M) : Prop := K43 v1 (v3 + 1) μ
set_option maxRecDepth 100000 in
set_option maxHeartbeats 4000000 in
theorem kX12_streets_J109 {G : hx_GT} {KK : hx_KT} (hG : hx_K cX12_streets 4 0 0 (none) TbX12 KK G) (cA : hx_CA RX12 cX12_streets 2 0 0 G) {Λ : hx_L} (hF : mF Λ) {μ : hx_M} (v1 : Int32) (v2 : Int32) (v3 : Int32)  {K : hx_M → Prop} (hK : ∀ (m : hx_M), K m → KK none Λ m) {K43 : Int32 → Int32 → hx_M → Prop} (hk43 : ∀ (v1 : Int32) (v3 : Int32) (μ : hx_M), K43 v1 v3 μ → G Λ μ (0, 0) 43 [some (.ref 49), some (.int v1), some (.int v2), some (.int v3)] []) (hw : wX12_streets_J109 K K43 v1 v2 v3 μ) : G Λ μ (0, 0) 109 [some (.ref 49), some (.int v1), some (.int v2), some (.int v3)] [] := by
  unfold wX12_streets_J109 at hw
  exact cl_iinc hG (v3 + 1) (hx_dq tdX12_streets_2 1 rfl) rfl (congrArg (fun z => v3 + z) iconst_1) (Nat.le_of_ble_eq_true rfl) rfl (cl_goto hG 43 (hx_dq tdX12_streets_2 2 rfl) rfl (cl_sub hG (hx_le_c rfl (hx_le_c rfl (hx_le_c rfl (hx_le_c rfl hx_le_0)))) (hk43 v1 (v3 + 1) _ hw)))
def wX12_streets_J77  (K : hx_M → Prop) (K43 : Int32 → Int32 → hx_M → Prop) (v1 : Int32) (v2 : Int32) (v3 : Int32)  (μ : hx_M) : Prop := vp_in v3 16 ∧ vp_in v2 16 ∧ ((μ.1 79 v3.toNatClampNeg) < (μ.1 79 v2.toNatClampNeg) → (vp_in v3 16 ∧ vp_in v2 16 ∧ wX12_streets_J109 K (K43) 1 v2 v3 (hx_sI μ 79 v2.toNatClampNeg (μ.1 79 v3.toNatClampNeg)))) ∧ (¬ ((μ.1 79 v3.toNatClampNeg) < (μ.1 79 v2.toNatClampNeg)) → (wX12_streets_J109 K (K43) v1 v2 v3 μ))
set_option maxRecDepth 100000 in
set_option maxHeartbeats 4000000 in
theorem kX12_streets_J77 {G : hx_GT} {KK : hx_KT} (hG : hx_K cX12_streets 4 0 0 (none) TbX12 KK G) (cA : hx_CA RX12 cX12_streets 2 0 0 G) {Λ : hx_L} (hF : mF Λ) {μ : hx_M} (v1 : Int32) (v2 : Int32) (v3 : Int32)  {K : hx_M → Prop} (hK : ∀ (m : hx_M), K m → KK none Λ m) {K43 : Int32 → Int32 → hx_M → Prop} (hk43 : ∀ (v1 : Int32) (v3 : Int32) (μ : hx_M), K43 v1 v3 μ → G Λ μ (0, 0) 43 [some (.ref 49), some (.int v1), some (.int v2), some (.int v3)] []) (hw : wX12_streets_J77 K K43 v1 v2 v3 μ) : G Λ μ (0, 0) 77 [some (.ref 49), some (.int v1), some (.int v2), some (.int v3)] [] := by
  unfold wX12_streets_J77 at hw
  obtain ⟨i82_6, hw⟩ := hw
  obtain ⟨i88_7, hw⟩ := hw
  refine cl_aload_n hG (hx_dq tdX12_streets_1 13 rfl) rfl (cl_getS hG fmX12_110 (hx_dq tdX12_streets_1 14 rfl) (mF_S49 hF) (mF_R49_50 hF) (cl_iload_n hG (hx_dq tdX12_streets_1 15 rfl) rfl (cl_iald hG (hx_dq tdX12_streets_1 16 rfl) (mF_S79 hF) i82_6 (cl_aload_n hG (hx_dq tdX12_streets_1 17 rfl) rfl (cl_getS hG fmX12_110 (hx_dq tdX12_streets_1 18 rfl) (mF_S49 hF) (mF_R49_50 hF) (cl_iload_n hG (hx_dq tdX12_streets_1 19 rfl) rfl (cl_iald hG (hx_dq tdX12_streets_1 20 rfl) (mF_S79 hF) i88_7 (cl_icmp_lt hG 95 (hx_dq tdX12_streets_1 21 rfl) rfl (fun c89 => ?_) (fun c89 => ?_)))))))))
  · replace hw := hw.1 c89
    obtain ⟨i105_8, hw⟩ := hw
    obtain ⟨i106_9, hw⟩ := hw
    refine cl_aload_n hG (hx_dq tdX12_streets_1 23 rfl) rfl (cl_getS hG fmX12_110 (hx_dq tdX12_streets_1 24 rfl) (mF_S49 hF) (mF_R49_50 hF) (cl_iload_n hG (hx_dq tdX12_streets_1 25 rfl) rfl (cl_aload_n hG (hx_dq tdX12_streets_1 26 rfl) rfl (cl_getS hG fmX12_110 (hx_dq tdX12_streets_1 27 rfl) (mF_S49 hF) (mF_R49_50 hF) (cl_iload_n hG (hx_dq tdX12_streets_1 28 rfl) rfl (cl_iald hG (hx_dq tdX12_streets_1 29 rfl) (mF_S79 hF) i105_8 (cl_iast hG (hx_dq tdX12_streets_1 30 rfl) (mF_S79 hF) i106_9 (cl_iconst hG 1 (hx_dq tdX12_streets_1 31 rfl) iconst_1 (cl_istore_n hG (hx_dq tdX12_streets_2 0 rfl) (Nat.le_of_ble_eq_true rfl) rfl ?_)))))))))
    exact cl_sub hG (hx_le_c rfl (hx_le_c rfl (hx_le_c rfl (hx_le_c rfl hx_le_0)))) (kX12_streets_J109 hG cA hF 1 v2 v3 hK (fun z0 z1 z2 hw => hk43 z0 z1 z2 hw) hw)
  · replace hw := hw.2 c89
    refine cl_goto hG 109 (hx_dq tdX12_streets_1 22 rfl) rfl ?_
    exact cl_sub hG (hx_le_c rfl (hx_le_c rfl (hx_le_c rfl (hx_le_c rfl hx_le_0)))) (kX12_streets_J109 hG cA hF v1 v2 v3 hK (fun z0 z1 z2 hw => hk43 z0 z1 z2 hw) hw)
def wX12_streets_J109_13  (K : hx_M → Prop) (K43 : Int32 → Int32 → hx_M → Prop) (v1 : Int32) (v2 : Int32) (v3 : Int32)  (μ : hx_M) : Prop := K43 v1 (v3 + 1) μ
set_option maxRecDepth 100000 in
set_option maxHeartbeats 4000000 in
theorem kX12_streets_J109_13 {G : hx_GT} {KK : hx_KT} (hG : hx_K cX12_streets 4 0 0 (none) TbX12 KK G) (cA : hx_CA RX12 cX12_streets 2 0 0 G) {Λ : hx_L} (hF : mF Λ) {μ : hx_M} (v1 : Int32) (v2 : Int32) (v3 : Int32)  {K : hx_M → Prop} (hK : ∀ (m : hx_M), K m → KK none Λ m) {K43 : Int32 → Int32 → hx_M → Prop} (hk43 : ∀ (v1 : Int32) (v3 : Int32) (μ : hx_M), K43 v1 v3 μ → G Λ μ (0, 0) 43 [some (.ref 49), some (.int v1), some (.int v2), some (.int v3)] []) (hw : wX12_streets_J109_13 K K43 v1 v2 v3 μ) : G Λ μ (0, 0) 109 [some (.ref 49), some (.int v1), some (.int v2), some (.int v3)] [] := by
  unfold wX12_streets_J109_13 at hw
  exact cl_iinc hG (v3 + 1) (hx_dq tdX12_streets_2 1 rfl) rfl (congrArg (fun z => v3 + z) iconst_1) (Nat.le_of_ble_eq_true rfl) rfl (cl_goto hG 43 (hx_dq tdX12_streets_2 2 rfl) rfl (cl_sub hG (hx_le_c rfl (hx_le_c rfl (hx_le_c rfl (hx_le_c rfl hx_le_0)))) (hk43 v1 (v3 + 1) _ hw)))
def wX12_streets_L43 (v2 : Int32) (K : hx_M → Prop) (K115 : Int32 → hx_M → Prop) : Nat → Int32 → Int32 → hx_M → Prop
  | 0, _, _, _ => False
  | n + 1, v1, v3, μ => ((μ.1 49 0) ≤ v3 → (K115 v1 μ)) ∧ (¬ ((μ.1 49 0) ≤ v3) → (vp_in v2 16 ∧ wX12_has (μ.1 54 v2.toNatClampNeg) v3 (fun r58_5 => (r58_5 ≠ 0 → (wX12_streets_J77 K (wX12_streets_L43 v2 K K115 n) v1 v2 v3 μ)) ∧ (r58_5 = 0 → (vp_in v3 16 ∧ wX12_has (μ.1 54 v3.toNatClampNeg) v2 (fun r71_12 => (r71_12 = 0 → (wX12_streets_J109_13 K (wX12_streets_L43 v2 K K115 n) v1 v2 v3 μ)) ∧ (¬ (r71_12 = 0) → (wX12_streets_J77 K (wX12_streets_L43 v2 K K115 n) v1 v2 v3 μ))))))))
set_option maxRecDepth 100000 in
set_option maxHeartbeats 4000000 in
theorem kX12_streets_L43 {G : hx_GT} {KK : hx_KT} (hG : hx_K cX12_streets 4 0 0 (none) TbX12 KK G) (cA : hx_CA RX12 cX12_streets 2 0 0 G) {Λ : hx_L} (hF : mF Λ)  (v2 : Int32) {K : hx_M → Prop} (hK : ∀ (m : hx_M), K m → KK none Λ m) {K115 : Int32 → hx_M → Prop} (hk115 : ∀ (v1 : Int32) (μ : hx_M), K115 v1 μ → G Λ μ (0, 0) 115 [some (.ref 49), some (.int v1), some (.int v2), none] []) : ∀ (n : Nat) (v1 : Int32) (v3 : Int32) (μ : hx_M), wX12_streets_L43 v2 K K115 n v1 v3 μ → G Λ μ (0, 0) 43 [some (.ref 49), some (.int v1), some (.int v2), some (.int v3)] [] := by
  intro n
  induction n with
  | zero =>
    intro v1 v3 μ hw
    exact False.elim (by simpa only [wX12_streets_L43] using hw)
  | succ n ih =>
    intro v1 v3 μ hw
    unfold wX12_streets_L43 at hw
    refine cl_iload_n hG (hx_dq tdX12_streets_0 27 rfl) rfl (cl_aload_n hG (hx_dq tdX12_streets_0 28 rfl) rfl (cl_getI hG fmX12_154 (hx_dq tdX12_streets_0 29 rfl) (mF_S49 hF) (cl_icmp_ge hG 115 (hx_dq tdX12_streets_0 30 rfl) rfl (fun c48 => ?_) (fun c48 => ?_))))
    · replace hw := hw.1 c48
      exact cl_sub hG (hx_le_c rfl (hx_le_c rfl (hx_le_c rfl (hx_le_n hx_le_0)))) (hk115 v1 _ hw)
    · replace hw := hw.2 c48
      obtain ⟨i56_3, hw⟩ := hw
      refine cl_aload_n hG (hx_dq tdX12_streets_0 31 rfl) rfl (cl_getS hG fmX12_26 (hx_dq tdX12_streets_1 0 rfl) (mF_S49 hF) (mF_R49_11 hF) (cl_iload_n hG (hx_dq tdX12_streets_1 1 rfl) rfl (cl_iald hG (hx_dq tdX12_streets_1 2 rfl) (mF_S54 hF) i56_3 (cl_iload_n hG (hx_dq tdX12_streets_1 3 rfl) rfl (cl_callS2 (caX12_streets_299 cA) (hx_dq tdX12_streets_1 4 rfl) (Nat.le_of_ble_eq_true rfl) (Nat.le_refl _) (Nat.le_refl _) (sX12_has_mk hw (fun r58_5 hw => ?_)))))))
      refine cl_if_ne hG 77 (hx_dq tdX12_streets_1 5 rfl) rfl (fun c61 => ?_) (fun c61 => ?_)
      · replace hw := hw.1 c61
        exact cl_sub hG (hx_le_c rfl (hx_le_c rfl (hx_le_c rfl (hx_le_c rfl hx_le_0)))) (kX12_streets_J77 hG cA hF v1 v2 v3 hK (fun z0 z1 z2 hw => ih z0 z1 z2 hw) hw)
      · replace hw := hw.2 c61
        obtain ⟨i69_10, hw⟩ := hw
        refine cl_aload_n hG (hx_dq tdX12_streets_1 6 rfl) rfl (cl_getS hG fmX12_26 (hx_dq tdX12_streets_1 7 rfl) (mF_S49 hF) (mF_R49_11 hF) (cl_iload_n hG (hx_dq tdX12_streets_1 8 rfl) rfl (cl_iald hG (hx_dq tdX12_streets_1 9 rfl) (mF_S54 hF) i69_10 (cl_iload_n hG (hx_dq tdX12_streets_1 10 rfl) rfl (cl_callS2 (caX12_streets_299 cA) (hx_dq tdX12_streets_1 11 rfl) (Nat.le_of_ble_eq_true rfl) (Nat.le_refl _) (Nat.le_refl _) (sX12_has_mk hw (fun r71_12 hw => ?_)))))))
        refine cl_if_eq hG 109 (hx_dq tdX12_streets_1 12 rfl) rfl (fun c74 => ?_) (fun c74 => ?_)
        · replace hw := hw.1 c74
          exact cl_sub hG (hx_le_c rfl (hx_le_c rfl (hx_le_c rfl (hx_le_c rfl hx_le_0)))) (kX12_streets_J109_13 hG cA hF v1 v2 v3 hK (fun z0 z1 z2 hw => ih z0 z1 z2 hw) hw)
        · replace hw := hw.2 c74
          exact cl_sub hG (hx_le_c rfl (hx_le_c rfl (hx_le_c rfl (hx_le_c rfl hx_le_0)))) (kX12_streets_J77 hG cA hF v1 v2 v3 hK (fun z0 z1 z2 hw => ih z0 z1 z2 hw) hw)
def wX12_streets_L33  (K : hx_M → Prop) (K121 : Int32 → hx_M → Prop) : Nat → Int32 → Int32 → hx_M → Prop
  | 0, _, _, _ => False
  | n + 1, v1, v2, μ => ((μ.1 49 0) ≤ v2 → (K121 v1 μ)) ∧ (¬ ((μ.1 49 0) ≤ v2) → (∃ n43_15, wX12_streets_L43 v2 K (fun v1_14 m_14 => wX12_streets_L33 K K121 n v1_14 (v2 + 1) m_14) n43_15 v1 0 μ))
set_option maxRecDepth 100000 in
set_option maxHeartbeats 4000000 in
theorem kX12_streets_L33 {G : hx_GT} {KK : hx_KT} (hG : hx_K cX12_streets 4 0 0 (none) TbX12 KK G) (cA : hx_CA RX12 cX12_streets 2 0 0 G) {Λ : hx_L} (hF : mF Λ)   {K : hx_M → Prop} (hK : ∀ (m : hx_M), K m → KK none Λ m) {K121 : Int32 → hx_M → Prop} (hk121 : ∀ (v1 : Int32) (μ : hx_M), K121 v1 μ → G Λ μ (0, 0) 121 [some (.ref 49), some (.int v1), none, none] []) : ∀ (n : Nat) (v1 : Int32) (v2 : Int32) (μ : hx_M), wX12_streets_L33 K K121 n v1 v2 μ → G Λ μ (0, 0) 33 [some (.ref 49), some (.int v1), some (.int v2), none] [] := by
  intro n
  induction n with
  | zero =>
    intro v1 v2 μ hw
    exact False.elim (by simpa only [wX12_streets_L33] using hw)
  | succ n ih =>
    intro v1 v2 μ hw
    unfold wX12_streets_L33 at hw
    refine cl_iload_n hG (hx_dq tdX12_streets_0 21 rfl) rfl (cl_aload_n hG (hx_dq tdX12_streets_0 22 rfl) rfl (cl_getI hG fmX12_154 (hx_dq tdX12_streets_0 23 rfl) (mF_S49 hF) (cl_icmp_ge hG 121 (hx_dq tdX12_streets_0 24 rfl) rfl (fun c38 => ?_) (fun c38 => ?_))))
    · replace hw := hw.1 c38
      exact cl_sub hG (hx_le_c rfl (hx_le_c rfl (hx_le_n (hx_le_n hx_le_0)))) (hk121 v1 _ hw)
    · replace hw := hw.2 c38
      refine cl_iconst hG 0 (hx_dq tdX12_streets_0 25 rfl) iconst_0 (cl_istore_n hG (hx_dq tdX12_streets_0 26 rfl) (Nat.le_of_ble_eq_true rfl) rfl ?_)
      obtain ⟨n_, hw⟩ := hw
      refine cl_sub hG (hx_le_c rfl (hx_le_c rfl (hx_le_c rfl (hx_le_c rfl hx_le_0)))) (kX12_streets_L43 hG cA hF v2 hK (fun v1_14 m_14 hw => ?_) n_ v1 0 _ hw)
      · exact cl_iinc hG (v2 + 1) (hx_dq tdX12_streets_2 3 rfl) rfl (congrArg (fun z => v2 + z) iconst_1) (Nat.le_of_ble_eq_true rfl) rfl (cl_goto hG 33 (hx_dq tdX12_streets_2 4 rfl) rfl (cl_sub hG (hx_le_c rfl (hx_le_c rfl (hx_le_c rfl (hx_le_n hx_le_0)))) (ih v1_14 (v2 + 1) _ hw)))
def wX12_streets_L25  (K : hx_M → Prop)  : Nat → Int32 → hx_M → Prop
  | 0, _, _ => False
  | n + 1, v1, μ => (v1 = 0 → (K μ)) ∧ (¬ (v1 = 0) → (∃ n33_17, wX12_streets_L33 K (fun v1_16 m_16 => wX12_streets_L25 K n v1_16 m_16) n33_17 0 0 μ))
set_option maxRecDepth 100000 in
set_option maxHeartbeats 4000000 in
theorem kX12_streets_L25 {G : hx_GT} {KK : hx_KT} (hG : hx_K cX12_streets 4 0 0 (none) TbX12 KK G) (cA : hx_CA RX12 cX12_streets 2 0 0 G) {Λ : hx_L} (hF : mF Λ)   {K : hx_M → Prop} (hK : ∀ (m : hx_M), K m → KK none Λ m)  : ∀ (n : Nat) (v1 : Int32) (μ : hx_M), wX12_streets_L25 K n v1 μ → G Λ μ (0, 0) 25 [some (.ref 49), some (.int v1), none, none] [] := by
  intro n
  induction n with
  | zero =>
    intro v1 μ hw
    exact False.elim (by simpa only [wX12_streets_L25] using hw)
  | succ n ih =>
    intro v1 μ hw
    unfold wX12_streets_L25 at hw
    refine cl_iload_n hG (hx_dq tdX12_streets_0 15 rfl) rfl (cl_if_eq hG 124 (hx_dq tdX12_streets_0 16 rfl) rfl (fun c26 => ?_) (fun c26 => ?_))
    · replace hw := hw.1 c26
      exact cl_vret hG (hx_dq tdX12_streets_2 6 rfl) rfl (hK _ hw) (Nat.le_refl _) (Nat.le_refl _)
    · replace hw := hw.2 c26
      refine cl_iconst hG 0 (hx_dq tdX12_streets_0 17 rfl) iconst_0 (cl_istore_n hG (hx_dq tdX12_streets_0 18 rfl) (Nat.le_of_ble_eq_true rfl) rfl (cl_iconst hG 0 (hx_dq tdX12_streets_0 19 rfl) iconst_0 (cl_istore_n hG (hx_dq tdX12_streets_0 20 rfl) (Nat.le_of_ble_eq_true rfl) rfl ?_)))
      obtain ⟨n_, hw⟩ := hw
      refine cl_sub hG (hx_le_c rfl (hx_le_c rfl (hx_le_c rfl (hx_le_n hx_le_0)))) (kX12_streets_L33 hG cA hF hK (fun v1_16 m_16 hw => ?_) n_ 0 0 _ hw)
      · exact cl_goto hG 25 (hx_dq tdX12_streets_2 5 rfl) rfl (cl_sub hG (hx_le_c rfl (hx_le_c rfl (hx_le_n (hx_le_n hx_le_0)))) (ih v1_16 _ hw))
def wX12_streets (μ : hx_M)  (K : hx_M → Prop) : Prop := ∃ n2_19, wX12_streets_L2 K (fun m_2 => ∃ n25_18, wX12_streets_L25 K n25_18 1 m_2) n2_19 0 μ
set_option maxRecDepth 100000 in
set_option maxHeartbeats 4000000 in
theorem kX12_streets {G : hx_GT} {KK : hx_KT} (hG : hx_K cX12_streets 4 0 0 (none) TbX12 KK G) (cA : hx_CA RX12 cX12_streets 2 0 0 G) {Λ : hx_L} (hF : mF Λ) {μ : hx_M}  {K : hx_M → Prop} (hK : ∀ (m : hx_M), K m → KK none Λ m) (hw : wX12_streets μ K) : G Λ μ (0, 0) 0 [some (.ref 49), none, none, none] [] := by
  unfold wX12_streets at hw
  refine cl_iconst hG 0 (hx_dq tdX12_streets_0 0 rfl) iconst_0 (cl_istore_n hG (hx_dq tdX12_streets_0 1 rfl) (Nat.le_of_ble_eq_true rfl) rfl ?_)
  obtain ⟨n_, hw⟩ := hw
  refine cl_sub hG (hx_le_c rfl (hx_le_c rfl (hx_le_n (hx_le_n hx_le_0)))) (kX12_streets_L2 hG cA hF hK (fun m_2 hw => ?_) n_ 0 _ hw)
  · refine cl_iconst hG 1 (hx_dq tdX12_streets_0 13 rfl) iconst_1 (cl_istore_n hG (hx_dq tdX12_streets_0 14 rfl) (Nat.le_of_ble_eq_true rfl) rfl ?_)
    obtain ⟨n_, hw⟩ := hw
    refine cl_sub hG (hx_le_c rfl (hx_le_c rfl (hx_le_n (hx_le_n hx_le_0)))) (kX12_streets_L25 hG cA hF hK n_ 1 _ hw)
def sX12_streets : hx_ST := fun Λ μ as KK => mF Λ ∧ ∃ (K : hx_M → Prop), as = [.ref 49] ∧ wX12_streets μ K ∧ (∀ (m : hx_M), K m → KK none Λ m)
theorem sX12_streets_mk {Λ : hx_L} {μ : hx_M} {KK : hx_KT}  {K : hx_M → Prop} (hF : mF Λ) (hw : wX12_streets μ K) (hk : ∀ (m : hx_M), K m → KK none Λ m) : sX12_streets Λ μ [.ref 49] KK := ⟨hF, _, rfl, hw, hk⟩
theorem conX12_streets : hx_Con yX12_streets cX12_streets 4 (none) 2 0 0 sX12_streets := by
  refine hx_con_of (by decide +kernel) tokX12 (by decide) ?_ ?_
  · intro Λ μ as KK h
    obtain ⟨hF, K, rfl, hw, hK⟩ := h
    exact Nat.le_of_ble_eq_true rfl
  · intro G KK hG cA Λ μ as h
    obtain ⟨hF, K, rfl, hw, hK⟩ := h
    exact cl_sub hG (hx_le_c rfl (hx_le_n (hx_le_n (hx_le_n hx_le_0)))) (kX12_streets hG cA hF hK hw)
/-! HemLineModel.street(II)I -/
def tbX12_street_0 : List (Nat × Instr × Nat) := [(0, .iload_n 1, 1), (1, .iconst (-1), 1), (2, .if_icmp .ne 10, 3), (5, .iload_n 2, 1), (6, .ifCond .eq 25, 3), (9, .goto 20, 3), (12, .aload_n 0, 1), (13, .iload_n 1, 1), (14, .invokevirtual 167, 3), (17, .ifCond .eq 12, 3), (20, .iload_n 2, 1), (21, .iconst 0, 1), (22, .iconst 1, 1), (23, .invokestatic 157, 3), (26, .ifCond .ne 5, 3), (29, .iconst (-1), 1), (30, .ireturn, 1), (31, .aload_n 0, 1), (32, .invokevirtual 407, 3), (35, .iconst 0, 1), (36, .istore_n 3, 1), (37, .iconst 0, 1), (38, .istore 4, 2), (40, .iconst 0, 1), (41, .istore 5, 2), (43, .iload 5, 2), (45, .aload_n 0, 1), (46, .getfield 154, 3), (49, .if_icmp .ge 66, 3), (52, .iload_n 1, 1), (53, .iconst (-1), 1), (54, .if_icmp .ne 18, 3)]
def tbX12_street_1 : List (Nat × Instr × Nat) := [(57, .aload_n 0, 1), (58, .getfield 110, 3), (61, .iload 5, 2), (63, .iaload, 1), (64, .iload 5, 2), (66, .if_icmp .eq 25, 3), (69, .goto 40, 3), (72, .aload_n 0, 1), (73, .getfield 110, 3), (76, .iload 5, 2), (78, .iaload, 1), (79, .aload_n 0, 1), (80, .getfield 110, 3), (83, .iload_n 1, 1), (84, .iaload, 1), (85, .if_icmp .eq 6, 3), (88, .goto 21, 3), (91, .iinc 3 1, 3), (94, .iload 4, 2), (96, .aload_n 0, 1), (97, .iload 5, 2), (99, .aload_n 0, 1), (100, .getfield 161, 3), (103, .invokevirtual 302, 3), (106, .iadd, 1), (107, .istore 4, 2), (109, .iinc 5 1, 3), (112, .goto (-69), 3), (115, .iload_n 1, 1), (116, .iconst (-1), 1), (117, .if_icmp .ne 7, 3), (120, .iload_n 3, 1)]
def tbX12_street_2 : List (Nat × Instr × Nat) := [(121, .goto 23, 3), (124, .iload_n 2, 1), (125, .ifCond .ne 12, 3), (128, .aload_n 0, 1), (129, .getfield 110, 3), (132, .iload_n 1, 1), (133, .iaload, 1), (134, .goto 10, 3), (137, .bipush 100, 2), (139, .iload 4, 2), (141, .imul, 1), (142, .iload_n 3, 1), (143, .idiv, 1), (144, .ireturn, 1)]
theorem tdX12_street_0 : hx_dt cX12_street tbX12_street_0 = true := by decide +kernel
theorem tdX12_street_1 : hx_dt cX12_street tbX12_street_1 = true := by decide +kernel
theorem tdX12_street_2 : hx_dt cX12_street tbX12_street_2 = true := by decide +kernel
theorem caX12_street_157 {G : hx_GT} (cA : hx_CA RX12 cX12_street 3 0 0 G) : hx_CS cX12_street G 0 0 157 3 sX12_isIn 0 0 := cA.2.1 conX12_isIn ⟨by decide +kernel, by decide +kernel, by decide +kernel⟩ mw_1343 mw_1344 mw_97 mw_1345 (by decide) (by decide)
theorem caX12_street_167 {G : hx_GT} (cA : hx_CA RX12 cX12_street 3 0 0 G) : hx_CV cX12_street G 0 0 167 12 1 sX12_isPerson 0 0 := cA.1 conX12_isPerson rfl rfl ⟨by decide +kernel, by decide +kernel, by decide +kernel⟩ mw_1350 mw_1352 mw_37 mw_97 mw_1353 (by decide) (by decide)
theorem caX12_street_302 {G : hx_GT} (cA : hx_CA RX12 cX12_street 3 0 0 G) : hx_CV cX12_street G 0 0 302 12 2 sX12_lengthAt 0 0 := cA.1 conX12_lengthAt rfl rfl ⟨by decide +kernel, by decide +kernel, by decide +kernel⟩ mw_1486 mw_1488 mw_54 mw_97 mw_1489 (by decide) (by decide)
theorem caX12_street_407 {G : hx_GT} (cA : hx_CA RX12 cX12_street 3 0 0 G) : hx_CV cX12_street G 0 0 407 12 0 sX12_streets 0 0 := cA.1 conX12_streets rfl rfl ⟨by decide +kernel, by decide +kernel, by decide +kernel⟩ mw_1606 mw_1608 mw_73 mw_97 mw_1609 (by decide) (by decide)
def wX12_street_J109  (K : Int32 → hx_M → Prop) (K43 : Int32 → Int32 → Int32 → Prop) (v1 : Int32) (v2 : Int32) (v3 : Int32) (v4 : Int32) (v5 : Int32)  (μ : hx_M) : Prop := K43 v3 v4 (v5 + 1)
set_option maxRecDepth 100000 in
set_option maxHeartbeats 4000000 in
theorem kX12_street_J109 {G : hx_GT} {KK : hx_KT} (hG : hx_K cX12_street 6 0 0 (some .int) TbX12 KK G) (cA : hx_CA RX12 cX12_street 3 0 0 G) {Λ : hx_L} (hF : mF Λ) {μ : hx_M} (v1 : Int32) (v2 : Int32) (v3 : Int32) (v4 : Int32) (v5 : Int32)  {K : Int32 → hx_M → Prop} (hK : ∀ (r : Int32) (m : hx_M), K r m → KK (some (.int r)) Λ m) {K43 : Int32 → Int32 → Int32 → Prop} (hk43 : ∀ (v3 : Int32) (v4 : Int32) (v5 : Int32), K43 v3 v4 v5 → G Λ μ (0, 0) 43 [some (.ref 49), some (.int v1), some (.int v2), some (.int v3), some (.int v4), some (.int v5)] []) (hw : wX12_street_J109 K K43 v1 v2 v3 v4 v5 μ) : G Λ μ (0, 0) 109 [some (.ref 49), some (.int v1), some (.int v2), some (.int v3), some (.int v4), some (.int v5)] [] := by
  unfold wX12_street_J109 at hw
  exact cl_iinc hG (v5 + 1) (hx_dq tdX12_street_1 26 rfl) rfl (congrArg (fun z => v5 + z) iconst_1) (Nat.le_of_ble_eq_true rfl) rfl (cl_goto hG 43 (hx_dq tdX12_street_1 27 rfl) rfl (cl_sub hG (hx_le_c rfl (hx_le_c rfl (hx_le_c rfl (hx_le_c rfl (hx_le_c rfl (hx_le_c rfl hx_le_0)))))) (hk43 v3 v4 (v5 + 1) hw)))
def wX12_street_J91  (K : Int32 → hx_M → Prop) (K43 : Int32 → Int32 → Int32 → Prop) (v1 : Int32) (v2 : Int32) (v3 : Int32) (v4 : Int32) (v5 : Int32)  (μ : hx_M) : Prop := wX12_lengthAt μ v5 (μ.1 49 1) (fun r103_10 => wX12_street_J109 K (K43) v1 v2 (v3 + 1) (v4 + r103_10) v5 μ)
set_option maxRecDepth 100000 in
set_option maxHeartbeats 4000000 in
theorem kX12_street_J91 {G : hx_GT} {KK : hx_KT} (hG : hx_K cX12_street 6 0 0 (some .int) TbX12 KK G) (cA : hx_CA RX12 cX12_street 3 0 0 G) {Λ : hx_L} (hF : mF Λ) {μ : hx_M} (v1 : Int32) (v2 : Int32) (v3 : Int32) (v4 : Int32) (v5 : Int32)  {K : Int32 → hx_M → Prop} (hK : ∀ (r : Int32) (m : hx_M), K r m → KK (some (.int r)) Λ m) {K43 : Int32 → Int32 → Int32 → Prop} (hk43 : ∀ (v3 : Int32) (v4 : Int32) (v5 : Int32), K43 v3 v4 v5 → G Λ μ (0, 0) 43 [some (.ref 49), some (.int v1), some (.int v2), some (.int v3), some (.int v4), some (.int v5)] []) (hw : wX12_street_J91 K K43 v1 v2 v3 v4 v5 μ) : G Λ μ (0, 0) 91 [some (.ref 49), some (.int v1), some (.int v2), some (.int v3), some (.int v4), some (.int v5)] [] := by
  unfold wX12_street_J91 at hw
  refine cl_iinc hG (v3 + 1) (hx_dq tdX12_street_1 17 rfl) rfl (congrArg (fun z => v3 + z) iconst_1) (Nat.le_of_ble_eq_true rfl) rfl (cl_iload hG (hx_dq tdX12_street_1 18 rfl) rfl (cl_aload_n hG (hx_dq tdX12_street_1 19 rfl) rfl (cl_iload hG (hx_dq tdX12_street_1 20 rfl) rfl (cl_aload_n hG (hx_dq tdX12_street_1 21 rfl) rfl (cl_getI hG fmX12_161 (hx_dq tdX12_street_1 22 rfl) (mF_S49 hF) (cl_callV2 (caX12_street_302 cA) (hx_dq tdX12_street_1 23 rfl) (mF_S49 hF) (Nat.le_of_ble_eq_true rfl) (Nat.le_refl _) (Nat.le_refl _) (sX12_lengthAt_mk hF hw (fun r103_10 hw => ?_))))))))
  refine cl_iadd hG (hx_dq tdX12_street_1 24 rfl) (cl_istore hG (hx_dq tdX12_street_1 25 rfl) (Nat.le_of_ble_eq_true rfl) rfl ?_)
  exact cl_sub hG (hx_le_c rfl (hx_le_c rfl (hx_le_c rfl (hx_le_c rfl (hx_le_c rfl (hx_le_c rfl hx_le_0)))))) (kX12_street_J109 hG cA hF v1 v2 (v3 + 1) (v4 + r103_10) v5 hK (fun z0 z1 z2 hw => hk43 z0 z1 z2 hw) hw)
def wX12_street_J109_11  (K : Int32 → hx_M → Prop) (K43 : Int32 → Int32 → Int32 → Prop) (v1 : Int32) (v2 : Int32) (v3 : Int32) (v4 : Int32) (v5 : Int32)  (μ : hx_M) : Prop := K43 v3 v4 (v5 + 1)
set_option maxRecDepth 100000 in
set_option maxHeartbeats 4000000 in
theorem kX12_street_J109_11 {G : hx_GT} {KK : hx_KT} (hG : hx_K cX12_street 6 0 0 (some .int) TbX12 KK G) (cA : hx_CA RX12 cX12_street 3 0 0 G) {Λ : hx_L} (hF : mF Λ) {μ : hx_M} (v1 : Int32) (v2 : Int32) (v3 : Int32) (v4 : Int32) (v5 : Int32)  {K : Int32 → hx_M → Prop} (hK : ∀ (r : Int32) (m : hx_M), K r m → KK (some (.int r)) Λ m) {K43 : Int32 → Int32 → Int32 → Prop} (hk43 : ∀ (v3 : Int32) (v4 : Int32) (v5 : Int32), K43 v3 v4 v5 → G Λ μ (0, 0) 43 [some (.ref 49), some (.int v1), some (.int v2), some (.int v3), some (.int v4), some (.int v5)] []) (hw : wX12_street_J109_11 K K43 v1 v2 v3 v4 v5 μ) : G Λ μ (0, 0) 109 [some (.ref 49), some (.int v1), some (.int v2), some (.int v3), some (.int v4), some (.int v5)] [] := by
  unfold wX12_street_J109_11 at hw
  exact cl_iinc hG (v5 + 1) (hx_dq tdX12_street_1 26 rfl) rfl (congrArg (fun z => v5 + z) iconst_1) (Nat.le_of_ble_eq_true rfl) rfl (cl_goto hG 43 (hx_dq tdX12_street_1 27 rfl) rfl (cl_sub hG (hx_le_c rfl (hx_le_c rfl (hx_le_c rfl (hx_le_c rfl (hx_le_c rfl (hx_le_c rfl hx_le_0)))))) (hk43 v3 v4 (v5 + 1) hw)))
def wX12_street_L43 (μ : hx_M) (v1 : Int32) (v2 : Int32) (K : Int32 → hx_M → Prop) (K115 : Int32 → Int32 → Prop) : Nat → Int32 → Int32 → Int32 → Prop
  | 0, _, _, _ => False
  | n + 1, v3, v4, v5 => ((μ.1 49 0) ≤ v5 → (K115 v3 v4)) ∧ (¬ ((μ.1 49 0) ≤ v5) → ((v1 ≠ (-1) → (vp_in v5 16 ∧ vp_in v1 16 ∧ ((μ.1 79 v5.toNatClampNeg) = (μ.1 79 v1.toNatClampNeg) → (wX12_street_J91 K (wX12_street_L43 μ v1 v2 K K115 n) v1 v2 v3 v4 v5 μ)) ∧ (¬ ((μ.1 79 v5.toNatClampNeg) = (μ.1 79 v1.toNatClampNeg)) → (wX12_street_J109_11 K (wX12_street_L43 μ v1 v2 K K115 n) v1 v2 v3 v4 v5 μ)))) ∧ (v1 = (-1) → (vp_in v5 16 ∧ ((μ.1 79 v5.toNatClampNeg) = v5 → (wX12_street_J91 K (wX12_street_L43 μ v1 v2 K K115 n) v1 v2 v3 v4 v5 μ)) ∧ (¬ ((μ.1 79 v5.toNatClampNeg) = v5) → (wX12_street_J109_11 K (wX12_street_L43 μ v1 v2 K K115 n) v1 v2 v3 v4 v5 μ))))))
set_option maxRecDepth 100000 in
set_option maxHeartbeats 4000000 in
theorem kX12_street_L43 {G : hx_GT} {KK : hx_KT} (hG : hx_K cX12_street 6 0 0 (some .int) TbX12 KK G) (cA : hx_CA RX12 cX12_street 3 0 0 G) {Λ : hx_L} (hF : mF Λ) {μ : hx_M} (v1 : Int32) (v2 : Int32) {K : Int32 → hx_M → Prop} (hK : ∀ (r : Int32) (m : hx_M), K r m → KK (some (.int r)) Λ m) {K115 : Int32 → Int32 → Prop} (hk115 : ∀ (v3 : Int32) (v4 : Int32), K115 v3 v4 → G Λ μ (0, 0) 115 [some (.ref 49), some (.int v1), some (.int v2), some (.int v3), some (.int v4), none] []) : ∀ (n : Nat) (v3 : Int32) (v4 : Int32) (v5 : Int32), wX12_street_L43 μ v1 v2 K K115 n v3 v4 v5 → G Λ μ (0, 0) 43 [some (.ref 49), some (.int v1), some (.int v2), some (.int v3), some (.int v4), some (.int v5)] [] := by
  intro n
  induction n with
  | zero =>
    intro v3 v4 v5 hw
    exact False.elim (by simpa only [wX12_street_L43] using hw)
  | succ n ih =>
    intro v3 v4 v5 hw
    unfold wX12_street_L43 at hw
    refine cl_iload hG (hx_dq tdX12_street_0 25 rfl) rfl (cl_aload_n hG (hx_dq tdX12_street_0 26 rfl) rfl (cl_getI hG fmX12_154 (hx_dq tdX12_street_0 27 rfl) (mF_S49 hF) (cl_icmp_ge hG 115 (hx_dq tdX12_street_0 28 rfl) rfl (fun c49 => ?_) (fun c49 => ?_))))
    · replace hw := hw.1 c49
      exact cl_sub hG (hx_le_c rfl (hx_le_c rfl (hx_le_c rfl (hx_le_c rfl (hx_le_c rfl (hx_le_n hx_le_0)))))) (hk115 v3 v4 hw)
    · replace hw := hw.2 c49
      refine cl_iload_n hG (hx_dq tdX12_street_0 29 rfl) rfl (cl_iconst hG (-1) (hx_dq tdX12_street_0 30 rfl) iconst_m1 (cl_icmp_ne hG 72 (hx_dq tdX12_street_0 31 rfl) rfl (fun c54 => ?_) (fun c54 => ?_)))
      · replace hw := hw.1 c54
        obtain ⟨i78_7, hw⟩ := hw
        obtain ⟨i84_8, hw⟩ := hw
        refine cl_aload_n hG (hx_dq tdX12_street_1 7 rfl) rfl (cl_getS hG fmX12_110 (hx_dq tdX12_street_1 8 rfl) (mF_S49 hF) (mF_R49_50 hF) (cl_iload hG (hx_dq tdX12_street_1 9 rfl) rfl (cl_iald hG (hx_dq tdX12_street_1 10 rfl) (mF_S79 hF) i78_7 (cl_aload_n hG (hx_dq tdX12_street_1 11 rfl) rfl (cl_getS hG fmX12_110 (hx_dq tdX12_street_1 12 rfl) (mF_S49 hF) (mF_R49_50 hF) (cl_iload_n hG (hx_dq tdX12_street_1 13 rfl) rfl (cl_iald hG (hx_dq tdX12_street_1 14 rfl) (mF_S79 hF) i84_8 (cl_icmp_eq hG 91 (hx_dq tdX12_street_1 15 rfl) rfl (fun c85 => ?_) (fun c85 => ?_)))))))))
        · replace hw := hw.1 c85
          exact cl_sub hG (hx_le_c rfl (hx_le_c rfl (hx_le_c rfl (hx_le_c rfl (hx_le_c rfl (hx_le_c rfl hx_le_0)))))) (kX12_street_J91 hG cA hF v1 v2 v3 v4 v5 hK (fun z0 z1 z2 hw => ih z0 z1 z2 hw) hw)
        · replace hw := hw.2 c85
          refine cl_goto hG 109 (hx_dq tdX12_street_1 16 rfl) rfl ?_
          exact cl_sub hG (hx_le_c rfl (hx_le_c rfl (hx_le_c rfl (hx_le_c rfl (hx_le_c rfl (hx_le_c rfl hx_le_0)))))) (kX12_street_J109_11 hG cA hF v1 v2 v3 v4 v5 hK (fun z0 z1 z2 hw => ih z0 z1 z2 hw) hw)
      · replace hw := hw.2 c54
        obtain ⟨i63_12, hw⟩ := hw
        refine cl_aload_n hG (hx_dq tdX12_street_1 0 rfl) rfl (cl_getS hG fmX12_110 (hx_dq tdX12_street_1 1 rfl) (mF_S49 hF) (mF_R49_50 hF) (cl_iload hG (hx_dq tdX12_street_1 2 rfl) rfl (cl_iald hG (hx_dq tdX12_street_1 3 rfl) (mF_S79 hF) i63_12 (cl_iload hG (hx_dq tdX12_street_1 4 rfl) rfl (cl_icmp_eq hG 91 (hx_dq tdX12_street_1 5 rfl) rfl (fun c66 => ?_) (fun c66 => ?_))))))
        · replace hw := hw.1 c66
          exact cl_sub hG (hx_le_c rfl (hx_le_c rfl (hx_le_c rfl (hx_le_c rfl (hx_le_c rfl (hx_le_c rfl hx_le_0)))))) (kX12_street_J91 hG cA hF v1 v2 v3 v4 v5 hK (fun z0 z1 z2 hw => ih z0 z1 z2 hw) hw)
        · replace hw := hw.2 c66
          refine cl_goto hG 109 (hx_dq tdX12_street_1 6 rfl) rfl ?_
          exact cl_sub hG (hx_le_c rfl (hx_le_c rfl (hx_le_c rfl (hx_le_c rfl (hx_le_c rfl (hx_le_c rfl hx_le_0)))))) (kX12_street_J109_11 hG cA hF v1 v2 v3 v4 v5 hK (fun z0 z1 z2 hw => ih z0 z1 z2 hw) hw)
def wX12_street_J31  (K : Int32 → hx_M → Prop)  (v1 : Int32) (v2 : Int32)  (μ : hx_M) : Prop := wX12_streets μ (fun m32_5 => ∃ n43_15, wX12_street_L43 m32_5 v1 v2 K (fun v3_13 v4_13 => (v1 ≠ (-1) → ((v2 ≠ 0 → (¬ v3_13 = 0 ∧ K ((100 * v4_13) / v3_13) m32_5)) ∧ (v2 = 0 → (vp_in v1 16 ∧ K (m32_5.1 79 v1.toNatClampNeg) m32_5)))) ∧ (v1 = (-1) → (K v3_13 m32_5))) n43_15 0 0 0)
set_option maxRecDepth 100000 in
set_option maxHeartbeats 4000000 in
theorem kX12_street_J31 {G : hx_GT} {KK : hx_KT} (hG : hx_K cX12_street 6 0 0 (some .int) TbX12 KK G) (cA : hx_CA RX12 cX12_street 3 0 0 G) {Λ : hx_L} (hF : mF Λ) {μ : hx_M} (v1 : Int32) (v2 : Int32)  {K : Int32 → hx_M → Prop} (hK : ∀ (r : Int32) (m : hx_M), K r m → KK (some (.int r)) Λ m)  (hw : wX12_street_J31 K v1 v2 μ) : G Λ μ (0, 0) 31 [some (.ref 49), some (.int v1), some (.int v2), none, none, none] [] := by
  unfold wX12_street_J31 at hw
  refine cl_aload_n hG (hx_dq tdX12_street_0 17 rfl) rfl (cl_callV0 (caX12_street_407 cA) (hx_dq tdX12_street_0 18 rfl) (mF_S49 hF) (Nat.le_of_ble_eq_true rfl) (Nat.le_refl _) (Nat.le_refl _) (sX12_streets_mk hF hw (fun m32_5 hw => ?_)))
  refine cl_iconst hG 0 (hx_dq tdX12_street_0 19 rfl) iconst_0 (cl_istore_n hG (hx_dq tdX12_street_0 20 rfl) (Nat.le_of_ble_eq_true rfl) rfl (cl_iconst hG 0 (hx_dq tdX12_street_0 21 rfl) iconst_0 (cl_istore hG (hx_dq tdX12_street_0 22 rfl) (Nat.le_of_ble_eq_true rfl) rfl (cl_iconst hG 0 (hx_dq tdX12_street_0 23 rfl) iconst_0 (cl_istore hG (hx_dq tdX12_street_0 24 rfl) (Nat.le_of_ble_eq_true rfl) rfl ?_)))))
  obtain ⟨n_, hw⟩ := hw
  refine cl_sub hG (hx_le_c rfl (hx_le_c rfl (hx_le_c rfl (hx_le_c rfl (hx_le_c rfl (hx_le_c rfl hx_le_0)))))) (kX12_street_L43 hG cA hF v1 v2 hK (fun v3_13 v4_13 hw => ?_) n_ 0 0 0 hw)
  · refine cl_iload_n hG (hx_dq tdX12_street_1 28 rfl) rfl (cl_iconst hG (-1) (hx_dq tdX12_street_1 29 rfl) iconst_m1 (cl_icmp_ne hG 124 (hx_dq tdX12_street_1 30 rfl) rfl (fun c117 => ?_) (fun c117 => ?_)))
    · replace hw := hw.1 c117
      refine cl_iload_n hG (hx_dq tdX12_street_2 1 rfl) rfl (cl_if_ne hG 137 (hx_dq tdX12_street_2 2 rfl) rfl (fun c125 => ?_) (fun c125 => ?_))
      · replace hw := hw.1 c125
        obtain ⟨o143, hw⟩ := hw
        exact cl_bipush hG 100 (hx_dq tdX12_street_2 8 rfl) bipush_100 (cl_iload hG (hx_dq tdX12_street_2 9 rfl) rfl (cl_imul hG (hx_dq tdX12_street_2 10 rfl) (cl_iload_n hG (hx_dq tdX12_street_2 11 rfl) rfl (cl_idiv hG (hx_dq tdX12_street_2 12 rfl) o143 (cl_iret hG (hx_dq tdX12_street_2 13 rfl) rfl rfl (hK _ _ hw) (Nat.le_refl _) (Nat.le_refl _))))))
      · replace hw := hw.2 c125
        obtain ⟨i133_14, hw⟩ := hw
        exact cl_aload_n hG (hx_dq tdX12_street_2 3 rfl) rfl (cl_getS hG fmX12_110 (hx_dq tdX12_street_2 4 rfl) (mF_S49 hF) (mF_R49_50 hF) (cl_iload_n hG (hx_dq tdX12_street_2 5 rfl) rfl (cl_iald hG (hx_dq tdX12_street_2 6 rfl) (mF_S79 hF) i133_14 (cl_goto hG 144 (hx_dq tdX12_street_2 7 rfl) rfl (cl_iret hG (hx_dq tdX12_street_2 13 rfl) rfl rfl (hK _ _ hw) (Nat.le_refl _) (Nat.le_refl _))))))
    · replace hw := hw.2 c117
      exact cl_iload_n hG (hx_dq tdX12_street_1 31 rfl) rfl (cl_goto hG 144 (hx_dq tdX12_street_2 0 rfl) rfl (cl_iret hG (hx_dq tdX12_street_2 13 rfl) rfl rfl (hK _ _ hw) (Nat.le_refl _) (Nat.le_refl _)))
def wX12_street (μ : hx_M) (v1 : Int32) (v2 : Int32) (K : Int32 → hx_M → Prop) : Prop := (v1 ≠ (-1) → (wX12_isPerson μ v1 (fun r14_2 => (r14_2 = 0 → (K (-1) μ)) ∧ (¬ (r14_2 = 0) → (wX12_isIn v2 0 1 (fun r23_4 => (r23_4 ≠ 0 → (wX12_street_J31 K v1 v2 μ)) ∧ (r23_4 = 0 → (K (-1) μ)))))))) ∧ (v1 = (-1) → ((v2 = 0 → (wX12_street_J31 K v1 v2 μ)) ∧ (¬ (v2 = 0) → (K (-1) μ))))
set_option maxRecDepth 100000 in
set_option maxHeartbeats 4000000 in
theorem kX12_street {G : hx_GT} {KK : hx_KT} (hG : hx_K cX12_street 6 0 0 (some .int) TbX12 KK G) (cA : hx_CA RX12 cX12_street 3 0 0 G) {Λ : hx_L} (hF : mF Λ) {μ : hx_M} (v1 : Int32) (v2 : Int32) {K : Int32 → hx_M → Prop} (hK : ∀ (r : Int32) (m : hx_M), K r m → KK (some (.int r)) Λ m) (hw : wX12_street μ v1 v2 K) : G Λ μ (0, 0) 0 [some (.ref 49), some (.int v1), some (.int v2), none, none, none] [] := by
  unfold wX12_street at hw
  refine cl_iload_n hG (hx_dq tdX12_street_0 0 rfl) rfl (cl_iconst hG (-1) (hx_dq tdX12_street_0 1 rfl) iconst_m1 (cl_icmp_ne hG 12 (hx_dq tdX12_street_0 2 rfl) rfl (fun c2 => ?_) (fun c2 => ?_)))
  · replace hw := hw.1 c2
    refine cl_aload_n hG (hx_dq tdX12_street_0 6 rfl) rfl (cl_iload_n hG (hx_dq tdX12_street_0 7 rfl) rfl (cl_callV1 (caX12_street_167 cA) (hx_dq tdX12_street_0 8 rfl) (mF_S49 hF) (Nat.le_of_ble_eq_true rfl) (Nat.le_refl _) (Nat.le_refl _) (sX12_isPerson_mk hF hw (fun r14_2 hw => ?_))))
    refine cl_if_eq hG 29 (hx_dq tdX12_street_0 9 rfl) rfl (fun c17 => ?_) (fun c17 => ?_)
    · replace hw := hw.1 c17
      exact cl_iconst hG (-1) (hx_dq tdX12_street_0 15 rfl) iconst_m1 (cl_iret hG (hx_dq tdX12_street_0 16 rfl) rfl rfl (hK _ _ hw) (Nat.le_refl _) (Nat.le_refl _))
    · replace hw := hw.2 c17
      refine cl_iload_n hG (hx_dq tdX12_street_0 10 rfl) rfl (cl_iconst hG 0 (hx_dq tdX12_street_0 11 rfl) iconst_0 (cl_iconst hG 1 (hx_dq tdX12_street_0 12 rfl) iconst_1 (cl_callS3 (caX12_street_157 cA) (hx_dq tdX12_street_0 13 rfl) (Nat.le_of_ble_eq_true rfl) (Nat.le_refl _) (Nat.le_refl _) (sX12_isIn_mk hw (fun r23_4 hw => ?_)))))
      refine cl_if_ne hG 31 (hx_dq tdX12_street_0 14 rfl) rfl (fun c26 => ?_) (fun c26 => ?_)
      · replace hw := hw.1 c26
        exact cl_sub hG (hx_le_c rfl (hx_le_c rfl (hx_le_c rfl (hx_le_n (hx_le_n (hx_le_n hx_le_0)))))) (kX12_street_J31 hG cA hF v1 v2 hK hw)
      · replace hw := hw.2 c26
        exact cl_iconst hG (-1) (hx_dq tdX12_street_0 15 rfl) iconst_m1 (cl_iret hG (hx_dq tdX12_street_0 16 rfl) rfl rfl (hK _ _ hw) (Nat.le_refl _) (Nat.le_refl _))
  · replace hw := hw.2 c2
    refine cl_iload_n hG (hx_dq tdX12_street_0 3 rfl) rfl (cl_if_eq hG 31 (hx_dq tdX12_street_0 4 rfl) rfl (fun c6 => ?_) (fun c6 => ?_))
    · replace hw := hw.1 c6
      exact cl_sub hG (hx_le_c rfl (hx_le_c rfl (hx_le_c rfl (hx_le_n (hx_le_n (hx_le_n hx_le_0)))))) (kX12_street_J31 hG cA hF v1 v2 hK hw)
    · replace hw := hw.2 c6
      exact cl_goto hG 29 (hx_dq tdX12_street_0 5 rfl) rfl (cl_iconst hG (-1) (hx_dq tdX12_street_0 15 rfl) iconst_m1 (cl_iret hG (hx_dq tdX12_street_0 16 rfl) rfl rfl (hK _ _ hw) (Nat.le_refl _) (Nat.le_refl _)))
def sX12_street : hx_ST := fun Λ μ as KK => mF Λ ∧ ∃ (v1 : Int32) (v2 : Int32) (K : Int32 → hx_M → Prop), as = [.ref 49, .int v1, .int v2] ∧ wX12_street μ v1 v2 K ∧ (∀ (r : Int32) (m : hx_M), K r m → KK (some (.int r)) Λ m)
theorem sX12_street_mk {Λ : hx_L} {μ : hx_M} {KK : hx_KT} {v1 : Int32} {v2 : Int32} {K : Int32 → hx_M → Prop} (hF : mF Λ) (hw : wX12_street μ v1 v2 K) (hk : ∀ (r : Int32) (m : hx_M), K r m → KK (some (.int r)) Λ m) : sX12_street Λ μ [.ref 49, .int v1, .int v2] KK := ⟨hF, _, _, _, rfl, hw, hk⟩
theorem conX12_street : hx_Con yX12_street cX12_street 6 (some .int) 3 0 0 sX12_street := by
  refine hx_con_of (by decide +kernel) tokX12 (by decide) ?_ ?_
  · intro Λ μ as KK h
    obtain ⟨hF, v1, v2, K, rfl, hw, hK⟩ := h
    exact Nat.le_of_ble_eq_true rfl
  · intro G KK hG cA Λ μ as h
    obtain ⟨hF, v1, v2, K, rfl, hw, hK⟩ := h
    exact cl_sub hG (hx_le_c rfl (hx_le_c rfl (hx_le_c rfl (hx_le_n (hx_le_n (hx_le_n hx_le_0)))))) (kX12_street hG cA hF _ _ hK hw)
/-! HemLineModel.isFollowed(II)Z -/
def tbX12_isFollowed_0 : List (Nat × Instr × Nat) := [(0, .bipush 100, 2), (2, .aload_n 0, 1), (3, .iload_n 1, 1), (4, .iload_n 2, 1), (5, .invokevirtual 306, 3), (8, .imul, 1), (9, .istore_n 3, 1), (10, .aload_n 0, 1), (11, .iload_n 2, 1), (12, .iconst 1, 1), (13, .iadd, 1), (14, .invokevirtual 365, 3), (17, .iload_n 3, 1), (18, .isub, 1), (19, .invokestatic 337, 3), (22, .aload_n 0, 1), (23, .iload_n 2, 1), (24, .invokevirtual 365, 3), (27, .iload_n 3, 1), (28, .isub, 1), (29, .invokestatic 337, 3), (32, .if_icmp .ge 7, 3), (35, .iconst 1, 1), (36, .goto 4, 3), (39, .iconst 0, 1), (40, .ireturn, 1)]
theorem tdX12_isFollowed_0 : hx_dt cX12_isFollowed tbX12_isFollowed_0 = true := by decide +kernel
theorem caX12_isFollowed_306 {G : hx_GT} (cA : hx_CA RX12 cX12_isFollowed 3 0 0 G) : hx_CV cX12_isFollowed G 0 0 306 12 2 sX12_houseAt 0 0 := cA.1 conX12_houseAt rfl rfl ⟨by decide +kernel, by decide +kernel, by decide +kernel⟩ mw_1514 mw_1516 mw_60 mw_97 mw_1517 (by decide) (by decide)
theorem caX12_isFollowed_365 {G : hx_GT} (cA : hx_CA RX12 cX12_isFollowed 3 0 0 G) : hx_CV cX12_isFollowed G 0 0 365 12 1 sX12_lineAt 0 0 := cA.1 conX12_lineAt rfl rfl ⟨by decide +kernel, by decide +kernel, by decide +kernel⟩ mw_1535 mw_1537 mw_64 mw_97 mw_1538 (by decide) (by decide)
def wX12_isFollowed (μ : hx_M) (v1 : Int32) (v2 : Int32) (K : Int32 → Prop) : Prop := wX12_houseAt μ v1 v2 (fun r5_2 => wX12_lineAt μ (v2 + 1) (fun r14_4 => ∀ x_5 : Int32, x_5 = (if 0 ≤ (r14_4 - (100 * r5_2)) then (r14_4 - (100 * r5_2)) else 0 - (r14_4 - (100 * r5_2))) → wX12_lineAt μ v2 (fun r24_7 => ∀ x_8 : Int32, x_8 = (if 0 ≤ (r24_7 - (100 * r5_2)) then (r24_7 - (100 * r5_2)) else 0 - (r24_7 - (100 * r5_2))) → (x_8 ≤ x_5 → (K 0)) ∧ (¬ (x_8 ≤ x_5) → (K 1)))))
set_option maxRecDepth 100000 in
set_option maxHeartbeats 4000000 in
theorem kX12_isFollowed {G : hx_GT} {KK : hx_KT} (hG : hx_K cX12_isFollowed 4 0 0 (some .boolean) TbX12 KK G) (cA : hx_CA RX12 cX12_isFollowed 3 0 0 G) {Λ : hx_L} (hF : mF Λ) {μ : hx_M} (v1 : Int32) (v2 : Int32) {K : Int32 → Prop} (hK : ∀ (r : Int32), K r → KK (some (.int r)) Λ μ) (hw : wX12_isFollowed μ v1 v2 K) : G Λ μ (0, 0) 0 [some (.ref 49), some (.int v1), some (.int v2), none] [] := by
  unfold wX12_isFollowed at hw
  refine cl_bipush hG 100 (hx_dq tdX12_isFollowed_0 0 rfl) bipush_100 (cl_aload_n hG (hx_dq tdX12_isFollowed_0 1 rfl) rfl (cl_iload_n hG (hx_dq tdX12_isFollowed_0 2 rfl) rfl (cl_iload_n hG (hx_dq tdX12_isFollowed_0 3 rfl) rfl (cl_callV2 (caX12_isFollowed_306 cA) (hx_dq tdX12_isFollowed_0 4 rfl) (mF_S49 hF) (Nat.le_of_ble_eq_true rfl) (Nat.le_refl _) (Nat.le_refl _) (sX12_houseAt_mk hF hw (fun r5_2 hw => ?_))))))
  refine cl_imul hG (hx_dq tdX12_isFollowed_0 5 rfl) (cl_istore_n hG (hx_dq tdX12_isFollowed_0 6 rfl) (Nat.le_of_ble_eq_true rfl) rfl (cl_aload_n hG (hx_dq tdX12_isFollowed_0 7 rfl) rfl (cl_iload_n hG (hx_dq tdX12_isFollowed_0 8 rfl) rfl (cl_iconst hG 1 (hx_dq tdX12_isFollowed_0 9 rfl) iconst_1 (cl_iadd hG (hx_dq tdX12_isFollowed_0 10 rfl) (cl_callV1 (caX12_isFollowed_365 cA) (hx_dq tdX12_isFollowed_0 11 rfl) (mF_S49 hF) (Nat.le_of_ble_eq_true rfl) (Nat.le_refl _) (Nat.le_refl _) (sX12_lineAt_mk hF hw (fun r14_4 hw => ?_))))))))
  refine cl_iload_n hG (hx_dq tdX12_isFollowed_0 12 rfl) rfl (cl_isub hG (hx_dq tdX12_isFollowed_0 13 rfl) (cl_mabs hG mmX12_337 (hx_dq tdX12_isFollowed_0 14 rfl) (Nat.le_refl _) (Nat.le_refl _) (Nat.le_of_ble_eq_true rfl) (cl_nmI (fun x_5 e_5 => ?_))))
  replace hw := hw x_5 e_5
  refine cl_aload_n hG (hx_dq tdX12_isFollowed_0 15 rfl) rfl (cl_iload_n hG (hx_dq tdX12_isFollowed_0 16 rfl) rfl (cl_callV1 (caX12_isFollowed_365 cA) (hx_dq tdX12_isFollowed_0 17 rfl) (mF_S49 hF) (Nat.le_of_ble_eq_true rfl) (Nat.le_refl _) (Nat.le_refl _) (sX12_lineAt_mk hF hw (fun r24_7 hw => ?_))))
  refine cl_iload_n hG (hx_dq tdX12_isFollowed_0 18 rfl) rfl (cl_isub hG (hx_dq tdX12_isFollowed_0 19 rfl) (cl_mabs hG mmX12_337 (hx_dq tdX12_isFollowed_0 20 rfl) (Nat.le_refl _) (Nat.le_refl _) (Nat.le_of_ble_eq_true rfl) (cl_nmI (fun x_8 e_8 => ?_))))
  replace hw := hw x_8 e_8
  refine cl_icmp_ge hG 39 (hx_dq tdX12_isFollowed_0 21 rfl) rfl (fun c32 => ?_) (fun c32 => ?_)
  · replace hw := hw.1 c32
    exact cl_iconst hG 0 (hx_dq tdX12_isFollowed_0 24 rfl) iconst_0 (cl_iret hG (hx_dq tdX12_isFollowed_0 25 rfl) rfl rfl (hK _ hw) (Nat.le_refl _) (Nat.le_refl _))
  · replace hw := hw.2 c32
    exact cl_iconst hG 1 (hx_dq tdX12_isFollowed_0 22 rfl) iconst_1 (cl_goto hG 40 (hx_dq tdX12_isFollowed_0 23 rfl) rfl (cl_iret hG (hx_dq tdX12_isFollowed_0 25 rfl) rfl rfl (hK _ hw) (Nat.le_refl _) (Nat.le_refl _)))
def sX12_isFollowed : hx_ST := fun Λ μ as KK => mF Λ ∧ ∃ (v1 : Int32) (v2 : Int32) (K : Int32 → Prop), as = [.ref 49, .int v1, .int v2] ∧ wX12_isFollowed μ v1 v2 K ∧ (∀ (r : Int32), K r → KK (some (.int r)) Λ μ)
theorem sX12_isFollowed_mk {Λ : hx_L} {μ : hx_M} {KK : hx_KT} {v1 : Int32} {v2 : Int32} {K : Int32 → Prop} (hF : mF Λ) (hw : wX12_isFollowed μ v1 v2 K) (hk : ∀ (r : Int32), K r → KK (some (.int r)) Λ μ) : sX12_isFollowed Λ μ [.ref 49, .int v1, .int v2] KK := ⟨hF, _, _, _, rfl, hw, hk⟩
theorem conX12_isFollowed : hx_Con yX12_isFollowed cX12_isFollowed 4 (some .boolean) 3 0 0 sX12_isFollowed := by
  refine hx_con_of (by decide +kernel) tokX12 (by decide) ?_ ?_
  · intro Λ μ as KK h
    obtain ⟨hF, v1, v2, K, rfl, hw, hK⟩ := h
    exact Nat.le_of_ble_eq_true rfl
  · intro G KK hG cA Λ μ as h
    obtain ⟨hF, v1, v2, K, rfl, hw, hK⟩ := h
    exact cl_sub hG (hx_le_c rfl (hx_le_c rfl (hx_le_c rfl (hx_le_n hx_le_0)))) (kX12_isFollowed hG cA hF _ _ hK hw)
/-! HemLineModel.followed(II)I -/
def tbX12_followed_0 : List (Nat × Instr × Nat) := [(0, .iload_n 1, 1), (1, .iconst 0, 1), (2, .iconst 3, 1), (3, .invokestatic 157, 3), (6, .ifCond .eq 12, 3), (9, .iload_n 2, 1), (10, .iconst 0, 1), (11, .iconst 1, 1), (12, .invokestatic 157, 3), (15, .ifCond .ne 5, 3), (18, .iconst (-1), 1), (19, .ireturn, 1), (20, .iconst 0, 1), (21, .istore_n 3, 1), (22, .iconst 0, 1), (23, .istore 4, 2), (25, .iload 4, 2), (27, .aload_n 0, 1), (28, .getfield 161, 3), (31, .if_icmp .ge 46, 3), (34, .iload_n 3, 1), (35, .aload_n 0, 1), (36, .iload_n 1, 1), (37, .iload 4, 2), (39, .invokevirtual 306, 3), (42, .iconst (-1), 1), (43, .if_icmp .eq 22, 3), (46, .iload_n 2, 1), (47, .iconst 1, 1), (48, .if_icmp .eq 13, 3), (51, .aload_n 0, 1), (52, .iload_n 1, 1)]
def tbX12_followed_1 : List (Nat × Instr × Nat) := [(53, .iload 4, 2), (55, .invokevirtual 410, 3), (58, .ifCond .eq 7, 3), (61, .iconst 1, 1), (62, .goto 4, 3), (65, .iconst 0, 1), (66, .invokestatic 396, 3), (69, .iadd, 1), (70, .istore_n 3, 1), (71, .iinc 4 1, 3), (74, .goto (-49), 3), (77, .iload_n 3, 1), (78, .ireturn, 1)]
theorem tdX12_followed_0 : hx_dt cX12_followed tbX12_followed_0 = true := by decide +kernel
theorem tdX12_followed_1 : hx_dt cX12_followed tbX12_followed_1 = true := by decide +kernel
theorem caX12_followed_157 {G : hx_GT} (cA : hx_CA RX12 cX12_followed 4 0 0 G) : hx_CS cX12_followed G 0 0 157 3 sX12_isIn 0 0 := cA.2.1 conX12_isIn ⟨by decide +kernel, by decide +kernel, by decide +kernel⟩ mw_1343 mw_1344 mw_97 mw_1345 (by decide) (by decide)
theorem caX12_followed_306 {G : hx_GT} (cA : hx_CA RX12 cX12_followed 4 0 0 G) : hx_CV cX12_followed G 0 0 306 12 2 sX12_houseAt 0 0 := cA.1 conX12_houseAt rfl rfl ⟨by decide +kernel, by decide +kernel, by decide +kernel⟩ mw_1514 mw_1516 mw_60 mw_97 mw_1517 (by decide) (by decide)
theorem caX12_followed_396 {G : hx_GT} (cA : hx_CA RX12 cX12_followed 4 0 0 G) : hx_CS cX12_followed G 0 0 396 1 sX12_one 0 0 := cA.2.1 conX12_one ⟨by decide +kernel, by decide +kernel, by decide +kernel⟩ mw_1583 mw_1584 mw_97 mw_1585 (by decide) (by decide)
theorem caX12_followed_410 {G : hx_GT} (cA : hx_CA RX12 cX12_followed 4 0 0 G) : hx_CV cX12_followed G 0 0 410 12 2 sX12_isFollowed 0 0 := cA.1 conX12_isFollowed rfl rfl ⟨by decide +kernel, by decide +kernel, by decide +kernel⟩ mw_1614 mw_1616 mw_74 mw_97 mw_1617 (by decide) (by decide)
def wX12_followed_J66 (μ : hx_M) (K : Int32 → Prop) (K25 : Int32 → Int32 → Prop) (v1 : Int32) (v2 : Int32) (v4 : Int32) (t0 : Int32) (t1 : Int32)  : Prop := wX12_one t1 (fun r66_8 => K25 (t0 + r66_8) (v4 + 1))
set_option maxRecDepth 100000 in
set_option maxHeartbeats 4000000 in
theorem kX12_followed_J66 {G : hx_GT} {KK : hx_KT} (hG : hx_K cX12_followed 5 0 0 (some .int) TbX12 KK G) (cA : hx_CA RX12 cX12_followed 4 0 0 G) {Λ : hx_L} (hF : mF Λ) {μ : hx_M} (v1 : Int32) (v2 : Int32) (v4 : Int32) (t0 : Int32) (t1 : Int32) {K : Int32 → Prop} (hK : ∀ (r : Int32), K r → KK (some (.int r)) Λ μ) {K25 : Int32 → Int32 → Prop} (hk25 : ∀ (v3 : Int32) (v4 : Int32), K25 v3 v4 → G Λ μ (0, 0) 25 [some (.ref 49), some (.int v1), some (.int v2), some (.int v3), some (.int v4)] []) (hw : wX12_followed_J66 μ K K25 v1 v2 v4 t0 t1) : G Λ μ (0, 0) 66 [some (.ref 49), some (.int v1), some (.int v2), none, some (.int v4)] [.int t1, .int t0] := by
  unfold wX12_followed_J66 at hw
  refine cl_callS1 (caX12_followed_396 cA) (hx_dq tdX12_followed_1 6 rfl) (Nat.le_of_ble_eq_true rfl) (Nat.le_refl _) (Nat.le_refl _) (sX12_one_mk hw (fun r66_8 hw => ?_))
  exact cl_iadd hG (hx_dq tdX12_followed_1 7 rfl) (cl_istore_n hG (hx_dq tdX12_followed_1 8 rfl) (Nat.le_of_ble_eq_true rfl) rfl (cl_iinc hG (v4 + 1) (hx_dq tdX12_followed_1 9 rfl) rfl (congrArg (fun z => v4 + z) iconst_1) (Nat.le_of_ble_eq_true rfl) rfl (cl_goto hG 25 (hx_dq tdX12_followed_1 10 rfl) rfl (cl_sub hG (hx_le_c rfl (hx_le_c rfl (hx_le_c rfl (hx_le_c rfl (hx_le_c rfl hx_le_0))))) (hk25 (t0 + r66_8) (v4 + 1) hw)))))
def wX12_followed_J65 (μ : hx_M) (K : Int32 → Prop) (K25 : Int32 → Int32 → Prop) (v1 : Int32) (v2 : Int32) (v4 : Int32) (t0 : Int32)  : Prop := wX12_followed_J66 μ K (K25) v1 v2 v4 t0 0
set_option maxRecDepth 100000 in
set_option maxHeartbeats 4000000 in
theorem kX12_followed_J65 {G : hx_GT} {KK : hx_KT} (hG : hx_K cX12_followed 5 0 0 (some .int) TbX12 KK G) (cA : hx_CA RX12 cX12_followed 4 0 0 G) {Λ : hx_L} (hF : mF Λ) {μ : hx_M} (v1 : Int32) (v2 : Int32) (v4 : Int32) (t0 : Int32) {K : Int32 → Prop} (hK : ∀ (r : Int32), K r → KK (some (.int r)) Λ μ) {K25 : Int32 → Int32 → Prop} (hk25 : ∀ (v3 : Int32) (v4 : Int32), K25 v3 v4 → G Λ μ (0, 0) 25 [some (.ref 49), some (.int v1), some (.int v2), some (.int v3), some (.int v4)] []) (hw : wX12_followed_J65 μ K K25 v1 v2 v4 t0) : G Λ μ (0, 0) 65 [some (.ref 49), some (.int v1), some (.int v2), none, some (.int v4)] [.int t0] := by
  unfold wX12_followed_J65 at hw
  refine cl_iconst hG 0 (hx_dq tdX12_followed_1 5 rfl) iconst_0 ?_
  exact cl_sub hG (hx_le_c rfl (hx_le_c rfl (hx_le_c rfl (hx_le_n (hx_le_c rfl hx_le_0))))) (kX12_followed_J66 hG cA hF v1 v2 v4 t0 0 hK (fun z0 z1 hw => hk25 z0 z1 hw) hw)
def wX12_followed_J66_9 (μ : hx_M) (K : Int32 → Prop) (K25 : Int32 → Int32 → Prop) (v1 : Int32) (v2 : Int32) (v4 : Int32) (t0 : Int32) (t1 : Int32)  : Prop := wX12_one t1 (fun r66_11 => K25 (t0 + r66_11) (v4 + 1))
set_option maxRecDepth 100000 in
set_option maxHeartbeats 4000000 in
theorem kX12_followed_J66_9 {G : hx_GT} {KK : hx_KT} (hG : hx_K cX12_followed 5 0 0 (some .int) TbX12 KK G) (cA : hx_CA RX12 cX12_followed 4 0 0 G) {Λ : hx_L} (hF : mF Λ) {μ : hx_M} (v1 : Int32) (v2 : Int32) (v4 : Int32) (t0 : Int32) (t1 : Int32) {K : Int32 → Prop} (hK : ∀ (r : Int32), K r → KK (some (.int r)) Λ μ) {K25 : Int32 → Int32 → Prop} (hk25 : ∀ (v3 : Int32) (v4 : Int32), K25 v3 v4 → G Λ μ (0, 0) 25 [some (.ref 49), some (.int v1), some (.int v2), some (.int v3), some (.int v4)] []) (hw : wX12_followed_J66_9 μ K K25 v1 v2 v4 t0 t1) : G Λ μ (0, 0) 66 [some (.ref 49), some (.int v1), some (.int v2), none, some (.int v4)] [.int t1, .int t0] := by
  unfold wX12_followed_J66_9 at hw
  refine cl_callS1 (caX12_followed_396 cA) (hx_dq tdX12_followed_1 6 rfl) (Nat.le_of_ble_eq_true rfl) (Nat.le_refl _) (Nat.le_refl _) (sX12_one_mk hw (fun r66_11 hw => ?_))
  exact cl_iadd hG (hx_dq tdX12_followed_1 7 rfl) (cl_istore_n hG (hx_dq tdX12_followed_1 8 rfl) (Nat.le_of_ble_eq_true rfl) rfl (cl_iinc hG (v4 + 1) (hx_dq tdX12_followed_1 9 rfl) rfl (congrArg (fun z => v4 + z) iconst_1) (Nat.le_of_ble_eq_true rfl) rfl (cl_goto hG 25 (hx_dq tdX12_followed_1 10 rfl) rfl (cl_sub hG (hx_le_c rfl (hx_le_c rfl (hx_le_c rfl (hx_le_c rfl (hx_le_c rfl hx_le_0))))) (hk25 (t0 + r66_11) (v4 + 1) hw)))))
def wX12_followed_J61 (μ : hx_M) (K : Int32 → Prop) (K25 : Int32 → Int32 → Prop) (v1 : Int32) (v2 : Int32) (v4 : Int32) (t0 : Int32)  : Prop := wX12_followed_J66_9 μ K (K25) v1 v2 v4 t0 1
set_option maxRecDepth 100000 in
set_option maxHeartbeats 4000000 in
theorem kX12_followed_J61 {G : hx_GT} {KK : hx_KT} (hG : hx_K cX12_followed 5 0 0 (some .int) TbX12 KK G) (cA : hx_CA RX12 cX12_followed 4 0 0 G) {Λ : hx_L} (hF : mF Λ) {μ : hx_M} (v1 : Int32) (v2 : Int32) (v4 : Int32) (t0 : Int32) {K : Int32 → Prop} (hK : ∀ (r : Int32), K r → KK (some (.int r)) Λ μ) {K25 : Int32 → Int32 → Prop} (hk25 : ∀ (v3 : Int32) (v4 : Int32), K25 v3 v4 → G Λ μ (0, 0) 25 [some (.ref 49), some (.int v1), some (.int v2), some (.int v3), some (.int v4)] []) (hw : wX12_followed_J61 μ K K25 v1 v2 v4 t0) : G Λ μ (0, 0) 61 [some (.ref 49), some (.int v1), some (.int v2), none, some (.int v4)] [.int t0] := by
  unfold wX12_followed_J61 at hw
  refine cl_iconst hG 1 (hx_dq tdX12_followed_1 3 rfl) iconst_1 (cl_goto hG 66 (hx_dq tdX12_followed_1 4 rfl) rfl ?_)
  exact cl_sub hG (hx_le_c rfl (hx_le_c rfl (hx_le_c rfl (hx_le_n (hx_le_c rfl hx_le_0))))) (kX12_followed_J66_9 hG cA hF v1 v2 v4 t0 1 hK (fun z0 z1 hw => hk25 z0 z1 hw) hw)
def wX12_followed_L25 (μ : hx_M) (v1 : Int32) (v2 : Int32) (K : Int32 → Prop)  : Nat → Int32 → Int32 → Prop
  | 0, _, _ => False
  | n + 1, v3, v4 => ((μ.1 49 1) ≤ v4 → (K v3)) ∧ (¬ ((μ.1 49 1) ≤ v4) → (wX12_houseAt μ v1 v4 (fun r39_6 => (r39_6 = (-1) → (wX12_followed_J65 μ K (wX12_followed_L25 μ v1 v2 K n) v1 v2 v4 v3)) ∧ (¬ (r39_6 = (-1)) → ((v2 = 1 → (wX12_followed_J61 μ K (wX12_followed_L25 μ v1 v2 K n) v1 v2 v4 v3)) ∧ (¬ (v2 = 1) → (wX12_isFollowed μ v1 v4 (fun r55_13 => (r55_13 = 0 → (wX12_followed_J65 μ K (wX12_followed_L25 μ v1 v2 K n) v1 v2 v4 v3)) ∧ (¬ (r55_13 = 0) → (wX12_followed_J61 μ K (wX12_followed_L25 μ v1 v2 K n) v1 v2 v4 v3))))))))))
set_option maxRecDepth 100000 in
set_option maxHeartbeats 4000000 in
theorem kX12_followed_L25 {G : hx_GT} {KK : hx_KT} (hG : hx_K cX12_followed 5 0 0 (some .int) TbX12 KK G) (cA : hx_CA RX12 cX12_followed 4 0 0 G) {Λ : hx_L} (hF : mF Λ) {μ : hx_M} (v1 : Int32) (v2 : Int32) {K : Int32 → Prop} (hK : ∀ (r : Int32), K r → KK (some (.int r)) Λ μ)  : ∀ (n : Nat) (v3 : Int32) (v4 : Int32), wX12_followed_L25 μ v1 v2 K n v3 v4 → G Λ μ (0, 0) 25 [some (.ref 49), some (.int v1), some (.int v2), some (.int v3), some (.int v4)] [] := by
  intro n
  induction n with
  | zero =>
    intro v3 v4 hw
    exact False.elim (by simpa only [wX12_followed_L25] using hw)
  | succ n ih =>
    intro v3 v4 hw
    unfold wX12_followed_L25 at hw
    refine cl_iload hG (hx_dq tdX12_followed_0 16 rfl) rfl (cl_aload_n hG (hx_dq tdX12_followed_0 17 rfl) rfl (cl_getI hG fmX12_161 (hx_dq tdX12_followed_0 18 rfl) (mF_S49 hF) (cl_icmp_ge hG 77 (hx_dq tdX12_followed_0 19 rfl) rfl (fun c31 => ?_) (fun c31 => ?_))))
    · replace hw := hw.1 c31
      exact cl_iload_n hG (hx_dq tdX12_followed_1 11 rfl) rfl (cl_iret hG (hx_dq tdX12_followed_1 12 rfl) rfl rfl (hK _ hw) (Nat.le_refl _) (Nat.le_refl _))
    · replace hw := hw.2 c31
      refine cl_iload_n hG (hx_dq tdX12_followed_0 20 rfl) rfl (cl_aload_n hG (hx_dq tdX12_followed_0 21 rfl) rfl (cl_iload_n hG (hx_dq tdX12_followed_0 22 rfl) rfl (cl_iload hG (hx_dq tdX12_followed_0 23 rfl) rfl (cl_callV2 (caX12_followed_306 cA) (hx_dq tdX12_followed_0 24 rfl) (mF_S49 hF) (Nat.le_of_ble_eq_true rfl) (Nat.le_refl _) (Nat.le_refl _) (sX12_houseAt_mk hF hw (fun r39_6 hw => ?_))))))
      refine cl_iconst hG (-1) (hx_dq tdX12_followed_0 25 rfl) iconst_m1 (cl_icmp_eq hG 65 (hx_dq tdX12_followed_0 26 rfl) rfl (fun c43 => ?_) (fun c43 => ?_))
      · replace hw := hw.1 c43
        exact cl_sub hG (hx_le_c rfl (hx_le_c rfl (hx_le_c rfl (hx_le_n (hx_le_c rfl hx_le_0))))) (kX12_followed_J65 hG cA hF v1 v2 v4 v3 hK (fun z0 z1 hw => ih z0 z1 hw) hw)
      · replace hw := hw.2 c43
        refine cl_iload_n hG (hx_dq tdX12_followed_0 27 rfl) rfl (cl_iconst hG 1 (hx_dq tdX12_followed_0 28 rfl) iconst_1 (cl_icmp_eq hG 61 (hx_dq tdX12_followed_0 29 rfl) rfl (fun c48 => ?_) (fun c48 => ?_)))
        · replace hw := hw.1 c48
          exact cl_sub hG (hx_le_c rfl (hx_le_c rfl (hx_le_c rfl (hx_le_n (hx_le_c rfl hx_le_0))))) (kX12_followed_J61 hG cA hF v1 v2 v4 v3 hK (fun z0 z1 hw => ih z0 z1 hw) hw)
        · replace hw := hw.2 c48
          refine cl_aload_n hG (hx_dq tdX12_followed_0 30 rfl) rfl (cl_iload_n hG (hx_dq tdX12_followed_0 31 rfl) rfl (cl_iload hG (hx_dq tdX12_followed_1 0 rfl) rfl (cl_callV2 (caX12_followed_410 cA) (hx_dq tdX12_followed_1 1 rfl) (mF_S49 hF) (Nat.le_of_ble_eq_true rfl) (Nat.le_refl _) (Nat.le_refl _) (sX12_isFollowed_mk hF hw (fun r55_13 hw => ?_)))))
          refine cl_if_eq hG 65 (hx_dq tdX12_followed_1 2 rfl) rfl (fun c58 => ?_) (fun c58 => ?_)
          · replace hw := hw.1 c58
            exact cl_sub hG (hx_le_c rfl (hx_le_c rfl (hx_le_c rfl (hx_le_n (hx_le_c rfl hx_le_0))))) (kX12_followed_J65 hG cA hF v1 v2 v4 v3 hK (fun z0 z1 hw => ih z0 z1 hw) hw)
          · replace hw := hw.2 c58
            exact cl_sub hG (hx_le_c rfl (hx_le_c rfl (hx_le_c rfl (hx_le_n (hx_le_c rfl hx_le_0))))) (kX12_followed_J61 hG cA hF v1 v2 v4 v3 hK (fun z0 z1 hw => ih z0 z1 hw) hw)
def wX12_followed (μ : hx_M) (v1 : Int32) (v2 : Int32) (K : Int32 → Prop) : Prop := wX12_isIn v1 0 3 (fun r3_2 => (r3_2 = 0 → (K (-1))) ∧ (¬ (r3_2 = 0) → (wX12_isIn v2 0 1 (fun r12_4 => (r12_4 ≠ 0 → (∃ n25_14, wX12_followed_L25 μ v1 v2 K n25_14 0 0)) ∧ (r12_4 = 0 → (K (-1)))))))
set_option maxRecDepth 100000 in
set_option maxHeartbeats 4000000 in
theorem kX12_followed {G : hx_GT} {KK : hx_KT} (hG : hx_K cX12_followed 5 0 0 (some .int) TbX12 KK G) (cA : hx_CA RX12 cX12_followed 4 0 0 G) {Λ : hx_L} (hF : mF Λ) {μ : hx_M} (v1 : Int32) (v2 : Int32) {K : Int32 → Prop} (hK : ∀ (r : Int32), K r → KK (some (.int r)) Λ μ) (hw : wX12_followed μ v1 v2 K) : G Λ μ (0, 0) 0 [some (.ref 49), some (.int v1), some (.int v2), none, none] [] := by
  unfold wX12_followed at hw
  refine cl_iload_n hG (hx_dq tdX12_followed_0 0 rfl) rfl (cl_iconst hG 0 (hx_dq tdX12_followed_0 1 rfl) iconst_0 (cl_iconst hG 3 (hx_dq tdX12_followed_0 2 rfl) iconst_3 (cl_callS3 (caX12_followed_157 cA) (hx_dq tdX12_followed_0 3 rfl) (Nat.le_of_ble_eq_true rfl) (Nat.le_refl _) (Nat.le_refl _) (sX12_isIn_mk hw (fun r3_2 hw => ?_)))))
  refine cl_if_eq hG 18 (hx_dq tdX12_followed_0 4 rfl) rfl (fun c6 => ?_) (fun c6 => ?_)
  · replace hw := hw.1 c6
    exact cl_iconst hG (-1) (hx_dq tdX12_followed_0 10 rfl) iconst_m1 (cl_iret hG (hx_dq tdX12_followed_0 11 rfl) rfl rfl (hK _ hw) (Nat.le_refl _) (Nat.le_refl _))
  · replace hw := hw.2 c6
    refine cl_iload_n hG (hx_dq tdX12_followed_0 5 rfl) rfl (cl_iconst hG 0 (hx_dq tdX12_followed_0 6 rfl) iconst_0 (cl_iconst hG 1 (hx_dq tdX12_followed_0 7 rfl) iconst_1 (cl_callS3 (caX12_followed_157 cA) (hx_dq tdX12_followed_0 8 rfl) (Nat.le_of_ble_eq_true rfl) (Nat.le_refl _) (Nat.le_refl _) (sX12_isIn_mk hw (fun r12_4 hw => ?_)))))
    refine cl_if_ne hG 20 (hx_dq tdX12_followed_0 9 rfl) rfl (fun c15 => ?_) (fun c15 => ?_)
    · replace hw := hw.1 c15
      refine cl_iconst hG 0 (hx_dq tdX12_followed_0 12 rfl) iconst_0 (cl_istore_n hG (hx_dq tdX12_followed_0 13 rfl) (Nat.le_of_ble_eq_true rfl) rfl (cl_iconst hG 0 (hx_dq tdX12_followed_0 14 rfl) iconst_0 (cl_istore hG (hx_dq tdX12_followed_0 15 rfl) (Nat.le_of_ble_eq_true rfl) rfl ?_)))
      obtain ⟨n_, hw⟩ := hw
      refine cl_sub hG (hx_le_c rfl (hx_le_c rfl (hx_le_c rfl (hx_le_c rfl (hx_le_c rfl hx_le_0))))) (kX12_followed_L25 hG cA hF v1 v2 hK n_ 0 0 hw)
    · replace hw := hw.2 c15
      exact cl_iconst hG (-1) (hx_dq tdX12_followed_0 10 rfl) iconst_m1 (cl_iret hG (hx_dq tdX12_followed_0 11 rfl) rfl rfl (hK _ hw) (Nat.le_refl _) (Nat.le_refl _))
def sX12_followed : hx_ST := fun Λ μ as KK => mF Λ ∧ ∃ (v1 : Int32) (v2 : Int32) (K : Int32 → Prop), as = [.ref 49, .int v1, .int v2] ∧ wX12_followed μ v1 v2 K ∧ (∀ (r : Int32), K r → KK (some (.int r)) Λ μ)
theorem sX12_followed_mk {Λ : hx_L} {μ : hx_M} {KK : hx_KT} {v1 : Int32} {v2 : Int32} {K : Int32 → Prop} (hF : mF Λ) (hw : wX12_followed μ v1 v2 K) (hk : ∀ (r : Int32), K r → KK (some (.int r)) Λ μ) : sX12_followed Λ μ [.ref 49, .int v1, .int v2] KK := ⟨hF, _, _, _, rfl, hw, hk⟩
theorem conX12_followed : hx_Con yX12_followed cX12_followed 5 (some .int) 4 0 0 sX12_followed := by
  refine hx_con_of (by decide +kernel) tokX12 (by decide) ?_ ?_
  · intro Λ μ as KK h
    obtain ⟨hF, v1, v2, K, rfl, hw, hK⟩ := h
    exact Nat.le_of_ble_eq_true rfl
  · intro G KK hG cA Λ μ as h
    obtain ⟨hF, v1, v2, K, rfl, hw, hK⟩ := h
    exact cl_sub hG (hx_le_c rfl (hx_le_c rfl (hx_le_c rfl (hx_le_n (hx_le_n hx_le_0))))) (kX12_followed hG cA hF _ _ hK hw)
/-! HemLineModel.luck(II)J -/
def tbX12_luck_0 : List (Nat × Instr × Nat) := [(0, .iload_n 1, 1), (1, .iconst 0, 1), (2, .iconst 3, 1), (3, .invokestatic 157, 3), (6, .ifCond .eq 12, 3), (9, .iload_n 2, 1), (10, .iconst 0, 1), (11, .iconst 1, 1), (12, .invokestatic 157, 3), (15, .ifCond .ne 7, 3), (18, .ldc2_w 413, 3), (21, .lreturn, 1), (22, .iconst 0, 1), (23, .istore_n 3, 1), (24, .iload_n 3, 1), (25, .bipush 13, 2), (27, .if_icmp .ge 24, 3), (30, .aload_n 0, 1), (31, .getfield 113, 3), (34, .iload_n 3, 1), (35, .iload_n 3, 1), (36, .ifCond .ne 7, 3), (39, .lconst 1, 1), (40, .goto 4, 3), (43, .lconst 0, 1), (44, .lastore, 1), (45, .iinc 3 1, 3), (48, .goto (-24), 3), (51, .iconst 0, 1), (52, .istore_n 3, 1), (53, .iconst 0, 1), (54, .istore 4, 2)]
def tbX12_luck_1 : List (Nat × Instr × Nat) := [(56, .aload_n 0, 1), (57, .getfield 161, 3), (60, .iconst 1, 1), (61, .isub, 1), (62, .istore 5, 2), (64, .iload 5, 2), (66, .ifCond .lt 159, 3), (69, .iload_n 3, 1), (70, .bipush 12, 2), (72, .if_icmp .ge 153, 3), (75, .aload_n 0, 1), (76, .iload_n 1, 1), (77, .iload 5, 2), (79, .invokevirtual 306, 3), (82, .iconst (-1), 1), (83, .if_icmp .ne 6, 3), (86, .goto 133, 3), (89, .iinc 3 1, 3), (92, .iload 4, 2), (94, .aload_n 0, 1), (95, .iload_n 1, 1), (96, .iload 5, 2), (98, .invokevirtual 410, 3), (101, .invokestatic 396, 3), (104, .iadd, 1), (105, .istore 4, 2), (107, .iconst 0, 1), (108, .istore 6, 2), (110, .iconst 0, 1), (111, .istore 7, 2), (113, .iconst 0, 1), (114, .istore 8, 2)]
def tbX12_luck_2 : List (Nat × Instr × Nat) := [(116, .iload 8, 2), (118, .iconst 4, 1), (119, .if_icmp .ge 44, 3), (122, .aload_n 0, 1), (123, .iload 8, 2), (125, .iload 5, 2), (127, .invokevirtual 306, 3), (130, .iconst (-1), 1), (131, .if_icmp .ne 6, 3), (134, .goto 23, 3), (137, .aload_n 0, 1), (138, .iload 8, 2), (140, .iload 5, 2), (142, .invokevirtual 410, 3), (145, .ifCond .eq 9, 3), (148, .iinc 6 1, 3), (151, .goto 6, 3), (154, .iinc 7 1, 3), (157, .iinc 8 1, 3), (160, .goto (-44), 3), (163, .bipush 12, 2), (165, .istore 8, 2), (167, .iload 8, 2), (169, .ifCond .lt 50, 3), (172, .aload_n 0, 1), (173, .getfield 113, 3), (176, .iload 8, 2), (178, .aload_n 0, 1), (179, .getfield 113, 3), (182, .iload 8, 2), (184, .laload, 1), (185, .iload 7, 2)]
def tbX12_luck_3 : List (Nat × Instr × Nat) := [(187, .i2l, 1), (188, .lmul, 1), (189, .iload 8, 2), (191, .ifCond .le 19, 3), (194, .aload_n 0, 1), (195, .getfield 113, 3), (198, .iload 8, 2), (200, .iconst 1, 1), (201, .isub, 1), (202, .laload, 1), (203, .iload 6, 2), (205, .i2l, 1), (206, .lmul, 1), (207, .goto 4, 3), (210, .lconst 0, 1), (211, .ladd, 1), (212, .lastore, 1), (213, .iinc 8 (-1), 3), (216, .goto (-49), 3), (219, .iinc 5 (-1), 3), (222, .goto (-158), 3), (225, .iload_n 3, 1), (226, .ifCond .ne 7, 3), (229, .ldc2_w 413, 3), (232, .lreturn, 1), (233, .lconst 0, 1), (234, .lstore 5, 2), (236, .iload_n 2, 1), (237, .ifCond .ne 8, 3), (240, .iload 4, 2), (242, .goto 4, 3), (245, .iconst 0, 1)]
def tbX12_luck_4 : List (Nat × Instr × Nat) := [(246, .istore 7, 2), (248, .iload 7, 2), (250, .bipush 13, 2), (252, .if_icmp .ge 21, 3), (255, .lload 5, 2), (257, .aload_n 0, 1), (258, .getfield 113, 3), (261, .iload 7, 2), (263, .laload, 1), (264, .ladd, 1), (265, .lstore 5, 2), (267, .iinc 7 1, 3), (270, .goto (-22), 3), (273, .lload 5, 2), (275, .lreturn, 1)]
theorem tdX12_luck_0 : hx_dt cX12_luck tbX12_luck_0 = true := by decide +kernel
theorem tdX12_luck_1 : hx_dt cX12_luck tbX12_luck_1 = true := by decide +kernel
theorem tdX12_luck_2 : hx_dt cX12_luck tbX12_luck_2 = true := by decide +kernel
theorem tdX12_luck_3 : hx_dt cX12_luck tbX12_luck_3 = true := by decide +kernel
theorem tdX12_luck_4 : hx_dt cX12_luck tbX12_luck_4 = true := by decide +kernel
theorem caX12_luck_157 {G : hx_GT} (cA : hx_CA RX12 cX12_luck 4 0 0 G) : hx_CS cX12_luck G 0 0 157 3 sX12_isIn 0 0 := cA.2.1 conX12_isIn ⟨by decide +kernel, by decide +kernel, by decide +kernel⟩ mw_1343 mw_1344 mw_97 mw_1345 (by decide) (by decide)
theorem caX12_luck_306 {G : hx_GT} (cA : hx_CA RX12 cX12_luck 4 0 0 G) : hx_CV cX12_luck G 0 0 306 12 2 sX12_houseAt 0 0 := cA.1 conX12_houseAt rfl rfl ⟨by decide +kernel, by decide +kernel, by decide +kernel⟩ mw_1514 mw_1516 mw_60 mw_97 mw_1517 (by decide) (by decide)
theorem caX12_luck_396 {G : hx_GT} (cA : hx_CA RX12 cX12_luck 4 0 0 G) : hx_CS cX12_luck G 0 0 396 1 sX12_one 0 0 := cA.2.1 conX12_one ⟨by decide +kernel, by decide +kernel, by decide +kernel⟩ mw_1583 mw_1584 mw_97 mw_1585 (by decide) (by decide)
theorem caX12_luck_410 {G : hx_GT} (cA : hx_CA RX12 cX12_luck 4 0 0 G) : hx_CV cX12_luck G 0 0 410 12 2 sX12_isFollowed 0 0 := cA.1 conX12_isFollowed rfl rfl ⟨by decide +kernel, by decide +kernel, by decide +kernel⟩ mw_1614 mw_1616 mw_74 mw_97 mw_1617 (by decide) (by decide)
def wX12_luck_J44  (K : Int64 → hx_M → Prop) (K24 : Int32 → hx_M → Prop) (v1 : Int32) (v2 : Int32) (v3 : Int32) (t1 : Int32) (t2 : Int64) (μ : hx_M) : Prop := vp_in t1 13 ∧ K24 (v3 + 1) (hx_sL μ 80 t1.toNatClampNeg t2)
set_option maxRecDepth 100000 in
set_option maxHeartbeats 4000000 in
theorem kX12_luck_J44 {G : hx_GT} {KK : hx_KT} (hG : hx_K cX12_luck 9 0 0 (some .long) TbX12 KK G) (cA : hx_CA RX12 cX12_luck 4 0 0 G) {Λ : hx_L} (hF : mF Λ) {μ : hx_M} (v1 : Int32) (v2 : Int32) (v3 : Int32) (t1 : Int32) (t2 : Int64) {K : Int64 → hx_M → Prop} (hK : ∀ (r : Int64) (m : hx_M), K r m → KK (some (.long r)) Λ m) {K24 : Int32 → hx_M → Prop} (hk24 : ∀ (v3 : Int32) (μ : hx_M), K24 v3 μ → G Λ μ (0, 0) 24 [some (.ref 49), some (.int v1), some (.int v2), some (.int v3), none, none, none, none, none] []) (hw : wX12_luck_J44 K K24 v1 v2 v3 t1 t2 μ) : G Λ μ (0, 0) 44 [some (.ref 49), some (.int v1), some (.int v2), some (.int v3), none, none, none, none, none] [.long t2, .int t1, .ref 80] := by
  unfold wX12_luck_J44 at hw
  obtain ⟨i44_5, hw⟩ := hw
  exact cl_last hG (hx_dq tdX12_luck_0 25 rfl) (mF_S80 hF) i44_5 (cl_iinc hG (v3 + 1) (hx_dq tdX12_luck_0 26 rfl) rfl (congrArg (fun z => v3 + z) iconst_1) (Nat.le_of_ble_eq_true rfl) rfl (cl_goto hG 24 (hx_dq tdX12_luck_0 27 rfl) rfl (cl_sub hG (hx_le_c rfl (hx_le_c rfl (hx_le_c rfl (hx_le_c rfl (hx_le_n (hx_le_n (hx_le_n (hx_le_n (hx_le_n hx_le_0))))))))) (hk24 (v3 + 1) _ hw))))
def wX12_luck_L24 (v1 : Int32) (v2 : Int32) (K : Int64 → hx_M → Prop) (K51 : hx_M → Prop) : Nat → Int32 → hx_M → Prop
  | 0, _, _ => False
  | n + 1, v3, μ => (13 ≤ v3 → (K51 μ)) ∧ (¬ (13 ≤ v3) → ((v3 ≠ 0 → (wX12_luck_J44 K (wX12_luck_L24 v1 v2 K K51 n) v1 v2 v3 v3 0 μ)) ∧ (v3 = 0 → (wX12_luck_J44 K (wX12_luck_L24 v1 v2 K K51 n) v1 v2 v3 v3 1 μ))))
set_option maxRecDepth 100000 in
set_option maxHeartbeats 4000000 in
theorem kX12_luck_L24 {G : hx_GT} {KK : hx_KT} (hG : hx_K cX12_luck 9 0 0 (some .long) TbX12 KK G) (cA : hx_CA RX12 cX12_luck 4 0 0 G) {Λ : hx_L} (hF : mF Λ)  (v1 : Int32) (v2 : Int32) {K : Int64 → hx_M → Prop} (hK : ∀ (r : Int64) (m : hx_M), K r m → KK (some (.long r)) Λ m) {K51 : hx_M → Prop} (hk51 : ∀ (μ : hx_M), K51 μ → G Λ μ (0, 0) 51 [some (.ref 49), some (.int v1), some (.int v2), none, none, none, none, none, none] []) : ∀ (n : Nat) (v3 : Int32) (μ : hx_M), wX12_luck_L24 v1 v2 K K51 n v3 μ → G Λ μ (0, 0) 24 [some (.ref 49), some (.int v1), some (.int v2), some (.int v3), none, none, none, none, none] [] := by
  intro n
  induction n with
  | zero =>
    intro v3 μ hw
    exact False.elim (by simpa only [wX12_luck_L24] using hw)
  | succ n ih =>
    intro v3 μ hw
    unfold wX12_luck_L24 at hw
    refine cl_iload_n hG (hx_dq tdX12_luck_0 14 rfl) rfl (cl_bipush hG 13 (hx_dq tdX12_luck_0 15 rfl) bipush_13 (cl_icmp_ge hG 51 (hx_dq tdX12_luck_0 16 rfl) rfl (fun c27 => ?_) (fun c27 => ?_)))
    · replace hw := hw.1 c27
      exact cl_sub hG (hx_le_c rfl (hx_le_c rfl (hx_le_c rfl (hx_le_n (hx_le_n (hx_le_n (hx_le_n (hx_le_n (hx_le_n hx_le_0))))))))) (hk51 _ hw)
    · replace hw := hw.2 c27
      refine cl_aload_n hG (hx_dq tdX12_luck_0 17 rfl) rfl (cl_getS hG fmX12_113 (hx_dq tdX12_luck_0 18 rfl) (mF_S49 hF) (mF_R49_51 hF) (cl_iload_n hG (hx_dq tdX12_luck_0 19 rfl) rfl (cl_iload_n hG (hx_dq tdX12_luck_0 20 rfl) rfl (cl_if_ne hG 43 (hx_dq tdX12_luck_0 21 rfl) rfl (fun c36 => ?_) (fun c36 => ?_)))))
      · replace hw := hw.1 c36
        refine cl_lconst hG 0 (hx_dq tdX12_luck_0 24 rfl) lconst_0 ?_
        exact cl_sub hG (hx_le_c rfl (hx_le_c rfl (hx_le_c rfl (hx_le_c rfl (hx_le_n (hx_le_n (hx_le_n (hx_le_n (hx_le_n hx_le_0))))))))) (kX12_luck_J44 hG cA hF v1 v2 v3 v3 0 hK (fun z0 z1 hw => ih z0 z1 hw) hw)
      · replace hw := hw.2 c36
        refine cl_lconst hG 1 (hx_dq tdX12_luck_0 22 rfl) lconst_1 (cl_goto hG 44 (hx_dq tdX12_luck_0 23 rfl) rfl ?_)
        exact cl_sub hG (hx_le_c rfl (hx_le_c rfl (hx_le_c rfl (hx_le_c rfl (hx_le_n (hx_le_n (hx_le_n (hx_le_n (hx_le_n hx_le_0))))))))) (kX12_luck_J44 hG cA hF v1 v2 v3 v3 1 hK (fun z0 z1 hw => ih z0 z1 hw) hw)
def wX12_luck_J157  (K : Int64 → hx_M → Prop) (K116 : Int32 → Int32 → Int32 → Prop) (v1 : Int32) (v2 : Int32) (v3 : Int32) (v4 : Int32) (v5 : Int32) (v6 : Int32) (v7 : Int32) (v8 : Int32)  (μ : hx_M) : Prop := K116 v6 v7 (v8 + 1)
set_option maxRecDepth 100000 in
set_option maxHeartbeats 4000000 in
theorem kX12_luck_J157 {G : hx_GT} {KK : hx_KT} (hG : hx_K cX12_luck 9 0 0 (some .long) TbX12 KK G) (cA : hx_CA RX12 cX12_luck 4 0 0 G) {Λ : hx_L} (hF : mF Λ) {μ : hx_M} (v1 : Int32) (v2 : Int32) (v3 : Int32) (v4 : Int32) (v5 : Int32) (v6 : Int32) (v7 : Int32) (v8 : Int32)  {K : Int64 → hx_M → Prop} (hK : ∀ (r : Int64) (m : hx_M), K r m → KK (some (.long r)) Λ m) {K116 : Int32 → Int32 → Int32 → Prop} (hk116 : ∀ (v6 : Int32) (v7 : Int32) (v8 : Int32), K116 v6 v7 v8 → G Λ μ (0, 0) 116 [some (.ref 49), some (.int v1), some (.int v2), some (.int v3), some (.int v4), some (.int v5), some (.int v6), some (.int v7), some (.int v8)] []) (hw : wX12_luck_J157 K K116 v1 v2 v3 v4 v5 v6 v7 v8 μ) : G Λ μ (0, 0) 157 [some (.ref 49), some (.int v1), some (.int v2), some (.int v3), some (.int v4), some (.int v5), some (.int v6), some (.int v7), some (.int v8)] [] := by
  unfold wX12_luck_J157 at hw
  exact cl_iinc hG (v8 + 1) (hx_dq tdX12_luck_2 18 rfl) rfl (congrArg (fun z => v8 + z) iconst_1) (Nat.le_of_ble_eq_true rfl) rfl (cl_goto hG 116 (hx_dq tdX12_luck_2 19 rfl) rfl (cl_sub hG (hx_le_c rfl (hx_le_c rfl (hx_le_c rfl (hx_le_c rfl (hx_le_c rfl (hx_le_c rfl (hx_le_c rfl (hx_le_c rfl (hx_le_c rfl hx_le_0))))))))) (hk116 v6 v7 (v8 + 1) hw)))
def wX12_luck_L116 (μ : hx_M) (v1 : Int32) (v2 : Int32) (v3 : Int32) (v4 : Int32) (v5 : Int32) (K : Int64 → hx_M → Prop) (K163 : Int32 → Int32 → Prop) : Nat → Int32 → Int32 → Int32 → Prop
  | 0, _, _, _ => False
  | n + 1, v6, v7, v8 => (4 ≤ v8 → (K163 v6 v7)) ∧ (¬ (4 ≤ v8) → (wX12_houseAt μ v8 v5 (fun r127_14 => (r127_14 ≠ (-1) → (wX12_isFollowed μ v8 v5 (fun r142_16 => (r142_16 = 0 → (wX12_luck_J157 K (wX12_luck_L116 μ v1 v2 v3 v4 v5 K K163 n) v1 v2 v3 v4 v5 v6 (v7 + 1) v8 μ)) ∧ (¬ (r142_16 = 0) → (wX12_luck_J157 K (wX12_luck_L116 μ v1 v2 v3 v4 v5 K K163 n) v1 v2 v3 v4 v5 (v6 + 1) v7 v8 μ))))) ∧ (r127_14 = (-1) → (wX12_luck_J157 K (wX12_luck_L116 μ v1 v2 v3 v4 v5 K K163 n) v1 v2 v3 v4 v5 v6 v7 v8 μ)))))
set_option maxRecDepth 100000 in
set_option maxHeartbeats 4000000 in
theorem kX12_luck_L116 {G : hx_GT} {KK : hx_KT} (hG : hx_K cX12_luck 9 0 0 (some .long) TbX12 KK G) (cA : hx_CA RX12 cX12_luck 4 0 0 G) {Λ : hx_L} (hF : mF Λ) {μ : hx_M} (v1 : Int32) (v2 : Int32) (v3 : Int32) (v4 : Int32) (v5 : Int32) {K : Int64 → hx_M → Prop} (hK : ∀ (r : Int64) (m : hx_M), K r m → KK (some (.long r)) Λ m) {K163 : Int32 → Int32 → Prop} (hk163 : ∀ (v6 : Int32) (v7 : Int32), K163 v6 v7 → G Λ μ (0, 0) 163 [some (.ref 49), some (.int v1), some (.int v2), some (.int v3), some (.int v4), some (.int v5), some (.int v6), some (.int v7), none] []) : ∀ (n : Nat) (v6 : Int32) (v7 : Int32) (v8 : Int32), wX12_luck_L116 μ v1 v2 v3 v4 v5 K K163 n v6 v7 v8 → G Λ μ (0, 0) 116 [some (.ref 49), some (.int v1), some (.int v2), some (.int v3), some (.int v4), some (.int v5), some (.int v6), some (.int v7), some (.int v8)] [] := by
  intro n
  induction n with
  | zero =>
    intro v6 v7 v8 hw
    exact False.elim (by simpa only [wX12_luck_L116] using hw)
  | succ n ih =>
    intro v6 v7 v8 hw
    unfold wX12_luck_L116 at hw
    refine cl_iload hG (hx_dq tdX12_luck_2 0 rfl) rfl (cl_iconst hG 4 (hx_dq tdX12_luck_2 1 rfl) iconst_4 (cl_icmp_ge hG 163 (hx_dq tdX12_luck_2 2 rfl) rfl (fun c119 => ?_) (fun c119 => ?_)))
    · replace hw := hw.1 c119
      exact cl_sub hG (hx_le_c rfl (hx_le_c rfl (hx_le_c rfl (hx_le_c rfl (hx_le_c rfl (hx_le_c rfl (hx_le_c rfl (hx_le_c rfl (hx_le_n hx_le_0))))))))) (hk163 v6 v7 hw)
    · replace hw := hw.2 c119
      refine cl_aload_n hG (hx_dq tdX12_luck_2 3 rfl) rfl (cl_iload hG (hx_dq tdX12_luck_2 4 rfl) rfl (cl_iload hG (hx_dq tdX12_luck_2 5 rfl) rfl (cl_callV2 (caX12_luck_306 cA) (hx_dq tdX12_luck_2 6 rfl) (mF_S49 hF) (Nat.le_of_ble_eq_true rfl) (Nat.le_refl _) (Nat.le_refl _) (sX12_houseAt_mk hF hw (fun r127_14 hw => ?_)))))
      refine cl_iconst hG (-1) (hx_dq tdX12_luck_2 7 rfl) iconst_m1 (cl_icmp_ne hG 137 (hx_dq tdX12_luck_2 8 rfl) rfl (fun c131 => ?_) (fun c131 => ?_))
      · replace hw := hw.1 c131
        refine cl_aload_n hG (hx_dq tdX12_luck_2 10 rfl) rfl (cl_iload hG (hx_dq tdX12_luck_2 11 rfl) rfl (cl_iload hG (hx_dq tdX12_luck_2 12 rfl) rfl (cl_callV2 (caX12_luck_410 cA) (hx_dq tdX12_luck_2 13 rfl) (mF_S49 hF) (Nat.le_of_ble_eq_true rfl) (Nat.le_refl _) (Nat.le_refl _) (sX12_isFollowed_mk hF hw (fun r142_16 hw => ?_)))))
        refine cl_if_eq hG 154 (hx_dq tdX12_luck_2 14 rfl) rfl (fun c145 => ?_) (fun c145 => ?_)
        · replace hw := hw.1 c145
          refine cl_iinc hG (v7 + 1) (hx_dq tdX12_luck_2 17 rfl) rfl (congrArg (fun z => v7 + z) iconst_1) (Nat.le_of_ble_eq_true rfl) rfl ?_
          exact cl_sub hG (hx_le_c rfl (hx_le_c rfl (hx_le_c rfl (hx_le_c rfl (hx_le_c rfl (hx_le_c rfl (hx_le_c rfl (hx_le_c rfl (hx_le_c rfl hx_le_0))))))))) (kX12_luck_J157 hG cA hF v1 v2 v3 v4 v5 v6 (v7 + 1) v8 hK (fun z0 z1 z2 hw => ih z0 z1 z2 hw) hw)
        · replace hw := hw.2 c145
          refine cl_iinc hG (v6 + 1) (hx_dq tdX12_luck_2 15 rfl) rfl (congrArg (fun z => v6 + z) iconst_1) (Nat.le_of_ble_eq_true rfl) rfl (cl_goto hG 157 (hx_dq tdX12_luck_2 16 rfl) rfl ?_)
          exact cl_sub hG (hx_le_c rfl (hx_le_c rfl (hx_le_c rfl (hx_le_c rfl (hx_le_c rfl (hx_le_c rfl (hx_le_c rfl (hx_le_c rfl (hx_le_c rfl hx_le_0))))))))) (kX12_luck_J157 hG cA hF v1 v2 v3 v4 v5 (v6 + 1) v7 v8 hK (fun z0 z1 z2 hw => ih z0 z1 z2 hw) hw)
      · replace hw := hw.2 c131
        refine cl_goto hG 157 (hx_dq tdX12_luck_2 9 rfl) rfl ?_
        exact cl_sub hG (hx_le_c rfl (hx_le_c rfl (hx_le_c rfl (hx_le_c rfl (hx_le_c rfl (hx_le_c rfl (hx_le_c rfl (hx_le_c rfl (hx_le_c rfl hx_le_0))))))))) (kX12_luck_J157 hG cA hF v1 v2 v3 v4 v5 v6 v7 v8 hK (fun z0 z1 z2 hw => ih z0 z1 z2 hw) hw)
def wX12_luck_J211  (K : Int64 → hx_M → Prop) (K167 : Int32 → hx_M → Prop) (v1 : Int32) (v2 : Int32) (v3 : Int32) (v4 : Int32) (v5 : Int32) (v6 : Int32) (v7 : Int32) (v8 : Int32) (t1 : Int32) (t2 : Int64) (t3 : Int64) (μ : hx_M) : Prop := vp_in t1 13 ∧ K167 (v8 + (-1)) (hx_sL μ 80 t1.toNatClampNeg (t2 + t3))
set_option maxRecDepth 100000 in
set_option maxHeartbeats 4000000 in
theorem kX12_luck_J211 {G : hx_GT} {KK : hx_KT} (hG : hx_K cX12_luck 9 0 0 (some .long) TbX12 KK G) (cA : hx_CA RX12 cX12_luck 4 0 0 G) {Λ : hx_L} (hF : mF Λ) {μ : hx_M} (v1 : Int32) (v2 : Int32) (v3 : Int32) (v4 : Int32) (v5 : Int32) (v6 : Int32) (v7 : Int32) (v8 : Int32) (t1 : Int32) (t2 : Int64) (t3 : Int64) {K : Int64 → hx_M → Prop} (hK : ∀ (r : Int64) (m : hx_M), K r m → KK (some (.long r)) Λ m) {K167 : Int32 → hx_M → Prop} (hk167 : ∀ (v8 : Int32) (μ : hx_M), K167 v8 μ → G Λ μ (0, 0) 167 [some (.ref 49), some (.int v1), some (.int v2), some (.int v3), some (.int v4), some (.int v5), some (.int v6), some (.int v7), some (.int v8)] []) (hw : wX12_luck_J211 K K167 v1 v2 v3 v4 v5 v6 v7 v8 t1 t2 t3 μ) : G Λ μ (0, 0) 211 [some (.ref 49), some (.int v1), some (.int v2), some (.int v3), some (.int v4), some (.int v5), some (.int v6), some (.int v7), some (.int v8)] [.long t3, .long t2, .int t1, .ref 80] := by
  unfold wX12_luck_J211 at hw
  obtain ⟨i212_20, hw⟩ := hw
  exact cl_ladd hG (hx_dq tdX12_luck_3 15 rfl) (cl_last hG (hx_dq tdX12_luck_3 16 rfl) (mF_S80 hF) i212_20 (cl_iinc hG (v8 + (-1)) (hx_dq tdX12_luck_3 17 rfl) rfl (congrArg (fun z => v8 + z) iconst_m1) (Nat.le_of_ble_eq_true rfl) rfl (cl_goto hG 167 (hx_dq tdX12_luck_3 18 rfl) rfl (cl_sub hG (hx_le_c rfl (hx_le_c rfl (hx_le_c rfl (hx_le_c rfl (hx_le_c rfl (hx_le_c rfl (hx_le_c rfl (hx_le_c rfl (hx_le_c rfl hx_le_0))))))))) (hk167 (v8 + (-1)) _ hw)))))
def wX12_luck_L167 (v1 : Int32) (v2 : Int32) (v3 : Int32) (v4 : Int32) (v5 : Int32) (v6 : Int32) (v7 : Int32) (K : Int64 → hx_M → Prop) (K219 : hx_M → Prop) : Nat → Int32 → hx_M → Prop
  | 0, _, _ => False
  | n + 1, v8, μ => (v8 < 0 → (K219 μ)) ∧ (¬ (v8 < 0) → (vp_in v8 13 ∧ ∀ x_19 : Int64, x_19 = ((μ.2 80 v8.toNatClampNeg) * ((v7 : Int32).toInt64)) → (v8 ≤ 0 → (wX12_luck_J211 K (wX12_luck_L167 v1 v2 v3 v4 v5 v6 v7 K K219 n) v1 v2 v3 v4 v5 v6 v7 v8 v8 x_19 0 μ)) ∧ (¬ (v8 ≤ 0) → (vp_in (v8 - 1) 13 ∧ ∀ x_22 : Int64, x_22 = (((μ.2 80 ((v8 - 1).toNatClampNeg))) * ((v6 : Int32).toInt64)) → wX12_luck_J211 K (wX12_luck_L167 v1 v2 v3 v4 v5 v6 v7 K K219 n) v1 v2 v3 v4 v5 v6 v7 v8 v8 x_19 x_22 μ))))
set_option maxRecDepth 100000 in
set_option maxHeartbeats 4000000 in
theorem kX12_luck_L167 {G : hx_GT} {KK : hx_KT} (hG : hx_K cX12_luck 9 0 0 (some .long) TbX12 KK G) (cA : hx_CA RX12 cX12_luck 4 0 0 G) {Λ : hx_L} (hF : mF Λ)  (v1 : Int32) (v2 : Int32) (v3 : Int32) (v4 : Int32) (v5 : Int32) (v6 : Int32) (v7 : Int32) {K : Int64 → hx_M → Prop} (hK : ∀ (r : Int64) (m : hx_M), K r m → KK (some (.long r)) Λ m) {K219 : hx_M → Prop} (hk219 : ∀ (μ : hx_M), K219 μ → G Λ μ (0, 0) 219 [some (.ref 49), some (.int v1), some (.int v2), some (.int v3), some (.int v4), some (.int v5), none, none, none] []) : ∀ (n : Nat) (v8 : Int32) (μ : hx_M), wX12_luck_L167 v1 v2 v3 v4 v5 v6 v7 K K219 n v8 μ → G Λ μ (0, 0) 167 [some (.ref 49), some (.int v1), some (.int v2), some (.int v3), some (.int v4), some (.int v5), some (.int v6), some (.int v7), some (.int v8)] [] := by
  intro n
  induction n with
  | zero =>
    intro v8 μ hw
    exact False.elim (by simpa only [wX12_luck_L167] using hw)
  | succ n ih =>
    intro v8 μ hw
    unfold wX12_luck_L167 at hw
    refine cl_iload hG (hx_dq tdX12_luck_2 22 rfl) rfl (cl_if_lt hG 219 (hx_dq tdX12_luck_2 23 rfl) rfl (fun c169 => ?_) (fun c169 => ?_))
    · replace hw := hw.1 c169
      exact cl_sub hG (hx_le_c rfl (hx_le_c rfl (hx_le_c rfl (hx_le_c rfl (hx_le_c rfl (hx_le_c rfl (hx_le_n (hx_le_n (hx_le_n hx_le_0))))))))) (hk219 _ hw)
    · replace hw := hw.2 c169
      obtain ⟨i184_18, hw⟩ := hw
      refine cl_aload_n hG (hx_dq tdX12_luck_2 24 rfl) rfl (cl_getS hG fmX12_113 (hx_dq tdX12_luck_2 25 rfl) (mF_S49 hF) (mF_R49_51 hF) (cl_iload hG (hx_dq tdX12_luck_2 26 rfl) rfl (cl_aload_n hG (hx_dq tdX12_luck_2 27 rfl) rfl (cl_getS hG fmX12_113 (hx_dq tdX12_luck_2 28 rfl) (mF_S49 hF) (mF_R49_51 hF) (cl_iload hG (hx_dq tdX12_luck_2 29 rfl) rfl (cl_lald hG (hx_dq tdX12_luck_2 30 rfl) (mF_S80 hF) i184_18 (cl_iload hG (hx_dq tdX12_luck_2 31 rfl) rfl (cl_i2l hG (hx_dq tdX12_luck_3 0 rfl) (cl_lmul hG (hx_dq tdX12_luck_3 1 rfl) (cl_nmL (fun x_19 e_19 => ?_)))))))))))
      replace hw := hw x_19 e_19
      refine cl_iload hG (hx_dq tdX12_luck_3 2 rfl) rfl (cl_if_le hG 210 (hx_dq tdX12_luck_3 3 rfl) rfl (fun c191 => ?_) (fun c191 => ?_))
      · replace hw := hw.1 c191
        refine cl_lconst hG 0 (hx_dq tdX12_luck_3 14 rfl) lconst_0 ?_
        exact cl_sub hG (hx_le_c rfl (hx_le_c rfl (hx_le_c rfl (hx_le_c rfl (hx_le_c rfl (hx_le_c rfl (hx_le_c rfl (hx_le_c rfl (hx_le_c rfl hx_le_0))))))))) (kX12_luck_J211 hG cA hF v1 v2 v3 v4 v5 v6 v7 v8 v8 x_19 0 hK (fun z0 z1 hw => ih z0 z1 hw) hw)
      · replace hw := hw.2 c191
        obtain ⟨i202_21, hw⟩ := hw
        refine cl_aload_n hG (hx_dq tdX12_luck_3 4 rfl) rfl (cl_getS hG fmX12_113 (hx_dq tdX12_luck_3 5 rfl) (mF_S49 hF) (mF_R49_51 hF) (cl_iload hG (hx_dq tdX12_luck_3 6 rfl) rfl (cl_iconst hG 1 (hx_dq tdX12_luck_3 7 rfl) iconst_1 (cl_isub hG (hx_dq tdX12_luck_3 8 rfl) (cl_lald hG (hx_dq tdX12_luck_3 9 rfl) (mF_S80 hF) i202_21 (cl_iload hG (hx_dq tdX12_luck_3 10 rfl) rfl (cl_i2l hG (hx_dq tdX12_luck_3 11 rfl) (cl_lmul hG (hx_dq tdX12_luck_3 12 rfl) (cl_nmL (fun x_22 e_22 => ?_))))))))))
        replace hw := hw x_22 e_22
        refine cl_goto hG 211 (hx_dq tdX12_luck_3 13 rfl) rfl ?_
        exact cl_sub hG (hx_le_c rfl (hx_le_c rfl (hx_le_c rfl (hx_le_c rfl (hx_le_c rfl (hx_le_c rfl (hx_le_c rfl (hx_le_c rfl (hx_le_c rfl hx_le_0))))))))) (kX12_luck_J211 hG cA hF v1 v2 v3 v4 v5 v6 v7 v8 v8 x_19 x_22 hK (fun z0 z1 hw => ih z0 z1 hw) hw)
def wX12_luck_J219  (K : Int64 → hx_M → Prop) (K64 : Int32 → Int32 → Int32 → hx_M → Prop) (v1 : Int32) (v2 : Int32) (v3 : Int32) (v4 : Int32) (v5 : Int32)  (μ : hx_M) : Prop := K64 v3 v4 (v5 + (-1)) μ
set_option maxRecDepth 100000 in
set_option maxHeartbeats 4000000 in
theorem kX12_luck_J219 {G : hx_GT} {KK : hx_KT} (hG : hx_K cX12_luck 9 0 0 (some .long) TbX12 KK G) (cA : hx_CA RX12 cX12_luck 4 0 0 G) {Λ : hx_L} (hF : mF Λ) {μ : hx_M} (v1 : Int32) (v2 : Int32) (v3 : Int32) (v4 : Int32) (v5 : Int32)  {K : Int64 → hx_M → Prop} (hK : ∀ (r : Int64) (m : hx_M), K r m → KK (some (.long r)) Λ m) {K64 : Int32 → Int32 → Int32 → hx_M → Prop} (hk64 : ∀ (v3 : Int32) (v4 : Int32) (v5 : Int32) (μ : hx_M), K64 v3 v4 v5 μ → G Λ μ (0, 0) 64 [some (.ref 49), some (.int v1), some (.int v2), some (.int v3), some (.int v4), some (.int v5), none, none, none] []) (hw : wX12_luck_J219 K K64 v1 v2 v3 v4 v5 μ) : G Λ μ (0, 0) 219 [some (.ref 49), some (.int v1), some (.int v2), some (.int v3), some (.int v4), some (.int v5), none, none, none] [] := by
  unfold wX12_luck_J219 at hw
  exact cl_iinc hG (v5 + (-1)) (hx_dq tdX12_luck_3 19 rfl) rfl (congrArg (fun z => v5 + z) iconst_m1) (Nat.le_of_ble_eq_true rfl) rfl (cl_goto hG 64 (hx_dq tdX12_luck_3 20 rfl) rfl (cl_sub hG (hx_le_c rfl (hx_le_c rfl (hx_le_c rfl (hx_le_c rfl (hx_le_c rfl (hx_le_c rfl (hx_le_n (hx_le_n (hx_le_n hx_le_0))))))))) (hk64 v3 v4 (v5 + (-1)) _ hw)))
def wX12_luck_L64 (v1 : Int32) (v2 : Int32) (K : Int64 → hx_M → Prop) (K225 : Int32 → Int32 → hx_M → Prop) : Nat → Int32 → Int32 → Int32 → hx_M → Prop
  | 0, _, _, _, _ => False
  | n + 1, v3, v4, v5, μ => (v5 < 0 → (K225 v3 v4 μ)) ∧ (¬ (v5 < 0) → ((12 ≤ v3 → (K225 v3 v4 μ)) ∧ (¬ (12 ≤ v3) → (wX12_houseAt μ v1 v5 (fun r79_8 => (r79_8 ≠ (-1) → (wX12_isFollowed μ v1 v5 (fun r98_10 => wX12_one r98_10 (fun r101_12 => ∃ n116_25, wX12_luck_L116 μ v1 v2 (v3 + 1) (v4 + r101_12) v5 K (fun v6_17 v7_17 => ∃ n167_24, wX12_luck_L167 v1 v2 (v3 + 1) (v4 + r101_12) v5 v6_17 v7_17 K (fun m_23 => wX12_luck_J219 K (wX12_luck_L64 v1 v2 K K225 n) v1 v2 (v3 + 1) (v4 + r101_12) v5 m_23) n167_24 12 μ) n116_25 0 0 0)))) ∧ (r79_8 = (-1) → (wX12_luck_J219 K (wX12_luck_L64 v1 v2 K K225 n) v1 v2 v3 v4 v5 μ)))))))
set_option maxRecDepth 100000 in
set_option maxHeartbeats 4000000 in
theorem kX12_luck_L64 {G : hx_GT} {KK : hx_KT} (hG : hx_K cX12_luck 9 0 0 (some .long) TbX12 KK G) (cA : hx_CA RX12 cX12_luck 4 0 0 G) {Λ : hx_L} (hF : mF Λ)  (v1 : Int32) (v2 : Int32) {K : Int64 → hx_M → Prop} (hK : ∀ (r : Int64) (m : hx_M), K r m → KK (some (.long r)) Λ m) {K225 : Int32 → Int32 → hx_M → Prop} (hk225 : ∀ (v3 : Int32) (v4 : Int32) (μ : hx_M), K225 v3 v4 μ → G Λ μ (0, 0) 225 [some (.ref 49), none, some (.int v2), some (.int v3), some (.int v4), none, none, none, none] []) : ∀ (n : Nat) (v3 : Int32) (v4 : Int32) (v5 : Int32) (μ : hx_M), wX12_luck_L64 v1 v2 K K225 n v3 v4 v5 μ → G Λ μ (0, 0) 64 [some (.ref 49), some (.int v1), some (.int v2), some (.int v3), some (.int v4), some (.int v5), none, none, none] [] := by
  intro n
  induction n with
  | zero =>
    intro v3 v4 v5 μ hw
    exact False.elim (by simpa only [wX12_luck_L64] using hw)
  | succ n ih =>
    intro v3 v4 v5 μ hw
    unfold wX12_luck_L64 at hw
    refine cl_iload hG (hx_dq tdX12_luck_1 5 rfl) rfl (cl_if_lt hG 225 (hx_dq tdX12_luck_1 6 rfl) rfl (fun c66 => ?_) (fun c66 => ?_))
    · replace hw := hw.1 c66
      exact cl_sub hG (hx_le_c rfl (hx_le_n (hx_le_c rfl (hx_le_c rfl (hx_le_c rfl (hx_le_n (hx_le_n (hx_le_n (hx_le_n hx_le_0))))))))) (hk225 v3 v4 _ hw)
    · replace hw := hw.2 c66
      refine cl_iload_n hG (hx_dq tdX12_luck_1 7 rfl) rfl (cl_bipush hG 12 (hx_dq tdX12_luck_1 8 rfl) bipush_12 (cl_icmp_ge hG 225 (hx_dq tdX12_luck_1 9 rfl) rfl (fun c72 => ?_) (fun c72 => ?_)))
      · replace hw := hw.1 c72
        exact cl_sub hG (hx_le_c rfl (hx_le_n (hx_le_c rfl (hx_le_c rfl (hx_le_c rfl (hx_le_n (hx_le_n (hx_le_n (hx_le_n hx_le_0))))))))) (hk225 v3 v4 _ hw)
      · replace hw := hw.2 c72
        refine cl_aload_n hG (hx_dq tdX12_luck_1 10 rfl) rfl (cl_iload_n hG (hx_dq tdX12_luck_1 11 rfl) rfl (cl_iload hG (hx_dq tdX12_luck_1 12 rfl) rfl (cl_callV2 (caX12_luck_306 cA) (hx_dq tdX12_luck_1 13 rfl) (mF_S49 hF) (Nat.le_of_ble_eq_true rfl) (Nat.le_refl _) (Nat.le_refl _) (sX12_houseAt_mk hF hw (fun r79_8 hw => ?_)))))
        refine cl_iconst hG (-1) (hx_dq tdX12_luck_1 14 rfl) iconst_m1 (cl_icmp_ne hG 89 (hx_dq tdX12_luck_1 15 rfl) rfl (fun c83 => ?_) (fun c83 => ?_))
        · replace hw := hw.1 c83
          refine cl_iinc hG (v3 + 1) (hx_dq tdX12_luck_1 17 rfl) rfl (congrArg (fun z => v3 + z) iconst_1) (Nat.le_of_ble_eq_true rfl) rfl (cl_iload hG (hx_dq tdX12_luck_1 18 rfl) rfl (cl_aload_n hG (hx_dq tdX12_luck_1 19 rfl) rfl (cl_iload_n hG (hx_dq tdX12_luck_1 20 rfl) rfl (cl_iload hG (hx_dq tdX12_luck_1 21 rfl) rfl (cl_callV2 (caX12_luck_410 cA) (hx_dq tdX12_luck_1 22 rfl) (mF_S49 hF) (Nat.le_of_ble_eq_true rfl) (Nat.le_refl _) (Nat.le_refl _) (sX12_isFollowed_mk hF hw (fun r98_10 hw => ?_)))))))
          refine cl_callS1 (caX12_luck_396 cA) (hx_dq tdX12_luck_1 23 rfl) (Nat.le_of_ble_eq_true rfl) (Nat.le_refl _) (Nat.le_refl _) (sX12_one_mk hw (fun r101_12 hw => ?_))
          refine cl_iadd hG (hx_dq tdX12_luck_1 24 rfl) (cl_istore hG (hx_dq tdX12_luck_1 25 rfl) (Nat.le_of_ble_eq_true rfl) rfl (cl_iconst hG 0 (hx_dq tdX12_luck_1 26 rfl) iconst_0 (cl_istore hG (hx_dq tdX12_luck_1 27 rfl) (Nat.le_of_ble_eq_true rfl) rfl (cl_iconst hG 0 (hx_dq tdX12_luck_1 28 rfl) iconst_0 (cl_istore hG (hx_dq tdX12_luck_1 29 rfl) (Nat.le_of_ble_eq_true rfl) rfl (cl_iconst hG 0 (hx_dq tdX12_luck_1 30 rfl) iconst_0 (cl_istore hG (hx_dq tdX12_luck_1 31 rfl) (Nat.le_of_ble_eq_true rfl) rfl ?_)))))))
          obtain ⟨n_, hw⟩ := hw
          refine cl_sub hG (hx_le_c rfl (hx_le_c rfl (hx_le_c rfl (hx_le_c rfl (hx_le_c rfl (hx_le_c rfl (hx_le_c rfl (hx_le_c rfl (hx_le_c rfl hx_le_0))))))))) (kX12_luck_L116 hG cA hF v1 v2 (v3 + 1) (v4 + r101_12) v5 hK (fun v6_17 v7_17 hw => ?_) n_ 0 0 0 hw)
          · refine cl_bipush hG 12 (hx_dq tdX12_luck_2 20 rfl) bipush_12 (cl_istore hG (hx_dq tdX12_luck_2 21 rfl) (Nat.le_of_ble_eq_true rfl) rfl ?_)
            obtain ⟨n_, hw⟩ := hw
            refine cl_sub hG (hx_le_c rfl (hx_le_c rfl (hx_le_c rfl (hx_le_c rfl (hx_le_c rfl (hx_le_c rfl (hx_le_c rfl (hx_le_c rfl (hx_le_c rfl hx_le_0))))))))) (kX12_luck_L167 hG cA hF v1 v2 (v3 + 1) (v4 + r101_12) v5 v6_17 v7_17 hK (fun m_23 hw => ?_) n_ 12 _ hw)
            · exact cl_sub hG (hx_le_c rfl (hx_le_c rfl (hx_le_c rfl (hx_le_c rfl (hx_le_c rfl (hx_le_c rfl (hx_le_n (hx_le_n (hx_le_n hx_le_0))))))))) (kX12_luck_J219 hG cA hF v1 v2 (v3 + 1) (v4 + r101_12) v5 hK (fun z0 z1 z2 z3 hw => ih z0 z1 z2 z3 hw) hw)
        · replace hw := hw.2 c83
          refine cl_goto hG 219 (hx_dq tdX12_luck_1 16 rfl) rfl ?_
          exact cl_sub hG (hx_le_c rfl (hx_le_c rfl (hx_le_c rfl (hx_le_c rfl (hx_le_c rfl (hx_le_c rfl (hx_le_n (hx_le_n (hx_le_n hx_le_0))))))))) (kX12_luck_J219 hG cA hF v1 v2 v3 v4 v5 hK (fun z0 z1 z2 z3 hw => ih z0 z1 z2 z3 hw) hw)
def wX12_luck_L248 (μ : hx_M) (K : Int64 → hx_M → Prop)  : Nat → Int64 → Int32 → Prop
  | 0, _, _ => False
  | n + 1, v5, v7 => (13 ≤ v7 → (K v5 μ)) ∧ (¬ (13 ≤ v7) → (vp_in v7 13 ∧ wX12_luck_L248 μ K n (v5 + (μ.2 80 v7.toNatClampNeg)) (v7 + 1)))
set_option maxRecDepth 100000 in
set_option maxHeartbeats 4000000 in
theorem kX12_luck_L248 {G : hx_GT} {KK : hx_KT} (hG : hx_K cX12_luck 9 0 0 (some .long) TbX12 KK G) (cA : hx_CA RX12 cX12_luck 4 0 0 G) {Λ : hx_L} (hF : mF Λ) {μ : hx_M}  {K : Int64 → hx_M → Prop} (hK : ∀ (r : Int64) (m : hx_M), K r m → KK (some (.long r)) Λ m)  : ∀ (n : Nat) (v5 : Int64) (v7 : Int32), wX12_luck_L248 μ K n v5 v7 → G Λ μ (0, 0) 248 [some (.ref 49), none, none, none, none, some (.long v5), none, some (.int v7), none] [] := by
  intro n
  induction n with
  | zero =>
    intro v5 v7 hw
    exact False.elim (by simpa only [wX12_luck_L248] using hw)
  | succ n ih =>
    intro v5 v7 hw
    unfold wX12_luck_L248 at hw
    refine cl_iload hG (hx_dq tdX12_luck_4 1 rfl) rfl (cl_bipush hG 13 (hx_dq tdX12_luck_4 2 rfl) bipush_13 (cl_icmp_ge hG 273 (hx_dq tdX12_luck_4 3 rfl) rfl (fun c252 => ?_) (fun c252 => ?_)))
    · replace hw := hw.1 c252
      exact cl_lload hG (hx_dq tdX12_luck_4 13 rfl) rfl (cl_lret hG (hx_dq tdX12_luck_4 14 rfl) rfl (hK _ _ hw) (Nat.le_refl _) (Nat.le_refl _))
    · replace hw := hw.2 c252
      obtain ⟨i263_27, hw⟩ := hw
      exact cl_lload hG (hx_dq tdX12_luck_4 4 rfl) rfl (cl_aload_n hG (hx_dq tdX12_luck_4 5 rfl) rfl (cl_getS hG fmX12_113 (hx_dq tdX12_luck_4 6 rfl) (mF_S49 hF) (mF_R49_51 hF) (cl_iload hG (hx_dq tdX12_luck_4 7 rfl) rfl (cl_lald hG (hx_dq tdX12_luck_4 8 rfl) (mF_S80 hF) i263_27 (cl_ladd hG (hx_dq tdX12_luck_4 9 rfl) (cl_lstore hG (hx_dq tdX12_luck_4 10 rfl) (Nat.le_of_ble_eq_true rfl) rfl (cl_iinc hG (v7 + 1) (hx_dq tdX12_luck_4 11 rfl) rfl (congrArg (fun z => v7 + z) iconst_1) (Nat.le_of_ble_eq_true rfl) rfl (cl_goto hG 248 (hx_dq tdX12_luck_4 12 rfl) rfl (cl_sub hG (hx_le_c rfl (hx_le_n (hx_le_n (hx_le_n (hx_le_n (hx_le_c rfl (hx_le_n (hx_le_c rfl (hx_le_n hx_le_0))))))))) (ih (v5 + (μ.2 80 v7.toNatClampNeg)) (v7 + 1) hw))))))))))
def wX12_luck_J246  (K : Int64 → hx_M → Prop)  (v5 : Int64) (t0 : Int32) (μ : hx_M) : Prop := ∃ n248_28, wX12_luck_L248 μ K n248_28 v5 t0
set_option maxRecDepth 100000 in
set_option maxHeartbeats 4000000 in
theorem kX12_luck_J246 {G : hx_GT} {KK : hx_KT} (hG : hx_K cX12_luck 9 0 0 (some .long) TbX12 KK G) (cA : hx_CA RX12 cX12_luck 4 0 0 G) {Λ : hx_L} (hF : mF Λ) {μ : hx_M} (v5 : Int64) (t0 : Int32) {K : Int64 → hx_M → Prop} (hK : ∀ (r : Int64) (m : hx_M), K r m → KK (some (.long r)) Λ m)  (hw : wX12_luck_J246 K v5 t0 μ) : G Λ μ (0, 0) 246 [some (.ref 49), none, none, none, none, some (.long v5), none, none, none] [.int t0] := by
  unfold wX12_luck_J246 at hw
  refine cl_istore hG (hx_dq tdX12_luck_4 0 rfl) (Nat.le_of_ble_eq_true rfl) rfl ?_
  obtain ⟨n_, hw⟩ := hw
  refine cl_sub hG (hx_le_c rfl (hx_le_n (hx_le_n (hx_le_n (hx_le_n (hx_le_c rfl (hx_le_n (hx_le_c rfl (hx_le_n hx_le_0))))))))) (kX12_luck_L248 hG cA hF hK n_ v5 t0 hw)
def wX12_luck_J225  (K : Int64 → hx_M → Prop)  (v2 : Int32) (v3 : Int32) (v4 : Int32)  (μ : hx_M) : Prop := (v3 ≠ 0 → ((v2 ≠ 0 → (wX12_luck_J246 K 0 0 μ)) ∧ (v2 = 0 → (wX12_luck_J246 K 0 v4 μ)))) ∧ (v3 = 0 → (K (-1 : Int64) μ))
set_option maxRecDepth 100000 in
set_option maxHeartbeats 4000000 in
theorem kX12_luck_J225 {G : hx_GT} {KK : hx_KT} (hG : hx_K cX12_luck 9 0 0 (some .long) TbX12 KK G) (cA : hx_CA RX12 cX12_luck 4 0 0 G) {Λ : hx_L} (hF : mF Λ) {μ : hx_M} (v2 : Int32) (v3 : Int32) (v4 : Int32)  {K : Int64 → hx_M → Prop} (hK : ∀ (r : Int64) (m : hx_M), K r m → KK (some (.long r)) Λ m)  (hw : wX12_luck_J225 K v2 v3 v4 μ) : G Λ μ (0, 0) 225 [some (.ref 49), none, some (.int v2), some (.int v3), some (.int v4), none, none, none, none] [] := by
  unfold wX12_luck_J225 at hw
  refine cl_iload_n hG (hx_dq tdX12_luck_3 21 rfl) rfl (cl_if_ne hG 233 (hx_dq tdX12_luck_3 22 rfl) rfl (fun c226 => ?_) (fun c226 => ?_))
  · replace hw := hw.1 c226
    refine cl_lconst hG 0 (hx_dq tdX12_luck_3 25 rfl) lconst_0 (cl_lstore hG (hx_dq tdX12_luck_3 26 rfl) (Nat.le_of_ble_eq_true rfl) rfl (cl_iload_n hG (hx_dq tdX12_luck_3 27 rfl) rfl (cl_if_ne hG 245 (hx_dq tdX12_luck_3 28 rfl) rfl (fun c237 => ?_) (fun c237 => ?_))))
    · replace hw := hw.1 c237
      refine cl_iconst hG 0 (hx_dq tdX12_luck_3 31 rfl) iconst_0 ?_
      exact cl_sub hG (hx_le_c rfl (hx_le_n (hx_le_n (hx_le_n (hx_le_n (hx_le_c rfl (hx_le_n (hx_le_n (hx_le_n hx_le_0))))))))) (kX12_luck_J246 hG cA hF 0 0 hK hw)
    · replace hw := hw.2 c237
      refine cl_iload hG (hx_dq tdX12_luck_3 29 rfl) rfl (cl_goto hG 246 (hx_dq tdX12_luck_3 30 rfl) rfl ?_)
      exact cl_sub hG (hx_le_c rfl (hx_le_n (hx_le_n (hx_le_n (hx_le_n (hx_le_c rfl (hx_le_n (hx_le_n (hx_le_n hx_le_0))))))))) (kX12_luck_J246 hG cA hF 0 v4 hK hw)
  · replace hw := hw.2 c226
    exact cl_ldc2 hG ciX12_413 (hx_dq tdX12_luck_3 23 rfl) (cl_lret hG (hx_dq tdX12_luck_3 24 rfl) rfl (hK _ _ hw) (Nat.le_refl _) (Nat.le_refl _))
def wX12_luck (μ : hx_M) (v1 : Int32) (v2 : Int32) (K : Int64 → hx_M → Prop) : Prop := wX12_isIn v1 0 3 (fun r3_2 => (r3_2 = 0 → (K (-1 : Int64) μ)) ∧ (¬ (r3_2 = 0) → (wX12_isIn v2 0 1 (fun r12_4 => (r12_4 ≠ 0 → (∃ n24_30, wX12_luck_L24 v1 v2 K (fun m_6 => ∃ n64_29, wX12_luck_L64 v1 v2 K (fun v3_26 v4_26 m_26 => wX12_luck_J225 K v2 v3_26 v4_26 m_26) n64_29 0 0 ((m_6.1 49 1) - 1) m_6) n24_30 0 μ)) ∧ (r12_4 = 0 → (K (-1 : Int64) μ))))))
set_option maxRecDepth 100000 in
set_option maxHeartbeats 4000000 in
theorem kX12_luck {G : hx_GT} {KK : hx_KT} (hG : hx_K cX12_luck 9 0 0 (some .long) TbX12 KK G) (cA : hx_CA RX12 cX12_luck 4 0 0 G) {Λ : hx_L} (hF : mF Λ) {μ : hx_M} (v1 : Int32) (v2 : Int32) {K : Int64 → hx_M → Prop} (hK : ∀ (r : Int64) (m : hx_M), K r m → KK (some (.long r)) Λ m) (hw : wX12_luck μ v1 v2 K) : G Λ μ (0, 0) 0 [some (.ref 49), some (.int v1), some (.int v2), none, none, none, none, none, none] [] := by
  unfold wX12_luck at hw
  refine cl_iload_n hG (hx_dq tdX12_luck_0 0 rfl) rfl (cl_iconst hG 0 (hx_dq tdX12_luck_0 1 rfl) iconst_0 (cl_iconst hG 3 (hx_dq tdX12_luck_0 2 rfl) iconst_3 (cl_callS3 (caX12_luck_157 cA) (hx_dq tdX12_luck_0 3 rfl) (Nat.le_of_ble_eq_true rfl) (Nat.le_refl _) (Nat.le_refl _) (sX12_isIn_mk hw (fun r3_2 hw => ?_)))))
  refine cl_if_eq hG 18 (hx_dq tdX12_luck_0 4 rfl) rfl (fun c6 => ?_) (fun c6 => ?_)
  · replace hw := hw.1 c6
    exact cl_ldc2 hG ciX12_413 (hx_dq tdX12_luck_0 10 rfl) (cl_lret hG (hx_dq tdX12_luck_0 11 rfl) rfl (hK _ _ hw) (Nat.le_refl _) (Nat.le_refl _))
  · replace hw := hw.2 c6
    refine cl_iload_n hG (hx_dq tdX12_luck_0 5 rfl) rfl (cl_iconst hG 0 (hx_dq tdX12_luck_0 6 rfl) iconst_0 (cl_iconst hG 1 (hx_dq tdX12_luck_0 7 rfl) iconst_1 (cl_callS3 (caX12_luck_157 cA) (hx_dq tdX12_luck_0 8 rfl) (Nat.le_of_ble_eq_true rfl) (Nat.le_refl _) (Nat.le_refl _) (sX12_isIn_mk hw (fun r12_4 hw => ?_)))))
    refine cl_if_ne hG 22 (hx_dq tdX12_luck_0 9 rfl) rfl (fun c15 => ?_) (fun c15 => ?_)
    · replace hw := hw.1 c15
      refine cl_iconst hG 0 (hx_dq tdX12_luck_0 12 rfl) iconst_0 (cl_istore_n hG (hx_dq tdX12_luck_0 13 rfl) (Nat.le_of_ble_eq_true rfl) rfl ?_)
      obtain ⟨n_, hw⟩ := hw
      refine cl_sub hG (hx_le_c rfl (hx_le_c rfl (hx_le_c rfl (hx_le_c rfl (hx_le_n (hx_le_n (hx_le_n (hx_le_n (hx_le_n hx_le_0))))))))) (kX12_luck_L24 hG cA hF v1 v2 hK (fun m_6 hw => ?_) n_ 0 _ hw)
      · refine cl_iconst hG 0 (hx_dq tdX12_luck_0 28 rfl) iconst_0 (cl_istore_n hG (hx_dq tdX12_luck_0 29 rfl) (Nat.le_of_ble_eq_true rfl) rfl (cl_iconst hG 0 (hx_dq tdX12_luck_0 30 rfl) iconst_0 (cl_istore hG (hx_dq tdX12_luck_0 31 rfl) (Nat.le_of_ble_eq_true rfl) rfl (cl_aload_n hG (hx_dq tdX12_luck_1 0 rfl) rfl (cl_getI hG fmX12_161 (hx_dq tdX12_luck_1 1 rfl) (mF_S49 hF) (cl_iconst hG 1 (hx_dq tdX12_luck_1 2 rfl) iconst_1 (cl_isub hG (hx_dq tdX12_luck_1 3 rfl) (cl_istore hG (hx_dq tdX12_luck_1 4 rfl) (Nat.le_of_ble_eq_true rfl) rfl ?_))))))))
        obtain ⟨n_, hw⟩ := hw
        refine cl_sub hG (hx_le_c rfl (hx_le_c rfl (hx_le_c rfl (hx_le_c rfl (hx_le_c rfl (hx_le_c rfl (hx_le_n (hx_le_n (hx_le_n hx_le_0))))))))) (kX12_luck_L64 hG cA hF v1 v2 hK (fun v3_26 v4_26 m_26 hw => ?_) n_ 0 0 ((m_6.1 49 1) - 1) _ hw)
        · exact cl_sub hG (hx_le_c rfl (hx_le_n (hx_le_c rfl (hx_le_c rfl (hx_le_c rfl (hx_le_n (hx_le_n (hx_le_n (hx_le_n hx_le_0))))))))) (kX12_luck_J225 hG cA hF v2 v3_26 v4_26 hK hw)
    · replace hw := hw.2 c15
      exact cl_ldc2 hG ciX12_413 (hx_dq tdX12_luck_0 10 rfl) (cl_lret hG (hx_dq tdX12_luck_0 11 rfl) rfl (hK _ _ hw) (Nat.le_refl _) (Nat.le_refl _))
def sX12_luck : hx_ST := fun Λ μ as KK => mF Λ ∧ ∃ (v1 : Int32) (v2 : Int32) (K : Int64 → hx_M → Prop), as = [.ref 49, .int v1, .int v2] ∧ wX12_luck μ v1 v2 K ∧ (∀ (r : Int64) (m : hx_M), K r m → KK (some (.long r)) Λ m)
theorem sX12_luck_mk {Λ : hx_L} {μ : hx_M} {KK : hx_KT} {v1 : Int32} {v2 : Int32} {K : Int64 → hx_M → Prop} (hF : mF Λ) (hw : wX12_luck μ v1 v2 K) (hk : ∀ (r : Int64) (m : hx_M), K r m → KK (some (.long r)) Λ m) : sX12_luck Λ μ [.ref 49, .int v1, .int v2] KK := ⟨hF, _, _, _, rfl, hw, hk⟩
theorem conX12_luck : hx_Con yX12_luck cX12_luck 9 (some .long) 4 0 0 sX12_luck := by
  refine hx_con_of (by decide +kernel) tokX12 (by decide) ?_ ?_
  · intro Λ μ as KK h
    obtain ⟨hF, v1, v2, K, rfl, hw, hK⟩ := h
    exact Nat.le_of_ble_eq_true rfl
  · intro G KK hG cA Λ μ as h
    obtain ⟨hF, v1, v2, K, rfl, hw, hK⟩ := h
    exact cl_sub hG (hx_le_c rfl (hx_le_c rfl (hx_le_c rfl (hx_le_n (hx_le_n (hx_le_n (hx_le_n (hx_le_n (hx_le_n hx_le_0))))))))) (kX12_luck hG cA hF _ _ hK hw)
/-! HemLineModel.claims(I)V -/
def tbX12_claims_0 : List (Nat × Instr × Nat) := [(0, .aload_n 0, 1), (1, .iconst 0, 1), (2, .putfield 415, 3), (5, .aload_n 0, 1), (6, .iconst 0, 1), (7, .putfield 418, 3), (10, .aload_n 0, 1), (11, .getfield 161, 3), (14, .istore_n 2, 1), (15, .iload_n 2, 1), (16, .iload_n 1, 1), (17, .if_icmp .le 119, 3), (20, .aload_n 0, 1), (21, .getfield 418, 3), (24, .bipush 40, 2), (26, .if_icmp .ge 110, 3), (29, .aload_n 0, 1), (30, .getfield 154, 3), (33, .ifCond .le 103, 3), (36, .aload_n 0, 1), (37, .iload_n 2, 1), (38, .iload_n 1, 1), (39, .isub, 1), (40, .invokevirtual 317, 3), (43, .aload_n 0, 1), (44, .iload_n 2, 1), (45, .iload_n 1, 1), (46, .isub, 1), (47, .iconst 1, 1), (48, .isub, 1), (49, .invokevirtual 317, 3), (52, .isub, 1)]
def tbX12_claims_1 : List (Nat × Instr × Nat) := [(53, .istore_n 3, 1), (54, .aload_n 0, 1), (55, .iload_n 2, 1), (56, .invokevirtual 365, 3), (59, .aload_n 0, 1), (60, .iload_n 2, 1), (61, .iconst 1, 1), (62, .isub, 1), (63, .invokevirtual 365, 3), (66, .isub, 1), (67, .istore 4, 2), (69, .iload_n 3, 1), (70, .ifCond .eq 60, 3), (73, .iload 4, 2), (75, .ifCond .ne 6, 3), (78, .goto 52, 3), (81, .aload_n 0, 1), (82, .dup, 1), (83, .getfield 418, 3), (86, .iconst 1, 1), (87, .iadd, 1), (88, .putfield 418, 3), (91, .aload_n 0, 1), (92, .dup, 1), (93, .getfield 415, 3), (96, .iload_n 3, 1), (97, .ifCond .le 7, 3), (100, .iconst 1, 1), (101, .goto 4, 3), (104, .iconst 0, 1), (105, .iload 4, 2), (107, .ifCond .le 7, 3)]
def tbX12_claims_2 : List (Nat × Instr × Nat) := [(110, .iconst 1, 1), (111, .goto 4, 3), (114, .iconst 0, 1), (115, .if_icmp .ne 7, 3), (118, .iconst 1, 1), (119, .goto 4, 3), (122, .iconst 0, 1), (123, .invokestatic 396, 3), (126, .iadd, 1), (127, .putfield 415, 3), (130, .iinc 2 (-1), 3), (133, .goto (-118), 3), (136, .return_, 1)]
theorem tdX12_claims_0 : hx_dt cX12_claims tbX12_claims_0 = true := by decide +kernel
theorem tdX12_claims_1 : hx_dt cX12_claims tbX12_claims_1 = true := by decide +kernel
theorem tdX12_claims_2 : hx_dt cX12_claims tbX12_claims_2 = true := by decide +kernel
theorem caX12_claims_317 {G : hx_GT} (cA : hx_CA RX12 cX12_claims 3 0 0 G) : hx_CV cX12_claims G 0 0 317 12 1 sX12_moneyAt 0 0 := cA.1 conX12_moneyAt rfl rfl ⟨by decide +kernel, by decide +kernel, by decide +kernel⟩ mw_1501 mw_1503 mw_57 mw_97 mw_1504 (by decide) (by decide)
theorem caX12_claims_365 {G : hx_GT} (cA : hx_CA RX12 cX12_claims 3 0 0 G) : hx_CV cX12_claims G 0 0 365 12 1 sX12_lineAt 0 0 := cA.1 conX12_lineAt rfl rfl ⟨by decide +kernel, by decide +kernel, by decide +kernel⟩ mw_1535 mw_1537 mw_64 mw_97 mw_1538 (by decide) (by decide)
theorem caX12_claims_396 {G : hx_GT} (cA : hx_CA RX12 cX12_claims 3 0 0 G) : hx_CS cX12_claims G 0 0 396 1 sX12_one 0 0 := cA.2.1 conX12_one ⟨by decide +kernel, by decide +kernel, by decide +kernel⟩ mw_1583 mw_1584 mw_97 mw_1585 (by decide) (by decide)
def wX12_claims_J130  (K : hx_M → Prop) (K15 : Int32 → hx_M → Prop) (v1 : Int32) (v2 : Int32)  (μ : hx_M) : Prop := K15 (v2 + (-1)) μ
set_option maxRecDepth 100000 in
set_option maxHeartbeats 4000000 in
theorem kX12_claims_J130 {G : hx_GT} {KK : hx_KT} (hG : hx_K cX12_claims 5 0 0 (none) TbX12 KK G) (cA : hx_CA RX12 cX12_claims 3 0 0 G) {Λ : hx_L} (hF : mF Λ) {μ : hx_M} (v1 : Int32) (v2 : Int32)  {K : hx_M → Prop} (hK : ∀ (m : hx_M), K m → KK none Λ m) {K15 : Int32 → hx_M → Prop} (hk15 : ∀ (v2 : Int32) (μ : hx_M), K15 v2 μ → G Λ μ (0, 0) 15 [some (.ref 49), some (.int v1), some (.int v2), none, none] []) (hw : wX12_claims_J130 K K15 v1 v2 μ) : G Λ μ (0, 0) 130 [some (.ref 49), some (.int v1), some (.int v2), none, none] [] := by
  unfold wX12_claims_J130 at hw
  exact cl_iinc hG (v2 + (-1)) (hx_dq tdX12_claims_2 10 rfl) rfl (congrArg (fun z => v2 + z) iconst_m1) (Nat.le_of_ble_eq_true rfl) rfl (cl_goto hG 15 (hx_dq tdX12_claims_2 11 rfl) rfl (cl_sub hG (hx_le_c rfl (hx_le_c rfl (hx_le_c rfl (hx_le_n (hx_le_n hx_le_0))))) (hk15 (v2 + (-1)) _ hw)))
def wX12_claims_J130_11  (K : hx_M → Prop) (K15 : Int32 → hx_M → Prop) (v1 : Int32) (v2 : Int32)  (μ : hx_M) : Prop := K15 (v2 + (-1)) μ
set_option maxRecDepth 100000 in
set_option maxHeartbeats 4000000 in
theorem kX12_claims_J130_11 {G : hx_GT} {KK : hx_KT} (hG : hx_K cX12_claims 5 0 0 (none) TbX12 KK G) (cA : hx_CA RX12 cX12_claims 3 0 0 G) {Λ : hx_L} (hF : mF Λ) {μ : hx_M} (v1 : Int32) (v2 : Int32)  {K : hx_M → Prop} (hK : ∀ (m : hx_M), K m → KK none Λ m) {K15 : Int32 → hx_M → Prop} (hk15 : ∀ (v2 : Int32) (μ : hx_M), K15 v2 μ → G Λ μ (0, 0) 15 [some (.ref 49), some (.int v1), some (.int v2), none, none] []) (hw : wX12_claims_J130_11 K K15 v1 v2 μ) : G Λ μ (0, 0) 130 [some (.ref 49), some (.int v1), some (.int v2), none, none] [] := by
  unfold wX12_claims_J130_11 at hw
  exact cl_iinc hG (v2 + (-1)) (hx_dq tdX12_claims_2 10 rfl) rfl (congrArg (fun z => v2 + z) iconst_m1) (Nat.le_of_ble_eq_true rfl) rfl (cl_goto hG 15 (hx_dq tdX12_claims_2 11 rfl) rfl (cl_sub hG (hx_le_c rfl (hx_le_c rfl (hx_le_c rfl (hx_le_n (hx_le_n hx_le_0))))) (hk15 (v2 + (-1)) _ hw)))
def wX12_claims_J123  (K : hx_M → Prop) (K15 : Int32 → hx_M → Prop) (v1 : Int32) (v2 : Int32) (t1 : Int32) (t2 : Int32) (μ : hx_M) : Prop := wX12_one t2 (fun r123_10 => wX12_claims_J130_11 K (K15) v1 v2 (hx_sI μ 49 52 (t1 + r123_10)))
set_option maxRecDepth 100000 in
set_option maxHeartbeats 4000000 in
theorem kX12_claims_J123 {G : hx_GT} {KK : hx_KT} (hG : hx_K cX12_claims 5 0 0 (none) TbX12 KK G) (cA : hx_CA RX12 cX12_claims 3 0 0 G) {Λ : hx_L} (hF : mF Λ) {μ : hx_M} (v1 : Int32) (v2 : Int32) (t1 : Int32) (t2 : Int32) {K : hx_M → Prop} (hK : ∀ (m : hx_M), K m → KK none Λ m) {K15 : Int32 → hx_M → Prop} (hk15 : ∀ (v2 : Int32) (μ : hx_M), K15 v2 μ → G Λ μ (0, 0) 15 [some (.ref 49), some (.int v1), some (.int v2), none, none] []) (hw : wX12_claims_J123 K K15 v1 v2 t1 t2 μ) : G Λ μ (0, 0) 123 [some (.ref 49), some (.int v1), some (.int v2), none, none] [.int t2, .int t1, .ref 49] := by
  unfold wX12_claims_J123 at hw
  refine cl_callS1 (caX12_claims_396 cA) (hx_dq tdX12_claims_2 7 rfl) (Nat.le_of_ble_eq_true rfl) (Nat.le_refl _) (Nat.le_refl _) (sX12_one_mk hw (fun r123_10 hw => ?_))
  refine cl_iadd hG (hx_dq tdX12_claims_2 8 rfl) (cl_putI hG fmX12_415 (hx_dq tdX12_claims_2 9 rfl) (mF_S49 hF) ?_)
  exact cl_sub hG (hx_le_c rfl (hx_le_c rfl (hx_le_c rfl (hx_le_n (hx_le_n hx_le_0))))) (kX12_claims_J130_11 hG cA hF v1 v2 hK (fun z0 z1 hw => hk15 z0 z1 hw) hw)
def wX12_claims_J115  (K : hx_M → Prop) (K15 : Int32 → hx_M → Prop) (v1 : Int32) (v2 : Int32) (t1 : Int32) (t2 : Int32) (t3 : Int32) (μ : hx_M) : Prop := (t2 ≠ t3 → (wX12_claims_J123 K (K15) v1 v2 t1 0 μ)) ∧ (t2 = t3 → (wX12_claims_J123 K (K15) v1 v2 t1 1 μ))
set_option maxRecDepth 100000 in
set_option maxHeartbeats 4000000 in
theorem kX12_claims_J115 {G : hx_GT} {KK : hx_KT} (hG : hx_K cX12_claims 5 0 0 (none) TbX12 KK G) (cA : hx_CA RX12 cX12_claims 3 0 0 G) {Λ : hx_L} (hF : mF Λ) {μ : hx_M} (v1 : Int32) (v2 : Int32) (t1 : Int32) (t2 : Int32) (t3 : Int32) {K : hx_M → Prop} (hK : ∀ (m : hx_M), K m → KK none Λ m) {K15 : Int32 → hx_M → Prop} (hk15 : ∀ (v2 : Int32) (μ : hx_M), K15 v2 μ → G Λ μ (0, 0) 15 [some (.ref 49), some (.int v1), some (.int v2), none, none] []) (hw : wX12_claims_J115 K K15 v1 v2 t1 t2 t3 μ) : G Λ μ (0, 0) 115 [some (.ref 49), some (.int v1), some (.int v2), none, none] [.int t3, .int t2, .int t1, .ref 49] := by
  unfold wX12_claims_J115 at hw
  refine cl_icmp_ne hG 122 (hx_dq tdX12_claims_2 3 rfl) rfl (fun c115 => ?_) (fun c115 => ?_)
  · replace hw := hw.1 c115
    refine cl_iconst hG 0 (hx_dq tdX12_claims_2 6 rfl) iconst_0 ?_
    exact cl_sub hG (hx_le_c rfl (hx_le_c rfl (hx_le_c rfl (hx_le_n (hx_le_n hx_le_0))))) (kX12_claims_J123 hG cA hF v1 v2 t1 0 hK (fun z0 z1 hw => hk15 z0 z1 hw) hw)
  · replace hw := hw.2 c115
    refine cl_iconst hG 1 (hx_dq tdX12_claims_2 4 rfl) iconst_1 (cl_goto hG 123 (hx_dq tdX12_claims_2 5 rfl) rfl ?_)
    exact cl_sub hG (hx_le_c rfl (hx_le_c rfl (hx_le_c rfl (hx_le_n (hx_le_n hx_le_0))))) (kX12_claims_J123 hG cA hF v1 v2 t1 1 hK (fun z0 z1 hw => hk15 z0 z1 hw) hw)
def wX12_claims_J105  (K : hx_M → Prop) (K15 : Int32 → hx_M → Prop) (v1 : Int32) (v2 : Int32) (v4 : Int32) (t1 : Int32) (t2 : Int32) (μ : hx_M) : Prop := (v4 ≤ 0 → (wX12_claims_J115 K (K15) v1 v2 t1 t2 0 μ)) ∧ (¬ (v4 ≤ 0) → (wX12_claims_J115 K (K15) v1 v2 t1 t2 1 μ))
set_option maxRecDepth 100000 in
set_option maxHeartbeats 4000000 in
theorem kX12_claims_J105 {G : hx_GT} {KK : hx_KT} (hG : hx_K cX12_claims 5 0 0 (none) TbX12 KK G) (cA : hx_CA RX12 cX12_claims 3 0 0 G) {Λ : hx_L} (hF : mF Λ) {μ : hx_M} (v1 : Int32) (v2 : Int32) (v4 : Int32) (t1 : Int32) (t2 : Int32) {K : hx_M → Prop} (hK : ∀ (m : hx_M), K m → KK none Λ m) {K15 : Int32 → hx_M → Prop} (hk15 : ∀ (v2 : Int32) (μ : hx_M), K15 v2 μ → G Λ μ (0, 0) 15 [some (.ref 49), some (.int v1), some (.int v2), none, none] []) (hw : wX12_claims_J105 K K15 v1 v2 v4 t1 t2 μ) : G Λ μ (0, 0) 105 [some (.ref 49), some (.int v1), some (.int v2), none, some (.int v4)] [.int t2, .int t1, .ref 49] := by
  unfold wX12_claims_J105 at hw
  refine cl_iload hG (hx_dq tdX12_claims_1 30 rfl) rfl (cl_if_le hG 114 (hx_dq tdX12_claims_1 31 rfl) rfl (fun c107 => ?_) (fun c107 => ?_))
  · replace hw := hw.1 c107
    refine cl_iconst hG 0 (hx_dq tdX12_claims_2 2 rfl) iconst_0 ?_
    exact cl_sub hG (hx_le_c rfl (hx_le_c rfl (hx_le_c rfl (hx_le_n (hx_le_n hx_le_0))))) (kX12_claims_J115 hG cA hF v1 v2 t1 t2 0 hK (fun z0 z1 hw => hk15 z0 z1 hw) hw)
  · replace hw := hw.2 c107
    refine cl_iconst hG 1 (hx_dq tdX12_claims_2 0 rfl) iconst_1 (cl_goto hG 115 (hx_dq tdX12_claims_2 1 rfl) rfl ?_)
    exact cl_sub hG (hx_le_c rfl (hx_le_c rfl (hx_le_c rfl (hx_le_n (hx_le_n hx_le_0))))) (kX12_claims_J115 hG cA hF v1 v2 t1 t2 1 hK (fun z0 z1 hw => hk15 z0 z1 hw) hw)
def wX12_claims_L15 (v1 : Int32) (K : hx_M → Prop)  : Nat → Int32 → hx_M → Prop
  | 0, _, _ => False
  | n + 1, v2, μ => (v2 ≤ v1 → (K μ)) ∧ (¬ (v2 ≤ v1) → ((40 ≤ (μ.1 49 53) → (K μ)) ∧ (¬ (40 ≤ (μ.1 49 53)) → (((μ.1 49 0) ≤ 0 → (K μ)) ∧ (¬ ((μ.1 49 0) ≤ 0) → (wX12_moneyAt μ (v2 - v1) (fun r40_2 => wX12_moneyAt μ ((v2 - v1) - 1) (fun r49_4 => wX12_lineAt μ v2 (fun r56_6 => wX12_lineAt μ (v2 - 1) (fun r63_8 => ((r40_2 - r49_4) = 0 → (wX12_claims_J130 K (wX12_claims_L15 v1 K n) v1 v2 μ)) ∧ (¬ ((r40_2 - r49_4) = 0) → (((r56_6 - r63_8) ≠ 0 → (((r40_2 - r49_4) ≤ 0 → (wX12_claims_J105 K (wX12_claims_L15 v1 K n) v1 v2 (r56_6 - r63_8) (μ.1 49 52) 0 (hx_sI μ 49 53 ((μ.1 49 53) + 1)))) ∧ (¬ ((r40_2 - r49_4) ≤ 0) → (wX12_claims_J105 K (wX12_claims_L15 v1 K n) v1 v2 (r56_6 - r63_8) (μ.1 49 52) 1 (hx_sI μ 49 53 ((μ.1 49 53) + 1)))))) ∧ ((r56_6 - r63_8) = 0 → (wX12_claims_J130 K (wX12_claims_L15 v1 K n) v1 v2 μ))))))))))))))
set_option maxRecDepth 100000 in
set_option maxHeartbeats 4000000 in
theorem kX12_claims_L15 {G : hx_GT} {KK : hx_KT} (hG : hx_K cX12_claims 5 0 0 (none) TbX12 KK G) (cA : hx_CA RX12 cX12_claims 3 0 0 G) {Λ : hx_L} (hF : mF Λ)  (v1 : Int32) {K : hx_M → Prop} (hK : ∀ (m : hx_M), K m → KK none Λ m)  : ∀ (n : Nat) (v2 : Int32) (μ : hx_M), wX12_claims_L15 v1 K n v2 μ → G Λ μ (0, 0) 15 [some (.ref 49), some (.int v1), some (.int v2), none, none] [] := by
  intro n
  induction n with
  | zero =>
    intro v2 μ hw
    exact False.elim (by simpa only [wX12_claims_L15] using hw)
  | succ n ih =>
    intro v2 μ hw
    unfold wX12_claims_L15 at hw
    refine cl_iload_n hG (hx_dq tdX12_claims_0 9 rfl) rfl (cl_iload_n hG (hx_dq tdX12_claims_0 10 rfl) rfl (cl_icmp_le hG 136 (hx_dq tdX12_claims_0 11 rfl) rfl (fun c17 => ?_) (fun c17 => ?_)))
    · replace hw := hw.1 c17
      exact cl_vret hG (hx_dq tdX12_claims_2 12 rfl) rfl (hK _ hw) (Nat.le_refl _) (Nat.le_refl _)
    · replace hw := hw.2 c17
      refine cl_aload_n hG (hx_dq tdX12_claims_0 12 rfl) rfl (cl_getI hG fmX12_418 (hx_dq tdX12_claims_0 13 rfl) (mF_S49 hF) (cl_bipush hG 40 (hx_dq tdX12_claims_0 14 rfl) bipush_40 (cl_icmp_ge hG 136 (hx_dq tdX12_claims_0 15 rfl) rfl (fun c26 => ?_) (fun c26 => ?_))))
      · replace hw := hw.1 c26
        exact cl_vret hG (hx_dq tdX12_claims_2 12 rfl) rfl (hK _ hw) (Nat.le_refl _) (Nat.le_refl _)
      · replace hw := hw.2 c26
        refine cl_aload_n hG (hx_dq tdX12_claims_0 16 rfl) rfl (cl_getI hG fmX12_154 (hx_dq tdX12_claims_0 17 rfl) (mF_S49 hF) (cl_if_le hG 136 (hx_dq tdX12_claims_0 18 rfl) rfl (fun c33 => ?_) (fun c33 => ?_)))
        · replace hw := hw.1 c33
          exact cl_vret hG (hx_dq tdX12_claims_2 12 rfl) rfl (hK _ hw) (Nat.le_refl _) (Nat.le_refl _)
        · replace hw := hw.2 c33
          refine cl_aload_n hG (hx_dq tdX12_claims_0 19 rfl) rfl (cl_iload_n hG (hx_dq tdX12_claims_0 20 rfl) rfl (cl_iload_n hG (hx_dq tdX12_claims_0 21 rfl) rfl (cl_isub hG (hx_dq tdX12_claims_0 22 rfl) (cl_callV1 (caX12_claims_317 cA) (hx_dq tdX12_claims_0 23 rfl) (mF_S49 hF) (Nat.le_of_ble_eq_true rfl) (Nat.le_refl _) (Nat.le_refl _) (sX12_moneyAt_mk hF hw (fun r40_2 hw => ?_))))))
          refine cl_aload_n hG (hx_dq tdX12_claims_0 24 rfl) rfl (cl_iload_n hG (hx_dq tdX12_claims_0 25 rfl) rfl (cl_iload_n hG (hx_dq tdX12_claims_0 26 rfl) rfl (cl_isub hG (hx_dq tdX12_claims_0 27 rfl) (cl_iconst hG 1 (hx_dq tdX12_claims_0 28 rfl) iconst_1 (cl_isub hG (hx_dq tdX12_claims_0 29 rfl) (cl_callV1 (caX12_claims_317 cA) (hx_dq tdX12_claims_0 30 rfl) (mF_S49 hF) (Nat.le_of_ble_eq_true rfl) (Nat.le_refl _) (Nat.le_refl _) (sX12_moneyAt_mk hF hw (fun r49_4 hw => ?_))))))))
          refine cl_isub hG (hx_dq tdX12_claims_0 31 rfl) (cl_istore_n hG (hx_dq tdX12_claims_1 0 rfl) (Nat.le_of_ble_eq_true rfl) rfl (cl_aload_n hG (hx_dq tdX12_claims_1 1 rfl) rfl (cl_iload_n hG (hx_dq tdX12_claims_1 2 rfl) rfl (cl_callV1 (caX12_claims_365 cA) (hx_dq tdX12_claims_1 3 rfl) (mF_S49 hF) (Nat.le_of_ble_eq_true rfl) (Nat.le_refl _) (Nat.le_refl _) (sX12_lineAt_mk hF hw (fun r56_6 hw => ?_))))))
          refine cl_aload_n hG (hx_dq tdX12_claims_1 4 rfl) rfl (cl_iload_n hG (hx_dq tdX12_claims_1 5 rfl) rfl (cl_iconst hG 1 (hx_dq tdX12_claims_1 6 rfl) iconst_1 (cl_isub hG (hx_dq tdX12_claims_1 7 rfl) (cl_callV1 (caX12_claims_365 cA) (hx_dq tdX12_claims_1 8 rfl) (mF_S49 hF) (Nat.le_of_ble_eq_true rfl) (Nat.le_refl _) (Nat.le_refl _) (sX12_lineAt_mk hF hw (fun r63_8 hw => ?_))))))
          refine cl_isub hG (hx_dq tdX12_claims_1 9 rfl) (cl_istore hG (hx_dq tdX12_claims_1 10 rfl) (Nat.le_of_ble_eq_true rfl) rfl (cl_iload_n hG (hx_dq tdX12_claims_1 11 rfl) rfl (cl_if_eq hG 130 (hx_dq tdX12_claims_1 12 rfl) rfl (fun c70 => ?_) (fun c70 => ?_))))
          · replace hw := hw.1 c70
            exact cl_sub hG (hx_le_c rfl (hx_le_c rfl (hx_le_c rfl (hx_le_n (hx_le_n hx_le_0))))) (kX12_claims_J130 hG cA hF v1 v2 hK (fun z0 z1 hw => ih z0 z1 hw) hw)
          · replace hw := hw.2 c70
            refine cl_iload hG (hx_dq tdX12_claims_1 13 rfl) rfl (cl_if_ne hG 81 (hx_dq tdX12_claims_1 14 rfl) rfl (fun c75 => ?_) (fun c75 => ?_))
            · replace hw := hw.1 c75
              refine cl_aload_n hG (hx_dq tdX12_claims_1 16 rfl) rfl (cl_dup hG (hx_dq tdX12_claims_1 17 rfl) rfl (cl_getI hG fmX12_418 (hx_dq tdX12_claims_1 18 rfl) (mF_S49 hF) (cl_iconst hG 1 (hx_dq tdX12_claims_1 19 rfl) iconst_1 (cl_iadd hG (hx_dq tdX12_claims_1 20 rfl) (cl_putI hG fmX12_418 (hx_dq tdX12_claims_1 21 rfl) (mF_S49 hF) (cl_aload_n hG (hx_dq tdX12_claims_1 22 rfl) rfl (cl_dup hG (hx_dq tdX12_claims_1 23 rfl) rfl (cl_getI hG fmX12_415 (hx_dq tdX12_claims_1 24 rfl) (mF_S49 hF) (cl_iload_n hG (hx_dq tdX12_claims_1 25 rfl) rfl (cl_if_le hG 104 (hx_dq tdX12_claims_1 26 rfl) rfl (fun c97 => ?_) (fun c97 => ?_)))))))))))
              · replace hw := hw.1 c97
                refine cl_iconst hG 0 (hx_dq tdX12_claims_1 29 rfl) iconst_0 ?_
                exact cl_sub hG (hx_le_c rfl (hx_le_c rfl (hx_le_c rfl (hx_le_n (hx_le_c rfl hx_le_0))))) (kX12_claims_J105 hG cA hF v1 v2 (r56_6 - r63_8) (μ.1 49 52) 0 hK (fun z0 z1 hw => ih z0 z1 hw) hw)
              · replace hw := hw.2 c97
                refine cl_iconst hG 1 (hx_dq tdX12_claims_1 27 rfl) iconst_1 (cl_goto hG 105 (hx_dq tdX12_claims_1 28 rfl) rfl ?_)
                exact cl_sub hG (hx_le_c rfl (hx_le_c rfl (hx_le_c rfl (hx_le_n (hx_le_c rfl hx_le_0))))) (kX12_claims_J105 hG cA hF v1 v2 (r56_6 - r63_8) (μ.1 49 52) 1 hK (fun z0 z1 hw => ih z0 z1 hw) hw)
            · replace hw := hw.2 c75
              refine cl_goto hG 130 (hx_dq tdX12_claims_1 15 rfl) rfl ?_
              exact cl_sub hG (hx_le_c rfl (hx_le_c rfl (hx_le_c rfl (hx_le_n (hx_le_n hx_le_0))))) (kX12_claims_J130 hG cA hF v1 v2 hK (fun z0 z1 hw => ih z0 z1 hw) hw)
def wX12_claims (μ : hx_M) (v1 : Int32) (K : hx_M → Prop) : Prop := ∃ n15_12, wX12_claims_L15 v1 K n15_12 (μ.1 49 1) (hx_sI (hx_sI μ 49 52 0) 49 53 0)
set_option maxRecDepth 100000 in
set_option maxHeartbeats 4000000 in
theorem kX12_claims {G : hx_GT} {KK : hx_KT} (hG : hx_K cX12_claims 5 0 0 (none) TbX12 KK G) (cA : hx_CA RX12 cX12_claims 3 0 0 G) {Λ : hx_L} (hF : mF Λ) {μ : hx_M} (v1 : Int32) {K : hx_M → Prop} (hK : ∀ (m : hx_M), K m → KK none Λ m) (hw : wX12_claims μ v1 K) : G Λ μ (0, 0) 0 [some (.ref 49), some (.int v1), none, none, none] [] := by
  unfold wX12_claims at hw
  refine cl_aload_n hG (hx_dq tdX12_claims_0 0 rfl) rfl (cl_iconst hG 0 (hx_dq tdX12_claims_0 1 rfl) iconst_0 (cl_putI hG fmX12_415 (hx_dq tdX12_claims_0 2 rfl) (mF_S49 hF) (cl_aload_n hG (hx_dq tdX12_claims_0 3 rfl) rfl (cl_iconst hG 0 (hx_dq tdX12_claims_0 4 rfl) iconst_0 (cl_putI hG fmX12_418 (hx_dq tdX12_claims_0 5 rfl) (mF_S49 hF) (cl_aload_n hG (hx_dq tdX12_claims_0 6 rfl) rfl (cl_getI hG fmX12_161 (hx_dq tdX12_claims_0 7 rfl) (mF_S49 hF) (cl_istore_n hG (hx_dq tdX12_claims_0 8 rfl) (Nat.le_of_ble_eq_true rfl) rfl ?_))))))))
  obtain ⟨n_, hw⟩ := hw
  refine cl_sub hG (hx_le_c rfl (hx_le_c rfl (hx_le_c rfl (hx_le_n (hx_le_n hx_le_0))))) (kX12_claims_L15 hG cA hF v1 hK n_ (μ.1 49 1) _ hw)
def sX12_claims : hx_ST := fun Λ μ as KK => mF Λ ∧ ∃ (v1 : Int32) (K : hx_M → Prop), as = [.ref 49, .int v1] ∧ wX12_claims μ v1 K ∧ (∀ (m : hx_M), K m → KK none Λ m)
theorem sX12_claims_mk {Λ : hx_L} {μ : hx_M} {KK : hx_KT} {v1 : Int32} {K : hx_M → Prop} (hF : mF Λ) (hw : wX12_claims μ v1 K) (hk : ∀ (m : hx_M), K m → KK none Λ m) : sX12_claims Λ μ [.ref 49, .int v1] KK := ⟨hF, _, _, rfl, hw, hk⟩
theorem conX12_claims : hx_Con yX12_claims cX12_claims 5 (none) 3 0 0 sX12_claims := by
  refine hx_con_of (by decide +kernel) tokX12 (by decide) ?_ ?_
  · intro Λ μ as KK h
    obtain ⟨hF, v1, K, rfl, hw, hK⟩ := h
    exact Nat.le_of_ble_eq_true rfl
  · intro G KK hG cA Λ μ as h
    obtain ⟨hF, v1, K, rfl, hw, hK⟩ := h
    exact cl_sub hG (hx_le_c rfl (hx_le_c rfl (hx_le_n (hx_le_n (hx_le_n hx_le_0))))) (kX12_claims hG cA hF _ hK hw)
/-! HemLineModel.atLeast(II)J -/
def tbX12_atLeast_0 : List (Nat × Instr × Nat) := [(0, .iconst 0, 1), (1, .istore_n 3, 1), (2, .iload_n 3, 1), (3, .bipush 41, 2), (5, .if_icmp .ge 24, 3), (8, .aload_n 0, 1), (9, .getfield 117, 3), (12, .iload_n 3, 1), (13, .iload_n 3, 1), (14, .ifCond .ne 7, 3), (17, .lconst 1, 1), (18, .goto 4, 3), (21, .lconst 0, 1), (22, .lastore, 1), (23, .iinc 3 1, 3), (26, .goto (-24), 3), (29, .iconst 0, 1), (30, .istore_n 3, 1), (31, .iload_n 3, 1), (32, .iload_n 1, 1), (33, .if_icmp .ge 43, 3), (36, .bipush 40, 2), (38, .istore 4, 2), (40, .iload 4, 2), (42, .ifCond .le 28, 3), (45, .aload_n 0, 1), (46, .getfield 117, 3), (49, .iload 4, 2), (51, .dup2, 1), (52, .laload, 1), (53, .aload_n 0, 1), (54, .getfield 117, 3)]
def tbX12_atLeast_1 : List (Nat × Instr × Nat) := [(57, .iload 4, 2), (59, .iconst 1, 1), (60, .isub, 1), (61, .laload, 1), (62, .ladd, 1), (63, .lastore, 1), (64, .iinc 4 (-1), 3), (67, .goto (-27), 3), (70, .iinc 3 1, 3), (73, .goto (-42), 3), (76, .lconst 0, 1), (77, .lstore_n 3, 1), (78, .iload_n 2, 1), (79, .istore 5, 2), (81, .iload 5, 2), (83, .iload_n 1, 1), (84, .if_icmp .gt 19, 3), (87, .lload_n 3, 1), (88, .aload_n 0, 1), (89, .getfield 117, 3), (92, .iload 5, 2), (94, .laload, 1), (95, .ladd, 1), (96, .lstore_n 3, 1), (97, .iinc 5 1, 3), (100, .goto (-19), 3), (103, .lload_n 3, 1), (104, .lreturn, 1)]
theorem tdX12_atLeast_0 : hx_dt cX12_atLeast tbX12_atLeast_0 = true := by decide +kernel
theorem tdX12_atLeast_1 : hx_dt cX12_atLeast tbX12_atLeast_1 = true := by decide +kernel
def wX12_atLeast_J22  (K : Int64 → hx_M → Prop) (K2 : Int32 → hx_M → Prop) (v1 : Int32) (v2 : Int32) (v3 : Int32) (t1 : Int32) (t2 : Int64) (μ : hx_M) : Prop := vp_in t1 41 ∧ K2 (v3 + 1) (hx_sL μ 81 t1.toNatClampNeg t2)
set_option maxRecDepth 100000 in
set_option maxHeartbeats 4000000 in
theorem kX12_atLeast_J22 {G : hx_GT} {KK : hx_KT} (hG : hx_K cX12_atLeast 6 0 0 (some .long) TbX12 KK G) (cA : hx_CA RX12 cX12_atLeast 1 0 0 G) {Λ : hx_L} (hF : mF Λ) {μ : hx_M} (v1 : Int32) (v2 : Int32) (v3 : Int32) (t1 : Int32) (t2 : Int64) {K : Int64 → hx_M → Prop} (hK : ∀ (r : Int64) (m : hx_M), K r m → KK (some (.long r)) Λ m) {K2 : Int32 → hx_M → Prop} (hk2 : ∀ (v3 : Int32) (μ : hx_M), K2 v3 μ → G Λ μ (0, 0) 2 [some (.ref 49), some (.int v1), some (.int v2), some (.int v3), none, none] []) (hw : wX12_atLeast_J22 K K2 v1 v2 v3 t1 t2 μ) : G Λ μ (0, 0) 22 [some (.ref 49), some (.int v1), some (.int v2), some (.int v3), none, none] [.long t2, .int t1, .ref 81] := by
  unfold wX12_atLeast_J22 at hw
  obtain ⟨i22_1, hw⟩ := hw
  exact cl_last hG (hx_dq tdX12_atLeast_0 13 rfl) (mF_S81 hF) i22_1 (cl_iinc hG (v3 + 1) (hx_dq tdX12_atLeast_0 14 rfl) rfl (congrArg (fun z => v3 + z) iconst_1) (Nat.le_of_ble_eq_true rfl) rfl (cl_goto hG 2 (hx_dq tdX12_atLeast_0 15 rfl) rfl (cl_sub hG (hx_le_c rfl (hx_le_c rfl (hx_le_c rfl (hx_le_c rfl (hx_le_n (hx_le_n hx_le_0)))))) (hk2 (v3 + 1) _ hw))))
def wX12_atLeast_L2 (v1 : Int32) (v2 : Int32) (K : Int64 → hx_M → Prop) (K29 : hx_M → Prop) : Nat → Int32 → hx_M → Prop
  | 0, _, _ => False
  | n + 1, v3, μ => (41 ≤ v3 → (K29 μ)) ∧ (¬ (41 ≤ v3) → ((v3 ≠ 0 → (wX12_atLeast_J22 K (wX12_atLeast_L2 v1 v2 K K29 n) v1 v2 v3 v3 0 μ)) ∧ (v3 = 0 → (wX12_atLeast_J22 K (wX12_atLeast_L2 v1 v2 K K29 n) v1 v2 v3 v3 1 μ))))
set_option maxRecDepth 100000 in
set_option maxHeartbeats 4000000 in
theorem kX12_atLeast_L2 {G : hx_GT} {KK : hx_KT} (hG : hx_K cX12_atLeast 6 0 0 (some .long) TbX12 KK G) (cA : hx_CA RX12 cX12_atLeast 1 0 0 G) {Λ : hx_L} (hF : mF Λ)  (v1 : Int32) (v2 : Int32) {K : Int64 → hx_M → Prop} (hK : ∀ (r : Int64) (m : hx_M), K r m → KK (some (.long r)) Λ m) {K29 : hx_M → Prop} (hk29 : ∀ (μ : hx_M), K29 μ → G Λ μ (0, 0) 29 [some (.ref 49), some (.int v1), some (.int v2), none, none, none] []) : ∀ (n : Nat) (v3 : Int32) (μ : hx_M), wX12_atLeast_L2 v1 v2 K K29 n v3 μ → G Λ μ (0, 0) 2 [some (.ref 49), some (.int v1), some (.int v2), some (.int v3), none, none] [] := by
  intro n
  induction n with
  | zero =>
    intro v3 μ hw
    exact False.elim (by simpa only [wX12_atLeast_L2] using hw)
  | succ n ih =>
    intro v3 μ hw
    unfold wX12_atLeast_L2 at hw
    refine cl_iload_n hG (hx_dq tdX12_atLeast_0 2 rfl) rfl (cl_bipush hG 41 (hx_dq tdX12_atLeast_0 3 rfl) bipush_41 (cl_icmp_ge hG 29 (hx_dq tdX12_atLeast_0 4 rfl) rfl (fun c5 => ?_) (fun c5 => ?_)))
    · replace hw := hw.1 c5
      exact cl_sub hG (hx_le_c rfl (hx_le_c rfl (hx_le_c rfl (hx_le_n (hx_le_n (hx_le_n hx_le_0)))))) (hk29 _ hw)
    · replace hw := hw.2 c5
      refine cl_aload_n hG (hx_dq tdX12_atLeast_0 5 rfl) rfl (cl_getS hG fmX12_117 (hx_dq tdX12_atLeast_0 6 rfl) (mF_S49 hF) (mF_R49_54 hF) (cl_iload_n hG (hx_dq tdX12_atLeast_0 7 rfl) rfl (cl_iload_n hG (hx_dq tdX12_atLeast_0 8 rfl) rfl (cl_if_ne hG 21 (hx_dq tdX12_atLeast_0 9 rfl) rfl (fun c14 => ?_) (fun c14 => ?_)))))
      · replace hw := hw.1 c14
        refine cl_lconst hG 0 (hx_dq tdX12_atLeast_0 12 rfl) lconst_0 ?_
        exact cl_sub hG (hx_le_c rfl (hx_le_c rfl (hx_le_c rfl (hx_le_c rfl (hx_le_n (hx_le_n hx_le_0)))))) (kX12_atLeast_J22 hG cA hF v1 v2 v3 v3 0 hK (fun z0 z1 hw => ih z0 z1 hw) hw)
      · replace hw := hw.2 c14
        refine cl_lconst hG 1 (hx_dq tdX12_atLeast_0 10 rfl) lconst_1 (cl_goto hG 22 (hx_dq tdX12_atLeast_0 11 rfl) rfl ?_)
        exact cl_sub hG (hx_le_c rfl (hx_le_c rfl (hx_le_c rfl (hx_le_c rfl (hx_le_n (hx_le_n hx_le_0)))))) (kX12_atLeast_J22 hG cA hF v1 v2 v3 v3 1 hK (fun z0 z1 hw => ih z0 z1 hw) hw)
def wX12_atLeast_L40 (v1 : Int32) (v2 : Int32) (v3 : Int32) (K : Int64 → hx_M → Prop) (K70 : hx_M → Prop) : Nat → Int32 → hx_M → Prop
  | 0, _, _ => False
  | n + 1, v4, μ => (v4 ≤ 0 → (K70 μ)) ∧ (¬ (v4 ≤ 0) → (vp_in v4 41 ∧ vp_in (v4 - 1) 41 ∧ ∀ x_5 : Int64, x_5 = ((μ.2 81 v4.toNatClampNeg) + ((μ.2 81 ((v4 - 1).toNatClampNeg)))) → vp_in v4 41 ∧ wX12_atLeast_L40 v1 v2 v3 K K70 n (v4 + (-1)) (hx_sL μ 81 v4.toNatClampNeg x_5)))
set_option maxRecDepth 100000 in
set_option maxHeartbeats 4000000 in
theorem kX12_atLeast_L40 {G : hx_GT} {KK : hx_KT} (hG : hx_K cX12_atLeast 6 0 0 (some .long) TbX12 KK G) (cA : hx_CA RX12 cX12_atLeast 1 0 0 G) {Λ : hx_L} (hF : mF Λ)  (v1 : Int32) (v2 : Int32) (v3 : Int32) {K : Int64 → hx_M → Prop} (hK : ∀ (r : Int64) (m : hx_M), K r m → KK (some (.long r)) Λ m) {K70 : hx_M → Prop} (hk70 : ∀ (μ : hx_M), K70 μ → G Λ μ (0, 0) 70 [some (.ref 49), some (.int v1), some (.int v2), some (.int v3), none, none] []) : ∀ (n : Nat) (v4 : Int32) (μ : hx_M), wX12_atLeast_L40 v1 v2 v3 K K70 n v4 μ → G Λ μ (0, 0) 40 [some (.ref 49), some (.int v1), some (.int v2), some (.int v3), some (.int v4), none] [] := by
  intro n
  induction n with
  | zero =>
    intro v4 μ hw
    exact False.elim (by simpa only [wX12_atLeast_L40] using hw)
  | succ n ih =>
    intro v4 μ hw
    unfold wX12_atLeast_L40 at hw
    refine cl_iload hG (hx_dq tdX12_atLeast_0 23 rfl) rfl (cl_if_le hG 70 (hx_dq tdX12_atLeast_0 24 rfl) rfl (fun c42 => ?_) (fun c42 => ?_))
    · replace hw := hw.1 c42
      exact cl_sub hG (hx_le_c rfl (hx_le_c rfl (hx_le_c rfl (hx_le_c rfl (hx_le_n (hx_le_n hx_le_0)))))) (hk70 _ hw)
    · replace hw := hw.2 c42
      obtain ⟨i52_3, hw⟩ := hw
      obtain ⟨i61_4, hw⟩ := hw
      refine cl_aload_n hG (hx_dq tdX12_atLeast_0 25 rfl) rfl (cl_getS hG fmX12_117 (hx_dq tdX12_atLeast_0 26 rfl) (mF_S49 hF) (mF_R49_54 hF) (cl_iload hG (hx_dq tdX12_atLeast_0 27 rfl) rfl (cl_dup2 hG (hx_dq tdX12_atLeast_0 28 rfl) rfl rfl (cl_lald hG (hx_dq tdX12_atLeast_0 29 rfl) (mF_S81 hF) i52_3 (cl_aload_n hG (hx_dq tdX12_atLeast_0 30 rfl) rfl (cl_getS hG fmX12_117 (hx_dq tdX12_atLeast_0 31 rfl) (mF_S49 hF) (mF_R49_54 hF) (cl_iload hG (hx_dq tdX12_atLeast_1 0 rfl) rfl (cl_iconst hG 1 (hx_dq tdX12_atLeast_1 1 rfl) iconst_1 (cl_isub hG (hx_dq tdX12_atLeast_1 2 rfl) (cl_lald hG (hx_dq tdX12_atLeast_1 3 rfl) (mF_S81 hF) i61_4 (cl_ladd hG (hx_dq tdX12_atLeast_1 4 rfl) (cl_nmL (fun x_5 e_5 => ?_)))))))))))))
      replace hw := hw x_5 e_5
      obtain ⟨i63_6, hw⟩ := hw
      exact cl_last hG (hx_dq tdX12_atLeast_1 5 rfl) (mF_S81 hF) i63_6 (cl_iinc hG (v4 + (-1)) (hx_dq tdX12_atLeast_1 6 rfl) rfl (congrArg (fun z => v4 + z) iconst_m1) (Nat.le_of_ble_eq_true rfl) rfl (cl_goto hG 40 (hx_dq tdX12_atLeast_1 7 rfl) rfl (cl_sub hG (hx_le_c rfl (hx_le_c rfl (hx_le_c rfl (hx_le_c rfl (hx_le_c rfl (hx_le_n hx_le_0)))))) (ih (v4 + (-1)) _ hw))))
def wX12_atLeast_L31 (v1 : Int32) (v2 : Int32) (K : Int64 → hx_M → Prop) (K76 : hx_M → Prop) : Nat → Int32 → hx_M → Prop
  | 0, _, _ => False
  | n + 1, v3, μ => (v1 ≤ v3 → (K76 μ)) ∧ (¬ (v1 ≤ v3) → (∃ n40_8, wX12_atLeast_L40 v1 v2 v3 K (fun m_7 => wX12_atLeast_L31 v1 v2 K K76 n (v3 + 1) m_7) n40_8 40 μ))
set_option maxRecDepth 100000 in
set_option maxHeartbeats 4000000 in
theorem kX12_atLeast_L31 {G : hx_GT} {KK : hx_KT} (hG : hx_K cX12_atLeast 6 0 0 (some .long) TbX12 KK G) (cA : hx_CA RX12 cX12_atLeast 1 0 0 G) {Λ : hx_L} (hF : mF Λ)  (v1 : Int32) (v2 : Int32) {K : Int64 → hx_M → Prop} (hK : ∀ (r : Int64) (m : hx_M), K r m → KK (some (.long r)) Λ m) {K76 : hx_M → Prop} (hk76 : ∀ (μ : hx_M), K76 μ → G Λ μ (0, 0) 76 [some (.ref 49), some (.int v1), some (.int v2), none, none, none] []) : ∀ (n : Nat) (v3 : Int32) (μ : hx_M), wX12_atLeast_L31 v1 v2 K K76 n v3 μ → G Λ μ (0, 0) 31 [some (.ref 49), some (.int v1), some (.int v2), some (.int v3), none, none] [] := by
  intro n
  induction n with
  | zero =>
    intro v3 μ hw
    exact False.elim (by simpa only [wX12_atLeast_L31] using hw)
  | succ n ih =>
    intro v3 μ hw
    unfold wX12_atLeast_L31 at hw
    refine cl_iload_n hG (hx_dq tdX12_atLeast_0 18 rfl) rfl (cl_iload_n hG (hx_dq tdX12_atLeast_0 19 rfl) rfl (cl_icmp_ge hG 76 (hx_dq tdX12_atLeast_0 20 rfl) rfl (fun c33 => ?_) (fun c33 => ?_)))
    · replace hw := hw.1 c33
      exact cl_sub hG (hx_le_c rfl (hx_le_c rfl (hx_le_c rfl (hx_le_n (hx_le_n (hx_le_n hx_le_0)))))) (hk76 _ hw)
    · replace hw := hw.2 c33
      refine cl_bipush hG 40 (hx_dq tdX12_atLeast_0 21 rfl) bipush_40 (cl_istore hG (hx_dq tdX12_atLeast_0 22 rfl) (Nat.le_of_ble_eq_true rfl) rfl ?_)
      obtain ⟨n_, hw⟩ := hw
      refine cl_sub hG (hx_le_c rfl (hx_le_c rfl (hx_le_c rfl (hx_le_c rfl (hx_le_c rfl (hx_le_n hx_le_0)))))) (kX12_atLeast_L40 hG cA hF v1 v2 v3 hK (fun m_7 hw => ?_) n_ 40 _ hw)
      · exact cl_iinc hG (v3 + 1) (hx_dq tdX12_atLeast_1 8 rfl) rfl (congrArg (fun z => v3 + z) iconst_1) (Nat.le_of_ble_eq_true rfl) rfl (cl_goto hG 31 (hx_dq tdX12_atLeast_1 9 rfl) rfl (cl_sub hG (hx_le_c rfl (hx_le_c rfl (hx_le_c rfl (hx_le_c rfl (hx_le_n (hx_le_n hx_le_0)))))) (ih (v3 + 1) _ hw)))
def wX12_atLeast_L81 (μ : hx_M) (v1 : Int32) (K : Int64 → hx_M → Prop)  : Nat → Int64 → Int32 → Prop
  | 0, _, _ => False
  | n + 1, v3, v5 => (v1 < v5 → (K v3 μ)) ∧ (¬ (v1 < v5) → (vp_in v5 41 ∧ wX12_atLeast_L81 μ v1 K n (v3 + (μ.2 81 v5.toNatClampNeg)) (v5 + 1)))
set_option maxRecDepth 100000 in
set_option maxHeartbeats 4000000 in
theorem kX12_atLeast_L81 {G : hx_GT} {KK : hx_KT} (hG : hx_K cX12_atLeast 6 0 0 (some .long) TbX12 KK G) (cA : hx_CA RX12 cX12_atLeast 1 0 0 G) {Λ : hx_L} (hF : mF Λ) {μ : hx_M} (v1 : Int32) {K : Int64 → hx_M → Prop} (hK : ∀ (r : Int64) (m : hx_M), K r m → KK (some (.long r)) Λ m)  : ∀ (n : Nat) (v3 : Int64) (v5 : Int32), wX12_atLeast_L81 μ v1 K n v3 v5 → G Λ μ (0, 0) 81 [some (.ref 49), some (.int v1), none, some (.long v3), none, some (.int v5)] [] := by
  intro n
  induction n with
  | zero =>
    intro v3 v5 hw
    exact False.elim (by simpa only [wX12_atLeast_L81] using hw)
  | succ n ih =>
    intro v3 v5 hw
    unfold wX12_atLeast_L81 at hw
    refine cl_iload hG (hx_dq tdX12_atLeast_1 14 rfl) rfl (cl_iload_n hG (hx_dq tdX12_atLeast_1 15 rfl) rfl (cl_icmp_gt hG 103 (hx_dq tdX12_atLeast_1 16 rfl) rfl (fun c84 => ?_) (fun c84 => ?_)))
    · replace hw := hw.1 c84
      exact cl_lload_n hG (hx_dq tdX12_atLeast_1 26 rfl) rfl (cl_lret hG (hx_dq tdX12_atLeast_1 27 rfl) rfl (hK _ _ hw) (Nat.le_refl _) (Nat.le_refl _))
    · replace hw := hw.2 c84
      obtain ⟨i94_10, hw⟩ := hw
      exact cl_lload_n hG (hx_dq tdX12_atLeast_1 17 rfl) rfl (cl_aload_n hG (hx_dq tdX12_atLeast_1 18 rfl) rfl (cl_getS hG fmX12_117 (hx_dq tdX12_atLeast_1 19 rfl) (mF_S49 hF) (mF_R49_54 hF) (cl_iload hG (hx_dq tdX12_atLeast_1 20 rfl) rfl (cl_lald hG (hx_dq tdX12_atLeast_1 21 rfl) (mF_S81 hF) i94_10 (cl_ladd hG (hx_dq tdX12_atLeast_1 22 rfl) (cl_lstore_n hG (hx_dq tdX12_atLeast_1 23 rfl) (Nat.le_of_ble_eq_true rfl) rfl (cl_iinc hG (v5 + 1) (hx_dq tdX12_atLeast_1 24 rfl) rfl (congrArg (fun z => v5 + z) iconst_1) (Nat.le_of_ble_eq_true rfl) rfl (cl_goto hG 81 (hx_dq tdX12_atLeast_1 25 rfl) rfl (cl_sub hG (hx_le_c rfl (hx_le_c rfl (hx_le_n (hx_le_c rfl (hx_le_n (hx_le_c rfl hx_le_0)))))) (ih (v3 + (μ.2 81 v5.toNatClampNeg)) (v5 + 1) hw))))))))))
def wX12_atLeast (μ : hx_M) (v1 : Int32) (v2 : Int32) (K : Int64 → hx_M → Prop) : Prop := ∃ n2_13, wX12_atLeast_L2 v1 v2 K (fun m_2 => ∃ n31_12, wX12_atLeast_L31 v1 v2 K (fun m_9 => ∃ n81_11, wX12_atLeast_L81 m_9 v1 K n81_11 0 v2) n31_12 0 m_2) n2_13 0 μ
set_option maxRecDepth 100000 in
set_option maxHeartbeats 4000000 in
theorem kX12_atLeast {G : hx_GT} {KK : hx_KT} (hG : hx_K cX12_atLeast 6 0 0 (some .long) TbX12 KK G) (cA : hx_CA RX12 cX12_atLeast 1 0 0 G) {Λ : hx_L} (hF : mF Λ) {μ : hx_M} (v1 : Int32) (v2 : Int32) {K : Int64 → hx_M → Prop} (hK : ∀ (r : Int64) (m : hx_M), K r m → KK (some (.long r)) Λ m) (hw : wX12_atLeast μ v1 v2 K) : G Λ μ (0, 0) 0 [some (.ref 49), some (.int v1), some (.int v2), none, none, none] [] := by
  unfold wX12_atLeast at hw
  refine cl_iconst hG 0 (hx_dq tdX12_atLeast_0 0 rfl) iconst_0 (cl_istore_n hG (hx_dq tdX12_atLeast_0 1 rfl) (Nat.le_of_ble_eq_true rfl) rfl ?_)
  obtain ⟨n_, hw⟩ := hw
  refine cl_sub hG (hx_le_c rfl (hx_le_c rfl (hx_le_c rfl (hx_le_c rfl (hx_le_n (hx_le_n hx_le_0)))))) (kX12_atLeast_L2 hG cA hF v1 v2 hK (fun m_2 hw => ?_) n_ 0 _ hw)
  · refine cl_iconst hG 0 (hx_dq tdX12_atLeast_0 16 rfl) iconst_0 (cl_istore_n hG (hx_dq tdX12_atLeast_0 17 rfl) (Nat.le_of_ble_eq_true rfl) rfl ?_)
    obtain ⟨n_, hw⟩ := hw
    refine cl_sub hG (hx_le_c rfl (hx_le_c rfl (hx_le_c rfl (hx_le_c rfl (hx_le_n (hx_le_n hx_le_0)))))) (kX12_atLeast_L31 hG cA hF v1 v2 hK (fun m_9 hw => ?_) n_ 0 _ hw)
    · refine cl_lconst hG 0 (hx_dq tdX12_atLeast_1 10 rfl) lconst_0 (cl_lstore_n hG (hx_dq tdX12_atLeast_1 11 rfl) (Nat.le_of_ble_eq_true rfl) rfl (cl_iload_n hG (hx_dq tdX12_atLeast_1 12 rfl) rfl (cl_istore hG (hx_dq tdX12_atLeast_1 13 rfl) (Nat.le_of_ble_eq_true rfl) rfl ?_)))
      obtain ⟨n_, hw⟩ := hw
      refine cl_sub hG (hx_le_c rfl (hx_le_c rfl (hx_le_n (hx_le_c rfl (hx_le_n (hx_le_c rfl hx_le_0)))))) (kX12_atLeast_L81 hG cA hF v1 hK n_ 0 v2 hw)
def sX12_atLeast : hx_ST := fun Λ μ as KK => mF Λ ∧ ∃ (v1 : Int32) (v2 : Int32) (K : Int64 → hx_M → Prop), as = [.ref 49, .int v1, .int v2] ∧ wX12_atLeast μ v1 v2 K ∧ (∀ (r : Int64) (m : hx_M), K r m → KK (some (.long r)) Λ m)
theorem sX12_atLeast_mk {Λ : hx_L} {μ : hx_M} {KK : hx_KT} {v1 : Int32} {v2 : Int32} {K : Int64 → hx_M → Prop} (hF : mF Λ) (hw : wX12_atLeast μ v1 v2 K) (hk : ∀ (r : Int64) (m : hx_M), K r m → KK (some (.long r)) Λ m) : sX12_atLeast Λ μ [.ref 49, .int v1, .int v2] KK := ⟨hF, _, _, _, rfl, hw, hk⟩
theorem conX12_atLeast : hx_Con yX12_atLeast cX12_atLeast 6 (some .long) 1 0 0 sX12_atLeast := by
  refine hx_con_of (by decide +kernel) tokX12 (by decide) ?_ ?_
  · intro Λ μ as KK h
    obtain ⟨hF, v1, v2, K, rfl, hw, hK⟩ := h
    exact Nat.le_of_ble_eq_true rfl
  · intro G KK hG cA Λ μ as h
    obtain ⟨hF, v1, v2, K, rfl, hw, hK⟩ := h
    exact cl_sub hG (hx_le_c rfl (hx_le_c rfl (hx_le_c rfl (hx_le_n (hx_le_n (hx_le_n hx_le_0)))))) (kX12_atLeast hG cA hF _ _ hK hw)
/-! HemLineModel.claim(II)J -/
def tbX12_claim_0 : List (Nat × Instr × Nat) := [(0, .iload_n 1, 1), (1, .iconst 0, 1), (2, .bipush 9, 2), (4, .invokestatic 157, 3), (7, .ifCond .eq 12, 3), (10, .iload_n 2, 1), (11, .iconst 0, 1), (12, .iconst 2, 1), (13, .invokestatic 157, 3), (16, .ifCond .ne 7, 3), (19, .ldc2_w 413, 3), (22, .lreturn, 1), (23, .aload_n 0, 1), (24, .iload_n 1, 1), (25, .invokevirtual 421, 3), (28, .iload_n 2, 1), (29, .ifCond .ne 11, 3), (32, .aload_n 0, 1), (33, .getfield 415, 3), (36, .i2l, 1), (37, .goto 28, 3), (40, .iload_n 2, 1), (41, .iconst 1, 1), (42, .if_icmp .ne 11, 3), (45, .aload_n 0, 1), (46, .getfield 418, 3), (49, .i2l, 1), (50, .goto 15, 3), (53, .aload_n 0, 1), (54, .aload_n 0, 1), (55, .getfield 418, 3), (58, .aload_n 0, 1)]
def tbX12_claim_1 : List (Nat × Instr × Nat) := [(59, .getfield 415, 3), (62, .invokevirtual 424, 3), (65, .lreturn, 1)]
theorem tdX12_claim_0 : hx_dt cX12_claim tbX12_claim_0 = true := by decide +kernel
theorem tdX12_claim_1 : hx_dt cX12_claim tbX12_claim_1 = true := by decide +kernel
theorem caX12_claim_157 {G : hx_GT} (cA : hx_CA RX12 cX12_claim 4 0 0 G) : hx_CS cX12_claim G 0 0 157 3 sX12_isIn 0 0 := cA.2.1 conX12_isIn ⟨by decide +kernel, by decide +kernel, by decide +kernel⟩ mw_1343 mw_1344 mw_97 mw_1345 (by decide) (by decide)
theorem caX12_claim_421 {G : hx_GT} (cA : hx_CA RX12 cX12_claim 4 0 0 G) : hx_CV cX12_claim G 0 0 421 12 1 sX12_claims 0 0 := cA.1 conX12_claims rfl rfl ⟨by decide +kernel, by decide +kernel, by decide +kernel⟩ mw_1627 mw_1629 mw_75 mw_97 mw_1630 (by decide) (by decide)
theorem caX12_claim_424 {G : hx_GT} (cA : hx_CA RX12 cX12_claim 4 0 0 G) : hx_CV cX12_claim G 0 0 424 12 2 sX12_atLeast 0 0 := cA.1 conX12_atLeast rfl rfl ⟨by decide +kernel, by decide +kernel, by decide +kernel⟩ mw_1631 mw_1633 mw_76 mw_97 mw_1634 (by decide) (by decide)
def wX12_claim (μ : hx_M) (v1 : Int32) (v2 : Int32) (K : Int64 → hx_M → Prop) : Prop := wX12_isIn v1 0 9 (fun r4_2 => (r4_2 = 0 → (K (-1 : Int64) μ)) ∧ (¬ (r4_2 = 0) → (wX12_isIn v2 0 2 (fun r13_4 => (r13_4 ≠ 0 → (wX12_claims μ v1 (fun m25_5 => (v2 ≠ 0 → ((v2 ≠ 1 → (wX12_atLeast m25_5 (m25_5.1 49 53) (m25_5.1 49 52) (fun r62_8 m62_7 => K r62_8 m62_7))) ∧ (v2 = 1 → (K (((m25_5.1 49 53) : Int32).toInt64) m25_5)))) ∧ (v2 = 0 → (K (((m25_5.1 49 52) : Int32).toInt64) m25_5))))) ∧ (r13_4 = 0 → (K (-1 : Int64) μ))))))
set_option maxRecDepth 100000 in
set_option maxHeartbeats 4000000 in
theorem kX12_claim {G : hx_GT} {KK : hx_KT} (hG : hx_K cX12_claim 3 0 0 (some .long) TbX12 KK G) (cA : hx_CA RX12 cX12_claim 4 0 0 G) {Λ : hx_L} (hF : mF Λ) {μ : hx_M} (v1 : Int32) (v2 : Int32) {K : Int64 → hx_M → Prop} (hK : ∀ (r : Int64) (m : hx_M), K r m → KK (some (.long r)) Λ m) (hw : wX12_claim μ v1 v2 K) : G Λ μ (0, 0) 0 [some (.ref 49), some (.int v1), some (.int v2)] [] := by
  unfold wX12_claim at hw
  refine cl_iload_n hG (hx_dq tdX12_claim_0 0 rfl) rfl (cl_iconst hG 0 (hx_dq tdX12_claim_0 1 rfl) iconst_0 (cl_bipush hG 9 (hx_dq tdX12_claim_0 2 rfl) bipush_9 (cl_callS3 (caX12_claim_157 cA) (hx_dq tdX12_claim_0 3 rfl) (Nat.le_of_ble_eq_true rfl) (Nat.le_refl _) (Nat.le_refl _) (sX12_isIn_mk hw (fun r4_2 hw => ?_)))))
  refine cl_if_eq hG 19 (hx_dq tdX12_claim_0 4 rfl) rfl (fun c7 => ?_) (fun c7 => ?_)
  · replace hw := hw.1 c7
    exact cl_ldc2 hG ciX12_413 (hx_dq tdX12_claim_0 10 rfl) (cl_lret hG (hx_dq tdX12_claim_0 11 rfl) rfl (hK _ _ hw) (Nat.le_refl _) (Nat.le_refl _))
  · replace hw := hw.2 c7
    refine cl_iload_n hG (hx_dq tdX12_claim_0 5 rfl) rfl (cl_iconst hG 0 (hx_dq tdX12_claim_0 6 rfl) iconst_0 (cl_iconst hG 2 (hx_dq tdX12_claim_0 7 rfl) iconst_2 (cl_callS3 (caX12_claim_157 cA) (hx_dq tdX12_claim_0 8 rfl) (Nat.le_of_ble_eq_true rfl) (Nat.le_refl _) (Nat.le_refl _) (sX12_isIn_mk hw (fun r13_4 hw => ?_)))))
    refine cl_if_ne hG 23 (hx_dq tdX12_claim_0 9 rfl) rfl (fun c16 => ?_) (fun c16 => ?_)
    · replace hw := hw.1 c16
      refine cl_aload_n hG (hx_dq tdX12_claim_0 12 rfl) rfl (cl_iload_n hG (hx_dq tdX12_claim_0 13 rfl) rfl (cl_callV1 (caX12_claim_421 cA) (hx_dq tdX12_claim_0 14 rfl) (mF_S49 hF) (Nat.le_of_ble_eq_true rfl) (Nat.le_refl _) (Nat.le_refl _) (sX12_claims_mk hF hw (fun m25_5 hw => ?_))))
      refine cl_iload_n hG (hx_dq tdX12_claim_0 15 rfl) rfl (cl_if_ne hG 40 (hx_dq tdX12_claim_0 16 rfl) rfl (fun c29 => ?_) (fun c29 => ?_))
      · replace hw := hw.1 c29
        refine cl_iload_n hG (hx_dq tdX12_claim_0 21 rfl) rfl (cl_iconst hG 1 (hx_dq tdX12_claim_0 22 rfl) iconst_1 (cl_icmp_ne hG 53 (hx_dq tdX12_claim_0 23 rfl) rfl (fun c42 => ?_) (fun c42 => ?_)))
        · replace hw := hw.1 c42
          refine cl_aload_n hG (hx_dq tdX12_claim_0 28 rfl) rfl (cl_aload_n hG (hx_dq tdX12_claim_0 29 rfl) rfl (cl_getI hG fmX12_418 (hx_dq tdX12_claim_0 30 rfl) (mF_S49 hF) (cl_aload_n hG (hx_dq tdX12_claim_0 31 rfl) rfl (cl_getI hG fmX12_415 (hx_dq tdX12_claim_1 0 rfl) (mF_S49 hF) (cl_callV2 (caX12_claim_424 cA) (hx_dq tdX12_claim_1 1 rfl) (mF_S49 hF) (Nat.le_of_ble_eq_true rfl) (Nat.le_refl _) (Nat.le_refl _) (sX12_atLeast_mk hF hw (fun r62_8 m62_7 hw => ?_)))))))
          exact cl_lret hG (hx_dq tdX12_claim_1 2 rfl) rfl (hK _ _ hw) (Nat.le_refl _) (Nat.le_refl _)
        · replace hw := hw.2 c42
          exact cl_aload_n hG (hx_dq tdX12_claim_0 24 rfl) rfl (cl_getI hG fmX12_418 (hx_dq tdX12_claim_0 25 rfl) (mF_S49 hF) (cl_i2l hG (hx_dq tdX12_claim_0 26 rfl) (cl_goto hG 65 (hx_dq tdX12_claim_0 27 rfl) rfl (cl_lret hG (hx_dq tdX12_claim_1 2 rfl) rfl (hK _ _ hw) (Nat.le_refl _) (Nat.le_refl _)))))
      · replace hw := hw.2 c29
        exact cl_aload_n hG (hx_dq tdX12_claim_0 17 rfl) rfl (cl_getI hG fmX12_415 (hx_dq tdX12_claim_0 18 rfl) (mF_S49 hF) (cl_i2l hG (hx_dq tdX12_claim_0 19 rfl) (cl_goto hG 65 (hx_dq tdX12_claim_0 20 rfl) rfl (cl_lret hG (hx_dq tdX12_claim_1 2 rfl) rfl (hK _ _ hw) (Nat.le_refl _) (Nat.le_refl _)))))
    · replace hw := hw.2 c16
      exact cl_ldc2 hG ciX12_413 (hx_dq tdX12_claim_0 10 rfl) (cl_lret hG (hx_dq tdX12_claim_0 11 rfl) rfl (hK _ _ hw) (Nat.le_refl _) (Nat.le_refl _))
def sX12_claim : hx_ST := fun Λ μ as KK => mF Λ ∧ ∃ (v1 : Int32) (v2 : Int32) (K : Int64 → hx_M → Prop), as = [.ref 49, .int v1, .int v2] ∧ wX12_claim μ v1 v2 K ∧ (∀ (r : Int64) (m : hx_M), K r m → KK (some (.long r)) Λ m)
theorem sX12_claim_mk {Λ : hx_L} {μ : hx_M} {KK : hx_KT} {v1 : Int32} {v2 : Int32} {K : Int64 → hx_M → Prop} (hF : mF Λ) (hw : wX12_claim μ v1 v2 K) (hk : ∀ (r : Int64) (m : hx_M), K r m → KK (some (.long r)) Λ m) : sX12_claim Λ μ [.ref 49, .int v1, .int v2] KK := ⟨hF, _, _, _, rfl, hw, hk⟩
theorem conX12_claim : hx_Con yX12_claim cX12_claim 3 (some .long) 4 0 0 sX12_claim := by
  refine hx_con_of (by decide +kernel) tokX12 (by decide) ?_ ?_
  · intro Λ μ as KK h
    obtain ⟨hF, v1, v2, K, rfl, hw, hK⟩ := h
    exact Nat.le_of_ble_eq_true rfl
  · intro G KK hG cA Λ μ as h
    obtain ⟨hF, v1, v2, K, rfl, hw, hK⟩ := h
    exact cl_sub hG (hx_le_c rfl (hx_le_c rfl (hx_le_c rfl hx_le_0))) (kX12_claim hG cA hF _ _ hK hw)
