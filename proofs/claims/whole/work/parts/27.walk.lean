/-! HemLineModel.single()Z -/
def tbX12_single_0 : List (Nat × Instr × Nat) := [(0, .aload_n 0, 1), (1, .invokevirtual 200, 3), (4, .ldc2_w 260, 3), (7, .lcmp, 1), (8, .ifCond .ne 48, 3), (11, .aload_n 0, 1), (12, .invokevirtual 262, 3), (15, .ifCond .ne 5, 3), (18, .iconst 0, 1), (19, .ireturn, 1), (20, .aload_n 0, 1), (21, .aload_n 0, 1), (22, .getfield 197, 3), (25, .putfield 188, 3), (28, .aload_n 0, 1), (29, .invokevirtual 255, 3), (32, .ifCond .ne 5, 3), (35, .iconst 0, 1), (36, .ireturn, 1), (37, .aload_n 0, 1), (38, .dup, 1), (39, .getfield 238, 3), (42, .iconst 1, 1), (43, .isub, 1), (44, .putfield 238, 3), (47, .aload_n 0, 1), (48, .iconst 5, 1), (49, .iconst 0, 1), (50, .iconst 0, 1), (51, .invokevirtual 251, 3), (54, .iconst 1, 1), (55, .ireturn, 1)]
def tbX12_single_1 : List (Nat × Instr × Nat) := [(56, .aload_n 0, 1), (57, .getfield 188, 3), (60, .aload_n 0, 1), (61, .getfield 191, 3), (64, .if_icmp .ge 66, 3), (67, .aload_n 0, 1), (68, .getfield 98, 3), (71, .aload_n 0, 1), (72, .getfield 188, 3), (75, .baload, 1), (76, .bipush 40, 2), (78, .if_icmp .ne 52, 3), (81, .aload_n 0, 1), (82, .invokevirtual 262, 3), (85, .ifCond .ne 5, 3), (88, .iconst 0, 1), (89, .ireturn, 1), (90, .aload_n 0, 1), (91, .dup, 1), (92, .getfield 188, 3), (95, .iconst 1, 1), (96, .iadd, 1), (97, .putfield 188, 3), (100, .aload_n 0, 1), (101, .invokevirtual 265, 3), (104, .ifCond .eq 12, 3), (107, .aload_n 0, 1), (108, .bipush 41, 2), (110, .invokevirtual 268, 3), (113, .ifCond .ne 5, 3), (116, .iconst 0, 1), (117, .ireturn, 1)]
def tbX12_single_2 : List (Nat × Instr × Nat) := [(118, .aload_n 0, 1), (119, .dup, 1), (120, .getfield 238, 3), (123, .iconst 1, 1), (124, .isub, 1), (125, .putfield 238, 3), (128, .iconst 1, 1), (129, .ireturn, 1), (130, .aload_n 0, 1), (131, .invokevirtual 200, 3), (134, .invokestatic 271, 3), (137, .istore_n 1, 1), (138, .iload_n 1, 1), (139, .iconst (-1), 1), (140, .if_icmp .ne 5, 3), (143, .iconst 0, 1), (144, .ireturn, 1), (145, .aload_n 0, 1), (146, .aload_n 0, 1), (147, .getfield 197, 3), (150, .putfield 188, 3), (153, .aload_n 0, 1), (154, .bipush 60, 2), (156, .invokevirtual 268, 3), (159, .ifCond .eq 7, 3), (162, .iconst 0, 1), (163, .goto 30, 3), (166, .aload_n 0, 1), (167, .bipush 62, 2), (169, .invokevirtual 268, 3), (172, .ifCond .eq 7, 3), (175, .iconst 1, 1)]
def tbX12_single_3 : List (Nat × Instr × Nat) := [(176, .goto 17, 3), (179, .aload_n 0, 1), (180, .bipush 61, 2), (182, .invokevirtual 268, 3), (185, .ifCond .eq 7, 3), (188, .iconst 2, 1), (189, .goto 4, 3), (192, .iconst (-1), 1), (193, .istore_n 2, 1), (194, .iload_n 2, 1), (195, .iconst (-1), 1), (196, .if_icmp .eq 14, 3), (199, .aload_n 0, 1), (200, .iconst 0, 1), (201, .sipush 9999, 3), (204, .invokevirtual 274, 3), (207, .ifCond .ne 5, 3), (210, .iconst 0, 1), (211, .ireturn, 1), (212, .aload_n 0, 1), (213, .iload_n 2, 1), (214, .iload_n 1, 1), (215, .aload_n 0, 1), (216, .getfield 204, 3), (219, .invokevirtual 251, 3), (222, .iconst 1, 1), (223, .ireturn, 1)]
theorem tdX12_single_0 : hx_dt cX12_single tbX12_single_0 = true := by decide +kernel
theorem tdX12_single_1 : hx_dt cX12_single tbX12_single_1 = true := by decide +kernel
theorem tdX12_single_2 : hx_dt cX12_single tbX12_single_2 = true := by decide +kernel
theorem tdX12_single_3 : hx_dt cX12_single tbX12_single_3 = true := by decide +kernel
theorem caX12_single_200 {G : hx_GT} {W1 : hx_M → (Int32 → hx_M → Prop) → Prop} {h1 : Nat} (hc1 : hx_Con yX12_single cX12_single 3 (some .boolean) h1 0 0 (sX12_single W1)) (h5 : 6 ≤ h1) (cA : hx_CA RX12 cX12_single (h1 + 3) 0 0 G) : hx_CV cX12_single G 0 0 200 12 0 sX12_word 0 0 := cA.1 conX12_word rfl rfl ⟨by decide +kernel, by decide +kernel, by decide +kernel⟩ mw_1396 mw_1398 mw_42 mw_97 mw_1399 (by omega) (by decide)
theorem caX12_single_251 {G : hx_GT} {W1 : hx_M → (Int32 → hx_M → Prop) → Prop} {h1 : Nat} (hc1 : hx_Con yX12_single cX12_single 3 (some .boolean) h1 0 0 (sX12_single W1)) (h5 : 6 ≤ h1) (cA : hx_CA RX12 cX12_single (h1 + 3) 0 0 G) : hx_CV cX12_single G 0 0 251 12 3 sX12_puts 0 0 := cA.1 conX12_puts rfl rfl ⟨by decide +kernel, by decide +kernel, by decide +kernel⟩ mw_1437 mw_1439 mw_49 mw_97 mw_1440 (by omega) (by decide)
theorem caX12_single_255 {G : hx_GT} {W1 : hx_M → (Int32 → hx_M → Prop) → Prop} {h1 : Nat} (hc1 : hx_Con yX12_single cX12_single 3 (some .boolean) h1 0 0 (sX12_single W1)) (h5 : 6 ≤ h1) (cA : hx_CA RX12 cX12_single (h1 + 3) 0 0 G) : hx_CV cX12_single G 0 0 255 12 0 (sX12_single W1) 0 0 := cA.1 hc1 rfl rfl ⟨by decide +kernel, by decide +kernel, by decide +kernel⟩ mw_1428 mw_1430 mw_47 mw_97 mw_1431 (by omega) (by decide)
theorem caX12_single_262 {G : hx_GT} {W1 : hx_M → (Int32 → hx_M → Prop) → Prop} {h1 : Nat} (hc1 : hx_Con yX12_single cX12_single 3 (some .boolean) h1 0 0 (sX12_single W1)) (h5 : 6 ≤ h1) (cA : hx_CA RX12 cX12_single (h1 + 3) 0 0 G) : hx_CV cX12_single G 0 0 262 12 0 sX12_opens 0 0 := cA.1 conX12_opens rfl rfl ⟨by decide +kernel, by decide +kernel, by decide +kernel⟩ mw_1433 mw_1435 mw_48 mw_97 mw_1436 (by omega) (by decide)
theorem caX12_single_265 {G : hx_GT} {W1 : hx_M → (Int32 → hx_M → Prop) → Prop} {h1 : Nat} (hc1 : hx_Con yX12_single cX12_single 3 (some .boolean) h1 0 0 (sX12_single W1)) (h5 : 6 ≤ h1) (cA : hx_CA RX12 cX12_single (h1 + 3) 0 0 G) : hx_CV cX12_single G 0 0 265 12 0 (sX12_any W1) 0 0 := cA.1 (conX12_any hc1 h5) rfl rfl ⟨by decide +kernel, by decide +kernel, by decide +kernel⟩ mw_1420 mw_1422 mw_45 mw_97 mw_1423 (by omega) (by decide)
theorem caX12_single_268 {G : hx_GT} {W1 : hx_M → (Int32 → hx_M → Prop) → Prop} {h1 : Nat} (hc1 : hx_Con yX12_single cX12_single 3 (some .boolean) h1 0 0 (sX12_single W1)) (h5 : 6 ≤ h1) (cA : hx_CA RX12 cX12_single (h1 + 3) 0 0 G) : hx_CV cX12_single G 0 0 268 12 1 sX12_takesSign 0 0 := cA.1 conX12_takesSign rfl rfl ⟨by decide +kernel, by decide +kernel, by decide +kernel⟩ mw_1441 mw_1443 mw_50 mw_97 mw_1444 (by omega) (by decide)
theorem caX12_single_271 {G : hx_GT} {W1 : hx_M → (Int32 → hx_M → Prop) → Prop} {h1 : Nat} (hc1 : hx_Con yX12_single cX12_single 3 (some .boolean) h1 0 0 (sX12_single W1)) (h5 : 6 ≤ h1) (cA : hx_CA RX12 cX12_single (h1 + 3) 0 0 G) : hx_CS cX12_single G 0 0 271 1 sX12_askedBy 0 0 := cA.2.1 conX12_askedBy ⟨by decide +kernel, by decide +kernel, by decide +kernel⟩ mw_1445 mw_1446 mw_97 mw_1447 (by omega) (by decide)
theorem caX12_single_274 {G : hx_GT} {W1 : hx_M → (Int32 → hx_M → Prop) → Prop} {h1 : Nat} (hc1 : hx_Con yX12_single cX12_single 3 (some .boolean) h1 0 0 (sX12_single W1)) (h5 : 6 ≤ h1) (cA : hx_CA RX12 cX12_single (h1 + 3) 0 0 G) : hx_CV cX12_single G 0 0 274 12 2 sX12_takesNumber 0 0 := cA.1 conX12_takesNumber rfl rfl ⟨by decide +kernel, by decide +kernel, by decide +kernel⟩ mw_1415 mw_1417 mw_44 mw_97 mw_1418 (by omega) (by decide)
def wX12_single_J193 (W1 : hx_M → (Int32 → hx_M → Prop) → Prop) (K : Int32 → hx_M → Prop)  (v1 : Int32) (t0 : Int32) (μ : hx_M) : Prop := (t0 = (-1) → (K 0 μ)) ∧ (¬ (t0 = (-1)) → (wX12_takesNumber μ 0 9999 (fun r204_14 m204_13 => (r204_14 ≠ 0 → (wX12_puts m204_13 t0 v1 (m204_13.1 49 42) (fun m219_15 => K 1 m219_15))) ∧ (r204_14 = 0 → (K 0 m204_13)))))
set_option maxRecDepth 100000 in
set_option maxHeartbeats 4000000 in
theorem kX12_single_J193 {G : hx_GT} {KK : hx_KT} {W1 : hx_M → (Int32 → hx_M → Prop) → Prop} {h1 : Nat} (hG : hx_K cX12_single 3 0 0 (some .boolean) TbX12 KK G) (hc1 : hx_Con yX12_single cX12_single 3 (some .boolean) h1 0 0 (sX12_single W1)) (h5 : 6 ≤ h1) (cA : hx_CA RX12 cX12_single (h1 + 3) 0 0 G) {Λ : hx_L} (hF : mF Λ) {μ : hx_M} (v1 : Int32) (t0 : Int32) {K : Int32 → hx_M → Prop} (hK : ∀ (r : Int32) (m : hx_M), K r m → KK (some (.int r)) Λ m)  (hw : wX12_single_J193 W1 K v1 t0 μ) : G Λ μ (0, 0) 193 [some (.ref 49), some (.int v1), none] [.int t0] := by
  unfold wX12_single_J193 at hw
  refine cl_istore_n hG (hx_dq tdX12_single_3 8 rfl) (Nat.le_of_ble_eq_true rfl) rfl (cl_iload_n hG (hx_dq tdX12_single_3 9 rfl) rfl (cl_iconst hG (-1) (hx_dq tdX12_single_3 10 rfl) iconst_m1 (cl_icmp_eq hG 210 (hx_dq tdX12_single_3 11 rfl) rfl (fun c196 => ?_) (fun c196 => ?_))))
  · replace hw := hw.1 c196
    exact cl_iconst hG 0 (hx_dq tdX12_single_3 17 rfl) iconst_0 (cl_iret hG (hx_dq tdX12_single_3 18 rfl) rfl rfl (hK _ _ hw) (Nat.le_refl _) (Nat.le_refl _))
  · replace hw := hw.2 c196
    refine cl_aload_n hG (hx_dq tdX12_single_3 12 rfl) rfl (cl_iconst hG 0 (hx_dq tdX12_single_3 13 rfl) iconst_0 (cl_sipush hG 9999 (hx_dq tdX12_single_3 14 rfl) sipush_9999 (cl_callV2 (caX12_single_274 hc1 h5 cA) (hx_dq tdX12_single_3 15 rfl) (mF_S49 hF) (Nat.le_of_ble_eq_true rfl) (Nat.le_refl _) (Nat.le_refl _) (sX12_takesNumber_mk hF hw (fun r204_14 m204_13 hw => ?_)))))
    refine cl_if_ne hG 212 (hx_dq tdX12_single_3 16 rfl) rfl (fun c207 => ?_) (fun c207 => ?_)
    · replace hw := hw.1 c207
      refine cl_aload_n hG (hx_dq tdX12_single_3 19 rfl) rfl (cl_iload_n hG (hx_dq tdX12_single_3 20 rfl) rfl (cl_iload_n hG (hx_dq tdX12_single_3 21 rfl) rfl (cl_aload_n hG (hx_dq tdX12_single_3 22 rfl) rfl (cl_getI hG fmX12_204 (hx_dq tdX12_single_3 23 rfl) (mF_S49 hF) (cl_callV3 (caX12_single_251 hc1 h5 cA) (hx_dq tdX12_single_3 24 rfl) (mF_S49 hF) (Nat.le_of_ble_eq_true rfl) (Nat.le_refl _) (Nat.le_refl _) (sX12_puts_mk hF hw (fun m219_15 hw => ?_)))))))
      exact cl_iconst hG 1 (hx_dq tdX12_single_3 25 rfl) iconst_1 (cl_iret hG (hx_dq tdX12_single_3 26 rfl) rfl rfl (hK _ _ hw) (Nat.le_refl _) (Nat.le_refl _))
    · replace hw := hw.2 c207
      exact cl_iconst hG 0 (hx_dq tdX12_single_3 17 rfl) iconst_0 (cl_iret hG (hx_dq tdX12_single_3 18 rfl) rfl rfl (hK _ _ hw) (Nat.le_refl _) (Nat.le_refl _))
def wX12_single_J130 (W1 : hx_M → (Int32 → hx_M → Prop) → Prop) (K : Int32 → hx_M → Prop)    (μ : hx_M) : Prop := wX12_word μ (fun r131_4 m131_3 => wX12_askedBy r131_4 (fun r134_6 => (r134_6 ≠ (-1) → (wX12_takesSign (hx_sI m131_3 49 25 (m131_3.1 49 41)) 60 (fun r156_8 m156_7 => (r156_8 = 0 → (wX12_takesSign m156_7 62 (fun r169_10 m169_9 => (r169_10 = 0 → (wX12_takesSign m169_9 61 (fun r182_12 m182_11 => (r182_12 = 0 → (wX12_single_J193 W1 K r134_6 (-1) m182_11)) ∧ (¬ (r182_12 = 0) → (wX12_single_J193 W1 K r134_6 2 m182_11))))) ∧ (¬ (r169_10 = 0) → (wX12_single_J193 W1 K r134_6 1 m169_9))))) ∧ (¬ (r156_8 = 0) → (wX12_single_J193 W1 K r134_6 0 m156_7))))) ∧ (r134_6 = (-1) → (K 0 m131_3))))
set_option maxRecDepth 100000 in
set_option maxHeartbeats 4000000 in
theorem kX12_single_J130 {G : hx_GT} {KK : hx_KT} {W1 : hx_M → (Int32 → hx_M → Prop) → Prop} {h1 : Nat} (hG : hx_K cX12_single 3 0 0 (some .boolean) TbX12 KK G) (hc1 : hx_Con yX12_single cX12_single 3 (some .boolean) h1 0 0 (sX12_single W1)) (h5 : 6 ≤ h1) (cA : hx_CA RX12 cX12_single (h1 + 3) 0 0 G) {Λ : hx_L} (hF : mF Λ) {μ : hx_M}   {K : Int32 → hx_M → Prop} (hK : ∀ (r : Int32) (m : hx_M), K r m → KK (some (.int r)) Λ m)  (hw : wX12_single_J130 W1 K μ) : G Λ μ (0, 0) 130 [some (.ref 49), none, none] [] := by
  unfold wX12_single_J130 at hw
  refine cl_aload_n hG (hx_dq tdX12_single_2 8 rfl) rfl (cl_callV0 (caX12_single_200 hc1 h5 cA) (hx_dq tdX12_single_2 9 rfl) (mF_S49 hF) (Nat.le_of_ble_eq_true rfl) (Nat.le_refl _) (Nat.le_refl _) (sX12_word_mk hF hw (fun r131_4 m131_3 hw => ?_)))
  refine cl_callS1 (caX12_single_271 hc1 h5 cA) (hx_dq tdX12_single_2 10 rfl) (Nat.le_of_ble_eq_true rfl) (Nat.le_refl _) (Nat.le_refl _) (sX12_askedBy_mk hw (fun r134_6 hw => ?_))
  refine cl_istore_n hG (hx_dq tdX12_single_2 11 rfl) (Nat.le_of_ble_eq_true rfl) rfl (cl_iload_n hG (hx_dq tdX12_single_2 12 rfl) rfl (cl_iconst hG (-1) (hx_dq tdX12_single_2 13 rfl) iconst_m1 (cl_icmp_ne hG 145 (hx_dq tdX12_single_2 14 rfl) rfl (fun c140 => ?_) (fun c140 => ?_))))
  · replace hw := hw.1 c140
    refine cl_aload_n hG (hx_dq tdX12_single_2 17 rfl) rfl (cl_aload_n hG (hx_dq tdX12_single_2 18 rfl) rfl (cl_getI hG fmX12_197 (hx_dq tdX12_single_2 19 rfl) (mF_S49 hF) (cl_putI hG fmX12_188 (hx_dq tdX12_single_2 20 rfl) (mF_S49 hF) (cl_aload_n hG (hx_dq tdX12_single_2 21 rfl) rfl (cl_bipush hG 60 (hx_dq tdX12_single_2 22 rfl) bipush_60 (cl_callV1 (caX12_single_268 hc1 h5 cA) (hx_dq tdX12_single_2 23 rfl) (mF_S49 hF) (Nat.le_of_ble_eq_true rfl) (Nat.le_refl _) (Nat.le_refl _) (sX12_takesSign_mk hF hw (fun r156_8 m156_7 hw => ?_))))))))
    refine cl_if_eq hG 166 (hx_dq tdX12_single_2 24 rfl) rfl (fun c159 => ?_) (fun c159 => ?_)
    · replace hw := hw.1 c159
      refine cl_aload_n hG (hx_dq tdX12_single_2 27 rfl) rfl (cl_bipush hG 62 (hx_dq tdX12_single_2 28 rfl) bipush_62 (cl_callV1 (caX12_single_268 hc1 h5 cA) (hx_dq tdX12_single_2 29 rfl) (mF_S49 hF) (Nat.le_of_ble_eq_true rfl) (Nat.le_refl _) (Nat.le_refl _) (sX12_takesSign_mk hF hw (fun r169_10 m169_9 hw => ?_))))
      refine cl_if_eq hG 179 (hx_dq tdX12_single_2 30 rfl) rfl (fun c172 => ?_) (fun c172 => ?_)
      · replace hw := hw.1 c172
        refine cl_aload_n hG (hx_dq tdX12_single_3 1 rfl) rfl (cl_bipush hG 61 (hx_dq tdX12_single_3 2 rfl) bipush_61 (cl_callV1 (caX12_single_268 hc1 h5 cA) (hx_dq tdX12_single_3 3 rfl) (mF_S49 hF) (Nat.le_of_ble_eq_true rfl) (Nat.le_refl _) (Nat.le_refl _) (sX12_takesSign_mk hF hw (fun r182_12 m182_11 hw => ?_))))
        refine cl_if_eq hG 192 (hx_dq tdX12_single_3 4 rfl) rfl (fun c185 => ?_) (fun c185 => ?_)
        · replace hw := hw.1 c185
          refine cl_iconst hG (-1) (hx_dq tdX12_single_3 7 rfl) iconst_m1 ?_
          exact cl_sub hG (hx_le_c rfl (hx_le_c rfl (hx_le_n hx_le_0))) (kX12_single_J193 hG hc1 h5 cA hF r134_6 (-1) hK hw)
        · replace hw := hw.2 c185
          refine cl_iconst hG 2 (hx_dq tdX12_single_3 5 rfl) iconst_2 (cl_goto hG 193 (hx_dq tdX12_single_3 6 rfl) rfl ?_)
          exact cl_sub hG (hx_le_c rfl (hx_le_c rfl (hx_le_n hx_le_0))) (kX12_single_J193 hG hc1 h5 cA hF r134_6 2 hK hw)
      · replace hw := hw.2 c172
        refine cl_iconst hG 1 (hx_dq tdX12_single_2 31 rfl) iconst_1 (cl_goto hG 193 (hx_dq tdX12_single_3 0 rfl) rfl ?_)
        exact cl_sub hG (hx_le_c rfl (hx_le_c rfl (hx_le_n hx_le_0))) (kX12_single_J193 hG hc1 h5 cA hF r134_6 1 hK hw)
    · replace hw := hw.2 c159
      refine cl_iconst hG 0 (hx_dq tdX12_single_2 25 rfl) iconst_0 (cl_goto hG 193 (hx_dq tdX12_single_2 26 rfl) rfl ?_)
      exact cl_sub hG (hx_le_c rfl (hx_le_c rfl (hx_le_n hx_le_0))) (kX12_single_J193 hG hc1 h5 cA hF r134_6 0 hK hw)
  · replace hw := hw.2 c140
    exact cl_iconst hG 0 (hx_dq tdX12_single_2 15 rfl) iconst_0 (cl_iret hG (hx_dq tdX12_single_2 16 rfl) rfl rfl (hK _ _ hw) (Nat.le_refl _) (Nat.le_refl _))
def wX12_single (W1 : hx_M → (Int32 → hx_M → Prop) → Prop) (μ : hx_M)  (K : Int32 → hx_M → Prop) : Prop := wX12_word μ (fun r1_2 m1_1 => ((lg_cmp r1_2 (7237492 : Int64)) ≠ 0 → (((m1_1.1 49 24) ≤ (m1_1.1 49 25) → (wX12_single_J130 W1 K m1_1)) ∧ (¬ ((m1_1.1 49 24) ≤ (m1_1.1 49 25)) → (vp_in (m1_1.1 49 25) 700 ∧ (((m1_1.1 75 ((m1_1.1 49 25).toNatClampNeg))) ≠ 40 → (wX12_single_J130 W1 K m1_1)) ∧ (((m1_1.1 75 ((m1_1.1 49 25).toNatClampNeg))) = 40 → (wX12_opens m1_1 (fun r82_19 m82_18 => (r82_19 ≠ 0 → (wX12_any W1 (hx_sI m82_18 49 25 ((m82_18.1 49 25) + 1)) (fun r101_21 m101_20 => (r101_21 = 0 → (K 0 m101_20)) ∧ (¬ (r101_21 = 0) → (wX12_takesSign m101_20 41 (fun r110_23 m110_22 => (r110_23 ≠ 0 → (K 1 (hx_sI m110_22 49 26 ((m110_22.1 49 26) - 1)))) ∧ (r110_23 = 0 → (K 0 m110_22)))))))) ∧ (r82_19 = 0 → (K 0 m82_18))))))))) ∧ ((lg_cmp r1_2 (7237492 : Int64)) = 0 → (wX12_opens m1_1 (fun r12_25 m12_24 => (r12_25 ≠ 0 → (W1 (hx_sI m12_24 49 25 (m12_24.1 49 41)) (fun r29_27 m29_26 => (r29_27 ≠ 0 → (wX12_puts (hx_sI m29_26 49 26 ((m29_26.1 49 26) - 1)) 5 0 0 (fun m51_28 => K 1 m51_28))) ∧ (r29_27 = 0 → (K 0 m29_26))))) ∧ (r12_25 = 0 → (K 0 m12_24))))))
set_option maxRecDepth 100000 in
set_option maxHeartbeats 4000000 in
theorem kX12_single {G : hx_GT} {KK : hx_KT} {W1 : hx_M → (Int32 → hx_M → Prop) → Prop} {h1 : Nat} (hG : hx_K cX12_single 3 0 0 (some .boolean) TbX12 KK G) (hc1 : hx_Con yX12_single cX12_single 3 (some .boolean) h1 0 0 (sX12_single W1)) (h5 : 6 ≤ h1) (cA : hx_CA RX12 cX12_single (h1 + 3) 0 0 G) {Λ : hx_L} (hF : mF Λ) {μ : hx_M}  {K : Int32 → hx_M → Prop} (hK : ∀ (r : Int32) (m : hx_M), K r m → KK (some (.int r)) Λ m) (hw : wX12_single W1 μ K) : G Λ μ (0, 0) 0 [some (.ref 49), none, none] [] := by
  unfold wX12_single at hw
  refine cl_aload_n hG (hx_dq tdX12_single_0 0 rfl) rfl (cl_callV0 (caX12_single_200 hc1 h5 cA) (hx_dq tdX12_single_0 1 rfl) (mF_S49 hF) (Nat.le_of_ble_eq_true rfl) (Nat.le_refl _) (Nat.le_refl _) (sX12_word_mk hF hw (fun r1_2 m1_1 hw => ?_)))
  refine cl_ldc2 hG ciX12_260 (hx_dq tdX12_single_0 2 rfl) (cl_lcmp hG (hx_dq tdX12_single_0 3 rfl) (cl_if_ne hG 56 (hx_dq tdX12_single_0 4 rfl) rfl (fun c8 => ?_) (fun c8 => ?_)))
  · replace hw := hw.1 c8
    refine cl_aload_n hG (hx_dq tdX12_single_1 0 rfl) rfl (cl_getI hG fmX12_188 (hx_dq tdX12_single_1 1 rfl) (mF_S49 hF) (cl_aload_n hG (hx_dq tdX12_single_1 2 rfl) rfl (cl_getI hG fmX12_191 (hx_dq tdX12_single_1 3 rfl) (mF_S49 hF) (cl_icmp_ge hG 130 (hx_dq tdX12_single_1 4 rfl) rfl (fun c64 => ?_) (fun c64 => ?_)))))
    · replace hw := hw.1 c64
      exact cl_sub hG (hx_le_c rfl (hx_le_n (hx_le_n hx_le_0))) (kX12_single_J130 hG hc1 h5 cA hF hK hw)
    · replace hw := hw.2 c64
      obtain ⟨i75_17, hw⟩ := hw
      refine cl_aload_n hG (hx_dq tdX12_single_1 5 rfl) rfl (cl_getS hG fmX12_98 (hx_dq tdX12_single_1 6 rfl) (mF_S49 hF) (mF_R49_40 hF) (cl_aload_n hG (hx_dq tdX12_single_1 7 rfl) rfl (cl_getI hG fmX12_188 (hx_dq tdX12_single_1 8 rfl) (mF_S49 hF) (cl_bald hG (hx_dq tdX12_single_1 9 rfl) (mF_S75 hF) i75_17 (cl_bipush hG 40 (hx_dq tdX12_single_1 10 rfl) bipush_40 (cl_icmp_ne hG 130 (hx_dq tdX12_single_1 11 rfl) rfl (fun c78 => ?_) (fun c78 => ?_)))))))
      · replace hw := hw.1 c78
        exact cl_sub hG (hx_le_c rfl (hx_le_n (hx_le_n hx_le_0))) (kX12_single_J130 hG hc1 h5 cA hF hK hw)
      · replace hw := hw.2 c78
        refine cl_aload_n hG (hx_dq tdX12_single_1 12 rfl) rfl (cl_callV0 (caX12_single_262 hc1 h5 cA) (hx_dq tdX12_single_1 13 rfl) (mF_S49 hF) (Nat.le_of_ble_eq_true rfl) (Nat.le_refl _) (Nat.le_refl _) (sX12_opens_mk hF hw (fun r82_19 m82_18 hw => ?_)))
        refine cl_if_ne hG 90 (hx_dq tdX12_single_1 14 rfl) rfl (fun c85 => ?_) (fun c85 => ?_)
        · replace hw := hw.1 c85
          refine cl_aload_n hG (hx_dq tdX12_single_1 17 rfl) rfl (cl_dup hG (hx_dq tdX12_single_1 18 rfl) rfl (cl_getI hG fmX12_188 (hx_dq tdX12_single_1 19 rfl) (mF_S49 hF) (cl_iconst hG 1 (hx_dq tdX12_single_1 20 rfl) iconst_1 (cl_iadd hG (hx_dq tdX12_single_1 21 rfl) (cl_putI hG fmX12_188 (hx_dq tdX12_single_1 22 rfl) (mF_S49 hF) (cl_aload_n hG (hx_dq tdX12_single_1 23 rfl) rfl (cl_callV0 (caX12_single_265 hc1 h5 cA) (hx_dq tdX12_single_1 24 rfl) (mF_S49 hF) (Nat.le_of_ble_eq_true rfl) (Nat.le_refl _) (Nat.le_refl _) (sX12_any_mk hF hw (fun r101_21 m101_20 hw => ?_)))))))))
          refine cl_if_eq hG 116 (hx_dq tdX12_single_1 25 rfl) rfl (fun c104 => ?_) (fun c104 => ?_)
          · replace hw := hw.1 c104
            exact cl_iconst hG 0 (hx_dq tdX12_single_1 30 rfl) iconst_0 (cl_iret hG (hx_dq tdX12_single_1 31 rfl) rfl rfl (hK _ _ hw) (Nat.le_refl _) (Nat.le_refl _))
          · replace hw := hw.2 c104
            refine cl_aload_n hG (hx_dq tdX12_single_1 26 rfl) rfl (cl_bipush hG 41 (hx_dq tdX12_single_1 27 rfl) bipush_41 (cl_callV1 (caX12_single_268 hc1 h5 cA) (hx_dq tdX12_single_1 28 rfl) (mF_S49 hF) (Nat.le_of_ble_eq_true rfl) (Nat.le_refl _) (Nat.le_refl _) (sX12_takesSign_mk hF hw (fun r110_23 m110_22 hw => ?_))))
            refine cl_if_ne hG 118 (hx_dq tdX12_single_1 29 rfl) rfl (fun c113 => ?_) (fun c113 => ?_)
            · replace hw := hw.1 c113
              exact cl_aload_n hG (hx_dq tdX12_single_2 0 rfl) rfl (cl_dup hG (hx_dq tdX12_single_2 1 rfl) rfl (cl_getI hG fmX12_238 (hx_dq tdX12_single_2 2 rfl) (mF_S49 hF) (cl_iconst hG 1 (hx_dq tdX12_single_2 3 rfl) iconst_1 (cl_isub hG (hx_dq tdX12_single_2 4 rfl) (cl_putI hG fmX12_238 (hx_dq tdX12_single_2 5 rfl) (mF_S49 hF) (cl_iconst hG 1 (hx_dq tdX12_single_2 6 rfl) iconst_1 (cl_iret hG (hx_dq tdX12_single_2 7 rfl) rfl rfl (hK _ _ hw) (Nat.le_refl _) (Nat.le_refl _))))))))
            · replace hw := hw.2 c113
              exact cl_iconst hG 0 (hx_dq tdX12_single_1 30 rfl) iconst_0 (cl_iret hG (hx_dq tdX12_single_1 31 rfl) rfl rfl (hK _ _ hw) (Nat.le_refl _) (Nat.le_refl _))
        · replace hw := hw.2 c85
          exact cl_iconst hG 0 (hx_dq tdX12_single_1 15 rfl) iconst_0 (cl_iret hG (hx_dq tdX12_single_1 16 rfl) rfl rfl (hK _ _ hw) (Nat.le_refl _) (Nat.le_refl _))
  · replace hw := hw.2 c8
    refine cl_aload_n hG (hx_dq tdX12_single_0 5 rfl) rfl (cl_callV0 (caX12_single_262 hc1 h5 cA) (hx_dq tdX12_single_0 6 rfl) (mF_S49 hF) (Nat.le_of_ble_eq_true rfl) (Nat.le_refl _) (Nat.le_refl _) (sX12_opens_mk hF hw (fun r12_25 m12_24 hw => ?_)))
    refine cl_if_ne hG 20 (hx_dq tdX12_single_0 7 rfl) rfl (fun c15 => ?_) (fun c15 => ?_)
    · replace hw := hw.1 c15
      refine cl_aload_n hG (hx_dq tdX12_single_0 10 rfl) rfl (cl_aload_n hG (hx_dq tdX12_single_0 11 rfl) rfl (cl_getI hG fmX12_197 (hx_dq tdX12_single_0 12 rfl) (mF_S49 hF) (cl_putI hG fmX12_188 (hx_dq tdX12_single_0 13 rfl) (mF_S49 hF) (cl_aload_n hG (hx_dq tdX12_single_0 14 rfl) rfl (cl_callV0 (caX12_single_255 hc1 h5 cA) (hx_dq tdX12_single_0 15 rfl) (mF_S49 hF) (Nat.le_of_ble_eq_true rfl) (Nat.le_refl _) (Nat.le_refl _) (sX12_single_mk hF hw (fun r29_27 m29_26 hw => ?_)))))))
      refine cl_if_ne hG 37 (hx_dq tdX12_single_0 16 rfl) rfl (fun c32 => ?_) (fun c32 => ?_)
      · replace hw := hw.1 c32
        refine cl_aload_n hG (hx_dq tdX12_single_0 19 rfl) rfl (cl_dup hG (hx_dq tdX12_single_0 20 rfl) rfl (cl_getI hG fmX12_238 (hx_dq tdX12_single_0 21 rfl) (mF_S49 hF) (cl_iconst hG 1 (hx_dq tdX12_single_0 22 rfl) iconst_1 (cl_isub hG (hx_dq tdX12_single_0 23 rfl) (cl_putI hG fmX12_238 (hx_dq tdX12_single_0 24 rfl) (mF_S49 hF) (cl_aload_n hG (hx_dq tdX12_single_0 25 rfl) rfl (cl_iconst hG 5 (hx_dq tdX12_single_0 26 rfl) iconst_5 (cl_iconst hG 0 (hx_dq tdX12_single_0 27 rfl) iconst_0 (cl_iconst hG 0 (hx_dq tdX12_single_0 28 rfl) iconst_0 (cl_callV3 (caX12_single_251 hc1 h5 cA) (hx_dq tdX12_single_0 29 rfl) (mF_S49 hF) (Nat.le_of_ble_eq_true rfl) (Nat.le_refl _) (Nat.le_refl _) (sX12_puts_mk hF hw (fun m51_28 hw => ?_))))))))))))
        exact cl_iconst hG 1 (hx_dq tdX12_single_0 30 rfl) iconst_1 (cl_iret hG (hx_dq tdX12_single_0 31 rfl) rfl rfl (hK _ _ hw) (Nat.le_refl _) (Nat.le_refl _))
      · replace hw := hw.2 c32
        exact cl_iconst hG 0 (hx_dq tdX12_single_0 17 rfl) iconst_0 (cl_iret hG (hx_dq tdX12_single_0 18 rfl) rfl rfl (hK _ _ hw) (Nat.le_refl _) (Nat.le_refl _))
    · replace hw := hw.2 c15
      exact cl_iconst hG 0 (hx_dq tdX12_single_0 8 rfl) iconst_0 (cl_iret hG (hx_dq tdX12_single_0 9 rfl) rfl rfl (hK _ _ hw) (Nat.le_refl _) (Nat.le_refl _))
theorem conX12_single_step {W1 : hx_M → (Int32 → hx_M → Prop) → Prop} {h1 : Nat} (hc1 : hx_Con yX12_single cX12_single 3 (some .boolean) h1 0 0 (sX12_single W1)) (h5 : 6 ≤ h1) : hx_Con yX12_single cX12_single 3 (some .boolean) (h1 + 3) 0 0 (sX12_single (wX12_single W1)) := by
  refine hx_con_of (by decide +kernel) tokX12 (by omega) ?_ ?_
  · intro Λ μ as KK h
    obtain ⟨hF, K, rfl, hw, hK⟩ := h
    exact Nat.le_of_ble_eq_true rfl
  · intro G KK hG cA Λ μ as h
    obtain ⟨hF, K, rfl, hw, hK⟩ := h
    exact cl_sub hG (hx_le_c rfl (hx_le_n (hx_le_n hx_le_0))) (kX12_single hG hc1 h5 cA hF hK hw)
def wX12_single_d : Nat → hx_M → (Int32 → hx_M → Prop) → Prop
  | 0 => fun _ _ => False
  | d + 1 => wX12_single (wX12_single_d d)
theorem conX12_single : ∀ d : Nat, hx_Con yX12_single cX12_single 3 (some .boolean) (6 + 3 * d) 0 0 (sX12_single (wX12_single_d d))
  | 0 => by
    intro l dC dI cA ad Λ μ as sz K h
    obtain ⟨hF, K, rfl, hw, hK⟩ := h
    exact False.elim hw
  | d + 1 => conX12_single_step (h1 := 6 + 3 * d) (conX12_single d) (by omega)
/-! HemLineModel.whomTold(I)Z -/
def tbX12_whomTold_0 : List (Nat × Instr × Nat) := [(0, .aload_n 0, 1), (1, .getfield 69, 3), (4, .iload_n 1, 1), (5, .iconst 0, 1), (6, .iastore, 1), (7, .aload_n 0, 1), (8, .getfield 66, 3), (11, .iload_n 1, 1), (12, .aload_n 0, 1), (13, .invokevirtual 200, 3), (16, .invokestatic 215, 3), (19, .iastore, 1), (20, .aload_n 0, 1), (21, .getfield 66, 3), (24, .iload_n 1, 1), (25, .iaload, 1), (26, .iconst (-1), 1), (27, .if_icmp .eq 13, 3), (30, .aload_n 0, 1), (31, .aload_n 0, 1), (32, .getfield 197, 3), (35, .putfield 188, 3), (38, .iconst 1, 1), (39, .ireturn, 1), (40, .aload_n 0, 1), (41, .getfield 66, 3), (44, .iload_n 1, 1), (45, .aload_n 0, 1), (46, .ldc2_w 278, 3), (49, .invokevirtual 247, 3), (52, .ifCond .eq 7, 3), (55, .iconst 4, 1)]
def tbX12_whomTold_1 : List (Nat × Instr × Nat) := [(56, .goto 18, 3), (59, .aload_n 0, 1), (60, .ldc2_w 280, 3), (63, .invokevirtual 247, 3), (66, .ifCond .eq 7, 3), (69, .iconst 5, 1), (70, .goto 4, 3), (73, .iconst (-1), 1), (74, .iastore, 1), (75, .aload_n 0, 1), (76, .getfield 66, 3), (79, .iload_n 1, 1), (80, .iaload, 1), (81, .iconst (-1), 1), (82, .if_icmp .eq 35, 3), (85, .aload_n 0, 1), (86, .getfield 66, 3), (89, .iload_n 1, 1), (90, .iaload, 1), (91, .iconst 4, 1), (92, .if_icmp .ne 15, 3), (95, .aload_n 0, 1), (96, .iconst 0, 1), (97, .iconst 3, 1), (98, .invokevirtual 274, 3), (101, .ifCond .eq 16, 3), (104, .goto 15, 3), (107, .aload_n 0, 1), (108, .iconst 1, 1), (109, .bipush 99, 2), (111, .invokevirtual 274, 3), (114, .ifCond .ne 5, 3)]
def tbX12_whomTold_2 : List (Nat × Instr × Nat) := [(117, .iconst 0, 1), (118, .ireturn, 1), (119, .aload_n 0, 1), (120, .getfield 69, 3), (123, .iload_n 1, 1), (124, .aload_n 0, 1), (125, .getfield 204, 3), (128, .iastore, 1), (129, .iconst 1, 1), (130, .ireturn, 1)]
theorem tdX12_whomTold_0 : hx_dt cX12_whomTold tbX12_whomTold_0 = true := by decide +kernel
theorem tdX12_whomTold_1 : hx_dt cX12_whomTold tbX12_whomTold_1 = true := by decide +kernel
theorem tdX12_whomTold_2 : hx_dt cX12_whomTold tbX12_whomTold_2 = true := by decide +kernel
theorem caX12_whomTold_200 {G : hx_GT} (cA : hx_CA RX12 cX12_whomTold 4 0 0 G) : hx_CV cX12_whomTold G 0 0 200 12 0 sX12_word 0 0 := cA.1 conX12_word rfl rfl ⟨by decide +kernel, by decide +kernel, by decide +kernel⟩ mw_1396 mw_1398 mw_42 mw_97 mw_1399 (by decide) (by decide)
theorem caX12_whomTold_215 {G : hx_GT} (cA : hx_CA RX12 cX12_whomTold 4 0 0 G) : hx_CS cX12_whomTold G 0 0 215 1 sX12_mean 0 0 := cA.2.1 conX12_mean ⟨by decide +kernel, by decide +kernel, by decide +kernel⟩ mw_1406 mw_1407 mw_97 mw_1408 (by decide) (by decide)
theorem caX12_whomTold_247 {G : hx_GT} (cA : hx_CA RX12 cX12_whomTold 4 0 0 G) : hx_CV cX12_whomTold G 0 0 247 12 1 sX12_takes 0 0 := cA.1 conX12_takes rfl rfl ⟨by decide +kernel, by decide +kernel, by decide +kernel⟩ mw_1392 mw_1394 mw_41 mw_97 mw_1395 (by decide) (by decide)
theorem caX12_whomTold_274 {G : hx_GT} (cA : hx_CA RX12 cX12_whomTold 4 0 0 G) : hx_CV cX12_whomTold G 0 0 274 12 2 sX12_takesNumber 0 0 := cA.1 conX12_takesNumber rfl rfl ⟨by decide +kernel, by decide +kernel, by decide +kernel⟩ mw_1415 mw_1417 mw_44 mw_97 mw_1418 (by decide) (by decide)
def wX12_whomTold_J119  (K : Int32 → hx_M → Prop)  (v1 : Int32)  (μ : hx_M) : Prop := vp_in v1 96 ∧ K 1 (hx_sI μ 66 v1.toNatClampNeg (μ.1 49 42))
set_option maxRecDepth 100000 in
set_option maxHeartbeats 4000000 in
theorem kX12_whomTold_J119 {G : hx_GT} {KK : hx_KT} (hG : hx_K cX12_whomTold 2 0 0 (some .boolean) TbX12 KK G) (cA : hx_CA RX12 cX12_whomTold 4 0 0 G) {Λ : hx_L} (hF : mF Λ) {μ : hx_M} (v1 : Int32)  {K : Int32 → hx_M → Prop} (hK : ∀ (r : Int32) (m : hx_M), K r m → KK (some (.int r)) Λ m)  (hw : wX12_whomTold_J119 K v1 μ) : G Λ μ (0, 0) 119 [some (.ref 49), some (.int v1)] [] := by
  unfold wX12_whomTold_J119 at hw
  obtain ⟨i128_20, hw⟩ := hw
  exact cl_aload_n hG (hx_dq tdX12_whomTold_2 2 rfl) rfl (cl_getS hG fmX12_69 (hx_dq tdX12_whomTold_2 3 rfl) (mF_S49 hF) (mF_R49_31 hF) (cl_iload_n hG (hx_dq tdX12_whomTold_2 4 rfl) rfl (cl_aload_n hG (hx_dq tdX12_whomTold_2 5 rfl) rfl (cl_getI hG fmX12_204 (hx_dq tdX12_whomTold_2 6 rfl) (mF_S49 hF) (cl_iast hG (hx_dq tdX12_whomTold_2 7 rfl) (mF_S66 hF) i128_20 (cl_iconst hG 1 (hx_dq tdX12_whomTold_2 8 rfl) iconst_1 (cl_iret hG (hx_dq tdX12_whomTold_2 9 rfl) rfl rfl (hK _ _ hw) (Nat.le_refl _) (Nat.le_refl _))))))))
def wX12_whomTold_J74  (K : Int32 → hx_M → Prop)  (v1 : Int32) (t1 : Int32) (t2 : Int32) (μ : hx_M) : Prop := vp_in t1 96 ∧ vp_in v1 96 ∧ ∀ x_15 : Int32, x_15 = (((hx_sI μ 65 t1.toNatClampNeg t2).1 65 v1.toNatClampNeg)) → (x_15 = (-1) → (K 0 (hx_sI μ 65 t1.toNatClampNeg t2))) ∧ (¬ (x_15 = (-1)) → (vp_in v1 96 ∧ ∀ x_17 : Int32, x_17 = (((hx_sI μ 65 t1.toNatClampNeg t2).1 65 v1.toNatClampNeg)) → (x_17 ≠ 4 → (wX12_takesNumber (hx_sI μ 65 t1.toNatClampNeg t2) 1 99 (fun r111_19 m111_18 => (r111_19 ≠ 0 → (wX12_whomTold_J119 K v1 m111_18)) ∧ (r111_19 = 0 → (K 0 m111_18))))) ∧ (x_17 = 4 → (wX12_takesNumber (hx_sI μ 65 t1.toNatClampNeg t2) 0 3 (fun r98_22 m98_21 => (r98_22 = 0 → (K 0 m98_21)) ∧ (¬ (r98_22 = 0) → (wX12_whomTold_J119 K v1 m98_21)))))))
set_option maxRecDepth 100000 in
set_option maxHeartbeats 4000000 in
theorem kX12_whomTold_J74 {G : hx_GT} {KK : hx_KT} (hG : hx_K cX12_whomTold 2 0 0 (some .boolean) TbX12 KK G) (cA : hx_CA RX12 cX12_whomTold 4 0 0 G) {Λ : hx_L} (hF : mF Λ) {μ : hx_M} (v1 : Int32) (t1 : Int32) (t2 : Int32) {K : Int32 → hx_M → Prop} (hK : ∀ (r : Int32) (m : hx_M), K r m → KK (some (.int r)) Λ m)  (hw : wX12_whomTold_J74 K v1 t1 t2 μ) : G Λ μ (0, 0) 74 [some (.ref 49), some (.int v1)] [.int t2, .int t1, .ref 65] := by
  unfold wX12_whomTold_J74 at hw
  obtain ⟨i74_13, hw⟩ := hw
  obtain ⟨i80_14, hw⟩ := hw
  refine cl_iast hG (hx_dq tdX12_whomTold_1 8 rfl) (mF_S65 hF) i74_13 (cl_aload_n hG (hx_dq tdX12_whomTold_1 9 rfl) rfl (cl_getS hG fmX12_66 (hx_dq tdX12_whomTold_1 10 rfl) (mF_S49 hF) (mF_R49_30 hF) (cl_iload_n hG (hx_dq tdX12_whomTold_1 11 rfl) rfl (cl_iald hG (hx_dq tdX12_whomTold_1 12 rfl) (mF_S65 hF) i80_14 (cl_nmI (fun x_15 e_15 => ?_))))))
  replace hw := hw x_15 e_15
  refine cl_iconst hG (-1) (hx_dq tdX12_whomTold_1 13 rfl) iconst_m1 (cl_icmp_eq hG 117 (hx_dq tdX12_whomTold_1 14 rfl) rfl (fun c82 => ?_) (fun c82 => ?_))
  · replace hw := hw.1 c82
    exact cl_iconst hG 0 (hx_dq tdX12_whomTold_2 0 rfl) iconst_0 (cl_iret hG (hx_dq tdX12_whomTold_2 1 rfl) rfl rfl (hK _ _ hw) (Nat.le_refl _) (Nat.le_refl _))
  · replace hw := hw.2 c82
    obtain ⟨i90_16, hw⟩ := hw
    refine cl_aload_n hG (hx_dq tdX12_whomTold_1 15 rfl) rfl (cl_getS hG fmX12_66 (hx_dq tdX12_whomTold_1 16 rfl) (mF_S49 hF) (mF_R49_30 hF) (cl_iload_n hG (hx_dq tdX12_whomTold_1 17 rfl) rfl (cl_iald hG (hx_dq tdX12_whomTold_1 18 rfl) (mF_S65 hF) i90_16 (cl_nmI (fun x_17 e_17 => ?_)))))
    replace hw := hw x_17 e_17
    refine cl_iconst hG 4 (hx_dq tdX12_whomTold_1 19 rfl) iconst_4 (cl_icmp_ne hG 107 (hx_dq tdX12_whomTold_1 20 rfl) rfl (fun c92 => ?_) (fun c92 => ?_))
    · replace hw := hw.1 c92
      refine cl_aload_n hG (hx_dq tdX12_whomTold_1 27 rfl) rfl (cl_iconst hG 1 (hx_dq tdX12_whomTold_1 28 rfl) iconst_1 (cl_bipush hG 99 (hx_dq tdX12_whomTold_1 29 rfl) bipush_99 (cl_callV2 (caX12_whomTold_274 cA) (hx_dq tdX12_whomTold_1 30 rfl) (mF_S49 hF) (Nat.le_of_ble_eq_true rfl) (Nat.le_refl _) (Nat.le_refl _) (sX12_takesNumber_mk hF hw (fun r111_19 m111_18 hw => ?_)))))
      refine cl_if_ne hG 119 (hx_dq tdX12_whomTold_1 31 rfl) rfl (fun c114 => ?_) (fun c114 => ?_)
      · replace hw := hw.1 c114
        exact cl_sub hG (hx_le_c rfl (hx_le_c rfl hx_le_0)) (kX12_whomTold_J119 hG cA hF v1 hK hw)
      · replace hw := hw.2 c114
        exact cl_iconst hG 0 (hx_dq tdX12_whomTold_2 0 rfl) iconst_0 (cl_iret hG (hx_dq tdX12_whomTold_2 1 rfl) rfl rfl (hK _ _ hw) (Nat.le_refl _) (Nat.le_refl _))
    · replace hw := hw.2 c92
      refine cl_aload_n hG (hx_dq tdX12_whomTold_1 21 rfl) rfl (cl_iconst hG 0 (hx_dq tdX12_whomTold_1 22 rfl) iconst_0 (cl_iconst hG 3 (hx_dq tdX12_whomTold_1 23 rfl) iconst_3 (cl_callV2 (caX12_whomTold_274 cA) (hx_dq tdX12_whomTold_1 24 rfl) (mF_S49 hF) (Nat.le_of_ble_eq_true rfl) (Nat.le_refl _) (Nat.le_refl _) (sX12_takesNumber_mk hF hw (fun r98_22 m98_21 hw => ?_)))))
      refine cl_if_eq hG 117 (hx_dq tdX12_whomTold_1 25 rfl) rfl (fun c101 => ?_) (fun c101 => ?_)
      · replace hw := hw.1 c101
        exact cl_iconst hG 0 (hx_dq tdX12_whomTold_2 0 rfl) iconst_0 (cl_iret hG (hx_dq tdX12_whomTold_2 1 rfl) rfl rfl (hK _ _ hw) (Nat.le_refl _) (Nat.le_refl _))
      · replace hw := hw.2 c101
        refine cl_goto hG 119 (hx_dq tdX12_whomTold_1 26 rfl) rfl ?_
        exact cl_sub hG (hx_le_c rfl (hx_le_c rfl hx_le_0)) (kX12_whomTold_J119 hG cA hF v1 hK hw)
def wX12_whomTold (μ : hx_M) (v1 : Int32) (K : Int32 → hx_M → Prop) : Prop := vp_in v1 96 ∧ wX12_word (hx_sI μ 66 v1.toNatClampNeg 0) (fun r13_3 m13_2 => wX12_mean r13_3 (fun r16_5 => vp_in v1 96 ∧ vp_in v1 96 ∧ ∀ x_8 : Int32, x_8 = (((hx_sI m13_2 65 v1.toNatClampNeg r16_5).1 65 v1.toNatClampNeg)) → (x_8 = (-1) → (wX12_takes (hx_sI m13_2 65 v1.toNatClampNeg r16_5) (448546567013 : Int64) (fun r49_10 m49_9 => (r49_10 = 0 → (wX12_takes m49_9 (7302244 : Int64) (fun r63_12 m63_11 => (r63_12 = 0 → (wX12_whomTold_J74 K v1 v1 (-1) m63_11)) ∧ (¬ (r63_12 = 0) → (wX12_whomTold_J74 K v1 v1 5 m63_11))))) ∧ (¬ (r49_10 = 0) → (wX12_whomTold_J74 K v1 v1 4 m49_9))))) ∧ (¬ (x_8 = (-1)) → (K 1 (hx_sI (hx_sI m13_2 65 v1.toNatClampNeg r16_5) 49 25 (m13_2.1 49 41))))))
set_option maxRecDepth 100000 in
set_option maxHeartbeats 4000000 in
theorem kX12_whomTold {G : hx_GT} {KK : hx_KT} (hG : hx_K cX12_whomTold 2 0 0 (some .boolean) TbX12 KK G) (cA : hx_CA RX12 cX12_whomTold 4 0 0 G) {Λ : hx_L} (hF : mF Λ) {μ : hx_M} (v1 : Int32) {K : Int32 → hx_M → Prop} (hK : ∀ (r : Int32) (m : hx_M), K r m → KK (some (.int r)) Λ m) (hw : wX12_whomTold μ v1 K) : G Λ μ (0, 0) 0 [some (.ref 49), some (.int v1)] [] := by
  unfold wX12_whomTold at hw
  obtain ⟨i6_1, hw⟩ := hw
  refine cl_aload_n hG (hx_dq tdX12_whomTold_0 0 rfl) rfl (cl_getS hG fmX12_69 (hx_dq tdX12_whomTold_0 1 rfl) (mF_S49 hF) (mF_R49_31 hF) (cl_iload_n hG (hx_dq tdX12_whomTold_0 2 rfl) rfl (cl_iconst hG 0 (hx_dq tdX12_whomTold_0 3 rfl) iconst_0 (cl_iast hG (hx_dq tdX12_whomTold_0 4 rfl) (mF_S66 hF) i6_1 (cl_aload_n hG (hx_dq tdX12_whomTold_0 5 rfl) rfl (cl_getS hG fmX12_66 (hx_dq tdX12_whomTold_0 6 rfl) (mF_S49 hF) (mF_R49_30 hF) (cl_iload_n hG (hx_dq tdX12_whomTold_0 7 rfl) rfl (cl_aload_n hG (hx_dq tdX12_whomTold_0 8 rfl) rfl (cl_callV0 (caX12_whomTold_200 cA) (hx_dq tdX12_whomTold_0 9 rfl) (mF_S49 hF) (Nat.le_of_ble_eq_true rfl) (Nat.le_refl _) (Nat.le_refl _) (sX12_word_mk hF hw (fun r13_3 m13_2 hw => ?_)))))))))))
  refine cl_callS1 (caX12_whomTold_215 cA) (hx_dq tdX12_whomTold_0 10 rfl) (Nat.le_of_ble_eq_true rfl) (Nat.le_refl _) (Nat.le_refl _) (sX12_mean_mk hw (fun r16_5 hw => ?_))
  obtain ⟨i19_6, hw⟩ := hw
  obtain ⟨i25_7, hw⟩ := hw
  refine cl_iast hG (hx_dq tdX12_whomTold_0 11 rfl) (mF_S65 hF) i19_6 (cl_aload_n hG (hx_dq tdX12_whomTold_0 12 rfl) rfl (cl_getS hG fmX12_66 (hx_dq tdX12_whomTold_0 13 rfl) (mF_S49 hF) (mF_R49_30 hF) (cl_iload_n hG (hx_dq tdX12_whomTold_0 14 rfl) rfl (cl_iald hG (hx_dq tdX12_whomTold_0 15 rfl) (mF_S65 hF) i25_7 (cl_nmI (fun x_8 e_8 => ?_))))))
  replace hw := hw x_8 e_8
  refine cl_iconst hG (-1) (hx_dq tdX12_whomTold_0 16 rfl) iconst_m1 (cl_icmp_eq hG 40 (hx_dq tdX12_whomTold_0 17 rfl) rfl (fun c27 => ?_) (fun c27 => ?_))
  · replace hw := hw.1 c27
    refine cl_aload_n hG (hx_dq tdX12_whomTold_0 24 rfl) rfl (cl_getS hG fmX12_66 (hx_dq tdX12_whomTold_0 25 rfl) (mF_S49 hF) (mF_R49_30 hF) (cl_iload_n hG (hx_dq tdX12_whomTold_0 26 rfl) rfl (cl_aload_n hG (hx_dq tdX12_whomTold_0 27 rfl) rfl (cl_ldc2 hG ciX12_278 (hx_dq tdX12_whomTold_0 28 rfl) (cl_callV1 (caX12_whomTold_247 cA) (hx_dq tdX12_whomTold_0 29 rfl) (mF_S49 hF) (Nat.le_of_ble_eq_true rfl) (Nat.le_refl _) (Nat.le_refl _) (sX12_takes_mk hF hw (fun r49_10 m49_9 hw => ?_)))))))
    refine cl_if_eq hG 59 (hx_dq tdX12_whomTold_0 30 rfl) rfl (fun c52 => ?_) (fun c52 => ?_)
    · replace hw := hw.1 c52
      refine cl_aload_n hG (hx_dq tdX12_whomTold_1 1 rfl) rfl (cl_ldc2 hG ciX12_280 (hx_dq tdX12_whomTold_1 2 rfl) (cl_callV1 (caX12_whomTold_247 cA) (hx_dq tdX12_whomTold_1 3 rfl) (mF_S49 hF) (Nat.le_of_ble_eq_true rfl) (Nat.le_refl _) (Nat.le_refl _) (sX12_takes_mk hF hw (fun r63_12 m63_11 hw => ?_))))
      refine cl_if_eq hG 73 (hx_dq tdX12_whomTold_1 4 rfl) rfl (fun c66 => ?_) (fun c66 => ?_)
      · replace hw := hw.1 c66
        refine cl_iconst hG (-1) (hx_dq tdX12_whomTold_1 7 rfl) iconst_m1 ?_
        exact cl_sub hG (hx_le_c rfl (hx_le_c rfl hx_le_0)) (kX12_whomTold_J74 hG cA hF v1 v1 (-1) hK hw)
      · replace hw := hw.2 c66
        refine cl_iconst hG 5 (hx_dq tdX12_whomTold_1 5 rfl) iconst_5 (cl_goto hG 74 (hx_dq tdX12_whomTold_1 6 rfl) rfl ?_)
        exact cl_sub hG (hx_le_c rfl (hx_le_c rfl hx_le_0)) (kX12_whomTold_J74 hG cA hF v1 v1 5 hK hw)
    · replace hw := hw.2 c52
      refine cl_iconst hG 4 (hx_dq tdX12_whomTold_0 31 rfl) iconst_4 (cl_goto hG 74 (hx_dq tdX12_whomTold_1 0 rfl) rfl ?_)
      exact cl_sub hG (hx_le_c rfl (hx_le_c rfl hx_le_0)) (kX12_whomTold_J74 hG cA hF v1 v1 4 hK hw)
  · replace hw := hw.2 c27
    exact cl_aload_n hG (hx_dq tdX12_whomTold_0 18 rfl) rfl (cl_aload_n hG (hx_dq tdX12_whomTold_0 19 rfl) rfl (cl_getI hG fmX12_197 (hx_dq tdX12_whomTold_0 20 rfl) (mF_S49 hF) (cl_putI hG fmX12_188 (hx_dq tdX12_whomTold_0 21 rfl) (mF_S49 hF) (cl_iconst hG 1 (hx_dq tdX12_whomTold_0 22 rfl) iconst_1 (cl_iret hG (hx_dq tdX12_whomTold_0 23 rfl) rfl rfl (hK _ _ hw) (Nat.le_refl _) (Nat.le_refl _))))))
def sX12_whomTold : hx_ST := fun Λ μ as KK => mF Λ ∧ ∃ (v1 : Int32) (K : Int32 → hx_M → Prop), as = [.ref 49, .int v1] ∧ wX12_whomTold μ v1 K ∧ (∀ (r : Int32) (m : hx_M), K r m → KK (some (.int r)) Λ m)
theorem sX12_whomTold_mk {Λ : hx_L} {μ : hx_M} {KK : hx_KT} {v1 : Int32} {K : Int32 → hx_M → Prop} (hF : mF Λ) (hw : wX12_whomTold μ v1 K) (hk : ∀ (r : Int32) (m : hx_M), K r m → KK (some (.int r)) Λ m) : sX12_whomTold Λ μ [.ref 49, .int v1] KK := ⟨hF, _, _, rfl, hw, hk⟩
theorem conX12_whomTold : hx_Con yX12_whomTold cX12_whomTold 2 (some .boolean) 4 0 0 sX12_whomTold := by
  refine hx_con_of (by decide +kernel) tokX12 (by decide) ?_ ?_
  · intro Λ μ as KK h
    obtain ⟨hF, v1, K, rfl, hw, hK⟩ := h
    exact Nat.le_of_ble_eq_true rfl
  · intro G KK hG cA Λ μ as h
    obtain ⟨hF, v1, K, rfl, hw, hK⟩ := h
    exact cl_sub hG (hx_le_c rfl (hx_le_c rfl hx_le_0)) (kX12_whomTold hG cA hF _ hK hw)
/-! HemLineModel.rule(I)Z -/
def tbX12_rule_0 : List (Nat × Instr × Nat) := [(0, .aload_n 0, 1), (1, .getfield 63, 3), (4, .iload_n 1, 1), (5, .aload_n 0, 1), (6, .ldc2_w 282, 3), (9, .invokevirtual 247, 3), (12, .ifCond .eq 7, 3), (15, .iconst 0, 1), (16, .goto 32, 3), (19, .aload_n 0, 1), (20, .ldc2_w 284, 3), (23, .invokevirtual 247, 3), (26, .ifCond .eq 7, 3), (29, .iconst 1, 1), (30, .goto 18, 3), (33, .aload_n 0, 1), (34, .ldc2_w 286, 3), (37, .invokevirtual 247, 3), (40, .ifCond .eq 7, 3), (43, .iconst 2, 1), (44, .goto 4, 3), (47, .iconst (-1), 1), (48, .iastore, 1), (49, .aload_n 0, 1), (50, .getfield 63, 3), (53, .iload_n 1, 1), (54, .iaload, 1), (55, .iconst (-1), 1), (56, .if_icmp .ne 5, 3), (59, .iconst 0, 1), (60, .ireturn, 1), (61, .aload_n 0, 1)]
def tbX12_rule_1 : List (Nat × Instr × Nat) := [(62, .iconst 0, 1), (63, .putfield 238, 3), (66, .aload_n 0, 1), (67, .getfield 72, 3), (70, .iload_n 1, 1), (71, .iconst 0, 1), (72, .iastore, 1), (73, .aload_n 0, 1), (74, .getfield 63, 3), (77, .iload_n 1, 1), (78, .iaload, 1), (79, .iconst 2, 1), (80, .if_icmp .eq 33, 3), (83, .aload_n 0, 1), (84, .iload_n 1, 1), (85, .invokevirtual 288, 3), (88, .ifCond .eq 13, 3), (91, .aload_n 0, 1), (92, .iconst 0, 1), (93, .bipush 60, 2), (95, .invokevirtual 274, 3), (98, .ifCond .ne 5, 3), (101, .iconst 0, 1), (102, .ireturn, 1), (103, .aload_n 0, 1), (104, .getfield 72, 3), (107, .iload_n 1, 1), (108, .aload_n 0, 1), (109, .getfield 204, 3), (112, .iastore, 1), (113, .aload_n 0, 1), (114, .getfield 75, 3)]
def tbX12_rule_2 : List (Nat × Instr × Nat) := [(117, .iload_n 1, 1), (118, .aload_n 0, 1), (119, .getfield 235, 3), (122, .iastore, 1), (123, .aload_n 0, 1), (124, .ldc2_w 291, 3), (127, .invokevirtual 247, 3), (130, .ifCond .eq 12, 3), (133, .aload_n 0, 1), (134, .invokevirtual 265, 3), (137, .ifCond .ne 5, 3), (140, .iconst 0, 1), (141, .ireturn, 1), (142, .aload_n 0, 1), (143, .getfield 78, 3), (146, .iload_n 1, 1), (147, .aload_n 0, 1), (148, .getfield 235, 3), (151, .iastore, 1), (152, .aload_n 0, 1), (153, .bipush 59, 2), (155, .invokevirtual 268, 3), (158, .ireturn, 1)]
theorem tdX12_rule_0 : hx_dt cX12_rule tbX12_rule_0 = true := by decide +kernel
theorem tdX12_rule_1 : hx_dt cX12_rule tbX12_rule_1 = true := by decide +kernel
theorem tdX12_rule_2 : hx_dt cX12_rule tbX12_rule_2 = true := by decide +kernel
theorem caX12_rule_247 {G : hx_GT} (cA : hx_CA RX12 cX12_rule 45 0 0 G) : hx_CV cX12_rule G 0 0 247 12 1 sX12_takes 0 0 := cA.1 conX12_takes rfl rfl ⟨by decide +kernel, by decide +kernel, by decide +kernel⟩ mw_1392 mw_1394 mw_41 mw_97 mw_1395 (by decide) (by decide)
theorem caX12_rule_265 {G : hx_GT} (cA : hx_CA RX12 cX12_rule 45 0 0 G) : hx_CV cX12_rule G 0 0 265 12 0 (sX12_any (wX12_single_d 12)) 0 0 := cA.1 (conX12_any (conX12_single 12) (by decide)) rfl rfl ⟨by decide +kernel, by decide +kernel, by decide +kernel⟩ mw_1420 mw_1422 mw_45 mw_97 mw_1423 (by decide) (by decide)
theorem caX12_rule_268 {G : hx_GT} (cA : hx_CA RX12 cX12_rule 45 0 0 G) : hx_CV cX12_rule G 0 0 268 12 1 sX12_takesSign 0 0 := cA.1 conX12_takesSign rfl rfl ⟨by decide +kernel, by decide +kernel, by decide +kernel⟩ mw_1441 mw_1443 mw_50 mw_97 mw_1444 (by decide) (by decide)
theorem caX12_rule_274 {G : hx_GT} (cA : hx_CA RX12 cX12_rule 45 0 0 G) : hx_CV cX12_rule G 0 0 274 12 2 sX12_takesNumber 0 0 := cA.1 conX12_takesNumber rfl rfl ⟨by decide +kernel, by decide +kernel, by decide +kernel⟩ mw_1415 mw_1417 mw_44 mw_97 mw_1418 (by decide) (by decide)
theorem caX12_rule_288 {G : hx_GT} (cA : hx_CA RX12 cX12_rule 45 0 0 G) : hx_CV cX12_rule G 0 0 288 12 1 sX12_whomTold 0 0 := cA.1 conX12_whomTold rfl rfl ⟨by decide +kernel, by decide +kernel, by decide +kernel⟩ mw_1402 mw_1404 mw_43 mw_97 mw_1405 (by decide) (by decide)
def wX12_rule_J142  (K : Int32 → hx_M → Prop)  (v1 : Int32)  (μ : hx_M) : Prop := vp_in v1 96 ∧ wX12_takesSign (hx_sI μ 69 v1.toNatClampNeg (μ.1 49 22)) 59 (fun r155_18 m155_17 => (r155_18 = 0 ∨ r155_18 = 1) ∧ K r155_18 m155_17)
set_option maxRecDepth 100000 in
set_option maxHeartbeats 4000000 in
theorem kX12_rule_J142 {G : hx_GT} {KK : hx_KT} (hG : hx_K cX12_rule 2 0 0 (some .boolean) TbX12 KK G) (cA : hx_CA RX12 cX12_rule 45 0 0 G) {Λ : hx_L} (hF : mF Λ) {μ : hx_M} (v1 : Int32)  {K : Int32 → hx_M → Prop} (hK : ∀ (r : Int32) (m : hx_M), K r m → KK (some (.int r)) Λ m)  (hw : wX12_rule_J142 K v1 μ) : G Λ μ (0, 0) 142 [some (.ref 49), some (.int v1)] [] := by
  unfold wX12_rule_J142 at hw
  obtain ⟨i151_16, hw⟩ := hw
  refine cl_aload_n hG (hx_dq tdX12_rule_2 13 rfl) rfl (cl_getS hG fmX12_78 (hx_dq tdX12_rule_2 14 rfl) (mF_S49 hF) (mF_R49_34 hF) (cl_iload_n hG (hx_dq tdX12_rule_2 15 rfl) rfl (cl_aload_n hG (hx_dq tdX12_rule_2 16 rfl) rfl (cl_getI hG fmX12_235 (hx_dq tdX12_rule_2 17 rfl) (mF_S49 hF) (cl_iast hG (hx_dq tdX12_rule_2 18 rfl) (mF_S69 hF) i151_16 (cl_aload_n hG (hx_dq tdX12_rule_2 19 rfl) rfl (cl_bipush hG 59 (hx_dq tdX12_rule_2 20 rfl) bipush_59 (cl_callV1 (caX12_rule_268 cA) (hx_dq tdX12_rule_2 21 rfl) (mF_S49 hF) (Nat.le_of_ble_eq_true rfl) (Nat.le_refl _) (Nat.le_refl _) (sX12_takesSign_mk hF hw (fun r155_18 m155_17 hw => ?_))))))))))
  obtain ⟨b158, hw⟩ := hw
  exact cl_iret hG (hx_dq tdX12_rule_2 22 rfl) rfl (hx_nb b158) (hK _ _ hw) (Nat.le_refl _) (Nat.le_refl _)
def wX12_rule_J113  (K : Int32 → hx_M → Prop)  (v1 : Int32)  (μ : hx_M) : Prop := vp_in v1 96 ∧ wX12_takes (hx_sI μ 68 v1.toNatClampNeg (μ.1 49 22)) (26982 : Int64) (fun r127_15 m127_14 => (r127_15 = 0 → (wX12_rule_J142 K v1 m127_14)) ∧ (¬ (r127_15 = 0) → (wX12_any (wX12_single_d 12) m127_14 (fun r134_20 m134_19 => (r134_20 ≠ 0 → (wX12_rule_J142 K v1 m134_19)) ∧ (r134_20 = 0 → (K 0 m134_19))))))
set_option maxRecDepth 100000 in
set_option maxHeartbeats 4000000 in
theorem kX12_rule_J113 {G : hx_GT} {KK : hx_KT} (hG : hx_K cX12_rule 2 0 0 (some .boolean) TbX12 KK G) (cA : hx_CA RX12 cX12_rule 45 0 0 G) {Λ : hx_L} (hF : mF Λ) {μ : hx_M} (v1 : Int32)  {K : Int32 → hx_M → Prop} (hK : ∀ (r : Int32) (m : hx_M), K r m → KK (some (.int r)) Λ m)  (hw : wX12_rule_J113 K v1 μ) : G Λ μ (0, 0) 113 [some (.ref 49), some (.int v1)] [] := by
  unfold wX12_rule_J113 at hw
  obtain ⟨i122_13, hw⟩ := hw
  refine cl_aload_n hG (hx_dq tdX12_rule_1 30 rfl) rfl (cl_getS hG fmX12_75 (hx_dq tdX12_rule_1 31 rfl) (mF_S49 hF) (mF_R49_33 hF) (cl_iload_n hG (hx_dq tdX12_rule_2 0 rfl) rfl (cl_aload_n hG (hx_dq tdX12_rule_2 1 rfl) rfl (cl_getI hG fmX12_235 (hx_dq tdX12_rule_2 2 rfl) (mF_S49 hF) (cl_iast hG (hx_dq tdX12_rule_2 3 rfl) (mF_S68 hF) i122_13 (cl_aload_n hG (hx_dq tdX12_rule_2 4 rfl) rfl (cl_ldc2 hG ciX12_291 (hx_dq tdX12_rule_2 5 rfl) (cl_callV1 (caX12_rule_247 cA) (hx_dq tdX12_rule_2 6 rfl) (mF_S49 hF) (Nat.le_of_ble_eq_true rfl) (Nat.le_refl _) (Nat.le_refl _) (sX12_takes_mk hF hw (fun r127_15 m127_14 hw => ?_))))))))))
  refine cl_if_eq hG 142 (hx_dq tdX12_rule_2 7 rfl) rfl (fun c130 => ?_) (fun c130 => ?_)
  · replace hw := hw.1 c130
    exact cl_sub hG (hx_le_c rfl (hx_le_c rfl hx_le_0)) (kX12_rule_J142 hG cA hF v1 hK hw)
  · replace hw := hw.2 c130
    refine cl_aload_n hG (hx_dq tdX12_rule_2 8 rfl) rfl (cl_callV0 (caX12_rule_265 cA) (hx_dq tdX12_rule_2 9 rfl) (mF_S49 hF) (Nat.le_of_ble_eq_true rfl) (Nat.le_refl _) (Nat.le_refl _) (sX12_any_mk hF hw (fun r134_20 m134_19 hw => ?_)))
    refine cl_if_ne hG 142 (hx_dq tdX12_rule_2 10 rfl) rfl (fun c137 => ?_) (fun c137 => ?_)
    · replace hw := hw.1 c137
      exact cl_sub hG (hx_le_c rfl (hx_le_c rfl hx_le_0)) (kX12_rule_J142 hG cA hF v1 hK hw)
    · replace hw := hw.2 c137
      exact cl_iconst hG 0 (hx_dq tdX12_rule_2 11 rfl) iconst_0 (cl_iret hG (hx_dq tdX12_rule_2 12 rfl) rfl rfl (hK _ _ hw) (Nat.le_refl _) (Nat.le_refl _))
def wX12_rule_J48  (K : Int32 → hx_M → Prop)  (v1 : Int32) (t1 : Int32) (t2 : Int32) (μ : hx_M) : Prop := vp_in t1 96 ∧ vp_in v1 96 ∧ ∀ x_9 : Int32, x_9 = (((hx_sI μ 64 t1.toNatClampNeg t2).1 64 v1.toNatClampNeg)) → (x_9 ≠ (-1) → (vp_in v1 96 ∧ vp_in v1 96 ∧ ∀ x_12 : Int32, x_12 = (((hx_sI μ 64 t1.toNatClampNeg t2).1 64 v1.toNatClampNeg)) → (x_12 = 2 → (wX12_rule_J113 K v1 (hx_sI (hx_sI (hx_sI μ 64 t1.toNatClampNeg t2) 49 26 0) 67 v1.toNatClampNeg 0))) ∧ (¬ (x_12 = 2) → (wX12_whomTold (hx_sI (hx_sI (hx_sI μ 64 t1.toNatClampNeg t2) 49 26 0) 67 v1.toNatClampNeg 0) v1 (fun r85_22 m85_21 => (r85_22 = 0 → (K 0 m85_21)) ∧ (¬ (r85_22 = 0) → (wX12_takesNumber m85_21 0 60 (fun r95_24 m95_23 => (r95_24 ≠ 0 → (vp_in v1 96 ∧ wX12_rule_J113 K v1 (hx_sI m95_23 67 v1.toNatClampNeg (m95_23.1 49 42)))) ∧ (r95_24 = 0 → (K 0 m95_23)))))))))) ∧ (x_9 = (-1) → (K 0 (hx_sI μ 64 t1.toNatClampNeg t2)))
set_option maxRecDepth 100000 in
set_option maxHeartbeats 4000000 in
theorem kX12_rule_J48 {G : hx_GT} {KK : hx_KT} (hG : hx_K cX12_rule 2 0 0 (some .boolean) TbX12 KK G) (cA : hx_CA RX12 cX12_rule 45 0 0 G) {Λ : hx_L} (hF : mF Λ) {μ : hx_M} (v1 : Int32) (t1 : Int32) (t2 : Int32) {K : Int32 → hx_M → Prop} (hK : ∀ (r : Int32) (m : hx_M), K r m → KK (some (.int r)) Λ m)  (hw : wX12_rule_J48 K v1 t1 t2 μ) : G Λ μ (0, 0) 48 [some (.ref 49), some (.int v1)] [.int t2, .int t1, .ref 64] := by
  unfold wX12_rule_J48 at hw
  obtain ⟨i48_7, hw⟩ := hw
  obtain ⟨i54_8, hw⟩ := hw
  refine cl_iast hG (hx_dq tdX12_rule_0 22 rfl) (mF_S64 hF) i48_7 (cl_aload_n hG (hx_dq tdX12_rule_0 23 rfl) rfl (cl_getS hG fmX12_63 (hx_dq tdX12_rule_0 24 rfl) (mF_S49 hF) (mF_R49_29 hF) (cl_iload_n hG (hx_dq tdX12_rule_0 25 rfl) rfl (cl_iald hG (hx_dq tdX12_rule_0 26 rfl) (mF_S64 hF) i54_8 (cl_nmI (fun x_9 e_9 => ?_))))))
  replace hw := hw x_9 e_9
  refine cl_iconst hG (-1) (hx_dq tdX12_rule_0 27 rfl) iconst_m1 (cl_icmp_ne hG 61 (hx_dq tdX12_rule_0 28 rfl) rfl (fun c56 => ?_) (fun c56 => ?_))
  · replace hw := hw.1 c56
    obtain ⟨i72_10, hw⟩ := hw
    obtain ⟨i78_11, hw⟩ := hw
    refine cl_aload_n hG (hx_dq tdX12_rule_0 31 rfl) rfl (cl_iconst hG 0 (hx_dq tdX12_rule_1 0 rfl) iconst_0 (cl_putI hG fmX12_238 (hx_dq tdX12_rule_1 1 rfl) (mF_S49 hF) (cl_aload_n hG (hx_dq tdX12_rule_1 2 rfl) rfl (cl_getS hG fmX12_72 (hx_dq tdX12_rule_1 3 rfl) (mF_S49 hF) (mF_R49_32 hF) (cl_iload_n hG (hx_dq tdX12_rule_1 4 rfl) rfl (cl_iconst hG 0 (hx_dq tdX12_rule_1 5 rfl) iconst_0 (cl_iast hG (hx_dq tdX12_rule_1 6 rfl) (mF_S67 hF) i72_10 (cl_aload_n hG (hx_dq tdX12_rule_1 7 rfl) rfl (cl_getS hG fmX12_63 (hx_dq tdX12_rule_1 8 rfl) (mF_S49 hF) (mF_R49_29 hF) (cl_iload_n hG (hx_dq tdX12_rule_1 9 rfl) rfl (cl_iald hG (hx_dq tdX12_rule_1 10 rfl) (mF_S64 hF) i78_11 (cl_nmI (fun x_12 e_12 => ?_)))))))))))))
    replace hw := hw x_12 e_12
    refine cl_iconst hG 2 (hx_dq tdX12_rule_1 11 rfl) iconst_2 (cl_icmp_eq hG 113 (hx_dq tdX12_rule_1 12 rfl) rfl (fun c80 => ?_) (fun c80 => ?_))
    · replace hw := hw.1 c80
      exact cl_sub hG (hx_le_c rfl (hx_le_c rfl hx_le_0)) (kX12_rule_J113 hG cA hF v1 hK hw)
    · replace hw := hw.2 c80
      refine cl_aload_n hG (hx_dq tdX12_rule_1 13 rfl) rfl (cl_iload_n hG (hx_dq tdX12_rule_1 14 rfl) rfl (cl_callV1 (caX12_rule_288 cA) (hx_dq tdX12_rule_1 15 rfl) (mF_S49 hF) (Nat.le_of_ble_eq_true rfl) (Nat.le_refl _) (Nat.le_refl _) (sX12_whomTold_mk hF hw (fun r85_22 m85_21 hw => ?_))))
      refine cl_if_eq hG 101 (hx_dq tdX12_rule_1 16 rfl) rfl (fun c88 => ?_) (fun c88 => ?_)
      · replace hw := hw.1 c88
        exact cl_iconst hG 0 (hx_dq tdX12_rule_1 22 rfl) iconst_0 (cl_iret hG (hx_dq tdX12_rule_1 23 rfl) rfl rfl (hK _ _ hw) (Nat.le_refl _) (Nat.le_refl _))
      · replace hw := hw.2 c88
        refine cl_aload_n hG (hx_dq tdX12_rule_1 17 rfl) rfl (cl_iconst hG 0 (hx_dq tdX12_rule_1 18 rfl) iconst_0 (cl_bipush hG 60 (hx_dq tdX12_rule_1 19 rfl) bipush_60 (cl_callV2 (caX12_rule_274 cA) (hx_dq tdX12_rule_1 20 rfl) (mF_S49 hF) (Nat.le_of_ble_eq_true rfl) (Nat.le_refl _) (Nat.le_refl _) (sX12_takesNumber_mk hF hw (fun r95_24 m95_23 hw => ?_)))))
        refine cl_if_ne hG 103 (hx_dq tdX12_rule_1 21 rfl) rfl (fun c98 => ?_) (fun c98 => ?_)
        · replace hw := hw.1 c98
          obtain ⟨i112_25, hw⟩ := hw
          refine cl_aload_n hG (hx_dq tdX12_rule_1 24 rfl) rfl (cl_getS hG fmX12_72 (hx_dq tdX12_rule_1 25 rfl) (mF_S49 hF) (mF_R49_32 hF) (cl_iload_n hG (hx_dq tdX12_rule_1 26 rfl) rfl (cl_aload_n hG (hx_dq tdX12_rule_1 27 rfl) rfl (cl_getI hG fmX12_204 (hx_dq tdX12_rule_1 28 rfl) (mF_S49 hF) (cl_iast hG (hx_dq tdX12_rule_1 29 rfl) (mF_S67 hF) i112_25 ?_)))))
          exact cl_sub hG (hx_le_c rfl (hx_le_c rfl hx_le_0)) (kX12_rule_J113 hG cA hF v1 hK hw)
        · replace hw := hw.2 c98
          exact cl_iconst hG 0 (hx_dq tdX12_rule_1 22 rfl) iconst_0 (cl_iret hG (hx_dq tdX12_rule_1 23 rfl) rfl rfl (hK _ _ hw) (Nat.le_refl _) (Nat.le_refl _))
  · replace hw := hw.2 c56
    exact cl_iconst hG 0 (hx_dq tdX12_rule_0 29 rfl) iconst_0 (cl_iret hG (hx_dq tdX12_rule_0 30 rfl) rfl rfl (hK _ _ hw) (Nat.le_refl _) (Nat.le_refl _))
def wX12_rule (μ : hx_M) (v1 : Int32) (K : Int32 → hx_M → Prop) : Prop := wX12_takes μ (29807 : Int64) (fun r9_2 m9_1 => (r9_2 = 0 → (wX12_takes m9_1 (1718775661 : Int64) (fun r23_4 m23_3 => (r23_4 = 0 → (wX12_takes m23_3 (1937006969 : Int64) (fun r37_6 m37_5 => (r37_6 = 0 → (wX12_rule_J48 K v1 v1 (-1) m37_5)) ∧ (¬ (r37_6 = 0) → (wX12_rule_J48 K v1 v1 2 m37_5))))) ∧ (¬ (r23_4 = 0) → (wX12_rule_J48 K v1 v1 1 m23_3))))) ∧ (¬ (r9_2 = 0) → (wX12_rule_J48 K v1 v1 0 m9_1)))
set_option maxRecDepth 100000 in
set_option maxHeartbeats 4000000 in
theorem kX12_rule {G : hx_GT} {KK : hx_KT} (hG : hx_K cX12_rule 2 0 0 (some .boolean) TbX12 KK G) (cA : hx_CA RX12 cX12_rule 45 0 0 G) {Λ : hx_L} (hF : mF Λ) {μ : hx_M} (v1 : Int32) {K : Int32 → hx_M → Prop} (hK : ∀ (r : Int32) (m : hx_M), K r m → KK (some (.int r)) Λ m) (hw : wX12_rule μ v1 K) : G Λ μ (0, 0) 0 [some (.ref 49), some (.int v1)] [] := by
  unfold wX12_rule at hw
  refine cl_aload_n hG (hx_dq tdX12_rule_0 0 rfl) rfl (cl_getS hG fmX12_63 (hx_dq tdX12_rule_0 1 rfl) (mF_S49 hF) (mF_R49_29 hF) (cl_iload_n hG (hx_dq tdX12_rule_0 2 rfl) rfl (cl_aload_n hG (hx_dq tdX12_rule_0 3 rfl) rfl (cl_ldc2 hG ciX12_282 (hx_dq tdX12_rule_0 4 rfl) (cl_callV1 (caX12_rule_247 cA) (hx_dq tdX12_rule_0 5 rfl) (mF_S49 hF) (Nat.le_of_ble_eq_true rfl) (Nat.le_refl _) (Nat.le_refl _) (sX12_takes_mk hF hw (fun r9_2 m9_1 hw => ?_)))))))
  refine cl_if_eq hG 19 (hx_dq tdX12_rule_0 6 rfl) rfl (fun c12 => ?_) (fun c12 => ?_)
  · replace hw := hw.1 c12
    refine cl_aload_n hG (hx_dq tdX12_rule_0 9 rfl) rfl (cl_ldc2 hG ciX12_284 (hx_dq tdX12_rule_0 10 rfl) (cl_callV1 (caX12_rule_247 cA) (hx_dq tdX12_rule_0 11 rfl) (mF_S49 hF) (Nat.le_of_ble_eq_true rfl) (Nat.le_refl _) (Nat.le_refl _) (sX12_takes_mk hF hw (fun r23_4 m23_3 hw => ?_))))
    refine cl_if_eq hG 33 (hx_dq tdX12_rule_0 12 rfl) rfl (fun c26 => ?_) (fun c26 => ?_)
    · replace hw := hw.1 c26
      refine cl_aload_n hG (hx_dq tdX12_rule_0 15 rfl) rfl (cl_ldc2 hG ciX12_286 (hx_dq tdX12_rule_0 16 rfl) (cl_callV1 (caX12_rule_247 cA) (hx_dq tdX12_rule_0 17 rfl) (mF_S49 hF) (Nat.le_of_ble_eq_true rfl) (Nat.le_refl _) (Nat.le_refl _) (sX12_takes_mk hF hw (fun r37_6 m37_5 hw => ?_))))
      refine cl_if_eq hG 47 (hx_dq tdX12_rule_0 18 rfl) rfl (fun c40 => ?_) (fun c40 => ?_)
      · replace hw := hw.1 c40
        refine cl_iconst hG (-1) (hx_dq tdX12_rule_0 21 rfl) iconst_m1 ?_
        exact cl_sub hG (hx_le_c rfl (hx_le_c rfl hx_le_0)) (kX12_rule_J48 hG cA hF v1 v1 (-1) hK hw)
      · replace hw := hw.2 c40
        refine cl_iconst hG 2 (hx_dq tdX12_rule_0 19 rfl) iconst_2 (cl_goto hG 48 (hx_dq tdX12_rule_0 20 rfl) rfl ?_)
        exact cl_sub hG (hx_le_c rfl (hx_le_c rfl hx_le_0)) (kX12_rule_J48 hG cA hF v1 v1 2 hK hw)
    · replace hw := hw.2 c26
      refine cl_iconst hG 1 (hx_dq tdX12_rule_0 13 rfl) iconst_1 (cl_goto hG 48 (hx_dq tdX12_rule_0 14 rfl) rfl ?_)
      exact cl_sub hG (hx_le_c rfl (hx_le_c rfl hx_le_0)) (kX12_rule_J48 hG cA hF v1 v1 1 hK hw)
  · replace hw := hw.2 c12
    refine cl_iconst hG 0 (hx_dq tdX12_rule_0 7 rfl) iconst_0 (cl_goto hG 48 (hx_dq tdX12_rule_0 8 rfl) rfl ?_)
    exact cl_sub hG (hx_le_c rfl (hx_le_c rfl hx_le_0)) (kX12_rule_J48 hG cA hF v1 v1 0 hK hw)
def sX12_rule : hx_ST := fun Λ μ as KK => mF Λ ∧ ∃ (v1 : Int32) (K : Int32 → hx_M → Prop), as = [.ref 49, .int v1] ∧ wX12_rule μ v1 K ∧ (∀ (r : Int32) (m : hx_M), K r m → KK (some (.int r)) Λ m)
theorem sX12_rule_mk {Λ : hx_L} {μ : hx_M} {KK : hx_KT} {v1 : Int32} {K : Int32 → hx_M → Prop} (hF : mF Λ) (hw : wX12_rule μ v1 K) (hk : ∀ (r : Int32) (m : hx_M), K r m → KK (some (.int r)) Λ m) : sX12_rule Λ μ [.ref 49, .int v1] KK := ⟨hF, _, _, rfl, hw, hk⟩
theorem conX12_rule : hx_Con yX12_rule cX12_rule 2 (some .boolean) 45 0 0 sX12_rule := by
  refine hx_con_of (by decide +kernel) tokX12 (by decide) ?_ ?_
  · intro Λ μ as KK h
    obtain ⟨hF, v1, K, rfl, hw, hK⟩ := h
    exact Nat.le_of_ble_eq_true rfl
  · intro G KK hG cA Λ μ as h
    obtain ⟨hF, v1, K, rfl, hw, hK⟩ := h
    exact cl_sub hG (hx_le_c rfl (hx_le_c rfl hx_le_0)) (kX12_rule hG cA hF _ hK hw)
/-! HemLineModel.law(I)I -/
def tbX12_law_0 : List (Nat × Instr × Nat) := [(0, .iload_n 1, 1), (1, .iconst 0, 1), (2, .aload_n 0, 1), (3, .getfield 181, 3), (6, .invokestatic 157, 3), (9, .ifCond .ne 6, 3), (12, .bipush (-2), 2), (14, .ireturn, 1), (15, .aload_n 0, 1), (16, .getfield 293, 3), (19, .iconst 5, 1), (20, .if_icmp .ne 6, 3), (23, .bipush (-3), 2), (25, .ireturn, 1), (26, .iconst 0, 1), (27, .istore_n 2, 1), (28, .iload_n 2, 1), (29, .iload_n 1, 1), (30, .if_icmp .ge 21, 3), (33, .aload_n 0, 1), (34, .getfield 98, 3), (37, .iload_n 2, 1), (38, .aload_n 0, 1), (39, .getfield 94, 3), (42, .iload_n 2, 1), (43, .baload, 1), (44, .bastore, 1), (45, .iinc 2 1, 3), (48, .goto (-20), 3), (51, .aload_n 0, 1), (52, .iload_n 1, 1), (53, .putfield 191, 3)]
def tbX12_law_1 : List (Nat × Instr × Nat) := [(56, .aload_n 0, 1), (57, .iconst 0, 1), (58, .putfield 181, 3), (61, .aload_n 0, 1), (62, .iconst 0, 1), (63, .putfield 188, 3), (66, .aload_n 0, 1), (67, .getfield 235, 3), (70, .istore_n 2, 1), (71, .aload_n 0, 1), (72, .getfield 60, 3), (75, .aload_n 0, 1), (76, .getfield 293, 3), (79, .iconst 0, 1), (80, .iastore, 1), (81, .iconst 1, 1), (82, .istore_n 3, 1), (83, .aload_n 0, 1), (84, .invokevirtual 194, 3), (87, .iload_n 3, 1), (88, .ifCond .eq 85, 3), (91, .aload_n 0, 1), (92, .getfield 188, 3), (95, .aload_n 0, 1), (96, .getfield 191, 3), (99, .if_icmp .ge 74, 3), (102, .aload_n 0, 1), (103, .getfield 60, 3), (106, .aload_n 0, 1), (107, .getfield 293, 3), (110, .iaload, 1), (111, .bipush 16, 2)]
def tbX12_law_2 : List (Nat × Instr × Nat) := [(113, .if_icmp .ge 31, 3), (116, .aload_n 0, 1), (117, .bipush 16, 2), (119, .aload_n 0, 1), (120, .getfield 293, 3), (123, .imul, 1), (124, .aload_n 0, 1), (125, .getfield 60, 3), (128, .aload_n 0, 1), (129, .getfield 293, 3), (132, .iaload, 1), (133, .iadd, 1), (134, .invokevirtual 296, 3), (137, .ifCond .eq 7, 3), (140, .iconst 1, 1), (141, .goto 4, 3), (144, .iconst 0, 1), (145, .istore_n 3, 1), (146, .iload_n 3, 1), (147, .ifCond .ne 6, 3), (150, .goto (-63), 3), (153, .aload_n 0, 1), (154, .getfield 60, 3), (157, .aload_n 0, 1), (158, .getfield 293, 3), (161, .dup2, 1), (162, .iaload, 1), (163, .iconst 1, 1), (164, .iadd, 1), (165, .iastore, 1), (166, .aload_n 0, 1), (167, .invokevirtual 194, 3)]
def tbX12_law_3 : List (Nat × Instr × Nat) := [(170, .goto (-83), 3), (173, .aload_n 0, 1), (174, .iload_n 3, 1), (175, .ifCond .eq 7, 3), (178, .iconst (-1), 1), (179, .goto 7, 3), (182, .aload_n 0, 1), (183, .getfield 188, 3), (186, .putfield 57, 3), (189, .iload_n 3, 1), (190, .ifCond .ne 10, 3), (193, .aload_n 0, 1), (194, .iload_n 2, 1), (195, .putfield 235, 3), (198, .iconst (-1), 1), (199, .ireturn, 1), (200, .aload_n 0, 1), (201, .aload_n 0, 1), (202, .getfield 293, 3), (205, .putfield 53, 3), (208, .aload_n 0, 1), (209, .dup, 1), (210, .getfield 293, 3), (213, .iconst 1, 1), (214, .iadd, 1), (215, .putfield 293, 3), (218, .aload_n 0, 1), (219, .getfield 53, 3), (222, .ireturn, 1)]
theorem tdX12_law_0 : hx_dt cX12_law tbX12_law_0 = true := by decide +kernel
theorem tdX12_law_1 : hx_dt cX12_law tbX12_law_1 = true := by decide +kernel
theorem tdX12_law_2 : hx_dt cX12_law tbX12_law_2 = true := by decide +kernel
theorem tdX12_law_3 : hx_dt cX12_law tbX12_law_3 = true := by decide +kernel
theorem caX12_law_157 {G : hx_GT} (cA : hx_CA RX12 cX12_law 46 0 0 G) : hx_CS cX12_law G 0 0 157 3 sX12_isIn 0 0 := cA.2.1 conX12_isIn ⟨by decide +kernel, by decide +kernel, by decide +kernel⟩ mw_1343 mw_1344 mw_97 mw_1345 (by decide) (by decide)
theorem caX12_law_194 {G : hx_GT} (cA : hx_CA RX12 cX12_law 46 0 0 G) : hx_CV cX12_law G 0 0 194 12 0 sX12_blanks 0 0 := cA.1 conX12_blanks rfl rfl ⟨by decide +kernel, by decide +kernel, by decide +kernel⟩ mw_1383 mw_1385 mw_39 mw_97 mw_1386 (by decide) (by decide)
theorem caX12_law_296 {G : hx_GT} (cA : hx_CA RX12 cX12_law 46 0 0 G) : hx_CV cX12_law G 0 0 296 12 1 sX12_rule 0 0 := cA.1 conX12_rule rfl rfl ⟨by decide +kernel, by decide +kernel, by decide +kernel⟩ mw_1387 mw_1389 mw_40 mw_97 mw_1390 (by decide) (by decide)
def wX12_law_L28 (v1 : Int32) (K : Int32 → hx_M → Prop) (K51 : hx_M → Prop) : Nat → Int32 → hx_M → Prop
  | 0, _, _ => False
  | n + 1, v2, μ => (v1 ≤ v2 → (K51 μ)) ∧ (¬ (v1 ≤ v2) → (vp_in v2 700 ∧ vp_in v2 700 ∧ wX12_law_L28 v1 K K51 n (v2 + 1) (hx_sI μ 75 v2.toNatClampNeg (vp_nar .byte (μ.1 74 v2.toNatClampNeg)))))
set_option maxRecDepth 100000 in
set_option maxHeartbeats 4000000 in
theorem kX12_law_L28 {G : hx_GT} {KK : hx_KT} (hG : hx_K cX12_law 4 0 0 (some .int) TbX12 KK G) (cA : hx_CA RX12 cX12_law 46 0 0 G) {Λ : hx_L} (hF : mF Λ)  (v1 : Int32) {K : Int32 → hx_M → Prop} (hK : ∀ (r : Int32) (m : hx_M), K r m → KK (some (.int r)) Λ m) {K51 : hx_M → Prop} (hk51 : ∀ (μ : hx_M), K51 μ → G Λ μ (0, 0) 51 [some (.ref 49), some (.int v1), none, none] []) : ∀ (n : Nat) (v2 : Int32) (μ : hx_M), wX12_law_L28 v1 K K51 n v2 μ → G Λ μ (0, 0) 28 [some (.ref 49), some (.int v1), some (.int v2), none] [] := by
  intro n
  induction n with
  | zero =>
    intro v2 μ hw
    exact False.elim (by simpa only [wX12_law_L28] using hw)
  | succ n ih =>
    intro v2 μ hw
    unfold wX12_law_L28 at hw
    refine cl_iload_n hG (hx_dq tdX12_law_0 16 rfl) rfl (cl_iload_n hG (hx_dq tdX12_law_0 17 rfl) rfl (cl_icmp_ge hG 51 (hx_dq tdX12_law_0 18 rfl) rfl (fun c30 => ?_) (fun c30 => ?_)))
    · replace hw := hw.1 c30
      exact cl_sub hG (hx_le_c rfl (hx_le_c rfl (hx_le_n (hx_le_n hx_le_0)))) (hk51 _ hw)
    · replace hw := hw.2 c30
      obtain ⟨i43_3, hw⟩ := hw
      obtain ⟨i44_4, hw⟩ := hw
      exact cl_aload_n hG (hx_dq tdX12_law_0 19 rfl) rfl (cl_getS hG fmX12_98 (hx_dq tdX12_law_0 20 rfl) (mF_S49 hF) (mF_R49_40 hF) (cl_iload_n hG (hx_dq tdX12_law_0 21 rfl) rfl (cl_aload_n hG (hx_dq tdX12_law_0 22 rfl) rfl (cl_getS hG fmX12_94 (hx_dq tdX12_law_0 23 rfl) (mF_S49 hF) (mF_R49_39 hF) (cl_iload_n hG (hx_dq tdX12_law_0 24 rfl) rfl (cl_bald hG (hx_dq tdX12_law_0 25 rfl) (mF_S74 hF) i43_3 (cl_bast hG (hx_dq tdX12_law_0 26 rfl) (mF_S75 hF) i44_4 (cl_iinc hG (v2 + 1) (hx_dq tdX12_law_0 27 rfl) rfl (congrArg (fun z => v2 + z) iconst_1) (Nat.le_of_ble_eq_true rfl) rfl (cl_goto hG 28 (hx_dq tdX12_law_0 28 rfl) rfl (cl_sub hG (hx_le_c rfl (hx_le_c rfl (hx_le_c rfl (hx_le_n hx_le_0)))) (ih (v2 + 1) _ hw)))))))))))
def wX12_law_J145  (K : Int32 → hx_M → Prop) (K87 : Int32 → hx_M → Prop) (v2 : Int32) (t0 : Int32) (μ : hx_M) : Prop := (t0 ≠ 0 → (vp_in (μ.1 49 20) 6 ∧ vp_in (μ.1 49 20) 6 ∧ wX12_blanks (hx_sI μ 63 ((μ.1 49 20).toNatClampNeg) (((μ.1 63 ((μ.1 49 20).toNatClampNeg))) + 1)) (fun m167_12 => K87 t0 m167_12))) ∧ (t0 = 0 → (K87 t0 μ))
set_option maxRecDepth 100000 in
set_option maxHeartbeats 4000000 in
theorem kX12_law_J145 {G : hx_GT} {KK : hx_KT} (hG : hx_K cX12_law 4 0 0 (some .int) TbX12 KK G) (cA : hx_CA RX12 cX12_law 46 0 0 G) {Λ : hx_L} (hF : mF Λ) {μ : hx_M} (v2 : Int32) (t0 : Int32) {K : Int32 → hx_M → Prop} (hK : ∀ (r : Int32) (m : hx_M), K r m → KK (some (.int r)) Λ m) {K87 : Int32 → hx_M → Prop} (hk87 : ∀ (v3 : Int32) (μ : hx_M), K87 v3 μ → G Λ μ (0, 0) 87 [some (.ref 49), none, some (.int v2), some (.int v3)] []) (hw : wX12_law_J145 K K87 v2 t0 μ) : G Λ μ (0, 0) 145 [some (.ref 49), none, some (.int v2), none] [.int t0] := by
  unfold wX12_law_J145 at hw
  refine cl_istore_n hG (hx_dq tdX12_law_2 17 rfl) (Nat.le_of_ble_eq_true rfl) rfl (cl_iload_n hG (hx_dq tdX12_law_2 18 rfl) rfl (cl_if_ne hG 153 (hx_dq tdX12_law_2 19 rfl) rfl (fun c147 => ?_) (fun c147 => ?_)))
  · replace hw := hw.1 c147
    obtain ⟨i162_10, hw⟩ := hw
    obtain ⟨i165_11, hw⟩ := hw
    refine cl_aload_n hG (hx_dq tdX12_law_2 21 rfl) rfl (cl_getS hG fmX12_60 (hx_dq tdX12_law_2 22 rfl) (mF_S49 hF) (mF_R49_28 hF) (cl_aload_n hG (hx_dq tdX12_law_2 23 rfl) rfl (cl_getI hG fmX12_293 (hx_dq tdX12_law_2 24 rfl) (mF_S49 hF) (cl_dup2 hG (hx_dq tdX12_law_2 25 rfl) rfl rfl (cl_iald hG (hx_dq tdX12_law_2 26 rfl) (mF_S63 hF) i162_10 (cl_iconst hG 1 (hx_dq tdX12_law_2 27 rfl) iconst_1 (cl_iadd hG (hx_dq tdX12_law_2 28 rfl) (cl_iast hG (hx_dq tdX12_law_2 29 rfl) (mF_S63 hF) i165_11 (cl_aload_n hG (hx_dq tdX12_law_2 30 rfl) rfl (cl_callV0 (caX12_law_194 cA) (hx_dq tdX12_law_2 31 rfl) (mF_S49 hF) (Nat.le_of_ble_eq_true rfl) (Nat.le_refl _) (Nat.le_refl _) (sX12_blanks_mk hF hw (fun m167_12 hw => ?_))))))))))))
    exact cl_goto hG 87 (hx_dq tdX12_law_3 0 rfl) rfl (cl_sub hG (hx_le_c rfl (hx_le_n (hx_le_c rfl (hx_le_c rfl hx_le_0)))) (hk87 t0 _ hw))
  · replace hw := hw.2 c147
    exact cl_goto hG 87 (hx_dq tdX12_law_2 20 rfl) rfl (cl_sub hG (hx_le_c rfl (hx_le_n (hx_le_c rfl (hx_le_c rfl hx_le_0)))) (hk87 t0 _ hw))
def wX12_law_J144  (K : Int32 → hx_M → Prop) (K87 : Int32 → hx_M → Prop) (v2 : Int32)  (μ : hx_M) : Prop := wX12_law_J145 K (K87) v2 0 μ
set_option maxRecDepth 100000 in
set_option maxHeartbeats 4000000 in
theorem kX12_law_J144 {G : hx_GT} {KK : hx_KT} (hG : hx_K cX12_law 4 0 0 (some .int) TbX12 KK G) (cA : hx_CA RX12 cX12_law 46 0 0 G) {Λ : hx_L} (hF : mF Λ) {μ : hx_M} (v2 : Int32)  {K : Int32 → hx_M → Prop} (hK : ∀ (r : Int32) (m : hx_M), K r m → KK (some (.int r)) Λ m) {K87 : Int32 → hx_M → Prop} (hk87 : ∀ (v3 : Int32) (μ : hx_M), K87 v3 μ → G Λ μ (0, 0) 87 [some (.ref 49), none, some (.int v2), some (.int v3)] []) (hw : wX12_law_J144 K K87 v2 μ) : G Λ μ (0, 0) 144 [some (.ref 49), none, some (.int v2), none] [] := by
  unfold wX12_law_J144 at hw
  refine cl_iconst hG 0 (hx_dq tdX12_law_2 16 rfl) iconst_0 ?_
  exact cl_sub hG (hx_le_c rfl (hx_le_n (hx_le_c rfl (hx_le_n hx_le_0)))) (kX12_law_J145 hG cA hF v2 0 hK (fun z0 z1 hw => hk87 z0 z1 hw) hw)
def wX12_law_J145_18  (K : Int32 → hx_M → Prop) (K87 : Int32 → hx_M → Prop) (v2 : Int32) (t0 : Int32) (μ : hx_M) : Prop := (t0 ≠ 0 → (vp_in (μ.1 49 20) 6 ∧ vp_in (μ.1 49 20) 6 ∧ wX12_blanks (hx_sI μ 63 ((μ.1 49 20).toNatClampNeg) (((μ.1 63 ((μ.1 49 20).toNatClampNeg))) + 1)) (fun m167_21 => K87 t0 m167_21))) ∧ (t0 = 0 → (K87 t0 μ))
set_option maxRecDepth 100000 in
set_option maxHeartbeats 4000000 in
theorem kX12_law_J145_18 {G : hx_GT} {KK : hx_KT} (hG : hx_K cX12_law 4 0 0 (some .int) TbX12 KK G) (cA : hx_CA RX12 cX12_law 46 0 0 G) {Λ : hx_L} (hF : mF Λ) {μ : hx_M} (v2 : Int32) (t0 : Int32) {K : Int32 → hx_M → Prop} (hK : ∀ (r : Int32) (m : hx_M), K r m → KK (some (.int r)) Λ m) {K87 : Int32 → hx_M → Prop} (hk87 : ∀ (v3 : Int32) (μ : hx_M), K87 v3 μ → G Λ μ (0, 0) 87 [some (.ref 49), none, some (.int v2), some (.int v3)] []) (hw : wX12_law_J145_18 K K87 v2 t0 μ) : G Λ μ (0, 0) 145 [some (.ref 49), none, some (.int v2), none] [.int t0] := by
  unfold wX12_law_J145_18 at hw
  refine cl_istore_n hG (hx_dq tdX12_law_2 17 rfl) (Nat.le_of_ble_eq_true rfl) rfl (cl_iload_n hG (hx_dq tdX12_law_2 18 rfl) rfl (cl_if_ne hG 153 (hx_dq tdX12_law_2 19 rfl) rfl (fun c147 => ?_) (fun c147 => ?_)))
  · replace hw := hw.1 c147
    obtain ⟨i162_19, hw⟩ := hw
    obtain ⟨i165_20, hw⟩ := hw
    refine cl_aload_n hG (hx_dq tdX12_law_2 21 rfl) rfl (cl_getS hG fmX12_60 (hx_dq tdX12_law_2 22 rfl) (mF_S49 hF) (mF_R49_28 hF) (cl_aload_n hG (hx_dq tdX12_law_2 23 rfl) rfl (cl_getI hG fmX12_293 (hx_dq tdX12_law_2 24 rfl) (mF_S49 hF) (cl_dup2 hG (hx_dq tdX12_law_2 25 rfl) rfl rfl (cl_iald hG (hx_dq tdX12_law_2 26 rfl) (mF_S63 hF) i162_19 (cl_iconst hG 1 (hx_dq tdX12_law_2 27 rfl) iconst_1 (cl_iadd hG (hx_dq tdX12_law_2 28 rfl) (cl_iast hG (hx_dq tdX12_law_2 29 rfl) (mF_S63 hF) i165_20 (cl_aload_n hG (hx_dq tdX12_law_2 30 rfl) rfl (cl_callV0 (caX12_law_194 cA) (hx_dq tdX12_law_2 31 rfl) (mF_S49 hF) (Nat.le_of_ble_eq_true rfl) (Nat.le_refl _) (Nat.le_refl _) (sX12_blanks_mk hF hw (fun m167_21 hw => ?_))))))))))))
    exact cl_goto hG 87 (hx_dq tdX12_law_3 0 rfl) rfl (cl_sub hG (hx_le_c rfl (hx_le_n (hx_le_c rfl (hx_le_c rfl hx_le_0)))) (hk87 t0 _ hw))
  · replace hw := hw.2 c147
    exact cl_goto hG 87 (hx_dq tdX12_law_2 20 rfl) rfl (cl_sub hG (hx_le_c rfl (hx_le_n (hx_le_c rfl (hx_le_c rfl hx_le_0)))) (hk87 t0 _ hw))
def wX12_law_L87 (v2 : Int32) (K : Int32 → hx_M → Prop) (K173 : Int32 → hx_M → Prop) : Nat → Int32 → hx_M → Prop
  | 0, _, _ => False
  | n + 1, v3, μ => (v3 = 0 → (K173 v3 μ)) ∧ (¬ (v3 = 0) → (((μ.1 49 24) ≤ (μ.1 49 25) → (K173 v3 μ)) ∧ (¬ ((μ.1 49 24) ≤ (μ.1 49 25)) → (vp_in (μ.1 49 20) 6 ∧ (16 ≤ ((μ.1 63 ((μ.1 49 20).toNatClampNeg))) → (wX12_law_J144 K (wX12_law_L87 v2 K K173 n) v2 μ)) ∧ (¬ (16 ≤ ((μ.1 63 ((μ.1 49 20).toNatClampNeg)))) → (vp_in (μ.1 49 20) 6 ∧ ∀ x_15 : Int32, x_15 = ((16 * (μ.1 49 20)) + ((μ.1 63 ((μ.1 49 20).toNatClampNeg)))) → wX12_rule μ x_15 (fun r134_17 m134_16 => (r134_17 = 0 → (wX12_law_J144 K (wX12_law_L87 v2 K K173 n) v2 m134_16)) ∧ (¬ (r134_17 = 0) → (wX12_law_J145_18 K (wX12_law_L87 v2 K K173 n) v2 1 m134_16)))))))))
set_option maxRecDepth 100000 in
set_option maxHeartbeats 4000000 in
theorem kX12_law_L87 {G : hx_GT} {KK : hx_KT} (hG : hx_K cX12_law 4 0 0 (some .int) TbX12 KK G) (cA : hx_CA RX12 cX12_law 46 0 0 G) {Λ : hx_L} (hF : mF Λ)  (v2 : Int32) {K : Int32 → hx_M → Prop} (hK : ∀ (r : Int32) (m : hx_M), K r m → KK (some (.int r)) Λ m) {K173 : Int32 → hx_M → Prop} (hk173 : ∀ (v3 : Int32) (μ : hx_M), K173 v3 μ → G Λ μ (0, 0) 173 [some (.ref 49), none, some (.int v2), some (.int v3)] []) : ∀ (n : Nat) (v3 : Int32) (μ : hx_M), wX12_law_L87 v2 K K173 n v3 μ → G Λ μ (0, 0) 87 [some (.ref 49), none, some (.int v2), some (.int v3)] [] := by
  intro n
  induction n with
  | zero =>
    intro v3 μ hw
    exact False.elim (by simpa only [wX12_law_L87] using hw)
  | succ n ih =>
    intro v3 μ hw
    unfold wX12_law_L87 at hw
    refine cl_iload_n hG (hx_dq tdX12_law_1 19 rfl) rfl (cl_if_eq hG 173 (hx_dq tdX12_law_1 20 rfl) rfl (fun c88 => ?_) (fun c88 => ?_))
    · replace hw := hw.1 c88
      exact cl_sub hG (hx_le_c rfl (hx_le_n (hx_le_c rfl (hx_le_c rfl hx_le_0)))) (hk173 v3 _ hw)
    · replace hw := hw.2 c88
      refine cl_aload_n hG (hx_dq tdX12_law_1 21 rfl) rfl (cl_getI hG fmX12_188 (hx_dq tdX12_law_1 22 rfl) (mF_S49 hF) (cl_aload_n hG (hx_dq tdX12_law_1 23 rfl) rfl (cl_getI hG fmX12_191 (hx_dq tdX12_law_1 24 rfl) (mF_S49 hF) (cl_icmp_ge hG 173 (hx_dq tdX12_law_1 25 rfl) rfl (fun c99 => ?_) (fun c99 => ?_)))))
      · replace hw := hw.1 c99
        exact cl_sub hG (hx_le_c rfl (hx_le_n (hx_le_c rfl (hx_le_c rfl hx_le_0)))) (hk173 v3 _ hw)
      · replace hw := hw.2 c99
        obtain ⟨i110_9, hw⟩ := hw
        refine cl_aload_n hG (hx_dq tdX12_law_1 26 rfl) rfl (cl_getS hG fmX12_60 (hx_dq tdX12_law_1 27 rfl) (mF_S49 hF) (mF_R49_28 hF) (cl_aload_n hG (hx_dq tdX12_law_1 28 rfl) rfl (cl_getI hG fmX12_293 (hx_dq tdX12_law_1 29 rfl) (mF_S49 hF) (cl_iald hG (hx_dq tdX12_law_1 30 rfl) (mF_S63 hF) i110_9 (cl_bipush hG 16 (hx_dq tdX12_law_1 31 rfl) bipush_16 (cl_icmp_ge hG 144 (hx_dq tdX12_law_2 0 rfl) rfl (fun c113 => ?_) (fun c113 => ?_)))))))
        · replace hw := hw.1 c113
          exact cl_sub hG (hx_le_c rfl (hx_le_n (hx_le_c rfl (hx_le_n hx_le_0)))) (kX12_law_J144 hG cA hF v2 hK (fun z0 z1 hw => ih z0 z1 hw) hw)
        · replace hw := hw.2 c113
          obtain ⟨i132_14, hw⟩ := hw
          refine cl_aload_n hG (hx_dq tdX12_law_2 1 rfl) rfl (cl_bipush hG 16 (hx_dq tdX12_law_2 2 rfl) bipush_16 (cl_aload_n hG (hx_dq tdX12_law_2 3 rfl) rfl (cl_getI hG fmX12_293 (hx_dq tdX12_law_2 4 rfl) (mF_S49 hF) (cl_imul hG (hx_dq tdX12_law_2 5 rfl) (cl_aload_n hG (hx_dq tdX12_law_2 6 rfl) rfl (cl_getS hG fmX12_60 (hx_dq tdX12_law_2 7 rfl) (mF_S49 hF) (mF_R49_28 hF) (cl_aload_n hG (hx_dq tdX12_law_2 8 rfl) rfl (cl_getI hG fmX12_293 (hx_dq tdX12_law_2 9 rfl) (mF_S49 hF) (cl_iald hG (hx_dq tdX12_law_2 10 rfl) (mF_S63 hF) i132_14 (cl_iadd hG (hx_dq tdX12_law_2 11 rfl) (cl_nmI (fun x_15 e_15 => ?_))))))))))))
          replace hw := hw x_15 e_15
          refine cl_callV1 (caX12_law_296 cA) (hx_dq tdX12_law_2 12 rfl) (mF_S49 hF) (Nat.le_of_ble_eq_true rfl) (Nat.le_refl _) (Nat.le_refl _) (sX12_rule_mk hF hw (fun r134_17 m134_16 hw => ?_))
          refine cl_if_eq hG 144 (hx_dq tdX12_law_2 13 rfl) rfl (fun c137 => ?_) (fun c137 => ?_)
          · replace hw := hw.1 c137
            exact cl_sub hG (hx_le_c rfl (hx_le_n (hx_le_c rfl (hx_le_n hx_le_0)))) (kX12_law_J144 hG cA hF v2 hK (fun z0 z1 hw => ih z0 z1 hw) hw)
          · replace hw := hw.2 c137
            refine cl_iconst hG 1 (hx_dq tdX12_law_2 14 rfl) iconst_1 (cl_goto hG 145 (hx_dq tdX12_law_2 15 rfl) rfl ?_)
            exact cl_sub hG (hx_le_c rfl (hx_le_n (hx_le_c rfl (hx_le_n hx_le_0)))) (kX12_law_J145_18 hG cA hF v2 1 hK (fun z0 z1 hw => ih z0 z1 hw) hw)
def wX12_law_J186  (K : Int32 → hx_M → Prop)  (v2 : Int32) (v3 : Int32) (t1 : Int32) (μ : hx_M) : Prop := (v3 ≠ 0 → (K (μ.1 49 20) (hx_sI (hx_sI (hx_sI μ 49 27 t1) 49 21 (μ.1 49 20)) 49 20 ((μ.1 49 20) + 1)))) ∧ (v3 = 0 → (K (-1) (hx_sI (hx_sI μ 49 27 t1) 49 22 v2)))
set_option maxRecDepth 100000 in
set_option maxHeartbeats 4000000 in
theorem kX12_law_J186 {G : hx_GT} {KK : hx_KT} (hG : hx_K cX12_law 4 0 0 (some .int) TbX12 KK G) (cA : hx_CA RX12 cX12_law 46 0 0 G) {Λ : hx_L} (hF : mF Λ) {μ : hx_M} (v2 : Int32) (v3 : Int32) (t1 : Int32) {K : Int32 → hx_M → Prop} (hK : ∀ (r : Int32) (m : hx_M), K r m → KK (some (.int r)) Λ m)  (hw : wX12_law_J186 K v2 v3 t1 μ) : G Λ μ (0, 0) 186 [some (.ref 49), none, some (.int v2), some (.int v3)] [.int t1, .ref 49] := by
  unfold wX12_law_J186 at hw
  refine cl_putI hG fmX12_57 (hx_dq tdX12_law_3 8 rfl) (mF_S49 hF) (cl_iload_n hG (hx_dq tdX12_law_3 9 rfl) rfl (cl_if_ne hG 200 (hx_dq tdX12_law_3 10 rfl) rfl (fun c190 => ?_) (fun c190 => ?_)))
  · replace hw := hw.1 c190
    exact cl_aload_n hG (hx_dq tdX12_law_3 16 rfl) rfl (cl_aload_n hG (hx_dq tdX12_law_3 17 rfl) rfl (cl_getI hG fmX12_293 (hx_dq tdX12_law_3 18 rfl) (mF_S49 hF) (cl_putI hG fmX12_53 (hx_dq tdX12_law_3 19 rfl) (mF_S49 hF) (cl_aload_n hG (hx_dq tdX12_law_3 20 rfl) rfl (cl_dup hG (hx_dq tdX12_law_3 21 rfl) rfl (cl_getI hG fmX12_293 (hx_dq tdX12_law_3 22 rfl) (mF_S49 hF) (cl_iconst hG 1 (hx_dq tdX12_law_3 23 rfl) iconst_1 (cl_iadd hG (hx_dq tdX12_law_3 24 rfl) (cl_putI hG fmX12_293 (hx_dq tdX12_law_3 25 rfl) (mF_S49 hF) (cl_aload_n hG (hx_dq tdX12_law_3 26 rfl) rfl (cl_getI hG fmX12_53 (hx_dq tdX12_law_3 27 rfl) (mF_S49 hF) (cl_iret hG (hx_dq tdX12_law_3 28 rfl) rfl rfl (hK _ _ hw) (Nat.le_refl _) (Nat.le_refl _)))))))))))))
  · replace hw := hw.2 c190
    exact cl_aload_n hG (hx_dq tdX12_law_3 11 rfl) rfl (cl_iload_n hG (hx_dq tdX12_law_3 12 rfl) rfl (cl_putI hG fmX12_235 (hx_dq tdX12_law_3 13 rfl) (mF_S49 hF) (cl_iconst hG (-1) (hx_dq tdX12_law_3 14 rfl) iconst_m1 (cl_iret hG (hx_dq tdX12_law_3 15 rfl) rfl rfl (hK _ _ hw) (Nat.le_refl _) (Nat.le_refl _)))))
def wX12_law_J173  (K : Int32 → hx_M → Prop)  (v2 : Int32) (v3 : Int32)  (μ : hx_M) : Prop := (v3 = 0 → (wX12_law_J186 K v2 v3 (μ.1 49 25) μ)) ∧ (¬ (v3 = 0) → (wX12_law_J186 K v2 v3 (-1) μ))
set_option maxRecDepth 100000 in
set_option maxHeartbeats 4000000 in
theorem kX12_law_J173 {G : hx_GT} {KK : hx_KT} (hG : hx_K cX12_law 4 0 0 (some .int) TbX12 KK G) (cA : hx_CA RX12 cX12_law 46 0 0 G) {Λ : hx_L} (hF : mF Λ) {μ : hx_M} (v2 : Int32) (v3 : Int32)  {K : Int32 → hx_M → Prop} (hK : ∀ (r : Int32) (m : hx_M), K r m → KK (some (.int r)) Λ m)  (hw : wX12_law_J173 K v2 v3 μ) : G Λ μ (0, 0) 173 [some (.ref 49), none, some (.int v2), some (.int v3)] [] := by
  unfold wX12_law_J173 at hw
  refine cl_aload_n hG (hx_dq tdX12_law_3 1 rfl) rfl (cl_iload_n hG (hx_dq tdX12_law_3 2 rfl) rfl (cl_if_eq hG 182 (hx_dq tdX12_law_3 3 rfl) rfl (fun c175 => ?_) (fun c175 => ?_)))
  · replace hw := hw.1 c175
    refine cl_aload_n hG (hx_dq tdX12_law_3 6 rfl) rfl (cl_getI hG fmX12_188 (hx_dq tdX12_law_3 7 rfl) (mF_S49 hF) ?_)
    exact cl_sub hG (hx_le_c rfl (hx_le_n (hx_le_c rfl (hx_le_c rfl hx_le_0)))) (kX12_law_J186 hG cA hF v2 v3 (μ.1 49 25) hK hw)
  · replace hw := hw.2 c175
    refine cl_iconst hG (-1) (hx_dq tdX12_law_3 4 rfl) iconst_m1 (cl_goto hG 186 (hx_dq tdX12_law_3 5 rfl) rfl ?_)
    exact cl_sub hG (hx_le_c rfl (hx_le_n (hx_le_c rfl (hx_le_c rfl hx_le_0)))) (kX12_law_J186 hG cA hF v2 v3 (-1) hK hw)
def wX12_law (μ : hx_M) (v1 : Int32) (K : Int32 → hx_M → Prop) : Prop := wX12_isIn v1 0 (μ.1 49 23) (fun r6_2 => (r6_2 ≠ 0 → (((μ.1 49 20) ≠ 5 → (∃ n28_25, wX12_law_L28 v1 K (fun m_5 => vp_in (m_5.1 49 20) 6 ∧ wX12_blanks (hx_sI (hx_sI (hx_sI (hx_sI m_5 49 24 v1) 49 23 0) 49 25 0) 63 ((m_5.1 49 20).toNatClampNeg) 0) (fun m84_7 => ∃ n87_24, wX12_law_L87 (m_5.1 49 22) K (fun v3_23 m_23 => wX12_law_J173 K (m_5.1 49 22) v3_23 m_23) n87_24 1 m84_7)) n28_25 0 μ)) ∧ ((μ.1 49 20) = 5 → (K (-3) μ)))) ∧ (r6_2 = 0 → (K (-2) μ)))
set_option maxRecDepth 100000 in
set_option maxHeartbeats 4000000 in
theorem kX12_law {G : hx_GT} {KK : hx_KT} (hG : hx_K cX12_law 4 0 0 (some .int) TbX12 KK G) (cA : hx_CA RX12 cX12_law 46 0 0 G) {Λ : hx_L} (hF : mF Λ) {μ : hx_M} (v1 : Int32) {K : Int32 → hx_M → Prop} (hK : ∀ (r : Int32) (m : hx_M), K r m → KK (some (.int r)) Λ m) (hw : wX12_law μ v1 K) : G Λ μ (0, 0) 0 [some (.ref 49), some (.int v1), none, none] [] := by
  unfold wX12_law at hw
  refine cl_iload_n hG (hx_dq tdX12_law_0 0 rfl) rfl (cl_iconst hG 0 (hx_dq tdX12_law_0 1 rfl) iconst_0 (cl_aload_n hG (hx_dq tdX12_law_0 2 rfl) rfl (cl_getI hG fmX12_181 (hx_dq tdX12_law_0 3 rfl) (mF_S49 hF) (cl_callS3 (caX12_law_157 cA) (hx_dq tdX12_law_0 4 rfl) (Nat.le_of_ble_eq_true rfl) (Nat.le_refl _) (Nat.le_refl _) (sX12_isIn_mk hw (fun r6_2 hw => ?_))))))
  refine cl_if_ne hG 15 (hx_dq tdX12_law_0 5 rfl) rfl (fun c9 => ?_) (fun c9 => ?_)
  · replace hw := hw.1 c9
    refine cl_aload_n hG (hx_dq tdX12_law_0 8 rfl) rfl (cl_getI hG fmX12_293 (hx_dq tdX12_law_0 9 rfl) (mF_S49 hF) (cl_iconst hG 5 (hx_dq tdX12_law_0 10 rfl) iconst_5 (cl_icmp_ne hG 26 (hx_dq tdX12_law_0 11 rfl) rfl (fun c20 => ?_) (fun c20 => ?_))))
    · replace hw := hw.1 c20
      refine cl_iconst hG 0 (hx_dq tdX12_law_0 14 rfl) iconst_0 (cl_istore_n hG (hx_dq tdX12_law_0 15 rfl) (Nat.le_of_ble_eq_true rfl) rfl ?_)
      obtain ⟨n_, hw⟩ := hw
      refine cl_sub hG (hx_le_c rfl (hx_le_c rfl (hx_le_c rfl (hx_le_n hx_le_0)))) (kX12_law_L28 hG cA hF v1 hK (fun m_5 hw => ?_) n_ 0 _ hw)
      · obtain ⟨i80_6, hw⟩ := hw
        refine cl_aload_n hG (hx_dq tdX12_law_0 29 rfl) rfl (cl_iload_n hG (hx_dq tdX12_law_0 30 rfl) rfl (cl_putI hG fmX12_191 (hx_dq tdX12_law_0 31 rfl) (mF_S49 hF) (cl_aload_n hG (hx_dq tdX12_law_1 0 rfl) rfl (cl_iconst hG 0 (hx_dq tdX12_law_1 1 rfl) iconst_0 (cl_putI hG fmX12_181 (hx_dq tdX12_law_1 2 rfl) (mF_S49 hF) (cl_aload_n hG (hx_dq tdX12_law_1 3 rfl) rfl (cl_iconst hG 0 (hx_dq tdX12_law_1 4 rfl) iconst_0 (cl_putI hG fmX12_188 (hx_dq tdX12_law_1 5 rfl) (mF_S49 hF) (cl_aload_n hG (hx_dq tdX12_law_1 6 rfl) rfl (cl_getI hG fmX12_235 (hx_dq tdX12_law_1 7 rfl) (mF_S49 hF) (cl_istore_n hG (hx_dq tdX12_law_1 8 rfl) (Nat.le_of_ble_eq_true rfl) rfl (cl_aload_n hG (hx_dq tdX12_law_1 9 rfl) rfl (cl_getS hG fmX12_60 (hx_dq tdX12_law_1 10 rfl) (mF_S49 hF) (mF_R49_28 hF) (cl_aload_n hG (hx_dq tdX12_law_1 11 rfl) rfl (cl_getI hG fmX12_293 (hx_dq tdX12_law_1 12 rfl) (mF_S49 hF) (cl_iconst hG 0 (hx_dq tdX12_law_1 13 rfl) iconst_0 (cl_iast hG (hx_dq tdX12_law_1 14 rfl) (mF_S63 hF) i80_6 (cl_iconst hG 1 (hx_dq tdX12_law_1 15 rfl) iconst_1 (cl_istore_n hG (hx_dq tdX12_law_1 16 rfl) (Nat.le_of_ble_eq_true rfl) rfl (cl_aload_n hG (hx_dq tdX12_law_1 17 rfl) rfl (cl_callV0 (caX12_law_194 cA) (hx_dq tdX12_law_1 18 rfl) (mF_S49 hF) (Nat.le_of_ble_eq_true rfl) (Nat.le_refl _) (Nat.le_refl _) (sX12_blanks_mk hF hw (fun m84_7 hw => ?_)))))))))))))))))))))))
        obtain ⟨n_, hw⟩ := hw
        refine cl_sub hG (hx_le_c rfl (hx_le_n (hx_le_c rfl (hx_le_c rfl hx_le_0)))) (kX12_law_L87 hG cA hF (m_5.1 49 22) hK (fun v3_23 m_23 hw => ?_) n_ 1 _ hw)
        · exact cl_sub hG (hx_le_c rfl (hx_le_n (hx_le_c rfl (hx_le_c rfl hx_le_0)))) (kX12_law_J173 hG cA hF (m_5.1 49 22) v3_23 hK hw)
    · replace hw := hw.2 c20
      exact cl_bipush hG (-3) (hx_dq tdX12_law_0 12 rfl) bipush_m3 (cl_iret hG (hx_dq tdX12_law_0 13 rfl) rfl rfl (hK _ _ hw) (Nat.le_refl _) (Nat.le_refl _))
  · replace hw := hw.2 c9
    exact cl_bipush hG (-2) (hx_dq tdX12_law_0 6 rfl) bipush_m2 (cl_iret hG (hx_dq tdX12_law_0 7 rfl) rfl rfl (hK _ _ hw) (Nat.le_refl _) (Nat.le_refl _))
def sX12_law : hx_ST := fun Λ μ as KK => mF Λ ∧ ∃ (v1 : Int32) (K : Int32 → hx_M → Prop), as = [.ref 49, .int v1] ∧ wX12_law μ v1 K ∧ (∀ (r : Int32) (m : hx_M), K r m → KK (some (.int r)) Λ m)
theorem sX12_law_mk {Λ : hx_L} {μ : hx_M} {KK : hx_KT} {v1 : Int32} {K : Int32 → hx_M → Prop} (hF : mF Λ) (hw : wX12_law μ v1 K) (hk : ∀ (r : Int32) (m : hx_M), K r m → KK (some (.int r)) Λ m) : sX12_law Λ μ [.ref 49, .int v1] KK := ⟨hF, _, _, rfl, hw, hk⟩
theorem conX12_law : hx_Con yX12_law cX12_law 4 (some .int) 46 0 0 sX12_law := by
  refine hx_con_of (by decide +kernel) tokX12 (by decide) ?_ ?_
  · intro Λ μ as KK h
    obtain ⟨hF, v1, K, rfl, hw, hK⟩ := h
    exact Nat.le_of_ble_eq_true rfl
  · intro G KK hG cA Λ μ as h
    obtain ⟨hF, v1, K, rfl, hw, hK⟩ := h
    exact cl_sub hG (hx_le_c rfl (hx_le_c rfl (hx_le_n (hx_le_n hx_le_0)))) (kX12_law hG cA hF _ hK hw)
/-! HemLineModel.force(I)Z -/
def tbX12_force_0 : List (Nat × Instr × Nat) := [(0, .iload_n 1, 1), (1, .iconst 0, 1), (2, .aload_n 0, 1), (3, .getfield 293, 3), (6, .iconst 1, 1), (7, .isub, 1), (8, .invokestatic 157, 3), (11, .ifCond .ne 5, 3), (14, .iconst 0, 1), (15, .ireturn, 1), (16, .aload_n 0, 1), (17, .iload_n 1, 1), (18, .putfield 53, 3), (21, .iconst 1, 1), (22, .ireturn, 1)]
theorem tdX12_force_0 : hx_dt cX12_force tbX12_force_0 = true := by decide +kernel
theorem caX12_force_157 {G : hx_GT} (cA : hx_CA RX12 cX12_force 2 0 0 G) : hx_CS cX12_force G 0 0 157 3 sX12_isIn 0 0 := cA.2.1 conX12_isIn ⟨by decide +kernel, by decide +kernel, by decide +kernel⟩ mw_1343 mw_1344 mw_97 mw_1345 (by decide) (by decide)
def wX12_force (μ : hx_M) (v1 : Int32) (K : Int32 → hx_M → Prop) : Prop := wX12_isIn v1 0 ((μ.1 49 20) - 1) (fun r8_2 => (r8_2 ≠ 0 → (K 1 (hx_sI μ 49 21 v1))) ∧ (r8_2 = 0 → (K 0 μ)))
set_option maxRecDepth 100000 in
set_option maxHeartbeats 4000000 in
theorem kX12_force {G : hx_GT} {KK : hx_KT} (hG : hx_K cX12_force 2 0 0 (some .boolean) TbX12 KK G) (cA : hx_CA RX12 cX12_force 2 0 0 G) {Λ : hx_L} (hF : mF Λ) {μ : hx_M} (v1 : Int32) {K : Int32 → hx_M → Prop} (hK : ∀ (r : Int32) (m : hx_M), K r m → KK (some (.int r)) Λ m) (hw : wX12_force μ v1 K) : G Λ μ (0, 0) 0 [some (.ref 49), some (.int v1)] [] := by
  unfold wX12_force at hw
  refine cl_iload_n hG (hx_dq tdX12_force_0 0 rfl) rfl (cl_iconst hG 0 (hx_dq tdX12_force_0 1 rfl) iconst_0 (cl_aload_n hG (hx_dq tdX12_force_0 2 rfl) rfl (cl_getI hG fmX12_293 (hx_dq tdX12_force_0 3 rfl) (mF_S49 hF) (cl_iconst hG 1 (hx_dq tdX12_force_0 4 rfl) iconst_1 (cl_isub hG (hx_dq tdX12_force_0 5 rfl) (cl_callS3 (caX12_force_157 cA) (hx_dq tdX12_force_0 6 rfl) (Nat.le_of_ble_eq_true rfl) (Nat.le_refl _) (Nat.le_refl _) (sX12_isIn_mk hw (fun r8_2 hw => ?_))))))))
  refine cl_if_ne hG 16 (hx_dq tdX12_force_0 7 rfl) rfl (fun c11 => ?_) (fun c11 => ?_)
  · replace hw := hw.1 c11
    exact cl_aload_n hG (hx_dq tdX12_force_0 10 rfl) rfl (cl_iload_n hG (hx_dq tdX12_force_0 11 rfl) rfl (cl_putI hG fmX12_53 (hx_dq tdX12_force_0 12 rfl) (mF_S49 hF) (cl_iconst hG 1 (hx_dq tdX12_force_0 13 rfl) iconst_1 (cl_iret hG (hx_dq tdX12_force_0 14 rfl) rfl rfl (hK _ _ hw) (Nat.le_refl _) (Nat.le_refl _)))))
  · replace hw := hw.2 c11
    exact cl_iconst hG 0 (hx_dq tdX12_force_0 8 rfl) iconst_0 (cl_iret hG (hx_dq tdX12_force_0 9 rfl) rfl rfl (hK _ _ hw) (Nat.le_refl _) (Nat.le_refl _))
def sX12_force : hx_ST := fun Λ μ as KK => mF Λ ∧ ∃ (v1 : Int32) (K : Int32 → hx_M → Prop), as = [.ref 49, .int v1] ∧ wX12_force μ v1 K ∧ (∀ (r : Int32) (m : hx_M), K r m → KK (some (.int r)) Λ m)
theorem sX12_force_mk {Λ : hx_L} {μ : hx_M} {KK : hx_KT} {v1 : Int32} {K : Int32 → hx_M → Prop} (hF : mF Λ) (hw : wX12_force μ v1 K) (hk : ∀ (r : Int32) (m : hx_M), K r m → KK (some (.int r)) Λ m) : sX12_force Λ μ [.ref 49, .int v1] KK := ⟨hF, _, _, rfl, hw, hk⟩
theorem conX12_force : hx_Con yX12_force cX12_force 2 (some .boolean) 2 0 0 sX12_force := by
  refine hx_con_of (by decide +kernel) tokX12 (by decide) ?_ ?_
  · intro Λ μ as KK h
    obtain ⟨hF, v1, K, rfl, hw, hK⟩ := h
    exact Nat.le_of_ble_eq_true rfl
  · intro G KK hG cA Λ μ as h
    obtain ⟨hF, v1, K, rfl, hw, hK⟩ := h
    exact cl_sub hG (hx_le_c rfl (hx_le_c rfl hx_le_0)) (kX12_force hG cA hF _ hK hw)
/-! HemLineModel.fault()I -/
def tbX12_fault_0 : List (Nat × Instr × Nat) := [(0, .aload_n 0, 1), (1, .getfield 57, 3), (4, .ireturn, 1)]
theorem tdX12_fault_0 : hx_dt cX12_fault tbX12_fault_0 = true := by decide +kernel
def wX12_fault (μ : hx_M)  (K : Int32 → Prop) : Prop := K (μ.1 49 27)
set_option maxRecDepth 100000 in
set_option maxHeartbeats 4000000 in
theorem kX12_fault {G : hx_GT} {KK : hx_KT} (hG : hx_K cX12_fault 1 0 0 (some .int) TbX12 KK G) (cA : hx_CA RX12 cX12_fault 1 0 0 G) {Λ : hx_L} (hF : mF Λ) {μ : hx_M}  {K : Int32 → Prop} (hK : ∀ (r : Int32), K r → KK (some (.int r)) Λ μ) (hw : wX12_fault μ K) : G Λ μ (0, 0) 0 [some (.ref 49)] [] := by
  unfold wX12_fault at hw
  exact cl_aload_n hG (hx_dq tdX12_fault_0 0 rfl) rfl (cl_getI hG fmX12_57 (hx_dq tdX12_fault_0 1 rfl) (mF_S49 hF) (cl_iret hG (hx_dq tdX12_fault_0 2 rfl) rfl rfl (hK _ hw) (Nat.le_refl _) (Nat.le_refl _)))
def sX12_fault : hx_ST := fun Λ μ as KK => mF Λ ∧ ∃ (K : Int32 → Prop), as = [.ref 49] ∧ wX12_fault μ K ∧ (∀ (r : Int32), K r → KK (some (.int r)) Λ μ)
theorem sX12_fault_mk {Λ : hx_L} {μ : hx_M} {KK : hx_KT}  {K : Int32 → Prop} (hF : mF Λ) (hw : wX12_fault μ K) (hk : ∀ (r : Int32), K r → KK (some (.int r)) Λ μ) : sX12_fault Λ μ [.ref 49] KK := ⟨hF, _, rfl, hw, hk⟩
theorem conX12_fault : hx_Con yX12_fault cX12_fault 1 (some .int) 1 0 0 sX12_fault := by
  refine hx_con_of (by decide +kernel) tokX12 (by decide) ?_ ?_
  · intro Λ μ as KK h
    obtain ⟨hF, K, rfl, hw, hK⟩ := h
    exact Nat.le_of_ble_eq_true rfl
  · intro G KK hG cA Λ μ as h
    obtain ⟨hF, K, rfl, hw, hK⟩ := h
    exact cl_sub hG (hx_le_c rfl hx_le_0) (kX12_fault hG cA hF hK hw)
/-! HemLineModel.meanOf(III)I -/
def tbX12_meanOf_0 : List (Nat × Instr × Nat) := [(0, .iconst 0, 1), (1, .istore 4, 2), (3, .iconst 0, 1), (4, .istore 5, 2), (6, .iconst 0, 1), (7, .istore 6, 2), (9, .iload 6, 2), (11, .aload_n 0, 1), (12, .getfield 154, 3), (15, .if_icmp .ge 106, 3), (18, .aload_n 0, 1), (19, .getfield 26, 3), (22, .iload_n 1, 1), (23, .iaload, 1), (24, .iload 6, 2), (26, .invokestatic 299, 3), (29, .ifCond .ne 6, 3), (32, .goto 83, 3), (35, .iload_n 2, 1), (36, .ifCond .ne 19, 3), (39, .aload_n 0, 1), (40, .getfield 13, 3), (43, .iload 6, 2), (45, .iaload, 1), (46, .aload_n 0, 1), (47, .getfield 13, 3), (50, .iload_n 1, 1), (51, .iaload, 1), (52, .if_icmp .le 63, 3), (55, .iload_n 2, 1), (56, .iconst 1, 1), (57, .if_icmp .ne 19, 3)]
def tbX12_meanOf_1 : List (Nat × Instr × Nat) := [(60, .aload_n 0, 1), (61, .getfield 13, 3), (64, .iload 6, 2), (66, .iaload, 1), (67, .aload_n 0, 1), (68, .getfield 13, 3), (71, .iload_n 1, 1), (72, .iaload, 1), (73, .if_icmp .ge 42, 3), (76, .iload_n 2, 1), (77, .iconst 2, 1), (78, .if_icmp .ne 22, 3), (81, .aload_n 0, 1), (82, .getfield 13, 3), (85, .iload 6, 2), (87, .iaload, 1), (88, .aload_n 0, 1), (89, .getfield 13, 3), (92, .iload_n 1, 1), (93, .iaload, 1), (94, .if_icmp .eq 6, 3), (97, .goto 18, 3), (100, .iload 4, 2), (102, .aload_n 0, 1), (103, .iload 6, 2), (105, .iload_n 3, 1), (106, .invokevirtual 302, 3), (109, .iadd, 1), (110, .istore 4, 2), (112, .iinc 5 1, 3), (115, .iinc 6 1, 3), (118, .goto (-109), 3)]
def tbX12_meanOf_2 : List (Nat × Instr × Nat) := [(121, .iload 5, 2), (123, .ifCond .ne 7, 3), (126, .iconst (-1), 1), (127, .goto 8, 3), (130, .iload 4, 2), (132, .iload 5, 2), (134, .idiv, 1), (135, .ireturn, 1)]
theorem tdX12_meanOf_0 : hx_dt cX12_meanOf tbX12_meanOf_0 = true := by decide +kernel
theorem tdX12_meanOf_1 : hx_dt cX12_meanOf tbX12_meanOf_1 = true := by decide +kernel
theorem tdX12_meanOf_2 : hx_dt cX12_meanOf tbX12_meanOf_2 = true := by decide +kernel
theorem caX12_meanOf_299 {G : hx_GT} (cA : hx_CA RX12 cX12_meanOf 2 0 0 G) : hx_CS cX12_meanOf G 0 0 299 2 sX12_has 0 0 := cA.2.1 conX12_has ⟨by decide +kernel, by decide +kernel, by decide +kernel⟩ mw_1498 mw_1499 mw_97 mw_1500 (by decide) (by decide)
theorem caX12_meanOf_302 {G : hx_GT} (cA : hx_CA RX12 cX12_meanOf 2 0 0 G) : hx_CV cX12_meanOf G 0 0 302 12 2 sX12_lengthAt 0 0 := cA.1 conX12_lengthAt rfl rfl ⟨by decide +kernel, by decide +kernel, by decide +kernel⟩ mw_1486 mw_1488 mw_54 mw_97 mw_1489 (by decide) (by decide)
def wX12_meanOf_J115 (μ : hx_M) (K : Int32 → Prop) (K9 : Int32 → Int32 → Int32 → Prop) (v1 : Int32) (v2 : Int32) (v3 : Int32) (v4 : Int32) (v5 : Int32) (v6 : Int32)   : Prop := K9 v4 v5 (v6 + 1)
set_option maxRecDepth 100000 in
set_option maxHeartbeats 4000000 in
theorem kX12_meanOf_J115 {G : hx_GT} {KK : hx_KT} (hG : hx_K cX12_meanOf 7 0 0 (some .int) TbX12 KK G) (cA : hx_CA RX12 cX12_meanOf 2 0 0 G) {Λ : hx_L} (hF : mF Λ) {μ : hx_M} (v1 : Int32) (v2 : Int32) (v3 : Int32) (v4 : Int32) (v5 : Int32) (v6 : Int32)  {K : Int32 → Prop} (hK : ∀ (r : Int32), K r → KK (some (.int r)) Λ μ) {K9 : Int32 → Int32 → Int32 → Prop} (hk9 : ∀ (v4 : Int32) (v5 : Int32) (v6 : Int32), K9 v4 v5 v6 → G Λ μ (0, 0) 9 [some (.ref 49), some (.int v1), some (.int v2), some (.int v3), some (.int v4), some (.int v5), some (.int v6)] []) (hw : wX12_meanOf_J115 μ K K9 v1 v2 v3 v4 v5 v6) : G Λ μ (0, 0) 115 [some (.ref 49), some (.int v1), some (.int v2), some (.int v3), some (.int v4), some (.int v5), some (.int v6)] [] := by
  unfold wX12_meanOf_J115 at hw
  exact cl_iinc hG (v6 + 1) (hx_dq tdX12_meanOf_1 30 rfl) rfl (congrArg (fun z => v6 + z) iconst_1) (Nat.le_of_ble_eq_true rfl) rfl (cl_goto hG 9 (hx_dq tdX12_meanOf_1 31 rfl) rfl (cl_sub hG (hx_le_c rfl (hx_le_c rfl (hx_le_c rfl (hx_le_c rfl (hx_le_c rfl (hx_le_c rfl (hx_le_c rfl hx_le_0))))))) (hk9 v4 v5 (v6 + 1) hw)))
def wX12_meanOf_J100 (μ : hx_M) (K : Int32 → Prop) (K9 : Int32 → Int32 → Int32 → Prop) (v1 : Int32) (v2 : Int32) (v3 : Int32) (v4 : Int32) (v5 : Int32) (v6 : Int32)   : Prop := wX12_lengthAt μ v6 v3 (fun r106_5 => wX12_meanOf_J115 μ K (K9) v1 v2 v3 (v4 + r106_5) (v5 + 1) v6)
set_option maxRecDepth 100000 in
set_option maxHeartbeats 4000000 in
theorem kX12_meanOf_J100 {G : hx_GT} {KK : hx_KT} (hG : hx_K cX12_meanOf 7 0 0 (some .int) TbX12 KK G) (cA : hx_CA RX12 cX12_meanOf 2 0 0 G) {Λ : hx_L} (hF : mF Λ) {μ : hx_M} (v1 : Int32) (v2 : Int32) (v3 : Int32) (v4 : Int32) (v5 : Int32) (v6 : Int32)  {K : Int32 → Prop} (hK : ∀ (r : Int32), K r → KK (some (.int r)) Λ μ) {K9 : Int32 → Int32 → Int32 → Prop} (hk9 : ∀ (v4 : Int32) (v5 : Int32) (v6 : Int32), K9 v4 v5 v6 → G Λ μ (0, 0) 9 [some (.ref 49), some (.int v1), some (.int v2), some (.int v3), some (.int v4), some (.int v5), some (.int v6)] []) (hw : wX12_meanOf_J100 μ K K9 v1 v2 v3 v4 v5 v6) : G Λ μ (0, 0) 100 [some (.ref 49), some (.int v1), some (.int v2), some (.int v3), some (.int v4), some (.int v5), some (.int v6)] [] := by
  unfold wX12_meanOf_J100 at hw
  refine cl_iload hG (hx_dq tdX12_meanOf_1 22 rfl) rfl (cl_aload_n hG (hx_dq tdX12_meanOf_1 23 rfl) rfl (cl_iload hG (hx_dq tdX12_meanOf_1 24 rfl) rfl (cl_iload_n hG (hx_dq tdX12_meanOf_1 25 rfl) rfl (cl_callV2 (caX12_meanOf_302 cA) (hx_dq tdX12_meanOf_1 26 rfl) (mF_S49 hF) (Nat.le_of_ble_eq_true rfl) (Nat.le_refl _) (Nat.le_refl _) (sX12_lengthAt_mk hF hw (fun r106_5 hw => ?_))))))
  refine cl_iadd hG (hx_dq tdX12_meanOf_1 27 rfl) (cl_istore hG (hx_dq tdX12_meanOf_1 28 rfl) (Nat.le_of_ble_eq_true rfl) rfl (cl_iinc hG (v5 + 1) (hx_dq tdX12_meanOf_1 29 rfl) rfl (congrArg (fun z => v5 + z) iconst_1) (Nat.le_of_ble_eq_true rfl) rfl ?_))
  exact cl_sub hG (hx_le_c rfl (hx_le_c rfl (hx_le_c rfl (hx_le_c rfl (hx_le_c rfl (hx_le_c rfl (hx_le_c rfl hx_le_0))))))) (kX12_meanOf_J115 hG cA hF v1 v2 v3 (v4 + r106_5) (v5 + 1) v6 hK (fun z0 z1 z2 hw => hk9 z0 z1 z2 hw) hw)
def wX12_meanOf_J115_8 (μ : hx_M) (K : Int32 → Prop) (K9 : Int32 → Int32 → Int32 → Prop) (v1 : Int32) (v2 : Int32) (v3 : Int32) (v4 : Int32) (v5 : Int32) (v6 : Int32)   : Prop := K9 v4 v5 (v6 + 1)
set_option maxRecDepth 100000 in
set_option maxHeartbeats 4000000 in
theorem kX12_meanOf_J115_8 {G : hx_GT} {KK : hx_KT} (hG : hx_K cX12_meanOf 7 0 0 (some .int) TbX12 KK G) (cA : hx_CA RX12 cX12_meanOf 2 0 0 G) {Λ : hx_L} (hF : mF Λ) {μ : hx_M} (v1 : Int32) (v2 : Int32) (v3 : Int32) (v4 : Int32) (v5 : Int32) (v6 : Int32)  {K : Int32 → Prop} (hK : ∀ (r : Int32), K r → KK (some (.int r)) Λ μ) {K9 : Int32 → Int32 → Int32 → Prop} (hk9 : ∀ (v4 : Int32) (v5 : Int32) (v6 : Int32), K9 v4 v5 v6 → G Λ μ (0, 0) 9 [some (.ref 49), some (.int v1), some (.int v2), some (.int v3), some (.int v4), some (.int v5), some (.int v6)] []) (hw : wX12_meanOf_J115_8 μ K K9 v1 v2 v3 v4 v5 v6) : G Λ μ (0, 0) 115 [some (.ref 49), some (.int v1), some (.int v2), some (.int v3), some (.int v4), some (.int v5), some (.int v6)] [] := by
  unfold wX12_meanOf_J115_8 at hw
  exact cl_iinc hG (v6 + 1) (hx_dq tdX12_meanOf_1 30 rfl) rfl (congrArg (fun z => v6 + z) iconst_1) (Nat.le_of_ble_eq_true rfl) rfl (cl_goto hG 9 (hx_dq tdX12_meanOf_1 31 rfl) rfl (cl_sub hG (hx_le_c rfl (hx_le_c rfl (hx_le_c rfl (hx_le_c rfl (hx_le_c rfl (hx_le_c rfl (hx_le_c rfl hx_le_0))))))) (hk9 v4 v5 (v6 + 1) hw)))
def wX12_meanOf_J76 (μ : hx_M) (K : Int32 → Prop) (K9 : Int32 → Int32 → Int32 → Prop) (v1 : Int32) (v2 : Int32) (v3 : Int32) (v4 : Int32) (v5 : Int32) (v6 : Int32)   : Prop := (v2 ≠ 2 → (wX12_meanOf_J100 μ K (K9) v1 v2 v3 v4 v5 v6)) ∧ (v2 = 2 → (vp_in v6 16 ∧ vp_in v1 16 ∧ ((μ.1 50 v6.toNatClampNeg) = (μ.1 50 v1.toNatClampNeg) → (wX12_meanOf_J100 μ K (K9) v1 v2 v3 v4 v5 v6)) ∧ (¬ ((μ.1 50 v6.toNatClampNeg) = (μ.1 50 v1.toNatClampNeg)) → (wX12_meanOf_J115_8 μ K (K9) v1 v2 v3 v4 v5 v6))))
set_option maxRecDepth 100000 in
set_option maxHeartbeats 4000000 in
theorem kX12_meanOf_J76 {G : hx_GT} {KK : hx_KT} (hG : hx_K cX12_meanOf 7 0 0 (some .int) TbX12 KK G) (cA : hx_CA RX12 cX12_meanOf 2 0 0 G) {Λ : hx_L} (hF : mF Λ) {μ : hx_M} (v1 : Int32) (v2 : Int32) (v3 : Int32) (v4 : Int32) (v5 : Int32) (v6 : Int32)  {K : Int32 → Prop} (hK : ∀ (r : Int32), K r → KK (some (.int r)) Λ μ) {K9 : Int32 → Int32 → Int32 → Prop} (hk9 : ∀ (v4 : Int32) (v5 : Int32) (v6 : Int32), K9 v4 v5 v6 → G Λ μ (0, 0) 9 [some (.ref 49), some (.int v1), some (.int v2), some (.int v3), some (.int v4), some (.int v5), some (.int v6)] []) (hw : wX12_meanOf_J76 μ K K9 v1 v2 v3 v4 v5 v6) : G Λ μ (0, 0) 76 [some (.ref 49), some (.int v1), some (.int v2), some (.int v3), some (.int v4), some (.int v5), some (.int v6)] [] := by
  unfold wX12_meanOf_J76 at hw
  refine cl_iload_n hG (hx_dq tdX12_meanOf_1 9 rfl) rfl (cl_iconst hG 2 (hx_dq tdX12_meanOf_1 10 rfl) iconst_2 (cl_icmp_ne hG 100 (hx_dq tdX12_meanOf_1 11 rfl) rfl (fun c78 => ?_) (fun c78 => ?_)))
  · replace hw := hw.1 c78
    exact cl_sub hG (hx_le_c rfl (hx_le_c rfl (hx_le_c rfl (hx_le_c rfl (hx_le_c rfl (hx_le_c rfl (hx_le_c rfl hx_le_0))))))) (kX12_meanOf_J100 hG cA hF v1 v2 v3 v4 v5 v6 hK (fun z0 z1 z2 hw => hk9 z0 z1 z2 hw) hw)
  · replace hw := hw.2 c78
    obtain ⟨i87_6, hw⟩ := hw
    obtain ⟨i93_7, hw⟩ := hw
    refine cl_aload_n hG (hx_dq tdX12_meanOf_1 12 rfl) rfl (cl_getS hG fmX12_13 (hx_dq tdX12_meanOf_1 13 rfl) (mF_S49 hF) (mF_R49_7 hF) (cl_iload hG (hx_dq tdX12_meanOf_1 14 rfl) rfl (cl_iald hG (hx_dq tdX12_meanOf_1 15 rfl) (mF_S50 hF) i87_6 (cl_aload_n hG (hx_dq tdX12_meanOf_1 16 rfl) rfl (cl_getS hG fmX12_13 (hx_dq tdX12_meanOf_1 17 rfl) (mF_S49 hF) (mF_R49_7 hF) (cl_iload_n hG (hx_dq tdX12_meanOf_1 18 rfl) rfl (cl_iald hG (hx_dq tdX12_meanOf_1 19 rfl) (mF_S50 hF) i93_7 (cl_icmp_eq hG 100 (hx_dq tdX12_meanOf_1 20 rfl) rfl (fun c94 => ?_) (fun c94 => ?_)))))))))
    · replace hw := hw.1 c94
      exact cl_sub hG (hx_le_c rfl (hx_le_c rfl (hx_le_c rfl (hx_le_c rfl (hx_le_c rfl (hx_le_c rfl (hx_le_c rfl hx_le_0))))))) (kX12_meanOf_J100 hG cA hF v1 v2 v3 v4 v5 v6 hK (fun z0 z1 z2 hw => hk9 z0 z1 z2 hw) hw)
    · replace hw := hw.2 c94
      refine cl_goto hG 115 (hx_dq tdX12_meanOf_1 21 rfl) rfl ?_
      exact cl_sub hG (hx_le_c rfl (hx_le_c rfl (hx_le_c rfl (hx_le_c rfl (hx_le_c rfl (hx_le_c rfl (hx_le_c rfl hx_le_0))))))) (kX12_meanOf_J115_8 hG cA hF v1 v2 v3 v4 v5 v6 hK (fun z0 z1 z2 hw => hk9 z0 z1 z2 hw) hw)
def wX12_meanOf_J115_11 (μ : hx_M) (K : Int32 → Prop) (K9 : Int32 → Int32 → Int32 → Prop) (v1 : Int32) (v2 : Int32) (v3 : Int32) (v4 : Int32) (v5 : Int32) (v6 : Int32)   : Prop := K9 v4 v5 (v6 + 1)
set_option maxRecDepth 100000 in
set_option maxHeartbeats 4000000 in
theorem kX12_meanOf_J115_11 {G : hx_GT} {KK : hx_KT} (hG : hx_K cX12_meanOf 7 0 0 (some .int) TbX12 KK G) (cA : hx_CA RX12 cX12_meanOf 2 0 0 G) {Λ : hx_L} (hF : mF Λ) {μ : hx_M} (v1 : Int32) (v2 : Int32) (v3 : Int32) (v4 : Int32) (v5 : Int32) (v6 : Int32)  {K : Int32 → Prop} (hK : ∀ (r : Int32), K r → KK (some (.int r)) Λ μ) {K9 : Int32 → Int32 → Int32 → Prop} (hk9 : ∀ (v4 : Int32) (v5 : Int32) (v6 : Int32), K9 v4 v5 v6 → G Λ μ (0, 0) 9 [some (.ref 49), some (.int v1), some (.int v2), some (.int v3), some (.int v4), some (.int v5), some (.int v6)] []) (hw : wX12_meanOf_J115_11 μ K K9 v1 v2 v3 v4 v5 v6) : G Λ μ (0, 0) 115 [some (.ref 49), some (.int v1), some (.int v2), some (.int v3), some (.int v4), some (.int v5), some (.int v6)] [] := by
  unfold wX12_meanOf_J115_11 at hw
  exact cl_iinc hG (v6 + 1) (hx_dq tdX12_meanOf_1 30 rfl) rfl (congrArg (fun z => v6 + z) iconst_1) (Nat.le_of_ble_eq_true rfl) rfl (cl_goto hG 9 (hx_dq tdX12_meanOf_1 31 rfl) rfl (cl_sub hG (hx_le_c rfl (hx_le_c rfl (hx_le_c rfl (hx_le_c rfl (hx_le_c rfl (hx_le_c rfl (hx_le_c rfl hx_le_0))))))) (hk9 v4 v5 (v6 + 1) hw)))
def wX12_meanOf_J55 (μ : hx_M) (K : Int32 → Prop) (K9 : Int32 → Int32 → Int32 → Prop) (v1 : Int32) (v2 : Int32) (v3 : Int32) (v4 : Int32) (v5 : Int32) (v6 : Int32)   : Prop := (v2 ≠ 1 → (wX12_meanOf_J76 μ K (K9) v1 v2 v3 v4 v5 v6)) ∧ (v2 = 1 → (vp_in v6 16 ∧ vp_in v1 16 ∧ ((μ.1 50 v1.toNatClampNeg) ≤ (μ.1 50 v6.toNatClampNeg) → (wX12_meanOf_J115_11 μ K (K9) v1 v2 v3 v4 v5 v6)) ∧ (¬ ((μ.1 50 v1.toNatClampNeg) ≤ (μ.1 50 v6.toNatClampNeg)) → (wX12_meanOf_J76 μ K (K9) v1 v2 v3 v4 v5 v6))))
set_option maxRecDepth 100000 in
set_option maxHeartbeats 4000000 in
theorem kX12_meanOf_J55 {G : hx_GT} {KK : hx_KT} (hG : hx_K cX12_meanOf 7 0 0 (some .int) TbX12 KK G) (cA : hx_CA RX12 cX12_meanOf 2 0 0 G) {Λ : hx_L} (hF : mF Λ) {μ : hx_M} (v1 : Int32) (v2 : Int32) (v3 : Int32) (v4 : Int32) (v5 : Int32) (v6 : Int32)  {K : Int32 → Prop} (hK : ∀ (r : Int32), K r → KK (some (.int r)) Λ μ) {K9 : Int32 → Int32 → Int32 → Prop} (hk9 : ∀ (v4 : Int32) (v5 : Int32) (v6 : Int32), K9 v4 v5 v6 → G Λ μ (0, 0) 9 [some (.ref 49), some (.int v1), some (.int v2), some (.int v3), some (.int v4), some (.int v5), some (.int v6)] []) (hw : wX12_meanOf_J55 μ K K9 v1 v2 v3 v4 v5 v6) : G Λ μ (0, 0) 55 [some (.ref 49), some (.int v1), some (.int v2), some (.int v3), some (.int v4), some (.int v5), some (.int v6)] [] := by
  unfold wX12_meanOf_J55 at hw
  refine cl_iload_n hG (hx_dq tdX12_meanOf_0 29 rfl) rfl (cl_iconst hG 1 (hx_dq tdX12_meanOf_0 30 rfl) iconst_1 (cl_icmp_ne hG 76 (hx_dq tdX12_meanOf_0 31 rfl) rfl (fun c57 => ?_) (fun c57 => ?_)))
  · replace hw := hw.1 c57
    exact cl_sub hG (hx_le_c rfl (hx_le_c rfl (hx_le_c rfl (hx_le_c rfl (hx_le_c rfl (hx_le_c rfl (hx_le_c rfl hx_le_0))))))) (kX12_meanOf_J76 hG cA hF v1 v2 v3 v4 v5 v6 hK (fun z0 z1 z2 hw => hk9 z0 z1 z2 hw) hw)
  · replace hw := hw.2 c57
    obtain ⟨i66_9, hw⟩ := hw
    obtain ⟨i72_10, hw⟩ := hw
    refine cl_aload_n hG (hx_dq tdX12_meanOf_1 0 rfl) rfl (cl_getS hG fmX12_13 (hx_dq tdX12_meanOf_1 1 rfl) (mF_S49 hF) (mF_R49_7 hF) (cl_iload hG (hx_dq tdX12_meanOf_1 2 rfl) rfl (cl_iald hG (hx_dq tdX12_meanOf_1 3 rfl) (mF_S50 hF) i66_9 (cl_aload_n hG (hx_dq tdX12_meanOf_1 4 rfl) rfl (cl_getS hG fmX12_13 (hx_dq tdX12_meanOf_1 5 rfl) (mF_S49 hF) (mF_R49_7 hF) (cl_iload_n hG (hx_dq tdX12_meanOf_1 6 rfl) rfl (cl_iald hG (hx_dq tdX12_meanOf_1 7 rfl) (mF_S50 hF) i72_10 (cl_icmp_ge hG 115 (hx_dq tdX12_meanOf_1 8 rfl) rfl (fun c73 => ?_) (fun c73 => ?_)))))))))
    · replace hw := hw.1 c73
      exact cl_sub hG (hx_le_c rfl (hx_le_c rfl (hx_le_c rfl (hx_le_c rfl (hx_le_c rfl (hx_le_c rfl (hx_le_c rfl hx_le_0))))))) (kX12_meanOf_J115_11 hG cA hF v1 v2 v3 v4 v5 v6 hK (fun z0 z1 z2 hw => hk9 z0 z1 z2 hw) hw)
    · replace hw := hw.2 c73
      exact cl_sub hG (hx_le_c rfl (hx_le_c rfl (hx_le_c rfl (hx_le_c rfl (hx_le_c rfl (hx_le_c rfl (hx_le_c rfl hx_le_0))))))) (kX12_meanOf_J76 hG cA hF v1 v2 v3 v4 v5 v6 hK (fun z0 z1 z2 hw => hk9 z0 z1 z2 hw) hw)
def wX12_meanOf_J115_14 (μ : hx_M) (K : Int32 → Prop) (K9 : Int32 → Int32 → Int32 → Prop) (v1 : Int32) (v2 : Int32) (v3 : Int32) (v4 : Int32) (v5 : Int32) (v6 : Int32)   : Prop := K9 v4 v5 (v6 + 1)
set_option maxRecDepth 100000 in
set_option maxHeartbeats 4000000 in
theorem kX12_meanOf_J115_14 {G : hx_GT} {KK : hx_KT} (hG : hx_K cX12_meanOf 7 0 0 (some .int) TbX12 KK G) (cA : hx_CA RX12 cX12_meanOf 2 0 0 G) {Λ : hx_L} (hF : mF Λ) {μ : hx_M} (v1 : Int32) (v2 : Int32) (v3 : Int32) (v4 : Int32) (v5 : Int32) (v6 : Int32)  {K : Int32 → Prop} (hK : ∀ (r : Int32), K r → KK (some (.int r)) Λ μ) {K9 : Int32 → Int32 → Int32 → Prop} (hk9 : ∀ (v4 : Int32) (v5 : Int32) (v6 : Int32), K9 v4 v5 v6 → G Λ μ (0, 0) 9 [some (.ref 49), some (.int v1), some (.int v2), some (.int v3), some (.int v4), some (.int v5), some (.int v6)] []) (hw : wX12_meanOf_J115_14 μ K K9 v1 v2 v3 v4 v5 v6) : G Λ μ (0, 0) 115 [some (.ref 49), some (.int v1), some (.int v2), some (.int v3), some (.int v4), some (.int v5), some (.int v6)] [] := by
  unfold wX12_meanOf_J115_14 at hw
  exact cl_iinc hG (v6 + 1) (hx_dq tdX12_meanOf_1 30 rfl) rfl (congrArg (fun z => v6 + z) iconst_1) (Nat.le_of_ble_eq_true rfl) rfl (cl_goto hG 9 (hx_dq tdX12_meanOf_1 31 rfl) rfl (cl_sub hG (hx_le_c rfl (hx_le_c rfl (hx_le_c rfl (hx_le_c rfl (hx_le_c rfl (hx_le_c rfl (hx_le_c rfl hx_le_0))))))) (hk9 v4 v5 (v6 + 1) hw)))
def wX12_meanOf_L9 (μ : hx_M) (v1 : Int32) (v2 : Int32) (v3 : Int32) (K : Int32 → Prop) (K121 : Int32 → Int32 → Prop) : Nat → Int32 → Int32 → Int32 → Prop
  | 0, _, _, _ => False
  | n + 1, v4, v5, v6 => ((μ.1 49 0) ≤ v6 → (K121 v4 v5)) ∧ (¬ ((μ.1 49 0) ≤ v6) → (vp_in v1 16 ∧ wX12_has (μ.1 54 v1.toNatClampNeg) v6 (fun r26_3 => (r26_3 ≠ 0 → ((v2 ≠ 0 → (wX12_meanOf_J55 μ K (wX12_meanOf_L9 μ v1 v2 v3 K K121 n) v1 v2 v3 v4 v5 v6)) ∧ (v2 = 0 → (vp_in v6 16 ∧ vp_in v1 16 ∧ ((μ.1 50 v6.toNatClampNeg) ≤ (μ.1 50 v1.toNatClampNeg) → (wX12_meanOf_J115_14 μ K (wX12_meanOf_L9 μ v1 v2 v3 K K121 n) v1 v2 v3 v4 v5 v6)) ∧ (¬ ((μ.1 50 v6.toNatClampNeg) ≤ (μ.1 50 v1.toNatClampNeg)) → (wX12_meanOf_J55 μ K (wX12_meanOf_L9 μ v1 v2 v3 K K121 n) v1 v2 v3 v4 v5 v6)))))) ∧ (r26_3 = 0 → (wX12_meanOf_J115_14 μ K (wX12_meanOf_L9 μ v1 v2 v3 K K121 n) v1 v2 v3 v4 v5 v6)))))
set_option maxRecDepth 100000 in
set_option maxHeartbeats 4000000 in
theorem kX12_meanOf_L9 {G : hx_GT} {KK : hx_KT} (hG : hx_K cX12_meanOf 7 0 0 (some .int) TbX12 KK G) (cA : hx_CA RX12 cX12_meanOf 2 0 0 G) {Λ : hx_L} (hF : mF Λ) {μ : hx_M} (v1 : Int32) (v2 : Int32) (v3 : Int32) {K : Int32 → Prop} (hK : ∀ (r : Int32), K r → KK (some (.int r)) Λ μ) {K121 : Int32 → Int32 → Prop} (hk121 : ∀ (v4 : Int32) (v5 : Int32), K121 v4 v5 → G Λ μ (0, 0) 121 [none, none, none, none, some (.int v4), some (.int v5), none] []) : ∀ (n : Nat) (v4 : Int32) (v5 : Int32) (v6 : Int32), wX12_meanOf_L9 μ v1 v2 v3 K K121 n v4 v5 v6 → G Λ μ (0, 0) 9 [some (.ref 49), some (.int v1), some (.int v2), some (.int v3), some (.int v4), some (.int v5), some (.int v6)] [] := by
  intro n
  induction n with
  | zero =>
    intro v4 v5 v6 hw
    exact False.elim (by simpa only [wX12_meanOf_L9] using hw)
  | succ n ih =>
    intro v4 v5 v6 hw
    unfold wX12_meanOf_L9 at hw
    refine cl_iload hG (hx_dq tdX12_meanOf_0 6 rfl) rfl (cl_aload_n hG (hx_dq tdX12_meanOf_0 7 rfl) rfl (cl_getI hG fmX12_154 (hx_dq tdX12_meanOf_0 8 rfl) (mF_S49 hF) (cl_icmp_ge hG 121 (hx_dq tdX12_meanOf_0 9 rfl) rfl (fun c15 => ?_) (fun c15 => ?_))))
    · replace hw := hw.1 c15
      exact cl_sub hG (hx_le_n (hx_le_n (hx_le_n (hx_le_n (hx_le_c rfl (hx_le_c rfl (hx_le_n hx_le_0))))))) (hk121 v4 v5 hw)
    · replace hw := hw.2 c15
      obtain ⟨i23_1, hw⟩ := hw
      refine cl_aload_n hG (hx_dq tdX12_meanOf_0 10 rfl) rfl (cl_getS hG fmX12_26 (hx_dq tdX12_meanOf_0 11 rfl) (mF_S49 hF) (mF_R49_11 hF) (cl_iload_n hG (hx_dq tdX12_meanOf_0 12 rfl) rfl (cl_iald hG (hx_dq tdX12_meanOf_0 13 rfl) (mF_S54 hF) i23_1 (cl_iload hG (hx_dq tdX12_meanOf_0 14 rfl) rfl (cl_callS2 (caX12_meanOf_299 cA) (hx_dq tdX12_meanOf_0 15 rfl) (Nat.le_of_ble_eq_true rfl) (Nat.le_refl _) (Nat.le_refl _) (sX12_has_mk hw (fun r26_3 hw => ?_)))))))
      refine cl_if_ne hG 35 (hx_dq tdX12_meanOf_0 16 rfl) rfl (fun c29 => ?_) (fun c29 => ?_)
      · replace hw := hw.1 c29
        refine cl_iload_n hG (hx_dq tdX12_meanOf_0 18 rfl) rfl (cl_if_ne hG 55 (hx_dq tdX12_meanOf_0 19 rfl) rfl (fun c36 => ?_) (fun c36 => ?_))
        · replace hw := hw.1 c36
          exact cl_sub hG (hx_le_c rfl (hx_le_c rfl (hx_le_c rfl (hx_le_c rfl (hx_le_c rfl (hx_le_c rfl (hx_le_c rfl hx_le_0))))))) (kX12_meanOf_J55 hG cA hF v1 v2 v3 v4 v5 v6 hK (fun z0 z1 z2 hw => ih z0 z1 z2 hw) hw)
        · replace hw := hw.2 c36
          obtain ⟨i45_12, hw⟩ := hw
          obtain ⟨i51_13, hw⟩ := hw
          refine cl_aload_n hG (hx_dq tdX12_meanOf_0 20 rfl) rfl (cl_getS hG fmX12_13 (hx_dq tdX12_meanOf_0 21 rfl) (mF_S49 hF) (mF_R49_7 hF) (cl_iload hG (hx_dq tdX12_meanOf_0 22 rfl) rfl (cl_iald hG (hx_dq tdX12_meanOf_0 23 rfl) (mF_S50 hF) i45_12 (cl_aload_n hG (hx_dq tdX12_meanOf_0 24 rfl) rfl (cl_getS hG fmX12_13 (hx_dq tdX12_meanOf_0 25 rfl) (mF_S49 hF) (mF_R49_7 hF) (cl_iload_n hG (hx_dq tdX12_meanOf_0 26 rfl) rfl (cl_iald hG (hx_dq tdX12_meanOf_0 27 rfl) (mF_S50 hF) i51_13 (cl_icmp_le hG 115 (hx_dq tdX12_meanOf_0 28 rfl) rfl (fun c52 => ?_) (fun c52 => ?_)))))))))
          · replace hw := hw.1 c52
            exact cl_sub hG (hx_le_c rfl (hx_le_c rfl (hx_le_c rfl (hx_le_c rfl (hx_le_c rfl (hx_le_c rfl (hx_le_c rfl hx_le_0))))))) (kX12_meanOf_J115_14 hG cA hF v1 v2 v3 v4 v5 v6 hK (fun z0 z1 z2 hw => ih z0 z1 z2 hw) hw)
          · replace hw := hw.2 c52
            exact cl_sub hG (hx_le_c rfl (hx_le_c rfl (hx_le_c rfl (hx_le_c rfl (hx_le_c rfl (hx_le_c rfl (hx_le_c rfl hx_le_0))))))) (kX12_meanOf_J55 hG cA hF v1 v2 v3 v4 v5 v6 hK (fun z0 z1 z2 hw => ih z0 z1 z2 hw) hw)
      · replace hw := hw.2 c29
        refine cl_goto hG 115 (hx_dq tdX12_meanOf_0 17 rfl) rfl ?_
        exact cl_sub hG (hx_le_c rfl (hx_le_c rfl (hx_le_c rfl (hx_le_c rfl (hx_le_c rfl (hx_le_c rfl (hx_le_c rfl hx_le_0))))))) (kX12_meanOf_J115_14 hG cA hF v1 v2 v3 v4 v5 v6 hK (fun z0 z1 z2 hw => ih z0 z1 z2 hw) hw)
def wX12_meanOf (μ : hx_M) (v1 : Int32) (v2 : Int32) (v3 : Int32) (K : Int32 → Prop) : Prop := ∃ n9_16, wX12_meanOf_L9 μ v1 v2 v3 K (fun v4_15 v5_15 => (v5_15 ≠ 0 → (¬ v5_15 = 0 ∧ K (v4_15 / v5_15))) ∧ (v5_15 = 0 → (K (-1)))) n9_16 0 0 0
set_option maxRecDepth 100000 in
set_option maxHeartbeats 4000000 in
theorem kX12_meanOf {G : hx_GT} {KK : hx_KT} (hG : hx_K cX12_meanOf 7 0 0 (some .int) TbX12 KK G) (cA : hx_CA RX12 cX12_meanOf 2 0 0 G) {Λ : hx_L} (hF : mF Λ) {μ : hx_M} (v1 : Int32) (v2 : Int32) (v3 : Int32) {K : Int32 → Prop} (hK : ∀ (r : Int32), K r → KK (some (.int r)) Λ μ) (hw : wX12_meanOf μ v1 v2 v3 K) : G Λ μ (0, 0) 0 [some (.ref 49), some (.int v1), some (.int v2), some (.int v3), none, none, none] [] := by
  unfold wX12_meanOf at hw
  refine cl_iconst hG 0 (hx_dq tdX12_meanOf_0 0 rfl) iconst_0 (cl_istore hG (hx_dq tdX12_meanOf_0 1 rfl) (Nat.le_of_ble_eq_true rfl) rfl (cl_iconst hG 0 (hx_dq tdX12_meanOf_0 2 rfl) iconst_0 (cl_istore hG (hx_dq tdX12_meanOf_0 3 rfl) (Nat.le_of_ble_eq_true rfl) rfl (cl_iconst hG 0 (hx_dq tdX12_meanOf_0 4 rfl) iconst_0 (cl_istore hG (hx_dq tdX12_meanOf_0 5 rfl) (Nat.le_of_ble_eq_true rfl) rfl ?_)))))
  obtain ⟨n_, hw⟩ := hw
  refine cl_sub hG (hx_le_c rfl (hx_le_c rfl (hx_le_c rfl (hx_le_c rfl (hx_le_c rfl (hx_le_c rfl (hx_le_c rfl hx_le_0))))))) (kX12_meanOf_L9 hG cA hF v1 v2 v3 hK (fun v4_15 v5_15 hw => ?_) n_ 0 0 0 hw)
  · refine cl_iload hG (hx_dq tdX12_meanOf_2 0 rfl) rfl (cl_if_ne hG 130 (hx_dq tdX12_meanOf_2 1 rfl) rfl (fun c123 => ?_) (fun c123 => ?_))
    · replace hw := hw.1 c123
      obtain ⟨o134, hw⟩ := hw
      exact cl_iload hG (hx_dq tdX12_meanOf_2 4 rfl) rfl (cl_iload hG (hx_dq tdX12_meanOf_2 5 rfl) rfl (cl_idiv hG (hx_dq tdX12_meanOf_2 6 rfl) o134 (cl_iret hG (hx_dq tdX12_meanOf_2 7 rfl) rfl rfl (hK _ hw) (Nat.le_refl _) (Nat.le_refl _))))
    · replace hw := hw.2 c123
      exact cl_iconst hG (-1) (hx_dq tdX12_meanOf_2 2 rfl) iconst_m1 (cl_goto hG 135 (hx_dq tdX12_meanOf_2 3 rfl) rfl (cl_iret hG (hx_dq tdX12_meanOf_2 7 rfl) rfl rfl (hK _ hw) (Nat.le_refl _) (Nat.le_refl _)))
def sX12_meanOf : hx_ST := fun Λ μ as KK => mF Λ ∧ ∃ (v1 : Int32) (v2 : Int32) (v3 : Int32) (K : Int32 → Prop), as = [.ref 49, .int v1, .int v2, .int v3] ∧ wX12_meanOf μ v1 v2 v3 K ∧ (∀ (r : Int32), K r → KK (some (.int r)) Λ μ)
theorem sX12_meanOf_mk {Λ : hx_L} {μ : hx_M} {KK : hx_KT} {v1 : Int32} {v2 : Int32} {v3 : Int32} {K : Int32 → Prop} (hF : mF Λ) (hw : wX12_meanOf μ v1 v2 v3 K) (hk : ∀ (r : Int32), K r → KK (some (.int r)) Λ μ) : sX12_meanOf Λ μ [.ref 49, .int v1, .int v2, .int v3] KK := ⟨hF, _, _, _, _, rfl, hw, hk⟩
theorem conX12_meanOf : hx_Con yX12_meanOf cX12_meanOf 7 (some .int) 2 0 0 sX12_meanOf := by
  refine hx_con_of (by decide +kernel) tokX12 (by decide) ?_ ?_
  · intro Λ μ as KK h
    obtain ⟨hF, v1, v2, v3, K, rfl, hw, hK⟩ := h
    exact Nat.le_of_ble_eq_true rfl
  · intro G KK hG cA Λ μ as h
    obtain ⟨hF, v1, v2, v3, K, rfl, hw, hK⟩ := h
    exact cl_sub hG (hx_le_c rfl (hx_le_c rfl (hx_le_c rfl (hx_le_c rfl (hx_le_n (hx_le_n (hx_le_n hx_le_0))))))) (kX12_meanOf hG cA hF _ _ _ hK hw)
/-! HemLineModel.meanOfAll(I)I -/
def tbX12_meanOfAll_0 : List (Nat × Instr × Nat) := [(0, .iload_n 1, 1), (1, .ifCond .lt 10, 3), (4, .aload_n 0, 1), (5, .getfield 154, 3), (8, .ifCond .ne 5, 3), (11, .iconst (-1), 1), (12, .ireturn, 1), (13, .iconst 0, 1), (14, .istore_n 2, 1), (15, .iconst 0, 1), (16, .istore_n 3, 1), (17, .iload_n 3, 1), (18, .aload_n 0, 1), (19, .getfield 154, 3), (22, .if_icmp .ge 18, 3), (25, .iload_n 2, 1), (26, .aload_n 0, 1), (27, .iload_n 3, 1), (28, .iload_n 1, 1), (29, .invokevirtual 302, 3), (32, .iadd, 1), (33, .istore_n 2, 1), (34, .iinc 3 1, 3), (37, .goto (-20), 3), (40, .iload_n 2, 1), (41, .aload_n 0, 1), (42, .getfield 154, 3), (45, .idiv, 1), (46, .ireturn, 1)]
theorem tdX12_meanOfAll_0 : hx_dt cX12_meanOfAll tbX12_meanOfAll_0 = true := by decide +kernel
theorem caX12_meanOfAll_302 {G : hx_GT} (cA : hx_CA RX12 cX12_meanOfAll 2 0 0 G) : hx_CV cX12_meanOfAll G 0 0 302 12 2 sX12_lengthAt 0 0 := cA.1 conX12_lengthAt rfl rfl ⟨by decide +kernel, by decide +kernel, by decide +kernel⟩ mw_1486 mw_1488 mw_54 mw_97 mw_1489 (by decide) (by decide)
def wX12_meanOfAll_L17 (μ : hx_M) (v1 : Int32) (K : Int32 → Prop)  : Nat → Int32 → Int32 → Prop
  | 0, _, _ => False
  | n + 1, v2, v3 => ((μ.1 49 0) ≤ v3 → (¬ (μ.1 49 0) = 0 ∧ K (v2 / (μ.1 49 0)))) ∧ (¬ ((μ.1 49 0) ≤ v3) → (wX12_lengthAt μ v3 v1 (fun r29_2 => wX12_meanOfAll_L17 μ v1 K n (v2 + r29_2) (v3 + 1))))
set_option maxRecDepth 100000 in
set_option maxHeartbeats 4000000 in
theorem kX12_meanOfAll_L17 {G : hx_GT} {KK : hx_KT} (hG : hx_K cX12_meanOfAll 4 0 0 (some .int) TbX12 KK G) (cA : hx_CA RX12 cX12_meanOfAll 2 0 0 G) {Λ : hx_L} (hF : mF Λ) {μ : hx_M} (v1 : Int32) {K : Int32 → Prop} (hK : ∀ (r : Int32), K r → KK (some (.int r)) Λ μ)  : ∀ (n : Nat) (v2 : Int32) (v3 : Int32), wX12_meanOfAll_L17 μ v1 K n v2 v3 → G Λ μ (0, 0) 17 [some (.ref 49), some (.int v1), some (.int v2), some (.int v3)] [] := by
  intro n
  induction n with
  | zero =>
    intro v2 v3 hw
    exact False.elim (by simpa only [wX12_meanOfAll_L17] using hw)
  | succ n ih =>
    intro v2 v3 hw
    unfold wX12_meanOfAll_L17 at hw
    refine cl_iload_n hG (hx_dq tdX12_meanOfAll_0 11 rfl) rfl (cl_aload_n hG (hx_dq tdX12_meanOfAll_0 12 rfl) rfl (cl_getI hG fmX12_154 (hx_dq tdX12_meanOfAll_0 13 rfl) (mF_S49 hF) (cl_icmp_ge hG 40 (hx_dq tdX12_meanOfAll_0 14 rfl) rfl (fun c22 => ?_) (fun c22 => ?_))))
    · replace hw := hw.1 c22
      obtain ⟨o45, hw⟩ := hw
      exact cl_iload_n hG (hx_dq tdX12_meanOfAll_0 24 rfl) rfl (cl_aload_n hG (hx_dq tdX12_meanOfAll_0 25 rfl) rfl (cl_getI hG fmX12_154 (hx_dq tdX12_meanOfAll_0 26 rfl) (mF_S49 hF) (cl_idiv hG (hx_dq tdX12_meanOfAll_0 27 rfl) o45 (cl_iret hG (hx_dq tdX12_meanOfAll_0 28 rfl) rfl rfl (hK _ hw) (Nat.le_refl _) (Nat.le_refl _)))))
    · replace hw := hw.2 c22
      refine cl_iload_n hG (hx_dq tdX12_meanOfAll_0 15 rfl) rfl (cl_aload_n hG (hx_dq tdX12_meanOfAll_0 16 rfl) rfl (cl_iload_n hG (hx_dq tdX12_meanOfAll_0 17 rfl) rfl (cl_iload_n hG (hx_dq tdX12_meanOfAll_0 18 rfl) rfl (cl_callV2 (caX12_meanOfAll_302 cA) (hx_dq tdX12_meanOfAll_0 19 rfl) (mF_S49 hF) (Nat.le_of_ble_eq_true rfl) (Nat.le_refl _) (Nat.le_refl _) (sX12_lengthAt_mk hF hw (fun r29_2 hw => ?_))))))
      exact cl_iadd hG (hx_dq tdX12_meanOfAll_0 20 rfl) (cl_istore_n hG (hx_dq tdX12_meanOfAll_0 21 rfl) (Nat.le_of_ble_eq_true rfl) rfl (cl_iinc hG (v3 + 1) (hx_dq tdX12_meanOfAll_0 22 rfl) rfl (congrArg (fun z => v3 + z) iconst_1) (Nat.le_of_ble_eq_true rfl) rfl (cl_goto hG 17 (hx_dq tdX12_meanOfAll_0 23 rfl) rfl (cl_sub hG (hx_le_c rfl (hx_le_c rfl (hx_le_c rfl (hx_le_c rfl hx_le_0)))) (ih (v2 + r29_2) (v3 + 1) hw)))))
def wX12_meanOfAll (μ : hx_M) (v1 : Int32) (K : Int32 → Prop) : Prop := (v1 < 0 → (K (-1))) ∧ (¬ (v1 < 0) → (((μ.1 49 0) ≠ 0 → (∃ n17_3, wX12_meanOfAll_L17 μ v1 K n17_3 0 0)) ∧ ((μ.1 49 0) = 0 → (K (-1)))))
set_option maxRecDepth 100000 in
set_option maxHeartbeats 4000000 in
theorem kX12_meanOfAll {G : hx_GT} {KK : hx_KT} (hG : hx_K cX12_meanOfAll 4 0 0 (some .int) TbX12 KK G) (cA : hx_CA RX12 cX12_meanOfAll 2 0 0 G) {Λ : hx_L} (hF : mF Λ) {μ : hx_M} (v1 : Int32) {K : Int32 → Prop} (hK : ∀ (r : Int32), K r → KK (some (.int r)) Λ μ) (hw : wX12_meanOfAll μ v1 K) : G Λ μ (0, 0) 0 [some (.ref 49), some (.int v1), none, none] [] := by
  unfold wX12_meanOfAll at hw
  refine cl_iload_n hG (hx_dq tdX12_meanOfAll_0 0 rfl) rfl (cl_if_lt hG 11 (hx_dq tdX12_meanOfAll_0 1 rfl) rfl (fun c1 => ?_) (fun c1 => ?_))
  · replace hw := hw.1 c1
    exact cl_iconst hG (-1) (hx_dq tdX12_meanOfAll_0 5 rfl) iconst_m1 (cl_iret hG (hx_dq tdX12_meanOfAll_0 6 rfl) rfl rfl (hK _ hw) (Nat.le_refl _) (Nat.le_refl _))
  · replace hw := hw.2 c1
    refine cl_aload_n hG (hx_dq tdX12_meanOfAll_0 2 rfl) rfl (cl_getI hG fmX12_154 (hx_dq tdX12_meanOfAll_0 3 rfl) (mF_S49 hF) (cl_if_ne hG 13 (hx_dq tdX12_meanOfAll_0 4 rfl) rfl (fun c8 => ?_) (fun c8 => ?_)))
    · replace hw := hw.1 c8
      refine cl_iconst hG 0 (hx_dq tdX12_meanOfAll_0 7 rfl) iconst_0 (cl_istore_n hG (hx_dq tdX12_meanOfAll_0 8 rfl) (Nat.le_of_ble_eq_true rfl) rfl (cl_iconst hG 0 (hx_dq tdX12_meanOfAll_0 9 rfl) iconst_0 (cl_istore_n hG (hx_dq tdX12_meanOfAll_0 10 rfl) (Nat.le_of_ble_eq_true rfl) rfl ?_)))
      obtain ⟨n_, hw⟩ := hw
      refine cl_sub hG (hx_le_c rfl (hx_le_c rfl (hx_le_c rfl (hx_le_c rfl hx_le_0)))) (kX12_meanOfAll_L17 hG cA hF v1 hK n_ 0 0 hw)
    · replace hw := hw.2 c8
      exact cl_iconst hG (-1) (hx_dq tdX12_meanOfAll_0 5 rfl) iconst_m1 (cl_iret hG (hx_dq tdX12_meanOfAll_0 6 rfl) rfl rfl (hK _ hw) (Nat.le_refl _) (Nat.le_refl _))
def sX12_meanOfAll : hx_ST := fun Λ μ as KK => mF Λ ∧ ∃ (v1 : Int32) (K : Int32 → Prop), as = [.ref 49, .int v1] ∧ wX12_meanOfAll μ v1 K ∧ (∀ (r : Int32), K r → KK (some (.int r)) Λ μ)
theorem sX12_meanOfAll_mk {Λ : hx_L} {μ : hx_M} {KK : hx_KT} {v1 : Int32} {K : Int32 → Prop} (hF : mF Λ) (hw : wX12_meanOfAll μ v1 K) (hk : ∀ (r : Int32), K r → KK (some (.int r)) Λ μ) : sX12_meanOfAll Λ μ [.ref 49, .int v1] KK := ⟨hF, _, _, rfl, hw, hk⟩
theorem conX12_meanOfAll : hx_Con yX12_meanOfAll cX12_meanOfAll 4 (some .int) 2 0 0 sX12_meanOfAll := by
  refine hx_con_of (by decide +kernel) tokX12 (by decide) ?_ ?_
  · intro Λ μ as KK h
    obtain ⟨hF, v1, K, rfl, hw, hK⟩ := h
    exact Nat.le_of_ble_eq_true rfl
  · intro G KK hG cA Λ μ as h
    obtain ⟨hF, v1, K, rfl, hw, hK⟩ := h
    exact cl_sub hG (hx_le_c rfl (hx_le_c rfl (hx_le_n (hx_le_n hx_le_0)))) (kX12_meanOfAll hG cA hF _ hK hw)
/-! HemLineModel.meanBy(II)I -/
def tbX12_meanBy_0 : List (Nat × Instr × Nat) := [(0, .aload_n 0, 1), (1, .getfield 66, 3), (4, .iload_n 1, 1), (5, .iaload, 1), (6, .iconst 4, 1), (7, .if_icmp .ne 15, 3), (10, .aload_n 0, 1), (11, .aload_n 0, 1), (12, .getfield 69, 3), (15, .iload_n 1, 1), (16, .iaload, 1), (17, .iload_n 2, 1), (18, .invokevirtual 306, 3), (21, .ireturn, 1), (22, .aload_n 0, 1), (23, .getfield 66, 3), (26, .iload_n 1, 1), (27, .iaload, 1), (28, .iconst 5, 1), (29, .if_icmp .ne 18, 3), (32, .aload_n 0, 1), (33, .iload_n 2, 1), (34, .aload_n 0, 1), (35, .getfield 69, 3), (38, .iload_n 1, 1), (39, .iaload, 1), (40, .isub, 1), (41, .invokevirtual 309, 3), (44, .goto 14, 3), (47, .aload_n 0, 1), (48, .getfield 101, 3), (51, .aload_n 0, 1)]
def tbX12_meanBy_1 : List (Nat × Instr × Nat) := [(52, .getfield 66, 3), (55, .iload_n 1, 1), (56, .iaload, 1), (57, .iaload, 1), (58, .ireturn, 1)]
theorem tdX12_meanBy_0 : hx_dt cX12_meanBy tbX12_meanBy_0 = true := by decide +kernel
theorem tdX12_meanBy_1 : hx_dt cX12_meanBy tbX12_meanBy_1 = true := by decide +kernel
theorem caX12_meanBy_306 {G : hx_GT} (cA : hx_CA RX12 cX12_meanBy 3 0 0 G) : hx_CV cX12_meanBy G 0 0 306 12 2 sX12_houseAt 0 0 := cA.1 conX12_houseAt rfl rfl ⟨by decide +kernel, by decide +kernel, by decide +kernel⟩ mw_1514 mw_1516 mw_60 mw_97 mw_1517 (by decide) (by decide)
theorem caX12_meanBy_309 {G : hx_GT} (cA : hx_CA RX12 cX12_meanBy 3 0 0 G) : hx_CV cX12_meanBy G 0 0 309 12 1 sX12_meanOfAll 0 0 := cA.1 conX12_meanOfAll rfl rfl ⟨by decide +kernel, by decide +kernel, by decide +kernel⟩ mw_1518 mw_1520 mw_61 mw_97 mw_1521 (by decide) (by decide)
def wX12_meanBy (μ : hx_M) (v1 : Int32) (v2 : Int32) (K : Int32 → Prop) : Prop := vp_in v1 96 ∧ ((μ.1 65 v1.toNatClampNeg) ≠ 4 → (vp_in v1 96 ∧ ((μ.1 65 v1.toNatClampNeg) ≠ 5 → (vp_in v1 96 ∧ vp_in (μ.1 65 v1.toNatClampNeg) 6 ∧ ∀ x_5 : Int32, x_5 = ((μ.1 76 ((μ.1 65 v1.toNatClampNeg).toNatClampNeg))) → K x_5)) ∧ ((μ.1 65 v1.toNatClampNeg) = 5 → (vp_in v1 96 ∧ wX12_meanOfAll μ (v2 - (μ.1 66 v1.toNatClampNeg)) (fun r41_8 => K r41_8))))) ∧ ((μ.1 65 v1.toNatClampNeg) = 4 → (vp_in v1 96 ∧ wX12_houseAt μ (μ.1 66 v1.toNatClampNeg) v2 (fun r18_11 => K r18_11)))
set_option maxRecDepth 100000 in
set_option maxHeartbeats 4000000 in
theorem kX12_meanBy {G : hx_GT} {KK : hx_KT} (hG : hx_K cX12_meanBy 3 0 0 (some .int) TbX12 KK G) (cA : hx_CA RX12 cX12_meanBy 3 0 0 G) {Λ : hx_L} (hF : mF Λ) {μ : hx_M} (v1 : Int32) (v2 : Int32) {K : Int32 → Prop} (hK : ∀ (r : Int32), K r → KK (some (.int r)) Λ μ) (hw : wX12_meanBy μ v1 v2 K) : G Λ μ (0, 0) 0 [some (.ref 49), some (.int v1), some (.int v2)] [] := by
  unfold wX12_meanBy at hw
  obtain ⟨i5_1, hw⟩ := hw
  refine cl_aload_n hG (hx_dq tdX12_meanBy_0 0 rfl) rfl (cl_getS hG fmX12_66 (hx_dq tdX12_meanBy_0 1 rfl) (mF_S49 hF) (mF_R49_30 hF) (cl_iload_n hG (hx_dq tdX12_meanBy_0 2 rfl) rfl (cl_iald hG (hx_dq tdX12_meanBy_0 3 rfl) (mF_S65 hF) i5_1 (cl_iconst hG 4 (hx_dq tdX12_meanBy_0 4 rfl) iconst_4 (cl_icmp_ne hG 22 (hx_dq tdX12_meanBy_0 5 rfl) rfl (fun c7 => ?_) (fun c7 => ?_))))))
  · replace hw := hw.1 c7
    obtain ⟨i27_2, hw⟩ := hw
    refine cl_aload_n hG (hx_dq tdX12_meanBy_0 14 rfl) rfl (cl_getS hG fmX12_66 (hx_dq tdX12_meanBy_0 15 rfl) (mF_S49 hF) (mF_R49_30 hF) (cl_iload_n hG (hx_dq tdX12_meanBy_0 16 rfl) rfl (cl_iald hG (hx_dq tdX12_meanBy_0 17 rfl) (mF_S65 hF) i27_2 (cl_iconst hG 5 (hx_dq tdX12_meanBy_0 18 rfl) iconst_5 (cl_icmp_ne hG 47 (hx_dq tdX12_meanBy_0 19 rfl) rfl (fun c29 => ?_) (fun c29 => ?_))))))
    · replace hw := hw.1 c29
      obtain ⟨i56_3, hw⟩ := hw
      obtain ⟨i57_4, hw⟩ := hw
      refine cl_aload_n hG (hx_dq tdX12_meanBy_0 29 rfl) rfl (cl_getS hG fmX12_101 (hx_dq tdX12_meanBy_0 30 rfl) (mF_S49 hF) (mF_R49_43 hF) (cl_aload_n hG (hx_dq tdX12_meanBy_0 31 rfl) rfl (cl_getS hG fmX12_66 (hx_dq tdX12_meanBy_1 0 rfl) (mF_S49 hF) (mF_R49_30 hF) (cl_iload_n hG (hx_dq tdX12_meanBy_1 1 rfl) rfl (cl_iald hG (hx_dq tdX12_meanBy_1 2 rfl) (mF_S65 hF) i56_3 (cl_iald hG (hx_dq tdX12_meanBy_1 3 rfl) (mF_S76 hF) i57_4 (cl_nmI (fun x_5 e_5 => ?_))))))))
      replace hw := hw x_5 e_5
      exact cl_iret hG (hx_dq tdX12_meanBy_1 4 rfl) rfl rfl (hK _ hw) (Nat.le_refl _) (Nat.le_refl _)
    · replace hw := hw.2 c29
      obtain ⟨i39_6, hw⟩ := hw
      refine cl_aload_n hG (hx_dq tdX12_meanBy_0 20 rfl) rfl (cl_iload_n hG (hx_dq tdX12_meanBy_0 21 rfl) rfl (cl_aload_n hG (hx_dq tdX12_meanBy_0 22 rfl) rfl (cl_getS hG fmX12_69 (hx_dq tdX12_meanBy_0 23 rfl) (mF_S49 hF) (mF_R49_31 hF) (cl_iload_n hG (hx_dq tdX12_meanBy_0 24 rfl) rfl (cl_iald hG (hx_dq tdX12_meanBy_0 25 rfl) (mF_S66 hF) i39_6 (cl_isub hG (hx_dq tdX12_meanBy_0 26 rfl) (cl_callV1 (caX12_meanBy_309 cA) (hx_dq tdX12_meanBy_0 27 rfl) (mF_S49 hF) (Nat.le_of_ble_eq_true rfl) (Nat.le_refl _) (Nat.le_refl _) (sX12_meanOfAll_mk hF hw (fun r41_8 hw => ?_)))))))))
      exact cl_goto hG 58 (hx_dq tdX12_meanBy_0 28 rfl) rfl (cl_iret hG (hx_dq tdX12_meanBy_1 4 rfl) rfl rfl (hK _ hw) (Nat.le_refl _) (Nat.le_refl _))
  · replace hw := hw.2 c7
    obtain ⟨i16_9, hw⟩ := hw
    refine cl_aload_n hG (hx_dq tdX12_meanBy_0 6 rfl) rfl (cl_aload_n hG (hx_dq tdX12_meanBy_0 7 rfl) rfl (cl_getS hG fmX12_69 (hx_dq tdX12_meanBy_0 8 rfl) (mF_S49 hF) (mF_R49_31 hF) (cl_iload_n hG (hx_dq tdX12_meanBy_0 9 rfl) rfl (cl_iald hG (hx_dq tdX12_meanBy_0 10 rfl) (mF_S66 hF) i16_9 (cl_iload_n hG (hx_dq tdX12_meanBy_0 11 rfl) rfl (cl_callV2 (caX12_meanBy_306 cA) (hx_dq tdX12_meanBy_0 12 rfl) (mF_S49 hF) (Nat.le_of_ble_eq_true rfl) (Nat.le_refl _) (Nat.le_refl _) (sX12_houseAt_mk hF hw (fun r18_11 hw => ?_))))))))
    exact cl_iret hG (hx_dq tdX12_meanBy_0 13 rfl) rfl rfl (hK _ hw) (Nat.le_refl _) (Nat.le_refl _)
def sX12_meanBy : hx_ST := fun Λ μ as KK => mF Λ ∧ ∃ (v1 : Int32) (v2 : Int32) (K : Int32 → Prop), as = [.ref 49, .int v1, .int v2] ∧ wX12_meanBy μ v1 v2 K ∧ (∀ (r : Int32), K r → KK (some (.int r)) Λ μ)
theorem sX12_meanBy_mk {Λ : hx_L} {μ : hx_M} {KK : hx_KT} {v1 : Int32} {v2 : Int32} {K : Int32 → Prop} (hF : mF Λ) (hw : wX12_meanBy μ v1 v2 K) (hk : ∀ (r : Int32), K r → KK (some (.int r)) Λ μ) : sX12_meanBy Λ μ [.ref 49, .int v1, .int v2] KK := ⟨hF, _, _, _, rfl, hw, hk⟩
theorem conX12_meanBy : hx_Con yX12_meanBy cX12_meanBy 3 (some .int) 3 0 0 sX12_meanBy := by
  refine hx_con_of (by decide +kernel) tokX12 (by decide) ?_ ?_
  · intro Λ μ as KK h
    obtain ⟨hF, v1, v2, K, rfl, hw, hK⟩ := h
    exact Nat.le_of_ble_eq_true rfl
  · intro G KK hG cA Λ μ as h
    obtain ⟨hF, v1, v2, K, rfl, hw, hK⟩ := h
    exact cl_sub hG (hx_le_c rfl (hx_le_c rfl (hx_le_c rfl hx_le_0))) (kX12_meanBy hG cA hF _ _ hK hw)
/-! HemLineModel.isTrue(II)Z -/
def tbX12_isTrue_0 : List (Nat × Instr × Nat) := [(0, .iconst 0, 1), (1, .istore_n 3, 1), (2, .iload_n 1, 1), (3, .istore 4, 2), (5, .iload 4, 2), (7, .iload_n 2, 1), (8, .if_icmp .ge 237, 3), (11, .aload_n 0, 1), (12, .getfield 81, 3), (15, .iload 4, 2), (17, .iaload, 1), (18, .iconst 2, 1), (19, .if_icmp .gt 107, 3), (22, .aload_n 0, 1), (23, .getfield 104, 3), (26, .aload_n 0, 1), (27, .getfield 84, 3), (30, .iload 4, 2), (32, .iaload, 1), (33, .iaload, 1), (34, .istore 5, 2), (36, .aload_n 0, 1), (37, .getfield 90, 3), (40, .iload_n 3, 1), (41, .aload_n 0, 1), (42, .getfield 81, 3), (45, .iload 4, 2), (47, .iaload, 1), (48, .ifCond .ne 23, 3), (51, .iload 5, 2), (53, .aload_n 0, 1), (54, .getfield 87, 3)]
def tbX12_isTrue_1 : List (Nat × Instr × Nat) := [(57, .iload 4, 2), (59, .iaload, 1), (60, .if_icmp .ge 7, 3), (63, .iconst 1, 1), (64, .goto 55, 3), (67, .iconst 0, 1), (68, .goto 51, 3), (71, .aload_n 0, 1), (72, .getfield 81, 3), (75, .iload 4, 2), (77, .iaload, 1), (78, .iconst 1, 1), (79, .if_icmp .ne 23, 3), (82, .iload 5, 2), (84, .aload_n 0, 1), (85, .getfield 87, 3), (88, .iload 4, 2), (90, .iaload, 1), (91, .if_icmp .le 7, 3), (94, .iconst 1, 1), (95, .goto 24, 3), (98, .iconst 0, 1), (99, .goto 20, 3), (102, .iload 5, 2), (104, .aload_n 0, 1), (105, .getfield 87, 3), (108, .iload 4, 2), (110, .iaload, 1), (111, .if_icmp .ne 7, 3), (114, .iconst 1, 1), (115, .goto 4, 3), (118, .iconst 0, 1)]
def tbX12_isTrue_2 : List (Nat × Instr × Nat) := [(119, .bastore, 1), (120, .iinc 3 1, 3), (123, .goto 116, 3), (126, .aload_n 0, 1), (127, .getfield 81, 3), (130, .iload 4, 2), (132, .iaload, 1), (133, .iconst 5, 1), (134, .if_icmp .ne 30, 3), (137, .aload_n 0, 1), (138, .getfield 90, 3), (141, .iload_n 3, 1), (142, .iconst 1, 1), (143, .isub, 1), (144, .aload_n 0, 1), (145, .getfield 90, 3), (148, .iload_n 3, 1), (149, .iconst 1, 1), (150, .isub, 1), (151, .baload, 1), (152, .ifCond .ne 7, 3), (155, .iconst 1, 1), (156, .goto 4, 3), (159, .iconst 0, 1), (160, .bastore, 1), (161, .goto 78, 3), (164, .iinc 3 (-1), 3), (167, .aload_n 0, 1), (168, .getfield 90, 3), (171, .iload_n 3, 1), (172, .iconst 1, 1), (173, .isub, 1)]
def tbX12_isTrue_3 : List (Nat × Instr × Nat) := [(174, .aload_n 0, 1), (175, .getfield 81, 3), (178, .iload 4, 2), (180, .iaload, 1), (181, .iconst 3, 1), (182, .if_icmp .ne 31, 3), (185, .aload_n 0, 1), (186, .getfield 90, 3), (189, .iload_n 3, 1), (190, .iconst 1, 1), (191, .isub, 1), (192, .baload, 1), (193, .ifCond .ne 12, 3), (196, .aload_n 0, 1), (197, .getfield 90, 3), (200, .iload_n 3, 1), (201, .baload, 1), (202, .ifCond .eq 7, 3), (205, .iconst 1, 1), (206, .goto 32, 3), (209, .iconst 0, 1), (210, .goto 28, 3), (213, .aload_n 0, 1), (214, .getfield 90, 3), (217, .iload_n 3, 1), (218, .iconst 1, 1), (219, .isub, 1), (220, .baload, 1), (221, .ifCond .eq 16, 3), (224, .aload_n 0, 1), (225, .getfield 90, 3), (228, .iload_n 3, 1)]
def tbX12_isTrue_4 : List (Nat × Instr × Nat) := [(229, .baload, 1), (230, .ifCond .eq 7, 3), (233, .iconst 1, 1), (234, .goto 4, 3), (237, .iconst 0, 1), (238, .bastore, 1), (239, .iinc 4 1, 3), (242, .goto (-237), 3), (245, .aload_n 0, 1), (246, .getfield 90, 3), (249, .iconst 0, 1), (250, .baload, 1), (251, .ireturn, 1)]
theorem tdX12_isTrue_0 : hx_dt cX12_isTrue tbX12_isTrue_0 = true := by decide +kernel
theorem tdX12_isTrue_1 : hx_dt cX12_isTrue tbX12_isTrue_1 = true := by decide +kernel
theorem tdX12_isTrue_2 : hx_dt cX12_isTrue tbX12_isTrue_2 = true := by decide +kernel
theorem tdX12_isTrue_3 : hx_dt cX12_isTrue tbX12_isTrue_3 = true := by decide +kernel
theorem tdX12_isTrue_4 : hx_dt cX12_isTrue tbX12_isTrue_4 = true := by decide +kernel
def wX12_isTrue_J239  (K : Int32 → hx_M → Prop) (K5 : Int32 → Int32 → hx_M → Prop) (v2 : Int32) (v3 : Int32) (v4 : Int32)  (μ : hx_M) : Prop := K5 v3 (v4 + 1) μ
set_option maxRecDepth 100000 in
set_option maxHeartbeats 4000000 in
theorem kX12_isTrue_J239 {G : hx_GT} {KK : hx_KT} (hG : hx_K cX12_isTrue 6 0 0 (some .boolean) TbX12 KK G) (cA : hx_CA RX12 cX12_isTrue 1 0 0 G) {Λ : hx_L} (hF : mF Λ) {μ : hx_M} (v2 : Int32) (v3 : Int32) (v4 : Int32)  {K : Int32 → hx_M → Prop} (hK : ∀ (r : Int32) (m : hx_M), K r m → KK (some (.int r)) Λ m) {K5 : Int32 → Int32 → hx_M → Prop} (hk5 : ∀ (v3 : Int32) (v4 : Int32) (μ : hx_M), K5 v3 v4 μ → G Λ μ (0, 0) 5 [some (.ref 49), none, some (.int v2), some (.int v3), some (.int v4), none] []) (hw : wX12_isTrue_J239 K K5 v2 v3 v4 μ) : G Λ μ (0, 0) 239 [some (.ref 49), none, some (.int v2), some (.int v3), some (.int v4), none] [] := by
  unfold wX12_isTrue_J239 at hw
  exact cl_iinc hG (v4 + 1) (hx_dq tdX12_isTrue_4 6 rfl) rfl (congrArg (fun z => v4 + z) iconst_1) (Nat.le_of_ble_eq_true rfl) rfl (cl_goto hG 5 (hx_dq tdX12_isTrue_4 7 rfl) rfl (cl_sub hG (hx_le_c rfl (hx_le_n (hx_le_c rfl (hx_le_c rfl (hx_le_c rfl (hx_le_n hx_le_0)))))) (hk5 v3 (v4 + 1) _ hw)))
def wX12_isTrue_J238  (K : Int32 → hx_M → Prop) (K5 : Int32 → Int32 → hx_M → Prop) (v2 : Int32) (v3 : Int32) (v4 : Int32) (t1 : Int32) (t2 : Int32) (μ : hx_M) : Prop := vp_in t1 64 ∧ wX12_isTrue_J239 K (K5) v2 v3 v4 (hx_sI μ 73 t1.toNatClampNeg (vp_nar .boolean t2))
set_option maxRecDepth 100000 in
set_option maxHeartbeats 4000000 in
theorem kX12_isTrue_J238 {G : hx_GT} {KK : hx_KT} (hG : hx_K cX12_isTrue 6 0 0 (some .boolean) TbX12 KK G) (cA : hx_CA RX12 cX12_isTrue 1 0 0 G) {Λ : hx_L} (hF : mF Λ) {μ : hx_M} (v2 : Int32) (v3 : Int32) (v4 : Int32) (t1 : Int32) (t2 : Int32) {K : Int32 → hx_M → Prop} (hK : ∀ (r : Int32) (m : hx_M), K r m → KK (some (.int r)) Λ m) {K5 : Int32 → Int32 → hx_M → Prop} (hk5 : ∀ (v3 : Int32) (v4 : Int32) (μ : hx_M), K5 v3 v4 μ → G Λ μ (0, 0) 5 [some (.ref 49), none, some (.int v2), some (.int v3), some (.int v4), none] []) (hw : wX12_isTrue_J238 K K5 v2 v3 v4 t1 t2 μ) : G Λ μ (0, 0) 238 [some (.ref 49), none, some (.int v2), some (.int v3), some (.int v4), none] [.int t2, .int t1, .ref 73] := by
  unfold wX12_isTrue_J238 at hw
  obtain ⟨i238_6, hw⟩ := hw
  refine cl_zast hG (hx_dq tdX12_isTrue_4 5 rfl) (mF_S73 hF) i238_6 ?_
  exact cl_sub hG (hx_le_c rfl (hx_le_n (hx_le_c rfl (hx_le_c rfl (hx_le_c rfl (hx_le_n hx_le_0)))))) (kX12_isTrue_J239 hG cA hF v2 v3 v4 hK (fun z0 z1 z2 hw => hk5 z0 z1 z2 hw) hw)
def wX12_isTrue_J237  (K : Int32 → hx_M → Prop) (K5 : Int32 → Int32 → hx_M → Prop) (v2 : Int32) (v3 : Int32) (v4 : Int32) (t1 : Int32) (μ : hx_M) : Prop := wX12_isTrue_J238 K (K5) v2 v3 v4 t1 0 μ
set_option maxRecDepth 100000 in
set_option maxHeartbeats 4000000 in
theorem kX12_isTrue_J237 {G : hx_GT} {KK : hx_KT} (hG : hx_K cX12_isTrue 6 0 0 (some .boolean) TbX12 KK G) (cA : hx_CA RX12 cX12_isTrue 1 0 0 G) {Λ : hx_L} (hF : mF Λ) {μ : hx_M} (v2 : Int32) (v3 : Int32) (v4 : Int32) (t1 : Int32) {K : Int32 → hx_M → Prop} (hK : ∀ (r : Int32) (m : hx_M), K r m → KK (some (.int r)) Λ m) {K5 : Int32 → Int32 → hx_M → Prop} (hk5 : ∀ (v3 : Int32) (v4 : Int32) (μ : hx_M), K5 v3 v4 μ → G Λ μ (0, 0) 5 [some (.ref 49), none, some (.int v2), some (.int v3), some (.int v4), none] []) (hw : wX12_isTrue_J237 K K5 v2 v3 v4 t1 μ) : G Λ μ (0, 0) 237 [some (.ref 49), none, some (.int v2), some (.int v3), some (.int v4), none] [.int t1, .ref 73] := by
  unfold wX12_isTrue_J237 at hw
  refine cl_iconst hG 0 (hx_dq tdX12_isTrue_4 4 rfl) iconst_0 ?_
  exact cl_sub hG (hx_le_c rfl (hx_le_n (hx_le_c rfl (hx_le_c rfl (hx_le_c rfl (hx_le_n hx_le_0)))))) (kX12_isTrue_J238 hG cA hF v2 v3 v4 t1 0 hK (fun z0 z1 z2 hw => hk5 z0 z1 z2 hw) hw)
def wX12_isTrue_J239_10  (K : Int32 → hx_M → Prop) (K5 : Int32 → Int32 → hx_M → Prop) (v2 : Int32) (v3 : Int32) (v4 : Int32)  (μ : hx_M) : Prop := K5 v3 (v4 + 1) μ
set_option maxRecDepth 100000 in
set_option maxHeartbeats 4000000 in
theorem kX12_isTrue_J239_10 {G : hx_GT} {KK : hx_KT} (hG : hx_K cX12_isTrue 6 0 0 (some .boolean) TbX12 KK G) (cA : hx_CA RX12 cX12_isTrue 1 0 0 G) {Λ : hx_L} (hF : mF Λ) {μ : hx_M} (v2 : Int32) (v3 : Int32) (v4 : Int32)  {K : Int32 → hx_M → Prop} (hK : ∀ (r : Int32) (m : hx_M), K r m → KK (some (.int r)) Λ m) {K5 : Int32 → Int32 → hx_M → Prop} (hk5 : ∀ (v3 : Int32) (v4 : Int32) (μ : hx_M), K5 v3 v4 μ → G Λ μ (0, 0) 5 [some (.ref 49), none, some (.int v2), some (.int v3), some (.int v4), none] []) (hw : wX12_isTrue_J239_10 K K5 v2 v3 v4 μ) : G Λ μ (0, 0) 239 [some (.ref 49), none, some (.int v2), some (.int v3), some (.int v4), none] [] := by
  unfold wX12_isTrue_J239_10 at hw
  exact cl_iinc hG (v4 + 1) (hx_dq tdX12_isTrue_4 6 rfl) rfl (congrArg (fun z => v4 + z) iconst_1) (Nat.le_of_ble_eq_true rfl) rfl (cl_goto hG 5 (hx_dq tdX12_isTrue_4 7 rfl) rfl (cl_sub hG (hx_le_c rfl (hx_le_n (hx_le_c rfl (hx_le_c rfl (hx_le_c rfl (hx_le_n hx_le_0)))))) (hk5 v3 (v4 + 1) _ hw)))
def wX12_isTrue_J238_8  (K : Int32 → hx_M → Prop) (K5 : Int32 → Int32 → hx_M → Prop) (v2 : Int32) (v3 : Int32) (v4 : Int32) (t1 : Int32) (t2 : Int32) (μ : hx_M) : Prop := vp_in t1 64 ∧ wX12_isTrue_J239_10 K (K5) v2 v3 v4 (hx_sI μ 73 t1.toNatClampNeg (vp_nar .boolean t2))
set_option maxRecDepth 100000 in
set_option maxHeartbeats 4000000 in
theorem kX12_isTrue_J238_8 {G : hx_GT} {KK : hx_KT} (hG : hx_K cX12_isTrue 6 0 0 (some .boolean) TbX12 KK G) (cA : hx_CA RX12 cX12_isTrue 1 0 0 G) {Λ : hx_L} (hF : mF Λ) {μ : hx_M} (v2 : Int32) (v3 : Int32) (v4 : Int32) (t1 : Int32) (t2 : Int32) {K : Int32 → hx_M → Prop} (hK : ∀ (r : Int32) (m : hx_M), K r m → KK (some (.int r)) Λ m) {K5 : Int32 → Int32 → hx_M → Prop} (hk5 : ∀ (v3 : Int32) (v4 : Int32) (μ : hx_M), K5 v3 v4 μ → G Λ μ (0, 0) 5 [some (.ref 49), none, some (.int v2), some (.int v3), some (.int v4), none] []) (hw : wX12_isTrue_J238_8 K K5 v2 v3 v4 t1 t2 μ) : G Λ μ (0, 0) 238 [some (.ref 49), none, some (.int v2), some (.int v3), some (.int v4), none] [.int t2, .int t1, .ref 73] := by
  unfold wX12_isTrue_J238_8 at hw
  obtain ⟨i238_9, hw⟩ := hw
  refine cl_zast hG (hx_dq tdX12_isTrue_4 5 rfl) (mF_S73 hF) i238_9 ?_
  exact cl_sub hG (hx_le_c rfl (hx_le_n (hx_le_c rfl (hx_le_c rfl (hx_le_c rfl (hx_le_n hx_le_0)))))) (kX12_isTrue_J239_10 hG cA hF v2 v3 v4 hK (fun z0 z1 z2 hw => hk5 z0 z1 z2 hw) hw)
def wX12_isTrue_J239_14  (K : Int32 → hx_M → Prop) (K5 : Int32 → Int32 → hx_M → Prop) (v2 : Int32) (v3 : Int32) (v4 : Int32)  (μ : hx_M) : Prop := K5 v3 (v4 + 1) μ
set_option maxRecDepth 100000 in
set_option maxHeartbeats 4000000 in
theorem kX12_isTrue_J239_14 {G : hx_GT} {KK : hx_KT} (hG : hx_K cX12_isTrue 6 0 0 (some .boolean) TbX12 KK G) (cA : hx_CA RX12 cX12_isTrue 1 0 0 G) {Λ : hx_L} (hF : mF Λ) {μ : hx_M} (v2 : Int32) (v3 : Int32) (v4 : Int32)  {K : Int32 → hx_M → Prop} (hK : ∀ (r : Int32) (m : hx_M), K r m → KK (some (.int r)) Λ m) {K5 : Int32 → Int32 → hx_M → Prop} (hk5 : ∀ (v3 : Int32) (v4 : Int32) (μ : hx_M), K5 v3 v4 μ → G Λ μ (0, 0) 5 [some (.ref 49), none, some (.int v2), some (.int v3), some (.int v4), none] []) (hw : wX12_isTrue_J239_14 K K5 v2 v3 v4 μ) : G Λ μ (0, 0) 239 [some (.ref 49), none, some (.int v2), some (.int v3), some (.int v4), none] [] := by
  unfold wX12_isTrue_J239_14 at hw
  exact cl_iinc hG (v4 + 1) (hx_dq tdX12_isTrue_4 6 rfl) rfl (congrArg (fun z => v4 + z) iconst_1) (Nat.le_of_ble_eq_true rfl) rfl (cl_goto hG 5 (hx_dq tdX12_isTrue_4 7 rfl) rfl (cl_sub hG (hx_le_c rfl (hx_le_n (hx_le_c rfl (hx_le_c rfl (hx_le_c rfl (hx_le_n hx_le_0)))))) (hk5 v3 (v4 + 1) _ hw)))
def wX12_isTrue_J238_12  (K : Int32 → hx_M → Prop) (K5 : Int32 → Int32 → hx_M → Prop) (v2 : Int32) (v3 : Int32) (v4 : Int32) (t1 : Int32) (t2 : Int32) (μ : hx_M) : Prop := vp_in t1 64 ∧ wX12_isTrue_J239_14 K (K5) v2 v3 v4 (hx_sI μ 73 t1.toNatClampNeg (vp_nar .boolean t2))
set_option maxRecDepth 100000 in
set_option maxHeartbeats 4000000 in
theorem kX12_isTrue_J238_12 {G : hx_GT} {KK : hx_KT} (hG : hx_K cX12_isTrue 6 0 0 (some .boolean) TbX12 KK G) (cA : hx_CA RX12 cX12_isTrue 1 0 0 G) {Λ : hx_L} (hF : mF Λ) {μ : hx_M} (v2 : Int32) (v3 : Int32) (v4 : Int32) (t1 : Int32) (t2 : Int32) {K : Int32 → hx_M → Prop} (hK : ∀ (r : Int32) (m : hx_M), K r m → KK (some (.int r)) Λ m) {K5 : Int32 → Int32 → hx_M → Prop} (hk5 : ∀ (v3 : Int32) (v4 : Int32) (μ : hx_M), K5 v3 v4 μ → G Λ μ (0, 0) 5 [some (.ref 49), none, some (.int v2), some (.int v3), some (.int v4), none] []) (hw : wX12_isTrue_J238_12 K K5 v2 v3 v4 t1 t2 μ) : G Λ μ (0, 0) 238 [some (.ref 49), none, some (.int v2), some (.int v3), some (.int v4), none] [.int t2, .int t1, .ref 73] := by
  unfold wX12_isTrue_J238_12 at hw
  obtain ⟨i238_13, hw⟩ := hw
  refine cl_zast hG (hx_dq tdX12_isTrue_4 5 rfl) (mF_S73 hF) i238_13 ?_
  exact cl_sub hG (hx_le_c rfl (hx_le_n (hx_le_c rfl (hx_le_c rfl (hx_le_c rfl (hx_le_n hx_le_0)))))) (kX12_isTrue_J239_14 hG cA hF v2 v3 v4 hK (fun z0 z1 z2 hw => hk5 z0 z1 z2 hw) hw)
def wX12_isTrue_J205  (K : Int32 → hx_M → Prop) (K5 : Int32 → Int32 → hx_M → Prop) (v2 : Int32) (v3 : Int32) (v4 : Int32) (t1 : Int32) (μ : hx_M) : Prop := wX12_isTrue_J238_12 K (K5) v2 v3 v4 t1 1 μ
set_option maxRecDepth 100000 in
set_option maxHeartbeats 4000000 in
theorem kX12_isTrue_J205 {G : hx_GT} {KK : hx_KT} (hG : hx_K cX12_isTrue 6 0 0 (some .boolean) TbX12 KK G) (cA : hx_CA RX12 cX12_isTrue 1 0 0 G) {Λ : hx_L} (hF : mF Λ) {μ : hx_M} (v2 : Int32) (v3 : Int32) (v4 : Int32) (t1 : Int32) {K : Int32 → hx_M → Prop} (hK : ∀ (r : Int32) (m : hx_M), K r m → KK (some (.int r)) Λ m) {K5 : Int32 → Int32 → hx_M → Prop} (hk5 : ∀ (v3 : Int32) (v4 : Int32) (μ : hx_M), K5 v3 v4 μ → G Λ μ (0, 0) 5 [some (.ref 49), none, some (.int v2), some (.int v3), some (.int v4), none] []) (hw : wX12_isTrue_J205 K K5 v2 v3 v4 t1 μ) : G Λ μ (0, 0) 205 [some (.ref 49), none, some (.int v2), some (.int v3), some (.int v4), none] [.int t1, .ref 73] := by
  unfold wX12_isTrue_J205 at hw
  refine cl_iconst hG 1 (hx_dq tdX12_isTrue_3 18 rfl) iconst_1 (cl_goto hG 238 (hx_dq tdX12_isTrue_3 19 rfl) rfl ?_)
  exact cl_sub hG (hx_le_c rfl (hx_le_n (hx_le_c rfl (hx_le_c rfl (hx_le_c rfl (hx_le_n hx_le_0)))))) (kX12_isTrue_J238_12 hG cA hF v2 v3 v4 t1 1 hK (fun z0 z1 z2 hw => hk5 z0 z1 z2 hw) hw)
def wX12_isTrue_J239_18  (K : Int32 → hx_M → Prop) (K5 : Int32 → Int32 → hx_M → Prop) (v2 : Int32) (v3 : Int32) (v4 : Int32)  (μ : hx_M) : Prop := K5 v3 (v4 + 1) μ
set_option maxRecDepth 100000 in
set_option maxHeartbeats 4000000 in
theorem kX12_isTrue_J239_18 {G : hx_GT} {KK : hx_KT} (hG : hx_K cX12_isTrue 6 0 0 (some .boolean) TbX12 KK G) (cA : hx_CA RX12 cX12_isTrue 1 0 0 G) {Λ : hx_L} (hF : mF Λ) {μ : hx_M} (v2 : Int32) (v3 : Int32) (v4 : Int32)  {K : Int32 → hx_M → Prop} (hK : ∀ (r : Int32) (m : hx_M), K r m → KK (some (.int r)) Λ m) {K5 : Int32 → Int32 → hx_M → Prop} (hk5 : ∀ (v3 : Int32) (v4 : Int32) (μ : hx_M), K5 v3 v4 μ → G Λ μ (0, 0) 5 [some (.ref 49), none, some (.int v2), some (.int v3), some (.int v4), none] []) (hw : wX12_isTrue_J239_18 K K5 v2 v3 v4 μ) : G Λ μ (0, 0) 239 [some (.ref 49), none, some (.int v2), some (.int v3), some (.int v4), none] [] := by
  unfold wX12_isTrue_J239_18 at hw
  exact cl_iinc hG (v4 + 1) (hx_dq tdX12_isTrue_4 6 rfl) rfl (congrArg (fun z => v4 + z) iconst_1) (Nat.le_of_ble_eq_true rfl) rfl (cl_goto hG 5 (hx_dq tdX12_isTrue_4 7 rfl) rfl (cl_sub hG (hx_le_c rfl (hx_le_n (hx_le_c rfl (hx_le_c rfl (hx_le_c rfl (hx_le_n hx_le_0)))))) (hk5 v3 (v4 + 1) _ hw)))
def wX12_isTrue_J160  (K : Int32 → hx_M → Prop) (K5 : Int32 → Int32 → hx_M → Prop) (v2 : Int32) (v3 : Int32) (v4 : Int32) (t1 : Int32) (t2 : Int32) (μ : hx_M) : Prop := vp_in t1 64 ∧ wX12_isTrue_J239_18 K (K5) v2 v3 v4 (hx_sI μ 73 t1.toNatClampNeg (vp_nar .boolean t2))
set_option maxRecDepth 100000 in
set_option maxHeartbeats 4000000 in
theorem kX12_isTrue_J160 {G : hx_GT} {KK : hx_KT} (hG : hx_K cX12_isTrue 6 0 0 (some .boolean) TbX12 KK G) (cA : hx_CA RX12 cX12_isTrue 1 0 0 G) {Λ : hx_L} (hF : mF Λ) {μ : hx_M} (v2 : Int32) (v3 : Int32) (v4 : Int32) (t1 : Int32) (t2 : Int32) {K : Int32 → hx_M → Prop} (hK : ∀ (r : Int32) (m : hx_M), K r m → KK (some (.int r)) Λ m) {K5 : Int32 → Int32 → hx_M → Prop} (hk5 : ∀ (v3 : Int32) (v4 : Int32) (μ : hx_M), K5 v3 v4 μ → G Λ μ (0, 0) 5 [some (.ref 49), none, some (.int v2), some (.int v3), some (.int v4), none] []) (hw : wX12_isTrue_J160 K K5 v2 v3 v4 t1 t2 μ) : G Λ μ (0, 0) 160 [some (.ref 49), none, some (.int v2), some (.int v3), some (.int v4), none] [.int t2, .int t1, .ref 73] := by
  unfold wX12_isTrue_J160 at hw
  obtain ⟨i160_17, hw⟩ := hw
  refine cl_zast hG (hx_dq tdX12_isTrue_2 24 rfl) (mF_S73 hF) i160_17 (cl_goto hG 239 (hx_dq tdX12_isTrue_2 25 rfl) rfl ?_)
  exact cl_sub hG (hx_le_c rfl (hx_le_n (hx_le_c rfl (hx_le_c rfl (hx_le_c rfl (hx_le_n hx_le_0)))))) (kX12_isTrue_J239_18 hG cA hF v2 v3 v4 hK (fun z0 z1 z2 hw => hk5 z0 z1 z2 hw) hw)
def wX12_isTrue_J239_26  (K : Int32 → hx_M → Prop) (K5 : Int32 → Int32 → hx_M → Prop) (v2 : Int32) (v3 : Int32) (v4 : Int32)  (μ : hx_M) : Prop := K5 v3 (v4 + 1) μ
set_option maxRecDepth 100000 in
set_option maxHeartbeats 4000000 in
theorem kX12_isTrue_J239_26 {G : hx_GT} {KK : hx_KT} (hG : hx_K cX12_isTrue 6 0 0 (some .boolean) TbX12 KK G) (cA : hx_CA RX12 cX12_isTrue 1 0 0 G) {Λ : hx_L} (hF : mF Λ) {μ : hx_M} (v2 : Int32) (v3 : Int32) (v4 : Int32)  {K : Int32 → hx_M → Prop} (hK : ∀ (r : Int32) (m : hx_M), K r m → KK (some (.int r)) Λ m) {K5 : Int32 → Int32 → hx_M → Prop} (hk5 : ∀ (v3 : Int32) (v4 : Int32) (μ : hx_M), K5 v3 v4 μ → G Λ μ (0, 0) 5 [some (.ref 49), none, some (.int v2), some (.int v3), some (.int v4), none] []) (hw : wX12_isTrue_J239_26 K K5 v2 v3 v4 μ) : G Λ μ (0, 0) 239 [some (.ref 49), none, some (.int v2), some (.int v3), some (.int v4), none] [] := by
  unfold wX12_isTrue_J239_26 at hw
  exact cl_iinc hG (v4 + 1) (hx_dq tdX12_isTrue_4 6 rfl) rfl (congrArg (fun z => v4 + z) iconst_1) (Nat.le_of_ble_eq_true rfl) rfl (cl_goto hG 5 (hx_dq tdX12_isTrue_4 7 rfl) rfl (cl_sub hG (hx_le_c rfl (hx_le_n (hx_le_c rfl (hx_le_c rfl (hx_le_c rfl (hx_le_n hx_le_0)))))) (hk5 v3 (v4 + 1) _ hw)))
def wX12_isTrue_J119  (K : Int32 → hx_M → Prop) (K5 : Int32 → Int32 → hx_M → Prop) (v2 : Int32) (v3 : Int32) (v4 : Int32) (t1 : Int32) (t2 : Int32) (μ : hx_M) : Prop := vp_in t1 64 ∧ wX12_isTrue_J239_26 K (K5) v2 (v3 + 1) v4 (hx_sI μ 73 t1.toNatClampNeg (vp_nar .boolean t2))
set_option maxRecDepth 100000 in
set_option maxHeartbeats 4000000 in
theorem kX12_isTrue_J119 {G : hx_GT} {KK : hx_KT} (hG : hx_K cX12_isTrue 6 0 0 (some .boolean) TbX12 KK G) (cA : hx_CA RX12 cX12_isTrue 1 0 0 G) {Λ : hx_L} (hF : mF Λ) {μ : hx_M} (v2 : Int32) (v3 : Int32) (v4 : Int32) (t1 : Int32) (t2 : Int32) {K : Int32 → hx_M → Prop} (hK : ∀ (r : Int32) (m : hx_M), K r m → KK (some (.int r)) Λ m) {K5 : Int32 → Int32 → hx_M → Prop} (hk5 : ∀ (v3 : Int32) (v4 : Int32) (μ : hx_M), K5 v3 v4 μ → G Λ μ (0, 0) 5 [some (.ref 49), none, some (.int v2), some (.int v3), some (.int v4), none] []) (hw : wX12_isTrue_J119 K K5 v2 v3 v4 t1 t2 μ) : G Λ μ (0, 0) 119 [some (.ref 49), none, some (.int v2), some (.int v3), some (.int v4), none] [.int t2, .int t1, .ref 73] := by
  unfold wX12_isTrue_J119 at hw
  obtain ⟨i119_25, hw⟩ := hw
  refine cl_zast hG (hx_dq tdX12_isTrue_2 0 rfl) (mF_S73 hF) i119_25 (cl_iinc hG (v3 + 1) (hx_dq tdX12_isTrue_2 1 rfl) rfl (congrArg (fun z => v3 + z) iconst_1) (Nat.le_of_ble_eq_true rfl) rfl (cl_goto hG 239 (hx_dq tdX12_isTrue_2 2 rfl) rfl ?_))
  exact cl_sub hG (hx_le_c rfl (hx_le_n (hx_le_c rfl (hx_le_c rfl (hx_le_c rfl (hx_le_n hx_le_0)))))) (kX12_isTrue_J239_26 hG cA hF v2 (v3 + 1) v4 hK (fun z0 z1 z2 hw => hk5 z0 z1 z2 hw) hw)
def wX12_isTrue_L5 (v2 : Int32) (K : Int32 → hx_M → Prop)  : Nat → Int32 → Int32 → hx_M → Prop
  | 0, _, _, _ => False
  | n + 1, v3, v4, μ => (v2 ≤ v4 → (vp_in 0 64 ∧ (((μ.1 73 ((0 : Int32).toNatClampNeg))) = 0 ∨ ((μ.1 73 ((0 : Int32).toNatClampNeg))) = 1) ∧ K ((μ.1 73 ((0 : Int32).toNatClampNeg))) μ)) ∧ (¬ (v2 ≤ v4) → (vp_in v4 4200 ∧ (2 < (μ.1 70 v4.toNatClampNeg) → (vp_in v4 4200 ∧ ((μ.1 70 v4.toNatClampNeg) ≠ 5 → (vp_in v4 4200 ∧ ((μ.1 70 v4.toNatClampNeg) ≠ 3 → (vp_in ((v3 + (-1)) - 1) 64 ∧ (((μ.1 73 (((v3 + (-1)) - 1).toNatClampNeg))) = 0 → (wX12_isTrue_J237 K (wX12_isTrue_L5 v2 K n) v2 (v3 + (-1)) v4 ((v3 + (-1)) - 1) μ)) ∧ (¬ (((μ.1 73 (((v3 + (-1)) - 1).toNatClampNeg))) = 0) → (vp_in (v3 + (-1)) 64 ∧ (((μ.1 73 ((v3 + (-1)).toNatClampNeg))) = 0 → (wX12_isTrue_J237 K (wX12_isTrue_L5 v2 K n) v2 (v3 + (-1)) v4 ((v3 + (-1)) - 1) μ)) ∧ (¬ (((μ.1 73 ((v3 + (-1)).toNatClampNeg))) = 0) → (wX12_isTrue_J238_8 K (wX12_isTrue_L5 v2 K n) v2 (v3 + (-1)) v4 ((v3 + (-1)) - 1) 1 μ)))))) ∧ ((μ.1 70 v4.toNatClampNeg) = 3 → (vp_in ((v3 + (-1)) - 1) 64 ∧ (((μ.1 73 (((v3 + (-1)) - 1).toNatClampNeg))) ≠ 0 → (wX12_isTrue_J205 K (wX12_isTrue_L5 v2 K n) v2 (v3 + (-1)) v4 ((v3 + (-1)) - 1) μ)) ∧ (((μ.1 73 (((v3 + (-1)) - 1).toNatClampNeg))) = 0 → (vp_in (v3 + (-1)) 64 ∧ (((μ.1 73 ((v3 + (-1)).toNatClampNeg))) = 0 → (wX12_isTrue_J238_8 K (wX12_isTrue_L5 v2 K n) v2 (v3 + (-1)) v4 ((v3 + (-1)) - 1) 0 μ)) ∧ (¬ (((μ.1 73 ((v3 + (-1)).toNatClampNeg))) = 0) → (wX12_isTrue_J205 K (wX12_isTrue_L5 v2 K n) v2 (v3 + (-1)) v4 ((v3 + (-1)) - 1) μ)))))))) ∧ ((μ.1 70 v4.toNatClampNeg) = 5 → (vp_in (v3 - 1) 64 ∧ (((μ.1 73 ((v3 - 1).toNatClampNeg))) ≠ 0 → (wX12_isTrue_J160 K (wX12_isTrue_L5 v2 K n) v2 v3 v4 (v3 - 1) 0 μ)) ∧ (((μ.1 73 ((v3 - 1).toNatClampNeg))) = 0 → (wX12_isTrue_J160 K (wX12_isTrue_L5 v2 K n) v2 v3 v4 (v3 - 1) 1 μ)))))) ∧ (¬ (2 < (μ.1 70 v4.toNatClampNeg)) → (vp_in v4 4200 ∧ vp_in (μ.1 71 v4.toNatClampNeg) 12 ∧ ∀ x_21 : Int32, x_21 = ((μ.1 77 ((μ.1 71 v4.toNatClampNeg).toNatClampNeg))) → vp_in v4 4200 ∧ ((μ.1 70 v4.toNatClampNeg) ≠ 0 → (vp_in v4 4200 ∧ ((μ.1 70 v4.toNatClampNeg) ≠ 1 → (vp_in v4 4200 ∧ (x_21 ≠ (μ.1 72 v4.toNatClampNeg) → (wX12_isTrue_J119 K (wX12_isTrue_L5 v2 K n) v2 v3 v4 v3 0 μ)) ∧ (x_21 = (μ.1 72 v4.toNatClampNeg) → (wX12_isTrue_J119 K (wX12_isTrue_L5 v2 K n) v2 v3 v4 v3 1 μ)))) ∧ ((μ.1 70 v4.toNatClampNeg) = 1 → (vp_in v4 4200 ∧ (x_21 ≤ (μ.1 72 v4.toNatClampNeg) → (wX12_isTrue_J119 K (wX12_isTrue_L5 v2 K n) v2 v3 v4 v3 0 μ)) ∧ (¬ (x_21 ≤ (μ.1 72 v4.toNatClampNeg)) → (wX12_isTrue_J119 K (wX12_isTrue_L5 v2 K n) v2 v3 v4 v3 1 μ)))))) ∧ ((μ.1 70 v4.toNatClampNeg) = 0 → (vp_in v4 4200 ∧ ((μ.1 72 v4.toNatClampNeg) ≤ x_21 → (wX12_isTrue_J119 K (wX12_isTrue_L5 v2 K n) v2 v3 v4 v3 0 μ)) ∧ (¬ ((μ.1 72 v4.toNatClampNeg) ≤ x_21) → (wX12_isTrue_J119 K (wX12_isTrue_L5 v2 K n) v2 v3 v4 v3 1 μ))))))))
set_option maxRecDepth 100000 in
set_option maxHeartbeats 4000000 in
theorem kX12_isTrue_L5 {G : hx_GT} {KK : hx_KT} (hG : hx_K cX12_isTrue 6 0 0 (some .boolean) TbX12 KK G) (cA : hx_CA RX12 cX12_isTrue 1 0 0 G) {Λ : hx_L} (hF : mF Λ)  (v2 : Int32) {K : Int32 → hx_M → Prop} (hK : ∀ (r : Int32) (m : hx_M), K r m → KK (some (.int r)) Λ m)  : ∀ (n : Nat) (v3 : Int32) (v4 : Int32) (μ : hx_M), wX12_isTrue_L5 v2 K n v3 v4 μ → G Λ μ (0, 0) 5 [some (.ref 49), none, some (.int v2), some (.int v3), some (.int v4), none] [] := by
  intro n
  induction n with
  | zero =>
    intro v3 v4 μ hw
    exact False.elim (by simpa only [wX12_isTrue_L5] using hw)
  | succ n ih =>
    intro v3 v4 μ hw
    unfold wX12_isTrue_L5 at hw
    refine cl_iload hG (hx_dq tdX12_isTrue_0 4 rfl) rfl (cl_iload_n hG (hx_dq tdX12_isTrue_0 5 rfl) rfl (cl_icmp_ge hG 245 (hx_dq tdX12_isTrue_0 6 rfl) rfl (fun c8 => ?_) (fun c8 => ?_)))
    · replace hw := hw.1 c8
      obtain ⟨i250_1, hw⟩ := hw
      obtain ⟨b251, hw⟩ := hw
      exact cl_aload_n hG (hx_dq tdX12_isTrue_4 8 rfl) rfl (cl_getS hG fmX12_90 (hx_dq tdX12_isTrue_4 9 rfl) (mF_S49 hF) (mF_R49_38 hF) (cl_iconst hG 0 (hx_dq tdX12_isTrue_4 10 rfl) iconst_0 (cl_zald hG (hx_dq tdX12_isTrue_4 11 rfl) (mF_S73 hF) i250_1 (cl_iret hG (hx_dq tdX12_isTrue_4 12 rfl) rfl (hx_nb b251) (hK _ _ hw) (Nat.le_refl _) (Nat.le_refl _)))))
    · replace hw := hw.2 c8
      obtain ⟨i17_2, hw⟩ := hw
      refine cl_aload_n hG (hx_dq tdX12_isTrue_0 7 rfl) rfl (cl_getS hG fmX12_81 (hx_dq tdX12_isTrue_0 8 rfl) (mF_S49 hF) (mF_R49_35 hF) (cl_iload hG (hx_dq tdX12_isTrue_0 9 rfl) rfl (cl_iald hG (hx_dq tdX12_isTrue_0 10 rfl) (mF_S70 hF) i17_2 (cl_iconst hG 2 (hx_dq tdX12_isTrue_0 11 rfl) iconst_2 (cl_icmp_gt hG 126 (hx_dq tdX12_isTrue_0 12 rfl) rfl (fun c19 => ?_) (fun c19 => ?_))))))
      · replace hw := hw.1 c19
        obtain ⟨i132_3, hw⟩ := hw
        refine cl_aload_n hG (hx_dq tdX12_isTrue_2 3 rfl) rfl (cl_getS hG fmX12_81 (hx_dq tdX12_isTrue_2 4 rfl) (mF_S49 hF) (mF_R49_35 hF) (cl_iload hG (hx_dq tdX12_isTrue_2 5 rfl) rfl (cl_iald hG (hx_dq tdX12_isTrue_2 6 rfl) (mF_S70 hF) i132_3 (cl_iconst hG 5 (hx_dq tdX12_isTrue_2 7 rfl) iconst_5 (cl_icmp_ne hG 164 (hx_dq tdX12_isTrue_2 8 rfl) rfl (fun c134 => ?_) (fun c134 => ?_))))))
        · replace hw := hw.1 c134
          obtain ⟨i180_4, hw⟩ := hw
          refine cl_iinc hG (v3 + (-1)) (hx_dq tdX12_isTrue_2 26 rfl) rfl (congrArg (fun z => v3 + z) iconst_m1) (Nat.le_of_ble_eq_true rfl) rfl (cl_aload_n hG (hx_dq tdX12_isTrue_2 27 rfl) rfl (cl_getS hG fmX12_90 (hx_dq tdX12_isTrue_2 28 rfl) (mF_S49 hF) (mF_R49_38 hF) (cl_iload_n hG (hx_dq tdX12_isTrue_2 29 rfl) rfl (cl_iconst hG 1 (hx_dq tdX12_isTrue_2 30 rfl) iconst_1 (cl_isub hG (hx_dq tdX12_isTrue_2 31 rfl) (cl_aload_n hG (hx_dq tdX12_isTrue_3 0 rfl) rfl (cl_getS hG fmX12_81 (hx_dq tdX12_isTrue_3 1 rfl) (mF_S49 hF) (mF_R49_35 hF) (cl_iload hG (hx_dq tdX12_isTrue_3 2 rfl) rfl (cl_iald hG (hx_dq tdX12_isTrue_3 3 rfl) (mF_S70 hF) i180_4 (cl_iconst hG 3 (hx_dq tdX12_isTrue_3 4 rfl) iconst_3 (cl_icmp_ne hG 213 (hx_dq tdX12_isTrue_3 5 rfl) rfl (fun c182 => ?_) (fun c182 => ?_))))))))))))
          · replace hw := hw.1 c182
            obtain ⟨i220_5, hw⟩ := hw
            refine cl_aload_n hG (hx_dq tdX12_isTrue_3 22 rfl) rfl (cl_getS hG fmX12_90 (hx_dq tdX12_isTrue_3 23 rfl) (mF_S49 hF) (mF_R49_38 hF) (cl_iload_n hG (hx_dq tdX12_isTrue_3 24 rfl) rfl (cl_iconst hG 1 (hx_dq tdX12_isTrue_3 25 rfl) iconst_1 (cl_isub hG (hx_dq tdX12_isTrue_3 26 rfl) (cl_zald hG (hx_dq tdX12_isTrue_3 27 rfl) (mF_S73 hF) i220_5 (cl_if_eq hG 237 (hx_dq tdX12_isTrue_3 28 rfl) rfl (fun c221 => ?_) (fun c221 => ?_)))))))
            · replace hw := hw.1 c221
              exact cl_sub hG (hx_le_c rfl (hx_le_n (hx_le_c rfl (hx_le_c rfl (hx_le_c rfl (hx_le_n hx_le_0)))))) (kX12_isTrue_J237 hG cA hF v2 (v3 + (-1)) v4 ((v3 + (-1)) - 1) hK (fun z0 z1 z2 hw => ih z0 z1 z2 hw) hw)
            · replace hw := hw.2 c221
              obtain ⟨i229_7, hw⟩ := hw
              refine cl_aload_n hG (hx_dq tdX12_isTrue_3 29 rfl) rfl (cl_getS hG fmX12_90 (hx_dq tdX12_isTrue_3 30 rfl) (mF_S49 hF) (mF_R49_38 hF) (cl_iload_n hG (hx_dq tdX12_isTrue_3 31 rfl) rfl (cl_zald hG (hx_dq tdX12_isTrue_4 0 rfl) (mF_S73 hF) i229_7 (cl_if_eq hG 237 (hx_dq tdX12_isTrue_4 1 rfl) rfl (fun c230 => ?_) (fun c230 => ?_)))))
              · replace hw := hw.1 c230
                exact cl_sub hG (hx_le_c rfl (hx_le_n (hx_le_c rfl (hx_le_c rfl (hx_le_c rfl (hx_le_n hx_le_0)))))) (kX12_isTrue_J237 hG cA hF v2 (v3 + (-1)) v4 ((v3 + (-1)) - 1) hK (fun z0 z1 z2 hw => ih z0 z1 z2 hw) hw)
              · replace hw := hw.2 c230
                refine cl_iconst hG 1 (hx_dq tdX12_isTrue_4 2 rfl) iconst_1 (cl_goto hG 238 (hx_dq tdX12_isTrue_4 3 rfl) rfl ?_)
                exact cl_sub hG (hx_le_c rfl (hx_le_n (hx_le_c rfl (hx_le_c rfl (hx_le_c rfl (hx_le_n hx_le_0)))))) (kX12_isTrue_J238_8 hG cA hF v2 (v3 + (-1)) v4 ((v3 + (-1)) - 1) 1 hK (fun z0 z1 z2 hw => ih z0 z1 z2 hw) hw)
          · replace hw := hw.2 c182
            obtain ⟨i192_11, hw⟩ := hw
            refine cl_aload_n hG (hx_dq tdX12_isTrue_3 6 rfl) rfl (cl_getS hG fmX12_90 (hx_dq tdX12_isTrue_3 7 rfl) (mF_S49 hF) (mF_R49_38 hF) (cl_iload_n hG (hx_dq tdX12_isTrue_3 8 rfl) rfl (cl_iconst hG 1 (hx_dq tdX12_isTrue_3 9 rfl) iconst_1 (cl_isub hG (hx_dq tdX12_isTrue_3 10 rfl) (cl_zald hG (hx_dq tdX12_isTrue_3 11 rfl) (mF_S73 hF) i192_11 (cl_if_ne hG 205 (hx_dq tdX12_isTrue_3 12 rfl) rfl (fun c193 => ?_) (fun c193 => ?_)))))))
            · replace hw := hw.1 c193
              exact cl_sub hG (hx_le_c rfl (hx_le_n (hx_le_c rfl (hx_le_c rfl (hx_le_c rfl (hx_le_n hx_le_0)))))) (kX12_isTrue_J205 hG cA hF v2 (v3 + (-1)) v4 ((v3 + (-1)) - 1) hK (fun z0 z1 z2 hw => ih z0 z1 z2 hw) hw)
            · replace hw := hw.2 c193
              obtain ⟨i201_15, hw⟩ := hw
              refine cl_aload_n hG (hx_dq tdX12_isTrue_3 13 rfl) rfl (cl_getS hG fmX12_90 (hx_dq tdX12_isTrue_3 14 rfl) (mF_S49 hF) (mF_R49_38 hF) (cl_iload_n hG (hx_dq tdX12_isTrue_3 15 rfl) rfl (cl_zald hG (hx_dq tdX12_isTrue_3 16 rfl) (mF_S73 hF) i201_15 (cl_if_eq hG 209 (hx_dq tdX12_isTrue_3 17 rfl) rfl (fun c202 => ?_) (fun c202 => ?_)))))
              · replace hw := hw.1 c202
                refine cl_iconst hG 0 (hx_dq tdX12_isTrue_3 20 rfl) iconst_0 (cl_goto hG 238 (hx_dq tdX12_isTrue_3 21 rfl) rfl ?_)
                exact cl_sub hG (hx_le_c rfl (hx_le_n (hx_le_c rfl (hx_le_c rfl (hx_le_c rfl (hx_le_n hx_le_0)))))) (kX12_isTrue_J238_8 hG cA hF v2 (v3 + (-1)) v4 ((v3 + (-1)) - 1) 0 hK (fun z0 z1 z2 hw => ih z0 z1 z2 hw) hw)
              · replace hw := hw.2 c202
                exact cl_sub hG (hx_le_c rfl (hx_le_n (hx_le_c rfl (hx_le_c rfl (hx_le_c rfl (hx_le_n hx_le_0)))))) (kX12_isTrue_J205 hG cA hF v2 (v3 + (-1)) v4 ((v3 + (-1)) - 1) hK (fun z0 z1 z2 hw => ih z0 z1 z2 hw) hw)
        · replace hw := hw.2 c134
          obtain ⟨i151_16, hw⟩ := hw
          refine cl_aload_n hG (hx_dq tdX12_isTrue_2 9 rfl) rfl (cl_getS hG fmX12_90 (hx_dq tdX12_isTrue_2 10 rfl) (mF_S49 hF) (mF_R49_38 hF) (cl_iload_n hG (hx_dq tdX12_isTrue_2 11 rfl) rfl (cl_iconst hG 1 (hx_dq tdX12_isTrue_2 12 rfl) iconst_1 (cl_isub hG (hx_dq tdX12_isTrue_2 13 rfl) (cl_aload_n hG (hx_dq tdX12_isTrue_2 14 rfl) rfl (cl_getS hG fmX12_90 (hx_dq tdX12_isTrue_2 15 rfl) (mF_S49 hF) (mF_R49_38 hF) (cl_iload_n hG (hx_dq tdX12_isTrue_2 16 rfl) rfl (cl_iconst hG 1 (hx_dq tdX12_isTrue_2 17 rfl) iconst_1 (cl_isub hG (hx_dq tdX12_isTrue_2 18 rfl) (cl_zald hG (hx_dq tdX12_isTrue_2 19 rfl) (mF_S73 hF) i151_16 (cl_if_ne hG 159 (hx_dq tdX12_isTrue_2 20 rfl) rfl (fun c152 => ?_) (fun c152 => ?_))))))))))))
          · replace hw := hw.1 c152
            refine cl_iconst hG 0 (hx_dq tdX12_isTrue_2 23 rfl) iconst_0 ?_
            exact cl_sub hG (hx_le_c rfl (hx_le_n (hx_le_c rfl (hx_le_c rfl (hx_le_c rfl (hx_le_n hx_le_0)))))) (kX12_isTrue_J160 hG cA hF v2 v3 v4 (v3 - 1) 0 hK (fun z0 z1 z2 hw => ih z0 z1 z2 hw) hw)
          · replace hw := hw.2 c152
            refine cl_iconst hG 1 (hx_dq tdX12_isTrue_2 21 rfl) iconst_1 (cl_goto hG 160 (hx_dq tdX12_isTrue_2 22 rfl) rfl ?_)
            exact cl_sub hG (hx_le_c rfl (hx_le_n (hx_le_c rfl (hx_le_c rfl (hx_le_c rfl (hx_le_n hx_le_0)))))) (kX12_isTrue_J160 hG cA hF v2 v3 v4 (v3 - 1) 1 hK (fun z0 z1 z2 hw => ih z0 z1 z2 hw) hw)
      · replace hw := hw.2 c19
        obtain ⟨i32_19, hw⟩ := hw
        obtain ⟨i33_20, hw⟩ := hw
        refine cl_aload_n hG (hx_dq tdX12_isTrue_0 13 rfl) rfl (cl_getS hG fmX12_104 (hx_dq tdX12_isTrue_0 14 rfl) (mF_S49 hF) (mF_R49_44 hF) (cl_aload_n hG (hx_dq tdX12_isTrue_0 15 rfl) rfl (cl_getS hG fmX12_84 (hx_dq tdX12_isTrue_0 16 rfl) (mF_S49 hF) (mF_R49_36 hF) (cl_iload hG (hx_dq tdX12_isTrue_0 17 rfl) rfl (cl_iald hG (hx_dq tdX12_isTrue_0 18 rfl) (mF_S71 hF) i32_19 (cl_iald hG (hx_dq tdX12_isTrue_0 19 rfl) (mF_S77 hF) i33_20 (cl_nmI (fun x_21 e_21 => ?_))))))))
        replace hw := hw x_21 e_21
        obtain ⟨i47_22, hw⟩ := hw
        refine cl_istore hG (hx_dq tdX12_isTrue_0 20 rfl) (Nat.le_of_ble_eq_true rfl) rfl (cl_aload_n hG (hx_dq tdX12_isTrue_0 21 rfl) rfl (cl_getS hG fmX12_90 (hx_dq tdX12_isTrue_0 22 rfl) (mF_S49 hF) (mF_R49_38 hF) (cl_iload_n hG (hx_dq tdX12_isTrue_0 23 rfl) rfl (cl_aload_n hG (hx_dq tdX12_isTrue_0 24 rfl) rfl (cl_getS hG fmX12_81 (hx_dq tdX12_isTrue_0 25 rfl) (mF_S49 hF) (mF_R49_35 hF) (cl_iload hG (hx_dq tdX12_isTrue_0 26 rfl) rfl (cl_iald hG (hx_dq tdX12_isTrue_0 27 rfl) (mF_S70 hF) i47_22 (cl_if_ne hG 71 (hx_dq tdX12_isTrue_0 28 rfl) rfl (fun c48 => ?_) (fun c48 => ?_)))))))))
        · replace hw := hw.1 c48
          obtain ⟨i77_23, hw⟩ := hw
          refine cl_aload_n hG (hx_dq tdX12_isTrue_1 7 rfl) rfl (cl_getS hG fmX12_81 (hx_dq tdX12_isTrue_1 8 rfl) (mF_S49 hF) (mF_R49_35 hF) (cl_iload hG (hx_dq tdX12_isTrue_1 9 rfl) rfl (cl_iald hG (hx_dq tdX12_isTrue_1 10 rfl) (mF_S70 hF) i77_23 (cl_iconst hG 1 (hx_dq tdX12_isTrue_1 11 rfl) iconst_1 (cl_icmp_ne hG 102 (hx_dq tdX12_isTrue_1 12 rfl) rfl (fun c79 => ?_) (fun c79 => ?_))))))
          · replace hw := hw.1 c79
            obtain ⟨i110_24, hw⟩ := hw
            refine cl_iload hG (hx_dq tdX12_isTrue_1 23 rfl) rfl (cl_aload_n hG (hx_dq tdX12_isTrue_1 24 rfl) rfl (cl_getS hG fmX12_87 (hx_dq tdX12_isTrue_1 25 rfl) (mF_S49 hF) (mF_R49_37 hF) (cl_iload hG (hx_dq tdX12_isTrue_1 26 rfl) rfl (cl_iald hG (hx_dq tdX12_isTrue_1 27 rfl) (mF_S72 hF) i110_24 (cl_icmp_ne hG 118 (hx_dq tdX12_isTrue_1 28 rfl) rfl (fun c111 => ?_) (fun c111 => ?_))))))
            · replace hw := hw.1 c111
              refine cl_iconst hG 0 (hx_dq tdX12_isTrue_1 31 rfl) iconst_0 ?_
              exact cl_sub hG (hx_le_c rfl (hx_le_n (hx_le_c rfl (hx_le_c rfl (hx_le_c rfl (hx_le_n hx_le_0)))))) (kX12_isTrue_J119 hG cA hF v2 v3 v4 v3 0 hK (fun z0 z1 z2 hw => ih z0 z1 z2 hw) hw)
            · replace hw := hw.2 c111
              refine cl_iconst hG 1 (hx_dq tdX12_isTrue_1 29 rfl) iconst_1 (cl_goto hG 119 (hx_dq tdX12_isTrue_1 30 rfl) rfl ?_)
              exact cl_sub hG (hx_le_c rfl (hx_le_n (hx_le_c rfl (hx_le_c rfl (hx_le_c rfl (hx_le_n hx_le_0)))))) (kX12_isTrue_J119 hG cA hF v2 v3 v4 v3 1 hK (fun z0 z1 z2 hw => ih z0 z1 z2 hw) hw)
          · replace hw := hw.2 c79
            obtain ⟨i90_27, hw⟩ := hw
            refine cl_iload hG (hx_dq tdX12_isTrue_1 13 rfl) rfl (cl_aload_n hG (hx_dq tdX12_isTrue_1 14 rfl) rfl (cl_getS hG fmX12_87 (hx_dq tdX12_isTrue_1 15 rfl) (mF_S49 hF) (mF_R49_37 hF) (cl_iload hG (hx_dq tdX12_isTrue_1 16 rfl) rfl (cl_iald hG (hx_dq tdX12_isTrue_1 17 rfl) (mF_S72 hF) i90_27 (cl_icmp_le hG 98 (hx_dq tdX12_isTrue_1 18 rfl) rfl (fun c91 => ?_) (fun c91 => ?_))))))
            · replace hw := hw.1 c91
              refine cl_iconst hG 0 (hx_dq tdX12_isTrue_1 21 rfl) iconst_0 (cl_goto hG 119 (hx_dq tdX12_isTrue_1 22 rfl) rfl ?_)
              exact cl_sub hG (hx_le_c rfl (hx_le_n (hx_le_c rfl (hx_le_c rfl (hx_le_c rfl (hx_le_n hx_le_0)))))) (kX12_isTrue_J119 hG cA hF v2 v3 v4 v3 0 hK (fun z0 z1 z2 hw => ih z0 z1 z2 hw) hw)
            · replace hw := hw.2 c91
              refine cl_iconst hG 1 (hx_dq tdX12_isTrue_1 19 rfl) iconst_1 (cl_goto hG 119 (hx_dq tdX12_isTrue_1 20 rfl) rfl ?_)
              exact cl_sub hG (hx_le_c rfl (hx_le_n (hx_le_c rfl (hx_le_c rfl (hx_le_c rfl (hx_le_n hx_le_0)))))) (kX12_isTrue_J119 hG cA hF v2 v3 v4 v3 1 hK (fun z0 z1 z2 hw => ih z0 z1 z2 hw) hw)
        · replace hw := hw.2 c48
          obtain ⟨i59_28, hw⟩ := hw
          refine cl_iload hG (hx_dq tdX12_isTrue_0 29 rfl) rfl (cl_aload_n hG (hx_dq tdX12_isTrue_0 30 rfl) rfl (cl_getS hG fmX12_87 (hx_dq tdX12_isTrue_0 31 rfl) (mF_S49 hF) (mF_R49_37 hF) (cl_iload hG (hx_dq tdX12_isTrue_1 0 rfl) rfl (cl_iald hG (hx_dq tdX12_isTrue_1 1 rfl) (mF_S72 hF) i59_28 (cl_icmp_ge hG 67 (hx_dq tdX12_isTrue_1 2 rfl) rfl (fun c60 => ?_) (fun c60 => ?_))))))
          · replace hw := hw.1 c60
            refine cl_iconst hG 0 (hx_dq tdX12_isTrue_1 5 rfl) iconst_0 (cl_goto hG 119 (hx_dq tdX12_isTrue_1 6 rfl) rfl ?_)
            exact cl_sub hG (hx_le_c rfl (hx_le_n (hx_le_c rfl (hx_le_c rfl (hx_le_c rfl (hx_le_n hx_le_0)))))) (kX12_isTrue_J119 hG cA hF v2 v3 v4 v3 0 hK (fun z0 z1 z2 hw => ih z0 z1 z2 hw) hw)
          · replace hw := hw.2 c60
            refine cl_iconst hG 1 (hx_dq tdX12_isTrue_1 3 rfl) iconst_1 (cl_goto hG 119 (hx_dq tdX12_isTrue_1 4 rfl) rfl ?_)
            exact cl_sub hG (hx_le_c rfl (hx_le_n (hx_le_c rfl (hx_le_c rfl (hx_le_c rfl (hx_le_n hx_le_0)))))) (kX12_isTrue_J119 hG cA hF v2 v3 v4 v3 1 hK (fun z0 z1 z2 hw => ih z0 z1 z2 hw) hw)
def wX12_isTrue (μ : hx_M) (v1 : Int32) (v2 : Int32) (K : Int32 → hx_M → Prop) : Prop := ∃ n5_29, wX12_isTrue_L5 v2 K n5_29 0 v1 μ
set_option maxRecDepth 100000 in
set_option maxHeartbeats 4000000 in
theorem kX12_isTrue {G : hx_GT} {KK : hx_KT} (hG : hx_K cX12_isTrue 6 0 0 (some .boolean) TbX12 KK G) (cA : hx_CA RX12 cX12_isTrue 1 0 0 G) {Λ : hx_L} (hF : mF Λ) {μ : hx_M} (v1 : Int32) (v2 : Int32) {K : Int32 → hx_M → Prop} (hK : ∀ (r : Int32) (m : hx_M), K r m → KK (some (.int r)) Λ m) (hw : wX12_isTrue μ v1 v2 K) : G Λ μ (0, 0) 0 [some (.ref 49), some (.int v1), some (.int v2), none, none, none] [] := by
  unfold wX12_isTrue at hw
  refine cl_iconst hG 0 (hx_dq tdX12_isTrue_0 0 rfl) iconst_0 (cl_istore_n hG (hx_dq tdX12_isTrue_0 1 rfl) (Nat.le_of_ble_eq_true rfl) rfl (cl_iload_n hG (hx_dq tdX12_isTrue_0 2 rfl) rfl (cl_istore hG (hx_dq tdX12_isTrue_0 3 rfl) (Nat.le_of_ble_eq_true rfl) rfl ?_)))
  obtain ⟨n_, hw⟩ := hw
  refine cl_sub hG (hx_le_c rfl (hx_le_n (hx_le_c rfl (hx_le_c rfl (hx_le_c rfl (hx_le_n hx_le_0)))))) (kX12_isTrue_L5 hG cA hF v2 hK n_ 0 v1 _ hw)
def sX12_isTrue : hx_ST := fun Λ μ as KK => mF Λ ∧ ∃ (v1 : Int32) (v2 : Int32) (K : Int32 → hx_M → Prop), as = [.ref 49, .int v1, .int v2] ∧ wX12_isTrue μ v1 v2 K ∧ (∀ (r : Int32) (m : hx_M), K r m → KK (some (.int r)) Λ m)
theorem sX12_isTrue_mk {Λ : hx_L} {μ : hx_M} {KK : hx_KT} {v1 : Int32} {v2 : Int32} {K : Int32 → hx_M → Prop} (hF : mF Λ) (hw : wX12_isTrue μ v1 v2 K) (hk : ∀ (r : Int32) (m : hx_M), K r m → KK (some (.int r)) Λ m) : sX12_isTrue Λ μ [.ref 49, .int v1, .int v2] KK := ⟨hF, _, _, _, rfl, hw, hk⟩
theorem conX12_isTrue : hx_Con yX12_isTrue cX12_isTrue 6 (some .boolean) 1 0 0 sX12_isTrue := by
  refine hx_con_of (by decide +kernel) tokX12 (by decide) ?_ ?_
  · intro Λ μ as KK h
    obtain ⟨hF, v1, v2, K, rfl, hw, hK⟩ := h
    exact Nat.le_of_ble_eq_true rfl
  · intro G KK hG cA Λ μ as h
    obtain ⟨hF, v1, v2, K, rfl, hw, hK⟩ := h
    exact cl_sub hG (hx_le_c rfl (hx_le_c rfl (hx_le_c rfl (hx_le_n (hx_le_n (hx_le_n hx_le_0)))))) (kX12_isTrue hG cA hF _ _ hK hw)
