/-! HemLine.shop(II)I -/
def tbX11_shop_0 : List (Nat × Instr × Nat) := [(0, .aload_n 0, 1), (1, .invokevirtual 165, 3), (4, .astore_n 3, 1), (5, .iload_n 1, 1), (6, .iconst 1, 1), (7, .bipush 6, 2), (9, .invokestatic 94, 3), (12, .ifCond .eq 24, 3), (15, .iload_n 2, 1), (16, .ifCond .eq 16, 3), (19, .iload_n 2, 1), (20, .bipush 10, 2), (22, .bipush 9, 2), (24, .iload_n 1, 1), (25, .iadd, 1), (26, .invokestatic 94, 3), (29, .ifCond .eq 7, 3), (32, .iconst 1, 1), (33, .goto 4, 3), (36, .iconst 0, 1), (37, .istore 4, 2), (39, .iload 4, 2), (41, .ifCond .eq 20, 3), (44, .aload_n 3, 1), (45, .ifnull 16, 3), (48, .aload_n 0, 1), (49, .getfield 46, 3), (52, .getfield 101, 3), (55, .invokevirtual 169, 3), (58, .ifCond .eq 5, 3), (61, .iconst (-1), 1), (62, .ireturn, 1)]
def tbX11_shop_1 : List (Nat × Instr × Nat) := [(63, .aload_n 0, 1), (64, .getfield 83, 3), (67, .aload_n 3, 1), (68, .invokevirtual 296, 3), (71, .aload_n 0, 1), (72, .getfield 83, 3), (75, .iload_n 1, 1), (76, .invokevirtual 299, 3), (79, .iload_n 2, 1), (80, .ifCond .ne 13, 3), (83, .aload_n 0, 1), (84, .getfield 83, 3), (87, .getfield 302, 3), (90, .goto 15, 3), (93, .aload_n 0, 1), (94, .getfield 83, 3), (97, .getfield 305, 3), (100, .iload_n 2, 1), (101, .bipush 10, 2), (103, .isub, 1), (104, .iaload, 1), (105, .ireturn, 1)]
theorem tdX11_shop_0 : hx_dt cX11_shop tbX11_shop_0 = true := by decide +kernel
theorem tdX11_shop_1 : hx_dt cX11_shop tbX11_shop_1 = true := by decide +kernel
theorem caX11_shop_94 {G : hx_GT} (cA : hx_CA RX11 cX11_shop 7 0 0 G) : hx_CS cX11_shop G 0 0 94 3 sX11_within 0 0 := cA.2.1 conX11_within ⟨by decide +kernel, by decide +kernel, by decide +kernel⟩ mw_477 mw_478 mw_84 mw_479 (by decide) (by decide)
theorem caX11_shop_165 {G : hx_GT} (cA : hx_CA RX11 cX11_shop 7 0 0 G) : hx_CV cX11_shop G 0 0 165 11 0 sX11_lawInForce 0 0 := cA.1 conX11_lawInForce rfl rfl ⟨by decide +kernel, by decide +kernel, by decide +kernel⟩ mw_687 mw_689 mw_15 mw_84 mw_690 (by decide) (by decide)
theorem caX11_shop_169 {G : hx_GT} (cA : hx_CA RX11 cX11_shop 7 0 0 G) : hx_CV cX11_shop G 0 0 169 4 0 sX4_isEmpty 0 0 := cA.1 conX4_isEmpty rfl rfl ⟨by decide +kernel, by decide +kernel, by decide +kernel⟩ mw_691 mw_692 mw_693 mw_87 mw_694 (by decide) (by decide)
theorem caX11_shop_296 {G : hx_GT} (cA : hx_CA RX11 cX11_shop 7 0 0 G) : hx_CV cX11_shop G 0 0 296 7 1 sX7_gatherWishes 0 0 := cA.1 conX7_gatherWishes rfl rfl ⟨by decide +kernel, by decide +kernel, by decide +kernel⟩ mw_1038 mw_1039 mw_1040 mw_96 mw_1041 (by decide) (by decide)
theorem caX11_shop_299 {G : hx_GT} (cA : hx_CA RX11 cX11_shop 7 0 0 G) : hx_CV cX11_shop G 0 0 299 7 1 sX7_order 0 0 := cA.1 conX7_order rfl rfl ⟨by decide +kernel, by decide +kernel, by decide +kernel⟩ mw_1045 mw_1046 mw_1047 mw_96 mw_1048 (by decide) (by decide)
def wX11_shop_J37 (Λ : hx_L) (K : Int32 → hx_M → Prop)  (v1 : Int32) (v2 : Int32) (v3 : Option Nat) (t0 : Int32) (μ : hx_M) : Prop := (t0 = 0 → (K (-1) μ)) ∧ (¬ (t0 = 0) → ((v3 = none → (K (-1) μ)) ∧ (∀ k45_5, v3 = some k45_5 → (wX4_isEmpty μ (fun r55_7 => (r55_7 = 0 → (wX7_gatherWishes Λ μ k45_5 (fun m68_8 => wX7_order m68_8 v1 (fun m76_10 => (v2 ≠ 0 → (vp_in (v2 - 10) 6 ∧ K ((m76_10.1 47 ((v2 - 10).toNatClampNeg))) m76_10)) ∧ (v2 = 0 → (K (m76_10.1 43 5) m76_10)))))) ∧ (¬ (r55_7 = 0) → (K (-1) μ)))))))
set_option maxRecDepth 100000 in
set_option maxHeartbeats 4000000 in
theorem kX11_shop_J37 {G : hx_GT} {KK : hx_KT} (hG : hx_K cX11_shop 5 0 0 (some .int) TbX11 KK G) (cA : hx_CA RX11 cX11_shop 7 0 0 G) {Λ : hx_L} (hF : cF Λ) {μ : hx_M} (v1 : Int32) (v2 : Int32) (v3 : Option Nat) (t0 : Int32) {K : Int32 → hx_M → Prop} (hK : ∀ (r : Int32) (m : hx_M), K r m → KK (some (.int r)) Λ m)  (hw : wX11_shop_J37 Λ K v1 v2 v3 t0 μ) : G Λ μ (0, 0) 37 [some (.ref 0), some (.int v1), some (.int v2), some (va_rf v3), none] [.int t0] := by
  unfold wX11_shop_J37 at hw
  refine cl_istore hG (hx_dq tdX11_shop_0 20 rfl) (Nat.le_of_ble_eq_true rfl) (hx_n2q rfl) (cl_iload hG (hx_dq tdX11_shop_0 21 rfl) rfl (cl_if_eq hG 61 (hx_dq tdX11_shop_0 22 rfl) rfl (fun c41 => ?_) (fun c41 => ?_)))
  · replace hw := hw.1 c41
    exact cl_iconst hG (-1) (hx_dq tdX11_shop_0 30 rfl) iconst_m1 (cl_iret hG (hx_dq tdX11_shop_0 31 rfl) rfl rfl (hK _ _ hw) (Nat.le_refl _) (Nat.le_refl _))
  · replace hw := hw.2 c41
    refine cl_aload_nQ hG (hx_dq tdX11_shop_0 23 rfl) rfl (cl_ifnull hG 61 (hx_dq tdX11_shop_0 24 rfl) rfl (fun c45 => ?_) (fun k45_5 c45 => ?_))
    · replace hw := hw.1 c45
      exact cl_iconst hG (-1) (hx_dq tdX11_shop_0 30 rfl) iconst_m1 (cl_iret hG (hx_dq tdX11_shop_0 31 rfl) rfl rfl (hK _ _ hw) (Nat.le_refl _) (Nat.le_refl _))
    · replace hw := hw.2 k45_5 c45
      revert hw
      subst c45
      intro hw
      refine cl_aload_n hG (hx_dq tdX11_shop_0 25 rfl) rfl (cl_getS hG fmX11_46 (hx_dq tdX11_shop_0 26 rfl) (cF_S0 hF) (cF_R0_7 hF) (cl_getS hG fmX11_101 (hx_dq tdX11_shop_0 27 rfl) (cF_S7 hF) (cF_R7_0 hF) (cl_callV0 (caX11_shop_169 cA) (hx_dq tdX11_shop_0 28 rfl) (cF_S8 hF) (Nat.le_of_ble_eq_true rfl) (Nat.le_refl _) (Nat.le_refl _) (sX4_isEmpty_mk hF hw (fun r55_7 hw => ?_)))))
      refine cl_if_eq hG 63 (hx_dq tdX11_shop_0 29 rfl) rfl (fun c58 => ?_) (fun c58 => ?_)
      · replace hw := hw.1 c58
        refine cl_aload_n hG (hx_dq tdX11_shop_1 0 rfl) rfl (cl_getS hG fmX11_83 (hx_dq tdX11_shop_1 1 rfl) (cF_S0 hF) (cF_R0_12 hF) (cl_aload_n hG (hx_dq tdX11_shop_1 2 rfl) rfl (cl_callV1 (caX11_shop_296 cA) (hx_dq tdX11_shop_1 3 rfl) (cF_S43 hF) (Nat.le_of_ble_eq_true rfl) (Nat.le_refl _) (Nat.le_refl _) (sX7_gatherWishes_mk hF hw (fun m68_8 hw => ?_)))))
        refine cl_aload_n hG (hx_dq tdX11_shop_1 4 rfl) rfl (cl_getS hG fmX11_83 (hx_dq tdX11_shop_1 5 rfl) (cF_S0 hF) (cF_R0_12 hF) (cl_iload_n hG (hx_dq tdX11_shop_1 6 rfl) rfl (cl_callV1 (caX11_shop_299 cA) (hx_dq tdX11_shop_1 7 rfl) (cF_S43 hF) (Nat.le_of_ble_eq_true rfl) (Nat.le_refl _) (Nat.le_refl _) (sX7_order_mk hF hw (fun m76_10 hw => ?_)))))
        refine cl_iload_n hG (hx_dq tdX11_shop_1 8 rfl) rfl (cl_if_ne hG 93 (hx_dq tdX11_shop_1 9 rfl) rfl (fun c80 => ?_) (fun c80 => ?_))
        · replace hw := hw.1 c80
          obtain ⟨i104_12, hw⟩ := hw
          exact cl_aload_n hG (hx_dq tdX11_shop_1 14 rfl) rfl (cl_getS hG fmX11_83 (hx_dq tdX11_shop_1 15 rfl) (cF_S0 hF) (cF_R0_12 hF) (cl_getS hG fmX11_305 (hx_dq tdX11_shop_1 16 rfl) (cF_S43 hF) (cF_R43_4 hF) (cl_iload_n hG (hx_dq tdX11_shop_1 17 rfl) rfl (cl_bipush hG 10 (hx_dq tdX11_shop_1 18 rfl) bipush_10 (cl_isub hG (hx_dq tdX11_shop_1 19 rfl) (cl_iald hG (hx_dq tdX11_shop_1 20 rfl) (cF_S47 hF) i104_12 (cl_iret hG (hx_dq tdX11_shop_1 21 rfl) rfl rfl (hK _ _ hw) (Nat.le_refl _) (Nat.le_refl _))))))))
        · replace hw := hw.2 c80
          exact cl_aload_n hG (hx_dq tdX11_shop_1 10 rfl) rfl (cl_getS hG fmX11_83 (hx_dq tdX11_shop_1 11 rfl) (cF_S0 hF) (cF_R0_12 hF) (cl_getI hG fmX11_302 (hx_dq tdX11_shop_1 12 rfl) (cF_S43 hF) (cl_goto hG 105 (hx_dq tdX11_shop_1 13 rfl) rfl (cl_iret hG (hx_dq tdX11_shop_1 21 rfl) rfl rfl (hK _ _ hw) (Nat.le_refl _) (Nat.le_refl _)))))
      · replace hw := hw.2 c58
        exact cl_iconst hG (-1) (hx_dq tdX11_shop_0 30 rfl) iconst_m1 (cl_iret hG (hx_dq tdX11_shop_0 31 rfl) rfl rfl (hK _ _ hw) (Nat.le_refl _) (Nat.le_refl _))
def wX11_shop_J36 (Λ : hx_L) (K : Int32 → hx_M → Prop)  (v1 : Int32) (v2 : Int32) (v3 : Option Nat)  (μ : hx_M) : Prop := wX11_shop_J37 Λ K v1 v2 v3 0 μ
set_option maxRecDepth 100000 in
set_option maxHeartbeats 4000000 in
theorem kX11_shop_J36 {G : hx_GT} {KK : hx_KT} (hG : hx_K cX11_shop 5 0 0 (some .int) TbX11 KK G) (cA : hx_CA RX11 cX11_shop 7 0 0 G) {Λ : hx_L} (hF : cF Λ) {μ : hx_M} (v1 : Int32) (v2 : Int32) (v3 : Option Nat)  {K : Int32 → hx_M → Prop} (hK : ∀ (r : Int32) (m : hx_M), K r m → KK (some (.int r)) Λ m)  (hw : wX11_shop_J36 Λ K v1 v2 v3 μ) : G Λ μ (0, 0) 36 [some (.ref 0), some (.int v1), some (.int v2), some (va_rf v3), none] [] := by
  unfold wX11_shop_J36 at hw
  refine cl_iconst hG 0 (hx_dq tdX11_shop_0 19 rfl) iconst_0 ?_
  exact cl_sub hG (hx_le_c rfl (hx_le_c rfl (hx_le_c rfl (hx_le_c rfl (hx_le_n hx_le_0))))) (kX11_shop_J37 hG cA hF v1 v2 v3 0 hK hw)
def wX11_shop_J37_13 (Λ : hx_L) (K : Int32 → hx_M → Prop)  (v1 : Int32) (v2 : Int32) (v3 : Option Nat) (t0 : Int32) (μ : hx_M) : Prop := (t0 = 0 → (K (-1) μ)) ∧ (¬ (t0 = 0) → ((v3 = none → (K (-1) μ)) ∧ (∀ k45_14, v3 = some k45_14 → (wX4_isEmpty μ (fun r55_16 => (r55_16 = 0 → (wX7_gatherWishes Λ μ k45_14 (fun m68_17 => wX7_order m68_17 v1 (fun m76_19 => (v2 ≠ 0 → (vp_in (v2 - 10) 6 ∧ K ((m76_19.1 47 ((v2 - 10).toNatClampNeg))) m76_19)) ∧ (v2 = 0 → (K (m76_19.1 43 5) m76_19)))))) ∧ (¬ (r55_16 = 0) → (K (-1) μ)))))))
set_option maxRecDepth 100000 in
set_option maxHeartbeats 4000000 in
theorem kX11_shop_J37_13 {G : hx_GT} {KK : hx_KT} (hG : hx_K cX11_shop 5 0 0 (some .int) TbX11 KK G) (cA : hx_CA RX11 cX11_shop 7 0 0 G) {Λ : hx_L} (hF : cF Λ) {μ : hx_M} (v1 : Int32) (v2 : Int32) (v3 : Option Nat) (t0 : Int32) {K : Int32 → hx_M → Prop} (hK : ∀ (r : Int32) (m : hx_M), K r m → KK (some (.int r)) Λ m)  (hw : wX11_shop_J37_13 Λ K v1 v2 v3 t0 μ) : G Λ μ (0, 0) 37 [some (.ref 0), some (.int v1), some (.int v2), some (va_rf v3), none] [.int t0] := by
  unfold wX11_shop_J37_13 at hw
  refine cl_istore hG (hx_dq tdX11_shop_0 20 rfl) (Nat.le_of_ble_eq_true rfl) (hx_n2q rfl) (cl_iload hG (hx_dq tdX11_shop_0 21 rfl) rfl (cl_if_eq hG 61 (hx_dq tdX11_shop_0 22 rfl) rfl (fun c41 => ?_) (fun c41 => ?_)))
  · replace hw := hw.1 c41
    exact cl_iconst hG (-1) (hx_dq tdX11_shop_0 30 rfl) iconst_m1 (cl_iret hG (hx_dq tdX11_shop_0 31 rfl) rfl rfl (hK _ _ hw) (Nat.le_refl _) (Nat.le_refl _))
  · replace hw := hw.2 c41
    refine cl_aload_nQ hG (hx_dq tdX11_shop_0 23 rfl) rfl (cl_ifnull hG 61 (hx_dq tdX11_shop_0 24 rfl) rfl (fun c45 => ?_) (fun k45_14 c45 => ?_))
    · replace hw := hw.1 c45
      exact cl_iconst hG (-1) (hx_dq tdX11_shop_0 30 rfl) iconst_m1 (cl_iret hG (hx_dq tdX11_shop_0 31 rfl) rfl rfl (hK _ _ hw) (Nat.le_refl _) (Nat.le_refl _))
    · replace hw := hw.2 k45_14 c45
      revert hw
      subst c45
      intro hw
      refine cl_aload_n hG (hx_dq tdX11_shop_0 25 rfl) rfl (cl_getS hG fmX11_46 (hx_dq tdX11_shop_0 26 rfl) (cF_S0 hF) (cF_R0_7 hF) (cl_getS hG fmX11_101 (hx_dq tdX11_shop_0 27 rfl) (cF_S7 hF) (cF_R7_0 hF) (cl_callV0 (caX11_shop_169 cA) (hx_dq tdX11_shop_0 28 rfl) (cF_S8 hF) (Nat.le_of_ble_eq_true rfl) (Nat.le_refl _) (Nat.le_refl _) (sX4_isEmpty_mk hF hw (fun r55_16 hw => ?_)))))
      refine cl_if_eq hG 63 (hx_dq tdX11_shop_0 29 rfl) rfl (fun c58 => ?_) (fun c58 => ?_)
      · replace hw := hw.1 c58
        refine cl_aload_n hG (hx_dq tdX11_shop_1 0 rfl) rfl (cl_getS hG fmX11_83 (hx_dq tdX11_shop_1 1 rfl) (cF_S0 hF) (cF_R0_12 hF) (cl_aload_n hG (hx_dq tdX11_shop_1 2 rfl) rfl (cl_callV1 (caX11_shop_296 cA) (hx_dq tdX11_shop_1 3 rfl) (cF_S43 hF) (Nat.le_of_ble_eq_true rfl) (Nat.le_refl _) (Nat.le_refl _) (sX7_gatherWishes_mk hF hw (fun m68_17 hw => ?_)))))
        refine cl_aload_n hG (hx_dq tdX11_shop_1 4 rfl) rfl (cl_getS hG fmX11_83 (hx_dq tdX11_shop_1 5 rfl) (cF_S0 hF) (cF_R0_12 hF) (cl_iload_n hG (hx_dq tdX11_shop_1 6 rfl) rfl (cl_callV1 (caX11_shop_299 cA) (hx_dq tdX11_shop_1 7 rfl) (cF_S43 hF) (Nat.le_of_ble_eq_true rfl) (Nat.le_refl _) (Nat.le_refl _) (sX7_order_mk hF hw (fun m76_19 hw => ?_)))))
        refine cl_iload_n hG (hx_dq tdX11_shop_1 8 rfl) rfl (cl_if_ne hG 93 (hx_dq tdX11_shop_1 9 rfl) rfl (fun c80 => ?_) (fun c80 => ?_))
        · replace hw := hw.1 c80
          obtain ⟨i104_21, hw⟩ := hw
          exact cl_aload_n hG (hx_dq tdX11_shop_1 14 rfl) rfl (cl_getS hG fmX11_83 (hx_dq tdX11_shop_1 15 rfl) (cF_S0 hF) (cF_R0_12 hF) (cl_getS hG fmX11_305 (hx_dq tdX11_shop_1 16 rfl) (cF_S43 hF) (cF_R43_4 hF) (cl_iload_n hG (hx_dq tdX11_shop_1 17 rfl) rfl (cl_bipush hG 10 (hx_dq tdX11_shop_1 18 rfl) bipush_10 (cl_isub hG (hx_dq tdX11_shop_1 19 rfl) (cl_iald hG (hx_dq tdX11_shop_1 20 rfl) (cF_S47 hF) i104_21 (cl_iret hG (hx_dq tdX11_shop_1 21 rfl) rfl rfl (hK _ _ hw) (Nat.le_refl _) (Nat.le_refl _))))))))
        · replace hw := hw.2 c80
          exact cl_aload_n hG (hx_dq tdX11_shop_1 10 rfl) rfl (cl_getS hG fmX11_83 (hx_dq tdX11_shop_1 11 rfl) (cF_S0 hF) (cF_R0_12 hF) (cl_getI hG fmX11_302 (hx_dq tdX11_shop_1 12 rfl) (cF_S43 hF) (cl_goto hG 105 (hx_dq tdX11_shop_1 13 rfl) rfl (cl_iret hG (hx_dq tdX11_shop_1 21 rfl) rfl rfl (hK _ _ hw) (Nat.le_refl _) (Nat.le_refl _)))))
      · replace hw := hw.2 c58
        exact cl_iconst hG (-1) (hx_dq tdX11_shop_0 30 rfl) iconst_m1 (cl_iret hG (hx_dq tdX11_shop_0 31 rfl) rfl rfl (hK _ _ hw) (Nat.le_refl _) (Nat.le_refl _))
def wX11_shop_J32 (Λ : hx_L) (K : Int32 → hx_M → Prop)  (v1 : Int32) (v2 : Int32) (v3 : Option Nat)  (μ : hx_M) : Prop := wX11_shop_J37_13 Λ K v1 v2 v3 1 μ
set_option maxRecDepth 100000 in
set_option maxHeartbeats 4000000 in
theorem kX11_shop_J32 {G : hx_GT} {KK : hx_KT} (hG : hx_K cX11_shop 5 0 0 (some .int) TbX11 KK G) (cA : hx_CA RX11 cX11_shop 7 0 0 G) {Λ : hx_L} (hF : cF Λ) {μ : hx_M} (v1 : Int32) (v2 : Int32) (v3 : Option Nat)  {K : Int32 → hx_M → Prop} (hK : ∀ (r : Int32) (m : hx_M), K r m → KK (some (.int r)) Λ m)  (hw : wX11_shop_J32 Λ K v1 v2 v3 μ) : G Λ μ (0, 0) 32 [some (.ref 0), some (.int v1), some (.int v2), some (va_rf v3), none] [] := by
  unfold wX11_shop_J32 at hw
  refine cl_iconst hG 1 (hx_dq tdX11_shop_0 17 rfl) iconst_1 (cl_goto hG 37 (hx_dq tdX11_shop_0 18 rfl) rfl ?_)
  exact cl_sub hG (hx_le_c rfl (hx_le_c rfl (hx_le_c rfl (hx_le_c rfl (hx_le_n hx_le_0))))) (kX11_shop_J37_13 hG cA hF v1 v2 v3 1 hK hw)
def wX11_shop (Λ : hx_L) (μ : hx_M) (v1 : Int32) (v2 : Int32) (K : Int32 → hx_M → Prop) : Prop := wX11_lawInForce Λ μ (fun r1_2 => wX11_within v1 1 6 (fun r9_4 => (r9_4 = 0 → (wX11_shop_J36 Λ K v1 v2 r1_2 μ)) ∧ (¬ (r9_4 = 0) → ((v2 = 0 → (wX11_shop_J32 Λ K v1 v2 r1_2 μ)) ∧ (¬ (v2 = 0) → (wX11_within v2 10 (9 + v1) (fun r26_23 => (r26_23 = 0 → (wX11_shop_J36 Λ K v1 v2 r1_2 μ)) ∧ (¬ (r26_23 = 0) → (wX11_shop_J32 Λ K v1 v2 r1_2 μ)))))))))
set_option maxRecDepth 100000 in
set_option maxHeartbeats 4000000 in
theorem kX11_shop {G : hx_GT} {KK : hx_KT} (hG : hx_K cX11_shop 5 0 0 (some .int) TbX11 KK G) (cA : hx_CA RX11 cX11_shop 7 0 0 G) {Λ : hx_L} (hF : cF Λ) {μ : hx_M} (v1 : Int32) (v2 : Int32) {K : Int32 → hx_M → Prop} (hK : ∀ (r : Int32) (m : hx_M), K r m → KK (some (.int r)) Λ m) (hw : wX11_shop Λ μ v1 v2 K) : G Λ μ (0, 0) 0 [some (.ref 0), some (.int v1), some (.int v2), none, none] [] := by
  unfold wX11_shop at hw
  refine cl_aload_n hG (hx_dq tdX11_shop_0 0 rfl) rfl (cl_callV0 (caX11_shop_165 cA) (hx_dq tdX11_shop_0 1 rfl) (cF_S0 hF) (Nat.le_of_ble_eq_true rfl) (Nat.le_refl _) (Nat.le_refl _) (sX11_lawInForce_mk hF hw (fun r1_2 hw => ?_)))
  refine cl_astore_nQ hG (hx_dq tdX11_shop_0 2 rfl) (Nat.le_of_ble_eq_true rfl) rfl (cl_iload_n hG (hx_dq tdX11_shop_0 3 rfl) rfl (cl_iconst hG 1 (hx_dq tdX11_shop_0 4 rfl) iconst_1 (cl_bipush hG 6 (hx_dq tdX11_shop_0 5 rfl) bipush_6 (cl_callS3 (caX11_shop_94 cA) (hx_dq tdX11_shop_0 6 rfl) (Nat.le_of_ble_eq_true rfl) (Nat.le_refl _) (Nat.le_refl _) (sX11_within_mk hw (fun r9_4 hw => ?_))))))
  refine cl_if_eq hG 36 (hx_dq tdX11_shop_0 7 rfl) rfl (fun c12 => ?_) (fun c12 => ?_)
  · replace hw := hw.1 c12
    exact cl_sub hG (hx_le_c rfl (hx_le_c rfl (hx_le_c rfl (hx_le_c rfl (hx_le_n hx_le_0))))) (kX11_shop_J36 hG cA hF v1 v2 r1_2 hK hw)
  · replace hw := hw.2 c12
    refine cl_iload_n hG (hx_dq tdX11_shop_0 8 rfl) rfl (cl_if_eq hG 32 (hx_dq tdX11_shop_0 9 rfl) rfl (fun c16 => ?_) (fun c16 => ?_))
    · replace hw := hw.1 c16
      exact cl_sub hG (hx_le_c rfl (hx_le_c rfl (hx_le_c rfl (hx_le_c rfl (hx_le_n hx_le_0))))) (kX11_shop_J32 hG cA hF v1 v2 r1_2 hK hw)
    · replace hw := hw.2 c16
      refine cl_iload_n hG (hx_dq tdX11_shop_0 10 rfl) rfl (cl_bipush hG 10 (hx_dq tdX11_shop_0 11 rfl) bipush_10 (cl_bipush hG 9 (hx_dq tdX11_shop_0 12 rfl) bipush_9 (cl_iload_n hG (hx_dq tdX11_shop_0 13 rfl) rfl (cl_iadd hG (hx_dq tdX11_shop_0 14 rfl) (cl_callS3 (caX11_shop_94 cA) (hx_dq tdX11_shop_0 15 rfl) (Nat.le_of_ble_eq_true rfl) (Nat.le_refl _) (Nat.le_refl _) (sX11_within_mk hw (fun r26_23 hw => ?_)))))))
      refine cl_if_eq hG 36 (hx_dq tdX11_shop_0 16 rfl) rfl (fun c29 => ?_) (fun c29 => ?_)
      · replace hw := hw.1 c29
        exact cl_sub hG (hx_le_c rfl (hx_le_c rfl (hx_le_c rfl (hx_le_c rfl (hx_le_n hx_le_0))))) (kX11_shop_J36 hG cA hF v1 v2 r1_2 hK hw)
      · replace hw := hw.2 c29
        exact cl_sub hG (hx_le_c rfl (hx_le_c rfl (hx_le_c rfl (hx_le_c rfl (hx_le_n hx_le_0))))) (kX11_shop_J32 hG cA hF v1 v2 r1_2 hK hw)
def sX11_shop : hx_ST := fun Λ μ as KK => cF Λ ∧ ∃ (v1 : Int32) (v2 : Int32) (K : Int32 → hx_M → Prop), as = [.ref 0, .int v1, .int v2] ∧ wX11_shop Λ μ v1 v2 K ∧ (∀ (r : Int32) (m : hx_M), K r m → KK (some (.int r)) Λ m)
theorem sX11_shop_mk {Λ : hx_L} {μ : hx_M} {KK : hx_KT} {v1 : Int32} {v2 : Int32} {K : Int32 → hx_M → Prop} (hF : cF Λ) (hw : wX11_shop Λ μ v1 v2 K) (hk : ∀ (r : Int32) (m : hx_M), K r m → KK (some (.int r)) Λ m) : sX11_shop Λ μ [.ref 0, .int v1, .int v2] KK := ⟨hF, _, _, _, rfl, hw, hk⟩
theorem conX11_shop : hx_Con yX11_shop cX11_shop 5 (some .int) 7 0 0 sX11_shop := by
  refine hx_con_of (by decide +kernel) tokX11 (by decide) ?_ ?_
  · intro Λ μ as KK h
    obtain ⟨hF, v1, v2, K, rfl, hw, hK⟩ := h
    exact Nat.le_of_ble_eq_true rfl
  · intro G KK hG cA Λ μ as h
    obtain ⟨hF, v1, v2, K, rfl, hw, hK⟩ := h
    exact cl_sub hG (hx_le_c rfl (hx_le_c rfl (hx_le_c rfl (hx_le_n (hx_le_n hx_le_0))))) (kX11_shop hG cA hF _ _ hK hw)
/-! HemLine.lawReadingBest()I -/
def tbX11_lawReadingBest_0 : List (Nat × Instr × Nat) := [(0, .iconst (-1), 1), (1, .istore_n 1, 1), (2, .iconst 0, 1), (3, .istore_n 2, 1), (4, .iconst 0, 1), (5, .istore_n 3, 1), (6, .iload_n 3, 1), (7, .aload_n 0, 1), (8, .getfield 32, 3), (11, .if_icmp .ge 40, 3), (14, .aload_n 0, 1), (15, .getfield 62, 3), (18, .aload_n 0, 1), (19, .getfield 28, 3), (22, .iload_n 3, 1), (23, .aaload, 1), (24, .invokevirtual 311, 3), (27, .istore 4, 2), (29, .iload_n 1, 1), (30, .iconst (-1), 1), (31, .if_icmp .eq 9, 3), (34, .iload 4, 2), (36, .iload_n 2, 1), (37, .if_icmp .ge 8, 3), (40, .iload_n 3, 1), (41, .istore_n 1, 1), (42, .iload 4, 2), (44, .istore_n 2, 1), (45, .iinc 3 1, 3), (48, .goto (-42), 3), (51, .iload_n 1, 1), (52, .ireturn, 1)]
theorem tdX11_lawReadingBest_0 : hx_dt cX11_lawReadingBest tbX11_lawReadingBest_0 = true := by decide +kernel
theorem caX11_lawReadingBest_311 {G : hx_GT} (cA : hx_CA RX11 cX11_lawReadingBest 6 0 0 G) : hx_CV cX11_lawReadingBest G 0 0 311 0 1 sX0_offOf 0 0 := cA.1 conX0_offOf rfl rfl ⟨by decide +kernel, by decide +kernel, by decide +kernel⟩ mw_1079 mw_1080 mw_1081 mw_93 mw_1082 (by decide) (by decide)
def wX11_lawReadingBest_J45 (Λ : hx_L) (K : Int32 → hx_M → Prop) (K6 : Int32 → Int32 → Int32 → hx_M → Prop) (v1 : Int32) (v2 : Int32) (v3 : Int32)  (μ : hx_M) : Prop := K6 v1 v2 (v3 + 1) μ
set_option maxRecDepth 100000 in
set_option maxHeartbeats 4000000 in
theorem kX11_lawReadingBest_J45 {G : hx_GT} {KK : hx_KT} (hG : hx_K cX11_lawReadingBest 5 0 0 (some .int) TbX11 KK G) (cA : hx_CA RX11 cX11_lawReadingBest 6 0 0 G) {Λ : hx_L} (hF : cF Λ) {μ : hx_M} (v1 : Int32) (v2 : Int32) (v3 : Int32)  {K : Int32 → hx_M → Prop} (hK : ∀ (r : Int32) (m : hx_M), K r m → KK (some (.int r)) Λ m) {K6 : Int32 → Int32 → Int32 → hx_M → Prop} (hk6 : ∀ (v1 : Int32) (v2 : Int32) (v3 : Int32) (μ : hx_M), K6 v1 v2 v3 μ → G Λ μ (0, 0) 6 [some (.ref 0), some (.int v1), some (.int v2), some (.int v3), none] []) (hw : wX11_lawReadingBest_J45 Λ K K6 v1 v2 v3 μ) : G Λ μ (0, 0) 45 [some (.ref 0), some (.int v1), some (.int v2), some (.int v3), none] [] := by
  unfold wX11_lawReadingBest_J45 at hw
  exact cl_iinc hG (v3 + 1) (hx_dq tdX11_lawReadingBest_0 28 rfl) rfl (congrArg (fun z => v3 + z) iconst_1) (Nat.le_of_ble_eq_true rfl) rfl (cl_goto hG 6 (hx_dq tdX11_lawReadingBest_0 29 rfl) rfl (cl_sub hG (hx_le_c rfl (hx_le_c rfl (hx_le_c rfl (hx_le_c rfl (hx_le_n hx_le_0))))) (hk6 v1 v2 (v3 + 1) _ hw)))
def wX11_lawReadingBest_J40 (Λ : hx_L) (K : Int32 → hx_M → Prop) (K6 : Int32 → Int32 → Int32 → hx_M → Prop) (v3 : Int32) (v4 : Int32)  (μ : hx_M) : Prop := wX11_lawReadingBest_J45 Λ K (K6) v3 v4 v3 μ
set_option maxRecDepth 100000 in
set_option maxHeartbeats 4000000 in
theorem kX11_lawReadingBest_J40 {G : hx_GT} {KK : hx_KT} (hG : hx_K cX11_lawReadingBest 5 0 0 (some .int) TbX11 KK G) (cA : hx_CA RX11 cX11_lawReadingBest 6 0 0 G) {Λ : hx_L} (hF : cF Λ) {μ : hx_M} (v3 : Int32) (v4 : Int32)  {K : Int32 → hx_M → Prop} (hK : ∀ (r : Int32) (m : hx_M), K r m → KK (some (.int r)) Λ m) {K6 : Int32 → Int32 → Int32 → hx_M → Prop} (hk6 : ∀ (v1 : Int32) (v2 : Int32) (v3 : Int32) (μ : hx_M), K6 v1 v2 v3 μ → G Λ μ (0, 0) 6 [some (.ref 0), some (.int v1), some (.int v2), some (.int v3), none] []) (hw : wX11_lawReadingBest_J40 Λ K K6 v3 v4 μ) : G Λ μ (0, 0) 40 [some (.ref 0), none, none, some (.int v3), some (.int v4)] [] := by
  unfold wX11_lawReadingBest_J40 at hw
  refine cl_iload_n hG (hx_dq tdX11_lawReadingBest_0 24 rfl) rfl (cl_istore_n hG (hx_dq tdX11_lawReadingBest_0 25 rfl) (Nat.le_of_ble_eq_true rfl) rfl (cl_iload hG (hx_dq tdX11_lawReadingBest_0 26 rfl) rfl (cl_istore_n hG (hx_dq tdX11_lawReadingBest_0 27 rfl) (Nat.le_of_ble_eq_true rfl) rfl ?_)))
  exact cl_sub hG (hx_le_c rfl (hx_le_c rfl (hx_le_c rfl (hx_le_c rfl (hx_le_n hx_le_0))))) (kX11_lawReadingBest_J45 hG cA hF v3 v4 v3 hK (fun z0 z1 z2 z3 hw => hk6 z0 z1 z2 z3 hw) hw)
def wX11_lawReadingBest_J45_4 (Λ : hx_L) (K : Int32 → hx_M → Prop) (K6 : Int32 → Int32 → Int32 → hx_M → Prop) (v1 : Int32) (v2 : Int32) (v3 : Int32)  (μ : hx_M) : Prop := K6 v1 v2 (v3 + 1) μ
set_option maxRecDepth 100000 in
set_option maxHeartbeats 4000000 in
theorem kX11_lawReadingBest_J45_4 {G : hx_GT} {KK : hx_KT} (hG : hx_K cX11_lawReadingBest 5 0 0 (some .int) TbX11 KK G) (cA : hx_CA RX11 cX11_lawReadingBest 6 0 0 G) {Λ : hx_L} (hF : cF Λ) {μ : hx_M} (v1 : Int32) (v2 : Int32) (v3 : Int32)  {K : Int32 → hx_M → Prop} (hK : ∀ (r : Int32) (m : hx_M), K r m → KK (some (.int r)) Λ m) {K6 : Int32 → Int32 → Int32 → hx_M → Prop} (hk6 : ∀ (v1 : Int32) (v2 : Int32) (v3 : Int32) (μ : hx_M), K6 v1 v2 v3 μ → G Λ μ (0, 0) 6 [some (.ref 0), some (.int v1), some (.int v2), some (.int v3), none] []) (hw : wX11_lawReadingBest_J45_4 Λ K K6 v1 v2 v3 μ) : G Λ μ (0, 0) 45 [some (.ref 0), some (.int v1), some (.int v2), some (.int v3), none] [] := by
  unfold wX11_lawReadingBest_J45_4 at hw
  exact cl_iinc hG (v3 + 1) (hx_dq tdX11_lawReadingBest_0 28 rfl) rfl (congrArg (fun z => v3 + z) iconst_1) (Nat.le_of_ble_eq_true rfl) rfl (cl_goto hG 6 (hx_dq tdX11_lawReadingBest_0 29 rfl) rfl (cl_sub hG (hx_le_c rfl (hx_le_c rfl (hx_le_c rfl (hx_le_c rfl (hx_le_n hx_le_0))))) (hk6 v1 v2 (v3 + 1) _ hw)))
def wX11_lawReadingBest_L6 (Λ : hx_L) (K : Int32 → hx_M → Prop)  : Nat → Int32 → Int32 → Int32 → hx_M → Prop
  | 0, _, _, _, _ => False
  | n + 1, v1, v2, v3, μ => ((μ.1 0 4) ≤ v3 → (K v1 μ)) ∧ (¬ ((μ.1 0 4) ≤ v3) → (vp_in v3 5 ∧ wX0_offOf Λ μ (Λ.2.1 6 v3.toNatClampNeg) (fun r24_3 m24_2 => (v1 = (-1) → (wX11_lawReadingBest_J40 Λ K (wX11_lawReadingBest_L6 Λ K n) v3 r24_3 m24_2)) ∧ (¬ (v1 = (-1)) → ((v2 ≤ r24_3 → (wX11_lawReadingBest_J45_4 Λ K (wX11_lawReadingBest_L6 Λ K n) v1 v2 v3 m24_2)) ∧ (¬ (v2 ≤ r24_3) → (wX11_lawReadingBest_J40 Λ K (wX11_lawReadingBest_L6 Λ K n) v3 r24_3 m24_2)))))))
set_option maxRecDepth 100000 in
set_option maxHeartbeats 4000000 in
theorem kX11_lawReadingBest_L6 {G : hx_GT} {KK : hx_KT} (hG : hx_K cX11_lawReadingBest 5 0 0 (some .int) TbX11 KK G) (cA : hx_CA RX11 cX11_lawReadingBest 6 0 0 G) {Λ : hx_L} (hF : cF Λ)   {K : Int32 → hx_M → Prop} (hK : ∀ (r : Int32) (m : hx_M), K r m → KK (some (.int r)) Λ m)  : ∀ (n : Nat) (v1 : Int32) (v2 : Int32) (v3 : Int32) (μ : hx_M), wX11_lawReadingBest_L6 Λ K n v1 v2 v3 μ → G Λ μ (0, 0) 6 [some (.ref 0), some (.int v1), some (.int v2), some (.int v3), none] [] := by
  intro n
  induction n with
  | zero =>
    intro v1 v2 v3 μ hw
    exact False.elim (by simpa only [wX11_lawReadingBest_L6] using hw)
  | succ n ih =>
    intro v1 v2 v3 μ hw
    unfold wX11_lawReadingBest_L6 at hw
    refine cl_iload_n hG (hx_dq tdX11_lawReadingBest_0 6 rfl) rfl (cl_aload_n hG (hx_dq tdX11_lawReadingBest_0 7 rfl) rfl (cl_getI hG fmX11_32 (hx_dq tdX11_lawReadingBest_0 8 rfl) (cF_S0 hF) (cl_icmp_ge hG 51 (hx_dq tdX11_lawReadingBest_0 9 rfl) rfl (fun c11 => ?_) (fun c11 => ?_))))
    · replace hw := hw.1 c11
      exact cl_iload_n hG (hx_dq tdX11_lawReadingBest_0 30 rfl) rfl (cl_iret hG (hx_dq tdX11_lawReadingBest_0 31 rfl) rfl rfl (hK _ _ hw) (Nat.le_refl _) (Nat.le_refl _))
    · replace hw := hw.2 c11
      obtain ⟨i23_1, hw⟩ := hw
      refine cl_aload_n hG (hx_dq tdX11_lawReadingBest_0 10 rfl) rfl (cl_getS hG fmX11_62 (hx_dq tdX11_lawReadingBest_0 11 rfl) (cF_S0 hF) (cF_R0_9 hF) (cl_aload_n hG (hx_dq tdX11_lawReadingBest_0 12 rfl) rfl (cl_getS hG fmX11_28 (hx_dq tdX11_lawReadingBest_0 13 rfl) (cF_S0 hF) (cF_R0_3 hF) (cl_iload_n hG (hx_dq tdX11_lawReadingBest_0 14 rfl) rfl (cl_aldL hG (hx_dq tdX11_lawReadingBest_0 15 rfl) (cF_S6 hF) i23_1 (cl_callV1 (caX11_lawReadingBest_311 cA) (hx_dq tdX11_lawReadingBest_0 16 rfl) (cF_S36 hF) (Nat.le_of_ble_eq_true rfl) (Nat.le_refl _) (Nat.le_refl _) (sX0_offOf_mk hF hw (fun r24_3 m24_2 hw => ?_))))))))
      refine cl_istore hG (hx_dq tdX11_lawReadingBest_0 17 rfl) (Nat.le_of_ble_eq_true rfl) rfl (cl_iload_n hG (hx_dq tdX11_lawReadingBest_0 18 rfl) rfl (cl_iconst hG (-1) (hx_dq tdX11_lawReadingBest_0 19 rfl) iconst_m1 (cl_icmp_eq hG 40 (hx_dq tdX11_lawReadingBest_0 20 rfl) rfl (fun c31 => ?_) (fun c31 => ?_))))
      · replace hw := hw.1 c31
        exact cl_sub hG (hx_le_c rfl (hx_le_n (hx_le_n (hx_le_c rfl (hx_le_c rfl hx_le_0))))) (kX11_lawReadingBest_J40 hG cA hF v3 r24_3 hK (fun z0 z1 z2 z3 hw => ih z0 z1 z2 z3 hw) hw)
      · replace hw := hw.2 c31
        refine cl_iload hG (hx_dq tdX11_lawReadingBest_0 21 rfl) rfl (cl_iload_n hG (hx_dq tdX11_lawReadingBest_0 22 rfl) rfl (cl_icmp_ge hG 45 (hx_dq tdX11_lawReadingBest_0 23 rfl) rfl (fun c37 => ?_) (fun c37 => ?_)))
        · replace hw := hw.1 c37
          exact cl_sub hG (hx_le_c rfl (hx_le_c rfl (hx_le_c rfl (hx_le_c rfl (hx_le_n hx_le_0))))) (kX11_lawReadingBest_J45_4 hG cA hF v1 v2 v3 hK (fun z0 z1 z2 z3 hw => ih z0 z1 z2 z3 hw) hw)
        · replace hw := hw.2 c37
          exact cl_sub hG (hx_le_c rfl (hx_le_n (hx_le_n (hx_le_c rfl (hx_le_c rfl hx_le_0))))) (kX11_lawReadingBest_J40 hG cA hF v3 r24_3 hK (fun z0 z1 z2 z3 hw => ih z0 z1 z2 z3 hw) hw)
def wX11_lawReadingBest (Λ : hx_L) (μ : hx_M)  (K : Int32 → hx_M → Prop) : Prop := ∃ n6_5, wX11_lawReadingBest_L6 Λ K n6_5 (-1) 0 0 μ
set_option maxRecDepth 100000 in
set_option maxHeartbeats 4000000 in
theorem kX11_lawReadingBest {G : hx_GT} {KK : hx_KT} (hG : hx_K cX11_lawReadingBest 5 0 0 (some .int) TbX11 KK G) (cA : hx_CA RX11 cX11_lawReadingBest 6 0 0 G) {Λ : hx_L} (hF : cF Λ) {μ : hx_M}  {K : Int32 → hx_M → Prop} (hK : ∀ (r : Int32) (m : hx_M), K r m → KK (some (.int r)) Λ m) (hw : wX11_lawReadingBest Λ μ K) : G Λ μ (0, 0) 0 [some (.ref 0), none, none, none, none] [] := by
  unfold wX11_lawReadingBest at hw
  refine cl_iconst hG (-1) (hx_dq tdX11_lawReadingBest_0 0 rfl) iconst_m1 (cl_istore_n hG (hx_dq tdX11_lawReadingBest_0 1 rfl) (Nat.le_of_ble_eq_true rfl) rfl (cl_iconst hG 0 (hx_dq tdX11_lawReadingBest_0 2 rfl) iconst_0 (cl_istore_n hG (hx_dq tdX11_lawReadingBest_0 3 rfl) (Nat.le_of_ble_eq_true rfl) rfl (cl_iconst hG 0 (hx_dq tdX11_lawReadingBest_0 4 rfl) iconst_0 (cl_istore_n hG (hx_dq tdX11_lawReadingBest_0 5 rfl) (Nat.le_of_ble_eq_true rfl) rfl ?_)))))
  obtain ⟨n_, hw⟩ := hw
  refine cl_sub hG (hx_le_c rfl (hx_le_c rfl (hx_le_c rfl (hx_le_c rfl (hx_le_n hx_le_0))))) (kX11_lawReadingBest_L6 hG cA hF hK n_ (-1) 0 0 _ hw)
def sX11_lawReadingBest : hx_ST := fun Λ μ as KK => cF Λ ∧ ∃ (K : Int32 → hx_M → Prop), as = [.ref 0] ∧ wX11_lawReadingBest Λ μ K ∧ (∀ (r : Int32) (m : hx_M), K r m → KK (some (.int r)) Λ m)
theorem sX11_lawReadingBest_mk {Λ : hx_L} {μ : hx_M} {KK : hx_KT}  {K : Int32 → hx_M → Prop} (hF : cF Λ) (hw : wX11_lawReadingBest Λ μ K) (hk : ∀ (r : Int32) (m : hx_M), K r m → KK (some (.int r)) Λ m) : sX11_lawReadingBest Λ μ [.ref 0] KK := ⟨hF, _, rfl, hw, hk⟩
theorem conX11_lawReadingBest : hx_Con yX11_lawReadingBest cX11_lawReadingBest 5 (some .int) 6 0 0 sX11_lawReadingBest := by
  refine hx_con_of (by decide +kernel) tokX11 (by decide) ?_ ?_
  · intro Λ μ as KK h
    obtain ⟨hF, K, rfl, hw, hK⟩ := h
    exact Nat.le_of_ble_eq_true rfl
  · intro G KK hG cA Λ μ as h
    obtain ⟨hF, K, rfl, hw, hK⟩ := h
    exact cl_sub hG (hx_le_c rfl (hx_le_n (hx_le_n (hx_le_n (hx_le_n hx_le_0))))) (kX11_lawReadingBest hG cA hF hK hw)
/-! HemLine.read(I)I -/
def tbX11_read_0 : List (Nat × Instr × Nat) := [(0, .iload_n 1, 1), (1, .iconst (-1), 1), (2, .if_icmp .ne 8, 3), (5, .aload_n 0, 1), (6, .invokevirtual 308, 3), (9, .ireturn, 1), (10, .iload_n 1, 1), (11, .iconst 0, 1), (12, .aload_n 0, 1), (13, .getfield 32, 3), (16, .iconst 1, 1), (17, .isub, 1), (18, .invokestatic 94, 3), (21, .ifCond .eq 19, 3), (24, .aload_n 0, 1), (25, .getfield 62, 3), (28, .aload_n 0, 1), (29, .getfield 28, 3), (32, .iload_n 1, 1), (33, .aaload, 1), (34, .invokevirtual 311, 3), (37, .goto 4, 3), (40, .iconst (-1), 1), (41, .ireturn, 1)]
theorem tdX11_read_0 : hx_dt cX11_read tbX11_read_0 = true := by decide +kernel
theorem caX11_read_94 {G : hx_GT} (cA : hx_CA RX11 cX11_read 7 0 0 G) : hx_CS cX11_read G 0 0 94 3 sX11_within 0 0 := cA.2.1 conX11_within ⟨by decide +kernel, by decide +kernel, by decide +kernel⟩ mw_477 mw_478 mw_84 mw_479 (by decide) (by decide)
theorem caX11_read_308 {G : hx_GT} (cA : hx_CA RX11 cX11_read 7 0 0 G) : hx_CV cX11_read G 0 0 308 11 0 sX11_lawReadingBest 0 0 := cA.1 conX11_lawReadingBest rfl rfl ⟨by decide +kernel, by decide +kernel, by decide +kernel⟩ mw_1075 mw_1077 mw_36 mw_84 mw_1078 (by decide) (by decide)
theorem caX11_read_311 {G : hx_GT} (cA : hx_CA RX11 cX11_read 7 0 0 G) : hx_CV cX11_read G 0 0 311 0 1 sX0_offOf 0 0 := cA.1 conX0_offOf rfl rfl ⟨by decide +kernel, by decide +kernel, by decide +kernel⟩ mw_1079 mw_1080 mw_1081 mw_93 mw_1082 (by decide) (by decide)
def wX11_read (Λ : hx_L) (μ : hx_M) (v1 : Int32) (K : Int32 → hx_M → Prop) : Prop := (v1 ≠ (-1) → (wX11_within v1 0 ((μ.1 0 4) - 1) (fun r18_2 => (r18_2 = 0 → (K (-1) μ)) ∧ (¬ (r18_2 = 0) → (vp_in v1 5 ∧ wX0_offOf Λ μ (Λ.2.1 6 v1.toNatClampNeg) (fun r34_5 m34_4 => K r34_5 m34_4)))))) ∧ (v1 = (-1) → (wX11_lawReadingBest Λ μ (fun r6_7 m6_6 => K r6_7 m6_6)))
set_option maxRecDepth 100000 in
set_option maxHeartbeats 4000000 in
theorem kX11_read {G : hx_GT} {KK : hx_KT} (hG : hx_K cX11_read 2 0 0 (some .int) TbX11 KK G) (cA : hx_CA RX11 cX11_read 7 0 0 G) {Λ : hx_L} (hF : cF Λ) {μ : hx_M} (v1 : Int32) {K : Int32 → hx_M → Prop} (hK : ∀ (r : Int32) (m : hx_M), K r m → KK (some (.int r)) Λ m) (hw : wX11_read Λ μ v1 K) : G Λ μ (0, 0) 0 [some (.ref 0), some (.int v1)] [] := by
  unfold wX11_read at hw
  refine cl_iload_n hG (hx_dq tdX11_read_0 0 rfl) rfl (cl_iconst hG (-1) (hx_dq tdX11_read_0 1 rfl) iconst_m1 (cl_icmp_ne hG 10 (hx_dq tdX11_read_0 2 rfl) rfl (fun c2 => ?_) (fun c2 => ?_)))
  · replace hw := hw.1 c2
    refine cl_iload_n hG (hx_dq tdX11_read_0 6 rfl) rfl (cl_iconst hG 0 (hx_dq tdX11_read_0 7 rfl) iconst_0 (cl_aload_n hG (hx_dq tdX11_read_0 8 rfl) rfl (cl_getI hG fmX11_32 (hx_dq tdX11_read_0 9 rfl) (cF_S0 hF) (cl_iconst hG 1 (hx_dq tdX11_read_0 10 rfl) iconst_1 (cl_isub hG (hx_dq tdX11_read_0 11 rfl) (cl_callS3 (caX11_read_94 cA) (hx_dq tdX11_read_0 12 rfl) (Nat.le_of_ble_eq_true rfl) (Nat.le_refl _) (Nat.le_refl _) (sX11_within_mk hw (fun r18_2 hw => ?_))))))))
    refine cl_if_eq hG 40 (hx_dq tdX11_read_0 13 rfl) rfl (fun c21 => ?_) (fun c21 => ?_)
    · replace hw := hw.1 c21
      exact cl_iconst hG (-1) (hx_dq tdX11_read_0 22 rfl) iconst_m1 (cl_iret hG (hx_dq tdX11_read_0 23 rfl) rfl rfl (hK _ _ hw) (Nat.le_refl _) (Nat.le_refl _))
    · replace hw := hw.2 c21
      obtain ⟨i33_3, hw⟩ := hw
      refine cl_aload_n hG (hx_dq tdX11_read_0 14 rfl) rfl (cl_getS hG fmX11_62 (hx_dq tdX11_read_0 15 rfl) (cF_S0 hF) (cF_R0_9 hF) (cl_aload_n hG (hx_dq tdX11_read_0 16 rfl) rfl (cl_getS hG fmX11_28 (hx_dq tdX11_read_0 17 rfl) (cF_S0 hF) (cF_R0_3 hF) (cl_iload_n hG (hx_dq tdX11_read_0 18 rfl) rfl (cl_aldL hG (hx_dq tdX11_read_0 19 rfl) (cF_S6 hF) i33_3 (cl_callV1 (caX11_read_311 cA) (hx_dq tdX11_read_0 20 rfl) (cF_S36 hF) (Nat.le_of_ble_eq_true rfl) (Nat.le_refl _) (Nat.le_refl _) (sX0_offOf_mk hF hw (fun r34_5 m34_4 hw => ?_))))))))
      exact cl_goto hG 41 (hx_dq tdX11_read_0 21 rfl) rfl (cl_iret hG (hx_dq tdX11_read_0 23 rfl) rfl rfl (hK _ _ hw) (Nat.le_refl _) (Nat.le_refl _))
  · replace hw := hw.2 c2
    refine cl_aload_n hG (hx_dq tdX11_read_0 3 rfl) rfl (cl_callV0 (caX11_read_308 cA) (hx_dq tdX11_read_0 4 rfl) (cF_S0 hF) (Nat.le_of_ble_eq_true rfl) (Nat.le_refl _) (Nat.le_refl _) (sX11_lawReadingBest_mk hF hw (fun r6_7 m6_6 hw => ?_)))
    exact cl_iret hG (hx_dq tdX11_read_0 5 rfl) rfl rfl (hK _ _ hw) (Nat.le_refl _) (Nat.le_refl _)
def sX11_read : hx_ST := fun Λ μ as KK => cF Λ ∧ ∃ (v1 : Int32) (K : Int32 → hx_M → Prop), as = [.ref 0, .int v1] ∧ wX11_read Λ μ v1 K ∧ (∀ (r : Int32) (m : hx_M), K r m → KK (some (.int r)) Λ m)
theorem sX11_read_mk {Λ : hx_L} {μ : hx_M} {KK : hx_KT} {v1 : Int32} {K : Int32 → hx_M → Prop} (hF : cF Λ) (hw : wX11_read Λ μ v1 K) (hk : ∀ (r : Int32) (m : hx_M), K r m → KK (some (.int r)) Λ m) : sX11_read Λ μ [.ref 0, .int v1] KK := ⟨hF, _, _, rfl, hw, hk⟩
theorem conX11_read : hx_Con yX11_read cX11_read 2 (some .int) 7 0 0 sX11_read := by
  refine hx_con_of (by decide +kernel) tokX11 (by decide) ?_ ?_
  · intro Λ μ as KK h
    obtain ⟨hF, v1, K, rfl, hw, hK⟩ := h
    exact Nat.le_of_ble_eq_true rfl
  · intro G KK hG cA Λ μ as h
    obtain ⟨hF, v1, K, rfl, hw, hK⟩ := h
    exact cl_sub hG (hx_le_c rfl (hx_le_c rfl hx_le_0)) (kX11_read hG cA hF _ hK hw)
/-! HemLine.back(I)Z -/
def tbX11_back_0 : List (Nat × Instr × Nat) := [(0, .iload_n 1, 1), (1, .iconst 0, 1), (2, .aload_n 0, 1), (3, .getfield 91, 3), (6, .iconst 1, 1), (7, .isub, 1), (8, .invokestatic 94, 3), (11, .ifCond .ne 5, 3), (14, .iconst 0, 1), (15, .ireturn, 1), (16, .aload_n 0, 1), (17, .getfield 87, 3), (20, .iload_n 1, 1), (21, .aaload, 1), (22, .astore_n 2, 1), (23, .aload_n 2, 1), (24, .ifnonnull 5, 3), (27, .iconst 0, 1), (28, .ireturn, 1), (29, .aload_n 0, 1), (30, .getfield 46, 3), (33, .aload_n 2, 1), (34, .invokevirtual 314, 3), (37, .iconst 1, 1), (38, .ireturn, 1)]
theorem tdX11_back_0 : hx_dt cX11_back tbX11_back_0 = true := by decide +kernel
theorem caX11_back_94 {G : hx_GT} (cA : hx_CA RX11 cX11_back 3 0 0 G) : hx_CS cX11_back G 0 0 94 3 sX11_within 0 0 := cA.2.1 conX11_within ⟨by decide +kernel, by decide +kernel, by decide +kernel⟩ mw_477 mw_478 mw_84 mw_479 (by decide) (by decide)
theorem caX11_back_314 {G : hx_GT} (cA : hx_CA RX11 cX11_back 3 0 0 G) : hx_CV cX11_back G 0 0 314 10 1 sX10_copyOf 0 0 := cA.1 conX10_copyOf rfl rfl ⟨by decide +kernel, by decide +kernel, by decide +kernel⟩ mw_1100 mw_1101 mw_1102 mw_86 mw_1103 (by decide) (by decide)
def wX11_back (Λ : hx_L) (μ : hx_M) (v1 : Int32) (K : Int32 → hx_M → Prop) : Prop := wX11_within v1 0 ((μ.1 0 14) - 1) (fun r8_2 => (r8_2 ≠ 0 → (vp_in v1 3 ∧ (∀ k24_4, (Λ.2.1 48 v1.toNatClampNeg) = some k24_4 → (wX10_copyOf Λ μ 7 (some k24_4) (fun m34_5 => K 1 m34_5))) ∧ ((Λ.2.1 48 v1.toNatClampNeg) = none → (K 0 μ)))) ∧ (r8_2 = 0 → (K 0 μ)))
set_option maxRecDepth 100000 in
set_option maxHeartbeats 4000000 in
theorem kX11_back {G : hx_GT} {KK : hx_KT} (hG : hx_K cX11_back 3 0 0 (some .boolean) TbX11 KK G) (cA : hx_CA RX11 cX11_back 3 0 0 G) {Λ : hx_L} (hF : cF Λ) {μ : hx_M} (v1 : Int32) {K : Int32 → hx_M → Prop} (hK : ∀ (r : Int32) (m : hx_M), K r m → KK (some (.int r)) Λ m) (hw : wX11_back Λ μ v1 K) : G Λ μ (0, 0) 0 [some (.ref 0), some (.int v1), none] [] := by
  unfold wX11_back at hw
  refine cl_iload_n hG (hx_dq tdX11_back_0 0 rfl) rfl (cl_iconst hG 0 (hx_dq tdX11_back_0 1 rfl) iconst_0 (cl_aload_n hG (hx_dq tdX11_back_0 2 rfl) rfl (cl_getI hG fmX11_91 (hx_dq tdX11_back_0 3 rfl) (cF_S0 hF) (cl_iconst hG 1 (hx_dq tdX11_back_0 4 rfl) iconst_1 (cl_isub hG (hx_dq tdX11_back_0 5 rfl) (cl_callS3 (caX11_back_94 cA) (hx_dq tdX11_back_0 6 rfl) (Nat.le_of_ble_eq_true rfl) (Nat.le_refl _) (Nat.le_refl _) (sX11_within_mk hw (fun r8_2 hw => ?_))))))))
  refine cl_if_ne hG 16 (hx_dq tdX11_back_0 7 rfl) rfl (fun c11 => ?_) (fun c11 => ?_)
  · replace hw := hw.1 c11
    obtain ⟨i21_3, hw⟩ := hw
    refine cl_aload_n hG (hx_dq tdX11_back_0 10 rfl) rfl (cl_getS hG fmX11_87 (hx_dq tdX11_back_0 11 rfl) (cF_S0 hF) (cF_R0_13 hF) (cl_iload_n hG (hx_dq tdX11_back_0 12 rfl) rfl (cl_aldW hG (hx_dq tdX11_back_0 13 rfl) (cF_S48 hF) i21_3 (cl_astore_nQ hG (hx_dq tdX11_back_0 14 rfl) (Nat.le_of_ble_eq_true rfl) rfl (cl_aload_nQ hG (hx_dq tdX11_back_0 15 rfl) rfl (cl_ifnonnull hG 29 (hx_dq tdX11_back_0 16 rfl) rfl (fun k24_4 c24 => ?_) (fun c24 => ?_)))))))
    · replace hw := hw.1 k24_4 c24
      refine cl_aload_n hG (hx_dq tdX11_back_0 19 rfl) rfl (cl_getS hG fmX11_46 (hx_dq tdX11_back_0 20 rfl) (cF_S0 hF) (cF_R0_7 hF) (cl_aload_nQ hG (hx_dq tdX11_back_0 21 rfl) rfl (cl_nn c24 (cl_callV1 (caX11_back_314 cA) (hx_dq tdX11_back_0 22 rfl) (cF_S7 hF) (Nat.le_of_ble_eq_true rfl) (Nat.le_refl _) (Nat.le_refl _) (sX10_copyOf_mk hw (fun m34_5 hw => ?_))))))
      exact cl_iconst hG 1 (hx_dq tdX11_back_0 23 rfl) iconst_1 (cl_iret hG (hx_dq tdX11_back_0 24 rfl) rfl rfl (hK _ _ hw) (Nat.le_refl _) (Nat.le_refl _))
    · replace hw := hw.2 c24
      exact cl_iconst hG 0 (hx_dq tdX11_back_0 17 rfl) iconst_0 (cl_iret hG (hx_dq tdX11_back_0 18 rfl) rfl rfl (hK _ _ hw) (Nat.le_refl _) (Nat.le_refl _))
  · replace hw := hw.2 c11
    exact cl_iconst hG 0 (hx_dq tdX11_back_0 8 rfl) iconst_0 (cl_iret hG (hx_dq tdX11_back_0 9 rfl) rfl rfl (hK _ _ hw) (Nat.le_refl _) (Nat.le_refl _))
def sX11_back : hx_ST := fun Λ μ as KK => cF Λ ∧ ∃ (v1 : Int32) (K : Int32 → hx_M → Prop), as = [.ref 0, .int v1] ∧ wX11_back Λ μ v1 K ∧ (∀ (r : Int32) (m : hx_M), K r m → KK (some (.int r)) Λ m)
theorem sX11_back_mk {Λ : hx_L} {μ : hx_M} {KK : hx_KT} {v1 : Int32} {K : Int32 → hx_M → Prop} (hF : cF Λ) (hw : wX11_back Λ μ v1 K) (hk : ∀ (r : Int32) (m : hx_M), K r m → KK (some (.int r)) Λ m) : sX11_back Λ μ [.ref 0, .int v1] KK := ⟨hF, _, _, rfl, hw, hk⟩
theorem conX11_back : hx_Con yX11_back cX11_back 3 (some .boolean) 3 0 0 sX11_back := by
  refine hx_con_of (by decide +kernel) tokX11 (by decide) ?_ ?_
  · intro Λ μ as KK h
    obtain ⟨hF, v1, K, rfl, hw, hK⟩ := h
    exact Nat.le_of_ble_eq_true rfl
  · intro G KK hG cA Λ μ as h
    obtain ⟨hF, v1, K, rfl, hw, hK⟩ := h
    exact cl_sub hG (hx_le_c rfl (hx_le_c rfl (hx_le_n hx_le_0))) (kX11_back hG cA hF _ hK hw)
/-! HemLine.count(I)I -/
def tbX11_count_0 : List (Nat × Instr × Nat) := [(0, .aload_n 0, 1), (1, .invokevirtual 165, 3), (4, .astore_n 2, 1), (5, .iload_n 1, 1), (6, .tableswitch 141 0 9 #[54, 65, 73, 78, 83, 96, 104, 112, 117, 122], 54), (60, .aload_n 0, 1), (61, .getfield 46, 3), (64, .getfield 101, 3), (67, .getfield 317, 3), (70, .ireturn, 1), (71, .aload_n 0, 1), (72, .getfield 46, 3), (75, .getfield 98, 3), (78, .ireturn, 1), (79, .aload_n 0, 1), (80, .getfield 32, 3), (83, .ireturn, 1), (84, .aload_n 0, 1), (85, .getfield 35, 3), (88, .ireturn, 1), (89, .aload_n 2, 1), (90, .ifnonnull 7, 3), (93, .iconst 0, 1), (94, .goto 7, 3), (97, .aload_n 2, 1), (98, .getfield 320, 3), (101, .ireturn, 1), (102, .aload_n 0, 1), (103, .getfield 76, 3), (106, .getfield 323, 3), (109, .ireturn, 1), (110, .aload_n 0, 1)]
def tbX11_count_1 : List (Nat × Instr × Nat) := [(111, .getfield 46, 3), (114, .getfield 275, 3), (117, .ireturn, 1), (118, .aload_n 0, 1), (119, .getfield 91, 3), (122, .ireturn, 1), (123, .aload_n 0, 1), (124, .getfield 13, 3), (127, .ireturn, 1), (128, .aload_n 0, 1), (129, .getfield 46, 3), (132, .getfield 111, 3), (135, .getfield 137, 3), (138, .aload_n 0, 1), (139, .getfield 46, 3), (142, .getfield 98, 3), (145, .iaload, 1), (146, .ireturn, 1), (147, .iload_n 1, 1), (148, .bipush 10, 2), (150, .isub, 1), (151, .invokestatic 131, 3), (154, .ifCond .eq 27, 3), (157, .aload_n 0, 1), (158, .getfield 46, 3), (161, .getfield 111, 3), (164, .iload_n 1, 1), (165, .bipush 10, 2), (167, .isub, 1), (168, .aload_n 0, 1), (169, .getfield 46, 3), (172, .getfield 98, 3)]
def tbX11_count_2 : List (Nat × Instr × Nat) := [(175, .invokevirtual 324, 3), (178, .goto 4, 3), (181, .iconst (-1), 1), (182, .ireturn, 1)]
theorem tdX11_count_0 : hx_dt cX11_count tbX11_count_0 = true := by decide +kernel
theorem tdX11_count_1 : hx_dt cX11_count tbX11_count_1 = true := by decide +kernel
theorem tdX11_count_2 : hx_dt cX11_count tbX11_count_2 = true := by decide +kernel
theorem caX11_count_131 {G : hx_GT} (cA : hx_CA RX11 cX11_count 3 0 0 G) : hx_CS cX11_count G 0 0 131 1 sX11_isHouse 0 0 := cA.2.1 conX11_isHouse ⟨by decide +kernel, by decide +kernel, by decide +kernel⟩ mw_497 mw_498 mw_84 mw_499 (by decide) (by decide)
theorem caX11_count_165 {G : hx_GT} (cA : hx_CA RX11 cX11_count 3 0 0 G) : hx_CV cX11_count G 0 0 165 11 0 sX11_lawInForce 0 0 := cA.1 conX11_lawInForce rfl rfl ⟨by decide +kernel, by decide +kernel, by decide +kernel⟩ mw_687 mw_689 mw_15 mw_84 mw_690 (by decide) (by decide)
theorem caX11_count_324 {G : hx_GT} (cA : hx_CA RX11 cX11_count 3 0 0 G) : hx_CV cX11_count G 0 0 324 3 2 sX3_shownBy 0 0 := cA.1 conX3_shownBy rfl rfl ⟨by decide +kernel, by decide +kernel, by decide +kernel⟩ mw_1119 mw_760 mw_761 mw_88 mw_762 (by decide) (by decide)
def wX11_count (Λ : hx_L) (μ : hx_M) (v1 : Int32) (K : Int32 → Prop) : Prop := wX11_lawInForce Λ μ (fun r1_2 => ((v1 : Int32).toInt < 0 ∨ 9 < (v1 : Int32).toInt → (wX11_isHouse (v1 - 10) (fun r151_4 => (r151_4 = 0 → (K (-1))) ∧ (¬ (r151_4 = 0) → (wX3_shownBy μ (v1 - 10) (μ.1 7 7) (fun r175_6 => K r175_6)))))) ∧ (v1 = 0 → (K (μ.1 8 0))) ∧ (v1 = 1 → (K (μ.1 7 7))) ∧ (v1 = 2 → (K (μ.1 0 4))) ∧ (v1 = 3 → (K (μ.1 0 5))) ∧ (v1 = 4 → ((∀ k90_7, r1_2 = some k90_7 → (Λ.1 k90_7 = (0, 1) ∧ K (μ.1 k90_7 1))) ∧ (r1_2 = none → (K 0)))) ∧ (v1 = 5 → (K (μ.1 39 1))) ∧ (v1 = 6 → (K (μ.1 7 8))) ∧ (v1 = 7 → (K (μ.1 0 14))) ∧ (v1 = 8 → (K (μ.1 0 1))) ∧ (v1 = 9 → (vp_in (μ.1 7 7) 301 ∧ K ((μ.1 20 ((μ.1 7 7).toNatClampNeg))))))
set_option maxRecDepth 100000 in
set_option maxHeartbeats 4000000 in
theorem kX11_count {G : hx_GT} {KK : hx_KT} (hG : hx_K cX11_count 3 0 0 (some .int) TbX11 KK G) (cA : hx_CA RX11 cX11_count 3 0 0 G) {Λ : hx_L} (hF : cF Λ) {μ : hx_M} (v1 : Int32) {K : Int32 → Prop} (hK : ∀ (r : Int32), K r → KK (some (.int r)) Λ μ) (hw : wX11_count Λ μ v1 K) : G Λ μ (0, 0) 0 [some (.ref 0), some (.int v1), none] [] := by
  unfold wX11_count at hw
  refine cl_aload_n hG (hx_dq tdX11_count_0 0 rfl) rfl (cl_callV0 (caX11_count_165 cA) (hx_dq tdX11_count_0 1 rfl) (cF_S0 hF) (Nat.le_of_ble_eq_true rfl) (Nat.le_refl _) (Nat.le_refl _) (sX11_lawInForce_mk hF hw (fun r1_2 hw => ?_)))
  refine cl_astore_nQ hG (hx_dq tdX11_count_0 2 rfl) (Nat.le_of_ble_eq_true rfl) rfl (cl_iload_n hG (hx_dq tdX11_count_0 3 rfl) rfl (hG.1 _ _ _ (hx_dq tdX11_count_0 4 rfl) _ _ _ _ _ ⟨_, _, rfl, fun c6 => ⟨147, rfl, ?_⟩, fun c6 e6 => ?_⟩))
  · replace hw := hw.1 c6
    refine cl_iload_n hG (hx_dq tdX11_count_1 18 rfl) rfl (cl_bipush hG 10 (hx_dq tdX11_count_1 19 rfl) bipush_10 (cl_isub hG (hx_dq tdX11_count_1 20 rfl) (cl_callS1 (caX11_count_131 cA) (hx_dq tdX11_count_1 21 rfl) (Nat.le_of_ble_eq_true rfl) (Nat.le_refl _) (Nat.le_refl _) (sX11_isHouse_mk hw (fun r151_4 hw => ?_)))))
    refine cl_if_eq hG 181 (hx_dq tdX11_count_1 22 rfl) rfl (fun c154 => ?_) (fun c154 => ?_)
    · replace hw := hw.1 c154
      exact cl_iconst hG (-1) (hx_dq tdX11_count_2 2 rfl) iconst_m1 (cl_iret hG (hx_dq tdX11_count_2 3 rfl) rfl rfl (hK _ hw) (Nat.le_refl _) (Nat.le_refl _))
    · replace hw := hw.2 c154
      refine cl_aload_n hG (hx_dq tdX11_count_1 23 rfl) rfl (cl_getS hG fmX11_46 (hx_dq tdX11_count_1 24 rfl) (cF_S0 hF) (cF_R0_7 hF) (cl_getS hG fmX11_111 (hx_dq tdX11_count_1 25 rfl) (cF_S7 hF) (cF_R7_1 hF) (cl_iload_n hG (hx_dq tdX11_count_1 26 rfl) rfl (cl_bipush hG 10 (hx_dq tdX11_count_1 27 rfl) bipush_10 (cl_isub hG (hx_dq tdX11_count_1 28 rfl) (cl_aload_n hG (hx_dq tdX11_count_1 29 rfl) rfl (cl_getS hG fmX11_46 (hx_dq tdX11_count_1 30 rfl) (cF_S0 hF) (cF_R0_7 hF) (cl_getI hG fmX11_98 (hx_dq tdX11_count_1 31 rfl) (cF_S7 hF) (cl_callV2 (caX11_count_324 cA) (hx_dq tdX11_count_2 0 rfl) (cF_S15 hF) (Nat.le_of_ble_eq_true rfl) (Nat.le_refl _) (Nat.le_refl _) (sX3_shownBy_mk hF hw (fun r175_6 hw => ?_)))))))))))
      exact cl_goto hG 182 (hx_dq tdX11_count_2 1 rfl) rfl (cl_iret hG (hx_dq tdX11_count_2 3 rfl) rfl rfl (hK _ hw) (Nat.le_refl _) (Nat.le_refl _))
  · replace hw := hw.2
    rcases hx_sw9 _ c6 e6 with c | c | c | c | c | c | c | c | c | c
    · replace hw := hw.1 c
      refine ⟨54, 60, by rw [c]; decide, rfl, ?_⟩
      exact cl_aload_n hG (hx_dq tdX11_count_0 5 rfl) rfl (cl_getS hG fmX11_46 (hx_dq tdX11_count_0 6 rfl) (cF_S0 hF) (cF_R0_7 hF) (cl_getS hG fmX11_101 (hx_dq tdX11_count_0 7 rfl) (cF_S7 hF) (cF_R7_0 hF) (cl_getI hG fmX11_317 (hx_dq tdX11_count_0 8 rfl) (cF_S8 hF) (cl_iret hG (hx_dq tdX11_count_0 9 rfl) rfl rfl (hK _ hw) (Nat.le_refl _) (Nat.le_refl _)))))
    · replace hw := hw.2.1 c
      refine ⟨65, 71, by rw [c]; decide, rfl, ?_⟩
      exact cl_aload_n hG (hx_dq tdX11_count_0 10 rfl) rfl (cl_getS hG fmX11_46 (hx_dq tdX11_count_0 11 rfl) (cF_S0 hF) (cF_R0_7 hF) (cl_getI hG fmX11_98 (hx_dq tdX11_count_0 12 rfl) (cF_S7 hF) (cl_iret hG (hx_dq tdX11_count_0 13 rfl) rfl rfl (hK _ hw) (Nat.le_refl _) (Nat.le_refl _))))
    · replace hw := hw.2.2.1 c
      refine ⟨73, 79, by rw [c]; decide, rfl, ?_⟩
      exact cl_aload_n hG (hx_dq tdX11_count_0 14 rfl) rfl (cl_getI hG fmX11_32 (hx_dq tdX11_count_0 15 rfl) (cF_S0 hF) (cl_iret hG (hx_dq tdX11_count_0 16 rfl) rfl rfl (hK _ hw) (Nat.le_refl _) (Nat.le_refl _)))
    · replace hw := hw.2.2.2.1 c
      refine ⟨78, 84, by rw [c]; decide, rfl, ?_⟩
      exact cl_aload_n hG (hx_dq tdX11_count_0 17 rfl) rfl (cl_getI hG fmX11_35 (hx_dq tdX11_count_0 18 rfl) (cF_S0 hF) (cl_iret hG (hx_dq tdX11_count_0 19 rfl) rfl rfl (hK _ hw) (Nat.le_refl _) (Nat.le_refl _)))
    · replace hw := hw.2.2.2.2.1 c
      refine ⟨83, 89, by rw [c]; decide, rfl, ?_⟩
      refine cl_aload_nQ hG (hx_dq tdX11_count_0 20 rfl) rfl (cl_ifnonnull hG 97 (hx_dq tdX11_count_0 21 rfl) rfl (fun k90_7 c90 => ?_) (fun c90 => ?_))
      · replace hw := hw.1 k90_7 c90
        revert hw
        subst c90
        intro hw
        obtain ⟨o98_8, hw⟩ := hw
        exact cl_aload_n hG (hx_dq tdX11_count_0 24 rfl) rfl (cl_getF hG fmX11_320 (hx_dq tdX11_count_0 25 rfl) o98_8 (cl_iret hG (hx_dq tdX11_count_0 26 rfl) rfl rfl (hK _ hw) (Nat.le_refl _) (Nat.le_refl _)))
      · replace hw := hw.2 c90
        exact cl_iconst hG 0 (hx_dq tdX11_count_0 22 rfl) iconst_0 (cl_goto hG 101 (hx_dq tdX11_count_0 23 rfl) rfl (cl_iret hG (hx_dq tdX11_count_0 26 rfl) rfl rfl (hK _ hw) (Nat.le_refl _) (Nat.le_refl _)))
    · replace hw := hw.2.2.2.2.2.1 c
      refine ⟨96, 102, by rw [c]; decide, rfl, ?_⟩
      exact cl_aload_n hG (hx_dq tdX11_count_0 27 rfl) rfl (cl_getS hG fmX11_76 (hx_dq tdX11_count_0 28 rfl) (cF_S0 hF) (cF_R0_11 hF) (cl_getI hG fmX11_323 (hx_dq tdX11_count_0 29 rfl) (cF_S39 hF) (cl_iret hG (hx_dq tdX11_count_0 30 rfl) rfl rfl (hK _ hw) (Nat.le_refl _) (Nat.le_refl _))))
    · replace hw := hw.2.2.2.2.2.2.1 c
      refine ⟨104, 110, by rw [c]; decide, rfl, ?_⟩
      exact cl_aload_n hG (hx_dq tdX11_count_0 31 rfl) rfl (cl_getS hG fmX11_46 (hx_dq tdX11_count_1 0 rfl) (cF_S0 hF) (cF_R0_7 hF) (cl_getI hG fmX11_275 (hx_dq tdX11_count_1 1 rfl) (cF_S7 hF) (cl_iret hG (hx_dq tdX11_count_1 2 rfl) rfl rfl (hK _ hw) (Nat.le_refl _) (Nat.le_refl _))))
    · replace hw := hw.2.2.2.2.2.2.2.1 c
      refine ⟨112, 118, by rw [c]; decide, rfl, ?_⟩
      exact cl_aload_n hG (hx_dq tdX11_count_1 3 rfl) rfl (cl_getI hG fmX11_91 (hx_dq tdX11_count_1 4 rfl) (cF_S0 hF) (cl_iret hG (hx_dq tdX11_count_1 5 rfl) rfl rfl (hK _ hw) (Nat.le_refl _) (Nat.le_refl _)))
    · replace hw := hw.2.2.2.2.2.2.2.2.1 c
      refine ⟨117, 123, by rw [c]; decide, rfl, ?_⟩
      exact cl_aload_n hG (hx_dq tdX11_count_1 6 rfl) rfl (cl_getI hG fmX11_13 (hx_dq tdX11_count_1 7 rfl) (cF_S0 hF) (cl_iret hG (hx_dq tdX11_count_1 8 rfl) rfl rfl (hK _ hw) (Nat.le_refl _) (Nat.le_refl _)))
    · replace hw := hw.2.2.2.2.2.2.2.2.2 c
      refine ⟨122, 128, by rw [c]; decide, rfl, ?_⟩
      obtain ⟨i145_9, hw⟩ := hw
      exact cl_aload_n hG (hx_dq tdX11_count_1 9 rfl) rfl (cl_getS hG fmX11_46 (hx_dq tdX11_count_1 10 rfl) (cF_S0 hF) (cF_R0_7 hF) (cl_getS hG fmX11_111 (hx_dq tdX11_count_1 11 rfl) (cF_S7 hF) (cF_R7_1 hF) (cl_getS hG fmX11_137 (hx_dq tdX11_count_1 12 rfl) (cF_S15 hF) (cF_R15_5 hF) (cl_aload_n hG (hx_dq tdX11_count_1 13 rfl) rfl (cl_getS hG fmX11_46 (hx_dq tdX11_count_1 14 rfl) (cF_S0 hF) (cF_R0_7 hF) (cl_getI hG fmX11_98 (hx_dq tdX11_count_1 15 rfl) (cF_S7 hF) (cl_iald hG (hx_dq tdX11_count_1 16 rfl) (cF_S20 hF) i145_9 (cl_iret hG (hx_dq tdX11_count_1 17 rfl) rfl rfl (hK _ hw) (Nat.le_refl _) (Nat.le_refl _)))))))))
def sX11_count : hx_ST := fun Λ μ as KK => cF Λ ∧ ∃ (v1 : Int32) (K : Int32 → Prop), as = [.ref 0, .int v1] ∧ wX11_count Λ μ v1 K ∧ (∀ (r : Int32), K r → KK (some (.int r)) Λ μ)
theorem sX11_count_mk {Λ : hx_L} {μ : hx_M} {KK : hx_KT} {v1 : Int32} {K : Int32 → Prop} (hF : cF Λ) (hw : wX11_count Λ μ v1 K) (hk : ∀ (r : Int32), K r → KK (some (.int r)) Λ μ) : sX11_count Λ μ [.ref 0, .int v1] KK := ⟨hF, _, _, rfl, hw, hk⟩
theorem conX11_count : hx_Con yX11_count cX11_count 3 (some .int) 3 0 0 sX11_count := by
  refine hx_con_of (by decide +kernel) tokX11 (by decide) ?_ ?_
  · intro Λ μ as KK h
    obtain ⟨hF, v1, K, rfl, hw, hK⟩ := h
    exact Nat.le_of_ble_eq_true rfl
  · intro G KK hG cA Λ μ as h
    obtain ⟨hF, v1, K, rfl, hw, hK⟩ := h
    exact cl_sub hG (hx_le_c rfl (hx_le_c rfl (hx_le_n hx_le_0))) (kX11_count hG cA hF _ hK hw)
