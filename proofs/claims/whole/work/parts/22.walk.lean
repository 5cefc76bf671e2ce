/-! HemLine$LawReader.readOne(I)Z -/
def tbX2_readOne_0 : List (Nat × Instr × Nat) := [(0, .aload_n 0, 1), (1, .getfield 19, 3), (4, .aload_n 0, 1), (5, .getfield 26, 3), (8, .iaload, 1), (9, .sipush 10020, 3), (12, .if_icmp .ne 7, 3), (15, .iconst 1, 1), (16, .goto 4, 3), (19, .iconst 0, 1), (20, .istore_n 2, 1), (21, .iload_n 2, 1), (22, .ifCond .ne 23, 3), (25, .aload_n 0, 1), (26, .getfield 19, 3), (29, .aload_n 0, 1), (30, .getfield 26, 3), (33, .iaload, 1), (34, .sipush 20040, 3), (37, .if_icmp .eq 8, 3), (40, .aload_n 0, 1), (41, .invokevirtual 113, 3), (44, .ireturn, 1), (45, .iload_n 1, 1), (46, .bipush 8, 2), (48, .if_icmp .lt 5, 3), (51, .iconst 0, 1), (52, .ireturn, 1), (53, .aload_n 0, 1), (54, .dup, 1), (55, .getfield 26, 3), (58, .iconst 1, 1)]
def tbX2_readOne_1 : List (Nat × Instr × Nat) := [(59, .iadd, 1), (60, .putfield 26, 3), (63, .iload_n 2, 1), (64, .ifCond .eq 18, 3), (67, .aload_n 0, 1), (68, .iload_n 1, 1), (69, .iconst 1, 1), (70, .iadd, 1), (71, .invokevirtual 110, 3), (74, .istore_n 3, 1), (75, .aload_n 0, 1), (76, .iconst (-1), 1), (77, .invokevirtual 86, 3), (80, .iload_n 3, 1), (81, .ireturn, 1), (82, .aload_n 0, 1), (83, .iload_n 1, 1), (84, .iconst 1, 1), (85, .iadd, 1), (86, .invokevirtual 97, 3), (89, .ifCond .eq 17, 3), (92, .aload_n 0, 1), (93, .sipush 20041, 3), (96, .invokevirtual 94, 3), (99, .ifCond .eq 7, 3), (102, .iconst 1, 1), (103, .goto 4, 3), (106, .iconst 0, 1), (107, .ireturn, 1)]
theorem tdX2_readOne_0 : hx_dt cX2_readOne tbX2_readOne_0 = true := by decide +kernel
theorem tdX2_readOne_1 : hx_dt cX2_readOne tbX2_readOne_1 = true := by decide +kernel
theorem caX2_readOne_86 {G : hx_GT} {W1 : hx_M → Int32 → (Int32 → hx_M → Prop) → Prop} {h1 : Nat} (hc1 : hx_Con yX2_readOne cX2_readOne 4 (some .boolean) h1 0 0 (sX2_readOne W1)) (h5 : 6 ≤ h1) (cA : hx_CA RX2 cX2_readOne (h1 + 3) 0 0 G) : hx_CV cX2_readOne G 0 0 86 2 1 sX2_put 0 0 := cA.1 conX2_put rfl rfl ⟨by decide +kernel, by decide +kernel, by decide +kernel⟩ mw_633 mw_635 mw_7 mw_85 mw_636 (by omega) (by decide)
theorem caX2_readOne_94 {G : hx_GT} {W1 : hx_M → Int32 → (Int32 → hx_M → Prop) → Prop} {h1 : Nat} (hc1 : hx_Con yX2_readOne cX2_readOne 4 (some .boolean) h1 0 0 (sX2_readOne W1)) (h5 : 6 ≤ h1) (cA : hx_CA RX2 cX2_readOne (h1 + 3) 0 0 G) : hx_CV cX2_readOne G 0 0 94 2 1 sX2_takes 0 0 := cA.1 conX2_takes rfl rfl ⟨by decide +kernel, by decide +kernel, by decide +kernel⟩ mw_648 mw_650 mw_10 mw_85 mw_651 (by omega) (by decide)
theorem caX2_readOne_97 {G : hx_GT} {W1 : hx_M → Int32 → (Int32 → hx_M → Prop) → Prop} {h1 : Nat} (hc1 : hx_Con yX2_readOne cX2_readOne 4 (some .boolean) h1 0 0 (sX2_readOne W1)) (h5 : 6 ≤ h1) (cA : hx_CA RX2 cX2_readOne (h1 + 3) 0 0 G) : hx_CV cX2_readOne G 0 0 97 2 1 (sX2_readAny W1) 0 0 := cA.1 (conX2_readAny hc1 h5) rfl rfl ⟨by decide +kernel, by decide +kernel, by decide +kernel⟩ mw_652 mw_654 mw_11 mw_85 mw_655 (by omega) (by decide)
theorem caX2_readOne_110 {G : hx_GT} {W1 : hx_M → Int32 → (Int32 → hx_M → Prop) → Prop} {h1 : Nat} (hc1 : hx_Con yX2_readOne cX2_readOne 4 (some .boolean) h1 0 0 (sX2_readOne W1)) (h5 : 6 ≤ h1) (cA : hx_CA RX2 cX2_readOne (h1 + 3) 0 0 G) : hx_CV cX2_readOne G 0 0 110 2 1 (sX2_readOne W1) 0 0 := cA.1 hc1 rfl rfl ⟨by decide +kernel, by decide +kernel, by decide +kernel⟩ mw_660 mw_662 mw_13 mw_85 mw_663 (by omega) (by decide)
theorem caX2_readOne_113 {G : hx_GT} {W1 : hx_M → Int32 → (Int32 → hx_M → Prop) → Prop} {h1 : Nat} (hc1 : hx_Con yX2_readOne cX2_readOne 4 (some .boolean) h1 0 0 (sX2_readOne W1)) (h5 : 6 ≤ h1) (cA : hx_CA RX2 cX2_readOne (h1 + 3) 0 0 G) : hx_CV cX2_readOne G 0 0 113 2 0 sX2_readComparison 0 0 := cA.1 conX2_readComparison rfl rfl ⟨by decide +kernel, by decide +kernel, by decide +kernel⟩ mw_664 mw_666 mw_14 mw_85 mw_667 (by omega) (by decide)
def wX2_readOne_J45 (W1 : hx_M → Int32 → (Int32 → hx_M → Prop) → Prop) (K : Int32 → hx_M → Prop)  (v1 : Int32) (v2 : Int32)  (μ : hx_M) : Prop := (v1 < 8 → ((v2 = 0 → (wX2_readAny W1 (hx_sI μ 2 4 ((μ.1 2 4) + 1)) (v1 + 1) (fun r86_3 m86_2 => (r86_3 = 0 → (K 0 m86_2)) ∧ (¬ (r86_3 = 0) → (wX2_takes m86_2 20041 (fun r96_5 m96_4 => (r96_5 = 0 → (K 0 m96_4)) ∧ (¬ (r96_5 = 0) → (K 1 m96_4)))))))) ∧ (¬ (v2 = 0) → (W1 (hx_sI μ 2 4 ((μ.1 2 4) + 1)) (v1 + 1) (fun r71_7 m71_6 => wX2_put m71_6 (-1) (fun m77_8 => (r71_7 = 0 ∨ r71_7 = 1) ∧ K r71_7 m77_8)))))) ∧ (¬ (v1 < 8) → (K 0 μ))
set_option maxRecDepth 100000 in
set_option maxHeartbeats 4000000 in
theorem kX2_readOne_J45 {G : hx_GT} {KK : hx_KT} {W1 : hx_M → Int32 → (Int32 → hx_M → Prop) → Prop} {h1 : Nat} (hG : hx_K cX2_readOne 4 0 0 (some .boolean) TbX2 KK G) (hc1 : hx_Con yX2_readOne cX2_readOne 4 (some .boolean) h1 0 0 (sX2_readOne W1)) (h5 : 6 ≤ h1) (cA : hx_CA RX2 cX2_readOne (h1 + 3) 0 0 G) {Λ : hx_L} (hF : cF Λ) {μ : hx_M} (v1 : Int32) (v2 : Int32)  {K : Int32 → hx_M → Prop} (hK : ∀ (r : Int32) (m : hx_M), K r m → KK (some (.int r)) Λ m)  (hw : wX2_readOne_J45 W1 K v1 v2 μ) : G Λ μ (0, 0) 45 [some (.ref 2), some (.int v1), some (.int v2), none] [] := by
  unfold wX2_readOne_J45 at hw
  refine cl_iload_n hG (hx_dq tdX2_readOne_0 23 rfl) rfl (cl_bipush hG 8 (hx_dq tdX2_readOne_0 24 rfl) bipush_8 (cl_icmp_lt hG 53 (hx_dq tdX2_readOne_0 25 rfl) rfl (fun c48 => ?_) (fun c48 => ?_)))
  · replace hw := hw.1 c48
    refine cl_aload_n hG (hx_dq tdX2_readOne_0 28 rfl) rfl (cl_dup hG (hx_dq tdX2_readOne_0 29 rfl) rfl (cl_getI hG fmX2_26 (hx_dq tdX2_readOne_0 30 rfl) (cF_S2 hF) (cl_iconst hG 1 (hx_dq tdX2_readOne_0 31 rfl) iconst_1 (cl_iadd hG (hx_dq tdX2_readOne_1 0 rfl) (cl_putI hG fmX2_26 (hx_dq tdX2_readOne_1 1 rfl) (cF_S2 hF) (cl_iload_n hG (hx_dq tdX2_readOne_1 2 rfl) rfl (cl_if_eq hG 82 (hx_dq tdX2_readOne_1 3 rfl) rfl (fun c64 => ?_) (fun c64 => ?_))))))))
    · replace hw := hw.1 c64
      refine cl_aload_n hG (hx_dq tdX2_readOne_1 15 rfl) rfl (cl_iload_n hG (hx_dq tdX2_readOne_1 16 rfl) rfl (cl_iconst hG 1 (hx_dq tdX2_readOne_1 17 rfl) iconst_1 (cl_iadd hG (hx_dq tdX2_readOne_1 18 rfl) (cl_callV1 (caX2_readOne_97 hc1 h5 cA) (hx_dq tdX2_readOne_1 19 rfl) (cF_S2 hF) (Nat.le_of_ble_eq_true rfl) (Nat.le_refl _) (Nat.le_refl _) (sX2_readAny_mk hF hw (fun r86_3 m86_2 hw => ?_))))))
      refine cl_if_eq hG 106 (hx_dq tdX2_readOne_1 20 rfl) rfl (fun c89 => ?_) (fun c89 => ?_)
      · replace hw := hw.1 c89
        exact cl_iconst hG 0 (hx_dq tdX2_readOne_1 27 rfl) iconst_0 (cl_iret hG (hx_dq tdX2_readOne_1 28 rfl) rfl rfl (hK _ _ hw) (Nat.le_refl _) (Nat.le_refl _))
      · replace hw := hw.2 c89
        refine cl_aload_n hG (hx_dq tdX2_readOne_1 21 rfl) rfl (cl_sipush hG 20041 (hx_dq tdX2_readOne_1 22 rfl) sipush_20041 (cl_callV1 (caX2_readOne_94 hc1 h5 cA) (hx_dq tdX2_readOne_1 23 rfl) (cF_S2 hF) (Nat.le_of_ble_eq_true rfl) (Nat.le_refl _) (Nat.le_refl _) (sX2_takes_mk hF hw (fun r96_5 m96_4 hw => ?_))))
        refine cl_if_eq hG 106 (hx_dq tdX2_readOne_1 24 rfl) rfl (fun c99 => ?_) (fun c99 => ?_)
        · replace hw := hw.1 c99
          exact cl_iconst hG 0 (hx_dq tdX2_readOne_1 27 rfl) iconst_0 (cl_iret hG (hx_dq tdX2_readOne_1 28 rfl) rfl rfl (hK _ _ hw) (Nat.le_refl _) (Nat.le_refl _))
        · replace hw := hw.2 c99
          exact cl_iconst hG 1 (hx_dq tdX2_readOne_1 25 rfl) iconst_1 (cl_goto hG 107 (hx_dq tdX2_readOne_1 26 rfl) rfl (cl_iret hG (hx_dq tdX2_readOne_1 28 rfl) rfl rfl (hK _ _ hw) (Nat.le_refl _) (Nat.le_refl _)))
    · replace hw := hw.2 c64
      refine cl_aload_n hG (hx_dq tdX2_readOne_1 4 rfl) rfl (cl_iload_n hG (hx_dq tdX2_readOne_1 5 rfl) rfl (cl_iconst hG 1 (hx_dq tdX2_readOne_1 6 rfl) iconst_1 (cl_iadd hG (hx_dq tdX2_readOne_1 7 rfl) (cl_callV1 (caX2_readOne_110 hc1 h5 cA) (hx_dq tdX2_readOne_1 8 rfl) (cF_S2 hF) (Nat.le_of_ble_eq_true rfl) (Nat.le_refl _) (Nat.le_refl _) (sX2_readOne_mk hF hw (fun r71_7 m71_6 hw => ?_))))))
      refine cl_istore_n hG (hx_dq tdX2_readOne_1 9 rfl) (Nat.le_of_ble_eq_true rfl) rfl (cl_aload_n hG (hx_dq tdX2_readOne_1 10 rfl) rfl (cl_iconst hG (-1) (hx_dq tdX2_readOne_1 11 rfl) iconst_m1 (cl_callV1 (caX2_readOne_86 hc1 h5 cA) (hx_dq tdX2_readOne_1 12 rfl) (cF_S2 hF) (Nat.le_of_ble_eq_true rfl) (Nat.le_refl _) (Nat.le_refl _) (sX2_put_mk hF hw (fun m77_8 hw => ?_)))))
      obtain ⟨b81, hw⟩ := hw
      exact cl_iload_n hG (hx_dq tdX2_readOne_1 13 rfl) rfl (cl_iret hG (hx_dq tdX2_readOne_1 14 rfl) rfl (hx_nb b81) (hK _ _ hw) (Nat.le_refl _) (Nat.le_refl _))
  · replace hw := hw.2 c48
    exact cl_iconst hG 0 (hx_dq tdX2_readOne_0 26 rfl) iconst_0 (cl_iret hG (hx_dq tdX2_readOne_0 27 rfl) rfl rfl (hK _ _ hw) (Nat.le_refl _) (Nat.le_refl _))
def wX2_readOne_J20 (W1 : hx_M → Int32 → (Int32 → hx_M → Prop) → Prop) (K : Int32 → hx_M → Prop)  (v1 : Int32) (t0 : Int32) (μ : hx_M) : Prop := (t0 ≠ 0 → (wX2_readOne_J45 W1 K v1 t0 μ)) ∧ (t0 = 0 → (vp_in (μ.1 2 4) 701 ∧ (((μ.1 3 ((μ.1 2 4).toNatClampNeg))) = 20040 → (wX2_readOne_J45 W1 K v1 t0 μ)) ∧ (¬ (((μ.1 3 ((μ.1 2 4).toNatClampNeg))) = 20040) → (wX2_readComparison μ (fun r41_12 m41_11 => (r41_12 = 0 ∨ r41_12 = 1) ∧ K r41_12 m41_11)))))
set_option maxRecDepth 100000 in
set_option maxHeartbeats 4000000 in
theorem kX2_readOne_J20 {G : hx_GT} {KK : hx_KT} {W1 : hx_M → Int32 → (Int32 → hx_M → Prop) → Prop} {h1 : Nat} (hG : hx_K cX2_readOne 4 0 0 (some .boolean) TbX2 KK G) (hc1 : hx_Con yX2_readOne cX2_readOne 4 (some .boolean) h1 0 0 (sX2_readOne W1)) (h5 : 6 ≤ h1) (cA : hx_CA RX2 cX2_readOne (h1 + 3) 0 0 G) {Λ : hx_L} (hF : cF Λ) {μ : hx_M} (v1 : Int32) (t0 : Int32) {K : Int32 → hx_M → Prop} (hK : ∀ (r : Int32) (m : hx_M), K r m → KK (some (.int r)) Λ m)  (hw : wX2_readOne_J20 W1 K v1 t0 μ) : G Λ μ (0, 0) 20 [some (.ref 2), some (.int v1), none, none] [.int t0] := by
  unfold wX2_readOne_J20 at hw
  refine cl_istore_n hG (hx_dq tdX2_readOne_0 10 rfl) (Nat.le_of_ble_eq_true rfl) rfl (cl_iload_n hG (hx_dq tdX2_readOne_0 11 rfl) rfl (cl_if_ne hG 45 (hx_dq tdX2_readOne_0 12 rfl) rfl (fun c22 => ?_) (fun c22 => ?_)))
  · replace hw := hw.1 c22
    exact cl_sub hG (hx_le_c rfl (hx_le_c rfl (hx_le_c rfl (hx_le_n hx_le_0)))) (kX2_readOne_J45 hG hc1 h5 cA hF v1 t0 hK hw)
  · replace hw := hw.2 c22
    obtain ⟨i33_10, hw⟩ := hw
    refine cl_aload_n hG (hx_dq tdX2_readOne_0 13 rfl) rfl (cl_getS hG fmX2_19 (hx_dq tdX2_readOne_0 14 rfl) (cF_S2 hF) (cF_R2_2 hF) (cl_aload_n hG (hx_dq tdX2_readOne_0 15 rfl) rfl (cl_getI hG fmX2_26 (hx_dq tdX2_readOne_0 16 rfl) (cF_S2 hF) (cl_iald hG (hx_dq tdX2_readOne_0 17 rfl) (cF_S3 hF) i33_10 (cl_sipush hG 20040 (hx_dq tdX2_readOne_0 18 rfl) sipush_20040 (cl_icmp_eq hG 45 (hx_dq tdX2_readOne_0 19 rfl) rfl (fun c37 => ?_) (fun c37 => ?_)))))))
    · replace hw := hw.1 c37
      exact cl_sub hG (hx_le_c rfl (hx_le_c rfl (hx_le_c rfl (hx_le_n hx_le_0)))) (kX2_readOne_J45 hG hc1 h5 cA hF v1 t0 hK hw)
    · replace hw := hw.2 c37
      refine cl_aload_n hG (hx_dq tdX2_readOne_0 20 rfl) rfl (cl_callV0 (caX2_readOne_113 hc1 h5 cA) (hx_dq tdX2_readOne_0 21 rfl) (cF_S2 hF) (Nat.le_of_ble_eq_true rfl) (Nat.le_refl _) (Nat.le_refl _) (sX2_readComparison_mk hF hw (fun r41_12 m41_11 hw => ?_)))
      obtain ⟨b44, hw⟩ := hw
      exact cl_iret hG (hx_dq tdX2_readOne_0 22 rfl) rfl (hx_nb b44) (hK _ _ hw) (Nat.le_refl _) (Nat.le_refl _)
def wX2_readOne (W1 : hx_M → Int32 → (Int32 → hx_M → Prop) → Prop) (μ : hx_M) (v1 : Int32) (K : Int32 → hx_M → Prop) : Prop := vp_in (μ.1 2 4) 701 ∧ (((μ.1 3 ((μ.1 2 4).toNatClampNeg))) ≠ 10020 → (wX2_readOne_J20 W1 K v1 0 μ)) ∧ (((μ.1 3 ((μ.1 2 4).toNatClampNeg))) = 10020 → (wX2_readOne_J20 W1 K v1 1 μ))
set_option maxRecDepth 100000 in
set_option maxHeartbeats 4000000 in
theorem kX2_readOne {G : hx_GT} {KK : hx_KT} {W1 : hx_M → Int32 → (Int32 → hx_M → Prop) → Prop} {h1 : Nat} (hG : hx_K cX2_readOne 4 0 0 (some .boolean) TbX2 KK G) (hc1 : hx_Con yX2_readOne cX2_readOne 4 (some .boolean) h1 0 0 (sX2_readOne W1)) (h5 : 6 ≤ h1) (cA : hx_CA RX2 cX2_readOne (h1 + 3) 0 0 G) {Λ : hx_L} (hF : cF Λ) {μ : hx_M} (v1 : Int32) {K : Int32 → hx_M → Prop} (hK : ∀ (r : Int32) (m : hx_M), K r m → KK (some (.int r)) Λ m) (hw : wX2_readOne W1 μ v1 K) : G Λ μ (0, 0) 0 [some (.ref 2), some (.int v1), none, none] [] := by
  unfold wX2_readOne at hw
  obtain ⟨i8_1, hw⟩ := hw
  refine cl_aload_n hG (hx_dq tdX2_readOne_0 0 rfl) rfl (cl_getS hG fmX2_19 (hx_dq tdX2_readOne_0 1 rfl) (cF_S2 hF) (cF_R2_2 hF) (cl_aload_n hG (hx_dq tdX2_readOne_0 2 rfl) rfl (cl_getI hG fmX2_26 (hx_dq tdX2_readOne_0 3 rfl) (cF_S2 hF) (cl_iald hG (hx_dq tdX2_readOne_0 4 rfl) (cF_S3 hF) i8_1 (cl_sipush hG 10020 (hx_dq tdX2_readOne_0 5 rfl) sipush_10020 (cl_icmp_ne hG 19 (hx_dq tdX2_readOne_0 6 rfl) rfl (fun c12 => ?_) (fun c12 => ?_)))))))
  · replace hw := hw.1 c12
    refine cl_iconst hG 0 (hx_dq tdX2_readOne_0 9 rfl) iconst_0 ?_
    exact cl_sub hG (hx_le_c rfl (hx_le_c rfl (hx_le_n (hx_le_n hx_le_0)))) (kX2_readOne_J20 hG hc1 h5 cA hF v1 0 hK hw)
  · replace hw := hw.2 c12
    refine cl_iconst hG 1 (hx_dq tdX2_readOne_0 7 rfl) iconst_1 (cl_goto hG 20 (hx_dq tdX2_readOne_0 8 rfl) rfl ?_)
    exact cl_sub hG (hx_le_c rfl (hx_le_c rfl (hx_le_n (hx_le_n hx_le_0)))) (kX2_readOne_J20 hG hc1 h5 cA hF v1 1 hK hw)
theorem conX2_readOne_step {W1 : hx_M → Int32 → (Int32 → hx_M → Prop) → Prop} {h1 : Nat} (hc1 : hx_Con yX2_readOne cX2_readOne 4 (some .boolean) h1 0 0 (sX2_readOne W1)) (h5 : 6 ≤ h1) : hx_Con yX2_readOne cX2_readOne 4 (some .boolean) (h1 + 3) 0 0 (sX2_readOne (wX2_readOne W1)) := by
  refine hx_con_of (by decide +kernel) tokX2 (by omega) ?_ ?_
  · intro Λ μ as KK h
    obtain ⟨hF, v1, K, rfl, hw, hK⟩ := h
    exact Nat.le_of_ble_eq_true rfl
  · intro G KK hG cA Λ μ as h
    obtain ⟨hF, v1, K, rfl, hw, hK⟩ := h
    exact cl_sub hG (hx_le_c rfl (hx_le_c rfl (hx_le_n (hx_le_n hx_le_0)))) (kX2_readOne hG hc1 h5 cA hF _ hK hw)
def wX2_readOne_d : Nat → hx_M → Int32 → (Int32 → hx_M → Prop) → Prop
  | 0 => fun _ _ _ => False
  | d + 1 => wX2_readOne (wX2_readOne_d d)
theorem conX2_readOne : ∀ d : Nat, hx_Con yX2_readOne cX2_readOne 4 (some .boolean) (6 + 3 * d) 0 0 (sX2_readOne (wX2_readOne_d d))
  | 0 => by
    intro l dC dI cA ad Λ μ as sz K h
    obtain ⟨hF, v1, K, rfl, hw, hK⟩ := h
    exact False.elim hw
  | d + 1 => conX2_readOne_step (h1 := 6 + 3 * d) (conX2_readOne d) (by omega)
/-! HemLine$LawReader.readRule()Z -/
def tbX2_readRule_0 : List (Nat × Instr × Nat) := [(0, .aload_n 0, 1), (1, .getfield 32, 3), (4, .istore_n 1, 1), (5, .aload_n 0, 1), (6, .iconst 0, 1), (7, .invokevirtual 86, 3), (10, .aload_n 0, 1), (11, .iconst 0, 1), (12, .invokevirtual 86, 3), (15, .aload_n 0, 1), (16, .invokevirtual 90, 3), (19, .istore_n 2, 1), (20, .iload_n 2, 1), (21, .iconst (-1), 1), (22, .if_icmp .ne 5, 3), (25, .iconst 0, 1), (26, .ireturn, 1), (27, .aload_n 0, 1), (28, .sipush 10017, 3), (31, .invokevirtual 94, 3), (34, .ifCond .eq 13, 3), (37, .aload_n 0, 1), (38, .iconst 0, 1), (39, .invokevirtual 97, 3), (42, .ifCond .ne 5, 3), (45, .iconst 0, 1), (46, .ireturn, 1), (47, .iload_n 1, 1), (48, .iconst 1, 1), (49, .iadd, 1), (50, .aload_n 0, 1), (51, .getfield 29, 3)]
def tbX2_readRule_1 : List (Nat × Instr × Nat) := [(54, .arraylength, 1), (55, .if_icmp .ge 22, 3), (58, .aload_n 0, 1), (59, .getfield 29, 3), (62, .iload_n 1, 1), (63, .iload_n 2, 1), (64, .iastore, 1), (65, .aload_n 0, 1), (66, .getfield 29, 3), (69, .iload_n 1, 1), (70, .iconst 1, 1), (71, .iadd, 1), (72, .aload_n 0, 1), (73, .getfield 32, 3), (76, .iastore, 1), (77, .aload_n 0, 1), (78, .sipush 20059, 3), (81, .invokevirtual 94, 3), (84, .ireturn, 1)]
theorem tdX2_readRule_0 : hx_dt cX2_readRule tbX2_readRule_0 = true := by decide +kernel
theorem tdX2_readRule_1 : hx_dt cX2_readRule tbX2_readRule_1 = true := by decide +kernel
theorem caX2_readRule_86 {G : hx_GT} (cA : hx_CA RX2 cX2_readRule 45 0 0 G) : hx_CV cX2_readRule G 0 0 86 2 1 sX2_put 0 0 := cA.1 conX2_put rfl rfl ⟨by decide +kernel, by decide +kernel, by decide +kernel⟩ mw_633 mw_635 mw_7 mw_85 mw_636 (by decide) (by decide)
theorem caX2_readRule_90 {G : hx_GT} (cA : hx_CA RX2 cX2_readRule 45 0 0 G) : hx_CV cX2_readRule G 0 0 90 2 0 sX2_readAim 0 0 := cA.1 conX2_readAim rfl rfl ⟨by decide +kernel, by decide +kernel, by decide +kernel⟩ mw_637 mw_639 mw_8 mw_85 mw_640 (by decide) (by decide)
theorem caX2_readRule_94 {G : hx_GT} (cA : hx_CA RX2 cX2_readRule 45 0 0 G) : hx_CV cX2_readRule G 0 0 94 2 1 sX2_takes 0 0 := cA.1 conX2_takes rfl rfl ⟨by decide +kernel, by decide +kernel, by decide +kernel⟩ mw_648 mw_650 mw_10 mw_85 mw_651 (by decide) (by decide)
theorem caX2_readRule_97 {G : hx_GT} (cA : hx_CA RX2 cX2_readRule 45 0 0 G) : hx_CV cX2_readRule G 0 0 97 2 1 (sX2_readAny (wX2_readOne_d 12)) 0 0 := cA.1 (conX2_readAny (conX2_readOne 12) (by decide)) rfl rfl ⟨by decide +kernel, by decide +kernel, by decide +kernel⟩ mw_652 mw_654 mw_11 mw_85 mw_655 (by decide) (by decide)
def wX2_readRule_J77  (K : Int32 → hx_M → Prop)    (μ : hx_M) : Prop := wX2_takes μ 20059 (fun r81_10 m81_9 => (r81_10 = 0 ∨ r81_10 = 1) ∧ K r81_10 m81_9)
set_option maxRecDepth 100000 in
set_option maxHeartbeats 4000000 in
theorem kX2_readRule_J77 {G : hx_GT} {KK : hx_KT} (hG : hx_K cX2_readRule 3 0 0 (some .boolean) TbX2 KK G) (cA : hx_CA RX2 cX2_readRule 45 0 0 G) {Λ : hx_L} (hF : cF Λ) {μ : hx_M}   {K : Int32 → hx_M → Prop} (hK : ∀ (r : Int32) (m : hx_M), K r m → KK (some (.int r)) Λ m)  (hw : wX2_readRule_J77 K μ) : G Λ μ (0, 0) 77 [some (.ref 2), none, none] [] := by
  unfold wX2_readRule_J77 at hw
  refine cl_aload_n hG (hx_dq tdX2_readRule_1 15 rfl) rfl (cl_sipush hG 20059 (hx_dq tdX2_readRule_1 16 rfl) sipush_20059 (cl_callV1 (caX2_readRule_94 cA) (hx_dq tdX2_readRule_1 17 rfl) (cF_S2 hF) (Nat.le_of_ble_eq_true rfl) (Nat.le_refl _) (Nat.le_refl _) (sX2_takes_mk hF hw (fun r81_10 m81_9 hw => ?_))))
  obtain ⟨b84, hw⟩ := hw
  exact cl_iret hG (hx_dq tdX2_readRule_1 18 rfl) rfl (hx_nb b84) (hK _ _ hw) (Nat.le_refl _) (Nat.le_refl _)
def wX2_readRule_J47  (K : Int32 → hx_M → Prop)  (v1 : Int32) (v2 : Int32)  (μ : hx_M) : Prop := ((Int32.ofNat 700) ≤ (v1 + 1) → (wX2_readRule_J77 K μ)) ∧ (¬ ((Int32.ofNat 700) ≤ (v1 + 1)) → (vp_in v1 700 ∧ vp_in (v1 + 1) 700 ∧ wX2_readRule_J77 K (hx_sI (hx_sI μ 5 v1.toNatClampNeg v2) 5 ((v1 + 1).toNatClampNeg) (μ.1 2 6))))
set_option maxRecDepth 100000 in
set_option maxHeartbeats 4000000 in
theorem kX2_readRule_J47 {G : hx_GT} {KK : hx_KT} (hG : hx_K cX2_readRule 3 0 0 (some .boolean) TbX2 KK G) (cA : hx_CA RX2 cX2_readRule 45 0 0 G) {Λ : hx_L} (hF : cF Λ) {μ : hx_M} (v1 : Int32) (v2 : Int32)  {K : Int32 → hx_M → Prop} (hK : ∀ (r : Int32) (m : hx_M), K r m → KK (some (.int r)) Λ m)  (hw : wX2_readRule_J47 K v1 v2 μ) : G Λ μ (0, 0) 47 [some (.ref 2), some (.int v1), some (.int v2)] [] := by
  unfold wX2_readRule_J47 at hw
  refine cl_iload_n hG (hx_dq tdX2_readRule_0 27 rfl) rfl (cl_iconst hG 1 (hx_dq tdX2_readRule_0 28 rfl) iconst_1 (cl_iadd hG (hx_dq tdX2_readRule_0 29 rfl) (cl_aload_n hG (hx_dq tdX2_readRule_0 30 rfl) rfl (cl_getS hG fmX2_29 (hx_dq tdX2_readRule_0 31 rfl) (cF_S2 hF) (cF_R2_5 hF) (cl_alenI hG (hx_dq tdX2_readRule_1 0 rfl) (cF_S5 hF) (cl_icmp_ge hG 77 (hx_dq tdX2_readRule_1 1 rfl) rfl (fun c55 => ?_) (fun c55 => ?_)))))))
  · replace hw := hw.1 c55
    exact cl_sub hG (hx_le_c rfl (hx_le_n (hx_le_n hx_le_0))) (kX2_readRule_J77 hG cA hF hK hw)
  · replace hw := hw.2 c55
    obtain ⟨i64_11, hw⟩ := hw
    obtain ⟨i76_12, hw⟩ := hw
    refine cl_aload_n hG (hx_dq tdX2_readRule_1 2 rfl) rfl (cl_getS hG fmX2_29 (hx_dq tdX2_readRule_1 3 rfl) (cF_S2 hF) (cF_R2_5 hF) (cl_iload_n hG (hx_dq tdX2_readRule_1 4 rfl) rfl (cl_iload_n hG (hx_dq tdX2_readRule_1 5 rfl) rfl (cl_iast hG (hx_dq tdX2_readRule_1 6 rfl) (cF_S5 hF) i64_11 (cl_aload_n hG (hx_dq tdX2_readRule_1 7 rfl) rfl (cl_getS hG fmX2_29 (hx_dq tdX2_readRule_1 8 rfl) (cF_S2 hF) (cF_R2_5 hF) (cl_iload_n hG (hx_dq tdX2_readRule_1 9 rfl) rfl (cl_iconst hG 1 (hx_dq tdX2_readRule_1 10 rfl) iconst_1 (cl_iadd hG (hx_dq tdX2_readRule_1 11 rfl) (cl_aload_n hG (hx_dq tdX2_readRule_1 12 rfl) rfl (cl_getI hG fmX2_32 (hx_dq tdX2_readRule_1 13 rfl) (cF_S2 hF) (cl_iast hG (hx_dq tdX2_readRule_1 14 rfl) (cF_S5 hF) i76_12 ?_))))))))))))
    exact cl_sub hG (hx_le_c rfl (hx_le_n (hx_le_n hx_le_0))) (kX2_readRule_J77 hG cA hF hK hw)
def wX2_readRule (μ : hx_M)  (K : Int32 → hx_M → Prop) : Prop := wX2_put μ 0 (fun m7_1 => wX2_put m7_1 0 (fun m12_3 => wX2_readAim m12_3 (fun r16_6 m16_5 => (r16_6 ≠ (-1) → (wX2_takes m16_5 10017 (fun r31_8 m31_7 => (r31_8 = 0 → (wX2_readRule_J47 K (μ.1 2 6) r16_6 m31_7)) ∧ (¬ (r31_8 = 0) → (wX2_readAny (wX2_readOne_d 12) m31_7 0 (fun r39_14 m39_13 => (r39_14 ≠ 0 → (wX2_readRule_J47 K (μ.1 2 6) r16_6 m39_13)) ∧ (r39_14 = 0 → (K 0 m39_13)))))))) ∧ (r16_6 = (-1) → (K 0 m16_5)))))
set_option maxRecDepth 100000 in
set_option maxHeartbeats 4000000 in
theorem kX2_readRule {G : hx_GT} {KK : hx_KT} (hG : hx_K cX2_readRule 3 0 0 (some .boolean) TbX2 KK G) (cA : hx_CA RX2 cX2_readRule 45 0 0 G) {Λ : hx_L} (hF : cF Λ) {μ : hx_M}  {K : Int32 → hx_M → Prop} (hK : ∀ (r : Int32) (m : hx_M), K r m → KK (some (.int r)) Λ m) (hw : wX2_readRule μ K) : G Λ μ (0, 0) 0 [some (.ref 2), none, none] [] := by
  unfold wX2_readRule at hw
  refine cl_aload_n hG (hx_dq tdX2_readRule_0 0 rfl) rfl (cl_getI hG fmX2_32 (hx_dq tdX2_readRule_0 1 rfl) (cF_S2 hF) (cl_istore_n hG (hx_dq tdX2_readRule_0 2 rfl) (Nat.le_of_ble_eq_true rfl) rfl (cl_aload_n hG (hx_dq tdX2_readRule_0 3 rfl) rfl (cl_iconst hG 0 (hx_dq tdX2_readRule_0 4 rfl) iconst_0 (cl_callV1 (caX2_readRule_86 cA) (hx_dq tdX2_readRule_0 5 rfl) (cF_S2 hF) (Nat.le_of_ble_eq_true rfl) (Nat.le_refl _) (Nat.le_refl _) (sX2_put_mk hF hw (fun m7_1 hw => ?_)))))))
  refine cl_aload_n hG (hx_dq tdX2_readRule_0 6 rfl) rfl (cl_iconst hG 0 (hx_dq tdX2_readRule_0 7 rfl) iconst_0 (cl_callV1 (caX2_readRule_86 cA) (hx_dq tdX2_readRule_0 8 rfl) (cF_S2 hF) (Nat.le_of_ble_eq_true rfl) (Nat.le_refl _) (Nat.le_refl _) (sX2_put_mk hF hw (fun m12_3 hw => ?_))))
  refine cl_aload_n hG (hx_dq tdX2_readRule_0 9 rfl) rfl (cl_callV0 (caX2_readRule_90 cA) (hx_dq tdX2_readRule_0 10 rfl) (cF_S2 hF) (Nat.le_of_ble_eq_true rfl) (Nat.le_refl _) (Nat.le_refl _) (sX2_readAim_mk hF hw (fun r16_6 m16_5 hw => ?_)))
  refine cl_istore_n hG (hx_dq tdX2_readRule_0 11 rfl) (Nat.le_of_ble_eq_true rfl) rfl (cl_iload_n hG (hx_dq tdX2_readRule_0 12 rfl) rfl (cl_iconst hG (-1) (hx_dq tdX2_readRule_0 13 rfl) iconst_m1 (cl_icmp_ne hG 27 (hx_dq tdX2_readRule_0 14 rfl) rfl (fun c22 => ?_) (fun c22 => ?_))))
  · replace hw := hw.1 c22
    refine cl_aload_n hG (hx_dq tdX2_readRule_0 17 rfl) rfl (cl_sipush hG 10017 (hx_dq tdX2_readRule_0 18 rfl) sipush_10017 (cl_callV1 (caX2_readRule_94 cA) (hx_dq tdX2_readRule_0 19 rfl) (cF_S2 hF) (Nat.le_of_ble_eq_true rfl) (Nat.le_refl _) (Nat.le_refl _) (sX2_takes_mk hF hw (fun r31_8 m31_7 hw => ?_))))
    refine cl_if_eq hG 47 (hx_dq tdX2_readRule_0 20 rfl) rfl (fun c34 => ?_) (fun c34 => ?_)
    · replace hw := hw.1 c34
      exact cl_sub hG (hx_le_c rfl (hx_le_c rfl (hx_le_c rfl hx_le_0))) (kX2_readRule_J47 hG cA hF (μ.1 2 6) r16_6 hK hw)
    · replace hw := hw.2 c34
      refine cl_aload_n hG (hx_dq tdX2_readRule_0 21 rfl) rfl (cl_iconst hG 0 (hx_dq tdX2_readRule_0 22 rfl) iconst_0 (cl_callV1 (caX2_readRule_97 cA) (hx_dq tdX2_readRule_0 23 rfl) (cF_S2 hF) (Nat.le_of_ble_eq_true rfl) (Nat.le_refl _) (Nat.le_refl _) (sX2_readAny_mk hF hw (fun r39_14 m39_13 hw => ?_))))
      refine cl_if_ne hG 47 (hx_dq tdX2_readRule_0 24 rfl) rfl (fun c42 => ?_) (fun c42 => ?_)
      · replace hw := hw.1 c42
        exact cl_sub hG (hx_le_c rfl (hx_le_c rfl (hx_le_c rfl hx_le_0))) (kX2_readRule_J47 hG cA hF (μ.1 2 6) r16_6 hK hw)
      · replace hw := hw.2 c42
        exact cl_iconst hG 0 (hx_dq tdX2_readRule_0 25 rfl) iconst_0 (cl_iret hG (hx_dq tdX2_readRule_0 26 rfl) rfl rfl (hK _ _ hw) (Nat.le_refl _) (Nat.le_refl _))
  · replace hw := hw.2 c22
    exact cl_iconst hG 0 (hx_dq tdX2_readRule_0 15 rfl) iconst_0 (cl_iret hG (hx_dq tdX2_readRule_0 16 rfl) rfl rfl (hK _ _ hw) (Nat.le_refl _) (Nat.le_refl _))
def sX2_readRule : hx_ST := fun Λ μ as KK => cF Λ ∧ ∃ (K : Int32 → hx_M → Prop), as = [.ref 2] ∧ wX2_readRule μ K ∧ (∀ (r : Int32) (m : hx_M), K r m → KK (some (.int r)) Λ m)
theorem sX2_readRule_mk {Λ : hx_L} {μ : hx_M} {KK : hx_KT}  {K : Int32 → hx_M → Prop} (hF : cF Λ) (hw : wX2_readRule μ K) (hk : ∀ (r : Int32) (m : hx_M), K r m → KK (some (.int r)) Λ m) : sX2_readRule Λ μ [.ref 2] KK := ⟨hF, _, rfl, hw, hk⟩
theorem conX2_readRule : hx_Con yX2_readRule cX2_readRule 3 (some .boolean) 45 0 0 sX2_readRule := by
  refine hx_con_of (by decide +kernel) tokX2 (by decide) ?_ ?_
  · intro Λ μ as KK h
    obtain ⟨hF, K, rfl, hw, hK⟩ := h
    exact Nat.le_of_ble_eq_true rfl
  · intro G KK hG cA Λ μ as h
    obtain ⟨hF, K, rfl, hw, hK⟩ := h
    exact cl_sub hG (hx_le_c rfl (hx_le_n (hx_le_n hx_le_0))) (kX2_readRule hG cA hF hK hw)
/-! HemLine$LawReader.compile(I)LHemLine$Law; -/
def tbX2_compile_0 : List (Nat × Instr × Nat) := [(0, .aload_n 0, 1), (1, .iload_n 1, 1), (2, .iconst 0, 1), (3, .aload_n 0, 1), (4, .getfield 11, 3), (7, .arraylength, 1), (8, .invokestatic 35, 3), (11, .ifCond .eq 7, 3), (14, .iload_n 1, 1), (15, .goto 4, 3), (18, .iconst 0, 1), (19, .putfield 15, 3), (22, .aload_n 0, 1), (23, .iconst 0, 1), (24, .putfield 32, 3), (27, .aload_n 0, 1), (28, .invokevirtual 39, 3), (31, .aload_n 0, 1), (32, .iconst 0, 1), (33, .putfield 26, 3), (36, .iconst 0, 1), (37, .istore_n 2, 1), (38, .iload_n 2, 1), (39, .bipush 16, 2), (41, .if_icmp .gt 58, 3), (44, .aload_n 0, 1), (45, .getfield 19, 3), (48, .aload_n 0, 1), (49, .getfield 26, 3), (52, .iaload, 1), (53, .bipush (-2), 2), (55, .if_icmp .ne 23, 3)]
def tbX2_compile_1 : List (Nat × Instr × Nat) := [(58, .new 42, 3), (61, .dup, 1), (62, .aload_n 0, 1), (63, .getfield 29, 3), (66, .aload_n 0, 1), (67, .getfield 32, 3), (70, .invokestatic 44, 3), (73, .iload_n 2, 1), (74, .invokespecial 50, 3), (77, .areturn, 1), (78, .iload_n 2, 1), (79, .bipush 16, 2), (81, .if_icmp .eq 10, 3), (84, .aload_n 0, 1), (85, .invokevirtual 53, 3), (88, .ifCond .ne 5, 3), (91, .aconst_null, 1), (92, .areturn, 1), (93, .iinc 2 1, 3), (96, .goto (-58), 3), (99, .aconst_null, 1), (100, .areturn, 1)]
theorem tdX2_compile_0 : hx_dt cX2_compile tbX2_compile_0 = true := by decide +kernel
theorem tdX2_compile_1 : hx_dt cX2_compile tbX2_compile_1 = true := by decide +kernel
def TAX2_compile : hx_TA := ([(42, 1, 2)], [], [], [])
theorem taX2_compile_n42 : (42, 1, 2) ∈ TAX2_compile.1 := List.mem_of_getElem? (i := 0) rfl
theorem toX2_compile_n42 : hx_nok RX2 (42, 1, 2) := ⟨RX1, TX1, tyX1, rfl, inX1, tyX1_ok, mw_597, mw_598, mw_102, nkX1, rfl⟩
theorem taokX2_compile : hx_taok RX2 TAX2_compile := ⟨(List.forall_mem_cons.mpr ⟨toX2_compile_n42, (fun _ h => absurd h List.not_mem_nil)⟩), (fun _ h => absurd h List.not_mem_nil), (fun _ h => absurd h List.not_mem_nil), (fun _ h => absurd h List.not_mem_nil)⟩
theorem caX2_compile_35 {G : hx_GT} (cA : hx_CA RX2 cX2_compile 46 2 702 G) : hx_CS cX2_compile G 2 702 35 3 sX11_within 0 0 := cA.2.2.1 conX11_within ⟨by decide +kernel, by decide +kernel, by decide +kernel⟩ mw_529 mw_478 mw_84 mw_479 (by decide) (by decide)
theorem caX2_compile_39 {G : hx_GT} (cA : hx_CA RX2 cX2_compile 46 2 702 G) : hx_CV cX2_compile G 2 702 39 2 0 sX2_split 0 0 := cA.1 conX2_split rfl rfl ⟨by decide +kernel, by decide +kernel, by decide +kernel⟩ mw_530 mw_532 mw_1 mw_85 mw_533 (by decide) (by decide)
theorem caX2_compile_44 {G : hx_GT} (cA : hx_CA RX2 cX2_compile 46 2 702 G) : hx_CS cX2_compile G 2 702 44 2 sJ7_copyOf_59c91 1 700 := cA.2.1 conJ7_copyOf_59c91 ⟨by decide +kernel, by decide +kernel, by decide +kernel⟩ mw_599 mw_600 mw_90 mw_601 (by decide) (by decide)
theorem caX2_compile_50 {G : hx_GT} (cA : hx_CA RX2 cX2_compile 46 2 702 G) : hx_CI cX2_compile G 2 702 50 2 sX1_init 0 0 := cA.2.2.2 conX1_init ⟨by decide +kernel, by decide +kernel, by decide +kernel⟩ rfl mw_615 mw_616 mw_102 mw_617 (by decide) (by decide)
theorem caX2_compile_53 {G : hx_GT} (cA : hx_CA RX2 cX2_compile 46 2 702 G) : hx_CV cX2_compile G 2 702 53 2 0 sX2_readRule 0 0 := cA.1 conX2_readRule rfl rfl ⟨by decide +kernel, by decide +kernel, by decide +kernel⟩ mw_629 mw_631 mw_6 mw_85 mw_632 (by decide) (by decide)
def wX2_compile_L38 (Λ : hx_L) (K : Option Nat → hx_L → hx_M → Prop) (K58 : Int32 → hx_M → Prop) : Nat → Int32 → hx_M → Prop
  | 0, _, _ => False
  | n + 1, v2, μ => (16 < v2 → (K none Λ μ)) ∧ (¬ (16 < v2) → (vp_in (μ.1 2 4) 701 ∧ (((μ.1 3 ((μ.1 2 4).toNatClampNeg))) ≠ (-2) → ((v2 = 16 → (K none Λ μ)) ∧ (¬ (v2 = 16) → (wX2_readRule μ (fun r85_7 m85_6 => (r85_7 ≠ 0 → (wX2_compile_L38 Λ K K58 n (v2 + 1) m85_6)) ∧ (r85_7 = 0 → (K none Λ m85_6))))))) ∧ (((μ.1 3 ((μ.1 2 4).toNatClampNeg))) = (-2) → (K58 v2 μ))))
set_option maxRecDepth 100000 in
set_option maxHeartbeats 4000000 in
theorem kX2_compile_L38 {G : hx_GT} {KK : hx_KT} (hG : hx_K cX2_compile 3 2 702 (some (.object "HemLine$Law")) TbX2 KK G) (hM : hx_KA cX2_compile 2 702 TAX2_compile G) (cA : hx_CA RX2 cX2_compile 46 2 702 G) {Λ : hx_L} (hF : cF Λ)   {K : Option Nat → hx_L → hx_M → Prop} (hK : ∀ (r : Option Nat) (Λ1 : hx_L) (m : hx_M), K r Λ1 m → KK (some (va_rf r)) Λ1 m) {K58 : Int32 → hx_M → Prop} (hk58 : ∀ (v2 : Int32) (μ : hx_M), K58 v2 μ → G Λ μ (0, 0) 58 [some (.ref 2), none, some (.int v2)] []) : ∀ (n : Nat) (v2 : Int32) (μ : hx_M), wX2_compile_L38 Λ K K58 n v2 μ → G Λ μ (0, 0) 38 [some (.ref 2), none, some (.int v2)] [] := by
  intro n
  induction n with
  | zero =>
    intro v2 μ hw
    exact False.elim (by simpa only [wX2_compile_L38] using hw)
  | succ n ih =>
    intro v2 μ hw
    unfold wX2_compile_L38 at hw
    refine cl_iload_n hG (hx_dq tdX2_compile_0 22 rfl) rfl (cl_bipush hG 16 (hx_dq tdX2_compile_0 23 rfl) bipush_16 (cl_icmp_gt hG 99 (hx_dq tdX2_compile_0 24 rfl) rfl (fun c41 => ?_) (fun c41 => ?_)))
    · replace hw := hw.1 c41
      exact cl_null hG (hx_dq tdX2_compile_1 20 rfl) (cl_aret hG (hx_dq tdX2_compile_1 21 rfl) rfl (Or.inl ⟨_, rfl⟩) (hK none _ _ hw) (Nat.le_of_ble_eq_true rfl) (Nat.le_of_ble_eq_true rfl))
    · replace hw := hw.2 c41
      obtain ⟨i52_5, hw⟩ := hw
      refine cl_aload_n hG (hx_dq tdX2_compile_0 25 rfl) rfl (cl_getS hG fmX2_19 (hx_dq tdX2_compile_0 26 rfl) (cF_S2 hF) (cF_R2_2 hF) (cl_aload_n hG (hx_dq tdX2_compile_0 27 rfl) rfl (cl_getI hG fmX2_26 (hx_dq tdX2_compile_0 28 rfl) (cF_S2 hF) (cl_iald hG (hx_dq tdX2_compile_0 29 rfl) (cF_S3 hF) i52_5 (cl_bipush hG (-2) (hx_dq tdX2_compile_0 30 rfl) bipush_m2 (cl_icmp_ne hG 78 (hx_dq tdX2_compile_0 31 rfl) rfl (fun c55 => ?_) (fun c55 => ?_)))))))
      · replace hw := hw.1 c55
        refine cl_iload_n hG (hx_dq tdX2_compile_1 10 rfl) rfl (cl_bipush hG 16 (hx_dq tdX2_compile_1 11 rfl) bipush_16 (cl_icmp_eq hG 91 (hx_dq tdX2_compile_1 12 rfl) rfl (fun c81 => ?_) (fun c81 => ?_)))
        · replace hw := hw.1 c81
          exact cl_null hG (hx_dq tdX2_compile_1 16 rfl) (cl_aret hG (hx_dq tdX2_compile_1 17 rfl) rfl (Or.inl ⟨_, rfl⟩) (hK none _ _ hw) (Nat.le_of_ble_eq_true rfl) (Nat.le_of_ble_eq_true rfl))
        · replace hw := hw.2 c81
          refine cl_aload_n hG (hx_dq tdX2_compile_1 13 rfl) rfl (cl_callV0 (caX2_compile_53 cA) (hx_dq tdX2_compile_1 14 rfl) (cF_S2 hF) (Nat.le_of_ble_eq_true rfl) (Nat.le_of_ble_eq_true rfl) (Nat.le_of_ble_eq_true rfl) (sX2_readRule_mk hF hw (fun r85_7 m85_6 hw => ?_)))
          refine cl_if_ne hG 93 (hx_dq tdX2_compile_1 15 rfl) rfl (fun c88 => ?_) (fun c88 => ?_)
          · replace hw := hw.1 c88
            exact cl_iinc hG (v2 + 1) (hx_dq tdX2_compile_1 18 rfl) rfl (congrArg (fun z => v2 + z) iconst_1) (Nat.le_of_ble_eq_true rfl) rfl (cl_goto hG 38 (hx_dq tdX2_compile_1 19 rfl) rfl (cl_sub hG (hx_le_c rfl (hx_le_n (hx_le_c rfl hx_le_0))) (ih (v2 + 1) _ hw)))
          · replace hw := hw.2 c88
            exact cl_null hG (hx_dq tdX2_compile_1 16 rfl) (cl_aret hG (hx_dq tdX2_compile_1 17 rfl) rfl (Or.inl ⟨_, rfl⟩) (hK none _ _ hw) (Nat.le_of_ble_eq_true rfl) (Nat.le_of_ble_eq_true rfl))
      · replace hw := hw.2 c55
        exact cl_sub hG (hx_le_c rfl (hx_le_n (hx_le_c rfl hx_le_0))) (hk58 v2 _ hw)
def wX2_compile_J19 (Λ : hx_L) (K : Option Nat → hx_L → hx_M → Prop)   (t1 : Int32) (μ : hx_M) : Prop := wX2_split Λ (hx_sI (hx_sI μ 2 1 t1) 2 6 0) (fun m28_3 => ∃ n38_18, wX2_compile_L38 Λ K (fun v2_8 m_8 => Λ.2.2 < hx_big ∧ ∀ L_10 : hx_L, L_10 = hx_push Λ (0, 1) → ∀ m_11 : hx_M, m_11 = (hx_z m_8 Λ.2.2) → cF L_10 ∧ wJ7_copyOf_59c91 L_10 m_11 5 (m_11.1 2 6) (fun r70_14 Lm70_13 m70_13 => ∃ k73_15, r70_14 = some k73_15 ∧ wX1_init Lm70_13 m70_13 Λ.2.2 k73_15 v2_8 (fun Lm74_16 m74_16 => K (some Λ.2.2) Lm74_16 m74_16))) n38_18 0 (hx_sI m28_3 2 4 0))
set_option maxRecDepth 100000 in
set_option maxHeartbeats 4000000 in
theorem kX2_compile_J19 {G : hx_GT} {KK : hx_KT} (hG : hx_K cX2_compile 3 2 702 (some (.object "HemLine$Law")) TbX2 KK G) (hM : hx_KA cX2_compile 2 702 TAX2_compile G) (cA : hx_CA RX2 cX2_compile 46 2 702 G) {Λ : hx_L} (hF : cF Λ) {μ : hx_M}  (t1 : Int32) {K : Option Nat → hx_L → hx_M → Prop} (hK : ∀ (r : Option Nat) (Λ1 : hx_L) (m : hx_M), K r Λ1 m → KK (some (va_rf r)) Λ1 m)  (hw : wX2_compile_J19 Λ K t1 μ) : G Λ μ (0, 0) 19 [some (.ref 2), none, none] [.int t1, .ref 2] := by
  unfold wX2_compile_J19 at hw
  refine cl_putI hG fmX2_15 (hx_dq tdX2_compile_0 11 rfl) (cF_S2 hF) (cl_aload_n hG (hx_dq tdX2_compile_0 12 rfl) rfl (cl_iconst hG 0 (hx_dq tdX2_compile_0 13 rfl) iconst_0 (cl_putI hG fmX2_32 (hx_dq tdX2_compile_0 14 rfl) (cF_S2 hF) (cl_aload_n hG (hx_dq tdX2_compile_0 15 rfl) rfl (cl_callV0 (caX2_compile_39 cA) (hx_dq tdX2_compile_0 16 rfl) (cF_S2 hF) (Nat.le_of_ble_eq_true rfl) (Nat.le_of_ble_eq_true rfl) (Nat.le_of_ble_eq_true rfl) (sX2_split_mk hF hw (fun m28_3 hw => ?_)))))))
  refine cl_aload_n hG (hx_dq tdX2_compile_0 17 rfl) rfl (cl_iconst hG 0 (hx_dq tdX2_compile_0 18 rfl) iconst_0 (cl_putI hG fmX2_26 (hx_dq tdX2_compile_0 19 rfl) (cF_S2 hF) (cl_iconst hG 0 (hx_dq tdX2_compile_0 20 rfl) iconst_0 (cl_istore_n hG (hx_dq tdX2_compile_0 21 rfl) (Nat.le_of_ble_eq_true rfl) rfl ?_))))
  obtain ⟨n_, hw⟩ := hw
  refine cl_sub hG (hx_le_c rfl (hx_le_n (hx_le_c rfl hx_le_0))) (kX2_compile_L38 hG hM cA hF hK (fun v2_8 m_8 hw => ?_) n_ 0 _ hw)
  · obtain ⟨b9, hw⟩ := hw
    refine cl_new hM taX2_compile_n42 (hx_dq tdX2_compile_1 0 rfl) (Nat.le_of_ble_eq_true rfl) (Nat.le_of_ble_eq_true rfl) b9 (cl_nmA (fun L_10 e_10 => ?_))
    replace hw := hw L_10 e_10
    refine cl_nmM (fun m_11 e_11 => ?_)
    replace hw := hw m_11 e_11
    obtain ⟨f12, hw⟩ := hw
    refine cl_dup hG (hx_dq tdX2_compile_1 1 rfl) rfl (cl_aload_n hG (hx_dq tdX2_compile_1 2 rfl) rfl (cl_getS hG fmX2_29 (hx_dq tdX2_compile_1 3 rfl) (cF_S2 f12) (cF_R2_5 f12) (cl_aload_n hG (hx_dq tdX2_compile_1 4 rfl) rfl (cl_getI hG fmX2_32 (hx_dq tdX2_compile_1 5 rfl) (cF_S2 f12) (cl_callS2 (caX2_compile_44 cA) (hx_dq tdX2_compile_1 6 rfl) (Nat.le_of_ble_eq_true rfl) (Nat.le_of_ble_eq_true rfl) (Nat.le_of_ble_eq_true rfl) (sJ7_copyOf_59c91_mk hw (fun r70_14 Lm70_13 m70_13 hw => ?_)))))))
    obtain ⟨k73_15, zk73_15, hw⟩ := hw
    refine cl_nn zk73_15 (cl_iload_n hG (hx_dq tdX2_compile_1 7 rfl) rfl (cl_callI2 (caX2_compile_50 cA) (hx_dq tdX2_compile_1 8 rfl) (Nat.le_of_ble_eq_true rfl) (Nat.le_of_ble_eq_true rfl) (Nat.le_of_ble_eq_true rfl) (sX1_init_mk hw (fun Lm74_16 m74_16 hw => ?_))))
    exact cl_aret hG (hx_dq tdX2_compile_1 9 rfl) rfl (Or.inl ⟨_, rfl⟩) (hK (some Λ.2.2) _ _ hw) (Nat.le_of_ble_eq_true rfl) (Nat.le_of_ble_eq_true rfl)
def wX2_compile (Λ : hx_L) (μ : hx_M) (v1 : Int32) (K : Option Nat → hx_L → hx_M → Prop) : Prop := wX11_within v1 0 (Int32.ofNat 700) (fun r8_2 => (r8_2 = 0 → (wX2_compile_J19 Λ K 0 μ)) ∧ (¬ (r8_2 = 0) → (wX2_compile_J19 Λ K v1 μ)))
set_option maxRecDepth 100000 in
set_option maxHeartbeats 4000000 in
theorem kX2_compile {G : hx_GT} {KK : hx_KT} (hG : hx_K cX2_compile 3 2 702 (some (.object "HemLine$Law")) TbX2 KK G) (hM : hx_KA cX2_compile 2 702 TAX2_compile G) (cA : hx_CA RX2 cX2_compile 46 2 702 G) {Λ : hx_L} (hF : cF Λ) {μ : hx_M} (v1 : Int32) {K : Option Nat → hx_L → hx_M → Prop} (hK : ∀ (r : Option Nat) (Λ1 : hx_L) (m : hx_M), K r Λ1 m → KK (some (va_rf r)) Λ1 m) (hw : wX2_compile Λ μ v1 K) : G Λ μ (0, 0) 0 [some (.ref 2), some (.int v1), none] [] := by
  unfold wX2_compile at hw
  refine cl_aload_n hG (hx_dq tdX2_compile_0 0 rfl) rfl (cl_iload_n hG (hx_dq tdX2_compile_0 1 rfl) rfl (cl_iconst hG 0 (hx_dq tdX2_compile_0 2 rfl) iconst_0 (cl_aload_n hG (hx_dq tdX2_compile_0 3 rfl) rfl (cl_getS hG fmX2_11 (hx_dq tdX2_compile_0 4 rfl) (cF_S2 hF) (cF_R2_0 hF) (cl_alenB hG (hx_dq tdX2_compile_0 5 rfl) (cF_S1 hF) (cl_callS3 (caX2_compile_35 cA) (hx_dq tdX2_compile_0 6 rfl) (Nat.le_of_ble_eq_true rfl) (Nat.le_of_ble_eq_true rfl) (Nat.le_of_ble_eq_true rfl) (sX11_within_mk hw (fun r8_2 hw => ?_))))))))
  refine cl_if_eq hG 18 (hx_dq tdX2_compile_0 7 rfl) rfl (fun c11 => ?_) (fun c11 => ?_)
  · replace hw := hw.1 c11
    refine cl_iconst hG 0 (hx_dq tdX2_compile_0 10 rfl) iconst_0 ?_
    exact cl_sub hG (hx_le_c rfl (hx_le_n (hx_le_n hx_le_0))) (kX2_compile_J19 hG hM cA hF 0 hK hw)
  · replace hw := hw.2 c11
    refine cl_iload_n hG (hx_dq tdX2_compile_0 8 rfl) rfl (cl_goto hG 19 (hx_dq tdX2_compile_0 9 rfl) rfl ?_)
    exact cl_sub hG (hx_le_c rfl (hx_le_n (hx_le_n hx_le_0))) (kX2_compile_J19 hG hM cA hF v1 hK hw)
def sX2_compile : hx_ST := fun Λ μ as KK => cF Λ ∧ ∃ (v1 : Int32) (K : Option Nat → hx_L → hx_M → Prop), as = [.ref 2, .int v1] ∧ wX2_compile Λ μ v1 K ∧ (∀ (r : Option Nat) (Λ1 : hx_L) (m : hx_M), K r Λ1 m → KK (some (va_rf r)) Λ1 m)
theorem sX2_compile_mk {Λ : hx_L} {μ : hx_M} {KK : hx_KT} {v1 : Int32} {K : Option Nat → hx_L → hx_M → Prop} (hF : cF Λ) (hw : wX2_compile Λ μ v1 K) (hk : ∀ (r : Option Nat) (Λ1 : hx_L) (m : hx_M), K r Λ1 m → KK (some (va_rf r)) Λ1 m) : sX2_compile Λ μ [.ref 2, .int v1] KK := ⟨hF, _, _, rfl, hw, hk⟩
theorem conX2_compile : hx_Con yX2_compile cX2_compile 3 (some (.object "HemLine$Law")) 46 2 702 sX2_compile := by
  refine hx_con_ofA (by decide +kernel) tokX2 taokX2_compile (Or.inl rfl) (by decide) ?_ ?_
  · intro Λ μ as KK h
    obtain ⟨hF, v1, K, rfl, hw, hK⟩ := h
    exact Nat.le_of_ble_eq_true rfl
  · intro G KK hG hM cA Λ μ as h
    obtain ⟨hF, v1, K, rfl, hw, hK⟩ := h
    exact cl_sub hG (hx_le_c rfl (hx_le_c rfl (hx_le_n hx_le_0))) (kX2_compile hG hM cA hF _ hK hw)
/-! HemLine$LawReader.placeAtHand()I -/
def tbX2_placeAtHand_0 : List (Nat × Instr × Nat) := [(0, .aload_n 0, 1), (1, .getfield 23, 3), (4, .aload_n 0, 1), (5, .getfield 26, 3), (8, .iaload, 1), (9, .ireturn, 1)]
theorem tdX2_placeAtHand_0 : hx_dt cX2_placeAtHand tbX2_placeAtHand_0 = true := by decide +kernel
def wX2_placeAtHand (μ : hx_M)  (K : Int32 → Prop) : Prop := vp_in (μ.1 2 4) 701 ∧ K ((μ.1 4 ((μ.1 2 4).toNatClampNeg)))
set_option maxRecDepth 100000 in
set_option maxHeartbeats 4000000 in
theorem kX2_placeAtHand {G : hx_GT} {KK : hx_KT} (hG : hx_K cX2_placeAtHand 1 0 0 (some .int) TbX2 KK G) (cA : hx_CA RX2 cX2_placeAtHand 1 0 0 G) {Λ : hx_L} (hF : cF Λ) {μ : hx_M}  {K : Int32 → Prop} (hK : ∀ (r : Int32), K r → KK (some (.int r)) Λ μ) (hw : wX2_placeAtHand μ K) : G Λ μ (0, 0) 0 [some (.ref 2)] [] := by
  unfold wX2_placeAtHand at hw
  obtain ⟨i8_1, hw⟩ := hw
  exact cl_aload_n hG (hx_dq tdX2_placeAtHand_0 0 rfl) rfl (cl_getS hG fmX2_23 (hx_dq tdX2_placeAtHand_0 1 rfl) (cF_S2 hF) (cF_R2_3 hF) (cl_aload_n hG (hx_dq tdX2_placeAtHand_0 2 rfl) rfl (cl_getI hG fmX2_26 (hx_dq tdX2_placeAtHand_0 3 rfl) (cF_S2 hF) (cl_iald hG (hx_dq tdX2_placeAtHand_0 4 rfl) (cF_S4 hF) i8_1 (cl_iret hG (hx_dq tdX2_placeAtHand_0 5 rfl) rfl rfl (hK _ hw) (Nat.le_refl _) (Nat.le_refl _))))))
def sX2_placeAtHand : hx_ST := fun Λ μ as KK => cF Λ ∧ ∃ (K : Int32 → Prop), as = [.ref 2] ∧ wX2_placeAtHand μ K ∧ (∀ (r : Int32), K r → KK (some (.int r)) Λ μ)
theorem sX2_placeAtHand_mk {Λ : hx_L} {μ : hx_M} {KK : hx_KT}  {K : Int32 → Prop} (hF : cF Λ) (hw : wX2_placeAtHand μ K) (hk : ∀ (r : Int32), K r → KK (some (.int r)) Λ μ) : sX2_placeAtHand Λ μ [.ref 2] KK := ⟨hF, _, rfl, hw, hk⟩
theorem conX2_placeAtHand : hx_Con yX2_placeAtHand cX2_placeAtHand 1 (some .int) 1 0 0 sX2_placeAtHand := by
  refine hx_con_of (by decide +kernel) tokX2 (by decide) ?_ ?_
  · intro Λ μ as KK h
    obtain ⟨hF, K, rfl, hw, hK⟩ := h
    exact Nat.le_of_ble_eq_true rfl
  · intro G KK hG cA Λ μ as h
    obtain ⟨hF, K, rfl, hw, hK⟩ := h
    exact cl_sub hG (hx_le_c rfl hx_le_0) (kX2_placeAtHand hG cA hF hK hw)
/-! HemLine$Past.<init>(I)V -/
def tbX3_init_0 : List (Nat × Instr × Nat) := [(0, .aload_n 0, 1), (1, .invokespecial 3, 3), (4, .aload_n 0, 1), (5, .iconst 1, 1), (6, .iload_n 1, 1), (7, .invokestatic 9, 3), (10, .putfield 15, 3), (13, .aload_n 0, 1), (14, .aload_n 0, 1), (15, .getfield 15, 3), (18, .bipush 16, 2), (20, .imul, 1), (21, .newarray .int, 2), (23, .putfield 21, 3), (26, .aload_n 0, 1), (27, .aload_n 0, 1), (28, .getfield 15, 3), (31, .newarray .int, 2), (33, .putfield 25, 3), (36, .aload_n 0, 1), (37, .aload_n 0, 1), (38, .getfield 15, 3), (41, .bipush 16, 2), (43, .imul, 1), (44, .newarray .int, 2), (46, .putfield 28, 3), (49, .aload_n 0, 1), (50, .aload_n 0, 1), (51, .getfield 15, 3), (54, .iconst 4, 1), (55, .imul, 1), (56, .newarray .int, 2)]
def tbX3_init_1 : List (Nat × Instr × Nat) := [(58, .putfield 31, 3), (61, .aload_n 0, 1), (62, .aload_n 0, 1), (63, .getfield 15, 3), (66, .newarray .int, 2), (68, .putfield 34, 3), (71, .aload_n 0, 1), (72, .getfield 31, 3), (75, .iconst (-1), 1), (76, .invokestatic 37, 3), (79, .return_, 1)]
theorem tdX3_init_0 : hx_dt cX3_init tbX3_init_0 = true := by decide +kernel
theorem tdX3_init_1 : hx_dt cX3_init tbX3_init_1 = true := by decide +kernel
def TAX3_init : hx_TA := ([], [(15, 3, 0, 3), (21, 3, 1, 2), (25, 3, 2, 2), (28, 3, 3, 2), (31, 3, 4, 2), (34, 3, 5, 2)], [], [3])
theorem taX3_init_f15 : (15, 3, 0, 3) ∈ TAX3_init.2.1 := List.mem_of_getElem? (i := 0) rfl
theorem toX3_init_f15 : hx_ffok RX3 (15, 3, 0, 3) := ⟨RX3, TX3, 6, tyX3, rfl, Nat.le_of_ble_eq_true rfl, rfl, mw_211, inX3, tyX3_ok, nmX3, rfl, rfl, fun _ => rfl, fun h => absurd h (by decide)⟩
theorem taX3_init_f21 : (21, 3, 1, 2) ∈ TAX3_init.2.1 := List.mem_of_getElem? (i := 1) rfl
theorem toX3_init_f21 : hx_ffok RX3 (21, 3, 1, 2) := ⟨RX3, TX3, 6, tyX3, rfl, Nat.le_of_ble_eq_true rfl, rfl, mw_213, inX3, tyX3_ok, nmX3, rfl, rfl, fun h => absurd h (by decide), fun _ => Or.inr ⟨_, rfl⟩⟩
theorem taX3_init_f25 : (25, 3, 2, 2) ∈ TAX3_init.2.1 := List.mem_of_getElem? (i := 2) rfl
theorem toX3_init_f25 : hx_ffok RX3 (25, 3, 2, 2) := ⟨RX3, TX3, 6, tyX3, rfl, Nat.le_of_ble_eq_true rfl, rfl, mw_216, inX3, tyX3_ok, nmX3, rfl, rfl, fun h => absurd h (by decide), fun _ => Or.inr ⟨_, rfl⟩⟩
theorem taX3_init_f28 : (28, 3, 3, 2) ∈ TAX3_init.2.1 := List.mem_of_getElem? (i := 3) rfl
theorem toX3_init_f28 : hx_ffok RX3 (28, 3, 3, 2) := ⟨RX3, TX3, 6, tyX3, rfl, Nat.le_of_ble_eq_true rfl, rfl, mw_220, inX3, tyX3_ok, nmX3, rfl, rfl, fun h => absurd h (by decide), fun _ => Or.inr ⟨_, rfl⟩⟩
theorem taX3_init_f31 : (31, 3, 4, 2) ∈ TAX3_init.2.1 := List.mem_of_getElem? (i := 4) rfl
theorem toX3_init_f31 : hx_ffok RX3 (31, 3, 4, 2) := ⟨RX3, TX3, 6, tyX3, rfl, Nat.le_of_ble_eq_true rfl, rfl, mw_221, inX3, tyX3_ok, nmX3, rfl, rfl, fun h => absurd h (by decide), fun _ => Or.inr ⟨_, rfl⟩⟩
theorem taX3_init_f34 : (34, 3, 5, 2) ∈ TAX3_init.2.1 := List.mem_of_getElem? (i := 5) rfl
theorem toX3_init_f34 : hx_ffok RX3 (34, 3, 5, 2) := ⟨RX3, TX3, 6, tyX3, rfl, Nat.le_of_ble_eq_true rfl, rfl, mw_223, inX3, tyX3_ok, nmX3, rfl, rfl, fun h => absurd h (by decide), fun _ => Or.inr ⟨_, rfl⟩⟩
theorem taX3_init_o3 : 3 ∈ TAX3_init.2.2.2 := List.mem_of_getElem? (i := 0) rfl
theorem taokX3_init : hx_taok RX3 TAX3_init := ⟨(fun _ h => absurd h List.not_mem_nil), (List.forall_mem_cons.mpr ⟨toX3_init_f15, (List.forall_mem_cons.mpr ⟨toX3_init_f21, (List.forall_mem_cons.mpr ⟨toX3_init_f25, (List.forall_mem_cons.mpr ⟨toX3_init_f28, (List.forall_mem_cons.mpr ⟨toX3_init_f31, (List.forall_mem_cons.mpr ⟨toX3_init_f34, (fun _ h => absurd h List.not_mem_nil)⟩)⟩)⟩)⟩)⟩)⟩), (fun _ h => absurd h List.not_mem_nil), (List.forall_mem_cons.mpr ⟨mw_204, (fun _ h => absurd h List.not_mem_nil)⟩)⟩
theorem caX3_init_37 {G : hx_GT} (cA : hx_CA RX3 cX3_init 2 5 11438 G) : hx_CS cX3_init G 5 11438 37 2 sJ7_fill_53178 0 0 := cA.2.1 conJ7_fill_53178 ⟨by decide +kernel, by decide +kernel, by decide +kernel⟩ mw_208 mw_209 mw_90 mw_210 (by decide) (by decide)
def wX3_init (Λ : hx_L) (μ : hx_M) (v0 : Nat) (v1 : Int32) (K : hx_L → hx_M → Prop) : Prop := Λ.1 v0 = (0, 3) ∧ ∀ x_2 : Int32, x_2 = ((((hx_sI μ v0 0 (if 1 < v1 then v1 else 1)).1 v0 0)) * 16) → ¬ (x_2 : Int32) < 0 ∧ (x_2 : Int32).toNatClampNeg ≤ 65536 ∧ 0 + ((x_2 : Int32).toNatClampNeg) ≤ 11438 ∧ Λ.2.2 < hx_big ∧ ∀ L_7 : hx_L, L_7 = hx_push Λ (1, (x_2 : Int32).toNatClampNeg) → ∀ m_8 : hx_M, m_8 = (hx_z (hx_sI μ v0 0 (if 1 < v1 then v1 else 1)) Λ.2.2) → L_7.1 v0 = (0, 3) ∧ ∀ L_10 : hx_L, L_10 = hx_sR L_7 v0 1 Λ.2.2 → L_10.1 v0 = (0, 3) ∧ ¬ ((m_8.1 v0 0) : Int32) < 0 ∧ ((m_8.1 v0 0) : Int32).toNatClampNeg ≤ 65536 ∧ 0 + ((x_2 : Int32).toNatClampNeg) + (((m_8.1 v0 0) : Int32).toNatClampNeg) ≤ 11438 ∧ L_10.2.2 < hx_big ∧ ∀ L_16 : hx_L, L_16 = hx_push L_10 (1, ((m_8.1 v0 0) : Int32).toNatClampNeg) → ∀ m_17 : hx_M, m_17 = (hx_z m_8 L_10.2.2) → L_16.1 v0 = (0, 3) ∧ ∀ L_19 : hx_L, L_19 = hx_sR L_16 v0 2 L_10.2.2 → L_19.1 v0 = (0, 3) ∧ ¬ ((m_17.1 v0 0) * 16 : Int32) < 0 ∧ ((m_17.1 v0 0) * 16 : Int32).toNatClampNeg ≤ 65536 ∧ 0 + ((x_2 : Int32).toNatClampNeg) + (((m_8.1 v0 0) : Int32).toNatClampNeg) + (((m_17.1 v0 0) * 16 : Int32).toNatClampNeg) ≤ 11438 ∧ L_19.2.2 < hx_big ∧ ∀ L_25 : hx_L, L_25 = hx_push L_19 (1, ((m_17.1 v0 0) * 16 : Int32).toNatClampNeg) → ∀ m_26 : hx_M, m_26 = (hx_z m_17 L_19.2.2) → L_25.1 v0 = (0, 3) ∧ ∀ L_28 : hx_L, L_28 = hx_sR L_25 v0 3 L_19.2.2 → L_28.1 v0 = (0, 3) ∧ ¬ ((m_26.1 v0 0) * 4 : Int32) < 0 ∧ ((m_26.1 v0 0) * 4 : Int32).toNatClampNeg ≤ 65536 ∧ 0 + ((x_2 : Int32).toNatClampNeg) + (((m_8.1 v0 0) : Int32).toNatClampNeg) + (((m_17.1 v0 0) * 16 : Int32).toNatClampNeg) + (((m_26.1 v0 0) * 4 : Int32).toNatClampNeg) ≤ 11438 ∧ L_28.2.2 < hx_big ∧ ∀ L_34 : hx_L, L_34 = hx_push L_28 (1, ((m_26.1 v0 0) * 4 : Int32).toNatClampNeg) → ∀ m_35 : hx_M, m_35 = (hx_z m_26 L_28.2.2) → L_34.1 v0 = (0, 3) ∧ ∀ L_37 : hx_L, L_37 = hx_sR L_34 v0 4 L_28.2.2 → L_37.1 v0 = (0, 3) ∧ ¬ ((m_35.1 v0 0) : Int32) < 0 ∧ ((m_35.1 v0 0) : Int32).toNatClampNeg ≤ 65536 ∧ 0 + ((x_2 : Int32).toNatClampNeg) + (((m_8.1 v0 0) : Int32).toNatClampNeg) + (((m_17.1 v0 0) * 16 : Int32).toNatClampNeg) + (((m_26.1 v0 0) * 4 : Int32).toNatClampNeg) + (((m_35.1 v0 0) : Int32).toNatClampNeg) ≤ 11438 ∧ L_37.2.2 < hx_big ∧ ∀ L_43 : hx_L, L_43 = hx_push L_37 (1, ((m_35.1 v0 0) : Int32).toNatClampNeg) → ∀ m_44 : hx_M, m_44 = (hx_z m_35 L_37.2.2) → L_43.1 v0 = (0, 3) ∧ ∀ L_46 : hx_L, L_46 = hx_sR L_43 v0 5 L_37.2.2 → L_46.1 v0 = (0, 3) ∧ ∃ k72_48, L_46.2.1 v0 4 = some k72_48 ∧ wJ7_fill_53178 L_46 m_44 k72_48 (-1) (fun m76_49 => K L_46 m76_49)
set_option maxRecDepth 100000 in
set_option maxHeartbeats 4000000 in
theorem kX3_init {G : hx_GT} {KK : hx_KT} (hG : hx_K cX3_init 2 5 11438 (none) TbX3 KK G) (hM : hx_KA cX3_init 5 11438 TAX3_init G) (cA : hx_CA RX3 cX3_init 2 5 11438 G) {Λ : hx_L}  {μ : hx_M} (v0 : Nat) (v1 : Int32) {K : hx_L → hx_M → Prop} (hK : ∀ (Λ1 : hx_L) (m : hx_M), K Λ1 m → KK none Λ1 m) (hw : wX3_init Λ μ v0 v1 K) : G Λ μ (0, 0) 0 [some (.ref v0), some (.int v1)] [] := by
  unfold wX3_init at hw
  obtain ⟨o10_1, hw⟩ := hw
  refine cl_aload_n hG (hx_dq tdX3_init_0 0 rfl) rfl (cl_oinit hM taX3_init_o3 (hx_dq tdX3_init_0 1 rfl) (Nat.le_of_ble_eq_true rfl) (cl_aload_n hG (hx_dq tdX3_init_0 2 rfl) rfl (cl_iconst hG 1 (hx_dq tdX3_init_0 3 rfl) iconst_1 (cl_iload_n hG (hx_dq tdX3_init_0 4 rfl) rfl (cl_mmax hG mmX3_9 (hx_dq tdX3_init_0 5 rfl) (Nat.le_of_ble_eq_true rfl) (Nat.le_of_ble_eq_true rfl) (Nat.le_of_ble_eq_true rfl) (cl_putFI hM taX3_init_f15 (hx_dq tdX3_init_0 6 rfl) o10_1 (cl_aload_n hG (hx_dq tdX3_init_0 7 rfl) rfl (cl_aload_n hG (hx_dq tdX3_init_0 8 rfl) rfl (cl_getF hG fmX3_15 (hx_dq tdX3_init_0 9 rfl) o10_1 (cl_bipush hG 16 (hx_dq tdX3_init_0 10 rfl) bipush_16 (cl_imul hG (hx_dq tdX3_init_0 11 rfl) (cl_nmI (fun x_2 e_2 => ?_)))))))))))))
  replace hw := hw x_2 e_2
  obtain ⟨h3, h4, hw⟩ := hw
  obtain ⟨s6, hw⟩ := hw
  obtain ⟨b5, hw⟩ := hw
  refine cl_newaI hM rfl (hx_dq tdX3_init_0 12 rfl) h3 h4 (Nat.le_of_ble_eq_true rfl) s6 b5 (cl_nmA (fun L_7 e_7 => ?_))
  replace hw := hw L_7 e_7
  refine cl_nmM (fun m_8 e_8 => ?_)
  replace hw := hw m_8 e_8
  obtain ⟨o23_9, hw⟩ := hw
  refine cl_putFR hM taX3_init_f21 (hx_dq tdX3_init_0 13 rfl) o23_9 (cl_nmA (fun L_10 e_10 => ?_))
  replace hw := hw L_10 e_10
  obtain ⟨o28_11, hw⟩ := hw
  obtain ⟨h12, h13, hw⟩ := hw
  obtain ⟨s15, hw⟩ := hw
  obtain ⟨b14, hw⟩ := hw
  refine cl_aload_n hG (hx_dq tdX3_init_0 14 rfl) rfl (cl_aload_n hG (hx_dq tdX3_init_0 15 rfl) rfl (cl_getF hG fmX3_15 (hx_dq tdX3_init_0 16 rfl) o28_11 (cl_newaI hM rfl (hx_dq tdX3_init_0 17 rfl) h12 h13 (Nat.le_of_ble_eq_true rfl) s15 b14 (cl_nmA (fun L_16 e_16 => ?_)))))
  replace hw := hw L_16 e_16
  refine cl_nmM (fun m_17 e_17 => ?_)
  replace hw := hw m_17 e_17
  obtain ⟨o33_18, hw⟩ := hw
  refine cl_putFR hM taX3_init_f25 (hx_dq tdX3_init_0 18 rfl) o33_18 (cl_nmA (fun L_19 e_19 => ?_))
  replace hw := hw L_19 e_19
  obtain ⟨o38_20, hw⟩ := hw
  obtain ⟨h21, h22, hw⟩ := hw
  obtain ⟨s24, hw⟩ := hw
  obtain ⟨b23, hw⟩ := hw
  refine cl_aload_n hG (hx_dq tdX3_init_0 19 rfl) rfl (cl_aload_n hG (hx_dq tdX3_init_0 20 rfl) rfl (cl_getF hG fmX3_15 (hx_dq tdX3_init_0 21 rfl) o38_20 (cl_bipush hG 16 (hx_dq tdX3_init_0 22 rfl) bipush_16 (cl_imul hG (hx_dq tdX3_init_0 23 rfl) (cl_newaI hM rfl (hx_dq tdX3_init_0 24 rfl) h21 h22 (Nat.le_of_ble_eq_true rfl) s24 b23 (cl_nmA (fun L_25 e_25 => ?_)))))))
  replace hw := hw L_25 e_25
  refine cl_nmM (fun m_26 e_26 => ?_)
  replace hw := hw m_26 e_26
  obtain ⟨o46_27, hw⟩ := hw
  refine cl_putFR hM taX3_init_f28 (hx_dq tdX3_init_0 25 rfl) o46_27 (cl_nmA (fun L_28 e_28 => ?_))
  replace hw := hw L_28 e_28
  obtain ⟨o51_29, hw⟩ := hw
  obtain ⟨h30, h31, hw⟩ := hw
  obtain ⟨s33, hw⟩ := hw
  obtain ⟨b32, hw⟩ := hw
  refine cl_aload_n hG (hx_dq tdX3_init_0 26 rfl) rfl (cl_aload_n hG (hx_dq tdX3_init_0 27 rfl) rfl (cl_getF hG fmX3_15 (hx_dq tdX3_init_0 28 rfl) o51_29 (cl_iconst hG 4 (hx_dq tdX3_init_0 29 rfl) iconst_4 (cl_imul hG (hx_dq tdX3_init_0 30 rfl) (cl_newaI hM rfl (hx_dq tdX3_init_0 31 rfl) h30 h31 (Nat.le_of_ble_eq_true rfl) s33 b32 (cl_nmA (fun L_34 e_34 => ?_)))))))
  replace hw := hw L_34 e_34
  refine cl_nmM (fun m_35 e_35 => ?_)
  replace hw := hw m_35 e_35
  obtain ⟨o58_36, hw⟩ := hw
  refine cl_putFR hM taX3_init_f31 (hx_dq tdX3_init_1 0 rfl) o58_36 (cl_nmA (fun L_37 e_37 => ?_))
  replace hw := hw L_37 e_37
  obtain ⟨o63_38, hw⟩ := hw
  obtain ⟨h39, h40, hw⟩ := hw
  obtain ⟨s42, hw⟩ := hw
  obtain ⟨b41, hw⟩ := hw
  refine cl_aload_n hG (hx_dq tdX3_init_1 1 rfl) rfl (cl_aload_n hG (hx_dq tdX3_init_1 2 rfl) rfl (cl_getF hG fmX3_15 (hx_dq tdX3_init_1 3 rfl) o63_38 (cl_newaI hM rfl (hx_dq tdX3_init_1 4 rfl) h39 h40 (Nat.le_of_ble_eq_true rfl) s42 b41 (cl_nmA (fun L_43 e_43 => ?_)))))
  replace hw := hw L_43 e_43
  refine cl_nmM (fun m_44 e_44 => ?_)
  replace hw := hw m_44 e_44
  obtain ⟨o68_45, hw⟩ := hw
  refine cl_putFR hM taX3_init_f34 (hx_dq tdX3_init_1 5 rfl) o68_45 (cl_nmA (fun L_46 e_46 => ?_))
  replace hw := hw L_46 e_46
  obtain ⟨o72_47, hw⟩ := hw
  obtain ⟨k72_48, zk72_48, hw⟩ := hw
  refine cl_aload_n hG (hx_dq tdX3_init_1 6 rfl) rfl (cl_getS hG fmX3_31 (hx_dq tdX3_init_1 7 rfl) o72_47 zk72_48 (cl_iconst hG (-1) (hx_dq tdX3_init_1 8 rfl) iconst_m1 (cl_callS2 (caX3_init_37 cA) (hx_dq tdX3_init_1 9 rfl) (Nat.le_of_ble_eq_true rfl) (Nat.le_of_ble_eq_true rfl) s42 (sJ7_fill_53178_mk hw (fun m76_49 hw => ?_)))))
  exact cl_vret hG (hx_dq tdX3_init_1 10 rfl) rfl (hK _ _ hw) (Nat.le_of_ble_eq_true rfl) s42
def sX3_init : hx_ST := fun Λ μ as KK => ∃ (v0 : Nat) (v1 : Int32) (K : hx_L → hx_M → Prop), as = [.ref v0, .int v1] ∧ wX3_init Λ μ v0 v1 K ∧ (∀ (Λ1 : hx_L) (m : hx_M), K Λ1 m → KK none Λ1 m)
theorem sX3_init_mk {Λ : hx_L} {μ : hx_M} {KK : hx_KT} {v0 : Nat} {v1 : Int32} {K : hx_L → hx_M → Prop}  (hw : wX3_init Λ μ v0 v1 K) (hk : ∀ (Λ1 : hx_L) (m : hx_M), K Λ1 m → KK none Λ1 m) : sX3_init Λ μ [.ref v0, .int v1] KK := ⟨_, _, _, rfl, hw, hk⟩
theorem conX3_init : hx_Con yX3_init cX3_init 2 (none) 2 5 11438 sX3_init := by
  refine hx_con_ofA (by decide +kernel) tokX3 taokX3_init (Or.inr rfl) (by decide) ?_ ?_
  · intro Λ μ as KK h
    obtain ⟨v0, v1, K, rfl, hw, hK⟩ := h
    exact Nat.le_of_ble_eq_true rfl
  · intro G KK hG hM cA Λ μ as h
    obtain ⟨v0, v1, K, rfl, hw, hK⟩ := h
    exact cl_sub hG (hx_le_c rfl (hx_le_c rfl hx_le_0)) (kX3_init hG hM cA _ _ hK hw)
/-! HemLine$Past.noteAsked(IIIII)V -/
def tbX3_noteAsked_0 : List (Nat × Instr × Nat) := [(0, .aload_n 0, 1), (1, .getfield 28, 3), (4, .iload_n 2, 1), (5, .bipush 16, 2), (7, .imul, 1), (8, .iload_n 1, 1), (9, .iadd, 1), (10, .iload_n 3, 1), (11, .bipush 9, 2), (13, .ishl, 1), (14, .iload 4, 2), (16, .ior, 1), (17, .bipush 7, 2), (19, .ishl, 1), (20, .iload 5, 2), (22, .ior, 1), (23, .iastore, 1), (24, .return_, 1)]
theorem tdX3_noteAsked_0 : hx_dt cX3_noteAsked tbX3_noteAsked_0 = true := by decide +kernel
def wX3_noteAsked (μ : hx_M) (v1 : Int32) (v2 : Int32) (v3 : Int32) (v4 : Int32) (v5 : Int32) (K : hx_M → Prop) : Prop := ∀ x_1 : Int32, x_1 = ((((v3 <<< (9 &&& 31)) ||| v4) <<< (7 &&& 31)) ||| v5) → vp_in ((v2 * 16) + v1) 4816 ∧ K (hx_sI μ 18 (((v2 * 16) + v1).toNatClampNeg) x_1)
set_option maxRecDepth 100000 in
set_option maxHeartbeats 4000000 in
theorem kX3_noteAsked {G : hx_GT} {KK : hx_KT} (hG : hx_K cX3_noteAsked 6 0 0 (none) TbX3 KK G) (cA : hx_CA RX3 cX3_noteAsked 1 0 0 G) {Λ : hx_L} (hF : cF Λ) {μ : hx_M} (v1 : Int32) (v2 : Int32) (v3 : Int32) (v4 : Int32) (v5 : Int32) {K : hx_M → Prop} (hK : ∀ (m : hx_M), K m → KK none Λ m) (hw : wX3_noteAsked μ v1 v2 v3 v4 v5 K) : G Λ μ (0, 0) 0 [some (.ref 15), some (.int v1), some (.int v2), some (.int v3), some (.int v4), some (.int v5)] [] := by
  unfold wX3_noteAsked at hw
  refine cl_aload_n hG (hx_dq tdX3_noteAsked_0 0 rfl) rfl (cl_getS hG fmX3_28 (hx_dq tdX3_noteAsked_0 1 rfl) (cF_S15 hF) (cF_R15_3 hF) (cl_iload_n hG (hx_dq tdX3_noteAsked_0 2 rfl) rfl (cl_bipush hG 16 (hx_dq tdX3_noteAsked_0 3 rfl) bipush_16 (cl_imul hG (hx_dq tdX3_noteAsked_0 4 rfl) (cl_iload_n hG (hx_dq tdX3_noteAsked_0 5 rfl) rfl (cl_iadd hG (hx_dq tdX3_noteAsked_0 6 rfl) (cl_iload_n hG (hx_dq tdX3_noteAsked_0 7 rfl) rfl (cl_bipush hG 9 (hx_dq tdX3_noteAsked_0 8 rfl) bipush_9 (cl_ishl hG (hx_dq tdX3_noteAsked_0 9 rfl) (cl_iload hG (hx_dq tdX3_noteAsked_0 10 rfl) rfl (cl_ior hG (hx_dq tdX3_noteAsked_0 11 rfl) (cl_bipush hG 7 (hx_dq tdX3_noteAsked_0 12 rfl) bipush_7 (cl_ishl hG (hx_dq tdX3_noteAsked_0 13 rfl) (cl_iload hG (hx_dq tdX3_noteAsked_0 14 rfl) rfl (cl_ior hG (hx_dq tdX3_noteAsked_0 15 rfl) (cl_nmI (fun x_1 e_1 => ?_)))))))))))))))))
  replace hw := hw x_1 e_1
  obtain ⟨i23_2, hw⟩ := hw
  exact cl_iast hG (hx_dq tdX3_noteAsked_0 16 rfl) (cF_S18 hF) i23_2 (cl_vret hG (hx_dq tdX3_noteAsked_0 17 rfl) rfl (hK _ hw) (Nat.le_refl _) (Nat.le_refl _))
def sX3_noteAsked : hx_ST := fun Λ μ as KK => cF Λ ∧ ∃ (v1 : Int32) (v2 : Int32) (v3 : Int32) (v4 : Int32) (v5 : Int32) (K : hx_M → Prop), as = [.ref 15, .int v1, .int v2, .int v3, .int v4, .int v5] ∧ wX3_noteAsked μ v1 v2 v3 v4 v5 K ∧ (∀ (m : hx_M), K m → KK none Λ m)
theorem sX3_noteAsked_mk {Λ : hx_L} {μ : hx_M} {KK : hx_KT} {v1 : Int32} {v2 : Int32} {v3 : Int32} {v4 : Int32} {v5 : Int32} {K : hx_M → Prop} (hF : cF Λ) (hw : wX3_noteAsked μ v1 v2 v3 v4 v5 K) (hk : ∀ (m : hx_M), K m → KK none Λ m) : sX3_noteAsked Λ μ [.ref 15, .int v1, .int v2, .int v3, .int v4, .int v5] KK := ⟨hF, _, _, _, _, _, _, rfl, hw, hk⟩
theorem conX3_noteAsked : hx_Con yX3_noteAsked cX3_noteAsked 6 (none) 1 0 0 sX3_noteAsked := by
  refine hx_con_of (by decide +kernel) tokX3 (by decide) ?_ ?_
  · intro Λ μ as KK h
    obtain ⟨hF, v1, v2, v3, v4, v5, K, rfl, hw, hK⟩ := h
    exact Nat.le_of_ble_eq_true rfl
  · intro G KK hG cA Λ μ as h
    obtain ⟨hF, v1, v2, v3, v4, v5, K, rfl, hw, hK⟩ := h
    exact cl_sub hG (hx_le_c rfl (hx_le_c rfl (hx_le_c rfl (hx_le_c rfl (hx_le_c rfl (hx_le_c rfl hx_le_0)))))) (kX3_noteAsked hG cA hF _ _ _ _ _ hK hw)
/-! HemLine$Past.carryOn(I)V -/
def tbX3_carryOn_0 : List (Nat × Instr × Nat) := [(0, .aload_n 0, 1), (1, .getfield 34, 3), (4, .iload_n 1, 1), (5, .iconst 1, 1), (6, .iadd, 1), (7, .aload_n 0, 1), (8, .getfield 34, 3), (11, .iload_n 1, 1), (12, .iaload, 1), (13, .iastore, 1), (14, .aload_n 0, 1), (15, .getfield 31, 3), (18, .iload_n 1, 1), (19, .iconst 4, 1), (20, .imul, 1), (21, .aload_n 0, 1), (22, .getfield 31, 3), (25, .iload_n 1, 1), (26, .iconst 1, 1), (27, .iadd, 1), (28, .iconst 4, 1), (29, .imul, 1), (30, .iconst 4, 1), (31, .invokestatic 43, 3), (34, .return_, 1)]
theorem tdX3_carryOn_0 : hx_dt cX3_carryOn tbX3_carryOn_0 = true := by decide +kernel
def wX3_carryOn (μ : hx_M) (v1 : Int32) (K : hx_M → Prop) : Prop := vp_in v1 301 ∧ vp_in (v1 + 1) 301 ∧ ¬ (v1 * 4 : Int32) < 0 ∧ ¬ ((v1 + 1) * 4 : Int32) < 0 ∧ ¬ (4 : Int32) < 0 ∧ (v1 * 4 : Int32).toNatClampNeg + (4 : Int32).toNatClampNeg ≤ 1204 ∧ ((v1 + 1) * 4 : Int32).toNatClampNeg + (4 : Int32).toNatClampNeg ≤ 1204 ∧ ∀ m_4 : hx_M, m_4 = (hx_sA (hx_sI μ 20 ((v1 + 1).toNatClampNeg) (μ.1 20 v1.toNatClampNeg)) 19 (va_cpy (μ.1 19) (μ.1 19) (v1 * 4 : Int32).toNatClampNeg ((v1 + 1) * 4 : Int32).toNatClampNeg (4 : Int32).toNatClampNeg)) → K m_4
set_option maxRecDepth 100000 in
set_option maxHeartbeats 4000000 in
theorem kX3_carryOn {G : hx_GT} {KK : hx_KT} (hG : hx_K cX3_carryOn 2 0 0 (none) TbX3 KK G) (cA : hx_CA RX3 cX3_carryOn 1 0 0 G) {Λ : hx_L} (hF : cF Λ) {μ : hx_M} (v1 : Int32) {K : hx_M → Prop} (hK : ∀ (m : hx_M), K m → KK none Λ m) (hw : wX3_carryOn μ v1 K) : G Λ μ (0, 0) 0 [some (.ref 15), some (.int v1)] [] := by
  unfold wX3_carryOn at hw
  obtain ⟨i12_1, hw⟩ := hw
  obtain ⟨i13_2, hw⟩ := hw
  obtain ⟨g31_3_0, g31_3_1, g31_3_2, g31_3_3, g31_3_4, hw⟩ := hw
  refine cl_aload_n hG (hx_dq tdX3_carryOn_0 0 rfl) rfl (cl_getS hG fmX3_34 (hx_dq tdX3_carryOn_0 1 rfl) (cF_S15 hF) (cF_R15_5 hF) (cl_iload_n hG (hx_dq tdX3_carryOn_0 2 rfl) rfl (cl_iconst hG 1 (hx_dq tdX3_carryOn_0 3 rfl) iconst_1 (cl_iadd hG (hx_dq tdX3_carryOn_0 4 rfl) (cl_aload_n hG (hx_dq tdX3_carryOn_0 5 rfl) rfl (cl_getS hG fmX3_34 (hx_dq tdX3_carryOn_0 6 rfl) (cF_S15 hF) (cF_R15_5 hF) (cl_iload_n hG (hx_dq tdX3_carryOn_0 7 rfl) rfl (cl_iald hG (hx_dq tdX3_carryOn_0 8 rfl) (cF_S20 hF) i12_1 (cl_iast hG (hx_dq tdX3_carryOn_0 9 rfl) (cF_S20 hF) i13_2 (cl_aload_n hG (hx_dq tdX3_carryOn_0 10 rfl) rfl (cl_getS hG fmX3_31 (hx_dq tdX3_carryOn_0 11 rfl) (cF_S15 hF) (cF_R15_4 hF) (cl_iload_n hG (hx_dq tdX3_carryOn_0 12 rfl) rfl (cl_iconst hG 4 (hx_dq tdX3_carryOn_0 13 rfl) iconst_4 (cl_imul hG (hx_dq tdX3_carryOn_0 14 rfl) (cl_aload_n hG (hx_dq tdX3_carryOn_0 15 rfl) rfl (cl_getS hG fmX3_31 (hx_dq tdX3_carryOn_0 16 rfl) (cF_S15 hF) (cF_R15_4 hF) (cl_iload_n hG (hx_dq tdX3_carryOn_0 17 rfl) rfl (cl_iconst hG 1 (hx_dq tdX3_carryOn_0 18 rfl) iconst_1 (cl_iadd hG (hx_dq tdX3_carryOn_0 19 rfl) (cl_iconst hG 4 (hx_dq tdX3_carryOn_0 20 rfl) iconst_4 (cl_imul hG (hx_dq tdX3_carryOn_0 21 rfl) (cl_iconst hG 4 (hx_dq tdX3_carryOn_0 22 rfl) iconst_4 (cl_copy hG mmX3_43 (hx_dq tdX3_carryOn_0 23 rfl) (Nat.le_refl _) (Nat.le_refl _) (Nat.le_of_ble_eq_true rfl) (cF_S19 hF) (cF_S19 hF) g31_3_0 g31_3_1 g31_3_2 g31_3_3 g31_3_4 (cl_nmM (fun m_4 e_4 => ?_)))))))))))))))))))))))))
  replace hw := hw m_4 e_4
  exact cl_vret hG (hx_dq tdX3_carryOn_0 24 rfl) rfl (hK _ hw) (Nat.le_refl _) (Nat.le_refl _)
def sX3_carryOn : hx_ST := fun Λ μ as KK => cF Λ ∧ ∃ (v1 : Int32) (K : hx_M → Prop), as = [.ref 15, .int v1] ∧ wX3_carryOn μ v1 K ∧ (∀ (m : hx_M), K m → KK none Λ m)
theorem sX3_carryOn_mk {Λ : hx_L} {μ : hx_M} {KK : hx_KT} {v1 : Int32} {K : hx_M → Prop} (hF : cF Λ) (hw : wX3_carryOn μ v1 K) (hk : ∀ (m : hx_M), K m → KK none Λ m) : sX3_carryOn Λ μ [.ref 15, .int v1] KK := ⟨hF, _, _, rfl, hw, hk⟩
theorem conX3_carryOn : hx_Con yX3_carryOn cX3_carryOn 2 (none) 1 0 0 sX3_carryOn := by
  refine hx_con_of (by decide +kernel) tokX3 (by decide) ?_ ?_
  · intro Λ μ as KK h
    obtain ⟨hF, v1, K, rfl, hw, hK⟩ := h
    exact Nat.le_of_ble_eq_true rfl
  · intro G KK hG cA Λ μ as h
    obtain ⟨hF, v1, K, rfl, hw, hK⟩ := h
    exact cl_sub hG (hx_le_c rfl (hx_le_c rfl hx_le_0)) (kX3_carryOn hG cA hF _ hK hw)
/-! HemLine$Past.sameLengths(III)Z -/
def tbX3_sameLengths_0 : List (Nat × Instr × Nat) := [(0, .aload_n 0, 1), (1, .getfield 25, 3), (4, .iload_n 1, 1), (5, .iaload, 1), (6, .aload_n 0, 1), (7, .getfield 25, 3), (10, .iload_n 2, 1), (11, .iaload, 1), (12, .if_icmp .eq 5, 3), (15, .iconst 0, 1), (16, .ireturn, 1), (17, .iconst 0, 1), (18, .istore 4, 2), (20, .iload 4, 2), (22, .iload_n 3, 1), (23, .if_icmp .ge 28, 3), (26, .aload_n 0, 1), (27, .iload 4, 2), (29, .iload_n 1, 1), (30, .invokevirtual 49, 3), (33, .aload_n 0, 1), (34, .iload 4, 2), (36, .iload_n 2, 1), (37, .invokevirtual 49, 3), (40, .if_icmp .eq 5, 3), (43, .iconst 0, 1), (44, .ireturn, 1), (45, .iinc 4 1, 3), (48, .goto (-28), 3), (51, .iconst 1, 1), (52, .ireturn, 1)]
theorem tdX3_sameLengths_0 : hx_dt cX3_sameLengths tbX3_sameLengths_0 = true := by decide +kernel
theorem caX3_sameLengths_49 {G : hx_GT} (cA : hx_CA RX3 cX3_sameLengths 2 0 0 G) : hx_CV cX3_sameLengths G 0 0 49 3 2 sX3_lengthOf 0 0 := cA.1 conX3_lengthOf rfl rfl ⟨by decide +kernel, by decide +kernel, by decide +kernel⟩ mw_835 mw_717 mw_718 mw_88 mw_719 (by decide) (by decide)
def wX3_sameLengths_L20 (μ : hx_M) (v1 : Int32) (v2 : Int32) (v3 : Int32) (K : Int32 → Prop)  : Nat → Int32 → Prop
  | 0, _ => False
  | n + 1, v4 => (v3 ≤ v4 → (K 1)) ∧ (¬ (v3 ≤ v4) → (wX3_lengthOf μ v4 v1 (fun r30_4 => wX3_lengthOf μ v4 v2 (fun r37_6 => (r30_4 = r37_6 → (wX3_sameLengths_L20 μ v1 v2 v3 K n (v4 + 1))) ∧ (¬ (r30_4 = r37_6) → (K 0))))))
set_option maxRecDepth 100000 in
set_option maxHeartbeats 4000000 in
theorem kX3_sameLengths_L20 {G : hx_GT} {KK : hx_KT} (hG : hx_K cX3_sameLengths 5 0 0 (some .boolean) TbX3 KK G) (cA : hx_CA RX3 cX3_sameLengths 2 0 0 G) {Λ : hx_L} (hF : cF Λ) {μ : hx_M} (v1 : Int32) (v2 : Int32) (v3 : Int32) {K : Int32 → Prop} (hK : ∀ (r : Int32), K r → KK (some (.int r)) Λ μ)  : ∀ (n : Nat) (v4 : Int32), wX3_sameLengths_L20 μ v1 v2 v3 K n v4 → G Λ μ (0, 0) 20 [some (.ref 15), some (.int v1), some (.int v2), some (.int v3), some (.int v4)] [] := by
  intro n
  induction n with
  | zero =>
    intro v4 hw
    exact False.elim (by simpa only [wX3_sameLengths_L20] using hw)
  | succ n ih =>
    intro v4 hw
    unfold wX3_sameLengths_L20 at hw
    refine cl_iload hG (hx_dq tdX3_sameLengths_0 13 rfl) rfl (cl_iload_n hG (hx_dq tdX3_sameLengths_0 14 rfl) rfl (cl_icmp_ge hG 51 (hx_dq tdX3_sameLengths_0 15 rfl) rfl (fun c23 => ?_) (fun c23 => ?_)))
    · replace hw := hw.1 c23
      exact cl_iconst hG 1 (hx_dq tdX3_sameLengths_0 29 rfl) iconst_1 (cl_iret hG (hx_dq tdX3_sameLengths_0 30 rfl) rfl rfl (hK _ hw) (Nat.le_refl _) (Nat.le_refl _))
    · replace hw := hw.2 c23
      refine cl_aload_n hG (hx_dq tdX3_sameLengths_0 16 rfl) rfl (cl_iload hG (hx_dq tdX3_sameLengths_0 17 rfl) rfl (cl_iload_n hG (hx_dq tdX3_sameLengths_0 18 rfl) rfl (cl_callV2 (caX3_sameLengths_49 cA) (hx_dq tdX3_sameLengths_0 19 rfl) (cF_S15 hF) (Nat.le_of_ble_eq_true rfl) (Nat.le_refl _) (Nat.le_refl _) (sX3_lengthOf_mk hF hw (fun r30_4 hw => ?_)))))
      refine cl_aload_n hG (hx_dq tdX3_sameLengths_0 20 rfl) rfl (cl_iload hG (hx_dq tdX3_sameLengths_0 21 rfl) rfl (cl_iload_n hG (hx_dq tdX3_sameLengths_0 22 rfl) rfl (cl_callV2 (caX3_sameLengths_49 cA) (hx_dq tdX3_sameLengths_0 23 rfl) (cF_S15 hF) (Nat.le_of_ble_eq_true rfl) (Nat.le_refl _) (Nat.le_refl _) (sX3_lengthOf_mk hF hw (fun r37_6 hw => ?_)))))
      refine cl_icmp_eq hG 45 (hx_dq tdX3_sameLengths_0 24 rfl) rfl (fun c40 => ?_) (fun c40 => ?_)
      · replace hw := hw.1 c40
        exact cl_iinc hG (v4 + 1) (hx_dq tdX3_sameLengths_0 27 rfl) rfl (congrArg (fun z => v4 + z) iconst_1) (Nat.le_of_ble_eq_true rfl) rfl (cl_goto hG 20 (hx_dq tdX3_sameLengths_0 28 rfl) rfl (cl_sub hG (hx_le_c rfl (hx_le_c rfl (hx_le_c rfl (hx_le_c rfl (hx_le_c rfl hx_le_0))))) (ih (v4 + 1) hw)))
      · replace hw := hw.2 c40
        exact cl_iconst hG 0 (hx_dq tdX3_sameLengths_0 25 rfl) iconst_0 (cl_iret hG (hx_dq tdX3_sameLengths_0 26 rfl) rfl rfl (hK _ hw) (Nat.le_refl _) (Nat.le_refl _))
def wX3_sameLengths (μ : hx_M) (v1 : Int32) (v2 : Int32) (v3 : Int32) (K : Int32 → Prop) : Prop := vp_in v1 301 ∧ vp_in v2 301 ∧ ((μ.1 17 v1.toNatClampNeg) = (μ.1 17 v2.toNatClampNeg) → (∃ n20_7, wX3_sameLengths_L20 μ v1 v2 v3 K n20_7 0)) ∧ (¬ ((μ.1 17 v1.toNatClampNeg) = (μ.1 17 v2.toNatClampNeg)) → (K 0))
set_option maxRecDepth 100000 in
set_option maxHeartbeats 4000000 in
theorem kX3_sameLengths {G : hx_GT} {KK : hx_KT} (hG : hx_K cX3_sameLengths 5 0 0 (some .boolean) TbX3 KK G) (cA : hx_CA RX3 cX3_sameLengths 2 0 0 G) {Λ : hx_L} (hF : cF Λ) {μ : hx_M} (v1 : Int32) (v2 : Int32) (v3 : Int32) {K : Int32 → Prop} (hK : ∀ (r : Int32), K r → KK (some (.int r)) Λ μ) (hw : wX3_sameLengths μ v1 v2 v3 K) : G Λ μ (0, 0) 0 [some (.ref 15), some (.int v1), some (.int v2), some (.int v3), none] [] := by
  unfold wX3_sameLengths at hw
  obtain ⟨i5_1, hw⟩ := hw
  obtain ⟨i11_2, hw⟩ := hw
  refine cl_aload_n hG (hx_dq tdX3_sameLengths_0 0 rfl) rfl (cl_getS hG fmX3_25 (hx_dq tdX3_sameLengths_0 1 rfl) (cF_S15 hF) (cF_R15_2 hF) (cl_iload_n hG (hx_dq tdX3_sameLengths_0 2 rfl) rfl (cl_iald hG (hx_dq tdX3_sameLengths_0 3 rfl) (cF_S17 hF) i5_1 (cl_aload_n hG (hx_dq tdX3_sameLengths_0 4 rfl) rfl (cl_getS hG fmX3_25 (hx_dq tdX3_sameLengths_0 5 rfl) (cF_S15 hF) (cF_R15_2 hF) (cl_iload_n hG (hx_dq tdX3_sameLengths_0 6 rfl) rfl (cl_iald hG (hx_dq tdX3_sameLengths_0 7 rfl) (cF_S17 hF) i11_2 (cl_icmp_eq hG 17 (hx_dq tdX3_sameLengths_0 8 rfl) rfl (fun c12 => ?_) (fun c12 => ?_)))))))))
  · replace hw := hw.1 c12
    refine cl_iconst hG 0 (hx_dq tdX3_sameLengths_0 11 rfl) iconst_0 (cl_istore hG (hx_dq tdX3_sameLengths_0 12 rfl) (Nat.le_of_ble_eq_true rfl) rfl ?_)
    obtain ⟨n_, hw⟩ := hw
    refine cl_sub hG (hx_le_c rfl (hx_le_c rfl (hx_le_c rfl (hx_le_c rfl (hx_le_c rfl hx_le_0))))) (kX3_sameLengths_L20 hG cA hF v1 v2 v3 hK n_ 0 hw)
  · replace hw := hw.2 c12
    exact cl_iconst hG 0 (hx_dq tdX3_sameLengths_0 9 rfl) iconst_0 (cl_iret hG (hx_dq tdX3_sameLengths_0 10 rfl) rfl rfl (hK _ hw) (Nat.le_refl _) (Nat.le_refl _))
def sX3_sameLengths : hx_ST := fun Λ μ as KK => cF Λ ∧ ∃ (v1 : Int32) (v2 : Int32) (v3 : Int32) (K : Int32 → Prop), as = [.ref 15, .int v1, .int v2, .int v3] ∧ wX3_sameLengths μ v1 v2 v3 K ∧ (∀ (r : Int32), K r → KK (some (.int r)) Λ μ)
theorem sX3_sameLengths_mk {Λ : hx_L} {μ : hx_M} {KK : hx_KT} {v1 : Int32} {v2 : Int32} {v3 : Int32} {K : Int32 → Prop} (hF : cF Λ) (hw : wX3_sameLengths μ v1 v2 v3 K) (hk : ∀ (r : Int32), K r → KK (some (.int r)) Λ μ) : sX3_sameLengths Λ μ [.ref 15, .int v1, .int v2, .int v3] KK := ⟨hF, _, _, _, _, rfl, hw, hk⟩
theorem conX3_sameLengths : hx_Con yX3_sameLengths cX3_sameLengths 5 (some .boolean) 2 0 0 sX3_sameLengths := by
  refine hx_con_of (by decide +kernel) tokX3 (by decide) ?_ ?_
  · intro Λ μ as KK h
    obtain ⟨hF, v1, v2, v3, K, rfl, hw, hK⟩ := h
    exact Nat.le_of_ble_eq_true rfl
  · intro G KK hG cA Λ μ as h
    obtain ⟨hF, v1, v2, v3, K, rfl, hw, hK⟩ := h
    exact cl_sub hG (hx_le_c rfl (hx_le_c rfl (hx_le_c rfl (hx_le_c rfl (hx_le_n hx_le_0))))) (kX3_sameLengths hG cA hF _ _ _ hK hw)
/-! HemLine$Past.copyOf(LHemLine$Past;I)V -/
def tbX3_copyOf_0 : List (Nat × Instr × Nat) := [(0, .iload_n 2, 1), (1, .aload_n 0, 1), (2, .getfield 15, 3), (5, .aload_n 1, 1), (6, .getfield 15, 3), (9, .invokestatic 52, 3), (12, .invokestatic 52, 3), (15, .istore_n 3, 1), (16, .aload_n 1, 1), (17, .getfield 21, 3), (20, .iconst 0, 1), (21, .aload_n 0, 1), (22, .getfield 21, 3), (25, .iconst 0, 1), (26, .iload_n 3, 1), (27, .bipush 16, 2), (29, .imul, 1), (30, .invokestatic 43, 3), (33, .aload_n 1, 1), (34, .getfield 25, 3), (37, .iconst 0, 1), (38, .aload_n 0, 1), (39, .getfield 25, 3), (42, .iconst 0, 1), (43, .iload_n 3, 1), (44, .invokestatic 43, 3), (47, .aload_n 1, 1), (48, .getfield 28, 3), (51, .iconst 0, 1), (52, .aload_n 0, 1), (53, .getfield 28, 3), (56, .iconst 0, 1)]
def tbX3_copyOf_1 : List (Nat × Instr × Nat) := [(57, .iload_n 3, 1), (58, .bipush 16, 2), (60, .imul, 1), (61, .invokestatic 43, 3), (64, .aload_n 1, 1), (65, .getfield 31, 3), (68, .iconst 0, 1), (69, .aload_n 0, 1), (70, .getfield 31, 3), (73, .iconst 0, 1), (74, .iload_n 3, 1), (75, .iconst 4, 1), (76, .imul, 1), (77, .invokestatic 43, 3), (80, .aload_n 1, 1), (81, .getfield 34, 3), (84, .iconst 0, 1), (85, .aload_n 0, 1), (86, .getfield 34, 3), (89, .iconst 0, 1), (90, .iload_n 3, 1), (91, .invokestatic 43, 3), (94, .return_, 1)]
theorem tdX3_copyOf_0 : hx_dt cX3_copyOf tbX3_copyOf_0 = true := by decide +kernel
theorem tdX3_copyOf_1 : hx_dt cX3_copyOf tbX3_copyOf_1 = true := by decide +kernel
set_option maxRecDepth 100000 in
def wX3_copyOf (Λ : hx_L) (μ : hx_M) (v0 : Nat) (v1 : Option Nat) (v2 : Int32) (K : hx_M → Prop) : Prop := Λ.1 v0 = (0, 3) ∧ ∃ k6_2, v1 = some k6_2 ∧ Λ.1 k6_2 = (0, 3) ∧ ∀ x_4 : Int32, x_4 = (if (μ.1 k6_2 0) < (μ.1 v0 0) then (μ.1 k6_2 0) else (μ.1 v0 0)) → ∃ k17_5, Λ.2.1 k6_2 1 = some k17_5 ∧ ∃ k22_6, Λ.2.1 v0 1 = some k22_6 ∧ ∃ n30_8, Λ.1 k17_5 = (1, n30_8) ∧ ∃ n30_10, Λ.1 k22_6 = (1, n30_10) ∧ ¬ (0 : Int32) < 0 ∧ ¬ (0 : Int32) < 0 ∧ ¬ ((if x_4 < v2 then x_4 else v2) * 16 : Int32) < 0 ∧ (0 : Int32).toNatClampNeg + ((if x_4 < v2 then x_4 else v2) * 16 : Int32).toNatClampNeg ≤ n30_8 ∧ (0 : Int32).toNatClampNeg + ((if x_4 < v2 then x_4 else v2) * 16 : Int32).toNatClampNeg ≤ n30_10 ∧ ∀ m_12 : hx_M, m_12 = (hx_sA μ k22_6 (va_cpy (μ.1 k17_5) (μ.1 k22_6) (0 : Int32).toNatClampNeg (0 : Int32).toNatClampNeg ((if x_4 < v2 then x_4 else v2) * 16 : Int32).toNatClampNeg)) → ∃ k34_13, Λ.2.1 k6_2 2 = some k34_13 ∧ ∃ k39_14, Λ.2.1 v0 2 = some k39_14 ∧ ∃ n44_16, Λ.1 k34_13 = (1, n44_16) ∧ ∃ n44_18, Λ.1 k39_14 = (1, n44_18) ∧ ¬ (0 : Int32) < 0 ∧ ¬ (0 : Int32) < 0 ∧ ¬ (if x_4 < v2 then x_4 else v2 : Int32) < 0 ∧ (0 : Int32).toNatClampNeg + (if x_4 < v2 then x_4 else v2 : Int32).toNatClampNeg ≤ n44_16 ∧ (0 : Int32).toNatClampNeg + (if x_4 < v2 then x_4 else v2 : Int32).toNatClampNeg ≤ n44_18 ∧ ∀ m_20 : hx_M, m_20 = (hx_sA m_12 k39_14 (va_cpy (m_12.1 k34_13) (m_12.1 k39_14) (0 : Int32).toNatClampNeg (0 : Int32).toNatClampNeg (if x_4 < v2 then x_4 else v2 : Int32).toNatClampNeg)) → ∃ k48_21, Λ.2.1 k6_2 3 = some k48_21 ∧ ∃ k53_22, Λ.2.1 v0 3 = some k53_22 ∧ ∃ n61_24, Λ.1 k48_21 = (1, n61_24) ∧ ∃ n61_26, Λ.1 k53_22 = (1, n61_26) ∧ ¬ (0 : Int32) < 0 ∧ ¬ (0 : Int32) < 0 ∧ ¬ ((if x_4 < v2 then x_4 else v2) * 16 : Int32) < 0 ∧ (0 : Int32).toNatClampNeg + ((if x_4 < v2 then x_4 else v2) * 16 : Int32).toNatClampNeg ≤ n61_24 ∧ (0 : Int32).toNatClampNeg + ((if x_4 < v2 then x_4 else v2) * 16 : Int32).toNatClampNeg ≤ n61_26 ∧ ∀ m_28 : hx_M, m_28 = (hx_sA m_20 k53_22 (va_cpy (m_20.1 k48_21) (m_20.1 k53_22) (0 : Int32).toNatClampNeg (0 : Int32).toNatClampNeg ((if x_4 < v2 then x_4 else v2) * 16 : Int32).toNatClampNeg)) → ∃ k65_29, Λ.2.1 k6_2 4 = some k65_29 ∧ ∃ k70_30, Λ.2.1 v0 4 = some k70_30 ∧ ∃ n77_32, Λ.1 k65_29 = (1, n77_32) ∧ ∃ n77_34, Λ.1 k70_30 = (1, n77_34) ∧ ¬ (0 : Int32) < 0 ∧ ¬ (0 : Int32) < 0 ∧ ¬ ((if x_4 < v2 then x_4 else v2) * 4 : Int32) < 0 ∧ (0 : Int32).toNatClampNeg + ((if x_4 < v2 then x_4 else v2) * 4 : Int32).toNatClampNeg ≤ n77_32 ∧ (0 : Int32).toNatClampNeg + ((if x_4 < v2 then x_4 else v2) * 4 : Int32).toNatClampNeg ≤ n77_34 ∧ ∀ m_36 : hx_M, m_36 = (hx_sA m_28 k70_30 (va_cpy (m_28.1 k65_29) (m_28.1 k70_30) (0 : Int32).toNatClampNeg (0 : Int32).toNatClampNeg ((if x_4 < v2 then x_4 else v2) * 4 : Int32).toNatClampNeg)) → ∃ k81_37, Λ.2.1 k6_2 5 = some k81_37 ∧ ∃ k86_38, Λ.2.1 v0 5 = some k86_38 ∧ ∃ n91_40, Λ.1 k81_37 = (1, n91_40) ∧ ∃ n91_42, Λ.1 k86_38 = (1, n91_42) ∧ ¬ (0 : Int32) < 0 ∧ ¬ (0 : Int32) < 0 ∧ ¬ (if x_4 < v2 then x_4 else v2 : Int32) < 0 ∧ (0 : Int32).toNatClampNeg + (if x_4 < v2 then x_4 else v2 : Int32).toNatClampNeg ≤ n91_40 ∧ (0 : Int32).toNatClampNeg + (if x_4 < v2 then x_4 else v2 : Int32).toNatClampNeg ≤ n91_42 ∧ ∀ m_44 : hx_M, m_44 = (hx_sA m_36 k86_38 (va_cpy (m_36.1 k81_37) (m_36.1 k86_38) (0 : Int32).toNatClampNeg (0 : Int32).toNatClampNeg (if x_4 < v2 then x_4 else v2 : Int32).toNatClampNeg)) → K m_44
set_option maxRecDepth 100000 in
set_option maxHeartbeats 4000000 in
theorem kX3_copyOf {G : hx_GT} {KK : hx_KT} (hG : hx_K cX3_copyOf 4 0 0 (none) TbX3 KK G) (cA : hx_CA RX3 cX3_copyOf 1 0 0 G) {Λ : hx_L}  {μ : hx_M} (v0 : Nat) (v1 : Option Nat) (v2 : Int32) {K : hx_M → Prop} (hK : ∀ (m : hx_M), K m → KK none Λ m) (hw : wX3_copyOf Λ μ v0 v1 v2 K) : G Λ μ (0, 0) 0 [some (.ref v0), some (va_rf v1), some (.int v2), none] [] := by
  unfold wX3_copyOf at hw
  obtain ⟨o2_1, hw⟩ := hw
  obtain ⟨k6_2, zk6_2, hw⟩ := hw
  obtain ⟨o6_3, hw⟩ := hw
  refine cl_iload_n hG (hx_dq tdX3_copyOf_0 0 rfl) rfl (cl_aload_n hG (hx_dq tdX3_copyOf_0 1 rfl) rfl (cl_getF hG fmX3_15 (hx_dq tdX3_copyOf_0 2 rfl) o2_1 (cl_aload_nQ hG (hx_dq tdX3_copyOf_0 3 rfl) rfl (cl_nn zk6_2 (cl_getF hG fmX3_15 (hx_dq tdX3_copyOf_0 4 rfl) o6_3 (cl_mmin hG mmX3_52 (hx_dq tdX3_copyOf_0 5 rfl) (Nat.le_refl _) (Nat.le_refl _) (Nat.le_of_ble_eq_true rfl) (cl_nmI (fun x_4 e_4 => ?_))))))))
  replace hw := hw x_4 e_4
  obtain ⟨k17_5, zk17_5, hw⟩ := hw
  obtain ⟨k22_6, zk22_6, hw⟩ := hw
  obtain ⟨n30_8, o30_7, hw⟩ := hw
  obtain ⟨n30_10, o30_9, hw⟩ := hw
  obtain ⟨g30_11_0, g30_11_1, g30_11_2, g30_11_3, g30_11_4, hw⟩ := hw
  refine cl_mmin hG mmX3_52 (hx_dq tdX3_copyOf_0 6 rfl) (Nat.le_refl _) (Nat.le_refl _) (Nat.le_of_ble_eq_true rfl) (cl_istore_n hG (hx_dq tdX3_copyOf_0 7 rfl) (Nat.le_of_ble_eq_true rfl) rfl (cl_aload_nQ hG (hx_dq tdX3_copyOf_0 8 rfl) rfl (cl_nn zk6_2 (cl_getS hG fmX3_21 (hx_dq tdX3_copyOf_0 9 rfl) o6_3 zk17_5 (cl_iconst hG 0 (hx_dq tdX3_copyOf_0 10 rfl) iconst_0 (cl_aload_n hG (hx_dq tdX3_copyOf_0 11 rfl) rfl (cl_getS hG fmX3_21 (hx_dq tdX3_copyOf_0 12 rfl) o2_1 zk22_6 (cl_iconst hG 0 (hx_dq tdX3_copyOf_0 13 rfl) iconst_0 (cl_iload_n hG (hx_dq tdX3_copyOf_0 14 rfl) rfl (cl_bipush hG 16 (hx_dq tdX3_copyOf_0 15 rfl) bipush_16 (cl_imul hG (hx_dq tdX3_copyOf_0 16 rfl) (cl_copy hG mmX3_43 (hx_dq tdX3_copyOf_0 17 rfl) (Nat.le_refl _) (Nat.le_refl _) (Nat.le_of_ble_eq_true rfl) o30_7 o30_9 g30_11_0 g30_11_1 g30_11_2 g30_11_3 g30_11_4 (cl_nmM (fun m_12 e_12 => ?_))))))))))))))
  replace hw := hw m_12 e_12
  obtain ⟨k34_13, zk34_13, hw⟩ := hw
  obtain ⟨k39_14, zk39_14, hw⟩ := hw
  obtain ⟨n44_16, o44_15, hw⟩ := hw
  obtain ⟨n44_18, o44_17, hw⟩ := hw
  obtain ⟨g44_19_0, g44_19_1, g44_19_2, g44_19_3, g44_19_4, hw⟩ := hw
  refine cl_aload_nQ hG (hx_dq tdX3_copyOf_0 18 rfl) rfl (cl_nn zk6_2 (cl_getS hG fmX3_25 (hx_dq tdX3_copyOf_0 19 rfl) o6_3 zk34_13 (cl_iconst hG 0 (hx_dq tdX3_copyOf_0 20 rfl) iconst_0 (cl_aload_n hG (hx_dq tdX3_copyOf_0 21 rfl) rfl (cl_getS hG fmX3_25 (hx_dq tdX3_copyOf_0 22 rfl) o2_1 zk39_14 (cl_iconst hG 0 (hx_dq tdX3_copyOf_0 23 rfl) iconst_0 (cl_iload_n hG (hx_dq tdX3_copyOf_0 24 rfl) rfl (cl_copy hG mmX3_43 (hx_dq tdX3_copyOf_0 25 rfl) (Nat.le_refl _) (Nat.le_refl _) (Nat.le_of_ble_eq_true rfl) o44_15 o44_17 g44_19_0 g44_19_1 g44_19_2 g44_19_3 g44_19_4 (cl_nmM (fun m_20 e_20 => ?_))))))))))
  replace hw := hw m_20 e_20
  obtain ⟨k48_21, zk48_21, hw⟩ := hw
  obtain ⟨k53_22, zk53_22, hw⟩ := hw
  obtain ⟨n61_24, o61_23, hw⟩ := hw
  obtain ⟨n61_26, o61_25, hw⟩ := hw
  obtain ⟨g61_27_0, g61_27_1, g61_27_2, g61_27_3, g61_27_4, hw⟩ := hw
  refine cl_aload_nQ hG (hx_dq tdX3_copyOf_0 26 rfl) rfl (cl_nn zk6_2 (cl_getS hG fmX3_28 (hx_dq tdX3_copyOf_0 27 rfl) o6_3 zk48_21 (cl_iconst hG 0 (hx_dq tdX3_copyOf_0 28 rfl) iconst_0 (cl_aload_n hG (hx_dq tdX3_copyOf_0 29 rfl) rfl (cl_getS hG fmX3_28 (hx_dq tdX3_copyOf_0 30 rfl) o2_1 zk53_22 (cl_iconst hG 0 (hx_dq tdX3_copyOf_0 31 rfl) iconst_0 (cl_iload_n hG (hx_dq tdX3_copyOf_1 0 rfl) rfl (cl_bipush hG 16 (hx_dq tdX3_copyOf_1 1 rfl) bipush_16 (cl_imul hG (hx_dq tdX3_copyOf_1 2 rfl) (cl_copy hG mmX3_43 (hx_dq tdX3_copyOf_1 3 rfl) (Nat.le_refl _) (Nat.le_refl _) (Nat.le_of_ble_eq_true rfl) o61_23 o61_25 g61_27_0 g61_27_1 g61_27_2 g61_27_3 g61_27_4 (cl_nmM (fun m_28 e_28 => ?_))))))))))))
  replace hw := hw m_28 e_28
  obtain ⟨k65_29, zk65_29, hw⟩ := hw
  obtain ⟨k70_30, zk70_30, hw⟩ := hw
  obtain ⟨n77_32, o77_31, hw⟩ := hw
  obtain ⟨n77_34, o77_33, hw⟩ := hw
  obtain ⟨g77_35_0, g77_35_1, g77_35_2, g77_35_3, g77_35_4, hw⟩ := hw
  refine cl_aload_nQ hG (hx_dq tdX3_copyOf_1 4 rfl) rfl (cl_nn zk6_2 (cl_getS hG fmX3_31 (hx_dq tdX3_copyOf_1 5 rfl) o6_3 zk65_29 (cl_iconst hG 0 (hx_dq tdX3_copyOf_1 6 rfl) iconst_0 (cl_aload_n hG (hx_dq tdX3_copyOf_1 7 rfl) rfl (cl_getS hG fmX3_31 (hx_dq tdX3_copyOf_1 8 rfl) o2_1 zk70_30 (cl_iconst hG 0 (hx_dq tdX3_copyOf_1 9 rfl) iconst_0 (cl_iload_n hG (hx_dq tdX3_copyOf_1 10 rfl) rfl (cl_iconst hG 4 (hx_dq tdX3_copyOf_1 11 rfl) iconst_4 (cl_imul hG (hx_dq tdX3_copyOf_1 12 rfl) (cl_copy hG mmX3_43 (hx_dq tdX3_copyOf_1 13 rfl) (Nat.le_refl _) (Nat.le_refl _) (Nat.le_of_ble_eq_true rfl) o77_31 o77_33 g77_35_0 g77_35_1 g77_35_2 g77_35_3 g77_35_4 (cl_nmM (fun m_36 e_36 => ?_))))))))))))
  replace hw := hw m_36 e_36
  obtain ⟨k81_37, zk81_37, hw⟩ := hw
  obtain ⟨k86_38, zk86_38, hw⟩ := hw
  obtain ⟨n91_40, o91_39, hw⟩ := hw
  obtain ⟨n91_42, o91_41, hw⟩ := hw
  obtain ⟨g91_43_0, g91_43_1, g91_43_2, g91_43_3, g91_43_4, hw⟩ := hw
  refine cl_aload_nQ hG (hx_dq tdX3_copyOf_1 14 rfl) rfl (cl_nn zk6_2 (cl_getS hG fmX3_34 (hx_dq tdX3_copyOf_1 15 rfl) o6_3 zk81_37 (cl_iconst hG 0 (hx_dq tdX3_copyOf_1 16 rfl) iconst_0 (cl_aload_n hG (hx_dq tdX3_copyOf_1 17 rfl) rfl (cl_getS hG fmX3_34 (hx_dq tdX3_copyOf_1 18 rfl) o2_1 zk86_38 (cl_iconst hG 0 (hx_dq tdX3_copyOf_1 19 rfl) iconst_0 (cl_iload_n hG (hx_dq tdX3_copyOf_1 20 rfl) rfl (cl_copy hG mmX3_43 (hx_dq tdX3_copyOf_1 21 rfl) (Nat.le_refl _) (Nat.le_refl _) (Nat.le_of_ble_eq_true rfl) o91_39 o91_41 g91_43_0 g91_43_1 g91_43_2 g91_43_3 g91_43_4 (cl_nmM (fun m_44 e_44 => ?_))))))))))
  replace hw := hw m_44 e_44
  exact cl_vret hG (hx_dq tdX3_copyOf_1 22 rfl) rfl (hK _ hw) (Nat.le_refl _) (Nat.le_refl _)
def sX3_copyOf : hx_ST := fun Λ μ as KK => ∃ (v0 : Nat) (v1 : Option Nat) (v2 : Int32) (K : hx_M → Prop), as = [.ref v0, va_rf v1, .int v2] ∧ wX3_copyOf Λ μ v0 v1 v2 K ∧ (∀ (m : hx_M), K m → KK none Λ m)
theorem sX3_copyOf_mk {Λ : hx_L} {μ : hx_M} {KK : hx_KT} {v0 : Nat} {v1 : Option Nat} {v2 : Int32} {K : hx_M → Prop}  (hw : wX3_copyOf Λ μ v0 v1 v2 K) (hk : ∀ (m : hx_M), K m → KK none Λ m) : sX3_copyOf Λ μ [.ref v0, va_rf v1, .int v2] KK := ⟨_, _, _, _, rfl, hw, hk⟩
theorem conX3_copyOf : hx_Con yX3_copyOf cX3_copyOf 4 (none) 1 0 0 sX3_copyOf := by
  refine hx_con_of (by decide +kernel) tokX3 (by decide) ?_ ?_
  · intro Λ μ as KK h
    obtain ⟨v0, v1, v2, K, rfl, hw, hK⟩ := h
    cases v1 <;> exact Nat.le_of_ble_eq_true rfl
  · intro G KK hG cA Λ μ as h
    obtain ⟨v0, v1, v2, K, rfl, hw, hK⟩ := h
    cases v1 <;> exact cl_sub hG (hx_le_c rfl (hx_le_c rfl (hx_le_c rfl (hx_le_n hx_le_0)))) (kX3_copyOf hG cA _ _ _ hK hw)
/-! HemLine$People.<init>()V -/
def tbX4_init_0 : List (Nat × Instr × Nat) := [(0, .aload_n 0, 1), (1, .invokespecial 3, 3), (4, .aload_n 0, 1), (5, .iconst 0, 1), (6, .putfield 9, 3), (9, .aload_n 0, 1), (10, .bipush 16, 2), (12, .newarray .int, 2), (14, .putfield 15, 3), (17, .aload_n 0, 1), (18, .bipush 16, 2), (20, .newarray .int, 2), (22, .putfield 19, 3), (25, .aload_n 0, 1), (26, .bipush 16, 2), (28, .newarray .int, 2), (30, .putfield 22, 3), (33, .aload_n 0, 1), (34, .bipush 16, 2), (36, .newarray .int, 2), (38, .putfield 25, 3), (41, .aload_n 0, 1), (42, .bipush 16, 2), (44, .newarray .int, 2), (46, .putfield 28, 3), (49, .aload_n 0, 1), (50, .bipush 96, 2), (52, .newarray .int, 2), (54, .putfield 31, 3), (57, .return_, 1)]
theorem tdX4_init_0 : hx_dt cX4_init tbX4_init_0 = true := by decide +kernel
def TAX4_init : hx_TA := ([], [(15, 4, 1, 2), (19, 4, 2, 2), (22, 4, 3, 2), (25, 4, 4, 2), (28, 4, 5, 2), (31, 4, 6, 2)], [], [3])
theorem taX4_init_f15 : (15, 4, 1, 2) ∈ TAX4_init.2.1 := List.mem_of_getElem? (i := 0) rfl
theorem toX4_init_f15 : hx_ffok RX4 (15, 4, 1, 2) := ⟨RX4, TX4, 7, tyX4, rfl, Nat.le_of_ble_eq_true rfl, rfl, mw_165, inX4, tyX4_ok, nmX4, rfl, rfl, fun h => absurd h (by decide), fun _ => Or.inr ⟨_, rfl⟩⟩
theorem taX4_init_f19 : (19, 4, 2, 2) ∈ TAX4_init.2.1 := List.mem_of_getElem? (i := 1) rfl
theorem toX4_init_f19 : hx_ffok RX4 (19, 4, 2, 2) := ⟨RX4, TX4, 7, tyX4, rfl, Nat.le_of_ble_eq_true rfl, rfl, mw_168, inX4, tyX4_ok, nmX4, rfl, rfl, fun h => absurd h (by decide), fun _ => Or.inr ⟨_, rfl⟩⟩
theorem taX4_init_f22 : (22, 4, 3, 2) ∈ TAX4_init.2.1 := List.mem_of_getElem? (i := 2) rfl
theorem toX4_init_f22 : hx_ffok RX4 (22, 4, 3, 2) := ⟨RX4, TX4, 7, tyX4, rfl, Nat.le_of_ble_eq_true rfl, rfl, mw_173, inX4, tyX4_ok, nmX4, rfl, rfl, fun h => absurd h (by decide), fun _ => Or.inr ⟨_, rfl⟩⟩
theorem taX4_init_f25 : (25, 4, 4, 2) ∈ TAX4_init.2.1 := List.mem_of_getElem? (i := 3) rfl
theorem toX4_init_f25 : hx_ffok RX4 (25, 4, 4, 2) := ⟨RX4, TX4, 7, tyX4, rfl, Nat.le_of_ble_eq_true rfl, rfl, mw_176, inX4, tyX4_ok, nmX4, rfl, rfl, fun h => absurd h (by decide), fun _ => Or.inr ⟨_, rfl⟩⟩
theorem taX4_init_f28 : (28, 4, 5, 2) ∈ TAX4_init.2.1 := List.mem_of_getElem? (i := 4) rfl
theorem toX4_init_f28 : hx_ffok RX4 (28, 4, 5, 2) := ⟨RX4, TX4, 7, tyX4, rfl, Nat.le_of_ble_eq_true rfl, rfl, mw_179, inX4, tyX4_ok, nmX4, rfl, rfl, fun h => absurd h (by decide), fun _ => Or.inr ⟨_, rfl⟩⟩
theorem taX4_init_f31 : (31, 4, 6, 2) ∈ TAX4_init.2.1 := List.mem_of_getElem? (i := 5) rfl
theorem toX4_init_f31 : hx_ffok RX4 (31, 4, 6, 2) := ⟨RX4, TX4, 7, tyX4, rfl, Nat.le_of_ble_eq_true rfl, rfl, mw_182, inX4, tyX4_ok, nmX4, rfl, rfl, fun h => absurd h (by decide), fun _ => Or.inr ⟨_, rfl⟩⟩
theorem taX4_init_o3 : 3 ∈ TAX4_init.2.2.2 := List.mem_of_getElem? (i := 0) rfl
theorem taokX4_init : hx_taok RX4 TAX4_init := ⟨(fun _ h => absurd h List.not_mem_nil), (List.forall_mem_cons.mpr ⟨toX4_init_f15, (List.forall_mem_cons.mpr ⟨toX4_init_f19, (List.forall_mem_cons.mpr ⟨toX4_init_f22, (List.forall_mem_cons.mpr ⟨toX4_init_f25, (List.forall_mem_cons.mpr ⟨toX4_init_f28, (List.forall_mem_cons.mpr ⟨toX4_init_f31, (fun _ h => absurd h List.not_mem_nil)⟩)⟩)⟩)⟩)⟩)⟩), (fun _ h => absurd h List.not_mem_nil), (List.forall_mem_cons.mpr ⟨mw_156, (fun _ h => absurd h List.not_mem_nil)⟩)⟩
def wX4_init (Λ : hx_L) (μ : hx_M) (v0 : Nat) (K : hx_L → hx_M → Prop) : Prop := Λ.1 v0 = (0, 4) ∧ Λ.2.2 < hx_big ∧ ∀ L_3 : hx_L, L_3 = hx_push Λ (1, 16) → ∀ m_4 : hx_M, m_4 = (hx_z (hx_sI μ v0 0 0) Λ.2.2) → L_3.1 v0 = (0, 4) ∧ ∀ L_6 : hx_L, L_6 = hx_sR L_3 v0 1 Λ.2.2 → L_6.2.2 < hx_big ∧ ∀ L_8 : hx_L, L_8 = hx_push L_6 (1, 16) → ∀ m_9 : hx_M, m_9 = (hx_z m_4 L_6.2.2) → L_8.1 v0 = (0, 4) ∧ ∀ L_11 : hx_L, L_11 = hx_sR L_8 v0 2 L_6.2.2 → L_11.2.2 < hx_big ∧ ∀ L_13 : hx_L, L_13 = hx_push L_11 (1, 16) → ∀ m_14 : hx_M, m_14 = (hx_z m_9 L_11.2.2) → L_13.1 v0 = (0, 4) ∧ ∀ L_16 : hx_L, L_16 = hx_sR L_13 v0 3 L_11.2.2 → L_16.2.2 < hx_big ∧ ∀ L_18 : hx_L, L_18 = hx_push L_16 (1, 16) → ∀ m_19 : hx_M, m_19 = (hx_z m_14 L_16.2.2) → L_18.1 v0 = (0, 4) ∧ ∀ L_21 : hx_L, L_21 = hx_sR L_18 v0 4 L_16.2.2 → L_21.2.2 < hx_big ∧ ∀ L_23 : hx_L, L_23 = hx_push L_21 (1, 16) → ∀ m_24 : hx_M, m_24 = (hx_z m_19 L_21.2.2) → L_23.1 v0 = (0, 4) ∧ ∀ L_26 : hx_L, L_26 = hx_sR L_23 v0 5 L_21.2.2 → L_26.2.2 < hx_big ∧ ∀ L_28 : hx_L, L_28 = hx_push L_26 (1, 96) → ∀ m_29 : hx_M, m_29 = (hx_z m_24 L_26.2.2) → L_28.1 v0 = (0, 4) ∧ ∀ L_31 : hx_L, L_31 = hx_sR L_28 v0 6 L_26.2.2 → K L_31 m_29
set_option maxRecDepth 100000 in
set_option maxHeartbeats 4000000 in
theorem kX4_init {G : hx_GT} {KK : hx_KT} (hG : hx_K cX4_init 1 6 176 (none) TbX4 KK G) (hM : hx_KA cX4_init 6 176 TAX4_init G) (cA : hx_CA RX4 cX4_init 1 6 176 G) {Λ : hx_L}  {μ : hx_M} (v0 : Nat) {K : hx_L → hx_M → Prop} (hK : ∀ (Λ1 : hx_L) (m : hx_M), K Λ1 m → KK none Λ1 m) (hw : wX4_init Λ μ v0 K) : G Λ μ (0, 0) 0 [some (.ref v0)] [] := by
  unfold wX4_init at hw
  obtain ⟨o6_1, hw⟩ := hw
  obtain ⟨b2, hw⟩ := hw
  refine cl_aload_n hG (hx_dq tdX4_init_0 0 rfl) rfl (cl_oinit hM taX4_init_o3 (hx_dq tdX4_init_0 1 rfl) (Nat.le_of_ble_eq_true rfl) (cl_aload_n hG (hx_dq tdX4_init_0 2 rfl) rfl (cl_iconst hG 0 (hx_dq tdX4_init_0 3 rfl) iconst_0 (cl_putI hG fmX4_9 (hx_dq tdX4_init_0 4 rfl) o6_1 (cl_aload_n hG (hx_dq tdX4_init_0 5 rfl) rfl (cl_bipush hG 16 (hx_dq tdX4_init_0 6 rfl) bipush_16 (cl_newaI hM tn_16 (hx_dq tdX4_init_0 7 rfl) (by decide) (Nat.le_of_ble_eq_true rfl) (Nat.le_of_ble_eq_true rfl) (Nat.le_of_ble_eq_true rfl) b2 (cl_nmA (fun L_3 e_3 => ?_)))))))))
  replace hw := hw L_3 e_3
  refine cl_nmM (fun m_4 e_4 => ?_)
  replace hw := hw m_4 e_4
  obtain ⟨o14_5, hw⟩ := hw
  refine cl_putFR hM taX4_init_f15 (hx_dq tdX4_init_0 8 rfl) o14_5 (cl_nmA (fun L_6 e_6 => ?_))
  replace hw := hw L_6 e_6
  obtain ⟨b7, hw⟩ := hw
  refine cl_aload_n hG (hx_dq tdX4_init_0 9 rfl) rfl (cl_bipush hG 16 (hx_dq tdX4_init_0 10 rfl) bipush_16 (cl_newaI hM tn_16 (hx_dq tdX4_init_0 11 rfl) (by decide) (Nat.le_of_ble_eq_true rfl) (Nat.le_of_ble_eq_true rfl) (Nat.le_of_ble_eq_true rfl) b7 (cl_nmA (fun L_8 e_8 => ?_))))
  replace hw := hw L_8 e_8
  refine cl_nmM (fun m_9 e_9 => ?_)
  replace hw := hw m_9 e_9
  obtain ⟨o22_10, hw⟩ := hw
  refine cl_putFR hM taX4_init_f19 (hx_dq tdX4_init_0 12 rfl) o22_10 (cl_nmA (fun L_11 e_11 => ?_))
  replace hw := hw L_11 e_11
  obtain ⟨b12, hw⟩ := hw
  refine cl_aload_n hG (hx_dq tdX4_init_0 13 rfl) rfl (cl_bipush hG 16 (hx_dq tdX4_init_0 14 rfl) bipush_16 (cl_newaI hM tn_16 (hx_dq tdX4_init_0 15 rfl) (by decide) (Nat.le_of_ble_eq_true rfl) (Nat.le_of_ble_eq_true rfl) (Nat.le_of_ble_eq_true rfl) b12 (cl_nmA (fun L_13 e_13 => ?_))))
  replace hw := hw L_13 e_13
  refine cl_nmM (fun m_14 e_14 => ?_)
  replace hw := hw m_14 e_14
  obtain ⟨o30_15, hw⟩ := hw
  refine cl_putFR hM taX4_init_f22 (hx_dq tdX4_init_0 16 rfl) o30_15 (cl_nmA (fun L_16 e_16 => ?_))
  replace hw := hw L_16 e_16
  obtain ⟨b17, hw⟩ := hw
  refine cl_aload_n hG (hx_dq tdX4_init_0 17 rfl) rfl (cl_bipush hG 16 (hx_dq tdX4_init_0 18 rfl) bipush_16 (cl_newaI hM tn_16 (hx_dq tdX4_init_0 19 rfl) (by decide) (Nat.le_of_ble_eq_true rfl) (Nat.le_of_ble_eq_true rfl) (Nat.le_of_ble_eq_true rfl) b17 (cl_nmA (fun L_18 e_18 => ?_))))
  replace hw := hw L_18 e_18
  refine cl_nmM (fun m_19 e_19 => ?_)
  replace hw := hw m_19 e_19
  obtain ⟨o38_20, hw⟩ := hw
  refine cl_putFR hM taX4_init_f25 (hx_dq tdX4_init_0 20 rfl) o38_20 (cl_nmA (fun L_21 e_21 => ?_))
  replace hw := hw L_21 e_21
  obtain ⟨b22, hw⟩ := hw
  refine cl_aload_n hG (hx_dq tdX4_init_0 21 rfl) rfl (cl_bipush hG 16 (hx_dq tdX4_init_0 22 rfl) bipush_16 (cl_newaI hM tn_16 (hx_dq tdX4_init_0 23 rfl) (by decide) (Nat.le_of_ble_eq_true rfl) (Nat.le_of_ble_eq_true rfl) (Nat.le_of_ble_eq_true rfl) b22 (cl_nmA (fun L_23 e_23 => ?_))))
  replace hw := hw L_23 e_23
  refine cl_nmM (fun m_24 e_24 => ?_)
  replace hw := hw m_24 e_24
  obtain ⟨o46_25, hw⟩ := hw
  refine cl_putFR hM taX4_init_f28 (hx_dq tdX4_init_0 24 rfl) o46_25 (cl_nmA (fun L_26 e_26 => ?_))
  replace hw := hw L_26 e_26
  obtain ⟨b27, hw⟩ := hw
  refine cl_aload_n hG (hx_dq tdX4_init_0 25 rfl) rfl (cl_bipush hG 96 (hx_dq tdX4_init_0 26 rfl) bipush_96 (cl_newaI hM tn_96 (hx_dq tdX4_init_0 27 rfl) (by decide) (Nat.le_of_ble_eq_true rfl) (Nat.le_of_ble_eq_true rfl) (Nat.le_of_ble_eq_true rfl) b27 (cl_nmA (fun L_28 e_28 => ?_))))
  replace hw := hw L_28 e_28
  refine cl_nmM (fun m_29 e_29 => ?_)
  replace hw := hw m_29 e_29
  obtain ⟨o54_30, hw⟩ := hw
  refine cl_putFR hM taX4_init_f31 (hx_dq tdX4_init_0 28 rfl) o54_30 (cl_nmA (fun L_31 e_31 => ?_))
  replace hw := hw L_31 e_31
  exact cl_vret hG (hx_dq tdX4_init_0 29 rfl) rfl (hK _ _ hw) (Nat.le_of_ble_eq_true rfl) (Nat.le_of_ble_eq_true rfl)
def sX4_init : hx_ST := fun Λ μ as KK => ∃ (v0 : Nat) (K : hx_L → hx_M → Prop), as = [.ref v0] ∧ wX4_init Λ μ v0 K ∧ (∀ (Λ1 : hx_L) (m : hx_M), K Λ1 m → KK none Λ1 m)
theorem sX4_init_mk {Λ : hx_L} {μ : hx_M} {KK : hx_KT} {v0 : Nat} {K : hx_L → hx_M → Prop}  (hw : wX4_init Λ μ v0 K) (hk : ∀ (Λ1 : hx_L) (m : hx_M), K Λ1 m → KK none Λ1 m) : sX4_init Λ μ [.ref v0] KK := ⟨_, _, rfl, hw, hk⟩
theorem conX4_init : hx_Con yX4_init cX4_init 1 (none) 1 6 176 sX4_init := by
  refine hx_con_ofA (by decide +kernel) tokX4 taokX4_init (Or.inr rfl) (by decide) ?_ ?_
  · intro Λ μ as KK h
    obtain ⟨v0, K, rfl, hw, hK⟩ := h
    exact Nat.le_of_ble_eq_true rfl
  · intro G KK hG hM cA Λ μ as h
    obtain ⟨v0, K, rfl, hw, hK⟩ := h
    exact cl_sub hG (hx_le_c rfl hx_le_0) (kX4_init hG hM cA _ hK hw)
/-! HemLine$People.isEmpty()Z -/
def tbX4_isEmpty_0 : List (Nat × Instr × Nat) := [(0, .aload_n 0, 1), (1, .getfield 9, 3), (4, .ifCond .ne 7, 3), (7, .iconst 1, 1), (8, .goto 4, 3), (11, .iconst 0, 1), (12, .ireturn, 1)]
theorem tdX4_isEmpty_0 : hx_dt cX4_isEmpty tbX4_isEmpty_0 = true := by decide +kernel
def wX4_isEmpty (μ : hx_M)  (K : Int32 → Prop) : Prop := ((μ.1 8 0) ≠ 0 → (K 0)) ∧ ((μ.1 8 0) = 0 → (K 1))
set_option maxRecDepth 100000 in
set_option maxHeartbeats 4000000 in
theorem kX4_isEmpty {G : hx_GT} {KK : hx_KT} (hG : hx_K cX4_isEmpty 1 0 0 (some .boolean) TbX4 KK G) (cA : hx_CA RX4 cX4_isEmpty 1 0 0 G) {Λ : hx_L} (hF : cF Λ) {μ : hx_M}  {K : Int32 → Prop} (hK : ∀ (r : Int32), K r → KK (some (.int r)) Λ μ) (hw : wX4_isEmpty μ K) : G Λ μ (0, 0) 0 [some (.ref 8)] [] := by
  unfold wX4_isEmpty at hw
  refine cl_aload_n hG (hx_dq tdX4_isEmpty_0 0 rfl) rfl (cl_getI hG fmX4_9 (hx_dq tdX4_isEmpty_0 1 rfl) (cF_S8 hF) (cl_if_ne hG 11 (hx_dq tdX4_isEmpty_0 2 rfl) rfl (fun c4 => ?_) (fun c4 => ?_)))
  · replace hw := hw.1 c4
    exact cl_iconst hG 0 (hx_dq tdX4_isEmpty_0 5 rfl) iconst_0 (cl_iret hG (hx_dq tdX4_isEmpty_0 6 rfl) rfl rfl (hK _ hw) (Nat.le_refl _) (Nat.le_refl _))
  · replace hw := hw.2 c4
    exact cl_iconst hG 1 (hx_dq tdX4_isEmpty_0 3 rfl) iconst_1 (cl_goto hG 12 (hx_dq tdX4_isEmpty_0 4 rfl) rfl (cl_iret hG (hx_dq tdX4_isEmpty_0 6 rfl) rfl rfl (hK _ hw) (Nat.le_refl _) (Nat.le_refl _)))
def sX4_isEmpty : hx_ST := fun Λ μ as KK => cF Λ ∧ ∃ (K : Int32 → Prop), as = [.ref 8] ∧ wX4_isEmpty μ K ∧ (∀ (r : Int32), K r → KK (some (.int r)) Λ μ)
theorem sX4_isEmpty_mk {Λ : hx_L} {μ : hx_M} {KK : hx_KT}  {K : Int32 → Prop} (hF : cF Λ) (hw : wX4_isEmpty μ K) (hk : ∀ (r : Int32), K r → KK (some (.int r)) Λ μ) : sX4_isEmpty Λ μ [.ref 8] KK := ⟨hF, _, rfl, hw, hk⟩
theorem conX4_isEmpty : hx_Con yX4_isEmpty cX4_isEmpty 1 (some .boolean) 1 0 0 sX4_isEmpty := by
  refine hx_con_of (by decide +kernel) tokX4 (by decide) ?_ ?_
  · intro Λ μ as KK h
    obtain ⟨hF, K, rfl, hw, hK⟩ := h
    exact Nat.le_of_ble_eq_true rfl
  · intro G KK hG cA Λ μ as h
    obtain ⟨hF, K, rfl, hw, hK⟩ := h
    exact cl_sub hG (hx_le_c rfl hx_le_0) (kX4_isEmpty hG cA hF hK hw)
/-! HemLine$People.has(I)Z -/
def tbX4_has_0 : List (Nat × Instr × Nat) := [(0, .iload_n 1, 1), (1, .iconst 0, 1), (2, .aload_n 0, 1), (3, .getfield 9, 3), (6, .iconst 1, 1), (7, .isub, 1), (8, .invokestatic 34, 3), (11, .ireturn, 1)]
theorem tdX4_has_0 : hx_dt cX4_has tbX4_has_0 = true := by decide +kernel
theorem caX4_has_34 {G : hx_GT} (cA : hx_CA RX4 cX4_has 2 0 0 G) : hx_CS cX4_has G 0 0 34 3 sX11_within 0 0 := cA.2.2.1 conX11_within ⟨by decide +kernel, by decide +kernel, by decide +kernel⟩ mw_492 mw_478 mw_84 mw_479 (by decide) (by decide)
def wX4_has (μ : hx_M) (v1 : Int32) (K : Int32 → Prop) : Prop := wX11_within v1 0 ((μ.1 8 0) - 1) (fun r8_2 => (r8_2 = 0 ∨ r8_2 = 1) ∧ K r8_2)
set_option maxRecDepth 100000 in
set_option maxHeartbeats 4000000 in
theorem kX4_has {G : hx_GT} {KK : hx_KT} (hG : hx_K cX4_has 2 0 0 (some .boolean) TbX4 KK G) (cA : hx_CA RX4 cX4_has 2 0 0 G) {Λ : hx_L} (hF : cF Λ) {μ : hx_M} (v1 : Int32) {K : Int32 → Prop} (hK : ∀ (r : Int32), K r → KK (some (.int r)) Λ μ) (hw : wX4_has μ v1 K) : G Λ μ (0, 0) 0 [some (.ref 8), some (.int v1)] [] := by
  unfold wX4_has at hw
  refine cl_iload_n hG (hx_dq tdX4_has_0 0 rfl) rfl (cl_iconst hG 0 (hx_dq tdX4_has_0 1 rfl) iconst_0 (cl_aload_n hG (hx_dq tdX4_has_0 2 rfl) rfl (cl_getI hG fmX4_9 (hx_dq tdX4_has_0 3 rfl) (cF_S8 hF) (cl_iconst hG 1 (hx_dq tdX4_has_0 4 rfl) iconst_1 (cl_isub hG (hx_dq tdX4_has_0 5 rfl) (cl_callS3 (caX4_has_34 cA) (hx_dq tdX4_has_0 6 rfl) (Nat.le_of_ble_eq_true rfl) (Nat.le_refl _) (Nat.le_refl _) (sX11_within_mk hw (fun r8_2 hw => ?_))))))))
  obtain ⟨b11, hw⟩ := hw
  exact cl_iret hG (hx_dq tdX4_has_0 7 rfl) rfl (hx_nb b11) (hK _ hw) (Nat.le_refl _) (Nat.le_refl _)
def sX4_has : hx_ST := fun Λ μ as KK => cF Λ ∧ ∃ (v1 : Int32) (K : Int32 → Prop), as = [.ref 8, .int v1] ∧ wX4_has μ v1 K ∧ (∀ (r : Int32), K r → KK (some (.int r)) Λ μ)
theorem sX4_has_mk {Λ : hx_L} {μ : hx_M} {KK : hx_KT} {v1 : Int32} {K : Int32 → Prop} (hF : cF Λ) (hw : wX4_has μ v1 K) (hk : ∀ (r : Int32), K r → KK (some (.int r)) Λ μ) : sX4_has Λ μ [.ref 8, .int v1] KK := ⟨hF, _, _, rfl, hw, hk⟩
theorem conX4_has : hx_Con yX4_has cX4_has 2 (some .boolean) 2 0 0 sX4_has := by
  refine hx_con_of (by decide +kernel) tokX4 (by decide) ?_ ?_
  · intro Λ μ as KK h
    obtain ⟨hF, v1, K, rfl, hw, hK⟩ := h
    exact Nat.le_of_ble_eq_true rfl
  · intro G KK hG cA Λ μ as h
    obtain ⟨hF, v1, K, rfl, hw, hK⟩ := h
    exact cl_sub hG (hx_le_c rfl (hx_le_c rfl hx_le_0)) (kX4_has hG cA hF _ hK hw)
/-! HemLine$People.join(II)I -/
def tbX4_join_0 : List (Nat × Instr × Nat) := [(0, .aload_n 0, 1), (1, .getfield 9, 3), (4, .bipush 16, 2), (6, .if_icmp .lt 5, 3), (9, .iconst (-1), 1), (10, .ireturn, 1), (11, .aload_n 0, 1), (12, .getfield 9, 3), (15, .istore_n 3, 1), (16, .aload_n 0, 1), (17, .dup, 1), (18, .getfield 9, 3), (21, .iconst 1, 1), (22, .iadd, 1), (23, .putfield 9, 3), (26, .aload_n 0, 1), (27, .getfield 15, 3), (30, .iload_n 3, 1), (31, .iload_n 1, 1), (32, .iastore, 1), (33, .aload_n 0, 1), (34, .getfield 19, 3), (37, .iload_n 3, 1), (38, .iload_n 2, 1), (39, .iastore, 1), (40, .aload_n 0, 1), (41, .getfield 22, 3), (44, .iload_n 3, 1), (45, .iconst 0, 1), (46, .iastore, 1), (47, .aload_n 0, 1), (48, .getfield 25, 3)]
def tbX4_join_1 : List (Nat × Instr × Nat) := [(51, .iload_n 3, 1), (52, .iconst 0, 1), (53, .iastore, 1), (54, .aload_n 0, 1), (55, .getfield 28, 3), (58, .iload_n 3, 1), (59, .iconst 0, 1), (60, .iastore, 1), (61, .iconst 0, 1), (62, .istore 4, 2), (64, .iload 4, 2), (66, .bipush 6, 2), (68, .if_icmp .ge 22, 3), (71, .aload_n 0, 1), (72, .getfield 31, 3), (75, .iload_n 3, 1), (76, .bipush 6, 2), (78, .imul, 1), (79, .iload 4, 2), (81, .iadd, 1), (82, .iconst 0, 1), (83, .iastore, 1), (84, .iinc 4 1, 3), (87, .goto (-23), 3), (90, .iload_n 3, 1), (91, .ireturn, 1)]
theorem tdX4_join_0 : hx_dt cX4_join tbX4_join_0 = true := by decide +kernel
theorem tdX4_join_1 : hx_dt cX4_join tbX4_join_1 = true := by decide +kernel
def wX4_join_L64 (v3 : Int32) (K : Int32 → hx_M → Prop)  : Nat → Int32 → hx_M → Prop
  | 0, _, _ => False
  | n + 1, v4, μ => (6 ≤ v4 → (K v3 μ)) ∧ (¬ (6 ≤ v4) → (vp_in ((v3 * 6) + v4) 96 ∧ wX4_join_L64 v3 K n (v4 + 1) (hx_sI μ 14 (((v3 * 6) + v4).toNatClampNeg) 0)))
set_option maxRecDepth 100000 in
set_option maxHeartbeats 4000000 in
theorem kX4_join_L64 {G : hx_GT} {KK : hx_KT} (hG : hx_K cX4_join 5 0 0 (some .int) TbX4 KK G) (cA : hx_CA RX4 cX4_join 1 0 0 G) {Λ : hx_L} (hF : cF Λ)  (v3 : Int32) {K : Int32 → hx_M → Prop} (hK : ∀ (r : Int32) (m : hx_M), K r m → KK (some (.int r)) Λ m)  : ∀ (n : Nat) (v4 : Int32) (μ : hx_M), wX4_join_L64 v3 K n v4 μ → G Λ μ (0, 0) 64 [some (.ref 8), none, none, some (.int v3), some (.int v4)] [] := by
  intro n
  induction n with
  | zero =>
    intro v4 μ hw
    exact False.elim (by simpa only [wX4_join_L64] using hw)
  | succ n ih =>
    intro v4 μ hw
    unfold wX4_join_L64 at hw
    refine cl_iload hG (hx_dq tdX4_join_1 10 rfl) rfl (cl_bipush hG 6 (hx_dq tdX4_join_1 11 rfl) bipush_6 (cl_icmp_ge hG 90 (hx_dq tdX4_join_1 12 rfl) rfl (fun c68 => ?_) (fun c68 => ?_)))
    · replace hw := hw.1 c68
      exact cl_iload_n hG (hx_dq tdX4_join_1 24 rfl) rfl (cl_iret hG (hx_dq tdX4_join_1 25 rfl) rfl rfl (hK _ _ hw) (Nat.le_refl _) (Nat.le_refl _))
    · replace hw := hw.2 c68
      obtain ⟨i83_7, hw⟩ := hw
      exact cl_aload_n hG (hx_dq tdX4_join_1 13 rfl) rfl (cl_getS hG fmX4_31 (hx_dq tdX4_join_1 14 rfl) (cF_S8 hF) (cF_R8_6 hF) (cl_iload_n hG (hx_dq tdX4_join_1 15 rfl) rfl (cl_bipush hG 6 (hx_dq tdX4_join_1 16 rfl) bipush_6 (cl_imul hG (hx_dq tdX4_join_1 17 rfl) (cl_iload hG (hx_dq tdX4_join_1 18 rfl) rfl (cl_iadd hG (hx_dq tdX4_join_1 19 rfl) (cl_iconst hG 0 (hx_dq tdX4_join_1 20 rfl) iconst_0 (cl_iast hG (hx_dq tdX4_join_1 21 rfl) (cF_S14 hF) i83_7 (cl_iinc hG (v4 + 1) (hx_dq tdX4_join_1 22 rfl) rfl (congrArg (fun z => v4 + z) iconst_1) (Nat.le_of_ble_eq_true rfl) rfl (cl_goto hG 64 (hx_dq tdX4_join_1 23 rfl) rfl (cl_sub hG (hx_le_c rfl (hx_le_n (hx_le_n (hx_le_c rfl (hx_le_c rfl hx_le_0))))) (ih (v4 + 1) _ hw))))))))))))
def wX4_join (μ : hx_M) (v1 : Int32) (v2 : Int32) (K : Int32 → hx_M → Prop) : Prop := ((μ.1 8 0) < 16 → (vp_in (μ.1 8 0) 16 ∧ vp_in (μ.1 8 0) 16 ∧ vp_in (μ.1 8 0) 16 ∧ vp_in (μ.1 8 0) 16 ∧ ∀ m_5 : hx_M, m_5 = (hx_sI (hx_sI (hx_sI (hx_sI (hx_sI μ 8 0 ((μ.1 8 0) + 1)) 9 ((μ.1 8 0).toNatClampNeg) v1) 10 ((μ.1 8 0).toNatClampNeg) v2) 11 ((μ.1 8 0).toNatClampNeg) 0) 12 ((μ.1 8 0).toNatClampNeg) 0) → vp_in (μ.1 8 0) 16 ∧ ∃ n64_8, wX4_join_L64 (μ.1 8 0) K n64_8 0 (hx_sI m_5 13 ((μ.1 8 0).toNatClampNeg) 0))) ∧ (¬ ((μ.1 8 0) < 16) → (K (-1) μ))
set_option maxRecDepth 100000 in
set_option maxHeartbeats 4000000 in
theorem kX4_join {G : hx_GT} {KK : hx_KT} (hG : hx_K cX4_join 5 0 0 (some .int) TbX4 KK G) (cA : hx_CA RX4 cX4_join 1 0 0 G) {Λ : hx_L} (hF : cF Λ) {μ : hx_M} (v1 : Int32) (v2 : Int32) {K : Int32 → hx_M → Prop} (hK : ∀ (r : Int32) (m : hx_M), K r m → KK (some (.int r)) Λ m) (hw : wX4_join μ v1 v2 K) : G Λ μ (0, 0) 0 [some (.ref 8), some (.int v1), some (.int v2), none, none] [] := by
  unfold wX4_join at hw
  refine cl_aload_n hG (hx_dq tdX4_join_0 0 rfl) rfl (cl_getI hG fmX4_9 (hx_dq tdX4_join_0 1 rfl) (cF_S8 hF) (cl_bipush hG 16 (hx_dq tdX4_join_0 2 rfl) bipush_16 (cl_icmp_lt hG 11 (hx_dq tdX4_join_0 3 rfl) rfl (fun c6 => ?_) (fun c6 => ?_))))
  · replace hw := hw.1 c6
    obtain ⟨i32_1, hw⟩ := hw
    obtain ⟨i39_2, hw⟩ := hw
    obtain ⟨i46_3, hw⟩ := hw
    obtain ⟨i53_4, hw⟩ := hw
    refine cl_aload_n hG (hx_dq tdX4_join_0 6 rfl) rfl (cl_getI hG fmX4_9 (hx_dq tdX4_join_0 7 rfl) (cF_S8 hF) (cl_istore_n hG (hx_dq tdX4_join_0 8 rfl) (Nat.le_of_ble_eq_true rfl) rfl (cl_aload_n hG (hx_dq tdX4_join_0 9 rfl) rfl (cl_dup hG (hx_dq tdX4_join_0 10 rfl) rfl (cl_getI hG fmX4_9 (hx_dq tdX4_join_0 11 rfl) (cF_S8 hF) (cl_iconst hG 1 (hx_dq tdX4_join_0 12 rfl) iconst_1 (cl_iadd hG (hx_dq tdX4_join_0 13 rfl) (cl_putI hG fmX4_9 (hx_dq tdX4_join_0 14 rfl) (cF_S8 hF) (cl_aload_n hG (hx_dq tdX4_join_0 15 rfl) rfl (cl_getS hG fmX4_15 (hx_dq tdX4_join_0 16 rfl) (cF_S8 hF) (cF_R8_1 hF) (cl_iload_n hG (hx_dq tdX4_join_0 17 rfl) rfl (cl_iload_n hG (hx_dq tdX4_join_0 18 rfl) rfl (cl_iast hG (hx_dq tdX4_join_0 19 rfl) (cF_S9 hF) i32_1 (cl_aload_n hG (hx_dq tdX4_join_0 20 rfl) rfl (cl_getS hG fmX4_19 (hx_dq tdX4_join_0 21 rfl) (cF_S8 hF) (cF_R8_2 hF) (cl_iload_n hG (hx_dq tdX4_join_0 22 rfl) rfl (cl_iload_n hG (hx_dq tdX4_join_0 23 rfl) rfl (cl_iast hG (hx_dq tdX4_join_0 24 rfl) (cF_S10 hF) i39_2 (cl_aload_n hG (hx_dq tdX4_join_0 25 rfl) rfl (cl_getS hG fmX4_22 (hx_dq tdX4_join_0 26 rfl) (cF_S8 hF) (cF_R8_3 hF) (cl_iload_n hG (hx_dq tdX4_join_0 27 rfl) rfl (cl_iconst hG 0 (hx_dq tdX4_join_0 28 rfl) iconst_0 (cl_iast hG (hx_dq tdX4_join_0 29 rfl) (cF_S11 hF) i46_3 (cl_aload_n hG (hx_dq tdX4_join_0 30 rfl) rfl (cl_getS hG fmX4_25 (hx_dq tdX4_join_0 31 rfl) (cF_S8 hF) (cF_R8_4 hF) (cl_iload_n hG (hx_dq tdX4_join_1 0 rfl) rfl (cl_iconst hG 0 (hx_dq tdX4_join_1 1 rfl) iconst_0 (cl_iast hG (hx_dq tdX4_join_1 2 rfl) (cF_S12 hF) i53_4 (cl_nmM (fun m_5 e_5 => ?_))))))))))))))))))))))))))))))
    replace hw := hw m_5 e_5
    obtain ⟨i60_6, hw⟩ := hw
    refine cl_aload_n hG (hx_dq tdX4_join_1 3 rfl) rfl (cl_getS hG fmX4_28 (hx_dq tdX4_join_1 4 rfl) (cF_S8 hF) (cF_R8_5 hF) (cl_iload_n hG (hx_dq tdX4_join_1 5 rfl) rfl (cl_iconst hG 0 (hx_dq tdX4_join_1 6 rfl) iconst_0 (cl_iast hG (hx_dq tdX4_join_1 7 rfl) (cF_S13 hF) i60_6 (cl_iconst hG 0 (hx_dq tdX4_join_1 8 rfl) iconst_0 (cl_istore hG (hx_dq tdX4_join_1 9 rfl) (Nat.le_of_ble_eq_true rfl) rfl ?_))))))
    obtain ⟨n_, hw⟩ := hw
    refine cl_sub hG (hx_le_c rfl (hx_le_n (hx_le_n (hx_le_c rfl (hx_le_c rfl hx_le_0))))) (kX4_join_L64 hG cA hF (μ.1 8 0) hK n_ 0 _ hw)
  · replace hw := hw.2 c6
    exact cl_iconst hG (-1) (hx_dq tdX4_join_0 4 rfl) iconst_m1 (cl_iret hG (hx_dq tdX4_join_0 5 rfl) rfl rfl (hK _ _ hw) (Nat.le_refl _) (Nat.le_refl _))
def sX4_join : hx_ST := fun Λ μ as KK => cF Λ ∧ ∃ (v1 : Int32) (v2 : Int32) (K : Int32 → hx_M → Prop), as = [.ref 8, .int v1, .int v2] ∧ wX4_join μ v1 v2 K ∧ (∀ (r : Int32) (m : hx_M), K r m → KK (some (.int r)) Λ m)
theorem sX4_join_mk {Λ : hx_L} {μ : hx_M} {KK : hx_KT} {v1 : Int32} {v2 : Int32} {K : Int32 → hx_M → Prop} (hF : cF Λ) (hw : wX4_join μ v1 v2 K) (hk : ∀ (r : Int32) (m : hx_M), K r m → KK (some (.int r)) Λ m) : sX4_join Λ μ [.ref 8, .int v1, .int v2] KK := ⟨hF, _, _, _, rfl, hw, hk⟩
theorem conX4_join : hx_Con yX4_join cX4_join 5 (some .int) 1 0 0 sX4_join := by
  refine hx_con_of (by decide +kernel) tokX4 (by decide) ?_ ?_
  · intro Λ μ as KK h
    obtain ⟨hF, v1, v2, K, rfl, hw, hK⟩ := h
    exact Nat.le_of_ble_eq_true rfl
  · intro G KK hG cA Λ μ as h
    obtain ⟨hF, v1, v2, K, rfl, hw, hK⟩ := h
    exact cl_sub hG (hx_le_c rfl (hx_le_c rfl (hx_le_c rfl (hx_le_n (hx_le_n hx_le_0))))) (kX4_join hG cA hF _ _ hK hw)
/-! HemLine$People.tell(II)V -/
def tbX4_tell_0 : List (Nat × Instr × Nat) := [(0, .aload_n 0, 1), (1, .getfield 31, 3), (4, .iload_n 1, 1), (5, .bipush 6, 2), (7, .imul, 1), (8, .iload_n 2, 1), (9, .iadd, 1), (10, .bipush 10, 2), (12, .isub, 1), (13, .dup2, 1), (14, .iaload, 1), (15, .iconst 1, 1), (16, .iadd, 1), (17, .iastore, 1), (18, .return_, 1)]
theorem tdX4_tell_0 : hx_dt cX4_tell tbX4_tell_0 = true := by decide +kernel
def wX4_tell (μ : hx_M) (v1 : Int32) (v2 : Int32) (K : hx_M → Prop) : Prop := vp_in (((v1 * 6) + v2) - 10) 96 ∧ ∀ x_2 : Int32, x_2 = ((μ.1 14 ((((v1 * 6) + v2) - 10).toNatClampNeg))) → vp_in (((v1 * 6) + v2) - 10) 96 ∧ K (hx_sI μ 14 ((((v1 * 6) + v2) - 10).toNatClampNeg) (x_2 + 1))
set_option maxRecDepth 100000 in
set_option maxHeartbeats 4000000 in
theorem kX4_tell {G : hx_GT} {KK : hx_KT} (hG : hx_K cX4_tell 3 0 0 (none) TbX4 KK G) (cA : hx_CA RX4 cX4_tell 1 0 0 G) {Λ : hx_L} (hF : cF Λ) {μ : hx_M} (v1 : Int32) (v2 : Int32) {K : hx_M → Prop} (hK : ∀ (m : hx_M), K m → KK none Λ m) (hw : wX4_tell μ v1 v2 K) : G Λ μ (0, 0) 0 [some (.ref 8), some (.int v1), some (.int v2)] [] := by
  unfold wX4_tell at hw
  obtain ⟨i14_1, hw⟩ := hw
  refine cl_aload_n hG (hx_dq tdX4_tell_0 0 rfl) rfl (cl_getS hG fmX4_31 (hx_dq tdX4_tell_0 1 rfl) (cF_S8 hF) (cF_R8_6 hF) (cl_iload_n hG (hx_dq tdX4_tell_0 2 rfl) rfl (cl_bipush hG 6 (hx_dq tdX4_tell_0 3 rfl) bipush_6 (cl_imul hG (hx_dq tdX4_tell_0 4 rfl) (cl_iload_n hG (hx_dq tdX4_tell_0 5 rfl) rfl (cl_iadd hG (hx_dq tdX4_tell_0 6 rfl) (cl_bipush hG 10 (hx_dq tdX4_tell_0 7 rfl) bipush_10 (cl_isub hG (hx_dq tdX4_tell_0 8 rfl) (cl_dup2 hG (hx_dq tdX4_tell_0 9 rfl) rfl rfl (cl_iald hG (hx_dq tdX4_tell_0 10 rfl) (cF_S14 hF) i14_1 (cl_nmI (fun x_2 e_2 => ?_))))))))))))
  replace hw := hw x_2 e_2
  obtain ⟨i17_3, hw⟩ := hw
  exact cl_iconst hG 1 (hx_dq tdX4_tell_0 11 rfl) iconst_1 (cl_iadd hG (hx_dq tdX4_tell_0 12 rfl) (cl_iast hG (hx_dq tdX4_tell_0 13 rfl) (cF_S14 hF) i17_3 (cl_vret hG (hx_dq tdX4_tell_0 14 rfl) rfl (hK _ hw) (Nat.le_refl _) (Nat.le_refl _))))
def sX4_tell : hx_ST := fun Λ μ as KK => cF Λ ∧ ∃ (v1 : Int32) (v2 : Int32) (K : hx_M → Prop), as = [.ref 8, .int v1, .int v2] ∧ wX4_tell μ v1 v2 K ∧ (∀ (m : hx_M), K m → KK none Λ m)
theorem sX4_tell_mk {Λ : hx_L} {μ : hx_M} {KK : hx_KT} {v1 : Int32} {v2 : Int32} {K : hx_M → Prop} (hF : cF Λ) (hw : wX4_tell μ v1 v2 K) (hk : ∀ (m : hx_M), K m → KK none Λ m) : sX4_tell Λ μ [.ref 8, .int v1, .int v2] KK := ⟨hF, _, _, _, rfl, hw, hk⟩
theorem conX4_tell : hx_Con yX4_tell cX4_tell 3 (none) 1 0 0 sX4_tell := by
  refine hx_con_of (by decide +kernel) tokX4 (by decide) ?_ ?_
  · intro Λ μ as KK h
    obtain ⟨hF, v1, v2, K, rfl, hw, hK⟩ := h
    exact Nat.le_of_ble_eq_true rfl
  · intro G KK hG cA Λ μ as h
    obtain ⟨hF, v1, v2, K, rfl, hw, hK⟩ := h
    exact cl_sub hG (hx_le_c rfl (hx_le_c rfl (hx_le_c rfl hx_le_0))) (kX4_tell hG cA hF _ _ hK hw)
/-! HemLine$People.copyOf(LHemLine$People;)V -/
def tbX4_copyOf_0 : List (Nat × Instr × Nat) := [(0, .aload_n 0, 1), (1, .aload_n 1, 1), (2, .getfield 9, 3), (5, .putfield 9, 3), (8, .aload_n 1, 1), (9, .getfield 15, 3), (12, .iconst 0, 1), (13, .aload_n 0, 1), (14, .getfield 15, 3), (17, .iconst 0, 1), (18, .aload_n 0, 1), (19, .getfield 9, 3), (22, .invokestatic 38, 3), (25, .aload_n 1, 1), (26, .getfield 19, 3), (29, .iconst 0, 1), (30, .aload_n 0, 1), (31, .getfield 19, 3), (34, .iconst 0, 1), (35, .aload_n 0, 1), (36, .getfield 9, 3), (39, .invokestatic 38, 3), (42, .aload_n 1, 1), (43, .getfield 22, 3), (46, .iconst 0, 1), (47, .aload_n 0, 1), (48, .getfield 22, 3), (51, .iconst 0, 1), (52, .aload_n 0, 1), (53, .getfield 9, 3), (56, .invokestatic 38, 3), (59, .aload_n 1, 1)]
def tbX4_copyOf_1 : List (Nat × Instr × Nat) := [(60, .getfield 25, 3), (63, .iconst 0, 1), (64, .aload_n 0, 1), (65, .getfield 25, 3), (68, .iconst 0, 1), (69, .aload_n 0, 1), (70, .getfield 9, 3), (73, .invokestatic 38, 3), (76, .aload_n 1, 1), (77, .getfield 28, 3), (80, .iconst 0, 1), (81, .aload_n 0, 1), (82, .getfield 28, 3), (85, .iconst 0, 1), (86, .aload_n 0, 1), (87, .getfield 9, 3), (90, .invokestatic 38, 3), (93, .aload_n 1, 1), (94, .getfield 31, 3), (97, .iconst 0, 1), (98, .aload_n 0, 1), (99, .getfield 31, 3), (102, .iconst 0, 1), (103, .aload_n 0, 1), (104, .getfield 9, 3), (107, .bipush 6, 2), (109, .imul, 1), (110, .invokestatic 38, 3), (113, .return_, 1)]
theorem tdX4_copyOf_0 : hx_dt cX4_copyOf tbX4_copyOf_0 = true := by decide +kernel
theorem tdX4_copyOf_1 : hx_dt cX4_copyOf tbX4_copyOf_1 = true := by decide +kernel
set_option maxRecDepth 100000 in
def wX4_copyOf (Λ : hx_L) (μ : hx_M) (v0 : Nat) (v1 : Option Nat) (K : hx_M → Prop) : Prop := ∃ k2_1, v1 = some k2_1 ∧ Λ.1 k2_1 = (0, 4) ∧ Λ.1 v0 = (0, 4) ∧ ∃ k9_4, Λ.2.1 k2_1 1 = some k9_4 ∧ ∃ k14_5, Λ.2.1 v0 1 = some k14_5 ∧ ∃ n22_7, Λ.1 k9_4 = (1, n22_7) ∧ ∃ n22_9, Λ.1 k14_5 = (1, n22_9) ∧ ¬ (0 : Int32) < 0 ∧ ¬ (0 : Int32) < 0 ∧ ¬ (((hx_sI μ v0 0 (μ.1 k2_1 0)).1 v0 0) : Int32) < 0 ∧ (0 : Int32).toNatClampNeg + (((hx_sI μ v0 0 (μ.1 k2_1 0)).1 v0 0) : Int32).toNatClampNeg ≤ n22_7 ∧ (0 : Int32).toNatClampNeg + (((hx_sI μ v0 0 (μ.1 k2_1 0)).1 v0 0) : Int32).toNatClampNeg ≤ n22_9 ∧ ∀ m_11 : hx_M, m_11 = (hx_sA (hx_sI μ v0 0 (μ.1 k2_1 0)) k14_5 (va_cpy ((hx_sI μ v0 0 (μ.1 k2_1 0)).1 k9_4) ((hx_sI μ v0 0 (μ.1 k2_1 0)).1 k14_5) (0 : Int32).toNatClampNeg (0 : Int32).toNatClampNeg (((hx_sI μ v0 0 (μ.1 k2_1 0)).1 v0 0) : Int32).toNatClampNeg)) → ∃ k26_12, Λ.2.1 k2_1 2 = some k26_12 ∧ ∃ k31_13, Λ.2.1 v0 2 = some k31_13 ∧ ∃ n39_15, Λ.1 k26_12 = (1, n39_15) ∧ ∃ n39_17, Λ.1 k31_13 = (1, n39_17) ∧ ¬ (0 : Int32) < 0 ∧ ¬ (0 : Int32) < 0 ∧ ¬ ((m_11.1 v0 0) : Int32) < 0 ∧ (0 : Int32).toNatClampNeg + ((m_11.1 v0 0) : Int32).toNatClampNeg ≤ n39_15 ∧ (0 : Int32).toNatClampNeg + ((m_11.1 v0 0) : Int32).toNatClampNeg ≤ n39_17 ∧ ∀ m_19 : hx_M, m_19 = (hx_sA m_11 k31_13 (va_cpy (m_11.1 k26_12) (m_11.1 k31_13) (0 : Int32).toNatClampNeg (0 : Int32).toNatClampNeg ((m_11.1 v0 0) : Int32).toNatClampNeg)) → ∃ k43_20, Λ.2.1 k2_1 3 = some k43_20 ∧ ∃ k48_21, Λ.2.1 v0 3 = some k48_21 ∧ ∃ n56_23, Λ.1 k43_20 = (1, n56_23) ∧ ∃ n56_25, Λ.1 k48_21 = (1, n56_25) ∧ ¬ (0 : Int32) < 0 ∧ ¬ (0 : Int32) < 0 ∧ ¬ ((m_19.1 v0 0) : Int32) < 0 ∧ (0 : Int32).toNatClampNeg + ((m_19.1 v0 0) : Int32).toNatClampNeg ≤ n56_23 ∧ (0 : Int32).toNatClampNeg + ((m_19.1 v0 0) : Int32).toNatClampNeg ≤ n56_25 ∧ ∀ m_27 : hx_M, m_27 = (hx_sA m_19 k48_21 (va_cpy (m_19.1 k43_20) (m_19.1 k48_21) (0 : Int32).toNatClampNeg (0 : Int32).toNatClampNeg ((m_19.1 v0 0) : Int32).toNatClampNeg)) → ∃ k60_28, Λ.2.1 k2_1 4 = some k60_28 ∧ ∃ k65_29, Λ.2.1 v0 4 = some k65_29 ∧ ∃ n73_31, Λ.1 k60_28 = (1, n73_31) ∧ ∃ n73_33, Λ.1 k65_29 = (1, n73_33) ∧ ¬ (0 : Int32) < 0 ∧ ¬ (0 : Int32) < 0 ∧ ¬ ((m_27.1 v0 0) : Int32) < 0 ∧ (0 : Int32).toNatClampNeg + ((m_27.1 v0 0) : Int32).toNatClampNeg ≤ n73_31 ∧ (0 : Int32).toNatClampNeg + ((m_27.1 v0 0) : Int32).toNatClampNeg ≤ n73_33 ∧ ∀ m_35 : hx_M, m_35 = (hx_sA m_27 k65_29 (va_cpy (m_27.1 k60_28) (m_27.1 k65_29) (0 : Int32).toNatClampNeg (0 : Int32).toNatClampNeg ((m_27.1 v0 0) : Int32).toNatClampNeg)) → ∃ k77_36, Λ.2.1 k2_1 5 = some k77_36 ∧ ∃ k82_37, Λ.2.1 v0 5 = some k82_37 ∧ ∃ n90_39, Λ.1 k77_36 = (1, n90_39) ∧ ∃ n90_41, Λ.1 k82_37 = (1, n90_41) ∧ ¬ (0 : Int32) < 0 ∧ ¬ (0 : Int32) < 0 ∧ ¬ ((m_35.1 v0 0) : Int32) < 0 ∧ (0 : Int32).toNatClampNeg + ((m_35.1 v0 0) : Int32).toNatClampNeg ≤ n90_39 ∧ (0 : Int32).toNatClampNeg + ((m_35.1 v0 0) : Int32).toNatClampNeg ≤ n90_41 ∧ ∀ m_43 : hx_M, m_43 = (hx_sA m_35 k82_37 (va_cpy (m_35.1 k77_36) (m_35.1 k82_37) (0 : Int32).toNatClampNeg (0 : Int32).toNatClampNeg ((m_35.1 v0 0) : Int32).toNatClampNeg)) → ∃ k94_44, Λ.2.1 k2_1 6 = some k94_44 ∧ ∃ k99_45, Λ.2.1 v0 6 = some k99_45 ∧ ∃ n110_47, Λ.1 k94_44 = (1, n110_47) ∧ ∃ n110_49, Λ.1 k99_45 = (1, n110_49) ∧ ¬ (0 : Int32) < 0 ∧ ¬ (0 : Int32) < 0 ∧ ¬ ((m_43.1 v0 0) * 6 : Int32) < 0 ∧ (0 : Int32).toNatClampNeg + ((m_43.1 v0 0) * 6 : Int32).toNatClampNeg ≤ n110_47 ∧ (0 : Int32).toNatClampNeg + ((m_43.1 v0 0) * 6 : Int32).toNatClampNeg ≤ n110_49 ∧ ∀ m_51 : hx_M, m_51 = (hx_sA m_43 k99_45 (va_cpy (m_43.1 k94_44) (m_43.1 k99_45) (0 : Int32).toNatClampNeg (0 : Int32).toNatClampNeg ((m_43.1 v0 0) * 6 : Int32).toNatClampNeg)) → K m_51
set_option maxRecDepth 100000 in
set_option maxHeartbeats 4000000 in
theorem kX4_copyOf {G : hx_GT} {KK : hx_KT} (hG : hx_K cX4_copyOf 2 0 0 (none) TbX4 KK G) (cA : hx_CA RX4 cX4_copyOf 1 0 0 G) {Λ : hx_L}  {μ : hx_M} (v0 : Nat) (v1 : Option Nat) {K : hx_M → Prop} (hK : ∀ (m : hx_M), K m → KK none Λ m) (hw : wX4_copyOf Λ μ v0 v1 K) : G Λ μ (0, 0) 0 [some (.ref v0), some (va_rf v1)] [] := by
  unfold wX4_copyOf at hw
  obtain ⟨k2_1, zk2_1, hw⟩ := hw
  obtain ⟨o2_2, hw⟩ := hw
  obtain ⟨o5_3, hw⟩ := hw
  obtain ⟨k9_4, zk9_4, hw⟩ := hw
  obtain ⟨k14_5, zk14_5, hw⟩ := hw
  obtain ⟨n22_7, o22_6, hw⟩ := hw
  obtain ⟨n22_9, o22_8, hw⟩ := hw
  obtain ⟨g22_10_0, g22_10_1, g22_10_2, g22_10_3, g22_10_4, hw⟩ := hw
  refine cl_aload_n hG (hx_dq tdX4_copyOf_0 0 rfl) rfl (cl_aload_nQ hG (hx_dq tdX4_copyOf_0 1 rfl) rfl (cl_nn zk2_1 (cl_getI hG fmX4_9 (hx_dq tdX4_copyOf_0 2 rfl) o2_2 (cl_putI hG fmX4_9 (hx_dq tdX4_copyOf_0 3 rfl) o5_3 (cl_aload_nQ hG (hx_dq tdX4_copyOf_0 4 rfl) rfl (cl_nn zk2_1 (cl_getS hG fmX4_15 (hx_dq tdX4_copyOf_0 5 rfl) o2_2 zk9_4 (cl_iconst hG 0 (hx_dq tdX4_copyOf_0 6 rfl) iconst_0 (cl_aload_n hG (hx_dq tdX4_copyOf_0 7 rfl) rfl (cl_getS hG fmX4_15 (hx_dq tdX4_copyOf_0 8 rfl) o5_3 zk14_5 (cl_iconst hG 0 (hx_dq tdX4_copyOf_0 9 rfl) iconst_0 (cl_aload_n hG (hx_dq tdX4_copyOf_0 10 rfl) rfl (cl_getI hG fmX4_9 (hx_dq tdX4_copyOf_0 11 rfl) o5_3 (cl_copy hG mmX4_38 (hx_dq tdX4_copyOf_0 12 rfl) (Nat.le_refl _) (Nat.le_refl _) (Nat.le_of_ble_eq_true rfl) o22_6 o22_8 g22_10_0 g22_10_1 g22_10_2 g22_10_3 g22_10_4 (cl_nmM (fun m_11 e_11 => ?_))))))))))))))))
  replace hw := hw m_11 e_11
  obtain ⟨k26_12, zk26_12, hw⟩ := hw
  obtain ⟨k31_13, zk31_13, hw⟩ := hw
  obtain ⟨n39_15, o39_14, hw⟩ := hw
  obtain ⟨n39_17, o39_16, hw⟩ := hw
  obtain ⟨g39_18_0, g39_18_1, g39_18_2, g39_18_3, g39_18_4, hw⟩ := hw
  refine cl_aload_nQ hG (hx_dq tdX4_copyOf_0 13 rfl) rfl (cl_nn zk2_1 (cl_getS hG fmX4_19 (hx_dq tdX4_copyOf_0 14 rfl) o2_2 zk26_12 (cl_iconst hG 0 (hx_dq tdX4_copyOf_0 15 rfl) iconst_0 (cl_aload_n hG (hx_dq tdX4_copyOf_0 16 rfl) rfl (cl_getS hG fmX4_19 (hx_dq tdX4_copyOf_0 17 rfl) o5_3 zk31_13 (cl_iconst hG 0 (hx_dq tdX4_copyOf_0 18 rfl) iconst_0 (cl_aload_n hG (hx_dq tdX4_copyOf_0 19 rfl) rfl (cl_getI hG fmX4_9 (hx_dq tdX4_copyOf_0 20 rfl) o5_3 (cl_copy hG mmX4_38 (hx_dq tdX4_copyOf_0 21 rfl) (Nat.le_refl _) (Nat.le_refl _) (Nat.le_of_ble_eq_true rfl) o39_14 o39_16 g39_18_0 g39_18_1 g39_18_2 g39_18_3 g39_18_4 (cl_nmM (fun m_19 e_19 => ?_)))))))))))
  replace hw := hw m_19 e_19
  obtain ⟨k43_20, zk43_20, hw⟩ := hw
  obtain ⟨k48_21, zk48_21, hw⟩ := hw
  obtain ⟨n56_23, o56_22, hw⟩ := hw
  obtain ⟨n56_25, o56_24, hw⟩ := hw
  obtain ⟨g56_26_0, g56_26_1, g56_26_2, g56_26_3, g56_26_4, hw⟩ := hw
  refine cl_aload_nQ hG (hx_dq tdX4_copyOf_0 22 rfl) rfl (cl_nn zk2_1 (cl_getS hG fmX4_22 (hx_dq tdX4_copyOf_0 23 rfl) o2_2 zk43_20 (cl_iconst hG 0 (hx_dq tdX4_copyOf_0 24 rfl) iconst_0 (cl_aload_n hG (hx_dq tdX4_copyOf_0 25 rfl) rfl (cl_getS hG fmX4_22 (hx_dq tdX4_copyOf_0 26 rfl) o5_3 zk48_21 (cl_iconst hG 0 (hx_dq tdX4_copyOf_0 27 rfl) iconst_0 (cl_aload_n hG (hx_dq tdX4_copyOf_0 28 rfl) rfl (cl_getI hG fmX4_9 (hx_dq tdX4_copyOf_0 29 rfl) o5_3 (cl_copy hG mmX4_38 (hx_dq tdX4_copyOf_0 30 rfl) (Nat.le_refl _) (Nat.le_refl _) (Nat.le_of_ble_eq_true rfl) o56_22 o56_24 g56_26_0 g56_26_1 g56_26_2 g56_26_3 g56_26_4 (cl_nmM (fun m_27 e_27 => ?_)))))))))))
  replace hw := hw m_27 e_27
  obtain ⟨k60_28, zk60_28, hw⟩ := hw
  obtain ⟨k65_29, zk65_29, hw⟩ := hw
  obtain ⟨n73_31, o73_30, hw⟩ := hw
  obtain ⟨n73_33, o73_32, hw⟩ := hw
  obtain ⟨g73_34_0, g73_34_1, g73_34_2, g73_34_3, g73_34_4, hw⟩ := hw
  refine cl_aload_nQ hG (hx_dq tdX4_copyOf_0 31 rfl) rfl (cl_nn zk2_1 (cl_getS hG fmX4_25 (hx_dq tdX4_copyOf_1 0 rfl) o2_2 zk60_28 (cl_iconst hG 0 (hx_dq tdX4_copyOf_1 1 rfl) iconst_0 (cl_aload_n hG (hx_dq tdX4_copyOf_1 2 rfl) rfl (cl_getS hG fmX4_25 (hx_dq tdX4_copyOf_1 3 rfl) o5_3 zk65_29 (cl_iconst hG 0 (hx_dq tdX4_copyOf_1 4 rfl) iconst_0 (cl_aload_n hG (hx_dq tdX4_copyOf_1 5 rfl) rfl (cl_getI hG fmX4_9 (hx_dq tdX4_copyOf_1 6 rfl) o5_3 (cl_copy hG mmX4_38 (hx_dq tdX4_copyOf_1 7 rfl) (Nat.le_refl _) (Nat.le_refl _) (Nat.le_of_ble_eq_true rfl) o73_30 o73_32 g73_34_0 g73_34_1 g73_34_2 g73_34_3 g73_34_4 (cl_nmM (fun m_35 e_35 => ?_)))))))))))
  replace hw := hw m_35 e_35
  obtain ⟨k77_36, zk77_36, hw⟩ := hw
  obtain ⟨k82_37, zk82_37, hw⟩ := hw
  obtain ⟨n90_39, o90_38, hw⟩ := hw
  obtain ⟨n90_41, o90_40, hw⟩ := hw
  obtain ⟨g90_42_0, g90_42_1, g90_42_2, g90_42_3, g90_42_4, hw⟩ := hw
  refine cl_aload_nQ hG (hx_dq tdX4_copyOf_1 8 rfl) rfl (cl_nn zk2_1 (cl_getS hG fmX4_28 (hx_dq tdX4_copyOf_1 9 rfl) o2_2 zk77_36 (cl_iconst hG 0 (hx_dq tdX4_copyOf_1 10 rfl) iconst_0 (cl_aload_n hG (hx_dq tdX4_copyOf_1 11 rfl) rfl (cl_getS hG fmX4_28 (hx_dq tdX4_copyOf_1 12 rfl) o5_3 zk82_37 (cl_iconst hG 0 (hx_dq tdX4_copyOf_1 13 rfl) iconst_0 (cl_aload_n hG (hx_dq tdX4_copyOf_1 14 rfl) rfl (cl_getI hG fmX4_9 (hx_dq tdX4_copyOf_1 15 rfl) o5_3 (cl_copy hG mmX4_38 (hx_dq tdX4_copyOf_1 16 rfl) (Nat.le_refl _) (Nat.le_refl _) (Nat.le_of_ble_eq_true rfl) o90_38 o90_40 g90_42_0 g90_42_1 g90_42_2 g90_42_3 g90_42_4 (cl_nmM (fun m_43 e_43 => ?_)))))))))))
  replace hw := hw m_43 e_43
  obtain ⟨k94_44, zk94_44, hw⟩ := hw
  obtain ⟨k99_45, zk99_45, hw⟩ := hw
  obtain ⟨n110_47, o110_46, hw⟩ := hw
  obtain ⟨n110_49, o110_48, hw⟩ := hw
  obtain ⟨g110_50_0, g110_50_1, g110_50_2, g110_50_3, g110_50_4, hw⟩ := hw
  refine cl_aload_nQ hG (hx_dq tdX4_copyOf_1 17 rfl) rfl (cl_nn zk2_1 (cl_getS hG fmX4_31 (hx_dq tdX4_copyOf_1 18 rfl) o2_2 zk94_44 (cl_iconst hG 0 (hx_dq tdX4_copyOf_1 19 rfl) iconst_0 (cl_aload_n hG (hx_dq tdX4_copyOf_1 20 rfl) rfl (cl_getS hG fmX4_31 (hx_dq tdX4_copyOf_1 21 rfl) o5_3 zk99_45 (cl_iconst hG 0 (hx_dq tdX4_copyOf_1 22 rfl) iconst_0 (cl_aload_n hG (hx_dq tdX4_copyOf_1 23 rfl) rfl (cl_getI hG fmX4_9 (hx_dq tdX4_copyOf_1 24 rfl) o5_3 (cl_bipush hG 6 (hx_dq tdX4_copyOf_1 25 rfl) bipush_6 (cl_imul hG (hx_dq tdX4_copyOf_1 26 rfl) (cl_copy hG mmX4_38 (hx_dq tdX4_copyOf_1 27 rfl) (Nat.le_refl _) (Nat.le_refl _) (Nat.le_of_ble_eq_true rfl) o110_46 o110_48 g110_50_0 g110_50_1 g110_50_2 g110_50_3 g110_50_4 (cl_nmM (fun m_51 e_51 => ?_)))))))))))))
  replace hw := hw m_51 e_51
  exact cl_vret hG (hx_dq tdX4_copyOf_1 28 rfl) rfl (hK _ hw) (Nat.le_refl _) (Nat.le_refl _)
def sX4_copyOf : hx_ST := fun Λ μ as KK => ∃ (v0 : Nat) (v1 : Option Nat) (K : hx_M → Prop), as = [.ref v0, va_rf v1] ∧ wX4_copyOf Λ μ v0 v1 K ∧ (∀ (m : hx_M), K m → KK none Λ m)
theorem sX4_copyOf_mk {Λ : hx_L} {μ : hx_M} {KK : hx_KT} {v0 : Nat} {v1 : Option Nat} {K : hx_M → Prop}  (hw : wX4_copyOf Λ μ v0 v1 K) (hk : ∀ (m : hx_M), K m → KK none Λ m) : sX4_copyOf Λ μ [.ref v0, va_rf v1] KK := ⟨_, _, _, rfl, hw, hk⟩
theorem conX4_copyOf : hx_Con yX4_copyOf cX4_copyOf 2 (none) 1 0 0 sX4_copyOf := by
  refine hx_con_of (by decide +kernel) tokX4 (by decide) ?_ ?_
  · intro Λ μ as KK h
    obtain ⟨v0, v1, K, rfl, hw, hK⟩ := h
    cases v1 <;> exact Nat.le_of_ble_eq_true rfl
  · intro G KK hG cA Λ μ as h
    obtain ⟨v0, v1, K, rfl, hw, hK⟩ := h
    cases v1 <;> exact cl_sub hG (hx_le_c rfl (hx_le_c rfl hx_le_0)) (kX4_copyOf hG cA _ _ hK hw)
/-! HemLine$People.withNeighbours(I)I -/
def tbX4_withNeighbours_0 : List (Nat × Instr × Nat) := [(0, .iload_n 1, 1), (1, .istore_n 2, 1), (2, .iconst 0, 1), (3, .istore_n 3, 1), (4, .iload_n 3, 1), (5, .aload_n 0, 1), (6, .getfield 9, 3), (9, .if_icmp .ge 46, 3), (12, .iload_n 1, 1), (13, .iload_n 3, 1), (14, .ishr, 1), (15, .iconst 1, 1), (16, .iand, 1), (17, .ifCond .eq 15, 3), (20, .iload_n 2, 1), (21, .aload_n 0, 1), (22, .getfield 22, 3), (25, .iload_n 3, 1), (26, .iaload, 1), (27, .ior, 1), (28, .istore_n 2, 1), (29, .goto 20, 3), (32, .aload_n 0, 1), (33, .getfield 22, 3), (36, .iload_n 3, 1), (37, .iaload, 1), (38, .iload_n 1, 1), (39, .iand, 1), (40, .ifCond .eq 9, 3), (43, .iload_n 2, 1), (44, .iconst 1, 1), (45, .iload_n 3, 1)]
def tbX4_withNeighbours_1 : List (Nat × Instr × Nat) := [(46, .ishl, 1), (47, .ior, 1), (48, .istore_n 2, 1), (49, .iinc 3 1, 3), (52, .goto (-48), 3), (55, .iload_n 2, 1), (56, .ireturn, 1)]
theorem tdX4_withNeighbours_0 : hx_dt cX4_withNeighbours tbX4_withNeighbours_0 = true := by decide +kernel
theorem tdX4_withNeighbours_1 : hx_dt cX4_withNeighbours tbX4_withNeighbours_1 = true := by decide +kernel
def wX4_withNeighbours_J49 (μ : hx_M) (K : Int32 → Prop) (K4 : Int32 → Int32 → Prop) (v1 : Int32) (v2 : Int32) (v3 : Int32)   : Prop := K4 v2 (v3 + 1)
set_option maxRecDepth 100000 in
set_option maxHeartbeats 4000000 in
theorem kX4_withNeighbours_J49 {G : hx_GT} {KK : hx_KT} (hG : hx_K cX4_withNeighbours 4 0 0 (some .int) TbX4 KK G) (cA : hx_CA RX4 cX4_withNeighbours 1 0 0 G) {Λ : hx_L} (hF : cF Λ) {μ : hx_M} (v1 : Int32) (v2 : Int32) (v3 : Int32)  {K : Int32 → Prop} (hK : ∀ (r : Int32), K r → KK (some (.int r)) Λ μ) {K4 : Int32 → Int32 → Prop} (hk4 : ∀ (v2 : Int32) (v3 : Int32), K4 v2 v3 → G Λ μ (0, 0) 4 [some (.ref 8), some (.int v1), some (.int v2), some (.int v3)] []) (hw : wX4_withNeighbours_J49 μ K K4 v1 v2 v3) : G Λ μ (0, 0) 49 [some (.ref 8), some (.int v1), some (.int v2), some (.int v3)] [] := by
  unfold wX4_withNeighbours_J49 at hw
  exact cl_iinc hG (v3 + 1) (hx_dq tdX4_withNeighbours_1 3 rfl) rfl (congrArg (fun z => v3 + z) iconst_1) (Nat.le_of_ble_eq_true rfl) rfl (cl_goto hG 4 (hx_dq tdX4_withNeighbours_1 4 rfl) rfl (cl_sub hG (hx_le_c rfl (hx_le_c rfl (hx_le_c rfl (hx_le_c rfl hx_le_0)))) (hk4 v2 (v3 + 1) hw)))
def wX4_withNeighbours_L4 (μ : hx_M) (v1 : Int32) (K : Int32 → Prop)  : Nat → Int32 → Int32 → Prop
  | 0, _, _ => False
  | n + 1, v2, v3 => ((μ.1 8 0) ≤ v3 → (K v2)) ∧ (¬ ((μ.1 8 0) ≤ v3) → ((((v1 >>> (v3 &&& 31)) &&& 1) = 0 → (vp_in v3 16 ∧ (((μ.1 11 v3.toNatClampNeg) &&& v1) = 0 → (wX4_withNeighbours_J49 μ K (wX4_withNeighbours_L4 μ v1 K n) v1 v2 v3)) ∧ (¬ (((μ.1 11 v3.toNatClampNeg) &&& v1) = 0) → (wX4_withNeighbours_J49 μ K (wX4_withNeighbours_L4 μ v1 K n) v1 (v2 ||| (1 <<< (v3 &&& 31))) v3)))) ∧ (¬ (((v1 >>> (v3 &&& 31)) &&& 1) = 0) → (vp_in v3 16 ∧ wX4_withNeighbours_J49 μ K (wX4_withNeighbours_L4 μ v1 K n) v1 (v2 ||| (μ.1 11 v3.toNatClampNeg)) v3))))
set_option maxRecDepth 100000 in
set_option maxHeartbeats 4000000 in
theorem kX4_withNeighbours_L4 {G : hx_GT} {KK : hx_KT} (hG : hx_K cX4_withNeighbours 4 0 0 (some .int) TbX4 KK G) (cA : hx_CA RX4 cX4_withNeighbours 1 0 0 G) {Λ : hx_L} (hF : cF Λ) {μ : hx_M} (v1 : Int32) {K : Int32 → Prop} (hK : ∀ (r : Int32), K r → KK (some (.int r)) Λ μ)  : ∀ (n : Nat) (v2 : Int32) (v3 : Int32), wX4_withNeighbours_L4 μ v1 K n v2 v3 → G Λ μ (0, 0) 4 [some (.ref 8), some (.int v1), some (.int v2), some (.int v3)] [] := by
  intro n
  induction n with
  | zero =>
    intro v2 v3 hw
    exact False.elim (by simpa only [wX4_withNeighbours_L4] using hw)
  | succ n ih =>
    intro v2 v3 hw
    unfold wX4_withNeighbours_L4 at hw
    refine cl_iload_n hG (hx_dq tdX4_withNeighbours_0 4 rfl) rfl (cl_aload_n hG (hx_dq tdX4_withNeighbours_0 5 rfl) rfl (cl_getI hG fmX4_9 (hx_dq tdX4_withNeighbours_0 6 rfl) (cF_S8 hF) (cl_icmp_ge hG 55 (hx_dq tdX4_withNeighbours_0 7 rfl) rfl (fun c9 => ?_) (fun c9 => ?_))))
    · replace hw := hw.1 c9
      exact cl_iload_n hG (hx_dq tdX4_withNeighbours_1 5 rfl) rfl (cl_iret hG (hx_dq tdX4_withNeighbours_1 6 rfl) rfl rfl (hK _ hw) (Nat.le_refl _) (Nat.le_refl _))
    · replace hw := hw.2 c9
      refine cl_iload_n hG (hx_dq tdX4_withNeighbours_0 8 rfl) rfl (cl_iload_n hG (hx_dq tdX4_withNeighbours_0 9 rfl) rfl (cl_ishr hG (hx_dq tdX4_withNeighbours_0 10 rfl) (cl_iconst hG 1 (hx_dq tdX4_withNeighbours_0 11 rfl) iconst_1 (cl_iand hG (hx_dq tdX4_withNeighbours_0 12 rfl) (cl_if_eq hG 32 (hx_dq tdX4_withNeighbours_0 13 rfl) rfl (fun c17 => ?_) (fun c17 => ?_))))))
      · replace hw := hw.1 c17
        obtain ⟨i37_1, hw⟩ := hw
        refine cl_aload_n hG (hx_dq tdX4_withNeighbours_0 22 rfl) rfl (cl_getS hG fmX4_22 (hx_dq tdX4_withNeighbours_0 23 rfl) (cF_S8 hF) (cF_R8_3 hF) (cl_iload_n hG (hx_dq tdX4_withNeighbours_0 24 rfl) rfl (cl_iald hG (hx_dq tdX4_withNeighbours_0 25 rfl) (cF_S11 hF) i37_1 (cl_iload_n hG (hx_dq tdX4_withNeighbours_0 26 rfl) rfl (cl_iand hG (hx_dq tdX4_withNeighbours_0 27 rfl) (cl_if_eq hG 49 (hx_dq tdX4_withNeighbours_0 28 rfl) rfl (fun c40 => ?_) (fun c40 => ?_)))))))
        · replace hw := hw.1 c40
          exact cl_sub hG (hx_le_c rfl (hx_le_c rfl (hx_le_c rfl (hx_le_c rfl hx_le_0)))) (kX4_withNeighbours_J49 hG cA hF v1 v2 v3 hK (fun z0 z1 hw => ih z0 z1 hw) hw)
        · replace hw := hw.2 c40
          refine cl_iload_n hG (hx_dq tdX4_withNeighbours_0 29 rfl) rfl (cl_iconst hG 1 (hx_dq tdX4_withNeighbours_0 30 rfl) iconst_1 (cl_iload_n hG (hx_dq tdX4_withNeighbours_0 31 rfl) rfl (cl_ishl hG (hx_dq tdX4_withNeighbours_1 0 rfl) (cl_ior hG (hx_dq tdX4_withNeighbours_1 1 rfl) (cl_istore_n hG (hx_dq tdX4_withNeighbours_1 2 rfl) (Nat.le_of_ble_eq_true rfl) rfl ?_)))))
          exact cl_sub hG (hx_le_c rfl (hx_le_c rfl (hx_le_c rfl (hx_le_c rfl hx_le_0)))) (kX4_withNeighbours_J49 hG cA hF v1 (v2 ||| (1 <<< (v3 &&& 31))) v3 hK (fun z0 z1 hw => ih z0 z1 hw) hw)
      · replace hw := hw.2 c17
        obtain ⟨i26_2, hw⟩ := hw
        refine cl_iload_n hG (hx_dq tdX4_withNeighbours_0 14 rfl) rfl (cl_aload_n hG (hx_dq tdX4_withNeighbours_0 15 rfl) rfl (cl_getS hG fmX4_22 (hx_dq tdX4_withNeighbours_0 16 rfl) (cF_S8 hF) (cF_R8_3 hF) (cl_iload_n hG (hx_dq tdX4_withNeighbours_0 17 rfl) rfl (cl_iald hG (hx_dq tdX4_withNeighbours_0 18 rfl) (cF_S11 hF) i26_2 (cl_ior hG (hx_dq tdX4_withNeighbours_0 19 rfl) (cl_istore_n hG (hx_dq tdX4_withNeighbours_0 20 rfl) (Nat.le_of_ble_eq_true rfl) rfl (cl_goto hG 49 (hx_dq tdX4_withNeighbours_0 21 rfl) rfl ?_)))))))
        exact cl_sub hG (hx_le_c rfl (hx_le_c rfl (hx_le_c rfl (hx_le_c rfl hx_le_0)))) (kX4_withNeighbours_J49 hG cA hF v1 (v2 ||| (μ.1 11 v3.toNatClampNeg)) v3 hK (fun z0 z1 hw => ih z0 z1 hw) hw)
def wX4_withNeighbours (μ : hx_M) (v1 : Int32) (K : Int32 → Prop) : Prop := ∃ n4_3, wX4_withNeighbours_L4 μ v1 K n4_3 v1 0
set_option maxRecDepth 100000 in
set_option maxHeartbeats 4000000 in
theorem kX4_withNeighbours {G : hx_GT} {KK : hx_KT} (hG : hx_K cX4_withNeighbours 4 0 0 (some .int) TbX4 KK G) (cA : hx_CA RX4 cX4_withNeighbours 1 0 0 G) {Λ : hx_L} (hF : cF Λ) {μ : hx_M} (v1 : Int32) {K : Int32 → Prop} (hK : ∀ (r : Int32), K r → KK (some (.int r)) Λ μ) (hw : wX4_withNeighbours μ v1 K) : G Λ μ (0, 0) 0 [some (.ref 8), some (.int v1), none, none] [] := by
  unfold wX4_withNeighbours at hw
  refine cl_iload_n hG (hx_dq tdX4_withNeighbours_0 0 rfl) rfl (cl_istore_n hG (hx_dq tdX4_withNeighbours_0 1 rfl) (Nat.le_of_ble_eq_true rfl) rfl (cl_iconst hG 0 (hx_dq tdX4_withNeighbours_0 2 rfl) iconst_0 (cl_istore_n hG (hx_dq tdX4_withNeighbours_0 3 rfl) (Nat.le_of_ble_eq_true rfl) rfl ?_)))
  obtain ⟨n_, hw⟩ := hw
  refine cl_sub hG (hx_le_c rfl (hx_le_c rfl (hx_le_c rfl (hx_le_c rfl hx_le_0)))) (kX4_withNeighbours_L4 hG cA hF v1 hK n_ v1 0 hw)
def sX4_withNeighbours : hx_ST := fun Λ μ as KK => cF Λ ∧ ∃ (v1 : Int32) (K : Int32 → Prop), as = [.ref 8, .int v1] ∧ wX4_withNeighbours μ v1 K ∧ (∀ (r : Int32), K r → KK (some (.int r)) Λ μ)
theorem sX4_withNeighbours_mk {Λ : hx_L} {μ : hx_M} {KK : hx_KT} {v1 : Int32} {K : Int32 → Prop} (hF : cF Λ) (hw : wX4_withNeighbours μ v1 K) (hk : ∀ (r : Int32), K r → KK (some (.int r)) Λ μ) : sX4_withNeighbours Λ μ [.ref 8, .int v1] KK := ⟨hF, _, _, rfl, hw, hk⟩
theorem conX4_withNeighbours : hx_Con yX4_withNeighbours cX4_withNeighbours 4 (some .int) 1 0 0 sX4_withNeighbours := by
  refine hx_con_of (by decide +kernel) tokX4 (by decide) ?_ ?_
  · intro Λ μ as KK h
    obtain ⟨hF, v1, K, rfl, hw, hK⟩ := h
    exact Nat.le_of_ble_eq_true rfl
  · intro G KK hG cA Λ μ as h
    obtain ⟨hF, v1, K, rfl, hw, hK⟩ := h
    exact cl_sub hG (hx_le_c rfl (hx_le_c rfl (hx_le_n (hx_le_n hx_le_0)))) (kX4_withNeighbours hG cA hF _ hK hw)
/-! HemLine$People.streetOf(I)I -/
def tbX4_streetOf_0 : List (Nat × Instr × Nat) := [(0, .iconst 1, 1), (1, .iload_n 1, 1), (2, .ishl, 1), (3, .istore_n 2, 1), (4, .iconst 0, 1), (5, .istore_n 3, 1), (6, .iload_n 3, 1), (7, .aload_n 0, 1), (8, .getfield 9, 3), (11, .if_icmp .ge 27, 3), (14, .aload_n 0, 1), (15, .iload_n 2, 1), (16, .invokevirtual 44, 3), (19, .istore 4, 2), (21, .iload 4, 2), (23, .iload_n 2, 1), (24, .if_icmp .ne 5, 3), (27, .iload_n 2, 1), (28, .ireturn, 1), (29, .iload 4, 2), (31, .istore_n 2, 1), (32, .iinc 3 1, 3), (35, .goto (-29), 3), (38, .iload_n 2, 1), (39, .ireturn, 1)]
theorem tdX4_streetOf_0 : hx_dt cX4_streetOf tbX4_streetOf_0 = true := by decide +kernel
theorem caX4_streetOf_44 {G : hx_GT} (cA : hx_CA RX4 cX4_streetOf 2 0 0 G) : hx_CV cX4_streetOf G 0 0 44 4 1 sX4_withNeighbours 0 0 := cA.1 conX4_withNeighbours rfl rfl ⟨by decide +kernel, by decide +kernel, by decide +kernel⟩ mw_893 mw_895 mw_26 mw_87 mw_896 (by decide) (by decide)
def wX4_streetOf_L6 (μ : hx_M) (K : Int32 → Prop)  : Nat → Int32 → Int32 → Prop
  | 0, _, _ => False
  | n + 1, v2, v3 => ((μ.1 8 0) ≤ v3 → (K v2)) ∧ (¬ ((μ.1 8 0) ≤ v3) → (wX4_withNeighbours μ v2 (fun r16_2 => (r16_2 ≠ v2 → (wX4_streetOf_L6 μ K n r16_2 (v3 + 1))) ∧ (r16_2 = v2 → (K v2)))))
set_option maxRecDepth 100000 in
set_option maxHeartbeats 4000000 in
theorem kX4_streetOf_L6 {G : hx_GT} {KK : hx_KT} (hG : hx_K cX4_streetOf 5 0 0 (some .int) TbX4 KK G) (cA : hx_CA RX4 cX4_streetOf 2 0 0 G) {Λ : hx_L} (hF : cF Λ) {μ : hx_M}  {K : Int32 → Prop} (hK : ∀ (r : Int32), K r → KK (some (.int r)) Λ μ)  : ∀ (n : Nat) (v2 : Int32) (v3 : Int32), wX4_streetOf_L6 μ K n v2 v3 → G Λ μ (0, 0) 6 [some (.ref 8), none, some (.int v2), some (.int v3), none] [] := by
  intro n
  induction n with
  | zero =>
    intro v2 v3 hw
    exact False.elim (by simpa only [wX4_streetOf_L6] using hw)
  | succ n ih =>
    intro v2 v3 hw
    unfold wX4_streetOf_L6 at hw
    refine cl_iload_n hG (hx_dq tdX4_streetOf_0 6 rfl) rfl (cl_aload_n hG (hx_dq tdX4_streetOf_0 7 rfl) rfl (cl_getI hG fmX4_9 (hx_dq tdX4_streetOf_0 8 rfl) (cF_S8 hF) (cl_icmp_ge hG 38 (hx_dq tdX4_streetOf_0 9 rfl) rfl (fun c11 => ?_) (fun c11 => ?_))))
    · replace hw := hw.1 c11
      exact cl_iload_n hG (hx_dq tdX4_streetOf_0 23 rfl) rfl (cl_iret hG (hx_dq tdX4_streetOf_0 24 rfl) rfl rfl (hK _ hw) (Nat.le_refl _) (Nat.le_refl _))
    · replace hw := hw.2 c11
      refine cl_aload_n hG (hx_dq tdX4_streetOf_0 10 rfl) rfl (cl_iload_n hG (hx_dq tdX4_streetOf_0 11 rfl) rfl (cl_callV1 (caX4_streetOf_44 cA) (hx_dq tdX4_streetOf_0 12 rfl) (cF_S8 hF) (Nat.le_of_ble_eq_true rfl) (Nat.le_refl _) (Nat.le_refl _) (sX4_withNeighbours_mk hF hw (fun r16_2 hw => ?_))))
      refine cl_istore hG (hx_dq tdX4_streetOf_0 13 rfl) (Nat.le_of_ble_eq_true rfl) rfl (cl_iload hG (hx_dq tdX4_streetOf_0 14 rfl) rfl (cl_iload_n hG (hx_dq tdX4_streetOf_0 15 rfl) rfl (cl_icmp_ne hG 29 (hx_dq tdX4_streetOf_0 16 rfl) rfl (fun c24 => ?_) (fun c24 => ?_))))
      · replace hw := hw.1 c24
        exact cl_iload hG (hx_dq tdX4_streetOf_0 19 rfl) rfl (cl_istore_n hG (hx_dq tdX4_streetOf_0 20 rfl) (Nat.le_of_ble_eq_true rfl) rfl (cl_iinc hG (v3 + 1) (hx_dq tdX4_streetOf_0 21 rfl) rfl (congrArg (fun z => v3 + z) iconst_1) (Nat.le_of_ble_eq_true rfl) rfl (cl_goto hG 6 (hx_dq tdX4_streetOf_0 22 rfl) rfl (cl_sub hG (hx_le_c rfl (hx_le_n (hx_le_c rfl (hx_le_c rfl (hx_le_n hx_le_0))))) (ih r16_2 (v3 + 1) hw)))))
      · replace hw := hw.2 c24
        exact cl_iload_n hG (hx_dq tdX4_streetOf_0 17 rfl) rfl (cl_iret hG (hx_dq tdX4_streetOf_0 18 rfl) rfl rfl (hK _ hw) (Nat.le_refl _) (Nat.le_refl _))
def wX4_streetOf (μ : hx_M) (v1 : Int32) (K : Int32 → Prop) : Prop := ∃ n6_3, wX4_streetOf_L6 μ K n6_3 (1 <<< (v1 &&& 31)) 0
set_option maxRecDepth 100000 in
set_option maxHeartbeats 4000000 in
theorem kX4_streetOf {G : hx_GT} {KK : hx_KT} (hG : hx_K cX4_streetOf 5 0 0 (some .int) TbX4 KK G) (cA : hx_CA RX4 cX4_streetOf 2 0 0 G) {Λ : hx_L} (hF : cF Λ) {μ : hx_M} (v1 : Int32) {K : Int32 → Prop} (hK : ∀ (r : Int32), K r → KK (some (.int r)) Λ μ) (hw : wX4_streetOf μ v1 K) : G Λ μ (0, 0) 0 [some (.ref 8), some (.int v1), none, none, none] [] := by
  unfold wX4_streetOf at hw
  refine cl_iconst hG 1 (hx_dq tdX4_streetOf_0 0 rfl) iconst_1 (cl_iload_n hG (hx_dq tdX4_streetOf_0 1 rfl) rfl (cl_ishl hG (hx_dq tdX4_streetOf_0 2 rfl) (cl_istore_n hG (hx_dq tdX4_streetOf_0 3 rfl) (Nat.le_of_ble_eq_true rfl) rfl (cl_iconst hG 0 (hx_dq tdX4_streetOf_0 4 rfl) iconst_0 (cl_istore_n hG (hx_dq tdX4_streetOf_0 5 rfl) (Nat.le_of_ble_eq_true rfl) rfl ?_)))))
  obtain ⟨n_, hw⟩ := hw
  refine cl_sub hG (hx_le_c rfl (hx_le_n (hx_le_c rfl (hx_le_c rfl (hx_le_n hx_le_0))))) (kX4_streetOf_L6 hG cA hF hK n_ (1 <<< (v1 &&& 31)) 0 hw)
def sX4_streetOf : hx_ST := fun Λ μ as KK => cF Λ ∧ ∃ (v1 : Int32) (K : Int32 → Prop), as = [.ref 8, .int v1] ∧ wX4_streetOf μ v1 K ∧ (∀ (r : Int32), K r → KK (some (.int r)) Λ μ)
theorem sX4_streetOf_mk {Λ : hx_L} {μ : hx_M} {KK : hx_KT} {v1 : Int32} {K : Int32 → Prop} (hF : cF Λ) (hw : wX4_streetOf μ v1 K) (hk : ∀ (r : Int32), K r → KK (some (.int r)) Λ μ) : sX4_streetOf Λ μ [.ref 8, .int v1] KK := ⟨hF, _, _, rfl, hw, hk⟩
theorem conX4_streetOf : hx_Con yX4_streetOf cX4_streetOf 5 (some .int) 2 0 0 sX4_streetOf := by
  refine hx_con_of (by decide +kernel) tokX4 (by decide) ?_ ?_
  · intro Λ μ as KK h
    obtain ⟨hF, v1, K, rfl, hw, hK⟩ := h
    exact Nat.le_of_ble_eq_true rfl
  · intro G KK hG cA Λ μ as h
    obtain ⟨hF, v1, K, rfl, hw, hK⟩ := h
    exact cl_sub hG (hx_le_c rfl (hx_le_c rfl (hx_le_n (hx_le_n (hx_le_n hx_le_0))))) (kX4_streetOf hG cA hF _ hK hw)
/-! HemLine$People.leastOf(I)I -/
def tbX4_leastOf_0 : List (Nat × Instr × Nat) := [(0, .iconst 0, 1), (1, .istore_n 2, 1), (2, .iload_n 2, 1), (3, .aload_n 0, 1), (4, .getfield 9, 3), (7, .if_icmp .ge 19, 3), (10, .iload_n 1, 1), (11, .iload_n 2, 1), (12, .ishr, 1), (13, .iconst 1, 1), (14, .iand, 1), (15, .ifCond .eq 5, 3), (18, .iload_n 2, 1), (19, .ireturn, 1), (20, .iinc 2 1, 3), (23, .goto (-21), 3), (26, .iconst (-1), 1), (27, .ireturn, 1)]
theorem tdX4_leastOf_0 : hx_dt cX4_leastOf tbX4_leastOf_0 = true := by decide +kernel
def wX4_leastOf_L2 (μ : hx_M) (v1 : Int32) (K : Int32 → Prop)  : Nat → Int32 → Prop
  | 0, _ => False
  | n + 1, v2 => ((μ.1 8 0) ≤ v2 → (K (-1))) ∧ (¬ ((μ.1 8 0) ≤ v2) → ((((v1 >>> (v2 &&& 31)) &&& 1) = 0 → (wX4_leastOf_L2 μ v1 K n (v2 + 1))) ∧ (¬ (((v1 >>> (v2 &&& 31)) &&& 1) = 0) → (K v2))))
set_option maxRecDepth 100000 in
set_option maxHeartbeats 4000000 in
theorem kX4_leastOf_L2 {G : hx_GT} {KK : hx_KT} (hG : hx_K cX4_leastOf 3 0 0 (some .int) TbX4 KK G) (cA : hx_CA RX4 cX4_leastOf 1 0 0 G) {Λ : hx_L} (hF : cF Λ) {μ : hx_M} (v1 : Int32) {K : Int32 → Prop} (hK : ∀ (r : Int32), K r → KK (some (.int r)) Λ μ)  : ∀ (n : Nat) (v2 : Int32), wX4_leastOf_L2 μ v1 K n v2 → G Λ μ (0, 0) 2 [some (.ref 8), some (.int v1), some (.int v2)] [] := by
  intro n
  induction n with
  | zero =>
    intro v2 hw
    exact False.elim (by simpa only [wX4_leastOf_L2] using hw)
  | succ n ih =>
    intro v2 hw
    unfold wX4_leastOf_L2 at hw
    refine cl_iload_n hG (hx_dq tdX4_leastOf_0 2 rfl) rfl (cl_aload_n hG (hx_dq tdX4_leastOf_0 3 rfl) rfl (cl_getI hG fmX4_9 (hx_dq tdX4_leastOf_0 4 rfl) (cF_S8 hF) (cl_icmp_ge hG 26 (hx_dq tdX4_leastOf_0 5 rfl) rfl (fun c7 => ?_) (fun c7 => ?_))))
    · replace hw := hw.1 c7
      exact cl_iconst hG (-1) (hx_dq tdX4_leastOf_0 16 rfl) iconst_m1 (cl_iret hG (hx_dq tdX4_leastOf_0 17 rfl) rfl rfl (hK _ hw) (Nat.le_refl _) (Nat.le_refl _))
    · replace hw := hw.2 c7
      refine cl_iload_n hG (hx_dq tdX4_leastOf_0 6 rfl) rfl (cl_iload_n hG (hx_dq tdX4_leastOf_0 7 rfl) rfl (cl_ishr hG (hx_dq tdX4_leastOf_0 8 rfl) (cl_iconst hG 1 (hx_dq tdX4_leastOf_0 9 rfl) iconst_1 (cl_iand hG (hx_dq tdX4_leastOf_0 10 rfl) (cl_if_eq hG 20 (hx_dq tdX4_leastOf_0 11 rfl) rfl (fun c15 => ?_) (fun c15 => ?_))))))
      · replace hw := hw.1 c15
        exact cl_iinc hG (v2 + 1) (hx_dq tdX4_leastOf_0 14 rfl) rfl (congrArg (fun z => v2 + z) iconst_1) (Nat.le_of_ble_eq_true rfl) rfl (cl_goto hG 2 (hx_dq tdX4_leastOf_0 15 rfl) rfl (cl_sub hG (hx_le_c rfl (hx_le_c rfl (hx_le_c rfl hx_le_0))) (ih (v2 + 1) hw)))
      · replace hw := hw.2 c15
        exact cl_iload_n hG (hx_dq tdX4_leastOf_0 12 rfl) rfl (cl_iret hG (hx_dq tdX4_leastOf_0 13 rfl) rfl rfl (hK _ hw) (Nat.le_refl _) (Nat.le_refl _))
def wX4_leastOf (μ : hx_M) (v1 : Int32) (K : Int32 → Prop) : Prop := ∃ n2_1, wX4_leastOf_L2 μ v1 K n2_1 0
set_option maxRecDepth 100000 in
set_option maxHeartbeats 4000000 in
theorem kX4_leastOf {G : hx_GT} {KK : hx_KT} (hG : hx_K cX4_leastOf 3 0 0 (some .int) TbX4 KK G) (cA : hx_CA RX4 cX4_leastOf 1 0 0 G) {Λ : hx_L} (hF : cF Λ) {μ : hx_M} (v1 : Int32) {K : Int32 → Prop} (hK : ∀ (r : Int32), K r → KK (some (.int r)) Λ μ) (hw : wX4_leastOf μ v1 K) : G Λ μ (0, 0) 0 [some (.ref 8), some (.int v1), none] [] := by
  unfold wX4_leastOf at hw
  refine cl_iconst hG 0 (hx_dq tdX4_leastOf_0 0 rfl) iconst_0 (cl_istore_n hG (hx_dq tdX4_leastOf_0 1 rfl) (Nat.le_of_ble_eq_true rfl) rfl ?_)
  obtain ⟨n_, hw⟩ := hw
  refine cl_sub hG (hx_le_c rfl (hx_le_c rfl (hx_le_c rfl hx_le_0))) (kX4_leastOf_L2 hG cA hF v1 hK n_ 0 hw)
def sX4_leastOf : hx_ST := fun Λ μ as KK => cF Λ ∧ ∃ (v1 : Int32) (K : Int32 → Prop), as = [.ref 8, .int v1] ∧ wX4_leastOf μ v1 K ∧ (∀ (r : Int32), K r → KK (some (.int r)) Λ μ)
theorem sX4_leastOf_mk {Λ : hx_L} {μ : hx_M} {KK : hx_KT} {v1 : Int32} {K : Int32 → Prop} (hF : cF Λ) (hw : wX4_leastOf μ v1 K) (hk : ∀ (r : Int32), K r → KK (some (.int r)) Λ μ) : sX4_leastOf Λ μ [.ref 8, .int v1] KK := ⟨hF, _, _, rfl, hw, hk⟩
theorem conX4_leastOf : hx_Con yX4_leastOf cX4_leastOf 3 (some .int) 1 0 0 sX4_leastOf := by
  refine hx_con_of (by decide +kernel) tokX4 (by decide) ?_ ?_
  · intro Λ μ as KK h
    obtain ⟨hF, v1, K, rfl, hw, hK⟩ := h
    exact Nat.le_of_ble_eq_true rfl
  · intro G KK hG cA Λ μ as h
    obtain ⟨hF, v1, K, rfl, hw, hK⟩ := h
    exact cl_sub hG (hx_le_c rfl (hx_le_c rfl (hx_le_n hx_le_0))) (kX4_leastOf hG cA hF _ hK hw)
/-! HemLine$People.streetCount()I -/
def tbX4_streetCount_0 : List (Nat × Instr × Nat) := [(0, .iconst 0, 1), (1, .istore_n 1, 1), (2, .iconst 0, 1), (3, .istore_n 2, 1), (4, .iload_n 2, 1), (5, .aload_n 0, 1), (6, .getfield 9, 3), (9, .if_icmp .ge 25, 3), (12, .aload_n 0, 1), (13, .aload_n 0, 1), (14, .iload_n 2, 1), (15, .invokevirtual 48, 3), (18, .invokevirtual 51, 3), (21, .iload_n 2, 1), (22, .if_icmp .ne 6, 3), (25, .iinc 1 1, 3), (28, .iinc 2 1, 3), (31, .goto (-27), 3), (34, .iload_n 1, 1), (35, .ireturn, 1)]
theorem tdX4_streetCount_0 : hx_dt cX4_streetCount tbX4_streetCount_0 = true := by decide +kernel
theorem caX4_streetCount_48 {G : hx_GT} (cA : hx_CA RX4 cX4_streetCount 3 0 0 G) : hx_CV cX4_streetCount G 0 0 48 4 1 sX4_streetOf 0 0 := cA.1 conX4_streetOf rfl rfl ⟨by decide +kernel, by decide +kernel, by decide +kernel⟩ mw_889 mw_890 mw_891 mw_87 mw_892 (by decide) (by decide)
theorem caX4_streetCount_51 {G : hx_GT} (cA : hx_CA RX4 cX4_streetCount 3 0 0 G) : hx_CV cX4_streetCount G 0 0 51 4 1 sX4_leastOf 0 0 := cA.1 conX4_leastOf rfl rfl ⟨by decide +kernel, by decide +kernel, by decide +kernel⟩ mw_897 mw_898 mw_899 mw_87 mw_900 (by decide) (by decide)
def wX4_streetCount_J28 (μ : hx_M) (K : Int32 → Prop) (K4 : Int32 → Int32 → Prop) (v1 : Int32) (v2 : Int32)   : Prop := K4 v1 (v2 + 1)
set_option maxRecDepth 100000 in
set_option maxHeartbeats 4000000 in
theorem kX4_streetCount_J28 {G : hx_GT} {KK : hx_KT} (hG : hx_K cX4_streetCount 3 0 0 (some .int) TbX4 KK G) (cA : hx_CA RX4 cX4_streetCount 3 0 0 G) {Λ : hx_L} (hF : cF Λ) {μ : hx_M} (v1 : Int32) (v2 : Int32)  {K : Int32 → Prop} (hK : ∀ (r : Int32), K r → KK (some (.int r)) Λ μ) {K4 : Int32 → Int32 → Prop} (hk4 : ∀ (v1 : Int32) (v2 : Int32), K4 v1 v2 → G Λ μ (0, 0) 4 [some (.ref 8), some (.int v1), some (.int v2)] []) (hw : wX4_streetCount_J28 μ K K4 v1 v2) : G Λ μ (0, 0) 28 [some (.ref 8), some (.int v1), some (.int v2)] [] := by
  unfold wX4_streetCount_J28 at hw
  exact cl_iinc hG (v2 + 1) (hx_dq tdX4_streetCount_0 16 rfl) rfl (congrArg (fun z => v2 + z) iconst_1) (Nat.le_of_ble_eq_true rfl) rfl (cl_goto hG 4 (hx_dq tdX4_streetCount_0 17 rfl) rfl (cl_sub hG (hx_le_c rfl (hx_le_c rfl (hx_le_c rfl hx_le_0))) (hk4 v1 (v2 + 1) hw)))
def wX4_streetCount_L4 (μ : hx_M) (K : Int32 → Prop)  : Nat → Int32 → Int32 → Prop
  | 0, _, _ => False
  | n + 1, v1, v2 => ((μ.1 8 0) ≤ v2 → (K v1)) ∧ (¬ ((μ.1 8 0) ≤ v2) → (wX4_streetOf μ v2 (fun r15_2 => wX4_leastOf μ r15_2 (fun r18_4 => (r18_4 ≠ v2 → (wX4_streetCount_J28 μ K (wX4_streetCount_L4 μ K n) v1 v2)) ∧ (r18_4 = v2 → (wX4_streetCount_J28 μ K (wX4_streetCount_L4 μ K n) (v1 + 1) v2))))))
set_option maxRecDepth 100000 in
set_option maxHeartbeats 4000000 in
theorem kX4_streetCount_L4 {G : hx_GT} {KK : hx_KT} (hG : hx_K cX4_streetCount 3 0 0 (some .int) TbX4 KK G) (cA : hx_CA RX4 cX4_streetCount 3 0 0 G) {Λ : hx_L} (hF : cF Λ) {μ : hx_M}  {K : Int32 → Prop} (hK : ∀ (r : Int32), K r → KK (some (.int r)) Λ μ)  : ∀ (n : Nat) (v1 : Int32) (v2 : Int32), wX4_streetCount_L4 μ K n v1 v2 → G Λ μ (0, 0) 4 [some (.ref 8), some (.int v1), some (.int v2)] [] := by
  intro n
  induction n with
  | zero =>
    intro v1 v2 hw
    exact False.elim (by simpa only [wX4_streetCount_L4] using hw)
  | succ n ih =>
    intro v1 v2 hw
    unfold wX4_streetCount_L4 at hw
    refine cl_iload_n hG (hx_dq tdX4_streetCount_0 4 rfl) rfl (cl_aload_n hG (hx_dq tdX4_streetCount_0 5 rfl) rfl (cl_getI hG fmX4_9 (hx_dq tdX4_streetCount_0 6 rfl) (cF_S8 hF) (cl_icmp_ge hG 34 (hx_dq tdX4_streetCount_0 7 rfl) rfl (fun c9 => ?_) (fun c9 => ?_))))
    · replace hw := hw.1 c9
      exact cl_iload_n hG (hx_dq tdX4_streetCount_0 18 rfl) rfl (cl_iret hG (hx_dq tdX4_streetCount_0 19 rfl) rfl rfl (hK _ hw) (Nat.le_refl _) (Nat.le_refl _))
    · replace hw := hw.2 c9
      refine cl_aload_n hG (hx_dq tdX4_streetCount_0 8 rfl) rfl (cl_aload_n hG (hx_dq tdX4_streetCount_0 9 rfl) rfl (cl_iload_n hG (hx_dq tdX4_streetCount_0 10 rfl) rfl (cl_callV1 (caX4_streetCount_48 cA) (hx_dq tdX4_streetCount_0 11 rfl) (cF_S8 hF) (Nat.le_of_ble_eq_true rfl) (Nat.le_refl _) (Nat.le_refl _) (sX4_streetOf_mk hF hw (fun r15_2 hw => ?_)))))
      refine cl_callV1 (caX4_streetCount_51 cA) (hx_dq tdX4_streetCount_0 12 rfl) (cF_S8 hF) (Nat.le_of_ble_eq_true rfl) (Nat.le_refl _) (Nat.le_refl _) (sX4_leastOf_mk hF hw (fun r18_4 hw => ?_))
      refine cl_iload_n hG (hx_dq tdX4_streetCount_0 13 rfl) rfl (cl_icmp_ne hG 28 (hx_dq tdX4_streetCount_0 14 rfl) rfl (fun c22 => ?_) (fun c22 => ?_))
      · replace hw := hw.1 c22
        exact cl_sub hG (hx_le_c rfl (hx_le_c rfl (hx_le_c rfl hx_le_0))) (kX4_streetCount_J28 hG cA hF v1 v2 hK (fun z0 z1 hw => ih z0 z1 hw) hw)
      · replace hw := hw.2 c22
        refine cl_iinc hG (v1 + 1) (hx_dq tdX4_streetCount_0 15 rfl) rfl (congrArg (fun z => v1 + z) iconst_1) (Nat.le_of_ble_eq_true rfl) rfl ?_
        exact cl_sub hG (hx_le_c rfl (hx_le_c rfl (hx_le_c rfl hx_le_0))) (kX4_streetCount_J28 hG cA hF (v1 + 1) v2 hK (fun z0 z1 hw => ih z0 z1 hw) hw)
def wX4_streetCount (μ : hx_M)  (K : Int32 → Prop) : Prop := ∃ n4_5, wX4_streetCount_L4 μ K n4_5 0 0
set_option maxRecDepth 100000 in
set_option maxHeartbeats 4000000 in
theorem kX4_streetCount {G : hx_GT} {KK : hx_KT} (hG : hx_K cX4_streetCount 3 0 0 (some .int) TbX4 KK G) (cA : hx_CA RX4 cX4_streetCount 3 0 0 G) {Λ : hx_L} (hF : cF Λ) {μ : hx_M}  {K : Int32 → Prop} (hK : ∀ (r : Int32), K r → KK (some (.int r)) Λ μ) (hw : wX4_streetCount μ K) : G Λ μ (0, 0) 0 [some (.ref 8), none, none] [] := by
  unfold wX4_streetCount at hw
  refine cl_iconst hG 0 (hx_dq tdX4_streetCount_0 0 rfl) iconst_0 (cl_istore_n hG (hx_dq tdX4_streetCount_0 1 rfl) (Nat.le_of_ble_eq_true rfl) rfl (cl_iconst hG 0 (hx_dq tdX4_streetCount_0 2 rfl) iconst_0 (cl_istore_n hG (hx_dq tdX4_streetCount_0 3 rfl) (Nat.le_of_ble_eq_true rfl) rfl ?_)))
  obtain ⟨n_, hw⟩ := hw
  refine cl_sub hG (hx_le_c rfl (hx_le_c rfl (hx_le_c rfl hx_le_0))) (kX4_streetCount_L4 hG cA hF hK n_ 0 0 hw)
def sX4_streetCount : hx_ST := fun Λ μ as KK => cF Λ ∧ ∃ (K : Int32 → Prop), as = [.ref 8] ∧ wX4_streetCount μ K ∧ (∀ (r : Int32), K r → KK (some (.int r)) Λ μ)
theorem sX4_streetCount_mk {Λ : hx_L} {μ : hx_M} {KK : hx_KT}  {K : Int32 → Prop} (hF : cF Λ) (hw : wX4_streetCount μ K) (hk : ∀ (r : Int32), K r → KK (some (.int r)) Λ μ) : sX4_streetCount Λ μ [.ref 8] KK := ⟨hF, _, rfl, hw, hk⟩
theorem conX4_streetCount : hx_Con yX4_streetCount cX4_streetCount 3 (some .int) 3 0 0 sX4_streetCount := by
  refine hx_con_of (by decide +kernel) tokX4 (by decide) ?_ ?_
  · intro Λ μ as KK h
    obtain ⟨hF, K, rfl, hw, hK⟩ := h
    exact Nat.le_of_ble_eq_true rfl
  · intro G KK hG cA Λ μ as h
    obtain ⟨hF, K, rfl, hw, hK⟩ := h
    exact cl_sub hG (hx_le_c rfl (hx_le_n (hx_le_n hx_le_0))) (kX4_streetCount hG cA hF hK hw)
/-! HemLine$Plates.<init>(LHemLine$World;)V -/
def tbX5_init_0 : List (Nat × Instr × Nat) := [(0, .aload_n 0, 1), (1, .invokespecial 3, 3), (4, .aload_n 0, 1), (5, .aload_n 1, 1), (6, .putfield 9, 3), (9, .aload_n 0, 1), (10, .iconst 0, 1), (11, .putfield 15, 3), (14, .aload_n 0, 1), (15, .bipush 60, 2), (17, .newarray .int, 2), (19, .putfield 19, 3), (22, .aload_n 0, 1), (23, .bipush 60, 2), (25, .newarray .int, 2), (27, .putfield 23, 3), (30, .aload_n 0, 1), (31, .bipush 60, 2), (33, .newarray .int, 2), (35, .putfield 26, 3), (38, .return_, 1)]
theorem tdX5_init_0 : hx_dt cX5_init tbX5_init_0 = true := by decide +kernel
def TAX5_init : hx_TA := ([], [(9, 5, 0, 2), (19, 5, 2, 2), (23, 5, 3, 2), (26, 5, 4, 2)], [], [3])
theorem taX5_init_f9 : (9, 5, 0, 2) ∈ TAX5_init.2.1 := List.mem_of_getElem? (i := 0) rfl
theorem toX5_init_f9 : hx_ffok RX5 (9, 5, 0, 2) := ⟨RX5, TX5, 5, tyX5, rfl, Nat.le_of_ble_eq_true rfl, rfl, mw_382, inX5, tyX5_ok, nmX5, rfl, rfl, fun h => absurd h (by decide), fun _ => Or.inl ⟨_, rfl⟩⟩
theorem taX5_init_f19 : (19, 5, 2, 2) ∈ TAX5_init.2.1 := List.mem_of_getElem? (i := 1) rfl
theorem toX5_init_f19 : hx_ffok RX5 (19, 5, 2, 2) := ⟨RX5, TX5, 5, tyX5, rfl, Nat.le_of_ble_eq_true rfl, rfl, mw_385, inX5, tyX5_ok, nmX5, rfl, rfl, fun h => absurd h (by decide), fun _ => Or.inr ⟨_, rfl⟩⟩
theorem taX5_init_f23 : (23, 5, 3, 2) ∈ TAX5_init.2.1 := List.mem_of_getElem? (i := 2) rfl
theorem toX5_init_f23 : hx_ffok RX5 (23, 5, 3, 2) := ⟨RX5, TX5, 5, tyX5, rfl, Nat.le_of_ble_eq_true rfl, rfl, mw_386, inX5, tyX5_ok, nmX5, rfl, rfl, fun h => absurd h (by decide), fun _ => Or.inr ⟨_, rfl⟩⟩
theorem taX5_init_f26 : (26, 5, 4, 2) ∈ TAX5_init.2.1 := List.mem_of_getElem? (i := 3) rfl
theorem toX5_init_f26 : hx_ffok RX5 (26, 5, 4, 2) := ⟨RX5, TX5, 5, tyX5, rfl, Nat.le_of_ble_eq_true rfl, rfl, mw_387, inX5, tyX5_ok, nmX5, rfl, rfl, fun h => absurd h (by decide), fun _ => Or.inr ⟨_, rfl⟩⟩
theorem taX5_init_o3 : 3 ∈ TAX5_init.2.2.2 := List.mem_of_getElem? (i := 0) rfl
theorem taokX5_init : hx_taok RX5 TAX5_init := ⟨(fun _ h => absurd h List.not_mem_nil), (List.forall_mem_cons.mpr ⟨toX5_init_f9, (List.forall_mem_cons.mpr ⟨toX5_init_f19, (List.forall_mem_cons.mpr ⟨toX5_init_f23, (List.forall_mem_cons.mpr ⟨toX5_init_f26, (fun _ h => absurd h List.not_mem_nil)⟩)⟩)⟩)⟩), (fun _ h => absurd h List.not_mem_nil), (List.forall_mem_cons.mpr ⟨mw_381, (fun _ h => absurd h List.not_mem_nil)⟩)⟩
def wX5_init (Λ : hx_L) (μ : hx_M) (v0 : Nat) (v1 : Nat) (K : hx_L → hx_M → Prop) : Prop := Λ.1 v0 = (0, 5) ∧ ∀ L_2 : hx_L, L_2 = hx_sR Λ v0 0 v1 → L_2.1 v0 = (0, 5) ∧ L_2.2.2 < hx_big ∧ ∀ L_5 : hx_L, L_5 = hx_push L_2 (1, 60) → ∀ m_6 : hx_M, m_6 = (hx_z (hx_sI μ v0 1 0) L_2.2.2) → L_5.1 v0 = (0, 5) ∧ ∀ L_8 : hx_L, L_8 = hx_sR L_5 v0 2 L_2.2.2 → L_8.2.2 < hx_big ∧ ∀ L_10 : hx_L, L_10 = hx_push L_8 (1, 60) → ∀ m_11 : hx_M, m_11 = (hx_z m_6 L_8.2.2) → L_10.1 v0 = (0, 5) ∧ ∀ L_13 : hx_L, L_13 = hx_sR L_10 v0 3 L_8.2.2 → L_13.2.2 < hx_big ∧ ∀ L_15 : hx_L, L_15 = hx_push L_13 (1, 60) → ∀ m_16 : hx_M, m_16 = (hx_z m_11 L_13.2.2) → L_15.1 v0 = (0, 5) ∧ ∀ L_18 : hx_L, L_18 = hx_sR L_15 v0 4 L_13.2.2 → K L_18 m_16
set_option maxRecDepth 100000 in
set_option maxHeartbeats 4000000 in
theorem kX5_init {G : hx_GT} {KK : hx_KT} (hG : hx_K cX5_init 2 3 180 (none) TbX5 KK G) (hM : hx_KA cX5_init 3 180 TAX5_init G) (cA : hx_CA RX5 cX5_init 1 3 180 G) {Λ : hx_L}  {μ : hx_M} (v0 : Nat) (v1 : Nat) {K : hx_L → hx_M → Prop} (hK : ∀ (Λ1 : hx_L) (m : hx_M), K Λ1 m → KK none Λ1 m) (hw : wX5_init Λ μ v0 v1 K) : G Λ μ (0, 0) 0 [some (.ref v0), some (.ref v1)] [] := by
  unfold wX5_init at hw
  obtain ⟨o6_1, hw⟩ := hw
  refine cl_aload_n hG (hx_dq tdX5_init_0 0 rfl) rfl (cl_oinit hM taX5_init_o3 (hx_dq tdX5_init_0 1 rfl) (Nat.le_of_ble_eq_true rfl) (cl_aload_n hG (hx_dq tdX5_init_0 2 rfl) rfl (cl_aload_n hG (hx_dq tdX5_init_0 3 rfl) rfl (cl_putFR hM taX5_init_f9 (hx_dq tdX5_init_0 4 rfl) o6_1 (cl_nmA (fun L_2 e_2 => ?_))))))
  replace hw := hw L_2 e_2
  obtain ⟨o11_3, hw⟩ := hw
  obtain ⟨b4, hw⟩ := hw
  refine cl_aload_n hG (hx_dq tdX5_init_0 5 rfl) rfl (cl_iconst hG 0 (hx_dq tdX5_init_0 6 rfl) iconst_0 (cl_putI hG fmX5_15 (hx_dq tdX5_init_0 7 rfl) o11_3 (cl_aload_n hG (hx_dq tdX5_init_0 8 rfl) rfl (cl_bipush hG 60 (hx_dq tdX5_init_0 9 rfl) bipush_60 (cl_newaI hM tn_60 (hx_dq tdX5_init_0 10 rfl) (by decide) (Nat.le_of_ble_eq_true rfl) (Nat.le_of_ble_eq_true rfl) (Nat.le_of_ble_eq_true rfl) b4 (cl_nmA (fun L_5 e_5 => ?_)))))))
  replace hw := hw L_5 e_5
  refine cl_nmM (fun m_6 e_6 => ?_)
  replace hw := hw m_6 e_6
  obtain ⟨o19_7, hw⟩ := hw
  refine cl_putFR hM taX5_init_f19 (hx_dq tdX5_init_0 11 rfl) o19_7 (cl_nmA (fun L_8 e_8 => ?_))
  replace hw := hw L_8 e_8
  obtain ⟨b9, hw⟩ := hw
  refine cl_aload_n hG (hx_dq tdX5_init_0 12 rfl) rfl (cl_bipush hG 60 (hx_dq tdX5_init_0 13 rfl) bipush_60 (cl_newaI hM tn_60 (hx_dq tdX5_init_0 14 rfl) (by decide) (Nat.le_of_ble_eq_true rfl) (Nat.le_of_ble_eq_true rfl) (Nat.le_of_ble_eq_true rfl) b9 (cl_nmA (fun L_10 e_10 => ?_))))
  replace hw := hw L_10 e_10
  refine cl_nmM (fun m_11 e_11 => ?_)
  replace hw := hw m_11 e_11
  obtain ⟨o27_12, hw⟩ := hw
  refine cl_putFR hM taX5_init_f23 (hx_dq tdX5_init_0 15 rfl) o27_12 (cl_nmA (fun L_13 e_13 => ?_))
  replace hw := hw L_13 e_13
  obtain ⟨b14, hw⟩ := hw
  refine cl_aload_n hG (hx_dq tdX5_init_0 16 rfl) rfl (cl_bipush hG 60 (hx_dq tdX5_init_0 17 rfl) bipush_60 (cl_newaI hM tn_60 (hx_dq tdX5_init_0 18 rfl) (by decide) (Nat.le_of_ble_eq_true rfl) (Nat.le_of_ble_eq_true rfl) (Nat.le_of_ble_eq_true rfl) b14 (cl_nmA (fun L_15 e_15 => ?_))))
  replace hw := hw L_15 e_15
  refine cl_nmM (fun m_16 e_16 => ?_)
  replace hw := hw m_16 e_16
  obtain ⟨o35_17, hw⟩ := hw
  refine cl_putFR hM taX5_init_f26 (hx_dq tdX5_init_0 19 rfl) o35_17 (cl_nmA (fun L_18 e_18 => ?_))
  replace hw := hw L_18 e_18
  exact cl_vret hG (hx_dq tdX5_init_0 20 rfl) rfl (hK _ _ hw) (Nat.le_of_ble_eq_true rfl) (Nat.le_of_ble_eq_true rfl)
def sX5_init : hx_ST := fun Λ μ as KK => ∃ (v0 : Nat) (v1 : Nat) (K : hx_L → hx_M → Prop), as = [.ref v0, .ref v1] ∧ wX5_init Λ μ v0 v1 K ∧ (∀ (Λ1 : hx_L) (m : hx_M), K Λ1 m → KK none Λ1 m)
theorem sX5_init_mk {Λ : hx_L} {μ : hx_M} {KK : hx_KT} {v0 : Nat} {v1 : Nat} {K : hx_L → hx_M → Prop}  (hw : wX5_init Λ μ v0 v1 K) (hk : ∀ (Λ1 : hx_L) (m : hx_M), K Λ1 m → KK none Λ1 m) : sX5_init Λ μ [.ref v0, .ref v1] KK := ⟨_, _, _, rfl, hw, hk⟩
theorem conX5_init : hx_Con yX5_init cX5_init 2 (none) 1 3 180 sX5_init := by
  refine hx_con_ofA (by decide +kernel) tokX5 taokX5_init (Or.inr rfl) (by decide) ?_ ?_
  · intro Λ μ as KK h
    obtain ⟨v0, v1, K, rfl, hw, hK⟩ := h
    exact Nat.le_of_ble_eq_true rfl
  · intro G KK hG hM cA Λ μ as h
    obtain ⟨v0, v1, K, rfl, hw, hK⟩ := h
    exact cl_sub hG (hx_le_c rfl (hx_le_c rfl hx_le_0)) (kX5_init hG hM cA _ _ hK hw)
/-! HemLine$Plates.add(III)I -/
def tbX5_add_0 : List (Nat × Instr × Nat) := [(0, .aload_n 0, 1), (1, .getfield 15, 3), (4, .bipush 60, 2), (6, .if_icmp .lt 5, 3), (9, .iconst (-1), 1), (10, .ireturn, 1), (11, .aload_n 0, 1), (12, .getfield 19, 3), (15, .aload_n 0, 1), (16, .getfield 15, 3), (19, .iload_n 1, 1), (20, .iastore, 1), (21, .aload_n 0, 1), (22, .getfield 23, 3), (25, .aload_n 0, 1), (26, .getfield 15, 3), (29, .iload_n 2, 1), (30, .iastore, 1), (31, .aload_n 0, 1), (32, .getfield 26, 3), (35, .aload_n 0, 1), (36, .getfield 15, 3), (39, .iload_n 3, 1), (40, .iastore, 1), (41, .aload_n 0, 1), (42, .dup, 1), (43, .getfield 15, 3), (46, .iconst 1, 1), (47, .iadd, 1), (48, .putfield 15, 3), (51, .aload_n 0, 1), (52, .getfield 15, 3)]
def tbX5_add_1 : List (Nat × Instr × Nat) := [(55, .ireturn, 1)]
theorem tdX5_add_0 : hx_dt cX5_add tbX5_add_0 = true := by decide +kernel
theorem tdX5_add_1 : hx_dt cX5_add tbX5_add_1 = true := by decide +kernel
def wX5_add (μ : hx_M) (v1 : Int32) (v2 : Int32) (v3 : Int32) (K : Int32 → hx_M → Prop) : Prop := ((μ.1 39 1) < 60 → (vp_in (μ.1 39 1) 60 ∧ vp_in (μ.1 39 1) 60 ∧ vp_in (μ.1 39 1) 60 ∧ ∀ m_4 : hx_M, m_4 = (hx_sI (hx_sI (hx_sI (hx_sI μ 40 ((μ.1 39 1).toNatClampNeg) v1) 41 ((μ.1 39 1).toNatClampNeg) v2) 42 ((μ.1 39 1).toNatClampNeg) v3) 39 1 ((μ.1 39 1) + 1)) → K (m_4.1 39 1) m_4)) ∧ (¬ ((μ.1 39 1) < 60) → (K (-1) μ))
set_option maxRecDepth 100000 in
set_option maxHeartbeats 4000000 in
theorem kX5_add {G : hx_GT} {KK : hx_KT} (hG : hx_K cX5_add 4 0 0 (some .int) TbX5 KK G) (cA : hx_CA RX5 cX5_add 1 0 0 G) {Λ : hx_L} (hF : cF Λ) {μ : hx_M} (v1 : Int32) (v2 : Int32) (v3 : Int32) {K : Int32 → hx_M → Prop} (hK : ∀ (r : Int32) (m : hx_M), K r m → KK (some (.int r)) Λ m) (hw : wX5_add μ v1 v2 v3 K) : G Λ μ (0, 0) 0 [some (.ref 39), some (.int v1), some (.int v2), some (.int v3)] [] := by
  unfold wX5_add at hw
  refine cl_aload_n hG (hx_dq tdX5_add_0 0 rfl) rfl (cl_getI hG fmX5_15 (hx_dq tdX5_add_0 1 rfl) (cF_S39 hF) (cl_bipush hG 60 (hx_dq tdX5_add_0 2 rfl) bipush_60 (cl_icmp_lt hG 11 (hx_dq tdX5_add_0 3 rfl) rfl (fun c6 => ?_) (fun c6 => ?_))))
  · replace hw := hw.1 c6
    obtain ⟨i20_1, hw⟩ := hw
    obtain ⟨i30_2, hw⟩ := hw
    obtain ⟨i40_3, hw⟩ := hw
    refine cl_aload_n hG (hx_dq tdX5_add_0 6 rfl) rfl (cl_getS hG fmX5_19 (hx_dq tdX5_add_0 7 rfl) (cF_S39 hF) (cF_R39_2 hF) (cl_aload_n hG (hx_dq tdX5_add_0 8 rfl) rfl (cl_getI hG fmX5_15 (hx_dq tdX5_add_0 9 rfl) (cF_S39 hF) (cl_iload_n hG (hx_dq tdX5_add_0 10 rfl) rfl (cl_iast hG (hx_dq tdX5_add_0 11 rfl) (cF_S40 hF) i20_1 (cl_aload_n hG (hx_dq tdX5_add_0 12 rfl) rfl (cl_getS hG fmX5_23 (hx_dq tdX5_add_0 13 rfl) (cF_S39 hF) (cF_R39_3 hF) (cl_aload_n hG (hx_dq tdX5_add_0 14 rfl) rfl (cl_getI hG fmX5_15 (hx_dq tdX5_add_0 15 rfl) (cF_S39 hF) (cl_iload_n hG (hx_dq tdX5_add_0 16 rfl) rfl (cl_iast hG (hx_dq tdX5_add_0 17 rfl) (cF_S41 hF) i30_2 (cl_aload_n hG (hx_dq tdX5_add_0 18 rfl) rfl (cl_getS hG fmX5_26 (hx_dq tdX5_add_0 19 rfl) (cF_S39 hF) (cF_R39_4 hF) (cl_aload_n hG (hx_dq tdX5_add_0 20 rfl) rfl (cl_getI hG fmX5_15 (hx_dq tdX5_add_0 21 rfl) (cF_S39 hF) (cl_iload_n hG (hx_dq tdX5_add_0 22 rfl) rfl (cl_iast hG (hx_dq tdX5_add_0 23 rfl) (cF_S42 hF) i40_3 (cl_aload_n hG (hx_dq tdX5_add_0 24 rfl) rfl (cl_dup hG (hx_dq tdX5_add_0 25 rfl) rfl (cl_getI hG fmX5_15 (hx_dq tdX5_add_0 26 rfl) (cF_S39 hF) (cl_iconst hG 1 (hx_dq tdX5_add_0 27 rfl) iconst_1 (cl_iadd hG (hx_dq tdX5_add_0 28 rfl) (cl_putI hG fmX5_15 (hx_dq tdX5_add_0 29 rfl) (cF_S39 hF) (cl_nmM (fun m_4 e_4 => ?_)))))))))))))))))))))))))
    replace hw := hw m_4 e_4
    exact cl_aload_n hG (hx_dq tdX5_add_0 30 rfl) rfl (cl_getI hG fmX5_15 (hx_dq tdX5_add_0 31 rfl) (cF_S39 hF) (cl_iret hG (hx_dq tdX5_add_1 0 rfl) rfl rfl (hK _ _ hw) (Nat.le_refl _) (Nat.le_refl _)))
  · replace hw := hw.2 c6
    exact cl_iconst hG (-1) (hx_dq tdX5_add_0 4 rfl) iconst_m1 (cl_iret hG (hx_dq tdX5_add_0 5 rfl) rfl rfl (hK _ _ hw) (Nat.le_refl _) (Nat.le_refl _))
def sX5_add : hx_ST := fun Λ μ as KK => cF Λ ∧ ∃ (v1 : Int32) (v2 : Int32) (v3 : Int32) (K : Int32 → hx_M → Prop), as = [.ref 39, .int v1, .int v2, .int v3] ∧ wX5_add μ v1 v2 v3 K ∧ (∀ (r : Int32) (m : hx_M), K r m → KK (some (.int r)) Λ m)
theorem sX5_add_mk {Λ : hx_L} {μ : hx_M} {KK : hx_KT} {v1 : Int32} {v2 : Int32} {v3 : Int32} {K : Int32 → hx_M → Prop} (hF : cF Λ) (hw : wX5_add μ v1 v2 v3 K) (hk : ∀ (r : Int32) (m : hx_M), K r m → KK (some (.int r)) Λ m) : sX5_add Λ μ [.ref 39, .int v1, .int v2, .int v3] KK := ⟨hF, _, _, _, _, rfl, hw, hk⟩
theorem conX5_add : hx_Con yX5_add cX5_add 4 (some .int) 1 0 0 sX5_add := by
  refine hx_con_of (by decide +kernel) tokX5 (by decide) ?_ ?_
  · intro Λ μ as KK h
    obtain ⟨hF, v1, v2, v3, K, rfl, hw, hK⟩ := h
    exact Nat.le_of_ble_eq_true rfl
  · intro G KK hG cA Λ μ as h
    obtain ⟨hF, v1, v2, v3, K, rfl, hw, hK⟩ := h
    exact cl_sub hG (hx_le_c rfl (hx_le_c rfl (hx_le_c rfl (hx_le_c rfl hx_le_0)))) (kX5_add hG cA hF _ _ _ hK hw)
/-! HemLine$World.hasSeason(I)Z -/
def tbX10_hasSeason_0 : List (Nat × Instr × Nat) := [(0, .iload_n 1, 1), (1, .iconst 0, 1), (2, .aload_n 0, 1), (3, .getfield 50, 3), (6, .invokestatic 79, 3), (9, .ireturn, 1)]
theorem tdX10_hasSeason_0 : hx_dt cX10_hasSeason tbX10_hasSeason_0 = true := by decide +kernel
theorem caX10_hasSeason_79 {G : hx_GT} (cA : hx_CA RX10 cX10_hasSeason 2 0 0 G) : hx_CS cX10_hasSeason G 0 0 79 3 sX11_within 0 0 := cA.2.2.1 conX11_within ⟨by decide +kernel, by decide +kernel, by decide +kernel⟩ mw_790 mw_478 mw_84 mw_479 (by decide) (by decide)
def wX10_hasSeason (μ : hx_M) (v1 : Int32) (K : Int32 → Prop) : Prop := wX11_within v1 0 (μ.1 7 7) (fun r6_2 => (r6_2 = 0 ∨ r6_2 = 1) ∧ K r6_2)
set_option maxRecDepth 100000 in
set_option maxHeartbeats 4000000 in
theorem kX10_hasSeason {G : hx_GT} {KK : hx_KT} (hG : hx_K cX10_hasSeason 2 0 0 (some .boolean) TbX10 KK G) (cA : hx_CA RX10 cX10_hasSeason 2 0 0 G) {Λ : hx_L} (hF : cF Λ) {μ : hx_M} (v1 : Int32) {K : Int32 → Prop} (hK : ∀ (r : Int32), K r → KK (some (.int r)) Λ μ) (hw : wX10_hasSeason μ v1 K) : G Λ μ (0, 0) 0 [some (.ref 7), some (.int v1)] [] := by
  unfold wX10_hasSeason at hw
  refine cl_iload_n hG (hx_dq tdX10_hasSeason_0 0 rfl) rfl (cl_iconst hG 0 (hx_dq tdX10_hasSeason_0 1 rfl) iconst_0 (cl_aload_n hG (hx_dq tdX10_hasSeason_0 2 rfl) rfl (cl_getI hG fmX10_50 (hx_dq tdX10_hasSeason_0 3 rfl) (cF_S7 hF) (cl_callS3 (caX10_hasSeason_79 cA) (hx_dq tdX10_hasSeason_0 4 rfl) (Nat.le_of_ble_eq_true rfl) (Nat.le_refl _) (Nat.le_refl _) (sX11_within_mk hw (fun r6_2 hw => ?_))))))
  obtain ⟨b9, hw⟩ := hw
  exact cl_iret hG (hx_dq tdX10_hasSeason_0 5 rfl) rfl (hx_nb b9) (hK _ hw) (Nat.le_refl _) (Nat.le_refl _)
def sX10_hasSeason : hx_ST := fun Λ μ as KK => cF Λ ∧ ∃ (v1 : Int32) (K : Int32 → Prop), as = [.ref 7, .int v1] ∧ wX10_hasSeason μ v1 K ∧ (∀ (r : Int32), K r → KK (some (.int r)) Λ μ)
theorem sX10_hasSeason_mk {Λ : hx_L} {μ : hx_M} {KK : hx_KT} {v1 : Int32} {K : Int32 → Prop} (hF : cF Λ) (hw : wX10_hasSeason μ v1 K) (hk : ∀ (r : Int32), K r → KK (some (.int r)) Λ μ) : sX10_hasSeason Λ μ [.ref 7, .int v1] KK := ⟨hF, _, _, rfl, hw, hk⟩
theorem conX10_hasSeason : hx_Con yX10_hasSeason cX10_hasSeason 2 (some .boolean) 2 0 0 sX10_hasSeason := by
  refine hx_con_of (by decide +kernel) tokX10 (by decide) ?_ ?_
  · intro Λ μ as KK h
    obtain ⟨hF, v1, K, rfl, hw, hK⟩ := h
    exact Nat.le_of_ble_eq_true rfl
  · intro G KK hG cA Λ μ as h
    obtain ⟨hF, v1, K, rfl, hw, hK⟩ := h
    exact cl_sub hG (hx_le_c rfl (hx_le_c rfl hx_le_0)) (kX10_hasSeason hG cA hF _ hK hw)
/-! HemLine$Plates.isWithinWorn(II)Z -/
def tbX5_isWithinWorn_0 : List (Nat × Instr × Nat) := [(0, .bipush 60, 2), (2, .istore_n 3, 1), (3, .iconst 0, 1), (4, .istore 4, 2), (6, .iconst 0, 1), (7, .istore 5, 2), (9, .iload 5, 2), (11, .aload_n 0, 1), (12, .getfield 9, 3), (15, .getfield 48, 3), (18, .getfield 52, 3), (21, .if_icmp .ge 40, 3), (24, .aload_n 0, 1), (25, .getfield 9, 3), (28, .getfield 55, 3), (31, .iload 5, 2), (33, .iload_n 2, 1), (34, .invokevirtual 59, 3), (37, .istore 6, 2), (39, .iload_n 3, 1), (40, .iload 6, 2), (42, .invokestatic 65, 3), (45, .istore_n 3, 1), (46, .iload 4, 2), (48, .iload 6, 2), (50, .invokestatic 68, 3), (53, .istore 4, 2), (55, .iinc 5 1, 3), (58, .goto (-49), 3), (61, .iload_n 1, 1), (62, .iload_n 3, 1), (63, .iload 4, 2)]
def tbX5_isWithinWorn_1 : List (Nat × Instr × Nat) := [(65, .invokestatic 71, 3), (68, .ireturn, 1)]
theorem tdX5_isWithinWorn_0 : hx_dt cX5_isWithinWorn tbX5_isWithinWorn_0 = true := by decide +kernel
theorem tdX5_isWithinWorn_1 : hx_dt cX5_isWithinWorn tbX5_isWithinWorn_1 = true := by decide +kernel
theorem caX5_isWithinWorn_59 {G : hx_GT} (cA : hx_CA RX5 cX5_isWithinWorn 2 0 0 G) : hx_CV cX5_isWithinWorn G 0 0 59 3 2 sX3_lengthOf 0 0 := cA.1 conX3_lengthOf rfl rfl ⟨by decide +kernel, by decide +kernel, by decide +kernel⟩ mw_1000 mw_717 mw_718 mw_88 mw_719 (by decide) (by decide)
theorem caX5_isWithinWorn_71 {G : hx_GT} (cA : hx_CA RX5 cX5_isWithinWorn 2 0 0 G) : hx_CS cX5_isWithinWorn G 0 0 71 3 sX11_within 0 0 := cA.2.2.1 conX11_within ⟨by decide +kernel, by decide +kernel, by decide +kernel⟩ mw_1003 mw_478 mw_84 mw_479 (by decide) (by decide)
def wX5_isWithinWorn_L9 (μ : hx_M) (v1 : Int32) (v2 : Int32) (K : Int32 → Prop) (K61 : Int32 → Int32 → Prop) : Nat → Int32 → Int32 → Int32 → Prop
  | 0, _, _, _ => False
  | n + 1, v3, v4, v5 => ((μ.1 8 0) ≤ v5 → (K61 v3 v4)) ∧ (¬ ((μ.1 8 0) ≤ v5) → (wX3_lengthOf μ v5 v2 (fun r34_2 => wX5_isWithinWorn_L9 μ v1 v2 K K61 n (if r34_2 < v3 then r34_2 else v3) (if v4 < r34_2 then r34_2 else v4) (v5 + 1))))
set_option maxRecDepth 100000 in
set_option maxHeartbeats 4000000 in
theorem kX5_isWithinWorn_L9 {G : hx_GT} {KK : hx_KT} (hG : hx_K cX5_isWithinWorn 7 0 0 (some .boolean) TbX5 KK G) (cA : hx_CA RX5 cX5_isWithinWorn 2 0 0 G) {Λ : hx_L} (hF : cF Λ) {μ : hx_M} (v1 : Int32) (v2 : Int32) {K : Int32 → Prop} (hK : ∀ (r : Int32), K r → KK (some (.int r)) Λ μ) {K61 : Int32 → Int32 → Prop} (hk61 : ∀ (v3 : Int32) (v4 : Int32), K61 v3 v4 → G Λ μ (0, 0) 61 [none, some (.int v1), none, some (.int v3), some (.int v4), none, none] []) : ∀ (n : Nat) (v3 : Int32) (v4 : Int32) (v5 : Int32), wX5_isWithinWorn_L9 μ v1 v2 K K61 n v3 v4 v5 → G Λ μ (0, 0) 9 [some (.ref 39), some (.int v1), some (.int v2), some (.int v3), some (.int v4), some (.int v5), none] [] := by
  intro n
  induction n with
  | zero =>
    intro v3 v4 v5 hw
    exact False.elim (by simpa only [wX5_isWithinWorn_L9] using hw)
  | succ n ih =>
    intro v3 v4 v5 hw
    unfold wX5_isWithinWorn_L9 at hw
    refine cl_iload hG (hx_dq tdX5_isWithinWorn_0 6 rfl) rfl (cl_aload_n hG (hx_dq tdX5_isWithinWorn_0 7 rfl) rfl (cl_getS hG fmX5_9 (hx_dq tdX5_isWithinWorn_0 8 rfl) (cF_S39 hF) (cF_R39_0 hF) (cl_getS hG fmX5_48 (hx_dq tdX5_isWithinWorn_0 9 rfl) (cF_S7 hF) (cF_R7_0 hF) (cl_getI hG fmX5_52 (hx_dq tdX5_isWithinWorn_0 10 rfl) (cF_S8 hF) (cl_icmp_ge hG 61 (hx_dq tdX5_isWithinWorn_0 11 rfl) rfl (fun c21 => ?_) (fun c21 => ?_))))))
    · replace hw := hw.1 c21
      exact cl_sub hG (hx_le_n (hx_le_c rfl (hx_le_n (hx_le_c rfl (hx_le_c rfl (hx_le_n (hx_le_n hx_le_0))))))) (hk61 v3 v4 hw)
    · replace hw := hw.2 c21
      refine cl_aload_n hG (hx_dq tdX5_isWithinWorn_0 12 rfl) rfl (cl_getS hG fmX5_9 (hx_dq tdX5_isWithinWorn_0 13 rfl) (cF_S39 hF) (cF_R39_0 hF) (cl_getS hG fmX5_55 (hx_dq tdX5_isWithinWorn_0 14 rfl) (cF_S7 hF) (cF_R7_1 hF) (cl_iload hG (hx_dq tdX5_isWithinWorn_0 15 rfl) rfl (cl_iload_n hG (hx_dq tdX5_isWithinWorn_0 16 rfl) rfl (cl_callV2 (caX5_isWithinWorn_59 cA) (hx_dq tdX5_isWithinWorn_0 17 rfl) (cF_S15 hF) (Nat.le_of_ble_eq_true rfl) (Nat.le_refl _) (Nat.le_refl _) (sX3_lengthOf_mk hF hw (fun r34_2 hw => ?_)))))))
      exact cl_istore hG (hx_dq tdX5_isWithinWorn_0 18 rfl) (Nat.le_of_ble_eq_true rfl) rfl (cl_iload_n hG (hx_dq tdX5_isWithinWorn_0 19 rfl) rfl (cl_iload hG (hx_dq tdX5_isWithinWorn_0 20 rfl) rfl (cl_mmin hG mmX5_65 (hx_dq tdX5_isWithinWorn_0 21 rfl) (Nat.le_refl _) (Nat.le_refl _) (Nat.le_of_ble_eq_true rfl) (cl_istore_n hG (hx_dq tdX5_isWithinWorn_0 22 rfl) (Nat.le_of_ble_eq_true rfl) rfl (cl_iload hG (hx_dq tdX5_isWithinWorn_0 23 rfl) rfl (cl_iload hG (hx_dq tdX5_isWithinWorn_0 24 rfl) rfl (cl_mmax hG mmX5_68 (hx_dq tdX5_isWithinWorn_0 25 rfl) (Nat.le_refl _) (Nat.le_refl _) (Nat.le_of_ble_eq_true rfl) (cl_istore hG (hx_dq tdX5_isWithinWorn_0 26 rfl) (Nat.le_of_ble_eq_true rfl) rfl (cl_iinc hG (v5 + 1) (hx_dq tdX5_isWithinWorn_0 27 rfl) rfl (congrArg (fun z => v5 + z) iconst_1) (Nat.le_of_ble_eq_true rfl) rfl (cl_goto hG 9 (hx_dq tdX5_isWithinWorn_0 28 rfl) rfl (cl_sub hG (hx_le_c rfl (hx_le_c rfl (hx_le_c rfl (hx_le_c rfl (hx_le_c rfl (hx_le_c rfl (hx_le_n hx_le_0))))))) (ih (if r34_2 < v3 then r34_2 else v3) (if v4 < r34_2 then r34_2 else v4) (v5 + 1) hw))))))))))))
def wX5_isWithinWorn (μ : hx_M) (v1 : Int32) (v2 : Int32) (K : Int32 → Prop) : Prop := ∃ n9_6, wX5_isWithinWorn_L9 μ v1 v2 K (fun v3_3 v4_3 => wX11_within v1 v3_3 v4_3 (fun r65_5 => (r65_5 = 0 ∨ r65_5 = 1) ∧ K r65_5)) n9_6 60 0 0
set_option maxRecDepth 100000 in
set_option maxHeartbeats 4000000 in
theorem kX5_isWithinWorn {G : hx_GT} {KK : hx_KT} (hG : hx_K cX5_isWithinWorn 7 0 0 (some .boolean) TbX5 KK G) (cA : hx_CA RX5 cX5_isWithinWorn 2 0 0 G) {Λ : hx_L} (hF : cF Λ) {μ : hx_M} (v1 : Int32) (v2 : Int32) {K : Int32 → Prop} (hK : ∀ (r : Int32), K r → KK (some (.int r)) Λ μ) (hw : wX5_isWithinWorn μ v1 v2 K) : G Λ μ (0, 0) 0 [some (.ref 39), some (.int v1), some (.int v2), none, none, none, none] [] := by
  unfold wX5_isWithinWorn at hw
  refine cl_bipush hG 60 (hx_dq tdX5_isWithinWorn_0 0 rfl) bipush_60 (cl_istore_n hG (hx_dq tdX5_isWithinWorn_0 1 rfl) (Nat.le_of_ble_eq_true rfl) rfl (cl_iconst hG 0 (hx_dq tdX5_isWithinWorn_0 2 rfl) iconst_0 (cl_istore hG (hx_dq tdX5_isWithinWorn_0 3 rfl) (Nat.le_of_ble_eq_true rfl) rfl (cl_iconst hG 0 (hx_dq tdX5_isWithinWorn_0 4 rfl) iconst_0 (cl_istore hG (hx_dq tdX5_isWithinWorn_0 5 rfl) (Nat.le_of_ble_eq_true rfl) rfl ?_)))))
  obtain ⟨n_, hw⟩ := hw
  refine cl_sub hG (hx_le_c rfl (hx_le_c rfl (hx_le_c rfl (hx_le_c rfl (hx_le_c rfl (hx_le_c rfl (hx_le_n hx_le_0))))))) (kX5_isWithinWorn_L9 hG cA hF v1 v2 hK (fun v3_3 v4_3 hw => ?_) n_ 60 0 0 hw)
  · refine cl_iload_n hG (hx_dq tdX5_isWithinWorn_0 29 rfl) rfl (cl_iload_n hG (hx_dq tdX5_isWithinWorn_0 30 rfl) rfl (cl_iload hG (hx_dq tdX5_isWithinWorn_0 31 rfl) rfl (cl_callS3 (caX5_isWithinWorn_71 cA) (hx_dq tdX5_isWithinWorn_1 0 rfl) (Nat.le_of_ble_eq_true rfl) (Nat.le_refl _) (Nat.le_refl _) (sX11_within_mk hw (fun r65_5 hw => ?_)))))
    obtain ⟨b68, hw⟩ := hw
    exact cl_iret hG (hx_dq tdX5_isWithinWorn_1 1 rfl) rfl (hx_nb b68) (hK _ hw) (Nat.le_refl _) (Nat.le_refl _)
def sX5_isWithinWorn : hx_ST := fun Λ μ as KK => cF Λ ∧ ∃ (v1 : Int32) (v2 : Int32) (K : Int32 → Prop), as = [.ref 39, .int v1, .int v2] ∧ wX5_isWithinWorn μ v1 v2 K ∧ (∀ (r : Int32), K r → KK (some (.int r)) Λ μ)
theorem sX5_isWithinWorn_mk {Λ : hx_L} {μ : hx_M} {KK : hx_KT} {v1 : Int32} {v2 : Int32} {K : Int32 → Prop} (hF : cF Λ) (hw : wX5_isWithinWorn μ v1 v2 K) (hk : ∀ (r : Int32), K r → KK (some (.int r)) Λ μ) : sX5_isWithinWorn Λ μ [.ref 39, .int v1, .int v2] KK := ⟨hF, _, _, _, rfl, hw, hk⟩
theorem conX5_isWithinWorn : hx_Con yX5_isWithinWorn cX5_isWithinWorn 7 (some .boolean) 2 0 0 sX5_isWithinWorn := by
  refine hx_con_of (by decide +kernel) tokX5 (by decide) ?_ ?_
  · intro Λ μ as KK h
    obtain ⟨hF, v1, v2, K, rfl, hw, hK⟩ := h
    exact Nat.le_of_ble_eq_true rfl
  · intro G KK hG cA Λ μ as h
    obtain ⟨hF, v1, v2, K, rfl, hw, hK⟩ := h
    exact cl_sub hG (hx_le_c rfl (hx_le_c rfl (hx_le_c rfl (hx_le_n (hx_le_n (hx_le_n (hx_le_n hx_le_0))))))) (kX5_isWithinWorn hG cA hF _ _ hK hw)
/-! HemLine$Plates.offOf(II)I -/
def tbX5_offOf_0 : List (Nat × Instr × Nat) := [(0, .iconst 0, 1), (1, .istore_n 3, 1), (2, .iconst 0, 1), (3, .istore 4, 2), (5, .iconst 0, 1), (6, .istore 5, 2), (8, .iconst 0, 1), (9, .istore 6, 2), (11, .iload 6, 2), (13, .aload_n 0, 1), (14, .getfield 15, 3), (17, .if_icmp .ge 102, 3), (20, .aload_n 0, 1), (21, .getfield 19, 3), (24, .iload 6, 2), (26, .iaload, 1), (27, .iload_n 1, 1), (28, .if_icmp .ne 85, 3), (31, .aload_n 0, 1), (32, .getfield 9, 3), (35, .aload_n 0, 1), (36, .getfield 23, 3), (39, .iload 6, 2), (41, .iaload, 1), (42, .invokevirtual 29, 3), (45, .ifCond .eq 68, 3), (48, .iload_n 3, 1), (49, .bipush 100, 2), (51, .aload_n 0, 1), (52, .getfield 26, 3), (55, .iload 6, 2), (57, .iaload, 1)]
def tbX5_offOf_1 : List (Nat × Instr × Nat) := [(58, .imul, 1), (59, .aload_n 0, 1), (60, .getfield 9, 3), (63, .aload_n 0, 1), (64, .getfield 23, 3), (67, .iload 6, 2), (69, .iaload, 1), (70, .invokevirtual 35, 3), (73, .isub, 1), (74, .invokestatic 39, 3), (77, .iadd, 1), (78, .istore_n 3, 1), (79, .iinc 4 1, 3), (82, .iload 5, 2), (84, .aload_n 0, 1), (85, .aload_n 0, 1), (86, .getfield 26, 3), (89, .iload 6, 2), (91, .iaload, 1), (92, .aload_n 0, 1), (93, .getfield 23, 3), (96, .iload 6, 2), (98, .iaload, 1), (99, .invokevirtual 44, 3), (102, .ifCond .eq 7, 3), (105, .iconst 1, 1), (106, .goto 4, 3), (109, .iconst 0, 1), (110, .iadd, 1), (111, .istore 5, 2), (113, .iinc 6 1, 3), (116, .goto (-105), 3)]
def tbX5_offOf_2 : List (Nat × Instr × Nat) := [(119, .iload_n 2, 1), (120, .ifCond .ne 7, 3), (123, .iload_n 3, 1), (124, .goto 15, 3), (127, .iload_n 2, 1), (128, .iconst 1, 1), (129, .if_icmp .ne 8, 3), (132, .iload 4, 2), (134, .goto 5, 3), (137, .iload 5, 2), (139, .ireturn, 1)]
theorem tdX5_offOf_0 : hx_dt cX5_offOf tbX5_offOf_0 = true := by decide +kernel
theorem tdX5_offOf_1 : hx_dt cX5_offOf tbX5_offOf_1 = true := by decide +kernel
theorem tdX5_offOf_2 : hx_dt cX5_offOf tbX5_offOf_2 = true := by decide +kernel
theorem caX5_offOf_29 {G : hx_GT} (cA : hx_CA RX5 cX5_offOf 3 0 0 G) : hx_CV cX5_offOf G 0 0 29 10 1 sX10_hasSeason 0 0 := cA.1 conX10_hasSeason rfl rfl ⟨by decide +kernel, by decide +kernel, by decide +kernel⟩ mw_993 mw_787 mw_788 mw_86 mw_789 (by decide) (by decide)
theorem caX5_offOf_35 {G : hx_GT} (cA : hx_CA RX5 cX5_offOf 3 0 0 G) : hx_CV cX5_offOf G 0 0 35 10 1 sX10_lineAt 0 0 := cA.1 conX10_lineAt rfl rfl ⟨by decide +kernel, by decide +kernel, by decide +kernel⟩ mw_994 mw_792 mw_793 mw_86 mw_794 (by decide) (by decide)
theorem caX5_offOf_44 {G : hx_GT} (cA : hx_CA RX5 cX5_offOf 3 0 0 G) : hx_CV cX5_offOf G 0 0 44 5 2 sX5_isWithinWorn 0 0 := cA.1 conX5_isWithinWorn rfl rfl ⟨by decide +kernel, by decide +kernel, by decide +kernel⟩ mw_996 mw_998 mw_30 mw_95 mw_999 (by decide) (by decide)
def wX5_offOf_J113 (μ : hx_M) (K : Int32 → Prop) (K11 : Int32 → Int32 → Int32 → Int32 → Prop) (v1 : Int32) (v2 : Int32) (v3 : Int32) (v4 : Int32) (v5 : Int32) (v6 : Int32)   : Prop := K11 v3 v4 v5 (v6 + 1)
set_option maxRecDepth 100000 in
set_option maxHeartbeats 4000000 in
theorem kX5_offOf_J113 {G : hx_GT} {KK : hx_KT} (hG : hx_K cX5_offOf 7 0 0 (some .int) TbX5 KK G) (cA : hx_CA RX5 cX5_offOf 3 0 0 G) {Λ : hx_L} (hF : cF Λ) {μ : hx_M} (v1 : Int32) (v2 : Int32) (v3 : Int32) (v4 : Int32) (v5 : Int32) (v6 : Int32)  {K : Int32 → Prop} (hK : ∀ (r : Int32), K r → KK (some (.int r)) Λ μ) {K11 : Int32 → Int32 → Int32 → Int32 → Prop} (hk11 : ∀ (v3 : Int32) (v4 : Int32) (v5 : Int32) (v6 : Int32), K11 v3 v4 v5 v6 → G Λ μ (0, 0) 11 [some (.ref 39), some (.int v1), some (.int v2), some (.int v3), some (.int v4), some (.int v5), some (.int v6)] []) (hw : wX5_offOf_J113 μ K K11 v1 v2 v3 v4 v5 v6) : G Λ μ (0, 0) 113 [some (.ref 39), some (.int v1), some (.int v2), some (.int v3), some (.int v4), some (.int v5), some (.int v6)] [] := by
  unfold wX5_offOf_J113 at hw
  exact cl_iinc hG (v6 + 1) (hx_dq tdX5_offOf_1 30 rfl) rfl (congrArg (fun z => v6 + z) iconst_1) (Nat.le_of_ble_eq_true rfl) rfl (cl_goto hG 11 (hx_dq tdX5_offOf_1 31 rfl) rfl (cl_sub hG (hx_le_c rfl (hx_le_c rfl (hx_le_c rfl (hx_le_c rfl (hx_le_c rfl (hx_le_c rfl (hx_le_c rfl hx_le_0))))))) (hk11 v3 v4 v5 (v6 + 1) hw)))
def wX5_offOf_J113_14 (μ : hx_M) (K : Int32 → Prop) (K11 : Int32 → Int32 → Int32 → Int32 → Prop) (v1 : Int32) (v2 : Int32) (v3 : Int32) (v4 : Int32) (v5 : Int32) (v6 : Int32)   : Prop := K11 v3 v4 v5 (v6 + 1)
set_option maxRecDepth 100000 in
set_option maxHeartbeats 4000000 in
theorem kX5_offOf_J113_14 {G : hx_GT} {KK : hx_KT} (hG : hx_K cX5_offOf 7 0 0 (some .int) TbX5 KK G) (cA : hx_CA RX5 cX5_offOf 3 0 0 G) {Λ : hx_L} (hF : cF Λ) {μ : hx_M} (v1 : Int32) (v2 : Int32) (v3 : Int32) (v4 : Int32) (v5 : Int32) (v6 : Int32)  {K : Int32 → Prop} (hK : ∀ (r : Int32), K r → KK (some (.int r)) Λ μ) {K11 : Int32 → Int32 → Int32 → Int32 → Prop} (hk11 : ∀ (v3 : Int32) (v4 : Int32) (v5 : Int32) (v6 : Int32), K11 v3 v4 v5 v6 → G Λ μ (0, 0) 11 [some (.ref 39), some (.int v1), some (.int v2), some (.int v3), some (.int v4), some (.int v5), some (.int v6)] []) (hw : wX5_offOf_J113_14 μ K K11 v1 v2 v3 v4 v5 v6) : G Λ μ (0, 0) 113 [some (.ref 39), some (.int v1), some (.int v2), some (.int v3), some (.int v4), some (.int v5), some (.int v6)] [] := by
  unfold wX5_offOf_J113_14 at hw
  exact cl_iinc hG (v6 + 1) (hx_dq tdX5_offOf_1 30 rfl) rfl (congrArg (fun z => v6 + z) iconst_1) (Nat.le_of_ble_eq_true rfl) rfl (cl_goto hG 11 (hx_dq tdX5_offOf_1 31 rfl) rfl (cl_sub hG (hx_le_c rfl (hx_le_c rfl (hx_le_c rfl (hx_le_c rfl (hx_le_c rfl (hx_le_c rfl (hx_le_c rfl hx_le_0))))))) (hk11 v3 v4 v5 (v6 + 1) hw)))
def wX5_offOf_J110 (μ : hx_M) (K : Int32 → Prop) (K11 : Int32 → Int32 → Int32 → Int32 → Prop) (v1 : Int32) (v2 : Int32) (v3 : Int32) (v4 : Int32) (v6 : Int32) (t0 : Int32) (t1 : Int32)  : Prop := wX5_offOf_J113_14 μ K (K11) v1 v2 v3 v4 (t0 + t1) v6
set_option maxRecDepth 100000 in
set_option maxHeartbeats 4000000 in
theorem kX5_offOf_J110 {G : hx_GT} {KK : hx_KT} (hG : hx_K cX5_offOf 7 0 0 (some .int) TbX5 KK G) (cA : hx_CA RX5 cX5_offOf 3 0 0 G) {Λ : hx_L} (hF : cF Λ) {μ : hx_M} (v1 : Int32) (v2 : Int32) (v3 : Int32) (v4 : Int32) (v6 : Int32) (t0 : Int32) (t1 : Int32) {K : Int32 → Prop} (hK : ∀ (r : Int32), K r → KK (some (.int r)) Λ μ) {K11 : Int32 → Int32 → Int32 → Int32 → Prop} (hk11 : ∀ (v3 : Int32) (v4 : Int32) (v5 : Int32) (v6 : Int32), K11 v3 v4 v5 v6 → G Λ μ (0, 0) 11 [some (.ref 39), some (.int v1), some (.int v2), some (.int v3), some (.int v4), some (.int v5), some (.int v6)] []) (hw : wX5_offOf_J110 μ K K11 v1 v2 v3 v4 v6 t0 t1) : G Λ μ (0, 0) 110 [some (.ref 39), some (.int v1), some (.int v2), some (.int v3), some (.int v4), none, some (.int v6)] [.int t1, .int t0] := by
  unfold wX5_offOf_J110 at hw
  refine cl_iadd hG (hx_dq tdX5_offOf_1 28 rfl) (cl_istore hG (hx_dq tdX5_offOf_1 29 rfl) (Nat.le_of_ble_eq_true rfl) rfl ?_)
  exact cl_sub hG (hx_le_c rfl (hx_le_c rfl (hx_le_c rfl (hx_le_c rfl (hx_le_c rfl (hx_le_c rfl (hx_le_c rfl hx_le_0))))))) (kX5_offOf_J113_14 hG cA hF v1 v2 v3 v4 (t0 + t1) v6 hK (fun z0 z1 z2 z3 hw => hk11 z0 z1 z2 z3 hw) hw)
def wX5_offOf_L11 (μ : hx_M) (v1 : Int32) (v2 : Int32) (K : Int32 → Prop) (K119 : Int32 → Int32 → Int32 → Prop) : Nat → Int32 → Int32 → Int32 → Int32 → Prop
  | 0, _, _, _, _ => False
  | n + 1, v3, v4, v5, v6 => ((μ.1 39 1) ≤ v6 → (K119 v3 v4 v5)) ∧ (¬ ((μ.1 39 1) ≤ v6) → (vp_in v6 60 ∧ ((μ.1 40 v6.toNatClampNeg) ≠ v1 → (wX5_offOf_J113 μ K (wX5_offOf_L11 μ v1 v2 K K119 n) v1 v2 v3 v4 v5 v6)) ∧ ((μ.1 40 v6.toNatClampNeg) = v1 → (vp_in v6 60 ∧ wX10_hasSeason μ (μ.1 41 v6.toNatClampNeg) (fun r42_4 => (r42_4 = 0 → (wX5_offOf_J113 μ K (wX5_offOf_L11 μ v1 v2 K K119 n) v1 v2 v3 v4 v5 v6)) ∧ (¬ (r42_4 = 0) → (vp_in v6 60 ∧ vp_in v6 60 ∧ wX10_lineAt μ (μ.1 41 v6.toNatClampNeg) (fun r70_8 => ∀ x_9 : Int32, x_9 = (if 0 ≤ ((100 * (μ.1 42 v6.toNatClampNeg)) - r70_8) then ((100 * (μ.1 42 v6.toNatClampNeg)) - r70_8) else 0 - ((100 * (μ.1 42 v6.toNatClampNeg)) - r70_8)) → vp_in v6 60 ∧ vp_in v6 60 ∧ wX5_isWithinWorn μ (μ.1 42 v6.toNatClampNeg) (μ.1 41 v6.toNatClampNeg) (fun r99_13 => (r99_13 = 0 → (wX5_offOf_J110 μ K (wX5_offOf_L11 μ v1 v2 K K119 n) v1 v2 (v3 + x_9) (v4 + 1) v6 v5 0)) ∧ (¬ (r99_13 = 0) → (wX5_offOf_J110 μ K (wX5_offOf_L11 μ v1 v2 K K119 n) v1 v2 (v3 + x_9) (v4 + 1) v6 v5 1)))))))))))
set_option maxRecDepth 100000 in
set_option maxHeartbeats 4000000 in
theorem kX5_offOf_L11 {G : hx_GT} {KK : hx_KT} (hG : hx_K cX5_offOf 7 0 0 (some .int) TbX5 KK G) (cA : hx_CA RX5 cX5_offOf 3 0 0 G) {Λ : hx_L} (hF : cF Λ) {μ : hx_M} (v1 : Int32) (v2 : Int32) {K : Int32 → Prop} (hK : ∀ (r : Int32), K r → KK (some (.int r)) Λ μ) {K119 : Int32 → Int32 → Int32 → Prop} (hk119 : ∀ (v3 : Int32) (v4 : Int32) (v5 : Int32), K119 v3 v4 v5 → G Λ μ (0, 0) 119 [none, none, some (.int v2), some (.int v3), some (.int v4), some (.int v5), none] []) : ∀ (n : Nat) (v3 : Int32) (v4 : Int32) (v5 : Int32) (v6 : Int32), wX5_offOf_L11 μ v1 v2 K K119 n v3 v4 v5 v6 → G Λ μ (0, 0) 11 [some (.ref 39), some (.int v1), some (.int v2), some (.int v3), some (.int v4), some (.int v5), some (.int v6)] [] := by
  intro n
  induction n with
  | zero =>
    intro v3 v4 v5 v6 hw
    exact False.elim (by simpa only [wX5_offOf_L11] using hw)
  | succ n ih =>
    intro v3 v4 v5 v6 hw
    unfold wX5_offOf_L11 at hw
    refine cl_iload hG (hx_dq tdX5_offOf_0 8 rfl) rfl (cl_aload_n hG (hx_dq tdX5_offOf_0 9 rfl) rfl (cl_getI hG fmX5_15 (hx_dq tdX5_offOf_0 10 rfl) (cF_S39 hF) (cl_icmp_ge hG 119 (hx_dq tdX5_offOf_0 11 rfl) rfl (fun c17 => ?_) (fun c17 => ?_))))
    · replace hw := hw.1 c17
      exact cl_sub hG (hx_le_n (hx_le_n (hx_le_c rfl (hx_le_c rfl (hx_le_c rfl (hx_le_c rfl (hx_le_n hx_le_0))))))) (hk119 v3 v4 v5 hw)
    · replace hw := hw.2 c17
      obtain ⟨i26_1, hw⟩ := hw
      refine cl_aload_n hG (hx_dq tdX5_offOf_0 12 rfl) rfl (cl_getS hG fmX5_19 (hx_dq tdX5_offOf_0 13 rfl) (cF_S39 hF) (cF_R39_2 hF) (cl_iload hG (hx_dq tdX5_offOf_0 14 rfl) rfl (cl_iald hG (hx_dq tdX5_offOf_0 15 rfl) (cF_S40 hF) i26_1 (cl_iload_n hG (hx_dq tdX5_offOf_0 16 rfl) rfl (cl_icmp_ne hG 113 (hx_dq tdX5_offOf_0 17 rfl) rfl (fun c28 => ?_) (fun c28 => ?_))))))
      · replace hw := hw.1 c28
        exact cl_sub hG (hx_le_c rfl (hx_le_c rfl (hx_le_c rfl (hx_le_c rfl (hx_le_c rfl (hx_le_c rfl (hx_le_c rfl hx_le_0))))))) (kX5_offOf_J113 hG cA hF v1 v2 v3 v4 v5 v6 hK (fun z0 z1 z2 z3 hw => ih z0 z1 z2 z3 hw) hw)
      · replace hw := hw.2 c28
        obtain ⟨i41_2, hw⟩ := hw
        refine cl_aload_n hG (hx_dq tdX5_offOf_0 18 rfl) rfl (cl_getS hG fmX5_9 (hx_dq tdX5_offOf_0 19 rfl) (cF_S39 hF) (cF_R39_0 hF) (cl_aload_n hG (hx_dq tdX5_offOf_0 20 rfl) rfl (cl_getS hG fmX5_23 (hx_dq tdX5_offOf_0 21 rfl) (cF_S39 hF) (cF_R39_3 hF) (cl_iload hG (hx_dq tdX5_offOf_0 22 rfl) rfl (cl_iald hG (hx_dq tdX5_offOf_0 23 rfl) (cF_S41 hF) i41_2 (cl_callV1 (caX5_offOf_29 cA) (hx_dq tdX5_offOf_0 24 rfl) (cF_S7 hF) (Nat.le_of_ble_eq_true rfl) (Nat.le_refl _) (Nat.le_refl _) (sX10_hasSeason_mk hF hw (fun r42_4 hw => ?_))))))))
        refine cl_if_eq hG 113 (hx_dq tdX5_offOf_0 25 rfl) rfl (fun c45 => ?_) (fun c45 => ?_)
        · replace hw := hw.1 c45
          exact cl_sub hG (hx_le_c rfl (hx_le_c rfl (hx_le_c rfl (hx_le_c rfl (hx_le_c rfl (hx_le_c rfl (hx_le_c rfl hx_le_0))))))) (kX5_offOf_J113 hG cA hF v1 v2 v3 v4 v5 v6 hK (fun z0 z1 z2 z3 hw => ih z0 z1 z2 z3 hw) hw)
        · replace hw := hw.2 c45
          obtain ⟨i57_5, hw⟩ := hw
          obtain ⟨i69_6, hw⟩ := hw
          refine cl_iload_n hG (hx_dq tdX5_offOf_0 26 rfl) rfl (cl_bipush hG 100 (hx_dq tdX5_offOf_0 27 rfl) bipush_100 (cl_aload_n hG (hx_dq tdX5_offOf_0 28 rfl) rfl (cl_getS hG fmX5_26 (hx_dq tdX5_offOf_0 29 rfl) (cF_S39 hF) (cF_R39_4 hF) (cl_iload hG (hx_dq tdX5_offOf_0 30 rfl) rfl (cl_iald hG (hx_dq tdX5_offOf_0 31 rfl) (cF_S42 hF) i57_5 (cl_imul hG (hx_dq tdX5_offOf_1 0 rfl) (cl_aload_n hG (hx_dq tdX5_offOf_1 1 rfl) rfl (cl_getS hG fmX5_9 (hx_dq tdX5_offOf_1 2 rfl) (cF_S39 hF) (cF_R39_0 hF) (cl_aload_n hG (hx_dq tdX5_offOf_1 3 rfl) rfl (cl_getS hG fmX5_23 (hx_dq tdX5_offOf_1 4 rfl) (cF_S39 hF) (cF_R39_3 hF) (cl_iload hG (hx_dq tdX5_offOf_1 5 rfl) rfl (cl_iald hG (hx_dq tdX5_offOf_1 6 rfl) (cF_S41 hF) i69_6 (cl_callV1 (caX5_offOf_35 cA) (hx_dq tdX5_offOf_1 7 rfl) (cF_S7 hF) (Nat.le_of_ble_eq_true rfl) (Nat.le_refl _) (Nat.le_refl _) (sX10_lineAt_mk hF hw (fun r70_8 hw => ?_)))))))))))))))
          refine cl_isub hG (hx_dq tdX5_offOf_1 8 rfl) (cl_mabs hG mmX5_39 (hx_dq tdX5_offOf_1 9 rfl) (Nat.le_refl _) (Nat.le_refl _) (Nat.le_of_ble_eq_true rfl) (cl_nmI (fun x_9 e_9 => ?_)))
          replace hw := hw x_9 e_9
          obtain ⟨i91_10, hw⟩ := hw
          obtain ⟨i98_11, hw⟩ := hw
          refine cl_iadd hG (hx_dq tdX5_offOf_1 10 rfl) (cl_istore_n hG (hx_dq tdX5_offOf_1 11 rfl) (Nat.le_of_ble_eq_true rfl) rfl (cl_iinc hG (v4 + 1) (hx_dq tdX5_offOf_1 12 rfl) rfl (congrArg (fun z => v4 + z) iconst_1) (Nat.le_of_ble_eq_true rfl) rfl (cl_iload hG (hx_dq tdX5_offOf_1 13 rfl) rfl (cl_aload_n hG (hx_dq tdX5_offOf_1 14 rfl) rfl (cl_aload_n hG (hx_dq tdX5_offOf_1 15 rfl) rfl (cl_getS hG fmX5_26 (hx_dq tdX5_offOf_1 16 rfl) (cF_S39 hF) (cF_R39_4 hF) (cl_iload hG (hx_dq tdX5_offOf_1 17 rfl) rfl (cl_iald hG (hx_dq tdX5_offOf_1 18 rfl) (cF_S42 hF) i91_10 (cl_aload_n hG (hx_dq tdX5_offOf_1 19 rfl) rfl (cl_getS hG fmX5_23 (hx_dq tdX5_offOf_1 20 rfl) (cF_S39 hF) (cF_R39_3 hF) (cl_iload hG (hx_dq tdX5_offOf_1 21 rfl) rfl (cl_iald hG (hx_dq tdX5_offOf_1 22 rfl) (cF_S41 hF) i98_11 (cl_callV2 (caX5_offOf_44 cA) (hx_dq tdX5_offOf_1 23 rfl) (cF_S39 hF) (Nat.le_of_ble_eq_true rfl) (Nat.le_refl _) (Nat.le_refl _) (sX5_isWithinWorn_mk hF hw (fun r99_13 hw => ?_)))))))))))))))
          refine cl_if_eq hG 109 (hx_dq tdX5_offOf_1 24 rfl) rfl (fun c102 => ?_) (fun c102 => ?_)
          · replace hw := hw.1 c102
            refine cl_iconst hG 0 (hx_dq tdX5_offOf_1 27 rfl) iconst_0 ?_
            exact cl_sub hG (hx_le_c rfl (hx_le_c rfl (hx_le_c rfl (hx_le_c rfl (hx_le_c rfl (hx_le_n (hx_le_c rfl hx_le_0))))))) (kX5_offOf_J110 hG cA hF v1 v2 (v3 + x_9) (v4 + 1) v6 v5 0 hK (fun z0 z1 z2 z3 hw => ih z0 z1 z2 z3 hw) hw)
          · replace hw := hw.2 c102
            refine cl_iconst hG 1 (hx_dq tdX5_offOf_1 25 rfl) iconst_1 (cl_goto hG 110 (hx_dq tdX5_offOf_1 26 rfl) rfl ?_)
            exact cl_sub hG (hx_le_c rfl (hx_le_c rfl (hx_le_c rfl (hx_le_c rfl (hx_le_c rfl (hx_le_n (hx_le_c rfl hx_le_0))))))) (kX5_offOf_J110 hG cA hF v1 v2 (v3 + x_9) (v4 + 1) v6 v5 1 hK (fun z0 z1 z2 z3 hw => ih z0 z1 z2 z3 hw) hw)
def wX5_offOf (μ : hx_M) (v1 : Int32) (v2 : Int32) (K : Int32 → Prop) : Prop := ∃ n11_16, wX5_offOf_L11 μ v1 v2 K (fun v3_15 v4_15 v5_15 => (v2 ≠ 0 → ((v2 ≠ 1 → (K v5_15)) ∧ (v2 = 1 → (K v4_15)))) ∧ (v2 = 0 → (K v3_15))) n11_16 0 0 0 0
set_option maxRecDepth 100000 in
set_option maxHeartbeats 4000000 in
theorem kX5_offOf {G : hx_GT} {KK : hx_KT} (hG : hx_K cX5_offOf 7 0 0 (some .int) TbX5 KK G) (cA : hx_CA RX5 cX5_offOf 3 0 0 G) {Λ : hx_L} (hF : cF Λ) {μ : hx_M} (v1 : Int32) (v2 : Int32) {K : Int32 → Prop} (hK : ∀ (r : Int32), K r → KK (some (.int r)) Λ μ) (hw : wX5_offOf μ v1 v2 K) : G Λ μ (0, 0) 0 [some (.ref 39), some (.int v1), some (.int v2), none, none, none, none] [] := by
  unfold wX5_offOf at hw
  refine cl_iconst hG 0 (hx_dq tdX5_offOf_0 0 rfl) iconst_0 (cl_istore_n hG (hx_dq tdX5_offOf_0 1 rfl) (Nat.le_of_ble_eq_true rfl) rfl (cl_iconst hG 0 (hx_dq tdX5_offOf_0 2 rfl) iconst_0 (cl_istore hG (hx_dq tdX5_offOf_0 3 rfl) (Nat.le_of_ble_eq_true rfl) rfl (cl_iconst hG 0 (hx_dq tdX5_offOf_0 4 rfl) iconst_0 (cl_istore hG (hx_dq tdX5_offOf_0 5 rfl) (Nat.le_of_ble_eq_true rfl) rfl (cl_iconst hG 0 (hx_dq tdX5_offOf_0 6 rfl) iconst_0 (cl_istore hG (hx_dq tdX5_offOf_0 7 rfl) (Nat.le_of_ble_eq_true rfl) rfl ?_)))))))
  obtain ⟨n_, hw⟩ := hw
  refine cl_sub hG (hx_le_c rfl (hx_le_c rfl (hx_le_c rfl (hx_le_c rfl (hx_le_c rfl (hx_le_c rfl (hx_le_c rfl hx_le_0))))))) (kX5_offOf_L11 hG cA hF v1 v2 hK (fun v3_15 v4_15 v5_15 hw => ?_) n_ 0 0 0 0 hw)
  · refine cl_iload_n hG (hx_dq tdX5_offOf_2 0 rfl) rfl (cl_if_ne hG 127 (hx_dq tdX5_offOf_2 1 rfl) rfl (fun c120 => ?_) (fun c120 => ?_))
    · replace hw := hw.1 c120
      refine cl_iload_n hG (hx_dq tdX5_offOf_2 4 rfl) rfl (cl_iconst hG 1 (hx_dq tdX5_offOf_2 5 rfl) iconst_1 (cl_icmp_ne hG 137 (hx_dq tdX5_offOf_2 6 rfl) rfl (fun c129 => ?_) (fun c129 => ?_)))
      · replace hw := hw.1 c129
        exact cl_iload hG (hx_dq tdX5_offOf_2 9 rfl) rfl (cl_iret hG (hx_dq tdX5_offOf_2 10 rfl) rfl rfl (hK _ hw) (Nat.le_refl _) (Nat.le_refl _))
      · replace hw := hw.2 c129
        exact cl_iload hG (hx_dq tdX5_offOf_2 7 rfl) rfl (cl_goto hG 139 (hx_dq tdX5_offOf_2 8 rfl) rfl (cl_iret hG (hx_dq tdX5_offOf_2 10 rfl) rfl rfl (hK _ hw) (Nat.le_refl _) (Nat.le_refl _)))
    · replace hw := hw.2 c120
      exact cl_iload_n hG (hx_dq tdX5_offOf_2 2 rfl) rfl (cl_goto hG 139 (hx_dq tdX5_offOf_2 3 rfl) rfl (cl_iret hG (hx_dq tdX5_offOf_2 10 rfl) rfl rfl (hK _ hw) (Nat.le_refl _) (Nat.le_refl _)))
def sX5_offOf : hx_ST := fun Λ μ as KK => cF Λ ∧ ∃ (v1 : Int32) (v2 : Int32) (K : Int32 → Prop), as = [.ref 39, .int v1, .int v2] ∧ wX5_offOf μ v1 v2 K ∧ (∀ (r : Int32), K r → KK (some (.int r)) Λ μ)
theorem sX5_offOf_mk {Λ : hx_L} {μ : hx_M} {KK : hx_KT} {v1 : Int32} {v2 : Int32} {K : Int32 → Prop} (hF : cF Λ) (hw : wX5_offOf μ v1 v2 K) (hk : ∀ (r : Int32), K r → KK (some (.int r)) Λ μ) : sX5_offOf Λ μ [.ref 39, .int v1, .int v2] KK := ⟨hF, _, _, _, rfl, hw, hk⟩
theorem conX5_offOf : hx_Con yX5_offOf cX5_offOf 7 (some .int) 3 0 0 sX5_offOf := by
  refine hx_con_of (by decide +kernel) tokX5 (by decide) ?_ ?_
  · intro Λ μ as KK h
    obtain ⟨hF, v1, v2, K, rfl, hw, hK⟩ := h
    exact Nat.le_of_ble_eq_true rfl
  · intro G KK hG cA Λ μ as h
    obtain ⟨hF, v1, v2, K, rfl, hw, hK⟩ := h
    exact cl_sub hG (hx_le_c rfl (hx_le_c rfl (hx_le_c rfl (hx_le_n (hx_le_n (hx_le_n (hx_le_n hx_le_0))))))) (kX5_offOf hG cA hF _ _ hK hw)
/-! HemLine$Reckoner.<init>(LHemLine$People;LHemLine$Past;)V -/
def tbX6_init_0 : List (Nat × Instr × Nat) := [(0, .aload_n 0, 1), (1, .invokespecial 3, 3), (4, .aload_n 0, 1), (5, .aload_n 1, 1), (6, .putfield 9, 3), (9, .aload_n 0, 1), (10, .aload_n 2, 1), (11, .putfield 15, 3), (14, .aload_n 0, 1), (15, .bipush 12, 2), (17, .newarray .int, 2), (19, .putfield 21, 3), (22, .aload_n 0, 1), (23, .iconst 4, 1), (24, .newarray .int, 2), (26, .putfield 27, 3), (29, .aload_n 0, 1), (30, .iconst 4, 1), (31, .newarray .int, 2), (33, .putfield 30, 3), (36, .aload_n 0, 1), (37, .iconst 2, 1), (38, .putfield 33, 3), (41, .return_, 1)]
theorem tdX6_init_0 : hx_dt cX6_init tbX6_init_0 = true := by decide +kernel
def TAX6_init : hx_TA := ([], [(9, 6, 0, 2), (15, 6, 1, 2), (21, 6, 2, 2), (27, 6, 3, 2), (30, 6, 4, 2)], [], [3])
theorem taX6_init_f9 : (9, 6, 0, 2) ∈ TAX6_init.2.1 := List.mem_of_getElem? (i := 0) rfl
theorem toX6_init_f9 : hx_ffok RX6 (9, 6, 0, 2) := ⟨RX6, TX6, 6, tyX6, rfl, Nat.le_of_ble_eq_true rfl, rfl, mw_247, inX6, tyX6_ok, nmX6, rfl, rfl, fun h => absurd h (by decide), fun _ => Or.inl ⟨_, rfl⟩⟩
theorem taX6_init_f15 : (15, 6, 1, 2) ∈ TAX6_init.2.1 := List.mem_of_getElem? (i := 1) rfl
theorem toX6_init_f15 : hx_ffok RX6 (15, 6, 1, 2) := ⟨RX6, TX6, 6, tyX6, rfl, Nat.le_of_ble_eq_true rfl, rfl, mw_248, inX6, tyX6_ok, nmX6, rfl, rfl, fun h => absurd h (by decide), fun _ => Or.inl ⟨_, rfl⟩⟩
theorem taX6_init_f21 : (21, 6, 2, 2) ∈ TAX6_init.2.1 := List.mem_of_getElem? (i := 2) rfl
theorem toX6_init_f21 : hx_ffok RX6 (21, 6, 2, 2) := ⟨RX6, TX6, 6, tyX6, rfl, Nat.le_of_ble_eq_true rfl, rfl, mw_249, inX6, tyX6_ok, nmX6, rfl, rfl, fun h => absurd h (by decide), fun _ => Or.inr ⟨_, rfl⟩⟩
theorem taX6_init_f27 : (27, 6, 3, 2) ∈ TAX6_init.2.1 := List.mem_of_getElem? (i := 3) rfl
theorem toX6_init_f27 : hx_ffok RX6 (27, 6, 3, 2) := ⟨RX6, TX6, 6, tyX6, rfl, Nat.le_of_ble_eq_true rfl, rfl, mw_250, inX6, tyX6_ok, nmX6, rfl, rfl, fun h => absurd h (by decide), fun _ => Or.inr ⟨_, rfl⟩⟩
theorem taX6_init_f30 : (30, 6, 4, 2) ∈ TAX6_init.2.1 := List.mem_of_getElem? (i := 4) rfl
theorem toX6_init_f30 : hx_ffok RX6 (30, 6, 4, 2) := ⟨RX6, TX6, 6, tyX6, rfl, Nat.le_of_ble_eq_true rfl, rfl, mw_251, inX6, tyX6_ok, nmX6, rfl, rfl, fun h => absurd h (by decide), fun _ => Or.inr ⟨_, rfl⟩⟩
theorem taX6_init_o3 : 3 ∈ TAX6_init.2.2.2 := List.mem_of_getElem? (i := 0) rfl
theorem taokX6_init : hx_taok RX6 TAX6_init := ⟨(fun _ h => absurd h List.not_mem_nil), (List.forall_mem_cons.mpr ⟨toX6_init_f9, (List.forall_mem_cons.mpr ⟨toX6_init_f15, (List.forall_mem_cons.mpr ⟨toX6_init_f21, (List.forall_mem_cons.mpr ⟨toX6_init_f27, (List.forall_mem_cons.mpr ⟨toX6_init_f30, (fun _ h => absurd h List.not_mem_nil)⟩)⟩)⟩)⟩)⟩), (fun _ h => absurd h List.not_mem_nil), (List.forall_mem_cons.mpr ⟨mw_246, (fun _ h => absurd h List.not_mem_nil)⟩)⟩
def wX6_init (Λ : hx_L) (μ : hx_M) (v0 : Nat) (v1 : Nat) (v2 : Nat) (K : hx_L → hx_M → Prop) : Prop := Λ.1 v0 = (0, 6) ∧ ∀ L_2 : hx_L, L_2 = hx_sR Λ v0 0 v1 → L_2.1 v0 = (0, 6) ∧ ∀ L_4 : hx_L, L_4 = hx_sR L_2 v0 1 v2 → L_4.2.2 < hx_big ∧ ∀ L_6 : hx_L, L_6 = hx_push L_4 (1, 12) → ∀ m_7 : hx_M, m_7 = (hx_z μ L_4.2.2) → L_6.1 v0 = (0, 6) ∧ ∀ L_9 : hx_L, L_9 = hx_sR L_6 v0 2 L_4.2.2 → L_9.2.2 < hx_big ∧ ∀ L_11 : hx_L, L_11 = hx_push L_9 (1, 4) → ∀ m_12 : hx_M, m_12 = (hx_z m_7 L_9.2.2) → L_11.1 v0 = (0, 6) ∧ ∀ L_14 : hx_L, L_14 = hx_sR L_11 v0 3 L_9.2.2 → L_14.2.2 < hx_big ∧ ∀ L_16 : hx_L, L_16 = hx_push L_14 (1, 4) → ∀ m_17 : hx_M, m_17 = (hx_z m_12 L_14.2.2) → L_16.1 v0 = (0, 6) ∧ ∀ L_19 : hx_L, L_19 = hx_sR L_16 v0 4 L_14.2.2 → L_19.1 v0 = (0, 6) ∧ K L_19 (hx_sI m_17 v0 5 2)
set_option maxRecDepth 100000 in
set_option maxHeartbeats 4000000 in
theorem kX6_init {G : hx_GT} {KK : hx_KT} (hG : hx_K cX6_init 3 3 20 (none) TbX6 KK G) (hM : hx_KA cX6_init 3 20 TAX6_init G) (cA : hx_CA RX6 cX6_init 1 3 20 G) {Λ : hx_L}  {μ : hx_M} (v0 : Nat) (v1 : Nat) (v2 : Nat) {K : hx_L → hx_M → Prop} (hK : ∀ (Λ1 : hx_L) (m : hx_M), K Λ1 m → KK none Λ1 m) (hw : wX6_init Λ μ v0 v1 v2 K) : G Λ μ (0, 0) 0 [some (.ref v0), some (.ref v1), some (.ref v2)] [] := by
  unfold wX6_init at hw
  obtain ⟨o6_1, hw⟩ := hw
  refine cl_aload_n hG (hx_dq tdX6_init_0 0 rfl) rfl (cl_oinit hM taX6_init_o3 (hx_dq tdX6_init_0 1 rfl) (Nat.le_of_ble_eq_true rfl) (cl_aload_n hG (hx_dq tdX6_init_0 2 rfl) rfl (cl_aload_n hG (hx_dq tdX6_init_0 3 rfl) rfl (cl_putFR hM taX6_init_f9 (hx_dq tdX6_init_0 4 rfl) o6_1 (cl_nmA (fun L_2 e_2 => ?_))))))
  replace hw := hw L_2 e_2
  obtain ⟨o11_3, hw⟩ := hw
  refine cl_aload_n hG (hx_dq tdX6_init_0 5 rfl) rfl (cl_aload_n hG (hx_dq tdX6_init_0 6 rfl) rfl (cl_putFR hM taX6_init_f15 (hx_dq tdX6_init_0 7 rfl) o11_3 (cl_nmA (fun L_4 e_4 => ?_))))
  replace hw := hw L_4 e_4
  obtain ⟨b5, hw⟩ := hw
  refine cl_aload_n hG (hx_dq tdX6_init_0 8 rfl) rfl (cl_bipush hG 12 (hx_dq tdX6_init_0 9 rfl) bipush_12 (cl_newaI hM tn_12 (hx_dq tdX6_init_0 10 rfl) (by decide) (Nat.le_of_ble_eq_true rfl) (Nat.le_of_ble_eq_true rfl) (Nat.le_of_ble_eq_true rfl) b5 (cl_nmA (fun L_6 e_6 => ?_))))
  replace hw := hw L_6 e_6
  refine cl_nmM (fun m_7 e_7 => ?_)
  replace hw := hw m_7 e_7
  obtain ⟨o19_8, hw⟩ := hw
  refine cl_putFR hM taX6_init_f21 (hx_dq tdX6_init_0 11 rfl) o19_8 (cl_nmA (fun L_9 e_9 => ?_))
  replace hw := hw L_9 e_9
  obtain ⟨b10, hw⟩ := hw
  refine cl_aload_n hG (hx_dq tdX6_init_0 12 rfl) rfl (cl_iconst hG 4 (hx_dq tdX6_init_0 13 rfl) iconst_4 (cl_newaI hM tn_4 (hx_dq tdX6_init_0 14 rfl) (by decide) (Nat.le_of_ble_eq_true rfl) (Nat.le_of_ble_eq_true rfl) (Nat.le_of_ble_eq_true rfl) b10 (cl_nmA (fun L_11 e_11 => ?_))))
  replace hw := hw L_11 e_11
  refine cl_nmM (fun m_12 e_12 => ?_)
  replace hw := hw m_12 e_12
  obtain ⟨o26_13, hw⟩ := hw
  refine cl_putFR hM taX6_init_f27 (hx_dq tdX6_init_0 15 rfl) o26_13 (cl_nmA (fun L_14 e_14 => ?_))
  replace hw := hw L_14 e_14
  obtain ⟨b15, hw⟩ := hw
  refine cl_aload_n hG (hx_dq tdX6_init_0 16 rfl) rfl (cl_iconst hG 4 (hx_dq tdX6_init_0 17 rfl) iconst_4 (cl_newaI hM tn_4 (hx_dq tdX6_init_0 18 rfl) (by decide) (Nat.le_of_ble_eq_true rfl) (Nat.le_of_ble_eq_true rfl) (Nat.le_of_ble_eq_true rfl) b15 (cl_nmA (fun L_16 e_16 => ?_))))
  replace hw := hw L_16 e_16
  refine cl_nmM (fun m_17 e_17 => ?_)
  replace hw := hw m_17 e_17
  obtain ⟨o33_18, hw⟩ := hw
  refine cl_putFR hM taX6_init_f30 (hx_dq tdX6_init_0 19 rfl) o33_18 (cl_nmA (fun L_19 e_19 => ?_))
  replace hw := hw L_19 e_19
  obtain ⟨o38_20, hw⟩ := hw
  exact cl_aload_n hG (hx_dq tdX6_init_0 20 rfl) rfl (cl_iconst hG 2 (hx_dq tdX6_init_0 21 rfl) iconst_2 (cl_putI hG fmX6_33 (hx_dq tdX6_init_0 22 rfl) o38_20 (cl_vret hG (hx_dq tdX6_init_0 23 rfl) rfl (hK _ _ hw) (Nat.le_of_ble_eq_true rfl) (Nat.le_of_ble_eq_true rfl))))
def sX6_init : hx_ST := fun Λ μ as KK => ∃ (v0 : Nat) (v1 : Nat) (v2 : Nat) (K : hx_L → hx_M → Prop), as = [.ref v0, .ref v1, .ref v2] ∧ wX6_init Λ μ v0 v1 v2 K ∧ (∀ (Λ1 : hx_L) (m : hx_M), K Λ1 m → KK none Λ1 m)
theorem sX6_init_mk {Λ : hx_L} {μ : hx_M} {KK : hx_KT} {v0 : Nat} {v1 : Nat} {v2 : Nat} {K : hx_L → hx_M → Prop}  (hw : wX6_init Λ μ v0 v1 v2 K) (hk : ∀ (Λ1 : hx_L) (m : hx_M), K Λ1 m → KK none Λ1 m) : sX6_init Λ μ [.ref v0, .ref v1, .ref v2] KK := ⟨_, _, _, _, rfl, hw, hk⟩
theorem conX6_init : hx_Con yX6_init cX6_init 3 (none) 1 3 20 sX6_init := by
  refine hx_con_ofA (by decide +kernel) tokX6 taokX6_init (Or.inr rfl) (by decide) ?_ ?_
  · intro Λ μ as KK h
    obtain ⟨v0, v1, v2, K, rfl, hw, hK⟩ := h
    exact Nat.le_of_ble_eq_true rfl
  · intro G KK hG hM cA Λ μ as h
    obtain ⟨v0, v1, v2, K, rfl, hw, hK⟩ := h
    exact cl_sub hG (hx_le_c rfl (hx_le_c rfl (hx_le_c rfl hx_le_0))) (kX6_init hG hM cA _ _ _ hK hw)
/-! HemLine$Shelf.<init>(LHemLine$World;)V -/
def tbX7_init_0 : List (Nat × Instr × Nat) := [(0, .aload_n 0, 1), (1, .invokespecial 3, 3), (4, .aload_n 0, 1), (5, .aload_n 1, 1), (6, .putfield 9, 3), (9, .aload_n 0, 1), (10, .bipush 61, 2), (12, .newarray .int, 2), (14, .putfield 15, 3), (17, .aload_n 0, 1), (18, .bipush 61, 2), (20, .newarray .int, 2), (22, .putfield 19, 3), (25, .aload_n 0, 1), (26, .sipush 366, 3), (29, .newarray .int, 2), (31, .putfield 22, 3), (34, .aload_n 0, 1), (35, .bipush 6, 2), (37, .newarray .int, 2), (39, .putfield 25, 3), (42, .aload_n 0, 1), (43, .iconst 0, 1), (44, .putfield 28, 3), (47, .return_, 1)]
theorem tdX7_init_0 : hx_dt cX7_init tbX7_init_0 = true := by decide +kernel
def TAX7_init : hx_TA := ([], [(9, 7, 0, 2), (15, 7, 1, 2), (19, 7, 2, 2), (22, 7, 3, 2), (25, 7, 4, 2)], [], [3])
theorem taX7_init_f9 : (9, 7, 0, 2) ∈ TAX7_init.2.1 := List.mem_of_getElem? (i := 0) rfl
theorem toX7_init_f9 : hx_ffok RX7 (9, 7, 0, 2) := ⟨RX7, TX7, 6, tyX7, rfl, Nat.le_of_ble_eq_true rfl, rfl, mw_405, inX7, tyX7_ok, nmX7, rfl, rfl, fun h => absurd h (by decide), fun _ => Or.inl ⟨_, rfl⟩⟩
theorem taX7_init_f15 : (15, 7, 1, 2) ∈ TAX7_init.2.1 := List.mem_of_getElem? (i := 1) rfl
theorem toX7_init_f15 : hx_ffok RX7 (15, 7, 1, 2) := ⟨RX7, TX7, 6, tyX7, rfl, Nat.le_of_ble_eq_true rfl, rfl, mw_406, inX7, tyX7_ok, nmX7, rfl, rfl, fun h => absurd h (by decide), fun _ => Or.inr ⟨_, rfl⟩⟩
theorem taX7_init_f19 : (19, 7, 2, 2) ∈ TAX7_init.2.1 := List.mem_of_getElem? (i := 2) rfl
theorem toX7_init_f19 : hx_ffok RX7 (19, 7, 2, 2) := ⟨RX7, TX7, 6, tyX7, rfl, Nat.le_of_ble_eq_true rfl, rfl, mw_407, inX7, tyX7_ok, nmX7, rfl, rfl, fun h => absurd h (by decide), fun _ => Or.inr ⟨_, rfl⟩⟩
theorem taX7_init_f22 : (22, 7, 3, 2) ∈ TAX7_init.2.1 := List.mem_of_getElem? (i := 3) rfl
theorem toX7_init_f22 : hx_ffok RX7 (22, 7, 3, 2) := ⟨RX7, TX7, 6, tyX7, rfl, Nat.le_of_ble_eq_true rfl, rfl, mw_408, inX7, tyX7_ok, nmX7, rfl, rfl, fun h => absurd h (by decide), fun _ => Or.inr ⟨_, rfl⟩⟩
theorem taX7_init_f25 : (25, 7, 4, 2) ∈ TAX7_init.2.1 := List.mem_of_getElem? (i := 4) rfl
theorem toX7_init_f25 : hx_ffok RX7 (25, 7, 4, 2) := ⟨RX7, TX7, 6, tyX7, rfl, Nat.le_of_ble_eq_true rfl, rfl, mw_409, inX7, tyX7_ok, nmX7, rfl, rfl, fun h => absurd h (by decide), fun _ => Or.inr ⟨_, rfl⟩⟩
theorem taX7_init_o3 : 3 ∈ TAX7_init.2.2.2 := List.mem_of_getElem? (i := 0) rfl
theorem taokX7_init : hx_taok RX7 TAX7_init := ⟨(fun _ h => absurd h List.not_mem_nil), (List.forall_mem_cons.mpr ⟨toX7_init_f9, (List.forall_mem_cons.mpr ⟨toX7_init_f15, (List.forall_mem_cons.mpr ⟨toX7_init_f19, (List.forall_mem_cons.mpr ⟨toX7_init_f22, (List.forall_mem_cons.mpr ⟨toX7_init_f25, (fun _ h => absurd h List.not_mem_nil)⟩)⟩)⟩)⟩)⟩), (fun _ h => absurd h List.not_mem_nil), (List.forall_mem_cons.mpr ⟨mw_404, (fun _ h => absurd h List.not_mem_nil)⟩)⟩
def wX7_init (Λ : hx_L) (μ : hx_M) (v0 : Nat) (v1 : Nat) (K : hx_L → hx_M → Prop) : Prop := Λ.1 v0 = (0, 7) ∧ ∀ L_2 : hx_L, L_2 = hx_sR Λ v0 0 v1 → L_2.2.2 < hx_big ∧ ∀ L_4 : hx_L, L_4 = hx_push L_2 (1, 61) → ∀ m_5 : hx_M, m_5 = (hx_z μ L_2.2.2) → L_4.1 v0 = (0, 7) ∧ ∀ L_7 : hx_L, L_7 = hx_sR L_4 v0 1 L_2.2.2 → L_7.2.2 < hx_big ∧ ∀ L_9 : hx_L, L_9 = hx_push L_7 (1, 61) → ∀ m_10 : hx_M, m_10 = (hx_z m_5 L_7.2.2) → L_9.1 v0 = (0, 7) ∧ ∀ L_12 : hx_L, L_12 = hx_sR L_9 v0 2 L_7.2.2 → L_12.2.2 < hx_big ∧ ∀ L_14 : hx_L, L_14 = hx_push L_12 (1, 366) → ∀ m_15 : hx_M, m_15 = (hx_z m_10 L_12.2.2) → L_14.1 v0 = (0, 7) ∧ ∀ L_17 : hx_L, L_17 = hx_sR L_14 v0 3 L_12.2.2 → L_17.2.2 < hx_big ∧ ∀ L_19 : hx_L, L_19 = hx_push L_17 (1, 6) → ∀ m_20 : hx_M, m_20 = (hx_z m_15 L_17.2.2) → L_19.1 v0 = (0, 7) ∧ ∀ L_22 : hx_L, L_22 = hx_sR L_19 v0 4 L_17.2.2 → L_22.1 v0 = (0, 7) ∧ K L_22 (hx_sI m_20 v0 5 0)
set_option maxRecDepth 100000 in
set_option maxHeartbeats 4000000 in
theorem kX7_init {G : hx_GT} {KK : hx_KT} (hG : hx_K cX7_init 2 4 494 (none) TbX7 KK G) (hM : hx_KA cX7_init 4 494 TAX7_init G) (cA : hx_CA RX7 cX7_init 1 4 494 G) {Λ : hx_L}  {μ : hx_M} (v0 : Nat) (v1 : Nat) {K : hx_L → hx_M → Prop} (hK : ∀ (Λ1 : hx_L) (m : hx_M), K Λ1 m → KK none Λ1 m) (hw : wX7_init Λ μ v0 v1 K) : G Λ μ (0, 0) 0 [some (.ref v0), some (.ref v1)] [] := by
  unfold wX7_init at hw
  obtain ⟨o6_1, hw⟩ := hw
  refine cl_aload_n hG (hx_dq tdX7_init_0 0 rfl) rfl (cl_oinit hM taX7_init_o3 (hx_dq tdX7_init_0 1 rfl) (Nat.le_of_ble_eq_true rfl) (cl_aload_n hG (hx_dq tdX7_init_0 2 rfl) rfl (cl_aload_n hG (hx_dq tdX7_init_0 3 rfl) rfl (cl_putFR hM taX7_init_f9 (hx_dq tdX7_init_0 4 rfl) o6_1 (cl_nmA (fun L_2 e_2 => ?_))))))
  replace hw := hw L_2 e_2
  obtain ⟨b3, hw⟩ := hw
  refine cl_aload_n hG (hx_dq tdX7_init_0 5 rfl) rfl (cl_bipush hG 61 (hx_dq tdX7_init_0 6 rfl) bipush_61 (cl_newaI hM tn_61 (hx_dq tdX7_init_0 7 rfl) (by decide) (Nat.le_of_ble_eq_true rfl) (Nat.le_of_ble_eq_true rfl) (Nat.le_of_ble_eq_true rfl) b3 (cl_nmA (fun L_4 e_4 => ?_))))
  replace hw := hw L_4 e_4
  refine cl_nmM (fun m_5 e_5 => ?_)
  replace hw := hw m_5 e_5
  obtain ⟨o14_6, hw⟩ := hw
  refine cl_putFR hM taX7_init_f15 (hx_dq tdX7_init_0 8 rfl) o14_6 (cl_nmA (fun L_7 e_7 => ?_))
  replace hw := hw L_7 e_7
  obtain ⟨b8, hw⟩ := hw
  refine cl_aload_n hG (hx_dq tdX7_init_0 9 rfl) rfl (cl_bipush hG 61 (hx_dq tdX7_init_0 10 rfl) bipush_61 (cl_newaI hM tn_61 (hx_dq tdX7_init_0 11 rfl) (by decide) (Nat.le_of_ble_eq_true rfl) (Nat.le_of_ble_eq_true rfl) (Nat.le_of_ble_eq_true rfl) b8 (cl_nmA (fun L_9 e_9 => ?_))))
  replace hw := hw L_9 e_9
  refine cl_nmM (fun m_10 e_10 => ?_)
  replace hw := hw m_10 e_10
  obtain ⟨o22_11, hw⟩ := hw
  refine cl_putFR hM taX7_init_f19 (hx_dq tdX7_init_0 12 rfl) o22_11 (cl_nmA (fun L_12 e_12 => ?_))
  replace hw := hw L_12 e_12
  obtain ⟨b13, hw⟩ := hw
  refine cl_aload_n hG (hx_dq tdX7_init_0 13 rfl) rfl (cl_sipush hG 366 (hx_dq tdX7_init_0 14 rfl) sipush_366 (cl_newaI hM tn_366 (hx_dq tdX7_init_0 15 rfl) (by decide) (Nat.le_of_ble_eq_true rfl) (Nat.le_of_ble_eq_true rfl) (Nat.le_of_ble_eq_true rfl) b13 (cl_nmA (fun L_14 e_14 => ?_))))
  replace hw := hw L_14 e_14
  refine cl_nmM (fun m_15 e_15 => ?_)
  replace hw := hw m_15 e_15
  obtain ⟨o31_16, hw⟩ := hw
  refine cl_putFR hM taX7_init_f22 (hx_dq tdX7_init_0 16 rfl) o31_16 (cl_nmA (fun L_17 e_17 => ?_))
  replace hw := hw L_17 e_17
  obtain ⟨b18, hw⟩ := hw
  refine cl_aload_n hG (hx_dq tdX7_init_0 17 rfl) rfl (cl_bipush hG 6 (hx_dq tdX7_init_0 18 rfl) bipush_6 (cl_newaI hM tn_6 (hx_dq tdX7_init_0 19 rfl) (by decide) (Nat.le_of_ble_eq_true rfl) (Nat.le_of_ble_eq_true rfl) (Nat.le_of_ble_eq_true rfl) b18 (cl_nmA (fun L_19 e_19 => ?_))))
  replace hw := hw L_19 e_19
  refine cl_nmM (fun m_20 e_20 => ?_)
  replace hw := hw m_20 e_20
  obtain ⟨o39_21, hw⟩ := hw
  refine cl_putFR hM taX7_init_f25 (hx_dq tdX7_init_0 20 rfl) o39_21 (cl_nmA (fun L_22 e_22 => ?_))
  replace hw := hw L_22 e_22
  obtain ⟨o44_23, hw⟩ := hw
  exact cl_aload_n hG (hx_dq tdX7_init_0 21 rfl) rfl (cl_iconst hG 0 (hx_dq tdX7_init_0 22 rfl) iconst_0 (cl_putI hG fmX7_28 (hx_dq tdX7_init_0 23 rfl) o44_23 (cl_vret hG (hx_dq tdX7_init_0 24 rfl) rfl (hK _ _ hw) (Nat.le_of_ble_eq_true rfl) (Nat.le_of_ble_eq_true rfl))))
def sX7_init : hx_ST := fun Λ μ as KK => ∃ (v0 : Nat) (v1 : Nat) (K : hx_L → hx_M → Prop), as = [.ref v0, .ref v1] ∧ wX7_init Λ μ v0 v1 K ∧ (∀ (Λ1 : hx_L) (m : hx_M), K Λ1 m → KK none Λ1 m)
theorem sX7_init_mk {Λ : hx_L} {μ : hx_M} {KK : hx_KT} {v0 : Nat} {v1 : Nat} {K : hx_L → hx_M → Prop}  (hw : wX7_init Λ μ v0 v1 K) (hk : ∀ (Λ1 : hx_L) (m : hx_M), K Λ1 m → KK none Λ1 m) : sX7_init Λ μ [.ref v0, .ref v1] KK := ⟨_, _, _, rfl, hw, hk⟩
theorem conX7_init : hx_Con yX7_init cX7_init 2 (none) 1 4 494 sX7_init := by
  refine hx_con_ofA (by decide +kernel) tokX7 taokX7_init (Or.inr rfl) (by decide) ?_ ?_
  · intro Λ μ as KK h
    obtain ⟨v0, v1, K, rfl, hw, hK⟩ := h
    exact Nat.le_of_ble_eq_true rfl
  · intro G KK hG hM cA Λ μ as h
    obtain ⟨v0, v1, K, rfl, hw, hK⟩ := h
    exact cl_sub hG (hx_le_c rfl (hx_le_c rfl hx_le_0)) (kX7_init hG hM cA _ _ hK hw)
/-! HemLine$Shelf.beyond(I)I -/
def tbX7_beyond_0 : List (Nat × Instr × Nat) := [(0, .aload_n 0, 1), (1, .getfield 19, 3), (4, .bipush 60, 2), (6, .iaload, 1), (7, .aload_n 0, 1), (8, .getfield 19, 3), (11, .iload_n 1, 1), (12, .iaload, 1), (13, .isub, 1), (14, .iload_n 1, 1), (15, .aload_n 0, 1), (16, .getfield 15, 3), (19, .bipush 60, 2), (21, .iaload, 1), (22, .aload_n 0, 1), (23, .getfield 15, 3), (26, .iload_n 1, 1), (27, .iaload, 1), (28, .isub, 1), (29, .imul, 1), (30, .isub, 1), (31, .ireturn, 1)]
theorem tdX7_beyond_0 : hx_dt cX7_beyond tbX7_beyond_0 = true := by decide +kernel
def wX7_beyond (μ : hx_M) (v1 : Int32) (K : Int32 → Prop) : Prop := vp_in 60 61 ∧ vp_in v1 61 ∧ ∀ x_3 : Int32, x_3 = (((μ.1 45 ((60 : Int32).toNatClampNeg))) - (μ.1 45 v1.toNatClampNeg)) → vp_in 60 61 ∧ vp_in v1 61 ∧ ∀ x_6 : Int32, x_6 = (((μ.1 44 ((60 : Int32).toNatClampNeg))) - (μ.1 44 v1.toNatClampNeg)) → K (x_3 - (v1 * x_6))
set_option maxRecDepth 100000 in
set_option maxHeartbeats 4000000 in
theorem kX7_beyond {G : hx_GT} {KK : hx_KT} (hG : hx_K cX7_beyond 2 0 0 (some .int) TbX7 KK G) (cA : hx_CA RX7 cX7_beyond 1 0 0 G) {Λ : hx_L} (hF : cF Λ) {μ : hx_M} (v1 : Int32) {K : Int32 → Prop} (hK : ∀ (r : Int32), K r → KK (some (.int r)) Λ μ) (hw : wX7_beyond μ v1 K) : G Λ μ (0, 0) 0 [some (.ref 43), some (.int v1)] [] := by
  unfold wX7_beyond at hw
  obtain ⟨i6_1, hw⟩ := hw
  obtain ⟨i12_2, hw⟩ := hw
  refine cl_aload_n hG (hx_dq tdX7_beyond_0 0 rfl) rfl (cl_getS hG fmX7_19 (hx_dq tdX7_beyond_0 1 rfl) (cF_S43 hF) (cF_R43_2 hF) (cl_bipush hG 60 (hx_dq tdX7_beyond_0 2 rfl) bipush_60 (cl_iald hG (hx_dq tdX7_beyond_0 3 rfl) (cF_S45 hF) i6_1 (cl_aload_n hG (hx_dq tdX7_beyond_0 4 rfl) rfl (cl_getS hG fmX7_19 (hx_dq tdX7_beyond_0 5 rfl) (cF_S43 hF) (cF_R43_2 hF) (cl_iload_n hG (hx_dq tdX7_beyond_0 6 rfl) rfl (cl_iald hG (hx_dq tdX7_beyond_0 7 rfl) (cF_S45 hF) i12_2 (cl_isub hG (hx_dq tdX7_beyond_0 8 rfl) (cl_nmI (fun x_3 e_3 => ?_))))))))))
  replace hw := hw x_3 e_3
  obtain ⟨i21_4, hw⟩ := hw
  obtain ⟨i27_5, hw⟩ := hw
  refine cl_iload_n hG (hx_dq tdX7_beyond_0 9 rfl) rfl (cl_aload_n hG (hx_dq tdX7_beyond_0 10 rfl) rfl (cl_getS hG fmX7_15 (hx_dq tdX7_beyond_0 11 rfl) (cF_S43 hF) (cF_R43_1 hF) (cl_bipush hG 60 (hx_dq tdX7_beyond_0 12 rfl) bipush_60 (cl_iald hG (hx_dq tdX7_beyond_0 13 rfl) (cF_S44 hF) i21_4 (cl_aload_n hG (hx_dq tdX7_beyond_0 14 rfl) rfl (cl_getS hG fmX7_15 (hx_dq tdX7_beyond_0 15 rfl) (cF_S43 hF) (cF_R43_1 hF) (cl_iload_n hG (hx_dq tdX7_beyond_0 16 rfl) rfl (cl_iald hG (hx_dq tdX7_beyond_0 17 rfl) (cF_S44 hF) i27_5 (cl_isub hG (hx_dq tdX7_beyond_0 18 rfl) (cl_nmI (fun x_6 e_6 => ?_)))))))))))
  replace hw := hw x_6 e_6
  exact cl_imul hG (hx_dq tdX7_beyond_0 19 rfl) (cl_isub hG (hx_dq tdX7_beyond_0 20 rfl) (cl_iret hG (hx_dq tdX7_beyond_0 21 rfl) rfl rfl (hK _ hw) (Nat.le_refl _) (Nat.le_refl _)))
def sX7_beyond : hx_ST := fun Λ μ as KK => cF Λ ∧ ∃ (v1 : Int32) (K : Int32 → Prop), as = [.ref 43, .int v1] ∧ wX7_beyond μ v1 K ∧ (∀ (r : Int32), K r → KK (some (.int r)) Λ μ)
theorem sX7_beyond_mk {Λ : hx_L} {μ : hx_M} {KK : hx_KT} {v1 : Int32} {K : Int32 → Prop} (hF : cF Λ) (hw : wX7_beyond μ v1 K) (hk : ∀ (r : Int32), K r → KK (some (.int r)) Λ μ) : sX7_beyond Λ μ [.ref 43, .int v1] KK := ⟨hF, _, _, rfl, hw, hk⟩
theorem conX7_beyond : hx_Con yX7_beyond cX7_beyond 2 (some .int) 1 0 0 sX7_beyond := by
  refine hx_con_of (by decide +kernel) tokX7 (by decide) ?_ ?_
  · intro Λ μ as KK h
    obtain ⟨hF, v1, K, rfl, hw, hK⟩ := h
    exact Nat.le_of_ble_eq_true rfl
  · intro G KK hG cA Λ μ as h
    obtain ⟨hF, v1, K, rfl, hw, hK⟩ := h
    exact cl_sub hG (hx_le_c rfl (hx_le_c rfl hx_le_0)) (kX7_beyond hG cA hF _ hK hw)
