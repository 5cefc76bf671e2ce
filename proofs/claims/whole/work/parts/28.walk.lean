/-! HemLineModel.wants(IIIIII)I -/
def tbX12_wants_0 : List (Nat × Instr × Nat) := [(0, .aload_n 0, 1), (1, .iload_n 2, 1), (2, .iload_n 3, 1), (3, .invokevirtual 302, 3), (6, .istore 7, 2), (8, .iconst 0, 1), (9, .istore 8, 2), (11, .iload 8, 2), (13, .iconst 4, 1), (14, .if_icmp .ge 24, 3), (17, .aload_n 0, 1), (18, .getfield 101, 3), (21, .iload 8, 2), (23, .aload_n 0, 1), (24, .iload_n 2, 1), (25, .iload 8, 2), (27, .iload_n 3, 1), (28, .invokevirtual 313, 3), (31, .iastore, 1), (32, .iinc 8 1, 3), (35, .goto (-24), 3), (38, .aload_n 0, 1), (39, .getfield 104, 3), (42, .iconst 0, 1), (43, .iload_n 3, 1), (44, .iconst 1, 1), (45, .iadd, 1), (46, .iastore, 1), (47, .aload_n 0, 1), (48, .getfield 104, 3), (51, .iconst 1, 1), (52, .iload 7, 2)]
def tbX12_wants_1 : List (Nat × Instr × Nat) := [(54, .iastore, 1), (55, .aload_n 0, 1), (56, .getfield 104, 3), (59, .iconst 2, 1), (60, .aload_n 0, 1), (61, .getfield 17, 3), (64, .iload_n 2, 1), (65, .iaload, 1), (66, .iastore, 1), (67, .aload_n 0, 1), (68, .getfield 104, 3), (71, .iconst 3, 1), (72, .iload 5, 2), (74, .iastore, 1), (75, .aload_n 0, 1), (76, .getfield 104, 3), (79, .iconst 4, 1), (80, .aload_n 0, 1), (81, .getfield 13, 3), (84, .iload_n 2, 1), (85, .iaload, 1), (86, .iastore, 1), (87, .aload_n 0, 1), (88, .getfield 104, 3), (91, .iconst 5, 1), (92, .aload_n 0, 1), (93, .iload_n 3, 1), (94, .invokevirtual 317, 3), (97, .iastore, 1), (98, .aload_n 0, 1), (99, .getfield 104, 3), (102, .bipush 6, 2)]
def tbX12_wants_2 : List (Nat × Instr × Nat) := [(104, .iload 4, 2), (106, .iastore, 1), (107, .aload_n 0, 1), (108, .getfield 104, 3), (111, .bipush 7, 2), (113, .iload 6, 2), (115, .iastore, 1), (116, .iconst 0, 1), (117, .istore 8, 2), (119, .iload 8, 2), (121, .iconst 4, 1), (122, .if_icmp .ge 30, 3), (125, .aload_n 0, 1), (126, .getfield 104, 3), (129, .bipush 8, 2), (131, .iload 8, 2), (133, .iadd, 1), (134, .iconst 0, 1), (135, .aload_n 0, 1), (136, .getfield 101, 3), (139, .iload 8, 2), (141, .iaload, 1), (142, .invokestatic 320, 3), (145, .iastore, 1), (146, .iinc 8 1, 3), (149, .goto (-30), 3), (152, .aload_n 0, 1), (153, .iconst 2, 1), (154, .putfield 325, 3), (157, .bipush 16, 2), (159, .iload_n 1, 1), (160, .imul, 1)]
def tbX12_wants_3 : List (Nat × Instr × Nat) := [(161, .istore 8, 2), (163, .iload 8, 2), (165, .bipush 16, 2), (167, .iload_n 1, 1), (168, .imul, 1), (169, .aload_n 0, 1), (170, .getfield 60, 3), (173, .iload_n 1, 1), (174, .iaload, 1), (175, .iadd, 1), (176, .if_icmp .ge 205, 3), (179, .aload_n 0, 1), (180, .getfield 75, 3), (183, .iload 8, 2), (185, .iaload, 1), (186, .aload_n 0, 1), (187, .getfield 78, 3), (190, .iload 8, 2), (192, .iaload, 1), (193, .if_icmp .ge 27, 3), (196, .aload_n 0, 1), (197, .aload_n 0, 1), (198, .getfield 75, 3), (201, .iload 8, 2), (203, .iaload, 1), (204, .aload_n 0, 1), (205, .getfield 78, 3), (208, .iload 8, 2), (210, .iaload, 1), (211, .invokevirtual 328, 3), (214, .ifCond .ne 6, 3), (217, .goto 158, 3)]
def tbX12_wants_4 : List (Nat × Instr × Nat) := [(220, .aload_n 0, 1), (221, .getfield 63, 3), (224, .iload 8, 2), (226, .iaload, 1), (227, .iconst 2, 1), (228, .if_icmp .ne 6, 3), (231, .iload 7, 2), (233, .ireturn, 1), (234, .aload_n 0, 1), (235, .iload 8, 2), (237, .iload_n 3, 1), (238, .invokevirtual 331, 3), (241, .istore 9, 2), (243, .iload 9, 2), (245, .iconst (-1), 1), (246, .if_icmp .ne 6, 3), (249, .goto 126, 3), (252, .aload_n 0, 1), (253, .aload_n 0, 1), (254, .getfield 63, 3), (257, .iload 8, 2), (259, .iaload, 1), (260, .putfield 325, 3), (263, .aload_n 0, 1), (264, .getfield 63, 3), (267, .iload 8, 2), (269, .iaload, 1), (270, .ifCond .ne 44, 3), (273, .iload 7, 2), (275, .iload 9, 2), (277, .if_icmp .ge 21, 3), (280, .iload 9, 2)]
def tbX12_wants_5 : List (Nat × Instr × Nat) := [(282, .iload 7, 2), (284, .aload_n 0, 1), (285, .getfield 72, 3), (288, .iload 8, 2), (290, .iaload, 1), (291, .iadd, 1), (292, .invokestatic 334, 3), (295, .goto 18, 3), (298, .iload 9, 2), (300, .iload 7, 2), (302, .aload_n 0, 1), (303, .getfield 72, 3), (306, .iload 8, 2), (308, .iaload, 1), (309, .isub, 1), (310, .invokestatic 320, 3), (313, .ireturn, 1), (314, .iload 7, 2), (316, .iload 9, 2), (318, .isub, 1), (319, .invokestatic 337, 3), (322, .aload_n 0, 1), (323, .getfield 72, 3), (326, .iload 8, 2), (328, .iaload, 1), (329, .if_icmp .lt 6, 3), (332, .iload 7, 2), (334, .ireturn, 1), (335, .iload 7, 2), (337, .iload 9, 2), (339, .if_icmp .lt 21, 3), (342, .bipush 60, 2)]
def tbX12_wants_6 : List (Nat × Instr × Nat) := [(344, .iload 9, 2), (346, .aload_n 0, 1), (347, .getfield 72, 3), (350, .iload 8, 2), (352, .iaload, 1), (353, .iadd, 1), (354, .invokestatic 334, 3), (357, .goto 17, 3), (360, .iconst 0, 1), (361, .iload 9, 2), (363, .aload_n 0, 1), (364, .getfield 72, 3), (367, .iload 8, 2), (369, .iaload, 1), (370, .isub, 1), (371, .invokestatic 320, 3), (374, .ireturn, 1), (375, .iinc 8 1, 3), (378, .goto (-215), 3), (381, .iload 7, 2), (383, .ireturn, 1)]
theorem tdX12_wants_0 : hx_dt cX12_wants tbX12_wants_0 = true := by decide +kernel
theorem tdX12_wants_1 : hx_dt cX12_wants tbX12_wants_1 = true := by decide +kernel
theorem tdX12_wants_2 : hx_dt cX12_wants tbX12_wants_2 = true := by decide +kernel
theorem tdX12_wants_3 : hx_dt cX12_wants tbX12_wants_3 = true := by decide +kernel
theorem tdX12_wants_4 : hx_dt cX12_wants tbX12_wants_4 = true := by decide +kernel
theorem tdX12_wants_5 : hx_dt cX12_wants tbX12_wants_5 = true := by decide +kernel
theorem tdX12_wants_6 : hx_dt cX12_wants tbX12_wants_6 = true := by decide +kernel
theorem caX12_wants_302 {G : hx_GT} (cA : hx_CA RX12 cX12_wants 4 0 0 G) : hx_CV cX12_wants G 0 0 302 12 2 sX12_lengthAt 0 0 := cA.1 conX12_lengthAt rfl rfl ⟨by decide +kernel, by decide +kernel, by decide +kernel⟩ mw_1486 mw_1488 mw_54 mw_97 mw_1489 (by decide) (by decide)
theorem caX12_wants_313 {G : hx_GT} (cA : hx_CA RX12 cX12_wants 4 0 0 G) : hx_CV cX12_wants G 0 0 313 12 3 sX12_meanOf 0 0 := cA.1 conX12_meanOf rfl rfl ⟨by decide +kernel, by decide +kernel, by decide +kernel⟩ mw_1494 mw_1496 mw_56 mw_97 mw_1497 (by decide) (by decide)
theorem caX12_wants_317 {G : hx_GT} (cA : hx_CA RX12 cX12_wants 4 0 0 G) : hx_CV cX12_wants G 0 0 317 12 1 sX12_moneyAt 0 0 := cA.1 conX12_moneyAt rfl rfl ⟨by decide +kernel, by decide +kernel, by decide +kernel⟩ mw_1501 mw_1503 mw_57 mw_97 mw_1504 (by decide) (by decide)
theorem caX12_wants_328 {G : hx_GT} (cA : hx_CA RX12 cX12_wants 4 0 0 G) : hx_CV cX12_wants G 0 0 328 12 2 sX12_isTrue 0 0 := cA.1 conX12_isTrue rfl rfl ⟨by decide +kernel, by decide +kernel, by decide +kernel⟩ mw_1506 mw_1508 mw_58 mw_97 mw_1509 (by decide) (by decide)
theorem caX12_wants_331 {G : hx_GT} (cA : hx_CA RX12 cX12_wants 4 0 0 G) : hx_CV cX12_wants G 0 0 331 12 2 sX12_meanBy 0 0 := cA.1 conX12_meanBy rfl rfl ⟨by decide +kernel, by decide +kernel, by decide +kernel⟩ mw_1510 mw_1512 mw_59 mw_97 mw_1513 (by decide) (by decide)
def wX12_wants_L11 (v1 : Int32) (v2 : Int32) (v3 : Int32) (v4 : Int32) (v5 : Int32) (v6 : Int32) (v7 : Int32) (K : Int32 → hx_M → Prop) (K38 : hx_M → Prop) : Nat → Int32 → hx_M → Prop
  | 0, _, _ => False
  | n + 1, v8, μ => (4 ≤ v8 → (K38 μ)) ∧ (¬ (4 ≤ v8) → (wX12_meanOf μ v2 v8 v3 (fun r28_4 => vp_in v8 6 ∧ wX12_wants_L11 v1 v2 v3 v4 v5 v6 v7 K K38 n (v8 + 1) (hx_sI μ 76 v8.toNatClampNeg r28_4))))
set_option maxRecDepth 100000 in
set_option maxHeartbeats 4000000 in
theorem kX12_wants_L11 {G : hx_GT} {KK : hx_KT} (hG : hx_K cX12_wants 10 0 0 (some .int) TbX12 KK G) (cA : hx_CA RX12 cX12_wants 4 0 0 G) {Λ : hx_L} (hF : mF Λ)  (v1 : Int32) (v2 : Int32) (v3 : Int32) (v4 : Int32) (v5 : Int32) (v6 : Int32) (v7 : Int32) {K : Int32 → hx_M → Prop} (hK : ∀ (r : Int32) (m : hx_M), K r m → KK (some (.int r)) Λ m) {K38 : hx_M → Prop} (hk38 : ∀ (μ : hx_M), K38 μ → G Λ μ (0, 0) 38 [some (.ref 49), some (.int v1), some (.int v2), some (.int v3), some (.int v4), some (.int v5), some (.int v6), some (.int v7), none, none] []) : ∀ (n : Nat) (v8 : Int32) (μ : hx_M), wX12_wants_L11 v1 v2 v3 v4 v5 v6 v7 K K38 n v8 μ → G Λ μ (0, 0) 11 [some (.ref 49), some (.int v1), some (.int v2), some (.int v3), some (.int v4), some (.int v5), some (.int v6), some (.int v7), some (.int v8), none] [] := by
  intro n
  induction n with
  | zero =>
    intro v8 μ hw
    exact False.elim (by simpa only [wX12_wants_L11] using hw)
  | succ n ih =>
    intro v8 μ hw
    unfold wX12_wants_L11 at hw
    refine cl_iload hG (hx_dq tdX12_wants_0 7 rfl) rfl (cl_iconst hG 4 (hx_dq tdX12_wants_0 8 rfl) iconst_4 (cl_icmp_ge hG 38 (hx_dq tdX12_wants_0 9 rfl) rfl (fun c14 => ?_) (fun c14 => ?_)))
    · replace hw := hw.1 c14
      exact cl_sub hG (hx_le_c rfl (hx_le_c rfl (hx_le_c rfl (hx_le_c rfl (hx_le_c rfl (hx_le_c rfl (hx_le_c rfl (hx_le_c rfl (hx_le_n (hx_le_n hx_le_0)))))))))) (hk38 _ hw)
    · replace hw := hw.2 c14
      refine cl_aload_n hG (hx_dq tdX12_wants_0 10 rfl) rfl (cl_getS hG fmX12_101 (hx_dq tdX12_wants_0 11 rfl) (mF_S49 hF) (mF_R49_43 hF) (cl_iload hG (hx_dq tdX12_wants_0 12 rfl) rfl (cl_aload_n hG (hx_dq tdX12_wants_0 13 rfl) rfl (cl_iload_n hG (hx_dq tdX12_wants_0 14 rfl) rfl (cl_iload hG (hx_dq tdX12_wants_0 15 rfl) rfl (cl_iload_n hG (hx_dq tdX12_wants_0 16 rfl) rfl (cl_callV3 (caX12_wants_313 cA) (hx_dq tdX12_wants_0 17 rfl) (mF_S49 hF) (Nat.le_of_ble_eq_true rfl) (Nat.le_refl _) (Nat.le_refl _) (sX12_meanOf_mk hF hw (fun r28_4 hw => ?_)))))))))
      obtain ⟨i31_5, hw⟩ := hw
      exact cl_iast hG (hx_dq tdX12_wants_0 18 rfl) (mF_S76 hF) i31_5 (cl_iinc hG (v8 + 1) (hx_dq tdX12_wants_0 19 rfl) rfl (congrArg (fun z => v8 + z) iconst_1) (Nat.le_of_ble_eq_true rfl) rfl (cl_goto hG 11 (hx_dq tdX12_wants_0 20 rfl) rfl (cl_sub hG (hx_le_c rfl (hx_le_c rfl (hx_le_c rfl (hx_le_c rfl (hx_le_c rfl (hx_le_c rfl (hx_le_c rfl (hx_le_c rfl (hx_le_c rfl (hx_le_n hx_le_0)))))))))) (ih (v8 + 1) _ hw))))
def wX12_wants_L119 (v1 : Int32) (v3 : Int32) (v7 : Int32) (K : Int32 → hx_M → Prop) (K152 : hx_M → Prop) : Nat → Int32 → hx_M → Prop
  | 0, _, _ => False
  | n + 1, v8, μ => (4 ≤ v8 → (K152 μ)) ∧ (¬ (4 ≤ v8) → (vp_in v8 6 ∧ ∀ x_22 : Int32, x_22 = (if 0 < (μ.1 76 v8.toNatClampNeg) then (μ.1 76 v8.toNatClampNeg) else 0) → vp_in (8 + v8) 12 ∧ wX12_wants_L119 v1 v3 v7 K K152 n (v8 + 1) (hx_sI μ 77 ((8 + v8).toNatClampNeg) x_22)))
set_option maxRecDepth 100000 in
set_option maxHeartbeats 4000000 in
theorem kX12_wants_L119 {G : hx_GT} {KK : hx_KT} (hG : hx_K cX12_wants 10 0 0 (some .int) TbX12 KK G) (cA : hx_CA RX12 cX12_wants 4 0 0 G) {Λ : hx_L} (hF : mF Λ)  (v1 : Int32) (v3 : Int32) (v7 : Int32) {K : Int32 → hx_M → Prop} (hK : ∀ (r : Int32) (m : hx_M), K r m → KK (some (.int r)) Λ m) {K152 : hx_M → Prop} (hk152 : ∀ (μ : hx_M), K152 μ → G Λ μ (0, 0) 152 [some (.ref 49), some (.int v1), none, some (.int v3), none, none, none, some (.int v7), none, none] []) : ∀ (n : Nat) (v8 : Int32) (μ : hx_M), wX12_wants_L119 v1 v3 v7 K K152 n v8 μ → G Λ μ (0, 0) 119 [some (.ref 49), some (.int v1), none, some (.int v3), none, none, none, some (.int v7), some (.int v8), none] [] := by
  intro n
  induction n with
  | zero =>
    intro v8 μ hw
    exact False.elim (by simpa only [wX12_wants_L119] using hw)
  | succ n ih =>
    intro v8 μ hw
    unfold wX12_wants_L119 at hw
    refine cl_iload hG (hx_dq tdX12_wants_2 9 rfl) rfl (cl_iconst hG 4 (hx_dq tdX12_wants_2 10 rfl) iconst_4 (cl_icmp_ge hG 152 (hx_dq tdX12_wants_2 11 rfl) rfl (fun c122 => ?_) (fun c122 => ?_)))
    · replace hw := hw.1 c122
      exact cl_sub hG (hx_le_c rfl (hx_le_c rfl (hx_le_n (hx_le_c rfl (hx_le_n (hx_le_n (hx_le_n (hx_le_c rfl (hx_le_n (hx_le_n hx_le_0)))))))))) (hk152 _ hw)
    · replace hw := hw.2 c122
      obtain ⟨i141_21, hw⟩ := hw
      refine cl_aload_n hG (hx_dq tdX12_wants_2 12 rfl) rfl (cl_getS hG fmX12_104 (hx_dq tdX12_wants_2 13 rfl) (mF_S49 hF) (mF_R49_44 hF) (cl_bipush hG 8 (hx_dq tdX12_wants_2 14 rfl) bipush_8 (cl_iload hG (hx_dq tdX12_wants_2 15 rfl) rfl (cl_iadd hG (hx_dq tdX12_wants_2 16 rfl) (cl_iconst hG 0 (hx_dq tdX12_wants_2 17 rfl) iconst_0 (cl_aload_n hG (hx_dq tdX12_wants_2 18 rfl) rfl (cl_getS hG fmX12_101 (hx_dq tdX12_wants_2 19 rfl) (mF_S49 hF) (mF_R49_43 hF) (cl_iload hG (hx_dq tdX12_wants_2 20 rfl) rfl (cl_iald hG (hx_dq tdX12_wants_2 21 rfl) (mF_S76 hF) i141_21 (cl_mmax hG mmX12_320 (hx_dq tdX12_wants_2 22 rfl) (Nat.le_refl _) (Nat.le_refl _) (Nat.le_of_ble_eq_true rfl) (cl_nmI (fun x_22 e_22 => ?_))))))))))))
      replace hw := hw x_22 e_22
      obtain ⟨i145_23, hw⟩ := hw
      exact cl_iast hG (hx_dq tdX12_wants_2 23 rfl) (mF_S77 hF) i145_23 (cl_iinc hG (v8 + 1) (hx_dq tdX12_wants_2 24 rfl) rfl (congrArg (fun z => v8 + z) iconst_1) (Nat.le_of_ble_eq_true rfl) rfl (cl_goto hG 119 (hx_dq tdX12_wants_2 25 rfl) rfl (cl_sub hG (hx_le_c rfl (hx_le_c rfl (hx_le_n (hx_le_c rfl (hx_le_n (hx_le_n (hx_le_n (hx_le_c rfl (hx_le_c rfl (hx_le_n hx_le_0)))))))))) (ih (v8 + 1) _ hw))))
def wX12_wants_J375  (K : Int32 → hx_M → Prop) (K163 : Int32 → hx_M → Prop) (v1 : Int32) (v3 : Int32) (v7 : Int32) (v8 : Int32)  (μ : hx_M) : Prop := K163 (v8 + 1) μ
set_option maxRecDepth 100000 in
set_option maxHeartbeats 4000000 in
theorem kX12_wants_J375 {G : hx_GT} {KK : hx_KT} (hG : hx_K cX12_wants 10 0 0 (some .int) TbX12 KK G) (cA : hx_CA RX12 cX12_wants 4 0 0 G) {Λ : hx_L} (hF : mF Λ) {μ : hx_M} (v1 : Int32) (v3 : Int32) (v7 : Int32) (v8 : Int32)  {K : Int32 → hx_M → Prop} (hK : ∀ (r : Int32) (m : hx_M), K r m → KK (some (.int r)) Λ m) {K163 : Int32 → hx_M → Prop} (hk163 : ∀ (v8 : Int32) (μ : hx_M), K163 v8 μ → G Λ μ (0, 0) 163 [some (.ref 49), some (.int v1), none, some (.int v3), none, none, none, some (.int v7), some (.int v8), none] []) (hw : wX12_wants_J375 K K163 v1 v3 v7 v8 μ) : G Λ μ (0, 0) 375 [some (.ref 49), some (.int v1), none, some (.int v3), none, none, none, some (.int v7), some (.int v8), none] [] := by
  unfold wX12_wants_J375 at hw
  exact cl_iinc hG (v8 + 1) (hx_dq tdX12_wants_6 17 rfl) rfl (congrArg (fun z => v8 + z) iconst_1) (Nat.le_of_ble_eq_true rfl) rfl (cl_goto hG 163 (hx_dq tdX12_wants_6 18 rfl) rfl (cl_sub hG (hx_le_c rfl (hx_le_c rfl (hx_le_n (hx_le_c rfl (hx_le_n (hx_le_n (hx_le_n (hx_le_c rfl (hx_le_c rfl (hx_le_n hx_le_0)))))))))) (hk163 (v8 + 1) _ hw)))
def wX12_wants_J220  (K : Int32 → hx_M → Prop) (K163 : Int32 → hx_M → Prop) (v1 : Int32) (v3 : Int32) (v7 : Int32) (v8 : Int32)  (μ : hx_M) : Prop := vp_in v8 96 ∧ ((μ.1 64 v8.toNatClampNeg) ≠ 2 → (wX12_meanBy μ v8 v3 (fun r238_30 => (r238_30 ≠ (-1) → (vp_in v8 96 ∧ vp_in v8 96 ∧ ((μ.1 64 v8.toNatClampNeg) ≠ 0 → (∀ x_33 : Int32, x_33 = (if 0 ≤ (v7 - r238_30) then (v7 - r238_30) else 0 - (v7 - r238_30)) → vp_in v8 96 ∧ (x_33 < (μ.1 67 v8.toNatClampNeg) → ((v7 < r238_30 → (vp_in v8 96 ∧ ∀ x_36 : Int32, x_36 = (if 0 < (r238_30 - (μ.1 67 v8.toNatClampNeg)) then (r238_30 - (μ.1 67 v8.toNatClampNeg)) else 0) → K x_36 (hx_sI μ 49 45 (μ.1 64 v8.toNatClampNeg)))) ∧ (¬ (v7 < r238_30) → (vp_in v8 96 ∧ ∀ x_38 : Int32, x_38 = (if (r238_30 + (μ.1 67 v8.toNatClampNeg)) < 60 then (r238_30 + (μ.1 67 v8.toNatClampNeg)) else 60) → K x_38 (hx_sI μ 49 45 (μ.1 64 v8.toNatClampNeg)))))) ∧ (¬ (x_33 < (μ.1 67 v8.toNatClampNeg)) → (K v7 (hx_sI μ 49 45 (μ.1 64 v8.toNatClampNeg)))))) ∧ ((μ.1 64 v8.toNatClampNeg) = 0 → ((r238_30 ≤ v7 → (vp_in v8 96 ∧ ∀ x_40 : Int32, x_40 = (if r238_30 < (v7 - (μ.1 67 v8.toNatClampNeg)) then (v7 - (μ.1 67 v8.toNatClampNeg)) else r238_30) → K x_40 (hx_sI μ 49 45 (μ.1 64 v8.toNatClampNeg)))) ∧ (¬ (r238_30 ≤ v7) → (vp_in v8 96 ∧ ∀ x_42 : Int32, x_42 = (if (v7 + (μ.1 67 v8.toNatClampNeg)) < r238_30 then (v7 + (μ.1 67 v8.toNatClampNeg)) else r238_30) → K x_42 (hx_sI μ 49 45 (μ.1 64 v8.toNatClampNeg)))))))) ∧ (r238_30 = (-1) → (wX12_wants_J375 K (K163) v1 v3 v7 v8 μ))))) ∧ ((μ.1 64 v8.toNatClampNeg) = 2 → (K v7 μ))
set_option maxRecDepth 100000 in
set_option maxHeartbeats 4000000 in
theorem kX12_wants_J220 {G : hx_GT} {KK : hx_KT} (hG : hx_K cX12_wants 10 0 0 (some .int) TbX12 KK G) (cA : hx_CA RX12 cX12_wants 4 0 0 G) {Λ : hx_L} (hF : mF Λ) {μ : hx_M} (v1 : Int32) (v3 : Int32) (v7 : Int32) (v8 : Int32)  {K : Int32 → hx_M → Prop} (hK : ∀ (r : Int32) (m : hx_M), K r m → KK (some (.int r)) Λ m) {K163 : Int32 → hx_M → Prop} (hk163 : ∀ (v8 : Int32) (μ : hx_M), K163 v8 μ → G Λ μ (0, 0) 163 [some (.ref 49), some (.int v1), none, some (.int v3), none, none, none, some (.int v7), some (.int v8), none] []) (hw : wX12_wants_J220 K K163 v1 v3 v7 v8 μ) : G Λ μ (0, 0) 220 [some (.ref 49), some (.int v1), none, some (.int v3), none, none, none, some (.int v7), some (.int v8), none] [] := by
  unfold wX12_wants_J220 at hw
  obtain ⟨i226_28, hw⟩ := hw
  refine cl_aload_n hG (hx_dq tdX12_wants_4 0 rfl) rfl (cl_getS hG fmX12_63 (hx_dq tdX12_wants_4 1 rfl) (mF_S49 hF) (mF_R49_29 hF) (cl_iload hG (hx_dq tdX12_wants_4 2 rfl) rfl (cl_iald hG (hx_dq tdX12_wants_4 3 rfl) (mF_S64 hF) i226_28 (cl_iconst hG 2 (hx_dq tdX12_wants_4 4 rfl) iconst_2 (cl_icmp_ne hG 234 (hx_dq tdX12_wants_4 5 rfl) rfl (fun c228 => ?_) (fun c228 => ?_))))))
  · replace hw := hw.1 c228
    refine cl_aload_n hG (hx_dq tdX12_wants_4 8 rfl) rfl (cl_iload hG (hx_dq tdX12_wants_4 9 rfl) rfl (cl_iload_n hG (hx_dq tdX12_wants_4 10 rfl) rfl (cl_callV2 (caX12_wants_331 cA) (hx_dq tdX12_wants_4 11 rfl) (mF_S49 hF) (Nat.le_of_ble_eq_true rfl) (Nat.le_refl _) (Nat.le_refl _) (sX12_meanBy_mk hF hw (fun r238_30 hw => ?_)))))
    refine cl_istore hG (hx_dq tdX12_wants_4 12 rfl) (Nat.le_of_ble_eq_true rfl) rfl (cl_iload hG (hx_dq tdX12_wants_4 13 rfl) rfl (cl_iconst hG (-1) (hx_dq tdX12_wants_4 14 rfl) iconst_m1 (cl_icmp_ne hG 252 (hx_dq tdX12_wants_4 15 rfl) rfl (fun c246 => ?_) (fun c246 => ?_))))
    · replace hw := hw.1 c246
      obtain ⟨i259_31, hw⟩ := hw
      obtain ⟨i269_32, hw⟩ := hw
      refine cl_aload_n hG (hx_dq tdX12_wants_4 17 rfl) rfl (cl_aload_n hG (hx_dq tdX12_wants_4 18 rfl) rfl (cl_getS hG fmX12_63 (hx_dq tdX12_wants_4 19 rfl) (mF_S49 hF) (mF_R49_29 hF) (cl_iload hG (hx_dq tdX12_wants_4 20 rfl) rfl (cl_iald hG (hx_dq tdX12_wants_4 21 rfl) (mF_S64 hF) i259_31 (cl_putI hG fmX12_325 (hx_dq tdX12_wants_4 22 rfl) (mF_S49 hF) (cl_aload_n hG (hx_dq tdX12_wants_4 23 rfl) rfl (cl_getS hG fmX12_63 (hx_dq tdX12_wants_4 24 rfl) (mF_S49 hF) (mF_R49_29 hF) (cl_iload hG (hx_dq tdX12_wants_4 25 rfl) rfl (cl_iald hG (hx_dq tdX12_wants_4 26 rfl) (mF_S64 hF) i269_32 (cl_if_ne hG 314 (hx_dq tdX12_wants_4 27 rfl) rfl (fun c270 => ?_) (fun c270 => ?_)))))))))))
      · replace hw := hw.1 c270
        refine cl_iload hG (hx_dq tdX12_wants_5 17 rfl) rfl (cl_iload hG (hx_dq tdX12_wants_5 18 rfl) rfl (cl_isub hG (hx_dq tdX12_wants_5 19 rfl) (cl_mabs hG mmX12_337 (hx_dq tdX12_wants_5 20 rfl) (Nat.le_refl _) (Nat.le_refl _) (Nat.le_of_ble_eq_true rfl) (cl_nmI (fun x_33 e_33 => ?_)))))
        replace hw := hw x_33 e_33
        obtain ⟨i328_34, hw⟩ := hw
        refine cl_aload_n hG (hx_dq tdX12_wants_5 21 rfl) rfl (cl_getS hG fmX12_72 (hx_dq tdX12_wants_5 22 rfl) (mF_S49 hF) (mF_R49_32 hF) (cl_iload hG (hx_dq tdX12_wants_5 23 rfl) rfl (cl_iald hG (hx_dq tdX12_wants_5 24 rfl) (mF_S67 hF) i328_34 (cl_icmp_lt hG 335 (hx_dq tdX12_wants_5 25 rfl) rfl (fun c329 => ?_) (fun c329 => ?_)))))
        · replace hw := hw.1 c329
          refine cl_iload hG (hx_dq tdX12_wants_5 28 rfl) rfl (cl_iload hG (hx_dq tdX12_wants_5 29 rfl) rfl (cl_icmp_lt hG 360 (hx_dq tdX12_wants_5 30 rfl) rfl (fun c339 => ?_) (fun c339 => ?_)))
          · replace hw := hw.1 c339
            obtain ⟨i369_35, hw⟩ := hw
            refine cl_iconst hG 0 (hx_dq tdX12_wants_6 8 rfl) iconst_0 (cl_iload hG (hx_dq tdX12_wants_6 9 rfl) rfl (cl_aload_n hG (hx_dq tdX12_wants_6 10 rfl) rfl (cl_getS hG fmX12_72 (hx_dq tdX12_wants_6 11 rfl) (mF_S49 hF) (mF_R49_32 hF) (cl_iload hG (hx_dq tdX12_wants_6 12 rfl) rfl (cl_iald hG (hx_dq tdX12_wants_6 13 rfl) (mF_S67 hF) i369_35 (cl_isub hG (hx_dq tdX12_wants_6 14 rfl) (cl_mmax hG mmX12_320 (hx_dq tdX12_wants_6 15 rfl) (Nat.le_refl _) (Nat.le_refl _) (Nat.le_of_ble_eq_true rfl) (cl_nmI (fun x_36 e_36 => ?_)))))))))
            replace hw := hw x_36 e_36
            exact cl_iret hG (hx_dq tdX12_wants_6 16 rfl) rfl rfl (hK _ _ hw) (Nat.le_refl _) (Nat.le_refl _)
          · replace hw := hw.2 c339
            obtain ⟨i352_37, hw⟩ := hw
            refine cl_bipush hG 60 (hx_dq tdX12_wants_5 31 rfl) bipush_60 (cl_iload hG (hx_dq tdX12_wants_6 0 rfl) rfl (cl_aload_n hG (hx_dq tdX12_wants_6 1 rfl) rfl (cl_getS hG fmX12_72 (hx_dq tdX12_wants_6 2 rfl) (mF_S49 hF) (mF_R49_32 hF) (cl_iload hG (hx_dq tdX12_wants_6 3 rfl) rfl (cl_iald hG (hx_dq tdX12_wants_6 4 rfl) (mF_S67 hF) i352_37 (cl_iadd hG (hx_dq tdX12_wants_6 5 rfl) (cl_mmin hG mmX12_334 (hx_dq tdX12_wants_6 6 rfl) (Nat.le_refl _) (Nat.le_refl _) (Nat.le_of_ble_eq_true rfl) (cl_nmI (fun x_38 e_38 => ?_)))))))))
            replace hw := hw x_38 e_38
            exact cl_goto hG 374 (hx_dq tdX12_wants_6 7 rfl) rfl (cl_iret hG (hx_dq tdX12_wants_6 16 rfl) rfl rfl (hK _ _ hw) (Nat.le_refl _) (Nat.le_refl _))
        · replace hw := hw.2 c329
          exact cl_iload hG (hx_dq tdX12_wants_5 26 rfl) rfl (cl_iret hG (hx_dq tdX12_wants_5 27 rfl) rfl rfl (hK _ _ hw) (Nat.le_refl _) (Nat.le_refl _))
      · replace hw := hw.2 c270
        refine cl_iload hG (hx_dq tdX12_wants_4 28 rfl) rfl (cl_iload hG (hx_dq tdX12_wants_4 29 rfl) rfl (cl_icmp_ge hG 298 (hx_dq tdX12_wants_4 30 rfl) rfl (fun c277 => ?_) (fun c277 => ?_)))
        · replace hw := hw.1 c277
          obtain ⟨i308_39, hw⟩ := hw
          refine cl_iload hG (hx_dq tdX12_wants_5 8 rfl) rfl (cl_iload hG (hx_dq tdX12_wants_5 9 rfl) rfl (cl_aload_n hG (hx_dq tdX12_wants_5 10 rfl) rfl (cl_getS hG fmX12_72 (hx_dq tdX12_wants_5 11 rfl) (mF_S49 hF) (mF_R49_32 hF) (cl_iload hG (hx_dq tdX12_wants_5 12 rfl) rfl (cl_iald hG (hx_dq tdX12_wants_5 13 rfl) (mF_S67 hF) i308_39 (cl_isub hG (hx_dq tdX12_wants_5 14 rfl) (cl_mmax hG mmX12_320 (hx_dq tdX12_wants_5 15 rfl) (Nat.le_refl _) (Nat.le_refl _) (Nat.le_of_ble_eq_true rfl) (cl_nmI (fun x_40 e_40 => ?_)))))))))
          replace hw := hw x_40 e_40
          exact cl_iret hG (hx_dq tdX12_wants_5 16 rfl) rfl rfl (hK _ _ hw) (Nat.le_refl _) (Nat.le_refl _)
        · replace hw := hw.2 c277
          obtain ⟨i290_41, hw⟩ := hw
          refine cl_iload hG (hx_dq tdX12_wants_4 31 rfl) rfl (cl_iload hG (hx_dq tdX12_wants_5 0 rfl) rfl (cl_aload_n hG (hx_dq tdX12_wants_5 1 rfl) rfl (cl_getS hG fmX12_72 (hx_dq tdX12_wants_5 2 rfl) (mF_S49 hF) (mF_R49_32 hF) (cl_iload hG (hx_dq tdX12_wants_5 3 rfl) rfl (cl_iald hG (hx_dq tdX12_wants_5 4 rfl) (mF_S67 hF) i290_41 (cl_iadd hG (hx_dq tdX12_wants_5 5 rfl) (cl_mmin hG mmX12_334 (hx_dq tdX12_wants_5 6 rfl) (Nat.le_refl _) (Nat.le_refl _) (Nat.le_of_ble_eq_true rfl) (cl_nmI (fun x_42 e_42 => ?_)))))))))
          replace hw := hw x_42 e_42
          exact cl_goto hG 313 (hx_dq tdX12_wants_5 7 rfl) rfl (cl_iret hG (hx_dq tdX12_wants_5 16 rfl) rfl rfl (hK _ _ hw) (Nat.le_refl _) (Nat.le_refl _))
    · replace hw := hw.2 c246
      refine cl_goto hG 375 (hx_dq tdX12_wants_4 16 rfl) rfl ?_
      exact cl_sub hG (hx_le_c rfl (hx_le_c rfl (hx_le_n (hx_le_c rfl (hx_le_n (hx_le_n (hx_le_n (hx_le_c rfl (hx_le_c rfl (hx_le_n hx_le_0)))))))))) (kX12_wants_J375 hG cA hF v1 v3 v7 v8 hK (fun z0 z1 hw => hk163 z0 z1 hw) hw)
  · replace hw := hw.2 c228
    exact cl_iload hG (hx_dq tdX12_wants_4 6 rfl) rfl (cl_iret hG (hx_dq tdX12_wants_4 7 rfl) rfl rfl (hK _ _ hw) (Nat.le_refl _) (Nat.le_refl _))
def wX12_wants_J375_47  (K : Int32 → hx_M → Prop) (K163 : Int32 → hx_M → Prop) (v1 : Int32) (v3 : Int32) (v7 : Int32) (v8 : Int32)  (μ : hx_M) : Prop := K163 (v8 + 1) μ
set_option maxRecDepth 100000 in
set_option maxHeartbeats 4000000 in
theorem kX12_wants_J375_47 {G : hx_GT} {KK : hx_KT} (hG : hx_K cX12_wants 10 0 0 (some .int) TbX12 KK G) (cA : hx_CA RX12 cX12_wants 4 0 0 G) {Λ : hx_L} (hF : mF Λ) {μ : hx_M} (v1 : Int32) (v3 : Int32) (v7 : Int32) (v8 : Int32)  {K : Int32 → hx_M → Prop} (hK : ∀ (r : Int32) (m : hx_M), K r m → KK (some (.int r)) Λ m) {K163 : Int32 → hx_M → Prop} (hk163 : ∀ (v8 : Int32) (μ : hx_M), K163 v8 μ → G Λ μ (0, 0) 163 [some (.ref 49), some (.int v1), none, some (.int v3), none, none, none, some (.int v7), some (.int v8), none] []) (hw : wX12_wants_J375_47 K K163 v1 v3 v7 v8 μ) : G Λ μ (0, 0) 375 [some (.ref 49), some (.int v1), none, some (.int v3), none, none, none, some (.int v7), some (.int v8), none] [] := by
  unfold wX12_wants_J375_47 at hw
  exact cl_iinc hG (v8 + 1) (hx_dq tdX12_wants_6 17 rfl) rfl (congrArg (fun z => v8 + z) iconst_1) (Nat.le_of_ble_eq_true rfl) rfl (cl_goto hG 163 (hx_dq tdX12_wants_6 18 rfl) rfl (cl_sub hG (hx_le_c rfl (hx_le_c rfl (hx_le_n (hx_le_c rfl (hx_le_n (hx_le_n (hx_le_n (hx_le_c rfl (hx_le_c rfl (hx_le_n hx_le_0)))))))))) (hk163 (v8 + 1) _ hw)))
def wX12_wants_L163 (v1 : Int32) (v3 : Int32) (v7 : Int32) (K : Int32 → hx_M → Prop)  : Nat → Int32 → hx_M → Prop
  | 0, _, _ => False
  | n + 1, v8, μ => vp_in v1 6 ∧ (((16 * v1) + (μ.1 63 v1.toNatClampNeg)) ≤ v8 → (K v7 μ)) ∧ (¬ (((16 * v1) + (μ.1 63 v1.toNatClampNeg)) ≤ v8) → (vp_in v8 96 ∧ vp_in v8 96 ∧ ((μ.1 69 v8.toNatClampNeg) ≤ (μ.1 68 v8.toNatClampNeg) → (wX12_wants_J220 K (wX12_wants_L163 v1 v3 v7 K n) v1 v3 v7 v8 μ)) ∧ (¬ ((μ.1 69 v8.toNatClampNeg) ≤ (μ.1 68 v8.toNatClampNeg)) → (vp_in v8 96 ∧ vp_in v8 96 ∧ wX12_isTrue μ (μ.1 68 v8.toNatClampNeg) (μ.1 69 v8.toNatClampNeg) (fun r211_46 m211_45 => (r211_46 ≠ 0 → (wX12_wants_J220 K (wX12_wants_L163 v1 v3 v7 K n) v1 v3 v7 v8 m211_45)) ∧ (r211_46 = 0 → (wX12_wants_J375_47 K (wX12_wants_L163 v1 v3 v7 K n) v1 v3 v7 v8 m211_45)))))))
set_option maxRecDepth 100000 in
set_option maxHeartbeats 4000000 in
theorem kX12_wants_L163 {G : hx_GT} {KK : hx_KT} (hG : hx_K cX12_wants 10 0 0 (some .int) TbX12 KK G) (cA : hx_CA RX12 cX12_wants 4 0 0 G) {Λ : hx_L} (hF : mF Λ)  (v1 : Int32) (v3 : Int32) (v7 : Int32) {K : Int32 → hx_M → Prop} (hK : ∀ (r : Int32) (m : hx_M), K r m → KK (some (.int r)) Λ m)  : ∀ (n : Nat) (v8 : Int32) (μ : hx_M), wX12_wants_L163 v1 v3 v7 K n v8 μ → G Λ μ (0, 0) 163 [some (.ref 49), some (.int v1), none, some (.int v3), none, none, none, some (.int v7), some (.int v8), none] [] := by
  intro n
  induction n with
  | zero =>
    intro v8 μ hw
    exact False.elim (by simpa only [wX12_wants_L163] using hw)
  | succ n ih =>
    intro v8 μ hw
    unfold wX12_wants_L163 at hw
    obtain ⟨i174_25, hw⟩ := hw
    refine cl_iload hG (hx_dq tdX12_wants_3 1 rfl) rfl (cl_bipush hG 16 (hx_dq tdX12_wants_3 2 rfl) bipush_16 (cl_iload_n hG (hx_dq tdX12_wants_3 3 rfl) rfl (cl_imul hG (hx_dq tdX12_wants_3 4 rfl) (cl_aload_n hG (hx_dq tdX12_wants_3 5 rfl) rfl (cl_getS hG fmX12_60 (hx_dq tdX12_wants_3 6 rfl) (mF_S49 hF) (mF_R49_28 hF) (cl_iload_n hG (hx_dq tdX12_wants_3 7 rfl) rfl (cl_iald hG (hx_dq tdX12_wants_3 8 rfl) (mF_S63 hF) i174_25 (cl_iadd hG (hx_dq tdX12_wants_3 9 rfl) (cl_icmp_ge hG 381 (hx_dq tdX12_wants_3 10 rfl) rfl (fun c176 => ?_) (fun c176 => ?_))))))))))
    · replace hw := hw.1 c176
      exact cl_iload hG (hx_dq tdX12_wants_6 19 rfl) rfl (cl_iret hG (hx_dq tdX12_wants_6 20 rfl) rfl rfl (hK _ _ hw) (Nat.le_refl _) (Nat.le_refl _))
    · replace hw := hw.2 c176
      obtain ⟨i185_26, hw⟩ := hw
      obtain ⟨i192_27, hw⟩ := hw
      refine cl_aload_n hG (hx_dq tdX12_wants_3 11 rfl) rfl (cl_getS hG fmX12_75 (hx_dq tdX12_wants_3 12 rfl) (mF_S49 hF) (mF_R49_33 hF) (cl_iload hG (hx_dq tdX12_wants_3 13 rfl) rfl (cl_iald hG (hx_dq tdX12_wants_3 14 rfl) (mF_S68 hF) i185_26 (cl_aload_n hG (hx_dq tdX12_wants_3 15 rfl) rfl (cl_getS hG fmX12_78 (hx_dq tdX12_wants_3 16 rfl) (mF_S49 hF) (mF_R49_34 hF) (cl_iload hG (hx_dq tdX12_wants_3 17 rfl) rfl (cl_iald hG (hx_dq tdX12_wants_3 18 rfl) (mF_S69 hF) i192_27 (cl_icmp_ge hG 220 (hx_dq tdX12_wants_3 19 rfl) rfl (fun c193 => ?_) (fun c193 => ?_)))))))))
      · replace hw := hw.1 c193
        exact cl_sub hG (hx_le_c rfl (hx_le_c rfl (hx_le_n (hx_le_c rfl (hx_le_n (hx_le_n (hx_le_n (hx_le_c rfl (hx_le_c rfl (hx_le_n hx_le_0)))))))))) (kX12_wants_J220 hG cA hF v1 v3 v7 v8 hK (fun z0 z1 hw => ih z0 z1 hw) hw)
      · replace hw := hw.2 c193
        obtain ⟨i203_43, hw⟩ := hw
        obtain ⟨i210_44, hw⟩ := hw
        refine cl_aload_n hG (hx_dq tdX12_wants_3 20 rfl) rfl (cl_aload_n hG (hx_dq tdX12_wants_3 21 rfl) rfl (cl_getS hG fmX12_75 (hx_dq tdX12_wants_3 22 rfl) (mF_S49 hF) (mF_R49_33 hF) (cl_iload hG (hx_dq tdX12_wants_3 23 rfl) rfl (cl_iald hG (hx_dq tdX12_wants_3 24 rfl) (mF_S68 hF) i203_43 (cl_aload_n hG (hx_dq tdX12_wants_3 25 rfl) rfl (cl_getS hG fmX12_78 (hx_dq tdX12_wants_3 26 rfl) (mF_S49 hF) (mF_R49_34 hF) (cl_iload hG (hx_dq tdX12_wants_3 27 rfl) rfl (cl_iald hG (hx_dq tdX12_wants_3 28 rfl) (mF_S69 hF) i210_44 (cl_callV2 (caX12_wants_328 cA) (hx_dq tdX12_wants_3 29 rfl) (mF_S49 hF) (Nat.le_of_ble_eq_true rfl) (Nat.le_refl _) (Nat.le_refl _) (sX12_isTrue_mk hF hw (fun r211_46 m211_45 hw => ?_)))))))))))
        refine cl_if_ne hG 220 (hx_dq tdX12_wants_3 30 rfl) rfl (fun c214 => ?_) (fun c214 => ?_)
        · replace hw := hw.1 c214
          exact cl_sub hG (hx_le_c rfl (hx_le_c rfl (hx_le_n (hx_le_c rfl (hx_le_n (hx_le_n (hx_le_n (hx_le_c rfl (hx_le_c rfl (hx_le_n hx_le_0)))))))))) (kX12_wants_J220 hG cA hF v1 v3 v7 v8 hK (fun z0 z1 hw => ih z0 z1 hw) hw)
        · replace hw := hw.2 c214
          refine cl_goto hG 375 (hx_dq tdX12_wants_3 31 rfl) rfl ?_
          exact cl_sub hG (hx_le_c rfl (hx_le_c rfl (hx_le_n (hx_le_c rfl (hx_le_n (hx_le_n (hx_le_n (hx_le_c rfl (hx_le_c rfl (hx_le_n hx_le_0)))))))))) (kX12_wants_J375_47 hG cA hF v1 v3 v7 v8 hK (fun z0 z1 hw => ih z0 z1 hw) hw)
def wX12_wants (μ : hx_M) (v1 : Int32) (v2 : Int32) (v3 : Int32) (v4 : Int32) (v5 : Int32) (v6 : Int32) (K : Int32 → hx_M → Prop) : Prop := wX12_lengthAt μ v2 v3 (fun r3_2 => ∃ n11_50, wX12_wants_L11 v1 v2 v3 v4 v5 v6 r3_2 K (fun m_6 => vp_in 0 12 ∧ vp_in 1 12 ∧ vp_in v2 16 ∧ vp_in 2 12 ∧ ∀ m_11 : hx_M, m_11 = (hx_sI (hx_sI (hx_sI m_6 77 ((0 : Int32).toNatClampNeg) (v3 + 1)) 77 ((1 : Int32).toNatClampNeg) r3_2) 77 ((2 : Int32).toNatClampNeg) (m_6.1 51 v2.toNatClampNeg)) → vp_in 3 12 ∧ vp_in v2 16 ∧ vp_in 4 12 ∧ wX12_moneyAt (hx_sI (hx_sI m_11 77 ((3 : Int32).toNatClampNeg) v5) 77 ((4 : Int32).toNatClampNeg) (m_11.1 50 v2.toNatClampNeg)) v3 (fun r94_16 => vp_in 5 12 ∧ ∀ m_18 : hx_M, m_18 = (hx_sI (hx_sI (hx_sI m_11 77 ((3 : Int32).toNatClampNeg) v5) 77 ((4 : Int32).toNatClampNeg) (m_11.1 50 v2.toNatClampNeg)) 77 ((5 : Int32).toNatClampNeg) r94_16) → vp_in 6 12 ∧ vp_in 7 12 ∧ ∃ n119_49, wX12_wants_L119 v1 v3 r3_2 K (fun m_24 => ∃ n163_48, wX12_wants_L163 v1 v3 r3_2 K n163_48 (16 * v1) (hx_sI m_24 49 45 2)) n119_49 0 (hx_sI (hx_sI m_18 77 ((6 : Int32).toNatClampNeg) v4) 77 ((7 : Int32).toNatClampNeg) v6))) n11_50 0 μ)
set_option maxRecDepth 100000 in
set_option maxHeartbeats 4000000 in
theorem kX12_wants {G : hx_GT} {KK : hx_KT} (hG : hx_K cX12_wants 10 0 0 (some .int) TbX12 KK G) (cA : hx_CA RX12 cX12_wants 4 0 0 G) {Λ : hx_L} (hF : mF Λ) {μ : hx_M} (v1 : Int32) (v2 : Int32) (v3 : Int32) (v4 : Int32) (v5 : Int32) (v6 : Int32) {K : Int32 → hx_M → Prop} (hK : ∀ (r : Int32) (m : hx_M), K r m → KK (some (.int r)) Λ m) (hw : wX12_wants μ v1 v2 v3 v4 v5 v6 K) : G Λ μ (0, 0) 0 [some (.ref 49), some (.int v1), some (.int v2), some (.int v3), some (.int v4), some (.int v5), some (.int v6), none, none, none] [] := by
  unfold wX12_wants at hw
  refine cl_aload_n hG (hx_dq tdX12_wants_0 0 rfl) rfl (cl_iload_n hG (hx_dq tdX12_wants_0 1 rfl) rfl (cl_iload_n hG (hx_dq tdX12_wants_0 2 rfl) rfl (cl_callV2 (caX12_wants_302 cA) (hx_dq tdX12_wants_0 3 rfl) (mF_S49 hF) (Nat.le_of_ble_eq_true rfl) (Nat.le_refl _) (Nat.le_refl _) (sX12_lengthAt_mk hF hw (fun r3_2 hw => ?_)))))
  refine cl_istore hG (hx_dq tdX12_wants_0 4 rfl) (Nat.le_of_ble_eq_true rfl) rfl (cl_iconst hG 0 (hx_dq tdX12_wants_0 5 rfl) iconst_0 (cl_istore hG (hx_dq tdX12_wants_0 6 rfl) (Nat.le_of_ble_eq_true rfl) rfl ?_))
  obtain ⟨n_, hw⟩ := hw
  refine cl_sub hG (hx_le_c rfl (hx_le_c rfl (hx_le_c rfl (hx_le_c rfl (hx_le_c rfl (hx_le_c rfl (hx_le_c rfl (hx_le_c rfl (hx_le_c rfl (hx_le_n hx_le_0)))))))))) (kX12_wants_L11 hG cA hF v1 v2 v3 v4 v5 v6 r3_2 hK (fun m_6 hw => ?_) n_ 0 _ hw)
  · obtain ⟨i46_7, hw⟩ := hw
    obtain ⟨i54_8, hw⟩ := hw
    obtain ⟨i65_9, hw⟩ := hw
    obtain ⟨i66_10, hw⟩ := hw
    refine cl_aload_n hG (hx_dq tdX12_wants_0 21 rfl) rfl (cl_getS hG fmX12_104 (hx_dq tdX12_wants_0 22 rfl) (mF_S49 hF) (mF_R49_44 hF) (cl_iconst hG 0 (hx_dq tdX12_wants_0 23 rfl) iconst_0 (cl_iload_n hG (hx_dq tdX12_wants_0 24 rfl) rfl (cl_iconst hG 1 (hx_dq tdX12_wants_0 25 rfl) iconst_1 (cl_iadd hG (hx_dq tdX12_wants_0 26 rfl) (cl_iast hG (hx_dq tdX12_wants_0 27 rfl) (mF_S77 hF) i46_7 (cl_aload_n hG (hx_dq tdX12_wants_0 28 rfl) rfl (cl_getS hG fmX12_104 (hx_dq tdX12_wants_0 29 rfl) (mF_S49 hF) (mF_R49_44 hF) (cl_iconst hG 1 (hx_dq tdX12_wants_0 30 rfl) iconst_1 (cl_iload hG (hx_dq tdX12_wants_0 31 rfl) rfl (cl_iast hG (hx_dq tdX12_wants_1 0 rfl) (mF_S77 hF) i54_8 (cl_aload_n hG (hx_dq tdX12_wants_1 1 rfl) rfl (cl_getS hG fmX12_104 (hx_dq tdX12_wants_1 2 rfl) (mF_S49 hF) (mF_R49_44 hF) (cl_iconst hG 2 (hx_dq tdX12_wants_1 3 rfl) iconst_2 (cl_aload_n hG (hx_dq tdX12_wants_1 4 rfl) rfl (cl_getS hG fmX12_17 (hx_dq tdX12_wants_1 5 rfl) (mF_S49 hF) (mF_R49_8 hF) (cl_iload_n hG (hx_dq tdX12_wants_1 6 rfl) rfl (cl_iald hG (hx_dq tdX12_wants_1 7 rfl) (mF_S51 hF) i65_9 (cl_iast hG (hx_dq tdX12_wants_1 8 rfl) (mF_S77 hF) i66_10 (cl_nmM (fun m_11 e_11 => ?_)))))))))))))))))))))
    replace hw := hw m_11 e_11
    obtain ⟨i74_12, hw⟩ := hw
    obtain ⟨i85_13, hw⟩ := hw
    obtain ⟨i86_14, hw⟩ := hw
    refine cl_aload_n hG (hx_dq tdX12_wants_1 9 rfl) rfl (cl_getS hG fmX12_104 (hx_dq tdX12_wants_1 10 rfl) (mF_S49 hF) (mF_R49_44 hF) (cl_iconst hG 3 (hx_dq tdX12_wants_1 11 rfl) iconst_3 (cl_iload hG (hx_dq tdX12_wants_1 12 rfl) rfl (cl_iast hG (hx_dq tdX12_wants_1 13 rfl) (mF_S77 hF) i74_12 (cl_aload_n hG (hx_dq tdX12_wants_1 14 rfl) rfl (cl_getS hG fmX12_104 (hx_dq tdX12_wants_1 15 rfl) (mF_S49 hF) (mF_R49_44 hF) (cl_iconst hG 4 (hx_dq tdX12_wants_1 16 rfl) iconst_4 (cl_aload_n hG (hx_dq tdX12_wants_1 17 rfl) rfl (cl_getS hG fmX12_13 (hx_dq tdX12_wants_1 18 rfl) (mF_S49 hF) (mF_R49_7 hF) (cl_iload_n hG (hx_dq tdX12_wants_1 19 rfl) rfl (cl_iald hG (hx_dq tdX12_wants_1 20 rfl) (mF_S50 hF) i85_13 (cl_iast hG (hx_dq tdX12_wants_1 21 rfl) (mF_S77 hF) i86_14 (cl_aload_n hG (hx_dq tdX12_wants_1 22 rfl) rfl (cl_getS hG fmX12_104 (hx_dq tdX12_wants_1 23 rfl) (mF_S49 hF) (mF_R49_44 hF) (cl_iconst hG 5 (hx_dq tdX12_wants_1 24 rfl) iconst_5 (cl_aload_n hG (hx_dq tdX12_wants_1 25 rfl) rfl (cl_iload_n hG (hx_dq tdX12_wants_1 26 rfl) rfl (cl_callV1 (caX12_wants_317 cA) (hx_dq tdX12_wants_1 27 rfl) (mF_S49 hF) (Nat.le_of_ble_eq_true rfl) (Nat.le_refl _) (Nat.le_refl _) (sX12_moneyAt_mk hF hw (fun r94_16 hw => ?_))))))))))))))))))))
    obtain ⟨i97_17, hw⟩ := hw
    refine cl_iast hG (hx_dq tdX12_wants_1 28 rfl) (mF_S77 hF) i97_17 (cl_nmM (fun m_18 e_18 => ?_))
    replace hw := hw m_18 e_18
    obtain ⟨i106_19, hw⟩ := hw
    obtain ⟨i115_20, hw⟩ := hw
    refine cl_aload_n hG (hx_dq tdX12_wants_1 29 rfl) rfl (cl_getS hG fmX12_104 (hx_dq tdX12_wants_1 30 rfl) (mF_S49 hF) (mF_R49_44 hF) (cl_bipush hG 6 (hx_dq tdX12_wants_1 31 rfl) bipush_6 (cl_iload hG (hx_dq tdX12_wants_2 0 rfl) rfl (cl_iast hG (hx_dq tdX12_wants_2 1 rfl) (mF_S77 hF) i106_19 (cl_aload_n hG (hx_dq tdX12_wants_2 2 rfl) rfl (cl_getS hG fmX12_104 (hx_dq tdX12_wants_2 3 rfl) (mF_S49 hF) (mF_R49_44 hF) (cl_bipush hG 7 (hx_dq tdX12_wants_2 4 rfl) bipush_7 (cl_iload hG (hx_dq tdX12_wants_2 5 rfl) rfl (cl_iast hG (hx_dq tdX12_wants_2 6 rfl) (mF_S77 hF) i115_20 (cl_iconst hG 0 (hx_dq tdX12_wants_2 7 rfl) iconst_0 (cl_istore hG (hx_dq tdX12_wants_2 8 rfl) (Nat.le_of_ble_eq_true rfl) rfl ?_)))))))))))
    obtain ⟨n_, hw⟩ := hw
    refine cl_sub hG (hx_le_c rfl (hx_le_c rfl (hx_le_n (hx_le_c rfl (hx_le_n (hx_le_n (hx_le_n (hx_le_c rfl (hx_le_c rfl (hx_le_n hx_le_0)))))))))) (kX12_wants_L119 hG cA hF v1 v3 r3_2 hK (fun m_24 hw => ?_) n_ 0 _ hw)
    · refine cl_aload_n hG (hx_dq tdX12_wants_2 26 rfl) rfl (cl_iconst hG 2 (hx_dq tdX12_wants_2 27 rfl) iconst_2 (cl_putI hG fmX12_325 (hx_dq tdX12_wants_2 28 rfl) (mF_S49 hF) (cl_bipush hG 16 (hx_dq tdX12_wants_2 29 rfl) bipush_16 (cl_iload_n hG (hx_dq tdX12_wants_2 30 rfl) rfl (cl_imul hG (hx_dq tdX12_wants_2 31 rfl) (cl_istore hG (hx_dq tdX12_wants_3 0 rfl) (Nat.le_of_ble_eq_true rfl) rfl ?_))))))
      obtain ⟨n_, hw⟩ := hw
      refine cl_sub hG (hx_le_c rfl (hx_le_c rfl (hx_le_n (hx_le_c rfl (hx_le_n (hx_le_n (hx_le_n (hx_le_c rfl (hx_le_c rfl (hx_le_n hx_le_0)))))))))) (kX12_wants_L163 hG cA hF v1 v3 r3_2 hK n_ (16 * v1) _ hw)
def sX12_wants : hx_ST := fun Λ μ as KK => mF Λ ∧ ∃ (v1 : Int32) (v2 : Int32) (v3 : Int32) (v4 : Int32) (v5 : Int32) (v6 : Int32) (K : Int32 → hx_M → Prop), as = [.ref 49, .int v1, .int v2, .int v3, .int v4, .int v5, .int v6] ∧ wX12_wants μ v1 v2 v3 v4 v5 v6 K ∧ (∀ (r : Int32) (m : hx_M), K r m → KK (some (.int r)) Λ m)
theorem sX12_wants_mk {Λ : hx_L} {μ : hx_M} {KK : hx_KT} {v1 : Int32} {v2 : Int32} {v3 : Int32} {v4 : Int32} {v5 : Int32} {v6 : Int32} {K : Int32 → hx_M → Prop} (hF : mF Λ) (hw : wX12_wants μ v1 v2 v3 v4 v5 v6 K) (hk : ∀ (r : Int32) (m : hx_M), K r m → KK (some (.int r)) Λ m) : sX12_wants Λ μ [.ref 49, .int v1, .int v2, .int v3, .int v4, .int v5, .int v6] KK := ⟨hF, _, _, _, _, _, _, _, rfl, hw, hk⟩
theorem conX12_wants : hx_Con yX12_wants cX12_wants 10 (some .int) 4 0 0 sX12_wants := by
  refine hx_con_of (by decide +kernel) tokX12 (by decide) ?_ ?_
  · intro Λ μ as KK h
    obtain ⟨hF, v1, v2, v3, v4, v5, v6, K, rfl, hw, hK⟩ := h
    exact Nat.le_of_ble_eq_true rfl
  · intro G KK hG cA Λ μ as h
    obtain ⟨hF, v1, v2, v3, v4, v5, v6, K, rfl, hw, hK⟩ := h
    exact cl_sub hG (hx_le_c rfl (hx_le_c rfl (hx_le_c rfl (hx_le_c rfl (hx_le_c rfl (hx_le_c rfl (hx_le_c rfl (hx_le_n (hx_le_n (hx_le_n hx_le_0)))))))))) (kX12_wants hG cA hF _ _ _ _ _ _ hK hw)
/-! HemLineModel.begins()V -/
def tbX12_begins_0 : List (Nat × Instr × Nat) := [(0, .aload_n 0, 1), (1, .getfield 50, 3), (4, .aload_n 0, 1), (5, .getfield 161, 3), (8, .aload_n 0, 1), (9, .getfield 164, 3), (12, .iastore, 1), (13, .iconst 0, 1), (14, .istore_n 1, 1), (15, .iload_n 1, 1), (16, .iconst 4, 1), (17, .if_icmp .ge 28, 3), (20, .aload_n 0, 1), (21, .getfield 47, 3), (24, .iconst 4, 1), (25, .aload_n 0, 1), (26, .getfield 161, 3), (29, .imul, 1), (30, .iload_n 1, 1), (31, .iadd, 1), (32, .aload_n 0, 1), (33, .getfield 29, 3), (36, .iload_n 1, 1), (37, .iaload, 1), (38, .iastore, 1), (39, .iinc 1 1, 3), (42, .goto (-27), 3), (45, .aload_n 0, 1), (46, .dup, 1), (47, .getfield 161, 3), (50, .iconst 1, 1), (51, .iadd, 1)]
def tbX12_begins_1 : List (Nat × Instr × Nat) := [(52, .putfield 161, 3), (55, .return_, 1)]
theorem tdX12_begins_0 : hx_dt cX12_begins tbX12_begins_0 = true := by decide +kernel
theorem tdX12_begins_1 : hx_dt cX12_begins tbX12_begins_1 = true := by decide +kernel
def wX12_begins_L15  (K : hx_M → Prop) (K45 : hx_M → Prop) : Nat → Int32 → hx_M → Prop
  | 0, _, _ => False
  | n + 1, v1, μ => (4 ≤ v1 → (K45 μ)) ∧ (¬ (4 ≤ v1) → (vp_in v1 4 ∧ vp_in ((4 * (μ.1 49 1)) + v1) 1204 ∧ wX12_begins_L15 K K45 n (v1 + 1) (hx_sI μ 61 (((4 * (μ.1 49 1)) + v1).toNatClampNeg) (μ.1 55 v1.toNatClampNeg))))
set_option maxRecDepth 100000 in
set_option maxHeartbeats 4000000 in
theorem kX12_begins_L15 {G : hx_GT} {KK : hx_KT} (hG : hx_K cX12_begins 2 0 0 (none) TbX12 KK G) (cA : hx_CA RX12 cX12_begins 1 0 0 G) {Λ : hx_L} (hF : mF Λ)   {K : hx_M → Prop} (hK : ∀ (m : hx_M), K m → KK none Λ m) {K45 : hx_M → Prop} (hk45 : ∀ (μ : hx_M), K45 μ → G Λ μ (0, 0) 45 [some (.ref 49), none] []) : ∀ (n : Nat) (v1 : Int32) (μ : hx_M), wX12_begins_L15 K K45 n v1 μ → G Λ μ (0, 0) 15 [some (.ref 49), some (.int v1)] [] := by
  intro n
  induction n with
  | zero =>
    intro v1 μ hw
    exact False.elim (by simpa only [wX12_begins_L15] using hw)
  | succ n ih =>
    intro v1 μ hw
    unfold wX12_begins_L15 at hw
    refine cl_iload_n hG (hx_dq tdX12_begins_0 9 rfl) rfl (cl_iconst hG 4 (hx_dq tdX12_begins_0 10 rfl) iconst_4 (cl_icmp_ge hG 45 (hx_dq tdX12_begins_0 11 rfl) rfl (fun c17 => ?_) (fun c17 => ?_)))
    · replace hw := hw.1 c17
      exact cl_sub hG (hx_le_c rfl (hx_le_n hx_le_0)) (hk45 _ hw)
    · replace hw := hw.2 c17
      obtain ⟨i37_2, hw⟩ := hw
      obtain ⟨i38_3, hw⟩ := hw
      exact cl_aload_n hG (hx_dq tdX12_begins_0 12 rfl) rfl (cl_getS hG fmX12_47 (hx_dq tdX12_begins_0 13 rfl) (mF_S49 hF) (mF_R49_18 hF) (cl_iconst hG 4 (hx_dq tdX12_begins_0 14 rfl) iconst_4 (cl_aload_n hG (hx_dq tdX12_begins_0 15 rfl) rfl (cl_getI hG fmX12_161 (hx_dq tdX12_begins_0 16 rfl) (mF_S49 hF) (cl_imul hG (hx_dq tdX12_begins_0 17 rfl) (cl_iload_n hG (hx_dq tdX12_begins_0 18 rfl) rfl (cl_iadd hG (hx_dq tdX12_begins_0 19 rfl) (cl_aload_n hG (hx_dq tdX12_begins_0 20 rfl) rfl (cl_getS hG fmX12_29 (hx_dq tdX12_begins_0 21 rfl) (mF_S49 hF) (mF_R49_12 hF) (cl_iload_n hG (hx_dq tdX12_begins_0 22 rfl) rfl (cl_iald hG (hx_dq tdX12_begins_0 23 rfl) (mF_S55 hF) i37_2 (cl_iast hG (hx_dq tdX12_begins_0 24 rfl) (mF_S61 hF) i38_3 (cl_iinc hG (v1 + 1) (hx_dq tdX12_begins_0 25 rfl) rfl (congrArg (fun z => v1 + z) iconst_1) (Nat.le_of_ble_eq_true rfl) rfl (cl_goto hG 15 (hx_dq tdX12_begins_0 26 rfl) rfl (cl_sub hG (hx_le_c rfl (hx_le_c rfl hx_le_0)) (ih (v1 + 1) _ hw))))))))))))))))
def wX12_begins (μ : hx_M)  (K : hx_M → Prop) : Prop := vp_in (μ.1 49 1) 301 ∧ ∃ n15_5, wX12_begins_L15 K (fun m_4 => K (hx_sI m_4 49 1 ((m_4.1 49 1) + 1))) n15_5 0 (hx_sI μ 62 ((μ.1 49 1).toNatClampNeg) (μ.1 49 2))
set_option maxRecDepth 100000 in
set_option maxHeartbeats 4000000 in
theorem kX12_begins {G : hx_GT} {KK : hx_KT} (hG : hx_K cX12_begins 2 0 0 (none) TbX12 KK G) (cA : hx_CA RX12 cX12_begins 1 0 0 G) {Λ : hx_L} (hF : mF Λ) {μ : hx_M}  {K : hx_M → Prop} (hK : ∀ (m : hx_M), K m → KK none Λ m) (hw : wX12_begins μ K) : G Λ μ (0, 0) 0 [some (.ref 49), none] [] := by
  unfold wX12_begins at hw
  obtain ⟨i12_1, hw⟩ := hw
  refine cl_aload_n hG (hx_dq tdX12_begins_0 0 rfl) rfl (cl_getS hG fmX12_50 (hx_dq tdX12_begins_0 1 rfl) (mF_S49 hF) (mF_R49_19 hF) (cl_aload_n hG (hx_dq tdX12_begins_0 2 rfl) rfl (cl_getI hG fmX12_161 (hx_dq tdX12_begins_0 3 rfl) (mF_S49 hF) (cl_aload_n hG (hx_dq tdX12_begins_0 4 rfl) rfl (cl_getI hG fmX12_164 (hx_dq tdX12_begins_0 5 rfl) (mF_S49 hF) (cl_iast hG (hx_dq tdX12_begins_0 6 rfl) (mF_S62 hF) i12_1 (cl_iconst hG 0 (hx_dq tdX12_begins_0 7 rfl) iconst_0 (cl_istore_n hG (hx_dq tdX12_begins_0 8 rfl) (Nat.le_of_ble_eq_true rfl) rfl ?_))))))))
  obtain ⟨n_, hw⟩ := hw
  refine cl_sub hG (hx_le_c rfl (hx_le_c rfl hx_le_0)) (kX12_begins_L15 hG cA hF hK (fun m_4 hw => ?_) n_ 0 _ hw)
  · exact cl_aload_n hG (hx_dq tdX12_begins_0 27 rfl) rfl (cl_dup hG (hx_dq tdX12_begins_0 28 rfl) rfl (cl_getI hG fmX12_161 (hx_dq tdX12_begins_0 29 rfl) (mF_S49 hF) (cl_iconst hG 1 (hx_dq tdX12_begins_0 30 rfl) iconst_1 (cl_iadd hG (hx_dq tdX12_begins_0 31 rfl) (cl_putI hG fmX12_161 (hx_dq tdX12_begins_1 0 rfl) (mF_S49 hF) (cl_vret hG (hx_dq tdX12_begins_1 1 rfl) rfl (hK _ hw) (Nat.le_refl _) (Nat.le_refl _)))))))
def sX12_begins : hx_ST := fun Λ μ as KK => mF Λ ∧ ∃ (K : hx_M → Prop), as = [.ref 49] ∧ wX12_begins μ K ∧ (∀ (m : hx_M), K m → KK none Λ m)
theorem sX12_begins_mk {Λ : hx_L} {μ : hx_M} {KK : hx_KT}  {K : hx_M → Prop} (hF : mF Λ) (hw : wX12_begins μ K) (hk : ∀ (m : hx_M), K m → KK none Λ m) : sX12_begins Λ μ [.ref 49] KK := ⟨hF, _, rfl, hw, hk⟩
theorem conX12_begins : hx_Con yX12_begins cX12_begins 2 (none) 1 0 0 sX12_begins := by
  refine hx_con_of (by decide +kernel) tokX12 (by decide) ?_ ?_
  · intro Λ μ as KK h
    obtain ⟨hF, K, rfl, hw, hK⟩ := h
    exact Nat.le_of_ble_eq_true rfl
  · intro G KK hG cA Λ μ as h
    obtain ⟨hF, K, rfl, hw, hK⟩ := h
    exact cl_sub hG (hx_le_c rfl (hx_le_n hx_le_0)) (kX12_begins hG cA hF hK hw)
/-! HemLineModel.counts(II)V -/
def tbX12_counts_0 : List (Nat × Instr × Nat) := [(0, .aload_n 0, 1), (1, .getfield 32, 3), (4, .bipush 6, 2), (6, .iload_n 1, 1), (7, .imul, 1), (8, .iload_n 2, 1), (9, .iadd, 1), (10, .dup2, 1), (11, .iaload, 1), (12, .iconst 1, 1), (13, .iadd, 1), (14, .iastore, 1), (15, .return_, 1)]
theorem tdX12_counts_0 : hx_dt cX12_counts tbX12_counts_0 = true := by decide +kernel
def wX12_counts (μ : hx_M) (v1 : Int32) (v2 : Int32) (K : hx_M → Prop) : Prop := vp_in ((6 * v1) + v2) 96 ∧ vp_in ((6 * v1) + v2) 96 ∧ K (hx_sI μ 56 (((6 * v1) + v2).toNatClampNeg) (((μ.1 56 (((6 * v1) + v2).toNatClampNeg))) + 1))
set_option maxRecDepth 100000 in
set_option maxHeartbeats 4000000 in
theorem kX12_counts {G : hx_GT} {KK : hx_KT} (hG : hx_K cX12_counts 3 0 0 (none) TbX12 KK G) (cA : hx_CA RX12 cX12_counts 1 0 0 G) {Λ : hx_L} (hF : mF Λ) {μ : hx_M} (v1 : Int32) (v2 : Int32) {K : hx_M → Prop} (hK : ∀ (m : hx_M), K m → KK none Λ m) (hw : wX12_counts μ v1 v2 K) : G Λ μ (0, 0) 0 [some (.ref 49), some (.int v1), some (.int v2)] [] := by
  unfold wX12_counts at hw
  obtain ⟨i11_1, hw⟩ := hw
  obtain ⟨i14_2, hw⟩ := hw
  exact cl_aload_n hG (hx_dq tdX12_counts_0 0 rfl) rfl (cl_getS hG fmX12_32 (hx_dq tdX12_counts_0 1 rfl) (mF_S49 hF) (mF_R49_13 hF) (cl_bipush hG 6 (hx_dq tdX12_counts_0 2 rfl) bipush_6 (cl_iload_n hG (hx_dq tdX12_counts_0 3 rfl) rfl (cl_imul hG (hx_dq tdX12_counts_0 4 rfl) (cl_iload_n hG (hx_dq tdX12_counts_0 5 rfl) rfl (cl_iadd hG (hx_dq tdX12_counts_0 6 rfl) (cl_dup2 hG (hx_dq tdX12_counts_0 7 rfl) rfl rfl (cl_iald hG (hx_dq tdX12_counts_0 8 rfl) (mF_S56 hF) i11_1 (cl_iconst hG 1 (hx_dq tdX12_counts_0 9 rfl) iconst_1 (cl_iadd hG (hx_dq tdX12_counts_0 10 rfl) (cl_iast hG (hx_dq tdX12_counts_0 11 rfl) (mF_S56 hF) i14_2 (cl_vret hG (hx_dq tdX12_counts_0 12 rfl) rfl (hK _ hw) (Nat.le_refl _) (Nat.le_refl _)))))))))))))
def sX12_counts : hx_ST := fun Λ μ as KK => mF Λ ∧ ∃ (v1 : Int32) (v2 : Int32) (K : hx_M → Prop), as = [.ref 49, .int v1, .int v2] ∧ wX12_counts μ v1 v2 K ∧ (∀ (m : hx_M), K m → KK none Λ m)
theorem sX12_counts_mk {Λ : hx_L} {μ : hx_M} {KK : hx_KT} {v1 : Int32} {v2 : Int32} {K : hx_M → Prop} (hF : mF Λ) (hw : wX12_counts μ v1 v2 K) (hk : ∀ (m : hx_M), K m → KK none Λ m) : sX12_counts Λ μ [.ref 49, .int v1, .int v2] KK := ⟨hF, _, _, _, rfl, hw, hk⟩
theorem conX12_counts : hx_Con yX12_counts cX12_counts 3 (none) 1 0 0 sX12_counts := by
  refine hx_con_of (by decide +kernel) tokX12 (by decide) ?_ ?_
  · intro Λ μ as KK h
    obtain ⟨hF, v1, v2, K, rfl, hw, hK⟩ := h
    exact Nat.le_of_ble_eq_true rfl
  · intro G KK hG cA Λ μ as h
    obtain ⟨hF, v1, v2, K, rfl, hw, hK⟩ := h
    exact cl_sub hG (hx_le_c rfl (hx_le_c rfl (hx_le_c rfl hx_le_0))) (kX12_counts hG cA hF _ _ hK hw)
/-! HemLineModel.goes(II)V -/
def tbX12_goes_0 : List (Nat × Instr × Nat) := [(0, .aload_n 0, 1), (1, .aload_n 0, 1), (2, .getfield 7, 3), (5, .ldc2_w 340, 3), (8, .lmul, 1), (9, .ldc2_w 342, 3), (12, .ladd, 1), (13, .putfield 7, 3), (16, .aload_n 0, 1), (17, .getfield 7, 3), (20, .bipush 33, 2), (22, .lushr, 1), (23, .ldc2_w 344, 3), (26, .lrem, 1), (27, .l2i, 1), (28, .istore_n 3, 1), (29, .aload_n 0, 1), (30, .getfield 20, 3), (33, .iload_n 1, 1), (34, .sipush 9999, 3), (37, .aload_n 0, 1), (38, .getfield 20, 3), (41, .iload_n 1, 1), (42, .iaload, 1), (43, .aload_n 0, 1), (44, .getfield 17, 3), (47, .iload_n 1, 1), (48, .iaload, 1), (49, .iadd, 1), (50, .invokestatic 334, 3), (53, .iastore, 1), (54, .bipush 16, 2)]
def tbX12_goes_1 : List (Nat × Instr × Nat) := [(56, .aload_n 0, 1), (57, .getfield 161, 3), (60, .imul, 1), (61, .iload_n 1, 1), (62, .iadd, 1), (63, .istore 4, 2), (65, .aload_n 0, 1), (66, .getfield 44, 3), (69, .iload 4, 2), (71, .iload_n 3, 1), (72, .iastore, 1), (73, .aload_n 0, 1), (74, .getfield 38, 3), (77, .iload 4, 2), (79, .aload_n 0, 1), (80, .getfield 20, 3), (83, .iload_n 1, 1), (84, .iaload, 1), (85, .iastore, 1), (86, .aload_n 0, 1), (87, .getfield 41, 3), (90, .iload 4, 2), (92, .aload_n 0, 1), (93, .getfield 23, 3), (96, .iload_n 1, 1), (97, .iaload, 1), (98, .iastore, 1), (99, .aload_n 0, 1), (100, .iload_n 1, 1), (101, .iload_n 2, 1), (102, .invokevirtual 302, 3), (105, .istore 5, 2)]
def tbX12_goes_2 : List (Nat × Instr × Nat) := [(107, .aload_n 0, 1), (108, .aload_n 0, 1), (109, .getfield 53, 3), (112, .iload_n 1, 1), (113, .iload_n 2, 1), (114, .iload_n 3, 1), (115, .aload_n 0, 1), (116, .getfield 20, 3), (119, .iload_n 1, 1), (120, .iaload, 1), (121, .aload_n 0, 1), (122, .getfield 23, 3), (125, .iload_n 1, 1), (126, .iaload, 1), (127, .invokevirtual 346, 3), (130, .istore 6, 2), (132, .aload_n 0, 1), (133, .getfield 35, 3), (136, .iload 4, 2), (138, .iload 5, 2), (140, .iastore, 1), (141, .aload_n 0, 1), (142, .getfield 23, 3), (145, .iload_n 1, 1), (146, .dup2, 1), (147, .iaload, 1), (148, .iconst 1, 1), (149, .iadd, 1), (150, .iastore, 1), (151, .iload 6, 2), (153, .iload 5, 2), (155, .if_icmp .ne 10, 3)]
def tbX12_goes_3 : List (Nat × Instr × Nat) := [(158, .aload_n 0, 1), (159, .iload_n 1, 1), (160, .iconst 2, 1), (161, .invokevirtual 350, 3), (164, .return_, 1), (165, .aload_n 0, 1), (166, .iload_n 1, 1), (167, .aload_n 0, 1), (168, .getfield 325, 3), (171, .ifCond .ne 7, 3), (174, .iconst 0, 1), (175, .goto 4, 3), (178, .iconst 1, 1), (179, .invokevirtual 350, 3), (182, .iload 6, 2), (184, .iload 5, 2), (186, .isub, 1), (187, .invokestatic 337, 3), (190, .aload_n 0, 1), (191, .getfield 174, 3), (194, .if_icmp .gt 7, 3), (197, .iconst 1, 1), (198, .goto 4, 3), (201, .iconst 0, 1), (202, .istore 7, 2), (204, .iload 7, 2), (206, .ifCond .eq 10, 3), (209, .aload_n 0, 1), (210, .getfield 177, 3), (213, .goto 7, 3), (216, .aload_n 0, 1), (217, .getfield 171, 3)]
def tbX12_goes_4 : List (Nat × Instr × Nat) := [(220, .istore 8, 2), (222, .aload_n 0, 1), (223, .getfield 20, 3), (226, .iload_n 1, 1), (227, .iaload, 1), (228, .iload 8, 2), (230, .if_icmp .ge 10, 3), (233, .aload_n 0, 1), (234, .iload_n 1, 1), (235, .iconst 3, 1), (236, .invokevirtual 350, 3), (239, .return_, 1), (240, .aload_n 0, 1), (241, .getfield 20, 3), (244, .iload_n 1, 1), (245, .dup2, 1), (246, .iaload, 1), (247, .iload 8, 2), (249, .isub, 1), (250, .iastore, 1), (251, .aload_n 0, 1), (252, .iload_n 1, 1), (253, .iload 7, 2), (255, .ifCond .eq 7, 3), (258, .iconst 4, 1), (259, .goto 4, 3), (262, .iconst 5, 1), (263, .invokevirtual 350, 3), (266, .aload_n 0, 1), (267, .getfield 35, 3), (270, .iload 4, 2), (272, .iload 6, 2)]
def tbX12_goes_5 : List (Nat × Instr × Nat) := [(274, .iastore, 1), (275, .aload_n 0, 1), (276, .getfield 23, 3), (279, .iload_n 1, 1), (280, .iconst 0, 1), (281, .iastore, 1), (282, .return_, 1)]
theorem tdX12_goes_0 : hx_dt cX12_goes tbX12_goes_0 = true := by decide +kernel
theorem tdX12_goes_1 : hx_dt cX12_goes tbX12_goes_1 = true := by decide +kernel
theorem tdX12_goes_2 : hx_dt cX12_goes tbX12_goes_2 = true := by decide +kernel
theorem tdX12_goes_3 : hx_dt cX12_goes tbX12_goes_3 = true := by decide +kernel
theorem tdX12_goes_4 : hx_dt cX12_goes tbX12_goes_4 = true := by decide +kernel
theorem tdX12_goes_5 : hx_dt cX12_goes tbX12_goes_5 = true := by decide +kernel
theorem caX12_goes_302 {G : hx_GT} (cA : hx_CA RX12 cX12_goes 5 0 0 G) : hx_CV cX12_goes G 0 0 302 12 2 sX12_lengthAt 0 0 := cA.1 conX12_lengthAt rfl rfl ⟨by decide +kernel, by decide +kernel, by decide +kernel⟩ mw_1486 mw_1488 mw_54 mw_97 mw_1489 (by decide) (by decide)
theorem caX12_goes_346 {G : hx_GT} (cA : hx_CA RX12 cX12_goes 5 0 0 G) : hx_CV cX12_goes G 0 0 346 12 6 sX12_wants 0 0 := cA.1 conX12_wants rfl rfl ⟨by decide +kernel, by decide +kernel, by decide +kernel⟩ mw_1490 mw_1492 mw_55 mw_97 mw_1493 (by decide) (by decide)
theorem caX12_goes_350 {G : hx_GT} (cA : hx_CA RX12 cX12_goes 5 0 0 G) : hx_CV cX12_goes G 0 0 350 12 2 sX12_counts 0 0 := cA.1 conX12_counts rfl rfl ⟨by decide +kernel, by decide +kernel, by decide +kernel⟩ mw_1523 mw_1525 mw_62 mw_97 mw_1526 (by decide) (by decide)
def wX12_goes_J263  (K : hx_M → Prop)  (v1 : Int32) (v4 : Int32) (v6 : Int32) (t1 : Int32) (t2 : Int32) (μ : hx_M) : Prop := wX12_counts μ t1 t2 (fun m263_30 => vp_in v4 4816 ∧ vp_in v1 16 ∧ K (hx_sI (hx_sI m263_30 57 v4.toNatClampNeg v6) 53 v1.toNatClampNeg 0))
set_option maxRecDepth 100000 in
set_option maxHeartbeats 4000000 in
theorem kX12_goes_J263 {G : hx_GT} {KK : hx_KT} (hG : hx_K cX12_goes 9 0 0 (none) TbX12 KK G) (cA : hx_CA RX12 cX12_goes 5 0 0 G) {Λ : hx_L} (hF : mF Λ) {μ : hx_M} (v1 : Int32) (v4 : Int32) (v6 : Int32) (t1 : Int32) (t2 : Int32) {K : hx_M → Prop} (hK : ∀ (m : hx_M), K m → KK none Λ m)  (hw : wX12_goes_J263 K v1 v4 v6 t1 t2 μ) : G Λ μ (0, 0) 263 [some (.ref 49), some (.int v1), none, none, some (.int v4), none, some (.int v6), none, none] [.int t2, .int t1, .ref 49] := by
  unfold wX12_goes_J263 at hw
  refine cl_callV2 (caX12_goes_350 cA) (hx_dq tdX12_goes_4 27 rfl) (mF_S49 hF) (Nat.le_of_ble_eq_true rfl) (Nat.le_refl _) (Nat.le_refl _) (sX12_counts_mk hF hw (fun m263_30 hw => ?_))
  obtain ⟨i274_32, hw⟩ := hw
  obtain ⟨i281_33, hw⟩ := hw
  exact cl_aload_n hG (hx_dq tdX12_goes_4 28 rfl) rfl (cl_getS hG fmX12_35 (hx_dq tdX12_goes_4 29 rfl) (mF_S49 hF) (mF_R49_14 hF) (cl_iload hG (hx_dq tdX12_goes_4 30 rfl) rfl (cl_iload hG (hx_dq tdX12_goes_4 31 rfl) rfl (cl_iast hG (hx_dq tdX12_goes_5 0 rfl) (mF_S57 hF) i274_32 (cl_aload_n hG (hx_dq tdX12_goes_5 1 rfl) rfl (cl_getS hG fmX12_23 (hx_dq tdX12_goes_5 2 rfl) (mF_S49 hF) (mF_R49_10 hF) (cl_iload_n hG (hx_dq tdX12_goes_5 3 rfl) rfl (cl_iconst hG 0 (hx_dq tdX12_goes_5 4 rfl) iconst_0 (cl_iast hG (hx_dq tdX12_goes_5 5 rfl) (mF_S53 hF) i281_33 (cl_vret hG (hx_dq tdX12_goes_5 6 rfl) rfl (hK _ hw) (Nat.le_refl _) (Nat.le_refl _)))))))))))
def wX12_goes_J220  (K : hx_M → Prop)  (v1 : Int32) (v4 : Int32) (v6 : Int32) (v7 : Int32) (t0 : Int32) (μ : hx_M) : Prop := vp_in v1 16 ∧ (t0 ≤ (μ.1 52 v1.toNatClampNeg) → (vp_in v1 16 ∧ vp_in v1 16 ∧ (v7 = 0 → (wX12_goes_J263 K v1 v4 v6 v1 5 (hx_sI μ 52 v1.toNatClampNeg ((μ.1 52 v1.toNatClampNeg) - t0)))) ∧ (¬ (v7 = 0) → (wX12_goes_J263 K v1 v4 v6 v1 4 (hx_sI μ 52 v1.toNatClampNeg ((μ.1 52 v1.toNatClampNeg) - t0)))))) ∧ (¬ (t0 ≤ (μ.1 52 v1.toNatClampNeg)) → (wX12_counts μ v1 3 (fun m236_34 => K m236_34)))
set_option maxRecDepth 100000 in
set_option maxHeartbeats 4000000 in
theorem kX12_goes_J220 {G : hx_GT} {KK : hx_KT} (hG : hx_K cX12_goes 9 0 0 (none) TbX12 KK G) (cA : hx_CA RX12 cX12_goes 5 0 0 G) {Λ : hx_L} (hF : mF Λ) {μ : hx_M} (v1 : Int32) (v4 : Int32) (v6 : Int32) (v7 : Int32) (t0 : Int32) {K : hx_M → Prop} (hK : ∀ (m : hx_M), K m → KK none Λ m)  (hw : wX12_goes_J220 K v1 v4 v6 v7 t0 μ) : G Λ μ (0, 0) 220 [some (.ref 49), some (.int v1), none, none, some (.int v4), none, some (.int v6), some (.int v7), none] [.int t0] := by
  unfold wX12_goes_J220 at hw
  obtain ⟨i227_27, hw⟩ := hw
  refine cl_istore hG (hx_dq tdX12_goes_4 0 rfl) (Nat.le_of_ble_eq_true rfl) rfl (cl_aload_n hG (hx_dq tdX12_goes_4 1 rfl) rfl (cl_getS hG fmX12_20 (hx_dq tdX12_goes_4 2 rfl) (mF_S49 hF) (mF_R49_9 hF) (cl_iload_n hG (hx_dq tdX12_goes_4 3 rfl) rfl (cl_iald hG (hx_dq tdX12_goes_4 4 rfl) (mF_S52 hF) i227_27 (cl_iload hG (hx_dq tdX12_goes_4 5 rfl) rfl (cl_icmp_ge hG 240 (hx_dq tdX12_goes_4 6 rfl) rfl (fun c230 => ?_) (fun c230 => ?_)))))))
  · replace hw := hw.1 c230
    obtain ⟨i246_28, hw⟩ := hw
    obtain ⟨i250_29, hw⟩ := hw
    refine cl_aload_n hG (hx_dq tdX12_goes_4 12 rfl) rfl (cl_getS hG fmX12_20 (hx_dq tdX12_goes_4 13 rfl) (mF_S49 hF) (mF_R49_9 hF) (cl_iload_n hG (hx_dq tdX12_goes_4 14 rfl) rfl (cl_dup2 hG (hx_dq tdX12_goes_4 15 rfl) rfl rfl (cl_iald hG (hx_dq tdX12_goes_4 16 rfl) (mF_S52 hF) i246_28 (cl_iload hG (hx_dq tdX12_goes_4 17 rfl) rfl (cl_isub hG (hx_dq tdX12_goes_4 18 rfl) (cl_iast hG (hx_dq tdX12_goes_4 19 rfl) (mF_S52 hF) i250_29 (cl_aload_n hG (hx_dq tdX12_goes_4 20 rfl) rfl (cl_iload_n hG (hx_dq tdX12_goes_4 21 rfl) rfl (cl_iload hG (hx_dq tdX12_goes_4 22 rfl) rfl (cl_if_eq hG 262 (hx_dq tdX12_goes_4 23 rfl) rfl (fun c255 => ?_) (fun c255 => ?_))))))))))))
    · replace hw := hw.1 c255
      refine cl_iconst hG 5 (hx_dq tdX12_goes_4 26 rfl) iconst_5 ?_
      exact cl_sub hG (hx_le_c rfl (hx_le_c rfl (hx_le_n (hx_le_n (hx_le_c rfl (hx_le_n (hx_le_c rfl (hx_le_n (hx_le_n hx_le_0))))))))) (kX12_goes_J263 hG cA hF v1 v4 v6 v1 5 hK hw)
    · replace hw := hw.2 c255
      refine cl_iconst hG 4 (hx_dq tdX12_goes_4 24 rfl) iconst_4 (cl_goto hG 263 (hx_dq tdX12_goes_4 25 rfl) rfl ?_)
      exact cl_sub hG (hx_le_c rfl (hx_le_c rfl (hx_le_n (hx_le_n (hx_le_c rfl (hx_le_n (hx_le_c rfl (hx_le_n (hx_le_n hx_le_0))))))))) (kX12_goes_J263 hG cA hF v1 v4 v6 v1 4 hK hw)
  · replace hw := hw.2 c230
    refine cl_aload_n hG (hx_dq tdX12_goes_4 7 rfl) rfl (cl_iload_n hG (hx_dq tdX12_goes_4 8 rfl) rfl (cl_iconst hG 3 (hx_dq tdX12_goes_4 9 rfl) iconst_3 (cl_callV2 (caX12_goes_350 cA) (hx_dq tdX12_goes_4 10 rfl) (mF_S49 hF) (Nat.le_of_ble_eq_true rfl) (Nat.le_refl _) (Nat.le_refl _) (sX12_counts_mk hF hw (fun m236_34 hw => ?_)))))
    exact cl_vret hG (hx_dq tdX12_goes_4 11 rfl) rfl (hK _ hw) (Nat.le_refl _) (Nat.le_refl _)
def wX12_goes_J202  (K : hx_M → Prop)  (v1 : Int32) (v4 : Int32) (v6 : Int32) (t0 : Int32) (μ : hx_M) : Prop := (t0 = 0 → (wX12_goes_J220 K v1 v4 v6 t0 (μ.1 49 3) μ)) ∧ (¬ (t0 = 0) → (wX12_goes_J220 K v1 v4 v6 t0 (μ.1 49 5) μ))
set_option maxRecDepth 100000 in
set_option maxHeartbeats 4000000 in
theorem kX12_goes_J202 {G : hx_GT} {KK : hx_KT} (hG : hx_K cX12_goes 9 0 0 (none) TbX12 KK G) (cA : hx_CA RX12 cX12_goes 5 0 0 G) {Λ : hx_L} (hF : mF Λ) {μ : hx_M} (v1 : Int32) (v4 : Int32) (v6 : Int32) (t0 : Int32) {K : hx_M → Prop} (hK : ∀ (m : hx_M), K m → KK none Λ m)  (hw : wX12_goes_J202 K v1 v4 v6 t0 μ) : G Λ μ (0, 0) 202 [some (.ref 49), some (.int v1), none, none, some (.int v4), none, some (.int v6), none, none] [.int t0] := by
  unfold wX12_goes_J202 at hw
  refine cl_istore hG (hx_dq tdX12_goes_3 24 rfl) (Nat.le_of_ble_eq_true rfl) rfl (cl_iload hG (hx_dq tdX12_goes_3 25 rfl) rfl (cl_if_eq hG 216 (hx_dq tdX12_goes_3 26 rfl) rfl (fun c206 => ?_) (fun c206 => ?_)))
  · replace hw := hw.1 c206
    refine cl_aload_n hG (hx_dq tdX12_goes_3 30 rfl) rfl (cl_getI hG fmX12_171 (hx_dq tdX12_goes_3 31 rfl) (mF_S49 hF) ?_)
    exact cl_sub hG (hx_le_c rfl (hx_le_c rfl (hx_le_n (hx_le_n (hx_le_c rfl (hx_le_n (hx_le_c rfl (hx_le_c rfl (hx_le_n hx_le_0))))))))) (kX12_goes_J220 hG cA hF v1 v4 v6 t0 (μ.1 49 3) hK hw)
  · replace hw := hw.2 c206
    refine cl_aload_n hG (hx_dq tdX12_goes_3 27 rfl) rfl (cl_getI hG fmX12_177 (hx_dq tdX12_goes_3 28 rfl) (mF_S49 hF) (cl_goto hG 220 (hx_dq tdX12_goes_3 29 rfl) rfl ?_))
    exact cl_sub hG (hx_le_c rfl (hx_le_c rfl (hx_le_n (hx_le_n (hx_le_c rfl (hx_le_n (hx_le_c rfl (hx_le_c rfl (hx_le_n hx_le_0))))))))) (kX12_goes_J220 hG cA hF v1 v4 v6 t0 (μ.1 49 5) hK hw)
def wX12_goes_J179  (K : hx_M → Prop)  (v1 : Int32) (v4 : Int32) (v5 : Int32) (v6 : Int32) (t1 : Int32) (t2 : Int32) (μ : hx_M) : Prop := wX12_counts μ t1 t2 (fun m179_24 => ∀ x_26 : Int32, x_26 = (if 0 ≤ (v6 - v5) then (v6 - v5) else 0 - (v6 - v5)) → ((m179_24.1 49 4) < x_26 → (wX12_goes_J202 K v1 v4 v6 0 m179_24)) ∧ (¬ ((m179_24.1 49 4) < x_26) → (wX12_goes_J202 K v1 v4 v6 1 m179_24)))
set_option maxRecDepth 100000 in
set_option maxHeartbeats 4000000 in
theorem kX12_goes_J179 {G : hx_GT} {KK : hx_KT} (hG : hx_K cX12_goes 9 0 0 (none) TbX12 KK G) (cA : hx_CA RX12 cX12_goes 5 0 0 G) {Λ : hx_L} (hF : mF Λ) {μ : hx_M} (v1 : Int32) (v4 : Int32) (v5 : Int32) (v6 : Int32) (t1 : Int32) (t2 : Int32) {K : hx_M → Prop} (hK : ∀ (m : hx_M), K m → KK none Λ m)  (hw : wX12_goes_J179 K v1 v4 v5 v6 t1 t2 μ) : G Λ μ (0, 0) 179 [some (.ref 49), some (.int v1), none, none, some (.int v4), some (.int v5), some (.int v6), none, none] [.int t2, .int t1, .ref 49] := by
  unfold wX12_goes_J179 at hw
  refine cl_callV2 (caX12_goes_350 cA) (hx_dq tdX12_goes_3 13 rfl) (mF_S49 hF) (Nat.le_of_ble_eq_true rfl) (Nat.le_refl _) (Nat.le_refl _) (sX12_counts_mk hF hw (fun m179_24 hw => ?_))
  refine cl_iload hG (hx_dq tdX12_goes_3 14 rfl) rfl (cl_iload hG (hx_dq tdX12_goes_3 15 rfl) rfl (cl_isub hG (hx_dq tdX12_goes_3 16 rfl) (cl_mabs hG mmX12_337 (hx_dq tdX12_goes_3 17 rfl) (Nat.le_refl _) (Nat.le_refl _) (Nat.le_of_ble_eq_true rfl) (cl_nmI (fun x_26 e_26 => ?_)))))
  replace hw := hw x_26 e_26
  refine cl_aload_n hG (hx_dq tdX12_goes_3 18 rfl) rfl (cl_getI hG fmX12_174 (hx_dq tdX12_goes_3 19 rfl) (mF_S49 hF) (cl_icmp_gt hG 201 (hx_dq tdX12_goes_3 20 rfl) rfl (fun c194 => ?_) (fun c194 => ?_)))
  · replace hw := hw.1 c194
    refine cl_iconst hG 0 (hx_dq tdX12_goes_3 23 rfl) iconst_0 ?_
    exact cl_sub hG (hx_le_c rfl (hx_le_c rfl (hx_le_n (hx_le_n (hx_le_c rfl (hx_le_n (hx_le_c rfl (hx_le_n (hx_le_n hx_le_0))))))))) (kX12_goes_J202 hG cA hF v1 v4 v6 0 hK hw)
  · replace hw := hw.2 c194
    refine cl_iconst hG 1 (hx_dq tdX12_goes_3 21 rfl) iconst_1 (cl_goto hG 202 (hx_dq tdX12_goes_3 22 rfl) rfl ?_)
    exact cl_sub hG (hx_le_c rfl (hx_le_c rfl (hx_le_n (hx_le_n (hx_le_c rfl (hx_le_n (hx_le_c rfl (hx_le_n (hx_le_n hx_le_0))))))))) (kX12_goes_J202 hG cA hF v1 v4 v6 1 hK hw)
def wX12_goes (μ : hx_M) (v1 : Int32) (v2 : Int32) (K : hx_M → Prop) : Prop := ∀ x_1 : Int64, x_1 = (((μ.2 49 6) * (6364136223846793005 : Int64)) + (1442695040888963407 : Int64)) → ∀ x_2 : Int64, x_2 = (((x_1 : Int64).toUInt64 >>> ((33 : Int32).toInt64.toUInt64 &&& Int64.toUInt64 63)).toInt64) → ¬ (100 : Int64) = 0 ∧ ∀ x_3 : Int32, x_3 = ((x_2 - x_2 / (100 : Int64) * (100 : Int64) : Int64).toInt32) → vp_in v1 16 ∧ vp_in v1 16 ∧ ∀ x_6 : Int32, x_6 = ((μ.1 52 v1.toNatClampNeg) + (μ.1 51 v1.toNatClampNeg)) → vp_in v1 16 ∧ vp_in ((16 * (μ.1 49 1)) + v1) 4816 ∧ vp_in v1 16 ∧ ∀ x_10 : Int32, x_10 = (((hx_sI (hx_sL μ 49 6 x_1) 52 v1.toNatClampNeg (if x_6 < 9999 then x_6 else 9999)).1 52 v1.toNatClampNeg)) → vp_in ((16 * (μ.1 49 1)) + v1) 4816 ∧ ∀ m_12 : hx_M, m_12 = (hx_sI (hx_sI (hx_sI (hx_sL μ 49 6 x_1) 52 v1.toNatClampNeg (if x_6 < 9999 then x_6 else 9999)) 60 (((16 * (μ.1 49 1)) + v1).toNatClampNeg) x_3) 58 (((16 * (μ.1 49 1)) + v1).toNatClampNeg) x_10) → vp_in v1 16 ∧ vp_in ((16 * (μ.1 49 1)) + v1) 4816 ∧ wX12_lengthAt (hx_sI m_12 59 (((16 * (μ.1 49 1)) + v1).toNatClampNeg) (m_12.1 53 v1.toNatClampNeg)) v1 v2 (fun r102_16 => vp_in v1 16 ∧ vp_in v1 16 ∧ wX12_wants (hx_sI m_12 59 (((16 * (μ.1 49 1)) + v1).toNatClampNeg) (m_12.1 53 v1.toNatClampNeg)) (m_12.1 49 21) v1 v2 x_3 (m_12.1 52 v1.toNatClampNeg) (m_12.1 53 v1.toNatClampNeg) (fun r127_20 m127_19 => vp_in ((16 * (μ.1 49 1)) + v1) 4816 ∧ vp_in v1 16 ∧ vp_in v1 16 ∧ (r127_20 ≠ r102_16 → (((m127_19.1 49 45) ≠ 0 → (wX12_goes_J179 K v1 ((16 * (μ.1 49 1)) + v1) r102_16 r127_20 v1 1 (hx_sI (hx_sI m127_19 57 (((16 * (μ.1 49 1)) + v1).toNatClampNeg) r102_16) 53 v1.toNatClampNeg ((m127_19.1 53 v1.toNatClampNeg) + 1)))) ∧ ((m127_19.1 49 45) = 0 → (wX12_goes_J179 K v1 ((16 * (μ.1 49 1)) + v1) r102_16 r127_20 v1 0 (hx_sI (hx_sI m127_19 57 (((16 * (μ.1 49 1)) + v1).toNatClampNeg) r102_16) 53 v1.toNatClampNeg ((m127_19.1 53 v1.toNatClampNeg) + 1)))))) ∧ (r127_20 = r102_16 → (wX12_counts (hx_sI (hx_sI m127_19 57 (((16 * (μ.1 49 1)) + v1).toNatClampNeg) r102_16) 53 v1.toNatClampNeg ((m127_19.1 53 v1.toNatClampNeg) + 1)) v1 2 (fun m161_36 => K m161_36)))))
set_option maxRecDepth 100000 in
set_option maxHeartbeats 4000000 in
theorem kX12_goes {G : hx_GT} {KK : hx_KT} (hG : hx_K cX12_goes 9 0 0 (none) TbX12 KK G) (cA : hx_CA RX12 cX12_goes 5 0 0 G) {Λ : hx_L} (hF : mF Λ) {μ : hx_M} (v1 : Int32) (v2 : Int32) {K : hx_M → Prop} (hK : ∀ (m : hx_M), K m → KK none Λ m) (hw : wX12_goes μ v1 v2 K) : G Λ μ (0, 0) 0 [some (.ref 49), some (.int v1), some (.int v2), none, none, none, none, none, none] [] := by
  unfold wX12_goes at hw
  refine cl_aload_n hG (hx_dq tdX12_goes_0 0 rfl) rfl (cl_aload_n hG (hx_dq tdX12_goes_0 1 rfl) rfl (cl_getL hG fmX12_7 (hx_dq tdX12_goes_0 2 rfl) (mF_S49 hF) (cl_ldc2 hG ciX12_340 (hx_dq tdX12_goes_0 3 rfl) (cl_lmul hG (hx_dq tdX12_goes_0 4 rfl) (cl_ldc2 hG ciX12_342 (hx_dq tdX12_goes_0 5 rfl) (cl_ladd hG (hx_dq tdX12_goes_0 6 rfl) (cl_nmL (fun x_1 e_1 => ?_))))))))
  replace hw := hw x_1 e_1
  refine cl_putL hG fmX12_7 (hx_dq tdX12_goes_0 7 rfl) (mF_S49 hF) (cl_aload_n hG (hx_dq tdX12_goes_0 8 rfl) rfl (cl_getL hG fmX12_7 (hx_dq tdX12_goes_0 9 rfl) (mF_S49 hF) (cl_bipush hG 33 (hx_dq tdX12_goes_0 10 rfl) bipush_33 (cl_lushr hG (hx_dq tdX12_goes_0 11 rfl) (cl_nmL (fun x_2 e_2 => ?_))))))
  replace hw := hw x_2 e_2
  obtain ⟨o26, hw⟩ := hw
  refine cl_ldc2 hG ciX12_344 (hx_dq tdX12_goes_0 12 rfl) (cl_lrem hG (hx_dq tdX12_goes_0 13 rfl) o26 (cl_l2i hG (hx_dq tdX12_goes_0 14 rfl) (cl_nmI (fun x_3 e_3 => ?_))))
  replace hw := hw x_3 e_3
  obtain ⟨i42_4, hw⟩ := hw
  obtain ⟨i48_5, hw⟩ := hw
  refine cl_istore_n hG (hx_dq tdX12_goes_0 15 rfl) (Nat.le_of_ble_eq_true rfl) rfl (cl_aload_n hG (hx_dq tdX12_goes_0 16 rfl) rfl (cl_getS hG fmX12_20 (hx_dq tdX12_goes_0 17 rfl) (mF_S49 hF) (mF_R49_9 hF) (cl_iload_n hG (hx_dq tdX12_goes_0 18 rfl) rfl (cl_sipush hG 9999 (hx_dq tdX12_goes_0 19 rfl) sipush_9999 (cl_aload_n hG (hx_dq tdX12_goes_0 20 rfl) rfl (cl_getS hG fmX12_20 (hx_dq tdX12_goes_0 21 rfl) (mF_S49 hF) (mF_R49_9 hF) (cl_iload_n hG (hx_dq tdX12_goes_0 22 rfl) rfl (cl_iald hG (hx_dq tdX12_goes_0 23 rfl) (mF_S52 hF) i42_4 (cl_aload_n hG (hx_dq tdX12_goes_0 24 rfl) rfl (cl_getS hG fmX12_17 (hx_dq tdX12_goes_0 25 rfl) (mF_S49 hF) (mF_R49_8 hF) (cl_iload_n hG (hx_dq tdX12_goes_0 26 rfl) rfl (cl_iald hG (hx_dq tdX12_goes_0 27 rfl) (mF_S51 hF) i48_5 (cl_iadd hG (hx_dq tdX12_goes_0 28 rfl) (cl_nmI (fun x_6 e_6 => ?_)))))))))))))))
  replace hw := hw x_6 e_6
  obtain ⟨i53_7, hw⟩ := hw
  obtain ⟨i72_8, hw⟩ := hw
  obtain ⟨i84_9, hw⟩ := hw
  refine cl_mmin hG mmX12_334 (hx_dq tdX12_goes_0 29 rfl) (Nat.le_refl _) (Nat.le_refl _) (Nat.le_of_ble_eq_true rfl) (cl_iast hG (hx_dq tdX12_goes_0 30 rfl) (mF_S52 hF) i53_7 (cl_bipush hG 16 (hx_dq tdX12_goes_0 31 rfl) bipush_16 (cl_aload_n hG (hx_dq tdX12_goes_1 0 rfl) rfl (cl_getI hG fmX12_161 (hx_dq tdX12_goes_1 1 rfl) (mF_S49 hF) (cl_imul hG (hx_dq tdX12_goes_1 2 rfl) (cl_iload_n hG (hx_dq tdX12_goes_1 3 rfl) rfl (cl_iadd hG (hx_dq tdX12_goes_1 4 rfl) (cl_istore hG (hx_dq tdX12_goes_1 5 rfl) (Nat.le_of_ble_eq_true rfl) rfl (cl_aload_n hG (hx_dq tdX12_goes_1 6 rfl) rfl (cl_getS hG fmX12_44 (hx_dq tdX12_goes_1 7 rfl) (mF_S49 hF) (mF_R49_17 hF) (cl_iload hG (hx_dq tdX12_goes_1 8 rfl) rfl (cl_iload_n hG (hx_dq tdX12_goes_1 9 rfl) rfl (cl_iast hG (hx_dq tdX12_goes_1 10 rfl) (mF_S60 hF) i72_8 (cl_aload_n hG (hx_dq tdX12_goes_1 11 rfl) rfl (cl_getS hG fmX12_38 (hx_dq tdX12_goes_1 12 rfl) (mF_S49 hF) (mF_R49_15 hF) (cl_iload hG (hx_dq tdX12_goes_1 13 rfl) rfl (cl_aload_n hG (hx_dq tdX12_goes_1 14 rfl) rfl (cl_getS hG fmX12_20 (hx_dq tdX12_goes_1 15 rfl) (mF_S49 hF) (mF_R49_9 hF) (cl_iload_n hG (hx_dq tdX12_goes_1 16 rfl) rfl (cl_iald hG (hx_dq tdX12_goes_1 17 rfl) (mF_S52 hF) i84_9 (cl_nmI (fun x_10 e_10 => ?_))))))))))))))))))))))
  replace hw := hw x_10 e_10
  obtain ⟨i85_11, hw⟩ := hw
  refine cl_iast hG (hx_dq tdX12_goes_1 18 rfl) (mF_S58 hF) i85_11 (cl_nmM (fun m_12 e_12 => ?_))
  replace hw := hw m_12 e_12
  obtain ⟨i97_13, hw⟩ := hw
  obtain ⟨i98_14, hw⟩ := hw
  refine cl_aload_n hG (hx_dq tdX12_goes_1 19 rfl) rfl (cl_getS hG fmX12_41 (hx_dq tdX12_goes_1 20 rfl) (mF_S49 hF) (mF_R49_16 hF) (cl_iload hG (hx_dq tdX12_goes_1 21 rfl) rfl (cl_aload_n hG (hx_dq tdX12_goes_1 22 rfl) rfl (cl_getS hG fmX12_23 (hx_dq tdX12_goes_1 23 rfl) (mF_S49 hF) (mF_R49_10 hF) (cl_iload_n hG (hx_dq tdX12_goes_1 24 rfl) rfl (cl_iald hG (hx_dq tdX12_goes_1 25 rfl) (mF_S53 hF) i97_13 (cl_iast hG (hx_dq tdX12_goes_1 26 rfl) (mF_S59 hF) i98_14 (cl_aload_n hG (hx_dq tdX12_goes_1 27 rfl) rfl (cl_iload_n hG (hx_dq tdX12_goes_1 28 rfl) rfl (cl_iload_n hG (hx_dq tdX12_goes_1 29 rfl) rfl (cl_callV2 (caX12_goes_302 cA) (hx_dq tdX12_goes_1 30 rfl) (mF_S49 hF) (Nat.le_of_ble_eq_true rfl) (Nat.le_refl _) (Nat.le_refl _) (sX12_lengthAt_mk hF hw (fun r102_16 hw => ?_)))))))))))))
  obtain ⟨i120_17, hw⟩ := hw
  obtain ⟨i126_18, hw⟩ := hw
  refine cl_istore hG (hx_dq tdX12_goes_1 31 rfl) (Nat.le_of_ble_eq_true rfl) rfl (cl_aload_n hG (hx_dq tdX12_goes_2 0 rfl) rfl (cl_aload_n hG (hx_dq tdX12_goes_2 1 rfl) rfl (cl_getI hG fmX12_53 (hx_dq tdX12_goes_2 2 rfl) (mF_S49 hF) (cl_iload_n hG (hx_dq tdX12_goes_2 3 rfl) rfl (cl_iload_n hG (hx_dq tdX12_goes_2 4 rfl) rfl (cl_iload_n hG (hx_dq tdX12_goes_2 5 rfl) rfl (cl_aload_n hG (hx_dq tdX12_goes_2 6 rfl) rfl (cl_getS hG fmX12_20 (hx_dq tdX12_goes_2 7 rfl) (mF_S49 hF) (mF_R49_9 hF) (cl_iload_n hG (hx_dq tdX12_goes_2 8 rfl) rfl (cl_iald hG (hx_dq tdX12_goes_2 9 rfl) (mF_S52 hF) i120_17 (cl_aload_n hG (hx_dq tdX12_goes_2 10 rfl) rfl (cl_getS hG fmX12_23 (hx_dq tdX12_goes_2 11 rfl) (mF_S49 hF) (mF_R49_10 hF) (cl_iload_n hG (hx_dq tdX12_goes_2 12 rfl) rfl (cl_iald hG (hx_dq tdX12_goes_2 13 rfl) (mF_S53 hF) i126_18 (cl_callV6 (caX12_goes_346 cA) (hx_dq tdX12_goes_2 14 rfl) (mF_S49 hF) (Nat.le_of_ble_eq_true rfl) (Nat.le_refl _) (Nat.le_refl _) (sX12_wants_mk hF hw (fun r127_20 m127_19 hw => ?_)))))))))))))))))
  obtain ⟨i140_21, hw⟩ := hw
  obtain ⟨i147_22, hw⟩ := hw
  obtain ⟨i150_23, hw⟩ := hw
  refine cl_istore hG (hx_dq tdX12_goes_2 15 rfl) (Nat.le_of_ble_eq_true rfl) rfl (cl_aload_n hG (hx_dq tdX12_goes_2 16 rfl) rfl (cl_getS hG fmX12_35 (hx_dq tdX12_goes_2 17 rfl) (mF_S49 hF) (mF_R49_14 hF) (cl_iload hG (hx_dq tdX12_goes_2 18 rfl) rfl (cl_iload hG (hx_dq tdX12_goes_2 19 rfl) rfl (cl_iast hG (hx_dq tdX12_goes_2 20 rfl) (mF_S57 hF) i140_21 (cl_aload_n hG (hx_dq tdX12_goes_2 21 rfl) rfl (cl_getS hG fmX12_23 (hx_dq tdX12_goes_2 22 rfl) (mF_S49 hF) (mF_R49_10 hF) (cl_iload_n hG (hx_dq tdX12_goes_2 23 rfl) rfl (cl_dup2 hG (hx_dq tdX12_goes_2 24 rfl) rfl rfl (cl_iald hG (hx_dq tdX12_goes_2 25 rfl) (mF_S53 hF) i147_22 (cl_iconst hG 1 (hx_dq tdX12_goes_2 26 rfl) iconst_1 (cl_iadd hG (hx_dq tdX12_goes_2 27 rfl) (cl_iast hG (hx_dq tdX12_goes_2 28 rfl) (mF_S53 hF) i150_23 (cl_iload hG (hx_dq tdX12_goes_2 29 rfl) rfl (cl_iload hG (hx_dq tdX12_goes_2 30 rfl) rfl (cl_icmp_ne hG 165 (hx_dq tdX12_goes_2 31 rfl) rfl (fun c155 => ?_) (fun c155 => ?_)))))))))))))))))
  · replace hw := hw.1 c155
    refine cl_aload_n hG (hx_dq tdX12_goes_3 5 rfl) rfl (cl_iload_n hG (hx_dq tdX12_goes_3 6 rfl) rfl (cl_aload_n hG (hx_dq tdX12_goes_3 7 rfl) rfl (cl_getI hG fmX12_325 (hx_dq tdX12_goes_3 8 rfl) (mF_S49 hF) (cl_if_ne hG 178 (hx_dq tdX12_goes_3 9 rfl) rfl (fun c171 => ?_) (fun c171 => ?_)))))
    · replace hw := hw.1 c171
      refine cl_iconst hG 1 (hx_dq tdX12_goes_3 12 rfl) iconst_1 ?_
      exact cl_sub hG (hx_le_c rfl (hx_le_c rfl (hx_le_n (hx_le_n (hx_le_c rfl (hx_le_c rfl (hx_le_c rfl (hx_le_n (hx_le_n hx_le_0))))))))) (kX12_goes_J179 hG cA hF v1 ((16 * (μ.1 49 1)) + v1) r102_16 r127_20 v1 1 hK hw)
    · replace hw := hw.2 c171
      refine cl_iconst hG 0 (hx_dq tdX12_goes_3 10 rfl) iconst_0 (cl_goto hG 179 (hx_dq tdX12_goes_3 11 rfl) rfl ?_)
      exact cl_sub hG (hx_le_c rfl (hx_le_c rfl (hx_le_n (hx_le_n (hx_le_c rfl (hx_le_c rfl (hx_le_c rfl (hx_le_n (hx_le_n hx_le_0))))))))) (kX12_goes_J179 hG cA hF v1 ((16 * (μ.1 49 1)) + v1) r102_16 r127_20 v1 0 hK hw)
  · replace hw := hw.2 c155
    refine cl_aload_n hG (hx_dq tdX12_goes_3 0 rfl) rfl (cl_iload_n hG (hx_dq tdX12_goes_3 1 rfl) rfl (cl_iconst hG 2 (hx_dq tdX12_goes_3 2 rfl) iconst_2 (cl_callV2 (caX12_goes_350 cA) (hx_dq tdX12_goes_3 3 rfl) (mF_S49 hF) (Nat.le_of_ble_eq_true rfl) (Nat.le_refl _) (Nat.le_refl _) (sX12_counts_mk hF hw (fun m161_36 hw => ?_)))))
    exact cl_vret hG (hx_dq tdX12_goes_3 4 rfl) rfl (hK _ hw) (Nat.le_refl _) (Nat.le_refl _)
def sX12_goes : hx_ST := fun Λ μ as KK => mF Λ ∧ ∃ (v1 : Int32) (v2 : Int32) (K : hx_M → Prop), as = [.ref 49, .int v1, .int v2] ∧ wX12_goes μ v1 v2 K ∧ (∀ (m : hx_M), K m → KK none Λ m)
theorem sX12_goes_mk {Λ : hx_L} {μ : hx_M} {KK : hx_KT} {v1 : Int32} {v2 : Int32} {K : hx_M → Prop} (hF : mF Λ) (hw : wX12_goes μ v1 v2 K) (hk : ∀ (m : hx_M), K m → KK none Λ m) : sX12_goes Λ μ [.ref 49, .int v1, .int v2] KK := ⟨hF, _, _, _, rfl, hw, hk⟩
theorem conX12_goes : hx_Con yX12_goes cX12_goes 9 (none) 5 0 0 sX12_goes := by
  refine hx_con_of (by decide +kernel) tokX12 (by decide) ?_ ?_
  · intro Λ μ as KK h
    obtain ⟨hF, v1, v2, K, rfl, hw, hK⟩ := h
    exact Nat.le_of_ble_eq_true rfl
  · intro G KK hG cA Λ μ as h
    obtain ⟨hF, v1, v2, K, rfl, hw, hK⟩ := h
    exact cl_sub hG (hx_le_c rfl (hx_le_c rfl (hx_le_c rfl (hx_le_n (hx_le_n (hx_le_n (hx_le_n (hx_le_n (hx_le_n hx_le_0))))))))) (kX12_goes hG cA hF _ _ hK hw)
/-! HemLineModel.step()V -/
def tbX12_step_0 : List (Nat × Instr × Nat) := [(0, .aload_n 0, 1), (1, .invokevirtual 353, 3), (4, .iconst 0, 1), (5, .istore_n 1, 1), (6, .iload_n 1, 1), (7, .aload_n 0, 1), (8, .getfield 154, 3), (11, .if_icmp .ge 20, 3), (14, .aload_n 0, 1), (15, .iload_n 1, 1), (16, .aload_n 0, 1), (17, .getfield 161, 3), (20, .iconst 1, 1), (21, .isub, 1), (22, .invokevirtual 356, 3), (25, .iinc 1 1, 3), (28, .goto (-22), 3), (31, .return_, 1)]
theorem tdX12_step_0 : hx_dt cX12_step tbX12_step_0 = true := by decide +kernel
theorem caX12_step_353 {G : hx_GT} (cA : hx_CA RX12 cX12_step 6 0 0 G) : hx_CV cX12_step G 0 0 353 12 0 sX12_begins 0 0 := cA.1 conX12_begins rfl rfl ⟨by decide +kernel, by decide +kernel, by decide +kernel⟩ mw_1474 mw_1476 mw_52 mw_97 mw_1477 (by decide) (by decide)
theorem caX12_step_356 {G : hx_GT} (cA : hx_CA RX12 cX12_step 6 0 0 G) : hx_CV cX12_step G 0 0 356 12 2 sX12_goes 0 0 := cA.1 conX12_goes rfl rfl ⟨by decide +kernel, by decide +kernel, by decide +kernel⟩ mw_1478 mw_1480 mw_53 mw_97 mw_1481 (by decide) (by decide)
def wX12_step_L6  (K : hx_M → Prop)  : Nat → Int32 → hx_M → Prop
  | 0, _, _ => False
  | n + 1, v1, μ => ((μ.1 49 0) ≤ v1 → (K μ)) ∧ (¬ ((μ.1 49 0) ≤ v1) → (wX12_goes μ v1 ((μ.1 49 1) - 1) (fun m22_3 => wX12_step_L6 K n (v1 + 1) m22_3)))
set_option maxRecDepth 100000 in
set_option maxHeartbeats 4000000 in
theorem kX12_step_L6 {G : hx_GT} {KK : hx_KT} (hG : hx_K cX12_step 2 0 0 (none) TbX12 KK G) (cA : hx_CA RX12 cX12_step 6 0 0 G) {Λ : hx_L} (hF : mF Λ)   {K : hx_M → Prop} (hK : ∀ (m : hx_M), K m → KK none Λ m)  : ∀ (n : Nat) (v1 : Int32) (μ : hx_M), wX12_step_L6 K n v1 μ → G Λ μ (0, 0) 6 [some (.ref 49), some (.int v1)] [] := by
  intro n
  induction n with
  | zero =>
    intro v1 μ hw
    exact False.elim (by simpa only [wX12_step_L6] using hw)
  | succ n ih =>
    intro v1 μ hw
    unfold wX12_step_L6 at hw
    refine cl_iload_n hG (hx_dq tdX12_step_0 4 rfl) rfl (cl_aload_n hG (hx_dq tdX12_step_0 5 rfl) rfl (cl_getI hG fmX12_154 (hx_dq tdX12_step_0 6 rfl) (mF_S49 hF) (cl_icmp_ge hG 31 (hx_dq tdX12_step_0 7 rfl) rfl (fun c11 => ?_) (fun c11 => ?_))))
    · replace hw := hw.1 c11
      exact cl_vret hG (hx_dq tdX12_step_0 17 rfl) rfl (hK _ hw) (Nat.le_refl _) (Nat.le_refl _)
    · replace hw := hw.2 c11
      refine cl_aload_n hG (hx_dq tdX12_step_0 8 rfl) rfl (cl_iload_n hG (hx_dq tdX12_step_0 9 rfl) rfl (cl_aload_n hG (hx_dq tdX12_step_0 10 rfl) rfl (cl_getI hG fmX12_161 (hx_dq tdX12_step_0 11 rfl) (mF_S49 hF) (cl_iconst hG 1 (hx_dq tdX12_step_0 12 rfl) iconst_1 (cl_isub hG (hx_dq tdX12_step_0 13 rfl) (cl_callV2 (caX12_step_356 cA) (hx_dq tdX12_step_0 14 rfl) (mF_S49 hF) (Nat.le_of_ble_eq_true rfl) (Nat.le_refl _) (Nat.le_refl _) (sX12_goes_mk hF hw (fun m22_3 hw => ?_))))))))
      exact cl_iinc hG (v1 + 1) (hx_dq tdX12_step_0 15 rfl) rfl (congrArg (fun z => v1 + z) iconst_1) (Nat.le_of_ble_eq_true rfl) rfl (cl_goto hG 6 (hx_dq tdX12_step_0 16 rfl) rfl (cl_sub hG (hx_le_c rfl (hx_le_c rfl hx_le_0)) (ih (v1 + 1) _ hw)))
def wX12_step (μ : hx_M)  (K : hx_M → Prop) : Prop := wX12_begins μ (fun m1_1 => ∃ n6_5, wX12_step_L6 K n6_5 0 m1_1)
set_option maxRecDepth 100000 in
set_option maxHeartbeats 4000000 in
theorem kX12_step {G : hx_GT} {KK : hx_KT} (hG : hx_K cX12_step 2 0 0 (none) TbX12 KK G) (cA : hx_CA RX12 cX12_step 6 0 0 G) {Λ : hx_L} (hF : mF Λ) {μ : hx_M}  {K : hx_M → Prop} (hK : ∀ (m : hx_M), K m → KK none Λ m) (hw : wX12_step μ K) : G Λ μ (0, 0) 0 [some (.ref 49), none] [] := by
  unfold wX12_step at hw
  refine cl_aload_n hG (hx_dq tdX12_step_0 0 rfl) rfl (cl_callV0 (caX12_step_353 cA) (hx_dq tdX12_step_0 1 rfl) (mF_S49 hF) (Nat.le_of_ble_eq_true rfl) (Nat.le_refl _) (Nat.le_refl _) (sX12_begins_mk hF hw (fun m1_1 hw => ?_)))
  refine cl_iconst hG 0 (hx_dq tdX12_step_0 2 rfl) iconst_0 (cl_istore_n hG (hx_dq tdX12_step_0 3 rfl) (Nat.le_of_ble_eq_true rfl) rfl ?_)
  obtain ⟨n_, hw⟩ := hw
  refine cl_sub hG (hx_le_c rfl (hx_le_c rfl hx_le_0)) (kX12_step_L6 hG cA hF hK n_ 0 _ hw)
def sX12_step : hx_ST := fun Λ μ as KK => mF Λ ∧ ∃ (K : hx_M → Prop), as = [.ref 49] ∧ wX12_step μ K ∧ (∀ (m : hx_M), K m → KK none Λ m)
theorem sX12_step_mk {Λ : hx_L} {μ : hx_M} {KK : hx_KT}  {K : hx_M → Prop} (hF : mF Λ) (hw : wX12_step μ K) (hk : ∀ (m : hx_M), K m → KK none Λ m) : sX12_step Λ μ [.ref 49] KK := ⟨hF, _, rfl, hw, hk⟩
theorem conX12_step : hx_Con yX12_step cX12_step 2 (none) 6 0 0 sX12_step := by
  refine hx_con_of (by decide +kernel) tokX12 (by decide) ?_ ?_
  · intro Λ μ as KK h
    obtain ⟨hF, K, rfl, hw, hK⟩ := h
    exact Nat.le_of_ble_eq_true rfl
  · intro G KK hG cA Λ μ as h
    obtain ⟨hF, K, rfl, hw, hK⟩ := h
    exact cl_sub hG (hx_le_c rfl (hx_le_n hx_le_0)) (kX12_step hG cA hF hK hw)
/-! HemLineModel.run(I)I -/
def tbX12_run_0 : List (Nat × Instr × Nat) := [(0, .iload_n 1, 1), (1, .iconst 1, 1), (2, .bipush 60, 2), (4, .invokestatic 157, 3), (7, .ifCond .eq 30, 3), (10, .aload_n 0, 1), (11, .getfield 161, 3), (14, .iload_n 1, 1), (15, .iadd, 1), (16, .sipush 200, 3), (19, .if_icmp .gt 18, 3), (22, .aload_n 0, 1), (23, .getfield 154, 3), (26, .ifCond .eq 11, 3), (29, .aload_n 0, 1), (30, .getfield 53, 3), (33, .iconst (-1), 1), (34, .if_icmp .ne 5, 3), (37, .iconst (-1), 1), (38, .ireturn, 1), (39, .iconst 0, 1), (40, .istore_n 2, 1), (41, .iload_n 2, 1), (42, .iload_n 1, 1), (43, .if_icmp .ge 13, 3), (46, .aload_n 0, 1), (47, .invokevirtual 359, 3), (50, .iinc 2 1, 3), (53, .goto (-12), 3), (56, .aload_n 0, 1), (57, .getfield 161, 3), (60, .ireturn, 1)]
theorem tdX12_run_0 : hx_dt cX12_run tbX12_run_0 = true := by decide +kernel
theorem caX12_run_157 {G : hx_GT} (cA : hx_CA RX12 cX12_run 7 0 0 G) : hx_CS cX12_run G 0 0 157 3 sX12_isIn 0 0 := cA.2.1 conX12_isIn ⟨by decide +kernel, by decide +kernel, by decide +kernel⟩ mw_1343 mw_1344 mw_97 mw_1345 (by decide) (by decide)
theorem caX12_run_359 {G : hx_GT} (cA : hx_CA RX12 cX12_run 7 0 0 G) : hx_CV cX12_run G 0 0 359 12 0 sX12_step 0 0 := cA.1 conX12_step rfl rfl ⟨by decide +kernel, by decide +kernel, by decide +kernel⟩ mw_1470 mw_1472 mw_51 mw_97 mw_1473 (by decide) (by decide)
def wX12_run_L41 (v1 : Int32) (K : Int32 → hx_M → Prop)  : Nat → Int32 → hx_M → Prop
  | 0, _, _ => False
  | n + 1, v2, μ => (v1 ≤ v2 → (K (μ.1 49 1) μ)) ∧ (¬ (v1 ≤ v2) → (wX12_step μ (fun m47_3 => wX12_run_L41 v1 K n (v2 + 1) m47_3)))
set_option maxRecDepth 100000 in
set_option maxHeartbeats 4000000 in
theorem kX12_run_L41 {G : hx_GT} {KK : hx_KT} (hG : hx_K cX12_run 3 0 0 (some .int) TbX12 KK G) (cA : hx_CA RX12 cX12_run 7 0 0 G) {Λ : hx_L} (hF : mF Λ)  (v1 : Int32) {K : Int32 → hx_M → Prop} (hK : ∀ (r : Int32) (m : hx_M), K r m → KK (some (.int r)) Λ m)  : ∀ (n : Nat) (v2 : Int32) (μ : hx_M), wX12_run_L41 v1 K n v2 μ → G Λ μ (0, 0) 41 [some (.ref 49), some (.int v1), some (.int v2)] [] := by
  intro n
  induction n with
  | zero =>
    intro v2 μ hw
    exact False.elim (by simpa only [wX12_run_L41] using hw)
  | succ n ih =>
    intro v2 μ hw
    unfold wX12_run_L41 at hw
    refine cl_iload_n hG (hx_dq tdX12_run_0 22 rfl) rfl (cl_iload_n hG (hx_dq tdX12_run_0 23 rfl) rfl (cl_icmp_ge hG 56 (hx_dq tdX12_run_0 24 rfl) rfl (fun c43 => ?_) (fun c43 => ?_)))
    · replace hw := hw.1 c43
      exact cl_aload_n hG (hx_dq tdX12_run_0 29 rfl) rfl (cl_getI hG fmX12_161 (hx_dq tdX12_run_0 30 rfl) (mF_S49 hF) (cl_iret hG (hx_dq tdX12_run_0 31 rfl) rfl rfl (hK _ _ hw) (Nat.le_refl _) (Nat.le_refl _)))
    · replace hw := hw.2 c43
      refine cl_aload_n hG (hx_dq tdX12_run_0 25 rfl) rfl (cl_callV0 (caX12_run_359 cA) (hx_dq tdX12_run_0 26 rfl) (mF_S49 hF) (Nat.le_of_ble_eq_true rfl) (Nat.le_refl _) (Nat.le_refl _) (sX12_step_mk hF hw (fun m47_3 hw => ?_)))
      exact cl_iinc hG (v2 + 1) (hx_dq tdX12_run_0 27 rfl) rfl (congrArg (fun z => v2 + z) iconst_1) (Nat.le_of_ble_eq_true rfl) rfl (cl_goto hG 41 (hx_dq tdX12_run_0 28 rfl) rfl (cl_sub hG (hx_le_c rfl (hx_le_c rfl (hx_le_c rfl hx_le_0))) (ih (v2 + 1) _ hw)))
def wX12_run (μ : hx_M) (v1 : Int32) (K : Int32 → hx_M → Prop) : Prop := wX12_isIn v1 1 60 (fun r4_2 => (r4_2 = 0 → (K (-1) μ)) ∧ (¬ (r4_2 = 0) → ((200 < ((μ.1 49 1) + v1) → (K (-1) μ)) ∧ (¬ (200 < ((μ.1 49 1) + v1)) → (((μ.1 49 0) = 0 → (K (-1) μ)) ∧ (¬ ((μ.1 49 0) = 0) → (((μ.1 49 21) ≠ (-1) → (∃ n41_5, wX12_run_L41 v1 K n41_5 0 μ)) ∧ ((μ.1 49 21) = (-1) → (K (-1) μ)))))))))
set_option maxRecDepth 100000 in
set_option maxHeartbeats 4000000 in
theorem kX12_run {G : hx_GT} {KK : hx_KT} (hG : hx_K cX12_run 3 0 0 (some .int) TbX12 KK G) (cA : hx_CA RX12 cX12_run 7 0 0 G) {Λ : hx_L} (hF : mF Λ) {μ : hx_M} (v1 : Int32) {K : Int32 → hx_M → Prop} (hK : ∀ (r : Int32) (m : hx_M), K r m → KK (some (.int r)) Λ m) (hw : wX12_run μ v1 K) : G Λ μ (0, 0) 0 [some (.ref 49), some (.int v1), none] [] := by
  unfold wX12_run at hw
  refine cl_iload_n hG (hx_dq tdX12_run_0 0 rfl) rfl (cl_iconst hG 1 (hx_dq tdX12_run_0 1 rfl) iconst_1 (cl_bipush hG 60 (hx_dq tdX12_run_0 2 rfl) bipush_60 (cl_callS3 (caX12_run_157 cA) (hx_dq tdX12_run_0 3 rfl) (Nat.le_of_ble_eq_true rfl) (Nat.le_refl _) (Nat.le_refl _) (sX12_isIn_mk hw (fun r4_2 hw => ?_)))))
  refine cl_if_eq hG 37 (hx_dq tdX12_run_0 4 rfl) rfl (fun c7 => ?_) (fun c7 => ?_)
  · replace hw := hw.1 c7
    exact cl_iconst hG (-1) (hx_dq tdX12_run_0 18 rfl) iconst_m1 (cl_iret hG (hx_dq tdX12_run_0 19 rfl) rfl rfl (hK _ _ hw) (Nat.le_refl _) (Nat.le_refl _))
  · replace hw := hw.2 c7
    refine cl_aload_n hG (hx_dq tdX12_run_0 5 rfl) rfl (cl_getI hG fmX12_161 (hx_dq tdX12_run_0 6 rfl) (mF_S49 hF) (cl_iload_n hG (hx_dq tdX12_run_0 7 rfl) rfl (cl_iadd hG (hx_dq tdX12_run_0 8 rfl) (cl_sipush hG 200 (hx_dq tdX12_run_0 9 rfl) sipush_200 (cl_icmp_gt hG 37 (hx_dq tdX12_run_0 10 rfl) rfl (fun c19 => ?_) (fun c19 => ?_))))))
    · replace hw := hw.1 c19
      exact cl_iconst hG (-1) (hx_dq tdX12_run_0 18 rfl) iconst_m1 (cl_iret hG (hx_dq tdX12_run_0 19 rfl) rfl rfl (hK _ _ hw) (Nat.le_refl _) (Nat.le_refl _))
    · replace hw := hw.2 c19
      refine cl_aload_n hG (hx_dq tdX12_run_0 11 rfl) rfl (cl_getI hG fmX12_154 (hx_dq tdX12_run_0 12 rfl) (mF_S49 hF) (cl_if_eq hG 37 (hx_dq tdX12_run_0 13 rfl) rfl (fun c26 => ?_) (fun c26 => ?_)))
      · replace hw := hw.1 c26
        exact cl_iconst hG (-1) (hx_dq tdX12_run_0 18 rfl) iconst_m1 (cl_iret hG (hx_dq tdX12_run_0 19 rfl) rfl rfl (hK _ _ hw) (Nat.le_refl _) (Nat.le_refl _))
      · replace hw := hw.2 c26
        refine cl_aload_n hG (hx_dq tdX12_run_0 14 rfl) rfl (cl_getI hG fmX12_53 (hx_dq tdX12_run_0 15 rfl) (mF_S49 hF) (cl_iconst hG (-1) (hx_dq tdX12_run_0 16 rfl) iconst_m1 (cl_icmp_ne hG 39 (hx_dq tdX12_run_0 17 rfl) rfl (fun c34 => ?_) (fun c34 => ?_))))
        · replace hw := hw.1 c34
          refine cl_iconst hG 0 (hx_dq tdX12_run_0 20 rfl) iconst_0 (cl_istore_n hG (hx_dq tdX12_run_0 21 rfl) (Nat.le_of_ble_eq_true rfl) rfl ?_)
          obtain ⟨n_, hw⟩ := hw
          refine cl_sub hG (hx_le_c rfl (hx_le_c rfl (hx_le_c rfl hx_le_0))) (kX12_run_L41 hG cA hF v1 hK n_ 0 _ hw)
        · replace hw := hw.2 c34
          exact cl_iconst hG (-1) (hx_dq tdX12_run_0 18 rfl) iconst_m1 (cl_iret hG (hx_dq tdX12_run_0 19 rfl) rfl rfl (hK _ _ hw) (Nat.le_refl _) (Nat.le_refl _))
def sX12_run : hx_ST := fun Λ μ as KK => mF Λ ∧ ∃ (v1 : Int32) (K : Int32 → hx_M → Prop), as = [.ref 49, .int v1] ∧ wX12_run μ v1 K ∧ (∀ (r : Int32) (m : hx_M), K r m → KK (some (.int r)) Λ m)
theorem sX12_run_mk {Λ : hx_L} {μ : hx_M} {KK : hx_KT} {v1 : Int32} {K : Int32 → hx_M → Prop} (hF : mF Λ) (hw : wX12_run μ v1 K) (hk : ∀ (r : Int32) (m : hx_M), K r m → KK (some (.int r)) Λ m) : sX12_run Λ μ [.ref 49, .int v1] KK := ⟨hF, _, _, rfl, hw, hk⟩
theorem conX12_run : hx_Con yX12_run cX12_run 3 (some .int) 7 0 0 sX12_run := by
  refine hx_con_of (by decide +kernel) tokX12 (by decide) ?_ ?_
  · intro Λ μ as KK h
    obtain ⟨hF, v1, K, rfl, hw, hK⟩ := h
    exact Nat.le_of_ble_eq_true rfl
  · intro G KK hG cA Λ μ as h
    obtain ⟨hF, v1, K, rfl, hw, hK⟩ := h
    exact cl_sub hG (hx_le_c rfl (hx_le_c rfl (hx_le_n hx_le_0))) (kX12_run hG cA hF _ hK hw)
/-! HemLineModel.lineAt(I)I -/
def tbX12_lineAt_0 : List (Nat × Instr × Nat) := [(0, .iconst 0, 1), (1, .istore_n 2, 1), (2, .iconst 0, 1), (3, .istore_n 3, 1), (4, .iload_n 3, 1), (5, .aload_n 0, 1), (6, .getfield 154, 3), (9, .if_icmp .ge 18, 3), (12, .iload_n 2, 1), (13, .aload_n 0, 1), (14, .iload_n 3, 1), (15, .iload_n 1, 1), (16, .invokevirtual 302, 3), (19, .iadd, 1), (20, .istore_n 2, 1), (21, .iinc 3 1, 3), (24, .goto (-20), 3), (27, .bipush 100, 2), (29, .iload_n 2, 1), (30, .imul, 1), (31, .aload_n 0, 1), (32, .getfield 154, 3), (35, .idiv, 1), (36, .ireturn, 1)]
theorem tdX12_lineAt_0 : hx_dt cX12_lineAt tbX12_lineAt_0 = true := by decide +kernel
theorem caX12_lineAt_302 {G : hx_GT} (cA : hx_CA RX12 cX12_lineAt 2 0 0 G) : hx_CV cX12_lineAt G 0 0 302 12 2 sX12_lengthAt 0 0 := cA.1 conX12_lengthAt rfl rfl ⟨by decide +kernel, by decide +kernel, by decide +kernel⟩ mw_1486 mw_1488 mw_54 mw_97 mw_1489 (by decide) (by decide)
def wX12_lineAt_L4 (μ : hx_M) (v1 : Int32) (K : Int32 → Prop) (K27 : Int32 → Prop) : Nat → Int32 → Int32 → Prop
  | 0, _, _ => False
  | n + 1, v2, v3 => ((μ.1 49 0) ≤ v3 → (K27 v2)) ∧ (¬ ((μ.1 49 0) ≤ v3) → (wX12_lengthAt μ v3 v1 (fun r16_2 => wX12_lineAt_L4 μ v1 K K27 n (v2 + r16_2) (v3 + 1))))
set_option maxRecDepth 100000 in
set_option maxHeartbeats 4000000 in
theorem kX12_lineAt_L4 {G : hx_GT} {KK : hx_KT} (hG : hx_K cX12_lineAt 4 0 0 (some .int) TbX12 KK G) (cA : hx_CA RX12 cX12_lineAt 2 0 0 G) {Λ : hx_L} (hF : mF Λ) {μ : hx_M} (v1 : Int32) {K : Int32 → Prop} (hK : ∀ (r : Int32), K r → KK (some (.int r)) Λ μ) {K27 : Int32 → Prop} (hk27 : ∀ (v2 : Int32), K27 v2 → G Λ μ (0, 0) 27 [some (.ref 49), none, some (.int v2), none] []) : ∀ (n : Nat) (v2 : Int32) (v3 : Int32), wX12_lineAt_L4 μ v1 K K27 n v2 v3 → G Λ μ (0, 0) 4 [some (.ref 49), some (.int v1), some (.int v2), some (.int v3)] [] := by
  intro n
  induction n with
  | zero =>
    intro v2 v3 hw
    exact False.elim (by simpa only [wX12_lineAt_L4] using hw)
  | succ n ih =>
    intro v2 v3 hw
    unfold wX12_lineAt_L4 at hw
    refine cl_iload_n hG (hx_dq tdX12_lineAt_0 4 rfl) rfl (cl_aload_n hG (hx_dq tdX12_lineAt_0 5 rfl) rfl (cl_getI hG fmX12_154 (hx_dq tdX12_lineAt_0 6 rfl) (mF_S49 hF) (cl_icmp_ge hG 27 (hx_dq tdX12_lineAt_0 7 rfl) rfl (fun c9 => ?_) (fun c9 => ?_))))
    · replace hw := hw.1 c9
      exact cl_sub hG (hx_le_c rfl (hx_le_n (hx_le_c rfl (hx_le_n hx_le_0)))) (hk27 v2 hw)
    · replace hw := hw.2 c9
      refine cl_iload_n hG (hx_dq tdX12_lineAt_0 8 rfl) rfl (cl_aload_n hG (hx_dq tdX12_lineAt_0 9 rfl) rfl (cl_iload_n hG (hx_dq tdX12_lineAt_0 10 rfl) rfl (cl_iload_n hG (hx_dq tdX12_lineAt_0 11 rfl) rfl (cl_callV2 (caX12_lineAt_302 cA) (hx_dq tdX12_lineAt_0 12 rfl) (mF_S49 hF) (Nat.le_of_ble_eq_true rfl) (Nat.le_refl _) (Nat.le_refl _) (sX12_lengthAt_mk hF hw (fun r16_2 hw => ?_))))))
      exact cl_iadd hG (hx_dq tdX12_lineAt_0 13 rfl) (cl_istore_n hG (hx_dq tdX12_lineAt_0 14 rfl) (Nat.le_of_ble_eq_true rfl) rfl (cl_iinc hG (v3 + 1) (hx_dq tdX12_lineAt_0 15 rfl) rfl (congrArg (fun z => v3 + z) iconst_1) (Nat.le_of_ble_eq_true rfl) rfl (cl_goto hG 4 (hx_dq tdX12_lineAt_0 16 rfl) rfl (cl_sub hG (hx_le_c rfl (hx_le_c rfl (hx_le_c rfl (hx_le_c rfl hx_le_0)))) (ih (v2 + r16_2) (v3 + 1) hw)))))
def wX12_lineAt (μ : hx_M) (v1 : Int32) (K : Int32 → Prop) : Prop := ∃ n4_4, wX12_lineAt_L4 μ v1 K (fun v2_3 => ¬ (μ.1 49 0) = 0 ∧ K ((100 * v2_3) / (μ.1 49 0))) n4_4 0 0
set_option maxRecDepth 100000 in
set_option maxHeartbeats 4000000 in
theorem kX12_lineAt {G : hx_GT} {KK : hx_KT} (hG : hx_K cX12_lineAt 4 0 0 (some .int) TbX12 KK G) (cA : hx_CA RX12 cX12_lineAt 2 0 0 G) {Λ : hx_L} (hF : mF Λ) {μ : hx_M} (v1 : Int32) {K : Int32 → Prop} (hK : ∀ (r : Int32), K r → KK (some (.int r)) Λ μ) (hw : wX12_lineAt μ v1 K) : G Λ μ (0, 0) 0 [some (.ref 49), some (.int v1), none, none] [] := by
  unfold wX12_lineAt at hw
  refine cl_iconst hG 0 (hx_dq tdX12_lineAt_0 0 rfl) iconst_0 (cl_istore_n hG (hx_dq tdX12_lineAt_0 1 rfl) (Nat.le_of_ble_eq_true rfl) rfl (cl_iconst hG 0 (hx_dq tdX12_lineAt_0 2 rfl) iconst_0 (cl_istore_n hG (hx_dq tdX12_lineAt_0 3 rfl) (Nat.le_of_ble_eq_true rfl) rfl ?_)))
  obtain ⟨n_, hw⟩ := hw
  refine cl_sub hG (hx_le_c rfl (hx_le_c rfl (hx_le_c rfl (hx_le_c rfl hx_le_0)))) (kX12_lineAt_L4 hG cA hF v1 hK (fun v2_3 hw => ?_) n_ 0 0 hw)
  · obtain ⟨o35, hw⟩ := hw
    exact cl_bipush hG 100 (hx_dq tdX12_lineAt_0 17 rfl) bipush_100 (cl_iload_n hG (hx_dq tdX12_lineAt_0 18 rfl) rfl (cl_imul hG (hx_dq tdX12_lineAt_0 19 rfl) (cl_aload_n hG (hx_dq tdX12_lineAt_0 20 rfl) rfl (cl_getI hG fmX12_154 (hx_dq tdX12_lineAt_0 21 rfl) (mF_S49 hF) (cl_idiv hG (hx_dq tdX12_lineAt_0 22 rfl) o35 (cl_iret hG (hx_dq tdX12_lineAt_0 23 rfl) rfl rfl (hK _ hw) (Nat.le_refl _) (Nat.le_refl _)))))))
def sX12_lineAt : hx_ST := fun Λ μ as KK => mF Λ ∧ ∃ (v1 : Int32) (K : Int32 → Prop), as = [.ref 49, .int v1] ∧ wX12_lineAt μ v1 K ∧ (∀ (r : Int32), K r → KK (some (.int r)) Λ μ)
theorem sX12_lineAt_mk {Λ : hx_L} {μ : hx_M} {KK : hx_KT} {v1 : Int32} {K : Int32 → Prop} (hF : mF Λ) (hw : wX12_lineAt μ v1 K) (hk : ∀ (r : Int32), K r → KK (some (.int r)) Λ μ) : sX12_lineAt Λ μ [.ref 49, .int v1] KK := ⟨hF, _, _, rfl, hw, hk⟩
theorem conX12_lineAt : hx_Con yX12_lineAt cX12_lineAt 4 (some .int) 2 0 0 sX12_lineAt := by
  refine hx_con_of (by decide +kernel) tokX12 (by decide) ?_ ?_
  · intro Λ μ as KK h
    obtain ⟨hF, v1, K, rfl, hw, hK⟩ := h
    exact Nat.le_of_ble_eq_true rfl
  · intro G KK hG cA Λ μ as h
    obtain ⟨hF, v1, K, rfl, hw, hK⟩ := h
    exact cl_sub hG (hx_le_c rfl (hx_le_c rfl (hx_le_n (hx_le_n hx_le_0)))) (kX12_lineAt hG cA hF _ hK hw)
/-! HemLineModel.line(I)I -/
def tbX12_line_0 : List (Nat × Instr × Nat) := [(0, .aload_n 0, 1), (1, .iload_n 1, 1), (2, .invokevirtual 362, 3), (5, .ifCond .eq 18, 3), (8, .aload_n 0, 1), (9, .getfield 154, 3), (12, .ifCond .le 11, 3), (15, .aload_n 0, 1), (16, .iload_n 1, 1), (17, .invokevirtual 365, 3), (20, .goto 4, 3), (23, .iconst (-1), 1), (24, .ireturn, 1)]
theorem tdX12_line_0 : hx_dt cX12_line tbX12_line_0 = true := by decide +kernel
theorem caX12_line_362 {G : hx_GT} (cA : hx_CA RX12 cX12_line 3 0 0 G) : hx_CV cX12_line G 0 0 362 12 1 sX12_isSeason 0 0 := cA.1 conX12_isSeason rfl rfl ⟨by decide +kernel, by decide +kernel, by decide +kernel⟩ mw_1531 mw_1533 mw_63 mw_97 mw_1534 (by decide) (by decide)
theorem caX12_line_365 {G : hx_GT} (cA : hx_CA RX12 cX12_line 3 0 0 G) : hx_CV cX12_line G 0 0 365 12 1 sX12_lineAt 0 0 := cA.1 conX12_lineAt rfl rfl ⟨by decide +kernel, by decide +kernel, by decide +kernel⟩ mw_1535 mw_1537 mw_64 mw_97 mw_1538 (by decide) (by decide)
def wX12_line (μ : hx_M) (v1 : Int32) (K : Int32 → Prop) : Prop := wX12_isSeason μ v1 (fun r2_2 => (r2_2 = 0 → (K (-1))) ∧ (¬ (r2_2 = 0) → (((μ.1 49 0) ≤ 0 → (K (-1))) ∧ (¬ ((μ.1 49 0) ≤ 0) → (wX12_lineAt μ v1 (fun r17_4 => K r17_4))))))
set_option maxRecDepth 100000 in
set_option maxHeartbeats 4000000 in
theorem kX12_line {G : hx_GT} {KK : hx_KT} (hG : hx_K cX12_line 2 0 0 (some .int) TbX12 KK G) (cA : hx_CA RX12 cX12_line 3 0 0 G) {Λ : hx_L} (hF : mF Λ) {μ : hx_M} (v1 : Int32) {K : Int32 → Prop} (hK : ∀ (r : Int32), K r → KK (some (.int r)) Λ μ) (hw : wX12_line μ v1 K) : G Λ μ (0, 0) 0 [some (.ref 49), some (.int v1)] [] := by
  unfold wX12_line at hw
  refine cl_aload_n hG (hx_dq tdX12_line_0 0 rfl) rfl (cl_iload_n hG (hx_dq tdX12_line_0 1 rfl) rfl (cl_callV1 (caX12_line_362 cA) (hx_dq tdX12_line_0 2 rfl) (mF_S49 hF) (Nat.le_of_ble_eq_true rfl) (Nat.le_refl _) (Nat.le_refl _) (sX12_isSeason_mk hF hw (fun r2_2 hw => ?_))))
  refine cl_if_eq hG 23 (hx_dq tdX12_line_0 3 rfl) rfl (fun c5 => ?_) (fun c5 => ?_)
  · replace hw := hw.1 c5
    exact cl_iconst hG (-1) (hx_dq tdX12_line_0 11 rfl) iconst_m1 (cl_iret hG (hx_dq tdX12_line_0 12 rfl) rfl rfl (hK _ hw) (Nat.le_refl _) (Nat.le_refl _))
  · replace hw := hw.2 c5
    refine cl_aload_n hG (hx_dq tdX12_line_0 4 rfl) rfl (cl_getI hG fmX12_154 (hx_dq tdX12_line_0 5 rfl) (mF_S49 hF) (cl_if_le hG 23 (hx_dq tdX12_line_0 6 rfl) rfl (fun c12 => ?_) (fun c12 => ?_)))
    · replace hw := hw.1 c12
      exact cl_iconst hG (-1) (hx_dq tdX12_line_0 11 rfl) iconst_m1 (cl_iret hG (hx_dq tdX12_line_0 12 rfl) rfl rfl (hK _ hw) (Nat.le_refl _) (Nat.le_refl _))
    · replace hw := hw.2 c12
      refine cl_aload_n hG (hx_dq tdX12_line_0 7 rfl) rfl (cl_iload_n hG (hx_dq tdX12_line_0 8 rfl) rfl (cl_callV1 (caX12_line_365 cA) (hx_dq tdX12_line_0 9 rfl) (mF_S49 hF) (Nat.le_of_ble_eq_true rfl) (Nat.le_refl _) (Nat.le_refl _) (sX12_lineAt_mk hF hw (fun r17_4 hw => ?_))))
      exact cl_goto hG 24 (hx_dq tdX12_line_0 10 rfl) rfl (cl_iret hG (hx_dq tdX12_line_0 12 rfl) rfl rfl (hK _ hw) (Nat.le_refl _) (Nat.le_refl _))
def sX12_line : hx_ST := fun Λ μ as KK => mF Λ ∧ ∃ (v1 : Int32) (K : Int32 → Prop), as = [.ref 49, .int v1] ∧ wX12_line μ v1 K ∧ (∀ (r : Int32), K r → KK (some (.int r)) Λ μ)
theorem sX12_line_mk {Λ : hx_L} {μ : hx_M} {KK : hx_KT} {v1 : Int32} {K : Int32 → Prop} (hF : mF Λ) (hw : wX12_line μ v1 K) (hk : ∀ (r : Int32), K r → KK (some (.int r)) Λ μ) : sX12_line Λ μ [.ref 49, .int v1] KK := ⟨hF, _, _, rfl, hw, hk⟩
theorem conX12_line : hx_Con yX12_line cX12_line 2 (some .int) 3 0 0 sX12_line := by
  refine hx_con_of (by decide +kernel) tokX12 (by decide) ?_ ?_
  · intro Λ μ as KK h
    obtain ⟨hF, v1, K, rfl, hw, hK⟩ := h
    exact Nat.le_of_ble_eq_true rfl
  · intro G KK hG cA Λ μ as h
    obtain ⟨hF, v1, K, rfl, hw, hK⟩ := h
    exact cl_sub hG (hx_le_c rfl (hx_le_c rfl hx_le_0)) (kX12_line hG cA hF _ hK hw)
/-! HemLineModel.length(II)I -/
def tbX12_length_0 : List (Nat × Instr × Nat) := [(0, .aload_n 0, 1), (1, .iload_n 1, 1), (2, .invokevirtual 167, 3), (5, .ifCond .eq 20, 3), (8, .aload_n 0, 1), (9, .iload_n 2, 1), (10, .invokevirtual 362, 3), (13, .ifCond .eq 12, 3), (16, .aload_n 0, 1), (17, .iload_n 1, 1), (18, .iload_n 2, 1), (19, .invokevirtual 302, 3), (22, .goto 4, 3), (25, .iconst (-1), 1), (26, .ireturn, 1)]
theorem tdX12_length_0 : hx_dt cX12_length tbX12_length_0 = true := by decide +kernel
theorem caX12_length_167 {G : hx_GT} (cA : hx_CA RX12 cX12_length 3 0 0 G) : hx_CV cX12_length G 0 0 167 12 1 sX12_isPerson 0 0 := cA.1 conX12_isPerson rfl rfl ⟨by decide +kernel, by decide +kernel, by decide +kernel⟩ mw_1350 mw_1352 mw_37 mw_97 mw_1353 (by decide) (by decide)
theorem caX12_length_302 {G : hx_GT} (cA : hx_CA RX12 cX12_length 3 0 0 G) : hx_CV cX12_length G 0 0 302 12 2 sX12_lengthAt 0 0 := cA.1 conX12_lengthAt rfl rfl ⟨by decide +kernel, by decide +kernel, by decide +kernel⟩ mw_1486 mw_1488 mw_54 mw_97 mw_1489 (by decide) (by decide)
theorem caX12_length_362 {G : hx_GT} (cA : hx_CA RX12 cX12_length 3 0 0 G) : hx_CV cX12_length G 0 0 362 12 1 sX12_isSeason 0 0 := cA.1 conX12_isSeason rfl rfl ⟨by decide +kernel, by decide +kernel, by decide +kernel⟩ mw_1531 mw_1533 mw_63 mw_97 mw_1534 (by decide) (by decide)
def wX12_length (μ : hx_M) (v1 : Int32) (v2 : Int32) (K : Int32 → Prop) : Prop := wX12_isPerson μ v1 (fun r2_2 => (r2_2 = 0 → (K (-1))) ∧ (¬ (r2_2 = 0) → (wX12_isSeason μ v2 (fun r10_4 => (r10_4 = 0 → (K (-1))) ∧ (¬ (r10_4 = 0) → (wX12_lengthAt μ v1 v2 (fun r19_6 => K r19_6)))))))
set_option maxRecDepth 100000 in
set_option maxHeartbeats 4000000 in
theorem kX12_length {G : hx_GT} {KK : hx_KT} (hG : hx_K cX12_length 3 0 0 (some .int) TbX12 KK G) (cA : hx_CA RX12 cX12_length 3 0 0 G) {Λ : hx_L} (hF : mF Λ) {μ : hx_M} (v1 : Int32) (v2 : Int32) {K : Int32 → Prop} (hK : ∀ (r : Int32), K r → KK (some (.int r)) Λ μ) (hw : wX12_length μ v1 v2 K) : G Λ μ (0, 0) 0 [some (.ref 49), some (.int v1), some (.int v2)] [] := by
  unfold wX12_length at hw
  refine cl_aload_n hG (hx_dq tdX12_length_0 0 rfl) rfl (cl_iload_n hG (hx_dq tdX12_length_0 1 rfl) rfl (cl_callV1 (caX12_length_167 cA) (hx_dq tdX12_length_0 2 rfl) (mF_S49 hF) (Nat.le_of_ble_eq_true rfl) (Nat.le_refl _) (Nat.le_refl _) (sX12_isPerson_mk hF hw (fun r2_2 hw => ?_))))
  refine cl_if_eq hG 25 (hx_dq tdX12_length_0 3 rfl) rfl (fun c5 => ?_) (fun c5 => ?_)
  · replace hw := hw.1 c5
    exact cl_iconst hG (-1) (hx_dq tdX12_length_0 13 rfl) iconst_m1 (cl_iret hG (hx_dq tdX12_length_0 14 rfl) rfl rfl (hK _ hw) (Nat.le_refl _) (Nat.le_refl _))
  · replace hw := hw.2 c5
    refine cl_aload_n hG (hx_dq tdX12_length_0 4 rfl) rfl (cl_iload_n hG (hx_dq tdX12_length_0 5 rfl) rfl (cl_callV1 (caX12_length_362 cA) (hx_dq tdX12_length_0 6 rfl) (mF_S49 hF) (Nat.le_of_ble_eq_true rfl) (Nat.le_refl _) (Nat.le_refl _) (sX12_isSeason_mk hF hw (fun r10_4 hw => ?_))))
    refine cl_if_eq hG 25 (hx_dq tdX12_length_0 7 rfl) rfl (fun c13 => ?_) (fun c13 => ?_)
    · replace hw := hw.1 c13
      exact cl_iconst hG (-1) (hx_dq tdX12_length_0 13 rfl) iconst_m1 (cl_iret hG (hx_dq tdX12_length_0 14 rfl) rfl rfl (hK _ hw) (Nat.le_refl _) (Nat.le_refl _))
    · replace hw := hw.2 c13
      refine cl_aload_n hG (hx_dq tdX12_length_0 8 rfl) rfl (cl_iload_n hG (hx_dq tdX12_length_0 9 rfl) rfl (cl_iload_n hG (hx_dq tdX12_length_0 10 rfl) rfl (cl_callV2 (caX12_length_302 cA) (hx_dq tdX12_length_0 11 rfl) (mF_S49 hF) (Nat.le_of_ble_eq_true rfl) (Nat.le_refl _) (Nat.le_refl _) (sX12_lengthAt_mk hF hw (fun r19_6 hw => ?_)))))
      exact cl_goto hG 26 (hx_dq tdX12_length_0 12 rfl) rfl (cl_iret hG (hx_dq tdX12_length_0 14 rfl) rfl rfl (hK _ hw) (Nat.le_refl _) (Nat.le_refl _))
def sX12_length : hx_ST := fun Λ μ as KK => mF Λ ∧ ∃ (v1 : Int32) (v2 : Int32) (K : Int32 → Prop), as = [.ref 49, .int v1, .int v2] ∧ wX12_length μ v1 v2 K ∧ (∀ (r : Int32), K r → KK (some (.int r)) Λ μ)
theorem sX12_length_mk {Λ : hx_L} {μ : hx_M} {KK : hx_KT} {v1 : Int32} {v2 : Int32} {K : Int32 → Prop} (hF : mF Λ) (hw : wX12_length μ v1 v2 K) (hk : ∀ (r : Int32), K r → KK (some (.int r)) Λ μ) : sX12_length Λ μ [.ref 49, .int v1, .int v2] KK := ⟨hF, _, _, _, rfl, hw, hk⟩
theorem conX12_length : hx_Con yX12_length cX12_length 3 (some .int) 3 0 0 sX12_length := by
  refine hx_con_of (by decide +kernel) tokX12 (by decide) ?_ ?_
  · intro Λ μ as KK h
    obtain ⟨hF, v1, v2, K, rfl, hw, hK⟩ := h
    exact Nat.le_of_ble_eq_true rfl
  · intro G KK hG cA Λ μ as h
    obtain ⟨hF, v1, v2, K, rfl, hw, hK⟩ := h
    exact cl_sub hG (hx_le_c rfl (hx_le_c rfl (hx_le_c rfl hx_le_0))) (kX12_length hG cA hF _ _ hK hw)
/-! HemLineModel.wantsNow(I)I -/
def tbX12_wantsNow_0 : List (Nat × Instr × Nat) := [(0, .aload_n 0, 1), (1, .aload_n 0, 1), (2, .getfield 53, 3), (5, .iload_n 1, 1), (6, .aload_n 0, 1), (7, .getfield 161, 3), (10, .iconst 0, 1), (11, .aload_n 0, 1), (12, .getfield 20, 3), (15, .iload_n 1, 1), (16, .iaload, 1), (17, .aload_n 0, 1), (18, .getfield 23, 3), (21, .iload_n 1, 1), (22, .iaload, 1), (23, .invokevirtual 346, 3), (26, .ireturn, 1)]
theorem tdX12_wantsNow_0 : hx_dt cX12_wantsNow tbX12_wantsNow_0 = true := by decide +kernel
theorem caX12_wantsNow_346 {G : hx_GT} (cA : hx_CA RX12 cX12_wantsNow 5 0 0 G) : hx_CV cX12_wantsNow G 0 0 346 12 6 sX12_wants 0 0 := cA.1 conX12_wants rfl rfl ⟨by decide +kernel, by decide +kernel, by decide +kernel⟩ mw_1490 mw_1492 mw_55 mw_97 mw_1493 (by decide) (by decide)
def wX12_wantsNow (μ : hx_M) (v1 : Int32) (K : Int32 → hx_M → Prop) : Prop := vp_in v1 16 ∧ vp_in v1 16 ∧ wX12_wants μ (μ.1 49 21) v1 (μ.1 49 1) 0 (μ.1 52 v1.toNatClampNeg) (μ.1 53 v1.toNatClampNeg) (fun r23_4 m23_3 => K r23_4 m23_3)
set_option maxRecDepth 100000 in
set_option maxHeartbeats 4000000 in
theorem kX12_wantsNow {G : hx_GT} {KK : hx_KT} (hG : hx_K cX12_wantsNow 2 0 0 (some .int) TbX12 KK G) (cA : hx_CA RX12 cX12_wantsNow 5 0 0 G) {Λ : hx_L} (hF : mF Λ) {μ : hx_M} (v1 : Int32) {K : Int32 → hx_M → Prop} (hK : ∀ (r : Int32) (m : hx_M), K r m → KK (some (.int r)) Λ m) (hw : wX12_wantsNow μ v1 K) : G Λ μ (0, 0) 0 [some (.ref 49), some (.int v1)] [] := by
  unfold wX12_wantsNow at hw
  obtain ⟨i16_1, hw⟩ := hw
  obtain ⟨i22_2, hw⟩ := hw
  refine cl_aload_n hG (hx_dq tdX12_wantsNow_0 0 rfl) rfl (cl_aload_n hG (hx_dq tdX12_wantsNow_0 1 rfl) rfl (cl_getI hG fmX12_53 (hx_dq tdX12_wantsNow_0 2 rfl) (mF_S49 hF) (cl_iload_n hG (hx_dq tdX12_wantsNow_0 3 rfl) rfl (cl_aload_n hG (hx_dq tdX12_wantsNow_0 4 rfl) rfl (cl_getI hG fmX12_161 (hx_dq tdX12_wantsNow_0 5 rfl) (mF_S49 hF) (cl_iconst hG 0 (hx_dq tdX12_wantsNow_0 6 rfl) iconst_0 (cl_aload_n hG (hx_dq tdX12_wantsNow_0 7 rfl) rfl (cl_getS hG fmX12_20 (hx_dq tdX12_wantsNow_0 8 rfl) (mF_S49 hF) (mF_R49_9 hF) (cl_iload_n hG (hx_dq tdX12_wantsNow_0 9 rfl) rfl (cl_iald hG (hx_dq tdX12_wantsNow_0 10 rfl) (mF_S52 hF) i16_1 (cl_aload_n hG (hx_dq tdX12_wantsNow_0 11 rfl) rfl (cl_getS hG fmX12_23 (hx_dq tdX12_wantsNow_0 12 rfl) (mF_S49 hF) (mF_R49_10 hF) (cl_iload_n hG (hx_dq tdX12_wantsNow_0 13 rfl) rfl (cl_iald hG (hx_dq tdX12_wantsNow_0 14 rfl) (mF_S53 hF) i22_2 (cl_callV6 (caX12_wantsNow_346 cA) (hx_dq tdX12_wantsNow_0 15 rfl) (mF_S49 hF) (Nat.le_of_ble_eq_true rfl) (Nat.le_refl _) (Nat.le_refl _) (sX12_wants_mk hF hw (fun r23_4 m23_3 hw => ?_)))))))))))))))))
  exact cl_iret hG (hx_dq tdX12_wantsNow_0 16 rfl) rfl rfl (hK _ _ hw) (Nat.le_refl _) (Nat.le_refl _)
def sX12_wantsNow : hx_ST := fun Λ μ as KK => mF Λ ∧ ∃ (v1 : Int32) (K : Int32 → hx_M → Prop), as = [.ref 49, .int v1] ∧ wX12_wantsNow μ v1 K ∧ (∀ (r : Int32) (m : hx_M), K r m → KK (some (.int r)) Λ m)
theorem sX12_wantsNow_mk {Λ : hx_L} {μ : hx_M} {KK : hx_KT} {v1 : Int32} {K : Int32 → hx_M → Prop} (hF : mF Λ) (hw : wX12_wantsNow μ v1 K) (hk : ∀ (r : Int32) (m : hx_M), K r m → KK (some (.int r)) Λ m) : sX12_wantsNow Λ μ [.ref 49, .int v1] KK := ⟨hF, _, _, rfl, hw, hk⟩
theorem conX12_wantsNow : hx_Con yX12_wantsNow cX12_wantsNow 2 (some .int) 5 0 0 sX12_wantsNow := by
  refine hx_con_of (by decide +kernel) tokX12 (by decide) ?_ ?_
  · intro Λ μ as KK h
    obtain ⟨hF, v1, K, rfl, hw, hK⟩ := h
    exact Nat.le_of_ble_eq_true rfl
  · intro G KK hG cA Λ μ as h
    obtain ⟨hF, v1, K, rfl, hw, hK⟩ := h
    exact cl_sub hG (hx_le_c rfl (hx_le_c rfl hx_le_0)) (kX12_wantsNow hG cA hF _ hK hw)
/-! HemLineModel.wears(II)I -/
def tbX12_wears_0 : List (Nat × Instr × Nat) := [(0, .aload_n 0, 1), (1, .iload_n 1, 1), (2, .invokevirtual 167, 3), (5, .ifCond .ne 5, 3), (8, .iconst (-1), 1), (9, .ireturn, 1), (10, .iload_n 2, 1), (11, .tableswitch 104 0 6 #[41, 48, 55, 65, 72, 79, 86], 41), (52, .aload_n 0, 1), (53, .getfield 13, 3), (56, .iload_n 1, 1), (57, .iaload, 1), (58, .ireturn, 1), (59, .aload_n 0, 1), (60, .getfield 17, 3), (63, .iload_n 1, 1), (64, .iaload, 1), (65, .ireturn, 1), (66, .aload_n 0, 1), (67, .iload_n 1, 1), (68, .aload_n 0, 1), (69, .getfield 161, 3), (72, .invokevirtual 302, 3), (75, .ireturn, 1), (76, .aload_n 0, 1), (77, .getfield 20, 3), (80, .iload_n 1, 1), (81, .iaload, 1), (82, .ireturn, 1), (83, .aload_n 0, 1), (84, .getfield 23, 3), (87, .iload_n 1, 1)]
def tbX12_wears_1 : List (Nat × Instr × Nat) := [(88, .iaload, 1), (89, .ireturn, 1), (90, .aload_n 0, 1), (91, .getfield 26, 3), (94, .iload_n 1, 1), (95, .iaload, 1), (96, .ireturn, 1), (97, .aload_n 0, 1), (98, .getfield 53, 3), (101, .iconst (-1), 1), (102, .if_icmp .ne 7, 3), (105, .iconst (-1), 1), (106, .goto 8, 3), (109, .aload_n 0, 1), (110, .iload_n 1, 1), (111, .invokevirtual 368, 3), (114, .ireturn, 1), (115, .iload_n 2, 1), (116, .bipush 10, 2), (118, .bipush 15, 2), (120, .invokestatic 157, 3), (123, .ifCond .eq 20, 3), (126, .aload_n 0, 1), (127, .getfield 32, 3), (130, .bipush 6, 2), (132, .iload_n 1, 1), (133, .imul, 1), (134, .iload_n 2, 1), (135, .iadd, 1), (136, .bipush 10, 2), (138, .isub, 1), (139, .iaload, 1)]
def tbX12_wears_2 : List (Nat × Instr × Nat) := [(140, .goto 4, 3), (143, .iconst (-1), 1), (144, .ireturn, 1)]
theorem tdX12_wears_0 : hx_dt cX12_wears tbX12_wears_0 = true := by decide +kernel
theorem tdX12_wears_1 : hx_dt cX12_wears tbX12_wears_1 = true := by decide +kernel
theorem tdX12_wears_2 : hx_dt cX12_wears tbX12_wears_2 = true := by decide +kernel
theorem caX12_wears_157 {G : hx_GT} (cA : hx_CA RX12 cX12_wears 6 0 0 G) : hx_CS cX12_wears G 0 0 157 3 sX12_isIn 0 0 := cA.2.1 conX12_isIn ⟨by decide +kernel, by decide +kernel, by decide +kernel⟩ mw_1343 mw_1344 mw_97 mw_1345 (by decide) (by decide)
theorem caX12_wears_167 {G : hx_GT} (cA : hx_CA RX12 cX12_wears 6 0 0 G) : hx_CV cX12_wears G 0 0 167 12 1 sX12_isPerson 0 0 := cA.1 conX12_isPerson rfl rfl ⟨by decide +kernel, by decide +kernel, by decide +kernel⟩ mw_1350 mw_1352 mw_37 mw_97 mw_1353 (by decide) (by decide)
theorem caX12_wears_302 {G : hx_GT} (cA : hx_CA RX12 cX12_wears 6 0 0 G) : hx_CV cX12_wears G 0 0 302 12 2 sX12_lengthAt 0 0 := cA.1 conX12_lengthAt rfl rfl ⟨by decide +kernel, by decide +kernel, by decide +kernel⟩ mw_1486 mw_1488 mw_54 mw_97 mw_1489 (by decide) (by decide)
theorem caX12_wears_368 {G : hx_GT} (cA : hx_CA RX12 cX12_wears 6 0 0 G) : hx_CV cX12_wears G 0 0 368 12 1 sX12_wantsNow 0 0 := cA.1 conX12_wantsNow rfl rfl ⟨by decide +kernel, by decide +kernel, by decide +kernel⟩ mw_1547 mw_1549 mw_65 mw_97 mw_1550 (by decide) (by decide)
def wX12_wears (μ : hx_M) (v1 : Int32) (v2 : Int32) (K : Int32 → hx_M → Prop) : Prop := wX12_isPerson μ v1 (fun r2_2 => (r2_2 ≠ 0 → (((v2 : Int32).toInt < 0 ∨ 6 < (v2 : Int32).toInt → (wX12_isIn v2 10 15 (fun r120_4 => (r120_4 = 0 → (K (-1) μ)) ∧ (¬ (r120_4 = 0) → (vp_in (((6 * v1) + v2) - 10) 96 ∧ ∀ x_6 : Int32, x_6 = ((μ.1 56 ((((6 * v1) + v2) - 10).toNatClampNeg))) → K x_6 μ))))) ∧ (v2 = 0 → (vp_in v1 16 ∧ K (μ.1 50 v1.toNatClampNeg) μ)) ∧ (v2 = 1 → (vp_in v1 16 ∧ K (μ.1 51 v1.toNatClampNeg) μ)) ∧ (v2 = 2 → (wX12_lengthAt μ v1 (μ.1 49 1) (fun r72_10 => K r72_10 μ))) ∧ (v2 = 3 → (vp_in v1 16 ∧ K (μ.1 52 v1.toNatClampNeg) μ)) ∧ (v2 = 4 → (vp_in v1 16 ∧ K (μ.1 53 v1.toNatClampNeg) μ)) ∧ (v2 = 5 → (vp_in v1 16 ∧ K (μ.1 54 v1.toNatClampNeg) μ)) ∧ (v2 = 6 → (((μ.1 49 21) ≠ (-1) → (wX12_wantsNow μ v1 (fun r111_15 m111_14 => K r111_15 m111_14))) ∧ ((μ.1 49 21) = (-1) → (K (-1) μ)))))) ∧ (r2_2 = 0 → (K (-1) μ)))
set_option maxRecDepth 100000 in
set_option maxHeartbeats 4000000 in
theorem kX12_wears {G : hx_GT} {KK : hx_KT} (hG : hx_K cX12_wears 3 0 0 (some .int) TbX12 KK G) (cA : hx_CA RX12 cX12_wears 6 0 0 G) {Λ : hx_L} (hF : mF Λ) {μ : hx_M} (v1 : Int32) (v2 : Int32) {K : Int32 → hx_M → Prop} (hK : ∀ (r : Int32) (m : hx_M), K r m → KK (some (.int r)) Λ m) (hw : wX12_wears μ v1 v2 K) : G Λ μ (0, 0) 0 [some (.ref 49), some (.int v1), some (.int v2)] [] := by
  unfold wX12_wears at hw
  refine cl_aload_n hG (hx_dq tdX12_wears_0 0 rfl) rfl (cl_iload_n hG (hx_dq tdX12_wears_0 1 rfl) rfl (cl_callV1 (caX12_wears_167 cA) (hx_dq tdX12_wears_0 2 rfl) (mF_S49 hF) (Nat.le_of_ble_eq_true rfl) (Nat.le_refl _) (Nat.le_refl _) (sX12_isPerson_mk hF hw (fun r2_2 hw => ?_))))
  refine cl_if_ne hG 10 (hx_dq tdX12_wears_0 3 rfl) rfl (fun c5 => ?_) (fun c5 => ?_)
  · replace hw := hw.1 c5
    refine cl_iload_n hG (hx_dq tdX12_wears_0 6 rfl) rfl (hG.1 _ _ _ (hx_dq tdX12_wears_0 7 rfl) _ _ _ _ _ ⟨_, _, rfl, fun c11 => ⟨115, rfl, ?_⟩, fun c11 e11 => ?_⟩)
    · replace hw := hw.1 c11
      refine cl_iload_n hG (hx_dq tdX12_wears_1 17 rfl) rfl (cl_bipush hG 10 (hx_dq tdX12_wears_1 18 rfl) bipush_10 (cl_bipush hG 15 (hx_dq tdX12_wears_1 19 rfl) bipush_15 (cl_callS3 (caX12_wears_157 cA) (hx_dq tdX12_wears_1 20 rfl) (Nat.le_of_ble_eq_true rfl) (Nat.le_refl _) (Nat.le_refl _) (sX12_isIn_mk hw (fun r120_4 hw => ?_)))))
      refine cl_if_eq hG 143 (hx_dq tdX12_wears_1 21 rfl) rfl (fun c123 => ?_) (fun c123 => ?_)
      · replace hw := hw.1 c123
        exact cl_iconst hG (-1) (hx_dq tdX12_wears_2 1 rfl) iconst_m1 (cl_iret hG (hx_dq tdX12_wears_2 2 rfl) rfl rfl (hK _ _ hw) (Nat.le_refl _) (Nat.le_refl _))
      · replace hw := hw.2 c123
        obtain ⟨i139_5, hw⟩ := hw
        refine cl_aload_n hG (hx_dq tdX12_wears_1 22 rfl) rfl (cl_getS hG fmX12_32 (hx_dq tdX12_wears_1 23 rfl) (mF_S49 hF) (mF_R49_13 hF) (cl_bipush hG 6 (hx_dq tdX12_wears_1 24 rfl) bipush_6 (cl_iload_n hG (hx_dq tdX12_wears_1 25 rfl) rfl (cl_imul hG (hx_dq tdX12_wears_1 26 rfl) (cl_iload_n hG (hx_dq tdX12_wears_1 27 rfl) rfl (cl_iadd hG (hx_dq tdX12_wears_1 28 rfl) (cl_bipush hG 10 (hx_dq tdX12_wears_1 29 rfl) bipush_10 (cl_isub hG (hx_dq tdX12_wears_1 30 rfl) (cl_iald hG (hx_dq tdX12_wears_1 31 rfl) (mF_S56 hF) i139_5 (cl_nmI (fun x_6 e_6 => ?_)))))))))))
        replace hw := hw x_6 e_6
        exact cl_goto hG 144 (hx_dq tdX12_wears_2 0 rfl) rfl (cl_iret hG (hx_dq tdX12_wears_2 2 rfl) rfl rfl (hK _ _ hw) (Nat.le_refl _) (Nat.le_refl _))
    · replace hw := hw.2
      rcases hx_sw6 _ c11 e11 with c | c | c | c | c | c | c
      · replace hw := hw.1 c
        refine ⟨41, 52, by rw [c]; decide, rfl, ?_⟩
        obtain ⟨i57_7, hw⟩ := hw
        exact cl_aload_n hG (hx_dq tdX12_wears_0 8 rfl) rfl (cl_getS hG fmX12_13 (hx_dq tdX12_wears_0 9 rfl) (mF_S49 hF) (mF_R49_7 hF) (cl_iload_n hG (hx_dq tdX12_wears_0 10 rfl) rfl (cl_iald hG (hx_dq tdX12_wears_0 11 rfl) (mF_S50 hF) i57_7 (cl_iret hG (hx_dq tdX12_wears_0 12 rfl) rfl rfl (hK _ _ hw) (Nat.le_refl _) (Nat.le_refl _)))))
      · replace hw := hw.2.1 c
        refine ⟨48, 59, by rw [c]; decide, rfl, ?_⟩
        obtain ⟨i64_8, hw⟩ := hw
        exact cl_aload_n hG (hx_dq tdX12_wears_0 13 rfl) rfl (cl_getS hG fmX12_17 (hx_dq tdX12_wears_0 14 rfl) (mF_S49 hF) (mF_R49_8 hF) (cl_iload_n hG (hx_dq tdX12_wears_0 15 rfl) rfl (cl_iald hG (hx_dq tdX12_wears_0 16 rfl) (mF_S51 hF) i64_8 (cl_iret hG (hx_dq tdX12_wears_0 17 rfl) rfl rfl (hK _ _ hw) (Nat.le_refl _) (Nat.le_refl _)))))
      · replace hw := hw.2.2.1 c
        refine ⟨55, 66, by rw [c]; decide, rfl, ?_⟩
        refine cl_aload_n hG (hx_dq tdX12_wears_0 18 rfl) rfl (cl_iload_n hG (hx_dq tdX12_wears_0 19 rfl) rfl (cl_aload_n hG (hx_dq tdX12_wears_0 20 rfl) rfl (cl_getI hG fmX12_161 (hx_dq tdX12_wears_0 21 rfl) (mF_S49 hF) (cl_callV2 (caX12_wears_302 cA) (hx_dq tdX12_wears_0 22 rfl) (mF_S49 hF) (Nat.le_of_ble_eq_true rfl) (Nat.le_refl _) (Nat.le_refl _) (sX12_lengthAt_mk hF hw (fun r72_10 hw => ?_))))))
        exact cl_iret hG (hx_dq tdX12_wears_0 23 rfl) rfl rfl (hK _ _ hw) (Nat.le_refl _) (Nat.le_refl _)
      · replace hw := hw.2.2.2.1 c
        refine ⟨65, 76, by rw [c]; decide, rfl, ?_⟩
        obtain ⟨i81_11, hw⟩ := hw
        exact cl_aload_n hG (hx_dq tdX12_wears_0 24 rfl) rfl (cl_getS hG fmX12_20 (hx_dq tdX12_wears_0 25 rfl) (mF_S49 hF) (mF_R49_9 hF) (cl_iload_n hG (hx_dq tdX12_wears_0 26 rfl) rfl (cl_iald hG (hx_dq tdX12_wears_0 27 rfl) (mF_S52 hF) i81_11 (cl_iret hG (hx_dq tdX12_wears_0 28 rfl) rfl rfl (hK _ _ hw) (Nat.le_refl _) (Nat.le_refl _)))))
      · replace hw := hw.2.2.2.2.1 c
        refine ⟨72, 83, by rw [c]; decide, rfl, ?_⟩
        obtain ⟨i88_12, hw⟩ := hw
        exact cl_aload_n hG (hx_dq tdX12_wears_0 29 rfl) rfl (cl_getS hG fmX12_23 (hx_dq tdX12_wears_0 30 rfl) (mF_S49 hF) (mF_R49_10 hF) (cl_iload_n hG (hx_dq tdX12_wears_0 31 rfl) rfl (cl_iald hG (hx_dq tdX12_wears_1 0 rfl) (mF_S53 hF) i88_12 (cl_iret hG (hx_dq tdX12_wears_1 1 rfl) rfl rfl (hK _ _ hw) (Nat.le_refl _) (Nat.le_refl _)))))
      · replace hw := hw.2.2.2.2.2.1 c
        refine ⟨79, 90, by rw [c]; decide, rfl, ?_⟩
        obtain ⟨i95_13, hw⟩ := hw
        exact cl_aload_n hG (hx_dq tdX12_wears_1 2 rfl) rfl (cl_getS hG fmX12_26 (hx_dq tdX12_wears_1 3 rfl) (mF_S49 hF) (mF_R49_11 hF) (cl_iload_n hG (hx_dq tdX12_wears_1 4 rfl) rfl (cl_iald hG (hx_dq tdX12_wears_1 5 rfl) (mF_S54 hF) i95_13 (cl_iret hG (hx_dq tdX12_wears_1 6 rfl) rfl rfl (hK _ _ hw) (Nat.le_refl _) (Nat.le_refl _)))))
      · replace hw := hw.2.2.2.2.2.2 c
        refine ⟨86, 97, by rw [c]; decide, rfl, ?_⟩
        refine cl_aload_n hG (hx_dq tdX12_wears_1 7 rfl) rfl (cl_getI hG fmX12_53 (hx_dq tdX12_wears_1 8 rfl) (mF_S49 hF) (cl_iconst hG (-1) (hx_dq tdX12_wears_1 9 rfl) iconst_m1 (cl_icmp_ne hG 109 (hx_dq tdX12_wears_1 10 rfl) rfl (fun c102 => ?_) (fun c102 => ?_))))
        · replace hw := hw.1 c102
          refine cl_aload_n hG (hx_dq tdX12_wears_1 13 rfl) rfl (cl_iload_n hG (hx_dq tdX12_wears_1 14 rfl) rfl (cl_callV1 (caX12_wears_368 cA) (hx_dq tdX12_wears_1 15 rfl) (mF_S49 hF) (Nat.le_of_ble_eq_true rfl) (Nat.le_refl _) (Nat.le_refl _) (sX12_wantsNow_mk hF hw (fun r111_15 m111_14 hw => ?_))))
          exact cl_iret hG (hx_dq tdX12_wears_1 16 rfl) rfl rfl (hK _ _ hw) (Nat.le_refl _) (Nat.le_refl _)
        · replace hw := hw.2 c102
          exact cl_iconst hG (-1) (hx_dq tdX12_wears_1 11 rfl) iconst_m1 (cl_goto hG 114 (hx_dq tdX12_wears_1 12 rfl) rfl (cl_iret hG (hx_dq tdX12_wears_1 16 rfl) rfl rfl (hK _ _ hw) (Nat.le_refl _) (Nat.le_refl _)))
  · replace hw := hw.2 c5
    exact cl_iconst hG (-1) (hx_dq tdX12_wears_0 4 rfl) iconst_m1 (cl_iret hG (hx_dq tdX12_wears_0 5 rfl) rfl rfl (hK _ _ hw) (Nat.le_refl _) (Nat.le_refl _))
def sX12_wears : hx_ST := fun Λ μ as KK => mF Λ ∧ ∃ (v1 : Int32) (v2 : Int32) (K : Int32 → hx_M → Prop), as = [.ref 49, .int v1, .int v2] ∧ wX12_wears μ v1 v2 K ∧ (∀ (r : Int32) (m : hx_M), K r m → KK (some (.int r)) Λ m)
theorem sX12_wears_mk {Λ : hx_L} {μ : hx_M} {KK : hx_KT} {v1 : Int32} {v2 : Int32} {K : Int32 → hx_M → Prop} (hF : mF Λ) (hw : wX12_wears μ v1 v2 K) (hk : ∀ (r : Int32) (m : hx_M), K r m → KK (some (.int r)) Λ m) : sX12_wears Λ μ [.ref 49, .int v1, .int v2] KK := ⟨hF, _, _, _, rfl, hw, hk⟩
theorem conX12_wears : hx_Con yX12_wears cX12_wears 3 (some .int) 6 0 0 sX12_wears := by
  refine hx_con_of (by decide +kernel) tokX12 (by decide) ?_ ?_
  · intro Λ μ as KK h
    obtain ⟨hF, v1, v2, K, rfl, hw, hK⟩ := h
    exact Nat.le_of_ble_eq_true rfl
  · intro G KK hG cA Λ μ as h
    obtain ⟨hF, v1, v2, K, rfl, hw, hK⟩ := h
    exact cl_sub hG (hx_le_c rfl (hx_le_c rfl (hx_le_c rfl hx_le_0))) (kX12_wears hG cA hF _ _ hK hw)
/-! HemLineModel.keeps()V -/
def tbX12_keeps_0 : List (Nat × Instr × Nat) := [(0, .aload_n 0, 1), (1, .aload_n 0, 1), (2, .getfield 7, 3), (5, .putfield 371, 3), (8, .aload_n 0, 1), (9, .getfield 107, 3), (12, .iconst 0, 1), (13, .aload_n 0, 1), (14, .getfield 161, 3), (17, .iastore, 1), (18, .aload_n 0, 1), (19, .getfield 107, 3), (22, .iconst 1, 1), (23, .aload_n 0, 1), (24, .getfield 164, 3), (27, .iastore, 1), (28, .iconst 0, 1), (29, .istore_n 1, 1), (30, .iload_n 1, 1), (31, .bipush 16, 2), (33, .if_icmp .ge 38, 3), (36, .aload_n 0, 1), (37, .getfield 107, 3), (40, .iconst 2, 1), (41, .iload_n 1, 1), (42, .iadd, 1), (43, .aload_n 0, 1), (44, .getfield 20, 3), (47, .iload_n 1, 1), (48, .iaload, 1), (49, .iastore, 1), (50, .aload_n 0, 1)]
def tbX12_keeps_1 : List (Nat × Instr × Nat) := [(51, .getfield 107, 3), (54, .bipush 18, 2), (56, .iload_n 1, 1), (57, .iadd, 1), (58, .aload_n 0, 1), (59, .getfield 23, 3), (62, .iload_n 1, 1), (63, .iaload, 1), (64, .iastore, 1), (65, .iinc 1 1, 3), (68, .goto (-38), 3), (71, .iconst 0, 1), (72, .istore_n 1, 1), (73, .iload_n 1, 1), (74, .bipush 96, 2), (76, .if_icmp .ge 24, 3), (79, .aload_n 0, 1), (80, .getfield 107, 3), (83, .bipush 34, 2), (85, .iload_n 1, 1), (86, .iadd, 1), (87, .aload_n 0, 1), (88, .getfield 32, 3), (91, .iload_n 1, 1), (92, .iaload, 1), (93, .iastore, 1), (94, .iinc 1 1, 3), (97, .goto (-24), 3), (100, .return_, 1)]
theorem tdX12_keeps_0 : hx_dt cX12_keeps tbX12_keeps_0 = true := by decide +kernel
theorem tdX12_keeps_1 : hx_dt cX12_keeps tbX12_keeps_1 = true := by decide +kernel
def wX12_keeps_L30  (K : hx_M → Prop) (K71 : hx_M → Prop) : Nat → Int32 → hx_M → Prop
  | 0, _, _ => False
  | n + 1, v1, μ => (16 ≤ v1 → (K71 μ)) ∧ (¬ (16 ≤ v1) → (vp_in v1 16 ∧ vp_in (2 + v1) 130 ∧ vp_in v1 16 ∧ vp_in (18 + v1) 130 ∧ wX12_keeps_L30 K K71 n (v1 + 1) (hx_sI (hx_sI μ 78 ((2 + v1).toNatClampNeg) (μ.1 52 v1.toNatClampNeg)) 78 ((18 + v1).toNatClampNeg) (μ.1 53 v1.toNatClampNeg))))
set_option maxRecDepth 100000 in
set_option maxHeartbeats 4000000 in
theorem kX12_keeps_L30 {G : hx_GT} {KK : hx_KT} (hG : hx_K cX12_keeps 2 0 0 (none) TbX12 KK G) (cA : hx_CA RX12 cX12_keeps 1 0 0 G) {Λ : hx_L} (hF : mF Λ)   {K : hx_M → Prop} (hK : ∀ (m : hx_M), K m → KK none Λ m) {K71 : hx_M → Prop} (hk71 : ∀ (μ : hx_M), K71 μ → G Λ μ (0, 0) 71 [some (.ref 49), none] []) : ∀ (n : Nat) (v1 : Int32) (μ : hx_M), wX12_keeps_L30 K K71 n v1 μ → G Λ μ (0, 0) 30 [some (.ref 49), some (.int v1)] [] := by
  intro n
  induction n with
  | zero =>
    intro v1 μ hw
    exact False.elim (by simpa only [wX12_keeps_L30] using hw)
  | succ n ih =>
    intro v1 μ hw
    unfold wX12_keeps_L30 at hw
    refine cl_iload_n hG (hx_dq tdX12_keeps_0 18 rfl) rfl (cl_bipush hG 16 (hx_dq tdX12_keeps_0 19 rfl) bipush_16 (cl_icmp_ge hG 71 (hx_dq tdX12_keeps_0 20 rfl) rfl (fun c33 => ?_) (fun c33 => ?_)))
    · replace hw := hw.1 c33
      exact cl_sub hG (hx_le_c rfl (hx_le_n hx_le_0)) (hk71 _ hw)
    · replace hw := hw.2 c33
      obtain ⟨i48_3, hw⟩ := hw
      obtain ⟨i49_4, hw⟩ := hw
      obtain ⟨i63_5, hw⟩ := hw
      obtain ⟨i64_6, hw⟩ := hw
      exact cl_aload_n hG (hx_dq tdX12_keeps_0 21 rfl) rfl (cl_getS hG fmX12_107 (hx_dq tdX12_keeps_0 22 rfl) (mF_S49 hF) (mF_R49_46 hF) (cl_iconst hG 2 (hx_dq tdX12_keeps_0 23 rfl) iconst_2 (cl_iload_n hG (hx_dq tdX12_keeps_0 24 rfl) rfl (cl_iadd hG (hx_dq tdX12_keeps_0 25 rfl) (cl_aload_n hG (hx_dq tdX12_keeps_0 26 rfl) rfl (cl_getS hG fmX12_20 (hx_dq tdX12_keeps_0 27 rfl) (mF_S49 hF) (mF_R49_9 hF) (cl_iload_n hG (hx_dq tdX12_keeps_0 28 rfl) rfl (cl_iald hG (hx_dq tdX12_keeps_0 29 rfl) (mF_S52 hF) i48_3 (cl_iast hG (hx_dq tdX12_keeps_0 30 rfl) (mF_S78 hF) i49_4 (cl_aload_n hG (hx_dq tdX12_keeps_0 31 rfl) rfl (cl_getS hG fmX12_107 (hx_dq tdX12_keeps_1 0 rfl) (mF_S49 hF) (mF_R49_46 hF) (cl_bipush hG 18 (hx_dq tdX12_keeps_1 1 rfl) bipush_18 (cl_iload_n hG (hx_dq tdX12_keeps_1 2 rfl) rfl (cl_iadd hG (hx_dq tdX12_keeps_1 3 rfl) (cl_aload_n hG (hx_dq tdX12_keeps_1 4 rfl) rfl (cl_getS hG fmX12_23 (hx_dq tdX12_keeps_1 5 rfl) (mF_S49 hF) (mF_R49_10 hF) (cl_iload_n hG (hx_dq tdX12_keeps_1 6 rfl) rfl (cl_iald hG (hx_dq tdX12_keeps_1 7 rfl) (mF_S53 hF) i63_5 (cl_iast hG (hx_dq tdX12_keeps_1 8 rfl) (mF_S78 hF) i64_6 (cl_iinc hG (v1 + 1) (hx_dq tdX12_keeps_1 9 rfl) rfl (congrArg (fun z => v1 + z) iconst_1) (Nat.le_of_ble_eq_true rfl) rfl (cl_goto hG 30 (hx_dq tdX12_keeps_1 10 rfl) rfl (cl_sub hG (hx_le_c rfl (hx_le_c rfl hx_le_0)) (ih (v1 + 1) _ hw)))))))))))))))))))))))
def wX12_keeps_L73  (K : hx_M → Prop)  : Nat → Int32 → hx_M → Prop
  | 0, _, _ => False
  | n + 1, v1, μ => (96 ≤ v1 → (K μ)) ∧ (¬ (96 ≤ v1) → (vp_in v1 96 ∧ vp_in (34 + v1) 130 ∧ wX12_keeps_L73 K n (v1 + 1) (hx_sI μ 78 ((34 + v1).toNatClampNeg) (μ.1 56 v1.toNatClampNeg))))
set_option maxRecDepth 100000 in
set_option maxHeartbeats 4000000 in
theorem kX12_keeps_L73 {G : hx_GT} {KK : hx_KT} (hG : hx_K cX12_keeps 2 0 0 (none) TbX12 KK G) (cA : hx_CA RX12 cX12_keeps 1 0 0 G) {Λ : hx_L} (hF : mF Λ)   {K : hx_M → Prop} (hK : ∀ (m : hx_M), K m → KK none Λ m)  : ∀ (n : Nat) (v1 : Int32) (μ : hx_M), wX12_keeps_L73 K n v1 μ → G Λ μ (0, 0) 73 [some (.ref 49), some (.int v1)] [] := by
  intro n
  induction n with
  | zero =>
    intro v1 μ hw
    exact False.elim (by simpa only [wX12_keeps_L73] using hw)
  | succ n ih =>
    intro v1 μ hw
    unfold wX12_keeps_L73 at hw
    refine cl_iload_n hG (hx_dq tdX12_keeps_1 13 rfl) rfl (cl_bipush hG 96 (hx_dq tdX12_keeps_1 14 rfl) bipush_96 (cl_icmp_ge hG 100 (hx_dq tdX12_keeps_1 15 rfl) rfl (fun c76 => ?_) (fun c76 => ?_)))
    · replace hw := hw.1 c76
      exact cl_vret hG (hx_dq tdX12_keeps_1 28 rfl) rfl (hK _ hw) (Nat.le_refl _) (Nat.le_refl _)
    · replace hw := hw.2 c76
      obtain ⟨i92_8, hw⟩ := hw
      obtain ⟨i93_9, hw⟩ := hw
      exact cl_aload_n hG (hx_dq tdX12_keeps_1 16 rfl) rfl (cl_getS hG fmX12_107 (hx_dq tdX12_keeps_1 17 rfl) (mF_S49 hF) (mF_R49_46 hF) (cl_bipush hG 34 (hx_dq tdX12_keeps_1 18 rfl) bipush_34 (cl_iload_n hG (hx_dq tdX12_keeps_1 19 rfl) rfl (cl_iadd hG (hx_dq tdX12_keeps_1 20 rfl) (cl_aload_n hG (hx_dq tdX12_keeps_1 21 rfl) rfl (cl_getS hG fmX12_32 (hx_dq tdX12_keeps_1 22 rfl) (mF_S49 hF) (mF_R49_13 hF) (cl_iload_n hG (hx_dq tdX12_keeps_1 23 rfl) rfl (cl_iald hG (hx_dq tdX12_keeps_1 24 rfl) (mF_S56 hF) i92_8 (cl_iast hG (hx_dq tdX12_keeps_1 25 rfl) (mF_S78 hF) i93_9 (cl_iinc hG (v1 + 1) (hx_dq tdX12_keeps_1 26 rfl) rfl (congrArg (fun z => v1 + z) iconst_1) (Nat.le_of_ble_eq_true rfl) rfl (cl_goto hG 73 (hx_dq tdX12_keeps_1 27 rfl) rfl (cl_sub hG (hx_le_c rfl (hx_le_c rfl hx_le_0)) (ih (v1 + 1) _ hw)))))))))))))
def wX12_keeps (μ : hx_M)  (K : hx_M → Prop) : Prop := vp_in 0 130 ∧ vp_in 1 130 ∧ ∃ n30_11, wX12_keeps_L30 K (fun m_7 => ∃ n73_10, wX12_keeps_L73 K n73_10 0 m_7) n30_11 0 (hx_sI (hx_sI (hx_sL μ 49 47 (μ.2 49 6)) 78 ((0 : Int32).toNatClampNeg) (μ.1 49 1)) 78 ((1 : Int32).toNatClampNeg) (μ.1 49 2))
set_option maxRecDepth 100000 in
set_option maxHeartbeats 4000000 in
theorem kX12_keeps {G : hx_GT} {KK : hx_KT} (hG : hx_K cX12_keeps 2 0 0 (none) TbX12 KK G) (cA : hx_CA RX12 cX12_keeps 1 0 0 G) {Λ : hx_L} (hF : mF Λ) {μ : hx_M}  {K : hx_M → Prop} (hK : ∀ (m : hx_M), K m → KK none Λ m) (hw : wX12_keeps μ K) : G Λ μ (0, 0) 0 [some (.ref 49), none] [] := by
  unfold wX12_keeps at hw
  obtain ⟨i17_1, hw⟩ := hw
  obtain ⟨i27_2, hw⟩ := hw
  refine cl_aload_n hG (hx_dq tdX12_keeps_0 0 rfl) rfl (cl_aload_n hG (hx_dq tdX12_keeps_0 1 rfl) rfl (cl_getL hG fmX12_7 (hx_dq tdX12_keeps_0 2 rfl) (mF_S49 hF) (cl_putL hG fmX12_371 (hx_dq tdX12_keeps_0 3 rfl) (mF_S49 hF) (cl_aload_n hG (hx_dq tdX12_keeps_0 4 rfl) rfl (cl_getS hG fmX12_107 (hx_dq tdX12_keeps_0 5 rfl) (mF_S49 hF) (mF_R49_46 hF) (cl_iconst hG 0 (hx_dq tdX12_keeps_0 6 rfl) iconst_0 (cl_aload_n hG (hx_dq tdX12_keeps_0 7 rfl) rfl (cl_getI hG fmX12_161 (hx_dq tdX12_keeps_0 8 rfl) (mF_S49 hF) (cl_iast hG (hx_dq tdX12_keeps_0 9 rfl) (mF_S78 hF) i17_1 (cl_aload_n hG (hx_dq tdX12_keeps_0 10 rfl) rfl (cl_getS hG fmX12_107 (hx_dq tdX12_keeps_0 11 rfl) (mF_S49 hF) (mF_R49_46 hF) (cl_iconst hG 1 (hx_dq tdX12_keeps_0 12 rfl) iconst_1 (cl_aload_n hG (hx_dq tdX12_keeps_0 13 rfl) rfl (cl_getI hG fmX12_164 (hx_dq tdX12_keeps_0 14 rfl) (mF_S49 hF) (cl_iast hG (hx_dq tdX12_keeps_0 15 rfl) (mF_S78 hF) i27_2 (cl_iconst hG 0 (hx_dq tdX12_keeps_0 16 rfl) iconst_0 (cl_istore_n hG (hx_dq tdX12_keeps_0 17 rfl) (Nat.le_of_ble_eq_true rfl) rfl ?_)))))))))))))))))
  obtain ⟨n_, hw⟩ := hw
  refine cl_sub hG (hx_le_c rfl (hx_le_c rfl hx_le_0)) (kX12_keeps_L30 hG cA hF hK (fun m_7 hw => ?_) n_ 0 _ hw)
  · refine cl_iconst hG 0 (hx_dq tdX12_keeps_1 11 rfl) iconst_0 (cl_istore_n hG (hx_dq tdX12_keeps_1 12 rfl) (Nat.le_of_ble_eq_true rfl) rfl ?_)
    obtain ⟨n_, hw⟩ := hw
    refine cl_sub hG (hx_le_c rfl (hx_le_c rfl hx_le_0)) (kX12_keeps_L73 hG cA hF hK n_ 0 _ hw)
def sX12_keeps : hx_ST := fun Λ μ as KK => mF Λ ∧ ∃ (K : hx_M → Prop), as = [.ref 49] ∧ wX12_keeps μ K ∧ (∀ (m : hx_M), K m → KK none Λ m)
theorem sX12_keeps_mk {Λ : hx_L} {μ : hx_M} {KK : hx_KT}  {K : hx_M → Prop} (hF : mF Λ) (hw : wX12_keeps μ K) (hk : ∀ (m : hx_M), K m → KK none Λ m) : sX12_keeps Λ μ [.ref 49] KK := ⟨hF, _, rfl, hw, hk⟩
theorem conX12_keeps : hx_Con yX12_keeps cX12_keeps 2 (none) 1 0 0 sX12_keeps := by
  refine hx_con_of (by decide +kernel) tokX12 (by decide) ?_ ?_
  · intro Λ μ as KK h
    obtain ⟨hF, K, rfl, hw, hK⟩ := h
    exact Nat.le_of_ble_eq_true rfl
  · intro G KK hG cA Λ μ as h
    obtain ⟨hF, K, rfl, hw, hK⟩ := h
    exact cl_sub hG (hx_le_c rfl (hx_le_n hx_le_0)) (kX12_keeps hG cA hF hK hw)
/-! HemLineModel.takesBack()V -/
def tbX12_takesBack_0 : List (Nat × Instr × Nat) := [(0, .aload_n 0, 1), (1, .aload_n 0, 1), (2, .getfield 371, 3), (5, .putfield 7, 3), (8, .aload_n 0, 1), (9, .aload_n 0, 1), (10, .getfield 107, 3), (13, .iconst 0, 1), (14, .iaload, 1), (15, .putfield 161, 3), (18, .aload_n 0, 1), (19, .aload_n 0, 1), (20, .getfield 107, 3), (23, .iconst 1, 1), (24, .iaload, 1), (25, .putfield 164, 3), (28, .iconst 0, 1), (29, .istore_n 1, 1), (30, .iload_n 1, 1), (31, .bipush 16, 2), (33, .if_icmp .ge 38, 3), (36, .aload_n 0, 1), (37, .getfield 20, 3), (40, .iload_n 1, 1), (41, .aload_n 0, 1), (42, .getfield 107, 3), (45, .iconst 2, 1), (46, .iload_n 1, 1), (47, .iadd, 1), (48, .iaload, 1), (49, .iastore, 1), (50, .aload_n 0, 1)]
def tbX12_takesBack_1 : List (Nat × Instr × Nat) := [(51, .getfield 23, 3), (54, .iload_n 1, 1), (55, .aload_n 0, 1), (56, .getfield 107, 3), (59, .bipush 18, 2), (61, .iload_n 1, 1), (62, .iadd, 1), (63, .iaload, 1), (64, .iastore, 1), (65, .iinc 1 1, 3), (68, .goto (-38), 3), (71, .iconst 0, 1), (72, .istore_n 1, 1), (73, .iload_n 1, 1), (74, .bipush 96, 2), (76, .if_icmp .ge 24, 3), (79, .aload_n 0, 1), (80, .getfield 32, 3), (83, .iload_n 1, 1), (84, .aload_n 0, 1), (85, .getfield 107, 3), (88, .bipush 34, 2), (90, .iload_n 1, 1), (91, .iadd, 1), (92, .iaload, 1), (93, .iastore, 1), (94, .iinc 1 1, 3), (97, .goto (-24), 3), (100, .return_, 1)]
theorem tdX12_takesBack_0 : hx_dt cX12_takesBack tbX12_takesBack_0 = true := by decide +kernel
theorem tdX12_takesBack_1 : hx_dt cX12_takesBack tbX12_takesBack_1 = true := by decide +kernel
def wX12_takesBack_L30  (K : hx_M → Prop) (K71 : hx_M → Prop) : Nat → Int32 → hx_M → Prop
  | 0, _, _ => False
  | n + 1, v1, μ => (16 ≤ v1 → (K71 μ)) ∧ (¬ (16 ≤ v1) → (vp_in (2 + v1) 130 ∧ vp_in v1 16 ∧ vp_in (18 + v1) 130 ∧ vp_in v1 16 ∧ wX12_takesBack_L30 K K71 n (v1 + 1) (hx_sI (hx_sI μ 52 v1.toNatClampNeg ((μ.1 78 ((2 + v1).toNatClampNeg)))) 53 v1.toNatClampNeg ((μ.1 78 ((18 + v1).toNatClampNeg))))))
set_option maxRecDepth 100000 in
set_option maxHeartbeats 4000000 in
theorem kX12_takesBack_L30 {G : hx_GT} {KK : hx_KT} (hG : hx_K cX12_takesBack 2 0 0 (none) TbX12 KK G) (cA : hx_CA RX12 cX12_takesBack 1 0 0 G) {Λ : hx_L} (hF : mF Λ)   {K : hx_M → Prop} (hK : ∀ (m : hx_M), K m → KK none Λ m) {K71 : hx_M → Prop} (hk71 : ∀ (μ : hx_M), K71 μ → G Λ μ (0, 0) 71 [some (.ref 49), none] []) : ∀ (n : Nat) (v1 : Int32) (μ : hx_M), wX12_takesBack_L30 K K71 n v1 μ → G Λ μ (0, 0) 30 [some (.ref 49), some (.int v1)] [] := by
  intro n
  induction n with
  | zero =>
    intro v1 μ hw
    exact False.elim (by simpa only [wX12_takesBack_L30] using hw)
  | succ n ih =>
    intro v1 μ hw
    unfold wX12_takesBack_L30 at hw
    refine cl_iload_n hG (hx_dq tdX12_takesBack_0 18 rfl) rfl (cl_bipush hG 16 (hx_dq tdX12_takesBack_0 19 rfl) bipush_16 (cl_icmp_ge hG 71 (hx_dq tdX12_takesBack_0 20 rfl) rfl (fun c33 => ?_) (fun c33 => ?_)))
    · replace hw := hw.1 c33
      exact cl_sub hG (hx_le_c rfl (hx_le_n hx_le_0)) (hk71 _ hw)
    · replace hw := hw.2 c33
      obtain ⟨i48_3, hw⟩ := hw
      obtain ⟨i49_4, hw⟩ := hw
      obtain ⟨i63_5, hw⟩ := hw
      obtain ⟨i64_6, hw⟩ := hw
      exact cl_aload_n hG (hx_dq tdX12_takesBack_0 21 rfl) rfl (cl_getS hG fmX12_20 (hx_dq tdX12_takesBack_0 22 rfl) (mF_S49 hF) (mF_R49_9 hF) (cl_iload_n hG (hx_dq tdX12_takesBack_0 23 rfl) rfl (cl_aload_n hG (hx_dq tdX12_takesBack_0 24 rfl) rfl (cl_getS hG fmX12_107 (hx_dq tdX12_takesBack_0 25 rfl) (mF_S49 hF) (mF_R49_46 hF) (cl_iconst hG 2 (hx_dq tdX12_takesBack_0 26 rfl) iconst_2 (cl_iload_n hG (hx_dq tdX12_takesBack_0 27 rfl) rfl (cl_iadd hG (hx_dq tdX12_takesBack_0 28 rfl) (cl_iald hG (hx_dq tdX12_takesBack_0 29 rfl) (mF_S78 hF) i48_3 (cl_iast hG (hx_dq tdX12_takesBack_0 30 rfl) (mF_S52 hF) i49_4 (cl_aload_n hG (hx_dq tdX12_takesBack_0 31 rfl) rfl (cl_getS hG fmX12_23 (hx_dq tdX12_takesBack_1 0 rfl) (mF_S49 hF) (mF_R49_10 hF) (cl_iload_n hG (hx_dq tdX12_takesBack_1 1 rfl) rfl (cl_aload_n hG (hx_dq tdX12_takesBack_1 2 rfl) rfl (cl_getS hG fmX12_107 (hx_dq tdX12_takesBack_1 3 rfl) (mF_S49 hF) (mF_R49_46 hF) (cl_bipush hG 18 (hx_dq tdX12_takesBack_1 4 rfl) bipush_18 (cl_iload_n hG (hx_dq tdX12_takesBack_1 5 rfl) rfl (cl_iadd hG (hx_dq tdX12_takesBack_1 6 rfl) (cl_iald hG (hx_dq tdX12_takesBack_1 7 rfl) (mF_S78 hF) i63_5 (cl_iast hG (hx_dq tdX12_takesBack_1 8 rfl) (mF_S53 hF) i64_6 (cl_iinc hG (v1 + 1) (hx_dq tdX12_takesBack_1 9 rfl) rfl (congrArg (fun z => v1 + z) iconst_1) (Nat.le_of_ble_eq_true rfl) rfl (cl_goto hG 30 (hx_dq tdX12_takesBack_1 10 rfl) rfl (cl_sub hG (hx_le_c rfl (hx_le_c rfl hx_le_0)) (ih (v1 + 1) _ hw)))))))))))))))))))))))
def wX12_takesBack_L73  (K : hx_M → Prop)  : Nat → Int32 → hx_M → Prop
  | 0, _, _ => False
  | n + 1, v1, μ => (96 ≤ v1 → (K μ)) ∧ (¬ (96 ≤ v1) → (vp_in (34 + v1) 130 ∧ vp_in v1 96 ∧ wX12_takesBack_L73 K n (v1 + 1) (hx_sI μ 56 v1.toNatClampNeg ((μ.1 78 ((34 + v1).toNatClampNeg))))))
set_option maxRecDepth 100000 in
set_option maxHeartbeats 4000000 in
theorem kX12_takesBack_L73 {G : hx_GT} {KK : hx_KT} (hG : hx_K cX12_takesBack 2 0 0 (none) TbX12 KK G) (cA : hx_CA RX12 cX12_takesBack 1 0 0 G) {Λ : hx_L} (hF : mF Λ)   {K : hx_M → Prop} (hK : ∀ (m : hx_M), K m → KK none Λ m)  : ∀ (n : Nat) (v1 : Int32) (μ : hx_M), wX12_takesBack_L73 K n v1 μ → G Λ μ (0, 0) 73 [some (.ref 49), some (.int v1)] [] := by
  intro n
  induction n with
  | zero =>
    intro v1 μ hw
    exact False.elim (by simpa only [wX12_takesBack_L73] using hw)
  | succ n ih =>
    intro v1 μ hw
    unfold wX12_takesBack_L73 at hw
    refine cl_iload_n hG (hx_dq tdX12_takesBack_1 13 rfl) rfl (cl_bipush hG 96 (hx_dq tdX12_takesBack_1 14 rfl) bipush_96 (cl_icmp_ge hG 100 (hx_dq tdX12_takesBack_1 15 rfl) rfl (fun c76 => ?_) (fun c76 => ?_)))
    · replace hw := hw.1 c76
      exact cl_vret hG (hx_dq tdX12_takesBack_1 28 rfl) rfl (hK _ hw) (Nat.le_refl _) (Nat.le_refl _)
    · replace hw := hw.2 c76
      obtain ⟨i92_8, hw⟩ := hw
      obtain ⟨i93_9, hw⟩ := hw
      exact cl_aload_n hG (hx_dq tdX12_takesBack_1 16 rfl) rfl (cl_getS hG fmX12_32 (hx_dq tdX12_takesBack_1 17 rfl) (mF_S49 hF) (mF_R49_13 hF) (cl_iload_n hG (hx_dq tdX12_takesBack_1 18 rfl) rfl (cl_aload_n hG (hx_dq tdX12_takesBack_1 19 rfl) rfl (cl_getS hG fmX12_107 (hx_dq tdX12_takesBack_1 20 rfl) (mF_S49 hF) (mF_R49_46 hF) (cl_bipush hG 34 (hx_dq tdX12_takesBack_1 21 rfl) bipush_34 (cl_iload_n hG (hx_dq tdX12_takesBack_1 22 rfl) rfl (cl_iadd hG (hx_dq tdX12_takesBack_1 23 rfl) (cl_iald hG (hx_dq tdX12_takesBack_1 24 rfl) (mF_S78 hF) i92_8 (cl_iast hG (hx_dq tdX12_takesBack_1 25 rfl) (mF_S56 hF) i93_9 (cl_iinc hG (v1 + 1) (hx_dq tdX12_takesBack_1 26 rfl) rfl (congrArg (fun z => v1 + z) iconst_1) (Nat.le_of_ble_eq_true rfl) rfl (cl_goto hG 73 (hx_dq tdX12_takesBack_1 27 rfl) rfl (cl_sub hG (hx_le_c rfl (hx_le_c rfl hx_le_0)) (ih (v1 + 1) _ hw)))))))))))))
def wX12_takesBack (μ : hx_M)  (K : hx_M → Prop) : Prop := vp_in 0 130 ∧ vp_in 1 130 ∧ ∃ n30_11, wX12_takesBack_L30 K (fun m_7 => ∃ n73_10, wX12_takesBack_L73 K n73_10 0 m_7) n30_11 0 (hx_sI (hx_sI (hx_sL μ 49 6 (μ.2 49 47)) 49 1 ((μ.1 78 ((0 : Int32).toNatClampNeg)))) 49 2 ((μ.1 78 ((1 : Int32).toNatClampNeg))))
set_option maxRecDepth 100000 in
set_option maxHeartbeats 4000000 in
theorem kX12_takesBack {G : hx_GT} {KK : hx_KT} (hG : hx_K cX12_takesBack 2 0 0 (none) TbX12 KK G) (cA : hx_CA RX12 cX12_takesBack 1 0 0 G) {Λ : hx_L} (hF : mF Λ) {μ : hx_M}  {K : hx_M → Prop} (hK : ∀ (m : hx_M), K m → KK none Λ m) (hw : wX12_takesBack μ K) : G Λ μ (0, 0) 0 [some (.ref 49), none] [] := by
  unfold wX12_takesBack at hw
  obtain ⟨i14_1, hw⟩ := hw
  obtain ⟨i24_2, hw⟩ := hw
  refine cl_aload_n hG (hx_dq tdX12_takesBack_0 0 rfl) rfl (cl_aload_n hG (hx_dq tdX12_takesBack_0 1 rfl) rfl (cl_getL hG fmX12_371 (hx_dq tdX12_takesBack_0 2 rfl) (mF_S49 hF) (cl_putL hG fmX12_7 (hx_dq tdX12_takesBack_0 3 rfl) (mF_S49 hF) (cl_aload_n hG (hx_dq tdX12_takesBack_0 4 rfl) rfl (cl_aload_n hG (hx_dq tdX12_takesBack_0 5 rfl) rfl (cl_getS hG fmX12_107 (hx_dq tdX12_takesBack_0 6 rfl) (mF_S49 hF) (mF_R49_46 hF) (cl_iconst hG 0 (hx_dq tdX12_takesBack_0 7 rfl) iconst_0 (cl_iald hG (hx_dq tdX12_takesBack_0 8 rfl) (mF_S78 hF) i14_1 (cl_putI hG fmX12_161 (hx_dq tdX12_takesBack_0 9 rfl) (mF_S49 hF) (cl_aload_n hG (hx_dq tdX12_takesBack_0 10 rfl) rfl (cl_aload_n hG (hx_dq tdX12_takesBack_0 11 rfl) rfl (cl_getS hG fmX12_107 (hx_dq tdX12_takesBack_0 12 rfl) (mF_S49 hF) (mF_R49_46 hF) (cl_iconst hG 1 (hx_dq tdX12_takesBack_0 13 rfl) iconst_1 (cl_iald hG (hx_dq tdX12_takesBack_0 14 rfl) (mF_S78 hF) i24_2 (cl_putI hG fmX12_164 (hx_dq tdX12_takesBack_0 15 rfl) (mF_S49 hF) (cl_iconst hG 0 (hx_dq tdX12_takesBack_0 16 rfl) iconst_0 (cl_istore_n hG (hx_dq tdX12_takesBack_0 17 rfl) (Nat.le_of_ble_eq_true rfl) rfl ?_)))))))))))))))))
  obtain ⟨n_, hw⟩ := hw
  refine cl_sub hG (hx_le_c rfl (hx_le_c rfl hx_le_0)) (kX12_takesBack_L30 hG cA hF hK (fun m_7 hw => ?_) n_ 0 _ hw)
  · refine cl_iconst hG 0 (hx_dq tdX12_takesBack_1 11 rfl) iconst_0 (cl_istore_n hG (hx_dq tdX12_takesBack_1 12 rfl) (Nat.le_of_ble_eq_true rfl) rfl ?_)
    obtain ⟨n_, hw⟩ := hw
    refine cl_sub hG (hx_le_c rfl (hx_le_c rfl hx_le_0)) (kX12_takesBack_L73 hG cA hF hK n_ 0 _ hw)
def sX12_takesBack : hx_ST := fun Λ μ as KK => mF Λ ∧ ∃ (K : hx_M → Prop), as = [.ref 49] ∧ wX12_takesBack μ K ∧ (∀ (m : hx_M), K m → KK none Λ m)
theorem sX12_takesBack_mk {Λ : hx_L} {μ : hx_M} {KK : hx_KT}  {K : hx_M → Prop} (hF : mF Λ) (hw : wX12_takesBack μ K) (hk : ∀ (m : hx_M), K m → KK none Λ m) : sX12_takesBack Λ μ [.ref 49] KK := ⟨hF, _, rfl, hw, hk⟩
theorem conX12_takesBack : hx_Con yX12_takesBack cX12_takesBack 2 (none) 1 0 0 sX12_takesBack := by
  refine hx_con_of (by decide +kernel) tokX12 (by decide) ?_ ?_
  · intro Λ μ as KK h
    obtain ⟨hF, K, rfl, hw, hK⟩ := h
    exact Nat.le_of_ble_eq_true rfl
  · intro G KK hG cA Λ μ as h
    obtain ⟨hF, K, rfl, hw, hK⟩ := h
    exact cl_sub hG (hx_le_c rfl (hx_le_n hx_le_0)) (kX12_takesBack hG cA hF hK hw)
/-! HemLineModel.isAlike(II)Z -/
def tbX12_isAlike_0 : List (Nat × Instr × Nat) := [(0, .iconst 1, 1), (1, .istore_n 3, 1), (2, .iconst 0, 1), (3, .istore 4, 2), (5, .iload 4, 2), (7, .aload_n 0, 1), (8, .getfield 154, 3), (11, .if_icmp .ge 36, 3), (14, .iload_n 3, 1), (15, .ifCond .eq 24, 3), (18, .aload_n 0, 1), (19, .iload 4, 2), (21, .iload_n 1, 1), (22, .invokevirtual 302, 3), (25, .aload_n 0, 1), (26, .iload 4, 2), (28, .iload_n 2, 1), (29, .invokevirtual 302, 3), (32, .if_icmp .ne 7, 3), (35, .iconst 1, 1), (36, .goto 4, 3), (39, .iconst 0, 1), (40, .istore_n 3, 1), (41, .iinc 4 1, 3), (44, .goto (-39), 3), (47, .iload_n 3, 1), (48, .ireturn, 1)]
theorem tdX12_isAlike_0 : hx_dt cX12_isAlike tbX12_isAlike_0 = true := by decide +kernel
theorem caX12_isAlike_302 {G : hx_GT} (cA : hx_CA RX12 cX12_isAlike 2 0 0 G) : hx_CV cX12_isAlike G 0 0 302 12 2 sX12_lengthAt 0 0 := cA.1 conX12_lengthAt rfl rfl ⟨by decide +kernel, by decide +kernel, by decide +kernel⟩ mw_1486 mw_1488 mw_54 mw_97 mw_1489 (by decide) (by decide)
def wX12_isAlike_J40 (μ : hx_M) (K : Int32 → Prop) (K5 : Int32 → Int32 → Prop) (v1 : Int32) (v2 : Int32) (v4 : Int32) (t0 : Int32)  : Prop := K5 t0 (v4 + 1)
set_option maxRecDepth 100000 in
set_option maxHeartbeats 4000000 in
theorem kX12_isAlike_J40 {G : hx_GT} {KK : hx_KT} (hG : hx_K cX12_isAlike 5 0 0 (some .boolean) TbX12 KK G) (cA : hx_CA RX12 cX12_isAlike 2 0 0 G) {Λ : hx_L} (hF : mF Λ) {μ : hx_M} (v1 : Int32) (v2 : Int32) (v4 : Int32) (t0 : Int32) {K : Int32 → Prop} (hK : ∀ (r : Int32), K r → KK (some (.int r)) Λ μ) {K5 : Int32 → Int32 → Prop} (hk5 : ∀ (v3 : Int32) (v4 : Int32), K5 v3 v4 → G Λ μ (0, 0) 5 [some (.ref 49), some (.int v1), some (.int v2), some (.int v3), some (.int v4)] []) (hw : wX12_isAlike_J40 μ K K5 v1 v2 v4 t0) : G Λ μ (0, 0) 40 [some (.ref 49), some (.int v1), some (.int v2), none, some (.int v4)] [.int t0] := by
  unfold wX12_isAlike_J40 at hw
  exact cl_istore_n hG (hx_dq tdX12_isAlike_0 22 rfl) (Nat.le_of_ble_eq_true rfl) rfl (cl_iinc hG (v4 + 1) (hx_dq tdX12_isAlike_0 23 rfl) rfl (congrArg (fun z => v4 + z) iconst_1) (Nat.le_of_ble_eq_true rfl) rfl (cl_goto hG 5 (hx_dq tdX12_isAlike_0 24 rfl) rfl (cl_sub hG (hx_le_c rfl (hx_le_c rfl (hx_le_c rfl (hx_le_c rfl (hx_le_c rfl hx_le_0))))) (hk5 t0 (v4 + 1) hw))))
def wX12_isAlike_J39 (μ : hx_M) (K : Int32 → Prop) (K5 : Int32 → Int32 → Prop) (v1 : Int32) (v2 : Int32) (v4 : Int32)   : Prop := wX12_isAlike_J40 μ K (K5) v1 v2 v4 0
set_option maxRecDepth 100000 in
set_option maxHeartbeats 4000000 in
theorem kX12_isAlike_J39 {G : hx_GT} {KK : hx_KT} (hG : hx_K cX12_isAlike 5 0 0 (some .boolean) TbX12 KK G) (cA : hx_CA RX12 cX12_isAlike 2 0 0 G) {Λ : hx_L} (hF : mF Λ) {μ : hx_M} (v1 : Int32) (v2 : Int32) (v4 : Int32)  {K : Int32 → Prop} (hK : ∀ (r : Int32), K r → KK (some (.int r)) Λ μ) {K5 : Int32 → Int32 → Prop} (hk5 : ∀ (v3 : Int32) (v4 : Int32), K5 v3 v4 → G Λ μ (0, 0) 5 [some (.ref 49), some (.int v1), some (.int v2), some (.int v3), some (.int v4)] []) (hw : wX12_isAlike_J39 μ K K5 v1 v2 v4) : G Λ μ (0, 0) 39 [some (.ref 49), some (.int v1), some (.int v2), none, some (.int v4)] [] := by
  unfold wX12_isAlike_J39 at hw
  refine cl_iconst hG 0 (hx_dq tdX12_isAlike_0 21 rfl) iconst_0 ?_
  exact cl_sub hG (hx_le_c rfl (hx_le_c rfl (hx_le_c rfl (hx_le_n (hx_le_c rfl hx_le_0))))) (kX12_isAlike_J40 hG cA hF v1 v2 v4 0 hK (fun z0 z1 hw => hk5 z0 z1 hw) hw)
def wX12_isAlike_J40_5 (μ : hx_M) (K : Int32 → Prop) (K5 : Int32 → Int32 → Prop) (v1 : Int32) (v2 : Int32) (v4 : Int32) (t0 : Int32)  : Prop := K5 t0 (v4 + 1)
set_option maxRecDepth 100000 in
set_option maxHeartbeats 4000000 in
theorem kX12_isAlike_J40_5 {G : hx_GT} {KK : hx_KT} (hG : hx_K cX12_isAlike 5 0 0 (some .boolean) TbX12 KK G) (cA : hx_CA RX12 cX12_isAlike 2 0 0 G) {Λ : hx_L} (hF : mF Λ) {μ : hx_M} (v1 : Int32) (v2 : Int32) (v4 : Int32) (t0 : Int32) {K : Int32 → Prop} (hK : ∀ (r : Int32), K r → KK (some (.int r)) Λ μ) {K5 : Int32 → Int32 → Prop} (hk5 : ∀ (v3 : Int32) (v4 : Int32), K5 v3 v4 → G Λ μ (0, 0) 5 [some (.ref 49), some (.int v1), some (.int v2), some (.int v3), some (.int v4)] []) (hw : wX12_isAlike_J40_5 μ K K5 v1 v2 v4 t0) : G Λ μ (0, 0) 40 [some (.ref 49), some (.int v1), some (.int v2), none, some (.int v4)] [.int t0] := by
  unfold wX12_isAlike_J40_5 at hw
  exact cl_istore_n hG (hx_dq tdX12_isAlike_0 22 rfl) (Nat.le_of_ble_eq_true rfl) rfl (cl_iinc hG (v4 + 1) (hx_dq tdX12_isAlike_0 23 rfl) rfl (congrArg (fun z => v4 + z) iconst_1) (Nat.le_of_ble_eq_true rfl) rfl (cl_goto hG 5 (hx_dq tdX12_isAlike_0 24 rfl) rfl (cl_sub hG (hx_le_c rfl (hx_le_c rfl (hx_le_c rfl (hx_le_c rfl (hx_le_c rfl hx_le_0))))) (hk5 t0 (v4 + 1) hw))))
def wX12_isAlike_L5 (μ : hx_M) (v1 : Int32) (v2 : Int32) (K : Int32 → Prop)  : Nat → Int32 → Int32 → Prop
  | 0, _, _ => False
  | n + 1, v3, v4 => ((μ.1 49 0) ≤ v4 → ((v3 = 0 ∨ v3 = 1) ∧ K v3)) ∧ (¬ ((μ.1 49 0) ≤ v4) → ((v3 = 0 → (wX12_isAlike_J39 μ K (wX12_isAlike_L5 μ v1 v2 K n) v1 v2 v4)) ∧ (¬ (v3 = 0) → (wX12_lengthAt μ v4 v1 (fun r22_2 => wX12_lengthAt μ v4 v2 (fun r29_4 => (r22_2 ≠ r29_4 → (wX12_isAlike_J39 μ K (wX12_isAlike_L5 μ v1 v2 K n) v1 v2 v4)) ∧ (r22_2 = r29_4 → (wX12_isAlike_J40_5 μ K (wX12_isAlike_L5 μ v1 v2 K n) v1 v2 v4 1))))))))
set_option maxRecDepth 100000 in
set_option maxHeartbeats 4000000 in
theorem kX12_isAlike_L5 {G : hx_GT} {KK : hx_KT} (hG : hx_K cX12_isAlike 5 0 0 (some .boolean) TbX12 KK G) (cA : hx_CA RX12 cX12_isAlike 2 0 0 G) {Λ : hx_L} (hF : mF Λ) {μ : hx_M} (v1 : Int32) (v2 : Int32) {K : Int32 → Prop} (hK : ∀ (r : Int32), K r → KK (some (.int r)) Λ μ)  : ∀ (n : Nat) (v3 : Int32) (v4 : Int32), wX12_isAlike_L5 μ v1 v2 K n v3 v4 → G Λ μ (0, 0) 5 [some (.ref 49), some (.int v1), some (.int v2), some (.int v3), some (.int v4)] [] := by
  intro n
  induction n with
  | zero =>
    intro v3 v4 hw
    exact False.elim (by simpa only [wX12_isAlike_L5] using hw)
  | succ n ih =>
    intro v3 v4 hw
    unfold wX12_isAlike_L5 at hw
    refine cl_iload hG (hx_dq tdX12_isAlike_0 4 rfl) rfl (cl_aload_n hG (hx_dq tdX12_isAlike_0 5 rfl) rfl (cl_getI hG fmX12_154 (hx_dq tdX12_isAlike_0 6 rfl) (mF_S49 hF) (cl_icmp_ge hG 47 (hx_dq tdX12_isAlike_0 7 rfl) rfl (fun c11 => ?_) (fun c11 => ?_))))
    · replace hw := hw.1 c11
      obtain ⟨b48, hw⟩ := hw
      exact cl_iload_n hG (hx_dq tdX12_isAlike_0 25 rfl) rfl (cl_iret hG (hx_dq tdX12_isAlike_0 26 rfl) rfl (hx_nb b48) (hK _ hw) (Nat.le_refl _) (Nat.le_refl _))
    · replace hw := hw.2 c11
      refine cl_iload_n hG (hx_dq tdX12_isAlike_0 8 rfl) rfl (cl_if_eq hG 39 (hx_dq tdX12_isAlike_0 9 rfl) rfl (fun c15 => ?_) (fun c15 => ?_))
      · replace hw := hw.1 c15
        exact cl_sub hG (hx_le_c rfl (hx_le_c rfl (hx_le_c rfl (hx_le_n (hx_le_c rfl hx_le_0))))) (kX12_isAlike_J39 hG cA hF v1 v2 v4 hK (fun z0 z1 hw => ih z0 z1 hw) hw)
      · replace hw := hw.2 c15
        refine cl_aload_n hG (hx_dq tdX12_isAlike_0 10 rfl) rfl (cl_iload hG (hx_dq tdX12_isAlike_0 11 rfl) rfl (cl_iload_n hG (hx_dq tdX12_isAlike_0 12 rfl) rfl (cl_callV2 (caX12_isAlike_302 cA) (hx_dq tdX12_isAlike_0 13 rfl) (mF_S49 hF) (Nat.le_of_ble_eq_true rfl) (Nat.le_refl _) (Nat.le_refl _) (sX12_lengthAt_mk hF hw (fun r22_2 hw => ?_)))))
        refine cl_aload_n hG (hx_dq tdX12_isAlike_0 14 rfl) rfl (cl_iload hG (hx_dq tdX12_isAlike_0 15 rfl) rfl (cl_iload_n hG (hx_dq tdX12_isAlike_0 16 rfl) rfl (cl_callV2 (caX12_isAlike_302 cA) (hx_dq tdX12_isAlike_0 17 rfl) (mF_S49 hF) (Nat.le_of_ble_eq_true rfl) (Nat.le_refl _) (Nat.le_refl _) (sX12_lengthAt_mk hF hw (fun r29_4 hw => ?_)))))
        refine cl_icmp_ne hG 39 (hx_dq tdX12_isAlike_0 18 rfl) rfl (fun c32 => ?_) (fun c32 => ?_)
        · replace hw := hw.1 c32
          exact cl_sub hG (hx_le_c rfl (hx_le_c rfl (hx_le_c rfl (hx_le_n (hx_le_c rfl hx_le_0))))) (kX12_isAlike_J39 hG cA hF v1 v2 v4 hK (fun z0 z1 hw => ih z0 z1 hw) hw)
        · replace hw := hw.2 c32
          refine cl_iconst hG 1 (hx_dq tdX12_isAlike_0 19 rfl) iconst_1 (cl_goto hG 40 (hx_dq tdX12_isAlike_0 20 rfl) rfl ?_)
          exact cl_sub hG (hx_le_c rfl (hx_le_c rfl (hx_le_c rfl (hx_le_n (hx_le_c rfl hx_le_0))))) (kX12_isAlike_J40_5 hG cA hF v1 v2 v4 1 hK (fun z0 z1 hw => ih z0 z1 hw) hw)
def wX12_isAlike (μ : hx_M) (v1 : Int32) (v2 : Int32) (K : Int32 → Prop) : Prop := ∃ n5_6, wX12_isAlike_L5 μ v1 v2 K n5_6 1 0
set_option maxRecDepth 100000 in
set_option maxHeartbeats 4000000 in
theorem kX12_isAlike {G : hx_GT} {KK : hx_KT} (hG : hx_K cX12_isAlike 5 0 0 (some .boolean) TbX12 KK G) (cA : hx_CA RX12 cX12_isAlike 2 0 0 G) {Λ : hx_L} (hF : mF Λ) {μ : hx_M} (v1 : Int32) (v2 : Int32) {K : Int32 → Prop} (hK : ∀ (r : Int32), K r → KK (some (.int r)) Λ μ) (hw : wX12_isAlike μ v1 v2 K) : G Λ μ (0, 0) 0 [some (.ref 49), some (.int v1), some (.int v2), none, none] [] := by
  unfold wX12_isAlike at hw
  refine cl_iconst hG 1 (hx_dq tdX12_isAlike_0 0 rfl) iconst_1 (cl_istore_n hG (hx_dq tdX12_isAlike_0 1 rfl) (Nat.le_of_ble_eq_true rfl) rfl (cl_iconst hG 0 (hx_dq tdX12_isAlike_0 2 rfl) iconst_0 (cl_istore hG (hx_dq tdX12_isAlike_0 3 rfl) (Nat.le_of_ble_eq_true rfl) rfl ?_)))
  obtain ⟨n_, hw⟩ := hw
  refine cl_sub hG (hx_le_c rfl (hx_le_c rfl (hx_le_c rfl (hx_le_c rfl (hx_le_c rfl hx_le_0))))) (kX12_isAlike_L5 hG cA hF v1 v2 hK n_ 1 0 hw)
def sX12_isAlike : hx_ST := fun Λ μ as KK => mF Λ ∧ ∃ (v1 : Int32) (v2 : Int32) (K : Int32 → Prop), as = [.ref 49, .int v1, .int v2] ∧ wX12_isAlike μ v1 v2 K ∧ (∀ (r : Int32), K r → KK (some (.int r)) Λ μ)
theorem sX12_isAlike_mk {Λ : hx_L} {μ : hx_M} {KK : hx_KT} {v1 : Int32} {v2 : Int32} {K : Int32 → Prop} (hF : mF Λ) (hw : wX12_isAlike μ v1 v2 K) (hk : ∀ (r : Int32), K r → KK (some (.int r)) Λ μ) : sX12_isAlike Λ μ [.ref 49, .int v1, .int v2] KK := ⟨hF, _, _, _, rfl, hw, hk⟩
theorem conX12_isAlike : hx_Con yX12_isAlike cX12_isAlike 5 (some .boolean) 2 0 0 sX12_isAlike := by
  refine hx_con_of (by decide +kernel) tokX12 (by decide) ?_ ?_
  · intro Λ μ as KK h
    obtain ⟨hF, v1, v2, K, rfl, hw, hK⟩ := h
    exact Nat.le_of_ble_eq_true rfl
  · intro G KK hG cA Λ μ as h
    obtain ⟨hF, v1, v2, K, rfl, hw, hK⟩ := h
    exact cl_sub hG (hx_le_c rfl (hx_le_c rfl (hx_le_c rfl (hx_le_n (hx_le_n hx_le_0))))) (kX12_isAlike hG cA hF _ _ hK hw)
/-! HemLineModel.tries(IIII)V -/
def tbX12_tries_0 : List (Nat × Instr × Nat) := [(0, .aload_n 0, 1), (1, .invokevirtual 374, 3), (4, .aload_n 0, 1), (5, .getfield 161, 3), (8, .istore 5, 2), (10, .aload_n 0, 1), (11, .getfield 164, 3), (14, .istore 6, 2), (16, .aload_n 0, 1), (17, .iconst (-1), 1), (18, .putfield 377, 3), (21, .aload_n 0, 1), (22, .iconst (-1), 1), (23, .putfield 380, 3), (26, .iconst 1, 1), (27, .istore 7, 2), (29, .iload 7, 2), (31, .iload_n 1, 1), (32, .if_icmp .gt 114, 3), (35, .aload_n 0, 1), (36, .getfield 377, 3), (39, .iconst (-1), 1), (40, .if_icmp .ne 106, 3), (43, .iload_n 3, 1), (44, .iconst (-1), 1), (45, .if_icmp .eq 24, 3), (48, .aload_n 0, 1), (49, .iload 7, 2), (51, .iconst 1, 1), (52, .isub, 1), (53, .iload_n 2, 1), (54, .idiv, 1)]
def tbX12_tries_1 : List (Nat × Instr × Nat) := [(55, .iconst 2, 1), (56, .irem, 1), (57, .ifCond .ne 7, 3), (60, .iload_n 3, 1), (61, .goto 5, 3), (64, .iload 6, 2), (66, .putfield 164, 3), (69, .aload_n 0, 1), (70, .invokevirtual 359, 3), (73, .aload_n 0, 1), (74, .getfield 161, 3), (77, .iload 4, 2), (79, .isub, 1), (80, .istore 8, 2), (82, .iload 8, 2), (84, .iload 5, 2), (86, .if_icmp .lt 54, 3), (89, .aload_n 0, 1), (90, .getfield 377, 3), (93, .iconst (-1), 1), (94, .if_icmp .ne 46, 3), (97, .aload_n 0, 1), (98, .iload 8, 2), (100, .aload_n 0, 1), (101, .getfield 161, 3), (104, .invokevirtual 383, 3), (107, .ifCond .ne 6, 3), (110, .goto 20, 3), (113, .aload_n 0, 1), (114, .iload 7, 2), (116, .putfield 377, 3), (119, .aload_n 0, 1)]
def tbX12_tries_2 : List (Nat × Instr × Nat) := [(120, .aload_n 0, 1), (121, .getfield 161, 3), (124, .iload 8, 2), (126, .isub, 1), (127, .putfield 380, 3), (130, .iload 8, 2), (132, .iload 4, 2), (134, .isub, 1), (135, .istore 8, 2), (137, .goto (-55), 3), (140, .iinc 7 1, 3), (143, .goto (-114), 3), (146, .aload_n 0, 1), (147, .invokevirtual 386, 3), (150, .return_, 1)]
theorem tdX12_tries_0 : hx_dt cX12_tries tbX12_tries_0 = true := by decide +kernel
theorem tdX12_tries_1 : hx_dt cX12_tries tbX12_tries_1 = true := by decide +kernel
theorem tdX12_tries_2 : hx_dt cX12_tries tbX12_tries_2 = true := by decide +kernel
theorem caX12_tries_359 {G : hx_GT} (cA : hx_CA RX12 cX12_tries 7 0 0 G) : hx_CV cX12_tries G 0 0 359 12 0 sX12_step 0 0 := cA.1 conX12_step rfl rfl ⟨by decide +kernel, by decide +kernel, by decide +kernel⟩ mw_1470 mw_1472 mw_51 mw_97 mw_1473 (by decide) (by decide)
theorem caX12_tries_374 {G : hx_GT} (cA : hx_CA RX12 cX12_tries 7 0 0 G) : hx_CV cX12_tries G 0 0 374 12 0 sX12_keeps 0 0 := cA.1 conX12_keeps rfl rfl ⟨by decide +kernel, by decide +kernel, by decide +kernel⟩ mw_1563 mw_1565 mw_68 mw_97 mw_1566 (by decide) (by decide)
theorem caX12_tries_383 {G : hx_GT} (cA : hx_CA RX12 cX12_tries 7 0 0 G) : hx_CV cX12_tries G 0 0 383 12 2 sX12_isAlike 0 0 := cA.1 conX12_isAlike rfl rfl ⟨by decide +kernel, by decide +kernel, by decide +kernel⟩ mw_1567 mw_1569 mw_69 mw_97 mw_1570 (by decide) (by decide)
theorem caX12_tries_386 {G : hx_GT} (cA : hx_CA RX12 cX12_tries 7 0 0 G) : hx_CV cX12_tries G 0 0 386 12 0 sX12_takesBack 0 0 := cA.1 conX12_takesBack rfl rfl ⟨by decide +kernel, by decide +kernel, by decide +kernel⟩ mw_1571 mw_1573 mw_70 mw_97 mw_1574 (by decide) (by decide)
def wX12_tries_J130  (K : hx_M → Prop) (K82 : Int32 → hx_M → Prop) (v1 : Int32) (v2 : Int32) (v3 : Int32) (v4 : Int32) (v5 : Int32) (v6 : Int32) (v7 : Int32) (v8 : Int32)  (μ : hx_M) : Prop := K82 (v8 - v4) μ
set_option maxRecDepth 100000 in
set_option maxHeartbeats 4000000 in
theorem kX12_tries_J130 {G : hx_GT} {KK : hx_KT} (hG : hx_K cX12_tries 9 0 0 (none) TbX12 KK G) (cA : hx_CA RX12 cX12_tries 7 0 0 G) {Λ : hx_L} (hF : mF Λ) {μ : hx_M} (v1 : Int32) (v2 : Int32) (v3 : Int32) (v4 : Int32) (v5 : Int32) (v6 : Int32) (v7 : Int32) (v8 : Int32)  {K : hx_M → Prop} (hK : ∀ (m : hx_M), K m → KK none Λ m) {K82 : Int32 → hx_M → Prop} (hk82 : ∀ (v8 : Int32) (μ : hx_M), K82 v8 μ → G Λ μ (0, 0) 82 [some (.ref 49), some (.int v1), some (.int v2), some (.int v3), some (.int v4), some (.int v5), some (.int v6), some (.int v7), some (.int v8)] []) (hw : wX12_tries_J130 K K82 v1 v2 v3 v4 v5 v6 v7 v8 μ) : G Λ μ (0, 0) 130 [some (.ref 49), some (.int v1), some (.int v2), some (.int v3), some (.int v4), some (.int v5), some (.int v6), some (.int v7), some (.int v8)] [] := by
  unfold wX12_tries_J130 at hw
  exact cl_iload hG (hx_dq tdX12_tries_2 5 rfl) rfl (cl_iload hG (hx_dq tdX12_tries_2 6 rfl) rfl (cl_isub hG (hx_dq tdX12_tries_2 7 rfl) (cl_istore hG (hx_dq tdX12_tries_2 8 rfl) (Nat.le_of_ble_eq_true rfl) rfl (cl_goto hG 82 (hx_dq tdX12_tries_2 9 rfl) rfl (cl_sub hG (hx_le_c rfl (hx_le_c rfl (hx_le_c rfl (hx_le_c rfl (hx_le_c rfl (hx_le_c rfl (hx_le_c rfl (hx_le_c rfl (hx_le_c rfl hx_le_0))))))))) (hk82 (v8 - v4) _ hw))))))
def wX12_tries_L82 (v1 : Int32) (v2 : Int32) (v3 : Int32) (v4 : Int32) (v5 : Int32) (v6 : Int32) (v7 : Int32) (K : hx_M → Prop) (K140 : hx_M → Prop) : Nat → Int32 → hx_M → Prop
  | 0, _, _ => False
  | n + 1, v8, μ => (v8 < v5 → (K140 μ)) ∧ (¬ (v8 < v5) → (((μ.1 49 48) ≠ (-1) → (K140 μ)) ∧ ((μ.1 49 48) = (-1) → (wX12_isAlike μ v8 (μ.1 49 1) (fun r104_6 => (r104_6 ≠ 0 → (wX12_tries_J130 K (wX12_tries_L82 v1 v2 v3 v4 v5 v6 v7 K K140 n) v1 v2 v3 v4 v5 v6 v7 v8 (hx_sI (hx_sI μ 49 48 v7) 49 49 ((μ.1 49 1) - v8)))) ∧ (r104_6 = 0 → (wX12_tries_J130 K (wX12_tries_L82 v1 v2 v3 v4 v5 v6 v7 K K140 n) v1 v2 v3 v4 v5 v6 v7 v8 μ)))))))
set_option maxRecDepth 100000 in
set_option maxHeartbeats 4000000 in
theorem kX12_tries_L82 {G : hx_GT} {KK : hx_KT} (hG : hx_K cX12_tries 9 0 0 (none) TbX12 KK G) (cA : hx_CA RX12 cX12_tries 7 0 0 G) {Λ : hx_L} (hF : mF Λ)  (v1 : Int32) (v2 : Int32) (v3 : Int32) (v4 : Int32) (v5 : Int32) (v6 : Int32) (v7 : Int32) {K : hx_M → Prop} (hK : ∀ (m : hx_M), K m → KK none Λ m) {K140 : hx_M → Prop} (hk140 : ∀ (μ : hx_M), K140 μ → G Λ μ (0, 0) 140 [some (.ref 49), some (.int v1), some (.int v2), some (.int v3), some (.int v4), some (.int v5), some (.int v6), some (.int v7), none] []) : ∀ (n : Nat) (v8 : Int32) (μ : hx_M), wX12_tries_L82 v1 v2 v3 v4 v5 v6 v7 K K140 n v8 μ → G Λ μ (0, 0) 82 [some (.ref 49), some (.int v1), some (.int v2), some (.int v3), some (.int v4), some (.int v5), some (.int v6), some (.int v7), some (.int v8)] [] := by
  intro n
  induction n with
  | zero =>
    intro v8 μ hw
    exact False.elim (by simpa only [wX12_tries_L82] using hw)
  | succ n ih =>
    intro v8 μ hw
    unfold wX12_tries_L82 at hw
    refine cl_iload hG (hx_dq tdX12_tries_1 14 rfl) rfl (cl_iload hG (hx_dq tdX12_tries_1 15 rfl) rfl (cl_icmp_lt hG 140 (hx_dq tdX12_tries_1 16 rfl) rfl (fun c86 => ?_) (fun c86 => ?_)))
    · replace hw := hw.1 c86
      exact cl_sub hG (hx_le_c rfl (hx_le_c rfl (hx_le_c rfl (hx_le_c rfl (hx_le_c rfl (hx_le_c rfl (hx_le_c rfl (hx_le_c rfl (hx_le_n hx_le_0))))))))) (hk140 _ hw)
    · replace hw := hw.2 c86
      refine cl_aload_n hG (hx_dq tdX12_tries_1 17 rfl) rfl (cl_getI hG fmX12_377 (hx_dq tdX12_tries_1 18 rfl) (mF_S49 hF) (cl_iconst hG (-1) (hx_dq tdX12_tries_1 19 rfl) iconst_m1 (cl_icmp_ne hG 140 (hx_dq tdX12_tries_1 20 rfl) rfl (fun c94 => ?_) (fun c94 => ?_))))
      · replace hw := hw.1 c94
        exact cl_sub hG (hx_le_c rfl (hx_le_c rfl (hx_le_c rfl (hx_le_c rfl (hx_le_c rfl (hx_le_c rfl (hx_le_c rfl (hx_le_c rfl (hx_le_n hx_le_0))))))))) (hk140 _ hw)
      · replace hw := hw.2 c94
        refine cl_aload_n hG (hx_dq tdX12_tries_1 21 rfl) rfl (cl_iload hG (hx_dq tdX12_tries_1 22 rfl) rfl (cl_aload_n hG (hx_dq tdX12_tries_1 23 rfl) rfl (cl_getI hG fmX12_161 (hx_dq tdX12_tries_1 24 rfl) (mF_S49 hF) (cl_callV2 (caX12_tries_383 cA) (hx_dq tdX12_tries_1 25 rfl) (mF_S49 hF) (Nat.le_of_ble_eq_true rfl) (Nat.le_refl _) (Nat.le_refl _) (sX12_isAlike_mk hF hw (fun r104_6 hw => ?_))))))
        refine cl_if_ne hG 113 (hx_dq tdX12_tries_1 26 rfl) rfl (fun c107 => ?_) (fun c107 => ?_)
        · replace hw := hw.1 c107
          refine cl_aload_n hG (hx_dq tdX12_tries_1 28 rfl) rfl (cl_iload hG (hx_dq tdX12_tries_1 29 rfl) rfl (cl_putI hG fmX12_377 (hx_dq tdX12_tries_1 30 rfl) (mF_S49 hF) (cl_aload_n hG (hx_dq tdX12_tries_1 31 rfl) rfl (cl_aload_n hG (hx_dq tdX12_tries_2 0 rfl) rfl (cl_getI hG fmX12_161 (hx_dq tdX12_tries_2 1 rfl) (mF_S49 hF) (cl_iload hG (hx_dq tdX12_tries_2 2 rfl) rfl (cl_isub hG (hx_dq tdX12_tries_2 3 rfl) (cl_putI hG fmX12_380 (hx_dq tdX12_tries_2 4 rfl) (mF_S49 hF) ?_))))))))
          exact cl_sub hG (hx_le_c rfl (hx_le_c rfl (hx_le_c rfl (hx_le_c rfl (hx_le_c rfl (hx_le_c rfl (hx_le_c rfl (hx_le_c rfl (hx_le_c rfl hx_le_0))))))))) (kX12_tries_J130 hG cA hF v1 v2 v3 v4 v5 v6 v7 v8 hK (fun z0 z1 hw => ih z0 z1 hw) hw)
        · replace hw := hw.2 c107
          refine cl_goto hG 130 (hx_dq tdX12_tries_1 27 rfl) rfl ?_
          exact cl_sub hG (hx_le_c rfl (hx_le_c rfl (hx_le_c rfl (hx_le_c rfl (hx_le_c rfl (hx_le_c rfl (hx_le_c rfl (hx_le_c rfl (hx_le_c rfl hx_le_0))))))))) (kX12_tries_J130 hG cA hF v1 v2 v3 v4 v5 v6 v7 v8 hK (fun z0 z1 hw => ih z0 z1 hw) hw)
def wX12_tries_J140  (K : hx_M → Prop) (K29 : Int32 → hx_M → Prop) (v1 : Int32) (v2 : Int32) (v3 : Int32) (v4 : Int32) (v5 : Int32) (v6 : Int32) (v7 : Int32)  (μ : hx_M) : Prop := K29 (v7 + 1) μ
set_option maxRecDepth 100000 in
set_option maxHeartbeats 4000000 in
theorem kX12_tries_J140 {G : hx_GT} {KK : hx_KT} (hG : hx_K cX12_tries 9 0 0 (none) TbX12 KK G) (cA : hx_CA RX12 cX12_tries 7 0 0 G) {Λ : hx_L} (hF : mF Λ) {μ : hx_M} (v1 : Int32) (v2 : Int32) (v3 : Int32) (v4 : Int32) (v5 : Int32) (v6 : Int32) (v7 : Int32)  {K : hx_M → Prop} (hK : ∀ (m : hx_M), K m → KK none Λ m) {K29 : Int32 → hx_M → Prop} (hk29 : ∀ (v7 : Int32) (μ : hx_M), K29 v7 μ → G Λ μ (0, 0) 29 [some (.ref 49), some (.int v1), some (.int v2), some (.int v3), some (.int v4), some (.int v5), some (.int v6), some (.int v7), none] []) (hw : wX12_tries_J140 K K29 v1 v2 v3 v4 v5 v6 v7 μ) : G Λ μ (0, 0) 140 [some (.ref 49), some (.int v1), some (.int v2), some (.int v3), some (.int v4), some (.int v5), some (.int v6), some (.int v7), none] [] := by
  unfold wX12_tries_J140 at hw
  exact cl_iinc hG (v7 + 1) (hx_dq tdX12_tries_2 10 rfl) rfl (congrArg (fun z => v7 + z) iconst_1) (Nat.le_of_ble_eq_true rfl) rfl (cl_goto hG 29 (hx_dq tdX12_tries_2 11 rfl) rfl (cl_sub hG (hx_le_c rfl (hx_le_c rfl (hx_le_c rfl (hx_le_c rfl (hx_le_c rfl (hx_le_c rfl (hx_le_c rfl (hx_le_c rfl (hx_le_n hx_le_0))))))))) (hk29 (v7 + 1) _ hw)))
def wX12_tries_J69  (K : hx_M → Prop) (K29 : Int32 → hx_M → Prop) (v1 : Int32) (v2 : Int32) (v3 : Int32) (v4 : Int32) (v5 : Int32) (v6 : Int32) (v7 : Int32)  (μ : hx_M) : Prop := wX12_step μ (fun m70_3 => ∃ n82_8, wX12_tries_L82 v1 v2 v3 v4 v5 v6 v7 K (fun m_7 => wX12_tries_J140 K (K29) v1 v2 v3 v4 v5 v6 v7 m_7) n82_8 ((m70_3.1 49 1) - v4) m70_3)
set_option maxRecDepth 100000 in
set_option maxHeartbeats 4000000 in
theorem kX12_tries_J69 {G : hx_GT} {KK : hx_KT} (hG : hx_K cX12_tries 9 0 0 (none) TbX12 KK G) (cA : hx_CA RX12 cX12_tries 7 0 0 G) {Λ : hx_L} (hF : mF Λ) {μ : hx_M} (v1 : Int32) (v2 : Int32) (v3 : Int32) (v4 : Int32) (v5 : Int32) (v6 : Int32) (v7 : Int32)  {K : hx_M → Prop} (hK : ∀ (m : hx_M), K m → KK none Λ m) {K29 : Int32 → hx_M → Prop} (hk29 : ∀ (v7 : Int32) (μ : hx_M), K29 v7 μ → G Λ μ (0, 0) 29 [some (.ref 49), some (.int v1), some (.int v2), some (.int v3), some (.int v4), some (.int v5), some (.int v6), some (.int v7), none] []) (hw : wX12_tries_J69 K K29 v1 v2 v3 v4 v5 v6 v7 μ) : G Λ μ (0, 0) 69 [some (.ref 49), some (.int v1), some (.int v2), some (.int v3), some (.int v4), some (.int v5), some (.int v6), some (.int v7), none] [] := by
  unfold wX12_tries_J69 at hw
  refine cl_aload_n hG (hx_dq tdX12_tries_1 7 rfl) rfl (cl_callV0 (caX12_tries_359 cA) (hx_dq tdX12_tries_1 8 rfl) (mF_S49 hF) (Nat.le_of_ble_eq_true rfl) (Nat.le_refl _) (Nat.le_refl _) (sX12_step_mk hF hw (fun m70_3 hw => ?_)))
  refine cl_aload_n hG (hx_dq tdX12_tries_1 9 rfl) rfl (cl_getI hG fmX12_161 (hx_dq tdX12_tries_1 10 rfl) (mF_S49 hF) (cl_iload hG (hx_dq tdX12_tries_1 11 rfl) rfl (cl_isub hG (hx_dq tdX12_tries_1 12 rfl) (cl_istore hG (hx_dq tdX12_tries_1 13 rfl) (Nat.le_of_ble_eq_true rfl) rfl ?_))))
  obtain ⟨n_, hw⟩ := hw
  refine cl_sub hG (hx_le_c rfl (hx_le_c rfl (hx_le_c rfl (hx_le_c rfl (hx_le_c rfl (hx_le_c rfl (hx_le_c rfl (hx_le_c rfl (hx_le_c rfl hx_le_0))))))))) (kX12_tries_L82 hG cA hF v1 v2 v3 v4 v5 v6 v7 hK (fun m_7 hw => ?_) n_ ((m70_3.1 49 1) - v4) _ hw)
  · exact cl_sub hG (hx_le_c rfl (hx_le_c rfl (hx_le_c rfl (hx_le_c rfl (hx_le_c rfl (hx_le_c rfl (hx_le_c rfl (hx_le_c rfl (hx_le_n hx_le_0))))))))) (kX12_tries_J140 hG cA hF v1 v2 v3 v4 v5 v6 v7 hK (fun z0 z1 hw => hk29 z0 z1 hw) hw)
def wX12_tries_J140_13  (K : hx_M → Prop) (K29 : Int32 → hx_M → Prop) (v1 : Int32) (v2 : Int32) (v3 : Int32) (v4 : Int32) (v5 : Int32) (v6 : Int32) (v7 : Int32)  (μ : hx_M) : Prop := K29 (v7 + 1) μ
set_option maxRecDepth 100000 in
set_option maxHeartbeats 4000000 in
theorem kX12_tries_J140_13 {G : hx_GT} {KK : hx_KT} (hG : hx_K cX12_tries 9 0 0 (none) TbX12 KK G) (cA : hx_CA RX12 cX12_tries 7 0 0 G) {Λ : hx_L} (hF : mF Λ) {μ : hx_M} (v1 : Int32) (v2 : Int32) (v3 : Int32) (v4 : Int32) (v5 : Int32) (v6 : Int32) (v7 : Int32)  {K : hx_M → Prop} (hK : ∀ (m : hx_M), K m → KK none Λ m) {K29 : Int32 → hx_M → Prop} (hk29 : ∀ (v7 : Int32) (μ : hx_M), K29 v7 μ → G Λ μ (0, 0) 29 [some (.ref 49), some (.int v1), some (.int v2), some (.int v3), some (.int v4), some (.int v5), some (.int v6), some (.int v7), none] []) (hw : wX12_tries_J140_13 K K29 v1 v2 v3 v4 v5 v6 v7 μ) : G Λ μ (0, 0) 140 [some (.ref 49), some (.int v1), some (.int v2), some (.int v3), some (.int v4), some (.int v5), some (.int v6), some (.int v7), none] [] := by
  unfold wX12_tries_J140_13 at hw
  exact cl_iinc hG (v7 + 1) (hx_dq tdX12_tries_2 10 rfl) rfl (congrArg (fun z => v7 + z) iconst_1) (Nat.le_of_ble_eq_true rfl) rfl (cl_goto hG 29 (hx_dq tdX12_tries_2 11 rfl) rfl (cl_sub hG (hx_le_c rfl (hx_le_c rfl (hx_le_c rfl (hx_le_c rfl (hx_le_c rfl (hx_le_c rfl (hx_le_c rfl (hx_le_c rfl (hx_le_n hx_le_0))))))))) (hk29 (v7 + 1) _ hw)))
def wX12_tries_J69_9  (K : hx_M → Prop) (K29 : Int32 → hx_M → Prop) (v1 : Int32) (v2 : Int32) (v3 : Int32) (v4 : Int32) (v5 : Int32) (v6 : Int32) (v7 : Int32)  (μ : hx_M) : Prop := wX12_step μ (fun m70_10 => ∃ n82_14, wX12_tries_L82 v1 v2 v3 v4 v5 v6 v7 K (fun m_12 => wX12_tries_J140_13 K (K29) v1 v2 v3 v4 v5 v6 v7 m_12) n82_14 ((m70_10.1 49 1) - v4) m70_10)
set_option maxRecDepth 100000 in
set_option maxHeartbeats 4000000 in
theorem kX12_tries_J69_9 {G : hx_GT} {KK : hx_KT} (hG : hx_K cX12_tries 9 0 0 (none) TbX12 KK G) (cA : hx_CA RX12 cX12_tries 7 0 0 G) {Λ : hx_L} (hF : mF Λ) {μ : hx_M} (v1 : Int32) (v2 : Int32) (v3 : Int32) (v4 : Int32) (v5 : Int32) (v6 : Int32) (v7 : Int32)  {K : hx_M → Prop} (hK : ∀ (m : hx_M), K m → KK none Λ m) {K29 : Int32 → hx_M → Prop} (hk29 : ∀ (v7 : Int32) (μ : hx_M), K29 v7 μ → G Λ μ (0, 0) 29 [some (.ref 49), some (.int v1), some (.int v2), some (.int v3), some (.int v4), some (.int v5), some (.int v6), some (.int v7), none] []) (hw : wX12_tries_J69_9 K K29 v1 v2 v3 v4 v5 v6 v7 μ) : G Λ μ (0, 0) 69 [some (.ref 49), some (.int v1), some (.int v2), some (.int v3), some (.int v4), some (.int v5), some (.int v6), some (.int v7), none] [] := by
  unfold wX12_tries_J69_9 at hw
  refine cl_aload_n hG (hx_dq tdX12_tries_1 7 rfl) rfl (cl_callV0 (caX12_tries_359 cA) (hx_dq tdX12_tries_1 8 rfl) (mF_S49 hF) (Nat.le_of_ble_eq_true rfl) (Nat.le_refl _) (Nat.le_refl _) (sX12_step_mk hF hw (fun m70_10 hw => ?_)))
  refine cl_aload_n hG (hx_dq tdX12_tries_1 9 rfl) rfl (cl_getI hG fmX12_161 (hx_dq tdX12_tries_1 10 rfl) (mF_S49 hF) (cl_iload hG (hx_dq tdX12_tries_1 11 rfl) rfl (cl_isub hG (hx_dq tdX12_tries_1 12 rfl) (cl_istore hG (hx_dq tdX12_tries_1 13 rfl) (Nat.le_of_ble_eq_true rfl) rfl ?_))))
  obtain ⟨n_, hw⟩ := hw
  refine cl_sub hG (hx_le_c rfl (hx_le_c rfl (hx_le_c rfl (hx_le_c rfl (hx_le_c rfl (hx_le_c rfl (hx_le_c rfl (hx_le_c rfl (hx_le_c rfl hx_le_0))))))))) (kX12_tries_L82 hG cA hF v1 v2 v3 v4 v5 v6 v7 hK (fun m_12 hw => ?_) n_ ((m70_10.1 49 1) - v4) _ hw)
  · exact cl_sub hG (hx_le_c rfl (hx_le_c rfl (hx_le_c rfl (hx_le_c rfl (hx_le_c rfl (hx_le_c rfl (hx_le_c rfl (hx_le_c rfl (hx_le_n hx_le_0))))))))) (kX12_tries_J140_13 hG cA hF v1 v2 v3 v4 v5 v6 v7 hK (fun z0 z1 hw => hk29 z0 z1 hw) hw)
def wX12_tries_J66  (K : hx_M → Prop) (K29 : Int32 → hx_M → Prop) (v1 : Int32) (v2 : Int32) (v3 : Int32) (v4 : Int32) (v5 : Int32) (v6 : Int32) (v7 : Int32) (t1 : Int32) (μ : hx_M) : Prop := wX12_tries_J69_9 K (K29) v1 v2 v3 v4 v5 v6 v7 (hx_sI μ 49 2 t1)
set_option maxRecDepth 100000 in
set_option maxHeartbeats 4000000 in
theorem kX12_tries_J66 {G : hx_GT} {KK : hx_KT} (hG : hx_K cX12_tries 9 0 0 (none) TbX12 KK G) (cA : hx_CA RX12 cX12_tries 7 0 0 G) {Λ : hx_L} (hF : mF Λ) {μ : hx_M} (v1 : Int32) (v2 : Int32) (v3 : Int32) (v4 : Int32) (v5 : Int32) (v6 : Int32) (v7 : Int32) (t1 : Int32) {K : hx_M → Prop} (hK : ∀ (m : hx_M), K m → KK none Λ m) {K29 : Int32 → hx_M → Prop} (hk29 : ∀ (v7 : Int32) (μ : hx_M), K29 v7 μ → G Λ μ (0, 0) 29 [some (.ref 49), some (.int v1), some (.int v2), some (.int v3), some (.int v4), some (.int v5), some (.int v6), some (.int v7), none] []) (hw : wX12_tries_J66 K K29 v1 v2 v3 v4 v5 v6 v7 t1 μ) : G Λ μ (0, 0) 66 [some (.ref 49), some (.int v1), some (.int v2), some (.int v3), some (.int v4), some (.int v5), some (.int v6), some (.int v7), none] [.int t1, .ref 49] := by
  unfold wX12_tries_J66 at hw
  refine cl_putI hG fmX12_164 (hx_dq tdX12_tries_1 6 rfl) (mF_S49 hF) ?_
  exact cl_sub hG (hx_le_c rfl (hx_le_c rfl (hx_le_c rfl (hx_le_c rfl (hx_le_c rfl (hx_le_c rfl (hx_le_c rfl (hx_le_c rfl (hx_le_n hx_le_0))))))))) (kX12_tries_J69_9 hG cA hF v1 v2 v3 v4 v5 v6 v7 hK (fun z0 z1 hw => hk29 z0 z1 hw) hw)
def wX12_tries_L29 (v1 : Int32) (v2 : Int32) (v3 : Int32) (v4 : Int32) (v5 : Int32) (v6 : Int32) (K : hx_M → Prop) (K146 : hx_M → Prop) : Nat → Int32 → hx_M → Prop
  | 0, _, _ => False
  | n + 1, v7, μ => (v1 < v7 → (K146 μ)) ∧ (¬ (v1 < v7) → (((μ.1 49 48) ≠ (-1) → (K146 μ)) ∧ ((μ.1 49 48) = (-1) → ((v3 = (-1) → (wX12_tries_J69 K (wX12_tries_L29 v1 v2 v3 v4 v5 v6 K K146 n) v1 v2 v3 v4 v5 v6 v7 μ)) ∧ (¬ (v3 = (-1)) → (¬ v2 = 0 ∧ ((((v7 - 1) / v2) - ((v7 - 1) / v2) / 2 * 2) ≠ 0 → (wX12_tries_J66 K (wX12_tries_L29 v1 v2 v3 v4 v5 v6 K K146 n) v1 v2 v3 v4 v5 v6 v7 v6 μ)) ∧ ((((v7 - 1) / v2) - ((v7 - 1) / v2) / 2 * 2) = 0 → (wX12_tries_J66 K (wX12_tries_L29 v1 v2 v3 v4 v5 v6 K K146 n) v1 v2 v3 v4 v5 v6 v7 v3 μ))))))))
set_option maxRecDepth 100000 in
set_option maxHeartbeats 4000000 in
theorem kX12_tries_L29 {G : hx_GT} {KK : hx_KT} (hG : hx_K cX12_tries 9 0 0 (none) TbX12 KK G) (cA : hx_CA RX12 cX12_tries 7 0 0 G) {Λ : hx_L} (hF : mF Λ)  (v1 : Int32) (v2 : Int32) (v3 : Int32) (v4 : Int32) (v5 : Int32) (v6 : Int32) {K : hx_M → Prop} (hK : ∀ (m : hx_M), K m → KK none Λ m) {K146 : hx_M → Prop} (hk146 : ∀ (μ : hx_M), K146 μ → G Λ μ (0, 0) 146 [some (.ref 49), none, none, none, none, none, none, none, none] []) : ∀ (n : Nat) (v7 : Int32) (μ : hx_M), wX12_tries_L29 v1 v2 v3 v4 v5 v6 K K146 n v7 μ → G Λ μ (0, 0) 29 [some (.ref 49), some (.int v1), some (.int v2), some (.int v3), some (.int v4), some (.int v5), some (.int v6), some (.int v7), none] [] := by
  intro n
  induction n with
  | zero =>
    intro v7 μ hw
    exact False.elim (by simpa only [wX12_tries_L29] using hw)
  | succ n ih =>
    intro v7 μ hw
    unfold wX12_tries_L29 at hw
    refine cl_iload hG (hx_dq tdX12_tries_0 16 rfl) rfl (cl_iload_n hG (hx_dq tdX12_tries_0 17 rfl) rfl (cl_icmp_gt hG 146 (hx_dq tdX12_tries_0 18 rfl) rfl (fun c32 => ?_) (fun c32 => ?_)))
    · replace hw := hw.1 c32
      exact cl_sub hG (hx_le_c rfl (hx_le_n (hx_le_n (hx_le_n (hx_le_n (hx_le_n (hx_le_n (hx_le_n (hx_le_n hx_le_0))))))))) (hk146 _ hw)
    · replace hw := hw.2 c32
      refine cl_aload_n hG (hx_dq tdX12_tries_0 19 rfl) rfl (cl_getI hG fmX12_377 (hx_dq tdX12_tries_0 20 rfl) (mF_S49 hF) (cl_iconst hG (-1) (hx_dq tdX12_tries_0 21 rfl) iconst_m1 (cl_icmp_ne hG 146 (hx_dq tdX12_tries_0 22 rfl) rfl (fun c40 => ?_) (fun c40 => ?_))))
      · replace hw := hw.1 c40
        exact cl_sub hG (hx_le_c rfl (hx_le_n (hx_le_n (hx_le_n (hx_le_n (hx_le_n (hx_le_n (hx_le_n (hx_le_n hx_le_0))))))))) (hk146 _ hw)
      · replace hw := hw.2 c40
        refine cl_iload_n hG (hx_dq tdX12_tries_0 23 rfl) rfl (cl_iconst hG (-1) (hx_dq tdX12_tries_0 24 rfl) iconst_m1 (cl_icmp_eq hG 69 (hx_dq tdX12_tries_0 25 rfl) rfl (fun c45 => ?_) (fun c45 => ?_)))
        · replace hw := hw.1 c45
          exact cl_sub hG (hx_le_c rfl (hx_le_c rfl (hx_le_c rfl (hx_le_c rfl (hx_le_c rfl (hx_le_c rfl (hx_le_c rfl (hx_le_c rfl (hx_le_n hx_le_0))))))))) (kX12_tries_J69 hG cA hF v1 v2 v3 v4 v5 v6 v7 hK (fun z0 z1 hw => ih z0 z1 hw) hw)
        · replace hw := hw.2 c45
          obtain ⟨o54, hw⟩ := hw
          refine cl_aload_n hG (hx_dq tdX12_tries_0 26 rfl) rfl (cl_iload hG (hx_dq tdX12_tries_0 27 rfl) rfl (cl_iconst hG 1 (hx_dq tdX12_tries_0 28 rfl) iconst_1 (cl_isub hG (hx_dq tdX12_tries_0 29 rfl) (cl_iload_n hG (hx_dq tdX12_tries_0 30 rfl) rfl (cl_idiv hG (hx_dq tdX12_tries_0 31 rfl) o54 (cl_iconst hG 2 (hx_dq tdX12_tries_1 0 rfl) iconst_2 (cl_irem hG (hx_dq tdX12_tries_1 1 rfl) (by decide) (cl_if_ne hG 64 (hx_dq tdX12_tries_1 2 rfl) rfl (fun c57 => ?_) (fun c57 => ?_)))))))))
          · replace hw := hw.1 c57
            refine cl_iload hG (hx_dq tdX12_tries_1 5 rfl) rfl ?_
            exact cl_sub hG (hx_le_c rfl (hx_le_c rfl (hx_le_c rfl (hx_le_c rfl (hx_le_c rfl (hx_le_c rfl (hx_le_c rfl (hx_le_c rfl (hx_le_n hx_le_0))))))))) (kX12_tries_J66 hG cA hF v1 v2 v3 v4 v5 v6 v7 v6 hK (fun z0 z1 hw => ih z0 z1 hw) hw)
          · replace hw := hw.2 c57
            refine cl_iload_n hG (hx_dq tdX12_tries_1 3 rfl) rfl (cl_goto hG 66 (hx_dq tdX12_tries_1 4 rfl) rfl ?_)
            exact cl_sub hG (hx_le_c rfl (hx_le_c rfl (hx_le_c rfl (hx_le_c rfl (hx_le_c rfl (hx_le_c rfl (hx_le_c rfl (hx_le_c rfl (hx_le_n hx_le_0))))))))) (kX12_tries_J66 hG cA hF v1 v2 v3 v4 v5 v6 v7 v3 hK (fun z0 z1 hw => ih z0 z1 hw) hw)
def wX12_tries_J146  (K : hx_M → Prop)    (μ : hx_M) : Prop := wX12_takesBack μ (fun m147_16 => K m147_16)
set_option maxRecDepth 100000 in
set_option maxHeartbeats 4000000 in
theorem kX12_tries_J146 {G : hx_GT} {KK : hx_KT} (hG : hx_K cX12_tries 9 0 0 (none) TbX12 KK G) (cA : hx_CA RX12 cX12_tries 7 0 0 G) {Λ : hx_L} (hF : mF Λ) {μ : hx_M}   {K : hx_M → Prop} (hK : ∀ (m : hx_M), K m → KK none Λ m)  (hw : wX12_tries_J146 K μ) : G Λ μ (0, 0) 146 [some (.ref 49), none, none, none, none, none, none, none, none] [] := by
  unfold wX12_tries_J146 at hw
  refine cl_aload_n hG (hx_dq tdX12_tries_2 12 rfl) rfl (cl_callV0 (caX12_tries_386 cA) (hx_dq tdX12_tries_2 13 rfl) (mF_S49 hF) (Nat.le_of_ble_eq_true rfl) (Nat.le_refl _) (Nat.le_refl _) (sX12_takesBack_mk hF hw (fun m147_16 hw => ?_)))
  exact cl_vret hG (hx_dq tdX12_tries_2 14 rfl) rfl (hK _ hw) (Nat.le_refl _) (Nat.le_refl _)
def wX12_tries (μ : hx_M) (v1 : Int32) (v2 : Int32) (v3 : Int32) (v4 : Int32) (K : hx_M → Prop) : Prop := wX12_keeps μ (fun m1_1 => ∃ n29_18, wX12_tries_L29 v1 v2 v3 v4 (m1_1.1 49 1) (m1_1.1 49 2) K (fun m_15 => wX12_tries_J146 K m_15) n29_18 1 (hx_sI (hx_sI m1_1 49 48 (-1)) 49 49 (-1)))
set_option maxRecDepth 100000 in
set_option maxHeartbeats 4000000 in
theorem kX12_tries {G : hx_GT} {KK : hx_KT} (hG : hx_K cX12_tries 9 0 0 (none) TbX12 KK G) (cA : hx_CA RX12 cX12_tries 7 0 0 G) {Λ : hx_L} (hF : mF Λ) {μ : hx_M} (v1 : Int32) (v2 : Int32) (v3 : Int32) (v4 : Int32) {K : hx_M → Prop} (hK : ∀ (m : hx_M), K m → KK none Λ m) (hw : wX12_tries μ v1 v2 v3 v4 K) : G Λ μ (0, 0) 0 [some (.ref 49), some (.int v1), some (.int v2), some (.int v3), some (.int v4), none, none, none, none] [] := by
  unfold wX12_tries at hw
  refine cl_aload_n hG (hx_dq tdX12_tries_0 0 rfl) rfl (cl_callV0 (caX12_tries_374 cA) (hx_dq tdX12_tries_0 1 rfl) (mF_S49 hF) (Nat.le_of_ble_eq_true rfl) (Nat.le_refl _) (Nat.le_refl _) (sX12_keeps_mk hF hw (fun m1_1 hw => ?_)))
  refine cl_aload_n hG (hx_dq tdX12_tries_0 2 rfl) rfl (cl_getI hG fmX12_161 (hx_dq tdX12_tries_0 3 rfl) (mF_S49 hF) (cl_istore hG (hx_dq tdX12_tries_0 4 rfl) (Nat.le_of_ble_eq_true rfl) rfl (cl_aload_n hG (hx_dq tdX12_tries_0 5 rfl) rfl (cl_getI hG fmX12_164 (hx_dq tdX12_tries_0 6 rfl) (mF_S49 hF) (cl_istore hG (hx_dq tdX12_tries_0 7 rfl) (Nat.le_of_ble_eq_true rfl) rfl (cl_aload_n hG (hx_dq tdX12_tries_0 8 rfl) rfl (cl_iconst hG (-1) (hx_dq tdX12_tries_0 9 rfl) iconst_m1 (cl_putI hG fmX12_377 (hx_dq tdX12_tries_0 10 rfl) (mF_S49 hF) (cl_aload_n hG (hx_dq tdX12_tries_0 11 rfl) rfl (cl_iconst hG (-1) (hx_dq tdX12_tries_0 12 rfl) iconst_m1 (cl_putI hG fmX12_380 (hx_dq tdX12_tries_0 13 rfl) (mF_S49 hF) (cl_iconst hG 1 (hx_dq tdX12_tries_0 14 rfl) iconst_1 (cl_istore hG (hx_dq tdX12_tries_0 15 rfl) (Nat.le_of_ble_eq_true rfl) rfl ?_)))))))))))))
  obtain ⟨n_, hw⟩ := hw
  refine cl_sub hG (hx_le_c rfl (hx_le_c rfl (hx_le_c rfl (hx_le_c rfl (hx_le_c rfl (hx_le_c rfl (hx_le_c rfl (hx_le_c rfl (hx_le_n hx_le_0))))))))) (kX12_tries_L29 hG cA hF v1 v2 v3 v4 (m1_1.1 49 1) (m1_1.1 49 2) hK (fun m_15 hw => ?_) n_ 1 _ hw)
  · exact cl_sub hG (hx_le_c rfl (hx_le_n (hx_le_n (hx_le_n (hx_le_n (hx_le_n (hx_le_n (hx_le_n (hx_le_n hx_le_0))))))))) (kX12_tries_J146 hG cA hF hK hw)
def sX12_tries : hx_ST := fun Λ μ as KK => mF Λ ∧ ∃ (v1 : Int32) (v2 : Int32) (v3 : Int32) (v4 : Int32) (K : hx_M → Prop), as = [.ref 49, .int v1, .int v2, .int v3, .int v4] ∧ wX12_tries μ v1 v2 v3 v4 K ∧ (∀ (m : hx_M), K m → KK none Λ m)
theorem sX12_tries_mk {Λ : hx_L} {μ : hx_M} {KK : hx_KT} {v1 : Int32} {v2 : Int32} {v3 : Int32} {v4 : Int32} {K : hx_M → Prop} (hF : mF Λ) (hw : wX12_tries μ v1 v2 v3 v4 K) (hk : ∀ (m : hx_M), K m → KK none Λ m) : sX12_tries Λ μ [.ref 49, .int v1, .int v2, .int v3, .int v4] KK := ⟨hF, _, _, _, _, _, rfl, hw, hk⟩
theorem conX12_tries : hx_Con yX12_tries cX12_tries 9 (none) 7 0 0 sX12_tries := by
  refine hx_con_of (by decide +kernel) tokX12 (by decide) ?_ ?_
  · intro Λ μ as KK h
    obtain ⟨hF, v1, v2, v3, v4, K, rfl, hw, hK⟩ := h
    exact Nat.le_of_ble_eq_true rfl
  · intro G KK hG cA Λ μ as h
    obtain ⟨hF, v1, v2, v3, v4, K, rfl, hw, hK⟩ := h
    exact cl_sub hG (hx_le_c rfl (hx_le_c rfl (hx_le_c rfl (hx_le_c rfl (hx_le_c rfl (hx_le_n (hx_le_n (hx_le_n (hx_le_n hx_le_0))))))))) (kX12_tries hG cA hF _ _ _ _ hK hw)
/-! HemLineModel.mayTry()Z -/
def tbX12_mayTry_0 : List (Nat × Instr × Nat) := [(0, .aload_n 0, 1), (1, .getfield 154, 3), (4, .ifCond .le 15, 3), (7, .aload_n 0, 1), (8, .getfield 53, 3), (11, .iconst (-1), 1), (12, .if_icmp .eq 7, 3), (15, .iconst 1, 1), (16, .goto 4, 3), (19, .iconst 0, 1), (20, .ireturn, 1)]
theorem tdX12_mayTry_0 : hx_dt cX12_mayTry tbX12_mayTry_0 = true := by decide +kernel
def wX12_mayTry (μ : hx_M)  (K : Int32 → Prop) : Prop := ((μ.1 49 0) ≤ 0 → (K 0)) ∧ (¬ ((μ.1 49 0) ≤ 0) → (((μ.1 49 21) = (-1) → (K 0)) ∧ (¬ ((μ.1 49 21) = (-1)) → (K 1))))
set_option maxRecDepth 100000 in
set_option maxHeartbeats 4000000 in
theorem kX12_mayTry {G : hx_GT} {KK : hx_KT} (hG : hx_K cX12_mayTry 1 0 0 (some .boolean) TbX12 KK G) (cA : hx_CA RX12 cX12_mayTry 1 0 0 G) {Λ : hx_L} (hF : mF Λ) {μ : hx_M}  {K : Int32 → Prop} (hK : ∀ (r : Int32), K r → KK (some (.int r)) Λ μ) (hw : wX12_mayTry μ K) : G Λ μ (0, 0) 0 [some (.ref 49)] [] := by
  unfold wX12_mayTry at hw
  refine cl_aload_n hG (hx_dq tdX12_mayTry_0 0 rfl) rfl (cl_getI hG fmX12_154 (hx_dq tdX12_mayTry_0 1 rfl) (mF_S49 hF) (cl_if_le hG 19 (hx_dq tdX12_mayTry_0 2 rfl) rfl (fun c4 => ?_) (fun c4 => ?_)))
  · replace hw := hw.1 c4
    exact cl_iconst hG 0 (hx_dq tdX12_mayTry_0 9 rfl) iconst_0 (cl_iret hG (hx_dq tdX12_mayTry_0 10 rfl) rfl rfl (hK _ hw) (Nat.le_refl _) (Nat.le_refl _))
  · replace hw := hw.2 c4
    refine cl_aload_n hG (hx_dq tdX12_mayTry_0 3 rfl) rfl (cl_getI hG fmX12_53 (hx_dq tdX12_mayTry_0 4 rfl) (mF_S49 hF) (cl_iconst hG (-1) (hx_dq tdX12_mayTry_0 5 rfl) iconst_m1 (cl_icmp_eq hG 19 (hx_dq tdX12_mayTry_0 6 rfl) rfl (fun c12 => ?_) (fun c12 => ?_))))
    · replace hw := hw.1 c12
      exact cl_iconst hG 0 (hx_dq tdX12_mayTry_0 9 rfl) iconst_0 (cl_iret hG (hx_dq tdX12_mayTry_0 10 rfl) rfl rfl (hK _ hw) (Nat.le_refl _) (Nat.le_refl _))
    · replace hw := hw.2 c12
      exact cl_iconst hG 1 (hx_dq tdX12_mayTry_0 7 rfl) iconst_1 (cl_goto hG 20 (hx_dq tdX12_mayTry_0 8 rfl) rfl (cl_iret hG (hx_dq tdX12_mayTry_0 10 rfl) rfl rfl (hK _ hw) (Nat.le_refl _) (Nat.le_refl _)))
def sX12_mayTry : hx_ST := fun Λ μ as KK => mF Λ ∧ ∃ (K : Int32 → Prop), as = [.ref 49] ∧ wX12_mayTry μ K ∧ (∀ (r : Int32), K r → KK (some (.int r)) Λ μ)
theorem sX12_mayTry_mk {Λ : hx_L} {μ : hx_M} {KK : hx_KT}  {K : Int32 → Prop} (hF : mF Λ) (hw : wX12_mayTry μ K) (hk : ∀ (r : Int32), K r → KK (some (.int r)) Λ μ) : sX12_mayTry Λ μ [.ref 49] KK := ⟨hF, _, rfl, hw, hk⟩
theorem conX12_mayTry : hx_Con yX12_mayTry cX12_mayTry 1 (some .boolean) 1 0 0 sX12_mayTry := by
  refine hx_con_of (by decide +kernel) tokX12 (by decide) ?_ ?_
  · intro Λ μ as KK h
    obtain ⟨hF, K, rfl, hw, hK⟩ := h
    exact Nat.le_of_ble_eq_true rfl
  · intro G KK hG cA Λ μ as h
    obtain ⟨hF, K, rfl, hw, hK⟩ := h
    exact cl_sub hG (hx_le_c rfl hx_le_0) (kX12_mayTry hG cA hF hK hw)
/-! HemLineModel.round(II)I -/
def tbX12_round_0 : List (Nat × Instr × Nat) := [(0, .iload_n 1, 1), (1, .iconst 1, 1), (2, .bipush 100, 2), (4, .invokestatic 157, 3), (7, .ifCond .eq 19, 3), (10, .iload_n 2, 1), (11, .iconst 0, 1), (12, .iconst 1, 1), (13, .invokestatic 157, 3), (16, .ifCond .eq 10, 3), (19, .aload_n 0, 1), (20, .invokevirtual 389, 3), (23, .ifCond .ne 5, 3), (26, .iconst (-1), 1), (27, .ireturn, 1), (28, .aload_n 0, 1), (29, .iload_n 1, 1), (30, .iconst 1, 1), (31, .iconst (-1), 1), (32, .iconst 1, 1), (33, .invokevirtual 392, 3), (36, .iload_n 2, 1), (37, .ifCond .ne 10, 3), (40, .aload_n 0, 1), (41, .getfield 377, 3), (44, .goto 7, 3), (47, .aload_n 0, 1), (48, .getfield 380, 3), (51, .ireturn, 1)]
theorem tdX12_round_0 : hx_dt cX12_round tbX12_round_0 = true := by decide +kernel
theorem caX12_round_157 {G : hx_GT} (cA : hx_CA RX12 cX12_round 8 0 0 G) : hx_CS cX12_round G 0 0 157 3 sX12_isIn 0 0 := cA.2.1 conX12_isIn ⟨by decide +kernel, by decide +kernel, by decide +kernel⟩ mw_1343 mw_1344 mw_97 mw_1345 (by decide) (by decide)
theorem caX12_round_389 {G : hx_GT} (cA : hx_CA RX12 cX12_round 8 0 0 G) : hx_CV cX12_round G 0 0 389 12 0 sX12_mayTry 0 0 := cA.1 conX12_mayTry rfl rfl ⟨by decide +kernel, by decide +kernel, by decide +kernel⟩ mw_1555 mw_1557 mw_66 mw_97 mw_1558 (by decide) (by decide)
theorem caX12_round_392 {G : hx_GT} (cA : hx_CA RX12 cX12_round 8 0 0 G) : hx_CV cX12_round G 0 0 392 12 4 sX12_tries 0 0 := cA.1 conX12_tries rfl rfl ⟨by decide +kernel, by decide +kernel, by decide +kernel⟩ mw_1559 mw_1561 mw_67 mw_97 mw_1562 (by decide) (by decide)
def wX12_round (μ : hx_M) (v1 : Int32) (v2 : Int32) (K : Int32 → hx_M → Prop) : Prop := wX12_isIn v1 1 100 (fun r4_2 => (r4_2 = 0 → (K (-1) μ)) ∧ (¬ (r4_2 = 0) → (wX12_isIn v2 0 1 (fun r13_4 => (r13_4 = 0 → (K (-1) μ)) ∧ (¬ (r13_4 = 0) → (wX12_mayTry μ (fun r20_6 => (r20_6 ≠ 0 → (wX12_tries μ v1 1 (-1) 1 (fun m33_7 => (v2 ≠ 0 → (K (m33_7.1 49 49) m33_7)) ∧ (v2 = 0 → (K (m33_7.1 49 48) m33_7))))) ∧ (r20_6 = 0 → (K (-1) μ)))))))))
set_option maxRecDepth 100000 in
set_option maxHeartbeats 4000000 in
theorem kX12_round {G : hx_GT} {KK : hx_KT} (hG : hx_K cX12_round 3 0 0 (some .int) TbX12 KK G) (cA : hx_CA RX12 cX12_round 8 0 0 G) {Λ : hx_L} (hF : mF Λ) {μ : hx_M} (v1 : Int32) (v2 : Int32) {K : Int32 → hx_M → Prop} (hK : ∀ (r : Int32) (m : hx_M), K r m → KK (some (.int r)) Λ m) (hw : wX12_round μ v1 v2 K) : G Λ μ (0, 0) 0 [some (.ref 49), some (.int v1), some (.int v2)] [] := by
  unfold wX12_round at hw
  refine cl_iload_n hG (hx_dq tdX12_round_0 0 rfl) rfl (cl_iconst hG 1 (hx_dq tdX12_round_0 1 rfl) iconst_1 (cl_bipush hG 100 (hx_dq tdX12_round_0 2 rfl) bipush_100 (cl_callS3 (caX12_round_157 cA) (hx_dq tdX12_round_0 3 rfl) (Nat.le_of_ble_eq_true rfl) (Nat.le_refl _) (Nat.le_refl _) (sX12_isIn_mk hw (fun r4_2 hw => ?_)))))
  refine cl_if_eq hG 26 (hx_dq tdX12_round_0 4 rfl) rfl (fun c7 => ?_) (fun c7 => ?_)
  · replace hw := hw.1 c7
    exact cl_iconst hG (-1) (hx_dq tdX12_round_0 13 rfl) iconst_m1 (cl_iret hG (hx_dq tdX12_round_0 14 rfl) rfl rfl (hK _ _ hw) (Nat.le_refl _) (Nat.le_refl _))
  · replace hw := hw.2 c7
    refine cl_iload_n hG (hx_dq tdX12_round_0 5 rfl) rfl (cl_iconst hG 0 (hx_dq tdX12_round_0 6 rfl) iconst_0 (cl_iconst hG 1 (hx_dq tdX12_round_0 7 rfl) iconst_1 (cl_callS3 (caX12_round_157 cA) (hx_dq tdX12_round_0 8 rfl) (Nat.le_of_ble_eq_true rfl) (Nat.le_refl _) (Nat.le_refl _) (sX12_isIn_mk hw (fun r13_4 hw => ?_)))))
    refine cl_if_eq hG 26 (hx_dq tdX12_round_0 9 rfl) rfl (fun c16 => ?_) (fun c16 => ?_)
    · replace hw := hw.1 c16
      exact cl_iconst hG (-1) (hx_dq tdX12_round_0 13 rfl) iconst_m1 (cl_iret hG (hx_dq tdX12_round_0 14 rfl) rfl rfl (hK _ _ hw) (Nat.le_refl _) (Nat.le_refl _))
    · replace hw := hw.2 c16
      refine cl_aload_n hG (hx_dq tdX12_round_0 10 rfl) rfl (cl_callV0 (caX12_round_389 cA) (hx_dq tdX12_round_0 11 rfl) (mF_S49 hF) (Nat.le_of_ble_eq_true rfl) (Nat.le_refl _) (Nat.le_refl _) (sX12_mayTry_mk hF hw (fun r20_6 hw => ?_)))
      refine cl_if_ne hG 28 (hx_dq tdX12_round_0 12 rfl) rfl (fun c23 => ?_) (fun c23 => ?_)
      · replace hw := hw.1 c23
        refine cl_aload_n hG (hx_dq tdX12_round_0 15 rfl) rfl (cl_iload_n hG (hx_dq tdX12_round_0 16 rfl) rfl (cl_iconst hG 1 (hx_dq tdX12_round_0 17 rfl) iconst_1 (cl_iconst hG (-1) (hx_dq tdX12_round_0 18 rfl) iconst_m1 (cl_iconst hG 1 (hx_dq tdX12_round_0 19 rfl) iconst_1 (cl_callV4 (caX12_round_392 cA) (hx_dq tdX12_round_0 20 rfl) (mF_S49 hF) (Nat.le_of_ble_eq_true rfl) (Nat.le_refl _) (Nat.le_refl _) (sX12_tries_mk hF hw (fun m33_7 hw => ?_)))))))
        refine cl_iload_n hG (hx_dq tdX12_round_0 21 rfl) rfl (cl_if_ne hG 47 (hx_dq tdX12_round_0 22 rfl) rfl (fun c37 => ?_) (fun c37 => ?_))
        · replace hw := hw.1 c37
          exact cl_aload_n hG (hx_dq tdX12_round_0 26 rfl) rfl (cl_getI hG fmX12_380 (hx_dq tdX12_round_0 27 rfl) (mF_S49 hF) (cl_iret hG (hx_dq tdX12_round_0 28 rfl) rfl rfl (hK _ _ hw) (Nat.le_refl _) (Nat.le_refl _)))
        · replace hw := hw.2 c37
          exact cl_aload_n hG (hx_dq tdX12_round_0 23 rfl) rfl (cl_getI hG fmX12_377 (hx_dq tdX12_round_0 24 rfl) (mF_S49 hF) (cl_goto hG 51 (hx_dq tdX12_round_0 25 rfl) rfl (cl_iret hG (hx_dq tdX12_round_0 28 rfl) rfl rfl (hK _ _ hw) (Nat.le_refl _) (Nat.le_refl _))))
      · replace hw := hw.2 c23
        exact cl_iconst hG (-1) (hx_dq tdX12_round_0 13 rfl) iconst_m1 (cl_iret hG (hx_dq tdX12_round_0 14 rfl) rfl rfl (hK _ _ hw) (Nat.le_refl _) (Nat.le_refl _))
def sX12_round : hx_ST := fun Λ μ as KK => mF Λ ∧ ∃ (v1 : Int32) (v2 : Int32) (K : Int32 → hx_M → Prop), as = [.ref 49, .int v1, .int v2] ∧ wX12_round μ v1 v2 K ∧ (∀ (r : Int32) (m : hx_M), K r m → KK (some (.int r)) Λ m)
theorem sX12_round_mk {Λ : hx_L} {μ : hx_M} {KK : hx_KT} {v1 : Int32} {v2 : Int32} {K : Int32 → hx_M → Prop} (hF : mF Λ) (hw : wX12_round μ v1 v2 K) (hk : ∀ (r : Int32) (m : hx_M), K r m → KK (some (.int r)) Λ m) : sX12_round Λ μ [.ref 49, .int v1, .int v2] KK := ⟨hF, _, _, _, rfl, hw, hk⟩
theorem conX12_round : hx_Con yX12_round cX12_round 3 (some .int) 8 0 0 sX12_round := by
  refine hx_con_of (by decide +kernel) tokX12 (by decide) ?_ ?_
  · intro Λ μ as KK h
    obtain ⟨hF, v1, v2, K, rfl, hw, hK⟩ := h
    exact Nat.le_of_ble_eq_true rfl
  · intro G KK hG cA Λ μ as h
    obtain ⟨hF, v1, v2, K, rfl, hw, hK⟩ := h
    exact cl_sub hG (hx_le_c rfl (hx_le_c rfl (hx_le_c rfl hx_le_0))) (kX12_round hG cA hF _ _ hK hw)
