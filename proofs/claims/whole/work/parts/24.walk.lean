/-! HemLine$World.pass(LHemLine$Law;)V -/
def tbX10_pass_0 : List (Nat × Instr × Nat) := [(0, .aload_n 0, 1), (1, .getfield 50, 3), (4, .iconst 1, 1), (5, .iadd, 1), (6, .aload_n 0, 1), (7, .getfield 23, 3), (10, .getfield 109, 3), (13, .if_icmp .lt 4, 3), (16, .return_, 1), (17, .aload_n 0, 1), (18, .getfield 23, 3), (21, .aload_n 0, 1), (22, .getfield 50, 3), (25, .invokevirtual 112, 3), (28, .aload_n 0, 1), (29, .dup, 1), (30, .getfield 50, 3), (33, .iconst 1, 1), (34, .iadd, 1), (35, .putfield 50, 3), (38, .iconst 0, 1), (39, .istore_n 2, 1), (40, .iconst 0, 1), (41, .istore_n 3, 1), (42, .iload_n 3, 1), (43, .aload_n 0, 1), (44, .getfield 12, 3), (47, .getfield 83, 3), (50, .if_icmp .ge 41, 3), (53, .aload_n 0, 1), (54, .aload_n 1, 1), (55, .iload_n 3, 1)]
def tbX10_pass_1 : List (Nat × Instr × Nat) := [(56, .invokevirtual 115, 3), (59, .istore 4, 2), (61, .aload_n 0, 1), (62, .getfield 23, 3), (65, .getfield 119, 3), (68, .aload_n 0, 1), (69, .getfield 50, 3), (72, .bipush 16, 2), (74, .imul, 1), (75, .iload_n 3, 1), (76, .iadd, 1), (77, .iload 4, 2), (79, .iastore, 1), (80, .iload_n 2, 1), (81, .iload 4, 2), (83, .iadd, 1), (84, .istore_n 2, 1), (85, .iinc 3 1, 3), (88, .goto (-46), 3), (91, .aload_n 0, 1), (92, .getfield 23, 3), (95, .getfield 86, 3), (98, .aload_n 0, 1), (99, .getfield 50, 3), (102, .iload_n 2, 1), (103, .iastore, 1), (104, .return_, 1)]
theorem tdX10_pass_0 : hx_dt cX10_pass tbX10_pass_0 = true := by decide +kernel
theorem tdX10_pass_1 : hx_dt cX10_pass tbX10_pass_1 = true := by decide +kernel
theorem caX10_pass_112 {G : hx_GT} (cA : hx_CA RX10 cX10_pass 6 0 0 G) : hx_CV cX10_pass G 0 0 112 3 1 sX3_carryOn 0 0 := cA.1 conX3_carryOn rfl rfl ⟨by decide +kernel, by decide +kernel, by decide +kernel⟩ mw_699 mw_700 mw_701 mw_88 mw_702 (by decide) (by decide)
theorem caX10_pass_115 {G : hx_GT} (cA : hx_CA RX10 cX10_pass 6 0 0 G) : hx_CV cX10_pass G 0 0 115 10 2 sX10_dress 0 0 := cA.1 conX10_dress rfl rfl ⟨by decide +kernel, by decide +kernel, by decide +kernel⟩ mw_704 mw_706 mw_16 mw_86 mw_707 (by decide) (by decide)
def wX10_pass_L42 (Λ : hx_L) (v1 : Nat) (K : hx_M → Prop) (K91 : Int32 → hx_M → Prop) : Nat → Int32 → Int32 → hx_M → Prop
  | 0, _, _, _ => False
  | n + 1, v2, v3, μ => ((μ.1 8 0) ≤ v3 → (K91 v2 μ)) ∧ (¬ ((μ.1 8 0) ≤ v3) → (wX10_dress Λ μ v1 v3 (fun r56_4 m56_3 => vp_in (((m56_3.1 7 7) * 16) + v3) 4816 ∧ wX10_pass_L42 Λ v1 K K91 n (v2 + r56_4) (v3 + 1) (hx_sI m56_3 16 ((((m56_3.1 7 7) * 16) + v3).toNatClampNeg) r56_4))))
set_option maxRecDepth 100000 in
set_option maxHeartbeats 4000000 in
theorem kX10_pass_L42 {G : hx_GT} {KK : hx_KT} (hG : hx_K cX10_pass 5 0 0 (none) TbX10 KK G) (cA : hx_CA RX10 cX10_pass 6 0 0 G) {Λ : hx_L} (hF : cF Λ)  (v1 : Nat) {K : hx_M → Prop} (hK : ∀ (m : hx_M), K m → KK none Λ m) {K91 : Int32 → hx_M → Prop} (hk91 : ∀ (v2 : Int32) (μ : hx_M), K91 v2 μ → G Λ μ (0, 0) 91 [some (.ref 7), none, some (.int v2), none, none] []) : ∀ (n : Nat) (v2 : Int32) (v3 : Int32) (μ : hx_M), wX10_pass_L42 Λ v1 K K91 n v2 v3 μ → G Λ μ (0, 0) 42 [some (.ref 7), some (.ref v1), some (.int v2), some (.int v3), none] [] := by
  intro n
  induction n with
  | zero =>
    intro v2 v3 μ hw
    exact False.elim (by simpa only [wX10_pass_L42] using hw)
  | succ n ih =>
    intro v2 v3 μ hw
    unfold wX10_pass_L42 at hw
    refine cl_iload_n hG (hx_dq tdX10_pass_0 24 rfl) rfl (cl_aload_n hG (hx_dq tdX10_pass_0 25 rfl) rfl (cl_getS hG fmX10_12 (hx_dq tdX10_pass_0 26 rfl) (cF_S7 hF) (cF_R7_0 hF) (cl_getI hG fmX10_83 (hx_dq tdX10_pass_0 27 rfl) (cF_S8 hF) (cl_icmp_ge hG 91 (hx_dq tdX10_pass_0 28 rfl) rfl (fun c50 => ?_) (fun c50 => ?_)))))
    · replace hw := hw.1 c50
      exact cl_sub hG (hx_le_c rfl (hx_le_n (hx_le_c rfl (hx_le_n (hx_le_n hx_le_0))))) (hk91 v2 _ hw)
    · replace hw := hw.2 c50
      refine cl_aload_n hG (hx_dq tdX10_pass_0 29 rfl) rfl (cl_aload_n hG (hx_dq tdX10_pass_0 30 rfl) rfl (cl_iload_n hG (hx_dq tdX10_pass_0 31 rfl) rfl (cl_callV2 (caX10_pass_115 cA) (hx_dq tdX10_pass_1 0 rfl) (cF_S7 hF) (Nat.le_of_ble_eq_true rfl) (Nat.le_refl _) (Nat.le_refl _) (sX10_dress_mk hF hw (fun r56_4 m56_3 hw => ?_)))))
      obtain ⟨i79_5, hw⟩ := hw
      exact cl_istore hG (hx_dq tdX10_pass_1 1 rfl) (Nat.le_of_ble_eq_true rfl) rfl (cl_aload_n hG (hx_dq tdX10_pass_1 2 rfl) rfl (cl_getS hG fmX10_23 (hx_dq tdX10_pass_1 3 rfl) (cF_S7 hF) (cF_R7_1 hF) (cl_getS hG fmX10_119 (hx_dq tdX10_pass_1 4 rfl) (cF_S15 hF) (cF_R15_1 hF) (cl_aload_n hG (hx_dq tdX10_pass_1 5 rfl) rfl (cl_getI hG fmX10_50 (hx_dq tdX10_pass_1 6 rfl) (cF_S7 hF) (cl_bipush hG 16 (hx_dq tdX10_pass_1 7 rfl) bipush_16 (cl_imul hG (hx_dq tdX10_pass_1 8 rfl) (cl_iload_n hG (hx_dq tdX10_pass_1 9 rfl) rfl (cl_iadd hG (hx_dq tdX10_pass_1 10 rfl) (cl_iload hG (hx_dq tdX10_pass_1 11 rfl) rfl (cl_iast hG (hx_dq tdX10_pass_1 12 rfl) (cF_S16 hF) i79_5 (cl_iload_n hG (hx_dq tdX10_pass_1 13 rfl) rfl (cl_iload hG (hx_dq tdX10_pass_1 14 rfl) rfl (cl_iadd hG (hx_dq tdX10_pass_1 15 rfl) (cl_istore_n hG (hx_dq tdX10_pass_1 16 rfl) (Nat.le_of_ble_eq_true rfl) rfl (cl_iinc hG (v3 + 1) (hx_dq tdX10_pass_1 17 rfl) rfl (congrArg (fun z => v3 + z) iconst_1) (Nat.le_of_ble_eq_true rfl) rfl (cl_goto hG 42 (hx_dq tdX10_pass_1 18 rfl) rfl (cl_sub hG (hx_le_c rfl (hx_le_c rfl (hx_le_c rfl (hx_le_c rfl (hx_le_n hx_le_0))))) (ih (v2 + r56_4) (v3 + 1) _ hw)))))))))))))))))))
def wX10_pass (Λ : hx_L) (μ : hx_M) (v1 : Nat) (K : hx_M → Prop) : Prop := (((μ.1 7 7) + 1) < (μ.1 15 0) → (wX3_carryOn μ (μ.1 7 7) (fun m25_1 => ∃ n42_8, wX10_pass_L42 Λ v1 K (fun v2_6 m_6 => vp_in (m_6.1 7 7) 301 ∧ K (hx_sI m_6 17 ((m_6.1 7 7).toNatClampNeg) v2_6)) n42_8 0 0 (hx_sI m25_1 7 7 ((m25_1.1 7 7) + 1))))) ∧ (¬ (((μ.1 7 7) + 1) < (μ.1 15 0)) → (K μ))
set_option maxRecDepth 100000 in
set_option maxHeartbeats 4000000 in
theorem kX10_pass {G : hx_GT} {KK : hx_KT} (hG : hx_K cX10_pass 5 0 0 (none) TbX10 KK G) (cA : hx_CA RX10 cX10_pass 6 0 0 G) {Λ : hx_L} (hF : cF Λ) {μ : hx_M} (v1 : Nat) {K : hx_M → Prop} (hK : ∀ (m : hx_M), K m → KK none Λ m) (hw : wX10_pass Λ μ v1 K) : G Λ μ (0, 0) 0 [some (.ref 7), some (.ref v1), none, none, none] [] := by
  unfold wX10_pass at hw
  refine cl_aload_n hG (hx_dq tdX10_pass_0 0 rfl) rfl (cl_getI hG fmX10_50 (hx_dq tdX10_pass_0 1 rfl) (cF_S7 hF) (cl_iconst hG 1 (hx_dq tdX10_pass_0 2 rfl) iconst_1 (cl_iadd hG (hx_dq tdX10_pass_0 3 rfl) (cl_aload_n hG (hx_dq tdX10_pass_0 4 rfl) rfl (cl_getS hG fmX10_23 (hx_dq tdX10_pass_0 5 rfl) (cF_S7 hF) (cF_R7_1 hF) (cl_getF hG fmX10_109 (hx_dq tdX10_pass_0 6 rfl) (cF_S15 hF) (cl_icmp_lt hG 17 (hx_dq tdX10_pass_0 7 rfl) rfl (fun c13 => ?_) (fun c13 => ?_))))))))
  · replace hw := hw.1 c13
    refine cl_aload_n hG (hx_dq tdX10_pass_0 9 rfl) rfl (cl_getS hG fmX10_23 (hx_dq tdX10_pass_0 10 rfl) (cF_S7 hF) (cF_R7_1 hF) (cl_aload_n hG (hx_dq tdX10_pass_0 11 rfl) rfl (cl_getI hG fmX10_50 (hx_dq tdX10_pass_0 12 rfl) (cF_S7 hF) (cl_callV1 (caX10_pass_112 cA) (hx_dq tdX10_pass_0 13 rfl) (cF_S15 hF) (Nat.le_of_ble_eq_true rfl) (Nat.le_refl _) (Nat.le_refl _) (sX3_carryOn_mk hF hw (fun m25_1 hw => ?_))))))
    refine cl_aload_n hG (hx_dq tdX10_pass_0 14 rfl) rfl (cl_dup hG (hx_dq tdX10_pass_0 15 rfl) rfl (cl_getI hG fmX10_50 (hx_dq tdX10_pass_0 16 rfl) (cF_S7 hF) (cl_iconst hG 1 (hx_dq tdX10_pass_0 17 rfl) iconst_1 (cl_iadd hG (hx_dq tdX10_pass_0 18 rfl) (cl_putI hG fmX10_50 (hx_dq tdX10_pass_0 19 rfl) (cF_S7 hF) (cl_iconst hG 0 (hx_dq tdX10_pass_0 20 rfl) iconst_0 (cl_istore_n hG (hx_dq tdX10_pass_0 21 rfl) (Nat.le_of_ble_eq_true rfl) rfl (cl_iconst hG 0 (hx_dq tdX10_pass_0 22 rfl) iconst_0 (cl_istore_n hG (hx_dq tdX10_pass_0 23 rfl) (Nat.le_of_ble_eq_true rfl) rfl ?_)))))))))
    obtain ⟨n_, hw⟩ := hw
    refine cl_sub hG (hx_le_c rfl (hx_le_c rfl (hx_le_c rfl (hx_le_c rfl (hx_le_n hx_le_0))))) (kX10_pass_L42 hG cA hF v1 hK (fun v2_6 m_6 hw => ?_) n_ 0 0 _ hw)
    · obtain ⟨i103_7, hw⟩ := hw
      exact cl_aload_n hG (hx_dq tdX10_pass_1 19 rfl) rfl (cl_getS hG fmX10_23 (hx_dq tdX10_pass_1 20 rfl) (cF_S7 hF) (cF_R7_1 hF) (cl_getS hG fmX10_86 (hx_dq tdX10_pass_1 21 rfl) (cF_S15 hF) (cF_R15_2 hF) (cl_aload_n hG (hx_dq tdX10_pass_1 22 rfl) rfl (cl_getI hG fmX10_50 (hx_dq tdX10_pass_1 23 rfl) (cF_S7 hF) (cl_iload_n hG (hx_dq tdX10_pass_1 24 rfl) rfl (cl_iast hG (hx_dq tdX10_pass_1 25 rfl) (cF_S17 hF) i103_7 (cl_vret hG (hx_dq tdX10_pass_1 26 rfl) rfl (hK _ hw) (Nat.le_refl _) (Nat.le_refl _))))))))
  · replace hw := hw.2 c13
    exact cl_vret hG (hx_dq tdX10_pass_0 8 rfl) rfl (hK _ hw) (Nat.le_refl _) (Nat.le_refl _)
def sX10_pass : hx_ST := fun Λ μ as KK => cF Λ ∧ ∃ (v1 : Nat) (K : hx_M → Prop), as = [.ref 7, .ref v1] ∧ wX10_pass Λ μ v1 K ∧ (∀ (m : hx_M), K m → KK none Λ m)
theorem sX10_pass_mk {Λ : hx_L} {μ : hx_M} {KK : hx_KT} {v1 : Nat} {K : hx_M → Prop} (hF : cF Λ) (hw : wX10_pass Λ μ v1 K) (hk : ∀ (m : hx_M), K m → KK none Λ m) : sX10_pass Λ μ [.ref 7, .ref v1] KK := ⟨hF, _, _, rfl, hw, hk⟩
theorem conX10_pass : hx_Con yX10_pass cX10_pass 5 (none) 6 0 0 sX10_pass := by
  refine hx_con_of (by decide +kernel) tokX10 (by decide) ?_ ?_
  · intro Λ μ as KK h
    obtain ⟨hF, v1, K, rfl, hw, hK⟩ := h
    exact Nat.le_of_ble_eq_true rfl
  · intro G KK hG cA Λ μ as h
    obtain ⟨hF, v1, K, rfl, hw, hK⟩ := h
    exact cl_sub hG (hx_le_c rfl (hx_le_c rfl (hx_le_n (hx_le_n (hx_le_n hx_le_0))))) (kX10_pass hG cA hF _ hK hw)
/-! HemLine$Trials.rehearse(LHemLine$Law;III)V -/
def tbX9_rehearse_0 : List (Nat × Instr × Nat) := [(0, .aload_n 0, 1), (1, .getfield 18, 3), (4, .aload_n 0, 1), (5, .getfield 9, 3), (8, .getfield 22, 3), (11, .invokevirtual 27, 3), (14, .aload_n 0, 1), (15, .getfield 9, 3), (18, .getfield 31, 3), (21, .lstore 5, 2), (23, .aload_n 0, 1), (24, .getfield 9, 3), (27, .getfield 35, 3), (30, .istore 7, 2), (32, .aload_n 0, 1), (33, .getfield 9, 3), (36, .getfield 39, 3), (39, .getfield 43, 3), (42, .iload 7, 2), (44, .iaload, 1), (45, .istore 8, 2), (47, .iconst 0, 1), (48, .istore 9, 2), (50, .iload 9, 2), (52, .iload_n 2, 1), (53, .if_icmp .ge 73, 3), (56, .iload 4, 2), (58, .iconst (-1), 1), (59, .if_icmp .eq 20, 3), (62, .iload_n 3, 1), (63, .ifCond .le 16, 3), (66, .iload 9, 2)]
def tbX9_rehearse_1 : List (Nat × Instr × Nat) := [(68, .iload_n 3, 1), (69, .idiv, 1), (70, .iconst 2, 1), (71, .irem, 1), (72, .ifCond .ne 7, 3), (75, .iconst 1, 1), (76, .goto 4, 3), (79, .iconst 0, 1), (80, .istore 10, 2), (82, .aload_n 0, 1), (83, .getfield 9, 3), (86, .getfield 39, 3), (89, .getfield 43, 3), (92, .aload_n 0, 1), (93, .getfield 9, 3), (96, .getfield 35, 3), (99, .iload 10, 2), (101, .ifCond .eq 8, 3), (104, .iload 4, 2), (106, .goto 5, 3), (109, .iload 8, 2), (111, .iastore, 1), (112, .aload_n 0, 1), (113, .getfield 9, 3), (116, .aload_n 1, 1), (117, .invokevirtual 49, 3), (120, .iinc 9 1, 3), (123, .goto (-73), 3), (126, .aload_n 0, 1), (127, .getfield 9, 3), (130, .getfield 39, 3), (133, .getfield 43, 3)]
def tbX9_rehearse_2 : List (Nat × Instr × Nat) := [(136, .iload 7, 2), (138, .iload 8, 2), (140, .iastore, 1), (141, .aload_n 0, 1), (142, .getfield 9, 3), (145, .iload 7, 2), (147, .putfield 35, 3), (150, .aload_n 0, 1), (151, .getfield 9, 3), (154, .lload 5, 2), (156, .putfield 31, 3), (159, .aload_n 0, 1), (160, .getfield 9, 3), (163, .getfield 22, 3), (166, .aload_n 0, 1), (167, .getfield 18, 3), (170, .invokevirtual 27, 3), (173, .return_, 1)]
theorem tdX9_rehearse_0 : hx_dt cX9_rehearse tbX9_rehearse_0 = true := by decide +kernel
theorem tdX9_rehearse_1 : hx_dt cX9_rehearse tbX9_rehearse_1 = true := by decide +kernel
theorem tdX9_rehearse_2 : hx_dt cX9_rehearse tbX9_rehearse_2 = true := by decide +kernel
theorem caX9_rehearse_27 {G : hx_GT} (cA : hx_CA RX9 cX9_rehearse 7 0 0 G) : hx_CV cX9_rehearse G 0 0 27 4 1 sX4_copyOf 0 0 := cA.1 conX4_copyOf rfl rfl ⟨by decide +kernel, by decide +kernel, by decide +kernel⟩ mw_816 mw_817 mw_818 mw_87 mw_819 (by decide) (by decide)
theorem caX9_rehearse_49 {G : hx_GT} (cA : hx_CA RX9 cX9_rehearse 7 0 0 G) : hx_CV cX9_rehearse G 0 0 49 10 1 sX10_pass 0 0 := cA.1 conX10_pass rfl rfl ⟨by decide +kernel, by decide +kernel, by decide +kernel⟩ mw_821 mw_696 mw_697 mw_86 mw_698 (by decide) (by decide)
def wX9_rehearse_J111 (Λ : hx_L) (K : hx_M → Prop) (K50 : Int32 → hx_M → Prop) (v1 : Nat) (v2 : Int32) (v3 : Int32) (v4 : Int32) (v5 : Int64) (v7 : Int32) (v8 : Int32) (v9 : Int32) (t1 : Int32) (t2 : Int32) (μ : hx_M) : Prop := vp_in t1 301 ∧ wX10_pass Λ (hx_sI μ 20 t1.toNatClampNeg t2) v1 (fun m117_5 => K50 (v9 + 1) m117_5)
set_option maxRecDepth 100000 in
set_option maxHeartbeats 4000000 in
theorem kX9_rehearse_J111 {G : hx_GT} {KK : hx_KT} (hG : hx_K cX9_rehearse 11 0 0 (none) TbX9 KK G) (cA : hx_CA RX9 cX9_rehearse 7 0 0 G) {Λ : hx_L} (hF : cF Λ) {μ : hx_M} (v1 : Nat) (v2 : Int32) (v3 : Int32) (v4 : Int32) (v5 : Int64) (v7 : Int32) (v8 : Int32) (v9 : Int32) (t1 : Int32) (t2 : Int32) {K : hx_M → Prop} (hK : ∀ (m : hx_M), K m → KK none Λ m) {K50 : Int32 → hx_M → Prop} (hk50 : ∀ (v9 : Int32) (μ : hx_M), K50 v9 μ → G Λ μ (0, 0) 50 [some (.ref 28), some (.ref v1), some (.int v2), some (.int v3), some (.int v4), some (.long v5), none, some (.int v7), some (.int v8), some (.int v9), none] []) (hw : wX9_rehearse_J111 Λ K K50 v1 v2 v3 v4 v5 v7 v8 v9 t1 t2 μ) : G Λ μ (0, 0) 111 [some (.ref 28), some (.ref v1), some (.int v2), some (.int v3), some (.int v4), some (.long v5), none, some (.int v7), some (.int v8), some (.int v9), none] [.int t2, .int t1, .ref 20] := by
  unfold wX9_rehearse_J111 at hw
  obtain ⟨i111_4, hw⟩ := hw
  refine cl_iast hG (hx_dq tdX9_rehearse_1 21 rfl) (cF_S20 hF) i111_4 (cl_aload_n hG (hx_dq tdX9_rehearse_1 22 rfl) rfl (cl_getS hG fmX9_9 (hx_dq tdX9_rehearse_1 23 rfl) (cF_S28 hF) (cF_R28_0 hF) (cl_aload_n hG (hx_dq tdX9_rehearse_1 24 rfl) rfl (cl_callV1 (caX9_rehearse_49 cA) (hx_dq tdX9_rehearse_1 25 rfl) (cF_S7 hF) (Nat.le_of_ble_eq_true rfl) (Nat.le_refl _) (Nat.le_refl _) (sX10_pass_mk hF hw (fun m117_5 hw => ?_))))))
  exact cl_iinc hG (v9 + 1) (hx_dq tdX9_rehearse_1 26 rfl) rfl (congrArg (fun z => v9 + z) iconst_1) (Nat.le_of_ble_eq_true rfl) rfl (cl_goto hG 50 (hx_dq tdX9_rehearse_1 27 rfl) rfl (cl_sub hG (hx_le_c rfl (hx_le_c rfl (hx_le_c rfl (hx_le_c rfl (hx_le_c rfl (hx_le_c rfl (hx_le_n (hx_le_c rfl (hx_le_c rfl (hx_le_c rfl (hx_le_n hx_le_0))))))))))) (hk50 (v9 + 1) _ hw)))
def wX9_rehearse_J80 (Λ : hx_L) (K : hx_M → Prop) (K50 : Int32 → hx_M → Prop) (v1 : Nat) (v2 : Int32) (v3 : Int32) (v4 : Int32) (v5 : Int64) (v7 : Int32) (v8 : Int32) (v9 : Int32) (t0 : Int32) (μ : hx_M) : Prop := (t0 = 0 → (wX9_rehearse_J111 Λ K (K50) v1 v2 v3 v4 v5 v7 v8 v9 (μ.1 7 7) v8 μ)) ∧ (¬ (t0 = 0) → (wX9_rehearse_J111 Λ K (K50) v1 v2 v3 v4 v5 v7 v8 v9 (μ.1 7 7) v4 μ))
set_option maxRecDepth 100000 in
set_option maxHeartbeats 4000000 in
theorem kX9_rehearse_J80 {G : hx_GT} {KK : hx_KT} (hG : hx_K cX9_rehearse 11 0 0 (none) TbX9 KK G) (cA : hx_CA RX9 cX9_rehearse 7 0 0 G) {Λ : hx_L} (hF : cF Λ) {μ : hx_M} (v1 : Nat) (v2 : Int32) (v3 : Int32) (v4 : Int32) (v5 : Int64) (v7 : Int32) (v8 : Int32) (v9 : Int32) (t0 : Int32) {K : hx_M → Prop} (hK : ∀ (m : hx_M), K m → KK none Λ m) {K50 : Int32 → hx_M → Prop} (hk50 : ∀ (v9 : Int32) (μ : hx_M), K50 v9 μ → G Λ μ (0, 0) 50 [some (.ref 28), some (.ref v1), some (.int v2), some (.int v3), some (.int v4), some (.long v5), none, some (.int v7), some (.int v8), some (.int v9), none] []) (hw : wX9_rehearse_J80 Λ K K50 v1 v2 v3 v4 v5 v7 v8 v9 t0 μ) : G Λ μ (0, 0) 80 [some (.ref 28), some (.ref v1), some (.int v2), some (.int v3), some (.int v4), some (.long v5), none, some (.int v7), some (.int v8), some (.int v9), none] [.int t0] := by
  unfold wX9_rehearse_J80 at hw
  refine cl_istore hG (hx_dq tdX9_rehearse_1 8 rfl) (Nat.le_of_ble_eq_true rfl) rfl (cl_aload_n hG (hx_dq tdX9_rehearse_1 9 rfl) rfl (cl_getS hG fmX9_9 (hx_dq tdX9_rehearse_1 10 rfl) (cF_S28 hF) (cF_R28_0 hF) (cl_getS hG fmX9_39 (hx_dq tdX9_rehearse_1 11 rfl) (cF_S7 hF) (cF_R7_1 hF) (cl_getS hG fmX9_43 (hx_dq tdX9_rehearse_1 12 rfl) (cF_S15 hF) (cF_R15_5 hF) (cl_aload_n hG (hx_dq tdX9_rehearse_1 13 rfl) rfl (cl_getS hG fmX9_9 (hx_dq tdX9_rehearse_1 14 rfl) (cF_S28 hF) (cF_R28_0 hF) (cl_getI hG fmX9_35 (hx_dq tdX9_rehearse_1 15 rfl) (cF_S7 hF) (cl_iload hG (hx_dq tdX9_rehearse_1 16 rfl) rfl (cl_if_eq hG 109 (hx_dq tdX9_rehearse_1 17 rfl) rfl (fun c101 => ?_) (fun c101 => ?_))))))))))
  · replace hw := hw.1 c101
    refine cl_iload hG (hx_dq tdX9_rehearse_1 20 rfl) rfl ?_
    exact cl_sub hG (hx_le_c rfl (hx_le_c rfl (hx_le_c rfl (hx_le_c rfl (hx_le_c rfl (hx_le_c rfl (hx_le_n (hx_le_c rfl (hx_le_c rfl (hx_le_c rfl (hx_le_n hx_le_0))))))))))) (kX9_rehearse_J111 hG cA hF v1 v2 v3 v4 v5 v7 v8 v9 (μ.1 7 7) v8 hK (fun z0 z1 hw => hk50 z0 z1 hw) hw)
  · replace hw := hw.2 c101
    refine cl_iload hG (hx_dq tdX9_rehearse_1 18 rfl) rfl (cl_goto hG 111 (hx_dq tdX9_rehearse_1 19 rfl) rfl ?_)
    exact cl_sub hG (hx_le_c rfl (hx_le_c rfl (hx_le_c rfl (hx_le_c rfl (hx_le_c rfl (hx_le_c rfl (hx_le_n (hx_le_c rfl (hx_le_c rfl (hx_le_c rfl (hx_le_n hx_le_0))))))))))) (kX9_rehearse_J111 hG cA hF v1 v2 v3 v4 v5 v7 v8 v9 (μ.1 7 7) v4 hK (fun z0 z1 hw => hk50 z0 z1 hw) hw)
def wX9_rehearse_J79 (Λ : hx_L) (K : hx_M → Prop) (K50 : Int32 → hx_M → Prop) (v1 : Nat) (v2 : Int32) (v3 : Int32) (v4 : Int32) (v5 : Int64) (v7 : Int32) (v8 : Int32) (v9 : Int32)  (μ : hx_M) : Prop := wX9_rehearse_J80 Λ K (K50) v1 v2 v3 v4 v5 v7 v8 v9 0 μ
set_option maxRecDepth 100000 in
set_option maxHeartbeats 4000000 in
theorem kX9_rehearse_J79 {G : hx_GT} {KK : hx_KT} (hG : hx_K cX9_rehearse 11 0 0 (none) TbX9 KK G) (cA : hx_CA RX9 cX9_rehearse 7 0 0 G) {Λ : hx_L} (hF : cF Λ) {μ : hx_M} (v1 : Nat) (v2 : Int32) (v3 : Int32) (v4 : Int32) (v5 : Int64) (v7 : Int32) (v8 : Int32) (v9 : Int32)  {K : hx_M → Prop} (hK : ∀ (m : hx_M), K m → KK none Λ m) {K50 : Int32 → hx_M → Prop} (hk50 : ∀ (v9 : Int32) (μ : hx_M), K50 v9 μ → G Λ μ (0, 0) 50 [some (.ref 28), some (.ref v1), some (.int v2), some (.int v3), some (.int v4), some (.long v5), none, some (.int v7), some (.int v8), some (.int v9), none] []) (hw : wX9_rehearse_J79 Λ K K50 v1 v2 v3 v4 v5 v7 v8 v9 μ) : G Λ μ (0, 0) 79 [some (.ref 28), some (.ref v1), some (.int v2), some (.int v3), some (.int v4), some (.long v5), none, some (.int v7), some (.int v8), some (.int v9), none] [] := by
  unfold wX9_rehearse_J79 at hw
  refine cl_iconst hG 0 (hx_dq tdX9_rehearse_1 7 rfl) iconst_0 ?_
  exact cl_sub hG (hx_le_c rfl (hx_le_c rfl (hx_le_c rfl (hx_le_c rfl (hx_le_c rfl (hx_le_c rfl (hx_le_n (hx_le_c rfl (hx_le_c rfl (hx_le_c rfl (hx_le_n hx_le_0))))))))))) (kX9_rehearse_J80 hG cA hF v1 v2 v3 v4 v5 v7 v8 v9 0 hK (fun z0 z1 hw => hk50 z0 z1 hw) hw)
def wX9_rehearse_J111_8 (Λ : hx_L) (K : hx_M → Prop) (K50 : Int32 → hx_M → Prop) (v1 : Nat) (v2 : Int32) (v3 : Int32) (v4 : Int32) (v5 : Int64) (v7 : Int32) (v8 : Int32) (v9 : Int32) (t1 : Int32) (t2 : Int32) (μ : hx_M) : Prop := vp_in t1 301 ∧ wX10_pass Λ (hx_sI μ 20 t1.toNatClampNeg t2) v1 (fun m117_10 => K50 (v9 + 1) m117_10)
set_option maxRecDepth 100000 in
set_option maxHeartbeats 4000000 in
theorem kX9_rehearse_J111_8 {G : hx_GT} {KK : hx_KT} (hG : hx_K cX9_rehearse 11 0 0 (none) TbX9 KK G) (cA : hx_CA RX9 cX9_rehearse 7 0 0 G) {Λ : hx_L} (hF : cF Λ) {μ : hx_M} (v1 : Nat) (v2 : Int32) (v3 : Int32) (v4 : Int32) (v5 : Int64) (v7 : Int32) (v8 : Int32) (v9 : Int32) (t1 : Int32) (t2 : Int32) {K : hx_M → Prop} (hK : ∀ (m : hx_M), K m → KK none Λ m) {K50 : Int32 → hx_M → Prop} (hk50 : ∀ (v9 : Int32) (μ : hx_M), K50 v9 μ → G Λ μ (0, 0) 50 [some (.ref 28), some (.ref v1), some (.int v2), some (.int v3), some (.int v4), some (.long v5), none, some (.int v7), some (.int v8), some (.int v9), none] []) (hw : wX9_rehearse_J111_8 Λ K K50 v1 v2 v3 v4 v5 v7 v8 v9 t1 t2 μ) : G Λ μ (0, 0) 111 [some (.ref 28), some (.ref v1), some (.int v2), some (.int v3), some (.int v4), some (.long v5), none, some (.int v7), some (.int v8), some (.int v9), none] [.int t2, .int t1, .ref 20] := by
  unfold wX9_rehearse_J111_8 at hw
  obtain ⟨i111_9, hw⟩ := hw
  refine cl_iast hG (hx_dq tdX9_rehearse_1 21 rfl) (cF_S20 hF) i111_9 (cl_aload_n hG (hx_dq tdX9_rehearse_1 22 rfl) rfl (cl_getS hG fmX9_9 (hx_dq tdX9_rehearse_1 23 rfl) (cF_S28 hF) (cF_R28_0 hF) (cl_aload_n hG (hx_dq tdX9_rehearse_1 24 rfl) rfl (cl_callV1 (caX9_rehearse_49 cA) (hx_dq tdX9_rehearse_1 25 rfl) (cF_S7 hF) (Nat.le_of_ble_eq_true rfl) (Nat.le_refl _) (Nat.le_refl _) (sX10_pass_mk hF hw (fun m117_10 hw => ?_))))))
  exact cl_iinc hG (v9 + 1) (hx_dq tdX9_rehearse_1 26 rfl) rfl (congrArg (fun z => v9 + z) iconst_1) (Nat.le_of_ble_eq_true rfl) rfl (cl_goto hG 50 (hx_dq tdX9_rehearse_1 27 rfl) rfl (cl_sub hG (hx_le_c rfl (hx_le_c rfl (hx_le_c rfl (hx_le_c rfl (hx_le_c rfl (hx_le_c rfl (hx_le_n (hx_le_c rfl (hx_le_c rfl (hx_le_c rfl (hx_le_n hx_le_0))))))))))) (hk50 (v9 + 1) _ hw)))
def wX9_rehearse_J80_7 (Λ : hx_L) (K : hx_M → Prop) (K50 : Int32 → hx_M → Prop) (v1 : Nat) (v2 : Int32) (v3 : Int32) (v4 : Int32) (v5 : Int64) (v7 : Int32) (v8 : Int32) (v9 : Int32) (t0 : Int32) (μ : hx_M) : Prop := (t0 = 0 → (wX9_rehearse_J111_8 Λ K (K50) v1 v2 v3 v4 v5 v7 v8 v9 (μ.1 7 7) v8 μ)) ∧ (¬ (t0 = 0) → (wX9_rehearse_J111_8 Λ K (K50) v1 v2 v3 v4 v5 v7 v8 v9 (μ.1 7 7) v4 μ))
set_option maxRecDepth 100000 in
set_option maxHeartbeats 4000000 in
theorem kX9_rehearse_J80_7 {G : hx_GT} {KK : hx_KT} (hG : hx_K cX9_rehearse 11 0 0 (none) TbX9 KK G) (cA : hx_CA RX9 cX9_rehearse 7 0 0 G) {Λ : hx_L} (hF : cF Λ) {μ : hx_M} (v1 : Nat) (v2 : Int32) (v3 : Int32) (v4 : Int32) (v5 : Int64) (v7 : Int32) (v8 : Int32) (v9 : Int32) (t0 : Int32) {K : hx_M → Prop} (hK : ∀ (m : hx_M), K m → KK none Λ m) {K50 : Int32 → hx_M → Prop} (hk50 : ∀ (v9 : Int32) (μ : hx_M), K50 v9 μ → G Λ μ (0, 0) 50 [some (.ref 28), some (.ref v1), some (.int v2), some (.int v3), some (.int v4), some (.long v5), none, some (.int v7), some (.int v8), some (.int v9), none] []) (hw : wX9_rehearse_J80_7 Λ K K50 v1 v2 v3 v4 v5 v7 v8 v9 t0 μ) : G Λ μ (0, 0) 80 [some (.ref 28), some (.ref v1), some (.int v2), some (.int v3), some (.int v4), some (.long v5), none, some (.int v7), some (.int v8), some (.int v9), none] [.int t0] := by
  unfold wX9_rehearse_J80_7 at hw
  refine cl_istore hG (hx_dq tdX9_rehearse_1 8 rfl) (Nat.le_of_ble_eq_true rfl) rfl (cl_aload_n hG (hx_dq tdX9_rehearse_1 9 rfl) rfl (cl_getS hG fmX9_9 (hx_dq tdX9_rehearse_1 10 rfl) (cF_S28 hF) (cF_R28_0 hF) (cl_getS hG fmX9_39 (hx_dq tdX9_rehearse_1 11 rfl) (cF_S7 hF) (cF_R7_1 hF) (cl_getS hG fmX9_43 (hx_dq tdX9_rehearse_1 12 rfl) (cF_S15 hF) (cF_R15_5 hF) (cl_aload_n hG (hx_dq tdX9_rehearse_1 13 rfl) rfl (cl_getS hG fmX9_9 (hx_dq tdX9_rehearse_1 14 rfl) (cF_S28 hF) (cF_R28_0 hF) (cl_getI hG fmX9_35 (hx_dq tdX9_rehearse_1 15 rfl) (cF_S7 hF) (cl_iload hG (hx_dq tdX9_rehearse_1 16 rfl) rfl (cl_if_eq hG 109 (hx_dq tdX9_rehearse_1 17 rfl) rfl (fun c101 => ?_) (fun c101 => ?_))))))))))
  · replace hw := hw.1 c101
    refine cl_iload hG (hx_dq tdX9_rehearse_1 20 rfl) rfl ?_
    exact cl_sub hG (hx_le_c rfl (hx_le_c rfl (hx_le_c rfl (hx_le_c rfl (hx_le_c rfl (hx_le_c rfl (hx_le_n (hx_le_c rfl (hx_le_c rfl (hx_le_c rfl (hx_le_n hx_le_0))))))))))) (kX9_rehearse_J111_8 hG cA hF v1 v2 v3 v4 v5 v7 v8 v9 (μ.1 7 7) v8 hK (fun z0 z1 hw => hk50 z0 z1 hw) hw)
  · replace hw := hw.2 c101
    refine cl_iload hG (hx_dq tdX9_rehearse_1 18 rfl) rfl (cl_goto hG 111 (hx_dq tdX9_rehearse_1 19 rfl) rfl ?_)
    exact cl_sub hG (hx_le_c rfl (hx_le_c rfl (hx_le_c rfl (hx_le_c rfl (hx_le_c rfl (hx_le_c rfl (hx_le_n (hx_le_c rfl (hx_le_c rfl (hx_le_c rfl (hx_le_n hx_le_0))))))))))) (kX9_rehearse_J111_8 hG cA hF v1 v2 v3 v4 v5 v7 v8 v9 (μ.1 7 7) v4 hK (fun z0 z1 hw => hk50 z0 z1 hw) hw)
def wX9_rehearse_L50 (Λ : hx_L) (v1 : Nat) (v2 : Int32) (v3 : Int32) (v4 : Int32) (v5 : Int64) (v7 : Int32) (v8 : Int32) (K : hx_M → Prop) (K126 : hx_M → Prop) : Nat → Int32 → hx_M → Prop
  | 0, _, _ => False
  | n + 1, v9, μ => (v2 ≤ v9 → (K126 μ)) ∧ (¬ (v2 ≤ v9) → ((v4 = (-1) → (wX9_rehearse_J79 Λ K (wX9_rehearse_L50 Λ v1 v2 v3 v4 v5 v7 v8 K K126 n) v1 v2 v3 v4 v5 v7 v8 v9 μ)) ∧ (¬ (v4 = (-1)) → ((v3 ≤ 0 → (wX9_rehearse_J79 Λ K (wX9_rehearse_L50 Λ v1 v2 v3 v4 v5 v7 v8 K K126 n) v1 v2 v3 v4 v5 v7 v8 v9 μ)) ∧ (¬ (v3 ≤ 0) → (¬ v3 = 0 ∧ (((v9 / v3) - (v9 / v3) / 2 * 2) ≠ 0 → (wX9_rehearse_J79 Λ K (wX9_rehearse_L50 Λ v1 v2 v3 v4 v5 v7 v8 K K126 n) v1 v2 v3 v4 v5 v7 v8 v9 μ)) ∧ (((v9 / v3) - (v9 / v3) / 2 * 2) = 0 → (wX9_rehearse_J80_7 Λ K (wX9_rehearse_L50 Λ v1 v2 v3 v4 v5 v7 v8 K K126 n) v1 v2 v3 v4 v5 v7 v8 v9 1 μ))))))))
set_option maxRecDepth 100000 in
set_option maxHeartbeats 4000000 in
theorem kX9_rehearse_L50 {G : hx_GT} {KK : hx_KT} (hG : hx_K cX9_rehearse 11 0 0 (none) TbX9 KK G) (cA : hx_CA RX9 cX9_rehearse 7 0 0 G) {Λ : hx_L} (hF : cF Λ)  (v1 : Nat) (v2 : Int32) (v3 : Int32) (v4 : Int32) (v5 : Int64) (v7 : Int32) (v8 : Int32) {K : hx_M → Prop} (hK : ∀ (m : hx_M), K m → KK none Λ m) {K126 : hx_M → Prop} (hk126 : ∀ (μ : hx_M), K126 μ → G Λ μ (0, 0) 126 [some (.ref 28), none, none, none, none, some (.long v5), none, some (.int v7), some (.int v8), none, none] []) : ∀ (n : Nat) (v9 : Int32) (μ : hx_M), wX9_rehearse_L50 Λ v1 v2 v3 v4 v5 v7 v8 K K126 n v9 μ → G Λ μ (0, 0) 50 [some (.ref 28), some (.ref v1), some (.int v2), some (.int v3), some (.int v4), some (.long v5), none, some (.int v7), some (.int v8), some (.int v9), none] [] := by
  intro n
  induction n with
  | zero =>
    intro v9 μ hw
    exact False.elim (by simpa only [wX9_rehearse_L50] using hw)
  | succ n ih =>
    intro v9 μ hw
    unfold wX9_rehearse_L50 at hw
    refine cl_iload hG (hx_dq tdX9_rehearse_0 23 rfl) rfl (cl_iload_n hG (hx_dq tdX9_rehearse_0 24 rfl) rfl (cl_icmp_ge hG 126 (hx_dq tdX9_rehearse_0 25 rfl) rfl (fun c53 => ?_) (fun c53 => ?_)))
    · replace hw := hw.1 c53
      exact cl_sub hG (hx_le_c rfl (hx_le_n (hx_le_n (hx_le_n (hx_le_n (hx_le_c rfl (hx_le_n (hx_le_c rfl (hx_le_c rfl (hx_le_n (hx_le_n hx_le_0))))))))))) (hk126 _ hw)
    · replace hw := hw.2 c53
      refine cl_iload hG (hx_dq tdX9_rehearse_0 26 rfl) rfl (cl_iconst hG (-1) (hx_dq tdX9_rehearse_0 27 rfl) iconst_m1 (cl_icmp_eq hG 79 (hx_dq tdX9_rehearse_0 28 rfl) rfl (fun c59 => ?_) (fun c59 => ?_)))
      · replace hw := hw.1 c59
        exact cl_sub hG (hx_le_c rfl (hx_le_c rfl (hx_le_c rfl (hx_le_c rfl (hx_le_c rfl (hx_le_c rfl (hx_le_n (hx_le_c rfl (hx_le_c rfl (hx_le_c rfl (hx_le_n hx_le_0))))))))))) (kX9_rehearse_J79 hG cA hF v1 v2 v3 v4 v5 v7 v8 v9 hK (fun z0 z1 hw => ih z0 z1 hw) hw)
      · replace hw := hw.2 c59
        refine cl_iload_n hG (hx_dq tdX9_rehearse_0 29 rfl) rfl (cl_if_le hG 79 (hx_dq tdX9_rehearse_0 30 rfl) rfl (fun c63 => ?_) (fun c63 => ?_))
        · replace hw := hw.1 c63
          exact cl_sub hG (hx_le_c rfl (hx_le_c rfl (hx_le_c rfl (hx_le_c rfl (hx_le_c rfl (hx_le_c rfl (hx_le_n (hx_le_c rfl (hx_le_c rfl (hx_le_c rfl (hx_le_n hx_le_0))))))))))) (kX9_rehearse_J79 hG cA hF v1 v2 v3 v4 v5 v7 v8 v9 hK (fun z0 z1 hw => ih z0 z1 hw) hw)
        · replace hw := hw.2 c63
          obtain ⟨o69, hw⟩ := hw
          refine cl_iload hG (hx_dq tdX9_rehearse_0 31 rfl) rfl (cl_iload_n hG (hx_dq tdX9_rehearse_1 0 rfl) rfl (cl_idiv hG (hx_dq tdX9_rehearse_1 1 rfl) o69 (cl_iconst hG 2 (hx_dq tdX9_rehearse_1 2 rfl) iconst_2 (cl_irem hG (hx_dq tdX9_rehearse_1 3 rfl) (by decide) (cl_if_ne hG 79 (hx_dq tdX9_rehearse_1 4 rfl) rfl (fun c72 => ?_) (fun c72 => ?_))))))
          · replace hw := hw.1 c72
            exact cl_sub hG (hx_le_c rfl (hx_le_c rfl (hx_le_c rfl (hx_le_c rfl (hx_le_c rfl (hx_le_c rfl (hx_le_n (hx_le_c rfl (hx_le_c rfl (hx_le_c rfl (hx_le_n hx_le_0))))))))))) (kX9_rehearse_J79 hG cA hF v1 v2 v3 v4 v5 v7 v8 v9 hK (fun z0 z1 hw => ih z0 z1 hw) hw)
          · replace hw := hw.2 c72
            refine cl_iconst hG 1 (hx_dq tdX9_rehearse_1 5 rfl) iconst_1 (cl_goto hG 80 (hx_dq tdX9_rehearse_1 6 rfl) rfl ?_)
            exact cl_sub hG (hx_le_c rfl (hx_le_c rfl (hx_le_c rfl (hx_le_c rfl (hx_le_c rfl (hx_le_c rfl (hx_le_n (hx_le_c rfl (hx_le_c rfl (hx_le_c rfl (hx_le_n hx_le_0))))))))))) (kX9_rehearse_J80_7 hG cA hF v1 v2 v3 v4 v5 v7 v8 v9 1 hK (fun z0 z1 hw => ih z0 z1 hw) hw)
def wX9_rehearse (Λ : hx_L) (μ : hx_M) (v1 : Nat) (v2 : Int32) (v3 : Int32) (v4 : Int32) (K : hx_M → Prop) : Prop := wX4_copyOf Λ μ 29 (some 8) (fun m11_1 => vp_in (m11_1.1 7 7) 301 ∧ ∃ n50_16, wX9_rehearse_L50 Λ v1 v2 v3 v4 (m11_1.2 7 6) (m11_1.1 7 7) ((m11_1.1 20 ((m11_1.1 7 7).toNatClampNeg))) K (fun m_12 => vp_in (m11_1.1 7 7) 301 ∧ wX4_copyOf Λ (hx_sL (hx_sI (hx_sI m_12 20 ((m11_1.1 7 7).toNatClampNeg) ((m11_1.1 20 ((m11_1.1 7 7).toNatClampNeg)))) 7 7 (m11_1.1 7 7)) 7 6 (m11_1.2 7 6)) 8 (some 29) (fun m170_14 => K m170_14)) n50_16 0 m11_1)
set_option maxRecDepth 100000 in
set_option maxHeartbeats 4000000 in
theorem kX9_rehearse {G : hx_GT} {KK : hx_KT} (hG : hx_K cX9_rehearse 11 0 0 (none) TbX9 KK G) (cA : hx_CA RX9 cX9_rehearse 7 0 0 G) {Λ : hx_L} (hF : cF Λ) {μ : hx_M} (v1 : Nat) (v2 : Int32) (v3 : Int32) (v4 : Int32) {K : hx_M → Prop} (hK : ∀ (m : hx_M), K m → KK none Λ m) (hw : wX9_rehearse Λ μ v1 v2 v3 v4 K) : G Λ μ (0, 0) 0 [some (.ref 28), some (.ref v1), some (.int v2), some (.int v3), some (.int v4), none, none, none, none, none, none] [] := by
  unfold wX9_rehearse at hw
  refine cl_aload_n hG (hx_dq tdX9_rehearse_0 0 rfl) rfl (cl_getS hG fmX9_18 (hx_dq tdX9_rehearse_0 1 rfl) (cF_S28 hF) (cF_R28_1 hF) (cl_aload_n hG (hx_dq tdX9_rehearse_0 2 rfl) rfl (cl_getS hG fmX9_9 (hx_dq tdX9_rehearse_0 3 rfl) (cF_S28 hF) (cF_R28_0 hF) (cl_getS hG fmX9_22 (hx_dq tdX9_rehearse_0 4 rfl) (cF_S7 hF) (cF_R7_0 hF) (cl_callV1 (caX9_rehearse_27 cA) (hx_dq tdX9_rehearse_0 5 rfl) (cF_S29 hF) (Nat.le_of_ble_eq_true rfl) (Nat.le_refl _) (Nat.le_refl _) (sX4_copyOf_mk hw (fun m11_1 hw => ?_)))))))
  obtain ⟨i44_3, hw⟩ := hw
  refine cl_aload_n hG (hx_dq tdX9_rehearse_0 6 rfl) rfl (cl_getS hG fmX9_9 (hx_dq tdX9_rehearse_0 7 rfl) (cF_S28 hF) (cF_R28_0 hF) (cl_getL hG fmX9_31 (hx_dq tdX9_rehearse_0 8 rfl) (cF_S7 hF) (cl_lstore hG (hx_dq tdX9_rehearse_0 9 rfl) (Nat.le_of_ble_eq_true rfl) rfl (cl_aload_n hG (hx_dq tdX9_rehearse_0 10 rfl) rfl (cl_getS hG fmX9_9 (hx_dq tdX9_rehearse_0 11 rfl) (cF_S28 hF) (cF_R28_0 hF) (cl_getI hG fmX9_35 (hx_dq tdX9_rehearse_0 12 rfl) (cF_S7 hF) (cl_istore hG (hx_dq tdX9_rehearse_0 13 rfl) (Nat.le_of_ble_eq_true rfl) rfl (cl_aload_n hG (hx_dq tdX9_rehearse_0 14 rfl) rfl (cl_getS hG fmX9_9 (hx_dq tdX9_rehearse_0 15 rfl) (cF_S28 hF) (cF_R28_0 hF) (cl_getS hG fmX9_39 (hx_dq tdX9_rehearse_0 16 rfl) (cF_S7 hF) (cF_R7_1 hF) (cl_getS hG fmX9_43 (hx_dq tdX9_rehearse_0 17 rfl) (cF_S15 hF) (cF_R15_5 hF) (cl_iload hG (hx_dq tdX9_rehearse_0 18 rfl) rfl (cl_iald hG (hx_dq tdX9_rehearse_0 19 rfl) (cF_S20 hF) i44_3 (cl_istore hG (hx_dq tdX9_rehearse_0 20 rfl) (Nat.le_of_ble_eq_true rfl) rfl (cl_iconst hG 0 (hx_dq tdX9_rehearse_0 21 rfl) iconst_0 (cl_istore hG (hx_dq tdX9_rehearse_0 22 rfl) (Nat.le_of_ble_eq_true rfl) rfl ?_))))))))))))))))
  obtain ⟨n_, hw⟩ := hw
  refine cl_sub hG (hx_le_c rfl (hx_le_c rfl (hx_le_c rfl (hx_le_c rfl (hx_le_c rfl (hx_le_c rfl (hx_le_n (hx_le_c rfl (hx_le_c rfl (hx_le_c rfl (hx_le_n hx_le_0))))))))))) (kX9_rehearse_L50 hG cA hF v1 v2 v3 v4 (m11_1.2 7 6) (m11_1.1 7 7) ((m11_1.1 20 ((m11_1.1 7 7).toNatClampNeg))) hK (fun m_12 hw => ?_) n_ 0 _ hw)
  · obtain ⟨i140_13, hw⟩ := hw
    refine cl_aload_n hG (hx_dq tdX9_rehearse_1 28 rfl) rfl (cl_getS hG fmX9_9 (hx_dq tdX9_rehearse_1 29 rfl) (cF_S28 hF) (cF_R28_0 hF) (cl_getS hG fmX9_39 (hx_dq tdX9_rehearse_1 30 rfl) (cF_S7 hF) (cF_R7_1 hF) (cl_getS hG fmX9_43 (hx_dq tdX9_rehearse_1 31 rfl) (cF_S15 hF) (cF_R15_5 hF) (cl_iload hG (hx_dq tdX9_rehearse_2 0 rfl) rfl (cl_iload hG (hx_dq tdX9_rehearse_2 1 rfl) rfl (cl_iast hG (hx_dq tdX9_rehearse_2 2 rfl) (cF_S20 hF) i140_13 (cl_aload_n hG (hx_dq tdX9_rehearse_2 3 rfl) rfl (cl_getS hG fmX9_9 (hx_dq tdX9_rehearse_2 4 rfl) (cF_S28 hF) (cF_R28_0 hF) (cl_iload hG (hx_dq tdX9_rehearse_2 5 rfl) rfl (cl_putI hG fmX9_35 (hx_dq tdX9_rehearse_2 6 rfl) (cF_S7 hF) (cl_aload_n hG (hx_dq tdX9_rehearse_2 7 rfl) rfl (cl_getS hG fmX9_9 (hx_dq tdX9_rehearse_2 8 rfl) (cF_S28 hF) (cF_R28_0 hF) (cl_lload hG (hx_dq tdX9_rehearse_2 9 rfl) rfl (cl_putL hG fmX9_31 (hx_dq tdX9_rehearse_2 10 rfl) (cF_S7 hF) (cl_aload_n hG (hx_dq tdX9_rehearse_2 11 rfl) rfl (cl_getS hG fmX9_9 (hx_dq tdX9_rehearse_2 12 rfl) (cF_S28 hF) (cF_R28_0 hF) (cl_getS hG fmX9_22 (hx_dq tdX9_rehearse_2 13 rfl) (cF_S7 hF) (cF_R7_0 hF) (cl_aload_n hG (hx_dq tdX9_rehearse_2 14 rfl) rfl (cl_getS hG fmX9_18 (hx_dq tdX9_rehearse_2 15 rfl) (cF_S28 hF) (cF_R28_1 hF) (cl_callV1 (caX9_rehearse_27 cA) (hx_dq tdX9_rehearse_2 16 rfl) (cF_S8 hF) (Nat.le_of_ble_eq_true rfl) (Nat.le_refl _) (Nat.le_refl _) (sX4_copyOf_mk hw (fun m170_14 hw => ?_))))))))))))))))))))))
    exact cl_vret hG (hx_dq tdX9_rehearse_2 17 rfl) rfl (hK _ hw) (Nat.le_refl _) (Nat.le_refl _)
def sX9_rehearse : hx_ST := fun Λ μ as KK => cF Λ ∧ ∃ (v1 : Nat) (v2 : Int32) (v3 : Int32) (v4 : Int32) (K : hx_M → Prop), as = [.ref 28, .ref v1, .int v2, .int v3, .int v4] ∧ wX9_rehearse Λ μ v1 v2 v3 v4 K ∧ (∀ (m : hx_M), K m → KK none Λ m)
theorem sX9_rehearse_mk {Λ : hx_L} {μ : hx_M} {KK : hx_KT} {v1 : Nat} {v2 : Int32} {v3 : Int32} {v4 : Int32} {K : hx_M → Prop} (hF : cF Λ) (hw : wX9_rehearse Λ μ v1 v2 v3 v4 K) (hk : ∀ (m : hx_M), K m → KK none Λ m) : sX9_rehearse Λ μ [.ref 28, .ref v1, .int v2, .int v3, .int v4] KK := ⟨hF, _, _, _, _, _, rfl, hw, hk⟩
theorem conX9_rehearse : hx_Con yX9_rehearse cX9_rehearse 11 (none) 7 0 0 sX9_rehearse := by
  refine hx_con_of (by decide +kernel) tokX9 (by decide) ?_ ?_
  · intro Λ μ as KK h
    obtain ⟨hF, v1, v2, v3, v4, K, rfl, hw, hK⟩ := h
    exact Nat.le_of_ble_eq_true rfl
  · intro G KK hG cA Λ μ as h
    obtain ⟨hF, v1, v2, v3, v4, K, rfl, hw, hK⟩ := h
    exact cl_sub hG (hx_le_c rfl (hx_le_c rfl (hx_le_c rfl (hx_le_c rfl (hx_le_c rfl (hx_le_n (hx_le_n (hx_le_n (hx_le_n (hx_le_n (hx_le_n hx_le_0))))))))))) (kX9_rehearse hG cA hF _ _ _ _ hK hw)
/-! HemLine$Trials.sameBefore(II)I -/
def tbX9_sameBefore_0 : List (Nat × Instr × Nat) := [(0, .iconst 1, 1), (1, .iload_n 2, 1), (2, .invokestatic 57, 3), (5, .istore_n 3, 1), (6, .iload_n 1, 1), (7, .iload_n 3, 1), (8, .isub, 1), (9, .istore 4, 2), (11, .iload 4, 2), (13, .ifCond .lt 57, 3), (16, .aload_n 0, 1), (17, .getfield 9, 3), (20, .getfield 39, 3), (23, .aload_n 0, 1), (24, .getfield 9, 3), (27, .getfield 35, 3), (30, .iload 4, 2), (32, .iadd, 1), (33, .aload_n 0, 1), (34, .getfield 9, 3), (37, .getfield 35, 3), (40, .iload_n 1, 1), (41, .iadd, 1), (42, .aload_n 0, 1), (43, .getfield 9, 3), (46, .getfield 22, 3), (49, .getfield 62, 3), (52, .invokevirtual 65, 3), (55, .ifCond .eq 6, 3), (58, .iload 4, 2), (60, .ireturn, 1), (61, .iload 4, 2)]
def tbX9_sameBefore_1 : List (Nat × Instr × Nat) := [(63, .iload_n 3, 1), (64, .isub, 1), (65, .istore 4, 2), (67, .goto (-56), 3), (70, .iconst (-1), 1), (71, .ireturn, 1)]
theorem tdX9_sameBefore_0 : hx_dt cX9_sameBefore tbX9_sameBefore_0 = true := by decide +kernel
theorem tdX9_sameBefore_1 : hx_dt cX9_sameBefore tbX9_sameBefore_1 = true := by decide +kernel
theorem caX9_sameBefore_65 {G : hx_GT} (cA : hx_CA RX9 cX9_sameBefore 3 0 0 G) : hx_CV cX9_sameBefore G 0 0 65 3 3 sX3_sameLengths 0 0 := cA.1 conX3_sameLengths rfl rfl ⟨by decide +kernel, by decide +kernel, by decide +kernel⟩ mw_831 mw_832 mw_833 mw_88 mw_834 (by decide) (by decide)
def wX9_sameBefore_L11 (μ : hx_M) (v1 : Int32) (v3 : Int32) (K : Int32 → Prop)  : Nat → Int32 → Prop
  | 0, _ => False
  | n + 1, v4 => (v4 < 0 → (K (-1))) ∧ (¬ (v4 < 0) → (wX3_sameLengths μ ((μ.1 7 7) + v4) ((μ.1 7 7) + v1) (μ.1 8 0) (fun r52_2 => (r52_2 = 0 → (wX9_sameBefore_L11 μ v1 v3 K n (v4 - v3))) ∧ (¬ (r52_2 = 0) → (K v4)))))
set_option maxRecDepth 100000 in
set_option maxHeartbeats 4000000 in
theorem kX9_sameBefore_L11 {G : hx_GT} {KK : hx_KT} (hG : hx_K cX9_sameBefore 5 0 0 (some .int) TbX9 KK G) (cA : hx_CA RX9 cX9_sameBefore 3 0 0 G) {Λ : hx_L} (hF : cF Λ) {μ : hx_M} (v1 : Int32) (v3 : Int32) {K : Int32 → Prop} (hK : ∀ (r : Int32), K r → KK (some (.int r)) Λ μ)  : ∀ (n : Nat) (v4 : Int32), wX9_sameBefore_L11 μ v1 v3 K n v4 → G Λ μ (0, 0) 11 [some (.ref 28), some (.int v1), none, some (.int v3), some (.int v4)] [] := by
  intro n
  induction n with
  | zero =>
    intro v4 hw
    exact False.elim (by simpa only [wX9_sameBefore_L11] using hw)
  | succ n ih =>
    intro v4 hw
    unfold wX9_sameBefore_L11 at hw
    refine cl_iload hG (hx_dq tdX9_sameBefore_0 8 rfl) rfl (cl_if_lt hG 70 (hx_dq tdX9_sameBefore_0 9 rfl) rfl (fun c13 => ?_) (fun c13 => ?_))
    · replace hw := hw.1 c13
      exact cl_iconst hG (-1) (hx_dq tdX9_sameBefore_1 4 rfl) iconst_m1 (cl_iret hG (hx_dq tdX9_sameBefore_1 5 rfl) rfl rfl (hK _ hw) (Nat.le_refl _) (Nat.le_refl _))
    · replace hw := hw.2 c13
      refine cl_aload_n hG (hx_dq tdX9_sameBefore_0 10 rfl) rfl (cl_getS hG fmX9_9 (hx_dq tdX9_sameBefore_0 11 rfl) (cF_S28 hF) (cF_R28_0 hF) (cl_getS hG fmX9_39 (hx_dq tdX9_sameBefore_0 12 rfl) (cF_S7 hF) (cF_R7_1 hF) (cl_aload_n hG (hx_dq tdX9_sameBefore_0 13 rfl) rfl (cl_getS hG fmX9_9 (hx_dq tdX9_sameBefore_0 14 rfl) (cF_S28 hF) (cF_R28_0 hF) (cl_getI hG fmX9_35 (hx_dq tdX9_sameBefore_0 15 rfl) (cF_S7 hF) (cl_iload hG (hx_dq tdX9_sameBefore_0 16 rfl) rfl (cl_iadd hG (hx_dq tdX9_sameBefore_0 17 rfl) (cl_aload_n hG (hx_dq tdX9_sameBefore_0 18 rfl) rfl (cl_getS hG fmX9_9 (hx_dq tdX9_sameBefore_0 19 rfl) (cF_S28 hF) (cF_R28_0 hF) (cl_getI hG fmX9_35 (hx_dq tdX9_sameBefore_0 20 rfl) (cF_S7 hF) (cl_iload_n hG (hx_dq tdX9_sameBefore_0 21 rfl) rfl (cl_iadd hG (hx_dq tdX9_sameBefore_0 22 rfl) (cl_aload_n hG (hx_dq tdX9_sameBefore_0 23 rfl) rfl (cl_getS hG fmX9_9 (hx_dq tdX9_sameBefore_0 24 rfl) (cF_S28 hF) (cF_R28_0 hF) (cl_getS hG fmX9_22 (hx_dq tdX9_sameBefore_0 25 rfl) (cF_S7 hF) (cF_R7_0 hF) (cl_getI hG fmX9_62 (hx_dq tdX9_sameBefore_0 26 rfl) (cF_S8 hF) (cl_callV3 (caX9_sameBefore_65 cA) (hx_dq tdX9_sameBefore_0 27 rfl) (cF_S15 hF) (Nat.le_of_ble_eq_true rfl) (Nat.le_refl _) (Nat.le_refl _) (sX3_sameLengths_mk hF hw (fun r52_2 hw => ?_)))))))))))))))))))
      refine cl_if_eq hG 61 (hx_dq tdX9_sameBefore_0 28 rfl) rfl (fun c55 => ?_) (fun c55 => ?_)
      · replace hw := hw.1 c55
        exact cl_iload hG (hx_dq tdX9_sameBefore_0 31 rfl) rfl (cl_iload_n hG (hx_dq tdX9_sameBefore_1 0 rfl) rfl (cl_isub hG (hx_dq tdX9_sameBefore_1 1 rfl) (cl_istore hG (hx_dq tdX9_sameBefore_1 2 rfl) (Nat.le_of_ble_eq_true rfl) rfl (cl_goto hG 11 (hx_dq tdX9_sameBefore_1 3 rfl) rfl (cl_sub hG (hx_le_c rfl (hx_le_c rfl (hx_le_n (hx_le_c rfl (hx_le_c rfl hx_le_0))))) (ih (v4 - v3) hw))))))
      · replace hw := hw.2 c55
        exact cl_iload hG (hx_dq tdX9_sameBefore_0 29 rfl) rfl (cl_iret hG (hx_dq tdX9_sameBefore_0 30 rfl) rfl rfl (hK _ hw) (Nat.le_refl _) (Nat.le_refl _))
def wX9_sameBefore (μ : hx_M) (v1 : Int32) (v2 : Int32) (K : Int32 → Prop) : Prop := ∃ n11_3, wX9_sameBefore_L11 μ v1 (if 1 < v2 then v2 else 1) K n11_3 (v1 - (if 1 < v2 then v2 else 1))
set_option maxRecDepth 100000 in
set_option maxHeartbeats 4000000 in
theorem kX9_sameBefore {G : hx_GT} {KK : hx_KT} (hG : hx_K cX9_sameBefore 5 0 0 (some .int) TbX9 KK G) (cA : hx_CA RX9 cX9_sameBefore 3 0 0 G) {Λ : hx_L} (hF : cF Λ) {μ : hx_M} (v1 : Int32) (v2 : Int32) {K : Int32 → Prop} (hK : ∀ (r : Int32), K r → KK (some (.int r)) Λ μ) (hw : wX9_sameBefore μ v1 v2 K) : G Λ μ (0, 0) 0 [some (.ref 28), some (.int v1), some (.int v2), none, none] [] := by
  unfold wX9_sameBefore at hw
  refine cl_iconst hG 1 (hx_dq tdX9_sameBefore_0 0 rfl) iconst_1 (cl_iload_n hG (hx_dq tdX9_sameBefore_0 1 rfl) rfl (cl_mmax hG mmX9_57 (hx_dq tdX9_sameBefore_0 2 rfl) (Nat.le_refl _) (Nat.le_refl _) (Nat.le_of_ble_eq_true rfl) (cl_istore_n hG (hx_dq tdX9_sameBefore_0 3 rfl) (Nat.le_of_ble_eq_true rfl) rfl (cl_iload_n hG (hx_dq tdX9_sameBefore_0 4 rfl) rfl (cl_iload_n hG (hx_dq tdX9_sameBefore_0 5 rfl) rfl (cl_isub hG (hx_dq tdX9_sameBefore_0 6 rfl) (cl_istore hG (hx_dq tdX9_sameBefore_0 7 rfl) (Nat.le_of_ble_eq_true rfl) rfl ?_)))))))
  obtain ⟨n_, hw⟩ := hw
  refine cl_sub hG (hx_le_c rfl (hx_le_c rfl (hx_le_n (hx_le_c rfl (hx_le_c rfl hx_le_0))))) (kX9_sameBefore_L11 hG cA hF v1 (if 1 < v2 then v2 else 1) hK n_ (v1 - (if 1 < v2 then v2 else 1)) hw)
def sX9_sameBefore : hx_ST := fun Λ μ as KK => cF Λ ∧ ∃ (v1 : Int32) (v2 : Int32) (K : Int32 → Prop), as = [.ref 28, .int v1, .int v2] ∧ wX9_sameBefore μ v1 v2 K ∧ (∀ (r : Int32), K r → KK (some (.int r)) Λ μ)
theorem sX9_sameBefore_mk {Λ : hx_L} {μ : hx_M} {KK : hx_KT} {v1 : Int32} {v2 : Int32} {K : Int32 → Prop} (hF : cF Λ) (hw : wX9_sameBefore μ v1 v2 K) (hk : ∀ (r : Int32), K r → KK (some (.int r)) Λ μ) : sX9_sameBefore Λ μ [.ref 28, .int v1, .int v2] KK := ⟨hF, _, _, _, rfl, hw, hk⟩
theorem conX9_sameBefore : hx_Con yX9_sameBefore cX9_sameBefore 5 (some .int) 3 0 0 sX9_sameBefore := by
  refine hx_con_of (by decide +kernel) tokX9 (by decide) ?_ ?_
  · intro Λ μ as KK h
    obtain ⟨hF, v1, v2, K, rfl, hw, hK⟩ := h
    exact Nat.le_of_ble_eq_true rfl
  · intro G KK hG cA Λ μ as h
    obtain ⟨hF, v1, v2, K, rfl, hw, hK⟩ := h
    exact cl_sub hG (hx_le_c rfl (hx_le_c rfl (hx_le_c rfl (hx_le_n (hx_le_n hx_le_0))))) (kX9_sameBefore hG cA hF _ _ hK hw)
/-! HemLine$Trials.roundIn(III)I -/
def tbX9_roundIn_0 : List (Nat × Instr × Nat) := [(0, .iconst 1, 1), (1, .istore 4, 2), (3, .iload 4, 2), (5, .iload_n 1, 1), (6, .if_icmp .gt 39, 3), (9, .aload_n 0, 1), (10, .iload 4, 2), (12, .iload_n 2, 1), (13, .invokevirtual 53, 3), (16, .istore 5, 2), (18, .iload 5, 2), (20, .iconst (-1), 1), (21, .if_icmp .eq 18, 3), (24, .iload_n 3, 1), (25, .ifCond .ne 8, 3), (28, .iload 4, 2), (30, .goto 8, 3), (33, .iload 4, 2), (35, .iload 5, 2), (37, .isub, 1), (38, .ireturn, 1), (39, .iinc 4 1, 3), (42, .goto (-39), 3), (45, .iconst (-1), 1), (46, .ireturn, 1)]
theorem tdX9_roundIn_0 : hx_dt cX9_roundIn tbX9_roundIn_0 = true := by decide +kernel
theorem caX9_roundIn_53 {G : hx_GT} (cA : hx_CA RX9 cX9_roundIn 4 0 0 G) : hx_CV cX9_roundIn G 0 0 53 9 2 sX9_sameBefore 0 0 := cA.1 conX9_sameBefore rfl rfl ⟨by decide +kernel, by decide +kernel, by decide +kernel⟩ mw_826 mw_828 mw_22 mw_92 mw_829 (by decide) (by decide)
def wX9_roundIn_L3 (μ : hx_M) (v1 : Int32) (v2 : Int32) (v3 : Int32) (K : Int32 → Prop)  : Nat → Int32 → Prop
  | 0, _ => False
  | n + 1, v4 => (v1 < v4 → (K (-1))) ∧ (¬ (v1 < v4) → (wX9_sameBefore μ v4 v2 (fun r13_2 => (r13_2 = (-1) → (wX9_roundIn_L3 μ v1 v2 v3 K n (v4 + 1))) ∧ (¬ (r13_2 = (-1)) → ((v3 ≠ 0 → (K (v4 - r13_2))) ∧ (v3 = 0 → (K v4)))))))
set_option maxRecDepth 100000 in
set_option maxHeartbeats 4000000 in
theorem kX9_roundIn_L3 {G : hx_GT} {KK : hx_KT} (hG : hx_K cX9_roundIn 6 0 0 (some .int) TbX9 KK G) (cA : hx_CA RX9 cX9_roundIn 4 0 0 G) {Λ : hx_L} (hF : cF Λ) {μ : hx_M} (v1 : Int32) (v2 : Int32) (v3 : Int32) {K : Int32 → Prop} (hK : ∀ (r : Int32), K r → KK (some (.int r)) Λ μ)  : ∀ (n : Nat) (v4 : Int32), wX9_roundIn_L3 μ v1 v2 v3 K n v4 → G Λ μ (0, 0) 3 [some (.ref 28), some (.int v1), some (.int v2), some (.int v3), some (.int v4), none] [] := by
  intro n
  induction n with
  | zero =>
    intro v4 hw
    exact False.elim (by simpa only [wX9_roundIn_L3] using hw)
  | succ n ih =>
    intro v4 hw
    unfold wX9_roundIn_L3 at hw
    refine cl_iload hG (hx_dq tdX9_roundIn_0 2 rfl) rfl (cl_iload_n hG (hx_dq tdX9_roundIn_0 3 rfl) rfl (cl_icmp_gt hG 45 (hx_dq tdX9_roundIn_0 4 rfl) rfl (fun c6 => ?_) (fun c6 => ?_)))
    · replace hw := hw.1 c6
      exact cl_iconst hG (-1) (hx_dq tdX9_roundIn_0 23 rfl) iconst_m1 (cl_iret hG (hx_dq tdX9_roundIn_0 24 rfl) rfl rfl (hK _ hw) (Nat.le_refl _) (Nat.le_refl _))
    · replace hw := hw.2 c6
      refine cl_aload_n hG (hx_dq tdX9_roundIn_0 5 rfl) rfl (cl_iload hG (hx_dq tdX9_roundIn_0 6 rfl) rfl (cl_iload_n hG (hx_dq tdX9_roundIn_0 7 rfl) rfl (cl_callV2 (caX9_roundIn_53 cA) (hx_dq tdX9_roundIn_0 8 rfl) (cF_S28 hF) (Nat.le_of_ble_eq_true rfl) (Nat.le_refl _) (Nat.le_refl _) (sX9_sameBefore_mk hF hw (fun r13_2 hw => ?_)))))
      refine cl_istore hG (hx_dq tdX9_roundIn_0 9 rfl) (Nat.le_of_ble_eq_true rfl) rfl (cl_iload hG (hx_dq tdX9_roundIn_0 10 rfl) rfl (cl_iconst hG (-1) (hx_dq tdX9_roundIn_0 11 rfl) iconst_m1 (cl_icmp_eq hG 39 (hx_dq tdX9_roundIn_0 12 rfl) rfl (fun c21 => ?_) (fun c21 => ?_))))
      · replace hw := hw.1 c21
        exact cl_iinc hG (v4 + 1) (hx_dq tdX9_roundIn_0 21 rfl) rfl (congrArg (fun z => v4 + z) iconst_1) (Nat.le_of_ble_eq_true rfl) rfl (cl_goto hG 3 (hx_dq tdX9_roundIn_0 22 rfl) rfl (cl_sub hG (hx_le_c rfl (hx_le_c rfl (hx_le_c rfl (hx_le_c rfl (hx_le_c rfl (hx_le_n hx_le_0)))))) (ih (v4 + 1) hw)))
      · replace hw := hw.2 c21
        refine cl_iload_n hG (hx_dq tdX9_roundIn_0 13 rfl) rfl (cl_if_ne hG 33 (hx_dq tdX9_roundIn_0 14 rfl) rfl (fun c25 => ?_) (fun c25 => ?_))
        · replace hw := hw.1 c25
          exact cl_iload hG (hx_dq tdX9_roundIn_0 17 rfl) rfl (cl_iload hG (hx_dq tdX9_roundIn_0 18 rfl) rfl (cl_isub hG (hx_dq tdX9_roundIn_0 19 rfl) (cl_iret hG (hx_dq tdX9_roundIn_0 20 rfl) rfl rfl (hK _ hw) (Nat.le_refl _) (Nat.le_refl _))))
        · replace hw := hw.2 c25
          exact cl_iload hG (hx_dq tdX9_roundIn_0 15 rfl) rfl (cl_goto hG 38 (hx_dq tdX9_roundIn_0 16 rfl) rfl (cl_iret hG (hx_dq tdX9_roundIn_0 20 rfl) rfl rfl (hK _ hw) (Nat.le_refl _) (Nat.le_refl _)))
def wX9_roundIn (μ : hx_M) (v1 : Int32) (v2 : Int32) (v3 : Int32) (K : Int32 → Prop) : Prop := ∃ n3_3, wX9_roundIn_L3 μ v1 v2 v3 K n3_3 1
set_option maxRecDepth 100000 in
set_option maxHeartbeats 4000000 in
theorem kX9_roundIn {G : hx_GT} {KK : hx_KT} (hG : hx_K cX9_roundIn 6 0 0 (some .int) TbX9 KK G) (cA : hx_CA RX9 cX9_roundIn 4 0 0 G) {Λ : hx_L} (hF : cF Λ) {μ : hx_M} (v1 : Int32) (v2 : Int32) (v3 : Int32) {K : Int32 → Prop} (hK : ∀ (r : Int32), K r → KK (some (.int r)) Λ μ) (hw : wX9_roundIn μ v1 v2 v3 K) : G Λ μ (0, 0) 0 [some (.ref 28), some (.int v1), some (.int v2), some (.int v3), none, none] [] := by
  unfold wX9_roundIn at hw
  refine cl_iconst hG 1 (hx_dq tdX9_roundIn_0 0 rfl) iconst_1 (cl_istore hG (hx_dq tdX9_roundIn_0 1 rfl) (Nat.le_of_ble_eq_true rfl) rfl ?_)
  obtain ⟨n_, hw⟩ := hw
  refine cl_sub hG (hx_le_c rfl (hx_le_c rfl (hx_le_c rfl (hx_le_c rfl (hx_le_c rfl (hx_le_n hx_le_0)))))) (kX9_roundIn_L3 hG cA hF v1 v2 v3 hK n_ 1 hw)
def sX9_roundIn : hx_ST := fun Λ μ as KK => cF Λ ∧ ∃ (v1 : Int32) (v2 : Int32) (v3 : Int32) (K : Int32 → Prop), as = [.ref 28, .int v1, .int v2, .int v3] ∧ wX9_roundIn μ v1 v2 v3 K ∧ (∀ (r : Int32), K r → KK (some (.int r)) Λ μ)
theorem sX9_roundIn_mk {Λ : hx_L} {μ : hx_M} {KK : hx_KT} {v1 : Int32} {v2 : Int32} {v3 : Int32} {K : Int32 → Prop} (hF : cF Λ) (hw : wX9_roundIn μ v1 v2 v3 K) (hk : ∀ (r : Int32), K r → KK (some (.int r)) Λ μ) : sX9_roundIn Λ μ [.ref 28, .int v1, .int v2, .int v3] KK := ⟨hF, _, _, _, _, rfl, hw, hk⟩
theorem conX9_roundIn : hx_Con yX9_roundIn cX9_roundIn 6 (some .int) 4 0 0 sX9_roundIn := by
  refine hx_con_of (by decide +kernel) tokX9 (by decide) ?_ ?_
  · intro Λ μ as KK h
    obtain ⟨hF, v1, v2, v3, K, rfl, hw, hK⟩ := h
    exact Nat.le_of_ble_eq_true rfl
  · intro G KK hG cA Λ μ as h
    obtain ⟨hF, v1, v2, v3, K, rfl, hw, hK⟩ := h
    exact cl_sub hG (hx_le_c rfl (hx_le_c rfl (hx_le_c rfl (hx_le_c rfl (hx_le_n (hx_le_n hx_le_0)))))) (kX9_roundIn hG cA hF _ _ _ hK hw)
/-! HemLine$World.<init>(I)V -/
def tbX10_init_0 : List (Nat × Instr × Nat) := [(0, .aload_n 0, 1), (1, .invokespecial 3, 3), (4, .aload_n 0, 1), (5, .new 9, 3), (8, .dup, 1), (9, .invokespecial 11, 3), (12, .putfield 12, 3), (15, .aload_n 0, 1), (16, .new 18, 3), (19, .dup, 1), (20, .iload_n 1, 1), (21, .invokespecial 20, 3), (24, .putfield 23, 3), (27, .aload_n 0, 1), (28, .new 27, 3), (31, .dup, 1), (32, .aload_n 0, 1), (33, .getfield 12, 3), (36, .aload_n 0, 1), (37, .getfield 23, 3), (40, .invokespecial 29, 3), (43, .putfield 32, 3), (46, .aload_n 0, 1), (47, .iconst 0, 1), (48, .putfield 36, 3), (51, .aload_n 0, 1), (52, .iconst 0, 1), (53, .putfield 40, 3), (56, .aload_n 0, 1), (57, .iconst 0, 1), (58, .putfield 43, 3), (61, .aload_n 0, 1)]
def tbX10_init_1 : List (Nat × Instr × Nat) := [(62, .lconst 1, 1), (63, .putfield 46, 3), (66, .aload_n 0, 1), (67, .iconst 0, 1), (68, .putfield 50, 3), (71, .aload_n 0, 1), (72, .iconst 0, 1), (73, .putfield 53, 3), (76, .aload_n 0, 1), (77, .bipush 20, 2), (79, .newarray .int, 2), (81, .putfield 56, 3), (84, .aload_n 0, 1), (85, .bipush 20, 2), (87, .newarray .int, 2), (89, .putfield 60, 3), (92, .aload_n 0, 1), (93, .bipush 20, 2), (95, .newarray .int, 2), (97, .putfield 63, 3), (100, .return_, 1)]
theorem tdX10_init_0 : hx_dt cX10_init tbX10_init_0 = true := by decide +kernel
theorem tdX10_init_1 : hx_dt cX10_init tbX10_init_1 = true := by decide +kernel
def TAX10_init : hx_TA := ([(9, 4, 7), (18, 3, 6), (27, 6, 6)], [(12, 10, 0, 2), (23, 10, 1, 2), (32, 10, 2, 2), (56, 10, 9, 2), (60, 10, 10, 2), (63, 10, 11, 2)], [], [3])
theorem taX10_init_n9 : (9, 4, 7) ∈ TAX10_init.1 := List.mem_of_getElem? (i := 0) rfl
theorem toX10_init_n9 : hx_nok RX10 (9, 4, 7) := ⟨RX4, TX4, tyX4, rfl, inX4, tyX4_ok, mw_151, mw_152, mw_87, nkX4, rfl⟩
theorem taX10_init_n18 : (18, 3, 6) ∈ TAX10_init.1 := List.mem_of_getElem? (i := 1) rfl
theorem toX10_init_n18 : hx_nok RX10 (18, 3, 6) := ⟨RX3, TX3, tyX3, rfl, inX3, tyX3_ok, mw_199, mw_200, mw_88, nkX3, rfl⟩
theorem taX10_init_n27 : (27, 6, 6) ∈ TAX10_init.1 := List.mem_of_getElem? (i := 2) rfl
theorem toX10_init_n27 : hx_nok RX10 (27, 6, 6) := ⟨RX6, TX6, tyX6, rfl, inX6, tyX6_ok, mw_241, mw_242, mw_91, nkX6, rfl⟩
theorem taX10_init_f12 : (12, 10, 0, 2) ∈ TAX10_init.2.1 := List.mem_of_getElem? (i := 0) rfl
theorem toX10_init_f12 : hx_ffok RX10 (12, 10, 0, 2) := ⟨RX10, TX10, 12, tyX10, rfl, Nat.le_of_ble_eq_true rfl, rfl, mw_268, inX10, tyX10_ok, nmX10, rfl, rfl, fun h => absurd h (by decide), fun _ => Or.inl ⟨_, rfl⟩⟩
theorem taX10_init_f23 : (23, 10, 1, 2) ∈ TAX10_init.2.1 := List.mem_of_getElem? (i := 1) rfl
theorem toX10_init_f23 : hx_ffok RX10 (23, 10, 1, 2) := ⟨RX10, TX10, 12, tyX10, rfl, Nat.le_of_ble_eq_true rfl, rfl, mw_274, inX10, tyX10_ok, nmX10, rfl, rfl, fun h => absurd h (by decide), fun _ => Or.inl ⟨_, rfl⟩⟩
theorem taX10_init_f32 : (32, 10, 2, 2) ∈ TAX10_init.2.1 := List.mem_of_getElem? (i := 2) rfl
theorem toX10_init_f32 : hx_ffok RX10 (32, 10, 2, 2) := ⟨RX10, TX10, 12, tyX10, rfl, Nat.le_of_ble_eq_true rfl, rfl, mw_280, inX10, tyX10_ok, nmX10, rfl, rfl, fun h => absurd h (by decide), fun _ => Or.inl ⟨_, rfl⟩⟩
theorem taX10_init_f56 : (56, 10, 9, 2) ∈ TAX10_init.2.1 := List.mem_of_getElem? (i := 3) rfl
theorem toX10_init_f56 : hx_ffok RX10 (56, 10, 9, 2) := ⟨RX10, TX10, 12, tyX10, rfl, Nat.le_of_ble_eq_true rfl, rfl, mw_298, inX10, tyX10_ok, nmX10, rfl, rfl, fun h => absurd h (by decide), fun _ => Or.inr ⟨_, rfl⟩⟩
theorem taX10_init_f60 : (60, 10, 10, 2) ∈ TAX10_init.2.1 := List.mem_of_getElem? (i := 4) rfl
theorem toX10_init_f60 : hx_ffok RX10 (60, 10, 10, 2) := ⟨RX10, TX10, 12, tyX10, rfl, Nat.le_of_ble_eq_true rfl, rfl, mw_300, inX10, tyX10_ok, nmX10, rfl, rfl, fun h => absurd h (by decide), fun _ => Or.inr ⟨_, rfl⟩⟩
theorem taX10_init_f63 : (63, 10, 11, 2) ∈ TAX10_init.2.1 := List.mem_of_getElem? (i := 5) rfl
theorem toX10_init_f63 : hx_ffok RX10 (63, 10, 11, 2) := ⟨RX10, TX10, 12, tyX10, rfl, Nat.le_of_ble_eq_true rfl, rfl, mw_302, inX10, tyX10_ok, nmX10, rfl, rfl, fun h => absurd h (by decide), fun _ => Or.inr ⟨_, rfl⟩⟩
theorem taX10_init_o3 : 3 ∈ TAX10_init.2.2.2 := List.mem_of_getElem? (i := 0) rfl
theorem taokX10_init : hx_taok RX10 TAX10_init := ⟨(List.forall_mem_cons.mpr ⟨toX10_init_n9, (List.forall_mem_cons.mpr ⟨toX10_init_n18, (List.forall_mem_cons.mpr ⟨toX10_init_n27, (fun _ h => absurd h List.not_mem_nil)⟩)⟩)⟩), (List.forall_mem_cons.mpr ⟨toX10_init_f12, (List.forall_mem_cons.mpr ⟨toX10_init_f23, (List.forall_mem_cons.mpr ⟨toX10_init_f32, (List.forall_mem_cons.mpr ⟨toX10_init_f56, (List.forall_mem_cons.mpr ⟨toX10_init_f60, (List.forall_mem_cons.mpr ⟨toX10_init_f63, (fun _ h => absurd h List.not_mem_nil)⟩)⟩)⟩)⟩)⟩)⟩), (fun _ h => absurd h List.not_mem_nil), (List.forall_mem_cons.mpr ⟨mw_150, (fun _ h => absurd h List.not_mem_nil)⟩)⟩
theorem caX10_init_11 {G : hx_GT} (cA : hx_CA RX10 cX10_init 3 20 11713 G) : hx_CI cX10_init G 20 11713 11 0 sX4_init 6 176 := cA.2.2.2 conX4_init ⟨by decide +kernel, by decide +kernel, by decide +kernel⟩ rfl mw_153 mw_154 mw_87 mw_155 (by decide) (by decide)
theorem caX10_init_20 {G : hx_GT} (cA : hx_CA RX10 cX10_init 3 20 11713 G) : hx_CI cX10_init G 20 11713 20 1 sX3_init 5 11438 := cA.2.2.2 conX3_init ⟨by decide +kernel, by decide +kernel, by decide +kernel⟩ rfl mw_201 mw_202 mw_88 mw_203 (by decide) (by decide)
theorem caX10_init_29 {G : hx_GT} (cA : hx_CA RX10 cX10_init 3 20 11713 G) : hx_CI cX10_init G 20 11713 29 2 sX6_init 3 20 := cA.2.2.2 conX6_init ⟨by decide +kernel, by decide +kernel, by decide +kernel⟩ rfl mw_243 mw_244 mw_91 mw_245 (by decide) (by decide)
def wX10_init (Λ : hx_L) (μ : hx_M) (v0 : Nat) (v1 : Int32) (K : hx_L → hx_M → Prop) : Prop := Λ.2.2 < hx_big ∧ ∀ L_2 : hx_L, L_2 = hx_push Λ (0, 4) → ∀ m_3 : hx_M, m_3 = (hx_z μ Λ.2.2) → wX4_init L_2 m_3 Λ.2.2 (fun Lm9_4 m9_4 => Lm9_4.1 v0 = (0, 10) ∧ ∀ L_7 : hx_L, L_7 = hx_sR Lm9_4 v0 0 Λ.2.2 → L_7.2.2 < hx_big ∧ ∀ L_9 : hx_L, L_9 = hx_push L_7 (0, 3) → ∀ m_10 : hx_M, m_10 = (hx_z m9_4 L_7.2.2) → wX3_init L_9 m_10 L_7.2.2 v1 (fun Lm21_11 m21_11 => Lm21_11.1 v0 = (0, 10) ∧ ∀ L_14 : hx_L, L_14 = hx_sR Lm21_11 v0 1 L_7.2.2 → L_14.2.2 < hx_big ∧ ∀ L_16 : hx_L, L_16 = hx_push L_14 (0, 6) → ∀ m_17 : hx_M, m_17 = (hx_z m21_11 L_14.2.2) → L_16.1 v0 = (0, 10) ∧ ∃ k33_19, L_16.2.1 v0 0 = some k33_19 ∧ ∃ k37_20, L_16.2.1 v0 1 = some k37_20 ∧ wX6_init L_16 m_17 L_14.2.2 k33_19 k37_20 (fun Lm40_21 m40_21 => Lm40_21.1 v0 = (0, 10) ∧ ∀ L_24 : hx_L, L_24 = hx_sR Lm40_21 v0 2 L_14.2.2 → L_24.1 v0 = (0, 10) ∧ L_24.2.2 < hx_big ∧ ∀ L_27 : hx_L, L_27 = hx_push L_24 (1, 20) → ∀ m_28 : hx_M, m_28 = (hx_z (hx_sI (hx_sI (hx_sL (hx_sI (hx_sI (hx_sI m40_21 v0 3 0) v0 4 0) v0 5 0) v0 6 1) v0 7 0) v0 8 0) L_24.2.2) → L_27.1 v0 = (0, 10) ∧ ∀ L_30 : hx_L, L_30 = hx_sR L_27 v0 9 L_24.2.2 → L_30.2.2 < hx_big ∧ ∀ L_32 : hx_L, L_32 = hx_push L_30 (1, 20) → ∀ m_33 : hx_M, m_33 = (hx_z m_28 L_30.2.2) → L_32.1 v0 = (0, 10) ∧ ∀ L_35 : hx_L, L_35 = hx_sR L_32 v0 10 L_30.2.2 → L_35.2.2 < hx_big ∧ ∀ L_37 : hx_L, L_37 = hx_push L_35 (1, 20) → ∀ m_38 : hx_M, m_38 = (hx_z m_33 L_35.2.2) → L_37.1 v0 = (0, 10) ∧ ∀ L_40 : hx_L, L_40 = hx_sR L_37 v0 11 L_35.2.2 → K L_40 m_38)))
set_option maxRecDepth 100000 in
set_option maxHeartbeats 4000000 in
theorem kX10_init {G : hx_GT} {KK : hx_KT} (hG : hx_K cX10_init 2 20 11713 (none) TbX10 KK G) (hM : hx_KA cX10_init 20 11713 TAX10_init G) (cA : hx_CA RX10 cX10_init 3 20 11713 G) {Λ : hx_L}  {μ : hx_M} (v0 : Nat) (v1 : Int32) {K : hx_L → hx_M → Prop} (hK : ∀ (Λ1 : hx_L) (m : hx_M), K Λ1 m → KK none Λ1 m) (hw : wX10_init Λ μ v0 v1 K) : G Λ μ (0, 0) 0 [some (.ref v0), some (.int v1)] [] := by
  unfold wX10_init at hw
  obtain ⟨b1, hw⟩ := hw
  refine cl_aload_n hG (hx_dq tdX10_init_0 0 rfl) rfl (cl_oinit hM taX10_init_o3 (hx_dq tdX10_init_0 1 rfl) (Nat.le_of_ble_eq_true rfl) (cl_aload_n hG (hx_dq tdX10_init_0 2 rfl) rfl (cl_new hM taX10_init_n9 (hx_dq tdX10_init_0 3 rfl) (Nat.le_of_ble_eq_true rfl) (Nat.le_of_ble_eq_true rfl) b1 (cl_nmA (fun L_2 e_2 => ?_)))))
  replace hw := hw L_2 e_2
  refine cl_nmM (fun m_3 e_3 => ?_)
  replace hw := hw m_3 e_3
  refine cl_dup hG (hx_dq tdX10_init_0 4 rfl) rfl (cl_callI0 (caX10_init_11 cA) (hx_dq tdX10_init_0 5 rfl) (Nat.le_of_ble_eq_true rfl) (Nat.le_of_ble_eq_true rfl) (Nat.le_of_ble_eq_true rfl) (sX4_init_mk hw (fun Lm9_4 m9_4 hw => ?_)))
  obtain ⟨o12_6, hw⟩ := hw
  refine cl_putFR hM taX10_init_f12 (hx_dq tdX10_init_0 6 rfl) o12_6 (cl_nmA (fun L_7 e_7 => ?_))
  replace hw := hw L_7 e_7
  obtain ⟨b8, hw⟩ := hw
  refine cl_aload_n hG (hx_dq tdX10_init_0 7 rfl) rfl (cl_new hM taX10_init_n18 (hx_dq tdX10_init_0 8 rfl) (Nat.le_of_ble_eq_true rfl) (Nat.le_of_ble_eq_true rfl) b8 (cl_nmA (fun L_9 e_9 => ?_)))
  replace hw := hw L_9 e_9
  refine cl_nmM (fun m_10 e_10 => ?_)
  replace hw := hw m_10 e_10
  refine cl_dup hG (hx_dq tdX10_init_0 9 rfl) rfl (cl_iload_n hG (hx_dq tdX10_init_0 10 rfl) rfl (cl_callI1 (caX10_init_20 cA) (hx_dq tdX10_init_0 11 rfl) (Nat.le_of_ble_eq_true rfl) (Nat.le_of_ble_eq_true rfl) (Nat.le_of_ble_eq_true rfl) (sX3_init_mk hw (fun Lm21_11 m21_11 hw => ?_))))
  obtain ⟨o24_13, hw⟩ := hw
  refine cl_putFR hM taX10_init_f23 (hx_dq tdX10_init_0 12 rfl) o24_13 (cl_nmA (fun L_14 e_14 => ?_))
  replace hw := hw L_14 e_14
  obtain ⟨b15, hw⟩ := hw
  refine cl_aload_n hG (hx_dq tdX10_init_0 13 rfl) rfl (cl_new hM taX10_init_n27 (hx_dq tdX10_init_0 14 rfl) (Nat.le_of_ble_eq_true rfl) (Nat.le_of_ble_eq_true rfl) b15 (cl_nmA (fun L_16 e_16 => ?_)))
  replace hw := hw L_16 e_16
  refine cl_nmM (fun m_17 e_17 => ?_)
  replace hw := hw m_17 e_17
  obtain ⟨o33_18, hw⟩ := hw
  obtain ⟨k33_19, zk33_19, hw⟩ := hw
  obtain ⟨k37_20, zk37_20, hw⟩ := hw
  refine cl_dup hG (hx_dq tdX10_init_0 15 rfl) rfl (cl_aload_n hG (hx_dq tdX10_init_0 16 rfl) rfl (cl_getS hG fmX10_12 (hx_dq tdX10_init_0 17 rfl) o33_18 zk33_19 (cl_aload_n hG (hx_dq tdX10_init_0 18 rfl) rfl (cl_getS hG fmX10_23 (hx_dq tdX10_init_0 19 rfl) o33_18 zk37_20 (cl_callI2 (caX10_init_29 cA) (hx_dq tdX10_init_0 20 rfl) (Nat.le_of_ble_eq_true rfl) (Nat.le_of_ble_eq_true rfl) (Nat.le_of_ble_eq_true rfl) (sX6_init_mk hw (fun Lm40_21 m40_21 hw => ?_)))))))
  obtain ⟨o43_23, hw⟩ := hw
  refine cl_putFR hM taX10_init_f32 (hx_dq tdX10_init_0 21 rfl) o43_23 (cl_nmA (fun L_24 e_24 => ?_))
  replace hw := hw L_24 e_24
  obtain ⟨o48_25, hw⟩ := hw
  obtain ⟨b26, hw⟩ := hw
  refine cl_aload_n hG (hx_dq tdX10_init_0 22 rfl) rfl (cl_iconst hG 0 (hx_dq tdX10_init_0 23 rfl) iconst_0 (cl_putI hG fmX10_36 (hx_dq tdX10_init_0 24 rfl) o48_25 (cl_aload_n hG (hx_dq tdX10_init_0 25 rfl) rfl (cl_iconst hG 0 (hx_dq tdX10_init_0 26 rfl) iconst_0 (cl_putI hG fmX10_40 (hx_dq tdX10_init_0 27 rfl) o48_25 (cl_aload_n hG (hx_dq tdX10_init_0 28 rfl) rfl (cl_iconst hG 0 (hx_dq tdX10_init_0 29 rfl) iconst_0 (cl_putI hG fmX10_43 (hx_dq tdX10_init_0 30 rfl) o48_25 (cl_aload_n hG (hx_dq tdX10_init_0 31 rfl) rfl (cl_lconst hG 1 (hx_dq tdX10_init_1 0 rfl) lconst_1 (cl_putL hG fmX10_46 (hx_dq tdX10_init_1 1 rfl) o48_25 (cl_aload_n hG (hx_dq tdX10_init_1 2 rfl) rfl (cl_iconst hG 0 (hx_dq tdX10_init_1 3 rfl) iconst_0 (cl_putI hG fmX10_50 (hx_dq tdX10_init_1 4 rfl) o48_25 (cl_aload_n hG (hx_dq tdX10_init_1 5 rfl) rfl (cl_iconst hG 0 (hx_dq tdX10_init_1 6 rfl) iconst_0 (cl_putI hG fmX10_53 (hx_dq tdX10_init_1 7 rfl) o48_25 (cl_aload_n hG (hx_dq tdX10_init_1 8 rfl) rfl (cl_bipush hG 20 (hx_dq tdX10_init_1 9 rfl) bipush_20 (cl_newaI hM tn_20 (hx_dq tdX10_init_1 10 rfl) (by decide) (Nat.le_of_ble_eq_true rfl) (Nat.le_of_ble_eq_true rfl) (Nat.le_of_ble_eq_true rfl) b26 (cl_nmA (fun L_27 e_27 => ?_))))))))))))))))))))))
  replace hw := hw L_27 e_27
  refine cl_nmM (fun m_28 e_28 => ?_)
  replace hw := hw m_28 e_28
  obtain ⟨o81_29, hw⟩ := hw
  refine cl_putFR hM taX10_init_f56 (hx_dq tdX10_init_1 11 rfl) o81_29 (cl_nmA (fun L_30 e_30 => ?_))
  replace hw := hw L_30 e_30
  obtain ⟨b31, hw⟩ := hw
  refine cl_aload_n hG (hx_dq tdX10_init_1 12 rfl) rfl (cl_bipush hG 20 (hx_dq tdX10_init_1 13 rfl) bipush_20 (cl_newaI hM tn_20 (hx_dq tdX10_init_1 14 rfl) (by decide) (Nat.le_of_ble_eq_true rfl) (Nat.le_of_ble_eq_true rfl) (Nat.le_of_ble_eq_true rfl) b31 (cl_nmA (fun L_32 e_32 => ?_))))
  replace hw := hw L_32 e_32
  refine cl_nmM (fun m_33 e_33 => ?_)
  replace hw := hw m_33 e_33
  obtain ⟨o89_34, hw⟩ := hw
  refine cl_putFR hM taX10_init_f60 (hx_dq tdX10_init_1 15 rfl) o89_34 (cl_nmA (fun L_35 e_35 => ?_))
  replace hw := hw L_35 e_35
  obtain ⟨b36, hw⟩ := hw
  refine cl_aload_n hG (hx_dq tdX10_init_1 16 rfl) rfl (cl_bipush hG 20 (hx_dq tdX10_init_1 17 rfl) bipush_20 (cl_newaI hM tn_20 (hx_dq tdX10_init_1 18 rfl) (by decide) (Nat.le_of_ble_eq_true rfl) (Nat.le_of_ble_eq_true rfl) (Nat.le_of_ble_eq_true rfl) b36 (cl_nmA (fun L_37 e_37 => ?_))))
  replace hw := hw L_37 e_37
  refine cl_nmM (fun m_38 e_38 => ?_)
  replace hw := hw m_38 e_38
  obtain ⟨o97_39, hw⟩ := hw
  refine cl_putFR hM taX10_init_f63 (hx_dq tdX10_init_1 19 rfl) o97_39 (cl_nmA (fun L_40 e_40 => ?_))
  replace hw := hw L_40 e_40
  exact cl_vret hG (hx_dq tdX10_init_1 20 rfl) rfl (hK _ _ hw) (Nat.le_of_ble_eq_true rfl) (Nat.le_of_ble_eq_true rfl)
def sX10_init : hx_ST := fun Λ μ as KK => ∃ (v0 : Nat) (v1 : Int32) (K : hx_L → hx_M → Prop), as = [.ref v0, .int v1] ∧ wX10_init Λ μ v0 v1 K ∧ (∀ (Λ1 : hx_L) (m : hx_M), K Λ1 m → KK none Λ1 m)
theorem sX10_init_mk {Λ : hx_L} {μ : hx_M} {KK : hx_KT} {v0 : Nat} {v1 : Int32} {K : hx_L → hx_M → Prop}  (hw : wX10_init Λ μ v0 v1 K) (hk : ∀ (Λ1 : hx_L) (m : hx_M), K Λ1 m → KK none Λ1 m) : sX10_init Λ μ [.ref v0, .int v1] KK := ⟨_, _, _, rfl, hw, hk⟩
theorem conX10_init : hx_Con yX10_init cX10_init 2 (none) 3 20 11713 sX10_init := by
  refine hx_con_ofA (by decide +kernel) tokX10 taokX10_init (Or.inr rfl) (by decide) ?_ ?_
  · intro Λ μ as KK h
    obtain ⟨v0, v1, K, rfl, hw, hK⟩ := h
    exact Nat.le_of_ble_eq_true rfl
  · intro G KK hG hM cA Λ μ as h
    obtain ⟨v0, v1, K, rfl, hw, hK⟩ := h
    exact cl_sub hG (hx_le_c rfl (hx_le_c rfl hx_le_0)) (kX10_init hG hM cA _ _ hK hw)
/-! HemLine$World.copyOf(LHemLine$World;)V -/
def tbX10_copyOf_0 : List (Nat × Instr × Nat) := [(0, .aload_n 0, 1), (1, .getfield 12, 3), (4, .aload_n 1, 1), (5, .getfield 12, 3), (8, .invokevirtual 66, 3), (11, .aload_n 0, 1), (12, .getfield 23, 3), (15, .aload_n 1, 1), (16, .getfield 23, 3), (19, .aload_n 1, 1), (20, .getfield 50, 3), (23, .iconst 1, 1), (24, .iadd, 1), (25, .invokevirtual 70, 3), (28, .aload_n 0, 1), (29, .aload_n 1, 1), (30, .getfield 36, 3), (33, .putfield 36, 3), (36, .aload_n 0, 1), (37, .aload_n 1, 1), (38, .getfield 40, 3), (41, .putfield 40, 3), (44, .aload_n 0, 1), (45, .aload_n 1, 1), (46, .getfield 43, 3), (49, .putfield 43, 3), (52, .aload_n 0, 1), (53, .aload_n 1, 1), (54, .getfield 46, 3), (57, .putfield 46, 3), (60, .aload_n 0, 1), (61, .aload_n 1, 1)]
def tbX10_copyOf_1 : List (Nat × Instr × Nat) := [(62, .getfield 50, 3), (65, .putfield 50, 3), (68, .aload_n 0, 1), (69, .aload_n 1, 1), (70, .getfield 53, 3), (73, .putfield 53, 3), (76, .aload_n 1, 1), (77, .getfield 56, 3), (80, .iconst 0, 1), (81, .aload_n 0, 1), (82, .getfield 56, 3), (85, .iconst 0, 1), (86, .aload_n 0, 1), (87, .getfield 53, 3), (90, .invokestatic 73, 3), (93, .aload_n 1, 1), (94, .getfield 60, 3), (97, .iconst 0, 1), (98, .aload_n 0, 1), (99, .getfield 60, 3), (102, .iconst 0, 1), (103, .aload_n 0, 1), (104, .getfield 53, 3), (107, .invokestatic 73, 3), (110, .aload_n 1, 1), (111, .getfield 63, 3), (114, .iconst 0, 1), (115, .aload_n 0, 1), (116, .getfield 63, 3), (119, .iconst 0, 1), (120, .aload_n 0, 1), (121, .getfield 53, 3)]
def tbX10_copyOf_2 : List (Nat × Instr × Nat) := [(124, .invokestatic 73, 3), (127, .return_, 1)]
theorem tdX10_copyOf_0 : hx_dt cX10_copyOf tbX10_copyOf_0 = true := by decide +kernel
theorem tdX10_copyOf_1 : hx_dt cX10_copyOf tbX10_copyOf_1 = true := by decide +kernel
theorem tdX10_copyOf_2 : hx_dt cX10_copyOf tbX10_copyOf_2 = true := by decide +kernel
theorem caX10_copyOf_66 {G : hx_GT} (cA : hx_CA RX10 cX10_copyOf 2 0 0 G) : hx_CV cX10_copyOf G 0 0 66 4 1 sX4_copyOf 0 0 := cA.1 conX4_copyOf rfl rfl ⟨by decide +kernel, by decide +kernel, by decide +kernel⟩ mw_1104 mw_817 mw_818 mw_87 mw_819 (by decide) (by decide)
theorem caX10_copyOf_70 {G : hx_GT} (cA : hx_CA RX10 cX10_copyOf 2 0 0 G) : hx_CV cX10_copyOf G 0 0 70 3 2 sX3_copyOf 0 0 := cA.1 conX3_copyOf rfl rfl ⟨by decide +kernel, by decide +kernel, by decide +kernel⟩ mw_1105 mw_1106 mw_1107 mw_88 mw_1108 (by decide) (by decide)
def wX10_copyOf (Λ : hx_L) (μ : hx_M) (v0 : Nat) (v1 : Option Nat) (K : hx_M → Prop) : Prop := Λ.1 v0 = (0, 10) ∧ ∃ k1_2, Λ.2.1 v0 0 = some k1_2 ∧ ∃ k5_3, v1 = some k5_3 ∧ Λ.1 k5_3 = (0, 10) ∧ ∃ k5_5, Λ.2.1 k5_3 0 = some k5_5 ∧ Λ.1 k1_2 = (0, 4) ∧ wX4_copyOf Λ μ k1_2 (some k5_5) (fun m8_6 => ∃ k12_9, Λ.2.1 v0 1 = some k12_9 ∧ ∃ k16_10, Λ.2.1 k5_3 1 = some k16_10 ∧ Λ.1 k12_9 = (0, 3) ∧ wX3_copyOf Λ m8_6 k12_9 (some k16_10) ((m8_6.1 k5_3 7) + 1) (fun m25_11 => ∀ m_14 : hx_M, m_14 = (hx_sI (hx_sI (hx_sI m25_11 v0 3 (m25_11.1 k5_3 3)) v0 4 (((hx_sI m25_11 v0 3 (m25_11.1 k5_3 3)).1 k5_3 4))) v0 5 (((hx_sI (hx_sI m25_11 v0 3 (m25_11.1 k5_3 3)) v0 4 (((hx_sI m25_11 v0 3 (m25_11.1 k5_3 3)).1 k5_3 4))).1 k5_3 5))) → ∀ m_15 : hx_M, m_15 = (hx_sI (hx_sI (hx_sL m_14 v0 6 (m_14.2 k5_3 6)) v0 7 (m_14.1 k5_3 7)) v0 8 (((hx_sI (hx_sL m_14 v0 6 (m_14.2 k5_3 6)) v0 7 (m_14.1 k5_3 7)).1 k5_3 8))) → ∃ k77_16, Λ.2.1 k5_3 9 = some k77_16 ∧ ∃ k82_17, Λ.2.1 v0 9 = some k82_17 ∧ ∃ n90_19, Λ.1 k77_16 = (1, n90_19) ∧ ∃ n90_21, Λ.1 k82_17 = (1, n90_21) ∧ ¬ (0 : Int32) < 0 ∧ ¬ (0 : Int32) < 0 ∧ ¬ ((m_15.1 v0 8) : Int32) < 0 ∧ (0 : Int32).toNatClampNeg + ((m_15.1 v0 8) : Int32).toNatClampNeg ≤ n90_19 ∧ (0 : Int32).toNatClampNeg + ((m_15.1 v0 8) : Int32).toNatClampNeg ≤ n90_21 ∧ ∀ m_23 : hx_M, m_23 = (hx_sA m_15 k82_17 (va_cpy (m_15.1 k77_16) (m_15.1 k82_17) (0 : Int32).toNatClampNeg (0 : Int32).toNatClampNeg ((m_15.1 v0 8) : Int32).toNatClampNeg)) → ∃ k94_24, Λ.2.1 k5_3 10 = some k94_24 ∧ ∃ k99_25, Λ.2.1 v0 10 = some k99_25 ∧ ∃ n107_27, Λ.1 k94_24 = (1, n107_27) ∧ ∃ n107_29, Λ.1 k99_25 = (1, n107_29) ∧ ¬ (0 : Int32) < 0 ∧ ¬ (0 : Int32) < 0 ∧ ¬ ((m_23.1 v0 8) : Int32) < 0 ∧ (0 : Int32).toNatClampNeg + ((m_23.1 v0 8) : Int32).toNatClampNeg ≤ n107_27 ∧ (0 : Int32).toNatClampNeg + ((m_23.1 v0 8) : Int32).toNatClampNeg ≤ n107_29 ∧ ∀ m_31 : hx_M, m_31 = (hx_sA m_23 k99_25 (va_cpy (m_23.1 k94_24) (m_23.1 k99_25) (0 : Int32).toNatClampNeg (0 : Int32).toNatClampNeg ((m_23.1 v0 8) : Int32).toNatClampNeg)) → ∃ k111_32, Λ.2.1 k5_3 11 = some k111_32 ∧ ∃ k116_33, Λ.2.1 v0 11 = some k116_33 ∧ ∃ n124_35, Λ.1 k111_32 = (1, n124_35) ∧ ∃ n124_37, Λ.1 k116_33 = (1, n124_37) ∧ ¬ (0 : Int32) < 0 ∧ ¬ (0 : Int32) < 0 ∧ ¬ ((m_31.1 v0 8) : Int32) < 0 ∧ (0 : Int32).toNatClampNeg + ((m_31.1 v0 8) : Int32).toNatClampNeg ≤ n124_35 ∧ (0 : Int32).toNatClampNeg + ((m_31.1 v0 8) : Int32).toNatClampNeg ≤ n124_37 ∧ ∀ m_39 : hx_M, m_39 = (hx_sA m_31 k116_33 (va_cpy (m_31.1 k111_32) (m_31.1 k116_33) (0 : Int32).toNatClampNeg (0 : Int32).toNatClampNeg ((m_31.1 v0 8) : Int32).toNatClampNeg)) → K m_39))
set_option maxRecDepth 100000 in
set_option maxHeartbeats 4000000 in
theorem kX10_copyOf {G : hx_GT} {KK : hx_KT} (hG : hx_K cX10_copyOf 2 0 0 (none) TbX10 KK G) (cA : hx_CA RX10 cX10_copyOf 2 0 0 G) {Λ : hx_L}  {μ : hx_M} (v0 : Nat) (v1 : Option Nat) {K : hx_M → Prop} (hK : ∀ (m : hx_M), K m → KK none Λ m) (hw : wX10_copyOf Λ μ v0 v1 K) : G Λ μ (0, 0) 0 [some (.ref v0), some (va_rf v1)] [] := by
  unfold wX10_copyOf at hw
  obtain ⟨o1_1, hw⟩ := hw
  obtain ⟨k1_2, zk1_2, hw⟩ := hw
  obtain ⟨k5_3, zk5_3, hw⟩ := hw
  obtain ⟨o5_4, hw⟩ := hw
  obtain ⟨k5_5, zk5_5, hw⟩ := hw
  obtain ⟨o8_8, hw⟩ := hw
  refine cl_aload_n hG (hx_dq tdX10_copyOf_0 0 rfl) rfl (cl_getS hG fmX10_12 (hx_dq tdX10_copyOf_0 1 rfl) o1_1 zk1_2 (cl_aload_nQ hG (hx_dq tdX10_copyOf_0 2 rfl) rfl (cl_nn zk5_3 (cl_getS hG fmX10_12 (hx_dq tdX10_copyOf_0 3 rfl) o5_4 zk5_5 (cl_callV1 (caX10_copyOf_66 cA) (hx_dq tdX10_copyOf_0 4 rfl) o8_8 (Nat.le_of_ble_eq_true rfl) (Nat.le_refl _) (Nat.le_refl _) (sX4_copyOf_mk hw (fun m8_6 hw => ?_)))))))
  obtain ⟨k12_9, zk12_9, hw⟩ := hw
  obtain ⟨k16_10, zk16_10, hw⟩ := hw
  obtain ⟨o25_13, hw⟩ := hw
  refine cl_aload_n hG (hx_dq tdX10_copyOf_0 5 rfl) rfl (cl_getS hG fmX10_23 (hx_dq tdX10_copyOf_0 6 rfl) o1_1 zk12_9 (cl_aload_nQ hG (hx_dq tdX10_copyOf_0 7 rfl) rfl (cl_nn zk5_3 (cl_getS hG fmX10_23 (hx_dq tdX10_copyOf_0 8 rfl) o5_4 zk16_10 (cl_aload_nQ hG (hx_dq tdX10_copyOf_0 9 rfl) rfl (cl_nn zk5_3 (cl_getI hG fmX10_50 (hx_dq tdX10_copyOf_0 10 rfl) o5_4 (cl_iconst hG 1 (hx_dq tdX10_copyOf_0 11 rfl) iconst_1 (cl_iadd hG (hx_dq tdX10_copyOf_0 12 rfl) (cl_callV2 (caX10_copyOf_70 cA) (hx_dq tdX10_copyOf_0 13 rfl) o25_13 (Nat.le_of_ble_eq_true rfl) (Nat.le_refl _) (Nat.le_refl _) (sX3_copyOf_mk hw (fun m25_11 hw => ?_))))))))))))
  refine cl_aload_n hG (hx_dq tdX10_copyOf_0 14 rfl) rfl (cl_aload_nQ hG (hx_dq tdX10_copyOf_0 15 rfl) rfl (cl_nn zk5_3 (cl_getI hG fmX10_36 (hx_dq tdX10_copyOf_0 16 rfl) o5_4 (cl_putI hG fmX10_36 (hx_dq tdX10_copyOf_0 17 rfl) o1_1 (cl_aload_n hG (hx_dq tdX10_copyOf_0 18 rfl) rfl (cl_aload_nQ hG (hx_dq tdX10_copyOf_0 19 rfl) rfl (cl_nn zk5_3 (cl_getI hG fmX10_40 (hx_dq tdX10_copyOf_0 20 rfl) o5_4 (cl_putI hG fmX10_40 (hx_dq tdX10_copyOf_0 21 rfl) o1_1 (cl_aload_n hG (hx_dq tdX10_copyOf_0 22 rfl) rfl (cl_aload_nQ hG (hx_dq tdX10_copyOf_0 23 rfl) rfl (cl_nn zk5_3 (cl_getI hG fmX10_43 (hx_dq tdX10_copyOf_0 24 rfl) o5_4 (cl_putI hG fmX10_43 (hx_dq tdX10_copyOf_0 25 rfl) o1_1 (cl_nmM (fun m_14 e_14 => ?_))))))))))))))))
  replace hw := hw m_14 e_14
  refine cl_aload_n hG (hx_dq tdX10_copyOf_0 26 rfl) rfl (cl_aload_nQ hG (hx_dq tdX10_copyOf_0 27 rfl) rfl (cl_nn zk5_3 (cl_getL hG fmX10_46 (hx_dq tdX10_copyOf_0 28 rfl) o5_4 (cl_putL hG fmX10_46 (hx_dq tdX10_copyOf_0 29 rfl) o1_1 (cl_aload_n hG (hx_dq tdX10_copyOf_0 30 rfl) rfl (cl_aload_nQ hG (hx_dq tdX10_copyOf_0 31 rfl) rfl (cl_nn zk5_3 (cl_getI hG fmX10_50 (hx_dq tdX10_copyOf_1 0 rfl) o5_4 (cl_putI hG fmX10_50 (hx_dq tdX10_copyOf_1 1 rfl) o1_1 (cl_aload_n hG (hx_dq tdX10_copyOf_1 2 rfl) rfl (cl_aload_nQ hG (hx_dq tdX10_copyOf_1 3 rfl) rfl (cl_nn zk5_3 (cl_getI hG fmX10_53 (hx_dq tdX10_copyOf_1 4 rfl) o5_4 (cl_putI hG fmX10_53 (hx_dq tdX10_copyOf_1 5 rfl) o1_1 (cl_nmM (fun m_15 e_15 => ?_))))))))))))))))
  replace hw := hw m_15 e_15
  obtain ⟨k77_16, zk77_16, hw⟩ := hw
  obtain ⟨k82_17, zk82_17, hw⟩ := hw
  obtain ⟨n90_19, o90_18, hw⟩ := hw
  obtain ⟨n90_21, o90_20, hw⟩ := hw
  obtain ⟨g90_22_0, g90_22_1, g90_22_2, g90_22_3, g90_22_4, hw⟩ := hw
  refine cl_aload_nQ hG (hx_dq tdX10_copyOf_1 6 rfl) rfl (cl_nn zk5_3 (cl_getS hG fmX10_56 (hx_dq tdX10_copyOf_1 7 rfl) o5_4 zk77_16 (cl_iconst hG 0 (hx_dq tdX10_copyOf_1 8 rfl) iconst_0 (cl_aload_n hG (hx_dq tdX10_copyOf_1 9 rfl) rfl (cl_getS hG fmX10_56 (hx_dq tdX10_copyOf_1 10 rfl) o1_1 zk82_17 (cl_iconst hG 0 (hx_dq tdX10_copyOf_1 11 rfl) iconst_0 (cl_aload_n hG (hx_dq tdX10_copyOf_1 12 rfl) rfl (cl_getI hG fmX10_53 (hx_dq tdX10_copyOf_1 13 rfl) o1_1 (cl_copy hG mmX10_73 (hx_dq tdX10_copyOf_1 14 rfl) (Nat.le_refl _) (Nat.le_refl _) (Nat.le_of_ble_eq_true rfl) o90_18 o90_20 g90_22_0 g90_22_1 g90_22_2 g90_22_3 g90_22_4 (cl_nmM (fun m_23 e_23 => ?_)))))))))))
  replace hw := hw m_23 e_23
  obtain ⟨k94_24, zk94_24, hw⟩ := hw
  obtain ⟨k99_25, zk99_25, hw⟩ := hw
  obtain ⟨n107_27, o107_26, hw⟩ := hw
  obtain ⟨n107_29, o107_28, hw⟩ := hw
  obtain ⟨g107_30_0, g107_30_1, g107_30_2, g107_30_3, g107_30_4, hw⟩ := hw
  refine cl_aload_nQ hG (hx_dq tdX10_copyOf_1 15 rfl) rfl (cl_nn zk5_3 (cl_getS hG fmX10_60 (hx_dq tdX10_copyOf_1 16 rfl) o5_4 zk94_24 (cl_iconst hG 0 (hx_dq tdX10_copyOf_1 17 rfl) iconst_0 (cl_aload_n hG (hx_dq tdX10_copyOf_1 18 rfl) rfl (cl_getS hG fmX10_60 (hx_dq tdX10_copyOf_1 19 rfl) o1_1 zk99_25 (cl_iconst hG 0 (hx_dq tdX10_copyOf_1 20 rfl) iconst_0 (cl_aload_n hG (hx_dq tdX10_copyOf_1 21 rfl) rfl (cl_getI hG fmX10_53 (hx_dq tdX10_copyOf_1 22 rfl) o1_1 (cl_copy hG mmX10_73 (hx_dq tdX10_copyOf_1 23 rfl) (Nat.le_refl _) (Nat.le_refl _) (Nat.le_of_ble_eq_true rfl) o107_26 o107_28 g107_30_0 g107_30_1 g107_30_2 g107_30_3 g107_30_4 (cl_nmM (fun m_31 e_31 => ?_)))))))))))
  replace hw := hw m_31 e_31
  obtain ⟨k111_32, zk111_32, hw⟩ := hw
  obtain ⟨k116_33, zk116_33, hw⟩ := hw
  obtain ⟨n124_35, o124_34, hw⟩ := hw
  obtain ⟨n124_37, o124_36, hw⟩ := hw
  obtain ⟨g124_38_0, g124_38_1, g124_38_2, g124_38_3, g124_38_4, hw⟩ := hw
  refine cl_aload_nQ hG (hx_dq tdX10_copyOf_1 24 rfl) rfl (cl_nn zk5_3 (cl_getS hG fmX10_63 (hx_dq tdX10_copyOf_1 25 rfl) o5_4 zk111_32 (cl_iconst hG 0 (hx_dq tdX10_copyOf_1 26 rfl) iconst_0 (cl_aload_n hG (hx_dq tdX10_copyOf_1 27 rfl) rfl (cl_getS hG fmX10_63 (hx_dq tdX10_copyOf_1 28 rfl) o1_1 zk116_33 (cl_iconst hG 0 (hx_dq tdX10_copyOf_1 29 rfl) iconst_0 (cl_aload_n hG (hx_dq tdX10_copyOf_1 30 rfl) rfl (cl_getI hG fmX10_53 (hx_dq tdX10_copyOf_1 31 rfl) o1_1 (cl_copy hG mmX10_73 (hx_dq tdX10_copyOf_2 0 rfl) (Nat.le_refl _) (Nat.le_refl _) (Nat.le_of_ble_eq_true rfl) o124_34 o124_36 g124_38_0 g124_38_1 g124_38_2 g124_38_3 g124_38_4 (cl_nmM (fun m_39 e_39 => ?_)))))))))))
  replace hw := hw m_39 e_39
  exact cl_vret hG (hx_dq tdX10_copyOf_2 1 rfl) rfl (hK _ hw) (Nat.le_refl _) (Nat.le_refl _)
def sX10_copyOf : hx_ST := fun Λ μ as KK => ∃ (v0 : Nat) (v1 : Option Nat) (K : hx_M → Prop), as = [.ref v0, va_rf v1] ∧ wX10_copyOf Λ μ v0 v1 K ∧ (∀ (m : hx_M), K m → KK none Λ m)
theorem sX10_copyOf_mk {Λ : hx_L} {μ : hx_M} {KK : hx_KT} {v0 : Nat} {v1 : Option Nat} {K : hx_M → Prop}  (hw : wX10_copyOf Λ μ v0 v1 K) (hk : ∀ (m : hx_M), K m → KK none Λ m) : sX10_copyOf Λ μ [.ref v0, va_rf v1] KK := ⟨_, _, _, rfl, hw, hk⟩
theorem conX10_copyOf : hx_Con yX10_copyOf cX10_copyOf 2 (none) 2 0 0 sX10_copyOf := by
  refine hx_con_of (by decide +kernel) tokX10 (by decide) ?_ ?_
  · intro Λ μ as KK h
    obtain ⟨v0, v1, K, rfl, hw, hK⟩ := h
    cases v1 <;> exact Nat.le_of_ble_eq_true rfl
  · intro G KK hG cA Λ μ as h
    obtain ⟨v0, v1, K, rfl, hw, hK⟩ := h
    cases v1 <;> exact cl_sub hG (hx_le_c rfl (hx_le_c rfl hx_le_0)) (kX10_copyOf hG cA _ _ hK hw)
/-! java/lang/Integer.bitCount(I)I -/
def tbJ6_bitCount_0f7a4_0 : List (Nat × Instr × Nat) := [(0, .iload_n 0, 1), (1, .iload_n 0, 1), (2, .iconst 1, 1), (3, .iushr, 1), (4, .ldc_w 265, 3), (7, .iand, 1), (8, .isub, 1), (9, .istore_n 0, 1), (10, .iload_n 0, 1), (11, .ldc_w 266, 3), (14, .iand, 1), (15, .iload_n 0, 1), (16, .iconst 2, 1), (17, .iushr, 1), (18, .ldc_w 266, 3), (21, .iand, 1), (22, .iadd, 1), (23, .istore_n 0, 1), (24, .iload_n 0, 1), (25, .iload_n 0, 1), (26, .iconst 4, 1), (27, .iushr, 1), (28, .iadd, 1), (29, .ldc_w 267, 3), (32, .iand, 1), (33, .istore_n 0, 1), (34, .iload_n 0, 1), (35, .iload_n 0, 1), (36, .bipush 8, 2), (38, .iushr, 1), (39, .iadd, 1), (40, .istore_n 0, 1)]
def tbJ6_bitCount_0f7a4_1 : List (Nat × Instr × Nat) := [(41, .iload_n 0, 1), (42, .iload_n 0, 1), (43, .bipush 16, 2), (45, .iushr, 1), (46, .iadd, 1), (47, .istore_n 0, 1), (48, .iload_n 0, 1), (49, .bipush 63, 2), (51, .iand, 1), (52, .ireturn, 1)]
theorem tdJ6_bitCount_0f7a4_0 : hx_dt cJ6_bitCount_0f7a4 tbJ6_bitCount_0f7a4_0 = true := by decide +kernel
theorem tdJ6_bitCount_0f7a4_1 : hx_dt cJ6_bitCount_0f7a4 tbJ6_bitCount_0f7a4_1 = true := by decide +kernel
def wJ6_bitCount_0f7a4  (v0 : Int32) (K : Int32 → Prop) : Prop := ∀ x_1 : Int32, x_1 = (((v0 : Int32).toUInt32 >>> ((1 : Int32).toUInt32 &&& Int32.toUInt32 31)).toInt32) → ∀ x_2 : Int32, x_2 = (((v0 - (x_1 &&& 1431655765) : Int32).toUInt32 >>> ((2 : Int32).toUInt32 &&& Int32.toUInt32 31)).toInt32) → ∀ x_3 : Int32, x_3 = (((v0 - (x_1 &&& 1431655765)) &&& 858993459) + (x_2 &&& 858993459)) → ∀ x_4 : Int32, x_4 = (((x_3 : Int32).toUInt32 >>> ((4 : Int32).toUInt32 &&& Int32.toUInt32 31)).toInt32) → ∀ x_5 : Int32, x_5 = ((((x_3 + x_4) &&& 252645135 : Int32).toUInt32 >>> ((8 : Int32).toUInt32 &&& Int32.toUInt32 31)).toInt32) → ∀ x_6 : Int32, x_6 = (((((x_3 + x_4) &&& 252645135) + x_5 : Int32).toUInt32 >>> ((16 : Int32).toUInt32 &&& Int32.toUInt32 31)).toInt32) → ∀ x_7 : Int32, x_7 = (((((x_3 + x_4) &&& 252645135) + x_5) + x_6) &&& 63) → K x_7
set_option maxRecDepth 100000 in
set_option maxHeartbeats 4000000 in
theorem kJ6_bitCount_0f7a4 {G : hx_GT} {KK : hx_KT} (hG : hx_K cJ6_bitCount_0f7a4 1 0 0 (some .int) TbJ6 KK G) (cA : hx_CA RJ6 cJ6_bitCount_0f7a4 1 0 0 G) {Λ : hx_L}  {μ : hx_M} (v0 : Int32) {K : Int32 → Prop} (hK : ∀ (r : Int32), K r → KK (some (.int r)) Λ μ) (hw : wJ6_bitCount_0f7a4 v0 K) : G Λ μ (0, 0) 0 [some (.int v0)] [] := by
  unfold wJ6_bitCount_0f7a4 at hw
  refine cl_iload_n hG (hx_dq tdJ6_bitCount_0f7a4_0 0 rfl) rfl (cl_iload_n hG (hx_dq tdJ6_bitCount_0f7a4_0 1 rfl) rfl (cl_iconst hG 1 (hx_dq tdJ6_bitCount_0f7a4_0 2 rfl) iconst_1 (cl_iushr hG (hx_dq tdJ6_bitCount_0f7a4_0 3 rfl) (cl_nmI (fun x_1 e_1 => ?_)))))
  replace hw := hw x_1 e_1
  refine cl_ldcw hG ciJ6_265 (hx_dq tdJ6_bitCount_0f7a4_0 4 rfl) (cl_iand hG (hx_dq tdJ6_bitCount_0f7a4_0 5 rfl) (cl_isub hG (hx_dq tdJ6_bitCount_0f7a4_0 6 rfl) (cl_istore_n hG (hx_dq tdJ6_bitCount_0f7a4_0 7 rfl) (Nat.le_of_ble_eq_true rfl) rfl (cl_iload_n hG (hx_dq tdJ6_bitCount_0f7a4_0 8 rfl) rfl (cl_ldcw hG ciJ6_266 (hx_dq tdJ6_bitCount_0f7a4_0 9 rfl) (cl_iand hG (hx_dq tdJ6_bitCount_0f7a4_0 10 rfl) (cl_iload_n hG (hx_dq tdJ6_bitCount_0f7a4_0 11 rfl) rfl (cl_iconst hG 2 (hx_dq tdJ6_bitCount_0f7a4_0 12 rfl) iconst_2 (cl_iushr hG (hx_dq tdJ6_bitCount_0f7a4_0 13 rfl) (cl_nmI (fun x_2 e_2 => ?_)))))))))))
  replace hw := hw x_2 e_2
  refine cl_ldcw hG ciJ6_266 (hx_dq tdJ6_bitCount_0f7a4_0 14 rfl) (cl_iand hG (hx_dq tdJ6_bitCount_0f7a4_0 15 rfl) (cl_iadd hG (hx_dq tdJ6_bitCount_0f7a4_0 16 rfl) (cl_nmI (fun x_3 e_3 => ?_))))
  replace hw := hw x_3 e_3
  refine cl_istore_n hG (hx_dq tdJ6_bitCount_0f7a4_0 17 rfl) (Nat.le_of_ble_eq_true rfl) rfl (cl_iload_n hG (hx_dq tdJ6_bitCount_0f7a4_0 18 rfl) rfl (cl_iload_n hG (hx_dq tdJ6_bitCount_0f7a4_0 19 rfl) rfl (cl_iconst hG 4 (hx_dq tdJ6_bitCount_0f7a4_0 20 rfl) iconst_4 (cl_iushr hG (hx_dq tdJ6_bitCount_0f7a4_0 21 rfl) (cl_nmI (fun x_4 e_4 => ?_))))))
  replace hw := hw x_4 e_4
  refine cl_iadd hG (hx_dq tdJ6_bitCount_0f7a4_0 22 rfl) (cl_ldcw hG ciJ6_267 (hx_dq tdJ6_bitCount_0f7a4_0 23 rfl) (cl_iand hG (hx_dq tdJ6_bitCount_0f7a4_0 24 rfl) (cl_istore_n hG (hx_dq tdJ6_bitCount_0f7a4_0 25 rfl) (Nat.le_of_ble_eq_true rfl) rfl (cl_iload_n hG (hx_dq tdJ6_bitCount_0f7a4_0 26 rfl) rfl (cl_iload_n hG (hx_dq tdJ6_bitCount_0f7a4_0 27 rfl) rfl (cl_bipush hG 8 (hx_dq tdJ6_bitCount_0f7a4_0 28 rfl) bipush_8 (cl_iushr hG (hx_dq tdJ6_bitCount_0f7a4_0 29 rfl) (cl_nmI (fun x_5 e_5 => ?_)))))))))
  replace hw := hw x_5 e_5
  refine cl_iadd hG (hx_dq tdJ6_bitCount_0f7a4_0 30 rfl) (cl_istore_n hG (hx_dq tdJ6_bitCount_0f7a4_0 31 rfl) (Nat.le_of_ble_eq_true rfl) rfl (cl_iload_n hG (hx_dq tdJ6_bitCount_0f7a4_1 0 rfl) rfl (cl_iload_n hG (hx_dq tdJ6_bitCount_0f7a4_1 1 rfl) rfl (cl_bipush hG 16 (hx_dq tdJ6_bitCount_0f7a4_1 2 rfl) bipush_16 (cl_iushr hG (hx_dq tdJ6_bitCount_0f7a4_1 3 rfl) (cl_nmI (fun x_6 e_6 => ?_)))))))
  replace hw := hw x_6 e_6
  refine cl_iadd hG (hx_dq tdJ6_bitCount_0f7a4_1 4 rfl) (cl_istore_n hG (hx_dq tdJ6_bitCount_0f7a4_1 5 rfl) (Nat.le_of_ble_eq_true rfl) rfl (cl_iload_n hG (hx_dq tdJ6_bitCount_0f7a4_1 6 rfl) rfl (cl_bipush hG 63 (hx_dq tdJ6_bitCount_0f7a4_1 7 rfl) bipush_63 (cl_iand hG (hx_dq tdJ6_bitCount_0f7a4_1 8 rfl) (cl_nmI (fun x_7 e_7 => ?_))))))
  replace hw := hw x_7 e_7
  exact cl_iret hG (hx_dq tdJ6_bitCount_0f7a4_1 9 rfl) rfl rfl (hK _ hw) (Nat.le_refl _) (Nat.le_refl _)
def sJ6_bitCount_0f7a4 : hx_ST := fun Λ μ as KK => ∃ (v0 : Int32) (K : Int32 → Prop), as = [.int v0] ∧ wJ6_bitCount_0f7a4 v0 K ∧ (∀ (r : Int32), K r → KK (some (.int r)) Λ μ)
theorem sJ6_bitCount_0f7a4_mk {Λ : hx_L} {μ : hx_M} {KK : hx_KT} {v0 : Int32} {K : Int32 → Prop}  (hw : wJ6_bitCount_0f7a4 v0 K) (hk : ∀ (r : Int32), K r → KK (some (.int r)) Λ μ) : sJ6_bitCount_0f7a4 Λ μ [.int v0] KK := ⟨_, _, rfl, hw, hk⟩
theorem conJ6_bitCount_0f7a4 : hx_Con yJ6_bitCount_0f7a4 cJ6_bitCount_0f7a4 1 (some .int) 1 0 0 sJ6_bitCount_0f7a4 := by
  refine hx_con_of (by decide +kernel) tokJ6 (by decide) ?_ ?_
  · intro Λ μ as KK h
    obtain ⟨v0, K, rfl, hw, hK⟩ := h
    exact Nat.le_of_ble_eq_true rfl
  · intro G KK hG cA Λ μ as h
    obtain ⟨v0, K, rfl, hw, hK⟩ := h
    exact cl_sub hG (hx_le_c rfl hx_le_0) (kJ6_bitCount_0f7a4 hG cA _ hK hw)
/-! HemLine$World.lineOf(I)I -/
def tbX10_lineOf_0 : List (Nat × Instr × Nat) := [(0, .iconst 0, 1), (1, .istore_n 2, 1), (2, .iconst 0, 1), (3, .istore_n 3, 1), (4, .iload_n 3, 1), (5, .aload_n 0, 1), (6, .getfield 12, 3), (9, .getfield 83, 3), (12, .if_icmp .ge 32, 3), (15, .iload_n 1, 1), (16, .iload_n 3, 1), (17, .ishr, 1), (18, .iconst 1, 1), (19, .iand, 1), (20, .ifCond .eq 18, 3), (23, .iload_n 2, 1), (24, .aload_n 0, 1), (25, .getfield 23, 3), (28, .iload_n 3, 1), (29, .aload_n 0, 1), (30, .getfield 50, 3), (33, .invokevirtual 89, 3), (36, .iadd, 1), (37, .istore_n 2, 1), (38, .iinc 3 1, 3), (41, .goto (-37), 3), (44, .iload_n 1, 1), (45, .invokestatic 93, 3), (48, .istore_n 3, 1), (49, .iload_n 3, 1), (50, .ifCond .le 12, 3), (53, .iload_n 2, 1)]
def tbX10_lineOf_1 : List (Nat × Instr × Nat) := [(54, .bipush 100, 2), (56, .imul, 1), (57, .iload_n 3, 1), (58, .idiv, 1), (59, .goto 4, 3), (62, .iconst (-1), 1), (63, .ireturn, 1)]
theorem tdX10_lineOf_0 : hx_dt cX10_lineOf tbX10_lineOf_0 = true := by decide +kernel
theorem tdX10_lineOf_1 : hx_dt cX10_lineOf tbX10_lineOf_1 = true := by decide +kernel
theorem caX10_lineOf_89 {G : hx_GT} (cA : hx_CA RX10 cX10_lineOf 2 0 0 G) : hx_CV cX10_lineOf G 0 0 89 3 2 sX3_lengthOf 0 0 := cA.1 conX3_lengthOf rfl rfl ⟨by decide +kernel, by decide +kernel, by decide +kernel⟩ mw_716 mw_717 mw_718 mw_88 mw_719 (by decide) (by decide)
theorem caX10_lineOf_93 {G : hx_GT} (cA : hx_CA RX10 cX10_lineOf 2 0 0 G) : hx_CS cX10_lineOf G 0 0 93 1 sJ6_bitCount_0f7a4 0 0 := cA.2.1 conJ6_bitCount_0f7a4 ⟨by decide +kernel, by decide +kernel, by decide +kernel⟩ mw_907 mw_908 mw_104 mw_909 (by decide) (by decide)
def wX10_lineOf_J38 (μ : hx_M) (K : Int32 → Prop) (K4 : Int32 → Int32 → Prop) (v1 : Int32) (v2 : Int32) (v3 : Int32)   : Prop := K4 v2 (v3 + 1)
set_option maxRecDepth 100000 in
set_option maxHeartbeats 4000000 in
theorem kX10_lineOf_J38 {G : hx_GT} {KK : hx_KT} (hG : hx_K cX10_lineOf 4 0 0 (some .int) TbX10 KK G) (cA : hx_CA RX10 cX10_lineOf 2 0 0 G) {Λ : hx_L} (hF : cF Λ) {μ : hx_M} (v1 : Int32) (v2 : Int32) (v3 : Int32)  {K : Int32 → Prop} (hK : ∀ (r : Int32), K r → KK (some (.int r)) Λ μ) {K4 : Int32 → Int32 → Prop} (hk4 : ∀ (v2 : Int32) (v3 : Int32), K4 v2 v3 → G Λ μ (0, 0) 4 [some (.ref 7), some (.int v1), some (.int v2), some (.int v3)] []) (hw : wX10_lineOf_J38 μ K K4 v1 v2 v3) : G Λ μ (0, 0) 38 [some (.ref 7), some (.int v1), some (.int v2), some (.int v3)] [] := by
  unfold wX10_lineOf_J38 at hw
  exact cl_iinc hG (v3 + 1) (hx_dq tdX10_lineOf_0 24 rfl) rfl (congrArg (fun z => v3 + z) iconst_1) (Nat.le_of_ble_eq_true rfl) rfl (cl_goto hG 4 (hx_dq tdX10_lineOf_0 25 rfl) rfl (cl_sub hG (hx_le_c rfl (hx_le_c rfl (hx_le_c rfl (hx_le_c rfl hx_le_0)))) (hk4 v2 (v3 + 1) hw)))
def wX10_lineOf_L4 (μ : hx_M) (v1 : Int32) (K : Int32 → Prop) (K44 : Int32 → Prop) : Nat → Int32 → Int32 → Prop
  | 0, _, _ => False
  | n + 1, v2, v3 => ((μ.1 8 0) ≤ v3 → (K44 v2)) ∧ (¬ ((μ.1 8 0) ≤ v3) → ((((v1 >>> (v3 &&& 31)) &&& 1) = 0 → (wX10_lineOf_J38 μ K (wX10_lineOf_L4 μ v1 K K44 n) v1 v2 v3)) ∧ (¬ (((v1 >>> (v3 &&& 31)) &&& 1) = 0) → (wX3_lengthOf μ v3 (μ.1 7 7) (fun r33_2 => wX10_lineOf_J38 μ K (wX10_lineOf_L4 μ v1 K K44 n) v1 (v2 + r33_2) v3)))))
set_option maxRecDepth 100000 in
set_option maxHeartbeats 4000000 in
theorem kX10_lineOf_L4 {G : hx_GT} {KK : hx_KT} (hG : hx_K cX10_lineOf 4 0 0 (some .int) TbX10 KK G) (cA : hx_CA RX10 cX10_lineOf 2 0 0 G) {Λ : hx_L} (hF : cF Λ) {μ : hx_M} (v1 : Int32) {K : Int32 → Prop} (hK : ∀ (r : Int32), K r → KK (some (.int r)) Λ μ) {K44 : Int32 → Prop} (hk44 : ∀ (v2 : Int32), K44 v2 → G Λ μ (0, 0) 44 [none, some (.int v1), some (.int v2), none] []) : ∀ (n : Nat) (v2 : Int32) (v3 : Int32), wX10_lineOf_L4 μ v1 K K44 n v2 v3 → G Λ μ (0, 0) 4 [some (.ref 7), some (.int v1), some (.int v2), some (.int v3)] [] := by
  intro n
  induction n with
  | zero =>
    intro v2 v3 hw
    exact False.elim (by simpa only [wX10_lineOf_L4] using hw)
  | succ n ih =>
    intro v2 v3 hw
    unfold wX10_lineOf_L4 at hw
    refine cl_iload_n hG (hx_dq tdX10_lineOf_0 4 rfl) rfl (cl_aload_n hG (hx_dq tdX10_lineOf_0 5 rfl) rfl (cl_getS hG fmX10_12 (hx_dq tdX10_lineOf_0 6 rfl) (cF_S7 hF) (cF_R7_0 hF) (cl_getI hG fmX10_83 (hx_dq tdX10_lineOf_0 7 rfl) (cF_S8 hF) (cl_icmp_ge hG 44 (hx_dq tdX10_lineOf_0 8 rfl) rfl (fun c12 => ?_) (fun c12 => ?_)))))
    · replace hw := hw.1 c12
      exact cl_sub hG (hx_le_n (hx_le_c rfl (hx_le_c rfl (hx_le_n hx_le_0)))) (hk44 v2 hw)
    · replace hw := hw.2 c12
      refine cl_iload_n hG (hx_dq tdX10_lineOf_0 9 rfl) rfl (cl_iload_n hG (hx_dq tdX10_lineOf_0 10 rfl) rfl (cl_ishr hG (hx_dq tdX10_lineOf_0 11 rfl) (cl_iconst hG 1 (hx_dq tdX10_lineOf_0 12 rfl) iconst_1 (cl_iand hG (hx_dq tdX10_lineOf_0 13 rfl) (cl_if_eq hG 38 (hx_dq tdX10_lineOf_0 14 rfl) rfl (fun c20 => ?_) (fun c20 => ?_))))))
      · replace hw := hw.1 c20
        exact cl_sub hG (hx_le_c rfl (hx_le_c rfl (hx_le_c rfl (hx_le_c rfl hx_le_0)))) (kX10_lineOf_J38 hG cA hF v1 v2 v3 hK (fun z0 z1 hw => ih z0 z1 hw) hw)
      · replace hw := hw.2 c20
        refine cl_iload_n hG (hx_dq tdX10_lineOf_0 15 rfl) rfl (cl_aload_n hG (hx_dq tdX10_lineOf_0 16 rfl) rfl (cl_getS hG fmX10_23 (hx_dq tdX10_lineOf_0 17 rfl) (cF_S7 hF) (cF_R7_1 hF) (cl_iload_n hG (hx_dq tdX10_lineOf_0 18 rfl) rfl (cl_aload_n hG (hx_dq tdX10_lineOf_0 19 rfl) rfl (cl_getI hG fmX10_50 (hx_dq tdX10_lineOf_0 20 rfl) (cF_S7 hF) (cl_callV2 (caX10_lineOf_89 cA) (hx_dq tdX10_lineOf_0 21 rfl) (cF_S15 hF) (Nat.le_of_ble_eq_true rfl) (Nat.le_refl _) (Nat.le_refl _) (sX3_lengthOf_mk hF hw (fun r33_2 hw => ?_))))))))
        refine cl_iadd hG (hx_dq tdX10_lineOf_0 22 rfl) (cl_istore_n hG (hx_dq tdX10_lineOf_0 23 rfl) (Nat.le_of_ble_eq_true rfl) rfl ?_)
        exact cl_sub hG (hx_le_c rfl (hx_le_c rfl (hx_le_c rfl (hx_le_c rfl hx_le_0)))) (kX10_lineOf_J38 hG cA hF v1 (v2 + r33_2) v3 hK (fun z0 z1 hw => ih z0 z1 hw) hw)
def wX10_lineOf (μ : hx_M) (v1 : Int32) (K : Int32 → Prop) : Prop := ∃ n4_6, wX10_lineOf_L4 μ v1 K (fun v2_3 => wJ6_bitCount_0f7a4 v1 (fun r45_5 => (r45_5 ≤ 0 → (K (-1))) ∧ (¬ (r45_5 ≤ 0) → (¬ r45_5 = 0 ∧ K ((v2_3 * 100) / r45_5))))) n4_6 0 0
set_option maxRecDepth 100000 in
set_option maxHeartbeats 4000000 in
theorem kX10_lineOf {G : hx_GT} {KK : hx_KT} (hG : hx_K cX10_lineOf 4 0 0 (some .int) TbX10 KK G) (cA : hx_CA RX10 cX10_lineOf 2 0 0 G) {Λ : hx_L} (hF : cF Λ) {μ : hx_M} (v1 : Int32) {K : Int32 → Prop} (hK : ∀ (r : Int32), K r → KK (some (.int r)) Λ μ) (hw : wX10_lineOf μ v1 K) : G Λ μ (0, 0) 0 [some (.ref 7), some (.int v1), none, none] [] := by
  unfold wX10_lineOf at hw
  refine cl_iconst hG 0 (hx_dq tdX10_lineOf_0 0 rfl) iconst_0 (cl_istore_n hG (hx_dq tdX10_lineOf_0 1 rfl) (Nat.le_of_ble_eq_true rfl) rfl (cl_iconst hG 0 (hx_dq tdX10_lineOf_0 2 rfl) iconst_0 (cl_istore_n hG (hx_dq tdX10_lineOf_0 3 rfl) (Nat.le_of_ble_eq_true rfl) rfl ?_)))
  obtain ⟨n_, hw⟩ := hw
  refine cl_sub hG (hx_le_c rfl (hx_le_c rfl (hx_le_c rfl (hx_le_c rfl hx_le_0)))) (kX10_lineOf_L4 hG cA hF v1 hK (fun v2_3 hw => ?_) n_ 0 0 hw)
  · refine cl_iload_n hG (hx_dq tdX10_lineOf_0 26 rfl) rfl (cl_callS1 (caX10_lineOf_93 cA) (hx_dq tdX10_lineOf_0 27 rfl) (Nat.le_of_ble_eq_true rfl) (Nat.le_refl _) (Nat.le_refl _) (sJ6_bitCount_0f7a4_mk hw (fun r45_5 hw => ?_)))
    refine cl_istore_n hG (hx_dq tdX10_lineOf_0 28 rfl) (Nat.le_of_ble_eq_true rfl) rfl (cl_iload_n hG (hx_dq tdX10_lineOf_0 29 rfl) rfl (cl_if_le hG 62 (hx_dq tdX10_lineOf_0 30 rfl) rfl (fun c50 => ?_) (fun c50 => ?_)))
    · replace hw := hw.1 c50
      exact cl_iconst hG (-1) (hx_dq tdX10_lineOf_1 5 rfl) iconst_m1 (cl_iret hG (hx_dq tdX10_lineOf_1 6 rfl) rfl rfl (hK _ hw) (Nat.le_refl _) (Nat.le_refl _))
    · replace hw := hw.2 c50
      obtain ⟨o58, hw⟩ := hw
      exact cl_iload_n hG (hx_dq tdX10_lineOf_0 31 rfl) rfl (cl_bipush hG 100 (hx_dq tdX10_lineOf_1 0 rfl) bipush_100 (cl_imul hG (hx_dq tdX10_lineOf_1 1 rfl) (cl_iload_n hG (hx_dq tdX10_lineOf_1 2 rfl) rfl (cl_idiv hG (hx_dq tdX10_lineOf_1 3 rfl) o58 (cl_goto hG 63 (hx_dq tdX10_lineOf_1 4 rfl) rfl (cl_iret hG (hx_dq tdX10_lineOf_1 6 rfl) rfl rfl (hK _ hw) (Nat.le_refl _) (Nat.le_refl _)))))))
def sX10_lineOf : hx_ST := fun Λ μ as KK => cF Λ ∧ ∃ (v1 : Int32) (K : Int32 → Prop), as = [.ref 7, .int v1] ∧ wX10_lineOf μ v1 K ∧ (∀ (r : Int32), K r → KK (some (.int r)) Λ μ)
theorem sX10_lineOf_mk {Λ : hx_L} {μ : hx_M} {KK : hx_KT} {v1 : Int32} {K : Int32 → Prop} (hF : cF Λ) (hw : wX10_lineOf μ v1 K) (hk : ∀ (r : Int32), K r → KK (some (.int r)) Λ μ) : sX10_lineOf Λ μ [.ref 7, .int v1] KK := ⟨hF, _, _, rfl, hw, hk⟩
theorem conX10_lineOf : hx_Con yX10_lineOf cX10_lineOf 4 (some .int) 2 0 0 sX10_lineOf := by
  refine hx_con_of (by decide +kernel) tokX10 (by decide) ?_ ?_
  · intro Λ μ as KK h
    obtain ⟨hF, v1, K, rfl, hw, hK⟩ := h
    exact Nat.le_of_ble_eq_true rfl
  · intro G KK hG cA Λ μ as h
    obtain ⟨hF, v1, K, rfl, hw, hK⟩ := h
    exact cl_sub hG (hx_le_c rfl (hx_le_c rfl (hx_le_n (hx_le_n hx_le_0)))) (kX10_lineOf hG cA hF _ hK hw)
/-! HemLine$World.keepForetold(III)I -/
def tbX10_keepForetold_0 : List (Nat × Instr × Nat) := [(0, .aload_n 0, 1), (1, .getfield 53, 3), (4, .bipush 20, 2), (6, .if_icmp .lt 5, 3), (9, .iconst (-1), 1), (10, .ireturn, 1), (11, .aload_n 0, 1), (12, .getfield 56, 3), (15, .aload_n 0, 1), (16, .getfield 53, 3), (19, .iload_n 1, 1), (20, .iastore, 1), (21, .aload_n 0, 1), (22, .getfield 60, 3), (25, .aload_n 0, 1), (26, .getfield 53, 3), (29, .iload_n 2, 1), (30, .iastore, 1), (31, .aload_n 0, 1), (32, .getfield 63, 3), (35, .aload_n 0, 1), (36, .getfield 53, 3), (39, .iload_n 3, 1), (40, .iastore, 1), (41, .aload_n 0, 1), (42, .dup, 1), (43, .getfield 53, 3), (46, .iconst 1, 1), (47, .iadd, 1), (48, .putfield 53, 3), (51, .aload_n 0, 1), (52, .getfield 53, 3)]
def tbX10_keepForetold_1 : List (Nat × Instr × Nat) := [(55, .iconst 1, 1), (56, .isub, 1), (57, .ireturn, 1)]
theorem tdX10_keepForetold_0 : hx_dt cX10_keepForetold tbX10_keepForetold_0 = true := by decide +kernel
theorem tdX10_keepForetold_1 : hx_dt cX10_keepForetold tbX10_keepForetold_1 = true := by decide +kernel
def wX10_keepForetold (μ : hx_M) (v1 : Int32) (v2 : Int32) (v3 : Int32) (K : Int32 → hx_M → Prop) : Prop := ((μ.1 7 8) < 20 → (vp_in (μ.1 7 8) 20 ∧ vp_in (μ.1 7 8) 20 ∧ vp_in (μ.1 7 8) 20 ∧ K (((μ.1 7 8) + 1) - 1) (hx_sI (hx_sI (hx_sI (hx_sI μ 25 ((μ.1 7 8).toNatClampNeg) v1) 26 ((μ.1 7 8).toNatClampNeg) v2) 27 ((μ.1 7 8).toNatClampNeg) v3) 7 8 ((μ.1 7 8) + 1)))) ∧ (¬ ((μ.1 7 8) < 20) → (K (-1) μ))
set_option maxRecDepth 100000 in
set_option maxHeartbeats 4000000 in
theorem kX10_keepForetold {G : hx_GT} {KK : hx_KT} (hG : hx_K cX10_keepForetold 4 0 0 (some .int) TbX10 KK G) (cA : hx_CA RX10 cX10_keepForetold 1 0 0 G) {Λ : hx_L} (hF : cF Λ) {μ : hx_M} (v1 : Int32) (v2 : Int32) (v3 : Int32) {K : Int32 → hx_M → Prop} (hK : ∀ (r : Int32) (m : hx_M), K r m → KK (some (.int r)) Λ m) (hw : wX10_keepForetold μ v1 v2 v3 K) : G Λ μ (0, 0) 0 [some (.ref 7), some (.int v1), some (.int v2), some (.int v3)] [] := by
  unfold wX10_keepForetold at hw
  refine cl_aload_n hG (hx_dq tdX10_keepForetold_0 0 rfl) rfl (cl_getI hG fmX10_53 (hx_dq tdX10_keepForetold_0 1 rfl) (cF_S7 hF) (cl_bipush hG 20 (hx_dq tdX10_keepForetold_0 2 rfl) bipush_20 (cl_icmp_lt hG 11 (hx_dq tdX10_keepForetold_0 3 rfl) rfl (fun c6 => ?_) (fun c6 => ?_))))
  · replace hw := hw.1 c6
    obtain ⟨i20_1, hw⟩ := hw
    obtain ⟨i30_2, hw⟩ := hw
    obtain ⟨i40_3, hw⟩ := hw
    exact cl_aload_n hG (hx_dq tdX10_keepForetold_0 6 rfl) rfl (cl_getS hG fmX10_56 (hx_dq tdX10_keepForetold_0 7 rfl) (cF_S7 hF) (cF_R7_9 hF) (cl_aload_n hG (hx_dq tdX10_keepForetold_0 8 rfl) rfl (cl_getI hG fmX10_53 (hx_dq tdX10_keepForetold_0 9 rfl) (cF_S7 hF) (cl_iload_n hG (hx_dq tdX10_keepForetold_0 10 rfl) rfl (cl_iast hG (hx_dq tdX10_keepForetold_0 11 rfl) (cF_S25 hF) i20_1 (cl_aload_n hG (hx_dq tdX10_keepForetold_0 12 rfl) rfl (cl_getS hG fmX10_60 (hx_dq tdX10_keepForetold_0 13 rfl) (cF_S7 hF) (cF_R7_10 hF) (cl_aload_n hG (hx_dq tdX10_keepForetold_0 14 rfl) rfl (cl_getI hG fmX10_53 (hx_dq tdX10_keepForetold_0 15 rfl) (cF_S7 hF) (cl_iload_n hG (hx_dq tdX10_keepForetold_0 16 rfl) rfl (cl_iast hG (hx_dq tdX10_keepForetold_0 17 rfl) (cF_S26 hF) i30_2 (cl_aload_n hG (hx_dq tdX10_keepForetold_0 18 rfl) rfl (cl_getS hG fmX10_63 (hx_dq tdX10_keepForetold_0 19 rfl) (cF_S7 hF) (cF_R7_11 hF) (cl_aload_n hG (hx_dq tdX10_keepForetold_0 20 rfl) rfl (cl_getI hG fmX10_53 (hx_dq tdX10_keepForetold_0 21 rfl) (cF_S7 hF) (cl_iload_n hG (hx_dq tdX10_keepForetold_0 22 rfl) rfl (cl_iast hG (hx_dq tdX10_keepForetold_0 23 rfl) (cF_S27 hF) i40_3 (cl_aload_n hG (hx_dq tdX10_keepForetold_0 24 rfl) rfl (cl_dup hG (hx_dq tdX10_keepForetold_0 25 rfl) rfl (cl_getI hG fmX10_53 (hx_dq tdX10_keepForetold_0 26 rfl) (cF_S7 hF) (cl_iconst hG 1 (hx_dq tdX10_keepForetold_0 27 rfl) iconst_1 (cl_iadd hG (hx_dq tdX10_keepForetold_0 28 rfl) (cl_putI hG fmX10_53 (hx_dq tdX10_keepForetold_0 29 rfl) (cF_S7 hF) (cl_aload_n hG (hx_dq tdX10_keepForetold_0 30 rfl) rfl (cl_getI hG fmX10_53 (hx_dq tdX10_keepForetold_0 31 rfl) (cF_S7 hF) (cl_iconst hG 1 (hx_dq tdX10_keepForetold_1 0 rfl) iconst_1 (cl_isub hG (hx_dq tdX10_keepForetold_1 1 rfl) (cl_iret hG (hx_dq tdX10_keepForetold_1 2 rfl) rfl rfl (hK _ _ hw) (Nat.le_refl _) (Nat.le_refl _)))))))))))))))))))))))))))))
  · replace hw := hw.2 c6
    exact cl_iconst hG (-1) (hx_dq tdX10_keepForetold_0 4 rfl) iconst_m1 (cl_iret hG (hx_dq tdX10_keepForetold_0 5 rfl) rfl rfl (hK _ _ hw) (Nat.le_refl _) (Nat.le_refl _))
def sX10_keepForetold : hx_ST := fun Λ μ as KK => cF Λ ∧ ∃ (v1 : Int32) (v2 : Int32) (v3 : Int32) (K : Int32 → hx_M → Prop), as = [.ref 7, .int v1, .int v2, .int v3] ∧ wX10_keepForetold μ v1 v2 v3 K ∧ (∀ (r : Int32) (m : hx_M), K r m → KK (some (.int r)) Λ m)
theorem sX10_keepForetold_mk {Λ : hx_L} {μ : hx_M} {KK : hx_KT} {v1 : Int32} {v2 : Int32} {v3 : Int32} {K : Int32 → hx_M → Prop} (hF : cF Λ) (hw : wX10_keepForetold μ v1 v2 v3 K) (hk : ∀ (r : Int32) (m : hx_M), K r m → KK (some (.int r)) Λ m) : sX10_keepForetold Λ μ [.ref 7, .int v1, .int v2, .int v3] KK := ⟨hF, _, _, _, _, rfl, hw, hk⟩
theorem conX10_keepForetold : hx_Con yX10_keepForetold cX10_keepForetold 4 (some .int) 1 0 0 sX10_keepForetold := by
  refine hx_con_of (by decide +kernel) tokX10 (by decide) ?_ ?_
  · intro Λ μ as KK h
    obtain ⟨hF, v1, v2, v3, K, rfl, hw, hK⟩ := h
    exact Nat.le_of_ble_eq_true rfl
  · intro G KK hG cA Λ μ as h
    obtain ⟨hF, v1, v2, v3, K, rfl, hw, hK⟩ := h
    exact cl_sub hG (hx_le_c rfl (hx_le_c rfl (hx_le_c rfl (hx_le_c rfl hx_le_0)))) (kX10_keepForetold hG cA hF _ _ _ hK hw)
/-! HemLine.<init>()V -/
def tbX11_init_0 : List (Nat × Instr × Nat) := [(0, .aload_n 0, 1), (1, .invokespecial 1, 3), (4, .aload_n 0, 1), (5, .sipush 700, 3), (8, .newarray .byte, 2), (10, .putfield 9, 3), (13, .aload_n 0, 1), (14, .iconst 0, 1), (15, .putfield 13, 3), (18, .aload_n 0, 1), (19, .new 17, 3), (22, .dup, 1), (23, .aload_n 0, 1), (24, .getfield 9, 3), (27, .invokespecial 19, 3), (30, .putfield 22, 3), (33, .aload_n 0, 1), (34, .iconst 5, 1), (35, .anewarray 26, 3), (38, .putfield 28, 3), (41, .aload_n 0, 1), (42, .iconst 0, 1), (43, .putfield 32, 3), (46, .aload_n 0, 1), (47, .iconst (-1), 1), (48, .putfield 35, 3), (51, .aload_n 0, 1), (52, .iconst (-1), 1), (53, .putfield 38, 3), (56, .aload_n 0, 1), (57, .new 41, 3), (60, .dup, 1)]
def tbX11_init_1 : List (Nat × Instr × Nat) := [(61, .sipush 301, 3), (64, .invokespecial 43, 3), (67, .putfield 46, 3), (70, .aload_n 0, 1), (71, .new 50, 3), (74, .dup, 1), (75, .aload_n 0, 1), (76, .getfield 46, 3), (79, .invokespecial 52, 3), (82, .putfield 55, 3), (85, .aload_n 0, 1), (86, .new 59, 3), (89, .dup, 1), (90, .aload_n 0, 1), (91, .getfield 46, 3), (94, .invokespecial 61, 3), (97, .putfield 62, 3), (100, .aload_n 0, 1), (101, .new 66, 3), (104, .dup, 1), (105, .aload_n 0, 1), (106, .getfield 46, 3), (109, .invokespecial 68, 3), (112, .putfield 69, 3), (115, .aload_n 0, 1), (116, .new 73, 3), (119, .dup, 1), (120, .aload_n 0, 1), (121, .getfield 46, 3), (124, .invokespecial 75, 3), (127, .putfield 76, 3), (130, .aload_n 0, 1)]
def tbX11_init_2 : List (Nat × Instr × Nat) := [(131, .new 80, 3), (134, .dup, 1), (135, .aload_n 0, 1), (136, .getfield 46, 3), (139, .invokespecial 82, 3), (142, .putfield 83, 3), (145, .aload_n 0, 1), (146, .iconst 3, 1), (147, .anewarray 41, 3), (150, .putfield 87, 3), (153, .aload_n 0, 1), (154, .iconst 0, 1), (155, .putfield 91, 3), (158, .return_, 1)]
theorem tdX11_init_0 : hx_dt cX11_init tbX11_init_0 = true := by decide +kernel
theorem tdX11_init_1 : hx_dt cX11_init tbX11_init_1 = true := by decide +kernel
theorem tdX11_init_2 : hx_dt cX11_init tbX11_init_2 = true := by decide +kernel
def TAX11_init : hx_TA := ([(17, 2, 7), (41, 10, 12), (50, 9, 2), (59, 0, 1), (66, 8, 4), (73, 5, 5), (80, 7, 6)], [(9, 11, 0, 2), (22, 11, 2, 2), (28, 11, 3, 2), (46, 11, 7, 2), (55, 11, 8, 2), (62, 11, 9, 2), (69, 11, 10, 2), (76, 11, 11, 2), (83, 11, 12, 2), (87, 11, 13, 2)], [(26, 5), (41, 6)], [1])
theorem taX11_init_n17 : (17, 2, 7) ∈ TAX11_init.1 := List.mem_of_getElem? (i := 0) rfl
theorem toX11_init_n17 : hx_nok RX11 (17, 2, 7) := ⟨RX2, TX2, tyX2, rfl, inX2, tyX2_ok, mw_113, mw_114, mw_85, nkX2, rfl⟩
theorem taX11_init_n41 : (41, 10, 12) ∈ TAX11_init.1 := List.mem_of_getElem? (i := 1) rfl
theorem toX11_init_n41 : hx_nok RX11 (41, 10, 12) := ⟨RX10, TX10, tyX10, rfl, inX10, tyX10_ok, mw_145, mw_146, mw_86, nkX10, rfl⟩
theorem taX11_init_n50 : (50, 9, 2) ∈ TAX11_init.1 := List.mem_of_getElem? (i := 2) rfl
theorem toX11_init_n50 : hx_nok RX11 (50, 9, 2) := ⟨RX9, TX9, tyX9, rfl, inX9, tyX9_ok, mw_329, mw_330, mw_92, nkX9, rfl⟩
theorem taX11_init_n59 : (59, 0, 1) ∈ TAX11_init.1 := List.mem_of_getElem? (i := 3) rfl
theorem toX11_init_n59 : hx_nok RX11 (59, 0, 1) := ⟨RX0, TX0, tyX0, rfl, inX0, tyX0_ok, mw_344, mw_345, mw_93, nkX0, rfl⟩
theorem taX11_init_n66 : (66, 8, 4) ∈ TAX11_init.1 := List.mem_of_getElem? (i := 4) rfl
theorem toX11_init_n66 : hx_nok RX11 (66, 8, 4) := ⟨RX8, TX8, tyX8, rfl, inX8, tyX8_ok, mw_354, mw_355, mw_94, nkX8, rfl⟩
theorem taX11_init_n73 : (73, 5, 5) ∈ TAX11_init.1 := List.mem_of_getElem? (i := 5) rfl
theorem toX11_init_n73 : hx_nok RX11 (73, 5, 5) := ⟨RX5, TX5, tyX5, rfl, inX5, tyX5_ok, mw_376, mw_377, mw_95, nkX5, rfl⟩
theorem taX11_init_n80 : (80, 7, 6) ∈ TAX11_init.1 := List.mem_of_getElem? (i := 6) rfl
theorem toX11_init_n80 : hx_nok RX11 (80, 7, 6) := ⟨RX7, TX7, tyX7, rfl, inX7, tyX7_ok, mw_399, mw_400, mw_96, nkX7, rfl⟩
theorem taX11_init_f9 : (9, 11, 0, 2) ∈ TAX11_init.2.1 := List.mem_of_getElem? (i := 0) rfl
theorem toX11_init_f9 : hx_ffok RX11 (9, 11, 0, 2) := ⟨RX11, TX11, 15, tyX11, rfl, Nat.le_of_ble_eq_true rfl, rfl, mw_427, inX11, tyX11_ok, nmX11, rfl, rfl, fun h => absurd h (by decide), fun _ => Or.inr ⟨_, rfl⟩⟩
theorem taX11_init_f22 : (22, 11, 2, 2) ∈ TAX11_init.2.1 := List.mem_of_getElem? (i := 1) rfl
theorem toX11_init_f22 : hx_ffok RX11 (22, 11, 2, 2) := ⟨RX11, TX11, 15, tyX11, rfl, Nat.le_of_ble_eq_true rfl, rfl, mw_429, inX11, tyX11_ok, nmX11, rfl, rfl, fun h => absurd h (by decide), fun _ => Or.inl ⟨_, rfl⟩⟩
theorem taX11_init_f28 : (28, 11, 3, 2) ∈ TAX11_init.2.1 := List.mem_of_getElem? (i := 2) rfl
theorem toX11_init_f28 : hx_ffok RX11 (28, 11, 3, 2) := ⟨RX11, TX11, 15, tyX11, rfl, Nat.le_of_ble_eq_true rfl, rfl, mw_430, inX11, tyX11_ok, nmX11, rfl, rfl, fun h => absurd h (by decide), fun _ => Or.inr ⟨_, rfl⟩⟩
theorem taX11_init_f46 : (46, 11, 7, 2) ∈ TAX11_init.2.1 := List.mem_of_getElem? (i := 3) rfl
theorem toX11_init_f46 : hx_ffok RX11 (46, 11, 7, 2) := ⟨RX11, TX11, 15, tyX11, rfl, Nat.le_of_ble_eq_true rfl, rfl, mw_434, inX11, tyX11_ok, nmX11, rfl, rfl, fun h => absurd h (by decide), fun _ => Or.inl ⟨_, rfl⟩⟩
theorem taX11_init_f55 : (55, 11, 8, 2) ∈ TAX11_init.2.1 := List.mem_of_getElem? (i := 4) rfl
theorem toX11_init_f55 : hx_ffok RX11 (55, 11, 8, 2) := ⟨RX11, TX11, 15, tyX11, rfl, Nat.le_of_ble_eq_true rfl, rfl, mw_435, inX11, tyX11_ok, nmX11, rfl, rfl, fun h => absurd h (by decide), fun _ => Or.inl ⟨_, rfl⟩⟩
theorem taX11_init_f62 : (62, 11, 9, 2) ∈ TAX11_init.2.1 := List.mem_of_getElem? (i := 5) rfl
theorem toX11_init_f62 : hx_ffok RX11 (62, 11, 9, 2) := ⟨RX11, TX11, 15, tyX11, rfl, Nat.le_of_ble_eq_true rfl, rfl, mw_436, inX11, tyX11_ok, nmX11, rfl, rfl, fun h => absurd h (by decide), fun _ => Or.inl ⟨_, rfl⟩⟩
theorem taX11_init_f69 : (69, 11, 10, 2) ∈ TAX11_init.2.1 := List.mem_of_getElem? (i := 6) rfl
theorem toX11_init_f69 : hx_ffok RX11 (69, 11, 10, 2) := ⟨RX11, TX11, 15, tyX11, rfl, Nat.le_of_ble_eq_true rfl, rfl, mw_437, inX11, tyX11_ok, nmX11, rfl, rfl, fun h => absurd h (by decide), fun _ => Or.inl ⟨_, rfl⟩⟩
theorem taX11_init_f76 : (76, 11, 11, 2) ∈ TAX11_init.2.1 := List.mem_of_getElem? (i := 7) rfl
theorem toX11_init_f76 : hx_ffok RX11 (76, 11, 11, 2) := ⟨RX11, TX11, 15, tyX11, rfl, Nat.le_of_ble_eq_true rfl, rfl, mw_438, inX11, tyX11_ok, nmX11, rfl, rfl, fun h => absurd h (by decide), fun _ => Or.inl ⟨_, rfl⟩⟩
theorem taX11_init_f83 : (83, 11, 12, 2) ∈ TAX11_init.2.1 := List.mem_of_getElem? (i := 8) rfl
theorem toX11_init_f83 : hx_ffok RX11 (83, 11, 12, 2) := ⟨RX11, TX11, 15, tyX11, rfl, Nat.le_of_ble_eq_true rfl, rfl, mw_439, inX11, tyX11_ok, nmX11, rfl, rfl, fun h => absurd h (by decide), fun _ => Or.inl ⟨_, rfl⟩⟩
theorem taX11_init_f87 : (87, 11, 13, 2) ∈ TAX11_init.2.1 := List.mem_of_getElem? (i := 9) rfl
theorem toX11_init_f87 : hx_ffok RX11 (87, 11, 13, 2) := ⟨RX11, TX11, 15, tyX11, rfl, Nat.le_of_ble_eq_true rfl, rfl, mw_440, inX11, tyX11_ok, nmX11, rfl, rfl, fun h => absurd h (by decide), fun _ => Or.inr ⟨_, rfl⟩⟩
theorem taX11_init_a26 : (26, 5) ∈ TAX11_init.2.2.1 := List.mem_of_getElem? (i := 0) rfl
theorem taX11_init_a41 : (41, 6) ∈ TAX11_init.2.2.1 := List.mem_of_getElem? (i := 1) rfl
theorem taX11_init_o1 : 1 ∈ TAX11_init.2.2.2 := List.mem_of_getElem? (i := 0) rfl
theorem taokX11_init : hx_taok RX11 TAX11_init := ⟨(List.forall_mem_cons.mpr ⟨toX11_init_n17, (List.forall_mem_cons.mpr ⟨toX11_init_n41, (List.forall_mem_cons.mpr ⟨toX11_init_n50, (List.forall_mem_cons.mpr ⟨toX11_init_n59, (List.forall_mem_cons.mpr ⟨toX11_init_n66, (List.forall_mem_cons.mpr ⟨toX11_init_n73, (List.forall_mem_cons.mpr ⟨toX11_init_n80, (fun _ h => absurd h List.not_mem_nil)⟩)⟩)⟩)⟩)⟩)⟩)⟩), (List.forall_mem_cons.mpr ⟨toX11_init_f9, (List.forall_mem_cons.mpr ⟨toX11_init_f22, (List.forall_mem_cons.mpr ⟨toX11_init_f28, (List.forall_mem_cons.mpr ⟨toX11_init_f46, (List.forall_mem_cons.mpr ⟨toX11_init_f55, (List.forall_mem_cons.mpr ⟨toX11_init_f62, (List.forall_mem_cons.mpr ⟨toX11_init_f69, (List.forall_mem_cons.mpr ⟨toX11_init_f76, (List.forall_mem_cons.mpr ⟨toX11_init_f83, (List.forall_mem_cons.mpr ⟨toX11_init_f87, (fun _ h => absurd h List.not_mem_nil)⟩)⟩)⟩)⟩)⟩)⟩)⟩)⟩)⟩)⟩), (List.forall_mem_cons.mpr ⟨(Or.inl ⟨rfl, mw_143⟩), (List.forall_mem_cons.mpr ⟨(Or.inr ⟨rfl, mw_145⟩), (fun _ h => absurd h List.not_mem_nil)⟩)⟩), (List.forall_mem_cons.mpr ⟨mw_110, (fun _ h => absurd h List.not_mem_nil)⟩)⟩
theorem caX11_init_19 {G : hx_GT} (cA : hx_CA RX11 cX11_init 4 48 15430 G) : hx_CI cX11_init G 48 15430 19 1 sX2_init 3 2102 := cA.2.2.2 conX2_init ⟨by decide +kernel, by decide +kernel, by decide +kernel⟩ rfl mw_115 mw_116 mw_85 mw_117 (by decide) (by decide)
theorem caX11_init_43 {G : hx_GT} (cA : hx_CA RX11 cX11_init 4 48 15430 G) : hx_CI cX11_init G 48 15430 43 1 sX10_init 20 11713 := cA.2.2.2 conX10_init ⟨by decide +kernel, by decide +kernel, by decide +kernel⟩ rfl mw_147 mw_148 mw_86 mw_149 (by decide) (by decide)
theorem caX11_init_52 {G : hx_GT} (cA : hx_CA RX11 cX11_init 4 48 15430 G) : hx_CI cX11_init G 48 15430 52 1 sX9_init 7 183 := cA.2.2.2 conX9_init ⟨by decide +kernel, by decide +kernel, by decide +kernel⟩ rfl mw_331 mw_332 mw_92 mw_333 (by decide) (by decide)
theorem caX11_init_61 {G : hx_GT} (cA : hx_CA RX11 cX11_init 4 48 15430 G) : hx_CI cX11_init G 48 15430 61 1 sX0_init 0 0 := cA.2.2.2 conX0_init ⟨by decide +kernel, by decide +kernel, by decide +kernel⟩ rfl mw_346 mw_347 mw_93 mw_348 (by decide) (by decide)
theorem caX11_init_68 {G : hx_GT} (cA : hx_CA RX11 cX11_init 4 48 15430 G) : hx_CI cX11_init G 48 15430 68 1 sX8_init 1 13 := cA.2.2.2 conX8_init ⟨by decide +kernel, by decide +kernel, by decide +kernel⟩ rfl mw_356 mw_357 mw_94 mw_358 (by decide) (by decide)
theorem caX11_init_75 {G : hx_GT} (cA : hx_CA RX11 cX11_init 4 48 15430 G) : hx_CI cX11_init G 48 15430 75 1 sX5_init 3 180 := cA.2.2.2 conX5_init ⟨by decide +kernel, by decide +kernel, by decide +kernel⟩ rfl mw_378 mw_379 mw_95 mw_380 (by decide) (by decide)
theorem caX11_init_82 {G : hx_GT} (cA : hx_CA RX11 cX11_init 4 48 15430 G) : hx_CI cX11_init G 48 15430 82 1 sX7_init 4 494 := cA.2.2.2 conX7_init ⟨by decide +kernel, by decide +kernel, by decide +kernel⟩ rfl mw_401 mw_402 mw_96 mw_403 (by decide) (by decide)
def wX11_init (Λ : hx_L) (μ : hx_M) (v0 : Nat) (K : hx_L → hx_M → Prop) : Prop := Λ.2.2 < hx_big ∧ ∀ L_2 : hx_L, L_2 = hx_push Λ (2, 700) → ∀ m_3 : hx_M, m_3 = (hx_z μ Λ.2.2) → L_2.1 v0 = (0, 11) ∧ ∀ L_5 : hx_L, L_5 = hx_sR L_2 v0 0 Λ.2.2 → L_5.1 v0 = (0, 11) ∧ L_5.2.2 < hx_big ∧ ∀ L_8 : hx_L, L_8 = hx_push L_5 (0, 2) → ∀ m_9 : hx_M, m_9 = (hx_z (hx_sI m_3 v0 1 0) L_5.2.2) → L_8.1 v0 = (0, 11) ∧ ∃ k24_11, L_8.2.1 v0 0 = some k24_11 ∧ wX2_init L_8 m_9 L_5.2.2 k24_11 (fun Lm27_12 m27_12 => Lm27_12.1 v0 = (0, 11) ∧ ∀ L_15 : hx_L, L_15 = hx_sR Lm27_12 v0 2 L_5.2.2 → L_15.2.2 < hx_big ∧ ∀ L_17 : hx_L, L_17 = hx_push L_15 (5, 5) → ∀ m_18 : hx_M, m_18 = (hx_z m27_12 L_15.2.2) → L_17.1 v0 = (0, 11) ∧ ∀ L_20 : hx_L, L_20 = hx_sR L_17 v0 3 L_15.2.2 → L_20.1 v0 = (0, 11) ∧ L_20.2.2 < hx_big ∧ ∀ L_23 : hx_L, L_23 = hx_push L_20 (0, 10) → ∀ m_24 : hx_M, m_24 = (hx_z (hx_sI (hx_sI (hx_sI m_18 v0 4 0) v0 5 (-1)) v0 6 (-1)) L_20.2.2) → wX10_init L_23 m_24 L_20.2.2 301 (fun Lm64_25 m64_25 => Lm64_25.1 v0 = (0, 11) ∧ ∀ L_28 : hx_L, L_28 = hx_sR Lm64_25 v0 7 L_20.2.2 → L_28.2.2 < hx_big ∧ ∀ L_30 : hx_L, L_30 = hx_push L_28 (0, 9) → ∀ m_31 : hx_M, m_31 = (hx_z m64_25 L_28.2.2) → L_30.1 v0 = (0, 11) ∧ ∃ k76_33, L_30.2.1 v0 7 = some k76_33 ∧ wX9_init L_30 m_31 L_28.2.2 k76_33 (fun Lm79_34 m79_34 => Lm79_34.1 v0 = (0, 11) ∧ ∀ L_37 : hx_L, L_37 = hx_sR Lm79_34 v0 8 L_28.2.2 → L_37.2.2 < hx_big ∧ ∀ L_39 : hx_L, L_39 = hx_push L_37 (0, 0) → ∀ m_40 : hx_M, m_40 = (hx_z m79_34 L_37.2.2) → L_39.1 v0 = (0, 11) ∧ ∃ k91_42, L_39.2.1 v0 7 = some k91_42 ∧ wX0_init L_39 m_40 L_37.2.2 k91_42 (fun Lm94_43 m94_43 => Lm94_43.1 v0 = (0, 11) ∧ ∀ L_46 : hx_L, L_46 = hx_sR Lm94_43 v0 9 L_37.2.2 → L_46.2.2 < hx_big ∧ ∀ L_48 : hx_L, L_48 = hx_push L_46 (0, 8) → ∀ m_49 : hx_M, m_49 = (hx_z m94_43 L_46.2.2) → L_48.1 v0 = (0, 11) ∧ ∃ k106_51, L_48.2.1 v0 7 = some k106_51 ∧ wX8_init L_48 m_49 L_46.2.2 k106_51 (fun Lm109_52 m109_52 => Lm109_52.1 v0 = (0, 11) ∧ ∀ L_55 : hx_L, L_55 = hx_sR Lm109_52 v0 10 L_46.2.2 → L_55.2.2 < hx_big ∧ ∀ L_57 : hx_L, L_57 = hx_push L_55 (0, 5) → ∀ m_58 : hx_M, m_58 = (hx_z m109_52 L_55.2.2) → L_57.1 v0 = (0, 11) ∧ ∃ k121_60, L_57.2.1 v0 7 = some k121_60 ∧ wX5_init L_57 m_58 L_55.2.2 k121_60 (fun Lm124_61 m124_61 => Lm124_61.1 v0 = (0, 11) ∧ ∀ L_64 : hx_L, L_64 = hx_sR Lm124_61 v0 11 L_55.2.2 → L_64.2.2 < hx_big ∧ ∀ L_66 : hx_L, L_66 = hx_push L_64 (0, 7) → ∀ m_67 : hx_M, m_67 = (hx_z m124_61 L_64.2.2) → L_66.1 v0 = (0, 11) ∧ ∃ k136_69, L_66.2.1 v0 7 = some k136_69 ∧ wX7_init L_66 m_67 L_64.2.2 k136_69 (fun Lm139_70 m139_70 => Lm139_70.1 v0 = (0, 11) ∧ ∀ L_73 : hx_L, L_73 = hx_sR Lm139_70 v0 12 L_64.2.2 → L_73.2.2 < hx_big ∧ ∀ L_75 : hx_L, L_75 = hx_push L_73 (6, 3) → ∀ m_76 : hx_M, m_76 = (hx_z m139_70 L_73.2.2) → L_75.1 v0 = (0, 11) ∧ ∀ L_78 : hx_L, L_78 = hx_sR L_75 v0 13 L_73.2.2 → L_78.1 v0 = (0, 11) ∧ K L_78 (hx_sI m_76 v0 14 0))))))))
set_option maxRecDepth 100000 in
set_option maxHeartbeats 4000000 in
theorem kX11_init {G : hx_GT} {KK : hx_KT} (hG : hx_K cX11_init 1 48 15430 (none) TbX11 KK G) (hM : hx_KA cX11_init 48 15430 TAX11_init G) (cA : hx_CA RX11 cX11_init 4 48 15430 G) {Λ : hx_L}  {μ : hx_M} (v0 : Nat) {K : hx_L → hx_M → Prop} (hK : ∀ (Λ1 : hx_L) (m : hx_M), K Λ1 m → KK none Λ1 m) (hw : wX11_init Λ μ v0 K) : G Λ μ (0, 0) 0 [some (.ref v0)] [] := by
  unfold wX11_init at hw
  obtain ⟨b1, hw⟩ := hw
  refine cl_aload_n hG (hx_dq tdX11_init_0 0 rfl) rfl (cl_oinit hM taX11_init_o1 (hx_dq tdX11_init_0 1 rfl) (Nat.le_of_ble_eq_true rfl) (cl_aload_n hG (hx_dq tdX11_init_0 2 rfl) rfl (cl_sipush hG 700 (hx_dq tdX11_init_0 3 rfl) sipush_700 (cl_newaB hM tn_700 (hx_dq tdX11_init_0 4 rfl) (by decide) (Nat.le_of_ble_eq_true rfl) (Nat.le_of_ble_eq_true rfl) (Nat.le_of_ble_eq_true rfl) b1 (cl_nmA (fun L_2 e_2 => ?_))))))
  replace hw := hw L_2 e_2
  refine cl_nmM (fun m_3 e_3 => ?_)
  replace hw := hw m_3 e_3
  obtain ⟨o10_4, hw⟩ := hw
  refine cl_putFR hM taX11_init_f9 (hx_dq tdX11_init_0 5 rfl) o10_4 (cl_nmA (fun L_5 e_5 => ?_))
  replace hw := hw L_5 e_5
  obtain ⟨o15_6, hw⟩ := hw
  obtain ⟨b7, hw⟩ := hw
  refine cl_aload_n hG (hx_dq tdX11_init_0 6 rfl) rfl (cl_iconst hG 0 (hx_dq tdX11_init_0 7 rfl) iconst_0 (cl_putI hG fmX11_13 (hx_dq tdX11_init_0 8 rfl) o15_6 (cl_aload_n hG (hx_dq tdX11_init_0 9 rfl) rfl (cl_new hM taX11_init_n17 (hx_dq tdX11_init_0 10 rfl) (Nat.le_of_ble_eq_true rfl) (Nat.le_of_ble_eq_true rfl) b7 (cl_nmA (fun L_8 e_8 => ?_))))))
  replace hw := hw L_8 e_8
  refine cl_nmM (fun m_9 e_9 => ?_)
  replace hw := hw m_9 e_9
  obtain ⟨o24_10, hw⟩ := hw
  obtain ⟨k24_11, zk24_11, hw⟩ := hw
  refine cl_dup hG (hx_dq tdX11_init_0 11 rfl) rfl (cl_aload_n hG (hx_dq tdX11_init_0 12 rfl) rfl (cl_getS hG fmX11_9 (hx_dq tdX11_init_0 13 rfl) o24_10 zk24_11 (cl_callI1 (caX11_init_19 cA) (hx_dq tdX11_init_0 14 rfl) (Nat.le_of_ble_eq_true rfl) (Nat.le_of_ble_eq_true rfl) (Nat.le_of_ble_eq_true rfl) (sX2_init_mk hw (fun Lm27_12 m27_12 hw => ?_)))))
  obtain ⟨o30_14, hw⟩ := hw
  refine cl_putFR hM taX11_init_f22 (hx_dq tdX11_init_0 15 rfl) o30_14 (cl_nmA (fun L_15 e_15 => ?_))
  replace hw := hw L_15 e_15
  obtain ⟨b16, hw⟩ := hw
  refine cl_aload_n hG (hx_dq tdX11_init_0 16 rfl) rfl (cl_iconst hG 5 (hx_dq tdX11_init_0 17 rfl) iconst_5 (cl_newq hM tn_5 taX11_init_a26 (hx_dq tdX11_init_0 18 rfl) (by decide) (Nat.le_of_ble_eq_true rfl) (Nat.le_of_ble_eq_true rfl) (Nat.le_of_ble_eq_true rfl) b16 (cl_nmA (fun L_17 e_17 => ?_))))
  replace hw := hw L_17 e_17
  refine cl_nmM (fun m_18 e_18 => ?_)
  replace hw := hw m_18 e_18
  obtain ⟨o38_19, hw⟩ := hw
  refine cl_putFR hM taX11_init_f28 (hx_dq tdX11_init_0 19 rfl) o38_19 (cl_nmA (fun L_20 e_20 => ?_))
  replace hw := hw L_20 e_20
  obtain ⟨o43_21, hw⟩ := hw
  obtain ⟨b22, hw⟩ := hw
  refine cl_aload_n hG (hx_dq tdX11_init_0 20 rfl) rfl (cl_iconst hG 0 (hx_dq tdX11_init_0 21 rfl) iconst_0 (cl_putI hG fmX11_32 (hx_dq tdX11_init_0 22 rfl) o43_21 (cl_aload_n hG (hx_dq tdX11_init_0 23 rfl) rfl (cl_iconst hG (-1) (hx_dq tdX11_init_0 24 rfl) iconst_m1 (cl_putI hG fmX11_35 (hx_dq tdX11_init_0 25 rfl) o43_21 (cl_aload_n hG (hx_dq tdX11_init_0 26 rfl) rfl (cl_iconst hG (-1) (hx_dq tdX11_init_0 27 rfl) iconst_m1 (cl_putI hG fmX11_38 (hx_dq tdX11_init_0 28 rfl) o43_21 (cl_aload_n hG (hx_dq tdX11_init_0 29 rfl) rfl (cl_new hM taX11_init_n41 (hx_dq tdX11_init_0 30 rfl) (Nat.le_of_ble_eq_true rfl) (Nat.le_of_ble_eq_true rfl) b22 (cl_nmA (fun L_23 e_23 => ?_))))))))))))
  replace hw := hw L_23 e_23
  refine cl_nmM (fun m_24 e_24 => ?_)
  replace hw := hw m_24 e_24
  refine cl_dup hG (hx_dq tdX11_init_0 31 rfl) rfl (cl_sipush hG 301 (hx_dq tdX11_init_1 0 rfl) sipush_301 (cl_callI1 (caX11_init_43 cA) (hx_dq tdX11_init_1 1 rfl) (Nat.le_of_ble_eq_true rfl) (Nat.le_of_ble_eq_true rfl) (Nat.le_of_ble_eq_true rfl) (sX10_init_mk hw (fun Lm64_25 m64_25 hw => ?_))))
  obtain ⟨o67_27, hw⟩ := hw
  refine cl_putFR hM taX11_init_f46 (hx_dq tdX11_init_1 2 rfl) o67_27 (cl_nmA (fun L_28 e_28 => ?_))
  replace hw := hw L_28 e_28
  obtain ⟨b29, hw⟩ := hw
  refine cl_aload_n hG (hx_dq tdX11_init_1 3 rfl) rfl (cl_new hM taX11_init_n50 (hx_dq tdX11_init_1 4 rfl) (Nat.le_of_ble_eq_true rfl) (Nat.le_of_ble_eq_true rfl) b29 (cl_nmA (fun L_30 e_30 => ?_)))
  replace hw := hw L_30 e_30
  refine cl_nmM (fun m_31 e_31 => ?_)
  replace hw := hw m_31 e_31
  obtain ⟨o76_32, hw⟩ := hw
  obtain ⟨k76_33, zk76_33, hw⟩ := hw
  refine cl_dup hG (hx_dq tdX11_init_1 5 rfl) rfl (cl_aload_n hG (hx_dq tdX11_init_1 6 rfl) rfl (cl_getS hG fmX11_46 (hx_dq tdX11_init_1 7 rfl) o76_32 zk76_33 (cl_callI1 (caX11_init_52 cA) (hx_dq tdX11_init_1 8 rfl) (Nat.le_of_ble_eq_true rfl) (Nat.le_of_ble_eq_true rfl) (Nat.le_of_ble_eq_true rfl) (sX9_init_mk hw (fun Lm79_34 m79_34 hw => ?_)))))
  obtain ⟨o82_36, hw⟩ := hw
  refine cl_putFR hM taX11_init_f55 (hx_dq tdX11_init_1 9 rfl) o82_36 (cl_nmA (fun L_37 e_37 => ?_))
  replace hw := hw L_37 e_37
  obtain ⟨b38, hw⟩ := hw
  refine cl_aload_n hG (hx_dq tdX11_init_1 10 rfl) rfl (cl_new hM taX11_init_n59 (hx_dq tdX11_init_1 11 rfl) (Nat.le_of_ble_eq_true rfl) (Nat.le_of_ble_eq_true rfl) b38 (cl_nmA (fun L_39 e_39 => ?_)))
  replace hw := hw L_39 e_39
  refine cl_nmM (fun m_40 e_40 => ?_)
  replace hw := hw m_40 e_40
  obtain ⟨o91_41, hw⟩ := hw
  obtain ⟨k91_42, zk91_42, hw⟩ := hw
  refine cl_dup hG (hx_dq tdX11_init_1 12 rfl) rfl (cl_aload_n hG (hx_dq tdX11_init_1 13 rfl) rfl (cl_getS hG fmX11_46 (hx_dq tdX11_init_1 14 rfl) o91_41 zk91_42 (cl_callI1 (caX11_init_61 cA) (hx_dq tdX11_init_1 15 rfl) (Nat.le_of_ble_eq_true rfl) (Nat.le_of_ble_eq_true rfl) (Nat.le_of_ble_eq_true rfl) (sX0_init_mk hw (fun Lm94_43 m94_43 hw => ?_)))))
  obtain ⟨o97_45, hw⟩ := hw
  refine cl_putFR hM taX11_init_f62 (hx_dq tdX11_init_1 16 rfl) o97_45 (cl_nmA (fun L_46 e_46 => ?_))
  replace hw := hw L_46 e_46
  obtain ⟨b47, hw⟩ := hw
  refine cl_aload_n hG (hx_dq tdX11_init_1 17 rfl) rfl (cl_new hM taX11_init_n66 (hx_dq tdX11_init_1 18 rfl) (Nat.le_of_ble_eq_true rfl) (Nat.le_of_ble_eq_true rfl) b47 (cl_nmA (fun L_48 e_48 => ?_)))
  replace hw := hw L_48 e_48
  refine cl_nmM (fun m_49 e_49 => ?_)
  replace hw := hw m_49 e_49
  obtain ⟨o106_50, hw⟩ := hw
  obtain ⟨k106_51, zk106_51, hw⟩ := hw
  refine cl_dup hG (hx_dq tdX11_init_1 19 rfl) rfl (cl_aload_n hG (hx_dq tdX11_init_1 20 rfl) rfl (cl_getS hG fmX11_46 (hx_dq tdX11_init_1 21 rfl) o106_50 zk106_51 (cl_callI1 (caX11_init_68 cA) (hx_dq tdX11_init_1 22 rfl) (Nat.le_of_ble_eq_true rfl) (Nat.le_of_ble_eq_true rfl) (Nat.le_of_ble_eq_true rfl) (sX8_init_mk hw (fun Lm109_52 m109_52 hw => ?_)))))
  obtain ⟨o112_54, hw⟩ := hw
  refine cl_putFR hM taX11_init_f69 (hx_dq tdX11_init_1 23 rfl) o112_54 (cl_nmA (fun L_55 e_55 => ?_))
  replace hw := hw L_55 e_55
  obtain ⟨b56, hw⟩ := hw
  refine cl_aload_n hG (hx_dq tdX11_init_1 24 rfl) rfl (cl_new hM taX11_init_n73 (hx_dq tdX11_init_1 25 rfl) (Nat.le_of_ble_eq_true rfl) (Nat.le_of_ble_eq_true rfl) b56 (cl_nmA (fun L_57 e_57 => ?_)))
  replace hw := hw L_57 e_57
  refine cl_nmM (fun m_58 e_58 => ?_)
  replace hw := hw m_58 e_58
  obtain ⟨o121_59, hw⟩ := hw
  obtain ⟨k121_60, zk121_60, hw⟩ := hw
  refine cl_dup hG (hx_dq tdX11_init_1 26 rfl) rfl (cl_aload_n hG (hx_dq tdX11_init_1 27 rfl) rfl (cl_getS hG fmX11_46 (hx_dq tdX11_init_1 28 rfl) o121_59 zk121_60 (cl_callI1 (caX11_init_75 cA) (hx_dq tdX11_init_1 29 rfl) (Nat.le_of_ble_eq_true rfl) (Nat.le_of_ble_eq_true rfl) (Nat.le_of_ble_eq_true rfl) (sX5_init_mk hw (fun Lm124_61 m124_61 hw => ?_)))))
  obtain ⟨o127_63, hw⟩ := hw
  refine cl_putFR hM taX11_init_f76 (hx_dq tdX11_init_1 30 rfl) o127_63 (cl_nmA (fun L_64 e_64 => ?_))
  replace hw := hw L_64 e_64
  obtain ⟨b65, hw⟩ := hw
  refine cl_aload_n hG (hx_dq tdX11_init_1 31 rfl) rfl (cl_new hM taX11_init_n80 (hx_dq tdX11_init_2 0 rfl) (Nat.le_of_ble_eq_true rfl) (Nat.le_of_ble_eq_true rfl) b65 (cl_nmA (fun L_66 e_66 => ?_)))
  replace hw := hw L_66 e_66
  refine cl_nmM (fun m_67 e_67 => ?_)
  replace hw := hw m_67 e_67
  obtain ⟨o136_68, hw⟩ := hw
  obtain ⟨k136_69, zk136_69, hw⟩ := hw
  refine cl_dup hG (hx_dq tdX11_init_2 1 rfl) rfl (cl_aload_n hG (hx_dq tdX11_init_2 2 rfl) rfl (cl_getS hG fmX11_46 (hx_dq tdX11_init_2 3 rfl) o136_68 zk136_69 (cl_callI1 (caX11_init_82 cA) (hx_dq tdX11_init_2 4 rfl) (Nat.le_of_ble_eq_true rfl) (Nat.le_of_ble_eq_true rfl) (Nat.le_of_ble_eq_true rfl) (sX7_init_mk hw (fun Lm139_70 m139_70 hw => ?_)))))
  obtain ⟨o142_72, hw⟩ := hw
  refine cl_putFR hM taX11_init_f83 (hx_dq tdX11_init_2 5 rfl) o142_72 (cl_nmA (fun L_73 e_73 => ?_))
  replace hw := hw L_73 e_73
  obtain ⟨b74, hw⟩ := hw
  refine cl_aload_n hG (hx_dq tdX11_init_2 6 rfl) rfl (cl_iconst hG 3 (hx_dq tdX11_init_2 7 rfl) iconst_3 (cl_newq hM tn_3 taX11_init_a41 (hx_dq tdX11_init_2 8 rfl) (by decide) (Nat.le_of_ble_eq_true rfl) (Nat.le_of_ble_eq_true rfl) (Nat.le_of_ble_eq_true rfl) b74 (cl_nmA (fun L_75 e_75 => ?_))))
  replace hw := hw L_75 e_75
  refine cl_nmM (fun m_76 e_76 => ?_)
  replace hw := hw m_76 e_76
  obtain ⟨o150_77, hw⟩ := hw
  refine cl_putFR hM taX11_init_f87 (hx_dq tdX11_init_2 9 rfl) o150_77 (cl_nmA (fun L_78 e_78 => ?_))
  replace hw := hw L_78 e_78
  obtain ⟨o155_79, hw⟩ := hw
  exact cl_aload_n hG (hx_dq tdX11_init_2 10 rfl) rfl (cl_iconst hG 0 (hx_dq tdX11_init_2 11 rfl) iconst_0 (cl_putI hG fmX11_91 (hx_dq tdX11_init_2 12 rfl) o155_79 (cl_vret hG (hx_dq tdX11_init_2 13 rfl) rfl (hK _ _ hw) (Nat.le_of_ble_eq_true rfl) (Nat.le_of_ble_eq_true rfl))))
def sX11_init : hx_ST := fun Λ μ as KK => ∃ (v0 : Nat) (K : hx_L → hx_M → Prop), as = [.ref v0] ∧ wX11_init Λ μ v0 K ∧ (∀ (Λ1 : hx_L) (m : hx_M), K Λ1 m → KK none Λ1 m)
theorem sX11_init_mk {Λ : hx_L} {μ : hx_M} {KK : hx_KT} {v0 : Nat} {K : hx_L → hx_M → Prop}  (hw : wX11_init Λ μ v0 K) (hk : ∀ (Λ1 : hx_L) (m : hx_M), K Λ1 m → KK none Λ1 m) : sX11_init Λ μ [.ref v0] KK := ⟨_, _, rfl, hw, hk⟩
theorem conX11_init : hx_Con yX11_init cX11_init 1 (none) 4 48 15430 sX11_init := by
  refine hx_con_ofA (by decide +kernel) tokX11 taokX11_init (Or.inr rfl) (by decide) ?_ ?_
  · intro Λ μ as KK h
    obtain ⟨v0, K, rfl, hw, hK⟩ := h
    exact Nat.le_of_ble_eq_true rfl
  · intro G KK hG hM cA Λ μ as h
    obtain ⟨v0, K, rfl, hw, hK⟩ := h
    exact cl_sub hG (hx_le_c rfl hx_le_0) (kX11_init hG hM cA _ hK hw)
/-! HemLine.person(III)I -/
def tbX11_person_0 : List (Nat × Instr × Nat) := [(0, .iload_n 1, 1), (1, .iconst 0, 1), (2, .bipush 9, 2), (4, .invokestatic 94, 3), (7, .ifCond .eq 27, 3), (10, .iload_n 2, 1), (11, .iconst 0, 1), (12, .bipush 99, 2), (14, .invokestatic 94, 3), (17, .ifCond .eq 17, 3), (20, .iload_n 3, 1), (21, .iconst 0, 1), (22, .bipush 60, 2), (24, .invokestatic 94, 3), (27, .ifCond .eq 7, 3), (30, .iconst 1, 1), (31, .goto 4, 3), (34, .iconst 0, 1), (35, .istore 4, 2), (37, .iload 4, 2), (39, .ifCond .eq 13, 3), (42, .aload_n 0, 1), (43, .getfield 46, 3), (46, .getfield 98, 3), (49, .ifCond .eq 5, 3), (52, .iconst (-1), 1), (53, .ireturn, 1), (54, .aload_n 0, 1), (55, .getfield 46, 3), (58, .getfield 101, 3), (61, .iload_n 1, 1), (62, .iload_n 2, 1)]
def tbX11_person_1 : List (Nat × Instr × Nat) := [(63, .invokevirtual 105, 3), (66, .istore 5, 2), (68, .iload 5, 2), (70, .iconst (-1), 1), (71, .if_icmp .eq 33, 3), (74, .aload_n 0, 1), (75, .getfield 46, 3), (78, .getfield 111, 3), (81, .getfield 115, 3), (84, .iload 5, 2), (86, .iload_n 3, 1), (87, .iastore, 1), (88, .aload_n 0, 1), (89, .getfield 46, 3), (92, .getfield 111, 3), (95, .getfield 121, 3), (98, .iconst 0, 1), (99, .dup2, 1), (100, .iaload, 1), (101, .iload_n 3, 1), (102, .iadd, 1), (103, .iastore, 1), (104, .iload 5, 2), (106, .ireturn, 1)]
theorem tdX11_person_0 : hx_dt cX11_person tbX11_person_0 = true := by decide +kernel
theorem tdX11_person_1 : hx_dt cX11_person tbX11_person_1 = true := by decide +kernel
theorem caX11_person_94 {G : hx_GT} (cA : hx_CA RX11 cX11_person 2 0 0 G) : hx_CS cX11_person G 0 0 94 3 sX11_within 0 0 := cA.2.1 conX11_within ⟨by decide +kernel, by decide +kernel, by decide +kernel⟩ mw_477 mw_478 mw_84 mw_479 (by decide) (by decide)
theorem caX11_person_105 {G : hx_GT} (cA : hx_CA RX11 cX11_person 2 0 0 G) : hx_CV cX11_person G 0 0 105 4 2 sX4_join 0 0 := cA.1 conX4_join rfl rfl ⟨by decide +kernel, by decide +kernel, by decide +kernel⟩ mw_480 mw_481 mw_482 mw_87 mw_483 (by decide) (by decide)
def wX11_person_J35  (K : Int32 → hx_M → Prop)  (v1 : Int32) (v2 : Int32) (v3 : Int32) (t0 : Int32) (μ : hx_M) : Prop := (t0 = 0 → (K (-1) μ)) ∧ (¬ (t0 = 0) → (((μ.1 7 7) = 0 → (wX4_join μ v1 v2 (fun r63_4 m63_3 => (r63_4 = (-1) → (K r63_4 m63_3)) ∧ (¬ (r63_4 = (-1)) → (vp_in r63_4 4816 ∧ vp_in 0 301 ∧ ∀ x_7 : Int32, x_7 = (((m63_3.1 17 ((0 : Int32).toNatClampNeg))) + v3) → vp_in 0 301 ∧ K r63_4 (hx_sI (hx_sI m63_3 16 r63_4.toNatClampNeg v3) 17 ((0 : Int32).toNatClampNeg) x_7)))))) ∧ (¬ ((μ.1 7 7) = 0) → (K (-1) μ))))
set_option maxRecDepth 100000 in
set_option maxHeartbeats 4000000 in
theorem kX11_person_J35 {G : hx_GT} {KK : hx_KT} (hG : hx_K cX11_person 6 0 0 (some .int) TbX11 KK G) (cA : hx_CA RX11 cX11_person 2 0 0 G) {Λ : hx_L} (hF : cF Λ) {μ : hx_M} (v1 : Int32) (v2 : Int32) (v3 : Int32) (t0 : Int32) {K : Int32 → hx_M → Prop} (hK : ∀ (r : Int32) (m : hx_M), K r m → KK (some (.int r)) Λ m)  (hw : wX11_person_J35 K v1 v2 v3 t0 μ) : G Λ μ (0, 0) 35 [some (.ref 0), some (.int v1), some (.int v2), some (.int v3), none, none] [.int t0] := by
  unfold wX11_person_J35 at hw
  refine cl_istore hG (hx_dq tdX11_person_0 18 rfl) (Nat.le_of_ble_eq_true rfl) rfl (cl_iload hG (hx_dq tdX11_person_0 19 rfl) rfl (cl_if_eq hG 52 (hx_dq tdX11_person_0 20 rfl) rfl (fun c39 => ?_) (fun c39 => ?_)))
  · replace hw := hw.1 c39
    exact cl_iconst hG (-1) (hx_dq tdX11_person_0 25 rfl) iconst_m1 (cl_iret hG (hx_dq tdX11_person_0 26 rfl) rfl rfl (hK _ _ hw) (Nat.le_refl _) (Nat.le_refl _))
  · replace hw := hw.2 c39
    refine cl_aload_n hG (hx_dq tdX11_person_0 21 rfl) rfl (cl_getS hG fmX11_46 (hx_dq tdX11_person_0 22 rfl) (cF_S0 hF) (cF_R0_7 hF) (cl_getI hG fmX11_98 (hx_dq tdX11_person_0 23 rfl) (cF_S7 hF) (cl_if_eq hG 54 (hx_dq tdX11_person_0 24 rfl) rfl (fun c49 => ?_) (fun c49 => ?_))))
    · replace hw := hw.1 c49
      refine cl_aload_n hG (hx_dq tdX11_person_0 27 rfl) rfl (cl_getS hG fmX11_46 (hx_dq tdX11_person_0 28 rfl) (cF_S0 hF) (cF_R0_7 hF) (cl_getS hG fmX11_101 (hx_dq tdX11_person_0 29 rfl) (cF_S7 hF) (cF_R7_0 hF) (cl_iload_n hG (hx_dq tdX11_person_0 30 rfl) rfl (cl_iload_n hG (hx_dq tdX11_person_0 31 rfl) rfl (cl_callV2 (caX11_person_105 cA) (hx_dq tdX11_person_1 0 rfl) (cF_S8 hF) (Nat.le_of_ble_eq_true rfl) (Nat.le_refl _) (Nat.le_refl _) (sX4_join_mk hF hw (fun r63_4 m63_3 hw => ?_)))))))
      refine cl_istore hG (hx_dq tdX11_person_1 1 rfl) (Nat.le_of_ble_eq_true rfl) rfl (cl_iload hG (hx_dq tdX11_person_1 2 rfl) rfl (cl_iconst hG (-1) (hx_dq tdX11_person_1 3 rfl) iconst_m1 (cl_icmp_eq hG 104 (hx_dq tdX11_person_1 4 rfl) rfl (fun c71 => ?_) (fun c71 => ?_))))
      · replace hw := hw.1 c71
        exact cl_iload hG (hx_dq tdX11_person_1 22 rfl) rfl (cl_iret hG (hx_dq tdX11_person_1 23 rfl) rfl rfl (hK _ _ hw) (Nat.le_refl _) (Nat.le_refl _))
      · replace hw := hw.2 c71
        obtain ⟨i87_5, hw⟩ := hw
        obtain ⟨i100_6, hw⟩ := hw
        refine cl_aload_n hG (hx_dq tdX11_person_1 5 rfl) rfl (cl_getS hG fmX11_46 (hx_dq tdX11_person_1 6 rfl) (cF_S0 hF) (cF_R0_7 hF) (cl_getS hG fmX11_111 (hx_dq tdX11_person_1 7 rfl) (cF_S7 hF) (cF_R7_1 hF) (cl_getS hG fmX11_115 (hx_dq tdX11_person_1 8 rfl) (cF_S15 hF) (cF_R15_1 hF) (cl_iload hG (hx_dq tdX11_person_1 9 rfl) rfl (cl_iload_n hG (hx_dq tdX11_person_1 10 rfl) rfl (cl_iast hG (hx_dq tdX11_person_1 11 rfl) (cF_S16 hF) i87_5 (cl_aload_n hG (hx_dq tdX11_person_1 12 rfl) rfl (cl_getS hG fmX11_46 (hx_dq tdX11_person_1 13 rfl) (cF_S0 hF) (cF_R0_7 hF) (cl_getS hG fmX11_111 (hx_dq tdX11_person_1 14 rfl) (cF_S7 hF) (cF_R7_1 hF) (cl_getS hG fmX11_121 (hx_dq tdX11_person_1 15 rfl) (cF_S15 hF) (cF_R15_2 hF) (cl_iconst hG 0 (hx_dq tdX11_person_1 16 rfl) iconst_0 (cl_dup2 hG (hx_dq tdX11_person_1 17 rfl) rfl rfl (cl_iald hG (hx_dq tdX11_person_1 18 rfl) (cF_S17 hF) i100_6 (cl_iload_n hG (hx_dq tdX11_person_1 19 rfl) rfl (cl_iadd hG (hx_dq tdX11_person_1 20 rfl) (cl_nmI (fun x_7 e_7 => ?_)))))))))))))))))
        replace hw := hw x_7 e_7
        obtain ⟨i103_8, hw⟩ := hw
        exact cl_iast hG (hx_dq tdX11_person_1 21 rfl) (cF_S17 hF) i103_8 (cl_iload hG (hx_dq tdX11_person_1 22 rfl) rfl (cl_iret hG (hx_dq tdX11_person_1 23 rfl) rfl rfl (hK _ _ hw) (Nat.le_refl _) (Nat.le_refl _)))
    · replace hw := hw.2 c49
      exact cl_iconst hG (-1) (hx_dq tdX11_person_0 25 rfl) iconst_m1 (cl_iret hG (hx_dq tdX11_person_0 26 rfl) rfl rfl (hK _ _ hw) (Nat.le_refl _) (Nat.le_refl _))
def wX11_person_J34  (K : Int32 → hx_M → Prop)  (v1 : Int32) (v2 : Int32) (v3 : Int32)  (μ : hx_M) : Prop := wX11_person_J35 K v1 v2 v3 0 μ
set_option maxRecDepth 100000 in
set_option maxHeartbeats 4000000 in
theorem kX11_person_J34 {G : hx_GT} {KK : hx_KT} (hG : hx_K cX11_person 6 0 0 (some .int) TbX11 KK G) (cA : hx_CA RX11 cX11_person 2 0 0 G) {Λ : hx_L} (hF : cF Λ) {μ : hx_M} (v1 : Int32) (v2 : Int32) (v3 : Int32)  {K : Int32 → hx_M → Prop} (hK : ∀ (r : Int32) (m : hx_M), K r m → KK (some (.int r)) Λ m)  (hw : wX11_person_J34 K v1 v2 v3 μ) : G Λ μ (0, 0) 34 [some (.ref 0), some (.int v1), some (.int v2), some (.int v3), none, none] [] := by
  unfold wX11_person_J34 at hw
  refine cl_iconst hG 0 (hx_dq tdX11_person_0 17 rfl) iconst_0 ?_
  exact cl_sub hG (hx_le_c rfl (hx_le_c rfl (hx_le_c rfl (hx_le_c rfl (hx_le_n (hx_le_n hx_le_0)))))) (kX11_person_J35 hG cA hF v1 v2 v3 0 hK hw)
def wX11_person_J35_13  (K : Int32 → hx_M → Prop)  (v1 : Int32) (v2 : Int32) (v3 : Int32) (t0 : Int32) (μ : hx_M) : Prop := (t0 = 0 → (K (-1) μ)) ∧ (¬ (t0 = 0) → (((μ.1 7 7) = 0 → (wX4_join μ v1 v2 (fun r63_15 m63_14 => (r63_15 = (-1) → (K r63_15 m63_14)) ∧ (¬ (r63_15 = (-1)) → (vp_in r63_15 4816 ∧ vp_in 0 301 ∧ ∀ x_18 : Int32, x_18 = (((m63_14.1 17 ((0 : Int32).toNatClampNeg))) + v3) → vp_in 0 301 ∧ K r63_15 (hx_sI (hx_sI m63_14 16 r63_15.toNatClampNeg v3) 17 ((0 : Int32).toNatClampNeg) x_18)))))) ∧ (¬ ((μ.1 7 7) = 0) → (K (-1) μ))))
set_option maxRecDepth 100000 in
set_option maxHeartbeats 4000000 in
theorem kX11_person_J35_13 {G : hx_GT} {KK : hx_KT} (hG : hx_K cX11_person 6 0 0 (some .int) TbX11 KK G) (cA : hx_CA RX11 cX11_person 2 0 0 G) {Λ : hx_L} (hF : cF Λ) {μ : hx_M} (v1 : Int32) (v2 : Int32) (v3 : Int32) (t0 : Int32) {K : Int32 → hx_M → Prop} (hK : ∀ (r : Int32) (m : hx_M), K r m → KK (some (.int r)) Λ m)  (hw : wX11_person_J35_13 K v1 v2 v3 t0 μ) : G Λ μ (0, 0) 35 [some (.ref 0), some (.int v1), some (.int v2), some (.int v3), none, none] [.int t0] := by
  unfold wX11_person_J35_13 at hw
  refine cl_istore hG (hx_dq tdX11_person_0 18 rfl) (Nat.le_of_ble_eq_true rfl) rfl (cl_iload hG (hx_dq tdX11_person_0 19 rfl) rfl (cl_if_eq hG 52 (hx_dq tdX11_person_0 20 rfl) rfl (fun c39 => ?_) (fun c39 => ?_)))
  · replace hw := hw.1 c39
    exact cl_iconst hG (-1) (hx_dq tdX11_person_0 25 rfl) iconst_m1 (cl_iret hG (hx_dq tdX11_person_0 26 rfl) rfl rfl (hK _ _ hw) (Nat.le_refl _) (Nat.le_refl _))
  · replace hw := hw.2 c39
    refine cl_aload_n hG (hx_dq tdX11_person_0 21 rfl) rfl (cl_getS hG fmX11_46 (hx_dq tdX11_person_0 22 rfl) (cF_S0 hF) (cF_R0_7 hF) (cl_getI hG fmX11_98 (hx_dq tdX11_person_0 23 rfl) (cF_S7 hF) (cl_if_eq hG 54 (hx_dq tdX11_person_0 24 rfl) rfl (fun c49 => ?_) (fun c49 => ?_))))
    · replace hw := hw.1 c49
      refine cl_aload_n hG (hx_dq tdX11_person_0 27 rfl) rfl (cl_getS hG fmX11_46 (hx_dq tdX11_person_0 28 rfl) (cF_S0 hF) (cF_R0_7 hF) (cl_getS hG fmX11_101 (hx_dq tdX11_person_0 29 rfl) (cF_S7 hF) (cF_R7_0 hF) (cl_iload_n hG (hx_dq tdX11_person_0 30 rfl) rfl (cl_iload_n hG (hx_dq tdX11_person_0 31 rfl) rfl (cl_callV2 (caX11_person_105 cA) (hx_dq tdX11_person_1 0 rfl) (cF_S8 hF) (Nat.le_of_ble_eq_true rfl) (Nat.le_refl _) (Nat.le_refl _) (sX4_join_mk hF hw (fun r63_15 m63_14 hw => ?_)))))))
      refine cl_istore hG (hx_dq tdX11_person_1 1 rfl) (Nat.le_of_ble_eq_true rfl) rfl (cl_iload hG (hx_dq tdX11_person_1 2 rfl) rfl (cl_iconst hG (-1) (hx_dq tdX11_person_1 3 rfl) iconst_m1 (cl_icmp_eq hG 104 (hx_dq tdX11_person_1 4 rfl) rfl (fun c71 => ?_) (fun c71 => ?_))))
      · replace hw := hw.1 c71
        exact cl_iload hG (hx_dq tdX11_person_1 22 rfl) rfl (cl_iret hG (hx_dq tdX11_person_1 23 rfl) rfl rfl (hK _ _ hw) (Nat.le_refl _) (Nat.le_refl _))
      · replace hw := hw.2 c71
        obtain ⟨i87_16, hw⟩ := hw
        obtain ⟨i100_17, hw⟩ := hw
        refine cl_aload_n hG (hx_dq tdX11_person_1 5 rfl) rfl (cl_getS hG fmX11_46 (hx_dq tdX11_person_1 6 rfl) (cF_S0 hF) (cF_R0_7 hF) (cl_getS hG fmX11_111 (hx_dq tdX11_person_1 7 rfl) (cF_S7 hF) (cF_R7_1 hF) (cl_getS hG fmX11_115 (hx_dq tdX11_person_1 8 rfl) (cF_S15 hF) (cF_R15_1 hF) (cl_iload hG (hx_dq tdX11_person_1 9 rfl) rfl (cl_iload_n hG (hx_dq tdX11_person_1 10 rfl) rfl (cl_iast hG (hx_dq tdX11_person_1 11 rfl) (cF_S16 hF) i87_16 (cl_aload_n hG (hx_dq tdX11_person_1 12 rfl) rfl (cl_getS hG fmX11_46 (hx_dq tdX11_person_1 13 rfl) (cF_S0 hF) (cF_R0_7 hF) (cl_getS hG fmX11_111 (hx_dq tdX11_person_1 14 rfl) (cF_S7 hF) (cF_R7_1 hF) (cl_getS hG fmX11_121 (hx_dq tdX11_person_1 15 rfl) (cF_S15 hF) (cF_R15_2 hF) (cl_iconst hG 0 (hx_dq tdX11_person_1 16 rfl) iconst_0 (cl_dup2 hG (hx_dq tdX11_person_1 17 rfl) rfl rfl (cl_iald hG (hx_dq tdX11_person_1 18 rfl) (cF_S17 hF) i100_17 (cl_iload_n hG (hx_dq tdX11_person_1 19 rfl) rfl (cl_iadd hG (hx_dq tdX11_person_1 20 rfl) (cl_nmI (fun x_18 e_18 => ?_)))))))))))))))))
        replace hw := hw x_18 e_18
        obtain ⟨i103_19, hw⟩ := hw
        exact cl_iast hG (hx_dq tdX11_person_1 21 rfl) (cF_S17 hF) i103_19 (cl_iload hG (hx_dq tdX11_person_1 22 rfl) rfl (cl_iret hG (hx_dq tdX11_person_1 23 rfl) rfl rfl (hK _ _ hw) (Nat.le_refl _) (Nat.le_refl _)))
    · replace hw := hw.2 c49
      exact cl_iconst hG (-1) (hx_dq tdX11_person_0 25 rfl) iconst_m1 (cl_iret hG (hx_dq tdX11_person_0 26 rfl) rfl rfl (hK _ _ hw) (Nat.le_refl _) (Nat.le_refl _))
def wX11_person (μ : hx_M) (v1 : Int32) (v2 : Int32) (v3 : Int32) (K : Int32 → hx_M → Prop) : Prop := wX11_within v1 0 9 (fun r4_2 => (r4_2 = 0 → (wX11_person_J34 K v1 v2 v3 μ)) ∧ (¬ (r4_2 = 0) → (wX11_within v2 0 99 (fun r14_10 => (r14_10 = 0 → (wX11_person_J34 K v1 v2 v3 μ)) ∧ (¬ (r14_10 = 0) → (wX11_within v3 0 60 (fun r24_12 => (r24_12 = 0 → (wX11_person_J34 K v1 v2 v3 μ)) ∧ (¬ (r24_12 = 0) → (wX11_person_J35_13 K v1 v2 v3 1 μ)))))))))
set_option maxRecDepth 100000 in
set_option maxHeartbeats 4000000 in
theorem kX11_person {G : hx_GT} {KK : hx_KT} (hG : hx_K cX11_person 6 0 0 (some .int) TbX11 KK G) (cA : hx_CA RX11 cX11_person 2 0 0 G) {Λ : hx_L} (hF : cF Λ) {μ : hx_M} (v1 : Int32) (v2 : Int32) (v3 : Int32) {K : Int32 → hx_M → Prop} (hK : ∀ (r : Int32) (m : hx_M), K r m → KK (some (.int r)) Λ m) (hw : wX11_person μ v1 v2 v3 K) : G Λ μ (0, 0) 0 [some (.ref 0), some (.int v1), some (.int v2), some (.int v3), none, none] [] := by
  unfold wX11_person at hw
  refine cl_iload_n hG (hx_dq tdX11_person_0 0 rfl) rfl (cl_iconst hG 0 (hx_dq tdX11_person_0 1 rfl) iconst_0 (cl_bipush hG 9 (hx_dq tdX11_person_0 2 rfl) bipush_9 (cl_callS3 (caX11_person_94 cA) (hx_dq tdX11_person_0 3 rfl) (Nat.le_of_ble_eq_true rfl) (Nat.le_refl _) (Nat.le_refl _) (sX11_within_mk hw (fun r4_2 hw => ?_)))))
  refine cl_if_eq hG 34 (hx_dq tdX11_person_0 4 rfl) rfl (fun c7 => ?_) (fun c7 => ?_)
  · replace hw := hw.1 c7
    exact cl_sub hG (hx_le_c rfl (hx_le_c rfl (hx_le_c rfl (hx_le_c rfl (hx_le_n (hx_le_n hx_le_0)))))) (kX11_person_J34 hG cA hF v1 v2 v3 hK hw)
  · replace hw := hw.2 c7
    refine cl_iload_n hG (hx_dq tdX11_person_0 5 rfl) rfl (cl_iconst hG 0 (hx_dq tdX11_person_0 6 rfl) iconst_0 (cl_bipush hG 99 (hx_dq tdX11_person_0 7 rfl) bipush_99 (cl_callS3 (caX11_person_94 cA) (hx_dq tdX11_person_0 8 rfl) (Nat.le_of_ble_eq_true rfl) (Nat.le_refl _) (Nat.le_refl _) (sX11_within_mk hw (fun r14_10 hw => ?_)))))
    refine cl_if_eq hG 34 (hx_dq tdX11_person_0 9 rfl) rfl (fun c17 => ?_) (fun c17 => ?_)
    · replace hw := hw.1 c17
      exact cl_sub hG (hx_le_c rfl (hx_le_c rfl (hx_le_c rfl (hx_le_c rfl (hx_le_n (hx_le_n hx_le_0)))))) (kX11_person_J34 hG cA hF v1 v2 v3 hK hw)
    · replace hw := hw.2 c17
      refine cl_iload_n hG (hx_dq tdX11_person_0 10 rfl) rfl (cl_iconst hG 0 (hx_dq tdX11_person_0 11 rfl) iconst_0 (cl_bipush hG 60 (hx_dq tdX11_person_0 12 rfl) bipush_60 (cl_callS3 (caX11_person_94 cA) (hx_dq tdX11_person_0 13 rfl) (Nat.le_of_ble_eq_true rfl) (Nat.le_refl _) (Nat.le_refl _) (sX11_within_mk hw (fun r24_12 hw => ?_)))))
      refine cl_if_eq hG 34 (hx_dq tdX11_person_0 14 rfl) rfl (fun c27 => ?_) (fun c27 => ?_)
      · replace hw := hw.1 c27
        exact cl_sub hG (hx_le_c rfl (hx_le_c rfl (hx_le_c rfl (hx_le_c rfl (hx_le_n (hx_le_n hx_le_0)))))) (kX11_person_J34 hG cA hF v1 v2 v3 hK hw)
      · replace hw := hw.2 c27
        refine cl_iconst hG 1 (hx_dq tdX11_person_0 15 rfl) iconst_1 (cl_goto hG 35 (hx_dq tdX11_person_0 16 rfl) rfl ?_)
        exact cl_sub hG (hx_le_c rfl (hx_le_c rfl (hx_le_c rfl (hx_le_c rfl (hx_le_n (hx_le_n hx_le_0)))))) (kX11_person_J35_13 hG cA hF v1 v2 v3 1 hK hw)
def sX11_person : hx_ST := fun Λ μ as KK => cF Λ ∧ ∃ (v1 : Int32) (v2 : Int32) (v3 : Int32) (K : Int32 → hx_M → Prop), as = [.ref 0, .int v1, .int v2, .int v3] ∧ wX11_person μ v1 v2 v3 K ∧ (∀ (r : Int32) (m : hx_M), K r m → KK (some (.int r)) Λ m)
theorem sX11_person_mk {Λ : hx_L} {μ : hx_M} {KK : hx_KT} {v1 : Int32} {v2 : Int32} {v3 : Int32} {K : Int32 → hx_M → Prop} (hF : cF Λ) (hw : wX11_person μ v1 v2 v3 K) (hk : ∀ (r : Int32) (m : hx_M), K r m → KK (some (.int r)) Λ m) : sX11_person Λ μ [.ref 0, .int v1, .int v2, .int v3] KK := ⟨hF, _, _, _, _, rfl, hw, hk⟩
theorem conX11_person : hx_Con yX11_person cX11_person 6 (some .int) 2 0 0 sX11_person := by
  refine hx_con_of (by decide +kernel) tokX11 (by decide) ?_ ?_
  · intro Λ μ as KK h
    obtain ⟨hF, v1, v2, v3, K, rfl, hw, hK⟩ := h
    exact Nat.le_of_ble_eq_true rfl
  · intro G KK hG cA Λ μ as h
    obtain ⟨hF, v1, v2, v3, K, rfl, hw, hK⟩ := h
    exact cl_sub hG (hx_le_c rfl (hx_le_c rfl (hx_le_c rfl (hx_le_c rfl (hx_le_n (hx_le_n hx_le_0)))))) (kX11_person hG cA hF _ _ _ hK hw)
/-! HemLine.sees(IIZ)Z -/
def tbX11_sees_0 : List (Nat × Instr × Nat) := [(0, .aload_n 0, 1), (1, .getfield 46, 3), (4, .getfield 101, 3), (7, .iload_n 1, 1), (8, .invokevirtual 124, 3), (11, .ifCond .eq 22, 3), (14, .aload_n 0, 1), (15, .getfield 46, 3), (18, .getfield 101, 3), (21, .iload_n 2, 1), (22, .invokevirtual 124, 3), (25, .ifCond .eq 8, 3), (28, .iload_n 1, 1), (29, .iload_n 2, 1), (30, .if_icmp .ne 5, 3), (33, .iconst 0, 1), (34, .ireturn, 1), (35, .iconst 1, 1), (36, .iload_n 2, 1), (37, .ishl, 1), (38, .istore 4, 2), (40, .aload_n 0, 1), (41, .getfield 46, 3), (44, .getfield 101, 3), (47, .getfield 128, 3), (50, .iload_n 1, 1), (51, .iaload, 1), (52, .istore 5, 2), (54, .aload_n 0, 1), (55, .getfield 46, 3), (58, .getfield 101, 3), (61, .getfield 128, 3)]
def tbX11_sees_1 : List (Nat × Instr × Nat) := [(64, .iload_n 1, 1), (65, .iload_n 3, 1), (66, .ifCond .eq 11, 3), (69, .iload 5, 2), (71, .iload 4, 2), (73, .ior, 1), (74, .goto 10, 3), (77, .iload 5, 2), (79, .iload 4, 2), (81, .iconst (-1), 1), (82, .ixor, 1), (83, .iand, 1), (84, .iastore, 1), (85, .iconst 1, 1), (86, .ireturn, 1)]
theorem tdX11_sees_0 : hx_dt cX11_sees tbX11_sees_0 = true := by decide +kernel
theorem tdX11_sees_1 : hx_dt cX11_sees tbX11_sees_1 = true := by decide +kernel
theorem caX11_sees_124 {G : hx_GT} (cA : hx_CA RX11 cX11_sees 3 0 0 G) : hx_CV cX11_sees G 0 0 124 4 1 sX4_has 0 0 := cA.1 conX4_has rfl rfl ⟨by decide +kernel, by decide +kernel, by decide +kernel⟩ mw_488 mw_489 mw_490 mw_87 mw_491 (by decide) (by decide)
def wX11_sees (μ : hx_M) (v1 : Int32) (v2 : Int32) (v3 : Int32) (K : Int32 → hx_M → Prop) : Prop := wX4_has μ v1 (fun r8_2 => (r8_2 = 0 → (K 0 μ)) ∧ (¬ (r8_2 = 0) → (wX4_has μ v2 (fun r22_4 => (r22_4 = 0 → (K 0 μ)) ∧ (¬ (r22_4 = 0) → ((v1 ≠ v2 → (vp_in v1 16 ∧ (v3 = 0 → (∀ x_6 : Int32, x_6 = ((μ.1 11 v1.toNatClampNeg) &&& ((1 <<< (v2 &&& 31)) ^^^ (-1))) → vp_in v1 16 ∧ K 1 (hx_sI μ 11 v1.toNatClampNeg x_6))) ∧ (¬ (v3 = 0) → (∀ x_8 : Int32, x_8 = ((μ.1 11 v1.toNatClampNeg) ||| (1 <<< (v2 &&& 31))) → vp_in v1 16 ∧ K 1 (hx_sI μ 11 v1.toNatClampNeg x_8))))) ∧ (v1 = v2 → (K 0 μ))))))))
set_option maxRecDepth 100000 in
set_option maxHeartbeats 4000000 in
theorem kX11_sees {G : hx_GT} {KK : hx_KT} (hG : hx_K cX11_sees 6 0 0 (some .boolean) TbX11 KK G) (cA : hx_CA RX11 cX11_sees 3 0 0 G) {Λ : hx_L} (hF : cF Λ) {μ : hx_M} (v1 : Int32) (v2 : Int32) (v3 : Int32) {K : Int32 → hx_M → Prop} (hK : ∀ (r : Int32) (m : hx_M), K r m → KK (some (.int r)) Λ m) (hw : wX11_sees μ v1 v2 v3 K) : G Λ μ (0, 0) 0 [some (.ref 0), some (.int v1), some (.int v2), some (.int v3), none, none] [] := by
  unfold wX11_sees at hw
  refine cl_aload_n hG (hx_dq tdX11_sees_0 0 rfl) rfl (cl_getS hG fmX11_46 (hx_dq tdX11_sees_0 1 rfl) (cF_S0 hF) (cF_R0_7 hF) (cl_getS hG fmX11_101 (hx_dq tdX11_sees_0 2 rfl) (cF_S7 hF) (cF_R7_0 hF) (cl_iload_n hG (hx_dq tdX11_sees_0 3 rfl) rfl (cl_callV1 (caX11_sees_124 cA) (hx_dq tdX11_sees_0 4 rfl) (cF_S8 hF) (Nat.le_of_ble_eq_true rfl) (Nat.le_refl _) (Nat.le_refl _) (sX4_has_mk hF hw (fun r8_2 hw => ?_))))))
  refine cl_if_eq hG 33 (hx_dq tdX11_sees_0 5 rfl) rfl (fun c11 => ?_) (fun c11 => ?_)
  · replace hw := hw.1 c11
    exact cl_iconst hG 0 (hx_dq tdX11_sees_0 15 rfl) iconst_0 (cl_iret hG (hx_dq tdX11_sees_0 16 rfl) rfl rfl (hK _ _ hw) (Nat.le_refl _) (Nat.le_refl _))
  · replace hw := hw.2 c11
    refine cl_aload_n hG (hx_dq tdX11_sees_0 6 rfl) rfl (cl_getS hG fmX11_46 (hx_dq tdX11_sees_0 7 rfl) (cF_S0 hF) (cF_R0_7 hF) (cl_getS hG fmX11_101 (hx_dq tdX11_sees_0 8 rfl) (cF_S7 hF) (cF_R7_0 hF) (cl_iload_n hG (hx_dq tdX11_sees_0 9 rfl) rfl (cl_callV1 (caX11_sees_124 cA) (hx_dq tdX11_sees_0 10 rfl) (cF_S8 hF) (Nat.le_of_ble_eq_true rfl) (Nat.le_refl _) (Nat.le_refl _) (sX4_has_mk hF hw (fun r22_4 hw => ?_))))))
    refine cl_if_eq hG 33 (hx_dq tdX11_sees_0 11 rfl) rfl (fun c25 => ?_) (fun c25 => ?_)
    · replace hw := hw.1 c25
      exact cl_iconst hG 0 (hx_dq tdX11_sees_0 15 rfl) iconst_0 (cl_iret hG (hx_dq tdX11_sees_0 16 rfl) rfl rfl (hK _ _ hw) (Nat.le_refl _) (Nat.le_refl _))
    · replace hw := hw.2 c25
      refine cl_iload_n hG (hx_dq tdX11_sees_0 12 rfl) rfl (cl_iload_n hG (hx_dq tdX11_sees_0 13 rfl) rfl (cl_icmp_ne hG 35 (hx_dq tdX11_sees_0 14 rfl) rfl (fun c30 => ?_) (fun c30 => ?_)))
      · replace hw := hw.1 c30
        obtain ⟨i51_5, hw⟩ := hw
        refine cl_iconst hG 1 (hx_dq tdX11_sees_0 17 rfl) iconst_1 (cl_iload_n hG (hx_dq tdX11_sees_0 18 rfl) rfl (cl_ishl hG (hx_dq tdX11_sees_0 19 rfl) (cl_istore hG (hx_dq tdX11_sees_0 20 rfl) (Nat.le_of_ble_eq_true rfl) rfl (cl_aload_n hG (hx_dq tdX11_sees_0 21 rfl) rfl (cl_getS hG fmX11_46 (hx_dq tdX11_sees_0 22 rfl) (cF_S0 hF) (cF_R0_7 hF) (cl_getS hG fmX11_101 (hx_dq tdX11_sees_0 23 rfl) (cF_S7 hF) (cF_R7_0 hF) (cl_getS hG fmX11_128 (hx_dq tdX11_sees_0 24 rfl) (cF_S8 hF) (cF_R8_3 hF) (cl_iload_n hG (hx_dq tdX11_sees_0 25 rfl) rfl (cl_iald hG (hx_dq tdX11_sees_0 26 rfl) (cF_S11 hF) i51_5 (cl_istore hG (hx_dq tdX11_sees_0 27 rfl) (Nat.le_of_ble_eq_true rfl) rfl (cl_aload_n hG (hx_dq tdX11_sees_0 28 rfl) rfl (cl_getS hG fmX11_46 (hx_dq tdX11_sees_0 29 rfl) (cF_S0 hF) (cF_R0_7 hF) (cl_getS hG fmX11_101 (hx_dq tdX11_sees_0 30 rfl) (cF_S7 hF) (cF_R7_0 hF) (cl_getS hG fmX11_128 (hx_dq tdX11_sees_0 31 rfl) (cF_S8 hF) (cF_R8_3 hF) (cl_iload_n hG (hx_dq tdX11_sees_1 0 rfl) rfl (cl_iload_n hG (hx_dq tdX11_sees_1 1 rfl) rfl (cl_if_eq hG 77 (hx_dq tdX11_sees_1 2 rfl) rfl (fun c66 => ?_) (fun c66 => ?_))))))))))))))))))
        · replace hw := hw.1 c66
          refine cl_iload hG (hx_dq tdX11_sees_1 7 rfl) rfl (cl_iload hG (hx_dq tdX11_sees_1 8 rfl) rfl (cl_iconst hG (-1) (hx_dq tdX11_sees_1 9 rfl) iconst_m1 (cl_ixor hG (hx_dq tdX11_sees_1 10 rfl) (cl_iand hG (hx_dq tdX11_sees_1 11 rfl) (cl_nmI (fun x_6 e_6 => ?_))))))
          replace hw := hw x_6 e_6
          obtain ⟨i84_7, hw⟩ := hw
          exact cl_iast hG (hx_dq tdX11_sees_1 12 rfl) (cF_S11 hF) i84_7 (cl_iconst hG 1 (hx_dq tdX11_sees_1 13 rfl) iconst_1 (cl_iret hG (hx_dq tdX11_sees_1 14 rfl) rfl rfl (hK _ _ hw) (Nat.le_refl _) (Nat.le_refl _)))
        · replace hw := hw.2 c66
          refine cl_iload hG (hx_dq tdX11_sees_1 3 rfl) rfl (cl_iload hG (hx_dq tdX11_sees_1 4 rfl) rfl (cl_ior hG (hx_dq tdX11_sees_1 5 rfl) (cl_nmI (fun x_8 e_8 => ?_))))
          replace hw := hw x_8 e_8
          obtain ⟨i84_9, hw⟩ := hw
          exact cl_goto hG 84 (hx_dq tdX11_sees_1 6 rfl) rfl (cl_iast hG (hx_dq tdX11_sees_1 12 rfl) (cF_S11 hF) i84_9 (cl_iconst hG 1 (hx_dq tdX11_sees_1 13 rfl) iconst_1 (cl_iret hG (hx_dq tdX11_sees_1 14 rfl) rfl rfl (hK _ _ hw) (Nat.le_refl _) (Nat.le_refl _))))
      · replace hw := hw.2 c30
        exact cl_iconst hG 0 (hx_dq tdX11_sees_0 15 rfl) iconst_0 (cl_iret hG (hx_dq tdX11_sees_0 16 rfl) rfl rfl (hK _ _ hw) (Nat.le_refl _) (Nat.le_refl _))
def sX11_sees : hx_ST := fun Λ μ as KK => cF Λ ∧ ∃ (v1 : Int32) (v2 : Int32) (v3 : Int32) (K : Int32 → hx_M → Prop), as = [.ref 0, .int v1, .int v2, .int v3] ∧ wX11_sees μ v1 v2 v3 K ∧ (∀ (r : Int32) (m : hx_M), K r m → KK (some (.int r)) Λ m)
theorem sX11_sees_mk {Λ : hx_L} {μ : hx_M} {KK : hx_KT} {v1 : Int32} {v2 : Int32} {v3 : Int32} {K : Int32 → hx_M → Prop} (hF : cF Λ) (hw : wX11_sees μ v1 v2 v3 K) (hk : ∀ (r : Int32) (m : hx_M), K r m → KK (some (.int r)) Λ m) : sX11_sees Λ μ [.ref 0, .int v1, .int v2, .int v3] KK := ⟨hF, _, _, _, _, rfl, hw, hk⟩
theorem conX11_sees : hx_Con yX11_sees cX11_sees 6 (some .boolean) 3 0 0 sX11_sees := by
  refine hx_con_of (by decide +kernel) tokX11 (by decide) ?_ ?_
  · intro Λ μ as KK h
    obtain ⟨hF, v1, v2, v3, K, rfl, hw, hK⟩ := h
    exact Nat.le_of_ble_eq_true rfl
  · intro G KK hG cA Λ μ as h
    obtain ⟨hF, v1, v2, v3, K, rfl, hw, hK⟩ := h
    exact cl_sub hG (hx_le_c rfl (hx_le_c rfl (hx_le_c rfl (hx_le_c rfl (hx_le_n (hx_le_n hx_le_0)))))) (kX11_sees hG cA hF _ _ _ hK hw)
/-! HemLine.isHouse(I)Z -/
def tbX11_isHouse_0 : List (Nat × Instr × Nat) := [(0, .iload_n 0, 1), (1, .iconst 0, 1), (2, .iconst 3, 1), (3, .invokestatic 94, 3), (6, .ireturn, 1)]
theorem tdX11_isHouse_0 : hx_dt cX11_isHouse tbX11_isHouse_0 = true := by decide +kernel
theorem caX11_isHouse_94 {G : hx_GT} (cA : hx_CA RX11 cX11_isHouse 2 0 0 G) : hx_CS cX11_isHouse G 0 0 94 3 sX11_within 0 0 := cA.2.1 conX11_within ⟨by decide +kernel, by decide +kernel, by decide +kernel⟩ mw_477 mw_478 mw_84 mw_479 (by decide) (by decide)
def wX11_isHouse  (v0 : Int32) (K : Int32 → Prop) : Prop := wX11_within v0 0 3 (fun r3_2 => (r3_2 = 0 ∨ r3_2 = 1) ∧ K r3_2)
set_option maxRecDepth 100000 in
set_option maxHeartbeats 4000000 in
theorem kX11_isHouse {G : hx_GT} {KK : hx_KT} (hG : hx_K cX11_isHouse 1 0 0 (some .boolean) TbX11 KK G) (cA : hx_CA RX11 cX11_isHouse 2 0 0 G) {Λ : hx_L}  {μ : hx_M} (v0 : Int32) {K : Int32 → Prop} (hK : ∀ (r : Int32), K r → KK (some (.int r)) Λ μ) (hw : wX11_isHouse v0 K) : G Λ μ (0, 0) 0 [some (.int v0)] [] := by
  unfold wX11_isHouse at hw
  refine cl_iload_n hG (hx_dq tdX11_isHouse_0 0 rfl) rfl (cl_iconst hG 0 (hx_dq tdX11_isHouse_0 1 rfl) iconst_0 (cl_iconst hG 3 (hx_dq tdX11_isHouse_0 2 rfl) iconst_3 (cl_callS3 (caX11_isHouse_94 cA) (hx_dq tdX11_isHouse_0 3 rfl) (Nat.le_of_ble_eq_true rfl) (Nat.le_refl _) (Nat.le_refl _) (sX11_within_mk hw (fun r3_2 hw => ?_)))))
  obtain ⟨b6, hw⟩ := hw
  exact cl_iret hG (hx_dq tdX11_isHouse_0 4 rfl) rfl (hx_nb b6) (hK _ hw) (Nat.le_refl _) (Nat.le_refl _)
def sX11_isHouse : hx_ST := fun Λ μ as KK => ∃ (v0 : Int32) (K : Int32 → Prop), as = [.int v0] ∧ wX11_isHouse v0 K ∧ (∀ (r : Int32), K r → KK (some (.int r)) Λ μ)
theorem sX11_isHouse_mk {Λ : hx_L} {μ : hx_M} {KK : hx_KT} {v0 : Int32} {K : Int32 → Prop}  (hw : wX11_isHouse v0 K) (hk : ∀ (r : Int32), K r → KK (some (.int r)) Λ μ) : sX11_isHouse Λ μ [.int v0] KK := ⟨_, _, rfl, hw, hk⟩
theorem conX11_isHouse : hx_Con yX11_isHouse cX11_isHouse 1 (some .boolean) 2 0 0 sX11_isHouse := by
  refine hx_con_of (by decide +kernel) tokX11 (by decide) ?_ ?_
  · intro Λ μ as KK h
    obtain ⟨v0, K, rfl, hw, hK⟩ := h
    exact Nat.le_of_ble_eq_true rfl
  · intro G KK hG cA Λ μ as h
    obtain ⟨v0, K, rfl, hw, hK⟩ := h
    exact cl_sub hG (hx_le_c rfl hx_le_0) (kX11_isHouse hG cA _ hK hw)
/-! HemLine.shows(II)Z -/
def tbX11_shows_0 : List (Nat × Instr × Nat) := [(0, .iload_n 1, 1), (1, .invokestatic 131, 3), (4, .ifCond .eq 13, 3), (7, .iload_n 2, 1), (8, .iconst (-1), 1), (9, .bipush 60, 2), (11, .invokestatic 94, 3), (14, .ifCond .ne 5, 3), (17, .iconst 0, 1), (18, .ireturn, 1), (19, .aload_n 0, 1), (20, .getfield 46, 3), (23, .getfield 111, 3), (26, .getfield 134, 3), (29, .aload_n 0, 1), (30, .getfield 46, 3), (33, .getfield 98, 3), (36, .iconst 4, 1), (37, .imul, 1), (38, .iload_n 1, 1), (39, .iadd, 1), (40, .iload_n 2, 1), (41, .iastore, 1), (42, .iconst 1, 1), (43, .ireturn, 1)]
theorem tdX11_shows_0 : hx_dt cX11_shows tbX11_shows_0 = true := by decide +kernel
theorem caX11_shows_94 {G : hx_GT} (cA : hx_CA RX11 cX11_shows 3 0 0 G) : hx_CS cX11_shows G 0 0 94 3 sX11_within 0 0 := cA.2.1 conX11_within ⟨by decide +kernel, by decide +kernel, by decide +kernel⟩ mw_477 mw_478 mw_84 mw_479 (by decide) (by decide)
theorem caX11_shows_131 {G : hx_GT} (cA : hx_CA RX11 cX11_shows 3 0 0 G) : hx_CS cX11_shows G 0 0 131 1 sX11_isHouse 0 0 := cA.2.1 conX11_isHouse ⟨by decide +kernel, by decide +kernel, by decide +kernel⟩ mw_497 mw_498 mw_84 mw_499 (by decide) (by decide)
def wX11_shows (μ : hx_M) (v1 : Int32) (v2 : Int32) (K : Int32 → hx_M → Prop) : Prop := wX11_isHouse v1 (fun r1_2 => (r1_2 = 0 → (K 0 μ)) ∧ (¬ (r1_2 = 0) → (wX11_within v2 (-1) 60 (fun r11_4 => (r11_4 ≠ 0 → (vp_in (((μ.1 7 7) * 4) + v1) 1204 ∧ K 1 (hx_sI μ 19 ((((μ.1 7 7) * 4) + v1).toNatClampNeg) v2))) ∧ (r11_4 = 0 → (K 0 μ))))))
set_option maxRecDepth 100000 in
set_option maxHeartbeats 4000000 in
theorem kX11_shows {G : hx_GT} {KK : hx_KT} (hG : hx_K cX11_shows 3 0 0 (some .boolean) TbX11 KK G) (cA : hx_CA RX11 cX11_shows 3 0 0 G) {Λ : hx_L} (hF : cF Λ) {μ : hx_M} (v1 : Int32) (v2 : Int32) {K : Int32 → hx_M → Prop} (hK : ∀ (r : Int32) (m : hx_M), K r m → KK (some (.int r)) Λ m) (hw : wX11_shows μ v1 v2 K) : G Λ μ (0, 0) 0 [some (.ref 0), some (.int v1), some (.int v2)] [] := by
  unfold wX11_shows at hw
  refine cl_iload_n hG (hx_dq tdX11_shows_0 0 rfl) rfl (cl_callS1 (caX11_shows_131 cA) (hx_dq tdX11_shows_0 1 rfl) (Nat.le_of_ble_eq_true rfl) (Nat.le_refl _) (Nat.le_refl _) (sX11_isHouse_mk hw (fun r1_2 hw => ?_)))
  refine cl_if_eq hG 17 (hx_dq tdX11_shows_0 2 rfl) rfl (fun c4 => ?_) (fun c4 => ?_)
  · replace hw := hw.1 c4
    exact cl_iconst hG 0 (hx_dq tdX11_shows_0 8 rfl) iconst_0 (cl_iret hG (hx_dq tdX11_shows_0 9 rfl) rfl rfl (hK _ _ hw) (Nat.le_refl _) (Nat.le_refl _))
  · replace hw := hw.2 c4
    refine cl_iload_n hG (hx_dq tdX11_shows_0 3 rfl) rfl (cl_iconst hG (-1) (hx_dq tdX11_shows_0 4 rfl) iconst_m1 (cl_bipush hG 60 (hx_dq tdX11_shows_0 5 rfl) bipush_60 (cl_callS3 (caX11_shows_94 cA) (hx_dq tdX11_shows_0 6 rfl) (Nat.le_of_ble_eq_true rfl) (Nat.le_refl _) (Nat.le_refl _) (sX11_within_mk hw (fun r11_4 hw => ?_)))))
    refine cl_if_ne hG 19 (hx_dq tdX11_shows_0 7 rfl) rfl (fun c14 => ?_) (fun c14 => ?_)
    · replace hw := hw.1 c14
      obtain ⟨i41_5, hw⟩ := hw
      exact cl_aload_n hG (hx_dq tdX11_shows_0 10 rfl) rfl (cl_getS hG fmX11_46 (hx_dq tdX11_shows_0 11 rfl) (cF_S0 hF) (cF_R0_7 hF) (cl_getS hG fmX11_111 (hx_dq tdX11_shows_0 12 rfl) (cF_S7 hF) (cF_R7_1 hF) (cl_getS hG fmX11_134 (hx_dq tdX11_shows_0 13 rfl) (cF_S15 hF) (cF_R15_4 hF) (cl_aload_n hG (hx_dq tdX11_shows_0 14 rfl) rfl (cl_getS hG fmX11_46 (hx_dq tdX11_shows_0 15 rfl) (cF_S0 hF) (cF_R0_7 hF) (cl_getI hG fmX11_98 (hx_dq tdX11_shows_0 16 rfl) (cF_S7 hF) (cl_iconst hG 4 (hx_dq tdX11_shows_0 17 rfl) iconst_4 (cl_imul hG (hx_dq tdX11_shows_0 18 rfl) (cl_iload_n hG (hx_dq tdX11_shows_0 19 rfl) rfl (cl_iadd hG (hx_dq tdX11_shows_0 20 rfl) (cl_iload_n hG (hx_dq tdX11_shows_0 21 rfl) rfl (cl_iast hG (hx_dq tdX11_shows_0 22 rfl) (cF_S19 hF) i41_5 (cl_iconst hG 1 (hx_dq tdX11_shows_0 23 rfl) iconst_1 (cl_iret hG (hx_dq tdX11_shows_0 24 rfl) rfl rfl (hK _ _ hw) (Nat.le_refl _) (Nat.le_refl _)))))))))))))))
    · replace hw := hw.2 c14
      exact cl_iconst hG 0 (hx_dq tdX11_shows_0 8 rfl) iconst_0 (cl_iret hG (hx_dq tdX11_shows_0 9 rfl) rfl rfl (hK _ _ hw) (Nat.le_refl _) (Nat.le_refl _))
def sX11_shows : hx_ST := fun Λ μ as KK => cF Λ ∧ ∃ (v1 : Int32) (v2 : Int32) (K : Int32 → hx_M → Prop), as = [.ref 0, .int v1, .int v2] ∧ wX11_shows μ v1 v2 K ∧ (∀ (r : Int32) (m : hx_M), K r m → KK (some (.int r)) Λ m)
theorem sX11_shows_mk {Λ : hx_L} {μ : hx_M} {KK : hx_KT} {v1 : Int32} {v2 : Int32} {K : Int32 → hx_M → Prop} (hF : cF Λ) (hw : wX11_shows μ v1 v2 K) (hk : ∀ (r : Int32) (m : hx_M), K r m → KK (some (.int r)) Λ m) : sX11_shows Λ μ [.ref 0, .int v1, .int v2] KK := ⟨hF, _, _, _, rfl, hw, hk⟩
theorem conX11_shows : hx_Con yX11_shows cX11_shows 3 (some .boolean) 3 0 0 sX11_shows := by
  refine hx_con_of (by decide +kernel) tokX11 (by decide) ?_ ?_
  · intro Λ μ as KK h
    obtain ⟨hF, v1, v2, K, rfl, hw, hK⟩ := h
    exact Nat.le_of_ble_eq_true rfl
  · intro G KK hG cA Λ μ as h
    obtain ⟨hF, v1, v2, K, rfl, hw, hK⟩ := h
    exact cl_sub hG (hx_le_c rfl (hx_le_c rfl (hx_le_c rfl hx_le_0))) (kX11_shows hG cA hF _ _ hK hw)
/-! HemLine.money(I)Z -/
def tbX11_money_0 : List (Nat × Instr × Nat) := [(0, .iload_n 1, 1), (1, .iconst 0, 1), (2, .bipush 99, 2), (4, .invokestatic 94, 3), (7, .ifCond .ne 5, 3), (10, .iconst 0, 1), (11, .ireturn, 1), (12, .aload_n 0, 1), (13, .getfield 46, 3), (16, .getfield 111, 3), (19, .getfield 137, 3), (22, .aload_n 0, 1), (23, .getfield 46, 3), (26, .getfield 98, 3), (29, .iload_n 1, 1), (30, .iastore, 1), (31, .iconst 1, 1), (32, .ireturn, 1)]
theorem tdX11_money_0 : hx_dt cX11_money tbX11_money_0 = true := by decide +kernel
theorem caX11_money_94 {G : hx_GT} (cA : hx_CA RX11 cX11_money 2 0 0 G) : hx_CS cX11_money G 0 0 94 3 sX11_within 0 0 := cA.2.1 conX11_within ⟨by decide +kernel, by decide +kernel, by decide +kernel⟩ mw_477 mw_478 mw_84 mw_479 (by decide) (by decide)
def wX11_money (μ : hx_M) (v1 : Int32) (K : Int32 → hx_M → Prop) : Prop := wX11_within v1 0 99 (fun r4_2 => (r4_2 ≠ 0 → (vp_in (μ.1 7 7) 301 ∧ K 1 (hx_sI μ 20 ((μ.1 7 7).toNatClampNeg) v1))) ∧ (r4_2 = 0 → (K 0 μ)))
set_option maxRecDepth 100000 in
set_option maxHeartbeats 4000000 in
theorem kX11_money {G : hx_GT} {KK : hx_KT} (hG : hx_K cX11_money 2 0 0 (some .boolean) TbX11 KK G) (cA : hx_CA RX11 cX11_money 2 0 0 G) {Λ : hx_L} (hF : cF Λ) {μ : hx_M} (v1 : Int32) {K : Int32 → hx_M → Prop} (hK : ∀ (r : Int32) (m : hx_M), K r m → KK (some (.int r)) Λ m) (hw : wX11_money μ v1 K) : G Λ μ (0, 0) 0 [some (.ref 0), some (.int v1)] [] := by
  unfold wX11_money at hw
  refine cl_iload_n hG (hx_dq tdX11_money_0 0 rfl) rfl (cl_iconst hG 0 (hx_dq tdX11_money_0 1 rfl) iconst_0 (cl_bipush hG 99 (hx_dq tdX11_money_0 2 rfl) bipush_99 (cl_callS3 (caX11_money_94 cA) (hx_dq tdX11_money_0 3 rfl) (Nat.le_of_ble_eq_true rfl) (Nat.le_refl _) (Nat.le_refl _) (sX11_within_mk hw (fun r4_2 hw => ?_)))))
  refine cl_if_ne hG 12 (hx_dq tdX11_money_0 4 rfl) rfl (fun c7 => ?_) (fun c7 => ?_)
  · replace hw := hw.1 c7
    obtain ⟨i30_3, hw⟩ := hw
    exact cl_aload_n hG (hx_dq tdX11_money_0 7 rfl) rfl (cl_getS hG fmX11_46 (hx_dq tdX11_money_0 8 rfl) (cF_S0 hF) (cF_R0_7 hF) (cl_getS hG fmX11_111 (hx_dq tdX11_money_0 9 rfl) (cF_S7 hF) (cF_R7_1 hF) (cl_getS hG fmX11_137 (hx_dq tdX11_money_0 10 rfl) (cF_S15 hF) (cF_R15_5 hF) (cl_aload_n hG (hx_dq tdX11_money_0 11 rfl) rfl (cl_getS hG fmX11_46 (hx_dq tdX11_money_0 12 rfl) (cF_S0 hF) (cF_R0_7 hF) (cl_getI hG fmX11_98 (hx_dq tdX11_money_0 13 rfl) (cF_S7 hF) (cl_iload_n hG (hx_dq tdX11_money_0 14 rfl) rfl (cl_iast hG (hx_dq tdX11_money_0 15 rfl) (cF_S20 hF) i30_3 (cl_iconst hG 1 (hx_dq tdX11_money_0 16 rfl) iconst_1 (cl_iret hG (hx_dq tdX11_money_0 17 rfl) rfl rfl (hK _ _ hw) (Nat.le_refl _) (Nat.le_refl _)))))))))))
  · replace hw := hw.2 c7
    exact cl_iconst hG 0 (hx_dq tdX11_money_0 5 rfl) iconst_0 (cl_iret hG (hx_dq tdX11_money_0 6 rfl) rfl rfl (hK _ _ hw) (Nat.le_refl _) (Nat.le_refl _))
def sX11_money : hx_ST := fun Λ μ as KK => cF Λ ∧ ∃ (v1 : Int32) (K : Int32 → hx_M → Prop), as = [.ref 0, .int v1] ∧ wX11_money μ v1 K ∧ (∀ (r : Int32) (m : hx_M), K r m → KK (some (.int r)) Λ m)
theorem sX11_money_mk {Λ : hx_L} {μ : hx_M} {KK : hx_KT} {v1 : Int32} {K : Int32 → hx_M → Prop} (hF : cF Λ) (hw : wX11_money μ v1 K) (hk : ∀ (r : Int32) (m : hx_M), K r m → KK (some (.int r)) Λ m) : sX11_money Λ μ [.ref 0, .int v1] KK := ⟨hF, _, _, rfl, hw, hk⟩
theorem conX11_money : hx_Con yX11_money cX11_money 2 (some .boolean) 2 0 0 sX11_money := by
  refine hx_con_of (by decide +kernel) tokX11 (by decide) ?_ ?_
  · intro Λ μ as KK h
    obtain ⟨hF, v1, K, rfl, hw, hK⟩ := h
    exact Nat.le_of_ble_eq_true rfl
  · intro G KK hG cA Λ μ as h
    obtain ⟨hF, v1, K, rfl, hw, hK⟩ := h
    exact cl_sub hG (hx_le_c rfl (hx_le_c rfl hx_le_0)) (kX11_money hG cA hF _ hK hw)
/-! HemLine.set(III)Z -/
def tbX11_set_0 : List (Nat × Instr × Nat) := [(0, .iload_n 1, 1), (1, .iconst 0, 1), (2, .sipush 999, 3), (5, .invokestatic 94, 3), (8, .ifCond .eq 23, 3), (11, .iload_n 2, 1), (12, .iconst 0, 1), (13, .bipush 9, 2), (15, .invokestatic 94, 3), (18, .ifCond .eq 13, 3), (21, .iload_n 3, 1), (22, .iconst 0, 1), (23, .bipush 99, 2), (25, .invokestatic 94, 3), (28, .ifCond .ne 5, 3), (31, .iconst 0, 1), (32, .ireturn, 1), (33, .aload_n 0, 1), (34, .getfield 46, 3), (37, .iload_n 1, 1), (38, .putfield 140, 3), (41, .aload_n 0, 1), (42, .getfield 46, 3), (45, .iload_n 2, 1), (46, .putfield 143, 3), (49, .aload_n 0, 1), (50, .getfield 46, 3), (53, .iload_n 3, 1), (54, .putfield 146, 3), (57, .iconst 1, 1), (58, .ireturn, 1)]
theorem tdX11_set_0 : hx_dt cX11_set tbX11_set_0 = true := by decide +kernel
theorem caX11_set_94 {G : hx_GT} (cA : hx_CA RX11 cX11_set 2 0 0 G) : hx_CS cX11_set G 0 0 94 3 sX11_within 0 0 := cA.2.1 conX11_within ⟨by decide +kernel, by decide +kernel, by decide +kernel⟩ mw_477 mw_478 mw_84 mw_479 (by decide) (by decide)
def wX11_set (μ : hx_M) (v1 : Int32) (v2 : Int32) (v3 : Int32) (K : Int32 → hx_M → Prop) : Prop := wX11_within v1 0 999 (fun r5_2 => (r5_2 = 0 → (K 0 μ)) ∧ (¬ (r5_2 = 0) → (wX11_within v2 0 9 (fun r15_4 => (r15_4 = 0 → (K 0 μ)) ∧ (¬ (r15_4 = 0) → (wX11_within v3 0 99 (fun r25_6 => (r25_6 ≠ 0 → (K 1 (hx_sI (hx_sI (hx_sI μ 7 3 v1) 7 4 v2) 7 5 v3))) ∧ (r25_6 = 0 → (K 0 μ)))))))))
set_option maxRecDepth 100000 in
set_option maxHeartbeats 4000000 in
theorem kX11_set {G : hx_GT} {KK : hx_KT} (hG : hx_K cX11_set 4 0 0 (some .boolean) TbX11 KK G) (cA : hx_CA RX11 cX11_set 2 0 0 G) {Λ : hx_L} (hF : cF Λ) {μ : hx_M} (v1 : Int32) (v2 : Int32) (v3 : Int32) {K : Int32 → hx_M → Prop} (hK : ∀ (r : Int32) (m : hx_M), K r m → KK (some (.int r)) Λ m) (hw : wX11_set μ v1 v2 v3 K) : G Λ μ (0, 0) 0 [some (.ref 0), some (.int v1), some (.int v2), some (.int v3)] [] := by
  unfold wX11_set at hw
  refine cl_iload_n hG (hx_dq tdX11_set_0 0 rfl) rfl (cl_iconst hG 0 (hx_dq tdX11_set_0 1 rfl) iconst_0 (cl_sipush hG 999 (hx_dq tdX11_set_0 2 rfl) sipush_999 (cl_callS3 (caX11_set_94 cA) (hx_dq tdX11_set_0 3 rfl) (Nat.le_of_ble_eq_true rfl) (Nat.le_refl _) (Nat.le_refl _) (sX11_within_mk hw (fun r5_2 hw => ?_)))))
  refine cl_if_eq hG 31 (hx_dq tdX11_set_0 4 rfl) rfl (fun c8 => ?_) (fun c8 => ?_)
  · replace hw := hw.1 c8
    exact cl_iconst hG 0 (hx_dq tdX11_set_0 15 rfl) iconst_0 (cl_iret hG (hx_dq tdX11_set_0 16 rfl) rfl rfl (hK _ _ hw) (Nat.le_refl _) (Nat.le_refl _))
  · replace hw := hw.2 c8
    refine cl_iload_n hG (hx_dq tdX11_set_0 5 rfl) rfl (cl_iconst hG 0 (hx_dq tdX11_set_0 6 rfl) iconst_0 (cl_bipush hG 9 (hx_dq tdX11_set_0 7 rfl) bipush_9 (cl_callS3 (caX11_set_94 cA) (hx_dq tdX11_set_0 8 rfl) (Nat.le_of_ble_eq_true rfl) (Nat.le_refl _) (Nat.le_refl _) (sX11_within_mk hw (fun r15_4 hw => ?_)))))
    refine cl_if_eq hG 31 (hx_dq tdX11_set_0 9 rfl) rfl (fun c18 => ?_) (fun c18 => ?_)
    · replace hw := hw.1 c18
      exact cl_iconst hG 0 (hx_dq tdX11_set_0 15 rfl) iconst_0 (cl_iret hG (hx_dq tdX11_set_0 16 rfl) rfl rfl (hK _ _ hw) (Nat.le_refl _) (Nat.le_refl _))
    · replace hw := hw.2 c18
      refine cl_iload_n hG (hx_dq tdX11_set_0 10 rfl) rfl (cl_iconst hG 0 (hx_dq tdX11_set_0 11 rfl) iconst_0 (cl_bipush hG 99 (hx_dq tdX11_set_0 12 rfl) bipush_99 (cl_callS3 (caX11_set_94 cA) (hx_dq tdX11_set_0 13 rfl) (Nat.le_of_ble_eq_true rfl) (Nat.le_refl _) (Nat.le_refl _) (sX11_within_mk hw (fun r25_6 hw => ?_)))))
      refine cl_if_ne hG 33 (hx_dq tdX11_set_0 14 rfl) rfl (fun c28 => ?_) (fun c28 => ?_)
      · replace hw := hw.1 c28
        exact cl_aload_n hG (hx_dq tdX11_set_0 17 rfl) rfl (cl_getS hG fmX11_46 (hx_dq tdX11_set_0 18 rfl) (cF_S0 hF) (cF_R0_7 hF) (cl_iload_n hG (hx_dq tdX11_set_0 19 rfl) rfl (cl_putI hG fmX11_140 (hx_dq tdX11_set_0 20 rfl) (cF_S7 hF) (cl_aload_n hG (hx_dq tdX11_set_0 21 rfl) rfl (cl_getS hG fmX11_46 (hx_dq tdX11_set_0 22 rfl) (cF_S0 hF) (cF_R0_7 hF) (cl_iload_n hG (hx_dq tdX11_set_0 23 rfl) rfl (cl_putI hG fmX11_143 (hx_dq tdX11_set_0 24 rfl) (cF_S7 hF) (cl_aload_n hG (hx_dq tdX11_set_0 25 rfl) rfl (cl_getS hG fmX11_46 (hx_dq tdX11_set_0 26 rfl) (cF_S0 hF) (cF_R0_7 hF) (cl_iload_n hG (hx_dq tdX11_set_0 27 rfl) rfl (cl_putI hG fmX11_146 (hx_dq tdX11_set_0 28 rfl) (cF_S7 hF) (cl_iconst hG 1 (hx_dq tdX11_set_0 29 rfl) iconst_1 (cl_iret hG (hx_dq tdX11_set_0 30 rfl) rfl rfl (hK _ _ hw) (Nat.le_refl _) (Nat.le_refl _))))))))))))))
      · replace hw := hw.2 c28
        exact cl_iconst hG 0 (hx_dq tdX11_set_0 15 rfl) iconst_0 (cl_iret hG (hx_dq tdX11_set_0 16 rfl) rfl rfl (hK _ _ hw) (Nat.le_refl _) (Nat.le_refl _))
def sX11_set : hx_ST := fun Λ μ as KK => cF Λ ∧ ∃ (v1 : Int32) (v2 : Int32) (v3 : Int32) (K : Int32 → hx_M → Prop), as = [.ref 0, .int v1, .int v2, .int v3] ∧ wX11_set μ v1 v2 v3 K ∧ (∀ (r : Int32) (m : hx_M), K r m → KK (some (.int r)) Λ m)
theorem sX11_set_mk {Λ : hx_L} {μ : hx_M} {KK : hx_KT} {v1 : Int32} {v2 : Int32} {v3 : Int32} {K : Int32 → hx_M → Prop} (hF : cF Λ) (hw : wX11_set μ v1 v2 v3 K) (hk : ∀ (r : Int32) (m : hx_M), K r m → KK (some (.int r)) Λ m) : sX11_set Λ μ [.ref 0, .int v1, .int v2, .int v3] KK := ⟨hF, _, _, _, _, rfl, hw, hk⟩
theorem conX11_set : hx_Con yX11_set cX11_set 4 (some .boolean) 2 0 0 sX11_set := by
  refine hx_con_of (by decide +kernel) tokX11 (by decide) ?_ ?_
  · intro Λ μ as KK h
    obtain ⟨hF, v1, v2, v3, K, rfl, hw, hK⟩ := h
    exact Nat.le_of_ble_eq_true rfl
  · intro G KK hG cA Λ μ as h
    obtain ⟨hF, v1, v2, v3, K, rfl, hw, hK⟩ := h
    exact cl_sub hG (hx_le_c rfl (hx_le_c rfl (hx_le_c rfl (hx_le_c rfl hx_le_0)))) (kX11_set hG cA hF _ _ _ hK hw)
/-! HemLine.seed(I)Z -/
def tbX11_seed_0 : List (Nat × Instr × Nat) := [(0, .iload_n 1, 1), (1, .iconst 0, 1), (2, .ldc 149, 2), (4, .invokestatic 94, 3), (7, .ifCond .ne 5, 3), (10, .iconst 0, 1), (11, .ireturn, 1), (12, .aload_n 0, 1), (13, .getfield 46, 3), (16, .iload_n 1, 1), (17, .i2l, 1), (18, .putfield 150, 3), (21, .iconst 1, 1), (22, .ireturn, 1)]
theorem tdX11_seed_0 : hx_dt cX11_seed tbX11_seed_0 = true := by decide +kernel
theorem caX11_seed_94 {G : hx_GT} (cA : hx_CA RX11 cX11_seed 2 0 0 G) : hx_CS cX11_seed G 0 0 94 3 sX11_within 0 0 := cA.2.1 conX11_within ⟨by decide +kernel, by decide +kernel, by decide +kernel⟩ mw_477 mw_478 mw_84 mw_479 (by decide) (by decide)
def wX11_seed (μ : hx_M) (v1 : Int32) (K : Int32 → hx_M → Prop) : Prop := wX11_within v1 0 999999999 (fun r4_2 => (r4_2 ≠ 0 → (K 1 (hx_sL μ 7 6 ((v1 : Int32).toInt64)))) ∧ (r4_2 = 0 → (K 0 μ)))
set_option maxRecDepth 100000 in
set_option maxHeartbeats 4000000 in
theorem kX11_seed {G : hx_GT} {KK : hx_KT} (hG : hx_K cX11_seed 2 0 0 (some .boolean) TbX11 KK G) (cA : hx_CA RX11 cX11_seed 2 0 0 G) {Λ : hx_L} (hF : cF Λ) {μ : hx_M} (v1 : Int32) {K : Int32 → hx_M → Prop} (hK : ∀ (r : Int32) (m : hx_M), K r m → KK (some (.int r)) Λ m) (hw : wX11_seed μ v1 K) : G Λ μ (0, 0) 0 [some (.ref 0), some (.int v1)] [] := by
  unfold wX11_seed at hw
  refine cl_iload_n hG (hx_dq tdX11_seed_0 0 rfl) rfl (cl_iconst hG 0 (hx_dq tdX11_seed_0 1 rfl) iconst_0 (cl_ldc hG ciX11_149 (hx_dq tdX11_seed_0 2 rfl) (cl_callS3 (caX11_seed_94 cA) (hx_dq tdX11_seed_0 3 rfl) (Nat.le_of_ble_eq_true rfl) (Nat.le_refl _) (Nat.le_refl _) (sX11_within_mk hw (fun r4_2 hw => ?_)))))
  refine cl_if_ne hG 12 (hx_dq tdX11_seed_0 4 rfl) rfl (fun c7 => ?_) (fun c7 => ?_)
  · replace hw := hw.1 c7
    exact cl_aload_n hG (hx_dq tdX11_seed_0 7 rfl) rfl (cl_getS hG fmX11_46 (hx_dq tdX11_seed_0 8 rfl) (cF_S0 hF) (cF_R0_7 hF) (cl_iload_n hG (hx_dq tdX11_seed_0 9 rfl) rfl (cl_i2l hG (hx_dq tdX11_seed_0 10 rfl) (cl_putL hG fmX11_150 (hx_dq tdX11_seed_0 11 rfl) (cF_S7 hF) (cl_iconst hG 1 (hx_dq tdX11_seed_0 12 rfl) iconst_1 (cl_iret hG (hx_dq tdX11_seed_0 13 rfl) rfl rfl (hK _ _ hw) (Nat.le_refl _) (Nat.le_refl _)))))))
  · replace hw := hw.2 c7
    exact cl_iconst hG 0 (hx_dq tdX11_seed_0 5 rfl) iconst_0 (cl_iret hG (hx_dq tdX11_seed_0 6 rfl) rfl rfl (hK _ _ hw) (Nat.le_refl _) (Nat.le_refl _))
def sX11_seed : hx_ST := fun Λ μ as KK => cF Λ ∧ ∃ (v1 : Int32) (K : Int32 → hx_M → Prop), as = [.ref 0, .int v1] ∧ wX11_seed μ v1 K ∧ (∀ (r : Int32) (m : hx_M), K r m → KK (some (.int r)) Λ m)
theorem sX11_seed_mk {Λ : hx_L} {μ : hx_M} {KK : hx_KT} {v1 : Int32} {K : Int32 → hx_M → Prop} (hF : cF Λ) (hw : wX11_seed μ v1 K) (hk : ∀ (r : Int32) (m : hx_M), K r m → KK (some (.int r)) Λ m) : sX11_seed Λ μ [.ref 0, .int v1] KK := ⟨hF, _, _, rfl, hw, hk⟩
theorem conX11_seed : hx_Con yX11_seed cX11_seed 2 (some .boolean) 2 0 0 sX11_seed := by
  refine hx_con_of (by decide +kernel) tokX11 (by decide) ?_ ?_
  · intro Λ μ as KK h
    obtain ⟨hF, v1, K, rfl, hw, hK⟩ := h
    exact Nat.le_of_ble_eq_true rfl
  · intro G KK hG cA Λ μ as h
    obtain ⟨hF, v1, K, rfl, hw, hK⟩ := h
    exact cl_sub hG (hx_le_c rfl (hx_le_c rfl hx_le_0)) (kX11_seed hG cA hF _ hK hw)
/-! HemLine.putOnTape(I)V -/
def tbX11_putOnTape_0 : List (Nat × Instr × Nat) := [(0, .bipush 24, 2), (2, .istore_n 2, 1), (3, .iload_n 2, 1), (4, .ifCond .lt 44, 3), (7, .aload_n 0, 1), (8, .getfield 13, 3), (11, .aload_n 0, 1), (12, .getfield 9, 3), (15, .arraylength, 1), (16, .if_icmp .ge 32, 3), (19, .aload_n 0, 1), (20, .getfield 9, 3), (23, .aload_n 0, 1), (24, .getfield 13, 3), (27, .iload_n 1, 1), (28, .iload_n 2, 1), (29, .ishr, 1), (30, .i2b, 1), (31, .bastore, 1), (32, .aload_n 0, 1), (33, .dup, 1), (34, .getfield 13, 3), (37, .iconst 1, 1), (38, .iadd, 1), (39, .putfield 13, 3), (42, .iinc 2 (-8), 3), (45, .goto (-42), 3), (48, .return_, 1)]
theorem tdX11_putOnTape_0 : hx_dt cX11_putOnTape tbX11_putOnTape_0 = true := by decide +kernel
def wX11_putOnTape_L3 (v1 : Int32) (K : hx_M → Prop)  : Nat → Int32 → hx_M → Prop
  | 0, _, _ => False
  | n + 1, v2, μ => (v2 < 0 → (K μ)) ∧ (¬ (v2 < 0) → (((Int32.ofNat 700) ≤ (μ.1 0 1) → (K μ)) ∧ (¬ ((Int32.ofNat 700) ≤ (μ.1 0 1)) → (vp_in (μ.1 0 1) 700 ∧ wX11_putOnTape_L3 v1 K n (v2 + (-8)) (hx_sI (hx_sI μ 1 ((μ.1 0 1).toNatClampNeg) (vp_nar .byte ((v1 >>> (v2 &&& 31) : Int32).toInt8.toInt32))) 0 1 ((μ.1 0 1) + 1))))))
set_option maxRecDepth 100000 in
set_option maxHeartbeats 4000000 in
theorem kX11_putOnTape_L3 {G : hx_GT} {KK : hx_KT} (hG : hx_K cX11_putOnTape 3 0 0 (none) TbX11 KK G) (cA : hx_CA RX11 cX11_putOnTape 1 0 0 G) {Λ : hx_L} (hF : cF Λ)  (v1 : Int32) {K : hx_M → Prop} (hK : ∀ (m : hx_M), K m → KK none Λ m)  : ∀ (n : Nat) (v2 : Int32) (μ : hx_M), wX11_putOnTape_L3 v1 K n v2 μ → G Λ μ (0, 0) 3 [some (.ref 0), some (.int v1), some (.int v2)] [] := by
  intro n
  induction n with
  | zero =>
    intro v2 μ hw
    exact False.elim (by simpa only [wX11_putOnTape_L3] using hw)
  | succ n ih =>
    intro v2 μ hw
    unfold wX11_putOnTape_L3 at hw
    refine cl_iload_n hG (hx_dq tdX11_putOnTape_0 2 rfl) rfl (cl_if_lt hG 48 (hx_dq tdX11_putOnTape_0 3 rfl) rfl (fun c4 => ?_) (fun c4 => ?_))
    · replace hw := hw.1 c4
      exact cl_vret hG (hx_dq tdX11_putOnTape_0 27 rfl) rfl (hK _ hw) (Nat.le_refl _) (Nat.le_refl _)
    · replace hw := hw.2 c4
      refine cl_aload_n hG (hx_dq tdX11_putOnTape_0 4 rfl) rfl (cl_getI hG fmX11_13 (hx_dq tdX11_putOnTape_0 5 rfl) (cF_S0 hF) (cl_aload_n hG (hx_dq tdX11_putOnTape_0 6 rfl) rfl (cl_getS hG fmX11_9 (hx_dq tdX11_putOnTape_0 7 rfl) (cF_S0 hF) (cF_R0_0 hF) (cl_alenB hG (hx_dq tdX11_putOnTape_0 8 rfl) (cF_S1 hF) (cl_icmp_ge hG 48 (hx_dq tdX11_putOnTape_0 9 rfl) rfl (fun c16 => ?_) (fun c16 => ?_))))))
      · replace hw := hw.1 c16
        exact cl_vret hG (hx_dq tdX11_putOnTape_0 27 rfl) rfl (hK _ hw) (Nat.le_refl _) (Nat.le_refl _)
      · replace hw := hw.2 c16
        obtain ⟨i31_1, hw⟩ := hw
        exact cl_aload_n hG (hx_dq tdX11_putOnTape_0 10 rfl) rfl (cl_getS hG fmX11_9 (hx_dq tdX11_putOnTape_0 11 rfl) (cF_S0 hF) (cF_R0_0 hF) (cl_aload_n hG (hx_dq tdX11_putOnTape_0 12 rfl) rfl (cl_getI hG fmX11_13 (hx_dq tdX11_putOnTape_0 13 rfl) (cF_S0 hF) (cl_iload_n hG (hx_dq tdX11_putOnTape_0 14 rfl) rfl (cl_iload_n hG (hx_dq tdX11_putOnTape_0 15 rfl) rfl (cl_ishr hG (hx_dq tdX11_putOnTape_0 16 rfl) (cl_i2b hG (hx_dq tdX11_putOnTape_0 17 rfl) (cl_bast hG (hx_dq tdX11_putOnTape_0 18 rfl) (cF_S1 hF) i31_1 (cl_aload_n hG (hx_dq tdX11_putOnTape_0 19 rfl) rfl (cl_dup hG (hx_dq tdX11_putOnTape_0 20 rfl) rfl (cl_getI hG fmX11_13 (hx_dq tdX11_putOnTape_0 21 rfl) (cF_S0 hF) (cl_iconst hG 1 (hx_dq tdX11_putOnTape_0 22 rfl) iconst_1 (cl_iadd hG (hx_dq tdX11_putOnTape_0 23 rfl) (cl_putI hG fmX11_13 (hx_dq tdX11_putOnTape_0 24 rfl) (cF_S0 hF) (cl_iinc hG (v2 + (-8)) (hx_dq tdX11_putOnTape_0 25 rfl) rfl (congrArg (fun z => v2 + z) iconst_m8) (Nat.le_of_ble_eq_true rfl) rfl (cl_goto hG 3 (hx_dq tdX11_putOnTape_0 26 rfl) rfl (cl_sub hG (hx_le_c rfl (hx_le_c rfl (hx_le_c rfl hx_le_0))) (ih (v2 + (-8)) _ hw))))))))))))))))))
def wX11_putOnTape (μ : hx_M) (v1 : Int32) (K : hx_M → Prop) : Prop := ∃ n3_2, wX11_putOnTape_L3 v1 K n3_2 24 μ
set_option maxRecDepth 100000 in
set_option maxHeartbeats 4000000 in
theorem kX11_putOnTape {G : hx_GT} {KK : hx_KT} (hG : hx_K cX11_putOnTape 3 0 0 (none) TbX11 KK G) (cA : hx_CA RX11 cX11_putOnTape 1 0 0 G) {Λ : hx_L} (hF : cF Λ) {μ : hx_M} (v1 : Int32) {K : hx_M → Prop} (hK : ∀ (m : hx_M), K m → KK none Λ m) (hw : wX11_putOnTape μ v1 K) : G Λ μ (0, 0) 0 [some (.ref 0), some (.int v1), none] [] := by
  unfold wX11_putOnTape at hw
  refine cl_bipush hG 24 (hx_dq tdX11_putOnTape_0 0 rfl) bipush_24 (cl_istore_n hG (hx_dq tdX11_putOnTape_0 1 rfl) (Nat.le_of_ble_eq_true rfl) rfl ?_)
  obtain ⟨n_, hw⟩ := hw
  refine cl_sub hG (hx_le_c rfl (hx_le_c rfl (hx_le_c rfl hx_le_0))) (kX11_putOnTape_L3 hG cA hF v1 hK n_ 24 _ hw)
def sX11_putOnTape : hx_ST := fun Λ μ as KK => cF Λ ∧ ∃ (v1 : Int32) (K : hx_M → Prop), as = [.ref 0, .int v1] ∧ wX11_putOnTape μ v1 K ∧ (∀ (m : hx_M), K m → KK none Λ m)
theorem sX11_putOnTape_mk {Λ : hx_L} {μ : hx_M} {KK : hx_KT} {v1 : Int32} {K : hx_M → Prop} (hF : cF Λ) (hw : wX11_putOnTape μ v1 K) (hk : ∀ (m : hx_M), K m → KK none Λ m) : sX11_putOnTape Λ μ [.ref 0, .int v1] KK := ⟨hF, _, _, rfl, hw, hk⟩
theorem conX11_putOnTape : hx_Con yX11_putOnTape cX11_putOnTape 3 (none) 1 0 0 sX11_putOnTape := by
  refine hx_con_of (by decide +kernel) tokX11 (by decide) ?_ ?_
  · intro Λ μ as KK h
    obtain ⟨hF, v1, K, rfl, hw, hK⟩ := h
    exact Nat.le_of_ble_eq_true rfl
  · intro G KK hG cA Λ μ as h
    obtain ⟨hF, v1, K, rfl, hw, hK⟩ := h
    exact cl_sub hG (hx_le_c rfl (hx_le_c rfl (hx_le_n hx_le_0))) (kX11_putOnTape hG cA hF _ hK hw)
/-! HemLine.feed(IIIII)I -/
def tbX11_feed_0 : List (Nat × Instr × Nat) := [(0, .aload_n 0, 1), (1, .getfield 13, 3), (4, .bipush 20, 2), (6, .iadd, 1), (7, .sipush 700, 3), (10, .if_icmp .le 5, 3), (13, .iconst (-1), 1), (14, .ireturn, 1), (15, .aload_n 0, 1), (16, .iload_n 1, 1), (17, .invokevirtual 154, 3), (20, .aload_n 0, 1), (21, .iload_n 2, 1), (22, .invokevirtual 154, 3), (25, .aload_n 0, 1), (26, .iload_n 3, 1), (27, .invokevirtual 154, 3), (30, .aload_n 0, 1), (31, .iload 4, 2), (33, .invokevirtual 154, 3), (36, .aload_n 0, 1), (37, .iload 5, 2), (39, .invokevirtual 154, 3), (42, .aload_n 0, 1), (43, .getfield 13, 3), (46, .ireturn, 1)]
theorem tdX11_feed_0 : hx_dt cX11_feed tbX11_feed_0 = true := by decide +kernel
theorem caX11_feed_154 {G : hx_GT} (cA : hx_CA RX11 cX11_feed 2 0 0 G) : hx_CV cX11_feed G 0 0 154 11 1 sX11_putOnTape 0 0 := cA.1 conX11_putOnTape rfl rfl ⟨by decide +kernel, by decide +kernel, by decide +kernel⟩ mw_517 mw_519 mw_0 mw_84 mw_520 (by decide) (by decide)
def wX11_feed (μ : hx_M) (v1 : Int32) (v2 : Int32) (v3 : Int32) (v4 : Int32) (v5 : Int32) (K : Int32 → hx_M → Prop) : Prop := (((μ.1 0 1) + 20) ≤ 700 → (wX11_putOnTape μ v1 (fun m17_1 => wX11_putOnTape m17_1 v2 (fun m22_3 => wX11_putOnTape m22_3 v3 (fun m27_5 => wX11_putOnTape m27_5 v4 (fun m33_7 => wX11_putOnTape m33_7 v5 (fun m39_9 => K (m39_9.1 0 1) m39_9))))))) ∧ (¬ (((μ.1 0 1) + 20) ≤ 700) → (K (-1) μ))
set_option maxRecDepth 100000 in
set_option maxHeartbeats 4000000 in
theorem kX11_feed {G : hx_GT} {KK : hx_KT} (hG : hx_K cX11_feed 6 0 0 (some .int) TbX11 KK G) (cA : hx_CA RX11 cX11_feed 2 0 0 G) {Λ : hx_L} (hF : cF Λ) {μ : hx_M} (v1 : Int32) (v2 : Int32) (v3 : Int32) (v4 : Int32) (v5 : Int32) {K : Int32 → hx_M → Prop} (hK : ∀ (r : Int32) (m : hx_M), K r m → KK (some (.int r)) Λ m) (hw : wX11_feed μ v1 v2 v3 v4 v5 K) : G Λ μ (0, 0) 0 [some (.ref 0), some (.int v1), some (.int v2), some (.int v3), some (.int v4), some (.int v5)] [] := by
  unfold wX11_feed at hw
  refine cl_aload_n hG (hx_dq tdX11_feed_0 0 rfl) rfl (cl_getI hG fmX11_13 (hx_dq tdX11_feed_0 1 rfl) (cF_S0 hF) (cl_bipush hG 20 (hx_dq tdX11_feed_0 2 rfl) bipush_20 (cl_iadd hG (hx_dq tdX11_feed_0 3 rfl) (cl_sipush hG 700 (hx_dq tdX11_feed_0 4 rfl) sipush_700 (cl_icmp_le hG 15 (hx_dq tdX11_feed_0 5 rfl) rfl (fun c10 => ?_) (fun c10 => ?_))))))
  · replace hw := hw.1 c10
    refine cl_aload_n hG (hx_dq tdX11_feed_0 8 rfl) rfl (cl_iload_n hG (hx_dq tdX11_feed_0 9 rfl) rfl (cl_callV1 (caX11_feed_154 cA) (hx_dq tdX11_feed_0 10 rfl) (cF_S0 hF) (Nat.le_of_ble_eq_true rfl) (Nat.le_refl _) (Nat.le_refl _) (sX11_putOnTape_mk hF hw (fun m17_1 hw => ?_))))
    refine cl_aload_n hG (hx_dq tdX11_feed_0 11 rfl) rfl (cl_iload_n hG (hx_dq tdX11_feed_0 12 rfl) rfl (cl_callV1 (caX11_feed_154 cA) (hx_dq tdX11_feed_0 13 rfl) (cF_S0 hF) (Nat.le_of_ble_eq_true rfl) (Nat.le_refl _) (Nat.le_refl _) (sX11_putOnTape_mk hF hw (fun m22_3 hw => ?_))))
    refine cl_aload_n hG (hx_dq tdX11_feed_0 14 rfl) rfl (cl_iload_n hG (hx_dq tdX11_feed_0 15 rfl) rfl (cl_callV1 (caX11_feed_154 cA) (hx_dq tdX11_feed_0 16 rfl) (cF_S0 hF) (Nat.le_of_ble_eq_true rfl) (Nat.le_refl _) (Nat.le_refl _) (sX11_putOnTape_mk hF hw (fun m27_5 hw => ?_))))
    refine cl_aload_n hG (hx_dq tdX11_feed_0 17 rfl) rfl (cl_iload hG (hx_dq tdX11_feed_0 18 rfl) rfl (cl_callV1 (caX11_feed_154 cA) (hx_dq tdX11_feed_0 19 rfl) (cF_S0 hF) (Nat.le_of_ble_eq_true rfl) (Nat.le_refl _) (Nat.le_refl _) (sX11_putOnTape_mk hF hw (fun m33_7 hw => ?_))))
    refine cl_aload_n hG (hx_dq tdX11_feed_0 20 rfl) rfl (cl_iload hG (hx_dq tdX11_feed_0 21 rfl) rfl (cl_callV1 (caX11_feed_154 cA) (hx_dq tdX11_feed_0 22 rfl) (cF_S0 hF) (Nat.le_of_ble_eq_true rfl) (Nat.le_refl _) (Nat.le_refl _) (sX11_putOnTape_mk hF hw (fun m39_9 hw => ?_))))
    exact cl_aload_n hG (hx_dq tdX11_feed_0 23 rfl) rfl (cl_getI hG fmX11_13 (hx_dq tdX11_feed_0 24 rfl) (cF_S0 hF) (cl_iret hG (hx_dq tdX11_feed_0 25 rfl) rfl rfl (hK _ _ hw) (Nat.le_refl _) (Nat.le_refl _)))
  · replace hw := hw.2 c10
    exact cl_iconst hG (-1) (hx_dq tdX11_feed_0 6 rfl) iconst_m1 (cl_iret hG (hx_dq tdX11_feed_0 7 rfl) rfl rfl (hK _ _ hw) (Nat.le_refl _) (Nat.le_refl _))
def sX11_feed : hx_ST := fun Λ μ as KK => cF Λ ∧ ∃ (v1 : Int32) (v2 : Int32) (v3 : Int32) (v4 : Int32) (v5 : Int32) (K : Int32 → hx_M → Prop), as = [.ref 0, .int v1, .int v2, .int v3, .int v4, .int v5] ∧ wX11_feed μ v1 v2 v3 v4 v5 K ∧ (∀ (r : Int32) (m : hx_M), K r m → KK (some (.int r)) Λ m)
theorem sX11_feed_mk {Λ : hx_L} {μ : hx_M} {KK : hx_KT} {v1 : Int32} {v2 : Int32} {v3 : Int32} {v4 : Int32} {v5 : Int32} {K : Int32 → hx_M → Prop} (hF : cF Λ) (hw : wX11_feed μ v1 v2 v3 v4 v5 K) (hk : ∀ (r : Int32) (m : hx_M), K r m → KK (some (.int r)) Λ m) : sX11_feed Λ μ [.ref 0, .int v1, .int v2, .int v3, .int v4, .int v5] KK := ⟨hF, _, _, _, _, _, _, rfl, hw, hk⟩
theorem conX11_feed : hx_Con yX11_feed cX11_feed 6 (some .int) 2 0 0 sX11_feed := by
  refine hx_con_of (by decide +kernel) tokX11 (by decide) ?_ ?_
  · intro Λ μ as KK h
    obtain ⟨hF, v1, v2, v3, v4, v5, K, rfl, hw, hK⟩ := h
    exact Nat.le_of_ble_eq_true rfl
  · intro G KK hG cA Λ μ as h
    obtain ⟨hF, v1, v2, v3, v4, v5, K, rfl, hw, hK⟩ := h
    exact cl_sub hG (hx_le_c rfl (hx_le_c rfl (hx_le_c rfl (hx_le_c rfl (hx_le_c rfl (hx_le_c rfl hx_le_0)))))) (kX11_feed hG cA hF _ _ _ _ _ hK hw)
/-! HemLine.law(I)I -/
def tbX11_law_0 : List (Nat × Instr × Nat) := [(0, .iload_n 1, 1), (1, .ifCond .lt 11, 3), (4, .iload_n 1, 1), (5, .aload_n 0, 1), (6, .getfield 13, 3), (9, .if_icmp .le 6, 3), (12, .bipush (-2), 2), (14, .ireturn, 1), (15, .aload_n 0, 1), (16, .getfield 32, 3), (19, .iconst 5, 1), (20, .if_icmp .lt 6, 3), (23, .bipush (-3), 2), (25, .ireturn, 1), (26, .aload_n 0, 1), (27, .iconst 0, 1), (28, .putfield 13, 3), (31, .aload_n 0, 1), (32, .getfield 22, 3), (35, .iload_n 1, 1), (36, .invokevirtual 157, 3), (39, .astore_n 2, 1), (40, .aload_n 2, 1), (41, .ifnonnull 16, 3), (44, .aload_n 0, 1), (45, .aload_n 0, 1), (46, .getfield 22, 3), (49, .invokevirtual 161, 3), (52, .putfield 38, 3), (55, .iconst (-1), 1), (56, .ireturn, 1), (57, .aload_n 0, 1)]
def tbX11_law_1 : List (Nat × Instr × Nat) := [(58, .iconst (-1), 1), (59, .putfield 38, 3), (62, .aload_n 0, 1), (63, .getfield 28, 3), (66, .aload_n 0, 1), (67, .getfield 32, 3), (70, .aload_n 2, 1), (71, .aastore, 1), (72, .aload_n 0, 1), (73, .aload_n 0, 1), (74, .getfield 32, 3), (77, .putfield 35, 3), (80, .aload_n 0, 1), (81, .dup, 1), (82, .getfield 32, 3), (85, .iconst 1, 1), (86, .iadd, 1), (87, .putfield 32, 3), (90, .aload_n 0, 1), (91, .getfield 35, 3), (94, .ireturn, 1)]
theorem tdX11_law_0 : hx_dt cX11_law tbX11_law_0 = true := by decide +kernel
theorem tdX11_law_1 : hx_dt cX11_law tbX11_law_1 = true := by decide +kernel
def TAX11_law : hx_TA := ([], [], [], [])
theorem taokX11_law : hx_taok RX11 TAX11_law := ⟨(fun _ h => absurd h List.not_mem_nil), (fun _ h => absurd h List.not_mem_nil), (fun _ h => absurd h List.not_mem_nil), (fun _ h => absurd h List.not_mem_nil)⟩
theorem caX11_law_157 {G : hx_GT} (cA : hx_CA RX11 cX11_law 47 2 702 G) : hx_CV cX11_law G 2 702 157 2 1 sX2_compile 2 702 := cA.1 conX2_compile rfl rfl ⟨by decide +kernel, by decide +kernel, by decide +kernel⟩ mw_525 mw_526 mw_527 mw_85 mw_528 (by decide) (by decide)
theorem caX11_law_161 {G : hx_GT} (cA : hx_CA RX11 cX11_law 47 2 702 G) : hx_CV cX11_law G 2 702 161 2 0 sX2_placeAtHand 0 0 := cA.1 conX2_placeAtHand rfl rfl ⟨by decide +kernel, by decide +kernel, by decide +kernel⟩ mw_671 mw_672 mw_673 mw_85 mw_674 (by decide) (by decide)
def wX11_law (Λ : hx_L) (μ : hx_M) (v1 : Int32) (K : Int32 → hx_L → hx_M → Prop) : Prop := (v1 < 0 → (K (-2) Λ μ)) ∧ (¬ (v1 < 0) → ((v1 ≤ (μ.1 0 1) → (((μ.1 0 4) < 5 → (wX2_compile Λ (hx_sI μ 0 1 0) v1 (fun r36_2 Lm36_1 m36_1 => (∀ k41_3, r36_2 = some k41_3 → (cF Lm36_1 ∧ vp_in (m36_1.1 0 4) 5 ∧ Lm36_1.1 k41_3 = (0, 1) ∧ ∀ L_7 : hx_L, L_7 = hx_sR Lm36_1 6 (m36_1.1 0 4).toNatClampNeg k41_3 → cF L_7 ∧ K (m36_1.1 0 4) L_7 (hx_sI (hx_sI (hx_sI m36_1 0 6 (-1)) 0 5 (m36_1.1 0 4)) 0 4 ((m36_1.1 0 4) + 1)))) ∧ (r36_2 = none → (cF Lm36_1 ∧ wX2_placeAtHand m36_1 (fun r49_11 => K (-1) Lm36_1 (hx_sI m36_1 0 6 r49_11))))))) ∧ (¬ ((μ.1 0 4) < 5) → (K (-3) Λ μ)))) ∧ (¬ (v1 ≤ (μ.1 0 1)) → (K (-2) Λ μ))))
set_option maxRecDepth 100000 in
set_option maxHeartbeats 4000000 in
theorem kX11_law {G : hx_GT} {KK : hx_KT} (hG : hx_K cX11_law 3 2 702 (some .int) TbX11 KK G) (hM : hx_KA cX11_law 2 702 TAX11_law G) (cA : hx_CA RX11 cX11_law 47 2 702 G) {Λ : hx_L} (hF : cF Λ) {μ : hx_M} (v1 : Int32) {K : Int32 → hx_L → hx_M → Prop} (hK : ∀ (r : Int32) (Λ1 : hx_L) (m : hx_M), K r Λ1 m → KK (some (.int r)) Λ1 m) (hw : wX11_law Λ μ v1 K) : G Λ μ (0, 0) 0 [some (.ref 0), some (.int v1), none] [] := by
  unfold wX11_law at hw
  refine cl_iload_n hG (hx_dq tdX11_law_0 0 rfl) rfl (cl_if_lt hG 12 (hx_dq tdX11_law_0 1 rfl) rfl (fun c1 => ?_) (fun c1 => ?_))
  · replace hw := hw.1 c1
    exact cl_bipush hG (-2) (hx_dq tdX11_law_0 6 rfl) bipush_m2 (cl_iret hG (hx_dq tdX11_law_0 7 rfl) rfl rfl (hK _ _ _ hw) (Nat.le_of_ble_eq_true rfl) (Nat.le_of_ble_eq_true rfl))
  · replace hw := hw.2 c1
    refine cl_iload_n hG (hx_dq tdX11_law_0 2 rfl) rfl (cl_aload_n hG (hx_dq tdX11_law_0 3 rfl) rfl (cl_getI hG fmX11_13 (hx_dq tdX11_law_0 4 rfl) (cF_S0 hF) (cl_icmp_le hG 15 (hx_dq tdX11_law_0 5 rfl) rfl (fun c9 => ?_) (fun c9 => ?_))))
    · replace hw := hw.1 c9
      refine cl_aload_n hG (hx_dq tdX11_law_0 8 rfl) rfl (cl_getI hG fmX11_32 (hx_dq tdX11_law_0 9 rfl) (cF_S0 hF) (cl_iconst hG 5 (hx_dq tdX11_law_0 10 rfl) iconst_5 (cl_icmp_lt hG 26 (hx_dq tdX11_law_0 11 rfl) rfl (fun c20 => ?_) (fun c20 => ?_))))
      · replace hw := hw.1 c20
        refine cl_aload_n hG (hx_dq tdX11_law_0 14 rfl) rfl (cl_iconst hG 0 (hx_dq tdX11_law_0 15 rfl) iconst_0 (cl_putI hG fmX11_13 (hx_dq tdX11_law_0 16 rfl) (cF_S0 hF) (cl_aload_n hG (hx_dq tdX11_law_0 17 rfl) rfl (cl_getS hG fmX11_22 (hx_dq tdX11_law_0 18 rfl) (cF_S0 hF) (cF_R0_2 hF) (cl_iload_n hG (hx_dq tdX11_law_0 19 rfl) rfl (cl_callV1 (caX11_law_157 cA) (hx_dq tdX11_law_0 20 rfl) (cF_S2 hF) (Nat.le_of_ble_eq_true rfl) (Nat.le_of_ble_eq_true rfl) (Nat.le_of_ble_eq_true rfl) (sX2_compile_mk hF hw (fun r36_2 Lm36_1 m36_1 hw => ?_))))))))
        refine cl_astore_nQ hG (hx_dq tdX11_law_0 21 rfl) (Nat.le_of_ble_eq_true rfl) rfl (cl_aload_nQ hG (hx_dq tdX11_law_0 22 rfl) rfl (cl_ifnonnull hG 57 (hx_dq tdX11_law_0 23 rfl) rfl (fun k41_3 c41 => ?_) (fun c41 => ?_)))
        · replace hw := hw.1 k41_3 c41
          revert hw
          subst c41
          intro hw
          obtain ⟨f4, hw⟩ := hw
          obtain ⟨i71_5, o71_6, hw⟩ := hw
          refine cl_aload_n hG (hx_dq tdX11_law_0 31 rfl) rfl (cl_iconst hG (-1) (hx_dq tdX11_law_1 0 rfl) iconst_m1 (cl_putI hG fmX11_38 (hx_dq tdX11_law_1 1 rfl) (cF_S0 f4) (cl_aload_n hG (hx_dq tdX11_law_1 2 rfl) rfl (cl_getS hG fmX11_28 (hx_dq tdX11_law_1 3 rfl) (cF_S0 f4) (cF_R0_3 f4) (cl_aload_n hG (hx_dq tdX11_law_1 4 rfl) rfl (cl_getI hG fmX11_32 (hx_dq tdX11_law_1 5 rfl) (cF_S0 f4) (cl_aload_n hG (hx_dq tdX11_law_1 6 rfl) rfl (cl_astL hM (hx_dq tdX11_law_1 7 rfl) (cF_S6 f4) o71_6 i71_5 (cl_nmA (fun L_7 e_7 => ?_))))))))))
          replace hw := hw L_7 e_7
          obtain ⟨f8, hw⟩ := hw
          exact cl_aload_n hG (hx_dq tdX11_law_1 8 rfl) rfl (cl_aload_n hG (hx_dq tdX11_law_1 9 rfl) rfl (cl_getI hG fmX11_32 (hx_dq tdX11_law_1 10 rfl) (cF_S0 f8) (cl_putI hG fmX11_35 (hx_dq tdX11_law_1 11 rfl) (cF_S0 f8) (cl_aload_n hG (hx_dq tdX11_law_1 12 rfl) rfl (cl_dup hG (hx_dq tdX11_law_1 13 rfl) rfl (cl_getI hG fmX11_32 (hx_dq tdX11_law_1 14 rfl) (cF_S0 f8) (cl_iconst hG 1 (hx_dq tdX11_law_1 15 rfl) iconst_1 (cl_iadd hG (hx_dq tdX11_law_1 16 rfl) (cl_putI hG fmX11_32 (hx_dq tdX11_law_1 17 rfl) (cF_S0 f8) (cl_aload_n hG (hx_dq tdX11_law_1 18 rfl) rfl (cl_getI hG fmX11_35 (hx_dq tdX11_law_1 19 rfl) (cF_S0 f8) (cl_iret hG (hx_dq tdX11_law_1 20 rfl) rfl rfl (hK _ _ _ hw) (Nat.le_of_ble_eq_true rfl) (Nat.le_of_ble_eq_true rfl)))))))))))))
        · replace hw := hw.2 c41
          obtain ⟨f9, hw⟩ := hw
          refine cl_aload_n hG (hx_dq tdX11_law_0 24 rfl) rfl (cl_aload_n hG (hx_dq tdX11_law_0 25 rfl) rfl (cl_getS hG fmX11_22 (hx_dq tdX11_law_0 26 rfl) (cF_S0 f9) (cF_R0_2 f9) (cl_callV0 (caX11_law_161 cA) (hx_dq tdX11_law_0 27 rfl) (cF_S2 f9) (Nat.le_of_ble_eq_true rfl) (Nat.le_of_ble_eq_true rfl) (Nat.le_of_ble_eq_true rfl) (sX2_placeAtHand_mk f9 hw (fun r49_11 hw => ?_)))))
          exact cl_putI hG fmX11_38 (hx_dq tdX11_law_0 28 rfl) (cF_S0 f9) (cl_iconst hG (-1) (hx_dq tdX11_law_0 29 rfl) iconst_m1 (cl_iret hG (hx_dq tdX11_law_0 30 rfl) rfl rfl (hK _ _ _ hw) (Nat.le_of_ble_eq_true rfl) (Nat.le_of_ble_eq_true rfl)))
      · replace hw := hw.2 c20
        exact cl_bipush hG (-3) (hx_dq tdX11_law_0 12 rfl) bipush_m3 (cl_iret hG (hx_dq tdX11_law_0 13 rfl) rfl rfl (hK _ _ _ hw) (Nat.le_of_ble_eq_true rfl) (Nat.le_of_ble_eq_true rfl))
    · replace hw := hw.2 c9
      exact cl_bipush hG (-2) (hx_dq tdX11_law_0 6 rfl) bipush_m2 (cl_iret hG (hx_dq tdX11_law_0 7 rfl) rfl rfl (hK _ _ _ hw) (Nat.le_of_ble_eq_true rfl) (Nat.le_of_ble_eq_true rfl))
def sX11_law : hx_ST := fun Λ μ as KK => cF Λ ∧ ∃ (v1 : Int32) (K : Int32 → hx_L → hx_M → Prop), as = [.ref 0, .int v1] ∧ wX11_law Λ μ v1 K ∧ (∀ (r : Int32) (Λ1 : hx_L) (m : hx_M), K r Λ1 m → KK (some (.int r)) Λ1 m)
theorem sX11_law_mk {Λ : hx_L} {μ : hx_M} {KK : hx_KT} {v1 : Int32} {K : Int32 → hx_L → hx_M → Prop} (hF : cF Λ) (hw : wX11_law Λ μ v1 K) (hk : ∀ (r : Int32) (Λ1 : hx_L) (m : hx_M), K r Λ1 m → KK (some (.int r)) Λ1 m) : sX11_law Λ μ [.ref 0, .int v1] KK := ⟨hF, _, _, rfl, hw, hk⟩
theorem conX11_law : hx_Con yX11_law cX11_law 3 (some .int) 47 2 702 sX11_law := by
  refine hx_con_ofA (by decide +kernel) tokX11 taokX11_law (Or.inl rfl) (by decide) ?_ ?_
  · intro Λ μ as KK h
    obtain ⟨hF, v1, K, rfl, hw, hK⟩ := h
    exact Nat.le_of_ble_eq_true rfl
  · intro G KK hG hM cA Λ μ as h
    obtain ⟨hF, v1, K, rfl, hw, hK⟩ := h
    exact cl_sub hG (hx_le_c rfl (hx_le_c rfl (hx_le_n hx_le_0))) (kX11_law hG hM cA hF _ hK hw)
/-! HemLine.force(I)Z -/
def tbX11_force_0 : List (Nat × Instr × Nat) := [(0, .iload_n 1, 1), (1, .iconst 0, 1), (2, .aload_n 0, 1), (3, .getfield 32, 3), (6, .iconst 1, 1), (7, .isub, 1), (8, .invokestatic 94, 3), (11, .ifCond .ne 5, 3), (14, .iconst 0, 1), (15, .ireturn, 1), (16, .aload_n 0, 1), (17, .iload_n 1, 1), (18, .putfield 35, 3), (21, .iconst 1, 1), (22, .ireturn, 1)]
theorem tdX11_force_0 : hx_dt cX11_force tbX11_force_0 = true := by decide +kernel
theorem caX11_force_94 {G : hx_GT} (cA : hx_CA RX11 cX11_force 2 0 0 G) : hx_CS cX11_force G 0 0 94 3 sX11_within 0 0 := cA.2.1 conX11_within ⟨by decide +kernel, by decide +kernel, by decide +kernel⟩ mw_477 mw_478 mw_84 mw_479 (by decide) (by decide)
def wX11_force (μ : hx_M) (v1 : Int32) (K : Int32 → hx_M → Prop) : Prop := wX11_within v1 0 ((μ.1 0 4) - 1) (fun r8_2 => (r8_2 ≠ 0 → (K 1 (hx_sI μ 0 5 v1))) ∧ (r8_2 = 0 → (K 0 μ)))
set_option maxRecDepth 100000 in
set_option maxHeartbeats 4000000 in
theorem kX11_force {G : hx_GT} {KK : hx_KT} (hG : hx_K cX11_force 2 0 0 (some .boolean) TbX11 KK G) (cA : hx_CA RX11 cX11_force 2 0 0 G) {Λ : hx_L} (hF : cF Λ) {μ : hx_M} (v1 : Int32) {K : Int32 → hx_M → Prop} (hK : ∀ (r : Int32) (m : hx_M), K r m → KK (some (.int r)) Λ m) (hw : wX11_force μ v1 K) : G Λ μ (0, 0) 0 [some (.ref 0), some (.int v1)] [] := by
  unfold wX11_force at hw
  refine cl_iload_n hG (hx_dq tdX11_force_0 0 rfl) rfl (cl_iconst hG 0 (hx_dq tdX11_force_0 1 rfl) iconst_0 (cl_aload_n hG (hx_dq tdX11_force_0 2 rfl) rfl (cl_getI hG fmX11_32 (hx_dq tdX11_force_0 3 rfl) (cF_S0 hF) (cl_iconst hG 1 (hx_dq tdX11_force_0 4 rfl) iconst_1 (cl_isub hG (hx_dq tdX11_force_0 5 rfl) (cl_callS3 (caX11_force_94 cA) (hx_dq tdX11_force_0 6 rfl) (Nat.le_of_ble_eq_true rfl) (Nat.le_refl _) (Nat.le_refl _) (sX11_within_mk hw (fun r8_2 hw => ?_))))))))
  refine cl_if_ne hG 16 (hx_dq tdX11_force_0 7 rfl) rfl (fun c11 => ?_) (fun c11 => ?_)
  · replace hw := hw.1 c11
    exact cl_aload_n hG (hx_dq tdX11_force_0 10 rfl) rfl (cl_iload_n hG (hx_dq tdX11_force_0 11 rfl) rfl (cl_putI hG fmX11_35 (hx_dq tdX11_force_0 12 rfl) (cF_S0 hF) (cl_iconst hG 1 (hx_dq tdX11_force_0 13 rfl) iconst_1 (cl_iret hG (hx_dq tdX11_force_0 14 rfl) rfl rfl (hK _ _ hw) (Nat.le_refl _) (Nat.le_refl _)))))
  · replace hw := hw.2 c11
    exact cl_iconst hG 0 (hx_dq tdX11_force_0 8 rfl) iconst_0 (cl_iret hG (hx_dq tdX11_force_0 9 rfl) rfl rfl (hK _ _ hw) (Nat.le_refl _) (Nat.le_refl _))
def sX11_force : hx_ST := fun Λ μ as KK => cF Λ ∧ ∃ (v1 : Int32) (K : Int32 → hx_M → Prop), as = [.ref 0, .int v1] ∧ wX11_force μ v1 K ∧ (∀ (r : Int32) (m : hx_M), K r m → KK (some (.int r)) Λ m)
theorem sX11_force_mk {Λ : hx_L} {μ : hx_M} {KK : hx_KT} {v1 : Int32} {K : Int32 → hx_M → Prop} (hF : cF Λ) (hw : wX11_force μ v1 K) (hk : ∀ (r : Int32) (m : hx_M), K r m → KK (some (.int r)) Λ m) : sX11_force Λ μ [.ref 0, .int v1] KK := ⟨hF, _, _, rfl, hw, hk⟩
theorem conX11_force : hx_Con yX11_force cX11_force 2 (some .boolean) 2 0 0 sX11_force := by
  refine hx_con_of (by decide +kernel) tokX11 (by decide) ?_ ?_
  · intro Λ μ as KK h
    obtain ⟨hF, v1, K, rfl, hw, hK⟩ := h
    exact Nat.le_of_ble_eq_true rfl
  · intro G KK hG cA Λ μ as h
    obtain ⟨hF, v1, K, rfl, hw, hK⟩ := h
    exact cl_sub hG (hx_le_c rfl (hx_le_c rfl hx_le_0)) (kX11_force hG cA hF _ hK hw)
/-! HemLine.fault()I -/
def tbX11_fault_0 : List (Nat × Instr × Nat) := [(0, .aload_n 0, 1), (1, .getfield 38, 3), (4, .ireturn, 1)]
theorem tdX11_fault_0 : hx_dt cX11_fault tbX11_fault_0 = true := by decide +kernel
def wX11_fault (μ : hx_M)  (K : Int32 → Prop) : Prop := K (μ.1 0 6)
set_option maxRecDepth 100000 in
set_option maxHeartbeats 4000000 in
theorem kX11_fault {G : hx_GT} {KK : hx_KT} (hG : hx_K cX11_fault 1 0 0 (some .int) TbX11 KK G) (cA : hx_CA RX11 cX11_fault 1 0 0 G) {Λ : hx_L} (hF : cF Λ) {μ : hx_M}  {K : Int32 → Prop} (hK : ∀ (r : Int32), K r → KK (some (.int r)) Λ μ) (hw : wX11_fault μ K) : G Λ μ (0, 0) 0 [some (.ref 0)] [] := by
  unfold wX11_fault at hw
  exact cl_aload_n hG (hx_dq tdX11_fault_0 0 rfl) rfl (cl_getI hG fmX11_38 (hx_dq tdX11_fault_0 1 rfl) (cF_S0 hF) (cl_iret hG (hx_dq tdX11_fault_0 2 rfl) rfl rfl (hK _ hw) (Nat.le_refl _) (Nat.le_refl _)))
def sX11_fault : hx_ST := fun Λ μ as KK => cF Λ ∧ ∃ (K : Int32 → Prop), as = [.ref 0] ∧ wX11_fault μ K ∧ (∀ (r : Int32), K r → KK (some (.int r)) Λ μ)
theorem sX11_fault_mk {Λ : hx_L} {μ : hx_M} {KK : hx_KT}  {K : Int32 → Prop} (hF : cF Λ) (hw : wX11_fault μ K) (hk : ∀ (r : Int32), K r → KK (some (.int r)) Λ μ) : sX11_fault Λ μ [.ref 0] KK := ⟨hF, _, rfl, hw, hk⟩
theorem conX11_fault : hx_Con yX11_fault cX11_fault 1 (some .int) 1 0 0 sX11_fault := by
  refine hx_con_of (by decide +kernel) tokX11 (by decide) ?_ ?_
  · intro Λ μ as KK h
    obtain ⟨hF, K, rfl, hw, hK⟩ := h
    exact Nat.le_of_ble_eq_true rfl
  · intro G KK hG cA Λ μ as h
    obtain ⟨hF, K, rfl, hw, hK⟩ := h
    exact cl_sub hG (hx_le_c rfl hx_le_0) (kX11_fault hG cA hF hK hw)
/-! HemLine.lawInForce()LHemLine$Law; -/
def tbX11_lawInForce_0 : List (Nat × Instr × Nat) := [(0, .aload_n 0, 1), (1, .getfield 35, 3), (4, .iconst 0, 1), (5, .aload_n 0, 1), (6, .getfield 32, 3), (9, .iconst 1, 1), (10, .isub, 1), (11, .invokestatic 94, 3), (14, .ifCond .eq 15, 3), (17, .aload_n 0, 1), (18, .getfield 28, 3), (21, .aload_n 0, 1), (22, .getfield 35, 3), (25, .aaload, 1), (26, .goto 4, 3), (29, .aconst_null, 1), (30, .areturn, 1)]
theorem tdX11_lawInForce_0 : hx_dt cX11_lawInForce tbX11_lawInForce_0 = true := by decide +kernel
theorem caX11_lawInForce_94 {G : hx_GT} (cA : hx_CA RX11 cX11_lawInForce 2 0 0 G) : hx_CS cX11_lawInForce G 0 0 94 3 sX11_within 0 0 := cA.2.1 conX11_within ⟨by decide +kernel, by decide +kernel, by decide +kernel⟩ mw_477 mw_478 mw_84 mw_479 (by decide) (by decide)
def wX11_lawInForce (Λ : hx_L) (μ : hx_M)  (K : Option Nat → Prop) : Prop := wX11_within (μ.1 0 5) 0 ((μ.1 0 4) - 1) (fun r11_2 => (r11_2 = 0 → (K none)) ∧ (¬ (r11_2 = 0) → (vp_in (μ.1 0 5) 5 ∧ K (Λ.2.1 6 (μ.1 0 5).toNatClampNeg))))
set_option maxRecDepth 100000 in
set_option maxHeartbeats 4000000 in
theorem kX11_lawInForce {G : hx_GT} {KK : hx_KT} (hG : hx_K cX11_lawInForce 1 0 0 (some (.object "HemLine$Law")) TbX11 KK G) (cA : hx_CA RX11 cX11_lawInForce 2 0 0 G) {Λ : hx_L} (hF : cF Λ) {μ : hx_M}  {K : Option Nat → Prop} (hK : ∀ (r : Option Nat), K r → KK (some (va_rf r)) Λ μ) (hw : wX11_lawInForce Λ μ K) : G Λ μ (0, 0) 0 [some (.ref 0)] [] := by
  unfold wX11_lawInForce at hw
  refine cl_aload_n hG (hx_dq tdX11_lawInForce_0 0 rfl) rfl (cl_getI hG fmX11_35 (hx_dq tdX11_lawInForce_0 1 rfl) (cF_S0 hF) (cl_iconst hG 0 (hx_dq tdX11_lawInForce_0 2 rfl) iconst_0 (cl_aload_n hG (hx_dq tdX11_lawInForce_0 3 rfl) rfl (cl_getI hG fmX11_32 (hx_dq tdX11_lawInForce_0 4 rfl) (cF_S0 hF) (cl_iconst hG 1 (hx_dq tdX11_lawInForce_0 5 rfl) iconst_1 (cl_isub hG (hx_dq tdX11_lawInForce_0 6 rfl) (cl_callS3 (caX11_lawInForce_94 cA) (hx_dq tdX11_lawInForce_0 7 rfl) (Nat.le_of_ble_eq_true rfl) (Nat.le_refl _) (Nat.le_refl _) (sX11_within_mk hw (fun r11_2 hw => ?_)))))))))
  refine cl_if_eq hG 29 (hx_dq tdX11_lawInForce_0 8 rfl) rfl (fun c14 => ?_) (fun c14 => ?_)
  · replace hw := hw.1 c14
    exact cl_null hG (hx_dq tdX11_lawInForce_0 15 rfl) (cl_aret hG (hx_dq tdX11_lawInForce_0 16 rfl) rfl (Or.inl ⟨_, rfl⟩) (hK none hw) (Nat.le_refl _) (Nat.le_refl _))
  · replace hw := hw.2 c14
    obtain ⟨i25_3, hw⟩ := hw
    exact cl_aload_n hG (hx_dq tdX11_lawInForce_0 9 rfl) rfl (cl_getS hG fmX11_28 (hx_dq tdX11_lawInForce_0 10 rfl) (cF_S0 hF) (cF_R0_3 hF) (cl_aload_n hG (hx_dq tdX11_lawInForce_0 11 rfl) rfl (cl_getI hG fmX11_35 (hx_dq tdX11_lawInForce_0 12 rfl) (cF_S0 hF) (cl_aldL hG (hx_dq tdX11_lawInForce_0 13 rfl) (cF_S6 hF) i25_3 (cl_goto hG 30 (hx_dq tdX11_lawInForce_0 14 rfl) rfl (cl_aret hG (hx_dq tdX11_lawInForce_0 16 rfl) rfl (Or.inl ⟨_, rfl⟩) (hK (Λ.2.1 6 (μ.1 0 5).toNatClampNeg) hw) (Nat.le_refl _) (Nat.le_refl _)))))))
def sX11_lawInForce : hx_ST := fun Λ μ as KK => cF Λ ∧ ∃ (K : Option Nat → Prop), as = [.ref 0] ∧ wX11_lawInForce Λ μ K ∧ (∀ (r : Option Nat), K r → KK (some (va_rf r)) Λ μ)
theorem sX11_lawInForce_mk {Λ : hx_L} {μ : hx_M} {KK : hx_KT}  {K : Option Nat → Prop} (hF : cF Λ) (hw : wX11_lawInForce Λ μ K) (hk : ∀ (r : Option Nat), K r → KK (some (va_rf r)) Λ μ) : sX11_lawInForce Λ μ [.ref 0] KK := ⟨hF, _, rfl, hw, hk⟩
theorem conX11_lawInForce : hx_Con yX11_lawInForce cX11_lawInForce 1 (some (.object "HemLine$Law")) 2 0 0 sX11_lawInForce := by
  refine hx_con_of (by decide +kernel) tokX11 (by decide) ?_ ?_
  · intro Λ μ as KK h
    obtain ⟨hF, K, rfl, hw, hK⟩ := h
    exact Nat.le_of_ble_eq_true rfl
  · intro G KK hG cA Λ μ as h
    obtain ⟨hF, K, rfl, hw, hK⟩ := h
    exact cl_sub hG (hx_le_c rfl hx_le_0) (kX11_lawInForce hG cA hF hK hw)
/-! HemLine.run(I)I -/
def tbX11_run_0 : List (Nat × Instr × Nat) := [(0, .aload_n 0, 1), (1, .invokevirtual 165, 3), (4, .astore_n 2, 1), (5, .iload_n 1, 1), (6, .iconst 1, 1), (7, .bipush 60, 2), (9, .invokestatic 94, 3), (12, .ifCond .eq 35, 3), (15, .aload_n 0, 1), (16, .getfield 46, 3), (19, .getfield 98, 3), (22, .iload_n 1, 1), (23, .iadd, 1), (24, .sipush 200, 3), (27, .if_icmp .gt 20, 3), (30, .aload_n 0, 1), (31, .getfield 46, 3), (34, .getfield 101, 3), (37, .invokevirtual 169, 3), (40, .ifCond .ne 7, 3), (43, .aload_n 2, 1), (44, .ifnonnull 5, 3), (47, .iconst (-1), 1), (48, .ireturn, 1), (49, .iconst 0, 1), (50, .istore_n 3, 1), (51, .iload_n 3, 1), (52, .iload_n 1, 1), (53, .if_icmp .ge 17, 3), (56, .aload_n 0, 1), (57, .getfield 46, 3), (60, .aload_n 2, 1)]
def tbX11_run_1 : List (Nat × Instr × Nat) := [(61, .invokevirtual 173, 3), (64, .iinc 3 1, 3), (67, .goto (-16), 3), (70, .aload_n 0, 1), (71, .getfield 46, 3), (74, .getfield 98, 3), (77, .ireturn, 1)]
theorem tdX11_run_0 : hx_dt cX11_run tbX11_run_0 = true := by decide +kernel
theorem tdX11_run_1 : hx_dt cX11_run tbX11_run_1 = true := by decide +kernel
theorem caX11_run_94 {G : hx_GT} (cA : hx_CA RX11 cX11_run 7 0 0 G) : hx_CS cX11_run G 0 0 94 3 sX11_within 0 0 := cA.2.1 conX11_within ⟨by decide +kernel, by decide +kernel, by decide +kernel⟩ mw_477 mw_478 mw_84 mw_479 (by decide) (by decide)
theorem caX11_run_165 {G : hx_GT} (cA : hx_CA RX11 cX11_run 7 0 0 G) : hx_CV cX11_run G 0 0 165 11 0 sX11_lawInForce 0 0 := cA.1 conX11_lawInForce rfl rfl ⟨by decide +kernel, by decide +kernel, by decide +kernel⟩ mw_687 mw_689 mw_15 mw_84 mw_690 (by decide) (by decide)
theorem caX11_run_169 {G : hx_GT} (cA : hx_CA RX11 cX11_run 7 0 0 G) : hx_CV cX11_run G 0 0 169 4 0 sX4_isEmpty 0 0 := cA.1 conX4_isEmpty rfl rfl ⟨by decide +kernel, by decide +kernel, by decide +kernel⟩ mw_691 mw_692 mw_693 mw_87 mw_694 (by decide) (by decide)
theorem caX11_run_173 {G : hx_GT} (cA : hx_CA RX11 cX11_run 7 0 0 G) : hx_CV cX11_run G 0 0 173 10 1 sX10_pass 0 0 := cA.1 conX10_pass rfl rfl ⟨by decide +kernel, by decide +kernel, by decide +kernel⟩ mw_695 mw_696 mw_697 mw_86 mw_698 (by decide) (by decide)
def wX11_run_L51 (Λ : hx_L) (v1 : Int32) (v2 : Nat) (K : Int32 → hx_M → Prop)  : Nat → Int32 → hx_M → Prop
  | 0, _, _ => False
  | n + 1, v3, μ => (v1 ≤ v3 → (K (μ.1 7 7) μ)) ∧ (¬ (v1 ≤ v3) → (wX10_pass Λ μ v2 (fun m61_8 => wX11_run_L51 Λ v1 v2 K n (v3 + 1) m61_8)))
set_option maxRecDepth 100000 in
set_option maxHeartbeats 4000000 in
theorem kX11_run_L51 {G : hx_GT} {KK : hx_KT} (hG : hx_K cX11_run 4 0 0 (some .int) TbX11 KK G) (cA : hx_CA RX11 cX11_run 7 0 0 G) {Λ : hx_L} (hF : cF Λ)  (v1 : Int32) (v2 : Nat) {K : Int32 → hx_M → Prop} (hK : ∀ (r : Int32) (m : hx_M), K r m → KK (some (.int r)) Λ m)  : ∀ (n : Nat) (v3 : Int32) (μ : hx_M), wX11_run_L51 Λ v1 v2 K n v3 μ → G Λ μ (0, 0) 51 [some (.ref 0), some (.int v1), some (.ref v2), some (.int v3)] [] := by
  intro n
  induction n with
  | zero =>
    intro v3 μ hw
    exact False.elim (by simpa only [wX11_run_L51] using hw)
  | succ n ih =>
    intro v3 μ hw
    unfold wX11_run_L51 at hw
    refine cl_iload_n hG (hx_dq tdX11_run_0 26 rfl) rfl (cl_iload_n hG (hx_dq tdX11_run_0 27 rfl) rfl (cl_icmp_ge hG 70 (hx_dq tdX11_run_0 28 rfl) rfl (fun c53 => ?_) (fun c53 => ?_)))
    · replace hw := hw.1 c53
      exact cl_aload_n hG (hx_dq tdX11_run_1 3 rfl) rfl (cl_getS hG fmX11_46 (hx_dq tdX11_run_1 4 rfl) (cF_S0 hF) (cF_R0_7 hF) (cl_getI hG fmX11_98 (hx_dq tdX11_run_1 5 rfl) (cF_S7 hF) (cl_iret hG (hx_dq tdX11_run_1 6 rfl) rfl rfl (hK _ _ hw) (Nat.le_refl _) (Nat.le_refl _))))
    · replace hw := hw.2 c53
      refine cl_aload_n hG (hx_dq tdX11_run_0 29 rfl) rfl (cl_getS hG fmX11_46 (hx_dq tdX11_run_0 30 rfl) (cF_S0 hF) (cF_R0_7 hF) (cl_aload_n hG (hx_dq tdX11_run_0 31 rfl) rfl (cl_callV1 (caX11_run_173 cA) (hx_dq tdX11_run_1 0 rfl) (cF_S7 hF) (Nat.le_of_ble_eq_true rfl) (Nat.le_refl _) (Nat.le_refl _) (sX10_pass_mk hF hw (fun m61_8 hw => ?_)))))
      exact cl_iinc hG (v3 + 1) (hx_dq tdX11_run_1 1 rfl) rfl (congrArg (fun z => v3 + z) iconst_1) (Nat.le_of_ble_eq_true rfl) rfl (cl_goto hG 51 (hx_dq tdX11_run_1 2 rfl) rfl (cl_sub hG (hx_le_c rfl (hx_le_c rfl (hx_le_c rfl (hx_le_c rfl hx_le_0)))) (ih (v3 + 1) _ hw)))
def wX11_run (Λ : hx_L) (μ : hx_M) (v1 : Int32) (K : Int32 → hx_M → Prop) : Prop := wX11_lawInForce Λ μ (fun r1_2 => wX11_within v1 1 60 (fun r9_4 => (r9_4 = 0 → (K (-1) μ)) ∧ (¬ (r9_4 = 0) → ((200 < ((μ.1 7 7) + v1) → (K (-1) μ)) ∧ (¬ (200 < ((μ.1 7 7) + v1)) → (wX4_isEmpty μ (fun r37_6 => (r37_6 ≠ 0 → (K (-1) μ)) ∧ (r37_6 = 0 → ((∀ k44_7, r1_2 = some k44_7 → (∃ n51_10, wX11_run_L51 Λ v1 k44_7 K n51_10 0 μ)) ∧ (r1_2 = none → (K (-1) μ)))))))))))
set_option maxRecDepth 100000 in
set_option maxHeartbeats 4000000 in
theorem kX11_run {G : hx_GT} {KK : hx_KT} (hG : hx_K cX11_run 4 0 0 (some .int) TbX11 KK G) (cA : hx_CA RX11 cX11_run 7 0 0 G) {Λ : hx_L} (hF : cF Λ) {μ : hx_M} (v1 : Int32) {K : Int32 → hx_M → Prop} (hK : ∀ (r : Int32) (m : hx_M), K r m → KK (some (.int r)) Λ m) (hw : wX11_run Λ μ v1 K) : G Λ μ (0, 0) 0 [some (.ref 0), some (.int v1), none, none] [] := by
  unfold wX11_run at hw
  refine cl_aload_n hG (hx_dq tdX11_run_0 0 rfl) rfl (cl_callV0 (caX11_run_165 cA) (hx_dq tdX11_run_0 1 rfl) (cF_S0 hF) (Nat.le_of_ble_eq_true rfl) (Nat.le_refl _) (Nat.le_refl _) (sX11_lawInForce_mk hF hw (fun r1_2 hw => ?_)))
  refine cl_astore_nQ hG (hx_dq tdX11_run_0 2 rfl) (Nat.le_of_ble_eq_true rfl) rfl (cl_iload_n hG (hx_dq tdX11_run_0 3 rfl) rfl (cl_iconst hG 1 (hx_dq tdX11_run_0 4 rfl) iconst_1 (cl_bipush hG 60 (hx_dq tdX11_run_0 5 rfl) bipush_60 (cl_callS3 (caX11_run_94 cA) (hx_dq tdX11_run_0 6 rfl) (Nat.le_of_ble_eq_true rfl) (Nat.le_refl _) (Nat.le_refl _) (sX11_within_mk hw (fun r9_4 hw => ?_))))))
  refine cl_if_eq hG 47 (hx_dq tdX11_run_0 7 rfl) rfl (fun c12 => ?_) (fun c12 => ?_)
  · replace hw := hw.1 c12
    exact cl_iconst hG (-1) (hx_dq tdX11_run_0 22 rfl) iconst_m1 (cl_iret hG (hx_dq tdX11_run_0 23 rfl) rfl rfl (hK _ _ hw) (Nat.le_refl _) (Nat.le_refl _))
  · replace hw := hw.2 c12
    refine cl_aload_n hG (hx_dq tdX11_run_0 8 rfl) rfl (cl_getS hG fmX11_46 (hx_dq tdX11_run_0 9 rfl) (cF_S0 hF) (cF_R0_7 hF) (cl_getI hG fmX11_98 (hx_dq tdX11_run_0 10 rfl) (cF_S7 hF) (cl_iload_n hG (hx_dq tdX11_run_0 11 rfl) rfl (cl_iadd hG (hx_dq tdX11_run_0 12 rfl) (cl_sipush hG 200 (hx_dq tdX11_run_0 13 rfl) sipush_200 (cl_icmp_gt hG 47 (hx_dq tdX11_run_0 14 rfl) rfl (fun c27 => ?_) (fun c27 => ?_)))))))
    · replace hw := hw.1 c27
      exact cl_iconst hG (-1) (hx_dq tdX11_run_0 22 rfl) iconst_m1 (cl_iret hG (hx_dq tdX11_run_0 23 rfl) rfl rfl (hK _ _ hw) (Nat.le_refl _) (Nat.le_refl _))
    · replace hw := hw.2 c27
      refine cl_aload_n hG (hx_dq tdX11_run_0 15 rfl) rfl (cl_getS hG fmX11_46 (hx_dq tdX11_run_0 16 rfl) (cF_S0 hF) (cF_R0_7 hF) (cl_getS hG fmX11_101 (hx_dq tdX11_run_0 17 rfl) (cF_S7 hF) (cF_R7_0 hF) (cl_callV0 (caX11_run_169 cA) (hx_dq tdX11_run_0 18 rfl) (cF_S8 hF) (Nat.le_of_ble_eq_true rfl) (Nat.le_refl _) (Nat.le_refl _) (sX4_isEmpty_mk hF hw (fun r37_6 hw => ?_)))))
      refine cl_if_ne hG 47 (hx_dq tdX11_run_0 19 rfl) rfl (fun c40 => ?_) (fun c40 => ?_)
      · replace hw := hw.1 c40
        exact cl_iconst hG (-1) (hx_dq tdX11_run_0 22 rfl) iconst_m1 (cl_iret hG (hx_dq tdX11_run_0 23 rfl) rfl rfl (hK _ _ hw) (Nat.le_refl _) (Nat.le_refl _))
      · replace hw := hw.2 c40
        refine cl_aload_nQ hG (hx_dq tdX11_run_0 20 rfl) rfl (cl_ifnonnull hG 49 (hx_dq tdX11_run_0 21 rfl) rfl (fun k44_7 c44 => ?_) (fun c44 => ?_))
        · replace hw := hw.1 k44_7 c44
          revert hw
          subst c44
          intro hw
          refine cl_iconst hG 0 (hx_dq tdX11_run_0 24 rfl) iconst_0 (cl_istore_n hG (hx_dq tdX11_run_0 25 rfl) (Nat.le_of_ble_eq_true rfl) rfl ?_)
          obtain ⟨n_, hw⟩ := hw
          refine cl_sub hG (hx_le_c rfl (hx_le_c rfl (hx_le_c rfl (hx_le_c rfl hx_le_0)))) (kX11_run_L51 hG cA hF v1 k44_7 hK n_ 0 _ hw)
        · replace hw := hw.2 c44
          exact cl_iconst hG (-1) (hx_dq tdX11_run_0 22 rfl) iconst_m1 (cl_iret hG (hx_dq tdX11_run_0 23 rfl) rfl rfl (hK _ _ hw) (Nat.le_refl _) (Nat.le_refl _))
def sX11_run : hx_ST := fun Λ μ as KK => cF Λ ∧ ∃ (v1 : Int32) (K : Int32 → hx_M → Prop), as = [.ref 0, .int v1] ∧ wX11_run Λ μ v1 K ∧ (∀ (r : Int32) (m : hx_M), K r m → KK (some (.int r)) Λ m)
theorem sX11_run_mk {Λ : hx_L} {μ : hx_M} {KK : hx_KT} {v1 : Int32} {K : Int32 → hx_M → Prop} (hF : cF Λ) (hw : wX11_run Λ μ v1 K) (hk : ∀ (r : Int32) (m : hx_M), K r m → KK (some (.int r)) Λ m) : sX11_run Λ μ [.ref 0, .int v1] KK := ⟨hF, _, _, rfl, hw, hk⟩
theorem conX11_run : hx_Con yX11_run cX11_run 4 (some .int) 7 0 0 sX11_run := by
  refine hx_con_of (by decide +kernel) tokX11 (by decide) ?_ ?_
  · intro Λ μ as KK h
    obtain ⟨hF, v1, K, rfl, hw, hK⟩ := h
    exact Nat.le_of_ble_eq_true rfl
  · intro G KK hG cA Λ μ as h
    obtain ⟨hF, v1, K, rfl, hw, hK⟩ := h
    exact cl_sub hG (hx_le_c rfl (hx_le_c rfl (hx_le_n (hx_le_n hx_le_0)))) (kX11_run hG cA hF _ hK hw)
/-! HemLine.line(I)I -/
def tbX11_line_0 : List (Nat × Instr × Nat) := [(0, .aload_n 0, 1), (1, .getfield 46, 3), (4, .iload_n 1, 1), (5, .invokevirtual 177, 3), (8, .ifCond .eq 14, 3), (11, .aload_n 0, 1), (12, .getfield 46, 3), (15, .iload_n 1, 1), (16, .invokevirtual 180, 3), (19, .goto 4, 3), (22, .iconst (-1), 1), (23, .ireturn, 1)]
theorem tdX11_line_0 : hx_dt cX11_line tbX11_line_0 = true := by decide +kernel
theorem caX11_line_177 {G : hx_GT} (cA : hx_CA RX11 cX11_line 3 0 0 G) : hx_CV cX11_line G 0 0 177 10 1 sX10_hasSeason 0 0 := cA.1 conX10_hasSeason rfl rfl ⟨by decide +kernel, by decide +kernel, by decide +kernel⟩ mw_786 mw_787 mw_788 mw_86 mw_789 (by decide) (by decide)
theorem caX11_line_180 {G : hx_GT} (cA : hx_CA RX11 cX11_line 3 0 0 G) : hx_CV cX11_line G 0 0 180 10 1 sX10_lineAt 0 0 := cA.1 conX10_lineAt rfl rfl ⟨by decide +kernel, by decide +kernel, by decide +kernel⟩ mw_791 mw_792 mw_793 mw_86 mw_794 (by decide) (by decide)
def wX11_line (μ : hx_M) (v1 : Int32) (K : Int32 → Prop) : Prop := wX10_hasSeason μ v1 (fun r5_2 => (r5_2 = 0 → (K (-1))) ∧ (¬ (r5_2 = 0) → (wX10_lineAt μ v1 (fun r16_4 => K r16_4))))
set_option maxRecDepth 100000 in
set_option maxHeartbeats 4000000 in
theorem kX11_line {G : hx_GT} {KK : hx_KT} (hG : hx_K cX11_line 2 0 0 (some .int) TbX11 KK G) (cA : hx_CA RX11 cX11_line 3 0 0 G) {Λ : hx_L} (hF : cF Λ) {μ : hx_M} (v1 : Int32) {K : Int32 → Prop} (hK : ∀ (r : Int32), K r → KK (some (.int r)) Λ μ) (hw : wX11_line μ v1 K) : G Λ μ (0, 0) 0 [some (.ref 0), some (.int v1)] [] := by
  unfold wX11_line at hw
  refine cl_aload_n hG (hx_dq tdX11_line_0 0 rfl) rfl (cl_getS hG fmX11_46 (hx_dq tdX11_line_0 1 rfl) (cF_S0 hF) (cF_R0_7 hF) (cl_iload_n hG (hx_dq tdX11_line_0 2 rfl) rfl (cl_callV1 (caX11_line_177 cA) (hx_dq tdX11_line_0 3 rfl) (cF_S7 hF) (Nat.le_of_ble_eq_true rfl) (Nat.le_refl _) (Nat.le_refl _) (sX10_hasSeason_mk hF hw (fun r5_2 hw => ?_)))))
  refine cl_if_eq hG 22 (hx_dq tdX11_line_0 4 rfl) rfl (fun c8 => ?_) (fun c8 => ?_)
  · replace hw := hw.1 c8
    exact cl_iconst hG (-1) (hx_dq tdX11_line_0 10 rfl) iconst_m1 (cl_iret hG (hx_dq tdX11_line_0 11 rfl) rfl rfl (hK _ hw) (Nat.le_refl _) (Nat.le_refl _))
  · replace hw := hw.2 c8
    refine cl_aload_n hG (hx_dq tdX11_line_0 5 rfl) rfl (cl_getS hG fmX11_46 (hx_dq tdX11_line_0 6 rfl) (cF_S0 hF) (cF_R0_7 hF) (cl_iload_n hG (hx_dq tdX11_line_0 7 rfl) rfl (cl_callV1 (caX11_line_180 cA) (hx_dq tdX11_line_0 8 rfl) (cF_S7 hF) (Nat.le_of_ble_eq_true rfl) (Nat.le_refl _) (Nat.le_refl _) (sX10_lineAt_mk hF hw (fun r16_4 hw => ?_)))))
    exact cl_goto hG 23 (hx_dq tdX11_line_0 9 rfl) rfl (cl_iret hG (hx_dq tdX11_line_0 11 rfl) rfl rfl (hK _ hw) (Nat.le_refl _) (Nat.le_refl _))
def sX11_line : hx_ST := fun Λ μ as KK => cF Λ ∧ ∃ (v1 : Int32) (K : Int32 → Prop), as = [.ref 0, .int v1] ∧ wX11_line μ v1 K ∧ (∀ (r : Int32), K r → KK (some (.int r)) Λ μ)
theorem sX11_line_mk {Λ : hx_L} {μ : hx_M} {KK : hx_KT} {v1 : Int32} {K : Int32 → Prop} (hF : cF Λ) (hw : wX11_line μ v1 K) (hk : ∀ (r : Int32), K r → KK (some (.int r)) Λ μ) : sX11_line Λ μ [.ref 0, .int v1] KK := ⟨hF, _, _, rfl, hw, hk⟩
theorem conX11_line : hx_Con yX11_line cX11_line 2 (some .int) 3 0 0 sX11_line := by
  refine hx_con_of (by decide +kernel) tokX11 (by decide) ?_ ?_
  · intro Λ μ as KK h
    obtain ⟨hF, v1, K, rfl, hw, hK⟩ := h
    exact Nat.le_of_ble_eq_true rfl
  · intro G KK hG cA Λ μ as h
    obtain ⟨hF, v1, K, rfl, hw, hK⟩ := h
    exact cl_sub hG (hx_le_c rfl (hx_le_c rfl hx_le_0)) (kX11_line hG cA hF _ hK hw)
