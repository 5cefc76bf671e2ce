/-! HemLine$Reckoner.wishByRules(LHemLine$Law;II)I -/
def tbX6_wishByRules_0 : List (Nat × Instr × Nat) := [(0, .aload_n 1, 1), (1, .getfield 79, 3), (4, .astore 4, 2), (6, .iconst 0, 1), (7, .istore 5, 2), (9, .iconst 0, 1), (10, .istore 6, 2), (12, .iload 6, 2), (14, .aload_n 1, 1), (15, .getfield 82, 3), (18, .if_icmp .ge 109, 3), (21, .iload 5, 2), (23, .iconst 1, 1), (24, .iadd, 1), (25, .aload 4, 2), (27, .arraylength, 1), (28, .if_icmp .ge 99, 3), (31, .aload 4, 2), (33, .iload 5, 2), (35, .iaload, 1), (36, .istore 7, 2), (38, .aload 4, 2), (40, .iload 5, 2), (42, .iconst 1, 1), (43, .iadd, 1), (44, .iaload, 1), (45, .aload 4, 2), (47, .arraylength, 1), (48, .invokestatic 85, 3), (51, .istore 8, 2), (53, .aload_n 0, 1), (54, .aload 4, 2)]
def tbX6_wishByRules_1 : List (Nat × Instr × Nat) := [(56, .iload 5, 2), (58, .iconst 2, 1), (59, .iadd, 1), (60, .iload 8, 2), (62, .invokevirtual 88, 3), (65, .ifCond .eq 52, 3), (68, .aload_n 0, 1), (69, .iload 7, 2), (71, .invokestatic 92, 3), (74, .putfield 33, 3), (77, .aload_n 0, 1), (78, .getfield 33, 3), (81, .iconst 2, 1), (82, .if_icmp .ne 7, 3), (85, .iload_n 2, 1), (86, .goto 10, 3), (89, .aload_n 0, 1), (90, .iload 7, 2), (92, .iload_n 3, 1), (93, .invokevirtual 96, 3), (96, .istore 9, 2), (98, .iload 9, 2), (100, .iconst (-1), 1), (101, .if_icmp .eq 16, 3), (104, .aload_n 0, 1), (105, .iload_n 2, 1), (106, .iload 9, 2), (108, .iload 7, 2), (110, .invokestatic 99, 3), (113, .invokevirtual 102, 3), (116, .ireturn, 1), (117, .iload 8, 2)]
def tbX6_wishByRules_2 : List (Nat × Instr × Nat) := [(119, .istore 5, 2), (121, .iinc 6 1, 3), (124, .goto (-112), 3), (127, .aload_n 0, 1), (128, .iconst 2, 1), (129, .putfield 33, 3), (132, .iload_n 2, 1), (133, .ireturn, 1)]
theorem tdX6_wishByRules_0 : hx_dt cX6_wishByRules tbX6_wishByRules_0 = true := by decide +kernel
theorem tdX6_wishByRules_1 : hx_dt cX6_wishByRules tbX6_wishByRules_1 = true := by decide +kernel
theorem tdX6_wishByRules_2 : hx_dt cX6_wishByRules tbX6_wishByRules_2 = true := by decide +kernel
theorem caX6_wishByRules_88 {G : hx_GT} (cA : hx_CA RX6 cX6_wishByRules 3 0 0 G) : hx_CV cX6_wishByRules G 0 0 88 6 3 sX6_holds 0 0 := cA.1 conX6_holds rfl rfl ⟨by decide +kernel, by decide +kernel, by decide +kernel⟩ mw_736 mw_738 mw_18 mw_91 mw_739 (by decide) (by decide)
theorem caX6_wishByRules_92 {G : hx_GT} (cA : hx_CA RX6 cX6_wishByRules 3 0 0 G) : hx_CS cX6_wishByRules G 0 0 92 1 sX1_verbOf 0 0 := cA.2.1 conX1_verbOf ⟨by decide +kernel, by decide +kernel, by decide +kernel⟩ mw_746 mw_747 mw_102 mw_748 (by decide) (by decide)
theorem caX6_wishByRules_96 {G : hx_GT} (cA : hx_CA RX6 cX6_wishByRules 3 0 0 G) : hx_CV cX6_wishByRules G 0 0 96 6 2 sX6_meanOf 0 0 := cA.1 conX6_meanOf rfl rfl ⟨by decide +kernel, by decide +kernel, by decide +kernel⟩ mw_749 mw_751 mw_19 mw_91 mw_752 (by decide) (by decide)
theorem caX6_wishByRules_99 {G : hx_GT} (cA : hx_CA RX6 cX6_wishByRules 3 0 0 G) : hx_CS cX6_wishByRules G 0 0 99 1 sX1_byOf 0 0 := cA.2.1 conX1_byOf ⟨by decide +kernel, by decide +kernel, by decide +kernel⟩ mw_763 mw_764 mw_102 mw_765 (by decide) (by decide)
theorem caX6_wishByRules_102 {G : hx_GT} (cA : hx_CA RX6 cX6_wishByRules 3 0 0 G) : hx_CV cX6_wishByRules G 0 0 102 6 3 sX6_goal 0 0 := cA.1 conX6_goal rfl rfl ⟨by decide +kernel, by decide +kernel, by decide +kernel⟩ mw_766 mw_768 mw_20 mw_91 mw_769 (by decide) (by decide)
def wX6_wishByRules_J117 (Λ : hx_L) (K : Int32 → hx_M → Prop) (K12 : Int32 → Int32 → hx_M → Prop) (v1 : Nat) (v2 : Int32) (v3 : Int32) (v4 : Nat) (v6 : Int32) (v8 : Int32)  (μ : hx_M) : Prop := K12 v8 (v6 + 1) μ
set_option maxRecDepth 100000 in
set_option maxHeartbeats 4000000 in
theorem kX6_wishByRules_J117 {G : hx_GT} {KK : hx_KT} (hG : hx_K cX6_wishByRules 10 0 0 (some .int) TbX6 KK G) (cA : hx_CA RX6 cX6_wishByRules 3 0 0 G) {Λ : hx_L} (hF : cF Λ) {μ : hx_M} (v1 : Nat) (v2 : Int32) (v3 : Int32) (v4 : Nat) (v6 : Int32) (v8 : Int32)  {K : Int32 → hx_M → Prop} (hK : ∀ (r : Int32) (m : hx_M), K r m → KK (some (.int r)) Λ m) {K12 : Int32 → Int32 → hx_M → Prop} (hk12 : ∀ (v5 : Int32) (v6 : Int32) (μ : hx_M), K12 v5 v6 μ → G Λ μ (0, 0) 12 [some (.ref 21), some (.ref v1), some (.int v2), some (.int v3), some (.ref v4), some (.int v5), some (.int v6), none, none, none] []) (hw : wX6_wishByRules_J117 Λ K K12 v1 v2 v3 v4 v6 v8 μ) : G Λ μ (0, 0) 117 [some (.ref 21), some (.ref v1), some (.int v2), some (.int v3), some (.ref v4), none, some (.int v6), none, some (.int v8), none] [] := by
  unfold wX6_wishByRules_J117 at hw
  exact cl_iload hG (hx_dq tdX6_wishByRules_1 31 rfl) rfl (cl_istore hG (hx_dq tdX6_wishByRules_2 0 rfl) (Nat.le_of_ble_eq_true rfl) rfl (cl_iinc hG (v6 + 1) (hx_dq tdX6_wishByRules_2 1 rfl) rfl (congrArg (fun z => v6 + z) iconst_1) (Nat.le_of_ble_eq_true rfl) rfl (cl_goto hG 12 (hx_dq tdX6_wishByRules_2 2 rfl) rfl (cl_sub hG (hx_le_c rfl (hx_le_c rfl (hx_le_c rfl (hx_le_c rfl (hx_le_c rfl (hx_le_c rfl (hx_le_c rfl (hx_le_n (hx_le_n (hx_le_n hx_le_0)))))))))) (hk12 v8 (v6 + 1) _ hw)))))
def wX6_wishByRules_J117_15 (Λ : hx_L) (K : Int32 → hx_M → Prop) (K12 : Int32 → Int32 → hx_M → Prop) (v1 : Nat) (v2 : Int32) (v3 : Int32) (v4 : Nat) (v6 : Int32) (v8 : Int32)  (μ : hx_M) : Prop := K12 v8 (v6 + 1) μ
set_option maxRecDepth 100000 in
set_option maxHeartbeats 4000000 in
theorem kX6_wishByRules_J117_15 {G : hx_GT} {KK : hx_KT} (hG : hx_K cX6_wishByRules 10 0 0 (some .int) TbX6 KK G) (cA : hx_CA RX6 cX6_wishByRules 3 0 0 G) {Λ : hx_L} (hF : cF Λ) {μ : hx_M} (v1 : Nat) (v2 : Int32) (v3 : Int32) (v4 : Nat) (v6 : Int32) (v8 : Int32)  {K : Int32 → hx_M → Prop} (hK : ∀ (r : Int32) (m : hx_M), K r m → KK (some (.int r)) Λ m) {K12 : Int32 → Int32 → hx_M → Prop} (hk12 : ∀ (v5 : Int32) (v6 : Int32) (μ : hx_M), K12 v5 v6 μ → G Λ μ (0, 0) 12 [some (.ref 21), some (.ref v1), some (.int v2), some (.int v3), some (.ref v4), some (.int v5), some (.int v6), none, none, none] []) (hw : wX6_wishByRules_J117_15 Λ K K12 v1 v2 v3 v4 v6 v8 μ) : G Λ μ (0, 0) 117 [some (.ref 21), some (.ref v1), some (.int v2), some (.int v3), some (.ref v4), none, some (.int v6), none, some (.int v8), none] [] := by
  unfold wX6_wishByRules_J117_15 at hw
  exact cl_iload hG (hx_dq tdX6_wishByRules_1 31 rfl) rfl (cl_istore hG (hx_dq tdX6_wishByRules_2 0 rfl) (Nat.le_of_ble_eq_true rfl) rfl (cl_iinc hG (v6 + 1) (hx_dq tdX6_wishByRules_2 1 rfl) rfl (congrArg (fun z => v6 + z) iconst_1) (Nat.le_of_ble_eq_true rfl) rfl (cl_goto hG 12 (hx_dq tdX6_wishByRules_2 2 rfl) rfl (cl_sub hG (hx_le_c rfl (hx_le_c rfl (hx_le_c rfl (hx_le_c rfl (hx_le_c rfl (hx_le_c rfl (hx_le_c rfl (hx_le_n (hx_le_n (hx_le_n hx_le_0)))))))))) (hk12 v8 (v6 + 1) _ hw)))))
def wX6_wishByRules_J96 (Λ : hx_L) (K : Int32 → hx_M → Prop) (K12 : Int32 → Int32 → hx_M → Prop) (v1 : Nat) (v2 : Int32) (v3 : Int32) (v4 : Nat) (v6 : Int32) (v7 : Int32) (v8 : Int32) (t0 : Int32) (μ : hx_M) : Prop := (t0 = (-1) → (wX6_wishByRules_J117_15 Λ K (K12) v1 v2 v3 v4 v6 v8 μ)) ∧ (¬ (t0 = (-1)) → (wX1_byOf v7 (fun r110_17 => wX6_goal μ v2 t0 r110_17 (fun r113_19 => K r113_19 μ))))
set_option maxRecDepth 100000 in
set_option maxHeartbeats 4000000 in
theorem kX6_wishByRules_J96 {G : hx_GT} {KK : hx_KT} (hG : hx_K cX6_wishByRules 10 0 0 (some .int) TbX6 KK G) (cA : hx_CA RX6 cX6_wishByRules 3 0 0 G) {Λ : hx_L} (hF : cF Λ) {μ : hx_M} (v1 : Nat) (v2 : Int32) (v3 : Int32) (v4 : Nat) (v6 : Int32) (v7 : Int32) (v8 : Int32) (t0 : Int32) {K : Int32 → hx_M → Prop} (hK : ∀ (r : Int32) (m : hx_M), K r m → KK (some (.int r)) Λ m) {K12 : Int32 → Int32 → hx_M → Prop} (hk12 : ∀ (v5 : Int32) (v6 : Int32) (μ : hx_M), K12 v5 v6 μ → G Λ μ (0, 0) 12 [some (.ref 21), some (.ref v1), some (.int v2), some (.int v3), some (.ref v4), some (.int v5), some (.int v6), none, none, none] []) (hw : wX6_wishByRules_J96 Λ K K12 v1 v2 v3 v4 v6 v7 v8 t0 μ) : G Λ μ (0, 0) 96 [some (.ref 21), some (.ref v1), some (.int v2), some (.int v3), some (.ref v4), none, some (.int v6), some (.int v7), some (.int v8), none] [.int t0] := by
  unfold wX6_wishByRules_J96 at hw
  refine cl_istore hG (hx_dq tdX6_wishByRules_1 20 rfl) (Nat.le_of_ble_eq_true rfl) rfl (cl_iload hG (hx_dq tdX6_wishByRules_1 21 rfl) rfl (cl_iconst hG (-1) (hx_dq tdX6_wishByRules_1 22 rfl) iconst_m1 (cl_icmp_eq hG 117 (hx_dq tdX6_wishByRules_1 23 rfl) rfl (fun c101 => ?_) (fun c101 => ?_))))
  · replace hw := hw.1 c101
    exact cl_sub hG (hx_le_c rfl (hx_le_c rfl (hx_le_c rfl (hx_le_c rfl (hx_le_c rfl (hx_le_n (hx_le_c rfl (hx_le_n (hx_le_c rfl (hx_le_n hx_le_0)))))))))) (kX6_wishByRules_J117_15 hG cA hF v1 v2 v3 v4 v6 v8 hK (fun z0 z1 z2 hw => hk12 z0 z1 z2 hw) hw)
  · replace hw := hw.2 c101
    refine cl_aload_n hG (hx_dq tdX6_wishByRules_1 24 rfl) rfl (cl_iload_n hG (hx_dq tdX6_wishByRules_1 25 rfl) rfl (cl_iload hG (hx_dq tdX6_wishByRules_1 26 rfl) rfl (cl_iload hG (hx_dq tdX6_wishByRules_1 27 rfl) rfl (cl_callS1 (caX6_wishByRules_99 cA) (hx_dq tdX6_wishByRules_1 28 rfl) (Nat.le_of_ble_eq_true rfl) (Nat.le_refl _) (Nat.le_refl _) (sX1_byOf_mk hw (fun r110_17 hw => ?_))))))
    refine cl_callV3 (caX6_wishByRules_102 cA) (hx_dq tdX6_wishByRules_1 29 rfl) (cF_S21 hF) (Nat.le_of_ble_eq_true rfl) (Nat.le_refl _) (Nat.le_refl _) (sX6_goal_mk hF hw (fun r113_19 hw => ?_))
    exact cl_iret hG (hx_dq tdX6_wishByRules_1 30 rfl) rfl rfl (hK _ _ hw) (Nat.le_refl _) (Nat.le_refl _)
def wX6_wishByRules_L12 (Λ : hx_L) (v1 : Nat) (v2 : Int32) (v3 : Int32) (v4 : Nat) (K : Int32 → hx_M → Prop)  : Nat → Int32 → Int32 → hx_M → Prop
  | 0, _, _, _ => False
  | n + 1, v5, v6, μ => Λ.1 v1 = (0, 1) ∧ ((μ.1 v1 1) ≤ v6 → (K v2 (hx_sI μ 21 5 2))) ∧ (¬ ((μ.1 v1 1) ≤ v6) → (∃ n27_5, Λ.1 v4 = (1, n27_5) ∧ ((Int32.ofNat n27_5) ≤ (v5 + 1) → (K v2 (hx_sI μ 21 5 2))) ∧ (¬ ((Int32.ofNat n27_5) ≤ (v5 + 1)) → (vp_in v5 n27_5 ∧ vp_in (v5 + 1) n27_5 ∧ ∀ x_8 : Int32, x_8 = (if (Int32.ofNat n27_5) < ((μ.1 v4 ((v5 + 1).toNatClampNeg))) then (Int32.ofNat n27_5) else ((μ.1 v4 ((v5 + 1).toNatClampNeg)))) → wX6_holds Λ μ v4 (v5 + 2) x_8 (fun r62_10 => (r62_10 = 0 → (wX6_wishByRules_J117 Λ K (wX6_wishByRules_L12 Λ v1 v2 v3 v4 K n) v1 v2 v3 v4 v6 x_8 μ)) ∧ (¬ (r62_10 = 0) → (wX1_verbOf (μ.1 v4 v5.toNatClampNeg) (fun r71_12 => (r71_12 ≠ 2 → (wX6_meanOf (hx_sI μ 21 5 r71_12) (μ.1 v4 v5.toNatClampNeg) v3 (fun r93_14 => wX6_wishByRules_J96 Λ K (wX6_wishByRules_L12 Λ v1 v2 v3 v4 K n) v1 v2 v3 v4 v6 (μ.1 v4 v5.toNatClampNeg) x_8 r93_14 (hx_sI μ 21 5 r71_12)))) ∧ (r71_12 = 2 → (wX6_wishByRules_J96 Λ K (wX6_wishByRules_L12 Λ v1 v2 v3 v4 K n) v1 v2 v3 v4 v6 (μ.1 v4 v5.toNatClampNeg) x_8 v2 (hx_sI μ 21 5 r71_12)))))))))))
set_option maxRecDepth 100000 in
set_option maxHeartbeats 4000000 in
theorem kX6_wishByRules_L12 {G : hx_GT} {KK : hx_KT} (hG : hx_K cX6_wishByRules 10 0 0 (some .int) TbX6 KK G) (cA : hx_CA RX6 cX6_wishByRules 3 0 0 G) {Λ : hx_L} (hF : cF Λ)  (v1 : Nat) (v2 : Int32) (v3 : Int32) (v4 : Nat) {K : Int32 → hx_M → Prop} (hK : ∀ (r : Int32) (m : hx_M), K r m → KK (some (.int r)) Λ m)  : ∀ (n : Nat) (v5 : Int32) (v6 : Int32) (μ : hx_M), wX6_wishByRules_L12 Λ v1 v2 v3 v4 K n v5 v6 μ → G Λ μ (0, 0) 12 [some (.ref 21), some (.ref v1), some (.int v2), some (.int v3), some (.ref v4), some (.int v5), some (.int v6), none, none, none] [] := by
  intro n
  induction n with
  | zero =>
    intro v5 v6 μ hw
    exact False.elim (by simpa only [wX6_wishByRules_L12] using hw)
  | succ n ih =>
    intro v5 v6 μ hw
    unfold wX6_wishByRules_L12 at hw
    obtain ⟨o15_3, hw⟩ := hw
    refine cl_iload hG (hx_dq tdX6_wishByRules_0 7 rfl) rfl (cl_aload_n hG (hx_dq tdX6_wishByRules_0 8 rfl) rfl (cl_getF hG fmX6_82 (hx_dq tdX6_wishByRules_0 9 rfl) o15_3 (cl_icmp_ge hG 127 (hx_dq tdX6_wishByRules_0 10 rfl) rfl (fun c18 => ?_) (fun c18 => ?_))))
    · replace hw := hw.1 c18
      exact cl_aload_n hG (hx_dq tdX6_wishByRules_2 3 rfl) rfl (cl_iconst hG 2 (hx_dq tdX6_wishByRules_2 4 rfl) iconst_2 (cl_putI hG fmX6_33 (hx_dq tdX6_wishByRules_2 5 rfl) (cF_S21 hF) (cl_iload_n hG (hx_dq tdX6_wishByRules_2 6 rfl) rfl (cl_iret hG (hx_dq tdX6_wishByRules_2 7 rfl) rfl rfl (hK _ _ hw) (Nat.le_refl _) (Nat.le_refl _)))))
    · replace hw := hw.2 c18
      obtain ⟨n27_5, o27_4, hw⟩ := hw
      refine cl_iload hG (hx_dq tdX6_wishByRules_0 11 rfl) rfl (cl_iconst hG 1 (hx_dq tdX6_wishByRules_0 12 rfl) iconst_1 (cl_iadd hG (hx_dq tdX6_wishByRules_0 13 rfl) (cl_aload hG (hx_dq tdX6_wishByRules_0 14 rfl) rfl (cl_alenI hG (hx_dq tdX6_wishByRules_0 15 rfl) o27_4 (cl_icmp_ge hG 127 (hx_dq tdX6_wishByRules_0 16 rfl) rfl (fun c28 => ?_) (fun c28 => ?_))))))
      · replace hw := hw.1 c28
        exact cl_aload_n hG (hx_dq tdX6_wishByRules_2 3 rfl) rfl (cl_iconst hG 2 (hx_dq tdX6_wishByRules_2 4 rfl) iconst_2 (cl_putI hG fmX6_33 (hx_dq tdX6_wishByRules_2 5 rfl) (cF_S21 hF) (cl_iload_n hG (hx_dq tdX6_wishByRules_2 6 rfl) rfl (cl_iret hG (hx_dq tdX6_wishByRules_2 7 rfl) rfl rfl (hK _ _ hw) (Nat.le_refl _) (Nat.le_refl _)))))
      · replace hw := hw.2 c28
        obtain ⟨i35_6, hw⟩ := hw
        obtain ⟨i44_7, hw⟩ := hw
        refine cl_aload hG (hx_dq tdX6_wishByRules_0 17 rfl) rfl (cl_iload hG (hx_dq tdX6_wishByRules_0 18 rfl) rfl (cl_iald hG (hx_dq tdX6_wishByRules_0 19 rfl) o27_4 i35_6 (cl_istore hG (hx_dq tdX6_wishByRules_0 20 rfl) (Nat.le_of_ble_eq_true rfl) rfl (cl_aload hG (hx_dq tdX6_wishByRules_0 21 rfl) rfl (cl_iload hG (hx_dq tdX6_wishByRules_0 22 rfl) rfl (cl_iconst hG 1 (hx_dq tdX6_wishByRules_0 23 rfl) iconst_1 (cl_iadd hG (hx_dq tdX6_wishByRules_0 24 rfl) (cl_iald hG (hx_dq tdX6_wishByRules_0 25 rfl) o27_4 i44_7 (cl_aload hG (hx_dq tdX6_wishByRules_0 26 rfl) rfl (cl_alenI hG (hx_dq tdX6_wishByRules_0 27 rfl) o27_4 (cl_mmin hG mmX6_85 (hx_dq tdX6_wishByRules_0 28 rfl) (Nat.le_refl _) (Nat.le_refl _) (Nat.le_of_ble_eq_true rfl) (cl_nmI (fun x_8 e_8 => ?_)))))))))))))
        replace hw := hw x_8 e_8
        refine cl_istore hG (hx_dq tdX6_wishByRules_0 29 rfl) (Nat.le_of_ble_eq_true rfl) rfl (cl_aload_n hG (hx_dq tdX6_wishByRules_0 30 rfl) rfl (cl_aload hG (hx_dq tdX6_wishByRules_0 31 rfl) rfl (cl_iload hG (hx_dq tdX6_wishByRules_1 0 rfl) rfl (cl_iconst hG 2 (hx_dq tdX6_wishByRules_1 1 rfl) iconst_2 (cl_iadd hG (hx_dq tdX6_wishByRules_1 2 rfl) (cl_iload hG (hx_dq tdX6_wishByRules_1 3 rfl) rfl (cl_callV3 (caX6_wishByRules_88 cA) (hx_dq tdX6_wishByRules_1 4 rfl) (cF_S21 hF) (Nat.le_of_ble_eq_true rfl) (Nat.le_refl _) (Nat.le_refl _) (sX6_holds_mk hF hw (fun r62_10 hw => ?_)))))))))
        refine cl_if_eq hG 117 (hx_dq tdX6_wishByRules_1 5 rfl) rfl (fun c65 => ?_) (fun c65 => ?_)
        · replace hw := hw.1 c65
          exact cl_sub hG (hx_le_c rfl (hx_le_c rfl (hx_le_c rfl (hx_le_c rfl (hx_le_c rfl (hx_le_n (hx_le_c rfl (hx_le_n (hx_le_c rfl (hx_le_n hx_le_0)))))))))) (kX6_wishByRules_J117 hG cA hF v1 v2 v3 v4 v6 x_8 hK (fun z0 z1 z2 hw => ih z0 z1 z2 hw) hw)
        · replace hw := hw.2 c65
          refine cl_aload_n hG (hx_dq tdX6_wishByRules_1 6 rfl) rfl (cl_iload hG (hx_dq tdX6_wishByRules_1 7 rfl) rfl (cl_callS1 (caX6_wishByRules_92 cA) (hx_dq tdX6_wishByRules_1 8 rfl) (Nat.le_of_ble_eq_true rfl) (Nat.le_refl _) (Nat.le_refl _) (sX1_verbOf_mk hw (fun r71_12 hw => ?_))))
          refine cl_putI hG fmX6_33 (hx_dq tdX6_wishByRules_1 9 rfl) (cF_S21 hF) (cl_aload_n hG (hx_dq tdX6_wishByRules_1 10 rfl) rfl (cl_getI hG fmX6_33 (hx_dq tdX6_wishByRules_1 11 rfl) (cF_S21 hF) (cl_iconst hG 2 (hx_dq tdX6_wishByRules_1 12 rfl) iconst_2 (cl_icmp_ne hG 89 (hx_dq tdX6_wishByRules_1 13 rfl) rfl (fun c82 => ?_) (fun c82 => ?_)))))
          · replace hw := hw.1 c82
            refine cl_aload_n hG (hx_dq tdX6_wishByRules_1 16 rfl) rfl (cl_iload hG (hx_dq tdX6_wishByRules_1 17 rfl) rfl (cl_iload_n hG (hx_dq tdX6_wishByRules_1 18 rfl) rfl (cl_callV2 (caX6_wishByRules_96 cA) (hx_dq tdX6_wishByRules_1 19 rfl) (cF_S21 hF) (Nat.le_of_ble_eq_true rfl) (Nat.le_refl _) (Nat.le_refl _) (sX6_meanOf_mk hF hw (fun r93_14 hw => ?_)))))
            exact cl_sub hG (hx_le_c rfl (hx_le_c rfl (hx_le_c rfl (hx_le_c rfl (hx_le_c rfl (hx_le_n (hx_le_c rfl (hx_le_c rfl (hx_le_c rfl (hx_le_n hx_le_0)))))))))) (kX6_wishByRules_J96 hG cA hF v1 v2 v3 v4 v6 (μ.1 v4 v5.toNatClampNeg) x_8 r93_14 hK (fun z0 z1 z2 hw => ih z0 z1 z2 hw) hw)
          · replace hw := hw.2 c82
            refine cl_iload_n hG (hx_dq tdX6_wishByRules_1 14 rfl) rfl (cl_goto hG 96 (hx_dq tdX6_wishByRules_1 15 rfl) rfl ?_)
            exact cl_sub hG (hx_le_c rfl (hx_le_c rfl (hx_le_c rfl (hx_le_c rfl (hx_le_c rfl (hx_le_n (hx_le_c rfl (hx_le_c rfl (hx_le_c rfl (hx_le_n hx_le_0)))))))))) (kX6_wishByRules_J96 hG cA hF v1 v2 v3 v4 v6 (μ.1 v4 v5.toNatClampNeg) x_8 v2 hK (fun z0 z1 z2 hw => ih z0 z1 z2 hw) hw)
def wX6_wishByRules (Λ : hx_L) (μ : hx_M) (v1 : Nat) (v2 : Int32) (v3 : Int32) (K : Int32 → hx_M → Prop) : Prop := Λ.1 v1 = (0, 1) ∧ ∃ k1_2, Λ.2.1 v1 0 = some k1_2 ∧ ∃ n12_20, wX6_wishByRules_L12 Λ v1 v2 v3 k1_2 K n12_20 0 0 μ
set_option maxRecDepth 100000 in
set_option maxHeartbeats 4000000 in
theorem kX6_wishByRules {G : hx_GT} {KK : hx_KT} (hG : hx_K cX6_wishByRules 10 0 0 (some .int) TbX6 KK G) (cA : hx_CA RX6 cX6_wishByRules 3 0 0 G) {Λ : hx_L} (hF : cF Λ) {μ : hx_M} (v1 : Nat) (v2 : Int32) (v3 : Int32) {K : Int32 → hx_M → Prop} (hK : ∀ (r : Int32) (m : hx_M), K r m → KK (some (.int r)) Λ m) (hw : wX6_wishByRules Λ μ v1 v2 v3 K) : G Λ μ (0, 0) 0 [some (.ref 21), some (.ref v1), some (.int v2), some (.int v3), none, none, none, none, none, none] [] := by
  unfold wX6_wishByRules at hw
  obtain ⟨o1_1, hw⟩ := hw
  obtain ⟨k1_2, zk1_2, hw⟩ := hw
  refine cl_aload_n hG (hx_dq tdX6_wishByRules_0 0 rfl) rfl (cl_getS hG fmX6_79 (hx_dq tdX6_wishByRules_0 1 rfl) o1_1 zk1_2 (cl_astore hG (hx_dq tdX6_wishByRules_0 2 rfl) (Nat.le_of_ble_eq_true rfl) rfl (cl_iconst hG 0 (hx_dq tdX6_wishByRules_0 3 rfl) iconst_0 (cl_istore hG (hx_dq tdX6_wishByRules_0 4 rfl) (Nat.le_of_ble_eq_true rfl) rfl (cl_iconst hG 0 (hx_dq tdX6_wishByRules_0 5 rfl) iconst_0 (cl_istore hG (hx_dq tdX6_wishByRules_0 6 rfl) (Nat.le_of_ble_eq_true rfl) rfl ?_))))))
  obtain ⟨n_, hw⟩ := hw
  refine cl_sub hG (hx_le_c rfl (hx_le_c rfl (hx_le_c rfl (hx_le_c rfl (hx_le_c rfl (hx_le_c rfl (hx_le_c rfl (hx_le_n (hx_le_n (hx_le_n hx_le_0)))))))))) (kX6_wishByRules_L12 hG cA hF v1 v2 v3 k1_2 hK n_ 0 0 _ hw)
def sX6_wishByRules : hx_ST := fun Λ μ as KK => cF Λ ∧ ∃ (v1 : Nat) (v2 : Int32) (v3 : Int32) (K : Int32 → hx_M → Prop), as = [.ref 21, .ref v1, .int v2, .int v3] ∧ wX6_wishByRules Λ μ v1 v2 v3 K ∧ (∀ (r : Int32) (m : hx_M), K r m → KK (some (.int r)) Λ m)
theorem sX6_wishByRules_mk {Λ : hx_L} {μ : hx_M} {KK : hx_KT} {v1 : Nat} {v2 : Int32} {v3 : Int32} {K : Int32 → hx_M → Prop} (hF : cF Λ) (hw : wX6_wishByRules Λ μ v1 v2 v3 K) (hk : ∀ (r : Int32) (m : hx_M), K r m → KK (some (.int r)) Λ m) : sX6_wishByRules Λ μ [.ref 21, .ref v1, .int v2, .int v3] KK := ⟨hF, _, _, _, _, rfl, hw, hk⟩
theorem conX6_wishByRules : hx_Con yX6_wishByRules cX6_wishByRules 10 (some .int) 3 0 0 sX6_wishByRules := by
  refine hx_con_of (by decide +kernel) tokX6 (by decide) ?_ ?_
  · intro Λ μ as KK h
    obtain ⟨hF, v1, v2, v3, K, rfl, hw, hK⟩ := h
    exact Nat.le_of_ble_eq_true rfl
  · intro G KK hG cA Λ μ as h
    obtain ⟨hF, v1, v2, v3, K, rfl, hw, hK⟩ := h
    exact cl_sub hG (hx_le_c rfl (hx_le_c rfl (hx_le_c rfl (hx_le_c rfl (hx_le_n (hx_le_n (hx_le_n (hx_le_n (hx_le_n (hx_le_n hx_le_0)))))))))) (kX6_wishByRules hG cA hF _ _ _ hK hw)
/-! HemLine$Reckoner.wishOf(LHemLine$Law;IIIII)I -/
def tbX6_wishOf_0 : List (Nat × Instr × Nat) := [(0, .aload_n 0, 1), (1, .getfield 15, 3), (4, .iload_n 2, 1), (5, .iload_n 3, 1), (6, .iconst 1, 1), (7, .isub, 1), (8, .invokevirtual 37, 3), (11, .istore 7, 2), (13, .aload_n 0, 1), (14, .getfield 21, 3), (17, .iconst 0, 1), (18, .iload_n 3, 1), (19, .iastore, 1), (20, .aload_n 0, 1), (21, .getfield 21, 3), (24, .iconst 1, 1), (25, .iload 7, 2), (27, .iastore, 1), (28, .aload_n 0, 1), (29, .getfield 21, 3), (32, .iconst 2, 1), (33, .aload_n 0, 1), (34, .getfield 9, 3), (37, .getfield 43, 3), (40, .iload_n 2, 1), (41, .iaload, 1), (42, .iastore, 1), (43, .aload_n 0, 1), (44, .getfield 21, 3), (47, .iconst 3, 1), (48, .iload 4, 2), (50, .iastore, 1)]
def tbX6_wishOf_1 : List (Nat × Instr × Nat) := [(51, .aload_n 0, 1), (52, .getfield 21, 3), (55, .iconst 4, 1), (56, .aload_n 0, 1), (57, .getfield 9, 3), (60, .getfield 48, 3), (63, .iload_n 2, 1), (64, .iaload, 1), (65, .iastore, 1), (66, .aload_n 0, 1), (67, .getfield 21, 3), (70, .iconst 5, 1), (71, .aload_n 0, 1), (72, .getfield 15, 3), (75, .getfield 51, 3), (78, .iload_n 3, 1), (79, .iconst 1, 1), (80, .isub, 1), (81, .iaload, 1), (82, .iastore, 1), (83, .aload_n 0, 1), (84, .getfield 21, 3), (87, .bipush 6, 2), (89, .iload 6, 2), (91, .iastore, 1), (92, .aload_n 0, 1), (93, .getfield 21, 3), (96, .bipush 7, 2), (98, .iload 5, 2), (100, .iastore, 1), (101, .aload_n 0, 1), (102, .iload_n 2, 1)]
def tbX6_wishOf_2 : List (Nat × Instr × Nat) := [(103, .iload_n 3, 1), (104, .iconst 1, 1), (105, .isub, 1), (106, .invokevirtual 54, 3), (109, .iconst 0, 1), (110, .istore 8, 2), (112, .iload 8, 2), (114, .iconst 3, 1), (115, .if_icmp .gt 30, 3), (118, .aload_n 0, 1), (119, .getfield 21, 3), (122, .bipush 8, 2), (124, .iload 8, 2), (126, .iadd, 1), (127, .iconst 0, 1), (128, .aload_n 0, 1), (129, .getfield 30, 3), (132, .iload 8, 2), (134, .iaload, 1), (135, .invokestatic 58, 3), (138, .iastore, 1), (139, .iinc 8 1, 3), (142, .goto (-30), 3), (145, .aload_n 0, 1), (146, .aload_n 1, 1), (147, .iload 7, 2), (149, .iload_n 3, 1), (150, .iconst 1, 1), (151, .isub, 1), (152, .invokevirtual 63, 3), (155, .ireturn, 1)]
theorem tdX6_wishOf_0 : hx_dt cX6_wishOf tbX6_wishOf_0 = true := by decide +kernel
theorem tdX6_wishOf_1 : hx_dt cX6_wishOf tbX6_wishOf_1 = true := by decide +kernel
theorem tdX6_wishOf_2 : hx_dt cX6_wishOf tbX6_wishOf_2 = true := by decide +kernel
theorem caX6_wishOf_37 {G : hx_GT} (cA : hx_CA RX6 cX6_wishOf 4 0 0 G) : hx_CV cX6_wishOf G 0 0 37 3 2 sX3_lengthOf 0 0 := cA.1 conX3_lengthOf rfl rfl ⟨by decide +kernel, by decide +kernel, by decide +kernel⟩ mw_724 mw_717 mw_718 mw_88 mw_719 (by decide) (by decide)
theorem caX6_wishOf_54 {G : hx_GT} (cA : hx_CA RX6 cX6_wishOf 4 0 0 G) : hx_CV cX6_wishOf G 0 0 54 6 2 sX6_look 0 0 := cA.1 conX6_look rfl rfl ⟨by decide +kernel, by decide +kernel, by decide +kernel⟩ mw_725 mw_726 mw_727 mw_91 mw_728 (by decide) (by decide)
theorem caX6_wishOf_63 {G : hx_GT} (cA : hx_CA RX6 cX6_wishOf 4 0 0 G) : hx_CV cX6_wishOf G 0 0 63 6 3 sX6_wishByRules 0 0 := cA.1 conX6_wishByRules rfl rfl ⟨by decide +kernel, by decide +kernel, by decide +kernel⟩ mw_731 mw_733 mw_17 mw_91 mw_734 (by decide) (by decide)
def wX6_wishOf_L112 (Λ : hx_L) (v1 : Nat) (v3 : Int32) (v7 : Int32) (K : Int32 → hx_M → Prop) (K145 : hx_M → Prop) : Nat → Int32 → hx_M → Prop
  | 0, _, _ => False
  | n + 1, v8, μ => (3 < v8 → (K145 μ)) ∧ (¬ (3 < v8) → (vp_in v8 4 ∧ ∀ x_19 : Int32, x_19 = (if 0 < (μ.1 24 v8.toNatClampNeg) then (μ.1 24 v8.toNatClampNeg) else 0) → vp_in (8 + v8) 12 ∧ wX6_wishOf_L112 Λ v1 v3 v7 K K145 n (v8 + 1) (hx_sI μ 22 ((8 + v8).toNatClampNeg) x_19)))
set_option maxRecDepth 100000 in
set_option maxHeartbeats 4000000 in
theorem kX6_wishOf_L112 {G : hx_GT} {KK : hx_KT} (hG : hx_K cX6_wishOf 9 0 0 (some .int) TbX6 KK G) (cA : hx_CA RX6 cX6_wishOf 4 0 0 G) {Λ : hx_L} (hF : cF Λ)  (v1 : Nat) (v3 : Int32) (v7 : Int32) {K : Int32 → hx_M → Prop} (hK : ∀ (r : Int32) (m : hx_M), K r m → KK (some (.int r)) Λ m) {K145 : hx_M → Prop} (hk145 : ∀ (μ : hx_M), K145 μ → G Λ μ (0, 0) 145 [some (.ref 21), some (.ref v1), none, some (.int v3), none, none, none, some (.int v7), none] []) : ∀ (n : Nat) (v8 : Int32) (μ : hx_M), wX6_wishOf_L112 Λ v1 v3 v7 K K145 n v8 μ → G Λ μ (0, 0) 112 [some (.ref 21), some (.ref v1), none, some (.int v3), none, none, none, some (.int v7), some (.int v8)] [] := by
  intro n
  induction n with
  | zero =>
    intro v8 μ hw
    exact False.elim (by simpa only [wX6_wishOf_L112] using hw)
  | succ n ih =>
    intro v8 μ hw
    unfold wX6_wishOf_L112 at hw
    refine cl_iload hG (hx_dq tdX6_wishOf_2 6 rfl) rfl (cl_iconst hG 3 (hx_dq tdX6_wishOf_2 7 rfl) iconst_3 (cl_icmp_gt hG 145 (hx_dq tdX6_wishOf_2 8 rfl) rfl (fun c115 => ?_) (fun c115 => ?_)))
    · replace hw := hw.1 c115
      exact cl_sub hG (hx_le_c rfl (hx_le_c rfl (hx_le_n (hx_le_c rfl (hx_le_n (hx_le_n (hx_le_n (hx_le_c rfl (hx_le_n hx_le_0))))))))) (hk145 _ hw)
    · replace hw := hw.2 c115
      obtain ⟨i134_18, hw⟩ := hw
      refine cl_aload_n hG (hx_dq tdX6_wishOf_2 9 rfl) rfl (cl_getS hG fmX6_21 (hx_dq tdX6_wishOf_2 10 rfl) (cF_S21 hF) (cF_R21_2 hF) (cl_bipush hG 8 (hx_dq tdX6_wishOf_2 11 rfl) bipush_8 (cl_iload hG (hx_dq tdX6_wishOf_2 12 rfl) rfl (cl_iadd hG (hx_dq tdX6_wishOf_2 13 rfl) (cl_iconst hG 0 (hx_dq tdX6_wishOf_2 14 rfl) iconst_0 (cl_aload_n hG (hx_dq tdX6_wishOf_2 15 rfl) rfl (cl_getS hG fmX6_30 (hx_dq tdX6_wishOf_2 16 rfl) (cF_S21 hF) (cF_R21_4 hF) (cl_iload hG (hx_dq tdX6_wishOf_2 17 rfl) rfl (cl_iald hG (hx_dq tdX6_wishOf_2 18 rfl) (cF_S24 hF) i134_18 (cl_mmax hG mmX6_58 (hx_dq tdX6_wishOf_2 19 rfl) (Nat.le_refl _) (Nat.le_refl _) (Nat.le_of_ble_eq_true rfl) (cl_nmI (fun x_19 e_19 => ?_))))))))))))
      replace hw := hw x_19 e_19
      obtain ⟨i138_20, hw⟩ := hw
      exact cl_iast hG (hx_dq tdX6_wishOf_2 20 rfl) (cF_S22 hF) i138_20 (cl_iinc hG (v8 + 1) (hx_dq tdX6_wishOf_2 21 rfl) rfl (congrArg (fun z => v8 + z) iconst_1) (Nat.le_of_ble_eq_true rfl) rfl (cl_goto hG 112 (hx_dq tdX6_wishOf_2 22 rfl) rfl (cl_sub hG (hx_le_c rfl (hx_le_c rfl (hx_le_n (hx_le_c rfl (hx_le_n (hx_le_n (hx_le_n (hx_le_c rfl (hx_le_c rfl hx_le_0))))))))) (ih (v8 + 1) _ hw))))
def wX6_wishOf (Λ : hx_L) (μ : hx_M) (v1 : Nat) (v2 : Int32) (v3 : Int32) (v4 : Int32) (v5 : Int32) (v6 : Int32) (K : Int32 → hx_M → Prop) : Prop := wX3_lengthOf μ v2 (v3 - 1) (fun r8_2 => vp_in 0 12 ∧ vp_in 1 12 ∧ vp_in v2 16 ∧ vp_in 2 12 ∧ ∀ m_7 : hx_M, m_7 = (hx_sI (hx_sI (hx_sI μ 22 ((0 : Int32).toNatClampNeg) v3) 22 ((1 : Int32).toNatClampNeg) r8_2) 22 ((2 : Int32).toNatClampNeg) (μ.1 10 v2.toNatClampNeg)) → vp_in 3 12 ∧ vp_in v2 16 ∧ vp_in 4 12 ∧ vp_in (v3 - 1) 301 ∧ vp_in 5 12 ∧ ∀ m_13 : hx_M, m_13 = (hx_sI (hx_sI (hx_sI m_7 22 ((3 : Int32).toNatClampNeg) v4) 22 ((4 : Int32).toNatClampNeg) (m_7.1 9 v2.toNatClampNeg)) 22 ((5 : Int32).toNatClampNeg) ((m_7.1 20 ((v3 - 1).toNatClampNeg)))) → vp_in 6 12 ∧ vp_in 7 12 ∧ wX6_look Λ (hx_sI (hx_sI m_13 22 ((6 : Int32).toNatClampNeg) v6) 22 ((7 : Int32).toNatClampNeg) v5) v2 (v3 - 1) (fun m106_16 => ∃ n112_24, wX6_wishOf_L112 Λ v1 v3 r8_2 K (fun m_21 => wX6_wishByRules Λ m_21 v1 r8_2 (v3 - 1) (fun r152_23 m152_22 => K r152_23 m152_22)) n112_24 0 m106_16))
set_option maxRecDepth 100000 in
set_option maxHeartbeats 4000000 in
theorem kX6_wishOf {G : hx_GT} {KK : hx_KT} (hG : hx_K cX6_wishOf 9 0 0 (some .int) TbX6 KK G) (cA : hx_CA RX6 cX6_wishOf 4 0 0 G) {Λ : hx_L} (hF : cF Λ) {μ : hx_M} (v1 : Nat) (v2 : Int32) (v3 : Int32) (v4 : Int32) (v5 : Int32) (v6 : Int32) {K : Int32 → hx_M → Prop} (hK : ∀ (r : Int32) (m : hx_M), K r m → KK (some (.int r)) Λ m) (hw : wX6_wishOf Λ μ v1 v2 v3 v4 v5 v6 K) : G Λ μ (0, 0) 0 [some (.ref 21), some (.ref v1), some (.int v2), some (.int v3), some (.int v4), some (.int v5), some (.int v6), none, none] [] := by
  unfold wX6_wishOf at hw
  refine cl_aload_n hG (hx_dq tdX6_wishOf_0 0 rfl) rfl (cl_getS hG fmX6_15 (hx_dq tdX6_wishOf_0 1 rfl) (cF_S21 hF) (cF_R21_1 hF) (cl_iload_n hG (hx_dq tdX6_wishOf_0 2 rfl) rfl (cl_iload_n hG (hx_dq tdX6_wishOf_0 3 rfl) rfl (cl_iconst hG 1 (hx_dq tdX6_wishOf_0 4 rfl) iconst_1 (cl_isub hG (hx_dq tdX6_wishOf_0 5 rfl) (cl_callV2 (caX6_wishOf_37 cA) (hx_dq tdX6_wishOf_0 6 rfl) (cF_S15 hF) (Nat.le_of_ble_eq_true rfl) (Nat.le_refl _) (Nat.le_refl _) (sX3_lengthOf_mk hF hw (fun r8_2 hw => ?_))))))))
  obtain ⟨i19_3, hw⟩ := hw
  obtain ⟨i27_4, hw⟩ := hw
  obtain ⟨i41_5, hw⟩ := hw
  obtain ⟨i42_6, hw⟩ := hw
  refine cl_istore hG (hx_dq tdX6_wishOf_0 7 rfl) (Nat.le_of_ble_eq_true rfl) rfl (cl_aload_n hG (hx_dq tdX6_wishOf_0 8 rfl) rfl (cl_getS hG fmX6_21 (hx_dq tdX6_wishOf_0 9 rfl) (cF_S21 hF) (cF_R21_2 hF) (cl_iconst hG 0 (hx_dq tdX6_wishOf_0 10 rfl) iconst_0 (cl_iload_n hG (hx_dq tdX6_wishOf_0 11 rfl) rfl (cl_iast hG (hx_dq tdX6_wishOf_0 12 rfl) (cF_S22 hF) i19_3 (cl_aload_n hG (hx_dq tdX6_wishOf_0 13 rfl) rfl (cl_getS hG fmX6_21 (hx_dq tdX6_wishOf_0 14 rfl) (cF_S21 hF) (cF_R21_2 hF) (cl_iconst hG 1 (hx_dq tdX6_wishOf_0 15 rfl) iconst_1 (cl_iload hG (hx_dq tdX6_wishOf_0 16 rfl) rfl (cl_iast hG (hx_dq tdX6_wishOf_0 17 rfl) (cF_S22 hF) i27_4 (cl_aload_n hG (hx_dq tdX6_wishOf_0 18 rfl) rfl (cl_getS hG fmX6_21 (hx_dq tdX6_wishOf_0 19 rfl) (cF_S21 hF) (cF_R21_2 hF) (cl_iconst hG 2 (hx_dq tdX6_wishOf_0 20 rfl) iconst_2 (cl_aload_n hG (hx_dq tdX6_wishOf_0 21 rfl) rfl (cl_getS hG fmX6_9 (hx_dq tdX6_wishOf_0 22 rfl) (cF_S21 hF) (cF_R21_0 hF) (cl_getS hG fmX6_43 (hx_dq tdX6_wishOf_0 23 rfl) (cF_S8 hF) (cF_R8_2 hF) (cl_iload_n hG (hx_dq tdX6_wishOf_0 24 rfl) rfl (cl_iald hG (hx_dq tdX6_wishOf_0 25 rfl) (cF_S10 hF) i41_5 (cl_iast hG (hx_dq tdX6_wishOf_0 26 rfl) (cF_S22 hF) i42_6 (cl_nmM (fun m_7 e_7 => ?_)))))))))))))))))))))
  replace hw := hw m_7 e_7
  obtain ⟨i50_8, hw⟩ := hw
  obtain ⟨i64_9, hw⟩ := hw
  obtain ⟨i65_10, hw⟩ := hw
  obtain ⟨i81_11, hw⟩ := hw
  obtain ⟨i82_12, hw⟩ := hw
  refine cl_aload_n hG (hx_dq tdX6_wishOf_0 27 rfl) rfl (cl_getS hG fmX6_21 (hx_dq tdX6_wishOf_0 28 rfl) (cF_S21 hF) (cF_R21_2 hF) (cl_iconst hG 3 (hx_dq tdX6_wishOf_0 29 rfl) iconst_3 (cl_iload hG (hx_dq tdX6_wishOf_0 30 rfl) rfl (cl_iast hG (hx_dq tdX6_wishOf_0 31 rfl) (cF_S22 hF) i50_8 (cl_aload_n hG (hx_dq tdX6_wishOf_1 0 rfl) rfl (cl_getS hG fmX6_21 (hx_dq tdX6_wishOf_1 1 rfl) (cF_S21 hF) (cF_R21_2 hF) (cl_iconst hG 4 (hx_dq tdX6_wishOf_1 2 rfl) iconst_4 (cl_aload_n hG (hx_dq tdX6_wishOf_1 3 rfl) rfl (cl_getS hG fmX6_9 (hx_dq tdX6_wishOf_1 4 rfl) (cF_S21 hF) (cF_R21_0 hF) (cl_getS hG fmX6_48 (hx_dq tdX6_wishOf_1 5 rfl) (cF_S8 hF) (cF_R8_1 hF) (cl_iload_n hG (hx_dq tdX6_wishOf_1 6 rfl) rfl (cl_iald hG (hx_dq tdX6_wishOf_1 7 rfl) (cF_S9 hF) i64_9 (cl_iast hG (hx_dq tdX6_wishOf_1 8 rfl) (cF_S22 hF) i65_10 (cl_aload_n hG (hx_dq tdX6_wishOf_1 9 rfl) rfl (cl_getS hG fmX6_21 (hx_dq tdX6_wishOf_1 10 rfl) (cF_S21 hF) (cF_R21_2 hF) (cl_iconst hG 5 (hx_dq tdX6_wishOf_1 11 rfl) iconst_5 (cl_aload_n hG (hx_dq tdX6_wishOf_1 12 rfl) rfl (cl_getS hG fmX6_15 (hx_dq tdX6_wishOf_1 13 rfl) (cF_S21 hF) (cF_R21_1 hF) (cl_getS hG fmX6_51 (hx_dq tdX6_wishOf_1 14 rfl) (cF_S15 hF) (cF_R15_5 hF) (cl_iload_n hG (hx_dq tdX6_wishOf_1 15 rfl) rfl (cl_iconst hG 1 (hx_dq tdX6_wishOf_1 16 rfl) iconst_1 (cl_isub hG (hx_dq tdX6_wishOf_1 17 rfl) (cl_iald hG (hx_dq tdX6_wishOf_1 18 rfl) (cF_S20 hF) i81_11 (cl_iast hG (hx_dq tdX6_wishOf_1 19 rfl) (cF_S22 hF) i82_12 (cl_nmM (fun m_13 e_13 => ?_))))))))))))))))))))))))))
  replace hw := hw m_13 e_13
  obtain ⟨i91_14, hw⟩ := hw
  obtain ⟨i100_15, hw⟩ := hw
  refine cl_aload_n hG (hx_dq tdX6_wishOf_1 20 rfl) rfl (cl_getS hG fmX6_21 (hx_dq tdX6_wishOf_1 21 rfl) (cF_S21 hF) (cF_R21_2 hF) (cl_bipush hG 6 (hx_dq tdX6_wishOf_1 22 rfl) bipush_6 (cl_iload hG (hx_dq tdX6_wishOf_1 23 rfl) rfl (cl_iast hG (hx_dq tdX6_wishOf_1 24 rfl) (cF_S22 hF) i91_14 (cl_aload_n hG (hx_dq tdX6_wishOf_1 25 rfl) rfl (cl_getS hG fmX6_21 (hx_dq tdX6_wishOf_1 26 rfl) (cF_S21 hF) (cF_R21_2 hF) (cl_bipush hG 7 (hx_dq tdX6_wishOf_1 27 rfl) bipush_7 (cl_iload hG (hx_dq tdX6_wishOf_1 28 rfl) rfl (cl_iast hG (hx_dq tdX6_wishOf_1 29 rfl) (cF_S22 hF) i100_15 (cl_aload_n hG (hx_dq tdX6_wishOf_1 30 rfl) rfl (cl_iload_n hG (hx_dq tdX6_wishOf_1 31 rfl) rfl (cl_iload_n hG (hx_dq tdX6_wishOf_2 0 rfl) rfl (cl_iconst hG 1 (hx_dq tdX6_wishOf_2 1 rfl) iconst_1 (cl_isub hG (hx_dq tdX6_wishOf_2 2 rfl) (cl_callV2 (caX6_wishOf_54 cA) (hx_dq tdX6_wishOf_2 3 rfl) (cF_S21 hF) (Nat.le_of_ble_eq_true rfl) (Nat.le_refl _) (Nat.le_refl _) (sX6_look_mk hF hw (fun m106_16 hw => ?_)))))))))))))))))
  refine cl_iconst hG 0 (hx_dq tdX6_wishOf_2 4 rfl) iconst_0 (cl_istore hG (hx_dq tdX6_wishOf_2 5 rfl) (Nat.le_of_ble_eq_true rfl) rfl ?_)
  obtain ⟨n_, hw⟩ := hw
  refine cl_sub hG (hx_le_c rfl (hx_le_c rfl (hx_le_n (hx_le_c rfl (hx_le_n (hx_le_n (hx_le_n (hx_le_c rfl (hx_le_c rfl hx_le_0))))))))) (kX6_wishOf_L112 hG cA hF v1 v3 r8_2 hK (fun m_21 hw => ?_) n_ 0 _ hw)
  · refine cl_aload_n hG (hx_dq tdX6_wishOf_2 23 rfl) rfl (cl_aload_n hG (hx_dq tdX6_wishOf_2 24 rfl) rfl (cl_iload hG (hx_dq tdX6_wishOf_2 25 rfl) rfl (cl_iload_n hG (hx_dq tdX6_wishOf_2 26 rfl) rfl (cl_iconst hG 1 (hx_dq tdX6_wishOf_2 27 rfl) iconst_1 (cl_isub hG (hx_dq tdX6_wishOf_2 28 rfl) (cl_callV3 (caX6_wishOf_63 cA) (hx_dq tdX6_wishOf_2 29 rfl) (cF_S21 hF) (Nat.le_of_ble_eq_true rfl) (Nat.le_refl _) (Nat.le_refl _) (sX6_wishByRules_mk hF hw (fun r152_23 m152_22 hw => ?_))))))))
    exact cl_iret hG (hx_dq tdX6_wishOf_2 30 rfl) rfl rfl (hK _ _ hw) (Nat.le_refl _) (Nat.le_refl _)
def sX6_wishOf : hx_ST := fun Λ μ as KK => cF Λ ∧ ∃ (v1 : Nat) (v2 : Int32) (v3 : Int32) (v4 : Int32) (v5 : Int32) (v6 : Int32) (K : Int32 → hx_M → Prop), as = [.ref 21, .ref v1, .int v2, .int v3, .int v4, .int v5, .int v6] ∧ wX6_wishOf Λ μ v1 v2 v3 v4 v5 v6 K ∧ (∀ (r : Int32) (m : hx_M), K r m → KK (some (.int r)) Λ m)
theorem sX6_wishOf_mk {Λ : hx_L} {μ : hx_M} {KK : hx_KT} {v1 : Nat} {v2 : Int32} {v3 : Int32} {v4 : Int32} {v5 : Int32} {v6 : Int32} {K : Int32 → hx_M → Prop} (hF : cF Λ) (hw : wX6_wishOf Λ μ v1 v2 v3 v4 v5 v6 K) (hk : ∀ (r : Int32) (m : hx_M), K r m → KK (some (.int r)) Λ m) : sX6_wishOf Λ μ [.ref 21, .ref v1, .int v2, .int v3, .int v4, .int v5, .int v6] KK := ⟨hF, _, _, _, _, _, _, _, rfl, hw, hk⟩
theorem conX6_wishOf : hx_Con yX6_wishOf cX6_wishOf 9 (some .int) 4 0 0 sX6_wishOf := by
  refine hx_con_of (by decide +kernel) tokX6 (by decide) ?_ ?_
  · intro Λ μ as KK h
    obtain ⟨hF, v1, v2, v3, v4, v5, v6, K, rfl, hw, hK⟩ := h
    exact Nat.le_of_ble_eq_true rfl
  · intro G KK hG cA Λ μ as h
    obtain ⟨hF, v1, v2, v3, v4, v5, v6, K, rfl, hw, hK⟩ := h
    exact cl_sub hG (hx_le_c rfl (hx_le_c rfl (hx_le_c rfl (hx_le_c rfl (hx_le_c rfl (hx_le_c rfl (hx_le_c rfl (hx_le_n (hx_le_n hx_le_0))))))))) (kX6_wishOf hG cA hF _ _ _ _ _ _ hK hw)
/-! HemLine$Chronicle.offOf(LHemLine$Law;)I -/
def tbX0_offOf_0 : List (Nat × Instr × Nat) := [(0, .aload_n 1, 1), (1, .ifnonnull 5, 3), (4, .iconst (-1), 1), (5, .ireturn, 1), (6, .iconst 0, 1), (7, .istore_n 2, 1), (8, .iconst 1, 1), (9, .aload_n 0, 1), (10, .getfield 9, 3), (13, .getfield 15, 3), (16, .bipush 20, 2), (18, .isub, 1), (19, .iconst 1, 1), (20, .iadd, 1), (21, .invokestatic 77, 3), (24, .istore_n 3, 1), (25, .iload_n 3, 1), (26, .aload_n 0, 1), (27, .getfield 9, 3), (30, .getfield 15, 3), (33, .if_icmp .gt 99, 3), (36, .iconst 0, 1), (37, .istore 4, 2), (39, .iload 4, 2), (41, .aload_n 0, 1), (42, .getfield 9, 3), (45, .getfield 55, 3), (48, .getfield 59, 3), (51, .if_icmp .ge 75, 3), (54, .aload_n 0, 1), (55, .getfield 9, 3), (58, .getfield 21, 3)]
def tbX0_offOf_1 : List (Nat × Instr × Nat) := [(61, .astore 5, 2), (63, .aload_n 0, 1), (64, .getfield 9, 3), (67, .getfield 35, 3), (70, .aload_n 1, 1), (71, .iload 4, 2), (73, .iload_n 3, 1), (74, .aload 5, 2), (76, .iload 4, 2), (78, .iload_n 3, 1), (79, .invokevirtual 83, 3), (82, .aload 5, 2), (84, .iload 4, 2), (86, .iload_n 3, 1), (87, .invokevirtual 86, 3), (90, .aload 5, 2), (92, .iload 4, 2), (94, .iload_n 3, 1), (95, .invokevirtual 89, 3), (98, .invokevirtual 92, 3), (101, .istore 6, 2), (103, .iload_n 2, 1), (104, .iload 6, 2), (106, .aload 5, 2), (108, .iload 4, 2), (110, .iload_n 3, 1), (111, .invokevirtual 25, 3), (114, .isub, 1), (115, .invokestatic 49, 3), (118, .iadd, 1), (119, .istore_n 2, 1), (120, .iinc 4 1, 3)]
def tbX0_offOf_2 : List (Nat × Instr × Nat) := [(123, .goto (-84), 3), (126, .iinc 3 1, 3), (129, .goto (-104), 3), (132, .iload_n 2, 1), (133, .ireturn, 1)]
theorem tdX0_offOf_0 : hx_dt cX0_offOf tbX0_offOf_0 = true := by decide +kernel
theorem tdX0_offOf_1 : hx_dt cX0_offOf tbX0_offOf_1 = true := by decide +kernel
theorem tdX0_offOf_2 : hx_dt cX0_offOf tbX0_offOf_2 = true := by decide +kernel
theorem caX0_offOf_25 {G : hx_GT} (cA : hx_CA RX0 cX0_offOf 5 0 0 G) : hx_CV cX0_offOf G 0 0 25 3 2 sX3_lengthOf 0 0 := cA.1 conX3_lengthOf rfl rfl ⟨by decide +kernel, by decide +kernel, by decide +kernel⟩ mw_848 mw_717 mw_718 mw_88 mw_719 (by decide) (by decide)
theorem caX0_offOf_83 {G : hx_GT} (cA : hx_CA RX0 cX0_offOf 5 0 0 G) : hx_CV cX0_offOf G 0 0 83 3 2 sX3_coinAsked 0 0 := cA.1 conX3_coinAsked rfl rfl ⟨by decide +kernel, by decide +kernel, by decide +kernel⟩ mw_1083 mw_1084 mw_1085 mw_88 mw_1086 (by decide) (by decide)
theorem caX0_offOf_86 {G : hx_GT} (cA : hx_CA RX0 cX0_offOf 5 0 0 G) : hx_CV cX0_offOf G 0 0 86 3 2 sX3_wornAsked 0 0 := cA.1 conX3_wornAsked rfl rfl ⟨by decide +kernel, by decide +kernel, by decide +kernel⟩ mw_1087 mw_1088 mw_1089 mw_88 mw_1090 (by decide) (by decide)
theorem caX0_offOf_89 {G : hx_GT} (cA : hx_CA RX0 cX0_offOf 5 0 0 G) : hx_CV cX0_offOf G 0 0 89 3 2 sX3_chanceAsked 0 0 := cA.1 conX3_chanceAsked rfl rfl ⟨by decide +kernel, by decide +kernel, by decide +kernel⟩ mw_1091 mw_1092 mw_1093 mw_88 mw_1094 (by decide) (by decide)
theorem caX0_offOf_92 {G : hx_GT} (cA : hx_CA RX0 cX0_offOf 5 0 0 G) : hx_CV cX0_offOf G 0 0 92 6 6 sX6_wishOf 0 0 := cA.1 conX6_wishOf rfl rfl ⟨by decide +kernel, by decide +kernel, by decide +kernel⟩ mw_1095 mw_721 mw_722 mw_91 mw_723 (by decide) (by decide)
def wX0_offOf_L39 (Λ : hx_L) (v1 : Nat) (v3 : Int32) (K : Int32 → hx_M → Prop) (K126 : Int32 → hx_M → Prop) : Nat → Int32 → Int32 → hx_M → Prop
  | 0, _, _, _ => False
  | n + 1, v2, v4, μ => ((μ.1 8 0) ≤ v4 → (K126 v2 μ)) ∧ (¬ ((μ.1 8 0) ≤ v4) → (wX3_coinAsked μ v4 v3 (fun r79_4 => wX3_wornAsked μ v4 v3 (fun r87_6 => wX3_chanceAsked μ v4 v3 (fun r95_8 => wX6_wishOf Λ μ v1 v4 v3 r79_4 r87_6 r95_8 (fun r98_10 m98_9 => wX3_lengthOf m98_9 v4 v3 (fun r111_12 => ∀ x_13 : Int32, x_13 = (if 0 ≤ (r98_10 - r111_12) then (r98_10 - r111_12) else 0 - (r98_10 - r111_12)) → wX0_offOf_L39 Λ v1 v3 K K126 n (v2 + x_13) (v4 + 1) m98_9)))))))
set_option maxRecDepth 100000 in
set_option maxHeartbeats 4000000 in
theorem kX0_offOf_L39 {G : hx_GT} {KK : hx_KT} (hG : hx_K cX0_offOf 7 0 0 (some .int) TbX0 KK G) (cA : hx_CA RX0 cX0_offOf 5 0 0 G) {Λ : hx_L} (hF : cF Λ)  (v1 : Nat) (v3 : Int32) {K : Int32 → hx_M → Prop} (hK : ∀ (r : Int32) (m : hx_M), K r m → KK (some (.int r)) Λ m) {K126 : Int32 → hx_M → Prop} (hk126 : ∀ (v2 : Int32) (μ : hx_M), K126 v2 μ → G Λ μ (0, 0) 126 [some (.ref 36), some (.ref v1), some (.int v2), some (.int v3), none, none, none] []) : ∀ (n : Nat) (v2 : Int32) (v4 : Int32) (μ : hx_M), wX0_offOf_L39 Λ v1 v3 K K126 n v2 v4 μ → G Λ μ (0, 0) 39 [some (.ref 36), some (.ref v1), some (.int v2), some (.int v3), some (.int v4), none, none] [] := by
  intro n
  induction n with
  | zero =>
    intro v2 v4 μ hw
    exact False.elim (by simpa only [wX0_offOf_L39] using hw)
  | succ n ih =>
    intro v2 v4 μ hw
    unfold wX0_offOf_L39 at hw
    refine cl_iload hG (hx_dq tdX0_offOf_0 23 rfl) rfl (cl_aload_n hG (hx_dq tdX0_offOf_0 24 rfl) rfl (cl_getS hG fmX0_9 (hx_dq tdX0_offOf_0 25 rfl) (cF_S36 hF) (cF_R36_0 hF) (cl_getS hG fmX0_55 (hx_dq tdX0_offOf_0 26 rfl) (cF_S7 hF) (cF_R7_0 hF) (cl_getI hG fmX0_59 (hx_dq tdX0_offOf_0 27 rfl) (cF_S8 hF) (cl_icmp_ge hG 126 (hx_dq tdX0_offOf_0 28 rfl) rfl (fun c51 => ?_) (fun c51 => ?_))))))
    · replace hw := hw.1 c51
      exact cl_sub hG (hx_le_c rfl (hx_le_c rfl (hx_le_c rfl (hx_le_c rfl (hx_le_n (hx_le_n (hx_le_n hx_le_0))))))) (hk126 v2 _ hw)
    · replace hw := hw.2 c51
      refine cl_aload_n hG (hx_dq tdX0_offOf_0 29 rfl) rfl (cl_getS hG fmX0_9 (hx_dq tdX0_offOf_0 30 rfl) (cF_S36 hF) (cF_R36_0 hF) (cl_getS hG fmX0_21 (hx_dq tdX0_offOf_0 31 rfl) (cF_S7 hF) (cF_R7_1 hF) (cl_astore hG (hx_dq tdX0_offOf_1 0 rfl) (Nat.le_of_ble_eq_true rfl) rfl (cl_aload_n hG (hx_dq tdX0_offOf_1 1 rfl) rfl (cl_getS hG fmX0_9 (hx_dq tdX0_offOf_1 2 rfl) (cF_S36 hF) (cF_R36_0 hF) (cl_getS hG fmX0_35 (hx_dq tdX0_offOf_1 3 rfl) (cF_S7 hF) (cF_R7_2 hF) (cl_aload_n hG (hx_dq tdX0_offOf_1 4 rfl) rfl (cl_iload hG (hx_dq tdX0_offOf_1 5 rfl) rfl (cl_iload_n hG (hx_dq tdX0_offOf_1 6 rfl) rfl (cl_aload hG (hx_dq tdX0_offOf_1 7 rfl) rfl (cl_iload hG (hx_dq tdX0_offOf_1 8 rfl) rfl (cl_iload_n hG (hx_dq tdX0_offOf_1 9 rfl) rfl (cl_callV2 (caX0_offOf_83 cA) (hx_dq tdX0_offOf_1 10 rfl) (cF_S15 hF) (Nat.le_of_ble_eq_true rfl) (Nat.le_refl _) (Nat.le_refl _) (sX3_coinAsked_mk hF hw (fun r79_4 hw => ?_)))))))))))))))
      refine cl_aload hG (hx_dq tdX0_offOf_1 11 rfl) rfl (cl_iload hG (hx_dq tdX0_offOf_1 12 rfl) rfl (cl_iload_n hG (hx_dq tdX0_offOf_1 13 rfl) rfl (cl_callV2 (caX0_offOf_86 cA) (hx_dq tdX0_offOf_1 14 rfl) (cF_S15 hF) (Nat.le_of_ble_eq_true rfl) (Nat.le_refl _) (Nat.le_refl _) (sX3_wornAsked_mk hF hw (fun r87_6 hw => ?_)))))
      refine cl_aload hG (hx_dq tdX0_offOf_1 15 rfl) rfl (cl_iload hG (hx_dq tdX0_offOf_1 16 rfl) rfl (cl_iload_n hG (hx_dq tdX0_offOf_1 17 rfl) rfl (cl_callV2 (caX0_offOf_89 cA) (hx_dq tdX0_offOf_1 18 rfl) (cF_S15 hF) (Nat.le_of_ble_eq_true rfl) (Nat.le_refl _) (Nat.le_refl _) (sX3_chanceAsked_mk hF hw (fun r95_8 hw => ?_)))))
      refine cl_callV6 (caX0_offOf_92 cA) (hx_dq tdX0_offOf_1 19 rfl) (cF_S21 hF) (Nat.le_of_ble_eq_true rfl) (Nat.le_refl _) (Nat.le_refl _) (sX6_wishOf_mk hF hw (fun r98_10 m98_9 hw => ?_))
      refine cl_istore hG (hx_dq tdX0_offOf_1 20 rfl) (Nat.le_of_ble_eq_true rfl) rfl (cl_iload_n hG (hx_dq tdX0_offOf_1 21 rfl) rfl (cl_iload hG (hx_dq tdX0_offOf_1 22 rfl) rfl (cl_aload hG (hx_dq tdX0_offOf_1 23 rfl) rfl (cl_iload hG (hx_dq tdX0_offOf_1 24 rfl) rfl (cl_iload_n hG (hx_dq tdX0_offOf_1 25 rfl) rfl (cl_callV2 (caX0_offOf_25 cA) (hx_dq tdX0_offOf_1 26 rfl) (cF_S15 hF) (Nat.le_of_ble_eq_true rfl) (Nat.le_refl _) (Nat.le_refl _) (sX3_lengthOf_mk hF hw (fun r111_12 hw => ?_))))))))
      refine cl_isub hG (hx_dq tdX0_offOf_1 27 rfl) (cl_mabs hG mmX0_49 (hx_dq tdX0_offOf_1 28 rfl) (Nat.le_refl _) (Nat.le_refl _) (Nat.le_of_ble_eq_true rfl) (cl_nmI (fun x_13 e_13 => ?_)))
      replace hw := hw x_13 e_13
      exact cl_iadd hG (hx_dq tdX0_offOf_1 29 rfl) (cl_istore_n hG (hx_dq tdX0_offOf_1 30 rfl) (Nat.le_of_ble_eq_true rfl) rfl (cl_iinc hG (v4 + 1) (hx_dq tdX0_offOf_1 31 rfl) rfl (congrArg (fun z => v4 + z) iconst_1) (Nat.le_of_ble_eq_true rfl) rfl (cl_goto hG 39 (hx_dq tdX0_offOf_2 0 rfl) rfl (cl_sub hG (hx_le_c rfl (hx_le_c rfl (hx_le_c rfl (hx_le_c rfl (hx_le_c rfl (hx_le_n (hx_le_n hx_le_0))))))) (ih (v2 + x_13) (v4 + 1) _ hw)))))
def wX0_offOf_L25 (Λ : hx_L) (v1 : Nat) (K : Int32 → hx_M → Prop)  : Nat → Int32 → Int32 → hx_M → Prop
  | 0, _, _, _ => False
  | n + 1, v2, v3, μ => ((μ.1 7 7) < v3 → (K v2 μ)) ∧ (¬ ((μ.1 7 7) < v3) → (∃ n39_15, wX0_offOf_L39 Λ v1 v3 K (fun v2_14 m_14 => wX0_offOf_L25 Λ v1 K n v2_14 (v3 + 1) m_14) n39_15 v2 0 μ))
set_option maxRecDepth 100000 in
set_option maxHeartbeats 4000000 in
theorem kX0_offOf_L25 {G : hx_GT} {KK : hx_KT} (hG : hx_K cX0_offOf 7 0 0 (some .int) TbX0 KK G) (cA : hx_CA RX0 cX0_offOf 5 0 0 G) {Λ : hx_L} (hF : cF Λ)  (v1 : Nat) {K : Int32 → hx_M → Prop} (hK : ∀ (r : Int32) (m : hx_M), K r m → KK (some (.int r)) Λ m)  : ∀ (n : Nat) (v2 : Int32) (v3 : Int32) (μ : hx_M), wX0_offOf_L25 Λ v1 K n v2 v3 μ → G Λ μ (0, 0) 25 [some (.ref 36), some (.ref v1), some (.int v2), some (.int v3), none, none, none] [] := by
  intro n
  induction n with
  | zero =>
    intro v2 v3 μ hw
    exact False.elim (by simpa only [wX0_offOf_L25] using hw)
  | succ n ih =>
    intro v2 v3 μ hw
    unfold wX0_offOf_L25 at hw
    refine cl_iload_n hG (hx_dq tdX0_offOf_0 16 rfl) rfl (cl_aload_n hG (hx_dq tdX0_offOf_0 17 rfl) rfl (cl_getS hG fmX0_9 (hx_dq tdX0_offOf_0 18 rfl) (cF_S36 hF) (cF_R36_0 hF) (cl_getI hG fmX0_15 (hx_dq tdX0_offOf_0 19 rfl) (cF_S7 hF) (cl_icmp_gt hG 132 (hx_dq tdX0_offOf_0 20 rfl) rfl (fun c33 => ?_) (fun c33 => ?_)))))
    · replace hw := hw.1 c33
      exact cl_iload_n hG (hx_dq tdX0_offOf_2 3 rfl) rfl (cl_iret hG (hx_dq tdX0_offOf_2 4 rfl) rfl rfl (hK _ _ hw) (Nat.le_refl _) (Nat.le_refl _))
    · replace hw := hw.2 c33
      refine cl_iconst hG 0 (hx_dq tdX0_offOf_0 21 rfl) iconst_0 (cl_istore hG (hx_dq tdX0_offOf_0 22 rfl) (Nat.le_of_ble_eq_true rfl) rfl ?_)
      obtain ⟨n_, hw⟩ := hw
      refine cl_sub hG (hx_le_c rfl (hx_le_c rfl (hx_le_c rfl (hx_le_c rfl (hx_le_c rfl (hx_le_n (hx_le_n hx_le_0))))))) (kX0_offOf_L39 hG cA hF v1 v3 hK (fun v2_14 m_14 hw => ?_) n_ v2 0 _ hw)
      · exact cl_iinc hG (v3 + 1) (hx_dq tdX0_offOf_2 1 rfl) rfl (congrArg (fun z => v3 + z) iconst_1) (Nat.le_of_ble_eq_true rfl) rfl (cl_goto hG 25 (hx_dq tdX0_offOf_2 2 rfl) rfl (cl_sub hG (hx_le_c rfl (hx_le_c rfl (hx_le_c rfl (hx_le_c rfl (hx_le_n (hx_le_n (hx_le_n hx_le_0))))))) (ih v2_14 (v3 + 1) _ hw)))
def wX0_offOf (Λ : hx_L) (μ : hx_M) (v1 : Option Nat) (K : Int32 → hx_M → Prop) : Prop := (∀ k1_1, v1 = some k1_1 → (∀ x_2 : Int32, x_2 = (if 1 < (((μ.1 7 7) - 20) + 1) then (((μ.1 7 7) - 20) + 1) else 1) → ∃ n25_16, wX0_offOf_L25 Λ k1_1 K n25_16 0 x_2 μ)) ∧ (v1 = none → (K (-1) μ))
set_option maxRecDepth 100000 in
set_option maxHeartbeats 4000000 in
theorem kX0_offOf {G : hx_GT} {KK : hx_KT} (hG : hx_K cX0_offOf 7 0 0 (some .int) TbX0 KK G) (cA : hx_CA RX0 cX0_offOf 5 0 0 G) {Λ : hx_L} (hF : cF Λ) {μ : hx_M} (v1 : Option Nat) {K : Int32 → hx_M → Prop} (hK : ∀ (r : Int32) (m : hx_M), K r m → KK (some (.int r)) Λ m) (hw : wX0_offOf Λ μ v1 K) : G Λ μ (0, 0) 0 [some (.ref 36), some (va_rf v1), none, none, none, none, none] [] := by
  unfold wX0_offOf at hw
  refine cl_aload_nQ hG (hx_dq tdX0_offOf_0 0 rfl) rfl (cl_ifnonnull hG 6 (hx_dq tdX0_offOf_0 1 rfl) rfl (fun k1_1 c1 => ?_) (fun c1 => ?_))
  · replace hw := hw.1 k1_1 c1
    revert hw
    subst c1
    intro hw
    refine cl_iconst hG 0 (hx_dq tdX0_offOf_0 4 rfl) iconst_0 (cl_istore_n hG (hx_dq tdX0_offOf_0 5 rfl) (Nat.le_of_ble_eq_true rfl) rfl (cl_iconst hG 1 (hx_dq tdX0_offOf_0 6 rfl) iconst_1 (cl_aload_n hG (hx_dq tdX0_offOf_0 7 rfl) rfl (cl_getS hG fmX0_9 (hx_dq tdX0_offOf_0 8 rfl) (cF_S36 hF) (cF_R36_0 hF) (cl_getI hG fmX0_15 (hx_dq tdX0_offOf_0 9 rfl) (cF_S7 hF) (cl_bipush hG 20 (hx_dq tdX0_offOf_0 10 rfl) bipush_20 (cl_isub hG (hx_dq tdX0_offOf_0 11 rfl) (cl_iconst hG 1 (hx_dq tdX0_offOf_0 12 rfl) iconst_1 (cl_iadd hG (hx_dq tdX0_offOf_0 13 rfl) (cl_mmax hG mmX0_77 (hx_dq tdX0_offOf_0 14 rfl) (Nat.le_refl _) (Nat.le_refl _) (Nat.le_of_ble_eq_true rfl) (cl_nmI (fun x_2 e_2 => ?_))))))))))))
    replace hw := hw x_2 e_2
    refine cl_istore_n hG (hx_dq tdX0_offOf_0 15 rfl) (Nat.le_of_ble_eq_true rfl) rfl ?_
    obtain ⟨n_, hw⟩ := hw
    refine cl_sub hG (hx_le_c rfl (hx_le_c rfl (hx_le_c rfl (hx_le_c rfl (hx_le_n (hx_le_n (hx_le_n hx_le_0))))))) (kX0_offOf_L25 hG cA hF k1_1 hK n_ 0 x_2 _ hw)
  · replace hw := hw.2 c1
    exact cl_iconst hG (-1) (hx_dq tdX0_offOf_0 2 rfl) iconst_m1 (cl_iret hG (hx_dq tdX0_offOf_0 3 rfl) rfl rfl (hK _ _ hw) (Nat.le_refl _) (Nat.le_refl _))
def sX0_offOf : hx_ST := fun Λ μ as KK => cF Λ ∧ ∃ (v1 : Option Nat) (K : Int32 → hx_M → Prop), as = [.ref 36, va_rf v1] ∧ wX0_offOf Λ μ v1 K ∧ (∀ (r : Int32) (m : hx_M), K r m → KK (some (.int r)) Λ m)
theorem sX0_offOf_mk {Λ : hx_L} {μ : hx_M} {KK : hx_KT} {v1 : Option Nat} {K : Int32 → hx_M → Prop} (hF : cF Λ) (hw : wX0_offOf Λ μ v1 K) (hk : ∀ (r : Int32) (m : hx_M), K r m → KK (some (.int r)) Λ m) : sX0_offOf Λ μ [.ref 36, va_rf v1] KK := ⟨hF, _, _, rfl, hw, hk⟩
theorem conX0_offOf : hx_Con yX0_offOf cX0_offOf 7 (some .int) 5 0 0 sX0_offOf := by
  refine hx_con_of (by decide +kernel) tokX0 (by decide) ?_ ?_
  · intro Λ μ as KK h
    obtain ⟨hF, v1, K, rfl, hw, hK⟩ := h
    cases v1 <;> exact Nat.le_of_ble_eq_true rfl
  · intro G KK hG cA Λ μ as h
    obtain ⟨hF, v1, K, rfl, hw, hK⟩ := h
    cases v1 <;> exact cl_sub hG (hx_le_c rfl (hx_le_c rfl (hx_le_n (hx_le_n (hx_le_n (hx_le_n (hx_le_n hx_le_0))))))) (kX0_offOf hG cA hF _ hK hw)
/-! HemLine$Law.<init>([II)V -/
def tbX1_init_0 : List (Nat × Instr × Nat) := [(0, .aload_n 0, 1), (1, .invokespecial 1, 3), (4, .aload_n 0, 1), (5, .aload_n 1, 1), (6, .putfield 7, 3), (9, .aload_n 0, 1), (10, .iload_n 2, 1), (11, .putfield 13, 3), (14, .return_, 1)]
theorem tdX1_init_0 : hx_dt cX1_init tbX1_init_0 = true := by decide +kernel
def TAX1_init : hx_TA := ([], [(7, 1, 0, 2), (13, 1, 1, 3)], [], [1])
theorem taX1_init_f7 : (7, 1, 0, 2) ∈ TAX1_init.2.1 := List.mem_of_getElem? (i := 0) rfl
theorem toX1_init_f7 : hx_ffok RX1 (7, 1, 0, 2) := ⟨RX1, TX1, 2, tyX1, rfl, Nat.le_of_ble_eq_true rfl, rfl, mw_619, inX1, tyX1_ok, nmX1, rfl, rfl, fun h => absurd h (by decide), fun _ => Or.inr ⟨_, rfl⟩⟩
theorem taX1_init_f13 : (13, 1, 1, 3) ∈ TAX1_init.2.1 := List.mem_of_getElem? (i := 1) rfl
theorem toX1_init_f13 : hx_ffok RX1 (13, 1, 1, 3) := ⟨RX1, TX1, 2, tyX1, rfl, Nat.le_of_ble_eq_true rfl, rfl, mw_621, inX1, tyX1_ok, nmX1, rfl, rfl, fun _ => rfl, fun h => absurd h (by decide)⟩
theorem taX1_init_o1 : 1 ∈ TAX1_init.2.2.2 := List.mem_of_getElem? (i := 0) rfl
theorem taokX1_init : hx_taok RX1 TAX1_init := ⟨(fun _ h => absurd h List.not_mem_nil), (List.forall_mem_cons.mpr ⟨toX1_init_f7, (List.forall_mem_cons.mpr ⟨toX1_init_f13, (fun _ h => absurd h List.not_mem_nil)⟩)⟩), (fun _ h => absurd h List.not_mem_nil), (List.forall_mem_cons.mpr ⟨mw_618, (fun _ h => absurd h List.not_mem_nil)⟩)⟩
def wX1_init (Λ : hx_L) (μ : hx_M) (v0 : Nat) (v1 : Nat) (v2 : Int32) (K : hx_L → hx_M → Prop) : Prop := Λ.1 v0 = (0, 1) ∧ ∀ L_2 : hx_L, L_2 = hx_sR Λ v0 0 v1 → L_2.1 v0 = (0, 1) ∧ K L_2 (hx_sI μ v0 1 v2)
set_option maxRecDepth 100000 in
set_option maxHeartbeats 4000000 in
theorem kX1_init {G : hx_GT} {KK : hx_KT} (hG : hx_K cX1_init 3 0 0 (none) TbX1 KK G) (hM : hx_KA cX1_init 0 0 TAX1_init G) (cA : hx_CA RX1 cX1_init 1 0 0 G) {Λ : hx_L}  {μ : hx_M} (v0 : Nat) (v1 : Nat) (v2 : Int32) {K : hx_L → hx_M → Prop} (hK : ∀ (Λ1 : hx_L) (m : hx_M), K Λ1 m → KK none Λ1 m) (hw : wX1_init Λ μ v0 v1 v2 K) : G Λ μ (0, 0) 0 [some (.ref v0), some (.ref v1), some (.int v2)] [] := by
  unfold wX1_init at hw
  obtain ⟨o6_1, hw⟩ := hw
  refine cl_aload_n hG (hx_dq tdX1_init_0 0 rfl) rfl (cl_oinit hM taX1_init_o1 (hx_dq tdX1_init_0 1 rfl) (Nat.le_of_ble_eq_true rfl) (cl_aload_n hG (hx_dq tdX1_init_0 2 rfl) rfl (cl_aload_n hG (hx_dq tdX1_init_0 3 rfl) rfl (cl_putFR hM taX1_init_f7 (hx_dq tdX1_init_0 4 rfl) o6_1 (cl_nmA (fun L_2 e_2 => ?_))))))
  replace hw := hw L_2 e_2
  obtain ⟨o11_3, hw⟩ := hw
  exact cl_aload_n hG (hx_dq tdX1_init_0 5 rfl) rfl (cl_iload_n hG (hx_dq tdX1_init_0 6 rfl) rfl (cl_putFI hM taX1_init_f13 (hx_dq tdX1_init_0 7 rfl) o11_3 (cl_vret hG (hx_dq tdX1_init_0 8 rfl) rfl (hK _ _ hw) (Nat.le_of_ble_eq_true rfl) (Nat.le_of_ble_eq_true rfl))))
def sX1_init : hx_ST := fun Λ μ as KK => ∃ (v0 : Nat) (v1 : Nat) (v2 : Int32) (K : hx_L → hx_M → Prop), as = [.ref v0, .ref v1, .int v2] ∧ wX1_init Λ μ v0 v1 v2 K ∧ (∀ (Λ1 : hx_L) (m : hx_M), K Λ1 m → KK none Λ1 m)
theorem sX1_init_mk {Λ : hx_L} {μ : hx_M} {KK : hx_KT} {v0 : Nat} {v1 : Nat} {v2 : Int32} {K : hx_L → hx_M → Prop}  (hw : wX1_init Λ μ v0 v1 v2 K) (hk : ∀ (Λ1 : hx_L) (m : hx_M), K Λ1 m → KK none Λ1 m) : sX1_init Λ μ [.ref v0, .ref v1, .int v2] KK := ⟨_, _, _, _, rfl, hw, hk⟩
theorem conX1_init : hx_Con yX1_init cX1_init 3 (none) 1 0 0 sX1_init := by
  refine hx_con_ofA (by decide +kernel) tokX1 taokX1_init (Or.inr rfl) (by decide) ?_ ?_
  · intro Λ μ as KK h
    obtain ⟨v0, v1, v2, K, rfl, hw, hK⟩ := h
    exact Nat.le_of_ble_eq_true rfl
  · intro G KK hG hM cA Λ μ as h
    obtain ⟨v0, v1, v2, K, rfl, hw, hK⟩ := h
    exact cl_sub hG (hx_le_c rfl (hx_le_c rfl (hx_le_c rfl hx_le_0))) (kX1_init hG hM cA _ _ _ hK hw)
/-! HemLine$Law.head(IIII)I -/
def tbX1_head_0 : List (Nat × Instr × Nat) := [(0, .iload_n 0, 1), (1, .iload_n 1, 1), (2, .iconst 2, 1), (3, .ishl, 1), (4, .ior, 1), (5, .iload_n 3, 1), (6, .iconst 5, 1), (7, .ishl, 1), (8, .ior, 1), (9, .iload_n 2, 1), (10, .bipush 11, 2), (12, .ishl, 1), (13, .ior, 1), (14, .ireturn, 1)]
theorem tdX1_head_0 : hx_dt cX1_head tbX1_head_0 = true := by decide +kernel
def wX1_head  (v0 : Int32) (v1 : Int32) (v2 : Int32) (v3 : Int32) (K : Int32 → Prop) : Prop := ∀ x_1 : Int32, x_1 = ((v0 ||| (v1 <<< (2 &&& 31))) ||| (v3 <<< (5 &&& 31))) → K (x_1 ||| (v2 <<< (11 &&& 31)))
set_option maxRecDepth 100000 in
set_option maxHeartbeats 4000000 in
theorem kX1_head {G : hx_GT} {KK : hx_KT} (hG : hx_K cX1_head 4 0 0 (some .int) TbX1 KK G) (cA : hx_CA RX1 cX1_head 1 0 0 G) {Λ : hx_L}  {μ : hx_M} (v0 : Int32) (v1 : Int32) (v2 : Int32) (v3 : Int32) {K : Int32 → Prop} (hK : ∀ (r : Int32), K r → KK (some (.int r)) Λ μ) (hw : wX1_head v0 v1 v2 v3 K) : G Λ μ (0, 0) 0 [some (.int v0), some (.int v1), some (.int v2), some (.int v3)] [] := by
  unfold wX1_head at hw
  refine cl_iload_n hG (hx_dq tdX1_head_0 0 rfl) rfl (cl_iload_n hG (hx_dq tdX1_head_0 1 rfl) rfl (cl_iconst hG 2 (hx_dq tdX1_head_0 2 rfl) iconst_2 (cl_ishl hG (hx_dq tdX1_head_0 3 rfl) (cl_ior hG (hx_dq tdX1_head_0 4 rfl) (cl_iload_n hG (hx_dq tdX1_head_0 5 rfl) rfl (cl_iconst hG 5 (hx_dq tdX1_head_0 6 rfl) iconst_5 (cl_ishl hG (hx_dq tdX1_head_0 7 rfl) (cl_ior hG (hx_dq tdX1_head_0 8 rfl) (cl_nmI (fun x_1 e_1 => ?_))))))))))
  replace hw := hw x_1 e_1
  exact cl_iload_n hG (hx_dq tdX1_head_0 9 rfl) rfl (cl_bipush hG 11 (hx_dq tdX1_head_0 10 rfl) bipush_11 (cl_ishl hG (hx_dq tdX1_head_0 11 rfl) (cl_ior hG (hx_dq tdX1_head_0 12 rfl) (cl_iret hG (hx_dq tdX1_head_0 13 rfl) rfl rfl (hK _ hw) (Nat.le_refl _) (Nat.le_refl _)))))
def sX1_head : hx_ST := fun Λ μ as KK => ∃ (v0 : Int32) (v1 : Int32) (v2 : Int32) (v3 : Int32) (K : Int32 → Prop), as = [.int v0, .int v1, .int v2, .int v3] ∧ wX1_head v0 v1 v2 v3 K ∧ (∀ (r : Int32), K r → KK (some (.int r)) Λ μ)
theorem sX1_head_mk {Λ : hx_L} {μ : hx_M} {KK : hx_KT} {v0 : Int32} {v1 : Int32} {v2 : Int32} {v3 : Int32} {K : Int32 → Prop}  (hw : wX1_head v0 v1 v2 v3 K) (hk : ∀ (r : Int32), K r → KK (some (.int r)) Λ μ) : sX1_head Λ μ [.int v0, .int v1, .int v2, .int v3] KK := ⟨_, _, _, _, _, rfl, hw, hk⟩
theorem conX1_head : hx_Con yX1_head cX1_head 4 (some .int) 1 0 0 sX1_head := by
  refine hx_con_of (by decide +kernel) tokX1 (by decide) ?_ ?_
  · intro Λ μ as KK h
    obtain ⟨v0, v1, v2, v3, K, rfl, hw, hK⟩ := h
    exact Nat.le_of_ble_eq_true rfl
  · intro G KK hG cA Λ μ as h
    obtain ⟨v0, v1, v2, v3, K, rfl, hw, hK⟩ := h
    exact cl_sub hG (hx_le_c rfl (hx_le_c rfl (hx_le_c rfl (hx_le_c rfl hx_le_0)))) (kX1_head hG cA _ _ _ _ hK hw)
/-! HemLine$Law.comparison(III)I -/
def tbX1_comparison_0 : List (Nat × Instr × Nat) := [(0, .iload_n 2, 1), (1, .bipush 11, 2), (3, .ishl, 1), (4, .iload_n 1, 1), (5, .iconst 4, 1), (6, .ishl, 1), (7, .ior, 1), (8, .iload_n 0, 1), (9, .ior, 1), (10, .ireturn, 1)]
theorem tdX1_comparison_0 : hx_dt cX1_comparison tbX1_comparison_0 = true := by decide +kernel
def wX1_comparison  (v0 : Int32) (v1 : Int32) (v2 : Int32) (K : Int32 → Prop) : Prop := ∀ x_1 : Int32, x_1 = (((v2 <<< (11 &&& 31)) ||| (v1 <<< (4 &&& 31))) ||| v0) → K x_1
set_option maxRecDepth 100000 in
set_option maxHeartbeats 4000000 in
theorem kX1_comparison {G : hx_GT} {KK : hx_KT} (hG : hx_K cX1_comparison 3 0 0 (some .int) TbX1 KK G) (cA : hx_CA RX1 cX1_comparison 1 0 0 G) {Λ : hx_L}  {μ : hx_M} (v0 : Int32) (v1 : Int32) (v2 : Int32) {K : Int32 → Prop} (hK : ∀ (r : Int32), K r → KK (some (.int r)) Λ μ) (hw : wX1_comparison v0 v1 v2 K) : G Λ μ (0, 0) 0 [some (.int v0), some (.int v1), some (.int v2)] [] := by
  unfold wX1_comparison at hw
  refine cl_iload_n hG (hx_dq tdX1_comparison_0 0 rfl) rfl (cl_bipush hG 11 (hx_dq tdX1_comparison_0 1 rfl) bipush_11 (cl_ishl hG (hx_dq tdX1_comparison_0 2 rfl) (cl_iload_n hG (hx_dq tdX1_comparison_0 3 rfl) rfl (cl_iconst hG 4 (hx_dq tdX1_comparison_0 4 rfl) iconst_4 (cl_ishl hG (hx_dq tdX1_comparison_0 5 rfl) (cl_ior hG (hx_dq tdX1_comparison_0 6 rfl) (cl_iload_n hG (hx_dq tdX1_comparison_0 7 rfl) rfl (cl_ior hG (hx_dq tdX1_comparison_0 8 rfl) (cl_nmI (fun x_1 e_1 => ?_))))))))))
  replace hw := hw x_1 e_1
  exact cl_iret hG (hx_dq tdX1_comparison_0 9 rfl) rfl rfl (hK _ hw) (Nat.le_refl _) (Nat.le_refl _)
def sX1_comparison : hx_ST := fun Λ μ as KK => ∃ (v0 : Int32) (v1 : Int32) (v2 : Int32) (K : Int32 → Prop), as = [.int v0, .int v1, .int v2] ∧ wX1_comparison v0 v1 v2 K ∧ (∀ (r : Int32), K r → KK (some (.int r)) Λ μ)
theorem sX1_comparison_mk {Λ : hx_L} {μ : hx_M} {KK : hx_KT} {v0 : Int32} {v1 : Int32} {v2 : Int32} {K : Int32 → Prop}  (hw : wX1_comparison v0 v1 v2 K) (hk : ∀ (r : Int32), K r → KK (some (.int r)) Λ μ) : sX1_comparison Λ μ [.int v0, .int v1, .int v2] KK := ⟨_, _, _, _, rfl, hw, hk⟩
theorem conX1_comparison : hx_Con yX1_comparison cX1_comparison 3 (some .int) 1 0 0 sX1_comparison := by
  refine hx_con_of (by decide +kernel) tokX1 (by decide) ?_ ?_
  · intro Λ μ as KK h
    obtain ⟨v0, v1, v2, K, rfl, hw, hK⟩ := h
    exact Nat.le_of_ble_eq_true rfl
  · intro G KK hG cA Λ μ as h
    obtain ⟨v0, v1, v2, K, rfl, hw, hK⟩ := h
    exact cl_sub hG (hx_le_c rfl (hx_le_c rfl (hx_le_c rfl hx_le_0))) (kX1_comparison hG cA _ _ _ hK hw)
/-! HemLine$LawReader.<init>([B)V -/
def tbX2_init_0 : List (Nat × Instr × Nat) := [(0, .aload_n 0, 1), (1, .invokespecial 5, 3), (4, .aload_n 0, 1), (5, .aload_n 1, 1), (6, .putfield 11, 3), (9, .aload_n 0, 1), (10, .iconst 0, 1), (11, .putfield 15, 3), (14, .aload_n 0, 1), (15, .sipush 701, 3), (18, .newarray .int, 2), (20, .putfield 19, 3), (23, .aload_n 0, 1), (24, .sipush 701, 3), (27, .newarray .int, 2), (29, .putfield 23, 3), (32, .aload_n 0, 1), (33, .iconst 0, 1), (34, .putfield 26, 3), (37, .aload_n 0, 1), (38, .sipush 700, 3), (41, .newarray .int, 2), (43, .putfield 29, 3), (46, .aload_n 0, 1), (47, .iconst 0, 1), (48, .putfield 32, 3), (51, .return_, 1)]
theorem tdX2_init_0 : hx_dt cX2_init tbX2_init_0 = true := by decide +kernel
def TAX2_init : hx_TA := ([], [(11, 2, 0, 2), (19, 2, 2, 2), (23, 2, 3, 2), (29, 2, 5, 2)], [], [5])
theorem taX2_init_f11 : (11, 2, 0, 2) ∈ TAX2_init.2.1 := List.mem_of_getElem? (i := 0) rfl
theorem toX2_init_f11 : hx_ffok RX2 (11, 2, 0, 2) := ⟨RX2, TX2, 7, tyX2, rfl, Nat.le_of_ble_eq_true rfl, rfl, mw_119, inX2, tyX2_ok, nmX2, rfl, rfl, fun h => absurd h (by decide), fun _ => Or.inr ⟨_, rfl⟩⟩
theorem taX2_init_f19 : (19, 2, 2, 2) ∈ TAX2_init.2.1 := List.mem_of_getElem? (i := 1) rfl
theorem toX2_init_f19 : hx_ffok RX2 (19, 2, 2, 2) := ⟨RX2, TX2, 7, tyX2, rfl, Nat.le_of_ble_eq_true rfl, rfl, mw_121, inX2, tyX2_ok, nmX2, rfl, rfl, fun h => absurd h (by decide), fun _ => Or.inr ⟨_, rfl⟩⟩
theorem taX2_init_f23 : (23, 2, 3, 2) ∈ TAX2_init.2.1 := List.mem_of_getElem? (i := 2) rfl
theorem toX2_init_f23 : hx_ffok RX2 (23, 2, 3, 2) := ⟨RX2, TX2, 7, tyX2, rfl, Nat.le_of_ble_eq_true rfl, rfl, mw_122, inX2, tyX2_ok, nmX2, rfl, rfl, fun h => absurd h (by decide), fun _ => Or.inr ⟨_, rfl⟩⟩
theorem taX2_init_f29 : (29, 2, 5, 2) ∈ TAX2_init.2.1 := List.mem_of_getElem? (i := 3) rfl
theorem toX2_init_f29 : hx_ffok RX2 (29, 2, 5, 2) := ⟨RX2, TX2, 7, tyX2, rfl, Nat.le_of_ble_eq_true rfl, rfl, mw_124, inX2, tyX2_ok, nmX2, rfl, rfl, fun h => absurd h (by decide), fun _ => Or.inr ⟨_, rfl⟩⟩
theorem taX2_init_o5 : 5 ∈ TAX2_init.2.2.2 := List.mem_of_getElem? (i := 0) rfl
theorem taokX2_init : hx_taok RX2 TAX2_init := ⟨(fun _ h => absurd h List.not_mem_nil), (List.forall_mem_cons.mpr ⟨toX2_init_f11, (List.forall_mem_cons.mpr ⟨toX2_init_f19, (List.forall_mem_cons.mpr ⟨toX2_init_f23, (List.forall_mem_cons.mpr ⟨toX2_init_f29, (fun _ h => absurd h List.not_mem_nil)⟩)⟩)⟩)⟩), (fun _ h => absurd h List.not_mem_nil), (List.forall_mem_cons.mpr ⟨mw_118, (fun _ h => absurd h List.not_mem_nil)⟩)⟩
def wX2_init (Λ : hx_L) (μ : hx_M) (v0 : Nat) (v1 : Nat) (K : hx_L → hx_M → Prop) : Prop := Λ.1 v0 = (0, 2) ∧ ∀ L_2 : hx_L, L_2 = hx_sR Λ v0 0 v1 → L_2.1 v0 = (0, 2) ∧ L_2.2.2 < hx_big ∧ ∀ L_5 : hx_L, L_5 = hx_push L_2 (1, 701) → ∀ m_6 : hx_M, m_6 = (hx_z (hx_sI μ v0 1 0) L_2.2.2) → L_5.1 v0 = (0, 2) ∧ ∀ L_8 : hx_L, L_8 = hx_sR L_5 v0 2 L_2.2.2 → L_8.2.2 < hx_big ∧ ∀ L_10 : hx_L, L_10 = hx_push L_8 (1, 701) → ∀ m_11 : hx_M, m_11 = (hx_z m_6 L_8.2.2) → L_10.1 v0 = (0, 2) ∧ ∀ L_13 : hx_L, L_13 = hx_sR L_10 v0 3 L_8.2.2 → L_13.1 v0 = (0, 2) ∧ L_13.2.2 < hx_big ∧ ∀ L_16 : hx_L, L_16 = hx_push L_13 (1, 700) → ∀ m_17 : hx_M, m_17 = (hx_z (hx_sI m_11 v0 4 0) L_13.2.2) → L_16.1 v0 = (0, 2) ∧ ∀ L_19 : hx_L, L_19 = hx_sR L_16 v0 5 L_13.2.2 → L_19.1 v0 = (0, 2) ∧ K L_19 (hx_sI m_17 v0 6 0)
set_option maxRecDepth 100000 in
set_option maxHeartbeats 4000000 in
theorem kX2_init {G : hx_GT} {KK : hx_KT} (hG : hx_K cX2_init 2 3 2102 (none) TbX2 KK G) (hM : hx_KA cX2_init 3 2102 TAX2_init G) (cA : hx_CA RX2 cX2_init 1 3 2102 G) {Λ : hx_L}  {μ : hx_M} (v0 : Nat) (v1 : Nat) {K : hx_L → hx_M → Prop} (hK : ∀ (Λ1 : hx_L) (m : hx_M), K Λ1 m → KK none Λ1 m) (hw : wX2_init Λ μ v0 v1 K) : G Λ μ (0, 0) 0 [some (.ref v0), some (.ref v1)] [] := by
  unfold wX2_init at hw
  obtain ⟨o6_1, hw⟩ := hw
  refine cl_aload_n hG (hx_dq tdX2_init_0 0 rfl) rfl (cl_oinit hM taX2_init_o5 (hx_dq tdX2_init_0 1 rfl) (Nat.le_of_ble_eq_true rfl) (cl_aload_n hG (hx_dq tdX2_init_0 2 rfl) rfl (cl_aload_n hG (hx_dq tdX2_init_0 3 rfl) rfl (cl_putFR hM taX2_init_f11 (hx_dq tdX2_init_0 4 rfl) o6_1 (cl_nmA (fun L_2 e_2 => ?_))))))
  replace hw := hw L_2 e_2
  obtain ⟨o11_3, hw⟩ := hw
  obtain ⟨b4, hw⟩ := hw
  refine cl_aload_n hG (hx_dq tdX2_init_0 5 rfl) rfl (cl_iconst hG 0 (hx_dq tdX2_init_0 6 rfl) iconst_0 (cl_putI hG fmX2_15 (hx_dq tdX2_init_0 7 rfl) o11_3 (cl_aload_n hG (hx_dq tdX2_init_0 8 rfl) rfl (cl_sipush hG 701 (hx_dq tdX2_init_0 9 rfl) sipush_701 (cl_newaI hM tn_701 (hx_dq tdX2_init_0 10 rfl) (by decide) (Nat.le_of_ble_eq_true rfl) (Nat.le_of_ble_eq_true rfl) (Nat.le_of_ble_eq_true rfl) b4 (cl_nmA (fun L_5 e_5 => ?_)))))))
  replace hw := hw L_5 e_5
  refine cl_nmM (fun m_6 e_6 => ?_)
  replace hw := hw m_6 e_6
  obtain ⟨o20_7, hw⟩ := hw
  refine cl_putFR hM taX2_init_f19 (hx_dq tdX2_init_0 11 rfl) o20_7 (cl_nmA (fun L_8 e_8 => ?_))
  replace hw := hw L_8 e_8
  obtain ⟨b9, hw⟩ := hw
  refine cl_aload_n hG (hx_dq tdX2_init_0 12 rfl) rfl (cl_sipush hG 701 (hx_dq tdX2_init_0 13 rfl) sipush_701 (cl_newaI hM tn_701 (hx_dq tdX2_init_0 14 rfl) (by decide) (Nat.le_of_ble_eq_true rfl) (Nat.le_of_ble_eq_true rfl) (Nat.le_of_ble_eq_true rfl) b9 (cl_nmA (fun L_10 e_10 => ?_))))
  replace hw := hw L_10 e_10
  refine cl_nmM (fun m_11 e_11 => ?_)
  replace hw := hw m_11 e_11
  obtain ⟨o29_12, hw⟩ := hw
  refine cl_putFR hM taX2_init_f23 (hx_dq tdX2_init_0 15 rfl) o29_12 (cl_nmA (fun L_13 e_13 => ?_))
  replace hw := hw L_13 e_13
  obtain ⟨o34_14, hw⟩ := hw
  obtain ⟨b15, hw⟩ := hw
  refine cl_aload_n hG (hx_dq tdX2_init_0 16 rfl) rfl (cl_iconst hG 0 (hx_dq tdX2_init_0 17 rfl) iconst_0 (cl_putI hG fmX2_26 (hx_dq tdX2_init_0 18 rfl) o34_14 (cl_aload_n hG (hx_dq tdX2_init_0 19 rfl) rfl (cl_sipush hG 700 (hx_dq tdX2_init_0 20 rfl) sipush_700 (cl_newaI hM tn_700 (hx_dq tdX2_init_0 21 rfl) (by decide) (Nat.le_of_ble_eq_true rfl) (Nat.le_of_ble_eq_true rfl) (Nat.le_of_ble_eq_true rfl) b15 (cl_nmA (fun L_16 e_16 => ?_)))))))
  replace hw := hw L_16 e_16
  refine cl_nmM (fun m_17 e_17 => ?_)
  replace hw := hw m_17 e_17
  obtain ⟨o43_18, hw⟩ := hw
  refine cl_putFR hM taX2_init_f29 (hx_dq tdX2_init_0 22 rfl) o43_18 (cl_nmA (fun L_19 e_19 => ?_))
  replace hw := hw L_19 e_19
  obtain ⟨o48_20, hw⟩ := hw
  exact cl_aload_n hG (hx_dq tdX2_init_0 23 rfl) rfl (cl_iconst hG 0 (hx_dq tdX2_init_0 24 rfl) iconst_0 (cl_putI hG fmX2_32 (hx_dq tdX2_init_0 25 rfl) o48_20 (cl_vret hG (hx_dq tdX2_init_0 26 rfl) rfl (hK _ _ hw) (Nat.le_of_ble_eq_true rfl) (Nat.le_of_ble_eq_true rfl))))
def sX2_init : hx_ST := fun Λ μ as KK => ∃ (v0 : Nat) (v1 : Nat) (K : hx_L → hx_M → Prop), as = [.ref v0, .ref v1] ∧ wX2_init Λ μ v0 v1 K ∧ (∀ (Λ1 : hx_L) (m : hx_M), K Λ1 m → KK none Λ1 m)
theorem sX2_init_mk {Λ : hx_L} {μ : hx_M} {KK : hx_KT} {v0 : Nat} {v1 : Nat} {K : hx_L → hx_M → Prop}  (hw : wX2_init Λ μ v0 v1 K) (hk : ∀ (Λ1 : hx_L) (m : hx_M), K Λ1 m → KK none Λ1 m) : sX2_init Λ μ [.ref v0, .ref v1] KK := ⟨_, _, _, rfl, hw, hk⟩
theorem conX2_init : hx_Con yX2_init cX2_init 2 (none) 1 3 2102 sX2_init := by
  refine hx_con_ofA (by decide +kernel) tokX2 taokX2_init (Or.inr rfl) (by decide) ?_ ?_
  · intro Λ μ as KK h
    obtain ⟨v0, v1, K, rfl, hw, hK⟩ := h
    exact Nat.le_of_ble_eq_true rfl
  · intro G KK hG hM cA Λ μ as h
    obtain ⟨v0, v1, K, rfl, hw, hK⟩ := h
    exact cl_sub hG (hx_le_c rfl (hx_le_c rfl hx_le_0)) (kX2_init hG hM cA _ _ hK hw)
/-! HemLine.within(III)Z -/
def tbX11_within_0 : List (Nat × Instr × Nat) := [(0, .iload_n 0, 1), (1, .iload_n 1, 1), (2, .if_icmp .lt 12, 3), (5, .iload_n 0, 1), (6, .iload_n 2, 1), (7, .if_icmp .gt 7, 3), (10, .iconst 1, 1), (11, .goto 4, 3), (14, .iconst 0, 1), (15, .ireturn, 1)]
theorem tdX11_within_0 : hx_dt cX11_within tbX11_within_0 = true := by decide +kernel
def wX11_within  (v0 : Int32) (v1 : Int32) (v2 : Int32) (K : Int32 → Prop) : Prop := (v0 < v1 → (K 0)) ∧ (¬ (v0 < v1) → ((v2 < v0 → (K 0)) ∧ (¬ (v2 < v0) → (K 1))))
set_option maxRecDepth 100000 in
set_option maxHeartbeats 4000000 in
theorem kX11_within {G : hx_GT} {KK : hx_KT} (hG : hx_K cX11_within 3 0 0 (some .boolean) TbX11 KK G) (cA : hx_CA RX11 cX11_within 1 0 0 G) {Λ : hx_L}  {μ : hx_M} (v0 : Int32) (v1 : Int32) (v2 : Int32) {K : Int32 → Prop} (hK : ∀ (r : Int32), K r → KK (some (.int r)) Λ μ) (hw : wX11_within v0 v1 v2 K) : G Λ μ (0, 0) 0 [some (.int v0), some (.int v1), some (.int v2)] [] := by
  unfold wX11_within at hw
  refine cl_iload_n hG (hx_dq tdX11_within_0 0 rfl) rfl (cl_iload_n hG (hx_dq tdX11_within_0 1 rfl) rfl (cl_icmp_lt hG 14 (hx_dq tdX11_within_0 2 rfl) rfl (fun c2 => ?_) (fun c2 => ?_)))
  · replace hw := hw.1 c2
    exact cl_iconst hG 0 (hx_dq tdX11_within_0 8 rfl) iconst_0 (cl_iret hG (hx_dq tdX11_within_0 9 rfl) rfl rfl (hK _ hw) (Nat.le_refl _) (Nat.le_refl _))
  · replace hw := hw.2 c2
    refine cl_iload_n hG (hx_dq tdX11_within_0 3 rfl) rfl (cl_iload_n hG (hx_dq tdX11_within_0 4 rfl) rfl (cl_icmp_gt hG 14 (hx_dq tdX11_within_0 5 rfl) rfl (fun c7 => ?_) (fun c7 => ?_)))
    · replace hw := hw.1 c7
      exact cl_iconst hG 0 (hx_dq tdX11_within_0 8 rfl) iconst_0 (cl_iret hG (hx_dq tdX11_within_0 9 rfl) rfl rfl (hK _ hw) (Nat.le_refl _) (Nat.le_refl _))
    · replace hw := hw.2 c7
      exact cl_iconst hG 1 (hx_dq tdX11_within_0 6 rfl) iconst_1 (cl_goto hG 15 (hx_dq tdX11_within_0 7 rfl) rfl (cl_iret hG (hx_dq tdX11_within_0 9 rfl) rfl rfl (hK _ hw) (Nat.le_refl _) (Nat.le_refl _)))
def sX11_within : hx_ST := fun Λ μ as KK => ∃ (v0 : Int32) (v1 : Int32) (v2 : Int32) (K : Int32 → Prop), as = [.int v0, .int v1, .int v2] ∧ wX11_within v0 v1 v2 K ∧ (∀ (r : Int32), K r → KK (some (.int r)) Λ μ)
theorem sX11_within_mk {Λ : hx_L} {μ : hx_M} {KK : hx_KT} {v0 : Int32} {v1 : Int32} {v2 : Int32} {K : Int32 → Prop}  (hw : wX11_within v0 v1 v2 K) (hk : ∀ (r : Int32), K r → KK (some (.int r)) Λ μ) : sX11_within Λ μ [.int v0, .int v1, .int v2] KK := ⟨_, _, _, _, rfl, hw, hk⟩
theorem conX11_within : hx_Con yX11_within cX11_within 3 (some .boolean) 1 0 0 sX11_within := by
  refine hx_con_of (by decide +kernel) tokX11 (by decide) ?_ ?_
  · intro Λ μ as KK h
    obtain ⟨v0, v1, v2, K, rfl, hw, hK⟩ := h
    exact Nat.le_of_ble_eq_true rfl
  · intro G KK hG cA Λ μ as h
    obtain ⟨v0, v1, v2, K, rfl, hw, hK⟩ := h
    exact cl_sub hG (hx_le_c rfl (hx_le_c rfl (hx_le_c rfl hx_le_0))) (kX11_within hG cA _ _ _ hK hw)
/-! HemLine$LawReader.isLetter(I)Z -/
def tbX2_isLetter_0 : List (Nat × Instr × Nat) := [(0, .iload_n 0, 1), (1, .bipush 97, 2), (3, .if_icmp .lt 13, 3), (6, .iload_n 0, 1), (7, .bipush 122, 2), (9, .if_icmp .gt 7, 3), (12, .iconst 1, 1), (13, .goto 4, 3), (16, .iconst 0, 1), (17, .ireturn, 1)]
theorem tdX2_isLetter_0 : hx_dt cX2_isLetter tbX2_isLetter_0 = true := by decide +kernel
def wX2_isLetter  (v0 : Int32) (K : Int32 → Prop) : Prop := (v0 < 97 → (K 0)) ∧ (¬ (v0 < 97) → ((122 < v0 → (K 0)) ∧ (¬ (122 < v0) → (K 1))))
set_option maxRecDepth 100000 in
set_option maxHeartbeats 4000000 in
theorem kX2_isLetter {G : hx_GT} {KK : hx_KT} (hG : hx_K cX2_isLetter 1 0 0 (some .boolean) TbX2 KK G) (cA : hx_CA RX2 cX2_isLetter 1 0 0 G) {Λ : hx_L}  {μ : hx_M} (v0 : Int32) {K : Int32 → Prop} (hK : ∀ (r : Int32), K r → KK (some (.int r)) Λ μ) (hw : wX2_isLetter v0 K) : G Λ μ (0, 0) 0 [some (.int v0)] [] := by
  unfold wX2_isLetter at hw
  refine cl_iload_n hG (hx_dq tdX2_isLetter_0 0 rfl) rfl (cl_bipush hG 97 (hx_dq tdX2_isLetter_0 1 rfl) bipush_97 (cl_icmp_lt hG 16 (hx_dq tdX2_isLetter_0 2 rfl) rfl (fun c3 => ?_) (fun c3 => ?_)))
  · replace hw := hw.1 c3
    exact cl_iconst hG 0 (hx_dq tdX2_isLetter_0 8 rfl) iconst_0 (cl_iret hG (hx_dq tdX2_isLetter_0 9 rfl) rfl rfl (hK _ hw) (Nat.le_refl _) (Nat.le_refl _))
  · replace hw := hw.2 c3
    refine cl_iload_n hG (hx_dq tdX2_isLetter_0 3 rfl) rfl (cl_bipush hG 122 (hx_dq tdX2_isLetter_0 4 rfl) bipush_122 (cl_icmp_gt hG 16 (hx_dq tdX2_isLetter_0 5 rfl) rfl (fun c9 => ?_) (fun c9 => ?_)))
    · replace hw := hw.1 c9
      exact cl_iconst hG 0 (hx_dq tdX2_isLetter_0 8 rfl) iconst_0 (cl_iret hG (hx_dq tdX2_isLetter_0 9 rfl) rfl rfl (hK _ hw) (Nat.le_refl _) (Nat.le_refl _))
    · replace hw := hw.2 c9
      exact cl_iconst hG 1 (hx_dq tdX2_isLetter_0 6 rfl) iconst_1 (cl_goto hG 17 (hx_dq tdX2_isLetter_0 7 rfl) rfl (cl_iret hG (hx_dq tdX2_isLetter_0 9 rfl) rfl rfl (hK _ hw) (Nat.le_refl _) (Nat.le_refl _)))
def sX2_isLetter : hx_ST := fun Λ μ as KK => ∃ (v0 : Int32) (K : Int32 → Prop), as = [.int v0] ∧ wX2_isLetter v0 K ∧ (∀ (r : Int32), K r → KK (some (.int r)) Λ μ)
theorem sX2_isLetter_mk {Λ : hx_L} {μ : hx_M} {KK : hx_KT} {v0 : Int32} {K : Int32 → Prop}  (hw : wX2_isLetter v0 K) (hk : ∀ (r : Int32), K r → KK (some (.int r)) Λ μ) : sX2_isLetter Λ μ [.int v0] KK := ⟨_, _, rfl, hw, hk⟩
theorem conX2_isLetter : hx_Con yX2_isLetter cX2_isLetter 1 (some .boolean) 1 0 0 sX2_isLetter := by
  refine hx_con_of (by decide +kernel) tokX2 (by decide) ?_ ?_
  · intro Λ μ as KK h
    obtain ⟨v0, K, rfl, hw, hK⟩ := h
    exact Nat.le_of_ble_eq_true rfl
  · intro G KK hG cA Λ μ as h
    obtain ⟨v0, K, rfl, hw, hK⟩ := h
    exact cl_sub hG (hx_le_c rfl hx_le_0) (kX2_isLetter hG cA _ hK hw)
/-! HemLine$LawReader.isDigit(I)Z -/
def tbX2_isDigit_0 : List (Nat × Instr × Nat) := [(0, .iload_n 0, 1), (1, .bipush 48, 2), (3, .if_icmp .lt 13, 3), (6, .iload_n 0, 1), (7, .bipush 57, 2), (9, .if_icmp .gt 7, 3), (12, .iconst 1, 1), (13, .goto 4, 3), (16, .iconst 0, 1), (17, .ireturn, 1)]
theorem tdX2_isDigit_0 : hx_dt cX2_isDigit tbX2_isDigit_0 = true := by decide +kernel
def wX2_isDigit  (v0 : Int32) (K : Int32 → Prop) : Prop := (v0 < 48 → (K 0)) ∧ (¬ (v0 < 48) → ((57 < v0 → (K 0)) ∧ (¬ (57 < v0) → (K 1))))
set_option maxRecDepth 100000 in
set_option maxHeartbeats 4000000 in
theorem kX2_isDigit {G : hx_GT} {KK : hx_KT} (hG : hx_K cX2_isDigit 1 0 0 (some .boolean) TbX2 KK G) (cA : hx_CA RX2 cX2_isDigit 1 0 0 G) {Λ : hx_L}  {μ : hx_M} (v0 : Int32) {K : Int32 → Prop} (hK : ∀ (r : Int32), K r → KK (some (.int r)) Λ μ) (hw : wX2_isDigit v0 K) : G Λ μ (0, 0) 0 [some (.int v0)] [] := by
  unfold wX2_isDigit at hw
  refine cl_iload_n hG (hx_dq tdX2_isDigit_0 0 rfl) rfl (cl_bipush hG 48 (hx_dq tdX2_isDigit_0 1 rfl) bipush_48 (cl_icmp_lt hG 16 (hx_dq tdX2_isDigit_0 2 rfl) rfl (fun c3 => ?_) (fun c3 => ?_)))
  · replace hw := hw.1 c3
    exact cl_iconst hG 0 (hx_dq tdX2_isDigit_0 8 rfl) iconst_0 (cl_iret hG (hx_dq tdX2_isDigit_0 9 rfl) rfl rfl (hK _ hw) (Nat.le_refl _) (Nat.le_refl _))
  · replace hw := hw.2 c3
    refine cl_iload_n hG (hx_dq tdX2_isDigit_0 3 rfl) rfl (cl_bipush hG 57 (hx_dq tdX2_isDigit_0 4 rfl) bipush_57 (cl_icmp_gt hG 16 (hx_dq tdX2_isDigit_0 5 rfl) rfl (fun c9 => ?_) (fun c9 => ?_)))
    · replace hw := hw.1 c9
      exact cl_iconst hG 0 (hx_dq tdX2_isDigit_0 8 rfl) iconst_0 (cl_iret hG (hx_dq tdX2_isDigit_0 9 rfl) rfl rfl (hK _ hw) (Nat.le_refl _) (Nat.le_refl _))
    · replace hw := hw.2 c9
      exact cl_iconst hG 1 (hx_dq tdX2_isDigit_0 6 rfl) iconst_1 (cl_goto hG 17 (hx_dq tdX2_isDigit_0 7 rfl) rfl (cl_iret hG (hx_dq tdX2_isDigit_0 9 rfl) rfl rfl (hK _ hw) (Nat.le_refl _) (Nat.le_refl _)))
def sX2_isDigit : hx_ST := fun Λ μ as KK => ∃ (v0 : Int32) (K : Int32 → Prop), as = [.int v0] ∧ wX2_isDigit v0 K ∧ (∀ (r : Int32), K r → KK (some (.int r)) Λ μ)
theorem sX2_isDigit_mk {Λ : hx_L} {μ : hx_M} {KK : hx_KT} {v0 : Int32} {K : Int32 → Prop}  (hw : wX2_isDigit v0 K) (hk : ∀ (r : Int32), K r → KK (some (.int r)) Λ μ) : sX2_isDigit Λ μ [.int v0] KK := ⟨_, _, rfl, hw, hk⟩
theorem conX2_isDigit : hx_Con yX2_isDigit cX2_isDigit 1 (some .boolean) 1 0 0 sX2_isDigit := by
  refine hx_con_of (by decide +kernel) tokX2 (by decide) ?_ ?_
  · intro Λ μ as KK h
    obtain ⟨v0, K, rfl, hw, hK⟩ := h
    exact Nat.le_of_ble_eq_true rfl
  · intro G KK hG cA Λ μ as h
    obtain ⟨v0, K, rfl, hw, hK⟩ := h
    exact cl_sub hG (hx_le_c rfl hx_le_0) (kX2_isDigit hG cA _ hK hw)
/-! HemLine$LawReader.endOfToken(I)I -/
def tbX2_endOfToken_0 : List (Nat × Instr × Nat) := [(0, .iload_n 1, 1), (1, .iconst 1, 1), (2, .iadd, 1), (3, .istore_n 2, 1), (4, .aload_n 0, 1), (5, .getfield 11, 3), (8, .iload_n 1, 1), (9, .baload, 1), (10, .invokestatic 65, 3), (13, .ifCond .eq 29, 3), (16, .iload_n 2, 1), (17, .aload_n 0, 1), (18, .getfield 15, 3), (21, .if_icmp .ge 59, 3), (24, .aload_n 0, 1), (25, .getfield 11, 3), (28, .iload_n 2, 1), (29, .baload, 1), (30, .invokestatic 65, 3), (33, .ifCond .eq 47, 3), (36, .iinc 2 1, 3), (39, .goto (-23), 3), (42, .aload_n 0, 1), (43, .getfield 11, 3), (46, .iload_n 1, 1), (47, .baload, 1), (48, .invokestatic 69, 3), (51, .ifCond .eq 29, 3), (54, .iload_n 2, 1), (55, .aload_n 0, 1), (56, .getfield 15, 3), (59, .if_icmp .ge 21, 3)]
def tbX2_endOfToken_1 : List (Nat × Instr × Nat) := [(62, .aload_n 0, 1), (63, .getfield 11, 3), (66, .iload_n 2, 1), (67, .baload, 1), (68, .invokestatic 69, 3), (71, .ifCond .eq 9, 3), (74, .iinc 2 1, 3), (77, .goto (-23), 3), (80, .iload_n 2, 1), (81, .ireturn, 1)]
theorem tdX2_endOfToken_0 : hx_dt cX2_endOfToken tbX2_endOfToken_0 = true := by decide +kernel
theorem tdX2_endOfToken_1 : hx_dt cX2_endOfToken tbX2_endOfToken_1 = true := by decide +kernel
theorem caX2_endOfToken_65 {G : hx_GT} (cA : hx_CA RX2 cX2_endOfToken 2 0 0 G) : hx_CS cX2_endOfToken G 0 0 65 1 sX2_isLetter 0 0 := cA.2.1 conX2_isLetter ⟨by decide +kernel, by decide +kernel, by decide +kernel⟩ mw_538 mw_539 mw_85 mw_540 (by decide) (by decide)
theorem caX2_endOfToken_69 {G : hx_GT} (cA : hx_CA RX2 cX2_endOfToken 2 0 0 G) : hx_CS cX2_endOfToken G 0 0 69 1 sX2_isDigit 0 0 := cA.2.1 conX2_isDigit ⟨by decide +kernel, by decide +kernel, by decide +kernel⟩ mw_541 mw_542 mw_85 mw_543 (by decide) (by decide)
def wX2_endOfToken_L54 (μ : hx_M) (K : Int32 → Prop)  : Nat → Int32 → Prop
  | 0, _ => False
  | n + 1, v2 => ((μ.1 2 1) ≤ v2 → (K v2)) ∧ (¬ ((μ.1 2 1) ≤ v2) → (vp_in v2 700 ∧ wX2_isDigit (μ.1 1 v2.toNatClampNeg) (fun r68_9 => (r68_9 = 0 → (K v2)) ∧ (¬ (r68_9 = 0) → (wX2_endOfToken_L54 μ K n (v2 + 1))))))
set_option maxRecDepth 100000 in
set_option maxHeartbeats 4000000 in
theorem kX2_endOfToken_L54 {G : hx_GT} {KK : hx_KT} (hG : hx_K cX2_endOfToken 3 0 0 (some .int) TbX2 KK G) (cA : hx_CA RX2 cX2_endOfToken 2 0 0 G) {Λ : hx_L} (hF : cF Λ) {μ : hx_M}  {K : Int32 → Prop} (hK : ∀ (r : Int32), K r → KK (some (.int r)) Λ μ)  : ∀ (n : Nat) (v2 : Int32), wX2_endOfToken_L54 μ K n v2 → G Λ μ (0, 0) 54 [some (.ref 2), none, some (.int v2)] [] := by
  intro n
  induction n with
  | zero =>
    intro v2 hw
    exact False.elim (by simpa only [wX2_endOfToken_L54] using hw)
  | succ n ih =>
    intro v2 hw
    unfold wX2_endOfToken_L54 at hw
    refine cl_iload_n hG (hx_dq tdX2_endOfToken_0 28 rfl) rfl (cl_aload_n hG (hx_dq tdX2_endOfToken_0 29 rfl) rfl (cl_getI hG fmX2_15 (hx_dq tdX2_endOfToken_0 30 rfl) (cF_S2 hF) (cl_icmp_ge hG 80 (hx_dq tdX2_endOfToken_0 31 rfl) rfl (fun c59 => ?_) (fun c59 => ?_))))
    · replace hw := hw.1 c59
      exact cl_iload_n hG (hx_dq tdX2_endOfToken_1 8 rfl) rfl (cl_iret hG (hx_dq tdX2_endOfToken_1 9 rfl) rfl rfl (hK _ hw) (Nat.le_refl _) (Nat.le_refl _))
    · replace hw := hw.2 c59
      obtain ⟨i67_7, hw⟩ := hw
      refine cl_aload_n hG (hx_dq tdX2_endOfToken_1 0 rfl) rfl (cl_getS hG fmX2_11 (hx_dq tdX2_endOfToken_1 1 rfl) (cF_S2 hF) (cF_R2_0 hF) (cl_iload_n hG (hx_dq tdX2_endOfToken_1 2 rfl) rfl (cl_bald hG (hx_dq tdX2_endOfToken_1 3 rfl) (cF_S1 hF) i67_7 (cl_callS1 (caX2_endOfToken_69 cA) (hx_dq tdX2_endOfToken_1 4 rfl) (Nat.le_of_ble_eq_true rfl) (Nat.le_refl _) (Nat.le_refl _) (sX2_isDigit_mk hw (fun r68_9 hw => ?_))))))
      refine cl_if_eq hG 80 (hx_dq tdX2_endOfToken_1 5 rfl) rfl (fun c71 => ?_) (fun c71 => ?_)
      · replace hw := hw.1 c71
        exact cl_iload_n hG (hx_dq tdX2_endOfToken_1 8 rfl) rfl (cl_iret hG (hx_dq tdX2_endOfToken_1 9 rfl) rfl rfl (hK _ hw) (Nat.le_refl _) (Nat.le_refl _))
      · replace hw := hw.2 c71
        exact cl_iinc hG (v2 + 1) (hx_dq tdX2_endOfToken_1 6 rfl) rfl (congrArg (fun z => v2 + z) iconst_1) (Nat.le_of_ble_eq_true rfl) rfl (cl_goto hG 54 (hx_dq tdX2_endOfToken_1 7 rfl) rfl (cl_sub hG (hx_le_c rfl (hx_le_n (hx_le_c rfl hx_le_0))) (ih (v2 + 1) hw)))
def wX2_endOfToken_L16 (μ : hx_M) (K : Int32 → Prop)  : Nat → Int32 → Prop
  | 0, _ => False
  | n + 1, v2 => ((μ.1 2 1) ≤ v2 → (K v2)) ∧ (¬ ((μ.1 2 1) ≤ v2) → (vp_in v2 700 ∧ wX2_isLetter (μ.1 1 v2.toNatClampNeg) (fun r30_13 => (r30_13 = 0 → (K v2)) ∧ (¬ (r30_13 = 0) → (wX2_endOfToken_L16 μ K n (v2 + 1))))))
set_option maxRecDepth 100000 in
set_option maxHeartbeats 4000000 in
theorem kX2_endOfToken_L16 {G : hx_GT} {KK : hx_KT} (hG : hx_K cX2_endOfToken 3 0 0 (some .int) TbX2 KK G) (cA : hx_CA RX2 cX2_endOfToken 2 0 0 G) {Λ : hx_L} (hF : cF Λ) {μ : hx_M}  {K : Int32 → Prop} (hK : ∀ (r : Int32), K r → KK (some (.int r)) Λ μ)  : ∀ (n : Nat) (v2 : Int32), wX2_endOfToken_L16 μ K n v2 → G Λ μ (0, 0) 16 [some (.ref 2), none, some (.int v2)] [] := by
  intro n
  induction n with
  | zero =>
    intro v2 hw
    exact False.elim (by simpa only [wX2_endOfToken_L16] using hw)
  | succ n ih =>
    intro v2 hw
    unfold wX2_endOfToken_L16 at hw
    refine cl_iload_n hG (hx_dq tdX2_endOfToken_0 10 rfl) rfl (cl_aload_n hG (hx_dq tdX2_endOfToken_0 11 rfl) rfl (cl_getI hG fmX2_15 (hx_dq tdX2_endOfToken_0 12 rfl) (cF_S2 hF) (cl_icmp_ge hG 80 (hx_dq tdX2_endOfToken_0 13 rfl) rfl (fun c21 => ?_) (fun c21 => ?_))))
    · replace hw := hw.1 c21
      exact cl_iload_n hG (hx_dq tdX2_endOfToken_1 8 rfl) rfl (cl_iret hG (hx_dq tdX2_endOfToken_1 9 rfl) rfl rfl (hK _ hw) (Nat.le_refl _) (Nat.le_refl _))
    · replace hw := hw.2 c21
      obtain ⟨i29_11, hw⟩ := hw
      refine cl_aload_n hG (hx_dq tdX2_endOfToken_0 14 rfl) rfl (cl_getS hG fmX2_11 (hx_dq tdX2_endOfToken_0 15 rfl) (cF_S2 hF) (cF_R2_0 hF) (cl_iload_n hG (hx_dq tdX2_endOfToken_0 16 rfl) rfl (cl_bald hG (hx_dq tdX2_endOfToken_0 17 rfl) (cF_S1 hF) i29_11 (cl_callS1 (caX2_endOfToken_65 cA) (hx_dq tdX2_endOfToken_0 18 rfl) (Nat.le_of_ble_eq_true rfl) (Nat.le_refl _) (Nat.le_refl _) (sX2_isLetter_mk hw (fun r30_13 hw => ?_))))))
      refine cl_if_eq hG 80 (hx_dq tdX2_endOfToken_0 19 rfl) rfl (fun c33 => ?_) (fun c33 => ?_)
      · replace hw := hw.1 c33
        exact cl_iload_n hG (hx_dq tdX2_endOfToken_1 8 rfl) rfl (cl_iret hG (hx_dq tdX2_endOfToken_1 9 rfl) rfl rfl (hK _ hw) (Nat.le_refl _) (Nat.le_refl _))
      · replace hw := hw.2 c33
        exact cl_iinc hG (v2 + 1) (hx_dq tdX2_endOfToken_0 20 rfl) rfl (congrArg (fun z => v2 + z) iconst_1) (Nat.le_of_ble_eq_true rfl) rfl (cl_goto hG 16 (hx_dq tdX2_endOfToken_0 21 rfl) rfl (cl_sub hG (hx_le_c rfl (hx_le_n (hx_le_c rfl hx_le_0))) (ih (v2 + 1) hw)))
def wX2_endOfToken (μ : hx_M) (v1 : Int32) (K : Int32 → Prop) : Prop := vp_in v1 700 ∧ wX2_isLetter (μ.1 1 v1.toNatClampNeg) (fun r10_3 => (r10_3 = 0 → (vp_in v1 700 ∧ wX2_isDigit (μ.1 1 v1.toNatClampNeg) (fun r48_6 => (r48_6 = 0 → (K (v1 + 1))) ∧ (¬ (r48_6 = 0) → (∃ n54_10, wX2_endOfToken_L54 μ K n54_10 (v1 + 1)))))) ∧ (¬ (r10_3 = 0) → (∃ n16_14, wX2_endOfToken_L16 μ K n16_14 (v1 + 1))))
set_option maxRecDepth 100000 in
set_option maxHeartbeats 4000000 in
theorem kX2_endOfToken {G : hx_GT} {KK : hx_KT} (hG : hx_K cX2_endOfToken 3 0 0 (some .int) TbX2 KK G) (cA : hx_CA RX2 cX2_endOfToken 2 0 0 G) {Λ : hx_L} (hF : cF Λ) {μ : hx_M} (v1 : Int32) {K : Int32 → Prop} (hK : ∀ (r : Int32), K r → KK (some (.int r)) Λ μ) (hw : wX2_endOfToken μ v1 K) : G Λ μ (0, 0) 0 [some (.ref 2), some (.int v1), none] [] := by
  unfold wX2_endOfToken at hw
  obtain ⟨i9_1, hw⟩ := hw
  refine cl_iload_n hG (hx_dq tdX2_endOfToken_0 0 rfl) rfl (cl_iconst hG 1 (hx_dq tdX2_endOfToken_0 1 rfl) iconst_1 (cl_iadd hG (hx_dq tdX2_endOfToken_0 2 rfl) (cl_istore_n hG (hx_dq tdX2_endOfToken_0 3 rfl) (Nat.le_of_ble_eq_true rfl) rfl (cl_aload_n hG (hx_dq tdX2_endOfToken_0 4 rfl) rfl (cl_getS hG fmX2_11 (hx_dq tdX2_endOfToken_0 5 rfl) (cF_S2 hF) (cF_R2_0 hF) (cl_iload_n hG (hx_dq tdX2_endOfToken_0 6 rfl) rfl (cl_bald hG (hx_dq tdX2_endOfToken_0 7 rfl) (cF_S1 hF) i9_1 (cl_callS1 (caX2_endOfToken_65 cA) (hx_dq tdX2_endOfToken_0 8 rfl) (Nat.le_of_ble_eq_true rfl) (Nat.le_refl _) (Nat.le_refl _) (sX2_isLetter_mk hw (fun r10_3 hw => ?_))))))))))
  refine cl_if_eq hG 42 (hx_dq tdX2_endOfToken_0 9 rfl) rfl (fun c13 => ?_) (fun c13 => ?_)
  · replace hw := hw.1 c13
    obtain ⟨i47_4, hw⟩ := hw
    refine cl_aload_n hG (hx_dq tdX2_endOfToken_0 22 rfl) rfl (cl_getS hG fmX2_11 (hx_dq tdX2_endOfToken_0 23 rfl) (cF_S2 hF) (cF_R2_0 hF) (cl_iload_n hG (hx_dq tdX2_endOfToken_0 24 rfl) rfl (cl_bald hG (hx_dq tdX2_endOfToken_0 25 rfl) (cF_S1 hF) i47_4 (cl_callS1 (caX2_endOfToken_69 cA) (hx_dq tdX2_endOfToken_0 26 rfl) (Nat.le_of_ble_eq_true rfl) (Nat.le_refl _) (Nat.le_refl _) (sX2_isDigit_mk hw (fun r48_6 hw => ?_))))))
    refine cl_if_eq hG 80 (hx_dq tdX2_endOfToken_0 27 rfl) rfl (fun c51 => ?_) (fun c51 => ?_)
    · replace hw := hw.1 c51
      exact cl_iload_n hG (hx_dq tdX2_endOfToken_1 8 rfl) rfl (cl_iret hG (hx_dq tdX2_endOfToken_1 9 rfl) rfl rfl (hK _ hw) (Nat.le_refl _) (Nat.le_refl _))
    · replace hw := hw.2 c51
      obtain ⟨n_, hw⟩ := hw
      refine cl_sub hG (hx_le_c rfl (hx_le_n (hx_le_c rfl hx_le_0))) (kX2_endOfToken_L54 hG cA hF hK n_ (v1 + 1) hw)
  · replace hw := hw.2 c13
    obtain ⟨n_, hw⟩ := hw
    refine cl_sub hG (hx_le_c rfl (hx_le_n (hx_le_c rfl hx_le_0))) (kX2_endOfToken_L16 hG cA hF hK n_ (v1 + 1) hw)
def sX2_endOfToken : hx_ST := fun Λ μ as KK => cF Λ ∧ ∃ (v1 : Int32) (K : Int32 → Prop), as = [.ref 2, .int v1] ∧ wX2_endOfToken μ v1 K ∧ (∀ (r : Int32), K r → KK (some (.int r)) Λ μ)
theorem sX2_endOfToken_mk {Λ : hx_L} {μ : hx_M} {KK : hx_KT} {v1 : Int32} {K : Int32 → Prop} (hF : cF Λ) (hw : wX2_endOfToken μ v1 K) (hk : ∀ (r : Int32), K r → KK (some (.int r)) Λ μ) : sX2_endOfToken Λ μ [.ref 2, .int v1] KK := ⟨hF, _, _, rfl, hw, hk⟩
theorem conX2_endOfToken : hx_Con yX2_endOfToken cX2_endOfToken 3 (some .int) 2 0 0 sX2_endOfToken := by
  refine hx_con_of (by decide +kernel) tokX2 (by decide) ?_ ?_
  · intro Λ μ as KK h
    obtain ⟨hF, v1, K, rfl, hw, hK⟩ := h
    exact Nat.le_of_ble_eq_true rfl
  · intro G KK hG cA Λ μ as h
    obtain ⟨hF, v1, K, rfl, hw, hK⟩ := h
    exact cl_sub hG (hx_le_c rfl (hx_le_c rfl (hx_le_n hx_le_0))) (kX2_endOfToken hG cA hF _ hK hw)
/-! java/lang/String.isLatin1()Z -/
def tbJ0_isLatin1_aae02_0 : List (Nat × Instr × Nat) := [(0, .getstatic 38, 3), (3, .ifCond .eq 14, 3), (6, .aload_n 0, 1), (7, .getfield 15, 3), (10, .ifCond .ne 7, 3), (13, .iconst 1, 1), (14, .goto 4, 3), (17, .iconst 0, 1), (18, .ireturn, 1)]
theorem tdJ0_isLatin1_aae02_0 : hx_dt cJ0_isLatin1_aae02 tbJ0_isLatin1_aae02_0 = true := by decide +kernel
def wJ0_isLatin1_aae02   (K : Int32 → Prop) : Prop := ((1 : Int32) = 0 → (K 0)) ∧ (¬ ((1 : Int32) = 0) → (((0 : Int32) ≠ 0 → (K 0)) ∧ ((0 : Int32) = 0 → (K 1))))
set_option maxRecDepth 100000 in
set_option maxHeartbeats 4000000 in
theorem kJ0_isLatin1_aae02 {G : hx_GT} {KK : hx_KT} (hG : hx_K cJ0_isLatin1_aae02 1 0 0 (some .boolean) TbJ0 KK G) (hS : hx_KS RJ0 cJ0_isLatin1_aae02 1 G) (cA : hx_CA RJ0 cJ0_isLatin1_aae02 1 0 0 G) {Λ : hx_L}  {μ : hx_M}  {K : Int32 → Prop} (hK : ∀ (r : Int32), K r → KK (some (.int r)) Λ μ) (hw : wJ0_isLatin1_aae02 K) : G Λ μ (0, 0) 0 [some (.retAddr 0)] [] := by
  unfold wJ0_isLatin1_aae02 at hw
  refine hS.2.1 _ mw_561 _ (hx_dq tdJ0_isLatin1_aae02_0 0 rfl) _ _ _ _ _ ((cl_if_eq hG 17 (hx_dq tdJ0_isLatin1_aae02_0 1 rfl) rfl (fun c3 => ?_) (fun c3 => ?_)))
  · replace hw := hw.1 c3
    exact cl_iconst hG 0 (hx_dq tdJ0_isLatin1_aae02_0 7 rfl) iconst_0 (cl_iret hG (hx_dq tdJ0_isLatin1_aae02_0 8 rfl) rfl rfl (hK _ hw) (Nat.le_refl _) (Nat.le_refl _))
  · replace hw := hw.2 c3
    refine hS.2.2.2.2.2.2.2.2.1 _ _ _ (hx_dq tdJ0_isLatin1_aae02_0 2 rfl) _ _ _ _ _ rfl ((hS.2.2.2.2.1 _ mw_1708 _ (hx_dq tdJ0_isLatin1_aae02_0 3 rfl) _ _ _ _ _ ((cl_if_ne hG 17 (hx_dq tdJ0_isLatin1_aae02_0 4 rfl) rfl (fun c10 => ?_) (fun c10 => ?_)))))
    · replace hw := hw.1 c10
      exact cl_iconst hG 0 (hx_dq tdJ0_isLatin1_aae02_0 7 rfl) iconst_0 (cl_iret hG (hx_dq tdJ0_isLatin1_aae02_0 8 rfl) rfl rfl (hK _ hw) (Nat.le_refl _) (Nat.le_refl _))
    · replace hw := hw.2 c10
      exact cl_iconst hG 1 (hx_dq tdJ0_isLatin1_aae02_0 5 rfl) iconst_1 (cl_goto hG 18 (hx_dq tdJ0_isLatin1_aae02_0 6 rfl) rfl (cl_iret hG (hx_dq tdJ0_isLatin1_aae02_0 8 rfl) rfl rfl (hK _ hw) (Nat.le_refl _) (Nat.le_refl _)))
def sJ0_isLatin1_aae02 : hx_ST := fun Λ μ as KK => ∃ (K : Int32 → Prop), as = [.retAddr 0] ∧ wJ0_isLatin1_aae02 K ∧ (∀ (r : Int32), K r → KK (some (.int r)) Λ μ)
theorem sJ0_isLatin1_aae02_mk {Λ : hx_L} {μ : hx_M} {KK : hx_KT}  {K : Int32 → Prop}  (hw : wJ0_isLatin1_aae02 K) (hk : ∀ (r : Int32), K r → KK (some (.int r)) Λ μ) : sJ0_isLatin1_aae02 Λ μ [.retAddr 0] KK := ⟨_, rfl, hw, hk⟩
theorem conJ0_isLatin1_aae02 : hx_Con yJ0_isLatin1_aae02 cJ0_isLatin1_aae02 1 (some .boolean) 1 0 0 sJ0_isLatin1_aae02 := by
  refine hx_con_ofS (by decide +kernel) tokJ0 (by decide) ?_ ?_
  · intro Λ μ as KK h
    obtain ⟨K, rfl, hw, hK⟩ := h
    exact Nat.le_of_ble_eq_true rfl
  · intro G KK hG hS cA Λ μ as h
    obtain ⟨K, rfl, hw, hK⟩ := h
    exact cl_sub hG (hx_le_c rfl hx_le_0) (kJ0_isLatin1_aae02 hG hS cA hK hw)
/-! jdk/internal/util/Preconditions.checkIndex(IILjava/util/function/BiFunction;)I -/
def tbJ3_checkIndex_8e157_0 : List (Nat × Instr × Nat) := [(0, .iload_n 0, 1), (1, .ifCond .lt 8, 3), (4, .iload_n 0, 1), (5, .iload_n 1, 1), (6, .if_icmp .lt 10, 3), (9, .aload_n 2, 1), (10, .iload_n 0, 1), (11, .iload_n 1, 1), (12, .invokestatic 95, 3), (15, .athrow, 1), (16, .iload_n 0, 1), (17, .ireturn, 1)]
theorem tdJ3_checkIndex_8e157_0 : hx_dt cJ3_checkIndex_8e157 tbJ3_checkIndex_8e157_0 = true := by decide +kernel
def wJ3_checkIndex_8e157_J9  (K : Int32 → Prop)  (v0 : Int32) (v1 : Int32) (v2 : Value)   : Prop := False
set_option maxRecDepth 100000 in
set_option maxHeartbeats 4000000 in
theorem kJ3_checkIndex_8e157_J9 {G : hx_GT} {KK : hx_KT} (hG : hx_K cJ3_checkIndex_8e157 3 0 0 (some .int) TbJ3 KK G) (hS : hx_KS RJ3 cJ3_checkIndex_8e157 1 G) (cA : hx_CA RJ3 cJ3_checkIndex_8e157 1 0 0 G) {Λ : hx_L}  {μ : hx_M} (v0 : Int32) (v1 : Int32) (v2 : Value)  {K : Int32 → Prop} (hK : ∀ (r : Int32), K r → KK (some (.int r)) Λ μ)  (hw : wJ3_checkIndex_8e157_J9 K v0 v1 v2) : G Λ μ (0, 0) 9 [some (.int v0), some (.int v1), some (v2)] [] := by
  unfold wJ3_checkIndex_8e157_J9 at hw
  exact hw.elim
def wJ3_checkIndex_8e157  (v0 : Int32) (v1 : Int32) (v2 : Value) (K : Int32 → Prop) : Prop := (v0 < 0 → (wJ3_checkIndex_8e157_J9 K v0 v1 v2)) ∧ (¬ (v0 < 0) → ((v0 < v1 → (K v0)) ∧ (¬ (v0 < v1) → (wJ3_checkIndex_8e157_J9 K v0 v1 v2))))
set_option maxRecDepth 100000 in
set_option maxHeartbeats 4000000 in
theorem kJ3_checkIndex_8e157 {G : hx_GT} {KK : hx_KT} (hG : hx_K cJ3_checkIndex_8e157 3 0 0 (some .int) TbJ3 KK G) (hS : hx_KS RJ3 cJ3_checkIndex_8e157 1 G) (cA : hx_CA RJ3 cJ3_checkIndex_8e157 1 0 0 G) {Λ : hx_L}  {μ : hx_M} (v0 : Int32) (v1 : Int32) (v2 : Value) {K : Int32 → Prop} (hK : ∀ (r : Int32), K r → KK (some (.int r)) Λ μ) (hw : wJ3_checkIndex_8e157 v0 v1 v2 K) : G Λ μ (0, 0) 0 [some (.int v0), some (.int v1), some (v2)] [] := by
  unfold wJ3_checkIndex_8e157 at hw
  refine cl_iload_n hG (hx_dq tdJ3_checkIndex_8e157_0 0 rfl) rfl (cl_if_lt hG 9 (hx_dq tdJ3_checkIndex_8e157_0 1 rfl) rfl (fun c1 => ?_) (fun c1 => ?_))
  · replace hw := hw.1 c1
    exact cl_sub hG (hx_le_c rfl (hx_le_c rfl (hx_le_c rfl hx_le_0))) (kJ3_checkIndex_8e157_J9 hG hS cA v0 v1 v2 hK hw)
  · replace hw := hw.2 c1
    refine cl_iload_n hG (hx_dq tdJ3_checkIndex_8e157_0 2 rfl) rfl (cl_iload_n hG (hx_dq tdJ3_checkIndex_8e157_0 3 rfl) rfl (cl_icmp_lt hG 16 (hx_dq tdJ3_checkIndex_8e157_0 4 rfl) rfl (fun c6 => ?_) (fun c6 => ?_)))
    · replace hw := hw.1 c6
      exact cl_iload_n hG (hx_dq tdJ3_checkIndex_8e157_0 10 rfl) rfl (cl_iret hG (hx_dq tdJ3_checkIndex_8e157_0 11 rfl) rfl rfl (hK _ hw) (Nat.le_refl _) (Nat.le_refl _))
    · replace hw := hw.2 c6
      exact cl_sub hG (hx_le_c rfl (hx_le_c rfl (hx_le_c rfl hx_le_0))) (kJ3_checkIndex_8e157_J9 hG hS cA v0 v1 v2 hK hw)
def sJ3_checkIndex_8e157 : hx_ST := fun Λ μ as KK => ∃ (v0 : Int32) (v1 : Int32) (v2 : Value) (K : Int32 → Prop), as = [.int v0, .int v1, v2] ∧ v2.category = 1 ∧ wJ3_checkIndex_8e157 v0 v1 v2 K ∧ (∀ (r : Int32), K r → KK (some (.int r)) Λ μ)
theorem sJ3_checkIndex_8e157_mk {Λ : hx_L} {μ : hx_M} {KK : hx_KT} {v0 : Int32} {v1 : Int32} {v2 : Value} {K : Int32 → Prop}  (hc : v2.category = 1) (hw : wJ3_checkIndex_8e157 v0 v1 v2 K) (hk : ∀ (r : Int32), K r → KK (some (.int r)) Λ μ) : sJ3_checkIndex_8e157 Λ μ [.int v0, .int v1, v2] KK := ⟨_, _, _, _, rfl, hc, hw, hk⟩
theorem conJ3_checkIndex_8e157 : hx_Con yJ3_checkIndex_8e157 cJ3_checkIndex_8e157 3 (some .int) 1 0 0 sJ3_checkIndex_8e157 := by
  refine hx_con_ofS (by decide +kernel) tokJ3 (by decide) ?_ ?_
  · intro Λ μ as KK h
    obtain ⟨v0, v1, v2, K, rfl, hc, hw, hK⟩ := h
    cases v2 <;> first | (cases hc; done) | exact Nat.le_of_ble_eq_true rfl
  · intro G KK hG hS cA Λ μ as h
    obtain ⟨v0, v1, v2, K, rfl, hc, hw, hK⟩ := h
    cases v2 <;> first | (cases hc; done) | exact cl_sub hG (hx_le_c rfl (hx_le_c rfl (hx_le_c rfl hx_le_0))) (kJ3_checkIndex_8e157 hG hS cA _ _ _ hK hw)
/-! java/lang/String.checkIndex(II)V -/
def tbJ0_checkIndex_df160_0 : List (Nat × Instr × Nat) := [(0, .iload_n 0, 1), (1, .iload_n 1, 1), (2, .getstatic 1053, 3), (5, .invokestatic 1059, 3), (8, .pop, 1), (9, .return_, 1)]
theorem tdJ0_checkIndex_df160_0 : hx_dt cJ0_checkIndex_df160 tbJ0_checkIndex_df160_0 = true := by decide +kernel
theorem caJ0_checkIndex_df160_1059 {G : hx_GT} (cA : hx_CA RJ0 cJ0_checkIndex_df160 2 0 0 G) : hx_CS cJ0_checkIndex_df160 G 0 0 1059 3 sJ3_checkIndex_8e157 0 0 := cA.2.1 conJ3_checkIndex_8e157 ⟨by decide +kernel, by decide +kernel, by decide +kernel⟩ mw_571 mw_572 mw_100 mw_573 (by decide) (by decide)
def wJ0_checkIndex_df160  (v0 : Int32) (v1 : Int32) (K : Prop) : Prop := ∀ sv_1 : Value, sv_1.category = 1 → wJ3_checkIndex_8e157 v0 v1 sv_1 (fun r5_3 => K)
set_option maxRecDepth 100000 in
set_option maxHeartbeats 4000000 in
theorem kJ0_checkIndex_df160 {G : hx_GT} {KK : hx_KT} (hG : hx_K cJ0_checkIndex_df160 2 0 0 (none) TbJ0 KK G) (hS : hx_KS RJ0 cJ0_checkIndex_df160 2 G) (cA : hx_CA RJ0 cJ0_checkIndex_df160 2 0 0 G) {Λ : hx_L}  {μ : hx_M} (v0 : Int32) (v1 : Int32) {K : Prop} (hK : K → KK none Λ μ) (hw : wJ0_checkIndex_df160 v0 v1 K) : G Λ μ (0, 0) 0 [some (.int v0), some (.int v1)] [] := by
  unfold wJ0_checkIndex_df160 at hw
  refine cl_iload_n hG (hx_dq tdJ0_checkIndex_df160_0 0 rfl) rfl (cl_iload_n hG (hx_dq tdJ0_checkIndex_df160_0 1 rfl) rfl (hS.2.2.1 _ mw_569 _ (hx_dq tdJ0_checkIndex_df160_0 2 rfl) _ _ _ _ _ (fun sv_1 hsv_1 => ?_)))
  replace hw := hw sv_1 hsv_1
  refine cl_callS3 (caJ0_checkIndex_df160_1059 cA) (hx_dq tdJ0_checkIndex_df160_0 3 rfl) (Nat.le_of_ble_eq_true rfl) (Nat.le_refl _) (Nat.le_refl _) (sJ3_checkIndex_8e157_mk hsv_1 hw (fun r5_3 hw => ?_))
  exact cl_pop hG (hx_dq tdJ0_checkIndex_df160_0 4 rfl) rfl (cl_vret hG (hx_dq tdJ0_checkIndex_df160_0 5 rfl) rfl (hK hw) (Nat.le_refl _) (Nat.le_refl _))
def sJ0_checkIndex_df160 : hx_ST := fun Λ μ as KK => ∃ (v0 : Int32) (v1 : Int32) (K : Prop), as = [.int v0, .int v1] ∧ wJ0_checkIndex_df160 v0 v1 K ∧ (K → KK none Λ μ)
theorem sJ0_checkIndex_df160_mk {Λ : hx_L} {μ : hx_M} {KK : hx_KT} {v0 : Int32} {v1 : Int32} {K : Prop}  (hw : wJ0_checkIndex_df160 v0 v1 K) (hk : K → KK none Λ μ) : sJ0_checkIndex_df160 Λ μ [.int v0, .int v1] KK := ⟨_, _, _, rfl, hw, hk⟩
theorem conJ0_checkIndex_df160 : hx_Con yJ0_checkIndex_df160 cJ0_checkIndex_df160 2 (none) 2 0 0 sJ0_checkIndex_df160 := by
  refine hx_con_ofS (by decide +kernel) tokJ0 (by decide) ?_ ?_
  · intro Λ μ as KK h
    obtain ⟨v0, v1, K, rfl, hw, hK⟩ := h
    exact Nat.le_of_ble_eq_true rfl
  · intro G KK hG hS cA Λ μ as h
    obtain ⟨v0, v1, K, rfl, hw, hK⟩ := h
    exact cl_sub hG (hx_le_c rfl (hx_le_c rfl hx_le_0)) (kJ0_checkIndex_df160 hG hS cA _ _ hK hw)
/-! java/lang/StringLatin1.charAt([BI)C -/
def tbJ1_charAt_3b067_0 : List (Nat × Instr × Nat) := [(0, .iload_n 1, 1), (1, .aload_n 0, 1), (2, .arraylength, 1), (3, .invokestatic 9, 3), (6, .aload_n 0, 1), (7, .iload_n 1, 1), (8, .baload, 1), (9, .sipush 255, 3), (12, .iand, 1), (13, .i2c, 1), (14, .ireturn, 1)]
theorem tdJ1_charAt_3b067_0 : hx_dt cJ1_charAt_3b067 tbJ1_charAt_3b067_0 = true := by decide +kernel
theorem caJ1_charAt_3b067_9 {G : hx_GT} (cA : hx_CA RJ1 cJ1_charAt_3b067 3 0 0 G) : hx_CS cJ1_charAt_3b067 G 0 0 9 2 sJ0_checkIndex_df160 0 0 := cA.2.1 conJ0_checkIndex_df160 ⟨by decide +kernel, by decide +kernel, by decide +kernel⟩ mw_566 mw_567 mw_98 mw_568 (by decide) (by decide)
def wJ1_charAt_3b067  (v1 : Int32) (K : Int32 → Prop) : Prop := wJ0_checkIndex_df160 v1 126 (vp_in v1 126 ∧ narrow .char (.int ((((hx_bytes.getD v1.toNatClampNeg 0) &&& 255 : Int32).toUInt32 % 65536).toInt32)) = .int ((((hx_bytes.getD v1.toNatClampNeg 0) &&& 255 : Int32).toUInt32 % 65536).toInt32) ∧ K ((((hx_bytes.getD v1.toNatClampNeg 0) &&& 255 : Int32).toUInt32 % 65536).toInt32))
set_option maxRecDepth 100000 in
set_option maxHeartbeats 4000000 in
theorem kJ1_charAt_3b067 {G : hx_GT} {KK : hx_KT} (hG : hx_K cJ1_charAt_3b067 2 0 0 (some .char) TbJ1 KK G) (hS : hx_KS RJ1 cJ1_charAt_3b067 3 G) (cA : hx_CA RJ1 cJ1_charAt_3b067 3 0 0 G) {Λ : hx_L}  {μ : hx_M} (v1 : Int32) {K : Int32 → Prop} (hK : ∀ (r : Int32), K r → KK (some (.int r)) Λ μ) (hw : wJ1_charAt_3b067 v1 K) : G Λ μ (0, 0) 0 [some (.retAddr 1), some (.int v1)] [] := by
  unfold wJ1_charAt_3b067 at hw
  refine cl_iload_n hG (hx_dq tdJ1_charAt_3b067_0 0 rfl) rfl (hS.2.2.2.2.2.2.2.2.1 _ _ _ (hx_dq tdJ1_charAt_3b067_0 1 rfl) _ _ _ _ _ rfl ((hS.2.2.2.2.2.1 _ (hx_dq tdJ1_charAt_3b067_0 2 rfl) _ _ _ _ _ ((cl_callS2 (caJ1_charAt_3b067_9 cA) (hx_dq tdJ1_charAt_3b067_0 3 rfl) (Nat.le_of_ble_eq_true rfl) (Nat.le_refl _) (Nat.le_refl _) (sJ0_checkIndex_df160_mk hw (fun hw => ?_)))))))
  obtain ⟨i8_3, hw⟩ := hw
  obtain ⟨b14, hw⟩ := hw
  exact hS.2.2.2.2.2.2.2.2.1 _ _ _ (hx_dq tdJ1_charAt_3b067_0 4 rfl) _ _ _ _ _ rfl ((cl_iload_n hG (hx_dq tdJ1_charAt_3b067_0 5 rfl) rfl (hS.2.2.2.2.2.2.1 _ i8_3 _ (hx_dq tdJ1_charAt_3b067_0 6 rfl) _ _ _ _ _ ((cl_sipush hG 255 (hx_dq tdJ1_charAt_3b067_0 7 rfl) sipush_255 (cl_iand hG (hx_dq tdJ1_charAt_3b067_0 8 rfl) (hS.2.2.2.2.2.2.2.1 _ _ (hx_dq tdJ1_charAt_3b067_0 9 rfl) _ _ _ _ _ ((cl_iret hG (hx_dq tdJ1_charAt_3b067_0 10 rfl) rfl b14 (hK _ hw) (Nat.le_refl _) (Nat.le_refl _))))))))))
def sJ1_charAt_3b067 : hx_ST := fun Λ μ as KK => ∃ (v1 : Int32) (K : Int32 → Prop), as = [.retAddr 1, .int v1] ∧ wJ1_charAt_3b067 v1 K ∧ (∀ (r : Int32), K r → KK (some (.int r)) Λ μ)
theorem sJ1_charAt_3b067_mk {Λ : hx_L} {μ : hx_M} {KK : hx_KT} {v1 : Int32} {K : Int32 → Prop}  (hw : wJ1_charAt_3b067 v1 K) (hk : ∀ (r : Int32), K r → KK (some (.int r)) Λ μ) : sJ1_charAt_3b067 Λ μ [.retAddr 1, .int v1] KK := ⟨_, _, rfl, hw, hk⟩
theorem conJ1_charAt_3b067 : hx_Con yJ1_charAt_3b067 cJ1_charAt_3b067 2 (some .char) 3 0 0 sJ1_charAt_3b067 := by
  refine hx_con_ofS (by decide +kernel) tokJ1 (by decide) ?_ ?_
  · intro Λ μ as KK h
    obtain ⟨v1, K, rfl, hw, hK⟩ := h
    exact Nat.le_of_ble_eq_true rfl
  · intro G KK hG hS cA Λ μ as h
    obtain ⟨v1, K, rfl, hw, hK⟩ := h
    exact cl_sub hG (hx_le_c rfl (hx_le_c rfl hx_le_0)) (kJ1_charAt_3b067 hG hS cA _ hK hw)
/-! java/lang/String.charAt(I)C -/
def tbJ0_charAt_5068e_0 : List (Nat × Instr × Nat) := [(0, .aload_n 0, 1), (1, .invokevirtual 492, 3), (4, .ifCond .eq 12, 3), (7, .aload_n 0, 1), (8, .getfield 9, 3), (11, .iload_n 1, 1), (12, .invokestatic 495, 3), (15, .ireturn, 1), (16, .aload_n 0, 1), (17, .getfield 9, 3), (20, .iload_n 1, 1), (21, .invokestatic 498, 3), (24, .ireturn, 1)]
theorem tdJ0_charAt_5068e_0 : hx_dt cJ0_charAt_5068e tbJ0_charAt_5068e_0 = true := by decide +kernel
theorem caJ0_charAt_5068e_492 {G : hx_GT} (hS : hx_KS RJ0 cJ0_charAt_5068e 4 G) : hx_CT cJ0_charAt_5068e G 492 0 sJ0_isLatin1_aae02 := hS.2.2.2.2.2.2.2.2.2 conJ0_isLatin1_aae02 rfl ⟨by decide +kernel, by decide +kernel, by decide +kernel⟩ mw_557 mw_558 mw_559 mw_98 mw_560 (by decide) (by decide)
theorem caJ0_charAt_5068e_495 {G : hx_GT} (cA : hx_CA RJ0 cJ0_charAt_5068e 4 0 0 G) : hx_CS cJ0_charAt_5068e G 0 0 495 2 sJ1_charAt_3b067 0 0 := cA.2.1 conJ1_charAt_3b067 ⟨by decide +kernel, by decide +kernel, by decide +kernel⟩ mw_563 mw_564 mw_99 mw_565 (by decide) (by decide)
def wJ0_charAt_5068e  (v1 : Int32) (K : Int32 → Prop) : Prop := wJ0_isLatin1_aae02 (fun r1_2 => (r1_2 = 0 → (False)) ∧ (¬ (r1_2 = 0) → (wJ1_charAt_3b067 v1 (fun r12_4 => narrow .char (.int r12_4) = .int r12_4 ∧ K r12_4))))
set_option maxRecDepth 100000 in
set_option maxHeartbeats 4000000 in
theorem kJ0_charAt_5068e {G : hx_GT} {KK : hx_KT} (hG : hx_K cJ0_charAt_5068e 2 0 0 (some .char) TbJ0 KK G) (hS : hx_KS RJ0 cJ0_charAt_5068e 4 G) (cA : hx_CA RJ0 cJ0_charAt_5068e 4 0 0 G) {Λ : hx_L}  {μ : hx_M} (v1 : Int32) {K : Int32 → Prop} (hK : ∀ (r : Int32), K r → KK (some (.int r)) Λ μ) (hw : wJ0_charAt_5068e v1 K) : G Λ μ (0, 0) 0 [some (.retAddr 0), some (.int v1)] [] := by
  unfold wJ0_charAt_5068e at hw
  refine hS.2.2.2.2.2.2.2.2.1 _ _ _ (hx_dq tdJ0_charAt_5068e_0 0 rfl) _ _ _ _ _ rfl ((cl_callT0 (caJ0_charAt_5068e_492 hS) (hx_dq tdJ0_charAt_5068e_0 1 rfl) (Nat.le_of_ble_eq_true rfl) (Nat.le_refl _) (Nat.le_refl _) (sJ0_isLatin1_aae02_mk hw (fun r1_2 hw => ?_))))
  refine cl_if_eq hG 16 (hx_dq tdJ0_charAt_5068e_0 2 rfl) rfl (fun c4 => ?_) (fun c4 => ?_)
  · replace hw := hw.1 c4
    exact hw.elim
  · replace hw := hw.2 c4
    refine hS.2.2.2.2.2.2.2.2.1 _ _ _ (hx_dq tdJ0_charAt_5068e_0 3 rfl) _ _ _ _ _ rfl ((hS.2.2.2.1 _ mw_1709 _ (hx_dq tdJ0_charAt_5068e_0 4 rfl) _ _ _ _ _ ((cl_iload_n hG (hx_dq tdJ0_charAt_5068e_0 5 rfl) rfl (cl_callS2 (caJ0_charAt_5068e_495 cA) (hx_dq tdJ0_charAt_5068e_0 6 rfl) (Nat.le_of_ble_eq_true rfl) (Nat.le_refl _) (Nat.le_refl _) (sJ1_charAt_3b067_mk hw (fun r12_4 hw => ?_)))))))
    obtain ⟨b15, hw⟩ := hw
    exact cl_iret hG (hx_dq tdJ0_charAt_5068e_0 7 rfl) rfl b15 (hK _ hw) (Nat.le_refl _) (Nat.le_refl _)
def sJ0_charAt_5068e : hx_ST := fun Λ μ as KK => ∃ (v1 : Int32) (K : Int32 → Prop), as = [.retAddr 0, .int v1] ∧ wJ0_charAt_5068e v1 K ∧ (∀ (r : Int32), K r → KK (some (.int r)) Λ μ)
theorem sJ0_charAt_5068e_mk {Λ : hx_L} {μ : hx_M} {KK : hx_KT} {v1 : Int32} {K : Int32 → Prop}  (hw : wJ0_charAt_5068e v1 K) (hk : ∀ (r : Int32), K r → KK (some (.int r)) Λ μ) : sJ0_charAt_5068e Λ μ [.retAddr 0, .int v1] KK := ⟨_, _, rfl, hw, hk⟩
theorem conJ0_charAt_5068e : hx_Con yJ0_charAt_5068e cJ0_charAt_5068e 2 (some .char) 4 0 0 sJ0_charAt_5068e := by
  refine hx_con_ofS (by decide +kernel) tokJ0 (by decide) ?_ ?_
  · intro Λ μ as KK h
    obtain ⟨v1, K, rfl, hw, hK⟩ := h
    exact Nat.le_of_ble_eq_true rfl
  · intro G KK hG hS cA Λ μ as h
    obtain ⟨v1, K, rfl, hw, hK⟩ := h
    exact cl_sub hG (hx_le_c rfl (hx_le_c rfl hx_le_0)) (kJ0_charAt_5068e hG hS cA _ hK hw)
/-! HemLine$LawReader.wordOf(II)I -/
def tbX2_wordOf_0 : List (Nat × Instr × Nat) := [(0, .iconst 0, 1), (1, .istore_n 3, 1), (2, .iload_n 3, 1), (3, .bipush 21, 2), (5, .if_icmp .ge 100, 3), (8, .iload_n 2, 1), (9, .iload_n 1, 1), (10, .isub, 1), (11, .bipush 6, 2), (13, .if_icmp .gt 92, 3), (16, .iconst 1, 1), (17, .istore 4, 2), (19, .iconst 0, 1), (20, .istore 5, 2), (22, .iload 5, 2), (24, .bipush 6, 2), (26, .if_icmp .ge 62, 3), (29, .iload 4, 2), (31, .ifCond .eq 57, 3), (34, .iload_n 1, 1), (35, .iload 5, 2), (37, .iadd, 1), (38, .iload_n 2, 1), (39, .if_icmp .ge 15, 3), (42, .aload_n 0, 1), (43, .getfield 11, 3), (46, .iload_n 1, 1), (47, .iload 5, 2), (49, .iadd, 1), (50, .baload, 1), (51, .goto 5, 3), (54, .bipush 32, 2)]
def tbX2_wordOf_1 : List (Nat × Instr × Nat) := [(56, .istore 6, 2), (58, .iload 6, 2), (60, .ldc 78, 2), (62, .iload_n 3, 1), (63, .bipush 6, 2), (65, .imul, 1), (66, .iload 5, 2), (68, .iadd, 1), (69, .invokevirtual 80, 3), (72, .if_icmp .ne 7, 3), (75, .iconst 1, 1), (76, .goto 4, 3), (79, .iconst 0, 1), (80, .istore 4, 2), (82, .iinc 5 1, 3), (85, .goto (-63), 3), (88, .iload 4, 2), (90, .ifCond .eq 9, 3), (93, .sipush 10000, 3), (96, .iload_n 3, 1), (97, .iadd, 1), (98, .ireturn, 1), (99, .iinc 3 1, 3), (102, .goto (-100), 3), (105, .bipush (-3), 2), (107, .ireturn, 1)]
theorem tdX2_wordOf_0 : hx_dt cX2_wordOf tbX2_wordOf_0 = true := by decide +kernel
theorem tdX2_wordOf_1 : hx_dt cX2_wordOf tbX2_wordOf_1 = true := by decide +kernel
theorem caX2_wordOf_80 {G : hx_GT} (hS : hx_KS RX2 cX2_wordOf 5 G) : hx_CT cX2_wordOf G 80 1 sJ0_charAt_5068e := hS.2.2.2.2.2.2.2.2.2 conJ0_charAt_5068e rfl ⟨by decide +kernel, by decide +kernel, by decide +kernel⟩ mw_553 mw_554 mw_555 mw_98 mw_556 (by decide) (by decide)
def wX2_wordOf_J80 (Λ : hx_L) (μ : hx_M) (K : Int32 → Prop) (K22 : Int32 → Int32 → Prop) (v1 : Int32) (v2 : Int32) (v3 : Int32) (v5 : Int32) (t0 : Int32)  : Prop := K22 t0 (v5 + 1)
set_option maxRecDepth 100000 in
set_option maxHeartbeats 4000000 in
theorem kX2_wordOf_J80 {G : hx_GT} {KK : hx_KT} (hG : hx_K cX2_wordOf 7 0 0 (some .int) TbX2 KK G) (hS : hx_KS RX2 cX2_wordOf 5 G) (cA : hx_CA RX2 cX2_wordOf 5 0 0 G) {Λ : hx_L} (hF : cF Λ) {μ : hx_M} (v1 : Int32) (v2 : Int32) (v3 : Int32) (v5 : Int32) (t0 : Int32) {K : Int32 → Prop} (hK : ∀ (r : Int32), K r → KK (some (.int r)) Λ μ) {K22 : Int32 → Int32 → Prop} (hk22 : ∀ (v4 : Int32) (v5 : Int32), K22 v4 v5 → G Λ μ (0, 0) 22 [some (.ref 2), some (.int v1), some (.int v2), some (.int v3), some (.int v4), some (.int v5), none] []) (hw : wX2_wordOf_J80 Λ μ K K22 v1 v2 v3 v5 t0) : G Λ μ (0, 0) 80 [some (.ref 2), some (.int v1), some (.int v2), some (.int v3), none, some (.int v5), none] [.int t0] := by
  unfold wX2_wordOf_J80 at hw
  exact cl_istore hG (hx_dq tdX2_wordOf_1 13 rfl) (Nat.le_of_ble_eq_true rfl) rfl (cl_iinc hG (v5 + 1) (hx_dq tdX2_wordOf_1 14 rfl) rfl (congrArg (fun z => v5 + z) iconst_1) (Nat.le_of_ble_eq_true rfl) rfl (cl_goto hG 22 (hx_dq tdX2_wordOf_1 15 rfl) rfl (cl_sub hG (hx_le_c rfl (hx_le_c rfl (hx_le_c rfl (hx_le_c rfl (hx_le_c rfl (hx_le_c rfl (hx_le_n hx_le_0))))))) (hk22 t0 (v5 + 1) hw))))
def wX2_wordOf_J56 (Λ : hx_L) (μ : hx_M) (K : Int32 → Prop) (K22 : Int32 → Int32 → Prop) (v1 : Int32) (v2 : Int32) (v3 : Int32) (v5 : Int32) (t0 : Int32)  : Prop := wJ0_charAt_5068e ((v3 * 6) + v5) (fun r69_2 => (t0 ≠ r69_2 → (wX2_wordOf_J80 Λ μ K (K22) v1 v2 v3 v5 0)) ∧ (t0 = r69_2 → (wX2_wordOf_J80 Λ μ K (K22) v1 v2 v3 v5 1)))
set_option maxRecDepth 100000 in
set_option maxHeartbeats 4000000 in
theorem kX2_wordOf_J56 {G : hx_GT} {KK : hx_KT} (hG : hx_K cX2_wordOf 7 0 0 (some .int) TbX2 KK G) (hS : hx_KS RX2 cX2_wordOf 5 G) (cA : hx_CA RX2 cX2_wordOf 5 0 0 G) {Λ : hx_L} (hF : cF Λ) {μ : hx_M} (v1 : Int32) (v2 : Int32) (v3 : Int32) (v5 : Int32) (t0 : Int32) {K : Int32 → Prop} (hK : ∀ (r : Int32), K r → KK (some (.int r)) Λ μ) {K22 : Int32 → Int32 → Prop} (hk22 : ∀ (v4 : Int32) (v5 : Int32), K22 v4 v5 → G Λ μ (0, 0) 22 [some (.ref 2), some (.int v1), some (.int v2), some (.int v3), some (.int v4), some (.int v5), none] []) (hw : wX2_wordOf_J56 Λ μ K K22 v1 v2 v3 v5 t0) : G Λ μ (0, 0) 56 [some (.ref 2), some (.int v1), some (.int v2), some (.int v3), none, some (.int v5), none] [.int t0] := by
  unfold wX2_wordOf_J56 at hw
  refine cl_istore hG (hx_dq tdX2_wordOf_1 0 rfl) (Nat.le_of_ble_eq_true rfl) rfl (cl_iload hG (hx_dq tdX2_wordOf_1 1 rfl) rfl (hS.1 rfl _ (hx_dq tdX2_wordOf_1 2 rfl) _ _ _ _ _ ((cl_iload_n hG (hx_dq tdX2_wordOf_1 3 rfl) rfl (cl_bipush hG 6 (hx_dq tdX2_wordOf_1 4 rfl) bipush_6 (cl_imul hG (hx_dq tdX2_wordOf_1 5 rfl) (cl_iload hG (hx_dq tdX2_wordOf_1 6 rfl) rfl (cl_iadd hG (hx_dq tdX2_wordOf_1 7 rfl) (cl_callT1 (caX2_wordOf_80 hS) (hx_dq tdX2_wordOf_1 8 rfl) (Nat.le_of_ble_eq_true rfl) (Nat.le_refl _) (Nat.le_refl _) (sJ0_charAt_5068e_mk hw (fun r69_2 hw => ?_)))))))))))
  refine cl_icmp_ne hG 79 (hx_dq tdX2_wordOf_1 9 rfl) rfl (fun c72 => ?_) (fun c72 => ?_)
  · replace hw := hw.1 c72
    refine cl_iconst hG 0 (hx_dq tdX2_wordOf_1 12 rfl) iconst_0 ?_
    exact cl_sub hG (hx_le_c rfl (hx_le_c rfl (hx_le_c rfl (hx_le_c rfl (hx_le_n (hx_le_c rfl (hx_le_n hx_le_0))))))) (kX2_wordOf_J80 hG hS cA hF v1 v2 v3 v5 0 hK (fun z0 z1 hw => hk22 z0 z1 hw) hw)
  · replace hw := hw.2 c72
    refine cl_iconst hG 1 (hx_dq tdX2_wordOf_1 10 rfl) iconst_1 (cl_goto hG 80 (hx_dq tdX2_wordOf_1 11 rfl) rfl ?_)
    exact cl_sub hG (hx_le_c rfl (hx_le_c rfl (hx_le_c rfl (hx_le_c rfl (hx_le_n (hx_le_c rfl (hx_le_n hx_le_0))))))) (kX2_wordOf_J80 hG hS cA hF v1 v2 v3 v5 1 hK (fun z0 z1 hw => hk22 z0 z1 hw) hw)
def wX2_wordOf_L22 (Λ : hx_L) (μ : hx_M) (v1 : Int32) (v2 : Int32) (v3 : Int32) (K : Int32 → Prop) (K88 : Int32 → Prop) : Nat → Int32 → Int32 → Prop
  | 0, _, _ => False
  | n + 1, v4, v5 => (6 ≤ v5 → (K88 v4)) ∧ (¬ (6 ≤ v5) → ((v4 = 0 → (K88 v4)) ∧ (¬ (v4 = 0) → ((v2 ≤ (v1 + v5) → (wX2_wordOf_J56 Λ μ K (wX2_wordOf_L22 Λ μ v1 v2 v3 K K88 n) v1 v2 v3 v5 32)) ∧ (¬ (v2 ≤ (v1 + v5)) → (vp_in (v1 + v5) 700 ∧ wX2_wordOf_J56 Λ μ K (wX2_wordOf_L22 Λ μ v1 v2 v3 K K88 n) v1 v2 v3 v5 ((μ.1 1 ((v1 + v5).toNatClampNeg)))))))))
set_option maxRecDepth 100000 in
set_option maxHeartbeats 4000000 in
theorem kX2_wordOf_L22 {G : hx_GT} {KK : hx_KT} (hG : hx_K cX2_wordOf 7 0 0 (some .int) TbX2 KK G) (hS : hx_KS RX2 cX2_wordOf 5 G) (cA : hx_CA RX2 cX2_wordOf 5 0 0 G) {Λ : hx_L} (hF : cF Λ) {μ : hx_M} (v1 : Int32) (v2 : Int32) (v3 : Int32) {K : Int32 → Prop} (hK : ∀ (r : Int32), K r → KK (some (.int r)) Λ μ) {K88 : Int32 → Prop} (hk88 : ∀ (v4 : Int32), K88 v4 → G Λ μ (0, 0) 88 [some (.ref 2), some (.int v1), some (.int v2), some (.int v3), some (.int v4), none, none] []) : ∀ (n : Nat) (v4 : Int32) (v5 : Int32), wX2_wordOf_L22 Λ μ v1 v2 v3 K K88 n v4 v5 → G Λ μ (0, 0) 22 [some (.ref 2), some (.int v1), some (.int v2), some (.int v3), some (.int v4), some (.int v5), none] [] := by
  intro n
  induction n with
  | zero =>
    intro v4 v5 hw
    exact False.elim (by simpa only [wX2_wordOf_L22] using hw)
  | succ n ih =>
    intro v4 v5 hw
    unfold wX2_wordOf_L22 at hw
    refine cl_iload hG (hx_dq tdX2_wordOf_0 14 rfl) rfl (cl_bipush hG 6 (hx_dq tdX2_wordOf_0 15 rfl) bipush_6 (cl_icmp_ge hG 88 (hx_dq tdX2_wordOf_0 16 rfl) rfl (fun c26 => ?_) (fun c26 => ?_)))
    · replace hw := hw.1 c26
      exact cl_sub hG (hx_le_c rfl (hx_le_c rfl (hx_le_c rfl (hx_le_c rfl (hx_le_c rfl (hx_le_n (hx_le_n hx_le_0))))))) (hk88 v4 hw)
    · replace hw := hw.2 c26
      refine cl_iload hG (hx_dq tdX2_wordOf_0 17 rfl) rfl (cl_if_eq hG 88 (hx_dq tdX2_wordOf_0 18 rfl) rfl (fun c31 => ?_) (fun c31 => ?_))
      · replace hw := hw.1 c31
        exact cl_sub hG (hx_le_c rfl (hx_le_c rfl (hx_le_c rfl (hx_le_c rfl (hx_le_c rfl (hx_le_n (hx_le_n hx_le_0))))))) (hk88 v4 hw)
      · replace hw := hw.2 c31
        refine cl_iload_n hG (hx_dq tdX2_wordOf_0 19 rfl) rfl (cl_iload hG (hx_dq tdX2_wordOf_0 20 rfl) rfl (cl_iadd hG (hx_dq tdX2_wordOf_0 21 rfl) (cl_iload_n hG (hx_dq tdX2_wordOf_0 22 rfl) rfl (cl_icmp_ge hG 54 (hx_dq tdX2_wordOf_0 23 rfl) rfl (fun c39 => ?_) (fun c39 => ?_)))))
        · replace hw := hw.1 c39
          refine cl_bipush hG 32 (hx_dq tdX2_wordOf_0 31 rfl) bipush_32 ?_
          exact cl_sub hG (hx_le_c rfl (hx_le_c rfl (hx_le_c rfl (hx_le_c rfl (hx_le_n (hx_le_c rfl (hx_le_n hx_le_0))))))) (kX2_wordOf_J56 hG hS cA hF v1 v2 v3 v5 32 hK (fun z0 z1 hw => ih z0 z1 hw) hw)
        · replace hw := hw.2 c39
          obtain ⟨i50_3, hw⟩ := hw
          refine cl_aload_n hG (hx_dq tdX2_wordOf_0 24 rfl) rfl (cl_getS hG fmX2_11 (hx_dq tdX2_wordOf_0 25 rfl) (cF_S2 hF) (cF_R2_0 hF) (cl_iload_n hG (hx_dq tdX2_wordOf_0 26 rfl) rfl (cl_iload hG (hx_dq tdX2_wordOf_0 27 rfl) rfl (cl_iadd hG (hx_dq tdX2_wordOf_0 28 rfl) (cl_bald hG (hx_dq tdX2_wordOf_0 29 rfl) (cF_S1 hF) i50_3 (cl_goto hG 56 (hx_dq tdX2_wordOf_0 30 rfl) rfl ?_))))))
          exact cl_sub hG (hx_le_c rfl (hx_le_c rfl (hx_le_c rfl (hx_le_c rfl (hx_le_n (hx_le_c rfl (hx_le_n hx_le_0))))))) (kX2_wordOf_J56 hG hS cA hF v1 v2 v3 v5 ((μ.1 1 ((v1 + v5).toNatClampNeg))) hK (fun z0 z1 hw => ih z0 z1 hw) hw)
def wX2_wordOf_J88 (Λ : hx_L) (μ : hx_M) (K : Int32 → Prop) (K2 : Int32 → Prop) (v1 : Int32) (v2 : Int32) (v3 : Int32) (v4 : Int32)   : Prop := (v4 = 0 → (K2 (v3 + 1))) ∧ (¬ (v4 = 0) → (K (10000 + v3)))
set_option maxRecDepth 100000 in
set_option maxHeartbeats 4000000 in
theorem kX2_wordOf_J88 {G : hx_GT} {KK : hx_KT} (hG : hx_K cX2_wordOf 7 0 0 (some .int) TbX2 KK G) (hS : hx_KS RX2 cX2_wordOf 5 G) (cA : hx_CA RX2 cX2_wordOf 5 0 0 G) {Λ : hx_L} (hF : cF Λ) {μ : hx_M} (v1 : Int32) (v2 : Int32) (v3 : Int32) (v4 : Int32)  {K : Int32 → Prop} (hK : ∀ (r : Int32), K r → KK (some (.int r)) Λ μ) {K2 : Int32 → Prop} (hk2 : ∀ (v3 : Int32), K2 v3 → G Λ μ (0, 0) 2 [some (.ref 2), some (.int v1), some (.int v2), some (.int v3), none, none, none] []) (hw : wX2_wordOf_J88 Λ μ K K2 v1 v2 v3 v4) : G Λ μ (0, 0) 88 [some (.ref 2), some (.int v1), some (.int v2), some (.int v3), some (.int v4), none, none] [] := by
  unfold wX2_wordOf_J88 at hw
  refine cl_iload hG (hx_dq tdX2_wordOf_1 16 rfl) rfl (cl_if_eq hG 99 (hx_dq tdX2_wordOf_1 17 rfl) rfl (fun c90 => ?_) (fun c90 => ?_))
  · replace hw := hw.1 c90
    exact cl_iinc hG (v3 + 1) (hx_dq tdX2_wordOf_1 22 rfl) rfl (congrArg (fun z => v3 + z) iconst_1) (Nat.le_of_ble_eq_true rfl) rfl (cl_goto hG 2 (hx_dq tdX2_wordOf_1 23 rfl) rfl (cl_sub hG (hx_le_c rfl (hx_le_c rfl (hx_le_c rfl (hx_le_c rfl (hx_le_n (hx_le_n (hx_le_n hx_le_0))))))) (hk2 (v3 + 1) hw)))
  · replace hw := hw.2 c90
    exact cl_sipush hG 10000 (hx_dq tdX2_wordOf_1 18 rfl) sipush_10000 (cl_iload_n hG (hx_dq tdX2_wordOf_1 19 rfl) rfl (cl_iadd hG (hx_dq tdX2_wordOf_1 20 rfl) (cl_iret hG (hx_dq tdX2_wordOf_1 21 rfl) rfl rfl (hK _ hw) (Nat.le_refl _) (Nat.le_refl _))))
def wX2_wordOf_L2 (Λ : hx_L) (μ : hx_M) (v1 : Int32) (v2 : Int32) (K : Int32 → Prop)  : Nat → Int32 → Prop
  | 0, _ => False
  | n + 1, v3 => (21 ≤ v3 → (K (-3))) ∧ (¬ (21 ≤ v3) → ((6 < (v2 - v1) → (K (-3))) ∧ (¬ (6 < (v2 - v1)) → (∃ n22_5, wX2_wordOf_L22 Λ μ v1 v2 v3 K (fun v4_4 => wX2_wordOf_J88 Λ μ K (wX2_wordOf_L2 Λ μ v1 v2 K n) v1 v2 v3 v4_4) n22_5 1 0))))
set_option maxRecDepth 100000 in
set_option maxHeartbeats 4000000 in
theorem kX2_wordOf_L2 {G : hx_GT} {KK : hx_KT} (hG : hx_K cX2_wordOf 7 0 0 (some .int) TbX2 KK G) (hS : hx_KS RX2 cX2_wordOf 5 G) (cA : hx_CA RX2 cX2_wordOf 5 0 0 G) {Λ : hx_L} (hF : cF Λ) {μ : hx_M} (v1 : Int32) (v2 : Int32) {K : Int32 → Prop} (hK : ∀ (r : Int32), K r → KK (some (.int r)) Λ μ)  : ∀ (n : Nat) (v3 : Int32), wX2_wordOf_L2 Λ μ v1 v2 K n v3 → G Λ μ (0, 0) 2 [some (.ref 2), some (.int v1), some (.int v2), some (.int v3), none, none, none] [] := by
  intro n
  induction n with
  | zero =>
    intro v3 hw
    exact False.elim (by simpa only [wX2_wordOf_L2] using hw)
  | succ n ih =>
    intro v3 hw
    unfold wX2_wordOf_L2 at hw
    refine cl_iload_n hG (hx_dq tdX2_wordOf_0 2 rfl) rfl (cl_bipush hG 21 (hx_dq tdX2_wordOf_0 3 rfl) bipush_21 (cl_icmp_ge hG 105 (hx_dq tdX2_wordOf_0 4 rfl) rfl (fun c5 => ?_) (fun c5 => ?_)))
    · replace hw := hw.1 c5
      exact cl_bipush hG (-3) (hx_dq tdX2_wordOf_1 24 rfl) bipush_m3 (cl_iret hG (hx_dq tdX2_wordOf_1 25 rfl) rfl rfl (hK _ hw) (Nat.le_refl _) (Nat.le_refl _))
    · replace hw := hw.2 c5
      refine cl_iload_n hG (hx_dq tdX2_wordOf_0 5 rfl) rfl (cl_iload_n hG (hx_dq tdX2_wordOf_0 6 rfl) rfl (cl_isub hG (hx_dq tdX2_wordOf_0 7 rfl) (cl_bipush hG 6 (hx_dq tdX2_wordOf_0 8 rfl) bipush_6 (cl_icmp_gt hG 105 (hx_dq tdX2_wordOf_0 9 rfl) rfl (fun c13 => ?_) (fun c13 => ?_)))))
      · replace hw := hw.1 c13
        exact cl_bipush hG (-3) (hx_dq tdX2_wordOf_1 24 rfl) bipush_m3 (cl_iret hG (hx_dq tdX2_wordOf_1 25 rfl) rfl rfl (hK _ hw) (Nat.le_refl _) (Nat.le_refl _))
      · replace hw := hw.2 c13
        refine cl_iconst hG 1 (hx_dq tdX2_wordOf_0 10 rfl) iconst_1 (cl_istore hG (hx_dq tdX2_wordOf_0 11 rfl) (Nat.le_of_ble_eq_true rfl) rfl (cl_iconst hG 0 (hx_dq tdX2_wordOf_0 12 rfl) iconst_0 (cl_istore hG (hx_dq tdX2_wordOf_0 13 rfl) (Nat.le_of_ble_eq_true rfl) rfl ?_)))
        obtain ⟨n_, hw⟩ := hw
        refine cl_sub hG (hx_le_c rfl (hx_le_c rfl (hx_le_c rfl (hx_le_c rfl (hx_le_c rfl (hx_le_c rfl (hx_le_n hx_le_0))))))) (kX2_wordOf_L22 hG hS cA hF v1 v2 v3 hK (fun v4_4 hw => ?_) n_ 1 0 hw)
        · exact cl_sub hG (hx_le_c rfl (hx_le_c rfl (hx_le_c rfl (hx_le_c rfl (hx_le_c rfl (hx_le_n (hx_le_n hx_le_0))))))) (kX2_wordOf_J88 hG hS cA hF v1 v2 v3 v4_4 hK (fun z0 hw => ih z0 hw) hw)
def wX2_wordOf (Λ : hx_L) (μ : hx_M) (v1 : Int32) (v2 : Int32) (K : Int32 → Prop) : Prop := ∃ n2_6, wX2_wordOf_L2 Λ μ v1 v2 K n2_6 0
set_option maxRecDepth 100000 in
set_option maxHeartbeats 4000000 in
theorem kX2_wordOf {G : hx_GT} {KK : hx_KT} (hG : hx_K cX2_wordOf 7 0 0 (some .int) TbX2 KK G) (hS : hx_KS RX2 cX2_wordOf 5 G) (cA : hx_CA RX2 cX2_wordOf 5 0 0 G) {Λ : hx_L} (hF : cF Λ) {μ : hx_M} (v1 : Int32) (v2 : Int32) {K : Int32 → Prop} (hK : ∀ (r : Int32), K r → KK (some (.int r)) Λ μ) (hw : wX2_wordOf Λ μ v1 v2 K) : G Λ μ (0, 0) 0 [some (.ref 2), some (.int v1), some (.int v2), none, none, none, none] [] := by
  unfold wX2_wordOf at hw
  refine cl_iconst hG 0 (hx_dq tdX2_wordOf_0 0 rfl) iconst_0 (cl_istore_n hG (hx_dq tdX2_wordOf_0 1 rfl) (Nat.le_of_ble_eq_true rfl) rfl ?_)
  obtain ⟨n_, hw⟩ := hw
  refine cl_sub hG (hx_le_c rfl (hx_le_c rfl (hx_le_c rfl (hx_le_c rfl (hx_le_n (hx_le_n (hx_le_n hx_le_0))))))) (kX2_wordOf_L2 hG hS cA hF v1 v2 hK n_ 0 hw)
def sX2_wordOf : hx_ST := fun Λ μ as KK => cF Λ ∧ ∃ (v1 : Int32) (v2 : Int32) (K : Int32 → Prop), as = [.ref 2, .int v1, .int v2] ∧ wX2_wordOf Λ μ v1 v2 K ∧ (∀ (r : Int32), K r → KK (some (.int r)) Λ μ)
theorem sX2_wordOf_mk {Λ : hx_L} {μ : hx_M} {KK : hx_KT} {v1 : Int32} {v2 : Int32} {K : Int32 → Prop} (hF : cF Λ) (hw : wX2_wordOf Λ μ v1 v2 K) (hk : ∀ (r : Int32), K r → KK (some (.int r)) Λ μ) : sX2_wordOf Λ μ [.ref 2, .int v1, .int v2] KK := ⟨hF, _, _, _, rfl, hw, hk⟩
theorem conX2_wordOf : hx_Con yX2_wordOf cX2_wordOf 7 (some .int) 5 0 0 sX2_wordOf := by
  refine hx_con_ofS (by decide +kernel) tokX2 (by decide) ?_ ?_
  · intro Λ μ as KK h
    obtain ⟨hF, v1, v2, K, rfl, hw, hK⟩ := h
    exact Nat.le_of_ble_eq_true rfl
  · intro G KK hG hS cA Λ μ as h
    obtain ⟨hF, v1, v2, K, rfl, hw, hK⟩ := h
    exact cl_sub hG (hx_le_c rfl (hx_le_c rfl (hx_le_c rfl (hx_le_n (hx_le_n (hx_le_n (hx_le_n hx_le_0))))))) (kX2_wordOf hG hS cA hF _ _ hK hw)
/-! HemLine$LawReader.numberOf(II)I -/
def tbX2_numberOf_0 : List (Nat × Instr × Nat) := [(0, .iload_n 2, 1), (1, .iload_n 1, 1), (2, .isub, 1), (3, .iconst 4, 1), (4, .if_icmp .le 6, 3), (7, .bipush (-3), 2), (9, .ireturn, 1), (10, .iconst 0, 1), (11, .istore_n 3, 1), (12, .iload_n 1, 1), (13, .istore 4, 2), (15, .iload 4, 2), (17, .iload_n 2, 1), (18, .if_icmp .ge 25, 3), (21, .iload_n 3, 1), (22, .bipush 10, 2), (24, .imul, 1), (25, .aload_n 0, 1), (26, .getfield 11, 3), (29, .iload 4, 2), (31, .baload, 1), (32, .iadd, 1), (33, .bipush 48, 2), (35, .isub, 1), (36, .istore_n 3, 1), (37, .iinc 4 1, 3), (40, .goto (-25), 3), (43, .iload_n 3, 1), (44, .ireturn, 1)]
theorem tdX2_numberOf_0 : hx_dt cX2_numberOf tbX2_numberOf_0 = true := by decide +kernel
def wX2_numberOf_L15 (μ : hx_M) (v2 : Int32) (K : Int32 → Prop)  : Nat → Int32 → Int32 → Prop
  | 0, _, _ => False
  | n + 1, v3, v4 => (v2 ≤ v4 → (K v3)) ∧ (¬ (v2 ≤ v4) → (vp_in v4 700 ∧ wX2_numberOf_L15 μ v2 K n (((v3 * 10) + (μ.1 1 v4.toNatClampNeg)) - 48) (v4 + 1)))
set_option maxRecDepth 100000 in
set_option maxHeartbeats 4000000 in
theorem kX2_numberOf_L15 {G : hx_GT} {KK : hx_KT} (hG : hx_K cX2_numberOf 5 0 0 (some .int) TbX2 KK G) (cA : hx_CA RX2 cX2_numberOf 1 0 0 G) {Λ : hx_L} (hF : cF Λ) {μ : hx_M} (v2 : Int32) {K : Int32 → Prop} (hK : ∀ (r : Int32), K r → KK (some (.int r)) Λ μ)  : ∀ (n : Nat) (v3 : Int32) (v4 : Int32), wX2_numberOf_L15 μ v2 K n v3 v4 → G Λ μ (0, 0) 15 [some (.ref 2), none, some (.int v2), some (.int v3), some (.int v4)] [] := by
  intro n
  induction n with
  | zero =>
    intro v3 v4 hw
    exact False.elim (by simpa only [wX2_numberOf_L15] using hw)
  | succ n ih =>
    intro v3 v4 hw
    unfold wX2_numberOf_L15 at hw
    refine cl_iload hG (hx_dq tdX2_numberOf_0 11 rfl) rfl (cl_iload_n hG (hx_dq tdX2_numberOf_0 12 rfl) rfl (cl_icmp_ge hG 43 (hx_dq tdX2_numberOf_0 13 rfl) rfl (fun c18 => ?_) (fun c18 => ?_)))
    · replace hw := hw.1 c18
      exact cl_iload_n hG (hx_dq tdX2_numberOf_0 27 rfl) rfl (cl_iret hG (hx_dq tdX2_numberOf_0 28 rfl) rfl rfl (hK _ hw) (Nat.le_refl _) (Nat.le_refl _))
    · replace hw := hw.2 c18
      obtain ⟨i31_1, hw⟩ := hw
      exact cl_iload_n hG (hx_dq tdX2_numberOf_0 14 rfl) rfl (cl_bipush hG 10 (hx_dq tdX2_numberOf_0 15 rfl) bipush_10 (cl_imul hG (hx_dq tdX2_numberOf_0 16 rfl) (cl_aload_n hG (hx_dq tdX2_numberOf_0 17 rfl) rfl (cl_getS hG fmX2_11 (hx_dq tdX2_numberOf_0 18 rfl) (cF_S2 hF) (cF_R2_0 hF) (cl_iload hG (hx_dq tdX2_numberOf_0 19 rfl) rfl (cl_bald hG (hx_dq tdX2_numberOf_0 20 rfl) (cF_S1 hF) i31_1 (cl_iadd hG (hx_dq tdX2_numberOf_0 21 rfl) (cl_bipush hG 48 (hx_dq tdX2_numberOf_0 22 rfl) bipush_48 (cl_isub hG (hx_dq tdX2_numberOf_0 23 rfl) (cl_istore_n hG (hx_dq tdX2_numberOf_0 24 rfl) (Nat.le_of_ble_eq_true rfl) rfl (cl_iinc hG (v4 + 1) (hx_dq tdX2_numberOf_0 25 rfl) rfl (congrArg (fun z => v4 + z) iconst_1) (Nat.le_of_ble_eq_true rfl) rfl (cl_goto hG 15 (hx_dq tdX2_numberOf_0 26 rfl) rfl (cl_sub hG (hx_le_c rfl (hx_le_n (hx_le_c rfl (hx_le_c rfl (hx_le_c rfl hx_le_0))))) (ih (((v3 * 10) + (μ.1 1 v4.toNatClampNeg)) - 48) (v4 + 1) hw))))))))))))))
def wX2_numberOf (μ : hx_M) (v1 : Int32) (v2 : Int32) (K : Int32 → Prop) : Prop := ((v2 - v1) ≤ 4 → (∃ n15_2, wX2_numberOf_L15 μ v2 K n15_2 0 v1)) ∧ (¬ ((v2 - v1) ≤ 4) → (K (-3)))
set_option maxRecDepth 100000 in
set_option maxHeartbeats 4000000 in
theorem kX2_numberOf {G : hx_GT} {KK : hx_KT} (hG : hx_K cX2_numberOf 5 0 0 (some .int) TbX2 KK G) (cA : hx_CA RX2 cX2_numberOf 1 0 0 G) {Λ : hx_L} (hF : cF Λ) {μ : hx_M} (v1 : Int32) (v2 : Int32) {K : Int32 → Prop} (hK : ∀ (r : Int32), K r → KK (some (.int r)) Λ μ) (hw : wX2_numberOf μ v1 v2 K) : G Λ μ (0, 0) 0 [some (.ref 2), some (.int v1), some (.int v2), none, none] [] := by
  unfold wX2_numberOf at hw
  refine cl_iload_n hG (hx_dq tdX2_numberOf_0 0 rfl) rfl (cl_iload_n hG (hx_dq tdX2_numberOf_0 1 rfl) rfl (cl_isub hG (hx_dq tdX2_numberOf_0 2 rfl) (cl_iconst hG 4 (hx_dq tdX2_numberOf_0 3 rfl) iconst_4 (cl_icmp_le hG 10 (hx_dq tdX2_numberOf_0 4 rfl) rfl (fun c4 => ?_) (fun c4 => ?_)))))
  · replace hw := hw.1 c4
    refine cl_iconst hG 0 (hx_dq tdX2_numberOf_0 7 rfl) iconst_0 (cl_istore_n hG (hx_dq tdX2_numberOf_0 8 rfl) (Nat.le_of_ble_eq_true rfl) rfl (cl_iload_n hG (hx_dq tdX2_numberOf_0 9 rfl) rfl (cl_istore hG (hx_dq tdX2_numberOf_0 10 rfl) (Nat.le_of_ble_eq_true rfl) rfl ?_)))
    obtain ⟨n_, hw⟩ := hw
    refine cl_sub hG (hx_le_c rfl (hx_le_n (hx_le_c rfl (hx_le_c rfl (hx_le_c rfl hx_le_0))))) (kX2_numberOf_L15 hG cA hF v2 hK n_ 0 v1 hw)
  · replace hw := hw.2 c4
    exact cl_bipush hG (-3) (hx_dq tdX2_numberOf_0 5 rfl) bipush_m3 (cl_iret hG (hx_dq tdX2_numberOf_0 6 rfl) rfl rfl (hK _ hw) (Nat.le_refl _) (Nat.le_refl _))
def sX2_numberOf : hx_ST := fun Λ μ as KK => cF Λ ∧ ∃ (v1 : Int32) (v2 : Int32) (K : Int32 → Prop), as = [.ref 2, .int v1, .int v2] ∧ wX2_numberOf μ v1 v2 K ∧ (∀ (r : Int32), K r → KK (some (.int r)) Λ μ)
theorem sX2_numberOf_mk {Λ : hx_L} {μ : hx_M} {KK : hx_KT} {v1 : Int32} {v2 : Int32} {K : Int32 → Prop} (hF : cF Λ) (hw : wX2_numberOf μ v1 v2 K) (hk : ∀ (r : Int32), K r → KK (some (.int r)) Λ μ) : sX2_numberOf Λ μ [.ref 2, .int v1, .int v2] KK := ⟨hF, _, _, _, rfl, hw, hk⟩
theorem conX2_numberOf : hx_Con yX2_numberOf cX2_numberOf 5 (some .int) 1 0 0 sX2_numberOf := by
  refine hx_con_of (by decide +kernel) tokX2 (by decide) ?_ ?_
  · intro Λ μ as KK h
    obtain ⟨hF, v1, v2, K, rfl, hw, hK⟩ := h
    exact Nat.le_of_ble_eq_true rfl
  · intro G KK hG cA Λ μ as h
    obtain ⟨hF, v1, v2, K, rfl, hw, hK⟩ := h
    exact cl_sub hG (hx_le_c rfl (hx_le_c rfl (hx_le_c rfl (hx_le_n (hx_le_n hx_le_0))))) (kX2_numberOf hG cA hF _ _ hK hw)
/-! HemLine$LawReader.tokenOf(II)I -/
def tbX2_tokenOf_0 : List (Nat × Instr × Nat) := [(0, .aload_n 0, 1), (1, .getfield 11, 3), (4, .iload_n 1, 1), (5, .baload, 1), (6, .istore_n 3, 1), (7, .iload_n 3, 1), (8, .invokestatic 65, 3), (11, .ifCond .eq 10, 3), (14, .aload_n 0, 1), (15, .iload_n 1, 1), (16, .iload_n 2, 1), (17, .invokevirtual 72, 3), (20, .ireturn, 1), (21, .iload_n 3, 1), (22, .invokestatic 69, 3), (25, .ifCond .eq 10, 3), (28, .aload_n 0, 1), (29, .iload_n 1, 1), (30, .iload_n 2, 1), (31, .invokevirtual 75, 3), (34, .ireturn, 1), (35, .iload_n 3, 1), (36, .bipush 59, 2), (38, .if_icmp .eq 33, 3), (41, .iload_n 3, 1), (42, .bipush 40, 2), (44, .if_icmp .eq 27, 3), (47, .iload_n 3, 1), (48, .bipush 41, 2), (50, .if_icmp .eq 21, 3), (53, .iload_n 3, 1), (54, .bipush 60, 2)]
def tbX2_tokenOf_1 : List (Nat × Instr × Nat) := [(56, .if_icmp .eq 15, 3), (59, .iload_n 3, 1), (60, .bipush 62, 2), (62, .if_icmp .eq 9, 3), (65, .iload_n 3, 1), (66, .bipush 61, 2), (68, .if_icmp .ne 7, 3), (71, .iconst 1, 1), (72, .goto 4, 3), (75, .iconst 0, 1), (76, .istore 4, 2), (78, .iload 4, 2), (80, .ifCond .eq 11, 3), (83, .sipush 20000, 3), (86, .iload_n 3, 1), (87, .iadd, 1), (88, .goto 5, 3), (91, .bipush (-3), 2), (93, .ireturn, 1)]
theorem tdX2_tokenOf_0 : hx_dt cX2_tokenOf tbX2_tokenOf_0 = true := by decide +kernel
theorem tdX2_tokenOf_1 : hx_dt cX2_tokenOf tbX2_tokenOf_1 = true := by decide +kernel
theorem caX2_tokenOf_65 {G : hx_GT} (cA : hx_CA RX2 cX2_tokenOf 6 0 0 G) : hx_CS cX2_tokenOf G 0 0 65 1 sX2_isLetter 0 0 := cA.2.1 conX2_isLetter ⟨by decide +kernel, by decide +kernel, by decide +kernel⟩ mw_538 mw_539 mw_85 mw_540 (by decide) (by decide)
theorem caX2_tokenOf_69 {G : hx_GT} (cA : hx_CA RX2 cX2_tokenOf 6 0 0 G) : hx_CS cX2_tokenOf G 0 0 69 1 sX2_isDigit 0 0 := cA.2.1 conX2_isDigit ⟨by decide +kernel, by decide +kernel, by decide +kernel⟩ mw_541 mw_542 mw_85 mw_543 (by decide) (by decide)
theorem caX2_tokenOf_72 {G : hx_GT} (cA : hx_CA RX2 cX2_tokenOf 6 0 0 G) : hx_CV cX2_tokenOf G 0 0 72 2 2 sX2_wordOf 0 0 := cA.1 conX2_wordOf rfl rfl ⟨by decide +kernel, by decide +kernel, by decide +kernel⟩ mw_548 mw_550 mw_4 mw_85 mw_551 (by decide) (by decide)
theorem caX2_tokenOf_75 {G : hx_GT} (cA : hx_CA RX2 cX2_tokenOf 6 0 0 G) : hx_CV cX2_tokenOf G 0 0 75 2 2 sX2_numberOf 0 0 := cA.1 conX2_numberOf rfl rfl ⟨by decide +kernel, by decide +kernel, by decide +kernel⟩ mw_593 mw_595 mw_5 mw_85 mw_596 (by decide) (by decide)
def wX2_tokenOf_J76 (Λ : hx_L) (μ : hx_M) (K : Int32 → Prop)  (v3 : Int32) (t0 : Int32)  : Prop := (t0 = 0 → (K (-3))) ∧ (¬ (t0 = 0) → (K (20000 + v3)))
set_option maxRecDepth 100000 in
set_option maxHeartbeats 4000000 in
theorem kX2_tokenOf_J76 {G : hx_GT} {KK : hx_KT} (hG : hx_K cX2_tokenOf 5 0 0 (some .int) TbX2 KK G) (cA : hx_CA RX2 cX2_tokenOf 6 0 0 G) {Λ : hx_L} (hF : cF Λ) {μ : hx_M} (v3 : Int32) (t0 : Int32) {K : Int32 → Prop} (hK : ∀ (r : Int32), K r → KK (some (.int r)) Λ μ)  (hw : wX2_tokenOf_J76 Λ μ K v3 t0) : G Λ μ (0, 0) 76 [none, none, none, some (.int v3), none] [.int t0] := by
  unfold wX2_tokenOf_J76 at hw
  refine cl_istore hG (hx_dq tdX2_tokenOf_1 10 rfl) (Nat.le_of_ble_eq_true rfl) rfl (cl_iload hG (hx_dq tdX2_tokenOf_1 11 rfl) rfl (cl_if_eq hG 91 (hx_dq tdX2_tokenOf_1 12 rfl) rfl (fun c80 => ?_) (fun c80 => ?_)))
  · replace hw := hw.1 c80
    exact cl_bipush hG (-3) (hx_dq tdX2_tokenOf_1 17 rfl) bipush_m3 (cl_iret hG (hx_dq tdX2_tokenOf_1 18 rfl) rfl rfl (hK _ hw) (Nat.le_refl _) (Nat.le_refl _))
  · replace hw := hw.2 c80
    exact cl_sipush hG 20000 (hx_dq tdX2_tokenOf_1 13 rfl) sipush_20000 (cl_iload_n hG (hx_dq tdX2_tokenOf_1 14 rfl) rfl (cl_iadd hG (hx_dq tdX2_tokenOf_1 15 rfl) (cl_goto hG 93 (hx_dq tdX2_tokenOf_1 16 rfl) rfl (cl_iret hG (hx_dq tdX2_tokenOf_1 18 rfl) rfl rfl (hK _ hw) (Nat.le_refl _) (Nat.le_refl _)))))
def wX2_tokenOf_J71 (Λ : hx_L) (μ : hx_M) (K : Int32 → Prop)  (v3 : Int32)   : Prop := wX2_tokenOf_J76 Λ μ K v3 1
set_option maxRecDepth 100000 in
set_option maxHeartbeats 4000000 in
theorem kX2_tokenOf_J71 {G : hx_GT} {KK : hx_KT} (hG : hx_K cX2_tokenOf 5 0 0 (some .int) TbX2 KK G) (cA : hx_CA RX2 cX2_tokenOf 6 0 0 G) {Λ : hx_L} (hF : cF Λ) {μ : hx_M} (v3 : Int32)  {K : Int32 → Prop} (hK : ∀ (r : Int32), K r → KK (some (.int r)) Λ μ)  (hw : wX2_tokenOf_J71 Λ μ K v3) : G Λ μ (0, 0) 71 [none, none, none, some (.int v3), none] [] := by
  unfold wX2_tokenOf_J71 at hw
  refine cl_iconst hG 1 (hx_dq tdX2_tokenOf_1 7 rfl) iconst_1 (cl_goto hG 76 (hx_dq tdX2_tokenOf_1 8 rfl) rfl ?_)
  exact cl_sub hG (hx_le_n (hx_le_n (hx_le_n (hx_le_c rfl (hx_le_n hx_le_0))))) (kX2_tokenOf_J76 hG cA hF v3 1 hK hw)
def wX2_tokenOf_J76_6 (Λ : hx_L) (μ : hx_M) (K : Int32 → Prop)  (v3 : Int32) (t0 : Int32)  : Prop := (t0 = 0 → (K (-3))) ∧ (¬ (t0 = 0) → (K (20000 + v3)))
set_option maxRecDepth 100000 in
set_option maxHeartbeats 4000000 in
theorem kX2_tokenOf_J76_6 {G : hx_GT} {KK : hx_KT} (hG : hx_K cX2_tokenOf 5 0 0 (some .int) TbX2 KK G) (cA : hx_CA RX2 cX2_tokenOf 6 0 0 G) {Λ : hx_L} (hF : cF Λ) {μ : hx_M} (v3 : Int32) (t0 : Int32) {K : Int32 → Prop} (hK : ∀ (r : Int32), K r → KK (some (.int r)) Λ μ)  (hw : wX2_tokenOf_J76_6 Λ μ K v3 t0) : G Λ μ (0, 0) 76 [none, none, none, some (.int v3), none] [.int t0] := by
  unfold wX2_tokenOf_J76_6 at hw
  refine cl_istore hG (hx_dq tdX2_tokenOf_1 10 rfl) (Nat.le_of_ble_eq_true rfl) rfl (cl_iload hG (hx_dq tdX2_tokenOf_1 11 rfl) rfl (cl_if_eq hG 91 (hx_dq tdX2_tokenOf_1 12 rfl) rfl (fun c80 => ?_) (fun c80 => ?_)))
  · replace hw := hw.1 c80
    exact cl_bipush hG (-3) (hx_dq tdX2_tokenOf_1 17 rfl) bipush_m3 (cl_iret hG (hx_dq tdX2_tokenOf_1 18 rfl) rfl rfl (hK _ hw) (Nat.le_refl _) (Nat.le_refl _))
  · replace hw := hw.2 c80
    exact cl_sipush hG 20000 (hx_dq tdX2_tokenOf_1 13 rfl) sipush_20000 (cl_iload_n hG (hx_dq tdX2_tokenOf_1 14 rfl) rfl (cl_iadd hG (hx_dq tdX2_tokenOf_1 15 rfl) (cl_goto hG 93 (hx_dq tdX2_tokenOf_1 16 rfl) rfl (cl_iret hG (hx_dq tdX2_tokenOf_1 18 rfl) rfl rfl (hK _ hw) (Nat.le_refl _) (Nat.le_refl _)))))
def wX2_tokenOf (Λ : hx_L) (μ : hx_M) (v1 : Int32) (v2 : Int32) (K : Int32 → Prop) : Prop := vp_in v1 700 ∧ wX2_isLetter (μ.1 1 v1.toNatClampNeg) (fun r8_3 => (r8_3 = 0 → (wX2_isDigit (μ.1 1 v1.toNatClampNeg) (fun r22_5 => (r22_5 = 0 → (((μ.1 1 v1.toNatClampNeg) = 59 → (wX2_tokenOf_J71 Λ μ K (μ.1 1 v1.toNatClampNeg))) ∧ (¬ ((μ.1 1 v1.toNatClampNeg) = 59) → (((μ.1 1 v1.toNatClampNeg) = 40 → (wX2_tokenOf_J71 Λ μ K (μ.1 1 v1.toNatClampNeg))) ∧ (¬ ((μ.1 1 v1.toNatClampNeg) = 40) → (((μ.1 1 v1.toNatClampNeg) = 41 → (wX2_tokenOf_J71 Λ μ K (μ.1 1 v1.toNatClampNeg))) ∧ (¬ ((μ.1 1 v1.toNatClampNeg) = 41) → (((μ.1 1 v1.toNatClampNeg) = 60 → (wX2_tokenOf_J71 Λ μ K (μ.1 1 v1.toNatClampNeg))) ∧ (¬ ((μ.1 1 v1.toNatClampNeg) = 60) → (((μ.1 1 v1.toNatClampNeg) = 62 → (wX2_tokenOf_J71 Λ μ K (μ.1 1 v1.toNatClampNeg))) ∧ (¬ ((μ.1 1 v1.toNatClampNeg) = 62) → (((μ.1 1 v1.toNatClampNeg) ≠ 61 → (wX2_tokenOf_J76_6 Λ μ K (μ.1 1 v1.toNatClampNeg) 0)) ∧ ((μ.1 1 v1.toNatClampNeg) = 61 → (wX2_tokenOf_J71 Λ μ K (μ.1 1 v1.toNatClampNeg))))))))))))))) ∧ (¬ (r22_5 = 0) → (wX2_numberOf μ v1 v2 (fun r31_8 => K r31_8)))))) ∧ (¬ (r8_3 = 0) → (wX2_wordOf Λ μ v1 v2 (fun r17_10 => K r17_10))))
set_option maxRecDepth 100000 in
set_option maxHeartbeats 4000000 in
theorem kX2_tokenOf {G : hx_GT} {KK : hx_KT} (hG : hx_K cX2_tokenOf 5 0 0 (some .int) TbX2 KK G) (cA : hx_CA RX2 cX2_tokenOf 6 0 0 G) {Λ : hx_L} (hF : cF Λ) {μ : hx_M} (v1 : Int32) (v2 : Int32) {K : Int32 → Prop} (hK : ∀ (r : Int32), K r → KK (some (.int r)) Λ μ) (hw : wX2_tokenOf Λ μ v1 v2 K) : G Λ μ (0, 0) 0 [some (.ref 2), some (.int v1), some (.int v2), none, none] [] := by
  unfold wX2_tokenOf at hw
  obtain ⟨i5_1, hw⟩ := hw
  refine cl_aload_n hG (hx_dq tdX2_tokenOf_0 0 rfl) rfl (cl_getS hG fmX2_11 (hx_dq tdX2_tokenOf_0 1 rfl) (cF_S2 hF) (cF_R2_0 hF) (cl_iload_n hG (hx_dq tdX2_tokenOf_0 2 rfl) rfl (cl_bald hG (hx_dq tdX2_tokenOf_0 3 rfl) (cF_S1 hF) i5_1 (cl_istore_n hG (hx_dq tdX2_tokenOf_0 4 rfl) (Nat.le_of_ble_eq_true rfl) rfl (cl_iload_n hG (hx_dq tdX2_tokenOf_0 5 rfl) rfl (cl_callS1 (caX2_tokenOf_65 cA) (hx_dq tdX2_tokenOf_0 6 rfl) (Nat.le_of_ble_eq_true rfl) (Nat.le_refl _) (Nat.le_refl _) (sX2_isLetter_mk hw (fun r8_3 hw => ?_))))))))
  refine cl_if_eq hG 21 (hx_dq tdX2_tokenOf_0 7 rfl) rfl (fun c11 => ?_) (fun c11 => ?_)
  · replace hw := hw.1 c11
    refine cl_iload_n hG (hx_dq tdX2_tokenOf_0 13 rfl) rfl (cl_callS1 (caX2_tokenOf_69 cA) (hx_dq tdX2_tokenOf_0 14 rfl) (Nat.le_of_ble_eq_true rfl) (Nat.le_refl _) (Nat.le_refl _) (sX2_isDigit_mk hw (fun r22_5 hw => ?_)))
    refine cl_if_eq hG 35 (hx_dq tdX2_tokenOf_0 15 rfl) rfl (fun c25 => ?_) (fun c25 => ?_)
    · replace hw := hw.1 c25
      refine cl_iload_n hG (hx_dq tdX2_tokenOf_0 21 rfl) rfl (cl_bipush hG 59 (hx_dq tdX2_tokenOf_0 22 rfl) bipush_59 (cl_icmp_eq hG 71 (hx_dq tdX2_tokenOf_0 23 rfl) rfl (fun c38 => ?_) (fun c38 => ?_)))
      · replace hw := hw.1 c38
        exact cl_sub hG (hx_le_n (hx_le_n (hx_le_n (hx_le_c rfl (hx_le_n hx_le_0))))) (kX2_tokenOf_J71 hG cA hF (μ.1 1 v1.toNatClampNeg) hK hw)
      · replace hw := hw.2 c38
        refine cl_iload_n hG (hx_dq tdX2_tokenOf_0 24 rfl) rfl (cl_bipush hG 40 (hx_dq tdX2_tokenOf_0 25 rfl) bipush_40 (cl_icmp_eq hG 71 (hx_dq tdX2_tokenOf_0 26 rfl) rfl (fun c44 => ?_) (fun c44 => ?_)))
        · replace hw := hw.1 c44
          exact cl_sub hG (hx_le_n (hx_le_n (hx_le_n (hx_le_c rfl (hx_le_n hx_le_0))))) (kX2_tokenOf_J71 hG cA hF (μ.1 1 v1.toNatClampNeg) hK hw)
        · replace hw := hw.2 c44
          refine cl_iload_n hG (hx_dq tdX2_tokenOf_0 27 rfl) rfl (cl_bipush hG 41 (hx_dq tdX2_tokenOf_0 28 rfl) bipush_41 (cl_icmp_eq hG 71 (hx_dq tdX2_tokenOf_0 29 rfl) rfl (fun c50 => ?_) (fun c50 => ?_)))
          · replace hw := hw.1 c50
            exact cl_sub hG (hx_le_n (hx_le_n (hx_le_n (hx_le_c rfl (hx_le_n hx_le_0))))) (kX2_tokenOf_J71 hG cA hF (μ.1 1 v1.toNatClampNeg) hK hw)
          · replace hw := hw.2 c50
            refine cl_iload_n hG (hx_dq tdX2_tokenOf_0 30 rfl) rfl (cl_bipush hG 60 (hx_dq tdX2_tokenOf_0 31 rfl) bipush_60 (cl_icmp_eq hG 71 (hx_dq tdX2_tokenOf_1 0 rfl) rfl (fun c56 => ?_) (fun c56 => ?_)))
            · replace hw := hw.1 c56
              exact cl_sub hG (hx_le_n (hx_le_n (hx_le_n (hx_le_c rfl (hx_le_n hx_le_0))))) (kX2_tokenOf_J71 hG cA hF (μ.1 1 v1.toNatClampNeg) hK hw)
            · replace hw := hw.2 c56
              refine cl_iload_n hG (hx_dq tdX2_tokenOf_1 1 rfl) rfl (cl_bipush hG 62 (hx_dq tdX2_tokenOf_1 2 rfl) bipush_62 (cl_icmp_eq hG 71 (hx_dq tdX2_tokenOf_1 3 rfl) rfl (fun c62 => ?_) (fun c62 => ?_)))
              · replace hw := hw.1 c62
                exact cl_sub hG (hx_le_n (hx_le_n (hx_le_n (hx_le_c rfl (hx_le_n hx_le_0))))) (kX2_tokenOf_J71 hG cA hF (μ.1 1 v1.toNatClampNeg) hK hw)
              · replace hw := hw.2 c62
                refine cl_iload_n hG (hx_dq tdX2_tokenOf_1 4 rfl) rfl (cl_bipush hG 61 (hx_dq tdX2_tokenOf_1 5 rfl) bipush_61 (cl_icmp_ne hG 75 (hx_dq tdX2_tokenOf_1 6 rfl) rfl (fun c68 => ?_) (fun c68 => ?_)))
                · replace hw := hw.1 c68
                  refine cl_iconst hG 0 (hx_dq tdX2_tokenOf_1 9 rfl) iconst_0 ?_
                  exact cl_sub hG (hx_le_n (hx_le_n (hx_le_n (hx_le_c rfl (hx_le_n hx_le_0))))) (kX2_tokenOf_J76_6 hG cA hF (μ.1 1 v1.toNatClampNeg) 0 hK hw)
                · replace hw := hw.2 c68
                  exact cl_sub hG (hx_le_n (hx_le_n (hx_le_n (hx_le_c rfl (hx_le_n hx_le_0))))) (kX2_tokenOf_J71 hG cA hF (μ.1 1 v1.toNatClampNeg) hK hw)
    · replace hw := hw.2 c25
      refine cl_aload_n hG (hx_dq tdX2_tokenOf_0 16 rfl) rfl (cl_iload_n hG (hx_dq tdX2_tokenOf_0 17 rfl) rfl (cl_iload_n hG (hx_dq tdX2_tokenOf_0 18 rfl) rfl (cl_callV2 (caX2_tokenOf_75 cA) (hx_dq tdX2_tokenOf_0 19 rfl) (cF_S2 hF) (Nat.le_of_ble_eq_true rfl) (Nat.le_refl _) (Nat.le_refl _) (sX2_numberOf_mk hF hw (fun r31_8 hw => ?_)))))
      exact cl_iret hG (hx_dq tdX2_tokenOf_0 20 rfl) rfl rfl (hK _ hw) (Nat.le_refl _) (Nat.le_refl _)
  · replace hw := hw.2 c11
    refine cl_aload_n hG (hx_dq tdX2_tokenOf_0 8 rfl) rfl (cl_iload_n hG (hx_dq tdX2_tokenOf_0 9 rfl) rfl (cl_iload_n hG (hx_dq tdX2_tokenOf_0 10 rfl) rfl (cl_callV2 (caX2_tokenOf_72 cA) (hx_dq tdX2_tokenOf_0 11 rfl) (cF_S2 hF) (Nat.le_of_ble_eq_true rfl) (Nat.le_refl _) (Nat.le_refl _) (sX2_wordOf_mk hF hw (fun r17_10 hw => ?_)))))
    exact cl_iret hG (hx_dq tdX2_tokenOf_0 12 rfl) rfl rfl (hK _ hw) (Nat.le_refl _) (Nat.le_refl _)
def sX2_tokenOf : hx_ST := fun Λ μ as KK => cF Λ ∧ ∃ (v1 : Int32) (v2 : Int32) (K : Int32 → Prop), as = [.ref 2, .int v1, .int v2] ∧ wX2_tokenOf Λ μ v1 v2 K ∧ (∀ (r : Int32), K r → KK (some (.int r)) Λ μ)
theorem sX2_tokenOf_mk {Λ : hx_L} {μ : hx_M} {KK : hx_KT} {v1 : Int32} {v2 : Int32} {K : Int32 → Prop} (hF : cF Λ) (hw : wX2_tokenOf Λ μ v1 v2 K) (hk : ∀ (r : Int32), K r → KK (some (.int r)) Λ μ) : sX2_tokenOf Λ μ [.ref 2, .int v1, .int v2] KK := ⟨hF, _, _, _, rfl, hw, hk⟩
theorem conX2_tokenOf : hx_Con yX2_tokenOf cX2_tokenOf 5 (some .int) 6 0 0 sX2_tokenOf := by
  refine hx_con_of (by decide +kernel) tokX2 (by decide) ?_ ?_
  · intro Λ μ as KK h
    obtain ⟨hF, v1, v2, K, rfl, hw, hK⟩ := h
    exact Nat.le_of_ble_eq_true rfl
  · intro G KK hG cA Λ μ as h
    obtain ⟨hF, v1, v2, K, rfl, hw, hK⟩ := h
    exact cl_sub hG (hx_le_c rfl (hx_le_c rfl (hx_le_c rfl (hx_le_n (hx_le_n hx_le_0))))) (kX2_tokenOf hG cA hF _ _ hK hw)
/-! HemLine$LawReader.split()V -/
def tbX2_split_0 : List (Nat × Instr × Nat) := [(0, .iconst 0, 1), (1, .istore_n 1, 1), (2, .iconst 0, 1), (3, .istore_n 2, 1), (4, .iload_n 1, 1), (5, .aload_n 0, 1), (6, .getfield 15, 3), (9, .if_icmp .ge 69, 3), (12, .iload_n 2, 1), (13, .sipush 700, 3), (16, .if_icmp .ge 62, 3), (19, .iload_n 1, 1), (20, .iconst 1, 1), (21, .iadd, 1), (22, .istore_n 3, 1), (23, .aload_n 0, 1), (24, .getfield 11, 3), (27, .iload_n 1, 1), (28, .baload, 1), (29, .bipush 32, 2), (31, .if_icmp .eq 42, 3), (34, .aload_n 0, 1), (35, .getfield 11, 3), (38, .iload_n 1, 1), (39, .baload, 1), (40, .bipush 10, 2), (42, .if_icmp .eq 31, 3), (45, .aload_n 0, 1), (46, .iload_n 1, 1), (47, .invokevirtual 57, 3), (50, .istore_n 3, 1), (51, .aload_n 0, 1)]
def tbX2_split_1 : List (Nat × Instr × Nat) := [(52, .getfield 19, 3), (55, .iload_n 2, 1), (56, .aload_n 0, 1), (57, .iload_n 1, 1), (58, .iload_n 3, 1), (59, .invokevirtual 61, 3), (62, .iastore, 1), (63, .aload_n 0, 1), (64, .getfield 23, 3), (67, .iload_n 2, 1), (68, .iload_n 1, 1), (69, .iastore, 1), (70, .iinc 2 1, 3), (73, .iload_n 3, 1), (74, .istore_n 1, 1), (75, .goto (-71), 3), (78, .aload_n 0, 1), (79, .getfield 19, 3), (82, .iload_n 2, 1), (83, .bipush (-2), 2), (85, .iastore, 1), (86, .aload_n 0, 1), (87, .getfield 23, 3), (90, .iload_n 2, 1), (91, .aload_n 0, 1), (92, .getfield 15, 3), (95, .iastore, 1), (96, .return_, 1)]
theorem tdX2_split_0 : hx_dt cX2_split tbX2_split_0 = true := by decide +kernel
theorem tdX2_split_1 : hx_dt cX2_split tbX2_split_1 = true := by decide +kernel
theorem caX2_split_57 {G : hx_GT} (cA : hx_CA RX2 cX2_split 7 0 0 G) : hx_CV cX2_split G 0 0 57 2 1 sX2_endOfToken 0 0 := cA.1 conX2_endOfToken rfl rfl ⟨by decide +kernel, by decide +kernel, by decide +kernel⟩ mw_534 mw_536 mw_2 mw_85 mw_537 (by decide) (by decide)
theorem caX2_split_61 {G : hx_GT} (cA : hx_CA RX2 cX2_split 7 0 0 G) : hx_CV cX2_split G 0 0 61 2 2 sX2_tokenOf 0 0 := cA.1 conX2_tokenOf rfl rfl ⟨by decide +kernel, by decide +kernel, by decide +kernel⟩ mw_544 mw_546 mw_3 mw_85 mw_547 (by decide) (by decide)
def wX2_split_J73 (Λ : hx_L) (K : hx_M → Prop) (K4 : Int32 → Int32 → hx_M → Prop) (v2 : Int32) (v3 : Int32)  (μ : hx_M) : Prop := K4 v3 v2 μ
set_option maxRecDepth 100000 in
set_option maxHeartbeats 4000000 in
theorem kX2_split_J73 {G : hx_GT} {KK : hx_KT} (hG : hx_K cX2_split 4 0 0 (none) TbX2 KK G) (cA : hx_CA RX2 cX2_split 7 0 0 G) {Λ : hx_L} (hF : cF Λ) {μ : hx_M} (v2 : Int32) (v3 : Int32)  {K : hx_M → Prop} (hK : ∀ (m : hx_M), K m → KK none Λ m) {K4 : Int32 → Int32 → hx_M → Prop} (hk4 : ∀ (v1 : Int32) (v2 : Int32) (μ : hx_M), K4 v1 v2 μ → G Λ μ (0, 0) 4 [some (.ref 2), some (.int v1), some (.int v2), none] []) (hw : wX2_split_J73 Λ K K4 v2 v3 μ) : G Λ μ (0, 0) 73 [some (.ref 2), none, some (.int v2), some (.int v3)] [] := by
  unfold wX2_split_J73 at hw
  exact cl_iload_n hG (hx_dq tdX2_split_1 13 rfl) rfl (cl_istore_n hG (hx_dq tdX2_split_1 14 rfl) (Nat.le_of_ble_eq_true rfl) rfl (cl_goto hG 4 (hx_dq tdX2_split_1 15 rfl) rfl (cl_sub hG (hx_le_c rfl (hx_le_c rfl (hx_le_c rfl (hx_le_n hx_le_0)))) (hk4 v3 v2 _ hw))))
def wX2_split_L4 (Λ : hx_L) (K : hx_M → Prop) (K78 : Int32 → hx_M → Prop) : Nat → Int32 → Int32 → hx_M → Prop
  | 0, _, _, _ => False
  | n + 1, v1, v2, μ => ((μ.1 2 1) ≤ v1 → (K78 v2 μ)) ∧ (¬ ((μ.1 2 1) ≤ v1) → ((700 ≤ v2 → (K78 v2 μ)) ∧ (¬ (700 ≤ v2) → (vp_in v1 700 ∧ ((μ.1 1 v1.toNatClampNeg) = 32 → (wX2_split_J73 Λ K (wX2_split_L4 Λ K K78 n) v2 (v1 + 1) μ)) ∧ (¬ ((μ.1 1 v1.toNatClampNeg) = 32) → (vp_in v1 700 ∧ ((μ.1 1 v1.toNatClampNeg) = 10 → (wX2_split_J73 Λ K (wX2_split_L4 Λ K K78 n) v2 (v1 + 1) μ)) ∧ (¬ ((μ.1 1 v1.toNatClampNeg) = 10) → (wX2_endOfToken μ v1 (fun r47_4 => wX2_tokenOf Λ μ v1 r47_4 (fun r59_6 => vp_in v2 701 ∧ vp_in v2 701 ∧ wX2_split_J73 Λ K (wX2_split_L4 Λ K K78 n) (v2 + 1) r47_4 (hx_sI (hx_sI μ 3 v2.toNatClampNeg r59_6) 4 v2.toNatClampNeg v1)))))))))))
set_option maxRecDepth 100000 in
set_option maxHeartbeats 4000000 in
theorem kX2_split_L4 {G : hx_GT} {KK : hx_KT} (hG : hx_K cX2_split 4 0 0 (none) TbX2 KK G) (cA : hx_CA RX2 cX2_split 7 0 0 G) {Λ : hx_L} (hF : cF Λ)   {K : hx_M → Prop} (hK : ∀ (m : hx_M), K m → KK none Λ m) {K78 : Int32 → hx_M → Prop} (hk78 : ∀ (v2 : Int32) (μ : hx_M), K78 v2 μ → G Λ μ (0, 0) 78 [some (.ref 2), none, some (.int v2), none] []) : ∀ (n : Nat) (v1 : Int32) (v2 : Int32) (μ : hx_M), wX2_split_L4 Λ K K78 n v1 v2 μ → G Λ μ (0, 0) 4 [some (.ref 2), some (.int v1), some (.int v2), none] [] := by
  intro n
  induction n with
  | zero =>
    intro v1 v2 μ hw
    exact False.elim (by simpa only [wX2_split_L4] using hw)
  | succ n ih =>
    intro v1 v2 μ hw
    unfold wX2_split_L4 at hw
    refine cl_iload_n hG (hx_dq tdX2_split_0 4 rfl) rfl (cl_aload_n hG (hx_dq tdX2_split_0 5 rfl) rfl (cl_getI hG fmX2_15 (hx_dq tdX2_split_0 6 rfl) (cF_S2 hF) (cl_icmp_ge hG 78 (hx_dq tdX2_split_0 7 rfl) rfl (fun c9 => ?_) (fun c9 => ?_))))
    · replace hw := hw.1 c9
      exact cl_sub hG (hx_le_c rfl (hx_le_n (hx_le_c rfl (hx_le_n hx_le_0)))) (hk78 v2 _ hw)
    · replace hw := hw.2 c9
      refine cl_iload_n hG (hx_dq tdX2_split_0 8 rfl) rfl (cl_sipush hG 700 (hx_dq tdX2_split_0 9 rfl) sipush_700 (cl_icmp_ge hG 78 (hx_dq tdX2_split_0 10 rfl) rfl (fun c16 => ?_) (fun c16 => ?_)))
      · replace hw := hw.1 c16
        exact cl_sub hG (hx_le_c rfl (hx_le_n (hx_le_c rfl (hx_le_n hx_le_0)))) (hk78 v2 _ hw)
      · replace hw := hw.2 c16
        obtain ⟨i28_1, hw⟩ := hw
        refine cl_iload_n hG (hx_dq tdX2_split_0 11 rfl) rfl (cl_iconst hG 1 (hx_dq tdX2_split_0 12 rfl) iconst_1 (cl_iadd hG (hx_dq tdX2_split_0 13 rfl) (cl_istore_n hG (hx_dq tdX2_split_0 14 rfl) (Nat.le_of_ble_eq_true rfl) rfl (cl_aload_n hG (hx_dq tdX2_split_0 15 rfl) rfl (cl_getS hG fmX2_11 (hx_dq tdX2_split_0 16 rfl) (cF_S2 hF) (cF_R2_0 hF) (cl_iload_n hG (hx_dq tdX2_split_0 17 rfl) rfl (cl_bald hG (hx_dq tdX2_split_0 18 rfl) (cF_S1 hF) i28_1 (cl_bipush hG 32 (hx_dq tdX2_split_0 19 rfl) bipush_32 (cl_icmp_eq hG 73 (hx_dq tdX2_split_0 20 rfl) rfl (fun c31 => ?_) (fun c31 => ?_))))))))))
        · replace hw := hw.1 c31
          exact cl_sub hG (hx_le_c rfl (hx_le_n (hx_le_c rfl (hx_le_c rfl hx_le_0)))) (kX2_split_J73 hG cA hF v2 (v1 + 1) hK (fun z0 z1 z2 hw => ih z0 z1 z2 hw) hw)
        · replace hw := hw.2 c31
          obtain ⟨i39_2, hw⟩ := hw
          refine cl_aload_n hG (hx_dq tdX2_split_0 21 rfl) rfl (cl_getS hG fmX2_11 (hx_dq tdX2_split_0 22 rfl) (cF_S2 hF) (cF_R2_0 hF) (cl_iload_n hG (hx_dq tdX2_split_0 23 rfl) rfl (cl_bald hG (hx_dq tdX2_split_0 24 rfl) (cF_S1 hF) i39_2 (cl_bipush hG 10 (hx_dq tdX2_split_0 25 rfl) bipush_10 (cl_icmp_eq hG 73 (hx_dq tdX2_split_0 26 rfl) rfl (fun c42 => ?_) (fun c42 => ?_))))))
          · replace hw := hw.1 c42
            exact cl_sub hG (hx_le_c rfl (hx_le_n (hx_le_c rfl (hx_le_c rfl hx_le_0)))) (kX2_split_J73 hG cA hF v2 (v1 + 1) hK (fun z0 z1 z2 hw => ih z0 z1 z2 hw) hw)
          · replace hw := hw.2 c42
            refine cl_aload_n hG (hx_dq tdX2_split_0 27 rfl) rfl (cl_iload_n hG (hx_dq tdX2_split_0 28 rfl) rfl (cl_callV1 (caX2_split_57 cA) (hx_dq tdX2_split_0 29 rfl) (cF_S2 hF) (Nat.le_of_ble_eq_true rfl) (Nat.le_refl _) (Nat.le_refl _) (sX2_endOfToken_mk hF hw (fun r47_4 hw => ?_))))
            refine cl_istore_n hG (hx_dq tdX2_split_0 30 rfl) (Nat.le_of_ble_eq_true rfl) rfl (cl_aload_n hG (hx_dq tdX2_split_0 31 rfl) rfl (cl_getS hG fmX2_19 (hx_dq tdX2_split_1 0 rfl) (cF_S2 hF) (cF_R2_2 hF) (cl_iload_n hG (hx_dq tdX2_split_1 1 rfl) rfl (cl_aload_n hG (hx_dq tdX2_split_1 2 rfl) rfl (cl_iload_n hG (hx_dq tdX2_split_1 3 rfl) rfl (cl_iload_n hG (hx_dq tdX2_split_1 4 rfl) rfl (cl_callV2 (caX2_split_61 cA) (hx_dq tdX2_split_1 5 rfl) (cF_S2 hF) (Nat.le_of_ble_eq_true rfl) (Nat.le_refl _) (Nat.le_refl _) (sX2_tokenOf_mk hF hw (fun r59_6 hw => ?_)))))))))
            obtain ⟨i62_7, hw⟩ := hw
            obtain ⟨i69_8, hw⟩ := hw
            refine cl_iast hG (hx_dq tdX2_split_1 6 rfl) (cF_S3 hF) i62_7 (cl_aload_n hG (hx_dq tdX2_split_1 7 rfl) rfl (cl_getS hG fmX2_23 (hx_dq tdX2_split_1 8 rfl) (cF_S2 hF) (cF_R2_3 hF) (cl_iload_n hG (hx_dq tdX2_split_1 9 rfl) rfl (cl_iload_n hG (hx_dq tdX2_split_1 10 rfl) rfl (cl_iast hG (hx_dq tdX2_split_1 11 rfl) (cF_S4 hF) i69_8 (cl_iinc hG (v2 + 1) (hx_dq tdX2_split_1 12 rfl) rfl (congrArg (fun z => v2 + z) iconst_1) (Nat.le_of_ble_eq_true rfl) rfl ?_))))))
            exact cl_sub hG (hx_le_c rfl (hx_le_n (hx_le_c rfl (hx_le_c rfl hx_le_0)))) (kX2_split_J73 hG cA hF (v2 + 1) r47_4 hK (fun z0 z1 z2 hw => ih z0 z1 z2 hw) hw)
def wX2_split_J78 (Λ : hx_L) (K : hx_M → Prop)  (v2 : Int32)  (μ : hx_M) : Prop := vp_in v2 701 ∧ vp_in v2 701 ∧ K (hx_sI (hx_sI μ 3 v2.toNatClampNeg (-2)) 4 v2.toNatClampNeg (μ.1 2 1))
set_option maxRecDepth 100000 in
set_option maxHeartbeats 4000000 in
theorem kX2_split_J78 {G : hx_GT} {KK : hx_KT} (hG : hx_K cX2_split 4 0 0 (none) TbX2 KK G) (cA : hx_CA RX2 cX2_split 7 0 0 G) {Λ : hx_L} (hF : cF Λ) {μ : hx_M} (v2 : Int32)  {K : hx_M → Prop} (hK : ∀ (m : hx_M), K m → KK none Λ m)  (hw : wX2_split_J78 Λ K v2 μ) : G Λ μ (0, 0) 78 [some (.ref 2), none, some (.int v2), none] [] := by
  unfold wX2_split_J78 at hw
  obtain ⟨i85_10, hw⟩ := hw
  obtain ⟨i95_11, hw⟩ := hw
  exact cl_aload_n hG (hx_dq tdX2_split_1 16 rfl) rfl (cl_getS hG fmX2_19 (hx_dq tdX2_split_1 17 rfl) (cF_S2 hF) (cF_R2_2 hF) (cl_iload_n hG (hx_dq tdX2_split_1 18 rfl) rfl (cl_bipush hG (-2) (hx_dq tdX2_split_1 19 rfl) bipush_m2 (cl_iast hG (hx_dq tdX2_split_1 20 rfl) (cF_S3 hF) i85_10 (cl_aload_n hG (hx_dq tdX2_split_1 21 rfl) rfl (cl_getS hG fmX2_23 (hx_dq tdX2_split_1 22 rfl) (cF_S2 hF) (cF_R2_3 hF) (cl_iload_n hG (hx_dq tdX2_split_1 23 rfl) rfl (cl_aload_n hG (hx_dq tdX2_split_1 24 rfl) rfl (cl_getI hG fmX2_15 (hx_dq tdX2_split_1 25 rfl) (cF_S2 hF) (cl_iast hG (hx_dq tdX2_split_1 26 rfl) (cF_S4 hF) i95_11 (cl_vret hG (hx_dq tdX2_split_1 27 rfl) rfl (hK _ hw) (Nat.le_refl _) (Nat.le_refl _))))))))))))
def wX2_split (Λ : hx_L) (μ : hx_M)  (K : hx_M → Prop) : Prop := ∃ n4_12, wX2_split_L4 Λ K (fun v2_9 m_9 => wX2_split_J78 Λ K v2_9 m_9) n4_12 0 0 μ
set_option maxRecDepth 100000 in
set_option maxHeartbeats 4000000 in
theorem kX2_split {G : hx_GT} {KK : hx_KT} (hG : hx_K cX2_split 4 0 0 (none) TbX2 KK G) (cA : hx_CA RX2 cX2_split 7 0 0 G) {Λ : hx_L} (hF : cF Λ) {μ : hx_M}  {K : hx_M → Prop} (hK : ∀ (m : hx_M), K m → KK none Λ m) (hw : wX2_split Λ μ K) : G Λ μ (0, 0) 0 [some (.ref 2), none, none, none] [] := by
  unfold wX2_split at hw
  refine cl_iconst hG 0 (hx_dq tdX2_split_0 0 rfl) iconst_0 (cl_istore_n hG (hx_dq tdX2_split_0 1 rfl) (Nat.le_of_ble_eq_true rfl) rfl (cl_iconst hG 0 (hx_dq tdX2_split_0 2 rfl) iconst_0 (cl_istore_n hG (hx_dq tdX2_split_0 3 rfl) (Nat.le_of_ble_eq_true rfl) rfl ?_)))
  obtain ⟨n_, hw⟩ := hw
  refine cl_sub hG (hx_le_c rfl (hx_le_c rfl (hx_le_c rfl (hx_le_n hx_le_0)))) (kX2_split_L4 hG cA hF hK (fun v2_9 m_9 hw => ?_) n_ 0 0 _ hw)
  · exact cl_sub hG (hx_le_c rfl (hx_le_n (hx_le_c rfl (hx_le_n hx_le_0)))) (kX2_split_J78 hG cA hF v2_9 hK hw)
def sX2_split : hx_ST := fun Λ μ as KK => cF Λ ∧ ∃ (K : hx_M → Prop), as = [.ref 2] ∧ wX2_split Λ μ K ∧ (∀ (m : hx_M), K m → KK none Λ m)
theorem sX2_split_mk {Λ : hx_L} {μ : hx_M} {KK : hx_KT}  {K : hx_M → Prop} (hF : cF Λ) (hw : wX2_split Λ μ K) (hk : ∀ (m : hx_M), K m → KK none Λ m) : sX2_split Λ μ [.ref 2] KK := ⟨hF, _, rfl, hw, hk⟩
theorem conX2_split : hx_Con yX2_split cX2_split 4 (none) 7 0 0 sX2_split := by
  refine hx_con_of (by decide +kernel) tokX2 (by decide) ?_ ?_
  · intro Λ μ as KK h
    obtain ⟨hF, K, rfl, hw, hK⟩ := h
    exact Nat.le_of_ble_eq_true rfl
  · intro G KK hG cA Λ μ as h
    obtain ⟨hF, K, rfl, hw, hK⟩ := h
    exact cl_sub hG (hx_le_c rfl (hx_le_n (hx_le_n (hx_le_n hx_le_0)))) (kX2_split hG cA hF hK hw)
/-! java/util/Arrays.copyOf([II)[I -/
def tbJ7_copyOf_59c91_0 : List (Nat × Instr × Nat) := [(0, .iload_n 1, 1), (1, .aload_n 0, 1), (2, .arraylength, 1), (3, .if_icmp .ne 11, 3), (6, .aload_n 0, 1), (7, .invokevirtual 316, 3), (10, .checkcast 317, 3), (13, .areturn, 1), (14, .iload_n 1, 1), (15, .newarray .int, 2), (17, .astore_n 2, 1), (18, .aload_n 0, 1), (19, .iconst 0, 1), (20, .aload_n 2, 1), (21, .iconst 0, 1), (22, .aload_n 0, 1), (23, .arraylength, 1), (24, .iload_n 1, 1), (25, .invokestatic 304, 3), (28, .invokestatic 150, 3), (31, .aload_n 2, 1), (32, .areturn, 1)]
theorem tdJ7_copyOf_59c91_0 : hx_dt cJ7_copyOf_59c91 tbJ7_copyOf_59c91_0 = true := by decide +kernel
def TAJ7_copyOf_59c91 : hx_TA := ([], [], [], [])
theorem taokJ7_copyOf_59c91 : hx_taok RJ7 TAJ7_copyOf_59c91 := ⟨(fun _ h => absurd h List.not_mem_nil), (fun _ h => absurd h List.not_mem_nil), (fun _ h => absurd h List.not_mem_nil), (fun _ h => absurd h List.not_mem_nil)⟩
def wJ7_copyOf_59c91 (Λ : hx_L) (μ : hx_M) (v0 : Nat) (v1 : Int32) (K : Option Nat → hx_L → hx_M → Prop) : Prop := ∃ n2_2, Λ.1 v0 = (1, n2_2) ∧ (v1 ≠ (Int32.ofNat n2_2) → (¬ (v1 : Int32) < 0 ∧ (v1 : Int32).toNatClampNeg ≤ 65536 ∧ 0 + ((v1 : Int32).toNatClampNeg) ≤ 700 ∧ Λ.2.2 < hx_big ∧ ∀ L_7 : hx_L, L_7 = hx_push Λ (1, (v1 : Int32).toNatClampNeg) → ∀ m_8 : hx_M, m_8 = (hx_z μ Λ.2.2) → ∃ n23_10, L_7.1 v0 = (1, n23_10) ∧ ∀ x_11 : Int32, x_11 = (if v1 < (Int32.ofNat n23_10) then v1 else (Int32.ofNat n23_10)) → ∃ n28_13, L_7.1 Λ.2.2 = (1, n28_13) ∧ ¬ (0 : Int32) < 0 ∧ ¬ (0 : Int32) < 0 ∧ ¬ (x_11 : Int32) < 0 ∧ (0 : Int32).toNatClampNeg + (x_11 : Int32).toNatClampNeg ≤ n23_10 ∧ (0 : Int32).toNatClampNeg + (x_11 : Int32).toNatClampNeg ≤ n28_13 ∧ ∀ m_15 : hx_M, m_15 = (hx_sA m_8 Λ.2.2 (va_cpy (m_8.1 v0) (m_8.1 Λ.2.2) (0 : Int32).toNatClampNeg (0 : Int32).toNatClampNeg (x_11 : Int32).toNatClampNeg)) → K (some Λ.2.2) L_7 m_15)) ∧ (v1 = (Int32.ofNat n2_2) → (False))
set_option maxRecDepth 100000 in
set_option maxHeartbeats 4000000 in
theorem kJ7_copyOf_59c91 {G : hx_GT} {KK : hx_KT} (hG : hx_K cJ7_copyOf_59c91 3 1 700 (some (.array .int)) TbJ7 KK G) (hM : hx_KA cJ7_copyOf_59c91 1 700 TAJ7_copyOf_59c91 G) (cA : hx_CA RJ7 cJ7_copyOf_59c91 1 1 700 G) {Λ : hx_L}  {μ : hx_M} (v0 : Nat) (v1 : Int32) {K : Option Nat → hx_L → hx_M → Prop} (hK : ∀ (r : Option Nat) (Λ1 : hx_L) (m : hx_M), K r Λ1 m → KK (some (va_rf r)) Λ1 m) (hw : wJ7_copyOf_59c91 Λ μ v0 v1 K) : G Λ μ (0, 0) 0 [some (.ref v0), some (.int v1), none] [] := by
  unfold wJ7_copyOf_59c91 at hw
  obtain ⟨n2_2, o2_1, hw⟩ := hw
  refine cl_iload_n hG (hx_dq tdJ7_copyOf_59c91_0 0 rfl) rfl (cl_aload_n hG (hx_dq tdJ7_copyOf_59c91_0 1 rfl) rfl (cl_alenI hG (hx_dq tdJ7_copyOf_59c91_0 2 rfl) o2_1 (cl_icmp_ne hG 14 (hx_dq tdJ7_copyOf_59c91_0 3 rfl) rfl (fun c3 => ?_) (fun c3 => ?_))))
  · replace hw := hw.1 c3
    obtain ⟨h3, h4, hw⟩ := hw
    obtain ⟨s6, hw⟩ := hw
    obtain ⟨b5, hw⟩ := hw
    refine cl_iload_n hG (hx_dq tdJ7_copyOf_59c91_0 8 rfl) rfl (cl_newaI hM rfl (hx_dq tdJ7_copyOf_59c91_0 9 rfl) h3 h4 (Nat.le_of_ble_eq_true rfl) s6 b5 (cl_nmA (fun L_7 e_7 => ?_)))
    replace hw := hw L_7 e_7
    refine cl_nmM (fun m_8 e_8 => ?_)
    replace hw := hw m_8 e_8
    obtain ⟨n23_10, o23_9, hw⟩ := hw
    refine cl_astore_n hG (hx_dq tdJ7_copyOf_59c91_0 10 rfl) (Nat.le_of_ble_eq_true rfl) rfl (cl_aload_n hG (hx_dq tdJ7_copyOf_59c91_0 11 rfl) rfl (cl_iconst hG 0 (hx_dq tdJ7_copyOf_59c91_0 12 rfl) iconst_0 (cl_aload_n hG (hx_dq tdJ7_copyOf_59c91_0 13 rfl) rfl (cl_iconst hG 0 (hx_dq tdJ7_copyOf_59c91_0 14 rfl) iconst_0 (cl_aload_n hG (hx_dq tdJ7_copyOf_59c91_0 15 rfl) rfl (cl_alenI hG (hx_dq tdJ7_copyOf_59c91_0 16 rfl) o23_9 (cl_iload_n hG (hx_dq tdJ7_copyOf_59c91_0 17 rfl) rfl (cl_mmin hG mmJ7_304 (hx_dq tdJ7_copyOf_59c91_0 18 rfl) (Nat.le_of_ble_eq_true rfl) s6 (Nat.le_of_ble_eq_true rfl) (cl_nmI (fun x_11 e_11 => ?_))))))))))
    replace hw := hw x_11 e_11
    obtain ⟨n28_13, o28_12, hw⟩ := hw
    obtain ⟨g28_14_0, g28_14_1, g28_14_2, g28_14_3, g28_14_4, hw⟩ := hw
    refine cl_copy hG mmJ7_150 (hx_dq tdJ7_copyOf_59c91_0 19 rfl) (Nat.le_of_ble_eq_true rfl) s6 (Nat.le_of_ble_eq_true rfl) o23_9 o28_12 g28_14_0 g28_14_1 g28_14_2 g28_14_3 g28_14_4 (cl_nmM (fun m_15 e_15 => ?_))
    replace hw := hw m_15 e_15
    exact cl_aload_n hG (hx_dq tdJ7_copyOf_59c91_0 20 rfl) rfl (cl_aret hG (hx_dq tdJ7_copyOf_59c91_0 21 rfl) rfl (Or.inr ⟨_, rfl⟩) (hK (some Λ.2.2) _ _ hw) (Nat.le_of_ble_eq_true rfl) s6)
  · replace hw := hw.2 c3
    refine cl_aload_n hG (hx_dq tdJ7_copyOf_59c91_0 4 rfl) rfl ?_
    exact hw.elim
def sJ7_copyOf_59c91 : hx_ST := fun Λ μ as KK => ∃ (v0 : Nat) (v1 : Int32) (K : Option Nat → hx_L → hx_M → Prop), as = [.ref v0, .int v1] ∧ wJ7_copyOf_59c91 Λ μ v0 v1 K ∧ (∀ (r : Option Nat) (Λ1 : hx_L) (m : hx_M), K r Λ1 m → KK (some (va_rf r)) Λ1 m)
theorem sJ7_copyOf_59c91_mk {Λ : hx_L} {μ : hx_M} {KK : hx_KT} {v0 : Nat} {v1 : Int32} {K : Option Nat → hx_L → hx_M → Prop}  (hw : wJ7_copyOf_59c91 Λ μ v0 v1 K) (hk : ∀ (r : Option Nat) (Λ1 : hx_L) (m : hx_M), K r Λ1 m → KK (some (va_rf r)) Λ1 m) : sJ7_copyOf_59c91 Λ μ [.ref v0, .int v1] KK := ⟨_, _, _, rfl, hw, hk⟩
theorem conJ7_copyOf_59c91 : hx_Con yJ7_copyOf_59c91 cJ7_copyOf_59c91 3 (some (.array .int)) 1 1 700 sJ7_copyOf_59c91 := by
  refine hx_con_ofA (by decide +kernel) tokJ7 taokJ7_copyOf_59c91 (Or.inl rfl) (by decide) ?_ ?_
  · intro Λ μ as KK h
    obtain ⟨v0, v1, K, rfl, hw, hK⟩ := h
    exact Nat.le_of_ble_eq_true rfl
  · intro G KK hG hM cA Λ μ as h
    obtain ⟨v0, v1, K, rfl, hw, hK⟩ := h
    exact cl_sub hG (hx_le_c rfl (hx_le_c rfl (hx_le_n hx_le_0))) (kJ7_copyOf_59c91 hG hM cA _ _ hK hw)
/-! HemLine$LawReader.put(I)V -/
def tbX2_put_0 : List (Nat × Instr × Nat) := [(0, .aload_n 0, 1), (1, .getfield 32, 3), (4, .aload_n 0, 1), (5, .getfield 29, 3), (8, .arraylength, 1), (9, .if_icmp .ge 23, 3), (12, .aload_n 0, 1), (13, .getfield 29, 3), (16, .aload_n 0, 1), (17, .getfield 32, 3), (20, .iload_n 1, 1), (21, .iastore, 1), (22, .aload_n 0, 1), (23, .dup, 1), (24, .getfield 32, 3), (27, .iconst 1, 1), (28, .iadd, 1), (29, .putfield 32, 3), (32, .return_, 1)]
theorem tdX2_put_0 : hx_dt cX2_put tbX2_put_0 = true := by decide +kernel
def wX2_put (μ : hx_M) (v1 : Int32) (K : hx_M → Prop) : Prop := ((Int32.ofNat 700) ≤ (μ.1 2 6) → (K μ)) ∧ (¬ ((Int32.ofNat 700) ≤ (μ.1 2 6)) → (vp_in (μ.1 2 6) 700 ∧ K (hx_sI (hx_sI μ 5 ((μ.1 2 6).toNatClampNeg) v1) 2 6 ((μ.1 2 6) + 1))))
set_option maxRecDepth 100000 in
set_option maxHeartbeats 4000000 in
theorem kX2_put {G : hx_GT} {KK : hx_KT} (hG : hx_K cX2_put 2 0 0 (none) TbX2 KK G) (cA : hx_CA RX2 cX2_put 1 0 0 G) {Λ : hx_L} (hF : cF Λ) {μ : hx_M} (v1 : Int32) {K : hx_M → Prop} (hK : ∀ (m : hx_M), K m → KK none Λ m) (hw : wX2_put μ v1 K) : G Λ μ (0, 0) 0 [some (.ref 2), some (.int v1)] [] := by
  unfold wX2_put at hw
  refine cl_aload_n hG (hx_dq tdX2_put_0 0 rfl) rfl (cl_getI hG fmX2_32 (hx_dq tdX2_put_0 1 rfl) (cF_S2 hF) (cl_aload_n hG (hx_dq tdX2_put_0 2 rfl) rfl (cl_getS hG fmX2_29 (hx_dq tdX2_put_0 3 rfl) (cF_S2 hF) (cF_R2_5 hF) (cl_alenI hG (hx_dq tdX2_put_0 4 rfl) (cF_S5 hF) (cl_icmp_ge hG 32 (hx_dq tdX2_put_0 5 rfl) rfl (fun c9 => ?_) (fun c9 => ?_))))))
  · replace hw := hw.1 c9
    exact cl_vret hG (hx_dq tdX2_put_0 18 rfl) rfl (hK _ hw) (Nat.le_refl _) (Nat.le_refl _)
  · replace hw := hw.2 c9
    obtain ⟨i21_1, hw⟩ := hw
    exact cl_aload_n hG (hx_dq tdX2_put_0 6 rfl) rfl (cl_getS hG fmX2_29 (hx_dq tdX2_put_0 7 rfl) (cF_S2 hF) (cF_R2_5 hF) (cl_aload_n hG (hx_dq tdX2_put_0 8 rfl) rfl (cl_getI hG fmX2_32 (hx_dq tdX2_put_0 9 rfl) (cF_S2 hF) (cl_iload_n hG (hx_dq tdX2_put_0 10 rfl) rfl (cl_iast hG (hx_dq tdX2_put_0 11 rfl) (cF_S5 hF) i21_1 (cl_aload_n hG (hx_dq tdX2_put_0 12 rfl) rfl (cl_dup hG (hx_dq tdX2_put_0 13 rfl) rfl (cl_getI hG fmX2_32 (hx_dq tdX2_put_0 14 rfl) (cF_S2 hF) (cl_iconst hG 1 (hx_dq tdX2_put_0 15 rfl) iconst_1 (cl_iadd hG (hx_dq tdX2_put_0 16 rfl) (cl_putI hG fmX2_32 (hx_dq tdX2_put_0 17 rfl) (cF_S2 hF) (cl_vret hG (hx_dq tdX2_put_0 18 rfl) rfl (hK _ hw) (Nat.le_refl _) (Nat.le_refl _)))))))))))))
def sX2_put : hx_ST := fun Λ μ as KK => cF Λ ∧ ∃ (v1 : Int32) (K : hx_M → Prop), as = [.ref 2, .int v1] ∧ wX2_put μ v1 K ∧ (∀ (m : hx_M), K m → KK none Λ m)
theorem sX2_put_mk {Λ : hx_L} {μ : hx_M} {KK : hx_KT} {v1 : Int32} {K : hx_M → Prop} (hF : cF Λ) (hw : wX2_put μ v1 K) (hk : ∀ (m : hx_M), K m → KK none Λ m) : sX2_put Λ μ [.ref 2, .int v1] KK := ⟨hF, _, _, rfl, hw, hk⟩
theorem conX2_put : hx_Con yX2_put cX2_put 2 (none) 1 0 0 sX2_put := by
  refine hx_con_of (by decide +kernel) tokX2 (by decide) ?_ ?_
  · intro Λ μ as KK h
    obtain ⟨hF, v1, K, rfl, hw, hK⟩ := h
    exact Nat.le_of_ble_eq_true rfl
  · intro G KK hG cA Λ μ as h
    obtain ⟨hF, v1, K, rfl, hw, hK⟩ := h
    exact cl_sub hG (hx_le_c rfl (hx_le_c rfl hx_le_0)) (kX2_put hG cA hF _ hK hw)
/-! HemLine$LawReader.readNumber(II)I -/
def tbX2_readNumber_0 : List (Nat × Instr × Nat) := [(0, .aload_n 0, 1), (1, .getfield 19, 3), (4, .aload_n 0, 1), (5, .getfield 26, 3), (8, .iaload, 1), (9, .istore_n 3, 1), (10, .iload_n 3, 1), (11, .iload_n 1, 1), (12, .if_icmp .lt 8, 3), (15, .iload_n 3, 1), (16, .iload_n 2, 1), (17, .if_icmp .le 5, 3), (20, .iconst (-1), 1), (21, .ireturn, 1), (22, .aload_n 0, 1), (23, .dup, 1), (24, .getfield 26, 3), (27, .iconst 1, 1), (28, .iadd, 1), (29, .putfield 26, 3), (32, .iload_n 3, 1), (33, .ireturn, 1)]
theorem tdX2_readNumber_0 : hx_dt cX2_readNumber tbX2_readNumber_0 = true := by decide +kernel
def wX2_readNumber (μ : hx_M) (v1 : Int32) (v2 : Int32) (K : Int32 → hx_M → Prop) : Prop := vp_in (μ.1 2 4) 701 ∧ (((μ.1 3 ((μ.1 2 4).toNatClampNeg))) < v1 → (K (-1) μ)) ∧ (¬ (((μ.1 3 ((μ.1 2 4).toNatClampNeg))) < v1) → ((((μ.1 3 ((μ.1 2 4).toNatClampNeg))) ≤ v2 → (K ((μ.1 3 ((μ.1 2 4).toNatClampNeg))) (hx_sI μ 2 4 ((μ.1 2 4) + 1)))) ∧ (¬ (((μ.1 3 ((μ.1 2 4).toNatClampNeg))) ≤ v2) → (K (-1) μ))))
set_option maxRecDepth 100000 in
set_option maxHeartbeats 4000000 in
theorem kX2_readNumber {G : hx_GT} {KK : hx_KT} (hG : hx_K cX2_readNumber 4 0 0 (some .int) TbX2 KK G) (cA : hx_CA RX2 cX2_readNumber 1 0 0 G) {Λ : hx_L} (hF : cF Λ) {μ : hx_M} (v1 : Int32) (v2 : Int32) {K : Int32 → hx_M → Prop} (hK : ∀ (r : Int32) (m : hx_M), K r m → KK (some (.int r)) Λ m) (hw : wX2_readNumber μ v1 v2 K) : G Λ μ (0, 0) 0 [some (.ref 2), some (.int v1), some (.int v2), none] [] := by
  unfold wX2_readNumber at hw
  obtain ⟨i8_1, hw⟩ := hw
  refine cl_aload_n hG (hx_dq tdX2_readNumber_0 0 rfl) rfl (cl_getS hG fmX2_19 (hx_dq tdX2_readNumber_0 1 rfl) (cF_S2 hF) (cF_R2_2 hF) (cl_aload_n hG (hx_dq tdX2_readNumber_0 2 rfl) rfl (cl_getI hG fmX2_26 (hx_dq tdX2_readNumber_0 3 rfl) (cF_S2 hF) (cl_iald hG (hx_dq tdX2_readNumber_0 4 rfl) (cF_S3 hF) i8_1 (cl_istore_n hG (hx_dq tdX2_readNumber_0 5 rfl) (Nat.le_of_ble_eq_true rfl) rfl (cl_iload_n hG (hx_dq tdX2_readNumber_0 6 rfl) rfl (cl_iload_n hG (hx_dq tdX2_readNumber_0 7 rfl) rfl (cl_icmp_lt hG 20 (hx_dq tdX2_readNumber_0 8 rfl) rfl (fun c12 => ?_) (fun c12 => ?_)))))))))
  · replace hw := hw.1 c12
    exact cl_iconst hG (-1) (hx_dq tdX2_readNumber_0 12 rfl) iconst_m1 (cl_iret hG (hx_dq tdX2_readNumber_0 13 rfl) rfl rfl (hK _ _ hw) (Nat.le_refl _) (Nat.le_refl _))
  · replace hw := hw.2 c12
    refine cl_iload_n hG (hx_dq tdX2_readNumber_0 9 rfl) rfl (cl_iload_n hG (hx_dq tdX2_readNumber_0 10 rfl) rfl (cl_icmp_le hG 22 (hx_dq tdX2_readNumber_0 11 rfl) rfl (fun c17 => ?_) (fun c17 => ?_)))
    · replace hw := hw.1 c17
      exact cl_aload_n hG (hx_dq tdX2_readNumber_0 14 rfl) rfl (cl_dup hG (hx_dq tdX2_readNumber_0 15 rfl) rfl (cl_getI hG fmX2_26 (hx_dq tdX2_readNumber_0 16 rfl) (cF_S2 hF) (cl_iconst hG 1 (hx_dq tdX2_readNumber_0 17 rfl) iconst_1 (cl_iadd hG (hx_dq tdX2_readNumber_0 18 rfl) (cl_putI hG fmX2_26 (hx_dq tdX2_readNumber_0 19 rfl) (cF_S2 hF) (cl_iload_n hG (hx_dq tdX2_readNumber_0 20 rfl) rfl (cl_iret hG (hx_dq tdX2_readNumber_0 21 rfl) rfl rfl (hK _ _ hw) (Nat.le_refl _) (Nat.le_refl _))))))))
    · replace hw := hw.2 c17
      exact cl_iconst hG (-1) (hx_dq tdX2_readNumber_0 12 rfl) iconst_m1 (cl_iret hG (hx_dq tdX2_readNumber_0 13 rfl) rfl rfl (hK _ _ hw) (Nat.le_refl _) (Nat.le_refl _))
def sX2_readNumber : hx_ST := fun Λ μ as KK => cF Λ ∧ ∃ (v1 : Int32) (v2 : Int32) (K : Int32 → hx_M → Prop), as = [.ref 2, .int v1, .int v2] ∧ wX2_readNumber μ v1 v2 K ∧ (∀ (r : Int32) (m : hx_M), K r m → KK (some (.int r)) Λ m)
theorem sX2_readNumber_mk {Λ : hx_L} {μ : hx_M} {KK : hx_KT} {v1 : Int32} {v2 : Int32} {K : Int32 → hx_M → Prop} (hF : cF Λ) (hw : wX2_readNumber μ v1 v2 K) (hk : ∀ (r : Int32) (m : hx_M), K r m → KK (some (.int r)) Λ m) : sX2_readNumber Λ μ [.ref 2, .int v1, .int v2] KK := ⟨hF, _, _, _, rfl, hw, hk⟩
theorem conX2_readNumber : hx_Con yX2_readNumber cX2_readNumber 4 (some .int) 1 0 0 sX2_readNumber := by
  refine hx_con_of (by decide +kernel) tokX2 (by decide) ?_ ?_
  · intro Λ μ as KK h
    obtain ⟨hF, v1, v2, K, rfl, hw, hK⟩ := h
    exact Nat.le_of_ble_eq_true rfl
  · intro G KK hG cA Λ μ as h
    obtain ⟨hF, v1, v2, K, rfl, hw, hK⟩ := h
    exact cl_sub hG (hx_le_c rfl (hx_le_c rfl (hx_le_c rfl (hx_le_n hx_le_0)))) (kX2_readNumber hG cA hF _ _ hK hw)
/-! HemLine$LawReader.readAim()I -/
def tbX2_readAim_0 : List (Nat × Instr × Nat) := [(0, .aload_n 0, 1), (1, .getfield 19, 3), (4, .aload_n 0, 1), (5, .getfield 26, 3), (8, .iaload, 1), (9, .sipush 10014, 3), (12, .isub, 1), (13, .istore_n 1, 1), (14, .iload_n 1, 1), (15, .iconst 0, 1), (16, .iconst 2, 1), (17, .invokestatic 35, 3), (20, .ifCond .ne 5, 3), (23, .iconst (-1), 1), (24, .ireturn, 1), (25, .aload_n 0, 1), (26, .dup, 1), (27, .getfield 26, 3), (30, .iconst 1, 1), (31, .iadd, 1), (32, .putfield 26, 3), (35, .iload_n 1, 1), (36, .iconst 2, 1), (37, .if_icmp .ne 11, 3), (40, .iload_n 1, 1), (41, .iconst 0, 1), (42, .iconst 0, 1), (43, .iconst 0, 1), (44, .invokestatic 100, 3), (47, .ireturn, 1), (48, .aload_n 0, 1), (49, .getfield 19, 3)]
def tbX2_readAim_1 : List (Nat × Instr × Nat) := [(52, .aload_n 0, 1), (53, .getfield 26, 3), (56, .iaload, 1), (57, .sipush 10000, 3), (60, .isub, 1), (61, .bipush 8, 2), (63, .isub, 1), (64, .istore_n 2, 1), (65, .iload_n 2, 1), (66, .iconst 0, 1), (67, .iconst 5, 1), (68, .invokestatic 35, 3), (71, .ifCond .ne 5, 3), (74, .iconst (-1), 1), (75, .ireturn, 1), (76, .aload_n 0, 1), (77, .dup, 1), (78, .getfield 26, 3), (81, .iconst 1, 1), (82, .iadd, 1), (83, .putfield 26, 3), (86, .iconst 0, 1), (87, .istore_n 3, 1), (88, .iload_n 2, 1), (89, .iconst 4, 1), (90, .if_icmp .ne 13, 3), (93, .aload_n 0, 1), (94, .iconst 0, 1), (95, .iconst 3, 1), (96, .invokevirtual 104, 3), (99, .istore_n 3, 1), (100, .goto 16, 3)]
def tbX2_readAim_2 : List (Nat × Instr × Nat) := [(103, .iload_n 2, 1), (104, .iconst 5, 1), (105, .if_icmp .ne 11, 3), (108, .aload_n 0, 1), (109, .iconst 1, 1), (110, .bipush 99, 2), (112, .invokevirtual 104, 3), (115, .istore_n 3, 1), (116, .iload_n 3, 1), (117, .iconst (-1), 1), (118, .if_icmp .ne 5, 3), (121, .iconst (-1), 1), (122, .ireturn, 1), (123, .aload_n 0, 1), (124, .iconst 0, 1), (125, .bipush 60, 2), (127, .invokevirtual 104, 3), (130, .istore 4, 2), (132, .iload 4, 2), (134, .iconst (-1), 1), (135, .if_icmp .ne 7, 3), (138, .iconst (-1), 1), (139, .goto 11, 3), (142, .iload_n 1, 1), (143, .iload_n 2, 1), (144, .iload_n 3, 1), (145, .iload 4, 2), (147, .invokestatic 100, 3), (150, .ireturn, 1)]
theorem tdX2_readAim_0 : hx_dt cX2_readAim tbX2_readAim_0 = true := by decide +kernel
theorem tdX2_readAim_1 : hx_dt cX2_readAim tbX2_readAim_1 = true := by decide +kernel
theorem tdX2_readAim_2 : hx_dt cX2_readAim tbX2_readAim_2 = true := by decide +kernel
theorem caX2_readAim_35 {G : hx_GT} (cA : hx_CA RX2 cX2_readAim 2 0 0 G) : hx_CS cX2_readAim G 0 0 35 3 sX11_within 0 0 := cA.2.2.1 conX11_within ⟨by decide +kernel, by decide +kernel, by decide +kernel⟩ mw_529 mw_478 mw_84 mw_479 (by decide) (by decide)
theorem caX2_readAim_100 {G : hx_GT} (cA : hx_CA RX2 cX2_readAim 2 0 0 G) : hx_CS cX2_readAim G 0 0 100 4 sX1_head 0 0 := cA.2.1 conX1_head ⟨by decide +kernel, by decide +kernel, by decide +kernel⟩ mw_641 mw_642 mw_102 mw_643 (by decide) (by decide)
theorem caX2_readAim_104 {G : hx_GT} (cA : hx_CA RX2 cX2_readAim 2 0 0 G) : hx_CV cX2_readAim G 0 0 104 2 2 sX2_readNumber 0 0 := cA.1 conX2_readNumber rfl rfl ⟨by decide +kernel, by decide +kernel, by decide +kernel⟩ mw_644 mw_646 mw_9 mw_85 mw_647 (by decide) (by decide)
def wX2_readAim_J116  (K : Int32 → hx_M → Prop)  (v1 : Int32) (v2 : Int32) (v3 : Int32)  (μ : hx_M) : Prop := (v3 ≠ (-1) → (wX2_readNumber μ 0 60 (fun r127_9 m127_8 => (r127_9 ≠ (-1) → (wX1_head v1 v2 v3 r127_9 (fun r147_11 => K r147_11 m127_8))) ∧ (r127_9 = (-1) → (K (-1) m127_8))))) ∧ (v3 = (-1) → (K (-1) μ))
set_option maxRecDepth 100000 in
set_option maxHeartbeats 4000000 in
theorem kX2_readAim_J116 {G : hx_GT} {KK : hx_KT} (hG : hx_K cX2_readAim 5 0 0 (some .int) TbX2 KK G) (cA : hx_CA RX2 cX2_readAim 2 0 0 G) {Λ : hx_L} (hF : cF Λ) {μ : hx_M} (v1 : Int32) (v2 : Int32) (v3 : Int32)  {K : Int32 → hx_M → Prop} (hK : ∀ (r : Int32) (m : hx_M), K r m → KK (some (.int r)) Λ m)  (hw : wX2_readAim_J116 K v1 v2 v3 μ) : G Λ μ (0, 0) 116 [some (.ref 2), some (.int v1), some (.int v2), some (.int v3), none] [] := by
  unfold wX2_readAim_J116 at hw
  refine cl_iload_n hG (hx_dq tdX2_readAim_2 8 rfl) rfl (cl_iconst hG (-1) (hx_dq tdX2_readAim_2 9 rfl) iconst_m1 (cl_icmp_ne hG 123 (hx_dq tdX2_readAim_2 10 rfl) rfl (fun c118 => ?_) (fun c118 => ?_)))
  · replace hw := hw.1 c118
    refine cl_aload_n hG (hx_dq tdX2_readAim_2 13 rfl) rfl (cl_iconst hG 0 (hx_dq tdX2_readAim_2 14 rfl) iconst_0 (cl_bipush hG 60 (hx_dq tdX2_readAim_2 15 rfl) bipush_60 (cl_callV2 (caX2_readAim_104 cA) (hx_dq tdX2_readAim_2 16 rfl) (cF_S2 hF) (Nat.le_of_ble_eq_true rfl) (Nat.le_refl _) (Nat.le_refl _) (sX2_readNumber_mk hF hw (fun r127_9 m127_8 hw => ?_)))))
    refine cl_istore hG (hx_dq tdX2_readAim_2 17 rfl) (Nat.le_of_ble_eq_true rfl) rfl (cl_iload hG (hx_dq tdX2_readAim_2 18 rfl) rfl (cl_iconst hG (-1) (hx_dq tdX2_readAim_2 19 rfl) iconst_m1 (cl_icmp_ne hG 142 (hx_dq tdX2_readAim_2 20 rfl) rfl (fun c135 => ?_) (fun c135 => ?_))))
    · replace hw := hw.1 c135
      refine cl_iload_n hG (hx_dq tdX2_readAim_2 23 rfl) rfl (cl_iload_n hG (hx_dq tdX2_readAim_2 24 rfl) rfl (cl_iload_n hG (hx_dq tdX2_readAim_2 25 rfl) rfl (cl_iload hG (hx_dq tdX2_readAim_2 26 rfl) rfl (cl_callS4 (caX2_readAim_100 cA) (hx_dq tdX2_readAim_2 27 rfl) (Nat.le_of_ble_eq_true rfl) (Nat.le_refl _) (Nat.le_refl _) (sX1_head_mk hw (fun r147_11 hw => ?_))))))
      exact cl_iret hG (hx_dq tdX2_readAim_2 28 rfl) rfl rfl (hK _ _ hw) (Nat.le_refl _) (Nat.le_refl _)
    · replace hw := hw.2 c135
      exact cl_iconst hG (-1) (hx_dq tdX2_readAim_2 21 rfl) iconst_m1 (cl_goto hG 150 (hx_dq tdX2_readAim_2 22 rfl) rfl (cl_iret hG (hx_dq tdX2_readAim_2 28 rfl) rfl rfl (hK _ _ hw) (Nat.le_refl _) (Nat.le_refl _)))
  · replace hw := hw.2 c118
    exact cl_iconst hG (-1) (hx_dq tdX2_readAim_2 11 rfl) iconst_m1 (cl_iret hG (hx_dq tdX2_readAim_2 12 rfl) rfl rfl (hK _ _ hw) (Nat.le_refl _) (Nat.le_refl _))
def wX2_readAim (μ : hx_M)  (K : Int32 → hx_M → Prop) : Prop := vp_in (μ.1 2 4) 701 ∧ wX11_within (((μ.1 3 ((μ.1 2 4).toNatClampNeg))) - 10014) 0 2 (fun r17_3 => (r17_3 ≠ 0 → (((((μ.1 3 ((μ.1 2 4).toNatClampNeg))) - 10014) ≠ 2 → (vp_in ((μ.1 2 4) + 1) 701 ∧ ∀ x_5 : Int32, x_5 = (((μ.1 3 (((μ.1 2 4) + 1).toNatClampNeg))) - 10000) → wX11_within (x_5 - 8) 0 5 (fun r68_7 => (r68_7 ≠ 0 → (((x_5 - 8) ≠ 4 → (((x_5 - 8) ≠ 5 → (wX2_readAim_J116 K (((μ.1 3 ((μ.1 2 4).toNatClampNeg))) - 10014) (x_5 - 8) 0 (hx_sI (hx_sI μ 2 4 ((μ.1 2 4) + 1)) 2 4 (((μ.1 2 4) + 1) + 1)))) ∧ ((x_5 - 8) = 5 → (wX2_readNumber (hx_sI (hx_sI μ 2 4 ((μ.1 2 4) + 1)) 2 4 (((μ.1 2 4) + 1) + 1)) 1 99 (fun r112_13 m112_12 => wX2_readAim_J116 K (((μ.1 3 ((μ.1 2 4).toNatClampNeg))) - 10014) (x_5 - 8) r112_13 m112_12))))) ∧ ((x_5 - 8) = 4 → (wX2_readNumber (hx_sI (hx_sI μ 2 4 ((μ.1 2 4) + 1)) 2 4 (((μ.1 2 4) + 1) + 1)) 0 3 (fun r96_15 m96_14 => wX2_readAim_J116 K (((μ.1 3 ((μ.1 2 4).toNatClampNeg))) - 10014) (x_5 - 8) r96_15 m96_14))))) ∧ (r68_7 = 0 → (K (-1) (hx_sI μ 2 4 ((μ.1 2 4) + 1))))))) ∧ ((((μ.1 3 ((μ.1 2 4).toNatClampNeg))) - 10014) = 2 → (wX1_head (((μ.1 3 ((μ.1 2 4).toNatClampNeg))) - 10014) 0 0 0 (fun r44_17 => K r44_17 (hx_sI μ 2 4 ((μ.1 2 4) + 1))))))) ∧ (r17_3 = 0 → (K (-1) μ)))
set_option maxRecDepth 100000 in
set_option maxHeartbeats 4000000 in
theorem kX2_readAim {G : hx_GT} {KK : hx_KT} (hG : hx_K cX2_readAim 5 0 0 (some .int) TbX2 KK G) (cA : hx_CA RX2 cX2_readAim 2 0 0 G) {Λ : hx_L} (hF : cF Λ) {μ : hx_M}  {K : Int32 → hx_M → Prop} (hK : ∀ (r : Int32) (m : hx_M), K r m → KK (some (.int r)) Λ m) (hw : wX2_readAim μ K) : G Λ μ (0, 0) 0 [some (.ref 2), none, none, none, none] [] := by
  unfold wX2_readAim at hw
  obtain ⟨i8_1, hw⟩ := hw
  refine cl_aload_n hG (hx_dq tdX2_readAim_0 0 rfl) rfl (cl_getS hG fmX2_19 (hx_dq tdX2_readAim_0 1 rfl) (cF_S2 hF) (cF_R2_2 hF) (cl_aload_n hG (hx_dq tdX2_readAim_0 2 rfl) rfl (cl_getI hG fmX2_26 (hx_dq tdX2_readAim_0 3 rfl) (cF_S2 hF) (cl_iald hG (hx_dq tdX2_readAim_0 4 rfl) (cF_S3 hF) i8_1 (cl_sipush hG 10014 (hx_dq tdX2_readAim_0 5 rfl) sipush_10014 (cl_isub hG (hx_dq tdX2_readAim_0 6 rfl) (cl_istore_n hG (hx_dq tdX2_readAim_0 7 rfl) (Nat.le_of_ble_eq_true rfl) rfl (cl_iload_n hG (hx_dq tdX2_readAim_0 8 rfl) rfl (cl_iconst hG 0 (hx_dq tdX2_readAim_0 9 rfl) iconst_0 (cl_iconst hG 2 (hx_dq tdX2_readAim_0 10 rfl) iconst_2 (cl_callS3 (caX2_readAim_35 cA) (hx_dq tdX2_readAim_0 11 rfl) (Nat.le_of_ble_eq_true rfl) (Nat.le_refl _) (Nat.le_refl _) (sX11_within_mk hw (fun r17_3 hw => ?_)))))))))))))
  refine cl_if_ne hG 25 (hx_dq tdX2_readAim_0 12 rfl) rfl (fun c20 => ?_) (fun c20 => ?_)
  · replace hw := hw.1 c20
    refine cl_aload_n hG (hx_dq tdX2_readAim_0 15 rfl) rfl (cl_dup hG (hx_dq tdX2_readAim_0 16 rfl) rfl (cl_getI hG fmX2_26 (hx_dq tdX2_readAim_0 17 rfl) (cF_S2 hF) (cl_iconst hG 1 (hx_dq tdX2_readAim_0 18 rfl) iconst_1 (cl_iadd hG (hx_dq tdX2_readAim_0 19 rfl) (cl_putI hG fmX2_26 (hx_dq tdX2_readAim_0 20 rfl) (cF_S2 hF) (cl_iload_n hG (hx_dq tdX2_readAim_0 21 rfl) rfl (cl_iconst hG 2 (hx_dq tdX2_readAim_0 22 rfl) iconst_2 (cl_icmp_ne hG 48 (hx_dq tdX2_readAim_0 23 rfl) rfl (fun c37 => ?_) (fun c37 => ?_)))))))))
    · replace hw := hw.1 c37
      obtain ⟨i56_4, hw⟩ := hw
      refine cl_aload_n hG (hx_dq tdX2_readAim_0 30 rfl) rfl (cl_getS hG fmX2_19 (hx_dq tdX2_readAim_0 31 rfl) (cF_S2 hF) (cF_R2_2 hF) (cl_aload_n hG (hx_dq tdX2_readAim_1 0 rfl) rfl (cl_getI hG fmX2_26 (hx_dq tdX2_readAim_1 1 rfl) (cF_S2 hF) (cl_iald hG (hx_dq tdX2_readAim_1 2 rfl) (cF_S3 hF) i56_4 (cl_sipush hG 10000 (hx_dq tdX2_readAim_1 3 rfl) sipush_10000 (cl_isub hG (hx_dq tdX2_readAim_1 4 rfl) (cl_nmI (fun x_5 e_5 => ?_))))))))
      replace hw := hw x_5 e_5
      refine cl_bipush hG 8 (hx_dq tdX2_readAim_1 5 rfl) bipush_8 (cl_isub hG (hx_dq tdX2_readAim_1 6 rfl) (cl_istore_n hG (hx_dq tdX2_readAim_1 7 rfl) (Nat.le_of_ble_eq_true rfl) rfl (cl_iload_n hG (hx_dq tdX2_readAim_1 8 rfl) rfl (cl_iconst hG 0 (hx_dq tdX2_readAim_1 9 rfl) iconst_0 (cl_iconst hG 5 (hx_dq tdX2_readAim_1 10 rfl) iconst_5 (cl_callS3 (caX2_readAim_35 cA) (hx_dq tdX2_readAim_1 11 rfl) (Nat.le_of_ble_eq_true rfl) (Nat.le_refl _) (Nat.le_refl _) (sX11_within_mk hw (fun r68_7 hw => ?_))))))))
      refine cl_if_ne hG 76 (hx_dq tdX2_readAim_1 12 rfl) rfl (fun c71 => ?_) (fun c71 => ?_)
      · replace hw := hw.1 c71
        refine cl_aload_n hG (hx_dq tdX2_readAim_1 15 rfl) rfl (cl_dup hG (hx_dq tdX2_readAim_1 16 rfl) rfl (cl_getI hG fmX2_26 (hx_dq tdX2_readAim_1 17 rfl) (cF_S2 hF) (cl_iconst hG 1 (hx_dq tdX2_readAim_1 18 rfl) iconst_1 (cl_iadd hG (hx_dq tdX2_readAim_1 19 rfl) (cl_putI hG fmX2_26 (hx_dq tdX2_readAim_1 20 rfl) (cF_S2 hF) (cl_iconst hG 0 (hx_dq tdX2_readAim_1 21 rfl) iconst_0 (cl_istore_n hG (hx_dq tdX2_readAim_1 22 rfl) (Nat.le_of_ble_eq_true rfl) rfl (cl_iload_n hG (hx_dq tdX2_readAim_1 23 rfl) rfl (cl_iconst hG 4 (hx_dq tdX2_readAim_1 24 rfl) iconst_4 (cl_icmp_ne hG 103 (hx_dq tdX2_readAim_1 25 rfl) rfl (fun c90 => ?_) (fun c90 => ?_)))))))))))
        · replace hw := hw.1 c90
          refine cl_iload_n hG (hx_dq tdX2_readAim_2 0 rfl) rfl (cl_iconst hG 5 (hx_dq tdX2_readAim_2 1 rfl) iconst_5 (cl_icmp_ne hG 116 (hx_dq tdX2_readAim_2 2 rfl) rfl (fun c105 => ?_) (fun c105 => ?_)))
          · replace hw := hw.1 c105
            exact cl_sub hG (hx_le_c rfl (hx_le_c rfl (hx_le_c rfl (hx_le_c rfl (hx_le_n hx_le_0))))) (kX2_readAim_J116 hG cA hF (((μ.1 3 ((μ.1 2 4).toNatClampNeg))) - 10014) (x_5 - 8) 0 hK hw)
          · replace hw := hw.2 c105
            refine cl_aload_n hG (hx_dq tdX2_readAim_2 3 rfl) rfl (cl_iconst hG 1 (hx_dq tdX2_readAim_2 4 rfl) iconst_1 (cl_bipush hG 99 (hx_dq tdX2_readAim_2 5 rfl) bipush_99 (cl_callV2 (caX2_readAim_104 cA) (hx_dq tdX2_readAim_2 6 rfl) (cF_S2 hF) (Nat.le_of_ble_eq_true rfl) (Nat.le_refl _) (Nat.le_refl _) (sX2_readNumber_mk hF hw (fun r112_13 m112_12 hw => ?_)))))
            refine cl_istore_n hG (hx_dq tdX2_readAim_2 7 rfl) (Nat.le_of_ble_eq_true rfl) rfl ?_
            exact cl_sub hG (hx_le_c rfl (hx_le_c rfl (hx_le_c rfl (hx_le_c rfl (hx_le_n hx_le_0))))) (kX2_readAim_J116 hG cA hF (((μ.1 3 ((μ.1 2 4).toNatClampNeg))) - 10014) (x_5 - 8) r112_13 hK hw)
        · replace hw := hw.2 c90
          refine cl_aload_n hG (hx_dq tdX2_readAim_1 26 rfl) rfl (cl_iconst hG 0 (hx_dq tdX2_readAim_1 27 rfl) iconst_0 (cl_iconst hG 3 (hx_dq tdX2_readAim_1 28 rfl) iconst_3 (cl_callV2 (caX2_readAim_104 cA) (hx_dq tdX2_readAim_1 29 rfl) (cF_S2 hF) (Nat.le_of_ble_eq_true rfl) (Nat.le_refl _) (Nat.le_refl _) (sX2_readNumber_mk hF hw (fun r96_15 m96_14 hw => ?_)))))
          refine cl_istore_n hG (hx_dq tdX2_readAim_1 30 rfl) (Nat.le_of_ble_eq_true rfl) rfl (cl_goto hG 116 (hx_dq tdX2_readAim_1 31 rfl) rfl ?_)
          exact cl_sub hG (hx_le_c rfl (hx_le_c rfl (hx_le_c rfl (hx_le_c rfl (hx_le_n hx_le_0))))) (kX2_readAim_J116 hG cA hF (((μ.1 3 ((μ.1 2 4).toNatClampNeg))) - 10014) (x_5 - 8) r96_15 hK hw)
      · replace hw := hw.2 c71
        exact cl_iconst hG (-1) (hx_dq tdX2_readAim_1 13 rfl) iconst_m1 (cl_iret hG (hx_dq tdX2_readAim_1 14 rfl) rfl rfl (hK _ _ hw) (Nat.le_refl _) (Nat.le_refl _))
    · replace hw := hw.2 c37
      refine cl_iload_n hG (hx_dq tdX2_readAim_0 24 rfl) rfl (cl_iconst hG 0 (hx_dq tdX2_readAim_0 25 rfl) iconst_0 (cl_iconst hG 0 (hx_dq tdX2_readAim_0 26 rfl) iconst_0 (cl_iconst hG 0 (hx_dq tdX2_readAim_0 27 rfl) iconst_0 (cl_callS4 (caX2_readAim_100 cA) (hx_dq tdX2_readAim_0 28 rfl) (Nat.le_of_ble_eq_true rfl) (Nat.le_refl _) (Nat.le_refl _) (sX1_head_mk hw (fun r44_17 hw => ?_))))))
      exact cl_iret hG (hx_dq tdX2_readAim_0 29 rfl) rfl rfl (hK _ _ hw) (Nat.le_refl _) (Nat.le_refl _)
  · replace hw := hw.2 c20
    exact cl_iconst hG (-1) (hx_dq tdX2_readAim_0 13 rfl) iconst_m1 (cl_iret hG (hx_dq tdX2_readAim_0 14 rfl) rfl rfl (hK _ _ hw) (Nat.le_refl _) (Nat.le_refl _))
def sX2_readAim : hx_ST := fun Λ μ as KK => cF Λ ∧ ∃ (K : Int32 → hx_M → Prop), as = [.ref 2] ∧ wX2_readAim μ K ∧ (∀ (r : Int32) (m : hx_M), K r m → KK (some (.int r)) Λ m)
theorem sX2_readAim_mk {Λ : hx_L} {μ : hx_M} {KK : hx_KT}  {K : Int32 → hx_M → Prop} (hF : cF Λ) (hw : wX2_readAim μ K) (hk : ∀ (r : Int32) (m : hx_M), K r m → KK (some (.int r)) Λ m) : sX2_readAim Λ μ [.ref 2] KK := ⟨hF, _, rfl, hw, hk⟩
theorem conX2_readAim : hx_Con yX2_readAim cX2_readAim 5 (some .int) 2 0 0 sX2_readAim := by
  refine hx_con_of (by decide +kernel) tokX2 (by decide) ?_ ?_
  · intro Λ μ as KK h
    obtain ⟨hF, K, rfl, hw, hK⟩ := h
    exact Nat.le_of_ble_eq_true rfl
  · intro G KK hG cA Λ μ as h
    obtain ⟨hF, K, rfl, hw, hK⟩ := h
    exact cl_sub hG (hx_le_c rfl (hx_le_n (hx_le_n (hx_le_n (hx_le_n hx_le_0))))) (kX2_readAim hG cA hF hK hw)
/-! HemLine$LawReader.takes(I)Z -/
def tbX2_takes_0 : List (Nat × Instr × Nat) := [(0, .aload_n 0, 1), (1, .getfield 19, 3), (4, .aload_n 0, 1), (5, .getfield 26, 3), (8, .iaload, 1), (9, .iload_n 1, 1), (10, .if_icmp .eq 5, 3), (13, .iconst 0, 1), (14, .ireturn, 1), (15, .aload_n 0, 1), (16, .dup, 1), (17, .getfield 26, 3), (20, .iconst 1, 1), (21, .iadd, 1), (22, .putfield 26, 3), (25, .iconst 1, 1), (26, .ireturn, 1)]
theorem tdX2_takes_0 : hx_dt cX2_takes tbX2_takes_0 = true := by decide +kernel
def wX2_takes (μ : hx_M) (v1 : Int32) (K : Int32 → hx_M → Prop) : Prop := vp_in (μ.1 2 4) 701 ∧ (((μ.1 3 ((μ.1 2 4).toNatClampNeg))) = v1 → (K 1 (hx_sI μ 2 4 ((μ.1 2 4) + 1)))) ∧ (¬ (((μ.1 3 ((μ.1 2 4).toNatClampNeg))) = v1) → (K 0 μ))
set_option maxRecDepth 100000 in
set_option maxHeartbeats 4000000 in
theorem kX2_takes {G : hx_GT} {KK : hx_KT} (hG : hx_K cX2_takes 2 0 0 (some .boolean) TbX2 KK G) (cA : hx_CA RX2 cX2_takes 1 0 0 G) {Λ : hx_L} (hF : cF Λ) {μ : hx_M} (v1 : Int32) {K : Int32 → hx_M → Prop} (hK : ∀ (r : Int32) (m : hx_M), K r m → KK (some (.int r)) Λ m) (hw : wX2_takes μ v1 K) : G Λ μ (0, 0) 0 [some (.ref 2), some (.int v1)] [] := by
  unfold wX2_takes at hw
  obtain ⟨i8_1, hw⟩ := hw
  refine cl_aload_n hG (hx_dq tdX2_takes_0 0 rfl) rfl (cl_getS hG fmX2_19 (hx_dq tdX2_takes_0 1 rfl) (cF_S2 hF) (cF_R2_2 hF) (cl_aload_n hG (hx_dq tdX2_takes_0 2 rfl) rfl (cl_getI hG fmX2_26 (hx_dq tdX2_takes_0 3 rfl) (cF_S2 hF) (cl_iald hG (hx_dq tdX2_takes_0 4 rfl) (cF_S3 hF) i8_1 (cl_iload_n hG (hx_dq tdX2_takes_0 5 rfl) rfl (cl_icmp_eq hG 15 (hx_dq tdX2_takes_0 6 rfl) rfl (fun c10 => ?_) (fun c10 => ?_)))))))
  · replace hw := hw.1 c10
    exact cl_aload_n hG (hx_dq tdX2_takes_0 9 rfl) rfl (cl_dup hG (hx_dq tdX2_takes_0 10 rfl) rfl (cl_getI hG fmX2_26 (hx_dq tdX2_takes_0 11 rfl) (cF_S2 hF) (cl_iconst hG 1 (hx_dq tdX2_takes_0 12 rfl) iconst_1 (cl_iadd hG (hx_dq tdX2_takes_0 13 rfl) (cl_putI hG fmX2_26 (hx_dq tdX2_takes_0 14 rfl) (cF_S2 hF) (cl_iconst hG 1 (hx_dq tdX2_takes_0 15 rfl) iconst_1 (cl_iret hG (hx_dq tdX2_takes_0 16 rfl) rfl rfl (hK _ _ hw) (Nat.le_refl _) (Nat.le_refl _))))))))
  · replace hw := hw.2 c10
    exact cl_iconst hG 0 (hx_dq tdX2_takes_0 7 rfl) iconst_0 (cl_iret hG (hx_dq tdX2_takes_0 8 rfl) rfl rfl (hK _ _ hw) (Nat.le_refl _) (Nat.le_refl _))
def sX2_takes : hx_ST := fun Λ μ as KK => cF Λ ∧ ∃ (v1 : Int32) (K : Int32 → hx_M → Prop), as = [.ref 2, .int v1] ∧ wX2_takes μ v1 K ∧ (∀ (r : Int32) (m : hx_M), K r m → KK (some (.int r)) Λ m)
theorem sX2_takes_mk {Λ : hx_L} {μ : hx_M} {KK : hx_KT} {v1 : Int32} {K : Int32 → hx_M → Prop} (hF : cF Λ) (hw : wX2_takes μ v1 K) (hk : ∀ (r : Int32) (m : hx_M), K r m → KK (some (.int r)) Λ m) : sX2_takes Λ μ [.ref 2, .int v1] KK := ⟨hF, _, _, rfl, hw, hk⟩
theorem conX2_takes : hx_Con yX2_takes cX2_takes 2 (some .boolean) 1 0 0 sX2_takes := by
  refine hx_con_of (by decide +kernel) tokX2 (by decide) ?_ ?_
  · intro Λ μ as KK h
    obtain ⟨hF, v1, K, rfl, hw, hK⟩ := h
    exact Nat.le_of_ble_eq_true rfl
  · intro G KK hG cA Λ μ as h
    obtain ⟨hF, v1, K, rfl, hw, hK⟩ := h
    exact cl_sub hG (hx_le_c rfl (hx_le_c rfl hx_le_0)) (kX2_takes hG cA hF _ hK hw)
/-! HemLine$LawReader.readComparison()Z -/
def tbX2_readComparison_0 : List (Nat × Instr × Nat) := [(0, .aload_n 0, 1), (1, .getfield 19, 3), (4, .aload_n 0, 1), (5, .getfield 26, 3), (8, .iaload, 1), (9, .sipush 10000, 3), (12, .isub, 1), (13, .istore_n 1, 1), (14, .iload_n 1, 1), (15, .iconst 0, 1), (16, .bipush 11, 2), (18, .invokestatic 35, 3), (21, .ifCond .ne 5, 3), (24, .iconst 0, 1), (25, .ireturn, 1), (26, .aload_n 0, 1), (27, .dup, 1), (28, .getfield 26, 3), (31, .iconst 1, 1), (32, .iadd, 1), (33, .putfield 26, 3), (36, .aload_n 0, 1), (37, .getfield 19, 3), (40, .aload_n 0, 1), (41, .getfield 26, 3), (44, .iaload, 1), (45, .sipush 20000, 3), (48, .isub, 1), (49, .istore_n 2, 1), (50, .iload_n 2, 1), (51, .bipush 60, 2), (53, .if_icmp .eq 17, 3)]
def tbX2_readComparison_1 : List (Nat × Instr × Nat) := [(56, .iload_n 2, 1), (57, .bipush 62, 2), (59, .if_icmp .eq 11, 3), (62, .iload_n 2, 1), (63, .bipush 61, 2), (65, .if_icmp .eq 5, 3), (68, .iconst 0, 1), (69, .ireturn, 1), (70, .aload_n 0, 1), (71, .dup, 1), (72, .getfield 26, 3), (75, .iconst 1, 1), (76, .iadd, 1), (77, .putfield 26, 3), (80, .aload_n 0, 1), (81, .iconst 0, 1), (82, .sipush 9999, 3), (85, .invokevirtual 104, 3), (88, .istore_n 3, 1), (89, .iload_n 3, 1), (90, .iconst (-1), 1), (91, .if_icmp .ne 5, 3), (94, .iconst 0, 1), (95, .ireturn, 1), (96, .aload_n 0, 1), (97, .iload_n 1, 1), (98, .iload_n 2, 1), (99, .iload_n 3, 1), (100, .invokestatic 116, 3), (103, .invokevirtual 86, 3), (106, .iconst 1, 1), (107, .ireturn, 1)]
theorem tdX2_readComparison_0 : hx_dt cX2_readComparison tbX2_readComparison_0 = true := by decide +kernel
theorem tdX2_readComparison_1 : hx_dt cX2_readComparison tbX2_readComparison_1 = true := by decide +kernel
theorem caX2_readComparison_35 {G : hx_GT} (cA : hx_CA RX2 cX2_readComparison 2 0 0 G) : hx_CS cX2_readComparison G 0 0 35 3 sX11_within 0 0 := cA.2.2.1 conX11_within ⟨by decide +kernel, by decide +kernel, by decide +kernel⟩ mw_529 mw_478 mw_84 mw_479 (by decide) (by decide)
theorem caX2_readComparison_86 {G : hx_GT} (cA : hx_CA RX2 cX2_readComparison 2 0 0 G) : hx_CV cX2_readComparison G 0 0 86 2 1 sX2_put 0 0 := cA.1 conX2_put rfl rfl ⟨by decide +kernel, by decide +kernel, by decide +kernel⟩ mw_633 mw_635 mw_7 mw_85 mw_636 (by decide) (by decide)
theorem caX2_readComparison_104 {G : hx_GT} (cA : hx_CA RX2 cX2_readComparison 2 0 0 G) : hx_CV cX2_readComparison G 0 0 104 2 2 sX2_readNumber 0 0 := cA.1 conX2_readNumber rfl rfl ⟨by decide +kernel, by decide +kernel, by decide +kernel⟩ mw_644 mw_646 mw_9 mw_85 mw_647 (by decide) (by decide)
theorem caX2_readComparison_116 {G : hx_GT} (cA : hx_CA RX2 cX2_readComparison 2 0 0 G) : hx_CS cX2_readComparison G 0 0 116 3 sX1_comparison 0 0 := cA.2.1 conX1_comparison ⟨by decide +kernel, by decide +kernel, by decide +kernel⟩ mw_668 mw_669 mw_102 mw_670 (by decide) (by decide)
def wX2_readComparison_J70  (K : Int32 → hx_M → Prop)  (v1 : Int32) (v2 : Int32)  (μ : hx_M) : Prop := wX2_readNumber (hx_sI μ 2 4 ((μ.1 2 4) + 1)) 0 9999 (fun r85_7 m85_6 => (r85_7 ≠ (-1) → (wX1_comparison v1 v2 r85_7 (fun r100_9 => wX2_put m85_6 r100_9 (fun m103_10 => K 1 m103_10)))) ∧ (r85_7 = (-1) → (K 0 m85_6)))
set_option maxRecDepth 100000 in
set_option maxHeartbeats 4000000 in
theorem kX2_readComparison_J70 {G : hx_GT} {KK : hx_KT} (hG : hx_K cX2_readComparison 4 0 0 (some .boolean) TbX2 KK G) (cA : hx_CA RX2 cX2_readComparison 2 0 0 G) {Λ : hx_L} (hF : cF Λ) {μ : hx_M} (v1 : Int32) (v2 : Int32)  {K : Int32 → hx_M → Prop} (hK : ∀ (r : Int32) (m : hx_M), K r m → KK (some (.int r)) Λ m)  (hw : wX2_readComparison_J70 K v1 v2 μ) : G Λ μ (0, 0) 70 [some (.ref 2), some (.int v1), some (.int v2), none] [] := by
  unfold wX2_readComparison_J70 at hw
  refine cl_aload_n hG (hx_dq tdX2_readComparison_1 8 rfl) rfl (cl_dup hG (hx_dq tdX2_readComparison_1 9 rfl) rfl (cl_getI hG fmX2_26 (hx_dq tdX2_readComparison_1 10 rfl) (cF_S2 hF) (cl_iconst hG 1 (hx_dq tdX2_readComparison_1 11 rfl) iconst_1 (cl_iadd hG (hx_dq tdX2_readComparison_1 12 rfl) (cl_putI hG fmX2_26 (hx_dq tdX2_readComparison_1 13 rfl) (cF_S2 hF) (cl_aload_n hG (hx_dq tdX2_readComparison_1 14 rfl) rfl (cl_iconst hG 0 (hx_dq tdX2_readComparison_1 15 rfl) iconst_0 (cl_sipush hG 9999 (hx_dq tdX2_readComparison_1 16 rfl) sipush_9999 (cl_callV2 (caX2_readComparison_104 cA) (hx_dq tdX2_readComparison_1 17 rfl) (cF_S2 hF) (Nat.le_of_ble_eq_true rfl) (Nat.le_refl _) (Nat.le_refl _) (sX2_readNumber_mk hF hw (fun r85_7 m85_6 hw => ?_)))))))))))
  refine cl_istore_n hG (hx_dq tdX2_readComparison_1 18 rfl) (Nat.le_of_ble_eq_true rfl) rfl (cl_iload_n hG (hx_dq tdX2_readComparison_1 19 rfl) rfl (cl_iconst hG (-1) (hx_dq tdX2_readComparison_1 20 rfl) iconst_m1 (cl_icmp_ne hG 96 (hx_dq tdX2_readComparison_1 21 rfl) rfl (fun c91 => ?_) (fun c91 => ?_))))
  · replace hw := hw.1 c91
    refine cl_aload_n hG (hx_dq tdX2_readComparison_1 24 rfl) rfl (cl_iload_n hG (hx_dq tdX2_readComparison_1 25 rfl) rfl (cl_iload_n hG (hx_dq tdX2_readComparison_1 26 rfl) rfl (cl_iload_n hG (hx_dq tdX2_readComparison_1 27 rfl) rfl (cl_callS3 (caX2_readComparison_116 cA) (hx_dq tdX2_readComparison_1 28 rfl) (Nat.le_of_ble_eq_true rfl) (Nat.le_refl _) (Nat.le_refl _) (sX1_comparison_mk hw (fun r100_9 hw => ?_))))))
    refine cl_callV1 (caX2_readComparison_86 cA) (hx_dq tdX2_readComparison_1 29 rfl) (cF_S2 hF) (Nat.le_of_ble_eq_true rfl) (Nat.le_refl _) (Nat.le_refl _) (sX2_put_mk hF hw (fun m103_10 hw => ?_))
    exact cl_iconst hG 1 (hx_dq tdX2_readComparison_1 30 rfl) iconst_1 (cl_iret hG (hx_dq tdX2_readComparison_1 31 rfl) rfl rfl (hK _ _ hw) (Nat.le_refl _) (Nat.le_refl _))
  · replace hw := hw.2 c91
    exact cl_iconst hG 0 (hx_dq tdX2_readComparison_1 22 rfl) iconst_0 (cl_iret hG (hx_dq tdX2_readComparison_1 23 rfl) rfl rfl (hK _ _ hw) (Nat.le_refl _) (Nat.le_refl _))
def wX2_readComparison (μ : hx_M)  (K : Int32 → hx_M → Prop) : Prop := vp_in (μ.1 2 4) 701 ∧ wX11_within (((μ.1 3 ((μ.1 2 4).toNatClampNeg))) - 10000) 0 11 (fun r18_3 => (r18_3 ≠ 0 → (vp_in ((μ.1 2 4) + 1) 701 ∧ ∀ x_5 : Int32, x_5 = (((μ.1 3 (((μ.1 2 4) + 1).toNatClampNeg))) - 20000) → (x_5 = 60 → (wX2_readComparison_J70 K (((μ.1 3 ((μ.1 2 4).toNatClampNeg))) - 10000) x_5 (hx_sI μ 2 4 ((μ.1 2 4) + 1)))) ∧ (¬ (x_5 = 60) → ((x_5 = 62 → (wX2_readComparison_J70 K (((μ.1 3 ((μ.1 2 4).toNatClampNeg))) - 10000) x_5 (hx_sI μ 2 4 ((μ.1 2 4) + 1)))) ∧ (¬ (x_5 = 62) → ((x_5 = 61 → (wX2_readComparison_J70 K (((μ.1 3 ((μ.1 2 4).toNatClampNeg))) - 10000) x_5 (hx_sI μ 2 4 ((μ.1 2 4) + 1)))) ∧ (¬ (x_5 = 61) → (K 0 (hx_sI μ 2 4 ((μ.1 2 4) + 1)))))))))) ∧ (r18_3 = 0 → (K 0 μ)))
set_option maxRecDepth 100000 in
set_option maxHeartbeats 4000000 in
theorem kX2_readComparison {G : hx_GT} {KK : hx_KT} (hG : hx_K cX2_readComparison 4 0 0 (some .boolean) TbX2 KK G) (cA : hx_CA RX2 cX2_readComparison 2 0 0 G) {Λ : hx_L} (hF : cF Λ) {μ : hx_M}  {K : Int32 → hx_M → Prop} (hK : ∀ (r : Int32) (m : hx_M), K r m → KK (some (.int r)) Λ m) (hw : wX2_readComparison μ K) : G Λ μ (0, 0) 0 [some (.ref 2), none, none, none] [] := by
  unfold wX2_readComparison at hw
  obtain ⟨i8_1, hw⟩ := hw
  refine cl_aload_n hG (hx_dq tdX2_readComparison_0 0 rfl) rfl (cl_getS hG fmX2_19 (hx_dq tdX2_readComparison_0 1 rfl) (cF_S2 hF) (cF_R2_2 hF) (cl_aload_n hG (hx_dq tdX2_readComparison_0 2 rfl) rfl (cl_getI hG fmX2_26 (hx_dq tdX2_readComparison_0 3 rfl) (cF_S2 hF) (cl_iald hG (hx_dq tdX2_readComparison_0 4 rfl) (cF_S3 hF) i8_1 (cl_sipush hG 10000 (hx_dq tdX2_readComparison_0 5 rfl) sipush_10000 (cl_isub hG (hx_dq tdX2_readComparison_0 6 rfl) (cl_istore_n hG (hx_dq tdX2_readComparison_0 7 rfl) (Nat.le_of_ble_eq_true rfl) rfl (cl_iload_n hG (hx_dq tdX2_readComparison_0 8 rfl) rfl (cl_iconst hG 0 (hx_dq tdX2_readComparison_0 9 rfl) iconst_0 (cl_bipush hG 11 (hx_dq tdX2_readComparison_0 10 rfl) bipush_11 (cl_callS3 (caX2_readComparison_35 cA) (hx_dq tdX2_readComparison_0 11 rfl) (Nat.le_of_ble_eq_true rfl) (Nat.le_refl _) (Nat.le_refl _) (sX11_within_mk hw (fun r18_3 hw => ?_)))))))))))))
  refine cl_if_ne hG 26 (hx_dq tdX2_readComparison_0 12 rfl) rfl (fun c21 => ?_) (fun c21 => ?_)
  · replace hw := hw.1 c21
    obtain ⟨i44_4, hw⟩ := hw
    refine cl_aload_n hG (hx_dq tdX2_readComparison_0 15 rfl) rfl (cl_dup hG (hx_dq tdX2_readComparison_0 16 rfl) rfl (cl_getI hG fmX2_26 (hx_dq tdX2_readComparison_0 17 rfl) (cF_S2 hF) (cl_iconst hG 1 (hx_dq tdX2_readComparison_0 18 rfl) iconst_1 (cl_iadd hG (hx_dq tdX2_readComparison_0 19 rfl) (cl_putI hG fmX2_26 (hx_dq tdX2_readComparison_0 20 rfl) (cF_S2 hF) (cl_aload_n hG (hx_dq tdX2_readComparison_0 21 rfl) rfl (cl_getS hG fmX2_19 (hx_dq tdX2_readComparison_0 22 rfl) (cF_S2 hF) (cF_R2_2 hF) (cl_aload_n hG (hx_dq tdX2_readComparison_0 23 rfl) rfl (cl_getI hG fmX2_26 (hx_dq tdX2_readComparison_0 24 rfl) (cF_S2 hF) (cl_iald hG (hx_dq tdX2_readComparison_0 25 rfl) (cF_S3 hF) i44_4 (cl_sipush hG 20000 (hx_dq tdX2_readComparison_0 26 rfl) sipush_20000 (cl_isub hG (hx_dq tdX2_readComparison_0 27 rfl) (cl_nmI (fun x_5 e_5 => ?_))))))))))))))
    replace hw := hw x_5 e_5
    refine cl_istore_n hG (hx_dq tdX2_readComparison_0 28 rfl) (Nat.le_of_ble_eq_true rfl) rfl (cl_iload_n hG (hx_dq tdX2_readComparison_0 29 rfl) rfl (cl_bipush hG 60 (hx_dq tdX2_readComparison_0 30 rfl) bipush_60 (cl_icmp_eq hG 70 (hx_dq tdX2_readComparison_0 31 rfl) rfl (fun c53 => ?_) (fun c53 => ?_))))
    · replace hw := hw.1 c53
      exact cl_sub hG (hx_le_c rfl (hx_le_c rfl (hx_le_c rfl (hx_le_n hx_le_0)))) (kX2_readComparison_J70 hG cA hF (((μ.1 3 ((μ.1 2 4).toNatClampNeg))) - 10000) x_5 hK hw)
    · replace hw := hw.2 c53
      refine cl_iload_n hG (hx_dq tdX2_readComparison_1 0 rfl) rfl (cl_bipush hG 62 (hx_dq tdX2_readComparison_1 1 rfl) bipush_62 (cl_icmp_eq hG 70 (hx_dq tdX2_readComparison_1 2 rfl) rfl (fun c59 => ?_) (fun c59 => ?_)))
      · replace hw := hw.1 c59
        exact cl_sub hG (hx_le_c rfl (hx_le_c rfl (hx_le_c rfl (hx_le_n hx_le_0)))) (kX2_readComparison_J70 hG cA hF (((μ.1 3 ((μ.1 2 4).toNatClampNeg))) - 10000) x_5 hK hw)
      · replace hw := hw.2 c59
        refine cl_iload_n hG (hx_dq tdX2_readComparison_1 3 rfl) rfl (cl_bipush hG 61 (hx_dq tdX2_readComparison_1 4 rfl) bipush_61 (cl_icmp_eq hG 70 (hx_dq tdX2_readComparison_1 5 rfl) rfl (fun c65 => ?_) (fun c65 => ?_)))
        · replace hw := hw.1 c65
          exact cl_sub hG (hx_le_c rfl (hx_le_c rfl (hx_le_c rfl (hx_le_n hx_le_0)))) (kX2_readComparison_J70 hG cA hF (((μ.1 3 ((μ.1 2 4).toNatClampNeg))) - 10000) x_5 hK hw)
        · replace hw := hw.2 c65
          exact cl_iconst hG 0 (hx_dq tdX2_readComparison_1 6 rfl) iconst_0 (cl_iret hG (hx_dq tdX2_readComparison_1 7 rfl) rfl rfl (hK _ _ hw) (Nat.le_refl _) (Nat.le_refl _))
  · replace hw := hw.2 c21
    exact cl_iconst hG 0 (hx_dq tdX2_readComparison_0 13 rfl) iconst_0 (cl_iret hG (hx_dq tdX2_readComparison_0 14 rfl) rfl rfl (hK _ _ hw) (Nat.le_refl _) (Nat.le_refl _))
def sX2_readComparison : hx_ST := fun Λ μ as KK => cF Λ ∧ ∃ (K : Int32 → hx_M → Prop), as = [.ref 2] ∧ wX2_readComparison μ K ∧ (∀ (r : Int32) (m : hx_M), K r m → KK (some (.int r)) Λ m)
theorem sX2_readComparison_mk {Λ : hx_L} {μ : hx_M} {KK : hx_KT}  {K : Int32 → hx_M → Prop} (hF : cF Λ) (hw : wX2_readComparison μ K) (hk : ∀ (r : Int32) (m : hx_M), K r m → KK (some (.int r)) Λ m) : sX2_readComparison Λ μ [.ref 2] KK := ⟨hF, _, rfl, hw, hk⟩
theorem conX2_readComparison : hx_Con yX2_readComparison cX2_readComparison 4 (some .boolean) 2 0 0 sX2_readComparison := by
  refine hx_con_of (by decide +kernel) tokX2 (by decide) ?_ ?_
  · intro Λ μ as KK h
    obtain ⟨hF, K, rfl, hw, hK⟩ := h
    exact Nat.le_of_ble_eq_true rfl
  · intro G KK hG cA Λ μ as h
    obtain ⟨hF, K, rfl, hw, hK⟩ := h
    exact cl_sub hG (hx_le_c rfl (hx_le_n (hx_le_n (hx_le_n hx_le_0)))) (kX2_readComparison hG cA hF hK hw)
def sX2_readOne (W1 : hx_M → Int32 → (Int32 → hx_M → Prop) → Prop) : hx_ST := fun Λ μ as KK => cF Λ ∧ ∃ (v1 : Int32) (K : Int32 → hx_M → Prop), as = [.ref 2, .int v1] ∧ W1 μ v1 K ∧ (∀ (r : Int32) (m : hx_M), K r m → KK (some (.int r)) Λ m)
theorem sX2_readOne_mk {W1 : hx_M → Int32 → (Int32 → hx_M → Prop) → Prop} {Λ : hx_L} {μ : hx_M} {KK : hx_KT} {v1 : Int32} {K : Int32 → hx_M → Prop} (hF : cF Λ) (hw : W1 μ v1 K) (hk : ∀ (r : Int32) (m : hx_M), K r m → KK (some (.int r)) Λ m) : sX2_readOne W1 Λ μ [.ref 2, .int v1] KK := ⟨hF, _, _, rfl, hw, hk⟩
/-! HemLine$LawReader.readAll(I)Z -/
def tbX2_readAll_0 : List (Nat × Instr × Nat) := [(0, .aload_n 0, 1), (1, .iload_n 1, 1), (2, .invokevirtual 110, 3), (5, .istore_n 2, 1), (6, .iconst 0, 1), (7, .istore_n 3, 1), (8, .iload_n 3, 1), (9, .sipush 700, 3), (12, .if_icmp .ge 35, 3), (15, .iload_n 2, 1), (16, .ifCond .eq 31, 3), (19, .aload_n 0, 1), (20, .sipush 10018, 3), (23, .invokevirtual 94, 3), (26, .ifCond .eq 21, 3), (29, .aload_n 0, 1), (30, .iload_n 1, 1), (31, .invokevirtual 110, 3), (34, .istore_n 2, 1), (35, .aload_n 0, 1), (36, .bipush (-2), 2), (38, .invokevirtual 86, 3), (41, .iinc 3 1, 3), (44, .goto (-36), 3), (47, .iload_n 2, 1), (48, .ireturn, 1)]
theorem tdX2_readAll_0 : hx_dt cX2_readAll tbX2_readAll_0 = true := by decide +kernel
theorem caX2_readAll_86 {G : hx_GT} {W1 : hx_M → Int32 → (Int32 → hx_M → Prop) → Prop} {h1 : Nat} (hc1 : hx_Con yX2_readOne cX2_readOne 4 (some .boolean) h1 0 0 (sX2_readOne W1)) (h5 : 6 ≤ h1) (cA : hx_CA RX2 cX2_readAll (h1 + 1) 0 0 G) : hx_CV cX2_readAll G 0 0 86 2 1 sX2_put 0 0 := cA.1 conX2_put rfl rfl ⟨by decide +kernel, by decide +kernel, by decide +kernel⟩ mw_633 mw_635 mw_7 mw_85 mw_636 (by omega) (by decide)
theorem caX2_readAll_94 {G : hx_GT} {W1 : hx_M → Int32 → (Int32 → hx_M → Prop) → Prop} {h1 : Nat} (hc1 : hx_Con yX2_readOne cX2_readOne 4 (some .boolean) h1 0 0 (sX2_readOne W1)) (h5 : 6 ≤ h1) (cA : hx_CA RX2 cX2_readAll (h1 + 1) 0 0 G) : hx_CV cX2_readAll G 0 0 94 2 1 sX2_takes 0 0 := cA.1 conX2_takes rfl rfl ⟨by decide +kernel, by decide +kernel, by decide +kernel⟩ mw_648 mw_650 mw_10 mw_85 mw_651 (by omega) (by decide)
theorem caX2_readAll_110 {G : hx_GT} {W1 : hx_M → Int32 → (Int32 → hx_M → Prop) → Prop} {h1 : Nat} (hc1 : hx_Con yX2_readOne cX2_readOne 4 (some .boolean) h1 0 0 (sX2_readOne W1)) (h5 : 6 ≤ h1) (cA : hx_CA RX2 cX2_readAll (h1 + 1) 0 0 G) : hx_CV cX2_readAll G 0 0 110 2 1 (sX2_readOne W1) 0 0 := cA.1 hc1 rfl rfl ⟨by decide +kernel, by decide +kernel, by decide +kernel⟩ mw_660 mw_662 mw_13 mw_85 mw_663 (by omega) (by decide)
def wX2_readAll_L8 (W1 : hx_M → Int32 → (Int32 → hx_M → Prop) → Prop) (v1 : Int32) (K : Int32 → hx_M → Prop)  : Nat → Int32 → Int32 → hx_M → Prop
  | 0, _, _, _ => False
  | n + 1, v2, v3, μ => (700 ≤ v3 → ((v2 = 0 ∨ v2 = 1) ∧ K v2 μ)) ∧ (¬ (700 ≤ v3) → ((v2 = 0 → ((v2 = 0 ∨ v2 = 1) ∧ K v2 μ)) ∧ (¬ (v2 = 0) → (wX2_takes μ 10018 (fun r23_4 m23_3 => (r23_4 = 0 → ((v2 = 0 ∨ v2 = 1) ∧ K v2 m23_3)) ∧ (¬ (r23_4 = 0) → (W1 m23_3 v1 (fun r31_6 m31_5 => wX2_put m31_5 (-2) (fun m38_7 => wX2_readAll_L8 W1 v1 K n r31_6 (v3 + 1) m38_7)))))))))
set_option maxRecDepth 100000 in
set_option maxHeartbeats 4000000 in
theorem kX2_readAll_L8 {G : hx_GT} {KK : hx_KT} {W1 : hx_M → Int32 → (Int32 → hx_M → Prop) → Prop} {h1 : Nat} (hG : hx_K cX2_readAll 4 0 0 (some .boolean) TbX2 KK G) (hc1 : hx_Con yX2_readOne cX2_readOne 4 (some .boolean) h1 0 0 (sX2_readOne W1)) (h5 : 6 ≤ h1) (cA : hx_CA RX2 cX2_readAll (h1 + 1) 0 0 G) {Λ : hx_L} (hF : cF Λ)  (v1 : Int32) {K : Int32 → hx_M → Prop} (hK : ∀ (r : Int32) (m : hx_M), K r m → KK (some (.int r)) Λ m)  : ∀ (n : Nat) (v2 : Int32) (v3 : Int32) (μ : hx_M), wX2_readAll_L8 W1 v1 K n v2 v3 μ → G Λ μ (0, 0) 8 [some (.ref 2), some (.int v1), some (.int v2), some (.int v3)] [] := by
  intro n
  induction n with
  | zero =>
    intro v2 v3 μ hw
    exact False.elim (by simpa only [wX2_readAll_L8] using hw)
  | succ n ih =>
    intro v2 v3 μ hw
    unfold wX2_readAll_L8 at hw
    refine cl_iload_n hG (hx_dq tdX2_readAll_0 6 rfl) rfl (cl_sipush hG 700 (hx_dq tdX2_readAll_0 7 rfl) sipush_700 (cl_icmp_ge hG 47 (hx_dq tdX2_readAll_0 8 rfl) rfl (fun c12 => ?_) (fun c12 => ?_)))
    · replace hw := hw.1 c12
      obtain ⟨b48, hw⟩ := hw
      exact cl_iload_n hG (hx_dq tdX2_readAll_0 24 rfl) rfl (cl_iret hG (hx_dq tdX2_readAll_0 25 rfl) rfl (hx_nb b48) (hK _ _ hw) (Nat.le_refl _) (Nat.le_refl _))
    · replace hw := hw.2 c12
      refine cl_iload_n hG (hx_dq tdX2_readAll_0 9 rfl) rfl (cl_if_eq hG 47 (hx_dq tdX2_readAll_0 10 rfl) rfl (fun c16 => ?_) (fun c16 => ?_))
      · replace hw := hw.1 c16
        obtain ⟨b48, hw⟩ := hw
        exact cl_iload_n hG (hx_dq tdX2_readAll_0 24 rfl) rfl (cl_iret hG (hx_dq tdX2_readAll_0 25 rfl) rfl (hx_nb b48) (hK _ _ hw) (Nat.le_refl _) (Nat.le_refl _))
      · replace hw := hw.2 c16
        refine cl_aload_n hG (hx_dq tdX2_readAll_0 11 rfl) rfl (cl_sipush hG 10018 (hx_dq tdX2_readAll_0 12 rfl) sipush_10018 (cl_callV1 (caX2_readAll_94 hc1 h5 cA) (hx_dq tdX2_readAll_0 13 rfl) (cF_S2 hF) (Nat.le_of_ble_eq_true rfl) (Nat.le_refl _) (Nat.le_refl _) (sX2_takes_mk hF hw (fun r23_4 m23_3 hw => ?_))))
        refine cl_if_eq hG 47 (hx_dq tdX2_readAll_0 14 rfl) rfl (fun c26 => ?_) (fun c26 => ?_)
        · replace hw := hw.1 c26
          obtain ⟨b48, hw⟩ := hw
          exact cl_iload_n hG (hx_dq tdX2_readAll_0 24 rfl) rfl (cl_iret hG (hx_dq tdX2_readAll_0 25 rfl) rfl (hx_nb b48) (hK _ _ hw) (Nat.le_refl _) (Nat.le_refl _))
        · replace hw := hw.2 c26
          refine cl_aload_n hG (hx_dq tdX2_readAll_0 15 rfl) rfl (cl_iload_n hG (hx_dq tdX2_readAll_0 16 rfl) rfl (cl_callV1 (caX2_readAll_110 hc1 h5 cA) (hx_dq tdX2_readAll_0 17 rfl) (cF_S2 hF) (Nat.le_of_ble_eq_true rfl) (Nat.le_refl _) (Nat.le_refl _) (sX2_readOne_mk hF hw (fun r31_6 m31_5 hw => ?_))))
          refine cl_istore_n hG (hx_dq tdX2_readAll_0 18 rfl) (Nat.le_of_ble_eq_true rfl) rfl (cl_aload_n hG (hx_dq tdX2_readAll_0 19 rfl) rfl (cl_bipush hG (-2) (hx_dq tdX2_readAll_0 20 rfl) bipush_m2 (cl_callV1 (caX2_readAll_86 hc1 h5 cA) (hx_dq tdX2_readAll_0 21 rfl) (cF_S2 hF) (Nat.le_of_ble_eq_true rfl) (Nat.le_refl _) (Nat.le_refl _) (sX2_put_mk hF hw (fun m38_7 hw => ?_)))))
          exact cl_iinc hG (v3 + 1) (hx_dq tdX2_readAll_0 22 rfl) rfl (congrArg (fun z => v3 + z) iconst_1) (Nat.le_of_ble_eq_true rfl) rfl (cl_goto hG 8 (hx_dq tdX2_readAll_0 23 rfl) rfl (cl_sub hG (hx_le_c rfl (hx_le_c rfl (hx_le_c rfl (hx_le_c rfl hx_le_0)))) (ih r31_6 (v3 + 1) _ hw)))
def wX2_readAll (W1 : hx_M → Int32 → (Int32 → hx_M → Prop) → Prop) (μ : hx_M) (v1 : Int32) (K : Int32 → hx_M → Prop) : Prop := W1 μ v1 (fun r2_2 m2_1 => ∃ n8_9, wX2_readAll_L8 W1 v1 K n8_9 r2_2 0 m2_1)
set_option maxRecDepth 100000 in
set_option maxHeartbeats 4000000 in
theorem kX2_readAll {G : hx_GT} {KK : hx_KT} {W1 : hx_M → Int32 → (Int32 → hx_M → Prop) → Prop} {h1 : Nat} (hG : hx_K cX2_readAll 4 0 0 (some .boolean) TbX2 KK G) (hc1 : hx_Con yX2_readOne cX2_readOne 4 (some .boolean) h1 0 0 (sX2_readOne W1)) (h5 : 6 ≤ h1) (cA : hx_CA RX2 cX2_readAll (h1 + 1) 0 0 G) {Λ : hx_L} (hF : cF Λ) {μ : hx_M} (v1 : Int32) {K : Int32 → hx_M → Prop} (hK : ∀ (r : Int32) (m : hx_M), K r m → KK (some (.int r)) Λ m) (hw : wX2_readAll W1 μ v1 K) : G Λ μ (0, 0) 0 [some (.ref 2), some (.int v1), none, none] [] := by
  unfold wX2_readAll at hw
  refine cl_aload_n hG (hx_dq tdX2_readAll_0 0 rfl) rfl (cl_iload_n hG (hx_dq tdX2_readAll_0 1 rfl) rfl (cl_callV1 (caX2_readAll_110 hc1 h5 cA) (hx_dq tdX2_readAll_0 2 rfl) (cF_S2 hF) (Nat.le_of_ble_eq_true rfl) (Nat.le_refl _) (Nat.le_refl _) (sX2_readOne_mk hF hw (fun r2_2 m2_1 hw => ?_))))
  refine cl_istore_n hG (hx_dq tdX2_readAll_0 3 rfl) (Nat.le_of_ble_eq_true rfl) rfl (cl_iconst hG 0 (hx_dq tdX2_readAll_0 4 rfl) iconst_0 (cl_istore_n hG (hx_dq tdX2_readAll_0 5 rfl) (Nat.le_of_ble_eq_true rfl) rfl ?_))
  obtain ⟨n_, hw⟩ := hw
  refine cl_sub hG (hx_le_c rfl (hx_le_c rfl (hx_le_c rfl (hx_le_c rfl hx_le_0)))) (kX2_readAll_L8 hG hc1 h5 cA hF v1 hK n_ r2_2 0 _ hw)
def sX2_readAll (W1 : hx_M → Int32 → (Int32 → hx_M → Prop) → Prop) : hx_ST := fun Λ μ as KK => cF Λ ∧ ∃ (v1 : Int32) (K : Int32 → hx_M → Prop), as = [.ref 2, .int v1] ∧ wX2_readAll W1 μ v1 K ∧ (∀ (r : Int32) (m : hx_M), K r m → KK (some (.int r)) Λ m)
theorem sX2_readAll_mk {W1 : hx_M → Int32 → (Int32 → hx_M → Prop) → Prop} {Λ : hx_L} {μ : hx_M} {KK : hx_KT} {v1 : Int32} {K : Int32 → hx_M → Prop} (hF : cF Λ) (hw : wX2_readAll W1 μ v1 K) (hk : ∀ (r : Int32) (m : hx_M), K r m → KK (some (.int r)) Λ m) : sX2_readAll W1 Λ μ [.ref 2, .int v1] KK := ⟨hF, _, _, rfl, hw, hk⟩
theorem conX2_readAll {W1 : hx_M → Int32 → (Int32 → hx_M → Prop) → Prop} {h1 : Nat} (hc1 : hx_Con yX2_readOne cX2_readOne 4 (some .boolean) h1 0 0 (sX2_readOne W1)) (h5 : 6 ≤ h1) : hx_Con yX2_readAll cX2_readAll 4 (some .boolean) (h1 + 1) 0 0 (sX2_readAll W1) := by
  refine hx_con_of (by decide +kernel) tokX2 (by omega) ?_ ?_
  · intro Λ μ as KK h
    obtain ⟨hF, v1, K, rfl, hw, hK⟩ := h
    exact Nat.le_of_ble_eq_true rfl
  · intro G KK hG cA Λ μ as h
    obtain ⟨hF, v1, K, rfl, hw, hK⟩ := h
    exact cl_sub hG (hx_le_c rfl (hx_le_c rfl (hx_le_n (hx_le_n hx_le_0)))) (kX2_readAll hG hc1 h5 cA hF _ hK hw)
/-! HemLine$LawReader.readAny(I)Z -/
def tbX2_readAny_0 : List (Nat × Instr × Nat) := [(0, .aload_n 0, 1), (1, .iload_n 1, 1), (2, .invokevirtual 107, 3), (5, .istore_n 2, 1), (6, .iconst 0, 1), (7, .istore_n 3, 1), (8, .iload_n 3, 1), (9, .sipush 700, 3), (12, .if_icmp .ge 35, 3), (15, .iload_n 2, 1), (16, .ifCond .eq 31, 3), (19, .aload_n 0, 1), (20, .sipush 10019, 3), (23, .invokevirtual 94, 3), (26, .ifCond .eq 21, 3), (29, .aload_n 0, 1), (30, .iload_n 1, 1), (31, .invokevirtual 107, 3), (34, .istore_n 2, 1), (35, .aload_n 0, 1), (36, .bipush (-3), 2), (38, .invokevirtual 86, 3), (41, .iinc 3 1, 3), (44, .goto (-36), 3), (47, .iload_n 2, 1), (48, .ireturn, 1)]
theorem tdX2_readAny_0 : hx_dt cX2_readAny tbX2_readAny_0 = true := by decide +kernel
theorem caX2_readAny_86 {G : hx_GT} {W1 : hx_M → Int32 → (Int32 → hx_M → Prop) → Prop} {h1 : Nat} (hc1 : hx_Con yX2_readOne cX2_readOne 4 (some .boolean) h1 0 0 (sX2_readOne W1)) (h5 : 6 ≤ h1) (cA : hx_CA RX2 cX2_readAny (h1 + 2) 0 0 G) : hx_CV cX2_readAny G 0 0 86 2 1 sX2_put 0 0 := cA.1 conX2_put rfl rfl ⟨by decide +kernel, by decide +kernel, by decide +kernel⟩ mw_633 mw_635 mw_7 mw_85 mw_636 (by omega) (by decide)
theorem caX2_readAny_94 {G : hx_GT} {W1 : hx_M → Int32 → (Int32 → hx_M → Prop) → Prop} {h1 : Nat} (hc1 : hx_Con yX2_readOne cX2_readOne 4 (some .boolean) h1 0 0 (sX2_readOne W1)) (h5 : 6 ≤ h1) (cA : hx_CA RX2 cX2_readAny (h1 + 2) 0 0 G) : hx_CV cX2_readAny G 0 0 94 2 1 sX2_takes 0 0 := cA.1 conX2_takes rfl rfl ⟨by decide +kernel, by decide +kernel, by decide +kernel⟩ mw_648 mw_650 mw_10 mw_85 mw_651 (by omega) (by decide)
theorem caX2_readAny_107 {G : hx_GT} {W1 : hx_M → Int32 → (Int32 → hx_M → Prop) → Prop} {h1 : Nat} (hc1 : hx_Con yX2_readOne cX2_readOne 4 (some .boolean) h1 0 0 (sX2_readOne W1)) (h5 : 6 ≤ h1) (cA : hx_CA RX2 cX2_readAny (h1 + 2) 0 0 G) : hx_CV cX2_readAny G 0 0 107 2 1 (sX2_readAll W1) 0 0 := cA.1 (conX2_readAll hc1 h5) rfl rfl ⟨by decide +kernel, by decide +kernel, by decide +kernel⟩ mw_656 mw_658 mw_12 mw_85 mw_659 (by omega) (by decide)
def wX2_readAny_L8 (W1 : hx_M → Int32 → (Int32 → hx_M → Prop) → Prop) (v1 : Int32) (K : Int32 → hx_M → Prop)  : Nat → Int32 → Int32 → hx_M → Prop
  | 0, _, _, _ => False
  | n + 1, v2, v3, μ => (700 ≤ v3 → ((v2 = 0 ∨ v2 = 1) ∧ K v2 μ)) ∧ (¬ (700 ≤ v3) → ((v2 = 0 → ((v2 = 0 ∨ v2 = 1) ∧ K v2 μ)) ∧ (¬ (v2 = 0) → (wX2_takes μ 10019 (fun r23_4 m23_3 => (r23_4 = 0 → ((v2 = 0 ∨ v2 = 1) ∧ K v2 m23_3)) ∧ (¬ (r23_4 = 0) → (wX2_readAll W1 m23_3 v1 (fun r31_6 m31_5 => wX2_put m31_5 (-3) (fun m38_7 => wX2_readAny_L8 W1 v1 K n r31_6 (v3 + 1) m38_7)))))))))
set_option maxRecDepth 100000 in
set_option maxHeartbeats 4000000 in
theorem kX2_readAny_L8 {G : hx_GT} {KK : hx_KT} {W1 : hx_M → Int32 → (Int32 → hx_M → Prop) → Prop} {h1 : Nat} (hG : hx_K cX2_readAny 4 0 0 (some .boolean) TbX2 KK G) (hc1 : hx_Con yX2_readOne cX2_readOne 4 (some .boolean) h1 0 0 (sX2_readOne W1)) (h5 : 6 ≤ h1) (cA : hx_CA RX2 cX2_readAny (h1 + 2) 0 0 G) {Λ : hx_L} (hF : cF Λ)  (v1 : Int32) {K : Int32 → hx_M → Prop} (hK : ∀ (r : Int32) (m : hx_M), K r m → KK (some (.int r)) Λ m)  : ∀ (n : Nat) (v2 : Int32) (v3 : Int32) (μ : hx_M), wX2_readAny_L8 W1 v1 K n v2 v3 μ → G Λ μ (0, 0) 8 [some (.ref 2), some (.int v1), some (.int v2), some (.int v3)] [] := by
  intro n
  induction n with
  | zero =>
    intro v2 v3 μ hw
    exact False.elim (by simpa only [wX2_readAny_L8] using hw)
  | succ n ih =>
    intro v2 v3 μ hw
    unfold wX2_readAny_L8 at hw
    refine cl_iload_n hG (hx_dq tdX2_readAny_0 6 rfl) rfl (cl_sipush hG 700 (hx_dq tdX2_readAny_0 7 rfl) sipush_700 (cl_icmp_ge hG 47 (hx_dq tdX2_readAny_0 8 rfl) rfl (fun c12 => ?_) (fun c12 => ?_)))
    · replace hw := hw.1 c12
      obtain ⟨b48, hw⟩ := hw
      exact cl_iload_n hG (hx_dq tdX2_readAny_0 24 rfl) rfl (cl_iret hG (hx_dq tdX2_readAny_0 25 rfl) rfl (hx_nb b48) (hK _ _ hw) (Nat.le_refl _) (Nat.le_refl _))
    · replace hw := hw.2 c12
      refine cl_iload_n hG (hx_dq tdX2_readAny_0 9 rfl) rfl (cl_if_eq hG 47 (hx_dq tdX2_readAny_0 10 rfl) rfl (fun c16 => ?_) (fun c16 => ?_))
      · replace hw := hw.1 c16
        obtain ⟨b48, hw⟩ := hw
        exact cl_iload_n hG (hx_dq tdX2_readAny_0 24 rfl) rfl (cl_iret hG (hx_dq tdX2_readAny_0 25 rfl) rfl (hx_nb b48) (hK _ _ hw) (Nat.le_refl _) (Nat.le_refl _))
      · replace hw := hw.2 c16
        refine cl_aload_n hG (hx_dq tdX2_readAny_0 11 rfl) rfl (cl_sipush hG 10019 (hx_dq tdX2_readAny_0 12 rfl) sipush_10019 (cl_callV1 (caX2_readAny_94 hc1 h5 cA) (hx_dq tdX2_readAny_0 13 rfl) (cF_S2 hF) (Nat.le_of_ble_eq_true rfl) (Nat.le_refl _) (Nat.le_refl _) (sX2_takes_mk hF hw (fun r23_4 m23_3 hw => ?_))))
        refine cl_if_eq hG 47 (hx_dq tdX2_readAny_0 14 rfl) rfl (fun c26 => ?_) (fun c26 => ?_)
        · replace hw := hw.1 c26
          obtain ⟨b48, hw⟩ := hw
          exact cl_iload_n hG (hx_dq tdX2_readAny_0 24 rfl) rfl (cl_iret hG (hx_dq tdX2_readAny_0 25 rfl) rfl (hx_nb b48) (hK _ _ hw) (Nat.le_refl _) (Nat.le_refl _))
        · replace hw := hw.2 c26
          refine cl_aload_n hG (hx_dq tdX2_readAny_0 15 rfl) rfl (cl_iload_n hG (hx_dq tdX2_readAny_0 16 rfl) rfl (cl_callV1 (caX2_readAny_107 hc1 h5 cA) (hx_dq tdX2_readAny_0 17 rfl) (cF_S2 hF) (Nat.le_of_ble_eq_true rfl) (Nat.le_refl _) (Nat.le_refl _) (sX2_readAll_mk hF hw (fun r31_6 m31_5 hw => ?_))))
          refine cl_istore_n hG (hx_dq tdX2_readAny_0 18 rfl) (Nat.le_of_ble_eq_true rfl) rfl (cl_aload_n hG (hx_dq tdX2_readAny_0 19 rfl) rfl (cl_bipush hG (-3) (hx_dq tdX2_readAny_0 20 rfl) bipush_m3 (cl_callV1 (caX2_readAny_86 hc1 h5 cA) (hx_dq tdX2_readAny_0 21 rfl) (cF_S2 hF) (Nat.le_of_ble_eq_true rfl) (Nat.le_refl _) (Nat.le_refl _) (sX2_put_mk hF hw (fun m38_7 hw => ?_)))))
          exact cl_iinc hG (v3 + 1) (hx_dq tdX2_readAny_0 22 rfl) rfl (congrArg (fun z => v3 + z) iconst_1) (Nat.le_of_ble_eq_true rfl) rfl (cl_goto hG 8 (hx_dq tdX2_readAny_0 23 rfl) rfl (cl_sub hG (hx_le_c rfl (hx_le_c rfl (hx_le_c rfl (hx_le_c rfl hx_le_0)))) (ih r31_6 (v3 + 1) _ hw)))
def wX2_readAny (W1 : hx_M → Int32 → (Int32 → hx_M → Prop) → Prop) (μ : hx_M) (v1 : Int32) (K : Int32 → hx_M → Prop) : Prop := wX2_readAll W1 μ v1 (fun r2_2 m2_1 => ∃ n8_9, wX2_readAny_L8 W1 v1 K n8_9 r2_2 0 m2_1)
set_option maxRecDepth 100000 in
set_option maxHeartbeats 4000000 in
theorem kX2_readAny {G : hx_GT} {KK : hx_KT} {W1 : hx_M → Int32 → (Int32 → hx_M → Prop) → Prop} {h1 : Nat} (hG : hx_K cX2_readAny 4 0 0 (some .boolean) TbX2 KK G) (hc1 : hx_Con yX2_readOne cX2_readOne 4 (some .boolean) h1 0 0 (sX2_readOne W1)) (h5 : 6 ≤ h1) (cA : hx_CA RX2 cX2_readAny (h1 + 2) 0 0 G) {Λ : hx_L} (hF : cF Λ) {μ : hx_M} (v1 : Int32) {K : Int32 → hx_M → Prop} (hK : ∀ (r : Int32) (m : hx_M), K r m → KK (some (.int r)) Λ m) (hw : wX2_readAny W1 μ v1 K) : G Λ μ (0, 0) 0 [some (.ref 2), some (.int v1), none, none] [] := by
  unfold wX2_readAny at hw
  refine cl_aload_n hG (hx_dq tdX2_readAny_0 0 rfl) rfl (cl_iload_n hG (hx_dq tdX2_readAny_0 1 rfl) rfl (cl_callV1 (caX2_readAny_107 hc1 h5 cA) (hx_dq tdX2_readAny_0 2 rfl) (cF_S2 hF) (Nat.le_of_ble_eq_true rfl) (Nat.le_refl _) (Nat.le_refl _) (sX2_readAll_mk hF hw (fun r2_2 m2_1 hw => ?_))))
  refine cl_istore_n hG (hx_dq tdX2_readAny_0 3 rfl) (Nat.le_of_ble_eq_true rfl) rfl (cl_iconst hG 0 (hx_dq tdX2_readAny_0 4 rfl) iconst_0 (cl_istore_n hG (hx_dq tdX2_readAny_0 5 rfl) (Nat.le_of_ble_eq_true rfl) rfl ?_))
  obtain ⟨n_, hw⟩ := hw
  refine cl_sub hG (hx_le_c rfl (hx_le_c rfl (hx_le_c rfl (hx_le_c rfl hx_le_0)))) (kX2_readAny_L8 hG hc1 h5 cA hF v1 hK n_ r2_2 0 _ hw)
def sX2_readAny (W1 : hx_M → Int32 → (Int32 → hx_M → Prop) → Prop) : hx_ST := fun Λ μ as KK => cF Λ ∧ ∃ (v1 : Int32) (K : Int32 → hx_M → Prop), as = [.ref 2, .int v1] ∧ wX2_readAny W1 μ v1 K ∧ (∀ (r : Int32) (m : hx_M), K r m → KK (some (.int r)) Λ m)
theorem sX2_readAny_mk {W1 : hx_M → Int32 → (Int32 → hx_M → Prop) → Prop} {Λ : hx_L} {μ : hx_M} {KK : hx_KT} {v1 : Int32} {K : Int32 → hx_M → Prop} (hF : cF Λ) (hw : wX2_readAny W1 μ v1 K) (hk : ∀ (r : Int32) (m : hx_M), K r m → KK (some (.int r)) Λ m) : sX2_readAny W1 Λ μ [.ref 2, .int v1] KK := ⟨hF, _, _, rfl, hw, hk⟩
theorem conX2_readAny {W1 : hx_M → Int32 → (Int32 → hx_M → Prop) → Prop} {h1 : Nat} (hc1 : hx_Con yX2_readOne cX2_readOne 4 (some .boolean) h1 0 0 (sX2_readOne W1)) (h5 : 6 ≤ h1) : hx_Con yX2_readAny cX2_readAny 4 (some .boolean) (h1 + 2) 0 0 (sX2_readAny W1) := by
  refine hx_con_of (by decide +kernel) tokX2 (by omega) ?_ ?_
  · intro Λ μ as KK h
    obtain ⟨hF, v1, K, rfl, hw, hK⟩ := h
    exact Nat.le_of_ble_eq_true rfl
  · intro G KK hG cA Λ μ as h
    obtain ⟨hF, v1, K, rfl, hw, hK⟩ := h
    exact cl_sub hG (hx_le_c rfl (hx_le_c rfl (hx_le_n (hx_le_n hx_le_0)))) (kX2_readAny hG hc1 h5 cA hF _ hK hw)
