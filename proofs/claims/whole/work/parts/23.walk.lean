/-! HemLine$Shelf.between(II)I -/
def tbX7_between_0 : List (Nat × Instr × Nat) := [(0, .iload_n 1, 1), (1, .iload_n 2, 1), (2, .iadd, 1), (3, .iconst 2, 1), (4, .idiv, 1), (5, .istore_n 3, 1), (6, .aload_n 0, 1), (7, .getfield 19, 3), (10, .iload_n 3, 1), (11, .iaload, 1), (12, .aload_n 0, 1), (13, .getfield 19, 3), (16, .iload_n 1, 1), (17, .iaload, 1), (18, .isub, 1), (19, .iload_n 1, 1), (20, .aload_n 0, 1), (21, .getfield 15, 3), (24, .iload_n 3, 1), (25, .iaload, 1), (26, .aload_n 0, 1), (27, .getfield 15, 3), (30, .iload_n 1, 1), (31, .iaload, 1), (32, .isub, 1), (33, .imul, 1), (34, .isub, 1), (35, .istore 4, 2), (37, .iload_n 2, 1), (38, .aload_n 0, 1), (39, .getfield 15, 3), (42, .iload_n 2, 1)]
def tbX7_between_1 : List (Nat × Instr × Nat) := [(43, .iaload, 1), (44, .aload_n 0, 1), (45, .getfield 15, 3), (48, .iload_n 3, 1), (49, .iaload, 1), (50, .isub, 1), (51, .imul, 1), (52, .aload_n 0, 1), (53, .getfield 19, 3), (56, .iload_n 2, 1), (57, .iaload, 1), (58, .aload_n 0, 1), (59, .getfield 19, 3), (62, .iload_n 3, 1), (63, .iaload, 1), (64, .isub, 1), (65, .isub, 1), (66, .istore 5, 2), (68, .iload 4, 2), (70, .iload 5, 2), (72, .iadd, 1), (73, .ireturn, 1)]
theorem tdX7_between_0 : hx_dt cX7_between tbX7_between_0 = true := by decide +kernel
theorem tdX7_between_1 : hx_dt cX7_between tbX7_between_1 = true := by decide +kernel
def wX7_between (μ : hx_M) (v1 : Int32) (v2 : Int32) (K : Int32 → Prop) : Prop := vp_in ((v1 + v2) / 2) 61 ∧ vp_in v1 61 ∧ ∀ x_3 : Int32, x_3 = (((μ.1 45 (((v1 + v2) / 2).toNatClampNeg))) - (μ.1 45 v1.toNatClampNeg)) → vp_in ((v1 + v2) / 2) 61 ∧ vp_in v1 61 ∧ ∀ x_6 : Int32, x_6 = (((μ.1 44 (((v1 + v2) / 2).toNatClampNeg))) - (μ.1 44 v1.toNatClampNeg)) → vp_in v2 61 ∧ vp_in ((v1 + v2) / 2) 61 ∧ ∀ x_9 : Int32, x_9 = ((μ.1 44 v2.toNatClampNeg) - ((μ.1 44 (((v1 + v2) / 2).toNatClampNeg)))) → vp_in v2 61 ∧ vp_in ((v1 + v2) / 2) 61 ∧ ∀ x_12 : Int32, x_12 = ((μ.1 45 v2.toNatClampNeg) - ((μ.1 45 (((v1 + v2) / 2).toNatClampNeg)))) → K ((x_3 - (v1 * x_6)) + ((v2 * x_9) - x_12))
set_option maxRecDepth 100000 in
set_option maxHeartbeats 4000000 in
theorem kX7_between {G : hx_GT} {KK : hx_KT} (hG : hx_K cX7_between 6 0 0 (some .int) TbX7 KK G) (cA : hx_CA RX7 cX7_between 1 0 0 G) {Λ : hx_L} (hF : cF Λ) {μ : hx_M} (v1 : Int32) (v2 : Int32) {K : Int32 → Prop} (hK : ∀ (r : Int32), K r → KK (some (.int r)) Λ μ) (hw : wX7_between μ v1 v2 K) : G Λ μ (0, 0) 0 [some (.ref 43), some (.int v1), some (.int v2), none, none, none] [] := by
  unfold wX7_between at hw
  obtain ⟨i11_1, hw⟩ := hw
  obtain ⟨i17_2, hw⟩ := hw
  refine cl_iload_n hG (hx_dq tdX7_between_0 0 rfl) rfl (cl_iload_n hG (hx_dq tdX7_between_0 1 rfl) rfl (cl_iadd hG (hx_dq tdX7_between_0 2 rfl) (cl_iconst hG 2 (hx_dq tdX7_between_0 3 rfl) iconst_2 (cl_idiv hG (hx_dq tdX7_between_0 4 rfl) (by decide) (cl_istore_n hG (hx_dq tdX7_between_0 5 rfl) (Nat.le_of_ble_eq_true rfl) rfl (cl_aload_n hG (hx_dq tdX7_between_0 6 rfl) rfl (cl_getS hG fmX7_19 (hx_dq tdX7_between_0 7 rfl) (cF_S43 hF) (cF_R43_2 hF) (cl_iload_n hG (hx_dq tdX7_between_0 8 rfl) rfl (cl_iald hG (hx_dq tdX7_between_0 9 rfl) (cF_S45 hF) i11_1 (cl_aload_n hG (hx_dq tdX7_between_0 10 rfl) rfl (cl_getS hG fmX7_19 (hx_dq tdX7_between_0 11 rfl) (cF_S43 hF) (cF_R43_2 hF) (cl_iload_n hG (hx_dq tdX7_between_0 12 rfl) rfl (cl_iald hG (hx_dq tdX7_between_0 13 rfl) (cF_S45 hF) i17_2 (cl_isub hG (hx_dq tdX7_between_0 14 rfl) (cl_nmI (fun x_3 e_3 => ?_))))))))))))))))
  replace hw := hw x_3 e_3
  obtain ⟨i25_4, hw⟩ := hw
  obtain ⟨i31_5, hw⟩ := hw
  refine cl_iload_n hG (hx_dq tdX7_between_0 15 rfl) rfl (cl_aload_n hG (hx_dq tdX7_between_0 16 rfl) rfl (cl_getS hG fmX7_15 (hx_dq tdX7_between_0 17 rfl) (cF_S43 hF) (cF_R43_1 hF) (cl_iload_n hG (hx_dq tdX7_between_0 18 rfl) rfl (cl_iald hG (hx_dq tdX7_between_0 19 rfl) (cF_S44 hF) i25_4 (cl_aload_n hG (hx_dq tdX7_between_0 20 rfl) rfl (cl_getS hG fmX7_15 (hx_dq tdX7_between_0 21 rfl) (cF_S43 hF) (cF_R43_1 hF) (cl_iload_n hG (hx_dq tdX7_between_0 22 rfl) rfl (cl_iald hG (hx_dq tdX7_between_0 23 rfl) (cF_S44 hF) i31_5 (cl_isub hG (hx_dq tdX7_between_0 24 rfl) (cl_nmI (fun x_6 e_6 => ?_)))))))))))
  replace hw := hw x_6 e_6
  obtain ⟨i43_7, hw⟩ := hw
  obtain ⟨i49_8, hw⟩ := hw
  refine cl_imul hG (hx_dq tdX7_between_0 25 rfl) (cl_isub hG (hx_dq tdX7_between_0 26 rfl) (cl_istore hG (hx_dq tdX7_between_0 27 rfl) (Nat.le_of_ble_eq_true rfl) rfl (cl_iload_n hG (hx_dq tdX7_between_0 28 rfl) rfl (cl_aload_n hG (hx_dq tdX7_between_0 29 rfl) rfl (cl_getS hG fmX7_15 (hx_dq tdX7_between_0 30 rfl) (cF_S43 hF) (cF_R43_1 hF) (cl_iload_n hG (hx_dq tdX7_between_0 31 rfl) rfl (cl_iald hG (hx_dq tdX7_between_1 0 rfl) (cF_S44 hF) i43_7 (cl_aload_n hG (hx_dq tdX7_between_1 1 rfl) rfl (cl_getS hG fmX7_15 (hx_dq tdX7_between_1 2 rfl) (cF_S43 hF) (cF_R43_1 hF) (cl_iload_n hG (hx_dq tdX7_between_1 3 rfl) rfl (cl_iald hG (hx_dq tdX7_between_1 4 rfl) (cF_S44 hF) i49_8 (cl_isub hG (hx_dq tdX7_between_1 5 rfl) (cl_nmI (fun x_9 e_9 => ?_))))))))))))))
  replace hw := hw x_9 e_9
  obtain ⟨i57_10, hw⟩ := hw
  obtain ⟨i63_11, hw⟩ := hw
  refine cl_imul hG (hx_dq tdX7_between_1 6 rfl) (cl_aload_n hG (hx_dq tdX7_between_1 7 rfl) rfl (cl_getS hG fmX7_19 (hx_dq tdX7_between_1 8 rfl) (cF_S43 hF) (cF_R43_2 hF) (cl_iload_n hG (hx_dq tdX7_between_1 9 rfl) rfl (cl_iald hG (hx_dq tdX7_between_1 10 rfl) (cF_S45 hF) i57_10 (cl_aload_n hG (hx_dq tdX7_between_1 11 rfl) rfl (cl_getS hG fmX7_19 (hx_dq tdX7_between_1 12 rfl) (cF_S43 hF) (cF_R43_2 hF) (cl_iload_n hG (hx_dq tdX7_between_1 13 rfl) rfl (cl_iald hG (hx_dq tdX7_between_1 14 rfl) (cF_S45 hF) i63_11 (cl_isub hG (hx_dq tdX7_between_1 15 rfl) (cl_nmI (fun x_12 e_12 => ?_)))))))))))
  replace hw := hw x_12 e_12
  exact cl_isub hG (hx_dq tdX7_between_1 16 rfl) (cl_istore hG (hx_dq tdX7_between_1 17 rfl) (Nat.le_of_ble_eq_true rfl) rfl (cl_iload hG (hx_dq tdX7_between_1 18 rfl) rfl (cl_iload hG (hx_dq tdX7_between_1 19 rfl) rfl (cl_iadd hG (hx_dq tdX7_between_1 20 rfl) (cl_iret hG (hx_dq tdX7_between_1 21 rfl) rfl rfl (hK _ hw) (Nat.le_refl _) (Nat.le_refl _))))))
def sX7_between : hx_ST := fun Λ μ as KK => cF Λ ∧ ∃ (v1 : Int32) (v2 : Int32) (K : Int32 → Prop), as = [.ref 43, .int v1, .int v2] ∧ wX7_between μ v1 v2 K ∧ (∀ (r : Int32), K r → KK (some (.int r)) Λ μ)
theorem sX7_between_mk {Λ : hx_L} {μ : hx_M} {KK : hx_KT} {v1 : Int32} {v2 : Int32} {K : Int32 → Prop} (hF : cF Λ) (hw : wX7_between μ v1 v2 K) (hk : ∀ (r : Int32), K r → KK (some (.int r)) Λ μ) : sX7_between Λ μ [.ref 43, .int v1, .int v2] KK := ⟨hF, _, _, _, rfl, hw, hk⟩
theorem conX7_between : hx_Con yX7_between cX7_between 6 (some .int) 1 0 0 sX7_between := by
  refine hx_con_of (by decide +kernel) tokX7 (by decide) ?_ ?_
  · intro Λ μ as KK h
    obtain ⟨hF, v1, v2, K, rfl, hw, hK⟩ := h
    exact Nat.le_of_ble_eq_true rfl
  · intro G KK hG cA Λ μ as h
    obtain ⟨hF, v1, v2, K, rfl, hw, hK⟩ := h
    exact cl_sub hG (hx_le_c rfl (hx_le_c rfl (hx_le_c rfl (hx_le_n (hx_le_n (hx_le_n hx_le_0)))))) (kX7_between hG cA hF _ _ hK hw)
/-! HemLine$Shelf.leastBehind(II)I -/
def tbX7_leastBehind_0 : List (Nat × Instr × Nat) := [(0, .ldc 71, 2), (2, .istore_n 3, 1), (3, .iload_n 1, 1), (4, .iconst 1, 1), (5, .iadd, 1), (6, .istore 4, 2), (8, .iload 4, 2), (10, .bipush 60, 2), (12, .if_icmp .gt 36, 3), (15, .iload_n 3, 1), (16, .aload_n 0, 1), (17, .iload_n 1, 1), (18, .iload 4, 2), (20, .invokevirtual 72, 3), (23, .aload_n 0, 1), (24, .getfield 22, 3), (27, .iload_n 2, 1), (28, .iconst 1, 1), (29, .isub, 1), (30, .bipush 61, 2), (32, .imul, 1), (33, .iload 4, 2), (35, .iadd, 1), (36, .iaload, 1), (37, .iadd, 1), (38, .invokestatic 75, 3), (41, .istore_n 3, 1), (42, .iinc 4 1, 3), (45, .goto (-37), 3), (48, .iload_n 3, 1), (49, .ireturn, 1)]
theorem tdX7_leastBehind_0 : hx_dt cX7_leastBehind tbX7_leastBehind_0 = true := by decide +kernel
theorem caX7_leastBehind_72 {G : hx_GT} (cA : hx_CA RX7 cX7_leastBehind 2 0 0 G) : hx_CV cX7_leastBehind G 0 0 72 7 2 sX7_between 0 0 := cA.1 conX7_between rfl rfl ⟨by decide +kernel, by decide +kernel, by decide +kernel⟩ mw_1058 mw_1060 mw_33 mw_96 mw_1061 (by decide) (by decide)
def wX7_leastBehind_L8 (μ : hx_M) (v1 : Int32) (v2 : Int32) (K : Int32 → Prop)  : Nat → Int32 → Int32 → Prop
  | 0, _, _ => False
  | n + 1, v3, v4 => (60 < v4 → (K v3)) ∧ (¬ (60 < v4) → (wX7_between μ v1 v4 (fun r20_2 => vp_in (((v2 - 1) * 61) + v4) 366 ∧ ∀ x_4 : Int32, x_4 = ((μ.1 46 ((((v2 - 1) * 61) + v4).toNatClampNeg))) → ∀ x_5 : Int32, x_5 = (if (r20_2 + x_4) < v3 then (r20_2 + x_4) else v3) → wX7_leastBehind_L8 μ v1 v2 K n x_5 (v4 + 1))))
set_option maxRecDepth 100000 in
set_option maxHeartbeats 4000000 in
theorem kX7_leastBehind_L8 {G : hx_GT} {KK : hx_KT} (hG : hx_K cX7_leastBehind 5 0 0 (some .int) TbX7 KK G) (cA : hx_CA RX7 cX7_leastBehind 2 0 0 G) {Λ : hx_L} (hF : cF Λ) {μ : hx_M} (v1 : Int32) (v2 : Int32) {K : Int32 → Prop} (hK : ∀ (r : Int32), K r → KK (some (.int r)) Λ μ)  : ∀ (n : Nat) (v3 : Int32) (v4 : Int32), wX7_leastBehind_L8 μ v1 v2 K n v3 v4 → G Λ μ (0, 0) 8 [some (.ref 43), some (.int v1), some (.int v2), some (.int v3), some (.int v4)] [] := by
  intro n
  induction n with
  | zero =>
    intro v3 v4 hw
    exact False.elim (by simpa only [wX7_leastBehind_L8] using hw)
  | succ n ih =>
    intro v3 v4 hw
    unfold wX7_leastBehind_L8 at hw
    refine cl_iload hG (hx_dq tdX7_leastBehind_0 6 rfl) rfl (cl_bipush hG 60 (hx_dq tdX7_leastBehind_0 7 rfl) bipush_60 (cl_icmp_gt hG 48 (hx_dq tdX7_leastBehind_0 8 rfl) rfl (fun c12 => ?_) (fun c12 => ?_)))
    · replace hw := hw.1 c12
      exact cl_iload_n hG (hx_dq tdX7_leastBehind_0 29 rfl) rfl (cl_iret hG (hx_dq tdX7_leastBehind_0 30 rfl) rfl rfl (hK _ hw) (Nat.le_refl _) (Nat.le_refl _))
    · replace hw := hw.2 c12
      refine cl_iload_n hG (hx_dq tdX7_leastBehind_0 9 rfl) rfl (cl_aload_n hG (hx_dq tdX7_leastBehind_0 10 rfl) rfl (cl_iload_n hG (hx_dq tdX7_leastBehind_0 11 rfl) rfl (cl_iload hG (hx_dq tdX7_leastBehind_0 12 rfl) rfl (cl_callV2 (caX7_leastBehind_72 cA) (hx_dq tdX7_leastBehind_0 13 rfl) (cF_S43 hF) (Nat.le_of_ble_eq_true rfl) (Nat.le_refl _) (Nat.le_refl _) (sX7_between_mk hF hw (fun r20_2 hw => ?_))))))
      obtain ⟨i36_3, hw⟩ := hw
      refine cl_aload_n hG (hx_dq tdX7_leastBehind_0 14 rfl) rfl (cl_getS hG fmX7_22 (hx_dq tdX7_leastBehind_0 15 rfl) (cF_S43 hF) (cF_R43_3 hF) (cl_iload_n hG (hx_dq tdX7_leastBehind_0 16 rfl) rfl (cl_iconst hG 1 (hx_dq tdX7_leastBehind_0 17 rfl) iconst_1 (cl_isub hG (hx_dq tdX7_leastBehind_0 18 rfl) (cl_bipush hG 61 (hx_dq tdX7_leastBehind_0 19 rfl) bipush_61 (cl_imul hG (hx_dq tdX7_leastBehind_0 20 rfl) (cl_iload hG (hx_dq tdX7_leastBehind_0 21 rfl) rfl (cl_iadd hG (hx_dq tdX7_leastBehind_0 22 rfl) (cl_iald hG (hx_dq tdX7_leastBehind_0 23 rfl) (cF_S46 hF) i36_3 (cl_nmI (fun x_4 e_4 => ?_)))))))))))
      replace hw := hw x_4 e_4
      refine cl_iadd hG (hx_dq tdX7_leastBehind_0 24 rfl) (cl_mmin hG mmX7_75 (hx_dq tdX7_leastBehind_0 25 rfl) (Nat.le_refl _) (Nat.le_refl _) (Nat.le_of_ble_eq_true rfl) (cl_nmI (fun x_5 e_5 => ?_)))
      replace hw := hw x_5 e_5
      exact cl_istore_n hG (hx_dq tdX7_leastBehind_0 26 rfl) (Nat.le_of_ble_eq_true rfl) rfl (cl_iinc hG (v4 + 1) (hx_dq tdX7_leastBehind_0 27 rfl) rfl (congrArg (fun z => v4 + z) iconst_1) (Nat.le_of_ble_eq_true rfl) rfl (cl_goto hG 8 (hx_dq tdX7_leastBehind_0 28 rfl) rfl (cl_sub hG (hx_le_c rfl (hx_le_c rfl (hx_le_c rfl (hx_le_c rfl (hx_le_c rfl hx_le_0))))) (ih x_5 (v4 + 1) hw))))
def wX7_leastBehind (μ : hx_M) (v1 : Int32) (v2 : Int32) (K : Int32 → Prop) : Prop := ∃ n8_6, wX7_leastBehind_L8 μ v1 v2 K n8_6 1048576 (v1 + 1)
set_option maxRecDepth 100000 in
set_option maxHeartbeats 4000000 in
theorem kX7_leastBehind {G : hx_GT} {KK : hx_KT} (hG : hx_K cX7_leastBehind 5 0 0 (some .int) TbX7 KK G) (cA : hx_CA RX7 cX7_leastBehind 2 0 0 G) {Λ : hx_L} (hF : cF Λ) {μ : hx_M} (v1 : Int32) (v2 : Int32) {K : Int32 → Prop} (hK : ∀ (r : Int32), K r → KK (some (.int r)) Λ μ) (hw : wX7_leastBehind μ v1 v2 K) : G Λ μ (0, 0) 0 [some (.ref 43), some (.int v1), some (.int v2), none, none] [] := by
  unfold wX7_leastBehind at hw
  refine cl_ldc hG ciX7_71 (hx_dq tdX7_leastBehind_0 0 rfl) (cl_istore_n hG (hx_dq tdX7_leastBehind_0 1 rfl) (Nat.le_of_ble_eq_true rfl) rfl (cl_iload_n hG (hx_dq tdX7_leastBehind_0 2 rfl) rfl (cl_iconst hG 1 (hx_dq tdX7_leastBehind_0 3 rfl) iconst_1 (cl_iadd hG (hx_dq tdX7_leastBehind_0 4 rfl) (cl_istore hG (hx_dq tdX7_leastBehind_0 5 rfl) (Nat.le_of_ble_eq_true rfl) rfl ?_)))))
  obtain ⟨n_, hw⟩ := hw
  refine cl_sub hG (hx_le_c rfl (hx_le_c rfl (hx_le_c rfl (hx_le_c rfl (hx_le_c rfl hx_le_0))))) (kX7_leastBehind_L8 hG cA hF v1 v2 hK n_ 1048576 (v1 + 1) hw)
def sX7_leastBehind : hx_ST := fun Λ μ as KK => cF Λ ∧ ∃ (v1 : Int32) (v2 : Int32) (K : Int32 → Prop), as = [.ref 43, .int v1, .int v2] ∧ wX7_leastBehind μ v1 v2 K ∧ (∀ (r : Int32), K r → KK (some (.int r)) Λ μ)
theorem sX7_leastBehind_mk {Λ : hx_L} {μ : hx_M} {KK : hx_KT} {v1 : Int32} {v2 : Int32} {K : Int32 → Prop} (hF : cF Λ) (hw : wX7_leastBehind μ v1 v2 K) (hk : ∀ (r : Int32), K r → KK (some (.int r)) Λ μ) : sX7_leastBehind Λ μ [.ref 43, .int v1, .int v2] KK := ⟨hF, _, _, _, rfl, hw, hk⟩
theorem conX7_leastBehind : hx_Con yX7_leastBehind cX7_leastBehind 5 (some .int) 2 0 0 sX7_leastBehind := by
  refine hx_con_of (by decide +kernel) tokX7 (by decide) ?_ ?_
  · intro Λ μ as KK h
    obtain ⟨hF, v1, v2, K, rfl, hw, hK⟩ := h
    exact Nat.le_of_ble_eq_true rfl
  · intro G KK hG cA Λ μ as h
    obtain ⟨hF, v1, v2, K, rfl, hw, hK⟩ := h
    exact cl_sub hG (hx_le_c rfl (hx_le_c rfl (hx_le_c rfl (hx_le_n (hx_le_n hx_le_0))))) (kX7_leastBehind hG cA hF _ _ hK hw)
/-! HemLine$Shelf.upTo(I)I -/
def tbX7_upTo_0 : List (Nat × Instr × Nat) := [(0, .iload_n 1, 1), (1, .aload_n 0, 1), (2, .getfield 15, 3), (5, .iload_n 1, 1), (6, .iaload, 1), (7, .imul, 1), (8, .aload_n 0, 1), (9, .getfield 19, 3), (12, .iload_n 1, 1), (13, .iaload, 1), (14, .isub, 1), (15, .ireturn, 1)]
theorem tdX7_upTo_0 : hx_dt cX7_upTo tbX7_upTo_0 = true := by decide +kernel
def wX7_upTo (μ : hx_M) (v1 : Int32) (K : Int32 → Prop) : Prop := vp_in v1 61 ∧ vp_in v1 61 ∧ ∀ x_3 : Int32, x_3 = ((v1 * (μ.1 44 v1.toNatClampNeg)) - (μ.1 45 v1.toNatClampNeg)) → K x_3
set_option maxRecDepth 100000 in
set_option maxHeartbeats 4000000 in
theorem kX7_upTo {G : hx_GT} {KK : hx_KT} (hG : hx_K cX7_upTo 2 0 0 (some .int) TbX7 KK G) (cA : hx_CA RX7 cX7_upTo 1 0 0 G) {Λ : hx_L} (hF : cF Λ) {μ : hx_M} (v1 : Int32) {K : Int32 → Prop} (hK : ∀ (r : Int32), K r → KK (some (.int r)) Λ μ) (hw : wX7_upTo μ v1 K) : G Λ μ (0, 0) 0 [some (.ref 43), some (.int v1)] [] := by
  unfold wX7_upTo at hw
  obtain ⟨i6_1, hw⟩ := hw
  obtain ⟨i13_2, hw⟩ := hw
  refine cl_iload_n hG (hx_dq tdX7_upTo_0 0 rfl) rfl (cl_aload_n hG (hx_dq tdX7_upTo_0 1 rfl) rfl (cl_getS hG fmX7_15 (hx_dq tdX7_upTo_0 2 rfl) (cF_S43 hF) (cF_R43_1 hF) (cl_iload_n hG (hx_dq tdX7_upTo_0 3 rfl) rfl (cl_iald hG (hx_dq tdX7_upTo_0 4 rfl) (cF_S44 hF) i6_1 (cl_imul hG (hx_dq tdX7_upTo_0 5 rfl) (cl_aload_n hG (hx_dq tdX7_upTo_0 6 rfl) rfl (cl_getS hG fmX7_19 (hx_dq tdX7_upTo_0 7 rfl) (cF_S43 hF) (cF_R43_2 hF) (cl_iload_n hG (hx_dq tdX7_upTo_0 8 rfl) rfl (cl_iald hG (hx_dq tdX7_upTo_0 9 rfl) (cF_S45 hF) i13_2 (cl_isub hG (hx_dq tdX7_upTo_0 10 rfl) (cl_nmI (fun x_3 e_3 => ?_))))))))))))
  replace hw := hw x_3 e_3
  exact cl_iret hG (hx_dq tdX7_upTo_0 11 rfl) rfl rfl (hK _ hw) (Nat.le_refl _) (Nat.le_refl _)
def sX7_upTo : hx_ST := fun Λ μ as KK => cF Λ ∧ ∃ (v1 : Int32) (K : Int32 → Prop), as = [.ref 43, .int v1] ∧ wX7_upTo μ v1 K ∧ (∀ (r : Int32), K r → KK (some (.int r)) Λ μ)
theorem sX7_upTo_mk {Λ : hx_L} {μ : hx_M} {KK : hx_KT} {v1 : Int32} {K : Int32 → Prop} (hF : cF Λ) (hw : wX7_upTo μ v1 K) (hk : ∀ (r : Int32), K r → KK (some (.int r)) Λ μ) : sX7_upTo Λ μ [.ref 43, .int v1] KK := ⟨hF, _, _, rfl, hw, hk⟩
theorem conX7_upTo : hx_Con yX7_upTo cX7_upTo 2 (some .int) 1 0 0 sX7_upTo := by
  refine hx_con_of (by decide +kernel) tokX7 (by decide) ?_ ?_
  · intro Λ μ as KK h
    obtain ⟨hF, v1, K, rfl, hw, hK⟩ := h
    exact Nat.le_of_ble_eq_true rfl
  · intro G KK hG cA Λ μ as h
    obtain ⟨hF, v1, K, rfl, hw, hK⟩ := h
    exact cl_sub hG (hx_le_c rfl (hx_le_c rfl hx_le_0)) (kX7_upTo hG cA hF _ hK hw)
/-! HemLine$Shelf.leastFrom(II)I -/
def tbX7_leastFrom_0 : List (Nat × Instr × Nat) := [(0, .bipush 60, 2), (2, .istore_n 3, 1), (3, .ldc 71, 2), (5, .istore 4, 2), (7, .iload_n 1, 1), (8, .iconst 1, 1), (9, .iadd, 1), (10, .istore 5, 2), (12, .iload 5, 2), (14, .bipush 60, 2), (16, .if_icmp .gt 63, 3), (19, .iload_n 1, 1), (20, .iconst (-1), 1), (21, .if_icmp .ne 12, 3), (24, .aload_n 0, 1), (25, .iload 5, 2), (27, .invokevirtual 43, 3), (30, .goto 10, 3), (33, .aload_n 0, 1), (34, .iload_n 1, 1), (35, .iload 5, 2), (37, .invokevirtual 72, 3), (40, .istore 6, 2), (42, .iload 6, 2), (44, .aload_n 0, 1), (45, .getfield 22, 3), (48, .iload_n 2, 1), (49, .bipush 61, 2), (51, .imul, 1), (52, .iload 5, 2), (54, .iadd, 1), (55, .iaload, 1)]
def tbX7_leastFrom_1 : List (Nat × Instr × Nat) := [(56, .iadd, 1), (57, .istore 7, 2), (59, .iload 7, 2), (61, .iload 4, 2), (63, .if_icmp .ge 10, 3), (66, .iload 7, 2), (68, .istore 4, 2), (70, .iload 5, 2), (72, .istore_n 3, 1), (73, .iinc 5 1, 3), (76, .goto (-64), 3), (79, .iload_n 3, 1), (80, .ireturn, 1)]
theorem tdX7_leastFrom_0 : hx_dt cX7_leastFrom tbX7_leastFrom_0 = true := by decide +kernel
theorem tdX7_leastFrom_1 : hx_dt cX7_leastFrom tbX7_leastFrom_1 = true := by decide +kernel
theorem caX7_leastFrom_43 {G : hx_GT} (cA : hx_CA RX7 cX7_leastFrom 2 0 0 G) : hx_CV cX7_leastFrom G 0 0 43 7 1 sX7_upTo 0 0 := cA.1 conX7_upTo rfl rfl ⟨by decide +kernel, by decide +kernel, by decide +kernel⟩ mw_1067 mw_1069 mw_35 mw_96 mw_1070 (by decide) (by decide)
theorem caX7_leastFrom_72 {G : hx_GT} (cA : hx_CA RX7 cX7_leastFrom 2 0 0 G) : hx_CV cX7_leastFrom G 0 0 72 7 2 sX7_between 0 0 := cA.1 conX7_between rfl rfl ⟨by decide +kernel, by decide +kernel, by decide +kernel⟩ mw_1058 mw_1060 mw_33 mw_96 mw_1061 (by decide) (by decide)
def wX7_leastFrom_J73 (μ : hx_M) (K : Int32 → Prop) (K12 : Int32 → Int32 → Int32 → Prop) (v1 : Int32) (v2 : Int32) (v3 : Int32) (v4 : Int32) (v5 : Int32)   : Prop := K12 v3 v4 (v5 + 1)
set_option maxRecDepth 100000 in
set_option maxHeartbeats 4000000 in
theorem kX7_leastFrom_J73 {G : hx_GT} {KK : hx_KT} (hG : hx_K cX7_leastFrom 8 0 0 (some .int) TbX7 KK G) (cA : hx_CA RX7 cX7_leastFrom 2 0 0 G) {Λ : hx_L} (hF : cF Λ) {μ : hx_M} (v1 : Int32) (v2 : Int32) (v3 : Int32) (v4 : Int32) (v5 : Int32)  {K : Int32 → Prop} (hK : ∀ (r : Int32), K r → KK (some (.int r)) Λ μ) {K12 : Int32 → Int32 → Int32 → Prop} (hk12 : ∀ (v3 : Int32) (v4 : Int32) (v5 : Int32), K12 v3 v4 v5 → G Λ μ (0, 0) 12 [some (.ref 43), some (.int v1), some (.int v2), some (.int v3), some (.int v4), some (.int v5), none, none] []) (hw : wX7_leastFrom_J73 μ K K12 v1 v2 v3 v4 v5) : G Λ μ (0, 0) 73 [some (.ref 43), some (.int v1), some (.int v2), some (.int v3), some (.int v4), some (.int v5), none, none] [] := by
  unfold wX7_leastFrom_J73 at hw
  exact cl_iinc hG (v5 + 1) (hx_dq tdX7_leastFrom_1 9 rfl) rfl (congrArg (fun z => v5 + z) iconst_1) (Nat.le_of_ble_eq_true rfl) rfl (cl_goto hG 12 (hx_dq tdX7_leastFrom_1 10 rfl) rfl (cl_sub hG (hx_le_c rfl (hx_le_c rfl (hx_le_c rfl (hx_le_c rfl (hx_le_c rfl (hx_le_c rfl (hx_le_n (hx_le_n hx_le_0)))))))) (hk12 v3 v4 (v5 + 1) hw)))
def wX7_leastFrom_J40 (μ : hx_M) (K : Int32 → Prop) (K12 : Int32 → Int32 → Int32 → Prop) (v1 : Int32) (v2 : Int32) (v3 : Int32) (v4 : Int32) (v5 : Int32) (t0 : Int32)  : Prop := vp_in ((v2 * 61) + v5) 366 ∧ ∀ x_4 : Int32, x_4 = (t0 + ((μ.1 46 (((v2 * 61) + v5).toNatClampNeg)))) → (v4 ≤ x_4 → (wX7_leastFrom_J73 μ K (K12) v1 v2 v3 v4 v5)) ∧ (¬ (v4 ≤ x_4) → (wX7_leastFrom_J73 μ K (K12) v1 v2 v5 x_4 v5))
set_option maxRecDepth 100000 in
set_option maxHeartbeats 4000000 in
theorem kX7_leastFrom_J40 {G : hx_GT} {KK : hx_KT} (hG : hx_K cX7_leastFrom 8 0 0 (some .int) TbX7 KK G) (cA : hx_CA RX7 cX7_leastFrom 2 0 0 G) {Λ : hx_L} (hF : cF Λ) {μ : hx_M} (v1 : Int32) (v2 : Int32) (v3 : Int32) (v4 : Int32) (v5 : Int32) (t0 : Int32) {K : Int32 → Prop} (hK : ∀ (r : Int32), K r → KK (some (.int r)) Λ μ) {K12 : Int32 → Int32 → Int32 → Prop} (hk12 : ∀ (v3 : Int32) (v4 : Int32) (v5 : Int32), K12 v3 v4 v5 → G Λ μ (0, 0) 12 [some (.ref 43), some (.int v1), some (.int v2), some (.int v3), some (.int v4), some (.int v5), none, none] []) (hw : wX7_leastFrom_J40 μ K K12 v1 v2 v3 v4 v5 t0) : G Λ μ (0, 0) 40 [some (.ref 43), some (.int v1), some (.int v2), some (.int v3), some (.int v4), some (.int v5), none, none] [.int t0] := by
  unfold wX7_leastFrom_J40 at hw
  obtain ⟨i55_3, hw⟩ := hw
  refine cl_istore hG (hx_dq tdX7_leastFrom_0 22 rfl) (Nat.le_of_ble_eq_true rfl) rfl (cl_iload hG (hx_dq tdX7_leastFrom_0 23 rfl) rfl (cl_aload_n hG (hx_dq tdX7_leastFrom_0 24 rfl) rfl (cl_getS hG fmX7_22 (hx_dq tdX7_leastFrom_0 25 rfl) (cF_S43 hF) (cF_R43_3 hF) (cl_iload_n hG (hx_dq tdX7_leastFrom_0 26 rfl) rfl (cl_bipush hG 61 (hx_dq tdX7_leastFrom_0 27 rfl) bipush_61 (cl_imul hG (hx_dq tdX7_leastFrom_0 28 rfl) (cl_iload hG (hx_dq tdX7_leastFrom_0 29 rfl) rfl (cl_iadd hG (hx_dq tdX7_leastFrom_0 30 rfl) (cl_iald hG (hx_dq tdX7_leastFrom_0 31 rfl) (cF_S46 hF) i55_3 (cl_iadd hG (hx_dq tdX7_leastFrom_1 0 rfl) (cl_nmI (fun x_4 e_4 => ?_))))))))))))
  replace hw := hw x_4 e_4
  refine cl_istore hG (hx_dq tdX7_leastFrom_1 1 rfl) (Nat.le_of_ble_eq_true rfl) rfl (cl_iload hG (hx_dq tdX7_leastFrom_1 2 rfl) rfl (cl_iload hG (hx_dq tdX7_leastFrom_1 3 rfl) rfl (cl_icmp_ge hG 73 (hx_dq tdX7_leastFrom_1 4 rfl) rfl (fun c63 => ?_) (fun c63 => ?_))))
  · replace hw := hw.1 c63
    exact cl_sub hG (hx_le_c rfl (hx_le_c rfl (hx_le_c rfl (hx_le_c rfl (hx_le_c rfl (hx_le_c rfl (hx_le_n (hx_le_n hx_le_0)))))))) (kX7_leastFrom_J73 hG cA hF v1 v2 v3 v4 v5 hK (fun z0 z1 z2 hw => hk12 z0 z1 z2 hw) hw)
  · replace hw := hw.2 c63
    refine cl_iload hG (hx_dq tdX7_leastFrom_1 5 rfl) rfl (cl_istore hG (hx_dq tdX7_leastFrom_1 6 rfl) (Nat.le_of_ble_eq_true rfl) rfl (cl_iload hG (hx_dq tdX7_leastFrom_1 7 rfl) rfl (cl_istore_n hG (hx_dq tdX7_leastFrom_1 8 rfl) (Nat.le_of_ble_eq_true rfl) rfl ?_)))
    exact cl_sub hG (hx_le_c rfl (hx_le_c rfl (hx_le_c rfl (hx_le_c rfl (hx_le_c rfl (hx_le_c rfl (hx_le_n (hx_le_n hx_le_0)))))))) (kX7_leastFrom_J73 hG cA hF v1 v2 v5 x_4 v5 hK (fun z0 z1 z2 hw => hk12 z0 z1 z2 hw) hw)
def wX7_leastFrom_L12 (μ : hx_M) (v1 : Int32) (v2 : Int32) (K : Int32 → Prop)  : Nat → Int32 → Int32 → Int32 → Prop
  | 0, _, _, _ => False
  | n + 1, v3, v4, v5 => (60 < v5 → (K v3)) ∧ (¬ (60 < v5) → ((v1 ≠ (-1) → (wX7_between μ v1 v5 (fun r37_2 => wX7_leastFrom_J40 μ K (wX7_leastFrom_L12 μ v1 v2 K n) v1 v2 v3 v4 v5 r37_2))) ∧ (v1 = (-1) → (wX7_upTo μ v5 (fun r27_6 => wX7_leastFrom_J40 μ K (wX7_leastFrom_L12 μ v1 v2 K n) v1 v2 v3 v4 v5 r27_6)))))
set_option maxRecDepth 100000 in
set_option maxHeartbeats 4000000 in
theorem kX7_leastFrom_L12 {G : hx_GT} {KK : hx_KT} (hG : hx_K cX7_leastFrom 8 0 0 (some .int) TbX7 KK G) (cA : hx_CA RX7 cX7_leastFrom 2 0 0 G) {Λ : hx_L} (hF : cF Λ) {μ : hx_M} (v1 : Int32) (v2 : Int32) {K : Int32 → Prop} (hK : ∀ (r : Int32), K r → KK (some (.int r)) Λ μ)  : ∀ (n : Nat) (v3 : Int32) (v4 : Int32) (v5 : Int32), wX7_leastFrom_L12 μ v1 v2 K n v3 v4 v5 → G Λ μ (0, 0) 12 [some (.ref 43), some (.int v1), some (.int v2), some (.int v3), some (.int v4), some (.int v5), none, none] [] := by
  intro n
  induction n with
  | zero =>
    intro v3 v4 v5 hw
    exact False.elim (by simpa only [wX7_leastFrom_L12] using hw)
  | succ n ih =>
    intro v3 v4 v5 hw
    unfold wX7_leastFrom_L12 at hw
    refine cl_iload hG (hx_dq tdX7_leastFrom_0 8 rfl) rfl (cl_bipush hG 60 (hx_dq tdX7_leastFrom_0 9 rfl) bipush_60 (cl_icmp_gt hG 79 (hx_dq tdX7_leastFrom_0 10 rfl) rfl (fun c16 => ?_) (fun c16 => ?_)))
    · replace hw := hw.1 c16
      exact cl_iload_n hG (hx_dq tdX7_leastFrom_1 11 rfl) rfl (cl_iret hG (hx_dq tdX7_leastFrom_1 12 rfl) rfl rfl (hK _ hw) (Nat.le_refl _) (Nat.le_refl _))
    · replace hw := hw.2 c16
      refine cl_iload_n hG (hx_dq tdX7_leastFrom_0 11 rfl) rfl (cl_iconst hG (-1) (hx_dq tdX7_leastFrom_0 12 rfl) iconst_m1 (cl_icmp_ne hG 33 (hx_dq tdX7_leastFrom_0 13 rfl) rfl (fun c21 => ?_) (fun c21 => ?_)))
      · replace hw := hw.1 c21
        refine cl_aload_n hG (hx_dq tdX7_leastFrom_0 18 rfl) rfl (cl_iload_n hG (hx_dq tdX7_leastFrom_0 19 rfl) rfl (cl_iload hG (hx_dq tdX7_leastFrom_0 20 rfl) rfl (cl_callV2 (caX7_leastFrom_72 cA) (hx_dq tdX7_leastFrom_0 21 rfl) (cF_S43 hF) (Nat.le_of_ble_eq_true rfl) (Nat.le_refl _) (Nat.le_refl _) (sX7_between_mk hF hw (fun r37_2 hw => ?_)))))
        exact cl_sub hG (hx_le_c rfl (hx_le_c rfl (hx_le_c rfl (hx_le_c rfl (hx_le_c rfl (hx_le_c rfl (hx_le_n (hx_le_n hx_le_0)))))))) (kX7_leastFrom_J40 hG cA hF v1 v2 v3 v4 v5 r37_2 hK (fun z0 z1 z2 hw => ih z0 z1 z2 hw) hw)
      · replace hw := hw.2 c21
        refine cl_aload_n hG (hx_dq tdX7_leastFrom_0 14 rfl) rfl (cl_iload hG (hx_dq tdX7_leastFrom_0 15 rfl) rfl (cl_callV1 (caX7_leastFrom_43 cA) (hx_dq tdX7_leastFrom_0 16 rfl) (cF_S43 hF) (Nat.le_of_ble_eq_true rfl) (Nat.le_refl _) (Nat.le_refl _) (sX7_upTo_mk hF hw (fun r27_6 hw => ?_))))
        refine cl_goto hG 40 (hx_dq tdX7_leastFrom_0 17 rfl) rfl ?_
        exact cl_sub hG (hx_le_c rfl (hx_le_c rfl (hx_le_c rfl (hx_le_c rfl (hx_le_c rfl (hx_le_c rfl (hx_le_n (hx_le_n hx_le_0)))))))) (kX7_leastFrom_J40 hG cA hF v1 v2 v3 v4 v5 r27_6 hK (fun z0 z1 z2 hw => ih z0 z1 z2 hw) hw)
def wX7_leastFrom (μ : hx_M) (v1 : Int32) (v2 : Int32) (K : Int32 → Prop) : Prop := ∃ n12_7, wX7_leastFrom_L12 μ v1 v2 K n12_7 60 1048576 (v1 + 1)
set_option maxRecDepth 100000 in
set_option maxHeartbeats 4000000 in
theorem kX7_leastFrom {G : hx_GT} {KK : hx_KT} (hG : hx_K cX7_leastFrom 8 0 0 (some .int) TbX7 KK G) (cA : hx_CA RX7 cX7_leastFrom 2 0 0 G) {Λ : hx_L} (hF : cF Λ) {μ : hx_M} (v1 : Int32) (v2 : Int32) {K : Int32 → Prop} (hK : ∀ (r : Int32), K r → KK (some (.int r)) Λ μ) (hw : wX7_leastFrom μ v1 v2 K) : G Λ μ (0, 0) 0 [some (.ref 43), some (.int v1), some (.int v2), none, none, none, none, none] [] := by
  unfold wX7_leastFrom at hw
  refine cl_bipush hG 60 (hx_dq tdX7_leastFrom_0 0 rfl) bipush_60 (cl_istore_n hG (hx_dq tdX7_leastFrom_0 1 rfl) (Nat.le_of_ble_eq_true rfl) rfl (cl_ldc hG ciX7_71 (hx_dq tdX7_leastFrom_0 2 rfl) (cl_istore hG (hx_dq tdX7_leastFrom_0 3 rfl) (Nat.le_of_ble_eq_true rfl) rfl (cl_iload_n hG (hx_dq tdX7_leastFrom_0 4 rfl) rfl (cl_iconst hG 1 (hx_dq tdX7_leastFrom_0 5 rfl) iconst_1 (cl_iadd hG (hx_dq tdX7_leastFrom_0 6 rfl) (cl_istore hG (hx_dq tdX7_leastFrom_0 7 rfl) (Nat.le_of_ble_eq_true rfl) rfl ?_)))))))
  obtain ⟨n_, hw⟩ := hw
  refine cl_sub hG (hx_le_c rfl (hx_le_c rfl (hx_le_c rfl (hx_le_c rfl (hx_le_c rfl (hx_le_c rfl (hx_le_n (hx_le_n hx_le_0)))))))) (kX7_leastFrom_L12 hG cA hF v1 v2 hK n_ 60 1048576 (v1 + 1) hw)
def sX7_leastFrom : hx_ST := fun Λ μ as KK => cF Λ ∧ ∃ (v1 : Int32) (v2 : Int32) (K : Int32 → Prop), as = [.ref 43, .int v1, .int v2] ∧ wX7_leastFrom μ v1 v2 K ∧ (∀ (r : Int32), K r → KK (some (.int r)) Λ μ)
theorem sX7_leastFrom_mk {Λ : hx_L} {μ : hx_M} {KK : hx_KT} {v1 : Int32} {v2 : Int32} {K : Int32 → Prop} (hF : cF Λ) (hw : wX7_leastFrom μ v1 v2 K) (hk : ∀ (r : Int32), K r → KK (some (.int r)) Λ μ) : sX7_leastFrom Λ μ [.ref 43, .int v1, .int v2] KK := ⟨hF, _, _, _, rfl, hw, hk⟩
theorem conX7_leastFrom : hx_Con yX7_leastFrom cX7_leastFrom 8 (some .int) 2 0 0 sX7_leastFrom := by
  refine hx_con_of (by decide +kernel) tokX7 (by decide) ?_ ?_
  · intro Λ μ as KK h
    obtain ⟨hF, v1, v2, K, rfl, hw, hK⟩ := h
    exact Nat.le_of_ble_eq_true rfl
  · intro G KK hG cA Λ μ as h
    obtain ⟨hF, v1, v2, K, rfl, hw, hK⟩ := h
    exact cl_sub hG (hx_le_c rfl (hx_le_c rfl (hx_le_c rfl (hx_le_n (hx_le_n (hx_le_n (hx_le_n (hx_le_n hx_le_0)))))))) (kX7_leastFrom hG cA hF _ _ hK hw)
/-! HemLine$Shelf.order(I)V -/
def tbX7_order_0 : List (Nat × Instr × Nat) := [(0, .iconst 0, 1), (1, .istore_n 2, 1), (2, .iload_n 2, 1), (3, .iload_n 1, 1), (4, .if_icmp .ge 52, 3), (7, .iconst 0, 1), (8, .istore_n 3, 1), (9, .iload_n 3, 1), (10, .bipush 60, 2), (12, .if_icmp .gt 38, 3), (15, .aload_n 0, 1), (16, .getfield 22, 3), (19, .iload_n 2, 1), (20, .bipush 61, 2), (22, .imul, 1), (23, .iload_n 3, 1), (24, .iadd, 1), (25, .iload_n 2, 1), (26, .ifCond .ne 11, 3), (29, .aload_n 0, 1), (30, .iload_n 3, 1), (31, .invokevirtual 32, 3), (34, .goto 9, 3), (37, .aload_n 0, 1), (38, .iload_n 3, 1), (39, .iload_n 2, 1), (40, .invokevirtual 36, 3), (43, .iastore, 1), (44, .iinc 3 1, 3), (47, .goto (-38), 3), (50, .iinc 2 1, 3), (53, .goto (-51), 3)]
def tbX7_order_1 : List (Nat × Instr × Nat) := [(56, .aload_n 0, 1), (57, .iconst (-1), 1), (58, .iload_n 1, 1), (59, .iconst 1, 1), (60, .isub, 1), (61, .invokevirtual 40, 3), (64, .istore_n 2, 1), (65, .aload_n 0, 1), (66, .aload_n 0, 1), (67, .iload_n 2, 1), (68, .invokevirtual 43, 3), (71, .aload_n 0, 1), (72, .getfield 22, 3), (75, .iload_n 1, 1), (76, .iconst 1, 1), (77, .isub, 1), (78, .bipush 61, 2), (80, .imul, 1), (81, .iload_n 2, 1), (82, .iadd, 1), (83, .iaload, 1), (84, .iadd, 1), (85, .putfield 28, 3), (88, .aload_n 0, 1), (89, .getfield 25, 3), (92, .iconst 0, 1), (93, .iload_n 2, 1), (94, .iastore, 1), (95, .iconst 1, 1), (96, .istore_n 3, 1), (97, .iload_n 3, 1), (98, .iload_n 1, 1)]
def tbX7_order_2 : List (Nat × Instr × Nat) := [(99, .if_icmp .ge 27, 3), (102, .aload_n 0, 1), (103, .iload_n 2, 1), (104, .iload_n 1, 1), (105, .iconst 1, 1), (106, .isub, 1), (107, .iload_n 3, 1), (108, .isub, 1), (109, .invokevirtual 40, 3), (112, .istore_n 2, 1), (113, .aload_n 0, 1), (114, .getfield 25, 3), (117, .iload_n 3, 1), (118, .iload_n 2, 1), (119, .iastore, 1), (120, .iinc 3 1, 3), (123, .goto (-26), 3), (126, .return_, 1)]
theorem tdX7_order_0 : hx_dt cX7_order tbX7_order_0 = true := by decide +kernel
theorem tdX7_order_1 : hx_dt cX7_order tbX7_order_1 = true := by decide +kernel
theorem tdX7_order_2 : hx_dt cX7_order tbX7_order_2 = true := by decide +kernel
theorem caX7_order_32 {G : hx_GT} (cA : hx_CA RX7 cX7_order 3 0 0 G) : hx_CV cX7_order G 0 0 32 7 1 sX7_beyond 0 0 := cA.1 conX7_beyond rfl rfl ⟨by decide +kernel, by decide +kernel, by decide +kernel⟩ mw_1049 mw_1051 mw_31 mw_96 mw_1052 (by decide) (by decide)
theorem caX7_order_36 {G : hx_GT} (cA : hx_CA RX7 cX7_order 3 0 0 G) : hx_CV cX7_order G 0 0 36 7 2 sX7_leastBehind 0 0 := cA.1 conX7_leastBehind rfl rfl ⟨by decide +kernel, by decide +kernel, by decide +kernel⟩ mw_1053 mw_1055 mw_32 mw_96 mw_1056 (by decide) (by decide)
theorem caX7_order_40 {G : hx_GT} (cA : hx_CA RX7 cX7_order 3 0 0 G) : hx_CV cX7_order G 0 0 40 7 2 sX7_leastFrom 0 0 := cA.1 conX7_leastFrom rfl rfl ⟨by decide +kernel, by decide +kernel, by decide +kernel⟩ mw_1063 mw_1065 mw_34 mw_96 mw_1066 (by decide) (by decide)
theorem caX7_order_43 {G : hx_GT} (cA : hx_CA RX7 cX7_order 3 0 0 G) : hx_CV cX7_order G 0 0 43 7 1 sX7_upTo 0 0 := cA.1 conX7_upTo rfl rfl ⟨by decide +kernel, by decide +kernel, by decide +kernel⟩ mw_1067 mw_1069 mw_35 mw_96 mw_1070 (by decide) (by decide)
def wX7_order_J43  (K : hx_M → Prop) (K9 : Int32 → hx_M → Prop) (v1 : Int32) (v2 : Int32) (v3 : Int32) (t1 : Int32) (t2 : Int32) (μ : hx_M) : Prop := vp_in t1 366 ∧ K9 (v3 + 1) (hx_sI μ 46 t1.toNatClampNeg t2)
set_option maxRecDepth 100000 in
set_option maxHeartbeats 4000000 in
theorem kX7_order_J43 {G : hx_GT} {KK : hx_KT} (hG : hx_K cX7_order 4 0 0 (none) TbX7 KK G) (cA : hx_CA RX7 cX7_order 3 0 0 G) {Λ : hx_L} (hF : cF Λ) {μ : hx_M} (v1 : Int32) (v2 : Int32) (v3 : Int32) (t1 : Int32) (t2 : Int32) {K : hx_M → Prop} (hK : ∀ (m : hx_M), K m → KK none Λ m) {K9 : Int32 → hx_M → Prop} (hk9 : ∀ (v3 : Int32) (μ : hx_M), K9 v3 μ → G Λ μ (0, 0) 9 [some (.ref 43), some (.int v1), some (.int v2), some (.int v3)] []) (hw : wX7_order_J43 K K9 v1 v2 v3 t1 t2 μ) : G Λ μ (0, 0) 43 [some (.ref 43), some (.int v1), some (.int v2), some (.int v3)] [.int t2, .int t1, .ref 46] := by
  unfold wX7_order_J43 at hw
  obtain ⟨i43_3, hw⟩ := hw
  exact cl_iast hG (hx_dq tdX7_order_0 27 rfl) (cF_S46 hF) i43_3 (cl_iinc hG (v3 + 1) (hx_dq tdX7_order_0 28 rfl) rfl (congrArg (fun z => v3 + z) iconst_1) (Nat.le_of_ble_eq_true rfl) rfl (cl_goto hG 9 (hx_dq tdX7_order_0 29 rfl) rfl (cl_sub hG (hx_le_c rfl (hx_le_c rfl (hx_le_c rfl (hx_le_c rfl hx_le_0)))) (hk9 (v3 + 1) _ hw))))
def wX7_order_L9 (v1 : Int32) (v2 : Int32) (K : hx_M → Prop) (K50 : hx_M → Prop) : Nat → Int32 → hx_M → Prop
  | 0, _, _ => False
  | n + 1, v3, μ => (60 < v3 → (K50 μ)) ∧ (¬ (60 < v3) → ((v2 ≠ 0 → (wX7_leastBehind μ v3 v2 (fun r40_2 => wX7_order_J43 K (wX7_order_L9 v1 v2 K K50 n) v1 v2 v3 ((v2 * 61) + v3) r40_2 μ))) ∧ (v2 = 0 → (wX7_beyond μ v3 (fun r31_5 => wX7_order_J43 K (wX7_order_L9 v1 v2 K K50 n) v1 v2 v3 ((v2 * 61) + v3) r31_5 μ)))))
set_option maxRecDepth 100000 in
set_option maxHeartbeats 4000000 in
theorem kX7_order_L9 {G : hx_GT} {KK : hx_KT} (hG : hx_K cX7_order 4 0 0 (none) TbX7 KK G) (cA : hx_CA RX7 cX7_order 3 0 0 G) {Λ : hx_L} (hF : cF Λ)  (v1 : Int32) (v2 : Int32) {K : hx_M → Prop} (hK : ∀ (m : hx_M), K m → KK none Λ m) {K50 : hx_M → Prop} (hk50 : ∀ (μ : hx_M), K50 μ → G Λ μ (0, 0) 50 [some (.ref 43), some (.int v1), some (.int v2), none] []) : ∀ (n : Nat) (v3 : Int32) (μ : hx_M), wX7_order_L9 v1 v2 K K50 n v3 μ → G Λ μ (0, 0) 9 [some (.ref 43), some (.int v1), some (.int v2), some (.int v3)] [] := by
  intro n
  induction n with
  | zero =>
    intro v3 μ hw
    exact False.elim (by simpa only [wX7_order_L9] using hw)
  | succ n ih =>
    intro v3 μ hw
    unfold wX7_order_L9 at hw
    refine cl_iload_n hG (hx_dq tdX7_order_0 7 rfl) rfl (cl_bipush hG 60 (hx_dq tdX7_order_0 8 rfl) bipush_60 (cl_icmp_gt hG 50 (hx_dq tdX7_order_0 9 rfl) rfl (fun c12 => ?_) (fun c12 => ?_)))
    · replace hw := hw.1 c12
      exact cl_sub hG (hx_le_c rfl (hx_le_c rfl (hx_le_c rfl (hx_le_n hx_le_0)))) (hk50 _ hw)
    · replace hw := hw.2 c12
      refine cl_aload_n hG (hx_dq tdX7_order_0 10 rfl) rfl (cl_getS hG fmX7_22 (hx_dq tdX7_order_0 11 rfl) (cF_S43 hF) (cF_R43_3 hF) (cl_iload_n hG (hx_dq tdX7_order_0 12 rfl) rfl (cl_bipush hG 61 (hx_dq tdX7_order_0 13 rfl) bipush_61 (cl_imul hG (hx_dq tdX7_order_0 14 rfl) (cl_iload_n hG (hx_dq tdX7_order_0 15 rfl) rfl (cl_iadd hG (hx_dq tdX7_order_0 16 rfl) (cl_iload_n hG (hx_dq tdX7_order_0 17 rfl) rfl (cl_if_ne hG 37 (hx_dq tdX7_order_0 18 rfl) rfl (fun c26 => ?_) (fun c26 => ?_)))))))))
      · replace hw := hw.1 c26
        refine cl_aload_n hG (hx_dq tdX7_order_0 23 rfl) rfl (cl_iload_n hG (hx_dq tdX7_order_0 24 rfl) rfl (cl_iload_n hG (hx_dq tdX7_order_0 25 rfl) rfl (cl_callV2 (caX7_order_36 cA) (hx_dq tdX7_order_0 26 rfl) (cF_S43 hF) (Nat.le_of_ble_eq_true rfl) (Nat.le_refl _) (Nat.le_refl _) (sX7_leastBehind_mk hF hw (fun r40_2 hw => ?_)))))
        exact cl_sub hG (hx_le_c rfl (hx_le_c rfl (hx_le_c rfl (hx_le_c rfl hx_le_0)))) (kX7_order_J43 hG cA hF v1 v2 v3 ((v2 * 61) + v3) r40_2 hK (fun z0 z1 hw => ih z0 z1 hw) hw)
      · replace hw := hw.2 c26
        refine cl_aload_n hG (hx_dq tdX7_order_0 19 rfl) rfl (cl_iload_n hG (hx_dq tdX7_order_0 20 rfl) rfl (cl_callV1 (caX7_order_32 cA) (hx_dq tdX7_order_0 21 rfl) (cF_S43 hF) (Nat.le_of_ble_eq_true rfl) (Nat.le_refl _) (Nat.le_refl _) (sX7_beyond_mk hF hw (fun r31_5 hw => ?_))))
        refine cl_goto hG 43 (hx_dq tdX7_order_0 22 rfl) rfl ?_
        exact cl_sub hG (hx_le_c rfl (hx_le_c rfl (hx_le_c rfl (hx_le_c rfl hx_le_0)))) (kX7_order_J43 hG cA hF v1 v2 v3 ((v2 * 61) + v3) r31_5 hK (fun z0 z1 hw => ih z0 z1 hw) hw)
def wX7_order_L2 (v1 : Int32) (K : hx_M → Prop) (K56 : hx_M → Prop) : Nat → Int32 → hx_M → Prop
  | 0, _, _ => False
  | n + 1, v2, μ => (v1 ≤ v2 → (K56 μ)) ∧ (¬ (v1 ≤ v2) → (∃ n9_7, wX7_order_L9 v1 v2 K (fun m_6 => wX7_order_L2 v1 K K56 n (v2 + 1) m_6) n9_7 0 μ))
set_option maxRecDepth 100000 in
set_option maxHeartbeats 4000000 in
theorem kX7_order_L2 {G : hx_GT} {KK : hx_KT} (hG : hx_K cX7_order 4 0 0 (none) TbX7 KK G) (cA : hx_CA RX7 cX7_order 3 0 0 G) {Λ : hx_L} (hF : cF Λ)  (v1 : Int32) {K : hx_M → Prop} (hK : ∀ (m : hx_M), K m → KK none Λ m) {K56 : hx_M → Prop} (hk56 : ∀ (μ : hx_M), K56 μ → G Λ μ (0, 0) 56 [some (.ref 43), some (.int v1), none, none] []) : ∀ (n : Nat) (v2 : Int32) (μ : hx_M), wX7_order_L2 v1 K K56 n v2 μ → G Λ μ (0, 0) 2 [some (.ref 43), some (.int v1), some (.int v2), none] [] := by
  intro n
  induction n with
  | zero =>
    intro v2 μ hw
    exact False.elim (by simpa only [wX7_order_L2] using hw)
  | succ n ih =>
    intro v2 μ hw
    unfold wX7_order_L2 at hw
    refine cl_iload_n hG (hx_dq tdX7_order_0 2 rfl) rfl (cl_iload_n hG (hx_dq tdX7_order_0 3 rfl) rfl (cl_icmp_ge hG 56 (hx_dq tdX7_order_0 4 rfl) rfl (fun c4 => ?_) (fun c4 => ?_)))
    · replace hw := hw.1 c4
      exact cl_sub hG (hx_le_c rfl (hx_le_c rfl (hx_le_n (hx_le_n hx_le_0)))) (hk56 _ hw)
    · replace hw := hw.2 c4
      refine cl_iconst hG 0 (hx_dq tdX7_order_0 5 rfl) iconst_0 (cl_istore_n hG (hx_dq tdX7_order_0 6 rfl) (Nat.le_of_ble_eq_true rfl) rfl ?_)
      obtain ⟨n_, hw⟩ := hw
      refine cl_sub hG (hx_le_c rfl (hx_le_c rfl (hx_le_c rfl (hx_le_c rfl hx_le_0)))) (kX7_order_L9 hG cA hF v1 v2 hK (fun m_6 hw => ?_) n_ 0 _ hw)
      · exact cl_iinc hG (v2 + 1) (hx_dq tdX7_order_0 30 rfl) rfl (congrArg (fun z => v2 + z) iconst_1) (Nat.le_of_ble_eq_true rfl) rfl (cl_goto hG 2 (hx_dq tdX7_order_0 31 rfl) rfl (cl_sub hG (hx_le_c rfl (hx_le_c rfl (hx_le_c rfl (hx_le_n hx_le_0)))) (ih (v2 + 1) _ hw)))
def wX7_order_L97 (v1 : Int32) (K : hx_M → Prop)  : Nat → Int32 → Int32 → hx_M → Prop
  | 0, _, _, _ => False
  | n + 1, v2, v3, μ => (v1 ≤ v3 → (K μ)) ∧ (¬ (v1 ≤ v3) → (wX7_leastFrom μ v2 ((v1 - 1) - v3) (fun r109_17 => vp_in v3 6 ∧ wX7_order_L97 v1 K n r109_17 (v3 + 1) (hx_sI μ 47 v3.toNatClampNeg r109_17))))
set_option maxRecDepth 100000 in
set_option maxHeartbeats 4000000 in
theorem kX7_order_L97 {G : hx_GT} {KK : hx_KT} (hG : hx_K cX7_order 4 0 0 (none) TbX7 KK G) (cA : hx_CA RX7 cX7_order 3 0 0 G) {Λ : hx_L} (hF : cF Λ)  (v1 : Int32) {K : hx_M → Prop} (hK : ∀ (m : hx_M), K m → KK none Λ m)  : ∀ (n : Nat) (v2 : Int32) (v3 : Int32) (μ : hx_M), wX7_order_L97 v1 K n v2 v3 μ → G Λ μ (0, 0) 97 [some (.ref 43), some (.int v1), some (.int v2), some (.int v3)] [] := by
  intro n
  induction n with
  | zero =>
    intro v2 v3 μ hw
    exact False.elim (by simpa only [wX7_order_L97] using hw)
  | succ n ih =>
    intro v2 v3 μ hw
    unfold wX7_order_L97 at hw
    refine cl_iload_n hG (hx_dq tdX7_order_1 30 rfl) rfl (cl_iload_n hG (hx_dq tdX7_order_1 31 rfl) rfl (cl_icmp_ge hG 126 (hx_dq tdX7_order_2 0 rfl) rfl (fun c99 => ?_) (fun c99 => ?_)))
    · replace hw := hw.1 c99
      exact cl_vret hG (hx_dq tdX7_order_2 17 rfl) rfl (hK _ hw) (Nat.le_refl _) (Nat.le_refl _)
    · replace hw := hw.2 c99
      refine cl_aload_n hG (hx_dq tdX7_order_2 1 rfl) rfl (cl_iload_n hG (hx_dq tdX7_order_2 2 rfl) rfl (cl_iload_n hG (hx_dq tdX7_order_2 3 rfl) rfl (cl_iconst hG 1 (hx_dq tdX7_order_2 4 rfl) iconst_1 (cl_isub hG (hx_dq tdX7_order_2 5 rfl) (cl_iload_n hG (hx_dq tdX7_order_2 6 rfl) rfl (cl_isub hG (hx_dq tdX7_order_2 7 rfl) (cl_callV2 (caX7_order_40 cA) (hx_dq tdX7_order_2 8 rfl) (cF_S43 hF) (Nat.le_of_ble_eq_true rfl) (Nat.le_refl _) (Nat.le_refl _) (sX7_leastFrom_mk hF hw (fun r109_17 hw => ?_)))))))))
      obtain ⟨i119_18, hw⟩ := hw
      exact cl_istore_n hG (hx_dq tdX7_order_2 9 rfl) (Nat.le_of_ble_eq_true rfl) rfl (cl_aload_n hG (hx_dq tdX7_order_2 10 rfl) rfl (cl_getS hG fmX7_25 (hx_dq tdX7_order_2 11 rfl) (cF_S43 hF) (cF_R43_4 hF) (cl_iload_n hG (hx_dq tdX7_order_2 12 rfl) rfl (cl_iload_n hG (hx_dq tdX7_order_2 13 rfl) rfl (cl_iast hG (hx_dq tdX7_order_2 14 rfl) (cF_S47 hF) i119_18 (cl_iinc hG (v3 + 1) (hx_dq tdX7_order_2 15 rfl) rfl (congrArg (fun z => v3 + z) iconst_1) (Nat.le_of_ble_eq_true rfl) rfl (cl_goto hG 97 (hx_dq tdX7_order_2 16 rfl) rfl (cl_sub hG (hx_le_c rfl (hx_le_c rfl (hx_le_c rfl (hx_le_c rfl hx_le_0)))) (ih r109_17 (v3 + 1) _ hw)))))))))
def wX7_order (μ : hx_M) (v1 : Int32) (K : hx_M → Prop) : Prop := ∃ n2_20, wX7_order_L2 v1 K (fun m_8 => wX7_leastFrom m_8 (-1) (v1 - 1) (fun r61_10 => wX7_upTo m_8 r61_10 (fun r68_12 => vp_in (((v1 - 1) * 61) + r61_10) 366 ∧ ∀ x_14 : Int32, x_14 = ((m_8.1 46 ((((v1 - 1) * 61) + r61_10).toNatClampNeg))) → vp_in 0 6 ∧ ∃ n97_19, wX7_order_L97 v1 K n97_19 r61_10 1 (hx_sI (hx_sI m_8 43 5 (r68_12 + x_14)) 47 ((0 : Int32).toNatClampNeg) r61_10)))) n2_20 0 μ
set_option maxRecDepth 100000 in
set_option maxHeartbeats 4000000 in
theorem kX7_order {G : hx_GT} {KK : hx_KT} (hG : hx_K cX7_order 4 0 0 (none) TbX7 KK G) (cA : hx_CA RX7 cX7_order 3 0 0 G) {Λ : hx_L} (hF : cF Λ) {μ : hx_M} (v1 : Int32) {K : hx_M → Prop} (hK : ∀ (m : hx_M), K m → KK none Λ m) (hw : wX7_order μ v1 K) : G Λ μ (0, 0) 0 [some (.ref 43), some (.int v1), none, none] [] := by
  unfold wX7_order at hw
  refine cl_iconst hG 0 (hx_dq tdX7_order_0 0 rfl) iconst_0 (cl_istore_n hG (hx_dq tdX7_order_0 1 rfl) (Nat.le_of_ble_eq_true rfl) rfl ?_)
  obtain ⟨n_, hw⟩ := hw
  refine cl_sub hG (hx_le_c rfl (hx_le_c rfl (hx_le_c rfl (hx_le_n hx_le_0)))) (kX7_order_L2 hG cA hF v1 hK (fun m_8 hw => ?_) n_ 0 _ hw)
  · refine cl_aload_n hG (hx_dq tdX7_order_1 0 rfl) rfl (cl_iconst hG (-1) (hx_dq tdX7_order_1 1 rfl) iconst_m1 (cl_iload_n hG (hx_dq tdX7_order_1 2 rfl) rfl (cl_iconst hG 1 (hx_dq tdX7_order_1 3 rfl) iconst_1 (cl_isub hG (hx_dq tdX7_order_1 4 rfl) (cl_callV2 (caX7_order_40 cA) (hx_dq tdX7_order_1 5 rfl) (cF_S43 hF) (Nat.le_of_ble_eq_true rfl) (Nat.le_refl _) (Nat.le_refl _) (sX7_leastFrom_mk hF hw (fun r61_10 hw => ?_)))))))
    refine cl_istore_n hG (hx_dq tdX7_order_1 6 rfl) (Nat.le_of_ble_eq_true rfl) rfl (cl_aload_n hG (hx_dq tdX7_order_1 7 rfl) rfl (cl_aload_n hG (hx_dq tdX7_order_1 8 rfl) rfl (cl_iload_n hG (hx_dq tdX7_order_1 9 rfl) rfl (cl_callV1 (caX7_order_43 cA) (hx_dq tdX7_order_1 10 rfl) (cF_S43 hF) (Nat.le_of_ble_eq_true rfl) (Nat.le_refl _) (Nat.le_refl _) (sX7_upTo_mk hF hw (fun r68_12 hw => ?_))))))
    obtain ⟨i83_13, hw⟩ := hw
    refine cl_aload_n hG (hx_dq tdX7_order_1 11 rfl) rfl (cl_getS hG fmX7_22 (hx_dq tdX7_order_1 12 rfl) (cF_S43 hF) (cF_R43_3 hF) (cl_iload_n hG (hx_dq tdX7_order_1 13 rfl) rfl (cl_iconst hG 1 (hx_dq tdX7_order_1 14 rfl) iconst_1 (cl_isub hG (hx_dq tdX7_order_1 15 rfl) (cl_bipush hG 61 (hx_dq tdX7_order_1 16 rfl) bipush_61 (cl_imul hG (hx_dq tdX7_order_1 17 rfl) (cl_iload_n hG (hx_dq tdX7_order_1 18 rfl) rfl (cl_iadd hG (hx_dq tdX7_order_1 19 rfl) (cl_iald hG (hx_dq tdX7_order_1 20 rfl) (cF_S46 hF) i83_13 (cl_nmI (fun x_14 e_14 => ?_)))))))))))
    replace hw := hw x_14 e_14
    obtain ⟨i94_15, hw⟩ := hw
    refine cl_iadd hG (hx_dq tdX7_order_1 21 rfl) (cl_putI hG fmX7_28 (hx_dq tdX7_order_1 22 rfl) (cF_S43 hF) (cl_aload_n hG (hx_dq tdX7_order_1 23 rfl) rfl (cl_getS hG fmX7_25 (hx_dq tdX7_order_1 24 rfl) (cF_S43 hF) (cF_R43_4 hF) (cl_iconst hG 0 (hx_dq tdX7_order_1 25 rfl) iconst_0 (cl_iload_n hG (hx_dq tdX7_order_1 26 rfl) rfl (cl_iast hG (hx_dq tdX7_order_1 27 rfl) (cF_S47 hF) i94_15 (cl_iconst hG 1 (hx_dq tdX7_order_1 28 rfl) iconst_1 (cl_istore_n hG (hx_dq tdX7_order_1 29 rfl) (Nat.le_of_ble_eq_true rfl) rfl ?_))))))))
    obtain ⟨n_, hw⟩ := hw
    refine cl_sub hG (hx_le_c rfl (hx_le_c rfl (hx_le_c rfl (hx_le_c rfl hx_le_0)))) (kX7_order_L97 hG cA hF v1 hK n_ r61_10 1 _ hw)
def sX7_order : hx_ST := fun Λ μ as KK => cF Λ ∧ ∃ (v1 : Int32) (K : hx_M → Prop), as = [.ref 43, .int v1] ∧ wX7_order μ v1 K ∧ (∀ (m : hx_M), K m → KK none Λ m)
theorem sX7_order_mk {Λ : hx_L} {μ : hx_M} {KK : hx_KT} {v1 : Int32} {K : hx_M → Prop} (hF : cF Λ) (hw : wX7_order μ v1 K) (hk : ∀ (m : hx_M), K m → KK none Λ m) : sX7_order Λ μ [.ref 43, .int v1] KK := ⟨hF, _, _, rfl, hw, hk⟩
theorem conX7_order : hx_Con yX7_order cX7_order 4 (none) 3 0 0 sX7_order := by
  refine hx_con_of (by decide +kernel) tokX7 (by decide) ?_ ?_
  · intro Λ μ as KK h
    obtain ⟨hF, v1, K, rfl, hw, hK⟩ := h
    exact Nat.le_of_ble_eq_true rfl
  · intro G KK hG cA Λ μ as h
    obtain ⟨hF, v1, K, rfl, hw, hK⟩ := h
    exact cl_sub hG (hx_le_c rfl (hx_le_c rfl (hx_le_n (hx_le_n hx_le_0)))) (kX7_order hG cA hF _ hK hw)
/-! HemLine$World.wishNow(LHemLine$Law;I)I -/
def tbX10_wishNow_0 : List (Nat × Instr × Nat) := [(0, .aload_n 1, 1), (1, .ifnonnull 5, 3), (4, .iconst (-1), 1), (5, .ireturn, 1), (6, .aload_n 0, 1), (7, .getfield 32, 3), (10, .aload_n 1, 1), (11, .iload_n 2, 1), (12, .aload_n 0, 1), (13, .getfield 50, 3), (16, .iconst 1, 1), (17, .iadd, 1), (18, .aload_n 0, 1), (19, .getfield 12, 3), (22, .getfield 99, 3), (25, .iload_n 2, 1), (26, .iaload, 1), (27, .aload_n 0, 1), (28, .getfield 12, 3), (31, .getfield 102, 3), (34, .iload_n 2, 1), (35, .iaload, 1), (36, .iconst 0, 1), (37, .invokevirtual 105, 3), (40, .ireturn, 1)]
theorem tdX10_wishNow_0 : hx_dt cX10_wishNow tbX10_wishNow_0 = true := by decide +kernel
theorem caX10_wishNow_105 {G : hx_GT} (cA : hx_CA RX10 cX10_wishNow 5 0 0 G) : hx_CV cX10_wishNow G 0 0 105 6 6 sX6_wishOf 0 0 := cA.1 conX6_wishOf rfl rfl ⟨by decide +kernel, by decide +kernel, by decide +kernel⟩ mw_720 mw_721 mw_722 mw_91 mw_723 (by decide) (by decide)
def wX10_wishNow (Λ : hx_L) (μ : hx_M) (v1 : Option Nat) (v2 : Int32) (K : Int32 → hx_M → Prop) : Prop := (∀ k1_1, v1 = some k1_1 → (vp_in v2 16 ∧ vp_in v2 16 ∧ wX6_wishOf Λ μ k1_1 v2 ((μ.1 7 7) + 1) (μ.1 12 v2.toNatClampNeg) (μ.1 13 v2.toNatClampNeg) 0 (fun r37_5 m37_4 => K r37_5 m37_4))) ∧ (v1 = none → (K (-1) μ))
set_option maxRecDepth 100000 in
set_option maxHeartbeats 4000000 in
theorem kX10_wishNow {G : hx_GT} {KK : hx_KT} (hG : hx_K cX10_wishNow 3 0 0 (some .int) TbX10 KK G) (cA : hx_CA RX10 cX10_wishNow 5 0 0 G) {Λ : hx_L} (hF : cF Λ) {μ : hx_M} (v1 : Option Nat) (v2 : Int32) {K : Int32 → hx_M → Prop} (hK : ∀ (r : Int32) (m : hx_M), K r m → KK (some (.int r)) Λ m) (hw : wX10_wishNow Λ μ v1 v2 K) : G Λ μ (0, 0) 0 [some (.ref 7), some (va_rf v1), some (.int v2)] [] := by
  unfold wX10_wishNow at hw
  refine cl_aload_nQ hG (hx_dq tdX10_wishNow_0 0 rfl) rfl (cl_ifnonnull hG 6 (hx_dq tdX10_wishNow_0 1 rfl) rfl (fun k1_1 c1 => ?_) (fun c1 => ?_))
  · replace hw := hw.1 k1_1 c1
    revert hw
    subst c1
    intro hw
    obtain ⟨i26_2, hw⟩ := hw
    obtain ⟨i35_3, hw⟩ := hw
    refine cl_aload_n hG (hx_dq tdX10_wishNow_0 4 rfl) rfl (cl_getS hG fmX10_32 (hx_dq tdX10_wishNow_0 5 rfl) (cF_S7 hF) (cF_R7_2 hF) (cl_aload_n hG (hx_dq tdX10_wishNow_0 6 rfl) rfl (cl_iload_n hG (hx_dq tdX10_wishNow_0 7 rfl) rfl (cl_aload_n hG (hx_dq tdX10_wishNow_0 8 rfl) rfl (cl_getI hG fmX10_50 (hx_dq tdX10_wishNow_0 9 rfl) (cF_S7 hF) (cl_iconst hG 1 (hx_dq tdX10_wishNow_0 10 rfl) iconst_1 (cl_iadd hG (hx_dq tdX10_wishNow_0 11 rfl) (cl_aload_n hG (hx_dq tdX10_wishNow_0 12 rfl) rfl (cl_getS hG fmX10_12 (hx_dq tdX10_wishNow_0 13 rfl) (cF_S7 hF) (cF_R7_0 hF) (cl_getS hG fmX10_99 (hx_dq tdX10_wishNow_0 14 rfl) (cF_S8 hF) (cF_R8_4 hF) (cl_iload_n hG (hx_dq tdX10_wishNow_0 15 rfl) rfl (cl_iald hG (hx_dq tdX10_wishNow_0 16 rfl) (cF_S12 hF) i26_2 (cl_aload_n hG (hx_dq tdX10_wishNow_0 17 rfl) rfl (cl_getS hG fmX10_12 (hx_dq tdX10_wishNow_0 18 rfl) (cF_S7 hF) (cF_R7_0 hF) (cl_getS hG fmX10_102 (hx_dq tdX10_wishNow_0 19 rfl) (cF_S8 hF) (cF_R8_5 hF) (cl_iload_n hG (hx_dq tdX10_wishNow_0 20 rfl) rfl (cl_iald hG (hx_dq tdX10_wishNow_0 21 rfl) (cF_S13 hF) i35_3 (cl_iconst hG 0 (hx_dq tdX10_wishNow_0 22 rfl) iconst_0 (cl_callV6 (caX10_wishNow_105 cA) (hx_dq tdX10_wishNow_0 23 rfl) (cF_S21 hF) (Nat.le_of_ble_eq_true rfl) (Nat.le_refl _) (Nat.le_refl _) (sX6_wishOf_mk hF hw (fun r37_5 m37_4 hw => ?_)))))))))))))))))))))
    exact cl_iret hG (hx_dq tdX10_wishNow_0 24 rfl) rfl rfl (hK _ _ hw) (Nat.le_refl _) (Nat.le_refl _)
  · replace hw := hw.2 c1
    exact cl_iconst hG (-1) (hx_dq tdX10_wishNow_0 2 rfl) iconst_m1 (cl_iret hG (hx_dq tdX10_wishNow_0 3 rfl) rfl rfl (hK _ _ hw) (Nat.le_refl _) (Nat.le_refl _))
def sX10_wishNow : hx_ST := fun Λ μ as KK => cF Λ ∧ ∃ (v1 : Option Nat) (v2 : Int32) (K : Int32 → hx_M → Prop), as = [.ref 7, va_rf v1, .int v2] ∧ wX10_wishNow Λ μ v1 v2 K ∧ (∀ (r : Int32) (m : hx_M), K r m → KK (some (.int r)) Λ m)
theorem sX10_wishNow_mk {Λ : hx_L} {μ : hx_M} {KK : hx_KT} {v1 : Option Nat} {v2 : Int32} {K : Int32 → hx_M → Prop} (hF : cF Λ) (hw : wX10_wishNow Λ μ v1 v2 K) (hk : ∀ (r : Int32) (m : hx_M), K r m → KK (some (.int r)) Λ m) : sX10_wishNow Λ μ [.ref 7, va_rf v1, .int v2] KK := ⟨hF, _, _, _, rfl, hw, hk⟩
theorem conX10_wishNow : hx_Con yX10_wishNow cX10_wishNow 3 (some .int) 5 0 0 sX10_wishNow := by
  refine hx_con_of (by decide +kernel) tokX10 (by decide) ?_ ?_
  · intro Λ μ as KK h
    obtain ⟨hF, v1, v2, K, rfl, hw, hK⟩ := h
    cases v1 <;> exact Nat.le_of_ble_eq_true rfl
  · intro G KK hG cA Λ μ as h
    obtain ⟨hF, v1, v2, K, rfl, hw, hK⟩ := h
    cases v1 <;> exact cl_sub hG (hx_le_c rfl (hx_le_c rfl (hx_le_c rfl hx_le_0))) (kX10_wishNow hG cA hF _ _ hK hw)
/-! HemLine$Shelf.gatherWishes(LHemLine$Law;)V -/
def tbX7_gatherWishes_0 : List (Nat × Instr × Nat) := [(0, .aload_n 0, 1), (1, .getfield 15, 3), (4, .iconst 0, 1), (5, .invokestatic 46, 3), (8, .iconst 0, 1), (9, .istore_n 2, 1), (10, .iload_n 2, 1), (11, .aload_n 0, 1), (12, .getfield 9, 3), (15, .getfield 52, 3), (18, .getfield 58, 3), (21, .if_icmp .ge 39, 3), (24, .aload_n 0, 1), (25, .getfield 9, 3), (28, .aload_n 1, 1), (29, .iload_n 2, 1), (30, .invokevirtual 63, 3), (33, .istore_n 3, 1), (34, .iload_n 3, 1), (35, .iconst 0, 1), (36, .bipush 60, 2), (38, .invokestatic 67, 3), (41, .ifCond .eq 13, 3), (44, .aload_n 0, 1), (45, .getfield 15, 3), (48, .iload_n 3, 1), (49, .dup2, 1), (50, .iaload, 1), (51, .iconst 1, 1), (52, .iadd, 1), (53, .iastore, 1), (54, .iinc 2 1, 3)]
def tbX7_gatherWishes_1 : List (Nat × Instr × Nat) := [(57, .goto (-47), 3), (60, .aload_n 0, 1), (61, .getfield 19, 3), (64, .iconst 0, 1), (65, .iconst 0, 1), (66, .iastore, 1), (67, .iconst 1, 1), (68, .istore_n 2, 1), (69, .iload_n 2, 1), (70, .bipush 60, 2), (72, .if_icmp .gt 49, 3), (75, .aload_n 0, 1), (76, .getfield 19, 3), (79, .iload_n 2, 1), (80, .aload_n 0, 1), (81, .getfield 19, 3), (84, .iload_n 2, 1), (85, .iconst 1, 1), (86, .isub, 1), (87, .iaload, 1), (88, .iload_n 2, 1), (89, .aload_n 0, 1), (90, .getfield 15, 3), (93, .iload_n 2, 1), (94, .iaload, 1), (95, .imul, 1), (96, .iadd, 1), (97, .iastore, 1), (98, .aload_n 0, 1), (99, .getfield 15, 3), (102, .iload_n 2, 1), (103, .dup2, 1)]
def tbX7_gatherWishes_2 : List (Nat × Instr × Nat) := [(104, .iaload, 1), (105, .aload_n 0, 1), (106, .getfield 15, 3), (109, .iload_n 2, 1), (110, .iconst 1, 1), (111, .isub, 1), (112, .iaload, 1), (113, .iadd, 1), (114, .iastore, 1), (115, .iinc 2 1, 3), (118, .goto (-49), 3), (121, .return_, 1)]
theorem tdX7_gatherWishes_0 : hx_dt cX7_gatherWishes tbX7_gatherWishes_0 = true := by decide +kernel
theorem tdX7_gatherWishes_1 : hx_dt cX7_gatherWishes tbX7_gatherWishes_1 = true := by decide +kernel
theorem tdX7_gatherWishes_2 : hx_dt cX7_gatherWishes tbX7_gatherWishes_2 = true := by decide +kernel
theorem caX7_gatherWishes_46 {G : hx_GT} (cA : hx_CA RX7 cX7_gatherWishes 6 0 0 G) : hx_CS cX7_gatherWishes G 0 0 46 2 sJ7_fill_53178 0 0 := cA.2.1 conJ7_fill_53178 ⟨by decide +kernel, by decide +kernel, by decide +kernel⟩ mw_1042 mw_209 mw_90 mw_210 (by decide) (by decide)
theorem caX7_gatherWishes_63 {G : hx_GT} (cA : hx_CA RX7 cX7_gatherWishes 6 0 0 G) : hx_CV cX7_gatherWishes G 0 0 63 10 2 sX10_wishNow 0 0 := cA.1 conX10_wishNow rfl rfl ⟨by decide +kernel, by decide +kernel, by decide +kernel⟩ mw_1043 mw_805 mw_806 mw_86 mw_807 (by decide) (by decide)
theorem caX7_gatherWishes_67 {G : hx_GT} (cA : hx_CA RX7 cX7_gatherWishes 6 0 0 G) : hx_CS cX7_gatherWishes G 0 0 67 3 sX11_within 0 0 := cA.2.2.1 conX11_within ⟨by decide +kernel, by decide +kernel, by decide +kernel⟩ mw_1044 mw_478 mw_84 mw_479 (by decide) (by decide)
def wX7_gatherWishes_J54 (Λ : hx_L) (K : hx_M → Prop) (K10 : Int32 → hx_M → Prop) (v1 : Nat) (v2 : Int32)  (μ : hx_M) : Prop := K10 (v2 + 1) μ
set_option maxRecDepth 100000 in
set_option maxHeartbeats 4000000 in
theorem kX7_gatherWishes_J54 {G : hx_GT} {KK : hx_KT} (hG : hx_K cX7_gatherWishes 4 0 0 (none) TbX7 KK G) (cA : hx_CA RX7 cX7_gatherWishes 6 0 0 G) {Λ : hx_L} (hF : cF Λ) {μ : hx_M} (v1 : Nat) (v2 : Int32)  {K : hx_M → Prop} (hK : ∀ (m : hx_M), K m → KK none Λ m) {K10 : Int32 → hx_M → Prop} (hk10 : ∀ (v2 : Int32) (μ : hx_M), K10 v2 μ → G Λ μ (0, 0) 10 [some (.ref 43), some (.ref v1), some (.int v2), none] []) (hw : wX7_gatherWishes_J54 Λ K K10 v1 v2 μ) : G Λ μ (0, 0) 54 [some (.ref 43), some (.ref v1), some (.int v2), none] [] := by
  unfold wX7_gatherWishes_J54 at hw
  exact cl_iinc hG (v2 + 1) (hx_dq tdX7_gatherWishes_0 31 rfl) rfl (congrArg (fun z => v2 + z) iconst_1) (Nat.le_of_ble_eq_true rfl) rfl (cl_goto hG 10 (hx_dq tdX7_gatherWishes_1 0 rfl) rfl (cl_sub hG (hx_le_c rfl (hx_le_c rfl (hx_le_c rfl (hx_le_n hx_le_0)))) (hk10 (v2 + 1) _ hw)))
def wX7_gatherWishes_L10 (Λ : hx_L) (v1 : Nat) (K : hx_M → Prop) (K60 : hx_M → Prop) : Nat → Int32 → hx_M → Prop
  | 0, _, _ => False
  | n + 1, v2, μ => ((μ.1 8 0) ≤ v2 → (K60 μ)) ∧ (¬ ((μ.1 8 0) ≤ v2) → (wX10_wishNow Λ μ (some v1) v2 (fun r30_4 m30_3 => wX11_within r30_4 0 60 (fun r38_6 => (r38_6 = 0 → (wX7_gatherWishes_J54 Λ K (wX7_gatherWishes_L10 Λ v1 K K60 n) v1 v2 m30_3)) ∧ (¬ (r38_6 = 0) → (vp_in r30_4 61 ∧ vp_in r30_4 61 ∧ wX7_gatherWishes_J54 Λ K (wX7_gatherWishes_L10 Λ v1 K K60 n) v1 v2 (hx_sI m30_3 44 r30_4.toNatClampNeg ((m30_3.1 44 r30_4.toNatClampNeg) + 1))))))))
set_option maxRecDepth 100000 in
set_option maxHeartbeats 4000000 in
theorem kX7_gatherWishes_L10 {G : hx_GT} {KK : hx_KT} (hG : hx_K cX7_gatherWishes 4 0 0 (none) TbX7 KK G) (cA : hx_CA RX7 cX7_gatherWishes 6 0 0 G) {Λ : hx_L} (hF : cF Λ)  (v1 : Nat) {K : hx_M → Prop} (hK : ∀ (m : hx_M), K m → KK none Λ m) {K60 : hx_M → Prop} (hk60 : ∀ (μ : hx_M), K60 μ → G Λ μ (0, 0) 60 [some (.ref 43), none, none, none] []) : ∀ (n : Nat) (v2 : Int32) (μ : hx_M), wX7_gatherWishes_L10 Λ v1 K K60 n v2 μ → G Λ μ (0, 0) 10 [some (.ref 43), some (.ref v1), some (.int v2), none] [] := by
  intro n
  induction n with
  | zero =>
    intro v2 μ hw
    exact False.elim (by simpa only [wX7_gatherWishes_L10] using hw)
  | succ n ih =>
    intro v2 μ hw
    unfold wX7_gatherWishes_L10 at hw
    refine cl_iload_n hG (hx_dq tdX7_gatherWishes_0 6 rfl) rfl (cl_aload_n hG (hx_dq tdX7_gatherWishes_0 7 rfl) rfl (cl_getS hG fmX7_9 (hx_dq tdX7_gatherWishes_0 8 rfl) (cF_S43 hF) (cF_R43_0 hF) (cl_getS hG fmX7_52 (hx_dq tdX7_gatherWishes_0 9 rfl) (cF_S7 hF) (cF_R7_0 hF) (cl_getI hG fmX7_58 (hx_dq tdX7_gatherWishes_0 10 rfl) (cF_S8 hF) (cl_icmp_ge hG 60 (hx_dq tdX7_gatherWishes_0 11 rfl) rfl (fun c21 => ?_) (fun c21 => ?_))))))
    · replace hw := hw.1 c21
      exact cl_sub hG (hx_le_c rfl (hx_le_n (hx_le_n (hx_le_n hx_le_0)))) (hk60 _ hw)
    · replace hw := hw.2 c21
      refine cl_aload_n hG (hx_dq tdX7_gatherWishes_0 12 rfl) rfl (cl_getS hG fmX7_9 (hx_dq tdX7_gatherWishes_0 13 rfl) (cF_S43 hF) (cF_R43_0 hF) (cl_aload_n hG (hx_dq tdX7_gatherWishes_0 14 rfl) rfl (cl_iload_n hG (hx_dq tdX7_gatherWishes_0 15 rfl) rfl (cl_callV2 (caX7_gatherWishes_63 cA) (hx_dq tdX7_gatherWishes_0 16 rfl) (cF_S7 hF) (Nat.le_of_ble_eq_true rfl) (Nat.le_refl _) (Nat.le_refl _) (sX10_wishNow_mk hF hw (fun r30_4 m30_3 hw => ?_))))))
      refine cl_istore_n hG (hx_dq tdX7_gatherWishes_0 17 rfl) (Nat.le_of_ble_eq_true rfl) rfl (cl_iload_n hG (hx_dq tdX7_gatherWishes_0 18 rfl) rfl (cl_iconst hG 0 (hx_dq tdX7_gatherWishes_0 19 rfl) iconst_0 (cl_bipush hG 60 (hx_dq tdX7_gatherWishes_0 20 rfl) bipush_60 (cl_callS3 (caX7_gatherWishes_67 cA) (hx_dq tdX7_gatherWishes_0 21 rfl) (Nat.le_of_ble_eq_true rfl) (Nat.le_refl _) (Nat.le_refl _) (sX11_within_mk hw (fun r38_6 hw => ?_))))))
      refine cl_if_eq hG 54 (hx_dq tdX7_gatherWishes_0 22 rfl) rfl (fun c41 => ?_) (fun c41 => ?_)
      · replace hw := hw.1 c41
        exact cl_sub hG (hx_le_c rfl (hx_le_c rfl (hx_le_c rfl (hx_le_n hx_le_0)))) (kX7_gatherWishes_J54 hG cA hF v1 v2 hK (fun z0 z1 hw => ih z0 z1 hw) hw)
      · replace hw := hw.2 c41
        obtain ⟨i50_7, hw⟩ := hw
        obtain ⟨i53_8, hw⟩ := hw
        refine cl_aload_n hG (hx_dq tdX7_gatherWishes_0 23 rfl) rfl (cl_getS hG fmX7_15 (hx_dq tdX7_gatherWishes_0 24 rfl) (cF_S43 hF) (cF_R43_1 hF) (cl_iload_n hG (hx_dq tdX7_gatherWishes_0 25 rfl) rfl (cl_dup2 hG (hx_dq tdX7_gatherWishes_0 26 rfl) rfl rfl (cl_iald hG (hx_dq tdX7_gatherWishes_0 27 rfl) (cF_S44 hF) i50_7 (cl_iconst hG 1 (hx_dq tdX7_gatherWishes_0 28 rfl) iconst_1 (cl_iadd hG (hx_dq tdX7_gatherWishes_0 29 rfl) (cl_iast hG (hx_dq tdX7_gatherWishes_0 30 rfl) (cF_S44 hF) i53_8 ?_)))))))
        exact cl_sub hG (hx_le_c rfl (hx_le_c rfl (hx_le_c rfl (hx_le_n hx_le_0)))) (kX7_gatherWishes_J54 hG cA hF v1 v2 hK (fun z0 z1 hw => ih z0 z1 hw) hw)
def wX7_gatherWishes_L69 (Λ : hx_L) (K : hx_M → Prop)  : Nat → Int32 → hx_M → Prop
  | 0, _, _ => False
  | n + 1, v2, μ => (60 < v2 → (K μ)) ∧ (¬ (60 < v2) → (vp_in (v2 - 1) 61 ∧ vp_in v2 61 ∧ ∀ x_13 : Int32, x_13 = (((μ.1 45 ((v2 - 1).toNatClampNeg))) + (v2 * (μ.1 44 v2.toNatClampNeg))) → vp_in v2 61 ∧ vp_in v2 61 ∧ vp_in (v2 - 1) 61 ∧ ∀ x_17 : Int32, x_17 = ((μ.1 44 v2.toNatClampNeg) + ((μ.1 44 ((v2 - 1).toNatClampNeg)))) → vp_in v2 61 ∧ wX7_gatherWishes_L69 Λ K n (v2 + 1) (hx_sI (hx_sI μ 45 v2.toNatClampNeg x_13) 44 v2.toNatClampNeg x_17)))
set_option maxRecDepth 100000 in
set_option maxHeartbeats 4000000 in
theorem kX7_gatherWishes_L69 {G : hx_GT} {KK : hx_KT} (hG : hx_K cX7_gatherWishes 4 0 0 (none) TbX7 KK G) (cA : hx_CA RX7 cX7_gatherWishes 6 0 0 G) {Λ : hx_L} (hF : cF Λ)   {K : hx_M → Prop} (hK : ∀ (m : hx_M), K m → KK none Λ m)  : ∀ (n : Nat) (v2 : Int32) (μ : hx_M), wX7_gatherWishes_L69 Λ K n v2 μ → G Λ μ (0, 0) 69 [some (.ref 43), none, some (.int v2), none] [] := by
  intro n
  induction n with
  | zero =>
    intro v2 μ hw
    exact False.elim (by simpa only [wX7_gatherWishes_L69] using hw)
  | succ n ih =>
    intro v2 μ hw
    unfold wX7_gatherWishes_L69 at hw
    refine cl_iload_n hG (hx_dq tdX7_gatherWishes_1 8 rfl) rfl (cl_bipush hG 60 (hx_dq tdX7_gatherWishes_1 9 rfl) bipush_60 (cl_icmp_gt hG 121 (hx_dq tdX7_gatherWishes_1 10 rfl) rfl (fun c72 => ?_) (fun c72 => ?_)))
    · replace hw := hw.1 c72
      exact cl_vret hG (hx_dq tdX7_gatherWishes_2 11 rfl) rfl (hK _ hw) (Nat.le_refl _) (Nat.le_refl _)
    · replace hw := hw.2 c72
      obtain ⟨i87_11, hw⟩ := hw
      obtain ⟨i94_12, hw⟩ := hw
      refine cl_aload_n hG (hx_dq tdX7_gatherWishes_1 11 rfl) rfl (cl_getS hG fmX7_19 (hx_dq tdX7_gatherWishes_1 12 rfl) (cF_S43 hF) (cF_R43_2 hF) (cl_iload_n hG (hx_dq tdX7_gatherWishes_1 13 rfl) rfl (cl_aload_n hG (hx_dq tdX7_gatherWishes_1 14 rfl) rfl (cl_getS hG fmX7_19 (hx_dq tdX7_gatherWishes_1 15 rfl) (cF_S43 hF) (cF_R43_2 hF) (cl_iload_n hG (hx_dq tdX7_gatherWishes_1 16 rfl) rfl (cl_iconst hG 1 (hx_dq tdX7_gatherWishes_1 17 rfl) iconst_1 (cl_isub hG (hx_dq tdX7_gatherWishes_1 18 rfl) (cl_iald hG (hx_dq tdX7_gatherWishes_1 19 rfl) (cF_S45 hF) i87_11 (cl_iload_n hG (hx_dq tdX7_gatherWishes_1 20 rfl) rfl (cl_aload_n hG (hx_dq tdX7_gatherWishes_1 21 rfl) rfl (cl_getS hG fmX7_15 (hx_dq tdX7_gatherWishes_1 22 rfl) (cF_S43 hF) (cF_R43_1 hF) (cl_iload_n hG (hx_dq tdX7_gatherWishes_1 23 rfl) rfl (cl_iald hG (hx_dq tdX7_gatherWishes_1 24 rfl) (cF_S44 hF) i94_12 (cl_imul hG (hx_dq tdX7_gatherWishes_1 25 rfl) (cl_iadd hG (hx_dq tdX7_gatherWishes_1 26 rfl) (cl_nmI (fun x_13 e_13 => ?_)))))))))))))))))
      replace hw := hw x_13 e_13
      obtain ⟨i97_14, hw⟩ := hw
      obtain ⟨i104_15, hw⟩ := hw
      obtain ⟨i112_16, hw⟩ := hw
      refine cl_iast hG (hx_dq tdX7_gatherWishes_1 27 rfl) (cF_S45 hF) i97_14 (cl_aload_n hG (hx_dq tdX7_gatherWishes_1 28 rfl) rfl (cl_getS hG fmX7_15 (hx_dq tdX7_gatherWishes_1 29 rfl) (cF_S43 hF) (cF_R43_1 hF) (cl_iload_n hG (hx_dq tdX7_gatherWishes_1 30 rfl) rfl (cl_dup2 hG (hx_dq tdX7_gatherWishes_1 31 rfl) rfl rfl (cl_iald hG (hx_dq tdX7_gatherWishes_2 0 rfl) (cF_S44 hF) i104_15 (cl_aload_n hG (hx_dq tdX7_gatherWishes_2 1 rfl) rfl (cl_getS hG fmX7_15 (hx_dq tdX7_gatherWishes_2 2 rfl) (cF_S43 hF) (cF_R43_1 hF) (cl_iload_n hG (hx_dq tdX7_gatherWishes_2 3 rfl) rfl (cl_iconst hG 1 (hx_dq tdX7_gatherWishes_2 4 rfl) iconst_1 (cl_isub hG (hx_dq tdX7_gatherWishes_2 5 rfl) (cl_iald hG (hx_dq tdX7_gatherWishes_2 6 rfl) (cF_S44 hF) i112_16 (cl_iadd hG (hx_dq tdX7_gatherWishes_2 7 rfl) (cl_nmI (fun x_17 e_17 => ?_))))))))))))))
      replace hw := hw x_17 e_17
      obtain ⟨i114_18, hw⟩ := hw
      exact cl_iast hG (hx_dq tdX7_gatherWishes_2 8 rfl) (cF_S44 hF) i114_18 (cl_iinc hG (v2 + 1) (hx_dq tdX7_gatherWishes_2 9 rfl) rfl (congrArg (fun z => v2 + z) iconst_1) (Nat.le_of_ble_eq_true rfl) rfl (cl_goto hG 69 (hx_dq tdX7_gatherWishes_2 10 rfl) rfl (cl_sub hG (hx_le_c rfl (hx_le_n (hx_le_c rfl (hx_le_n hx_le_0)))) (ih (v2 + 1) _ hw))))
def wX7_gatherWishes (Λ : hx_L) (μ : hx_M) (v1 : Nat) (K : hx_M → Prop) : Prop := wJ7_fill_53178 Λ μ 44 0 (fun m5_1 => ∃ n10_20, wX7_gatherWishes_L10 Λ v1 K (fun m_9 => vp_in 0 61 ∧ ∃ n69_19, wX7_gatherWishes_L69 Λ K n69_19 1 (hx_sI m_9 45 ((0 : Int32).toNatClampNeg) 0)) n10_20 0 m5_1)
set_option maxRecDepth 100000 in
set_option maxHeartbeats 4000000 in
theorem kX7_gatherWishes {G : hx_GT} {KK : hx_KT} (hG : hx_K cX7_gatherWishes 4 0 0 (none) TbX7 KK G) (cA : hx_CA RX7 cX7_gatherWishes 6 0 0 G) {Λ : hx_L} (hF : cF Λ) {μ : hx_M} (v1 : Nat) {K : hx_M → Prop} (hK : ∀ (m : hx_M), K m → KK none Λ m) (hw : wX7_gatherWishes Λ μ v1 K) : G Λ μ (0, 0) 0 [some (.ref 43), some (.ref v1), none, none] [] := by
  unfold wX7_gatherWishes at hw
  refine cl_aload_n hG (hx_dq tdX7_gatherWishes_0 0 rfl) rfl (cl_getS hG fmX7_15 (hx_dq tdX7_gatherWishes_0 1 rfl) (cF_S43 hF) (cF_R43_1 hF) (cl_iconst hG 0 (hx_dq tdX7_gatherWishes_0 2 rfl) iconst_0 (cl_callS2 (caX7_gatherWishes_46 cA) (hx_dq tdX7_gatherWishes_0 3 rfl) (Nat.le_of_ble_eq_true rfl) (Nat.le_refl _) (Nat.le_refl _) (sJ7_fill_53178_mk hw (fun m5_1 hw => ?_)))))
  refine cl_iconst hG 0 (hx_dq tdX7_gatherWishes_0 4 rfl) iconst_0 (cl_istore_n hG (hx_dq tdX7_gatherWishes_0 5 rfl) (Nat.le_of_ble_eq_true rfl) rfl ?_)
  obtain ⟨n_, hw⟩ := hw
  refine cl_sub hG (hx_le_c rfl (hx_le_c rfl (hx_le_c rfl (hx_le_n hx_le_0)))) (kX7_gatherWishes_L10 hG cA hF v1 hK (fun m_9 hw => ?_) n_ 0 _ hw)
  · obtain ⟨i66_10, hw⟩ := hw
    refine cl_aload_n hG (hx_dq tdX7_gatherWishes_1 1 rfl) rfl (cl_getS hG fmX7_19 (hx_dq tdX7_gatherWishes_1 2 rfl) (cF_S43 hF) (cF_R43_2 hF) (cl_iconst hG 0 (hx_dq tdX7_gatherWishes_1 3 rfl) iconst_0 (cl_iconst hG 0 (hx_dq tdX7_gatherWishes_1 4 rfl) iconst_0 (cl_iast hG (hx_dq tdX7_gatherWishes_1 5 rfl) (cF_S45 hF) i66_10 (cl_iconst hG 1 (hx_dq tdX7_gatherWishes_1 6 rfl) iconst_1 (cl_istore_n hG (hx_dq tdX7_gatherWishes_1 7 rfl) (Nat.le_of_ble_eq_true rfl) rfl ?_))))))
    obtain ⟨n_, hw⟩ := hw
    refine cl_sub hG (hx_le_c rfl (hx_le_n (hx_le_c rfl (hx_le_n hx_le_0)))) (kX7_gatherWishes_L69 hG cA hF hK n_ 1 _ hw)
def sX7_gatherWishes : hx_ST := fun Λ μ as KK => cF Λ ∧ ∃ (v1 : Nat) (K : hx_M → Prop), as = [.ref 43, .ref v1] ∧ wX7_gatherWishes Λ μ v1 K ∧ (∀ (m : hx_M), K m → KK none Λ m)
theorem sX7_gatherWishes_mk {Λ : hx_L} {μ : hx_M} {KK : hx_KT} {v1 : Nat} {K : hx_M → Prop} (hF : cF Λ) (hw : wX7_gatherWishes Λ μ v1 K) (hk : ∀ (m : hx_M), K m → KK none Λ m) : sX7_gatherWishes Λ μ [.ref 43, .ref v1] KK := ⟨hF, _, _, rfl, hw, hk⟩
theorem conX7_gatherWishes : hx_Con yX7_gatherWishes cX7_gatherWishes 4 (none) 6 0 0 sX7_gatherWishes := by
  refine hx_con_of (by decide +kernel) tokX7 (by decide) ?_ ?_
  · intro Λ μ as KK h
    obtain ⟨hF, v1, K, rfl, hw, hK⟩ := h
    exact Nat.le_of_ble_eq_true rfl
  · intro G KK hG cA Λ μ as h
    obtain ⟨hF, v1, K, rfl, hw, hK⟩ := h
    exact cl_sub hG (hx_le_c rfl (hx_le_c rfl (hx_le_n (hx_le_n hx_le_0)))) (kX7_gatherWishes hG cA hF _ hK hw)
/-! HemLine$Signs.<init>(LHemLine$World;)V -/
def tbX8_init_0 : List (Nat × Instr × Nat) := [(0, .aload_n 0, 1), (1, .invokespecial 3, 3), (4, .aload_n 0, 1), (5, .aload_n 1, 1), (6, .putfield 9, 3), (9, .aload_n 0, 1), (10, .bipush 13, 2), (12, .newarray .long, 2), (14, .putfield 15, 3), (17, .aload_n 0, 1), (18, .iconst 0, 1), (19, .putfield 19, 3), (22, .aload_n 0, 1), (23, .iconst 0, 1), (24, .putfield 23, 3), (27, .return_, 1)]
theorem tdX8_init_0 : hx_dt cX8_init tbX8_init_0 = true := by decide +kernel
def TAX8_init : hx_TA := ([], [(9, 8, 0, 2), (15, 8, 1, 2)], [], [3])
theorem taX8_init_f9 : (9, 8, 0, 2) ∈ TAX8_init.2.1 := List.mem_of_getElem? (i := 0) rfl
theorem toX8_init_f9 : hx_ffok RX8 (9, 8, 0, 2) := ⟨RX8, TX8, 4, tyX8, rfl, Nat.le_of_ble_eq_true rfl, rfl, mw_360, inX8, tyX8_ok, nmX8, rfl, rfl, fun h => absurd h (by decide), fun _ => Or.inl ⟨_, rfl⟩⟩
theorem taX8_init_f15 : (15, 8, 1, 2) ∈ TAX8_init.2.1 := List.mem_of_getElem? (i := 1) rfl
theorem toX8_init_f15 : hx_ffok RX8 (15, 8, 1, 2) := ⟨RX8, TX8, 4, tyX8, rfl, Nat.le_of_ble_eq_true rfl, rfl, mw_361, inX8, tyX8_ok, nmX8, rfl, rfl, fun h => absurd h (by decide), fun _ => Or.inr ⟨_, rfl⟩⟩
theorem taX8_init_o3 : 3 ∈ TAX8_init.2.2.2 := List.mem_of_getElem? (i := 0) rfl
theorem taokX8_init : hx_taok RX8 TAX8_init := ⟨(fun _ h => absurd h List.not_mem_nil), (List.forall_mem_cons.mpr ⟨toX8_init_f9, (List.forall_mem_cons.mpr ⟨toX8_init_f15, (fun _ h => absurd h List.not_mem_nil)⟩)⟩), (fun _ h => absurd h List.not_mem_nil), (List.forall_mem_cons.mpr ⟨mw_359, (fun _ h => absurd h List.not_mem_nil)⟩)⟩
def wX8_init (Λ : hx_L) (μ : hx_M) (v0 : Nat) (v1 : Nat) (K : hx_L → hx_M → Prop) : Prop := Λ.1 v0 = (0, 8) ∧ ∀ L_2 : hx_L, L_2 = hx_sR Λ v0 0 v1 → L_2.2.2 < hx_big ∧ ∀ L_4 : hx_L, L_4 = hx_push L_2 (3, 13) → ∀ m_5 : hx_M, m_5 = (hx_z μ L_2.2.2) → L_4.1 v0 = (0, 8) ∧ ∀ L_7 : hx_L, L_7 = hx_sR L_4 v0 1 L_2.2.2 → L_7.1 v0 = (0, 8) ∧ K L_7 (hx_sI (hx_sI m_5 v0 2 0) v0 3 0)
set_option maxRecDepth 100000 in
set_option maxHeartbeats 4000000 in
theorem kX8_init {G : hx_GT} {KK : hx_KT} (hG : hx_K cX8_init 2 1 13 (none) TbX8 KK G) (hM : hx_KA cX8_init 1 13 TAX8_init G) (cA : hx_CA RX8 cX8_init 1 1 13 G) {Λ : hx_L}  {μ : hx_M} (v0 : Nat) (v1 : Nat) {K : hx_L → hx_M → Prop} (hK : ∀ (Λ1 : hx_L) (m : hx_M), K Λ1 m → KK none Λ1 m) (hw : wX8_init Λ μ v0 v1 K) : G Λ μ (0, 0) 0 [some (.ref v0), some (.ref v1)] [] := by
  unfold wX8_init at hw
  obtain ⟨o6_1, hw⟩ := hw
  refine cl_aload_n hG (hx_dq tdX8_init_0 0 rfl) rfl (cl_oinit hM taX8_init_o3 (hx_dq tdX8_init_0 1 rfl) (Nat.le_of_ble_eq_true rfl) (cl_aload_n hG (hx_dq tdX8_init_0 2 rfl) rfl (cl_aload_n hG (hx_dq tdX8_init_0 3 rfl) rfl (cl_putFR hM taX8_init_f9 (hx_dq tdX8_init_0 4 rfl) o6_1 (cl_nmA (fun L_2 e_2 => ?_))))))
  replace hw := hw L_2 e_2
  obtain ⟨b3, hw⟩ := hw
  refine cl_aload_n hG (hx_dq tdX8_init_0 5 rfl) rfl (cl_bipush hG 13 (hx_dq tdX8_init_0 6 rfl) bipush_13 (cl_newaJ hM tn_13 (hx_dq tdX8_init_0 7 rfl) (by decide) (Nat.le_of_ble_eq_true rfl) (Nat.le_of_ble_eq_true rfl) (Nat.le_of_ble_eq_true rfl) b3 (cl_nmA (fun L_4 e_4 => ?_))))
  replace hw := hw L_4 e_4
  refine cl_nmM (fun m_5 e_5 => ?_)
  replace hw := hw m_5 e_5
  obtain ⟨o14_6, hw⟩ := hw
  refine cl_putFR hM taX8_init_f15 (hx_dq tdX8_init_0 8 rfl) o14_6 (cl_nmA (fun L_7 e_7 => ?_))
  replace hw := hw L_7 e_7
  obtain ⟨o19_8, hw⟩ := hw
  exact cl_aload_n hG (hx_dq tdX8_init_0 9 rfl) rfl (cl_iconst hG 0 (hx_dq tdX8_init_0 10 rfl) iconst_0 (cl_putI hG fmX8_19 (hx_dq tdX8_init_0 11 rfl) o19_8 (cl_aload_n hG (hx_dq tdX8_init_0 12 rfl) rfl (cl_iconst hG 0 (hx_dq tdX8_init_0 13 rfl) iconst_0 (cl_putI hG fmX8_23 (hx_dq tdX8_init_0 14 rfl) o19_8 (cl_vret hG (hx_dq tdX8_init_0 15 rfl) rfl (hK _ _ hw) (Nat.le_of_ble_eq_true rfl) (Nat.le_of_ble_eq_true rfl)))))))
def sX8_init : hx_ST := fun Λ μ as KK => ∃ (v0 : Nat) (v1 : Nat) (K : hx_L → hx_M → Prop), as = [.ref v0, .ref v1] ∧ wX8_init Λ μ v0 v1 K ∧ (∀ (Λ1 : hx_L) (m : hx_M), K Λ1 m → KK none Λ1 m)
theorem sX8_init_mk {Λ : hx_L} {μ : hx_M} {KK : hx_KT} {v0 : Nat} {v1 : Nat} {K : hx_L → hx_M → Prop}  (hw : wX8_init Λ μ v0 v1 K) (hk : ∀ (Λ1 : hx_L) (m : hx_M), K Λ1 m → KK none Λ1 m) : sX8_init Λ μ [.ref v0, .ref v1] KK := ⟨_, _, _, rfl, hw, hk⟩
theorem conX8_init : hx_Con yX8_init cX8_init 2 (none) 1 1 13 sX8_init := by
  refine hx_con_ofA (by decide +kernel) tokX8 taokX8_init (Or.inr rfl) (by decide) ?_ ?_
  · intro Λ μ as KK h
    obtain ⟨v0, v1, K, rfl, hw, hK⟩ := h
    exact Nat.le_of_ble_eq_true rfl
  · intro G KK hG hM cA Λ μ as h
    obtain ⟨v0, v1, K, rfl, hw, hK⟩ := h
    exact cl_sub hG (hx_le_c rfl (hx_le_c rfl hx_le_0)) (kX8_init hG hM cA _ _ hK hw)
/-! HemLine$Signs.isShown(II)Z -/
def tbX8_isShown_0 : List (Nat × Instr × Nat) := [(0, .aload_n 0, 1), (1, .getfield 9, 3), (4, .getfield 48, 3), (7, .iload_n 1, 1), (8, .iload_n 2, 1), (9, .invokevirtual 52, 3), (12, .iconst (-1), 1), (13, .if_icmp .eq 7, 3), (16, .iconst 1, 1), (17, .goto 4, 3), (20, .iconst 0, 1), (21, .ireturn, 1)]
theorem tdX8_isShown_0 : hx_dt cX8_isShown tbX8_isShown_0 = true := by decide +kernel
theorem caX8_isShown_52 {G : hx_GT} (cA : hx_CA RX8 cX8_isShown 2 0 0 G) : hx_CV cX8_isShown G 0 0 52 3 2 sX3_shownBy 0 0 := cA.1 conX3_shownBy rfl rfl ⟨by decide +kernel, by decide +kernel, by decide +kernel⟩ mw_925 mw_760 mw_761 mw_88 mw_762 (by decide) (by decide)
def wX8_isShown (μ : hx_M) (v1 : Int32) (v2 : Int32) (K : Int32 → Prop) : Prop := wX3_shownBy μ v1 v2 (fun r9_2 => (r9_2 = (-1) → (K 0)) ∧ (¬ (r9_2 = (-1)) → (K 1)))
set_option maxRecDepth 100000 in
set_option maxHeartbeats 4000000 in
theorem kX8_isShown {G : hx_GT} {KK : hx_KT} (hG : hx_K cX8_isShown 3 0 0 (some .boolean) TbX8 KK G) (cA : hx_CA RX8 cX8_isShown 2 0 0 G) {Λ : hx_L} (hF : cF Λ) {μ : hx_M} (v1 : Int32) (v2 : Int32) {K : Int32 → Prop} (hK : ∀ (r : Int32), K r → KK (some (.int r)) Λ μ) (hw : wX8_isShown μ v1 v2 K) : G Λ μ (0, 0) 0 [some (.ref 37), some (.int v1), some (.int v2)] [] := by
  unfold wX8_isShown at hw
  refine cl_aload_n hG (hx_dq tdX8_isShown_0 0 rfl) rfl (cl_getS hG fmX8_9 (hx_dq tdX8_isShown_0 1 rfl) (cF_S37 hF) (cF_R37_0 hF) (cl_getS hG fmX8_48 (hx_dq tdX8_isShown_0 2 rfl) (cF_S7 hF) (cF_R7_1 hF) (cl_iload_n hG (hx_dq tdX8_isShown_0 3 rfl) rfl (cl_iload_n hG (hx_dq tdX8_isShown_0 4 rfl) rfl (cl_callV2 (caX8_isShown_52 cA) (hx_dq tdX8_isShown_0 5 rfl) (cF_S15 hF) (Nat.le_of_ble_eq_true rfl) (Nat.le_refl _) (Nat.le_refl _) (sX3_shownBy_mk hF hw (fun r9_2 hw => ?_)))))))
  refine cl_iconst hG (-1) (hx_dq tdX8_isShown_0 6 rfl) iconst_m1 (cl_icmp_eq hG 20 (hx_dq tdX8_isShown_0 7 rfl) rfl (fun c13 => ?_) (fun c13 => ?_))
  · replace hw := hw.1 c13
    exact cl_iconst hG 0 (hx_dq tdX8_isShown_0 10 rfl) iconst_0 (cl_iret hG (hx_dq tdX8_isShown_0 11 rfl) rfl rfl (hK _ hw) (Nat.le_refl _) (Nat.le_refl _))
  · replace hw := hw.2 c13
    exact cl_iconst hG 1 (hx_dq tdX8_isShown_0 8 rfl) iconst_1 (cl_goto hG 21 (hx_dq tdX8_isShown_0 9 rfl) rfl (cl_iret hG (hx_dq tdX8_isShown_0 11 rfl) rfl rfl (hK _ hw) (Nat.le_refl _) (Nat.le_refl _)))
def sX8_isShown : hx_ST := fun Λ μ as KK => cF Λ ∧ ∃ (v1 : Int32) (v2 : Int32) (K : Int32 → Prop), as = [.ref 37, .int v1, .int v2] ∧ wX8_isShown μ v1 v2 K ∧ (∀ (r : Int32), K r → KK (some (.int r)) Λ μ)
theorem sX8_isShown_mk {Λ : hx_L} {μ : hx_M} {KK : hx_KT} {v1 : Int32} {v2 : Int32} {K : Int32 → Prop} (hF : cF Λ) (hw : wX8_isShown μ v1 v2 K) (hk : ∀ (r : Int32), K r → KK (some (.int r)) Λ μ) : sX8_isShown Λ μ [.ref 37, .int v1, .int v2] KK := ⟨hF, _, _, _, rfl, hw, hk⟩
theorem conX8_isShown : hx_Con yX8_isShown cX8_isShown 3 (some .boolean) 2 0 0 sX8_isShown := by
  refine hx_con_of (by decide +kernel) tokX8 (by decide) ?_ ?_
  · intro Λ μ as KK h
    obtain ⟨hF, v1, v2, K, rfl, hw, hK⟩ := h
    exact Nat.le_of_ble_eq_true rfl
  · intro G KK hG cA Λ μ as h
    obtain ⟨hF, v1, v2, K, rfl, hw, hK⟩ := h
    exact cl_sub hG (hx_le_c rfl (hx_le_c rfl (hx_le_c rfl hx_le_0))) (kX8_isShown hG cA hF _ _ hK hw)
/-! HemLine$Signs.shownSeasons(I)I -/
def tbX8_shownSeasons_0 : List (Nat × Instr × Nat) := [(0, .iconst 0, 1), (1, .istore_n 2, 1), (2, .iconst 0, 1), (3, .istore_n 3, 1), (4, .iload_n 3, 1), (5, .aload_n 0, 1), (6, .getfield 9, 3), (9, .getfield 26, 3), (12, .if_icmp .ge 21, 3), (15, .aload_n 0, 1), (16, .iload_n 1, 1), (17, .iload_n 3, 1), (18, .invokevirtual 31, 3), (21, .ifCond .eq 6, 3), (24, .iinc 2 1, 3), (27, .iinc 3 1, 3), (30, .goto (-26), 3), (33, .iload_n 2, 1), (34, .ireturn, 1)]
theorem tdX8_shownSeasons_0 : hx_dt cX8_shownSeasons tbX8_shownSeasons_0 = true := by decide +kernel
theorem caX8_shownSeasons_31 {G : hx_GT} (cA : hx_CA RX8 cX8_shownSeasons 3 0 0 G) : hx_CV cX8_shownSeasons G 0 0 31 8 2 sX8_isShown 0 0 := cA.1 conX8_isShown rfl rfl ⟨by decide +kernel, by decide +kernel, by decide +kernel⟩ mw_926 mw_928 mw_28 mw_94 mw_929 (by decide) (by decide)
def wX8_shownSeasons_J27 (μ : hx_M) (K : Int32 → Prop) (K4 : Int32 → Int32 → Prop) (v1 : Int32) (v2 : Int32) (v3 : Int32)   : Prop := K4 v2 (v3 + 1)
set_option maxRecDepth 100000 in
set_option maxHeartbeats 4000000 in
theorem kX8_shownSeasons_J27 {G : hx_GT} {KK : hx_KT} (hG : hx_K cX8_shownSeasons 4 0 0 (some .int) TbX8 KK G) (cA : hx_CA RX8 cX8_shownSeasons 3 0 0 G) {Λ : hx_L} (hF : cF Λ) {μ : hx_M} (v1 : Int32) (v2 : Int32) (v3 : Int32)  {K : Int32 → Prop} (hK : ∀ (r : Int32), K r → KK (some (.int r)) Λ μ) {K4 : Int32 → Int32 → Prop} (hk4 : ∀ (v2 : Int32) (v3 : Int32), K4 v2 v3 → G Λ μ (0, 0) 4 [some (.ref 37), some (.int v1), some (.int v2), some (.int v3)] []) (hw : wX8_shownSeasons_J27 μ K K4 v1 v2 v3) : G Λ μ (0, 0) 27 [some (.ref 37), some (.int v1), some (.int v2), some (.int v3)] [] := by
  unfold wX8_shownSeasons_J27 at hw
  exact cl_iinc hG (v3 + 1) (hx_dq tdX8_shownSeasons_0 15 rfl) rfl (congrArg (fun z => v3 + z) iconst_1) (Nat.le_of_ble_eq_true rfl) rfl (cl_goto hG 4 (hx_dq tdX8_shownSeasons_0 16 rfl) rfl (cl_sub hG (hx_le_c rfl (hx_le_c rfl (hx_le_c rfl (hx_le_c rfl hx_le_0)))) (hk4 v2 (v3 + 1) hw)))
def wX8_shownSeasons_L4 (μ : hx_M) (v1 : Int32) (K : Int32 → Prop)  : Nat → Int32 → Int32 → Prop
  | 0, _, _ => False
  | n + 1, v2, v3 => ((μ.1 7 7) ≤ v3 → (K v2)) ∧ (¬ ((μ.1 7 7) ≤ v3) → (wX8_isShown μ v1 v3 (fun r18_2 => (r18_2 = 0 → (wX8_shownSeasons_J27 μ K (wX8_shownSeasons_L4 μ v1 K n) v1 v2 v3)) ∧ (¬ (r18_2 = 0) → (wX8_shownSeasons_J27 μ K (wX8_shownSeasons_L4 μ v1 K n) v1 (v2 + 1) v3)))))
set_option maxRecDepth 100000 in
set_option maxHeartbeats 4000000 in
theorem kX8_shownSeasons_L4 {G : hx_GT} {KK : hx_KT} (hG : hx_K cX8_shownSeasons 4 0 0 (some .int) TbX8 KK G) (cA : hx_CA RX8 cX8_shownSeasons 3 0 0 G) {Λ : hx_L} (hF : cF Λ) {μ : hx_M} (v1 : Int32) {K : Int32 → Prop} (hK : ∀ (r : Int32), K r → KK (some (.int r)) Λ μ)  : ∀ (n : Nat) (v2 : Int32) (v3 : Int32), wX8_shownSeasons_L4 μ v1 K n v2 v3 → G Λ μ (0, 0) 4 [some (.ref 37), some (.int v1), some (.int v2), some (.int v3)] [] := by
  intro n
  induction n with
  | zero =>
    intro v2 v3 hw
    exact False.elim (by simpa only [wX8_shownSeasons_L4] using hw)
  | succ n ih =>
    intro v2 v3 hw
    unfold wX8_shownSeasons_L4 at hw
    refine cl_iload_n hG (hx_dq tdX8_shownSeasons_0 4 rfl) rfl (cl_aload_n hG (hx_dq tdX8_shownSeasons_0 5 rfl) rfl (cl_getS hG fmX8_9 (hx_dq tdX8_shownSeasons_0 6 rfl) (cF_S37 hF) (cF_R37_0 hF) (cl_getI hG fmX8_26 (hx_dq tdX8_shownSeasons_0 7 rfl) (cF_S7 hF) (cl_icmp_ge hG 33 (hx_dq tdX8_shownSeasons_0 8 rfl) rfl (fun c12 => ?_) (fun c12 => ?_)))))
    · replace hw := hw.1 c12
      exact cl_iload_n hG (hx_dq tdX8_shownSeasons_0 17 rfl) rfl (cl_iret hG (hx_dq tdX8_shownSeasons_0 18 rfl) rfl rfl (hK _ hw) (Nat.le_refl _) (Nat.le_refl _))
    · replace hw := hw.2 c12
      refine cl_aload_n hG (hx_dq tdX8_shownSeasons_0 9 rfl) rfl (cl_iload_n hG (hx_dq tdX8_shownSeasons_0 10 rfl) rfl (cl_iload_n hG (hx_dq tdX8_shownSeasons_0 11 rfl) rfl (cl_callV2 (caX8_shownSeasons_31 cA) (hx_dq tdX8_shownSeasons_0 12 rfl) (cF_S37 hF) (Nat.le_of_ble_eq_true rfl) (Nat.le_refl _) (Nat.le_refl _) (sX8_isShown_mk hF hw (fun r18_2 hw => ?_)))))
      refine cl_if_eq hG 27 (hx_dq tdX8_shownSeasons_0 13 rfl) rfl (fun c21 => ?_) (fun c21 => ?_)
      · replace hw := hw.1 c21
        exact cl_sub hG (hx_le_c rfl (hx_le_c rfl (hx_le_c rfl (hx_le_c rfl hx_le_0)))) (kX8_shownSeasons_J27 hG cA hF v1 v2 v3 hK (fun z0 z1 hw => ih z0 z1 hw) hw)
      · replace hw := hw.2 c21
        refine cl_iinc hG (v2 + 1) (hx_dq tdX8_shownSeasons_0 14 rfl) rfl (congrArg (fun z => v2 + z) iconst_1) (Nat.le_of_ble_eq_true rfl) rfl ?_
        exact cl_sub hG (hx_le_c rfl (hx_le_c rfl (hx_le_c rfl (hx_le_c rfl hx_le_0)))) (kX8_shownSeasons_J27 hG cA hF v1 (v2 + 1) v3 hK (fun z0 z1 hw => ih z0 z1 hw) hw)
def wX8_shownSeasons (μ : hx_M) (v1 : Int32) (K : Int32 → Prop) : Prop := ∃ n4_3, wX8_shownSeasons_L4 μ v1 K n4_3 0 0
set_option maxRecDepth 100000 in
set_option maxHeartbeats 4000000 in
theorem kX8_shownSeasons {G : hx_GT} {KK : hx_KT} (hG : hx_K cX8_shownSeasons 4 0 0 (some .int) TbX8 KK G) (cA : hx_CA RX8 cX8_shownSeasons 3 0 0 G) {Λ : hx_L} (hF : cF Λ) {μ : hx_M} (v1 : Int32) {K : Int32 → Prop} (hK : ∀ (r : Int32), K r → KK (some (.int r)) Λ μ) (hw : wX8_shownSeasons μ v1 K) : G Λ μ (0, 0) 0 [some (.ref 37), some (.int v1), none, none] [] := by
  unfold wX8_shownSeasons at hw
  refine cl_iconst hG 0 (hx_dq tdX8_shownSeasons_0 0 rfl) iconst_0 (cl_istore_n hG (hx_dq tdX8_shownSeasons_0 1 rfl) (Nat.le_of_ble_eq_true rfl) rfl (cl_iconst hG 0 (hx_dq tdX8_shownSeasons_0 2 rfl) iconst_0 (cl_istore_n hG (hx_dq tdX8_shownSeasons_0 3 rfl) (Nat.le_of_ble_eq_true rfl) rfl ?_)))
  obtain ⟨n_, hw⟩ := hw
  refine cl_sub hG (hx_le_c rfl (hx_le_c rfl (hx_le_c rfl (hx_le_c rfl hx_le_0)))) (kX8_shownSeasons_L4 hG cA hF v1 hK n_ 0 0 hw)
def sX8_shownSeasons : hx_ST := fun Λ μ as KK => cF Λ ∧ ∃ (v1 : Int32) (K : Int32 → Prop), as = [.ref 37, .int v1] ∧ wX8_shownSeasons μ v1 K ∧ (∀ (r : Int32), K r → KK (some (.int r)) Λ μ)
theorem sX8_shownSeasons_mk {Λ : hx_L} {μ : hx_M} {KK : hx_KT} {v1 : Int32} {K : Int32 → Prop} (hF : cF Λ) (hw : wX8_shownSeasons μ v1 K) (hk : ∀ (r : Int32), K r → KK (some (.int r)) Λ μ) : sX8_shownSeasons Λ μ [.ref 37, .int v1] KK := ⟨hF, _, _, rfl, hw, hk⟩
theorem conX8_shownSeasons : hx_Con yX8_shownSeasons cX8_shownSeasons 4 (some .int) 3 0 0 sX8_shownSeasons := by
  refine hx_con_of (by decide +kernel) tokX8 (by decide) ?_ ?_
  · intro Λ μ as KK h
    obtain ⟨hF, v1, K, rfl, hw, hK⟩ := h
    exact Nat.le_of_ble_eq_true rfl
  · intro G KK hG cA Λ μ as h
    obtain ⟨hF, v1, K, rfl, hw, hK⟩ := h
    exact cl_sub hG (hx_le_c rfl (hx_le_c rfl (hx_le_n (hx_le_n hx_le_0)))) (kX8_shownSeasons hG cA hF _ hK hw)
/-! HemLine$Signs.isFollowed(II)Z -/
def tbX8_isFollowed_0 : List (Nat × Instr × Nat) := [(0, .bipush 100, 2), (2, .aload_n 0, 1), (3, .getfield 9, 3), (6, .getfield 48, 3), (9, .iload_n 1, 1), (10, .iload_n 2, 1), (11, .invokevirtual 52, 3), (14, .imul, 1), (15, .istore_n 3, 1), (16, .aload_n 0, 1), (17, .iload_n 1, 1), (18, .iload_n 2, 1), (19, .invokevirtual 31, 3), (22, .ifCond .eq 38, 3), (25, .aload_n 0, 1), (26, .getfield 9, 3), (29, .iload_n 2, 1), (30, .iconst 1, 1), (31, .iadd, 1), (32, .invokevirtual 58, 3), (35, .iload_n 3, 1), (36, .isub, 1), (37, .invokestatic 62, 3), (40, .aload_n 0, 1), (41, .getfield 9, 3), (44, .iload_n 2, 1), (45, .invokevirtual 58, 3), (48, .iload_n 3, 1), (49, .isub, 1), (50, .invokestatic 62, 3), (53, .if_icmp .ge 7, 3), (56, .iconst 1, 1)]
def tbX8_isFollowed_1 : List (Nat × Instr × Nat) := [(57, .goto 4, 3), (60, .iconst 0, 1), (61, .ireturn, 1)]
theorem tdX8_isFollowed_0 : hx_dt cX8_isFollowed tbX8_isFollowed_0 = true := by decide +kernel
theorem tdX8_isFollowed_1 : hx_dt cX8_isFollowed tbX8_isFollowed_1 = true := by decide +kernel
theorem caX8_isFollowed_31 {G : hx_GT} (cA : hx_CA RX8 cX8_isFollowed 3 0 0 G) : hx_CV cX8_isFollowed G 0 0 31 8 2 sX8_isShown 0 0 := cA.1 conX8_isShown rfl rfl ⟨by decide +kernel, by decide +kernel, by decide +kernel⟩ mw_926 mw_928 mw_28 mw_94 mw_929 (by decide) (by decide)
theorem caX8_isFollowed_52 {G : hx_GT} (cA : hx_CA RX8 cX8_isFollowed 3 0 0 G) : hx_CV cX8_isFollowed G 0 0 52 3 2 sX3_shownBy 0 0 := cA.1 conX3_shownBy rfl rfl ⟨by decide +kernel, by decide +kernel, by decide +kernel⟩ mw_925 mw_760 mw_761 mw_88 mw_762 (by decide) (by decide)
theorem caX8_isFollowed_58 {G : hx_GT} (cA : hx_CA RX8 cX8_isFollowed 3 0 0 G) : hx_CV cX8_isFollowed G 0 0 58 10 1 sX10_lineAt 0 0 := cA.1 conX10_lineAt rfl rfl ⟨by decide +kernel, by decide +kernel, by decide +kernel⟩ mw_930 mw_792 mw_793 mw_86 mw_794 (by decide) (by decide)
def wX8_isFollowed (μ : hx_M) (v1 : Int32) (v2 : Int32) (K : Int32 → Prop) : Prop := wX3_shownBy μ v1 v2 (fun r11_2 => wX8_isShown μ v1 v2 (fun r19_4 => (r19_4 = 0 → (K 0)) ∧ (¬ (r19_4 = 0) → (wX10_lineAt μ (v2 + 1) (fun r32_6 => ∀ x_7 : Int32, x_7 = (if 0 ≤ (r32_6 - (100 * r11_2)) then (r32_6 - (100 * r11_2)) else 0 - (r32_6 - (100 * r11_2))) → wX10_lineAt μ v2 (fun r45_9 => ∀ x_10 : Int32, x_10 = (if 0 ≤ (r45_9 - (100 * r11_2)) then (r45_9 - (100 * r11_2)) else 0 - (r45_9 - (100 * r11_2))) → (x_10 ≤ x_7 → (K 0)) ∧ (¬ (x_10 ≤ x_7) → (K 1))))))))
set_option maxRecDepth 100000 in
set_option maxHeartbeats 4000000 in
theorem kX8_isFollowed {G : hx_GT} {KK : hx_KT} (hG : hx_K cX8_isFollowed 4 0 0 (some .boolean) TbX8 KK G) (cA : hx_CA RX8 cX8_isFollowed 3 0 0 G) {Λ : hx_L} (hF : cF Λ) {μ : hx_M} (v1 : Int32) (v2 : Int32) {K : Int32 → Prop} (hK : ∀ (r : Int32), K r → KK (some (.int r)) Λ μ) (hw : wX8_isFollowed μ v1 v2 K) : G Λ μ (0, 0) 0 [some (.ref 37), some (.int v1), some (.int v2), none] [] := by
  unfold wX8_isFollowed at hw
  refine cl_bipush hG 100 (hx_dq tdX8_isFollowed_0 0 rfl) bipush_100 (cl_aload_n hG (hx_dq tdX8_isFollowed_0 1 rfl) rfl (cl_getS hG fmX8_9 (hx_dq tdX8_isFollowed_0 2 rfl) (cF_S37 hF) (cF_R37_0 hF) (cl_getS hG fmX8_48 (hx_dq tdX8_isFollowed_0 3 rfl) (cF_S7 hF) (cF_R7_1 hF) (cl_iload_n hG (hx_dq tdX8_isFollowed_0 4 rfl) rfl (cl_iload_n hG (hx_dq tdX8_isFollowed_0 5 rfl) rfl (cl_callV2 (caX8_isFollowed_52 cA) (hx_dq tdX8_isFollowed_0 6 rfl) (cF_S15 hF) (Nat.le_of_ble_eq_true rfl) (Nat.le_refl _) (Nat.le_refl _) (sX3_shownBy_mk hF hw (fun r11_2 hw => ?_))))))))
  refine cl_imul hG (hx_dq tdX8_isFollowed_0 7 rfl) (cl_istore_n hG (hx_dq tdX8_isFollowed_0 8 rfl) (Nat.le_of_ble_eq_true rfl) rfl (cl_aload_n hG (hx_dq tdX8_isFollowed_0 9 rfl) rfl (cl_iload_n hG (hx_dq tdX8_isFollowed_0 10 rfl) rfl (cl_iload_n hG (hx_dq tdX8_isFollowed_0 11 rfl) rfl (cl_callV2 (caX8_isFollowed_31 cA) (hx_dq tdX8_isFollowed_0 12 rfl) (cF_S37 hF) (Nat.le_of_ble_eq_true rfl) (Nat.le_refl _) (Nat.le_refl _) (sX8_isShown_mk hF hw (fun r19_4 hw => ?_)))))))
  refine cl_if_eq hG 60 (hx_dq tdX8_isFollowed_0 13 rfl) rfl (fun c22 => ?_) (fun c22 => ?_)
  · replace hw := hw.1 c22
    exact cl_iconst hG 0 (hx_dq tdX8_isFollowed_1 1 rfl) iconst_0 (cl_iret hG (hx_dq tdX8_isFollowed_1 2 rfl) rfl rfl (hK _ hw) (Nat.le_refl _) (Nat.le_refl _))
  · replace hw := hw.2 c22
    refine cl_aload_n hG (hx_dq tdX8_isFollowed_0 14 rfl) rfl (cl_getS hG fmX8_9 (hx_dq tdX8_isFollowed_0 15 rfl) (cF_S37 hF) (cF_R37_0 hF) (cl_iload_n hG (hx_dq tdX8_isFollowed_0 16 rfl) rfl (cl_iconst hG 1 (hx_dq tdX8_isFollowed_0 17 rfl) iconst_1 (cl_iadd hG (hx_dq tdX8_isFollowed_0 18 rfl) (cl_callV1 (caX8_isFollowed_58 cA) (hx_dq tdX8_isFollowed_0 19 rfl) (cF_S7 hF) (Nat.le_of_ble_eq_true rfl) (Nat.le_refl _) (Nat.le_refl _) (sX10_lineAt_mk hF hw (fun r32_6 hw => ?_)))))))
    refine cl_iload_n hG (hx_dq tdX8_isFollowed_0 20 rfl) rfl (cl_isub hG (hx_dq tdX8_isFollowed_0 21 rfl) (cl_mabs hG mmX8_62 (hx_dq tdX8_isFollowed_0 22 rfl) (Nat.le_refl _) (Nat.le_refl _) (Nat.le_of_ble_eq_true rfl) (cl_nmI (fun x_7 e_7 => ?_))))
    replace hw := hw x_7 e_7
    refine cl_aload_n hG (hx_dq tdX8_isFollowed_0 23 rfl) rfl (cl_getS hG fmX8_9 (hx_dq tdX8_isFollowed_0 24 rfl) (cF_S37 hF) (cF_R37_0 hF) (cl_iload_n hG (hx_dq tdX8_isFollowed_0 25 rfl) rfl (cl_callV1 (caX8_isFollowed_58 cA) (hx_dq tdX8_isFollowed_0 26 rfl) (cF_S7 hF) (Nat.le_of_ble_eq_true rfl) (Nat.le_refl _) (Nat.le_refl _) (sX10_lineAt_mk hF hw (fun r45_9 hw => ?_)))))
    refine cl_iload_n hG (hx_dq tdX8_isFollowed_0 27 rfl) rfl (cl_isub hG (hx_dq tdX8_isFollowed_0 28 rfl) (cl_mabs hG mmX8_62 (hx_dq tdX8_isFollowed_0 29 rfl) (Nat.le_refl _) (Nat.le_refl _) (Nat.le_of_ble_eq_true rfl) (cl_nmI (fun x_10 e_10 => ?_))))
    replace hw := hw x_10 e_10
    refine cl_icmp_ge hG 60 (hx_dq tdX8_isFollowed_0 30 rfl) rfl (fun c53 => ?_) (fun c53 => ?_)
    · replace hw := hw.1 c53
      exact cl_iconst hG 0 (hx_dq tdX8_isFollowed_1 1 rfl) iconst_0 (cl_iret hG (hx_dq tdX8_isFollowed_1 2 rfl) rfl rfl (hK _ hw) (Nat.le_refl _) (Nat.le_refl _))
    · replace hw := hw.2 c53
      exact cl_iconst hG 1 (hx_dq tdX8_isFollowed_0 31 rfl) iconst_1 (cl_goto hG 61 (hx_dq tdX8_isFollowed_1 0 rfl) rfl (cl_iret hG (hx_dq tdX8_isFollowed_1 2 rfl) rfl rfl (hK _ hw) (Nat.le_refl _) (Nat.le_refl _)))
def sX8_isFollowed : hx_ST := fun Λ μ as KK => cF Λ ∧ ∃ (v1 : Int32) (v2 : Int32) (K : Int32 → Prop), as = [.ref 37, .int v1, .int v2] ∧ wX8_isFollowed μ v1 v2 K ∧ (∀ (r : Int32), K r → KK (some (.int r)) Λ μ)
theorem sX8_isFollowed_mk {Λ : hx_L} {μ : hx_M} {KK : hx_KT} {v1 : Int32} {v2 : Int32} {K : Int32 → Prop} (hF : cF Λ) (hw : wX8_isFollowed μ v1 v2 K) (hk : ∀ (r : Int32), K r → KK (some (.int r)) Λ μ) : sX8_isFollowed Λ μ [.ref 37, .int v1, .int v2] KK := ⟨hF, _, _, _, rfl, hw, hk⟩
theorem conX8_isFollowed : hx_Con yX8_isFollowed cX8_isFollowed 4 (some .boolean) 3 0 0 sX8_isFollowed := by
  refine hx_con_of (by decide +kernel) tokX8 (by decide) ?_ ?_
  · intro Λ μ as KK h
    obtain ⟨hF, v1, v2, K, rfl, hw, hK⟩ := h
    exact Nat.le_of_ble_eq_true rfl
  · intro G KK hG cA Λ μ as h
    obtain ⟨hF, v1, v2, K, rfl, hw, hK⟩ := h
    exact cl_sub hG (hx_le_c rfl (hx_le_c rfl (hx_le_c rfl (hx_le_n hx_le_0)))) (kX8_isFollowed hG cA hF _ _ hK hw)
/-! HemLine$Signs.followedSeasons(I)I -/
def tbX8_followedSeasons_0 : List (Nat × Instr × Nat) := [(0, .iconst 0, 1), (1, .istore_n 2, 1), (2, .iconst 0, 1), (3, .istore_n 3, 1), (4, .iload_n 3, 1), (5, .aload_n 0, 1), (6, .getfield 9, 3), (9, .getfield 26, 3), (12, .if_icmp .ge 21, 3), (15, .aload_n 0, 1), (16, .iload_n 1, 1), (17, .iload_n 3, 1), (18, .invokevirtual 35, 3), (21, .ifCond .eq 6, 3), (24, .iinc 2 1, 3), (27, .iinc 3 1, 3), (30, .goto (-26), 3), (33, .iload_n 2, 1), (34, .ireturn, 1)]
theorem tdX8_followedSeasons_0 : hx_dt cX8_followedSeasons tbX8_followedSeasons_0 = true := by decide +kernel
theorem caX8_followedSeasons_35 {G : hx_GT} (cA : hx_CA RX8 cX8_followedSeasons 4 0 0 G) : hx_CV cX8_followedSeasons G 0 0 35 8 2 sX8_isFollowed 0 0 := cA.1 conX8_isFollowed rfl rfl ⟨by decide +kernel, by decide +kernel, by decide +kernel⟩ mw_921 mw_923 mw_27 mw_94 mw_924 (by decide) (by decide)
def wX8_followedSeasons_J27 (μ : hx_M) (K : Int32 → Prop) (K4 : Int32 → Int32 → Prop) (v1 : Int32) (v2 : Int32) (v3 : Int32)   : Prop := K4 v2 (v3 + 1)
set_option maxRecDepth 100000 in
set_option maxHeartbeats 4000000 in
theorem kX8_followedSeasons_J27 {G : hx_GT} {KK : hx_KT} (hG : hx_K cX8_followedSeasons 4 0 0 (some .int) TbX8 KK G) (cA : hx_CA RX8 cX8_followedSeasons 4 0 0 G) {Λ : hx_L} (hF : cF Λ) {μ : hx_M} (v1 : Int32) (v2 : Int32) (v3 : Int32)  {K : Int32 → Prop} (hK : ∀ (r : Int32), K r → KK (some (.int r)) Λ μ) {K4 : Int32 → Int32 → Prop} (hk4 : ∀ (v2 : Int32) (v3 : Int32), K4 v2 v3 → G Λ μ (0, 0) 4 [some (.ref 37), some (.int v1), some (.int v2), some (.int v3)] []) (hw : wX8_followedSeasons_J27 μ K K4 v1 v2 v3) : G Λ μ (0, 0) 27 [some (.ref 37), some (.int v1), some (.int v2), some (.int v3)] [] := by
  unfold wX8_followedSeasons_J27 at hw
  exact cl_iinc hG (v3 + 1) (hx_dq tdX8_followedSeasons_0 15 rfl) rfl (congrArg (fun z => v3 + z) iconst_1) (Nat.le_of_ble_eq_true rfl) rfl (cl_goto hG 4 (hx_dq tdX8_followedSeasons_0 16 rfl) rfl (cl_sub hG (hx_le_c rfl (hx_le_c rfl (hx_le_c rfl (hx_le_c rfl hx_le_0)))) (hk4 v2 (v3 + 1) hw)))
def wX8_followedSeasons_L4 (μ : hx_M) (v1 : Int32) (K : Int32 → Prop)  : Nat → Int32 → Int32 → Prop
  | 0, _, _ => False
  | n + 1, v2, v3 => ((μ.1 7 7) ≤ v3 → (K v2)) ∧ (¬ ((μ.1 7 7) ≤ v3) → (wX8_isFollowed μ v1 v3 (fun r18_2 => (r18_2 = 0 → (wX8_followedSeasons_J27 μ K (wX8_followedSeasons_L4 μ v1 K n) v1 v2 v3)) ∧ (¬ (r18_2 = 0) → (wX8_followedSeasons_J27 μ K (wX8_followedSeasons_L4 μ v1 K n) v1 (v2 + 1) v3)))))
set_option maxRecDepth 100000 in
set_option maxHeartbeats 4000000 in
theorem kX8_followedSeasons_L4 {G : hx_GT} {KK : hx_KT} (hG : hx_K cX8_followedSeasons 4 0 0 (some .int) TbX8 KK G) (cA : hx_CA RX8 cX8_followedSeasons 4 0 0 G) {Λ : hx_L} (hF : cF Λ) {μ : hx_M} (v1 : Int32) {K : Int32 → Prop} (hK : ∀ (r : Int32), K r → KK (some (.int r)) Λ μ)  : ∀ (n : Nat) (v2 : Int32) (v3 : Int32), wX8_followedSeasons_L4 μ v1 K n v2 v3 → G Λ μ (0, 0) 4 [some (.ref 37), some (.int v1), some (.int v2), some (.int v3)] [] := by
  intro n
  induction n with
  | zero =>
    intro v2 v3 hw
    exact False.elim (by simpa only [wX8_followedSeasons_L4] using hw)
  | succ n ih =>
    intro v2 v3 hw
    unfold wX8_followedSeasons_L4 at hw
    refine cl_iload_n hG (hx_dq tdX8_followedSeasons_0 4 rfl) rfl (cl_aload_n hG (hx_dq tdX8_followedSeasons_0 5 rfl) rfl (cl_getS hG fmX8_9 (hx_dq tdX8_followedSeasons_0 6 rfl) (cF_S37 hF) (cF_R37_0 hF) (cl_getI hG fmX8_26 (hx_dq tdX8_followedSeasons_0 7 rfl) (cF_S7 hF) (cl_icmp_ge hG 33 (hx_dq tdX8_followedSeasons_0 8 rfl) rfl (fun c12 => ?_) (fun c12 => ?_)))))
    · replace hw := hw.1 c12
      exact cl_iload_n hG (hx_dq tdX8_followedSeasons_0 17 rfl) rfl (cl_iret hG (hx_dq tdX8_followedSeasons_0 18 rfl) rfl rfl (hK _ hw) (Nat.le_refl _) (Nat.le_refl _))
    · replace hw := hw.2 c12
      refine cl_aload_n hG (hx_dq tdX8_followedSeasons_0 9 rfl) rfl (cl_iload_n hG (hx_dq tdX8_followedSeasons_0 10 rfl) rfl (cl_iload_n hG (hx_dq tdX8_followedSeasons_0 11 rfl) rfl (cl_callV2 (caX8_followedSeasons_35 cA) (hx_dq tdX8_followedSeasons_0 12 rfl) (cF_S37 hF) (Nat.le_of_ble_eq_true rfl) (Nat.le_refl _) (Nat.le_refl _) (sX8_isFollowed_mk hF hw (fun r18_2 hw => ?_)))))
      refine cl_if_eq hG 27 (hx_dq tdX8_followedSeasons_0 13 rfl) rfl (fun c21 => ?_) (fun c21 => ?_)
      · replace hw := hw.1 c21
        exact cl_sub hG (hx_le_c rfl (hx_le_c rfl (hx_le_c rfl (hx_le_c rfl hx_le_0)))) (kX8_followedSeasons_J27 hG cA hF v1 v2 v3 hK (fun z0 z1 hw => ih z0 z1 hw) hw)
      · replace hw := hw.2 c21
        refine cl_iinc hG (v2 + 1) (hx_dq tdX8_followedSeasons_0 14 rfl) rfl (congrArg (fun z => v2 + z) iconst_1) (Nat.le_of_ble_eq_true rfl) rfl ?_
        exact cl_sub hG (hx_le_c rfl (hx_le_c rfl (hx_le_c rfl (hx_le_c rfl hx_le_0)))) (kX8_followedSeasons_J27 hG cA hF v1 (v2 + 1) v3 hK (fun z0 z1 hw => ih z0 z1 hw) hw)
def wX8_followedSeasons (μ : hx_M) (v1 : Int32) (K : Int32 → Prop) : Prop := ∃ n4_3, wX8_followedSeasons_L4 μ v1 K n4_3 0 0
set_option maxRecDepth 100000 in
set_option maxHeartbeats 4000000 in
theorem kX8_followedSeasons {G : hx_GT} {KK : hx_KT} (hG : hx_K cX8_followedSeasons 4 0 0 (some .int) TbX8 KK G) (cA : hx_CA RX8 cX8_followedSeasons 4 0 0 G) {Λ : hx_L} (hF : cF Λ) {μ : hx_M} (v1 : Int32) {K : Int32 → Prop} (hK : ∀ (r : Int32), K r → KK (some (.int r)) Λ μ) (hw : wX8_followedSeasons μ v1 K) : G Λ μ (0, 0) 0 [some (.ref 37), some (.int v1), none, none] [] := by
  unfold wX8_followedSeasons at hw
  refine cl_iconst hG 0 (hx_dq tdX8_followedSeasons_0 0 rfl) iconst_0 (cl_istore_n hG (hx_dq tdX8_followedSeasons_0 1 rfl) (Nat.le_of_ble_eq_true rfl) rfl (cl_iconst hG 0 (hx_dq tdX8_followedSeasons_0 2 rfl) iconst_0 (cl_istore_n hG (hx_dq tdX8_followedSeasons_0 3 rfl) (Nat.le_of_ble_eq_true rfl) rfl ?_)))
  obtain ⟨n_, hw⟩ := hw
  refine cl_sub hG (hx_le_c rfl (hx_le_c rfl (hx_le_c rfl (hx_le_c rfl hx_le_0)))) (kX8_followedSeasons_L4 hG cA hF v1 hK n_ 0 0 hw)
def sX8_followedSeasons : hx_ST := fun Λ μ as KK => cF Λ ∧ ∃ (v1 : Int32) (K : Int32 → Prop), as = [.ref 37, .int v1] ∧ wX8_followedSeasons μ v1 K ∧ (∀ (r : Int32), K r → KK (some (.int r)) Λ μ)
theorem sX8_followedSeasons_mk {Λ : hx_L} {μ : hx_M} {KK : hx_KT} {v1 : Int32} {K : Int32 → Prop} (hF : cF Λ) (hw : wX8_followedSeasons μ v1 K) (hk : ∀ (r : Int32), K r → KK (some (.int r)) Λ μ) : sX8_followedSeasons Λ μ [.ref 37, .int v1] KK := ⟨hF, _, _, rfl, hw, hk⟩
theorem conX8_followedSeasons : hx_Con yX8_followedSeasons cX8_followedSeasons 4 (some .int) 4 0 0 sX8_followedSeasons := by
  refine hx_con_of (by decide +kernel) tokX8 (by decide) ?_ ?_
  · intro Λ μ as KK h
    obtain ⟨hF, v1, K, rfl, hw, hK⟩ := h
    exact Nat.le_of_ble_eq_true rfl
  · intro G KK hG cA Λ μ as h
    obtain ⟨hF, v1, K, rfl, hw, hK⟩ := h
    exact cl_sub hG (hx_le_c rfl (hx_le_c rfl (hx_le_n (hx_le_n hx_le_0)))) (kX8_followedSeasons hG cA hF _ hK hw)
/-! java/util/Arrays.fill([JJ)V -/
def tbJ7_fill_d0a16_0 : List (Nat × Instr × Nat) := [(0, .iconst 0, 1), (1, .istore_n 3, 1), (2, .aload_n 0, 1), (3, .arraylength, 1), (4, .istore 4, 2), (6, .iload_n 3, 1), (7, .iload 4, 2), (9, .if_icmp .ge 13, 3), (12, .aload_n 0, 1), (13, .iload_n 3, 1), (14, .lload_n 1, 1), (15, .lastore, 1), (16, .iinc 3 1, 3), (19, .goto (-13), 3), (22, .return_, 1)]
theorem tdJ7_fill_d0a16_0 : hx_dt cJ7_fill_d0a16 tbJ7_fill_d0a16_0 = true := by decide +kernel
def wJ7_fill_d0a16_L6 (Λ : hx_L) (v0 : Nat) (v1 : Int64) (v4 : Int32) (K : hx_M → Prop)  : Nat → Int32 → hx_M → Prop
  | 0, _, _ => False
  | n + 1, v3, μ => (v4 ≤ v3 → (K μ)) ∧ (¬ (v4 ≤ v3) → (∃ n15_4, Λ.1 v0 = (3, n15_4) ∧ vp_in v3 n15_4 ∧ wJ7_fill_d0a16_L6 Λ v0 v1 v4 K n (v3 + 1) (hx_sL μ v0 v3.toNatClampNeg v1)))
set_option maxRecDepth 100000 in
set_option maxHeartbeats 4000000 in
theorem kJ7_fill_d0a16_L6 {G : hx_GT} {KK : hx_KT} (hG : hx_K cJ7_fill_d0a16 5 0 0 (none) TbJ7 KK G) (cA : hx_CA RJ7 cJ7_fill_d0a16 1 0 0 G) {Λ : hx_L}   (v0 : Nat) (v1 : Int64) (v4 : Int32) {K : hx_M → Prop} (hK : ∀ (m : hx_M), K m → KK none Λ m)  : ∀ (n : Nat) (v3 : Int32) (μ : hx_M), wJ7_fill_d0a16_L6 Λ v0 v1 v4 K n v3 μ → G Λ μ (0, 0) 6 [some (.ref v0), some (.long v1), none, some (.int v3), some (.int v4)] [] := by
  intro n
  induction n with
  | zero =>
    intro v3 μ hw
    exact False.elim (by simpa only [wJ7_fill_d0a16_L6] using hw)
  | succ n ih =>
    intro v3 μ hw
    unfold wJ7_fill_d0a16_L6 at hw
    refine cl_iload_n hG (hx_dq tdJ7_fill_d0a16_0 5 rfl) rfl (cl_iload hG (hx_dq tdJ7_fill_d0a16_0 6 rfl) rfl (cl_icmp_ge hG 22 (hx_dq tdJ7_fill_d0a16_0 7 rfl) rfl (fun c9 => ?_) (fun c9 => ?_)))
    · replace hw := hw.1 c9
      exact cl_vret hG (hx_dq tdJ7_fill_d0a16_0 14 rfl) rfl (hK _ hw) (Nat.le_refl _) (Nat.le_refl _)
    · replace hw := hw.2 c9
      obtain ⟨n15_4, o15_3, hw⟩ := hw
      obtain ⟨i15_5, hw⟩ := hw
      exact cl_aload_n hG (hx_dq tdJ7_fill_d0a16_0 8 rfl) rfl (cl_iload_n hG (hx_dq tdJ7_fill_d0a16_0 9 rfl) rfl (cl_lload_n hG (hx_dq tdJ7_fill_d0a16_0 10 rfl) rfl (cl_last hG (hx_dq tdJ7_fill_d0a16_0 11 rfl) o15_3 i15_5 (cl_iinc hG (v3 + 1) (hx_dq tdJ7_fill_d0a16_0 12 rfl) rfl (congrArg (fun z => v3 + z) iconst_1) (Nat.le_of_ble_eq_true rfl) rfl (cl_goto hG 6 (hx_dq tdJ7_fill_d0a16_0 13 rfl) rfl (cl_sub hG (hx_le_c rfl (hx_le_c rfl (hx_le_n (hx_le_c rfl (hx_le_c rfl hx_le_0))))) (ih (v3 + 1) _ hw)))))))
def wJ7_fill_d0a16 (Λ : hx_L) (μ : hx_M) (v0 : Nat) (v1 : Int64) (K : hx_M → Prop) : Prop := ∃ n3_2, Λ.1 v0 = (3, n3_2) ∧ ∃ n6_6, wJ7_fill_d0a16_L6 Λ v0 v1 (Int32.ofNat n3_2) K n6_6 0 μ
set_option maxRecDepth 100000 in
set_option maxHeartbeats 4000000 in
theorem kJ7_fill_d0a16 {G : hx_GT} {KK : hx_KT} (hG : hx_K cJ7_fill_d0a16 5 0 0 (none) TbJ7 KK G) (cA : hx_CA RJ7 cJ7_fill_d0a16 1 0 0 G) {Λ : hx_L}  {μ : hx_M} (v0 : Nat) (v1 : Int64) {K : hx_M → Prop} (hK : ∀ (m : hx_M), K m → KK none Λ m) (hw : wJ7_fill_d0a16 Λ μ v0 v1 K) : G Λ μ (0, 0) 0 [some (.ref v0), some (.long v1), none, none, none] [] := by
  unfold wJ7_fill_d0a16 at hw
  obtain ⟨n3_2, o3_1, hw⟩ := hw
  refine cl_iconst hG 0 (hx_dq tdJ7_fill_d0a16_0 0 rfl) iconst_0 (cl_istore_n hG (hx_dq tdJ7_fill_d0a16_0 1 rfl) (Nat.le_of_ble_eq_true rfl) rfl (cl_aload_n hG (hx_dq tdJ7_fill_d0a16_0 2 rfl) rfl (cl_alenL hG (hx_dq tdJ7_fill_d0a16_0 3 rfl) o3_1 (cl_istore hG (hx_dq tdJ7_fill_d0a16_0 4 rfl) (Nat.le_of_ble_eq_true rfl) rfl ?_))))
  obtain ⟨n_, hw⟩ := hw
  refine cl_sub hG (hx_le_c rfl (hx_le_c rfl (hx_le_n (hx_le_c rfl (hx_le_c rfl hx_le_0))))) (kJ7_fill_d0a16_L6 hG cA v0 v1 (Int32.ofNat n3_2) hK n_ 0 _ hw)
def sJ7_fill_d0a16 : hx_ST := fun Λ μ as KK => ∃ (v0 : Nat) (v1 : Int64) (K : hx_M → Prop), as = [.ref v0, .long v1] ∧ wJ7_fill_d0a16 Λ μ v0 v1 K ∧ (∀ (m : hx_M), K m → KK none Λ m)
theorem sJ7_fill_d0a16_mk {Λ : hx_L} {μ : hx_M} {KK : hx_KT} {v0 : Nat} {v1 : Int64} {K : hx_M → Prop}  (hw : wJ7_fill_d0a16 Λ μ v0 v1 K) (hk : ∀ (m : hx_M), K m → KK none Λ m) : sJ7_fill_d0a16 Λ μ [.ref v0, .long v1] KK := ⟨_, _, _, rfl, hw, hk⟩
theorem conJ7_fill_d0a16 : hx_Con yJ7_fill_d0a16 cJ7_fill_d0a16 5 (none) 1 0 0 sJ7_fill_d0a16 := by
  refine hx_con_of (by decide +kernel) tokJ7 (by decide) ?_ ?_
  · intro Λ μ as KK h
    obtain ⟨v0, v1, K, rfl, hw, hK⟩ := h
    exact Nat.le_of_ble_eq_true rfl
  · intro G KK hG cA Λ μ as h
    obtain ⟨v0, v1, K, rfl, hw, hK⟩ := h
    exact cl_sub hG (hx_le_c rfl (hx_le_c rfl (hx_le_n (hx_le_n (hx_le_n hx_le_0))))) (kJ7_fill_d0a16 hG cA _ _ hK hw)
/-! HemLine$Signs.chooseIn(I)V -/
def tbX8_chooseIn_0 : List (Nat × Instr × Nat) := [(0, .iconst 0, 1), (1, .istore_n 2, 1), (2, .iconst 0, 1), (3, .istore_n 3, 1), (4, .iconst 0, 1), (5, .istore 4, 2), (7, .iload 4, 2), (9, .iconst 4, 1), (10, .if_icmp .ge 38, 3), (13, .aload_n 0, 1), (14, .iload 4, 2), (16, .iload_n 1, 1), (17, .invokevirtual 35, 3), (20, .ifCond .eq 9, 3), (23, .iinc 2 1, 3), (26, .goto 16, 3), (29, .aload_n 0, 1), (30, .iload 4, 2), (32, .iload_n 1, 1), (33, .invokevirtual 31, 3), (36, .ifCond .eq 6, 3), (39, .iinc 3 1, 3), (42, .iinc 4 1, 3), (45, .goto (-38), 3), (48, .bipush 12, 2), (50, .istore 4, 2), (52, .iload 4, 2), (54, .ifCond .le 39, 3), (57, .aload_n 0, 1), (58, .getfield 15, 3), (61, .iload 4, 2), (63, .aload_n 0, 1)]
def tbX8_chooseIn_1 : List (Nat × Instr × Nat) := [(64, .getfield 15, 3), (67, .iload 4, 2), (69, .laload, 1), (70, .iload_n 3, 1), (71, .i2l, 1), (72, .lmul, 1), (73, .aload_n 0, 1), (74, .getfield 15, 3), (77, .iload 4, 2), (79, .iconst 1, 1), (80, .isub, 1), (81, .laload, 1), (82, .iload_n 2, 1), (83, .i2l, 1), (84, .lmul, 1), (85, .ladd, 1), (86, .lastore, 1), (87, .iinc 4 (-1), 3), (90, .goto (-38), 3), (93, .aload_n 0, 1), (94, .getfield 15, 3), (97, .iconst 0, 1), (98, .dup2, 1), (99, .laload, 1), (100, .iload_n 3, 1), (101, .i2l, 1), (102, .lmul, 1), (103, .lastore, 1), (104, .return_, 1)]
theorem tdX8_chooseIn_0 : hx_dt cX8_chooseIn tbX8_chooseIn_0 = true := by decide +kernel
theorem tdX8_chooseIn_1 : hx_dt cX8_chooseIn tbX8_chooseIn_1 = true := by decide +kernel
theorem caX8_chooseIn_31 {G : hx_GT} (cA : hx_CA RX8 cX8_chooseIn 4 0 0 G) : hx_CV cX8_chooseIn G 0 0 31 8 2 sX8_isShown 0 0 := cA.1 conX8_isShown rfl rfl ⟨by decide +kernel, by decide +kernel, by decide +kernel⟩ mw_926 mw_928 mw_28 mw_94 mw_929 (by decide) (by decide)
theorem caX8_chooseIn_35 {G : hx_GT} (cA : hx_CA RX8 cX8_chooseIn 4 0 0 G) : hx_CV cX8_chooseIn G 0 0 35 8 2 sX8_isFollowed 0 0 := cA.1 conX8_isFollowed rfl rfl ⟨by decide +kernel, by decide +kernel, by decide +kernel⟩ mw_921 mw_923 mw_27 mw_94 mw_924 (by decide) (by decide)
def wX8_chooseIn_J42  (K : hx_M → Prop) (K7 : Int32 → Int32 → Int32 → Prop) (v1 : Int32) (v2 : Int32) (v3 : Int32) (v4 : Int32)  (μ : hx_M) : Prop := K7 v2 v3 (v4 + 1)
set_option maxRecDepth 100000 in
set_option maxHeartbeats 4000000 in
theorem kX8_chooseIn_J42 {G : hx_GT} {KK : hx_KT} (hG : hx_K cX8_chooseIn 5 0 0 (none) TbX8 KK G) (cA : hx_CA RX8 cX8_chooseIn 4 0 0 G) {Λ : hx_L} (hF : cF Λ) {μ : hx_M} (v1 : Int32) (v2 : Int32) (v3 : Int32) (v4 : Int32)  {K : hx_M → Prop} (hK : ∀ (m : hx_M), K m → KK none Λ m) {K7 : Int32 → Int32 → Int32 → Prop} (hk7 : ∀ (v2 : Int32) (v3 : Int32) (v4 : Int32), K7 v2 v3 v4 → G Λ μ (0, 0) 7 [some (.ref 37), some (.int v1), some (.int v2), some (.int v3), some (.int v4)] []) (hw : wX8_chooseIn_J42 K K7 v1 v2 v3 v4 μ) : G Λ μ (0, 0) 42 [some (.ref 37), some (.int v1), some (.int v2), some (.int v3), some (.int v4)] [] := by
  unfold wX8_chooseIn_J42 at hw
  exact cl_iinc hG (v4 + 1) (hx_dq tdX8_chooseIn_0 22 rfl) rfl (congrArg (fun z => v4 + z) iconst_1) (Nat.le_of_ble_eq_true rfl) rfl (cl_goto hG 7 (hx_dq tdX8_chooseIn_0 23 rfl) rfl (cl_sub hG (hx_le_c rfl (hx_le_c rfl (hx_le_c rfl (hx_le_c rfl (hx_le_c rfl hx_le_0))))) (hk7 v2 v3 (v4 + 1) hw)))
def wX8_chooseIn_L7 (μ : hx_M) (v1 : Int32) (K : hx_M → Prop) (K48 : Int32 → Int32 → Prop) : Nat → Int32 → Int32 → Int32 → Prop
  | 0, _, _, _ => False
  | n + 1, v2, v3, v4 => (4 ≤ v4 → (K48 v2 v3)) ∧ (¬ (4 ≤ v4) → (wX8_isFollowed μ v4 v1 (fun r17_2 => (r17_2 = 0 → (wX8_isShown μ v4 v1 (fun r33_4 => (r33_4 = 0 → (wX8_chooseIn_J42 K (wX8_chooseIn_L7 μ v1 K K48 n) v1 v2 v3 v4 μ)) ∧ (¬ (r33_4 = 0) → (wX8_chooseIn_J42 K (wX8_chooseIn_L7 μ v1 K K48 n) v1 v2 (v3 + 1) v4 μ))))) ∧ (¬ (r17_2 = 0) → (wX8_chooseIn_J42 K (wX8_chooseIn_L7 μ v1 K K48 n) v1 (v2 + 1) v3 v4 μ)))))
set_option maxRecDepth 100000 in
set_option maxHeartbeats 4000000 in
theorem kX8_chooseIn_L7 {G : hx_GT} {KK : hx_KT} (hG : hx_K cX8_chooseIn 5 0 0 (none) TbX8 KK G) (cA : hx_CA RX8 cX8_chooseIn 4 0 0 G) {Λ : hx_L} (hF : cF Λ) {μ : hx_M} (v1 : Int32) {K : hx_M → Prop} (hK : ∀ (m : hx_M), K m → KK none Λ m) {K48 : Int32 → Int32 → Prop} (hk48 : ∀ (v2 : Int32) (v3 : Int32), K48 v2 v3 → G Λ μ (0, 0) 48 [some (.ref 37), none, some (.int v2), some (.int v3), none] []) : ∀ (n : Nat) (v2 : Int32) (v3 : Int32) (v4 : Int32), wX8_chooseIn_L7 μ v1 K K48 n v2 v3 v4 → G Λ μ (0, 0) 7 [some (.ref 37), some (.int v1), some (.int v2), some (.int v3), some (.int v4)] [] := by
  intro n
  induction n with
  | zero =>
    intro v2 v3 v4 hw
    exact False.elim (by simpa only [wX8_chooseIn_L7] using hw)
  | succ n ih =>
    intro v2 v3 v4 hw
    unfold wX8_chooseIn_L7 at hw
    refine cl_iload hG (hx_dq tdX8_chooseIn_0 6 rfl) rfl (cl_iconst hG 4 (hx_dq tdX8_chooseIn_0 7 rfl) iconst_4 (cl_icmp_ge hG 48 (hx_dq tdX8_chooseIn_0 8 rfl) rfl (fun c10 => ?_) (fun c10 => ?_)))
    · replace hw := hw.1 c10
      exact cl_sub hG (hx_le_c rfl (hx_le_n (hx_le_c rfl (hx_le_c rfl (hx_le_n hx_le_0))))) (hk48 v2 v3 hw)
    · replace hw := hw.2 c10
      refine cl_aload_n hG (hx_dq tdX8_chooseIn_0 9 rfl) rfl (cl_iload hG (hx_dq tdX8_chooseIn_0 10 rfl) rfl (cl_iload_n hG (hx_dq tdX8_chooseIn_0 11 rfl) rfl (cl_callV2 (caX8_chooseIn_35 cA) (hx_dq tdX8_chooseIn_0 12 rfl) (cF_S37 hF) (Nat.le_of_ble_eq_true rfl) (Nat.le_refl _) (Nat.le_refl _) (sX8_isFollowed_mk hF hw (fun r17_2 hw => ?_)))))
      refine cl_if_eq hG 29 (hx_dq tdX8_chooseIn_0 13 rfl) rfl (fun c20 => ?_) (fun c20 => ?_)
      · replace hw := hw.1 c20
        refine cl_aload_n hG (hx_dq tdX8_chooseIn_0 16 rfl) rfl (cl_iload hG (hx_dq tdX8_chooseIn_0 17 rfl) rfl (cl_iload_n hG (hx_dq tdX8_chooseIn_0 18 rfl) rfl (cl_callV2 (caX8_chooseIn_31 cA) (hx_dq tdX8_chooseIn_0 19 rfl) (cF_S37 hF) (Nat.le_of_ble_eq_true rfl) (Nat.le_refl _) (Nat.le_refl _) (sX8_isShown_mk hF hw (fun r33_4 hw => ?_)))))
        refine cl_if_eq hG 42 (hx_dq tdX8_chooseIn_0 20 rfl) rfl (fun c36 => ?_) (fun c36 => ?_)
        · replace hw := hw.1 c36
          exact cl_sub hG (hx_le_c rfl (hx_le_c rfl (hx_le_c rfl (hx_le_c rfl (hx_le_c rfl hx_le_0))))) (kX8_chooseIn_J42 hG cA hF v1 v2 v3 v4 hK (fun z0 z1 z2 hw => ih z0 z1 z2 hw) hw)
        · replace hw := hw.2 c36
          refine cl_iinc hG (v3 + 1) (hx_dq tdX8_chooseIn_0 21 rfl) rfl (congrArg (fun z => v3 + z) iconst_1) (Nat.le_of_ble_eq_true rfl) rfl ?_
          exact cl_sub hG (hx_le_c rfl (hx_le_c rfl (hx_le_c rfl (hx_le_c rfl (hx_le_c rfl hx_le_0))))) (kX8_chooseIn_J42 hG cA hF v1 v2 (v3 + 1) v4 hK (fun z0 z1 z2 hw => ih z0 z1 z2 hw) hw)
      · replace hw := hw.2 c20
        refine cl_iinc hG (v2 + 1) (hx_dq tdX8_chooseIn_0 14 rfl) rfl (congrArg (fun z => v2 + z) iconst_1) (Nat.le_of_ble_eq_true rfl) rfl (cl_goto hG 42 (hx_dq tdX8_chooseIn_0 15 rfl) rfl ?_)
        exact cl_sub hG (hx_le_c rfl (hx_le_c rfl (hx_le_c rfl (hx_le_c rfl (hx_le_c rfl hx_le_0))))) (kX8_chooseIn_J42 hG cA hF v1 (v2 + 1) v3 v4 hK (fun z0 z1 z2 hw => ih z0 z1 z2 hw) hw)
def wX8_chooseIn_L52 (v2 : Int32) (v3 : Int32) (K : hx_M → Prop) (K93 : hx_M → Prop) : Nat → Int32 → hx_M → Prop
  | 0, _, _ => False
  | n + 1, v4, μ => (v4 ≤ 0 → (K93 μ)) ∧ (¬ (v4 ≤ 0) → (vp_in v4 13 ∧ ∀ x_7 : Int64, x_7 = ((μ.2 38 v4.toNatClampNeg) * ((v3 : Int32).toInt64)) → vp_in (v4 - 1) 13 ∧ ∀ x_9 : Int64, x_9 = (((μ.2 38 ((v4 - 1).toNatClampNeg))) * ((v2 : Int32).toInt64)) → vp_in v4 13 ∧ wX8_chooseIn_L52 v2 v3 K K93 n (v4 + (-1)) (hx_sL μ 38 v4.toNatClampNeg (x_7 + x_9))))
set_option maxRecDepth 100000 in
set_option maxHeartbeats 4000000 in
theorem kX8_chooseIn_L52 {G : hx_GT} {KK : hx_KT} (hG : hx_K cX8_chooseIn 5 0 0 (none) TbX8 KK G) (cA : hx_CA RX8 cX8_chooseIn 4 0 0 G) {Λ : hx_L} (hF : cF Λ)  (v2 : Int32) (v3 : Int32) {K : hx_M → Prop} (hK : ∀ (m : hx_M), K m → KK none Λ m) {K93 : hx_M → Prop} (hk93 : ∀ (μ : hx_M), K93 μ → G Λ μ (0, 0) 93 [some (.ref 37), none, none, some (.int v3), none] []) : ∀ (n : Nat) (v4 : Int32) (μ : hx_M), wX8_chooseIn_L52 v2 v3 K K93 n v4 μ → G Λ μ (0, 0) 52 [some (.ref 37), none, some (.int v2), some (.int v3), some (.int v4)] [] := by
  intro n
  induction n with
  | zero =>
    intro v4 μ hw
    exact False.elim (by simpa only [wX8_chooseIn_L52] using hw)
  | succ n ih =>
    intro v4 μ hw
    unfold wX8_chooseIn_L52 at hw
    refine cl_iload hG (hx_dq tdX8_chooseIn_0 26 rfl) rfl (cl_if_le hG 93 (hx_dq tdX8_chooseIn_0 27 rfl) rfl (fun c54 => ?_) (fun c54 => ?_))
    · replace hw := hw.1 c54
      exact cl_sub hG (hx_le_c rfl (hx_le_n (hx_le_n (hx_le_c rfl (hx_le_n hx_le_0))))) (hk93 _ hw)
    · replace hw := hw.2 c54
      obtain ⟨i69_6, hw⟩ := hw
      refine cl_aload_n hG (hx_dq tdX8_chooseIn_0 28 rfl) rfl (cl_getS hG fmX8_15 (hx_dq tdX8_chooseIn_0 29 rfl) (cF_S37 hF) (cF_R37_1 hF) (cl_iload hG (hx_dq tdX8_chooseIn_0 30 rfl) rfl (cl_aload_n hG (hx_dq tdX8_chooseIn_0 31 rfl) rfl (cl_getS hG fmX8_15 (hx_dq tdX8_chooseIn_1 0 rfl) (cF_S37 hF) (cF_R37_1 hF) (cl_iload hG (hx_dq tdX8_chooseIn_1 1 rfl) rfl (cl_lald hG (hx_dq tdX8_chooseIn_1 2 rfl) (cF_S38 hF) i69_6 (cl_iload_n hG (hx_dq tdX8_chooseIn_1 3 rfl) rfl (cl_i2l hG (hx_dq tdX8_chooseIn_1 4 rfl) (cl_lmul hG (hx_dq tdX8_chooseIn_1 5 rfl) (cl_nmL (fun x_7 e_7 => ?_)))))))))))
      replace hw := hw x_7 e_7
      obtain ⟨i81_8, hw⟩ := hw
      refine cl_aload_n hG (hx_dq tdX8_chooseIn_1 6 rfl) rfl (cl_getS hG fmX8_15 (hx_dq tdX8_chooseIn_1 7 rfl) (cF_S37 hF) (cF_R37_1 hF) (cl_iload hG (hx_dq tdX8_chooseIn_1 8 rfl) rfl (cl_iconst hG 1 (hx_dq tdX8_chooseIn_1 9 rfl) iconst_1 (cl_isub hG (hx_dq tdX8_chooseIn_1 10 rfl) (cl_lald hG (hx_dq tdX8_chooseIn_1 11 rfl) (cF_S38 hF) i81_8 (cl_iload_n hG (hx_dq tdX8_chooseIn_1 12 rfl) rfl (cl_i2l hG (hx_dq tdX8_chooseIn_1 13 rfl) (cl_lmul hG (hx_dq tdX8_chooseIn_1 14 rfl) (cl_nmL (fun x_9 e_9 => ?_))))))))))
      replace hw := hw x_9 e_9
      obtain ⟨i86_10, hw⟩ := hw
      exact cl_ladd hG (hx_dq tdX8_chooseIn_1 15 rfl) (cl_last hG (hx_dq tdX8_chooseIn_1 16 rfl) (cF_S38 hF) i86_10 (cl_iinc hG (v4 + (-1)) (hx_dq tdX8_chooseIn_1 17 rfl) rfl (congrArg (fun z => v4 + z) iconst_m1) (Nat.le_of_ble_eq_true rfl) rfl (cl_goto hG 52 (hx_dq tdX8_chooseIn_1 18 rfl) rfl (cl_sub hG (hx_le_c rfl (hx_le_n (hx_le_c rfl (hx_le_c rfl (hx_le_c rfl hx_le_0))))) (ih (v4 + (-1)) _ hw)))))
def wX8_chooseIn (μ : hx_M) (v1 : Int32) (K : hx_M → Prop) : Prop := ∃ n7_16, wX8_chooseIn_L7 μ v1 K (fun v2_5 v3_5 => ∃ n52_15, wX8_chooseIn_L52 v2_5 v3_5 K (fun m_11 => vp_in 0 13 ∧ ∀ x_13 : Int64, x_13 = (((m_11.2 38 ((0 : Int32).toNatClampNeg))) * ((v3_5 : Int32).toInt64)) → vp_in 0 13 ∧ K (hx_sL m_11 38 ((0 : Int32).toNatClampNeg) x_13)) n52_15 12 μ) n7_16 0 0 0
set_option maxRecDepth 100000 in
set_option maxHeartbeats 4000000 in
theorem kX8_chooseIn {G : hx_GT} {KK : hx_KT} (hG : hx_K cX8_chooseIn 5 0 0 (none) TbX8 KK G) (cA : hx_CA RX8 cX8_chooseIn 4 0 0 G) {Λ : hx_L} (hF : cF Λ) {μ : hx_M} (v1 : Int32) {K : hx_M → Prop} (hK : ∀ (m : hx_M), K m → KK none Λ m) (hw : wX8_chooseIn μ v1 K) : G Λ μ (0, 0) 0 [some (.ref 37), some (.int v1), none, none, none] [] := by
  unfold wX8_chooseIn at hw
  refine cl_iconst hG 0 (hx_dq tdX8_chooseIn_0 0 rfl) iconst_0 (cl_istore_n hG (hx_dq tdX8_chooseIn_0 1 rfl) (Nat.le_of_ble_eq_true rfl) rfl (cl_iconst hG 0 (hx_dq tdX8_chooseIn_0 2 rfl) iconst_0 (cl_istore_n hG (hx_dq tdX8_chooseIn_0 3 rfl) (Nat.le_of_ble_eq_true rfl) rfl (cl_iconst hG 0 (hx_dq tdX8_chooseIn_0 4 rfl) iconst_0 (cl_istore hG (hx_dq tdX8_chooseIn_0 5 rfl) (Nat.le_of_ble_eq_true rfl) rfl ?_)))))
  obtain ⟨n_, hw⟩ := hw
  refine cl_sub hG (hx_le_c rfl (hx_le_c rfl (hx_le_c rfl (hx_le_c rfl (hx_le_c rfl hx_le_0))))) (kX8_chooseIn_L7 hG cA hF v1 hK (fun v2_5 v3_5 hw => ?_) n_ 0 0 0 hw)
  · refine cl_bipush hG 12 (hx_dq tdX8_chooseIn_0 24 rfl) bipush_12 (cl_istore hG (hx_dq tdX8_chooseIn_0 25 rfl) (Nat.le_of_ble_eq_true rfl) rfl ?_)
    obtain ⟨n_, hw⟩ := hw
    refine cl_sub hG (hx_le_c rfl (hx_le_n (hx_le_c rfl (hx_le_c rfl (hx_le_c rfl hx_le_0))))) (kX8_chooseIn_L52 hG cA hF v2_5 v3_5 hK (fun m_11 hw => ?_) n_ 12 _ hw)
    · obtain ⟨i99_12, hw⟩ := hw
      refine cl_aload_n hG (hx_dq tdX8_chooseIn_1 19 rfl) rfl (cl_getS hG fmX8_15 (hx_dq tdX8_chooseIn_1 20 rfl) (cF_S37 hF) (cF_R37_1 hF) (cl_iconst hG 0 (hx_dq tdX8_chooseIn_1 21 rfl) iconst_0 (cl_dup2 hG (hx_dq tdX8_chooseIn_1 22 rfl) rfl rfl (cl_lald hG (hx_dq tdX8_chooseIn_1 23 rfl) (cF_S38 hF) i99_12 (cl_iload_n hG (hx_dq tdX8_chooseIn_1 24 rfl) rfl (cl_i2l hG (hx_dq tdX8_chooseIn_1 25 rfl) (cl_lmul hG (hx_dq tdX8_chooseIn_1 26 rfl) (cl_nmL (fun x_13 e_13 => ?_)))))))))
      replace hw := hw x_13 e_13
      obtain ⟨i103_14, hw⟩ := hw
      exact cl_last hG (hx_dq tdX8_chooseIn_1 27 rfl) (cF_S38 hF) i103_14 (cl_vret hG (hx_dq tdX8_chooseIn_1 28 rfl) rfl (hK _ hw) (Nat.le_refl _) (Nat.le_refl _))
def sX8_chooseIn : hx_ST := fun Λ μ as KK => cF Λ ∧ ∃ (v1 : Int32) (K : hx_M → Prop), as = [.ref 37, .int v1] ∧ wX8_chooseIn μ v1 K ∧ (∀ (m : hx_M), K m → KK none Λ m)
theorem sX8_chooseIn_mk {Λ : hx_L} {μ : hx_M} {KK : hx_KT} {v1 : Int32} {K : hx_M → Prop} (hF : cF Λ) (hw : wX8_chooseIn μ v1 K) (hk : ∀ (m : hx_M), K m → KK none Λ m) : sX8_chooseIn Λ μ [.ref 37, .int v1] KK := ⟨hF, _, _, rfl, hw, hk⟩
theorem conX8_chooseIn : hx_Con yX8_chooseIn cX8_chooseIn 5 (none) 4 0 0 sX8_chooseIn := by
  refine hx_con_of (by decide +kernel) tokX8 (by decide) ?_ ?_
  · intro Λ μ as KK h
    obtain ⟨hF, v1, K, rfl, hw, hK⟩ := h
    exact Nat.le_of_ble_eq_true rfl
  · intro G KK hG cA Λ μ as h
    obtain ⟨hF, v1, K, rfl, hw, hK⟩ := h
    exact cl_sub hG (hx_le_c rfl (hx_le_c rfl (hx_le_n (hx_le_n (hx_le_n hx_le_0))))) (kX8_chooseIn hG cA hF _ hK hw)
/-! HemLine$Signs.waysOf(IZ)J -/
def tbX8_waysOf_0 : List (Nat × Instr × Nat) := [(0, .aload_n 0, 1), (1, .getfield 15, 3), (4, .lconst 0, 1), (5, .invokestatic 38, 3), (8, .aload_n 0, 1), (9, .getfield 15, 3), (12, .iconst 0, 1), (13, .lconst 1, 1), (14, .lastore, 1), (15, .iconst 0, 1), (16, .istore_n 3, 1), (17, .iconst 0, 1), (18, .istore 4, 2), (20, .aload_n 0, 1), (21, .getfield 9, 3), (24, .getfield 26, 3), (27, .iconst 1, 1), (28, .isub, 1), (29, .istore 5, 2), (31, .iload 5, 2), (33, .ifCond .lt 54, 3), (36, .iload_n 3, 1), (37, .bipush 12, 2), (39, .if_icmp .ge 48, 3), (42, .aload_n 0, 1), (43, .iload_n 1, 1), (44, .iload 5, 2), (46, .invokevirtual 31, 3), (49, .ifCond .eq 32, 3), (52, .iinc 3 1, 3), (55, .iload 4, 2), (57, .aload_n 0, 1)]
def tbX8_waysOf_1 : List (Nat × Instr × Nat) := [(58, .iload_n 1, 1), (59, .iload 5, 2), (61, .invokevirtual 35, 3), (64, .ifCond .eq 7, 3), (67, .iconst 1, 1), (68, .goto 4, 3), (71, .iconst 0, 1), (72, .iadd, 1), (73, .istore 4, 2), (75, .aload_n 0, 1), (76, .iload 5, 2), (78, .invokevirtual 44, 3), (81, .iinc 5 (-1), 3), (84, .goto (-53), 3), (87, .lconst 0, 1), (88, .lstore 5, 2), (90, .iload_n 2, 1), (91, .ifCond .eq 7, 3), (94, .iconst 0, 1), (95, .goto 5, 3), (98, .iload 4, 2), (100, .istore 7, 2), (102, .iload 7, 2), (104, .bipush 12, 2), (106, .if_icmp .gt 21, 3), (109, .lload 5, 2), (111, .aload_n 0, 1), (112, .getfield 15, 3), (115, .iload 7, 2), (117, .laload, 1), (118, .ladd, 1), (119, .lstore 5, 2)]
def tbX8_waysOf_2 : List (Nat × Instr × Nat) := [(121, .iinc 7 1, 3), (124, .goto (-22), 3), (127, .lload 5, 2), (129, .lreturn, 1)]
theorem tdX8_waysOf_0 : hx_dt cX8_waysOf tbX8_waysOf_0 = true := by decide +kernel
theorem tdX8_waysOf_1 : hx_dt cX8_waysOf tbX8_waysOf_1 = true := by decide +kernel
theorem tdX8_waysOf_2 : hx_dt cX8_waysOf tbX8_waysOf_2 = true := by decide +kernel
theorem caX8_waysOf_31 {G : hx_GT} (cA : hx_CA RX8 cX8_waysOf 5 0 0 G) : hx_CV cX8_waysOf G 0 0 31 8 2 sX8_isShown 0 0 := cA.1 conX8_isShown rfl rfl ⟨by decide +kernel, by decide +kernel, by decide +kernel⟩ mw_926 mw_928 mw_28 mw_94 mw_929 (by decide) (by decide)
theorem caX8_waysOf_35 {G : hx_GT} (cA : hx_CA RX8 cX8_waysOf 5 0 0 G) : hx_CV cX8_waysOf G 0 0 35 8 2 sX8_isFollowed 0 0 := cA.1 conX8_isFollowed rfl rfl ⟨by decide +kernel, by decide +kernel, by decide +kernel⟩ mw_921 mw_923 mw_27 mw_94 mw_924 (by decide) (by decide)
theorem caX8_waysOf_38 {G : hx_GT} (cA : hx_CA RX8 cX8_waysOf 5 0 0 G) : hx_CS cX8_waysOf G 0 0 38 2 sJ7_fill_d0a16 0 0 := cA.2.1 conJ7_fill_d0a16 ⟨by decide +kernel, by decide +kernel, by decide +kernel⟩ mw_945 mw_946 mw_90 mw_947 (by decide) (by decide)
theorem caX8_waysOf_44 {G : hx_GT} (cA : hx_CA RX8 cX8_waysOf 5 0 0 G) : hx_CV cX8_waysOf G 0 0 44 8 1 sX8_chooseIn 0 0 := cA.1 conX8_chooseIn rfl rfl ⟨by decide +kernel, by decide +kernel, by decide +kernel⟩ mw_948 mw_950 mw_29 mw_94 mw_951 (by decide) (by decide)
def wX8_waysOf_J81 (Λ : hx_L) (K : Int64 → hx_M → Prop) (K31 : Int32 → Int32 → Int32 → hx_M → Prop) (v1 : Int32) (v2 : Int32) (v3 : Int32) (v4 : Int32) (v5 : Int32)  (μ : hx_M) : Prop := K31 v3 v4 (v5 + (-1)) μ
set_option maxRecDepth 100000 in
set_option maxHeartbeats 4000000 in
theorem kX8_waysOf_J81 {G : hx_GT} {KK : hx_KT} (hG : hx_K cX8_waysOf 8 0 0 (some .long) TbX8 KK G) (cA : hx_CA RX8 cX8_waysOf 5 0 0 G) {Λ : hx_L} (hF : cF Λ) {μ : hx_M} (v1 : Int32) (v2 : Int32) (v3 : Int32) (v4 : Int32) (v5 : Int32)  {K : Int64 → hx_M → Prop} (hK : ∀ (r : Int64) (m : hx_M), K r m → KK (some (.long r)) Λ m) {K31 : Int32 → Int32 → Int32 → hx_M → Prop} (hk31 : ∀ (v3 : Int32) (v4 : Int32) (v5 : Int32) (μ : hx_M), K31 v3 v4 v5 μ → G Λ μ (0, 0) 31 [some (.ref 37), some (.int v1), some (.int v2), some (.int v3), some (.int v4), some (.int v5), none, none] []) (hw : wX8_waysOf_J81 Λ K K31 v1 v2 v3 v4 v5 μ) : G Λ μ (0, 0) 81 [some (.ref 37), some (.int v1), some (.int v2), some (.int v3), some (.int v4), some (.int v5), none, none] [] := by
  unfold wX8_waysOf_J81 at hw
  exact cl_iinc hG (v5 + (-1)) (hx_dq tdX8_waysOf_1 12 rfl) rfl (congrArg (fun z => v5 + z) iconst_m1) (Nat.le_of_ble_eq_true rfl) rfl (cl_goto hG 31 (hx_dq tdX8_waysOf_1 13 rfl) rfl (cl_sub hG (hx_le_c rfl (hx_le_c rfl (hx_le_c rfl (hx_le_c rfl (hx_le_c rfl (hx_le_c rfl (hx_le_n (hx_le_n hx_le_0)))))))) (hk31 v3 v4 (v5 + (-1)) _ hw)))
def wX8_waysOf_J81_10 (Λ : hx_L) (K : Int64 → hx_M → Prop) (K31 : Int32 → Int32 → Int32 → hx_M → Prop) (v1 : Int32) (v2 : Int32) (v3 : Int32) (v4 : Int32) (v5 : Int32)  (μ : hx_M) : Prop := K31 v3 v4 (v5 + (-1)) μ
set_option maxRecDepth 100000 in
set_option maxHeartbeats 4000000 in
theorem kX8_waysOf_J81_10 {G : hx_GT} {KK : hx_KT} (hG : hx_K cX8_waysOf 8 0 0 (some .long) TbX8 KK G) (cA : hx_CA RX8 cX8_waysOf 5 0 0 G) {Λ : hx_L} (hF : cF Λ) {μ : hx_M} (v1 : Int32) (v2 : Int32) (v3 : Int32) (v4 : Int32) (v5 : Int32)  {K : Int64 → hx_M → Prop} (hK : ∀ (r : Int64) (m : hx_M), K r m → KK (some (.long r)) Λ m) {K31 : Int32 → Int32 → Int32 → hx_M → Prop} (hk31 : ∀ (v3 : Int32) (v4 : Int32) (v5 : Int32) (μ : hx_M), K31 v3 v4 v5 μ → G Λ μ (0, 0) 31 [some (.ref 37), some (.int v1), some (.int v2), some (.int v3), some (.int v4), some (.int v5), none, none] []) (hw : wX8_waysOf_J81_10 Λ K K31 v1 v2 v3 v4 v5 μ) : G Λ μ (0, 0) 81 [some (.ref 37), some (.int v1), some (.int v2), some (.int v3), some (.int v4), some (.int v5), none, none] [] := by
  unfold wX8_waysOf_J81_10 at hw
  exact cl_iinc hG (v5 + (-1)) (hx_dq tdX8_waysOf_1 12 rfl) rfl (congrArg (fun z => v5 + z) iconst_m1) (Nat.le_of_ble_eq_true rfl) rfl (cl_goto hG 31 (hx_dq tdX8_waysOf_1 13 rfl) rfl (cl_sub hG (hx_le_c rfl (hx_le_c rfl (hx_le_c rfl (hx_le_c rfl (hx_le_c rfl (hx_le_c rfl (hx_le_n (hx_le_n hx_le_0)))))))) (hk31 v3 v4 (v5 + (-1)) _ hw)))
def wX8_waysOf_J72 (Λ : hx_L) (K : Int64 → hx_M → Prop) (K31 : Int32 → Int32 → Int32 → hx_M → Prop) (v1 : Int32) (v2 : Int32) (v3 : Int32) (v5 : Int32) (t0 : Int32) (t1 : Int32) (μ : hx_M) : Prop := wX8_chooseIn μ v5 (fun m78_8 => wX8_waysOf_J81_10 Λ K (K31) v1 v2 v3 (t0 + t1) v5 m78_8)
set_option maxRecDepth 100000 in
set_option maxHeartbeats 4000000 in
theorem kX8_waysOf_J72 {G : hx_GT} {KK : hx_KT} (hG : hx_K cX8_waysOf 8 0 0 (some .long) TbX8 KK G) (cA : hx_CA RX8 cX8_waysOf 5 0 0 G) {Λ : hx_L} (hF : cF Λ) {μ : hx_M} (v1 : Int32) (v2 : Int32) (v3 : Int32) (v5 : Int32) (t0 : Int32) (t1 : Int32) {K : Int64 → hx_M → Prop} (hK : ∀ (r : Int64) (m : hx_M), K r m → KK (some (.long r)) Λ m) {K31 : Int32 → Int32 → Int32 → hx_M → Prop} (hk31 : ∀ (v3 : Int32) (v4 : Int32) (v5 : Int32) (μ : hx_M), K31 v3 v4 v5 μ → G Λ μ (0, 0) 31 [some (.ref 37), some (.int v1), some (.int v2), some (.int v3), some (.int v4), some (.int v5), none, none] []) (hw : wX8_waysOf_J72 Λ K K31 v1 v2 v3 v5 t0 t1 μ) : G Λ μ (0, 0) 72 [some (.ref 37), some (.int v1), some (.int v2), some (.int v3), none, some (.int v5), none, none] [.int t1, .int t0] := by
  unfold wX8_waysOf_J72 at hw
  refine cl_iadd hG (hx_dq tdX8_waysOf_1 7 rfl) (cl_istore hG (hx_dq tdX8_waysOf_1 8 rfl) (Nat.le_of_ble_eq_true rfl) rfl (cl_aload_n hG (hx_dq tdX8_waysOf_1 9 rfl) rfl (cl_iload hG (hx_dq tdX8_waysOf_1 10 rfl) rfl (cl_callV1 (caX8_waysOf_44 cA) (hx_dq tdX8_waysOf_1 11 rfl) (cF_S37 hF) (Nat.le_of_ble_eq_true rfl) (Nat.le_refl _) (Nat.le_refl _) (sX8_chooseIn_mk hF hw (fun m78_8 hw => ?_))))))
  exact cl_sub hG (hx_le_c rfl (hx_le_c rfl (hx_le_c rfl (hx_le_c rfl (hx_le_c rfl (hx_le_c rfl (hx_le_n (hx_le_n hx_le_0)))))))) (kX8_waysOf_J81_10 hG cA hF v1 v2 v3 (t0 + t1) v5 hK (fun z0 z1 z2 z3 hw => hk31 z0 z1 z2 z3 hw) hw)
def wX8_waysOf_L31 (Λ : hx_L) (v1 : Int32) (v2 : Int32) (K : Int64 → hx_M → Prop) (K87 : Int32 → hx_M → Prop) : Nat → Int32 → Int32 → Int32 → hx_M → Prop
  | 0, _, _, _, _ => False
  | n + 1, v3, v4, v5, μ => (v5 < 0 → (K87 v4 μ)) ∧ (¬ (v5 < 0) → ((12 ≤ v3 → (K87 v4 μ)) ∧ (¬ (12 ≤ v3) → (wX8_isShown μ v1 v5 (fun r46_5 => (r46_5 = 0 → (wX8_waysOf_J81 Λ K (wX8_waysOf_L31 Λ v1 v2 K K87 n) v1 v2 v3 v4 v5 μ)) ∧ (¬ (r46_5 = 0) → (wX8_isFollowed μ v1 v5 (fun r61_7 => (r61_7 = 0 → (wX8_waysOf_J72 Λ K (wX8_waysOf_L31 Λ v1 v2 K K87 n) v1 v2 (v3 + 1) v5 v4 0 μ)) ∧ (¬ (r61_7 = 0) → (wX8_waysOf_J72 Λ K (wX8_waysOf_L31 Λ v1 v2 K K87 n) v1 v2 (v3 + 1) v5 v4 1 μ))))))))))
set_option maxRecDepth 100000 in
set_option maxHeartbeats 4000000 in
theorem kX8_waysOf_L31 {G : hx_GT} {KK : hx_KT} (hG : hx_K cX8_waysOf 8 0 0 (some .long) TbX8 KK G) (cA : hx_CA RX8 cX8_waysOf 5 0 0 G) {Λ : hx_L} (hF : cF Λ)  (v1 : Int32) (v2 : Int32) {K : Int64 → hx_M → Prop} (hK : ∀ (r : Int64) (m : hx_M), K r m → KK (some (.long r)) Λ m) {K87 : Int32 → hx_M → Prop} (hk87 : ∀ (v4 : Int32) (μ : hx_M), K87 v4 μ → G Λ μ (0, 0) 87 [some (.ref 37), none, some (.int v2), none, some (.int v4), none, none, none] []) : ∀ (n : Nat) (v3 : Int32) (v4 : Int32) (v5 : Int32) (μ : hx_M), wX8_waysOf_L31 Λ v1 v2 K K87 n v3 v4 v5 μ → G Λ μ (0, 0) 31 [some (.ref 37), some (.int v1), some (.int v2), some (.int v3), some (.int v4), some (.int v5), none, none] [] := by
  intro n
  induction n with
  | zero =>
    intro v3 v4 v5 μ hw
    exact False.elim (by simpa only [wX8_waysOf_L31] using hw)
  | succ n ih =>
    intro v3 v4 v5 μ hw
    unfold wX8_waysOf_L31 at hw
    refine cl_iload hG (hx_dq tdX8_waysOf_0 19 rfl) rfl (cl_if_lt hG 87 (hx_dq tdX8_waysOf_0 20 rfl) rfl (fun c33 => ?_) (fun c33 => ?_))
    · replace hw := hw.1 c33
      exact cl_sub hG (hx_le_c rfl (hx_le_n (hx_le_c rfl (hx_le_n (hx_le_c rfl (hx_le_n (hx_le_n (hx_le_n hx_le_0)))))))) (hk87 v4 _ hw)
    · replace hw := hw.2 c33
      refine cl_iload_n hG (hx_dq tdX8_waysOf_0 21 rfl) rfl (cl_bipush hG 12 (hx_dq tdX8_waysOf_0 22 rfl) bipush_12 (cl_icmp_ge hG 87 (hx_dq tdX8_waysOf_0 23 rfl) rfl (fun c39 => ?_) (fun c39 => ?_)))
      · replace hw := hw.1 c39
        exact cl_sub hG (hx_le_c rfl (hx_le_n (hx_le_c rfl (hx_le_n (hx_le_c rfl (hx_le_n (hx_le_n (hx_le_n hx_le_0)))))))) (hk87 v4 _ hw)
      · replace hw := hw.2 c39
        refine cl_aload_n hG (hx_dq tdX8_waysOf_0 24 rfl) rfl (cl_iload_n hG (hx_dq tdX8_waysOf_0 25 rfl) rfl (cl_iload hG (hx_dq tdX8_waysOf_0 26 rfl) rfl (cl_callV2 (caX8_waysOf_31 cA) (hx_dq tdX8_waysOf_0 27 rfl) (cF_S37 hF) (Nat.le_of_ble_eq_true rfl) (Nat.le_refl _) (Nat.le_refl _) (sX8_isShown_mk hF hw (fun r46_5 hw => ?_)))))
        refine cl_if_eq hG 81 (hx_dq tdX8_waysOf_0 28 rfl) rfl (fun c49 => ?_) (fun c49 => ?_)
        · replace hw := hw.1 c49
          exact cl_sub hG (hx_le_c rfl (hx_le_c rfl (hx_le_c rfl (hx_le_c rfl (hx_le_c rfl (hx_le_c rfl (hx_le_n (hx_le_n hx_le_0)))))))) (kX8_waysOf_J81 hG cA hF v1 v2 v3 v4 v5 hK (fun z0 z1 z2 z3 hw => ih z0 z1 z2 z3 hw) hw)
        · replace hw := hw.2 c49
          refine cl_iinc hG (v3 + 1) (hx_dq tdX8_waysOf_0 29 rfl) rfl (congrArg (fun z => v3 + z) iconst_1) (Nat.le_of_ble_eq_true rfl) rfl (cl_iload hG (hx_dq tdX8_waysOf_0 30 rfl) rfl (cl_aload_n hG (hx_dq tdX8_waysOf_0 31 rfl) rfl (cl_iload_n hG (hx_dq tdX8_waysOf_1 0 rfl) rfl (cl_iload hG (hx_dq tdX8_waysOf_1 1 rfl) rfl (cl_callV2 (caX8_waysOf_35 cA) (hx_dq tdX8_waysOf_1 2 rfl) (cF_S37 hF) (Nat.le_of_ble_eq_true rfl) (Nat.le_refl _) (Nat.le_refl _) (sX8_isFollowed_mk hF hw (fun r61_7 hw => ?_)))))))
          refine cl_if_eq hG 71 (hx_dq tdX8_waysOf_1 3 rfl) rfl (fun c64 => ?_) (fun c64 => ?_)
          · replace hw := hw.1 c64
            refine cl_iconst hG 0 (hx_dq tdX8_waysOf_1 6 rfl) iconst_0 ?_
            exact cl_sub hG (hx_le_c rfl (hx_le_c rfl (hx_le_c rfl (hx_le_c rfl (hx_le_n (hx_le_c rfl (hx_le_n (hx_le_n hx_le_0)))))))) (kX8_waysOf_J72 hG cA hF v1 v2 (v3 + 1) v5 v4 0 hK (fun z0 z1 z2 z3 hw => ih z0 z1 z2 z3 hw) hw)
          · replace hw := hw.2 c64
            refine cl_iconst hG 1 (hx_dq tdX8_waysOf_1 4 rfl) iconst_1 (cl_goto hG 72 (hx_dq tdX8_waysOf_1 5 rfl) rfl ?_)
            exact cl_sub hG (hx_le_c rfl (hx_le_c rfl (hx_le_c rfl (hx_le_c rfl (hx_le_n (hx_le_c rfl (hx_le_n (hx_le_n hx_le_0)))))))) (kX8_waysOf_J72 hG cA hF v1 v2 (v3 + 1) v5 v4 1 hK (fun z0 z1 z2 z3 hw => ih z0 z1 z2 z3 hw) hw)
def wX8_waysOf_L102 (Λ : hx_L) (μ : hx_M) (K : Int64 → hx_M → Prop)  : Nat → Int64 → Int32 → Prop
  | 0, _, _ => False
  | n + 1, v5, v7 => (12 < v7 → (K v5 μ)) ∧ (¬ (12 < v7) → (vp_in v7 13 ∧ wX8_waysOf_L102 Λ μ K n (v5 + (μ.2 38 v7.toNatClampNeg)) (v7 + 1)))
set_option maxRecDepth 100000 in
set_option maxHeartbeats 4000000 in
theorem kX8_waysOf_L102 {G : hx_GT} {KK : hx_KT} (hG : hx_K cX8_waysOf 8 0 0 (some .long) TbX8 KK G) (cA : hx_CA RX8 cX8_waysOf 5 0 0 G) {Λ : hx_L} (hF : cF Λ) {μ : hx_M}  {K : Int64 → hx_M → Prop} (hK : ∀ (r : Int64) (m : hx_M), K r m → KK (some (.long r)) Λ m)  : ∀ (n : Nat) (v5 : Int64) (v7 : Int32), wX8_waysOf_L102 Λ μ K n v5 v7 → G Λ μ (0, 0) 102 [some (.ref 37), none, none, none, none, some (.long v5), none, some (.int v7)] [] := by
  intro n
  induction n with
  | zero =>
    intro v5 v7 hw
    exact False.elim (by simpa only [wX8_waysOf_L102] using hw)
  | succ n ih =>
    intro v5 v7 hw
    unfold wX8_waysOf_L102 at hw
    refine cl_iload hG (hx_dq tdX8_waysOf_1 22 rfl) rfl (cl_bipush hG 12 (hx_dq tdX8_waysOf_1 23 rfl) bipush_12 (cl_icmp_gt hG 127 (hx_dq tdX8_waysOf_1 24 rfl) rfl (fun c106 => ?_) (fun c106 => ?_)))
    · replace hw := hw.1 c106
      exact cl_lload hG (hx_dq tdX8_waysOf_2 2 rfl) rfl (cl_lret hG (hx_dq tdX8_waysOf_2 3 rfl) rfl (hK _ _ hw) (Nat.le_refl _) (Nat.le_refl _))
    · replace hw := hw.2 c106
      obtain ⟨i117_12, hw⟩ := hw
      exact cl_lload hG (hx_dq tdX8_waysOf_1 25 rfl) rfl (cl_aload_n hG (hx_dq tdX8_waysOf_1 26 rfl) rfl (cl_getS hG fmX8_15 (hx_dq tdX8_waysOf_1 27 rfl) (cF_S37 hF) (cF_R37_1 hF) (cl_iload hG (hx_dq tdX8_waysOf_1 28 rfl) rfl (cl_lald hG (hx_dq tdX8_waysOf_1 29 rfl) (cF_S38 hF) i117_12 (cl_ladd hG (hx_dq tdX8_waysOf_1 30 rfl) (cl_lstore hG (hx_dq tdX8_waysOf_1 31 rfl) (Nat.le_of_ble_eq_true rfl) rfl (cl_iinc hG (v7 + 1) (hx_dq tdX8_waysOf_2 0 rfl) rfl (congrArg (fun z => v7 + z) iconst_1) (Nat.le_of_ble_eq_true rfl) rfl (cl_goto hG 102 (hx_dq tdX8_waysOf_2 1 rfl) rfl (cl_sub hG (hx_le_c rfl (hx_le_n (hx_le_n (hx_le_n (hx_le_n (hx_le_c rfl (hx_le_n (hx_le_c rfl hx_le_0)))))))) (ih (v5 + (μ.2 38 v7.toNatClampNeg)) (v7 + 1) hw))))))))))
def wX8_waysOf_J100 (Λ : hx_L) (K : Int64 → hx_M → Prop)  (v5 : Int64) (t0 : Int32) (μ : hx_M) : Prop := ∃ n102_13, wX8_waysOf_L102 Λ μ K n102_13 v5 t0
set_option maxRecDepth 100000 in
set_option maxHeartbeats 4000000 in
theorem kX8_waysOf_J100 {G : hx_GT} {KK : hx_KT} (hG : hx_K cX8_waysOf 8 0 0 (some .long) TbX8 KK G) (cA : hx_CA RX8 cX8_waysOf 5 0 0 G) {Λ : hx_L} (hF : cF Λ) {μ : hx_M} (v5 : Int64) (t0 : Int32) {K : Int64 → hx_M → Prop} (hK : ∀ (r : Int64) (m : hx_M), K r m → KK (some (.long r)) Λ m)  (hw : wX8_waysOf_J100 Λ K v5 t0 μ) : G Λ μ (0, 0) 100 [some (.ref 37), none, none, none, none, some (.long v5), none, none] [.int t0] := by
  unfold wX8_waysOf_J100 at hw
  refine cl_istore hG (hx_dq tdX8_waysOf_1 21 rfl) (Nat.le_of_ble_eq_true rfl) rfl ?_
  obtain ⟨n_, hw⟩ := hw
  refine cl_sub hG (hx_le_c rfl (hx_le_n (hx_le_n (hx_le_n (hx_le_n (hx_le_c rfl (hx_le_n (hx_le_c rfl hx_le_0)))))))) (kX8_waysOf_L102 hG cA hF hK n_ v5 t0 hw)
def wX8_waysOf_J87 (Λ : hx_L) (K : Int64 → hx_M → Prop)  (v2 : Int32) (v4 : Int32)  (μ : hx_M) : Prop := (v2 = 0 → (wX8_waysOf_J100 Λ K 0 v4 μ)) ∧ (¬ (v2 = 0) → (wX8_waysOf_J100 Λ K 0 0 μ))
set_option maxRecDepth 100000 in
set_option maxHeartbeats 4000000 in
theorem kX8_waysOf_J87 {G : hx_GT} {KK : hx_KT} (hG : hx_K cX8_waysOf 8 0 0 (some .long) TbX8 KK G) (cA : hx_CA RX8 cX8_waysOf 5 0 0 G) {Λ : hx_L} (hF : cF Λ) {μ : hx_M} (v2 : Int32) (v4 : Int32)  {K : Int64 → hx_M → Prop} (hK : ∀ (r : Int64) (m : hx_M), K r m → KK (some (.long r)) Λ m)  (hw : wX8_waysOf_J87 Λ K v2 v4 μ) : G Λ μ (0, 0) 87 [some (.ref 37), none, some (.int v2), none, some (.int v4), none, none, none] [] := by
  unfold wX8_waysOf_J87 at hw
  refine cl_lconst hG 0 (hx_dq tdX8_waysOf_1 14 rfl) lconst_0 (cl_lstore hG (hx_dq tdX8_waysOf_1 15 rfl) (Nat.le_of_ble_eq_true rfl) rfl (cl_iload_n hG (hx_dq tdX8_waysOf_1 16 rfl) rfl (cl_if_eq hG 98 (hx_dq tdX8_waysOf_1 17 rfl) rfl (fun c91 => ?_) (fun c91 => ?_))))
  · replace hw := hw.1 c91
    refine cl_iload hG (hx_dq tdX8_waysOf_1 20 rfl) rfl ?_
    exact cl_sub hG (hx_le_c rfl (hx_le_n (hx_le_n (hx_le_n (hx_le_n (hx_le_c rfl (hx_le_n (hx_le_n hx_le_0)))))))) (kX8_waysOf_J100 hG cA hF 0 v4 hK hw)
  · replace hw := hw.2 c91
    refine cl_iconst hG 0 (hx_dq tdX8_waysOf_1 18 rfl) iconst_0 (cl_goto hG 100 (hx_dq tdX8_waysOf_1 19 rfl) rfl ?_)
    exact cl_sub hG (hx_le_c rfl (hx_le_n (hx_le_n (hx_le_n (hx_le_n (hx_le_c rfl (hx_le_n (hx_le_n hx_le_0)))))))) (kX8_waysOf_J100 hG cA hF 0 0 hK hw)
def wX8_waysOf (Λ : hx_L) (μ : hx_M) (v1 : Int32) (v2 : Int32) (K : Int64 → hx_M → Prop) : Prop := wJ7_fill_d0a16 Λ μ 38 0 (fun m5_1 => vp_in 0 13 ∧ ∃ n31_14, wX8_waysOf_L31 Λ v1 v2 K (fun v4_11 m_11 => wX8_waysOf_J87 Λ K v2 v4_11 m_11) n31_14 0 0 ((m5_1.1 7 7) - 1) (hx_sL m5_1 38 ((0 : Int32).toNatClampNeg) 1))
set_option maxRecDepth 100000 in
set_option maxHeartbeats 4000000 in
theorem kX8_waysOf {G : hx_GT} {KK : hx_KT} (hG : hx_K cX8_waysOf 8 0 0 (some .long) TbX8 KK G) (cA : hx_CA RX8 cX8_waysOf 5 0 0 G) {Λ : hx_L} (hF : cF Λ) {μ : hx_M} (v1 : Int32) (v2 : Int32) {K : Int64 → hx_M → Prop} (hK : ∀ (r : Int64) (m : hx_M), K r m → KK (some (.long r)) Λ m) (hw : wX8_waysOf Λ μ v1 v2 K) : G Λ μ (0, 0) 0 [some (.ref 37), some (.int v1), some (.int v2), none, none, none, none, none] [] := by
  unfold wX8_waysOf at hw
  refine cl_aload_n hG (hx_dq tdX8_waysOf_0 0 rfl) rfl (cl_getS hG fmX8_15 (hx_dq tdX8_waysOf_0 1 rfl) (cF_S37 hF) (cF_R37_1 hF) (cl_lconst hG 0 (hx_dq tdX8_waysOf_0 2 rfl) lconst_0 (cl_callS2 (caX8_waysOf_38 cA) (hx_dq tdX8_waysOf_0 3 rfl) (Nat.le_of_ble_eq_true rfl) (Nat.le_refl _) (Nat.le_refl _) (sJ7_fill_d0a16_mk hw (fun m5_1 hw => ?_)))))
  obtain ⟨i14_3, hw⟩ := hw
  refine cl_aload_n hG (hx_dq tdX8_waysOf_0 4 rfl) rfl (cl_getS hG fmX8_15 (hx_dq tdX8_waysOf_0 5 rfl) (cF_S37 hF) (cF_R37_1 hF) (cl_iconst hG 0 (hx_dq tdX8_waysOf_0 6 rfl) iconst_0 (cl_lconst hG 1 (hx_dq tdX8_waysOf_0 7 rfl) lconst_1 (cl_last hG (hx_dq tdX8_waysOf_0 8 rfl) (cF_S38 hF) i14_3 (cl_iconst hG 0 (hx_dq tdX8_waysOf_0 9 rfl) iconst_0 (cl_istore_n hG (hx_dq tdX8_waysOf_0 10 rfl) (Nat.le_of_ble_eq_true rfl) rfl (cl_iconst hG 0 (hx_dq tdX8_waysOf_0 11 rfl) iconst_0 (cl_istore hG (hx_dq tdX8_waysOf_0 12 rfl) (Nat.le_of_ble_eq_true rfl) rfl (cl_aload_n hG (hx_dq tdX8_waysOf_0 13 rfl) rfl (cl_getS hG fmX8_9 (hx_dq tdX8_waysOf_0 14 rfl) (cF_S37 hF) (cF_R37_0 hF) (cl_getI hG fmX8_26 (hx_dq tdX8_waysOf_0 15 rfl) (cF_S7 hF) (cl_iconst hG 1 (hx_dq tdX8_waysOf_0 16 rfl) iconst_1 (cl_isub hG (hx_dq tdX8_waysOf_0 17 rfl) (cl_istore hG (hx_dq tdX8_waysOf_0 18 rfl) (Nat.le_of_ble_eq_true rfl) rfl ?_))))))))))))))
  obtain ⟨n_, hw⟩ := hw
  refine cl_sub hG (hx_le_c rfl (hx_le_c rfl (hx_le_c rfl (hx_le_c rfl (hx_le_c rfl (hx_le_c rfl (hx_le_n (hx_le_n hx_le_0)))))))) (kX8_waysOf_L31 hG cA hF v1 v2 hK (fun v4_11 m_11 hw => ?_) n_ 0 0 ((m5_1.1 7 7) - 1) _ hw)
  · exact cl_sub hG (hx_le_c rfl (hx_le_n (hx_le_c rfl (hx_le_n (hx_le_c rfl (hx_le_n (hx_le_n (hx_le_n hx_le_0)))))))) (kX8_waysOf_J87 hG cA hF v2 v4_11 hK hw)
def sX8_waysOf : hx_ST := fun Λ μ as KK => cF Λ ∧ ∃ (v1 : Int32) (v2 : Int32) (K : Int64 → hx_M → Prop), as = [.ref 37, .int v1, .int v2] ∧ wX8_waysOf Λ μ v1 v2 K ∧ (∀ (r : Int64) (m : hx_M), K r m → KK (some (.long r)) Λ m)
theorem sX8_waysOf_mk {Λ : hx_L} {μ : hx_M} {KK : hx_KT} {v1 : Int32} {v2 : Int32} {K : Int64 → hx_M → Prop} (hF : cF Λ) (hw : wX8_waysOf Λ μ v1 v2 K) (hk : ∀ (r : Int64) (m : hx_M), K r m → KK (some (.long r)) Λ m) : sX8_waysOf Λ μ [.ref 37, .int v1, .int v2] KK := ⟨hF, _, _, _, rfl, hw, hk⟩
theorem conX8_waysOf : hx_Con yX8_waysOf cX8_waysOf 8 (some .long) 5 0 0 sX8_waysOf := by
  refine hx_con_of (by decide +kernel) tokX8 (by decide) ?_ ?_
  · intro Λ μ as KK h
    obtain ⟨hF, v1, v2, K, rfl, hw, hK⟩ := h
    exact Nat.le_of_ble_eq_true rfl
  · intro G KK hG cA Λ μ as h
    obtain ⟨hF, v1, v2, K, rfl, hw, hK⟩ := h
    exact cl_sub hG (hx_le_c rfl (hx_le_c rfl (hx_le_c rfl (hx_le_n (hx_le_n (hx_le_n (hx_le_n (hx_le_n hx_le_0)))))))) (kX8_waysOf hG cA hF _ _ hK hw)
/-! java/lang/Integer.compare(II)I -/
def tbJ6_compare_7cf53_0 : List (Nat × Instr × Nat) := [(0, .iload_n 0, 1), (1, .iload_n 1, 1), (2, .if_icmp .ge 7, 3), (5, .iconst (-1), 1), (6, .goto 13, 3), (9, .iload_n 0, 1), (10, .iload_n 1, 1), (11, .if_icmp .ne 7, 3), (14, .iconst 0, 1), (15, .goto 4, 3), (18, .iconst 1, 1), (19, .ireturn, 1)]
theorem tdJ6_compare_7cf53_0 : hx_dt cJ6_compare_7cf53 tbJ6_compare_7cf53_0 = true := by decide +kernel
def wJ6_compare_7cf53  (v0 : Int32) (v1 : Int32) (K : Int32 → Prop) : Prop := (v1 ≤ v0 → ((v0 ≠ v1 → (K 1)) ∧ (v0 = v1 → (K 0)))) ∧ (¬ (v1 ≤ v0) → (K (-1)))
set_option maxRecDepth 100000 in
set_option maxHeartbeats 4000000 in
theorem kJ6_compare_7cf53 {G : hx_GT} {KK : hx_KT} (hG : hx_K cJ6_compare_7cf53 2 0 0 (some .int) TbJ6 KK G) (cA : hx_CA RJ6 cJ6_compare_7cf53 1 0 0 G) {Λ : hx_L}  {μ : hx_M} (v0 : Int32) (v1 : Int32) {K : Int32 → Prop} (hK : ∀ (r : Int32), K r → KK (some (.int r)) Λ μ) (hw : wJ6_compare_7cf53 v0 v1 K) : G Λ μ (0, 0) 0 [some (.int v0), some (.int v1)] [] := by
  unfold wJ6_compare_7cf53 at hw
  refine cl_iload_n hG (hx_dq tdJ6_compare_7cf53_0 0 rfl) rfl (cl_iload_n hG (hx_dq tdJ6_compare_7cf53_0 1 rfl) rfl (cl_icmp_ge hG 9 (hx_dq tdJ6_compare_7cf53_0 2 rfl) rfl (fun c2 => ?_) (fun c2 => ?_)))
  · replace hw := hw.1 c2
    refine cl_iload_n hG (hx_dq tdJ6_compare_7cf53_0 5 rfl) rfl (cl_iload_n hG (hx_dq tdJ6_compare_7cf53_0 6 rfl) rfl (cl_icmp_ne hG 18 (hx_dq tdJ6_compare_7cf53_0 7 rfl) rfl (fun c11 => ?_) (fun c11 => ?_)))
    · replace hw := hw.1 c11
      exact cl_iconst hG 1 (hx_dq tdJ6_compare_7cf53_0 10 rfl) iconst_1 (cl_iret hG (hx_dq tdJ6_compare_7cf53_0 11 rfl) rfl rfl (hK _ hw) (Nat.le_refl _) (Nat.le_refl _))
    · replace hw := hw.2 c11
      exact cl_iconst hG 0 (hx_dq tdJ6_compare_7cf53_0 8 rfl) iconst_0 (cl_goto hG 19 (hx_dq tdJ6_compare_7cf53_0 9 rfl) rfl (cl_iret hG (hx_dq tdJ6_compare_7cf53_0 11 rfl) rfl rfl (hK _ hw) (Nat.le_refl _) (Nat.le_refl _)))
  · replace hw := hw.2 c2
    exact cl_iconst hG (-1) (hx_dq tdJ6_compare_7cf53_0 3 rfl) iconst_m1 (cl_goto hG 19 (hx_dq tdJ6_compare_7cf53_0 4 rfl) rfl (cl_iret hG (hx_dq tdJ6_compare_7cf53_0 11 rfl) rfl rfl (hK _ hw) (Nat.le_refl _) (Nat.le_refl _)))
def sJ6_compare_7cf53 : hx_ST := fun Λ μ as KK => ∃ (v0 : Int32) (v1 : Int32) (K : Int32 → Prop), as = [.int v0, .int v1] ∧ wJ6_compare_7cf53 v0 v1 K ∧ (∀ (r : Int32), K r → KK (some (.int r)) Λ μ)
theorem sJ6_compare_7cf53_mk {Λ : hx_L} {μ : hx_M} {KK : hx_KT} {v0 : Int32} {v1 : Int32} {K : Int32 → Prop}  (hw : wJ6_compare_7cf53 v0 v1 K) (hk : ∀ (r : Int32), K r → KK (some (.int r)) Λ μ) : sJ6_compare_7cf53 Λ μ [.int v0, .int v1] KK := ⟨_, _, _, rfl, hw, hk⟩
theorem conJ6_compare_7cf53 : hx_Con yJ6_compare_7cf53 cJ6_compare_7cf53 2 (some .int) 1 0 0 sJ6_compare_7cf53 := by
  refine hx_con_of (by decide +kernel) tokJ6 (by decide) ?_ ?_
  · intro Λ μ as KK h
    obtain ⟨v0, v1, K, rfl, hw, hK⟩ := h
    exact Nat.le_of_ble_eq_true rfl
  · intro G KK hG cA Λ μ as h
    obtain ⟨v0, v1, K, rfl, hw, hK⟩ := h
    exact cl_sub hG (hx_le_c rfl (hx_le_c rfl hx_le_0)) (kJ6_compare_7cf53 hG cA _ _ hK hw)
/-! HemLine$Signs.gather(I)V -/
def tbX8_gather_0 : List (Nat × Instr × Nat) := [(0, .aload_n 0, 1), (1, .iconst 0, 1), (2, .putfield 19, 3), (5, .aload_n 0, 1), (6, .iconst 0, 1), (7, .putfield 23, 3), (10, .aload_n 0, 1), (11, .getfield 9, 3), (14, .getfield 48, 3), (17, .getfield 67, 3), (20, .astore_n 2, 1), (21, .aload_n 0, 1), (22, .getfield 9, 3), (25, .getfield 26, 3), (28, .istore_n 3, 1), (29, .iload_n 3, 1), (30, .iload_n 1, 1), (31, .if_icmp .le 99, 3), (34, .aload_n 0, 1), (35, .getfield 19, 3), (38, .bipush 40, 2), (40, .if_icmp .ge 90, 3), (43, .aload_n 2, 1), (44, .iload_n 3, 1), (45, .iload_n 1, 1), (46, .isub, 1), (47, .iaload, 1), (48, .aload_n 2, 1), (49, .iload_n 3, 1), (50, .iload_n 1, 1), (51, .isub, 1), (52, .iconst 1, 1)]
def tbX8_gather_1 : List (Nat × Instr × Nat) := [(53, .isub, 1), (54, .iaload, 1), (55, .invokestatic 71, 3), (58, .istore 4, 2), (60, .aload_n 0, 1), (61, .getfield 9, 3), (64, .iload_n 3, 1), (65, .invokevirtual 58, 3), (68, .aload_n 0, 1), (69, .getfield 9, 3), (72, .iload_n 3, 1), (73, .iconst 1, 1), (74, .isub, 1), (75, .invokevirtual 58, 3), (78, .invokestatic 71, 3), (81, .istore 5, 2), (83, .iload 4, 2), (85, .ifCond .eq 39, 3), (88, .iload 5, 2), (90, .ifCond .eq 34, 3), (93, .aload_n 0, 1), (94, .dup, 1), (95, .getfield 19, 3), (98, .iconst 1, 1), (99, .iadd, 1), (100, .putfield 19, 3), (103, .aload_n 0, 1), (104, .dup, 1), (105, .getfield 23, 3), (108, .iload 4, 2), (110, .iload 5, 2), (112, .if_icmp .ne 7, 3)]
def tbX8_gather_2 : List (Nat × Instr × Nat) := [(115, .iconst 1, 1), (116, .goto 4, 3), (119, .iconst 0, 1), (120, .iadd, 1), (121, .putfield 23, 3), (124, .iinc 3 (-1), 3), (127, .goto (-98), 3), (130, .return_, 1)]
theorem tdX8_gather_0 : hx_dt cX8_gather tbX8_gather_0 = true := by decide +kernel
theorem tdX8_gather_1 : hx_dt cX8_gather tbX8_gather_1 = true := by decide +kernel
theorem tdX8_gather_2 : hx_dt cX8_gather tbX8_gather_2 = true := by decide +kernel
theorem caX8_gather_58 {G : hx_GT} (cA : hx_CA RX8 cX8_gather 2 0 0 G) : hx_CV cX8_gather G 0 0 58 10 1 sX10_lineAt 0 0 := cA.1 conX10_lineAt rfl rfl ⟨by decide +kernel, by decide +kernel, by decide +kernel⟩ mw_930 mw_792 mw_793 mw_86 mw_794 (by decide) (by decide)
theorem caX8_gather_71 {G : hx_GT} (cA : hx_CA RX8 cX8_gather 2 0 0 G) : hx_CS cX8_gather G 0 0 71 2 sJ6_compare_7cf53 0 0 := cA.2.1 conJ6_compare_7cf53 ⟨by decide +kernel, by decide +kernel, by decide +kernel⟩ mw_960 mw_961 mw_104 mw_962 (by decide) (by decide)
def wX8_gather_J124  (K : hx_M → Prop) (K29 : Int32 → hx_M → Prop) (v1 : Int32) (v3 : Int32)  (μ : hx_M) : Prop := K29 (v3 + (-1)) μ
set_option maxRecDepth 100000 in
set_option maxHeartbeats 4000000 in
theorem kX8_gather_J124 {G : hx_GT} {KK : hx_KT} (hG : hx_K cX8_gather 6 0 0 (none) TbX8 KK G) (cA : hx_CA RX8 cX8_gather 2 0 0 G) {Λ : hx_L} (hF : cF Λ) {μ : hx_M} (v1 : Int32) (v3 : Int32)  {K : hx_M → Prop} (hK : ∀ (m : hx_M), K m → KK none Λ m) {K29 : Int32 → hx_M → Prop} (hk29 : ∀ (v3 : Int32) (μ : hx_M), K29 v3 μ → G Λ μ (0, 0) 29 [some (.ref 37), some (.int v1), some (.ref 20), some (.int v3), none, none] []) (hw : wX8_gather_J124 K K29 v1 v3 μ) : G Λ μ (0, 0) 124 [some (.ref 37), some (.int v1), some (.ref 20), some (.int v3), none, none] [] := by
  unfold wX8_gather_J124 at hw
  exact cl_iinc hG (v3 + (-1)) (hx_dq tdX8_gather_2 5 rfl) rfl (congrArg (fun z => v3 + z) iconst_m1) (Nat.le_of_ble_eq_true rfl) rfl (cl_goto hG 29 (hx_dq tdX8_gather_2 6 rfl) rfl (cl_sub hG (hx_le_c rfl (hx_le_c rfl (hx_le_c rfl (hx_le_c rfl (hx_le_n (hx_le_n hx_le_0)))))) (hk29 (v3 + (-1)) _ hw)))
def wX8_gather_J124_11  (K : hx_M → Prop) (K29 : Int32 → hx_M → Prop) (v1 : Int32) (v3 : Int32)  (μ : hx_M) : Prop := K29 (v3 + (-1)) μ
set_option maxRecDepth 100000 in
set_option maxHeartbeats 4000000 in
theorem kX8_gather_J124_11 {G : hx_GT} {KK : hx_KT} (hG : hx_K cX8_gather 6 0 0 (none) TbX8 KK G) (cA : hx_CA RX8 cX8_gather 2 0 0 G) {Λ : hx_L} (hF : cF Λ) {μ : hx_M} (v1 : Int32) (v3 : Int32)  {K : hx_M → Prop} (hK : ∀ (m : hx_M), K m → KK none Λ m) {K29 : Int32 → hx_M → Prop} (hk29 : ∀ (v3 : Int32) (μ : hx_M), K29 v3 μ → G Λ μ (0, 0) 29 [some (.ref 37), some (.int v1), some (.ref 20), some (.int v3), none, none] []) (hw : wX8_gather_J124_11 K K29 v1 v3 μ) : G Λ μ (0, 0) 124 [some (.ref 37), some (.int v1), some (.ref 20), some (.int v3), none, none] [] := by
  unfold wX8_gather_J124_11 at hw
  exact cl_iinc hG (v3 + (-1)) (hx_dq tdX8_gather_2 5 rfl) rfl (congrArg (fun z => v3 + z) iconst_m1) (Nat.le_of_ble_eq_true rfl) rfl (cl_goto hG 29 (hx_dq tdX8_gather_2 6 rfl) rfl (cl_sub hG (hx_le_c rfl (hx_le_c rfl (hx_le_c rfl (hx_le_c rfl (hx_le_n (hx_le_n hx_le_0)))))) (hk29 (v3 + (-1)) _ hw)))
def wX8_gather_J120  (K : hx_M → Prop) (K29 : Int32 → hx_M → Prop) (v1 : Int32) (v3 : Int32) (t1 : Int32) (t2 : Int32) (μ : hx_M) : Prop := wX8_gather_J124_11 K (K29) v1 v3 (hx_sI μ 37 3 (t1 + t2))
set_option maxRecDepth 100000 in
set_option maxHeartbeats 4000000 in
theorem kX8_gather_J120 {G : hx_GT} {KK : hx_KT} (hG : hx_K cX8_gather 6 0 0 (none) TbX8 KK G) (cA : hx_CA RX8 cX8_gather 2 0 0 G) {Λ : hx_L} (hF : cF Λ) {μ : hx_M} (v1 : Int32) (v3 : Int32) (t1 : Int32) (t2 : Int32) {K : hx_M → Prop} (hK : ∀ (m : hx_M), K m → KK none Λ m) {K29 : Int32 → hx_M → Prop} (hk29 : ∀ (v3 : Int32) (μ : hx_M), K29 v3 μ → G Λ μ (0, 0) 29 [some (.ref 37), some (.int v1), some (.ref 20), some (.int v3), none, none] []) (hw : wX8_gather_J120 K K29 v1 v3 t1 t2 μ) : G Λ μ (0, 0) 120 [some (.ref 37), some (.int v1), some (.ref 20), some (.int v3), none, none] [.int t2, .int t1, .ref 37] := by
  unfold wX8_gather_J120 at hw
  refine cl_iadd hG (hx_dq tdX8_gather_2 3 rfl) (cl_putI hG fmX8_23 (hx_dq tdX8_gather_2 4 rfl) (cF_S37 hF) ?_)
  exact cl_sub hG (hx_le_c rfl (hx_le_c rfl (hx_le_c rfl (hx_le_c rfl (hx_le_n (hx_le_n hx_le_0)))))) (kX8_gather_J124_11 hG cA hF v1 v3 hK (fun z0 z1 hw => hk29 z0 z1 hw) hw)
def wX8_gather_L29 (v1 : Int32) (K : hx_M → Prop)  : Nat → Int32 → hx_M → Prop
  | 0, _, _ => False
  | n + 1, v3, μ => (v3 ≤ v1 → (K μ)) ∧ (¬ (v3 ≤ v1) → ((40 ≤ (μ.1 37 2) → (K μ)) ∧ (¬ (40 ≤ (μ.1 37 2)) → (vp_in (v3 - v1) 301 ∧ vp_in ((v3 - v1) - 1) 301 ∧ wJ6_compare_7cf53 ((μ.1 20 ((v3 - v1).toNatClampNeg))) ((μ.1 20 (((v3 - v1) - 1).toNatClampNeg))) (fun r55_4 => wX10_lineAt μ v3 (fun r65_6 => wX10_lineAt μ (v3 - 1) (fun r75_8 => wJ6_compare_7cf53 r65_6 r75_8 (fun r78_10 => (r55_4 = 0 → (wX8_gather_J124 K (wX8_gather_L29 v1 K n) v1 v3 μ)) ∧ (¬ (r55_4 = 0) → ((r78_10 = 0 → (wX8_gather_J124 K (wX8_gather_L29 v1 K n) v1 v3 μ)) ∧ (¬ (r78_10 = 0) → ((r55_4 ≠ r78_10 → (wX8_gather_J120 K (wX8_gather_L29 v1 K n) v1 v3 (μ.1 37 3) 0 (hx_sI μ 37 2 ((μ.1 37 2) + 1)))) ∧ (r55_4 = r78_10 → (wX8_gather_J120 K (wX8_gather_L29 v1 K n) v1 v3 (μ.1 37 3) 1 (hx_sI μ 37 2 ((μ.1 37 2) + 1))))))))))))))))
set_option maxRecDepth 100000 in
set_option maxHeartbeats 4000000 in
theorem kX8_gather_L29 {G : hx_GT} {KK : hx_KT} (hG : hx_K cX8_gather 6 0 0 (none) TbX8 KK G) (cA : hx_CA RX8 cX8_gather 2 0 0 G) {Λ : hx_L} (hF : cF Λ)  (v1 : Int32) {K : hx_M → Prop} (hK : ∀ (m : hx_M), K m → KK none Λ m)  : ∀ (n : Nat) (v3 : Int32) (μ : hx_M), wX8_gather_L29 v1 K n v3 μ → G Λ μ (0, 0) 29 [some (.ref 37), some (.int v1), some (.ref 20), some (.int v3), none, none] [] := by
  intro n
  induction n with
  | zero =>
    intro v3 μ hw
    exact False.elim (by simpa only [wX8_gather_L29] using hw)
  | succ n ih =>
    intro v3 μ hw
    unfold wX8_gather_L29 at hw
    refine cl_iload_n hG (hx_dq tdX8_gather_0 15 rfl) rfl (cl_iload_n hG (hx_dq tdX8_gather_0 16 rfl) rfl (cl_icmp_le hG 130 (hx_dq tdX8_gather_0 17 rfl) rfl (fun c31 => ?_) (fun c31 => ?_)))
    · replace hw := hw.1 c31
      exact cl_vret hG (hx_dq tdX8_gather_2 7 rfl) rfl (hK _ hw) (Nat.le_refl _) (Nat.le_refl _)
    · replace hw := hw.2 c31
      refine cl_aload_n hG (hx_dq tdX8_gather_0 18 rfl) rfl (cl_getI hG fmX8_19 (hx_dq tdX8_gather_0 19 rfl) (cF_S37 hF) (cl_bipush hG 40 (hx_dq tdX8_gather_0 20 rfl) bipush_40 (cl_icmp_ge hG 130 (hx_dq tdX8_gather_0 21 rfl) rfl (fun c40 => ?_) (fun c40 => ?_))))
      · replace hw := hw.1 c40
        exact cl_vret hG (hx_dq tdX8_gather_2 7 rfl) rfl (hK _ hw) (Nat.le_refl _) (Nat.le_refl _)
      · replace hw := hw.2 c40
        obtain ⟨i47_1, hw⟩ := hw
        obtain ⟨i54_2, hw⟩ := hw
        refine cl_aload_n hG (hx_dq tdX8_gather_0 22 rfl) rfl (cl_iload_n hG (hx_dq tdX8_gather_0 23 rfl) rfl (cl_iload_n hG (hx_dq tdX8_gather_0 24 rfl) rfl (cl_isub hG (hx_dq tdX8_gather_0 25 rfl) (cl_iald hG (hx_dq tdX8_gather_0 26 rfl) (cF_S20 hF) i47_1 (cl_aload_n hG (hx_dq tdX8_gather_0 27 rfl) rfl (cl_iload_n hG (hx_dq tdX8_gather_0 28 rfl) rfl (cl_iload_n hG (hx_dq tdX8_gather_0 29 rfl) rfl (cl_isub hG (hx_dq tdX8_gather_0 30 rfl) (cl_iconst hG 1 (hx_dq tdX8_gather_0 31 rfl) iconst_1 (cl_isub hG (hx_dq tdX8_gather_1 0 rfl) (cl_iald hG (hx_dq tdX8_gather_1 1 rfl) (cF_S20 hF) i54_2 (cl_callS2 (caX8_gather_71 cA) (hx_dq tdX8_gather_1 2 rfl) (Nat.le_of_ble_eq_true rfl) (Nat.le_refl _) (Nat.le_refl _) (sJ6_compare_7cf53_mk hw (fun r55_4 hw => ?_))))))))))))))
        refine cl_istore hG (hx_dq tdX8_gather_1 3 rfl) (Nat.le_of_ble_eq_true rfl) rfl (cl_aload_n hG (hx_dq tdX8_gather_1 4 rfl) rfl (cl_getS hG fmX8_9 (hx_dq tdX8_gather_1 5 rfl) (cF_S37 hF) (cF_R37_0 hF) (cl_iload_n hG (hx_dq tdX8_gather_1 6 rfl) rfl (cl_callV1 (caX8_gather_58 cA) (hx_dq tdX8_gather_1 7 rfl) (cF_S7 hF) (Nat.le_of_ble_eq_true rfl) (Nat.le_refl _) (Nat.le_refl _) (sX10_lineAt_mk hF hw (fun r65_6 hw => ?_))))))
        refine cl_aload_n hG (hx_dq tdX8_gather_1 8 rfl) rfl (cl_getS hG fmX8_9 (hx_dq tdX8_gather_1 9 rfl) (cF_S37 hF) (cF_R37_0 hF) (cl_iload_n hG (hx_dq tdX8_gather_1 10 rfl) rfl (cl_iconst hG 1 (hx_dq tdX8_gather_1 11 rfl) iconst_1 (cl_isub hG (hx_dq tdX8_gather_1 12 rfl) (cl_callV1 (caX8_gather_58 cA) (hx_dq tdX8_gather_1 13 rfl) (cF_S7 hF) (Nat.le_of_ble_eq_true rfl) (Nat.le_refl _) (Nat.le_refl _) (sX10_lineAt_mk hF hw (fun r75_8 hw => ?_)))))))
        refine cl_callS2 (caX8_gather_71 cA) (hx_dq tdX8_gather_1 14 rfl) (Nat.le_of_ble_eq_true rfl) (Nat.le_refl _) (Nat.le_refl _) (sJ6_compare_7cf53_mk hw (fun r78_10 hw => ?_))
        refine cl_istore hG (hx_dq tdX8_gather_1 15 rfl) (Nat.le_of_ble_eq_true rfl) rfl (cl_iload hG (hx_dq tdX8_gather_1 16 rfl) rfl (cl_if_eq hG 124 (hx_dq tdX8_gather_1 17 rfl) rfl (fun c85 => ?_) (fun c85 => ?_)))
        · replace hw := hw.1 c85
          exact cl_sub hG (hx_le_c rfl (hx_le_c rfl (hx_le_c rfl (hx_le_c rfl (hx_le_n (hx_le_n hx_le_0)))))) (kX8_gather_J124 hG cA hF v1 v3 hK (fun z0 z1 hw => ih z0 z1 hw) hw)
        · replace hw := hw.2 c85
          refine cl_iload hG (hx_dq tdX8_gather_1 18 rfl) rfl (cl_if_eq hG 124 (hx_dq tdX8_gather_1 19 rfl) rfl (fun c90 => ?_) (fun c90 => ?_))
          · replace hw := hw.1 c90
            exact cl_sub hG (hx_le_c rfl (hx_le_c rfl (hx_le_c rfl (hx_le_c rfl (hx_le_n (hx_le_n hx_le_0)))))) (kX8_gather_J124 hG cA hF v1 v3 hK (fun z0 z1 hw => ih z0 z1 hw) hw)
          · replace hw := hw.2 c90
            refine cl_aload_n hG (hx_dq tdX8_gather_1 20 rfl) rfl (cl_dup hG (hx_dq tdX8_gather_1 21 rfl) rfl (cl_getI hG fmX8_19 (hx_dq tdX8_gather_1 22 rfl) (cF_S37 hF) (cl_iconst hG 1 (hx_dq tdX8_gather_1 23 rfl) iconst_1 (cl_iadd hG (hx_dq tdX8_gather_1 24 rfl) (cl_putI hG fmX8_19 (hx_dq tdX8_gather_1 25 rfl) (cF_S37 hF) (cl_aload_n hG (hx_dq tdX8_gather_1 26 rfl) rfl (cl_dup hG (hx_dq tdX8_gather_1 27 rfl) rfl (cl_getI hG fmX8_23 (hx_dq tdX8_gather_1 28 rfl) (cF_S37 hF) (cl_iload hG (hx_dq tdX8_gather_1 29 rfl) rfl (cl_iload hG (hx_dq tdX8_gather_1 30 rfl) rfl (cl_icmp_ne hG 119 (hx_dq tdX8_gather_1 31 rfl) rfl (fun c112 => ?_) (fun c112 => ?_))))))))))))
            · replace hw := hw.1 c112
              refine cl_iconst hG 0 (hx_dq tdX8_gather_2 2 rfl) iconst_0 ?_
              exact cl_sub hG (hx_le_c rfl (hx_le_c rfl (hx_le_c rfl (hx_le_c rfl (hx_le_n (hx_le_n hx_le_0)))))) (kX8_gather_J120 hG cA hF v1 v3 (μ.1 37 3) 0 hK (fun z0 z1 hw => ih z0 z1 hw) hw)
            · replace hw := hw.2 c112
              refine cl_iconst hG 1 (hx_dq tdX8_gather_2 0 rfl) iconst_1 (cl_goto hG 120 (hx_dq tdX8_gather_2 1 rfl) rfl ?_)
              exact cl_sub hG (hx_le_c rfl (hx_le_c rfl (hx_le_c rfl (hx_le_c rfl (hx_le_n (hx_le_n hx_le_0)))))) (kX8_gather_J120 hG cA hF v1 v3 (μ.1 37 3) 1 hK (fun z0 z1 hw => ih z0 z1 hw) hw)
def wX8_gather (μ : hx_M) (v1 : Int32) (K : hx_M → Prop) : Prop := ∃ n29_12, wX8_gather_L29 v1 K n29_12 (μ.1 7 7) (hx_sI (hx_sI μ 37 2 0) 37 3 0)
set_option maxRecDepth 100000 in
set_option maxHeartbeats 4000000 in
theorem kX8_gather {G : hx_GT} {KK : hx_KT} (hG : hx_K cX8_gather 6 0 0 (none) TbX8 KK G) (cA : hx_CA RX8 cX8_gather 2 0 0 G) {Λ : hx_L} (hF : cF Λ) {μ : hx_M} (v1 : Int32) {K : hx_M → Prop} (hK : ∀ (m : hx_M), K m → KK none Λ m) (hw : wX8_gather μ v1 K) : G Λ μ (0, 0) 0 [some (.ref 37), some (.int v1), none, none, none, none] [] := by
  unfold wX8_gather at hw
  refine cl_aload_n hG (hx_dq tdX8_gather_0 0 rfl) rfl (cl_iconst hG 0 (hx_dq tdX8_gather_0 1 rfl) iconst_0 (cl_putI hG fmX8_19 (hx_dq tdX8_gather_0 2 rfl) (cF_S37 hF) (cl_aload_n hG (hx_dq tdX8_gather_0 3 rfl) rfl (cl_iconst hG 0 (hx_dq tdX8_gather_0 4 rfl) iconst_0 (cl_putI hG fmX8_23 (hx_dq tdX8_gather_0 5 rfl) (cF_S37 hF) (cl_aload_n hG (hx_dq tdX8_gather_0 6 rfl) rfl (cl_getS hG fmX8_9 (hx_dq tdX8_gather_0 7 rfl) (cF_S37 hF) (cF_R37_0 hF) (cl_getS hG fmX8_48 (hx_dq tdX8_gather_0 8 rfl) (cF_S7 hF) (cF_R7_1 hF) (cl_getS hG fmX8_67 (hx_dq tdX8_gather_0 9 rfl) (cF_S15 hF) (cF_R15_5 hF) (cl_astore_n hG (hx_dq tdX8_gather_0 10 rfl) (Nat.le_of_ble_eq_true rfl) rfl (cl_aload_n hG (hx_dq tdX8_gather_0 11 rfl) rfl (cl_getS hG fmX8_9 (hx_dq tdX8_gather_0 12 rfl) (cF_S37 hF) (cF_R37_0 hF) (cl_getI hG fmX8_26 (hx_dq tdX8_gather_0 13 rfl) (cF_S7 hF) (cl_istore_n hG (hx_dq tdX8_gather_0 14 rfl) (Nat.le_of_ble_eq_true rfl) rfl ?_))))))))))))))
  obtain ⟨n_, hw⟩ := hw
  refine cl_sub hG (hx_le_c rfl (hx_le_c rfl (hx_le_c rfl (hx_le_c rfl (hx_le_n (hx_le_n hx_le_0)))))) (kX8_gather_L29 hG cA hF v1 hK n_ (μ.1 7 7) _ hw)
def sX8_gather : hx_ST := fun Λ μ as KK => cF Λ ∧ ∃ (v1 : Int32) (K : hx_M → Prop), as = [.ref 37, .int v1] ∧ wX8_gather μ v1 K ∧ (∀ (m : hx_M), K m → KK none Λ m)
theorem sX8_gather_mk {Λ : hx_L} {μ : hx_M} {KK : hx_KT} {v1 : Int32} {K : hx_M → Prop} (hF : cF Λ) (hw : wX8_gather μ v1 K) (hk : ∀ (m : hx_M), K m → KK none Λ m) : sX8_gather Λ μ [.ref 37, .int v1] KK := ⟨hF, _, _, rfl, hw, hk⟩
theorem conX8_gather : hx_Con yX8_gather cX8_gather 6 (none) 2 0 0 sX8_gather := by
  refine hx_con_of (by decide +kernel) tokX8 (by decide) ?_ ?_
  · intro Λ μ as KK h
    obtain ⟨hF, v1, K, rfl, hw, hK⟩ := h
    exact Nat.le_of_ble_eq_true rfl
  · intro G KK hG cA Λ μ as h
    obtain ⟨hF, v1, K, rfl, hw, hK⟩ := h
    exact cl_sub hG (hx_le_c rfl (hx_le_c rfl (hx_le_n (hx_le_n (hx_le_n (hx_le_n hx_le_0)))))) (kX8_gather hG cA hF _ hK hw)
/-! HemLine$Signs.odds()J -/
def tbX8_odds_0 : List (Nat × Instr × Nat) := [(0, .lconst 0, 1), (1, .lstore_n 1, 1), (2, .lconst 1, 1), (3, .lstore_n 3, 1), (4, .aload_n 0, 1), (5, .getfield 19, 3), (8, .istore 5, 2), (10, .iload 5, 2), (12, .aload_n 0, 1), (13, .getfield 23, 3), (16, .if_icmp .lt 30, 3), (19, .lload_n 1, 1), (20, .lload_n 3, 1), (21, .ladd, 1), (22, .lstore_n 1, 1), (23, .lload_n 3, 1), (24, .iload 5, 2), (26, .i2l, 1), (27, .lmul, 1), (28, .aload_n 0, 1), (29, .getfield 19, 3), (32, .iload 5, 2), (34, .isub, 1), (35, .iconst 1, 1), (36, .iadd, 1), (37, .i2l, 1), (38, .ldiv, 1), (39, .lstore_n 3, 1), (40, .iinc 5 (-1), 3), (43, .goto (-33), 3), (46, .lload_n 1, 1), (47, .lreturn, 1)]
theorem tdX8_odds_0 : hx_dt cX8_odds tbX8_odds_0 = true := by decide +kernel
def wX8_odds_L10 (μ : hx_M) (K : Int64 → Prop)  : Nat → Int64 → Int64 → Int32 → Prop
  | 0, _, _, _ => False
  | n + 1, v1, v3, v5 => (v5 < (μ.1 37 3) → (K v1)) ∧ (¬ (v5 < (μ.1 37 3)) → (¬ ((((μ.1 37 2) - v5) + 1 : Int32).toInt64) = 0 ∧ ∀ x_1 : Int64, x_1 = ((v3 * ((v5 : Int32).toInt64)) / ((((μ.1 37 2) - v5) + 1 : Int32).toInt64)) → wX8_odds_L10 μ K n (v1 + v3) x_1 (v5 + (-1))))
set_option maxRecDepth 100000 in
set_option maxHeartbeats 4000000 in
theorem kX8_odds_L10 {G : hx_GT} {KK : hx_KT} (hG : hx_K cX8_odds 6 0 0 (some .long) TbX8 KK G) (cA : hx_CA RX8 cX8_odds 1 0 0 G) {Λ : hx_L} (hF : cF Λ) {μ : hx_M}  {K : Int64 → Prop} (hK : ∀ (r : Int64), K r → KK (some (.long r)) Λ μ)  : ∀ (n : Nat) (v1 : Int64) (v3 : Int64) (v5 : Int32), wX8_odds_L10 μ K n v1 v3 v5 → G Λ μ (0, 0) 10 [some (.ref 37), some (.long v1), none, some (.long v3), none, some (.int v5)] [] := by
  intro n
  induction n with
  | zero =>
    intro v1 v3 v5 hw
    exact False.elim (by simpa only [wX8_odds_L10] using hw)
  | succ n ih =>
    intro v1 v3 v5 hw
    unfold wX8_odds_L10 at hw
    refine cl_iload hG (hx_dq tdX8_odds_0 7 rfl) rfl (cl_aload_n hG (hx_dq tdX8_odds_0 8 rfl) rfl (cl_getI hG fmX8_23 (hx_dq tdX8_odds_0 9 rfl) (cF_S37 hF) (cl_icmp_lt hG 46 (hx_dq tdX8_odds_0 10 rfl) rfl (fun c16 => ?_) (fun c16 => ?_))))
    · replace hw := hw.1 c16
      exact cl_lload_n hG (hx_dq tdX8_odds_0 30 rfl) rfl (cl_lret hG (hx_dq tdX8_odds_0 31 rfl) rfl (hK _ hw) (Nat.le_refl _) (Nat.le_refl _))
    · replace hw := hw.2 c16
      obtain ⟨o38, hw⟩ := hw
      refine cl_lload_n hG (hx_dq tdX8_odds_0 11 rfl) rfl (cl_lload_n hG (hx_dq tdX8_odds_0 12 rfl) rfl (cl_ladd hG (hx_dq tdX8_odds_0 13 rfl) (cl_lstore_n hG (hx_dq tdX8_odds_0 14 rfl) (Nat.le_of_ble_eq_true rfl) rfl (cl_lload_n hG (hx_dq tdX8_odds_0 15 rfl) rfl (cl_iload hG (hx_dq tdX8_odds_0 16 rfl) rfl (cl_i2l hG (hx_dq tdX8_odds_0 17 rfl) (cl_lmul hG (hx_dq tdX8_odds_0 18 rfl) (cl_aload_n hG (hx_dq tdX8_odds_0 19 rfl) rfl (cl_getI hG fmX8_19 (hx_dq tdX8_odds_0 20 rfl) (cF_S37 hF) (cl_iload hG (hx_dq tdX8_odds_0 21 rfl) rfl (cl_isub hG (hx_dq tdX8_odds_0 22 rfl) (cl_iconst hG 1 (hx_dq tdX8_odds_0 23 rfl) iconst_1 (cl_iadd hG (hx_dq tdX8_odds_0 24 rfl) (cl_i2l hG (hx_dq tdX8_odds_0 25 rfl) (cl_ldiv hG (hx_dq tdX8_odds_0 26 rfl) o38 (cl_nmL (fun x_1 e_1 => ?_)))))))))))))))))
      replace hw := hw x_1 e_1
      exact cl_lstore_n hG (hx_dq tdX8_odds_0 27 rfl) (Nat.le_of_ble_eq_true rfl) rfl (cl_iinc hG (v5 + (-1)) (hx_dq tdX8_odds_0 28 rfl) rfl (congrArg (fun z => v5 + z) iconst_m1) (Nat.le_of_ble_eq_true rfl) rfl (cl_goto hG 10 (hx_dq tdX8_odds_0 29 rfl) rfl (cl_sub hG (hx_le_c rfl (hx_le_c rfl (hx_le_n (hx_le_c rfl (hx_le_n (hx_le_c rfl hx_le_0)))))) (ih (v1 + v3) x_1 (v5 + (-1)) hw))))
def wX8_odds (μ : hx_M)  (K : Int64 → Prop) : Prop := ∃ n10_2, wX8_odds_L10 μ K n10_2 0 1 (μ.1 37 2)
set_option maxRecDepth 100000 in
set_option maxHeartbeats 4000000 in
theorem kX8_odds {G : hx_GT} {KK : hx_KT} (hG : hx_K cX8_odds 6 0 0 (some .long) TbX8 KK G) (cA : hx_CA RX8 cX8_odds 1 0 0 G) {Λ : hx_L} (hF : cF Λ) {μ : hx_M}  {K : Int64 → Prop} (hK : ∀ (r : Int64), K r → KK (some (.long r)) Λ μ) (hw : wX8_odds μ K) : G Λ μ (0, 0) 0 [some (.ref 37), none, none, none, none, none] [] := by
  unfold wX8_odds at hw
  refine cl_lconst hG 0 (hx_dq tdX8_odds_0 0 rfl) lconst_0 (cl_lstore_n hG (hx_dq tdX8_odds_0 1 rfl) (Nat.le_of_ble_eq_true rfl) rfl (cl_lconst hG 1 (hx_dq tdX8_odds_0 2 rfl) lconst_1 (cl_lstore_n hG (hx_dq tdX8_odds_0 3 rfl) (Nat.le_of_ble_eq_true rfl) rfl (cl_aload_n hG (hx_dq tdX8_odds_0 4 rfl) rfl (cl_getI hG fmX8_19 (hx_dq tdX8_odds_0 5 rfl) (cF_S37 hF) (cl_istore hG (hx_dq tdX8_odds_0 6 rfl) (Nat.le_of_ble_eq_true rfl) rfl ?_))))))
  obtain ⟨n_, hw⟩ := hw
  refine cl_sub hG (hx_le_c rfl (hx_le_c rfl (hx_le_n (hx_le_c rfl (hx_le_n (hx_le_c rfl hx_le_0)))))) (kX8_odds_L10 hG cA hF hK n_ 0 1 (μ.1 37 2) hw)
def sX8_odds : hx_ST := fun Λ μ as KK => cF Λ ∧ ∃ (K : Int64 → Prop), as = [.ref 37] ∧ wX8_odds μ K ∧ (∀ (r : Int64), K r → KK (some (.long r)) Λ μ)
theorem sX8_odds_mk {Λ : hx_L} {μ : hx_M} {KK : hx_KT}  {K : Int64 → Prop} (hF : cF Λ) (hw : wX8_odds μ K) (hk : ∀ (r : Int64), K r → KK (some (.long r)) Λ μ) : sX8_odds Λ μ [.ref 37] KK := ⟨hF, _, rfl, hw, hk⟩
theorem conX8_odds : hx_Con yX8_odds cX8_odds 6 (some .long) 1 0 0 sX8_odds := by
  refine hx_con_of (by decide +kernel) tokX8 (by decide) ?_ ?_
  · intro Λ μ as KK h
    obtain ⟨hF, K, rfl, hw, hK⟩ := h
    exact Nat.le_of_ble_eq_true rfl
  · intro G KK hG cA Λ μ as h
    obtain ⟨hF, K, rfl, hw, hK⟩ := h
    exact cl_sub hG (hx_le_c rfl (hx_le_n (hx_le_n (hx_le_n (hx_le_n (hx_le_n hx_le_0)))))) (kX8_odds hG cA hF hK hw)
/-! HemLine$Signs.bestLag()I -/
def tbX8_bestLag_0 : List (Nat × Instr × Nat) := [(0, .iconst (-1), 1), (1, .istore_n 1, 1), (2, .lconst 0, 1), (3, .lstore_n 2, 1), (4, .iconst 0, 1), (5, .istore 4, 2), (7, .iload 4, 2), (9, .bipush 9, 2), (11, .if_icmp .gt 54, 3), (14, .aload_n 0, 1), (15, .iload 4, 2), (17, .invokevirtual 76, 3), (20, .aload_n 0, 1), (21, .getfield 19, 3), (24, .ifCond .le 35, 3), (27, .aload_n 0, 1), (28, .invokevirtual 79, 3), (31, .bipush 40, 2), (33, .aload_n 0, 1), (34, .getfield 19, 3), (37, .isub, 1), (38, .lshl, 1), (39, .lstore 5, 2), (41, .iload_n 1, 1), (42, .iconst (-1), 1), (43, .if_icmp .eq 10, 3), (46, .lload 5, 2), (48, .lload_n 2, 1), (49, .lcmp, 1), (50, .ifCond .ge 9, 3), (53, .iload 4, 2), (55, .istore_n 1, 1)]
def tbX8_bestLag_1 : List (Nat × Instr × Nat) := [(56, .lload 5, 2), (58, .lstore_n 2, 1), (59, .iinc 4 1, 3), (62, .goto (-55), 3), (65, .iload_n 1, 1), (66, .ireturn, 1)]
theorem tdX8_bestLag_0 : hx_dt cX8_bestLag tbX8_bestLag_0 = true := by decide +kernel
theorem tdX8_bestLag_1 : hx_dt cX8_bestLag tbX8_bestLag_1 = true := by decide +kernel
theorem caX8_bestLag_76 {G : hx_GT} (cA : hx_CA RX8 cX8_bestLag 3 0 0 G) : hx_CV cX8_bestLag G 0 0 76 8 1 sX8_gather 0 0 := cA.1 conX8_gather rfl rfl ⟨by decide +kernel, by decide +kernel, by decide +kernel⟩ mw_975 mw_957 mw_958 mw_94 mw_959 (by decide) (by decide)
theorem caX8_bestLag_79 {G : hx_GT} (cA : hx_CA RX8 cX8_bestLag 3 0 0 G) : hx_CV cX8_bestLag G 0 0 79 8 0 sX8_odds 0 0 := cA.1 conX8_odds rfl rfl ⟨by decide +kernel, by decide +kernel, by decide +kernel⟩ mw_976 mw_964 mw_965 mw_94 mw_966 (by decide) (by decide)
def wX8_bestLag_J59  (K : Int32 → hx_M → Prop) (K7 : Int32 → Int64 → Int32 → hx_M → Prop) (v1 : Int32) (v2 : Int64) (v4 : Int32)  (μ : hx_M) : Prop := K7 v1 v2 (v4 + 1) μ
set_option maxRecDepth 100000 in
set_option maxHeartbeats 4000000 in
theorem kX8_bestLag_J59 {G : hx_GT} {KK : hx_KT} (hG : hx_K cX8_bestLag 7 0 0 (some .int) TbX8 KK G) (cA : hx_CA RX8 cX8_bestLag 3 0 0 G) {Λ : hx_L} (hF : cF Λ) {μ : hx_M} (v1 : Int32) (v2 : Int64) (v4 : Int32)  {K : Int32 → hx_M → Prop} (hK : ∀ (r : Int32) (m : hx_M), K r m → KK (some (.int r)) Λ m) {K7 : Int32 → Int64 → Int32 → hx_M → Prop} (hk7 : ∀ (v1 : Int32) (v2 : Int64) (v4 : Int32) (μ : hx_M), K7 v1 v2 v4 μ → G Λ μ (0, 0) 7 [some (.ref 37), some (.int v1), some (.long v2), none, some (.int v4), none, none] []) (hw : wX8_bestLag_J59 K K7 v1 v2 v4 μ) : G Λ μ (0, 0) 59 [some (.ref 37), some (.int v1), some (.long v2), none, some (.int v4), none, none] [] := by
  unfold wX8_bestLag_J59 at hw
  exact cl_iinc hG (v4 + 1) (hx_dq tdX8_bestLag_1 2 rfl) rfl (congrArg (fun z => v4 + z) iconst_1) (Nat.le_of_ble_eq_true rfl) rfl (cl_goto hG 7 (hx_dq tdX8_bestLag_1 3 rfl) rfl (cl_sub hG (hx_le_c rfl (hx_le_c rfl (hx_le_c rfl (hx_le_n (hx_le_c rfl (hx_le_n (hx_le_n hx_le_0))))))) (hk7 v1 v2 (v4 + 1) _ hw)))
def wX8_bestLag_J59_6  (K : Int32 → hx_M → Prop) (K7 : Int32 → Int64 → Int32 → hx_M → Prop) (v1 : Int32) (v2 : Int64) (v4 : Int32)  (μ : hx_M) : Prop := K7 v1 v2 (v4 + 1) μ
set_option maxRecDepth 100000 in
set_option maxHeartbeats 4000000 in
theorem kX8_bestLag_J59_6 {G : hx_GT} {KK : hx_KT} (hG : hx_K cX8_bestLag 7 0 0 (some .int) TbX8 KK G) (cA : hx_CA RX8 cX8_bestLag 3 0 0 G) {Λ : hx_L} (hF : cF Λ) {μ : hx_M} (v1 : Int32) (v2 : Int64) (v4 : Int32)  {K : Int32 → hx_M → Prop} (hK : ∀ (r : Int32) (m : hx_M), K r m → KK (some (.int r)) Λ m) {K7 : Int32 → Int64 → Int32 → hx_M → Prop} (hk7 : ∀ (v1 : Int32) (v2 : Int64) (v4 : Int32) (μ : hx_M), K7 v1 v2 v4 μ → G Λ μ (0, 0) 7 [some (.ref 37), some (.int v1), some (.long v2), none, some (.int v4), none, none] []) (hw : wX8_bestLag_J59_6 K K7 v1 v2 v4 μ) : G Λ μ (0, 0) 59 [some (.ref 37), some (.int v1), some (.long v2), none, some (.int v4), none, none] [] := by
  unfold wX8_bestLag_J59_6 at hw
  exact cl_iinc hG (v4 + 1) (hx_dq tdX8_bestLag_1 2 rfl) rfl (congrArg (fun z => v4 + z) iconst_1) (Nat.le_of_ble_eq_true rfl) rfl (cl_goto hG 7 (hx_dq tdX8_bestLag_1 3 rfl) rfl (cl_sub hG (hx_le_c rfl (hx_le_c rfl (hx_le_c rfl (hx_le_n (hx_le_c rfl (hx_le_n (hx_le_n hx_le_0))))))) (hk7 v1 v2 (v4 + 1) _ hw)))
def wX8_bestLag_J53  (K : Int32 → hx_M → Prop) (K7 : Int32 → Int64 → Int32 → hx_M → Prop) (v4 : Int32) (v5 : Int64)  (μ : hx_M) : Prop := wX8_bestLag_J59_6 K (K7) v4 v5 v4 μ
set_option maxRecDepth 100000 in
set_option maxHeartbeats 4000000 in
theorem kX8_bestLag_J53 {G : hx_GT} {KK : hx_KT} (hG : hx_K cX8_bestLag 7 0 0 (some .int) TbX8 KK G) (cA : hx_CA RX8 cX8_bestLag 3 0 0 G) {Λ : hx_L} (hF : cF Λ) {μ : hx_M} (v4 : Int32) (v5 : Int64)  {K : Int32 → hx_M → Prop} (hK : ∀ (r : Int32) (m : hx_M), K r m → KK (some (.int r)) Λ m) {K7 : Int32 → Int64 → Int32 → hx_M → Prop} (hk7 : ∀ (v1 : Int32) (v2 : Int64) (v4 : Int32) (μ : hx_M), K7 v1 v2 v4 μ → G Λ μ (0, 0) 7 [some (.ref 37), some (.int v1), some (.long v2), none, some (.int v4), none, none] []) (hw : wX8_bestLag_J53 K K7 v4 v5 μ) : G Λ μ (0, 0) 53 [some (.ref 37), none, none, none, some (.int v4), some (.long v5), none] [] := by
  unfold wX8_bestLag_J53 at hw
  refine cl_iload hG (hx_dq tdX8_bestLag_0 30 rfl) rfl (cl_istore_n hG (hx_dq tdX8_bestLag_0 31 rfl) (Nat.le_of_ble_eq_true rfl) rfl (cl_lload hG (hx_dq tdX8_bestLag_1 0 rfl) rfl (cl_lstore_n hG (hx_dq tdX8_bestLag_1 1 rfl) (Nat.le_of_ble_eq_true rfl) rfl ?_)))
  exact cl_sub hG (hx_le_c rfl (hx_le_c rfl (hx_le_c rfl (hx_le_n (hx_le_c rfl (hx_le_n (hx_le_n hx_le_0))))))) (kX8_bestLag_J59_6 hG cA hF v4 v5 v4 hK (fun z0 z1 z2 z3 hw => hk7 z0 z1 z2 z3 hw) hw)
def wX8_bestLag_L7  (K : Int32 → hx_M → Prop)  : Nat → Int32 → Int64 → Int32 → hx_M → Prop
  | 0, _, _, _, _ => False
  | n + 1, v1, v2, v4, μ => (9 < v4 → (K v1 μ)) ∧ (¬ (9 < v4) → (wX8_gather μ v4 (fun m17_1 => ((m17_1.1 37 2) ≤ 0 → (wX8_bestLag_J59 K (wX8_bestLag_L7 K n) v1 v2 v4 m17_1)) ∧ (¬ ((m17_1.1 37 2) ≤ 0) → (wX8_odds m17_1 (fun r28_4 => ∀ x_5 : Int64, x_5 = (r28_4 <<< ((40 - (m17_1.1 37 2) : Int32).toInt64 &&& 63)) → (v1 = (-1) → (wX8_bestLag_J53 K (wX8_bestLag_L7 K n) v4 x_5 m17_1)) ∧ (¬ (v1 = (-1)) → ((0 ≤ (lg_cmp x_5 v2) → (wX8_bestLag_J59 K (wX8_bestLag_L7 K n) v1 v2 v4 m17_1)) ∧ (¬ (0 ≤ (lg_cmp x_5 v2)) → (wX8_bestLag_J53 K (wX8_bestLag_L7 K n) v4 x_5 m17_1))))))))))
set_option maxRecDepth 100000 in
set_option maxHeartbeats 4000000 in
theorem kX8_bestLag_L7 {G : hx_GT} {KK : hx_KT} (hG : hx_K cX8_bestLag 7 0 0 (some .int) TbX8 KK G) (cA : hx_CA RX8 cX8_bestLag 3 0 0 G) {Λ : hx_L} (hF : cF Λ)   {K : Int32 → hx_M → Prop} (hK : ∀ (r : Int32) (m : hx_M), K r m → KK (some (.int r)) Λ m)  : ∀ (n : Nat) (v1 : Int32) (v2 : Int64) (v4 : Int32) (μ : hx_M), wX8_bestLag_L7 K n v1 v2 v4 μ → G Λ μ (0, 0) 7 [some (.ref 37), some (.int v1), some (.long v2), none, some (.int v4), none, none] [] := by
  intro n
  induction n with
  | zero =>
    intro v1 v2 v4 μ hw
    exact False.elim (by simpa only [wX8_bestLag_L7] using hw)
  | succ n ih =>
    intro v1 v2 v4 μ hw
    unfold wX8_bestLag_L7 at hw
    refine cl_iload hG (hx_dq tdX8_bestLag_0 6 rfl) rfl (cl_bipush hG 9 (hx_dq tdX8_bestLag_0 7 rfl) bipush_9 (cl_icmp_gt hG 65 (hx_dq tdX8_bestLag_0 8 rfl) rfl (fun c11 => ?_) (fun c11 => ?_)))
    · replace hw := hw.1 c11
      exact cl_iload_n hG (hx_dq tdX8_bestLag_1 4 rfl) rfl (cl_iret hG (hx_dq tdX8_bestLag_1 5 rfl) rfl rfl (hK _ _ hw) (Nat.le_refl _) (Nat.le_refl _))
    · replace hw := hw.2 c11
      refine cl_aload_n hG (hx_dq tdX8_bestLag_0 9 rfl) rfl (cl_iload hG (hx_dq tdX8_bestLag_0 10 rfl) rfl (cl_callV1 (caX8_bestLag_76 cA) (hx_dq tdX8_bestLag_0 11 rfl) (cF_S37 hF) (Nat.le_of_ble_eq_true rfl) (Nat.le_refl _) (Nat.le_refl _) (sX8_gather_mk hF hw (fun m17_1 hw => ?_))))
      refine cl_aload_n hG (hx_dq tdX8_bestLag_0 12 rfl) rfl (cl_getI hG fmX8_19 (hx_dq tdX8_bestLag_0 13 rfl) (cF_S37 hF) (cl_if_le hG 59 (hx_dq tdX8_bestLag_0 14 rfl) rfl (fun c24 => ?_) (fun c24 => ?_)))
      · replace hw := hw.1 c24
        exact cl_sub hG (hx_le_c rfl (hx_le_c rfl (hx_le_c rfl (hx_le_n (hx_le_c rfl (hx_le_n (hx_le_n hx_le_0))))))) (kX8_bestLag_J59 hG cA hF v1 v2 v4 hK (fun z0 z1 z2 z3 hw => ih z0 z1 z2 z3 hw) hw)
      · replace hw := hw.2 c24
        refine cl_aload_n hG (hx_dq tdX8_bestLag_0 15 rfl) rfl (cl_callV0 (caX8_bestLag_79 cA) (hx_dq tdX8_bestLag_0 16 rfl) (cF_S37 hF) (Nat.le_of_ble_eq_true rfl) (Nat.le_refl _) (Nat.le_refl _) (sX8_odds_mk hF hw (fun r28_4 hw => ?_)))
        refine cl_bipush hG 40 (hx_dq tdX8_bestLag_0 17 rfl) bipush_40 (cl_aload_n hG (hx_dq tdX8_bestLag_0 18 rfl) rfl (cl_getI hG fmX8_19 (hx_dq tdX8_bestLag_0 19 rfl) (cF_S37 hF) (cl_isub hG (hx_dq tdX8_bestLag_0 20 rfl) (cl_lshl hG (hx_dq tdX8_bestLag_0 21 rfl) (cl_nmL (fun x_5 e_5 => ?_))))))
        replace hw := hw x_5 e_5
        refine cl_lstore hG (hx_dq tdX8_bestLag_0 22 rfl) (Nat.le_of_ble_eq_true rfl) rfl (cl_iload_n hG (hx_dq tdX8_bestLag_0 23 rfl) rfl (cl_iconst hG (-1) (hx_dq tdX8_bestLag_0 24 rfl) iconst_m1 (cl_icmp_eq hG 53 (hx_dq tdX8_bestLag_0 25 rfl) rfl (fun c43 => ?_) (fun c43 => ?_))))
        · replace hw := hw.1 c43
          exact cl_sub hG (hx_le_c rfl (hx_le_n (hx_le_n (hx_le_n (hx_le_c rfl (hx_le_c rfl (hx_le_n hx_le_0))))))) (kX8_bestLag_J53 hG cA hF v4 x_5 hK (fun z0 z1 z2 z3 hw => ih z0 z1 z2 z3 hw) hw)
        · replace hw := hw.2 c43
          refine cl_lload hG (hx_dq tdX8_bestLag_0 26 rfl) rfl (cl_lload_n hG (hx_dq tdX8_bestLag_0 27 rfl) rfl (cl_lcmp hG (hx_dq tdX8_bestLag_0 28 rfl) (cl_if_ge hG 59 (hx_dq tdX8_bestLag_0 29 rfl) rfl (fun c50 => ?_) (fun c50 => ?_))))
          · replace hw := hw.1 c50
            exact cl_sub hG (hx_le_c rfl (hx_le_c rfl (hx_le_c rfl (hx_le_n (hx_le_c rfl (hx_le_n (hx_le_n hx_le_0))))))) (kX8_bestLag_J59 hG cA hF v1 v2 v4 hK (fun z0 z1 z2 z3 hw => ih z0 z1 z2 z3 hw) hw)
          · replace hw := hw.2 c50
            exact cl_sub hG (hx_le_c rfl (hx_le_n (hx_le_n (hx_le_n (hx_le_c rfl (hx_le_c rfl (hx_le_n hx_le_0))))))) (kX8_bestLag_J53 hG cA hF v4 x_5 hK (fun z0 z1 z2 z3 hw => ih z0 z1 z2 z3 hw) hw)
def wX8_bestLag (μ : hx_M)  (K : Int32 → hx_M → Prop) : Prop := ∃ n7_7, wX8_bestLag_L7 K n7_7 (-1) 0 0 μ
set_option maxRecDepth 100000 in
set_option maxHeartbeats 4000000 in
theorem kX8_bestLag {G : hx_GT} {KK : hx_KT} (hG : hx_K cX8_bestLag 7 0 0 (some .int) TbX8 KK G) (cA : hx_CA RX8 cX8_bestLag 3 0 0 G) {Λ : hx_L} (hF : cF Λ) {μ : hx_M}  {K : Int32 → hx_M → Prop} (hK : ∀ (r : Int32) (m : hx_M), K r m → KK (some (.int r)) Λ m) (hw : wX8_bestLag μ K) : G Λ μ (0, 0) 0 [some (.ref 37), none, none, none, none, none, none] [] := by
  unfold wX8_bestLag at hw
  refine cl_iconst hG (-1) (hx_dq tdX8_bestLag_0 0 rfl) iconst_m1 (cl_istore_n hG (hx_dq tdX8_bestLag_0 1 rfl) (Nat.le_of_ble_eq_true rfl) rfl (cl_lconst hG 0 (hx_dq tdX8_bestLag_0 2 rfl) lconst_0 (cl_lstore_n hG (hx_dq tdX8_bestLag_0 3 rfl) (Nat.le_of_ble_eq_true rfl) rfl (cl_iconst hG 0 (hx_dq tdX8_bestLag_0 4 rfl) iconst_0 (cl_istore hG (hx_dq tdX8_bestLag_0 5 rfl) (Nat.le_of_ble_eq_true rfl) rfl ?_)))))
  obtain ⟨n_, hw⟩ := hw
  refine cl_sub hG (hx_le_c rfl (hx_le_c rfl (hx_le_c rfl (hx_le_n (hx_le_c rfl (hx_le_n (hx_le_n hx_le_0))))))) (kX8_bestLag_L7 hG cA hF hK n_ (-1) 0 0 _ hw)
def sX8_bestLag : hx_ST := fun Λ μ as KK => cF Λ ∧ ∃ (K : Int32 → hx_M → Prop), as = [.ref 37] ∧ wX8_bestLag μ K ∧ (∀ (r : Int32) (m : hx_M), K r m → KK (some (.int r)) Λ m)
theorem sX8_bestLag_mk {Λ : hx_L} {μ : hx_M} {KK : hx_KT}  {K : Int32 → hx_M → Prop} (hF : cF Λ) (hw : wX8_bestLag μ K) (hk : ∀ (r : Int32) (m : hx_M), K r m → KK (some (.int r)) Λ m) : sX8_bestLag Λ μ [.ref 37] KK := ⟨hF, _, rfl, hw, hk⟩
theorem conX8_bestLag : hx_Con yX8_bestLag cX8_bestLag 7 (some .int) 3 0 0 sX8_bestLag := by
  refine hx_con_of (by decide +kernel) tokX8 (by decide) ?_ ?_
  · intro Λ μ as KK h
    obtain ⟨hF, K, rfl, hw, hK⟩ := h
    exact Nat.le_of_ble_eq_true rfl
  · intro G KK hG cA Λ μ as h
    obtain ⟨hF, K, rfl, hw, hK⟩ := h
    exact cl_sub hG (hx_le_c rfl (hx_le_n (hx_le_n (hx_le_n (hx_le_n (hx_le_n (hx_le_n hx_le_0))))))) (kX8_bestLag hG cA hF hK hw)
/-! HemLine$Trials.<init>(LHemLine$World;)V -/
def tbX9_init_0 : List (Nat × Instr × Nat) := [(0, .aload_n 0, 1), (1, .invokespecial 3, 3), (4, .aload_n 0, 1), (5, .aload_n 1, 1), (6, .putfield 9, 3), (9, .aload_n 0, 1), (10, .new 15, 3), (13, .dup, 1), (14, .invokespecial 17, 3), (17, .putfield 18, 3), (20, .return_, 1)]
theorem tdX9_init_0 : hx_dt cX9_init tbX9_init_0 = true := by decide +kernel
def TAX9_init : hx_TA := ([(15, 4, 7)], [(9, 9, 0, 2), (18, 9, 1, 2)], [], [3])
theorem taX9_init_n15 : (15, 4, 7) ∈ TAX9_init.1 := List.mem_of_getElem? (i := 0) rfl
theorem toX9_init_n15 : hx_nok RX9 (15, 4, 7) := ⟨RX4, TX4, tyX4, rfl, inX4, tyX4_ok, mw_335, mw_152, mw_87, nkX4, rfl⟩
theorem taX9_init_f9 : (9, 9, 0, 2) ∈ TAX9_init.2.1 := List.mem_of_getElem? (i := 0) rfl
theorem toX9_init_f9 : hx_ffok RX9 (9, 9, 0, 2) := ⟨RX9, TX9, 2, tyX9, rfl, Nat.le_of_ble_eq_true rfl, rfl, mw_337, inX9, tyX9_ok, nmX9, rfl, rfl, fun h => absurd h (by decide), fun _ => Or.inl ⟨_, rfl⟩⟩
theorem taX9_init_f18 : (18, 9, 1, 2) ∈ TAX9_init.2.1 := List.mem_of_getElem? (i := 1) rfl
theorem toX9_init_f18 : hx_ffok RX9 (18, 9, 1, 2) := ⟨RX9, TX9, 2, tyX9, rfl, Nat.le_of_ble_eq_true rfl, rfl, mw_338, inX9, tyX9_ok, nmX9, rfl, rfl, fun h => absurd h (by decide), fun _ => Or.inl ⟨_, rfl⟩⟩
theorem taX9_init_o3 : 3 ∈ TAX9_init.2.2.2 := List.mem_of_getElem? (i := 0) rfl
theorem taokX9_init : hx_taok RX9 TAX9_init := ⟨(List.forall_mem_cons.mpr ⟨toX9_init_n15, (fun _ h => absurd h List.not_mem_nil)⟩), (List.forall_mem_cons.mpr ⟨toX9_init_f9, (List.forall_mem_cons.mpr ⟨toX9_init_f18, (fun _ h => absurd h List.not_mem_nil)⟩)⟩), (fun _ h => absurd h List.not_mem_nil), (List.forall_mem_cons.mpr ⟨mw_334, (fun _ h => absurd h List.not_mem_nil)⟩)⟩
theorem caX9_init_17 {G : hx_GT} (cA : hx_CA RX9 cX9_init 2 7 183 G) : hx_CI cX9_init G 7 183 17 0 sX4_init 6 176 := cA.2.2.2 conX4_init ⟨by decide +kernel, by decide +kernel, by decide +kernel⟩ rfl mw_336 mw_154 mw_87 mw_155 (by decide) (by decide)
def wX9_init (Λ : hx_L) (μ : hx_M) (v0 : Nat) (v1 : Nat) (K : hx_L → hx_M → Prop) : Prop := Λ.1 v0 = (0, 9) ∧ ∀ L_2 : hx_L, L_2 = hx_sR Λ v0 0 v1 → L_2.2.2 < hx_big ∧ ∀ L_4 : hx_L, L_4 = hx_push L_2 (0, 4) → ∀ m_5 : hx_M, m_5 = (hx_z μ L_2.2.2) → wX4_init L_4 m_5 L_2.2.2 (fun Lm14_6 m14_6 => Lm14_6.1 v0 = (0, 9) ∧ ∀ L_9 : hx_L, L_9 = hx_sR Lm14_6 v0 1 L_2.2.2 → K L_9 m14_6)
set_option maxRecDepth 100000 in
set_option maxHeartbeats 4000000 in
theorem kX9_init {G : hx_GT} {KK : hx_KT} (hG : hx_K cX9_init 2 7 183 (none) TbX9 KK G) (hM : hx_KA cX9_init 7 183 TAX9_init G) (cA : hx_CA RX9 cX9_init 2 7 183 G) {Λ : hx_L}  {μ : hx_M} (v0 : Nat) (v1 : Nat) {K : hx_L → hx_M → Prop} (hK : ∀ (Λ1 : hx_L) (m : hx_M), K Λ1 m → KK none Λ1 m) (hw : wX9_init Λ μ v0 v1 K) : G Λ μ (0, 0) 0 [some (.ref v0), some (.ref v1)] [] := by
  unfold wX9_init at hw
  obtain ⟨o6_1, hw⟩ := hw
  refine cl_aload_n hG (hx_dq tdX9_init_0 0 rfl) rfl (cl_oinit hM taX9_init_o3 (hx_dq tdX9_init_0 1 rfl) (Nat.le_of_ble_eq_true rfl) (cl_aload_n hG (hx_dq tdX9_init_0 2 rfl) rfl (cl_aload_n hG (hx_dq tdX9_init_0 3 rfl) rfl (cl_putFR hM taX9_init_f9 (hx_dq tdX9_init_0 4 rfl) o6_1 (cl_nmA (fun L_2 e_2 => ?_))))))
  replace hw := hw L_2 e_2
  obtain ⟨b3, hw⟩ := hw
  refine cl_aload_n hG (hx_dq tdX9_init_0 5 rfl) rfl (cl_new hM taX9_init_n15 (hx_dq tdX9_init_0 6 rfl) (Nat.le_of_ble_eq_true rfl) (Nat.le_of_ble_eq_true rfl) b3 (cl_nmA (fun L_4 e_4 => ?_)))
  replace hw := hw L_4 e_4
  refine cl_nmM (fun m_5 e_5 => ?_)
  replace hw := hw m_5 e_5
  refine cl_dup hG (hx_dq tdX9_init_0 7 rfl) rfl (cl_callI0 (caX9_init_17 cA) (hx_dq tdX9_init_0 8 rfl) (Nat.le_of_ble_eq_true rfl) (Nat.le_of_ble_eq_true rfl) (Nat.le_of_ble_eq_true rfl) (sX4_init_mk hw (fun Lm14_6 m14_6 hw => ?_)))
  obtain ⟨o17_8, hw⟩ := hw
  refine cl_putFR hM taX9_init_f18 (hx_dq tdX9_init_0 9 rfl) o17_8 (cl_nmA (fun L_9 e_9 => ?_))
  replace hw := hw L_9 e_9
  exact cl_vret hG (hx_dq tdX9_init_0 10 rfl) rfl (hK _ _ hw) (Nat.le_of_ble_eq_true rfl) (Nat.le_of_ble_eq_true rfl)
def sX9_init : hx_ST := fun Λ μ as KK => ∃ (v0 : Nat) (v1 : Nat) (K : hx_L → hx_M → Prop), as = [.ref v0, .ref v1] ∧ wX9_init Λ μ v0 v1 K ∧ (∀ (Λ1 : hx_L) (m : hx_M), K Λ1 m → KK none Λ1 m)
theorem sX9_init_mk {Λ : hx_L} {μ : hx_M} {KK : hx_KT} {v0 : Nat} {v1 : Nat} {K : hx_L → hx_M → Prop}  (hw : wX9_init Λ μ v0 v1 K) (hk : ∀ (Λ1 : hx_L) (m : hx_M), K Λ1 m → KK none Λ1 m) : sX9_init Λ μ [.ref v0, .ref v1] KK := ⟨_, _, _, rfl, hw, hk⟩
theorem conX9_init : hx_Con yX9_init cX9_init 2 (none) 2 7 183 sX9_init := by
  refine hx_con_ofA (by decide +kernel) tokX9 taokX9_init (Or.inr rfl) (by decide) ?_ ?_
  · intro Λ μ as KK h
    obtain ⟨v0, v1, K, rfl, hw, hK⟩ := h
    exact Nat.le_of_ble_eq_true rfl
  · intro G KK hG hM cA Λ μ as h
    obtain ⟨v0, v1, K, rfl, hw, hK⟩ := h
    exact cl_sub hG (hx_le_c rfl (hx_le_c rfl hx_le_0)) (kX9_init hG hM cA _ _ hK hw)
/-! HemLine$World.pays(IZ)Z -/
def tbX10_pays_0 : List (Nat × Instr × Nat) := [(0, .iload_n 2, 1), (1, .ifCond .eq 10, 3), (4, .aload_n 0, 1), (5, .getfield 43, 3), (8, .goto 7, 3), (11, .aload_n 0, 1), (12, .getfield 36, 3), (15, .istore_n 3, 1), (16, .aload_n 0, 1), (17, .getfield 12, 3), (20, .getfield 99, 3), (23, .iload_n 1, 1), (24, .iaload, 1), (25, .iload_n 3, 1), (26, .if_icmp .ge 15, 3), (29, .aload_n 0, 1), (30, .getfield 12, 3), (33, .iload_n 1, 1), (34, .bipush 13, 2), (36, .invokevirtual 140, 3), (39, .iconst 0, 1), (40, .ireturn, 1), (41, .aload_n 0, 1), (42, .getfield 12, 3), (45, .getfield 99, 3), (48, .iload_n 1, 1), (49, .dup2, 1), (50, .iaload, 1), (51, .iload_n 3, 1), (52, .isub, 1), (53, .iastore, 1), (54, .aload_n 0, 1)]
def tbX10_pays_1 : List (Nat × Instr × Nat) := [(55, .getfield 12, 3), (58, .iload_n 1, 1), (59, .iload_n 2, 1), (60, .ifCond .eq 8, 3), (63, .bipush 14, 2), (65, .goto 5, 3), (68, .bipush 15, 2), (70, .invokevirtual 140, 3), (73, .iconst 1, 1), (74, .ireturn, 1)]
theorem tdX10_pays_0 : hx_dt cX10_pays tbX10_pays_0 = true := by decide +kernel
theorem tdX10_pays_1 : hx_dt cX10_pays tbX10_pays_1 = true := by decide +kernel
theorem caX10_pays_140 {G : hx_GT} (cA : hx_CA RX10 cX10_pays 2 0 0 G) : hx_CV cX10_pays G 0 0 140 4 2 sX4_tell 0 0 := cA.1 conX4_tell rfl rfl ⟨by decide +kernel, by decide +kernel, by decide +kernel⟩ mw_773 mw_774 mw_775 mw_87 mw_776 (by decide) (by decide)
def wX10_pays_J70  (K : Int32 → hx_M → Prop)   (t1 : Int32) (t2 : Int32) (μ : hx_M) : Prop := wX4_tell μ t1 t2 (fun m70_4 => K 1 m70_4)
set_option maxRecDepth 100000 in
set_option maxHeartbeats 4000000 in
theorem kX10_pays_J70 {G : hx_GT} {KK : hx_KT} (hG : hx_K cX10_pays 4 0 0 (some .boolean) TbX10 KK G) (cA : hx_CA RX10 cX10_pays 2 0 0 G) {Λ : hx_L} (hF : cF Λ) {μ : hx_M}  (t1 : Int32) (t2 : Int32) {K : Int32 → hx_M → Prop} (hK : ∀ (r : Int32) (m : hx_M), K r m → KK (some (.int r)) Λ m)  (hw : wX10_pays_J70 K t1 t2 μ) : G Λ μ (0, 0) 70 [none, none, none, none] [.int t2, .int t1, .ref 8] := by
  unfold wX10_pays_J70 at hw
  refine cl_callV2 (caX10_pays_140 cA) (hx_dq tdX10_pays_1 7 rfl) (cF_S8 hF) (Nat.le_of_ble_eq_true rfl) (Nat.le_refl _) (Nat.le_refl _) (sX4_tell_mk hF hw (fun m70_4 hw => ?_))
  exact cl_iconst hG 1 (hx_dq tdX10_pays_1 8 rfl) iconst_1 (cl_iret hG (hx_dq tdX10_pays_1 9 rfl) rfl rfl (hK _ _ hw) (Nat.le_refl _) (Nat.le_refl _))
def wX10_pays_J15  (K : Int32 → hx_M → Prop)  (v1 : Int32) (v2 : Int32) (t0 : Int32) (μ : hx_M) : Prop := vp_in v1 16 ∧ (t0 ≤ (μ.1 12 v1.toNatClampNeg) → (vp_in v1 16 ∧ vp_in v1 16 ∧ (v2 = 0 → (wX10_pays_J70 K v1 15 (hx_sI μ 12 v1.toNatClampNeg ((μ.1 12 v1.toNatClampNeg) - t0)))) ∧ (¬ (v2 = 0) → (wX10_pays_J70 K v1 14 (hx_sI μ 12 v1.toNatClampNeg ((μ.1 12 v1.toNatClampNeg) - t0)))))) ∧ (¬ (t0 ≤ (μ.1 12 v1.toNatClampNeg)) → (wX4_tell μ v1 13 (fun m36_6 => K 0 m36_6)))
set_option maxRecDepth 100000 in
set_option maxHeartbeats 4000000 in
theorem kX10_pays_J15 {G : hx_GT} {KK : hx_KT} (hG : hx_K cX10_pays 4 0 0 (some .boolean) TbX10 KK G) (cA : hx_CA RX10 cX10_pays 2 0 0 G) {Λ : hx_L} (hF : cF Λ) {μ : hx_M} (v1 : Int32) (v2 : Int32) (t0 : Int32) {K : Int32 → hx_M → Prop} (hK : ∀ (r : Int32) (m : hx_M), K r m → KK (some (.int r)) Λ m)  (hw : wX10_pays_J15 K v1 v2 t0 μ) : G Λ μ (0, 0) 15 [some (.ref 7), some (.int v1), some (.int v2), none] [.int t0] := by
  unfold wX10_pays_J15 at hw
  obtain ⟨i24_1, hw⟩ := hw
  refine cl_istore_n hG (hx_dq tdX10_pays_0 7 rfl) (Nat.le_of_ble_eq_true rfl) rfl (cl_aload_n hG (hx_dq tdX10_pays_0 8 rfl) rfl (cl_getS hG fmX10_12 (hx_dq tdX10_pays_0 9 rfl) (cF_S7 hF) (cF_R7_0 hF) (cl_getS hG fmX10_99 (hx_dq tdX10_pays_0 10 rfl) (cF_S8 hF) (cF_R8_4 hF) (cl_iload_n hG (hx_dq tdX10_pays_0 11 rfl) rfl (cl_iald hG (hx_dq tdX10_pays_0 12 rfl) (cF_S12 hF) i24_1 (cl_iload_n hG (hx_dq tdX10_pays_0 13 rfl) rfl (cl_icmp_ge hG 41 (hx_dq tdX10_pays_0 14 rfl) rfl (fun c26 => ?_) (fun c26 => ?_))))))))
  · replace hw := hw.1 c26
    obtain ⟨i50_2, hw⟩ := hw
    obtain ⟨i53_3, hw⟩ := hw
    refine cl_aload_n hG (hx_dq tdX10_pays_0 22 rfl) rfl (cl_getS hG fmX10_12 (hx_dq tdX10_pays_0 23 rfl) (cF_S7 hF) (cF_R7_0 hF) (cl_getS hG fmX10_99 (hx_dq tdX10_pays_0 24 rfl) (cF_S8 hF) (cF_R8_4 hF) (cl_iload_n hG (hx_dq tdX10_pays_0 25 rfl) rfl (cl_dup2 hG (hx_dq tdX10_pays_0 26 rfl) rfl rfl (cl_iald hG (hx_dq tdX10_pays_0 27 rfl) (cF_S12 hF) i50_2 (cl_iload_n hG (hx_dq tdX10_pays_0 28 rfl) rfl (cl_isub hG (hx_dq tdX10_pays_0 29 rfl) (cl_iast hG (hx_dq tdX10_pays_0 30 rfl) (cF_S12 hF) i53_3 (cl_aload_n hG (hx_dq tdX10_pays_0 31 rfl) rfl (cl_getS hG fmX10_12 (hx_dq tdX10_pays_1 0 rfl) (cF_S7 hF) (cF_R7_0 hF) (cl_iload_n hG (hx_dq tdX10_pays_1 1 rfl) rfl (cl_iload_n hG (hx_dq tdX10_pays_1 2 rfl) rfl (cl_if_eq hG 68 (hx_dq tdX10_pays_1 3 rfl) rfl (fun c60 => ?_) (fun c60 => ?_))))))))))))))
    · replace hw := hw.1 c60
      refine cl_bipush hG 15 (hx_dq tdX10_pays_1 6 rfl) bipush_15 ?_
      exact cl_sub hG (hx_le_n (hx_le_n (hx_le_n (hx_le_n hx_le_0)))) (kX10_pays_J70 hG cA hF v1 15 hK hw)
    · replace hw := hw.2 c60
      refine cl_bipush hG 14 (hx_dq tdX10_pays_1 4 rfl) bipush_14 (cl_goto hG 70 (hx_dq tdX10_pays_1 5 rfl) rfl ?_)
      exact cl_sub hG (hx_le_n (hx_le_n (hx_le_n (hx_le_n hx_le_0)))) (kX10_pays_J70 hG cA hF v1 14 hK hw)
  · replace hw := hw.2 c26
    refine cl_aload_n hG (hx_dq tdX10_pays_0 15 rfl) rfl (cl_getS hG fmX10_12 (hx_dq tdX10_pays_0 16 rfl) (cF_S7 hF) (cF_R7_0 hF) (cl_iload_n hG (hx_dq tdX10_pays_0 17 rfl) rfl (cl_bipush hG 13 (hx_dq tdX10_pays_0 18 rfl) bipush_13 (cl_callV2 (caX10_pays_140 cA) (hx_dq tdX10_pays_0 19 rfl) (cF_S8 hF) (Nat.le_of_ble_eq_true rfl) (Nat.le_refl _) (Nat.le_refl _) (sX4_tell_mk hF hw (fun m36_6 hw => ?_))))))
    exact cl_iconst hG 0 (hx_dq tdX10_pays_0 20 rfl) iconst_0 (cl_iret hG (hx_dq tdX10_pays_0 21 rfl) rfl rfl (hK _ _ hw) (Nat.le_refl _) (Nat.le_refl _))
def wX10_pays (μ : hx_M) (v1 : Int32) (v2 : Int32) (K : Int32 → hx_M → Prop) : Prop := (v2 = 0 → (wX10_pays_J15 K v1 v2 (μ.1 7 3) μ)) ∧ (¬ (v2 = 0) → (wX10_pays_J15 K v1 v2 (μ.1 7 5) μ))
set_option maxRecDepth 100000 in
set_option maxHeartbeats 4000000 in
theorem kX10_pays {G : hx_GT} {KK : hx_KT} (hG : hx_K cX10_pays 4 0 0 (some .boolean) TbX10 KK G) (cA : hx_CA RX10 cX10_pays 2 0 0 G) {Λ : hx_L} (hF : cF Λ) {μ : hx_M} (v1 : Int32) (v2 : Int32) {K : Int32 → hx_M → Prop} (hK : ∀ (r : Int32) (m : hx_M), K r m → KK (some (.int r)) Λ m) (hw : wX10_pays μ v1 v2 K) : G Λ μ (0, 0) 0 [some (.ref 7), some (.int v1), some (.int v2), none] [] := by
  unfold wX10_pays at hw
  refine cl_iload_n hG (hx_dq tdX10_pays_0 0 rfl) rfl (cl_if_eq hG 11 (hx_dq tdX10_pays_0 1 rfl) rfl (fun c1 => ?_) (fun c1 => ?_))
  · replace hw := hw.1 c1
    refine cl_aload_n hG (hx_dq tdX10_pays_0 5 rfl) rfl (cl_getI hG fmX10_36 (hx_dq tdX10_pays_0 6 rfl) (cF_S7 hF) ?_)
    exact cl_sub hG (hx_le_c rfl (hx_le_c rfl (hx_le_c rfl (hx_le_n hx_le_0)))) (kX10_pays_J15 hG cA hF v1 v2 (μ.1 7 3) hK hw)
  · replace hw := hw.2 c1
    refine cl_aload_n hG (hx_dq tdX10_pays_0 2 rfl) rfl (cl_getI hG fmX10_43 (hx_dq tdX10_pays_0 3 rfl) (cF_S7 hF) (cl_goto hG 15 (hx_dq tdX10_pays_0 4 rfl) rfl ?_))
    exact cl_sub hG (hx_le_c rfl (hx_le_c rfl (hx_le_c rfl (hx_le_n hx_le_0)))) (kX10_pays_J15 hG cA hF v1 v2 (μ.1 7 5) hK hw)
def sX10_pays : hx_ST := fun Λ μ as KK => cF Λ ∧ ∃ (v1 : Int32) (v2 : Int32) (K : Int32 → hx_M → Prop), as = [.ref 7, .int v1, .int v2] ∧ wX10_pays μ v1 v2 K ∧ (∀ (r : Int32) (m : hx_M), K r m → KK (some (.int r)) Λ m)
theorem sX10_pays_mk {Λ : hx_L} {μ : hx_M} {KK : hx_KT} {v1 : Int32} {v2 : Int32} {K : Int32 → hx_M → Prop} (hF : cF Λ) (hw : wX10_pays μ v1 v2 K) (hk : ∀ (r : Int32) (m : hx_M), K r m → KK (some (.int r)) Λ m) : sX10_pays Λ μ [.ref 7, .int v1, .int v2] KK := ⟨hF, _, _, _, rfl, hw, hk⟩
theorem conX10_pays : hx_Con yX10_pays cX10_pays 4 (some .boolean) 2 0 0 sX10_pays := by
  refine hx_con_of (by decide +kernel) tokX10 (by decide) ?_ ?_
  · intro Λ μ as KK h
    obtain ⟨hF, v1, v2, K, rfl, hw, hK⟩ := h
    exact Nat.le_of_ble_eq_true rfl
  · intro G KK hG cA Λ μ as h
    obtain ⟨hF, v1, v2, K, rfl, hw, hK⟩ := h
    exact cl_sub hG (hx_le_c rfl (hx_le_c rfl (hx_le_c rfl (hx_le_n hx_le_0)))) (kX10_pays hG cA hF _ _ hK hw)
/-! HemLine$World.dress(LHemLine$Law;I)I -/
def tbX10_dress_0 : List (Nat × Instr × Nat) := [(0, .aload_n 0, 1), (1, .aload_n 0, 1), (2, .getfield 46, 3), (5, .ldc2_w 122, 3), (8, .lmul, 1), (9, .ldc2_w 124, 3), (12, .ladd, 1), (13, .putfield 46, 3), (16, .aload_n 0, 1), (17, .getfield 46, 3), (20, .bipush 33, 2), (22, .lushr, 1), (23, .ldc2_w 126, 3), (26, .lrem, 1), (27, .l2i, 1), (28, .istore_n 3, 1), (29, .aload_n 0, 1), (30, .getfield 12, 3), (33, .getfield 99, 3), (36, .iload_n 2, 1), (37, .sipush 9999, 3), (40, .aload_n 0, 1), (41, .getfield 12, 3), (44, .getfield 99, 3), (47, .iload_n 2, 1), (48, .iaload, 1), (49, .aload_n 0, 1), (50, .getfield 12, 3), (53, .getfield 128, 3), (56, .iload_n 2, 1), (57, .iaload, 1), (58, .iadd, 1)]
def tbX10_dress_1 : List (Nat × Instr × Nat) := [(59, .invokestatic 131, 3), (62, .iastore, 1), (63, .aload_n 0, 1), (64, .getfield 23, 3), (67, .iload_n 2, 1), (68, .aload_n 0, 1), (69, .getfield 50, 3), (72, .aload_n 0, 1), (73, .getfield 12, 3), (76, .getfield 99, 3), (79, .iload_n 2, 1), (80, .iaload, 1), (81, .aload_n 0, 1), (82, .getfield 12, 3), (85, .getfield 102, 3), (88, .iload_n 2, 1), (89, .iaload, 1), (90, .iload_n 3, 1), (91, .invokevirtual 136, 3), (94, .aload_n 0, 1), (95, .getfield 23, 3), (98, .iload_n 2, 1), (99, .aload_n 0, 1), (100, .getfield 50, 3), (103, .iconst 1, 1), (104, .isub, 1), (105, .invokevirtual 89, 3), (108, .istore 4, 2), (110, .aload_n 0, 1), (111, .getfield 32, 3), (114, .aload_n 1, 1), (115, .iload_n 2, 1)]
def tbX10_dress_2 : List (Nat × Instr × Nat) := [(116, .aload_n 0, 1), (117, .getfield 50, 3), (120, .aload_n 0, 1), (121, .getfield 12, 3), (124, .getfield 99, 3), (127, .iload_n 2, 1), (128, .iaload, 1), (129, .aload_n 0, 1), (130, .getfield 12, 3), (133, .getfield 102, 3), (136, .iload_n 2, 1), (137, .iaload, 1), (138, .iload_n 3, 1), (139, .invokevirtual 105, 3), (142, .istore 5, 2), (144, .iload 5, 2), (146, .iload 4, 2), (148, .if_icmp .ne 16, 3), (151, .aload_n 0, 1), (152, .getfield 12, 3), (155, .iload_n 2, 1), (156, .bipush 12, 2), (158, .invokevirtual 140, 3), (161, .goto 69, 3), (164, .aload_n 0, 1), (165, .getfield 12, 3), (168, .iload_n 2, 1), (169, .aload_n 0, 1), (170, .getfield 32, 3), (173, .getfield 144, 3), (176, .ifCond .ne 8, 3), (179, .bipush 10, 2)]
def tbX10_dress_3 : List (Nat × Instr × Nat) := [(181, .goto 5, 3), (184, .bipush 11, 2), (186, .invokevirtual 140, 3), (189, .aload_n 0, 1), (190, .iload_n 2, 1), (191, .iload 5, 2), (193, .iload 4, 2), (195, .isub, 1), (196, .invokestatic 147, 3), (199, .aload_n 0, 1), (200, .getfield 40, 3), (203, .if_icmp .gt 7, 3), (206, .iconst 1, 1), (207, .goto 4, 3), (210, .iconst 0, 1), (211, .invokevirtual 150, 3), (214, .ifCond .eq 16, 3), (217, .aload_n 0, 1), (218, .getfield 12, 3), (221, .getfield 102, 3), (224, .iload_n 2, 1), (225, .iconst 0, 1), (226, .iastore, 1), (227, .iload 5, 2), (229, .ireturn, 1), (230, .aload_n 0, 1), (231, .getfield 12, 3), (234, .getfield 102, 3), (237, .iload_n 2, 1), (238, .dup2, 1), (239, .iaload, 1), (240, .iconst 1, 1)]
def tbX10_dress_4 : List (Nat × Instr × Nat) := [(241, .iadd, 1), (242, .iastore, 1), (243, .iload 4, 2), (245, .ireturn, 1)]
theorem tdX10_dress_0 : hx_dt cX10_dress tbX10_dress_0 = true := by decide +kernel
theorem tdX10_dress_1 : hx_dt cX10_dress tbX10_dress_1 = true := by decide +kernel
theorem tdX10_dress_2 : hx_dt cX10_dress tbX10_dress_2 = true := by decide +kernel
theorem tdX10_dress_3 : hx_dt cX10_dress tbX10_dress_3 = true := by decide +kernel
theorem tdX10_dress_4 : hx_dt cX10_dress tbX10_dress_4 = true := by decide +kernel
theorem caX10_dress_89 {G : hx_GT} (cA : hx_CA RX10 cX10_dress 5 0 0 G) : hx_CV cX10_dress G 0 0 89 3 2 sX3_lengthOf 0 0 := cA.1 conX3_lengthOf rfl rfl ⟨by decide +kernel, by decide +kernel, by decide +kernel⟩ mw_716 mw_717 mw_718 mw_88 mw_719 (by decide) (by decide)
theorem caX10_dress_105 {G : hx_GT} (cA : hx_CA RX10 cX10_dress 5 0 0 G) : hx_CV cX10_dress G 0 0 105 6 6 sX6_wishOf 0 0 := cA.1 conX6_wishOf rfl rfl ⟨by decide +kernel, by decide +kernel, by decide +kernel⟩ mw_720 mw_721 mw_722 mw_91 mw_723 (by decide) (by decide)
theorem caX10_dress_136 {G : hx_GT} (cA : hx_CA RX10 cX10_dress 5 0 0 G) : hx_CV cX10_dress G 0 0 136 3 5 sX3_noteAsked 0 0 := cA.1 conX3_noteAsked rfl rfl ⟨by decide +kernel, by decide +kernel, by decide +kernel⟩ mw_712 mw_713 mw_714 mw_88 mw_715 (by decide) (by decide)
theorem caX10_dress_140 {G : hx_GT} (cA : hx_CA RX10 cX10_dress 5 0 0 G) : hx_CV cX10_dress G 0 0 140 4 2 sX4_tell 0 0 := cA.1 conX4_tell rfl rfl ⟨by decide +kernel, by decide +kernel, by decide +kernel⟩ mw_773 mw_774 mw_775 mw_87 mw_776 (by decide) (by decide)
theorem caX10_dress_150 {G : hx_GT} (cA : hx_CA RX10 cX10_dress 5 0 0 G) : hx_CV cX10_dress G 0 0 150 10 2 sX10_pays 0 0 := cA.1 conX10_pays rfl rfl ⟨by decide +kernel, by decide +kernel, by decide +kernel⟩ mw_778 mw_780 mw_21 mw_86 mw_781 (by decide) (by decide)
def wX10_dress_J230 (Λ : hx_L) (K : Int32 → hx_M → Prop)  (v2 : Int32) (v4 : Int32)  (μ : hx_M) : Prop := vp_in v2 16 ∧ vp_in v2 16 ∧ K v4 (hx_sI μ 13 v2.toNatClampNeg ((μ.1 13 v2.toNatClampNeg) + 1))
set_option maxRecDepth 100000 in
set_option maxHeartbeats 4000000 in
theorem kX10_dress_J230 {G : hx_GT} {KK : hx_KT} (hG : hx_K cX10_dress 6 0 0 (some .int) TbX10 KK G) (cA : hx_CA RX10 cX10_dress 5 0 0 G) {Λ : hx_L} (hF : cF Λ) {μ : hx_M} (v2 : Int32) (v4 : Int32)  {K : Int32 → hx_M → Prop} (hK : ∀ (r : Int32) (m : hx_M), K r m → KK (some (.int r)) Λ m)  (hw : wX10_dress_J230 Λ K v2 v4 μ) : G Λ μ (0, 0) 230 [some (.ref 7), none, some (.int v2), none, some (.int v4), none] [] := by
  unfold wX10_dress_J230 at hw
  obtain ⟨i239_24, hw⟩ := hw
  obtain ⟨i242_25, hw⟩ := hw
  exact cl_aload_n hG (hx_dq tdX10_dress_3 25 rfl) rfl (cl_getS hG fmX10_12 (hx_dq tdX10_dress_3 26 rfl) (cF_S7 hF) (cF_R7_0 hF) (cl_getS hG fmX10_102 (hx_dq tdX10_dress_3 27 rfl) (cF_S8 hF) (cF_R8_5 hF) (cl_iload_n hG (hx_dq tdX10_dress_3 28 rfl) rfl (cl_dup2 hG (hx_dq tdX10_dress_3 29 rfl) rfl rfl (cl_iald hG (hx_dq tdX10_dress_3 30 rfl) (cF_S13 hF) i239_24 (cl_iconst hG 1 (hx_dq tdX10_dress_3 31 rfl) iconst_1 (cl_iadd hG (hx_dq tdX10_dress_4 0 rfl) (cl_iast hG (hx_dq tdX10_dress_4 1 rfl) (cF_S13 hF) i242_25 (cl_iload hG (hx_dq tdX10_dress_4 2 rfl) rfl (cl_iret hG (hx_dq tdX10_dress_4 3 rfl) rfl rfl (hK _ _ hw) (Nat.le_refl _) (Nat.le_refl _)))))))))))
def wX10_dress_J211 (Λ : hx_L) (K : Int32 → hx_M → Prop)  (v2 : Int32) (v4 : Int32) (v5 : Int32) (t1 : Int32) (t2 : Int32) (μ : hx_M) : Prop := wX10_pays μ t1 t2 (fun r211_23 m211_22 => (r211_23 = 0 → (wX10_dress_J230 Λ K v2 v4 m211_22)) ∧ (¬ (r211_23 = 0) → (vp_in v2 16 ∧ K v5 (hx_sI m211_22 13 v2.toNatClampNeg 0))))
set_option maxRecDepth 100000 in
set_option maxHeartbeats 4000000 in
theorem kX10_dress_J211 {G : hx_GT} {KK : hx_KT} (hG : hx_K cX10_dress 6 0 0 (some .int) TbX10 KK G) (cA : hx_CA RX10 cX10_dress 5 0 0 G) {Λ : hx_L} (hF : cF Λ) {μ : hx_M} (v2 : Int32) (v4 : Int32) (v5 : Int32) (t1 : Int32) (t2 : Int32) {K : Int32 → hx_M → Prop} (hK : ∀ (r : Int32) (m : hx_M), K r m → KK (some (.int r)) Λ m)  (hw : wX10_dress_J211 Λ K v2 v4 v5 t1 t2 μ) : G Λ μ (0, 0) 211 [some (.ref 7), none, some (.int v2), none, some (.int v4), some (.int v5)] [.int t2, .int t1, .ref 7] := by
  unfold wX10_dress_J211 at hw
  refine cl_callV2 (caX10_dress_150 cA) (hx_dq tdX10_dress_3 15 rfl) (cF_S7 hF) (Nat.le_of_ble_eq_true rfl) (Nat.le_refl _) (Nat.le_refl _) (sX10_pays_mk hF hw (fun r211_23 m211_22 hw => ?_))
  refine cl_if_eq hG 230 (hx_dq tdX10_dress_3 16 rfl) rfl (fun c214 => ?_) (fun c214 => ?_)
  · replace hw := hw.1 c214
    exact cl_sub hG (hx_le_c rfl (hx_le_n (hx_le_c rfl (hx_le_n (hx_le_c rfl (hx_le_n hx_le_0)))))) (kX10_dress_J230 hG cA hF v2 v4 hK hw)
  · replace hw := hw.2 c214
    obtain ⟨i226_26, hw⟩ := hw
    exact cl_aload_n hG (hx_dq tdX10_dress_3 17 rfl) rfl (cl_getS hG fmX10_12 (hx_dq tdX10_dress_3 18 rfl) (cF_S7 hF) (cF_R7_0 hF) (cl_getS hG fmX10_102 (hx_dq tdX10_dress_3 19 rfl) (cF_S8 hF) (cF_R8_5 hF) (cl_iload_n hG (hx_dq tdX10_dress_3 20 rfl) rfl (cl_iconst hG 0 (hx_dq tdX10_dress_3 21 rfl) iconst_0 (cl_iast hG (hx_dq tdX10_dress_3 22 rfl) (cF_S13 hF) i226_26 (cl_iload hG (hx_dq tdX10_dress_3 23 rfl) rfl (cl_iret hG (hx_dq tdX10_dress_3 24 rfl) rfl rfl (hK _ _ hw) (Nat.le_refl _) (Nat.le_refl _))))))))
def wX10_dress_J186 (Λ : hx_L) (K : Int32 → hx_M → Prop)  (v2 : Int32) (v4 : Int32) (v5 : Int32) (t1 : Int32) (t2 : Int32) (μ : hx_M) : Prop := wX4_tell μ t1 t2 (fun m186_19 => ∀ x_21 : Int32, x_21 = (if 0 ≤ (v5 - v4) then (v5 - v4) else 0 - (v5 - v4)) → ((m186_19.1 7 4) < x_21 → (wX10_dress_J211 Λ K v2 v4 v5 v2 0 m186_19)) ∧ (¬ ((m186_19.1 7 4) < x_21) → (wX10_dress_J211 Λ K v2 v4 v5 v2 1 m186_19)))
set_option maxRecDepth 100000 in
set_option maxHeartbeats 4000000 in
theorem kX10_dress_J186 {G : hx_GT} {KK : hx_KT} (hG : hx_K cX10_dress 6 0 0 (some .int) TbX10 KK G) (cA : hx_CA RX10 cX10_dress 5 0 0 G) {Λ : hx_L} (hF : cF Λ) {μ : hx_M} (v2 : Int32) (v4 : Int32) (v5 : Int32) (t1 : Int32) (t2 : Int32) {K : Int32 → hx_M → Prop} (hK : ∀ (r : Int32) (m : hx_M), K r m → KK (some (.int r)) Λ m)  (hw : wX10_dress_J186 Λ K v2 v4 v5 t1 t2 μ) : G Λ μ (0, 0) 186 [some (.ref 7), none, some (.int v2), none, some (.int v4), some (.int v5)] [.int t2, .int t1, .ref 8] := by
  unfold wX10_dress_J186 at hw
  refine cl_callV2 (caX10_dress_140 cA) (hx_dq tdX10_dress_3 2 rfl) (cF_S8 hF) (Nat.le_of_ble_eq_true rfl) (Nat.le_refl _) (Nat.le_refl _) (sX4_tell_mk hF hw (fun m186_19 hw => ?_))
  refine cl_aload_n hG (hx_dq tdX10_dress_3 3 rfl) rfl (cl_iload_n hG (hx_dq tdX10_dress_3 4 rfl) rfl (cl_iload hG (hx_dq tdX10_dress_3 5 rfl) rfl (cl_iload hG (hx_dq tdX10_dress_3 6 rfl) rfl (cl_isub hG (hx_dq tdX10_dress_3 7 rfl) (cl_mabs hG mmX10_147 (hx_dq tdX10_dress_3 8 rfl) (Nat.le_refl _) (Nat.le_refl _) (Nat.le_of_ble_eq_true rfl) (cl_nmI (fun x_21 e_21 => ?_)))))))
  replace hw := hw x_21 e_21
  refine cl_aload_n hG (hx_dq tdX10_dress_3 9 rfl) rfl (cl_getI hG fmX10_40 (hx_dq tdX10_dress_3 10 rfl) (cF_S7 hF) (cl_icmp_gt hG 210 (hx_dq tdX10_dress_3 11 rfl) rfl (fun c203 => ?_) (fun c203 => ?_)))
  · replace hw := hw.1 c203
    refine cl_iconst hG 0 (hx_dq tdX10_dress_3 14 rfl) iconst_0 ?_
    exact cl_sub hG (hx_le_c rfl (hx_le_n (hx_le_c rfl (hx_le_n (hx_le_c rfl (hx_le_c rfl hx_le_0)))))) (kX10_dress_J211 hG cA hF v2 v4 v5 v2 0 hK hw)
  · replace hw := hw.2 c203
    refine cl_iconst hG 1 (hx_dq tdX10_dress_3 12 rfl) iconst_1 (cl_goto hG 211 (hx_dq tdX10_dress_3 13 rfl) rfl ?_)
    exact cl_sub hG (hx_le_c rfl (hx_le_n (hx_le_c rfl (hx_le_n (hx_le_c rfl (hx_le_c rfl hx_le_0)))))) (kX10_dress_J211 hG cA hF v2 v4 v5 v2 1 hK hw)
def wX10_dress_J230_29 (Λ : hx_L) (K : Int32 → hx_M → Prop)  (v2 : Int32) (v4 : Int32)  (μ : hx_M) : Prop := vp_in v2 16 ∧ vp_in v2 16 ∧ K v4 (hx_sI μ 13 v2.toNatClampNeg ((μ.1 13 v2.toNatClampNeg) + 1))
set_option maxRecDepth 100000 in
set_option maxHeartbeats 4000000 in
theorem kX10_dress_J230_29 {G : hx_GT} {KK : hx_KT} (hG : hx_K cX10_dress 6 0 0 (some .int) TbX10 KK G) (cA : hx_CA RX10 cX10_dress 5 0 0 G) {Λ : hx_L} (hF : cF Λ) {μ : hx_M} (v2 : Int32) (v4 : Int32)  {K : Int32 → hx_M → Prop} (hK : ∀ (r : Int32) (m : hx_M), K r m → KK (some (.int r)) Λ m)  (hw : wX10_dress_J230_29 Λ K v2 v4 μ) : G Λ μ (0, 0) 230 [some (.ref 7), none, some (.int v2), none, some (.int v4), none] [] := by
  unfold wX10_dress_J230_29 at hw
  obtain ⟨i239_30, hw⟩ := hw
  obtain ⟨i242_31, hw⟩ := hw
  exact cl_aload_n hG (hx_dq tdX10_dress_3 25 rfl) rfl (cl_getS hG fmX10_12 (hx_dq tdX10_dress_3 26 rfl) (cF_S7 hF) (cF_R7_0 hF) (cl_getS hG fmX10_102 (hx_dq tdX10_dress_3 27 rfl) (cF_S8 hF) (cF_R8_5 hF) (cl_iload_n hG (hx_dq tdX10_dress_3 28 rfl) rfl (cl_dup2 hG (hx_dq tdX10_dress_3 29 rfl) rfl rfl (cl_iald hG (hx_dq tdX10_dress_3 30 rfl) (cF_S13 hF) i239_30 (cl_iconst hG 1 (hx_dq tdX10_dress_3 31 rfl) iconst_1 (cl_iadd hG (hx_dq tdX10_dress_4 0 rfl) (cl_iast hG (hx_dq tdX10_dress_4 1 rfl) (cF_S13 hF) i242_31 (cl_iload hG (hx_dq tdX10_dress_4 2 rfl) rfl (cl_iret hG (hx_dq tdX10_dress_4 3 rfl) rfl rfl (hK _ _ hw) (Nat.le_refl _) (Nat.le_refl _)))))))))))
def wX10_dress (Λ : hx_L) (μ : hx_M) (v1 : Nat) (v2 : Int32) (K : Int32 → hx_M → Prop) : Prop := ∀ x_1 : Int64, x_1 = (((μ.2 7 6) * (6364136223846793005 : Int64)) + (1442695040888963407 : Int64)) → ∀ x_2 : Int64, x_2 = (((x_1 : Int64).toUInt64 >>> ((33 : Int32).toInt64.toUInt64 &&& Int64.toUInt64 63)).toInt64) → ¬ (100 : Int64) = 0 ∧ ∀ x_3 : Int32, x_3 = ((x_2 - x_2 / (100 : Int64) * (100 : Int64) : Int64).toInt32) → vp_in v2 16 ∧ vp_in v2 16 ∧ ∀ x_6 : Int32, x_6 = ((μ.1 12 v2.toNatClampNeg) + (μ.1 10 v2.toNatClampNeg)) → vp_in v2 16 ∧ vp_in v2 16 ∧ ∀ x_9 : Int32, x_9 = (((hx_sI (hx_sL μ 7 6 x_1) 12 v2.toNatClampNeg (if x_6 < 9999 then x_6 else 9999)).1 12 v2.toNatClampNeg)) → vp_in v2 16 ∧ wX3_noteAsked (hx_sI (hx_sL μ 7 6 x_1) 12 v2.toNatClampNeg (if x_6 < 9999 then x_6 else 9999)) v2 (μ.1 7 7) x_9 (μ.1 13 v2.toNatClampNeg) x_3 (fun m91_11 => wX3_lengthOf m91_11 v2 ((m91_11.1 7 7) - 1) (fun r105_14 => vp_in v2 16 ∧ vp_in v2 16 ∧ wX6_wishOf Λ m91_11 v1 v2 (m91_11.1 7 7) (m91_11.1 12 v2.toNatClampNeg) (m91_11.1 13 v2.toNatClampNeg) x_3 (fun r139_18 m139_17 => (r139_18 ≠ r105_14 → (((m139_17.1 21 5) ≠ 0 → (wX10_dress_J186 Λ K v2 r105_14 r139_18 v2 11 m139_17)) ∧ ((m139_17.1 21 5) = 0 → (wX10_dress_J186 Λ K v2 r105_14 r139_18 v2 10 m139_17)))) ∧ (r139_18 = r105_14 → (wX4_tell m139_17 v2 12 (fun m158_27 => wX10_dress_J230_29 Λ K v2 r105_14 m158_27))))))
set_option maxRecDepth 100000 in
set_option maxHeartbeats 4000000 in
theorem kX10_dress {G : hx_GT} {KK : hx_KT} (hG : hx_K cX10_dress 6 0 0 (some .int) TbX10 KK G) (cA : hx_CA RX10 cX10_dress 5 0 0 G) {Λ : hx_L} (hF : cF Λ) {μ : hx_M} (v1 : Nat) (v2 : Int32) {K : Int32 → hx_M → Prop} (hK : ∀ (r : Int32) (m : hx_M), K r m → KK (some (.int r)) Λ m) (hw : wX10_dress Λ μ v1 v2 K) : G Λ μ (0, 0) 0 [some (.ref 7), some (.ref v1), some (.int v2), none, none, none] [] := by
  unfold wX10_dress at hw
  refine cl_aload_n hG (hx_dq tdX10_dress_0 0 rfl) rfl (cl_aload_n hG (hx_dq tdX10_dress_0 1 rfl) rfl (cl_getL hG fmX10_46 (hx_dq tdX10_dress_0 2 rfl) (cF_S7 hF) (cl_ldc2 hG ciX10_122 (hx_dq tdX10_dress_0 3 rfl) (cl_lmul hG (hx_dq tdX10_dress_0 4 rfl) (cl_ldc2 hG ciX10_124 (hx_dq tdX10_dress_0 5 rfl) (cl_ladd hG (hx_dq tdX10_dress_0 6 rfl) (cl_nmL (fun x_1 e_1 => ?_))))))))
  replace hw := hw x_1 e_1
  refine cl_putL hG fmX10_46 (hx_dq tdX10_dress_0 7 rfl) (cF_S7 hF) (cl_aload_n hG (hx_dq tdX10_dress_0 8 rfl) rfl (cl_getL hG fmX10_46 (hx_dq tdX10_dress_0 9 rfl) (cF_S7 hF) (cl_bipush hG 33 (hx_dq tdX10_dress_0 10 rfl) bipush_33 (cl_lushr hG (hx_dq tdX10_dress_0 11 rfl) (cl_nmL (fun x_2 e_2 => ?_))))))
  replace hw := hw x_2 e_2
  obtain ⟨o26, hw⟩ := hw
  refine cl_ldc2 hG ciX10_126 (hx_dq tdX10_dress_0 12 rfl) (cl_lrem hG (hx_dq tdX10_dress_0 13 rfl) o26 (cl_l2i hG (hx_dq tdX10_dress_0 14 rfl) (cl_nmI (fun x_3 e_3 => ?_))))
  replace hw := hw x_3 e_3
  obtain ⟨i48_4, hw⟩ := hw
  obtain ⟨i57_5, hw⟩ := hw
  refine cl_istore_n hG (hx_dq tdX10_dress_0 15 rfl) (Nat.le_of_ble_eq_true rfl) rfl (cl_aload_n hG (hx_dq tdX10_dress_0 16 rfl) rfl (cl_getS hG fmX10_12 (hx_dq tdX10_dress_0 17 rfl) (cF_S7 hF) (cF_R7_0 hF) (cl_getS hG fmX10_99 (hx_dq tdX10_dress_0 18 rfl) (cF_S8 hF) (cF_R8_4 hF) (cl_iload_n hG (hx_dq tdX10_dress_0 19 rfl) rfl (cl_sipush hG 9999 (hx_dq tdX10_dress_0 20 rfl) sipush_9999 (cl_aload_n hG (hx_dq tdX10_dress_0 21 rfl) rfl (cl_getS hG fmX10_12 (hx_dq tdX10_dress_0 22 rfl) (cF_S7 hF) (cF_R7_0 hF) (cl_getS hG fmX10_99 (hx_dq tdX10_dress_0 23 rfl) (cF_S8 hF) (cF_R8_4 hF) (cl_iload_n hG (hx_dq tdX10_dress_0 24 rfl) rfl (cl_iald hG (hx_dq tdX10_dress_0 25 rfl) (cF_S12 hF) i48_4 (cl_aload_n hG (hx_dq tdX10_dress_0 26 rfl) rfl (cl_getS hG fmX10_12 (hx_dq tdX10_dress_0 27 rfl) (cF_S7 hF) (cF_R7_0 hF) (cl_getS hG fmX10_128 (hx_dq tdX10_dress_0 28 rfl) (cF_S8 hF) (cF_R8_2 hF) (cl_iload_n hG (hx_dq tdX10_dress_0 29 rfl) rfl (cl_iald hG (hx_dq tdX10_dress_0 30 rfl) (cF_S10 hF) i57_5 (cl_iadd hG (hx_dq tdX10_dress_0 31 rfl) (cl_nmI (fun x_6 e_6 => ?_))))))))))))))))))
  replace hw := hw x_6 e_6
  obtain ⟨i62_7, hw⟩ := hw
  obtain ⟨i80_8, hw⟩ := hw
  refine cl_mmin hG mmX10_131 (hx_dq tdX10_dress_1 0 rfl) (Nat.le_refl _) (Nat.le_refl _) (Nat.le_of_ble_eq_true rfl) (cl_iast hG (hx_dq tdX10_dress_1 1 rfl) (cF_S12 hF) i62_7 (cl_aload_n hG (hx_dq tdX10_dress_1 2 rfl) rfl (cl_getS hG fmX10_23 (hx_dq tdX10_dress_1 3 rfl) (cF_S7 hF) (cF_R7_1 hF) (cl_iload_n hG (hx_dq tdX10_dress_1 4 rfl) rfl (cl_aload_n hG (hx_dq tdX10_dress_1 5 rfl) rfl (cl_getI hG fmX10_50 (hx_dq tdX10_dress_1 6 rfl) (cF_S7 hF) (cl_aload_n hG (hx_dq tdX10_dress_1 7 rfl) rfl (cl_getS hG fmX10_12 (hx_dq tdX10_dress_1 8 rfl) (cF_S7 hF) (cF_R7_0 hF) (cl_getS hG fmX10_99 (hx_dq tdX10_dress_1 9 rfl) (cF_S8 hF) (cF_R8_4 hF) (cl_iload_n hG (hx_dq tdX10_dress_1 10 rfl) rfl (cl_iald hG (hx_dq tdX10_dress_1 11 rfl) (cF_S12 hF) i80_8 (cl_nmI (fun x_9 e_9 => ?_)))))))))))))
  replace hw := hw x_9 e_9
  obtain ⟨i89_10, hw⟩ := hw
  refine cl_aload_n hG (hx_dq tdX10_dress_1 12 rfl) rfl (cl_getS hG fmX10_12 (hx_dq tdX10_dress_1 13 rfl) (cF_S7 hF) (cF_R7_0 hF) (cl_getS hG fmX10_102 (hx_dq tdX10_dress_1 14 rfl) (cF_S8 hF) (cF_R8_5 hF) (cl_iload_n hG (hx_dq tdX10_dress_1 15 rfl) rfl (cl_iald hG (hx_dq tdX10_dress_1 16 rfl) (cF_S13 hF) i89_10 (cl_iload_n hG (hx_dq tdX10_dress_1 17 rfl) rfl (cl_callV5 (caX10_dress_136 cA) (hx_dq tdX10_dress_1 18 rfl) (cF_S15 hF) (Nat.le_of_ble_eq_true rfl) (Nat.le_refl _) (Nat.le_refl _) (sX3_noteAsked_mk hF hw (fun m91_11 hw => ?_))))))))
  refine cl_aload_n hG (hx_dq tdX10_dress_1 19 rfl) rfl (cl_getS hG fmX10_23 (hx_dq tdX10_dress_1 20 rfl) (cF_S7 hF) (cF_R7_1 hF) (cl_iload_n hG (hx_dq tdX10_dress_1 21 rfl) rfl (cl_aload_n hG (hx_dq tdX10_dress_1 22 rfl) rfl (cl_getI hG fmX10_50 (hx_dq tdX10_dress_1 23 rfl) (cF_S7 hF) (cl_iconst hG 1 (hx_dq tdX10_dress_1 24 rfl) iconst_1 (cl_isub hG (hx_dq tdX10_dress_1 25 rfl) (cl_callV2 (caX10_dress_89 cA) (hx_dq tdX10_dress_1 26 rfl) (cF_S15 hF) (Nat.le_of_ble_eq_true rfl) (Nat.le_refl _) (Nat.le_refl _) (sX3_lengthOf_mk hF hw (fun r105_14 hw => ?_)))))))))
  obtain ⟨i128_15, hw⟩ := hw
  obtain ⟨i137_16, hw⟩ := hw
  refine cl_istore hG (hx_dq tdX10_dress_1 27 rfl) (Nat.le_of_ble_eq_true rfl) rfl (cl_aload_n hG (hx_dq tdX10_dress_1 28 rfl) rfl (cl_getS hG fmX10_32 (hx_dq tdX10_dress_1 29 rfl) (cF_S7 hF) (cF_R7_2 hF) (cl_aload_n hG (hx_dq tdX10_dress_1 30 rfl) rfl (cl_iload_n hG (hx_dq tdX10_dress_1 31 rfl) rfl (cl_aload_n hG (hx_dq tdX10_dress_2 0 rfl) rfl (cl_getI hG fmX10_50 (hx_dq tdX10_dress_2 1 rfl) (cF_S7 hF) (cl_aload_n hG (hx_dq tdX10_dress_2 2 rfl) rfl (cl_getS hG fmX10_12 (hx_dq tdX10_dress_2 3 rfl) (cF_S7 hF) (cF_R7_0 hF) (cl_getS hG fmX10_99 (hx_dq tdX10_dress_2 4 rfl) (cF_S8 hF) (cF_R8_4 hF) (cl_iload_n hG (hx_dq tdX10_dress_2 5 rfl) rfl (cl_iald hG (hx_dq tdX10_dress_2 6 rfl) (cF_S12 hF) i128_15 (cl_aload_n hG (hx_dq tdX10_dress_2 7 rfl) rfl (cl_getS hG fmX10_12 (hx_dq tdX10_dress_2 8 rfl) (cF_S7 hF) (cF_R7_0 hF) (cl_getS hG fmX10_102 (hx_dq tdX10_dress_2 9 rfl) (cF_S8 hF) (cF_R8_5 hF) (cl_iload_n hG (hx_dq tdX10_dress_2 10 rfl) rfl (cl_iald hG (hx_dq tdX10_dress_2 11 rfl) (cF_S13 hF) i137_16 (cl_iload_n hG (hx_dq tdX10_dress_2 12 rfl) rfl (cl_callV6 (caX10_dress_105 cA) (hx_dq tdX10_dress_2 13 rfl) (cF_S21 hF) (Nat.le_of_ble_eq_true rfl) (Nat.le_refl _) (Nat.le_refl _) (sX6_wishOf_mk hF hw (fun r139_18 m139_17 hw => ?_))))))))))))))))))))
  refine cl_istore hG (hx_dq tdX10_dress_2 14 rfl) (Nat.le_of_ble_eq_true rfl) rfl (cl_iload hG (hx_dq tdX10_dress_2 15 rfl) rfl (cl_iload hG (hx_dq tdX10_dress_2 16 rfl) rfl (cl_icmp_ne hG 164 (hx_dq tdX10_dress_2 17 rfl) rfl (fun c148 => ?_) (fun c148 => ?_))))
  · replace hw := hw.1 c148
    refine cl_aload_n hG (hx_dq tdX10_dress_2 24 rfl) rfl (cl_getS hG fmX10_12 (hx_dq tdX10_dress_2 25 rfl) (cF_S7 hF) (cF_R7_0 hF) (cl_iload_n hG (hx_dq tdX10_dress_2 26 rfl) rfl (cl_aload_n hG (hx_dq tdX10_dress_2 27 rfl) rfl (cl_getS hG fmX10_32 (hx_dq tdX10_dress_2 28 rfl) (cF_S7 hF) (cF_R7_2 hF) (cl_getI hG fmX10_144 (hx_dq tdX10_dress_2 29 rfl) (cF_S21 hF) (cl_if_ne hG 184 (hx_dq tdX10_dress_2 30 rfl) rfl (fun c176 => ?_) (fun c176 => ?_)))))))
    · replace hw := hw.1 c176
      refine cl_bipush hG 11 (hx_dq tdX10_dress_3 1 rfl) bipush_11 ?_
      exact cl_sub hG (hx_le_c rfl (hx_le_n (hx_le_c rfl (hx_le_n (hx_le_c rfl (hx_le_c rfl hx_le_0)))))) (kX10_dress_J186 hG cA hF v2 r105_14 r139_18 v2 11 hK hw)
    · replace hw := hw.2 c176
      refine cl_bipush hG 10 (hx_dq tdX10_dress_2 31 rfl) bipush_10 (cl_goto hG 186 (hx_dq tdX10_dress_3 0 rfl) rfl ?_)
      exact cl_sub hG (hx_le_c rfl (hx_le_n (hx_le_c rfl (hx_le_n (hx_le_c rfl (hx_le_c rfl hx_le_0)))))) (kX10_dress_J186 hG cA hF v2 r105_14 r139_18 v2 10 hK hw)
  · replace hw := hw.2 c148
    refine cl_aload_n hG (hx_dq tdX10_dress_2 18 rfl) rfl (cl_getS hG fmX10_12 (hx_dq tdX10_dress_2 19 rfl) (cF_S7 hF) (cF_R7_0 hF) (cl_iload_n hG (hx_dq tdX10_dress_2 20 rfl) rfl (cl_bipush hG 12 (hx_dq tdX10_dress_2 21 rfl) bipush_12 (cl_callV2 (caX10_dress_140 cA) (hx_dq tdX10_dress_2 22 rfl) (cF_S8 hF) (Nat.le_of_ble_eq_true rfl) (Nat.le_refl _) (Nat.le_refl _) (sX4_tell_mk hF hw (fun m158_27 hw => ?_))))))
    refine cl_goto hG 230 (hx_dq tdX10_dress_2 23 rfl) rfl ?_
    exact cl_sub hG (hx_le_c rfl (hx_le_n (hx_le_c rfl (hx_le_n (hx_le_c rfl (hx_le_n hx_le_0)))))) (kX10_dress_J230_29 hG cA hF v2 r105_14 hK hw)
def sX10_dress : hx_ST := fun Λ μ as KK => cF Λ ∧ ∃ (v1 : Nat) (v2 : Int32) (K : Int32 → hx_M → Prop), as = [.ref 7, .ref v1, .int v2] ∧ wX10_dress Λ μ v1 v2 K ∧ (∀ (r : Int32) (m : hx_M), K r m → KK (some (.int r)) Λ m)
theorem sX10_dress_mk {Λ : hx_L} {μ : hx_M} {KK : hx_KT} {v1 : Nat} {v2 : Int32} {K : Int32 → hx_M → Prop} (hF : cF Λ) (hw : wX10_dress Λ μ v1 v2 K) (hk : ∀ (r : Int32) (m : hx_M), K r m → KK (some (.int r)) Λ m) : sX10_dress Λ μ [.ref 7, .ref v1, .int v2] KK := ⟨hF, _, _, _, rfl, hw, hk⟩
theorem conX10_dress : hx_Con yX10_dress cX10_dress 6 (some .int) 5 0 0 sX10_dress := by
  refine hx_con_of (by decide +kernel) tokX10 (by decide) ?_ ?_
  · intro Λ μ as KK h
    obtain ⟨hF, v1, v2, K, rfl, hw, hK⟩ := h
    exact Nat.le_of_ble_eq_true rfl
  · intro G KK hG cA Λ μ as h
    obtain ⟨hF, v1, v2, K, rfl, hw, hK⟩ := h
    exact cl_sub hG (hx_le_c rfl (hx_le_c rfl (hx_le_c rfl (hx_le_n (hx_le_n (hx_le_n hx_le_0)))))) (kX10_dress hG cA hF _ _ hK hw)
