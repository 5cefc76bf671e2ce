/-! HemLineModel.best()I -/
def tbX12_best_0 : List (Nat × Instr × Nat) := [(0, .iconst (-1), 1), (1, .istore_n 1, 1), (2, .lconst 0, 1), (3, .lstore_n 2, 1), (4, .iconst 0, 1), (5, .istore 4, 2), (7, .iload 4, 2), (9, .bipush 10, 2), (11, .if_icmp .ge 68, 3), (14, .aload_n 0, 1), (15, .iload 4, 2), (17, .invokevirtual 421, 3), (20, .aload_n 0, 1), (21, .getfield 418, 3), (24, .ifCond .ne 6, 3), (27, .goto 46, 3), (30, .aload_n 0, 1), (31, .aload_n 0, 1), (32, .getfield 418, 3), (35, .aload_n 0, 1), (36, .getfield 415, 3), (39, .invokevirtual 424, 3), (42, .bipush 40, 2), (44, .aload_n 0, 1), (45, .getfield 418, 3), (48, .isub, 1), (49, .lshl, 1), (50, .lstore 5, 2), (52, .iload_n 1, 1), (53, .iconst (-1), 1), (54, .if_icmp .eq 13, 3), (57, .lload 5, 2)]
def tbX12_best_1 : List (Nat × Instr × Nat) := [(59, .lload_n 2, 1), (60, .lcmp, 1), (61, .ifCond .lt 6, 3), (64, .goto 9, 3), (67, .iload 4, 2), (69, .istore_n 1, 1), (70, .lload 5, 2), (72, .lstore_n 2, 1), (73, .iinc 4 1, 3), (76, .goto (-69), 3), (79, .iload_n 1, 1), (80, .ireturn, 1)]
theorem tdX12_best_0 : hx_dt cX12_best tbX12_best_0 = true := by decide +kernel
theorem tdX12_best_1 : hx_dt cX12_best tbX12_best_1 = true := by decide +kernel
theorem caX12_best_421 {G : hx_GT} (cA : hx_CA RX12 cX12_best 4 0 0 G) : hx_CV cX12_best G 0 0 421 12 1 sX12_claims 0 0 := cA.1 conX12_claims rfl rfl ⟨by decide +kernel, by decide +kernel, by decide +kernel⟩ mw_1627 mw_1629 mw_75 mw_97 mw_1630 (by decide) (by decide)
theorem caX12_best_424 {G : hx_GT} (cA : hx_CA RX12 cX12_best 4 0 0 G) : hx_CV cX12_best G 0 0 424 12 2 sX12_atLeast 0 0 := cA.1 conX12_atLeast rfl rfl ⟨by decide +kernel, by decide +kernel, by decide +kernel⟩ mw_1631 mw_1633 mw_76 mw_97 mw_1634 (by decide) (by decide)
def wX12_best_J73  (K : Int32 → hx_M → Prop) (K7 : Int32 → Int64 → Int32 → hx_M → Prop) (v1 : Int32) (v2 : Int64) (v4 : Int32)  (μ : hx_M) : Prop := K7 v1 v2 (v4 + 1) μ
set_option maxRecDepth 100000 in
set_option maxHeartbeats 4000000 in
theorem kX12_best_J73 {G : hx_GT} {KK : hx_KT} (hG : hx_K cX12_best 7 0 0 (some .int) TbX12 KK G) (cA : hx_CA RX12 cX12_best 4 0 0 G) {Λ : hx_L} (hF : mF Λ) {μ : hx_M} (v1 : Int32) (v2 : Int64) (v4 : Int32)  {K : Int32 → hx_M → Prop} (hK : ∀ (r : Int32) (m : hx_M), K r m → KK (some (.int r)) Λ m) {K7 : Int32 → Int64 → Int32 → hx_M → Prop} (hk7 : ∀ (v1 : Int32) (v2 : Int64) (v4 : Int32) (μ : hx_M), K7 v1 v2 v4 μ → G Λ μ (0, 0) 7 [some (.ref 49), some (.int v1), some (.long v2), none, some (.int v4), none, none] []) (hw : wX12_best_J73 K K7 v1 v2 v4 μ) : G Λ μ (0, 0) 73 [some (.ref 49), some (.int v1), some (.long v2), none, some (.int v4), none, none] [] := by
  unfold wX12_best_J73 at hw
  exact cl_iinc hG (v4 + 1) (hx_dq tdX12_best_1 8 rfl) rfl (congrArg (fun z => v4 + z) iconst_1) (Nat.le_of_ble_eq_true rfl) rfl (cl_goto hG 7 (hx_dq tdX12_best_1 9 rfl) rfl (cl_sub hG (hx_le_c rfl (hx_le_c rfl (hx_le_c rfl (hx_le_n (hx_le_c rfl (hx_le_n (hx_le_n hx_le_0))))))) (hk7 v1 v2 (v4 + 1) _ hw)))
def wX12_best_J67  (K : Int32 → hx_M → Prop) (K7 : Int32 → Int64 → Int32 → hx_M → Prop) (v4 : Int32) (v5 : Int64)  (μ : hx_M) : Prop := wX12_best_J73 K (K7) v4 v5 v4 μ
set_option maxRecDepth 100000 in
set_option maxHeartbeats 4000000 in
theorem kX12_best_J67 {G : hx_GT} {KK : hx_KT} (hG : hx_K cX12_best 7 0 0 (some .int) TbX12 KK G) (cA : hx_CA RX12 cX12_best 4 0 0 G) {Λ : hx_L} (hF : mF Λ) {μ : hx_M} (v4 : Int32) (v5 : Int64)  {K : Int32 → hx_M → Prop} (hK : ∀ (r : Int32) (m : hx_M), K r m → KK (some (.int r)) Λ m) {K7 : Int32 → Int64 → Int32 → hx_M → Prop} (hk7 : ∀ (v1 : Int32) (v2 : Int64) (v4 : Int32) (μ : hx_M), K7 v1 v2 v4 μ → G Λ μ (0, 0) 7 [some (.ref 49), some (.int v1), some (.long v2), none, some (.int v4), none, none] []) (hw : wX12_best_J67 K K7 v4 v5 μ) : G Λ μ (0, 0) 67 [some (.ref 49), none, none, none, some (.int v4), some (.long v5), none] [] := by
  unfold wX12_best_J67 at hw
  refine cl_iload hG (hx_dq tdX12_best_1 4 rfl) rfl (cl_istore_n hG (hx_dq tdX12_best_1 5 rfl) (Nat.le_of_ble_eq_true rfl) rfl (cl_lload hG (hx_dq tdX12_best_1 6 rfl) rfl (cl_lstore_n hG (hx_dq tdX12_best_1 7 rfl) (Nat.le_of_ble_eq_true rfl) rfl ?_)))
  exact cl_sub hG (hx_le_c rfl (hx_le_c rfl (hx_le_c rfl (hx_le_n (hx_le_c rfl (hx_le_n (hx_le_n hx_le_0))))))) (kX12_best_J73 hG cA hF v4 v5 v4 hK (fun z0 z1 z2 z3 hw => hk7 z0 z1 z2 z3 hw) hw)
def wX12_best_J73_6  (K : Int32 → hx_M → Prop) (K7 : Int32 → Int64 → Int32 → hx_M → Prop) (v1 : Int32) (v2 : Int64) (v4 : Int32)  (μ : hx_M) : Prop := K7 v1 v2 (v4 + 1) μ
set_option maxRecDepth 100000 in
set_option maxHeartbeats 4000000 in
theorem kX12_best_J73_6 {G : hx_GT} {KK : hx_KT} (hG : hx_K cX12_best 7 0 0 (some .int) TbX12 KK G) (cA : hx_CA RX12 cX12_best 4 0 0 G) {Λ : hx_L} (hF : mF Λ) {μ : hx_M} (v1 : Int32) (v2 : Int64) (v4 : Int32)  {K : Int32 → hx_M → Prop} (hK : ∀ (r : Int32) (m : hx_M), K r m → KK (some (.int r)) Λ m) {K7 : Int32 → Int64 → Int32 → hx_M → Prop} (hk7 : ∀ (v1 : Int32) (v2 : Int64) (v4 : Int32) (μ : hx_M), K7 v1 v2 v4 μ → G Λ μ (0, 0) 7 [some (.ref 49), some (.int v1), some (.long v2), none, some (.int v4), none, none] []) (hw : wX12_best_J73_6 K K7 v1 v2 v4 μ) : G Λ μ (0, 0) 73 [some (.ref 49), some (.int v1), some (.long v2), none, some (.int v4), none, none] [] := by
  unfold wX12_best_J73_6 at hw
  exact cl_iinc hG (v4 + 1) (hx_dq tdX12_best_1 8 rfl) rfl (congrArg (fun z => v4 + z) iconst_1) (Nat.le_of_ble_eq_true rfl) rfl (cl_goto hG 7 (hx_dq tdX12_best_1 9 rfl) rfl (cl_sub hG (hx_le_c rfl (hx_le_c rfl (hx_le_c rfl (hx_le_n (hx_le_c rfl (hx_le_n (hx_le_n hx_le_0))))))) (hk7 v1 v2 (v4 + 1) _ hw)))
def wX12_best_L7  (K : Int32 → hx_M → Prop)  : Nat → Int32 → Int64 → Int32 → hx_M → Prop
  | 0, _, _, _, _ => False
  | n + 1, v1, v2, v4, μ => (10 ≤ v4 → (K v1 μ)) ∧ (¬ (10 ≤ v4) → (wX12_claims μ v4 (fun m17_1 => ((m17_1.1 49 53) ≠ 0 → (wX12_atLeast m17_1 (m17_1.1 49 53) (m17_1.1 49 52) (fun r39_4 m39_3 => ∀ x_5 : Int64, x_5 = (r39_4 <<< ((40 - (m39_3.1 49 53) : Int32).toInt64 &&& 63)) → (v1 = (-1) → (wX12_best_J67 K (wX12_best_L7 K n) v4 x_5 m39_3)) ∧ (¬ (v1 = (-1)) → (((lg_cmp x_5 v2) < 0 → (wX12_best_J67 K (wX12_best_L7 K n) v4 x_5 m39_3)) ∧ (¬ ((lg_cmp x_5 v2) < 0) → (wX12_best_J73_6 K (wX12_best_L7 K n) v1 v2 v4 m39_3))))))) ∧ ((m17_1.1 49 53) = 0 → (wX12_best_J73_6 K (wX12_best_L7 K n) v1 v2 v4 m17_1)))))
set_option maxRecDepth 100000 in
set_option maxHeartbeats 4000000 in
theorem kX12_best_L7 {G : hx_GT} {KK : hx_KT} (hG : hx_K cX12_best 7 0 0 (some .int) TbX12 KK G) (cA : hx_CA RX12 cX12_best 4 0 0 G) {Λ : hx_L} (hF : mF Λ)   {K : Int32 → hx_M → Prop} (hK : ∀ (r : Int32) (m : hx_M), K r m → KK (some (.int r)) Λ m)  : ∀ (n : Nat) (v1 : Int32) (v2 : Int64) (v4 : Int32) (μ : hx_M), wX12_best_L7 K n v1 v2 v4 μ → G Λ μ (0, 0) 7 [some (.ref 49), some (.int v1), some (.long v2), none, some (.int v4), none, none] [] := by
  intro n
  induction n with
  | zero =>
    intro v1 v2 v4 μ hw
    exact False.elim (by simpa only [wX12_best_L7] using hw)
  | succ n ih =>
    intro v1 v2 v4 μ hw
    unfold wX12_best_L7 at hw
    refine cl_iload hG (hx_dq tdX12_best_0 6 rfl) rfl (cl_bipush hG 10 (hx_dq tdX12_best_0 7 rfl) bipush_10 (cl_icmp_ge hG 79 (hx_dq tdX12_best_0 8 rfl) rfl (fun c11 => ?_) (fun c11 => ?_)))
    · replace hw := hw.1 c11
      exact cl_iload_n hG (hx_dq tdX12_best_1 10 rfl) rfl (cl_iret hG (hx_dq tdX12_best_1 11 rfl) rfl rfl (hK _ _ hw) (Nat.le_refl _) (Nat.le_refl _))
    · replace hw := hw.2 c11
      refine cl_aload_n hG (hx_dq tdX12_best_0 9 rfl) rfl (cl_iload hG (hx_dq tdX12_best_0 10 rfl) rfl (cl_callV1 (caX12_best_421 cA) (hx_dq tdX12_best_0 11 rfl) (mF_S49 hF) (Nat.le_of_ble_eq_true rfl) (Nat.le_refl _) (Nat.le_refl _) (sX12_claims_mk hF hw (fun m17_1 hw => ?_))))
      refine cl_aload_n hG (hx_dq tdX12_best_0 12 rfl) rfl (cl_getI hG fmX12_418 (hx_dq tdX12_best_0 13 rfl) (mF_S49 hF) (cl_if_ne hG 30 (hx_dq tdX12_best_0 14 rfl) rfl (fun c24 => ?_) (fun c24 => ?_)))
      · replace hw := hw.1 c24
        refine cl_aload_n hG (hx_dq tdX12_best_0 16 rfl) rfl (cl_aload_n hG (hx_dq tdX12_best_0 17 rfl) rfl (cl_getI hG fmX12_418 (hx_dq tdX12_best_0 18 rfl) (mF_S49 hF) (cl_aload_n hG (hx_dq tdX12_best_0 19 rfl) rfl (cl_getI hG fmX12_415 (hx_dq tdX12_best_0 20 rfl) (mF_S49 hF) (cl_callV2 (caX12_best_424 cA) (hx_dq tdX12_best_0 21 rfl) (mF_S49 hF) (Nat.le_of_ble_eq_true rfl) (Nat.le_refl _) (Nat.le_refl _) (sX12_atLeast_mk hF hw (fun r39_4 m39_3 hw => ?_)))))))
        refine cl_bipush hG 40 (hx_dq tdX12_best_0 22 rfl) bipush_40 (cl_aload_n hG (hx_dq tdX12_best_0 23 rfl) rfl (cl_getI hG fmX12_418 (hx_dq tdX12_best_0 24 rfl) (mF_S49 hF) (cl_isub hG (hx_dq tdX12_best_0 25 rfl) (cl_lshl hG (hx_dq tdX12_best_0 26 rfl) (cl_nmL (fun x_5 e_5 => ?_))))))
        replace hw := hw x_5 e_5
        refine cl_lstore hG (hx_dq tdX12_best_0 27 rfl) (Nat.le_of_ble_eq_true rfl) rfl (cl_iload_n hG (hx_dq tdX12_best_0 28 rfl) rfl (cl_iconst hG (-1) (hx_dq tdX12_best_0 29 rfl) iconst_m1 (cl_icmp_eq hG 67 (hx_dq tdX12_best_0 30 rfl) rfl (fun c54 => ?_) (fun c54 => ?_))))
        · replace hw := hw.1 c54
          exact cl_sub hG (hx_le_c rfl (hx_le_n (hx_le_n (hx_le_n (hx_le_c rfl (hx_le_c rfl (hx_le_n hx_le_0))))))) (kX12_best_J67 hG cA hF v4 x_5 hK (fun z0 z1 z2 z3 hw => ih z0 z1 z2 z3 hw) hw)
        · replace hw := hw.2 c54
          refine cl_lload hG (hx_dq tdX12_best_0 31 rfl) rfl (cl_lload_n hG (hx_dq tdX12_best_1 0 rfl) rfl (cl_lcmp hG (hx_dq tdX12_best_1 1 rfl) (cl_if_lt hG 67 (hx_dq tdX12_best_1 2 rfl) rfl (fun c61 => ?_) (fun c61 => ?_))))
          · replace hw := hw.1 c61
            exact cl_sub hG (hx_le_c rfl (hx_le_n (hx_le_n (hx_le_n (hx_le_c rfl (hx_le_c rfl (hx_le_n hx_le_0))))))) (kX12_best_J67 hG cA hF v4 x_5 hK (fun z0 z1 z2 z3 hw => ih z0 z1 z2 z3 hw) hw)
          · replace hw := hw.2 c61
            refine cl_goto hG 73 (hx_dq tdX12_best_1 3 rfl) rfl ?_
            exact cl_sub hG (hx_le_c rfl (hx_le_c rfl (hx_le_c rfl (hx_le_n (hx_le_c rfl (hx_le_n (hx_le_n hx_le_0))))))) (kX12_best_J73_6 hG cA hF v1 v2 v4 hK (fun z0 z1 z2 z3 hw => ih z0 z1 z2 z3 hw) hw)
      · replace hw := hw.2 c24
        refine cl_goto hG 73 (hx_dq tdX12_best_0 15 rfl) rfl ?_
        exact cl_sub hG (hx_le_c rfl (hx_le_c rfl (hx_le_c rfl (hx_le_n (hx_le_c rfl (hx_le_n (hx_le_n hx_le_0))))))) (kX12_best_J73_6 hG cA hF v1 v2 v4 hK (fun z0 z1 z2 z3 hw => ih z0 z1 z2 z3 hw) hw)
def wX12_best (μ : hx_M)  (K : Int32 → hx_M → Prop) : Prop := ∃ n7_7, wX12_best_L7 K n7_7 (-1) 0 0 μ
set_option maxRecDepth 100000 in
set_option maxHeartbeats 4000000 in
theorem kX12_best {G : hx_GT} {KK : hx_KT} (hG : hx_K cX12_best 7 0 0 (some .int) TbX12 KK G) (cA : hx_CA RX12 cX12_best 4 0 0 G) {Λ : hx_L} (hF : mF Λ) {μ : hx_M}  {K : Int32 → hx_M → Prop} (hK : ∀ (r : Int32) (m : hx_M), K r m → KK (some (.int r)) Λ m) (hw : wX12_best μ K) : G Λ μ (0, 0) 0 [some (.ref 49), none, none, none, none, none, none] [] := by
  unfold wX12_best at hw
  refine cl_iconst hG (-1) (hx_dq tdX12_best_0 0 rfl) iconst_m1 (cl_istore_n hG (hx_dq tdX12_best_0 1 rfl) (Nat.le_of_ble_eq_true rfl) rfl (cl_lconst hG 0 (hx_dq tdX12_best_0 2 rfl) lconst_0 (cl_lstore_n hG (hx_dq tdX12_best_0 3 rfl) (Nat.le_of_ble_eq_true rfl) rfl (cl_iconst hG 0 (hx_dq tdX12_best_0 4 rfl) iconst_0 (cl_istore hG (hx_dq tdX12_best_0 5 rfl) (Nat.le_of_ble_eq_true rfl) rfl ?_)))))
  obtain ⟨n_, hw⟩ := hw
  refine cl_sub hG (hx_le_c rfl (hx_le_c rfl (hx_le_c rfl (hx_le_n (hx_le_c rfl (hx_le_n (hx_le_n hx_le_0))))))) (kX12_best_L7 hG cA hF hK n_ (-1) 0 0 _ hw)
def sX12_best : hx_ST := fun Λ μ as KK => mF Λ ∧ ∃ (K : Int32 → hx_M → Prop), as = [.ref 49] ∧ wX12_best μ K ∧ (∀ (r : Int32) (m : hx_M), K r m → KK (some (.int r)) Λ m)
theorem sX12_best_mk {Λ : hx_L} {μ : hx_M} {KK : hx_KT}  {K : Int32 → hx_M → Prop} (hF : mF Λ) (hw : wX12_best μ K) (hk : ∀ (r : Int32) (m : hx_M), K r m → KK (some (.int r)) Λ m) : sX12_best Λ μ [.ref 49] KK := ⟨hF, _, rfl, hw, hk⟩
theorem conX12_best : hx_Con yX12_best cX12_best 7 (some .int) 4 0 0 sX12_best := by
  refine hx_con_of (by decide +kernel) tokX12 (by decide) ?_ ?_
  · intro Λ μ as KK h
    obtain ⟨hF, K, rfl, hw, hK⟩ := h
    exact Nat.le_of_ble_eq_true rfl
  · intro G KK hG cA Λ μ as h
    obtain ⟨hF, K, rfl, hw, hK⟩ := h
    exact cl_sub hG (hx_le_c rfl (hx_le_n (hx_le_n (hx_le_n (hx_le_n (hx_le_n (hx_le_n hx_le_0))))))) (kX12_best hG cA hF hK hw)
/-! HemLineModel.plate(III)I -/
def tbX12_plate_0 : List (Nat × Instr × Nat) := [(0, .iload_n 1, 1), (1, .iconst 0, 1), (2, .iconst 3, 1), (3, .invokestatic 157, 3), (6, .ifCond .eq 33, 3), (9, .iload_n 2, 1), (10, .iconst 0, 1), (11, .sipush 200, 3), (14, .invokestatic 157, 3), (17, .ifCond .eq 22, 3), (20, .iload_n 3, 1), (21, .iconst 0, 1), (22, .bipush 60, 2), (24, .invokestatic 157, 3), (27, .ifCond .eq 12, 3), (30, .aload_n 0, 1), (31, .getfield 428, 3), (34, .bipush 60, 2), (36, .if_icmp .ne 5, 3), (39, .iconst (-1), 1), (40, .ireturn, 1), (41, .aload_n 0, 1), (42, .getfield 120, 3), (45, .aload_n 0, 1), (46, .getfield 428, 3), (49, .iload_n 1, 1), (50, .iastore, 1), (51, .aload_n 0, 1), (52, .getfield 123, 3), (55, .aload_n 0, 1), (56, .getfield 428, 3), (59, .iload_n 2, 1)]
def tbX12_plate_1 : List (Nat × Instr × Nat) := [(60, .iastore, 1), (61, .aload_n 0, 1), (62, .getfield 126, 3), (65, .aload_n 0, 1), (66, .getfield 428, 3), (69, .iload_n 3, 1), (70, .iastore, 1), (71, .aload_n 0, 1), (72, .dup, 1), (73, .getfield 428, 3), (76, .iconst 1, 1), (77, .iadd, 1), (78, .putfield 428, 3), (81, .aload_n 0, 1), (82, .getfield 428, 3), (85, .ireturn, 1)]
theorem tdX12_plate_0 : hx_dt cX12_plate tbX12_plate_0 = true := by decide +kernel
theorem tdX12_plate_1 : hx_dt cX12_plate tbX12_plate_1 = true := by decide +kernel
theorem caX12_plate_157 {G : hx_GT} (cA : hx_CA RX12 cX12_plate 2 0 0 G) : hx_CS cX12_plate G 0 0 157 3 sX12_isIn 0 0 := cA.2.1 conX12_isIn ⟨by decide +kernel, by decide +kernel, by decide +kernel⟩ mw_1343 mw_1344 mw_97 mw_1345 (by decide) (by decide)
def wX12_plate (μ : hx_M) (v1 : Int32) (v2 : Int32) (v3 : Int32) (K : Int32 → hx_M → Prop) : Prop := wX12_isIn v1 0 3 (fun r3_2 => (r3_2 = 0 → (K (-1) μ)) ∧ (¬ (r3_2 = 0) → (wX12_isIn v2 0 200 (fun r14_4 => (r14_4 = 0 → (K (-1) μ)) ∧ (¬ (r14_4 = 0) → (wX12_isIn v3 0 60 (fun r24_6 => (r24_6 = 0 → (K (-1) μ)) ∧ (¬ (r24_6 = 0) → (((μ.1 49 55) ≠ 60 → (vp_in (μ.1 49 55) 60 ∧ vp_in (μ.1 49 55) 60 ∧ vp_in (μ.1 49 55) 60 ∧ ∀ m_10 : hx_M, m_10 = (hx_sI (hx_sI (hx_sI (hx_sI μ 82 ((μ.1 49 55).toNatClampNeg) v1) 83 ((μ.1 49 55).toNatClampNeg) v2) 84 ((μ.1 49 55).toNatClampNeg) v3) 49 55 ((μ.1 49 55) + 1)) → K (m_10.1 49 55) m_10)) ∧ ((μ.1 49 55) = 60 → (K (-1) μ)))))))))))
set_option maxRecDepth 100000 in
set_option maxHeartbeats 4000000 in
theorem kX12_plate {G : hx_GT} {KK : hx_KT} (hG : hx_K cX12_plate 4 0 0 (some .int) TbX12 KK G) (cA : hx_CA RX12 cX12_plate 2 0 0 G) {Λ : hx_L} (hF : mF Λ) {μ : hx_M} (v1 : Int32) (v2 : Int32) (v3 : Int32) {K : Int32 → hx_M → Prop} (hK : ∀ (r : Int32) (m : hx_M), K r m → KK (some (.int r)) Λ m) (hw : wX12_plate μ v1 v2 v3 K) : G Λ μ (0, 0) 0 [some (.ref 49), some (.int v1), some (.int v2), some (.int v3)] [] := by
  unfold wX12_plate at hw
  refine cl_iload_n hG (hx_dq tdX12_plate_0 0 rfl) rfl (cl_iconst hG 0 (hx_dq tdX12_plate_0 1 rfl) iconst_0 (cl_iconst hG 3 (hx_dq tdX12_plate_0 2 rfl) iconst_3 (cl_callS3 (caX12_plate_157 cA) (hx_dq tdX12_plate_0 3 rfl) (Nat.le_of_ble_eq_true rfl) (Nat.le_refl _) (Nat.le_refl _) (sX12_isIn_mk hw (fun r3_2 hw => ?_)))))
  refine cl_if_eq hG 39 (hx_dq tdX12_plate_0 4 rfl) rfl (fun c6 => ?_) (fun c6 => ?_)
  · replace hw := hw.1 c6
    exact cl_iconst hG (-1) (hx_dq tdX12_plate_0 19 rfl) iconst_m1 (cl_iret hG (hx_dq tdX12_plate_0 20 rfl) rfl rfl (hK _ _ hw) (Nat.le_refl _) (Nat.le_refl _))
  · replace hw := hw.2 c6
    refine cl_iload_n hG (hx_dq tdX12_plate_0 5 rfl) rfl (cl_iconst hG 0 (hx_dq tdX12_plate_0 6 rfl) iconst_0 (cl_sipush hG 200 (hx_dq tdX12_plate_0 7 rfl) sipush_200 (cl_callS3 (caX12_plate_157 cA) (hx_dq tdX12_plate_0 8 rfl) (Nat.le_of_ble_eq_true rfl) (Nat.le_refl _) (Nat.le_refl _) (sX12_isIn_mk hw (fun r14_4 hw => ?_)))))
    refine cl_if_eq hG 39 (hx_dq tdX12_plate_0 9 rfl) rfl (fun c17 => ?_) (fun c17 => ?_)
    · replace hw := hw.1 c17
      exact cl_iconst hG (-1) (hx_dq tdX12_plate_0 19 rfl) iconst_m1 (cl_iret hG (hx_dq tdX12_plate_0 20 rfl) rfl rfl (hK _ _ hw) (Nat.le_refl _) (Nat.le_refl _))
    · replace hw := hw.2 c17
      refine cl_iload_n hG (hx_dq tdX12_plate_0 10 rfl) rfl (cl_iconst hG 0 (hx_dq tdX12_plate_0 11 rfl) iconst_0 (cl_bipush hG 60 (hx_dq tdX12_plate_0 12 rfl) bipush_60 (cl_callS3 (caX12_plate_157 cA) (hx_dq tdX12_plate_0 13 rfl) (Nat.le_of_ble_eq_true rfl) (Nat.le_refl _) (Nat.le_refl _) (sX12_isIn_mk hw (fun r24_6 hw => ?_)))))
      refine cl_if_eq hG 39 (hx_dq tdX12_plate_0 14 rfl) rfl (fun c27 => ?_) (fun c27 => ?_)
      · replace hw := hw.1 c27
        exact cl_iconst hG (-1) (hx_dq tdX12_plate_0 19 rfl) iconst_m1 (cl_iret hG (hx_dq tdX12_plate_0 20 rfl) rfl rfl (hK _ _ hw) (Nat.le_refl _) (Nat.le_refl _))
      · replace hw := hw.2 c27
        refine cl_aload_n hG (hx_dq tdX12_plate_0 15 rfl) rfl (cl_getI hG fmX12_428 (hx_dq tdX12_plate_0 16 rfl) (mF_S49 hF) (cl_bipush hG 60 (hx_dq tdX12_plate_0 17 rfl) bipush_60 (cl_icmp_ne hG 41 (hx_dq tdX12_plate_0 18 rfl) rfl (fun c36 => ?_) (fun c36 => ?_))))
        · replace hw := hw.1 c36
          obtain ⟨i50_7, hw⟩ := hw
          obtain ⟨i60_8, hw⟩ := hw
          obtain ⟨i70_9, hw⟩ := hw
          refine cl_aload_n hG (hx_dq tdX12_plate_0 21 rfl) rfl (cl_getS hG fmX12_120 (hx_dq tdX12_plate_0 22 rfl) (mF_S49 hF) (mF_R49_56 hF) (cl_aload_n hG (hx_dq tdX12_plate_0 23 rfl) rfl (cl_getI hG fmX12_428 (hx_dq tdX12_plate_0 24 rfl) (mF_S49 hF) (cl_iload_n hG (hx_dq tdX12_plate_0 25 rfl) rfl (cl_iast hG (hx_dq tdX12_plate_0 26 rfl) (mF_S82 hF) i50_7 (cl_aload_n hG (hx_dq tdX12_plate_0 27 rfl) rfl (cl_getS hG fmX12_123 (hx_dq tdX12_plate_0 28 rfl) (mF_S49 hF) (mF_R49_57 hF) (cl_aload_n hG (hx_dq tdX12_plate_0 29 rfl) rfl (cl_getI hG fmX12_428 (hx_dq tdX12_plate_0 30 rfl) (mF_S49 hF) (cl_iload_n hG (hx_dq tdX12_plate_0 31 rfl) rfl (cl_iast hG (hx_dq tdX12_plate_1 0 rfl) (mF_S83 hF) i60_8 (cl_aload_n hG (hx_dq tdX12_plate_1 1 rfl) rfl (cl_getS hG fmX12_126 (hx_dq tdX12_plate_1 2 rfl) (mF_S49 hF) (mF_R49_58 hF) (cl_aload_n hG (hx_dq tdX12_plate_1 3 rfl) rfl (cl_getI hG fmX12_428 (hx_dq tdX12_plate_1 4 rfl) (mF_S49 hF) (cl_iload_n hG (hx_dq tdX12_plate_1 5 rfl) rfl (cl_iast hG (hx_dq tdX12_plate_1 6 rfl) (mF_S84 hF) i70_9 (cl_aload_n hG (hx_dq tdX12_plate_1 7 rfl) rfl (cl_dup hG (hx_dq tdX12_plate_1 8 rfl) rfl (cl_getI hG fmX12_428 (hx_dq tdX12_plate_1 9 rfl) (mF_S49 hF) (cl_iconst hG 1 (hx_dq tdX12_plate_1 10 rfl) iconst_1 (cl_iadd hG (hx_dq tdX12_plate_1 11 rfl) (cl_putI hG fmX12_428 (hx_dq tdX12_plate_1 12 rfl) (mF_S49 hF) (cl_nmM (fun m_10 e_10 => ?_)))))))))))))))))))))))))
          replace hw := hw m_10 e_10
          exact cl_aload_n hG (hx_dq tdX12_plate_1 13 rfl) rfl (cl_getI hG fmX12_428 (hx_dq tdX12_plate_1 14 rfl) (mF_S49 hF) (cl_iret hG (hx_dq tdX12_plate_1 15 rfl) rfl rfl (hK _ _ hw) (Nat.le_refl _) (Nat.le_refl _)))
        · replace hw := hw.2 c36
          exact cl_iconst hG (-1) (hx_dq tdX12_plate_0 19 rfl) iconst_m1 (cl_iret hG (hx_dq tdX12_plate_0 20 rfl) rfl rfl (hK _ _ hw) (Nat.le_refl _) (Nat.le_refl _))
def sX12_plate : hx_ST := fun Λ μ as KK => mF Λ ∧ ∃ (v1 : Int32) (v2 : Int32) (v3 : Int32) (K : Int32 → hx_M → Prop), as = [.ref 49, .int v1, .int v2, .int v3] ∧ wX12_plate μ v1 v2 v3 K ∧ (∀ (r : Int32) (m : hx_M), K r m → KK (some (.int r)) Λ m)
theorem sX12_plate_mk {Λ : hx_L} {μ : hx_M} {KK : hx_KT} {v1 : Int32} {v2 : Int32} {v3 : Int32} {K : Int32 → hx_M → Prop} (hF : mF Λ) (hw : wX12_plate μ v1 v2 v3 K) (hk : ∀ (r : Int32) (m : hx_M), K r m → KK (some (.int r)) Λ m) : sX12_plate Λ μ [.ref 49, .int v1, .int v2, .int v3] KK := ⟨hF, _, _, _, _, rfl, hw, hk⟩
theorem conX12_plate : hx_Con yX12_plate cX12_plate 4 (some .int) 2 0 0 sX12_plate := by
  refine hx_con_of (by decide +kernel) tokX12 (by decide) ?_ ?_
  · intro Λ μ as KK h
    obtain ⟨hF, v1, v2, v3, K, rfl, hw, hK⟩ := h
    exact Nat.le_of_ble_eq_true rfl
  · intro G KK hG cA Λ μ as h
    obtain ⟨hF, v1, v2, v3, K, rfl, hw, hK⟩ := h
    exact cl_sub hG (hx_le_c rfl (hx_le_c rfl (hx_le_c rfl (hx_le_c rfl hx_le_0)))) (kX12_plate hG cA hF _ _ _ hK hw)
/-! HemLineModel.isWithin(II)Z -/
def tbX12_isWithin_0 : List (Nat × Instr × Nat) := [(0, .iconst 0, 1), (1, .istore_n 3, 1), (2, .iconst 0, 1), (3, .istore 4, 2), (5, .iconst 0, 1), (6, .istore 5, 2), (8, .iload 5, 2), (10, .aload_n 0, 1), (11, .getfield 154, 3), (14, .if_icmp .ge 53, 3), (17, .iload_n 3, 1), (18, .ifCond .ne 14, 3), (21, .aload_n 0, 1), (22, .iload 5, 2), (24, .iload_n 2, 1), (25, .invokevirtual 302, 3), (28, .iload_n 1, 1), (29, .if_icmp .gt 7, 3), (32, .iconst 1, 1), (33, .goto 4, 3), (36, .iconst 0, 1), (37, .istore_n 3, 1), (38, .iload 4, 2), (40, .ifCond .ne 14, 3), (43, .aload_n 0, 1), (44, .iload 5, 2), (46, .iload_n 2, 1), (47, .invokevirtual 302, 3), (50, .iload_n 1, 1), (51, .if_icmp .lt 7, 3), (54, .iconst 1, 1), (55, .goto 4, 3)]
def tbX12_isWithin_1 : List (Nat × Instr × Nat) := [(58, .iconst 0, 1), (59, .istore 4, 2), (61, .iinc 5 1, 3), (64, .goto (-56), 3), (67, .iload_n 3, 1), (68, .ifCond .eq 12, 3), (71, .iload 4, 2), (73, .ifCond .eq 7, 3), (76, .iconst 1, 1), (77, .goto 4, 3), (80, .iconst 0, 1), (81, .ireturn, 1)]
theorem tdX12_isWithin_0 : hx_dt cX12_isWithin tbX12_isWithin_0 = true := by decide +kernel
theorem tdX12_isWithin_1 : hx_dt cX12_isWithin tbX12_isWithin_1 = true := by decide +kernel
theorem caX12_isWithin_302 {G : hx_GT} (cA : hx_CA RX12 cX12_isWithin 2 0 0 G) : hx_CV cX12_isWithin G 0 0 302 12 2 sX12_lengthAt 0 0 := cA.1 conX12_lengthAt rfl rfl ⟨by decide +kernel, by decide +kernel, by decide +kernel⟩ mw_1486 mw_1488 mw_54 mw_97 mw_1489 (by decide) (by decide)
def wX12_isWithin_J59 (μ : hx_M) (K : Int32 → Prop) (K8 : Int32 → Int32 → Int32 → Prop) (v1 : Int32) (v2 : Int32) (v3 : Int32) (v5 : Int32) (t0 : Int32)  : Prop := K8 v3 t0 (v5 + 1)
set_option maxRecDepth 100000 in
set_option maxHeartbeats 4000000 in
theorem kX12_isWithin_J59 {G : hx_GT} {KK : hx_KT} (hG : hx_K cX12_isWithin 6 0 0 (some .boolean) TbX12 KK G) (cA : hx_CA RX12 cX12_isWithin 2 0 0 G) {Λ : hx_L} (hF : mF Λ) {μ : hx_M} (v1 : Int32) (v2 : Int32) (v3 : Int32) (v5 : Int32) (t0 : Int32) {K : Int32 → Prop} (hK : ∀ (r : Int32), K r → KK (some (.int r)) Λ μ) {K8 : Int32 → Int32 → Int32 → Prop} (hk8 : ∀ (v3 : Int32) (v4 : Int32) (v5 : Int32), K8 v3 v4 v5 → G Λ μ (0, 0) 8 [some (.ref 49), some (.int v1), some (.int v2), some (.int v3), some (.int v4), some (.int v5)] []) (hw : wX12_isWithin_J59 μ K K8 v1 v2 v3 v5 t0) : G Λ μ (0, 0) 59 [some (.ref 49), some (.int v1), some (.int v2), some (.int v3), none, some (.int v5)] [.int t0] := by
  unfold wX12_isWithin_J59 at hw
  exact cl_istore hG (hx_dq tdX12_isWithin_1 1 rfl) (Nat.le_of_ble_eq_true rfl) rfl (cl_iinc hG (v5 + 1) (hx_dq tdX12_isWithin_1 2 rfl) rfl (congrArg (fun z => v5 + z) iconst_1) (Nat.le_of_ble_eq_true rfl) rfl (cl_goto hG 8 (hx_dq tdX12_isWithin_1 3 rfl) rfl (cl_sub hG (hx_le_c rfl (hx_le_c rfl (hx_le_c rfl (hx_le_c rfl (hx_le_c rfl (hx_le_c rfl hx_le_0)))))) (hk8 v3 t0 (v5 + 1) hw))))
def wX12_isWithin_J54 (μ : hx_M) (K : Int32 → Prop) (K8 : Int32 → Int32 → Int32 → Prop) (v1 : Int32) (v2 : Int32) (v3 : Int32) (v5 : Int32)   : Prop := wX12_isWithin_J59 μ K (K8) v1 v2 v3 v5 1
set_option maxRecDepth 100000 in
set_option maxHeartbeats 4000000 in
theorem kX12_isWithin_J54 {G : hx_GT} {KK : hx_KT} (hG : hx_K cX12_isWithin 6 0 0 (some .boolean) TbX12 KK G) (cA : hx_CA RX12 cX12_isWithin 2 0 0 G) {Λ : hx_L} (hF : mF Λ) {μ : hx_M} (v1 : Int32) (v2 : Int32) (v3 : Int32) (v5 : Int32)  {K : Int32 → Prop} (hK : ∀ (r : Int32), K r → KK (some (.int r)) Λ μ) {K8 : Int32 → Int32 → Int32 → Prop} (hk8 : ∀ (v3 : Int32) (v4 : Int32) (v5 : Int32), K8 v3 v4 v5 → G Λ μ (0, 0) 8 [some (.ref 49), some (.int v1), some (.int v2), some (.int v3), some (.int v4), some (.int v5)] []) (hw : wX12_isWithin_J54 μ K K8 v1 v2 v3 v5) : G Λ μ (0, 0) 54 [some (.ref 49), some (.int v1), some (.int v2), some (.int v3), none, some (.int v5)] [] := by
  unfold wX12_isWithin_J54 at hw
  refine cl_iconst hG 1 (hx_dq tdX12_isWithin_0 30 rfl) iconst_1 (cl_goto hG 59 (hx_dq tdX12_isWithin_0 31 rfl) rfl ?_)
  exact cl_sub hG (hx_le_c rfl (hx_le_c rfl (hx_le_c rfl (hx_le_c rfl (hx_le_n (hx_le_c rfl hx_le_0)))))) (kX12_isWithin_J59 hG cA hF v1 v2 v3 v5 1 hK (fun z0 z1 z2 hw => hk8 z0 z1 z2 hw) hw)
def wX12_isWithin_J59_3 (μ : hx_M) (K : Int32 → Prop) (K8 : Int32 → Int32 → Int32 → Prop) (v1 : Int32) (v2 : Int32) (v3 : Int32) (v5 : Int32) (t0 : Int32)  : Prop := K8 v3 t0 (v5 + 1)
set_option maxRecDepth 100000 in
set_option maxHeartbeats 4000000 in
theorem kX12_isWithin_J59_3 {G : hx_GT} {KK : hx_KT} (hG : hx_K cX12_isWithin 6 0 0 (some .boolean) TbX12 KK G) (cA : hx_CA RX12 cX12_isWithin 2 0 0 G) {Λ : hx_L} (hF : mF Λ) {μ : hx_M} (v1 : Int32) (v2 : Int32) (v3 : Int32) (v5 : Int32) (t0 : Int32) {K : Int32 → Prop} (hK : ∀ (r : Int32), K r → KK (some (.int r)) Λ μ) {K8 : Int32 → Int32 → Int32 → Prop} (hk8 : ∀ (v3 : Int32) (v4 : Int32) (v5 : Int32), K8 v3 v4 v5 → G Λ μ (0, 0) 8 [some (.ref 49), some (.int v1), some (.int v2), some (.int v3), some (.int v4), some (.int v5)] []) (hw : wX12_isWithin_J59_3 μ K K8 v1 v2 v3 v5 t0) : G Λ μ (0, 0) 59 [some (.ref 49), some (.int v1), some (.int v2), some (.int v3), none, some (.int v5)] [.int t0] := by
  unfold wX12_isWithin_J59_3 at hw
  exact cl_istore hG (hx_dq tdX12_isWithin_1 1 rfl) (Nat.le_of_ble_eq_true rfl) rfl (cl_iinc hG (v5 + 1) (hx_dq tdX12_isWithin_1 2 rfl) rfl (congrArg (fun z => v5 + z) iconst_1) (Nat.le_of_ble_eq_true rfl) rfl (cl_goto hG 8 (hx_dq tdX12_isWithin_1 3 rfl) rfl (cl_sub hG (hx_le_c rfl (hx_le_c rfl (hx_le_c rfl (hx_le_c rfl (hx_le_c rfl (hx_le_c rfl hx_le_0)))))) (hk8 v3 t0 (v5 + 1) hw))))
def wX12_isWithin_J37 (μ : hx_M) (K : Int32 → Prop) (K8 : Int32 → Int32 → Int32 → Prop) (v1 : Int32) (v2 : Int32) (v4 : Int32) (v5 : Int32) (t0 : Int32)  : Prop := (v4 ≠ 0 → (wX12_isWithin_J54 μ K (K8) v1 v2 t0 v5)) ∧ (v4 = 0 → (wX12_lengthAt μ v5 v2 (fun r47_2 => (r47_2 < v1 → (wX12_isWithin_J59_3 μ K (K8) v1 v2 t0 v5 0)) ∧ (¬ (r47_2 < v1) → (wX12_isWithin_J54 μ K (K8) v1 v2 t0 v5)))))
set_option maxRecDepth 100000 in
set_option maxHeartbeats 4000000 in
theorem kX12_isWithin_J37 {G : hx_GT} {KK : hx_KT} (hG : hx_K cX12_isWithin 6 0 0 (some .boolean) TbX12 KK G) (cA : hx_CA RX12 cX12_isWithin 2 0 0 G) {Λ : hx_L} (hF : mF Λ) {μ : hx_M} (v1 : Int32) (v2 : Int32) (v4 : Int32) (v5 : Int32) (t0 : Int32) {K : Int32 → Prop} (hK : ∀ (r : Int32), K r → KK (some (.int r)) Λ μ) {K8 : Int32 → Int32 → Int32 → Prop} (hk8 : ∀ (v3 : Int32) (v4 : Int32) (v5 : Int32), K8 v3 v4 v5 → G Λ μ (0, 0) 8 [some (.ref 49), some (.int v1), some (.int v2), some (.int v3), some (.int v4), some (.int v5)] []) (hw : wX12_isWithin_J37 μ K K8 v1 v2 v4 v5 t0) : G Λ μ (0, 0) 37 [some (.ref 49), some (.int v1), some (.int v2), none, some (.int v4), some (.int v5)] [.int t0] := by
  unfold wX12_isWithin_J37 at hw
  refine cl_istore_n hG (hx_dq tdX12_isWithin_0 21 rfl) (Nat.le_of_ble_eq_true rfl) rfl (cl_iload hG (hx_dq tdX12_isWithin_0 22 rfl) rfl (cl_if_ne hG 54 (hx_dq tdX12_isWithin_0 23 rfl) rfl (fun c40 => ?_) (fun c40 => ?_)))
  · replace hw := hw.1 c40
    exact cl_sub hG (hx_le_c rfl (hx_le_c rfl (hx_le_c rfl (hx_le_c rfl (hx_le_n (hx_le_c rfl hx_le_0)))))) (kX12_isWithin_J54 hG cA hF v1 v2 t0 v5 hK (fun z0 z1 z2 hw => hk8 z0 z1 z2 hw) hw)
  · replace hw := hw.2 c40
    refine cl_aload_n hG (hx_dq tdX12_isWithin_0 24 rfl) rfl (cl_iload hG (hx_dq tdX12_isWithin_0 25 rfl) rfl (cl_iload_n hG (hx_dq tdX12_isWithin_0 26 rfl) rfl (cl_callV2 (caX12_isWithin_302 cA) (hx_dq tdX12_isWithin_0 27 rfl) (mF_S49 hF) (Nat.le_of_ble_eq_true rfl) (Nat.le_refl _) (Nat.le_refl _) (sX12_lengthAt_mk hF hw (fun r47_2 hw => ?_)))))
    refine cl_iload_n hG (hx_dq tdX12_isWithin_0 28 rfl) rfl (cl_icmp_lt hG 58 (hx_dq tdX12_isWithin_0 29 rfl) rfl (fun c51 => ?_) (fun c51 => ?_))
    · replace hw := hw.1 c51
      refine cl_iconst hG 0 (hx_dq tdX12_isWithin_1 0 rfl) iconst_0 ?_
      exact cl_sub hG (hx_le_c rfl (hx_le_c rfl (hx_le_c rfl (hx_le_c rfl (hx_le_n (hx_le_c rfl hx_le_0)))))) (kX12_isWithin_J59_3 hG cA hF v1 v2 t0 v5 0 hK (fun z0 z1 z2 hw => hk8 z0 z1 z2 hw) hw)
    · replace hw := hw.2 c51
      exact cl_sub hG (hx_le_c rfl (hx_le_c rfl (hx_le_c rfl (hx_le_c rfl (hx_le_n (hx_le_c rfl hx_le_0)))))) (kX12_isWithin_J54 hG cA hF v1 v2 t0 v5 hK (fun z0 z1 z2 hw => hk8 z0 z1 z2 hw) hw)
def wX12_isWithin_J32 (μ : hx_M) (K : Int32 → Prop) (K8 : Int32 → Int32 → Int32 → Prop) (v1 : Int32) (v2 : Int32) (v4 : Int32) (v5 : Int32)   : Prop := wX12_isWithin_J37 μ K (K8) v1 v2 v4 v5 1
set_option maxRecDepth 100000 in
set_option maxHeartbeats 4000000 in
theorem kX12_isWithin_J32 {G : hx_GT} {KK : hx_KT} (hG : hx_K cX12_isWithin 6 0 0 (some .boolean) TbX12 KK G) (cA : hx_CA RX12 cX12_isWithin 2 0 0 G) {Λ : hx_L} (hF : mF Λ) {μ : hx_M} (v1 : Int32) (v2 : Int32) (v4 : Int32) (v5 : Int32)  {K : Int32 → Prop} (hK : ∀ (r : Int32), K r → KK (some (.int r)) Λ μ) {K8 : Int32 → Int32 → Int32 → Prop} (hk8 : ∀ (v3 : Int32) (v4 : Int32) (v5 : Int32), K8 v3 v4 v5 → G Λ μ (0, 0) 8 [some (.ref 49), some (.int v1), some (.int v2), some (.int v3), some (.int v4), some (.int v5)] []) (hw : wX12_isWithin_J32 μ K K8 v1 v2 v4 v5) : G Λ μ (0, 0) 32 [some (.ref 49), some (.int v1), some (.int v2), none, some (.int v4), some (.int v5)] [] := by
  unfold wX12_isWithin_J32 at hw
  refine cl_iconst hG 1 (hx_dq tdX12_isWithin_0 18 rfl) iconst_1 (cl_goto hG 37 (hx_dq tdX12_isWithin_0 19 rfl) rfl ?_)
  exact cl_sub hG (hx_le_c rfl (hx_le_c rfl (hx_le_c rfl (hx_le_n (hx_le_c rfl (hx_le_c rfl hx_le_0)))))) (kX12_isWithin_J37 hG cA hF v1 v2 v4 v5 1 hK (fun z0 z1 z2 hw => hk8 z0 z1 z2 hw) hw)
def wX12_isWithin_J59_8 (μ : hx_M) (K : Int32 → Prop) (K8 : Int32 → Int32 → Int32 → Prop) (v1 : Int32) (v2 : Int32) (v3 : Int32) (v5 : Int32) (t0 : Int32)  : Prop := K8 v3 t0 (v5 + 1)
set_option maxRecDepth 100000 in
set_option maxHeartbeats 4000000 in
theorem kX12_isWithin_J59_8 {G : hx_GT} {KK : hx_KT} (hG : hx_K cX12_isWithin 6 0 0 (some .boolean) TbX12 KK G) (cA : hx_CA RX12 cX12_isWithin 2 0 0 G) {Λ : hx_L} (hF : mF Λ) {μ : hx_M} (v1 : Int32) (v2 : Int32) (v3 : Int32) (v5 : Int32) (t0 : Int32) {K : Int32 → Prop} (hK : ∀ (r : Int32), K r → KK (some (.int r)) Λ μ) {K8 : Int32 → Int32 → Int32 → Prop} (hk8 : ∀ (v3 : Int32) (v4 : Int32) (v5 : Int32), K8 v3 v4 v5 → G Λ μ (0, 0) 8 [some (.ref 49), some (.int v1), some (.int v2), some (.int v3), some (.int v4), some (.int v5)] []) (hw : wX12_isWithin_J59_8 μ K K8 v1 v2 v3 v5 t0) : G Λ μ (0, 0) 59 [some (.ref 49), some (.int v1), some (.int v2), some (.int v3), none, some (.int v5)] [.int t0] := by
  unfold wX12_isWithin_J59_8 at hw
  exact cl_istore hG (hx_dq tdX12_isWithin_1 1 rfl) (Nat.le_of_ble_eq_true rfl) rfl (cl_iinc hG (v5 + 1) (hx_dq tdX12_isWithin_1 2 rfl) rfl (congrArg (fun z => v5 + z) iconst_1) (Nat.le_of_ble_eq_true rfl) rfl (cl_goto hG 8 (hx_dq tdX12_isWithin_1 3 rfl) rfl (cl_sub hG (hx_le_c rfl (hx_le_c rfl (hx_le_c rfl (hx_le_c rfl (hx_le_c rfl (hx_le_c rfl hx_le_0)))))) (hk8 v3 t0 (v5 + 1) hw))))
def wX12_isWithin_J54_7 (μ : hx_M) (K : Int32 → Prop) (K8 : Int32 → Int32 → Int32 → Prop) (v1 : Int32) (v2 : Int32) (v3 : Int32) (v5 : Int32)   : Prop := wX12_isWithin_J59_8 μ K (K8) v1 v2 v3 v5 1
set_option maxRecDepth 100000 in
set_option maxHeartbeats 4000000 in
theorem kX12_isWithin_J54_7 {G : hx_GT} {KK : hx_KT} (hG : hx_K cX12_isWithin 6 0 0 (some .boolean) TbX12 KK G) (cA : hx_CA RX12 cX12_isWithin 2 0 0 G) {Λ : hx_L} (hF : mF Λ) {μ : hx_M} (v1 : Int32) (v2 : Int32) (v3 : Int32) (v5 : Int32)  {K : Int32 → Prop} (hK : ∀ (r : Int32), K r → KK (some (.int r)) Λ μ) {K8 : Int32 → Int32 → Int32 → Prop} (hk8 : ∀ (v3 : Int32) (v4 : Int32) (v5 : Int32), K8 v3 v4 v5 → G Λ μ (0, 0) 8 [some (.ref 49), some (.int v1), some (.int v2), some (.int v3), some (.int v4), some (.int v5)] []) (hw : wX12_isWithin_J54_7 μ K K8 v1 v2 v3 v5) : G Λ μ (0, 0) 54 [some (.ref 49), some (.int v1), some (.int v2), some (.int v3), none, some (.int v5)] [] := by
  unfold wX12_isWithin_J54_7 at hw
  refine cl_iconst hG 1 (hx_dq tdX12_isWithin_0 30 rfl) iconst_1 (cl_goto hG 59 (hx_dq tdX12_isWithin_0 31 rfl) rfl ?_)
  exact cl_sub hG (hx_le_c rfl (hx_le_c rfl (hx_le_c rfl (hx_le_c rfl (hx_le_n (hx_le_c rfl hx_le_0)))))) (kX12_isWithin_J59_8 hG cA hF v1 v2 v3 v5 1 hK (fun z0 z1 z2 hw => hk8 z0 z1 z2 hw) hw)
def wX12_isWithin_J59_11 (μ : hx_M) (K : Int32 → Prop) (K8 : Int32 → Int32 → Int32 → Prop) (v1 : Int32) (v2 : Int32) (v3 : Int32) (v5 : Int32) (t0 : Int32)  : Prop := K8 v3 t0 (v5 + 1)
set_option maxRecDepth 100000 in
set_option maxHeartbeats 4000000 in
theorem kX12_isWithin_J59_11 {G : hx_GT} {KK : hx_KT} (hG : hx_K cX12_isWithin 6 0 0 (some .boolean) TbX12 KK G) (cA : hx_CA RX12 cX12_isWithin 2 0 0 G) {Λ : hx_L} (hF : mF Λ) {μ : hx_M} (v1 : Int32) (v2 : Int32) (v3 : Int32) (v5 : Int32) (t0 : Int32) {K : Int32 → Prop} (hK : ∀ (r : Int32), K r → KK (some (.int r)) Λ μ) {K8 : Int32 → Int32 → Int32 → Prop} (hk8 : ∀ (v3 : Int32) (v4 : Int32) (v5 : Int32), K8 v3 v4 v5 → G Λ μ (0, 0) 8 [some (.ref 49), some (.int v1), some (.int v2), some (.int v3), some (.int v4), some (.int v5)] []) (hw : wX12_isWithin_J59_11 μ K K8 v1 v2 v3 v5 t0) : G Λ μ (0, 0) 59 [some (.ref 49), some (.int v1), some (.int v2), some (.int v3), none, some (.int v5)] [.int t0] := by
  unfold wX12_isWithin_J59_11 at hw
  exact cl_istore hG (hx_dq tdX12_isWithin_1 1 rfl) (Nat.le_of_ble_eq_true rfl) rfl (cl_iinc hG (v5 + 1) (hx_dq tdX12_isWithin_1 2 rfl) rfl (congrArg (fun z => v5 + z) iconst_1) (Nat.le_of_ble_eq_true rfl) rfl (cl_goto hG 8 (hx_dq tdX12_isWithin_1 3 rfl) rfl (cl_sub hG (hx_le_c rfl (hx_le_c rfl (hx_le_c rfl (hx_le_c rfl (hx_le_c rfl (hx_le_c rfl hx_le_0)))))) (hk8 v3 t0 (v5 + 1) hw))))
def wX12_isWithin_J37_6 (μ : hx_M) (K : Int32 → Prop) (K8 : Int32 → Int32 → Int32 → Prop) (v1 : Int32) (v2 : Int32) (v4 : Int32) (v5 : Int32) (t0 : Int32)  : Prop := (v4 ≠ 0 → (wX12_isWithin_J54_7 μ K (K8) v1 v2 t0 v5)) ∧ (v4 = 0 → (wX12_lengthAt μ v5 v2 (fun r47_10 => (r47_10 < v1 → (wX12_isWithin_J59_11 μ K (K8) v1 v2 t0 v5 0)) ∧ (¬ (r47_10 < v1) → (wX12_isWithin_J54_7 μ K (K8) v1 v2 t0 v5)))))
set_option maxRecDepth 100000 in
set_option maxHeartbeats 4000000 in
theorem kX12_isWithin_J37_6 {G : hx_GT} {KK : hx_KT} (hG : hx_K cX12_isWithin 6 0 0 (some .boolean) TbX12 KK G) (cA : hx_CA RX12 cX12_isWithin 2 0 0 G) {Λ : hx_L} (hF : mF Λ) {μ : hx_M} (v1 : Int32) (v2 : Int32) (v4 : Int32) (v5 : Int32) (t0 : Int32) {K : Int32 → Prop} (hK : ∀ (r : Int32), K r → KK (some (.int r)) Λ μ) {K8 : Int32 → Int32 → Int32 → Prop} (hk8 : ∀ (v3 : Int32) (v4 : Int32) (v5 : Int32), K8 v3 v4 v5 → G Λ μ (0, 0) 8 [some (.ref 49), some (.int v1), some (.int v2), some (.int v3), some (.int v4), some (.int v5)] []) (hw : wX12_isWithin_J37_6 μ K K8 v1 v2 v4 v5 t0) : G Λ μ (0, 0) 37 [some (.ref 49), some (.int v1), some (.int v2), none, some (.int v4), some (.int v5)] [.int t0] := by
  unfold wX12_isWithin_J37_6 at hw
  refine cl_istore_n hG (hx_dq tdX12_isWithin_0 21 rfl) (Nat.le_of_ble_eq_true rfl) rfl (cl_iload hG (hx_dq tdX12_isWithin_0 22 rfl) rfl (cl_if_ne hG 54 (hx_dq tdX12_isWithin_0 23 rfl) rfl (fun c40 => ?_) (fun c40 => ?_)))
  · replace hw := hw.1 c40
    exact cl_sub hG (hx_le_c rfl (hx_le_c rfl (hx_le_c rfl (hx_le_c rfl (hx_le_n (hx_le_c rfl hx_le_0)))))) (kX12_isWithin_J54_7 hG cA hF v1 v2 t0 v5 hK (fun z0 z1 z2 hw => hk8 z0 z1 z2 hw) hw)
  · replace hw := hw.2 c40
    refine cl_aload_n hG (hx_dq tdX12_isWithin_0 24 rfl) rfl (cl_iload hG (hx_dq tdX12_isWithin_0 25 rfl) rfl (cl_iload_n hG (hx_dq tdX12_isWithin_0 26 rfl) rfl (cl_callV2 (caX12_isWithin_302 cA) (hx_dq tdX12_isWithin_0 27 rfl) (mF_S49 hF) (Nat.le_of_ble_eq_true rfl) (Nat.le_refl _) (Nat.le_refl _) (sX12_lengthAt_mk hF hw (fun r47_10 hw => ?_)))))
    refine cl_iload_n hG (hx_dq tdX12_isWithin_0 28 rfl) rfl (cl_icmp_lt hG 58 (hx_dq tdX12_isWithin_0 29 rfl) rfl (fun c51 => ?_) (fun c51 => ?_))
    · replace hw := hw.1 c51
      refine cl_iconst hG 0 (hx_dq tdX12_isWithin_1 0 rfl) iconst_0 ?_
      exact cl_sub hG (hx_le_c rfl (hx_le_c rfl (hx_le_c rfl (hx_le_c rfl (hx_le_n (hx_le_c rfl hx_le_0)))))) (kX12_isWithin_J59_11 hG cA hF v1 v2 t0 v5 0 hK (fun z0 z1 z2 hw => hk8 z0 z1 z2 hw) hw)
    · replace hw := hw.2 c51
      exact cl_sub hG (hx_le_c rfl (hx_le_c rfl (hx_le_c rfl (hx_le_c rfl (hx_le_n (hx_le_c rfl hx_le_0)))))) (kX12_isWithin_J54_7 hG cA hF v1 v2 t0 v5 hK (fun z0 z1 z2 hw => hk8 z0 z1 z2 hw) hw)
def wX12_isWithin_L8 (μ : hx_M) (v1 : Int32) (v2 : Int32) (K : Int32 → Prop) (K67 : Int32 → Int32 → Prop) : Nat → Int32 → Int32 → Int32 → Prop
  | 0, _, _, _ => False
  | n + 1, v3, v4, v5 => ((μ.1 49 0) ≤ v5 → (K67 v3 v4)) ∧ (¬ ((μ.1 49 0) ≤ v5) → ((v3 ≠ 0 → (wX12_isWithin_J32 μ K (wX12_isWithin_L8 μ v1 v2 K K67 n) v1 v2 v4 v5)) ∧ (v3 = 0 → (wX12_lengthAt μ v5 v2 (fun r25_5 => (v1 < r25_5 → (wX12_isWithin_J37_6 μ K (wX12_isWithin_L8 μ v1 v2 K K67 n) v1 v2 v4 v5 0)) ∧ (¬ (v1 < r25_5) → (wX12_isWithin_J32 μ K (wX12_isWithin_L8 μ v1 v2 K K67 n) v1 v2 v4 v5)))))))
set_option maxRecDepth 100000 in
set_option maxHeartbeats 4000000 in
theorem kX12_isWithin_L8 {G : hx_GT} {KK : hx_KT} (hG : hx_K cX12_isWithin 6 0 0 (some .boolean) TbX12 KK G) (cA : hx_CA RX12 cX12_isWithin 2 0 0 G) {Λ : hx_L} (hF : mF Λ) {μ : hx_M} (v1 : Int32) (v2 : Int32) {K : Int32 → Prop} (hK : ∀ (r : Int32), K r → KK (some (.int r)) Λ μ) {K67 : Int32 → Int32 → Prop} (hk67 : ∀ (v3 : Int32) (v4 : Int32), K67 v3 v4 → G Λ μ (0, 0) 67 [none, none, none, some (.int v3), some (.int v4), none] []) : ∀ (n : Nat) (v3 : Int32) (v4 : Int32) (v5 : Int32), wX12_isWithin_L8 μ v1 v2 K K67 n v3 v4 v5 → G Λ μ (0, 0) 8 [some (.ref 49), some (.int v1), some (.int v2), some (.int v3), some (.int v4), some (.int v5)] [] := by
  intro n
  induction n with
  | zero =>
    intro v3 v4 v5 hw
    exact False.elim (by simpa only [wX12_isWithin_L8] using hw)
  | succ n ih =>
    intro v3 v4 v5 hw
    unfold wX12_isWithin_L8 at hw
    refine cl_iload hG (hx_dq tdX12_isWithin_0 6 rfl) rfl (cl_aload_n hG (hx_dq tdX12_isWithin_0 7 rfl) rfl (cl_getI hG fmX12_154 (hx_dq tdX12_isWithin_0 8 rfl) (mF_S49 hF) (cl_icmp_ge hG 67 (hx_dq tdX12_isWithin_0 9 rfl) rfl (fun c14 => ?_) (fun c14 => ?_))))
    · replace hw := hw.1 c14
      exact cl_sub hG (hx_le_n (hx_le_n (hx_le_n (hx_le_c rfl (hx_le_c rfl (hx_le_n hx_le_0)))))) (hk67 v3 v4 hw)
    · replace hw := hw.2 c14
      refine cl_iload_n hG (hx_dq tdX12_isWithin_0 10 rfl) rfl (cl_if_ne hG 32 (hx_dq tdX12_isWithin_0 11 rfl) rfl (fun c18 => ?_) (fun c18 => ?_))
      · replace hw := hw.1 c18
        exact cl_sub hG (hx_le_c rfl (hx_le_c rfl (hx_le_c rfl (hx_le_n (hx_le_c rfl (hx_le_c rfl hx_le_0)))))) (kX12_isWithin_J32 hG cA hF v1 v2 v4 v5 hK (fun z0 z1 z2 hw => ih z0 z1 z2 hw) hw)
      · replace hw := hw.2 c18
        refine cl_aload_n hG (hx_dq tdX12_isWithin_0 12 rfl) rfl (cl_iload hG (hx_dq tdX12_isWithin_0 13 rfl) rfl (cl_iload_n hG (hx_dq tdX12_isWithin_0 14 rfl) rfl (cl_callV2 (caX12_isWithin_302 cA) (hx_dq tdX12_isWithin_0 15 rfl) (mF_S49 hF) (Nat.le_of_ble_eq_true rfl) (Nat.le_refl _) (Nat.le_refl _) (sX12_lengthAt_mk hF hw (fun r25_5 hw => ?_)))))
        refine cl_iload_n hG (hx_dq tdX12_isWithin_0 16 rfl) rfl (cl_icmp_gt hG 36 (hx_dq tdX12_isWithin_0 17 rfl) rfl (fun c29 => ?_) (fun c29 => ?_))
        · replace hw := hw.1 c29
          refine cl_iconst hG 0 (hx_dq tdX12_isWithin_0 20 rfl) iconst_0 ?_
          exact cl_sub hG (hx_le_c rfl (hx_le_c rfl (hx_le_c rfl (hx_le_n (hx_le_c rfl (hx_le_c rfl hx_le_0)))))) (kX12_isWithin_J37_6 hG cA hF v1 v2 v4 v5 0 hK (fun z0 z1 z2 hw => ih z0 z1 z2 hw) hw)
        · replace hw := hw.2 c29
          exact cl_sub hG (hx_le_c rfl (hx_le_c rfl (hx_le_c rfl (hx_le_n (hx_le_c rfl (hx_le_c rfl hx_le_0)))))) (kX12_isWithin_J32 hG cA hF v1 v2 v4 v5 hK (fun z0 z1 z2 hw => ih z0 z1 z2 hw) hw)
def wX12_isWithin (μ : hx_M) (v1 : Int32) (v2 : Int32) (K : Int32 → Prop) : Prop := ∃ n8_13, wX12_isWithin_L8 μ v1 v2 K (fun v3_12 v4_12 => (v3_12 = 0 → (K 0)) ∧ (¬ (v3_12 = 0) → ((v4_12 = 0 → (K 0)) ∧ (¬ (v4_12 = 0) → (K 1))))) n8_13 0 0 0
set_option maxRecDepth 100000 in
set_option maxHeartbeats 4000000 in
theorem kX12_isWithin {G : hx_GT} {KK : hx_KT} (hG : hx_K cX12_isWithin 6 0 0 (some .boolean) TbX12 KK G) (cA : hx_CA RX12 cX12_isWithin 2 0 0 G) {Λ : hx_L} (hF : mF Λ) {μ : hx_M} (v1 : Int32) (v2 : Int32) {K : Int32 → Prop} (hK : ∀ (r : Int32), K r → KK (some (.int r)) Λ μ) (hw : wX12_isWithin μ v1 v2 K) : G Λ μ (0, 0) 0 [some (.ref 49), some (.int v1), some (.int v2), none, none, none] [] := by
  unfold wX12_isWithin at hw
  refine cl_iconst hG 0 (hx_dq tdX12_isWithin_0 0 rfl) iconst_0 (cl_istore_n hG (hx_dq tdX12_isWithin_0 1 rfl) (Nat.le_of_ble_eq_true rfl) rfl (cl_iconst hG 0 (hx_dq tdX12_isWithin_0 2 rfl) iconst_0 (cl_istore hG (hx_dq tdX12_isWithin_0 3 rfl) (Nat.le_of_ble_eq_true rfl) rfl (cl_iconst hG 0 (hx_dq tdX12_isWithin_0 4 rfl) iconst_0 (cl_istore hG (hx_dq tdX12_isWithin_0 5 rfl) (Nat.le_of_ble_eq_true rfl) rfl ?_)))))
  obtain ⟨n_, hw⟩ := hw
  refine cl_sub hG (hx_le_c rfl (hx_le_c rfl (hx_le_c rfl (hx_le_c rfl (hx_le_c rfl (hx_le_c rfl hx_le_0)))))) (kX12_isWithin_L8 hG cA hF v1 v2 hK (fun v3_12 v4_12 hw => ?_) n_ 0 0 0 hw)
  · refine cl_iload_n hG (hx_dq tdX12_isWithin_1 4 rfl) rfl (cl_if_eq hG 80 (hx_dq tdX12_isWithin_1 5 rfl) rfl (fun c68 => ?_) (fun c68 => ?_))
    · replace hw := hw.1 c68
      exact cl_iconst hG 0 (hx_dq tdX12_isWithin_1 10 rfl) iconst_0 (cl_iret hG (hx_dq tdX12_isWithin_1 11 rfl) rfl rfl (hK _ hw) (Nat.le_refl _) (Nat.le_refl _))
    · replace hw := hw.2 c68
      refine cl_iload hG (hx_dq tdX12_isWithin_1 6 rfl) rfl (cl_if_eq hG 80 (hx_dq tdX12_isWithin_1 7 rfl) rfl (fun c73 => ?_) (fun c73 => ?_))
      · replace hw := hw.1 c73
        exact cl_iconst hG 0 (hx_dq tdX12_isWithin_1 10 rfl) iconst_0 (cl_iret hG (hx_dq tdX12_isWithin_1 11 rfl) rfl rfl (hK _ hw) (Nat.le_refl _) (Nat.le_refl _))
      · replace hw := hw.2 c73
        exact cl_iconst hG 1 (hx_dq tdX12_isWithin_1 8 rfl) iconst_1 (cl_goto hG 81 (hx_dq tdX12_isWithin_1 9 rfl) rfl (cl_iret hG (hx_dq tdX12_isWithin_1 11 rfl) rfl rfl (hK _ hw) (Nat.le_refl _) (Nat.le_refl _)))
def sX12_isWithin : hx_ST := fun Λ μ as KK => mF Λ ∧ ∃ (v1 : Int32) (v2 : Int32) (K : Int32 → Prop), as = [.ref 49, .int v1, .int v2] ∧ wX12_isWithin μ v1 v2 K ∧ (∀ (r : Int32), K r → KK (some (.int r)) Λ μ)
theorem sX12_isWithin_mk {Λ : hx_L} {μ : hx_M} {KK : hx_KT} {v1 : Int32} {v2 : Int32} {K : Int32 → Prop} (hF : mF Λ) (hw : wX12_isWithin μ v1 v2 K) (hk : ∀ (r : Int32), K r → KK (some (.int r)) Λ μ) : sX12_isWithin Λ μ [.ref 49, .int v1, .int v2] KK := ⟨hF, _, _, _, rfl, hw, hk⟩
theorem conX12_isWithin : hx_Con yX12_isWithin cX12_isWithin 6 (some .boolean) 2 0 0 sX12_isWithin := by
  refine hx_con_of (by decide +kernel) tokX12 (by decide) ?_ ?_
  · intro Λ μ as KK h
    obtain ⟨hF, v1, v2, K, rfl, hw, hK⟩ := h
    exact Nat.le_of_ble_eq_true rfl
  · intro G KK hG cA Λ μ as h
    obtain ⟨hF, v1, v2, K, rfl, hw, hK⟩ := h
    exact cl_sub hG (hx_le_c rfl (hx_le_c rfl (hx_le_c rfl (hx_le_n (hx_le_n (hx_le_n hx_le_0)))))) (kX12_isWithin hG cA hF _ _ hK hw)
/-! HemLineModel.off(II)I -/
def tbX12_off_0 : List (Nat × Instr × Nat) := [(0, .iload_n 1, 1), (1, .iconst 0, 1), (2, .iconst 3, 1), (3, .invokestatic 157, 3), (6, .ifCond .eq 19, 3), (9, .iload_n 2, 1), (10, .iconst 0, 1), (11, .iconst 2, 1), (12, .invokestatic 157, 3), (15, .ifCond .eq 10, 3), (18, .aload_n 0, 1), (19, .getfield 154, 3), (22, .ifCond .ne 5, 3), (25, .iconst (-1), 1), (26, .ireturn, 1), (27, .iconst 0, 1), (28, .istore_n 3, 1), (29, .iconst 0, 1), (30, .istore 4, 2), (32, .iload 4, 2), (34, .aload_n 0, 1), (35, .getfield 428, 3), (38, .if_icmp .ge 106, 3), (41, .aload_n 0, 1), (42, .getfield 120, 3), (45, .iload 4, 2), (47, .iaload, 1), (48, .iload_n 1, 1), (49, .if_icmp .ne 89, 3), (52, .aload_n 0, 1), (53, .aload_n 0, 1), (54, .getfield 123, 3)]
def tbX12_off_1 : List (Nat × Instr × Nat) := [(57, .iload 4, 2), (59, .iaload, 1), (60, .invokevirtual 362, 3), (63, .ifCond .ne 6, 3), (66, .goto 72, 3), (69, .iload_n 3, 1), (70, .iload_n 2, 1), (71, .ifCond .ne 31, 3), (74, .bipush 100, 2), (76, .aload_n 0, 1), (77, .getfield 126, 3), (80, .iload 4, 2), (82, .iaload, 1), (83, .imul, 1), (84, .aload_n 0, 1), (85, .aload_n 0, 1), (86, .getfield 123, 3), (89, .iload 4, 2), (91, .iaload, 1), (92, .invokevirtual 365, 3), (95, .isub, 1), (96, .invokestatic 337, 3), (99, .goto 37, 3), (102, .iload_n 2, 1), (103, .iconst 1, 1), (104, .if_icmp .eq 24, 3), (107, .aload_n 0, 1), (108, .aload_n 0, 1), (109, .getfield 126, 3), (112, .iload 4, 2), (114, .iaload, 1), (115, .aload_n 0, 1)]
def tbX12_off_2 : List (Nat × Instr × Nat) := [(116, .getfield 123, 3), (119, .iload 4, 2), (121, .iaload, 1), (122, .invokevirtual 431, 3), (125, .ifCond .eq 7, 3), (128, .iconst 1, 1), (129, .goto 4, 3), (132, .iconst 0, 1), (133, .invokestatic 396, 3), (136, .iadd, 1), (137, .istore_n 3, 1), (138, .iinc 4 1, 3), (141, .goto (-109), 3), (144, .iload_n 3, 1), (145, .ireturn, 1)]
theorem tdX12_off_0 : hx_dt cX12_off tbX12_off_0 = true := by decide +kernel
theorem tdX12_off_1 : hx_dt cX12_off tbX12_off_1 = true := by decide +kernel
theorem tdX12_off_2 : hx_dt cX12_off tbX12_off_2 = true := by decide +kernel
theorem caX12_off_157 {G : hx_GT} (cA : hx_CA RX12 cX12_off 3 0 0 G) : hx_CS cX12_off G 0 0 157 3 sX12_isIn 0 0 := cA.2.1 conX12_isIn ⟨by decide +kernel, by decide +kernel, by decide +kernel⟩ mw_1343 mw_1344 mw_97 mw_1345 (by decide) (by decide)
theorem caX12_off_362 {G : hx_GT} (cA : hx_CA RX12 cX12_off 3 0 0 G) : hx_CV cX12_off G 0 0 362 12 1 sX12_isSeason 0 0 := cA.1 conX12_isSeason rfl rfl ⟨by decide +kernel, by decide +kernel, by decide +kernel⟩ mw_1531 mw_1533 mw_63 mw_97 mw_1534 (by decide) (by decide)
theorem caX12_off_365 {G : hx_GT} (cA : hx_CA RX12 cX12_off 3 0 0 G) : hx_CV cX12_off G 0 0 365 12 1 sX12_lineAt 0 0 := cA.1 conX12_lineAt rfl rfl ⟨by decide +kernel, by decide +kernel, by decide +kernel⟩ mw_1535 mw_1537 mw_64 mw_97 mw_1538 (by decide) (by decide)
theorem caX12_off_396 {G : hx_GT} (cA : hx_CA RX12 cX12_off 3 0 0 G) : hx_CS cX12_off G 0 0 396 1 sX12_one 0 0 := cA.2.1 conX12_one ⟨by decide +kernel, by decide +kernel, by decide +kernel⟩ mw_1583 mw_1584 mw_97 mw_1585 (by decide) (by decide)
theorem caX12_off_431 {G : hx_GT} (cA : hx_CA RX12 cX12_off 3 0 0 G) : hx_CV cX12_off G 0 0 431 12 2 sX12_isWithin 0 0 := cA.1 conX12_isWithin rfl rfl ⟨by decide +kernel, by decide +kernel, by decide +kernel⟩ mw_1647 mw_1649 mw_77 mw_97 mw_1650 (by decide) (by decide)
def wX12_off_J138 (μ : hx_M) (K : Int32 → Prop) (K32 : Int32 → Int32 → Prop) (v1 : Int32) (v2 : Int32) (v3 : Int32) (v4 : Int32)   : Prop := K32 v3 (v4 + 1)
set_option maxRecDepth 100000 in
set_option maxHeartbeats 4000000 in
theorem kX12_off_J138 {G : hx_GT} {KK : hx_KT} (hG : hx_K cX12_off 5 0 0 (some .int) TbX12 KK G) (cA : hx_CA RX12 cX12_off 3 0 0 G) {Λ : hx_L} (hF : mF Λ) {μ : hx_M} (v1 : Int32) (v2 : Int32) (v3 : Int32) (v4 : Int32)  {K : Int32 → Prop} (hK : ∀ (r : Int32), K r → KK (some (.int r)) Λ μ) {K32 : Int32 → Int32 → Prop} (hk32 : ∀ (v3 : Int32) (v4 : Int32), K32 v3 v4 → G Λ μ (0, 0) 32 [some (.ref 49), some (.int v1), some (.int v2), some (.int v3), some (.int v4)] []) (hw : wX12_off_J138 μ K K32 v1 v2 v3 v4) : G Λ μ (0, 0) 138 [some (.ref 49), some (.int v1), some (.int v2), some (.int v3), some (.int v4)] [] := by
  unfold wX12_off_J138 at hw
  exact cl_iinc hG (v4 + 1) (hx_dq tdX12_off_2 11 rfl) rfl (congrArg (fun z => v4 + z) iconst_1) (Nat.le_of_ble_eq_true rfl) rfl (cl_goto hG 32 (hx_dq tdX12_off_2 12 rfl) rfl (cl_sub hG (hx_le_c rfl (hx_le_c rfl (hx_le_c rfl (hx_le_c rfl (hx_le_c rfl hx_le_0))))) (hk32 v3 (v4 + 1) hw)))
def wX12_off_J138_11 (μ : hx_M) (K : Int32 → Prop) (K32 : Int32 → Int32 → Prop) (v1 : Int32) (v2 : Int32) (v3 : Int32) (v4 : Int32)   : Prop := K32 v3 (v4 + 1)
set_option maxRecDepth 100000 in
set_option maxHeartbeats 4000000 in
theorem kX12_off_J138_11 {G : hx_GT} {KK : hx_KT} (hG : hx_K cX12_off 5 0 0 (some .int) TbX12 KK G) (cA : hx_CA RX12 cX12_off 3 0 0 G) {Λ : hx_L} (hF : mF Λ) {μ : hx_M} (v1 : Int32) (v2 : Int32) (v3 : Int32) (v4 : Int32)  {K : Int32 → Prop} (hK : ∀ (r : Int32), K r → KK (some (.int r)) Λ μ) {K32 : Int32 → Int32 → Prop} (hk32 : ∀ (v3 : Int32) (v4 : Int32), K32 v3 v4 → G Λ μ (0, 0) 32 [some (.ref 49), some (.int v1), some (.int v2), some (.int v3), some (.int v4)] []) (hw : wX12_off_J138_11 μ K K32 v1 v2 v3 v4) : G Λ μ (0, 0) 138 [some (.ref 49), some (.int v1), some (.int v2), some (.int v3), some (.int v4)] [] := by
  unfold wX12_off_J138_11 at hw
  exact cl_iinc hG (v4 + 1) (hx_dq tdX12_off_2 11 rfl) rfl (congrArg (fun z => v4 + z) iconst_1) (Nat.le_of_ble_eq_true rfl) rfl (cl_goto hG 32 (hx_dq tdX12_off_2 12 rfl) rfl (cl_sub hG (hx_le_c rfl (hx_le_c rfl (hx_le_c rfl (hx_le_c rfl (hx_le_c rfl hx_le_0))))) (hk32 v3 (v4 + 1) hw)))
def wX12_off_J136 (μ : hx_M) (K : Int32 → Prop) (K32 : Int32 → Int32 → Prop) (v1 : Int32) (v2 : Int32) (v4 : Int32) (t0 : Int32) (t1 : Int32)  : Prop := wX12_off_J138_11 μ K (K32) v1 v2 (t0 + t1) v4
set_option maxRecDepth 100000 in
set_option maxHeartbeats 4000000 in
theorem kX12_off_J136 {G : hx_GT} {KK : hx_KT} (hG : hx_K cX12_off 5 0 0 (some .int) TbX12 KK G) (cA : hx_CA RX12 cX12_off 3 0 0 G) {Λ : hx_L} (hF : mF Λ) {μ : hx_M} (v1 : Int32) (v2 : Int32) (v4 : Int32) (t0 : Int32) (t1 : Int32) {K : Int32 → Prop} (hK : ∀ (r : Int32), K r → KK (some (.int r)) Λ μ) {K32 : Int32 → Int32 → Prop} (hk32 : ∀ (v3 : Int32) (v4 : Int32), K32 v3 v4 → G Λ μ (0, 0) 32 [some (.ref 49), some (.int v1), some (.int v2), some (.int v3), some (.int v4)] []) (hw : wX12_off_J136 μ K K32 v1 v2 v4 t0 t1) : G Λ μ (0, 0) 136 [some (.ref 49), some (.int v1), some (.int v2), none, some (.int v4)] [.int t1, .int t0] := by
  unfold wX12_off_J136 at hw
  refine cl_iadd hG (hx_dq tdX12_off_2 9 rfl) (cl_istore_n hG (hx_dq tdX12_off_2 10 rfl) (Nat.le_of_ble_eq_true rfl) rfl ?_)
  exact cl_sub hG (hx_le_c rfl (hx_le_c rfl (hx_le_c rfl (hx_le_c rfl (hx_le_c rfl hx_le_0))))) (kX12_off_J138_11 hG cA hF v1 v2 (t0 + t1) v4 hK (fun z0 z1 hw => hk32 z0 z1 hw) hw)
def wX12_off_J133 (μ : hx_M) (K : Int32 → Prop) (K32 : Int32 → Int32 → Prop) (v1 : Int32) (v2 : Int32) (v4 : Int32) (t0 : Int32) (t1 : Int32)  : Prop := wX12_one t1 (fun r133_10 => wX12_off_J136 μ K (K32) v1 v2 v4 t0 r133_10)
set_option maxRecDepth 100000 in
set_option maxHeartbeats 4000000 in
theorem kX12_off_J133 {G : hx_GT} {KK : hx_KT} (hG : hx_K cX12_off 5 0 0 (some .int) TbX12 KK G) (cA : hx_CA RX12 cX12_off 3 0 0 G) {Λ : hx_L} (hF : mF Λ) {μ : hx_M} (v1 : Int32) (v2 : Int32) (v4 : Int32) (t0 : Int32) (t1 : Int32) {K : Int32 → Prop} (hK : ∀ (r : Int32), K r → KK (some (.int r)) Λ μ) {K32 : Int32 → Int32 → Prop} (hk32 : ∀ (v3 : Int32) (v4 : Int32), K32 v3 v4 → G Λ μ (0, 0) 32 [some (.ref 49), some (.int v1), some (.int v2), some (.int v3), some (.int v4)] []) (hw : wX12_off_J133 μ K K32 v1 v2 v4 t0 t1) : G Λ μ (0, 0) 133 [some (.ref 49), some (.int v1), some (.int v2), none, some (.int v4)] [.int t1, .int t0] := by
  unfold wX12_off_J133 at hw
  refine cl_callS1 (caX12_off_396 cA) (hx_dq tdX12_off_2 8 rfl) (Nat.le_of_ble_eq_true rfl) (Nat.le_refl _) (Nat.le_refl _) (sX12_one_mk hw (fun r133_10 hw => ?_))
  exact cl_sub hG (hx_le_c rfl (hx_le_c rfl (hx_le_c rfl (hx_le_n (hx_le_c rfl hx_le_0))))) (kX12_off_J136 hG cA hF v1 v2 v4 t0 r133_10 hK (fun z0 z1 hw => hk32 z0 z1 hw) hw)
def wX12_off_J128 (μ : hx_M) (K : Int32 → Prop) (K32 : Int32 → Int32 → Prop) (v1 : Int32) (v2 : Int32) (v4 : Int32) (t0 : Int32)  : Prop := wX12_off_J133 μ K (K32) v1 v2 v4 t0 1
set_option maxRecDepth 100000 in
set_option maxHeartbeats 4000000 in
theorem kX12_off_J128 {G : hx_GT} {KK : hx_KT} (hG : hx_K cX12_off 5 0 0 (some .int) TbX12 KK G) (cA : hx_CA RX12 cX12_off 3 0 0 G) {Λ : hx_L} (hF : mF Λ) {μ : hx_M} (v1 : Int32) (v2 : Int32) (v4 : Int32) (t0 : Int32) {K : Int32 → Prop} (hK : ∀ (r : Int32), K r → KK (some (.int r)) Λ μ) {K32 : Int32 → Int32 → Prop} (hk32 : ∀ (v3 : Int32) (v4 : Int32), K32 v3 v4 → G Λ μ (0, 0) 32 [some (.ref 49), some (.int v1), some (.int v2), some (.int v3), some (.int v4)] []) (hw : wX12_off_J128 μ K K32 v1 v2 v4 t0) : G Λ μ (0, 0) 128 [some (.ref 49), some (.int v1), some (.int v2), none, some (.int v4)] [.int t0] := by
  unfold wX12_off_J128 at hw
  refine cl_iconst hG 1 (hx_dq tdX12_off_2 5 rfl) iconst_1 (cl_goto hG 133 (hx_dq tdX12_off_2 6 rfl) rfl ?_)
  exact cl_sub hG (hx_le_c rfl (hx_le_c rfl (hx_le_c rfl (hx_le_n (hx_le_c rfl hx_le_0))))) (kX12_off_J133 hG cA hF v1 v2 v4 t0 1 hK (fun z0 z1 hw => hk32 z0 z1 hw) hw)
def wX12_off_J138_20 (μ : hx_M) (K : Int32 → Prop) (K32 : Int32 → Int32 → Prop) (v1 : Int32) (v2 : Int32) (v3 : Int32) (v4 : Int32)   : Prop := K32 v3 (v4 + 1)
set_option maxRecDepth 100000 in
set_option maxHeartbeats 4000000 in
theorem kX12_off_J138_20 {G : hx_GT} {KK : hx_KT} (hG : hx_K cX12_off 5 0 0 (some .int) TbX12 KK G) (cA : hx_CA RX12 cX12_off 3 0 0 G) {Λ : hx_L} (hF : mF Λ) {μ : hx_M} (v1 : Int32) (v2 : Int32) (v3 : Int32) (v4 : Int32)  {K : Int32 → Prop} (hK : ∀ (r : Int32), K r → KK (some (.int r)) Λ μ) {K32 : Int32 → Int32 → Prop} (hk32 : ∀ (v3 : Int32) (v4 : Int32), K32 v3 v4 → G Λ μ (0, 0) 32 [some (.ref 49), some (.int v1), some (.int v2), some (.int v3), some (.int v4)] []) (hw : wX12_off_J138_20 μ K K32 v1 v2 v3 v4) : G Λ μ (0, 0) 138 [some (.ref 49), some (.int v1), some (.int v2), some (.int v3), some (.int v4)] [] := by
  unfold wX12_off_J138_20 at hw
  exact cl_iinc hG (v4 + 1) (hx_dq tdX12_off_2 11 rfl) rfl (congrArg (fun z => v4 + z) iconst_1) (Nat.le_of_ble_eq_true rfl) rfl (cl_goto hG 32 (hx_dq tdX12_off_2 12 rfl) rfl (cl_sub hG (hx_le_c rfl (hx_le_c rfl (hx_le_c rfl (hx_le_c rfl (hx_le_c rfl hx_le_0))))) (hk32 v3 (v4 + 1) hw)))
def wX12_off_J136_19 (μ : hx_M) (K : Int32 → Prop) (K32 : Int32 → Int32 → Prop) (v1 : Int32) (v2 : Int32) (v4 : Int32) (t0 : Int32) (t1 : Int32)  : Prop := wX12_off_J138_20 μ K (K32) v1 v2 (t0 + t1) v4
set_option maxRecDepth 100000 in
set_option maxHeartbeats 4000000 in
theorem kX12_off_J136_19 {G : hx_GT} {KK : hx_KT} (hG : hx_K cX12_off 5 0 0 (some .int) TbX12 KK G) (cA : hx_CA RX12 cX12_off 3 0 0 G) {Λ : hx_L} (hF : mF Λ) {μ : hx_M} (v1 : Int32) (v2 : Int32) (v4 : Int32) (t0 : Int32) (t1 : Int32) {K : Int32 → Prop} (hK : ∀ (r : Int32), K r → KK (some (.int r)) Λ μ) {K32 : Int32 → Int32 → Prop} (hk32 : ∀ (v3 : Int32) (v4 : Int32), K32 v3 v4 → G Λ μ (0, 0) 32 [some (.ref 49), some (.int v1), some (.int v2), some (.int v3), some (.int v4)] []) (hw : wX12_off_J136_19 μ K K32 v1 v2 v4 t0 t1) : G Λ μ (0, 0) 136 [some (.ref 49), some (.int v1), some (.int v2), none, some (.int v4)] [.int t1, .int t0] := by
  unfold wX12_off_J136_19 at hw
  refine cl_iadd hG (hx_dq tdX12_off_2 9 rfl) (cl_istore_n hG (hx_dq tdX12_off_2 10 rfl) (Nat.le_of_ble_eq_true rfl) rfl ?_)
  exact cl_sub hG (hx_le_c rfl (hx_le_c rfl (hx_le_c rfl (hx_le_c rfl (hx_le_c rfl hx_le_0))))) (kX12_off_J138_20 hG cA hF v1 v2 (t0 + t1) v4 hK (fun z0 z1 hw => hk32 z0 z1 hw) hw)
def wX12_off_J133_16 (μ : hx_M) (K : Int32 → Prop) (K32 : Int32 → Int32 → Prop) (v1 : Int32) (v2 : Int32) (v4 : Int32) (t0 : Int32) (t1 : Int32)  : Prop := wX12_one t1 (fun r133_18 => wX12_off_J136_19 μ K (K32) v1 v2 v4 t0 r133_18)
set_option maxRecDepth 100000 in
set_option maxHeartbeats 4000000 in
theorem kX12_off_J133_16 {G : hx_GT} {KK : hx_KT} (hG : hx_K cX12_off 5 0 0 (some .int) TbX12 KK G) (cA : hx_CA RX12 cX12_off 3 0 0 G) {Λ : hx_L} (hF : mF Λ) {μ : hx_M} (v1 : Int32) (v2 : Int32) (v4 : Int32) (t0 : Int32) (t1 : Int32) {K : Int32 → Prop} (hK : ∀ (r : Int32), K r → KK (some (.int r)) Λ μ) {K32 : Int32 → Int32 → Prop} (hk32 : ∀ (v3 : Int32) (v4 : Int32), K32 v3 v4 → G Λ μ (0, 0) 32 [some (.ref 49), some (.int v1), some (.int v2), some (.int v3), some (.int v4)] []) (hw : wX12_off_J133_16 μ K K32 v1 v2 v4 t0 t1) : G Λ μ (0, 0) 133 [some (.ref 49), some (.int v1), some (.int v2), none, some (.int v4)] [.int t1, .int t0] := by
  unfold wX12_off_J133_16 at hw
  refine cl_callS1 (caX12_off_396 cA) (hx_dq tdX12_off_2 8 rfl) (Nat.le_of_ble_eq_true rfl) (Nat.le_refl _) (Nat.le_refl _) (sX12_one_mk hw (fun r133_18 hw => ?_))
  exact cl_sub hG (hx_le_c rfl (hx_le_c rfl (hx_le_c rfl (hx_le_n (hx_le_c rfl hx_le_0))))) (kX12_off_J136_19 hG cA hF v1 v2 v4 t0 r133_18 hK (fun z0 z1 hw => hk32 z0 z1 hw) hw)
def wX12_off_J138_27 (μ : hx_M) (K : Int32 → Prop) (K32 : Int32 → Int32 → Prop) (v1 : Int32) (v2 : Int32) (v3 : Int32) (v4 : Int32)   : Prop := K32 v3 (v4 + 1)
set_option maxRecDepth 100000 in
set_option maxHeartbeats 4000000 in
theorem kX12_off_J138_27 {G : hx_GT} {KK : hx_KT} (hG : hx_K cX12_off 5 0 0 (some .int) TbX12 KK G) (cA : hx_CA RX12 cX12_off 3 0 0 G) {Λ : hx_L} (hF : mF Λ) {μ : hx_M} (v1 : Int32) (v2 : Int32) (v3 : Int32) (v4 : Int32)  {K : Int32 → Prop} (hK : ∀ (r : Int32), K r → KK (some (.int r)) Λ μ) {K32 : Int32 → Int32 → Prop} (hk32 : ∀ (v3 : Int32) (v4 : Int32), K32 v3 v4 → G Λ μ (0, 0) 32 [some (.ref 49), some (.int v1), some (.int v2), some (.int v3), some (.int v4)] []) (hw : wX12_off_J138_27 μ K K32 v1 v2 v3 v4) : G Λ μ (0, 0) 138 [some (.ref 49), some (.int v1), some (.int v2), some (.int v3), some (.int v4)] [] := by
  unfold wX12_off_J138_27 at hw
  exact cl_iinc hG (v4 + 1) (hx_dq tdX12_off_2 11 rfl) rfl (congrArg (fun z => v4 + z) iconst_1) (Nat.le_of_ble_eq_true rfl) rfl (cl_goto hG 32 (hx_dq tdX12_off_2 12 rfl) rfl (cl_sub hG (hx_le_c rfl (hx_le_c rfl (hx_le_c rfl (hx_le_c rfl (hx_le_c rfl hx_le_0))))) (hk32 v3 (v4 + 1) hw)))
def wX12_off_J136_26 (μ : hx_M) (K : Int32 → Prop) (K32 : Int32 → Int32 → Prop) (v1 : Int32) (v2 : Int32) (v4 : Int32) (t0 : Int32) (t1 : Int32)  : Prop := wX12_off_J138_27 μ K (K32) v1 v2 (t0 + t1) v4
set_option maxRecDepth 100000 in
set_option maxHeartbeats 4000000 in
theorem kX12_off_J136_26 {G : hx_GT} {KK : hx_KT} (hG : hx_K cX12_off 5 0 0 (some .int) TbX12 KK G) (cA : hx_CA RX12 cX12_off 3 0 0 G) {Λ : hx_L} (hF : mF Λ) {μ : hx_M} (v1 : Int32) (v2 : Int32) (v4 : Int32) (t0 : Int32) (t1 : Int32) {K : Int32 → Prop} (hK : ∀ (r : Int32), K r → KK (some (.int r)) Λ μ) {K32 : Int32 → Int32 → Prop} (hk32 : ∀ (v3 : Int32) (v4 : Int32), K32 v3 v4 → G Λ μ (0, 0) 32 [some (.ref 49), some (.int v1), some (.int v2), some (.int v3), some (.int v4)] []) (hw : wX12_off_J136_26 μ K K32 v1 v2 v4 t0 t1) : G Λ μ (0, 0) 136 [some (.ref 49), some (.int v1), some (.int v2), none, some (.int v4)] [.int t1, .int t0] := by
  unfold wX12_off_J136_26 at hw
  refine cl_iadd hG (hx_dq tdX12_off_2 9 rfl) (cl_istore_n hG (hx_dq tdX12_off_2 10 rfl) (Nat.le_of_ble_eq_true rfl) rfl ?_)
  exact cl_sub hG (hx_le_c rfl (hx_le_c rfl (hx_le_c rfl (hx_le_c rfl (hx_le_c rfl hx_le_0))))) (kX12_off_J138_27 hG cA hF v1 v2 (t0 + t1) v4 hK (fun z0 z1 hw => hk32 z0 z1 hw) hw)
def wX12_off_L32 (μ : hx_M) (v1 : Int32) (v2 : Int32) (K : Int32 → Prop)  : Nat → Int32 → Int32 → Prop
  | 0, _, _ => False
  | n + 1, v3, v4 => ((μ.1 49 55) ≤ v4 → (K v3)) ∧ (¬ ((μ.1 49 55) ≤ v4) → (vp_in v4 60 ∧ ((μ.1 82 v4.toNatClampNeg) ≠ v1 → (wX12_off_J138 μ K (wX12_off_L32 μ v1 v2 K n) v1 v2 v3 v4)) ∧ ((μ.1 82 v4.toNatClampNeg) = v1 → (vp_in v4 60 ∧ wX12_isSeason μ (μ.1 83 v4.toNatClampNeg) (fun r60_8 => (r60_8 ≠ 0 → ((v2 ≠ 0 → ((v2 = 1 → (wX12_off_J128 μ K (wX12_off_L32 μ v1 v2 K n) v1 v2 v4 v3)) ∧ (¬ (v2 = 1) → (vp_in v4 60 ∧ vp_in v4 60 ∧ wX12_isWithin μ (μ.1 84 v4.toNatClampNeg) (μ.1 83 v4.toNatClampNeg) (fun r122_15 => (r122_15 = 0 → (wX12_off_J133_16 μ K (wX12_off_L32 μ v1 v2 K n) v1 v2 v4 v3 0)) ∧ (¬ (r122_15 = 0) → (wX12_off_J128 μ K (wX12_off_L32 μ v1 v2 K n) v1 v2 v4 v3))))))) ∧ (v2 = 0 → (vp_in v4 60 ∧ vp_in v4 60 ∧ wX12_lineAt μ (μ.1 83 v4.toNatClampNeg) (fun r92_24 => ∀ x_25 : Int32, x_25 = (if 0 ≤ ((100 * (μ.1 84 v4.toNatClampNeg)) - r92_24) then ((100 * (μ.1 84 v4.toNatClampNeg)) - r92_24) else 0 - ((100 * (μ.1 84 v4.toNatClampNeg)) - r92_24)) → wX12_off_J136_26 μ K (wX12_off_L32 μ v1 v2 K n) v1 v2 v4 v3 x_25))))) ∧ (r60_8 = 0 → (wX12_off_J138 μ K (wX12_off_L32 μ v1 v2 K n) v1 v2 v3 v4)))))))
set_option maxRecDepth 100000 in
set_option maxHeartbeats 4000000 in
theorem kX12_off_L32 {G : hx_GT} {KK : hx_KT} (hG : hx_K cX12_off 5 0 0 (some .int) TbX12 KK G) (cA : hx_CA RX12 cX12_off 3 0 0 G) {Λ : hx_L} (hF : mF Λ) {μ : hx_M} (v1 : Int32) (v2 : Int32) {K : Int32 → Prop} (hK : ∀ (r : Int32), K r → KK (some (.int r)) Λ μ)  : ∀ (n : Nat) (v3 : Int32) (v4 : Int32), wX12_off_L32 μ v1 v2 K n v3 v4 → G Λ μ (0, 0) 32 [some (.ref 49), some (.int v1), some (.int v2), some (.int v3), some (.int v4)] [] := by
  intro n
  induction n with
  | zero =>
    intro v3 v4 hw
    exact False.elim (by simpa only [wX12_off_L32] using hw)
  | succ n ih =>
    intro v3 v4 hw
    unfold wX12_off_L32 at hw
    refine cl_iload hG (hx_dq tdX12_off_0 19 rfl) rfl (cl_aload_n hG (hx_dq tdX12_off_0 20 rfl) rfl (cl_getI hG fmX12_428 (hx_dq tdX12_off_0 21 rfl) (mF_S49 hF) (cl_icmp_ge hG 144 (hx_dq tdX12_off_0 22 rfl) rfl (fun c38 => ?_) (fun c38 => ?_))))
    · replace hw := hw.1 c38
      exact cl_iload_n hG (hx_dq tdX12_off_2 13 rfl) rfl (cl_iret hG (hx_dq tdX12_off_2 14 rfl) rfl rfl (hK _ hw) (Nat.le_refl _) (Nat.le_refl _))
    · replace hw := hw.2 c38
      obtain ⟨i47_5, hw⟩ := hw
      refine cl_aload_n hG (hx_dq tdX12_off_0 23 rfl) rfl (cl_getS hG fmX12_120 (hx_dq tdX12_off_0 24 rfl) (mF_S49 hF) (mF_R49_56 hF) (cl_iload hG (hx_dq tdX12_off_0 25 rfl) rfl (cl_iald hG (hx_dq tdX12_off_0 26 rfl) (mF_S82 hF) i47_5 (cl_iload_n hG (hx_dq tdX12_off_0 27 rfl) rfl (cl_icmp_ne hG 138 (hx_dq tdX12_off_0 28 rfl) rfl (fun c49 => ?_) (fun c49 => ?_))))))
      · replace hw := hw.1 c49
        exact cl_sub hG (hx_le_c rfl (hx_le_c rfl (hx_le_c rfl (hx_le_c rfl (hx_le_c rfl hx_le_0))))) (kX12_off_J138 hG cA hF v1 v2 v3 v4 hK (fun z0 z1 hw => ih z0 z1 hw) hw)
      · replace hw := hw.2 c49
        obtain ⟨i59_6, hw⟩ := hw
        refine cl_aload_n hG (hx_dq tdX12_off_0 29 rfl) rfl (cl_aload_n hG (hx_dq tdX12_off_0 30 rfl) rfl (cl_getS hG fmX12_123 (hx_dq tdX12_off_0 31 rfl) (mF_S49 hF) (mF_R49_57 hF) (cl_iload hG (hx_dq tdX12_off_1 0 rfl) rfl (cl_iald hG (hx_dq tdX12_off_1 1 rfl) (mF_S83 hF) i59_6 (cl_callV1 (caX12_off_362 cA) (hx_dq tdX12_off_1 2 rfl) (mF_S49 hF) (Nat.le_of_ble_eq_true rfl) (Nat.le_refl _) (Nat.le_refl _) (sX12_isSeason_mk hF hw (fun r60_8 hw => ?_)))))))
        refine cl_if_ne hG 69 (hx_dq tdX12_off_1 3 rfl) rfl (fun c63 => ?_) (fun c63 => ?_)
        · replace hw := hw.1 c63
          refine cl_iload_n hG (hx_dq tdX12_off_1 5 rfl) rfl (cl_iload_n hG (hx_dq tdX12_off_1 6 rfl) rfl (cl_if_ne hG 102 (hx_dq tdX12_off_1 7 rfl) rfl (fun c71 => ?_) (fun c71 => ?_)))
          · replace hw := hw.1 c71
            refine cl_iload_n hG (hx_dq tdX12_off_1 23 rfl) rfl (cl_iconst hG 1 (hx_dq tdX12_off_1 24 rfl) iconst_1 (cl_icmp_eq hG 128 (hx_dq tdX12_off_1 25 rfl) rfl (fun c104 => ?_) (fun c104 => ?_)))
            · replace hw := hw.1 c104
              exact cl_sub hG (hx_le_c rfl (hx_le_c rfl (hx_le_c rfl (hx_le_n (hx_le_c rfl hx_le_0))))) (kX12_off_J128 hG cA hF v1 v2 v4 v3 hK (fun z0 z1 hw => ih z0 z1 hw) hw)
            · replace hw := hw.2 c104
              obtain ⟨i114_12, hw⟩ := hw
              obtain ⟨i121_13, hw⟩ := hw
              refine cl_aload_n hG (hx_dq tdX12_off_1 26 rfl) rfl (cl_aload_n hG (hx_dq tdX12_off_1 27 rfl) rfl (cl_getS hG fmX12_126 (hx_dq tdX12_off_1 28 rfl) (mF_S49 hF) (mF_R49_58 hF) (cl_iload hG (hx_dq tdX12_off_1 29 rfl) rfl (cl_iald hG (hx_dq tdX12_off_1 30 rfl) (mF_S84 hF) i114_12 (cl_aload_n hG (hx_dq tdX12_off_1 31 rfl) rfl (cl_getS hG fmX12_123 (hx_dq tdX12_off_2 0 rfl) (mF_S49 hF) (mF_R49_57 hF) (cl_iload hG (hx_dq tdX12_off_2 1 rfl) rfl (cl_iald hG (hx_dq tdX12_off_2 2 rfl) (mF_S83 hF) i121_13 (cl_callV2 (caX12_off_431 cA) (hx_dq tdX12_off_2 3 rfl) (mF_S49 hF) (Nat.le_of_ble_eq_true rfl) (Nat.le_refl _) (Nat.le_refl _) (sX12_isWithin_mk hF hw (fun r122_15 hw => ?_)))))))))))
              refine cl_if_eq hG 132 (hx_dq tdX12_off_2 4 rfl) rfl (fun c125 => ?_) (fun c125 => ?_)
              · replace hw := hw.1 c125
                refine cl_iconst hG 0 (hx_dq tdX12_off_2 7 rfl) iconst_0 ?_
                exact cl_sub hG (hx_le_c rfl (hx_le_c rfl (hx_le_c rfl (hx_le_n (hx_le_c rfl hx_le_0))))) (kX12_off_J133_16 hG cA hF v1 v2 v4 v3 0 hK (fun z0 z1 hw => ih z0 z1 hw) hw)
              · replace hw := hw.2 c125
                exact cl_sub hG (hx_le_c rfl (hx_le_c rfl (hx_le_c rfl (hx_le_n (hx_le_c rfl hx_le_0))))) (kX12_off_J128 hG cA hF v1 v2 v4 v3 hK (fun z0 z1 hw => ih z0 z1 hw) hw)
          · replace hw := hw.2 c71
            obtain ⟨i82_21, hw⟩ := hw
            obtain ⟨i91_22, hw⟩ := hw
            refine cl_bipush hG 100 (hx_dq tdX12_off_1 8 rfl) bipush_100 (cl_aload_n hG (hx_dq tdX12_off_1 9 rfl) rfl (cl_getS hG fmX12_126 (hx_dq tdX12_off_1 10 rfl) (mF_S49 hF) (mF_R49_58 hF) (cl_iload hG (hx_dq tdX12_off_1 11 rfl) rfl (cl_iald hG (hx_dq tdX12_off_1 12 rfl) (mF_S84 hF) i82_21 (cl_imul hG (hx_dq tdX12_off_1 13 rfl) (cl_aload_n hG (hx_dq tdX12_off_1 14 rfl) rfl (cl_aload_n hG (hx_dq tdX12_off_1 15 rfl) rfl (cl_getS hG fmX12_123 (hx_dq tdX12_off_1 16 rfl) (mF_S49 hF) (mF_R49_57 hF) (cl_iload hG (hx_dq tdX12_off_1 17 rfl) rfl (cl_iald hG (hx_dq tdX12_off_1 18 rfl) (mF_S83 hF) i91_22 (cl_callV1 (caX12_off_365 cA) (hx_dq tdX12_off_1 19 rfl) (mF_S49 hF) (Nat.le_of_ble_eq_true rfl) (Nat.le_refl _) (Nat.le_refl _) (sX12_lineAt_mk hF hw (fun r92_24 hw => ?_)))))))))))))
            refine cl_isub hG (hx_dq tdX12_off_1 20 rfl) (cl_mabs hG mmX12_337 (hx_dq tdX12_off_1 21 rfl) (Nat.le_refl _) (Nat.le_refl _) (Nat.le_of_ble_eq_true rfl) (cl_nmI (fun x_25 e_25 => ?_)))
            replace hw := hw x_25 e_25
            refine cl_goto hG 136 (hx_dq tdX12_off_1 22 rfl) rfl ?_
            exact cl_sub hG (hx_le_c rfl (hx_le_c rfl (hx_le_c rfl (hx_le_n (hx_le_c rfl hx_le_0))))) (kX12_off_J136_26 hG cA hF v1 v2 v4 v3 x_25 hK (fun z0 z1 hw => ih z0 z1 hw) hw)
        · replace hw := hw.2 c63
          refine cl_goto hG 138 (hx_dq tdX12_off_1 4 rfl) rfl ?_
          exact cl_sub hG (hx_le_c rfl (hx_le_c rfl (hx_le_c rfl (hx_le_c rfl (hx_le_c rfl hx_le_0))))) (kX12_off_J138 hG cA hF v1 v2 v3 v4 hK (fun z0 z1 hw => ih z0 z1 hw) hw)
def wX12_off (μ : hx_M) (v1 : Int32) (v2 : Int32) (K : Int32 → Prop) : Prop := wX12_isIn v1 0 3 (fun r3_2 => (r3_2 = 0 → (K (-1))) ∧ (¬ (r3_2 = 0) → (wX12_isIn v2 0 2 (fun r12_4 => (r12_4 = 0 → (K (-1))) ∧ (¬ (r12_4 = 0) → (((μ.1 49 0) ≠ 0 → (∃ n32_28, wX12_off_L32 μ v1 v2 K n32_28 0 0)) ∧ ((μ.1 49 0) = 0 → (K (-1)))))))))
set_option maxRecDepth 100000 in
set_option maxHeartbeats 4000000 in
theorem kX12_off {G : hx_GT} {KK : hx_KT} (hG : hx_K cX12_off 5 0 0 (some .int) TbX12 KK G) (cA : hx_CA RX12 cX12_off 3 0 0 G) {Λ : hx_L} (hF : mF Λ) {μ : hx_M} (v1 : Int32) (v2 : Int32) {K : Int32 → Prop} (hK : ∀ (r : Int32), K r → KK (some (.int r)) Λ μ) (hw : wX12_off μ v1 v2 K) : G Λ μ (0, 0) 0 [some (.ref 49), some (.int v1), some (.int v2), none, none] [] := by
  unfold wX12_off at hw
  refine cl_iload_n hG (hx_dq tdX12_off_0 0 rfl) rfl (cl_iconst hG 0 (hx_dq tdX12_off_0 1 rfl) iconst_0 (cl_iconst hG 3 (hx_dq tdX12_off_0 2 rfl) iconst_3 (cl_callS3 (caX12_off_157 cA) (hx_dq tdX12_off_0 3 rfl) (Nat.le_of_ble_eq_true rfl) (Nat.le_refl _) (Nat.le_refl _) (sX12_isIn_mk hw (fun r3_2 hw => ?_)))))
  refine cl_if_eq hG 25 (hx_dq tdX12_off_0 4 rfl) rfl (fun c6 => ?_) (fun c6 => ?_)
  · replace hw := hw.1 c6
    exact cl_iconst hG (-1) (hx_dq tdX12_off_0 13 rfl) iconst_m1 (cl_iret hG (hx_dq tdX12_off_0 14 rfl) rfl rfl (hK _ hw) (Nat.le_refl _) (Nat.le_refl _))
  · replace hw := hw.2 c6
    refine cl_iload_n hG (hx_dq tdX12_off_0 5 rfl) rfl (cl_iconst hG 0 (hx_dq tdX12_off_0 6 rfl) iconst_0 (cl_iconst hG 2 (hx_dq tdX12_off_0 7 rfl) iconst_2 (cl_callS3 (caX12_off_157 cA) (hx_dq tdX12_off_0 8 rfl) (Nat.le_of_ble_eq_true rfl) (Nat.le_refl _) (Nat.le_refl _) (sX12_isIn_mk hw (fun r12_4 hw => ?_)))))
    refine cl_if_eq hG 25 (hx_dq tdX12_off_0 9 rfl) rfl (fun c15 => ?_) (fun c15 => ?_)
    · replace hw := hw.1 c15
      exact cl_iconst hG (-1) (hx_dq tdX12_off_0 13 rfl) iconst_m1 (cl_iret hG (hx_dq tdX12_off_0 14 rfl) rfl rfl (hK _ hw) (Nat.le_refl _) (Nat.le_refl _))
    · replace hw := hw.2 c15
      refine cl_aload_n hG (hx_dq tdX12_off_0 10 rfl) rfl (cl_getI hG fmX12_154 (hx_dq tdX12_off_0 11 rfl) (mF_S49 hF) (cl_if_ne hG 27 (hx_dq tdX12_off_0 12 rfl) rfl (fun c22 => ?_) (fun c22 => ?_)))
      · replace hw := hw.1 c22
        refine cl_iconst hG 0 (hx_dq tdX12_off_0 15 rfl) iconst_0 (cl_istore_n hG (hx_dq tdX12_off_0 16 rfl) (Nat.le_of_ble_eq_true rfl) rfl (cl_iconst hG 0 (hx_dq tdX12_off_0 17 rfl) iconst_0 (cl_istore hG (hx_dq tdX12_off_0 18 rfl) (Nat.le_of_ble_eq_true rfl) rfl ?_)))
        obtain ⟨n_, hw⟩ := hw
        refine cl_sub hG (hx_le_c rfl (hx_le_c rfl (hx_le_c rfl (hx_le_c rfl (hx_le_c rfl hx_le_0))))) (kX12_off_L32 hG cA hF v1 v2 hK n_ 0 0 hw)
      · replace hw := hw.2 c22
        exact cl_iconst hG (-1) (hx_dq tdX12_off_0 13 rfl) iconst_m1 (cl_iret hG (hx_dq tdX12_off_0 14 rfl) rfl rfl (hK _ hw) (Nat.le_refl _) (Nat.le_refl _))
def sX12_off : hx_ST := fun Λ μ as KK => mF Λ ∧ ∃ (v1 : Int32) (v2 : Int32) (K : Int32 → Prop), as = [.ref 49, .int v1, .int v2] ∧ wX12_off μ v1 v2 K ∧ (∀ (r : Int32), K r → KK (some (.int r)) Λ μ)
theorem sX12_off_mk {Λ : hx_L} {μ : hx_M} {KK : hx_KT} {v1 : Int32} {v2 : Int32} {K : Int32 → Prop} (hF : mF Λ) (hw : wX12_off μ v1 v2 K) (hk : ∀ (r : Int32), K r → KK (some (.int r)) Λ μ) : sX12_off Λ μ [.ref 49, .int v1, .int v2] KK := ⟨hF, _, _, _, rfl, hw, hk⟩
theorem conX12_off : hx_Con yX12_off cX12_off 5 (some .int) 3 0 0 sX12_off := by
  refine hx_con_of (by decide +kernel) tokX12 (by decide) ?_ ?_
  · intro Λ μ as KK h
    obtain ⟨hF, v1, v2, K, rfl, hw, hK⟩ := h
    exact Nat.le_of_ble_eq_true rfl
  · intro G KK hG cA Λ μ as h
    obtain ⟨hF, v1, v2, K, rfl, hw, hK⟩ := h
    exact cl_sub hG (hx_le_c rfl (hx_le_c rfl (hx_le_c rfl (hx_le_n (hx_le_n hx_le_0))))) (kX12_off hG cA hF _ _ hK hw)
/-! HemLineModel.again(II)I -/
def tbX12_again_0 : List (Nat × Instr × Nat) := [(0, .iload_n 1, 1), (1, .iconst 0, 1), (2, .bipush 60, 2), (4, .invokestatic 157, 3), (7, .ifCond .eq 19, 3), (10, .iload_n 2, 1), (11, .iconst 0, 1), (12, .iconst 2, 1), (13, .invokestatic 157, 3), (16, .ifCond .eq 10, 3), (19, .aload_n 0, 1), (20, .getfield 154, 3), (23, .ifCond .ne 5, 3), (26, .iconst (-1), 1), (27, .ireturn, 1), (28, .iconst 0, 1), (29, .istore_n 3, 1), (30, .iconst 0, 1), (31, .istore 4, 2), (33, .iconst 0, 1), (34, .istore 5, 2), (36, .iconst (-1), 1), (37, .istore 6, 2), (39, .iconst 0, 1), (40, .istore 7, 2), (42, .iload 7, 2), (44, .aload_n 0, 1), (45, .getfield 161, 3), (48, .if_icmp .gt 76, 3), (51, .aload_n 0, 1), (52, .iload 7, 2), (54, .invokevirtual 365, 3)]
def tbX12_again_1 : List (Nat × Instr × Nat) := [(57, .bipush 100, 2), (59, .iload_n 1, 1), (60, .imul, 1), (61, .isub, 1), (62, .invokestatic 337, 3), (65, .bipush 100, 2), (67, .if_icmp .lt 6, 3), (70, .goto 48, 3), (73, .iinc 3 1, 3), (76, .iload 6, 2), (78, .iconst (-1), 1), (79, .if_icmp .eq 12, 3), (82, .iload 6, 2), (84, .iload 7, 2), (86, .iconst 1, 1), (87, .isub, 1), (88, .if_icmp .ge 6, 3), (91, .iinc 4 1, 3), (94, .iload 6, 2), (96, .iconst (-1), 1), (97, .if_icmp .eq 17, 3), (100, .iload 5, 2), (102, .iload 7, 2), (104, .iload 6, 2), (106, .isub, 1), (107, .iconst 1, 1), (108, .isub, 1), (109, .invokestatic 320, 3), (112, .istore 5, 2), (114, .iload 7, 2), (116, .istore 6, 2), (118, .iinc 7 1, 3)]
def tbX12_again_2 : List (Nat × Instr × Nat) := [(121, .goto (-79), 3), (124, .iload_n 2, 1), (125, .ifCond .ne 7, 3), (128, .iload_n 3, 1), (129, .goto 15, 3), (132, .iload_n 2, 1), (133, .iconst 1, 1), (134, .if_icmp .ne 8, 3), (137, .iload 4, 2), (139, .goto 5, 3), (142, .iload 5, 2), (144, .ireturn, 1)]
theorem tdX12_again_0 : hx_dt cX12_again tbX12_again_0 = true := by decide +kernel
theorem tdX12_again_1 : hx_dt cX12_again tbX12_again_1 = true := by decide +kernel
theorem tdX12_again_2 : hx_dt cX12_again tbX12_again_2 = true := by decide +kernel
theorem caX12_again_157 {G : hx_GT} (cA : hx_CA RX12 cX12_again 3 0 0 G) : hx_CS cX12_again G 0 0 157 3 sX12_isIn 0 0 := cA.2.1 conX12_isIn ⟨by decide +kernel, by decide +kernel, by decide +kernel⟩ mw_1343 mw_1344 mw_97 mw_1345 (by decide) (by decide)
theorem caX12_again_365 {G : hx_GT} (cA : hx_CA RX12 cX12_again 3 0 0 G) : hx_CV cX12_again G 0 0 365 12 1 sX12_lineAt 0 0 := cA.1 conX12_lineAt rfl rfl ⟨by decide +kernel, by decide +kernel, by decide +kernel⟩ mw_1535 mw_1537 mw_64 mw_97 mw_1538 (by decide) (by decide)
def wX12_again_J118 (μ : hx_M) (K : Int32 → Prop) (K42 : Int32 → Int32 → Int32 → Int32 → Int32 → Prop) (v1 : Int32) (v2 : Int32) (v3 : Int32) (v4 : Int32) (v5 : Int32) (v6 : Int32) (v7 : Int32)   : Prop := K42 v3 v4 v5 v6 (v7 + 1)
set_option maxRecDepth 100000 in
set_option maxHeartbeats 4000000 in
theorem kX12_again_J118 {G : hx_GT} {KK : hx_KT} (hG : hx_K cX12_again 8 0 0 (some .int) TbX12 KK G) (cA : hx_CA RX12 cX12_again 3 0 0 G) {Λ : hx_L} (hF : mF Λ) {μ : hx_M} (v1 : Int32) (v2 : Int32) (v3 : Int32) (v4 : Int32) (v5 : Int32) (v6 : Int32) (v7 : Int32)  {K : Int32 → Prop} (hK : ∀ (r : Int32), K r → KK (some (.int r)) Λ μ) {K42 : Int32 → Int32 → Int32 → Int32 → Int32 → Prop} (hk42 : ∀ (v3 : Int32) (v4 : Int32) (v5 : Int32) (v6 : Int32) (v7 : Int32), K42 v3 v4 v5 v6 v7 → G Λ μ (0, 0) 42 [some (.ref 49), some (.int v1), some (.int v2), some (.int v3), some (.int v4), some (.int v5), some (.int v6), some (.int v7)] []) (hw : wX12_again_J118 μ K K42 v1 v2 v3 v4 v5 v6 v7) : G Λ μ (0, 0) 118 [some (.ref 49), some (.int v1), some (.int v2), some (.int v3), some (.int v4), some (.int v5), some (.int v6), some (.int v7)] [] := by
  unfold wX12_again_J118 at hw
  exact cl_iinc hG (v7 + 1) (hx_dq tdX12_again_1 31 rfl) rfl (congrArg (fun z => v7 + z) iconst_1) (Nat.le_of_ble_eq_true rfl) rfl (cl_goto hG 42 (hx_dq tdX12_again_2 0 rfl) rfl (cl_sub hG (hx_le_c rfl (hx_le_c rfl (hx_le_c rfl (hx_le_c rfl (hx_le_c rfl (hx_le_c rfl (hx_le_c rfl (hx_le_c rfl hx_le_0)))))))) (hk42 v3 v4 v5 v6 (v7 + 1) hw)))
def wX12_again_J114 (μ : hx_M) (K : Int32 → Prop) (K42 : Int32 → Int32 → Int32 → Int32 → Int32 → Prop) (v1 : Int32) (v2 : Int32) (v3 : Int32) (v4 : Int32) (v5 : Int32) (v7 : Int32)   : Prop := wX12_again_J118 μ K (K42) v1 v2 v3 v4 v5 v7 v7
set_option maxRecDepth 100000 in
set_option maxHeartbeats 4000000 in
theorem kX12_again_J114 {G : hx_GT} {KK : hx_KT} (hG : hx_K cX12_again 8 0 0 (some .int) TbX12 KK G) (cA : hx_CA RX12 cX12_again 3 0 0 G) {Λ : hx_L} (hF : mF Λ) {μ : hx_M} (v1 : Int32) (v2 : Int32) (v3 : Int32) (v4 : Int32) (v5 : Int32) (v7 : Int32)  {K : Int32 → Prop} (hK : ∀ (r : Int32), K r → KK (some (.int r)) Λ μ) {K42 : Int32 → Int32 → Int32 → Int32 → Int32 → Prop} (hk42 : ∀ (v3 : Int32) (v4 : Int32) (v5 : Int32) (v6 : Int32) (v7 : Int32), K42 v3 v4 v5 v6 v7 → G Λ μ (0, 0) 42 [some (.ref 49), some (.int v1), some (.int v2), some (.int v3), some (.int v4), some (.int v5), some (.int v6), some (.int v7)] []) (hw : wX12_again_J114 μ K K42 v1 v2 v3 v4 v5 v7) : G Λ μ (0, 0) 114 [some (.ref 49), some (.int v1), some (.int v2), some (.int v3), some (.int v4), some (.int v5), none, some (.int v7)] [] := by
  unfold wX12_again_J114 at hw
  refine cl_iload hG (hx_dq tdX12_again_1 29 rfl) rfl (cl_istore hG (hx_dq tdX12_again_1 30 rfl) (Nat.le_of_ble_eq_true rfl) rfl ?_)
  exact cl_sub hG (hx_le_c rfl (hx_le_c rfl (hx_le_c rfl (hx_le_c rfl (hx_le_c rfl (hx_le_c rfl (hx_le_c rfl (hx_le_c rfl hx_le_0)))))))) (kX12_again_J118 hG cA hF v1 v2 v3 v4 v5 v7 v7 hK (fun z0 z1 z2 z3 z4 hw => hk42 z0 z1 z2 z3 z4 hw) hw)
def wX12_again_J94 (μ : hx_M) (K : Int32 → Prop) (K42 : Int32 → Int32 → Int32 → Int32 → Int32 → Prop) (v1 : Int32) (v2 : Int32) (v3 : Int32) (v4 : Int32) (v5 : Int32) (v6 : Int32) (v7 : Int32)   : Prop := (v6 = (-1) → (wX12_again_J114 μ K (K42) v1 v2 v3 v4 v5 v7)) ∧ (¬ (v6 = (-1)) → (∀ x_8 : Int32, x_8 = (if v5 < ((v7 - v6) - 1) then ((v7 - v6) - 1) else v5) → wX12_again_J114 μ K (K42) v1 v2 v3 v4 x_8 v7))
set_option maxRecDepth 100000 in
set_option maxHeartbeats 4000000 in
theorem kX12_again_J94 {G : hx_GT} {KK : hx_KT} (hG : hx_K cX12_again 8 0 0 (some .int) TbX12 KK G) (cA : hx_CA RX12 cX12_again 3 0 0 G) {Λ : hx_L} (hF : mF Λ) {μ : hx_M} (v1 : Int32) (v2 : Int32) (v3 : Int32) (v4 : Int32) (v5 : Int32) (v6 : Int32) (v7 : Int32)  {K : Int32 → Prop} (hK : ∀ (r : Int32), K r → KK (some (.int r)) Λ μ) {K42 : Int32 → Int32 → Int32 → Int32 → Int32 → Prop} (hk42 : ∀ (v3 : Int32) (v4 : Int32) (v5 : Int32) (v6 : Int32) (v7 : Int32), K42 v3 v4 v5 v6 v7 → G Λ μ (0, 0) 42 [some (.ref 49), some (.int v1), some (.int v2), some (.int v3), some (.int v4), some (.int v5), some (.int v6), some (.int v7)] []) (hw : wX12_again_J94 μ K K42 v1 v2 v3 v4 v5 v6 v7) : G Λ μ (0, 0) 94 [some (.ref 49), some (.int v1), some (.int v2), some (.int v3), some (.int v4), some (.int v5), some (.int v6), some (.int v7)] [] := by
  unfold wX12_again_J94 at hw
  refine cl_iload hG (hx_dq tdX12_again_1 18 rfl) rfl (cl_iconst hG (-1) (hx_dq tdX12_again_1 19 rfl) iconst_m1 (cl_icmp_eq hG 114 (hx_dq tdX12_again_1 20 rfl) rfl (fun c97 => ?_) (fun c97 => ?_)))
  · replace hw := hw.1 c97
    exact cl_sub hG (hx_le_c rfl (hx_le_c rfl (hx_le_c rfl (hx_le_c rfl (hx_le_c rfl (hx_le_c rfl (hx_le_n (hx_le_c rfl hx_le_0)))))))) (kX12_again_J114 hG cA hF v1 v2 v3 v4 v5 v7 hK (fun z0 z1 z2 z3 z4 hw => hk42 z0 z1 z2 z3 z4 hw) hw)
  · replace hw := hw.2 c97
    refine cl_iload hG (hx_dq tdX12_again_1 21 rfl) rfl (cl_iload hG (hx_dq tdX12_again_1 22 rfl) rfl (cl_iload hG (hx_dq tdX12_again_1 23 rfl) rfl (cl_isub hG (hx_dq tdX12_again_1 24 rfl) (cl_iconst hG 1 (hx_dq tdX12_again_1 25 rfl) iconst_1 (cl_isub hG (hx_dq tdX12_again_1 26 rfl) (cl_mmax hG mmX12_320 (hx_dq tdX12_again_1 27 rfl) (Nat.le_refl _) (Nat.le_refl _) (Nat.le_of_ble_eq_true rfl) (cl_nmI (fun x_8 e_8 => ?_))))))))
    replace hw := hw x_8 e_8
    refine cl_istore hG (hx_dq tdX12_again_1 28 rfl) (Nat.le_of_ble_eq_true rfl) rfl ?_
    exact cl_sub hG (hx_le_c rfl (hx_le_c rfl (hx_le_c rfl (hx_le_c rfl (hx_le_c rfl (hx_le_c rfl (hx_le_n (hx_le_c rfl hx_le_0)))))))) (kX12_again_J114 hG cA hF v1 v2 v3 v4 x_8 v7 hK (fun z0 z1 z2 z3 z4 hw => hk42 z0 z1 z2 z3 z4 hw) hw)
def wX12_again_J91 (μ : hx_M) (K : Int32 → Prop) (K42 : Int32 → Int32 → Int32 → Int32 → Int32 → Prop) (v1 : Int32) (v2 : Int32) (v3 : Int32) (v4 : Int32) (v5 : Int32) (v6 : Int32) (v7 : Int32)   : Prop := wX12_again_J94 μ K (K42) v1 v2 v3 (v4 + 1) v5 v6 v7
set_option maxRecDepth 100000 in
set_option maxHeartbeats 4000000 in
theorem kX12_again_J91 {G : hx_GT} {KK : hx_KT} (hG : hx_K cX12_again 8 0 0 (some .int) TbX12 KK G) (cA : hx_CA RX12 cX12_again 3 0 0 G) {Λ : hx_L} (hF : mF Λ) {μ : hx_M} (v1 : Int32) (v2 : Int32) (v3 : Int32) (v4 : Int32) (v5 : Int32) (v6 : Int32) (v7 : Int32)  {K : Int32 → Prop} (hK : ∀ (r : Int32), K r → KK (some (.int r)) Λ μ) {K42 : Int32 → Int32 → Int32 → Int32 → Int32 → Prop} (hk42 : ∀ (v3 : Int32) (v4 : Int32) (v5 : Int32) (v6 : Int32) (v7 : Int32), K42 v3 v4 v5 v6 v7 → G Λ μ (0, 0) 42 [some (.ref 49), some (.int v1), some (.int v2), some (.int v3), some (.int v4), some (.int v5), some (.int v6), some (.int v7)] []) (hw : wX12_again_J91 μ K K42 v1 v2 v3 v4 v5 v6 v7) : G Λ μ (0, 0) 91 [some (.ref 49), some (.int v1), some (.int v2), some (.int v3), some (.int v4), some (.int v5), some (.int v6), some (.int v7)] [] := by
  unfold wX12_again_J91 at hw
  refine cl_iinc hG (v4 + 1) (hx_dq tdX12_again_1 17 rfl) rfl (congrArg (fun z => v4 + z) iconst_1) (Nat.le_of_ble_eq_true rfl) rfl ?_
  exact cl_sub hG (hx_le_c rfl (hx_le_c rfl (hx_le_c rfl (hx_le_c rfl (hx_le_c rfl (hx_le_c rfl (hx_le_c rfl (hx_le_c rfl hx_le_0)))))))) (kX12_again_J94 hG cA hF v1 v2 v3 (v4 + 1) v5 v6 v7 hK (fun z0 z1 z2 z3 z4 hw => hk42 z0 z1 z2 z3 z4 hw) hw)
def wX12_again_J118_11 (μ : hx_M) (K : Int32 → Prop) (K42 : Int32 → Int32 → Int32 → Int32 → Int32 → Prop) (v1 : Int32) (v2 : Int32) (v3 : Int32) (v4 : Int32) (v5 : Int32) (v6 : Int32) (v7 : Int32)   : Prop := K42 v3 v4 v5 v6 (v7 + 1)
set_option maxRecDepth 100000 in
set_option maxHeartbeats 4000000 in
theorem kX12_again_J118_11 {G : hx_GT} {KK : hx_KT} (hG : hx_K cX12_again 8 0 0 (some .int) TbX12 KK G) (cA : hx_CA RX12 cX12_again 3 0 0 G) {Λ : hx_L} (hF : mF Λ) {μ : hx_M} (v1 : Int32) (v2 : Int32) (v3 : Int32) (v4 : Int32) (v5 : Int32) (v6 : Int32) (v7 : Int32)  {K : Int32 → Prop} (hK : ∀ (r : Int32), K r → KK (some (.int r)) Λ μ) {K42 : Int32 → Int32 → Int32 → Int32 → Int32 → Prop} (hk42 : ∀ (v3 : Int32) (v4 : Int32) (v5 : Int32) (v6 : Int32) (v7 : Int32), K42 v3 v4 v5 v6 v7 → G Λ μ (0, 0) 42 [some (.ref 49), some (.int v1), some (.int v2), some (.int v3), some (.int v4), some (.int v5), some (.int v6), some (.int v7)] []) (hw : wX12_again_J118_11 μ K K42 v1 v2 v3 v4 v5 v6 v7) : G Λ μ (0, 0) 118 [some (.ref 49), some (.int v1), some (.int v2), some (.int v3), some (.int v4), some (.int v5), some (.int v6), some (.int v7)] [] := by
  unfold wX12_again_J118_11 at hw
  exact cl_iinc hG (v7 + 1) (hx_dq tdX12_again_1 31 rfl) rfl (congrArg (fun z => v7 + z) iconst_1) (Nat.le_of_ble_eq_true rfl) rfl (cl_goto hG 42 (hx_dq tdX12_again_2 0 rfl) rfl (cl_sub hG (hx_le_c rfl (hx_le_c rfl (hx_le_c rfl (hx_le_c rfl (hx_le_c rfl (hx_le_c rfl (hx_le_c rfl (hx_le_c rfl hx_le_0)))))))) (hk42 v3 v4 v5 v6 (v7 + 1) hw)))
def wX12_again_J114_10 (μ : hx_M) (K : Int32 → Prop) (K42 : Int32 → Int32 → Int32 → Int32 → Int32 → Prop) (v1 : Int32) (v2 : Int32) (v3 : Int32) (v4 : Int32) (v5 : Int32) (v7 : Int32)   : Prop := wX12_again_J118_11 μ K (K42) v1 v2 v3 v4 v5 v7 v7
set_option maxRecDepth 100000 in
set_option maxHeartbeats 4000000 in
theorem kX12_again_J114_10 {G : hx_GT} {KK : hx_KT} (hG : hx_K cX12_again 8 0 0 (some .int) TbX12 KK G) (cA : hx_CA RX12 cX12_again 3 0 0 G) {Λ : hx_L} (hF : mF Λ) {μ : hx_M} (v1 : Int32) (v2 : Int32) (v3 : Int32) (v4 : Int32) (v5 : Int32) (v7 : Int32)  {K : Int32 → Prop} (hK : ∀ (r : Int32), K r → KK (some (.int r)) Λ μ) {K42 : Int32 → Int32 → Int32 → Int32 → Int32 → Prop} (hk42 : ∀ (v3 : Int32) (v4 : Int32) (v5 : Int32) (v6 : Int32) (v7 : Int32), K42 v3 v4 v5 v6 v7 → G Λ μ (0, 0) 42 [some (.ref 49), some (.int v1), some (.int v2), some (.int v3), some (.int v4), some (.int v5), some (.int v6), some (.int v7)] []) (hw : wX12_again_J114_10 μ K K42 v1 v2 v3 v4 v5 v7) : G Λ μ (0, 0) 114 [some (.ref 49), some (.int v1), some (.int v2), some (.int v3), some (.int v4), some (.int v5), none, some (.int v7)] [] := by
  unfold wX12_again_J114_10 at hw
  refine cl_iload hG (hx_dq tdX12_again_1 29 rfl) rfl (cl_istore hG (hx_dq tdX12_again_1 30 rfl) (Nat.le_of_ble_eq_true rfl) rfl ?_)
  exact cl_sub hG (hx_le_c rfl (hx_le_c rfl (hx_le_c rfl (hx_le_c rfl (hx_le_c rfl (hx_le_c rfl (hx_le_c rfl (hx_le_c rfl hx_le_0)))))))) (kX12_again_J118_11 hG cA hF v1 v2 v3 v4 v5 v7 v7 hK (fun z0 z1 z2 z3 z4 hw => hk42 z0 z1 z2 z3 z4 hw) hw)
def wX12_again_J94_9 (μ : hx_M) (K : Int32 → Prop) (K42 : Int32 → Int32 → Int32 → Int32 → Int32 → Prop) (v1 : Int32) (v2 : Int32) (v3 : Int32) (v4 : Int32) (v5 : Int32) (v6 : Int32) (v7 : Int32)   : Prop := (v6 = (-1) → (wX12_again_J114_10 μ K (K42) v1 v2 v3 v4 v5 v7)) ∧ (¬ (v6 = (-1)) → (∀ x_12 : Int32, x_12 = (if v5 < ((v7 - v6) - 1) then ((v7 - v6) - 1) else v5) → wX12_again_J114_10 μ K (K42) v1 v2 v3 v4 x_12 v7))
set_option maxRecDepth 100000 in
set_option maxHeartbeats 4000000 in
theorem kX12_again_J94_9 {G : hx_GT} {KK : hx_KT} (hG : hx_K cX12_again 8 0 0 (some .int) TbX12 KK G) (cA : hx_CA RX12 cX12_again 3 0 0 G) {Λ : hx_L} (hF : mF Λ) {μ : hx_M} (v1 : Int32) (v2 : Int32) (v3 : Int32) (v4 : Int32) (v5 : Int32) (v6 : Int32) (v7 : Int32)  {K : Int32 → Prop} (hK : ∀ (r : Int32), K r → KK (some (.int r)) Λ μ) {K42 : Int32 → Int32 → Int32 → Int32 → Int32 → Prop} (hk42 : ∀ (v3 : Int32) (v4 : Int32) (v5 : Int32) (v6 : Int32) (v7 : Int32), K42 v3 v4 v5 v6 v7 → G Λ μ (0, 0) 42 [some (.ref 49), some (.int v1), some (.int v2), some (.int v3), some (.int v4), some (.int v5), some (.int v6), some (.int v7)] []) (hw : wX12_again_J94_9 μ K K42 v1 v2 v3 v4 v5 v6 v7) : G Λ μ (0, 0) 94 [some (.ref 49), some (.int v1), some (.int v2), some (.int v3), some (.int v4), some (.int v5), some (.int v6), some (.int v7)] [] := by
  unfold wX12_again_J94_9 at hw
  refine cl_iload hG (hx_dq tdX12_again_1 18 rfl) rfl (cl_iconst hG (-1) (hx_dq tdX12_again_1 19 rfl) iconst_m1 (cl_icmp_eq hG 114 (hx_dq tdX12_again_1 20 rfl) rfl (fun c97 => ?_) (fun c97 => ?_)))
  · replace hw := hw.1 c97
    exact cl_sub hG (hx_le_c rfl (hx_le_c rfl (hx_le_c rfl (hx_le_c rfl (hx_le_c rfl (hx_le_c rfl (hx_le_n (hx_le_c rfl hx_le_0)))))))) (kX12_again_J114_10 hG cA hF v1 v2 v3 v4 v5 v7 hK (fun z0 z1 z2 z3 z4 hw => hk42 z0 z1 z2 z3 z4 hw) hw)
  · replace hw := hw.2 c97
    refine cl_iload hG (hx_dq tdX12_again_1 21 rfl) rfl (cl_iload hG (hx_dq tdX12_again_1 22 rfl) rfl (cl_iload hG (hx_dq tdX12_again_1 23 rfl) rfl (cl_isub hG (hx_dq tdX12_again_1 24 rfl) (cl_iconst hG 1 (hx_dq tdX12_again_1 25 rfl) iconst_1 (cl_isub hG (hx_dq tdX12_again_1 26 rfl) (cl_mmax hG mmX12_320 (hx_dq tdX12_again_1 27 rfl) (Nat.le_refl _) (Nat.le_refl _) (Nat.le_of_ble_eq_true rfl) (cl_nmI (fun x_12 e_12 => ?_))))))))
    replace hw := hw x_12 e_12
    refine cl_istore hG (hx_dq tdX12_again_1 28 rfl) (Nat.le_of_ble_eq_true rfl) rfl ?_
    exact cl_sub hG (hx_le_c rfl (hx_le_c rfl (hx_le_c rfl (hx_le_c rfl (hx_le_c rfl (hx_le_c rfl (hx_le_n (hx_le_c rfl hx_le_0)))))))) (kX12_again_J114_10 hG cA hF v1 v2 v3 v4 x_12 v7 hK (fun z0 z1 z2 z3 z4 hw => hk42 z0 z1 z2 z3 z4 hw) hw)
def wX12_again_J118_13 (μ : hx_M) (K : Int32 → Prop) (K42 : Int32 → Int32 → Int32 → Int32 → Int32 → Prop) (v1 : Int32) (v2 : Int32) (v3 : Int32) (v4 : Int32) (v5 : Int32) (v6 : Int32) (v7 : Int32)   : Prop := K42 v3 v4 v5 v6 (v7 + 1)
set_option maxRecDepth 100000 in
set_option maxHeartbeats 4000000 in
theorem kX12_again_J118_13 {G : hx_GT} {KK : hx_KT} (hG : hx_K cX12_again 8 0 0 (some .int) TbX12 KK G) (cA : hx_CA RX12 cX12_again 3 0 0 G) {Λ : hx_L} (hF : mF Λ) {μ : hx_M} (v1 : Int32) (v2 : Int32) (v3 : Int32) (v4 : Int32) (v5 : Int32) (v6 : Int32) (v7 : Int32)  {K : Int32 → Prop} (hK : ∀ (r : Int32), K r → KK (some (.int r)) Λ μ) {K42 : Int32 → Int32 → Int32 → Int32 → Int32 → Prop} (hk42 : ∀ (v3 : Int32) (v4 : Int32) (v5 : Int32) (v6 : Int32) (v7 : Int32), K42 v3 v4 v5 v6 v7 → G Λ μ (0, 0) 42 [some (.ref 49), some (.int v1), some (.int v2), some (.int v3), some (.int v4), some (.int v5), some (.int v6), some (.int v7)] []) (hw : wX12_again_J118_13 μ K K42 v1 v2 v3 v4 v5 v6 v7) : G Λ μ (0, 0) 118 [some (.ref 49), some (.int v1), some (.int v2), some (.int v3), some (.int v4), some (.int v5), some (.int v6), some (.int v7)] [] := by
  unfold wX12_again_J118_13 at hw
  exact cl_iinc hG (v7 + 1) (hx_dq tdX12_again_1 31 rfl) rfl (congrArg (fun z => v7 + z) iconst_1) (Nat.le_of_ble_eq_true rfl) rfl (cl_goto hG 42 (hx_dq tdX12_again_2 0 rfl) rfl (cl_sub hG (hx_le_c rfl (hx_le_c rfl (hx_le_c rfl (hx_le_c rfl (hx_le_c rfl (hx_le_c rfl (hx_le_c rfl (hx_le_c rfl hx_le_0)))))))) (hk42 v3 v4 v5 v6 (v7 + 1) hw)))
def wX12_again_L42 (μ : hx_M) (v1 : Int32) (v2 : Int32) (K : Int32 → Prop) (K124 : Int32 → Int32 → Int32 → Prop) : Nat → Int32 → Int32 → Int32 → Int32 → Int32 → Prop
  | 0, _, _, _, _, _ => False
  | n + 1, v3, v4, v5, v6, v7 => ((μ.1 49 1) < v7 → (K124 v3 v4 v5)) ∧ (¬ ((μ.1 49 1) < v7) → (wX12_lineAt μ v7 (fun r54_6 => ∀ x_7 : Int32, x_7 = (if 0 ≤ (r54_6 - (100 * v1)) then (r54_6 - (100 * v1)) else 0 - (r54_6 - (100 * v1))) → (x_7 < 100 → ((v6 = (-1) → (wX12_again_J91 μ K (wX12_again_L42 μ v1 v2 K K124 n) v1 v2 (v3 + 1) v4 v5 v6 v7)) ∧ (¬ (v6 = (-1)) → (((v7 - 1) ≤ v6 → (wX12_again_J94_9 μ K (wX12_again_L42 μ v1 v2 K K124 n) v1 v2 (v3 + 1) v4 v5 v6 v7)) ∧ (¬ ((v7 - 1) ≤ v6) → (wX12_again_J91 μ K (wX12_again_L42 μ v1 v2 K K124 n) v1 v2 (v3 + 1) v4 v5 v6 v7)))))) ∧ (¬ (x_7 < 100) → (wX12_again_J118_13 μ K (wX12_again_L42 μ v1 v2 K K124 n) v1 v2 v3 v4 v5 v6 v7)))))
set_option maxRecDepth 100000 in
set_option maxHeartbeats 4000000 in
theorem kX12_again_L42 {G : hx_GT} {KK : hx_KT} (hG : hx_K cX12_again 8 0 0 (some .int) TbX12 KK G) (cA : hx_CA RX12 cX12_again 3 0 0 G) {Λ : hx_L} (hF : mF Λ) {μ : hx_M} (v1 : Int32) (v2 : Int32) {K : Int32 → Prop} (hK : ∀ (r : Int32), K r → KK (some (.int r)) Λ μ) {K124 : Int32 → Int32 → Int32 → Prop} (hk124 : ∀ (v3 : Int32) (v4 : Int32) (v5 : Int32), K124 v3 v4 v5 → G Λ μ (0, 0) 124 [none, none, some (.int v2), some (.int v3), some (.int v4), some (.int v5), none, none] []) : ∀ (n : Nat) (v3 : Int32) (v4 : Int32) (v5 : Int32) (v6 : Int32) (v7 : Int32), wX12_again_L42 μ v1 v2 K K124 n v3 v4 v5 v6 v7 → G Λ μ (0, 0) 42 [some (.ref 49), some (.int v1), some (.int v2), some (.int v3), some (.int v4), some (.int v5), some (.int v6), some (.int v7)] [] := by
  intro n
  induction n with
  | zero =>
    intro v3 v4 v5 v6 v7 hw
    exact False.elim (by simpa only [wX12_again_L42] using hw)
  | succ n ih =>
    intro v3 v4 v5 v6 v7 hw
    unfold wX12_again_L42 at hw
    refine cl_iload hG (hx_dq tdX12_again_0 25 rfl) rfl (cl_aload_n hG (hx_dq tdX12_again_0 26 rfl) rfl (cl_getI hG fmX12_161 (hx_dq tdX12_again_0 27 rfl) (mF_S49 hF) (cl_icmp_gt hG 124 (hx_dq tdX12_again_0 28 rfl) rfl (fun c48 => ?_) (fun c48 => ?_))))
    · replace hw := hw.1 c48
      exact cl_sub hG (hx_le_n (hx_le_n (hx_le_c rfl (hx_le_c rfl (hx_le_c rfl (hx_le_c rfl (hx_le_n (hx_le_n hx_le_0)))))))) (hk124 v3 v4 v5 hw)
    · replace hw := hw.2 c48
      refine cl_aload_n hG (hx_dq tdX12_again_0 29 rfl) rfl (cl_iload hG (hx_dq tdX12_again_0 30 rfl) rfl (cl_callV1 (caX12_again_365 cA) (hx_dq tdX12_again_0 31 rfl) (mF_S49 hF) (Nat.le_of_ble_eq_true rfl) (Nat.le_refl _) (Nat.le_refl _) (sX12_lineAt_mk hF hw (fun r54_6 hw => ?_))))
      refine cl_bipush hG 100 (hx_dq tdX12_again_1 0 rfl) bipush_100 (cl_iload_n hG (hx_dq tdX12_again_1 1 rfl) rfl (cl_imul hG (hx_dq tdX12_again_1 2 rfl) (cl_isub hG (hx_dq tdX12_again_1 3 rfl) (cl_mabs hG mmX12_337 (hx_dq tdX12_again_1 4 rfl) (Nat.le_refl _) (Nat.le_refl _) (Nat.le_of_ble_eq_true rfl) (cl_nmI (fun x_7 e_7 => ?_))))))
      replace hw := hw x_7 e_7
      refine cl_bipush hG 100 (hx_dq tdX12_again_1 5 rfl) bipush_100 (cl_icmp_lt hG 73 (hx_dq tdX12_again_1 6 rfl) rfl (fun c67 => ?_) (fun c67 => ?_))
      · replace hw := hw.1 c67
        refine cl_iinc hG (v3 + 1) (hx_dq tdX12_again_1 8 rfl) rfl (congrArg (fun z => v3 + z) iconst_1) (Nat.le_of_ble_eq_true rfl) rfl (cl_iload hG (hx_dq tdX12_again_1 9 rfl) rfl (cl_iconst hG (-1) (hx_dq tdX12_again_1 10 rfl) iconst_m1 (cl_icmp_eq hG 91 (hx_dq tdX12_again_1 11 rfl) rfl (fun c79 => ?_) (fun c79 => ?_))))
        · replace hw := hw.1 c79
          exact cl_sub hG (hx_le_c rfl (hx_le_c rfl (hx_le_c rfl (hx_le_c rfl (hx_le_c rfl (hx_le_c rfl (hx_le_c rfl (hx_le_c rfl hx_le_0)))))))) (kX12_again_J91 hG cA hF v1 v2 (v3 + 1) v4 v5 v6 v7 hK (fun z0 z1 z2 z3 z4 hw => ih z0 z1 z2 z3 z4 hw) hw)
        · replace hw := hw.2 c79
          refine cl_iload hG (hx_dq tdX12_again_1 12 rfl) rfl (cl_iload hG (hx_dq tdX12_again_1 13 rfl) rfl (cl_iconst hG 1 (hx_dq tdX12_again_1 14 rfl) iconst_1 (cl_isub hG (hx_dq tdX12_again_1 15 rfl) (cl_icmp_ge hG 94 (hx_dq tdX12_again_1 16 rfl) rfl (fun c88 => ?_) (fun c88 => ?_)))))
          · replace hw := hw.1 c88
            exact cl_sub hG (hx_le_c rfl (hx_le_c rfl (hx_le_c rfl (hx_le_c rfl (hx_le_c rfl (hx_le_c rfl (hx_le_c rfl (hx_le_c rfl hx_le_0)))))))) (kX12_again_J94_9 hG cA hF v1 v2 (v3 + 1) v4 v5 v6 v7 hK (fun z0 z1 z2 z3 z4 hw => ih z0 z1 z2 z3 z4 hw) hw)
          · replace hw := hw.2 c88
            exact cl_sub hG (hx_le_c rfl (hx_le_c rfl (hx_le_c rfl (hx_le_c rfl (hx_le_c rfl (hx_le_c rfl (hx_le_c rfl (hx_le_c rfl hx_le_0)))))))) (kX12_again_J91 hG cA hF v1 v2 (v3 + 1) v4 v5 v6 v7 hK (fun z0 z1 z2 z3 z4 hw => ih z0 z1 z2 z3 z4 hw) hw)
      · replace hw := hw.2 c67
        refine cl_goto hG 118 (hx_dq tdX12_again_1 7 rfl) rfl ?_
        exact cl_sub hG (hx_le_c rfl (hx_le_c rfl (hx_le_c rfl (hx_le_c rfl (hx_le_c rfl (hx_le_c rfl (hx_le_c rfl (hx_le_c rfl hx_le_0)))))))) (kX12_again_J118_13 hG cA hF v1 v2 v3 v4 v5 v6 v7 hK (fun z0 z1 z2 z3 z4 hw => ih z0 z1 z2 z3 z4 hw) hw)
def wX12_again (μ : hx_M) (v1 : Int32) (v2 : Int32) (K : Int32 → Prop) : Prop := wX12_isIn v1 0 60 (fun r4_2 => (r4_2 = 0 → (K (-1))) ∧ (¬ (r4_2 = 0) → (wX12_isIn v2 0 2 (fun r13_4 => (r13_4 = 0 → (K (-1))) ∧ (¬ (r13_4 = 0) → (((μ.1 49 0) ≠ 0 → (∃ n42_15, wX12_again_L42 μ v1 v2 K (fun v3_14 v4_14 v5_14 => (v2 ≠ 0 → ((v2 ≠ 1 → (K v5_14)) ∧ (v2 = 1 → (K v4_14)))) ∧ (v2 = 0 → (K v3_14))) n42_15 0 0 0 (-1) 0)) ∧ ((μ.1 49 0) = 0 → (K (-1)))))))))
set_option maxRecDepth 100000 in
set_option maxHeartbeats 4000000 in
theorem kX12_again {G : hx_GT} {KK : hx_KT} (hG : hx_K cX12_again 8 0 0 (some .int) TbX12 KK G) (cA : hx_CA RX12 cX12_again 3 0 0 G) {Λ : hx_L} (hF : mF Λ) {μ : hx_M} (v1 : Int32) (v2 : Int32) {K : Int32 → Prop} (hK : ∀ (r : Int32), K r → KK (some (.int r)) Λ μ) (hw : wX12_again μ v1 v2 K) : G Λ μ (0, 0) 0 [some (.ref 49), some (.int v1), some (.int v2), none, none, none, none, none] [] := by
  unfold wX12_again at hw
  refine cl_iload_n hG (hx_dq tdX12_again_0 0 rfl) rfl (cl_iconst hG 0 (hx_dq tdX12_again_0 1 rfl) iconst_0 (cl_bipush hG 60 (hx_dq tdX12_again_0 2 rfl) bipush_60 (cl_callS3 (caX12_again_157 cA) (hx_dq tdX12_again_0 3 rfl) (Nat.le_of_ble_eq_true rfl) (Nat.le_refl _) (Nat.le_refl _) (sX12_isIn_mk hw (fun r4_2 hw => ?_)))))
  refine cl_if_eq hG 26 (hx_dq tdX12_again_0 4 rfl) rfl (fun c7 => ?_) (fun c7 => ?_)
  · replace hw := hw.1 c7
    exact cl_iconst hG (-1) (hx_dq tdX12_again_0 13 rfl) iconst_m1 (cl_iret hG (hx_dq tdX12_again_0 14 rfl) rfl rfl (hK _ hw) (Nat.le_refl _) (Nat.le_refl _))
  · replace hw := hw.2 c7
    refine cl_iload_n hG (hx_dq tdX12_again_0 5 rfl) rfl (cl_iconst hG 0 (hx_dq tdX12_again_0 6 rfl) iconst_0 (cl_iconst hG 2 (hx_dq tdX12_again_0 7 rfl) iconst_2 (cl_callS3 (caX12_again_157 cA) (hx_dq tdX12_again_0 8 rfl) (Nat.le_of_ble_eq_true rfl) (Nat.le_refl _) (Nat.le_refl _) (sX12_isIn_mk hw (fun r13_4 hw => ?_)))))
    refine cl_if_eq hG 26 (hx_dq tdX12_again_0 9 rfl) rfl (fun c16 => ?_) (fun c16 => ?_)
    · replace hw := hw.1 c16
      exact cl_iconst hG (-1) (hx_dq tdX12_again_0 13 rfl) iconst_m1 (cl_iret hG (hx_dq tdX12_again_0 14 rfl) rfl rfl (hK _ hw) (Nat.le_refl _) (Nat.le_refl _))
    · replace hw := hw.2 c16
      refine cl_aload_n hG (hx_dq tdX12_again_0 10 rfl) rfl (cl_getI hG fmX12_154 (hx_dq tdX12_again_0 11 rfl) (mF_S49 hF) (cl_if_ne hG 28 (hx_dq tdX12_again_0 12 rfl) rfl (fun c23 => ?_) (fun c23 => ?_)))
      · replace hw := hw.1 c23
        refine cl_iconst hG 0 (hx_dq tdX12_again_0 15 rfl) iconst_0 (cl_istore_n hG (hx_dq tdX12_again_0 16 rfl) (Nat.le_of_ble_eq_true rfl) rfl (cl_iconst hG 0 (hx_dq tdX12_again_0 17 rfl) iconst_0 (cl_istore hG (hx_dq tdX12_again_0 18 rfl) (Nat.le_of_ble_eq_true rfl) rfl (cl_iconst hG 0 (hx_dq tdX12_again_0 19 rfl) iconst_0 (cl_istore hG (hx_dq tdX12_again_0 20 rfl) (Nat.le_of_ble_eq_true rfl) rfl (cl_iconst hG (-1) (hx_dq tdX12_again_0 21 rfl) iconst_m1 (cl_istore hG (hx_dq tdX12_again_0 22 rfl) (Nat.le_of_ble_eq_true rfl) rfl (cl_iconst hG 0 (hx_dq tdX12_again_0 23 rfl) iconst_0 (cl_istore hG (hx_dq tdX12_again_0 24 rfl) (Nat.le_of_ble_eq_true rfl) rfl ?_)))))))))
        obtain ⟨n_, hw⟩ := hw
        refine cl_sub hG (hx_le_c rfl (hx_le_c rfl (hx_le_c rfl (hx_le_c rfl (hx_le_c rfl (hx_le_c rfl (hx_le_c rfl (hx_le_c rfl hx_le_0)))))))) (kX12_again_L42 hG cA hF v1 v2 hK (fun v3_14 v4_14 v5_14 hw => ?_) n_ 0 0 0 (-1) 0 hw)
        · refine cl_iload_n hG (hx_dq tdX12_again_2 1 rfl) rfl (cl_if_ne hG 132 (hx_dq tdX12_again_2 2 rfl) rfl (fun c125 => ?_) (fun c125 => ?_))
          · replace hw := hw.1 c125
            refine cl_iload_n hG (hx_dq tdX12_again_2 5 rfl) rfl (cl_iconst hG 1 (hx_dq tdX12_again_2 6 rfl) iconst_1 (cl_icmp_ne hG 142 (hx_dq tdX12_again_2 7 rfl) rfl (fun c134 => ?_) (fun c134 => ?_)))
            · replace hw := hw.1 c134
              exact cl_iload hG (hx_dq tdX12_again_2 10 rfl) rfl (cl_iret hG (hx_dq tdX12_again_2 11 rfl) rfl rfl (hK _ hw) (Nat.le_refl _) (Nat.le_refl _))
            · replace hw := hw.2 c134
              exact cl_iload hG (hx_dq tdX12_again_2 8 rfl) rfl (cl_goto hG 144 (hx_dq tdX12_again_2 9 rfl) rfl (cl_iret hG (hx_dq tdX12_again_2 11 rfl) rfl rfl (hK _ hw) (Nat.le_refl _) (Nat.le_refl _)))
          · replace hw := hw.2 c125
            exact cl_iload_n hG (hx_dq tdX12_again_2 3 rfl) rfl (cl_goto hG 144 (hx_dq tdX12_again_2 4 rfl) rfl (cl_iret hG (hx_dq tdX12_again_2 11 rfl) rfl rfl (hK _ hw) (Nat.le_refl _) (Nat.le_refl _)))
      · replace hw := hw.2 c23
        exact cl_iconst hG (-1) (hx_dq tdX12_again_0 13 rfl) iconst_m1 (cl_iret hG (hx_dq tdX12_again_0 14 rfl) rfl rfl (hK _ hw) (Nat.le_refl _) (Nat.le_refl _))
def sX12_again : hx_ST := fun Λ μ as KK => mF Λ ∧ ∃ (v1 : Int32) (v2 : Int32) (K : Int32 → Prop), as = [.ref 49, .int v1, .int v2] ∧ wX12_again μ v1 v2 K ∧ (∀ (r : Int32), K r → KK (some (.int r)) Λ μ)
theorem sX12_again_mk {Λ : hx_L} {μ : hx_M} {KK : hx_KT} {v1 : Int32} {v2 : Int32} {K : Int32 → Prop} (hF : mF Λ) (hw : wX12_again μ v1 v2 K) (hk : ∀ (r : Int32), K r → KK (some (.int r)) Λ μ) : sX12_again Λ μ [.ref 49, .int v1, .int v2] KK := ⟨hF, _, _, _, rfl, hw, hk⟩
theorem conX12_again : hx_Con yX12_again cX12_again 8 (some .int) 3 0 0 sX12_again := by
  refine hx_con_of (by decide +kernel) tokX12 (by decide) ?_ ?_
  · intro Λ μ as KK h
    obtain ⟨hF, v1, v2, K, rfl, hw, hK⟩ := h
    exact Nat.le_of_ble_eq_true rfl
  · intro G KK hG cA Λ μ as h
    obtain ⟨hF, v1, v2, K, rfl, hw, hK⟩ := h
    exact cl_sub hG (hx_le_c rfl (hx_le_c rfl (hx_le_c rfl (hx_le_n (hx_le_n (hx_le_n (hx_le_n (hx_le_n hx_le_0)))))))) (kX12_again hG cA hF _ _ hK hw)
/-! HemLineModel.foretell(I)I -/
def tbX12_foretell_0 : List (Nat × Instr × Nat) := [(0, .iload_n 1, 1), (1, .iconst 1, 1), (2, .bipush 50, 2), (4, .invokestatic 157, 3), (7, .ifCond .eq 19, 3), (10, .aload_n 0, 1), (11, .getfield 434, 3), (14, .bipush 20, 2), (16, .if_icmp .eq 10, 3), (19, .aload_n 0, 1), (20, .invokevirtual 389, 3), (23, .ifCond .ne 5, 3), (26, .iconst (-1), 1), (27, .ireturn, 1), (28, .aload_n 0, 1), (29, .getfield 135, 3), (32, .aload_n 0, 1), (33, .getfield 434, 3), (36, .aload_n 0, 1), (37, .aload_n 0, 1), (38, .getfield 161, 3), (41, .invokevirtual 365, 3), (44, .iastore, 1), (45, .aload_n 0, 1), (46, .getfield 132, 3), (49, .aload_n 0, 1), (50, .getfield 434, 3), (53, .aload_n 0, 1), (54, .getfield 161, 3), (57, .iload_n 1, 1), (58, .iadd, 1), (59, .iastore, 1)]
def tbX12_foretell_1 : List (Nat × Instr × Nat) := [(60, .aload_n 0, 1), (61, .invokevirtual 374, 3), (64, .iconst 0, 1), (65, .istore_n 2, 1), (66, .iload_n 2, 1), (67, .iload_n 1, 1), (68, .if_icmp .ge 13, 3), (71, .aload_n 0, 1), (72, .invokevirtual 359, 3), (75, .iinc 2 1, 3), (78, .goto (-12), 3), (81, .aload_n 0, 1), (82, .getfield 129, 3), (85, .aload_n 0, 1), (86, .getfield 434, 3), (89, .aload_n 0, 1), (90, .aload_n 0, 1), (91, .getfield 161, 3), (94, .invokevirtual 365, 3), (97, .iastore, 1), (98, .aload_n 0, 1), (99, .invokevirtual 386, 3), (102, .aload_n 0, 1), (103, .dup, 1), (104, .getfield 434, 3), (107, .iconst 1, 1), (108, .iadd, 1), (109, .putfield 434, 3), (112, .aload_n 0, 1), (113, .getfield 434, 3), (116, .iconst 1, 1), (117, .isub, 1)]
def tbX12_foretell_2 : List (Nat × Instr × Nat) := [(118, .ireturn, 1)]
theorem tdX12_foretell_0 : hx_dt cX12_foretell tbX12_foretell_0 = true := by decide +kernel
theorem tdX12_foretell_1 : hx_dt cX12_foretell tbX12_foretell_1 = true := by decide +kernel
theorem tdX12_foretell_2 : hx_dt cX12_foretell tbX12_foretell_2 = true := by decide +kernel
theorem caX12_foretell_157 {G : hx_GT} (cA : hx_CA RX12 cX12_foretell 7 0 0 G) : hx_CS cX12_foretell G 0 0 157 3 sX12_isIn 0 0 := cA.2.1 conX12_isIn ⟨by decide +kernel, by decide +kernel, by decide +kernel⟩ mw_1343 mw_1344 mw_97 mw_1345 (by decide) (by decide)
theorem caX12_foretell_359 {G : hx_GT} (cA : hx_CA RX12 cX12_foretell 7 0 0 G) : hx_CV cX12_foretell G 0 0 359 12 0 sX12_step 0 0 := cA.1 conX12_step rfl rfl ⟨by decide +kernel, by decide +kernel, by decide +kernel⟩ mw_1470 mw_1472 mw_51 mw_97 mw_1473 (by decide) (by decide)
theorem caX12_foretell_365 {G : hx_GT} (cA : hx_CA RX12 cX12_foretell 7 0 0 G) : hx_CV cX12_foretell G 0 0 365 12 1 sX12_lineAt 0 0 := cA.1 conX12_lineAt rfl rfl ⟨by decide +kernel, by decide +kernel, by decide +kernel⟩ mw_1535 mw_1537 mw_64 mw_97 mw_1538 (by decide) (by decide)
theorem caX12_foretell_374 {G : hx_GT} (cA : hx_CA RX12 cX12_foretell 7 0 0 G) : hx_CV cX12_foretell G 0 0 374 12 0 sX12_keeps 0 0 := cA.1 conX12_keeps rfl rfl ⟨by decide +kernel, by decide +kernel, by decide +kernel⟩ mw_1563 mw_1565 mw_68 mw_97 mw_1566 (by decide) (by decide)
theorem caX12_foretell_386 {G : hx_GT} (cA : hx_CA RX12 cX12_foretell 7 0 0 G) : hx_CV cX12_foretell G 0 0 386 12 0 sX12_takesBack 0 0 := cA.1 conX12_takesBack rfl rfl ⟨by decide +kernel, by decide +kernel, by decide +kernel⟩ mw_1571 mw_1573 mw_70 mw_97 mw_1574 (by decide) (by decide)
theorem caX12_foretell_389 {G : hx_GT} (cA : hx_CA RX12 cX12_foretell 7 0 0 G) : hx_CV cX12_foretell G 0 0 389 12 0 sX12_mayTry 0 0 := cA.1 conX12_mayTry rfl rfl ⟨by decide +kernel, by decide +kernel, by decide +kernel⟩ mw_1555 mw_1557 mw_66 mw_97 mw_1558 (by decide) (by decide)
def wX12_foretell_L66 (v1 : Int32) (K : Int32 → hx_M → Prop) (K81 : hx_M → Prop) : Nat → Int32 → hx_M → Prop
  | 0, _, _ => False
  | n + 1, v2, μ => (v1 ≤ v2 → (K81 μ)) ∧ (¬ (v1 ≤ v2) → (wX12_step μ (fun m72_11 => wX12_foretell_L66 v1 K K81 n (v2 + 1) m72_11)))
set_option maxRecDepth 100000 in
set_option maxHeartbeats 4000000 in
theorem kX12_foretell_L66 {G : hx_GT} {KK : hx_KT} (hG : hx_K cX12_foretell 3 0 0 (some .int) TbX12 KK G) (cA : hx_CA RX12 cX12_foretell 7 0 0 G) {Λ : hx_L} (hF : mF Λ)  (v1 : Int32) {K : Int32 → hx_M → Prop} (hK : ∀ (r : Int32) (m : hx_M), K r m → KK (some (.int r)) Λ m) {K81 : hx_M → Prop} (hk81 : ∀ (μ : hx_M), K81 μ → G Λ μ (0, 0) 81 [some (.ref 49), none, none] []) : ∀ (n : Nat) (v2 : Int32) (μ : hx_M), wX12_foretell_L66 v1 K K81 n v2 μ → G Λ μ (0, 0) 66 [some (.ref 49), some (.int v1), some (.int v2)] [] := by
  intro n
  induction n with
  | zero =>
    intro v2 μ hw
    exact False.elim (by simpa only [wX12_foretell_L66] using hw)
  | succ n ih =>
    intro v2 μ hw
    unfold wX12_foretell_L66 at hw
    refine cl_iload_n hG (hx_dq tdX12_foretell_1 4 rfl) rfl (cl_iload_n hG (hx_dq tdX12_foretell_1 5 rfl) rfl (cl_icmp_ge hG 81 (hx_dq tdX12_foretell_1 6 rfl) rfl (fun c68 => ?_) (fun c68 => ?_)))
    · replace hw := hw.1 c68
      exact cl_sub hG (hx_le_c rfl (hx_le_n (hx_le_n hx_le_0))) (hk81 _ hw)
    · replace hw := hw.2 c68
      refine cl_aload_n hG (hx_dq tdX12_foretell_1 7 rfl) rfl (cl_callV0 (caX12_foretell_359 cA) (hx_dq tdX12_foretell_1 8 rfl) (mF_S49 hF) (Nat.le_of_ble_eq_true rfl) (Nat.le_refl _) (Nat.le_refl _) (sX12_step_mk hF hw (fun m72_11 hw => ?_)))
      exact cl_iinc hG (v2 + 1) (hx_dq tdX12_foretell_1 9 rfl) rfl (congrArg (fun z => v2 + z) iconst_1) (Nat.le_of_ble_eq_true rfl) rfl (cl_goto hG 66 (hx_dq tdX12_foretell_1 10 rfl) rfl (cl_sub hG (hx_le_c rfl (hx_le_c rfl (hx_le_c rfl hx_le_0))) (ih (v2 + 1) _ hw)))
def wX12_foretell (μ : hx_M) (v1 : Int32) (K : Int32 → hx_M → Prop) : Prop := wX12_isIn v1 1 50 (fun r4_2 => (r4_2 = 0 → (K (-1) μ)) ∧ (¬ (r4_2 = 0) → (((μ.1 49 59) = 20 → (K (-1) μ)) ∧ (¬ ((μ.1 49 59) = 20) → (wX12_mayTry μ (fun r20_4 => (r20_4 ≠ 0 → (wX12_lineAt μ (μ.1 49 1) (fun r41_6 => vp_in (μ.1 49 59) 20 ∧ vp_in (μ.1 49 59) 20 ∧ wX12_keeps (hx_sI (hx_sI μ 87 ((μ.1 49 59).toNatClampNeg) r41_6) 86 ((μ.1 49 59).toNatClampNeg) ((μ.1 49 1) + v1)) (fun m61_9 => ∃ n66_19, wX12_foretell_L66 v1 K (fun m_13 => wX12_lineAt m_13 (m_13.1 49 1) (fun r94_15 => vp_in (m_13.1 49 59) 20 ∧ wX12_takesBack (hx_sI m_13 85 ((m_13.1 49 59).toNatClampNeg) r94_15) (fun m99_17 => K (((m99_17.1 49 59) + 1) - 1) (hx_sI m99_17 49 59 ((m99_17.1 49 59) + 1))))) n66_19 0 m61_9)))) ∧ (r20_4 = 0 → (K (-1) μ))))))))
set_option maxRecDepth 100000 in
set_option maxHeartbeats 4000000 in
theorem kX12_foretell {G : hx_GT} {KK : hx_KT} (hG : hx_K cX12_foretell 3 0 0 (some .int) TbX12 KK G) (cA : hx_CA RX12 cX12_foretell 7 0 0 G) {Λ : hx_L} (hF : mF Λ) {μ : hx_M} (v1 : Int32) {K : Int32 → hx_M → Prop} (hK : ∀ (r : Int32) (m : hx_M), K r m → KK (some (.int r)) Λ m) (hw : wX12_foretell μ v1 K) : G Λ μ (0, 0) 0 [some (.ref 49), some (.int v1), none] [] := by
  unfold wX12_foretell at hw
  refine cl_iload_n hG (hx_dq tdX12_foretell_0 0 rfl) rfl (cl_iconst hG 1 (hx_dq tdX12_foretell_0 1 rfl) iconst_1 (cl_bipush hG 50 (hx_dq tdX12_foretell_0 2 rfl) bipush_50 (cl_callS3 (caX12_foretell_157 cA) (hx_dq tdX12_foretell_0 3 rfl) (Nat.le_of_ble_eq_true rfl) (Nat.le_refl _) (Nat.le_refl _) (sX12_isIn_mk hw (fun r4_2 hw => ?_)))))
  refine cl_if_eq hG 26 (hx_dq tdX12_foretell_0 4 rfl) rfl (fun c7 => ?_) (fun c7 => ?_)
  · replace hw := hw.1 c7
    exact cl_iconst hG (-1) (hx_dq tdX12_foretell_0 12 rfl) iconst_m1 (cl_iret hG (hx_dq tdX12_foretell_0 13 rfl) rfl rfl (hK _ _ hw) (Nat.le_refl _) (Nat.le_refl _))
  · replace hw := hw.2 c7
    refine cl_aload_n hG (hx_dq tdX12_foretell_0 5 rfl) rfl (cl_getI hG fmX12_434 (hx_dq tdX12_foretell_0 6 rfl) (mF_S49 hF) (cl_bipush hG 20 (hx_dq tdX12_foretell_0 7 rfl) bipush_20 (cl_icmp_eq hG 26 (hx_dq tdX12_foretell_0 8 rfl) rfl (fun c16 => ?_) (fun c16 => ?_))))
    · replace hw := hw.1 c16
      exact cl_iconst hG (-1) (hx_dq tdX12_foretell_0 12 rfl) iconst_m1 (cl_iret hG (hx_dq tdX12_foretell_0 13 rfl) rfl rfl (hK _ _ hw) (Nat.le_refl _) (Nat.le_refl _))
    · replace hw := hw.2 c16
      refine cl_aload_n hG (hx_dq tdX12_foretell_0 9 rfl) rfl (cl_callV0 (caX12_foretell_389 cA) (hx_dq tdX12_foretell_0 10 rfl) (mF_S49 hF) (Nat.le_of_ble_eq_true rfl) (Nat.le_refl _) (Nat.le_refl _) (sX12_mayTry_mk hF hw (fun r20_4 hw => ?_)))
      refine cl_if_ne hG 28 (hx_dq tdX12_foretell_0 11 rfl) rfl (fun c23 => ?_) (fun c23 => ?_)
      · replace hw := hw.1 c23
        refine cl_aload_n hG (hx_dq tdX12_foretell_0 14 rfl) rfl (cl_getS hG fmX12_135 (hx_dq tdX12_foretell_0 15 rfl) (mF_S49 hF) (mF_R49_62 hF) (cl_aload_n hG (hx_dq tdX12_foretell_0 16 rfl) rfl (cl_getI hG fmX12_434 (hx_dq tdX12_foretell_0 17 rfl) (mF_S49 hF) (cl_aload_n hG (hx_dq tdX12_foretell_0 18 rfl) rfl (cl_aload_n hG (hx_dq tdX12_foretell_0 19 rfl) rfl (cl_getI hG fmX12_161 (hx_dq tdX12_foretell_0 20 rfl) (mF_S49 hF) (cl_callV1 (caX12_foretell_365 cA) (hx_dq tdX12_foretell_0 21 rfl) (mF_S49 hF) (Nat.le_of_ble_eq_true rfl) (Nat.le_refl _) (Nat.le_refl _) (sX12_lineAt_mk hF hw (fun r41_6 hw => ?_)))))))))
        obtain ⟨i44_7, hw⟩ := hw
        obtain ⟨i59_8, hw⟩ := hw
        refine cl_iast hG (hx_dq tdX12_foretell_0 22 rfl) (mF_S87 hF) i44_7 (cl_aload_n hG (hx_dq tdX12_foretell_0 23 rfl) rfl (cl_getS hG fmX12_132 (hx_dq tdX12_foretell_0 24 rfl) (mF_S49 hF) (mF_R49_61 hF) (cl_aload_n hG (hx_dq tdX12_foretell_0 25 rfl) rfl (cl_getI hG fmX12_434 (hx_dq tdX12_foretell_0 26 rfl) (mF_S49 hF) (cl_aload_n hG (hx_dq tdX12_foretell_0 27 rfl) rfl (cl_getI hG fmX12_161 (hx_dq tdX12_foretell_0 28 rfl) (mF_S49 hF) (cl_iload_n hG (hx_dq tdX12_foretell_0 29 rfl) rfl (cl_iadd hG (hx_dq tdX12_foretell_0 30 rfl) (cl_iast hG (hx_dq tdX12_foretell_0 31 rfl) (mF_S86 hF) i59_8 (cl_aload_n hG (hx_dq tdX12_foretell_1 0 rfl) rfl (cl_callV0 (caX12_foretell_374 cA) (hx_dq tdX12_foretell_1 1 rfl) (mF_S49 hF) (Nat.le_of_ble_eq_true rfl) (Nat.le_refl _) (Nat.le_refl _) (sX12_keeps_mk hF hw (fun m61_9 hw => ?_)))))))))))))
        refine cl_iconst hG 0 (hx_dq tdX12_foretell_1 2 rfl) iconst_0 (cl_istore_n hG (hx_dq tdX12_foretell_1 3 rfl) (Nat.le_of_ble_eq_true rfl) rfl ?_)
        obtain ⟨n_, hw⟩ := hw
        refine cl_sub hG (hx_le_c rfl (hx_le_c rfl (hx_le_c rfl hx_le_0))) (kX12_foretell_L66 hG cA hF v1 hK (fun m_13 hw => ?_) n_ 0 _ hw)
        · refine cl_aload_n hG (hx_dq tdX12_foretell_1 11 rfl) rfl (cl_getS hG fmX12_129 (hx_dq tdX12_foretell_1 12 rfl) (mF_S49 hF) (mF_R49_60 hF) (cl_aload_n hG (hx_dq tdX12_foretell_1 13 rfl) rfl (cl_getI hG fmX12_434 (hx_dq tdX12_foretell_1 14 rfl) (mF_S49 hF) (cl_aload_n hG (hx_dq tdX12_foretell_1 15 rfl) rfl (cl_aload_n hG (hx_dq tdX12_foretell_1 16 rfl) rfl (cl_getI hG fmX12_161 (hx_dq tdX12_foretell_1 17 rfl) (mF_S49 hF) (cl_callV1 (caX12_foretell_365 cA) (hx_dq tdX12_foretell_1 18 rfl) (mF_S49 hF) (Nat.le_of_ble_eq_true rfl) (Nat.le_refl _) (Nat.le_refl _) (sX12_lineAt_mk hF hw (fun r94_15 hw => ?_)))))))))
          obtain ⟨i97_16, hw⟩ := hw
          refine cl_iast hG (hx_dq tdX12_foretell_1 19 rfl) (mF_S85 hF) i97_16 (cl_aload_n hG (hx_dq tdX12_foretell_1 20 rfl) rfl (cl_callV0 (caX12_foretell_386 cA) (hx_dq tdX12_foretell_1 21 rfl) (mF_S49 hF) (Nat.le_of_ble_eq_true rfl) (Nat.le_refl _) (Nat.le_refl _) (sX12_takesBack_mk hF hw (fun m99_17 hw => ?_))))
          exact cl_aload_n hG (hx_dq tdX12_foretell_1 22 rfl) rfl (cl_dup hG (hx_dq tdX12_foretell_1 23 rfl) rfl (cl_getI hG fmX12_434 (hx_dq tdX12_foretell_1 24 rfl) (mF_S49 hF) (cl_iconst hG 1 (hx_dq tdX12_foretell_1 25 rfl) iconst_1 (cl_iadd hG (hx_dq tdX12_foretell_1 26 rfl) (cl_putI hG fmX12_434 (hx_dq tdX12_foretell_1 27 rfl) (mF_S49 hF) (cl_aload_n hG (hx_dq tdX12_foretell_1 28 rfl) rfl (cl_getI hG fmX12_434 (hx_dq tdX12_foretell_1 29 rfl) (mF_S49 hF) (cl_iconst hG 1 (hx_dq tdX12_foretell_1 30 rfl) iconst_1 (cl_isub hG (hx_dq tdX12_foretell_1 31 rfl) (cl_iret hG (hx_dq tdX12_foretell_2 0 rfl) rfl rfl (hK _ _ hw) (Nat.le_refl _) (Nat.le_refl _)))))))))))
      · replace hw := hw.2 c23
        exact cl_iconst hG (-1) (hx_dq tdX12_foretell_0 12 rfl) iconst_m1 (cl_iret hG (hx_dq tdX12_foretell_0 13 rfl) rfl rfl (hK _ _ hw) (Nat.le_refl _) (Nat.le_refl _))
def sX12_foretell : hx_ST := fun Λ μ as KK => mF Λ ∧ ∃ (v1 : Int32) (K : Int32 → hx_M → Prop), as = [.ref 49, .int v1] ∧ wX12_foretell μ v1 K ∧ (∀ (r : Int32) (m : hx_M), K r m → KK (some (.int r)) Λ m)
theorem sX12_foretell_mk {Λ : hx_L} {μ : hx_M} {KK : hx_KT} {v1 : Int32} {K : Int32 → hx_M → Prop} (hF : mF Λ) (hw : wX12_foretell μ v1 K) (hk : ∀ (r : Int32) (m : hx_M), K r m → KK (some (.int r)) Λ m) : sX12_foretell Λ μ [.ref 49, .int v1] KK := ⟨hF, _, _, rfl, hw, hk⟩
theorem conX12_foretell : hx_Con yX12_foretell cX12_foretell 3 (some .int) 7 0 0 sX12_foretell := by
  refine hx_con_of (by decide +kernel) tokX12 (by decide) ?_ ?_
  · intro Λ μ as KK h
    obtain ⟨hF, v1, K, rfl, hw, hK⟩ := h
    exact Nat.le_of_ble_eq_true rfl
  · intro G KK hG cA Λ μ as h
    obtain ⟨hF, v1, K, rfl, hw, hK⟩ := h
    exact cl_sub hG (hx_le_c rfl (hx_le_c rfl (hx_le_n hx_le_0))) (kX12_foretell hG cA hF _ hK hw)
/-! HemLineModel.held(II)I -/
def tbX12_held_0 : List (Nat × Instr × Nat) := [(0, .iload_n 1, 1), (1, .iconst 0, 1), (2, .aload_n 0, 1), (3, .getfield 434, 3), (6, .iconst 1, 1), (7, .isub, 1), (8, .invokestatic 157, 3), (11, .ifCond .eq 12, 3), (14, .iload_n 2, 1), (15, .iconst 0, 1), (16, .iconst 3, 1), (17, .invokestatic 157, 3), (20, .ifCond .ne 6, 3), (23, .bipush (-2), 2), (25, .ireturn, 1), (26, .iload_n 2, 1), (27, .iconst 2, 1), (28, .if_icmp .ge 23, 3), (31, .iload_n 2, 1), (32, .ifCond .ne 12, 3), (35, .aload_n 0, 1), (36, .getfield 129, 3), (39, .iload_n 1, 1), (40, .iaload, 1), (41, .goto 9, 3), (44, .aload_n 0, 1), (45, .getfield 132, 3), (48, .iload_n 1, 1), (49, .iaload, 1), (50, .ireturn, 1), (51, .aload_n 0, 1), (52, .getfield 132, 3)]
def tbX12_held_1 : List (Nat × Instr × Nat) := [(55, .iload_n 1, 1), (56, .iaload, 1), (57, .aload_n 0, 1), (58, .getfield 161, 3), (61, .if_icmp .le 5, 3), (64, .iconst (-1), 1), (65, .ireturn, 1), (66, .aload_n 0, 1), (67, .aload_n 0, 1), (68, .getfield 132, 3), (71, .iload_n 1, 1), (72, .iaload, 1), (73, .invokevirtual 365, 3), (76, .iload_n 2, 1), (77, .iconst 2, 1), (78, .if_icmp .ne 12, 3), (81, .aload_n 0, 1), (82, .getfield 129, 3), (85, .iload_n 1, 1), (86, .iaload, 1), (87, .goto 9, 3), (90, .aload_n 0, 1), (91, .getfield 135, 3), (94, .iload_n 1, 1), (95, .iaload, 1), (96, .isub, 1), (97, .invokestatic 337, 3), (100, .ireturn, 1)]
theorem tdX12_held_0 : hx_dt cX12_held tbX12_held_0 = true := by decide +kernel
theorem tdX12_held_1 : hx_dt cX12_held tbX12_held_1 = true := by decide +kernel
theorem caX12_held_157 {G : hx_GT} (cA : hx_CA RX12 cX12_held 3 0 0 G) : hx_CS cX12_held G 0 0 157 3 sX12_isIn 0 0 := cA.2.1 conX12_isIn ⟨by decide +kernel, by decide +kernel, by decide +kernel⟩ mw_1343 mw_1344 mw_97 mw_1345 (by decide) (by decide)
theorem caX12_held_365 {G : hx_GT} (cA : hx_CA RX12 cX12_held 3 0 0 G) : hx_CV cX12_held G 0 0 365 12 1 sX12_lineAt 0 0 := cA.1 conX12_lineAt rfl rfl ⟨by decide +kernel, by decide +kernel, by decide +kernel⟩ mw_1535 mw_1537 mw_64 mw_97 mw_1538 (by decide) (by decide)
def wX12_held_J96 (μ : hx_M) (K : Int32 → Prop)   (t0 : Int32) (t1 : Int32)  : Prop := ∀ x_10 : Int32, x_10 = (if 0 ≤ (t0 - t1) then (t0 - t1) else 0 - (t0 - t1)) → K x_10
set_option maxRecDepth 100000 in
set_option maxHeartbeats 4000000 in
theorem kX12_held_J96 {G : hx_GT} {KK : hx_KT} (hG : hx_K cX12_held 3 0 0 (some .int) TbX12 KK G) (cA : hx_CA RX12 cX12_held 3 0 0 G) {Λ : hx_L} (hF : mF Λ) {μ : hx_M}  (t0 : Int32) (t1 : Int32) {K : Int32 → Prop} (hK : ∀ (r : Int32), K r → KK (some (.int r)) Λ μ)  (hw : wX12_held_J96 μ K t0 t1) : G Λ μ (0, 0) 96 [none, none, none] [.int t1, .int t0] := by
  unfold wX12_held_J96 at hw
  refine cl_isub hG (hx_dq tdX12_held_1 25 rfl) (cl_mabs hG mmX12_337 (hx_dq tdX12_held_1 26 rfl) (Nat.le_refl _) (Nat.le_refl _) (Nat.le_of_ble_eq_true rfl) (cl_nmI (fun x_10 e_10 => ?_)))
  replace hw := hw x_10 e_10
  exact cl_iret hG (hx_dq tdX12_held_1 27 rfl) rfl rfl (hK _ hw) (Nat.le_refl _) (Nat.le_refl _)
def wX12_held (μ : hx_M) (v1 : Int32) (v2 : Int32) (K : Int32 → Prop) : Prop := wX12_isIn v1 0 ((μ.1 49 59) - 1) (fun r8_2 => (r8_2 = 0 → (K (-2))) ∧ (¬ (r8_2 = 0) → (wX12_isIn v2 0 3 (fun r17_4 => (r17_4 ≠ 0 → ((2 ≤ v2 → (vp_in v1 20 ∧ ((μ.1 86 v1.toNatClampNeg) ≤ (μ.1 49 1) → (vp_in v1 20 ∧ wX12_lineAt μ (μ.1 86 v1.toNatClampNeg) (fun r73_8 => (v2 ≠ 2 → (vp_in v1 20 ∧ wX12_held_J96 μ K r73_8 (μ.1 87 v1.toNatClampNeg))) ∧ (v2 = 2 → (vp_in v1 20 ∧ wX12_held_J96 μ K r73_8 (μ.1 85 v1.toNatClampNeg)))))) ∧ (¬ ((μ.1 86 v1.toNatClampNeg) ≤ (μ.1 49 1)) → (K (-1))))) ∧ (¬ (2 ≤ v2) → ((v2 ≠ 0 → (vp_in v1 20 ∧ K (μ.1 86 v1.toNatClampNeg))) ∧ (v2 = 0 → (vp_in v1 20 ∧ K (μ.1 85 v1.toNatClampNeg))))))) ∧ (r17_4 = 0 → (K (-2)))))))
set_option maxRecDepth 100000 in
set_option maxHeartbeats 4000000 in
theorem kX12_held {G : hx_GT} {KK : hx_KT} (hG : hx_K cX12_held 3 0 0 (some .int) TbX12 KK G) (cA : hx_CA RX12 cX12_held 3 0 0 G) {Λ : hx_L} (hF : mF Λ) {μ : hx_M} (v1 : Int32) (v2 : Int32) {K : Int32 → Prop} (hK : ∀ (r : Int32), K r → KK (some (.int r)) Λ μ) (hw : wX12_held μ v1 v2 K) : G Λ μ (0, 0) 0 [some (.ref 49), some (.int v1), some (.int v2)] [] := by
  unfold wX12_held at hw
  refine cl_iload_n hG (hx_dq tdX12_held_0 0 rfl) rfl (cl_iconst hG 0 (hx_dq tdX12_held_0 1 rfl) iconst_0 (cl_aload_n hG (hx_dq tdX12_held_0 2 rfl) rfl (cl_getI hG fmX12_434 (hx_dq tdX12_held_0 3 rfl) (mF_S49 hF) (cl_iconst hG 1 (hx_dq tdX12_held_0 4 rfl) iconst_1 (cl_isub hG (hx_dq tdX12_held_0 5 rfl) (cl_callS3 (caX12_held_157 cA) (hx_dq tdX12_held_0 6 rfl) (Nat.le_of_ble_eq_true rfl) (Nat.le_refl _) (Nat.le_refl _) (sX12_isIn_mk hw (fun r8_2 hw => ?_))))))))
  refine cl_if_eq hG 23 (hx_dq tdX12_held_0 7 rfl) rfl (fun c11 => ?_) (fun c11 => ?_)
  · replace hw := hw.1 c11
    exact cl_bipush hG (-2) (hx_dq tdX12_held_0 13 rfl) bipush_m2 (cl_iret hG (hx_dq tdX12_held_0 14 rfl) rfl rfl (hK _ hw) (Nat.le_refl _) (Nat.le_refl _))
  · replace hw := hw.2 c11
    refine cl_iload_n hG (hx_dq tdX12_held_0 8 rfl) rfl (cl_iconst hG 0 (hx_dq tdX12_held_0 9 rfl) iconst_0 (cl_iconst hG 3 (hx_dq tdX12_held_0 10 rfl) iconst_3 (cl_callS3 (caX12_held_157 cA) (hx_dq tdX12_held_0 11 rfl) (Nat.le_of_ble_eq_true rfl) (Nat.le_refl _) (Nat.le_refl _) (sX12_isIn_mk hw (fun r17_4 hw => ?_)))))
    refine cl_if_ne hG 26 (hx_dq tdX12_held_0 12 rfl) rfl (fun c20 => ?_) (fun c20 => ?_)
    · replace hw := hw.1 c20
      refine cl_iload_n hG (hx_dq tdX12_held_0 15 rfl) rfl (cl_iconst hG 2 (hx_dq tdX12_held_0 16 rfl) iconst_2 (cl_icmp_ge hG 51 (hx_dq tdX12_held_0 17 rfl) rfl (fun c28 => ?_) (fun c28 => ?_)))
      · replace hw := hw.1 c28
        obtain ⟨i56_5, hw⟩ := hw
        refine cl_aload_n hG (hx_dq tdX12_held_0 30 rfl) rfl (cl_getS hG fmX12_132 (hx_dq tdX12_held_0 31 rfl) (mF_S49 hF) (mF_R49_61 hF) (cl_iload_n hG (hx_dq tdX12_held_1 0 rfl) rfl (cl_iald hG (hx_dq tdX12_held_1 1 rfl) (mF_S86 hF) i56_5 (cl_aload_n hG (hx_dq tdX12_held_1 2 rfl) rfl (cl_getI hG fmX12_161 (hx_dq tdX12_held_1 3 rfl) (mF_S49 hF) (cl_icmp_le hG 66 (hx_dq tdX12_held_1 4 rfl) rfl (fun c61 => ?_) (fun c61 => ?_)))))))
        · replace hw := hw.1 c61
          obtain ⟨i72_6, hw⟩ := hw
          refine cl_aload_n hG (hx_dq tdX12_held_1 7 rfl) rfl (cl_aload_n hG (hx_dq tdX12_held_1 8 rfl) rfl (cl_getS hG fmX12_132 (hx_dq tdX12_held_1 9 rfl) (mF_S49 hF) (mF_R49_61 hF) (cl_iload_n hG (hx_dq tdX12_held_1 10 rfl) rfl (cl_iald hG (hx_dq tdX12_held_1 11 rfl) (mF_S86 hF) i72_6 (cl_callV1 (caX12_held_365 cA) (hx_dq tdX12_held_1 12 rfl) (mF_S49 hF) (Nat.le_of_ble_eq_true rfl) (Nat.le_refl _) (Nat.le_refl _) (sX12_lineAt_mk hF hw (fun r73_8 hw => ?_)))))))
          refine cl_iload_n hG (hx_dq tdX12_held_1 13 rfl) rfl (cl_iconst hG 2 (hx_dq tdX12_held_1 14 rfl) iconst_2 (cl_icmp_ne hG 90 (hx_dq tdX12_held_1 15 rfl) rfl (fun c78 => ?_) (fun c78 => ?_)))
          · replace hw := hw.1 c78
            obtain ⟨i95_9, hw⟩ := hw
            refine cl_aload_n hG (hx_dq tdX12_held_1 21 rfl) rfl (cl_getS hG fmX12_135 (hx_dq tdX12_held_1 22 rfl) (mF_S49 hF) (mF_R49_62 hF) (cl_iload_n hG (hx_dq tdX12_held_1 23 rfl) rfl (cl_iald hG (hx_dq tdX12_held_1 24 rfl) (mF_S87 hF) i95_9 ?_)))
            exact cl_sub hG (hx_le_n (hx_le_n (hx_le_n hx_le_0))) (kX12_held_J96 hG cA hF r73_8 (μ.1 87 v1.toNatClampNeg) hK hw)
          · replace hw := hw.2 c78
            obtain ⟨i86_11, hw⟩ := hw
            refine cl_aload_n hG (hx_dq tdX12_held_1 16 rfl) rfl (cl_getS hG fmX12_129 (hx_dq tdX12_held_1 17 rfl) (mF_S49 hF) (mF_R49_60 hF) (cl_iload_n hG (hx_dq tdX12_held_1 18 rfl) rfl (cl_iald hG (hx_dq tdX12_held_1 19 rfl) (mF_S85 hF) i86_11 (cl_goto hG 96 (hx_dq tdX12_held_1 20 rfl) rfl ?_))))
            exact cl_sub hG (hx_le_n (hx_le_n (hx_le_n hx_le_0))) (kX12_held_J96 hG cA hF r73_8 (μ.1 85 v1.toNatClampNeg) hK hw)
        · replace hw := hw.2 c61
          exact cl_iconst hG (-1) (hx_dq tdX12_held_1 5 rfl) iconst_m1 (cl_iret hG (hx_dq tdX12_held_1 6 rfl) rfl rfl (hK _ hw) (Nat.le_refl _) (Nat.le_refl _))
      · replace hw := hw.2 c28
        refine cl_iload_n hG (hx_dq tdX12_held_0 18 rfl) rfl (cl_if_ne hG 44 (hx_dq tdX12_held_0 19 rfl) rfl (fun c32 => ?_) (fun c32 => ?_))
        · replace hw := hw.1 c32
          obtain ⟨i49_12, hw⟩ := hw
          exact cl_aload_n hG (hx_dq tdX12_held_0 25 rfl) rfl (cl_getS hG fmX12_132 (hx_dq tdX12_held_0 26 rfl) (mF_S49 hF) (mF_R49_61 hF) (cl_iload_n hG (hx_dq tdX12_held_0 27 rfl) rfl (cl_iald hG (hx_dq tdX12_held_0 28 rfl) (mF_S86 hF) i49_12 (cl_iret hG (hx_dq tdX12_held_0 29 rfl) rfl rfl (hK _ hw) (Nat.le_refl _) (Nat.le_refl _)))))
        · replace hw := hw.2 c32
          obtain ⟨i40_13, hw⟩ := hw
          exact cl_aload_n hG (hx_dq tdX12_held_0 20 rfl) rfl (cl_getS hG fmX12_129 (hx_dq tdX12_held_0 21 rfl) (mF_S49 hF) (mF_R49_60 hF) (cl_iload_n hG (hx_dq tdX12_held_0 22 rfl) rfl (cl_iald hG (hx_dq tdX12_held_0 23 rfl) (mF_S85 hF) i40_13 (cl_goto hG 50 (hx_dq tdX12_held_0 24 rfl) rfl (cl_iret hG (hx_dq tdX12_held_0 29 rfl) rfl rfl (hK _ hw) (Nat.le_refl _) (Nat.le_refl _))))))
    · replace hw := hw.2 c20
      exact cl_bipush hG (-2) (hx_dq tdX12_held_0 13 rfl) bipush_m2 (cl_iret hG (hx_dq tdX12_held_0 14 rfl) rfl rfl (hK _ hw) (Nat.le_refl _) (Nat.le_refl _))
def sX12_held : hx_ST := fun Λ μ as KK => mF Λ ∧ ∃ (v1 : Int32) (v2 : Int32) (K : Int32 → Prop), as = [.ref 49, .int v1, .int v2] ∧ wX12_held μ v1 v2 K ∧ (∀ (r : Int32), K r → KK (some (.int r)) Λ μ)
theorem sX12_held_mk {Λ : hx_L} {μ : hx_M} {KK : hx_KT} {v1 : Int32} {v2 : Int32} {K : Int32 → Prop} (hF : mF Λ) (hw : wX12_held μ v1 v2 K) (hk : ∀ (r : Int32), K r → KK (some (.int r)) Λ μ) : sX12_held Λ μ [.ref 49, .int v1, .int v2] KK := ⟨hF, _, _, _, rfl, hw, hk⟩
theorem conX12_held : hx_Con yX12_held cX12_held 3 (some .int) 3 0 0 sX12_held := by
  refine hx_con_of (by decide +kernel) tokX12 (by decide) ?_ ?_
  · intro Λ μ as KK h
    obtain ⟨hF, v1, v2, K, rfl, hw, hK⟩ := h
    exact Nat.le_of_ble_eq_true rfl
  · intro G KK hG cA Λ μ as h
    obtain ⟨hF, v1, v2, K, rfl, hw, hK⟩ := h
    exact cl_sub hG (hx_le_c rfl (hx_le_c rfl (hx_le_c rfl hx_le_0))) (kX12_held hG cA hF _ _ hK hw)
/-! HemLineModel.behind(II)I -/
def tbX12_behind_0 : List (Nat × Instr × Nat) := [(0, .iload_n 1, 1), (1, .iconst 0, 1), (2, .bipush 99, 2), (4, .invokestatic 157, 3), (7, .ifCond .eq 19, 3), (10, .iload_n 2, 1), (11, .iconst 0, 1), (12, .iconst 3, 1), (13, .invokestatic 157, 3), (16, .ifCond .eq 10, 3), (19, .aload_n 0, 1), (20, .getfield 154, 3), (23, .ifCond .ne 5, 3), (26, .iconst (-1), 1), (27, .ireturn, 1), (28, .iconst 0, 1), (29, .istore_n 3, 1), (30, .iconst 0, 1), (31, .istore 4, 2), (33, .iload 4, 2), (35, .aload_n 0, 1), (36, .getfield 154, 3), (39, .if_icmp .ge 79, 3), (42, .aload_n 0, 1), (43, .getfield 17, 3), (46, .iload 4, 2), (48, .iaload, 1), (49, .iload_n 1, 1), (50, .if_icmp .gt 7, 3), (53, .iconst 1, 1), (54, .goto 4, 3), (57, .iconst 0, 1)]
def tbX12_behind_1 : List (Nat × Instr × Nat) := [(58, .iload_n 2, 1), (59, .iconst 2, 1), (60, .if_icmp .ge 7, 3), (63, .iconst 1, 1), (64, .goto 4, 3), (67, .iconst 0, 1), (68, .if_icmp .eq 6, 3), (71, .goto 41, 3), (74, .iload_n 3, 1), (75, .iload_n 2, 1), (76, .iconst 2, 1), (77, .irem, 1), (78, .ifCond .ne 31, 3), (81, .bipush 100, 2), (83, .aload_n 0, 1), (84, .iload 4, 2), (86, .aload_n 0, 1), (87, .getfield 161, 3), (90, .invokevirtual 302, 3), (93, .imul, 1), (94, .aload_n 0, 1), (95, .aload_n 0, 1), (96, .getfield 161, 3), (99, .invokevirtual 365, 3), (102, .isub, 1), (103, .invokestatic 337, 3), (106, .goto 4, 3), (109, .iconst 1, 1), (110, .iadd, 1), (111, .istore_n 3, 1), (112, .iinc 4 1, 3), (115, .goto (-82), 3)]
def tbX12_behind_2 : List (Nat × Instr × Nat) := [(118, .iload_n 3, 1), (119, .ireturn, 1)]
theorem tdX12_behind_0 : hx_dt cX12_behind tbX12_behind_0 = true := by decide +kernel
theorem tdX12_behind_1 : hx_dt cX12_behind tbX12_behind_1 = true := by decide +kernel
theorem tdX12_behind_2 : hx_dt cX12_behind tbX12_behind_2 = true := by decide +kernel
theorem caX12_behind_157 {G : hx_GT} (cA : hx_CA RX12 cX12_behind 3 0 0 G) : hx_CS cX12_behind G 0 0 157 3 sX12_isIn 0 0 := cA.2.1 conX12_isIn ⟨by decide +kernel, by decide +kernel, by decide +kernel⟩ mw_1343 mw_1344 mw_97 mw_1345 (by decide) (by decide)
theorem caX12_behind_302 {G : hx_GT} (cA : hx_CA RX12 cX12_behind 3 0 0 G) : hx_CV cX12_behind G 0 0 302 12 2 sX12_lengthAt 0 0 := cA.1 conX12_lengthAt rfl rfl ⟨by decide +kernel, by decide +kernel, by decide +kernel⟩ mw_1486 mw_1488 mw_54 mw_97 mw_1489 (by decide) (by decide)
theorem caX12_behind_365 {G : hx_GT} (cA : hx_CA RX12 cX12_behind 3 0 0 G) : hx_CV cX12_behind G 0 0 365 12 1 sX12_lineAt 0 0 := cA.1 conX12_lineAt rfl rfl ⟨by decide +kernel, by decide +kernel, by decide +kernel⟩ mw_1535 mw_1537 mw_64 mw_97 mw_1538 (by decide) (by decide)
def wX12_behind_J112 (μ : hx_M) (K : Int32 → Prop) (K33 : Int32 → Int32 → Prop) (v1 : Int32) (v2 : Int32) (v3 : Int32) (v4 : Int32)   : Prop := K33 v3 (v4 + 1)
set_option maxRecDepth 100000 in
set_option maxHeartbeats 4000000 in
theorem kX12_behind_J112 {G : hx_GT} {KK : hx_KT} (hG : hx_K cX12_behind 5 0 0 (some .int) TbX12 KK G) (cA : hx_CA RX12 cX12_behind 3 0 0 G) {Λ : hx_L} (hF : mF Λ) {μ : hx_M} (v1 : Int32) (v2 : Int32) (v3 : Int32) (v4 : Int32)  {K : Int32 → Prop} (hK : ∀ (r : Int32), K r → KK (some (.int r)) Λ μ) {K33 : Int32 → Int32 → Prop} (hk33 : ∀ (v3 : Int32) (v4 : Int32), K33 v3 v4 → G Λ μ (0, 0) 33 [some (.ref 49), some (.int v1), some (.int v2), some (.int v3), some (.int v4)] []) (hw : wX12_behind_J112 μ K K33 v1 v2 v3 v4) : G Λ μ (0, 0) 112 [some (.ref 49), some (.int v1), some (.int v2), some (.int v3), some (.int v4)] [] := by
  unfold wX12_behind_J112 at hw
  exact cl_iinc hG (v4 + 1) (hx_dq tdX12_behind_1 30 rfl) rfl (congrArg (fun z => v4 + z) iconst_1) (Nat.le_of_ble_eq_true rfl) rfl (cl_goto hG 33 (hx_dq tdX12_behind_1 31 rfl) rfl (cl_sub hG (hx_le_c rfl (hx_le_c rfl (hx_le_c rfl (hx_le_c rfl (hx_le_c rfl hx_le_0))))) (hk33 v3 (v4 + 1) hw)))
def wX12_behind_J110 (μ : hx_M) (K : Int32 → Prop) (K33 : Int32 → Int32 → Prop) (v1 : Int32) (v2 : Int32) (v4 : Int32) (t0 : Int32) (t1 : Int32)  : Prop := wX12_behind_J112 μ K (K33) v1 v2 (t0 + t1) v4
set_option maxRecDepth 100000 in
set_option maxHeartbeats 4000000 in
theorem kX12_behind_J110 {G : hx_GT} {KK : hx_KT} (hG : hx_K cX12_behind 5 0 0 (some .int) TbX12 KK G) (cA : hx_CA RX12 cX12_behind 3 0 0 G) {Λ : hx_L} (hF : mF Λ) {μ : hx_M} (v1 : Int32) (v2 : Int32) (v4 : Int32) (t0 : Int32) (t1 : Int32) {K : Int32 → Prop} (hK : ∀ (r : Int32), K r → KK (some (.int r)) Λ μ) {K33 : Int32 → Int32 → Prop} (hk33 : ∀ (v3 : Int32) (v4 : Int32), K33 v3 v4 → G Λ μ (0, 0) 33 [some (.ref 49), some (.int v1), some (.int v2), some (.int v3), some (.int v4)] []) (hw : wX12_behind_J110 μ K K33 v1 v2 v4 t0 t1) : G Λ μ (0, 0) 110 [some (.ref 49), some (.int v1), some (.int v2), none, some (.int v4)] [.int t1, .int t0] := by
  unfold wX12_behind_J110 at hw
  refine cl_iadd hG (hx_dq tdX12_behind_1 28 rfl) (cl_istore_n hG (hx_dq tdX12_behind_1 29 rfl) (Nat.le_of_ble_eq_true rfl) rfl ?_)
  exact cl_sub hG (hx_le_c rfl (hx_le_c rfl (hx_le_c rfl (hx_le_c rfl (hx_le_c rfl hx_le_0))))) (kX12_behind_J112 hG cA hF v1 v2 (t0 + t1) v4 hK (fun z0 z1 hw => hk33 z0 z1 hw) hw)
def wX12_behind_J112_11 (μ : hx_M) (K : Int32 → Prop) (K33 : Int32 → Int32 → Prop) (v1 : Int32) (v2 : Int32) (v3 : Int32) (v4 : Int32)   : Prop := K33 v3 (v4 + 1)
set_option maxRecDepth 100000 in
set_option maxHeartbeats 4000000 in
theorem kX12_behind_J112_11 {G : hx_GT} {KK : hx_KT} (hG : hx_K cX12_behind 5 0 0 (some .int) TbX12 KK G) (cA : hx_CA RX12 cX12_behind 3 0 0 G) {Λ : hx_L} (hF : mF Λ) {μ : hx_M} (v1 : Int32) (v2 : Int32) (v3 : Int32) (v4 : Int32)  {K : Int32 → Prop} (hK : ∀ (r : Int32), K r → KK (some (.int r)) Λ μ) {K33 : Int32 → Int32 → Prop} (hk33 : ∀ (v3 : Int32) (v4 : Int32), K33 v3 v4 → G Λ μ (0, 0) 33 [some (.ref 49), some (.int v1), some (.int v2), some (.int v3), some (.int v4)] []) (hw : wX12_behind_J112_11 μ K K33 v1 v2 v3 v4) : G Λ μ (0, 0) 112 [some (.ref 49), some (.int v1), some (.int v2), some (.int v3), some (.int v4)] [] := by
  unfold wX12_behind_J112_11 at hw
  exact cl_iinc hG (v4 + 1) (hx_dq tdX12_behind_1 30 rfl) rfl (congrArg (fun z => v4 + z) iconst_1) (Nat.le_of_ble_eq_true rfl) rfl (cl_goto hG 33 (hx_dq tdX12_behind_1 31 rfl) rfl (cl_sub hG (hx_le_c rfl (hx_le_c rfl (hx_le_c rfl (hx_le_c rfl (hx_le_c rfl hx_le_0))))) (hk33 v3 (v4 + 1) hw)))
def wX12_behind_J68 (μ : hx_M) (K : Int32 → Prop) (K33 : Int32 → Int32 → Prop) (v1 : Int32) (v2 : Int32) (v3 : Int32) (v4 : Int32) (t0 : Int32) (t1 : Int32)  : Prop := (t0 = t1 → (((v2 - v2 / 2 * 2) ≠ 0 → (wX12_behind_J110 μ K (K33) v1 v2 v4 v3 1)) ∧ ((v2 - v2 / 2 * 2) = 0 → (wX12_lengthAt μ v4 (μ.1 49 1) (fun r90_7 => wX12_lineAt μ (μ.1 49 1) (fun r99_9 => ∀ x_10 : Int32, x_10 = (if 0 ≤ ((100 * r90_7) - r99_9) then ((100 * r90_7) - r99_9) else 0 - ((100 * r90_7) - r99_9)) → wX12_behind_J110 μ K (K33) v1 v2 v4 v3 x_10)))))) ∧ (¬ (t0 = t1) → (wX12_behind_J112_11 μ K (K33) v1 v2 v3 v4))
set_option maxRecDepth 100000 in
set_option maxHeartbeats 4000000 in
theorem kX12_behind_J68 {G : hx_GT} {KK : hx_KT} (hG : hx_K cX12_behind 5 0 0 (some .int) TbX12 KK G) (cA : hx_CA RX12 cX12_behind 3 0 0 G) {Λ : hx_L} (hF : mF Λ) {μ : hx_M} (v1 : Int32) (v2 : Int32) (v3 : Int32) (v4 : Int32) (t0 : Int32) (t1 : Int32) {K : Int32 → Prop} (hK : ∀ (r : Int32), K r → KK (some (.int r)) Λ μ) {K33 : Int32 → Int32 → Prop} (hk33 : ∀ (v3 : Int32) (v4 : Int32), K33 v3 v4 → G Λ μ (0, 0) 33 [some (.ref 49), some (.int v1), some (.int v2), some (.int v3), some (.int v4)] []) (hw : wX12_behind_J68 μ K K33 v1 v2 v3 v4 t0 t1) : G Λ μ (0, 0) 68 [some (.ref 49), some (.int v1), some (.int v2), some (.int v3), some (.int v4)] [.int t1, .int t0] := by
  unfold wX12_behind_J68 at hw
  refine cl_icmp_eq hG 74 (hx_dq tdX12_behind_1 6 rfl) rfl (fun c68 => ?_) (fun c68 => ?_)
  · replace hw := hw.1 c68
    refine cl_iload_n hG (hx_dq tdX12_behind_1 8 rfl) rfl (cl_iload_n hG (hx_dq tdX12_behind_1 9 rfl) rfl (cl_iconst hG 2 (hx_dq tdX12_behind_1 10 rfl) iconst_2 (cl_irem hG (hx_dq tdX12_behind_1 11 rfl) (by decide) (cl_if_ne hG 109 (hx_dq tdX12_behind_1 12 rfl) rfl (fun c78 => ?_) (fun c78 => ?_)))))
    · replace hw := hw.1 c78
      refine cl_iconst hG 1 (hx_dq tdX12_behind_1 27 rfl) iconst_1 ?_
      exact cl_sub hG (hx_le_c rfl (hx_le_c rfl (hx_le_c rfl (hx_le_n (hx_le_c rfl hx_le_0))))) (kX12_behind_J110 hG cA hF v1 v2 v4 v3 1 hK (fun z0 z1 hw => hk33 z0 z1 hw) hw)
    · replace hw := hw.2 c78
      refine cl_bipush hG 100 (hx_dq tdX12_behind_1 13 rfl) bipush_100 (cl_aload_n hG (hx_dq tdX12_behind_1 14 rfl) rfl (cl_iload hG (hx_dq tdX12_behind_1 15 rfl) rfl (cl_aload_n hG (hx_dq tdX12_behind_1 16 rfl) rfl (cl_getI hG fmX12_161 (hx_dq tdX12_behind_1 17 rfl) (mF_S49 hF) (cl_callV2 (caX12_behind_302 cA) (hx_dq tdX12_behind_1 18 rfl) (mF_S49 hF) (Nat.le_of_ble_eq_true rfl) (Nat.le_refl _) (Nat.le_refl _) (sX12_lengthAt_mk hF hw (fun r90_7 hw => ?_)))))))
      refine cl_imul hG (hx_dq tdX12_behind_1 19 rfl) (cl_aload_n hG (hx_dq tdX12_behind_1 20 rfl) rfl (cl_aload_n hG (hx_dq tdX12_behind_1 21 rfl) rfl (cl_getI hG fmX12_161 (hx_dq tdX12_behind_1 22 rfl) (mF_S49 hF) (cl_callV1 (caX12_behind_365 cA) (hx_dq tdX12_behind_1 23 rfl) (mF_S49 hF) (Nat.le_of_ble_eq_true rfl) (Nat.le_refl _) (Nat.le_refl _) (sX12_lineAt_mk hF hw (fun r99_9 hw => ?_))))))
      refine cl_isub hG (hx_dq tdX12_behind_1 24 rfl) (cl_mabs hG mmX12_337 (hx_dq tdX12_behind_1 25 rfl) (Nat.le_refl _) (Nat.le_refl _) (Nat.le_of_ble_eq_true rfl) (cl_nmI (fun x_10 e_10 => ?_)))
      replace hw := hw x_10 e_10
      refine cl_goto hG 110 (hx_dq tdX12_behind_1 26 rfl) rfl ?_
      exact cl_sub hG (hx_le_c rfl (hx_le_c rfl (hx_le_c rfl (hx_le_n (hx_le_c rfl hx_le_0))))) (kX12_behind_J110 hG cA hF v1 v2 v4 v3 x_10 hK (fun z0 z1 hw => hk33 z0 z1 hw) hw)
  · replace hw := hw.2 c68
    refine cl_goto hG 112 (hx_dq tdX12_behind_1 7 rfl) rfl ?_
    exact cl_sub hG (hx_le_c rfl (hx_le_c rfl (hx_le_c rfl (hx_le_c rfl (hx_le_c rfl hx_le_0))))) (kX12_behind_J112_11 hG cA hF v1 v2 v3 v4 hK (fun z0 z1 hw => hk33 z0 z1 hw) hw)
def wX12_behind_J58 (μ : hx_M) (K : Int32 → Prop) (K33 : Int32 → Int32 → Prop) (v1 : Int32) (v2 : Int32) (v3 : Int32) (v4 : Int32) (t0 : Int32)  : Prop := (2 ≤ v2 → (wX12_behind_J68 μ K (K33) v1 v2 v3 v4 t0 0)) ∧ (¬ (2 ≤ v2) → (wX12_behind_J68 μ K (K33) v1 v2 v3 v4 t0 1))
set_option maxRecDepth 100000 in
set_option maxHeartbeats 4000000 in
theorem kX12_behind_J58 {G : hx_GT} {KK : hx_KT} (hG : hx_K cX12_behind 5 0 0 (some .int) TbX12 KK G) (cA : hx_CA RX12 cX12_behind 3 0 0 G) {Λ : hx_L} (hF : mF Λ) {μ : hx_M} (v1 : Int32) (v2 : Int32) (v3 : Int32) (v4 : Int32) (t0 : Int32) {K : Int32 → Prop} (hK : ∀ (r : Int32), K r → KK (some (.int r)) Λ μ) {K33 : Int32 → Int32 → Prop} (hk33 : ∀ (v3 : Int32) (v4 : Int32), K33 v3 v4 → G Λ μ (0, 0) 33 [some (.ref 49), some (.int v1), some (.int v2), some (.int v3), some (.int v4)] []) (hw : wX12_behind_J58 μ K K33 v1 v2 v3 v4 t0) : G Λ μ (0, 0) 58 [some (.ref 49), some (.int v1), some (.int v2), some (.int v3), some (.int v4)] [.int t0] := by
  unfold wX12_behind_J58 at hw
  refine cl_iload_n hG (hx_dq tdX12_behind_1 0 rfl) rfl (cl_iconst hG 2 (hx_dq tdX12_behind_1 1 rfl) iconst_2 (cl_icmp_ge hG 67 (hx_dq tdX12_behind_1 2 rfl) rfl (fun c60 => ?_) (fun c60 => ?_)))
  · replace hw := hw.1 c60
    refine cl_iconst hG 0 (hx_dq tdX12_behind_1 5 rfl) iconst_0 ?_
    exact cl_sub hG (hx_le_c rfl (hx_le_c rfl (hx_le_c rfl (hx_le_c rfl (hx_le_c rfl hx_le_0))))) (kX12_behind_J68 hG cA hF v1 v2 v3 v4 t0 0 hK (fun z0 z1 hw => hk33 z0 z1 hw) hw)
  · replace hw := hw.2 c60
    refine cl_iconst hG 1 (hx_dq tdX12_behind_1 3 rfl) iconst_1 (cl_goto hG 68 (hx_dq tdX12_behind_1 4 rfl) rfl ?_)
    exact cl_sub hG (hx_le_c rfl (hx_le_c rfl (hx_le_c rfl (hx_le_c rfl (hx_le_c rfl hx_le_0))))) (kX12_behind_J68 hG cA hF v1 v2 v3 v4 t0 1 hK (fun z0 z1 hw => hk33 z0 z1 hw) hw)
def wX12_behind_L33 (μ : hx_M) (v1 : Int32) (v2 : Int32) (K : Int32 → Prop)  : Nat → Int32 → Int32 → Prop
  | 0, _, _ => False
  | n + 1, v3, v4 => ((μ.1 49 0) ≤ v4 → (K v3)) ∧ (¬ ((μ.1 49 0) ≤ v4) → (vp_in v4 16 ∧ (v1 < (μ.1 51 v4.toNatClampNeg) → (wX12_behind_J58 μ K (wX12_behind_L33 μ v1 v2 K n) v1 v2 v3 v4 0)) ∧ (¬ (v1 < (μ.1 51 v4.toNatClampNeg)) → (wX12_behind_J58 μ K (wX12_behind_L33 μ v1 v2 K n) v1 v2 v3 v4 1))))
set_option maxRecDepth 100000 in
set_option maxHeartbeats 4000000 in
theorem kX12_behind_L33 {G : hx_GT} {KK : hx_KT} (hG : hx_K cX12_behind 5 0 0 (some .int) TbX12 KK G) (cA : hx_CA RX12 cX12_behind 3 0 0 G) {Λ : hx_L} (hF : mF Λ) {μ : hx_M} (v1 : Int32) (v2 : Int32) {K : Int32 → Prop} (hK : ∀ (r : Int32), K r → KK (some (.int r)) Λ μ)  : ∀ (n : Nat) (v3 : Int32) (v4 : Int32), wX12_behind_L33 μ v1 v2 K n v3 v4 → G Λ μ (0, 0) 33 [some (.ref 49), some (.int v1), some (.int v2), some (.int v3), some (.int v4)] [] := by
  intro n
  induction n with
  | zero =>
    intro v3 v4 hw
    exact False.elim (by simpa only [wX12_behind_L33] using hw)
  | succ n ih =>
    intro v3 v4 hw
    unfold wX12_behind_L33 at hw
    refine cl_iload hG (hx_dq tdX12_behind_0 19 rfl) rfl (cl_aload_n hG (hx_dq tdX12_behind_0 20 rfl) rfl (cl_getI hG fmX12_154 (hx_dq tdX12_behind_0 21 rfl) (mF_S49 hF) (cl_icmp_ge hG 118 (hx_dq tdX12_behind_0 22 rfl) rfl (fun c39 => ?_) (fun c39 => ?_))))
    · replace hw := hw.1 c39
      exact cl_iload_n hG (hx_dq tdX12_behind_2 0 rfl) rfl (cl_iret hG (hx_dq tdX12_behind_2 1 rfl) rfl rfl (hK _ hw) (Nat.le_refl _) (Nat.le_refl _))
    · replace hw := hw.2 c39
      obtain ⟨i48_5, hw⟩ := hw
      refine cl_aload_n hG (hx_dq tdX12_behind_0 23 rfl) rfl (cl_getS hG fmX12_17 (hx_dq tdX12_behind_0 24 rfl) (mF_S49 hF) (mF_R49_8 hF) (cl_iload hG (hx_dq tdX12_behind_0 25 rfl) rfl (cl_iald hG (hx_dq tdX12_behind_0 26 rfl) (mF_S51 hF) i48_5 (cl_iload_n hG (hx_dq tdX12_behind_0 27 rfl) rfl (cl_icmp_gt hG 57 (hx_dq tdX12_behind_0 28 rfl) rfl (fun c50 => ?_) (fun c50 => ?_))))))
      · replace hw := hw.1 c50
        refine cl_iconst hG 0 (hx_dq tdX12_behind_0 31 rfl) iconst_0 ?_
        exact cl_sub hG (hx_le_c rfl (hx_le_c rfl (hx_le_c rfl (hx_le_c rfl (hx_le_c rfl hx_le_0))))) (kX12_behind_J58 hG cA hF v1 v2 v3 v4 0 hK (fun z0 z1 hw => ih z0 z1 hw) hw)
      · replace hw := hw.2 c50
        refine cl_iconst hG 1 (hx_dq tdX12_behind_0 29 rfl) iconst_1 (cl_goto hG 58 (hx_dq tdX12_behind_0 30 rfl) rfl ?_)
        exact cl_sub hG (hx_le_c rfl (hx_le_c rfl (hx_le_c rfl (hx_le_c rfl (hx_le_c rfl hx_le_0))))) (kX12_behind_J58 hG cA hF v1 v2 v3 v4 1 hK (fun z0 z1 hw => ih z0 z1 hw) hw)
def wX12_behind (μ : hx_M) (v1 : Int32) (v2 : Int32) (K : Int32 → Prop) : Prop := wX12_isIn v1 0 99 (fun r4_2 => (r4_2 = 0 → (K (-1))) ∧ (¬ (r4_2 = 0) → (wX12_isIn v2 0 3 (fun r13_4 => (r13_4 = 0 → (K (-1))) ∧ (¬ (r13_4 = 0) → (((μ.1 49 0) ≠ 0 → (∃ n33_12, wX12_behind_L33 μ v1 v2 K n33_12 0 0)) ∧ ((μ.1 49 0) = 0 → (K (-1)))))))))
set_option maxRecDepth 100000 in
set_option maxHeartbeats 4000000 in
theorem kX12_behind {G : hx_GT} {KK : hx_KT} (hG : hx_K cX12_behind 5 0 0 (some .int) TbX12 KK G) (cA : hx_CA RX12 cX12_behind 3 0 0 G) {Λ : hx_L} (hF : mF Λ) {μ : hx_M} (v1 : Int32) (v2 : Int32) {K : Int32 → Prop} (hK : ∀ (r : Int32), K r → KK (some (.int r)) Λ μ) (hw : wX12_behind μ v1 v2 K) : G Λ μ (0, 0) 0 [some (.ref 49), some (.int v1), some (.int v2), none, none] [] := by
  unfold wX12_behind at hw
  refine cl_iload_n hG (hx_dq tdX12_behind_0 0 rfl) rfl (cl_iconst hG 0 (hx_dq tdX12_behind_0 1 rfl) iconst_0 (cl_bipush hG 99 (hx_dq tdX12_behind_0 2 rfl) bipush_99 (cl_callS3 (caX12_behind_157 cA) (hx_dq tdX12_behind_0 3 rfl) (Nat.le_of_ble_eq_true rfl) (Nat.le_refl _) (Nat.le_refl _) (sX12_isIn_mk hw (fun r4_2 hw => ?_)))))
  refine cl_if_eq hG 26 (hx_dq tdX12_behind_0 4 rfl) rfl (fun c7 => ?_) (fun c7 => ?_)
  · replace hw := hw.1 c7
    exact cl_iconst hG (-1) (hx_dq tdX12_behind_0 13 rfl) iconst_m1 (cl_iret hG (hx_dq tdX12_behind_0 14 rfl) rfl rfl (hK _ hw) (Nat.le_refl _) (Nat.le_refl _))
  · replace hw := hw.2 c7
    refine cl_iload_n hG (hx_dq tdX12_behind_0 5 rfl) rfl (cl_iconst hG 0 (hx_dq tdX12_behind_0 6 rfl) iconst_0 (cl_iconst hG 3 (hx_dq tdX12_behind_0 7 rfl) iconst_3 (cl_callS3 (caX12_behind_157 cA) (hx_dq tdX12_behind_0 8 rfl) (Nat.le_of_ble_eq_true rfl) (Nat.le_refl _) (Nat.le_refl _) (sX12_isIn_mk hw (fun r13_4 hw => ?_)))))
    refine cl_if_eq hG 26 (hx_dq tdX12_behind_0 9 rfl) rfl (fun c16 => ?_) (fun c16 => ?_)
    · replace hw := hw.1 c16
      exact cl_iconst hG (-1) (hx_dq tdX12_behind_0 13 rfl) iconst_m1 (cl_iret hG (hx_dq tdX12_behind_0 14 rfl) rfl rfl (hK _ hw) (Nat.le_refl _) (Nat.le_refl _))
    · replace hw := hw.2 c16
      refine cl_aload_n hG (hx_dq tdX12_behind_0 10 rfl) rfl (cl_getI hG fmX12_154 (hx_dq tdX12_behind_0 11 rfl) (mF_S49 hF) (cl_if_ne hG 28 (hx_dq tdX12_behind_0 12 rfl) rfl (fun c23 => ?_) (fun c23 => ?_)))
      · replace hw := hw.1 c23
        refine cl_iconst hG 0 (hx_dq tdX12_behind_0 15 rfl) iconst_0 (cl_istore_n hG (hx_dq tdX12_behind_0 16 rfl) (Nat.le_of_ble_eq_true rfl) rfl (cl_iconst hG 0 (hx_dq tdX12_behind_0 17 rfl) iconst_0 (cl_istore hG (hx_dq tdX12_behind_0 18 rfl) (Nat.le_of_ble_eq_true rfl) rfl ?_)))
        obtain ⟨n_, hw⟩ := hw
        refine cl_sub hG (hx_le_c rfl (hx_le_c rfl (hx_le_c rfl (hx_le_c rfl (hx_le_c rfl hx_le_0))))) (kX12_behind_L33 hG cA hF v1 v2 hK n_ 0 0 hw)
      · replace hw := hw.2 c23
        exact cl_iconst hG (-1) (hx_dq tdX12_behind_0 13 rfl) iconst_m1 (cl_iret hG (hx_dq tdX12_behind_0 14 rfl) rfl rfl (hK _ hw) (Nat.le_refl _) (Nat.le_refl _))
def sX12_behind : hx_ST := fun Λ μ as KK => mF Λ ∧ ∃ (v1 : Int32) (v2 : Int32) (K : Int32 → Prop), as = [.ref 49, .int v1, .int v2] ∧ wX12_behind μ v1 v2 K ∧ (∀ (r : Int32), K r → KK (some (.int r)) Λ μ)
theorem sX12_behind_mk {Λ : hx_L} {μ : hx_M} {KK : hx_KT} {v1 : Int32} {v2 : Int32} {K : Int32 → Prop} (hF : mF Λ) (hw : wX12_behind μ v1 v2 K) (hk : ∀ (r : Int32), K r → KK (some (.int r)) Λ μ) : sX12_behind Λ μ [.ref 49, .int v1, .int v2] KK := ⟨hF, _, _, _, rfl, hw, hk⟩
theorem conX12_behind : hx_Con yX12_behind cX12_behind 5 (some .int) 3 0 0 sX12_behind := by
  refine hx_con_of (by decide +kernel) tokX12 (by decide) ?_ ?_
  · intro Λ μ as KK h
    obtain ⟨hF, v1, v2, K, rfl, hw, hK⟩ := h
    exact Nat.le_of_ble_eq_true rfl
  · intro G KK hG cA Λ μ as h
    obtain ⟨hF, v1, v2, K, rfl, hw, hK⟩ := h
    exact cl_sub hG (hx_le_c rfl (hx_le_c rfl (hx_le_c rfl (hx_le_n (hx_le_n hx_le_0))))) (kX12_behind hG cA hF _ _ hK hw)
/-! HemLineModel.between(II)I -/
def tbX12_between_0 : List (Nat × Instr × Nat) := [(0, .iconst 0, 1), (1, .istore_n 3, 1), (2, .iconst 0, 1), (3, .istore 4, 2), (5, .iload 4, 2), (7, .aload_n 0, 1), (8, .getfield 154, 3), (11, .if_icmp .ge 81, 3), (14, .aload_n 0, 1), (15, .getfield 138, 3), (18, .iload 4, 2), (20, .iaload, 1), (21, .istore 5, 2), (23, .iload_n 1, 1), (24, .iconst (-1), 1), (25, .if_icmp .eq 9, 3), (28, .iload 5, 2), (30, .iload_n 1, 1), (31, .if_icmp .lt 55, 3), (34, .iload_n 2, 1), (35, .iconst (-1), 1), (36, .if_icmp .eq 12, 3), (39, .iload 5, 2), (41, .iload_n 2, 1), (42, .if_icmp .lt 6, 3), (45, .goto 41, 3), (48, .iload_n 3, 1), (49, .iload_n 1, 1), (50, .iconst (-1), 1), (51, .if_icmp .ne 10, 3), (54, .iload_n 2, 1), (55, .iload 5, 2)]
def tbX12_between_1 : List (Nat × Instr × Nat) := [(57, .isub, 1), (58, .goto 26, 3), (61, .iload_n 2, 1), (62, .iconst (-1), 1), (63, .if_icmp .ne 10, 3), (66, .iload 5, 2), (68, .iload_n 1, 1), (69, .isub, 1), (70, .goto 14, 3), (73, .iload 5, 2), (75, .iload_n 1, 1), (76, .isub, 1), (77, .iload_n 2, 1), (78, .iload 5, 2), (80, .isub, 1), (81, .invokestatic 334, 3), (84, .iadd, 1), (85, .istore_n 3, 1), (86, .iinc 4 1, 3), (89, .goto (-84), 3), (92, .iload_n 3, 1), (93, .ireturn, 1)]
theorem tdX12_between_0 : hx_dt cX12_between tbX12_between_0 = true := by decide +kernel
theorem tdX12_between_1 : hx_dt cX12_between tbX12_between_1 = true := by decide +kernel
def wX12_between_J86 (μ : hx_M) (K : Int32 → Prop) (K5 : Int32 → Int32 → Prop) (v1 : Int32) (v2 : Int32) (v3 : Int32) (v4 : Int32)   : Prop := K5 v3 (v4 + 1)
set_option maxRecDepth 100000 in
set_option maxHeartbeats 4000000 in
theorem kX12_between_J86 {G : hx_GT} {KK : hx_KT} (hG : hx_K cX12_between 6 0 0 (some .int) TbX12 KK G) (cA : hx_CA RX12 cX12_between 1 0 0 G) {Λ : hx_L} (hF : mF Λ) {μ : hx_M} (v1 : Int32) (v2 : Int32) (v3 : Int32) (v4 : Int32)  {K : Int32 → Prop} (hK : ∀ (r : Int32), K r → KK (some (.int r)) Λ μ) {K5 : Int32 → Int32 → Prop} (hk5 : ∀ (v3 : Int32) (v4 : Int32), K5 v3 v4 → G Λ μ (0, 0) 5 [some (.ref 49), some (.int v1), some (.int v2), some (.int v3), some (.int v4), none] []) (hw : wX12_between_J86 μ K K5 v1 v2 v3 v4) : G Λ μ (0, 0) 86 [some (.ref 49), some (.int v1), some (.int v2), some (.int v3), some (.int v4), none] [] := by
  unfold wX12_between_J86 at hw
  exact cl_iinc hG (v4 + 1) (hx_dq tdX12_between_1 18 rfl) rfl (congrArg (fun z => v4 + z) iconst_1) (Nat.le_of_ble_eq_true rfl) rfl (cl_goto hG 5 (hx_dq tdX12_between_1 19 rfl) rfl (cl_sub hG (hx_le_c rfl (hx_le_c rfl (hx_le_c rfl (hx_le_c rfl (hx_le_c rfl (hx_le_n hx_le_0)))))) (hk5 v3 (v4 + 1) hw)))
def wX12_between_J84 (μ : hx_M) (K : Int32 → Prop) (K5 : Int32 → Int32 → Prop) (v1 : Int32) (v2 : Int32) (v4 : Int32) (t0 : Int32) (t1 : Int32)  : Prop := wX12_between_J86 μ K (K5) v1 v2 (t0 + t1) v4
set_option maxRecDepth 100000 in
set_option maxHeartbeats 4000000 in
theorem kX12_between_J84 {G : hx_GT} {KK : hx_KT} (hG : hx_K cX12_between 6 0 0 (some .int) TbX12 KK G) (cA : hx_CA RX12 cX12_between 1 0 0 G) {Λ : hx_L} (hF : mF Λ) {μ : hx_M} (v1 : Int32) (v2 : Int32) (v4 : Int32) (t0 : Int32) (t1 : Int32) {K : Int32 → Prop} (hK : ∀ (r : Int32), K r → KK (some (.int r)) Λ μ) {K5 : Int32 → Int32 → Prop} (hk5 : ∀ (v3 : Int32) (v4 : Int32), K5 v3 v4 → G Λ μ (0, 0) 5 [some (.ref 49), some (.int v1), some (.int v2), some (.int v3), some (.int v4), none] []) (hw : wX12_between_J84 μ K K5 v1 v2 v4 t0 t1) : G Λ μ (0, 0) 84 [some (.ref 49), some (.int v1), some (.int v2), none, some (.int v4), none] [.int t1, .int t0] := by
  unfold wX12_between_J84 at hw
  refine cl_iadd hG (hx_dq tdX12_between_1 16 rfl) (cl_istore_n hG (hx_dq tdX12_between_1 17 rfl) (Nat.le_of_ble_eq_true rfl) rfl ?_)
  exact cl_sub hG (hx_le_c rfl (hx_le_c rfl (hx_le_c rfl (hx_le_c rfl (hx_le_c rfl (hx_le_n hx_le_0)))))) (kX12_between_J86 hG cA hF v1 v2 (t0 + t1) v4 hK (fun z0 z1 hw => hk5 z0 z1 hw) hw)
def wX12_between_J48 (μ : hx_M) (K : Int32 → Prop) (K5 : Int32 → Int32 → Prop) (v1 : Int32) (v2 : Int32) (v3 : Int32) (v4 : Int32) (v5 : Int32)   : Prop := (v1 ≠ (-1) → ((v2 ≠ (-1) → (∀ x_2 : Int32, x_2 = (if (v2 - v5) < (v5 - v1) then (v2 - v5) else (v5 - v1)) → wX12_between_J84 μ K (K5) v1 v2 v4 v3 x_2)) ∧ (v2 = (-1) → (wX12_between_J84 μ K (K5) v1 v2 v4 v3 (v5 - v1))))) ∧ (v1 = (-1) → (wX12_between_J84 μ K (K5) v1 v2 v4 v3 (v2 - v5)))
set_option maxRecDepth 100000 in
set_option maxHeartbeats 4000000 in
theorem kX12_between_J48 {G : hx_GT} {KK : hx_KT} (hG : hx_K cX12_between 6 0 0 (some .int) TbX12 KK G) (cA : hx_CA RX12 cX12_between 1 0 0 G) {Λ : hx_L} (hF : mF Λ) {μ : hx_M} (v1 : Int32) (v2 : Int32) (v3 : Int32) (v4 : Int32) (v5 : Int32)  {K : Int32 → Prop} (hK : ∀ (r : Int32), K r → KK (some (.int r)) Λ μ) {K5 : Int32 → Int32 → Prop} (hk5 : ∀ (v3 : Int32) (v4 : Int32), K5 v3 v4 → G Λ μ (0, 0) 5 [some (.ref 49), some (.int v1), some (.int v2), some (.int v3), some (.int v4), none] []) (hw : wX12_between_J48 μ K K5 v1 v2 v3 v4 v5) : G Λ μ (0, 0) 48 [some (.ref 49), some (.int v1), some (.int v2), some (.int v3), some (.int v4), some (.int v5)] [] := by
  unfold wX12_between_J48 at hw
  refine cl_iload_n hG (hx_dq tdX12_between_0 26 rfl) rfl (cl_iload_n hG (hx_dq tdX12_between_0 27 rfl) rfl (cl_iconst hG (-1) (hx_dq tdX12_between_0 28 rfl) iconst_m1 (cl_icmp_ne hG 61 (hx_dq tdX12_between_0 29 rfl) rfl (fun c51 => ?_) (fun c51 => ?_))))
  · replace hw := hw.1 c51
    refine cl_iload_n hG (hx_dq tdX12_between_1 2 rfl) rfl (cl_iconst hG (-1) (hx_dq tdX12_between_1 3 rfl) iconst_m1 (cl_icmp_ne hG 73 (hx_dq tdX12_between_1 4 rfl) rfl (fun c63 => ?_) (fun c63 => ?_)))
    · replace hw := hw.1 c63
      refine cl_iload hG (hx_dq tdX12_between_1 9 rfl) rfl (cl_iload_n hG (hx_dq tdX12_between_1 10 rfl) rfl (cl_isub hG (hx_dq tdX12_between_1 11 rfl) (cl_iload_n hG (hx_dq tdX12_between_1 12 rfl) rfl (cl_iload hG (hx_dq tdX12_between_1 13 rfl) rfl (cl_isub hG (hx_dq tdX12_between_1 14 rfl) (cl_mmin hG mmX12_334 (hx_dq tdX12_between_1 15 rfl) (Nat.le_refl _) (Nat.le_refl _) (Nat.le_of_ble_eq_true rfl) (cl_nmI (fun x_2 e_2 => ?_))))))))
      replace hw := hw x_2 e_2
      exact cl_sub hG (hx_le_c rfl (hx_le_c rfl (hx_le_c rfl (hx_le_n (hx_le_c rfl (hx_le_n hx_le_0)))))) (kX12_between_J84 hG cA hF v1 v2 v4 v3 x_2 hK (fun z0 z1 hw => hk5 z0 z1 hw) hw)
    · replace hw := hw.2 c63
      refine cl_iload hG (hx_dq tdX12_between_1 5 rfl) rfl (cl_iload_n hG (hx_dq tdX12_between_1 6 rfl) rfl (cl_isub hG (hx_dq tdX12_between_1 7 rfl) (cl_goto hG 84 (hx_dq tdX12_between_1 8 rfl) rfl ?_)))
      exact cl_sub hG (hx_le_c rfl (hx_le_c rfl (hx_le_c rfl (hx_le_n (hx_le_c rfl (hx_le_n hx_le_0)))))) (kX12_between_J84 hG cA hF v1 v2 v4 v3 (v5 - v1) hK (fun z0 z1 hw => hk5 z0 z1 hw) hw)
  · replace hw := hw.2 c51
    refine cl_iload_n hG (hx_dq tdX12_between_0 30 rfl) rfl (cl_iload hG (hx_dq tdX12_between_0 31 rfl) rfl (cl_isub hG (hx_dq tdX12_between_1 0 rfl) (cl_goto hG 84 (hx_dq tdX12_between_1 1 rfl) rfl ?_)))
    exact cl_sub hG (hx_le_c rfl (hx_le_c rfl (hx_le_c rfl (hx_le_n (hx_le_c rfl (hx_le_n hx_le_0)))))) (kX12_between_J84 hG cA hF v1 v2 v4 v3 (v2 - v5) hK (fun z0 z1 hw => hk5 z0 z1 hw) hw)
def wX12_between_J86_3 (μ : hx_M) (K : Int32 → Prop) (K5 : Int32 → Int32 → Prop) (v1 : Int32) (v2 : Int32) (v3 : Int32) (v4 : Int32)   : Prop := K5 v3 (v4 + 1)
set_option maxRecDepth 100000 in
set_option maxHeartbeats 4000000 in
theorem kX12_between_J86_3 {G : hx_GT} {KK : hx_KT} (hG : hx_K cX12_between 6 0 0 (some .int) TbX12 KK G) (cA : hx_CA RX12 cX12_between 1 0 0 G) {Λ : hx_L} (hF : mF Λ) {μ : hx_M} (v1 : Int32) (v2 : Int32) (v3 : Int32) (v4 : Int32)  {K : Int32 → Prop} (hK : ∀ (r : Int32), K r → KK (some (.int r)) Λ μ) {K5 : Int32 → Int32 → Prop} (hk5 : ∀ (v3 : Int32) (v4 : Int32), K5 v3 v4 → G Λ μ (0, 0) 5 [some (.ref 49), some (.int v1), some (.int v2), some (.int v3), some (.int v4), none] []) (hw : wX12_between_J86_3 μ K K5 v1 v2 v3 v4) : G Λ μ (0, 0) 86 [some (.ref 49), some (.int v1), some (.int v2), some (.int v3), some (.int v4), none] [] := by
  unfold wX12_between_J86_3 at hw
  exact cl_iinc hG (v4 + 1) (hx_dq tdX12_between_1 18 rfl) rfl (congrArg (fun z => v4 + z) iconst_1) (Nat.le_of_ble_eq_true rfl) rfl (cl_goto hG 5 (hx_dq tdX12_between_1 19 rfl) rfl (cl_sub hG (hx_le_c rfl (hx_le_c rfl (hx_le_c rfl (hx_le_c rfl (hx_le_c rfl (hx_le_n hx_le_0)))))) (hk5 v3 (v4 + 1) hw)))
def wX12_between_J34 (μ : hx_M) (K : Int32 → Prop) (K5 : Int32 → Int32 → Prop) (v1 : Int32) (v2 : Int32) (v3 : Int32) (v4 : Int32) (v5 : Int32)   : Prop := (v2 = (-1) → (wX12_between_J48 μ K (K5) v1 v2 v3 v4 v5)) ∧ (¬ (v2 = (-1)) → ((v5 < v2 → (wX12_between_J48 μ K (K5) v1 v2 v3 v4 v5)) ∧ (¬ (v5 < v2) → (wX12_between_J86_3 μ K (K5) v1 v2 v3 v4))))
set_option maxRecDepth 100000 in
set_option maxHeartbeats 4000000 in
theorem kX12_between_J34 {G : hx_GT} {KK : hx_KT} (hG : hx_K cX12_between 6 0 0 (some .int) TbX12 KK G) (cA : hx_CA RX12 cX12_between 1 0 0 G) {Λ : hx_L} (hF : mF Λ) {μ : hx_M} (v1 : Int32) (v2 : Int32) (v3 : Int32) (v4 : Int32) (v5 : Int32)  {K : Int32 → Prop} (hK : ∀ (r : Int32), K r → KK (some (.int r)) Λ μ) {K5 : Int32 → Int32 → Prop} (hk5 : ∀ (v3 : Int32) (v4 : Int32), K5 v3 v4 → G Λ μ (0, 0) 5 [some (.ref 49), some (.int v1), some (.int v2), some (.int v3), some (.int v4), none] []) (hw : wX12_between_J34 μ K K5 v1 v2 v3 v4 v5) : G Λ μ (0, 0) 34 [some (.ref 49), some (.int v1), some (.int v2), some (.int v3), some (.int v4), some (.int v5)] [] := by
  unfold wX12_between_J34 at hw
  refine cl_iload_n hG (hx_dq tdX12_between_0 19 rfl) rfl (cl_iconst hG (-1) (hx_dq tdX12_between_0 20 rfl) iconst_m1 (cl_icmp_eq hG 48 (hx_dq tdX12_between_0 21 rfl) rfl (fun c36 => ?_) (fun c36 => ?_)))
  · replace hw := hw.1 c36
    exact cl_sub hG (hx_le_c rfl (hx_le_c rfl (hx_le_c rfl (hx_le_c rfl (hx_le_c rfl (hx_le_c rfl hx_le_0)))))) (kX12_between_J48 hG cA hF v1 v2 v3 v4 v5 hK (fun z0 z1 hw => hk5 z0 z1 hw) hw)
  · replace hw := hw.2 c36
    refine cl_iload hG (hx_dq tdX12_between_0 22 rfl) rfl (cl_iload_n hG (hx_dq tdX12_between_0 23 rfl) rfl (cl_icmp_lt hG 48 (hx_dq tdX12_between_0 24 rfl) rfl (fun c42 => ?_) (fun c42 => ?_)))
    · replace hw := hw.1 c42
      exact cl_sub hG (hx_le_c rfl (hx_le_c rfl (hx_le_c rfl (hx_le_c rfl (hx_le_c rfl (hx_le_c rfl hx_le_0)))))) (kX12_between_J48 hG cA hF v1 v2 v3 v4 v5 hK (fun z0 z1 hw => hk5 z0 z1 hw) hw)
    · replace hw := hw.2 c42
      refine cl_goto hG 86 (hx_dq tdX12_between_0 25 rfl) rfl ?_
      exact cl_sub hG (hx_le_c rfl (hx_le_c rfl (hx_le_c rfl (hx_le_c rfl (hx_le_c rfl (hx_le_n hx_le_0)))))) (kX12_between_J86_3 hG cA hF v1 v2 v3 v4 hK (fun z0 z1 hw => hk5 z0 z1 hw) hw)
def wX12_between_J86_4 (μ : hx_M) (K : Int32 → Prop) (K5 : Int32 → Int32 → Prop) (v1 : Int32) (v2 : Int32) (v3 : Int32) (v4 : Int32)   : Prop := K5 v3 (v4 + 1)
set_option maxRecDepth 100000 in
set_option maxHeartbeats 4000000 in
theorem kX12_between_J86_4 {G : hx_GT} {KK : hx_KT} (hG : hx_K cX12_between 6 0 0 (some .int) TbX12 KK G) (cA : hx_CA RX12 cX12_between 1 0 0 G) {Λ : hx_L} (hF : mF Λ) {μ : hx_M} (v1 : Int32) (v2 : Int32) (v3 : Int32) (v4 : Int32)  {K : Int32 → Prop} (hK : ∀ (r : Int32), K r → KK (some (.int r)) Λ μ) {K5 : Int32 → Int32 → Prop} (hk5 : ∀ (v3 : Int32) (v4 : Int32), K5 v3 v4 → G Λ μ (0, 0) 5 [some (.ref 49), some (.int v1), some (.int v2), some (.int v3), some (.int v4), none] []) (hw : wX12_between_J86_4 μ K K5 v1 v2 v3 v4) : G Λ μ (0, 0) 86 [some (.ref 49), some (.int v1), some (.int v2), some (.int v3), some (.int v4), none] [] := by
  unfold wX12_between_J86_4 at hw
  exact cl_iinc hG (v4 + 1) (hx_dq tdX12_between_1 18 rfl) rfl (congrArg (fun z => v4 + z) iconst_1) (Nat.le_of_ble_eq_true rfl) rfl (cl_goto hG 5 (hx_dq tdX12_between_1 19 rfl) rfl (cl_sub hG (hx_le_c rfl (hx_le_c rfl (hx_le_c rfl (hx_le_c rfl (hx_le_c rfl (hx_le_n hx_le_0)))))) (hk5 v3 (v4 + 1) hw)))
def wX12_between_L5 (μ : hx_M) (v1 : Int32) (v2 : Int32) (K : Int32 → Prop)  : Nat → Int32 → Int32 → Prop
  | 0, _, _ => False
  | n + 1, v3, v4 => ((μ.1 49 0) ≤ v4 → (K v3)) ∧ (¬ ((μ.1 49 0) ≤ v4) → (vp_in v4 16 ∧ (v1 = (-1) → (wX12_between_J34 μ K (wX12_between_L5 μ v1 v2 K n) v1 v2 v3 v4 (μ.1 88 v4.toNatClampNeg))) ∧ (¬ (v1 = (-1)) → (((μ.1 88 v4.toNatClampNeg) < v1 → (wX12_between_J86_4 μ K (wX12_between_L5 μ v1 v2 K n) v1 v2 v3 v4)) ∧ (¬ ((μ.1 88 v4.toNatClampNeg) < v1) → (wX12_between_J34 μ K (wX12_between_L5 μ v1 v2 K n) v1 v2 v3 v4 (μ.1 88 v4.toNatClampNeg)))))))
set_option maxRecDepth 100000 in
set_option maxHeartbeats 4000000 in
theorem kX12_between_L5 {G : hx_GT} {KK : hx_KT} (hG : hx_K cX12_between 6 0 0 (some .int) TbX12 KK G) (cA : hx_CA RX12 cX12_between 1 0 0 G) {Λ : hx_L} (hF : mF Λ) {μ : hx_M} (v1 : Int32) (v2 : Int32) {K : Int32 → Prop} (hK : ∀ (r : Int32), K r → KK (some (.int r)) Λ μ)  : ∀ (n : Nat) (v3 : Int32) (v4 : Int32), wX12_between_L5 μ v1 v2 K n v3 v4 → G Λ μ (0, 0) 5 [some (.ref 49), some (.int v1), some (.int v2), some (.int v3), some (.int v4), none] [] := by
  intro n
  induction n with
  | zero =>
    intro v3 v4 hw
    exact False.elim (by simpa only [wX12_between_L5] using hw)
  | succ n ih =>
    intro v3 v4 hw
    unfold wX12_between_L5 at hw
    refine cl_iload hG (hx_dq tdX12_between_0 4 rfl) rfl (cl_aload_n hG (hx_dq tdX12_between_0 5 rfl) rfl (cl_getI hG fmX12_154 (hx_dq tdX12_between_0 6 rfl) (mF_S49 hF) (cl_icmp_ge hG 92 (hx_dq tdX12_between_0 7 rfl) rfl (fun c11 => ?_) (fun c11 => ?_))))
    · replace hw := hw.1 c11
      exact cl_iload_n hG (hx_dq tdX12_between_1 20 rfl) rfl (cl_iret hG (hx_dq tdX12_between_1 21 rfl) rfl rfl (hK _ hw) (Nat.le_refl _) (Nat.le_refl _))
    · replace hw := hw.2 c11
      obtain ⟨i20_1, hw⟩ := hw
      refine cl_aload_n hG (hx_dq tdX12_between_0 8 rfl) rfl (cl_getS hG fmX12_138 (hx_dq tdX12_between_0 9 rfl) (mF_S49 hF) (mF_R49_63 hF) (cl_iload hG (hx_dq tdX12_between_0 10 rfl) rfl (cl_iald hG (hx_dq tdX12_between_0 11 rfl) (mF_S88 hF) i20_1 (cl_istore hG (hx_dq tdX12_between_0 12 rfl) (Nat.le_of_ble_eq_true rfl) rfl (cl_iload_n hG (hx_dq tdX12_between_0 13 rfl) rfl (cl_iconst hG (-1) (hx_dq tdX12_between_0 14 rfl) iconst_m1 (cl_icmp_eq hG 34 (hx_dq tdX12_between_0 15 rfl) rfl (fun c25 => ?_) (fun c25 => ?_))))))))
      · replace hw := hw.1 c25
        exact cl_sub hG (hx_le_c rfl (hx_le_c rfl (hx_le_c rfl (hx_le_c rfl (hx_le_c rfl (hx_le_c rfl hx_le_0)))))) (kX12_between_J34 hG cA hF v1 v2 v3 v4 (μ.1 88 v4.toNatClampNeg) hK (fun z0 z1 hw => ih z0 z1 hw) hw)
      · replace hw := hw.2 c25
        refine cl_iload hG (hx_dq tdX12_between_0 16 rfl) rfl (cl_iload_n hG (hx_dq tdX12_between_0 17 rfl) rfl (cl_icmp_lt hG 86 (hx_dq tdX12_between_0 18 rfl) rfl (fun c31 => ?_) (fun c31 => ?_)))
        · replace hw := hw.1 c31
          exact cl_sub hG (hx_le_c rfl (hx_le_c rfl (hx_le_c rfl (hx_le_c rfl (hx_le_c rfl (hx_le_n hx_le_0)))))) (kX12_between_J86_4 hG cA hF v1 v2 v3 v4 hK (fun z0 z1 hw => ih z0 z1 hw) hw)
        · replace hw := hw.2 c31
          exact cl_sub hG (hx_le_c rfl (hx_le_c rfl (hx_le_c rfl (hx_le_c rfl (hx_le_c rfl (hx_le_c rfl hx_le_0)))))) (kX12_between_J34 hG cA hF v1 v2 v3 v4 (μ.1 88 v4.toNatClampNeg) hK (fun z0 z1 hw => ih z0 z1 hw) hw)
def wX12_between (μ : hx_M) (v1 : Int32) (v2 : Int32) (K : Int32 → Prop) : Prop := ∃ n5_5, wX12_between_L5 μ v1 v2 K n5_5 0 0
set_option maxRecDepth 100000 in
set_option maxHeartbeats 4000000 in
theorem kX12_between {G : hx_GT} {KK : hx_KT} (hG : hx_K cX12_between 6 0 0 (some .int) TbX12 KK G) (cA : hx_CA RX12 cX12_between 1 0 0 G) {Λ : hx_L} (hF : mF Λ) {μ : hx_M} (v1 : Int32) (v2 : Int32) {K : Int32 → Prop} (hK : ∀ (r : Int32), K r → KK (some (.int r)) Λ μ) (hw : wX12_between μ v1 v2 K) : G Λ μ (0, 0) 0 [some (.ref 49), some (.int v1), some (.int v2), none, none, none] [] := by
  unfold wX12_between at hw
  refine cl_iconst hG 0 (hx_dq tdX12_between_0 0 rfl) iconst_0 (cl_istore_n hG (hx_dq tdX12_between_0 1 rfl) (Nat.le_of_ble_eq_true rfl) rfl (cl_iconst hG 0 (hx_dq tdX12_between_0 2 rfl) iconst_0 (cl_istore hG (hx_dq tdX12_between_0 3 rfl) (Nat.le_of_ble_eq_true rfl) rfl ?_)))
  obtain ⟨n_, hw⟩ := hw
  refine cl_sub hG (hx_le_c rfl (hx_le_c rfl (hx_le_c rfl (hx_le_c rfl (hx_le_c rfl (hx_le_n hx_le_0)))))) (kX12_between_L5 hG cA hF v1 v2 hK n_ 0 0 hw)
def sX12_between : hx_ST := fun Λ μ as KK => mF Λ ∧ ∃ (v1 : Int32) (v2 : Int32) (K : Int32 → Prop), as = [.ref 49, .int v1, .int v2] ∧ wX12_between μ v1 v2 K ∧ (∀ (r : Int32), K r → KK (some (.int r)) Λ μ)
theorem sX12_between_mk {Λ : hx_L} {μ : hx_M} {KK : hx_KT} {v1 : Int32} {v2 : Int32} {K : Int32 → Prop} (hF : mF Λ) (hw : wX12_between μ v1 v2 K) (hk : ∀ (r : Int32), K r → KK (some (.int r)) Λ μ) : sX12_between Λ μ [.ref 49, .int v1, .int v2] KK := ⟨hF, _, _, _, rfl, hw, hk⟩
theorem conX12_between : hx_Con yX12_between cX12_between 6 (some .int) 1 0 0 sX12_between := by
  refine hx_con_of (by decide +kernel) tokX12 (by decide) ?_ ?_
  · intro Λ μ as KK h
    obtain ⟨hF, v1, v2, K, rfl, hw, hK⟩ := h
    exact Nat.le_of_ble_eq_true rfl
  · intro G KK hG cA Λ μ as h
    obtain ⟨hF, v1, v2, K, rfl, hw, hK⟩ := h
    exact cl_sub hG (hx_le_c rfl (hx_le_c rfl (hx_le_c rfl (hx_le_n (hx_le_n (hx_le_n hx_le_0)))))) (kX12_between hG cA hF _ _ hK hw)
/-! HemLineModel.shops(I)V -/
def tbX12_shops_0 : List (Nat × Instr × Nat) := [(0, .iconst 0, 1), (1, .istore_n 2, 1), (2, .iload_n 2, 1), (3, .aload_n 0, 1), (4, .getfield 154, 3), (7, .if_icmp .ge 20, 3), (10, .aload_n 0, 1), (11, .getfield 138, 3), (14, .iload_n 2, 1), (15, .aload_n 0, 1), (16, .iload_n 2, 1), (17, .invokevirtual 368, 3), (20, .iastore, 1), (21, .iinc 2 1, 3), (24, .goto (-22), 3), (27, .iconst 0, 1), (28, .istore_n 2, 1), (29, .iload_n 2, 1), (30, .iload_n 1, 1), (31, .if_icmp .ge 105, 3), (34, .iconst 0, 1), (35, .istore_n 3, 1), (36, .iload_n 3, 1), (37, .bipush 61, 2), (39, .if_icmp .ge 91, 3), (42, .iload_n 2, 1), (43, .ifCond .ne 12, 3), (46, .aload_n 0, 1), (47, .iload_n 3, 1), (48, .iconst (-1), 1), (49, .invokevirtual 437, 3), (52, .goto 6, 3)]
def tbX12_shops_1 : List (Nat × Instr × Nat) := [(55, .ldc_w 440, 3), (58, .istore 4, 2), (60, .iload_n 3, 1), (61, .iconst 1, 1), (62, .iadd, 1), (63, .istore 5, 2), (65, .iload 5, 2), (67, .bipush 61, 2), (69, .if_icmp .ge 42, 3), (72, .iload_n 2, 1), (73, .ifCond .le 38, 3), (76, .iload 4, 2), (78, .aload_n 0, 1), (79, .iload_n 3, 1), (80, .iload 5, 2), (82, .invokevirtual 437, 3), (85, .aload_n 0, 1), (86, .getfield 141, 3), (89, .bipush 61, 2), (91, .iload_n 2, 1), (92, .iconst 1, 1), (93, .isub, 1), (94, .imul, 1), (95, .iload 5, 2), (97, .iadd, 1), (98, .iaload, 1), (99, .iadd, 1), (100, .invokestatic 334, 3), (103, .istore 4, 2), (105, .iinc 5 1, 3), (108, .goto (-43), 3), (111, .aload_n 0, 1)]
def tbX12_shops_2 : List (Nat × Instr × Nat) := [(112, .getfield 141, 3), (115, .bipush 61, 2), (117, .iload_n 2, 1), (118, .imul, 1), (119, .iload_n 3, 1), (120, .iadd, 1), (121, .iload 4, 2), (123, .iastore, 1), (124, .iinc 3 1, 3), (127, .goto (-91), 3), (130, .iinc 2 1, 3), (133, .goto (-104), 3), (136, .return_, 1)]
theorem tdX12_shops_0 : hx_dt cX12_shops tbX12_shops_0 = true := by decide +kernel
theorem tdX12_shops_1 : hx_dt cX12_shops tbX12_shops_1 = true := by decide +kernel
theorem tdX12_shops_2 : hx_dt cX12_shops tbX12_shops_2 = true := by decide +kernel
theorem caX12_shops_368 {G : hx_GT} (cA : hx_CA RX12 cX12_shops 6 0 0 G) : hx_CV cX12_shops G 0 0 368 12 1 sX12_wantsNow 0 0 := cA.1 conX12_wantsNow rfl rfl ⟨by decide +kernel, by decide +kernel, by decide +kernel⟩ mw_1547 mw_1549 mw_65 mw_97 mw_1550 (by decide) (by decide)
theorem caX12_shops_437 {G : hx_GT} (cA : hx_CA RX12 cX12_shops 6 0 0 G) : hx_CV cX12_shops G 0 0 437 12 2 sX12_between 0 0 := cA.1 conX12_between rfl rfl ⟨by decide +kernel, by decide +kernel, by decide +kernel⟩ mw_1675 mw_1677 mw_79 mw_97 mw_1678 (by decide) (by decide)
def wX12_shops_L2 (v1 : Int32) (K : hx_M → Prop) (K27 : hx_M → Prop) : Nat → Int32 → hx_M → Prop
  | 0, _, _ => False
  | n + 1, v2, μ => ((μ.1 49 0) ≤ v2 → (K27 μ)) ∧ (¬ ((μ.1 49 0) ≤ v2) → (wX12_wantsNow μ v2 (fun r17_2 m17_1 => vp_in v2 16 ∧ wX12_shops_L2 v1 K K27 n (v2 + 1) (hx_sI m17_1 88 v2.toNatClampNeg r17_2))))
set_option maxRecDepth 100000 in
set_option maxHeartbeats 4000000 in
theorem kX12_shops_L2 {G : hx_GT} {KK : hx_KT} (hG : hx_K cX12_shops 6 0 0 (none) TbX12 KK G) (cA : hx_CA RX12 cX12_shops 6 0 0 G) {Λ : hx_L} (hF : mF Λ)  (v1 : Int32) {K : hx_M → Prop} (hK : ∀ (m : hx_M), K m → KK none Λ m) {K27 : hx_M → Prop} (hk27 : ∀ (μ : hx_M), K27 μ → G Λ μ (0, 0) 27 [some (.ref 49), some (.int v1), none, none, none, none] []) : ∀ (n : Nat) (v2 : Int32) (μ : hx_M), wX12_shops_L2 v1 K K27 n v2 μ → G Λ μ (0, 0) 2 [some (.ref 49), some (.int v1), some (.int v2), none, none, none] [] := by
  intro n
  induction n with
  | zero =>
    intro v2 μ hw
    exact False.elim (by simpa only [wX12_shops_L2] using hw)
  | succ n ih =>
    intro v2 μ hw
    unfold wX12_shops_L2 at hw
    refine cl_iload_n hG (hx_dq tdX12_shops_0 2 rfl) rfl (cl_aload_n hG (hx_dq tdX12_shops_0 3 rfl) rfl (cl_getI hG fmX12_154 (hx_dq tdX12_shops_0 4 rfl) (mF_S49 hF) (cl_icmp_ge hG 27 (hx_dq tdX12_shops_0 5 rfl) rfl (fun c7 => ?_) (fun c7 => ?_))))
    · replace hw := hw.1 c7
      exact cl_sub hG (hx_le_c rfl (hx_le_c rfl (hx_le_n (hx_le_n (hx_le_n (hx_le_n hx_le_0)))))) (hk27 _ hw)
    · replace hw := hw.2 c7
      refine cl_aload_n hG (hx_dq tdX12_shops_0 6 rfl) rfl (cl_getS hG fmX12_138 (hx_dq tdX12_shops_0 7 rfl) (mF_S49 hF) (mF_R49_63 hF) (cl_iload_n hG (hx_dq tdX12_shops_0 8 rfl) rfl (cl_aload_n hG (hx_dq tdX12_shops_0 9 rfl) rfl (cl_iload_n hG (hx_dq tdX12_shops_0 10 rfl) rfl (cl_callV1 (caX12_shops_368 cA) (hx_dq tdX12_shops_0 11 rfl) (mF_S49 hF) (Nat.le_of_ble_eq_true rfl) (Nat.le_refl _) (Nat.le_refl _) (sX12_wantsNow_mk hF hw (fun r17_2 m17_1 hw => ?_)))))))
      obtain ⟨i20_3, hw⟩ := hw
      exact cl_iast hG (hx_dq tdX12_shops_0 12 rfl) (mF_S88 hF) i20_3 (cl_iinc hG (v2 + 1) (hx_dq tdX12_shops_0 13 rfl) rfl (congrArg (fun z => v2 + z) iconst_1) (Nat.le_of_ble_eq_true rfl) rfl (cl_goto hG 2 (hx_dq tdX12_shops_0 14 rfl) rfl (cl_sub hG (hx_le_c rfl (hx_le_c rfl (hx_le_c rfl (hx_le_n (hx_le_n (hx_le_n hx_le_0)))))) (ih (v2 + 1) _ hw))))
def wX12_shops_L65 (μ : hx_M) (v1 : Int32) (v2 : Int32) (v3 : Int32) (K : hx_M → Prop) (K111 : Int32 → Prop) : Nat → Int32 → Int32 → Prop
  | 0, _, _ => False
  | n + 1, v4, v5 => (61 ≤ v5 → (K111 v4)) ∧ (¬ (61 ≤ v5) → ((v2 ≤ 0 → (K111 v4)) ∧ (¬ (v2 ≤ 0) → (wX12_between μ v3 v5 (fun r82_6 => vp_in ((61 * (v2 - 1)) + v5) 427 ∧ ∀ x_8 : Int32, x_8 = ((μ.1 89 (((61 * (v2 - 1)) + v5).toNatClampNeg))) → ∀ x_9 : Int32, x_9 = (if (r82_6 + x_8) < v4 then (r82_6 + x_8) else v4) → wX12_shops_L65 μ v1 v2 v3 K K111 n x_9 (v5 + 1))))))
set_option maxRecDepth 100000 in
set_option maxHeartbeats 4000000 in
theorem kX12_shops_L65 {G : hx_GT} {KK : hx_KT} (hG : hx_K cX12_shops 6 0 0 (none) TbX12 KK G) (cA : hx_CA RX12 cX12_shops 6 0 0 G) {Λ : hx_L} (hF : mF Λ) {μ : hx_M} (v1 : Int32) (v2 : Int32) (v3 : Int32) {K : hx_M → Prop} (hK : ∀ (m : hx_M), K m → KK none Λ m) {K111 : Int32 → Prop} (hk111 : ∀ (v4 : Int32), K111 v4 → G Λ μ (0, 0) 111 [some (.ref 49), some (.int v1), some (.int v2), some (.int v3), some (.int v4), none] []) : ∀ (n : Nat) (v4 : Int32) (v5 : Int32), wX12_shops_L65 μ v1 v2 v3 K K111 n v4 v5 → G Λ μ (0, 0) 65 [some (.ref 49), some (.int v1), some (.int v2), some (.int v3), some (.int v4), some (.int v5)] [] := by
  intro n
  induction n with
  | zero =>
    intro v4 v5 hw
    exact False.elim (by simpa only [wX12_shops_L65] using hw)
  | succ n ih =>
    intro v4 v5 hw
    unfold wX12_shops_L65 at hw
    refine cl_iload hG (hx_dq tdX12_shops_1 6 rfl) rfl (cl_bipush hG 61 (hx_dq tdX12_shops_1 7 rfl) bipush_61 (cl_icmp_ge hG 111 (hx_dq tdX12_shops_1 8 rfl) rfl (fun c69 => ?_) (fun c69 => ?_)))
    · replace hw := hw.1 c69
      exact cl_sub hG (hx_le_c rfl (hx_le_c rfl (hx_le_c rfl (hx_le_c rfl (hx_le_c rfl (hx_le_n hx_le_0)))))) (hk111 v4 hw)
    · replace hw := hw.2 c69
      refine cl_iload_n hG (hx_dq tdX12_shops_1 9 rfl) rfl (cl_if_le hG 111 (hx_dq tdX12_shops_1 10 rfl) rfl (fun c73 => ?_) (fun c73 => ?_))
      · replace hw := hw.1 c73
        exact cl_sub hG (hx_le_c rfl (hx_le_c rfl (hx_le_c rfl (hx_le_c rfl (hx_le_c rfl (hx_le_n hx_le_0)))))) (hk111 v4 hw)
      · replace hw := hw.2 c73
        refine cl_iload hG (hx_dq tdX12_shops_1 11 rfl) rfl (cl_aload_n hG (hx_dq tdX12_shops_1 12 rfl) rfl (cl_iload_n hG (hx_dq tdX12_shops_1 13 rfl) rfl (cl_iload hG (hx_dq tdX12_shops_1 14 rfl) rfl (cl_callV2 (caX12_shops_437 cA) (hx_dq tdX12_shops_1 15 rfl) (mF_S49 hF) (Nat.le_of_ble_eq_true rfl) (Nat.le_refl _) (Nat.le_refl _) (sX12_between_mk hF hw (fun r82_6 hw => ?_))))))
        obtain ⟨i98_7, hw⟩ := hw
        refine cl_aload_n hG (hx_dq tdX12_shops_1 16 rfl) rfl (cl_getS hG fmX12_141 (hx_dq tdX12_shops_1 17 rfl) (mF_S49 hF) (mF_R49_64 hF) (cl_bipush hG 61 (hx_dq tdX12_shops_1 18 rfl) bipush_61 (cl_iload_n hG (hx_dq tdX12_shops_1 19 rfl) rfl (cl_iconst hG 1 (hx_dq tdX12_shops_1 20 rfl) iconst_1 (cl_isub hG (hx_dq tdX12_shops_1 21 rfl) (cl_imul hG (hx_dq tdX12_shops_1 22 rfl) (cl_iload hG (hx_dq tdX12_shops_1 23 rfl) rfl (cl_iadd hG (hx_dq tdX12_shops_1 24 rfl) (cl_iald hG (hx_dq tdX12_shops_1 25 rfl) (mF_S89 hF) i98_7 (cl_nmI (fun x_8 e_8 => ?_)))))))))))
        replace hw := hw x_8 e_8
        refine cl_iadd hG (hx_dq tdX12_shops_1 26 rfl) (cl_mmin hG mmX12_334 (hx_dq tdX12_shops_1 27 rfl) (Nat.le_refl _) (Nat.le_refl _) (Nat.le_of_ble_eq_true rfl) (cl_nmI (fun x_9 e_9 => ?_)))
        replace hw := hw x_9 e_9
        exact cl_istore hG (hx_dq tdX12_shops_1 28 rfl) (Nat.le_of_ble_eq_true rfl) rfl (cl_iinc hG (v5 + 1) (hx_dq tdX12_shops_1 29 rfl) rfl (congrArg (fun z => v5 + z) iconst_1) (Nat.le_of_ble_eq_true rfl) rfl (cl_goto hG 65 (hx_dq tdX12_shops_1 30 rfl) rfl (cl_sub hG (hx_le_c rfl (hx_le_c rfl (hx_le_c rfl (hx_le_c rfl (hx_le_c rfl (hx_le_c rfl hx_le_0)))))) (ih x_9 (v5 + 1) hw))))
def wX12_shops_J111  (K : hx_M → Prop) (K36 : Int32 → hx_M → Prop) (v1 : Int32) (v2 : Int32) (v3 : Int32) (v4 : Int32)  (μ : hx_M) : Prop := vp_in ((61 * v2) + v3) 427 ∧ K36 (v3 + 1) (hx_sI μ 89 (((61 * v2) + v3).toNatClampNeg) v4)
set_option maxRecDepth 100000 in
set_option maxHeartbeats 4000000 in
theorem kX12_shops_J111 {G : hx_GT} {KK : hx_KT} (hG : hx_K cX12_shops 6 0 0 (none) TbX12 KK G) (cA : hx_CA RX12 cX12_shops 6 0 0 G) {Λ : hx_L} (hF : mF Λ) {μ : hx_M} (v1 : Int32) (v2 : Int32) (v3 : Int32) (v4 : Int32)  {K : hx_M → Prop} (hK : ∀ (m : hx_M), K m → KK none Λ m) {K36 : Int32 → hx_M → Prop} (hk36 : ∀ (v3 : Int32) (μ : hx_M), K36 v3 μ → G Λ μ (0, 0) 36 [some (.ref 49), some (.int v1), some (.int v2), some (.int v3), none, none] []) (hw : wX12_shops_J111 K K36 v1 v2 v3 v4 μ) : G Λ μ (0, 0) 111 [some (.ref 49), some (.int v1), some (.int v2), some (.int v3), some (.int v4), none] [] := by
  unfold wX12_shops_J111 at hw
  obtain ⟨i123_11, hw⟩ := hw
  exact cl_aload_n hG (hx_dq tdX12_shops_1 31 rfl) rfl (cl_getS hG fmX12_141 (hx_dq tdX12_shops_2 0 rfl) (mF_S49 hF) (mF_R49_64 hF) (cl_bipush hG 61 (hx_dq tdX12_shops_2 1 rfl) bipush_61 (cl_iload_n hG (hx_dq tdX12_shops_2 2 rfl) rfl (cl_imul hG (hx_dq tdX12_shops_2 3 rfl) (cl_iload_n hG (hx_dq tdX12_shops_2 4 rfl) rfl (cl_iadd hG (hx_dq tdX12_shops_2 5 rfl) (cl_iload hG (hx_dq tdX12_shops_2 6 rfl) rfl (cl_iast hG (hx_dq tdX12_shops_2 7 rfl) (mF_S89 hF) i123_11 (cl_iinc hG (v3 + 1) (hx_dq tdX12_shops_2 8 rfl) rfl (congrArg (fun z => v3 + z) iconst_1) (Nat.le_of_ble_eq_true rfl) rfl (cl_goto hG 36 (hx_dq tdX12_shops_2 9 rfl) rfl (cl_sub hG (hx_le_c rfl (hx_le_c rfl (hx_le_c rfl (hx_le_c rfl (hx_le_n (hx_le_n hx_le_0)))))) (hk36 (v3 + 1) _ hw))))))))))))
def wX12_shops_J58  (K : hx_M → Prop) (K36 : Int32 → hx_M → Prop) (v1 : Int32) (v2 : Int32) (v3 : Int32) (t0 : Int32) (μ : hx_M) : Prop := ∃ n65_12, wX12_shops_L65 μ v1 v2 v3 K (fun v4_10 => wX12_shops_J111 K (K36) v1 v2 v3 v4_10 μ) n65_12 t0 (v3 + 1)
set_option maxRecDepth 100000 in
set_option maxHeartbeats 4000000 in
theorem kX12_shops_J58 {G : hx_GT} {KK : hx_KT} (hG : hx_K cX12_shops 6 0 0 (none) TbX12 KK G) (cA : hx_CA RX12 cX12_shops 6 0 0 G) {Λ : hx_L} (hF : mF Λ) {μ : hx_M} (v1 : Int32) (v2 : Int32) (v3 : Int32) (t0 : Int32) {K : hx_M → Prop} (hK : ∀ (m : hx_M), K m → KK none Λ m) {K36 : Int32 → hx_M → Prop} (hk36 : ∀ (v3 : Int32) (μ : hx_M), K36 v3 μ → G Λ μ (0, 0) 36 [some (.ref 49), some (.int v1), some (.int v2), some (.int v3), none, none] []) (hw : wX12_shops_J58 K K36 v1 v2 v3 t0 μ) : G Λ μ (0, 0) 58 [some (.ref 49), some (.int v1), some (.int v2), some (.int v3), none, none] [.int t0] := by
  unfold wX12_shops_J58 at hw
  refine cl_istore hG (hx_dq tdX12_shops_1 1 rfl) (Nat.le_of_ble_eq_true rfl) rfl (cl_iload_n hG (hx_dq tdX12_shops_1 2 rfl) rfl (cl_iconst hG 1 (hx_dq tdX12_shops_1 3 rfl) iconst_1 (cl_iadd hG (hx_dq tdX12_shops_1 4 rfl) (cl_istore hG (hx_dq tdX12_shops_1 5 rfl) (Nat.le_of_ble_eq_true rfl) rfl ?_))))
  obtain ⟨n_, hw⟩ := hw
  refine cl_sub hG (hx_le_c rfl (hx_le_c rfl (hx_le_c rfl (hx_le_c rfl (hx_le_c rfl (hx_le_c rfl hx_le_0)))))) (kX12_shops_L65 hG cA hF v1 v2 v3 hK (fun v4_10 hw => ?_) n_ t0 (v3 + 1) hw)
  · exact cl_sub hG (hx_le_c rfl (hx_le_c rfl (hx_le_c rfl (hx_le_c rfl (hx_le_c rfl (hx_le_n hx_le_0)))))) (kX12_shops_J111 hG cA hF v1 v2 v3 v4_10 hK (fun z0 z1 hw => hk36 z0 z1 hw) hw)
def wX12_shops_L36 (v1 : Int32) (v2 : Int32) (K : hx_M → Prop) (K130 : hx_M → Prop) : Nat → Int32 → hx_M → Prop
  | 0, _, _ => False
  | n + 1, v3, μ => (61 ≤ v3 → (K130 μ)) ∧ (¬ (61 ≤ v3) → ((v2 ≠ 0 → (wX12_shops_J58 K (wX12_shops_L36 v1 v2 K K130 n) v1 v2 v3 1000000 μ)) ∧ (v2 = 0 → (wX12_between μ v3 (-1) (fun r49_14 => wX12_shops_J58 K (wX12_shops_L36 v1 v2 K K130 n) v1 v2 v3 r49_14 μ)))))
set_option maxRecDepth 100000 in
set_option maxHeartbeats 4000000 in
theorem kX12_shops_L36 {G : hx_GT} {KK : hx_KT} (hG : hx_K cX12_shops 6 0 0 (none) TbX12 KK G) (cA : hx_CA RX12 cX12_shops 6 0 0 G) {Λ : hx_L} (hF : mF Λ)  (v1 : Int32) (v2 : Int32) {K : hx_M → Prop} (hK : ∀ (m : hx_M), K m → KK none Λ m) {K130 : hx_M → Prop} (hk130 : ∀ (μ : hx_M), K130 μ → G Λ μ (0, 0) 130 [some (.ref 49), some (.int v1), some (.int v2), none, none, none] []) : ∀ (n : Nat) (v3 : Int32) (μ : hx_M), wX12_shops_L36 v1 v2 K K130 n v3 μ → G Λ μ (0, 0) 36 [some (.ref 49), some (.int v1), some (.int v2), some (.int v3), none, none] [] := by
  intro n
  induction n with
  | zero =>
    intro v3 μ hw
    exact False.elim (by simpa only [wX12_shops_L36] using hw)
  | succ n ih =>
    intro v3 μ hw
    unfold wX12_shops_L36 at hw
    refine cl_iload_n hG (hx_dq tdX12_shops_0 22 rfl) rfl (cl_bipush hG 61 (hx_dq tdX12_shops_0 23 rfl) bipush_61 (cl_icmp_ge hG 130 (hx_dq tdX12_shops_0 24 rfl) rfl (fun c39 => ?_) (fun c39 => ?_)))
    · replace hw := hw.1 c39
      exact cl_sub hG (hx_le_c rfl (hx_le_c rfl (hx_le_c rfl (hx_le_n (hx_le_n (hx_le_n hx_le_0)))))) (hk130 _ hw)
    · replace hw := hw.2 c39
      refine cl_iload_n hG (hx_dq tdX12_shops_0 25 rfl) rfl (cl_if_ne hG 55 (hx_dq tdX12_shops_0 26 rfl) rfl (fun c43 => ?_) (fun c43 => ?_))
      · replace hw := hw.1 c43
        refine cl_ldcw hG ciX12_440 (hx_dq tdX12_shops_1 0 rfl) ?_
        exact cl_sub hG (hx_le_c rfl (hx_le_c rfl (hx_le_c rfl (hx_le_c rfl (hx_le_n (hx_le_n hx_le_0)))))) (kX12_shops_J58 hG cA hF v1 v2 v3 1000000 hK (fun z0 z1 hw => ih z0 z1 hw) hw)
      · replace hw := hw.2 c43
        refine cl_aload_n hG (hx_dq tdX12_shops_0 27 rfl) rfl (cl_iload_n hG (hx_dq tdX12_shops_0 28 rfl) rfl (cl_iconst hG (-1) (hx_dq tdX12_shops_0 29 rfl) iconst_m1 (cl_callV2 (caX12_shops_437 cA) (hx_dq tdX12_shops_0 30 rfl) (mF_S49 hF) (Nat.le_of_ble_eq_true rfl) (Nat.le_refl _) (Nat.le_refl _) (sX12_between_mk hF hw (fun r49_14 hw => ?_)))))
        refine cl_goto hG 58 (hx_dq tdX12_shops_0 31 rfl) rfl ?_
        exact cl_sub hG (hx_le_c rfl (hx_le_c rfl (hx_le_c rfl (hx_le_c rfl (hx_le_n (hx_le_n hx_le_0)))))) (kX12_shops_J58 hG cA hF v1 v2 v3 r49_14 hK (fun z0 z1 hw => ih z0 z1 hw) hw)
def wX12_shops_L29 (v1 : Int32) (K : hx_M → Prop)  : Nat → Int32 → hx_M → Prop
  | 0, _, _ => False
  | n + 1, v2, μ => (v1 ≤ v2 → (K μ)) ∧ (¬ (v1 ≤ v2) → (∃ n36_16, wX12_shops_L36 v1 v2 K (fun m_15 => wX12_shops_L29 v1 K n (v2 + 1) m_15) n36_16 0 μ))
set_option maxRecDepth 100000 in
set_option maxHeartbeats 4000000 in
theorem kX12_shops_L29 {G : hx_GT} {KK : hx_KT} (hG : hx_K cX12_shops 6 0 0 (none) TbX12 KK G) (cA : hx_CA RX12 cX12_shops 6 0 0 G) {Λ : hx_L} (hF : mF Λ)  (v1 : Int32) {K : hx_M → Prop} (hK : ∀ (m : hx_M), K m → KK none Λ m)  : ∀ (n : Nat) (v2 : Int32) (μ : hx_M), wX12_shops_L29 v1 K n v2 μ → G Λ μ (0, 0) 29 [some (.ref 49), some (.int v1), some (.int v2), none, none, none] [] := by
  intro n
  induction n with
  | zero =>
    intro v2 μ hw
    exact False.elim (by simpa only [wX12_shops_L29] using hw)
  | succ n ih =>
    intro v2 μ hw
    unfold wX12_shops_L29 at hw
    refine cl_iload_n hG (hx_dq tdX12_shops_0 17 rfl) rfl (cl_iload_n hG (hx_dq tdX12_shops_0 18 rfl) rfl (cl_icmp_ge hG 136 (hx_dq tdX12_shops_0 19 rfl) rfl (fun c31 => ?_) (fun c31 => ?_)))
    · replace hw := hw.1 c31
      exact cl_vret hG (hx_dq tdX12_shops_2 12 rfl) rfl (hK _ hw) (Nat.le_refl _) (Nat.le_refl _)
    · replace hw := hw.2 c31
      refine cl_iconst hG 0 (hx_dq tdX12_shops_0 20 rfl) iconst_0 (cl_istore_n hG (hx_dq tdX12_shops_0 21 rfl) (Nat.le_of_ble_eq_true rfl) rfl ?_)
      obtain ⟨n_, hw⟩ := hw
      refine cl_sub hG (hx_le_c rfl (hx_le_c rfl (hx_le_c rfl (hx_le_c rfl (hx_le_n (hx_le_n hx_le_0)))))) (kX12_shops_L36 hG cA hF v1 v2 hK (fun m_15 hw => ?_) n_ 0 _ hw)
      · exact cl_iinc hG (v2 + 1) (hx_dq tdX12_shops_2 10 rfl) rfl (congrArg (fun z => v2 + z) iconst_1) (Nat.le_of_ble_eq_true rfl) rfl (cl_goto hG 29 (hx_dq tdX12_shops_2 11 rfl) rfl (cl_sub hG (hx_le_c rfl (hx_le_c rfl (hx_le_c rfl (hx_le_n (hx_le_n (hx_le_n hx_le_0)))))) (ih (v2 + 1) _ hw)))
def wX12_shops (μ : hx_M) (v1 : Int32) (K : hx_M → Prop) : Prop := ∃ n2_18, wX12_shops_L2 v1 K (fun m_4 => ∃ n29_17, wX12_shops_L29 v1 K n29_17 0 m_4) n2_18 0 μ
set_option maxRecDepth 100000 in
set_option maxHeartbeats 4000000 in
theorem kX12_shops {G : hx_GT} {KK : hx_KT} (hG : hx_K cX12_shops 6 0 0 (none) TbX12 KK G) (cA : hx_CA RX12 cX12_shops 6 0 0 G) {Λ : hx_L} (hF : mF Λ) {μ : hx_M} (v1 : Int32) {K : hx_M → Prop} (hK : ∀ (m : hx_M), K m → KK none Λ m) (hw : wX12_shops μ v1 K) : G Λ μ (0, 0) 0 [some (.ref 49), some (.int v1), none, none, none, none] [] := by
  unfold wX12_shops at hw
  refine cl_iconst hG 0 (hx_dq tdX12_shops_0 0 rfl) iconst_0 (cl_istore_n hG (hx_dq tdX12_shops_0 1 rfl) (Nat.le_of_ble_eq_true rfl) rfl ?_)
  obtain ⟨n_, hw⟩ := hw
  refine cl_sub hG (hx_le_c rfl (hx_le_c rfl (hx_le_c rfl (hx_le_n (hx_le_n (hx_le_n hx_le_0)))))) (kX12_shops_L2 hG cA hF v1 hK (fun m_4 hw => ?_) n_ 0 _ hw)
  · refine cl_iconst hG 0 (hx_dq tdX12_shops_0 15 rfl) iconst_0 (cl_istore_n hG (hx_dq tdX12_shops_0 16 rfl) (Nat.le_of_ble_eq_true rfl) rfl ?_)
    obtain ⟨n_, hw⟩ := hw
    refine cl_sub hG (hx_le_c rfl (hx_le_c rfl (hx_le_c rfl (hx_le_n (hx_le_n (hx_le_n hx_le_0)))))) (kX12_shops_L29 hG cA hF v1 hK n_ 0 _ hw)
def sX12_shops : hx_ST := fun Λ μ as KK => mF Λ ∧ ∃ (v1 : Int32) (K : hx_M → Prop), as = [.ref 49, .int v1] ∧ wX12_shops μ v1 K ∧ (∀ (m : hx_M), K m → KK none Λ m)
theorem sX12_shops_mk {Λ : hx_L} {μ : hx_M} {KK : hx_KT} {v1 : Int32} {K : hx_M → Prop} (hF : mF Λ) (hw : wX12_shops μ v1 K) (hk : ∀ (m : hx_M), K m → KK none Λ m) : sX12_shops Λ μ [.ref 49, .int v1] KK := ⟨hF, _, _, rfl, hw, hk⟩
theorem conX12_shops : hx_Con yX12_shops cX12_shops 6 (none) 6 0 0 sX12_shops := by
  refine hx_con_of (by decide +kernel) tokX12 (by decide) ?_ ?_
  · intro Λ μ as KK h
    obtain ⟨hF, v1, K, rfl, hw, hK⟩ := h
    exact Nat.le_of_ble_eq_true rfl
  · intro G KK hG cA Λ μ as h
    obtain ⟨hF, v1, K, rfl, hw, hK⟩ := h
    exact cl_sub hG (hx_le_c rfl (hx_le_c rfl (hx_le_n (hx_le_n (hx_le_n (hx_le_n hx_le_0)))))) (kX12_shops hG cA hF _ hK hw)
/-! HemLineModel.shop(II)I -/
def tbX12_shop_0 : List (Nat × Instr × Nat) := [(0, .iload_n 1, 1), (1, .iconst 1, 1), (2, .bipush 6, 2), (4, .invokestatic 157, 3), (7, .ifCond .eq 27, 3), (10, .iload_n 2, 1), (11, .ifCond .eq 16, 3), (14, .iload_n 2, 1), (15, .bipush 10, 2), (17, .bipush 9, 2), (19, .iload_n 1, 1), (20, .iadd, 1), (21, .invokestatic 157, 3), (24, .ifCond .eq 10, 3), (27, .aload_n 0, 1), (28, .invokevirtual 389, 3), (31, .ifCond .ne 5, 3), (34, .iconst (-1), 1), (35, .ireturn, 1), (36, .aload_n 0, 1), (37, .iload_n 1, 1), (38, .invokevirtual 441, 3), (41, .iconst 0, 1), (42, .istore_n 3, 1), (43, .ldc_w 440, 3), (46, .istore 4, 2), (48, .bipush 60, 2), (50, .istore 5, 2), (52, .iload 5, 2), (54, .ifCond .lt 50, 3), (57, .aload_n 0, 1), (58, .iconst (-1), 1)]
def tbX12_shop_1 : List (Nat × Instr × Nat) := [(59, .iload 5, 2), (61, .invokevirtual 437, 3), (64, .aload_n 0, 1), (65, .getfield 141, 3), (68, .bipush 61, 2), (70, .iload_n 1, 1), (71, .iconst 1, 1), (72, .isub, 1), (73, .imul, 1), (74, .iload 5, 2), (76, .iadd, 1), (77, .iaload, 1), (78, .iadd, 1), (79, .istore 6, 2), (81, .iload 6, 2), (83, .iload 4, 2), (85, .if_icmp .le 6, 3), (88, .goto 10, 3), (91, .iload 5, 2), (93, .istore_n 3, 1), (94, .iload 6, 2), (96, .istore 4, 2), (98, .iinc 5 (-1), 3), (101, .goto (-49), 3), (104, .iload_n 2, 1), (105, .ifCond .ne 6, 3), (108, .iload 4, 2), (110, .ireturn, 1), (111, .iload_n 3, 1), (112, .istore 5, 2), (114, .iconst 1, 1), (115, .istore 6, 2)]
def tbX12_shop_2 : List (Nat × Instr × Nat) := [(117, .iload 6, 2), (119, .iload_n 2, 1), (120, .bipush 10, 2), (122, .isub, 1), (123, .if_icmp .gt 69, 3), (126, .iload 5, 2), (128, .iconst 1, 1), (129, .iadd, 1), (130, .istore 7, 2), (132, .aload_n 0, 1), (133, .iload 5, 2), (135, .iload 7, 2), (137, .invokevirtual 437, 3), (140, .aload_n 0, 1), (141, .getfield 141, 3), (144, .bipush 61, 2), (146, .iload_n 1, 1), (147, .iconst 1, 1), (148, .isub, 1), (149, .iload 6, 2), (151, .isub, 1), (152, .imul, 1), (153, .iload 7, 2), (155, .iadd, 1), (156, .iaload, 1), (157, .iadd, 1), (158, .aload_n 0, 1), (159, .getfield 141, 3), (162, .bipush 61, 2), (164, .iload_n 1, 1), (165, .iload 6, 2), (167, .isub, 1)]
def tbX12_shop_3 : List (Nat × Instr × Nat) := [(168, .imul, 1), (169, .iload 5, 2), (171, .iadd, 1), (172, .iaload, 1), (173, .if_icmp .eq 9, 3), (176, .iinc 7 1, 3), (179, .goto (-47), 3), (182, .iload 7, 2), (184, .istore 5, 2), (186, .iinc 6 1, 3), (189, .goto (-72), 3), (192, .iload 5, 2), (194, .ireturn, 1)]
theorem tdX12_shop_0 : hx_dt cX12_shop tbX12_shop_0 = true := by decide +kernel
theorem tdX12_shop_1 : hx_dt cX12_shop tbX12_shop_1 = true := by decide +kernel
theorem tdX12_shop_2 : hx_dt cX12_shop tbX12_shop_2 = true := by decide +kernel
theorem tdX12_shop_3 : hx_dt cX12_shop tbX12_shop_3 = true := by decide +kernel
theorem caX12_shop_157 {G : hx_GT} (cA : hx_CA RX12 cX12_shop 7 0 0 G) : hx_CS cX12_shop G 0 0 157 3 sX12_isIn 0 0 := cA.2.1 conX12_isIn ⟨by decide +kernel, by decide +kernel, by decide +kernel⟩ mw_1343 mw_1344 mw_97 mw_1345 (by decide) (by decide)
theorem caX12_shop_389 {G : hx_GT} (cA : hx_CA RX12 cX12_shop 7 0 0 G) : hx_CV cX12_shop G 0 0 389 12 0 sX12_mayTry 0 0 := cA.1 conX12_mayTry rfl rfl ⟨by decide +kernel, by decide +kernel, by decide +kernel⟩ mw_1555 mw_1557 mw_66 mw_97 mw_1558 (by decide) (by decide)
theorem caX12_shop_437 {G : hx_GT} (cA : hx_CA RX12 cX12_shop 7 0 0 G) : hx_CV cX12_shop G 0 0 437 12 2 sX12_between 0 0 := cA.1 conX12_between rfl rfl ⟨by decide +kernel, by decide +kernel, by decide +kernel⟩ mw_1675 mw_1677 mw_79 mw_97 mw_1678 (by decide) (by decide)
theorem caX12_shop_441 {G : hx_GT} (cA : hx_CA RX12 cX12_shop 7 0 0 G) : hx_CV cX12_shop G 0 0 441 12 1 sX12_shops 0 0 := cA.1 conX12_shops rfl rfl ⟨by decide +kernel, by decide +kernel, by decide +kernel⟩ mw_1671 mw_1673 mw_78 mw_97 mw_1674 (by decide) (by decide)
def wX12_shop_J98  (K : Int32 → hx_M → Prop) (K52 : Int32 → Int32 → Int32 → Prop) (v1 : Int32) (v2 : Int32) (v3 : Int32) (v4 : Int32) (v5 : Int32)  (μ : hx_M) : Prop := K52 v3 v4 (v5 + (-1))
set_option maxRecDepth 100000 in
set_option maxHeartbeats 4000000 in
theorem kX12_shop_J98 {G : hx_GT} {KK : hx_KT} (hG : hx_K cX12_shop 8 0 0 (some .int) TbX12 KK G) (cA : hx_CA RX12 cX12_shop 7 0 0 G) {Λ : hx_L} (hF : mF Λ) {μ : hx_M} (v1 : Int32) (v2 : Int32) (v3 : Int32) (v4 : Int32) (v5 : Int32)  {K : Int32 → hx_M → Prop} (hK : ∀ (r : Int32) (m : hx_M), K r m → KK (some (.int r)) Λ m) {K52 : Int32 → Int32 → Int32 → Prop} (hk52 : ∀ (v3 : Int32) (v4 : Int32) (v5 : Int32), K52 v3 v4 v5 → G Λ μ (0, 0) 52 [some (.ref 49), some (.int v1), some (.int v2), some (.int v3), some (.int v4), some (.int v5), none, none] []) (hw : wX12_shop_J98 K K52 v1 v2 v3 v4 v5 μ) : G Λ μ (0, 0) 98 [some (.ref 49), some (.int v1), some (.int v2), some (.int v3), some (.int v4), some (.int v5), none, none] [] := by
  unfold wX12_shop_J98 at hw
  exact cl_iinc hG (v5 + (-1)) (hx_dq tdX12_shop_1 22 rfl) rfl (congrArg (fun z => v5 + z) iconst_m1) (Nat.le_of_ble_eq_true rfl) rfl (cl_goto hG 52 (hx_dq tdX12_shop_1 23 rfl) rfl (cl_sub hG (hx_le_c rfl (hx_le_c rfl (hx_le_c rfl (hx_le_c rfl (hx_le_c rfl (hx_le_c rfl (hx_le_n (hx_le_n hx_le_0)))))))) (hk52 v3 v4 (v5 + (-1)) hw)))
def wX12_shop_L52 (μ : hx_M) (v1 : Int32) (v2 : Int32) (K : Int32 → hx_M → Prop) (K104 : Int32 → Int32 → Prop) : Nat → Int32 → Int32 → Int32 → Prop
  | 0, _, _, _ => False
  | n + 1, v3, v4, v5 => (v5 < 0 → (K104 v3 v4)) ∧ (¬ (v5 < 0) → (wX12_between μ (-1) v5 (fun r61_8 => vp_in ((61 * (v1 - 1)) + v5) 427 ∧ ∀ x_10 : Int32, x_10 = ((μ.1 89 (((61 * (v1 - 1)) + v5).toNatClampNeg))) → ((r61_8 + x_10) ≤ v4 → (wX12_shop_J98 K (wX12_shop_L52 μ v1 v2 K K104 n) v1 v2 v5 (r61_8 + x_10) v5 μ)) ∧ (¬ ((r61_8 + x_10) ≤ v4) → (wX12_shop_J98 K (wX12_shop_L52 μ v1 v2 K K104 n) v1 v2 v3 v4 v5 μ)))))
set_option maxRecDepth 100000 in
set_option maxHeartbeats 4000000 in
theorem kX12_shop_L52 {G : hx_GT} {KK : hx_KT} (hG : hx_K cX12_shop 8 0 0 (some .int) TbX12 KK G) (cA : hx_CA RX12 cX12_shop 7 0 0 G) {Λ : hx_L} (hF : mF Λ) {μ : hx_M} (v1 : Int32) (v2 : Int32) {K : Int32 → hx_M → Prop} (hK : ∀ (r : Int32) (m : hx_M), K r m → KK (some (.int r)) Λ m) {K104 : Int32 → Int32 → Prop} (hk104 : ∀ (v3 : Int32) (v4 : Int32), K104 v3 v4 → G Λ μ (0, 0) 104 [some (.ref 49), some (.int v1), some (.int v2), some (.int v3), some (.int v4), none, none, none] []) : ∀ (n : Nat) (v3 : Int32) (v4 : Int32) (v5 : Int32), wX12_shop_L52 μ v1 v2 K K104 n v3 v4 v5 → G Λ μ (0, 0) 52 [some (.ref 49), some (.int v1), some (.int v2), some (.int v3), some (.int v4), some (.int v5), none, none] [] := by
  intro n
  induction n with
  | zero =>
    intro v3 v4 v5 hw
    exact False.elim (by simpa only [wX12_shop_L52] using hw)
  | succ n ih =>
    intro v3 v4 v5 hw
    unfold wX12_shop_L52 at hw
    refine cl_iload hG (hx_dq tdX12_shop_0 28 rfl) rfl (cl_if_lt hG 104 (hx_dq tdX12_shop_0 29 rfl) rfl (fun c54 => ?_) (fun c54 => ?_))
    · replace hw := hw.1 c54
      exact cl_sub hG (hx_le_c rfl (hx_le_c rfl (hx_le_c rfl (hx_le_c rfl (hx_le_c rfl (hx_le_n (hx_le_n (hx_le_n hx_le_0)))))))) (hk104 v3 v4 hw)
    · replace hw := hw.2 c54
      refine cl_aload_n hG (hx_dq tdX12_shop_0 30 rfl) rfl (cl_iconst hG (-1) (hx_dq tdX12_shop_0 31 rfl) iconst_m1 (cl_iload hG (hx_dq tdX12_shop_1 0 rfl) rfl (cl_callV2 (caX12_shop_437 cA) (hx_dq tdX12_shop_1 1 rfl) (mF_S49 hF) (Nat.le_of_ble_eq_true rfl) (Nat.le_refl _) (Nat.le_refl _) (sX12_between_mk hF hw (fun r61_8 hw => ?_)))))
      obtain ⟨i77_9, hw⟩ := hw
      refine cl_aload_n hG (hx_dq tdX12_shop_1 2 rfl) rfl (cl_getS hG fmX12_141 (hx_dq tdX12_shop_1 3 rfl) (mF_S49 hF) (mF_R49_64 hF) (cl_bipush hG 61 (hx_dq tdX12_shop_1 4 rfl) bipush_61 (cl_iload_n hG (hx_dq tdX12_shop_1 5 rfl) rfl (cl_iconst hG 1 (hx_dq tdX12_shop_1 6 rfl) iconst_1 (cl_isub hG (hx_dq tdX12_shop_1 7 rfl) (cl_imul hG (hx_dq tdX12_shop_1 8 rfl) (cl_iload hG (hx_dq tdX12_shop_1 9 rfl) rfl (cl_iadd hG (hx_dq tdX12_shop_1 10 rfl) (cl_iald hG (hx_dq tdX12_shop_1 11 rfl) (mF_S89 hF) i77_9 (cl_nmI (fun x_10 e_10 => ?_)))))))))))
      replace hw := hw x_10 e_10
      refine cl_iadd hG (hx_dq tdX12_shop_1 12 rfl) (cl_istore hG (hx_dq tdX12_shop_1 13 rfl) (Nat.le_of_ble_eq_true rfl) rfl (cl_iload hG (hx_dq tdX12_shop_1 14 rfl) rfl (cl_iload hG (hx_dq tdX12_shop_1 15 rfl) rfl (cl_icmp_le hG 91 (hx_dq tdX12_shop_1 16 rfl) rfl (fun c85 => ?_) (fun c85 => ?_)))))
      · replace hw := hw.1 c85
        refine cl_iload hG (hx_dq tdX12_shop_1 18 rfl) rfl (cl_istore_n hG (hx_dq tdX12_shop_1 19 rfl) (Nat.le_of_ble_eq_true rfl) rfl (cl_iload hG (hx_dq tdX12_shop_1 20 rfl) rfl (cl_istore hG (hx_dq tdX12_shop_1 21 rfl) (Nat.le_of_ble_eq_true rfl) rfl ?_)))
        exact cl_sub hG (hx_le_c rfl (hx_le_c rfl (hx_le_c rfl (hx_le_c rfl (hx_le_c rfl (hx_le_c rfl (hx_le_n (hx_le_n hx_le_0)))))))) (kX12_shop_J98 hG cA hF v1 v2 v5 (r61_8 + x_10) v5 hK (fun z0 z1 z2 hw => ih z0 z1 z2 hw) hw)
      · replace hw := hw.2 c85
        refine cl_goto hG 98 (hx_dq tdX12_shop_1 17 rfl) rfl ?_
        exact cl_sub hG (hx_le_c rfl (hx_le_c rfl (hx_le_c rfl (hx_le_c rfl (hx_le_c rfl (hx_le_c rfl (hx_le_n (hx_le_n hx_le_0)))))))) (kX12_shop_J98 hG cA hF v1 v2 v3 v4 v5 hK (fun z0 z1 z2 hw => ih z0 z1 z2 hw) hw)
def wX12_shop_L132 (μ : hx_M) (v1 : Int32) (v2 : Int32) (v5 : Int32) (v6 : Int32) (K : Int32 → hx_M → Prop) (K182 : Int32 → Prop) : Nat → Int32 → Prop
  | 0, _ => False
  | n + 1, v7 => wX12_between μ v5 v7 (fun r137_13 => vp_in ((61 * ((v1 - 1) - v6)) + v7) 427 ∧ ∀ x_15 : Int32, x_15 = ((μ.1 89 (((61 * ((v1 - 1) - v6)) + v7).toNatClampNeg))) → vp_in ((61 * (v1 - v6)) + v5) 427 ∧ ∀ x_17 : Int32, x_17 = ((μ.1 89 (((61 * (v1 - v6)) + v5).toNatClampNeg))) → ((r137_13 + x_15) = x_17 → (K182 v7)) ∧ (¬ ((r137_13 + x_15) = x_17) → (wX12_shop_L132 μ v1 v2 v5 v6 K K182 n (v7 + 1))))
set_option maxRecDepth 100000 in
set_option maxHeartbeats 4000000 in
theorem kX12_shop_L132 {G : hx_GT} {KK : hx_KT} (hG : hx_K cX12_shop 8 0 0 (some .int) TbX12 KK G) (cA : hx_CA RX12 cX12_shop 7 0 0 G) {Λ : hx_L} (hF : mF Λ) {μ : hx_M} (v1 : Int32) (v2 : Int32) (v5 : Int32) (v6 : Int32) {K : Int32 → hx_M → Prop} (hK : ∀ (r : Int32) (m : hx_M), K r m → KK (some (.int r)) Λ m) {K182 : Int32 → Prop} (hk182 : ∀ (v7 : Int32), K182 v7 → G Λ μ (0, 0) 182 [some (.ref 49), some (.int v1), some (.int v2), none, none, none, some (.int v6), some (.int v7)] []) : ∀ (n : Nat) (v7 : Int32), wX12_shop_L132 μ v1 v2 v5 v6 K K182 n v7 → G Λ μ (0, 0) 132 [some (.ref 49), some (.int v1), some (.int v2), none, none, some (.int v5), some (.int v6), some (.int v7)] [] := by
  intro n
  induction n with
  | zero =>
    intro v7 hw
    exact False.elim (by simpa only [wX12_shop_L132] using hw)
  | succ n ih =>
    intro v7 hw
    unfold wX12_shop_L132 at hw
    refine cl_aload_n hG (hx_dq tdX12_shop_2 9 rfl) rfl (cl_iload hG (hx_dq tdX12_shop_2 10 rfl) rfl (cl_iload hG (hx_dq tdX12_shop_2 11 rfl) rfl (cl_callV2 (caX12_shop_437 cA) (hx_dq tdX12_shop_2 12 rfl) (mF_S49 hF) (Nat.le_of_ble_eq_true rfl) (Nat.le_refl _) (Nat.le_refl _) (sX12_between_mk hF hw (fun r137_13 hw => ?_)))))
    obtain ⟨i156_14, hw⟩ := hw
    refine cl_aload_n hG (hx_dq tdX12_shop_2 13 rfl) rfl (cl_getS hG fmX12_141 (hx_dq tdX12_shop_2 14 rfl) (mF_S49 hF) (mF_R49_64 hF) (cl_bipush hG 61 (hx_dq tdX12_shop_2 15 rfl) bipush_61 (cl_iload_n hG (hx_dq tdX12_shop_2 16 rfl) rfl (cl_iconst hG 1 (hx_dq tdX12_shop_2 17 rfl) iconst_1 (cl_isub hG (hx_dq tdX12_shop_2 18 rfl) (cl_iload hG (hx_dq tdX12_shop_2 19 rfl) rfl (cl_isub hG (hx_dq tdX12_shop_2 20 rfl) (cl_imul hG (hx_dq tdX12_shop_2 21 rfl) (cl_iload hG (hx_dq tdX12_shop_2 22 rfl) rfl (cl_iadd hG (hx_dq tdX12_shop_2 23 rfl) (cl_iald hG (hx_dq tdX12_shop_2 24 rfl) (mF_S89 hF) i156_14 (cl_nmI (fun x_15 e_15 => ?_)))))))))))))
    replace hw := hw x_15 e_15
    obtain ⟨i172_16, hw⟩ := hw
    refine cl_iadd hG (hx_dq tdX12_shop_2 25 rfl) (cl_aload_n hG (hx_dq tdX12_shop_2 26 rfl) rfl (cl_getS hG fmX12_141 (hx_dq tdX12_shop_2 27 rfl) (mF_S49 hF) (mF_R49_64 hF) (cl_bipush hG 61 (hx_dq tdX12_shop_2 28 rfl) bipush_61 (cl_iload_n hG (hx_dq tdX12_shop_2 29 rfl) rfl (cl_iload hG (hx_dq tdX12_shop_2 30 rfl) rfl (cl_isub hG (hx_dq tdX12_shop_2 31 rfl) (cl_imul hG (hx_dq tdX12_shop_3 0 rfl) (cl_iload hG (hx_dq tdX12_shop_3 1 rfl) rfl (cl_iadd hG (hx_dq tdX12_shop_3 2 rfl) (cl_iald hG (hx_dq tdX12_shop_3 3 rfl) (mF_S89 hF) i172_16 (cl_nmI (fun x_17 e_17 => ?_))))))))))))
    replace hw := hw x_17 e_17
    refine cl_icmp_eq hG 182 (hx_dq tdX12_shop_3 4 rfl) rfl (fun c173 => ?_) (fun c173 => ?_)
    · replace hw := hw.1 c173
      exact cl_sub hG (hx_le_c rfl (hx_le_c rfl (hx_le_c rfl (hx_le_n (hx_le_n (hx_le_n (hx_le_c rfl (hx_le_c rfl hx_le_0)))))))) (hk182 v7 hw)
    · replace hw := hw.2 c173
      exact cl_iinc hG (v7 + 1) (hx_dq tdX12_shop_3 5 rfl) rfl (congrArg (fun z => v7 + z) iconst_1) (Nat.le_of_ble_eq_true rfl) rfl (cl_goto hG 132 (hx_dq tdX12_shop_3 6 rfl) rfl (cl_sub hG (hx_le_c rfl (hx_le_c rfl (hx_le_c rfl (hx_le_n (hx_le_n (hx_le_c rfl (hx_le_c rfl (hx_le_c rfl hx_le_0)))))))) (ih (v7 + 1) hw)))
def wX12_shop_L117 (μ : hx_M) (v1 : Int32) (v2 : Int32) (K : Int32 → hx_M → Prop)  : Nat → Int32 → Int32 → Prop
  | 0, _, _ => False
  | n + 1, v5, v6 => ((v2 - 10) < v6 → (K v5 μ)) ∧ (¬ ((v2 - 10) < v6) → (∃ n132_19, wX12_shop_L132 μ v1 v2 v5 v6 K (fun v7_18 => wX12_shop_L117 μ v1 v2 K n v7_18 (v6 + 1)) n132_19 (v5 + 1)))
set_option maxRecDepth 100000 in
set_option maxHeartbeats 4000000 in
theorem kX12_shop_L117 {G : hx_GT} {KK : hx_KT} (hG : hx_K cX12_shop 8 0 0 (some .int) TbX12 KK G) (cA : hx_CA RX12 cX12_shop 7 0 0 G) {Λ : hx_L} (hF : mF Λ) {μ : hx_M} (v1 : Int32) (v2 : Int32) {K : Int32 → hx_M → Prop} (hK : ∀ (r : Int32) (m : hx_M), K r m → KK (some (.int r)) Λ m)  : ∀ (n : Nat) (v5 : Int32) (v6 : Int32), wX12_shop_L117 μ v1 v2 K n v5 v6 → G Λ μ (0, 0) 117 [some (.ref 49), some (.int v1), some (.int v2), none, none, some (.int v5), some (.int v6), none] [] := by
  intro n
  induction n with
  | zero =>
    intro v5 v6 hw
    exact False.elim (by simpa only [wX12_shop_L117] using hw)
  | succ n ih =>
    intro v5 v6 hw
    unfold wX12_shop_L117 at hw
    refine cl_iload hG (hx_dq tdX12_shop_2 0 rfl) rfl (cl_iload_n hG (hx_dq tdX12_shop_2 1 rfl) rfl (cl_bipush hG 10 (hx_dq tdX12_shop_2 2 rfl) bipush_10 (cl_isub hG (hx_dq tdX12_shop_2 3 rfl) (cl_icmp_gt hG 192 (hx_dq tdX12_shop_2 4 rfl) rfl (fun c123 => ?_) (fun c123 => ?_)))))
    · replace hw := hw.1 c123
      exact cl_iload hG (hx_dq tdX12_shop_3 11 rfl) rfl (cl_iret hG (hx_dq tdX12_shop_3 12 rfl) rfl rfl (hK _ _ hw) (Nat.le_refl _) (Nat.le_refl _))
    · replace hw := hw.2 c123
      refine cl_iload hG (hx_dq tdX12_shop_2 5 rfl) rfl (cl_iconst hG 1 (hx_dq tdX12_shop_2 6 rfl) iconst_1 (cl_iadd hG (hx_dq tdX12_shop_2 7 rfl) (cl_istore hG (hx_dq tdX12_shop_2 8 rfl) (Nat.le_of_ble_eq_true rfl) rfl ?_)))
      obtain ⟨n_, hw⟩ := hw
      refine cl_sub hG (hx_le_c rfl (hx_le_c rfl (hx_le_c rfl (hx_le_n (hx_le_n (hx_le_c rfl (hx_le_c rfl (hx_le_c rfl hx_le_0)))))))) (kX12_shop_L132 hG cA hF v1 v2 v5 v6 hK (fun v7_18 hw => ?_) n_ (v5 + 1) hw)
      · exact cl_iload hG (hx_dq tdX12_shop_3 7 rfl) rfl (cl_istore hG (hx_dq tdX12_shop_3 8 rfl) (Nat.le_of_ble_eq_true rfl) rfl (cl_iinc hG (v6 + 1) (hx_dq tdX12_shop_3 9 rfl) rfl (congrArg (fun z => v6 + z) iconst_1) (Nat.le_of_ble_eq_true rfl) rfl (cl_goto hG 117 (hx_dq tdX12_shop_3 10 rfl) rfl (cl_sub hG (hx_le_c rfl (hx_le_c rfl (hx_le_c rfl (hx_le_n (hx_le_n (hx_le_c rfl (hx_le_c rfl (hx_le_n hx_le_0)))))))) (ih v7_18 (v6 + 1) hw)))))
def wX12_shop_J27  (K : Int32 → hx_M → Prop)  (v1 : Int32) (v2 : Int32)  (μ : hx_M) : Prop := wX12_mayTry μ (fun r28_4 => (r28_4 ≠ 0 → (wX12_shops μ v1 (fun m38_5 => ∃ n52_21, wX12_shop_L52 m38_5 v1 v2 K (fun v3_11 v4_11 => (v2 ≠ 0 → (∃ n117_20, wX12_shop_L117 m38_5 v1 v2 K n117_20 v3_11 1)) ∧ (v2 = 0 → (K v4_11 m38_5))) n52_21 0 1000000 60))) ∧ (r28_4 = 0 → (K (-1) μ)))
set_option maxRecDepth 100000 in
set_option maxHeartbeats 4000000 in
theorem kX12_shop_J27 {G : hx_GT} {KK : hx_KT} (hG : hx_K cX12_shop 8 0 0 (some .int) TbX12 KK G) (cA : hx_CA RX12 cX12_shop 7 0 0 G) {Λ : hx_L} (hF : mF Λ) {μ : hx_M} (v1 : Int32) (v2 : Int32)  {K : Int32 → hx_M → Prop} (hK : ∀ (r : Int32) (m : hx_M), K r m → KK (some (.int r)) Λ m)  (hw : wX12_shop_J27 K v1 v2 μ) : G Λ μ (0, 0) 27 [some (.ref 49), some (.int v1), some (.int v2), none, none, none, none, none] [] := by
  unfold wX12_shop_J27 at hw
  refine cl_aload_n hG (hx_dq tdX12_shop_0 14 rfl) rfl (cl_callV0 (caX12_shop_389 cA) (hx_dq tdX12_shop_0 15 rfl) (mF_S49 hF) (Nat.le_of_ble_eq_true rfl) (Nat.le_refl _) (Nat.le_refl _) (sX12_mayTry_mk hF hw (fun r28_4 hw => ?_)))
  refine cl_if_ne hG 36 (hx_dq tdX12_shop_0 16 rfl) rfl (fun c31 => ?_) (fun c31 => ?_)
  · replace hw := hw.1 c31
    refine cl_aload_n hG (hx_dq tdX12_shop_0 19 rfl) rfl (cl_iload_n hG (hx_dq tdX12_shop_0 20 rfl) rfl (cl_callV1 (caX12_shop_441 cA) (hx_dq tdX12_shop_0 21 rfl) (mF_S49 hF) (Nat.le_of_ble_eq_true rfl) (Nat.le_refl _) (Nat.le_refl _) (sX12_shops_mk hF hw (fun m38_5 hw => ?_))))
    refine cl_iconst hG 0 (hx_dq tdX12_shop_0 22 rfl) iconst_0 (cl_istore_n hG (hx_dq tdX12_shop_0 23 rfl) (Nat.le_of_ble_eq_true rfl) rfl (cl_ldcw hG ciX12_440 (hx_dq tdX12_shop_0 24 rfl) (cl_istore hG (hx_dq tdX12_shop_0 25 rfl) (Nat.le_of_ble_eq_true rfl) rfl (cl_bipush hG 60 (hx_dq tdX12_shop_0 26 rfl) bipush_60 (cl_istore hG (hx_dq tdX12_shop_0 27 rfl) (Nat.le_of_ble_eq_true rfl) rfl ?_)))))
    obtain ⟨n_, hw⟩ := hw
    refine cl_sub hG (hx_le_c rfl (hx_le_c rfl (hx_le_c rfl (hx_le_c rfl (hx_le_c rfl (hx_le_c rfl (hx_le_n (hx_le_n hx_le_0)))))))) (kX12_shop_L52 hG cA hF v1 v2 hK (fun v3_11 v4_11 hw => ?_) n_ 0 1000000 60 hw)
    · refine cl_iload_n hG (hx_dq tdX12_shop_1 24 rfl) rfl (cl_if_ne hG 111 (hx_dq tdX12_shop_1 25 rfl) rfl (fun c105 => ?_) (fun c105 => ?_))
      · replace hw := hw.1 c105
        refine cl_iload_n hG (hx_dq tdX12_shop_1 28 rfl) rfl (cl_istore hG (hx_dq tdX12_shop_1 29 rfl) (Nat.le_of_ble_eq_true rfl) rfl (cl_iconst hG 1 (hx_dq tdX12_shop_1 30 rfl) iconst_1 (cl_istore hG (hx_dq tdX12_shop_1 31 rfl) (Nat.le_of_ble_eq_true rfl) rfl ?_)))
        obtain ⟨n_, hw⟩ := hw
        refine cl_sub hG (hx_le_c rfl (hx_le_c rfl (hx_le_c rfl (hx_le_n (hx_le_n (hx_le_c rfl (hx_le_c rfl (hx_le_n hx_le_0)))))))) (kX12_shop_L117 hG cA hF v1 v2 hK n_ v3_11 1 hw)
      · replace hw := hw.2 c105
        exact cl_iload hG (hx_dq tdX12_shop_1 26 rfl) rfl (cl_iret hG (hx_dq tdX12_shop_1 27 rfl) rfl rfl (hK _ _ hw) (Nat.le_refl _) (Nat.le_refl _))
  · replace hw := hw.2 c31
    exact cl_iconst hG (-1) (hx_dq tdX12_shop_0 17 rfl) iconst_m1 (cl_iret hG (hx_dq tdX12_shop_0 18 rfl) rfl rfl (hK _ _ hw) (Nat.le_refl _) (Nat.le_refl _))
def wX12_shop (μ : hx_M) (v1 : Int32) (v2 : Int32) (K : Int32 → hx_M → Prop) : Prop := wX12_isIn v1 1 6 (fun r4_2 => (r4_2 = 0 → (K (-1) μ)) ∧ (¬ (r4_2 = 0) → ((v2 = 0 → (wX12_shop_J27 K v1 v2 μ)) ∧ (¬ (v2 = 0) → (wX12_isIn v2 10 (9 + v1) (fun r21_23 => (r21_23 = 0 → (K (-1) μ)) ∧ (¬ (r21_23 = 0) → (wX12_shop_J27 K v1 v2 μ))))))))
set_option maxRecDepth 100000 in
set_option maxHeartbeats 4000000 in
theorem kX12_shop {G : hx_GT} {KK : hx_KT} (hG : hx_K cX12_shop 8 0 0 (some .int) TbX12 KK G) (cA : hx_CA RX12 cX12_shop 7 0 0 G) {Λ : hx_L} (hF : mF Λ) {μ : hx_M} (v1 : Int32) (v2 : Int32) {K : Int32 → hx_M → Prop} (hK : ∀ (r : Int32) (m : hx_M), K r m → KK (some (.int r)) Λ m) (hw : wX12_shop μ v1 v2 K) : G Λ μ (0, 0) 0 [some (.ref 49), some (.int v1), some (.int v2), none, none, none, none, none] [] := by
  unfold wX12_shop at hw
  refine cl_iload_n hG (hx_dq tdX12_shop_0 0 rfl) rfl (cl_iconst hG 1 (hx_dq tdX12_shop_0 1 rfl) iconst_1 (cl_bipush hG 6 (hx_dq tdX12_shop_0 2 rfl) bipush_6 (cl_callS3 (caX12_shop_157 cA) (hx_dq tdX12_shop_0 3 rfl) (Nat.le_of_ble_eq_true rfl) (Nat.le_refl _) (Nat.le_refl _) (sX12_isIn_mk hw (fun r4_2 hw => ?_)))))
  refine cl_if_eq hG 34 (hx_dq tdX12_shop_0 4 rfl) rfl (fun c7 => ?_) (fun c7 => ?_)
  · replace hw := hw.1 c7
    exact cl_iconst hG (-1) (hx_dq tdX12_shop_0 17 rfl) iconst_m1 (cl_iret hG (hx_dq tdX12_shop_0 18 rfl) rfl rfl (hK _ _ hw) (Nat.le_refl _) (Nat.le_refl _))
  · replace hw := hw.2 c7
    refine cl_iload_n hG (hx_dq tdX12_shop_0 5 rfl) rfl (cl_if_eq hG 27 (hx_dq tdX12_shop_0 6 rfl) rfl (fun c11 => ?_) (fun c11 => ?_))
    · replace hw := hw.1 c11
      exact cl_sub hG (hx_le_c rfl (hx_le_c rfl (hx_le_c rfl (hx_le_n (hx_le_n (hx_le_n (hx_le_n (hx_le_n hx_le_0)))))))) (kX12_shop_J27 hG cA hF v1 v2 hK hw)
    · replace hw := hw.2 c11
      refine cl_iload_n hG (hx_dq tdX12_shop_0 7 rfl) rfl (cl_bipush hG 10 (hx_dq tdX12_shop_0 8 rfl) bipush_10 (cl_bipush hG 9 (hx_dq tdX12_shop_0 9 rfl) bipush_9 (cl_iload_n hG (hx_dq tdX12_shop_0 10 rfl) rfl (cl_iadd hG (hx_dq tdX12_shop_0 11 rfl) (cl_callS3 (caX12_shop_157 cA) (hx_dq tdX12_shop_0 12 rfl) (Nat.le_of_ble_eq_true rfl) (Nat.le_refl _) (Nat.le_refl _) (sX12_isIn_mk hw (fun r21_23 hw => ?_)))))))
      refine cl_if_eq hG 34 (hx_dq tdX12_shop_0 13 rfl) rfl (fun c24 => ?_) (fun c24 => ?_)
      · replace hw := hw.1 c24
        exact cl_iconst hG (-1) (hx_dq tdX12_shop_0 17 rfl) iconst_m1 (cl_iret hG (hx_dq tdX12_shop_0 18 rfl) rfl rfl (hK _ _ hw) (Nat.le_refl _) (Nat.le_refl _))
      · replace hw := hw.2 c24
        exact cl_sub hG (hx_le_c rfl (hx_le_c rfl (hx_le_c rfl (hx_le_n (hx_le_n (hx_le_n (hx_le_n (hx_le_n hx_le_0)))))))) (kX12_shop_J27 hG cA hF v1 v2 hK hw)
def sX12_shop : hx_ST := fun Λ μ as KK => mF Λ ∧ ∃ (v1 : Int32) (v2 : Int32) (K : Int32 → hx_M → Prop), as = [.ref 49, .int v1, .int v2] ∧ wX12_shop μ v1 v2 K ∧ (∀ (r : Int32) (m : hx_M), K r m → KK (some (.int r)) Λ m)
theorem sX12_shop_mk {Λ : hx_L} {μ : hx_M} {KK : hx_KT} {v1 : Int32} {v2 : Int32} {K : Int32 → hx_M → Prop} (hF : mF Λ) (hw : wX12_shop μ v1 v2 K) (hk : ∀ (r : Int32) (m : hx_M), K r m → KK (some (.int r)) Λ m) : sX12_shop Λ μ [.ref 49, .int v1, .int v2] KK := ⟨hF, _, _, _, rfl, hw, hk⟩
theorem conX12_shop : hx_Con yX12_shop cX12_shop 8 (some .int) 7 0 0 sX12_shop := by
  refine hx_con_of (by decide +kernel) tokX12 (by decide) ?_ ?_
  · intro Λ μ as KK h
    obtain ⟨hF, v1, v2, K, rfl, hw, hK⟩ := h
    exact Nat.le_of_ble_eq_true rfl
  · intro G KK hG cA Λ μ as h
    obtain ⟨hF, v1, v2, K, rfl, hw, hK⟩ := h
    exact cl_sub hG (hx_le_c rfl (hx_le_c rfl (hx_le_c rfl (hx_le_n (hx_le_n (hx_le_n (hx_le_n (hx_le_n hx_le_0)))))))) (kX12_shop hG cA hF _ _ hK hw)
/-! HemLineModel.readBy(I)I -/
def tbX12_readBy_0 : List (Nat × Instr × Nat) := [(0, .iconst 0, 1), (1, .istore_n 2, 1), (2, .iconst 1, 1), (3, .aload_n 0, 1), (4, .getfield 161, 3), (7, .bipush 19, 2), (9, .isub, 1), (10, .invokestatic 320, 3), (13, .istore_n 3, 1), (14, .iload_n 3, 1), (15, .aload_n 0, 1), (16, .getfield 161, 3), (19, .if_icmp .gt 81, 3), (22, .iconst 0, 1), (23, .istore 4, 2), (25, .iload 4, 2), (27, .aload_n 0, 1), (28, .getfield 154, 3), (31, .if_icmp .ge 63, 3), (34, .bipush 16, 2), (36, .iload_n 3, 1), (37, .imul, 1), (38, .iload 4, 2), (40, .iadd, 1), (41, .istore 5, 2), (43, .iload_n 2, 1), (44, .aload_n 0, 1), (45, .iload_n 1, 1), (46, .iload 4, 2), (48, .iload_n 3, 1), (49, .iconst 1, 1), (50, .isub, 1)]
def tbX12_readBy_1 : List (Nat × Instr × Nat) := [(51, .aload_n 0, 1), (52, .getfield 44, 3), (55, .iload 5, 2), (57, .iaload, 1), (58, .aload_n 0, 1), (59, .getfield 38, 3), (62, .iload 5, 2), (64, .iaload, 1), (65, .aload_n 0, 1), (66, .getfield 41, 3), (69, .iload 5, 2), (71, .iaload, 1), (72, .invokevirtual 346, 3), (75, .aload_n 0, 1), (76, .getfield 35, 3), (79, .iload 5, 2), (81, .iaload, 1), (82, .isub, 1), (83, .invokestatic 337, 3), (86, .iadd, 1), (87, .istore_n 2, 1), (88, .iinc 4 1, 3), (91, .goto (-66), 3), (94, .iinc 3 1, 3), (97, .goto (-83), 3), (100, .iload_n 2, 1), (101, .ireturn, 1)]
theorem tdX12_readBy_0 : hx_dt cX12_readBy tbX12_readBy_0 = true := by decide +kernel
theorem tdX12_readBy_1 : hx_dt cX12_readBy tbX12_readBy_1 = true := by decide +kernel
theorem caX12_readBy_346 {G : hx_GT} (cA : hx_CA RX12 cX12_readBy 5 0 0 G) : hx_CV cX12_readBy G 0 0 346 12 6 sX12_wants 0 0 := cA.1 conX12_wants rfl rfl ⟨by decide +kernel, by decide +kernel, by decide +kernel⟩ mw_1490 mw_1492 mw_55 mw_97 mw_1493 (by decide) (by decide)
def wX12_readBy_L25 (v1 : Int32) (v3 : Int32) (K : Int32 → hx_M → Prop) (K94 : Int32 → hx_M → Prop) : Nat → Int32 → Int32 → hx_M → Prop
  | 0, _, _, _ => False
  | n + 1, v2, v4, μ => ((μ.1 49 0) ≤ v4 → (K94 v2 μ)) ∧ (¬ ((μ.1 49 0) ≤ v4) → (vp_in ((16 * v3) + v4) 4816 ∧ vp_in ((16 * v3) + v4) 4816 ∧ vp_in ((16 * v3) + v4) 4816 ∧ wX12_wants μ v1 v4 (v3 - 1) ((μ.1 60 (((16 * v3) + v4).toNatClampNeg))) ((μ.1 58 (((16 * v3) + v4).toNatClampNeg))) ((μ.1 59 (((16 * v3) + v4).toNatClampNeg))) (fun r72_6 m72_5 => vp_in ((16 * v3) + v4) 4816 ∧ ∀ x_8 : Int32, x_8 = (r72_6 - ((m72_5.1 57 (((16 * v3) + v4).toNatClampNeg)))) → wX12_readBy_L25 v1 v3 K K94 n (v2 + (if 0 ≤ x_8 then x_8 else 0 - x_8)) (v4 + 1) m72_5)))
set_option maxRecDepth 100000 in
set_option maxHeartbeats 4000000 in
theorem kX12_readBy_L25 {G : hx_GT} {KK : hx_KT} (hG : hx_K cX12_readBy 6 0 0 (some .int) TbX12 KK G) (cA : hx_CA RX12 cX12_readBy 5 0 0 G) {Λ : hx_L} (hF : mF Λ)  (v1 : Int32) (v3 : Int32) {K : Int32 → hx_M → Prop} (hK : ∀ (r : Int32) (m : hx_M), K r m → KK (some (.int r)) Λ m) {K94 : Int32 → hx_M → Prop} (hk94 : ∀ (v2 : Int32) (μ : hx_M), K94 v2 μ → G Λ μ (0, 0) 94 [some (.ref 49), some (.int v1), some (.int v2), some (.int v3), none, none] []) : ∀ (n : Nat) (v2 : Int32) (v4 : Int32) (μ : hx_M), wX12_readBy_L25 v1 v3 K K94 n v2 v4 μ → G Λ μ (0, 0) 25 [some (.ref 49), some (.int v1), some (.int v2), some (.int v3), some (.int v4), none] [] := by
  intro n
  induction n with
  | zero =>
    intro v2 v4 μ hw
    exact False.elim (by simpa only [wX12_readBy_L25] using hw)
  | succ n ih =>
    intro v2 v4 μ hw
    unfold wX12_readBy_L25 at hw
    refine cl_iload hG (hx_dq tdX12_readBy_0 15 rfl) rfl (cl_aload_n hG (hx_dq tdX12_readBy_0 16 rfl) rfl (cl_getI hG fmX12_154 (hx_dq tdX12_readBy_0 17 rfl) (mF_S49 hF) (cl_icmp_ge hG 94 (hx_dq tdX12_readBy_0 18 rfl) rfl (fun c31 => ?_) (fun c31 => ?_))))
    · replace hw := hw.1 c31
      exact cl_sub hG (hx_le_c rfl (hx_le_c rfl (hx_le_c rfl (hx_le_c rfl (hx_le_n (hx_le_n hx_le_0)))))) (hk94 v2 _ hw)
    · replace hw := hw.2 c31
      obtain ⟨i57_2, hw⟩ := hw
      obtain ⟨i64_3, hw⟩ := hw
      obtain ⟨i71_4, hw⟩ := hw
      refine cl_bipush hG 16 (hx_dq tdX12_readBy_0 19 rfl) bipush_16 (cl_iload_n hG (hx_dq tdX12_readBy_0 20 rfl) rfl (cl_imul hG (hx_dq tdX12_readBy_0 21 rfl) (cl_iload hG (hx_dq tdX12_readBy_0 22 rfl) rfl (cl_iadd hG (hx_dq tdX12_readBy_0 23 rfl) (cl_istore hG (hx_dq tdX12_readBy_0 24 rfl) (Nat.le_of_ble_eq_true rfl) rfl (cl_iload_n hG (hx_dq tdX12_readBy_0 25 rfl) rfl (cl_aload_n hG (hx_dq tdX12_readBy_0 26 rfl) rfl (cl_iload_n hG (hx_dq tdX12_readBy_0 27 rfl) rfl (cl_iload hG (hx_dq tdX12_readBy_0 28 rfl) rfl (cl_iload_n hG (hx_dq tdX12_readBy_0 29 rfl) rfl (cl_iconst hG 1 (hx_dq tdX12_readBy_0 30 rfl) iconst_1 (cl_isub hG (hx_dq tdX12_readBy_0 31 rfl) (cl_aload_n hG (hx_dq tdX12_readBy_1 0 rfl) rfl (cl_getS hG fmX12_44 (hx_dq tdX12_readBy_1 1 rfl) (mF_S49 hF) (mF_R49_17 hF) (cl_iload hG (hx_dq tdX12_readBy_1 2 rfl) rfl (cl_iald hG (hx_dq tdX12_readBy_1 3 rfl) (mF_S60 hF) i57_2 (cl_aload_n hG (hx_dq tdX12_readBy_1 4 rfl) rfl (cl_getS hG fmX12_38 (hx_dq tdX12_readBy_1 5 rfl) (mF_S49 hF) (mF_R49_15 hF) (cl_iload hG (hx_dq tdX12_readBy_1 6 rfl) rfl (cl_iald hG (hx_dq tdX12_readBy_1 7 rfl) (mF_S58 hF) i64_3 (cl_aload_n hG (hx_dq tdX12_readBy_1 8 rfl) rfl (cl_getS hG fmX12_41 (hx_dq tdX12_readBy_1 9 rfl) (mF_S49 hF) (mF_R49_16 hF) (cl_iload hG (hx_dq tdX12_readBy_1 10 rfl) rfl (cl_iald hG (hx_dq tdX12_readBy_1 11 rfl) (mF_S59 hF) i71_4 (cl_callV6 (caX12_readBy_346 cA) (hx_dq tdX12_readBy_1 12 rfl) (mF_S49 hF) (Nat.le_of_ble_eq_true rfl) (Nat.le_refl _) (Nat.le_refl _) (sX12_wants_mk hF hw (fun r72_6 m72_5 hw => ?_)))))))))))))))))))))))))))
      obtain ⟨i81_7, hw⟩ := hw
      refine cl_aload_n hG (hx_dq tdX12_readBy_1 13 rfl) rfl (cl_getS hG fmX12_35 (hx_dq tdX12_readBy_1 14 rfl) (mF_S49 hF) (mF_R49_14 hF) (cl_iload hG (hx_dq tdX12_readBy_1 15 rfl) rfl (cl_iald hG (hx_dq tdX12_readBy_1 16 rfl) (mF_S57 hF) i81_7 (cl_isub hG (hx_dq tdX12_readBy_1 17 rfl) (cl_nmI (fun x_8 e_8 => ?_))))))
      replace hw := hw x_8 e_8
      exact cl_mabs hG mmX12_337 (hx_dq tdX12_readBy_1 18 rfl) (Nat.le_refl _) (Nat.le_refl _) (Nat.le_of_ble_eq_true rfl) (cl_iadd hG (hx_dq tdX12_readBy_1 19 rfl) (cl_istore_n hG (hx_dq tdX12_readBy_1 20 rfl) (Nat.le_of_ble_eq_true rfl) rfl (cl_iinc hG (v4 + 1) (hx_dq tdX12_readBy_1 21 rfl) rfl (congrArg (fun z => v4 + z) iconst_1) (Nat.le_of_ble_eq_true rfl) rfl (cl_goto hG 25 (hx_dq tdX12_readBy_1 22 rfl) rfl (cl_sub hG (hx_le_c rfl (hx_le_c rfl (hx_le_c rfl (hx_le_c rfl (hx_le_c rfl (hx_le_n hx_le_0)))))) (ih (v2 + (if 0 ≤ x_8 then x_8 else 0 - x_8)) (v4 + 1) _ hw))))))
def wX12_readBy_L14 (v1 : Int32) (K : Int32 → hx_M → Prop)  : Nat → Int32 → Int32 → hx_M → Prop
  | 0, _, _, _ => False
  | n + 1, v2, v3, μ => ((μ.1 49 1) < v3 → (K v2 μ)) ∧ (¬ ((μ.1 49 1) < v3) → (∃ n25_10, wX12_readBy_L25 v1 v3 K (fun v2_9 m_9 => wX12_readBy_L14 v1 K n v2_9 (v3 + 1) m_9) n25_10 v2 0 μ))
set_option maxRecDepth 100000 in
set_option maxHeartbeats 4000000 in
theorem kX12_readBy_L14 {G : hx_GT} {KK : hx_KT} (hG : hx_K cX12_readBy 6 0 0 (some .int) TbX12 KK G) (cA : hx_CA RX12 cX12_readBy 5 0 0 G) {Λ : hx_L} (hF : mF Λ)  (v1 : Int32) {K : Int32 → hx_M → Prop} (hK : ∀ (r : Int32) (m : hx_M), K r m → KK (some (.int r)) Λ m)  : ∀ (n : Nat) (v2 : Int32) (v3 : Int32) (μ : hx_M), wX12_readBy_L14 v1 K n v2 v3 μ → G Λ μ (0, 0) 14 [some (.ref 49), some (.int v1), some (.int v2), some (.int v3), none, none] [] := by
  intro n
  induction n with
  | zero =>
    intro v2 v3 μ hw
    exact False.elim (by simpa only [wX12_readBy_L14] using hw)
  | succ n ih =>
    intro v2 v3 μ hw
    unfold wX12_readBy_L14 at hw
    refine cl_iload_n hG (hx_dq tdX12_readBy_0 9 rfl) rfl (cl_aload_n hG (hx_dq tdX12_readBy_0 10 rfl) rfl (cl_getI hG fmX12_161 (hx_dq tdX12_readBy_0 11 rfl) (mF_S49 hF) (cl_icmp_gt hG 100 (hx_dq tdX12_readBy_0 12 rfl) rfl (fun c19 => ?_) (fun c19 => ?_))))
    · replace hw := hw.1 c19
      exact cl_iload_n hG (hx_dq tdX12_readBy_1 25 rfl) rfl (cl_iret hG (hx_dq tdX12_readBy_1 26 rfl) rfl rfl (hK _ _ hw) (Nat.le_refl _) (Nat.le_refl _))
    · replace hw := hw.2 c19
      refine cl_iconst hG 0 (hx_dq tdX12_readBy_0 13 rfl) iconst_0 (cl_istore hG (hx_dq tdX12_readBy_0 14 rfl) (Nat.le_of_ble_eq_true rfl) rfl ?_)
      obtain ⟨n_, hw⟩ := hw
      refine cl_sub hG (hx_le_c rfl (hx_le_c rfl (hx_le_c rfl (hx_le_c rfl (hx_le_c rfl (hx_le_n hx_le_0)))))) (kX12_readBy_L25 hG cA hF v1 v3 hK (fun v2_9 m_9 hw => ?_) n_ v2 0 _ hw)
      · exact cl_iinc hG (v3 + 1) (hx_dq tdX12_readBy_1 23 rfl) rfl (congrArg (fun z => v3 + z) iconst_1) (Nat.le_of_ble_eq_true rfl) rfl (cl_goto hG 14 (hx_dq tdX12_readBy_1 24 rfl) rfl (cl_sub hG (hx_le_c rfl (hx_le_c rfl (hx_le_c rfl (hx_le_c rfl (hx_le_n (hx_le_n hx_le_0)))))) (ih v2_9 (v3 + 1) _ hw)))
def wX12_readBy (μ : hx_M) (v1 : Int32) (K : Int32 → hx_M → Prop) : Prop := ∀ x_1 : Int32, x_1 = (if 1 < ((μ.1 49 1) - 19) then ((μ.1 49 1) - 19) else 1) → ∃ n14_11, wX12_readBy_L14 v1 K n14_11 0 x_1 μ
set_option maxRecDepth 100000 in
set_option maxHeartbeats 4000000 in
theorem kX12_readBy {G : hx_GT} {KK : hx_KT} (hG : hx_K cX12_readBy 6 0 0 (some .int) TbX12 KK G) (cA : hx_CA RX12 cX12_readBy 5 0 0 G) {Λ : hx_L} (hF : mF Λ) {μ : hx_M} (v1 : Int32) {K : Int32 → hx_M → Prop} (hK : ∀ (r : Int32) (m : hx_M), K r m → KK (some (.int r)) Λ m) (hw : wX12_readBy μ v1 K) : G Λ μ (0, 0) 0 [some (.ref 49), some (.int v1), none, none, none, none] [] := by
  unfold wX12_readBy at hw
  refine cl_iconst hG 0 (hx_dq tdX12_readBy_0 0 rfl) iconst_0 (cl_istore_n hG (hx_dq tdX12_readBy_0 1 rfl) (Nat.le_of_ble_eq_true rfl) rfl (cl_iconst hG 1 (hx_dq tdX12_readBy_0 2 rfl) iconst_1 (cl_aload_n hG (hx_dq tdX12_readBy_0 3 rfl) rfl (cl_getI hG fmX12_161 (hx_dq tdX12_readBy_0 4 rfl) (mF_S49 hF) (cl_bipush hG 19 (hx_dq tdX12_readBy_0 5 rfl) bipush_19 (cl_isub hG (hx_dq tdX12_readBy_0 6 rfl) (cl_mmax hG mmX12_320 (hx_dq tdX12_readBy_0 7 rfl) (Nat.le_refl _) (Nat.le_refl _) (Nat.le_of_ble_eq_true rfl) (cl_nmI (fun x_1 e_1 => ?_)))))))))
  replace hw := hw x_1 e_1
  refine cl_istore_n hG (hx_dq tdX12_readBy_0 8 rfl) (Nat.le_of_ble_eq_true rfl) rfl ?_
  obtain ⟨n_, hw⟩ := hw
  refine cl_sub hG (hx_le_c rfl (hx_le_c rfl (hx_le_c rfl (hx_le_c rfl (hx_le_n (hx_le_n hx_le_0)))))) (kX12_readBy_L14 hG cA hF v1 hK n_ 0 x_1 _ hw)
def sX12_readBy : hx_ST := fun Λ μ as KK => mF Λ ∧ ∃ (v1 : Int32) (K : Int32 → hx_M → Prop), as = [.ref 49, .int v1] ∧ wX12_readBy μ v1 K ∧ (∀ (r : Int32) (m : hx_M), K r m → KK (some (.int r)) Λ m)
theorem sX12_readBy_mk {Λ : hx_L} {μ : hx_M} {KK : hx_KT} {v1 : Int32} {K : Int32 → hx_M → Prop} (hF : mF Λ) (hw : wX12_readBy μ v1 K) (hk : ∀ (r : Int32) (m : hx_M), K r m → KK (some (.int r)) Λ m) : sX12_readBy Λ μ [.ref 49, .int v1] KK := ⟨hF, _, _, rfl, hw, hk⟩
theorem conX12_readBy : hx_Con yX12_readBy cX12_readBy 6 (some .int) 5 0 0 sX12_readBy := by
  refine hx_con_of (by decide +kernel) tokX12 (by decide) ?_ ?_
  · intro Λ μ as KK h
    obtain ⟨hF, v1, K, rfl, hw, hK⟩ := h
    exact Nat.le_of_ble_eq_true rfl
  · intro G KK hG cA Λ μ as h
    obtain ⟨hF, v1, K, rfl, hw, hK⟩ := h
    exact cl_sub hG (hx_le_c rfl (hx_le_c rfl (hx_le_n (hx_le_n (hx_le_n (hx_le_n hx_le_0)))))) (kX12_readBy hG cA hF _ hK hw)
/-! HemLineModel.read(I)I -/
def tbX12_read_0 : List (Nat × Instr × Nat) := [(0, .iload_n 1, 1), (1, .iconst (-1), 1), (2, .if_icmp .eq 27, 3), (5, .iload_n 1, 1), (6, .iconst 0, 1), (7, .aload_n 0, 1), (8, .getfield 293, 3), (11, .iconst 1, 1), (12, .isub, 1), (13, .invokestatic 157, 3), (16, .ifCond .eq 11, 3), (19, .aload_n 0, 1), (20, .iload_n 1, 1), (21, .invokevirtual 444, 3), (24, .goto 4, 3), (27, .iconst (-1), 1), (28, .ireturn, 1), (29, .iconst (-1), 1), (30, .istore_n 2, 1), (31, .iconst 0, 1), (32, .istore_n 3, 1), (33, .iconst 0, 1), (34, .istore 4, 2), (36, .iload 4, 2), (38, .aload_n 0, 1), (39, .getfield 293, 3), (42, .if_icmp .ge 37, 3), (45, .aload_n 0, 1), (46, .iload 4, 2), (48, .invokevirtual 444, 3), (51, .istore 5, 2), (53, .iload_n 2, 1)]
def tbX12_read_1 : List (Nat × Instr × Nat) := [(54, .iconst (-1), 1), (55, .if_icmp .eq 12, 3), (58, .iload 5, 2), (60, .iload_n 3, 1), (61, .if_icmp .lt 6, 3), (64, .goto 9, 3), (67, .iload 4, 2), (69, .istore_n 2, 1), (70, .iload 5, 2), (72, .istore_n 3, 1), (73, .iinc 4 1, 3), (76, .goto (-40), 3), (79, .iload_n 2, 1), (80, .ireturn, 1)]
theorem tdX12_read_0 : hx_dt cX12_read tbX12_read_0 = true := by decide +kernel
theorem tdX12_read_1 : hx_dt cX12_read tbX12_read_1 = true := by decide +kernel
theorem caX12_read_157 {G : hx_GT} (cA : hx_CA RX12 cX12_read 6 0 0 G) : hx_CS cX12_read G 0 0 157 3 sX12_isIn 0 0 := cA.2.1 conX12_isIn ⟨by decide +kernel, by decide +kernel, by decide +kernel⟩ mw_1343 mw_1344 mw_97 mw_1345 (by decide) (by decide)
theorem caX12_read_444 {G : hx_GT} (cA : hx_CA RX12 cX12_read 6 0 0 G) : hx_CV cX12_read G 0 0 444 12 1 sX12_readBy 0 0 := cA.1 conX12_readBy rfl rfl ⟨by decide +kernel, by decide +kernel, by decide +kernel⟩ mw_1684 mw_1686 mw_80 mw_97 mw_1687 (by decide) (by decide)
def wX12_read_J73  (K : Int32 → hx_M → Prop) (K36 : Int32 → Int32 → Int32 → hx_M → Prop) (v2 : Int32) (v3 : Int32) (v4 : Int32)  (μ : hx_M) : Prop := K36 v2 v3 (v4 + 1) μ
set_option maxRecDepth 100000 in
set_option maxHeartbeats 4000000 in
theorem kX12_read_J73 {G : hx_GT} {KK : hx_KT} (hG : hx_K cX12_read 6 0 0 (some .int) TbX12 KK G) (cA : hx_CA RX12 cX12_read 6 0 0 G) {Λ : hx_L} (hF : mF Λ) {μ : hx_M} (v2 : Int32) (v3 : Int32) (v4 : Int32)  {K : Int32 → hx_M → Prop} (hK : ∀ (r : Int32) (m : hx_M), K r m → KK (some (.int r)) Λ m) {K36 : Int32 → Int32 → Int32 → hx_M → Prop} (hk36 : ∀ (v2 : Int32) (v3 : Int32) (v4 : Int32) (μ : hx_M), K36 v2 v3 v4 μ → G Λ μ (0, 0) 36 [some (.ref 49), none, some (.int v2), some (.int v3), some (.int v4), none] []) (hw : wX12_read_J73 K K36 v2 v3 v4 μ) : G Λ μ (0, 0) 73 [some (.ref 49), none, some (.int v2), some (.int v3), some (.int v4), none] [] := by
  unfold wX12_read_J73 at hw
  exact cl_iinc hG (v4 + 1) (hx_dq tdX12_read_1 10 rfl) rfl (congrArg (fun z => v4 + z) iconst_1) (Nat.le_of_ble_eq_true rfl) rfl (cl_goto hG 36 (hx_dq tdX12_read_1 11 rfl) rfl (cl_sub hG (hx_le_c rfl (hx_le_n (hx_le_c rfl (hx_le_c rfl (hx_le_c rfl (hx_le_n hx_le_0)))))) (hk36 v2 v3 (v4 + 1) _ hw)))
def wX12_read_J67  (K : Int32 → hx_M → Prop) (K36 : Int32 → Int32 → Int32 → hx_M → Prop) (v4 : Int32) (v5 : Int32)  (μ : hx_M) : Prop := wX12_read_J73 K (K36) v4 v5 v4 μ
set_option maxRecDepth 100000 in
set_option maxHeartbeats 4000000 in
theorem kX12_read_J67 {G : hx_GT} {KK : hx_KT} (hG : hx_K cX12_read 6 0 0 (some .int) TbX12 KK G) (cA : hx_CA RX12 cX12_read 6 0 0 G) {Λ : hx_L} (hF : mF Λ) {μ : hx_M} (v4 : Int32) (v5 : Int32)  {K : Int32 → hx_M → Prop} (hK : ∀ (r : Int32) (m : hx_M), K r m → KK (some (.int r)) Λ m) {K36 : Int32 → Int32 → Int32 → hx_M → Prop} (hk36 : ∀ (v2 : Int32) (v3 : Int32) (v4 : Int32) (μ : hx_M), K36 v2 v3 v4 μ → G Λ μ (0, 0) 36 [some (.ref 49), none, some (.int v2), some (.int v3), some (.int v4), none] []) (hw : wX12_read_J67 K K36 v4 v5 μ) : G Λ μ (0, 0) 67 [some (.ref 49), none, none, none, some (.int v4), some (.int v5)] [] := by
  unfold wX12_read_J67 at hw
  refine cl_iload hG (hx_dq tdX12_read_1 6 rfl) rfl (cl_istore_n hG (hx_dq tdX12_read_1 7 rfl) (Nat.le_of_ble_eq_true rfl) rfl (cl_iload hG (hx_dq tdX12_read_1 8 rfl) rfl (cl_istore_n hG (hx_dq tdX12_read_1 9 rfl) (Nat.le_of_ble_eq_true rfl) rfl ?_)))
  exact cl_sub hG (hx_le_c rfl (hx_le_n (hx_le_c rfl (hx_le_c rfl (hx_le_c rfl (hx_le_n hx_le_0)))))) (kX12_read_J73 hG cA hF v4 v5 v4 hK (fun z0 z1 z2 z3 hw => hk36 z0 z1 z2 z3 hw) hw)
def wX12_read_J73_3  (K : Int32 → hx_M → Prop) (K36 : Int32 → Int32 → Int32 → hx_M → Prop) (v2 : Int32) (v3 : Int32) (v4 : Int32)  (μ : hx_M) : Prop := K36 v2 v3 (v4 + 1) μ
set_option maxRecDepth 100000 in
set_option maxHeartbeats 4000000 in
theorem kX12_read_J73_3 {G : hx_GT} {KK : hx_KT} (hG : hx_K cX12_read 6 0 0 (some .int) TbX12 KK G) (cA : hx_CA RX12 cX12_read 6 0 0 G) {Λ : hx_L} (hF : mF Λ) {μ : hx_M} (v2 : Int32) (v3 : Int32) (v4 : Int32)  {K : Int32 → hx_M → Prop} (hK : ∀ (r : Int32) (m : hx_M), K r m → KK (some (.int r)) Λ m) {K36 : Int32 → Int32 → Int32 → hx_M → Prop} (hk36 : ∀ (v2 : Int32) (v3 : Int32) (v4 : Int32) (μ : hx_M), K36 v2 v3 v4 μ → G Λ μ (0, 0) 36 [some (.ref 49), none, some (.int v2), some (.int v3), some (.int v4), none] []) (hw : wX12_read_J73_3 K K36 v2 v3 v4 μ) : G Λ μ (0, 0) 73 [some (.ref 49), none, some (.int v2), some (.int v3), some (.int v4), none] [] := by
  unfold wX12_read_J73_3 at hw
  exact cl_iinc hG (v4 + 1) (hx_dq tdX12_read_1 10 rfl) rfl (congrArg (fun z => v4 + z) iconst_1) (Nat.le_of_ble_eq_true rfl) rfl (cl_goto hG 36 (hx_dq tdX12_read_1 11 rfl) rfl (cl_sub hG (hx_le_c rfl (hx_le_n (hx_le_c rfl (hx_le_c rfl (hx_le_c rfl (hx_le_n hx_le_0)))))) (hk36 v2 v3 (v4 + 1) _ hw)))
def wX12_read_L36  (K : Int32 → hx_M → Prop)  : Nat → Int32 → Int32 → Int32 → hx_M → Prop
  | 0, _, _, _, _ => False
  | n + 1, v2, v3, v4, μ => ((μ.1 49 20) ≤ v4 → (K v2 μ)) ∧ (¬ ((μ.1 49 20) ≤ v4) → (wX12_readBy μ v4 (fun r48_2 m48_1 => (v2 = (-1) → (wX12_read_J67 K (wX12_read_L36 K n) v4 r48_2 m48_1)) ∧ (¬ (v2 = (-1)) → ((r48_2 < v3 → (wX12_read_J67 K (wX12_read_L36 K n) v4 r48_2 m48_1)) ∧ (¬ (r48_2 < v3) → (wX12_read_J73_3 K (wX12_read_L36 K n) v2 v3 v4 m48_1)))))))
set_option maxRecDepth 100000 in
set_option maxHeartbeats 4000000 in
theorem kX12_read_L36 {G : hx_GT} {KK : hx_KT} (hG : hx_K cX12_read 6 0 0 (some .int) TbX12 KK G) (cA : hx_CA RX12 cX12_read 6 0 0 G) {Λ : hx_L} (hF : mF Λ)   {K : Int32 → hx_M → Prop} (hK : ∀ (r : Int32) (m : hx_M), K r m → KK (some (.int r)) Λ m)  : ∀ (n : Nat) (v2 : Int32) (v3 : Int32) (v4 : Int32) (μ : hx_M), wX12_read_L36 K n v2 v3 v4 μ → G Λ μ (0, 0) 36 [some (.ref 49), none, some (.int v2), some (.int v3), some (.int v4), none] [] := by
  intro n
  induction n with
  | zero =>
    intro v2 v3 v4 μ hw
    exact False.elim (by simpa only [wX12_read_L36] using hw)
  | succ n ih =>
    intro v2 v3 v4 μ hw
    unfold wX12_read_L36 at hw
    refine cl_iload hG (hx_dq tdX12_read_0 23 rfl) rfl (cl_aload_n hG (hx_dq tdX12_read_0 24 rfl) rfl (cl_getI hG fmX12_293 (hx_dq tdX12_read_0 25 rfl) (mF_S49 hF) (cl_icmp_ge hG 79 (hx_dq tdX12_read_0 26 rfl) rfl (fun c42 => ?_) (fun c42 => ?_))))
    · replace hw := hw.1 c42
      exact cl_iload_n hG (hx_dq tdX12_read_1 12 rfl) rfl (cl_iret hG (hx_dq tdX12_read_1 13 rfl) rfl rfl (hK _ _ hw) (Nat.le_refl _) (Nat.le_refl _))
    · replace hw := hw.2 c42
      refine cl_aload_n hG (hx_dq tdX12_read_0 27 rfl) rfl (cl_iload hG (hx_dq tdX12_read_0 28 rfl) rfl (cl_callV1 (caX12_read_444 cA) (hx_dq tdX12_read_0 29 rfl) (mF_S49 hF) (Nat.le_of_ble_eq_true rfl) (Nat.le_refl _) (Nat.le_refl _) (sX12_readBy_mk hF hw (fun r48_2 m48_1 hw => ?_))))
      refine cl_istore hG (hx_dq tdX12_read_0 30 rfl) (Nat.le_of_ble_eq_true rfl) rfl (cl_iload_n hG (hx_dq tdX12_read_0 31 rfl) rfl (cl_iconst hG (-1) (hx_dq tdX12_read_1 0 rfl) iconst_m1 (cl_icmp_eq hG 67 (hx_dq tdX12_read_1 1 rfl) rfl (fun c55 => ?_) (fun c55 => ?_))))
      · replace hw := hw.1 c55
        exact cl_sub hG (hx_le_c rfl (hx_le_n (hx_le_n (hx_le_n (hx_le_c rfl (hx_le_c rfl hx_le_0)))))) (kX12_read_J67 hG cA hF v4 r48_2 hK (fun z0 z1 z2 z3 hw => ih z0 z1 z2 z3 hw) hw)
      · replace hw := hw.2 c55
        refine cl_iload hG (hx_dq tdX12_read_1 2 rfl) rfl (cl_iload_n hG (hx_dq tdX12_read_1 3 rfl) rfl (cl_icmp_lt hG 67 (hx_dq tdX12_read_1 4 rfl) rfl (fun c61 => ?_) (fun c61 => ?_)))
        · replace hw := hw.1 c61
          exact cl_sub hG (hx_le_c rfl (hx_le_n (hx_le_n (hx_le_n (hx_le_c rfl (hx_le_c rfl hx_le_0)))))) (kX12_read_J67 hG cA hF v4 r48_2 hK (fun z0 z1 z2 z3 hw => ih z0 z1 z2 z3 hw) hw)
        · replace hw := hw.2 c61
          refine cl_goto hG 73 (hx_dq tdX12_read_1 5 rfl) rfl ?_
          exact cl_sub hG (hx_le_c rfl (hx_le_n (hx_le_c rfl (hx_le_c rfl (hx_le_c rfl (hx_le_n hx_le_0)))))) (kX12_read_J73_3 hG cA hF v2 v3 v4 hK (fun z0 z1 z2 z3 hw => ih z0 z1 z2 z3 hw) hw)
def wX12_read (μ : hx_M) (v1 : Int32) (K : Int32 → hx_M → Prop) : Prop := (v1 = (-1) → (∃ n36_4, wX12_read_L36 K n36_4 (-1) 0 0 μ)) ∧ (¬ (v1 = (-1)) → (wX12_isIn v1 0 ((μ.1 49 20) - 1) (fun r13_6 => (r13_6 = 0 → (K (-1) μ)) ∧ (¬ (r13_6 = 0) → (wX12_readBy μ v1 (fun r21_8 m21_7 => K r21_8 m21_7))))))
set_option maxRecDepth 100000 in
set_option maxHeartbeats 4000000 in
theorem kX12_read {G : hx_GT} {KK : hx_KT} (hG : hx_K cX12_read 6 0 0 (some .int) TbX12 KK G) (cA : hx_CA RX12 cX12_read 6 0 0 G) {Λ : hx_L} (hF : mF Λ) {μ : hx_M} (v1 : Int32) {K : Int32 → hx_M → Prop} (hK : ∀ (r : Int32) (m : hx_M), K r m → KK (some (.int r)) Λ m) (hw : wX12_read μ v1 K) : G Λ μ (0, 0) 0 [some (.ref 49), some (.int v1), none, none, none, none] [] := by
  unfold wX12_read at hw
  refine cl_iload_n hG (hx_dq tdX12_read_0 0 rfl) rfl (cl_iconst hG (-1) (hx_dq tdX12_read_0 1 rfl) iconst_m1 (cl_icmp_eq hG 29 (hx_dq tdX12_read_0 2 rfl) rfl (fun c2 => ?_) (fun c2 => ?_)))
  · replace hw := hw.1 c2
    refine cl_iconst hG (-1) (hx_dq tdX12_read_0 17 rfl) iconst_m1 (cl_istore_n hG (hx_dq tdX12_read_0 18 rfl) (Nat.le_of_ble_eq_true rfl) rfl (cl_iconst hG 0 (hx_dq tdX12_read_0 19 rfl) iconst_0 (cl_istore_n hG (hx_dq tdX12_read_0 20 rfl) (Nat.le_of_ble_eq_true rfl) rfl (cl_iconst hG 0 (hx_dq tdX12_read_0 21 rfl) iconst_0 (cl_istore hG (hx_dq tdX12_read_0 22 rfl) (Nat.le_of_ble_eq_true rfl) rfl ?_)))))
    obtain ⟨n_, hw⟩ := hw
    refine cl_sub hG (hx_le_c rfl (hx_le_n (hx_le_c rfl (hx_le_c rfl (hx_le_c rfl (hx_le_n hx_le_0)))))) (kX12_read_L36 hG cA hF hK n_ (-1) 0 0 _ hw)
  · replace hw := hw.2 c2
    refine cl_iload_n hG (hx_dq tdX12_read_0 3 rfl) rfl (cl_iconst hG 0 (hx_dq tdX12_read_0 4 rfl) iconst_0 (cl_aload_n hG (hx_dq tdX12_read_0 5 rfl) rfl (cl_getI hG fmX12_293 (hx_dq tdX12_read_0 6 rfl) (mF_S49 hF) (cl_iconst hG 1 (hx_dq tdX12_read_0 7 rfl) iconst_1 (cl_isub hG (hx_dq tdX12_read_0 8 rfl) (cl_callS3 (caX12_read_157 cA) (hx_dq tdX12_read_0 9 rfl) (Nat.le_of_ble_eq_true rfl) (Nat.le_refl _) (Nat.le_refl _) (sX12_isIn_mk hw (fun r13_6 hw => ?_))))))))
    refine cl_if_eq hG 27 (hx_dq tdX12_read_0 10 rfl) rfl (fun c16 => ?_) (fun c16 => ?_)
    · replace hw := hw.1 c16
      exact cl_iconst hG (-1) (hx_dq tdX12_read_0 15 rfl) iconst_m1 (cl_iret hG (hx_dq tdX12_read_0 16 rfl) rfl rfl (hK _ _ hw) (Nat.le_refl _) (Nat.le_refl _))
    · replace hw := hw.2 c16
      refine cl_aload_n hG (hx_dq tdX12_read_0 11 rfl) rfl (cl_iload_n hG (hx_dq tdX12_read_0 12 rfl) rfl (cl_callV1 (caX12_read_444 cA) (hx_dq tdX12_read_0 13 rfl) (mF_S49 hF) (Nat.le_of_ble_eq_true rfl) (Nat.le_refl _) (Nat.le_refl _) (sX12_readBy_mk hF hw (fun r21_8 m21_7 hw => ?_))))
      exact cl_goto hG 28 (hx_dq tdX12_read_0 14 rfl) rfl (cl_iret hG (hx_dq tdX12_read_0 16 rfl) rfl rfl (hK _ _ hw) (Nat.le_refl _) (Nat.le_refl _))
def sX12_read : hx_ST := fun Λ μ as KK => mF Λ ∧ ∃ (v1 : Int32) (K : Int32 → hx_M → Prop), as = [.ref 49, .int v1] ∧ wX12_read μ v1 K ∧ (∀ (r : Int32) (m : hx_M), K r m → KK (some (.int r)) Λ m)
theorem sX12_read_mk {Λ : hx_L} {μ : hx_M} {KK : hx_KT} {v1 : Int32} {K : Int32 → hx_M → Prop} (hF : mF Λ) (hw : wX12_read μ v1 K) (hk : ∀ (r : Int32) (m : hx_M), K r m → KK (some (.int r)) Λ m) : sX12_read Λ μ [.ref 49, .int v1] KK := ⟨hF, _, _, rfl, hw, hk⟩
theorem conX12_read : hx_Con yX12_read cX12_read 6 (some .int) 6 0 0 sX12_read := by
  refine hx_con_of (by decide +kernel) tokX12 (by decide) ?_ ?_
  · intro Λ μ as KK h
    obtain ⟨hF, v1, K, rfl, hw, hK⟩ := h
    exact Nat.le_of_ble_eq_true rfl
  · intro G KK hG cA Λ μ as h
    obtain ⟨hF, v1, K, rfl, hw, hK⟩ := h
    exact cl_sub hG (hx_le_c rfl (hx_le_c rfl (hx_le_n (hx_le_n (hx_le_n (hx_le_n hx_le_0)))))) (kX12_read hG cA hF _ hK hw)
/-! HemLineModel.lays([II)V -/
def tbX12_lays_0 : List (Nat × Instr × Nat) := [(0, .iconst 0, 1), (1, .istore_n 3, 1), (2, .iload_n 3, 1), (3, .iload_n 2, 1), (4, .if_icmp .ge 23, 3), (7, .aload_n 0, 1), (8, .getfield 145, 3), (11, .aload_n 0, 1), (12, .getfield 447, 3), (15, .iload_n 3, 1), (16, .iadd, 1), (17, .aload_n 1, 1), (18, .iload_n 3, 1), (19, .iaload, 1), (20, .iastore, 1), (21, .iinc 3 1, 3), (24, .goto (-22), 3), (27, .aload_n 0, 1), (28, .dup, 1), (29, .getfield 447, 3), (32, .iload_n 2, 1), (33, .iadd, 1), (34, .putfield 447, 3), (37, .return_, 1)]
theorem tdX12_lays_0 : hx_dt cX12_lays tbX12_lays_0 = true := by decide +kernel
def wX12_lays_L2 (Λ : hx_L) (v1 : Nat) (v2 : Int32) (K : hx_M → Prop) (K27 : hx_M → Prop) : Nat → Int32 → hx_M → Prop
  | 0, _, _ => False
  | n + 1, v3, μ => (v2 ≤ v3 → (K27 μ)) ∧ (¬ (v2 ≤ v3) → (∃ n19_2, Λ.1 v1 = (1, n19_2) ∧ vp_in v3 n19_2 ∧ vp_in ((μ.1 49 66) + v3) 45000 ∧ wX12_lays_L2 Λ v1 v2 K K27 n (v3 + 1) (hx_sI μ 90 (((μ.1 49 66) + v3).toNatClampNeg) (μ.1 v1 v3.toNatClampNeg))))
set_option maxRecDepth 100000 in
set_option maxHeartbeats 4000000 in
theorem kX12_lays_L2 {G : hx_GT} {KK : hx_KT} (hG : hx_K cX12_lays 4 0 0 (none) TbX12 KK G) (cA : hx_CA RX12 cX12_lays 1 0 0 G) {Λ : hx_L} (hF : mF Λ)  (v1 : Nat) (v2 : Int32) {K : hx_M → Prop} (hK : ∀ (m : hx_M), K m → KK none Λ m) {K27 : hx_M → Prop} (hk27 : ∀ (μ : hx_M), K27 μ → G Λ μ (0, 0) 27 [some (.ref 49), none, some (.int v2), none] []) : ∀ (n : Nat) (v3 : Int32) (μ : hx_M), wX12_lays_L2 Λ v1 v2 K K27 n v3 μ → G Λ μ (0, 0) 2 [some (.ref 49), some (.ref v1), some (.int v2), some (.int v3)] [] := by
  intro n
  induction n with
  | zero =>
    intro v3 μ hw
    exact False.elim (by simpa only [wX12_lays_L2] using hw)
  | succ n ih =>
    intro v3 μ hw
    unfold wX12_lays_L2 at hw
    refine cl_iload_n hG (hx_dq tdX12_lays_0 2 rfl) rfl (cl_iload_n hG (hx_dq tdX12_lays_0 3 rfl) rfl (cl_icmp_ge hG 27 (hx_dq tdX12_lays_0 4 rfl) rfl (fun c4 => ?_) (fun c4 => ?_)))
    · replace hw := hw.1 c4
      exact cl_sub hG (hx_le_c rfl (hx_le_n (hx_le_c rfl (hx_le_n hx_le_0)))) (hk27 _ hw)
    · replace hw := hw.2 c4
      obtain ⟨n19_2, o19_1, hw⟩ := hw
      obtain ⟨i19_3, hw⟩ := hw
      obtain ⟨i20_4, hw⟩ := hw
      exact cl_aload_n hG (hx_dq tdX12_lays_0 5 rfl) rfl (cl_getS hG fmX12_145 (hx_dq tdX12_lays_0 6 rfl) (mF_S49 hF) (mF_R49_67 hF) (cl_aload_n hG (hx_dq tdX12_lays_0 7 rfl) rfl (cl_getI hG fmX12_447 (hx_dq tdX12_lays_0 8 rfl) (mF_S49 hF) (cl_iload_n hG (hx_dq tdX12_lays_0 9 rfl) rfl (cl_iadd hG (hx_dq tdX12_lays_0 10 rfl) (cl_aload_n hG (hx_dq tdX12_lays_0 11 rfl) rfl (cl_iload_n hG (hx_dq tdX12_lays_0 12 rfl) rfl (cl_iald hG (hx_dq tdX12_lays_0 13 rfl) o19_1 i19_3 (cl_iast hG (hx_dq tdX12_lays_0 14 rfl) (mF_S90 hF) i20_4 (cl_iinc hG (v3 + 1) (hx_dq tdX12_lays_0 15 rfl) rfl (congrArg (fun z => v3 + z) iconst_1) (Nat.le_of_ble_eq_true rfl) rfl (cl_goto hG 2 (hx_dq tdX12_lays_0 16 rfl) rfl (cl_sub hG (hx_le_c rfl (hx_le_c rfl (hx_le_c rfl (hx_le_c rfl hx_le_0)))) (ih (v3 + 1) _ hw)))))))))))))
def wX12_lays (Λ : hx_L) (μ : hx_M) (v1 : Nat) (v2 : Int32) (K : hx_M → Prop) : Prop := ∃ n2_6, wX12_lays_L2 Λ v1 v2 K (fun m_5 => K (hx_sI m_5 49 66 ((m_5.1 49 66) + v2))) n2_6 0 μ
set_option maxRecDepth 100000 in
set_option maxHeartbeats 4000000 in
theorem kX12_lays {G : hx_GT} {KK : hx_KT} (hG : hx_K cX12_lays 4 0 0 (none) TbX12 KK G) (cA : hx_CA RX12 cX12_lays 1 0 0 G) {Λ : hx_L} (hF : mF Λ) {μ : hx_M} (v1 : Nat) (v2 : Int32) {K : hx_M → Prop} (hK : ∀ (m : hx_M), K m → KK none Λ m) (hw : wX12_lays Λ μ v1 v2 K) : G Λ μ (0, 0) 0 [some (.ref 49), some (.ref v1), some (.int v2), none] [] := by
  unfold wX12_lays at hw
  refine cl_iconst hG 0 (hx_dq tdX12_lays_0 0 rfl) iconst_0 (cl_istore_n hG (hx_dq tdX12_lays_0 1 rfl) (Nat.le_of_ble_eq_true rfl) rfl ?_)
  obtain ⟨n_, hw⟩ := hw
  refine cl_sub hG (hx_le_c rfl (hx_le_c rfl (hx_le_c rfl (hx_le_c rfl hx_le_0)))) (kX12_lays_L2 hG cA hF v1 v2 hK (fun m_5 hw => ?_) n_ 0 _ hw)
  · exact cl_aload_n hG (hx_dq tdX12_lays_0 17 rfl) rfl (cl_dup hG (hx_dq tdX12_lays_0 18 rfl) rfl (cl_getI hG fmX12_447 (hx_dq tdX12_lays_0 19 rfl) (mF_S49 hF) (cl_iload_n hG (hx_dq tdX12_lays_0 20 rfl) rfl (cl_iadd hG (hx_dq tdX12_lays_0 21 rfl) (cl_putI hG fmX12_447 (hx_dq tdX12_lays_0 22 rfl) (mF_S49 hF) (cl_vret hG (hx_dq tdX12_lays_0 23 rfl) rfl (hK _ hw) (Nat.le_refl _) (Nat.le_refl _)))))))
def sX12_lays : hx_ST := fun Λ μ as KK => mF Λ ∧ ∃ (v1 : Nat) (v2 : Int32) (K : hx_M → Prop), as = [.ref 49, .ref v1, .int v2] ∧ wX12_lays Λ μ v1 v2 K ∧ (∀ (m : hx_M), K m → KK none Λ m)
theorem sX12_lays_mk {Λ : hx_L} {μ : hx_M} {KK : hx_KT} {v1 : Nat} {v2 : Int32} {K : hx_M → Prop} (hF : mF Λ) (hw : wX12_lays Λ μ v1 v2 K) (hk : ∀ (m : hx_M), K m → KK none Λ m) : sX12_lays Λ μ [.ref 49, .ref v1, .int v2] KK := ⟨hF, _, _, _, rfl, hw, hk⟩
theorem conX12_lays : hx_Con yX12_lays cX12_lays 4 (none) 1 0 0 sX12_lays := by
  refine hx_con_of (by decide +kernel) tokX12 (by decide) ?_ ?_
  · intro Λ μ as KK h
    obtain ⟨hF, v1, v2, K, rfl, hw, hK⟩ := h
    exact Nat.le_of_ble_eq_true rfl
  · intro G KK hG cA Λ μ as h
    obtain ⟨hF, v1, v2, K, rfl, hw, hK⟩ := h
    exact cl_sub hG (hx_le_c rfl (hx_le_c rfl (hx_le_c rfl (hx_le_n hx_le_0)))) (kX12_lays hG cA hF _ _ hK hw)
/-! HemLineModel.fetches([II)V -/
def tbX12_fetches_0 : List (Nat × Instr × Nat) := [(0, .iconst 0, 1), (1, .istore_n 3, 1), (2, .iload_n 3, 1), (3, .iload_n 2, 1), (4, .if_icmp .ge 23, 3), (7, .aload_n 1, 1), (8, .iload_n 3, 1), (9, .aload_n 0, 1), (10, .getfield 145, 3), (13, .aload_n 0, 1), (14, .getfield 447, 3), (17, .iload_n 3, 1), (18, .iadd, 1), (19, .iaload, 1), (20, .iastore, 1), (21, .iinc 3 1, 3), (24, .goto (-22), 3), (27, .aload_n 0, 1), (28, .dup, 1), (29, .getfield 447, 3), (32, .iload_n 2, 1), (33, .iadd, 1), (34, .putfield 447, 3), (37, .return_, 1)]
theorem tdX12_fetches_0 : hx_dt cX12_fetches tbX12_fetches_0 = true := by decide +kernel
def wX12_fetches_L2 (Λ : hx_L) (v1 : Nat) (v2 : Int32) (K : hx_M → Prop) (K27 : hx_M → Prop) : Nat → Int32 → hx_M → Prop
  | 0, _, _ => False
  | n + 1, v3, μ => (v2 ≤ v3 → (K27 μ)) ∧ (¬ (v2 ≤ v3) → (vp_in ((μ.1 49 66) + v3) 45000 ∧ ∃ n20_3, Λ.1 v1 = (1, n20_3) ∧ vp_in v3 n20_3 ∧ wX12_fetches_L2 Λ v1 v2 K K27 n (v3 + 1) (hx_sI μ v1 v3.toNatClampNeg ((μ.1 90 (((μ.1 49 66) + v3).toNatClampNeg))))))
set_option maxRecDepth 100000 in
set_option maxHeartbeats 4000000 in
theorem kX12_fetches_L2 {G : hx_GT} {KK : hx_KT} (hG : hx_K cX12_fetches 4 0 0 (none) TbX12 KK G) (cA : hx_CA RX12 cX12_fetches 1 0 0 G) {Λ : hx_L} (hF : mF Λ)  (v1 : Nat) (v2 : Int32) {K : hx_M → Prop} (hK : ∀ (m : hx_M), K m → KK none Λ m) {K27 : hx_M → Prop} (hk27 : ∀ (μ : hx_M), K27 μ → G Λ μ (0, 0) 27 [some (.ref 49), none, some (.int v2), none] []) : ∀ (n : Nat) (v3 : Int32) (μ : hx_M), wX12_fetches_L2 Λ v1 v2 K K27 n v3 μ → G Λ μ (0, 0) 2 [some (.ref 49), some (.ref v1), some (.int v2), some (.int v3)] [] := by
  intro n
  induction n with
  | zero =>
    intro v3 μ hw
    exact False.elim (by simpa only [wX12_fetches_L2] using hw)
  | succ n ih =>
    intro v3 μ hw
    unfold wX12_fetches_L2 at hw
    refine cl_iload_n hG (hx_dq tdX12_fetches_0 2 rfl) rfl (cl_iload_n hG (hx_dq tdX12_fetches_0 3 rfl) rfl (cl_icmp_ge hG 27 (hx_dq tdX12_fetches_0 4 rfl) rfl (fun c4 => ?_) (fun c4 => ?_)))
    · replace hw := hw.1 c4
      exact cl_sub hG (hx_le_c rfl (hx_le_n (hx_le_c rfl (hx_le_n hx_le_0)))) (hk27 _ hw)
    · replace hw := hw.2 c4
      obtain ⟨i19_1, hw⟩ := hw
      obtain ⟨n20_3, o20_2, hw⟩ := hw
      obtain ⟨i20_4, hw⟩ := hw
      exact cl_aload_n hG (hx_dq tdX12_fetches_0 5 rfl) rfl (cl_iload_n hG (hx_dq tdX12_fetches_0 6 rfl) rfl (cl_aload_n hG (hx_dq tdX12_fetches_0 7 rfl) rfl (cl_getS hG fmX12_145 (hx_dq tdX12_fetches_0 8 rfl) (mF_S49 hF) (mF_R49_67 hF) (cl_aload_n hG (hx_dq tdX12_fetches_0 9 rfl) rfl (cl_getI hG fmX12_447 (hx_dq tdX12_fetches_0 10 rfl) (mF_S49 hF) (cl_iload_n hG (hx_dq tdX12_fetches_0 11 rfl) rfl (cl_iadd hG (hx_dq tdX12_fetches_0 12 rfl) (cl_iald hG (hx_dq tdX12_fetches_0 13 rfl) (mF_S90 hF) i19_1 (cl_iast hG (hx_dq tdX12_fetches_0 14 rfl) o20_2 i20_4 (cl_iinc hG (v3 + 1) (hx_dq tdX12_fetches_0 15 rfl) rfl (congrArg (fun z => v3 + z) iconst_1) (Nat.le_of_ble_eq_true rfl) rfl (cl_goto hG 2 (hx_dq tdX12_fetches_0 16 rfl) rfl (cl_sub hG (hx_le_c rfl (hx_le_c rfl (hx_le_c rfl (hx_le_c rfl hx_le_0)))) (ih (v3 + 1) _ hw)))))))))))))
def wX12_fetches (Λ : hx_L) (μ : hx_M) (v1 : Nat) (v2 : Int32) (K : hx_M → Prop) : Prop := ∃ n2_6, wX12_fetches_L2 Λ v1 v2 K (fun m_5 => K (hx_sI m_5 49 66 ((m_5.1 49 66) + v2))) n2_6 0 μ
set_option maxRecDepth 100000 in
set_option maxHeartbeats 4000000 in
theorem kX12_fetches {G : hx_GT} {KK : hx_KT} (hG : hx_K cX12_fetches 4 0 0 (none) TbX12 KK G) (cA : hx_CA RX12 cX12_fetches 1 0 0 G) {Λ : hx_L} (hF : mF Λ) {μ : hx_M} (v1 : Nat) (v2 : Int32) {K : hx_M → Prop} (hK : ∀ (m : hx_M), K m → KK none Λ m) (hw : wX12_fetches Λ μ v1 v2 K) : G Λ μ (0, 0) 0 [some (.ref 49), some (.ref v1), some (.int v2), none] [] := by
  unfold wX12_fetches at hw
  refine cl_iconst hG 0 (hx_dq tdX12_fetches_0 0 rfl) iconst_0 (cl_istore_n hG (hx_dq tdX12_fetches_0 1 rfl) (Nat.le_of_ble_eq_true rfl) rfl ?_)
  obtain ⟨n_, hw⟩ := hw
  refine cl_sub hG (hx_le_c rfl (hx_le_c rfl (hx_le_c rfl (hx_le_c rfl hx_le_0)))) (kX12_fetches_L2 hG cA hF v1 v2 hK (fun m_5 hw => ?_) n_ 0 _ hw)
  · exact cl_aload_n hG (hx_dq tdX12_fetches_0 17 rfl) rfl (cl_dup hG (hx_dq tdX12_fetches_0 18 rfl) rfl (cl_getI hG fmX12_447 (hx_dq tdX12_fetches_0 19 rfl) (mF_S49 hF) (cl_iload_n hG (hx_dq tdX12_fetches_0 20 rfl) rfl (cl_iadd hG (hx_dq tdX12_fetches_0 21 rfl) (cl_putI hG fmX12_447 (hx_dq tdX12_fetches_0 22 rfl) (mF_S49 hF) (cl_vret hG (hx_dq tdX12_fetches_0 23 rfl) rfl (hK _ hw) (Nat.le_refl _) (Nat.le_refl _)))))))
def sX12_fetches : hx_ST := fun Λ μ as KK => mF Λ ∧ ∃ (v1 : Nat) (v2 : Int32) (K : hx_M → Prop), as = [.ref 49, .ref v1, .int v2] ∧ wX12_fetches Λ μ v1 v2 K ∧ (∀ (m : hx_M), K m → KK none Λ m)
theorem sX12_fetches_mk {Λ : hx_L} {μ : hx_M} {KK : hx_KT} {v1 : Nat} {v2 : Int32} {K : hx_M → Prop} (hF : mF Λ) (hw : wX12_fetches Λ μ v1 v2 K) (hk : ∀ (m : hx_M), K m → KK none Λ m) : sX12_fetches Λ μ [.ref 49, .ref v1, .int v2] KK := ⟨hF, _, _, _, rfl, hw, hk⟩
theorem conX12_fetches : hx_Con yX12_fetches cX12_fetches 4 (none) 1 0 0 sX12_fetches := by
  refine hx_con_of (by decide +kernel) tokX12 (by decide) ?_ ?_
  · intro Λ μ as KK h
    obtain ⟨hF, v1, v2, K, rfl, hw, hK⟩ := h
    exact Nat.le_of_ble_eq_true rfl
  · intro G KK hG cA Λ μ as h
    obtain ⟨hF, v1, v2, K, rfl, hw, hK⟩ := h
    exact cl_sub hG (hx_le_c rfl (hx_le_c rfl (hx_le_c rfl (hx_le_n hx_le_0)))) (kX12_fetches hG cA hF _ _ hK hw)
