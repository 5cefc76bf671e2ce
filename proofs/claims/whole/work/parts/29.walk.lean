/-! HemLineModel.read(I)I -/
def tbX12_read_0 : List (Nat × Instr × Nat) := [(0, .iload_n 1, 1), (1, .iconst (-1), 1), (2, .if_icmp .eq 27, 3), (5, .iload_n 1, 1), (6, .iconst 0, 1), (7, .aload_n 0, 1), (8, .getfield 293, 3), (11, .iconst 1, 1), (12, .isub, 1), (13, .invokestatic 157, 3), (16, .ifCond .eq 11, 3), (19, .aload_n 0, 1), (20, .iload_n 1, 1), (21, .invokevirtual 444, 3), (24, .goto 4, 3), (27, .iconst (-1), 1), (28, .ireturn, 1), (29, .iconst (-1), 1), (30, .istore_n 2, 1), (31, .iconst 0, 1), (32, .istore_n 3, 1), (33, .iconst 0, 1), (34, .istore 4, 2), (36, .iload 4, 2), (38, .aload_n 0, 1), (39, .getfield 293, 3), (42, .if_icmp .ge 37, 3), (45, .aload_n 0, 1), (46, .iload 4, 2), (48, .invokevirtual 444, 3), (51, .istore 5, 2), (53, .iload_n 2, 1)]
def tbX12_read_1 : List (Nat × Instr × Nat) := [(54, .iconst (-1), 1), (55, .if_icmp .eq 12, 3), (58, .iload 5, 2), (60, .iload_n 3, 1), (61, .if_icmp .lt 6, 3), (64, .goto 9, 3), (67, .iload 4, 2), (69, .istore_n 2, 1), (70, .iload 5, 2), (72, .istore_n 3, 1), (73, .iinc 4 1, 3), (76, .goto (-40), 3), (79, .iload_n 2, 1), (80, .ireturn, 1)]
theorem tdX12_read_0 : hx_dt cX12_read tbX12_read_0 = true := by decide +kernel
theorem tdX12_read_1 : hx_dt cX12_read tbX12_read_1 = true := by decide +kernel
theorem caX12_read_157 {G : hx_GT} (cA : hx_CA RX12 cX12_read 6 0 0 G) : hx_CS cX12_read G 0 0 157 3 sX12_isIn 0 0 := cA.2.1 conX12_isIn ⟨by decide +kernel, by decide +kernel, by decide +kernel⟩ mw_1343 mw_1344 mw_97 mw_1345 (by decide) (by decide)
theorem caX12_read_444 {G : hx_GT} (cA : hx_CA RX12 cX12_read 6 0 0 G) : hx_CV cX12_read G 0 0 444 12 1 sX12_readBy 0 0 := cA.1 conX12_readBy rfl rfl ⟨by decide +kernel, by decide +kernel, by decide +kernel⟩ mw_1684 mw_1686 mw_80 mw_97 mw_1687 (by decide) (by decide)
def wX12_read_J73  (K : Int32 → hx_M → Prop) (K36 : Int32 → Int32 → Int32 → hx_M → Prop) (v2 : Int32) (v3 : Int32) (v4 : Int32)  (μ : hx_M) : Prop := K36 v2 v3 (v4 + 1) μ
set_option maxRecDepth 100000 in
set_option maxHeartbeats 4000000 in
theorem kX12_read_J73 {G : hx_GT} {KK : hx_KT} (hG : hx_K cX12_read 6 0 0 (some .int) TbX12 KK G) (cA : hx_CA RX12 cX12_read 6 0 0 G) {Λ : hx_L} (hF : mF Λ) {μ : hx_M} (v2 : Int32) (v3 : Int32) (v4 : Int32)  {K : Int32 → hx_M → Prop} (hK : ∀ (r : Int32) (m : hx_M), K r m → KK (some (.int r)) Λ m) {K36 : Int32 → Int32 → Int32 → hx_M → Prop} (hk36 : ∀ (v2 : Int32) (v3 : Int32) (v4 : Int32) (μ : hx_M), K36 v2 v3 v4 μ → G Λ μ (0, 0) 36 [some (.ref 0), none, some (.int v2), some (.int v3), some (.int v4), none] []) (hw : wX12_read_J73 K K36 v2 v3 v4 μ) : G Λ μ (0, 0) 73 [some (.ref 0), none, some (.int v2), some (.int v3), some (.int v4), none] [] := by
  unfold wX12_read_J73 at hw
  exact cl_iinc hG (v4 + 1) (hx_dq tdX12_read_1 10 rfl) rfl (congrArg (fun z => v4 + z) iconst_1) (Nat.le_of_ble_eq_true rfl) rfl (cl_goto hG 36 (hx_dq tdX12_read_1 11 rfl) rfl (cl_sub hG (hx_le_c rfl (hx_le_n (hx_le_c rfl (hx_le_c rfl (hx_le_c rfl (hx_le_n hx_le_0)))))) (hk36 v2 v3 (v4 + 1) _ hw)))
def wX12_read_J67  (K : Int32 → hx_M → Prop) (K36 : Int32 → Int32 → Int32 → hx_M → Prop) (v4 : Int32) (v5 : Int32)  (μ : hx_M) : Prop := wX12_read_J73 K (K36) v4 v5 v4 μ
set_option maxRecDepth 100000 in
set_option maxHeartbeats 4000000 in
theorem kX12_read_J67 {G : hx_GT} {KK : hx_KT} (hG : hx_K cX12_read 6 0 0 (some .int) TbX12 KK G) (cA : hx_CA RX12 cX12_read 6 0 0 G) {Λ : hx_L} (hF : mF Λ) {μ : hx_M} (v4 : Int32) (v5 : Int32)  {K : Int32 → hx_M → Prop} (hK : ∀ (r : Int32) (m : hx_M), K r m → KK (some (.int r)) Λ m) {K36 : Int32 → Int32 → Int32 → hx_M → Prop} (hk36 : ∀ (v2 : Int32) (v3 : Int32) (v4 : Int32) (μ : hx_M), K36 v2 v3 v4 μ → G Λ μ (0, 0) 36 [some (.ref 0), none, some (.int v2), some (.int v3), some (.int v4), none] []) (hw : wX12_read_J67 K K36 v4 v5 μ) : G Λ μ (0, 0) 67 [some (.ref 0), none, none, none, some (.int v4), some (.int v5)] [] := by
  unfold wX12_read_J67 at hw
  refine cl_iload hG (hx_dq tdX12_read_1 6 rfl) rfl (cl_istore_n hG (hx_dq tdX12_read_1 7 rfl) (Nat.le_of_ble_eq_true rfl) rfl (cl_iload hG (hx_dq tdX12_read_1 8 rfl) rfl (cl_istore_n hG (hx_dq tdX12_read_1 9 rfl) (Nat.le_of_ble_eq_true rfl) rfl ?_)))
  exact cl_sub hG (hx_le_c rfl (hx_le_n (hx_le_c rfl (hx_le_c rfl (hx_le_c rfl (hx_le_n hx_le_0)))))) (kX12_read_J73 hG cA hF v4 v5 v4 hK (fun z0 z1 z2 z3 hw => hk36 z0 z1 z2 z3 hw) hw)
def wX12_read_J73_3  (K : Int32 → hx_M → Prop) (K36 : Int32 → Int32 → Int32 → hx_M → Prop) (v2 : Int32) (v3 : Int32) (v4 : Int32)  (μ : hx_M) : Prop := K36 v2 v3 (v4 + 1) μ
set_option maxRecDepth 100000 in
set_option maxHeartbeats 4000000 in
theorem kX12_read_J73_3 {G : hx_GT} {KK : hx_KT} (hG : hx_K cX12_read 6 0 0 (some .int) TbX12 KK G) (cA : hx_CA RX12 cX12_read 6 0 0 G) {Λ : hx_L} (hF : mF Λ) {μ : hx_M} (v2 : Int32) (v3 : Int32) (v4 : Int32)  {K : Int32 → hx_M → Prop} (hK : ∀ (r : Int32) (m : hx_M), K r m → KK (some (.int r)) Λ m) {K36 : Int32 → Int32 → Int32 → hx_M → Prop} (hk36 : ∀ (v2 : Int32) (v3 : Int32) (v4 : Int32) (μ : hx_M), K36 v2 v3 v4 μ → G Λ μ (0, 0) 36 [some (.ref 0), none, some (.int v2), some (.int v3), some (.int v4), none] []) (hw : wX12_read_J73_3 K K36 v2 v3 v4 μ) : G Λ μ (0, 0) 73 [some (.ref 0), none, some (.int v2), some (.int v3), some (.int v4), none] [] := by
  unfold wX12_read_J73_3 at hw
  exact cl_iinc hG (v4 + 1) (hx_dq tdX12_read_1 10 rfl) rfl (congrArg (fun z => v4 + z) iconst_1) (Nat.le_of_ble_eq_true rfl) rfl (cl_goto hG 36 (hx_dq tdX12_read_1 11 rfl) rfl (cl_sub hG (hx_le_c rfl (hx_le_n (hx_le_c rfl (hx_le_c rfl (hx_le_c rfl (hx_le_n hx_le_0)))))) (hk36 v2 v3 (v4 + 1) _ hw)))
def wX12_read_L36  (K : Int32 → hx_M → Prop)  : Nat → Int32 → Int32 → Int32 → hx_M → Prop
  | 0, _, _, _, _ => False
  | n + 1, v2, v3, v4, μ => ((μ.1 0 20) ≤ v4 → (K v2 μ)) ∧ (¬ ((μ.1 0 20) ≤ v4) → (wX12_readBy μ v4 (fun r48_2 m48_1 => (v2 = (-1) → (wX12_read_J67 K (wX12_read_L36 K n) v4 r48_2 m48_1)) ∧ (¬ (v2 = (-1)) → ((r48_2 < v3 → (wX12_read_J67 K (wX12_read_L36 K n) v4 r48_2 m48_1)) ∧ (¬ (r48_2 < v3) → (wX12_read_J73_3 K (wX12_read_L36 K n) v2 v3 v4 m48_1)))))))
set_option maxRecDepth 100000 in
set_option maxHeartbeats 4000000 in
theorem kX12_read_L36 {G : hx_GT} {KK : hx_KT} (hG : hx_K cX12_read 6 0 0 (some .int) TbX12 KK G) (cA : hx_CA RX12 cX12_read 6 0 0 G) {Λ : hx_L} (hF : mF Λ)   {K : Int32 → hx_M → Prop} (hK : ∀ (r : Int32) (m : hx_M), K r m → KK (some (.int r)) Λ m)  : ∀ (n : Nat) (v2 : Int32) (v3 : Int32) (v4 : Int32) (μ : hx_M), wX12_read_L36 K n v2 v3 v4 μ → G Λ μ (0, 0) 36 [some (.ref 0), none, some (.int v2), some (.int v3), some (.int v4), none] [] := by
  intro n
  induction n with
  | zero =>
    intro v2 v3 v4 μ hw
    exact False.elim (by simpa only [wX12_read_L36] using hw)
  | succ n ih =>
    intro v2 v3 v4 μ hw
    unfold wX12_read_L36 at hw
    refine cl_iload hG (hx_dq tdX12_read_0 23 rfl) rfl (cl_aload_n hG (hx_dq tdX12_read_0 24 rfl) rfl (cl_getI hG fmX12_293 (hx_dq tdX12_read_0 25 rfl) (mF_S0 hF) (cl_icmp_ge hG 79 (hx_dq tdX12_read_0 26 rfl) rfl (fun c42 => ?_) (fun c42 => ?_))))
    · replace hw := hw.1 c42
      exact cl_iload_n hG (hx_dq tdX12_read_1 12 rfl) rfl (cl_iret hG (hx_dq tdX12_read_1 13 rfl) rfl rfl (hK _ _ hw) (Nat.le_refl _) (Nat.le_refl _))
    · replace hw := hw.2 c42
      refine cl_aload_n hG (hx_dq tdX12_read_0 27 rfl) rfl (cl_iload hG (hx_dq tdX12_read_0 28 rfl) rfl (cl_callV1 (caX12_read_444 cA) (hx_dq tdX12_read_0 29 rfl) (mF_S0 hF) (Nat.le_of_ble_eq_true rfl) (Nat.le_refl _) (Nat.le_refl _) (sX12_readBy_mk hF hw (fun r48_2 m48_1 hw => ?_))))
      refine cl_istore hG (hx_dq tdX12_read_0 30 rfl) (Nat.le_of_ble_eq_true rfl) rfl (cl_iload_n hG (hx_dq tdX12_read_0 31 rfl) rfl (cl_iconst hG (-1) (hx_dq tdX12_read_1 0 rfl) iconst_m1 (cl_icmp_eq hG 67 (hx_dq tdX12_read_1 1 rfl) rfl (fun c55 => ?_) (fun c55 => ?_))))
      · replace hw := hw.1 c55
        exact cl_sub hG (hx_le_c rfl (hx_le_n (hx_le_n (hx_le_n (hx_le_c rfl (hx_le_c rfl hx_le_0)))))) (kX12_read_J67 hG cA hF v4 r48_2 hK (fun z0 z1 z2 z3 hw => ih z0 z1 z2 z3 hw) hw)
      · replace hw := hw.2 c55
        refine cl_iload hG (hx_dq tdX12_read_1 2 rfl) rfl (cl_iload_n hG (hx_dq tdX12_read_1 3 rfl) rfl (cl_icmp_lt hG 67 (hx_dq tdX12_read_1 4 rfl) rfl (fun c61 => ?_) (fun c61 => ?_)))
        · replace hw := hw.1 c61
          exact cl_sub hG (hx_le_c rfl (hx_le_n (hx_le_n (hx_le_n (hx_le_c rfl (hx_le_c rfl hx_le_0)))))) (kX12_read_J67 hG cA hF v4 r48_2 hK (fun z0 z1 z2 z3 hw => ih z0 z1 z2 z3 hw) hw)
        · replace hw := hw.2 c61
          refine cl_goto hG 73 (hx_dq tdX12_read_1 5 rfl) rfl ?_
          exact cl_sub hG (hx_le_c rfl (hx_le_n (hx_le_c rfl (hx_le_c rfl (hx_le_c rfl (hx_le_n hx_le_0)))))) (kX12_read_J73_3 hG cA hF v2 v3 v4 hK (fun z0 z1 z2 z3 hw => ih z0 z1 z2 z3 hw) hw)
def wX12_read (μ : hx_M) (v1 : Int32) (K : Int32 → hx_M → Prop) : Prop := (v1 = (-1) → (∃ n36_4, wX12_read_L36 K n36_4 (-1) 0 0 μ)) ∧ (¬ (v1 = (-1)) → (wX12_isIn v1 0 ((μ.1 0 20) - 1) (fun r13_6 => (r13_6 = 0 → (K (-1) μ)) ∧ (¬ (r13_6 = 0) → (wX12_readBy μ v1 (fun r21_8 m21_7 => K r21_8 m21_7))))))
set_option maxRecDepth 100000 in
set_option maxHeartbeats 4000000 in
theorem kX12_read {G : hx_GT} {KK : hx_KT} (hG : hx_K cX12_read 6 0 0 (some .int) TbX12 KK G) (cA : hx_CA RX12 cX12_read 6 0 0 G) {Λ : hx_L} (hF : mF Λ) {μ : hx_M} (v1 : Int32) {K : Int32 → hx_M → Prop} (hK : ∀ (r : Int32) (m : hx_M), K r m → KK (some (.int r)) Λ m) (hw : wX12_read μ v1 K) : G Λ μ (0, 0) 0 [some (.ref 0), some (.int v1), none, none, none, none] [] := by
  unfold wX12_read at hw
  refine cl_iload_n hG (hx_dq tdX12_read_0 0 rfl) rfl (cl_iconst hG (-1) (hx_dq tdX12_read_0 1 rfl) iconst_m1 (cl_icmp_eq hG 29 (hx_dq tdX12_read_0 2 rfl) rfl (fun c2 => ?_) (fun c2 => ?_)))
  · replace hw := hw.1 c2
    refine cl_iconst hG (-1) (hx_dq tdX12_read_0 17 rfl) iconst_m1 (cl_istore_n hG (hx_dq tdX12_read_0 18 rfl) (Nat.le_of_ble_eq_true rfl) rfl (cl_iconst hG 0 (hx_dq tdX12_read_0 19 rfl) iconst_0 (cl_istore_n hG (hx_dq tdX12_read_0 20 rfl) (Nat.le_of_ble_eq_true rfl) rfl (cl_iconst hG 0 (hx_dq tdX12_read_0 21 rfl) iconst_0 (cl_istore hG (hx_dq tdX12_read_0 22 rfl) (Nat.le_of_ble_eq_true rfl) rfl ?_)))))
    obtain ⟨n_, hw⟩ := hw
    refine cl_sub hG (hx_le_c rfl (hx_le_n (hx_le_c rfl (hx_le_c rfl (hx_le_c rfl (hx_le_n hx_le_0)))))) (kX12_read_L36 hG cA hF hK n_ (-1) 0 0 _ hw)
  · replace hw := hw.2 c2
    refine cl_iload_n hG (hx_dq tdX12_read_0 3 rfl) rfl (cl_iconst hG 0 (hx_dq tdX12_read_0 4 rfl) iconst_0 (cl_aload_n hG (hx_dq tdX12_read_0 5 rfl) rfl (cl_getI hG fmX12_293 (hx_dq tdX12_read_0 6 rfl) (mF_S0 hF) (cl_iconst hG 1 (hx_dq tdX12_read_0 7 rfl) iconst_1 (cl_isub hG (hx_dq tdX12_read_0 8 rfl) (cl_callS3 (caX12_read_157 cA) (hx_dq tdX12_read_0 9 rfl) (Nat.le_of_ble_eq_true rfl) (Nat.le_refl _) (Nat.le_refl _) (sX12_isIn_mk hw (fun r13_6 hw => ?_))))))))
    refine cl_if_eq hG 27 (hx_dq tdX12_read_0 10 rfl) rfl (fun c16 => ?_) (fun c16 => ?_)
    · replace hw := hw.1 c16
      exact cl_iconst hG (-1) (hx_dq tdX12_read_0 15 rfl) iconst_m1 (cl_iret hG (hx_dq tdX12_read_0 16 rfl) rfl rfl (hK _ _ hw) (Nat.le_refl _) (Nat.le_refl _))
    · replace hw := hw.2 c16
      refine cl_aload_n hG (hx_dq tdX12_read_0 11 rfl) rfl (cl_iload_n hG (hx_dq tdX12_read_0 12 rfl) rfl (cl_callV1 (caX12_read_444 cA) (hx_dq tdX12_read_0 13 rfl) (mF_S0 hF) (Nat.le_of_ble_eq_true rfl) (Nat.le_refl _) (Nat.le_refl _) (sX12_readBy_mk hF hw (fun r21_8 m21_7 hw => ?_))))
      exact cl_goto hG 28 (hx_dq tdX12_read_0 14 rfl) rfl (cl_iret hG (hx_dq tdX12_read_0 16 rfl) rfl rfl (hK _ _ hw) (Nat.le_refl _) (Nat.le_refl _))
def sX12_read : hx_ST := fun Λ μ as KK => mF Λ ∧ ∃ (v1 : Int32) (K : Int32 → hx_M → Prop), as = [.ref 0, .int v1] ∧ wX12_read μ v1 K ∧ (∀ (r : Int32) (m : hx_M), K r m → KK (some (.int r)) Λ m)
theorem sX12_read_mk {Λ : hx_L} {μ : hx_M} {KK : hx_KT} {v1 : Int32} {K : Int32 → hx_M → Prop} (hF : mF Λ) (hw : wX12_read μ v1 K) (hk : ∀ (r : Int32) (m : hx_M), K r m → KK (some (.int r)) Λ m) : sX12_read Λ μ [.ref 0, .int v1] KK := ⟨hF, _, _, rfl, hw, hk⟩
theorem conX12_read : hx_Con yX12_read cX12_read 6 (some .int) 6 0 0 sX12_read := by
  refine hx_con_of (by decide +kernel) tokX12 (by decide) ?_ ?_
  · intro Λ μ as KK h
    obtain ⟨hF, v1, K, rfl, hw, hK⟩ := h
    exact Nat.le_of_ble_eq_true rfl
  · intro G KK hG cA Λ μ as h
    obtain ⟨hF, v1, K, rfl, hw, hK⟩ := h
    exact cl_sub hG (hx_le_c rfl (hx_le_c rfl (hx_le_n (hx_le_n (hx_le_n (hx_le_n hx_le_0)))))) (kX12_read hG cA hF _ hK hw)
/-! HemLineModel.lays([II)V -/
def tbX12_lays_0 : List (Nat × Instr × Nat) := [(0, .iconst 0, 1), (1, .istore_n 3, 1), (2, .iload_n 3, 1), (3, .iload_n 2, 1), (4, .if_icmp .ge 23, 3), (7, .aload_n 0, 1), (8, .getfield 145, 3), (11, .aload_n 0, 1), (12, .getfield 447, 3), (15, .iload_n 3, 1), (16, .iadd, 1), (17, .aload_n 1, 1), (18, .iload_n 3, 1), (19, .iaload, 1), (20, .iastore, 1), (21, .iinc 3 1, 3), (24, .goto (-22), 3), (27, .aload_n 0, 1), (28, .dup, 1), (29, .getfield 447, 3), (32, .iload_n 2, 1), (33, .iadd, 1), (34, .putfield 447, 3), (37, .return_, 1)]
theorem tdX12_lays_0 : hx_dt cX12_lays tbX12_lays_0 = true := by decide +kernel
def wX12_lays_L2 (Λ : hx_L) (v1 : Nat) (v2 : Int32) (K : hx_M → Prop) (K27 : hx_M → Prop) : Nat → Int32 → hx_M → Prop
  | 0, _, _ => False
  | n + 1, v3, μ => (v2 ≤ v3 → (K27 μ)) ∧ (¬ (v2 ≤ v3) → (∃ n19_2, Λ.1 v1 = (1, n19_2) ∧ vp_in v3 n19_2 ∧ vp_in ((μ.1 0 66) + v3) 427 ∧ wX12_lays_L2 Λ v1 v2 K K27 n (v3 + 1) (hx_sI μ 41 (((μ.1 0 66) + v3).toNatClampNeg) (μ.1 v1 v3.toNatClampNeg))))
set_option maxRecDepth 100000 in
set_option maxHeartbeats 4000000 in
theorem kX12_lays_L2 {G : hx_GT} {KK : hx_KT} (hG : hx_K cX12_lays 4 0 0 (none) TbX12 KK G) (cA : hx_CA RX12 cX12_lays 1 0 0 G) {Λ : hx_L} (hF : mF Λ)  (v1 : Nat) (v2 : Int32) {K : hx_M → Prop} (hK : ∀ (m : hx_M), K m → KK none Λ m) {K27 : hx_M → Prop} (hk27 : ∀ (μ : hx_M), K27 μ → G Λ μ (0, 0) 27 [some (.ref 0), none, some (.int v2), none] []) : ∀ (n : Nat) (v3 : Int32) (μ : hx_M), wX12_lays_L2 Λ v1 v2 K K27 n v3 μ → G Λ μ (0, 0) 2 [some (.ref 0), some (.ref v1), some (.int v2), some (.int v3)] [] := by
  intro n
  induction n with
  | zero =>
    intro v3 μ hw
    exact False.elim (by simpa only [wX12_lays_L2] using hw)
  | succ n ih =>
    intro v3 μ hw
    unfold wX12_lays_L2 at hw
    refine cl_iload_n hG (hx_dq tdX12_lays_0 2 rfl) rfl (cl_iload_n hG (hx_dq tdX12_lays_0 3 rfl) rfl (cl_icmp_ge hG 27 (hx_dq tdX12_lays_0 4 rfl) rfl (fun c4 => ?_) (fun c4 => ?_)))
    · replace hw := hw.1 c4
      exact cl_sub hG (hx_le_c rfl (hx_le_n (hx_le_c rfl (hx_le_n hx_le_0)))) (hk27 _ hw)
    · replace hw := hw.2 c4
      obtain ⟨n19_2, o19_1, hw⟩ := hw
      obtain ⟨i19_3, hw⟩ := hw
      obtain ⟨i20_4, hw⟩ := hw
      exact cl_aload_n hG (hx_dq tdX12_lays_0 5 rfl) rfl (cl_getS hG fmX12_145 (hx_dq tdX12_lays_0 6 rfl) (mF_S0 hF) (mF_R0_67 hF) (cl_aload_n hG (hx_dq tdX12_lays_0 7 rfl) rfl (cl_getI hG fmX12_447 (hx_dq tdX12_lays_0 8 rfl) (mF_S0 hF) (cl_iload_n hG (hx_dq tdX12_lays_0 9 rfl) rfl (cl_iadd hG (hx_dq tdX12_lays_0 10 rfl) (cl_aload_n hG (hx_dq tdX12_lays_0 11 rfl) rfl (cl_iload_n hG (hx_dq tdX12_lays_0 12 rfl) rfl (cl_iald hG (hx_dq tdX12_lays_0 13 rfl) o19_1 i19_3 (cl_iast hG (hx_dq tdX12_lays_0 14 rfl) (mF_S41 hF) i20_4 (cl_iinc hG (v3 + 1) (hx_dq tdX12_lays_0 15 rfl) rfl (congrArg (fun z => v3 + z) iconst_1) (Nat.le_of_ble_eq_true rfl) rfl (cl_goto hG 2 (hx_dq tdX12_lays_0 16 rfl) rfl (cl_sub hG (hx_le_c rfl (hx_le_c rfl (hx_le_c rfl (hx_le_c rfl hx_le_0)))) (ih (v3 + 1) _ hw)))))))))))))
def wX12_lays (Λ : hx_L) (μ : hx_M) (v1 : Nat) (v2 : Int32) (K : hx_M → Prop) : Prop := ∃ n2_6, wX12_lays_L2 Λ v1 v2 K (fun m_5 => K (hx_sI m_5 0 66 ((m_5.1 0 66) + v2))) n2_6 0 μ
set_option maxRecDepth 100000 in
set_option maxHeartbeats 4000000 in
theorem kX12_lays {G : hx_GT} {KK : hx_KT} (hG : hx_K cX12_lays 4 0 0 (none) TbX12 KK G) (cA : hx_CA RX12 cX12_lays 1 0 0 G) {Λ : hx_L} (hF : mF Λ) {μ : hx_M} (v1 : Nat) (v2 : Int32) {K : hx_M → Prop} (hK : ∀ (m : hx_M), K m → KK none Λ m) (hw : wX12_lays Λ μ v1 v2 K) : G Λ μ (0, 0) 0 [some (.ref 0), some (.ref v1), some (.int v2), none] [] := by
  unfold wX12_lays at hw
  refine cl_iconst hG 0 (hx_dq tdX12_lays_0 0 rfl) iconst_0 (cl_istore_n hG (hx_dq tdX12_lays_0 1 rfl) (Nat.le_of_ble_eq_true rfl) rfl ?_)
  obtain ⟨n_, hw⟩ := hw
  refine cl_sub hG (hx_le_c rfl (hx_le_c rfl (hx_le_c rfl (hx_le_c rfl hx_le_0)))) (kX12_lays_L2 hG cA hF v1 v2 hK (fun m_5 hw => ?_) n_ 0 _ hw)
  · exact cl_aload_n hG (hx_dq tdX12_lays_0 17 rfl) rfl (cl_dup hG (hx_dq tdX12_lays_0 18 rfl) rfl (cl_getI hG fmX12_447 (hx_dq tdX12_lays_0 19 rfl) (mF_S0 hF) (cl_iload_n hG (hx_dq tdX12_lays_0 20 rfl) rfl (cl_iadd hG (hx_dq tdX12_lays_0 21 rfl) (cl_putI hG fmX12_447 (hx_dq tdX12_lays_0 22 rfl) (mF_S0 hF) (cl_vret hG (hx_dq tdX12_lays_0 23 rfl) rfl (hK _ hw) (Nat.le_refl _) (Nat.le_refl _)))))))
def sX12_lays : hx_ST := fun Λ μ as KK => mF Λ ∧ ∃ (v1 : Nat) (v2 : Int32) (K : hx_M → Prop), as = [.ref 0, .ref v1, .int v2] ∧ wX12_lays Λ μ v1 v2 K ∧ (∀ (m : hx_M), K m → KK none Λ m)
theorem sX12_lays_mk {Λ : hx_L} {μ : hx_M} {KK : hx_KT} {v1 : Nat} {v2 : Int32} {K : hx_M → Prop} (hF : mF Λ) (hw : wX12_lays Λ μ v1 v2 K) (hk : ∀ (m : hx_M), K m → KK none Λ m) : sX12_lays Λ μ [.ref 0, .ref v1, .int v2] KK := ⟨hF, _, _, _, rfl, hw, hk⟩
theorem conX12_lays : hx_Con yX12_lays cX12_lays 4 (none) 1 0 0 sX12_lays := by
  refine hx_con_of (by decide +kernel) tokX12 (by decide) ?_ ?_
  · intro Λ μ as KK h
    obtain ⟨hF, v1, v2, K, rfl, hw, hK⟩ := h
    exact Nat.le_of_ble_eq_true rfl
  · intro G KK hG cA Λ μ as h
    obtain ⟨hF, v1, v2, K, rfl, hw, hK⟩ := h
    exact cl_sub hG (hx_le_c rfl (hx_le_c rfl (hx_le_c rfl (hx_le_n hx_le_0)))) (kX12_lays hG cA hF _ _ hK hw)
/-! HemLineModel.fetches([II)V -/
def tbX12_fetches_0 : List (Nat × Instr × Nat) := [(0, .iconst 0, 1), (1, .istore_n 3, 1), (2, .iload_n 3, 1), (3, .iload_n 2, 1), (4, .if_icmp .ge 23, 3), (7, .aload_n 1, 1), (8, .iload_n 3, 1), (9, .aload_n 0, 1), (10, .getfield 145, 3), (13, .aload_n 0, 1), (14, .getfield 447, 3), (17, .iload_n 3, 1), (18, .iadd, 1), (19, .iaload, 1), (20, .iastore, 1), (21, .iinc 3 1, 3), (24, .goto (-22), 3), (27, .aload_n 0, 1), (28, .dup, 1), (29, .getfield 447, 3), (32, .iload_n 2, 1), (33, .iadd, 1), (34, .putfield 447, 3), (37, .return_, 1)]
theorem tdX12_fetches_0 : hx_dt cX12_fetches tbX12_fetches_0 = true := by decide +kernel
def wX12_fetches_L2 (Λ : hx_L) (v1 : Nat) (v2 : Int32) (K : hx_M → Prop) (K27 : hx_M → Prop) : Nat → Int32 → hx_M → Prop
  | 0, _, _ => False
  | n + 1, v3, μ => (v2 ≤ v3 → (K27 μ)) ∧ (¬ (v2 ≤ v3) → (vp_in ((μ.1 0 66) + v3) 427 ∧ ∃ n20_3, Λ.1 v1 = (1, n20_3) ∧ vp_in v3 n20_3 ∧ wX12_fetches_L2 Λ v1 v2 K K27 n (v3 + 1) (hx_sI μ v1 v3.toNatClampNeg ((μ.1 41 (((μ.1 0 66) + v3).toNatClampNeg))))))
set_option maxRecDepth 100000 in
set_option maxHeartbeats 4000000 in
theorem kX12_fetches_L2 {G : hx_GT} {KK : hx_KT} (hG : hx_K cX12_fetches 4 0 0 (none) TbX12 KK G) (cA : hx_CA RX12 cX12_fetches 1 0 0 G) {Λ : hx_L} (hF : mF Λ)  (v1 : Nat) (v2 : Int32) {K : hx_M → Prop} (hK : ∀ (m : hx_M), K m → KK none Λ m) {K27 : hx_M → Prop} (hk27 : ∀ (μ : hx_M), K27 μ → G Λ μ (0, 0) 27 [some (.ref 0), none, some (.int v2), none] []) : ∀ (n : Nat) (v3 : Int32) (μ : hx_M), wX12_fetches_L2 Λ v1 v2 K K27 n v3 μ → G Λ μ (0, 0) 2 [some (.ref 0), some (.ref v1), some (.int v2), some (.int v3)] [] := by
  intro n
  induction n with
  | zero =>
    intro v3 μ hw
    exact False.elim (by simpa only [wX12_fetches_L2] using hw)
  | succ n ih =>
    intro v3 μ hw
    unfold wX12_fetches_L2 at hw
    refine cl_iload_n hG (hx_dq tdX12_fetches_0 2 rfl) rfl (cl_iload_n hG (hx_dq tdX12_fetches_0 3 rfl) rfl (cl_icmp_ge hG 27 (hx_dq tdX12_fetches_0 4 rfl) rfl (fun c4 => ?_) (fun c4 => ?_)))
    · replace hw := hw.1 c4
      exact cl_sub hG (hx_le_c rfl (hx_le_n (hx_le_c rfl (hx_le_n hx_le_0)))) (hk27 _ hw)
    · replace hw := hw.2 c4
      obtain ⟨i19_1, hw⟩ := hw
      obtain ⟨n20_3, o20_2, hw⟩ := hw
      obtain ⟨i20_4, hw⟩ := hw
      exact cl_aload_n hG (hx_dq tdX12_fetches_0 5 rfl) rfl (cl_iload_n hG (hx_dq tdX12_fetches_0 6 rfl) rfl (cl_aload_n hG (hx_dq tdX12_fetches_0 7 rfl) rfl (cl_getS hG fmX12_145 (hx_dq tdX12_fetches_0 8 rfl) (mF_S0 hF) (mF_R0_67 hF) (cl_aload_n hG (hx_dq tdX12_fetches_0 9 rfl) rfl (cl_getI hG fmX12_447 (hx_dq tdX12_fetches_0 10 rfl) (mF_S0 hF) (cl_iload_n hG (hx_dq tdX12_fetches_0 11 rfl) rfl (cl_iadd hG (hx_dq tdX12_fetches_0 12 rfl) (cl_iald hG (hx_dq tdX12_fetches_0 13 rfl) (mF_S41 hF) i19_1 (cl_iast hG (hx_dq tdX12_fetches_0 14 rfl) o20_2 i20_4 (cl_iinc hG (v3 + 1) (hx_dq tdX12_fetches_0 15 rfl) rfl (congrArg (fun z => v3 + z) iconst_1) (Nat.le_of_ble_eq_true rfl) rfl (cl_goto hG 2 (hx_dq tdX12_fetches_0 16 rfl) rfl (cl_sub hG (hx_le_c rfl (hx_le_c rfl (hx_le_c rfl (hx_le_c rfl hx_le_0)))) (ih (v3 + 1) _ hw)))))))))))))
def wX12_fetches (Λ : hx_L) (μ : hx_M) (v1 : Nat) (v2 : Int32) (K : hx_M → Prop) : Prop := ∃ n2_6, wX12_fetches_L2 Λ v1 v2 K (fun m_5 => K (hx_sI m_5 0 66 ((m_5.1 0 66) + v2))) n2_6 0 μ
set_option maxRecDepth 100000 in
set_option maxHeartbeats 4000000 in
theorem kX12_fetches {G : hx_GT} {KK : hx_KT} (hG : hx_K cX12_fetches 4 0 0 (none) TbX12 KK G) (cA : hx_CA RX12 cX12_fetches 1 0 0 G) {Λ : hx_L} (hF : mF Λ) {μ : hx_M} (v1 : Nat) (v2 : Int32) {K : hx_M → Prop} (hK : ∀ (m : hx_M), K m → KK none Λ m) (hw : wX12_fetches Λ μ v1 v2 K) : G Λ μ (0, 0) 0 [some (.ref 0), some (.ref v1), some (.int v2), none] [] := by
  unfold wX12_fetches at hw
  refine cl_iconst hG 0 (hx_dq tdX12_fetches_0 0 rfl) iconst_0 (cl_istore_n hG (hx_dq tdX12_fetches_0 1 rfl) (Nat.le_of_ble_eq_true rfl) rfl ?_)
  obtain ⟨n_, hw⟩ := hw
  refine cl_sub hG (hx_le_c rfl (hx_le_c rfl (hx_le_c rfl (hx_le_c rfl hx_le_0)))) (kX12_fetches_L2 hG cA hF v1 v2 hK (fun m_5 hw => ?_) n_ 0 _ hw)
  · exact cl_aload_n hG (hx_dq tdX12_fetches_0 17 rfl) rfl (cl_dup hG (hx_dq tdX12_fetches_0 18 rfl) rfl (cl_getI hG fmX12_447 (hx_dq tdX12_fetches_0 19 rfl) (mF_S0 hF) (cl_iload_n hG (hx_dq tdX12_fetches_0 20 rfl) rfl (cl_iadd hG (hx_dq tdX12_fetches_0 21 rfl) (cl_putI hG fmX12_447 (hx_dq tdX12_fetches_0 22 rfl) (mF_S0 hF) (cl_vret hG (hx_dq tdX12_fetches_0 23 rfl) rfl (hK _ hw) (Nat.le_refl _) (Nat.le_refl _)))))))
def sX12_fetches : hx_ST := fun Λ μ as KK => mF Λ ∧ ∃ (v1 : Nat) (v2 : Int32) (K : hx_M → Prop), as = [.ref 0, .ref v1, .int v2] ∧ wX12_fetches Λ μ v1 v2 K ∧ (∀ (m : hx_M), K m → KK none Λ m)
theorem sX12_fetches_mk {Λ : hx_L} {μ : hx_M} {KK : hx_KT} {v1 : Nat} {v2 : Int32} {K : hx_M → Prop} (hF : mF Λ) (hw : wX12_fetches Λ μ v1 v2 K) (hk : ∀ (m : hx_M), K m → KK none Λ m) : sX12_fetches Λ μ [.ref 0, .ref v1, .int v2] KK := ⟨hF, _, _, _, rfl, hw, hk⟩
theorem conX12_fetches : hx_Con yX12_fetches cX12_fetches 4 (none) 1 0 0 sX12_fetches := by
  refine hx_con_of (by decide +kernel) tokX12 (by decide) ?_ ?_
  · intro Λ μ as KK h
    obtain ⟨hF, v1, v2, K, rfl, hw, hK⟩ := h
    exact Nat.le_of_ble_eq_true rfl
  · intro G KK hG cA Λ μ as h
    obtain ⟨hF, v1, v2, K, rfl, hw, hK⟩ := h
    exact cl_sub hG (hx_le_c rfl (hx_le_c rfl (hx_le_c rfl (hx_le_n hx_le_0)))) (kX12_fetches hG cA hF _ _ hK hw)
/-! HemLineModel.image()I -/
def tbX12_image_0 : List (Nat × Instr × Nat) := [(0, .aload_n 0, 1), (1, .getfield 450, 3), (4, .iconst 3, 1), (5, .if_icmp .ne 5, 3), (8, .iconst (-1), 1), (9, .ireturn, 1), (10, .aload_n 0, 1), (11, .sipush 15000, 3), (14, .aload_n 0, 1), (15, .getfield 450, 3), (18, .imul, 1), (19, .putfield 447, 3), (22, .aload_n 0, 1), (23, .getfield 148, 3), (26, .aload_n 0, 1), (27, .getfield 450, 3), (30, .aload_n 0, 1), (31, .getfield 7, 3), (34, .lastore, 1), (35, .aload_n 0, 1), (36, .getfield 151, 3), (39, .iconst 0, 1), (40, .aload_n 0, 1), (41, .getfield 154, 3), (44, .iastore, 1), (45, .aload_n 0, 1), (46, .getfield 151, 3), (49, .iconst 1, 1), (50, .aload_n 0, 1), (51, .getfield 161, 3), (54, .iastore, 1), (55, .aload_n 0, 1)]
def tbX12_image_1 : List (Nat × Instr × Nat) := [(56, .getfield 151, 3), (59, .iconst 2, 1), (60, .aload_n 0, 1), (61, .getfield 164, 3), (64, .iastore, 1), (65, .aload_n 0, 1), (66, .getfield 151, 3), (69, .iconst 3, 1), (70, .aload_n 0, 1), (71, .getfield 171, 3), (74, .iastore, 1), (75, .aload_n 0, 1), (76, .getfield 151, 3), (79, .iconst 4, 1), (80, .aload_n 0, 1), (81, .getfield 174, 3), (84, .iastore, 1), (85, .aload_n 0, 1), (86, .getfield 151, 3), (89, .iconst 5, 1), (90, .aload_n 0, 1), (91, .getfield 177, 3), (94, .iastore, 1), (95, .aload_n 0, 1), (96, .getfield 151, 3), (99, .bipush 6, 2), (101, .aload_n 0, 1), (102, .getfield 434, 3), (105, .iastore, 1), (106, .aload_n 0, 1), (107, .aload_n 0, 1), (108, .getfield 151, 3)]
def tbX12_image_2 : List (Nat × Instr × Nat) := [(111, .bipush 8, 2), (113, .invokevirtual 453, 3), (116, .aload_n 0, 1), (117, .aload_n 0, 1), (118, .getfield 13, 3), (121, .bipush 16, 2), (123, .invokevirtual 453, 3), (126, .aload_n 0, 1), (127, .aload_n 0, 1), (128, .getfield 17, 3), (131, .bipush 16, 2), (133, .invokevirtual 453, 3), (136, .aload_n 0, 1), (137, .aload_n 0, 1), (138, .getfield 20, 3), (141, .bipush 16, 2), (143, .invokevirtual 453, 3), (146, .aload_n 0, 1), (147, .aload_n 0, 1), (148, .getfield 23, 3), (151, .bipush 16, 2), (153, .invokevirtual 453, 3), (156, .aload_n 0, 1), (157, .aload_n 0, 1), (158, .getfield 26, 3), (161, .bipush 16, 2), (163, .invokevirtual 453, 3), (166, .aload_n 0, 1), (167, .aload_n 0, 1), (168, .getfield 29, 3), (171, .iconst 4, 1), (172, .invokevirtual 453, 3)]
def tbX12_image_3 : List (Nat × Instr × Nat) := [(175, .aload_n 0, 1), (176, .aload_n 0, 1), (177, .getfield 32, 3), (180, .bipush 96, 2), (182, .invokevirtual 453, 3), (185, .aload_n 0, 1), (186, .aload_n 0, 1), (187, .getfield 129, 3), (190, .bipush 20, 2), (192, .invokevirtual 453, 3), (195, .aload_n 0, 1), (196, .aload_n 0, 1), (197, .getfield 132, 3), (200, .bipush 20, 2), (202, .invokevirtual 453, 3), (205, .aload_n 0, 1), (206, .aload_n 0, 1), (207, .getfield 135, 3), (210, .bipush 20, 2), (212, .invokevirtual 453, 3), (215, .aload_n 0, 1), (216, .aload_n 0, 1), (217, .getfield 35, 3), (220, .sipush 3216, 3), (223, .invokevirtual 453, 3), (226, .aload_n 0, 1), (227, .aload_n 0, 1), (228, .getfield 38, 3), (231, .sipush 3216, 3), (234, .invokevirtual 453, 3), (237, .aload_n 0, 1), (238, .aload_n 0, 1)]
def tbX12_image_4 : List (Nat × Instr × Nat) := [(239, .getfield 41, 3), (242, .sipush 3216, 3), (245, .invokevirtual 453, 3), (248, .aload_n 0, 1), (249, .aload_n 0, 1), (250, .getfield 44, 3), (253, .sipush 3216, 3), (256, .invokevirtual 453, 3), (259, .aload_n 0, 1), (260, .aload_n 0, 1), (261, .getfield 47, 3), (264, .sipush 804, 3), (267, .invokevirtual 453, 3), (270, .aload_n 0, 1), (271, .aload_n 0, 1), (272, .getfield 50, 3), (275, .sipush 201, 3), (278, .invokevirtual 453, 3), (281, .aload_n 0, 1), (282, .dup, 1), (283, .getfield 450, 3), (286, .iconst 1, 1), (287, .iadd, 1), (288, .putfield 450, 3), (291, .aload_n 0, 1), (292, .getfield 450, 3), (295, .iconst 1, 1), (296, .isub, 1), (297, .ireturn, 1)]
theorem tdX12_image_0 : hx_dt cX12_image tbX12_image_0 = true := by decide +kernel
theorem tdX12_image_1 : hx_dt cX12_image tbX12_image_1 = true := by decide +kernel
theorem tdX12_image_2 : hx_dt cX12_image tbX12_image_2 = true := by decide +kernel
theorem tdX12_image_3 : hx_dt cX12_image tbX12_image_3 = true := by decide +kernel
theorem tdX12_image_4 : hx_dt cX12_image tbX12_image_4 = true := by decide +kernel
theorem caX12_image_453 {G : hx_GT} (cA : hx_CA RX12 cX12_image 2 0 0 G) : hx_CV cX12_image G 0 0 453 12 2 sX12_lays 0 0 := cA.1 conX12_lays rfl rfl ⟨by decide +kernel, by decide +kernel, by decide +kernel⟩ mw_1692 mw_1694 mw_81 mw_97 mw_1695 (by decide) (by decide)
def wX12_image (Λ : hx_L) (μ : hx_M)  (K : Int32 → hx_M → Prop) : Prop := ((μ.1 0 65) ≠ 3 → (vp_in (μ.1 0 65) 3 ∧ vp_in 0 8 ∧ vp_in 1 8 ∧ ∀ m_4 : hx_M, m_4 = (hx_sI (hx_sI (hx_sL (hx_sI μ 0 66 (15000 * (μ.1 0 65))) 42 ((μ.1 0 65).toNatClampNeg) (μ.2 0 6)) 43 ((0 : Int32).toNatClampNeg) (μ.1 0 0)) 43 ((1 : Int32).toNatClampNeg) (μ.1 0 1)) → vp_in 2 8 ∧ vp_in 3 8 ∧ vp_in 4 8 ∧ ∀ m_8 : hx_M, m_8 = (hx_sI (hx_sI (hx_sI m_4 43 ((2 : Int32).toNatClampNeg) (m_4.1 0 2)) 43 ((3 : Int32).toNatClampNeg) (m_4.1 0 3)) 43 ((4 : Int32).toNatClampNeg) (m_4.1 0 4)) → vp_in 5 8 ∧ vp_in 6 8 ∧ wX12_lays Λ (hx_sI (hx_sI m_8 43 ((5 : Int32).toNatClampNeg) (m_8.1 0 5)) 43 ((6 : Int32).toNatClampNeg) (m_8.1 0 59)) 43 8 (fun m113_11 => wX12_lays Λ m113_11 1 16 (fun m123_13 => wX12_lays Λ m123_13 2 16 (fun m133_15 => wX12_lays Λ m133_15 3 16 (fun m143_17 => wX12_lays Λ m143_17 4 16 (fun m153_19 => wX12_lays Λ m153_19 5 16 (fun m163_21 => wX12_lays Λ m163_21 6 4 (fun m172_23 => wX12_lays Λ m172_23 7 96 (fun m182_25 => wX12_lays Λ m182_25 36 20 (fun m192_27 => wX12_lays Λ m192_27 37 20 (fun m202_29 => wX12_lays Λ m202_29 38 20 (fun m212_31 => wX12_lays Λ m212_31 8 3216 (fun m223_33 => wX12_lays Λ m223_33 9 3216 (fun m234_35 => wX12_lays Λ m234_35 10 3216 (fun m245_37 => wX12_lays Λ m245_37 11 3216 (fun m256_39 => wX12_lays Λ m256_39 12 804 (fun m267_41 => wX12_lays Λ m267_41 13 201 (fun m278_43 => K (((m278_43.1 0 65) + 1) - 1) (hx_sI m278_43 0 65 ((m278_43.1 0 65) + 1))))))))))))))))))))) ∧ ((μ.1 0 65) = 3 → (K (-1) μ))
set_option maxRecDepth 100000 in
set_option maxHeartbeats 4000000 in
theorem kX12_image {G : hx_GT} {KK : hx_KT} (hG : hx_K cX12_image 1 0 0 (some .int) TbX12 KK G) (cA : hx_CA RX12 cX12_image 2 0 0 G) {Λ : hx_L} (hF : mF Λ) {μ : hx_M}  {K : Int32 → hx_M → Prop} (hK : ∀ (r : Int32) (m : hx_M), K r m → KK (some (.int r)) Λ m) (hw : wX12_image Λ μ K) : G Λ μ (0, 0) 0 [some (.ref 0)] [] := by
  unfold wX12_image at hw
  refine cl_aload_n hG (hx_dq tdX12_image_0 0 rfl) rfl (cl_getI hG fmX12_450 (hx_dq tdX12_image_0 1 rfl) (mF_S0 hF) (cl_iconst hG 3 (hx_dq tdX12_image_0 2 rfl) iconst_3 (cl_icmp_ne hG 10 (hx_dq tdX12_image_0 3 rfl) rfl (fun c5 => ?_) (fun c5 => ?_))))
  · replace hw := hw.1 c5
    obtain ⟨i34_1, hw⟩ := hw
    obtain ⟨i44_2, hw⟩ := hw
    obtain ⟨i54_3, hw⟩ := hw
    refine cl_aload_n hG (hx_dq tdX12_image_0 6 rfl) rfl (cl_sipush hG 15000 (hx_dq tdX12_image_0 7 rfl) sipush_15000 (cl_aload_n hG (hx_dq tdX12_image_0 8 rfl) rfl (cl_getI hG fmX12_450 (hx_dq tdX12_image_0 9 rfl) (mF_S0 hF) (cl_imul hG (hx_dq tdX12_image_0 10 rfl) (cl_putI hG fmX12_447 (hx_dq tdX12_image_0 11 rfl) (mF_S0 hF) (cl_aload_n hG (hx_dq tdX12_image_0 12 rfl) rfl (cl_getS hG fmX12_148 (hx_dq tdX12_image_0 13 rfl) (mF_S0 hF) (mF_R0_68 hF) (cl_aload_n hG (hx_dq tdX12_image_0 14 rfl) rfl (cl_getI hG fmX12_450 (hx_dq tdX12_image_0 15 rfl) (mF_S0 hF) (cl_aload_n hG (hx_dq tdX12_image_0 16 rfl) rfl (cl_getL hG fmX12_7 (hx_dq tdX12_image_0 17 rfl) (mF_S0 hF) (cl_last hG (hx_dq tdX12_image_0 18 rfl) (mF_S42 hF) i34_1 (cl_aload_n hG (hx_dq tdX12_image_0 19 rfl) rfl (cl_getS hG fmX12_151 (hx_dq tdX12_image_0 20 rfl) (mF_S0 hF) (mF_R0_69 hF) (cl_iconst hG 0 (hx_dq tdX12_image_0 21 rfl) iconst_0 (cl_aload_n hG (hx_dq tdX12_image_0 22 rfl) rfl (cl_getI hG fmX12_154 (hx_dq tdX12_image_0 23 rfl) (mF_S0 hF) (cl_iast hG (hx_dq tdX12_image_0 24 rfl) (mF_S43 hF) i44_2 (cl_aload_n hG (hx_dq tdX12_image_0 25 rfl) rfl (cl_getS hG fmX12_151 (hx_dq tdX12_image_0 26 rfl) (mF_S0 hF) (mF_R0_69 hF) (cl_iconst hG 1 (hx_dq tdX12_image_0 27 rfl) iconst_1 (cl_aload_n hG (hx_dq tdX12_image_0 28 rfl) rfl (cl_getI hG fmX12_161 (hx_dq tdX12_image_0 29 rfl) (mF_S0 hF) (cl_iast hG (hx_dq tdX12_image_0 30 rfl) (mF_S43 hF) i54_3 (cl_nmM (fun m_4 e_4 => ?_))))))))))))))))))))))))))
    replace hw := hw m_4 e_4
    obtain ⟨i64_5, hw⟩ := hw
    obtain ⟨i74_6, hw⟩ := hw
    obtain ⟨i84_7, hw⟩ := hw
    refine cl_aload_n hG (hx_dq tdX12_image_0 31 rfl) rfl (cl_getS hG fmX12_151 (hx_dq tdX12_image_1 0 rfl) (mF_S0 hF) (mF_R0_69 hF) (cl_iconst hG 2 (hx_dq tdX12_image_1 1 rfl) iconst_2 (cl_aload_n hG (hx_dq tdX12_image_1 2 rfl) rfl (cl_getI hG fmX12_164 (hx_dq tdX12_image_1 3 rfl) (mF_S0 hF) (cl_iast hG (hx_dq tdX12_image_1 4 rfl) (mF_S43 hF) i64_5 (cl_aload_n hG (hx_dq tdX12_image_1 5 rfl) rfl (cl_getS hG fmX12_151 (hx_dq tdX12_image_1 6 rfl) (mF_S0 hF) (mF_R0_69 hF) (cl_iconst hG 3 (hx_dq tdX12_image_1 7 rfl) iconst_3 (cl_aload_n hG (hx_dq tdX12_image_1 8 rfl) rfl (cl_getI hG fmX12_171 (hx_dq tdX12_image_1 9 rfl) (mF_S0 hF) (cl_iast hG (hx_dq tdX12_image_1 10 rfl) (mF_S43 hF) i74_6 (cl_aload_n hG (hx_dq tdX12_image_1 11 rfl) rfl (cl_getS hG fmX12_151 (hx_dq tdX12_image_1 12 rfl) (mF_S0 hF) (mF_R0_69 hF) (cl_iconst hG 4 (hx_dq tdX12_image_1 13 rfl) iconst_4 (cl_aload_n hG (hx_dq tdX12_image_1 14 rfl) rfl (cl_getI hG fmX12_174 (hx_dq tdX12_image_1 15 rfl) (mF_S0 hF) (cl_iast hG (hx_dq tdX12_image_1 16 rfl) (mF_S43 hF) i84_7 (cl_nmM (fun m_8 e_8 => ?_)))))))))))))))))))
    replace hw := hw m_8 e_8
    obtain ⟨i94_9, hw⟩ := hw
    obtain ⟨i105_10, hw⟩ := hw
    refine cl_aload_n hG (hx_dq tdX12_image_1 17 rfl) rfl (cl_getS hG fmX12_151 (hx_dq tdX12_image_1 18 rfl) (mF_S0 hF) (mF_R0_69 hF) (cl_iconst hG 5 (hx_dq tdX12_image_1 19 rfl) iconst_5 (cl_aload_n hG (hx_dq tdX12_image_1 20 rfl) rfl (cl_getI hG fmX12_177 (hx_dq tdX12_image_1 21 rfl) (mF_S0 hF) (cl_iast hG (hx_dq tdX12_image_1 22 rfl) (mF_S43 hF) i94_9 (cl_aload_n hG (hx_dq tdX12_image_1 23 rfl) rfl (cl_getS hG fmX12_151 (hx_dq tdX12_image_1 24 rfl) (mF_S0 hF) (mF_R0_69 hF) (cl_bipush hG 6 (hx_dq tdX12_image_1 25 rfl) bipush_6 (cl_aload_n hG (hx_dq tdX12_image_1 26 rfl) rfl (cl_getI hG fmX12_434 (hx_dq tdX12_image_1 27 rfl) (mF_S0 hF) (cl_iast hG (hx_dq tdX12_image_1 28 rfl) (mF_S43 hF) i105_10 (cl_aload_n hG (hx_dq tdX12_image_1 29 rfl) rfl (cl_aload_n hG (hx_dq tdX12_image_1 30 rfl) rfl (cl_getS hG fmX12_151 (hx_dq tdX12_image_1 31 rfl) (mF_S0 hF) (mF_R0_69 hF) (cl_bipush hG 8 (hx_dq tdX12_image_2 0 rfl) bipush_8 (cl_callV2 (caX12_image_453 cA) (hx_dq tdX12_image_2 1 rfl) (mF_S0 hF) (Nat.le_of_ble_eq_true rfl) (Nat.le_refl _) (Nat.le_refl _) (sX12_lays_mk hF hw (fun m113_11 hw => ?_))))))))))))))))))
    refine cl_aload_n hG (hx_dq tdX12_image_2 2 rfl) rfl (cl_aload_n hG (hx_dq tdX12_image_2 3 rfl) rfl (cl_getS hG fmX12_13 (hx_dq tdX12_image_2 4 rfl) (mF_S0 hF) (mF_R0_7 hF) (cl_bipush hG 16 (hx_dq tdX12_image_2 5 rfl) bipush_16 (cl_callV2 (caX12_image_453 cA) (hx_dq tdX12_image_2 6 rfl) (mF_S0 hF) (Nat.le_of_ble_eq_true rfl) (Nat.le_refl _) (Nat.le_refl _) (sX12_lays_mk hF hw (fun m123_13 hw => ?_))))))
    refine cl_aload_n hG (hx_dq tdX12_image_2 7 rfl) rfl (cl_aload_n hG (hx_dq tdX12_image_2 8 rfl) rfl (cl_getS hG fmX12_17 (hx_dq tdX12_image_2 9 rfl) (mF_S0 hF) (mF_R0_8 hF) (cl_bipush hG 16 (hx_dq tdX12_image_2 10 rfl) bipush_16 (cl_callV2 (caX12_image_453 cA) (hx_dq tdX12_image_2 11 rfl) (mF_S0 hF) (Nat.le_of_ble_eq_true rfl) (Nat.le_refl _) (Nat.le_refl _) (sX12_lays_mk hF hw (fun m133_15 hw => ?_))))))
    refine cl_aload_n hG (hx_dq tdX12_image_2 12 rfl) rfl (cl_aload_n hG (hx_dq tdX12_image_2 13 rfl) rfl (cl_getS hG fmX12_20 (hx_dq tdX12_image_2 14 rfl) (mF_S0 hF) (mF_R0_9 hF) (cl_bipush hG 16 (hx_dq tdX12_image_2 15 rfl) bipush_16 (cl_callV2 (caX12_image_453 cA) (hx_dq tdX12_image_2 16 rfl) (mF_S0 hF) (Nat.le_of_ble_eq_true rfl) (Nat.le_refl _) (Nat.le_refl _) (sX12_lays_mk hF hw (fun m143_17 hw => ?_))))))
    refine cl_aload_n hG (hx_dq tdX12_image_2 17 rfl) rfl (cl_aload_n hG (hx_dq tdX12_image_2 18 rfl) rfl (cl_getS hG fmX12_23 (hx_dq tdX12_image_2 19 rfl) (mF_S0 hF) (mF_R0_10 hF) (cl_bipush hG 16 (hx_dq tdX12_image_2 20 rfl) bipush_16 (cl_callV2 (caX12_image_453 cA) (hx_dq tdX12_image_2 21 rfl) (mF_S0 hF) (Nat.le_of_ble_eq_true rfl) (Nat.le_refl _) (Nat.le_refl _) (sX12_lays_mk hF hw (fun m153_19 hw => ?_))))))
    refine cl_aload_n hG (hx_dq tdX12_image_2 22 rfl) rfl (cl_aload_n hG (hx_dq tdX12_image_2 23 rfl) rfl (cl_getS hG fmX12_26 (hx_dq tdX12_image_2 24 rfl) (mF_S0 hF) (mF_R0_11 hF) (cl_bipush hG 16 (hx_dq tdX12_image_2 25 rfl) bipush_16 (cl_callV2 (caX12_image_453 cA) (hx_dq tdX12_image_2 26 rfl) (mF_S0 hF) (Nat.le_of_ble_eq_true rfl) (Nat.le_refl _) (Nat.le_refl _) (sX12_lays_mk hF hw (fun m163_21 hw => ?_))))))
    refine cl_aload_n hG (hx_dq tdX12_image_2 27 rfl) rfl (cl_aload_n hG (hx_dq tdX12_image_2 28 rfl) rfl (cl_getS hG fmX12_29 (hx_dq tdX12_image_2 29 rfl) (mF_S0 hF) (mF_R0_12 hF) (cl_iconst hG 4 (hx_dq tdX12_image_2 30 rfl) iconst_4 (cl_callV2 (caX12_image_453 cA) (hx_dq tdX12_image_2 31 rfl) (mF_S0 hF) (Nat.le_of_ble_eq_true rfl) (Nat.le_refl _) (Nat.le_refl _) (sX12_lays_mk hF hw (fun m172_23 hw => ?_))))))
    refine cl_aload_n hG (hx_dq tdX12_image_3 0 rfl) rfl (cl_aload_n hG (hx_dq tdX12_image_3 1 rfl) rfl (cl_getS hG fmX12_32 (hx_dq tdX12_image_3 2 rfl) (mF_S0 hF) (mF_R0_13 hF) (cl_bipush hG 96 (hx_dq tdX12_image_3 3 rfl) bipush_96 (cl_callV2 (caX12_image_453 cA) (hx_dq tdX12_image_3 4 rfl) (mF_S0 hF) (Nat.le_of_ble_eq_true rfl) (Nat.le_refl _) (Nat.le_refl _) (sX12_lays_mk hF hw (fun m182_25 hw => ?_))))))
    refine cl_aload_n hG (hx_dq tdX12_image_3 5 rfl) rfl (cl_aload_n hG (hx_dq tdX12_image_3 6 rfl) rfl (cl_getS hG fmX12_129 (hx_dq tdX12_image_3 7 rfl) (mF_S0 hF) (mF_R0_60 hF) (cl_bipush hG 20 (hx_dq tdX12_image_3 8 rfl) bipush_20 (cl_callV2 (caX12_image_453 cA) (hx_dq tdX12_image_3 9 rfl) (mF_S0 hF) (Nat.le_of_ble_eq_true rfl) (Nat.le_refl _) (Nat.le_refl _) (sX12_lays_mk hF hw (fun m192_27 hw => ?_))))))
    refine cl_aload_n hG (hx_dq tdX12_image_3 10 rfl) rfl (cl_aload_n hG (hx_dq tdX12_image_3 11 rfl) rfl (cl_getS hG fmX12_132 (hx_dq tdX12_image_3 12 rfl) (mF_S0 hF) (mF_R0_61 hF) (cl_bipush hG 20 (hx_dq tdX12_image_3 13 rfl) bipush_20 (cl_callV2 (caX12_image_453 cA) (hx_dq tdX12_image_3 14 rfl) (mF_S0 hF) (Nat.le_of_ble_eq_true rfl) (Nat.le_refl _) (Nat.le_refl _) (sX12_lays_mk hF hw (fun m202_29 hw => ?_))))))
    refine cl_aload_n hG (hx_dq tdX12_image_3 15 rfl) rfl (cl_aload_n hG (hx_dq tdX12_image_3 16 rfl) rfl (cl_getS hG fmX12_135 (hx_dq tdX12_image_3 17 rfl) (mF_S0 hF) (mF_R0_62 hF) (cl_bipush hG 20 (hx_dq tdX12_image_3 18 rfl) bipush_20 (cl_callV2 (caX12_image_453 cA) (hx_dq tdX12_image_3 19 rfl) (mF_S0 hF) (Nat.le_of_ble_eq_true rfl) (Nat.le_refl _) (Nat.le_refl _) (sX12_lays_mk hF hw (fun m212_31 hw => ?_))))))
    refine cl_aload_n hG (hx_dq tdX12_image_3 20 rfl) rfl (cl_aload_n hG (hx_dq tdX12_image_3 21 rfl) rfl (cl_getS hG fmX12_35 (hx_dq tdX12_image_3 22 rfl) (mF_S0 hF) (mF_R0_14 hF) (cl_sipush hG 3216 (hx_dq tdX12_image_3 23 rfl) sipush_3216 (cl_callV2 (caX12_image_453 cA) (hx_dq tdX12_image_3 24 rfl) (mF_S0 hF) (Nat.le_of_ble_eq_true rfl) (Nat.le_refl _) (Nat.le_refl _) (sX12_lays_mk hF hw (fun m223_33 hw => ?_))))))
    refine cl_aload_n hG (hx_dq tdX12_image_3 25 rfl) rfl (cl_aload_n hG (hx_dq tdX12_image_3 26 rfl) rfl (cl_getS hG fmX12_38 (hx_dq tdX12_image_3 27 rfl) (mF_S0 hF) (mF_R0_15 hF) (cl_sipush hG 3216 (hx_dq tdX12_image_3 28 rfl) sipush_3216 (cl_callV2 (caX12_image_453 cA) (hx_dq tdX12_image_3 29 rfl) (mF_S0 hF) (Nat.le_of_ble_eq_true rfl) (Nat.le_refl _) (Nat.le_refl _) (sX12_lays_mk hF hw (fun m234_35 hw => ?_))))))
    refine cl_aload_n hG (hx_dq tdX12_image_3 30 rfl) rfl (cl_aload_n hG (hx_dq tdX12_image_3 31 rfl) rfl (cl_getS hG fmX12_41 (hx_dq tdX12_image_4 0 rfl) (mF_S0 hF) (mF_R0_16 hF) (cl_sipush hG 3216 (hx_dq tdX12_image_4 1 rfl) sipush_3216 (cl_callV2 (caX12_image_453 cA) (hx_dq tdX12_image_4 2 rfl) (mF_S0 hF) (Nat.le_of_ble_eq_true rfl) (Nat.le_refl _) (Nat.le_refl _) (sX12_lays_mk hF hw (fun m245_37 hw => ?_))))))
    refine cl_aload_n hG (hx_dq tdX12_image_4 3 rfl) rfl (cl_aload_n hG (hx_dq tdX12_image_4 4 rfl) rfl (cl_getS hG fmX12_44 (hx_dq tdX12_image_4 5 rfl) (mF_S0 hF) (mF_R0_17 hF) (cl_sipush hG 3216 (hx_dq tdX12_image_4 6 rfl) sipush_3216 (cl_callV2 (caX12_image_453 cA) (hx_dq tdX12_image_4 7 rfl) (mF_S0 hF) (Nat.le_of_ble_eq_true rfl) (Nat.le_refl _) (Nat.le_refl _) (sX12_lays_mk hF hw (fun m256_39 hw => ?_))))))
    refine cl_aload_n hG (hx_dq tdX12_image_4 8 rfl) rfl (cl_aload_n hG (hx_dq tdX12_image_4 9 rfl) rfl (cl_getS hG fmX12_47 (hx_dq tdX12_image_4 10 rfl) (mF_S0 hF) (mF_R0_18 hF) (cl_sipush hG 804 (hx_dq tdX12_image_4 11 rfl) sipush_804 (cl_callV2 (caX12_image_453 cA) (hx_dq tdX12_image_4 12 rfl) (mF_S0 hF) (Nat.le_of_ble_eq_true rfl) (Nat.le_refl _) (Nat.le_refl _) (sX12_lays_mk hF hw (fun m267_41 hw => ?_))))))
    refine cl_aload_n hG (hx_dq tdX12_image_4 13 rfl) rfl (cl_aload_n hG (hx_dq tdX12_image_4 14 rfl) rfl (cl_getS hG fmX12_50 (hx_dq tdX12_image_4 15 rfl) (mF_S0 hF) (mF_R0_19 hF) (cl_sipush hG 201 (hx_dq tdX12_image_4 16 rfl) sipush_201 (cl_callV2 (caX12_image_453 cA) (hx_dq tdX12_image_4 17 rfl) (mF_S0 hF) (Nat.le_of_ble_eq_true rfl) (Nat.le_refl _) (Nat.le_refl _) (sX12_lays_mk hF hw (fun m278_43 hw => ?_))))))
    exact cl_aload_n hG (hx_dq tdX12_image_4 18 rfl) rfl (cl_dup hG (hx_dq tdX12_image_4 19 rfl) rfl (cl_getI hG fmX12_450 (hx_dq tdX12_image_4 20 rfl) (mF_S0 hF) (cl_iconst hG 1 (hx_dq tdX12_image_4 21 rfl) iconst_1 (cl_iadd hG (hx_dq tdX12_image_4 22 rfl) (cl_putI hG fmX12_450 (hx_dq tdX12_image_4 23 rfl) (mF_S0 hF) (cl_aload_n hG (hx_dq tdX12_image_4 24 rfl) rfl (cl_getI hG fmX12_450 (hx_dq tdX12_image_4 25 rfl) (mF_S0 hF) (cl_iconst hG 1 (hx_dq tdX12_image_4 26 rfl) iconst_1 (cl_isub hG (hx_dq tdX12_image_4 27 rfl) (cl_iret hG (hx_dq tdX12_image_4 28 rfl) rfl rfl (hK _ _ hw) (Nat.le_refl _) (Nat.le_refl _)))))))))))
  · replace hw := hw.2 c5
    exact cl_iconst hG (-1) (hx_dq tdX12_image_0 4 rfl) iconst_m1 (cl_iret hG (hx_dq tdX12_image_0 5 rfl) rfl rfl (hK _ _ hw) (Nat.le_refl _) (Nat.le_refl _))
def sX12_image : hx_ST := fun Λ μ as KK => mF Λ ∧ ∃ (K : Int32 → hx_M → Prop), as = [.ref 0] ∧ wX12_image Λ μ K ∧ (∀ (r : Int32) (m : hx_M), K r m → KK (some (.int r)) Λ m)
theorem sX12_image_mk {Λ : hx_L} {μ : hx_M} {KK : hx_KT}  {K : Int32 → hx_M → Prop} (hF : mF Λ) (hw : wX12_image Λ μ K) (hk : ∀ (r : Int32) (m : hx_M), K r m → KK (some (.int r)) Λ m) : sX12_image Λ μ [.ref 0] KK := ⟨hF, _, rfl, hw, hk⟩
theorem conX12_image : hx_Con yX12_image cX12_image 1 (some .int) 2 0 0 sX12_image := by
  refine hx_con_of (by decide +kernel) tokX12 (by decide) ?_ ?_
  · intro Λ μ as KK h
    obtain ⟨hF, K, rfl, hw, hK⟩ := h
    exact Nat.le_of_ble_eq_true rfl
  · intro G KK hG cA Λ μ as h
    obtain ⟨hF, K, rfl, hw, hK⟩ := h
    exact cl_sub hG (hx_le_c rfl hx_le_0) (kX12_image hG cA hF hK hw)
/-! HemLineModel.back(I)Z -/
def tbX12_back_0 : List (Nat × Instr × Nat) := [(0, .iload_n 1, 1), (1, .iconst 0, 1), (2, .aload_n 0, 1), (3, .getfield 450, 3), (6, .iconst 1, 1), (7, .isub, 1), (8, .invokestatic 157, 3), (11, .ifCond .ne 5, 3), (14, .iconst 0, 1), (15, .ireturn, 1), (16, .aload_n 0, 1), (17, .sipush 15000, 3), (20, .iload_n 1, 1), (21, .imul, 1), (22, .putfield 447, 3), (25, .aload_n 0, 1), (26, .aload_n 0, 1), (27, .getfield 148, 3), (30, .iload_n 1, 1), (31, .laload, 1), (32, .putfield 7, 3), (35, .aload_n 0, 1), (36, .aload_n 0, 1), (37, .getfield 151, 3), (40, .bipush 8, 2), (42, .invokevirtual 457, 3), (45, .aload_n 0, 1), (46, .aload_n 0, 1), (47, .getfield 151, 3), (50, .iconst 0, 1), (51, .iaload, 1), (52, .putfield 154, 3)]
def tbX12_back_1 : List (Nat × Instr × Nat) := [(55, .aload_n 0, 1), (56, .aload_n 0, 1), (57, .getfield 151, 3), (60, .iconst 1, 1), (61, .iaload, 1), (62, .putfield 161, 3), (65, .aload_n 0, 1), (66, .aload_n 0, 1), (67, .getfield 151, 3), (70, .iconst 2, 1), (71, .iaload, 1), (72, .putfield 164, 3), (75, .aload_n 0, 1), (76, .aload_n 0, 1), (77, .getfield 151, 3), (80, .iconst 3, 1), (81, .iaload, 1), (82, .putfield 171, 3), (85, .aload_n 0, 1), (86, .aload_n 0, 1), (87, .getfield 151, 3), (90, .iconst 4, 1), (91, .iaload, 1), (92, .putfield 174, 3), (95, .aload_n 0, 1), (96, .aload_n 0, 1), (97, .getfield 151, 3), (100, .iconst 5, 1), (101, .iaload, 1), (102, .putfield 177, 3), (105, .aload_n 0, 1), (106, .aload_n 0, 1)]
def tbX12_back_2 : List (Nat × Instr × Nat) := [(107, .getfield 151, 3), (110, .bipush 6, 2), (112, .iaload, 1), (113, .putfield 434, 3), (116, .aload_n 0, 1), (117, .aload_n 0, 1), (118, .getfield 13, 3), (121, .bipush 16, 2), (123, .invokevirtual 457, 3), (126, .aload_n 0, 1), (127, .aload_n 0, 1), (128, .getfield 17, 3), (131, .bipush 16, 2), (133, .invokevirtual 457, 3), (136, .aload_n 0, 1), (137, .aload_n 0, 1), (138, .getfield 20, 3), (141, .bipush 16, 2), (143, .invokevirtual 457, 3), (146, .aload_n 0, 1), (147, .aload_n 0, 1), (148, .getfield 23, 3), (151, .bipush 16, 2), (153, .invokevirtual 457, 3), (156, .aload_n 0, 1), (157, .aload_n 0, 1), (158, .getfield 26, 3), (161, .bipush 16, 2), (163, .invokevirtual 457, 3), (166, .aload_n 0, 1), (167, .aload_n 0, 1), (168, .getfield 29, 3)]
def tbX12_back_3 : List (Nat × Instr × Nat) := [(171, .iconst 4, 1), (172, .invokevirtual 457, 3), (175, .aload_n 0, 1), (176, .aload_n 0, 1), (177, .getfield 32, 3), (180, .bipush 96, 2), (182, .invokevirtual 457, 3), (185, .aload_n 0, 1), (186, .aload_n 0, 1), (187, .getfield 129, 3), (190, .bipush 20, 2), (192, .invokevirtual 457, 3), (195, .aload_n 0, 1), (196, .aload_n 0, 1), (197, .getfield 132, 3), (200, .bipush 20, 2), (202, .invokevirtual 457, 3), (205, .aload_n 0, 1), (206, .aload_n 0, 1), (207, .getfield 135, 3), (210, .bipush 20, 2), (212, .invokevirtual 457, 3), (215, .aload_n 0, 1), (216, .aload_n 0, 1), (217, .getfield 35, 3), (220, .sipush 3216, 3), (223, .invokevirtual 457, 3), (226, .aload_n 0, 1), (227, .aload_n 0, 1), (228, .getfield 38, 3), (231, .sipush 3216, 3), (234, .invokevirtual 457, 3)]
def tbX12_back_4 : List (Nat × Instr × Nat) := [(237, .aload_n 0, 1), (238, .aload_n 0, 1), (239, .getfield 41, 3), (242, .sipush 3216, 3), (245, .invokevirtual 457, 3), (248, .aload_n 0, 1), (249, .aload_n 0, 1), (250, .getfield 44, 3), (253, .sipush 3216, 3), (256, .invokevirtual 457, 3), (259, .aload_n 0, 1), (260, .aload_n 0, 1), (261, .getfield 47, 3), (264, .sipush 804, 3), (267, .invokevirtual 457, 3), (270, .aload_n 0, 1), (271, .aload_n 0, 1), (272, .getfield 50, 3), (275, .sipush 201, 3), (278, .invokevirtual 457, 3), (281, .iconst 1, 1), (282, .ireturn, 1)]
theorem tdX12_back_0 : hx_dt cX12_back tbX12_back_0 = true := by decide +kernel
theorem tdX12_back_1 : hx_dt cX12_back tbX12_back_1 = true := by decide +kernel
theorem tdX12_back_2 : hx_dt cX12_back tbX12_back_2 = true := by decide +kernel
theorem tdX12_back_3 : hx_dt cX12_back tbX12_back_3 = true := by decide +kernel
theorem tdX12_back_4 : hx_dt cX12_back tbX12_back_4 = true := by decide +kernel
theorem caX12_back_157 {G : hx_GT} (cA : hx_CA RX12 cX12_back 2 0 0 G) : hx_CS cX12_back G 0 0 157 3 sX12_isIn 0 0 := cA.2.1 conX12_isIn ⟨by decide +kernel, by decide +kernel, by decide +kernel⟩ mw_1343 mw_1344 mw_97 mw_1345 (by decide) (by decide)
theorem caX12_back_457 {G : hx_GT} (cA : hx_CA RX12 cX12_back 2 0 0 G) : hx_CV cX12_back G 0 0 457 12 2 sX12_fetches 0 0 := cA.1 conX12_fetches rfl rfl ⟨by decide +kernel, by decide +kernel, by decide +kernel⟩ mw_1700 mw_1702 mw_82 mw_97 mw_1703 (by decide) (by decide)
def wX12_back (Λ : hx_L) (μ : hx_M) (v1 : Int32) (K : Int32 → hx_M → Prop) : Prop := wX12_isIn v1 0 ((μ.1 0 65) - 1) (fun r8_2 => (r8_2 ≠ 0 → (vp_in v1 3 ∧ wX12_fetches Λ (hx_sL (hx_sI μ 0 66 (15000 * v1)) 0 6 (μ.2 42 v1.toNatClampNeg)) 43 8 (fun m42_4 => vp_in 0 8 ∧ vp_in 1 8 ∧ vp_in 2 8 ∧ ∀ m_9 : hx_M, m_9 = (hx_sI (hx_sI (hx_sI m42_4 0 0 ((m42_4.1 43 ((0 : Int32).toNatClampNeg)))) 0 1 ((m42_4.1 43 ((1 : Int32).toNatClampNeg)))) 0 2 ((m42_4.1 43 ((2 : Int32).toNatClampNeg)))) → vp_in 3 8 ∧ vp_in 4 8 ∧ vp_in 5 8 ∧ ∀ m_13 : hx_M, m_13 = (hx_sI (hx_sI (hx_sI m_9 0 3 ((m_9.1 43 ((3 : Int32).toNatClampNeg)))) 0 4 ((m_9.1 43 ((4 : Int32).toNatClampNeg)))) 0 5 ((m_9.1 43 ((5 : Int32).toNatClampNeg)))) → vp_in 6 8 ∧ wX12_fetches Λ (hx_sI m_13 0 59 ((m_13.1 43 ((6 : Int32).toNatClampNeg)))) 1 16 (fun m123_15 => wX12_fetches Λ m123_15 2 16 (fun m133_17 => wX12_fetches Λ m133_17 3 16 (fun m143_19 => wX12_fetches Λ m143_19 4 16 (fun m153_21 => wX12_fetches Λ m153_21 5 16 (fun m163_23 => wX12_fetches Λ m163_23 6 4 (fun m172_25 => wX12_fetches Λ m172_25 7 96 (fun m182_27 => wX12_fetches Λ m182_27 36 20 (fun m192_29 => wX12_fetches Λ m192_29 37 20 (fun m202_31 => wX12_fetches Λ m202_31 38 20 (fun m212_33 => wX12_fetches Λ m212_33 8 3216 (fun m223_35 => wX12_fetches Λ m223_35 9 3216 (fun m234_37 => wX12_fetches Λ m234_37 10 3216 (fun m245_39 => wX12_fetches Λ m245_39 11 3216 (fun m256_41 => wX12_fetches Λ m256_41 12 804 (fun m267_43 => wX12_fetches Λ m267_43 13 201 (fun m278_45 => K 1 m278_45))))))))))))))))))) ∧ (r8_2 = 0 → (K 0 μ)))
set_option maxRecDepth 100000 in
set_option maxHeartbeats 4000000 in
theorem kX12_back {G : hx_GT} {KK : hx_KT} (hG : hx_K cX12_back 2 0 0 (some .boolean) TbX12 KK G) (cA : hx_CA RX12 cX12_back 2 0 0 G) {Λ : hx_L} (hF : mF Λ) {μ : hx_M} (v1 : Int32) {K : Int32 → hx_M → Prop} (hK : ∀ (r : Int32) (m : hx_M), K r m → KK (some (.int r)) Λ m) (hw : wX12_back Λ μ v1 K) : G Λ μ (0, 0) 0 [some (.ref 0), some (.int v1)] [] := by
  unfold wX12_back at hw
  refine cl_iload_n hG (hx_dq tdX12_back_0 0 rfl) rfl (cl_iconst hG 0 (hx_dq tdX12_back_0 1 rfl) iconst_0 (cl_aload_n hG (hx_dq tdX12_back_0 2 rfl) rfl (cl_getI hG fmX12_450 (hx_dq tdX12_back_0 3 rfl) (mF_S0 hF) (cl_iconst hG 1 (hx_dq tdX12_back_0 4 rfl) iconst_1 (cl_isub hG (hx_dq tdX12_back_0 5 rfl) (cl_callS3 (caX12_back_157 cA) (hx_dq tdX12_back_0 6 rfl) (Nat.le_of_ble_eq_true rfl) (Nat.le_refl _) (Nat.le_refl _) (sX12_isIn_mk hw (fun r8_2 hw => ?_))))))))
  refine cl_if_ne hG 16 (hx_dq tdX12_back_0 7 rfl) rfl (fun c11 => ?_) (fun c11 => ?_)
  · replace hw := hw.1 c11
    obtain ⟨i31_3, hw⟩ := hw
    refine cl_aload_n hG (hx_dq tdX12_back_0 10 rfl) rfl (cl_sipush hG 15000 (hx_dq tdX12_back_0 11 rfl) sipush_15000 (cl_iload_n hG (hx_dq tdX12_back_0 12 rfl) rfl (cl_imul hG (hx_dq tdX12_back_0 13 rfl) (cl_putI hG fmX12_447 (hx_dq tdX12_back_0 14 rfl) (mF_S0 hF) (cl_aload_n hG (hx_dq tdX12_back_0 15 rfl) rfl (cl_aload_n hG (hx_dq tdX12_back_0 16 rfl) rfl (cl_getS hG fmX12_148 (hx_dq tdX12_back_0 17 rfl) (mF_S0 hF) (mF_R0_68 hF) (cl_iload_n hG (hx_dq tdX12_back_0 18 rfl) rfl (cl_lald hG (hx_dq tdX12_back_0 19 rfl) (mF_S42 hF) i31_3 (cl_putL hG fmX12_7 (hx_dq tdX12_back_0 20 rfl) (mF_S0 hF) (cl_aload_n hG (hx_dq tdX12_back_0 21 rfl) rfl (cl_aload_n hG (hx_dq tdX12_back_0 22 rfl) rfl (cl_getS hG fmX12_151 (hx_dq tdX12_back_0 23 rfl) (mF_S0 hF) (mF_R0_69 hF) (cl_bipush hG 8 (hx_dq tdX12_back_0 24 rfl) bipush_8 (cl_callV2 (caX12_back_457 cA) (hx_dq tdX12_back_0 25 rfl) (mF_S0 hF) (Nat.le_of_ble_eq_true rfl) (Nat.le_refl _) (Nat.le_refl _) (sX12_fetches_mk hF hw (fun m42_4 hw => ?_)))))))))))))))))
    obtain ⟨i51_6, hw⟩ := hw
    obtain ⟨i61_7, hw⟩ := hw
    obtain ⟨i71_8, hw⟩ := hw
    refine cl_aload_n hG (hx_dq tdX12_back_0 26 rfl) rfl (cl_aload_n hG (hx_dq tdX12_back_0 27 rfl) rfl (cl_getS hG fmX12_151 (hx_dq tdX12_back_0 28 rfl) (mF_S0 hF) (mF_R0_69 hF) (cl_iconst hG 0 (hx_dq tdX12_back_0 29 rfl) iconst_0 (cl_iald hG (hx_dq tdX12_back_0 30 rfl) (mF_S43 hF) i51_6 (cl_putI hG fmX12_154 (hx_dq tdX12_back_0 31 rfl) (mF_S0 hF) (cl_aload_n hG (hx_dq tdX12_back_1 0 rfl) rfl (cl_aload_n hG (hx_dq tdX12_back_1 1 rfl) rfl (cl_getS hG fmX12_151 (hx_dq tdX12_back_1 2 rfl) (mF_S0 hF) (mF_R0_69 hF) (cl_iconst hG 1 (hx_dq tdX12_back_1 3 rfl) iconst_1 (cl_iald hG (hx_dq tdX12_back_1 4 rfl) (mF_S43 hF) i61_7 (cl_putI hG fmX12_161 (hx_dq tdX12_back_1 5 rfl) (mF_S0 hF) (cl_aload_n hG (hx_dq tdX12_back_1 6 rfl) rfl (cl_aload_n hG (hx_dq tdX12_back_1 7 rfl) rfl (cl_getS hG fmX12_151 (hx_dq tdX12_back_1 8 rfl) (mF_S0 hF) (mF_R0_69 hF) (cl_iconst hG 2 (hx_dq tdX12_back_1 9 rfl) iconst_2 (cl_iald hG (hx_dq tdX12_back_1 10 rfl) (mF_S43 hF) i71_8 (cl_putI hG fmX12_164 (hx_dq tdX12_back_1 11 rfl) (mF_S0 hF) (cl_nmM (fun m_9 e_9 => ?_)))))))))))))))))))
    replace hw := hw m_9 e_9
    obtain ⟨i81_10, hw⟩ := hw
    obtain ⟨i91_11, hw⟩ := hw
    obtain ⟨i101_12, hw⟩ := hw
    refine cl_aload_n hG (hx_dq tdX12_back_1 12 rfl) rfl (cl_aload_n hG (hx_dq tdX12_back_1 13 rfl) rfl (cl_getS hG fmX12_151 (hx_dq tdX12_back_1 14 rfl) (mF_S0 hF) (mF_R0_69 hF) (cl_iconst hG 3 (hx_dq tdX12_back_1 15 rfl) iconst_3 (cl_iald hG (hx_dq tdX12_back_1 16 rfl) (mF_S43 hF) i81_10 (cl_putI hG fmX12_171 (hx_dq tdX12_back_1 17 rfl) (mF_S0 hF) (cl_aload_n hG (hx_dq tdX12_back_1 18 rfl) rfl (cl_aload_n hG (hx_dq tdX12_back_1 19 rfl) rfl (cl_getS hG fmX12_151 (hx_dq tdX12_back_1 20 rfl) (mF_S0 hF) (mF_R0_69 hF) (cl_iconst hG 4 (hx_dq tdX12_back_1 21 rfl) iconst_4 (cl_iald hG (hx_dq tdX12_back_1 22 rfl) (mF_S43 hF) i91_11 (cl_putI hG fmX12_174 (hx_dq tdX12_back_1 23 rfl) (mF_S0 hF) (cl_aload_n hG (hx_dq tdX12_back_1 24 rfl) rfl (cl_aload_n hG (hx_dq tdX12_back_1 25 rfl) rfl (cl_getS hG fmX12_151 (hx_dq tdX12_back_1 26 rfl) (mF_S0 hF) (mF_R0_69 hF) (cl_iconst hG 5 (hx_dq tdX12_back_1 27 rfl) iconst_5 (cl_iald hG (hx_dq tdX12_back_1 28 rfl) (mF_S43 hF) i101_12 (cl_putI hG fmX12_177 (hx_dq tdX12_back_1 29 rfl) (mF_S0 hF) (cl_nmM (fun m_13 e_13 => ?_)))))))))))))))))))
    replace hw := hw m_13 e_13
    obtain ⟨i112_14, hw⟩ := hw
    refine cl_aload_n hG (hx_dq tdX12_back_1 30 rfl) rfl (cl_aload_n hG (hx_dq tdX12_back_1 31 rfl) rfl (cl_getS hG fmX12_151 (hx_dq tdX12_back_2 0 rfl) (mF_S0 hF) (mF_R0_69 hF) (cl_bipush hG 6 (hx_dq tdX12_back_2 1 rfl) bipush_6 (cl_iald hG (hx_dq tdX12_back_2 2 rfl) (mF_S43 hF) i112_14 (cl_putI hG fmX12_434 (hx_dq tdX12_back_2 3 rfl) (mF_S0 hF) (cl_aload_n hG (hx_dq tdX12_back_2 4 rfl) rfl (cl_aload_n hG (hx_dq tdX12_back_2 5 rfl) rfl (cl_getS hG fmX12_13 (hx_dq tdX12_back_2 6 rfl) (mF_S0 hF) (mF_R0_7 hF) (cl_bipush hG 16 (hx_dq tdX12_back_2 7 rfl) bipush_16 (cl_callV2 (caX12_back_457 cA) (hx_dq tdX12_back_2 8 rfl) (mF_S0 hF) (Nat.le_of_ble_eq_true rfl) (Nat.le_refl _) (Nat.le_refl _) (sX12_fetches_mk hF hw (fun m123_15 hw => ?_))))))))))))
    refine cl_aload_n hG (hx_dq tdX12_back_2 9 rfl) rfl (cl_aload_n hG (hx_dq tdX12_back_2 10 rfl) rfl (cl_getS hG fmX12_17 (hx_dq tdX12_back_2 11 rfl) (mF_S0 hF) (mF_R0_8 hF) (cl_bipush hG 16 (hx_dq tdX12_back_2 12 rfl) bipush_16 (cl_callV2 (caX12_back_457 cA) (hx_dq tdX12_back_2 13 rfl) (mF_S0 hF) (Nat.le_of_ble_eq_true rfl) (Nat.le_refl _) (Nat.le_refl _) (sX12_fetches_mk hF hw (fun m133_17 hw => ?_))))))
    refine cl_aload_n hG (hx_dq tdX12_back_2 14 rfl) rfl (cl_aload_n hG (hx_dq tdX12_back_2 15 rfl) rfl (cl_getS hG fmX12_20 (hx_dq tdX12_back_2 16 rfl) (mF_S0 hF) (mF_R0_9 hF) (cl_bipush hG 16 (hx_dq tdX12_back_2 17 rfl) bipush_16 (cl_callV2 (caX12_back_457 cA) (hx_dq tdX12_back_2 18 rfl) (mF_S0 hF) (Nat.le_of_ble_eq_true rfl) (Nat.le_refl _) (Nat.le_refl _) (sX12_fetches_mk hF hw (fun m143_19 hw => ?_))))))
    refine cl_aload_n hG (hx_dq tdX12_back_2 19 rfl) rfl (cl_aload_n hG (hx_dq tdX12_back_2 20 rfl) rfl (cl_getS hG fmX12_23 (hx_dq tdX12_back_2 21 rfl) (mF_S0 hF) (mF_R0_10 hF) (cl_bipush hG 16 (hx_dq tdX12_back_2 22 rfl) bipush_16 (cl_callV2 (caX12_back_457 cA) (hx_dq tdX12_back_2 23 rfl) (mF_S0 hF) (Nat.le_of_ble_eq_true rfl) (Nat.le_refl _) (Nat.le_refl _) (sX12_fetches_mk hF hw (fun m153_21 hw => ?_))))))
    refine cl_aload_n hG (hx_dq tdX12_back_2 24 rfl) rfl (cl_aload_n hG (hx_dq tdX12_back_2 25 rfl) rfl (cl_getS hG fmX12_26 (hx_dq tdX12_back_2 26 rfl) (mF_S0 hF) (mF_R0_11 hF) (cl_bipush hG 16 (hx_dq tdX12_back_2 27 rfl) bipush_16 (cl_callV2 (caX12_back_457 cA) (hx_dq tdX12_back_2 28 rfl) (mF_S0 hF) (Nat.le_of_ble_eq_true rfl) (Nat.le_refl _) (Nat.le_refl _) (sX12_fetches_mk hF hw (fun m163_23 hw => ?_))))))
    refine cl_aload_n hG (hx_dq tdX12_back_2 29 rfl) rfl (cl_aload_n hG (hx_dq tdX12_back_2 30 rfl) rfl (cl_getS hG fmX12_29 (hx_dq tdX12_back_2 31 rfl) (mF_S0 hF) (mF_R0_12 hF) (cl_iconst hG 4 (hx_dq tdX12_back_3 0 rfl) iconst_4 (cl_callV2 (caX12_back_457 cA) (hx_dq tdX12_back_3 1 rfl) (mF_S0 hF) (Nat.le_of_ble_eq_true rfl) (Nat.le_refl _) (Nat.le_refl _) (sX12_fetches_mk hF hw (fun m172_25 hw => ?_))))))
    refine cl_aload_n hG (hx_dq tdX12_back_3 2 rfl) rfl (cl_aload_n hG (hx_dq tdX12_back_3 3 rfl) rfl (cl_getS hG fmX12_32 (hx_dq tdX12_back_3 4 rfl) (mF_S0 hF) (mF_R0_13 hF) (cl_bipush hG 96 (hx_dq tdX12_back_3 5 rfl) bipush_96 (cl_callV2 (caX12_back_457 cA) (hx_dq tdX12_back_3 6 rfl) (mF_S0 hF) (Nat.le_of_ble_eq_true rfl) (Nat.le_refl _) (Nat.le_refl _) (sX12_fetches_mk hF hw (fun m182_27 hw => ?_))))))
    refine cl_aload_n hG (hx_dq tdX12_back_3 7 rfl) rfl (cl_aload_n hG (hx_dq tdX12_back_3 8 rfl) rfl (cl_getS hG fmX12_129 (hx_dq tdX12_back_3 9 rfl) (mF_S0 hF) (mF_R0_60 hF) (cl_bipush hG 20 (hx_dq tdX12_back_3 10 rfl) bipush_20 (cl_callV2 (caX12_back_457 cA) (hx_dq tdX12_back_3 11 rfl) (mF_S0 hF) (Nat.le_of_ble_eq_true rfl) (Nat.le_refl _) (Nat.le_refl _) (sX12_fetches_mk hF hw (fun m192_29 hw => ?_))))))
    refine cl_aload_n hG (hx_dq tdX12_back_3 12 rfl) rfl (cl_aload_n hG (hx_dq tdX12_back_3 13 rfl) rfl (cl_getS hG fmX12_132 (hx_dq tdX12_back_3 14 rfl) (mF_S0 hF) (mF_R0_61 hF) (cl_bipush hG 20 (hx_dq tdX12_back_3 15 rfl) bipush_20 (cl_callV2 (caX12_back_457 cA) (hx_dq tdX12_back_3 16 rfl) (mF_S0 hF) (Nat.le_of_ble_eq_true rfl) (Nat.le_refl _) (Nat.le_refl _) (sX12_fetches_mk hF hw (fun m202_31 hw => ?_))))))
    refine cl_aload_n hG (hx_dq tdX12_back_3 17 rfl) rfl (cl_aload_n hG (hx_dq tdX12_back_3 18 rfl) rfl (cl_getS hG fmX12_135 (hx_dq tdX12_back_3 19 rfl) (mF_S0 hF) (mF_R0_62 hF) (cl_bipush hG 20 (hx_dq tdX12_back_3 20 rfl) bipush_20 (cl_callV2 (caX12_back_457 cA) (hx_dq tdX12_back_3 21 rfl) (mF_S0 hF) (Nat.le_of_ble_eq_true rfl) (Nat.le_refl _) (Nat.le_refl _) (sX12_fetches_mk hF hw (fun m212_33 hw => ?_))))))
    refine cl_aload_n hG (hx_dq tdX12_back_3 22 rfl) rfl (cl_aload_n hG (hx_dq tdX12_back_3 23 rfl) rfl (cl_getS hG fmX12_35 (hx_dq tdX12_back_3 24 rfl) (mF_S0 hF) (mF_R0_14 hF) (cl_sipush hG 3216 (hx_dq tdX12_back_3 25 rfl) sipush_3216 (cl_callV2 (caX12_back_457 cA) (hx_dq tdX12_back_3 26 rfl) (mF_S0 hF) (Nat.le_of_ble_eq_true rfl) (Nat.le_refl _) (Nat.le_refl _) (sX12_fetches_mk hF hw (fun m223_35 hw => ?_))))))
    refine cl_aload_n hG (hx_dq tdX12_back_3 27 rfl) rfl (cl_aload_n hG (hx_dq tdX12_back_3 28 rfl) rfl (cl_getS hG fmX12_38 (hx_dq tdX12_back_3 29 rfl) (mF_S0 hF) (mF_R0_15 hF) (cl_sipush hG 3216 (hx_dq tdX12_back_3 30 rfl) sipush_3216 (cl_callV2 (caX12_back_457 cA) (hx_dq tdX12_back_3 31 rfl) (mF_S0 hF) (Nat.le_of_ble_eq_true rfl) (Nat.le_refl _) (Nat.le_refl _) (sX12_fetches_mk hF hw (fun m234_37 hw => ?_))))))
    refine cl_aload_n hG (hx_dq tdX12_back_4 0 rfl) rfl (cl_aload_n hG (hx_dq tdX12_back_4 1 rfl) rfl (cl_getS hG fmX12_41 (hx_dq tdX12_back_4 2 rfl) (mF_S0 hF) (mF_R0_16 hF) (cl_sipush hG 3216 (hx_dq tdX12_back_4 3 rfl) sipush_3216 (cl_callV2 (caX12_back_457 cA) (hx_dq tdX12_back_4 4 rfl) (mF_S0 hF) (Nat.le_of_ble_eq_true rfl) (Nat.le_refl _) (Nat.le_refl _) (sX12_fetches_mk hF hw (fun m245_39 hw => ?_))))))
    refine cl_aload_n hG (hx_dq tdX12_back_4 5 rfl) rfl (cl_aload_n hG (hx_dq tdX12_back_4 6 rfl) rfl (cl_getS hG fmX12_44 (hx_dq tdX12_back_4 7 rfl) (mF_S0 hF) (mF_R0_17 hF) (cl_sipush hG 3216 (hx_dq tdX12_back_4 8 rfl) sipush_3216 (cl_callV2 (caX12_back_457 cA) (hx_dq tdX12_back_4 9 rfl) (mF_S0 hF) (Nat.le_of_ble_eq_true rfl) (Nat.le_refl _) (Nat.le_refl _) (sX12_fetches_mk hF hw (fun m256_41 hw => ?_))))))
    refine cl_aload_n hG (hx_dq tdX12_back_4 10 rfl) rfl (cl_aload_n hG (hx_dq tdX12_back_4 11 rfl) rfl (cl_getS hG fmX12_47 (hx_dq tdX12_back_4 12 rfl) (mF_S0 hF) (mF_R0_18 hF) (cl_sipush hG 804 (hx_dq tdX12_back_4 13 rfl) sipush_804 (cl_callV2 (caX12_back_457 cA) (hx_dq tdX12_back_4 14 rfl) (mF_S0 hF) (Nat.le_of_ble_eq_true rfl) (Nat.le_refl _) (Nat.le_refl _) (sX12_fetches_mk hF hw (fun m267_43 hw => ?_))))))
    refine cl_aload_n hG (hx_dq tdX12_back_4 15 rfl) rfl (cl_aload_n hG (hx_dq tdX12_back_4 16 rfl) rfl (cl_getS hG fmX12_50 (hx_dq tdX12_back_4 17 rfl) (mF_S0 hF) (mF_R0_19 hF) (cl_sipush hG 201 (hx_dq tdX12_back_4 18 rfl) sipush_201 (cl_callV2 (caX12_back_457 cA) (hx_dq tdX12_back_4 19 rfl) (mF_S0 hF) (Nat.le_of_ble_eq_true rfl) (Nat.le_refl _) (Nat.le_refl _) (sX12_fetches_mk hF hw (fun m278_45 hw => ?_))))))
    exact cl_iconst hG 1 (hx_dq tdX12_back_4 20 rfl) iconst_1 (cl_iret hG (hx_dq tdX12_back_4 21 rfl) rfl rfl (hK _ _ hw) (Nat.le_refl _) (Nat.le_refl _))
  · replace hw := hw.2 c11
    exact cl_iconst hG 0 (hx_dq tdX12_back_0 8 rfl) iconst_0 (cl_iret hG (hx_dq tdX12_back_0 9 rfl) rfl rfl (hK _ _ hw) (Nat.le_refl _) (Nat.le_refl _))
def sX12_back : hx_ST := fun Λ μ as KK => mF Λ ∧ ∃ (v1 : Int32) (K : Int32 → hx_M → Prop), as = [.ref 0, .int v1] ∧ wX12_back Λ μ v1 K ∧ (∀ (r : Int32) (m : hx_M), K r m → KK (some (.int r)) Λ m)
theorem sX12_back_mk {Λ : hx_L} {μ : hx_M} {KK : hx_KT} {v1 : Int32} {K : Int32 → hx_M → Prop} (hF : mF Λ) (hw : wX12_back Λ μ v1 K) (hk : ∀ (r : Int32) (m : hx_M), K r m → KK (some (.int r)) Λ m) : sX12_back Λ μ [.ref 0, .int v1] KK := ⟨hF, _, _, rfl, hw, hk⟩
theorem conX12_back : hx_Con yX12_back cX12_back 2 (some .boolean) 2 0 0 sX12_back := by
  refine hx_con_of (by decide +kernel) tokX12 (by decide) ?_ ?_
  · intro Λ μ as KK h
    obtain ⟨hF, v1, K, rfl, hw, hK⟩ := h
    exact Nat.le_of_ble_eq_true rfl
  · intro G KK hG cA Λ μ as h
    obtain ⟨hF, v1, K, rfl, hw, hK⟩ := h
    exact cl_sub hG (hx_le_c rfl (hx_le_c rfl hx_le_0)) (kX12_back hG cA hF _ hK hw)
/-! HemLineModel.count(I)I -/
def tbX12_count_0 : List (Nat × Instr × Nat) := [(0, .iload_n 1, 1), (1, .bipush 10, 2), (3, .bipush 13, 2), (5, .invokestatic 157, 3), (8, .ifCond .eq 13, 3), (11, .aload_n 0, 1), (12, .getfield 29, 3), (15, .iload_n 1, 1), (16, .bipush 10, 2), (18, .isub, 1), (19, .iaload, 1), (20, .ireturn, 1), (21, .iload_n 1, 1), (22, .tableswitch 121 0 9 #[54, 59, 64, 69, 74, 96, 101, 106, 111, 116], 54), (76, .aload_n 0, 1), (77, .getfield 154, 3), (80, .ireturn, 1), (81, .aload_n 0, 1), (82, .getfield 161, 3), (85, .ireturn, 1), (86, .aload_n 0, 1), (87, .getfield 293, 3), (90, .ireturn, 1), (91, .aload_n 0, 1), (92, .getfield 53, 3), (95, .ireturn, 1), (96, .aload_n 0, 1), (97, .getfield 53, 3), (100, .iconst (-1), 1), (101, .if_icmp .ne 7, 3), (104, .iconst 0, 1), (105, .goto 12, 3)]
def tbX12_count_1 : List (Nat × Instr × Nat) := [(108, .aload_n 0, 1), (109, .getfield 60, 3), (112, .aload_n 0, 1), (113, .getfield 53, 3), (116, .iaload, 1), (117, .ireturn, 1), (118, .aload_n 0, 1), (119, .getfield 428, 3), (122, .ireturn, 1), (123, .aload_n 0, 1), (124, .getfield 434, 3), (127, .ireturn, 1), (128, .aload_n 0, 1), (129, .getfield 450, 3), (132, .ireturn, 1), (133, .aload_n 0, 1), (134, .getfield 181, 3), (137, .ireturn, 1), (138, .aload_n 0, 1), (139, .getfield 164, 3), (142, .ireturn, 1), (143, .iconst (-1), 1), (144, .ireturn, 1)]
theorem tdX12_count_0 : hx_dt cX12_count tbX12_count_0 = true := by decide +kernel
theorem tdX12_count_1 : hx_dt cX12_count tbX12_count_1 = true := by decide +kernel
theorem caX12_count_157 {G : hx_GT} (cA : hx_CA RX12 cX12_count 2 0 0 G) : hx_CS cX12_count G 0 0 157 3 sX12_isIn 0 0 := cA.2.1 conX12_isIn ⟨by decide +kernel, by decide +kernel, by decide +kernel⟩ mw_1343 mw_1344 mw_97 mw_1345 (by decide) (by decide)
def wX12_count (μ : hx_M) (v1 : Int32) (K : Int32 → Prop) : Prop := wX12_isIn v1 10 13 (fun r5_2 => (r5_2 = 0 → (((v1 : Int32).toInt < 0 ∨ 9 < (v1 : Int32).toInt → (K (-1))) ∧ (v1 = 0 → (K (μ.1 0 0))) ∧ (v1 = 1 → (K (μ.1 0 1))) ∧ (v1 = 2 → (K (μ.1 0 20))) ∧ (v1 = 3 → (K (μ.1 0 21))) ∧ (v1 = 4 → (((μ.1 0 21) ≠ (-1) → (vp_in (μ.1 0 21) 6 ∧ K ((μ.1 14 ((μ.1 0 21).toNatClampNeg))))) ∧ ((μ.1 0 21) = (-1) → (K 0)))) ∧ (v1 = 5 → (K (μ.1 0 55))) ∧ (v1 = 6 → (K (μ.1 0 59))) ∧ (v1 = 7 → (K (μ.1 0 65))) ∧ (v1 = 8 → (K (μ.1 0 23))) ∧ (v1 = 9 → (K (μ.1 0 2))))) ∧ (¬ (r5_2 = 0) → (vp_in (v1 - 10) 4 ∧ K ((μ.1 6 ((v1 - 10).toNatClampNeg))))))
set_option maxRecDepth 100000 in
set_option maxHeartbeats 4000000 in
theorem kX12_count {G : hx_GT} {KK : hx_KT} (hG : hx_K cX12_count 2 0 0 (some .int) TbX12 KK G) (cA : hx_CA RX12 cX12_count 2 0 0 G) {Λ : hx_L} (hF : mF Λ) {μ : hx_M} (v1 : Int32) {K : Int32 → Prop} (hK : ∀ (r : Int32), K r → KK (some (.int r)) Λ μ) (hw : wX12_count μ v1 K) : G Λ μ (0, 0) 0 [some (.ref 0), some (.int v1)] [] := by
  unfold wX12_count at hw
  refine cl_iload_n hG (hx_dq tdX12_count_0 0 rfl) rfl (cl_bipush hG 10 (hx_dq tdX12_count_0 1 rfl) bipush_10 (cl_bipush hG 13 (hx_dq tdX12_count_0 2 rfl) bipush_13 (cl_callS3 (caX12_count_157 cA) (hx_dq tdX12_count_0 3 rfl) (Nat.le_of_ble_eq_true rfl) (Nat.le_refl _) (Nat.le_refl _) (sX12_isIn_mk hw (fun r5_2 hw => ?_)))))
  refine cl_if_eq hG 21 (hx_dq tdX12_count_0 4 rfl) rfl (fun c8 => ?_) (fun c8 => ?_)
  · replace hw := hw.1 c8
    refine cl_iload_n hG (hx_dq tdX12_count_0 12 rfl) rfl (hG.1 _ _ _ (hx_dq tdX12_count_0 13 rfl) _ _ _ _ _ ⟨_, _, rfl, fun c22 => ⟨143, rfl, ?_⟩, fun c22 e22 => ?_⟩)
    · replace hw := hw.1 c22
      exact cl_iconst hG (-1) (hx_dq tdX12_count_1 21 rfl) iconst_m1 (cl_iret hG (hx_dq tdX12_count_1 22 rfl) rfl rfl (hK _ hw) (Nat.le_refl _) (Nat.le_refl _))
    · replace hw := hw.2
      rcases hx_sw9 _ c22 e22 with c | c | c | c | c | c | c | c | c | c
      · replace hw := hw.1 c
        refine ⟨54, 76, by rw [c]; decide, rfl, ?_⟩
        exact cl_aload_n hG (hx_dq tdX12_count_0 14 rfl) rfl (cl_getI hG fmX12_154 (hx_dq tdX12_count_0 15 rfl) (mF_S0 hF) (cl_iret hG (hx_dq tdX12_count_0 16 rfl) rfl rfl (hK _ hw) (Nat.le_refl _) (Nat.le_refl _)))
      · replace hw := hw.2.1 c
        refine ⟨59, 81, by rw [c]; decide, rfl, ?_⟩
        exact cl_aload_n hG (hx_dq tdX12_count_0 17 rfl) rfl (cl_getI hG fmX12_161 (hx_dq tdX12_count_0 18 rfl) (mF_S0 hF) (cl_iret hG (hx_dq tdX12_count_0 19 rfl) rfl rfl (hK _ hw) (Nat.le_refl _) (Nat.le_refl _)))
      · replace hw := hw.2.2.1 c
        refine ⟨64, 86, by rw [c]; decide, rfl, ?_⟩
        exact cl_aload_n hG (hx_dq tdX12_count_0 20 rfl) rfl (cl_getI hG fmX12_293 (hx_dq tdX12_count_0 21 rfl) (mF_S0 hF) (cl_iret hG (hx_dq tdX12_count_0 22 rfl) rfl rfl (hK _ hw) (Nat.le_refl _) (Nat.le_refl _)))
      · replace hw := hw.2.2.2.1 c
        refine ⟨69, 91, by rw [c]; decide, rfl, ?_⟩
        exact cl_aload_n hG (hx_dq tdX12_count_0 23 rfl) rfl (cl_getI hG fmX12_53 (hx_dq tdX12_count_0 24 rfl) (mF_S0 hF) (cl_iret hG (hx_dq tdX12_count_0 25 rfl) rfl rfl (hK _ hw) (Nat.le_refl _) (Nat.le_refl _)))
      · replace hw := hw.2.2.2.2.1 c
        refine ⟨74, 96, by rw [c]; decide, rfl, ?_⟩
        refine cl_aload_n hG (hx_dq tdX12_count_0 26 rfl) rfl (cl_getI hG fmX12_53 (hx_dq tdX12_count_0 27 rfl) (mF_S0 hF) (cl_iconst hG (-1) (hx_dq tdX12_count_0 28 rfl) iconst_m1 (cl_icmp_ne hG 108 (hx_dq tdX12_count_0 29 rfl) rfl (fun c101 => ?_) (fun c101 => ?_))))
        · replace hw := hw.1 c101
          obtain ⟨i116_3, hw⟩ := hw
          exact cl_aload_n hG (hx_dq tdX12_count_1 0 rfl) rfl (cl_getS hG fmX12_60 (hx_dq tdX12_count_1 1 rfl) (mF_S0 hF) (mF_R0_28 hF) (cl_aload_n hG (hx_dq tdX12_count_1 2 rfl) rfl (cl_getI hG fmX12_53 (hx_dq tdX12_count_1 3 rfl) (mF_S0 hF) (cl_iald hG (hx_dq tdX12_count_1 4 rfl) (mF_S14 hF) i116_3 (cl_iret hG (hx_dq tdX12_count_1 5 rfl) rfl rfl (hK _ hw) (Nat.le_refl _) (Nat.le_refl _))))))
        · replace hw := hw.2 c101
          exact cl_iconst hG 0 (hx_dq tdX12_count_0 30 rfl) iconst_0 (cl_goto hG 117 (hx_dq tdX12_count_0 31 rfl) rfl (cl_iret hG (hx_dq tdX12_count_1 5 rfl) rfl rfl (hK _ hw) (Nat.le_refl _) (Nat.le_refl _)))
      · replace hw := hw.2.2.2.2.2.1 c
        refine ⟨96, 118, by rw [c]; decide, rfl, ?_⟩
        exact cl_aload_n hG (hx_dq tdX12_count_1 6 rfl) rfl (cl_getI hG fmX12_428 (hx_dq tdX12_count_1 7 rfl) (mF_S0 hF) (cl_iret hG (hx_dq tdX12_count_1 8 rfl) rfl rfl (hK _ hw) (Nat.le_refl _) (Nat.le_refl _)))
      · replace hw := hw.2.2.2.2.2.2.1 c
        refine ⟨101, 123, by rw [c]; decide, rfl, ?_⟩
        exact cl_aload_n hG (hx_dq tdX12_count_1 9 rfl) rfl (cl_getI hG fmX12_434 (hx_dq tdX12_count_1 10 rfl) (mF_S0 hF) (cl_iret hG (hx_dq tdX12_count_1 11 rfl) rfl rfl (hK _ hw) (Nat.le_refl _) (Nat.le_refl _)))
      · replace hw := hw.2.2.2.2.2.2.2.1 c
        refine ⟨106, 128, by rw [c]; decide, rfl, ?_⟩
        exact cl_aload_n hG (hx_dq tdX12_count_1 12 rfl) rfl (cl_getI hG fmX12_450 (hx_dq tdX12_count_1 13 rfl) (mF_S0 hF) (cl_iret hG (hx_dq tdX12_count_1 14 rfl) rfl rfl (hK _ hw) (Nat.le_refl _) (Nat.le_refl _)))
      · replace hw := hw.2.2.2.2.2.2.2.2.1 c
        refine ⟨111, 133, by rw [c]; decide, rfl, ?_⟩
        exact cl_aload_n hG (hx_dq tdX12_count_1 15 rfl) rfl (cl_getI hG fmX12_181 (hx_dq tdX12_count_1 16 rfl) (mF_S0 hF) (cl_iret hG (hx_dq tdX12_count_1 17 rfl) rfl rfl (hK _ hw) (Nat.le_refl _) (Nat.le_refl _)))
      · replace hw := hw.2.2.2.2.2.2.2.2.2 c
        refine ⟨116, 138, by rw [c]; decide, rfl, ?_⟩
        exact cl_aload_n hG (hx_dq tdX12_count_1 18 rfl) rfl (cl_getI hG fmX12_164 (hx_dq tdX12_count_1 19 rfl) (mF_S0 hF) (cl_iret hG (hx_dq tdX12_count_1 20 rfl) rfl rfl (hK _ hw) (Nat.le_refl _) (Nat.le_refl _)))
  · replace hw := hw.2 c8
    obtain ⟨i19_4, hw⟩ := hw
    exact cl_aload_n hG (hx_dq tdX12_count_0 5 rfl) rfl (cl_getS hG fmX12_29 (hx_dq tdX12_count_0 6 rfl) (mF_S0 hF) (mF_R0_12 hF) (cl_iload_n hG (hx_dq tdX12_count_0 7 rfl) rfl (cl_bipush hG 10 (hx_dq tdX12_count_0 8 rfl) bipush_10 (cl_isub hG (hx_dq tdX12_count_0 9 rfl) (cl_iald hG (hx_dq tdX12_count_0 10 rfl) (mF_S6 hF) i19_4 (cl_iret hG (hx_dq tdX12_count_0 11 rfl) rfl rfl (hK _ hw) (Nat.le_refl _) (Nat.le_refl _)))))))
def sX12_count : hx_ST := fun Λ μ as KK => mF Λ ∧ ∃ (v1 : Int32) (K : Int32 → Prop), as = [.ref 0, .int v1] ∧ wX12_count μ v1 K ∧ (∀ (r : Int32), K r → KK (some (.int r)) Λ μ)
theorem sX12_count_mk {Λ : hx_L} {μ : hx_M} {KK : hx_KT} {v1 : Int32} {K : Int32 → Prop} (hF : mF Λ) (hw : wX12_count μ v1 K) (hk : ∀ (r : Int32), K r → KK (some (.int r)) Λ μ) : sX12_count Λ μ [.ref 0, .int v1] KK := ⟨hF, _, _, rfl, hw, hk⟩
theorem conX12_count : hx_Con yX12_count cX12_count 2 (some .int) 2 0 0 sX12_count := by
  refine hx_con_of (by decide +kernel) tokX12 (by decide) ?_ ?_
  · intro Λ μ as KK h
    obtain ⟨hF, v1, K, rfl, hw, hK⟩ := h
    exact Nat.le_of_ble_eq_true rfl
  · intro G KK hG cA Λ μ as h
    obtain ⟨hF, v1, K, rfl, hw, hK⟩ := h
    exact cl_sub hG (hx_le_c rfl (hx_le_c rfl hx_le_0)) (kX12_count hG cA hF _ hK hw)
