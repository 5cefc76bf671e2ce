/-! HemLine$Chronicle.<init>(LHemLine$World;)V -/
def tbX0_init_0 : List (Nat × Instr × Nat) := [(0, .aload_n 0, 1), (1, .invokespecial 3, 3), (4, .aload_n 0, 1), (5, .aload_n 1, 1), (6, .putfield 9, 3), (9, .return_, 1)]
theorem tdX0_init_0 : hx_dt cX0_init tbX0_init_0 = true := by decide +kernel
def TAX0_init : hx_TA := ([], [(9, 0, 0, 2)], [], [3])
theorem taX0_init_f9 : (9, 0, 0, 2) ∈ TAX0_init.2.1 := List.mem_of_getElem? (i := 0) rfl
theorem toX0_init_f9 : hx_ffok RX0 (9, 0, 0, 2) := ⟨RX0, TX0, 1, tyX0, rfl, Nat.le_of_ble_eq_true rfl, rfl, mw_350, inX0, tyX0_ok, nmX0, rfl, rfl, fun h => absurd h (by decide), fun _ => Or.inl ⟨_, rfl⟩⟩
theorem taX0_init_o3 : 3 ∈ TAX0_init.2.2.2 := List.mem_of_getElem? (i := 0) rfl
theorem taokX0_init : hx_taok RX0 TAX0_init := ⟨(fun _ h => absurd h List.not_mem_nil), (List.forall_mem_cons.mpr ⟨toX0_init_f9, (fun _ h => absurd h List.not_mem_nil)⟩), (fun _ h => absurd h List.not_mem_nil), (List.forall_mem_cons.mpr ⟨mw_349, (fun _ h => absurd h List.not_mem_nil)⟩)⟩
def wX0_init (Λ : hx_L) (μ : hx_M) (v0 : Nat) (v1 : Nat) (K : hx_L → hx_M → Prop) : Prop := Λ.1 v0 = (0, 0) ∧ ∀ L_2 : hx_L, L_2 = hx_sR Λ v0 0 v1 → K L_2 μ
set_option maxRecDepth 100000 in
set_option maxHeartbeats 4000000 in
theorem kX0_init {G : hx_GT} {KK : hx_KT} (hG : hx_K cX0_init 2 0 0 (none) TbX0 KK G) (hM : hx_KA cX0_init 0 0 TAX0_init G) (cA : hx_CA RX0 cX0_init 1 0 0 G) {Λ : hx_L}  {μ : hx_M} (v0 : Nat) (v1 : Nat) {K : hx_L → hx_M → Prop} (hK : ∀ (Λ1 : hx_L) (m : hx_M), K Λ1 m → KK none Λ1 m) (hw : wX0_init Λ μ v0 v1 K) : G Λ μ (0, 0) 0 [some (.ref v0), some (.ref v1)] [] := by
  unfold wX0_init at hw
  obtain ⟨o6_1, hw⟩ := hw
  refine cl_aload_n hG (hx_dq tdX0_init_0 0 rfl) rfl (cl_oinit hM taX0_init_o3 (hx_dq tdX0_init_0 1 rfl) (Nat.le_of_ble_eq_true rfl) (cl_aload_n hG (hx_dq tdX0_init_0 2 rfl) rfl (cl_aload_n hG (hx_dq tdX0_init_0 3 rfl) rfl (cl_putFR hM taX0_init_f9 (hx_dq tdX0_init_0 4 rfl) o6_1 (cl_nmA (fun L_2 e_2 => ?_))))))
  replace hw := hw L_2 e_2
  exact cl_vret hG (hx_dq tdX0_init_0 5 rfl) rfl (hK _ _ hw) (Nat.le_of_ble_eq_true rfl) (Nat.le_of_ble_eq_true rfl)
def sX0_init : hx_ST := fun Λ μ as KK => ∃ (v0 : Nat) (v1 : Nat) (K : hx_L → hx_M → Prop), as = [.ref v0, .ref v1] ∧ wX0_init Λ μ v0 v1 K ∧ (∀ (Λ1 : hx_L) (m : hx_M), K Λ1 m → KK none Λ1 m)
theorem sX0_init_mk {Λ : hx_L} {μ : hx_M} {KK : hx_KT} {v0 : Nat} {v1 : Nat} {K : hx_L → hx_M → Prop}  (hw : wX0_init Λ μ v0 v1 K) (hk : ∀ (Λ1 : hx_L) (m : hx_M), K Λ1 m → KK none Λ1 m) : sX0_init Λ μ [.ref v0, .ref v1] KK := ⟨_, _, _, rfl, hw, hk⟩
theorem conX0_init : hx_Con yX0_init cX0_init 2 (none) 1 0 0 sX0_init := by
  refine hx_con_ofA (by decide +kernel) tokX0 taokX0_init (Or.inr rfl) (by decide) ?_ ?_
  · intro Λ μ as KK h
    obtain ⟨v0, v1, K, rfl, hw, hK⟩ := h
    exact Nat.le_of_ble_eq_true rfl
  · intro G KK hG hM cA Λ μ as h
    obtain ⟨v0, v1, K, rfl, hw, hK⟩ := h
    exact cl_sub hG (hx_le_c rfl (hx_le_c rfl hx_le_0)) (kX0_init hG hM cA _ _ hK hw)
/-! HemLine$Past.lengthOf(II)I -/
def tbX3_lengthOf_0 : List (Nat × Instr × Nat) := [(0, .aload_n 0, 1), (1, .getfield 21, 3), (4, .iload_n 2, 1), (5, .bipush 16, 2), (7, .imul, 1), (8, .iload_n 1, 1), (9, .iadd, 1), (10, .iaload, 1), (11, .ireturn, 1)]
theorem tdX3_lengthOf_0 : hx_dt cX3_lengthOf tbX3_lengthOf_0 = true := by decide +kernel
def wX3_lengthOf (μ : hx_M) (v1 : Int32) (v2 : Int32) (K : Int32 → Prop) : Prop := vp_in ((v2 * 16) + v1) 4816 ∧ K ((μ.1 16 (((v2 * 16) + v1).toNatClampNeg)))
set_option maxRecDepth 100000 in
set_option maxHeartbeats 4000000 in
theorem kX3_lengthOf {G : hx_GT} {KK : hx_KT} (hG : hx_K cX3_lengthOf 3 0 0 (some .int) TbX3 KK G) (cA : hx_CA RX3 cX3_lengthOf 1 0 0 G) {Λ : hx_L} (hF : cF Λ) {μ : hx_M} (v1 : Int32) (v2 : Int32) {K : Int32 → Prop} (hK : ∀ (r : Int32), K r → KK (some (.int r)) Λ μ) (hw : wX3_lengthOf μ v1 v2 K) : G Λ μ (0, 0) 0 [some (.ref 15), some (.int v1), some (.int v2)] [] := by
  unfold wX3_lengthOf at hw
  obtain ⟨i10_1, hw⟩ := hw
  exact cl_aload_n hG (hx_dq tdX3_lengthOf_0 0 rfl) rfl (cl_getS hG fmX3_21 (hx_dq tdX3_lengthOf_0 1 rfl) (cF_S15 hF) (cF_R15_1 hF) (cl_iload_n hG (hx_dq tdX3_lengthOf_0 2 rfl) rfl (cl_bipush hG 16 (hx_dq tdX3_lengthOf_0 3 rfl) bipush_16 (cl_imul hG (hx_dq tdX3_lengthOf_0 4 rfl) (cl_iload_n hG (hx_dq tdX3_lengthOf_0 5 rfl) rfl (cl_iadd hG (hx_dq tdX3_lengthOf_0 6 rfl) (cl_iald hG (hx_dq tdX3_lengthOf_0 7 rfl) (cF_S16 hF) i10_1 (cl_iret hG (hx_dq tdX3_lengthOf_0 8 rfl) rfl rfl (hK _ hw) (Nat.le_refl _) (Nat.le_refl _)))))))))
def sX3_lengthOf : hx_ST := fun Λ μ as KK => cF Λ ∧ ∃ (v1 : Int32) (v2 : Int32) (K : Int32 → Prop), as = [.ref 15, .int v1, .int v2] ∧ wX3_lengthOf μ v1 v2 K ∧ (∀ (r : Int32), K r → KK (some (.int r)) Λ μ)
theorem sX3_lengthOf_mk {Λ : hx_L} {μ : hx_M} {KK : hx_KT} {v1 : Int32} {v2 : Int32} {K : Int32 → Prop} (hF : cF Λ) (hw : wX3_lengthOf μ v1 v2 K) (hk : ∀ (r : Int32), K r → KK (some (.int r)) Λ μ) : sX3_lengthOf Λ μ [.ref 15, .int v1, .int v2] KK := ⟨hF, _, _, _, rfl, hw, hk⟩
theorem conX3_lengthOf : hx_Con yX3_lengthOf cX3_lengthOf 3 (some .int) 1 0 0 sX3_lengthOf := by
  refine hx_con_of (by decide +kernel) tokX3 (by decide) ?_ ?_
  · intro Λ μ as KK h
    obtain ⟨hF, v1, v2, K, rfl, hw, hK⟩ := h
    exact Nat.le_of_ble_eq_true rfl
  · intro G KK hG cA Λ μ as h
    obtain ⟨hF, v1, v2, K, rfl, hw, hK⟩ := h
    exact cl_sub hG (hx_le_c rfl (hx_le_c rfl (hx_le_c rfl hx_le_0))) (kX3_lengthOf hG cA hF _ _ hK hw)
/-! java/util/Arrays.fill([II)V -/
def tbJ7_fill_53178_0 : List (Nat × Instr × Nat) := [(0, .iconst 0, 1), (1, .istore_n 2, 1), (2, .aload_n 0, 1), (3, .arraylength, 1), (4, .istore_n 3, 1), (5, .iload_n 2, 1), (6, .iload_n 3, 1), (7, .if_icmp .ge 13, 3), (10, .aload_n 0, 1), (11, .iload_n 2, 1), (12, .iload_n 1, 1), (13, .iastore, 1), (14, .iinc 2 1, 3), (17, .goto (-12), 3), (20, .return_, 1)]
theorem tdJ7_fill_53178_0 : hx_dt cJ7_fill_53178 tbJ7_fill_53178_0 = true := by decide +kernel
def wJ7_fill_53178_L5 (Λ : hx_L) (v0 : Nat) (v1 : Int32) (v3 : Int32) (K : hx_M → Prop)  : Nat → Int32 → hx_M → Prop
  | 0, _, _ => False
  | n + 1, v2, μ => (v3 ≤ v2 → (K μ)) ∧ (¬ (v3 ≤ v2) → (∃ n13_4, Λ.1 v0 = (1, n13_4) ∧ vp_in v2 n13_4 ∧ wJ7_fill_53178_L5 Λ v0 v1 v3 K n (v2 + 1) (hx_sI μ v0 v2.toNatClampNeg v1)))
set_option maxRecDepth 100000 in
set_option maxHeartbeats 4000000 in
theorem kJ7_fill_53178_L5 {G : hx_GT} {KK : hx_KT} (hG : hx_K cJ7_fill_53178 4 0 0 (none) TbJ7 KK G) (cA : hx_CA RJ7 cJ7_fill_53178 1 0 0 G) {Λ : hx_L}   (v0 : Nat) (v1 : Int32) (v3 : Int32) {K : hx_M → Prop} (hK : ∀ (m : hx_M), K m → KK none Λ m)  : ∀ (n : Nat) (v2 : Int32) (μ : hx_M), wJ7_fill_53178_L5 Λ v0 v1 v3 K n v2 μ → G Λ μ (0, 0) 5 [some (.ref v0), some (.int v1), some (.int v2), some (.int v3)] [] := by
  intro n
  induction n with
  | zero =>
    intro v2 μ hw
    exact False.elim (by simpa only [wJ7_fill_53178_L5] using hw)
  | succ n ih =>
    intro v2 μ hw
    unfold wJ7_fill_53178_L5 at hw
    refine cl_iload_n hG (hx_dq tdJ7_fill_53178_0 5 rfl) rfl (cl_iload_n hG (hx_dq tdJ7_fill_53178_0 6 rfl) rfl (cl_icmp_ge hG 20 (hx_dq tdJ7_fill_53178_0 7 rfl) rfl (fun c7 => ?_) (fun c7 => ?_)))
    · replace hw := hw.1 c7
      exact cl_vret hG (hx_dq tdJ7_fill_53178_0 14 rfl) rfl (hK _ hw) (Nat.le_refl _) (Nat.le_refl _)
    · replace hw := hw.2 c7
      obtain ⟨n13_4, o13_3, hw⟩ := hw
      obtain ⟨i13_5, hw⟩ := hw
      exact cl_aload_n hG (hx_dq tdJ7_fill_53178_0 8 rfl) rfl (cl_iload_n hG (hx_dq tdJ7_fill_53178_0 9 rfl) rfl (cl_iload_n hG (hx_dq tdJ7_fill_53178_0 10 rfl) rfl (cl_iast hG (hx_dq tdJ7_fill_53178_0 11 rfl) o13_3 i13_5 (cl_iinc hG (v2 + 1) (hx_dq tdJ7_fill_53178_0 12 rfl) rfl (congrArg (fun z => v2 + z) iconst_1) (Nat.le_of_ble_eq_true rfl) rfl (cl_goto hG 5 (hx_dq tdJ7_fill_53178_0 13 rfl) rfl (cl_sub hG (hx_le_c rfl (hx_le_c rfl (hx_le_c rfl (hx_le_c rfl hx_le_0)))) (ih (v2 + 1) _ hw)))))))
def wJ7_fill_53178 (Λ : hx_L) (μ : hx_M) (v0 : Nat) (v1 : Int32) (K : hx_M → Prop) : Prop := ∃ n3_2, Λ.1 v0 = (1, n3_2) ∧ ∃ n5_6, wJ7_fill_53178_L5 Λ v0 v1 (Int32.ofNat n3_2) K n5_6 0 μ
set_option maxRecDepth 100000 in
set_option maxHeartbeats 4000000 in
theorem kJ7_fill_53178 {G : hx_GT} {KK : hx_KT} (hG : hx_K cJ7_fill_53178 4 0 0 (none) TbJ7 KK G) (cA : hx_CA RJ7 cJ7_fill_53178 1 0 0 G) {Λ : hx_L}  {μ : hx_M} (v0 : Nat) (v1 : Int32) {K : hx_M → Prop} (hK : ∀ (m : hx_M), K m → KK none Λ m) (hw : wJ7_fill_53178 Λ μ v0 v1 K) : G Λ μ (0, 0) 0 [some (.ref v0), some (.int v1), none, none] [] := by
  unfold wJ7_fill_53178 at hw
  obtain ⟨n3_2, o3_1, hw⟩ := hw
  refine cl_iconst hG 0 (hx_dq tdJ7_fill_53178_0 0 rfl) iconst_0 (cl_istore_n hG (hx_dq tdJ7_fill_53178_0 1 rfl) (Nat.le_of_ble_eq_true rfl) rfl (cl_aload_n hG (hx_dq tdJ7_fill_53178_0 2 rfl) rfl (cl_alenI hG (hx_dq tdJ7_fill_53178_0 3 rfl) o3_1 (cl_istore_n hG (hx_dq tdJ7_fill_53178_0 4 rfl) (Nat.le_of_ble_eq_true rfl) rfl ?_))))
  obtain ⟨n_, hw⟩ := hw
  refine cl_sub hG (hx_le_c rfl (hx_le_c rfl (hx_le_c rfl (hx_le_c rfl hx_le_0)))) (kJ7_fill_53178_L5 hG cA v0 v1 (Int32.ofNat n3_2) hK n_ 0 _ hw)
def sJ7_fill_53178 : hx_ST := fun Λ μ as KK => ∃ (v0 : Nat) (v1 : Int32) (K : hx_M → Prop), as = [.ref v0, .int v1] ∧ wJ7_fill_53178 Λ μ v0 v1 K ∧ (∀ (m : hx_M), K m → KK none Λ m)
theorem sJ7_fill_53178_mk {Λ : hx_L} {μ : hx_M} {KK : hx_KT} {v0 : Nat} {v1 : Int32} {K : hx_M → Prop}  (hw : wJ7_fill_53178 Λ μ v0 v1 K) (hk : ∀ (m : hx_M), K m → KK none Λ m) : sJ7_fill_53178 Λ μ [.ref v0, .int v1] KK := ⟨_, _, _, rfl, hw, hk⟩
theorem conJ7_fill_53178 : hx_Con yJ7_fill_53178 cJ7_fill_53178 4 (none) 1 0 0 sJ7_fill_53178 := by
  refine hx_con_of (by decide +kernel) tokJ7 (by decide) ?_ ?_
  · intro Λ μ as KK h
    obtain ⟨v0, v1, K, rfl, hw, hK⟩ := h
    exact Nat.le_of_ble_eq_true rfl
  · intro G KK hG cA Λ μ as h
    obtain ⟨v0, v1, K, rfl, hw, hK⟩ := h
    exact cl_sub hG (hx_le_c rfl (hx_le_c rfl (hx_le_n (hx_le_n hx_le_0)))) (kJ7_fill_53178 hG cA _ _ hK hw)
/-! HemLine$Reckoner.look(II)V -/
def tbX6_look_0 : List (Nat × Instr × Nat) := [(0, .aload_n 0, 1), (1, .getfield 27, 3), (4, .iconst 0, 1), (5, .invokestatic 67, 3), (8, .aload_n 0, 1), (9, .getfield 30, 3), (12, .iconst 0, 1), (13, .invokestatic 67, 3), (16, .iconst 0, 1), (17, .istore_n 3, 1), (18, .iload_n 3, 1), (19, .aload_n 0, 1), (20, .getfield 9, 3), (23, .getfield 73, 3), (26, .if_icmp .ge 97, 3), (29, .aload_n 0, 1), (30, .getfield 9, 3), (33, .getfield 76, 3), (36, .iload_n 1, 1), (37, .iaload, 1), (38, .iload_n 3, 1), (39, .ishr, 1), (40, .iconst 1, 1), (41, .iand, 1), (42, .ifCond .eq 75, 3), (45, .aload_n 0, 1), (46, .getfield 9, 3), (49, .getfield 48, 3), (52, .iload_n 3, 1), (53, .iaload, 1), (54, .aload_n 0, 1), (55, .getfield 9, 3)]
def tbX6_look_1 : List (Nat × Instr × Nat) := [(58, .getfield 48, 3), (61, .iload_n 1, 1), (62, .iaload, 1), (63, .isub, 1), (64, .istore 4, 2), (66, .iload 4, 2), (68, .ifCond .le 7, 3), (71, .iconst 0, 1), (72, .goto 13, 3), (75, .iload 4, 2), (77, .ifCond .ge 7, 3), (80, .iconst 1, 1), (81, .goto 4, 3), (84, .iconst 2, 1), (85, .istore 5, 2), (87, .aload_n 0, 1), (88, .getfield 30, 3), (91, .iload 5, 2), (93, .dup2, 1), (94, .iaload, 1), (95, .aload_n 0, 1), (96, .getfield 15, 3), (99, .iload_n 3, 1), (100, .iload_n 2, 1), (101, .invokevirtual 37, 3), (104, .iadd, 1), (105, .iastore, 1), (106, .aload_n 0, 1), (107, .getfield 27, 3), (110, .iload 5, 2), (112, .dup2, 1), (113, .iaload, 1)]
def tbX6_look_2 : List (Nat × Instr × Nat) := [(114, .iconst 1, 1), (115, .iadd, 1), (116, .iastore, 1), (117, .iinc 3 1, 3), (120, .goto (-102), 3), (123, .aload_n 0, 1), (124, .getfield 30, 3), (127, .iconst 3, 1), (128, .aload_n 0, 1), (129, .getfield 30, 3), (132, .iconst 0, 1), (133, .iaload, 1), (134, .aload_n 0, 1), (135, .getfield 30, 3), (138, .iconst 1, 1), (139, .iaload, 1), (140, .iadd, 1), (141, .aload_n 0, 1), (142, .getfield 30, 3), (145, .iconst 2, 1), (146, .iaload, 1), (147, .iadd, 1), (148, .iastore, 1), (149, .aload_n 0, 1), (150, .getfield 27, 3), (153, .iconst 3, 1), (154, .aload_n 0, 1), (155, .getfield 27, 3), (158, .iconst 0, 1), (159, .iaload, 1), (160, .aload_n 0, 1), (161, .getfield 27, 3)]
def tbX6_look_3 : List (Nat × Instr × Nat) := [(164, .iconst 1, 1), (165, .iaload, 1), (166, .iadd, 1), (167, .aload_n 0, 1), (168, .getfield 27, 3), (171, .iconst 2, 1), (172, .iaload, 1), (173, .iadd, 1), (174, .iastore, 1), (175, .iconst 0, 1), (176, .istore_n 3, 1), (177, .iload_n 3, 1), (178, .iconst 3, 1), (179, .if_icmp .gt 41, 3), (182, .aload_n 0, 1), (183, .getfield 30, 3), (186, .iload_n 3, 1), (187, .aload_n 0, 1), (188, .getfield 27, 3), (191, .iload_n 3, 1), (192, .iaload, 1), (193, .ifCond .ne 7, 3), (196, .iconst (-1), 1), (197, .goto 16, 3), (200, .aload_n 0, 1), (201, .getfield 30, 3), (204, .iload_n 3, 1), (205, .iaload, 1), (206, .aload_n 0, 1), (207, .getfield 27, 3), (210, .iload_n 3, 1), (211, .iaload, 1)]
def tbX6_look_4 : List (Nat × Instr × Nat) := [(212, .idiv, 1), (213, .iastore, 1), (214, .iinc 3 1, 3), (217, .goto (-40), 3), (220, .return_, 1)]
theorem tdX6_look_0 : hx_dt cX6_look tbX6_look_0 = true := by decide +kernel
theorem tdX6_look_1 : hx_dt cX6_look tbX6_look_1 = true := by decide +kernel
theorem tdX6_look_2 : hx_dt cX6_look tbX6_look_2 = true := by decide +kernel
theorem tdX6_look_3 : hx_dt cX6_look tbX6_look_3 = true := by decide +kernel
theorem tdX6_look_4 : hx_dt cX6_look tbX6_look_4 = true := by decide +kernel
theorem caX6_look_37 {G : hx_GT} (cA : hx_CA RX6 cX6_look 2 0 0 G) : hx_CV cX6_look G 0 0 37 3 2 sX3_lengthOf 0 0 := cA.1 conX3_lengthOf rfl rfl ⟨by decide +kernel, by decide +kernel, by decide +kernel⟩ mw_724 mw_717 mw_718 mw_88 mw_719 (by decide) (by decide)
theorem caX6_look_67 {G : hx_GT} (cA : hx_CA RX6 cX6_look 2 0 0 G) : hx_CS cX6_look G 0 0 67 2 sJ7_fill_53178 0 0 := cA.2.1 conJ7_fill_53178 ⟨by decide +kernel, by decide +kernel, by decide +kernel⟩ mw_729 mw_209 mw_90 mw_210 (by decide) (by decide)
def wX6_look_J117 (Λ : hx_L) (K : hx_M → Prop) (K18 : Int32 → hx_M → Prop) (v1 : Int32) (v2 : Int32) (v3 : Int32)  (μ : hx_M) : Prop := K18 (v3 + 1) μ
set_option maxRecDepth 100000 in
set_option maxHeartbeats 4000000 in
theorem kX6_look_J117 {G : hx_GT} {KK : hx_KT} (hG : hx_K cX6_look 6 0 0 (none) TbX6 KK G) (cA : hx_CA RX6 cX6_look 2 0 0 G) {Λ : hx_L} (hF : cF Λ) {μ : hx_M} (v1 : Int32) (v2 : Int32) (v3 : Int32)  {K : hx_M → Prop} (hK : ∀ (m : hx_M), K m → KK none Λ m) {K18 : Int32 → hx_M → Prop} (hk18 : ∀ (v3 : Int32) (μ : hx_M), K18 v3 μ → G Λ μ (0, 0) 18 [some (.ref 21), some (.int v1), some (.int v2), some (.int v3), none, none] []) (hw : wX6_look_J117 Λ K K18 v1 v2 v3 μ) : G Λ μ (0, 0) 117 [some (.ref 21), some (.int v1), some (.int v2), some (.int v3), none, none] [] := by
  unfold wX6_look_J117 at hw
  exact cl_iinc hG (v3 + 1) (hx_dq tdX6_look_2 3 rfl) rfl (congrArg (fun z => v3 + z) iconst_1) (Nat.le_of_ble_eq_true rfl) rfl (cl_goto hG 18 (hx_dq tdX6_look_2 4 rfl) rfl (cl_sub hG (hx_le_c rfl (hx_le_c rfl (hx_le_c rfl (hx_le_c rfl (hx_le_n (hx_le_n hx_le_0)))))) (hk18 (v3 + 1) _ hw)))
def wX6_look_J117_16 (Λ : hx_L) (K : hx_M → Prop) (K18 : Int32 → hx_M → Prop) (v1 : Int32) (v2 : Int32) (v3 : Int32)  (μ : hx_M) : Prop := K18 (v3 + 1) μ
set_option maxRecDepth 100000 in
set_option maxHeartbeats 4000000 in
theorem kX6_look_J117_16 {G : hx_GT} {KK : hx_KT} (hG : hx_K cX6_look 6 0 0 (none) TbX6 KK G) (cA : hx_CA RX6 cX6_look 2 0 0 G) {Λ : hx_L} (hF : cF Λ) {μ : hx_M} (v1 : Int32) (v2 : Int32) (v3 : Int32)  {K : hx_M → Prop} (hK : ∀ (m : hx_M), K m → KK none Λ m) {K18 : Int32 → hx_M → Prop} (hk18 : ∀ (v3 : Int32) (μ : hx_M), K18 v3 μ → G Λ μ (0, 0) 18 [some (.ref 21), some (.int v1), some (.int v2), some (.int v3), none, none] []) (hw : wX6_look_J117_16 Λ K K18 v1 v2 v3 μ) : G Λ μ (0, 0) 117 [some (.ref 21), some (.int v1), some (.int v2), some (.int v3), none, none] [] := by
  unfold wX6_look_J117_16 at hw
  exact cl_iinc hG (v3 + 1) (hx_dq tdX6_look_2 3 rfl) rfl (congrArg (fun z => v3 + z) iconst_1) (Nat.le_of_ble_eq_true rfl) rfl (cl_goto hG 18 (hx_dq tdX6_look_2 4 rfl) rfl (cl_sub hG (hx_le_c rfl (hx_le_c rfl (hx_le_c rfl (hx_le_c rfl (hx_le_n (hx_le_n hx_le_0)))))) (hk18 (v3 + 1) _ hw)))
def wX6_look_J85 (Λ : hx_L) (K : hx_M → Prop) (K18 : Int32 → hx_M → Prop) (v1 : Int32) (v2 : Int32) (v3 : Int32) (t0 : Int32) (μ : hx_M) : Prop := vp_in t0 4 ∧ wX3_lengthOf μ v3 v2 (fun r101_12 => vp_in t0 4 ∧ vp_in t0 4 ∧ vp_in t0 4 ∧ wX6_look_J117_16 Λ K (K18) v1 v2 v3 (hx_sI (hx_sI μ 24 t0.toNatClampNeg ((μ.1 24 t0.toNatClampNeg) + r101_12)) 23 t0.toNatClampNeg ((μ.1 23 t0.toNatClampNeg) + 1)))
set_option maxRecDepth 100000 in
set_option maxHeartbeats 4000000 in
theorem kX6_look_J85 {G : hx_GT} {KK : hx_KT} (hG : hx_K cX6_look 6 0 0 (none) TbX6 KK G) (cA : hx_CA RX6 cX6_look 2 0 0 G) {Λ : hx_L} (hF : cF Λ) {μ : hx_M} (v1 : Int32) (v2 : Int32) (v3 : Int32) (t0 : Int32) {K : hx_M → Prop} (hK : ∀ (m : hx_M), K m → KK none Λ m) {K18 : Int32 → hx_M → Prop} (hk18 : ∀ (v3 : Int32) (μ : hx_M), K18 v3 μ → G Λ μ (0, 0) 18 [some (.ref 21), some (.int v1), some (.int v2), some (.int v3), none, none] []) (hw : wX6_look_J85 Λ K K18 v1 v2 v3 t0 μ) : G Λ μ (0, 0) 85 [some (.ref 21), some (.int v1), some (.int v2), some (.int v3), none, none] [.int t0] := by
  unfold wX6_look_J85 at hw
  obtain ⟨i94_10, hw⟩ := hw
  refine cl_istore hG (hx_dq tdX6_look_1 14 rfl) (Nat.le_of_ble_eq_true rfl) rfl (cl_aload_n hG (hx_dq tdX6_look_1 15 rfl) rfl (cl_getS hG fmX6_30 (hx_dq tdX6_look_1 16 rfl) (cF_S21 hF) (cF_R21_4 hF) (cl_iload hG (hx_dq tdX6_look_1 17 rfl) rfl (cl_dup2 hG (hx_dq tdX6_look_1 18 rfl) rfl rfl (cl_iald hG (hx_dq tdX6_look_1 19 rfl) (cF_S24 hF) i94_10 (cl_aload_n hG (hx_dq tdX6_look_1 20 rfl) rfl (cl_getS hG fmX6_15 (hx_dq tdX6_look_1 21 rfl) (cF_S21 hF) (cF_R21_1 hF) (cl_iload_n hG (hx_dq tdX6_look_1 22 rfl) rfl (cl_iload_n hG (hx_dq tdX6_look_1 23 rfl) rfl (cl_callV2 (caX6_look_37 cA) (hx_dq tdX6_look_1 24 rfl) (cF_S15 hF) (Nat.le_of_ble_eq_true rfl) (Nat.le_refl _) (Nat.le_refl _) (sX3_lengthOf_mk hF hw (fun r101_12 hw => ?_))))))))))))
  obtain ⟨i105_13, hw⟩ := hw
  obtain ⟨i113_14, hw⟩ := hw
  obtain ⟨i116_15, hw⟩ := hw
  refine cl_iadd hG (hx_dq tdX6_look_1 25 rfl) (cl_iast hG (hx_dq tdX6_look_1 26 rfl) (cF_S24 hF) i105_13 (cl_aload_n hG (hx_dq tdX6_look_1 27 rfl) rfl (cl_getS hG fmX6_27 (hx_dq tdX6_look_1 28 rfl) (cF_S21 hF) (cF_R21_3 hF) (cl_iload hG (hx_dq tdX6_look_1 29 rfl) rfl (cl_dup2 hG (hx_dq tdX6_look_1 30 rfl) rfl rfl (cl_iald hG (hx_dq tdX6_look_1 31 rfl) (cF_S23 hF) i113_14 (cl_iconst hG 1 (hx_dq tdX6_look_2 0 rfl) iconst_1 (cl_iadd hG (hx_dq tdX6_look_2 1 rfl) (cl_iast hG (hx_dq tdX6_look_2 2 rfl) (cF_S23 hF) i116_15 ?_)))))))))
  exact cl_sub hG (hx_le_c rfl (hx_le_c rfl (hx_le_c rfl (hx_le_c rfl (hx_le_n (hx_le_n hx_le_0)))))) (kX6_look_J117_16 hG cA hF v1 v2 v3 hK (fun z0 z1 hw => hk18 z0 z1 hw) hw)
def wX6_look_L18 (Λ : hx_L) (v1 : Int32) (v2 : Int32) (K : hx_M → Prop) (K123 : hx_M → Prop) : Nat → Int32 → hx_M → Prop
  | 0, _, _ => False
  | n + 1, v3, μ => ((μ.1 8 0) ≤ v3 → (K123 μ)) ∧ (¬ ((μ.1 8 0) ≤ v3) → (vp_in v1 16 ∧ ∀ x_6 : Int32, x_6 = (((μ.1 11 v1.toNatClampNeg) >>> (v3 &&& 31)) &&& 1) → (x_6 = 0 → (wX6_look_J117 Λ K (wX6_look_L18 Λ v1 v2 K K123 n) v1 v2 v3 μ)) ∧ (¬ (x_6 = 0) → (vp_in v3 16 ∧ vp_in v1 16 ∧ ∀ x_9 : Int32, x_9 = ((μ.1 9 v3.toNatClampNeg) - (μ.1 9 v1.toNatClampNeg)) → (x_9 ≤ 0 → ((0 ≤ x_9 → (wX6_look_J85 Λ K (wX6_look_L18 Λ v1 v2 K K123 n) v1 v2 v3 2 μ)) ∧ (¬ (0 ≤ x_9) → (wX6_look_J85 Λ K (wX6_look_L18 Λ v1 v2 K K123 n) v1 v2 v3 1 μ)))) ∧ (¬ (x_9 ≤ 0) → (wX6_look_J85 Λ K (wX6_look_L18 Λ v1 v2 K K123 n) v1 v2 v3 0 μ))))))
set_option maxRecDepth 100000 in
set_option maxHeartbeats 4000000 in
theorem kX6_look_L18 {G : hx_GT} {KK : hx_KT} (hG : hx_K cX6_look 6 0 0 (none) TbX6 KK G) (cA : hx_CA RX6 cX6_look 2 0 0 G) {Λ : hx_L} (hF : cF Λ)  (v1 : Int32) (v2 : Int32) {K : hx_M → Prop} (hK : ∀ (m : hx_M), K m → KK none Λ m) {K123 : hx_M → Prop} (hk123 : ∀ (μ : hx_M), K123 μ → G Λ μ (0, 0) 123 [some (.ref 21), none, none, none, none, none] []) : ∀ (n : Nat) (v3 : Int32) (μ : hx_M), wX6_look_L18 Λ v1 v2 K K123 n v3 μ → G Λ μ (0, 0) 18 [some (.ref 21), some (.int v1), some (.int v2), some (.int v3), none, none] [] := by
  intro n
  induction n with
  | zero =>
    intro v3 μ hw
    exact False.elim (by simpa only [wX6_look_L18] using hw)
  | succ n ih =>
    intro v3 μ hw
    unfold wX6_look_L18 at hw
    refine cl_iload_n hG (hx_dq tdX6_look_0 10 rfl) rfl (cl_aload_n hG (hx_dq tdX6_look_0 11 rfl) rfl (cl_getS hG fmX6_9 (hx_dq tdX6_look_0 12 rfl) (cF_S21 hF) (cF_R21_0 hF) (cl_getI hG fmX6_73 (hx_dq tdX6_look_0 13 rfl) (cF_S8 hF) (cl_icmp_ge hG 123 (hx_dq tdX6_look_0 14 rfl) rfl (fun c26 => ?_) (fun c26 => ?_)))))
    · replace hw := hw.1 c26
      exact cl_sub hG (hx_le_c rfl (hx_le_n (hx_le_n (hx_le_n (hx_le_n (hx_le_n hx_le_0)))))) (hk123 _ hw)
    · replace hw := hw.2 c26
      obtain ⟨i37_5, hw⟩ := hw
      refine cl_aload_n hG (hx_dq tdX6_look_0 15 rfl) rfl (cl_getS hG fmX6_9 (hx_dq tdX6_look_0 16 rfl) (cF_S21 hF) (cF_R21_0 hF) (cl_getS hG fmX6_76 (hx_dq tdX6_look_0 17 rfl) (cF_S8 hF) (cF_R8_3 hF) (cl_iload_n hG (hx_dq tdX6_look_0 18 rfl) rfl (cl_iald hG (hx_dq tdX6_look_0 19 rfl) (cF_S11 hF) i37_5 (cl_iload_n hG (hx_dq tdX6_look_0 20 rfl) rfl (cl_ishr hG (hx_dq tdX6_look_0 21 rfl) (cl_iconst hG 1 (hx_dq tdX6_look_0 22 rfl) iconst_1 (cl_iand hG (hx_dq tdX6_look_0 23 rfl) (cl_nmI (fun x_6 e_6 => ?_))))))))))
      replace hw := hw x_6 e_6
      refine cl_if_eq hG 117 (hx_dq tdX6_look_0 24 rfl) rfl (fun c42 => ?_) (fun c42 => ?_)
      · replace hw := hw.1 c42
        exact cl_sub hG (hx_le_c rfl (hx_le_c rfl (hx_le_c rfl (hx_le_c rfl (hx_le_n (hx_le_n hx_le_0)))))) (kX6_look_J117 hG cA hF v1 v2 v3 hK (fun z0 z1 hw => ih z0 z1 hw) hw)
      · replace hw := hw.2 c42
        obtain ⟨i53_7, hw⟩ := hw
        obtain ⟨i62_8, hw⟩ := hw
        refine cl_aload_n hG (hx_dq tdX6_look_0 25 rfl) rfl (cl_getS hG fmX6_9 (hx_dq tdX6_look_0 26 rfl) (cF_S21 hF) (cF_R21_0 hF) (cl_getS hG fmX6_48 (hx_dq tdX6_look_0 27 rfl) (cF_S8 hF) (cF_R8_1 hF) (cl_iload_n hG (hx_dq tdX6_look_0 28 rfl) rfl (cl_iald hG (hx_dq tdX6_look_0 29 rfl) (cF_S9 hF) i53_7 (cl_aload_n hG (hx_dq tdX6_look_0 30 rfl) rfl (cl_getS hG fmX6_9 (hx_dq tdX6_look_0 31 rfl) (cF_S21 hF) (cF_R21_0 hF) (cl_getS hG fmX6_48 (hx_dq tdX6_look_1 0 rfl) (cF_S8 hF) (cF_R8_1 hF) (cl_iload_n hG (hx_dq tdX6_look_1 1 rfl) rfl (cl_iald hG (hx_dq tdX6_look_1 2 rfl) (cF_S9 hF) i62_8 (cl_isub hG (hx_dq tdX6_look_1 3 rfl) (cl_nmI (fun x_9 e_9 => ?_))))))))))))
        replace hw := hw x_9 e_9
        refine cl_istore hG (hx_dq tdX6_look_1 4 rfl) (Nat.le_of_ble_eq_true rfl) rfl (cl_iload hG (hx_dq tdX6_look_1 5 rfl) rfl (cl_if_le hG 75 (hx_dq tdX6_look_1 6 rfl) rfl (fun c68 => ?_) (fun c68 => ?_)))
        · replace hw := hw.1 c68
          refine cl_iload hG (hx_dq tdX6_look_1 9 rfl) rfl (cl_if_ge hG 84 (hx_dq tdX6_look_1 10 rfl) rfl (fun c77 => ?_) (fun c77 => ?_))
          · replace hw := hw.1 c77
            refine cl_iconst hG 2 (hx_dq tdX6_look_1 13 rfl) iconst_2 ?_
            exact cl_sub hG (hx_le_c rfl (hx_le_c rfl (hx_le_c rfl (hx_le_c rfl (hx_le_n (hx_le_n hx_le_0)))))) (kX6_look_J85 hG cA hF v1 v2 v3 2 hK (fun z0 z1 hw => ih z0 z1 hw) hw)
          · replace hw := hw.2 c77
            refine cl_iconst hG 1 (hx_dq tdX6_look_1 11 rfl) iconst_1 (cl_goto hG 85 (hx_dq tdX6_look_1 12 rfl) rfl ?_)
            exact cl_sub hG (hx_le_c rfl (hx_le_c rfl (hx_le_c rfl (hx_le_c rfl (hx_le_n (hx_le_n hx_le_0)))))) (kX6_look_J85 hG cA hF v1 v2 v3 1 hK (fun z0 z1 hw => ih z0 z1 hw) hw)
        · replace hw := hw.2 c68
          refine cl_iconst hG 0 (hx_dq tdX6_look_1 7 rfl) iconst_0 (cl_goto hG 85 (hx_dq tdX6_look_1 8 rfl) rfl ?_)
          exact cl_sub hG (hx_le_c rfl (hx_le_c rfl (hx_le_c rfl (hx_le_c rfl (hx_le_n (hx_le_n hx_le_0)))))) (kX6_look_J85 hG cA hF v1 v2 v3 0 hK (fun z0 z1 hw => ih z0 z1 hw) hw)
def wX6_look_J213 (Λ : hx_L) (K : hx_M → Prop) (K177 : Int32 → hx_M → Prop) (v3 : Int32) (t1 : Int32) (t2 : Int32) (μ : hx_M) : Prop := vp_in t1 4 ∧ K177 (v3 + 1) (hx_sI μ 24 t1.toNatClampNeg t2)
set_option maxRecDepth 100000 in
set_option maxHeartbeats 4000000 in
theorem kX6_look_J213 {G : hx_GT} {KK : hx_KT} (hG : hx_K cX6_look 6 0 0 (none) TbX6 KK G) (cA : hx_CA RX6 cX6_look 2 0 0 G) {Λ : hx_L} (hF : cF Λ) {μ : hx_M} (v3 : Int32) (t1 : Int32) (t2 : Int32) {K : hx_M → Prop} (hK : ∀ (m : hx_M), K m → KK none Λ m) {K177 : Int32 → hx_M → Prop} (hk177 : ∀ (v3 : Int32) (μ : hx_M), K177 v3 μ → G Λ μ (0, 0) 177 [some (.ref 21), none, none, some (.int v3), none, none] []) (hw : wX6_look_J213 Λ K K177 v3 t1 t2 μ) : G Λ μ (0, 0) 213 [some (.ref 21), none, none, some (.int v3), none, none] [.int t2, .int t1, .ref 24] := by
  unfold wX6_look_J213 at hw
  obtain ⟨i213_34, hw⟩ := hw
  exact cl_iast hG (hx_dq tdX6_look_4 1 rfl) (cF_S24 hF) i213_34 (cl_iinc hG (v3 + 1) (hx_dq tdX6_look_4 2 rfl) rfl (congrArg (fun z => v3 + z) iconst_1) (Nat.le_of_ble_eq_true rfl) rfl (cl_goto hG 177 (hx_dq tdX6_look_4 3 rfl) rfl (cl_sub hG (hx_le_c rfl (hx_le_n (hx_le_n (hx_le_c rfl (hx_le_n (hx_le_n hx_le_0)))))) (hk177 (v3 + 1) _ hw))))
def wX6_look_L177 (Λ : hx_L) (K : hx_M → Prop)  : Nat → Int32 → hx_M → Prop
  | 0, _, _ => False
  | n + 1, v3, μ => (3 < v3 → (K μ)) ∧ (¬ (3 < v3) → (vp_in v3 4 ∧ ((μ.1 23 v3.toNatClampNeg) ≠ 0 → (vp_in v3 4 ∧ vp_in v3 4 ∧ ¬ (μ.1 23 v3.toNatClampNeg) = 0 ∧ ∀ x_33 : Int32, x_33 = ((μ.1 24 v3.toNatClampNeg) / (μ.1 23 v3.toNatClampNeg)) → wX6_look_J213 Λ K (wX6_look_L177 Λ K n) v3 v3 x_33 μ)) ∧ ((μ.1 23 v3.toNatClampNeg) = 0 → (wX6_look_J213 Λ K (wX6_look_L177 Λ K n) v3 v3 (-1) μ))))
set_option maxRecDepth 100000 in
set_option maxHeartbeats 4000000 in
theorem kX6_look_L177 {G : hx_GT} {KK : hx_KT} (hG : hx_K cX6_look 6 0 0 (none) TbX6 KK G) (cA : hx_CA RX6 cX6_look 2 0 0 G) {Λ : hx_L} (hF : cF Λ)   {K : hx_M → Prop} (hK : ∀ (m : hx_M), K m → KK none Λ m)  : ∀ (n : Nat) (v3 : Int32) (μ : hx_M), wX6_look_L177 Λ K n v3 μ → G Λ μ (0, 0) 177 [some (.ref 21), none, none, some (.int v3), none, none] [] := by
  intro n
  induction n with
  | zero =>
    intro v3 μ hw
    exact False.elim (by simpa only [wX6_look_L177] using hw)
  | succ n ih =>
    intro v3 μ hw
    unfold wX6_look_L177 at hw
    refine cl_iload_n hG (hx_dq tdX6_look_3 11 rfl) rfl (cl_iconst hG 3 (hx_dq tdX6_look_3 12 rfl) iconst_3 (cl_icmp_gt hG 220 (hx_dq tdX6_look_3 13 rfl) rfl (fun c179 => ?_) (fun c179 => ?_)))
    · replace hw := hw.1 c179
      exact cl_vret hG (hx_dq tdX6_look_4 4 rfl) rfl (hK _ hw) (Nat.le_refl _) (Nat.le_refl _)
    · replace hw := hw.2 c179
      obtain ⟨i192_30, hw⟩ := hw
      refine cl_aload_n hG (hx_dq tdX6_look_3 14 rfl) rfl (cl_getS hG fmX6_30 (hx_dq tdX6_look_3 15 rfl) (cF_S21 hF) (cF_R21_4 hF) (cl_iload_n hG (hx_dq tdX6_look_3 16 rfl) rfl (cl_aload_n hG (hx_dq tdX6_look_3 17 rfl) rfl (cl_getS hG fmX6_27 (hx_dq tdX6_look_3 18 rfl) (cF_S21 hF) (cF_R21_3 hF) (cl_iload_n hG (hx_dq tdX6_look_3 19 rfl) rfl (cl_iald hG (hx_dq tdX6_look_3 20 rfl) (cF_S23 hF) i192_30 (cl_if_ne hG 200 (hx_dq tdX6_look_3 21 rfl) rfl (fun c193 => ?_) (fun c193 => ?_))))))))
      · replace hw := hw.1 c193
        obtain ⟨i205_31, hw⟩ := hw
        obtain ⟨i211_32, hw⟩ := hw
        obtain ⟨o212, hw⟩ := hw
        refine cl_aload_n hG (hx_dq tdX6_look_3 24 rfl) rfl (cl_getS hG fmX6_30 (hx_dq tdX6_look_3 25 rfl) (cF_S21 hF) (cF_R21_4 hF) (cl_iload_n hG (hx_dq tdX6_look_3 26 rfl) rfl (cl_iald hG (hx_dq tdX6_look_3 27 rfl) (cF_S24 hF) i205_31 (cl_aload_n hG (hx_dq tdX6_look_3 28 rfl) rfl (cl_getS hG fmX6_27 (hx_dq tdX6_look_3 29 rfl) (cF_S21 hF) (cF_R21_3 hF) (cl_iload_n hG (hx_dq tdX6_look_3 30 rfl) rfl (cl_iald hG (hx_dq tdX6_look_3 31 rfl) (cF_S23 hF) i211_32 (cl_idiv hG (hx_dq tdX6_look_4 0 rfl) o212 (cl_nmI (fun x_33 e_33 => ?_))))))))))
        replace hw := hw x_33 e_33
        exact cl_sub hG (hx_le_c rfl (hx_le_n (hx_le_n (hx_le_c rfl (hx_le_n (hx_le_n hx_le_0)))))) (kX6_look_J213 hG cA hF v3 v3 x_33 hK (fun z0 z1 hw => ih z0 z1 hw) hw)
      · replace hw := hw.2 c193
        refine cl_iconst hG (-1) (hx_dq tdX6_look_3 22 rfl) iconst_m1 (cl_goto hG 213 (hx_dq tdX6_look_3 23 rfl) rfl ?_)
        exact cl_sub hG (hx_le_c rfl (hx_le_n (hx_le_n (hx_le_c rfl (hx_le_n (hx_le_n hx_le_0)))))) (kX6_look_J213 hG cA hF v3 v3 (-1) hK (fun z0 z1 hw => ih z0 z1 hw) hw)
def wX6_look (Λ : hx_L) (μ : hx_M) (v1 : Int32) (v2 : Int32) (K : hx_M → Prop) : Prop := wJ7_fill_53178 Λ μ 23 0 (fun m5_1 => wJ7_fill_53178 Λ m5_1 24 0 (fun m13_3 => ∃ n18_36, wX6_look_L18 Λ v1 v2 K (fun m_17 => vp_in 0 4 ∧ vp_in 1 4 ∧ ∀ x_20 : Int32, x_20 = (((m_17.1 24 ((0 : Int32).toNatClampNeg))) + ((m_17.1 24 ((1 : Int32).toNatClampNeg)))) → vp_in 2 4 ∧ ∀ x_22 : Int32, x_22 = (x_20 + ((m_17.1 24 ((2 : Int32).toNatClampNeg)))) → vp_in 3 4 ∧ vp_in 0 4 ∧ vp_in 1 4 ∧ ∀ x_26 : Int32, x_26 = (((m_17.1 23 ((0 : Int32).toNatClampNeg))) + ((m_17.1 23 ((1 : Int32).toNatClampNeg)))) → vp_in 2 4 ∧ ∀ x_28 : Int32, x_28 = (x_26 + ((m_17.1 23 ((2 : Int32).toNatClampNeg)))) → vp_in 3 4 ∧ ∃ n177_35, wX6_look_L177 Λ K n177_35 0 (hx_sI (hx_sI m_17 24 ((3 : Int32).toNatClampNeg) x_22) 23 ((3 : Int32).toNatClampNeg) x_28)) n18_36 0 m13_3))
set_option maxRecDepth 100000 in
set_option maxHeartbeats 4000000 in
theorem kX6_look {G : hx_GT} {KK : hx_KT} (hG : hx_K cX6_look 6 0 0 (none) TbX6 KK G) (cA : hx_CA RX6 cX6_look 2 0 0 G) {Λ : hx_L} (hF : cF Λ) {μ : hx_M} (v1 : Int32) (v2 : Int32) {K : hx_M → Prop} (hK : ∀ (m : hx_M), K m → KK none Λ m) (hw : wX6_look Λ μ v1 v2 K) : G Λ μ (0, 0) 0 [some (.ref 21), some (.int v1), some (.int v2), none, none, none] [] := by
  unfold wX6_look at hw
  refine cl_aload_n hG (hx_dq tdX6_look_0 0 rfl) rfl (cl_getS hG fmX6_27 (hx_dq tdX6_look_0 1 rfl) (cF_S21 hF) (cF_R21_3 hF) (cl_iconst hG 0 (hx_dq tdX6_look_0 2 rfl) iconst_0 (cl_callS2 (caX6_look_67 cA) (hx_dq tdX6_look_0 3 rfl) (Nat.le_of_ble_eq_true rfl) (Nat.le_refl _) (Nat.le_refl _) (sJ7_fill_53178_mk hw (fun m5_1 hw => ?_)))))
  refine cl_aload_n hG (hx_dq tdX6_look_0 4 rfl) rfl (cl_getS hG fmX6_30 (hx_dq tdX6_look_0 5 rfl) (cF_S21 hF) (cF_R21_4 hF) (cl_iconst hG 0 (hx_dq tdX6_look_0 6 rfl) iconst_0 (cl_callS2 (caX6_look_67 cA) (hx_dq tdX6_look_0 7 rfl) (Nat.le_of_ble_eq_true rfl) (Nat.le_refl _) (Nat.le_refl _) (sJ7_fill_53178_mk hw (fun m13_3 hw => ?_)))))
  refine cl_iconst hG 0 (hx_dq tdX6_look_0 8 rfl) iconst_0 (cl_istore_n hG (hx_dq tdX6_look_0 9 rfl) (Nat.le_of_ble_eq_true rfl) rfl ?_)
  obtain ⟨n_, hw⟩ := hw
  refine cl_sub hG (hx_le_c rfl (hx_le_c rfl (hx_le_c rfl (hx_le_c rfl (hx_le_n (hx_le_n hx_le_0)))))) (kX6_look_L18 hG cA hF v1 v2 hK (fun m_17 hw => ?_) n_ 0 _ hw)
  · obtain ⟨i133_18, hw⟩ := hw
    obtain ⟨i139_19, hw⟩ := hw
    refine cl_aload_n hG (hx_dq tdX6_look_2 5 rfl) rfl (cl_getS hG fmX6_30 (hx_dq tdX6_look_2 6 rfl) (cF_S21 hF) (cF_R21_4 hF) (cl_iconst hG 3 (hx_dq tdX6_look_2 7 rfl) iconst_3 (cl_aload_n hG (hx_dq tdX6_look_2 8 rfl) rfl (cl_getS hG fmX6_30 (hx_dq tdX6_look_2 9 rfl) (cF_S21 hF) (cF_R21_4 hF) (cl_iconst hG 0 (hx_dq tdX6_look_2 10 rfl) iconst_0 (cl_iald hG (hx_dq tdX6_look_2 11 rfl) (cF_S24 hF) i133_18 (cl_aload_n hG (hx_dq tdX6_look_2 12 rfl) rfl (cl_getS hG fmX6_30 (hx_dq tdX6_look_2 13 rfl) (cF_S21 hF) (cF_R21_4 hF) (cl_iconst hG 1 (hx_dq tdX6_look_2 14 rfl) iconst_1 (cl_iald hG (hx_dq tdX6_look_2 15 rfl) (cF_S24 hF) i139_19 (cl_iadd hG (hx_dq tdX6_look_2 16 rfl) (cl_nmI (fun x_20 e_20 => ?_)))))))))))))
    replace hw := hw x_20 e_20
    obtain ⟨i146_21, hw⟩ := hw
    refine cl_aload_n hG (hx_dq tdX6_look_2 17 rfl) rfl (cl_getS hG fmX6_30 (hx_dq tdX6_look_2 18 rfl) (cF_S21 hF) (cF_R21_4 hF) (cl_iconst hG 2 (hx_dq tdX6_look_2 19 rfl) iconst_2 (cl_iald hG (hx_dq tdX6_look_2 20 rfl) (cF_S24 hF) i146_21 (cl_iadd hG (hx_dq tdX6_look_2 21 rfl) (cl_nmI (fun x_22 e_22 => ?_))))))
    replace hw := hw x_22 e_22
    obtain ⟨i148_23, hw⟩ := hw
    obtain ⟨i159_24, hw⟩ := hw
    obtain ⟨i165_25, hw⟩ := hw
    refine cl_iast hG (hx_dq tdX6_look_2 22 rfl) (cF_S24 hF) i148_23 (cl_aload_n hG (hx_dq tdX6_look_2 23 rfl) rfl (cl_getS hG fmX6_27 (hx_dq tdX6_look_2 24 rfl) (cF_S21 hF) (cF_R21_3 hF) (cl_iconst hG 3 (hx_dq tdX6_look_2 25 rfl) iconst_3 (cl_aload_n hG (hx_dq tdX6_look_2 26 rfl) rfl (cl_getS hG fmX6_27 (hx_dq tdX6_look_2 27 rfl) (cF_S21 hF) (cF_R21_3 hF) (cl_iconst hG 0 (hx_dq tdX6_look_2 28 rfl) iconst_0 (cl_iald hG (hx_dq tdX6_look_2 29 rfl) (cF_S23 hF) i159_24 (cl_aload_n hG (hx_dq tdX6_look_2 30 rfl) rfl (cl_getS hG fmX6_27 (hx_dq tdX6_look_2 31 rfl) (cF_S21 hF) (cF_R21_3 hF) (cl_iconst hG 1 (hx_dq tdX6_look_3 0 rfl) iconst_1 (cl_iald hG (hx_dq tdX6_look_3 1 rfl) (cF_S23 hF) i165_25 (cl_iadd hG (hx_dq tdX6_look_3 2 rfl) (cl_nmI (fun x_26 e_26 => ?_))))))))))))))
    replace hw := hw x_26 e_26
    obtain ⟨i172_27, hw⟩ := hw
    refine cl_aload_n hG (hx_dq tdX6_look_3 3 rfl) rfl (cl_getS hG fmX6_27 (hx_dq tdX6_look_3 4 rfl) (cF_S21 hF) (cF_R21_3 hF) (cl_iconst hG 2 (hx_dq tdX6_look_3 5 rfl) iconst_2 (cl_iald hG (hx_dq tdX6_look_3 6 rfl) (cF_S23 hF) i172_27 (cl_iadd hG (hx_dq tdX6_look_3 7 rfl) (cl_nmI (fun x_28 e_28 => ?_))))))
    replace hw := hw x_28 e_28
    obtain ⟨i174_29, hw⟩ := hw
    refine cl_iast hG (hx_dq tdX6_look_3 8 rfl) (cF_S23 hF) i174_29 (cl_iconst hG 0 (hx_dq tdX6_look_3 9 rfl) iconst_0 (cl_istore_n hG (hx_dq tdX6_look_3 10 rfl) (Nat.le_of_ble_eq_true rfl) rfl ?_))
    obtain ⟨n_, hw⟩ := hw
    refine cl_sub hG (hx_le_c rfl (hx_le_n (hx_le_n (hx_le_c rfl (hx_le_n (hx_le_n hx_le_0)))))) (kX6_look_L177 hG cA hF hK n_ 0 _ hw)
def sX6_look : hx_ST := fun Λ μ as KK => cF Λ ∧ ∃ (v1 : Int32) (v2 : Int32) (K : hx_M → Prop), as = [.ref 21, .int v1, .int v2] ∧ wX6_look Λ μ v1 v2 K ∧ (∀ (m : hx_M), K m → KK none Λ m)
theorem sX6_look_mk {Λ : hx_L} {μ : hx_M} {KK : hx_KT} {v1 : Int32} {v2 : Int32} {K : hx_M → Prop} (hF : cF Λ) (hw : wX6_look Λ μ v1 v2 K) (hk : ∀ (m : hx_M), K m → KK none Λ m) : sX6_look Λ μ [.ref 21, .int v1, .int v2] KK := ⟨hF, _, _, _, rfl, hw, hk⟩
theorem conX6_look : hx_Con yX6_look cX6_look 6 (none) 2 0 0 sX6_look := by
  refine hx_con_of (by decide +kernel) tokX6 (by decide) ?_ ?_
  · intro Λ μ as KK h
    obtain ⟨hF, v1, v2, K, rfl, hw, hK⟩ := h
    exact Nat.le_of_ble_eq_true rfl
  · intro G KK hG cA Λ μ as h
    obtain ⟨hF, v1, v2, K, rfl, hw, hK⟩ := h
    exact cl_sub hG (hx_le_c rfl (hx_le_c rfl (hx_le_c rfl (hx_le_n (hx_le_n (hx_le_n hx_le_0)))))) (kX6_look hG cA hF _ _ hK hw)
/-! HemLine$Chronicle.isLed(III)Z -/
def tbX0_isLed_0 : List (Nat × Instr × Nat) := [(0, .aload_n 0, 1), (1, .getfield 9, 3), (4, .getfield 35, 3), (7, .iload_n 1, 1), (8, .iload_n 2, 1), (9, .iconst 1, 1), (10, .isub, 1), (11, .invokevirtual 39, 3), (14, .aload_n 0, 1), (15, .getfield 9, 3), (18, .getfield 35, 3), (21, .getfield 45, 3), (24, .iload_n 3, 1), (25, .iaload, 1), (26, .istore 4, 2), (28, .iload 4, 2), (30, .iconst (-1), 1), (31, .if_icmp .ne 5, 3), (34, .iconst 0, 1), (35, .ireturn, 1), (36, .aload_n 0, 1), (37, .getfield 9, 3), (40, .getfield 21, 3), (43, .iload_n 1, 1), (44, .iload_n 2, 1), (45, .iconst 1, 1), (46, .isub, 1), (47, .invokevirtual 25, 3), (50, .iload 4, 2), (52, .isub, 1), (53, .invokestatic 49, 3), (56, .istore 5, 2)]
def tbX0_isLed_1 : List (Nat × Instr × Nat) := [(58, .aload_n 0, 1), (59, .getfield 9, 3), (62, .getfield 21, 3), (65, .iload_n 1, 1), (66, .iload_n 2, 1), (67, .invokevirtual 25, 3), (70, .iload 4, 2), (72, .isub, 1), (73, .invokestatic 49, 3), (76, .istore 6, 2), (78, .iload_n 3, 1), (79, .iconst 1, 1), (80, .if_icmp .ne 18, 3), (83, .iload 6, 2), (85, .iload 5, 2), (87, .if_icmp .le 7, 3), (90, .iconst 1, 1), (91, .goto 19, 3), (94, .iconst 0, 1), (95, .goto 15, 3), (98, .iload 6, 2), (100, .iload 5, 2), (102, .if_icmp .ge 7, 3), (105, .iconst 1, 1), (106, .goto 4, 3), (109, .iconst 0, 1), (110, .ireturn, 1)]
theorem tdX0_isLed_0 : hx_dt cX0_isLed tbX0_isLed_0 = true := by decide +kernel
theorem tdX0_isLed_1 : hx_dt cX0_isLed tbX0_isLed_1 = true := by decide +kernel
theorem caX0_isLed_25 {G : hx_GT} (cA : hx_CA RX0 cX0_isLed 3 0 0 G) : hx_CV cX0_isLed G 0 0 25 3 2 sX3_lengthOf 0 0 := cA.1 conX3_lengthOf rfl rfl ⟨by decide +kernel, by decide +kernel, by decide +kernel⟩ mw_848 mw_717 mw_718 mw_88 mw_719 (by decide) (by decide)
theorem caX0_isLed_39 {G : hx_GT} (cA : hx_CA RX0 cX0_isLed 3 0 0 G) : hx_CV cX0_isLed G 0 0 39 6 2 sX6_look 0 0 := cA.1 conX6_look rfl rfl ⟨by decide +kernel, by decide +kernel, by decide +kernel⟩ mw_853 mw_726 mw_727 mw_91 mw_728 (by decide) (by decide)
def wX0_isLed (Λ : hx_L) (μ : hx_M) (v1 : Int32) (v2 : Int32) (v3 : Int32) (K : Int32 → hx_M → Prop) : Prop := wX6_look Λ μ v1 (v2 - 1) (fun m11_1 => vp_in v3 4 ∧ ((m11_1.1 24 v3.toNatClampNeg) ≠ (-1) → (wX3_lengthOf m11_1 v1 (v2 - 1) (fun r47_5 => ∀ x_6 : Int32, x_6 = (if 0 ≤ (r47_5 - (m11_1.1 24 v3.toNatClampNeg)) then (r47_5 - (m11_1.1 24 v3.toNatClampNeg)) else 0 - (r47_5 - (m11_1.1 24 v3.toNatClampNeg))) → wX3_lengthOf m11_1 v1 v2 (fun r67_8 => ∀ x_9 : Int32, x_9 = (if 0 ≤ (r67_8 - (m11_1.1 24 v3.toNatClampNeg)) then (r67_8 - (m11_1.1 24 v3.toNatClampNeg)) else 0 - (r67_8 - (m11_1.1 24 v3.toNatClampNeg))) → (v3 ≠ 1 → ((x_6 ≤ x_9 → (K 0 m11_1)) ∧ (¬ (x_6 ≤ x_9) → (K 1 m11_1)))) ∧ (v3 = 1 → ((x_9 ≤ x_6 → (K 0 m11_1)) ∧ (¬ (x_9 ≤ x_6) → (K 1 m11_1)))))))) ∧ ((m11_1.1 24 v3.toNatClampNeg) = (-1) → (K 0 m11_1)))
set_option maxRecDepth 100000 in
set_option maxHeartbeats 4000000 in
theorem kX0_isLed {G : hx_GT} {KK : hx_KT} (hG : hx_K cX0_isLed 7 0 0 (some .boolean) TbX0 KK G) (cA : hx_CA RX0 cX0_isLed 3 0 0 G) {Λ : hx_L} (hF : cF Λ) {μ : hx_M} (v1 : Int32) (v2 : Int32) (v3 : Int32) {K : Int32 → hx_M → Prop} (hK : ∀ (r : Int32) (m : hx_M), K r m → KK (some (.int r)) Λ m) (hw : wX0_isLed Λ μ v1 v2 v3 K) : G Λ μ (0, 0) 0 [some (.ref 36), some (.int v1), some (.int v2), some (.int v3), none, none, none] [] := by
  unfold wX0_isLed at hw
  refine cl_aload_n hG (hx_dq tdX0_isLed_0 0 rfl) rfl (cl_getS hG fmX0_9 (hx_dq tdX0_isLed_0 1 rfl) (cF_S36 hF) (cF_R36_0 hF) (cl_getS hG fmX0_35 (hx_dq tdX0_isLed_0 2 rfl) (cF_S7 hF) (cF_R7_2 hF) (cl_iload_n hG (hx_dq tdX0_isLed_0 3 rfl) rfl (cl_iload_n hG (hx_dq tdX0_isLed_0 4 rfl) rfl (cl_iconst hG 1 (hx_dq tdX0_isLed_0 5 rfl) iconst_1 (cl_isub hG (hx_dq tdX0_isLed_0 6 rfl) (cl_callV2 (caX0_isLed_39 cA) (hx_dq tdX0_isLed_0 7 rfl) (cF_S21 hF) (Nat.le_of_ble_eq_true rfl) (Nat.le_refl _) (Nat.le_refl _) (sX6_look_mk hF hw (fun m11_1 hw => ?_)))))))))
  obtain ⟨i25_3, hw⟩ := hw
  refine cl_aload_n hG (hx_dq tdX0_isLed_0 8 rfl) rfl (cl_getS hG fmX0_9 (hx_dq tdX0_isLed_0 9 rfl) (cF_S36 hF) (cF_R36_0 hF) (cl_getS hG fmX0_35 (hx_dq tdX0_isLed_0 10 rfl) (cF_S7 hF) (cF_R7_2 hF) (cl_getS hG fmX0_45 (hx_dq tdX0_isLed_0 11 rfl) (cF_S21 hF) (cF_R21_4 hF) (cl_iload_n hG (hx_dq tdX0_isLed_0 12 rfl) rfl (cl_iald hG (hx_dq tdX0_isLed_0 13 rfl) (cF_S24 hF) i25_3 (cl_istore hG (hx_dq tdX0_isLed_0 14 rfl) (Nat.le_of_ble_eq_true rfl) rfl (cl_iload hG (hx_dq tdX0_isLed_0 15 rfl) rfl (cl_iconst hG (-1) (hx_dq tdX0_isLed_0 16 rfl) iconst_m1 (cl_icmp_ne hG 36 (hx_dq tdX0_isLed_0 17 rfl) rfl (fun c31 => ?_) (fun c31 => ?_))))))))))
  · replace hw := hw.1 c31
    refine cl_aload_n hG (hx_dq tdX0_isLed_0 20 rfl) rfl (cl_getS hG fmX0_9 (hx_dq tdX0_isLed_0 21 rfl) (cF_S36 hF) (cF_R36_0 hF) (cl_getS hG fmX0_21 (hx_dq tdX0_isLed_0 22 rfl) (cF_S7 hF) (cF_R7_1 hF) (cl_iload_n hG (hx_dq tdX0_isLed_0 23 rfl) rfl (cl_iload_n hG (hx_dq tdX0_isLed_0 24 rfl) rfl (cl_iconst hG 1 (hx_dq tdX0_isLed_0 25 rfl) iconst_1 (cl_isub hG (hx_dq tdX0_isLed_0 26 rfl) (cl_callV2 (caX0_isLed_25 cA) (hx_dq tdX0_isLed_0 27 rfl) (cF_S15 hF) (Nat.le_of_ble_eq_true rfl) (Nat.le_refl _) (Nat.le_refl _) (sX3_lengthOf_mk hF hw (fun r47_5 hw => ?_)))))))))
    refine cl_iload hG (hx_dq tdX0_isLed_0 28 rfl) rfl (cl_isub hG (hx_dq tdX0_isLed_0 29 rfl) (cl_mabs hG mmX0_49 (hx_dq tdX0_isLed_0 30 rfl) (Nat.le_refl _) (Nat.le_refl _) (Nat.le_of_ble_eq_true rfl) (cl_nmI (fun x_6 e_6 => ?_))))
    replace hw := hw x_6 e_6
    refine cl_istore hG (hx_dq tdX0_isLed_0 31 rfl) (Nat.le_of_ble_eq_true rfl) rfl (cl_aload_n hG (hx_dq tdX0_isLed_1 0 rfl) rfl (cl_getS hG fmX0_9 (hx_dq tdX0_isLed_1 1 rfl) (cF_S36 hF) (cF_R36_0 hF) (cl_getS hG fmX0_21 (hx_dq tdX0_isLed_1 2 rfl) (cF_S7 hF) (cF_R7_1 hF) (cl_iload_n hG (hx_dq tdX0_isLed_1 3 rfl) rfl (cl_iload_n hG (hx_dq tdX0_isLed_1 4 rfl) rfl (cl_callV2 (caX0_isLed_25 cA) (hx_dq tdX0_isLed_1 5 rfl) (cF_S15 hF) (Nat.le_of_ble_eq_true rfl) (Nat.le_refl _) (Nat.le_refl _) (sX3_lengthOf_mk hF hw (fun r67_8 hw => ?_))))))))
    refine cl_iload hG (hx_dq tdX0_isLed_1 6 rfl) rfl (cl_isub hG (hx_dq tdX0_isLed_1 7 rfl) (cl_mabs hG mmX0_49 (hx_dq tdX0_isLed_1 8 rfl) (Nat.le_refl _) (Nat.le_refl _) (Nat.le_of_ble_eq_true rfl) (cl_nmI (fun x_9 e_9 => ?_))))
    replace hw := hw x_9 e_9
    refine cl_istore hG (hx_dq tdX0_isLed_1 9 rfl) (Nat.le_of_ble_eq_true rfl) rfl (cl_iload_n hG (hx_dq tdX0_isLed_1 10 rfl) rfl (cl_iconst hG 1 (hx_dq tdX0_isLed_1 11 rfl) iconst_1 (cl_icmp_ne hG 98 (hx_dq tdX0_isLed_1 12 rfl) rfl (fun c80 => ?_) (fun c80 => ?_))))
    · replace hw := hw.1 c80
      refine cl_iload hG (hx_dq tdX0_isLed_1 20 rfl) rfl (cl_iload hG (hx_dq tdX0_isLed_1 21 rfl) rfl (cl_icmp_ge hG 109 (hx_dq tdX0_isLed_1 22 rfl) rfl (fun c102 => ?_) (fun c102 => ?_)))
      · replace hw := hw.1 c102
        exact cl_iconst hG 0 (hx_dq tdX0_isLed_1 25 rfl) iconst_0 (cl_iret hG (hx_dq tdX0_isLed_1 26 rfl) rfl rfl (hK _ _ hw) (Nat.le_refl _) (Nat.le_refl _))
      · replace hw := hw.2 c102
        exact cl_iconst hG 1 (hx_dq tdX0_isLed_1 23 rfl) iconst_1 (cl_goto hG 110 (hx_dq tdX0_isLed_1 24 rfl) rfl (cl_iret hG (hx_dq tdX0_isLed_1 26 rfl) rfl rfl (hK _ _ hw) (Nat.le_refl _) (Nat.le_refl _)))
    · replace hw := hw.2 c80
      refine cl_iload hG (hx_dq tdX0_isLed_1 13 rfl) rfl (cl_iload hG (hx_dq tdX0_isLed_1 14 rfl) rfl (cl_icmp_le hG 94 (hx_dq tdX0_isLed_1 15 rfl) rfl (fun c87 => ?_) (fun c87 => ?_)))
      · replace hw := hw.1 c87
        exact cl_iconst hG 0 (hx_dq tdX0_isLed_1 18 rfl) iconst_0 (cl_goto hG 110 (hx_dq tdX0_isLed_1 19 rfl) rfl (cl_iret hG (hx_dq tdX0_isLed_1 26 rfl) rfl rfl (hK _ _ hw) (Nat.le_refl _) (Nat.le_refl _)))
      · replace hw := hw.2 c87
        exact cl_iconst hG 1 (hx_dq tdX0_isLed_1 16 rfl) iconst_1 (cl_goto hG 110 (hx_dq tdX0_isLed_1 17 rfl) rfl (cl_iret hG (hx_dq tdX0_isLed_1 26 rfl) rfl rfl (hK _ _ hw) (Nat.le_refl _) (Nat.le_refl _)))
  · replace hw := hw.2 c31
    exact cl_iconst hG 0 (hx_dq tdX0_isLed_0 18 rfl) iconst_0 (cl_iret hG (hx_dq tdX0_isLed_0 19 rfl) rfl rfl (hK _ _ hw) (Nat.le_refl _) (Nat.le_refl _))
def sX0_isLed : hx_ST := fun Λ μ as KK => cF Λ ∧ ∃ (v1 : Int32) (v2 : Int32) (v3 : Int32) (K : Int32 → hx_M → Prop), as = [.ref 36, .int v1, .int v2, .int v3] ∧ wX0_isLed Λ μ v1 v2 v3 K ∧ (∀ (r : Int32) (m : hx_M), K r m → KK (some (.int r)) Λ m)
theorem sX0_isLed_mk {Λ : hx_L} {μ : hx_M} {KK : hx_KT} {v1 : Int32} {v2 : Int32} {v3 : Int32} {K : Int32 → hx_M → Prop} (hF : cF Λ) (hw : wX0_isLed Λ μ v1 v2 v3 K) (hk : ∀ (r : Int32) (m : hx_M), K r m → KK (some (.int r)) Λ m) : sX0_isLed Λ μ [.ref 36, .int v1, .int v2, .int v3] KK := ⟨hF, _, _, _, _, rfl, hw, hk⟩
theorem conX0_isLed : hx_Con yX0_isLed cX0_isLed 7 (some .boolean) 3 0 0 sX0_isLed := by
  refine hx_con_of (by decide +kernel) tokX0 (by decide) ?_ ?_
  · intro Λ μ as KK h
    obtain ⟨hF, v1, v2, v3, K, rfl, hw, hK⟩ := h
    exact Nat.le_of_ble_eq_true rfl
  · intro G KK hG cA Λ μ as h
    obtain ⟨hF, v1, v2, v3, K, rfl, hw, hK⟩ := h
    exact cl_sub hG (hx_le_c rfl (hx_le_c rfl (hx_le_c rfl (hx_le_c rfl (hx_le_n (hx_le_n (hx_le_n hx_le_0))))))) (kX0_isLed hG cA hF _ _ _ hK hw)
/-! HemLine$Chronicle.changesOf(II)I -/
def tbX0_changesOf_0 : List (Nat × Instr × Nat) := [(0, .iconst 0, 1), (1, .istore_n 3, 1), (2, .iconst 1, 1), (3, .istore 4, 2), (5, .iload 4, 2), (7, .aload_n 0, 1), (8, .getfield 9, 3), (11, .getfield 15, 3), (14, .if_icmp .gt 67, 3), (17, .aload_n 0, 1), (18, .getfield 9, 3), (21, .getfield 21, 3), (24, .iload_n 1, 1), (25, .iload 4, 2), (27, .iconst 1, 1), (28, .isub, 1), (29, .invokevirtual 25, 3), (32, .istore 5, 2), (34, .aload_n 0, 1), (35, .getfield 9, 3), (38, .getfield 21, 3), (41, .iload_n 1, 1), (42, .iload 4, 2), (44, .invokevirtual 25, 3), (47, .istore 6, 2), (49, .iload 6, 2), (51, .iload 5, 2), (53, .if_icmp .eq 22, 3), (56, .iload_n 2, 1), (57, .iconst 3, 1), (58, .if_icmp .eq 14, 3), (61, .aload_n 0, 1)]
def tbX0_changesOf_1 : List (Nat × Instr × Nat) := [(62, .iload_n 1, 1), (63, .iload 4, 2), (65, .iload_n 2, 1), (66, .invokevirtual 31, 3), (69, .ifCond .eq 6, 3), (72, .iinc 3 1, 3), (75, .iinc 4 1, 3), (78, .goto (-73), 3), (81, .iload_n 3, 1), (82, .ireturn, 1)]
theorem tdX0_changesOf_0 : hx_dt cX0_changesOf tbX0_changesOf_0 = true := by decide +kernel
theorem tdX0_changesOf_1 : hx_dt cX0_changesOf tbX0_changesOf_1 = true := by decide +kernel
theorem caX0_changesOf_25 {G : hx_GT} (cA : hx_CA RX0 cX0_changesOf 4 0 0 G) : hx_CV cX0_changesOf G 0 0 25 3 2 sX3_lengthOf 0 0 := cA.1 conX3_lengthOf rfl rfl ⟨by decide +kernel, by decide +kernel, by decide +kernel⟩ mw_848 mw_717 mw_718 mw_88 mw_719 (by decide) (by decide)
theorem caX0_changesOf_31 {G : hx_GT} (cA : hx_CA RX0 cX0_changesOf 4 0 0 G) : hx_CV cX0_changesOf G 0 0 31 0 3 sX0_isLed 0 0 := cA.1 conX0_isLed rfl rfl ⟨by decide +kernel, by decide +kernel, by decide +kernel⟩ mw_849 mw_851 mw_23 mw_93 mw_852 (by decide) (by decide)
def wX0_changesOf_J75 (Λ : hx_L) (K : Int32 → hx_M → Prop) (K5 : Int32 → Int32 → hx_M → Prop) (v1 : Int32) (v2 : Int32) (v3 : Int32) (v4 : Int32)  (μ : hx_M) : Prop := K5 v3 (v4 + 1) μ
set_option maxRecDepth 100000 in
set_option maxHeartbeats 4000000 in
theorem kX0_changesOf_J75 {G : hx_GT} {KK : hx_KT} (hG : hx_K cX0_changesOf 7 0 0 (some .int) TbX0 KK G) (cA : hx_CA RX0 cX0_changesOf 4 0 0 G) {Λ : hx_L} (hF : cF Λ) {μ : hx_M} (v1 : Int32) (v2 : Int32) (v3 : Int32) (v4 : Int32)  {K : Int32 → hx_M → Prop} (hK : ∀ (r : Int32) (m : hx_M), K r m → KK (some (.int r)) Λ m) {K5 : Int32 → Int32 → hx_M → Prop} (hk5 : ∀ (v3 : Int32) (v4 : Int32) (μ : hx_M), K5 v3 v4 μ → G Λ μ (0, 0) 5 [some (.ref 36), some (.int v1), some (.int v2), some (.int v3), some (.int v4), none, none] []) (hw : wX0_changesOf_J75 Λ K K5 v1 v2 v3 v4 μ) : G Λ μ (0, 0) 75 [some (.ref 36), some (.int v1), some (.int v2), some (.int v3), some (.int v4), none, none] [] := by
  unfold wX0_changesOf_J75 at hw
  exact cl_iinc hG (v4 + 1) (hx_dq tdX0_changesOf_1 6 rfl) rfl (congrArg (fun z => v4 + z) iconst_1) (Nat.le_of_ble_eq_true rfl) rfl (cl_goto hG 5 (hx_dq tdX0_changesOf_1 7 rfl) rfl (cl_sub hG (hx_le_c rfl (hx_le_c rfl (hx_le_c rfl (hx_le_c rfl (hx_le_c rfl (hx_le_n (hx_le_n hx_le_0))))))) (hk5 v3 (v4 + 1) _ hw)))
def wX0_changesOf_J75_5 (Λ : hx_L) (K : Int32 → hx_M → Prop) (K5 : Int32 → Int32 → hx_M → Prop) (v1 : Int32) (v2 : Int32) (v3 : Int32) (v4 : Int32)  (μ : hx_M) : Prop := K5 v3 (v4 + 1) μ
set_option maxRecDepth 100000 in
set_option maxHeartbeats 4000000 in
theorem kX0_changesOf_J75_5 {G : hx_GT} {KK : hx_KT} (hG : hx_K cX0_changesOf 7 0 0 (some .int) TbX0 KK G) (cA : hx_CA RX0 cX0_changesOf 4 0 0 G) {Λ : hx_L} (hF : cF Λ) {μ : hx_M} (v1 : Int32) (v2 : Int32) (v3 : Int32) (v4 : Int32)  {K : Int32 → hx_M → Prop} (hK : ∀ (r : Int32) (m : hx_M), K r m → KK (some (.int r)) Λ m) {K5 : Int32 → Int32 → hx_M → Prop} (hk5 : ∀ (v3 : Int32) (v4 : Int32) (μ : hx_M), K5 v3 v4 μ → G Λ μ (0, 0) 5 [some (.ref 36), some (.int v1), some (.int v2), some (.int v3), some (.int v4), none, none] []) (hw : wX0_changesOf_J75_5 Λ K K5 v1 v2 v3 v4 μ) : G Λ μ (0, 0) 75 [some (.ref 36), some (.int v1), some (.int v2), some (.int v3), some (.int v4), none, none] [] := by
  unfold wX0_changesOf_J75_5 at hw
  exact cl_iinc hG (v4 + 1) (hx_dq tdX0_changesOf_1 6 rfl) rfl (congrArg (fun z => v4 + z) iconst_1) (Nat.le_of_ble_eq_true rfl) rfl (cl_goto hG 5 (hx_dq tdX0_changesOf_1 7 rfl) rfl (cl_sub hG (hx_le_c rfl (hx_le_c rfl (hx_le_c rfl (hx_le_c rfl (hx_le_c rfl (hx_le_n (hx_le_n hx_le_0))))))) (hk5 v3 (v4 + 1) _ hw)))
def wX0_changesOf_J72 (Λ : hx_L) (K : Int32 → hx_M → Prop) (K5 : Int32 → Int32 → hx_M → Prop) (v1 : Int32) (v2 : Int32) (v3 : Int32) (v4 : Int32)  (μ : hx_M) : Prop := wX0_changesOf_J75_5 Λ K (K5) v1 v2 (v3 + 1) v4 μ
set_option maxRecDepth 100000 in
set_option maxHeartbeats 4000000 in
theorem kX0_changesOf_J72 {G : hx_GT} {KK : hx_KT} (hG : hx_K cX0_changesOf 7 0 0 (some .int) TbX0 KK G) (cA : hx_CA RX0 cX0_changesOf 4 0 0 G) {Λ : hx_L} (hF : cF Λ) {μ : hx_M} (v1 : Int32) (v2 : Int32) (v3 : Int32) (v4 : Int32)  {K : Int32 → hx_M → Prop} (hK : ∀ (r : Int32) (m : hx_M), K r m → KK (some (.int r)) Λ m) {K5 : Int32 → Int32 → hx_M → Prop} (hk5 : ∀ (v3 : Int32) (v4 : Int32) (μ : hx_M), K5 v3 v4 μ → G Λ μ (0, 0) 5 [some (.ref 36), some (.int v1), some (.int v2), some (.int v3), some (.int v4), none, none] []) (hw : wX0_changesOf_J72 Λ K K5 v1 v2 v3 v4 μ) : G Λ μ (0, 0) 72 [some (.ref 36), some (.int v1), some (.int v2), some (.int v3), some (.int v4), none, none] [] := by
  unfold wX0_changesOf_J72 at hw
  refine cl_iinc hG (v3 + 1) (hx_dq tdX0_changesOf_1 5 rfl) rfl (congrArg (fun z => v3 + z) iconst_1) (Nat.le_of_ble_eq_true rfl) rfl ?_
  exact cl_sub hG (hx_le_c rfl (hx_le_c rfl (hx_le_c rfl (hx_le_c rfl (hx_le_c rfl (hx_le_n (hx_le_n hx_le_0))))))) (kX0_changesOf_J75_5 hG cA hF v1 v2 (v3 + 1) v4 hK (fun z0 z1 z2 hw => hk5 z0 z1 z2 hw) hw)
def wX0_changesOf_L5 (Λ : hx_L) (v1 : Int32) (v2 : Int32) (K : Int32 → hx_M → Prop)  : Nat → Int32 → Int32 → hx_M → Prop
  | 0, _, _, _ => False
  | n + 1, v3, v4, μ => ((μ.1 7 7) < v4 → (K v3 μ)) ∧ (¬ ((μ.1 7 7) < v4) → (wX3_lengthOf μ v1 (v4 - 1) (fun r29_2 => wX3_lengthOf μ v1 v4 (fun r44_4 => (r44_4 = r29_2 → (wX0_changesOf_J75 Λ K (wX0_changesOf_L5 Λ v1 v2 K n) v1 v2 v3 v4 μ)) ∧ (¬ (r44_4 = r29_2) → ((v2 = 3 → (wX0_changesOf_J72 Λ K (wX0_changesOf_L5 Λ v1 v2 K n) v1 v2 v3 v4 μ)) ∧ (¬ (v2 = 3) → (wX0_isLed Λ μ v1 v4 v2 (fun r66_7 m66_6 => (r66_7 = 0 → (wX0_changesOf_J75 Λ K (wX0_changesOf_L5 Λ v1 v2 K n) v1 v2 v3 v4 m66_6)) ∧ (¬ (r66_7 = 0) → (wX0_changesOf_J72 Λ K (wX0_changesOf_L5 Λ v1 v2 K n) v1 v2 v3 v4 m66_6)))))))))))
set_option maxRecDepth 100000 in
set_option maxHeartbeats 4000000 in
theorem kX0_changesOf_L5 {G : hx_GT} {KK : hx_KT} (hG : hx_K cX0_changesOf 7 0 0 (some .int) TbX0 KK G) (cA : hx_CA RX0 cX0_changesOf 4 0 0 G) {Λ : hx_L} (hF : cF Λ)  (v1 : Int32) (v2 : Int32) {K : Int32 → hx_M → Prop} (hK : ∀ (r : Int32) (m : hx_M), K r m → KK (some (.int r)) Λ m)  : ∀ (n : Nat) (v3 : Int32) (v4 : Int32) (μ : hx_M), wX0_changesOf_L5 Λ v1 v2 K n v3 v4 μ → G Λ μ (0, 0) 5 [some (.ref 36), some (.int v1), some (.int v2), some (.int v3), some (.int v4), none, none] [] := by
  intro n
  induction n with
  | zero =>
    intro v3 v4 μ hw
    exact False.elim (by simpa only [wX0_changesOf_L5] using hw)
  | succ n ih =>
    intro v3 v4 μ hw
    unfold wX0_changesOf_L5 at hw
    refine cl_iload hG (hx_dq tdX0_changesOf_0 4 rfl) rfl (cl_aload_n hG (hx_dq tdX0_changesOf_0 5 rfl) rfl (cl_getS hG fmX0_9 (hx_dq tdX0_changesOf_0 6 rfl) (cF_S36 hF) (cF_R36_0 hF) (cl_getI hG fmX0_15 (hx_dq tdX0_changesOf_0 7 rfl) (cF_S7 hF) (cl_icmp_gt hG 81 (hx_dq tdX0_changesOf_0 8 rfl) rfl (fun c14 => ?_) (fun c14 => ?_)))))
    · replace hw := hw.1 c14
      exact cl_iload_n hG (hx_dq tdX0_changesOf_1 8 rfl) rfl (cl_iret hG (hx_dq tdX0_changesOf_1 9 rfl) rfl rfl (hK _ _ hw) (Nat.le_refl _) (Nat.le_refl _))
    · replace hw := hw.2 c14
      refine cl_aload_n hG (hx_dq tdX0_changesOf_0 9 rfl) rfl (cl_getS hG fmX0_9 (hx_dq tdX0_changesOf_0 10 rfl) (cF_S36 hF) (cF_R36_0 hF) (cl_getS hG fmX0_21 (hx_dq tdX0_changesOf_0 11 rfl) (cF_S7 hF) (cF_R7_1 hF) (cl_iload_n hG (hx_dq tdX0_changesOf_0 12 rfl) rfl (cl_iload hG (hx_dq tdX0_changesOf_0 13 rfl) rfl (cl_iconst hG 1 (hx_dq tdX0_changesOf_0 14 rfl) iconst_1 (cl_isub hG (hx_dq tdX0_changesOf_0 15 rfl) (cl_callV2 (caX0_changesOf_25 cA) (hx_dq tdX0_changesOf_0 16 rfl) (cF_S15 hF) (Nat.le_of_ble_eq_true rfl) (Nat.le_refl _) (Nat.le_refl _) (sX3_lengthOf_mk hF hw (fun r29_2 hw => ?_)))))))))
      refine cl_istore hG (hx_dq tdX0_changesOf_0 17 rfl) (Nat.le_of_ble_eq_true rfl) rfl (cl_aload_n hG (hx_dq tdX0_changesOf_0 18 rfl) rfl (cl_getS hG fmX0_9 (hx_dq tdX0_changesOf_0 19 rfl) (cF_S36 hF) (cF_R36_0 hF) (cl_getS hG fmX0_21 (hx_dq tdX0_changesOf_0 20 rfl) (cF_S7 hF) (cF_R7_1 hF) (cl_iload_n hG (hx_dq tdX0_changesOf_0 21 rfl) rfl (cl_iload hG (hx_dq tdX0_changesOf_0 22 rfl) rfl (cl_callV2 (caX0_changesOf_25 cA) (hx_dq tdX0_changesOf_0 23 rfl) (cF_S15 hF) (Nat.le_of_ble_eq_true rfl) (Nat.le_refl _) (Nat.le_refl _) (sX3_lengthOf_mk hF hw (fun r44_4 hw => ?_))))))))
      refine cl_istore hG (hx_dq tdX0_changesOf_0 24 rfl) (Nat.le_of_ble_eq_true rfl) rfl (cl_iload hG (hx_dq tdX0_changesOf_0 25 rfl) rfl (cl_iload hG (hx_dq tdX0_changesOf_0 26 rfl) rfl (cl_icmp_eq hG 75 (hx_dq tdX0_changesOf_0 27 rfl) rfl (fun c53 => ?_) (fun c53 => ?_))))
      · replace hw := hw.1 c53
        exact cl_sub hG (hx_le_c rfl (hx_le_c rfl (hx_le_c rfl (hx_le_c rfl (hx_le_c rfl (hx_le_n (hx_le_n hx_le_0))))))) (kX0_changesOf_J75 hG cA hF v1 v2 v3 v4 hK (fun z0 z1 z2 hw => ih z0 z1 z2 hw) hw)
      · replace hw := hw.2 c53
        refine cl_iload_n hG (hx_dq tdX0_changesOf_0 28 rfl) rfl (cl_iconst hG 3 (hx_dq tdX0_changesOf_0 29 rfl) iconst_3 (cl_icmp_eq hG 72 (hx_dq tdX0_changesOf_0 30 rfl) rfl (fun c58 => ?_) (fun c58 => ?_)))
        · replace hw := hw.1 c58
          exact cl_sub hG (hx_le_c rfl (hx_le_c rfl (hx_le_c rfl (hx_le_c rfl (hx_le_c rfl (hx_le_n (hx_le_n hx_le_0))))))) (kX0_changesOf_J72 hG cA hF v1 v2 v3 v4 hK (fun z0 z1 z2 hw => ih z0 z1 z2 hw) hw)
        · replace hw := hw.2 c58
          refine cl_aload_n hG (hx_dq tdX0_changesOf_0 31 rfl) rfl (cl_iload_n hG (hx_dq tdX0_changesOf_1 0 rfl) rfl (cl_iload hG (hx_dq tdX0_changesOf_1 1 rfl) rfl (cl_iload_n hG (hx_dq tdX0_changesOf_1 2 rfl) rfl (cl_callV3 (caX0_changesOf_31 cA) (hx_dq tdX0_changesOf_1 3 rfl) (cF_S36 hF) (Nat.le_of_ble_eq_true rfl) (Nat.le_refl _) (Nat.le_refl _) (sX0_isLed_mk hF hw (fun r66_7 m66_6 hw => ?_))))))
          refine cl_if_eq hG 75 (hx_dq tdX0_changesOf_1 4 rfl) rfl (fun c69 => ?_) (fun c69 => ?_)
          · replace hw := hw.1 c69
            exact cl_sub hG (hx_le_c rfl (hx_le_c rfl (hx_le_c rfl (hx_le_c rfl (hx_le_c rfl (hx_le_n (hx_le_n hx_le_0))))))) (kX0_changesOf_J75 hG cA hF v1 v2 v3 v4 hK (fun z0 z1 z2 hw => ih z0 z1 z2 hw) hw)
          · replace hw := hw.2 c69
            exact cl_sub hG (hx_le_c rfl (hx_le_c rfl (hx_le_c rfl (hx_le_c rfl (hx_le_c rfl (hx_le_n (hx_le_n hx_le_0))))))) (kX0_changesOf_J72 hG cA hF v1 v2 v3 v4 hK (fun z0 z1 z2 hw => ih z0 z1 z2 hw) hw)
def wX0_changesOf (Λ : hx_L) (μ : hx_M) (v1 : Int32) (v2 : Int32) (K : Int32 → hx_M → Prop) : Prop := ∃ n5_8, wX0_changesOf_L5 Λ v1 v2 K n5_8 0 1 μ
set_option maxRecDepth 100000 in
set_option maxHeartbeats 4000000 in
theorem kX0_changesOf {G : hx_GT} {KK : hx_KT} (hG : hx_K cX0_changesOf 7 0 0 (some .int) TbX0 KK G) (cA : hx_CA RX0 cX0_changesOf 4 0 0 G) {Λ : hx_L} (hF : cF Λ) {μ : hx_M} (v1 : Int32) (v2 : Int32) {K : Int32 → hx_M → Prop} (hK : ∀ (r : Int32) (m : hx_M), K r m → KK (some (.int r)) Λ m) (hw : wX0_changesOf Λ μ v1 v2 K) : G Λ μ (0, 0) 0 [some (.ref 36), some (.int v1), some (.int v2), none, none, none, none] [] := by
  unfold wX0_changesOf at hw
  refine cl_iconst hG 0 (hx_dq tdX0_changesOf_0 0 rfl) iconst_0 (cl_istore_n hG (hx_dq tdX0_changesOf_0 1 rfl) (Nat.le_of_ble_eq_true rfl) rfl (cl_iconst hG 1 (hx_dq tdX0_changesOf_0 2 rfl) iconst_1 (cl_istore hG (hx_dq tdX0_changesOf_0 3 rfl) (Nat.le_of_ble_eq_true rfl) rfl ?_)))
  obtain ⟨n_, hw⟩ := hw
  refine cl_sub hG (hx_le_c rfl (hx_le_c rfl (hx_le_c rfl (hx_le_c rfl (hx_le_c rfl (hx_le_n (hx_le_n hx_le_0))))))) (kX0_changesOf_L5 hG cA hF v1 v2 hK n_ 0 1 _ hw)
def sX0_changesOf : hx_ST := fun Λ μ as KK => cF Λ ∧ ∃ (v1 : Int32) (v2 : Int32) (K : Int32 → hx_M → Prop), as = [.ref 36, .int v1, .int v2] ∧ wX0_changesOf Λ μ v1 v2 K ∧ (∀ (r : Int32) (m : hx_M), K r m → KK (some (.int r)) Λ m)
theorem sX0_changesOf_mk {Λ : hx_L} {μ : hx_M} {KK : hx_KT} {v1 : Int32} {v2 : Int32} {K : Int32 → hx_M → Prop} (hF : cF Λ) (hw : wX0_changesOf Λ μ v1 v2 K) (hk : ∀ (r : Int32) (m : hx_M), K r m → KK (some (.int r)) Λ m) : sX0_changesOf Λ μ [.ref 36, .int v1, .int v2] KK := ⟨hF, _, _, _, rfl, hw, hk⟩
theorem conX0_changesOf : hx_Con yX0_changesOf cX0_changesOf 7 (some .int) 4 0 0 sX0_changesOf := by
  refine hx_con_of (by decide +kernel) tokX0 (by decide) ?_ ?_
  · intro Λ μ as KK h
    obtain ⟨hF, v1, v2, K, rfl, hw, hK⟩ := h
    exact Nat.le_of_ble_eq_true rfl
  · intro G KK hG cA Λ μ as h
    obtain ⟨hF, v1, v2, K, rfl, hw, hK⟩ := h
    exact cl_sub hG (hx_le_c rfl (hx_le_c rfl (hx_le_c rfl (hx_le_n (hx_le_n (hx_le_n (hx_le_n hx_le_0))))))) (kX0_changesOf hG cA hF _ _ hK hw)
/-! HemLine$Chronicle.isAlone(III)Z -/
def tbX0_isAlone_0 : List (Nat × Instr × Nat) := [(0, .aload_n 0, 1), (1, .getfield 9, 3), (4, .getfield 21, 3), (7, .iload_n 1, 1), (8, .iload_n 2, 1), (9, .invokevirtual 25, 3), (12, .istore 4, 2), (14, .iconst 0, 1), (15, .istore 5, 2), (17, .iload 5, 2), (19, .aload_n 0, 1), (20, .getfield 9, 3), (23, .getfield 55, 3), (26, .getfield 59, 3), (29, .if_icmp .ge 40, 3), (32, .iload 5, 2), (34, .iload_n 1, 1), (35, .if_icmp .eq 28, 3), (38, .aload_n 0, 1), (39, .getfield 9, 3), (42, .getfield 21, 3), (45, .iload 5, 2), (47, .iload_n 2, 1), (48, .invokevirtual 25, 3), (51, .iload 4, 2), (53, .isub, 1), (54, .invokestatic 49, 3), (57, .iload_n 3, 1), (58, .if_icmp .ge 5, 3), (61, .iconst 0, 1), (62, .ireturn, 1), (63, .iinc 5 1, 3)]
def tbX0_isAlone_1 : List (Nat × Instr × Nat) := [(66, .goto (-49), 3), (69, .iconst 1, 1), (70, .ireturn, 1)]
theorem tdX0_isAlone_0 : hx_dt cX0_isAlone tbX0_isAlone_0 = true := by decide +kernel
theorem tdX0_isAlone_1 : hx_dt cX0_isAlone tbX0_isAlone_1 = true := by decide +kernel
theorem caX0_isAlone_25 {G : hx_GT} (cA : hx_CA RX0 cX0_isAlone 2 0 0 G) : hx_CV cX0_isAlone G 0 0 25 3 2 sX3_lengthOf 0 0 := cA.1 conX3_lengthOf rfl rfl ⟨by decide +kernel, by decide +kernel, by decide +kernel⟩ mw_848 mw_717 mw_718 mw_88 mw_719 (by decide) (by decide)
def wX0_isAlone_J63 (μ : hx_M) (K : Int32 → Prop) (K17 : Int32 → Prop) (v1 : Int32) (v2 : Int32) (v3 : Int32) (v4 : Int32) (v5 : Int32)   : Prop := K17 (v5 + 1)
set_option maxRecDepth 100000 in
set_option maxHeartbeats 4000000 in
theorem kX0_isAlone_J63 {G : hx_GT} {KK : hx_KT} (hG : hx_K cX0_isAlone 6 0 0 (some .boolean) TbX0 KK G) (cA : hx_CA RX0 cX0_isAlone 2 0 0 G) {Λ : hx_L} (hF : cF Λ) {μ : hx_M} (v1 : Int32) (v2 : Int32) (v3 : Int32) (v4 : Int32) (v5 : Int32)  {K : Int32 → Prop} (hK : ∀ (r : Int32), K r → KK (some (.int r)) Λ μ) {K17 : Int32 → Prop} (hk17 : ∀ (v5 : Int32), K17 v5 → G Λ μ (0, 0) 17 [some (.ref 36), some (.int v1), some (.int v2), some (.int v3), some (.int v4), some (.int v5)] []) (hw : wX0_isAlone_J63 μ K K17 v1 v2 v3 v4 v5) : G Λ μ (0, 0) 63 [some (.ref 36), some (.int v1), some (.int v2), some (.int v3), some (.int v4), some (.int v5)] [] := by
  unfold wX0_isAlone_J63 at hw
  exact cl_iinc hG (v5 + 1) (hx_dq tdX0_isAlone_0 31 rfl) rfl (congrArg (fun z => v5 + z) iconst_1) (Nat.le_of_ble_eq_true rfl) rfl (cl_goto hG 17 (hx_dq tdX0_isAlone_1 0 rfl) rfl (cl_sub hG (hx_le_c rfl (hx_le_c rfl (hx_le_c rfl (hx_le_c rfl (hx_le_c rfl (hx_le_c rfl hx_le_0)))))) (hk17 (v5 + 1) hw)))
def wX0_isAlone_L17 (μ : hx_M) (v1 : Int32) (v2 : Int32) (v3 : Int32) (v4 : Int32) (K : Int32 → Prop)  : Nat → Int32 → Prop
  | 0, _ => False
  | n + 1, v5 => ((μ.1 8 0) ≤ v5 → (K 1)) ∧ (¬ ((μ.1 8 0) ≤ v5) → ((v5 = v1 → (wX0_isAlone_J63 μ K (wX0_isAlone_L17 μ v1 v2 v3 v4 K n) v1 v2 v3 v4 v5)) ∧ (¬ (v5 = v1) → (wX3_lengthOf μ v5 v2 (fun r48_4 => ∀ x_5 : Int32, x_5 = (if 0 ≤ (r48_4 - v4) then (r48_4 - v4) else 0 - (r48_4 - v4)) → (v3 ≤ x_5 → (wX0_isAlone_J63 μ K (wX0_isAlone_L17 μ v1 v2 v3 v4 K n) v1 v2 v3 v4 v5)) ∧ (¬ (v3 ≤ x_5) → (K 0)))))))
set_option maxRecDepth 100000 in
set_option maxHeartbeats 4000000 in
theorem kX0_isAlone_L17 {G : hx_GT} {KK : hx_KT} (hG : hx_K cX0_isAlone 6 0 0 (some .boolean) TbX0 KK G) (cA : hx_CA RX0 cX0_isAlone 2 0 0 G) {Λ : hx_L} (hF : cF Λ) {μ : hx_M} (v1 : Int32) (v2 : Int32) (v3 : Int32) (v4 : Int32) {K : Int32 → Prop} (hK : ∀ (r : Int32), K r → KK (some (.int r)) Λ μ)  : ∀ (n : Nat) (v5 : Int32), wX0_isAlone_L17 μ v1 v2 v3 v4 K n v5 → G Λ μ (0, 0) 17 [some (.ref 36), some (.int v1), some (.int v2), some (.int v3), some (.int v4), some (.int v5)] [] := by
  intro n
  induction n with
  | zero =>
    intro v5 hw
    exact False.elim (by simpa only [wX0_isAlone_L17] using hw)
  | succ n ih =>
    intro v5 hw
    unfold wX0_isAlone_L17 at hw
    refine cl_iload hG (hx_dq tdX0_isAlone_0 9 rfl) rfl (cl_aload_n hG (hx_dq tdX0_isAlone_0 10 rfl) rfl (cl_getS hG fmX0_9 (hx_dq tdX0_isAlone_0 11 rfl) (cF_S36 hF) (cF_R36_0 hF) (cl_getS hG fmX0_55 (hx_dq tdX0_isAlone_0 12 rfl) (cF_S7 hF) (cF_R7_0 hF) (cl_getI hG fmX0_59 (hx_dq tdX0_isAlone_0 13 rfl) (cF_S8 hF) (cl_icmp_ge hG 69 (hx_dq tdX0_isAlone_0 14 rfl) rfl (fun c29 => ?_) (fun c29 => ?_))))))
    · replace hw := hw.1 c29
      exact cl_iconst hG 1 (hx_dq tdX0_isAlone_1 1 rfl) iconst_1 (cl_iret hG (hx_dq tdX0_isAlone_1 2 rfl) rfl rfl (hK _ hw) (Nat.le_refl _) (Nat.le_refl _))
    · replace hw := hw.2 c29
      refine cl_iload hG (hx_dq tdX0_isAlone_0 15 rfl) rfl (cl_iload_n hG (hx_dq tdX0_isAlone_0 16 rfl) rfl (cl_icmp_eq hG 63 (hx_dq tdX0_isAlone_0 17 rfl) rfl (fun c35 => ?_) (fun c35 => ?_)))
      · replace hw := hw.1 c35
        exact cl_sub hG (hx_le_c rfl (hx_le_c rfl (hx_le_c rfl (hx_le_c rfl (hx_le_c rfl (hx_le_c rfl hx_le_0)))))) (kX0_isAlone_J63 hG cA hF v1 v2 v3 v4 v5 hK (fun z0 hw => ih z0 hw) hw)
      · replace hw := hw.2 c35
        refine cl_aload_n hG (hx_dq tdX0_isAlone_0 18 rfl) rfl (cl_getS hG fmX0_9 (hx_dq tdX0_isAlone_0 19 rfl) (cF_S36 hF) (cF_R36_0 hF) (cl_getS hG fmX0_21 (hx_dq tdX0_isAlone_0 20 rfl) (cF_S7 hF) (cF_R7_1 hF) (cl_iload hG (hx_dq tdX0_isAlone_0 21 rfl) rfl (cl_iload_n hG (hx_dq tdX0_isAlone_0 22 rfl) rfl (cl_callV2 (caX0_isAlone_25 cA) (hx_dq tdX0_isAlone_0 23 rfl) (cF_S15 hF) (Nat.le_of_ble_eq_true rfl) (Nat.le_refl _) (Nat.le_refl _) (sX3_lengthOf_mk hF hw (fun r48_4 hw => ?_)))))))
        refine cl_iload hG (hx_dq tdX0_isAlone_0 24 rfl) rfl (cl_isub hG (hx_dq tdX0_isAlone_0 25 rfl) (cl_mabs hG mmX0_49 (hx_dq tdX0_isAlone_0 26 rfl) (Nat.le_refl _) (Nat.le_refl _) (Nat.le_of_ble_eq_true rfl) (cl_nmI (fun x_5 e_5 => ?_))))
        replace hw := hw x_5 e_5
        refine cl_iload_n hG (hx_dq tdX0_isAlone_0 27 rfl) rfl (cl_icmp_ge hG 63 (hx_dq tdX0_isAlone_0 28 rfl) rfl (fun c58 => ?_) (fun c58 => ?_))
        · replace hw := hw.1 c58
          exact cl_sub hG (hx_le_c rfl (hx_le_c rfl (hx_le_c rfl (hx_le_c rfl (hx_le_c rfl (hx_le_c rfl hx_le_0)))))) (kX0_isAlone_J63 hG cA hF v1 v2 v3 v4 v5 hK (fun z0 hw => ih z0 hw) hw)
        · replace hw := hw.2 c58
          exact cl_iconst hG 0 (hx_dq tdX0_isAlone_0 29 rfl) iconst_0 (cl_iret hG (hx_dq tdX0_isAlone_0 30 rfl) rfl rfl (hK _ hw) (Nat.le_refl _) (Nat.le_refl _))
def wX0_isAlone (μ : hx_M) (v1 : Int32) (v2 : Int32) (v3 : Int32) (K : Int32 → Prop) : Prop := wX3_lengthOf μ v1 v2 (fun r9_2 => ∃ n17_6, wX0_isAlone_L17 μ v1 v2 v3 r9_2 K n17_6 0)
set_option maxRecDepth 100000 in
set_option maxHeartbeats 4000000 in
theorem kX0_isAlone {G : hx_GT} {KK : hx_KT} (hG : hx_K cX0_isAlone 6 0 0 (some .boolean) TbX0 KK G) (cA : hx_CA RX0 cX0_isAlone 2 0 0 G) {Λ : hx_L} (hF : cF Λ) {μ : hx_M} (v1 : Int32) (v2 : Int32) (v3 : Int32) {K : Int32 → Prop} (hK : ∀ (r : Int32), K r → KK (some (.int r)) Λ μ) (hw : wX0_isAlone μ v1 v2 v3 K) : G Λ μ (0, 0) 0 [some (.ref 36), some (.int v1), some (.int v2), some (.int v3), none, none] [] := by
  unfold wX0_isAlone at hw
  refine cl_aload_n hG (hx_dq tdX0_isAlone_0 0 rfl) rfl (cl_getS hG fmX0_9 (hx_dq tdX0_isAlone_0 1 rfl) (cF_S36 hF) (cF_R36_0 hF) (cl_getS hG fmX0_21 (hx_dq tdX0_isAlone_0 2 rfl) (cF_S7 hF) (cF_R7_1 hF) (cl_iload_n hG (hx_dq tdX0_isAlone_0 3 rfl) rfl (cl_iload_n hG (hx_dq tdX0_isAlone_0 4 rfl) rfl (cl_callV2 (caX0_isAlone_25 cA) (hx_dq tdX0_isAlone_0 5 rfl) (cF_S15 hF) (Nat.le_of_ble_eq_true rfl) (Nat.le_refl _) (Nat.le_refl _) (sX3_lengthOf_mk hF hw (fun r9_2 hw => ?_)))))))
  refine cl_istore hG (hx_dq tdX0_isAlone_0 6 rfl) (Nat.le_of_ble_eq_true rfl) rfl (cl_iconst hG 0 (hx_dq tdX0_isAlone_0 7 rfl) iconst_0 (cl_istore hG (hx_dq tdX0_isAlone_0 8 rfl) (Nat.le_of_ble_eq_true rfl) rfl ?_))
  obtain ⟨n_, hw⟩ := hw
  refine cl_sub hG (hx_le_c rfl (hx_le_c rfl (hx_le_c rfl (hx_le_c rfl (hx_le_c rfl (hx_le_c rfl hx_le_0)))))) (kX0_isAlone_L17 hG cA hF v1 v2 v3 r9_2 hK n_ 0 hw)
def sX0_isAlone : hx_ST := fun Λ μ as KK => cF Λ ∧ ∃ (v1 : Int32) (v2 : Int32) (v3 : Int32) (K : Int32 → Prop), as = [.ref 36, .int v1, .int v2, .int v3] ∧ wX0_isAlone μ v1 v2 v3 K ∧ (∀ (r : Int32), K r → KK (some (.int r)) Λ μ)
theorem sX0_isAlone_mk {Λ : hx_L} {μ : hx_M} {KK : hx_KT} {v1 : Int32} {v2 : Int32} {v3 : Int32} {K : Int32 → Prop} (hF : cF Λ) (hw : wX0_isAlone μ v1 v2 v3 K) (hk : ∀ (r : Int32), K r → KK (some (.int r)) Λ μ) : sX0_isAlone Λ μ [.ref 36, .int v1, .int v2, .int v3] KK := ⟨hF, _, _, _, _, rfl, hw, hk⟩
theorem conX0_isAlone : hx_Con yX0_isAlone cX0_isAlone 6 (some .boolean) 2 0 0 sX0_isAlone := by
  refine hx_con_of (by decide +kernel) tokX0 (by decide) ?_ ?_
  · intro Λ μ as KK h
    obtain ⟨hF, v1, v2, v3, K, rfl, hw, hK⟩ := h
    exact Nat.le_of_ble_eq_true rfl
  · intro G KK hG cA Λ μ as h
    obtain ⟨hF, v1, v2, v3, K, rfl, hw, hK⟩ := h
    exact cl_sub hG (hx_le_c rfl (hx_le_c rfl (hx_le_c rfl (hx_le_c rfl (hx_le_n (hx_le_n hx_le_0)))))) (kX0_isAlone hG cA hF _ _ _ hK hw)
/-! HemLine$Chronicle.endOf(IIII)I -/
def tbX0_endOf_0 : List (Nat × Instr × Nat) := [(0, .aload_n 0, 1), (1, .getfield 9, 3), (4, .getfield 15, 3), (7, .iload_n 2, 1), (8, .iload 4, 2), (10, .iadd, 1), (11, .invokestatic 71, 3), (14, .istore 5, 2), (16, .aload_n 0, 1), (17, .getfield 9, 3), (20, .getfield 21, 3), (23, .iload_n 1, 1), (24, .iload_n 2, 1), (25, .invokevirtual 25, 3), (28, .istore 6, 2), (30, .iload_n 2, 1), (31, .iconst 1, 1), (32, .iadd, 1), (33, .istore 7, 2), (35, .iload 7, 2), (37, .iload 5, 2), (39, .if_icmp .gt 42, 3), (42, .aload_n 0, 1), (43, .getfield 9, 3), (46, .getfield 21, 3), (49, .iload_n 1, 1), (50, .iload 7, 2), (52, .invokevirtual 25, 3), (55, .iload 6, 2), (57, .if_icmp .eq 5, 3), (60, .iconst 2, 1), (61, .ireturn, 1)]
def tbX0_endOf_1 : List (Nat × Instr × Nat) := [(62, .aload_n 0, 1), (63, .iload_n 1, 1), (64, .iload 7, 2), (66, .iload_n 3, 1), (67, .invokevirtual 64, 3), (70, .ifCond .ne 5, 3), (73, .iconst 1, 1), (74, .ireturn, 1), (75, .iinc 7 1, 3), (78, .goto (-43), 3), (81, .iconst (-1), 1), (82, .ireturn, 1)]
theorem tdX0_endOf_0 : hx_dt cX0_endOf tbX0_endOf_0 = true := by decide +kernel
theorem tdX0_endOf_1 : hx_dt cX0_endOf tbX0_endOf_1 = true := by decide +kernel
theorem caX0_endOf_25 {G : hx_GT} (cA : hx_CA RX0 cX0_endOf 3 0 0 G) : hx_CV cX0_endOf G 0 0 25 3 2 sX3_lengthOf 0 0 := cA.1 conX3_lengthOf rfl rfl ⟨by decide +kernel, by decide +kernel, by decide +kernel⟩ mw_848 mw_717 mw_718 mw_88 mw_719 (by decide) (by decide)
theorem caX0_endOf_64 {G : hx_GT} (cA : hx_CA RX0 cX0_endOf 3 0 0 G) : hx_CV cX0_endOf G 0 0 64 0 3 sX0_isAlone 0 0 := cA.1 conX0_isAlone rfl rfl ⟨by decide +kernel, by decide +kernel, by decide +kernel⟩ mw_863 mw_865 mw_24 mw_93 mw_866 (by decide) (by decide)
def wX0_endOf_L35 (μ : hx_M) (v1 : Int32) (v3 : Int32) (v5 : Int32) (v6 : Int32) (K : Int32 → Prop)  : Nat → Int32 → Prop
  | 0, _ => False
  | n + 1, v7 => (v5 < v7 → (K (-1))) ∧ (¬ (v5 < v7) → (wX3_lengthOf μ v1 v7 (fun r52_5 => (r52_5 = v6 → (wX0_isAlone μ v1 v7 v3 (fun r67_7 => (r67_7 ≠ 0 → (wX0_endOf_L35 μ v1 v3 v5 v6 K n (v7 + 1))) ∧ (r67_7 = 0 → (K 1))))) ∧ (¬ (r52_5 = v6) → (K 2)))))
set_option maxRecDepth 100000 in
set_option maxHeartbeats 4000000 in
theorem kX0_endOf_L35 {G : hx_GT} {KK : hx_KT} (hG : hx_K cX0_endOf 8 0 0 (some .int) TbX0 KK G) (cA : hx_CA RX0 cX0_endOf 3 0 0 G) {Λ : hx_L} (hF : cF Λ) {μ : hx_M} (v1 : Int32) (v3 : Int32) (v5 : Int32) (v6 : Int32) {K : Int32 → Prop} (hK : ∀ (r : Int32), K r → KK (some (.int r)) Λ μ)  : ∀ (n : Nat) (v7 : Int32), wX0_endOf_L35 μ v1 v3 v5 v6 K n v7 → G Λ μ (0, 0) 35 [some (.ref 36), some (.int v1), none, some (.int v3), none, some (.int v5), some (.int v6), some (.int v7)] [] := by
  intro n
  induction n with
  | zero =>
    intro v7 hw
    exact False.elim (by simpa only [wX0_endOf_L35] using hw)
  | succ n ih =>
    intro v7 hw
    unfold wX0_endOf_L35 at hw
    refine cl_iload hG (hx_dq tdX0_endOf_0 19 rfl) rfl (cl_iload hG (hx_dq tdX0_endOf_0 20 rfl) rfl (cl_icmp_gt hG 81 (hx_dq tdX0_endOf_0 21 rfl) rfl (fun c39 => ?_) (fun c39 => ?_)))
    · replace hw := hw.1 c39
      exact cl_iconst hG (-1) (hx_dq tdX0_endOf_1 10 rfl) iconst_m1 (cl_iret hG (hx_dq tdX0_endOf_1 11 rfl) rfl rfl (hK _ hw) (Nat.le_refl _) (Nat.le_refl _))
    · replace hw := hw.2 c39
      refine cl_aload_n hG (hx_dq tdX0_endOf_0 22 rfl) rfl (cl_getS hG fmX0_9 (hx_dq tdX0_endOf_0 23 rfl) (cF_S36 hF) (cF_R36_0 hF) (cl_getS hG fmX0_21 (hx_dq tdX0_endOf_0 24 rfl) (cF_S7 hF) (cF_R7_1 hF) (cl_iload_n hG (hx_dq tdX0_endOf_0 25 rfl) rfl (cl_iload hG (hx_dq tdX0_endOf_0 26 rfl) rfl (cl_callV2 (caX0_endOf_25 cA) (hx_dq tdX0_endOf_0 27 rfl) (cF_S15 hF) (Nat.le_of_ble_eq_true rfl) (Nat.le_refl _) (Nat.le_refl _) (sX3_lengthOf_mk hF hw (fun r52_5 hw => ?_)))))))
      refine cl_iload hG (hx_dq tdX0_endOf_0 28 rfl) rfl (cl_icmp_eq hG 62 (hx_dq tdX0_endOf_0 29 rfl) rfl (fun c57 => ?_) (fun c57 => ?_))
      · replace hw := hw.1 c57
        refine cl_aload_n hG (hx_dq tdX0_endOf_1 0 rfl) rfl (cl_iload_n hG (hx_dq tdX0_endOf_1 1 rfl) rfl (cl_iload hG (hx_dq tdX0_endOf_1 2 rfl) rfl (cl_iload_n hG (hx_dq tdX0_endOf_1 3 rfl) rfl (cl_callV3 (caX0_endOf_64 cA) (hx_dq tdX0_endOf_1 4 rfl) (cF_S36 hF) (Nat.le_of_ble_eq_true rfl) (Nat.le_refl _) (Nat.le_refl _) (sX0_isAlone_mk hF hw (fun r67_7 hw => ?_))))))
        refine cl_if_ne hG 75 (hx_dq tdX0_endOf_1 5 rfl) rfl (fun c70 => ?_) (fun c70 => ?_)
        · replace hw := hw.1 c70
          exact cl_iinc hG (v7 + 1) (hx_dq tdX0_endOf_1 8 rfl) rfl (congrArg (fun z => v7 + z) iconst_1) (Nat.le_of_ble_eq_true rfl) rfl (cl_goto hG 35 (hx_dq tdX0_endOf_1 9 rfl) rfl (cl_sub hG (hx_le_c rfl (hx_le_c rfl (hx_le_n (hx_le_c rfl (hx_le_n (hx_le_c rfl (hx_le_c rfl (hx_le_c rfl hx_le_0)))))))) (ih (v7 + 1) hw)))
        · replace hw := hw.2 c70
          exact cl_iconst hG 1 (hx_dq tdX0_endOf_1 6 rfl) iconst_1 (cl_iret hG (hx_dq tdX0_endOf_1 7 rfl) rfl rfl (hK _ hw) (Nat.le_refl _) (Nat.le_refl _))
      · replace hw := hw.2 c57
        exact cl_iconst hG 2 (hx_dq tdX0_endOf_0 30 rfl) iconst_2 (cl_iret hG (hx_dq tdX0_endOf_0 31 rfl) rfl rfl (hK _ hw) (Nat.le_refl _) (Nat.le_refl _))
def wX0_endOf (μ : hx_M) (v1 : Int32) (v2 : Int32) (v3 : Int32) (v4 : Int32) (K : Int32 → Prop) : Prop := ∀ x_1 : Int32, x_1 = (if (v2 + v4) < (μ.1 7 7) then (v2 + v4) else (μ.1 7 7)) → wX3_lengthOf μ v1 v2 (fun r25_3 => ∃ n35_8, wX0_endOf_L35 μ v1 v3 x_1 r25_3 K n35_8 (v2 + 1))
set_option maxRecDepth 100000 in
set_option maxHeartbeats 4000000 in
theorem kX0_endOf {G : hx_GT} {KK : hx_KT} (hG : hx_K cX0_endOf 8 0 0 (some .int) TbX0 KK G) (cA : hx_CA RX0 cX0_endOf 3 0 0 G) {Λ : hx_L} (hF : cF Λ) {μ : hx_M} (v1 : Int32) (v2 : Int32) (v3 : Int32) (v4 : Int32) {K : Int32 → Prop} (hK : ∀ (r : Int32), K r → KK (some (.int r)) Λ μ) (hw : wX0_endOf μ v1 v2 v3 v4 K) : G Λ μ (0, 0) 0 [some (.ref 36), some (.int v1), some (.int v2), some (.int v3), some (.int v4), none, none, none] [] := by
  unfold wX0_endOf at hw
  refine cl_aload_n hG (hx_dq tdX0_endOf_0 0 rfl) rfl (cl_getS hG fmX0_9 (hx_dq tdX0_endOf_0 1 rfl) (cF_S36 hF) (cF_R36_0 hF) (cl_getI hG fmX0_15 (hx_dq tdX0_endOf_0 2 rfl) (cF_S7 hF) (cl_iload_n hG (hx_dq tdX0_endOf_0 3 rfl) rfl (cl_iload hG (hx_dq tdX0_endOf_0 4 rfl) rfl (cl_iadd hG (hx_dq tdX0_endOf_0 5 rfl) (cl_mmin hG mmX0_71 (hx_dq tdX0_endOf_0 6 rfl) (Nat.le_refl _) (Nat.le_refl _) (Nat.le_of_ble_eq_true rfl) (cl_nmI (fun x_1 e_1 => ?_))))))))
  replace hw := hw x_1 e_1
  refine cl_istore hG (hx_dq tdX0_endOf_0 7 rfl) (Nat.le_of_ble_eq_true rfl) rfl (cl_aload_n hG (hx_dq tdX0_endOf_0 8 rfl) rfl (cl_getS hG fmX0_9 (hx_dq tdX0_endOf_0 9 rfl) (cF_S36 hF) (cF_R36_0 hF) (cl_getS hG fmX0_21 (hx_dq tdX0_endOf_0 10 rfl) (cF_S7 hF) (cF_R7_1 hF) (cl_iload_n hG (hx_dq tdX0_endOf_0 11 rfl) rfl (cl_iload_n hG (hx_dq tdX0_endOf_0 12 rfl) rfl (cl_callV2 (caX0_endOf_25 cA) (hx_dq tdX0_endOf_0 13 rfl) (cF_S15 hF) (Nat.le_of_ble_eq_true rfl) (Nat.le_refl _) (Nat.le_refl _) (sX3_lengthOf_mk hF hw (fun r25_3 hw => ?_))))))))
  refine cl_istore hG (hx_dq tdX0_endOf_0 14 rfl) (Nat.le_of_ble_eq_true rfl) rfl (cl_iload_n hG (hx_dq tdX0_endOf_0 15 rfl) rfl (cl_iconst hG 1 (hx_dq tdX0_endOf_0 16 rfl) iconst_1 (cl_iadd hG (hx_dq tdX0_endOf_0 17 rfl) (cl_istore hG (hx_dq tdX0_endOf_0 18 rfl) (Nat.le_of_ble_eq_true rfl) rfl ?_))))
  obtain ⟨n_, hw⟩ := hw
  refine cl_sub hG (hx_le_c rfl (hx_le_c rfl (hx_le_n (hx_le_c rfl (hx_le_n (hx_le_c rfl (hx_le_c rfl (hx_le_c rfl hx_le_0)))))))) (kX0_endOf_L35 hG cA hF v1 v3 x_1 r25_3 hK n_ (v2 + 1) hw)
def sX0_endOf : hx_ST := fun Λ μ as KK => cF Λ ∧ ∃ (v1 : Int32) (v2 : Int32) (v3 : Int32) (v4 : Int32) (K : Int32 → Prop), as = [.ref 36, .int v1, .int v2, .int v3, .int v4] ∧ wX0_endOf μ v1 v2 v3 v4 K ∧ (∀ (r : Int32), K r → KK (some (.int r)) Λ μ)
theorem sX0_endOf_mk {Λ : hx_L} {μ : hx_M} {KK : hx_KT} {v1 : Int32} {v2 : Int32} {v3 : Int32} {v4 : Int32} {K : Int32 → Prop} (hF : cF Λ) (hw : wX0_endOf μ v1 v2 v3 v4 K) (hk : ∀ (r : Int32), K r → KK (some (.int r)) Λ μ) : sX0_endOf Λ μ [.ref 36, .int v1, .int v2, .int v3, .int v4] KK := ⟨hF, _, _, _, _, _, rfl, hw, hk⟩
theorem conX0_endOf : hx_Con yX0_endOf cX0_endOf 8 (some .int) 3 0 0 sX0_endOf := by
  refine hx_con_of (by decide +kernel) tokX0 (by decide) ?_ ?_
  · intro Λ μ as KK h
    obtain ⟨hF, v1, v2, v3, v4, K, rfl, hw, hK⟩ := h
    exact Nat.le_of_ble_eq_true rfl
  · intro G KK hG cA Λ μ as h
    obtain ⟨hF, v1, v2, v3, v4, K, rfl, hw, hK⟩ := h
    exact cl_sub hG (hx_le_c rfl (hx_le_c rfl (hx_le_c rfl (hx_le_c rfl (hx_le_c rfl (hx_le_n (hx_le_n (hx_le_n hx_le_0)))))))) (kX0_endOf hG cA hF _ _ _ _ hK hw)
/-! HemLine$Chronicle.startsOf(III)I -/
def tbX0_startsOf_0 : List (Nat × Instr × Nat) := [(0, .iconst 0, 1), (1, .istore 4, 2), (3, .iconst 0, 1), (4, .istore 5, 2), (6, .iload 5, 2), (8, .aload_n 0, 1), (9, .getfield 9, 3), (12, .getfield 55, 3), (15, .getfield 59, 3), (18, .if_icmp .ge 86, 3), (21, .aload_n 0, 1), (22, .iload 5, 2), (24, .iconst 0, 1), (25, .iload_n 1, 1), (26, .invokevirtual 64, 3), (29, .istore 6, 2), (31, .iconst 1, 1), (32, .istore 7, 2), (34, .iload 7, 2), (36, .aload_n 0, 1), (37, .getfield 9, 3), (40, .getfield 15, 3), (43, .if_icmp .gt 55, 3), (46, .aload_n 0, 1), (47, .iload 5, 2), (49, .iload 7, 2), (51, .iload_n 1, 1), (52, .invokevirtual 64, 3), (55, .istore 8, 2), (57, .iload 8, 2), (59, .ifCond .eq 29, 3), (62, .iload 6, 2)]
def tbX0_startsOf_1 : List (Nat × Instr × Nat) := [(64, .ifCond .ne 24, 3), (67, .iload_n 3, 1), (68, .ifCond .eq 17, 3), (71, .aload_n 0, 1), (72, .iload 5, 2), (74, .iload 7, 2), (76, .iload_n 1, 1), (77, .iload_n 2, 1), (78, .invokevirtual 67, 3), (81, .iload_n 3, 1), (82, .if_icmp .ne 6, 3), (85, .iinc 4 1, 3), (88, .iload 8, 2), (90, .istore 6, 2), (92, .iinc 7 1, 3), (95, .goto (-61), 3), (98, .iinc 5 1, 3), (101, .goto (-95), 3), (104, .iload 4, 2), (106, .ireturn, 1)]
theorem tdX0_startsOf_0 : hx_dt cX0_startsOf tbX0_startsOf_0 = true := by decide +kernel
theorem tdX0_startsOf_1 : hx_dt cX0_startsOf tbX0_startsOf_1 = true := by decide +kernel
theorem caX0_startsOf_64 {G : hx_GT} (cA : hx_CA RX0 cX0_startsOf 4 0 0 G) : hx_CV cX0_startsOf G 0 0 64 0 3 sX0_isAlone 0 0 := cA.1 conX0_isAlone rfl rfl ⟨by decide +kernel, by decide +kernel, by decide +kernel⟩ mw_863 mw_865 mw_24 mw_93 mw_866 (by decide) (by decide)
theorem caX0_startsOf_67 {G : hx_GT} (cA : hx_CA RX0 cX0_startsOf 4 0 0 G) : hx_CV cX0_startsOf G 0 0 67 0 4 sX0_endOf 0 0 := cA.1 conX0_endOf rfl rfl ⟨by decide +kernel, by decide +kernel, by decide +kernel⟩ mw_867 mw_869 mw_25 mw_93 mw_870 (by decide) (by decide)
def wX0_startsOf_J88 (μ : hx_M) (K : Int32 → Prop) (K34 : Int32 → Int32 → Int32 → Prop) (v1 : Int32) (v2 : Int32) (v3 : Int32) (v4 : Int32) (v5 : Int32) (v7 : Int32) (v8 : Int32)   : Prop := K34 v4 v8 (v7 + 1)
set_option maxRecDepth 100000 in
set_option maxHeartbeats 4000000 in
theorem kX0_startsOf_J88 {G : hx_GT} {KK : hx_KT} (hG : hx_K cX0_startsOf 9 0 0 (some .int) TbX0 KK G) (cA : hx_CA RX0 cX0_startsOf 4 0 0 G) {Λ : hx_L} (hF : cF Λ) {μ : hx_M} (v1 : Int32) (v2 : Int32) (v3 : Int32) (v4 : Int32) (v5 : Int32) (v7 : Int32) (v8 : Int32)  {K : Int32 → Prop} (hK : ∀ (r : Int32), K r → KK (some (.int r)) Λ μ) {K34 : Int32 → Int32 → Int32 → Prop} (hk34 : ∀ (v4 : Int32) (v6 : Int32) (v7 : Int32), K34 v4 v6 v7 → G Λ μ (0, 0) 34 [some (.ref 36), some (.int v1), some (.int v2), some (.int v3), some (.int v4), some (.int v5), some (.int v6), some (.int v7), none] []) (hw : wX0_startsOf_J88 μ K K34 v1 v2 v3 v4 v5 v7 v8) : G Λ μ (0, 0) 88 [some (.ref 36), some (.int v1), some (.int v2), some (.int v3), some (.int v4), some (.int v5), none, some (.int v7), some (.int v8)] [] := by
  unfold wX0_startsOf_J88 at hw
  exact cl_iload hG (hx_dq tdX0_startsOf_1 12 rfl) rfl (cl_istore hG (hx_dq tdX0_startsOf_1 13 rfl) (Nat.le_of_ble_eq_true rfl) rfl (cl_iinc hG (v7 + 1) (hx_dq tdX0_startsOf_1 14 rfl) rfl (congrArg (fun z => v7 + z) iconst_1) (Nat.le_of_ble_eq_true rfl) rfl (cl_goto hG 34 (hx_dq tdX0_startsOf_1 15 rfl) rfl (cl_sub hG (hx_le_c rfl (hx_le_c rfl (hx_le_c rfl (hx_le_c rfl (hx_le_c rfl (hx_le_c rfl (hx_le_c rfl (hx_le_c rfl (hx_le_n hx_le_0))))))))) (hk34 v4 v8 (v7 + 1) hw)))))
def wX0_startsOf_J88_5 (μ : hx_M) (K : Int32 → Prop) (K34 : Int32 → Int32 → Int32 → Prop) (v1 : Int32) (v2 : Int32) (v3 : Int32) (v4 : Int32) (v5 : Int32) (v7 : Int32) (v8 : Int32)   : Prop := K34 v4 v8 (v7 + 1)
set_option maxRecDepth 100000 in
set_option maxHeartbeats 4000000 in
theorem kX0_startsOf_J88_5 {G : hx_GT} {KK : hx_KT} (hG : hx_K cX0_startsOf 9 0 0 (some .int) TbX0 KK G) (cA : hx_CA RX0 cX0_startsOf 4 0 0 G) {Λ : hx_L} (hF : cF Λ) {μ : hx_M} (v1 : Int32) (v2 : Int32) (v3 : Int32) (v4 : Int32) (v5 : Int32) (v7 : Int32) (v8 : Int32)  {K : Int32 → Prop} (hK : ∀ (r : Int32), K r → KK (some (.int r)) Λ μ) {K34 : Int32 → Int32 → Int32 → Prop} (hk34 : ∀ (v4 : Int32) (v6 : Int32) (v7 : Int32), K34 v4 v6 v7 → G Λ μ (0, 0) 34 [some (.ref 36), some (.int v1), some (.int v2), some (.int v3), some (.int v4), some (.int v5), some (.int v6), some (.int v7), none] []) (hw : wX0_startsOf_J88_5 μ K K34 v1 v2 v3 v4 v5 v7 v8) : G Λ μ (0, 0) 88 [some (.ref 36), some (.int v1), some (.int v2), some (.int v3), some (.int v4), some (.int v5), none, some (.int v7), some (.int v8)] [] := by
  unfold wX0_startsOf_J88_5 at hw
  exact cl_iload hG (hx_dq tdX0_startsOf_1 12 rfl) rfl (cl_istore hG (hx_dq tdX0_startsOf_1 13 rfl) (Nat.le_of_ble_eq_true rfl) rfl (cl_iinc hG (v7 + 1) (hx_dq tdX0_startsOf_1 14 rfl) rfl (congrArg (fun z => v7 + z) iconst_1) (Nat.le_of_ble_eq_true rfl) rfl (cl_goto hG 34 (hx_dq tdX0_startsOf_1 15 rfl) rfl (cl_sub hG (hx_le_c rfl (hx_le_c rfl (hx_le_c rfl (hx_le_c rfl (hx_le_c rfl (hx_le_c rfl (hx_le_c rfl (hx_le_c rfl (hx_le_n hx_le_0))))))))) (hk34 v4 v8 (v7 + 1) hw)))))
def wX0_startsOf_J85 (μ : hx_M) (K : Int32 → Prop) (K34 : Int32 → Int32 → Int32 → Prop) (v1 : Int32) (v2 : Int32) (v3 : Int32) (v4 : Int32) (v5 : Int32) (v7 : Int32) (v8 : Int32)   : Prop := wX0_startsOf_J88_5 μ K (K34) v1 v2 v3 (v4 + 1) v5 v7 v8
set_option maxRecDepth 100000 in
set_option maxHeartbeats 4000000 in
theorem kX0_startsOf_J85 {G : hx_GT} {KK : hx_KT} (hG : hx_K cX0_startsOf 9 0 0 (some .int) TbX0 KK G) (cA : hx_CA RX0 cX0_startsOf 4 0 0 G) {Λ : hx_L} (hF : cF Λ) {μ : hx_M} (v1 : Int32) (v2 : Int32) (v3 : Int32) (v4 : Int32) (v5 : Int32) (v7 : Int32) (v8 : Int32)  {K : Int32 → Prop} (hK : ∀ (r : Int32), K r → KK (some (.int r)) Λ μ) {K34 : Int32 → Int32 → Int32 → Prop} (hk34 : ∀ (v4 : Int32) (v6 : Int32) (v7 : Int32), K34 v4 v6 v7 → G Λ μ (0, 0) 34 [some (.ref 36), some (.int v1), some (.int v2), some (.int v3), some (.int v4), some (.int v5), some (.int v6), some (.int v7), none] []) (hw : wX0_startsOf_J85 μ K K34 v1 v2 v3 v4 v5 v7 v8) : G Λ μ (0, 0) 85 [some (.ref 36), some (.int v1), some (.int v2), some (.int v3), some (.int v4), some (.int v5), none, some (.int v7), some (.int v8)] [] := by
  unfold wX0_startsOf_J85 at hw
  refine cl_iinc hG (v4 + 1) (hx_dq tdX0_startsOf_1 11 rfl) rfl (congrArg (fun z => v4 + z) iconst_1) (Nat.le_of_ble_eq_true rfl) rfl ?_
  exact cl_sub hG (hx_le_c rfl (hx_le_c rfl (hx_le_c rfl (hx_le_c rfl (hx_le_c rfl (hx_le_c rfl (hx_le_n (hx_le_c rfl (hx_le_c rfl hx_le_0))))))))) (kX0_startsOf_J88_5 hG cA hF v1 v2 v3 (v4 + 1) v5 v7 v8 hK (fun z0 z1 z2 hw => hk34 z0 z1 z2 hw) hw)
def wX0_startsOf_L34 (μ : hx_M) (v1 : Int32) (v2 : Int32) (v3 : Int32) (v5 : Int32) (K : Int32 → Prop) (K98 : Int32 → Prop) : Nat → Int32 → Int32 → Int32 → Prop
  | 0, _, _, _ => False
  | n + 1, v4, v6, v7 => ((μ.1 7 7) < v7 → (K98 v4)) ∧ (¬ ((μ.1 7 7) < v7) → (wX0_isAlone μ v5 v7 v1 (fun r52_4 => (r52_4 = 0 → (wX0_startsOf_J88 μ K (wX0_startsOf_L34 μ v1 v2 v3 v5 K K98 n) v1 v2 v3 v4 v5 v7 r52_4)) ∧ (¬ (r52_4 = 0) → ((v6 ≠ 0 → (wX0_startsOf_J88 μ K (wX0_startsOf_L34 μ v1 v2 v3 v5 K K98 n) v1 v2 v3 v4 v5 v7 r52_4)) ∧ (v6 = 0 → ((v3 = 0 → (wX0_startsOf_J85 μ K (wX0_startsOf_L34 μ v1 v2 v3 v5 K K98 n) v1 v2 v3 v4 v5 v7 r52_4)) ∧ (¬ (v3 = 0) → (wX0_endOf μ v5 v7 v1 v2 (fun r78_7 => (r78_7 ≠ v3 → (wX0_startsOf_J88 μ K (wX0_startsOf_L34 μ v1 v2 v3 v5 K K98 n) v1 v2 v3 v4 v5 v7 r52_4)) ∧ (r78_7 = v3 → (wX0_startsOf_J85 μ K (wX0_startsOf_L34 μ v1 v2 v3 v5 K K98 n) v1 v2 v3 v4 v5 v7 r52_4))))))))))))
set_option maxRecDepth 100000 in
set_option maxHeartbeats 4000000 in
theorem kX0_startsOf_L34 {G : hx_GT} {KK : hx_KT} (hG : hx_K cX0_startsOf 9 0 0 (some .int) TbX0 KK G) (cA : hx_CA RX0 cX0_startsOf 4 0 0 G) {Λ : hx_L} (hF : cF Λ) {μ : hx_M} (v1 : Int32) (v2 : Int32) (v3 : Int32) (v5 : Int32) {K : Int32 → Prop} (hK : ∀ (r : Int32), K r → KK (some (.int r)) Λ μ) {K98 : Int32 → Prop} (hk98 : ∀ (v4 : Int32), K98 v4 → G Λ μ (0, 0) 98 [some (.ref 36), some (.int v1), some (.int v2), some (.int v3), some (.int v4), some (.int v5), none, none, none] []) : ∀ (n : Nat) (v4 : Int32) (v6 : Int32) (v7 : Int32), wX0_startsOf_L34 μ v1 v2 v3 v5 K K98 n v4 v6 v7 → G Λ μ (0, 0) 34 [some (.ref 36), some (.int v1), some (.int v2), some (.int v3), some (.int v4), some (.int v5), some (.int v6), some (.int v7), none] [] := by
  intro n
  induction n with
  | zero =>
    intro v4 v6 v7 hw
    exact False.elim (by simpa only [wX0_startsOf_L34] using hw)
  | succ n ih =>
    intro v4 v6 v7 hw
    unfold wX0_startsOf_L34 at hw
    refine cl_iload hG (hx_dq tdX0_startsOf_0 18 rfl) rfl (cl_aload_n hG (hx_dq tdX0_startsOf_0 19 rfl) rfl (cl_getS hG fmX0_9 (hx_dq tdX0_startsOf_0 20 rfl) (cF_S36 hF) (cF_R36_0 hF) (cl_getI hG fmX0_15 (hx_dq tdX0_startsOf_0 21 rfl) (cF_S7 hF) (cl_icmp_gt hG 98 (hx_dq tdX0_startsOf_0 22 rfl) rfl (fun c43 => ?_) (fun c43 => ?_)))))
    · replace hw := hw.1 c43
      exact cl_sub hG (hx_le_c rfl (hx_le_c rfl (hx_le_c rfl (hx_le_c rfl (hx_le_c rfl (hx_le_c rfl (hx_le_n (hx_le_n (hx_le_n hx_le_0))))))))) (hk98 v4 hw)
    · replace hw := hw.2 c43
      refine cl_aload_n hG (hx_dq tdX0_startsOf_0 23 rfl) rfl (cl_iload hG (hx_dq tdX0_startsOf_0 24 rfl) rfl (cl_iload hG (hx_dq tdX0_startsOf_0 25 rfl) rfl (cl_iload_n hG (hx_dq tdX0_startsOf_0 26 rfl) rfl (cl_callV3 (caX0_startsOf_64 cA) (hx_dq tdX0_startsOf_0 27 rfl) (cF_S36 hF) (Nat.le_of_ble_eq_true rfl) (Nat.le_refl _) (Nat.le_refl _) (sX0_isAlone_mk hF hw (fun r52_4 hw => ?_))))))
      refine cl_istore hG (hx_dq tdX0_startsOf_0 28 rfl) (Nat.le_of_ble_eq_true rfl) rfl (cl_iload hG (hx_dq tdX0_startsOf_0 29 rfl) rfl (cl_if_eq hG 88 (hx_dq tdX0_startsOf_0 30 rfl) rfl (fun c59 => ?_) (fun c59 => ?_)))
      · replace hw := hw.1 c59
        exact cl_sub hG (hx_le_c rfl (hx_le_c rfl (hx_le_c rfl (hx_le_c rfl (hx_le_c rfl (hx_le_c rfl (hx_le_n (hx_le_c rfl (hx_le_c rfl hx_le_0))))))))) (kX0_startsOf_J88 hG cA hF v1 v2 v3 v4 v5 v7 r52_4 hK (fun z0 z1 z2 hw => ih z0 z1 z2 hw) hw)
      · replace hw := hw.2 c59
        refine cl_iload hG (hx_dq tdX0_startsOf_0 31 rfl) rfl (cl_if_ne hG 88 (hx_dq tdX0_startsOf_1 0 rfl) rfl (fun c64 => ?_) (fun c64 => ?_))
        · replace hw := hw.1 c64
          exact cl_sub hG (hx_le_c rfl (hx_le_c rfl (hx_le_c rfl (hx_le_c rfl (hx_le_c rfl (hx_le_c rfl (hx_le_n (hx_le_c rfl (hx_le_c rfl hx_le_0))))))))) (kX0_startsOf_J88 hG cA hF v1 v2 v3 v4 v5 v7 r52_4 hK (fun z0 z1 z2 hw => ih z0 z1 z2 hw) hw)
        · replace hw := hw.2 c64
          refine cl_iload_n hG (hx_dq tdX0_startsOf_1 1 rfl) rfl (cl_if_eq hG 85 (hx_dq tdX0_startsOf_1 2 rfl) rfl (fun c68 => ?_) (fun c68 => ?_))
          · replace hw := hw.1 c68
            exact cl_sub hG (hx_le_c rfl (hx_le_c rfl (hx_le_c rfl (hx_le_c rfl (hx_le_c rfl (hx_le_c rfl (hx_le_n (hx_le_c rfl (hx_le_c rfl hx_le_0))))))))) (kX0_startsOf_J85 hG cA hF v1 v2 v3 v4 v5 v7 r52_4 hK (fun z0 z1 z2 hw => ih z0 z1 z2 hw) hw)
          · replace hw := hw.2 c68
            refine cl_aload_n hG (hx_dq tdX0_startsOf_1 3 rfl) rfl (cl_iload hG (hx_dq tdX0_startsOf_1 4 rfl) rfl (cl_iload hG (hx_dq tdX0_startsOf_1 5 rfl) rfl (cl_iload_n hG (hx_dq tdX0_startsOf_1 6 rfl) rfl (cl_iload_n hG (hx_dq tdX0_startsOf_1 7 rfl) rfl (cl_callV4 (caX0_startsOf_67 cA) (hx_dq tdX0_startsOf_1 8 rfl) (cF_S36 hF) (Nat.le_of_ble_eq_true rfl) (Nat.le_refl _) (Nat.le_refl _) (sX0_endOf_mk hF hw (fun r78_7 hw => ?_)))))))
            refine cl_iload_n hG (hx_dq tdX0_startsOf_1 9 rfl) rfl (cl_icmp_ne hG 88 (hx_dq tdX0_startsOf_1 10 rfl) rfl (fun c82 => ?_) (fun c82 => ?_))
            · replace hw := hw.1 c82
              exact cl_sub hG (hx_le_c rfl (hx_le_c rfl (hx_le_c rfl (hx_le_c rfl (hx_le_c rfl (hx_le_c rfl (hx_le_n (hx_le_c rfl (hx_le_c rfl hx_le_0))))))))) (kX0_startsOf_J88 hG cA hF v1 v2 v3 v4 v5 v7 r52_4 hK (fun z0 z1 z2 hw => ih z0 z1 z2 hw) hw)
            · replace hw := hw.2 c82
              exact cl_sub hG (hx_le_c rfl (hx_le_c rfl (hx_le_c rfl (hx_le_c rfl (hx_le_c rfl (hx_le_c rfl (hx_le_n (hx_le_c rfl (hx_le_c rfl hx_le_0))))))))) (kX0_startsOf_J85 hG cA hF v1 v2 v3 v4 v5 v7 r52_4 hK (fun z0 z1 z2 hw => ih z0 z1 z2 hw) hw)
def wX0_startsOf_L6 (μ : hx_M) (v1 : Int32) (v2 : Int32) (v3 : Int32) (K : Int32 → Prop)  : Nat → Int32 → Int32 → Prop
  | 0, _, _ => False
  | n + 1, v4, v5 => ((μ.1 8 0) ≤ v5 → (K v4)) ∧ (¬ ((μ.1 8 0) ≤ v5) → (wX0_isAlone μ v5 0 v1 (fun r26_2 => ∃ n34_9, wX0_startsOf_L34 μ v1 v2 v3 v5 K (fun v4_8 => wX0_startsOf_L6 μ v1 v2 v3 K n v4_8 (v5 + 1)) n34_9 v4 r26_2 1)))
set_option maxRecDepth 100000 in
set_option maxHeartbeats 4000000 in
theorem kX0_startsOf_L6 {G : hx_GT} {KK : hx_KT} (hG : hx_K cX0_startsOf 9 0 0 (some .int) TbX0 KK G) (cA : hx_CA RX0 cX0_startsOf 4 0 0 G) {Λ : hx_L} (hF : cF Λ) {μ : hx_M} (v1 : Int32) (v2 : Int32) (v3 : Int32) {K : Int32 → Prop} (hK : ∀ (r : Int32), K r → KK (some (.int r)) Λ μ)  : ∀ (n : Nat) (v4 : Int32) (v5 : Int32), wX0_startsOf_L6 μ v1 v2 v3 K n v4 v5 → G Λ μ (0, 0) 6 [some (.ref 36), some (.int v1), some (.int v2), some (.int v3), some (.int v4), some (.int v5), none, none, none] [] := by
  intro n
  induction n with
  | zero =>
    intro v4 v5 hw
    exact False.elim (by simpa only [wX0_startsOf_L6] using hw)
  | succ n ih =>
    intro v4 v5 hw
    unfold wX0_startsOf_L6 at hw
    refine cl_iload hG (hx_dq tdX0_startsOf_0 4 rfl) rfl (cl_aload_n hG (hx_dq tdX0_startsOf_0 5 rfl) rfl (cl_getS hG fmX0_9 (hx_dq tdX0_startsOf_0 6 rfl) (cF_S36 hF) (cF_R36_0 hF) (cl_getS hG fmX0_55 (hx_dq tdX0_startsOf_0 7 rfl) (cF_S7 hF) (cF_R7_0 hF) (cl_getI hG fmX0_59 (hx_dq tdX0_startsOf_0 8 rfl) (cF_S8 hF) (cl_icmp_ge hG 104 (hx_dq tdX0_startsOf_0 9 rfl) rfl (fun c18 => ?_) (fun c18 => ?_))))))
    · replace hw := hw.1 c18
      exact cl_iload hG (hx_dq tdX0_startsOf_1 18 rfl) rfl (cl_iret hG (hx_dq tdX0_startsOf_1 19 rfl) rfl rfl (hK _ hw) (Nat.le_refl _) (Nat.le_refl _))
    · replace hw := hw.2 c18
      refine cl_aload_n hG (hx_dq tdX0_startsOf_0 10 rfl) rfl (cl_iload hG (hx_dq tdX0_startsOf_0 11 rfl) rfl (cl_iconst hG 0 (hx_dq tdX0_startsOf_0 12 rfl) iconst_0 (cl_iload_n hG (hx_dq tdX0_startsOf_0 13 rfl) rfl (cl_callV3 (caX0_startsOf_64 cA) (hx_dq tdX0_startsOf_0 14 rfl) (cF_S36 hF) (Nat.le_of_ble_eq_true rfl) (Nat.le_refl _) (Nat.le_refl _) (sX0_isAlone_mk hF hw (fun r26_2 hw => ?_))))))
      refine cl_istore hG (hx_dq tdX0_startsOf_0 15 rfl) (Nat.le_of_ble_eq_true rfl) rfl (cl_iconst hG 1 (hx_dq tdX0_startsOf_0 16 rfl) iconst_1 (cl_istore hG (hx_dq tdX0_startsOf_0 17 rfl) (Nat.le_of_ble_eq_true rfl) rfl ?_))
      obtain ⟨n_, hw⟩ := hw
      refine cl_sub hG (hx_le_c rfl (hx_le_c rfl (hx_le_c rfl (hx_le_c rfl (hx_le_c rfl (hx_le_c rfl (hx_le_c rfl (hx_le_c rfl (hx_le_n hx_le_0))))))))) (kX0_startsOf_L34 hG cA hF v1 v2 v3 v5 hK (fun v4_8 hw => ?_) n_ v4 r26_2 1 hw)
      · exact cl_iinc hG (v5 + 1) (hx_dq tdX0_startsOf_1 16 rfl) rfl (congrArg (fun z => v5 + z) iconst_1) (Nat.le_of_ble_eq_true rfl) rfl (cl_goto hG 6 (hx_dq tdX0_startsOf_1 17 rfl) rfl (cl_sub hG (hx_le_c rfl (hx_le_c rfl (hx_le_c rfl (hx_le_c rfl (hx_le_c rfl (hx_le_c rfl (hx_le_n (hx_le_n (hx_le_n hx_le_0))))))))) (ih v4_8 (v5 + 1) hw)))
def wX0_startsOf (μ : hx_M) (v1 : Int32) (v2 : Int32) (v3 : Int32) (K : Int32 → Prop) : Prop := ∃ n6_10, wX0_startsOf_L6 μ v1 v2 v3 K n6_10 0 0
set_option maxRecDepth 100000 in
set_option maxHeartbeats 4000000 in
theorem kX0_startsOf {G : hx_GT} {KK : hx_KT} (hG : hx_K cX0_startsOf 9 0 0 (some .int) TbX0 KK G) (cA : hx_CA RX0 cX0_startsOf 4 0 0 G) {Λ : hx_L} (hF : cF Λ) {μ : hx_M} (v1 : Int32) (v2 : Int32) (v3 : Int32) {K : Int32 → Prop} (hK : ∀ (r : Int32), K r → KK (some (.int r)) Λ μ) (hw : wX0_startsOf μ v1 v2 v3 K) : G Λ μ (0, 0) 0 [some (.ref 36), some (.int v1), some (.int v2), some (.int v3), none, none, none, none, none] [] := by
  unfold wX0_startsOf at hw
  refine cl_iconst hG 0 (hx_dq tdX0_startsOf_0 0 rfl) iconst_0 (cl_istore hG (hx_dq tdX0_startsOf_0 1 rfl) (Nat.le_of_ble_eq_true rfl) rfl (cl_iconst hG 0 (hx_dq tdX0_startsOf_0 2 rfl) iconst_0 (cl_istore hG (hx_dq tdX0_startsOf_0 3 rfl) (Nat.le_of_ble_eq_true rfl) rfl ?_)))
  obtain ⟨n_, hw⟩ := hw
  refine cl_sub hG (hx_le_c rfl (hx_le_c rfl (hx_le_c rfl (hx_le_c rfl (hx_le_c rfl (hx_le_c rfl (hx_le_n (hx_le_n (hx_le_n hx_le_0))))))))) (kX0_startsOf_L6 hG cA hF v1 v2 v3 hK n_ 0 0 hw)
def sX0_startsOf : hx_ST := fun Λ μ as KK => cF Λ ∧ ∃ (v1 : Int32) (v2 : Int32) (v3 : Int32) (K : Int32 → Prop), as = [.ref 36, .int v1, .int v2, .int v3] ∧ wX0_startsOf μ v1 v2 v3 K ∧ (∀ (r : Int32), K r → KK (some (.int r)) Λ μ)
theorem sX0_startsOf_mk {Λ : hx_L} {μ : hx_M} {KK : hx_KT} {v1 : Int32} {v2 : Int32} {v3 : Int32} {K : Int32 → Prop} (hF : cF Λ) (hw : wX0_startsOf μ v1 v2 v3 K) (hk : ∀ (r : Int32), K r → KK (some (.int r)) Λ μ) : sX0_startsOf Λ μ [.ref 36, .int v1, .int v2, .int v3] KK := ⟨hF, _, _, _, _, rfl, hw, hk⟩
theorem conX0_startsOf : hx_Con yX0_startsOf cX0_startsOf 9 (some .int) 4 0 0 sX0_startsOf := by
  refine hx_con_of (by decide +kernel) tokX0 (by decide) ?_ ?_
  · intro Λ μ as KK h
    obtain ⟨hF, v1, v2, v3, K, rfl, hw, hK⟩ := h
    exact Nat.le_of_ble_eq_true rfl
  · intro G KK hG cA Λ μ as h
    obtain ⟨hF, v1, v2, v3, K, rfl, hw, hK⟩ := h
    exact cl_sub hG (hx_le_c rfl (hx_le_c rfl (hx_le_c rfl (hx_le_c rfl (hx_le_n (hx_le_n (hx_le_n (hx_le_n (hx_le_n hx_le_0))))))))) (kX0_startsOf hG cA hF _ _ _ hK hw)
/-! HemLine$World.lineAt(I)I -/
def tbX10_lineAt_0 : List (Nat × Instr × Nat) := [(0, .aload_n 0, 1), (1, .getfield 12, 3), (4, .getfield 83, 3), (7, .ifCond .le 26, 3), (10, .aload_n 0, 1), (11, .getfield 23, 3), (14, .getfield 86, 3), (17, .iload_n 1, 1), (18, .iaload, 1), (19, .bipush 100, 2), (21, .imul, 1), (22, .aload_n 0, 1), (23, .getfield 12, 3), (26, .getfield 83, 3), (29, .idiv, 1), (30, .goto 4, 3), (33, .iconst (-1), 1), (34, .ireturn, 1)]
theorem tdX10_lineAt_0 : hx_dt cX10_lineAt tbX10_lineAt_0 = true := by decide +kernel
def wX10_lineAt (μ : hx_M) (v1 : Int32) (K : Int32 → Prop) : Prop := ((μ.1 8 0) ≤ 0 → (K (-1))) ∧ (¬ ((μ.1 8 0) ≤ 0) → (vp_in v1 301 ∧ ¬ (μ.1 8 0) = 0 ∧ K (((μ.1 17 v1.toNatClampNeg) * 100) / (μ.1 8 0))))
set_option maxRecDepth 100000 in
set_option maxHeartbeats 4000000 in
theorem kX10_lineAt {G : hx_GT} {KK : hx_KT} (hG : hx_K cX10_lineAt 2 0 0 (some .int) TbX10 KK G) (cA : hx_CA RX10 cX10_lineAt 1 0 0 G) {Λ : hx_L} (hF : cF Λ) {μ : hx_M} (v1 : Int32) {K : Int32 → Prop} (hK : ∀ (r : Int32), K r → KK (some (.int r)) Λ μ) (hw : wX10_lineAt μ v1 K) : G Λ μ (0, 0) 0 [some (.ref 7), some (.int v1)] [] := by
  unfold wX10_lineAt at hw
  refine cl_aload_n hG (hx_dq tdX10_lineAt_0 0 rfl) rfl (cl_getS hG fmX10_12 (hx_dq tdX10_lineAt_0 1 rfl) (cF_S7 hF) (cF_R7_0 hF) (cl_getI hG fmX10_83 (hx_dq tdX10_lineAt_0 2 rfl) (cF_S8 hF) (cl_if_le hG 33 (hx_dq tdX10_lineAt_0 3 rfl) rfl (fun c7 => ?_) (fun c7 => ?_))))
  · replace hw := hw.1 c7
    exact cl_iconst hG (-1) (hx_dq tdX10_lineAt_0 16 rfl) iconst_m1 (cl_iret hG (hx_dq tdX10_lineAt_0 17 rfl) rfl rfl (hK _ hw) (Nat.le_refl _) (Nat.le_refl _))
  · replace hw := hw.2 c7
    obtain ⟨i18_1, hw⟩ := hw
    obtain ⟨o29, hw⟩ := hw
    exact cl_aload_n hG (hx_dq tdX10_lineAt_0 4 rfl) rfl (cl_getS hG fmX10_23 (hx_dq tdX10_lineAt_0 5 rfl) (cF_S7 hF) (cF_R7_1 hF) (cl_getS hG fmX10_86 (hx_dq tdX10_lineAt_0 6 rfl) (cF_S15 hF) (cF_R15_2 hF) (cl_iload_n hG (hx_dq tdX10_lineAt_0 7 rfl) rfl (cl_iald hG (hx_dq tdX10_lineAt_0 8 rfl) (cF_S17 hF) i18_1 (cl_bipush hG 100 (hx_dq tdX10_lineAt_0 9 rfl) bipush_100 (cl_imul hG (hx_dq tdX10_lineAt_0 10 rfl) (cl_aload_n hG (hx_dq tdX10_lineAt_0 11 rfl) rfl (cl_getS hG fmX10_12 (hx_dq tdX10_lineAt_0 12 rfl) (cF_S7 hF) (cF_R7_0 hF) (cl_getI hG fmX10_83 (hx_dq tdX10_lineAt_0 13 rfl) (cF_S8 hF) (cl_idiv hG (hx_dq tdX10_lineAt_0 14 rfl) o29 (cl_goto hG 34 (hx_dq tdX10_lineAt_0 15 rfl) rfl (cl_iret hG (hx_dq tdX10_lineAt_0 17 rfl) rfl rfl (hK _ hw) (Nat.le_refl _) (Nat.le_refl _)))))))))))))
def sX10_lineAt : hx_ST := fun Λ μ as KK => cF Λ ∧ ∃ (v1 : Int32) (K : Int32 → Prop), as = [.ref 7, .int v1] ∧ wX10_lineAt μ v1 K ∧ (∀ (r : Int32), K r → KK (some (.int r)) Λ μ)
theorem sX10_lineAt_mk {Λ : hx_L} {μ : hx_M} {KK : hx_KT} {v1 : Int32} {K : Int32 → Prop} (hF : cF Λ) (hw : wX10_lineAt μ v1 K) (hk : ∀ (r : Int32), K r → KK (some (.int r)) Λ μ) : sX10_lineAt Λ μ [.ref 7, .int v1] KK := ⟨hF, _, _, rfl, hw, hk⟩
theorem conX10_lineAt : hx_Con yX10_lineAt cX10_lineAt 2 (some .int) 1 0 0 sX10_lineAt := by
  refine hx_con_of (by decide +kernel) tokX10 (by decide) ?_ ?_
  · intro Λ μ as KK h
    obtain ⟨hF, v1, K, rfl, hw, hK⟩ := h
    exact Nat.le_of_ble_eq_true rfl
  · intro G KK hG cA Λ μ as h
    obtain ⟨hF, v1, K, rfl, hw, hK⟩ := h
    exact cl_sub hG (hx_le_c rfl (hx_le_c rfl hx_le_0)) (kX10_lineAt hG cA hF _ hK hw)
/-! HemLine$Chronicle.mostLike(I)I -/
def tbX0_mostLike_0 : List (Nat × Instr × Nat) := [(0, .iconst (-1), 1), (1, .istore_n 2, 1), (2, .iconst 0, 1), (3, .istore_n 3, 1), (4, .iload_n 1, 1), (5, .iconst 1, 1), (6, .isub, 1), (7, .istore 4, 2), (9, .iload 4, 2), (11, .aload_n 0, 1), (12, .getfield 9, 3), (15, .getfield 15, 3), (18, .if_icmp .ge 82, 3), (21, .iconst 0, 1), (22, .istore 5, 2), (24, .iconst 0, 1), (25, .istore 6, 2), (27, .iload 6, 2), (29, .iload_n 1, 1), (30, .if_icmp .ge 47, 3), (33, .iload 5, 2), (35, .aload_n 0, 1), (36, .getfield 9, 3), (39, .iload 4, 2), (41, .iload 6, 2), (43, .isub, 1), (44, .invokevirtual 74, 3), (47, .aload_n 0, 1), (48, .getfield 9, 3), (51, .aload_n 0, 1), (52, .getfield 9, 3), (55, .getfield 15, 3)]
def tbX0_mostLike_1 : List (Nat × Instr × Nat) := [(58, .iload 6, 2), (60, .isub, 1), (61, .invokevirtual 74, 3), (64, .isub, 1), (65, .invokestatic 49, 3), (68, .iadd, 1), (69, .istore 5, 2), (71, .iinc 6 1, 3), (74, .goto (-47), 3), (77, .iload_n 2, 1), (78, .iconst (-1), 1), (79, .if_icmp .eq 9, 3), (82, .iload 5, 2), (84, .iload_n 3, 1), (85, .if_icmp .gt 9, 3), (88, .iload 4, 2), (90, .istore_n 2, 1), (91, .iload 5, 2), (93, .istore_n 3, 1), (94, .iinc 4 1, 3), (97, .goto (-88), 3), (100, .iload_n 2, 1), (101, .ireturn, 1)]
theorem tdX0_mostLike_0 : hx_dt cX0_mostLike tbX0_mostLike_0 = true := by decide +kernel
theorem tdX0_mostLike_1 : hx_dt cX0_mostLike tbX0_mostLike_1 = true := by decide +kernel
theorem caX0_mostLike_74 {G : hx_GT} (cA : hx_CA RX0 cX0_mostLike 2 0 0 G) : hx_CV cX0_mostLike G 0 0 74 10 1 sX10_lineAt 0 0 := cA.1 conX10_lineAt rfl rfl ⟨by decide +kernel, by decide +kernel, by decide +kernel⟩ mw_880 mw_792 mw_793 mw_86 mw_794 (by decide) (by decide)
def wX0_mostLike_L27 (μ : hx_M) (v1 : Int32) (v2 : Int32) (v3 : Int32) (v4 : Int32) (K : Int32 → Prop) (K77 : Int32 → Prop) : Nat → Int32 → Int32 → Prop
  | 0, _, _ => False
  | n + 1, v5, v6 => (v1 ≤ v6 → (K77 v5)) ∧ (¬ (v1 ≤ v6) → (wX10_lineAt μ (v4 - v6) (fun r44_2 => wX10_lineAt μ ((μ.1 7 7) - v6) (fun r61_4 => ∀ x_5 : Int32, x_5 = (if 0 ≤ (r44_2 - r61_4) then (r44_2 - r61_4) else 0 - (r44_2 - r61_4)) → wX0_mostLike_L27 μ v1 v2 v3 v4 K K77 n (v5 + x_5) (v6 + 1)))))
set_option maxRecDepth 100000 in
set_option maxHeartbeats 4000000 in
theorem kX0_mostLike_L27 {G : hx_GT} {KK : hx_KT} (hG : hx_K cX0_mostLike 7 0 0 (some .int) TbX0 KK G) (cA : hx_CA RX0 cX0_mostLike 2 0 0 G) {Λ : hx_L} (hF : cF Λ) {μ : hx_M} (v1 : Int32) (v2 : Int32) (v3 : Int32) (v4 : Int32) {K : Int32 → Prop} (hK : ∀ (r : Int32), K r → KK (some (.int r)) Λ μ) {K77 : Int32 → Prop} (hk77 : ∀ (v5 : Int32), K77 v5 → G Λ μ (0, 0) 77 [some (.ref 36), some (.int v1), some (.int v2), some (.int v3), some (.int v4), some (.int v5), none] []) : ∀ (n : Nat) (v5 : Int32) (v6 : Int32), wX0_mostLike_L27 μ v1 v2 v3 v4 K K77 n v5 v6 → G Λ μ (0, 0) 27 [some (.ref 36), some (.int v1), some (.int v2), some (.int v3), some (.int v4), some (.int v5), some (.int v6)] [] := by
  intro n
  induction n with
  | zero =>
    intro v5 v6 hw
    exact False.elim (by simpa only [wX0_mostLike_L27] using hw)
  | succ n ih =>
    intro v5 v6 hw
    unfold wX0_mostLike_L27 at hw
    refine cl_iload hG (hx_dq tdX0_mostLike_0 17 rfl) rfl (cl_iload_n hG (hx_dq tdX0_mostLike_0 18 rfl) rfl (cl_icmp_ge hG 77 (hx_dq tdX0_mostLike_0 19 rfl) rfl (fun c30 => ?_) (fun c30 => ?_)))
    · replace hw := hw.1 c30
      exact cl_sub hG (hx_le_c rfl (hx_le_c rfl (hx_le_c rfl (hx_le_c rfl (hx_le_c rfl (hx_le_c rfl (hx_le_n hx_le_0))))))) (hk77 v5 hw)
    · replace hw := hw.2 c30
      refine cl_iload hG (hx_dq tdX0_mostLike_0 20 rfl) rfl (cl_aload_n hG (hx_dq tdX0_mostLike_0 21 rfl) rfl (cl_getS hG fmX0_9 (hx_dq tdX0_mostLike_0 22 rfl) (cF_S36 hF) (cF_R36_0 hF) (cl_iload hG (hx_dq tdX0_mostLike_0 23 rfl) rfl (cl_iload hG (hx_dq tdX0_mostLike_0 24 rfl) rfl (cl_isub hG (hx_dq tdX0_mostLike_0 25 rfl) (cl_callV1 (caX0_mostLike_74 cA) (hx_dq tdX0_mostLike_0 26 rfl) (cF_S7 hF) (Nat.le_of_ble_eq_true rfl) (Nat.le_refl _) (Nat.le_refl _) (sX10_lineAt_mk hF hw (fun r44_2 hw => ?_))))))))
      refine cl_aload_n hG (hx_dq tdX0_mostLike_0 27 rfl) rfl (cl_getS hG fmX0_9 (hx_dq tdX0_mostLike_0 28 rfl) (cF_S36 hF) (cF_R36_0 hF) (cl_aload_n hG (hx_dq tdX0_mostLike_0 29 rfl) rfl (cl_getS hG fmX0_9 (hx_dq tdX0_mostLike_0 30 rfl) (cF_S36 hF) (cF_R36_0 hF) (cl_getI hG fmX0_15 (hx_dq tdX0_mostLike_0 31 rfl) (cF_S7 hF) (cl_iload hG (hx_dq tdX0_mostLike_1 0 rfl) rfl (cl_isub hG (hx_dq tdX0_mostLike_1 1 rfl) (cl_callV1 (caX0_mostLike_74 cA) (hx_dq tdX0_mostLike_1 2 rfl) (cF_S7 hF) (Nat.le_of_ble_eq_true rfl) (Nat.le_refl _) (Nat.le_refl _) (sX10_lineAt_mk hF hw (fun r61_4 hw => ?_)))))))))
      refine cl_isub hG (hx_dq tdX0_mostLike_1 3 rfl) (cl_mabs hG mmX0_49 (hx_dq tdX0_mostLike_1 4 rfl) (Nat.le_refl _) (Nat.le_refl _) (Nat.le_of_ble_eq_true rfl) (cl_nmI (fun x_5 e_5 => ?_)))
      replace hw := hw x_5 e_5
      exact cl_iadd hG (hx_dq tdX0_mostLike_1 5 rfl) (cl_istore hG (hx_dq tdX0_mostLike_1 6 rfl) (Nat.le_of_ble_eq_true rfl) rfl (cl_iinc hG (v6 + 1) (hx_dq tdX0_mostLike_1 7 rfl) rfl (congrArg (fun z => v6 + z) iconst_1) (Nat.le_of_ble_eq_true rfl) rfl (cl_goto hG 27 (hx_dq tdX0_mostLike_1 8 rfl) rfl (cl_sub hG (hx_le_c rfl (hx_le_c rfl (hx_le_c rfl (hx_le_c rfl (hx_le_c rfl (hx_le_c rfl (hx_le_c rfl hx_le_0))))))) (ih (v5 + x_5) (v6 + 1) hw)))))
def wX0_mostLike_J94 (μ : hx_M) (K : Int32 → Prop) (K9 : Int32 → Int32 → Int32 → Prop) (v1 : Int32) (v2 : Int32) (v3 : Int32) (v4 : Int32)   : Prop := K9 v2 v3 (v4 + 1)
set_option maxRecDepth 100000 in
set_option maxHeartbeats 4000000 in
theorem kX0_mostLike_J94 {G : hx_GT} {KK : hx_KT} (hG : hx_K cX0_mostLike 7 0 0 (some .int) TbX0 KK G) (cA : hx_CA RX0 cX0_mostLike 2 0 0 G) {Λ : hx_L} (hF : cF Λ) {μ : hx_M} (v1 : Int32) (v2 : Int32) (v3 : Int32) (v4 : Int32)  {K : Int32 → Prop} (hK : ∀ (r : Int32), K r → KK (some (.int r)) Λ μ) {K9 : Int32 → Int32 → Int32 → Prop} (hk9 : ∀ (v2 : Int32) (v3 : Int32) (v4 : Int32), K9 v2 v3 v4 → G Λ μ (0, 0) 9 [some (.ref 36), some (.int v1), some (.int v2), some (.int v3), some (.int v4), none, none] []) (hw : wX0_mostLike_J94 μ K K9 v1 v2 v3 v4) : G Λ μ (0, 0) 94 [some (.ref 36), some (.int v1), some (.int v2), some (.int v3), some (.int v4), none, none] [] := by
  unfold wX0_mostLike_J94 at hw
  exact cl_iinc hG (v4 + 1) (hx_dq tdX0_mostLike_1 19 rfl) rfl (congrArg (fun z => v4 + z) iconst_1) (Nat.le_of_ble_eq_true rfl) rfl (cl_goto hG 9 (hx_dq tdX0_mostLike_1 20 rfl) rfl (cl_sub hG (hx_le_c rfl (hx_le_c rfl (hx_le_c rfl (hx_le_c rfl (hx_le_c rfl (hx_le_n (hx_le_n hx_le_0))))))) (hk9 v2 v3 (v4 + 1) hw)))
def wX0_mostLike_J88 (μ : hx_M) (K : Int32 → Prop) (K9 : Int32 → Int32 → Int32 → Prop) (v1 : Int32) (v4 : Int32) (v5 : Int32)   : Prop := wX0_mostLike_J94 μ K (K9) v1 v4 v5 v4
set_option maxRecDepth 100000 in
set_option maxHeartbeats 4000000 in
theorem kX0_mostLike_J88 {G : hx_GT} {KK : hx_KT} (hG : hx_K cX0_mostLike 7 0 0 (some .int) TbX0 KK G) (cA : hx_CA RX0 cX0_mostLike 2 0 0 G) {Λ : hx_L} (hF : cF Λ) {μ : hx_M} (v1 : Int32) (v4 : Int32) (v5 : Int32)  {K : Int32 → Prop} (hK : ∀ (r : Int32), K r → KK (some (.int r)) Λ μ) {K9 : Int32 → Int32 → Int32 → Prop} (hk9 : ∀ (v2 : Int32) (v3 : Int32) (v4 : Int32), K9 v2 v3 v4 → G Λ μ (0, 0) 9 [some (.ref 36), some (.int v1), some (.int v2), some (.int v3), some (.int v4), none, none] []) (hw : wX0_mostLike_J88 μ K K9 v1 v4 v5) : G Λ μ (0, 0) 88 [some (.ref 36), some (.int v1), none, none, some (.int v4), some (.int v5), none] [] := by
  unfold wX0_mostLike_J88 at hw
  refine cl_iload hG (hx_dq tdX0_mostLike_1 15 rfl) rfl (cl_istore_n hG (hx_dq tdX0_mostLike_1 16 rfl) (Nat.le_of_ble_eq_true rfl) rfl (cl_iload hG (hx_dq tdX0_mostLike_1 17 rfl) rfl (cl_istore_n hG (hx_dq tdX0_mostLike_1 18 rfl) (Nat.le_of_ble_eq_true rfl) rfl ?_)))
  exact cl_sub hG (hx_le_c rfl (hx_le_c rfl (hx_le_c rfl (hx_le_c rfl (hx_le_c rfl (hx_le_n (hx_le_n hx_le_0))))))) (kX0_mostLike_J94 hG cA hF v1 v4 v5 v4 hK (fun z0 z1 z2 hw => hk9 z0 z1 z2 hw) hw)
def wX0_mostLike_J94_7 (μ : hx_M) (K : Int32 → Prop) (K9 : Int32 → Int32 → Int32 → Prop) (v1 : Int32) (v2 : Int32) (v3 : Int32) (v4 : Int32)   : Prop := K9 v2 v3 (v4 + 1)
set_option maxRecDepth 100000 in
set_option maxHeartbeats 4000000 in
theorem kX0_mostLike_J94_7 {G : hx_GT} {KK : hx_KT} (hG : hx_K cX0_mostLike 7 0 0 (some .int) TbX0 KK G) (cA : hx_CA RX0 cX0_mostLike 2 0 0 G) {Λ : hx_L} (hF : cF Λ) {μ : hx_M} (v1 : Int32) (v2 : Int32) (v3 : Int32) (v4 : Int32)  {K : Int32 → Prop} (hK : ∀ (r : Int32), K r → KK (some (.int r)) Λ μ) {K9 : Int32 → Int32 → Int32 → Prop} (hk9 : ∀ (v2 : Int32) (v3 : Int32) (v4 : Int32), K9 v2 v3 v4 → G Λ μ (0, 0) 9 [some (.ref 36), some (.int v1), some (.int v2), some (.int v3), some (.int v4), none, none] []) (hw : wX0_mostLike_J94_7 μ K K9 v1 v2 v3 v4) : G Λ μ (0, 0) 94 [some (.ref 36), some (.int v1), some (.int v2), some (.int v3), some (.int v4), none, none] [] := by
  unfold wX0_mostLike_J94_7 at hw
  exact cl_iinc hG (v4 + 1) (hx_dq tdX0_mostLike_1 19 rfl) rfl (congrArg (fun z => v4 + z) iconst_1) (Nat.le_of_ble_eq_true rfl) rfl (cl_goto hG 9 (hx_dq tdX0_mostLike_1 20 rfl) rfl (cl_sub hG (hx_le_c rfl (hx_le_c rfl (hx_le_c rfl (hx_le_c rfl (hx_le_c rfl (hx_le_n (hx_le_n hx_le_0))))))) (hk9 v2 v3 (v4 + 1) hw)))
def wX0_mostLike_L9 (μ : hx_M) (v1 : Int32) (K : Int32 → Prop)  : Nat → Int32 → Int32 → Int32 → Prop
  | 0, _, _, _ => False
  | n + 1, v2, v3, v4 => ((μ.1 7 7) ≤ v4 → (K v2)) ∧ (¬ ((μ.1 7 7) ≤ v4) → (∃ n27_8, wX0_mostLike_L27 μ v1 v2 v3 v4 K (fun v5_6 => (v2 = (-1) → (wX0_mostLike_J88 μ K (wX0_mostLike_L9 μ v1 K n) v1 v4 v5_6)) ∧ (¬ (v2 = (-1)) → ((v3 < v5_6 → (wX0_mostLike_J94_7 μ K (wX0_mostLike_L9 μ v1 K n) v1 v2 v3 v4)) ∧ (¬ (v3 < v5_6) → (wX0_mostLike_J88 μ K (wX0_mostLike_L9 μ v1 K n) v1 v4 v5_6))))) n27_8 0 0))
set_option maxRecDepth 100000 in
set_option maxHeartbeats 4000000 in
theorem kX0_mostLike_L9 {G : hx_GT} {KK : hx_KT} (hG : hx_K cX0_mostLike 7 0 0 (some .int) TbX0 KK G) (cA : hx_CA RX0 cX0_mostLike 2 0 0 G) {Λ : hx_L} (hF : cF Λ) {μ : hx_M} (v1 : Int32) {K : Int32 → Prop} (hK : ∀ (r : Int32), K r → KK (some (.int r)) Λ μ)  : ∀ (n : Nat) (v2 : Int32) (v3 : Int32) (v4 : Int32), wX0_mostLike_L9 μ v1 K n v2 v3 v4 → G Λ μ (0, 0) 9 [some (.ref 36), some (.int v1), some (.int v2), some (.int v3), some (.int v4), none, none] [] := by
  intro n
  induction n with
  | zero =>
    intro v2 v3 v4 hw
    exact False.elim (by simpa only [wX0_mostLike_L9] using hw)
  | succ n ih =>
    intro v2 v3 v4 hw
    unfold wX0_mostLike_L9 at hw
    refine cl_iload hG (hx_dq tdX0_mostLike_0 8 rfl) rfl (cl_aload_n hG (hx_dq tdX0_mostLike_0 9 rfl) rfl (cl_getS hG fmX0_9 (hx_dq tdX0_mostLike_0 10 rfl) (cF_S36 hF) (cF_R36_0 hF) (cl_getI hG fmX0_15 (hx_dq tdX0_mostLike_0 11 rfl) (cF_S7 hF) (cl_icmp_ge hG 100 (hx_dq tdX0_mostLike_0 12 rfl) rfl (fun c18 => ?_) (fun c18 => ?_)))))
    · replace hw := hw.1 c18
      exact cl_iload_n hG (hx_dq tdX0_mostLike_1 21 rfl) rfl (cl_iret hG (hx_dq tdX0_mostLike_1 22 rfl) rfl rfl (hK _ hw) (Nat.le_refl _) (Nat.le_refl _))
    · replace hw := hw.2 c18
      refine cl_iconst hG 0 (hx_dq tdX0_mostLike_0 13 rfl) iconst_0 (cl_istore hG (hx_dq tdX0_mostLike_0 14 rfl) (Nat.le_of_ble_eq_true rfl) rfl (cl_iconst hG 0 (hx_dq tdX0_mostLike_0 15 rfl) iconst_0 (cl_istore hG (hx_dq tdX0_mostLike_0 16 rfl) (Nat.le_of_ble_eq_true rfl) rfl ?_)))
      obtain ⟨n_, hw⟩ := hw
      refine cl_sub hG (hx_le_c rfl (hx_le_c rfl (hx_le_c rfl (hx_le_c rfl (hx_le_c rfl (hx_le_c rfl (hx_le_c rfl hx_le_0))))))) (kX0_mostLike_L27 hG cA hF v1 v2 v3 v4 hK (fun v5_6 hw => ?_) n_ 0 0 hw)
      · refine cl_iload_n hG (hx_dq tdX0_mostLike_1 9 rfl) rfl (cl_iconst hG (-1) (hx_dq tdX0_mostLike_1 10 rfl) iconst_m1 (cl_icmp_eq hG 88 (hx_dq tdX0_mostLike_1 11 rfl) rfl (fun c79 => ?_) (fun c79 => ?_)))
        · replace hw := hw.1 c79
          exact cl_sub hG (hx_le_c rfl (hx_le_c rfl (hx_le_n (hx_le_n (hx_le_c rfl (hx_le_c rfl (hx_le_n hx_le_0))))))) (kX0_mostLike_J88 hG cA hF v1 v4 v5_6 hK (fun z0 z1 z2 hw => ih z0 z1 z2 hw) hw)
        · replace hw := hw.2 c79
          refine cl_iload hG (hx_dq tdX0_mostLike_1 12 rfl) rfl (cl_iload_n hG (hx_dq tdX0_mostLike_1 13 rfl) rfl (cl_icmp_gt hG 94 (hx_dq tdX0_mostLike_1 14 rfl) rfl (fun c85 => ?_) (fun c85 => ?_)))
          · replace hw := hw.1 c85
            exact cl_sub hG (hx_le_c rfl (hx_le_c rfl (hx_le_c rfl (hx_le_c rfl (hx_le_c rfl (hx_le_n (hx_le_n hx_le_0))))))) (kX0_mostLike_J94_7 hG cA hF v1 v2 v3 v4 hK (fun z0 z1 z2 hw => ih z0 z1 z2 hw) hw)
          · replace hw := hw.2 c85
            exact cl_sub hG (hx_le_c rfl (hx_le_c rfl (hx_le_n (hx_le_n (hx_le_c rfl (hx_le_c rfl (hx_le_n hx_le_0))))))) (kX0_mostLike_J88 hG cA hF v1 v4 v5_6 hK (fun z0 z1 z2 hw => ih z0 z1 z2 hw) hw)
def wX0_mostLike (μ : hx_M) (v1 : Int32) (K : Int32 → Prop) : Prop := ∃ n9_9, wX0_mostLike_L9 μ v1 K n9_9 (-1) 0 (v1 - 1)
set_option maxRecDepth 100000 in
set_option maxHeartbeats 4000000 in
theorem kX0_mostLike {G : hx_GT} {KK : hx_KT} (hG : hx_K cX0_mostLike 7 0 0 (some .int) TbX0 KK G) (cA : hx_CA RX0 cX0_mostLike 2 0 0 G) {Λ : hx_L} (hF : cF Λ) {μ : hx_M} (v1 : Int32) {K : Int32 → Prop} (hK : ∀ (r : Int32), K r → KK (some (.int r)) Λ μ) (hw : wX0_mostLike μ v1 K) : G Λ μ (0, 0) 0 [some (.ref 36), some (.int v1), none, none, none, none, none] [] := by
  unfold wX0_mostLike at hw
  refine cl_iconst hG (-1) (hx_dq tdX0_mostLike_0 0 rfl) iconst_m1 (cl_istore_n hG (hx_dq tdX0_mostLike_0 1 rfl) (Nat.le_of_ble_eq_true rfl) rfl (cl_iconst hG 0 (hx_dq tdX0_mostLike_0 2 rfl) iconst_0 (cl_istore_n hG (hx_dq tdX0_mostLike_0 3 rfl) (Nat.le_of_ble_eq_true rfl) rfl (cl_iload_n hG (hx_dq tdX0_mostLike_0 4 rfl) rfl (cl_iconst hG 1 (hx_dq tdX0_mostLike_0 5 rfl) iconst_1 (cl_isub hG (hx_dq tdX0_mostLike_0 6 rfl) (cl_istore hG (hx_dq tdX0_mostLike_0 7 rfl) (Nat.le_of_ble_eq_true rfl) rfl ?_)))))))
  obtain ⟨n_, hw⟩ := hw
  refine cl_sub hG (hx_le_c rfl (hx_le_c rfl (hx_le_c rfl (hx_le_c rfl (hx_le_c rfl (hx_le_n (hx_le_n hx_le_0))))))) (kX0_mostLike_L9 hG cA hF v1 hK n_ (-1) 0 (v1 - 1) hw)
def sX0_mostLike : hx_ST := fun Λ μ as KK => cF Λ ∧ ∃ (v1 : Int32) (K : Int32 → Prop), as = [.ref 36, .int v1] ∧ wX0_mostLike μ v1 K ∧ (∀ (r : Int32), K r → KK (some (.int r)) Λ μ)
theorem sX0_mostLike_mk {Λ : hx_L} {μ : hx_M} {KK : hx_KT} {v1 : Int32} {K : Int32 → Prop} (hF : cF Λ) (hw : wX0_mostLike μ v1 K) (hk : ∀ (r : Int32), K r → KK (some (.int r)) Λ μ) : sX0_mostLike Λ μ [.ref 36, .int v1] KK := ⟨hF, _, _, rfl, hw, hk⟩
theorem conX0_mostLike : hx_Con yX0_mostLike cX0_mostLike 7 (some .int) 2 0 0 sX0_mostLike := by
  refine hx_con_of (by decide +kernel) tokX0 (by decide) ?_ ?_
  · intro Λ μ as KK h
    obtain ⟨hF, v1, K, rfl, hw, hK⟩ := h
    exact Nat.le_of_ble_eq_true rfl
  · intro G KK hG cA Λ μ as h
    obtain ⟨hF, v1, K, rfl, hw, hK⟩ := h
    exact cl_sub hG (hx_le_c rfl (hx_le_c rfl (hx_le_n (hx_le_n (hx_le_n (hx_le_n (hx_le_n hx_le_0))))))) (kX0_mostLike hG cA hF _ hK hw)
/-! HemLine$Chronicle.visitsOf(II)I -/
def tbX0_visitsOf_0 : List (Nat × Instr × Nat) := [(0, .iconst 0, 1), (1, .istore_n 3, 1), (2, .iconst 0, 1), (3, .istore 4, 2), (5, .iconst 0, 1), (6, .istore 5, 2), (8, .iconst (-1), 1), (9, .istore 6, 2), (11, .iconst 0, 1), (12, .istore 7, 2), (14, .iload 7, 2), (16, .aload_n 0, 1), (17, .getfield 9, 3), (20, .getfield 15, 3), (23, .if_icmp .gt 80, 3), (26, .aload_n 0, 1), (27, .getfield 9, 3), (30, .iload 7, 2), (32, .invokevirtual 74, 3), (35, .bipush 100, 2), (37, .iload_n 1, 1), (38, .imul, 1), (39, .isub, 1), (40, .invokestatic 49, 3), (43, .bipush 100, 2), (45, .if_icmp .ge 52, 3), (48, .iinc 3 1, 3), (51, .iload 6, 2), (53, .iconst (-1), 1), (54, .if_icmp .eq 12, 3), (57, .iload 6, 2), (59, .iload 7, 2)]
def tbX0_visitsOf_1 : List (Nat × Instr × Nat) := [(61, .iconst 1, 1), (62, .isub, 1), (63, .if_icmp .ge 30, 3), (66, .iinc 4 1, 3), (69, .iload 6, 2), (71, .iconst (-1), 1), (72, .if_icmp .ne 7, 3), (75, .iconst 0, 1), (76, .goto 15, 3), (79, .iload 5, 2), (81, .iload 7, 2), (83, .iconst 1, 1), (84, .isub, 1), (85, .iload 6, 2), (87, .isub, 1), (88, .invokestatic 77, 3), (91, .istore 5, 2), (93, .iload 7, 2), (95, .istore 6, 2), (97, .iinc 7 1, 3), (100, .goto (-86), 3), (103, .iload_n 2, 1), (104, .ifCond .ne 7, 3), (107, .iload_n 3, 1), (108, .goto 15, 3), (111, .iload_n 2, 1), (112, .iconst 1, 1), (113, .if_icmp .ne 8, 3), (116, .iload 4, 2), (118, .goto 5, 3), (121, .iload 5, 2), (123, .ireturn, 1)]
theorem tdX0_visitsOf_0 : hx_dt cX0_visitsOf tbX0_visitsOf_0 = true := by decide +kernel
theorem tdX0_visitsOf_1 : hx_dt cX0_visitsOf tbX0_visitsOf_1 = true := by decide +kernel
theorem caX0_visitsOf_74 {G : hx_GT} (cA : hx_CA RX0 cX0_visitsOf 2 0 0 G) : hx_CV cX0_visitsOf G 0 0 74 10 1 sX10_lineAt 0 0 := cA.1 conX10_lineAt rfl rfl ⟨by decide +kernel, by decide +kernel, by decide +kernel⟩ mw_880 mw_792 mw_793 mw_86 mw_794 (by decide) (by decide)
def wX0_visitsOf_J97 (μ : hx_M) (K : Int32 → Prop) (K14 : Int32 → Int32 → Int32 → Int32 → Int32 → Prop) (v1 : Int32) (v2 : Int32) (v3 : Int32) (v4 : Int32) (v5 : Int32) (v6 : Int32) (v7 : Int32)   : Prop := K14 v3 v4 v5 v6 (v7 + 1)
set_option maxRecDepth 100000 in
set_option maxHeartbeats 4000000 in
theorem kX0_visitsOf_J97 {G : hx_GT} {KK : hx_KT} (hG : hx_K cX0_visitsOf 8 0 0 (some .int) TbX0 KK G) (cA : hx_CA RX0 cX0_visitsOf 2 0 0 G) {Λ : hx_L} (hF : cF Λ) {μ : hx_M} (v1 : Int32) (v2 : Int32) (v3 : Int32) (v4 : Int32) (v5 : Int32) (v6 : Int32) (v7 : Int32)  {K : Int32 → Prop} (hK : ∀ (r : Int32), K r → KK (some (.int r)) Λ μ) {K14 : Int32 → Int32 → Int32 → Int32 → Int32 → Prop} (hk14 : ∀ (v3 : Int32) (v4 : Int32) (v5 : Int32) (v6 : Int32) (v7 : Int32), K14 v3 v4 v5 v6 v7 → G Λ μ (0, 0) 14 [some (.ref 36), some (.int v1), some (.int v2), some (.int v3), some (.int v4), some (.int v5), some (.int v6), some (.int v7)] []) (hw : wX0_visitsOf_J97 μ K K14 v1 v2 v3 v4 v5 v6 v7) : G Λ μ (0, 0) 97 [some (.ref 36), some (.int v1), some (.int v2), some (.int v3), some (.int v4), some (.int v5), some (.int v6), some (.int v7)] [] := by
  unfold wX0_visitsOf_J97 at hw
  exact cl_iinc hG (v7 + 1) (hx_dq tdX0_visitsOf_1 19 rfl) rfl (congrArg (fun z => v7 + z) iconst_1) (Nat.le_of_ble_eq_true rfl) rfl (cl_goto hG 14 (hx_dq tdX0_visitsOf_1 20 rfl) rfl (cl_sub hG (hx_le_c rfl (hx_le_c rfl (hx_le_c rfl (hx_le_c rfl (hx_le_c rfl (hx_le_c rfl (hx_le_c rfl (hx_le_c rfl hx_le_0)))))))) (hk14 v3 v4 v5 v6 (v7 + 1) hw)))
def wX0_visitsOf_J97_5 (μ : hx_M) (K : Int32 → Prop) (K14 : Int32 → Int32 → Int32 → Int32 → Int32 → Prop) (v1 : Int32) (v2 : Int32) (v3 : Int32) (v4 : Int32) (v5 : Int32) (v6 : Int32) (v7 : Int32)   : Prop := K14 v3 v4 v5 v6 (v7 + 1)
set_option maxRecDepth 100000 in
set_option maxHeartbeats 4000000 in
theorem kX0_visitsOf_J97_5 {G : hx_GT} {KK : hx_KT} (hG : hx_K cX0_visitsOf 8 0 0 (some .int) TbX0 KK G) (cA : hx_CA RX0 cX0_visitsOf 2 0 0 G) {Λ : hx_L} (hF : cF Λ) {μ : hx_M} (v1 : Int32) (v2 : Int32) (v3 : Int32) (v4 : Int32) (v5 : Int32) (v6 : Int32) (v7 : Int32)  {K : Int32 → Prop} (hK : ∀ (r : Int32), K r → KK (some (.int r)) Λ μ) {K14 : Int32 → Int32 → Int32 → Int32 → Int32 → Prop} (hk14 : ∀ (v3 : Int32) (v4 : Int32) (v5 : Int32) (v6 : Int32) (v7 : Int32), K14 v3 v4 v5 v6 v7 → G Λ μ (0, 0) 14 [some (.ref 36), some (.int v1), some (.int v2), some (.int v3), some (.int v4), some (.int v5), some (.int v6), some (.int v7)] []) (hw : wX0_visitsOf_J97_5 μ K K14 v1 v2 v3 v4 v5 v6 v7) : G Λ μ (0, 0) 97 [some (.ref 36), some (.int v1), some (.int v2), some (.int v3), some (.int v4), some (.int v5), some (.int v6), some (.int v7)] [] := by
  unfold wX0_visitsOf_J97_5 at hw
  exact cl_iinc hG (v7 + 1) (hx_dq tdX0_visitsOf_1 19 rfl) rfl (congrArg (fun z => v7 + z) iconst_1) (Nat.le_of_ble_eq_true rfl) rfl (cl_goto hG 14 (hx_dq tdX0_visitsOf_1 20 rfl) rfl (cl_sub hG (hx_le_c rfl (hx_le_c rfl (hx_le_c rfl (hx_le_c rfl (hx_le_c rfl (hx_le_c rfl (hx_le_c rfl (hx_le_c rfl hx_le_0)))))))) (hk14 v3 v4 v5 v6 (v7 + 1) hw)))
def wX0_visitsOf_J93 (μ : hx_M) (K : Int32 → Prop) (K14 : Int32 → Int32 → Int32 → Int32 → Int32 → Prop) (v1 : Int32) (v2 : Int32) (v3 : Int32) (v4 : Int32) (v5 : Int32) (v7 : Int32)   : Prop := wX0_visitsOf_J97_5 μ K (K14) v1 v2 v3 v4 v5 v7 v7
set_option maxRecDepth 100000 in
set_option maxHeartbeats 4000000 in
theorem kX0_visitsOf_J93 {G : hx_GT} {KK : hx_KT} (hG : hx_K cX0_visitsOf 8 0 0 (some .int) TbX0 KK G) (cA : hx_CA RX0 cX0_visitsOf 2 0 0 G) {Λ : hx_L} (hF : cF Λ) {μ : hx_M} (v1 : Int32) (v2 : Int32) (v3 : Int32) (v4 : Int32) (v5 : Int32) (v7 : Int32)  {K : Int32 → Prop} (hK : ∀ (r : Int32), K r → KK (some (.int r)) Λ μ) {K14 : Int32 → Int32 → Int32 → Int32 → Int32 → Prop} (hk14 : ∀ (v3 : Int32) (v4 : Int32) (v5 : Int32) (v6 : Int32) (v7 : Int32), K14 v3 v4 v5 v6 v7 → G Λ μ (0, 0) 14 [some (.ref 36), some (.int v1), some (.int v2), some (.int v3), some (.int v4), some (.int v5), some (.int v6), some (.int v7)] []) (hw : wX0_visitsOf_J93 μ K K14 v1 v2 v3 v4 v5 v7) : G Λ μ (0, 0) 93 [some (.ref 36), some (.int v1), some (.int v2), some (.int v3), some (.int v4), some (.int v5), none, some (.int v7)] [] := by
  unfold wX0_visitsOf_J93 at hw
  refine cl_iload hG (hx_dq tdX0_visitsOf_1 17 rfl) rfl (cl_istore hG (hx_dq tdX0_visitsOf_1 18 rfl) (Nat.le_of_ble_eq_true rfl) rfl ?_)
  exact cl_sub hG (hx_le_c rfl (hx_le_c rfl (hx_le_c rfl (hx_le_c rfl (hx_le_c rfl (hx_le_c rfl (hx_le_c rfl (hx_le_c rfl hx_le_0)))))))) (kX0_visitsOf_J97_5 hG cA hF v1 v2 v3 v4 v5 v7 v7 hK (fun z0 z1 z2 z3 z4 hw => hk14 z0 z1 z2 z3 z4 hw) hw)
def wX0_visitsOf_J91 (μ : hx_M) (K : Int32 → Prop) (K14 : Int32 → Int32 → Int32 → Int32 → Int32 → Prop) (v1 : Int32) (v2 : Int32) (v3 : Int32) (v4 : Int32) (v7 : Int32) (t0 : Int32)  : Prop := wX0_visitsOf_J93 μ K (K14) v1 v2 v3 v4 t0 v7
set_option maxRecDepth 100000 in
set_option maxHeartbeats 4000000 in
theorem kX0_visitsOf_J91 {G : hx_GT} {KK : hx_KT} (hG : hx_K cX0_visitsOf 8 0 0 (some .int) TbX0 KK G) (cA : hx_CA RX0 cX0_visitsOf 2 0 0 G) {Λ : hx_L} (hF : cF Λ) {μ : hx_M} (v1 : Int32) (v2 : Int32) (v3 : Int32) (v4 : Int32) (v7 : Int32) (t0 : Int32) {K : Int32 → Prop} (hK : ∀ (r : Int32), K r → KK (some (.int r)) Λ μ) {K14 : Int32 → Int32 → Int32 → Int32 → Int32 → Prop} (hk14 : ∀ (v3 : Int32) (v4 : Int32) (v5 : Int32) (v6 : Int32) (v7 : Int32), K14 v3 v4 v5 v6 v7 → G Λ μ (0, 0) 14 [some (.ref 36), some (.int v1), some (.int v2), some (.int v3), some (.int v4), some (.int v5), some (.int v6), some (.int v7)] []) (hw : wX0_visitsOf_J91 μ K K14 v1 v2 v3 v4 v7 t0) : G Λ μ (0, 0) 91 [some (.ref 36), some (.int v1), some (.int v2), some (.int v3), some (.int v4), none, none, some (.int v7)] [.int t0] := by
  unfold wX0_visitsOf_J91 at hw
  refine cl_istore hG (hx_dq tdX0_visitsOf_1 16 rfl) (Nat.le_of_ble_eq_true rfl) rfl ?_
  exact cl_sub hG (hx_le_c rfl (hx_le_c rfl (hx_le_c rfl (hx_le_c rfl (hx_le_c rfl (hx_le_c rfl (hx_le_n (hx_le_c rfl hx_le_0)))))))) (kX0_visitsOf_J93 hG cA hF v1 v2 v3 v4 t0 v7 hK (fun z0 z1 z2 z3 z4 hw => hk14 z0 z1 z2 z3 z4 hw) hw)
def wX0_visitsOf_J66 (μ : hx_M) (K : Int32 → Prop) (K14 : Int32 → Int32 → Int32 → Int32 → Int32 → Prop) (v1 : Int32) (v2 : Int32) (v3 : Int32) (v4 : Int32) (v5 : Int32) (v6 : Int32) (v7 : Int32)   : Prop := (v6 ≠ (-1) → (∀ x_4 : Int32, x_4 = (if v5 < ((v7 - 1) - v6) then ((v7 - 1) - v6) else v5) → wX0_visitsOf_J91 μ K (K14) v1 v2 v3 (v4 + 1) v7 x_4)) ∧ (v6 = (-1) → (wX0_visitsOf_J91 μ K (K14) v1 v2 v3 (v4 + 1) v7 0))
set_option maxRecDepth 100000 in
set_option maxHeartbeats 4000000 in
theorem kX0_visitsOf_J66 {G : hx_GT} {KK : hx_KT} (hG : hx_K cX0_visitsOf 8 0 0 (some .int) TbX0 KK G) (cA : hx_CA RX0 cX0_visitsOf 2 0 0 G) {Λ : hx_L} (hF : cF Λ) {μ : hx_M} (v1 : Int32) (v2 : Int32) (v3 : Int32) (v4 : Int32) (v5 : Int32) (v6 : Int32) (v7 : Int32)  {K : Int32 → Prop} (hK : ∀ (r : Int32), K r → KK (some (.int r)) Λ μ) {K14 : Int32 → Int32 → Int32 → Int32 → Int32 → Prop} (hk14 : ∀ (v3 : Int32) (v4 : Int32) (v5 : Int32) (v6 : Int32) (v7 : Int32), K14 v3 v4 v5 v6 v7 → G Λ μ (0, 0) 14 [some (.ref 36), some (.int v1), some (.int v2), some (.int v3), some (.int v4), some (.int v5), some (.int v6), some (.int v7)] []) (hw : wX0_visitsOf_J66 μ K K14 v1 v2 v3 v4 v5 v6 v7) : G Λ μ (0, 0) 66 [some (.ref 36), some (.int v1), some (.int v2), some (.int v3), some (.int v4), some (.int v5), some (.int v6), some (.int v7)] [] := by
  unfold wX0_visitsOf_J66 at hw
  refine cl_iinc hG (v4 + 1) (hx_dq tdX0_visitsOf_1 3 rfl) rfl (congrArg (fun z => v4 + z) iconst_1) (Nat.le_of_ble_eq_true rfl) rfl (cl_iload hG (hx_dq tdX0_visitsOf_1 4 rfl) rfl (cl_iconst hG (-1) (hx_dq tdX0_visitsOf_1 5 rfl) iconst_m1 (cl_icmp_ne hG 79 (hx_dq tdX0_visitsOf_1 6 rfl) rfl (fun c72 => ?_) (fun c72 => ?_))))
  · replace hw := hw.1 c72
    refine cl_iload hG (hx_dq tdX0_visitsOf_1 9 rfl) rfl (cl_iload hG (hx_dq tdX0_visitsOf_1 10 rfl) rfl (cl_iconst hG 1 (hx_dq tdX0_visitsOf_1 11 rfl) iconst_1 (cl_isub hG (hx_dq tdX0_visitsOf_1 12 rfl) (cl_iload hG (hx_dq tdX0_visitsOf_1 13 rfl) rfl (cl_isub hG (hx_dq tdX0_visitsOf_1 14 rfl) (cl_mmax hG mmX0_77 (hx_dq tdX0_visitsOf_1 15 rfl) (Nat.le_refl _) (Nat.le_refl _) (Nat.le_of_ble_eq_true rfl) (cl_nmI (fun x_4 e_4 => ?_))))))))
    replace hw := hw x_4 e_4
    exact cl_sub hG (hx_le_c rfl (hx_le_c rfl (hx_le_c rfl (hx_le_c rfl (hx_le_c rfl (hx_le_n (hx_le_n (hx_le_c rfl hx_le_0)))))))) (kX0_visitsOf_J91 hG cA hF v1 v2 v3 (v4 + 1) v7 x_4 hK (fun z0 z1 z2 z3 z4 hw => hk14 z0 z1 z2 z3 z4 hw) hw)
  · replace hw := hw.2 c72
    refine cl_iconst hG 0 (hx_dq tdX0_visitsOf_1 7 rfl) iconst_0 (cl_goto hG 91 (hx_dq tdX0_visitsOf_1 8 rfl) rfl ?_)
    exact cl_sub hG (hx_le_c rfl (hx_le_c rfl (hx_le_c rfl (hx_le_c rfl (hx_le_c rfl (hx_le_n (hx_le_n (hx_le_c rfl hx_le_0)))))))) (kX0_visitsOf_J91 hG cA hF v1 v2 v3 (v4 + 1) v7 0 hK (fun z0 z1 z2 z3 z4 hw => hk14 z0 z1 z2 z3 z4 hw) hw)
def wX0_visitsOf_J97_7 (μ : hx_M) (K : Int32 → Prop) (K14 : Int32 → Int32 → Int32 → Int32 → Int32 → Prop) (v1 : Int32) (v2 : Int32) (v3 : Int32) (v4 : Int32) (v5 : Int32) (v6 : Int32) (v7 : Int32)   : Prop := K14 v3 v4 v5 v6 (v7 + 1)
set_option maxRecDepth 100000 in
set_option maxHeartbeats 4000000 in
theorem kX0_visitsOf_J97_7 {G : hx_GT} {KK : hx_KT} (hG : hx_K cX0_visitsOf 8 0 0 (some .int) TbX0 KK G) (cA : hx_CA RX0 cX0_visitsOf 2 0 0 G) {Λ : hx_L} (hF : cF Λ) {μ : hx_M} (v1 : Int32) (v2 : Int32) (v3 : Int32) (v4 : Int32) (v5 : Int32) (v6 : Int32) (v7 : Int32)  {K : Int32 → Prop} (hK : ∀ (r : Int32), K r → KK (some (.int r)) Λ μ) {K14 : Int32 → Int32 → Int32 → Int32 → Int32 → Prop} (hk14 : ∀ (v3 : Int32) (v4 : Int32) (v5 : Int32) (v6 : Int32) (v7 : Int32), K14 v3 v4 v5 v6 v7 → G Λ μ (0, 0) 14 [some (.ref 36), some (.int v1), some (.int v2), some (.int v3), some (.int v4), some (.int v5), some (.int v6), some (.int v7)] []) (hw : wX0_visitsOf_J97_7 μ K K14 v1 v2 v3 v4 v5 v6 v7) : G Λ μ (0, 0) 97 [some (.ref 36), some (.int v1), some (.int v2), some (.int v3), some (.int v4), some (.int v5), some (.int v6), some (.int v7)] [] := by
  unfold wX0_visitsOf_J97_7 at hw
  exact cl_iinc hG (v7 + 1) (hx_dq tdX0_visitsOf_1 19 rfl) rfl (congrArg (fun z => v7 + z) iconst_1) (Nat.le_of_ble_eq_true rfl) rfl (cl_goto hG 14 (hx_dq tdX0_visitsOf_1 20 rfl) rfl (cl_sub hG (hx_le_c rfl (hx_le_c rfl (hx_le_c rfl (hx_le_c rfl (hx_le_c rfl (hx_le_c rfl (hx_le_c rfl (hx_le_c rfl hx_le_0)))))))) (hk14 v3 v4 v5 v6 (v7 + 1) hw)))
def wX0_visitsOf_J93_6 (μ : hx_M) (K : Int32 → Prop) (K14 : Int32 → Int32 → Int32 → Int32 → Int32 → Prop) (v1 : Int32) (v2 : Int32) (v3 : Int32) (v4 : Int32) (v5 : Int32) (v7 : Int32)   : Prop := wX0_visitsOf_J97_7 μ K (K14) v1 v2 v3 v4 v5 v7 v7
set_option maxRecDepth 100000 in
set_option maxHeartbeats 4000000 in
theorem kX0_visitsOf_J93_6 {G : hx_GT} {KK : hx_KT} (hG : hx_K cX0_visitsOf 8 0 0 (some .int) TbX0 KK G) (cA : hx_CA RX0 cX0_visitsOf 2 0 0 G) {Λ : hx_L} (hF : cF Λ) {μ : hx_M} (v1 : Int32) (v2 : Int32) (v3 : Int32) (v4 : Int32) (v5 : Int32) (v7 : Int32)  {K : Int32 → Prop} (hK : ∀ (r : Int32), K r → KK (some (.int r)) Λ μ) {K14 : Int32 → Int32 → Int32 → Int32 → Int32 → Prop} (hk14 : ∀ (v3 : Int32) (v4 : Int32) (v5 : Int32) (v6 : Int32) (v7 : Int32), K14 v3 v4 v5 v6 v7 → G Λ μ (0, 0) 14 [some (.ref 36), some (.int v1), some (.int v2), some (.int v3), some (.int v4), some (.int v5), some (.int v6), some (.int v7)] []) (hw : wX0_visitsOf_J93_6 μ K K14 v1 v2 v3 v4 v5 v7) : G Λ μ (0, 0) 93 [some (.ref 36), some (.int v1), some (.int v2), some (.int v3), some (.int v4), some (.int v5), none, some (.int v7)] [] := by
  unfold wX0_visitsOf_J93_6 at hw
  refine cl_iload hG (hx_dq tdX0_visitsOf_1 17 rfl) rfl (cl_istore hG (hx_dq tdX0_visitsOf_1 18 rfl) (Nat.le_of_ble_eq_true rfl) rfl ?_)
  exact cl_sub hG (hx_le_c rfl (hx_le_c rfl (hx_le_c rfl (hx_le_c rfl (hx_le_c rfl (hx_le_c rfl (hx_le_c rfl (hx_le_c rfl hx_le_0)))))))) (kX0_visitsOf_J97_7 hG cA hF v1 v2 v3 v4 v5 v7 v7 hK (fun z0 z1 z2 z3 z4 hw => hk14 z0 z1 z2 z3 z4 hw) hw)
def wX0_visitsOf_L14 (μ : hx_M) (v1 : Int32) (v2 : Int32) (K : Int32 → Prop) (K103 : Int32 → Int32 → Int32 → Prop) : Nat → Int32 → Int32 → Int32 → Int32 → Int32 → Prop
  | 0, _, _, _, _, _ => False
  | n + 1, v3, v4, v5, v6, v7 => ((μ.1 7 7) < v7 → (K103 v3 v4 v5)) ∧ (¬ ((μ.1 7 7) < v7) → (wX10_lineAt μ v7 (fun r32_2 => ∀ x_3 : Int32, x_3 = (if 0 ≤ (r32_2 - (100 * v1)) then (r32_2 - (100 * v1)) else 0 - (r32_2 - (100 * v1))) → (100 ≤ x_3 → (wX0_visitsOf_J97 μ K (wX0_visitsOf_L14 μ v1 v2 K K103 n) v1 v2 v3 v4 v5 v6 v7)) ∧ (¬ (100 ≤ x_3) → ((v6 = (-1) → (wX0_visitsOf_J66 μ K (wX0_visitsOf_L14 μ v1 v2 K K103 n) v1 v2 (v3 + 1) v4 v5 v6 v7)) ∧ (¬ (v6 = (-1)) → (((v7 - 1) ≤ v6 → (wX0_visitsOf_J93_6 μ K (wX0_visitsOf_L14 μ v1 v2 K K103 n) v1 v2 (v3 + 1) v4 v5 v7)) ∧ (¬ ((v7 - 1) ≤ v6) → (wX0_visitsOf_J66 μ K (wX0_visitsOf_L14 μ v1 v2 K K103 n) v1 v2 (v3 + 1) v4 v5 v6 v7)))))))))
set_option maxRecDepth 100000 in
set_option maxHeartbeats 4000000 in
theorem kX0_visitsOf_L14 {G : hx_GT} {KK : hx_KT} (hG : hx_K cX0_visitsOf 8 0 0 (some .int) TbX0 KK G) (cA : hx_CA RX0 cX0_visitsOf 2 0 0 G) {Λ : hx_L} (hF : cF Λ) {μ : hx_M} (v1 : Int32) (v2 : Int32) {K : Int32 → Prop} (hK : ∀ (r : Int32), K r → KK (some (.int r)) Λ μ) {K103 : Int32 → Int32 → Int32 → Prop} (hk103 : ∀ (v3 : Int32) (v4 : Int32) (v5 : Int32), K103 v3 v4 v5 → G Λ μ (0, 0) 103 [none, none, some (.int v2), some (.int v3), some (.int v4), some (.int v5), none, none] []) : ∀ (n : Nat) (v3 : Int32) (v4 : Int32) (v5 : Int32) (v6 : Int32) (v7 : Int32), wX0_visitsOf_L14 μ v1 v2 K K103 n v3 v4 v5 v6 v7 → G Λ μ (0, 0) 14 [some (.ref 36), some (.int v1), some (.int v2), some (.int v3), some (.int v4), some (.int v5), some (.int v6), some (.int v7)] [] := by
  intro n
  induction n with
  | zero =>
    intro v3 v4 v5 v6 v7 hw
    exact False.elim (by simpa only [wX0_visitsOf_L14] using hw)
  | succ n ih =>
    intro v3 v4 v5 v6 v7 hw
    unfold wX0_visitsOf_L14 at hw
    refine cl_iload hG (hx_dq tdX0_visitsOf_0 10 rfl) rfl (cl_aload_n hG (hx_dq tdX0_visitsOf_0 11 rfl) rfl (cl_getS hG fmX0_9 (hx_dq tdX0_visitsOf_0 12 rfl) (cF_S36 hF) (cF_R36_0 hF) (cl_getI hG fmX0_15 (hx_dq tdX0_visitsOf_0 13 rfl) (cF_S7 hF) (cl_icmp_gt hG 103 (hx_dq tdX0_visitsOf_0 14 rfl) rfl (fun c23 => ?_) (fun c23 => ?_)))))
    · replace hw := hw.1 c23
      exact cl_sub hG (hx_le_n (hx_le_n (hx_le_c rfl (hx_le_c rfl (hx_le_c rfl (hx_le_c rfl (hx_le_n (hx_le_n hx_le_0)))))))) (hk103 v3 v4 v5 hw)
    · replace hw := hw.2 c23
      refine cl_aload_n hG (hx_dq tdX0_visitsOf_0 15 rfl) rfl (cl_getS hG fmX0_9 (hx_dq tdX0_visitsOf_0 16 rfl) (cF_S36 hF) (cF_R36_0 hF) (cl_iload hG (hx_dq tdX0_visitsOf_0 17 rfl) rfl (cl_callV1 (caX0_visitsOf_74 cA) (hx_dq tdX0_visitsOf_0 18 rfl) (cF_S7 hF) (Nat.le_of_ble_eq_true rfl) (Nat.le_refl _) (Nat.le_refl _) (sX10_lineAt_mk hF hw (fun r32_2 hw => ?_)))))
      refine cl_bipush hG 100 (hx_dq tdX0_visitsOf_0 19 rfl) bipush_100 (cl_iload_n hG (hx_dq tdX0_visitsOf_0 20 rfl) rfl (cl_imul hG (hx_dq tdX0_visitsOf_0 21 rfl) (cl_isub hG (hx_dq tdX0_visitsOf_0 22 rfl) (cl_mabs hG mmX0_49 (hx_dq tdX0_visitsOf_0 23 rfl) (Nat.le_refl _) (Nat.le_refl _) (Nat.le_of_ble_eq_true rfl) (cl_nmI (fun x_3 e_3 => ?_))))))
      replace hw := hw x_3 e_3
      refine cl_bipush hG 100 (hx_dq tdX0_visitsOf_0 24 rfl) bipush_100 (cl_icmp_ge hG 97 (hx_dq tdX0_visitsOf_0 25 rfl) rfl (fun c45 => ?_) (fun c45 => ?_))
      · replace hw := hw.1 c45
        exact cl_sub hG (hx_le_c rfl (hx_le_c rfl (hx_le_c rfl (hx_le_c rfl (hx_le_c rfl (hx_le_c rfl (hx_le_c rfl (hx_le_c rfl hx_le_0)))))))) (kX0_visitsOf_J97 hG cA hF v1 v2 v3 v4 v5 v6 v7 hK (fun z0 z1 z2 z3 z4 hw => ih z0 z1 z2 z3 z4 hw) hw)
      · replace hw := hw.2 c45
        refine cl_iinc hG (v3 + 1) (hx_dq tdX0_visitsOf_0 26 rfl) rfl (congrArg (fun z => v3 + z) iconst_1) (Nat.le_of_ble_eq_true rfl) rfl (cl_iload hG (hx_dq tdX0_visitsOf_0 27 rfl) rfl (cl_iconst hG (-1) (hx_dq tdX0_visitsOf_0 28 rfl) iconst_m1 (cl_icmp_eq hG 66 (hx_dq tdX0_visitsOf_0 29 rfl) rfl (fun c54 => ?_) (fun c54 => ?_))))
        · replace hw := hw.1 c54
          exact cl_sub hG (hx_le_c rfl (hx_le_c rfl (hx_le_c rfl (hx_le_c rfl (hx_le_c rfl (hx_le_c rfl (hx_le_c rfl (hx_le_c rfl hx_le_0)))))))) (kX0_visitsOf_J66 hG cA hF v1 v2 (v3 + 1) v4 v5 v6 v7 hK (fun z0 z1 z2 z3 z4 hw => ih z0 z1 z2 z3 z4 hw) hw)
        · replace hw := hw.2 c54
          refine cl_iload hG (hx_dq tdX0_visitsOf_0 30 rfl) rfl (cl_iload hG (hx_dq tdX0_visitsOf_0 31 rfl) rfl (cl_iconst hG 1 (hx_dq tdX0_visitsOf_1 0 rfl) iconst_1 (cl_isub hG (hx_dq tdX0_visitsOf_1 1 rfl) (cl_icmp_ge hG 93 (hx_dq tdX0_visitsOf_1 2 rfl) rfl (fun c63 => ?_) (fun c63 => ?_)))))
          · replace hw := hw.1 c63
            exact cl_sub hG (hx_le_c rfl (hx_le_c rfl (hx_le_c rfl (hx_le_c rfl (hx_le_c rfl (hx_le_c rfl (hx_le_n (hx_le_c rfl hx_le_0)))))))) (kX0_visitsOf_J93_6 hG cA hF v1 v2 (v3 + 1) v4 v5 v7 hK (fun z0 z1 z2 z3 z4 hw => ih z0 z1 z2 z3 z4 hw) hw)
          · replace hw := hw.2 c63
            exact cl_sub hG (hx_le_c rfl (hx_le_c rfl (hx_le_c rfl (hx_le_c rfl (hx_le_c rfl (hx_le_c rfl (hx_le_c rfl (hx_le_c rfl hx_le_0)))))))) (kX0_visitsOf_J66 hG cA hF v1 v2 (v3 + 1) v4 v5 v6 v7 hK (fun z0 z1 z2 z3 z4 hw => ih z0 z1 z2 z3 z4 hw) hw)
def wX0_visitsOf (μ : hx_M) (v1 : Int32) (v2 : Int32) (K : Int32 → Prop) : Prop := ∃ n14_9, wX0_visitsOf_L14 μ v1 v2 K (fun v3_8 v4_8 v5_8 => (v2 ≠ 0 → ((v2 ≠ 1 → (K v5_8)) ∧ (v2 = 1 → (K v4_8)))) ∧ (v2 = 0 → (K v3_8))) n14_9 0 0 0 (-1) 0
set_option maxRecDepth 100000 in
set_option maxHeartbeats 4000000 in
theorem kX0_visitsOf {G : hx_GT} {KK : hx_KT} (hG : hx_K cX0_visitsOf 8 0 0 (some .int) TbX0 KK G) (cA : hx_CA RX0 cX0_visitsOf 2 0 0 G) {Λ : hx_L} (hF : cF Λ) {μ : hx_M} (v1 : Int32) (v2 : Int32) {K : Int32 → Prop} (hK : ∀ (r : Int32), K r → KK (some (.int r)) Λ μ) (hw : wX0_visitsOf μ v1 v2 K) : G Λ μ (0, 0) 0 [some (.ref 36), some (.int v1), some (.int v2), none, none, none, none, none] [] := by
  unfold wX0_visitsOf at hw
  refine cl_iconst hG 0 (hx_dq tdX0_visitsOf_0 0 rfl) iconst_0 (cl_istore_n hG (hx_dq tdX0_visitsOf_0 1 rfl) (Nat.le_of_ble_eq_true rfl) rfl (cl_iconst hG 0 (hx_dq tdX0_visitsOf_0 2 rfl) iconst_0 (cl_istore hG (hx_dq tdX0_visitsOf_0 3 rfl) (Nat.le_of_ble_eq_true rfl) rfl (cl_iconst hG 0 (hx_dq tdX0_visitsOf_0 4 rfl) iconst_0 (cl_istore hG (hx_dq tdX0_visitsOf_0 5 rfl) (Nat.le_of_ble_eq_true rfl) rfl (cl_iconst hG (-1) (hx_dq tdX0_visitsOf_0 6 rfl) iconst_m1 (cl_istore hG (hx_dq tdX0_visitsOf_0 7 rfl) (Nat.le_of_ble_eq_true rfl) rfl (cl_iconst hG 0 (hx_dq tdX0_visitsOf_0 8 rfl) iconst_0 (cl_istore hG (hx_dq tdX0_visitsOf_0 9 rfl) (Nat.le_of_ble_eq_true rfl) rfl ?_)))))))))
  obtain ⟨n_, hw⟩ := hw
  refine cl_sub hG (hx_le_c rfl (hx_le_c rfl (hx_le_c rfl (hx_le_c rfl (hx_le_c rfl (hx_le_c rfl (hx_le_c rfl (hx_le_c rfl hx_le_0)))))))) (kX0_visitsOf_L14 hG cA hF v1 v2 hK (fun v3_8 v4_8 v5_8 hw => ?_) n_ 0 0 0 (-1) 0 hw)
  · refine cl_iload_n hG (hx_dq tdX0_visitsOf_1 21 rfl) rfl (cl_if_ne hG 111 (hx_dq tdX0_visitsOf_1 22 rfl) rfl (fun c104 => ?_) (fun c104 => ?_))
    · replace hw := hw.1 c104
      refine cl_iload_n hG (hx_dq tdX0_visitsOf_1 25 rfl) rfl (cl_iconst hG 1 (hx_dq tdX0_visitsOf_1 26 rfl) iconst_1 (cl_icmp_ne hG 121 (hx_dq tdX0_visitsOf_1 27 rfl) rfl (fun c113 => ?_) (fun c113 => ?_)))
      · replace hw := hw.1 c113
        exact cl_iload hG (hx_dq tdX0_visitsOf_1 30 rfl) rfl (cl_iret hG (hx_dq tdX0_visitsOf_1 31 rfl) rfl rfl (hK _ hw) (Nat.le_refl _) (Nat.le_refl _))
      · replace hw := hw.2 c113
        exact cl_iload hG (hx_dq tdX0_visitsOf_1 28 rfl) rfl (cl_goto hG 123 (hx_dq tdX0_visitsOf_1 29 rfl) rfl (cl_iret hG (hx_dq tdX0_visitsOf_1 31 rfl) rfl rfl (hK _ hw) (Nat.le_refl _) (Nat.le_refl _)))
    · replace hw := hw.2 c104
      exact cl_iload_n hG (hx_dq tdX0_visitsOf_1 23 rfl) rfl (cl_goto hG 123 (hx_dq tdX0_visitsOf_1 24 rfl) rfl (cl_iret hG (hx_dq tdX0_visitsOf_1 31 rfl) rfl rfl (hK _ hw) (Nat.le_refl _) (Nat.le_refl _)))
def sX0_visitsOf : hx_ST := fun Λ μ as KK => cF Λ ∧ ∃ (v1 : Int32) (v2 : Int32) (K : Int32 → Prop), as = [.ref 36, .int v1, .int v2] ∧ wX0_visitsOf μ v1 v2 K ∧ (∀ (r : Int32), K r → KK (some (.int r)) Λ μ)
theorem sX0_visitsOf_mk {Λ : hx_L} {μ : hx_M} {KK : hx_KT} {v1 : Int32} {v2 : Int32} {K : Int32 → Prop} (hF : cF Λ) (hw : wX0_visitsOf μ v1 v2 K) (hk : ∀ (r : Int32), K r → KK (some (.int r)) Λ μ) : sX0_visitsOf Λ μ [.ref 36, .int v1, .int v2] KK := ⟨hF, _, _, _, rfl, hw, hk⟩
theorem conX0_visitsOf : hx_Con yX0_visitsOf cX0_visitsOf 8 (some .int) 2 0 0 sX0_visitsOf := by
  refine hx_con_of (by decide +kernel) tokX0 (by decide) ?_ ?_
  · intro Λ μ as KK h
    obtain ⟨hF, v1, v2, K, rfl, hw, hK⟩ := h
    exact Nat.le_of_ble_eq_true rfl
  · intro G KK hG cA Λ μ as h
    obtain ⟨hF, v1, v2, K, rfl, hw, hK⟩ := h
    exact cl_sub hG (hx_le_c rfl (hx_le_c rfl (hx_le_c rfl (hx_le_n (hx_le_n (hx_le_n (hx_le_n (hx_le_n hx_le_0)))))))) (kX0_visitsOf hG cA hF _ _ hK hw)
/-! HemLine$Chronicle.farFromLine(IZZ)I -/
def tbX0_farFromLine_0 : List (Nat × Instr × Nat) := [(0, .iconst 0, 1), (1, .istore 4, 2), (3, .iconst 0, 1), (4, .istore 5, 2), (6, .aload_n 0, 1), (7, .getfield 9, 3), (10, .aload_n 0, 1), (11, .getfield 9, 3), (14, .getfield 15, 3), (17, .invokevirtual 74, 3), (20, .istore 6, 2), (22, .iconst 0, 1), (23, .istore 7, 2), (25, .iload 7, 2), (27, .aload_n 0, 1), (28, .getfield 9, 3), (31, .getfield 55, 3), (34, .getfield 59, 3), (37, .if_icmp .ge 75, 3), (40, .aload_n 0, 1), (41, .getfield 9, 3), (44, .getfield 55, 3), (47, .getfield 80, 3), (50, .iload 7, 2), (52, .iaload, 1), (53, .iload_n 1, 1), (54, .if_icmp .le 7, 3), (57, .iconst 1, 1), (58, .goto 4, 3), (61, .iconst 0, 1), (62, .istore 8, 2), (64, .iload 8, 2)]
def tbX0_farFromLine_1 : List (Nat × Instr × Nat) := [(66, .iload_n 2, 1), (67, .if_icmp .ne 39, 3), (70, .iload 4, 2), (72, .bipush 100, 2), (74, .aload_n 0, 1), (75, .getfield 9, 3), (78, .getfield 21, 3), (81, .iload 7, 2), (83, .aload_n 0, 1), (84, .getfield 9, 3), (87, .getfield 15, 3), (90, .invokevirtual 25, 3), (93, .imul, 1), (94, .iload 6, 2), (96, .isub, 1), (97, .invokestatic 49, 3), (100, .iadd, 1), (101, .istore 4, 2), (103, .iinc 5 1, 3), (106, .iinc 7 1, 3), (109, .goto (-84), 3), (112, .iload_n 3, 1), (113, .ifCond .eq 8, 3), (116, .iload 5, 2), (118, .goto 5, 3), (121, .iload 4, 2), (123, .ireturn, 1)]
theorem tdX0_farFromLine_0 : hx_dt cX0_farFromLine tbX0_farFromLine_0 = true := by decide +kernel
theorem tdX0_farFromLine_1 : hx_dt cX0_farFromLine tbX0_farFromLine_1 = true := by decide +kernel
theorem caX0_farFromLine_25 {G : hx_GT} (cA : hx_CA RX0 cX0_farFromLine 2 0 0 G) : hx_CV cX0_farFromLine G 0 0 25 3 2 sX3_lengthOf 0 0 := cA.1 conX3_lengthOf rfl rfl ⟨by decide +kernel, by decide +kernel, by decide +kernel⟩ mw_848 mw_717 mw_718 mw_88 mw_719 (by decide) (by decide)
theorem caX0_farFromLine_74 {G : hx_GT} (cA : hx_CA RX0 cX0_farFromLine 2 0 0 G) : hx_CV cX0_farFromLine G 0 0 74 10 1 sX10_lineAt 0 0 := cA.1 conX10_lineAt rfl rfl ⟨by decide +kernel, by decide +kernel, by decide +kernel⟩ mw_880 mw_792 mw_793 mw_86 mw_794 (by decide) (by decide)
def wX0_farFromLine_J106 (μ : hx_M) (K : Int32 → Prop) (K25 : Int32 → Int32 → Int32 → Prop) (v1 : Int32) (v2 : Int32) (v3 : Int32) (v4 : Int32) (v5 : Int32) (v6 : Int32) (v7 : Int32)   : Prop := K25 v4 v5 (v7 + 1)
set_option maxRecDepth 100000 in
set_option maxHeartbeats 4000000 in
theorem kX0_farFromLine_J106 {G : hx_GT} {KK : hx_KT} (hG : hx_K cX0_farFromLine 9 0 0 (some .int) TbX0 KK G) (cA : hx_CA RX0 cX0_farFromLine 2 0 0 G) {Λ : hx_L} (hF : cF Λ) {μ : hx_M} (v1 : Int32) (v2 : Int32) (v3 : Int32) (v4 : Int32) (v5 : Int32) (v6 : Int32) (v7 : Int32)  {K : Int32 → Prop} (hK : ∀ (r : Int32), K r → KK (some (.int r)) Λ μ) {K25 : Int32 → Int32 → Int32 → Prop} (hk25 : ∀ (v4 : Int32) (v5 : Int32) (v7 : Int32), K25 v4 v5 v7 → G Λ μ (0, 0) 25 [some (.ref 36), some (.int v1), some (.int v2), some (.int v3), some (.int v4), some (.int v5), some (.int v6), some (.int v7), none] []) (hw : wX0_farFromLine_J106 μ K K25 v1 v2 v3 v4 v5 v6 v7) : G Λ μ (0, 0) 106 [some (.ref 36), some (.int v1), some (.int v2), some (.int v3), some (.int v4), some (.int v5), some (.int v6), some (.int v7), none] [] := by
  unfold wX0_farFromLine_J106 at hw
  exact cl_iinc hG (v7 + 1) (hx_dq tdX0_farFromLine_1 19 rfl) rfl (congrArg (fun z => v7 + z) iconst_1) (Nat.le_of_ble_eq_true rfl) rfl (cl_goto hG 25 (hx_dq tdX0_farFromLine_1 20 rfl) rfl (cl_sub hG (hx_le_c rfl (hx_le_c rfl (hx_le_c rfl (hx_le_c rfl (hx_le_c rfl (hx_le_c rfl (hx_le_c rfl (hx_le_c rfl (hx_le_n hx_le_0))))))))) (hk25 v4 v5 (v7 + 1) hw)))
def wX0_farFromLine_J62 (μ : hx_M) (K : Int32 → Prop) (K25 : Int32 → Int32 → Int32 → Prop) (v1 : Int32) (v2 : Int32) (v3 : Int32) (v4 : Int32) (v5 : Int32) (v6 : Int32) (v7 : Int32) (t0 : Int32)  : Prop := (t0 ≠ v2 → (wX0_farFromLine_J106 μ K (K25) v1 v2 v3 v4 v5 v6 v7)) ∧ (t0 = v2 → (wX3_lengthOf μ v7 (μ.1 7 7) (fun r90_5 => ∀ x_6 : Int32, x_6 = (if 0 ≤ ((100 * r90_5) - v6) then ((100 * r90_5) - v6) else 0 - ((100 * r90_5) - v6)) → wX0_farFromLine_J106 μ K (K25) v1 v2 v3 (v4 + x_6) (v5 + 1) v6 v7)))
set_option maxRecDepth 100000 in
set_option maxHeartbeats 4000000 in
theorem kX0_farFromLine_J62 {G : hx_GT} {KK : hx_KT} (hG : hx_K cX0_farFromLine 9 0 0 (some .int) TbX0 KK G) (cA : hx_CA RX0 cX0_farFromLine 2 0 0 G) {Λ : hx_L} (hF : cF Λ) {μ : hx_M} (v1 : Int32) (v2 : Int32) (v3 : Int32) (v4 : Int32) (v5 : Int32) (v6 : Int32) (v7 : Int32) (t0 : Int32) {K : Int32 → Prop} (hK : ∀ (r : Int32), K r → KK (some (.int r)) Λ μ) {K25 : Int32 → Int32 → Int32 → Prop} (hk25 : ∀ (v4 : Int32) (v5 : Int32) (v7 : Int32), K25 v4 v5 v7 → G Λ μ (0, 0) 25 [some (.ref 36), some (.int v1), some (.int v2), some (.int v3), some (.int v4), some (.int v5), some (.int v6), some (.int v7), none] []) (hw : wX0_farFromLine_J62 μ K K25 v1 v2 v3 v4 v5 v6 v7 t0) : G Λ μ (0, 0) 62 [some (.ref 36), some (.int v1), some (.int v2), some (.int v3), some (.int v4), some (.int v5), some (.int v6), some (.int v7), none] [.int t0] := by
  unfold wX0_farFromLine_J62 at hw
  refine cl_istore hG (hx_dq tdX0_farFromLine_0 30 rfl) (Nat.le_of_ble_eq_true rfl) rfl (cl_iload hG (hx_dq tdX0_farFromLine_0 31 rfl) rfl (cl_iload_n hG (hx_dq tdX0_farFromLine_1 0 rfl) rfl (cl_icmp_ne hG 106 (hx_dq tdX0_farFromLine_1 1 rfl) rfl (fun c67 => ?_) (fun c67 => ?_))))
  · replace hw := hw.1 c67
    exact cl_sub hG (hx_le_c rfl (hx_le_c rfl (hx_le_c rfl (hx_le_c rfl (hx_le_c rfl (hx_le_c rfl (hx_le_c rfl (hx_le_c rfl (hx_le_n hx_le_0))))))))) (kX0_farFromLine_J106 hG cA hF v1 v2 v3 v4 v5 v6 v7 hK (fun z0 z1 z2 hw => hk25 z0 z1 z2 hw) hw)
  · replace hw := hw.2 c67
    refine cl_iload hG (hx_dq tdX0_farFromLine_1 2 rfl) rfl (cl_bipush hG 100 (hx_dq tdX0_farFromLine_1 3 rfl) bipush_100 (cl_aload_n hG (hx_dq tdX0_farFromLine_1 4 rfl) rfl (cl_getS hG fmX0_9 (hx_dq tdX0_farFromLine_1 5 rfl) (cF_S36 hF) (cF_R36_0 hF) (cl_getS hG fmX0_21 (hx_dq tdX0_farFromLine_1 6 rfl) (cF_S7 hF) (cF_R7_1 hF) (cl_iload hG (hx_dq tdX0_farFromLine_1 7 rfl) rfl (cl_aload_n hG (hx_dq tdX0_farFromLine_1 8 rfl) rfl (cl_getS hG fmX0_9 (hx_dq tdX0_farFromLine_1 9 rfl) (cF_S36 hF) (cF_R36_0 hF) (cl_getI hG fmX0_15 (hx_dq tdX0_farFromLine_1 10 rfl) (cF_S7 hF) (cl_callV2 (caX0_farFromLine_25 cA) (hx_dq tdX0_farFromLine_1 11 rfl) (cF_S15 hF) (Nat.le_of_ble_eq_true rfl) (Nat.le_refl _) (Nat.le_refl _) (sX3_lengthOf_mk hF hw (fun r90_5 hw => ?_)))))))))))
    refine cl_imul hG (hx_dq tdX0_farFromLine_1 12 rfl) (cl_iload hG (hx_dq tdX0_farFromLine_1 13 rfl) rfl (cl_isub hG (hx_dq tdX0_farFromLine_1 14 rfl) (cl_mabs hG mmX0_49 (hx_dq tdX0_farFromLine_1 15 rfl) (Nat.le_refl _) (Nat.le_refl _) (Nat.le_of_ble_eq_true rfl) (cl_nmI (fun x_6 e_6 => ?_)))))
    replace hw := hw x_6 e_6
    refine cl_iadd hG (hx_dq tdX0_farFromLine_1 16 rfl) (cl_istore hG (hx_dq tdX0_farFromLine_1 17 rfl) (Nat.le_of_ble_eq_true rfl) rfl (cl_iinc hG (v5 + 1) (hx_dq tdX0_farFromLine_1 18 rfl) rfl (congrArg (fun z => v5 + z) iconst_1) (Nat.le_of_ble_eq_true rfl) rfl ?_))
    exact cl_sub hG (hx_le_c rfl (hx_le_c rfl (hx_le_c rfl (hx_le_c rfl (hx_le_c rfl (hx_le_c rfl (hx_le_c rfl (hx_le_c rfl (hx_le_n hx_le_0))))))))) (kX0_farFromLine_J106 hG cA hF v1 v2 v3 (v4 + x_6) (v5 + 1) v6 v7 hK (fun z0 z1 z2 hw => hk25 z0 z1 z2 hw) hw)
def wX0_farFromLine_L25 (μ : hx_M) (v1 : Int32) (v2 : Int32) (v3 : Int32) (v6 : Int32) (K : Int32 → Prop) (K112 : Int32 → Int32 → Prop) : Nat → Int32 → Int32 → Int32 → Prop
  | 0, _, _, _ => False
  | n + 1, v4, v5, v7 => ((μ.1 8 0) ≤ v7 → (K112 v4 v5)) ∧ (¬ ((μ.1 8 0) ≤ v7) → (vp_in v7 16 ∧ ((μ.1 10 v7.toNatClampNeg) ≤ v1 → (wX0_farFromLine_J62 μ K (wX0_farFromLine_L25 μ v1 v2 v3 v6 K K112 n) v1 v2 v3 v4 v5 v6 v7 0)) ∧ (¬ ((μ.1 10 v7.toNatClampNeg) ≤ v1) → (wX0_farFromLine_J62 μ K (wX0_farFromLine_L25 μ v1 v2 v3 v6 K K112 n) v1 v2 v3 v4 v5 v6 v7 1))))
set_option maxRecDepth 100000 in
set_option maxHeartbeats 4000000 in
theorem kX0_farFromLine_L25 {G : hx_GT} {KK : hx_KT} (hG : hx_K cX0_farFromLine 9 0 0 (some .int) TbX0 KK G) (cA : hx_CA RX0 cX0_farFromLine 2 0 0 G) {Λ : hx_L} (hF : cF Λ) {μ : hx_M} (v1 : Int32) (v2 : Int32) (v3 : Int32) (v6 : Int32) {K : Int32 → Prop} (hK : ∀ (r : Int32), K r → KK (some (.int r)) Λ μ) {K112 : Int32 → Int32 → Prop} (hk112 : ∀ (v4 : Int32) (v5 : Int32), K112 v4 v5 → G Λ μ (0, 0) 112 [none, none, none, some (.int v3), some (.int v4), some (.int v5), none, none, none] []) : ∀ (n : Nat) (v4 : Int32) (v5 : Int32) (v7 : Int32), wX0_farFromLine_L25 μ v1 v2 v3 v6 K K112 n v4 v5 v7 → G Λ μ (0, 0) 25 [some (.ref 36), some (.int v1), some (.int v2), some (.int v3), some (.int v4), some (.int v5), some (.int v6), some (.int v7), none] [] := by
  intro n
  induction n with
  | zero =>
    intro v4 v5 v7 hw
    exact False.elim (by simpa only [wX0_farFromLine_L25] using hw)
  | succ n ih =>
    intro v4 v5 v7 hw
    unfold wX0_farFromLine_L25 at hw
    refine cl_iload hG (hx_dq tdX0_farFromLine_0 13 rfl) rfl (cl_aload_n hG (hx_dq tdX0_farFromLine_0 14 rfl) rfl (cl_getS hG fmX0_9 (hx_dq tdX0_farFromLine_0 15 rfl) (cF_S36 hF) (cF_R36_0 hF) (cl_getS hG fmX0_55 (hx_dq tdX0_farFromLine_0 16 rfl) (cF_S7 hF) (cF_R7_0 hF) (cl_getI hG fmX0_59 (hx_dq tdX0_farFromLine_0 17 rfl) (cF_S8 hF) (cl_icmp_ge hG 112 (hx_dq tdX0_farFromLine_0 18 rfl) rfl (fun c37 => ?_) (fun c37 => ?_))))))
    · replace hw := hw.1 c37
      exact cl_sub hG (hx_le_n (hx_le_n (hx_le_n (hx_le_c rfl (hx_le_c rfl (hx_le_c rfl (hx_le_n (hx_le_n (hx_le_n hx_le_0))))))))) (hk112 v4 v5 hw)
    · replace hw := hw.2 c37
      obtain ⟨i52_3, hw⟩ := hw
      refine cl_aload_n hG (hx_dq tdX0_farFromLine_0 19 rfl) rfl (cl_getS hG fmX0_9 (hx_dq tdX0_farFromLine_0 20 rfl) (cF_S36 hF) (cF_R36_0 hF) (cl_getS hG fmX0_55 (hx_dq tdX0_farFromLine_0 21 rfl) (cF_S7 hF) (cF_R7_0 hF) (cl_getS hG fmX0_80 (hx_dq tdX0_farFromLine_0 22 rfl) (cF_S8 hF) (cF_R8_2 hF) (cl_iload hG (hx_dq tdX0_farFromLine_0 23 rfl) rfl (cl_iald hG (hx_dq tdX0_farFromLine_0 24 rfl) (cF_S10 hF) i52_3 (cl_iload_n hG (hx_dq tdX0_farFromLine_0 25 rfl) rfl (cl_icmp_le hG 61 (hx_dq tdX0_farFromLine_0 26 rfl) rfl (fun c54 => ?_) (fun c54 => ?_))))))))
      · replace hw := hw.1 c54
        refine cl_iconst hG 0 (hx_dq tdX0_farFromLine_0 29 rfl) iconst_0 ?_
        exact cl_sub hG (hx_le_c rfl (hx_le_c rfl (hx_le_c rfl (hx_le_c rfl (hx_le_c rfl (hx_le_c rfl (hx_le_c rfl (hx_le_c rfl (hx_le_n hx_le_0))))))))) (kX0_farFromLine_J62 hG cA hF v1 v2 v3 v4 v5 v6 v7 0 hK (fun z0 z1 z2 hw => ih z0 z1 z2 hw) hw)
      · replace hw := hw.2 c54
        refine cl_iconst hG 1 (hx_dq tdX0_farFromLine_0 27 rfl) iconst_1 (cl_goto hG 62 (hx_dq tdX0_farFromLine_0 28 rfl) rfl ?_)
        exact cl_sub hG (hx_le_c rfl (hx_le_c rfl (hx_le_c rfl (hx_le_c rfl (hx_le_c rfl (hx_le_c rfl (hx_le_c rfl (hx_le_c rfl (hx_le_n hx_le_0))))))))) (kX0_farFromLine_J62 hG cA hF v1 v2 v3 v4 v5 v6 v7 1 hK (fun z0 z1 z2 hw => ih z0 z1 z2 hw) hw)
def wX0_farFromLine (μ : hx_M) (v1 : Int32) (v2 : Int32) (v3 : Int32) (K : Int32 → Prop) : Prop := wX10_lineAt μ (μ.1 7 7) (fun r17_2 => ∃ n25_8, wX0_farFromLine_L25 μ v1 v2 v3 r17_2 K (fun v4_7 v5_7 => (v3 = 0 → (K v4_7)) ∧ (¬ (v3 = 0) → (K v5_7))) n25_8 0 0 0)
set_option maxRecDepth 100000 in
set_option maxHeartbeats 4000000 in
theorem kX0_farFromLine {G : hx_GT} {KK : hx_KT} (hG : hx_K cX0_farFromLine 9 0 0 (some .int) TbX0 KK G) (cA : hx_CA RX0 cX0_farFromLine 2 0 0 G) {Λ : hx_L} (hF : cF Λ) {μ : hx_M} (v1 : Int32) (v2 : Int32) (v3 : Int32) {K : Int32 → Prop} (hK : ∀ (r : Int32), K r → KK (some (.int r)) Λ μ) (hw : wX0_farFromLine μ v1 v2 v3 K) : G Λ μ (0, 0) 0 [some (.ref 36), some (.int v1), some (.int v2), some (.int v3), none, none, none, none, none] [] := by
  unfold wX0_farFromLine at hw
  refine cl_iconst hG 0 (hx_dq tdX0_farFromLine_0 0 rfl) iconst_0 (cl_istore hG (hx_dq tdX0_farFromLine_0 1 rfl) (Nat.le_of_ble_eq_true rfl) rfl (cl_iconst hG 0 (hx_dq tdX0_farFromLine_0 2 rfl) iconst_0 (cl_istore hG (hx_dq tdX0_farFromLine_0 3 rfl) (Nat.le_of_ble_eq_true rfl) rfl (cl_aload_n hG (hx_dq tdX0_farFromLine_0 4 rfl) rfl (cl_getS hG fmX0_9 (hx_dq tdX0_farFromLine_0 5 rfl) (cF_S36 hF) (cF_R36_0 hF) (cl_aload_n hG (hx_dq tdX0_farFromLine_0 6 rfl) rfl (cl_getS hG fmX0_9 (hx_dq tdX0_farFromLine_0 7 rfl) (cF_S36 hF) (cF_R36_0 hF) (cl_getI hG fmX0_15 (hx_dq tdX0_farFromLine_0 8 rfl) (cF_S7 hF) (cl_callV1 (caX0_farFromLine_74 cA) (hx_dq tdX0_farFromLine_0 9 rfl) (cF_S7 hF) (Nat.le_of_ble_eq_true rfl) (Nat.le_refl _) (Nat.le_refl _) (sX10_lineAt_mk hF hw (fun r17_2 hw => ?_)))))))))))
  refine cl_istore hG (hx_dq tdX0_farFromLine_0 10 rfl) (Nat.le_of_ble_eq_true rfl) rfl (cl_iconst hG 0 (hx_dq tdX0_farFromLine_0 11 rfl) iconst_0 (cl_istore hG (hx_dq tdX0_farFromLine_0 12 rfl) (Nat.le_of_ble_eq_true rfl) rfl ?_))
  obtain ⟨n_, hw⟩ := hw
  refine cl_sub hG (hx_le_c rfl (hx_le_c rfl (hx_le_c rfl (hx_le_c rfl (hx_le_c rfl (hx_le_c rfl (hx_le_c rfl (hx_le_c rfl (hx_le_n hx_le_0))))))))) (kX0_farFromLine_L25 hG cA hF v1 v2 v3 r17_2 hK (fun v4_7 v5_7 hw => ?_) n_ 0 0 0 hw)
  · refine cl_iload_n hG (hx_dq tdX0_farFromLine_1 21 rfl) rfl (cl_if_eq hG 121 (hx_dq tdX0_farFromLine_1 22 rfl) rfl (fun c113 => ?_) (fun c113 => ?_))
    · replace hw := hw.1 c113
      exact cl_iload hG (hx_dq tdX0_farFromLine_1 25 rfl) rfl (cl_iret hG (hx_dq tdX0_farFromLine_1 26 rfl) rfl rfl (hK _ hw) (Nat.le_refl _) (Nat.le_refl _))
    · replace hw := hw.2 c113
      exact cl_iload hG (hx_dq tdX0_farFromLine_1 23 rfl) rfl (cl_goto hG 123 (hx_dq tdX0_farFromLine_1 24 rfl) rfl (cl_iret hG (hx_dq tdX0_farFromLine_1 26 rfl) rfl rfl (hK _ hw) (Nat.le_refl _) (Nat.le_refl _)))
def sX0_farFromLine : hx_ST := fun Λ μ as KK => cF Λ ∧ ∃ (v1 : Int32) (v2 : Int32) (v3 : Int32) (K : Int32 → Prop), as = [.ref 36, .int v1, .int v2, .int v3] ∧ wX0_farFromLine μ v1 v2 v3 K ∧ (∀ (r : Int32), K r → KK (some (.int r)) Λ μ)
theorem sX0_farFromLine_mk {Λ : hx_L} {μ : hx_M} {KK : hx_KT} {v1 : Int32} {v2 : Int32} {v3 : Int32} {K : Int32 → Prop} (hF : cF Λ) (hw : wX0_farFromLine μ v1 v2 v3 K) (hk : ∀ (r : Int32), K r → KK (some (.int r)) Λ μ) : sX0_farFromLine Λ μ [.ref 36, .int v1, .int v2, .int v3] KK := ⟨hF, _, _, _, _, rfl, hw, hk⟩
theorem conX0_farFromLine : hx_Con yX0_farFromLine cX0_farFromLine 9 (some .int) 2 0 0 sX0_farFromLine := by
  refine hx_con_of (by decide +kernel) tokX0 (by decide) ?_ ?_
  · intro Λ μ as KK h
    obtain ⟨hF, v1, v2, v3, K, rfl, hw, hK⟩ := h
    exact Nat.le_of_ble_eq_true rfl
  · intro G KK hG cA Λ μ as h
    obtain ⟨hF, v1, v2, v3, K, rfl, hw, hK⟩ := h
    exact cl_sub hG (hx_le_c rfl (hx_le_c rfl (hx_le_c rfl (hx_le_c rfl (hx_le_n (hx_le_n (hx_le_n (hx_le_n (hx_le_n hx_le_0))))))))) (kX0_farFromLine hG cA hF _ _ _ hK hw)
/-! HemLine$Past.coinAsked(II)I -/
def tbX3_coinAsked_0 : List (Nat × Instr × Nat) := [(0, .aload_n 0, 1), (1, .getfield 28, 3), (4, .iload_n 2, 1), (5, .bipush 16, 2), (7, .imul, 1), (8, .iload_n 1, 1), (9, .iadd, 1), (10, .iaload, 1), (11, .bipush 16, 2), (13, .ishr, 1), (14, .ireturn, 1)]
theorem tdX3_coinAsked_0 : hx_dt cX3_coinAsked tbX3_coinAsked_0 = true := by decide +kernel
def wX3_coinAsked (μ : hx_M) (v1 : Int32) (v2 : Int32) (K : Int32 → Prop) : Prop := vp_in ((v2 * 16) + v1) 4816 ∧ ∀ x_2 : Int32, x_2 = (((μ.1 18 (((v2 * 16) + v1).toNatClampNeg))) >>> (16 &&& 31)) → K x_2
set_option maxRecDepth 100000 in
set_option maxHeartbeats 4000000 in
theorem kX3_coinAsked {G : hx_GT} {KK : hx_KT} (hG : hx_K cX3_coinAsked 3 0 0 (some .int) TbX3 KK G) (cA : hx_CA RX3 cX3_coinAsked 1 0 0 G) {Λ : hx_L} (hF : cF Λ) {μ : hx_M} (v1 : Int32) (v2 : Int32) {K : Int32 → Prop} (hK : ∀ (r : Int32), K r → KK (some (.int r)) Λ μ) (hw : wX3_coinAsked μ v1 v2 K) : G Λ μ (0, 0) 0 [some (.ref 15), some (.int v1), some (.int v2)] [] := by
  unfold wX3_coinAsked at hw
  obtain ⟨i10_1, hw⟩ := hw
  refine cl_aload_n hG (hx_dq tdX3_coinAsked_0 0 rfl) rfl (cl_getS hG fmX3_28 (hx_dq tdX3_coinAsked_0 1 rfl) (cF_S15 hF) (cF_R15_3 hF) (cl_iload_n hG (hx_dq tdX3_coinAsked_0 2 rfl) rfl (cl_bipush hG 16 (hx_dq tdX3_coinAsked_0 3 rfl) bipush_16 (cl_imul hG (hx_dq tdX3_coinAsked_0 4 rfl) (cl_iload_n hG (hx_dq tdX3_coinAsked_0 5 rfl) rfl (cl_iadd hG (hx_dq tdX3_coinAsked_0 6 rfl) (cl_iald hG (hx_dq tdX3_coinAsked_0 7 rfl) (cF_S18 hF) i10_1 (cl_bipush hG 16 (hx_dq tdX3_coinAsked_0 8 rfl) bipush_16 (cl_ishr hG (hx_dq tdX3_coinAsked_0 9 rfl) (cl_nmI (fun x_2 e_2 => ?_)))))))))))
  replace hw := hw x_2 e_2
  exact cl_iret hG (hx_dq tdX3_coinAsked_0 10 rfl) rfl rfl (hK _ hw) (Nat.le_refl _) (Nat.le_refl _)
def sX3_coinAsked : hx_ST := fun Λ μ as KK => cF Λ ∧ ∃ (v1 : Int32) (v2 : Int32) (K : Int32 → Prop), as = [.ref 15, .int v1, .int v2] ∧ wX3_coinAsked μ v1 v2 K ∧ (∀ (r : Int32), K r → KK (some (.int r)) Λ μ)
theorem sX3_coinAsked_mk {Λ : hx_L} {μ : hx_M} {KK : hx_KT} {v1 : Int32} {v2 : Int32} {K : Int32 → Prop} (hF : cF Λ) (hw : wX3_coinAsked μ v1 v2 K) (hk : ∀ (r : Int32), K r → KK (some (.int r)) Λ μ) : sX3_coinAsked Λ μ [.ref 15, .int v1, .int v2] KK := ⟨hF, _, _, _, rfl, hw, hk⟩
theorem conX3_coinAsked : hx_Con yX3_coinAsked cX3_coinAsked 3 (some .int) 1 0 0 sX3_coinAsked := by
  refine hx_con_of (by decide +kernel) tokX3 (by decide) ?_ ?_
  · intro Λ μ as KK h
    obtain ⟨hF, v1, v2, K, rfl, hw, hK⟩ := h
    exact Nat.le_of_ble_eq_true rfl
  · intro G KK hG cA Λ μ as h
    obtain ⟨hF, v1, v2, K, rfl, hw, hK⟩ := h
    exact cl_sub hG (hx_le_c rfl (hx_le_c rfl (hx_le_c rfl hx_le_0))) (kX3_coinAsked hG cA hF _ _ hK hw)
/-! HemLine$Past.wornAsked(II)I -/
def tbX3_wornAsked_0 : List (Nat × Instr × Nat) := [(0, .aload_n 0, 1), (1, .getfield 28, 3), (4, .iload_n 2, 1), (5, .bipush 16, 2), (7, .imul, 1), (8, .iload_n 1, 1), (9, .iadd, 1), (10, .iaload, 1), (11, .bipush 7, 2), (13, .ishr, 1), (14, .sipush 511, 3), (17, .iand, 1), (18, .ireturn, 1)]
theorem tdX3_wornAsked_0 : hx_dt cX3_wornAsked tbX3_wornAsked_0 = true := by decide +kernel
def wX3_wornAsked (μ : hx_M) (v1 : Int32) (v2 : Int32) (K : Int32 → Prop) : Prop := vp_in ((v2 * 16) + v1) 4816 ∧ ∀ x_2 : Int32, x_2 = (((μ.1 18 (((v2 * 16) + v1).toNatClampNeg))) >>> (7 &&& 31)) → K (x_2 &&& 511)
set_option maxRecDepth 100000 in
set_option maxHeartbeats 4000000 in
theorem kX3_wornAsked {G : hx_GT} {KK : hx_KT} (hG : hx_K cX3_wornAsked 3 0 0 (some .int) TbX3 KK G) (cA : hx_CA RX3 cX3_wornAsked 1 0 0 G) {Λ : hx_L} (hF : cF Λ) {μ : hx_M} (v1 : Int32) (v2 : Int32) {K : Int32 → Prop} (hK : ∀ (r : Int32), K r → KK (some (.int r)) Λ μ) (hw : wX3_wornAsked μ v1 v2 K) : G Λ μ (0, 0) 0 [some (.ref 15), some (.int v1), some (.int v2)] [] := by
  unfold wX3_wornAsked at hw
  obtain ⟨i10_1, hw⟩ := hw
  refine cl_aload_n hG (hx_dq tdX3_wornAsked_0 0 rfl) rfl (cl_getS hG fmX3_28 (hx_dq tdX3_wornAsked_0 1 rfl) (cF_S15 hF) (cF_R15_3 hF) (cl_iload_n hG (hx_dq tdX3_wornAsked_0 2 rfl) rfl (cl_bipush hG 16 (hx_dq tdX3_wornAsked_0 3 rfl) bipush_16 (cl_imul hG (hx_dq tdX3_wornAsked_0 4 rfl) (cl_iload_n hG (hx_dq tdX3_wornAsked_0 5 rfl) rfl (cl_iadd hG (hx_dq tdX3_wornAsked_0 6 rfl) (cl_iald hG (hx_dq tdX3_wornAsked_0 7 rfl) (cF_S18 hF) i10_1 (cl_bipush hG 7 (hx_dq tdX3_wornAsked_0 8 rfl) bipush_7 (cl_ishr hG (hx_dq tdX3_wornAsked_0 9 rfl) (cl_nmI (fun x_2 e_2 => ?_)))))))))))
  replace hw := hw x_2 e_2
  exact cl_sipush hG 511 (hx_dq tdX3_wornAsked_0 10 rfl) sipush_511 (cl_iand hG (hx_dq tdX3_wornAsked_0 11 rfl) (cl_iret hG (hx_dq tdX3_wornAsked_0 12 rfl) rfl rfl (hK _ hw) (Nat.le_refl _) (Nat.le_refl _)))
def sX3_wornAsked : hx_ST := fun Λ μ as KK => cF Λ ∧ ∃ (v1 : Int32) (v2 : Int32) (K : Int32 → Prop), as = [.ref 15, .int v1, .int v2] ∧ wX3_wornAsked μ v1 v2 K ∧ (∀ (r : Int32), K r → KK (some (.int r)) Λ μ)
theorem sX3_wornAsked_mk {Λ : hx_L} {μ : hx_M} {KK : hx_KT} {v1 : Int32} {v2 : Int32} {K : Int32 → Prop} (hF : cF Λ) (hw : wX3_wornAsked μ v1 v2 K) (hk : ∀ (r : Int32), K r → KK (some (.int r)) Λ μ) : sX3_wornAsked Λ μ [.ref 15, .int v1, .int v2] KK := ⟨hF, _, _, _, rfl, hw, hk⟩
theorem conX3_wornAsked : hx_Con yX3_wornAsked cX3_wornAsked 3 (some .int) 1 0 0 sX3_wornAsked := by
  refine hx_con_of (by decide +kernel) tokX3 (by decide) ?_ ?_
  · intro Λ μ as KK h
    obtain ⟨hF, v1, v2, K, rfl, hw, hK⟩ := h
    exact Nat.le_of_ble_eq_true rfl
  · intro G KK hG cA Λ μ as h
    obtain ⟨hF, v1, v2, K, rfl, hw, hK⟩ := h
    exact cl_sub hG (hx_le_c rfl (hx_le_c rfl (hx_le_c rfl hx_le_0))) (kX3_wornAsked hG cA hF _ _ hK hw)
/-! HemLine$Past.chanceAsked(II)I -/
def tbX3_chanceAsked_0 : List (Nat × Instr × Nat) := [(0, .aload_n 0, 1), (1, .getfield 28, 3), (4, .iload_n 2, 1), (5, .bipush 16, 2), (7, .imul, 1), (8, .iload_n 1, 1), (9, .iadd, 1), (10, .iaload, 1), (11, .bipush 127, 2), (13, .iand, 1), (14, .ireturn, 1)]
theorem tdX3_chanceAsked_0 : hx_dt cX3_chanceAsked tbX3_chanceAsked_0 = true := by decide +kernel
def wX3_chanceAsked (μ : hx_M) (v1 : Int32) (v2 : Int32) (K : Int32 → Prop) : Prop := vp_in ((v2 * 16) + v1) 4816 ∧ ∀ x_2 : Int32, x_2 = (((μ.1 18 (((v2 * 16) + v1).toNatClampNeg))) &&& 127) → K x_2
set_option maxRecDepth 100000 in
set_option maxHeartbeats 4000000 in
theorem kX3_chanceAsked {G : hx_GT} {KK : hx_KT} (hG : hx_K cX3_chanceAsked 3 0 0 (some .int) TbX3 KK G) (cA : hx_CA RX3 cX3_chanceAsked 1 0 0 G) {Λ : hx_L} (hF : cF Λ) {μ : hx_M} (v1 : Int32) (v2 : Int32) {K : Int32 → Prop} (hK : ∀ (r : Int32), K r → KK (some (.int r)) Λ μ) (hw : wX3_chanceAsked μ v1 v2 K) : G Λ μ (0, 0) 0 [some (.ref 15), some (.int v1), some (.int v2)] [] := by
  unfold wX3_chanceAsked at hw
  obtain ⟨i10_1, hw⟩ := hw
  refine cl_aload_n hG (hx_dq tdX3_chanceAsked_0 0 rfl) rfl (cl_getS hG fmX3_28 (hx_dq tdX3_chanceAsked_0 1 rfl) (cF_S15 hF) (cF_R15_3 hF) (cl_iload_n hG (hx_dq tdX3_chanceAsked_0 2 rfl) rfl (cl_bipush hG 16 (hx_dq tdX3_chanceAsked_0 3 rfl) bipush_16 (cl_imul hG (hx_dq tdX3_chanceAsked_0 4 rfl) (cl_iload_n hG (hx_dq tdX3_chanceAsked_0 5 rfl) rfl (cl_iadd hG (hx_dq tdX3_chanceAsked_0 6 rfl) (cl_iald hG (hx_dq tdX3_chanceAsked_0 7 rfl) (cF_S18 hF) i10_1 (cl_bipush hG 127 (hx_dq tdX3_chanceAsked_0 8 rfl) bipush_127 (cl_iand hG (hx_dq tdX3_chanceAsked_0 9 rfl) (cl_nmI (fun x_2 e_2 => ?_)))))))))))
  replace hw := hw x_2 e_2
  exact cl_iret hG (hx_dq tdX3_chanceAsked_0 10 rfl) rfl rfl (hK _ hw) (Nat.le_refl _) (Nat.le_refl _)
def sX3_chanceAsked : hx_ST := fun Λ μ as KK => cF Λ ∧ ∃ (v1 : Int32) (v2 : Int32) (K : Int32 → Prop), as = [.ref 15, .int v1, .int v2] ∧ wX3_chanceAsked μ v1 v2 K ∧ (∀ (r : Int32), K r → KK (some (.int r)) Λ μ)
theorem sX3_chanceAsked_mk {Λ : hx_L} {μ : hx_M} {KK : hx_KT} {v1 : Int32} {v2 : Int32} {K : Int32 → Prop} (hF : cF Λ) (hw : wX3_chanceAsked μ v1 v2 K) (hk : ∀ (r : Int32), K r → KK (some (.int r)) Λ μ) : sX3_chanceAsked Λ μ [.ref 15, .int v1, .int v2] KK := ⟨hF, _, _, _, rfl, hw, hk⟩
theorem conX3_chanceAsked : hx_Con yX3_chanceAsked cX3_chanceAsked 3 (some .int) 1 0 0 sX3_chanceAsked := by
  refine hx_con_of (by decide +kernel) tokX3 (by decide) ?_ ?_
  · intro Λ μ as KK h
    obtain ⟨hF, v1, v2, K, rfl, hw, hK⟩ := h
    exact Nat.le_of_ble_eq_true rfl
  · intro G KK hG cA Λ μ as h
    obtain ⟨hF, v1, v2, K, rfl, hw, hK⟩ := h
    exact cl_sub hG (hx_le_c rfl (hx_le_c rfl (hx_le_c rfl hx_le_0))) (kX3_chanceAsked hG cA hF _ _ hK hw)
/-! HemLine$Law.wordOf(I)I -/
def tbX1_wordOf_0 : List (Nat × Instr × Nat) := [(0, .iload_n 0, 1), (1, .bipush 15, 2), (3, .iand, 1), (4, .ireturn, 1)]
theorem tdX1_wordOf_0 : hx_dt cX1_wordOf tbX1_wordOf_0 = true := by decide +kernel
def wX1_wordOf  (v0 : Int32) (K : Int32 → Prop) : Prop := K (v0 &&& 15)
set_option maxRecDepth 100000 in
set_option maxHeartbeats 4000000 in
theorem kX1_wordOf {G : hx_GT} {KK : hx_KT} (hG : hx_K cX1_wordOf 1 0 0 (some .int) TbX1 KK G) (cA : hx_CA RX1 cX1_wordOf 1 0 0 G) {Λ : hx_L}  {μ : hx_M} (v0 : Int32) {K : Int32 → Prop} (hK : ∀ (r : Int32), K r → KK (some (.int r)) Λ μ) (hw : wX1_wordOf v0 K) : G Λ μ (0, 0) 0 [some (.int v0)] [] := by
  unfold wX1_wordOf at hw
  exact cl_iload_n hG (hx_dq tdX1_wordOf_0 0 rfl) rfl (cl_bipush hG 15 (hx_dq tdX1_wordOf_0 1 rfl) bipush_15 (cl_iand hG (hx_dq tdX1_wordOf_0 2 rfl) (cl_iret hG (hx_dq tdX1_wordOf_0 3 rfl) rfl rfl (hK _ hw) (Nat.le_refl _) (Nat.le_refl _))))
def sX1_wordOf : hx_ST := fun Λ μ as KK => ∃ (v0 : Int32) (K : Int32 → Prop), as = [.int v0] ∧ wX1_wordOf v0 K ∧ (∀ (r : Int32), K r → KK (some (.int r)) Λ μ)
theorem sX1_wordOf_mk {Λ : hx_L} {μ : hx_M} {KK : hx_KT} {v0 : Int32} {K : Int32 → Prop}  (hw : wX1_wordOf v0 K) (hk : ∀ (r : Int32), K r → KK (some (.int r)) Λ μ) : sX1_wordOf Λ μ [.int v0] KK := ⟨_, _, rfl, hw, hk⟩
theorem conX1_wordOf : hx_Con yX1_wordOf cX1_wordOf 1 (some .int) 1 0 0 sX1_wordOf := by
  refine hx_con_of (by decide +kernel) tokX1 (by decide) ?_ ?_
  · intro Λ μ as KK h
    obtain ⟨v0, K, rfl, hw, hK⟩ := h
    exact Nat.le_of_ble_eq_true rfl
  · intro G KK hG cA Λ μ as h
    obtain ⟨v0, K, rfl, hw, hK⟩ := h
    exact cl_sub hG (hx_le_c rfl hx_le_0) (kX1_wordOf hG cA _ hK hw)
/-! HemLine$Law.compares(II)Z -/
def tbX1_compares_0 : List (Nat × Instr × Nat) := [(0, .iload_n 0, 1), (1, .iconst 4, 1), (2, .ishr, 1), (3, .bipush 127, 2), (5, .iand, 1), (6, .istore_n 2, 1), (7, .iload_n 0, 1), (8, .bipush 11, 2), (10, .ishr, 1), (11, .istore_n 3, 1), (12, .iload_n 2, 1), (13, .bipush 60, 2), (15, .if_icmp .ne 14, 3), (18, .iload_n 1, 1), (19, .iload_n 3, 1), (20, .if_icmp .ge 7, 3), (23, .iconst 1, 1), (24, .goto 4, 3), (27, .iconst 0, 1), (28, .ireturn, 1), (29, .iload_n 2, 1), (30, .bipush 62, 2), (32, .if_icmp .ne 16, 3), (35, .iload_n 1, 1), (36, .iload_n 3, 1), (37, .if_icmp .le 7, 3), (40, .iconst 1, 1), (41, .goto 17, 3), (44, .iconst 0, 1), (45, .goto 13, 3), (48, .iload_n 1, 1), (49, .iload_n 3, 1)]
def tbX1_compares_1 : List (Nat × Instr × Nat) := [(50, .if_icmp .ne 7, 3), (53, .iconst 1, 1), (54, .goto 4, 3), (57, .iconst 0, 1), (58, .ireturn, 1)]
theorem tdX1_compares_0 : hx_dt cX1_compares tbX1_compares_0 = true := by decide +kernel
theorem tdX1_compares_1 : hx_dt cX1_compares tbX1_compares_1 = true := by decide +kernel
def wX1_compares  (v0 : Int32) (v1 : Int32) (K : Int32 → Prop) : Prop := (((v0 >>> (4 &&& 31)) &&& 127) ≠ 60 → ((((v0 >>> (4 &&& 31)) &&& 127) ≠ 62 → ((v1 ≠ (v0 >>> (11 &&& 31)) → (K 0)) ∧ (v1 = (v0 >>> (11 &&& 31)) → (K 1)))) ∧ (((v0 >>> (4 &&& 31)) &&& 127) = 62 → ((v1 ≤ (v0 >>> (11 &&& 31)) → (K 0)) ∧ (¬ (v1 ≤ (v0 >>> (11 &&& 31))) → (K 1)))))) ∧ (((v0 >>> (4 &&& 31)) &&& 127) = 60 → (((v0 >>> (11 &&& 31)) ≤ v1 → (K 0)) ∧ (¬ ((v0 >>> (11 &&& 31)) ≤ v1) → (K 1))))
set_option maxRecDepth 100000 in
set_option maxHeartbeats 4000000 in
theorem kX1_compares {G : hx_GT} {KK : hx_KT} (hG : hx_K cX1_compares 4 0 0 (some .boolean) TbX1 KK G) (cA : hx_CA RX1 cX1_compares 1 0 0 G) {Λ : hx_L}  {μ : hx_M} (v0 : Int32) (v1 : Int32) {K : Int32 → Prop} (hK : ∀ (r : Int32), K r → KK (some (.int r)) Λ μ) (hw : wX1_compares v0 v1 K) : G Λ μ (0, 0) 0 [some (.int v0), some (.int v1), none, none] [] := by
  unfold wX1_compares at hw
  refine cl_iload_n hG (hx_dq tdX1_compares_0 0 rfl) rfl (cl_iconst hG 4 (hx_dq tdX1_compares_0 1 rfl) iconst_4 (cl_ishr hG (hx_dq tdX1_compares_0 2 rfl) (cl_bipush hG 127 (hx_dq tdX1_compares_0 3 rfl) bipush_127 (cl_iand hG (hx_dq tdX1_compares_0 4 rfl) (cl_istore_n hG (hx_dq tdX1_compares_0 5 rfl) (Nat.le_of_ble_eq_true rfl) rfl (cl_iload_n hG (hx_dq tdX1_compares_0 6 rfl) rfl (cl_bipush hG 11 (hx_dq tdX1_compares_0 7 rfl) bipush_11 (cl_ishr hG (hx_dq tdX1_compares_0 8 rfl) (cl_istore_n hG (hx_dq tdX1_compares_0 9 rfl) (Nat.le_of_ble_eq_true rfl) rfl (cl_iload_n hG (hx_dq tdX1_compares_0 10 rfl) rfl (cl_bipush hG 60 (hx_dq tdX1_compares_0 11 rfl) bipush_60 (cl_icmp_ne hG 29 (hx_dq tdX1_compares_0 12 rfl) rfl (fun c15 => ?_) (fun c15 => ?_)))))))))))))
  · replace hw := hw.1 c15
    refine cl_iload_n hG (hx_dq tdX1_compares_0 20 rfl) rfl (cl_bipush hG 62 (hx_dq tdX1_compares_0 21 rfl) bipush_62 (cl_icmp_ne hG 48 (hx_dq tdX1_compares_0 22 rfl) rfl (fun c32 => ?_) (fun c32 => ?_)))
    · replace hw := hw.1 c32
      refine cl_iload_n hG (hx_dq tdX1_compares_0 30 rfl) rfl (cl_iload_n hG (hx_dq tdX1_compares_0 31 rfl) rfl (cl_icmp_ne hG 57 (hx_dq tdX1_compares_1 0 rfl) rfl (fun c50 => ?_) (fun c50 => ?_)))
      · replace hw := hw.1 c50
        exact cl_iconst hG 0 (hx_dq tdX1_compares_1 3 rfl) iconst_0 (cl_iret hG (hx_dq tdX1_compares_1 4 rfl) rfl rfl (hK _ hw) (Nat.le_refl _) (Nat.le_refl _))
      · replace hw := hw.2 c50
        exact cl_iconst hG 1 (hx_dq tdX1_compares_1 1 rfl) iconst_1 (cl_goto hG 58 (hx_dq tdX1_compares_1 2 rfl) rfl (cl_iret hG (hx_dq tdX1_compares_1 4 rfl) rfl rfl (hK _ hw) (Nat.le_refl _) (Nat.le_refl _)))
    · replace hw := hw.2 c32
      refine cl_iload_n hG (hx_dq tdX1_compares_0 23 rfl) rfl (cl_iload_n hG (hx_dq tdX1_compares_0 24 rfl) rfl (cl_icmp_le hG 44 (hx_dq tdX1_compares_0 25 rfl) rfl (fun c37 => ?_) (fun c37 => ?_)))
      · replace hw := hw.1 c37
        exact cl_iconst hG 0 (hx_dq tdX1_compares_0 28 rfl) iconst_0 (cl_goto hG 58 (hx_dq tdX1_compares_0 29 rfl) rfl (cl_iret hG (hx_dq tdX1_compares_1 4 rfl) rfl rfl (hK _ hw) (Nat.le_refl _) (Nat.le_refl _)))
      · replace hw := hw.2 c37
        exact cl_iconst hG 1 (hx_dq tdX1_compares_0 26 rfl) iconst_1 (cl_goto hG 58 (hx_dq tdX1_compares_0 27 rfl) rfl (cl_iret hG (hx_dq tdX1_compares_1 4 rfl) rfl rfl (hK _ hw) (Nat.le_refl _) (Nat.le_refl _)))
  · replace hw := hw.2 c15
    refine cl_iload_n hG (hx_dq tdX1_compares_0 13 rfl) rfl (cl_iload_n hG (hx_dq tdX1_compares_0 14 rfl) rfl (cl_icmp_ge hG 27 (hx_dq tdX1_compares_0 15 rfl) rfl (fun c20 => ?_) (fun c20 => ?_)))
    · replace hw := hw.1 c20
      exact cl_iconst hG 0 (hx_dq tdX1_compares_0 18 rfl) iconst_0 (cl_iret hG (hx_dq tdX1_compares_0 19 rfl) rfl rfl (hK _ hw) (Nat.le_refl _) (Nat.le_refl _))
    · replace hw := hw.2 c20
      exact cl_iconst hG 1 (hx_dq tdX1_compares_0 16 rfl) iconst_1 (cl_goto hG 28 (hx_dq tdX1_compares_0 17 rfl) rfl (cl_iret hG (hx_dq tdX1_compares_0 19 rfl) rfl rfl (hK _ hw) (Nat.le_refl _) (Nat.le_refl _)))
def sX1_compares : hx_ST := fun Λ μ as KK => ∃ (v0 : Int32) (v1 : Int32) (K : Int32 → Prop), as = [.int v0, .int v1] ∧ wX1_compares v0 v1 K ∧ (∀ (r : Int32), K r → KK (some (.int r)) Λ μ)
theorem sX1_compares_mk {Λ : hx_L} {μ : hx_M} {KK : hx_KT} {v0 : Int32} {v1 : Int32} {K : Int32 → Prop}  (hw : wX1_compares v0 v1 K) (hk : ∀ (r : Int32), K r → KK (some (.int r)) Λ μ) : sX1_compares Λ μ [.int v0, .int v1] KK := ⟨_, _, _, rfl, hw, hk⟩
theorem conX1_compares : hx_Con yX1_compares cX1_compares 4 (some .boolean) 1 0 0 sX1_compares := by
  refine hx_con_of (by decide +kernel) tokX1 (by decide) ?_ ?_
  · intro Λ μ as KK h
    obtain ⟨v0, v1, K, rfl, hw, hK⟩ := h
    exact Nat.le_of_ble_eq_true rfl
  · intro G KK hG cA Λ μ as h
    obtain ⟨v0, v1, K, rfl, hw, hK⟩ := h
    exact cl_sub hG (hx_le_c rfl (hx_le_c rfl (hx_le_n (hx_le_n hx_le_0)))) (kX1_compares hG cA _ _ hK hw)
/-! HemLine$Reckoner.holds([III)Z -/
def tbX6_holds_0 : List (Nat × Instr × Nat) := [(0, .iconst 1, 1), (1, .istore 4, 2), (3, .iload_n 2, 1), (4, .istore 5, 2), (6, .iload 5, 2), (8, .iload_n 3, 1), (9, .if_icmp .ge 121, 3), (12, .aload_n 1, 1), (13, .iload 5, 2), (15, .iaload, 1), (16, .istore 6, 2), (18, .iload 4, 2), (20, .iconst 1, 1), (21, .iand, 1), (22, .istore 7, 2), (24, .iload 6, 2), (26, .iconst (-1), 1), (27, .if_icmp .ne 12, 3), (30, .iload 4, 2), (32, .iconst 1, 1), (33, .ixor, 1), (34, .istore 4, 2), (36, .goto 88, 3), (39, .iload 6, 2), (41, .bipush (-2), 2), (43, .if_icmp .ne 18, 3), (46, .iload 4, 2), (48, .iconst 1, 1), (49, .iushr, 1), (50, .iload 7, 2), (52, .bipush (-2), 2), (54, .ior, 1)]
def tbX6_holds_1 : List (Nat × Instr × Nat) := [(55, .iand, 1), (56, .istore 4, 2), (58, .goto 66, 3), (61, .iload 6, 2), (63, .bipush (-3), 2), (65, .if_icmp .ne 15, 3), (68, .iload 4, 2), (70, .iconst 1, 1), (71, .iushr, 1), (72, .iload 7, 2), (74, .ior, 1), (75, .istore 4, 2), (77, .goto 47, 3), (80, .iload 6, 2), (82, .invokestatic 121, 3), (85, .aload_n 0, 1), (86, .getfield 21, 3), (89, .arraylength, 1), (90, .iconst 1, 1), (91, .isub, 1), (92, .invokestatic 85, 3), (95, .istore 8, 2), (97, .iload 4, 2), (99, .iconst 1, 1), (100, .ishl, 1), (101, .iload 6, 2), (103, .aload_n 0, 1), (104, .getfield 21, 3), (107, .iload 8, 2), (109, .iaload, 1), (110, .invokestatic 124, 3), (113, .ifCond .eq 7, 3)]
def tbX6_holds_2 : List (Nat × Instr × Nat) := [(116, .iconst 1, 1), (117, .goto 4, 3), (120, .iconst 0, 1), (121, .ior, 1), (122, .istore 4, 2), (124, .iinc 5 1, 3), (127, .goto (-121), 3), (130, .iload 4, 2), (132, .iconst 1, 1), (133, .iand, 1), (134, .iconst 1, 1), (135, .if_icmp .ne 7, 3), (138, .iconst 1, 1), (139, .goto 4, 3), (142, .iconst 0, 1), (143, .ireturn, 1)]
theorem tdX6_holds_0 : hx_dt cX6_holds tbX6_holds_0 = true := by decide +kernel
theorem tdX6_holds_1 : hx_dt cX6_holds tbX6_holds_1 = true := by decide +kernel
theorem tdX6_holds_2 : hx_dt cX6_holds tbX6_holds_2 = true := by decide +kernel
theorem caX6_holds_121 {G : hx_GT} (cA : hx_CA RX6 cX6_holds 2 0 0 G) : hx_CS cX6_holds G 0 0 121 1 sX1_wordOf 0 0 := cA.2.1 conX1_wordOf ⟨by decide +kernel, by decide +kernel, by decide +kernel⟩ mw_740 mw_741 mw_102 mw_742 (by decide) (by decide)
theorem caX6_holds_124 {G : hx_GT} (cA : hx_CA RX6 cX6_holds 2 0 0 G) : hx_CS cX6_holds G 0 0 124 2 sX1_compares 0 0 := cA.2.1 conX1_compares ⟨by decide +kernel, by decide +kernel, by decide +kernel⟩ mw_743 mw_744 mw_102 mw_745 (by decide) (by decide)
def wX6_holds_J124 (Λ : hx_L) (μ : hx_M) (K : Int32 → Prop) (K6 : Int32 → Int32 → Prop) (v1 : Nat) (v3 : Int32) (v4 : Int32) (v5 : Int32)   : Prop := K6 v4 (v5 + 1)
set_option maxRecDepth 100000 in
set_option maxHeartbeats 4000000 in
theorem kX6_holds_J124 {G : hx_GT} {KK : hx_KT} (hG : hx_K cX6_holds 9 0 0 (some .boolean) TbX6 KK G) (cA : hx_CA RX6 cX6_holds 2 0 0 G) {Λ : hx_L} (hF : cF Λ) {μ : hx_M} (v1 : Nat) (v3 : Int32) (v4 : Int32) (v5 : Int32)  {K : Int32 → Prop} (hK : ∀ (r : Int32), K r → KK (some (.int r)) Λ μ) {K6 : Int32 → Int32 → Prop} (hk6 : ∀ (v4 : Int32) (v5 : Int32), K6 v4 v5 → G Λ μ (0, 0) 6 [some (.ref 21), some (.ref v1), none, some (.int v3), some (.int v4), some (.int v5), none, none, none] []) (hw : wX6_holds_J124 Λ μ K K6 v1 v3 v4 v5) : G Λ μ (0, 0) 124 [some (.ref 21), some (.ref v1), none, some (.int v3), some (.int v4), some (.int v5), none, none, none] [] := by
  unfold wX6_holds_J124 at hw
  exact cl_iinc hG (v5 + 1) (hx_dq tdX6_holds_2 5 rfl) rfl (congrArg (fun z => v5 + z) iconst_1) (Nat.le_of_ble_eq_true rfl) rfl (cl_goto hG 6 (hx_dq tdX6_holds_2 6 rfl) rfl (cl_sub hG (hx_le_c rfl (hx_le_c rfl (hx_le_n (hx_le_c rfl (hx_le_c rfl (hx_le_c rfl (hx_le_n (hx_le_n (hx_le_n hx_le_0))))))))) (hk6 v4 (v5 + 1) hw)))
def wX6_holds_J121 (Λ : hx_L) (μ : hx_M) (K : Int32 → Prop) (K6 : Int32 → Int32 → Prop) (v1 : Nat) (v3 : Int32) (v5 : Int32) (t0 : Int32) (t1 : Int32)  : Prop := wX6_holds_J124 Λ μ K (K6) v1 v3 (t0 ||| t1) v5
set_option maxRecDepth 100000 in
set_option maxHeartbeats 4000000 in
theorem kX6_holds_J121 {G : hx_GT} {KK : hx_KT} (hG : hx_K cX6_holds 9 0 0 (some .boolean) TbX6 KK G) (cA : hx_CA RX6 cX6_holds 2 0 0 G) {Λ : hx_L} (hF : cF Λ) {μ : hx_M} (v1 : Nat) (v3 : Int32) (v5 : Int32) (t0 : Int32) (t1 : Int32) {K : Int32 → Prop} (hK : ∀ (r : Int32), K r → KK (some (.int r)) Λ μ) {K6 : Int32 → Int32 → Prop} (hk6 : ∀ (v4 : Int32) (v5 : Int32), K6 v4 v5 → G Λ μ (0, 0) 6 [some (.ref 21), some (.ref v1), none, some (.int v3), some (.int v4), some (.int v5), none, none, none] []) (hw : wX6_holds_J121 Λ μ K K6 v1 v3 v5 t0 t1) : G Λ μ (0, 0) 121 [some (.ref 21), some (.ref v1), none, some (.int v3), none, some (.int v5), none, none, none] [.int t1, .int t0] := by
  unfold wX6_holds_J121 at hw
  refine cl_ior hG (hx_dq tdX6_holds_2 3 rfl) (cl_istore hG (hx_dq tdX6_holds_2 4 rfl) (Nat.le_of_ble_eq_true rfl) rfl ?_)
  exact cl_sub hG (hx_le_c rfl (hx_le_c rfl (hx_le_n (hx_le_c rfl (hx_le_c rfl (hx_le_c rfl (hx_le_n (hx_le_n (hx_le_n hx_le_0))))))))) (kX6_holds_J124 hG cA hF v1 v3 (t0 ||| t1) v5 hK (fun z0 z1 hw => hk6 z0 z1 hw) hw)
def wX6_holds_J124_11 (Λ : hx_L) (μ : hx_M) (K : Int32 → Prop) (K6 : Int32 → Int32 → Prop) (v1 : Nat) (v3 : Int32) (v4 : Int32) (v5 : Int32)   : Prop := K6 v4 (v5 + 1)
set_option maxRecDepth 100000 in
set_option maxHeartbeats 4000000 in
theorem kX6_holds_J124_11 {G : hx_GT} {KK : hx_KT} (hG : hx_K cX6_holds 9 0 0 (some .boolean) TbX6 KK G) (cA : hx_CA RX6 cX6_holds 2 0 0 G) {Λ : hx_L} (hF : cF Λ) {μ : hx_M} (v1 : Nat) (v3 : Int32) (v4 : Int32) (v5 : Int32)  {K : Int32 → Prop} (hK : ∀ (r : Int32), K r → KK (some (.int r)) Λ μ) {K6 : Int32 → Int32 → Prop} (hk6 : ∀ (v4 : Int32) (v5 : Int32), K6 v4 v5 → G Λ μ (0, 0) 6 [some (.ref 21), some (.ref v1), none, some (.int v3), some (.int v4), some (.int v5), none, none, none] []) (hw : wX6_holds_J124_11 Λ μ K K6 v1 v3 v4 v5) : G Λ μ (0, 0) 124 [some (.ref 21), some (.ref v1), none, some (.int v3), some (.int v4), some (.int v5), none, none, none] [] := by
  unfold wX6_holds_J124_11 at hw
  exact cl_iinc hG (v5 + 1) (hx_dq tdX6_holds_2 5 rfl) rfl (congrArg (fun z => v5 + z) iconst_1) (Nat.le_of_ble_eq_true rfl) rfl (cl_goto hG 6 (hx_dq tdX6_holds_2 6 rfl) rfl (cl_sub hG (hx_le_c rfl (hx_le_c rfl (hx_le_n (hx_le_c rfl (hx_le_c rfl (hx_le_c rfl (hx_le_n (hx_le_n (hx_le_n hx_le_0))))))))) (hk6 v4 (v5 + 1) hw)))
def wX6_holds_L6 (Λ : hx_L) (μ : hx_M) (v1 : Nat) (v3 : Int32) (K : Int32 → Prop) (K130 : Int32 → Prop) : Nat → Int32 → Int32 → Prop
  | 0, _, _ => False
  | n + 1, v4, v5 => (v3 ≤ v5 → (K130 v4)) ∧ (¬ (v3 ≤ v5) → (∃ n15_2, Λ.1 v1 = (1, n15_2) ∧ vp_in v5 n15_2 ∧ ((μ.1 v1 v5.toNatClampNeg) ≠ (-1) → (((μ.1 v1 v5.toNatClampNeg) ≠ (-2) → (((μ.1 v1 v5.toNatClampNeg) ≠ (-3) → (wX1_wordOf (μ.1 v1 v5.toNatClampNeg) (fun r82_5 => ∀ x_6 : Int32, x_6 = (if ((Int32.ofNat 12) - 1) < r82_5 then ((Int32.ofNat 12) - 1) else r82_5) → vp_in x_6 12 ∧ wX1_compares (μ.1 v1 v5.toNatClampNeg) (μ.1 22 x_6.toNatClampNeg) (fun r110_9 => (r110_9 = 0 → (wX6_holds_J121 Λ μ K (wX6_holds_L6 Λ μ v1 v3 K K130 n) v1 v3 v5 (v4 <<< (1 &&& 31)) 0)) ∧ (¬ (r110_9 = 0) → (wX6_holds_J121 Λ μ K (wX6_holds_L6 Λ μ v1 v3 K K130 n) v1 v3 v5 (v4 <<< (1 &&& 31)) 1)))))) ∧ ((μ.1 v1 v5.toNatClampNeg) = (-3) → (∀ x_10 : Int32, x_10 = (((v4 : Int32).toUInt32 >>> ((1 : Int32).toUInt32 &&& Int32.toUInt32 31)).toInt32) → wX6_holds_J124_11 Λ μ K (wX6_holds_L6 Λ μ v1 v3 K K130 n) v1 v3 (x_10 ||| (v4 &&& 1)) v5)))) ∧ ((μ.1 v1 v5.toNatClampNeg) = (-2) → (∀ x_12 : Int32, x_12 = (((v4 : Int32).toUInt32 >>> ((1 : Int32).toUInt32 &&& Int32.toUInt32 31)).toInt32) → wX6_holds_J124_11 Λ μ K (wX6_holds_L6 Λ μ v1 v3 K K130 n) v1 v3 (x_12 &&& ((v4 &&& 1) ||| (-2))) v5)))) ∧ ((μ.1 v1 v5.toNatClampNeg) = (-1) → (wX6_holds_J124_11 Λ μ K (wX6_holds_L6 Λ μ v1 v3 K K130 n) v1 v3 (v4 ^^^ 1) v5))))
set_option maxRecDepth 100000 in
set_option maxHeartbeats 4000000 in
theorem kX6_holds_L6 {G : hx_GT} {KK : hx_KT} (hG : hx_K cX6_holds 9 0 0 (some .boolean) TbX6 KK G) (cA : hx_CA RX6 cX6_holds 2 0 0 G) {Λ : hx_L} (hF : cF Λ) {μ : hx_M} (v1 : Nat) (v3 : Int32) {K : Int32 → Prop} (hK : ∀ (r : Int32), K r → KK (some (.int r)) Λ μ) {K130 : Int32 → Prop} (hk130 : ∀ (v4 : Int32), K130 v4 → G Λ μ (0, 0) 130 [none, none, none, none, some (.int v4), none, none, none, none] []) : ∀ (n : Nat) (v4 : Int32) (v5 : Int32), wX6_holds_L6 Λ μ v1 v3 K K130 n v4 v5 → G Λ μ (0, 0) 6 [some (.ref 21), some (.ref v1), none, some (.int v3), some (.int v4), some (.int v5), none, none, none] [] := by
  intro n
  induction n with
  | zero =>
    intro v4 v5 hw
    exact False.elim (by simpa only [wX6_holds_L6] using hw)
  | succ n ih =>
    intro v4 v5 hw
    unfold wX6_holds_L6 at hw
    refine cl_iload hG (hx_dq tdX6_holds_0 4 rfl) rfl (cl_iload_n hG (hx_dq tdX6_holds_0 5 rfl) rfl (cl_icmp_ge hG 130 (hx_dq tdX6_holds_0 6 rfl) rfl (fun c9 => ?_) (fun c9 => ?_)))
    · replace hw := hw.1 c9
      exact cl_sub hG (hx_le_n (hx_le_n (hx_le_n (hx_le_n (hx_le_c rfl (hx_le_n (hx_le_n (hx_le_n (hx_le_n hx_le_0))))))))) (hk130 v4 hw)
    · replace hw := hw.2 c9
      obtain ⟨n15_2, o15_1, hw⟩ := hw
      obtain ⟨i15_3, hw⟩ := hw
      refine cl_aload_n hG (hx_dq tdX6_holds_0 7 rfl) rfl (cl_iload hG (hx_dq tdX6_holds_0 8 rfl) rfl (cl_iald hG (hx_dq tdX6_holds_0 9 rfl) o15_1 i15_3 (cl_istore hG (hx_dq tdX6_holds_0 10 rfl) (Nat.le_of_ble_eq_true rfl) rfl (cl_iload hG (hx_dq tdX6_holds_0 11 rfl) rfl (cl_iconst hG 1 (hx_dq tdX6_holds_0 12 rfl) iconst_1 (cl_iand hG (hx_dq tdX6_holds_0 13 rfl) (cl_istore hG (hx_dq tdX6_holds_0 14 rfl) (Nat.le_of_ble_eq_true rfl) rfl (cl_iload hG (hx_dq tdX6_holds_0 15 rfl) rfl (cl_iconst hG (-1) (hx_dq tdX6_holds_0 16 rfl) iconst_m1 (cl_icmp_ne hG 39 (hx_dq tdX6_holds_0 17 rfl) rfl (fun c27 => ?_) (fun c27 => ?_)))))))))))
      · replace hw := hw.1 c27
        refine cl_iload hG (hx_dq tdX6_holds_0 23 rfl) rfl (cl_bipush hG (-2) (hx_dq tdX6_holds_0 24 rfl) bipush_m2 (cl_icmp_ne hG 61 (hx_dq tdX6_holds_0 25 rfl) rfl (fun c43 => ?_) (fun c43 => ?_)))
        · replace hw := hw.1 c43
          refine cl_iload hG (hx_dq tdX6_holds_1 3 rfl) rfl (cl_bipush hG (-3) (hx_dq tdX6_holds_1 4 rfl) bipush_m3 (cl_icmp_ne hG 80 (hx_dq tdX6_holds_1 5 rfl) rfl (fun c65 => ?_) (fun c65 => ?_)))
          · replace hw := hw.1 c65
            refine cl_iload hG (hx_dq tdX6_holds_1 13 rfl) rfl (cl_callS1 (caX6_holds_121 cA) (hx_dq tdX6_holds_1 14 rfl) (Nat.le_of_ble_eq_true rfl) (Nat.le_refl _) (Nat.le_refl _) (sX1_wordOf_mk hw (fun r82_5 hw => ?_)))
            refine cl_aload_n hG (hx_dq tdX6_holds_1 15 rfl) rfl (cl_getS hG fmX6_21 (hx_dq tdX6_holds_1 16 rfl) (cF_S21 hF) (cF_R21_2 hF) (cl_alenI hG (hx_dq tdX6_holds_1 17 rfl) (cF_S22 hF) (cl_iconst hG 1 (hx_dq tdX6_holds_1 18 rfl) iconst_1 (cl_isub hG (hx_dq tdX6_holds_1 19 rfl) (cl_mmin hG mmX6_85 (hx_dq tdX6_holds_1 20 rfl) (Nat.le_refl _) (Nat.le_refl _) (Nat.le_of_ble_eq_true rfl) (cl_nmI (fun x_6 e_6 => ?_)))))))
            replace hw := hw x_6 e_6
            obtain ⟨i109_7, hw⟩ := hw
            refine cl_istore hG (hx_dq tdX6_holds_1 21 rfl) (Nat.le_of_ble_eq_true rfl) rfl (cl_iload hG (hx_dq tdX6_holds_1 22 rfl) rfl (cl_iconst hG 1 (hx_dq tdX6_holds_1 23 rfl) iconst_1 (cl_ishl hG (hx_dq tdX6_holds_1 24 rfl) (cl_iload hG (hx_dq tdX6_holds_1 25 rfl) rfl (cl_aload_n hG (hx_dq tdX6_holds_1 26 rfl) rfl (cl_getS hG fmX6_21 (hx_dq tdX6_holds_1 27 rfl) (cF_S21 hF) (cF_R21_2 hF) (cl_iload hG (hx_dq tdX6_holds_1 28 rfl) rfl (cl_iald hG (hx_dq tdX6_holds_1 29 rfl) (cF_S22 hF) i109_7 (cl_callS2 (caX6_holds_124 cA) (hx_dq tdX6_holds_1 30 rfl) (Nat.le_of_ble_eq_true rfl) (Nat.le_refl _) (Nat.le_refl _) (sX1_compares_mk hw (fun r110_9 hw => ?_)))))))))))
            refine cl_if_eq hG 120 (hx_dq tdX6_holds_1 31 rfl) rfl (fun c113 => ?_) (fun c113 => ?_)
            · replace hw := hw.1 c113
              refine cl_iconst hG 0 (hx_dq tdX6_holds_2 2 rfl) iconst_0 ?_
              exact cl_sub hG (hx_le_c rfl (hx_le_c rfl (hx_le_n (hx_le_c rfl (hx_le_n (hx_le_c rfl (hx_le_n (hx_le_n (hx_le_n hx_le_0))))))))) (kX6_holds_J121 hG cA hF v1 v3 v5 (v4 <<< (1 &&& 31)) 0 hK (fun z0 z1 hw => ih z0 z1 hw) hw)
            · replace hw := hw.2 c113
              refine cl_iconst hG 1 (hx_dq tdX6_holds_2 0 rfl) iconst_1 (cl_goto hG 121 (hx_dq tdX6_holds_2 1 rfl) rfl ?_)
              exact cl_sub hG (hx_le_c rfl (hx_le_c rfl (hx_le_n (hx_le_c rfl (hx_le_n (hx_le_c rfl (hx_le_n (hx_le_n (hx_le_n hx_le_0))))))))) (kX6_holds_J121 hG cA hF v1 v3 v5 (v4 <<< (1 &&& 31)) 1 hK (fun z0 z1 hw => ih z0 z1 hw) hw)
          · replace hw := hw.2 c65
            refine cl_iload hG (hx_dq tdX6_holds_1 6 rfl) rfl (cl_iconst hG 1 (hx_dq tdX6_holds_1 7 rfl) iconst_1 (cl_iushr hG (hx_dq tdX6_holds_1 8 rfl) (cl_nmI (fun x_10 e_10 => ?_))))
            replace hw := hw x_10 e_10
            refine cl_iload hG (hx_dq tdX6_holds_1 9 rfl) rfl (cl_ior hG (hx_dq tdX6_holds_1 10 rfl) (cl_istore hG (hx_dq tdX6_holds_1 11 rfl) (Nat.le_of_ble_eq_true rfl) rfl (cl_goto hG 124 (hx_dq tdX6_holds_1 12 rfl) rfl ?_)))
            exact cl_sub hG (hx_le_c rfl (hx_le_c rfl (hx_le_n (hx_le_c rfl (hx_le_c rfl (hx_le_c rfl (hx_le_n (hx_le_n (hx_le_n hx_le_0))))))))) (kX6_holds_J124_11 hG cA hF v1 v3 (x_10 ||| (v4 &&& 1)) v5 hK (fun z0 z1 hw => ih z0 z1 hw) hw)
        · replace hw := hw.2 c43
          refine cl_iload hG (hx_dq tdX6_holds_0 26 rfl) rfl (cl_iconst hG 1 (hx_dq tdX6_holds_0 27 rfl) iconst_1 (cl_iushr hG (hx_dq tdX6_holds_0 28 rfl) (cl_nmI (fun x_12 e_12 => ?_))))
          replace hw := hw x_12 e_12
          refine cl_iload hG (hx_dq tdX6_holds_0 29 rfl) rfl (cl_bipush hG (-2) (hx_dq tdX6_holds_0 30 rfl) bipush_m2 (cl_ior hG (hx_dq tdX6_holds_0 31 rfl) (cl_iand hG (hx_dq tdX6_holds_1 0 rfl) (cl_istore hG (hx_dq tdX6_holds_1 1 rfl) (Nat.le_of_ble_eq_true rfl) rfl (cl_goto hG 124 (hx_dq tdX6_holds_1 2 rfl) rfl ?_)))))
          exact cl_sub hG (hx_le_c rfl (hx_le_c rfl (hx_le_n (hx_le_c rfl (hx_le_c rfl (hx_le_c rfl (hx_le_n (hx_le_n (hx_le_n hx_le_0))))))))) (kX6_holds_J124_11 hG cA hF v1 v3 (x_12 &&& ((v4 &&& 1) ||| (-2))) v5 hK (fun z0 z1 hw => ih z0 z1 hw) hw)
      · replace hw := hw.2 c27
        refine cl_iload hG (hx_dq tdX6_holds_0 18 rfl) rfl (cl_iconst hG 1 (hx_dq tdX6_holds_0 19 rfl) iconst_1 (cl_ixor hG (hx_dq tdX6_holds_0 20 rfl) (cl_istore hG (hx_dq tdX6_holds_0 21 rfl) (Nat.le_of_ble_eq_true rfl) rfl (cl_goto hG 124 (hx_dq tdX6_holds_0 22 rfl) rfl ?_))))
        exact cl_sub hG (hx_le_c rfl (hx_le_c rfl (hx_le_n (hx_le_c rfl (hx_le_c rfl (hx_le_c rfl (hx_le_n (hx_le_n (hx_le_n hx_le_0))))))))) (kX6_holds_J124_11 hG cA hF v1 v3 (v4 ^^^ 1) v5 hK (fun z0 z1 hw => ih z0 z1 hw) hw)
def wX6_holds (Λ : hx_L) (μ : hx_M) (v1 : Nat) (v2 : Int32) (v3 : Int32) (K : Int32 → Prop) : Prop := ∃ n6_14, wX6_holds_L6 Λ μ v1 v3 K (fun v4_13 => ((v4_13 &&& 1) ≠ 1 → (K 0)) ∧ ((v4_13 &&& 1) = 1 → (K 1))) n6_14 1 v2
set_option maxRecDepth 100000 in
set_option maxHeartbeats 4000000 in
theorem kX6_holds {G : hx_GT} {KK : hx_KT} (hG : hx_K cX6_holds 9 0 0 (some .boolean) TbX6 KK G) (cA : hx_CA RX6 cX6_holds 2 0 0 G) {Λ : hx_L} (hF : cF Λ) {μ : hx_M} (v1 : Nat) (v2 : Int32) (v3 : Int32) {K : Int32 → Prop} (hK : ∀ (r : Int32), K r → KK (some (.int r)) Λ μ) (hw : wX6_holds Λ μ v1 v2 v3 K) : G Λ μ (0, 0) 0 [some (.ref 21), some (.ref v1), some (.int v2), some (.int v3), none, none, none, none, none] [] := by
  unfold wX6_holds at hw
  refine cl_iconst hG 1 (hx_dq tdX6_holds_0 0 rfl) iconst_1 (cl_istore hG (hx_dq tdX6_holds_0 1 rfl) (Nat.le_of_ble_eq_true rfl) rfl (cl_iload_n hG (hx_dq tdX6_holds_0 2 rfl) rfl (cl_istore hG (hx_dq tdX6_holds_0 3 rfl) (Nat.le_of_ble_eq_true rfl) rfl ?_)))
  obtain ⟨n_, hw⟩ := hw
  refine cl_sub hG (hx_le_c rfl (hx_le_c rfl (hx_le_n (hx_le_c rfl (hx_le_c rfl (hx_le_c rfl (hx_le_n (hx_le_n (hx_le_n hx_le_0))))))))) (kX6_holds_L6 hG cA hF v1 v3 hK (fun v4_13 hw => ?_) n_ 1 v2 hw)
  · refine cl_iload hG (hx_dq tdX6_holds_2 7 rfl) rfl (cl_iconst hG 1 (hx_dq tdX6_holds_2 8 rfl) iconst_1 (cl_iand hG (hx_dq tdX6_holds_2 9 rfl) (cl_iconst hG 1 (hx_dq tdX6_holds_2 10 rfl) iconst_1 (cl_icmp_ne hG 142 (hx_dq tdX6_holds_2 11 rfl) rfl (fun c135 => ?_) (fun c135 => ?_)))))
    · replace hw := hw.1 c135
      exact cl_iconst hG 0 (hx_dq tdX6_holds_2 14 rfl) iconst_0 (cl_iret hG (hx_dq tdX6_holds_2 15 rfl) rfl rfl (hK _ hw) (Nat.le_refl _) (Nat.le_refl _))
    · replace hw := hw.2 c135
      exact cl_iconst hG 1 (hx_dq tdX6_holds_2 12 rfl) iconst_1 (cl_goto hG 143 (hx_dq tdX6_holds_2 13 rfl) rfl (cl_iret hG (hx_dq tdX6_holds_2 15 rfl) rfl rfl (hK _ hw) (Nat.le_refl _) (Nat.le_refl _)))
def sX6_holds : hx_ST := fun Λ μ as KK => cF Λ ∧ ∃ (v1 : Nat) (v2 : Int32) (v3 : Int32) (K : Int32 → Prop), as = [.ref 21, .ref v1, .int v2, .int v3] ∧ wX6_holds Λ μ v1 v2 v3 K ∧ (∀ (r : Int32), K r → KK (some (.int r)) Λ μ)
theorem sX6_holds_mk {Λ : hx_L} {μ : hx_M} {KK : hx_KT} {v1 : Nat} {v2 : Int32} {v3 : Int32} {K : Int32 → Prop} (hF : cF Λ) (hw : wX6_holds Λ μ v1 v2 v3 K) (hk : ∀ (r : Int32), K r → KK (some (.int r)) Λ μ) : sX6_holds Λ μ [.ref 21, .ref v1, .int v2, .int v3] KK := ⟨hF, _, _, _, _, rfl, hw, hk⟩
theorem conX6_holds : hx_Con yX6_holds cX6_holds 9 (some .boolean) 2 0 0 sX6_holds := by
  refine hx_con_of (by decide +kernel) tokX6 (by decide) ?_ ?_
  · intro Λ μ as KK h
    obtain ⟨hF, v1, v2, v3, K, rfl, hw, hK⟩ := h
    exact Nat.le_of_ble_eq_true rfl
  · intro G KK hG cA Λ μ as h
    obtain ⟨hF, v1, v2, v3, K, rfl, hw, hK⟩ := h
    exact cl_sub hG (hx_le_c rfl (hx_le_c rfl (hx_le_c rfl (hx_le_c rfl (hx_le_n (hx_le_n (hx_le_n (hx_le_n (hx_le_n hx_le_0))))))))) (kX6_holds hG cA hF _ _ _ hK hw)
/-! HemLine$Law.verbOf(I)I -/
def tbX1_verbOf_0 : List (Nat × Instr × Nat) := [(0, .iload_n 0, 1), (1, .iconst 3, 1), (2, .iand, 1), (3, .ireturn, 1)]
theorem tdX1_verbOf_0 : hx_dt cX1_verbOf tbX1_verbOf_0 = true := by decide +kernel
def wX1_verbOf  (v0 : Int32) (K : Int32 → Prop) : Prop := K (v0 &&& 3)
set_option maxRecDepth 100000 in
set_option maxHeartbeats 4000000 in
theorem kX1_verbOf {G : hx_GT} {KK : hx_KT} (hG : hx_K cX1_verbOf 1 0 0 (some .int) TbX1 KK G) (cA : hx_CA RX1 cX1_verbOf 1 0 0 G) {Λ : hx_L}  {μ : hx_M} (v0 : Int32) {K : Int32 → Prop} (hK : ∀ (r : Int32), K r → KK (some (.int r)) Λ μ) (hw : wX1_verbOf v0 K) : G Λ μ (0, 0) 0 [some (.int v0)] [] := by
  unfold wX1_verbOf at hw
  exact cl_iload_n hG (hx_dq tdX1_verbOf_0 0 rfl) rfl (cl_iconst hG 3 (hx_dq tdX1_verbOf_0 1 rfl) iconst_3 (cl_iand hG (hx_dq tdX1_verbOf_0 2 rfl) (cl_iret hG (hx_dq tdX1_verbOf_0 3 rfl) rfl rfl (hK _ hw) (Nat.le_refl _) (Nat.le_refl _))))
def sX1_verbOf : hx_ST := fun Λ μ as KK => ∃ (v0 : Int32) (K : Int32 → Prop), as = [.int v0] ∧ wX1_verbOf v0 K ∧ (∀ (r : Int32), K r → KK (some (.int r)) Λ μ)
theorem sX1_verbOf_mk {Λ : hx_L} {μ : hx_M} {KK : hx_KT} {v0 : Int32} {K : Int32 → Prop}  (hw : wX1_verbOf v0 K) (hk : ∀ (r : Int32), K r → KK (some (.int r)) Λ μ) : sX1_verbOf Λ μ [.int v0] KK := ⟨_, _, rfl, hw, hk⟩
theorem conX1_verbOf : hx_Con yX1_verbOf cX1_verbOf 1 (some .int) 1 0 0 sX1_verbOf := by
  refine hx_con_of (by decide +kernel) tokX1 (by decide) ?_ ?_
  · intro Λ μ as KK h
    obtain ⟨v0, K, rfl, hw, hK⟩ := h
    exact Nat.le_of_ble_eq_true rfl
  · intro G KK hG cA Λ μ as h
    obtain ⟨v0, K, rfl, hw, hK⟩ := h
    exact cl_sub hG (hx_le_c rfl hx_le_0) (kX1_verbOf hG cA _ hK hw)
/-! HemLine$Law.whomOf(I)I -/
def tbX1_whomOf_0 : List (Nat × Instr × Nat) := [(0, .iload_n 0, 1), (1, .iconst 2, 1), (2, .ishr, 1), (3, .bipush 7, 2), (5, .iand, 1), (6, .ireturn, 1)]
theorem tdX1_whomOf_0 : hx_dt cX1_whomOf tbX1_whomOf_0 = true := by decide +kernel
def wX1_whomOf  (v0 : Int32) (K : Int32 → Prop) : Prop := K ((v0 >>> (2 &&& 31)) &&& 7)
set_option maxRecDepth 100000 in
set_option maxHeartbeats 4000000 in
theorem kX1_whomOf {G : hx_GT} {KK : hx_KT} (hG : hx_K cX1_whomOf 1 0 0 (some .int) TbX1 KK G) (cA : hx_CA RX1 cX1_whomOf 1 0 0 G) {Λ : hx_L}  {μ : hx_M} (v0 : Int32) {K : Int32 → Prop} (hK : ∀ (r : Int32), K r → KK (some (.int r)) Λ μ) (hw : wX1_whomOf v0 K) : G Λ μ (0, 0) 0 [some (.int v0)] [] := by
  unfold wX1_whomOf at hw
  exact cl_iload_n hG (hx_dq tdX1_whomOf_0 0 rfl) rfl (cl_iconst hG 2 (hx_dq tdX1_whomOf_0 1 rfl) iconst_2 (cl_ishr hG (hx_dq tdX1_whomOf_0 2 rfl) (cl_bipush hG 7 (hx_dq tdX1_whomOf_0 3 rfl) bipush_7 (cl_iand hG (hx_dq tdX1_whomOf_0 4 rfl) (cl_iret hG (hx_dq tdX1_whomOf_0 5 rfl) rfl rfl (hK _ hw) (Nat.le_refl _) (Nat.le_refl _))))))
def sX1_whomOf : hx_ST := fun Λ μ as KK => ∃ (v0 : Int32) (K : Int32 → Prop), as = [.int v0] ∧ wX1_whomOf v0 K ∧ (∀ (r : Int32), K r → KK (some (.int r)) Λ μ)
theorem sX1_whomOf_mk {Λ : hx_L} {μ : hx_M} {KK : hx_KT} {v0 : Int32} {K : Int32 → Prop}  (hw : wX1_whomOf v0 K) (hk : ∀ (r : Int32), K r → KK (some (.int r)) Λ μ) : sX1_whomOf Λ μ [.int v0] KK := ⟨_, _, rfl, hw, hk⟩
theorem conX1_whomOf : hx_Con yX1_whomOf cX1_whomOf 1 (some .int) 1 0 0 sX1_whomOf := by
  refine hx_con_of (by decide +kernel) tokX1 (by decide) ?_ ?_
  · intro Λ μ as KK h
    obtain ⟨v0, K, rfl, hw, hK⟩ := h
    exact Nat.le_of_ble_eq_true rfl
  · intro G KK hG cA Λ μ as h
    obtain ⟨v0, K, rfl, hw, hK⟩ := h
    exact cl_sub hG (hx_le_c rfl hx_le_0) (kX1_whomOf hG cA _ hK hw)
/-! HemLine$Law.numberOf(I)I -/
def tbX1_numberOf_0 : List (Nat × Instr × Nat) := [(0, .iload_n 0, 1), (1, .bipush 11, 2), (3, .ishr, 1), (4, .ireturn, 1)]
theorem tdX1_numberOf_0 : hx_dt cX1_numberOf tbX1_numberOf_0 = true := by decide +kernel
def wX1_numberOf  (v0 : Int32) (K : Int32 → Prop) : Prop := K (v0 >>> (11 &&& 31))
set_option maxRecDepth 100000 in
set_option maxHeartbeats 4000000 in
theorem kX1_numberOf {G : hx_GT} {KK : hx_KT} (hG : hx_K cX1_numberOf 1 0 0 (some .int) TbX1 KK G) (cA : hx_CA RX1 cX1_numberOf 1 0 0 G) {Λ : hx_L}  {μ : hx_M} (v0 : Int32) {K : Int32 → Prop} (hK : ∀ (r : Int32), K r → KK (some (.int r)) Λ μ) (hw : wX1_numberOf v0 K) : G Λ μ (0, 0) 0 [some (.int v0)] [] := by
  unfold wX1_numberOf at hw
  exact cl_iload_n hG (hx_dq tdX1_numberOf_0 0 rfl) rfl (cl_bipush hG 11 (hx_dq tdX1_numberOf_0 1 rfl) bipush_11 (cl_ishr hG (hx_dq tdX1_numberOf_0 2 rfl) (cl_iret hG (hx_dq tdX1_numberOf_0 3 rfl) rfl rfl (hK _ hw) (Nat.le_refl _) (Nat.le_refl _))))
def sX1_numberOf : hx_ST := fun Λ μ as KK => ∃ (v0 : Int32) (K : Int32 → Prop), as = [.int v0] ∧ wX1_numberOf v0 K ∧ (∀ (r : Int32), K r → KK (some (.int r)) Λ μ)
theorem sX1_numberOf_mk {Λ : hx_L} {μ : hx_M} {KK : hx_KT} {v0 : Int32} {K : Int32 → Prop}  (hw : wX1_numberOf v0 K) (hk : ∀ (r : Int32), K r → KK (some (.int r)) Λ μ) : sX1_numberOf Λ μ [.int v0] KK := ⟨_, _, rfl, hw, hk⟩
theorem conX1_numberOf : hx_Con yX1_numberOf cX1_numberOf 1 (some .int) 1 0 0 sX1_numberOf := by
  refine hx_con_of (by decide +kernel) tokX1 (by decide) ?_ ?_
  · intro Λ μ as KK h
    obtain ⟨v0, K, rfl, hw, hK⟩ := h
    exact Nat.le_of_ble_eq_true rfl
  · intro G KK hG cA Λ μ as h
    obtain ⟨v0, K, rfl, hw, hK⟩ := h
    exact cl_sub hG (hx_le_c rfl hx_le_0) (kX1_numberOf hG cA _ hK hw)
/-! HemLine$Past.shownBy(II)I -/
def tbX3_shownBy_0 : List (Nat × Instr × Nat) := [(0, .aload_n 0, 1), (1, .getfield 31, 3), (4, .iload_n 2, 1), (5, .iconst 4, 1), (6, .imul, 1), (7, .iload_n 1, 1), (8, .iadd, 1), (9, .iaload, 1), (10, .ireturn, 1)]
theorem tdX3_shownBy_0 : hx_dt cX3_shownBy tbX3_shownBy_0 = true := by decide +kernel
def wX3_shownBy (μ : hx_M) (v1 : Int32) (v2 : Int32) (K : Int32 → Prop) : Prop := vp_in ((v2 * 4) + v1) 1204 ∧ K ((μ.1 19 (((v2 * 4) + v1).toNatClampNeg)))
set_option maxRecDepth 100000 in
set_option maxHeartbeats 4000000 in
theorem kX3_shownBy {G : hx_GT} {KK : hx_KT} (hG : hx_K cX3_shownBy 3 0 0 (some .int) TbX3 KK G) (cA : hx_CA RX3 cX3_shownBy 1 0 0 G) {Λ : hx_L} (hF : cF Λ) {μ : hx_M} (v1 : Int32) (v2 : Int32) {K : Int32 → Prop} (hK : ∀ (r : Int32), K r → KK (some (.int r)) Λ μ) (hw : wX3_shownBy μ v1 v2 K) : G Λ μ (0, 0) 0 [some (.ref 15), some (.int v1), some (.int v2)] [] := by
  unfold wX3_shownBy at hw
  obtain ⟨i9_1, hw⟩ := hw
  exact cl_aload_n hG (hx_dq tdX3_shownBy_0 0 rfl) rfl (cl_getS hG fmX3_31 (hx_dq tdX3_shownBy_0 1 rfl) (cF_S15 hF) (cF_R15_4 hF) (cl_iload_n hG (hx_dq tdX3_shownBy_0 2 rfl) rfl (cl_iconst hG 4 (hx_dq tdX3_shownBy_0 3 rfl) iconst_4 (cl_imul hG (hx_dq tdX3_shownBy_0 4 rfl) (cl_iload_n hG (hx_dq tdX3_shownBy_0 5 rfl) rfl (cl_iadd hG (hx_dq tdX3_shownBy_0 6 rfl) (cl_iald hG (hx_dq tdX3_shownBy_0 7 rfl) (cF_S19 hF) i9_1 (cl_iret hG (hx_dq tdX3_shownBy_0 8 rfl) rfl rfl (hK _ hw) (Nat.le_refl _) (Nat.le_refl _)))))))))
def sX3_shownBy : hx_ST := fun Λ μ as KK => cF Λ ∧ ∃ (v1 : Int32) (v2 : Int32) (K : Int32 → Prop), as = [.ref 15, .int v1, .int v2] ∧ wX3_shownBy μ v1 v2 K ∧ (∀ (r : Int32), K r → KK (some (.int r)) Λ μ)
theorem sX3_shownBy_mk {Λ : hx_L} {μ : hx_M} {KK : hx_KT} {v1 : Int32} {v2 : Int32} {K : Int32 → Prop} (hF : cF Λ) (hw : wX3_shownBy μ v1 v2 K) (hk : ∀ (r : Int32), K r → KK (some (.int r)) Λ μ) : sX3_shownBy Λ μ [.ref 15, .int v1, .int v2] KK := ⟨hF, _, _, _, rfl, hw, hk⟩
theorem conX3_shownBy : hx_Con yX3_shownBy cX3_shownBy 3 (some .int) 1 0 0 sX3_shownBy := by
  refine hx_con_of (by decide +kernel) tokX3 (by decide) ?_ ?_
  · intro Λ μ as KK h
    obtain ⟨hF, v1, v2, K, rfl, hw, hK⟩ := h
    exact Nat.le_of_ble_eq_true rfl
  · intro G KK hG cA Λ μ as h
    obtain ⟨hF, v1, v2, K, rfl, hw, hK⟩ := h
    exact cl_sub hG (hx_le_c rfl (hx_le_c rfl (hx_le_c rfl hx_le_0))) (kX3_shownBy hG cA hF _ _ hK hw)
/-! HemLine$Reckoner.meanOf(II)I -/
def tbX6_meanOf_0 : List (Nat × Instr × Nat) := [(0, .iload_n 1, 1), (1, .invokestatic 106, 3), (4, .istore_n 3, 1), (5, .iload_n 1, 1), (6, .invokestatic 109, 3), (9, .istore 4, 2), (11, .iload_n 3, 1), (12, .iconst 3, 1), (13, .if_icmp .gt 10, 3), (16, .aload_n 0, 1), (17, .getfield 30, 3), (20, .iload_n 3, 1), (21, .iaload, 1), (22, .ireturn, 1), (23, .iload_n 3, 1), (24, .iconst 4, 1), (25, .if_icmp .ne 18, 3), (28, .aload_n 0, 1), (29, .getfield 15, 3), (32, .iload 4, 2), (34, .iconst 3, 1), (35, .invokestatic 85, 3), (38, .iload_n 2, 1), (39, .invokevirtual 112, 3), (42, .ireturn, 1), (43, .iload_n 2, 1), (44, .iload 4, 2), (46, .isub, 1), (47, .ifCond .lt 7, 3), (50, .iconst 1, 1), (51, .goto 4, 3), (54, .iconst 0, 1)]
def tbX6_meanOf_1 : List (Nat × Instr × Nat) := [(55, .istore 5, 2), (57, .iload 5, 2), (59, .ifCond .eq 36, 3), (62, .aload_n 0, 1), (63, .getfield 9, 3), (66, .getfield 73, 3), (69, .ifCond .le 26, 3), (72, .aload_n 0, 1), (73, .getfield 15, 3), (76, .getfield 115, 3), (79, .iload_n 2, 1), (80, .iload 4, 2), (82, .isub, 1), (83, .iaload, 1), (84, .aload_n 0, 1), (85, .getfield 9, 3), (88, .getfield 73, 3), (91, .idiv, 1), (92, .goto 4, 3), (95, .iconst (-1), 1), (96, .ireturn, 1)]
theorem tdX6_meanOf_0 : hx_dt cX6_meanOf tbX6_meanOf_0 = true := by decide +kernel
theorem tdX6_meanOf_1 : hx_dt cX6_meanOf tbX6_meanOf_1 = true := by decide +kernel
theorem caX6_meanOf_106 {G : hx_GT} (cA : hx_CA RX6 cX6_meanOf 2 0 0 G) : hx_CS cX6_meanOf G 0 0 106 1 sX1_whomOf 0 0 := cA.2.1 conX1_whomOf ⟨by decide +kernel, by decide +kernel, by decide +kernel⟩ mw_753 mw_754 mw_102 mw_755 (by decide) (by decide)
theorem caX6_meanOf_109 {G : hx_GT} (cA : hx_CA RX6 cX6_meanOf 2 0 0 G) : hx_CS cX6_meanOf G 0 0 109 1 sX1_numberOf 0 0 := cA.2.1 conX1_numberOf ⟨by decide +kernel, by decide +kernel, by decide +kernel⟩ mw_756 mw_757 mw_102 mw_758 (by decide) (by decide)
theorem caX6_meanOf_112 {G : hx_GT} (cA : hx_CA RX6 cX6_meanOf 2 0 0 G) : hx_CV cX6_meanOf G 0 0 112 3 2 sX3_shownBy 0 0 := cA.1 conX3_shownBy rfl rfl ⟨by decide +kernel, by decide +kernel, by decide +kernel⟩ mw_759 mw_760 mw_761 mw_88 mw_762 (by decide) (by decide)
def wX6_meanOf_J55 (μ : hx_M) (K : Int32 → Prop)  (v2 : Int32) (v4 : Int32) (t0 : Int32)  : Prop := (t0 = 0 → (K (-1))) ∧ (¬ (t0 = 0) → (((μ.1 8 0) ≤ 0 → (K (-1))) ∧ (¬ ((μ.1 8 0) ≤ 0) → (vp_in (v2 - v4) 301 ∧ ¬ (μ.1 8 0) = 0 ∧ ∀ x_6 : Int32, x_6 = (((μ.1 17 ((v2 - v4).toNatClampNeg))) / (μ.1 8 0)) → K x_6))))
set_option maxRecDepth 100000 in
set_option maxHeartbeats 4000000 in
theorem kX6_meanOf_J55 {G : hx_GT} {KK : hx_KT} (hG : hx_K cX6_meanOf 6 0 0 (some .int) TbX6 KK G) (cA : hx_CA RX6 cX6_meanOf 2 0 0 G) {Λ : hx_L} (hF : cF Λ) {μ : hx_M} (v2 : Int32) (v4 : Int32) (t0 : Int32) {K : Int32 → Prop} (hK : ∀ (r : Int32), K r → KK (some (.int r)) Λ μ)  (hw : wX6_meanOf_J55 μ K v2 v4 t0) : G Λ μ (0, 0) 55 [some (.ref 21), none, some (.int v2), none, some (.int v4), none] [.int t0] := by
  unfold wX6_meanOf_J55 at hw
  refine cl_istore hG (hx_dq tdX6_meanOf_1 0 rfl) (Nat.le_of_ble_eq_true rfl) rfl (cl_iload hG (hx_dq tdX6_meanOf_1 1 rfl) rfl (cl_if_eq hG 95 (hx_dq tdX6_meanOf_1 2 rfl) rfl (fun c59 => ?_) (fun c59 => ?_)))
  · replace hw := hw.1 c59
    exact cl_iconst hG (-1) (hx_dq tdX6_meanOf_1 19 rfl) iconst_m1 (cl_iret hG (hx_dq tdX6_meanOf_1 20 rfl) rfl rfl (hK _ hw) (Nat.le_refl _) (Nat.le_refl _))
  · replace hw := hw.2 c59
    refine cl_aload_n hG (hx_dq tdX6_meanOf_1 3 rfl) rfl (cl_getS hG fmX6_9 (hx_dq tdX6_meanOf_1 4 rfl) (cF_S21 hF) (cF_R21_0 hF) (cl_getI hG fmX6_73 (hx_dq tdX6_meanOf_1 5 rfl) (cF_S8 hF) (cl_if_le hG 95 (hx_dq tdX6_meanOf_1 6 rfl) rfl (fun c69 => ?_) (fun c69 => ?_))))
    · replace hw := hw.1 c69
      exact cl_iconst hG (-1) (hx_dq tdX6_meanOf_1 19 rfl) iconst_m1 (cl_iret hG (hx_dq tdX6_meanOf_1 20 rfl) rfl rfl (hK _ hw) (Nat.le_refl _) (Nat.le_refl _))
    · replace hw := hw.2 c69
      obtain ⟨i83_5, hw⟩ := hw
      obtain ⟨o91, hw⟩ := hw
      refine cl_aload_n hG (hx_dq tdX6_meanOf_1 7 rfl) rfl (cl_getS hG fmX6_15 (hx_dq tdX6_meanOf_1 8 rfl) (cF_S21 hF) (cF_R21_1 hF) (cl_getS hG fmX6_115 (hx_dq tdX6_meanOf_1 9 rfl) (cF_S15 hF) (cF_R15_2 hF) (cl_iload_n hG (hx_dq tdX6_meanOf_1 10 rfl) rfl (cl_iload hG (hx_dq tdX6_meanOf_1 11 rfl) rfl (cl_isub hG (hx_dq tdX6_meanOf_1 12 rfl) (cl_iald hG (hx_dq tdX6_meanOf_1 13 rfl) (cF_S17 hF) i83_5 (cl_aload_n hG (hx_dq tdX6_meanOf_1 14 rfl) rfl (cl_getS hG fmX6_9 (hx_dq tdX6_meanOf_1 15 rfl) (cF_S21 hF) (cF_R21_0 hF) (cl_getI hG fmX6_73 (hx_dq tdX6_meanOf_1 16 rfl) (cF_S8 hF) (cl_idiv hG (hx_dq tdX6_meanOf_1 17 rfl) o91 (cl_nmI (fun x_6 e_6 => ?_))))))))))))
      replace hw := hw x_6 e_6
      exact cl_goto hG 96 (hx_dq tdX6_meanOf_1 18 rfl) rfl (cl_iret hG (hx_dq tdX6_meanOf_1 20 rfl) rfl rfl (hK _ hw) (Nat.le_refl _) (Nat.le_refl _))
def wX6_meanOf (μ : hx_M) (v1 : Int32) (v2 : Int32) (K : Int32 → Prop) : Prop := wX1_whomOf v1 (fun r1_2 => wX1_numberOf v1 (fun r6_4 => (3 < r1_2 → ((r1_2 ≠ 4 → (((v2 - r6_4) < 0 → (wX6_meanOf_J55 μ K v2 r6_4 0)) ∧ (¬ ((v2 - r6_4) < 0) → (wX6_meanOf_J55 μ K v2 r6_4 1)))) ∧ (r1_2 = 4 → (wX3_shownBy μ (if 3 < r6_4 then 3 else r6_4) v2 (fun r39_8 => K r39_8))))) ∧ (¬ (3 < r1_2) → (vp_in r1_2 4 ∧ K (μ.1 24 r1_2.toNatClampNeg)))))
set_option maxRecDepth 100000 in
set_option maxHeartbeats 4000000 in
theorem kX6_meanOf {G : hx_GT} {KK : hx_KT} (hG : hx_K cX6_meanOf 6 0 0 (some .int) TbX6 KK G) (cA : hx_CA RX6 cX6_meanOf 2 0 0 G) {Λ : hx_L} (hF : cF Λ) {μ : hx_M} (v1 : Int32) (v2 : Int32) {K : Int32 → Prop} (hK : ∀ (r : Int32), K r → KK (some (.int r)) Λ μ) (hw : wX6_meanOf μ v1 v2 K) : G Λ μ (0, 0) 0 [some (.ref 21), some (.int v1), some (.int v2), none, none, none] [] := by
  unfold wX6_meanOf at hw
  refine cl_iload_n hG (hx_dq tdX6_meanOf_0 0 rfl) rfl (cl_callS1 (caX6_meanOf_106 cA) (hx_dq tdX6_meanOf_0 1 rfl) (Nat.le_of_ble_eq_true rfl) (Nat.le_refl _) (Nat.le_refl _) (sX1_whomOf_mk hw (fun r1_2 hw => ?_)))
  refine cl_istore_n hG (hx_dq tdX6_meanOf_0 2 rfl) (Nat.le_of_ble_eq_true rfl) rfl (cl_iload_n hG (hx_dq tdX6_meanOf_0 3 rfl) rfl (cl_callS1 (caX6_meanOf_109 cA) (hx_dq tdX6_meanOf_0 4 rfl) (Nat.le_of_ble_eq_true rfl) (Nat.le_refl _) (Nat.le_refl _) (sX1_numberOf_mk hw (fun r6_4 hw => ?_))))
  refine cl_istore hG (hx_dq tdX6_meanOf_0 5 rfl) (Nat.le_of_ble_eq_true rfl) rfl (cl_iload_n hG (hx_dq tdX6_meanOf_0 6 rfl) rfl (cl_iconst hG 3 (hx_dq tdX6_meanOf_0 7 rfl) iconst_3 (cl_icmp_gt hG 23 (hx_dq tdX6_meanOf_0 8 rfl) rfl (fun c13 => ?_) (fun c13 => ?_))))
  · replace hw := hw.1 c13
    refine cl_iload_n hG (hx_dq tdX6_meanOf_0 14 rfl) rfl (cl_iconst hG 4 (hx_dq tdX6_meanOf_0 15 rfl) iconst_4 (cl_icmp_ne hG 43 (hx_dq tdX6_meanOf_0 16 rfl) rfl (fun c25 => ?_) (fun c25 => ?_)))
    · replace hw := hw.1 c25
      refine cl_iload_n hG (hx_dq tdX6_meanOf_0 25 rfl) rfl (cl_iload hG (hx_dq tdX6_meanOf_0 26 rfl) rfl (cl_isub hG (hx_dq tdX6_meanOf_0 27 rfl) (cl_if_lt hG 54 (hx_dq tdX6_meanOf_0 28 rfl) rfl (fun c47 => ?_) (fun c47 => ?_))))
      · replace hw := hw.1 c47
        refine cl_iconst hG 0 (hx_dq tdX6_meanOf_0 31 rfl) iconst_0 ?_
        exact cl_sub hG (hx_le_c rfl (hx_le_n (hx_le_c rfl (hx_le_n (hx_le_c rfl (hx_le_n hx_le_0)))))) (kX6_meanOf_J55 hG cA hF v2 r6_4 0 hK hw)
      · replace hw := hw.2 c47
        refine cl_iconst hG 1 (hx_dq tdX6_meanOf_0 29 rfl) iconst_1 (cl_goto hG 55 (hx_dq tdX6_meanOf_0 30 rfl) rfl ?_)
        exact cl_sub hG (hx_le_c rfl (hx_le_n (hx_le_c rfl (hx_le_n (hx_le_c rfl (hx_le_n hx_le_0)))))) (kX6_meanOf_J55 hG cA hF v2 r6_4 1 hK hw)
    · replace hw := hw.2 c25
      refine cl_aload_n hG (hx_dq tdX6_meanOf_0 17 rfl) rfl (cl_getS hG fmX6_15 (hx_dq tdX6_meanOf_0 18 rfl) (cF_S21 hF) (cF_R21_1 hF) (cl_iload hG (hx_dq tdX6_meanOf_0 19 rfl) rfl (cl_iconst hG 3 (hx_dq tdX6_meanOf_0 20 rfl) iconst_3 (cl_mmin hG mmX6_85 (hx_dq tdX6_meanOf_0 21 rfl) (Nat.le_refl _) (Nat.le_refl _) (Nat.le_of_ble_eq_true rfl) (cl_iload_n hG (hx_dq tdX6_meanOf_0 22 rfl) rfl (cl_callV2 (caX6_meanOf_112 cA) (hx_dq tdX6_meanOf_0 23 rfl) (cF_S15 hF) (Nat.le_of_ble_eq_true rfl) (Nat.le_refl _) (Nat.le_refl _) (sX3_shownBy_mk hF hw (fun r39_8 hw => ?_))))))))
      exact cl_iret hG (hx_dq tdX6_meanOf_0 24 rfl) rfl rfl (hK _ hw) (Nat.le_refl _) (Nat.le_refl _)
  · replace hw := hw.2 c13
    obtain ⟨i21_9, hw⟩ := hw
    exact cl_aload_n hG (hx_dq tdX6_meanOf_0 9 rfl) rfl (cl_getS hG fmX6_30 (hx_dq tdX6_meanOf_0 10 rfl) (cF_S21 hF) (cF_R21_4 hF) (cl_iload_n hG (hx_dq tdX6_meanOf_0 11 rfl) rfl (cl_iald hG (hx_dq tdX6_meanOf_0 12 rfl) (cF_S24 hF) i21_9 (cl_iret hG (hx_dq tdX6_meanOf_0 13 rfl) rfl rfl (hK _ hw) (Nat.le_refl _) (Nat.le_refl _)))))
def sX6_meanOf : hx_ST := fun Λ μ as KK => cF Λ ∧ ∃ (v1 : Int32) (v2 : Int32) (K : Int32 → Prop), as = [.ref 21, .int v1, .int v2] ∧ wX6_meanOf μ v1 v2 K ∧ (∀ (r : Int32), K r → KK (some (.int r)) Λ μ)
theorem sX6_meanOf_mk {Λ : hx_L} {μ : hx_M} {KK : hx_KT} {v1 : Int32} {v2 : Int32} {K : Int32 → Prop} (hF : cF Λ) (hw : wX6_meanOf μ v1 v2 K) (hk : ∀ (r : Int32), K r → KK (some (.int r)) Λ μ) : sX6_meanOf Λ μ [.ref 21, .int v1, .int v2] KK := ⟨hF, _, _, _, rfl, hw, hk⟩
theorem conX6_meanOf : hx_Con yX6_meanOf cX6_meanOf 6 (some .int) 2 0 0 sX6_meanOf := by
  refine hx_con_of (by decide +kernel) tokX6 (by decide) ?_ ?_
  · intro Λ μ as KK h
    obtain ⟨hF, v1, v2, K, rfl, hw, hK⟩ := h
    exact Nat.le_of_ble_eq_true rfl
  · intro G KK hG cA Λ μ as h
    obtain ⟨hF, v1, v2, K, rfl, hw, hK⟩ := h
    exact cl_sub hG (hx_le_c rfl (hx_le_c rfl (hx_le_c rfl (hx_le_n (hx_le_n (hx_le_n hx_le_0)))))) (kX6_meanOf hG cA hF _ _ hK hw)
/-! HemLine$Law.byOf(I)I -/
def tbX1_byOf_0 : List (Nat × Instr × Nat) := [(0, .iload_n 0, 1), (1, .iconst 5, 1), (2, .ishr, 1), (3, .bipush 63, 2), (5, .iand, 1), (6, .ireturn, 1)]
theorem tdX1_byOf_0 : hx_dt cX1_byOf tbX1_byOf_0 = true := by decide +kernel
def wX1_byOf  (v0 : Int32) (K : Int32 → Prop) : Prop := K ((v0 >>> (5 &&& 31)) &&& 63)
set_option maxRecDepth 100000 in
set_option maxHeartbeats 4000000 in
theorem kX1_byOf {G : hx_GT} {KK : hx_KT} (hG : hx_K cX1_byOf 1 0 0 (some .int) TbX1 KK G) (cA : hx_CA RX1 cX1_byOf 1 0 0 G) {Λ : hx_L}  {μ : hx_M} (v0 : Int32) {K : Int32 → Prop} (hK : ∀ (r : Int32), K r → KK (some (.int r)) Λ μ) (hw : wX1_byOf v0 K) : G Λ μ (0, 0) 0 [some (.int v0)] [] := by
  unfold wX1_byOf at hw
  exact cl_iload_n hG (hx_dq tdX1_byOf_0 0 rfl) rfl (cl_iconst hG 5 (hx_dq tdX1_byOf_0 1 rfl) iconst_5 (cl_ishr hG (hx_dq tdX1_byOf_0 2 rfl) (cl_bipush hG 63 (hx_dq tdX1_byOf_0 3 rfl) bipush_63 (cl_iand hG (hx_dq tdX1_byOf_0 4 rfl) (cl_iret hG (hx_dq tdX1_byOf_0 5 rfl) rfl rfl (hK _ hw) (Nat.le_refl _) (Nat.le_refl _))))))
def sX1_byOf : hx_ST := fun Λ μ as KK => ∃ (v0 : Int32) (K : Int32 → Prop), as = [.int v0] ∧ wX1_byOf v0 K ∧ (∀ (r : Int32), K r → KK (some (.int r)) Λ μ)
theorem sX1_byOf_mk {Λ : hx_L} {μ : hx_M} {KK : hx_KT} {v0 : Int32} {K : Int32 → Prop}  (hw : wX1_byOf v0 K) (hk : ∀ (r : Int32), K r → KK (some (.int r)) Λ μ) : sX1_byOf Λ μ [.int v0] KK := ⟨_, _, rfl, hw, hk⟩
theorem conX1_byOf : hx_Con yX1_byOf cX1_byOf 1 (some .int) 1 0 0 sX1_byOf := by
  refine hx_con_of (by decide +kernel) tokX1 (by decide) ?_ ?_
  · intro Λ μ as KK h
    obtain ⟨v0, K, rfl, hw, hK⟩ := h
    exact Nat.le_of_ble_eq_true rfl
  · intro G KK hG cA Λ μ as h
    obtain ⟨v0, K, rfl, hw, hK⟩ := h
    exact cl_sub hG (hx_le_c rfl hx_le_0) (kX1_byOf hG cA _ hK hw)
/-! HemLine$Reckoner.goal(III)I -/
def tbX6_goal_0 : List (Nat × Instr × Nat) := [(0, .aload_n 0, 1), (1, .getfield 33, 3), (4, .ifCond .ne 26, 3), (7, .iload_n 1, 1), (8, .iload_n 2, 1), (9, .if_icmp .ge 13, 3), (12, .iload_n 2, 1), (13, .iload_n 1, 1), (14, .iload_n 3, 1), (15, .iadd, 1), (16, .invokestatic 85, 3), (19, .goto 10, 3), (22, .iload_n 2, 1), (23, .iload_n 1, 1), (24, .iload_n 3, 1), (25, .isub, 1), (26, .invokestatic 58, 3), (29, .ireturn, 1), (30, .aload_n 0, 1), (31, .getfield 33, 3), (34, .iconst 1, 1), (35, .if_icmp .ne 37, 3), (38, .iload_n 1, 1), (39, .iload_n 2, 1), (40, .isub, 1), (41, .invokestatic 118, 3), (44, .iload_n 3, 1), (45, .if_icmp .ge 27, 3), (48, .iload_n 1, 1), (49, .iload_n 2, 1), (50, .if_icmp .lt 14, 3), (53, .bipush 60, 2)]
def tbX6_goal_1 : List (Nat × Instr × Nat) := [(55, .iload_n 2, 1), (56, .iload_n 3, 1), (57, .iadd, 1), (58, .invokestatic 85, 3), (61, .goto 10, 3), (64, .iconst 0, 1), (65, .iload_n 2, 1), (66, .iload_n 3, 1), (67, .isub, 1), (68, .invokestatic 58, 3), (71, .ireturn, 1), (72, .iload_n 1, 1), (73, .ireturn, 1)]
theorem tdX6_goal_0 : hx_dt cX6_goal tbX6_goal_0 = true := by decide +kernel
theorem tdX6_goal_1 : hx_dt cX6_goal tbX6_goal_1 = true := by decide +kernel
def wX6_goal (μ : hx_M) (v1 : Int32) (v2 : Int32) (v3 : Int32) (K : Int32 → Prop) : Prop := ((μ.1 21 5) ≠ 0 → (((μ.1 21 5) ≠ 1 → (K v1)) ∧ ((μ.1 21 5) = 1 → (∀ x_1 : Int32, x_1 = (if 0 ≤ (v1 - v2) then (v1 - v2) else 0 - (v1 - v2)) → (v3 ≤ x_1 → (K v1)) ∧ (¬ (v3 ≤ x_1) → ((v1 < v2 → (K (if 0 < (v2 - v3) then (v2 - v3) else 0))) ∧ (¬ (v1 < v2) → (K (if (v2 + v3) < 60 then (v2 + v3) else 60))))))))) ∧ ((μ.1 21 5) = 0 → ((v2 ≤ v1 → (K (if v2 < (v1 - v3) then (v1 - v3) else v2))) ∧ (¬ (v2 ≤ v1) → (K (if (v1 + v3) < v2 then (v1 + v3) else v2)))))
set_option maxRecDepth 100000 in
set_option maxHeartbeats 4000000 in
theorem kX6_goal {G : hx_GT} {KK : hx_KT} (hG : hx_K cX6_goal 4 0 0 (some .int) TbX6 KK G) (cA : hx_CA RX6 cX6_goal 1 0 0 G) {Λ : hx_L} (hF : cF Λ) {μ : hx_M} (v1 : Int32) (v2 : Int32) (v3 : Int32) {K : Int32 → Prop} (hK : ∀ (r : Int32), K r → KK (some (.int r)) Λ μ) (hw : wX6_goal μ v1 v2 v3 K) : G Λ μ (0, 0) 0 [some (.ref 21), some (.int v1), some (.int v2), some (.int v3)] [] := by
  unfold wX6_goal at hw
  refine cl_aload_n hG (hx_dq tdX6_goal_0 0 rfl) rfl (cl_getI hG fmX6_33 (hx_dq tdX6_goal_0 1 rfl) (cF_S21 hF) (cl_if_ne hG 30 (hx_dq tdX6_goal_0 2 rfl) rfl (fun c4 => ?_) (fun c4 => ?_)))
  · replace hw := hw.1 c4
    refine cl_aload_n hG (hx_dq tdX6_goal_0 18 rfl) rfl (cl_getI hG fmX6_33 (hx_dq tdX6_goal_0 19 rfl) (cF_S21 hF) (cl_iconst hG 1 (hx_dq tdX6_goal_0 20 rfl) iconst_1 (cl_icmp_ne hG 72 (hx_dq tdX6_goal_0 21 rfl) rfl (fun c35 => ?_) (fun c35 => ?_))))
    · replace hw := hw.1 c35
      exact cl_iload_n hG (hx_dq tdX6_goal_1 11 rfl) rfl (cl_iret hG (hx_dq tdX6_goal_1 12 rfl) rfl rfl (hK _ hw) (Nat.le_refl _) (Nat.le_refl _))
    · replace hw := hw.2 c35
      refine cl_iload_n hG (hx_dq tdX6_goal_0 22 rfl) rfl (cl_iload_n hG (hx_dq tdX6_goal_0 23 rfl) rfl (cl_isub hG (hx_dq tdX6_goal_0 24 rfl) (cl_mabs hG mmX6_118 (hx_dq tdX6_goal_0 25 rfl) (Nat.le_refl _) (Nat.le_refl _) (Nat.le_of_ble_eq_true rfl) (cl_nmI (fun x_1 e_1 => ?_)))))
      replace hw := hw x_1 e_1
      refine cl_iload_n hG (hx_dq tdX6_goal_0 26 rfl) rfl (cl_icmp_ge hG 72 (hx_dq tdX6_goal_0 27 rfl) rfl (fun c45 => ?_) (fun c45 => ?_))
      · replace hw := hw.1 c45
        exact cl_iload_n hG (hx_dq tdX6_goal_1 11 rfl) rfl (cl_iret hG (hx_dq tdX6_goal_1 12 rfl) rfl rfl (hK _ hw) (Nat.le_refl _) (Nat.le_refl _))
      · replace hw := hw.2 c45
        refine cl_iload_n hG (hx_dq tdX6_goal_0 28 rfl) rfl (cl_iload_n hG (hx_dq tdX6_goal_0 29 rfl) rfl (cl_icmp_lt hG 64 (hx_dq tdX6_goal_0 30 rfl) rfl (fun c50 => ?_) (fun c50 => ?_)))
        · replace hw := hw.1 c50
          exact cl_iconst hG 0 (hx_dq tdX6_goal_1 5 rfl) iconst_0 (cl_iload_n hG (hx_dq tdX6_goal_1 6 rfl) rfl (cl_iload_n hG (hx_dq tdX6_goal_1 7 rfl) rfl (cl_isub hG (hx_dq tdX6_goal_1 8 rfl) (cl_mmax hG mmX6_58 (hx_dq tdX6_goal_1 9 rfl) (Nat.le_refl _) (Nat.le_refl _) (Nat.le_of_ble_eq_true rfl) (cl_iret hG (hx_dq tdX6_goal_1 10 rfl) rfl rfl (hK _ hw) (Nat.le_refl _) (Nat.le_refl _))))))
        · replace hw := hw.2 c50
          exact cl_bipush hG 60 (hx_dq tdX6_goal_0 31 rfl) bipush_60 (cl_iload_n hG (hx_dq tdX6_goal_1 0 rfl) rfl (cl_iload_n hG (hx_dq tdX6_goal_1 1 rfl) rfl (cl_iadd hG (hx_dq tdX6_goal_1 2 rfl) (cl_mmin hG mmX6_85 (hx_dq tdX6_goal_1 3 rfl) (Nat.le_refl _) (Nat.le_refl _) (Nat.le_of_ble_eq_true rfl) (cl_goto hG 71 (hx_dq tdX6_goal_1 4 rfl) rfl (cl_iret hG (hx_dq tdX6_goal_1 10 rfl) rfl rfl (hK _ hw) (Nat.le_refl _) (Nat.le_refl _)))))))
  · replace hw := hw.2 c4
    refine cl_iload_n hG (hx_dq tdX6_goal_0 3 rfl) rfl (cl_iload_n hG (hx_dq tdX6_goal_0 4 rfl) rfl (cl_icmp_ge hG 22 (hx_dq tdX6_goal_0 5 rfl) rfl (fun c9 => ?_) (fun c9 => ?_)))
    · replace hw := hw.1 c9
      exact cl_iload_n hG (hx_dq tdX6_goal_0 12 rfl) rfl (cl_iload_n hG (hx_dq tdX6_goal_0 13 rfl) rfl (cl_iload_n hG (hx_dq tdX6_goal_0 14 rfl) rfl (cl_isub hG (hx_dq tdX6_goal_0 15 rfl) (cl_mmax hG mmX6_58 (hx_dq tdX6_goal_0 16 rfl) (Nat.le_refl _) (Nat.le_refl _) (Nat.le_of_ble_eq_true rfl) (cl_iret hG (hx_dq tdX6_goal_0 17 rfl) rfl rfl (hK _ hw) (Nat.le_refl _) (Nat.le_refl _))))))
    · replace hw := hw.2 c9
      exact cl_iload_n hG (hx_dq tdX6_goal_0 6 rfl) rfl (cl_iload_n hG (hx_dq tdX6_goal_0 7 rfl) rfl (cl_iload_n hG (hx_dq tdX6_goal_0 8 rfl) rfl (cl_iadd hG (hx_dq tdX6_goal_0 9 rfl) (cl_mmin hG mmX6_85 (hx_dq tdX6_goal_0 10 rfl) (Nat.le_refl _) (Nat.le_refl _) (Nat.le_of_ble_eq_true rfl) (cl_goto hG 29 (hx_dq tdX6_goal_0 11 rfl) rfl (cl_iret hG (hx_dq tdX6_goal_0 17 rfl) rfl rfl (hK _ hw) (Nat.le_refl _) (Nat.le_refl _)))))))
def sX6_goal : hx_ST := fun Λ μ as KK => cF Λ ∧ ∃ (v1 : Int32) (v2 : Int32) (v3 : Int32) (K : Int32 → Prop), as = [.ref 21, .int v1, .int v2, .int v3] ∧ wX6_goal μ v1 v2 v3 K ∧ (∀ (r : Int32), K r → KK (some (.int r)) Λ μ)
theorem sX6_goal_mk {Λ : hx_L} {μ : hx_M} {KK : hx_KT} {v1 : Int32} {v2 : Int32} {v3 : Int32} {K : Int32 → Prop} (hF : cF Λ) (hw : wX6_goal μ v1 v2 v3 K) (hk : ∀ (r : Int32), K r → KK (some (.int r)) Λ μ) : sX6_goal Λ μ [.ref 21, .int v1, .int v2, .int v3] KK := ⟨hF, _, _, _, _, rfl, hw, hk⟩
theorem conX6_goal : hx_Con yX6_goal cX6_goal 4 (some .int) 1 0 0 sX6_goal := by
  refine hx_con_of (by decide +kernel) tokX6 (by decide) ?_ ?_
  · intro Λ μ as KK h
    obtain ⟨hF, v1, v2, v3, K, rfl, hw, hK⟩ := h
    exact Nat.le_of_ble_eq_true rfl
  · intro G KK hG cA Λ μ as h
    obtain ⟨hF, v1, v2, v3, K, rfl, hw, hK⟩ := h
    exact cl_sub hG (hx_le_c rfl (hx_le_c rfl (hx_le_c rfl (hx_le_c rfl hx_le_0)))) (kX6_goal hG cA hF _ _ _ hK hw)
