set_option maxRecDepth 100000 in
set_option maxHeartbeats 4000000 in
theorem kL_loop {G : hx_GT} {KK : hx_KT} {L : Nat} {xs : Nat → Int32} (hG : hx_K cL_law 4 600000 7302250 (some .boolean) TbL KK G) (hS : hx_LW cL_law L xs G) (cA : hx_CA RL cL_law 2048 600000 7302250 G) (hL : L ≤ 3072) (hKK : ∀ (Λ : hx_L) (μ : hx_M), KK (some (.int 1)) Λ μ) {I : hx_L → hx_M → Prop} (hI : wL_all I) : ∀ (r q : Nat) (Λ : hx_L) (μ : hx_M) (u : Nat × Nat), L < 6 * q + 6 * r + 6 → 6 * q ≤ 3078 → u.1 + 21 * r ≤ 600000 → u.2 + 11725 * r ≤ 7302250 → I Λ μ → G Λ μ u 18 [some (.retAddr 3), some (.ref 0), some (.ref 49), some (.int (Int32.ofNat (6 * q)))] [] := by
  intro r
  induction r with
  | zero =>
    intro q Λ μ u h1 h2 hu1 hu2 hi
    refine cl_iload_n hG (hx_dq tdL_0 10 rfl) rfl ?_
    refine cl_saload hS (hx_dq tdL_0 11 rfl) rfl ?_
    refine cl_slen hS (hx_dq tdL_0 12 rfl) ?_
    refine cl_bipush hG 6 (hx_dq tdL_0 13 rfl) bipush_6 ?_
    refine cl_isub hG (hx_dq tdL_0 14 rfl) ?_
    refine cl_icmp_gt hG 1307 (hx_dq tdL_0 15 rfl) rfl (fun c => ?_) (fun c => absurd ((hx_i6 hL (by omega)).mpr (by omega)) c)
    refine cl_iconst hG 1 (hx_dq tdL_28 23 rfl) iconst_1 ?_
    exact cl_iret hG (hx_dq tdL_28 24 rfl) rfl rfl (hKK _ _) (by omega) (by omega)
  | succ r ih =>
    intro q Λ μ u h1 h2 hu1 hu2 hi
    refine cl_iload_n hG (hx_dq tdL_0 10 rfl) rfl ?_
    refine cl_saload hS (hx_dq tdL_0 11 rfl) rfl ?_
    refine cl_slen hS (hx_dq tdL_0 12 rfl) ?_
    refine cl_bipush hG 6 (hx_dq tdL_0 13 rfl) bipush_6 ?_
    refine cl_isub hG (hx_dq tdL_0 14 rfl) ?_
    refine cl_icmp_gt hG 1307 (hx_dq tdL_0 15 rfl) rfl (fun c => ?_) (fun c => ?_)
    · refine cl_iconst hG 1 (hx_dq tdL_28 23 rfl) iconst_1 ?_
      exact cl_iret hG (hx_dq tdL_28 24 rfl) rfl rfl (hKK _ _) (by omega) (by omega)
    · have hq : 6 * q + 6 ≤ L := Nat.le_of_not_lt fun h => c ((hx_i6 hL (by omega)).mpr h)
      have e1 : u.1 + 21 ≤ 600000 := by omega
      have e2 : u.2 + 11725 ≤ 7302250 := by omega
      refine kL_body hG hS cA hL hI hq e1 e2 hi (fun Λ1 μ1 u1 b1 b2 hi1 => ?_)
      refine cl_iinc hG (Int32.ofNat (6 * (q + 1))) (hx_dq tdL_28 21 rfl) rfl (by rw [show 6 * (q + 1) = 6 * q + 6 from by omega, Int32.ofNat_add]; rfl) (Nat.le_of_ble_eq_true rfl) rfl ?_
      refine cl_goto hG 18 (hx_dq tdL_28 22 rfl) rfl ?_
      exact ih (q + 1) Λ1 μ1 u1 (by omega) (by omega) (by omega) (by omega) hi1
theorem kL_law {G : hx_GT} {KK : hx_KT} {L : Nat} {xs : Nat → Int32} (hG : hx_K cL_law 4 600000 7302250 (some .boolean) TbL KK G) (hS : hx_LW cL_law L xs G) (cA : hx_CA RL cL_law 2048 600000 7302250 G) (hM : hx_KA cL_law 600000 7302250 TAL G) (hL : L ≤ 3072) (hKK : ∀ (Λ : hx_L) (μ : hx_M), KK (some (.int 1)) Λ μ) {I : hx_L → hx_M → Prop} (hI : wL_all I) {μ : hx_M} (hw : wL_start μ I) : G hx_L0 μ (0, 0) 0 [some (.retAddr 3), none, none, none] [] :=
  kL_start hG hS cA hM (fun Λ1 μ1 h => kL_loop hG hS cA hL hKK hI 512 0 Λ1 μ1 (93, 97022) (by omega) (by omega) (Nat.le_of_ble_eq_true rfl) (Nat.le_of_ble_eq_true rfl) h) hw
