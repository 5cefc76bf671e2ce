def TbJ0 : hx_T := ([], [], [], [])
theorem tokJ0 : hx_tok RJ0 TbJ0 := ⟨(fun _ h => absurd h List.not_mem_nil), (fun _ h => absurd h List.not_mem_nil), (fun _ h => absurd h List.not_mem_nil), (fun _ h => absurd h List.not_mem_nil)⟩
def TbJ1 : hx_T := ([], [], [], [])
theorem tokJ1 : hx_tok RJ1 TbJ1 := ⟨(fun _ h => absurd h List.not_mem_nil), (fun _ h => absurd h List.not_mem_nil), (fun _ h => absurd h List.not_mem_nil), (fun _ h => absurd h List.not_mem_nil)⟩
def TbJ3 : hx_T := ([], [], [], [])
theorem tokJ3 : hx_tok RJ3 TbJ3 := ⟨(fun _ h => absurd h List.not_mem_nil), (fun _ h => absurd h List.not_mem_nil), (fun _ h => absurd h List.not_mem_nil), (fun _ h => absurd h List.not_mem_nil)⟩
def TbJ6 : hx_T := ([], [(265, 1431655765), (266, 858993459), (267, 252645135)], [], [])
theorem ciJ6_265 : (265, (1431655765 : Int32)) ∈ TbJ6.2.1 := List.mem_of_getElem? (i := 0) rfl
theorem ciJ6_266 : (266, (858993459 : Int32)) ∈ TbJ6.2.1 := List.mem_of_getElem? (i := 1) rfl
theorem ciJ6_267 : (267, (252645135 : Int32)) ∈ TbJ6.2.1 := List.mem_of_getElem? (i := 2) rfl
theorem tokJ6 : hx_tok RJ6 TbJ6 := ⟨(fun _ h => absurd h List.not_mem_nil), (List.forall_mem_cons.mpr ⟨mw_910, (List.forall_mem_cons.mpr ⟨mw_911, (List.forall_mem_cons.mpr ⟨mw_912, (fun _ h => absurd h List.not_mem_nil)⟩)⟩)⟩), (fun _ h => absurd h List.not_mem_nil), (fun _ h => absurd h List.not_mem_nil)⟩
def TbJ7 : hx_T := ([], [], [], [(150, 3), (304, 1)])
theorem mmJ7_150 : (150, 3) ∈ TbJ7.2.2.2 := List.mem_of_getElem? (i := 0) rfl
theorem mmJ7_304 : (304, 1) ∈ TbJ7.2.2.2 := List.mem_of_getElem? (i := 1) rfl
theorem spJ7_150 : hx_mm RJ7 (150, 3) := ⟨mw_612, mw_614, mw_613, mw_103⟩
theorem spJ7_304 : hx_mm RJ7 (304, 1) := ⟨mw_609, mw_610, mw_89, mw_611⟩
theorem tokJ7 : hx_tok RJ7 TbJ7 := ⟨(fun _ h => absurd h List.not_mem_nil), (fun _ h => absurd h List.not_mem_nil), (fun _ h => absurd h List.not_mem_nil), (List.forall_mem_cons.mpr ⟨spJ7_150, (List.forall_mem_cons.mpr ⟨spJ7_304, (fun _ h => absurd h List.not_mem_nil)⟩)⟩)⟩
def TbX0 : hx_T := ([(9, 0, 0, 2), (15, 10, 7, 0), (21, 10, 1, 2), (35, 10, 2, 2), (45, 6, 4, 2), (55, 10, 0, 2), (59, 4, 0, 0), (80, 4, 2, 2)], [], [], [(49, 2), (71, 1), (77, 0)])
theorem fmX0_9 : (9, 0, 0, 2) ∈ TbX0.1 := List.mem_of_getElem? (i := 0) rfl
theorem foX0_9 : hx_fok RX0 (9, 0, 0, 2) := ⟨RX0, TX0, 1, rfl, Nat.le_of_ble_eq_true rfl, rfl, mw_350, inX0, tyX0, tyX0_ok, nmX0, ⟨fun h => absurd h (by decide), fun h => absurd h (by decide)⟩⟩
theorem fmX0_15 : (15, 10, 7, 0) ∈ TbX0.1 := List.mem_of_getElem? (i := 1) rfl
theorem foX0_15 : hx_fok RX0 (15, 10, 7, 0) := ⟨RX10, TX10, 12, rfl, Nat.le_of_ble_eq_true rfl, rfl, mw_293, inX10, tyX10, tyX10_ok, nmX10, ⟨fun _ => ⟨by decide +kernel, by decide +kernel⟩, fun h => absurd h (by decide)⟩⟩
theorem fmX0_21 : (21, 10, 1, 2) ∈ TbX0.1 := List.mem_of_getElem? (i := 2) rfl
theorem foX0_21 : hx_fok RX0 (21, 10, 1, 2) := ⟨RX10, TX10, 12, rfl, Nat.le_of_ble_eq_true rfl, rfl, mw_275, inX10, tyX10, tyX10_ok, nmX10, ⟨fun h => absurd h (by decide), fun h => absurd h (by decide)⟩⟩
theorem fmX0_35 : (35, 10, 2, 2) ∈ TbX0.1 := List.mem_of_getElem? (i := 3) rfl
theorem foX0_35 : hx_fok RX0 (35, 10, 2, 2) := ⟨RX10, TX10, 12, rfl, Nat.le_of_ble_eq_true rfl, rfl, mw_281, inX10, tyX10, tyX10_ok, nmX10, ⟨fun h => absurd h (by decide), fun h => absurd h (by decide)⟩⟩
theorem fmX0_45 : (45, 6, 4, 2) ∈ TbX0.1 := List.mem_of_getElem? (i := 4) rfl
theorem foX0_45 : hx_fok RX0 (45, 6, 4, 2) := ⟨RX6, TX6, 6, rfl, Nat.le_of_ble_eq_true rfl, rfl, mw_252, inX6, tyX6, tyX6_ok, nmX6, ⟨fun h => absurd h (by decide), fun h => absurd h (by decide)⟩⟩
theorem fmX0_55 : (55, 10, 0, 2) ∈ TbX0.1 := List.mem_of_getElem? (i := 5) rfl
theorem foX0_55 : hx_fok RX0 (55, 10, 0, 2) := ⟨RX10, TX10, 12, rfl, Nat.le_of_ble_eq_true rfl, rfl, mw_272, inX10, tyX10, tyX10_ok, nmX10, ⟨fun h => absurd h (by decide), fun h => absurd h (by decide)⟩⟩
theorem fmX0_59 : (59, 4, 0, 0) ∈ TbX0.1 := List.mem_of_getElem? (i := 6) rfl
theorem foX0_59 : hx_fok RX0 (59, 4, 0, 0) := ⟨RX4, TX4, 7, rfl, Nat.le_of_ble_eq_true rfl, rfl, mw_161, inX4, tyX4, tyX4_ok, nmX4, ⟨fun _ => ⟨by decide +kernel, by decide +kernel⟩, fun h => absurd h (by decide)⟩⟩
theorem fmX0_80 : (80, 4, 2, 2) ∈ TbX0.1 := List.mem_of_getElem? (i := 7) rfl
theorem foX0_80 : hx_fok RX0 (80, 4, 2, 2) := ⟨RX4, TX4, 7, rfl, Nat.le_of_ble_eq_true rfl, rfl, mw_170, inX4, tyX4, tyX4_ok, nmX4, ⟨fun h => absurd h (by decide), fun h => absurd h (by decide)⟩⟩
theorem mmX0_49 : (49, 2) ∈ TbX0.2.2.2 := List.mem_of_getElem? (i := 0) rfl
theorem mmX0_71 : (71, 1) ∈ TbX0.2.2.2 := List.mem_of_getElem? (i := 1) rfl
theorem mmX0_77 : (77, 0) ∈ TbX0.2.2.2 := List.mem_of_getElem? (i := 2) rfl
theorem spX0_49 : hx_mm RX0 (49, 2) := ⟨mw_854, mw_771, mw_89, mw_772⟩
theorem spX0_71 : hx_mm RX0 (71, 1) := ⟨mw_871, mw_610, mw_89, mw_611⟩
theorem spX0_77 : hx_mm RX0 (77, 0) := ⟨mw_1012, mw_206, mw_89, mw_207⟩
theorem tokX0 : hx_tok RX0 TbX0 := ⟨(List.forall_mem_cons.mpr ⟨foX0_9, (List.forall_mem_cons.mpr ⟨foX0_15, (List.forall_mem_cons.mpr ⟨foX0_21, (List.forall_mem_cons.mpr ⟨foX0_35, (List.forall_mem_cons.mpr ⟨foX0_45, (List.forall_mem_cons.mpr ⟨foX0_55, (List.forall_mem_cons.mpr ⟨foX0_59, (List.forall_mem_cons.mpr ⟨foX0_80, (fun _ h => absurd h List.not_mem_nil)⟩)⟩)⟩)⟩)⟩)⟩)⟩)⟩), (fun _ h => absurd h List.not_mem_nil), (fun _ h => absurd h List.not_mem_nil), (List.forall_mem_cons.mpr ⟨spX0_49, (List.forall_mem_cons.mpr ⟨spX0_71, (List.forall_mem_cons.mpr ⟨spX0_77, (fun _ h => absurd h List.not_mem_nil)⟩)⟩)⟩)⟩
def TbX1 : hx_T := ([(7, 1, 0, 2), (13, 1, 1, 3)], [], [], [])
theorem fmX1_7 : (7, 1, 0, 2) ∈ TbX1.1 := List.mem_of_getElem? (i := 0) rfl
theorem foX1_7 : hx_fok RX1 (7, 1, 0, 2) := ⟨RX1, TX1, 2, rfl, Nat.le_of_ble_eq_true rfl, rfl, mw_619, inX1, tyX1, tyX1_ok, nmX1, ⟨fun h => absurd h (by decide), fun h => absurd h (by decide)⟩⟩
theorem fmX1_13 : (13, 1, 1, 3) ∈ TbX1.1 := List.mem_of_getElem? (i := 1) rfl
theorem foX1_13 : hx_fok RX1 (13, 1, 1, 3) := ⟨RX1, TX1, 2, rfl, Nat.le_of_ble_eq_true rfl, rfl, mw_621, inX1, tyX1, tyX1_ok, nmX1, ⟨fun h => absurd h (by decide), fun h => absurd h (by decide)⟩⟩
theorem tokX1 : hx_tok RX1 TbX1 := ⟨(List.forall_mem_cons.mpr ⟨foX1_7, (List.forall_mem_cons.mpr ⟨foX1_13, (fun _ h => absurd h List.not_mem_nil)⟩)⟩), (fun _ h => absurd h List.not_mem_nil), (fun _ h => absurd h List.not_mem_nil), (fun _ h => absurd h List.not_mem_nil)⟩
def TbX2 : hx_T := ([(11, 2, 0, 2), (15, 2, 1, 0), (19, 2, 2, 2), (23, 2, 3, 2), (26, 2, 4, 0), (29, 2, 5, 2), (32, 2, 6, 0)], [], [], [])
theorem fmX2_11 : (11, 2, 0, 2) ∈ TbX2.1 := List.mem_of_getElem? (i := 0) rfl
theorem foX2_11 : hx_fok RX2 (11, 2, 0, 2) := ⟨RX2, TX2, 7, rfl, Nat.le_of_ble_eq_true rfl, rfl, mw_119, inX2, tyX2, tyX2_ok, nmX2, ⟨fun h => absurd h (by decide), fun h => absurd h (by decide)⟩⟩
theorem fmX2_15 : (15, 2, 1, 0) ∈ TbX2.1 := List.mem_of_getElem? (i := 1) rfl
theorem foX2_15 : hx_fok RX2 (15, 2, 1, 0) := ⟨RX2, TX2, 7, rfl, Nat.le_of_ble_eq_true rfl, rfl, mw_120, inX2, tyX2, tyX2_ok, nmX2, ⟨fun _ => ⟨by decide +kernel, by decide +kernel⟩, fun h => absurd h (by decide)⟩⟩
theorem fmX2_19 : (19, 2, 2, 2) ∈ TbX2.1 := List.mem_of_getElem? (i := 2) rfl
theorem foX2_19 : hx_fok RX2 (19, 2, 2, 2) := ⟨RX2, TX2, 7, rfl, Nat.le_of_ble_eq_true rfl, rfl, mw_121, inX2, tyX2, tyX2_ok, nmX2, ⟨fun h => absurd h (by decide), fun h => absurd h (by decide)⟩⟩
theorem fmX2_23 : (23, 2, 3, 2) ∈ TbX2.1 := List.mem_of_getElem? (i := 3) rfl
theorem foX2_23 : hx_fok RX2 (23, 2, 3, 2) := ⟨RX2, TX2, 7, rfl, Nat.le_of_ble_eq_true rfl, rfl, mw_122, inX2, tyX2, tyX2_ok, nmX2, ⟨fun h => absurd h (by decide), fun h => absurd h (by decide)⟩⟩
theorem fmX2_26 : (26, 2, 4, 0) ∈ TbX2.1 := List.mem_of_getElem? (i := 4) rfl
theorem foX2_26 : hx_fok RX2 (26, 2, 4, 0) := ⟨RX2, TX2, 7, rfl, Nat.le_of_ble_eq_true rfl, rfl, mw_123, inX2, tyX2, tyX2_ok, nmX2, ⟨fun _ => ⟨by decide +kernel, by decide +kernel⟩, fun h => absurd h (by decide)⟩⟩
theorem fmX2_29 : (29, 2, 5, 2) ∈ TbX2.1 := List.mem_of_getElem? (i := 5) rfl
theorem foX2_29 : hx_fok RX2 (29, 2, 5, 2) := ⟨RX2, TX2, 7, rfl, Nat.le_of_ble_eq_true rfl, rfl, mw_124, inX2, tyX2, tyX2_ok, nmX2, ⟨fun h => absurd h (by decide), fun h => absurd h (by decide)⟩⟩
theorem fmX2_32 : (32, 2, 6, 0) ∈ TbX2.1 := List.mem_of_getElem? (i := 6) rfl
theorem foX2_32 : hx_fok RX2 (32, 2, 6, 0) := ⟨RX2, TX2, 7, rfl, Nat.le_of_ble_eq_true rfl, rfl, mw_125, inX2, tyX2, tyX2_ok, nmX2, ⟨fun _ => ⟨by decide +kernel, by decide +kernel⟩, fun h => absurd h (by decide)⟩⟩
theorem tokX2 : hx_tok RX2 TbX2 := ⟨(List.forall_mem_cons.mpr ⟨foX2_11, (List.forall_mem_cons.mpr ⟨foX2_15, (List.forall_mem_cons.mpr ⟨foX2_19, (List.forall_mem_cons.mpr ⟨foX2_23, (List.forall_mem_cons.mpr ⟨foX2_26, (List.forall_mem_cons.mpr ⟨foX2_29, (List.forall_mem_cons.mpr ⟨foX2_32, (fun _ h => absurd h List.not_mem_nil)⟩)⟩)⟩)⟩)⟩)⟩)⟩), (fun _ h => absurd h List.not_mem_nil), (fun _ h => absurd h List.not_mem_nil), (fun _ h => absurd h List.not_mem_nil)⟩
def TbX3 : hx_T := ([(15, 3, 0, 3), (21, 3, 1, 2), (25, 3, 2, 2), (28, 3, 3, 2), (31, 3, 4, 2), (34, 3, 5, 2)], [], [], [(9, 0), (43, 3), (52, 1)])
theorem fmX3_15 : (15, 3, 0, 3) ∈ TbX3.1 := List.mem_of_getElem? (i := 0) rfl
theorem foX3_15 : hx_fok RX3 (15, 3, 0, 3) := ⟨RX3, TX3, 6, rfl, Nat.le_of_ble_eq_true rfl, rfl, mw_211, inX3, tyX3, tyX3_ok, nmX3, ⟨fun h => absurd h (by decide), fun h => absurd h (by decide)⟩⟩
theorem fmX3_21 : (21, 3, 1, 2) ∈ TbX3.1 := List.mem_of_getElem? (i := 1) rfl
theorem foX3_21 : hx_fok RX3 (21, 3, 1, 2) := ⟨RX3, TX3, 6, rfl, Nat.le_of_ble_eq_true rfl, rfl, mw_213, inX3, tyX3, tyX3_ok, nmX3, ⟨fun h => absurd h (by decide), fun h => absurd h (by decide)⟩⟩
theorem fmX3_25 : (25, 3, 2, 2) ∈ TbX3.1 := List.mem_of_getElem? (i := 2) rfl
theorem foX3_25 : hx_fok RX3 (25, 3, 2, 2) := ⟨RX3, TX3, 6, rfl, Nat.le_of_ble_eq_true rfl, rfl, mw_216, inX3, tyX3, tyX3_ok, nmX3, ⟨fun h => absurd h (by decide), fun h => absurd h (by decide)⟩⟩
theorem fmX3_28 : (28, 3, 3, 2) ∈ TbX3.1 := List.mem_of_getElem? (i := 3) rfl
theorem foX3_28 : hx_fok RX3 (28, 3, 3, 2) := ⟨RX3, TX3, 6, rfl, Nat.le_of_ble_eq_true rfl, rfl, mw_220, inX3, tyX3, tyX3_ok, nmX3, ⟨fun h => absurd h (by decide), fun h => absurd h (by decide)⟩⟩
theorem fmX3_31 : (31, 3, 4, 2) ∈ TbX3.1 := List.mem_of_getElem? (i := 4) rfl
theorem foX3_31 : hx_fok RX3 (31, 3, 4, 2) := ⟨RX3, TX3, 6, rfl, Nat.le_of_ble_eq_true rfl, rfl, mw_221, inX3, tyX3, tyX3_ok, nmX3, ⟨fun h => absurd h (by decide), fun h => absurd h (by decide)⟩⟩
theorem fmX3_34 : (34, 3, 5, 2) ∈ TbX3.1 := List.mem_of_getElem? (i := 5) rfl
theorem foX3_34 : hx_fok RX3 (34, 3, 5, 2) := ⟨RX3, TX3, 6, rfl, Nat.le_of_ble_eq_true rfl, rfl, mw_223, inX3, tyX3, tyX3_ok, nmX3, ⟨fun h => absurd h (by decide), fun h => absurd h (by decide)⟩⟩
theorem mmX3_9 : (9, 0) ∈ TbX3.2.2.2 := List.mem_of_getElem? (i := 0) rfl
theorem mmX3_43 : (43, 3) ∈ TbX3.2.2.2 := List.mem_of_getElem? (i := 1) rfl
theorem mmX3_52 : (52, 1) ∈ TbX3.2.2.2 := List.mem_of_getElem? (i := 2) rfl
theorem spX3_9 : hx_mm RX3 (9, 0) := ⟨mw_205, mw_206, mw_89, mw_207⟩
theorem spX3_43 : hx_mm RX3 (43, 3) := ⟨mw_703, mw_614, mw_613, mw_103⟩
theorem spX3_52 : hx_mm RX3 (52, 1) := ⟨mw_1109, mw_610, mw_89, mw_611⟩
theorem tokX3 : hx_tok RX3 TbX3 := ⟨(List.forall_mem_cons.mpr ⟨foX3_15, (List.forall_mem_cons.mpr ⟨foX3_21, (List.forall_mem_cons.mpr ⟨foX3_25, (List.forall_mem_cons.mpr ⟨foX3_28, (List.forall_mem_cons.mpr ⟨foX3_31, (List.forall_mem_cons.mpr ⟨foX3_34, (fun _ h => absurd h List.not_mem_nil)⟩)⟩)⟩)⟩)⟩)⟩), (fun _ h => absurd h List.not_mem_nil), (fun _ h => absurd h List.not_mem_nil), (List.forall_mem_cons.mpr ⟨spX3_9, (List.forall_mem_cons.mpr ⟨spX3_43, (List.forall_mem_cons.mpr ⟨spX3_52, (fun _ h => absurd h List.not_mem_nil)⟩)⟩)⟩)⟩
def TbX4 : hx_T := ([(9, 4, 0, 0), (15, 4, 1, 2), (19, 4, 2, 2), (22, 4, 3, 2), (25, 4, 4, 2), (28, 4, 5, 2), (31, 4, 6, 2)], [], [], [(38, 3)])
theorem fmX4_9 : (9, 4, 0, 0) ∈ TbX4.1 := List.mem_of_getElem? (i := 0) rfl
theorem foX4_9 : hx_fok RX4 (9, 4, 0, 0) := ⟨RX4, TX4, 7, rfl, Nat.le_of_ble_eq_true rfl, rfl, mw_157, inX4, tyX4, tyX4_ok, nmX4, ⟨fun _ => ⟨by decide +kernel, by decide +kernel⟩, fun h => absurd h (by decide)⟩⟩
theorem fmX4_15 : (15, 4, 1, 2) ∈ TbX4.1 := List.mem_of_getElem? (i := 1) rfl
theorem foX4_15 : hx_fok RX4 (15, 4, 1, 2) := ⟨RX4, TX4, 7, rfl, Nat.le_of_ble_eq_true rfl, rfl, mw_165, inX4, tyX4, tyX4_ok, nmX4, ⟨fun h => absurd h (by decide), fun h => absurd h (by decide)⟩⟩
theorem fmX4_19 : (19, 4, 2, 2) ∈ TbX4.1 := List.mem_of_getElem? (i := 2) rfl
theorem foX4_19 : hx_fok RX4 (19, 4, 2, 2) := ⟨RX4, TX4, 7, rfl, Nat.le_of_ble_eq_true rfl, rfl, mw_168, inX4, tyX4, tyX4_ok, nmX4, ⟨fun h => absurd h (by decide), fun h => absurd h (by decide)⟩⟩
theorem fmX4_22 : (22, 4, 3, 2) ∈ TbX4.1 := List.mem_of_getElem? (i := 3) rfl
theorem foX4_22 : hx_fok RX4 (22, 4, 3, 2) := ⟨RX4, TX4, 7, rfl, Nat.le_of_ble_eq_true rfl, rfl, mw_173, inX4, tyX4, tyX4_ok, nmX4, ⟨fun h => absurd h (by decide), fun h => absurd h (by decide)⟩⟩
theorem fmX4_25 : (25, 4, 4, 2) ∈ TbX4.1 := List.mem_of_getElem? (i := 4) rfl
theorem foX4_25 : hx_fok RX4 (25, 4, 4, 2) := ⟨RX4, TX4, 7, rfl, Nat.le_of_ble_eq_true rfl, rfl, mw_176, inX4, tyX4, tyX4_ok, nmX4, ⟨fun h => absurd h (by decide), fun h => absurd h (by decide)⟩⟩
theorem fmX4_28 : (28, 4, 5, 2) ∈ TbX4.1 := List.mem_of_getElem? (i := 5) rfl
theorem foX4_28 : hx_fok RX4 (28, 4, 5, 2) := ⟨RX4, TX4, 7, rfl, Nat.le_of_ble_eq_true rfl, rfl, mw_179, inX4, tyX4, tyX4_ok, nmX4, ⟨fun h => absurd h (by decide), fun h => absurd h (by decide)⟩⟩
theorem fmX4_31 : (31, 4, 6, 2) ∈ TbX4.1 := List.mem_of_getElem? (i := 6) rfl
theorem foX4_31 : hx_fok RX4 (31, 4, 6, 2) := ⟨RX4, TX4, 7, rfl, Nat.le_of_ble_eq_true rfl, rfl, mw_182, inX4, tyX4, tyX4_ok, nmX4, ⟨fun h => absurd h (by decide), fun h => absurd h (by decide)⟩⟩
theorem mmX4_38 : (38, 3) ∈ TbX4.2.2.2 := List.mem_of_getElem? (i := 0) rfl
theorem spX4_38 : hx_mm RX4 (38, 3) := ⟨mw_820, mw_614, mw_613, mw_103⟩
theorem tokX4 : hx_tok RX4 TbX4 := ⟨(List.forall_mem_cons.mpr ⟨foX4_9, (List.forall_mem_cons.mpr ⟨foX4_15, (List.forall_mem_cons.mpr ⟨foX4_19, (List.forall_mem_cons.mpr ⟨foX4_22, (List.forall_mem_cons.mpr ⟨foX4_25, (List.forall_mem_cons.mpr ⟨foX4_28, (List.forall_mem_cons.mpr ⟨foX4_31, (fun _ h => absurd h List.not_mem_nil)⟩)⟩)⟩)⟩)⟩)⟩)⟩), (fun _ h => absurd h List.not_mem_nil), (fun _ h => absurd h List.not_mem_nil), (List.forall_mem_cons.mpr ⟨spX4_38, (fun _ h => absurd h List.not_mem_nil)⟩)⟩
def TbX5 : hx_T := ([(9, 5, 0, 2), (15, 5, 1, 0), (19, 5, 2, 2), (23, 5, 3, 2), (26, 5, 4, 2), (48, 10, 0, 2), (52, 4, 0, 0), (55, 10, 1, 2)], [], [], [(39, 2), (65, 1), (68, 0)])
theorem fmX5_9 : (9, 5, 0, 2) ∈ TbX5.1 := List.mem_of_getElem? (i := 0) rfl
theorem foX5_9 : hx_fok RX5 (9, 5, 0, 2) := ⟨RX5, TX5, 5, rfl, Nat.le_of_ble_eq_true rfl, rfl, mw_382, inX5, tyX5, tyX5_ok, nmX5, ⟨fun h => absurd h (by decide), fun h => absurd h (by decide)⟩⟩
theorem fmX5_15 : (15, 5, 1, 0) ∈ TbX5.1 := List.mem_of_getElem? (i := 1) rfl
theorem foX5_15 : hx_fok RX5 (15, 5, 1, 0) := ⟨RX5, TX5, 5, rfl, Nat.le_of_ble_eq_true rfl, rfl, mw_383, inX5, tyX5, tyX5_ok, nmX5, ⟨fun _ => ⟨by decide +kernel, by decide +kernel⟩, fun h => absurd h (by decide)⟩⟩
theorem fmX5_19 : (19, 5, 2, 2) ∈ TbX5.1 := List.mem_of_getElem? (i := 2) rfl
theorem foX5_19 : hx_fok RX5 (19, 5, 2, 2) := ⟨RX5, TX5, 5, rfl, Nat.le_of_ble_eq_true rfl, rfl, mw_385, inX5, tyX5, tyX5_ok, nmX5, ⟨fun h => absurd h (by decide), fun h => absurd h (by decide)⟩⟩
theorem fmX5_23 : (23, 5, 3, 2) ∈ TbX5.1 := List.mem_of_getElem? (i := 3) rfl
theorem foX5_23 : hx_fok RX5 (23, 5, 3, 2) := ⟨RX5, TX5, 5, rfl, Nat.le_of_ble_eq_true rfl, rfl, mw_386, inX5, tyX5, tyX5_ok, nmX5, ⟨fun h => absurd h (by decide), fun h => absurd h (by decide)⟩⟩
theorem fmX5_26 : (26, 5, 4, 2) ∈ TbX5.1 := List.mem_of_getElem? (i := 4) rfl
theorem foX5_26 : hx_fok RX5 (26, 5, 4, 2) := ⟨RX5, TX5, 5, rfl, Nat.le_of_ble_eq_true rfl, rfl, mw_387, inX5, tyX5, tyX5_ok, nmX5, ⟨fun h => absurd h (by decide), fun h => absurd h (by decide)⟩⟩
theorem fmX5_48 : (48, 10, 0, 2) ∈ TbX5.1 := List.mem_of_getElem? (i := 5) rfl
theorem foX5_48 : hx_fok RX5 (48, 10, 0, 2) := ⟨RX10, TX10, 12, rfl, Nat.le_of_ble_eq_true rfl, rfl, mw_273, inX10, tyX10, tyX10_ok, nmX10, ⟨fun h => absurd h (by decide), fun h => absurd h (by decide)⟩⟩
theorem fmX5_52 : (52, 4, 0, 0) ∈ TbX5.1 := List.mem_of_getElem? (i := 6) rfl
theorem foX5_52 : hx_fok RX5 (52, 4, 0, 0) := ⟨RX4, TX4, 7, rfl, Nat.le_of_ble_eq_true rfl, rfl, mw_162, inX4, tyX4, tyX4_ok, nmX4, ⟨fun _ => ⟨by decide +kernel, by decide +kernel⟩, fun h => absurd h (by decide)⟩⟩
theorem fmX5_55 : (55, 10, 1, 2) ∈ TbX5.1 := List.mem_of_getElem? (i := 7) rfl
theorem foX5_55 : hx_fok RX5 (55, 10, 1, 2) := ⟨RX10, TX10, 12, rfl, Nat.le_of_ble_eq_true rfl, rfl, mw_278, inX10, tyX10, tyX10_ok, nmX10, ⟨fun h => absurd h (by decide), fun h => absurd h (by decide)⟩⟩
theorem mmX5_39 : (39, 2) ∈ TbX5.2.2.2 := List.mem_of_getElem? (i := 0) rfl
theorem mmX5_65 : (65, 1) ∈ TbX5.2.2.2 := List.mem_of_getElem? (i := 1) rfl
theorem mmX5_68 : (68, 0) ∈ TbX5.2.2.2 := List.mem_of_getElem? (i := 2) rfl
theorem spX5_39 : hx_mm RX5 (39, 2) := ⟨mw_995, mw_771, mw_89, mw_772⟩
theorem spX5_65 : hx_mm RX5 (65, 1) := ⟨mw_1001, mw_610, mw_89, mw_611⟩
theorem spX5_68 : hx_mm RX5 (68, 0) := ⟨mw_1002, mw_206, mw_89, mw_207⟩
theorem tokX5 : hx_tok RX5 TbX5 := ⟨(List.forall_mem_cons.mpr ⟨foX5_9, (List.forall_mem_cons.mpr ⟨foX5_15, (List.forall_mem_cons.mpr ⟨foX5_19, (List.forall_mem_cons.mpr ⟨foX5_23, (List.forall_mem_cons.mpr ⟨foX5_26, (List.forall_mem_cons.mpr ⟨foX5_48, (List.forall_mem_cons.mpr ⟨foX5_52, (List.forall_mem_cons.mpr ⟨foX5_55, (fun _ h => absurd h List.not_mem_nil)⟩)⟩)⟩)⟩)⟩)⟩)⟩)⟩), (fun _ h => absurd h List.not_mem_nil), (fun _ h => absurd h List.not_mem_nil), (List.forall_mem_cons.mpr ⟨spX5_39, (List.forall_mem_cons.mpr ⟨spX5_65, (List.forall_mem_cons.mpr ⟨spX5_68, (fun _ h => absurd h List.not_mem_nil)⟩)⟩)⟩)⟩
def TbX6 : hx_T := ([(9, 6, 0, 2), (15, 6, 1, 2), (21, 6, 2, 2), (27, 6, 3, 2), (30, 6, 4, 2), (33, 6, 5, 0), (43, 4, 2, 2), (48, 4, 1, 2), (51, 3, 5, 2), (73, 4, 0, 0), (76, 4, 3, 2), (79, 1, 0, 2), (82, 1, 1, 3), (115, 3, 2, 2)], [], [], [(58, 0), (85, 1), (118, 2)])
theorem fmX6_9 : (9, 6, 0, 2) ∈ TbX6.1 := List.mem_of_getElem? (i := 0) rfl
theorem foX6_9 : hx_fok RX6 (9, 6, 0, 2) := ⟨RX6, TX6, 6, rfl, Nat.le_of_ble_eq_true rfl, rfl, mw_247, inX6, tyX6, tyX6_ok, nmX6, ⟨fun h => absurd h (by decide), fun h => absurd h (by decide)⟩⟩
theorem fmX6_15 : (15, 6, 1, 2) ∈ TbX6.1 := List.mem_of_getElem? (i := 1) rfl
theorem foX6_15 : hx_fok RX6 (15, 6, 1, 2) := ⟨RX6, TX6, 6, rfl, Nat.le_of_ble_eq_true rfl, rfl, mw_248, inX6, tyX6, tyX6_ok, nmX6, ⟨fun h => absurd h (by decide), fun h => absurd h (by decide)⟩⟩
theorem fmX6_21 : (21, 6, 2, 2) ∈ TbX6.1 := List.mem_of_getElem? (i := 2) rfl
theorem foX6_21 : hx_fok RX6 (21, 6, 2, 2) := ⟨RX6, TX6, 6, rfl, Nat.le_of_ble_eq_true rfl, rfl, mw_249, inX6, tyX6, tyX6_ok, nmX6, ⟨fun h => absurd h (by decide), fun h => absurd h (by decide)⟩⟩
theorem fmX6_27 : (27, 6, 3, 2) ∈ TbX6.1 := List.mem_of_getElem? (i := 3) rfl
theorem foX6_27 : hx_fok RX6 (27, 6, 3, 2) := ⟨RX6, TX6, 6, rfl, Nat.le_of_ble_eq_true rfl, rfl, mw_250, inX6, tyX6, tyX6_ok, nmX6, ⟨fun h => absurd h (by decide), fun h => absurd h (by decide)⟩⟩
theorem fmX6_30 : (30, 6, 4, 2) ∈ TbX6.1 := List.mem_of_getElem? (i := 4) rfl
theorem foX6_30 : hx_fok RX6 (30, 6, 4, 2) := ⟨RX6, TX6, 6, rfl, Nat.le_of_ble_eq_true rfl, rfl, mw_251, inX6, tyX6, tyX6_ok, nmX6, ⟨fun h => absurd h (by decide), fun h => absurd h (by decide)⟩⟩
theorem fmX6_33 : (33, 6, 5, 0) ∈ TbX6.1 := List.mem_of_getElem? (i := 5) rfl
theorem foX6_33 : hx_fok RX6 (33, 6, 5, 0) := ⟨RX6, TX6, 6, rfl, Nat.le_of_ble_eq_true rfl, rfl, mw_253, inX6, tyX6, tyX6_ok, nmX6, ⟨fun _ => ⟨by decide +kernel, by decide +kernel⟩, fun h => absurd h (by decide)⟩⟩
theorem fmX6_43 : (43, 4, 2, 2) ∈ TbX6.1 := List.mem_of_getElem? (i := 6) rfl
theorem foX6_43 : hx_fok RX6 (43, 4, 2, 2) := ⟨RX4, TX4, 7, rfl, Nat.le_of_ble_eq_true rfl, rfl, mw_169, inX4, tyX4, tyX4_ok, nmX4, ⟨fun h => absurd h (by decide), fun h => absurd h (by decide)⟩⟩
theorem fmX6_48 : (48, 4, 1, 2) ∈ TbX6.1 := List.mem_of_getElem? (i := 7) rfl
theorem foX6_48 : hx_fok RX6 (48, 4, 1, 2) := ⟨RX4, TX4, 7, rfl, Nat.le_of_ble_eq_true rfl, rfl, mw_166, inX4, tyX4, tyX4_ok, nmX4, ⟨fun h => absurd h (by decide), fun h => absurd h (by decide)⟩⟩
theorem fmX6_51 : (51, 3, 5, 2) ∈ TbX6.1 := List.mem_of_getElem? (i := 8) rfl
theorem foX6_51 : hx_fok RX6 (51, 3, 5, 2) := ⟨RX3, TX3, 6, rfl, Nat.le_of_ble_eq_true rfl, rfl, mw_225, inX3, tyX3, tyX3_ok, nmX3, ⟨fun h => absurd h (by decide), fun h => absurd h (by decide)⟩⟩
theorem fmX6_73 : (73, 4, 0, 0) ∈ TbX6.1 := List.mem_of_getElem? (i := 9) rfl
theorem foX6_73 : hx_fok RX6 (73, 4, 0, 0) := ⟨RX4, TX4, 7, rfl, Nat.le_of_ble_eq_true rfl, rfl, mw_159, inX4, tyX4, tyX4_ok, nmX4, ⟨fun _ => ⟨by decide +kernel, by decide +kernel⟩, fun h => absurd h (by decide)⟩⟩
theorem fmX6_76 : (76, 4, 3, 2) ∈ TbX6.1 := List.mem_of_getElem? (i := 10) rfl
theorem foX6_76 : hx_fok RX6 (76, 4, 3, 2) := ⟨RX4, TX4, 7, rfl, Nat.le_of_ble_eq_true rfl, rfl, mw_174, inX4, tyX4, tyX4_ok, nmX4, ⟨fun h => absurd h (by decide), fun h => absurd h (by decide)⟩⟩
theorem fmX6_79 : (79, 1, 0, 2) ∈ TbX6.1 := List.mem_of_getElem? (i := 11) rfl
theorem foX6_79 : hx_fok RX6 (79, 1, 0, 2) := ⟨RX1, TX1, 2, rfl, Nat.le_of_ble_eq_true rfl, rfl, mw_620, inX1, tyX1, tyX1_ok, nmX1, ⟨fun h => absurd h (by decide), fun h => absurd h (by decide)⟩⟩
theorem fmX6_82 : (82, 1, 1, 3) ∈ TbX6.1 := List.mem_of_getElem? (i := 12) rfl
theorem foX6_82 : hx_fok RX6 (82, 1, 1, 3) := ⟨RX1, TX1, 2, rfl, Nat.le_of_ble_eq_true rfl, rfl, mw_622, inX1, tyX1, tyX1_ok, nmX1, ⟨fun h => absurd h (by decide), fun h => absurd h (by decide)⟩⟩
theorem fmX6_115 : (115, 3, 2, 2) ∈ TbX6.1 := List.mem_of_getElem? (i := 13) rfl
theorem foX6_115 : hx_fok RX6 (115, 3, 2, 2) := ⟨RX3, TX3, 6, rfl, Nat.le_of_ble_eq_true rfl, rfl, mw_219, inX3, tyX3, tyX3_ok, nmX3, ⟨fun h => absurd h (by decide), fun h => absurd h (by decide)⟩⟩
theorem mmX6_58 : (58, 0) ∈ TbX6.2.2.2 := List.mem_of_getElem? (i := 0) rfl
theorem mmX6_85 : (85, 1) ∈ TbX6.2.2.2 := List.mem_of_getElem? (i := 1) rfl
theorem mmX6_118 : (118, 2) ∈ TbX6.2.2.2 := List.mem_of_getElem? (i := 2) rfl
theorem spX6_58 : hx_mm RX6 (58, 0) := ⟨mw_730, mw_206, mw_89, mw_207⟩
theorem spX6_85 : hx_mm RX6 (85, 1) := ⟨mw_735, mw_610, mw_89, mw_611⟩
theorem spX6_118 : hx_mm RX6 (118, 2) := ⟨mw_770, mw_771, mw_89, mw_772⟩
theorem tokX6 : hx_tok RX6 TbX6 := ⟨(List.forall_mem_cons.mpr ⟨foX6_9, (List.forall_mem_cons.mpr ⟨foX6_15, (List.forall_mem_cons.mpr ⟨foX6_21, (List.forall_mem_cons.mpr ⟨foX6_27, (List.forall_mem_cons.mpr ⟨foX6_30, (List.forall_mem_cons.mpr ⟨foX6_33, (List.forall_mem_cons.mpr ⟨foX6_43, (List.forall_mem_cons.mpr ⟨foX6_48, (List.forall_mem_cons.mpr ⟨foX6_51, (List.forall_mem_cons.mpr ⟨foX6_73, (List.forall_mem_cons.mpr ⟨foX6_76, (List.forall_mem_cons.mpr ⟨foX6_79, (List.forall_mem_cons.mpr ⟨foX6_82, (List.forall_mem_cons.mpr ⟨foX6_115, (fun _ h => absurd h List.not_mem_nil)⟩)⟩)⟩)⟩)⟩)⟩)⟩)⟩)⟩)⟩)⟩)⟩)⟩)⟩), (fun _ h => absurd h List.not_mem_nil), (fun _ h => absurd h List.not_mem_nil), (List.forall_mem_cons.mpr ⟨spX6_58, (List.forall_mem_cons.mpr ⟨spX6_85, (List.forall_mem_cons.mpr ⟨spX6_118, (fun _ h => absurd h List.not_mem_nil)⟩)⟩)⟩)⟩
def TbX7 : hx_T := ([(9, 7, 0, 2), (15, 7, 1, 2), (19, 7, 2, 2), (22, 7, 3, 2), (25, 7, 4, 2), (28, 7, 5, 0), (52, 10, 0, 2), (58, 4, 0, 0)], [(71, 1048576)], [], [(75, 1)])
theorem fmX7_9 : (9, 7, 0, 2) ∈ TbX7.1 := List.mem_of_getElem? (i := 0) rfl
theorem foX7_9 : hx_fok RX7 (9, 7, 0, 2) := ⟨RX7, TX7, 6, rfl, Nat.le_of_ble_eq_true rfl, rfl, mw_405, inX7, tyX7, tyX7_ok, nmX7, ⟨fun h => absurd h (by decide), fun h => absurd h (by decide)⟩⟩
theorem fmX7_15 : (15, 7, 1, 2) ∈ TbX7.1 := List.mem_of_getElem? (i := 1) rfl
theorem foX7_15 : hx_fok RX7 (15, 7, 1, 2) := ⟨RX7, TX7, 6, rfl, Nat.le_of_ble_eq_true rfl, rfl, mw_406, inX7, tyX7, tyX7_ok, nmX7, ⟨fun h => absurd h (by decide), fun h => absurd h (by decide)⟩⟩
theorem fmX7_19 : (19, 7, 2, 2) ∈ TbX7.1 := List.mem_of_getElem? (i := 2) rfl
theorem foX7_19 : hx_fok RX7 (19, 7, 2, 2) := ⟨RX7, TX7, 6, rfl, Nat.le_of_ble_eq_true rfl, rfl, mw_407, inX7, tyX7, tyX7_ok, nmX7, ⟨fun h => absurd h (by decide), fun h => absurd h (by decide)⟩⟩
theorem fmX7_22 : (22, 7, 3, 2) ∈ TbX7.1 := List.mem_of_getElem? (i := 3) rfl
theorem foX7_22 : hx_fok RX7 (22, 7, 3, 2) := ⟨RX7, TX7, 6, rfl, Nat.le_of_ble_eq_true rfl, rfl, mw_408, inX7, tyX7, tyX7_ok, nmX7, ⟨fun h => absurd h (by decide), fun h => absurd h (by decide)⟩⟩
theorem fmX7_25 : (25, 7, 4, 2) ∈ TbX7.1 := List.mem_of_getElem? (i := 4) rfl
theorem foX7_25 : hx_fok RX7 (25, 7, 4, 2) := ⟨RX7, TX7, 6, rfl, Nat.le_of_ble_eq_true rfl, rfl, mw_409, inX7, tyX7, tyX7_ok, nmX7, ⟨fun h => absurd h (by decide), fun h => absurd h (by decide)⟩⟩
theorem fmX7_28 : (28, 7, 5, 0) ∈ TbX7.1 := List.mem_of_getElem? (i := 5) rfl
theorem foX7_28 : hx_fok RX7 (28, 7, 5, 0) := ⟨RX7, TX7, 6, rfl, Nat.le_of_ble_eq_true rfl, rfl, mw_411, inX7, tyX7, tyX7_ok, nmX7, ⟨fun _ => ⟨by decide +kernel, by decide +kernel⟩, fun h => absurd h (by decide)⟩⟩
theorem fmX7_52 : (52, 10, 0, 2) ∈ TbX7.1 := List.mem_of_getElem? (i := 6) rfl
theorem foX7_52 : hx_fok RX7 (52, 10, 0, 2) := ⟨RX10, TX10, 12, rfl, Nat.le_of_ble_eq_true rfl, rfl, mw_271, inX10, tyX10, tyX10_ok, nmX10, ⟨fun h => absurd h (by decide), fun h => absurd h (by decide)⟩⟩
theorem fmX7_58 : (58, 4, 0, 0) ∈ TbX7.1 := List.mem_of_getElem? (i := 7) rfl
theorem foX7_58 : hx_fok RX7 (58, 4, 0, 0) := ⟨RX4, TX4, 7, rfl, Nat.le_of_ble_eq_true rfl, rfl, mw_158, inX4, tyX4, tyX4_ok, nmX4, ⟨fun _ => ⟨by decide +kernel, by decide +kernel⟩, fun h => absurd h (by decide)⟩⟩
theorem ciX7_71 : (71, (1048576 : Int32)) ∈ TbX7.2.1 := List.mem_of_getElem? (i := 0) rfl
theorem mmX7_75 : (75, 1) ∈ TbX7.2.2.2 := List.mem_of_getElem? (i := 0) rfl
theorem spX7_75 : hx_mm RX7 (75, 1) := ⟨mw_1062, mw_610, mw_89, mw_611⟩
theorem tokX7 : hx_tok RX7 TbX7 := ⟨(List.forall_mem_cons.mpr ⟨foX7_9, (List.forall_mem_cons.mpr ⟨foX7_15, (List.forall_mem_cons.mpr ⟨foX7_19, (List.forall_mem_cons.mpr ⟨foX7_22, (List.forall_mem_cons.mpr ⟨foX7_25, (List.forall_mem_cons.mpr ⟨foX7_28, (List.forall_mem_cons.mpr ⟨foX7_52, (List.forall_mem_cons.mpr ⟨foX7_58, (fun _ h => absurd h List.not_mem_nil)⟩)⟩)⟩)⟩)⟩)⟩)⟩)⟩), (List.forall_mem_cons.mpr ⟨mw_1057, (fun _ h => absurd h List.not_mem_nil)⟩), (fun _ h => absurd h List.not_mem_nil), (List.forall_mem_cons.mpr ⟨spX7_75, (fun _ h => absurd h List.not_mem_nil)⟩)⟩
def TbX8 : hx_T := ([(9, 8, 0, 2), (15, 8, 1, 2), (19, 8, 2, 0), (23, 8, 3, 0), (26, 10, 7, 0), (48, 10, 1, 2), (67, 3, 5, 2)], [], [], [(62, 2)])
theorem fmX8_9 : (9, 8, 0, 2) ∈ TbX8.1 := List.mem_of_getElem? (i := 0) rfl
theorem foX8_9 : hx_fok RX8 (9, 8, 0, 2) := ⟨RX8, TX8, 4, rfl, Nat.le_of_ble_eq_true rfl, rfl, mw_360, inX8, tyX8, tyX8_ok, nmX8, ⟨fun h => absurd h (by decide), fun h => absurd h (by decide)⟩⟩
theorem fmX8_15 : (15, 8, 1, 2) ∈ TbX8.1 := List.mem_of_getElem? (i := 1) rfl
theorem foX8_15 : hx_fok RX8 (15, 8, 1, 2) := ⟨RX8, TX8, 4, rfl, Nat.le_of_ble_eq_true rfl, rfl, mw_361, inX8, tyX8, tyX8_ok, nmX8, ⟨fun h => absurd h (by decide), fun h => absurd h (by decide)⟩⟩
theorem fmX8_19 : (19, 8, 2, 0) ∈ TbX8.1 := List.mem_of_getElem? (i := 2) rfl
theorem foX8_19 : hx_fok RX8 (19, 8, 2, 0) := ⟨RX8, TX8, 4, rfl, Nat.le_of_ble_eq_true rfl, rfl, mw_362, inX8, tyX8, tyX8_ok, nmX8, ⟨fun _ => ⟨by decide +kernel, by decide +kernel⟩, fun h => absurd h (by decide)⟩⟩
theorem fmX8_23 : (23, 8, 3, 0) ∈ TbX8.1 := List.mem_of_getElem? (i := 3) rfl
theorem foX8_23 : hx_fok RX8 (23, 8, 3, 0) := ⟨RX8, TX8, 4, rfl, Nat.le_of_ble_eq_true rfl, rfl, mw_364, inX8, tyX8, tyX8_ok, nmX8, ⟨fun _ => ⟨by decide +kernel, by decide +kernel⟩, fun h => absurd h (by decide)⟩⟩
theorem fmX8_26 : (26, 10, 7, 0) ∈ TbX8.1 := List.mem_of_getElem? (i := 4) rfl
theorem foX8_26 : hx_fok RX8 (26, 10, 7, 0) := ⟨RX10, TX10, 12, rfl, Nat.le_of_ble_eq_true rfl, rfl, mw_292, inX10, tyX10, tyX10_ok, nmX10, ⟨fun _ => ⟨by decide +kernel, by decide +kernel⟩, fun h => absurd h (by decide)⟩⟩
theorem fmX8_48 : (48, 10, 1, 2) ∈ TbX8.1 := List.mem_of_getElem? (i := 5) rfl
theorem foX8_48 : hx_fok RX8 (48, 10, 1, 2) := ⟨RX10, TX10, 12, rfl, Nat.le_of_ble_eq_true rfl, rfl, mw_279, inX10, tyX10, tyX10_ok, nmX10, ⟨fun h => absurd h (by decide), fun h => absurd h (by decide)⟩⟩
theorem fmX8_67 : (67, 3, 5, 2) ∈ TbX8.1 := List.mem_of_getElem? (i := 6) rfl
theorem foX8_67 : hx_fok RX8 (67, 3, 5, 2) := ⟨RX3, TX3, 6, rfl, Nat.le_of_ble_eq_true rfl, rfl, mw_227, inX3, tyX3, tyX3_ok, nmX3, ⟨fun h => absurd h (by decide), fun h => absurd h (by decide)⟩⟩
theorem mmX8_62 : (62, 2) ∈ TbX8.2.2.2 := List.mem_of_getElem? (i := 0) rfl
theorem spX8_62 : hx_mm RX8 (62, 2) := ⟨mw_931, mw_771, mw_89, mw_772⟩
theorem tokX8 : hx_tok RX8 TbX8 := ⟨(List.forall_mem_cons.mpr ⟨foX8_9, (List.forall_mem_cons.mpr ⟨foX8_15, (List.forall_mem_cons.mpr ⟨foX8_19, (List.forall_mem_cons.mpr ⟨foX8_23, (List.forall_mem_cons.mpr ⟨foX8_26, (List.forall_mem_cons.mpr ⟨foX8_48, (List.forall_mem_cons.mpr ⟨foX8_67, (fun _ h => absurd h List.not_mem_nil)⟩)⟩)⟩)⟩)⟩)⟩)⟩), (fun _ h => absurd h List.not_mem_nil), (fun _ h => absurd h List.not_mem_nil), (List.forall_mem_cons.mpr ⟨spX8_62, (fun _ h => absurd h List.not_mem_nil)⟩)⟩
def TbX9 : hx_T := ([(9, 9, 0, 2), (18, 9, 1, 2), (22, 10, 0, 2), (31, 10, 6, 1), (35, 10, 7, 0), (39, 10, 1, 2), (43, 3, 5, 2), (62, 4, 0, 0)], [], [], [(57, 0)])
theorem fmX9_9 : (9, 9, 0, 2) ∈ TbX9.1 := List.mem_of_getElem? (i := 0) rfl
theorem foX9_9 : hx_fok RX9 (9, 9, 0, 2) := ⟨RX9, TX9, 2, rfl, Nat.le_of_ble_eq_true rfl, rfl, mw_337, inX9, tyX9, tyX9_ok, nmX9, ⟨fun h => absurd h (by decide), fun h => absurd h (by decide)⟩⟩
theorem fmX9_18 : (18, 9, 1, 2) ∈ TbX9.1 := List.mem_of_getElem? (i := 1) rfl
theorem foX9_18 : hx_fok RX9 (18, 9, 1, 2) := ⟨RX9, TX9, 2, rfl, Nat.le_of_ble_eq_true rfl, rfl, mw_338, inX9, tyX9, tyX9_ok, nmX9, ⟨fun h => absurd h (by decide), fun h => absurd h (by decide)⟩⟩
theorem fmX9_22 : (22, 10, 0, 2) ∈ TbX9.1 := List.mem_of_getElem? (i := 2) rfl
theorem foX9_22 : hx_fok RX9 (22, 10, 0, 2) := ⟨RX10, TX10, 12, rfl, Nat.le_of_ble_eq_true rfl, rfl, mw_269, inX10, tyX10, tyX10_ok, nmX10, ⟨fun h => absurd h (by decide), fun h => absurd h (by decide)⟩⟩
theorem fmX9_31 : (31, 10, 6, 1) ∈ TbX9.1 := List.mem_of_getElem? (i := 3) rfl
theorem foX9_31 : hx_fok RX9 (31, 10, 6, 1) := ⟨RX10, TX10, 12, rfl, Nat.le_of_ble_eq_true rfl, rfl, mw_289, inX10, tyX10, tyX10_ok, nmX10, ⟨fun h => absurd h (by decide), fun _ => ⟨by decide +kernel, by decide +kernel⟩⟩⟩
theorem fmX9_35 : (35, 10, 7, 0) ∈ TbX9.1 := List.mem_of_getElem? (i := 4) rfl
theorem foX9_35 : hx_fok RX9 (35, 10, 7, 0) := ⟨RX10, TX10, 12, rfl, Nat.le_of_ble_eq_true rfl, rfl, mw_294, inX10, tyX10, tyX10_ok, nmX10, ⟨fun _ => ⟨by decide +kernel, by decide +kernel⟩, fun h => absurd h (by decide)⟩⟩
theorem fmX9_39 : (39, 10, 1, 2) ∈ TbX9.1 := List.mem_of_getElem? (i := 5) rfl
theorem foX9_39 : hx_fok RX9 (39, 10, 1, 2) := ⟨RX10, TX10, 12, rfl, Nat.le_of_ble_eq_true rfl, rfl, mw_276, inX10, tyX10, tyX10_ok, nmX10, ⟨fun h => absurd h (by decide), fun h => absurd h (by decide)⟩⟩
theorem fmX9_43 : (43, 3, 5, 2) ∈ TbX9.1 := List.mem_of_getElem? (i := 6) rfl
theorem foX9_43 : hx_fok RX9 (43, 3, 5, 2) := ⟨RX3, TX3, 6, rfl, Nat.le_of_ble_eq_true rfl, rfl, mw_224, inX3, tyX3, tyX3_ok, nmX3, ⟨fun h => absurd h (by decide), fun h => absurd h (by decide)⟩⟩
theorem fmX9_62 : (62, 4, 0, 0) ∈ TbX9.1 := List.mem_of_getElem? (i := 7) rfl
theorem foX9_62 : hx_fok RX9 (62, 4, 0, 0) := ⟨RX4, TX4, 7, rfl, Nat.le_of_ble_eq_true rfl, rfl, mw_163, inX4, tyX4, tyX4_ok, nmX4, ⟨fun _ => ⟨by decide +kernel, by decide +kernel⟩, fun h => absurd h (by decide)⟩⟩
theorem mmX9_57 : (57, 0) ∈ TbX9.2.2.2 := List.mem_of_getElem? (i := 0) rfl
theorem spX9_57 : hx_mm RX9 (57, 0) := ⟨mw_830, mw_206, mw_89, mw_207⟩
theorem tokX9 : hx_tok RX9 TbX9 := ⟨(List.forall_mem_cons.mpr ⟨foX9_9, (List.forall_mem_cons.mpr ⟨foX9_18, (List.forall_mem_cons.mpr ⟨foX9_22, (List.forall_mem_cons.mpr ⟨foX9_31, (List.forall_mem_cons.mpr ⟨foX9_35, (List.forall_mem_cons.mpr ⟨foX9_39, (List.forall_mem_cons.mpr ⟨foX9_43, (List.forall_mem_cons.mpr ⟨foX9_62, (fun _ h => absurd h List.not_mem_nil)⟩)⟩)⟩)⟩)⟩)⟩)⟩)⟩), (fun _ h => absurd h List.not_mem_nil), (fun _ h => absurd h List.not_mem_nil), (List.forall_mem_cons.mpr ⟨spX9_57, (fun _ h => absurd h List.not_mem_nil)⟩)⟩
def TbX10 : hx_T := ([(12, 10, 0, 2), (23, 10, 1, 2), (32, 10, 2, 2), (36, 10, 3, 0), (40, 10, 4, 0), (43, 10, 5, 0), (46, 10, 6, 1), (50, 10, 7, 0), (53, 10, 8, 0), (56, 10, 9, 2), (60, 10, 10, 2), (63, 10, 11, 2), (83, 4, 0, 0), (86, 3, 2, 2), (99, 4, 4, 2), (102, 4, 5, 2), (109, 3, 0, 3), (119, 3, 1, 2), (128, 4, 2, 2), (144, 6, 5, 0)], [], [(122, 6364136223846793005), (124, 1442695040888963407), (126, 100)], [(73, 3), (131, 1), (147, 2)])
theorem fmX10_12 : (12, 10, 0, 2) ∈ TbX10.1 := List.mem_of_getElem? (i := 0) rfl
theorem foX10_12 : hx_fok RX10 (12, 10, 0, 2) := ⟨RX10, TX10, 12, rfl, Nat.le_of_ble_eq_true rfl, rfl, mw_268, inX10, tyX10, tyX10_ok, nmX10, ⟨fun h => absurd h (by decide), fun h => absurd h (by decide)⟩⟩
theorem fmX10_23 : (23, 10, 1, 2) ∈ TbX10.1 := List.mem_of_getElem? (i := 1) rfl
theorem foX10_23 : hx_fok RX10 (23, 10, 1, 2) := ⟨RX10, TX10, 12, rfl, Nat.le_of_ble_eq_true rfl, rfl, mw_274, inX10, tyX10, tyX10_ok, nmX10, ⟨fun h => absurd h (by decide), fun h => absurd h (by decide)⟩⟩
theorem fmX10_32 : (32, 10, 2, 2) ∈ TbX10.1 := List.mem_of_getElem? (i := 2) rfl
theorem foX10_32 : hx_fok RX10 (32, 10, 2, 2) := ⟨RX10, TX10, 12, rfl, Nat.le_of_ble_eq_true rfl, rfl, mw_280, inX10, tyX10, tyX10_ok, nmX10, ⟨fun h => absurd h (by decide), fun h => absurd h (by decide)⟩⟩
theorem fmX10_36 : (36, 10, 3, 0) ∈ TbX10.1 := List.mem_of_getElem? (i := 3) rfl
theorem foX10_36 : hx_fok RX10 (36, 10, 3, 0) := ⟨RX10, TX10, 12, rfl, Nat.le_of_ble_eq_true rfl, rfl, mw_282, inX10, tyX10, tyX10_ok, nmX10, ⟨fun _ => ⟨by decide +kernel, by decide +kernel⟩, fun h => absurd h (by decide)⟩⟩
theorem fmX10_40 : (40, 10, 4, 0) ∈ TbX10.1 := List.mem_of_getElem? (i := 4) rfl
theorem foX10_40 : hx_fok RX10 (40, 10, 4, 0) := ⟨RX10, TX10, 12, rfl, Nat.le_of_ble_eq_true rfl, rfl, mw_284, inX10, tyX10, tyX10_ok, nmX10, ⟨fun _ => ⟨by decide +kernel, by decide +kernel⟩, fun h => absurd h (by decide)⟩⟩
theorem fmX10_43 : (43, 10, 5, 0) ∈ TbX10.1 := List.mem_of_getElem? (i := 5) rfl
theorem foX10_43 : hx_fok RX10 (43, 10, 5, 0) := ⟨RX10, TX10, 12, rfl, Nat.le_of_ble_eq_true rfl, rfl, mw_286, inX10, tyX10, tyX10_ok, nmX10, ⟨fun _ => ⟨by decide +kernel, by decide +kernel⟩, fun h => absurd h (by decide)⟩⟩
theorem fmX10_46 : (46, 10, 6, 1) ∈ TbX10.1 := List.mem_of_getElem? (i := 6) rfl
theorem foX10_46 : hx_fok RX10 (46, 10, 6, 1) := ⟨RX10, TX10, 12, rfl, Nat.le_of_ble_eq_true rfl, rfl, mw_288, inX10, tyX10, tyX10_ok, nmX10, ⟨fun h => absurd h (by decide), fun _ => ⟨by decide +kernel, by decide +kernel⟩⟩⟩
theorem fmX10_50 : (50, 10, 7, 0) ∈ TbX10.1 := List.mem_of_getElem? (i := 7) rfl
theorem foX10_50 : hx_fok RX10 (50, 10, 7, 0) := ⟨RX10, TX10, 12, rfl, Nat.le_of_ble_eq_true rfl, rfl, mw_291, inX10, tyX10, tyX10_ok, nmX10, ⟨fun _ => ⟨by decide +kernel, by decide +kernel⟩, fun h => absurd h (by decide)⟩⟩
theorem fmX10_53 : (53, 10, 8, 0) ∈ TbX10.1 := List.mem_of_getElem? (i := 8) rfl
theorem foX10_53 : hx_fok RX10 (53, 10, 8, 0) := ⟨RX10, TX10, 12, rfl, Nat.le_of_ble_eq_true rfl, rfl, mw_296, inX10, tyX10, tyX10_ok, nmX10, ⟨fun _ => ⟨by decide +kernel, by decide +kernel⟩, fun h => absurd h (by decide)⟩⟩
theorem fmX10_56 : (56, 10, 9, 2) ∈ TbX10.1 := List.mem_of_getElem? (i := 9) rfl
theorem foX10_56 : hx_fok RX10 (56, 10, 9, 2) := ⟨RX10, TX10, 12, rfl, Nat.le_of_ble_eq_true rfl, rfl, mw_298, inX10, tyX10, tyX10_ok, nmX10, ⟨fun h => absurd h (by decide), fun h => absurd h (by decide)⟩⟩
theorem fmX10_60 : (60, 10, 10, 2) ∈ TbX10.1 := List.mem_of_getElem? (i := 10) rfl
theorem foX10_60 : hx_fok RX10 (60, 10, 10, 2) := ⟨RX10, TX10, 12, rfl, Nat.le_of_ble_eq_true rfl, rfl, mw_300, inX10, tyX10, tyX10_ok, nmX10, ⟨fun h => absurd h (by decide), fun h => absurd h (by decide)⟩⟩
theorem fmX10_63 : (63, 10, 11, 2) ∈ TbX10.1 := List.mem_of_getElem? (i := 11) rfl
theorem foX10_63 : hx_fok RX10 (63, 10, 11, 2) := ⟨RX10, TX10, 12, rfl, Nat.le_of_ble_eq_true rfl, rfl, mw_302, inX10, tyX10, tyX10_ok, nmX10, ⟨fun h => absurd h (by decide), fun h => absurd h (by decide)⟩⟩
theorem fmX10_83 : (83, 4, 0, 0) ∈ TbX10.1 := List.mem_of_getElem? (i := 12) rfl
theorem foX10_83 : hx_fok RX10 (83, 4, 0, 0) := ⟨RX4, TX4, 7, rfl, Nat.le_of_ble_eq_true rfl, rfl, mw_160, inX4, tyX4, tyX4_ok, nmX4, ⟨fun _ => ⟨by decide +kernel, by decide +kernel⟩, fun h => absurd h (by decide)⟩⟩
theorem fmX10_86 : (86, 3, 2, 2) ∈ TbX10.1 := List.mem_of_getElem? (i := 13) rfl
theorem foX10_86 : hx_fok RX10 (86, 3, 2, 2) := ⟨RX3, TX3, 6, rfl, Nat.le_of_ble_eq_true rfl, rfl, mw_218, inX3, tyX3, tyX3_ok, nmX3, ⟨fun h => absurd h (by decide), fun h => absurd h (by decide)⟩⟩
theorem fmX10_99 : (99, 4, 4, 2) ∈ TbX10.1 := List.mem_of_getElem? (i := 14) rfl
theorem foX10_99 : hx_fok RX10 (99, 4, 4, 2) := ⟨RX4, TX4, 7, rfl, Nat.le_of_ble_eq_true rfl, rfl, mw_177, inX4, tyX4, tyX4_ok, nmX4, ⟨fun h => absurd h (by decide), fun h => absurd h (by decide)⟩⟩
theorem fmX10_102 : (102, 4, 5, 2) ∈ TbX10.1 := List.mem_of_getElem? (i := 15) rfl
theorem foX10_102 : hx_fok RX10 (102, 4, 5, 2) := ⟨RX4, TX4, 7, rfl, Nat.le_of_ble_eq_true rfl, rfl, mw_180, inX4, tyX4, tyX4_ok, nmX4, ⟨fun h => absurd h (by decide), fun h => absurd h (by decide)⟩⟩
theorem fmX10_109 : (109, 3, 0, 3) ∈ TbX10.1 := List.mem_of_getElem? (i := 16) rfl
theorem foX10_109 : hx_fok RX10 (109, 3, 0, 3) := ⟨RX3, TX3, 6, rfl, Nat.le_of_ble_eq_true rfl, rfl, mw_212, inX3, tyX3, tyX3_ok, nmX3, ⟨fun h => absurd h (by decide), fun h => absurd h (by decide)⟩⟩
theorem fmX10_119 : (119, 3, 1, 2) ∈ TbX10.1 := List.mem_of_getElem? (i := 17) rfl
theorem foX10_119 : hx_fok RX10 (119, 3, 1, 2) := ⟨RX3, TX3, 6, rfl, Nat.le_of_ble_eq_true rfl, rfl, mw_215, inX3, tyX3, tyX3_ok, nmX3, ⟨fun h => absurd h (by decide), fun h => absurd h (by decide)⟩⟩
theorem fmX10_128 : (128, 4, 2, 2) ∈ TbX10.1 := List.mem_of_getElem? (i := 18) rfl
theorem foX10_128 : hx_fok RX10 (128, 4, 2, 2) := ⟨RX4, TX4, 7, rfl, Nat.le_of_ble_eq_true rfl, rfl, mw_171, inX4, tyX4, tyX4_ok, nmX4, ⟨fun h => absurd h (by decide), fun h => absurd h (by decide)⟩⟩
theorem fmX10_144 : (144, 6, 5, 0) ∈ TbX10.1 := List.mem_of_getElem? (i := 19) rfl
theorem foX10_144 : hx_fok RX10 (144, 6, 5, 0) := ⟨RX6, TX6, 6, rfl, Nat.le_of_ble_eq_true rfl, rfl, mw_254, inX6, tyX6, tyX6_ok, nmX6, ⟨fun _ => ⟨by decide +kernel, by decide +kernel⟩, fun h => absurd h (by decide)⟩⟩
theorem ciX10_122 : (122, (6364136223846793005 : Int64)) ∈ TbX10.2.2.1 := List.mem_of_getElem? (i := 0) rfl
theorem ciX10_124 : (124, (1442695040888963407 : Int64)) ∈ TbX10.2.2.1 := List.mem_of_getElem? (i := 1) rfl
theorem ciX10_126 : (126, (100 : Int64)) ∈ TbX10.2.2.1 := List.mem_of_getElem? (i := 2) rfl
theorem mmX10_73 : (73, 3) ∈ TbX10.2.2.2 := List.mem_of_getElem? (i := 0) rfl
theorem mmX10_131 : (131, 1) ∈ TbX10.2.2.2 := List.mem_of_getElem? (i := 1) rfl
theorem mmX10_147 : (147, 2) ∈ TbX10.2.2.2 := List.mem_of_getElem? (i := 2) rfl
theorem spX10_73 : hx_mm RX10 (73, 3) := ⟨mw_1110, mw_614, mw_613, mw_103⟩
theorem spX10_131 : hx_mm RX10 (131, 1) := ⟨mw_711, mw_610, mw_89, mw_611⟩
theorem spX10_147 : hx_mm RX10 (147, 2) := ⟨mw_777, mw_771, mw_89, mw_772⟩
theorem tokX10 : hx_tok RX10 TbX10 := ⟨(List.forall_mem_cons.mpr ⟨foX10_12, (List.forall_mem_cons.mpr ⟨foX10_23, (List.forall_mem_cons.mpr ⟨foX10_32, (List.forall_mem_cons.mpr ⟨foX10_36, (List.forall_mem_cons.mpr ⟨foX10_40, (List.forall_mem_cons.mpr ⟨foX10_43, (List.forall_mem_cons.mpr ⟨foX10_46, (List.forall_mem_cons.mpr ⟨foX10_50, (List.forall_mem_cons.mpr ⟨foX10_53, (List.forall_mem_cons.mpr ⟨foX10_56, (List.forall_mem_cons.mpr ⟨foX10_60, (List.forall_mem_cons.mpr ⟨foX10_63, (List.forall_mem_cons.mpr ⟨foX10_83, (List.forall_mem_cons.mpr ⟨foX10_86, (List.forall_mem_cons.mpr ⟨foX10_99, (List.forall_mem_cons.mpr ⟨foX10_102, (List.forall_mem_cons.mpr ⟨foX10_109, (List.forall_mem_cons.mpr ⟨foX10_119, (List.forall_mem_cons.mpr ⟨foX10_128, (List.forall_mem_cons.mpr ⟨foX10_144, (fun _ h => absurd h List.not_mem_nil)⟩)⟩)⟩)⟩)⟩)⟩)⟩)⟩)⟩)⟩)⟩)⟩)⟩)⟩)⟩)⟩)⟩)⟩)⟩)⟩), (fun _ h => absurd h List.not_mem_nil), (List.forall_mem_cons.mpr ⟨mw_708, (List.forall_mem_cons.mpr ⟨mw_709, (List.forall_mem_cons.mpr ⟨mw_710, (fun _ h => absurd h List.not_mem_nil)⟩)⟩)⟩), (List.forall_mem_cons.mpr ⟨spX10_73, (List.forall_mem_cons.mpr ⟨spX10_131, (List.forall_mem_cons.mpr ⟨spX10_147, (fun _ h => absurd h List.not_mem_nil)⟩)⟩)⟩)⟩
def TbX11 : hx_T := ([(9, 11, 0, 2), (13, 11, 1, 0), (22, 11, 2, 2), (28, 11, 3, 2), (32, 11, 4, 0), (35, 11, 5, 0), (38, 11, 6, 0), (46, 11, 7, 2), (55, 11, 8, 2), (62, 11, 9, 2), (69, 11, 10, 2), (76, 11, 11, 2), (83, 11, 12, 2), (87, 11, 13, 2), (91, 11, 14, 0), (98, 10, 7, 0), (101, 10, 0, 2), (111, 10, 1, 2), (115, 3, 1, 2), (121, 3, 2, 2), (128, 4, 3, 2), (134, 3, 4, 2), (137, 3, 5, 2), (140, 10, 3, 0), (143, 10, 4, 0), (146, 10, 5, 0), (150, 10, 6, 1), (187, 4, 1, 2), (190, 4, 2, 2), (193, 4, 4, 2), (196, 4, 5, 2), (203, 4, 6, 2), (254, 8, 3, 0), (257, 8, 2, 0), (275, 10, 8, 0), (278, 10, 9, 2), (281, 10, 10, 2), (284, 10, 11, 2), (302, 7, 5, 0), (305, 7, 4, 2), (317, 4, 0, 0), (320, 1, 1, 3), (323, 5, 1, 0)], [(149, 999999999)], [(241, -1)], [(287, 2)])
theorem fmX11_9 : (9, 11, 0, 2) ∈ TbX11.1 := List.mem_of_getElem? (i := 0) rfl
theorem foX11_9 : hx_fok RX11 (9, 11, 0, 2) := ⟨RX11, TX11, 15, rfl, Nat.le_of_ble_eq_true rfl, rfl, mw_427, inX11, tyX11, tyX11_ok, nmX11, ⟨fun h => absurd h (by decide), fun h => absurd h (by decide)⟩⟩
theorem fmX11_13 : (13, 11, 1, 0) ∈ TbX11.1 := List.mem_of_getElem? (i := 1) rfl
theorem foX11_13 : hx_fok RX11 (13, 11, 1, 0) := ⟨RX11, TX11, 15, rfl, Nat.le_of_ble_eq_true rfl, rfl, mw_428, inX11, tyX11, tyX11_ok, nmX11, ⟨fun _ => ⟨by decide +kernel, by decide +kernel⟩, fun h => absurd h (by decide)⟩⟩
theorem fmX11_22 : (22, 11, 2, 2) ∈ TbX11.1 := List.mem_of_getElem? (i := 2) rfl
theorem foX11_22 : hx_fok RX11 (22, 11, 2, 2) := ⟨RX11, TX11, 15, rfl, Nat.le_of_ble_eq_true rfl, rfl, mw_429, inX11, tyX11, tyX11_ok, nmX11, ⟨fun h => absurd h (by decide), fun h => absurd h (by decide)⟩⟩
theorem fmX11_28 : (28, 11, 3, 2) ∈ TbX11.1 := List.mem_of_getElem? (i := 3) rfl
theorem foX11_28 : hx_fok RX11 (28, 11, 3, 2) := ⟨RX11, TX11, 15, rfl, Nat.le_of_ble_eq_true rfl, rfl, mw_430, inX11, tyX11, tyX11_ok, nmX11, ⟨fun h => absurd h (by decide), fun h => absurd h (by decide)⟩⟩
theorem fmX11_32 : (32, 11, 4, 0) ∈ TbX11.1 := List.mem_of_getElem? (i := 4) rfl
theorem foX11_32 : hx_fok RX11 (32, 11, 4, 0) := ⟨RX11, TX11, 15, rfl, Nat.le_of_ble_eq_true rfl, rfl, mw_431, inX11, tyX11, tyX11_ok, nmX11, ⟨fun _ => ⟨by decide +kernel, by decide +kernel⟩, fun h => absurd h (by decide)⟩⟩
theorem fmX11_35 : (35, 11, 5, 0) ∈ TbX11.1 := List.mem_of_getElem? (i := 5) rfl
theorem foX11_35 : hx_fok RX11 (35, 11, 5, 0) := ⟨RX11, TX11, 15, rfl, Nat.le_of_ble_eq_true rfl, rfl, mw_432, inX11, tyX11, tyX11_ok, nmX11, ⟨fun _ => ⟨by decide +kernel, by decide +kernel⟩, fun h => absurd h (by decide)⟩⟩
theorem fmX11_38 : (38, 11, 6, 0) ∈ TbX11.1 := List.mem_of_getElem? (i := 6) rfl
theorem foX11_38 : hx_fok RX11 (38, 11, 6, 0) := ⟨RX11, TX11, 15, rfl, Nat.le_of_ble_eq_true rfl, rfl, mw_433, inX11, tyX11, tyX11_ok, nmX11, ⟨fun _ => ⟨by decide +kernel, by decide +kernel⟩, fun h => absurd h (by decide)⟩⟩
theorem fmX11_46 : (46, 11, 7, 2) ∈ TbX11.1 := List.mem_of_getElem? (i := 7) rfl
theorem foX11_46 : hx_fok RX11 (46, 11, 7, 2) := ⟨RX11, TX11, 15, rfl, Nat.le_of_ble_eq_true rfl, rfl, mw_434, inX11, tyX11, tyX11_ok, nmX11, ⟨fun h => absurd h (by decide), fun h => absurd h (by decide)⟩⟩
theorem fmX11_55 : (55, 11, 8, 2) ∈ TbX11.1 := List.mem_of_getElem? (i := 8) rfl
theorem foX11_55 : hx_fok RX11 (55, 11, 8, 2) := ⟨RX11, TX11, 15, rfl, Nat.le_of_ble_eq_true rfl, rfl, mw_435, inX11, tyX11, tyX11_ok, nmX11, ⟨fun h => absurd h (by decide), fun h => absurd h (by decide)⟩⟩
theorem fmX11_62 : (62, 11, 9, 2) ∈ TbX11.1 := List.mem_of_getElem? (i := 9) rfl
theorem foX11_62 : hx_fok RX11 (62, 11, 9, 2) := ⟨RX11, TX11, 15, rfl, Nat.le_of_ble_eq_true rfl, rfl, mw_436, inX11, tyX11, tyX11_ok, nmX11, ⟨fun h => absurd h (by decide), fun h => absurd h (by decide)⟩⟩
theorem fmX11_69 : (69, 11, 10, 2) ∈ TbX11.1 := List.mem_of_getElem? (i := 10) rfl
theorem foX11_69 : hx_fok RX11 (69, 11, 10, 2) := ⟨RX11, TX11, 15, rfl, Nat.le_of_ble_eq_true rfl, rfl, mw_437, inX11, tyX11, tyX11_ok, nmX11, ⟨fun h => absurd h (by decide), fun h => absurd h (by decide)⟩⟩
theorem fmX11_76 : (76, 11, 11, 2) ∈ TbX11.1 := List.mem_of_getElem? (i := 11) rfl
theorem foX11_76 : hx_fok RX11 (76, 11, 11, 2) := ⟨RX11, TX11, 15, rfl, Nat.le_of_ble_eq_true rfl, rfl, mw_438, inX11, tyX11, tyX11_ok, nmX11, ⟨fun h => absurd h (by decide), fun h => absurd h (by decide)⟩⟩
theorem fmX11_83 : (83, 11, 12, 2) ∈ TbX11.1 := List.mem_of_getElem? (i := 12) rfl
theorem foX11_83 : hx_fok RX11 (83, 11, 12, 2) := ⟨RX11, TX11, 15, rfl, Nat.le_of_ble_eq_true rfl, rfl, mw_439, inX11, tyX11, tyX11_ok, nmX11, ⟨fun h => absurd h (by decide), fun h => absurd h (by decide)⟩⟩
theorem fmX11_87 : (87, 11, 13, 2) ∈ TbX11.1 := List.mem_of_getElem? (i := 13) rfl
theorem foX11_87 : hx_fok RX11 (87, 11, 13, 2) := ⟨RX11, TX11, 15, rfl, Nat.le_of_ble_eq_true rfl, rfl, mw_440, inX11, tyX11, tyX11_ok, nmX11, ⟨fun h => absurd h (by decide), fun h => absurd h (by decide)⟩⟩
theorem fmX11_91 : (91, 11, 14, 0) ∈ TbX11.1 := List.mem_of_getElem? (i := 14) rfl
theorem foX11_91 : hx_fok RX11 (91, 11, 14, 0) := ⟨RX11, TX11, 15, rfl, Nat.le_of_ble_eq_true rfl, rfl, mw_441, inX11, tyX11, tyX11_ok, nmX11, ⟨fun _ => ⟨by decide +kernel, by decide +kernel⟩, fun h => absurd h (by decide)⟩⟩
theorem fmX11_98 : (98, 10, 7, 0) ∈ TbX11.1 := List.mem_of_getElem? (i := 15) rfl
theorem foX11_98 : hx_fok RX11 (98, 10, 7, 0) := ⟨RX10, TX10, 12, rfl, Nat.le_of_ble_eq_true rfl, rfl, mw_295, inX10, tyX10, tyX10_ok, nmX10, ⟨fun _ => ⟨by decide +kernel, by decide +kernel⟩, fun h => absurd h (by decide)⟩⟩
theorem fmX11_101 : (101, 10, 0, 2) ∈ TbX11.1 := List.mem_of_getElem? (i := 16) rfl
theorem foX11_101 : hx_fok RX11 (101, 10, 0, 2) := ⟨RX10, TX10, 12, rfl, Nat.le_of_ble_eq_true rfl, rfl, mw_270, inX10, tyX10, tyX10_ok, nmX10, ⟨fun h => absurd h (by decide), fun h => absurd h (by decide)⟩⟩
theorem fmX11_111 : (111, 10, 1, 2) ∈ TbX11.1 := List.mem_of_getElem? (i := 17) rfl
theorem foX11_111 : hx_fok RX11 (111, 10, 1, 2) := ⟨RX10, TX10, 12, rfl, Nat.le_of_ble_eq_true rfl, rfl, mw_277, inX10, tyX10, tyX10_ok, nmX10, ⟨fun h => absurd h (by decide), fun h => absurd h (by decide)⟩⟩
theorem fmX11_115 : (115, 3, 1, 2) ∈ TbX11.1 := List.mem_of_getElem? (i := 18) rfl
theorem foX11_115 : hx_fok RX11 (115, 3, 1, 2) := ⟨RX3, TX3, 6, rfl, Nat.le_of_ble_eq_true rfl, rfl, mw_214, inX3, tyX3, tyX3_ok, nmX3, ⟨fun h => absurd h (by decide), fun h => absurd h (by decide)⟩⟩
theorem fmX11_121 : (121, 3, 2, 2) ∈ TbX11.1 := List.mem_of_getElem? (i := 19) rfl
theorem foX11_121 : hx_fok RX11 (121, 3, 2, 2) := ⟨RX3, TX3, 6, rfl, Nat.le_of_ble_eq_true rfl, rfl, mw_217, inX3, tyX3, tyX3_ok, nmX3, ⟨fun h => absurd h (by decide), fun h => absurd h (by decide)⟩⟩
theorem fmX11_128 : (128, 4, 3, 2) ∈ TbX11.1 := List.mem_of_getElem? (i := 20) rfl
theorem foX11_128 : hx_fok RX11 (128, 4, 3, 2) := ⟨RX4, TX4, 7, rfl, Nat.le_of_ble_eq_true rfl, rfl, mw_175, inX4, tyX4, tyX4_ok, nmX4, ⟨fun h => absurd h (by decide), fun h => absurd h (by decide)⟩⟩
theorem fmX11_134 : (134, 3, 4, 2) ∈ TbX11.1 := List.mem_of_getElem? (i := 21) rfl
theorem foX11_134 : hx_fok RX11 (134, 3, 4, 2) := ⟨RX3, TX3, 6, rfl, Nat.le_of_ble_eq_true rfl, rfl, mw_222, inX3, tyX3, tyX3_ok, nmX3, ⟨fun h => absurd h (by decide), fun h => absurd h (by decide)⟩⟩
theorem fmX11_137 : (137, 3, 5, 2) ∈ TbX11.1 := List.mem_of_getElem? (i := 22) rfl
theorem foX11_137 : hx_fok RX11 (137, 3, 5, 2) := ⟨RX3, TX3, 6, rfl, Nat.le_of_ble_eq_true rfl, rfl, mw_226, inX3, tyX3, tyX3_ok, nmX3, ⟨fun h => absurd h (by decide), fun h => absurd h (by decide)⟩⟩
theorem fmX11_140 : (140, 10, 3, 0) ∈ TbX11.1 := List.mem_of_getElem? (i := 23) rfl
theorem foX11_140 : hx_fok RX11 (140, 10, 3, 0) := ⟨RX10, TX10, 12, rfl, Nat.le_of_ble_eq_true rfl, rfl, mw_283, inX10, tyX10, tyX10_ok, nmX10, ⟨fun _ => ⟨by decide +kernel, by decide +kernel⟩, fun h => absurd h (by decide)⟩⟩
theorem fmX11_143 : (143, 10, 4, 0) ∈ TbX11.1 := List.mem_of_getElem? (i := 24) rfl
theorem foX11_143 : hx_fok RX11 (143, 10, 4, 0) := ⟨RX10, TX10, 12, rfl, Nat.le_of_ble_eq_true rfl, rfl, mw_285, inX10, tyX10, tyX10_ok, nmX10, ⟨fun _ => ⟨by decide +kernel, by decide +kernel⟩, fun h => absurd h (by decide)⟩⟩
theorem fmX11_146 : (146, 10, 5, 0) ∈ TbX11.1 := List.mem_of_getElem? (i := 25) rfl
theorem foX11_146 : hx_fok RX11 (146, 10, 5, 0) := ⟨RX10, TX10, 12, rfl, Nat.le_of_ble_eq_true rfl, rfl, mw_287, inX10, tyX10, tyX10_ok, nmX10, ⟨fun _ => ⟨by decide +kernel, by decide +kernel⟩, fun h => absurd h (by decide)⟩⟩
theorem fmX11_150 : (150, 10, 6, 1) ∈ TbX11.1 := List.mem_of_getElem? (i := 26) rfl
theorem foX11_150 : hx_fok RX11 (150, 10, 6, 1) := ⟨RX10, TX10, 12, rfl, Nat.le_of_ble_eq_true rfl, rfl, mw_290, inX10, tyX10, tyX10_ok, nmX10, ⟨fun h => absurd h (by decide), fun _ => ⟨by decide +kernel, by decide +kernel⟩⟩⟩
theorem fmX11_187 : (187, 4, 1, 2) ∈ TbX11.1 := List.mem_of_getElem? (i := 27) rfl
theorem foX11_187 : hx_fok RX11 (187, 4, 1, 2) := ⟨RX4, TX4, 7, rfl, Nat.le_of_ble_eq_true rfl, rfl, mw_167, inX4, tyX4, tyX4_ok, nmX4, ⟨fun h => absurd h (by decide), fun h => absurd h (by decide)⟩⟩
theorem fmX11_190 : (190, 4, 2, 2) ∈ TbX11.1 := List.mem_of_getElem? (i := 28) rfl
theorem foX11_190 : hx_fok RX11 (190, 4, 2, 2) := ⟨RX4, TX4, 7, rfl, Nat.le_of_ble_eq_true rfl, rfl, mw_172, inX4, tyX4, tyX4_ok, nmX4, ⟨fun h => absurd h (by decide), fun h => absurd h (by decide)⟩⟩
theorem fmX11_193 : (193, 4, 4, 2) ∈ TbX11.1 := List.mem_of_getElem? (i := 29) rfl
theorem foX11_193 : hx_fok RX11 (193, 4, 4, 2) := ⟨RX4, TX4, 7, rfl, Nat.le_of_ble_eq_true rfl, rfl, mw_178, inX4, tyX4, tyX4_ok, nmX4, ⟨fun h => absurd h (by decide), fun h => absurd h (by decide)⟩⟩
theorem fmX11_196 : (196, 4, 5, 2) ∈ TbX11.1 := List.mem_of_getElem? (i := 30) rfl
theorem foX11_196 : hx_fok RX11 (196, 4, 5, 2) := ⟨RX4, TX4, 7, rfl, Nat.le_of_ble_eq_true rfl, rfl, mw_181, inX4, tyX4, tyX4_ok, nmX4, ⟨fun h => absurd h (by decide), fun h => absurd h (by decide)⟩⟩
theorem fmX11_203 : (203, 4, 6, 2) ∈ TbX11.1 := List.mem_of_getElem? (i := 31) rfl
theorem foX11_203 : hx_fok RX11 (203, 4, 6, 2) := ⟨RX4, TX4, 7, rfl, Nat.le_of_ble_eq_true rfl, rfl, mw_183, inX4, tyX4, tyX4_ok, nmX4, ⟨fun h => absurd h (by decide), fun h => absurd h (by decide)⟩⟩
theorem fmX11_254 : (254, 8, 3, 0) ∈ TbX11.1 := List.mem_of_getElem? (i := 32) rfl
theorem foX11_254 : hx_fok RX11 (254, 8, 3, 0) := ⟨RX8, TX8, 4, rfl, Nat.le_of_ble_eq_true rfl, rfl, mw_365, inX8, tyX8, tyX8_ok, nmX8, ⟨fun _ => ⟨by decide +kernel, by decide +kernel⟩, fun h => absurd h (by decide)⟩⟩
theorem fmX11_257 : (257, 8, 2, 0) ∈ TbX11.1 := List.mem_of_getElem? (i := 33) rfl
theorem foX11_257 : hx_fok RX11 (257, 8, 2, 0) := ⟨RX8, TX8, 4, rfl, Nat.le_of_ble_eq_true rfl, rfl, mw_363, inX8, tyX8, tyX8_ok, nmX8, ⟨fun _ => ⟨by decide +kernel, by decide +kernel⟩, fun h => absurd h (by decide)⟩⟩
theorem fmX11_275 : (275, 10, 8, 0) ∈ TbX11.1 := List.mem_of_getElem? (i := 34) rfl
theorem foX11_275 : hx_fok RX11 (275, 10, 8, 0) := ⟨RX10, TX10, 12, rfl, Nat.le_of_ble_eq_true rfl, rfl, mw_297, inX10, tyX10, tyX10_ok, nmX10, ⟨fun _ => ⟨by decide +kernel, by decide +kernel⟩, fun h => absurd h (by decide)⟩⟩
theorem fmX11_278 : (278, 10, 9, 2) ∈ TbX11.1 := List.mem_of_getElem? (i := 35) rfl
theorem foX11_278 : hx_fok RX11 (278, 10, 9, 2) := ⟨RX10, TX10, 12, rfl, Nat.le_of_ble_eq_true rfl, rfl, mw_299, inX10, tyX10, tyX10_ok, nmX10, ⟨fun h => absurd h (by decide), fun h => absurd h (by decide)⟩⟩
theorem fmX11_281 : (281, 10, 10, 2) ∈ TbX11.1 := List.mem_of_getElem? (i := 36) rfl
theorem foX11_281 : hx_fok RX11 (281, 10, 10, 2) := ⟨RX10, TX10, 12, rfl, Nat.le_of_ble_eq_true rfl, rfl, mw_301, inX10, tyX10, tyX10_ok, nmX10, ⟨fun h => absurd h (by decide), fun h => absurd h (by decide)⟩⟩
theorem fmX11_284 : (284, 10, 11, 2) ∈ TbX11.1 := List.mem_of_getElem? (i := 37) rfl
theorem foX11_284 : hx_fok RX11 (284, 10, 11, 2) := ⟨RX10, TX10, 12, rfl, Nat.le_of_ble_eq_true rfl, rfl, mw_303, inX10, tyX10, tyX10_ok, nmX10, ⟨fun h => absurd h (by decide), fun h => absurd h (by decide)⟩⟩
theorem fmX11_302 : (302, 7, 5, 0) ∈ TbX11.1 := List.mem_of_getElem? (i := 38) rfl
theorem foX11_302 : hx_fok RX11 (302, 7, 5, 0) := ⟨RX7, TX7, 6, rfl, Nat.le_of_ble_eq_true rfl, rfl, mw_412, inX7, tyX7, tyX7_ok, nmX7, ⟨fun _ => ⟨by decide +kernel, by decide +kernel⟩, fun h => absurd h (by decide)⟩⟩
theorem fmX11_305 : (305, 7, 4, 2) ∈ TbX11.1 := List.mem_of_getElem? (i := 39) rfl
theorem foX11_305 : hx_fok RX11 (305, 7, 4, 2) := ⟨RX7, TX7, 6, rfl, Nat.le_of_ble_eq_true rfl, rfl, mw_410, inX7, tyX7, tyX7_ok, nmX7, ⟨fun h => absurd h (by decide), fun h => absurd h (by decide)⟩⟩
theorem fmX11_317 : (317, 4, 0, 0) ∈ TbX11.1 := List.mem_of_getElem? (i := 40) rfl
theorem foX11_317 : hx_fok RX11 (317, 4, 0, 0) := ⟨RX4, TX4, 7, rfl, Nat.le_of_ble_eq_true rfl, rfl, mw_164, inX4, tyX4, tyX4_ok, nmX4, ⟨fun _ => ⟨by decide +kernel, by decide +kernel⟩, fun h => absurd h (by decide)⟩⟩
theorem fmX11_320 : (320, 1, 1, 3) ∈ TbX11.1 := List.mem_of_getElem? (i := 41) rfl
theorem foX11_320 : hx_fok RX11 (320, 1, 1, 3) := ⟨RX1, TX1, 2, rfl, Nat.le_of_ble_eq_true rfl, rfl, mw_623, inX1, tyX1, tyX1_ok, nmX1, ⟨fun h => absurd h (by decide), fun h => absurd h (by decide)⟩⟩
theorem fmX11_323 : (323, 5, 1, 0) ∈ TbX11.1 := List.mem_of_getElem? (i := 42) rfl
theorem foX11_323 : hx_fok RX11 (323, 5, 1, 0) := ⟨RX5, TX5, 5, rfl, Nat.le_of_ble_eq_true rfl, rfl, mw_384, inX5, tyX5, tyX5_ok, nmX5, ⟨fun _ => ⟨by decide +kernel, by decide +kernel⟩, fun h => absurd h (by decide)⟩⟩
theorem ciX11_149 : (149, (999999999 : Int32)) ∈ TbX11.2.1 := List.mem_of_getElem? (i := 0) rfl
theorem ciX11_241 : (241, (-1 : Int64)) ∈ TbX11.2.2.1 := List.mem_of_getElem? (i := 0) rfl
theorem mmX11_287 : (287, 2) ∈ TbX11.2.2.2 := List.mem_of_getElem? (i := 0) rfl
theorem spX11_287 : hx_mm RX11 (287, 2) := ⟨mw_1025, mw_771, mw_89, mw_772⟩
theorem tokX11 : hx_tok RX11 TbX11 := ⟨(List.forall_mem_cons.mpr ⟨foX11_9, (List.forall_mem_cons.mpr ⟨foX11_13, (List.forall_mem_cons.mpr ⟨foX11_22, (List.forall_mem_cons.mpr ⟨foX11_28, (List.forall_mem_cons.mpr ⟨foX11_32, (List.forall_mem_cons.mpr ⟨foX11_35, (List.forall_mem_cons.mpr ⟨foX11_38, (List.forall_mem_cons.mpr ⟨foX11_46, (List.forall_mem_cons.mpr ⟨foX11_55, (List.forall_mem_cons.mpr ⟨foX11_62, (List.forall_mem_cons.mpr ⟨foX11_69, (List.forall_mem_cons.mpr ⟨foX11_76, (List.forall_mem_cons.mpr ⟨foX11_83, (List.forall_mem_cons.mpr ⟨foX11_87, (List.forall_mem_cons.mpr ⟨foX11_91, (List.forall_mem_cons.mpr ⟨foX11_98, (List.forall_mem_cons.mpr ⟨foX11_101, (List.forall_mem_cons.mpr ⟨foX11_111, (List.forall_mem_cons.mpr ⟨foX11_115, (List.forall_mem_cons.mpr ⟨foX11_121, (List.forall_mem_cons.mpr ⟨foX11_128, (List.forall_mem_cons.mpr ⟨foX11_134, (List.forall_mem_cons.mpr ⟨foX11_137, (List.forall_mem_cons.mpr ⟨foX11_140, (List.forall_mem_cons.mpr ⟨foX11_143, (List.forall_mem_cons.mpr ⟨foX11_146, (List.forall_mem_cons.mpr ⟨foX11_150, (List.forall_mem_cons.mpr ⟨foX11_187, (List.forall_mem_cons.mpr ⟨foX11_190, (List.forall_mem_cons.mpr ⟨foX11_193, (List.forall_mem_cons.mpr ⟨foX11_196, (List.forall_mem_cons.mpr ⟨foX11_203, (List.forall_mem_cons.mpr ⟨foX11_254, (List.forall_mem_cons.mpr ⟨foX11_257, (List.forall_mem_cons.mpr ⟨foX11_275, (List.forall_mem_cons.mpr ⟨foX11_278, (List.forall_mem_cons.mpr ⟨foX11_281, (List.forall_mem_cons.mpr ⟨foX11_284, (List.forall_mem_cons.mpr ⟨foX11_302, (List.forall_mem_cons.mpr ⟨foX11_305, (List.forall_mem_cons.mpr ⟨foX11_317, (List.forall_mem_cons.mpr ⟨foX11_320, (List.forall_mem_cons.mpr ⟨foX11_323, (fun _ h => absurd h List.not_mem_nil)⟩)⟩)⟩)⟩)⟩)⟩)⟩)⟩)⟩)⟩)⟩)⟩)⟩)⟩)⟩)⟩)⟩)⟩)⟩)⟩)⟩)⟩)⟩)⟩)⟩)⟩)⟩)⟩)⟩)⟩)⟩)⟩)⟩)⟩)⟩)⟩)⟩)⟩)⟩)⟩)⟩)⟩)⟩), (List.forall_mem_cons.mpr ⟨mw_512, (fun _ h => absurd h List.not_mem_nil)⟩), (List.forall_mem_cons.mpr ⟨mw_940, (fun _ h => absurd h List.not_mem_nil)⟩), (List.forall_mem_cons.mpr ⟨spX11_287, (fun _ h => absurd h List.not_mem_nil)⟩)⟩
def TbX12 : hx_T := ([(7, 12, 6, 1), (13, 12, 7, 2), (17, 12, 8, 2), (20, 12, 9, 2), (23, 12, 10, 2), (26, 12, 11, 2), (29, 12, 12, 2), (32, 12, 13, 2), (35, 12, 14, 2), (38, 12, 15, 2), (41, 12, 16, 2), (44, 12, 17, 2), (47, 12, 18, 2), (50, 12, 19, 2), (53, 12, 21, 0), (57, 12, 27, 0), (60, 12, 28, 2), (63, 12, 29, 2), (66, 12, 30, 2), (69, 12, 31, 2), (72, 12, 32, 2), (75, 12, 33, 2), (78, 12, 34, 2), (81, 12, 35, 2), (84, 12, 36, 2), (87, 12, 37, 2), (90, 12, 38, 2), (94, 12, 39, 2), (98, 12, 40, 2), (101, 12, 43, 2), (104, 12, 44, 2), (107, 12, 46, 2), (110, 12, 50, 2), (113, 12, 51, 2), (117, 12, 54, 2), (120, 12, 56, 2), (123, 12, 57, 2), (126, 12, 58, 2), (129, 12, 60, 2), (132, 12, 61, 2), (135, 12, 62, 2), (138, 12, 63, 2), (141, 12, 64, 2), (145, 12, 67, 2), (148, 12, 68, 2), (151, 12, 69, 2), (154, 12, 0, 0), (161, 12, 1, 0), (164, 12, 2, 0), (171, 12, 3, 0), (174, 12, 4, 0), (177, 12, 5, 0), (181, 12, 23, 0), (188, 12, 25, 0), (191, 12, 24, 0), (197, 12, 41, 0), (204, 12, 42, 0), (235, 12, 22, 0), (238, 12, 26, 0), (293, 12, 20, 0), (325, 12, 45, 0), (371, 12, 47, 1), (377, 12, 48, 0), (380, 12, 49, 0), (415, 12, 52, 0), (418, 12, 53, 0), (428, 12, 55, 0), (434, 12, 59, 0), (447, 12, 66, 0), (450, 12, 65, 0)], [(144, 45000), (180, 999999999), (440, 1000000)], [(207, 418263299685), (209, 422608400247), (211, 418430675813), (213, 6384748), (219, 126879263846254), (221, 119182899770472), (223, 483006772069), (225, 1668245870), (227, 1918987883), (229, 470020941177), (231, 109299962372965), (233, 2003792494), (245, 28530), (258, 6385252), (260, 7237492), (278, 448546567013), (280, 7302244), (282, 29807), (284, 1718775661), (286, 1937006969), (291, 26982), (340, 6364136223846793005), (342, 1442695040888963407), (344, 100), (413, -1)], [(320, 0), (334, 1), (337, 2)])
theorem fmX12_7 : (7, 12, 6, 1) ∈ TbX12.1 := List.mem_of_getElem? (i := 0) rfl
theorem foX12_7 : hx_fok RX12 (7, 12, 6, 1) := ⟨RX12, TX12, 70, rfl, Nat.le_of_ble_eq_true rfl, rfl, mw_1133, inX12, tyX12, tyX12_ok, nmX12, ⟨fun h => absurd h (by decide), fun _ => ⟨by decide +kernel, by decide +kernel⟩⟩⟩
theorem fmX12_13 : (13, 12, 7, 2) ∈ TbX12.1 := List.mem_of_getElem? (i := 1) rfl
theorem foX12_13 : hx_fok RX12 (13, 12, 7, 2) := ⟨RX12, TX12, 70, rfl, Nat.le_of_ble_eq_true rfl, rfl, mw_1134, inX12, tyX12, tyX12_ok, nmX12, ⟨fun h => absurd h (by decide), fun h => absurd h (by decide)⟩⟩
theorem fmX12_17 : (17, 12, 8, 2) ∈ TbX12.1 := List.mem_of_getElem? (i := 2) rfl
theorem foX12_17 : hx_fok RX12 (17, 12, 8, 2) := ⟨RX12, TX12, 70, rfl, Nat.le_of_ble_eq_true rfl, rfl, mw_1135, inX12, tyX12, tyX12_ok, nmX12, ⟨fun h => absurd h (by decide), fun h => absurd h (by decide)⟩⟩
theorem fmX12_20 : (20, 12, 9, 2) ∈ TbX12.1 := List.mem_of_getElem? (i := 3) rfl
theorem foX12_20 : hx_fok RX12 (20, 12, 9, 2) := ⟨RX12, TX12, 70, rfl, Nat.le_of_ble_eq_true rfl, rfl, mw_1136, inX12, tyX12, tyX12_ok, nmX12, ⟨fun h => absurd h (by decide), fun h => absurd h (by decide)⟩⟩
theorem fmX12_23 : (23, 12, 10, 2) ∈ TbX12.1 := List.mem_of_getElem? (i := 4) rfl
theorem foX12_23 : hx_fok RX12 (23, 12, 10, 2) := ⟨RX12, TX12, 70, rfl, Nat.le_of_ble_eq_true rfl, rfl, mw_1137, inX12, tyX12, tyX12_ok, nmX12, ⟨fun h => absurd h (by decide), fun h => absurd h (by decide)⟩⟩
theorem fmX12_26 : (26, 12, 11, 2) ∈ TbX12.1 := List.mem_of_getElem? (i := 5) rfl
theorem foX12_26 : hx_fok RX12 (26, 12, 11, 2) := ⟨RX12, TX12, 70, rfl, Nat.le_of_ble_eq_true rfl, rfl, mw_1138, inX12, tyX12, tyX12_ok, nmX12, ⟨fun h => absurd h (by decide), fun h => absurd h (by decide)⟩⟩
theorem fmX12_29 : (29, 12, 12, 2) ∈ TbX12.1 := List.mem_of_getElem? (i := 6) rfl
theorem foX12_29 : hx_fok RX12 (29, 12, 12, 2) := ⟨RX12, TX12, 70, rfl, Nat.le_of_ble_eq_true rfl, rfl, mw_1139, inX12, tyX12, tyX12_ok, nmX12, ⟨fun h => absurd h (by decide), fun h => absurd h (by decide)⟩⟩
theorem fmX12_32 : (32, 12, 13, 2) ∈ TbX12.1 := List.mem_of_getElem? (i := 7) rfl
theorem foX12_32 : hx_fok RX12 (32, 12, 13, 2) := ⟨RX12, TX12, 70, rfl, Nat.le_of_ble_eq_true rfl, rfl, mw_1140, inX12, tyX12, tyX12_ok, nmX12, ⟨fun h => absurd h (by decide), fun h => absurd h (by decide)⟩⟩
theorem fmX12_35 : (35, 12, 14, 2) ∈ TbX12.1 := List.mem_of_getElem? (i := 8) rfl
theorem foX12_35 : hx_fok RX12 (35, 12, 14, 2) := ⟨RX12, TX12, 70, rfl, Nat.le_of_ble_eq_true rfl, rfl, mw_1141, inX12, tyX12, tyX12_ok, nmX12, ⟨fun h => absurd h (by decide), fun h => absurd h (by decide)⟩⟩
theorem fmX12_38 : (38, 12, 15, 2) ∈ TbX12.1 := List.mem_of_getElem? (i := 9) rfl
theorem foX12_38 : hx_fok RX12 (38, 12, 15, 2) := ⟨RX12, TX12, 70, rfl, Nat.le_of_ble_eq_true rfl, rfl, mw_1142, inX12, tyX12, tyX12_ok, nmX12, ⟨fun h => absurd h (by decide), fun h => absurd h (by decide)⟩⟩
theorem fmX12_41 : (41, 12, 16, 2) ∈ TbX12.1 := List.mem_of_getElem? (i := 10) rfl
theorem foX12_41 : hx_fok RX12 (41, 12, 16, 2) := ⟨RX12, TX12, 70, rfl, Nat.le_of_ble_eq_true rfl, rfl, mw_1143, inX12, tyX12, tyX12_ok, nmX12, ⟨fun h => absurd h (by decide), fun h => absurd h (by decide)⟩⟩
theorem fmX12_44 : (44, 12, 17, 2) ∈ TbX12.1 := List.mem_of_getElem? (i := 11) rfl
theorem foX12_44 : hx_fok RX12 (44, 12, 17, 2) := ⟨RX12, TX12, 70, rfl, Nat.le_of_ble_eq_true rfl, rfl, mw_1144, inX12, tyX12, tyX12_ok, nmX12, ⟨fun h => absurd h (by decide), fun h => absurd h (by decide)⟩⟩
theorem fmX12_47 : (47, 12, 18, 2) ∈ TbX12.1 := List.mem_of_getElem? (i := 12) rfl
theorem foX12_47 : hx_fok RX12 (47, 12, 18, 2) := ⟨RX12, TX12, 70, rfl, Nat.le_of_ble_eq_true rfl, rfl, mw_1145, inX12, tyX12, tyX12_ok, nmX12, ⟨fun h => absurd h (by decide), fun h => absurd h (by decide)⟩⟩
theorem fmX12_50 : (50, 12, 19, 2) ∈ TbX12.1 := List.mem_of_getElem? (i := 13) rfl
theorem foX12_50 : hx_fok RX12 (50, 12, 19, 2) := ⟨RX12, TX12, 70, rfl, Nat.le_of_ble_eq_true rfl, rfl, mw_1146, inX12, tyX12, tyX12_ok, nmX12, ⟨fun h => absurd h (by decide), fun h => absurd h (by decide)⟩⟩
theorem fmX12_53 : (53, 12, 21, 0) ∈ TbX12.1 := List.mem_of_getElem? (i := 14) rfl
theorem foX12_53 : hx_fok RX12 (53, 12, 21, 0) := ⟨RX12, TX12, 70, rfl, Nat.le_of_ble_eq_true rfl, rfl, mw_1148, inX12, tyX12, tyX12_ok, nmX12, ⟨fun _ => ⟨by decide +kernel, by decide +kernel⟩, fun h => absurd h (by decide)⟩⟩
theorem fmX12_57 : (57, 12, 27, 0) ∈ TbX12.1 := List.mem_of_getElem? (i := 15) rfl
theorem foX12_57 : hx_fok RX12 (57, 12, 27, 0) := ⟨RX12, TX12, 70, rfl, Nat.le_of_ble_eq_true rfl, rfl, mw_1154, inX12, tyX12, tyX12_ok, nmX12, ⟨fun _ => ⟨by decide +kernel, by decide +kernel⟩, fun h => absurd h (by decide)⟩⟩
theorem fmX12_60 : (60, 12, 28, 2) ∈ TbX12.1 := List.mem_of_getElem? (i := 16) rfl
theorem foX12_60 : hx_fok RX12 (60, 12, 28, 2) := ⟨RX12, TX12, 70, rfl, Nat.le_of_ble_eq_true rfl, rfl, mw_1155, inX12, tyX12, tyX12_ok, nmX12, ⟨fun h => absurd h (by decide), fun h => absurd h (by decide)⟩⟩
theorem fmX12_63 : (63, 12, 29, 2) ∈ TbX12.1 := List.mem_of_getElem? (i := 17) rfl
theorem foX12_63 : hx_fok RX12 (63, 12, 29, 2) := ⟨RX12, TX12, 70, rfl, Nat.le_of_ble_eq_true rfl, rfl, mw_1156, inX12, tyX12, tyX12_ok, nmX12, ⟨fun h => absurd h (by decide), fun h => absurd h (by decide)⟩⟩
theorem fmX12_66 : (66, 12, 30, 2) ∈ TbX12.1 := List.mem_of_getElem? (i := 18) rfl
theorem foX12_66 : hx_fok RX12 (66, 12, 30, 2) := ⟨RX12, TX12, 70, rfl, Nat.le_of_ble_eq_true rfl, rfl, mw_1157, inX12, tyX12, tyX12_ok, nmX12, ⟨fun h => absurd h (by decide), fun h => absurd h (by decide)⟩⟩
theorem fmX12_69 : (69, 12, 31, 2) ∈ TbX12.1 := List.mem_of_getElem? (i := 19) rfl
theorem foX12_69 : hx_fok RX12 (69, 12, 31, 2) := ⟨RX12, TX12, 70, rfl, Nat.le_of_ble_eq_true rfl, rfl, mw_1158, inX12, tyX12, tyX12_ok, nmX12, ⟨fun h => absurd h (by decide), fun h => absurd h (by decide)⟩⟩
theorem fmX12_72 : (72, 12, 32, 2) ∈ TbX12.1 := List.mem_of_getElem? (i := 20) rfl
theorem foX12_72 : hx_fok RX12 (72, 12, 32, 2) := ⟨RX12, TX12, 70, rfl, Nat.le_of_ble_eq_true rfl, rfl, mw_1159, inX12, tyX12, tyX12_ok, nmX12, ⟨fun h => absurd h (by decide), fun h => absurd h (by decide)⟩⟩
theorem fmX12_75 : (75, 12, 33, 2) ∈ TbX12.1 := List.mem_of_getElem? (i := 21) rfl
theorem foX12_75 : hx_fok RX12 (75, 12, 33, 2) := ⟨RX12, TX12, 70, rfl, Nat.le_of_ble_eq_true rfl, rfl, mw_1160, inX12, tyX12, tyX12_ok, nmX12, ⟨fun h => absurd h (by decide), fun h => absurd h (by decide)⟩⟩
theorem fmX12_78 : (78, 12, 34, 2) ∈ TbX12.1 := List.mem_of_getElem? (i := 22) rfl
theorem foX12_78 : hx_fok RX12 (78, 12, 34, 2) := ⟨RX12, TX12, 70, rfl, Nat.le_of_ble_eq_true rfl, rfl, mw_1161, inX12, tyX12, tyX12_ok, nmX12, ⟨fun h => absurd h (by decide), fun h => absurd h (by decide)⟩⟩
theorem fmX12_81 : (81, 12, 35, 2) ∈ TbX12.1 := List.mem_of_getElem? (i := 23) rfl
theorem foX12_81 : hx_fok RX12 (81, 12, 35, 2) := ⟨RX12, TX12, 70, rfl, Nat.le_of_ble_eq_true rfl, rfl, mw_1162, inX12, tyX12, tyX12_ok, nmX12, ⟨fun h => absurd h (by decide), fun h => absurd h (by decide)⟩⟩
theorem fmX12_84 : (84, 12, 36, 2) ∈ TbX12.1 := List.mem_of_getElem? (i := 24) rfl
theorem foX12_84 : hx_fok RX12 (84, 12, 36, 2) := ⟨RX12, TX12, 70, rfl, Nat.le_of_ble_eq_true rfl, rfl, mw_1163, inX12, tyX12, tyX12_ok, nmX12, ⟨fun h => absurd h (by decide), fun h => absurd h (by decide)⟩⟩
theorem fmX12_87 : (87, 12, 37, 2) ∈ TbX12.1 := List.mem_of_getElem? (i := 25) rfl
theorem foX12_87 : hx_fok RX12 (87, 12, 37, 2) := ⟨RX12, TX12, 70, rfl, Nat.le_of_ble_eq_true rfl, rfl, mw_1164, inX12, tyX12, tyX12_ok, nmX12, ⟨fun h => absurd h (by decide), fun h => absurd h (by decide)⟩⟩
theorem fmX12_90 : (90, 12, 38, 2) ∈ TbX12.1 := List.mem_of_getElem? (i := 26) rfl
theorem foX12_90 : hx_fok RX12 (90, 12, 38, 2) := ⟨RX12, TX12, 70, rfl, Nat.le_of_ble_eq_true rfl, rfl, mw_1165, inX12, tyX12, tyX12_ok, nmX12, ⟨fun h => absurd h (by decide), fun h => absurd h (by decide)⟩⟩
theorem fmX12_94 : (94, 12, 39, 2) ∈ TbX12.1 := List.mem_of_getElem? (i := 27) rfl
theorem foX12_94 : hx_fok RX12 (94, 12, 39, 2) := ⟨RX12, TX12, 70, rfl, Nat.le_of_ble_eq_true rfl, rfl, mw_1166, inX12, tyX12, tyX12_ok, nmX12, ⟨fun h => absurd h (by decide), fun h => absurd h (by decide)⟩⟩
theorem fmX12_98 : (98, 12, 40, 2) ∈ TbX12.1 := List.mem_of_getElem? (i := 28) rfl
theorem foX12_98 : hx_fok RX12 (98, 12, 40, 2) := ⟨RX12, TX12, 70, rfl, Nat.le_of_ble_eq_true rfl, rfl, mw_1167, inX12, tyX12, tyX12_ok, nmX12, ⟨fun h => absurd h (by decide), fun h => absurd h (by decide)⟩⟩
theorem fmX12_101 : (101, 12, 43, 2) ∈ TbX12.1 := List.mem_of_getElem? (i := 29) rfl
theorem foX12_101 : hx_fok RX12 (101, 12, 43, 2) := ⟨RX12, TX12, 70, rfl, Nat.le_of_ble_eq_true rfl, rfl, mw_1170, inX12, tyX12, tyX12_ok, nmX12, ⟨fun h => absurd h (by decide), fun h => absurd h (by decide)⟩⟩
theorem fmX12_104 : (104, 12, 44, 2) ∈ TbX12.1 := List.mem_of_getElem? (i := 30) rfl
theorem foX12_104 : hx_fok RX12 (104, 12, 44, 2) := ⟨RX12, TX12, 70, rfl, Nat.le_of_ble_eq_true rfl, rfl, mw_1171, inX12, tyX12, tyX12_ok, nmX12, ⟨fun h => absurd h (by decide), fun h => absurd h (by decide)⟩⟩
theorem fmX12_107 : (107, 12, 46, 2) ∈ TbX12.1 := List.mem_of_getElem? (i := 31) rfl
theorem foX12_107 : hx_fok RX12 (107, 12, 46, 2) := ⟨RX12, TX12, 70, rfl, Nat.le_of_ble_eq_true rfl, rfl, mw_1173, inX12, tyX12, tyX12_ok, nmX12, ⟨fun h => absurd h (by decide), fun h => absurd h (by decide)⟩⟩
theorem fmX12_110 : (110, 12, 50, 2) ∈ TbX12.1 := List.mem_of_getElem? (i := 32) rfl
theorem foX12_110 : hx_fok RX12 (110, 12, 50, 2) := ⟨RX12, TX12, 70, rfl, Nat.le_of_ble_eq_true rfl, rfl, mw_1177, inX12, tyX12, tyX12_ok, nmX12, ⟨fun h => absurd h (by decide), fun h => absurd h (by decide)⟩⟩
theorem fmX12_113 : (113, 12, 51, 2) ∈ TbX12.1 := List.mem_of_getElem? (i := 33) rfl
theorem foX12_113 : hx_fok RX12 (113, 12, 51, 2) := ⟨RX12, TX12, 70, rfl, Nat.le_of_ble_eq_true rfl, rfl, mw_1178, inX12, tyX12, tyX12_ok, nmX12, ⟨fun h => absurd h (by decide), fun h => absurd h (by decide)⟩⟩
theorem fmX12_117 : (117, 12, 54, 2) ∈ TbX12.1 := List.mem_of_getElem? (i := 34) rfl
theorem foX12_117 : hx_fok RX12 (117, 12, 54, 2) := ⟨RX12, TX12, 70, rfl, Nat.le_of_ble_eq_true rfl, rfl, mw_1181, inX12, tyX12, tyX12_ok, nmX12, ⟨fun h => absurd h (by decide), fun h => absurd h (by decide)⟩⟩
theorem fmX12_120 : (120, 12, 56, 2) ∈ TbX12.1 := List.mem_of_getElem? (i := 35) rfl
theorem foX12_120 : hx_fok RX12 (120, 12, 56, 2) := ⟨RX12, TX12, 70, rfl, Nat.le_of_ble_eq_true rfl, rfl, mw_1183, inX12, tyX12, tyX12_ok, nmX12, ⟨fun h => absurd h (by decide), fun h => absurd h (by decide)⟩⟩
theorem fmX12_123 : (123, 12, 57, 2) ∈ TbX12.1 := List.mem_of_getElem? (i := 36) rfl
theorem foX12_123 : hx_fok RX12 (123, 12, 57, 2) := ⟨RX12, TX12, 70, rfl, Nat.le_of_ble_eq_true rfl, rfl, mw_1184, inX12, tyX12, tyX12_ok, nmX12, ⟨fun h => absurd h (by decide), fun h => absurd h (by decide)⟩⟩
theorem fmX12_126 : (126, 12, 58, 2) ∈ TbX12.1 := List.mem_of_getElem? (i := 37) rfl
theorem foX12_126 : hx_fok RX12 (126, 12, 58, 2) := ⟨RX12, TX12, 70, rfl, Nat.le_of_ble_eq_true rfl, rfl, mw_1185, inX12, tyX12, tyX12_ok, nmX12, ⟨fun h => absurd h (by decide), fun h => absurd h (by decide)⟩⟩
theorem fmX12_129 : (129, 12, 60, 2) ∈ TbX12.1 := List.mem_of_getElem? (i := 38) rfl
theorem foX12_129 : hx_fok RX12 (129, 12, 60, 2) := ⟨RX12, TX12, 70, rfl, Nat.le_of_ble_eq_true rfl, rfl, mw_1187, inX12, tyX12, tyX12_ok, nmX12, ⟨fun h => absurd h (by decide), fun h => absurd h (by decide)⟩⟩
theorem fmX12_132 : (132, 12, 61, 2) ∈ TbX12.1 := List.mem_of_getElem? (i := 39) rfl
theorem foX12_132 : hx_fok RX12 (132, 12, 61, 2) := ⟨RX12, TX12, 70, rfl, Nat.le_of_ble_eq_true rfl, rfl, mw_1188, inX12, tyX12, tyX12_ok, nmX12, ⟨fun h => absurd h (by decide), fun h => absurd h (by decide)⟩⟩
theorem fmX12_135 : (135, 12, 62, 2) ∈ TbX12.1 := List.mem_of_getElem? (i := 40) rfl
theorem foX12_135 : hx_fok RX12 (135, 12, 62, 2) := ⟨RX12, TX12, 70, rfl, Nat.le_of_ble_eq_true rfl, rfl, mw_1189, inX12, tyX12, tyX12_ok, nmX12, ⟨fun h => absurd h (by decide), fun h => absurd h (by decide)⟩⟩
theorem fmX12_138 : (138, 12, 63, 2) ∈ TbX12.1 := List.mem_of_getElem? (i := 41) rfl
theorem foX12_138 : hx_fok RX12 (138, 12, 63, 2) := ⟨RX12, TX12, 70, rfl, Nat.le_of_ble_eq_true rfl, rfl, mw_1190, inX12, tyX12, tyX12_ok, nmX12, ⟨fun h => absurd h (by decide), fun h => absurd h (by decide)⟩⟩
theorem fmX12_141 : (141, 12, 64, 2) ∈ TbX12.1 := List.mem_of_getElem? (i := 42) rfl
theorem foX12_141 : hx_fok RX12 (141, 12, 64, 2) := ⟨RX12, TX12, 70, rfl, Nat.le_of_ble_eq_true rfl, rfl, mw_1191, inX12, tyX12, tyX12_ok, nmX12, ⟨fun h => absurd h (by decide), fun h => absurd h (by decide)⟩⟩
theorem fmX12_145 : (145, 12, 67, 2) ∈ TbX12.1 := List.mem_of_getElem? (i := 43) rfl
theorem foX12_145 : hx_fok RX12 (145, 12, 67, 2) := ⟨RX12, TX12, 70, rfl, Nat.le_of_ble_eq_true rfl, rfl, mw_1194, inX12, tyX12, tyX12_ok, nmX12, ⟨fun h => absurd h (by decide), fun h => absurd h (by decide)⟩⟩
theorem fmX12_148 : (148, 12, 68, 2) ∈ TbX12.1 := List.mem_of_getElem? (i := 44) rfl
theorem foX12_148 : hx_fok RX12 (148, 12, 68, 2) := ⟨RX12, TX12, 70, rfl, Nat.le_of_ble_eq_true rfl, rfl, mw_1195, inX12, tyX12, tyX12_ok, nmX12, ⟨fun h => absurd h (by decide), fun h => absurd h (by decide)⟩⟩
theorem fmX12_151 : (151, 12, 69, 2) ∈ TbX12.1 := List.mem_of_getElem? (i := 45) rfl
theorem foX12_151 : hx_fok RX12 (151, 12, 69, 2) := ⟨RX12, TX12, 70, rfl, Nat.le_of_ble_eq_true rfl, rfl, mw_1196, inX12, tyX12, tyX12_ok, nmX12, ⟨fun h => absurd h (by decide), fun h => absurd h (by decide)⟩⟩
theorem fmX12_154 : (154, 12, 0, 0) ∈ TbX12.1 := List.mem_of_getElem? (i := 46) rfl
theorem foX12_154 : hx_fok RX12 (154, 12, 0, 0) := ⟨RX12, TX12, 70, rfl, Nat.le_of_ble_eq_true rfl, rfl, mw_1127, inX12, tyX12, tyX12_ok, nmX12, ⟨fun _ => ⟨by decide +kernel, by decide +kernel⟩, fun h => absurd h (by decide)⟩⟩
theorem fmX12_161 : (161, 12, 1, 0) ∈ TbX12.1 := List.mem_of_getElem? (i := 47) rfl
theorem foX12_161 : hx_fok RX12 (161, 12, 1, 0) := ⟨RX12, TX12, 70, rfl, Nat.le_of_ble_eq_true rfl, rfl, mw_1128, inX12, tyX12, tyX12_ok, nmX12, ⟨fun _ => ⟨by decide +kernel, by decide +kernel⟩, fun h => absurd h (by decide)⟩⟩
theorem fmX12_164 : (164, 12, 2, 0) ∈ TbX12.1 := List.mem_of_getElem? (i := 48) rfl
theorem foX12_164 : hx_fok RX12 (164, 12, 2, 0) := ⟨RX12, TX12, 70, rfl, Nat.le_of_ble_eq_true rfl, rfl, mw_1129, inX12, tyX12, tyX12_ok, nmX12, ⟨fun _ => ⟨by decide +kernel, by decide +kernel⟩, fun h => absurd h (by decide)⟩⟩
theorem fmX12_171 : (171, 12, 3, 0) ∈ TbX12.1 := List.mem_of_getElem? (i := 49) rfl
theorem foX12_171 : hx_fok RX12 (171, 12, 3, 0) := ⟨RX12, TX12, 70, rfl, Nat.le_of_ble_eq_true rfl, rfl, mw_1130, inX12, tyX12, tyX12_ok, nmX12, ⟨fun _ => ⟨by decide +kernel, by decide +kernel⟩, fun h => absurd h (by decide)⟩⟩
theorem fmX12_174 : (174, 12, 4, 0) ∈ TbX12.1 := List.mem_of_getElem? (i := 50) rfl
theorem foX12_174 : hx_fok RX12 (174, 12, 4, 0) := ⟨RX12, TX12, 70, rfl, Nat.le_of_ble_eq_true rfl, rfl, mw_1131, inX12, tyX12, tyX12_ok, nmX12, ⟨fun _ => ⟨by decide +kernel, by decide +kernel⟩, fun h => absurd h (by decide)⟩⟩
theorem fmX12_177 : (177, 12, 5, 0) ∈ TbX12.1 := List.mem_of_getElem? (i := 51) rfl
theorem foX12_177 : hx_fok RX12 (177, 12, 5, 0) := ⟨RX12, TX12, 70, rfl, Nat.le_of_ble_eq_true rfl, rfl, mw_1132, inX12, tyX12, tyX12_ok, nmX12, ⟨fun _ => ⟨by decide +kernel, by decide +kernel⟩, fun h => absurd h (by decide)⟩⟩
theorem fmX12_181 : (181, 12, 23, 0) ∈ TbX12.1 := List.mem_of_getElem? (i := 52) rfl
theorem foX12_181 : hx_fok RX12 (181, 12, 23, 0) := ⟨RX12, TX12, 70, rfl, Nat.le_of_ble_eq_true rfl, rfl, mw_1150, inX12, tyX12, tyX12_ok, nmX12, ⟨fun _ => ⟨by decide +kernel, by decide +kernel⟩, fun h => absurd h (by decide)⟩⟩
theorem fmX12_188 : (188, 12, 25, 0) ∈ TbX12.1 := List.mem_of_getElem? (i := 53) rfl
theorem foX12_188 : hx_fok RX12 (188, 12, 25, 0) := ⟨RX12, TX12, 70, rfl, Nat.le_of_ble_eq_true rfl, rfl, mw_1152, inX12, tyX12, tyX12_ok, nmX12, ⟨fun _ => ⟨by decide +kernel, by decide +kernel⟩, fun h => absurd h (by decide)⟩⟩
theorem fmX12_191 : (191, 12, 24, 0) ∈ TbX12.1 := List.mem_of_getElem? (i := 54) rfl
theorem foX12_191 : hx_fok RX12 (191, 12, 24, 0) := ⟨RX12, TX12, 70, rfl, Nat.le_of_ble_eq_true rfl, rfl, mw_1151, inX12, tyX12, tyX12_ok, nmX12, ⟨fun _ => ⟨by decide +kernel, by decide +kernel⟩, fun h => absurd h (by decide)⟩⟩
theorem fmX12_197 : (197, 12, 41, 0) ∈ TbX12.1 := List.mem_of_getElem? (i := 55) rfl
theorem foX12_197 : hx_fok RX12 (197, 12, 41, 0) := ⟨RX12, TX12, 70, rfl, Nat.le_of_ble_eq_true rfl, rfl, mw_1168, inX12, tyX12, tyX12_ok, nmX12, ⟨fun _ => ⟨by decide +kernel, by decide +kernel⟩, fun h => absurd h (by decide)⟩⟩
theorem fmX12_204 : (204, 12, 42, 0) ∈ TbX12.1 := List.mem_of_getElem? (i := 56) rfl
theorem foX12_204 : hx_fok RX12 (204, 12, 42, 0) := ⟨RX12, TX12, 70, rfl, Nat.le_of_ble_eq_true rfl, rfl, mw_1169, inX12, tyX12, tyX12_ok, nmX12, ⟨fun _ => ⟨by decide +kernel, by decide +kernel⟩, fun h => absurd h (by decide)⟩⟩
theorem fmX12_235 : (235, 12, 22, 0) ∈ TbX12.1 := List.mem_of_getElem? (i := 57) rfl
theorem foX12_235 : hx_fok RX12 (235, 12, 22, 0) := ⟨RX12, TX12, 70, rfl, Nat.le_of_ble_eq_true rfl, rfl, mw_1149, inX12, tyX12, tyX12_ok, nmX12, ⟨fun _ => ⟨by decide +kernel, by decide +kernel⟩, fun h => absurd h (by decide)⟩⟩
theorem fmX12_238 : (238, 12, 26, 0) ∈ TbX12.1 := List.mem_of_getElem? (i := 58) rfl
theorem foX12_238 : hx_fok RX12 (238, 12, 26, 0) := ⟨RX12, TX12, 70, rfl, Nat.le_of_ble_eq_true rfl, rfl, mw_1153, inX12, tyX12, tyX12_ok, nmX12, ⟨fun _ => ⟨by decide +kernel, by decide +kernel⟩, fun h => absurd h (by decide)⟩⟩
theorem fmX12_293 : (293, 12, 20, 0) ∈ TbX12.1 := List.mem_of_getElem? (i := 59) rfl
theorem foX12_293 : hx_fok RX12 (293, 12, 20, 0) := ⟨RX12, TX12, 70, rfl, Nat.le_of_ble_eq_true rfl, rfl, mw_1147, inX12, tyX12, tyX12_ok, nmX12, ⟨fun _ => ⟨by decide +kernel, by decide +kernel⟩, fun h => absurd h (by decide)⟩⟩
theorem fmX12_325 : (325, 12, 45, 0) ∈ TbX12.1 := List.mem_of_getElem? (i := 60) rfl
theorem foX12_325 : hx_fok RX12 (325, 12, 45, 0) := ⟨RX12, TX12, 70, rfl, Nat.le_of_ble_eq_true rfl, rfl, mw_1172, inX12, tyX12, tyX12_ok, nmX12, ⟨fun _ => ⟨by decide +kernel, by decide +kernel⟩, fun h => absurd h (by decide)⟩⟩
theorem fmX12_371 : (371, 12, 47, 1) ∈ TbX12.1 := List.mem_of_getElem? (i := 61) rfl
theorem foX12_371 : hx_fok RX12 (371, 12, 47, 1) := ⟨RX12, TX12, 70, rfl, Nat.le_of_ble_eq_true rfl, rfl, mw_1174, inX12, tyX12, tyX12_ok, nmX12, ⟨fun h => absurd h (by decide), fun _ => ⟨by decide +kernel, by decide +kernel⟩⟩⟩
theorem fmX12_377 : (377, 12, 48, 0) ∈ TbX12.1 := List.mem_of_getElem? (i := 62) rfl
theorem foX12_377 : hx_fok RX12 (377, 12, 48, 0) := ⟨RX12, TX12, 70, rfl, Nat.le_of_ble_eq_true rfl, rfl, mw_1175, inX12, tyX12, tyX12_ok, nmX12, ⟨fun _ => ⟨by decide +kernel, by decide +kernel⟩, fun h => absurd h (by decide)⟩⟩
theorem fmX12_380 : (380, 12, 49, 0) ∈ TbX12.1 := List.mem_of_getElem? (i := 63) rfl
theorem foX12_380 : hx_fok RX12 (380, 12, 49, 0) := ⟨RX12, TX12, 70, rfl, Nat.le_of_ble_eq_true rfl, rfl, mw_1176, inX12, tyX12, tyX12_ok, nmX12, ⟨fun _ => ⟨by decide +kernel, by decide +kernel⟩, fun h => absurd h (by decide)⟩⟩
theorem fmX12_415 : (415, 12, 52, 0) ∈ TbX12.1 := List.mem_of_getElem? (i := 64) rfl
theorem foX12_415 : hx_fok RX12 (415, 12, 52, 0) := ⟨RX12, TX12, 70, rfl, Nat.le_of_ble_eq_true rfl, rfl, mw_1179, inX12, tyX12, tyX12_ok, nmX12, ⟨fun _ => ⟨by decide +kernel, by decide +kernel⟩, fun h => absurd h (by decide)⟩⟩
theorem fmX12_418 : (418, 12, 53, 0) ∈ TbX12.1 := List.mem_of_getElem? (i := 65) rfl
theorem foX12_418 : hx_fok RX12 (418, 12, 53, 0) := ⟨RX12, TX12, 70, rfl, Nat.le_of_ble_eq_true rfl, rfl, mw_1180, inX12, tyX12, tyX12_ok, nmX12, ⟨fun _ => ⟨by decide +kernel, by decide +kernel⟩, fun h => absurd h (by decide)⟩⟩
theorem fmX12_428 : (428, 12, 55, 0) ∈ TbX12.1 := List.mem_of_getElem? (i := 66) rfl
theorem foX12_428 : hx_fok RX12 (428, 12, 55, 0) := ⟨RX12, TX12, 70, rfl, Nat.le_of_ble_eq_true rfl, rfl, mw_1182, inX12, tyX12, tyX12_ok, nmX12, ⟨fun _ => ⟨by decide +kernel, by decide +kernel⟩, fun h => absurd h (by decide)⟩⟩
theorem fmX12_434 : (434, 12, 59, 0) ∈ TbX12.1 := List.mem_of_getElem? (i := 67) rfl
theorem foX12_434 : hx_fok RX12 (434, 12, 59, 0) := ⟨RX12, TX12, 70, rfl, Nat.le_of_ble_eq_true rfl, rfl, mw_1186, inX12, tyX12, tyX12_ok, nmX12, ⟨fun _ => ⟨by decide +kernel, by decide +kernel⟩, fun h => absurd h (by decide)⟩⟩
theorem fmX12_447 : (447, 12, 66, 0) ∈ TbX12.1 := List.mem_of_getElem? (i := 68) rfl
theorem foX12_447 : hx_fok RX12 (447, 12, 66, 0) := ⟨RX12, TX12, 70, rfl, Nat.le_of_ble_eq_true rfl, rfl, mw_1193, inX12, tyX12, tyX12_ok, nmX12, ⟨fun _ => ⟨by decide +kernel, by decide +kernel⟩, fun h => absurd h (by decide)⟩⟩
theorem fmX12_450 : (450, 12, 65, 0) ∈ TbX12.1 := List.mem_of_getElem? (i := 69) rfl
theorem foX12_450 : hx_fok RX12 (450, 12, 65, 0) := ⟨RX12, TX12, 70, rfl, Nat.le_of_ble_eq_true rfl, rfl, mw_1192, inX12, tyX12, tyX12_ok, nmX12, ⟨fun _ => ⟨by decide +kernel, by decide +kernel⟩, fun h => absurd h (by decide)⟩⟩
theorem ciX12_144 : (144, (45000 : Int32)) ∈ TbX12.2.1 := List.mem_of_getElem? (i := 0) rfl
theorem ciX12_180 : (180, (999999999 : Int32)) ∈ TbX12.2.1 := List.mem_of_getElem? (i := 1) rfl
theorem ciX12_440 : (440, (1000000 : Int32)) ∈ TbX12.2.1 := List.mem_of_getElem? (i := 2) rfl
theorem ciX12_207 : (207, (418263299685 : Int64)) ∈ TbX12.2.2.1 := List.mem_of_getElem? (i := 0) rfl
theorem ciX12_209 : (209, (422608400247 : Int64)) ∈ TbX12.2.2.1 := List.mem_of_getElem? (i := 1) rfl
theorem ciX12_211 : (211, (418430675813 : Int64)) ∈ TbX12.2.2.1 := List.mem_of_getElem? (i := 2) rfl
theorem ciX12_213 : (213, (6384748 : Int64)) ∈ TbX12.2.2.1 := List.mem_of_getElem? (i := 3) rfl
theorem ciX12_219 : (219, (126879263846254 : Int64)) ∈ TbX12.2.2.1 := List.mem_of_getElem? (i := 4) rfl
theorem ciX12_221 : (221, (119182899770472 : Int64)) ∈ TbX12.2.2.1 := List.mem_of_getElem? (i := 5) rfl
theorem ciX12_223 : (223, (483006772069 : Int64)) ∈ TbX12.2.2.1 := List.mem_of_getElem? (i := 6) rfl
theorem ciX12_225 : (225, (1668245870 : Int64)) ∈ TbX12.2.2.1 := List.mem_of_getElem? (i := 7) rfl
theorem ciX12_227 : (227, (1918987883 : Int64)) ∈ TbX12.2.2.1 := List.mem_of_getElem? (i := 8) rfl
theorem ciX12_229 : (229, (470020941177 : Int64)) ∈ TbX12.2.2.1 := List.mem_of_getElem? (i := 9) rfl
theorem ciX12_231 : (231, (109299962372965 : Int64)) ∈ TbX12.2.2.1 := List.mem_of_getElem? (i := 10) rfl
theorem ciX12_233 : (233, (2003792494 : Int64)) ∈ TbX12.2.2.1 := List.mem_of_getElem? (i := 11) rfl
theorem ciX12_245 : (245, (28530 : Int64)) ∈ TbX12.2.2.1 := List.mem_of_getElem? (i := 12) rfl
theorem ciX12_258 : (258, (6385252 : Int64)) ∈ TbX12.2.2.1 := List.mem_of_getElem? (i := 13) rfl
theorem ciX12_260 : (260, (7237492 : Int64)) ∈ TbX12.2.2.1 := List.mem_of_getElem? (i := 14) rfl
theorem ciX12_278 : (278, (448546567013 : Int64)) ∈ TbX12.2.2.1 := List.mem_of_getElem? (i := 15) rfl
theorem ciX12_280 : (280, (7302244 : Int64)) ∈ TbX12.2.2.1 := List.mem_of_getElem? (i := 16) rfl
theorem ciX12_282 : (282, (29807 : Int64)) ∈ TbX12.2.2.1 := List.mem_of_getElem? (i := 17) rfl
theorem ciX12_284 : (284, (1718775661 : Int64)) ∈ TbX12.2.2.1 := List.mem_of_getElem? (i := 18) rfl
theorem ciX12_286 : (286, (1937006969 : Int64)) ∈ TbX12.2.2.1 := List.mem_of_getElem? (i := 19) rfl
theorem ciX12_291 : (291, (26982 : Int64)) ∈ TbX12.2.2.1 := List.mem_of_getElem? (i := 20) rfl
theorem ciX12_340 : (340, (6364136223846793005 : Int64)) ∈ TbX12.2.2.1 := List.mem_of_getElem? (i := 21) rfl
theorem ciX12_342 : (342, (1442695040888963407 : Int64)) ∈ TbX12.2.2.1 := List.mem_of_getElem? (i := 22) rfl
theorem ciX12_344 : (344, (100 : Int64)) ∈ TbX12.2.2.1 := List.mem_of_getElem? (i := 23) rfl
theorem ciX12_413 : (413, (-1 : Int64)) ∈ TbX12.2.2.1 := List.mem_of_getElem? (i := 24) rfl
theorem mmX12_320 : (320, 0) ∈ TbX12.2.2.2 := List.mem_of_getElem? (i := 0) rfl
theorem mmX12_334 : (334, 1) ∈ TbX12.2.2.2 := List.mem_of_getElem? (i := 1) rfl
theorem mmX12_337 : (337, 2) ∈ TbX12.2.2.2 := List.mem_of_getElem? (i := 2) rfl
theorem spX12_320 : hx_mm RX12 (320, 0) := ⟨mw_1505, mw_206, mw_89, mw_207⟩
theorem spX12_334 : hx_mm RX12 (334, 1) := ⟨mw_1485, mw_610, mw_89, mw_611⟩
theorem spX12_337 : hx_mm RX12 (337, 2) := ⟨mw_1522, mw_771, mw_89, mw_772⟩
theorem tokX12 : hx_tok RX12 TbX12 := ⟨(List.forall_mem_cons.mpr ⟨foX12_7, (List.forall_mem_cons.mpr ⟨foX12_13, (List.forall_mem_cons.mpr ⟨foX12_17, (List.forall_mem_cons.mpr ⟨foX12_20, (List.forall_mem_cons.mpr ⟨foX12_23, (List.forall_mem_cons.mpr ⟨foX12_26, (List.forall_mem_cons.mpr ⟨foX12_29, (List.forall_mem_cons.mpr ⟨foX12_32, (List.forall_mem_cons.mpr ⟨foX12_35, (List.forall_mem_cons.mpr ⟨foX12_38, (List.forall_mem_cons.mpr ⟨foX12_41, (List.forall_mem_cons.mpr ⟨foX12_44, (List.forall_mem_cons.mpr ⟨foX12_47, (List.forall_mem_cons.mpr ⟨foX12_50, (List.forall_mem_cons.mpr ⟨foX12_53, (List.forall_mem_cons.mpr ⟨foX12_57, (List.forall_mem_cons.mpr ⟨foX12_60, (List.forall_mem_cons.mpr ⟨foX12_63, (List.forall_mem_cons.mpr ⟨foX12_66, (List.forall_mem_cons.mpr ⟨foX12_69, (List.forall_mem_cons.mpr ⟨foX12_72, (List.forall_mem_cons.mpr ⟨foX12_75, (List.forall_mem_cons.mpr ⟨foX12_78, (List.forall_mem_cons.mpr ⟨foX12_81, (List.forall_mem_cons.mpr ⟨foX12_84, (List.forall_mem_cons.mpr ⟨foX12_87, (List.forall_mem_cons.mpr ⟨foX12_90, (List.forall_mem_cons.mpr ⟨foX12_94, (List.forall_mem_cons.mpr ⟨foX12_98, (List.forall_mem_cons.mpr ⟨foX12_101, (List.forall_mem_cons.mpr ⟨foX12_104, (List.forall_mem_cons.mpr ⟨foX12_107, (List.forall_mem_cons.mpr ⟨foX12_110, (List.forall_mem_cons.mpr ⟨foX12_113, (List.forall_mem_cons.mpr ⟨foX12_117, (List.forall_mem_cons.mpr ⟨foX12_120, (List.forall_mem_cons.mpr ⟨foX12_123, (List.forall_mem_cons.mpr ⟨foX12_126, (List.forall_mem_cons.mpr ⟨foX12_129, (List.forall_mem_cons.mpr ⟨foX12_132, (List.forall_mem_cons.mpr ⟨foX12_135, (List.forall_mem_cons.mpr ⟨foX12_138, (List.forall_mem_cons.mpr ⟨foX12_141, (List.forall_mem_cons.mpr ⟨foX12_145, (List.forall_mem_cons.mpr ⟨foX12_148, (List.forall_mem_cons.mpr ⟨foX12_151, (List.forall_mem_cons.mpr ⟨foX12_154, (List.forall_mem_cons.mpr ⟨foX12_161, (List.forall_mem_cons.mpr ⟨foX12_164, (List.forall_mem_cons.mpr ⟨foX12_171, (List.forall_mem_cons.mpr ⟨foX12_174, (List.forall_mem_cons.mpr ⟨foX12_177, (List.forall_mem_cons.mpr ⟨foX12_181, (List.forall_mem_cons.mpr ⟨foX12_188, (List.forall_mem_cons.mpr ⟨foX12_191, (List.forall_mem_cons.mpr ⟨foX12_197, (List.forall_mem_cons.mpr ⟨foX12_204, (List.forall_mem_cons.mpr ⟨foX12_235, (List.forall_mem_cons.mpr ⟨foX12_238, (List.forall_mem_cons.mpr ⟨foX12_293, (List.forall_mem_cons.mpr ⟨foX12_325, (List.forall_mem_cons.mpr ⟨foX12_371, (List.forall_mem_cons.mpr ⟨foX12_377, (List.forall_mem_cons.mpr ⟨foX12_380, (List.forall_mem_cons.mpr ⟨foX12_415, (List.forall_mem_cons.mpr ⟨foX12_418, (List.forall_mem_cons.mpr ⟨foX12_428, (List.forall_mem_cons.mpr ⟨foX12_434, (List.forall_mem_cons.mpr ⟨foX12_447, (List.forall_mem_cons.mpr ⟨foX12_450, (fun _ h => absurd h List.not_mem_nil)⟩)⟩)⟩)⟩)⟩)⟩)⟩)⟩)⟩)⟩)⟩)⟩)⟩)⟩)⟩)⟩)⟩)⟩)⟩)⟩)⟩)⟩)⟩)⟩)⟩)⟩)⟩)⟩)⟩)⟩)⟩)⟩)⟩)⟩)⟩)⟩)⟩)⟩)⟩)⟩)⟩)⟩)⟩)⟩)⟩)⟩)⟩)⟩)⟩)⟩)⟩)⟩)⟩)⟩)⟩)⟩)⟩)⟩)⟩)⟩)⟩)⟩)⟩)⟩)⟩)⟩)⟩)⟩)⟩)⟩), (List.forall_mem_cons.mpr ⟨mw_1126, (List.forall_mem_cons.mpr ⟨mw_1370, (List.forall_mem_cons.mpr ⟨mw_1679, (fun _ h => absurd h List.not_mem_nil)⟩)⟩)⟩), (List.forall_mem_cons.mpr ⟨mw_1409, (List.forall_mem_cons.mpr ⟨mw_1410, (List.forall_mem_cons.mpr ⟨mw_1411, (List.forall_mem_cons.mpr ⟨mw_1412, (List.forall_mem_cons.mpr ⟨mw_1448, (List.forall_mem_cons.mpr ⟨mw_1449, (List.forall_mem_cons.mpr ⟨mw_1450, (List.forall_mem_cons.mpr ⟨mw_1451, (List.forall_mem_cons.mpr ⟨mw_1452, (List.forall_mem_cons.mpr ⟨mw_1453, (List.forall_mem_cons.mpr ⟨mw_1454, (List.forall_mem_cons.mpr ⟨mw_1455, (List.forall_mem_cons.mpr ⟨mw_1457, (List.forall_mem_cons.mpr ⟨mw_1456, (List.forall_mem_cons.mpr ⟨mw_1432, (List.forall_mem_cons.mpr ⟨mw_1413, (List.forall_mem_cons.mpr ⟨mw_1414, (List.forall_mem_cons.mpr ⟨mw_1391, (List.forall_mem_cons.mpr ⟨mw_1400, (List.forall_mem_cons.mpr ⟨mw_1401, (List.forall_mem_cons.mpr ⟨mw_1419, (List.forall_mem_cons.mpr ⟨mw_1482, (List.forall_mem_cons.mpr ⟨mw_1483, (List.forall_mem_cons.mpr ⟨mw_1484, (List.forall_mem_cons.mpr ⟨mw_1622, (fun _ h => absurd h List.not_mem_nil)⟩)⟩)⟩)⟩)⟩)⟩)⟩)⟩)⟩)⟩)⟩)⟩)⟩)⟩)⟩)⟩)⟩)⟩)⟩)⟩)⟩)⟩)⟩)⟩)⟩), (List.forall_mem_cons.mpr ⟨spX12_320, (List.forall_mem_cons.mpr ⟨spX12_334, (List.forall_mem_cons.mpr ⟨spX12_337, (fun _ h => absurd h List.not_mem_nil)⟩)⟩)⟩)⟩
