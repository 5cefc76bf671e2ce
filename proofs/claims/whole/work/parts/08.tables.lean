def TbX3 : hx_T := ([(21, 3, 1, 2), (25, 3, 2, 2), (28, 3, 3, 2), (31, 3, 4, 2)], [], [], [])
theorem fmX3_21 : (21, 3, 1, 2) ∈ TbX3.1 := List.mem_of_getElem? (i := 0) rfl
theorem foX3_21 : hx_fok RX3 (21, 3, 1, 2) := ⟨RX3, TX3, 6, rfl, Nat.le_of_ble_eq_true rfl, rfl, mw_213, inX3, tyX3, tyX3_ok, nmX3, ⟨fun h => absurd h (by decide), fun h => absurd h (by decide)⟩⟩
theorem fmX3_25 : (25, 3, 2, 2) ∈ TbX3.1 := List.mem_of_getElem? (i := 1) rfl
theorem foX3_25 : hx_fok RX3 (25, 3, 2, 2) := ⟨RX3, TX3, 6, rfl, Nat.le_of_ble_eq_true rfl, rfl, mw_216, inX3, tyX3, tyX3_ok, nmX3, ⟨fun h => absurd h (by decide), fun h => absurd h (by decide)⟩⟩
theorem fmX3_28 : (28, 3, 3, 2) ∈ TbX3.1 := List.mem_of_getElem? (i := 2) rfl
theorem foX3_28 : hx_fok RX3 (28, 3, 3, 2) := ⟨RX3, TX3, 6, rfl, Nat.le_of_ble_eq_true rfl, rfl, mw_220, inX3, tyX3, tyX3_ok, nmX3, ⟨fun h => absurd h (by decide), fun h => absurd h (by decide)⟩⟩
theorem fmX3_31 : (31, 3, 4, 2) ∈ TbX3.1 := List.mem_of_getElem? (i := 3) rfl
theorem foX3_31 : hx_fok RX3 (31, 3, 4, 2) := ⟨RX3, TX3, 6, rfl, Nat.le_of_ble_eq_true rfl, rfl, mw_221, inX3, tyX3, tyX3_ok, nmX3, ⟨fun h => absurd h (by decide), fun h => absurd h (by decide)⟩⟩
theorem tokX3 : hx_tok RX3 TbX3 := ⟨(List.forall_mem_cons.mpr ⟨foX3_21, (List.forall_mem_cons.mpr ⟨foX3_25, (List.forall_mem_cons.mpr ⟨foX3_28, (List.forall_mem_cons.mpr ⟨foX3_31, (fun _ h => absurd h List.not_mem_nil)⟩)⟩)⟩)⟩), (fun _ h => absurd h List.not_mem_nil), (fun _ h => absurd h List.not_mem_nil), (fun _ h => absurd h List.not_mem_nil)⟩
def TbX4 : hx_T := ([(9, 4, 0, 0)], [], [], [])
theorem fmX4_9 : (9, 4, 0, 0) ∈ TbX4.1 := List.mem_of_getElem? (i := 0) rfl
theorem foX4_9 : hx_fok RX4 (9, 4, 0, 0) := ⟨RX4, TX4, 7, rfl, Nat.le_of_ble_eq_true rfl, rfl, mw_157, inX4, tyX4, tyX4_ok, nmX4, ⟨fun _ => ⟨by decide +kernel, by decide +kernel⟩, fun h => absurd h (by decide)⟩⟩
theorem tokX4 : hx_tok RX4 TbX4 := ⟨(List.forall_mem_cons.mpr ⟨foX4_9, (fun _ h => absurd h List.not_mem_nil)⟩), (fun _ h => absurd h List.not_mem_nil), (fun _ h => absurd h List.not_mem_nil), (fun _ h => absurd h List.not_mem_nil)⟩
def TbX11 : hx_T := ([], [], [], [])
theorem tokX11 : hx_tok RX11 TbX11 := ⟨(fun _ h => absurd h List.not_mem_nil), (fun _ h => absurd h List.not_mem_nil), (fun _ h => absurd h List.not_mem_nil), (fun _ h => absurd h List.not_mem_nil)⟩
