theorem hx_in_of {ws : List Cond} (ps : List Nat) (h : ws = ps.filterMap (fun i => lw_tbl[i]?)) (hg : ws.all goodWord = true) : ∀ w ∈ ws, w ∈ hx_tbl := by
  intro w hw
  have h1 := List.all_eq_true.mp hg w hw
  rw [h] at hw
  obtain ⟨i, -, hi⟩ := List.mem_filterMap.mp hw
  exact hx_tbl_in hi h1
def hx_dt (c : ByteArray) (t : List (Nat × Instr × Nat)) : Bool := t.all fun q => match decode c q.1 with
  | .ok (i, n) => decide (i = q.2.1) && decide (n = q.2.2)
  | _ => false
theorem hx_dq {c : ByteArray} {t : List (Nat × Instr × Nat)} (h : hx_dt c t = true) (k : Nat) {pc n : Nat} {i : Instr} (hk : t[k]? = some (pc, i, n)) : decode c pc = .ok (i, n) := by
  have h1 := List.all_eq_true.mp h _ (List.mem_of_getElem? hk)
  dsimp only at h1
  split at h1
  · rename_i i' n' e
    simp only [Bool.and_eq_true, decide_eq_true_eq] at h1
    rw [e, h1.1, h1.2]
  · cases h1
theorem hx_nb {r : Int32} (h : r = 0 ∨ r = 1) : narrow .boolean (.int r) = .int r := by rcases h with rfl | rfl <;> rfl

theorem mw_88 : Cond.initialized RX3 ∈ hx_tbl := hx_tbl_in (i := 88) (by decide +kernel) rfl
theorem mw_157 : Cond.fieldLink RX4 9 "HemLine$People" "size" "I" ∈ hx_tbl := hx_tbl_in (i := 157) (by decide +kernel) rfl
theorem mw_213 : Cond.fieldLink RX3 21 "HemLine$Past" "lengths" "[I" ∈ hx_tbl := hx_tbl_in (i := 213) (by decide +kernel) rfl
theorem mw_216 : Cond.fieldLink RX3 25 "HemLine$Past" "sums" "[I" ∈ hx_tbl := hx_tbl_in (i := 216) (by decide +kernel) rfl
theorem mw_220 : Cond.fieldLink RX3 28 "HemLine$Past" "asked" "[I" ∈ hx_tbl := hx_tbl_in (i := 220) (by decide +kernel) rfl
theorem mw_221 : Cond.fieldLink RX3 31 "HemLine$Past" "shown" "[I" ∈ hx_tbl := hx_tbl_in (i := 221) (by decide +kernel) rfl
theorem mw_717 : Cond.instanceMethod yX3_lengthOf ∈ hx_tbl := hx_tbl_in (i := 717) (by decide +kernel) rfl
theorem mw_718 : Cond.selects RX3 yX3_lengthOf yX3_lengthOf ∈ hx_tbl := hx_tbl_in (i := 718) (by decide +kernel) rfl
theorem mw_719 : Cond.code yX3_lengthOf cX3_lengthOf 3 (some .int) ∈ hx_tbl := hx_tbl_in (i := 719) (by decide +kernel) rfl
theorem mw_835 : Cond.methodLink RX3 49 yX3_lengthOf ∈ hx_tbl := hx_tbl_in (i := 835) (by decide +kernel) rfl
theorem inX3 : ∀ w ∈ u_ws RX3 TX3 6, w ∈ hx_tbl := hx_in_of [228, 230, 232, 234, 236, 238] (by decide +kernel) (by decide +kernel)
theorem inX4 : ∀ w ∈ u_ws RX4 TX4 7, w ∈ hx_tbl := hx_in_of [184, 186, 188, 190, 192, 194, 196] (by decide +kernel) (by decide +kernel)
theorem bipush_16 : (Int8.ofInt 16).toInt32 = 16 := by decide +kernel
theorem iconst_0 : Int32.ofInt 0 = 0 := by decide +kernel
theorem iconst_1 : Int32.ofInt 1 = 1 := by decide +kernel
theorem iconst_4 : Int32.ofInt 4 = 4 := by decide +kernel
theorem iconst_m1 : Int32.ofInt (-1) = (-1) := by decide +kernel
