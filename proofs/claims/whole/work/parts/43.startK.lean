/-! what the law's entry gives: the classes, the constants outside the store -/
theorem hx_arr1 {s : State} {a : Array Value} {ty : FieldType} (h : (Cond.arrayClass ty).before a s = true) : ∃ cA : ClassId, ArrOfT s cA ty ∧ s.vm.findClass ("[" ++ ty.toString) = some cA := by
  obtain ⟨cA, kA, comp, h1, h2, h3⟩ := Cond.arrayClass_spec h
  exact ⟨cA, fun n z => ⟨fun k h => (by cases h), kA, h2, comp, h3⟩, h1⟩
theorem hx_arr2 {s : State} {a : Array Value} {C : String} (h : (Cond.arrayOver (.object C)).before a s = true) : ∃ cA : ClassId, ArrOfT s cA (.object C) ∧ va_RA s cA (.object C) := by
  obtain ⟨comp, cA, kA, h1, -, h3, h4, h5⟩ := Cond.arrayOver_spec h
  exact ⟨cA, fun n z => ⟨fun k h => (by cases h), kA, h3, comp, h4⟩, kA, comp, h3, h4, h1, h5⟩
theorem hx_startK {s : State} {b : Addr} (hts : ∀ w ∈ lw_tbl, w.before #[Value.ref b] s = true) : ∃ (dC : Nat → ClassId) (dI : Nat → Nat → Nat) (cA : Nat → ClassId), va_K (dC, dI) vwCl (hx_tys cA) s := by
  have hts2 : ∀ w ∈ hx_tbl, w.before #[Value.ref b] s = true := fun w h => hts w (List.mem_filter.mp h).1
  have hc : ∀ k : Nat, ∃ q2 : ClassId × (Nat → Nat), ∀ q : vw_C, vwCl[k]? = some q → u_Kn s q.1 q.2.1 q.2.2 q2.1 q2.2 := by
    intro k
    have h1 : ∀ q : vw_C, vwCl[k]? = some q → ∃ (cC : ClassId) (iS : Nat → Nat), u_Kn s q.1 q.2.1 q.2.2 cC iS := by
      intro q hq
      match k, hq with
      | 0, hq => cases hq; exact u_known (C := RX0) (T := TX0) (N := 1) (n := 1) hts2 inX0 (hts (.instantiable RX0 1) (by decide +kernel))
      | 1, hq => cases hq; exact u_known (C := RX1) (T := TX1) (N := 2) (n := 2) hts2 inX1 (hts (.instantiable RX1 2) (by decide +kernel))
      | 2, hq => cases hq; exact u_known (C := RX2) (T := TX2) (N := 7) (n := 7) hts2 inX2 (hts (.instantiable RX2 7) (by decide +kernel))
      | 3, hq => cases hq; exact u_known (C := RX3) (T := TX3) (N := 6) (n := 6) hts2 inX3 (hts (.instantiable RX3 6) (by decide +kernel))
      | 4, hq => cases hq; exact u_known (C := RX4) (T := TX4) (N := 7) (n := 7) hts2 inX4 (hts (.instantiable RX4 7) (by decide +kernel))
      | 5, hq => cases hq; exact u_known (C := RX5) (T := TX5) (N := 5) (n := 5) hts2 inX5 (hts (.instantiable RX5 5) (by decide +kernel))
      | 6, hq => cases hq; exact u_known (C := RX6) (T := TX6) (N := 6) (n := 6) hts2 inX6 (hts (.instantiable RX6 6) (by decide +kernel))
      | 7, hq => cases hq; exact u_known (C := RX7) (T := TX7) (N := 6) (n := 6) hts2 inX7 (hts (.instantiable RX7 6) (by decide +kernel))
      | 8, hq => cases hq; exact u_known (C := RX8) (T := TX8) (N := 4) (n := 4) hts2 inX8 (hts (.instantiable RX8 4) (by decide +kernel))
      | 9, hq => cases hq; exact u_known (C := RX9) (T := TX9) (N := 2) (n := 2) hts2 inX9 (hts (.instantiable RX9 2) (by decide +kernel))
      | 10, hq => cases hq; exact u_known (C := RX10) (T := TX10) (N := 12) (n := 12) hts2 inX10 (hts (.instantiable RX10 12) (by decide +kernel))
      | 11, hq => cases hq; exact u_known (C := RX11) (T := TX11) (N := 15) (n := 15) hts2 inX11 (hts (.instantiable RX11 15) (by decide +kernel))
      | 12, hq => cases hq; exact u_known (C := RX12) (T := TX12) (N := 70) (n := 70) hts2 inX12 (hts (.instantiable RX12 70) (by decide +kernel))
      | k + 13, hq => cases hq
    cases hq : vwCl[k]? with
    | none => exact ⟨(0, fun _ => 0), fun q h => by cases h⟩
    | some q0 =>
      obtain ⟨cC, iS, h2⟩ := h1 q0 hq
      exact ⟨(cC, iS), fun q h => by cases h; exact h2⟩
  obtain ⟨d, hd⟩ := Classical.axiomOfChoice hc
  obtain ⟨a1, x1, y1⟩ := hx_arr1 (hts _ (List.mem_filter.mp hx_aI).1)
  obtain ⟨a2, x2, y2⟩ := hx_arr1 (hts _ (List.mem_filter.mp hx_aB).1)
  obtain ⟨a3, x3, y3⟩ := hx_arr1 (hts _ (List.mem_filter.mp hx_aJ).1)
  obtain ⟨a4, x4, y4⟩ := hx_arr1 (hts _ (List.mem_filter.mp hx_aZ).1)
  obtain ⟨a5, x5, y5⟩ := hx_arr2 (hts _ hx_oL)
  obtain ⟨a6, x6, y6⟩ := hx_arr2 (hts _ hx_oW)
  refine ⟨fun k => (d k).1, fun k => (d k).2, fun k => if k = 1 then a1 else if k = 2 then a2 else if k = 3 then a3 else if k = 4 then a4 else if k = 5 then a5 else a6, fun k q h => hd k q h, fun k q h => ?_⟩
  match k, h with
  | 0, h => cases h; exact ⟨x1, y1⟩
  | 1, h => cases h; exact ⟨x2, y2⟩
  | 2, h => cases h; exact ⟨x3, y3⟩
  | 3, h => cases h; exact ⟨x4, y4⟩
  | 4, h => cases h; exact ⟨x5, y5⟩
  | 5, h => cases h; exact ⟨x6, y6⟩
  | k + 6, h => cases h
