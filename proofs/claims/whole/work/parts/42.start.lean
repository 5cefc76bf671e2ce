/-! from the law's entry to the claim's end, once the invariant stands -/
theorem hx_law_W {p : Program} {l : Launch} {e : Env} {s : State} {m : MethodId} {below : List Frame} {meth : Method} {c : Code} {b L : Nat} {xs : Nat → Int32} {dC : Nat → ClassId} {dI : Nat → Nat → Nat} {cA : Nat → ClassId} {ad0 : Nat → Nat}
    (C : hx_C p s m #[Value.ref b] meth c dC dI cA 4 cL_law RL (some .boolean)) (X : hx_X (fun q => s.heap.size ≤ q) ad0 s) (hX : va_X b L xs s s.heap) (hbl : b < s.heap.size) (hb0 : ad0 (3 + hx_big) = b) (hL : L ≤ 3072) {I : hx_L → hx_M → Prop} (hI : wL_all I) (hw : wL_start (fun _ _ => 0, fun _ _ => 0) I) :
    W p l e room_1 s m #[Value.ref b] below meth c s.heap [] 0 0 (lw_Z below #[Value.ref b] s) (entryFrame m ([Value.ref b] : List Value).toArray 4) := by
  have hA : ∀ q : Nat, s.heap.size ≤ q → (fun q => s.heap.size ≤ q) q := fun q h => h
  rw [lg_entry_eq]
  have hl := lv_entry (n := 4) [Value.ref b] (Nat.le_of_ble_eq_true rfl)
  have hm : ∀ (i : Nat) (v : Value), ([some (.retAddr 3), none, none, none] : hx_V)[i]? = some (some v) → i = 0 ∧ v = .retAddr 3 := by
    intro i v h
    match i, h with
    | 0, h => cases h; exact ⟨rfl, rfl⟩
    | 1, h => cases h
    | 2, h => cases h
    | 3, h => cases h
    | i + 4, h => cases h
  have hwl : hx_wlv 0 ([some (.retAddr 3), none, none, none] : hx_V) := by
    intro i v h k hk
    rw [(hm i v h).2] at hk
    cases hk
  have hh : hx_h ad0 (lg_sl [Value.ref b] ++ List.replicate (4 - (lg_sl [Value.ref b]).length) Slot.unset).toArray 4 ([some (.retAddr 3), none, none, none] : hx_V) := by
    refine ⟨_, hl, fun i v h => ?_⟩
    obtain ⟨rfl, rfl⟩ := hm i v h
    show (0, Value.ref (ad0 (3 + hx_big))) ∈ _
    rw [hb0]
    exact List.mem_cons_self
  have hB : hx_B dC dI cA (fun q => s.heap.size ≤ q) s.heap 4 0 ad0 hx_L0 (fun _ _ => 0, fun _ _ => 0) [some (.retAddr 3), none, none, none] [] ad0 s.heap [] (lg_sl [Value.ref b] ++ List.replicate (4 - (lg_sl [Value.ref b]).length) Slot.unset).toArray := by
    refine ⟨fun _ _ => rfl, Nat.le_refl _, fun k j r h => (by cases h), trivial, hwl, ?_, ?_, va_S.rf, hh⟩
    · intro k q h; cases h
    · exact ⟨fun i j a b h => (by cases h), fun k q h => (by cases h)⟩
  have hG := kL_law (G := hx_G p l e (hx_rR 2048 84000 600000 7302250) s m #[Value.ref b] below meth c (MQ below (hx_Q dC dI cA ad0 0 (fun q => s.heap.size ≤ q) (fun r _ _ => r = some (.int 1))) #[Value.ref b] s 600000 7302250 (fun q => s.heap.size ≤ q)) dC dI cA (fun q => s.heap.size ≤ q) s.heap 4 0 ad0) (KK := fun r _ _ => r = some (.int 1))
    (hx_K_G C tokL ⟨Nat.le_of_ble_eq_true rfl, Nat.le_of_ble_eq_true rfl, Nat.le_refl _, Nat.le_refl _⟩) (hx_LW_G C hX hbl (fun h => absurd hbl (Nat.not_lt.mpr h)) hb0)
    (hx_CA_GR (h := 2048) ⟨Nat.le_refl _, Nat.le_of_ble_eq_true rfl⟩ C hA X) (hx_KA_GR C hA X taokL (Or.inl rfl) (Nat.le_of_ble_eq_true rfl) (Nat.le_of_ble_eq_true rfl)) hL (fun _ _ => rfl) hI hw
  intro T hT XT
  obtain ⟨t, h1, h2⟩ := hG ad0 s.heap [] _ hB T hT XT
  exact ⟨t, h1, hx_LW_end hA (fun _ _ _ h => h) h2⟩
