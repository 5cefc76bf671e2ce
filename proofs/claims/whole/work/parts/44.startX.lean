/-- what lies outside the store at the entry -/
theorem hx_startX {s : State} {b : Addr} (hts : ∀ w ∈ lw_tbl, w.before #[Value.ref b] s = true) (hgv : (Jvm.Cond.and given_1 narrow_1).before #[Value.ref b] s = true) : ∃ ad0 : Nat → Nat, ad0 (3 + hx_big) = b ∧ hx_X (fun q => s.heap.size ≤ q) ad0 s := by
  have hs := flat_of_before _ hgv
  have hA : ∀ a : Nat, a < s.heap.size → ¬ (fun q : Nat => s.heap.size ≤ q) a := fun a h h2 => absurd h (Nat.not_lt.mpr h2)
  have hel : ∀ j : Nat, j < 126 → (Cond.eq (.elem (.field (.string "HemLine$LawReader" 78) "java/lang/String" "value" "[B") (.int (Int32.ofNat j))) (.int (hx_bytes.getD j 0))) ∈ flatC (Jvm.Cond.and given_1 narrow_1) := by decide +kernel
  obtain ⟨adK, adV, hS, hT⟩ := vk_Sof (args := #[Value.ref b]) (s := s) (N := 1) (tm := fun _ => .string "HemLine$LawReader" 78) (len := [126]) (byt := [hx_bytes]) (A := fun q => s.heap.size ≤ q)
    (by intro i hi; have : i = 0 := by omega
        subst this; decide)
    (fun i _ => hs _ (by decide +kernel)) (fun i _ => hs _ (by decide +kernel)) (fun i _ => hs _ (by decide +kernel))
    (by intro i hi; have : i = 0 := by omega
        subst this; exact hs _ (by decide +kernel))
    (by intro i hi j hj; have : i = 0 := by omega
        subst this; exact hs _ (hel j hj))
    (by intro i j hi hj hne; omega) hA
  have hR : ∀ a : Nat, (Term.string "HemLine$LawReader" 78).eval #[Value.ref b] s none [] s = some (.ref a) → vk_R "HemLine$LawReader" 78 hx_words a s := fun a h => vk_R.of (hts (.stringRef "HemLine$LawReader" 78 hx_words) (by decide +kernel)) h
  have hZ1 : va_Z "java/lang/String" "COMPACT_STRINGS" "Z" (.int 1) (fun q => s.heap.size ≤ q) s s.heap := va_Zof (hts (.laysStatic "java/lang/String" "COMPACT_STRINGS" "Z") (by decide +kernel)) (hts (.initialized "java/lang/String") (by decide +kernel)) (va_eqt (hs _ (by decide +kernel))) hA
  have hZ2 := va_Zqof (hts (.laysStatic "jdk/internal/util/Preconditions" "SIOOBE_FORMATTER" "Ljava/util/function/BiFunction;") (by decide +kernel)) (hts (.initialized "jdk/internal/util/Preconditions") (by decide +kernel)) (hs (.isRef (.static "jdk/internal/util/Preconditions" "SIOOBE_FORMATTER" "Ljava/util/function/BiFunction;")) (by decide +kernel)) hA
  have hNw : ∀ w ∈ lw_tbl, hx_nw w = true → va_Nw w s := by
    intro w hw hn
    match w, hn, hts w hw with
    | .methodLinkNest .., _, h => exact va_Nw.of rfl h
    | .castable .., _, h => exact va_Nw.of rfl h
    | .arrayOver (.object C), _, h => exact va_AO.of h
  have key : ∀ z : Nat, (va_Z "jdk/internal/util/Preconditions" "SIOOBE_FORMATTER" "Ljava/util/function/BiFunction;" .null (fun q => s.heap.size ≤ q) s s.heap ∨ va_Z "jdk/internal/util/Preconditions" "SIOOBE_FORMATTER" "Ljava/util/function/BiFunction;" (.ref z) (fun q => s.heap.size ≤ q) s s.heap) → ∃ ad0 : Nat → Nat, ad0 (3 + hx_big) = b ∧ hx_X (fun q => s.heap.size ≤ q) ad0 s := by
    intro z hz
    refine ⟨fun k => if k = 0 + hx_big then adK 0 else if k = 1 + hx_big then adV 0 else if k = 2 + hx_big then z else b, rfl, hNw, ?_, hR _ (hT 0 (by decide)), hZ1, hz⟩
    refine ⟨fun i hi => ?_, fun i j hi hj _ => by omega⟩
    have : i = 0 := by omega
    subst this
    exact hS.1 0 (by decide)
  rcases hZ2 with h | ⟨t, h⟩
  · exact key 0 (Or.inl h)
  · exact key t (Or.inr h)
/-- from the law's entry to the claim's end, once the invariant stands -/
theorem hx_whole {p : Program} {e : Env} {s : State} {m : MethodId} {below : List Frame} {meth : Method} {c : Code} (l : Launch) {b L : Nat} {xs : Nat → Int32} (hL : L ≤ 3072) (C0 : lw_At p s m meth c b L xs) {I : hx_L → hx_M → Prop} (hI : wL_all I) (hw : wL_start (fun _ _ => 0, fun _ _ => 0) I) : W p l e room_1 s m #[Value.ref b] below meth c s.heap [] 0 0 (lw_Z below #[Value.ref b] s) (entryFrame m ([Value.ref b] : List Value).toArray 4) := by
  obtain ⟨hx, hb, hr, hml, hown, hts, hX, hbl, hlocks, hgv⟩ := C0
  obtain ⟨dC, dI, cA, hK⟩ := hx_startK hts
  obtain ⟨ad0, hb0, hXX⟩ := hx_startX hts hgv
  have C : hx_C p s m #[Value.ref b] meth c dC dI cA 4 cL_law RL (some .boolean) := ⟨hx, hb, hml, fun w h => hts w (List.mem_filter.mp h).1, hown, hK, hr, hlocks⟩
  exact hx_law_W C hXX hX hbl hb0 hL hI hw
