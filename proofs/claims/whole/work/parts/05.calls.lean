/-! contracts over the abstract store, and calls -/
/-! constants outside the store -/
def hx_nw : Cond → Bool
  | .methodLinkNest .. => true
  | .castable .. => true
  | .arrayOver (.object _) => true
  | _ => false
def hx_words : String := "seasonlengthpurse coin  rank  money chanceworn  above below alike all   house old   to    from  stay  if    and   or    not   "
def hx_bytes : List Int32 := [115, 101, 97, 115, 111, 110, 108, 101, 110, 103, 116, 104, 112, 117, 114, 115, 101, 32, 99, 111, 105, 110, 32, 32, 114, 97, 110, 107, 32, 32, 109, 111, 110, 101, 121, 32, 99, 104, 97, 110, 99, 101, 119, 111, 114, 110, 32, 32, 97, 98, 111, 118, 101, 32, 98, 101, 108, 111, 119, 32, 97, 108, 105, 107, 101, 32, 97, 108, 108, 32, 32, 32, 104, 111, 117, 115, 101, 32, 111, 108, 100, 32, 32, 32, 116, 111, 32, 32, 32, 32, 102, 114, 111, 109, 32, 32, 115, 116, 97, 121, 32, 32, 105, 102, 32, 32, 32, 32, 97, 110, 100, 32, 32, 32, 111, 114, 32, 32, 32, 32, 110, 111, 116, 32, 32, 32]
def hx_X (A : Nat → Prop) (ad : Nat → Nat) (U : State) : Prop :=
  (∀ w ∈ lw_tbl, hx_nw w = true → va_Nw w U) ∧ vk_S 1 [126] [hx_bytes] (fun _ => ad (0 + hx_big)) (fun _ => ad (1 + hx_big)) A U U.heap ∧ vk_R "HemLine$LawReader" 78 hx_words (ad (0 + hx_big)) U ∧ va_Z "java/lang/String" "COMPACT_STRINGS" "Z" (.int 1) A U U.heap ∧ (va_Z "jdk/internal/util/Preconditions" "SIOOBE_FORMATTER" "Ljava/util/function/BiFunction;" .null A U U.heap ∨ va_Z "jdk/internal/util/Preconditions" "SIOOBE_FORMATTER" "Ljava/util/function/BiFunction;" (.ref (ad (2 + hx_big))) A U U.heap)
theorem hx_X.to {A B : Nat → Prop} {ad ad' : Nat → Nat} {s U : State} (h : hx_X A ad s) (hW : s.WarmedH U.vm) (hq : ∀ q : Nat, q < s.heap.size → ¬ A q → U.heap[q]? = s.heap[q]?) (hAB : ∀ q, B q → A q) (had : ∀ k, hx_big ≤ k → ad' k = ad k) : hx_X B ad' U := by
  obtain ⟨h1, h2, h3, h4, h5⟩ := h
  refine ⟨fun w hw hn => ?_, ?_, ?_, ?_, ?_⟩
  · have h9 := h1 w hw hn
    match w, hn, h9 with
    | .methodLinkNest .., _, h9 => exact va_Nw.warmM hW h9
    | .castable .., _, h9 => exact va_Nw.warmC hW h9
    | .arrayOver (.object C), _, h9 => exact va_AO.moved hW.alike h9
  · rw [had _ (Nat.le_add_left _ _), had _ (Nat.le_add_left _ _)]; exact ((h2.moved hW.alike).kept hq).narrow hAB
  · rw [had _ (Nat.le_add_left _ _)]; exact h3.warm hW
  · exact ((h4.moved hW.alike).kept hq).narrow hAB
  · rw [had _ (Nat.le_add_left _ _)]
    exact h5.imp (fun h => ((h.moved hW.alike).kept hq).narrow hAB) (fun h => ((h.moved hW.alike).kept hq).narrow hAB)
theorem hx_X.same {A : Nat → Prop} {ad : Nat → Nat} {u U : State} (hv : U.vm = u.vm) (hh : U.heap = u.heap) (h : hx_X A ad u) : hx_X A ad U := by
  obtain ⟨h1, h2, h3, h4, h5⟩ := h
  have ha : u.vm.Alike U.vm := by rw [hv]; exact Vm.Alike.refl _
  refine ⟨fun w hw hn => ?_, ?_, h3.same hv, ?_, ?_⟩
  · have h9 := h1 w hw hn
    match w, hn, h9 with
    | .methodLinkNest .., _, h9 => exact va_Nw.same rfl hv.symm h9
    | .castable .., _, h9 => exact va_Nw.same rfl hv.symm h9
    | .arrayOver (.object C), _, h9 => exact va_AO.moved ha h9
  · rw [hh]; exact h2.moved ha
  · rw [hh]; exact h4.moved ha
  · rw [hh]; exact h5.imp (fun h => h.moved ha) (fun h => h.moved ha)
theorem hx_good {ws : List Cond} (h : ∀ w ∈ ws, w ∈ hx_tbl) : GoodIn hx_tbl ws := fun w hw => ⟨h w hw, good_of_word (hx_tbl_good w (h w hw))⟩
abbrev hx_rm (h mc ms : Nat) : Room := { frames := h, cells := mc, slots := ms, locals := 40 * h }
def hx_Con (y : MethodName) (cc : ByteArray) (maxL : Nat) (ret : Option FieldType) (h mc ms : Nat) (spec : hx_ST) : Prop :=
  ∀ (l : Launch) (dC : Nat → ClassId) (dI : Nat → Nat → Nat) (cA : Nat → ClassId) (ad : Nat → Nat) (Λ : hx_L) (μ : hx_M) (as : List Value) (sz : Nat) (K : hx_KT), spec Λ μ as K →
    Met l y (Cond.code y cc maxL ret :: hx_tbl) (hx_rm h mc ms) (va_Pc (as.map (hx_tr ad)) (fun U => U.heap.size = sz ∧ hx_ok Λ ∧ hx_ws Λ.2.2 as ∧ va_P (dC, dI) vwCl (hx_W cA ad Λ μ) U.heap ∧ va_K (dC, dI) vwCl (hx_tys cA) U ∧ va_D (fun _ => True) (hx_W cA ad Λ μ) ∧ hx_X (va_A (hx_W cA ad Λ μ) sz) ad U)) (hx_Q dC dI cA ad Λ.2.2 (va_A (hx_W cA ad Λ μ) sz) K) mc ms (va_A (hx_W cA ad Λ μ) sz)
theorem hx_tr_eq {ad ad' : Nat → Nat} {N : Nat} (h : ∀ k, (k < N ∨ hx_big ≤ k) → ad' k = ad k) {v : Value} (hv : hx_wv N v) : hx_tr ad' v = hx_tr ad v := by
  cases v with
  | ref k => simp only [hx_tr]; rw [h k (Or.inl (hv k rfl))]
  | retAddr k => simp only [hx_tr]; rw [h _ (Or.inr (Nat.le_add_left _ _))]
  | _ => rfl
theorem hx_tr_map {ad ad' : Nat → Nat} {N : Nat} (h : ∀ k, (k < N ∨ hx_big ≤ k) → ad' k = ad k) : ∀ {st : List Value}, hx_ws N st → st.map (hx_tr ad') = st.map (hx_tr ad)
  | [], _ => rfl
  | v :: r, ⟨h1, h2⟩ => by rw [List.map_cons, List.map_cons, hx_tr_eq h h1, hx_tr_map h h2]
section HXA
variable {p : Program} {l : Launch} {e : Env} {R : Room} {s : State} {m : MethodId} {args : Array Value} {below : List Frame} {meth : Method} {c : Code} {Q : State → Prop}
variable {dC : Nat → ClassId} {dI : Nat → Nat → Nat} {cA : Nat → ClassId} {A : Nat → Prop} {H0 : Heap} {nL N0 mc ms : Nat} {ad0 ad : Nat → Nat} {Λ : hx_L} {μ : hx_M} {lv : hx_V} {rest st : List Value} {u : Nat × Nat} {pc : Nat} {H : Heap} {locs : List Loc} {ls : Array Slot}
theorem hx_after {a : Array Value} {st0 : List Value} (hA : ∀ q, H0.size ≤ q → A q) (B : hx_B dC dI cA A H0 nL N0 ad0 Λ μ lv st ad H locs ls) (hrest : hx_ws Λ.2.2 rest)
    (hr : va_Run p l e R s m args below meth c H locs u.1 u.2 mc ms (F0 m pc ls st0) (rest.map (hx_tr ad)) (hx_Q dC dI cA ad Λ.2.2 (va_A (hx_W cA ad Λ μ) H.size) (fun r Λ' μ' => hx_G p l e R s m args below meth c Q dC dI cA A H0 nL N0 ad0 Λ' μ' (u.1 + mc, u.2 + ms) (pc + 3) lv (r.toList ++ rest)) a) (va_A (hx_W cA ad Λ μ) H.size)) :
    W p l e R s m args below meth c H locs u.1 u.2 Q (F0 m pc ls st0) := by
  have hfree : ∀ q, va_A (hx_W cA ad Λ μ) H.size q → A q := by
    intro q h
    rcases h with ⟨k, e, h⟩ | h
    · exact B.D.2 k (q, e) h
    · exact hA q (Nat.le_trans B.S.1 h)
  intro T hT X
  obtain ⟨v, st₀, t, T', L, h0, X', hL, e1, e2, ⟨⟨r, Λ', μ', ad', hv, hk, hag, hN, hok, hrw, hP, hD⟩, hz, hkp⟩, stp⟩ := hr T hT X
  cases hv
  rw [h0] at hz hkp
  have hrl : hx_ws Λ'.2.2 (r.toList ++ rest) := by
    refine hx_ws_app.mpr ⟨?_, hx_ws_mono hN hrest⟩
    cases r with
    | none => trivial
    | some v => exact ⟨hrw v rfl, trivial⟩
  have hB' : hx_B dC dI cA A H0 nL N0 ad0 Λ' μ' lv (r.toList ++ rest) ad' T'.heap (locs ++ L) ls := by
    refine ⟨fun k hk => (hag k (hk.imp (fun h => Nat.lt_of_lt_of_le h B.N) id)).trans (B.1 k hk), Nat.le_trans B.N hN, hok, hrl, fun i v h k hk => Nat.lt_of_lt_of_le (B.wlv i v h k hk) hN, by rw [e1]; exact hP, hD.weaken (fun k q _ h => hfree q.1 h), ⟨?_, ?_, ?_⟩, ?_⟩
    · exact Nat.le_trans B.S.1 (by rw [e1]; exact hz)
    · intro q h1 h2
      rw [e1, hkp q (Nat.lt_of_lt_of_le h1 B.S.1) (fun z => h2 (hfree q z))]
      exact B.S.2.1 q h1 h2
    · intro q hq
      rcases List.mem_append.mp hq with h | h
      · exact B.S.2.2 q h
      · exact hfree _ (hL q h)
    · obtain ⟨l0, h1, h3⟩ := B.h
      exact ⟨l0, h1, fun i v h => by rw [hx_tr_eq hag (B.wlv i v h)]; exact h3 i v h⟩
  obtain ⟨t2, a1, b1⟩ := hk ad' T'.heap (locs ++ L) ls hB' T' rfl X'
  refine ⟨t2, stp t2 ?_, b1⟩
  have es : (r.map (hx_tr ad')).toList ++ rest.map (hx_tr ad) = (r.toList ++ rest).map (hx_tr ad') := by
    rw [List.map_append, hx_tr_map hag hrest]
    cases r <;> rfl
  show Steps p.tables e below (T'.setTop (F0 m (pc + 3) ls ((r.map (hx_tr ad')).toList ++ rest.map (hx_tr ad)))) t2
  rw [es]
  exact a1
end HXA
def hx_CV (cc : ByteArray) (G : hx_GT) (mcR msR idx ci n : Nat) (spec : hx_ST) (mc ms : Nat) : Prop :=
  ∀ pc, decode cc pc = .ok (.invokevirtual idx, 3) → ∀ (Λ : hx_L) (μ : hx_M) (u : Nat × Nat) (lv : hx_V) (k0 : Nat) (as rest : List Value), as.length = n → Λ.1 k0 = (0, ci) → (rest.map fun v => v.category).sum ≤ 8 → u.1 + mc ≤ mcR → u.2 + ms ≤ msR →
    spec Λ μ (.ref k0 :: as) (fun r Λ' μ' => G Λ' μ' (u.1 + mc, u.2 + ms) (pc + 3) lv (r.toList ++ rest)) → G Λ μ u pc lv (as.reverse ++ .ref k0 :: rest)
def hx_CS (cc : ByteArray) (G : hx_GT) (mcR msR idx n : Nat) (spec : hx_ST) (mc ms : Nat) : Prop :=
  ∀ pc, decode cc pc = .ok (.invokestatic idx, 3) → ∀ (Λ : hx_L) (μ : hx_M) (u : Nat × Nat) (lv : hx_V) (as rest : List Value), as.length = n → (rest.map fun v => v.category).sum ≤ 8 → u.1 + mc ≤ mcR → u.2 + ms ≤ msR →
    spec Λ μ as (fun r Λ' μ' => G Λ' μ' (u.1 + mc, u.2 + ms) (pc + 3) lv (r.toList ++ rest)) → G Λ μ u pc lv (as.reverse ++ rest)
def hx_CI (cc : ByteArray) (G : hx_GT) (mcR msR idx n : Nat) (spec : hx_ST) (mc ms : Nat) : Prop :=
  ∀ pc, decode cc pc = .ok (.invokespecial idx, 3) → ∀ (Λ : hx_L) (μ : hx_M) (u : Nat × Nat) (lv : hx_V) (k0 : Nat) (as rest : List Value), as.length = n → (rest.map fun v => v.category).sum ≤ 8 → u.1 + mc ≤ mcR → u.2 + ms ≤ msR →
    spec Λ μ (.ref k0 :: as) (fun r Λ' μ' => G Λ' μ' (u.1 + mc, u.2 + ms) (pc + 3) lv (r.toList ++ rest)) → G Λ μ u pc lv (as.reverse ++ .ref k0 :: rest)
def hx_yok (y : MethodName) (n : Nat) : Prop := y.cls ≠ "java/lang/invoke/MethodHandle" ∧ y.cls ≠ "java/lang/invoke/VarHandle" ∧ (parseMethodDescriptor y.desc).map (fun d => d.parameters.length) = some n
/-- every contract serves the calls of a walk -/
def hx_CA (own : String) (cc : ByteArray) (h mcR msR : Nat) (G : hx_GT) : Prop :=
  (∀ {y : MethodName} {cc' : ByteArray} {maxL : Nat} {ret : Option FieldType} {h' mc ms : Nat} {spec : hx_ST} {idx ci n : Nat} {C : String} {T : u_T} {N : Nat}, hx_Con y cc' maxL ret h' mc ms spec → vwCl[ci]? = some (C, T, N) → y.cls = C → hx_yok y n →
    Cond.methodLink own idx y ∈ hx_tbl → Cond.instanceMethod y ∈ hx_tbl → Cond.selects y.cls y y ∈ hx_tbl → Cond.initialized y.cls ∈ hx_tbl → Cond.code y cc' maxL ret ∈ hx_tbl → h' + 1 ≤ h → maxL ≤ 21 → hx_CV cc G mcR msR idx ci n spec mc ms) ∧
  (∀ {y : MethodName} {cc' : ByteArray} {maxL : Nat} {ret : Option FieldType} {h' mc ms : Nat} {spec : hx_ST} {idx n : Nat}, hx_Con y cc' maxL ret h' mc ms spec → hx_yok y n →
    Cond.methodLink own idx y ∈ hx_tbl → Cond.static y ∈ hx_tbl → Cond.initialized y.cls ∈ hx_tbl → Cond.code y cc' maxL ret ∈ hx_tbl → h' + 1 ≤ h → maxL ≤ 21 → hx_CS cc G mcR msR idx n spec mc ms) ∧
  (∀ {y : MethodName} {cc' : ByteArray} {maxL : Nat} {ret : Option FieldType} {h' mc ms : Nat} {spec : hx_ST} {idx n : Nat} {host : String}, hx_Con y cc' maxL ret h' mc ms spec → hx_yok y n →
    Cond.methodLinkNest own idx y host ∈ lw_tbl → Cond.static y ∈ hx_tbl → Cond.initialized y.cls ∈ hx_tbl → Cond.code y cc' maxL ret ∈ hx_tbl → h' + 1 ≤ h → maxL ≤ 21 → hx_CS cc G mcR msR idx n spec mc ms) ∧
  (∀ {y : MethodName} {cc' : ByteArray} {maxL : Nat} {h' mc ms : Nat} {spec : hx_ST} {idx n : Nat}, hx_Con y cc' maxL none h' mc ms spec → hx_yok y n → y.name = "<init>" →
    Cond.methodLink own idx y ∈ hx_tbl → Cond.instanceMethod y ∈ hx_tbl → Cond.initialized y.cls ∈ hx_tbl → Cond.code y cc' maxL none ∈ hx_tbl → h' + 1 ≤ h → maxL ≤ 21 → hx_CI cc G mcR msR idx n spec mc ms)
section HXP
variable {dC : Nat → ClassId} {dI : Nat → Nat → Nat} {cA : Nat → ClassId} {ad : Nat → Nat} {Λ : hx_L} {μ : hx_M} {as : List Value} {s : State} {H : Heap} {locs : List Loc} {ls : Array Slot} {A : Nat → Prop} {nL N0 : Nat} {ad0 : Nat → Nat} {lv : hx_V} {st : List Value}
theorem hx_preS (hK : va_K (dC, dI) vwCl (hx_tys cA) s) (hA : ∀ q, s.heap.size ≤ q → A q) (X : hx_X A ad0 s) (B : hx_B dC dI cA A s.heap nL N0 ad0 Λ μ lv st ad H locs ls) (hw : hx_ws Λ.2.2 as) : PreS s H (va_Pc (as.map (hx_tr ad)) (fun U => U.heap.size = H.size ∧ hx_ok Λ ∧ hx_ws Λ.2.2 as ∧ va_P (dC, dI) vwCl (hx_W cA ad Λ μ) U.heap ∧ va_K (dC, dI) vwCl (hx_tys cA) U ∧ va_D (fun _ => True) (hx_W cA ad Λ μ) ∧ hx_X (va_A (hx_W cA ad Λ μ) H.size) ad U)) (as.map (hx_tr ad)) :=
  ⟨fun a U g mk q => by
    obtain ⟨q0, q1, qo, qw, qP, qK, qD, qX⟩ := q
    exact ⟨q0, q1, qo, qw, qP, va_K.moved (u := U) (U := U.calling g mk a) (Vm.Alike.refl U.vm) qK, qD, qX.same (u := U) (U := U.calling g mk a) rfl rfl⟩,
   fun U hU hW => ⟨rfl, by rw [hU], B.ok, hw, by rw [hU]; exact B.P, va_K.moved hW.alike hK, B.D.weaken (fun _ _ _ _ => trivial), X.to hW (fun q h1 h2 => by rw [hU]; exact B.S.2.1 q h1 h2) (fun q h => by
      rcases h with ⟨k, e, h⟩ | h
      · exact B.D.2 k (q, e) h
      · exact hA q (Nat.le_trans B.S.1 h)) (fun k hk => B.1 k (Or.inr hk))⟩⟩
end HXP
section HXD
variable {p : Program} {l : Launch} {e : Env} {s : State} {m : MethodId} {args : Array Value} {below : List Frame} {meth : Method} {c : Code} {Q : State → Prop}
variable {dC : Nat → ClassId} {dI : Nat → Nat → Nat} {cA : Nat → ClassId} {A : Nat → Prop} {nL N0 mcR msR h : Nat} {ad0 : Nat → Nat} {cc : ByteArray} {own : String} {ret0 : Option FieldType}
theorem hx_cat {ad : Nat → Nat} {r : List Value} (h : (r.map fun v => v.category).sum ≤ 8) : ((r.map (hx_tr ad)).map fun v => v.category).sum ≤ 8 := by
  rw [List.map_map]
  simpa only [Function.comp_def, hx_tr_cat] using h
theorem hx_room {h h' maxL : Nat} (h1 : h' + 1 ≤ h) (h2 : maxL ≤ 21) : h' + 1 ≤ h ∧ 8 + (maxL + 11) + 40 * h' ≤ 40 * h := by omega
abbrev hx_rR (hf lo mc ms : Nat) : Room := { frames := hf, cells := mc, slots := ms, locals := lo }
theorem hx_roomR {hf lo h h' maxL : Nat} (hR : h ≤ hf ∧ 40 * h ≤ lo) (h1 : h' + 1 ≤ h) (h2 : maxL ≤ 21) : h' + 1 ≤ hf ∧ 8 + (maxL + 11) + 40 * h' ≤ lo := by omega
theorem hx_CA_GR {hf lo : Nat} (hR : h ≤ hf ∧ 40 * h ≤ lo) (C : hx_C p s m args meth c dC dI cA nL cc own ret0) (hA : ∀ q, s.heap.size ≤ q → A q) (X : hx_X A ad0 s) : hx_CA own cc h mcR msR (hx_G p l e (hx_rR hf lo mcR msR) s m args below meth c Q dC dI cA A s.heap nL N0 ad0) := by
  refine ⟨?_, ?_, ?_, ?_⟩
  · intro y cc' maxL ret h' mc ms spec idx ci n Cn T N hCon hci hyc hy w1 w2 w3 w4 w5 hh hm pc hd Λ μ u lv k0 as rest hn hs hcat hu1 hu2 hsp ad H locs ls B
    have hw := hx_ws_app.mp B.ws
    have hws : hx_ws Λ.2.2 (.ref k0 :: as) := ⟨hw.2.1, hx_ws_rev.mp hw.1⟩
    have hk0 : k0 < Λ.2.2 := hw.2.1 _ rfl
    have hM := hCon l dC dI cA ad Λ μ (.ref k0 :: as) H.size _ hsp
    have hP := hx_preS (as := .ref k0 :: as) C.2.2.2.2.2.1 hA X B hws
    have hcw : CallW (hx_rR hf lo mcR msR) s args own Cn idx y cc' maxL ret (Cond.code y cc' maxL ret :: hx_tbl) (hx_rm h' mc ms) mc ms n := cwV n C.2.2.2.1 (hx_good (by intro w hw9; simp only [wsV, List.mem_append, List.mem_cons, List.not_mem_nil, or_false] at hw9; rcases hw9 with (rfl | rfl | rfl | rfl) | rfl | h9 <;> first | assumption | (rw [← hyc]; assumption))) rfl rfl rfl ⟨hyc, hy⟩ (hx_roomR hR hh hm)
    have hlen : ls.size = nL := by obtain ⟨l0, h9, -⟩ := B.h; exact h9.1
    have hrec := va_recv C.2.2.2.2.2.1 B.P hci ((hx_W_get hk0).trans (by rw [hx_e_o hs]))
    rw [List.map_append, List.map_reverse, List.map_cons]
    refine hx_after (a := (Value.ref (ad k0) :: as.map (hx_tr ad)).toArray) hA B hw.2.2 (va_runV (As := as.map (hx_tr ad)) (b := ad k0) (C := Cn) ⟨C.1, C.2.1, C.2.2.1, C.2.2.2.2.1, C.2.2.2.1⟩ hM hcw ⟨hP.1, hrec, hP.2⟩ rfl (by rw [List.length_map]; exact hn) hlen rfl (lv_room (hx_cat hcat)) hd ⟨hu1, hu2⟩)
  · intro y cc' maxL ret h' mc ms spec idx n hCon hy w1 w2 w4 w5 hh hm pc hd Λ μ u lv as rest hn hcat hu1 hu2 hsp ad H locs ls B
    have hw := hx_ws_app.mp B.ws
    have hws : hx_ws Λ.2.2 as := hx_ws_rev.mp hw.1
    have hM := hCon l dC dI cA ad Λ μ as H.size _ hsp
    have hP := hx_preS (as := as) C.2.2.2.2.2.1 hA X B hws
    have hcw := va_cwS (R := hx_rR hf lo mcR msR) (s := s) (args := args) (own := own) (index := idx) (y := y) (bytes := cc') (maxL := maxL) (ret := ret) (ws := Cond.code y cc' maxL ret :: hx_tbl) (rm := hx_rm h' mc ms) (mc := mc) (ms := ms) n C.2.2.2.1 (hx_good (by intro w hw9; simp only [va_wsS, List.mem_append, List.mem_cons, List.not_mem_nil, or_false] at hw9; rcases hw9 with (rfl | rfl | rfl) | rfl | h9 <;> assumption)) rfl rfl rfl hy (hx_roomR hR hh hm)
    have hlen : ls.size = nL := by obtain ⟨l0, h9, -⟩ := B.h; exact h9.1
    rw [List.map_append, List.map_reverse]
    exact hx_after (a := (as.map (hx_tr ad)).toArray) hA B hw.2 (va_runS (As := as.map (hx_tr ad)) ⟨C.1, C.2.1, C.2.2.1, C.2.2.2.2.1, C.2.2.2.1⟩ hM hcw hP rfl (by rw [List.length_map]; exact hn) hlen rfl (lv_room (hx_cat hcat)) hd ⟨hu1, hu2⟩)
  · intro y cc' maxL ret h' mc ms spec idx n host hCon hy w1 w2 w4 w5 hh hm pc hd Λ μ u lv as rest hn hcat hu1 hu2 hsp ad H locs ls B
    have hw := hx_ws_app.mp B.ws
    have hws : hx_ws Λ.2.2 as := hx_ws_rev.mp hw.1
    have hM := hCon l dC dI cA ad Λ μ as H.size _ hsp
    have hP := hx_preS (as := as) C.2.2.2.2.2.1 hA X B hws
    have hnw : va_Nw (.methodLinkNest own idx y host) s := X.1 _ w1 rfl
    have hcw := va_cnB (R := hx_rR hf lo mcR msR) (s := s) (args := args) (own := own) (host := host) (index := idx) (y := y) (bytes := cc') (maxL := maxL) (ret := ret) (ws := Cond.code y cc' maxL ret :: hx_tbl) (ws' := hx_tbl) (rm := hx_rm h' mc ms) (mc := mc) (ms := ms) n C.2.2.2.1 (hx_good (by intro w hw9; rcases List.mem_cons.mp hw9 with rfl | h9 <;> assumption)) rfl rfl rfl hnw (C.2.2.2.1 _ w4) hy (hx_roomR hR hh hm)
    have hlen : ls.size = nL := by obtain ⟨l0, h9, -⟩ := B.h; exact h9.1
    rw [List.map_append, List.map_reverse]
    exact hx_after (a := (as.map (hx_tr ad)).toArray) hA B hw.2 (va_runSN (As := as.map (hx_tr ad)) ⟨C.1, C.2.1, C.2.2.1, C.2.2.2.2.1, C.2.2.2.1⟩ hM ⟨hcw, C.2.2.2.1 _ w2, trivial⟩ hP rfl (by rw [List.length_map]; exact hn) hlen rfl (lv_room (hx_cat hcat)) hd ⟨hu1, hu2⟩)
  · intro y cc' maxL h' mc ms spec idx n hCon hy hyn w1 w2 w4 w5 hh hm pc hd Λ μ u lv k0 as rest hn hcat hu1 hu2 hsp ad H locs ls B
    have hw := hx_ws_app.mp B.ws
    have hws : hx_ws Λ.2.2 (.ref k0 :: as) := ⟨hw.2.1, hx_ws_rev.mp hw.1⟩
    have hM := hCon l dC dI cA ad Λ μ (.ref k0 :: as) H.size _ hsp
    have hP := hx_preS (as := .ref k0 :: as) C.2.2.2.2.2.1 hA X B hws
    have hcw := cwI (R := hx_rR hf lo mcR msR) (s := s) (args := args) (own := own) (index := idx) (y := y) (bytes := cc') (maxL := maxL) (ws := Cond.code y cc' maxL none :: hx_tbl) (rm := hx_rm h' mc ms) (mc := mc) (ms := ms) n C.2.2.2.1 (hx_good (by intro w hw9; rcases List.mem_cons.mp hw9 with rfl | h9 <;> assumption)) rfl rfl rfl (C.2.2.2.1 _ w4) (C.2.2.2.1 _ w1) (C.2.2.2.1 _ w2) hyn hy (hx_roomR hR hh hm)
    have hlen : ls.size = nL := by obtain ⟨l0, h9, -⟩ := B.h; exact h9.1
    rw [List.map_append, List.map_reverse, List.map_cons]
    exact hx_after (a := (Value.ref (ad k0) :: as.map (hx_tr ad)).toArray) hA B hw.2.2 (va_runI (As := as.map (hx_tr ad)) (b := ad k0) ⟨C.1, C.2.1, C.2.2.1, C.2.2.2.2.1, C.2.2.2.1⟩ hM hcw hP rfl (by rw [List.length_map]; exact hn) hlen rfl (lv_room (hx_cat hcat)) hd ⟨hu1, hu2⟩)
theorem hx_CA_G (C : hx_C p s m args meth c dC dI cA nL cc own ret0) (hA : ∀ q, s.heap.size ≤ q → A q) (X : hx_X A ad0 s) : hx_CA own cc h mcR msR (hx_G p l e (hx_rm h mcR msR) s m args below meth c Q dC dI cA A s.heap nL N0 ad0) := hx_CA_GR (hf := h) (lo := 40 * h) ⟨Nat.le_refl _, Nat.le_refl _⟩ C hA X
end HXD
/-! a walk gives a contract -/
def hx_al : List Value → hx_V
  | [] => []
  | .long x :: r => some (.long x) :: none :: hx_al r
  | .double x :: r => some (.double x) :: none :: hx_al r
  | v :: r => some v :: hx_al r
theorem hx_al_args (ad : Nat → Nat) : ∀ (as : List Value) (i j : Nat) (v : Value), (hx_al as)[j]? = some (some v) → (i + j, hx_tr ad v) ∈ lv_args i (as.map (hx_tr ad)) ∧ v ∈ as
  | [], i, j, v, h => by simp [hx_al] at h
  | a :: r, i, j, v, h => by
    have one : ∀ (b : Value), b.category = 1 → (some b :: hx_al r : hx_V)[j]? = some (some v) → (i + j, hx_tr ad v) ∈ lv_args i ((b :: r).map (hx_tr ad)) ∧ v ∈ b :: r := by
      intro b hb h
      simp only [List.map_cons, lv_args, hx_tr_cat, hb]
      cases j with
      | zero =>
        simp at h
        subst h
        exact ⟨List.mem_cons_self, List.mem_cons_self⟩
      | succ j =>
        obtain ⟨h1, h2⟩ := hx_al_args ad r (i + 1) j v (by simpa using h)
        refine ⟨List.mem_cons_of_mem _ ?_, List.mem_cons_of_mem _ h2⟩
        simpa [show i + 1 + j = i + (j + 1) by omega] using h1
    have two : ∀ (b : Value), b.category = 2 → (some b :: none :: hx_al r : hx_V)[j]? = some (some v) → (i + j, hx_tr ad v) ∈ lv_args i ((b :: r).map (hx_tr ad)) ∧ v ∈ b :: r := by
      intro b hb h
      simp only [List.map_cons, lv_args, hx_tr_cat, hb]
      match j, h with
      | 0, h =>
        simp at h
        subst h
        exact ⟨List.mem_cons_self, List.mem_cons_self⟩
      | 1, h => simp at h
      | j + 2, h =>
        obtain ⟨h1, h2⟩ := hx_al_args ad r (i + 2) j v (by simpa using h)
        refine ⟨List.mem_cons_of_mem _ ?_, List.mem_cons_of_mem _ h2⟩
        simpa [show i + 2 + j = i + (j + 2) by omega] using h1
    cases a with
    | long x => exact two _ rfl h
    | double x => exact two _ rfl h
    | int x => exact one _ rfl h
    | float x => exact one _ rfl h
    | null => exact one _ rfl h
    | ref x => exact one _ rfl h
    | retAddr x => exact one _ rfl h
theorem hx_ws_mem {N : Nat} : ∀ {as : List Value}, hx_ws N as → ∀ v ∈ as, hx_wv N v
  | [], _, v, h => by cases h
  | _ :: _, ⟨h1, h2⟩, v, h => by
    rcases List.mem_cons.mp h with rfl | h
    · exact h1
    · exact hx_ws_mem h2 v h
theorem hx_sl_len (ad : Nat → Nat) (as : List Value) : (lg_sl (as.map (hx_tr ad))).length = (as.map fun v => v.category).sum := by
  induction as with
  | nil => rfl
  | cons a r ih =>
    have e : (lg_sl ((a :: r).map (hx_tr ad))).length = a.category + (lg_sl (r.map (hx_tr ad))).length := by
      simp only [List.map_cons, lg_sl, List.flatMap_cons, List.length_append, hx_tr_cat]
      rcases lv_cat a with h | h <;> simp [h]
    rw [e, ih]
    simp
theorem hx_con_of {y : MethodName} {cc : ByteArray} {maxL : Nat} {ret : Option FieldType} {h mc ms : Nat} {spec : hx_ST} {T : hx_T} (hpl : plainName y.cls = true) (hT : hx_tok y.cls T) (hh : 1 ≤ h)
    (hfit : ∀ Λ μ as K, spec Λ μ as K → (as.map fun v => v.category).sum ≤ maxL)
    (walk : ∀ (G : hx_GT) (K : hx_KT), hx_K cc maxL mc ms ret T K G → hx_CA y.cls cc h mc ms G → ∀ (Λ : hx_L) (μ : hx_M) (as : List Value), spec Λ μ as K → G Λ μ (0, 0) 0 (hx_al as) []) : hx_Con y cc maxL ret h mc ms spec := by
  intro l dC dI cA ad Λ μ as sz K hsp
  refine Met.ofW (cc := cc) (maxL := maxL) (ret := ret) hpl rfl ?_
  intro p e s m args below meth c s₁ B hml hv
  obtain ⟨rfl, hsz, hok, hws, hP, hK, hD0, hX⟩ := hv
  have hts := atoms_spec (ws := Cond.code y cc maxL ret :: hx_tbl) B.pre
  have C : hx_C p s m ((as.map (hx_tr ad)).toArray) meth c dC dI cA maxL cc y.cls ret := ⟨B.exec, B.bytes, hml, fun w hw => hts w (List.mem_cons_of_mem _ hw), findClass_of_methodNamed B.named, hK, B.returns, B.notSynchronized⟩
  subst hsz
  have hA : ∀ q : Nat, s.heap.size ≤ q → va_A (hx_W cA ad Λ μ) s.heap.size q := fun q h => Or.inr h
  rw [lg_entry_eq]
  have hfit1 : (lg_sl (as.map (hx_tr ad))).length ≤ maxL := by rw [hx_sl_len]; exact hfit _ _ _ _ hsp
  have hl := lv_entry (as.map (hx_tr ad)) hfit1
  have hG := walk (hx_G p l e (hx_rm h mc ms) s m ((as.map (hx_tr ad)).toArray) below meth c (MQ below (hx_Q dC dI cA ad Λ.2.2 (va_A (hx_W cA ad Λ μ) s.heap.size) K) ((as.map (hx_tr ad)).toArray) s mc ms (va_A (hx_W cA ad Λ μ) s.heap.size)) dC dI cA (va_A (hx_W cA ad Λ μ) s.heap.size) s.heap maxL Λ.2.2 ad) K
    (hx_K_G C hT ⟨hh, by show 8 + 29 ≤ 40 * h; omega, Nat.le_refl _, Nat.le_refl _⟩) (hx_CA_G C hA hX) Λ μ as hsp
  exact hG ad s.heap [] _ ⟨fun _ _ => rfl, Nat.le_refl _, hok, trivial, fun i v h => hx_ws_mem hws v (hx_al_args ad as 0 i v h).2, hP, hD0.self, va_S.rf, ⟨_, hl, fun i v h => by simpa using (hx_al_args ad as 0 i v h).1⟩⟩
/-! calls by the number of arguments -/
section HXL
variable {cc : ByteArray} {G : hx_GT} {mcR msR idx ci mc ms : Nat} {spec : hx_ST} {Λ : hx_L} {μ : hx_M} {u : Nat × Nat} {pc k0 : Nat} {lv : hx_V} {rest : List Value}
theorem cl_callV0 (h : hx_CV cc G mcR msR idx ci 0 spec mc ms) (d : decode cc pc = .ok (.invokevirtual idx, 3)) (hs : Λ.1 k0 = (0, ci)) (hc : (rest.map fun v => v.category).sum ≤ 8) (h1 : u.1 + mc ≤ mcR) (h2 : u.2 + ms ≤ msR) (k : spec Λ μ [.ref k0] (fun r Λ1 μ1 => G Λ1 μ1 (u.1 + mc, u.2 + ms) (pc + 3) lv (r.toList ++ rest))) : G Λ μ u pc lv (.ref k0 :: rest) := h pc d Λ μ u lv k0 [] rest rfl hs hc h1 h2 k
theorem cl_callS0 (h : hx_CS cc G mcR msR idx 0 spec mc ms) (d : decode cc pc = .ok (.invokestatic idx, 3)) (hc : (rest.map fun v => v.category).sum ≤ 8) (h1 : u.1 + mc ≤ mcR) (h2 : u.2 + ms ≤ msR) (k : spec Λ μ [] (fun r Λ1 μ1 => G Λ1 μ1 (u.1 + mc, u.2 + ms) (pc + 3) lv (r.toList ++ rest))) : G Λ μ u pc lv (rest) := h pc d Λ μ u lv [] rest rfl hc h1 h2 k
theorem cl_callI0 (h : hx_CI cc G mcR msR idx 0 spec mc ms) (d : decode cc pc = .ok (.invokespecial idx, 3)) (hc : (rest.map fun v => v.category).sum ≤ 8) (h1 : u.1 + mc ≤ mcR) (h2 : u.2 + ms ≤ msR) (k : spec Λ μ [.ref k0] (fun r Λ1 μ1 => G Λ1 μ1 (u.1 + mc, u.2 + ms) (pc + 3) lv (r.toList ++ rest))) : G Λ μ u pc lv (.ref k0 :: rest) := h pc d Λ μ u lv k0 [] rest rfl hc h1 h2 k
theorem cl_callV1 {a0 : Value} (h : hx_CV cc G mcR msR idx ci 1 spec mc ms) (d : decode cc pc = .ok (.invokevirtual idx, 3)) (hs : Λ.1 k0 = (0, ci)) (hc : (rest.map fun v => v.category).sum ≤ 8) (h1 : u.1 + mc ≤ mcR) (h2 : u.2 + ms ≤ msR) (k : spec Λ μ [.ref k0, a0] (fun r Λ1 μ1 => G Λ1 μ1 (u.1 + mc, u.2 + ms) (pc + 3) lv (r.toList ++ rest))) : G Λ μ u pc lv (a0 :: .ref k0 :: rest) := h pc d Λ μ u lv k0 [a0] rest rfl hs hc h1 h2 k
theorem cl_callS1 {a0 : Value} (h : hx_CS cc G mcR msR idx 1 spec mc ms) (d : decode cc pc = .ok (.invokestatic idx, 3)) (hc : (rest.map fun v => v.category).sum ≤ 8) (h1 : u.1 + mc ≤ mcR) (h2 : u.2 + ms ≤ msR) (k : spec Λ μ [a0] (fun r Λ1 μ1 => G Λ1 μ1 (u.1 + mc, u.2 + ms) (pc + 3) lv (r.toList ++ rest))) : G Λ μ u pc lv (a0 :: rest) := h pc d Λ μ u lv [a0] rest rfl hc h1 h2 k
theorem cl_callI1 {a0 : Value} (h : hx_CI cc G mcR msR idx 1 spec mc ms) (d : decode cc pc = .ok (.invokespecial idx, 3)) (hc : (rest.map fun v => v.category).sum ≤ 8) (h1 : u.1 + mc ≤ mcR) (h2 : u.2 + ms ≤ msR) (k : spec Λ μ [.ref k0, a0] (fun r Λ1 μ1 => G Λ1 μ1 (u.1 + mc, u.2 + ms) (pc + 3) lv (r.toList ++ rest))) : G Λ μ u pc lv (a0 :: .ref k0 :: rest) := h pc d Λ μ u lv k0 [a0] rest rfl hc h1 h2 k
theorem cl_callV2 {a0 a1 : Value} (h : hx_CV cc G mcR msR idx ci 2 spec mc ms) (d : decode cc pc = .ok (.invokevirtual idx, 3)) (hs : Λ.1 k0 = (0, ci)) (hc : (rest.map fun v => v.category).sum ≤ 8) (h1 : u.1 + mc ≤ mcR) (h2 : u.2 + ms ≤ msR) (k : spec Λ μ [.ref k0, a0, a1] (fun r Λ1 μ1 => G Λ1 μ1 (u.1 + mc, u.2 + ms) (pc + 3) lv (r.toList ++ rest))) : G Λ μ u pc lv (a1 :: a0 :: .ref k0 :: rest) := h pc d Λ μ u lv k0 [a0, a1] rest rfl hs hc h1 h2 k
theorem cl_callS2 {a0 a1 : Value} (h : hx_CS cc G mcR msR idx 2 spec mc ms) (d : decode cc pc = .ok (.invokestatic idx, 3)) (hc : (rest.map fun v => v.category).sum ≤ 8) (h1 : u.1 + mc ≤ mcR) (h2 : u.2 + ms ≤ msR) (k : spec Λ μ [a0, a1] (fun r Λ1 μ1 => G Λ1 μ1 (u.1 + mc, u.2 + ms) (pc + 3) lv (r.toList ++ rest))) : G Λ μ u pc lv (a1 :: a0 :: rest) := h pc d Λ μ u lv [a0, a1] rest rfl hc h1 h2 k
theorem cl_callI2 {a0 a1 : Value} (h : hx_CI cc G mcR msR idx 2 spec mc ms) (d : decode cc pc = .ok (.invokespecial idx, 3)) (hc : (rest.map fun v => v.category).sum ≤ 8) (h1 : u.1 + mc ≤ mcR) (h2 : u.2 + ms ≤ msR) (k : spec Λ μ [.ref k0, a0, a1] (fun r Λ1 μ1 => G Λ1 μ1 (u.1 + mc, u.2 + ms) (pc + 3) lv (r.toList ++ rest))) : G Λ μ u pc lv (a1 :: a0 :: .ref k0 :: rest) := h pc d Λ μ u lv k0 [a0, a1] rest rfl hc h1 h2 k
theorem cl_callV3 {a0 a1 a2 : Value} (h : hx_CV cc G mcR msR idx ci 3 spec mc ms) (d : decode cc pc = .ok (.invokevirtual idx, 3)) (hs : Λ.1 k0 = (0, ci)) (hc : (rest.map fun v => v.category).sum ≤ 8) (h1 : u.1 + mc ≤ mcR) (h2 : u.2 + ms ≤ msR) (k : spec Λ μ [.ref k0, a0, a1, a2] (fun r Λ1 μ1 => G Λ1 μ1 (u.1 + mc, u.2 + ms) (pc + 3) lv (r.toList ++ rest))) : G Λ μ u pc lv (a2 :: a1 :: a0 :: .ref k0 :: rest) := h pc d Λ μ u lv k0 [a0, a1, a2] rest rfl hs hc h1 h2 k
theorem cl_callS3 {a0 a1 a2 : Value} (h : hx_CS cc G mcR msR idx 3 spec mc ms) (d : decode cc pc = .ok (.invokestatic idx, 3)) (hc : (rest.map fun v => v.category).sum ≤ 8) (h1 : u.1 + mc ≤ mcR) (h2 : u.2 + ms ≤ msR) (k : spec Λ μ [a0, a1, a2] (fun r Λ1 μ1 => G Λ1 μ1 (u.1 + mc, u.2 + ms) (pc + 3) lv (r.toList ++ rest))) : G Λ μ u pc lv (a2 :: a1 :: a0 :: rest) := h pc d Λ μ u lv [a0, a1, a2] rest rfl hc h1 h2 k
theorem cl_callI3 {a0 a1 a2 : Value} (h : hx_CI cc G mcR msR idx 3 spec mc ms) (d : decode cc pc = .ok (.invokespecial idx, 3)) (hc : (rest.map fun v => v.category).sum ≤ 8) (h1 : u.1 + mc ≤ mcR) (h2 : u.2 + ms ≤ msR) (k : spec Λ μ [.ref k0, a0, a1, a2] (fun r Λ1 μ1 => G Λ1 μ1 (u.1 + mc, u.2 + ms) (pc + 3) lv (r.toList ++ rest))) : G Λ μ u pc lv (a2 :: a1 :: a0 :: .ref k0 :: rest) := h pc d Λ μ u lv k0 [a0, a1, a2] rest rfl hc h1 h2 k
theorem cl_callV4 {a0 a1 a2 a3 : Value} (h : hx_CV cc G mcR msR idx ci 4 spec mc ms) (d : decode cc pc = .ok (.invokevirtual idx, 3)) (hs : Λ.1 k0 = (0, ci)) (hc : (rest.map fun v => v.category).sum ≤ 8) (h1 : u.1 + mc ≤ mcR) (h2 : u.2 + ms ≤ msR) (k : spec Λ μ [.ref k0, a0, a1, a2, a3] (fun r Λ1 μ1 => G Λ1 μ1 (u.1 + mc, u.2 + ms) (pc + 3) lv (r.toList ++ rest))) : G Λ μ u pc lv (a3 :: a2 :: a1 :: a0 :: .ref k0 :: rest) := h pc d Λ μ u lv k0 [a0, a1, a2, a3] rest rfl hs hc h1 h2 k
theorem cl_callS4 {a0 a1 a2 a3 : Value} (h : hx_CS cc G mcR msR idx 4 spec mc ms) (d : decode cc pc = .ok (.invokestatic idx, 3)) (hc : (rest.map fun v => v.category).sum ≤ 8) (h1 : u.1 + mc ≤ mcR) (h2 : u.2 + ms ≤ msR) (k : spec Λ μ [a0, a1, a2, a3] (fun r Λ1 μ1 => G Λ1 μ1 (u.1 + mc, u.2 + ms) (pc + 3) lv (r.toList ++ rest))) : G Λ μ u pc lv (a3 :: a2 :: a1 :: a0 :: rest) := h pc d Λ μ u lv [a0, a1, a2, a3] rest rfl hc h1 h2 k
theorem cl_callI4 {a0 a1 a2 a3 : Value} (h : hx_CI cc G mcR msR idx 4 spec mc ms) (d : decode cc pc = .ok (.invokespecial idx, 3)) (hc : (rest.map fun v => v.category).sum ≤ 8) (h1 : u.1 + mc ≤ mcR) (h2 : u.2 + ms ≤ msR) (k : spec Λ μ [.ref k0, a0, a1, a2, a3] (fun r Λ1 μ1 => G Λ1 μ1 (u.1 + mc, u.2 + ms) (pc + 3) lv (r.toList ++ rest))) : G Λ μ u pc lv (a3 :: a2 :: a1 :: a0 :: .ref k0 :: rest) := h pc d Λ μ u lv k0 [a0, a1, a2, a3] rest rfl hc h1 h2 k
theorem cl_callV5 {a0 a1 a2 a3 a4 : Value} (h : hx_CV cc G mcR msR idx ci 5 spec mc ms) (d : decode cc pc = .ok (.invokevirtual idx, 3)) (hs : Λ.1 k0 = (0, ci)) (hc : (rest.map fun v => v.category).sum ≤ 8) (h1 : u.1 + mc ≤ mcR) (h2 : u.2 + ms ≤ msR) (k : spec Λ μ [.ref k0, a0, a1, a2, a3, a4] (fun r Λ1 μ1 => G Λ1 μ1 (u.1 + mc, u.2 + ms) (pc + 3) lv (r.toList ++ rest))) : G Λ μ u pc lv (a4 :: a3 :: a2 :: a1 :: a0 :: .ref k0 :: rest) := h pc d Λ μ u lv k0 [a0, a1, a2, a3, a4] rest rfl hs hc h1 h2 k
theorem cl_callS5 {a0 a1 a2 a3 a4 : Value} (h : hx_CS cc G mcR msR idx 5 spec mc ms) (d : decode cc pc = .ok (.invokestatic idx, 3)) (hc : (rest.map fun v => v.category).sum ≤ 8) (h1 : u.1 + mc ≤ mcR) (h2 : u.2 + ms ≤ msR) (k : spec Λ μ [a0, a1, a2, a3, a4] (fun r Λ1 μ1 => G Λ1 μ1 (u.1 + mc, u.2 + ms) (pc + 3) lv (r.toList ++ rest))) : G Λ μ u pc lv (a4 :: a3 :: a2 :: a1 :: a0 :: rest) := h pc d Λ μ u lv [a0, a1, a2, a3, a4] rest rfl hc h1 h2 k
theorem cl_callI5 {a0 a1 a2 a3 a4 : Value} (h : hx_CI cc G mcR msR idx 5 spec mc ms) (d : decode cc pc = .ok (.invokespecial idx, 3)) (hc : (rest.map fun v => v.category).sum ≤ 8) (h1 : u.1 + mc ≤ mcR) (h2 : u.2 + ms ≤ msR) (k : spec Λ μ [.ref k0, a0, a1, a2, a3, a4] (fun r Λ1 μ1 => G Λ1 μ1 (u.1 + mc, u.2 + ms) (pc + 3) lv (r.toList ++ rest))) : G Λ μ u pc lv (a4 :: a3 :: a2 :: a1 :: a0 :: .ref k0 :: rest) := h pc d Λ μ u lv k0 [a0, a1, a2, a3, a4] rest rfl hc h1 h2 k
theorem cl_callV6 {a0 a1 a2 a3 a4 a5 : Value} (h : hx_CV cc G mcR msR idx ci 6 spec mc ms) (d : decode cc pc = .ok (.invokevirtual idx, 3)) (hs : Λ.1 k0 = (0, ci)) (hc : (rest.map fun v => v.category).sum ≤ 8) (h1 : u.1 + mc ≤ mcR) (h2 : u.2 + ms ≤ msR) (k : spec Λ μ [.ref k0, a0, a1, a2, a3, a4, a5] (fun r Λ1 μ1 => G Λ1 μ1 (u.1 + mc, u.2 + ms) (pc + 3) lv (r.toList ++ rest))) : G Λ μ u pc lv (a5 :: a4 :: a3 :: a2 :: a1 :: a0 :: .ref k0 :: rest) := h pc d Λ μ u lv k0 [a0, a1, a2, a3, a4, a5] rest rfl hs hc h1 h2 k
theorem cl_callS6 {a0 a1 a2 a3 a4 a5 : Value} (h : hx_CS cc G mcR msR idx 6 spec mc ms) (d : decode cc pc = .ok (.invokestatic idx, 3)) (hc : (rest.map fun v => v.category).sum ≤ 8) (h1 : u.1 + mc ≤ mcR) (h2 : u.2 + ms ≤ msR) (k : spec Λ μ [a0, a1, a2, a3, a4, a5] (fun r Λ1 μ1 => G Λ1 μ1 (u.1 + mc, u.2 + ms) (pc + 3) lv (r.toList ++ rest))) : G Λ μ u pc lv (a5 :: a4 :: a3 :: a2 :: a1 :: a0 :: rest) := h pc d Λ μ u lv [a0, a1, a2, a3, a4, a5] rest rfl hc h1 h2 k
theorem cl_callI6 {a0 a1 a2 a3 a4 a5 : Value} (h : hx_CI cc G mcR msR idx 6 spec mc ms) (d : decode cc pc = .ok (.invokespecial idx, 3)) (hc : (rest.map fun v => v.category).sum ≤ 8) (h1 : u.1 + mc ≤ mcR) (h2 : u.2 + ms ≤ msR) (k : spec Λ μ [.ref k0, a0, a1, a2, a3, a4, a5] (fun r Λ1 μ1 => G Λ1 μ1 (u.1 + mc, u.2 + ms) (pc + 3) lv (r.toList ++ rest))) : G Λ μ u pc lv (a5 :: a4 :: a3 :: a2 :: a1 :: a0 :: .ref k0 :: rest) := h pc d Λ μ u lv k0 [a0, a1, a2, a3, a4, a5] rest rfl hc h1 h2 k
end HXL
