/-! constants outside the store: a text, its bytes, a static -/
section HXT
variable {p : Program} {l : Launch} {e : Env} {R : Room} {s : State} {m : MethodId} {args : Array Value} {below : List Frame} {meth : Method} {c : Code} {Q : State → Prop}
variable {dC : Nat → ClassId} {dI : Nat → Nat → Nat} {cA : Nat → ClassId} {A : Nat → Prop} {nL N0 : Nat} {ad0 : Nat → Nat} {Λ : hx_L} {μ : hx_M} {lv : hx_V} {rest : List Value} {u : Nat × Nat} {pc : Nat} {cc : ByteArray}
theorem hr_i2c (hx : p.tables.exec = Jvm.exec) (hb : c.code = cc) {H0 : Heap} {x : Int32} (d : decode cc pc = .ok (.i2c, 1)) (k : hx_G p l e R s m args below meth c Q dC dI cA A H0 nL N0 ad0 Λ μ u (pc + 1) lv (.int (x.toUInt32 % 65536).toInt32 :: rest)) : hx_G p l e R s m args below meth c Q dC dI cA A H0 nL N0 ad0 Λ μ u pc lv (.int x :: rest) := by
  intro ad H locs ls B
  exact lv_i2c hx hb d rfl (k ad H locs ls (B.stk fun h => ⟨hx_wi, h.2⟩))
theorem hx_wc {N k : Nat} : hx_wv N (.retAddr k) := fun _ h => by cases h
theorem hx_Bc {st : List Value} {ad : Nat → Nat} {H : Heap} {locs : List Loc} {ls : Array Slot} (B : hx_B dC dI cA A s.heap nL N0 ad0 Λ μ lv st ad H locs ls) (k : Nat) : ad (k + hx_big) = ad0 (k + hx_big) := B.1 _ (Or.inr (Nat.le_add_left _ _))
theorem hr_ldcS (hx : p.tables.exec = Jvm.exec) (hb : c.code = cc) (X : hx_X A ad0 s) (hown : s.vm.findClass "HemLine$LawReader" = some m.cls) (d : decode cc pc = .ok (.ldc 78, 2)) (k : hx_G p l e R s m args below meth c Q dC dI cA A s.heap nL N0 ad0 Λ μ u (pc + 2) lv (.retAddr 0 :: rest)) : hx_G p l e R s m args below meth c Q dC dI cA A s.heap nL N0 ad0 Λ μ u pc lv rest := by
  intro ad H locs ls B
  have hk := k ad H locs ls (B.stk fun h => ⟨hx_wc, h⟩)
  rw [List.map_cons, show hx_tr ad (.retAddr 0) = .ref (ad (0 + hx_big)) from rfl, hx_Bc B] at hk
  exact va_ldcS hx hb hown X.2.2.1 d hk
theorem hr_compact (hx : p.tables.exec = Jvm.exec) (hb : c.code = cc) (X : hx_X A ad0 s) {own : String} {i : Nat} (hown : s.vm.findClass own = some m.cls) (w1 : (Cond.fieldLink own i "java/lang/String" "COMPACT_STRINGS" "Z").before args s = true) (d : decode cc pc = .ok (.getstatic i, 3)) (k : hx_G p l e R s m args below meth c Q dC dI cA A s.heap nL N0 ad0 Λ μ u (pc + 3) lv (.int 1 :: rest)) : hx_G p l e R s m args below meth c Q dC dI cA A s.heap nL N0 ad0 Λ μ u pc lv rest := by
  intro ad H locs ls B
  exact va_gets hx hb X.2.2.2.1 B.S hown w1 (fun _ h => h) d (k ad H locs ls (B.stk fun h => ⟨hx_wi, h⟩))
theorem hr_sioobe (hx : p.tables.exec = Jvm.exec) (hb : c.code = cc) (X : hx_X A ad0 s) {own : String} {i : Nat} (hown : s.vm.findClass own = some m.cls) (w1 : (Cond.fieldLink own i "jdk/internal/util/Preconditions" "SIOOBE_FORMATTER" "Ljava/util/function/BiFunction;").before args s = true) (d : decode cc pc = .ok (.getstatic i, 3)) (k : ∀ v : Value, v.category = 1 → hx_G p l e R s m args below meth c Q dC dI cA A s.heap nL N0 ad0 Λ μ u (pc + 3) lv (v :: rest)) : hx_G p l e R s m args below meth c Q dC dI cA A s.heap nL N0 ad0 Λ μ u pc lv rest := by
  intro ad H locs ls B
  rcases X.2.2.2.2 with h | h
  · exact va_gets hx hb h B.S hown w1 (fun _ h => h) d (k .null rfl ad H locs ls (B.stk fun h => ⟨hx_wn, h⟩))
  · have hk := k (.retAddr 2) rfl ad H locs ls (B.stk fun h => ⟨hx_wc, h⟩)
    rw [List.map_cons, show hx_tr ad (.retAddr 2) = .ref (ad (2 + hx_big)) from rfl, hx_Bc B] at hk
    exact va_gets hx hb h B.S hown w1 (fun _ h => h) d hk
theorem hr_value (hx : p.tables.exec = Jvm.exec) (hb : c.code = cc) (X : hx_X A ad0 s) {own : String} {i : Nat} (hown : s.vm.findClass own = some m.cls) (w1 : (Cond.fieldLink own i "java/lang/String" "value" "[B").before args s = true) (d : decode cc pc = .ok (.getfield i, 3)) (k : hx_G p l e R s m args below meth c Q dC dI cA A s.heap nL N0 ad0 Λ μ u (pc + 3) lv (.retAddr 1 :: rest)) : hx_G p l e R s m args below meth c Q dC dI cA A s.heap nL N0 ad0 Λ μ u pc lv (.retAddr 0 :: rest) := by
  intro ad H locs ls B
  have hk := k ad H locs ls (B.stk fun h => ⟨hx_wc, h.2⟩)
  rw [List.map_cons, show hx_tr ad (.retAddr 1) = .ref (ad (1 + hx_big)) from rfl, hx_Bc B] at hk
  rw [List.map_cons, show hx_tr ad (.retAddr 0) = .ref (ad (0 + hx_big)) from rfl, hx_Bc B]
  exact vk_getf hx hb (X.2.1.1 0 (by decide)).2.2.1 B.S hown w1 (fun _ h => h) d hk
theorem hr_coder (hx : p.tables.exec = Jvm.exec) (hb : c.code = cc) (X : hx_X A ad0 s) {own : String} {i : Nat} (hown : s.vm.findClass own = some m.cls) (w1 : (Cond.fieldLink own i "java/lang/String" "coder" "B").before args s = true) (d : decode cc pc = .ok (.getfield i, 3)) (k : hx_G p l e R s m args below meth c Q dC dI cA A s.heap nL N0 ad0 Λ μ u (pc + 3) lv (.int 0 :: rest)) : hx_G p l e R s m args below meth c Q dC dI cA A s.heap nL N0 ad0 Λ μ u pc lv (.retAddr 0 :: rest) := by
  intro ad H locs ls B
  have hk := k ad H locs ls (B.stk fun h => ⟨hx_wi, h.2⟩)
  rw [List.map_cons, show hx_tr ad (.retAddr 0) = .ref (ad (0 + hx_big)) from rfl, hx_Bc B]
  exact vk_getf hx hb (X.2.1.1 0 (by decide)).2.1 B.S hown w1 (fun _ h => h) d hk
theorem hr_blen (hx : p.tables.exec = Jvm.exec) (hb : c.code = cc) (X : hx_X A ad0 s) (d : decode cc pc = .ok (.arraylength, 1)) (k : hx_G p l e R s m args below meth c Q dC dI cA A s.heap nL N0 ad0 Λ μ u (pc + 1) lv (.int 126 :: rest)) : hx_G p l e R s m args below meth c Q dC dI cA A s.heap nL N0 ad0 Λ μ u pc lv (.retAddr 1 :: rest) := by
  intro ad H locs ls B
  have hk := k ad H locs ls (B.stk fun h => ⟨hx_wi, h.2⟩)
  rw [List.map_cons, show hx_tr ad (.retAddr 1) = .ref (ad (1 + hx_big)) from rfl, hx_Bc B]
  exact va_tlen hx hb (X.2.1.1 0 (by decide)).2.2.2 B.S rfl d hk
theorem hr_bget (hx : p.tables.exec = Jvm.exec) (hb : c.code = cc) (X : hx_X A ad0 s) {i : Int32} (hi : vp_in i 126) (d : decode cc pc = .ok (.baload, 1)) (k : hx_G p l e R s m args below meth c Q dC dI cA A s.heap nL N0 ad0 Λ μ u (pc + 1) lv (.int (hx_bytes.getD i.toNatClampNeg 0) :: rest)) : hx_G p l e R s m args below meth c Q dC dI cA A s.heap nL N0 ad0 Λ μ u pc lv (.int i :: .retAddr 1 :: rest) := by
  intro ad H locs ls B
  have hk := k ad H locs ls (B.stk fun h => ⟨hx_wi, h.2.2⟩)
  rw [List.map_cons, List.map_cons, show hx_tr ad (.retAddr 1) = .ref (ad (1 + hx_big)) from rfl, hx_Bc B]
  exact va_tb hx hb (X.2.1.1 0 (by decide)).2.2.2 B.S hi rfl d hk
end HXT
/-- a call on the text -/
def hx_CT (cc : ByteArray) (G : hx_GT) (idx n : Nat) (spec : hx_ST) : Prop :=
  ∀ pc, decode cc pc = .ok (.invokevirtual idx, 3) → ∀ (Λ : hx_L) (μ : hx_M) (u : Nat × Nat) (lv : hx_V) (as rest : List Value), as.length = n → (rest.map fun v => v.category).sum ≤ 8 → u.1 ≤ 0 → u.2 ≤ 0 →
    spec Λ μ (.retAddr 0 :: as) (fun r Λ' μ' => G Λ' μ' u (pc + 3) lv (r.toList ++ rest)) → G Λ μ u pc lv (as.reverse ++ .retAddr 0 :: rest)
def hx_KS (own : String) (cc : ByteArray) (h : Nat) (G : hx_GT) : Prop :=
  (own = "HemLine$LawReader" → ∀ pc, decode cc pc = .ok (.ldc 78, 2) → ∀ Λ μ u lv st, G Λ μ u (pc + 2) lv (.retAddr 0 :: st) → G Λ μ u pc lv st) ∧
  (∀ i, Cond.fieldLink own i "java/lang/String" "COMPACT_STRINGS" "Z" ∈ hx_tbl → ∀ pc, decode cc pc = .ok (.getstatic i, 3) → ∀ Λ μ u lv st, G Λ μ u (pc + 3) lv (.int 1 :: st) → G Λ μ u pc lv st) ∧
  (∀ i, Cond.fieldLink own i "jdk/internal/util/Preconditions" "SIOOBE_FORMATTER" "Ljava/util/function/BiFunction;" ∈ hx_tbl → ∀ pc, decode cc pc = .ok (.getstatic i, 3) → ∀ Λ μ u lv st, (∀ v : Value, v.category = 1 → G Λ μ u (pc + 3) lv (v :: st)) → G Λ μ u pc lv st) ∧
  (∀ i, Cond.fieldLink own i "java/lang/String" "value" "[B" ∈ hx_tbl → ∀ pc, decode cc pc = .ok (.getfield i, 3) → ∀ Λ μ u lv st, G Λ μ u (pc + 3) lv (.retAddr 1 :: st) → G Λ μ u pc lv (.retAddr 0 :: st)) ∧
  (∀ i, Cond.fieldLink own i "java/lang/String" "coder" "B" ∈ hx_tbl → ∀ pc, decode cc pc = .ok (.getfield i, 3) → ∀ Λ μ u lv st, G Λ μ u (pc + 3) lv (.int 0 :: st) → G Λ μ u pc lv (.retAddr 0 :: st)) ∧
  (∀ pc, decode cc pc = .ok (.arraylength, 1) → ∀ Λ μ u lv st, G Λ μ u (pc + 1) lv (.int 126 :: st) → G Λ μ u pc lv (.retAddr 1 :: st)) ∧
  (∀ (i : Int32), vp_in i 126 → ∀ pc, decode cc pc = .ok (.baload, 1) → ∀ Λ μ u lv st, G Λ μ u (pc + 1) lv (.int (hx_bytes.getD i.toNatClampNeg 0) :: st) → G Λ μ u pc lv (.int i :: .retAddr 1 :: st)) ∧
  (∀ (x : Int32), ∀ pc, decode cc pc = .ok (.i2c, 1) → ∀ Λ μ u lv st, G Λ μ u (pc + 1) lv (.int (x.toUInt32 % 65536).toInt32 :: st) → G Λ μ u pc lv (.int x :: st)) ∧
  (∀ (n : Fin 4) (k : Nat), ∀ pc, decode cc pc = .ok (.aload_n n, 1) → ∀ Λ μ u (lv : hx_V) st, lv[(n : Nat)]? = some (some (.retAddr k)) → G Λ μ u (pc + 1) lv (.retAddr k :: st) → G Λ μ u pc lv st) ∧
  (∀ {y : MethodName} {cc' : ByteArray} {maxL : Nat} {ret : Option FieldType} {h' : Nat} {spec : hx_ST} {idx n : Nat}, hx_Con y cc' maxL ret h' 0 0 spec → y.cls = "java/lang/String" → hx_yok y n →
    Cond.methodLink own idx y ∈ hx_tbl → Cond.instanceMethod y ∈ hx_tbl → Cond.selects y.cls y y ∈ hx_tbl → Cond.initialized y.cls ∈ hx_tbl → Cond.code y cc' maxL ret ∈ hx_tbl → h' + 1 ≤ h → maxL ≤ 21 → hx_CT cc G idx n spec)
section HXU
variable {p : Program} {l : Launch} {e : Env} {s : State} {m : MethodId} {args : Array Value} {below : List Frame} {meth : Method} {c : Code} {Q : State → Prop}
variable {dC : Nat → ClassId} {dI : Nat → Nat → Nat} {cA : Nat → ClassId} {A : Nat → Prop} {nL N0 h : Nat} {ad0 : Nat → Nat} {cc : ByteArray} {own : String} {ret0 : Option FieldType}
theorem hx_KS_G (C : hx_C p s m args meth c dC dI cA nL cc own ret0) (hA : ∀ q, s.heap.size ≤ q → A q) (X : hx_X A ad0 s) : hx_KS own cc h (hx_G p l e (hx_rm h 0 0) s m args below meth c Q dC dI cA A s.heap nL N0 ad0) := by
  refine ⟨?_, ?_, ?_, ?_, ?_, ?_, ?_, ?_, ?_, ?_⟩
  · intro ho pc d Λ μ u lv st k
    subst ho
    exact hr_ldcS C.1 C.2.1 X C.2.2.2.2.1 d k
  · intro i w1 pc d Λ μ u lv st k
    exact hr_compact C.1 C.2.1 X C.2.2.2.2.1 (C.2.2.2.1 _ w1) d k
  · intro i w1 pc d Λ μ u lv st k
    exact hr_sioobe C.1 C.2.1 X C.2.2.2.2.1 (C.2.2.2.1 _ w1) d k
  · intro i w1 pc d Λ μ u lv st k
    exact hr_value C.1 C.2.1 X C.2.2.2.2.1 (C.2.2.2.1 _ w1) d k
  · intro i w1 pc d Λ μ u lv st k
    exact hr_coder C.1 C.2.1 X C.2.2.2.2.1 (C.2.2.2.1 _ w1) d k
  · intro pc d Λ μ u lv st k
    exact hr_blen C.1 C.2.1 X d k
  · intro i hi pc d Λ μ u lv st k
    exact hr_bget C.1 C.2.1 X hi d k
  · intro x pc d Λ μ u lv st k
    exact hr_i2c C.1 C.2.1 d k
  · intro n k pc d Λ μ u lv st hv k9 ad H locs ls B
    exact lv_aload_n C.1 C.2.1 d rfl (B.h.at hv) (k9 ad H locs ls (B.stk fun h => ⟨hx_wc, h⟩))
  · intro y cc' maxL ret h' spec idx n hCon hyc hy w1 w2 w3 w4 w5 hh hm pc hd Λ μ u lv as rest hn hcat hu1 hu2 hsp ad H locs ls B
    have hw := hx_ws_app.mp B.ws
    have hws : hx_ws Λ.2.2 (.retAddr 0 :: as) := ⟨hx_wc, hx_ws_rev.mp hw.1⟩
    have hM := hCon l dC dI cA ad Λ μ (.retAddr 0 :: as) H.size _ hsp
    have hP := hx_preS (as := .retAddr 0 :: as) C.2.2.2.2.2.1 hA X B hws
    have hcw : CallW (hx_rm h 0 0) s args own "java/lang/String" idx y cc' maxL ret (Cond.code y cc' maxL ret :: hx_tbl) (hx_rm h' 0 0) 0 0 n := cwV n C.2.2.2.1 (hx_good (by intro w hw9; simp only [wsV, List.mem_append, List.mem_cons, List.not_mem_nil, or_false] at hw9; rcases hw9 with (rfl | rfl | rfl | rfl) | rfl | h9 <;> first | assumption | (rw [← hyc]; assumption))) rfl rfl rfl ⟨hyc, hy⟩ (hx_room hh hm)
    have hlen : ls.size = nL := by obtain ⟨l0, h9, -⟩ := B.h; exact h9.1
    have hrec := vk_recv X.2.1 (by decide : 0 < 1) B.S
    have ec : hx_tr ad (.retAddr 0) = .ref (ad0 (0 + hx_big)) := by
      show Value.ref (ad (0 + hx_big)) = _
      rw [hx_Bc B]
    have hP2 : ∀ U : State, U.heap = H → s.WarmedH U.vm → va_Pc ((Value.retAddr 0 :: as).map (hx_tr ad)) (fun U => U.heap.size = H.size ∧ hx_ok Λ ∧ hx_ws Λ.2.2 (.retAddr 0 :: as) ∧ va_P (dC, dI) vwCl (hx_W cA ad Λ μ) U.heap ∧ va_K (dC, dI) vwCl (hx_tys cA) U ∧ va_D (fun _ => True) (hx_W cA ad Λ μ) ∧ hx_X (va_A (hx_W cA ad Λ μ) H.size) ad U) (Value.ref (ad0 (0 + hx_big)) :: as.map (hx_tr ad)).toArray U := by
      intro U a b
      have := hP.2 U a b
      rw [List.map_cons, ec] at this
      rw [List.map_cons, ec]
      exact this
    rw [List.map_append, List.map_reverse, List.map_cons, ec]
    exact hx_after (a := (Value.ref (ad0 (0 + hx_big)) :: as.map (hx_tr ad)).toArray) (mc := 0) (ms := 0) hA B hw.2.2 (va_runV (As := as.map (hx_tr ad)) (b := ad0 (0 + hx_big)) (C := "java/lang/String") ⟨C.1, C.2.1, C.2.2.1, C.2.2.2.2.1, C.2.2.2.1⟩ hM hcw ⟨hP.1, hrec, hP2⟩ rfl (by rw [List.length_map]; exact hn) hlen rfl (lv_room (hx_cat hcat)) hd ⟨hu1, hu2⟩)
end HXU
theorem hx_con_ofS {y : MethodName} {cc : ByteArray} {maxL : Nat} {ret : Option FieldType} {h : Nat} {spec : hx_ST} {T : hx_T} (hpl : plainName y.cls = true) (hT : hx_tok y.cls T) (hh : 1 ≤ h)
    (hfit : ∀ Λ μ as K, spec Λ μ as K → (as.map fun v => v.category).sum ≤ maxL)
    (walk : ∀ (G : hx_GT) (K : hx_KT), hx_K cc maxL 0 0 ret T K G → hx_KS y.cls cc h G → hx_CA y.cls cc h 0 0 G → ∀ (Λ : hx_L) (μ : hx_M) (as : List Value), spec Λ μ as K → G Λ μ (0, 0) 0 (hx_al as) []) : hx_Con y cc maxL ret h 0 0 spec := by
  intro l dC dI cA ad Λ μ as sz K hsp
  refine Met.ofW (cc := cc) (maxL := maxL) (ret := ret) hpl rfl ?_
  intro p e s m args below meth c s₁ B hml hv
  obtain ⟨rfl, hsz, hok, hws, hP, hK, hD0, hX⟩ := hv
  have hts := atoms_spec (ws := Cond.code y cc maxL ret :: hx_tbl) B.pre
  have C : hx_C p s m ((as.map (hx_tr ad)).toArray) meth c dC dI cA maxL cc y.cls ret := ⟨B.exec, B.bytes, hml, fun w hw => hts w (List.mem_cons_of_mem _ hw), findClass_of_methodNamed B.named, hK, B.returns, B.notSynchronized⟩
  subst hsz
  have hA : ∀ q : Nat, s.heap.size ≤ q → va_A (hx_W cA ad Λ μ) s.heap.size q := fun q h => Or.inr h
  rw [lg_entry_eq]
  have hfit1 : (lg_sl (as.map (hx_tr ad))).length ≤ maxL := by rw [hx_sl_len]; exact hfit _ _ _ _ hsp
  have hl := lv_entry (as.map (hx_tr ad)) hfit1
  have hG := walk (hx_G p l e (hx_rm h 0 0) s m ((as.map (hx_tr ad)).toArray) below meth c (MQ below (hx_Q dC dI cA ad Λ.2.2 (va_A (hx_W cA ad Λ μ) s.heap.size) K) ((as.map (hx_tr ad)).toArray) s 0 0 (va_A (hx_W cA ad Λ μ) s.heap.size)) dC dI cA (va_A (hx_W cA ad Λ μ) s.heap.size) s.heap maxL Λ.2.2 ad) K
    (hx_K_G C hT ⟨hh, by show 8 + 29 ≤ 40 * h; omega, Nat.le_refl _, Nat.le_refl _⟩) (hx_KS_G C hA hX) (hx_CA_G C hA hX) Λ μ as hsp
  exact hG ad s.heap [] _ ⟨fun _ _ => rfl, Nat.le_refl _, hok, trivial, fun i v h => hx_ws_mem hws v (hx_al_args ad as 0 i v h).2, hP, hD0.self, va_S.rf, ⟨_, hl, fun i v h => by simpa using (hx_al_args ad as 0 i v h).1⟩⟩
theorem cl_callT0 {cc : ByteArray} {G : hx_GT} {idx : Nat} {spec : hx_ST} {Λ : hx_L} {μ : hx_M} {u : Nat × Nat} {pc : Nat} {lv : hx_V} {rest : List Value} (h : hx_CT cc G idx 0 spec) (d : decode cc pc = .ok (.invokevirtual idx, 3)) (hc : (rest.map fun v => v.category).sum ≤ 8) (h1 : u.1 ≤ 0) (h2 : u.2 ≤ 0) (k : spec Λ μ [.retAddr 0] (fun r Λ1 μ1 => G Λ1 μ1 u (pc + 3) lv (r.toList ++ rest))) : G Λ μ u pc lv (.retAddr 0 :: rest) := h pc d Λ μ u lv [] rest rfl hc h1 h2 k
theorem cl_callT1 {a : Value} {cc : ByteArray} {G : hx_GT} {idx : Nat} {spec : hx_ST} {Λ : hx_L} {μ : hx_M} {u : Nat × Nat} {pc : Nat} {lv : hx_V} {rest : List Value} (h : hx_CT cc G idx 1 spec) (d : decode cc pc = .ok (.invokevirtual idx, 3)) (hc : (rest.map fun v => v.category).sum ≤ 8) (h1 : u.1 ≤ 0) (h2 : u.2 ≤ 0) (k : spec Λ μ [.retAddr 0, a] (fun r Λ1 μ1 => G Λ1 μ1 u (pc + 3) lv (r.toList ++ rest))) : G Λ μ u pc lv (a :: .retAddr 0 :: rest) := h pc d Λ μ u lv [a] rest rfl hc h1 h2 k
