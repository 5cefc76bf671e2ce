/-! makings as a closed judgement -/
/-- a class's makings: new (entry, class, slots), final fields (entry, class, slot, kind), arrays of objects (entry, kind), Object's constructor (entries) -/
abbrev hx_TA : Type := List (Nat × Nat × Nat) × List (Nat × Nat × Nat × Nat) × List (Nat × Nat) × List Nat
def hx_nok (own : String) (q : Nat × Nat × Nat) : Prop := ∃ (C : String) (T : u_T) (ty : Nat → FieldType), vwCl[q.2.1]? = some (C, T, q.2.2) ∧ (∀ w ∈ u_ws C T q.2.2, w ∈ hx_tbl) ∧ (∀ k, k < q.2.2 → parseFieldDescriptor (T k).2.2.1 = some (ty k)) ∧ Cond.classLink own q.1 C ∈ hx_tbl ∧ Cond.instantiable C q.2.2 ∈ hx_tbl ∧ Cond.initialized C ∈ hx_tbl ∧
  (∀ j, j < q.2.2 → (hx_fk q.2.1)[j]? = some (match ty j with | .int => 0 | .long => 1 | _ => 2) ∧ ((∃ x, ty j = .object x) ∨ (∃ x, ty j = .array x) ∨ ty j = .int ∨ ty j = .long)) ∧ (hx_fk q.2.1).length = q.2.2
def hx_ffok (own : String) (q : Nat × Nat × Nat × Nat) : Prop := ∃ (C : String) (T : u_T) (N : Nat) (ty0 : Nat → FieldType), vwCl[q.2.1]? = some (C, T, N) ∧ q.2.2.1 < N ∧ (hx_fk q.2.1)[q.2.2.1]? = some (if q.2.2.2 = 3 then 0 else 2) ∧ Cond.fieldLink own q.1 (T q.2.2.1).1 (T q.2.2.1).2.1 (T q.2.2.1).2.2.1 ∈ hx_tbl ∧ (∀ w ∈ u_ws C T N, w ∈ hx_tbl) ∧ (∀ k, k < N → parseFieldDescriptor (T k).2.2.1 = some (ty0 k)) ∧ (∀ a, a < N → ∀ b, b < N → a ≠ b → (T a).2.1 ≠ (T b).2.1) ∧ (T q.2.2.1).2.2.2 = true ∧ (T q.2.2.1).1 = own ∧ (q.2.2.2 = 3 → ty0 q.2.2.1 = .int) ∧ (q.2.2.2 = 2 → (∃ x, ty0 q.2.2.1 = .object x) ∨ ∃ x, ty0 q.2.2.1 = .array x)
def hx_aok (own : String) (q : Nat × Nat) : Prop := (q.2 = 5 ∧ Cond.classLink own q.1 "HemLine$Law" ∈ hx_tbl) ∨ (q.2 = 6 ∧ Cond.classLink own q.1 "HemLine$World" ∈ hx_tbl)
def hx_taok (own : String) (TA : hx_TA) : Prop := (∀ q ∈ TA.1, hx_nok own q) ∧ (∀ q ∈ TA.2.1, hx_ffok own q) ∧ (∀ q ∈ TA.2.2.1, hx_aok own q) ∧ (∀ i ∈ TA.2.2.2, Cond.methodLink own i objectInit ∈ hx_tbl)
def hx_KA (cc : ByteArray) (mc ms : Nat) (TA : hx_TA) (G : hx_GT) : Prop :=
  (∀ (i ci N : Nat), (i, ci, N) ∈ TA.1 → ∀ (pc : Nat) (Λ : hx_L) (μ : hx_M) (u : Nat × Nat) (lv : hx_V) (st : List Value), decode cc pc = .ok (.new i, 3) → u.1 + 1 ≤ mc → u.2 + N ≤ ms → Λ.2.2 < hx_big → G (hx_push Λ (0, ci)) (hx_z μ Λ.2.2) (u.1 + 1, u.2 + N) (pc + 3) lv (.ref Λ.2.2 :: st) → G Λ μ u pc lv st) ∧
  (∀ (n : Int32), ∀ (pc : Nat) (Λ : hx_L) (μ : hx_M) (u : Nat × Nat) (lv : hx_V) (st : List Value), decode cc pc = .ok (.newarray .int, 2) → ¬ n < 0 → n.toNatClampNeg ≤ 65536 → u.1 + 1 ≤ mc → u.2 + n.toNatClampNeg ≤ ms → Λ.2.2 < hx_big → G (hx_push Λ (1, n.toNatClampNeg)) (hx_z μ Λ.2.2) (u.1 + 1, u.2 + n.toNatClampNeg) (pc + 2) lv (.ref Λ.2.2 :: st) → G Λ μ u pc lv (.int n :: st)) ∧
  (∀ (n : Int32), ∀ (pc : Nat) (Λ : hx_L) (μ : hx_M) (u : Nat × Nat) (lv : hx_V) (st : List Value), decode cc pc = .ok (.newarray .byte, 2) → ¬ n < 0 → n.toNatClampNeg ≤ 65536 → u.1 + 1 ≤ mc → u.2 + n.toNatClampNeg ≤ ms → Λ.2.2 < hx_big → G (hx_push Λ (2, n.toNatClampNeg)) (hx_z μ Λ.2.2) (u.1 + 1, u.2 + n.toNatClampNeg) (pc + 2) lv (.ref Λ.2.2 :: st) → G Λ μ u pc lv (.int n :: st)) ∧
  (∀ (n : Int32), ∀ (pc : Nat) (Λ : hx_L) (μ : hx_M) (u : Nat × Nat) (lv : hx_V) (st : List Value), decode cc pc = .ok (.newarray .long, 2) → ¬ n < 0 → n.toNatClampNeg ≤ 65536 → u.1 + 1 ≤ mc → u.2 + n.toNatClampNeg ≤ ms → Λ.2.2 < hx_big → G (hx_push Λ (3, n.toNatClampNeg)) (hx_z μ Λ.2.2) (u.1 + 1, u.2 + n.toNatClampNeg) (pc + 2) lv (.ref Λ.2.2 :: st) → G Λ μ u pc lv (.int n :: st)) ∧
  (∀ (n : Int32), ∀ (pc : Nat) (Λ : hx_L) (μ : hx_M) (u : Nat × Nat) (lv : hx_V) (st : List Value), decode cc pc = .ok (.newarray .boolean, 2) → ¬ n < 0 → n.toNatClampNeg ≤ 65536 → u.1 + 1 ≤ mc → u.2 + n.toNatClampNeg ≤ ms → Λ.2.2 < hx_big → G (hx_push Λ (4, n.toNatClampNeg)) (hx_z μ Λ.2.2) (u.1 + 1, u.2 + n.toNatClampNeg) (pc + 2) lv (.ref Λ.2.2 :: st) → G Λ μ u pc lv (.int n :: st)) ∧
  (∀ (i kd : Nat) (n : Int32), (i, kd) ∈ TA.2.2.1 → ∀ (pc : Nat) (Λ : hx_L) (μ : hx_M) (u : Nat × Nat) (lv : hx_V) (st : List Value), decode cc pc = .ok (.anewarray i, 3) → ¬ n < 0 → n.toNatClampNeg ≤ 65536 → u.1 + 1 ≤ mc → u.2 + n.toNatClampNeg ≤ ms → Λ.2.2 < hx_big → G (hx_push Λ (kd, n.toNatClampNeg)) (hx_z μ Λ.2.2) (u.1 + 1, u.2 + n.toNatClampNeg) (pc + 3) lv (.ref Λ.2.2 :: st) → G Λ μ u pc lv (.int n :: st)) ∧
  (∀ (i ci j k0 : Nat) (v : Int32), (i, ci, j, 3) ∈ TA.2.1 → ∀ (pc : Nat) (Λ : hx_L) (μ : hx_M) (u : Nat × Nat) (lv : hx_V) (st : List Value), decode cc pc = .ok (.putfield i, 3) → Λ.1 k0 = (0, ci) → G Λ (hx_sI μ k0 j v) u (pc + 3) lv st → G Λ μ u pc lv (.int v :: .ref k0 :: st)) ∧
  (∀ (i ci j k0 q : Nat), (i, ci, j, 2) ∈ TA.2.1 → ∀ (pc : Nat) (Λ : hx_L) (μ : hx_M) (u : Nat × Nat) (lv : hx_V) (st : List Value), decode cc pc = .ok (.putfield i, 3) → Λ.1 k0 = (0, ci) → G (hx_sR Λ k0 j q) μ u (pc + 3) lv st → G Λ μ u pc lv (.ref q :: .ref k0 :: st)) ∧
  (∀ (k0 n q : Nat) (i : Int32), ∀ (pc : Nat) (Λ : hx_L) (μ : hx_M) (u : Nat × Nat) (lv : hx_V) (st : List Value), decode cc pc = .ok (.aastore, 1) → Λ.1 k0 = (5, n) → Λ.1 q = (0, 1) → vp_in i n → G (hx_sR Λ k0 i.toNatClampNeg q) μ u (pc + 1) lv st → G Λ μ u pc lv (.ref q :: .int i :: .ref k0 :: st)) ∧
  (∀ (k0 n q : Nat) (i : Int32), ∀ (pc : Nat) (Λ : hx_L) (μ : hx_M) (u : Nat × Nat) (lv : hx_V) (st : List Value), decode cc pc = .ok (.aastore, 1) → Λ.1 k0 = (6, n) → Λ.1 q = (0, 10) → vp_in i n → G (hx_sR Λ k0 i.toNatClampNeg q) μ u (pc + 1) lv st → G Λ μ u pc lv (.ref q :: .int i :: .ref k0 :: st)) ∧
  (∀ (i k0 : Nat), i ∈ TA.2.2.2 → ∀ (pc : Nat) (Λ : hx_L) (μ : hx_M) (u : Nat × Nat) (lv : hx_V) (st : List Value), decode cc pc = .ok (.invokespecial i, 3) → (st.map fun v => v.category).sum ≤ 8 → G Λ μ u (pc + 3) lv st → G Λ μ u pc lv (.ref k0 :: st))
section HXKA
variable {p : Program} {l : Launch} {e : Env} {s : State} {m : MethodId} {args : Array Value} {below : List Frame} {meth : Method} {c : Code} {Q : State → Prop}
variable {dC : Nat → ClassId} {dI : Nat → Nat → Nat} {cA : Nat → ClassId} {A : Nat → Prop} {nL N0 mc ms h : Nat} {ad0 : Nat → Nat} {cc : ByteArray} {own : String} {ret0 : Option FieldType}
theorem hx_KA_GR {hf lo : Nat} {TA : hx_TA} (C : hx_C p s m args meth c dC dI cA nL cc own ret0) (hA : ∀ q, s.heap.size ≤ q → A q) (X : hx_X A ad0 s) (hT : hx_taok own TA) (hin : TA.2.1 = [] ∨ meth.name = "<init>") (hh : 1 ≤ hf) (hlo0 : 37 ≤ lo) : hx_KA cc mc ms TA (hx_G p l e (hx_rR hf lo mc ms) s m args below meth c Q dC dI cA A s.heap nL N0 ad0) := by
  have hlo : 8 + 29 ≤ (hx_rR hf lo mc ms).locals := hlo0
  refine ⟨?_, ?_, ?_, ?_, ?_, ?_, ?_, ?_, ?_, ?_, ?_⟩
  · intro i ci N hm pc Λ μ u lv st d h1 h2 h3 k
    obtain ⟨Cn, T, ty, a1, a2, a3, a4, a5, a6, a7, a8⟩ := hT.1 _ hm
    exact hr_new C.1 C.2.1 C.2.2.2.1 a2 ty a3 C.2.2.2.2.1 a4 a5 a6 C.2.2.2.2.2.1 hA a1 a7 a8 h1 h2 h3 d k
  · intro n pc Λ μ u lv st d h0 hb h1 h2 h3 k
    exact hr_newaI C.1 C.2.1 C.2.2.2.1 hx_aI C.2.2.2.2.2.1 hA h0 hb h1 h2 h3 d k
  · intro n pc Λ μ u lv st d h0 hb h1 h2 h3 k
    exact hr_newaB C.1 C.2.1 C.2.2.2.1 hx_aB C.2.2.2.2.2.1 hA h0 hb h1 h2 h3 d k
  · intro n pc Λ μ u lv st d h0 hb h1 h2 h3 k
    exact hr_newaJ C.1 C.2.1 C.2.2.2.1 hx_aJ C.2.2.2.2.2.1 hA h0 hb h1 h2 h3 d k
  · intro n pc Λ μ u lv st d h0 hb h1 h2 h3 k
    exact hr_newaZ C.1 C.2.1 C.2.2.2.1 hx_aZ C.2.2.2.2.2.1 hA h0 hb h1 h2 h3 d k
  · intro i kd n hm pc Λ μ u lv st d h0 hb h1 h2 h3 k
    rcases hT.2.2.1 _ hm with ⟨h9, w1⟩ | ⟨h9, w1⟩
    · dsimp only at h9; subst h9
      exact hr_newqL C.1 C.2.1 C.2.2.2.2.1 C.2.2.2.1 w1 (X.1 _ hx_oL rfl) C.2.2.2.2.2.1 hA h0 hb h1 h2 h3 d k
    · dsimp only at h9; subst h9
      exact hr_newqW C.1 C.2.1 C.2.2.2.2.1 C.2.2.2.1 w1 (X.1 _ hx_oW rfl) C.2.2.2.2.2.1 hA h0 hb h1 h2 h3 d k
  · intro i ci j k0 v hm pc Λ μ u lv st d hs k
    obtain ⟨Cn, T, N, ty0, a1, a2, a3, a4, a5, a6, a7, a8, a9, a10, a11⟩ := hT.2.1 _ hm
    dsimp only at a1 a2 a3 a4 a8 a9 a10
    have hi := hin.resolve_left (fun z => by rw [z] at hm; cases hm)
    exact hr_putFI C.1 C.2.1 C.2.2.2.1 a5 C.2.2.2.2.1 C.2.2.2.2.2.1 a1 a2 a4 hs d ty0 a6 a7 a8 hi a9 a3 ((a6 j a2).trans (by rw [a10 rfl])) k
  · intro i ci j k0 q hm pc Λ μ u lv st d hs k
    obtain ⟨Cn, T, N, ty0, a1, a2, a3, a4, a5, a6, a7, a8, a9, a10, a11⟩ := hT.2.1 _ hm
    dsimp only at a1 a2 a3 a4 a8 a9 a11
    have hi := hin.resolve_left (fun z => by rw [z] at hm; cases hm)
    exact hr_putFR C.1 C.2.1 C.2.2.2.1 a5 C.2.2.2.2.1 C.2.2.2.2.2.1 a1 a2 a4 hs d ty0 a6 a7 a8 hi a9 a3 (a6 j a2) (a11 rfl) k
  · intro k0 n q i pc Λ μ u lv st d hs hq hi k
    exact hr_astL C.1 C.2.1 C.2.2.2.2.2.1 hs hq hi d k
  · intro k0 n q i pc Λ μ u lv st d hs hq hi k
    exact hr_astW C.1 C.2.1 C.2.2.2.2.2.1 hs hq hi d k
  · intro i k0 hm pc Λ μ u lv st d hc k
    exact hr_oinit C.1 C.2.1 C.2.2.1 C.2.2.2.2.1 C.2.2.2.1 (hT.2.2.2 _ hm) hx_oi hx_oc hh hlo hc d k
theorem hx_KA_G {TA : hx_TA} (C : hx_C p s m args meth c dC dI cA nL cc own ret0) (hA : ∀ q, s.heap.size ≤ q → A q) (X : hx_X A ad0 s) (hT : hx_taok own TA) (hin : TA.2.1 = [] ∨ meth.name = "<init>") (hh : 1 ≤ h) : hx_KA cc mc ms TA (hx_G p l e (hx_rm h mc ms) s m args below meth c Q dC dI cA A s.heap nL N0 ad0) := hx_KA_GR (hf := h) (lo := 40 * h) C hA X hT hin hh (by omega)
end HXKA
theorem hx_con_ofA {y : MethodName} {cc : ByteArray} {maxL : Nat} {ret : Option FieldType} {h mc ms : Nat} {spec : hx_ST} {T : hx_T} {TA : hx_TA} (hpl : plainName y.cls = true) (hT : hx_tok y.cls T) (hTA : hx_taok y.cls TA) (hini : TA.2.1 = [] ∨ y.name = "<init>") (hh : 1 ≤ h)
    (hfit : ∀ Λ μ as K, spec Λ μ as K → (as.map fun v => v.category).sum ≤ maxL)
    (walk : ∀ (G : hx_GT) (K : hx_KT), hx_K cc maxL mc ms ret T K G → hx_KA cc mc ms TA G → hx_CA y.cls cc h mc ms G → ∀ (Λ : hx_L) (μ : hx_M) (as : List Value), spec Λ μ as K → G Λ μ (0, 0) 0 (hx_al as) []) : hx_Con y cc maxL ret h mc ms spec := by
  intro l dC dI cA ad Λ μ as sz K hsp
  refine Met.ofW (cc := cc) (maxL := maxL) (ret := ret) hpl rfl ?_
  intro p e s m args below meth c s₁ B hml hv
  obtain ⟨rfl, hsz, hok, hws, hP, hK, hD0, hX⟩ := hv
  have hts := atoms_spec (ws := Cond.code y cc maxL ret :: hx_tbl) B.pre
  have C : hx_C p s m ((as.map (hx_tr ad)).toArray) meth c dC dI cA maxL cc y.cls ret := ⟨B.exec, B.bytes, hml, fun w hw => hts w (List.mem_cons_of_mem _ hw), findClass_of_methodNamed B.named, hK, B.returns, B.notSynchronized⟩
  have hin : meth.name = y.name := (name_of_methodNamed B.named B.method).1
  subst hsz
  have hA : ∀ q : Nat, s.heap.size ≤ q → va_A (hx_W cA ad Λ μ) s.heap.size q := fun q h => Or.inr h
  rw [lg_entry_eq]
  have hfit1 : (lg_sl (as.map (hx_tr ad))).length ≤ maxL := by rw [hx_sl_len]; exact hfit _ _ _ _ hsp
  have hl := lv_entry (as.map (hx_tr ad)) hfit1
  have hG := walk (hx_G p l e (hx_rm h mc ms) s m ((as.map (hx_tr ad)).toArray) below meth c (MQ below (hx_Q dC dI cA ad Λ.2.2 (va_A (hx_W cA ad Λ μ) s.heap.size) K) ((as.map (hx_tr ad)).toArray) s mc ms (va_A (hx_W cA ad Λ μ) s.heap.size)) dC dI cA (va_A (hx_W cA ad Λ μ) s.heap.size) s.heap maxL Λ.2.2 ad) K
    (hx_K_G C hT ⟨hh, by show 8 + 29 ≤ 40 * h; omega, Nat.le_refl _, Nat.le_refl _⟩) (hx_KA_G C hA hX hTA (hini.imp id (fun z => hin.trans z)) hh) (hx_CA_G C hA hX) Λ μ as hsp
  exact hG ad s.heap [] _ ⟨fun _ _ => rfl, Nat.le_refl _, hok, trivial, fun i v h => hx_ws_mem hws v (hx_al_args ad as 0 i v h).2, hP, hD0.self, va_S.rf, ⟨_, hl, fun i v h => by simpa using (hx_al_args ad as 0 i v h).1⟩⟩
section HXM2
variable {cc : ByteArray} {mc ms : Nat} {TA : hx_TA} {G : hx_GT} {Λ : hx_L} {μ : hx_M} {u : Nat × Nat} {pc : Nat} {lv : hx_V} {st : List Value}
theorem cl_new (hM : hx_KA cc mc ms TA G) {i ci N : Nat} (hm : (i, ci, N) ∈ TA.1) (d : decode cc pc = .ok (.new i, 3)) (h1 : u.1 + 1 ≤ mc) (h2 : u.2 + N ≤ ms) (h3 : Λ.2.2 < hx_big) (k : G (hx_push Λ (0, ci)) (hx_z μ Λ.2.2) (u.1 + 1, u.2 + N) (pc + 3) lv (.ref Λ.2.2 :: st)) : G Λ μ u pc lv st := hM.1 i ci N hm pc Λ μ u lv st d h1 h2 h3 k
theorem cl_newaI (hM : hx_KA cc mc ms TA G) {n : Int32} {N : Nat} (hN : n.toNatClampNeg = N) (d : decode cc pc = .ok (.newarray .int, 2)) (h0 : ¬ n < 0) (hb : N ≤ 65536) (h1 : u.1 + 1 ≤ mc) (h2 : u.2 + N ≤ ms) (h3 : Λ.2.2 < hx_big) (k : G (hx_push Λ (1, N)) (hx_z μ Λ.2.2) (u.1 + 1, u.2 + N) (pc + 2) lv (.ref Λ.2.2 :: st)) : G Λ μ u pc lv (.int n :: st) := by subst hN; exact hM.2.1 n pc Λ μ u lv st d h0 hb h1 h2 h3 k
theorem cl_newaB (hM : hx_KA cc mc ms TA G) {n : Int32} {N : Nat} (hN : n.toNatClampNeg = N) (d : decode cc pc = .ok (.newarray .byte, 2)) (h0 : ¬ n < 0) (hb : N ≤ 65536) (h1 : u.1 + 1 ≤ mc) (h2 : u.2 + N ≤ ms) (h3 : Λ.2.2 < hx_big) (k : G (hx_push Λ (2, N)) (hx_z μ Λ.2.2) (u.1 + 1, u.2 + N) (pc + 2) lv (.ref Λ.2.2 :: st)) : G Λ μ u pc lv (.int n :: st) := by subst hN; exact hM.2.2.1 n pc Λ μ u lv st d h0 hb h1 h2 h3 k
theorem cl_newaJ (hM : hx_KA cc mc ms TA G) {n : Int32} {N : Nat} (hN : n.toNatClampNeg = N) (d : decode cc pc = .ok (.newarray .long, 2)) (h0 : ¬ n < 0) (hb : N ≤ 65536) (h1 : u.1 + 1 ≤ mc) (h2 : u.2 + N ≤ ms) (h3 : Λ.2.2 < hx_big) (k : G (hx_push Λ (3, N)) (hx_z μ Λ.2.2) (u.1 + 1, u.2 + N) (pc + 2) lv (.ref Λ.2.2 :: st)) : G Λ μ u pc lv (.int n :: st) := by subst hN; exact hM.2.2.2.1 n pc Λ μ u lv st d h0 hb h1 h2 h3 k
theorem cl_newaZ (hM : hx_KA cc mc ms TA G) {n : Int32} {N : Nat} (hN : n.toNatClampNeg = N) (d : decode cc pc = .ok (.newarray .boolean, 2)) (h0 : ¬ n < 0) (hb : N ≤ 65536) (h1 : u.1 + 1 ≤ mc) (h2 : u.2 + N ≤ ms) (h3 : Λ.2.2 < hx_big) (k : G (hx_push Λ (4, N)) (hx_z μ Λ.2.2) (u.1 + 1, u.2 + N) (pc + 2) lv (.ref Λ.2.2 :: st)) : G Λ μ u pc lv (.int n :: st) := by subst hN; exact hM.2.2.2.2.1 n pc Λ μ u lv st d h0 hb h1 h2 h3 k
theorem cl_newq (hM : hx_KA cc mc ms TA G) {i kd : Nat} {n : Int32} {N : Nat} (hN : n.toNatClampNeg = N) (hm : (i, kd) ∈ TA.2.2.1) (d : decode cc pc = .ok (.anewarray i, 3)) (h0 : ¬ n < 0) (hb : N ≤ 65536) (h1 : u.1 + 1 ≤ mc) (h2 : u.2 + N ≤ ms) (h3 : Λ.2.2 < hx_big) (k : G (hx_push Λ (kd, N)) (hx_z μ Λ.2.2) (u.1 + 1, u.2 + N) (pc + 3) lv (.ref Λ.2.2 :: st)) : G Λ μ u pc lv (.int n :: st) := by subst hN; exact hM.2.2.2.2.2.1 i kd n hm pc Λ μ u lv st d h0 hb h1 h2 h3 k
theorem cl_putFI (hM : hx_KA cc mc ms TA G) {i ci j k0 : Nat} {v : Int32} (hm : (i, ci, j, 3) ∈ TA.2.1) (d : decode cc pc = .ok (.putfield i, 3)) (hs : Λ.1 k0 = (0, ci)) (k : G Λ (hx_sI μ k0 j v) u (pc + 3) lv st) : G Λ μ u pc lv (.int v :: .ref k0 :: st) := hM.2.2.2.2.2.2.1 i ci j k0 v hm pc Λ μ u lv st d hs k
theorem cl_putFR (hM : hx_KA cc mc ms TA G) {i ci j k0 q : Nat} (hm : (i, ci, j, 2) ∈ TA.2.1) (d : decode cc pc = .ok (.putfield i, 3)) (hs : Λ.1 k0 = (0, ci)) (k : G (hx_sR Λ k0 j q) μ u (pc + 3) lv st) : G Λ μ u pc lv (.ref q :: .ref k0 :: st) := hM.2.2.2.2.2.2.2.1 i ci j k0 q hm pc Λ μ u lv st d hs k
theorem cl_astL (hM : hx_KA cc mc ms TA G) {k0 n q : Nat} {i : Int32} (d : decode cc pc = .ok (.aastore, 1)) (hs : Λ.1 k0 = (5, n)) (hq : Λ.1 q = (0, 1)) (hi : vp_in i n) (k : G (hx_sR Λ k0 i.toNatClampNeg q) μ u (pc + 1) lv st) : G Λ μ u pc lv (.ref q :: .int i :: .ref k0 :: st) := hM.2.2.2.2.2.2.2.2.1 k0 n q i pc Λ μ u lv st d hs hq hi k
theorem cl_astW (hM : hx_KA cc mc ms TA G) {k0 n q : Nat} {i : Int32} (d : decode cc pc = .ok (.aastore, 1)) (hs : Λ.1 k0 = (6, n)) (hq : Λ.1 q = (0, 10)) (hi : vp_in i n) (k : G (hx_sR Λ k0 i.toNatClampNeg q) μ u (pc + 1) lv st) : G Λ μ u pc lv (.ref q :: .int i :: .ref k0 :: st) := hM.2.2.2.2.2.2.2.2.2.1 k0 n q i pc Λ μ u lv st d hs hq hi k
theorem cl_oinit (hM : hx_KA cc mc ms TA G) {i k0 : Nat} (hm : i ∈ TA.2.2.2) (d : decode cc pc = .ok (.invokespecial i, 3)) (hc : (st.map fun v => v.category).sum ≤ 8) (k : G Λ μ u (pc + 3) lv st) : G Λ μ u pc lv (.ref k0 :: st) := hM.2.2.2.2.2.2.2.2.2.2 i k0 hm pc Λ μ u lv st d hc k
end HXM2
