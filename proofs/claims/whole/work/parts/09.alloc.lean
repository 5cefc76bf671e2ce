/-! makings: new cells at the end of the store -/
def hx_push (Λ : hx_L) (sh : Nat × Nat) : hx_L := (fun k => if k = Λ.2.2 then sh else Λ.1 k, fun k j => if k = Λ.2.2 then none else Λ.2.1 k j, Λ.2.2 + 1)
def hx_z (μ : hx_M) (N : Nat) : hx_M := (fun k => if k = N then fun _ => 0 else μ.1 k, fun k => if k = N then fun _ => 0 else μ.2 k)
def hx_sR (Λ : hx_L) (k j q : Nat) : hx_L := (Λ.1, fun a b => if a = k then (if b = j then some q else Λ.2.1 a b) else Λ.2.1 a b, Λ.2.2)
theorem hx_ok_push {Λ : hx_L} {sh : Nat × Nat} (h : hx_ok Λ) : hx_ok (hx_push Λ sh) := by
  intro k j r hr
  show r < Λ.2.2 + 1
  simp only [hx_push] at hr
  split at hr
  · cases hr
  · exact Nat.lt_succ_of_lt (h k j r hr)
theorem hx_ok_sR {Λ : hx_L} {k j q : Nat} (h : hx_ok Λ) (hq : q < Λ.2.2) : hx_ok (hx_sR Λ k j q) := by
  intro a b r hr
  simp only [hx_sR] at hr ⊢
  split at hr
  · split at hr
    · cases hr; exact hq
    · exact h a b r hr
  · exact h a b r hr
theorem hx_e_old {cA : Nat → ClassId} {ad : Nat → Nat} {Λ : hx_L} {μ : hx_M} {sh : Nat × Nat} {q k : Nat} (hok : hx_ok Λ) (hk : k ≠ Λ.2.2) : hx_e cA (fun k => if k = Λ.2.2 then q else ad k) (hx_push Λ sh) (hx_z μ Λ.2.2) k = hx_e cA ad Λ μ k := by
  have hm : ∀ j, ((hx_push Λ sh).2.1 k j).map (fun k => if k = Λ.2.2 then q else ad k) = (Λ.2.1 k j).map ad := by
    intro j
    simp only [hx_push, if_neg hk]
    cases hr : Λ.2.1 k j with
    | none => rfl
    | some r => simp only [Option.map_some, if_neg (Nat.ne_of_lt (hok k j r hr))]
  have h1 : (hx_push Λ sh).1 k = Λ.1 k := by simp only [hx_push, if_neg hk]
  have h2 : (hx_z μ Λ.2.2).1 k = μ.1 k := by simp only [hx_z, if_neg hk]
  have h3 : (hx_z μ Λ.2.2).2 k = μ.2 k := by simp only [hx_z, if_neg hk]
  simp only [hx_e, hx_fs, hx_fv, h1, h2, h3, hm]
theorem hx_W_push {cA : Nat → ClassId} {ad : Nat → Nat} {Λ : hx_L} {μ : hx_M} {sh : Nat × Nat} {q : Nat} {e : va_E} (hok : hx_ok Λ) (he : hx_e cA (fun k => if k = Λ.2.2 then q else ad k) (hx_push Λ sh) (hx_z μ Λ.2.2) Λ.2.2 = e) : hx_W cA (fun k => if k = Λ.2.2 then q else ad k) (hx_push Λ sh) (hx_z μ Λ.2.2) = hx_W cA ad Λ μ ++ [(q, e)] := by
  show (List.range (Λ.2.2 + 1)).map _ = _
  rw [List.range_succ, List.map_append]
  congr 1
  · apply List.map_congr_left
    intro k hk
    have hk : k ≠ Λ.2.2 := Nat.ne_of_lt (List.mem_range.mp hk)
    simp only [if_neg hk]
    rw [hx_e_old hok hk]
  · simp only [List.map_cons, List.map_nil, if_true, he]
section HXM
variable {p : Program} {l : Launch} {e : Env} {R : Room} {s : State} {m : MethodId} {args : Array Value} {below : List Frame} {meth : Method} {c : Code} {Q : State → Prop}
variable {dC : Nat → ClassId} {dI : Nat → Nat → Nat} {cA : Nat → ClassId} {A : Nat → Prop} {H0 : Heap} {nL N0 : Nat} {ad0 : Nat → Nat} {Λ : hx_L} {μ : hx_M} {lv : hx_V} {rest st : List Value} {u : Nat × Nat} {pc : Nat} {cc : ByteArray}
theorem hx_B_push {ad : Nat → Nat} {H H1 : Heap} {locs : List Loc} {ls : Array Slot} {sh : Nat × Nat} {q : Nat} {el : va_E} (B : hx_B dC dI cA A H0 nL N0 ad0 Λ μ lv st ad H locs ls) (hbig : Λ.2.2 < hx_big) (hst : hx_ws Λ.2.2 rest)
    (he : hx_e cA (fun k => if k = Λ.2.2 then q else ad k) (hx_push Λ sh) (hx_z μ Λ.2.2) Λ.2.2 = el) (hP : va_P (dC, dI) vwCl (hx_W cA ad Λ μ ++ [(q, el)]) H1) (hD : va_D A (hx_W cA ad Λ μ ++ [(q, el)])) (hS : va_S A H0 H1 locs) :
    hx_B dC dI cA A H0 nL N0 ad0 (hx_push Λ sh) (hx_z μ Λ.2.2) lv (.ref Λ.2.2 :: rest) (fun k => if k = Λ.2.2 then q else ad k) H1 locs ls ∧ (Value.ref Λ.2.2 :: rest).map (hx_tr (fun k => if k = Λ.2.2 then q else ad k)) = .ref q :: rest.map (hx_tr ad) := by
  have hag : ∀ k, (k < Λ.2.2 ∨ hx_big ≤ k) → (fun k => if k = Λ.2.2 then q else ad k) k = ad k := by
    intro k hk
    exact if_neg (by omega)
  refine ⟨⟨fun k hk => (hag k (hk.imp (fun h => Nat.lt_of_lt_of_le h B.N) id)).trans (B.1 k hk), Nat.le_succ_of_le B.N, hx_ok_push B.ok, ⟨hx_wr (Nat.lt_succ_self _), hx_ws_mono (Nat.le_succ _) hst⟩, fun i v h k hk => Nat.lt_succ_of_lt (B.wlv i v h k hk), by rw [hx_W_push B.ok he]; exact hP, by rw [hx_W_push B.ok he]; exact hD, hS, ?_⟩, ?_⟩
  · obtain ⟨l0, h1, h3⟩ := B.h
    exact ⟨l0, h1, fun i v h => by rw [hx_tr_eq hag (B.wlv i v h)]; exact h3 i v h⟩
  · rw [List.map_cons, hx_tr_map hag hst]
    simp [hx_tr]
theorem hr_new (hx : p.tables.exec = Jvm.exec) (hb : c.code = cc) {own C : String} {T : u_T} {N ci i : Nat} (hts : ∀ w ∈ hx_tbl, w.before args s = true) (hin : ∀ w ∈ u_ws C T N, w ∈ hx_tbl) (ty : Nat → FieldType) (hty : ∀ k, k < N → parseFieldDescriptor (T k).2.2.1 = some (ty k)) (hown : s.vm.findClass own = some m.cls) (w1 : Cond.classLink own i C ∈ hx_tbl) (w2 : Cond.instantiable C N ∈ hx_tbl) (w3 : Cond.initialized C ∈ hx_tbl)
    (hK : va_K (dC, dI) vwCl (hx_tys cA) s) (hA : ∀ q, H0.size ≤ q → A q) (hc : vwCl[ci]? = some (C, T, N)) (hfk : ∀ j, j < N → (hx_fk ci)[j]? = some (match ty j with | .int => 0 | .long => 1 | _ => 2) ∧ ((∃ x, ty j = .object x) ∨ (∃ x, ty j = .array x) ∨ ty j = .int ∨ ty j = .long)) (hlen : (hx_fk ci).length = N)
    (hcells : u.1 + 1 ≤ R.cells) (hslots : u.2 + N ≤ R.slots) (hbig : Λ.2.2 < hx_big) (d : decode cc pc = .ok (.new i, 3))
    (k : hx_G p l e R s m args below meth c Q dC dI cA A H0 nL N0 ad0 (hx_push Λ (0, ci)) (hx_z μ Λ.2.2) (u.1 + 1, u.2 + N) (pc + 3) lv (.ref Λ.2.2 :: rest)) : hx_G p l e R s m args below meth c Q dC dI cA A H0 nL N0 ad0 Λ μ u pc lv rest := by
  intro ad H locs ls B
  refine va_new (D := (dC, dI)) (fs := (hx_fk ci).map (fun kd => if kd = 0 then .int 0 else if kd = 1 then .long 0 else .null)) hx hb hts hin ty hty hown (hts _ w1) (hts _ w2) (hts _ w3) hK B.P B.D B.S hA hc ?_ hcells hslots d (fun q H1 hP hD hS => ?_)
  · intro j hj
    obtain ⟨h1, h2⟩ := hfk j hj
    unfold vp_V
    rw [List.getD_eq_getElem?_getD, List.getElem?_map, h1]
    rcases h2 with ⟨x, h2⟩ | ⟨x, h2⟩ | h2 | h2 <;> rw [h2] <;> rfl
  · have he : hx_e cA (fun k => if k = Λ.2.2 then q else ad k) (hx_push Λ (0, ci)) (hx_z μ Λ.2.2) Λ.2.2 = .inr (ci, (hx_fk ci).map (fun kd => if kd = 0 then .int 0 else if kd = 1 then .long 0 else .null)) := by
      rw [hx_e_o (c := ci) (by simp [hx_push])]
      congr 2
      unfold hx_fs
      apply List.ext_getElem?
      intro j
      rw [List.getElem?_mapIdx, List.getElem?_map]
      cases (hx_fk ci)[j]? with
      | none => rfl
      | some kd => simp only [Option.map_some, hx_fv, hx_z, hx_push, if_true]; rfl
    obtain ⟨hB, hst⟩ := hx_B_push B hbig B.ws he hP hD hS
    have hk := k _ H1 locs ls hB
    rw [hst] at hk
    exact hk
theorem hx_cA_eq {t0 : Nat} {ca cb : ClassId} {ty : FieldType} (hK : va_K (dC, dI) vwCl (hx_tys cA) s) (h0 : (hx_tys cA)[t0]? = some (ca, ty)) (hK2 : va_K (dC, dI) vwCl (hx_tys cA ++ [(cb, ty)]) s) : cb = ca := by
  have h1 := (hK.2 t0 _ h0).2
  have h2 := (hK2.2 (hx_tys cA).length (cb, ty) (by simp)).2
  cases ty with
  | object C =>
    obtain ⟨_, _, _, _, _, a1⟩ := h1
    obtain ⟨_, _, _, _, _, a2⟩ := h2
    exact Option.some.inj (a2.symm.trans a1)
  | _ => exact Option.some.inj (h2.symm.trans h1)
theorem hr_newaI (hx : p.tables.exec = Jvm.exec) (hb : c.code = cc) {n : Int32} (hts : ∀ w ∈ hx_tbl, w.before args s = true) (w1 : Cond.arrayClass .int ∈ hx_tbl) (hK : va_K (dC, dI) vwCl (hx_tys cA) s) (hA : ∀ q, H0.size ≤ q → A q) (hn : ¬ n < 0) (hbytes : n.toNatClampNeg ≤ 65536)
    (hcells : u.1 + 1 ≤ R.cells) (hslots : u.2 + n.toNatClampNeg ≤ R.slots) (hbig : Λ.2.2 < hx_big) (d : decode cc pc = .ok (.newarray .int, 2))
    (k : hx_G p l e R s m args below meth c Q dC dI cA A H0 nL N0 ad0 (hx_push Λ (1, n.toNatClampNeg)) (hx_z μ Λ.2.2) (u.1 + 1, u.2 + n.toNatClampNeg) (pc + 2) lv (.ref Λ.2.2 :: rest)) : hx_G p l e R s m args below meth c Q dC dI cA A H0 nL N0 ad0 Λ μ u pc lv (.int n :: rest) := by
  intro ad H locs ls B
  refine va_newa (D := (dC, dI)) (atype := .int) (ty := .int) (a0 := (n.toNatClampNeg, .inl (fun _ => 0))) hx hb (hts _ w1) rfl hK B.P B.D B.S hA (fun _ => rfl) hn rfl (Nat.le_trans (Nat.mul_le_mul_right _ hbytes) (by decide)) hcells hslots d (fun q cb H1 hK2 hP hD hS => ?_)
  obtain rfl : cb = cA 1 := hx_cA_eq (t0 := 0) hK rfl hK2
  obtain ⟨hB, hst⟩ := hx_B_push (sh := (1, n.toNatClampNeg)) B hbig B.ws.2 (by rw [hx_e_i (n := n.toNatClampNeg) (by simp [hx_push])]; simp [hx_z]) hP hD hS
  have hk := k _ H1 locs ls hB
  rw [hst] at hk
  exact hk
theorem hr_newaB (hx : p.tables.exec = Jvm.exec) (hb : c.code = cc) {n : Int32} (hts : ∀ w ∈ hx_tbl, w.before args s = true) (w1 : Cond.arrayClass .byte ∈ hx_tbl) (hK : va_K (dC, dI) vwCl (hx_tys cA) s) (hA : ∀ q, H0.size ≤ q → A q) (hn : ¬ n < 0) (hbytes : n.toNatClampNeg ≤ 65536)
    (hcells : u.1 + 1 ≤ R.cells) (hslots : u.2 + n.toNatClampNeg ≤ R.slots) (hbig : Λ.2.2 < hx_big) (d : decode cc pc = .ok (.newarray .byte, 2))
    (k : hx_G p l e R s m args below meth c Q dC dI cA A H0 nL N0 ad0 (hx_push Λ (2, n.toNatClampNeg)) (hx_z μ Λ.2.2) (u.1 + 1, u.2 + n.toNatClampNeg) (pc + 2) lv (.ref Λ.2.2 :: rest)) : hx_G p l e R s m args below meth c Q dC dI cA A H0 nL N0 ad0 Λ μ u pc lv (.int n :: rest) := by
  intro ad H locs ls B
  refine va_newa (D := (dC, dI)) (atype := .byte) (ty := .byte) (a0 := (n.toNatClampNeg, .inl (fun _ => 0))) hx hb (hts _ w1) rfl hK B.P B.D B.S hA (fun _ => rfl) hn rfl (Nat.le_trans (Nat.mul_le_mul_right _ hbytes) (by decide)) hcells hslots d (fun q cb H1 hK2 hP hD hS => ?_)
  obtain rfl : cb = cA 2 := hx_cA_eq (t0 := 1) hK rfl hK2
  obtain ⟨hB, hst⟩ := hx_B_push (sh := (2, n.toNatClampNeg)) B hbig B.ws.2 (by rw [hx_e_b (n := n.toNatClampNeg) (by simp [hx_push])]; simp [hx_z]) hP hD hS
  have hk := k _ H1 locs ls hB
  rw [hst] at hk
  exact hk
theorem hr_newaJ (hx : p.tables.exec = Jvm.exec) (hb : c.code = cc) {n : Int32} (hts : ∀ w ∈ hx_tbl, w.before args s = true) (w1 : Cond.arrayClass .long ∈ hx_tbl) (hK : va_K (dC, dI) vwCl (hx_tys cA) s) (hA : ∀ q, H0.size ≤ q → A q) (hn : ¬ n < 0) (hbytes : n.toNatClampNeg ≤ 65536)
    (hcells : u.1 + 1 ≤ R.cells) (hslots : u.2 + n.toNatClampNeg ≤ R.slots) (hbig : Λ.2.2 < hx_big) (d : decode cc pc = .ok (.newarray .long, 2))
    (k : hx_G p l e R s m args below meth c Q dC dI cA A H0 nL N0 ad0 (hx_push Λ (3, n.toNatClampNeg)) (hx_z μ Λ.2.2) (u.1 + 1, u.2 + n.toNatClampNeg) (pc + 2) lv (.ref Λ.2.2 :: rest)) : hx_G p l e R s m args below meth c Q dC dI cA A H0 nL N0 ad0 Λ μ u pc lv (.int n :: rest) := by
  intro ad H locs ls B
  refine va_newa (D := (dC, dI)) (atype := .long) (ty := .long) (a0 := (n.toNatClampNeg, .inr (.inl (fun _ => 0)))) hx hb (hts _ w1) rfl hK B.P B.D B.S hA (fun _ => rfl) hn rfl (Nat.le_trans (Nat.mul_le_mul_right _ hbytes) (by decide)) hcells hslots d (fun q cb H1 hK2 hP hD hS => ?_)
  obtain rfl : cb = cA 3 := hx_cA_eq (t0 := 2) hK rfl hK2
  obtain ⟨hB, hst⟩ := hx_B_push (sh := (3, n.toNatClampNeg)) B hbig B.ws.2 (by rw [hx_e_l (n := n.toNatClampNeg) (by simp [hx_push])]; simp [hx_z]) hP hD hS
  have hk := k _ H1 locs ls hB
  rw [hst] at hk
  exact hk
theorem hr_newaZ (hx : p.tables.exec = Jvm.exec) (hb : c.code = cc) {n : Int32} (hts : ∀ w ∈ hx_tbl, w.before args s = true) (w1 : Cond.arrayClass .boolean ∈ hx_tbl) (hK : va_K (dC, dI) vwCl (hx_tys cA) s) (hA : ∀ q, H0.size ≤ q → A q) (hn : ¬ n < 0) (hbytes : n.toNatClampNeg ≤ 65536)
    (hcells : u.1 + 1 ≤ R.cells) (hslots : u.2 + n.toNatClampNeg ≤ R.slots) (hbig : Λ.2.2 < hx_big) (d : decode cc pc = .ok (.newarray .boolean, 2))
    (k : hx_G p l e R s m args below meth c Q dC dI cA A H0 nL N0 ad0 (hx_push Λ (4, n.toNatClampNeg)) (hx_z μ Λ.2.2) (u.1 + 1, u.2 + n.toNatClampNeg) (pc + 2) lv (.ref Λ.2.2 :: rest)) : hx_G p l e R s m args below meth c Q dC dI cA A H0 nL N0 ad0 Λ μ u pc lv (.int n :: rest) := by
  intro ad H locs ls B
  refine va_newa (D := (dC, dI)) (atype := .boolean) (ty := .boolean) (a0 := (n.toNatClampNeg, .inl (fun _ => 0))) hx hb (hts _ w1) rfl hK B.P B.D B.S hA (fun _ => rfl) hn rfl (Nat.le_trans (Nat.mul_le_mul_right _ hbytes) (by decide)) hcells hslots d (fun q cb H1 hK2 hP hD hS => ?_)
  obtain rfl : cb = cA 4 := hx_cA_eq (t0 := 3) hK rfl hK2
  obtain ⟨hB, hst⟩ := hx_B_push (sh := (4, n.toNatClampNeg)) B hbig B.ws.2 (by rw [hx_e_z (n := n.toNatClampNeg) (by simp [hx_push])]; simp [hx_z]) hP hD hS
  have hk := k _ H1 locs ls hB
  rw [hst] at hk
  exact hk
theorem hr_newqL (hx : p.tables.exec = Jvm.exec) (hb : c.code = cc) {own : String} {i : Nat} {n : Int32} (hown : s.vm.findClass own = some m.cls) (hts : ∀ w ∈ hx_tbl, w.before args s = true) (w1 : Cond.classLink own i "HemLine$Law" ∈ hx_tbl) (w2 : va_AO "HemLine$Law" s) (hK : va_K (dC, dI) vwCl (hx_tys cA) s) (hA : ∀ q, H0.size ≤ q → A q) (hn : ¬ n < 0) (hbytes : n.toNatClampNeg ≤ 65536)
    (hcells : u.1 + 1 ≤ R.cells) (hslots : u.2 + n.toNatClampNeg ≤ R.slots) (hbig : Λ.2.2 < hx_big) (d : decode cc pc = .ok (.anewarray i, 3))
    (k : hx_G p l e R s m args below meth c Q dC dI cA A H0 nL N0 ad0 (hx_push Λ (5, n.toNatClampNeg)) (hx_z μ Λ.2.2) (u.1 + 1, u.2 + n.toNatClampNeg) (pc + 3) lv (.ref Λ.2.2 :: rest)) : hx_G p l e R s m args below meth c Q dC dI cA A H0 nL N0 ad0 Λ μ u pc lv (.int n :: rest) := by
  intro ad H locs ls B
  refine va_newq (D := (dC, dI)) (C := "HemLine$Law") hx hb hown (hts _ w1) w2 hK B.P B.D B.S hA hn rfl (Nat.le_trans (Nat.mul_le_mul_right _ hbytes) (by decide)) hcells hslots d (fun q cb H1 hK2 hP hD hS => ?_)
  obtain rfl : cb = cA 5 := hx_cA_eq (t0 := 4) hK rfl hK2
  obtain ⟨hB, hst⟩ := hx_B_push (sh := (5, n.toNatClampNeg)) B hbig B.ws.2 (by rw [hx_e_q (n := n.toNatClampNeg) (by simp [hx_push])]; simp [hx_push]) hP hD hS
  have hk := k _ H1 locs ls hB
  rw [hst] at hk
  exact hk
theorem hr_newqW (hx : p.tables.exec = Jvm.exec) (hb : c.code = cc) {own : String} {i : Nat} {n : Int32} (hown : s.vm.findClass own = some m.cls) (hts : ∀ w ∈ hx_tbl, w.before args s = true) (w1 : Cond.classLink own i "HemLine$World" ∈ hx_tbl) (w2 : va_AO "HemLine$World" s) (hK : va_K (dC, dI) vwCl (hx_tys cA) s) (hA : ∀ q, H0.size ≤ q → A q) (hn : ¬ n < 0) (hbytes : n.toNatClampNeg ≤ 65536)
    (hcells : u.1 + 1 ≤ R.cells) (hslots : u.2 + n.toNatClampNeg ≤ R.slots) (hbig : Λ.2.2 < hx_big) (d : decode cc pc = .ok (.anewarray i, 3))
    (k : hx_G p l e R s m args below meth c Q dC dI cA A H0 nL N0 ad0 (hx_push Λ (6, n.toNatClampNeg)) (hx_z μ Λ.2.2) (u.1 + 1, u.2 + n.toNatClampNeg) (pc + 3) lv (.ref Λ.2.2 :: rest)) : hx_G p l e R s m args below meth c Q dC dI cA A H0 nL N0 ad0 Λ μ u pc lv (.int n :: rest) := by
  intro ad H locs ls B
  refine va_newq (D := (dC, dI)) (C := "HemLine$World") hx hb hown (hts _ w1) w2 hK B.P B.D B.S hA hn rfl (Nat.le_trans (Nat.mul_le_mul_right _ hbytes) (by decide)) hcells hslots d (fun q cb H1 hK2 hP hD hS => ?_)
  obtain rfl : cb = cA 6 := hx_cA_eq (t0 := 5) hK rfl hK2
  obtain ⟨hB, hst⟩ := hx_B_push (sh := (6, n.toNatClampNeg)) B hbig B.ws.2 (by rw [hx_e_w (n := n.toNatClampNeg) (by simp [hx_push])]; simp [hx_push]) hP hD hS
  have hk := k _ H1 locs ls hB
  rw [hst] at hk
  exact hk
theorem hx_W_setR {ad : Nat → Nat} {Λ' : hx_L} {k : Nat} {e : va_E} (hN : Λ'.2.2 = Λ.2.2) (he : e = hx_e cA ad Λ' μ k) (h : ∀ j, j ≠ k → hx_e cA ad Λ μ j = hx_e cA ad Λ' μ j) : (hx_W cA ad Λ μ).set k (ad k, e) = hx_W cA ad Λ' μ := by
  subst he
  apply List.ext_getElem?
  intro i
  rw [List.getElem?_set]
  by_cases hi : k = i
  · subst hi
    simp only [if_true, hx_W, List.length_map, List.length_range, hN]
    split
    · rename_i hl; simp [hl]
    · rename_i hl; simp [hl]
  · simp only [if_neg hi, hx_W, List.getElem?_map, hN]
    cases hr : (List.range Λ.2.2)[i]? with
    | none => rfl
    | some j =>
      have : j = i := by
        obtain ⟨h1, h2⟩ := List.getElem?_eq_some_iff.mp hr
        simpa using h2.symm
      subst this
      simp [h j (fun z => hi z.symm)]
theorem hx_e_sR {ad : Nat → Nat} {k j q a : Nat} (h : a ≠ k) : hx_e cA ad Λ μ a = hx_e cA ad (hx_sR Λ k j q) μ a := by
  simp only [hx_e, hx_fs, hx_fv, hx_sR, if_neg h]
theorem hx_fs_setR {ad : Nat → Nat} {k c j q : Nat} (h : (hx_fk c)[j]? = some 2) : (hx_fs ad Λ μ k c).set j (.ref (ad q)) = hx_fs ad (hx_sR Λ k j q) μ k c := by
  apply List.ext_getElem?
  intro i
  rw [List.getElem?_set, hx_fs_len]
  have hj := (List.getElem?_eq_some_iff.mp h).1
  by_cases hi : j = i
  · subst hi
    rw [if_pos rfl, if_pos hj, hx_fs_get h]
    simp [hx_fv, hx_sR, va_rf]
  · rw [if_neg hi]
    simp only [hx_fs, List.getElem?_mapIdx]
    cases (hx_fk c)[i]? with
    | none => rfl
    | some kd => simp [hx_fv, hx_sR, show ¬ i = j from fun z => hi z.symm]
theorem hx_B.lay {ad : Nat → Nat} {H H1 : Heap} {locs locs1 : List Loc} {ls : Array Slot} {Λ' : hx_L} (B : hx_B dC dI cA A H0 nL N0 ad0 Λ μ lv st ad H locs ls) (hN : Λ'.2.2 = Λ.2.2) (hok : hx_ok Λ') (hw : hx_ws Λ.2.2 st → hx_ws Λ.2.2 rest) (hP : va_P (dC, dI) vwCl (hx_W cA ad Λ' μ) H1) (hD : va_D A (hx_W cA ad Λ' μ)) (hS : va_S A H0 H1 locs1) : hx_B dC dI cA A H0 nL N0 ad0 Λ' μ lv rest ad H1 locs1 ls :=
  ⟨B.1, by rw [hN]; exact B.N, hok, by rw [hN]; exact hw B.ws, by rw [hN]; exact B.wlv, hP, hD, hS, B.h⟩
theorem hr_putFI (hx : p.tables.exec = Jvm.exec) (hb : c.code = cc) {own C : String} {T : u_T} {N ci i j k0 : Nat} (hts : ∀ w ∈ hx_tbl, w.before args s = true) (hin : ∀ w ∈ u_ws C T N, w ∈ hx_tbl) (hown : s.vm.findClass own = some m.cls) (hK : va_K (dC, dI) vwCl (hx_tys cA) s) (hc : vwCl[ci]? = some (C, T, N)) (hj : j < N) (hl : Cond.fieldLink own i (T j).1 (T j).2.1 (T j).2.2.1 ∈ hx_tbl) (hs : Λ.1 k0 = (0, ci)) (d : decode cc pc = .ok (.putfield i, 3)) (ty0 : Nat → FieldType) (hty : ∀ k, k < N → parseFieldDescriptor (T k).2.2.1 = some (ty0 k)) (hnm : ∀ a, a < N → ∀ b, b < N → a ≠ b → (T a).2.1 ≠ (T b).2.1) (hfin : (T j).2.2.2 = true) (hin2 : meth.name = "<init>") (hdecl : (T j).1 = own) (hkd : (hx_fk ci)[j]? = some 0) (htj : parseFieldDescriptor (T j).2.2.1 = some .int) {v : Int32} (k : hx_G p l e R s m args below meth c Q dC dI cA A H0 nL N0 ad0 Λ (hx_sI μ k0 j v) u (pc + 3) lv rest) : hx_G p l e R s m args below meth c Q dC dI cA A H0 nL N0 ad0 Λ μ u pc lv (.int v :: .ref k0 :: rest) := by
  intro ad H locs ls B
  have hk0 : k0 < Λ.2.2 := B.ws.2.1 _ rfl
  refine va_putF (D := (dC, dI)) hx hb hts hin ty0 hty hnm hown hK B.P B.D B.S k0 ((hx_W_get hk0).trans (by rw [hx_e_o hs])) hc j hj (hts _ hl) (fun _ h9 => h9) hfin hin2 hdecl htj rfl rfl (by rw [hx_fs_len]; exact (List.getElem?_eq_some_iff.mp hkd).1) d (fun H1 locs1 hP hD hS => ?_)
  have e := hx_W_set (cA := cA) (ad := ad) (Λ := Λ) (μ := μ) (μ' := hx_sI μ k0 j v) (k := k0) (e := .inr (ci, (hx_fs ad Λ μ k0 ci).set j (.int v))) (by rw [hx_e_o hs, hx_fs_setI hkd]) (fun j' hj' => hx_e_sI hj')
  exact k ad H1 locs1 ls (B.mem (fun h => h.2.2) (by rw [← e]; exact hP) (by rw [← e]; exact hD) hS)
theorem hr_putFR (hx : p.tables.exec = Jvm.exec) (hb : c.code = cc) {own C : String} {T : u_T} {N ci i j k0 : Nat} (hts : ∀ w ∈ hx_tbl, w.before args s = true) (hin : ∀ w ∈ u_ws C T N, w ∈ hx_tbl) (hown : s.vm.findClass own = some m.cls) (hK : va_K (dC, dI) vwCl (hx_tys cA) s) (hc : vwCl[ci]? = some (C, T, N)) (hj : j < N) (hl : Cond.fieldLink own i (T j).1 (T j).2.1 (T j).2.2.1 ∈ hx_tbl) (hs : Λ.1 k0 = (0, ci)) (d : decode cc pc = .ok (.putfield i, 3)) (ty0 : Nat → FieldType) (hty : ∀ k, k < N → parseFieldDescriptor (T k).2.2.1 = some (ty0 k)) (hnm : ∀ a, a < N → ∀ b, b < N → a ≠ b → (T a).2.1 ≠ (T b).2.1) (hfin : (T j).2.2.2 = true) (hin2 : meth.name = "<init>") (hdecl : (T j).1 = own) (hkd : (hx_fk ci)[j]? = some 2) {ty : FieldType} (htj : parseFieldDescriptor (T j).2.2.1 = some ty) (hr : (∃ x, ty = .object x) ∨ ∃ x, ty = .array x) {q : Nat} (k : hx_G p l e R s m args below meth c Q dC dI cA A H0 nL N0 ad0 (hx_sR Λ k0 j q) μ u (pc + 3) lv rest) : hx_G p l e R s m args below meth c Q dC dI cA A H0 nL N0 ad0 Λ μ u pc lv (.ref q :: .ref k0 :: rest) := by
  intro ad H locs ls B
  have hq : q < Λ.2.2 := B.ws.1 _ rfl
  have hk0 : k0 < Λ.2.2 := B.ws.2.1 _ rfl
  refine va_putF (D := (dC, dI)) (v := .ref (ad q)) hx hb hts hin ty0 hty hnm hown hK B.P B.D B.S k0 ((hx_W_get hk0).trans (by rw [hx_e_o hs])) hc j hj (hts _ hl) (fun _ h9 => h9) hfin hin2 hdecl htj (by rcases hr with ⟨x, rfl⟩ | ⟨x, rfl⟩ <;> rfl) (by rcases hr with ⟨x, rfl⟩ | ⟨x, rfl⟩ <;> rfl) (by rw [hx_fs_len]; exact (List.getElem?_eq_some_iff.mp hkd).1) d (fun H1 locs1 hP hD hS => ?_)
  have e := hx_W_setR (cA := cA) (ad := ad) (Λ := Λ) (μ := μ) (Λ' := hx_sR Λ k0 j q) (k := k0) (e := .inr (ci, (hx_fs ad Λ μ k0 ci).set j (.ref (ad q)))) rfl (by rw [hx_e_o (Λ := hx_sR Λ k0 j q) (c := ci) hs, hx_fs_setR hkd]) (fun j' hj' => hx_e_sR hj')
  exact k ad H1 locs1 ls (B.lay rfl (hx_ok_sR B.ok hq) (fun h => h.2.2) (by rw [← e]; exact hP) (by rw [← e]; exact hD) hS)
theorem hr_astL (hx : p.tables.exec = Jvm.exec) (hb : c.code = cc) {k0 n q : Nat} {i : Int32} (hK : va_K (dC, dI) vwCl (hx_tys cA) s) (hs : Λ.1 k0 = (5, n)) (hq : Λ.1 q = (0, 1)) (hin : vp_in i n) (d : decode cc pc = .ok (.aastore, 1)) (k : hx_G p l e R s m args below meth c Q dC dI cA A H0 nL N0 ad0 (hx_sR Λ k0 i.toNatClampNeg q) μ u (pc + 1) lv rest) : hx_G p l e R s m args below meth c Q dC dI cA A H0 nL N0 ad0 Λ μ u pc lv (.ref q :: .int i :: .ref k0 :: rest) := by
  intro ad H locs ls B
  have hq1 : q < Λ.2.2 := B.ws.1 _ rfl
  have hk0 : k0 < Λ.2.2 := B.ws.2.2.1 _ rfl
  refine va_astq (D := (dC, dI)) hx hb hK B.P B.D B.S k0 4 q 1 (r := (RX1, TX1, 2)) ((hx_W_get hk0).trans (by rw [hx_e_q hs])) rfl ((hx_W_get hq1).trans (by rw [hx_e_o hq])) rfl hin d (fun H1 locs1 hP hD hS => ?_)
  have e := hx_W_setR (cA := cA) (ad := ad) (Λ := Λ) (μ := μ) (Λ' := hx_sR Λ k0 i.toNatClampNeg q) (k := k0) (e := .inl (cA 5, n, .inr (.inr (.inr (.inr (va_up (fun j => (Λ.2.1 k0 j).map ad) i.toNatClampNeg (some (ad q)))))))) rfl (by
    rw [hx_e_q (Λ := hx_sR Λ k0 i.toNatClampNeg q) (n := n) hs]
    congr 7
    funext j
    simp only [va_up, hx_sR, if_true]
    by_cases hj : j = i.toNatClampNeg
    · rw [if_pos hj, if_pos hj]; rfl
    · rw [if_neg hj, if_neg hj]) (fun j' hj' => hx_e_sR hj')
  exact k ad H1 locs1 ls (B.lay rfl (hx_ok_sR B.ok hq1) (fun h => h.2.2.2) (by rw [← e]; exact hP) (by rw [← e]; exact hD) hS)
theorem hr_astW (hx : p.tables.exec = Jvm.exec) (hb : c.code = cc) {k0 n q : Nat} {i : Int32} (hK : va_K (dC, dI) vwCl (hx_tys cA) s) (hs : Λ.1 k0 = (6, n)) (hq : Λ.1 q = (0, 10)) (hin : vp_in i n) (d : decode cc pc = .ok (.aastore, 1)) (k : hx_G p l e R s m args below meth c Q dC dI cA A H0 nL N0 ad0 (hx_sR Λ k0 i.toNatClampNeg q) μ u (pc + 1) lv rest) : hx_G p l e R s m args below meth c Q dC dI cA A H0 nL N0 ad0 Λ μ u pc lv (.ref q :: .int i :: .ref k0 :: rest) := by
  intro ad H locs ls B
  have hq1 : q < Λ.2.2 := B.ws.1 _ rfl
  have hk0 : k0 < Λ.2.2 := B.ws.2.2.1 _ rfl
  refine va_astq (D := (dC, dI)) hx hb hK B.P B.D B.S k0 5 q 10 (r := (RX10, TX10, 12)) ((hx_W_get hk0).trans (by rw [hx_e_w hs])) rfl ((hx_W_get hq1).trans (by rw [hx_e_o hq])) rfl hin d (fun H1 locs1 hP hD hS => ?_)
  have e := hx_W_setR (cA := cA) (ad := ad) (Λ := Λ) (μ := μ) (Λ' := hx_sR Λ k0 i.toNatClampNeg q) (k := k0) (e := .inl (cA 6, n, .inr (.inr (.inr (.inr (va_up (fun j => (Λ.2.1 k0 j).map ad) i.toNatClampNeg (some (ad q)))))))) rfl (by
    rw [hx_e_w (Λ := hx_sR Λ k0 i.toNatClampNeg q) (n := n) hs]
    congr 7
    funext j
    simp only [va_up, hx_sR, if_true]
    by_cases hj : j = i.toNatClampNeg
    · rw [if_pos hj, if_pos hj]; rfl
    · rw [if_neg hj, if_neg hj]) (fun j' hj' => hx_e_sR hj')
  exact k ad H1 locs1 ls (B.lay rfl (hx_ok_sR B.ok hq1) (fun h => h.2.2.2) (by rw [← e]; exact hP) (by rw [← e]; exact hD) hS)
theorem hr_oinit (hx : p.tables.exec = Jvm.exec) (hb : c.code = cc) (hml : c.maxLocals = nL) {own : String} {i k0 : Nat} (hown : s.vm.findClass own = some m.cls) (hts : ∀ w ∈ hx_tbl, w.before args s = true) (w1 : Cond.methodLink own i objectInit ∈ hx_tbl) (w2 : Cond.instanceMethod objectInit ∈ hx_tbl) (w3 : Cond.code objectInit ⟨#[0xb1]⟩ 1 none ∈ hx_tbl) (hfr : 1 ≤ R.frames) (hlo : 8 + 29 ≤ R.locals) (hcat : (rest.map fun v => v.category).sum ≤ 8) (d : decode cc pc = .ok (.invokespecial i, 3)) (k : hx_G p l e R s m args below meth c Q dC dI cA A H0 nL N0 ad0 Λ μ u (pc + 3) lv rest) : hx_G p l e R s m args below meth c Q dC dI cA A H0 nL N0 ad0 Λ μ u pc lv (.ref k0 :: rest) := by
  intro ad H locs ls B
  have hlen : ls.size = c.maxLocals := by obtain ⟨l0, h9, -⟩ := B.h; exact h9.1.trans hml.symm
  have hcat2 : ((rest.map (hx_tr ad)).map fun v => v.category).sum ≤ 8 := hx_cat hcat
  refine W.objInit hx hb hown (hts _ w1) (hts _ w2) (hts _ w3) (a := ad k0) (rest := rest.map (hx_tr ad)) rfl hlen rfl d hfr (by show 2 * 0 + _ + 12 ≤ _; omega) ?_
  exact k ad H locs ls (B.stk fun h => h.2)
end HXM
