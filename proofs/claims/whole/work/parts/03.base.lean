def hx_tbl : List Cond := lw_tbl.filter goodWord
theorem hx_tbl_in {i : Nat} {w : Cond} (h : lw_tbl[i]? = some w) (hg : goodWord w = true) : w ∈ hx_tbl := List.mem_filter.mpr ⟨List.mem_of_getElem? h, hg⟩
theorem hx_tbl_good : ∀ w ∈ hx_tbl, goodWord w = true := fun w h => (List.mem_filter.mp h).2
/-! the abstract store: layout (kind of each cell, references, how many), memory (ints, longs) -/
abbrev hx_L : Type := (Nat → Nat × Nat) × (Nat → Nat → Option Nat) × Nat
abbrev hx_M : Type := (Nat → Nat → Int32) × (Nat → Nat → Int64)
abbrev hx_V : Type := List (Option Value)
def hx_fk : Nat → List Nat := fun c => match c with
  | 0 => [2]
  | 1 => [2, 0]
  | 2 => [2, 0, 2, 2, 0, 2, 0]
  | 3 => [0, 2, 2, 2, 2, 2]
  | 4 => [0, 2, 2, 2, 2, 2, 2]
  | 5 => [2, 0, 2, 2, 2]
  | 6 => [2, 2, 2, 2, 2, 0]
  | 7 => [2, 2, 2, 2, 2, 0]
  | 8 => [2, 2, 0, 0]
  | 9 => [2, 2]
  | 10 => [2, 2, 2, 0, 0, 0, 1, 0, 0, 2, 2, 2]
  | 11 => [2, 0, 2, 2, 0, 0, 0, 2, 2, 2, 2, 2, 2, 2, 0]
  | _ => [0, 0, 0, 0, 0, 0, 1, 2, 2, 2, 2, 2, 2, 2, 2, 2, 2, 2, 2, 2, 0, 0, 0, 0, 0, 0, 0, 0, 2, 2, 2, 2, 2, 2, 2, 2, 2, 2, 2, 2, 2, 0, 0, 2, 2, 0, 2, 1, 0, 0, 2, 2, 0, 0, 2, 0, 2, 2, 2, 0, 2, 2, 2, 2, 2, 0, 0, 2, 2, 2]

/-- names from here on are of constants outside the store -/
def hx_big : Nat := 1000000
def hx_tr (ad : Nat → Nat) : Value → Value
  | .ref k => .ref (ad k)
  | .retAddr k => .ref (ad (k + hx_big))
  | v => v
theorem hx_tr_rf (ad : Nat → Nat) (r : Option Nat) : hx_tr ad (va_rf r) = va_rf (r.map ad) := by cases r <;> rfl
def hx_fv (ad : Nat → Nat) (Λ : hx_L) (μ : hx_M) (k j kd : Nat) : Value := if kd = 0 then .int (μ.1 k j) else if kd = 1 then .long (μ.2 k j) else va_rf ((Λ.2.1 k j).map ad)
def hx_fs (ad : Nat → Nat) (Λ : hx_L) (μ : hx_M) (k c : Nat) : List Value := (hx_fk c).mapIdx (fun j kd => hx_fv ad Λ μ k j kd)
def hx_e (cA : Nat → ClassId) (ad : Nat → Nat) (Λ : hx_L) (μ : hx_M) (k : Nat) : va_E := match (Λ.1 k).1 with
  | 0 => .inr ((Λ.1 k).2, hx_fs ad Λ μ k (Λ.1 k).2)
  | 3 => .inl (cA 3, (Λ.1 k).2, .inr (.inl (μ.2 k)))
  | 5 => .inl (cA 5, (Λ.1 k).2, .inr (.inr (.inr (.inr (fun j => (Λ.2.1 k j).map ad)))))
  | 6 => .inl (cA 6, (Λ.1 k).2, .inr (.inr (.inr (.inr (fun j => (Λ.2.1 k j).map ad)))))
  | t => .inl (cA t, (Λ.1 k).2, .inl (μ.1 k))
def hx_W (cA : Nat → ClassId) (ad : Nat → Nat) (Λ : hx_L) (μ : hx_M) : va_W := (List.range Λ.2.2).map fun k => (ad k, hx_e cA ad Λ μ k)
def hx_tys (cA : Nat → ClassId) : List (ClassId × FieldType) := [(cA 1, .int), (cA 2, .byte), (cA 3, .long), (cA 4, .boolean), (cA 5, .object "HemLine$Law"), (cA 6, .object "HemLine$World")]
theorem hx_W_get {cA : Nat → ClassId} {ad : Nat → Nat} {Λ : hx_L} {μ : hx_M} {k : Nat} (h : k < Λ.2.2) : (hx_W cA ad Λ μ)[k]? = some (ad k, hx_e cA ad Λ μ k) := by
  simp [hx_W, h]
theorem hx_W_set {cA : Nat → ClassId} {ad : Nat → Nat} {Λ : hx_L} {μ μ' : hx_M} {k : Nat} {e : va_E} (he : e = hx_e cA ad Λ μ' k) (h : ∀ j, j ≠ k → hx_e cA ad Λ μ j = hx_e cA ad Λ μ' j) : (hx_W cA ad Λ μ).set k (ad k, e) = hx_W cA ad Λ μ' := by
  subst he
  apply List.ext_getElem?
  intro i
  rw [List.getElem?_set]
  by_cases hi : k = i
  · subst hi
    simp only [if_true, hx_W, List.length_map, List.length_range]
    split
    · rename_i hl; simp [hl]
    · rename_i hl; simp [hl]
  · simp only [if_neg hi, hx_W, List.getElem?_map]
    cases hr : (List.range Λ.2.2)[i]? with
    | none => rfl
    | some j =>
      have : j = i := by
        obtain ⟨h1, h2⟩ := List.getElem?_eq_some_iff.mp hr
        simpa using h2.symm
      subst this
      simp [h j (fun z => hi z.symm)]
def hx_sI (μ : hx_M) (k j : Nat) (v : Int32) : hx_M := (fun a => if a = k then upd (μ.1 k) j v else μ.1 a, μ.2)
def hx_sL (μ : hx_M) (k j : Nat) (v : Int64) : hx_M := (μ.1, fun a => if a = k then vp_updL (μ.2 k) j v else μ.2 a)
def hx_sA (μ : hx_M) (k : Nat) (f : Nat → Int32) : hx_M := (fun a => if a = k then f else μ.1 a, μ.2)
theorem hx_e_I {cA : Nat → ClassId} {ad : Nat → Nat} {Λ : hx_L} {μ : hx_M} {f : Nat → Int32} {k a : Nat} (h : a ≠ k) : hx_e cA ad Λ μ a = hx_e cA ad Λ (hx_sA μ k f) a := by
  simp only [hx_e, hx_fs, hx_fv, hx_sA, if_neg h]
theorem hx_e_sI {cA : Nat → ClassId} {ad : Nat → Nat} {Λ : hx_L} {μ : hx_M} {v : Int32} {k j a : Nat} (h : a ≠ k) : hx_e cA ad Λ μ a = hx_e cA ad Λ (hx_sI μ k j v) a := hx_e_I h
theorem hx_e_sL {cA : Nat → ClassId} {ad : Nat → Nat} {Λ : hx_L} {μ : hx_M} {v : Int64} {k j a : Nat} (h : a ≠ k) : hx_e cA ad Λ μ a = hx_e cA ad Λ (hx_sL μ k j v) a := by
  simp only [hx_e, hx_fs, hx_fv, hx_sL, if_neg h]
theorem hx_e_o {cA : Nat → ClassId} {ad : Nat → Nat} {Λ : hx_L} {μ : hx_M} {k c : Nat} (h : Λ.1 k = (0, c)) : hx_e cA ad Λ μ k = .inr (c, hx_fs ad Λ μ k c) := by
  simp only [hx_e, h]
theorem hx_e_i {cA : Nat → ClassId} {ad : Nat → Nat} {Λ : hx_L} {μ : hx_M} {k n : Nat} (h : Λ.1 k = (1, n)) : hx_e cA ad Λ μ k = .inl (cA 1, n, .inl (μ.1 k)) := by
  simp only [hx_e, h]
theorem hx_e_b {cA : Nat → ClassId} {ad : Nat → Nat} {Λ : hx_L} {μ : hx_M} {k n : Nat} (h : Λ.1 k = (2, n)) : hx_e cA ad Λ μ k = .inl (cA 2, n, .inl (μ.1 k)) := by
  simp only [hx_e, h]
theorem hx_e_l {cA : Nat → ClassId} {ad : Nat → Nat} {Λ : hx_L} {μ : hx_M} {k n : Nat} (h : Λ.1 k = (3, n)) : hx_e cA ad Λ μ k = .inl (cA 3, n, .inr (.inl (μ.2 k))) := by
  simp only [hx_e, h]
theorem hx_e_z {cA : Nat → ClassId} {ad : Nat → Nat} {Λ : hx_L} {μ : hx_M} {k n : Nat} (h : Λ.1 k = (4, n)) : hx_e cA ad Λ μ k = .inl (cA 4, n, .inl (μ.1 k)) := by
  simp only [hx_e, h]
theorem hx_e_q {cA : Nat → ClassId} {ad : Nat → Nat} {Λ : hx_L} {μ : hx_M} {k n : Nat} (h : Λ.1 k = (5, n)) : hx_e cA ad Λ μ k = .inl (cA 5, n, .inr (.inr (.inr (.inr (fun j => (Λ.2.1 k j).map ad))))) := by
  simp only [hx_e, h]
theorem hx_e_w {cA : Nat → ClassId} {ad : Nat → Nat} {Λ : hx_L} {μ : hx_M} {k n : Nat} (h : Λ.1 k = (6, n)) : hx_e cA ad Λ μ k = .inl (cA 6, n, .inr (.inr (.inr (.inr (fun j => (Λ.2.1 k j).map ad))))) := by
  simp only [hx_e, h]
theorem hx_fs_get {ad : Nat → Nat} {Λ : hx_L} {μ : hx_M} {k c j kd : Nat} (h : (hx_fk c)[j]? = some kd) : (hx_fs ad Λ μ k c)[j]? = some (hx_fv ad Λ μ k j kd) := by
  simp [hx_fs, List.getElem?_mapIdx, h]
theorem hx_fs_len {ad : Nat → Nat} {Λ : hx_L} {μ : hx_M} {k c : Nat} : (hx_fs ad Λ μ k c).length = (hx_fk c).length := by simp [hx_fs]
theorem hx_fs_setI {ad : Nat → Nat} {Λ : hx_L} {μ : hx_M} {k c j : Nat} {v : Int32} (h : (hx_fk c)[j]? = some 0) : (hx_fs ad Λ μ k c).set j (.int v) = hx_fs ad Λ (hx_sI μ k j v) k c := by
  apply List.ext_getElem?
  intro i
  rw [List.getElem?_set, hx_fs_len]
  have hj := (List.getElem?_eq_some_iff.mp h).1
  by_cases hi : j = i
  · subst hi
    rw [if_pos rfl, if_pos hj, hx_fs_get h]
    simp [hx_fv, hx_sI, upd]
  · rw [if_neg hi]
    simp only [hx_fs, List.getElem?_mapIdx]
    cases (hx_fk c)[i]? with
    | none => rfl
    | some kd => simp [hx_fv, hx_sI, upd, show ¬ i = j from fun z => hi z.symm]
theorem hx_fs_setL {ad : Nat → Nat} {Λ : hx_L} {μ : hx_M} {k c j : Nat} {v : Int64} (h : (hx_fk c)[j]? = some 1) : (hx_fs ad Λ μ k c).set j (.long v) = hx_fs ad Λ (hx_sL μ k j v) k c := by
  apply List.ext_getElem?
  intro i
  rw [List.getElem?_set, hx_fs_len]
  have hj := (List.getElem?_eq_some_iff.mp h).1
  by_cases hi : j = i
  · subst hi
    rw [if_pos rfl, if_pos hj, hx_fs_get h]
    simp [hx_fv, hx_sL, vp_updL]
  · rw [if_neg hi]
    simp only [hx_fs, List.getElem?_mapIdx]
    cases (hx_fk c)[i]? with
    | none => rfl
    | some kd => simp [hx_fv, hx_sL, vp_updL, show ¬ i = j from fun z => hi z.symm]
/-! values: which references they may hold; locals -/
def hx_wv (N : Nat) (v : Value) : Prop := ∀ k, v = .ref k → k < N
theorem hx_wi {N : Nat} {x : Int32} : hx_wv N (.int x) := fun _ h => by cases h
theorem hx_wl {N : Nat} {x : Int64} : hx_wv N (.long x) := fun _ h => by cases h
theorem hx_wn {N : Nat} : hx_wv N .null := fun _ h => by cases h
theorem hx_wr {N k : Nat} (h : k < N) : hx_wv N (.ref k) := fun _ h1 => by cases h1; exact h
theorem hx_wq {N : Nat} {r : Option Nat} (h : ∀ k, r = some k → k < N) : hx_wv N (va_rf r) := by
  cases r with
  | none => exact hx_wn
  | some k => exact hx_wr (h k rfl)
def hx_ws (N : Nat) : List Value → Prop
  | [] => True
  | v :: r => hx_wv N v ∧ hx_ws N r
theorem hx_ws_app {N : Nat} : ∀ {a b : List Value}, hx_ws N (a ++ b) ↔ hx_ws N a ∧ hx_ws N b
  | [], b => by simp [hx_ws]
  | v :: a, b => by simp [hx_ws, hx_ws_app (a := a), and_assoc]
theorem hx_ws_rev {N : Nat} : ∀ {a : List Value}, hx_ws N a.reverse ↔ hx_ws N a
  | [] => Iff.rfl
  | v :: a => by simp [hx_ws, hx_ws_app, hx_ws_rev (a := a), and_comm]
theorem hx_ws_mono {N N' : Nat} (h : N ≤ N') : ∀ {a : List Value}, hx_ws N a → hx_ws N' a
  | [], _ => trivial
  | _ :: _, ⟨h1, h2⟩ => ⟨fun k hk => Nat.lt_of_lt_of_le (h1 k hk) h, hx_ws_mono h h2⟩
def hx_wlv (N : Nat) (lv : hx_V) : Prop := ∀ (i : Nat) (v : Value), lv[i]? = some (some v) → hx_wv N v
def hx_h (ad : Nat → Nat) (ls : Array Slot) (nL : Nat) (lv : hx_V) : Prop := ∃ l, lv_has ls nL l ∧ ∀ (i : Nat) (v : Value), lv[i]? = some (some v) → (i, hx_tr ad v) ∈ l
theorem hx_h.at {ad : Nat → Nat} {ls : Array Slot} {nL : Nat} {lv : hx_V} (h : hx_h ad ls nL lv) {i : Nat} {v : Value} (hv : lv[i]? = some (some v)) : ls[i]? = some (.val (hx_tr ad v)) := by
  obtain ⟨l, h1, h2⟩ := h
  exact h1.2.2 _ (h2 i v hv)
def hx_n2 (lv : hx_V) (i : Nat) : Bool := match lv[i - 1]? with
  | some (some (.long _)) => false
  | some (some (.double _)) => false
  | _ => true
theorem hx_tr_cat (ad : Nat → Nat) (v : Value) : (hx_tr ad v).category = v.category := by cases v <;> rfl
theorem hx_h.st {ad : Nat → Nat} {ls' : Array Slot} {nL : Nat} {lv : hx_V} {l : List (Nat × Value)} {i : Nat} {v : Value} (hm : ∀ (i : Nat) (v : Value), lv[i]? = some (some v) → (i, hx_tr ad v) ∈ l) (hn : hx_n2 lv i = true)
    (h' : lv_has ls' nL ((i, hx_tr ad v) :: l.filter (fun q => !(q.1 == i) && !(q.1 + 1 == i && q.2.category == 2)))) : hx_h ad ls' nL (lv.set i (some v)) := by
  refine ⟨_, h', fun j w hj => ?_⟩
  rw [List.getElem?_set] at hj
  by_cases hji : i = j
  · subst hji
    rw [if_pos rfl] at hj
    split at hj
    · cases hj; exact List.mem_cons_self
    · cases hj
  · rw [if_neg hji] at hj
    refine List.mem_cons_of_mem _ (List.mem_filter.mpr ⟨hm j w hj, ?_⟩)
    simp only [hx_tr_cat, Bool.and_eq_true, Bool.not_eq_true', beq_eq_false_iff_ne, ne_eq, Bool.and_eq_false_iff]
    refine ⟨fun z => hji z.symm, ?_⟩
    by_cases hz : j + 1 = i
    · right
      subst hz
      simp only [hx_n2, Nat.add_sub_cancel, hj] at hn
      cases w <;> simp_all [Value.category]
    · exact Or.inl hz
theorem hx_h.st2 {ad : Nat → Nat} {ls' : Array Slot} {nL : Nat} {lv : hx_V} {l : List (Nat × Value)} {i : Nat} {v : Value} (hm : ∀ (i : Nat) (v : Value), lv[i]? = some (some v) → (i, hx_tr ad v) ∈ l) (hn : hx_n2 lv i = true)
    (h' : lv_has ls' nL ((i, hx_tr ad v) :: l.filter (fun q => !(q.1 == i) && (!(q.1 == i + 1) && !(q.1 + 1 == i && q.2.category == 2))))) : hx_h ad ls' nL ((lv.set i (some v)).set (i + 1) none) := by
  refine ⟨_, h', fun j w hj => ?_⟩
  rw [List.getElem?_set] at hj
  by_cases hj1 : i + 1 = j
  · subst hj1
    rw [if_pos rfl] at hj
    split at hj <;> cases hj
  · rw [if_neg hj1, List.getElem?_set] at hj
    by_cases hji : i = j
    · subst hji
      rw [if_pos rfl] at hj
      split at hj
      · cases hj; exact List.mem_cons_self
      · cases hj
    · rw [if_neg hji] at hj
      refine List.mem_cons_of_mem _ (List.mem_filter.mpr ⟨hm j w hj, ?_⟩)
      simp only [hx_tr_cat, Bool.and_eq_true, Bool.not_eq_true', beq_eq_false_iff_ne, ne_eq, Bool.and_eq_false_iff]
      refine ⟨fun z => hji z.symm, fun z => hj1 z.symm, ?_⟩
      by_cases hz : j + 1 = i
      · right
        subst hz
        simp only [hx_n2, Nat.add_sub_cancel, hj] at hn
        cases w <;> simp_all [Value.category]
      · exact Or.inl hz
theorem hx_wlv.st {N : Nat} {lv : hx_V} {i : Nat} {v : Value} (h : hx_wlv N lv) (hv : hx_wv N v) : hx_wlv N (lv.set i (some v)) := by
  intro j w hj
  rw [List.getElem?_set] at hj
  split at hj
  · split at hj
    · cases hj; exact hv
    · cases hj
  · exact h j w hj
theorem hx_wlv.no {N : Nat} {lv : hx_V} {i : Nat} (h : hx_wlv N lv) : hx_wlv N (lv.set i none) := by
  intro j w hj
  rw [List.getElem?_set] at hj
  split at hj
  · split at hj <;> cases hj
  · exact h j w hj
/-! fewer locals -/
def hx_le : Nat → hx_V → hx_V → Prop
  | _, [], _ => True
  | i, none :: r, lv => hx_le (i + 1) r lv
  | i, some v :: r, lv => lv[i]? = some (some v) ∧ hx_le (i + 1) r lv
theorem hx_le_0 {i : Nat} {lv : hx_V} : hx_le i [] lv := trivial
theorem hx_le_n {i : Nat} {r lv : hx_V} (h : hx_le (i + 1) r lv) : hx_le i (none :: r) lv := h
theorem hx_le_c {i : Nat} {v : Value} {r lv : hx_V} (h1 : lv[i]? = some (some v)) (h : hx_le (i + 1) r lv) : hx_le i (some v :: r) lv := ⟨h1, h⟩
theorem hx_le_at : ∀ {r lv : hx_V} {i : Nat}, hx_le i r lv → ∀ (j : Nat) (v : Value), r[j]? = some (some v) → lv[i + j]? = some (some v)
  | [], _, _, _, j, v, hj => by simp at hj
  | none :: r, lv, i, h, j, v, hj => by
    cases j with
    | zero => simp at hj
    | succ j => rw [show i + (j + 1) = i + 1 + j by omega]; exact hx_le_at (i := i + 1) h j v (by simpa using hj)
  | some w :: r, lv, i, h, j, v, hj => by
    cases j with
    | zero => simp at hj; subst hj; exact h.1
    | succ j => rw [show i + (j + 1) = i + 1 + j by omega]; exact hx_le_at (i := i + 1) h.2 j v (by simpa using hj)
/-! the judgement -/
def hx_ok (Λ : hx_L) : Prop := ∀ k j r, Λ.2.1 k j = some r → r < Λ.2.2
def hx_B (dC : Nat → ClassId) (dI : Nat → Nat → Nat) (cA : Nat → ClassId) (A : Nat → Prop) (H0 : Heap) (nL N0 : Nat) (ad0 : Nat → Nat) (Λ : hx_L) (μ : hx_M) (lv : hx_V) (st : List Value) (ad : Nat → Nat) (H : Heap) (locs : List Loc) (ls : Array Slot) : Prop :=
  (∀ k, (k < N0 ∨ hx_big ≤ k) → ad k = ad0 k) ∧ N0 ≤ Λ.2.2 ∧ hx_ok Λ ∧ hx_ws Λ.2.2 st ∧ hx_wlv Λ.2.2 lv ∧ va_P (dC, dI) vwCl (hx_W cA ad Λ μ) H ∧ va_D A (hx_W cA ad Λ μ) ∧ va_S A H0 H locs ∧ hx_h ad ls nL lv
section HXB
variable {dC : Nat → ClassId} {dI : Nat → Nat → Nat} {cA : Nat → ClassId} {A : Nat → Prop} {H0 : Heap} {nL N0 : Nat} {ad0 : Nat → Nat} {Λ : hx_L} {μ : hx_M} {lv : hx_V} {st st' : List Value} {ad : Nat → Nat} {H : Heap} {locs : List Loc} {ls : Array Slot}
theorem hx_B.stk (B : hx_B dC dI cA A H0 nL N0 ad0 Λ μ lv st ad H locs ls) (h : hx_ws Λ.2.2 st → hx_ws Λ.2.2 st') : hx_B dC dI cA A H0 nL N0 ad0 Λ μ lv st' ad H locs ls := ⟨B.1, B.2.1, B.2.2.1, h B.2.2.2.1, B.2.2.2.2⟩
theorem hx_B.N (B : hx_B dC dI cA A H0 nL N0 ad0 Λ μ lv st ad H locs ls) : N0 ≤ Λ.2.2 := B.2.1
theorem hx_B.ok (B : hx_B dC dI cA A H0 nL N0 ad0 Λ μ lv st ad H locs ls) : hx_ok Λ := B.2.2.1
theorem hx_B.ws (B : hx_B dC dI cA A H0 nL N0 ad0 Λ μ lv st ad H locs ls) : hx_ws Λ.2.2 st := B.2.2.2.1
theorem hx_B.wlv (B : hx_B dC dI cA A H0 nL N0 ad0 Λ μ lv st ad H locs ls) : hx_wlv Λ.2.2 lv := B.2.2.2.2.1
theorem hx_B.P (B : hx_B dC dI cA A H0 nL N0 ad0 Λ μ lv st ad H locs ls) : va_P (dC, dI) vwCl (hx_W cA ad Λ μ) H := B.2.2.2.2.2.1
theorem hx_B.D (B : hx_B dC dI cA A H0 nL N0 ad0 Λ μ lv st ad H locs ls) : va_D A (hx_W cA ad Λ μ) := B.2.2.2.2.2.2.1
theorem hx_B.S (B : hx_B dC dI cA A H0 nL N0 ad0 Λ μ lv st ad H locs ls) : va_S A H0 H locs := B.2.2.2.2.2.2.2.1
theorem hx_B.h (B : hx_B dC dI cA A H0 nL N0 ad0 Λ μ lv st ad H locs ls) : hx_h ad ls nL lv := B.2.2.2.2.2.2.2.2
theorem hx_B.loc (B : hx_B dC dI cA A H0 nL N0 ad0 Λ μ lv st ad H locs ls) {lv' : hx_V} {ls' : Array Slot} (hw : hx_ws Λ.2.2 st → hx_ws Λ.2.2 st') (h1 : hx_wlv Λ.2.2 lv') (h2 : hx_h ad ls' nL lv') : hx_B dC dI cA A H0 nL N0 ad0 Λ μ lv' st' ad H locs ls' := ⟨B.1, B.2.1, B.2.2.1, hw B.2.2.2.1, h1, B.P, B.D, B.S, h2⟩
theorem hx_B.mem (B : hx_B dC dI cA A H0 nL N0 ad0 Λ μ lv st ad H locs ls) {μ' : hx_M} {H1 : Heap} {locs1 : List Loc} (hw : hx_ws Λ.2.2 st → hx_ws Λ.2.2 st') (hP : va_P (dC, dI) vwCl (hx_W cA ad Λ μ') H1) (hD : va_D A (hx_W cA ad Λ μ')) (hS : va_S A H0 H1 locs1) : hx_B dC dI cA A H0 nL N0 ad0 Λ μ' lv st' ad H1 locs1 ls := ⟨B.1, B.2.1, B.2.2.1, hw B.ws, B.wlv, hP, hD, hS, B.h⟩
end HXB
section HXG
variable {p : Program} {l : Launch} {e : Env} {R : Room} {s : State} {m : MethodId} {args : Array Value} {below : List Frame} {meth : Method} {c : Code} {Q : State → Prop}
variable {dC : Nat → ClassId} {dI : Nat → Nat → Nat} {cA : Nat → ClassId} {A : Nat → Prop} {H0 : Heap} {nL N0 : Nat} {ad0 : Nat → Nat} {Λ : hx_L} {μ : hx_M} {lv : hx_V} {rest : List Value} {u : Nat × Nat} {pc : Nat} {cc : ByteArray}
def hx_G (p : Program) (l : Launch) (e : Env) (R : Room) (s : State) (m : MethodId) (args : Array Value) (below : List Frame) (meth : Method) (c : Code) (Q : State → Prop) (dC : Nat → ClassId) (dI : Nat → Nat → Nat) (cA : Nat → ClassId) (A : Nat → Prop) (H0 : Heap) (nL N0 : Nat) (ad0 : Nat → Nat) (Λ : hx_L) (μ : hx_M) (u : Nat × Nat) (pc : Nat) (lv : hx_V) (st : List Value) : Prop :=
  ∀ (ad : Nat → Nat) (H : Heap) (locs : List Loc) (ls : Array Slot), hx_B dC dI cA A H0 nL N0 ad0 Λ μ lv st ad H locs ls → W p l e R s m args below meth c H locs u.1 u.2 Q (F0 m pc ls (st.map (hx_tr ad)))

theorem hr_iconst (hx : p.tables.exec = Jvm.exec) (hb : c.code = cc) {n : Int} {v : Int32} (d : decode cc pc = .ok (.iconst n, 1)) (hv : Int32.ofInt n = v) (k : hx_G p l e R s m args below meth c Q dC dI cA A H0 nL N0 ad0 Λ μ u (pc + 1) lv (.int v :: rest)) : hx_G p l e R s m args below meth c Q dC dI cA A H0 nL N0 ad0 Λ μ u pc lv rest := by
  intro ad H locs ls B
  exact lv_iconst hx hb d hv (k ad H locs ls (B.stk fun h => ⟨hx_wi, h⟩))
theorem hr_bipush (hx : p.tables.exec = Jvm.exec) (hb : c.code = cc) {n : Int} {v : Int32} (d : decode cc pc = .ok (.bipush n, 2)) (hv : (Int8.ofInt n).toInt32 = v) (k : hx_G p l e R s m args below meth c Q dC dI cA A H0 nL N0 ad0 Λ μ u (pc + 2) lv (.int v :: rest)) : hx_G p l e R s m args below meth c Q dC dI cA A H0 nL N0 ad0 Λ μ u pc lv rest := by
  intro ad H locs ls B
  exact lv_bipush hx hb d hv (k ad H locs ls (B.stk fun h => ⟨hx_wi, h⟩))
theorem hr_sipush (hx : p.tables.exec = Jvm.exec) (hb : c.code = cc) {n : Int} {v : Int32} (d : decode cc pc = .ok (.sipush n, 3)) (hv : (Int16.ofInt n).toInt32 = v) (k : hx_G p l e R s m args below meth c Q dC dI cA A H0 nL N0 ad0 Λ μ u (pc + 3) lv (.int v :: rest)) : hx_G p l e R s m args below meth c Q dC dI cA A H0 nL N0 ad0 Λ μ u pc lv rest := by
  intro ad H locs ls B
  exact lv_sipush hx hb d hv (k ad H locs ls (B.stk fun h => ⟨hx_wi, h⟩))
theorem hr_lconst (hx : p.tables.exec = Jvm.exec) (hb : c.code = cc) {n : Fin 2} {v : Int64} (d : decode cc pc = .ok (.lconst n, 1)) (hv : Int64.ofNat (n : Nat) = v) (k : hx_G p l e R s m args below meth c Q dC dI cA A H0 nL N0 ad0 Λ μ u (pc + 1) lv (.long v :: rest)) : hx_G p l e R s m args below meth c Q dC dI cA A H0 nL N0 ad0 Λ μ u pc lv rest := by
  intro ad H locs ls B
  exact lv_lconst hx hb d hv (k ad H locs ls (B.stk fun h => ⟨hx_wl, h⟩))
theorem hr_ldc (hx : p.tables.exec = Jvm.exec) (hb : c.code = cc) {own : String} {i : Nat} {v : Int32} (hown : s.vm.findClass own = some m.cls) (hc : (Jvm.Cond.constant own i v).before args s = true) (d : decode cc pc = .ok (.ldc i, 2)) (k : hx_G p l e R s m args below meth c Q dC dI cA A H0 nL N0 ad0 Λ μ u (pc + 2) lv (.int v :: rest)) : hx_G p l e R s m args below meth c Q dC dI cA A H0 nL N0 ad0 Λ μ u pc lv rest := by
  intro ad H locs ls B
  exact lv_ldc hx hb hown hc d (k ad H locs ls (B.stk fun h => ⟨hx_wi, h⟩))
theorem hr_ldcw (hx : p.tables.exec = Jvm.exec) (hb : c.code = cc) {own : String} {i : Nat} {v : Int32} (hown : s.vm.findClass own = some m.cls) (hc : (Jvm.Cond.constant own i v).before args s = true) (d : decode cc pc = .ok (.ldc_w i, 3)) (k : hx_G p l e R s m args below meth c Q dC dI cA A H0 nL N0 ad0 Λ μ u (pc + 3) lv (.int v :: rest)) : hx_G p l e R s m args below meth c Q dC dI cA A H0 nL N0 ad0 Λ μ u pc lv rest := by
  intro ad H locs ls B
  exact lv_ldcw hx hb hown hc d (k ad H locs ls (B.stk fun h => ⟨hx_wi, h⟩))
theorem hr_ldc2 (hx : p.tables.exec = Jvm.exec) (hb : c.code = cc) {own : String} {i : Nat} {v : Int64} (hown : s.vm.findClass own = some m.cls) (hc : (Jvm.Cond.constantLong own i v).before args s = true) (d : decode cc pc = .ok (.ldc2_w i, 3)) (k : hx_G p l e R s m args below meth c Q dC dI cA A H0 nL N0 ad0 Λ μ u (pc + 3) lv (.long v :: rest)) : hx_G p l e R s m args below meth c Q dC dI cA A H0 nL N0 ad0 Λ μ u pc lv rest := by
  intro ad H locs ls B
  exact lv_ldc2 hx hb hown hc d (k ad H locs ls (B.stk fun h => ⟨hx_wl, h⟩))
theorem hr_null (hx : p.tables.exec = Jvm.exec) (hb : c.code = cc) (d : decode cc pc = .ok (.aconst_null, 1)) (k : hx_G p l e R s m args below meth c Q dC dI cA A H0 nL N0 ad0 Λ μ u (pc + 1) lv (.null :: rest)) : hx_G p l e R s m args below meth c Q dC dI cA A H0 nL N0 ad0 Λ μ u pc lv rest := by
  intro ad H locs ls B
  exact lv_null hx hb d (k ad H locs ls (B.stk fun h => ⟨hx_wn, h⟩))
theorem hr_iload_n (hx : p.tables.exec = Jvm.exec) (hb : c.code = cc) {n : Fin 4} {x : Int32} (d : decode cc pc = .ok (.iload_n n, 1)) (hv : lv[(n : Nat)]? = some (some (.int x))) (k : hx_G p l e R s m args below meth c Q dC dI cA A H0 nL N0 ad0 Λ μ u (pc + 1) lv (.int x :: rest)) : hx_G p l e R s m args below meth c Q dC dI cA A H0 nL N0 ad0 Λ μ u pc lv rest := by
  intro ad H locs ls B
  exact lv_iload_n hx hb d rfl (B.h.at hv) (k ad H locs ls (B.stk fun h => ⟨hx_wi, h⟩))
theorem hr_iload (hx : p.tables.exec = Jvm.exec) (hb : c.code = cc) {i : Nat} {x : Int32} (d : decode cc pc = .ok (.iload i, 2)) (hv : lv[i]? = some (some (.int x))) (k : hx_G p l e R s m args below meth c Q dC dI cA A H0 nL N0 ad0 Λ μ u (pc + 2) lv (.int x :: rest)) : hx_G p l e R s m args below meth c Q dC dI cA A H0 nL N0 ad0 Λ μ u pc lv rest := by
  intro ad H locs ls B
  exact lv_iload hx hb d (B.h.at hv) (k ad H locs ls (B.stk fun h => ⟨hx_wi, h⟩))
theorem hr_lload_n (hx : p.tables.exec = Jvm.exec) (hb : c.code = cc) {n : Fin 4} {x : Int64} (d : decode cc pc = .ok (.lload_n n, 1)) (hv : lv[(n : Nat)]? = some (some (.long x))) (k : hx_G p l e R s m args below meth c Q dC dI cA A H0 nL N0 ad0 Λ μ u (pc + 1) lv (.long x :: rest)) : hx_G p l e R s m args below meth c Q dC dI cA A H0 nL N0 ad0 Λ μ u pc lv rest := by
  intro ad H locs ls B
  exact lv_lload_n hx hb d rfl (B.h.at hv) (k ad H locs ls (B.stk fun h => ⟨hx_wl, h⟩))
theorem hr_lload (hx : p.tables.exec = Jvm.exec) (hb : c.code = cc) {i : Nat} {x : Int64} (d : decode cc pc = .ok (.lload i, 2)) (hv : lv[i]? = some (some (.long x))) (k : hx_G p l e R s m args below meth c Q dC dI cA A H0 nL N0 ad0 Λ μ u (pc + 2) lv (.long x :: rest)) : hx_G p l e R s m args below meth c Q dC dI cA A H0 nL N0 ad0 Λ μ u pc lv rest := by
  intro ad H locs ls B
  exact lv_lload hx hb d (B.h.at hv) (k ad H locs ls (B.stk fun h => ⟨hx_wl, h⟩))
theorem hr_aload_n (hx : p.tables.exec = Jvm.exec) (hb : c.code = cc) {n : Fin 4} {x : Nat} (d : decode cc pc = .ok (.aload_n n, 1)) (hv : lv[(n : Nat)]? = some (some (.ref x))) (k : hx_G p l e R s m args below meth c Q dC dI cA A H0 nL N0 ad0 Λ μ u (pc + 1) lv (.ref x :: rest)) : hx_G p l e R s m args below meth c Q dC dI cA A H0 nL N0 ad0 Λ μ u pc lv rest := by
  intro ad H locs ls B
  exact lv_aload_n hx hb d rfl (B.h.at hv) (k ad H locs ls (B.stk fun h => ⟨B.wlv _ _ hv, h⟩))
theorem hr_aload (hx : p.tables.exec = Jvm.exec) (hb : c.code = cc) {i : Nat} {x : Nat} (d : decode cc pc = .ok (.aload i, 2)) (hv : lv[i]? = some (some (.ref x))) (k : hx_G p l e R s m args below meth c Q dC dI cA A H0 nL N0 ad0 Λ μ u (pc + 2) lv (.ref x :: rest)) : hx_G p l e R s m args below meth c Q dC dI cA A H0 nL N0 ad0 Λ μ u pc lv rest := by
  intro ad H locs ls B
  exact lv_aload hx hb d (B.h.at hv) (k ad H locs ls (B.stk fun h => ⟨B.wlv _ _ hv, h⟩))
theorem hr_aload_nQ (hx : p.tables.exec = Jvm.exec) (hb : c.code = cc) {n : Fin 4} {q : Option Nat} (d : decode cc pc = .ok (.aload_n n, 1)) (hv : lv[(n : Nat)]? = some (some (va_rf q))) (k : hx_G p l e R s m args below meth c Q dC dI cA A H0 nL N0 ad0 Λ μ u (pc + 1) lv (va_rf q :: rest)) : hx_G p l e R s m args below meth c Q dC dI cA A H0 nL N0 ad0 Λ μ u pc lv rest := by
  cases q with
  | some x => exact hr_aload_n hx hb d hv k
  | none =>
    intro ad H locs ls B
    exact lv_aload_nN hx hb d rfl (B.h.at hv) (k ad H locs ls (B.stk fun h => ⟨hx_wn, h⟩))
theorem hr_aloadQ (hx : p.tables.exec = Jvm.exec) (hb : c.code = cc) {i : Nat} {q : Option Nat} (d : decode cc pc = .ok (.aload i, 2)) (hv : lv[i]? = some (some (va_rf q))) (k : hx_G p l e R s m args below meth c Q dC dI cA A H0 nL N0 ad0 Λ μ u (pc + 2) lv (va_rf q :: rest)) : hx_G p l e R s m args below meth c Q dC dI cA A H0 nL N0 ad0 Λ μ u pc lv rest := by
  cases q with
  | some x => exact hr_aload hx hb d hv k
  | none =>
    intro ad H locs ls B
    exact lv_aloadN hx hb d (B.h.at hv) (k ad H locs ls (B.stk fun h => ⟨hx_wn, h⟩))
theorem hr_istore_n (hx : p.tables.exec = Jvm.exec) (hb : c.code = cc) {n : Fin 4} {x : Int32} (d : decode cc pc = .ok (.istore_n n, 1)) (hn : (n : Nat) < nL) (h2 : hx_n2 lv (n : Nat) = true) (k : hx_G p l e R s m args below meth c Q dC dI cA A H0 nL N0 ad0 Λ μ u (pc + 1) (lv.set (n : Nat) (some (.int x))) rest) : hx_G p l e R s m args below meth c Q dC dI cA A H0 nL N0 ad0 Λ μ u pc lv (.int x :: rest) := by
  intro ad H locs ls B
  obtain ⟨l0, h1, h3⟩ := B.h
  exact lv_istore_n hx hb d rfl h1 hn rfl (fun ls' h' => k ad H locs ls' (B.loc (fun h => h.2) (B.wlv.st hx_wi) (hx_h.st h3 h2 h')))
theorem hr_istore (hx : p.tables.exec = Jvm.exec) (hb : c.code = cc) {i : Nat} {x : Int32} (d : decode cc pc = .ok (.istore i, 2)) (hn : i < nL) (h2 : hx_n2 lv i = true) (k : hx_G p l e R s m args below meth c Q dC dI cA A H0 nL N0 ad0 Λ μ u (pc + 2) (lv.set i (some (.int x))) rest) : hx_G p l e R s m args below meth c Q dC dI cA A H0 nL N0 ad0 Λ μ u pc lv (.int x :: rest) := by
  intro ad H locs ls B
  obtain ⟨l0, h1, h3⟩ := B.h
  exact lv_istore hx hb d h1 hn rfl (fun ls' h' => k ad H locs ls' (B.loc (fun h => h.2) (B.wlv.st hx_wi) (hx_h.st h3 h2 h')))
theorem hr_astore_n (hx : p.tables.exec = Jvm.exec) (hb : c.code = cc) {n : Fin 4} {x : Nat} (d : decode cc pc = .ok (.astore_n n, 1)) (hn : (n : Nat) < nL) (h2 : hx_n2 lv (n : Nat) = true) (k : hx_G p l e R s m args below meth c Q dC dI cA A H0 nL N0 ad0 Λ μ u (pc + 1) (lv.set (n : Nat) (some (.ref x))) rest) : hx_G p l e R s m args below meth c Q dC dI cA A H0 nL N0 ad0 Λ μ u pc lv (.ref x :: rest) := by
  intro ad H locs ls B
  obtain ⟨l0, h1, h3⟩ := B.h
  exact lv_astore_n hx hb d rfl h1 hn rfl (fun ls' h' => k ad H locs ls' (B.loc (fun h => h.2) (B.wlv.st B.ws.1) (hx_h.st h3 h2 h')))
theorem hr_astore (hx : p.tables.exec = Jvm.exec) (hb : c.code = cc) {i : Nat} {x : Nat} (d : decode cc pc = .ok (.astore i, 2)) (hn : i < nL) (h2 : hx_n2 lv i = true) (k : hx_G p l e R s m args below meth c Q dC dI cA A H0 nL N0 ad0 Λ μ u (pc + 2) (lv.set i (some (.ref x))) rest) : hx_G p l e R s m args below meth c Q dC dI cA A H0 nL N0 ad0 Λ μ u pc lv (.ref x :: rest) := by
  intro ad H locs ls B
  obtain ⟨l0, h1, h3⟩ := B.h
  exact lv_astore hx hb d h1 hn rfl (fun ls' h' => k ad H locs ls' (B.loc (fun h => h.2) (B.wlv.st B.ws.1) (hx_h.st h3 h2 h')))
theorem hr_astore_nQ (hx : p.tables.exec = Jvm.exec) (hb : c.code = cc) {n : Fin 4} {q : Option Nat} (d : decode cc pc = .ok (.astore_n n, 1)) (hn : (n : Nat) < nL) (h2 : hx_n2 lv (n : Nat) = true) (k : hx_G p l e R s m args below meth c Q dC dI cA A H0 nL N0 ad0 Λ μ u (pc + 1) (lv.set (n : Nat) (some (va_rf q))) rest) : hx_G p l e R s m args below meth c Q dC dI cA A H0 nL N0 ad0 Λ μ u pc lv (va_rf q :: rest) := by
  cases q with
  | some x => exact hr_astore_n hx hb d hn h2 k
  | none =>
    intro ad H locs ls B
    obtain ⟨l0, h1, h3⟩ := B.h
    exact lv_astore_nN hx hb d rfl h1 hn rfl (fun ls' h' => k ad H locs ls' (B.loc (fun h => h.2) (B.wlv.st hx_wn) (hx_h.st h3 h2 h')))
theorem hr_astoreQ (hx : p.tables.exec = Jvm.exec) (hb : c.code = cc) {i : Nat} {q : Option Nat} (d : decode cc pc = .ok (.astore i, 2)) (hn : i < nL) (h2 : hx_n2 lv i = true) (k : hx_G p l e R s m args below meth c Q dC dI cA A H0 nL N0 ad0 Λ μ u (pc + 2) (lv.set i (some (va_rf q))) rest) : hx_G p l e R s m args below meth c Q dC dI cA A H0 nL N0 ad0 Λ μ u pc lv (va_rf q :: rest) := by
  cases q with
  | some x => exact hr_astore hx hb d hn h2 k
  | none =>
    intro ad H locs ls B
    obtain ⟨l0, h1, h3⟩ := B.h
    exact lv_astoreN hx hb d h1 hn rfl (fun ls' h' => k ad H locs ls' (B.loc (fun h => h.2) (B.wlv.st hx_wn) (hx_h.st h3 h2 h')))
theorem hr_lstore_n (hx : p.tables.exec = Jvm.exec) (hb : c.code = cc) {n : Fin 4} {x : Int64} (d : decode cc pc = .ok (.lstore_n n, 1)) (hn : (n : Nat) + 1 < nL) (h2 : hx_n2 lv (n : Nat) = true) (k : hx_G p l e R s m args below meth c Q dC dI cA A H0 nL N0 ad0 Λ μ u (pc + 1) ((lv.set (n : Nat) (some (.long x))).set ((n : Nat) + 1) none) rest) : hx_G p l e R s m args below meth c Q dC dI cA A H0 nL N0 ad0 Λ μ u pc lv (.long x :: rest) := by
  intro ad H locs ls B
  obtain ⟨l0, h1, h3⟩ := B.h
  exact lv_lstore_n hx hb d rfl h1 hn rfl (fun ls' h' => k ad H locs ls' (B.loc (fun h => h.2) (B.wlv.st hx_wl).no (hx_h.st2 h3 h2 h')))
theorem hr_lstore (hx : p.tables.exec = Jvm.exec) (hb : c.code = cc) {i : Nat} {x : Int64} (d : decode cc pc = .ok (.lstore i, 2)) (hn : i + 1 < nL) (h2 : hx_n2 lv i = true) (k : hx_G p l e R s m args below meth c Q dC dI cA A H0 nL N0 ad0 Λ μ u (pc + 2) ((lv.set i (some (.long x))).set (i + 1) none) rest) : hx_G p l e R s m args below meth c Q dC dI cA A H0 nL N0 ad0 Λ μ u pc lv (.long x :: rest) := by
  intro ad H locs ls B
  obtain ⟨l0, h1, h3⟩ := B.h
  exact lv_lstore hx hb d h1 hn rfl (fun ls' h' => k ad H locs ls' (B.loc (fun h => h.2) (B.wlv.st hx_wl).no (hx_h.st2 h3 h2 h')))
theorem hr_iinc (hx : p.tables.exec = Jvm.exec) (hb : c.code = cc) {i : Nat} {n : Int} {x v : Int32} (d : decode cc pc = .ok (.iinc i n, 3)) (hv : lv[i]? = some (some (.int x))) (he : x + Int32.ofInt n = v) (hn : i < nL) (h2 : hx_n2 lv i = true) (k : hx_G p l e R s m args below meth c Q dC dI cA A H0 nL N0 ad0 Λ μ u (pc + 3) (lv.set i (some (.int v))) rest) : hx_G p l e R s m args below meth c Q dC dI cA A H0 nL N0 ad0 Λ μ u pc lv rest := by
  intro ad H locs ls B
  obtain ⟨l0, h1, h3⟩ := B.h
  obtain ⟨q, hq⟩ := List.getElem?_of_mem (h3 i _ hv)
  exact lv_iinc hx hb d h1 hq he hn rfl (fun ls' h' => k ad H locs ls' (B.loc (fun h => h) (B.wlv.st hx_wi) (hx_h.st h3 h2 h')))
theorem hr_iadd (hx : p.tables.exec = Jvm.exec) (hb : c.code = cc) {x y : Int32} (d : decode cc pc = .ok (.iadd, 1)) (k : hx_G p l e R s m args below meth c Q dC dI cA A H0 nL N0 ad0 Λ μ u (pc + 1) lv (.int (x + y) :: rest)) : hx_G p l e R s m args below meth c Q dC dI cA A H0 nL N0 ad0 Λ μ u pc lv (.int y :: .int x :: rest) := by
  intro ad H locs ls B
  exact lv_iadd hx hb d (k ad H locs ls (B.stk fun h => ⟨hx_wi, h.2.2⟩))
theorem hr_isub (hx : p.tables.exec = Jvm.exec) (hb : c.code = cc) {x y : Int32} (d : decode cc pc = .ok (.isub, 1)) (k : hx_G p l e R s m args below meth c Q dC dI cA A H0 nL N0 ad0 Λ μ u (pc + 1) lv (.int (x - y) :: rest)) : hx_G p l e R s m args below meth c Q dC dI cA A H0 nL N0 ad0 Λ μ u pc lv (.int y :: .int x :: rest) := by
  intro ad H locs ls B
  exact lv_isub hx hb d (k ad H locs ls (B.stk fun h => ⟨hx_wi, h.2.2⟩))
theorem hr_imul (hx : p.tables.exec = Jvm.exec) (hb : c.code = cc) {x y : Int32} (d : decode cc pc = .ok (.imul, 1)) (k : hx_G p l e R s m args below meth c Q dC dI cA A H0 nL N0 ad0 Λ μ u (pc + 1) lv (.int (x * y) :: rest)) : hx_G p l e R s m args below meth c Q dC dI cA A H0 nL N0 ad0 Λ μ u pc lv (.int y :: .int x :: rest) := by
  intro ad H locs ls B
  exact lv_imul hx hb d (k ad H locs ls (B.stk fun h => ⟨hx_wi, h.2.2⟩))
theorem hr_iand (hx : p.tables.exec = Jvm.exec) (hb : c.code = cc) {x y : Int32} (d : decode cc pc = .ok (.iand, 1)) (k : hx_G p l e R s m args below meth c Q dC dI cA A H0 nL N0 ad0 Λ μ u (pc + 1) lv (.int (x &&& y) :: rest)) : hx_G p l e R s m args below meth c Q dC dI cA A H0 nL N0 ad0 Λ μ u pc lv (.int y :: .int x :: rest) := by
  intro ad H locs ls B
  exact lv_iand hx hb d (k ad H locs ls (B.stk fun h => ⟨hx_wi, h.2.2⟩))
theorem hr_ior (hx : p.tables.exec = Jvm.exec) (hb : c.code = cc) {x y : Int32} (d : decode cc pc = .ok (.ior, 1)) (k : hx_G p l e R s m args below meth c Q dC dI cA A H0 nL N0 ad0 Λ μ u (pc + 1) lv (.int (x ||| y) :: rest)) : hx_G p l e R s m args below meth c Q dC dI cA A H0 nL N0 ad0 Λ μ u pc lv (.int y :: .int x :: rest) := by
  intro ad H locs ls B
  exact lv_ior hx hb d (k ad H locs ls (B.stk fun h => ⟨hx_wi, h.2.2⟩))
theorem hr_ixor (hx : p.tables.exec = Jvm.exec) (hb : c.code = cc) {x y : Int32} (d : decode cc pc = .ok (.ixor, 1)) (k : hx_G p l e R s m args below meth c Q dC dI cA A H0 nL N0 ad0 Λ μ u (pc + 1) lv (.int (x ^^^ y) :: rest)) : hx_G p l e R s m args below meth c Q dC dI cA A H0 nL N0 ad0 Λ μ u pc lv (.int y :: .int x :: rest) := by
  intro ad H locs ls B
  exact lv_ixor hx hb d (k ad H locs ls (B.stk fun h => ⟨hx_wi, h.2.2⟩))
theorem hr_ishl (hx : p.tables.exec = Jvm.exec) (hb : c.code = cc) {x y : Int32} (d : decode cc pc = .ok (.ishl, 1)) (k : hx_G p l e R s m args below meth c Q dC dI cA A H0 nL N0 ad0 Λ μ u (pc + 1) lv (.int (x <<< (y &&& 31)) :: rest)) : hx_G p l e R s m args below meth c Q dC dI cA A H0 nL N0 ad0 Λ μ u pc lv (.int y :: .int x :: rest) := by
  intro ad H locs ls B
  exact lv_ishl hx hb d (k ad H locs ls (B.stk fun h => ⟨hx_wi, h.2.2⟩))
theorem hr_ishr (hx : p.tables.exec = Jvm.exec) (hb : c.code = cc) {x y : Int32} (d : decode cc pc = .ok (.ishr, 1)) (k : hx_G p l e R s m args below meth c Q dC dI cA A H0 nL N0 ad0 Λ μ u (pc + 1) lv (.int (x >>> (y &&& 31)) :: rest)) : hx_G p l e R s m args below meth c Q dC dI cA A H0 nL N0 ad0 Λ μ u pc lv (.int y :: .int x :: rest) := by
  intro ad H locs ls B
  exact lv_ishr hx hb d (k ad H locs ls (B.stk fun h => ⟨hx_wi, h.2.2⟩))
theorem hr_idiv (hx : p.tables.exec = Jvm.exec) (hb : c.code = cc) {x y : Int32} (d : decode cc pc = .ok (.idiv, 1)) (hne : ¬ y = 0) (k : hx_G p l e R s m args below meth c Q dC dI cA A H0 nL N0 ad0 Λ μ u (pc + 1) lv (.int (x / y) :: rest)) : hx_G p l e R s m args below meth c Q dC dI cA A H0 nL N0 ad0 Λ μ u pc lv (.int y :: .int x :: rest) := by
  intro ad H locs ls B
  exact lv_idiv hx hb d hne (k ad H locs ls (B.stk fun h => ⟨hx_wi, h.2.2⟩))
theorem hr_irem (hx : p.tables.exec = Jvm.exec) (hb : c.code = cc) {x y : Int32} (d : decode cc pc = .ok (.irem, 1)) (hne : ¬ y = 0) (k : hx_G p l e R s m args below meth c Q dC dI cA A H0 nL N0 ad0 Λ μ u (pc + 1) lv (.int (x - x / y * y) :: rest)) : hx_G p l e R s m args below meth c Q dC dI cA A H0 nL N0 ad0 Λ μ u pc lv (.int y :: .int x :: rest) := by
  intro ad H locs ls B
  exact lv_irem hx hb d hne (k ad H locs ls (B.stk fun h => ⟨hx_wi, h.2.2⟩))
theorem hr_iushr (hx : p.tables.exec = Jvm.exec) (hb : c.code = cc) {x y : Int32} (d : decode cc pc = .ok (.iushr, 1)) (k : hx_G p l e R s m args below meth c Q dC dI cA A H0 nL N0 ad0 Λ μ u (pc + 1) lv (.int (x.toUInt32 >>> (y.toUInt32 &&& Int32.toUInt32 31)).toInt32 :: rest)) : hx_G p l e R s m args below meth c Q dC dI cA A H0 nL N0 ad0 Λ μ u pc lv (.int y :: .int x :: rest) := by
  intro ad H locs ls B
  exact lv_iushr hx hb d rfl (k ad H locs ls (B.stk fun h => ⟨hx_wi, h.2.2⟩))
theorem hr_ineg (hx : p.tables.exec = Jvm.exec) (hb : c.code = cc) {x : Int32} (d : decode cc pc = .ok (.ineg, 1)) (k : hx_G p l e R s m args below meth c Q dC dI cA A H0 nL N0 ad0 Λ μ u (pc + 1) lv (.int (-x) :: rest)) : hx_G p l e R s m args below meth c Q dC dI cA A H0 nL N0 ad0 Λ μ u pc lv (.int x :: rest) := by
  intro ad H locs ls B
  exact lv_ineg hx hb d (k ad H locs ls (B.stk fun h => ⟨hx_wi, h.2⟩))
theorem hr_ladd (hx : p.tables.exec = Jvm.exec) (hb : c.code = cc) {x y : Int64} (d : decode cc pc = .ok (.ladd, 1)) (k : hx_G p l e R s m args below meth c Q dC dI cA A H0 nL N0 ad0 Λ μ u (pc + 1) lv (.long (x + y) :: rest)) : hx_G p l e R s m args below meth c Q dC dI cA A H0 nL N0 ad0 Λ μ u pc lv (.long y :: .long x :: rest) := by
  intro ad H locs ls B
  exact lv_ladd hx hb d (k ad H locs ls (B.stk fun h => ⟨hx_wl, h.2.2⟩))
theorem hr_lsub (hx : p.tables.exec = Jvm.exec) (hb : c.code = cc) {x y : Int64} (d : decode cc pc = .ok (.lsub, 1)) (k : hx_G p l e R s m args below meth c Q dC dI cA A H0 nL N0 ad0 Λ μ u (pc + 1) lv (.long (x - y) :: rest)) : hx_G p l e R s m args below meth c Q dC dI cA A H0 nL N0 ad0 Λ μ u pc lv (.long y :: .long x :: rest) := by
  intro ad H locs ls B
  exact lv_lsub hx hb d (k ad H locs ls (B.stk fun h => ⟨hx_wl, h.2.2⟩))
theorem hr_lmul (hx : p.tables.exec = Jvm.exec) (hb : c.code = cc) {x y : Int64} (d : decode cc pc = .ok (.lmul, 1)) (k : hx_G p l e R s m args below meth c Q dC dI cA A H0 nL N0 ad0 Λ μ u (pc + 1) lv (.long (x * y) :: rest)) : hx_G p l e R s m args below meth c Q dC dI cA A H0 nL N0 ad0 Λ μ u pc lv (.long y :: .long x :: rest) := by
  intro ad H locs ls B
  exact lv_lmul hx hb d (k ad H locs ls (B.stk fun h => ⟨hx_wl, h.2.2⟩))
theorem hr_land (hx : p.tables.exec = Jvm.exec) (hb : c.code = cc) {x y : Int64} (d : decode cc pc = .ok (.land, 1)) (k : hx_G p l e R s m args below meth c Q dC dI cA A H0 nL N0 ad0 Λ μ u (pc + 1) lv (.long (x &&& y) :: rest)) : hx_G p l e R s m args below meth c Q dC dI cA A H0 nL N0 ad0 Λ μ u pc lv (.long y :: .long x :: rest) := by
  intro ad H locs ls B
  exact lv_land hx hb d (k ad H locs ls (B.stk fun h => ⟨hx_wl, h.2.2⟩))
theorem hr_lor (hx : p.tables.exec = Jvm.exec) (hb : c.code = cc) {x y : Int64} (d : decode cc pc = .ok (.lor, 1)) (k : hx_G p l e R s m args below meth c Q dC dI cA A H0 nL N0 ad0 Λ μ u (pc + 1) lv (.long (x ||| y) :: rest)) : hx_G p l e R s m args below meth c Q dC dI cA A H0 nL N0 ad0 Λ μ u pc lv (.long y :: .long x :: rest) := by
  intro ad H locs ls B
  exact lv_lor hx hb d (k ad H locs ls (B.stk fun h => ⟨hx_wl, h.2.2⟩))
theorem hr_lxor (hx : p.tables.exec = Jvm.exec) (hb : c.code = cc) {x y : Int64} (d : decode cc pc = .ok (.lxor, 1)) (k : hx_G p l e R s m args below meth c Q dC dI cA A H0 nL N0 ad0 Λ μ u (pc + 1) lv (.long (x ^^^ y) :: rest)) : hx_G p l e R s m args below meth c Q dC dI cA A H0 nL N0 ad0 Λ μ u pc lv (.long y :: .long x :: rest) := by
  intro ad H locs ls B
  exact lv_lxor hx hb d (k ad H locs ls (B.stk fun h => ⟨hx_wl, h.2.2⟩))
theorem hr_ldiv (hx : p.tables.exec = Jvm.exec) (hb : c.code = cc) {x y : Int64} (d : decode cc pc = .ok (.ldiv, 1)) (hne : ¬ y = 0) (k : hx_G p l e R s m args below meth c Q dC dI cA A H0 nL N0 ad0 Λ μ u (pc + 1) lv (.long (x / y) :: rest)) : hx_G p l e R s m args below meth c Q dC dI cA A H0 nL N0 ad0 Λ μ u pc lv (.long y :: .long x :: rest) := by
  intro ad H locs ls B
  exact lv_ldiv hx hb d hne (k ad H locs ls (B.stk fun h => ⟨hx_wl, h.2.2⟩))
theorem hr_lrem (hx : p.tables.exec = Jvm.exec) (hb : c.code = cc) {x y : Int64} (d : decode cc pc = .ok (.lrem, 1)) (hne : ¬ y = 0) (k : hx_G p l e R s m args below meth c Q dC dI cA A H0 nL N0 ad0 Λ μ u (pc + 1) lv (.long (x - x / y * y) :: rest)) : hx_G p l e R s m args below meth c Q dC dI cA A H0 nL N0 ad0 Λ μ u pc lv (.long y :: .long x :: rest) := by
  intro ad H locs ls B
  exact lv_lrem hx hb d hne (k ad H locs ls (B.stk fun h => ⟨hx_wl, h.2.2⟩))
theorem hr_lshl (hx : p.tables.exec = Jvm.exec) (hb : c.code = cc) {x : Int64} {y : Int32} (d : decode cc pc = .ok (.lshl, 1)) (k : hx_G p l e R s m args below meth c Q dC dI cA A H0 nL N0 ad0 Λ μ u (pc + 1) lv (.long (x <<< (y.toInt64 &&& 63)) :: rest)) : hx_G p l e R s m args below meth c Q dC dI cA A H0 nL N0 ad0 Λ μ u pc lv (.int y :: .long x :: rest) := by
  intro ad H locs ls B
  exact lv_lshl hx hb d rfl (k ad H locs ls (B.stk fun h => ⟨hx_wl, h.2.2⟩))
theorem hr_lushr (hx : p.tables.exec = Jvm.exec) (hb : c.code = cc) {x : Int64} {y : Int32} (d : decode cc pc = .ok (.lushr, 1)) (k : hx_G p l e R s m args below meth c Q dC dI cA A H0 nL N0 ad0 Λ μ u (pc + 1) lv (.long ((x.toUInt64 >>> (y.toInt64.toUInt64 &&& Int64.toUInt64 63)).toInt64) :: rest)) : hx_G p l e R s m args below meth c Q dC dI cA A H0 nL N0 ad0 Λ μ u pc lv (.int y :: .long x :: rest) := by
  intro ad H locs ls B
  exact lv_lushr hx hb d rfl (k ad H locs ls (B.stk fun h => ⟨hx_wl, h.2.2⟩))
theorem hr_lcmp (hx : p.tables.exec = Jvm.exec) (hb : c.code = cc) {x y : Int64} (d : decode cc pc = .ok (.lcmp, 1)) (k : hx_G p l e R s m args below meth c Q dC dI cA A H0 nL N0 ad0 Λ μ u (pc + 1) lv (.int (lg_cmp x y) :: rest)) : hx_G p l e R s m args below meth c Q dC dI cA A H0 nL N0 ad0 Λ μ u pc lv (.long y :: .long x :: rest) := by
  intro ad H locs ls B
  exact W.lcmp hx hb d (k ad H locs ls (B.stk fun h => ⟨hx_wi, h.2.2⟩))
theorem hr_i2l (hx : p.tables.exec = Jvm.exec) (hb : c.code = cc) {x : Int32} (d : decode cc pc = .ok (.i2l, 1)) (k : hx_G p l e R s m args below meth c Q dC dI cA A H0 nL N0 ad0 Λ μ u (pc + 1) lv (.long x.toInt64 :: rest)) : hx_G p l e R s m args below meth c Q dC dI cA A H0 nL N0 ad0 Λ μ u pc lv (.int x :: rest) := by
  intro ad H locs ls B
  exact lv_i2l hx hb d rfl (k ad H locs ls (B.stk fun h => ⟨hx_wl, h.2⟩))
theorem hr_l2i (hx : p.tables.exec = Jvm.exec) (hb : c.code = cc) {x : Int64} (d : decode cc pc = .ok (.l2i, 1)) (k : hx_G p l e R s m args below meth c Q dC dI cA A H0 nL N0 ad0 Λ μ u (pc + 1) lv (.int x.toInt32 :: rest)) : hx_G p l e R s m args below meth c Q dC dI cA A H0 nL N0 ad0 Λ μ u pc lv (.long x :: rest) := by
  intro ad H locs ls B
  exact lv_l2i hx hb d rfl (k ad H locs ls (B.stk fun h => ⟨hx_wi, h.2⟩))
theorem hr_i2b (hx : p.tables.exec = Jvm.exec) (hb : c.code = cc) {x : Int32} (d : decode cc pc = .ok (.i2b, 1)) (k : hx_G p l e R s m args below meth c Q dC dI cA A H0 nL N0 ad0 Λ μ u (pc + 1) lv (.int x.toInt8.toInt32 :: rest)) : hx_G p l e R s m args below meth c Q dC dI cA A H0 nL N0 ad0 Λ μ u pc lv (.int x :: rest) := by
  intro ad H locs ls B
  exact lv_i2b hx hb d rfl (k ad H locs ls (B.stk fun h => ⟨hx_wi, h.2⟩))
theorem hr_dup (hx : p.tables.exec = Jvm.exec) (hb : c.code = cc) {v : Value} (d : decode cc pc = .ok (.dup, 1)) (hv : v.category = 1) (k : hx_G p l e R s m args below meth c Q dC dI cA A H0 nL N0 ad0 Λ μ u (pc + 1) lv (v :: v :: rest)) : hx_G p l e R s m args below meth c Q dC dI cA A H0 nL N0 ad0 Λ μ u pc lv (v :: rest) := by
  intro ad H locs ls B
  exact lv_dup hx hb d ((hx_tr_cat ad v).trans hv) (k ad H locs ls (B.stk fun h => ⟨h.1, h⟩))
theorem hr_dup_x1 (hx : p.tables.exec = Jvm.exec) (hb : c.code = cc) {v w : Value} (d : decode cc pc = .ok (.dup_x1, 1)) (hv : v.category = 1) (hw : w.category = 1) (k : hx_G p l e R s m args below meth c Q dC dI cA A H0 nL N0 ad0 Λ μ u (pc + 1) lv (v :: w :: v :: rest)) : hx_G p l e R s m args below meth c Q dC dI cA A H0 nL N0 ad0 Λ μ u pc lv (v :: w :: rest) := by
  intro ad H locs ls B
  exact lv_dup_x1 hx hb d ((hx_tr_cat ad v).trans hv) ((hx_tr_cat ad w).trans hw) (k ad H locs ls (B.stk fun h => ⟨h.1, h.2.1, h.1, h.2.2⟩))
theorem hr_dup2 (hx : p.tables.exec = Jvm.exec) (hb : c.code = cc) {v w : Value} (d : decode cc pc = .ok (.dup2, 1)) (hv : v.category = 1) (hw : w.category = 1) (k : hx_G p l e R s m args below meth c Q dC dI cA A H0 nL N0 ad0 Λ μ u (pc + 1) lv (v :: w :: v :: w :: rest)) : hx_G p l e R s m args below meth c Q dC dI cA A H0 nL N0 ad0 Λ μ u pc lv (v :: w :: rest) := by
  intro ad H locs ls B
  exact lv_dup2_11 hx hb d ((hx_tr_cat ad v).trans hv) ((hx_tr_cat ad w).trans hw) (k ad H locs ls (B.stk fun h => ⟨h.1, h.2.1, h⟩))
theorem hr_pop (hx : p.tables.exec = Jvm.exec) (hb : c.code = cc) {v : Value} (d : decode cc pc = .ok (.pop, 1)) (hv : v.category = 1) (k : hx_G p l e R s m args below meth c Q dC dI cA A H0 nL N0 ad0 Λ μ u (pc + 1) lv rest) : hx_G p l e R s m args below meth c Q dC dI cA A H0 nL N0 ad0 Λ μ u pc lv (v :: rest) := by
  intro ad H locs ls B
  exact lv_pop hx hb d ((hx_tr_cat ad v).trans hv) (k ad H locs ls (B.stk fun h => h.2))
theorem hr_if_eq (hx : p.tables.exec = Jvm.exec) (hb : c.code = cc) {x : Int32} {off : Int} {tgt : Nat} (d : decode cc pc = .ok (.ifCond .eq off, 3)) (ht : (pc : Int) + off = (tgt : Int)) (kt : x = 0 → hx_G p l e R s m args below meth c Q dC dI cA A H0 nL N0 ad0 Λ μ u tgt lv rest) (kf : ¬ (x = 0) → hx_G p l e R s m args below meth c Q dC dI cA A H0 nL N0 ad0 Λ μ u (pc + 3) lv rest) : hx_G p l e R s m args below meth c Q dC dI cA A H0 nL N0 ad0 Λ μ u pc lv (.int x :: rest) := by
  intro ad H locs ls B
  exact lv_if_eq hx hb d ht (fun z => kt z ad H locs ls (B.stk fun h => h.2)) (fun z => kf z ad H locs ls (B.stk fun h => h.2))
theorem hr_icmp_eq (hx : p.tables.exec = Jvm.exec) (hb : c.code = cc) {x y : Int32} {off : Int} {tgt : Nat} (d : decode cc pc = .ok (.if_icmp .eq off, 3)) (ht : (pc : Int) + off = (tgt : Int)) (kt : x = y → hx_G p l e R s m args below meth c Q dC dI cA A H0 nL N0 ad0 Λ μ u tgt lv rest) (kf : ¬ (x = y) → hx_G p l e R s m args below meth c Q dC dI cA A H0 nL N0 ad0 Λ μ u (pc + 3) lv rest) : hx_G p l e R s m args below meth c Q dC dI cA A H0 nL N0 ad0 Λ μ u pc lv (.int y :: .int x :: rest) := by
  intro ad H locs ls B
  exact lv_icmp_eq hx hb d ht (fun z => kt z ad H locs ls (B.stk fun h => h.2.2)) (fun z => kf z ad H locs ls (B.stk fun h => h.2.2))
theorem hr_if_ne (hx : p.tables.exec = Jvm.exec) (hb : c.code = cc) {x : Int32} {off : Int} {tgt : Nat} (d : decode cc pc = .ok (.ifCond .ne off, 3)) (ht : (pc : Int) + off = (tgt : Int)) (kt : x ≠ 0 → hx_G p l e R s m args below meth c Q dC dI cA A H0 nL N0 ad0 Λ μ u tgt lv rest) (kf : x = 0 → hx_G p l e R s m args below meth c Q dC dI cA A H0 nL N0 ad0 Λ μ u (pc + 3) lv rest) : hx_G p l e R s m args below meth c Q dC dI cA A H0 nL N0 ad0 Λ μ u pc lv (.int x :: rest) := by
  intro ad H locs ls B
  exact lv_if_ne hx hb d ht (fun z => kt z ad H locs ls (B.stk fun h => h.2)) (fun z => kf z ad H locs ls (B.stk fun h => h.2))
theorem hr_icmp_ne (hx : p.tables.exec = Jvm.exec) (hb : c.code = cc) {x y : Int32} {off : Int} {tgt : Nat} (d : decode cc pc = .ok (.if_icmp .ne off, 3)) (ht : (pc : Int) + off = (tgt : Int)) (kt : x ≠ y → hx_G p l e R s m args below meth c Q dC dI cA A H0 nL N0 ad0 Λ μ u tgt lv rest) (kf : x = y → hx_G p l e R s m args below meth c Q dC dI cA A H0 nL N0 ad0 Λ μ u (pc + 3) lv rest) : hx_G p l e R s m args below meth c Q dC dI cA A H0 nL N0 ad0 Λ μ u pc lv (.int y :: .int x :: rest) := by
  intro ad H locs ls B
  exact lv_icmp_ne hx hb d ht (fun z => kt z ad H locs ls (B.stk fun h => h.2.2)) (fun z => kf z ad H locs ls (B.stk fun h => h.2.2))
theorem hr_if_lt (hx : p.tables.exec = Jvm.exec) (hb : c.code = cc) {x : Int32} {off : Int} {tgt : Nat} (d : decode cc pc = .ok (.ifCond .lt off, 3)) (ht : (pc : Int) + off = (tgt : Int)) (kt : x < 0 → hx_G p l e R s m args below meth c Q dC dI cA A H0 nL N0 ad0 Λ μ u tgt lv rest) (kf : ¬ (x < 0) → hx_G p l e R s m args below meth c Q dC dI cA A H0 nL N0 ad0 Λ μ u (pc + 3) lv rest) : hx_G p l e R s m args below meth c Q dC dI cA A H0 nL N0 ad0 Λ μ u pc lv (.int x :: rest) := by
  intro ad H locs ls B
  exact lv_if_lt hx hb d ht (fun z => kt z ad H locs ls (B.stk fun h => h.2)) (fun z => kf z ad H locs ls (B.stk fun h => h.2))
theorem hr_icmp_lt (hx : p.tables.exec = Jvm.exec) (hb : c.code = cc) {x y : Int32} {off : Int} {tgt : Nat} (d : decode cc pc = .ok (.if_icmp .lt off, 3)) (ht : (pc : Int) + off = (tgt : Int)) (kt : x < y → hx_G p l e R s m args below meth c Q dC dI cA A H0 nL N0 ad0 Λ μ u tgt lv rest) (kf : ¬ (x < y) → hx_G p l e R s m args below meth c Q dC dI cA A H0 nL N0 ad0 Λ μ u (pc + 3) lv rest) : hx_G p l e R s m args below meth c Q dC dI cA A H0 nL N0 ad0 Λ μ u pc lv (.int y :: .int x :: rest) := by
  intro ad H locs ls B
  exact lv_icmp_lt hx hb d ht (fun z => kt z ad H locs ls (B.stk fun h => h.2.2)) (fun z => kf z ad H locs ls (B.stk fun h => h.2.2))
theorem hr_if_ge (hx : p.tables.exec = Jvm.exec) (hb : c.code = cc) {x : Int32} {off : Int} {tgt : Nat} (d : decode cc pc = .ok (.ifCond .ge off, 3)) (ht : (pc : Int) + off = (tgt : Int)) (kt : 0 ≤ x → hx_G p l e R s m args below meth c Q dC dI cA A H0 nL N0 ad0 Λ μ u tgt lv rest) (kf : ¬ (0 ≤ x) → hx_G p l e R s m args below meth c Q dC dI cA A H0 nL N0 ad0 Λ μ u (pc + 3) lv rest) : hx_G p l e R s m args below meth c Q dC dI cA A H0 nL N0 ad0 Λ μ u pc lv (.int x :: rest) := by
  intro ad H locs ls B
  exact lv_if_ge hx hb d ht (fun z => kt z ad H locs ls (B.stk fun h => h.2)) (fun z => kf z ad H locs ls (B.stk fun h => h.2))
theorem hr_icmp_ge (hx : p.tables.exec = Jvm.exec) (hb : c.code = cc) {x y : Int32} {off : Int} {tgt : Nat} (d : decode cc pc = .ok (.if_icmp .ge off, 3)) (ht : (pc : Int) + off = (tgt : Int)) (kt : y ≤ x → hx_G p l e R s m args below meth c Q dC dI cA A H0 nL N0 ad0 Λ μ u tgt lv rest) (kf : ¬ (y ≤ x) → hx_G p l e R s m args below meth c Q dC dI cA A H0 nL N0 ad0 Λ μ u (pc + 3) lv rest) : hx_G p l e R s m args below meth c Q dC dI cA A H0 nL N0 ad0 Λ μ u pc lv (.int y :: .int x :: rest) := by
  intro ad H locs ls B
  exact lv_icmp_ge hx hb d ht (fun z => kt z ad H locs ls (B.stk fun h => h.2.2)) (fun z => kf z ad H locs ls (B.stk fun h => h.2.2))
theorem hr_if_gt (hx : p.tables.exec = Jvm.exec) (hb : c.code = cc) {x : Int32} {off : Int} {tgt : Nat} (d : decode cc pc = .ok (.ifCond .gt off, 3)) (ht : (pc : Int) + off = (tgt : Int)) (kt : 0 < x → hx_G p l e R s m args below meth c Q dC dI cA A H0 nL N0 ad0 Λ μ u tgt lv rest) (kf : ¬ (0 < x) → hx_G p l e R s m args below meth c Q dC dI cA A H0 nL N0 ad0 Λ μ u (pc + 3) lv rest) : hx_G p l e R s m args below meth c Q dC dI cA A H0 nL N0 ad0 Λ μ u pc lv (.int x :: rest) := by
  intro ad H locs ls B
  exact lv_if_gt hx hb d ht (fun z => kt z ad H locs ls (B.stk fun h => h.2)) (fun z => kf z ad H locs ls (B.stk fun h => h.2))
theorem hr_icmp_gt (hx : p.tables.exec = Jvm.exec) (hb : c.code = cc) {x y : Int32} {off : Int} {tgt : Nat} (d : decode cc pc = .ok (.if_icmp .gt off, 3)) (ht : (pc : Int) + off = (tgt : Int)) (kt : y < x → hx_G p l e R s m args below meth c Q dC dI cA A H0 nL N0 ad0 Λ μ u tgt lv rest) (kf : ¬ (y < x) → hx_G p l e R s m args below meth c Q dC dI cA A H0 nL N0 ad0 Λ μ u (pc + 3) lv rest) : hx_G p l e R s m args below meth c Q dC dI cA A H0 nL N0 ad0 Λ μ u pc lv (.int y :: .int x :: rest) := by
  intro ad H locs ls B
  exact lv_icmp_gt hx hb d ht (fun z => kt z ad H locs ls (B.stk fun h => h.2.2)) (fun z => kf z ad H locs ls (B.stk fun h => h.2.2))
theorem hr_if_le (hx : p.tables.exec = Jvm.exec) (hb : c.code = cc) {x : Int32} {off : Int} {tgt : Nat} (d : decode cc pc = .ok (.ifCond .le off, 3)) (ht : (pc : Int) + off = (tgt : Int)) (kt : x ≤ 0 → hx_G p l e R s m args below meth c Q dC dI cA A H0 nL N0 ad0 Λ μ u tgt lv rest) (kf : ¬ (x ≤ 0) → hx_G p l e R s m args below meth c Q dC dI cA A H0 nL N0 ad0 Λ μ u (pc + 3) lv rest) : hx_G p l e R s m args below meth c Q dC dI cA A H0 nL N0 ad0 Λ μ u pc lv (.int x :: rest) := by
  intro ad H locs ls B
  exact lv_if_le hx hb d ht (fun z => kt z ad H locs ls (B.stk fun h => h.2)) (fun z => kf z ad H locs ls (B.stk fun h => h.2))
theorem hr_icmp_le (hx : p.tables.exec = Jvm.exec) (hb : c.code = cc) {x y : Int32} {off : Int} {tgt : Nat} (d : decode cc pc = .ok (.if_icmp .le off, 3)) (ht : (pc : Int) + off = (tgt : Int)) (kt : x ≤ y → hx_G p l e R s m args below meth c Q dC dI cA A H0 nL N0 ad0 Λ μ u tgt lv rest) (kf : ¬ (x ≤ y) → hx_G p l e R s m args below meth c Q dC dI cA A H0 nL N0 ad0 Λ μ u (pc + 3) lv rest) : hx_G p l e R s m args below meth c Q dC dI cA A H0 nL N0 ad0 Λ μ u pc lv (.int y :: .int x :: rest) := by
  intro ad H locs ls B
  exact lv_icmp_le hx hb d ht (fun z => kt z ad H locs ls (B.stk fun h => h.2.2)) (fun z => kf z ad H locs ls (B.stk fun h => h.2.2))
theorem hr_goto (hx : p.tables.exec = Jvm.exec) (hb : c.code = cc) {off : Int} {tgt : Nat} (d : decode cc pc = .ok (.goto off, 3)) (ht : (pc : Int) + off = (tgt : Int)) (k : hx_G p l e R s m args below meth c Q dC dI cA A H0 nL N0 ad0 Λ μ u tgt lv rest) : hx_G p l e R s m args below meth c Q dC dI cA A H0 nL N0 ad0 Λ μ u pc lv rest := by
  intro ad H locs ls B
  exact lv_goto hx hb d ht (k ad H locs ls B)
theorem hr_ifnull (hx : p.tables.exec = Jvm.exec) (hb : c.code = cc) {r : Option Nat} {off : Int} {tgt : Nat} (d : decode cc pc = .ok (.ifnull off, 3)) (ht : (pc : Int) + off = (tgt : Int)) (kt : r = none → hx_G p l e R s m args below meth c Q dC dI cA A H0 nL N0 ad0 Λ μ u tgt lv rest) (kf : ∀ q, r = some q → hx_G p l e R s m args below meth c Q dC dI cA A H0 nL N0 ad0 Λ μ u (pc + 3) lv rest) : hx_G p l e R s m args below meth c Q dC dI cA A H0 nL N0 ad0 Λ μ u pc lv (va_rf r :: rest) := by
  intro ad H locs ls B
  cases r with
  | none => exact lv_ifnullN hx hb d ht (kt rfl ad H locs ls (B.stk fun h => h.2))
  | some q => exact lv_ifnull hx hb d (kf q rfl ad H locs ls (B.stk fun h => h.2))
theorem hr_ifnonnull (hx : p.tables.exec = Jvm.exec) (hb : c.code = cc) {r : Option Nat} {off : Int} {tgt : Nat} (d : decode cc pc = .ok (.ifnonnull off, 3)) (ht : (pc : Int) + off = (tgt : Int)) (kt : ∀ q, r = some q → hx_G p l e R s m args below meth c Q dC dI cA A H0 nL N0 ad0 Λ μ u tgt lv rest) (kf : r = none → hx_G p l e R s m args below meth c Q dC dI cA A H0 nL N0 ad0 Λ μ u (pc + 3) lv rest) : hx_G p l e R s m args below meth c Q dC dI cA A H0 nL N0 ad0 Λ μ u pc lv (va_rf r :: rest) := by
  intro ad H locs ls B
  cases r with
  | none => exact lv_ifnonnullN hx hb d (kf rfl ad H locs ls (B.stk fun h => h.2))
  | some q => exact lv_ifnonnull hx hb d ht (kt q rfl ad H locs ls (B.stk fun h => h.2))
theorem hr_switchIn (hx : p.tables.exec = Jvm.exec) (hb : c.code = cc) {dflt lo hi : Int} {offs : Array Int} {len : Nat} {x : Int32} {off : Int} {tgt : Nat} (d : decode cc pc = .ok (.tableswitch dflt lo hi offs, len)) (h1 : ¬ x.toInt < lo) (h2 : ¬ hi < x.toInt) (ho : offs[(x.toInt - lo).toNat]? = some off) (ht : (pc : Int) + off = (tgt : Int)) (k : hx_G p l e R s m args below meth c Q dC dI cA A H0 nL N0 ad0 Λ μ u tgt lv rest) : hx_G p l e R s m args below meth c Q dC dI cA A H0 nL N0 ad0 Λ μ u pc lv (.int x :: rest) := by
  intro ad H locs ls B
  exact lv_tableIn hx hb d h1 h2 ho ht (k ad H locs ls (B.stk fun h => h.2))
theorem hr_switchOut (hx : p.tables.exec = Jvm.exec) (hb : c.code = cc) {dflt lo hi : Int} {offs : Array Int} {len : Nat} {x : Int32} {tgt : Nat} (d : decode cc pc = .ok (.tableswitch dflt lo hi offs, len)) (h1 : x.toInt < lo ∨ hi < x.toInt) (ht : (pc : Int) + dflt = (tgt : Int)) (k : hx_G p l e R s m args below meth c Q dC dI cA A H0 nL N0 ad0 Λ μ u tgt lv rest) : hx_G p l e R s m args below meth c Q dC dI cA A H0 nL N0 ad0 Λ μ u pc lv (.int x :: rest) := by
  intro ad H locs ls B
  exact lv_tableOut hx hb d h1 ht (k ad H locs ls (B.stk fun h => h.2))
theorem hr_sub {lv' : hx_V} {st : List Value} (hl : hx_le 0 lv' lv) (k : hx_G p l e R s m args below meth c Q dC dI cA A H0 nL N0 ad0 Λ μ u pc lv' st) : hx_G p l e R s m args below meth c Q dC dI cA A H0 nL N0 ad0 Λ μ u pc lv st := by
  intro ad H locs ls B
  refine k ad H locs ls (B.loc (fun h => h) (fun i v h => B.wlv i v (by simpa using hx_le_at hl i v h)) ?_)
  obtain ⟨l0, h1, h3⟩ := B.h
  exact ⟨l0, h1, fun i v h => h3 i v (by simpa using hx_le_at hl i v h)⟩
theorem hr_widen {u' : Nat × Nat} {st : List Value} (h1 : u.1 ≤ u'.1) (h2 : u.2 ≤ u'.2) (k : hx_G p l e R s m args below meth c Q dC dI cA A H0 nL N0 ad0 Λ μ u' pc lv st) : hx_G p l e R s m args below meth c Q dC dI cA A H0 nL N0 ad0 Λ μ u pc lv st := by
  intro ad H locs ls B
  exact W.widen h1 h2 (k ad H locs ls B)
theorem hr_getI (hx : p.tables.exec = Jvm.exec) (hb : c.code = cc) {own C : String} {T : u_T} {N ci i j k0 : Nat} (hts : ∀ w ∈ hx_tbl, w.before args s = true) (hin : ∀ w ∈ u_ws C T N, w ∈ hx_tbl) (hown : s.vm.findClass own = some m.cls) (hK : va_K (dC, dI) vwCl (hx_tys cA) s) (hc : vwCl[ci]? = some (C, T, N)) (hj : j < N) (hl : Cond.fieldLink own i (T j).1 (T j).2.1 (T j).2.2.1 ∈ hx_tbl) (hs : Λ.1 k0 = (0, ci)) (d : decode cc pc = .ok (.getfield i, 3)) (hkd : (hx_fk ci)[j]? = some 0) (k : hx_G p l e R s m args below meth c Q dC dI cA A H0 nL N0 ad0 Λ μ u (pc + 3) lv (.int (μ.1 k0 j) :: rest)) : hx_G p l e R s m args below meth c Q dC dI cA A H0 nL N0 ad0 Λ μ u pc lv (.ref k0 :: rest) := by
  intro ad H locs ls B
  have hk0 : k0 < Λ.2.2 := B.ws.1 _ rfl
  have hk := k ad H locs ls (B.stk fun h => ⟨hx_wi, h.2⟩)
  refine va_get (D := (dC, dI)) hx hb hts hin hown hK B.P k0 ((hx_W_get hk0).trans (by rw [hx_e_o hs])) hc j hj (hts _ hl) (fun _ h9 => h9) (hx_fs_get hkd) d ?_
  exact hk
theorem hr_getL (hx : p.tables.exec = Jvm.exec) (hb : c.code = cc) {own C : String} {T : u_T} {N ci i j k0 : Nat} (hts : ∀ w ∈ hx_tbl, w.before args s = true) (hin : ∀ w ∈ u_ws C T N, w ∈ hx_tbl) (hown : s.vm.findClass own = some m.cls) (hK : va_K (dC, dI) vwCl (hx_tys cA) s) (hc : vwCl[ci]? = some (C, T, N)) (hj : j < N) (hl : Cond.fieldLink own i (T j).1 (T j).2.1 (T j).2.2.1 ∈ hx_tbl) (hs : Λ.1 k0 = (0, ci)) (d : decode cc pc = .ok (.getfield i, 3)) (hkd : (hx_fk ci)[j]? = some 1) (k : hx_G p l e R s m args below meth c Q dC dI cA A H0 nL N0 ad0 Λ μ u (pc + 3) lv (.long (μ.2 k0 j) :: rest)) : hx_G p l e R s m args below meth c Q dC dI cA A H0 nL N0 ad0 Λ μ u pc lv (.ref k0 :: rest) := by
  intro ad H locs ls B
  have hk0 : k0 < Λ.2.2 := B.ws.1 _ rfl
  have hk := k ad H locs ls (B.stk fun h => ⟨hx_wl, h.2⟩)
  refine va_get (D := (dC, dI)) hx hb hts hin hown hK B.P k0 ((hx_W_get hk0).trans (by rw [hx_e_o hs])) hc j hj (hts _ hl) (fun _ h9 => h9) (hx_fs_get hkd) d ?_
  exact hk
theorem hr_getR (hx : p.tables.exec = Jvm.exec) (hb : c.code = cc) {own C : String} {T : u_T} {N ci i j k0 : Nat} (hts : ∀ w ∈ hx_tbl, w.before args s = true) (hin : ∀ w ∈ u_ws C T N, w ∈ hx_tbl) (hown : s.vm.findClass own = some m.cls) (hK : va_K (dC, dI) vwCl (hx_tys cA) s) (hc : vwCl[ci]? = some (C, T, N)) (hj : j < N) (hl : Cond.fieldLink own i (T j).1 (T j).2.1 (T j).2.2.1 ∈ hx_tbl) (hs : Λ.1 k0 = (0, ci)) (d : decode cc pc = .ok (.getfield i, 3)) (hkd : (hx_fk ci)[j]? = some 2) (k : hx_G p l e R s m args below meth c Q dC dI cA A H0 nL N0 ad0 Λ μ u (pc + 3) lv (va_rf (Λ.2.1 k0 j) :: rest)) : hx_G p l e R s m args below meth c Q dC dI cA A H0 nL N0 ad0 Λ μ u pc lv (.ref k0 :: rest) := by
  intro ad H locs ls B
  have hk0 : k0 < Λ.2.2 := B.ws.1 _ rfl
  have hk := k ad H locs ls (B.stk fun h => ⟨hx_wq (fun q hq => B.ok _ _ _ hq), h.2⟩)
  rw [List.map_cons, hx_tr_rf] at hk
  refine va_get (D := (dC, dI)) hx hb hts hin hown hK B.P k0 ((hx_W_get hk0).trans (by rw [hx_e_o hs])) hc j hj (hts _ hl) (fun _ h9 => h9) (hx_fs_get hkd) d ?_
  exact hk
theorem hr_putI (hx : p.tables.exec = Jvm.exec) (hb : c.code = cc) {own C : String} {T : u_T} {N ci i j k0 : Nat} (hts : ∀ w ∈ hx_tbl, w.before args s = true) (hin : ∀ w ∈ u_ws C T N, w ∈ hx_tbl) (hown : s.vm.findClass own = some m.cls) (hK : va_K (dC, dI) vwCl (hx_tys cA) s) (hc : vwCl[ci]? = some (C, T, N)) (hj : j < N) (hl : Cond.fieldLink own i (T j).1 (T j).2.1 (T j).2.2.1 ∈ hx_tbl) (hs : Λ.1 k0 = (0, ci)) (d : decode cc pc = .ok (.putfield i, 3)) (hkd : (hx_fk ci)[j]? = some 0) (ty0 : Nat → FieldType) (hty : ∀ k, k < N → parseFieldDescriptor (T k).2.2.1 = some (ty0 k)) (hnm : ∀ a, a < N → ∀ b, b < N → a ≠ b → (T a).2.1 ≠ (T b).2.1) (hfin : (T j).2.2.2 = false) (htj : parseFieldDescriptor (T j).2.2.1 = some .int) {v : Int32} (k : hx_G p l e R s m args below meth c Q dC dI cA A H0 nL N0 ad0 Λ (hx_sI μ k0 j v) u (pc + 3) lv rest) : hx_G p l e R s m args below meth c Q dC dI cA A H0 nL N0 ad0 Λ μ u pc lv (.int v :: .ref k0 :: rest) := by
  intro ad H locs ls B
  have hk0 : k0 < Λ.2.2 := B.ws.2.1 _ rfl
  refine va_put (D := (dC, dI)) hx hb hts hin ty0 hty hnm hown hK B.P B.D B.S k0 ((hx_W_get hk0).trans (by rw [hx_e_o hs])) hc j hj (hts _ hl) (fun _ h9 => h9) hfin htj rfl rfl (by rw [hx_fs_len]; exact (List.getElem?_eq_some_iff.mp hkd).1) d (fun H1 locs1 hP hD hS => ?_)
  have e := hx_W_set (cA := cA) (ad := ad) (Λ := Λ) (μ := μ) (μ' := hx_sI μ k0 j v) (k := k0) (e := .inr (ci, (hx_fs ad Λ μ k0 ci).set j (.int v))) (by rw [hx_e_o hs, hx_fs_setI hkd]) (fun j' hj' => hx_e_sI hj')
  exact k ad H1 locs1 ls (B.mem (fun h => h.2.2) (by rw [← e]; exact hP) (by rw [← e]; exact hD) hS)
theorem hr_putL (hx : p.tables.exec = Jvm.exec) (hb : c.code = cc) {own C : String} {T : u_T} {N ci i j k0 : Nat} (hts : ∀ w ∈ hx_tbl, w.before args s = true) (hin : ∀ w ∈ u_ws C T N, w ∈ hx_tbl) (hown : s.vm.findClass own = some m.cls) (hK : va_K (dC, dI) vwCl (hx_tys cA) s) (hc : vwCl[ci]? = some (C, T, N)) (hj : j < N) (hl : Cond.fieldLink own i (T j).1 (T j).2.1 (T j).2.2.1 ∈ hx_tbl) (hs : Λ.1 k0 = (0, ci)) (d : decode cc pc = .ok (.putfield i, 3)) (hkd : (hx_fk ci)[j]? = some 1) (ty0 : Nat → FieldType) (hty : ∀ k, k < N → parseFieldDescriptor (T k).2.2.1 = some (ty0 k)) (hnm : ∀ a, a < N → ∀ b, b < N → a ≠ b → (T a).2.1 ≠ (T b).2.1) (hfin : (T j).2.2.2 = false) (htj : parseFieldDescriptor (T j).2.2.1 = some .long) {v : Int64} (k : hx_G p l e R s m args below meth c Q dC dI cA A H0 nL N0 ad0 Λ (hx_sL μ k0 j v) u (pc + 3) lv rest) : hx_G p l e R s m args below meth c Q dC dI cA A H0 nL N0 ad0 Λ μ u pc lv (.long v :: .ref k0 :: rest) := by
  intro ad H locs ls B
  have hk0 : k0 < Λ.2.2 := B.ws.2.1 _ rfl
  refine va_put (D := (dC, dI)) hx hb hts hin ty0 hty hnm hown hK B.P B.D B.S k0 ((hx_W_get hk0).trans (by rw [hx_e_o hs])) hc j hj (hts _ hl) (fun _ h9 => h9) hfin htj rfl rfl (by rw [hx_fs_len]; exact (List.getElem?_eq_some_iff.mp hkd).1) d (fun H1 locs1 hP hD hS => ?_)
  have e := hx_W_set (cA := cA) (ad := ad) (Λ := Λ) (μ := μ) (μ' := hx_sL μ k0 j v) (k := k0) (e := .inr (ci, (hx_fs ad Λ μ k0 ci).set j (.long v))) (by rw [hx_e_o hs, hx_fs_setL hkd]) (fun j' hj' => hx_e_sL hj')
  exact k ad H1 locs1 ls (B.mem (fun h => h.2.2) (by rw [← e]; exact hP) (by rw [← e]; exact hD) hS)
theorem hr_iald (hx : p.tables.exec = Jvm.exec) (hb : c.code = cc) {k0 n : Nat} {i : Int32} (hK : va_K (dC, dI) vwCl (hx_tys cA) s) (hs : Λ.1 k0 = (1, n)) (hin : vp_in i n) (d : decode cc pc = .ok (.iaload, 1)) (k : hx_G p l e R s m args below meth c Q dC dI cA A H0 nL N0 ad0 Λ μ u (pc + 1) lv (.int (μ.1 k0 i.toNatClampNeg) :: rest)) : hx_G p l e R s m args below meth c Q dC dI cA A H0 nL N0 ad0 Λ μ u pc lv (.int i :: .ref k0 :: rest) := by
  intro ad H locs ls B
  have hk0 : k0 < Λ.2.2 := B.ws.2.1 _ rfl
  exact va_iald (D := (dC, dI)) hx hb hK B.P k0 0 ((hx_W_get hk0).trans (by rw [hx_e_i hs])) rfl hin d (k ad H locs ls (B.stk fun h => ⟨hx_wi, h.2.2⟩))
theorem hr_bald (hx : p.tables.exec = Jvm.exec) (hb : c.code = cc) {k0 n : Nat} {i : Int32} (hK : va_K (dC, dI) vwCl (hx_tys cA) s) (hs : Λ.1 k0 = (2, n)) (hin : vp_in i n) (d : decode cc pc = .ok (.baload, 1)) (k : hx_G p l e R s m args below meth c Q dC dI cA A H0 nL N0 ad0 Λ μ u (pc + 1) lv (.int (μ.1 k0 i.toNatClampNeg) :: rest)) : hx_G p l e R s m args below meth c Q dC dI cA A H0 nL N0 ad0 Λ μ u pc lv (.int i :: .ref k0 :: rest) := by
  intro ad H locs ls B
  have hk0 : k0 < Λ.2.2 := B.ws.2.1 _ rfl
  exact va_bald (D := (dC, dI)) hx hb hK B.P k0 1 ((hx_W_get hk0).trans (by rw [hx_e_b hs])) rfl hin d (k ad H locs ls (B.stk fun h => ⟨hx_wi, h.2.2⟩))
theorem hr_lald (hx : p.tables.exec = Jvm.exec) (hb : c.code = cc) {k0 n : Nat} {i : Int32} (hK : va_K (dC, dI) vwCl (hx_tys cA) s) (hs : Λ.1 k0 = (3, n)) (hin : vp_in i n) (d : decode cc pc = .ok (.laload, 1)) (k : hx_G p l e R s m args below meth c Q dC dI cA A H0 nL N0 ad0 Λ μ u (pc + 1) lv (.long (μ.2 k0 i.toNatClampNeg) :: rest)) : hx_G p l e R s m args below meth c Q dC dI cA A H0 nL N0 ad0 Λ μ u pc lv (.int i :: .ref k0 :: rest) := by
  intro ad H locs ls B
  have hk0 : k0 < Λ.2.2 := B.ws.2.1 _ rfl
  exact va_lald (D := (dC, dI)) hx hb hK B.P k0 2 ((hx_W_get hk0).trans (by rw [hx_e_l hs])) rfl hin d (k ad H locs ls (B.stk fun h => ⟨hx_wl, h.2.2⟩))
theorem hr_zald (hx : p.tables.exec = Jvm.exec) (hb : c.code = cc) {k0 n : Nat} {i : Int32} (hK : va_K (dC, dI) vwCl (hx_tys cA) s) (hs : Λ.1 k0 = (4, n)) (hin : vp_in i n) (d : decode cc pc = .ok (.baload, 1)) (k : hx_G p l e R s m args below meth c Q dC dI cA A H0 nL N0 ad0 Λ μ u (pc + 1) lv (.int (μ.1 k0 i.toNatClampNeg) :: rest)) : hx_G p l e R s m args below meth c Q dC dI cA A H0 nL N0 ad0 Λ μ u pc lv (.int i :: .ref k0 :: rest) := by
  intro ad H locs ls B
  have hk0 : k0 < Λ.2.2 := B.ws.2.1 _ rfl
  exact va_zald (D := (dC, dI)) hx hb hK B.P k0 3 ((hx_W_get hk0).trans (by rw [hx_e_z hs])) rfl hin d (k ad H locs ls (B.stk fun h => ⟨hx_wi, h.2.2⟩))
theorem hr_aldL (hx : p.tables.exec = Jvm.exec) (hb : c.code = cc) {k0 n : Nat} {i : Int32} (hK : va_K (dC, dI) vwCl (hx_tys cA) s) (hs : Λ.1 k0 = (5, n)) (hin : vp_in i n) (d : decode cc pc = .ok (.aaload, 1)) (k : hx_G p l e R s m args below meth c Q dC dI cA A H0 nL N0 ad0 Λ μ u (pc + 1) lv (va_rf (Λ.2.1 k0 i.toNatClampNeg) :: rest)) : hx_G p l e R s m args below meth c Q dC dI cA A H0 nL N0 ad0 Λ μ u pc lv (.int i :: .ref k0 :: rest) := by
  intro ad H locs ls B
  have hk0 : k0 < Λ.2.2 := B.ws.2.1 _ rfl
  have hk := k ad H locs ls (B.stk fun h => ⟨hx_wq (fun q hq => B.ok _ _ _ hq), h.2.2⟩)
  rw [List.map_cons, hx_tr_rf] at hk
  exact va_aldq (D := (dC, dI)) hx hb hK B.P k0 4 ((hx_W_get hk0).trans (by rw [hx_e_q hs])) rfl hin d hk
theorem hr_aldW (hx : p.tables.exec = Jvm.exec) (hb : c.code = cc) {k0 n : Nat} {i : Int32} (hK : va_K (dC, dI) vwCl (hx_tys cA) s) (hs : Λ.1 k0 = (6, n)) (hin : vp_in i n) (d : decode cc pc = .ok (.aaload, 1)) (k : hx_G p l e R s m args below meth c Q dC dI cA A H0 nL N0 ad0 Λ μ u (pc + 1) lv (va_rf (Λ.2.1 k0 i.toNatClampNeg) :: rest)) : hx_G p l e R s m args below meth c Q dC dI cA A H0 nL N0 ad0 Λ μ u pc lv (.int i :: .ref k0 :: rest) := by
  intro ad H locs ls B
  have hk0 : k0 < Λ.2.2 := B.ws.2.1 _ rfl
  have hk := k ad H locs ls (B.stk fun h => ⟨hx_wq (fun q hq => B.ok _ _ _ hq), h.2.2⟩)
  rw [List.map_cons, hx_tr_rf] at hk
  exact va_aldq (D := (dC, dI)) hx hb hK B.P k0 5 ((hx_W_get hk0).trans (by rw [hx_e_w hs])) rfl hin d hk
theorem hr_iast (hx : p.tables.exec = Jvm.exec) (hb : c.code = cc) {k0 n : Nat} {i x : Int32} (hK : va_K (dC, dI) vwCl (hx_tys cA) s) (hs : Λ.1 k0 = (1, n)) (hin : vp_in i n) (d : decode cc pc = .ok (.iastore, 1)) (k : hx_G p l e R s m args below meth c Q dC dI cA A H0 nL N0 ad0 Λ (hx_sI μ k0 i.toNatClampNeg (x)) u (pc + 1) lv rest) : hx_G p l e R s m args below meth c Q dC dI cA A H0 nL N0 ad0 Λ μ u pc lv (.int x :: .int i :: .ref k0 :: rest) := by
  intro ad H locs ls B
  have hk0 : k0 < Λ.2.2 := B.ws.2.2.1 _ rfl
  refine va_iast (D := (dC, dI)) hx hb hK B.P B.D B.S k0 0 ((hx_W_get hk0).trans (by rw [hx_e_i hs])) rfl hin d (fun H1 locs1 hP hD hS => ?_)
  have e := hx_W_set (cA := cA) (ad := ad) (Λ := Λ) (μ := μ) (μ' := hx_sI μ k0 i.toNatClampNeg (x)) (k := k0) (e := .inl (cA 1, n, .inl (upd (μ.1 k0) i.toNatClampNeg (x)))) (by rw [hx_e_i hs]; simp [hx_sI]) (fun j' hj' => hx_e_sI hj')
  rw [e] at hP hD
  exact k ad H1 locs1 ls (B.mem (fun h => h.2.2.2) hP hD hS)
theorem hr_bast (hx : p.tables.exec = Jvm.exec) (hb : c.code = cc) {k0 n : Nat} {i x : Int32} (hK : va_K (dC, dI) vwCl (hx_tys cA) s) (hs : Λ.1 k0 = (2, n)) (hin : vp_in i n) (d : decode cc pc = .ok (.bastore, 1)) (k : hx_G p l e R s m args below meth c Q dC dI cA A H0 nL N0 ad0 Λ (hx_sI μ k0 i.toNatClampNeg (vp_nar .byte x)) u (pc + 1) lv rest) : hx_G p l e R s m args below meth c Q dC dI cA A H0 nL N0 ad0 Λ μ u pc lv (.int x :: .int i :: .ref k0 :: rest) := by
  intro ad H locs ls B
  have hk0 : k0 < Λ.2.2 := B.ws.2.2.1 _ rfl
  refine va_bast (D := (dC, dI)) hx hb hK B.P B.D B.S k0 1 ((hx_W_get hk0).trans (by rw [hx_e_b hs])) rfl hin d (fun H1 locs1 hP hD hS => ?_)
  have e := hx_W_set (cA := cA) (ad := ad) (Λ := Λ) (μ := μ) (μ' := hx_sI μ k0 i.toNatClampNeg (vp_nar .byte x)) (k := k0) (e := .inl (cA 2, n, .inl (upd (μ.1 k0) i.toNatClampNeg (vp_nar .byte x)))) (by rw [hx_e_b hs]; simp [hx_sI]) (fun j' hj' => hx_e_sI hj')
  rw [e] at hP hD
  exact k ad H1 locs1 ls (B.mem (fun h => h.2.2.2) hP hD hS)
theorem hr_zast (hx : p.tables.exec = Jvm.exec) (hb : c.code = cc) {k0 n : Nat} {i x : Int32} (hK : va_K (dC, dI) vwCl (hx_tys cA) s) (hs : Λ.1 k0 = (4, n)) (hin : vp_in i n) (d : decode cc pc = .ok (.bastore, 1)) (k : hx_G p l e R s m args below meth c Q dC dI cA A H0 nL N0 ad0 Λ (hx_sI μ k0 i.toNatClampNeg (vp_nar .boolean x)) u (pc + 1) lv rest) : hx_G p l e R s m args below meth c Q dC dI cA A H0 nL N0 ad0 Λ μ u pc lv (.int x :: .int i :: .ref k0 :: rest) := by
  intro ad H locs ls B
  have hk0 : k0 < Λ.2.2 := B.ws.2.2.1 _ rfl
  refine va_zast (D := (dC, dI)) hx hb hK B.P B.D B.S k0 3 ((hx_W_get hk0).trans (by rw [hx_e_z hs])) rfl hin d (fun H1 locs1 hP hD hS => ?_)
  have e := hx_W_set (cA := cA) (ad := ad) (Λ := Λ) (μ := μ) (μ' := hx_sI μ k0 i.toNatClampNeg (vp_nar .boolean x)) (k := k0) (e := .inl (cA 4, n, .inl (upd (μ.1 k0) i.toNatClampNeg (vp_nar .boolean x)))) (by rw [hx_e_z hs]; simp [hx_sI]) (fun j' hj' => hx_e_sI hj')
  rw [e] at hP hD
  exact k ad H1 locs1 ls (B.mem (fun h => h.2.2.2) hP hD hS)
theorem hr_last (hx : p.tables.exec = Jvm.exec) (hb : c.code = cc) {k0 n : Nat} {i : Int32} {x : Int64} (hK : va_K (dC, dI) vwCl (hx_tys cA) s) (hs : Λ.1 k0 = (3, n)) (hin : vp_in i n) (d : decode cc pc = .ok (.lastore, 1)) (k : hx_G p l e R s m args below meth c Q dC dI cA A H0 nL N0 ad0 Λ (hx_sL μ k0 i.toNatClampNeg x) u (pc + 1) lv rest) : hx_G p l e R s m args below meth c Q dC dI cA A H0 nL N0 ad0 Λ μ u pc lv (.long x :: .int i :: .ref k0 :: rest) := by
  intro ad H locs ls B
  have hk0 : k0 < Λ.2.2 := B.ws.2.2.1 _ rfl
  refine va_last (D := (dC, dI)) hx hb hK B.P B.D B.S k0 2 ((hx_W_get hk0).trans (by rw [hx_e_l hs])) rfl hin d (fun H1 locs1 hP hD hS => ?_)
  have e := hx_W_set (cA := cA) (ad := ad) (Λ := Λ) (μ := μ) (μ' := hx_sL μ k0 i.toNatClampNeg x) (k := k0) (e := .inl (cA 3, n, .inr (.inl (vp_updL (μ.2 k0) i.toNatClampNeg x)))) (by rw [hx_e_l hs]; simp [hx_sL]) (fun j' hj' => hx_e_sL hj')
  rw [e] at hP hD
  exact k ad H1 locs1 ls (B.mem (fun h => h.2.2.2) hP hD hS)
theorem hr_alenI (hx : p.tables.exec = Jvm.exec) (hb : c.code = cc) {k0 n : Nat} (hK : va_K (dC, dI) vwCl (hx_tys cA) s) (hs : Λ.1 k0 = (1, n)) (d : decode cc pc = .ok (.arraylength, 1)) (k : hx_G p l e R s m args below meth c Q dC dI cA A H0 nL N0 ad0 Λ μ u (pc + 1) lv (.int (Int32.ofNat n) :: rest)) : hx_G p l e R s m args below meth c Q dC dI cA A H0 nL N0 ad0 Λ μ u pc lv (.ref k0 :: rest) := by
  intro ad H locs ls B
  have hk0 : k0 < Λ.2.2 := B.ws.1 _ rfl
  exact va_alen (D := (dC, dI)) (x := (n, .inl (μ.1 k0))) hx hb hK B.P k0 0 ((hx_W_get hk0).trans (by rw [hx_e_i hs])) rfl rfl d (k ad H locs ls (B.stk fun h => ⟨hx_wi, h.2⟩))
theorem hr_alenB (hx : p.tables.exec = Jvm.exec) (hb : c.code = cc) {k0 n : Nat} (hK : va_K (dC, dI) vwCl (hx_tys cA) s) (hs : Λ.1 k0 = (2, n)) (d : decode cc pc = .ok (.arraylength, 1)) (k : hx_G p l e R s m args below meth c Q dC dI cA A H0 nL N0 ad0 Λ μ u (pc + 1) lv (.int (Int32.ofNat n) :: rest)) : hx_G p l e R s m args below meth c Q dC dI cA A H0 nL N0 ad0 Λ μ u pc lv (.ref k0 :: rest) := by
  intro ad H locs ls B
  have hk0 : k0 < Λ.2.2 := B.ws.1 _ rfl
  exact va_alen (D := (dC, dI)) (x := (n, .inl (μ.1 k0))) hx hb hK B.P k0 1 ((hx_W_get hk0).trans (by rw [hx_e_b hs])) rfl rfl d (k ad H locs ls (B.stk fun h => ⟨hx_wi, h.2⟩))
theorem hr_alenL (hx : p.tables.exec = Jvm.exec) (hb : c.code = cc) {k0 n : Nat} (hK : va_K (dC, dI) vwCl (hx_tys cA) s) (hs : Λ.1 k0 = (3, n)) (d : decode cc pc = .ok (.arraylength, 1)) (k : hx_G p l e R s m args below meth c Q dC dI cA A H0 nL N0 ad0 Λ μ u (pc + 1) lv (.int (Int32.ofNat n) :: rest)) : hx_G p l e R s m args below meth c Q dC dI cA A H0 nL N0 ad0 Λ μ u pc lv (.ref k0 :: rest) := by
  intro ad H locs ls B
  have hk0 : k0 < Λ.2.2 := B.ws.1 _ rfl
  exact va_alen (D := (dC, dI)) (x := (n, .inr (.inl (μ.2 k0)))) hx hb hK B.P k0 2 ((hx_W_get hk0).trans (by rw [hx_e_l hs])) rfl rfl d (k ad H locs ls (B.stk fun h => ⟨hx_wi, h.2⟩))
theorem hr_copy (hx : p.tables.exec = Jvm.exec) (hb : c.code = cc) {own : String} {i : Nat} {k0 k1 n0 n1 : Nat} {sp dp n : Int32} (hml : c.maxLocals = nL) (hown : s.vm.findClass own = some m.cls) (hlink : (Cond.methodLink own i arraycopyName).before args s = true) (hnat : (Cond.native arraycopyName).before args s = true) (hstat : (Cond.static arraycopyName).before args s = true) (hini : (Cond.initialized "java/lang/System").before args s = true) (hK : va_K (dC, dI) vwCl (hx_tys cA) s) (hs0 : Λ.1 k0 = (1, n0)) (hs1 : Λ.1 k1 = (1, n1)) (h1 : ¬ sp < 0) (h2 : ¬ dp < 0) (h3 : ¬ n < 0) (h4 : sp.toNatClampNeg + n.toNatClampNeg ≤ n0) (h5 : dp.toNatClampNeg + n.toNatClampNeg ≤ n1) (hfr : 1 ≤ R.frames) (hlo : 8 + 29 ≤ R.locals) (hcat : (rest.map fun v => v.category).sum ≤ 8) (d : decode cc pc = .ok (.invokestatic i, 3)) (k : hx_G p l e R s m args below meth c Q dC dI cA A H0 nL N0 ad0 Λ (hx_sA μ k1 (va_cpy (μ.1 k0) (μ.1 k1) sp.toNatClampNeg dp.toNatClampNeg n.toNatClampNeg)) u (pc + 3) lv rest) : hx_G p l e R s m args below meth c Q dC dI cA A H0 nL N0 ad0 Λ μ u pc lv (.int n :: .int dp :: .ref k1 :: .int sp :: .ref k0 :: rest) := by
  intro ad H locs ls B
  have hk1 : k1 < Λ.2.2 := B.ws.2.2.1 _ rfl
  have hk0 : k0 < Λ.2.2 := B.ws.2.2.2.2.1 _ rfl
  have hml2 : c.maxLocals = ls.size := hml.trans (by obtain ⟨l0, h9, -⟩ := B.h; exact h9.1.symm)
  have hcat2 : ((rest.map (hx_tr ad)).map fun v => v.category).sum ≤ 8 := by
    rw [List.map_map]
    simpa only [Function.comp_def, hx_tr_cat] using hcat
  refine va_copyi (D := (dC, dI)) hx hb hml2 hown hlink hnat hstat hini hK B.P B.D B.S k0 k1 0 0 ((hx_W_get hk0).trans (by rw [hx_e_i hs0])) ((hx_W_get hk1).trans (by rw [hx_e_i hs1])) rfl rfl rfl h1 h2 h3 h4 h5 (fun i _ => rfl) hfr (Nat.le_trans (Nat.add_le_add hcat2 (by decide)) hlo) d (fun H1 locs1 hP hD hS => ?_)
  have e := hx_W_set (cA := cA) (ad := ad) (Λ := Λ) (μ := μ) (μ' := hx_sA μ k1 (va_cpy (μ.1 k0) (μ.1 k1) sp.toNatClampNeg dp.toNatClampNeg n.toNatClampNeg)) (k := k1) (e := .inl (cA 1, n1, .inl (va_cpy (μ.1 k0) (μ.1 k1) sp.toNatClampNeg dp.toNatClampNeg n.toNatClampNeg))) (by rw [hx_e_i hs1]; simp [hx_sA]) (fun j' hj' => hx_e_I hj')
  exact k ad H1 locs1 ls (B.mem (fun h => h.2.2.2.2.2) (by rw [← e]; exact hP) (by rw [← e]; exact hD) hS)
end HXG
