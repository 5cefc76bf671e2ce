theorem hx_in_of {ws : List Cond} (ps : List Nat) (h : ws = ps.filterMap (fun i => lw_tbl[i]?)) (hg : ws.all goodWord = true) : ∀ w ∈ ws, w ∈ hx_tbl := by
  intro w hw
  have h1 := List.all_eq_true.mp hg w hw
  rw [h] at hw
  obtain ⟨i, -, hi⟩ := List.mem_filterMap.mp hw
  exact hx_tbl_in hi h1
def hx_dt (c : ByteArray) (t : List (Nat × Instr × Nat)) : Bool := t.all fun q => match decode c q.1 with
  | .ok (i, n) => decide (i = q.2.1) && decide (n = q.2.2)
  | _ => false
theorem hx_dq {c : ByteArray} {t : List (Nat × Instr × Nat)} (h : hx_dt c t = true) (k : Nat) {pc n : Nat} {i : Instr} (hk : t[k]? = some (pc, i, n)) : decode c pc = .ok (i, n) := by
  have h1 := List.all_eq_true.mp h _ (List.mem_of_getElem? hk)
  dsimp only at h1
  split at h1
  · rename_i i' n' e
    simp only [Bool.and_eq_true, decide_eq_true_eq] at h1
    rw [e, h1.1, h1.2]
  · cases h1
theorem hx_n2q {lv : hx_V} {i : Nat} {q : Option Nat} (h : lv[i - 1]? = some (some (va_rf q))) : hx_n2 lv i = true := by
  unfold hx_n2
  rw [h]
  cases q <;> rfl
theorem hx_nb {r : Int32} (h : r = 0 ∨ r = 1) : narrow .boolean (.int r) = .int r := by rcases h with rfl | rfl <;> rfl

theorem hx_tbl_of {w : Cond} (h : w ∈ lw_tbl) (hg : goodWord w = true) : w ∈ hx_tbl := List.mem_filter.mpr ⟨h, hg⟩
theorem hx_inT {w : Cond} (h : w ∈ tables_1) : w ∈ lw_tbl := List.mem_append_right _ h
theorem hx_inT0 {i : Nat} {w : Cond} (h : tables_1_1[i]? = some w) : w ∈ lw_tbl := hx_inT (List.mem_append_left _ (List.mem_of_getElem? h))
theorem hx_inT1 {i : Nat} {w : Cond} (h : tables_1_2[i]? = some w) : w ∈ lw_tbl := hx_inT (List.mem_append_right _ (List.mem_append_left _ (List.mem_of_getElem? h)))
theorem hx_inT2 {i : Nat} {w : Cond} (h : tables_1_3[i]? = some w) : w ∈ lw_tbl := hx_inT (List.mem_append_right _ (List.mem_append_right _ (List.mem_append_left _ (List.mem_of_getElem? h))))
theorem hx_inT3 {i : Nat} {w : Cond} (h : tables_1_4[i]? = some w) : w ∈ lw_tbl := hx_inT (List.mem_append_right _ (List.mem_append_right _ (List.mem_append_right _ (List.mem_append_left _ (List.mem_of_getElem? h)))))
theorem hx_inT4 {i : Nat} {w : Cond} (h : tables_1_5[i]? = some w) : w ∈ lw_tbl := hx_inT (List.mem_append_right _ (List.mem_append_right _ (List.mem_append_right _ (List.mem_append_right _ (List.mem_append_left _ (List.mem_of_getElem? h))))))
theorem hx_inT5 {i : Nat} {w : Cond} (h : tables_1_6[i]? = some w) : w ∈ lw_tbl := hx_inT (List.mem_append_right _ (List.mem_append_right _ (List.mem_append_right _ (List.mem_append_right _ (List.mem_append_right _ (List.mem_append_left _ (List.mem_of_getElem? h)))))))
theorem hx_inT6 {i : Nat} {w : Cond} (h : tables_1_7[i]? = some w) : w ∈ lw_tbl := hx_inT (List.mem_append_right _ (List.mem_append_right _ (List.mem_append_right _ (List.mem_append_right _ (List.mem_append_right _ (List.mem_append_right _ (List.mem_of_getElem? h)))))))
theorem hx_inP0 {i : Nat} {q : MethodName × Nat} (h : lw_privs_1[i]? = some q) : Cond.selects q.1.cls q.1 q.1 ∈ hx_tbl := hx_tbl_of (List.mem_append_left _ (List.mem_map.mpr ⟨q, (List.mem_append_left _ (List.mem_of_getElem? h)), rfl⟩)) rfl
theorem hx_inP1 {i : Nat} {q : MethodName × Nat} (h : lw_privs_2[i]? = some q) : Cond.selects q.1.cls q.1 q.1 ∈ hx_tbl := hx_tbl_of (List.mem_append_left _ (List.mem_map.mpr ⟨q, (List.mem_append_right _ (List.mem_append_left _ (List.mem_of_getElem? h))), rfl⟩)) rfl
theorem hx_inP2 {i : Nat} {q : MethodName × Nat} (h : lw_privs_3[i]? = some q) : Cond.selects q.1.cls q.1 q.1 ∈ hx_tbl := hx_tbl_of (List.mem_append_left _ (List.mem_map.mpr ⟨q, (List.mem_append_right _ (List.mem_append_right _ (List.mem_append_left _ (List.mem_of_getElem? h)))), rfl⟩)) rfl
theorem hx_inP3 {i : Nat} {q : MethodName × Nat} (h : lw_privs_4[i]? = some q) : Cond.selects q.1.cls q.1 q.1 ∈ hx_tbl := hx_tbl_of (List.mem_append_left _ (List.mem_map.mpr ⟨q, (List.mem_append_right _ (List.mem_append_right _ (List.mem_append_right _ (List.mem_append_left _ (List.mem_of_getElem? h))))), rfl⟩)) rfl
theorem hx_inP4 {i : Nat} {q : MethodName × Nat} (h : lw_privs_5[i]? = some q) : Cond.selects q.1.cls q.1 q.1 ∈ hx_tbl := hx_tbl_of (List.mem_append_left _ (List.mem_map.mpr ⟨q, (List.mem_append_right _ (List.mem_append_right _ (List.mem_append_right _ (List.mem_append_right _ (List.mem_append_left _ (List.mem_of_getElem? h)))))), rfl⟩)) rfl
theorem hx_inP5 {i : Nat} {q : MethodName × Nat} (h : lw_privs_6[i]? = some q) : Cond.selects q.1.cls q.1 q.1 ∈ hx_tbl := hx_tbl_of (List.mem_append_left _ (List.mem_map.mpr ⟨q, (List.mem_append_right _ (List.mem_append_right _ (List.mem_append_right _ (List.mem_append_right _ (List.mem_append_right _ (List.mem_of_getElem? h)))))), rfl⟩)) rfl
theorem hx_sw6 (x : Int32) (h1 : ¬ x.toInt < 0) (h2 : ¬ 6 < x.toInt) : x = 0 ∨ x = 1 ∨ x = 2 ∨ x = 3 ∨ x = 4 ∨ x = 5 ∨ x = 6 := by
  have e : ∀ y : Int32, x.toInt = y.toInt → x = y := fun y h => Int32.toInt_inj.mp h
  have h3 : x.toInt = 0 ∨ x.toInt = 1 ∨ x.toInt = 2 ∨ x.toInt = 3 ∨ x.toInt = 4 ∨ x.toInt = 5 ∨ x.toInt = 6 := by omega
  rcases h3 with h | h | h | h | h | h | h
  · exact Or.inl (e 0 (h.trans (by decide)))
  · exact Or.inr (Or.inl (e 1 (h.trans (by decide))))
  · exact Or.inr (Or.inr (Or.inl (e 2 (h.trans (by decide)))))
  · exact Or.inr (Or.inr (Or.inr (Or.inl (e 3 (h.trans (by decide))))))
  · exact Or.inr (Or.inr (Or.inr (Or.inr (Or.inl (e 4 (h.trans (by decide)))))))
  · exact Or.inr (Or.inr (Or.inr (Or.inr (Or.inr (Or.inl (e 5 (h.trans (by decide))))))))
  · exact Or.inr (Or.inr (Or.inr (Or.inr (Or.inr (Or.inr ((e 6 (h.trans (by decide)))))))))
theorem hx_sw9 (x : Int32) (h1 : ¬ x.toInt < 0) (h2 : ¬ 9 < x.toInt) : x = 0 ∨ x = 1 ∨ x = 2 ∨ x = 3 ∨ x = 4 ∨ x = 5 ∨ x = 6 ∨ x = 7 ∨ x = 8 ∨ x = 9 := by
  have e : ∀ y : Int32, x.toInt = y.toInt → x = y := fun y h => Int32.toInt_inj.mp h
  have h3 : x.toInt = 0 ∨ x.toInt = 1 ∨ x.toInt = 2 ∨ x.toInt = 3 ∨ x.toInt = 4 ∨ x.toInt = 5 ∨ x.toInt = 6 ∨ x.toInt = 7 ∨ x.toInt = 8 ∨ x.toInt = 9 := by omega
  rcases h3 with h | h | h | h | h | h | h | h | h | h
  · exact Or.inl (e 0 (h.trans (by decide)))
  · exact Or.inr (Or.inl (e 1 (h.trans (by decide))))
  · exact Or.inr (Or.inr (Or.inl (e 2 (h.trans (by decide)))))
  · exact Or.inr (Or.inr (Or.inr (Or.inl (e 3 (h.trans (by decide))))))
  · exact Or.inr (Or.inr (Or.inr (Or.inr (Or.inl (e 4 (h.trans (by decide)))))))
  · exact Or.inr (Or.inr (Or.inr (Or.inr (Or.inr (Or.inl (e 5 (h.trans (by decide))))))))
  · exact Or.inr (Or.inr (Or.inr (Or.inr (Or.inr (Or.inr (Or.inl (e 6 (h.trans (by decide)))))))))
  · exact Or.inr (Or.inr (Or.inr (Or.inr (Or.inr (Or.inr (Or.inr (Or.inl (e 7 (h.trans (by decide))))))))))
  · exact Or.inr (Or.inr (Or.inr (Or.inr (Or.inr (Or.inr (Or.inr (Or.inr (Or.inl (e 8 (h.trans (by decide)))))))))))
  · exact Or.inr (Or.inr (Or.inr (Or.inr (Or.inr (Or.inr (Or.inr (Or.inr (Or.inr ((e 9 (h.trans (by decide))))))))))))
theorem hx_sw34 (x : Int32) (h1 : ¬ x.toInt < 0) (h2 : ¬ 34 < x.toInt) : x = 0 ∨ x = 1 ∨ x = 2 ∨ x = 3 ∨ x = 4 ∨ x = 5 ∨ x = 6 ∨ x = 7 ∨ x = 8 ∨ x = 9 ∨ x = 10 ∨ x = 11 ∨ x = 12 ∨ x = 13 ∨ x = 14 ∨ x = 15 ∨ x = 16 ∨ x = 17 ∨ x = 18 ∨ x = 19 ∨ x = 20 ∨ x = 21 ∨ x = 22 ∨ x = 23 ∨ x = 24 ∨ x = 25 ∨ x = 26 ∨ x = 27 ∨ x = 28 ∨ x = 29 ∨ x = 30 ∨ x = 31 ∨ x = 32 ∨ x = 33 ∨ x = 34 := by
  have e : ∀ y : Int32, x.toInt = y.toInt → x = y := fun y h => Int32.toInt_inj.mp h
  have h3 : x.toInt = 0 ∨ x.toInt = 1 ∨ x.toInt = 2 ∨ x.toInt = 3 ∨ x.toInt = 4 ∨ x.toInt = 5 ∨ x.toInt = 6 ∨ x.toInt = 7 ∨ x.toInt = 8 ∨ x.toInt = 9 ∨ x.toInt = 10 ∨ x.toInt = 11 ∨ x.toInt = 12 ∨ x.toInt = 13 ∨ x.toInt = 14 ∨ x.toInt = 15 ∨ x.toInt = 16 ∨ x.toInt = 17 ∨ x.toInt = 18 ∨ x.toInt = 19 ∨ x.toInt = 20 ∨ x.toInt = 21 ∨ x.toInt = 22 ∨ x.toInt = 23 ∨ x.toInt = 24 ∨ x.toInt = 25 ∨ x.toInt = 26 ∨ x.toInt = 27 ∨ x.toInt = 28 ∨ x.toInt = 29 ∨ x.toInt = 30 ∨ x.toInt = 31 ∨ x.toInt = 32 ∨ x.toInt = 33 ∨ x.toInt = 34 := by omega
  rcases h3 with h | h | h | h | h | h | h | h | h | h | h | h | h | h | h | h | h | h | h | h | h | h | h | h | h | h | h | h | h | h | h | h | h | h | h
  · exact Or.inl (e 0 (h.trans (by decide)))
  · exact Or.inr (Or.inl (e 1 (h.trans (by decide))))
  · exact Or.inr (Or.inr (Or.inl (e 2 (h.trans (by decide)))))
  · exact Or.inr (Or.inr (Or.inr (Or.inl (e 3 (h.trans (by decide))))))
  · exact Or.inr (Or.inr (Or.inr (Or.inr (Or.inl (e 4 (h.trans (by decide)))))))
  · exact Or.inr (Or.inr (Or.inr (Or.inr (Or.inr (Or.inl (e 5 (h.trans (by decide))))))))
  · exact Or.inr (Or.inr (Or.inr (Or.inr (Or.inr (Or.inr (Or.inl (e 6 (h.trans (by decide)))))))))
  · exact Or.inr (Or.inr (Or.inr (Or.inr (Or.inr (Or.inr (Or.inr (Or.inl (e 7 (h.trans (by decide))))))))))
  · exact Or.inr (Or.inr (Or.inr (Or.inr (Or.inr (Or.inr (Or.inr (Or.inr (Or.inl (e 8 (h.trans (by decide)))))))))))
  · exact Or.inr (Or.inr (Or.inr (Or.inr (Or.inr (Or.inr (Or.inr (Or.inr (Or.inr (Or.inl (e 9 (h.trans (by decide))))))))))))
  · exact Or.inr (Or.inr (Or.inr (Or.inr (Or.inr (Or.inr (Or.inr (Or.inr (Or.inr (Or.inr (Or.inl (e 10 (h.trans (by decide)))))))))))))
  · exact Or.inr (Or.inr (Or.inr (Or.inr (Or.inr (Or.inr (Or.inr (Or.inr (Or.inr (Or.inr (Or.inr (Or.inl (e 11 (h.trans (by decide))))))))))))))
  · exact Or.inr (Or.inr (Or.inr (Or.inr (Or.inr (Or.inr (Or.inr (Or.inr (Or.inr (Or.inr (Or.inr (Or.inr (Or.inl (e 12 (h.trans (by decide)))))))))))))))
  · exact Or.inr (Or.inr (Or.inr (Or.inr (Or.inr (Or.inr (Or.inr (Or.inr (Or.inr (Or.inr (Or.inr (Or.inr (Or.inr (Or.inl (e 13 (h.trans (by decide))))))))))))))))
  · exact Or.inr (Or.inr (Or.inr (Or.inr (Or.inr (Or.inr (Or.inr (Or.inr (Or.inr (Or.inr (Or.inr (Or.inr (Or.inr (Or.inr (Or.inl (e 14 (h.trans (by decide)))))))))))))))))
  · exact Or.inr (Or.inr (Or.inr (Or.inr (Or.inr (Or.inr (Or.inr (Or.inr (Or.inr (Or.inr (Or.inr (Or.inr (Or.inr (Or.inr (Or.inr (Or.inl (e 15 (h.trans (by decide))))))))))))))))))
  · exact Or.inr (Or.inr (Or.inr (Or.inr (Or.inr (Or.inr (Or.inr (Or.inr (Or.inr (Or.inr (Or.inr (Or.inr (Or.inr (Or.inr (Or.inr (Or.inr (Or.inl (e 16 (h.trans (by decide)))))))))))))))))))
  · exact Or.inr (Or.inr (Or.inr (Or.inr (Or.inr (Or.inr (Or.inr (Or.inr (Or.inr (Or.inr (Or.inr (Or.inr (Or.inr (Or.inr (Or.inr (Or.inr (Or.inr (Or.inl (e 17 (h.trans (by decide))))))))))))))))))))
  · exact Or.inr (Or.inr (Or.inr (Or.inr (Or.inr (Or.inr (Or.inr (Or.inr (Or.inr (Or.inr (Or.inr (Or.inr (Or.inr (Or.inr (Or.inr (Or.inr (Or.inr (Or.inr (Or.inl (e 18 (h.trans (by decide)))))))))))))))))))))
  · exact Or.inr (Or.inr (Or.inr (Or.inr (Or.inr (Or.inr (Or.inr (Or.inr (Or.inr (Or.inr (Or.inr (Or.inr (Or.inr (Or.inr (Or.inr (Or.inr (Or.inr (Or.inr (Or.inr (Or.inl (e 19 (h.trans (by decide))))))))))))))))))))))
  · exact Or.inr (Or.inr (Or.inr (Or.inr (Or.inr (Or.inr (Or.inr (Or.inr (Or.inr (Or.inr (Or.inr (Or.inr (Or.inr (Or.inr (Or.inr (Or.inr (Or.inr (Or.inr (Or.inr (Or.inr (Or.inl (e 20 (h.trans (by decide)))))))))))))))))))))))
  · exact Or.inr (Or.inr (Or.inr (Or.inr (Or.inr (Or.inr (Or.inr (Or.inr (Or.inr (Or.inr (Or.inr (Or.inr (Or.inr (Or.inr (Or.inr (Or.inr (Or.inr (Or.inr (Or.inr (Or.inr (Or.inr (Or.inl (e 21 (h.trans (by decide))))))))))))))))))))))))
  · exact Or.inr (Or.inr (Or.inr (Or.inr (Or.inr (Or.inr (Or.inr (Or.inr (Or.inr (Or.inr (Or.inr (Or.inr (Or.inr (Or.inr (Or.inr (Or.inr (Or.inr (Or.inr (Or.inr (Or.inr (Or.inr (Or.inr (Or.inl (e 22 (h.trans (by decide)))))))))))))))))))))))))
  · exact Or.inr (Or.inr (Or.inr (Or.inr (Or.inr (Or.inr (Or.inr (Or.inr (Or.inr (Or.inr (Or.inr (Or.inr (Or.inr (Or.inr (Or.inr (Or.inr (Or.inr (Or.inr (Or.inr (Or.inr (Or.inr (Or.inr (Or.inr (Or.inl (e 23 (h.trans (by decide))))))))))))))))))))))))))
  · exact Or.inr (Or.inr (Or.inr (Or.inr (Or.inr (Or.inr (Or.inr (Or.inr (Or.inr (Or.inr (Or.inr (Or.inr (Or.inr (Or.inr (Or.inr (Or.inr (Or.inr (Or.inr (Or.inr (Or.inr (Or.inr (Or.inr (Or.inr (Or.inr (Or.inl (e 24 (h.trans (by decide)))))))))))))))))))))))))))
  · exact Or.inr (Or.inr (Or.inr (Or.inr (Or.inr (Or.inr (Or.inr (Or.inr (Or.inr (Or.inr (Or.inr (Or.inr (Or.inr (Or.inr (Or.inr (Or.inr (Or.inr (Or.inr (Or.inr (Or.inr (Or.inr (Or.inr (Or.inr (Or.inr (Or.inr (Or.inl (e 25 (h.trans (by decide))))))))))))))))))))))))))))
  · exact Or.inr (Or.inr (Or.inr (Or.inr (Or.inr (Or.inr (Or.inr (Or.inr (Or.inr (Or.inr (Or.inr (Or.inr (Or.inr (Or.inr (Or.inr (Or.inr (Or.inr (Or.inr (Or.inr (Or.inr (Or.inr (Or.inr (Or.inr (Or.inr (Or.inr (Or.inr (Or.inl (e 26 (h.trans (by decide)))))))))))))))))))))))))))))
  · exact Or.inr (Or.inr (Or.inr (Or.inr (Or.inr (Or.inr (Or.inr (Or.inr (Or.inr (Or.inr (Or.inr (Or.inr (Or.inr (Or.inr (Or.inr (Or.inr (Or.inr (Or.inr (Or.inr (Or.inr (Or.inr (Or.inr (Or.inr (Or.inr (Or.inr (Or.inr (Or.inr (Or.inl (e 27 (h.trans (by decide))))))))))))))))))))))))))))))
  · exact Or.inr (Or.inr (Or.inr (Or.inr (Or.inr (Or.inr (Or.inr (Or.inr (Or.inr (Or.inr (Or.inr (Or.inr (Or.inr (Or.inr (Or.inr (Or.inr (Or.inr (Or.inr (Or.inr (Or.inr (Or.inr (Or.inr (Or.inr (Or.inr (Or.inr (Or.inr (Or.inr (Or.inr (Or.inl (e 28 (h.trans (by decide)))))))))))))))))))))))))))))))
  · exact Or.inr (Or.inr (Or.inr (Or.inr (Or.inr (Or.inr (Or.inr (Or.inr (Or.inr (Or.inr (Or.inr (Or.inr (Or.inr (Or.inr (Or.inr (Or.inr (Or.inr (Or.inr (Or.inr (Or.inr (Or.inr (Or.inr (Or.inr (Or.inr (Or.inr (Or.inr (Or.inr (Or.inr (Or.inr (Or.inl (e 29 (h.trans (by decide))))))))))))))))))))))))))))))))
  · exact Or.inr (Or.inr (Or.inr (Or.inr (Or.inr (Or.inr (Or.inr (Or.inr (Or.inr (Or.inr (Or.inr (Or.inr (Or.inr (Or.inr (Or.inr (Or.inr (Or.inr (Or.inr (Or.inr (Or.inr (Or.inr (Or.inr (Or.inr (Or.inr (Or.inr (Or.inr (Or.inr (Or.inr (Or.inr (Or.inr (Or.inl (e 30 (h.trans (by decide)))))))))))))))))))))))))))))))))
  · exact Or.inr (Or.inr (Or.inr (Or.inr (Or.inr (Or.inr (Or.inr (Or.inr (Or.inr (Or.inr (Or.inr (Or.inr (Or.inr (Or.inr (Or.inr (Or.inr (Or.inr (Or.inr (Or.inr (Or.inr (Or.inr (Or.inr (Or.inr (Or.inr (Or.inr (Or.inr (Or.inr (Or.inr (Or.inr (Or.inr (Or.inr (Or.inl (e 31 (h.trans (by decide))))))))))))))))))))))))))))))))))
  · exact Or.inr (Or.inr (Or.inr (Or.inr (Or.inr (Or.inr (Or.inr (Or.inr (Or.inr (Or.inr (Or.inr (Or.inr (Or.inr (Or.inr (Or.inr (Or.inr (Or.inr (Or.inr (Or.inr (Or.inr (Or.inr (Or.inr (Or.inr (Or.inr (Or.inr (Or.inr (Or.inr (Or.inr (Or.inr (Or.inr (Or.inr (Or.inr (Or.inl (e 32 (h.trans (by decide)))))))))))))))))))))))))))))))))))
  · exact Or.inr (Or.inr (Or.inr (Or.inr (Or.inr (Or.inr (Or.inr (Or.inr (Or.inr (Or.inr (Or.inr (Or.inr (Or.inr (Or.inr (Or.inr (Or.inr (Or.inr (Or.inr (Or.inr (Or.inr (Or.inr (Or.inr (Or.inr (Or.inr (Or.inr (Or.inr (Or.inr (Or.inr (Or.inr (Or.inr (Or.inr (Or.inr (Or.inr (Or.inl (e 33 (h.trans (by decide))))))))))))))))))))))))))))))))))))
  · exact Or.inr (Or.inr (Or.inr (Or.inr (Or.inr (Or.inr (Or.inr (Or.inr (Or.inr (Or.inr (Or.inr (Or.inr (Or.inr (Or.inr (Or.inr (Or.inr (Or.inr (Or.inr (Or.inr (Or.inr (Or.inr (Or.inr (Or.inr (Or.inr (Or.inr (Or.inr (Or.inr (Or.inr (Or.inr (Or.inr (Or.inr (Or.inr (Or.inr (Or.inr ((e 34 (h.trans (by decide)))))))))))))))))))))))))))))))))))))
theorem hx_aI : Cond.arrayClass .int ∈ hx_tbl := hx_tbl_of (hx_inT0 (i := 59) rfl) rfl
theorem hx_aB : Cond.arrayClass .byte ∈ hx_tbl := hx_tbl_of (hx_inT0 (i := 58) rfl) rfl
theorem hx_aJ : Cond.arrayClass .long ∈ hx_tbl := hx_tbl_of (hx_inT1 (i := 52) rfl) rfl
theorem hx_aZ : Cond.arrayClass .boolean ∈ hx_tbl := hx_tbl_of (hx_inT5 (i := 55) rfl) rfl
theorem hx_oi : Cond.instanceMethod objectInit ∈ hx_tbl := hx_tbl_of (hx_inT0 (i := 28) rfl) rfl
theorem hx_oc : Cond.code objectInit ⟨#[0xb1]⟩ 1 none ∈ hx_tbl := hx_tbl_of (hx_inT0 (i := 29) rfl) rfl
theorem hx_oL : Cond.arrayOver (.object "HemLine$Law") ∈ lw_tbl := hx_inT0 (i := 61) rfl
theorem hx_oW : Cond.arrayOver (.object "HemLine$World") ∈ lw_tbl := hx_inT1 (i := 103) rfl
theorem mw_0 : Cond.selects RX11 yX11_putOnTape yX11_putOnTape ∈ hx_tbl := hx_inP0 (i := 0) rfl
theorem mw_1 : Cond.selects RX2 yX2_split yX2_split ∈ hx_tbl := hx_inP0 (i := 1) rfl
theorem mw_2 : Cond.selects RX2 yX2_endOfToken yX2_endOfToken ∈ hx_tbl := hx_inP0 (i := 2) rfl
theorem mw_3 : Cond.selects RX2 yX2_tokenOf yX2_tokenOf ∈ hx_tbl := hx_inP0 (i := 3) rfl
theorem mw_4 : Cond.selects RX2 yX2_wordOf yX2_wordOf ∈ hx_tbl := hx_inP0 (i := 4) rfl
theorem mw_5 : Cond.selects RX2 yX2_numberOf yX2_numberOf ∈ hx_tbl := hx_inP0 (i := 5) rfl
theorem mw_6 : Cond.selects RX2 yX2_readRule yX2_readRule ∈ hx_tbl := hx_inP0 (i := 6) rfl
theorem mw_7 : Cond.selects RX2 yX2_put yX2_put ∈ hx_tbl := hx_inP0 (i := 7) rfl
theorem mw_8 : Cond.selects RX2 yX2_readAim yX2_readAim ∈ hx_tbl := hx_inP0 (i := 8) rfl
theorem mw_9 : Cond.selects RX2 yX2_readNumber yX2_readNumber ∈ hx_tbl := hx_inP0 (i := 9) rfl
theorem mw_10 : Cond.selects RX2 yX2_takes yX2_takes ∈ hx_tbl := hx_inP0 (i := 10) rfl
theorem mw_11 : Cond.selects RX2 yX2_readAny yX2_readAny ∈ hx_tbl := hx_inP0 (i := 11) rfl
theorem mw_12 : Cond.selects RX2 yX2_readAll yX2_readAll ∈ hx_tbl := hx_inP0 (i := 12) rfl
theorem mw_13 : Cond.selects RX2 yX2_readOne yX2_readOne ∈ hx_tbl := hx_inP0 (i := 13) rfl
theorem mw_14 : Cond.selects RX2 yX2_readComparison yX2_readComparison ∈ hx_tbl := hx_inP0 (i := 14) rfl
theorem mw_15 : Cond.selects RX11 yX11_lawInForce yX11_lawInForce ∈ hx_tbl := hx_inP0 (i := 15) rfl
theorem mw_16 : Cond.selects RX10 yX10_dress yX10_dress ∈ hx_tbl := hx_inP1 (i := 0) rfl
theorem mw_17 : Cond.selects RX6 yX6_wishByRules yX6_wishByRules ∈ hx_tbl := hx_inP1 (i := 1) rfl
theorem mw_18 : Cond.selects RX6 yX6_holds yX6_holds ∈ hx_tbl := hx_inP1 (i := 2) rfl
theorem mw_19 : Cond.selects RX6 yX6_meanOf yX6_meanOf ∈ hx_tbl := hx_inP1 (i := 3) rfl
theorem mw_20 : Cond.selects RX6 yX6_goal yX6_goal ∈ hx_tbl := hx_inP1 (i := 4) rfl
theorem mw_21 : Cond.selects RX10 yX10_pays yX10_pays ∈ hx_tbl := hx_inP1 (i := 5) rfl
theorem mw_22 : Cond.selects RX9 yX9_sameBefore yX9_sameBefore ∈ hx_tbl := hx_inP1 (i := 6) rfl
theorem mw_23 : Cond.selects RX0 yX0_isLed yX0_isLed ∈ hx_tbl := hx_inP1 (i := 7) rfl
theorem mw_24 : Cond.selects RX0 yX0_isAlone yX0_isAlone ∈ hx_tbl := hx_inP1 (i := 8) rfl
theorem mw_25 : Cond.selects RX0 yX0_endOf yX0_endOf ∈ hx_tbl := hx_inP1 (i := 9) rfl
theorem mw_26 : Cond.selects RX4 yX4_withNeighbours yX4_withNeighbours ∈ hx_tbl := hx_inP1 (i := 10) rfl
theorem mw_27 : Cond.selects RX8 yX8_isFollowed yX8_isFollowed ∈ hx_tbl := hx_inP1 (i := 11) rfl
theorem mw_28 : Cond.selects RX8 yX8_isShown yX8_isShown ∈ hx_tbl := hx_inP1 (i := 12) rfl
theorem mw_29 : Cond.selects RX8 yX8_chooseIn yX8_chooseIn ∈ hx_tbl := hx_inP1 (i := 13) rfl
theorem mw_30 : Cond.selects RX5 yX5_isWithinWorn yX5_isWithinWorn ∈ hx_tbl := hx_inP1 (i := 14) rfl
theorem mw_31 : Cond.selects RX7 yX7_beyond yX7_beyond ∈ hx_tbl := hx_inP1 (i := 15) rfl
theorem mw_32 : Cond.selects RX7 yX7_leastBehind yX7_leastBehind ∈ hx_tbl := hx_inP2 (i := 0) rfl
theorem mw_33 : Cond.selects RX7 yX7_between yX7_between ∈ hx_tbl := hx_inP2 (i := 1) rfl
theorem mw_34 : Cond.selects RX7 yX7_leastFrom yX7_leastFrom ∈ hx_tbl := hx_inP2 (i := 2) rfl
theorem mw_35 : Cond.selects RX7 yX7_upTo yX7_upTo ∈ hx_tbl := hx_inP2 (i := 3) rfl
theorem mw_36 : Cond.selects RX11 yX11_lawReadingBest yX11_lawReadingBest ∈ hx_tbl := hx_inP2 (i := 4) rfl
theorem mw_37 : Cond.selects RX12 yX12_isPerson yX12_isPerson ∈ hx_tbl := hx_inP2 (i := 5) rfl
theorem mw_38 : Cond.selects RX12 yX12_four yX12_four ∈ hx_tbl := hx_inP2 (i := 6) rfl
theorem mw_39 : Cond.selects RX12 yX12_blanks yX12_blanks ∈ hx_tbl := hx_inP2 (i := 7) rfl
theorem mw_40 : Cond.selects RX12 yX12_rule yX12_rule ∈ hx_tbl := hx_inP2 (i := 8) rfl
theorem mw_41 : Cond.selects RX12 yX12_takes yX12_takes ∈ hx_tbl := hx_inP2 (i := 9) rfl
theorem mw_42 : Cond.selects RX12 yX12_word yX12_word ∈ hx_tbl := hx_inP2 (i := 10) rfl
theorem mw_43 : Cond.selects RX12 yX12_whomTold yX12_whomTold ∈ hx_tbl := hx_inP2 (i := 11) rfl
theorem mw_44 : Cond.selects RX12 yX12_takesNumber yX12_takesNumber ∈ hx_tbl := hx_inP2 (i := 12) rfl
theorem mw_45 : Cond.selects RX12 yX12_any yX12_any ∈ hx_tbl := hx_inP2 (i := 13) rfl
theorem mw_46 : Cond.selects RX12 yX12_all yX12_all ∈ hx_tbl := hx_inP2 (i := 14) rfl
theorem mw_47 : Cond.selects RX12 yX12_single yX12_single ∈ hx_tbl := hx_inP2 (i := 15) rfl
theorem mw_48 : Cond.selects RX12 yX12_opens yX12_opens ∈ hx_tbl := hx_inP3 (i := 0) rfl
theorem mw_49 : Cond.selects RX12 yX12_puts yX12_puts ∈ hx_tbl := hx_inP3 (i := 1) rfl
theorem mw_50 : Cond.selects RX12 yX12_takesSign yX12_takesSign ∈ hx_tbl := hx_inP3 (i := 2) rfl
theorem mw_51 : Cond.selects RX12 yX12_step yX12_step ∈ hx_tbl := hx_inP3 (i := 3) rfl
theorem mw_52 : Cond.selects RX12 yX12_begins yX12_begins ∈ hx_tbl := hx_inP3 (i := 4) rfl
theorem mw_53 : Cond.selects RX12 yX12_goes yX12_goes ∈ hx_tbl := hx_inP3 (i := 5) rfl
theorem mw_54 : Cond.selects RX12 yX12_lengthAt yX12_lengthAt ∈ hx_tbl := hx_inP3 (i := 6) rfl
theorem mw_55 : Cond.selects RX12 yX12_wants yX12_wants ∈ hx_tbl := hx_inP3 (i := 7) rfl
theorem mw_56 : Cond.selects RX12 yX12_meanOf yX12_meanOf ∈ hx_tbl := hx_inP3 (i := 8) rfl
theorem mw_57 : Cond.selects RX12 yX12_moneyAt yX12_moneyAt ∈ hx_tbl := hx_inP3 (i := 9) rfl
theorem mw_58 : Cond.selects RX12 yX12_isTrue yX12_isTrue ∈ hx_tbl := hx_inP3 (i := 10) rfl
theorem mw_59 : Cond.selects RX12 yX12_meanBy yX12_meanBy ∈ hx_tbl := hx_inP3 (i := 11) rfl
theorem mw_60 : Cond.selects RX12 yX12_houseAt yX12_houseAt ∈ hx_tbl := hx_inP3 (i := 12) rfl
theorem mw_61 : Cond.selects RX12 yX12_meanOfAll yX12_meanOfAll ∈ hx_tbl := hx_inP3 (i := 13) rfl
theorem mw_62 : Cond.selects RX12 yX12_counts yX12_counts ∈ hx_tbl := hx_inP3 (i := 14) rfl
theorem mw_63 : Cond.selects RX12 yX12_isSeason yX12_isSeason ∈ hx_tbl := hx_inP3 (i := 15) rfl
theorem mw_64 : Cond.selects RX12 yX12_lineAt yX12_lineAt ∈ hx_tbl := hx_inP4 (i := 0) rfl
theorem mw_65 : Cond.selects RX12 yX12_wantsNow yX12_wantsNow ∈ hx_tbl := hx_inP4 (i := 1) rfl
theorem mw_66 : Cond.selects RX12 yX12_mayTry yX12_mayTry ∈ hx_tbl := hx_inP4 (i := 2) rfl
theorem mw_67 : Cond.selects RX12 yX12_tries yX12_tries ∈ hx_tbl := hx_inP4 (i := 3) rfl
theorem mw_68 : Cond.selects RX12 yX12_keeps yX12_keeps ∈ hx_tbl := hx_inP4 (i := 4) rfl
theorem mw_69 : Cond.selects RX12 yX12_isAlike yX12_isAlike ∈ hx_tbl := hx_inP4 (i := 5) rfl
theorem mw_70 : Cond.selects RX12 yX12_takesBack yX12_takesBack ∈ hx_tbl := hx_inP4 (i := 6) rfl
theorem mw_71 : Cond.selects RX12 yX12_isAlone yX12_isAlone ∈ hx_tbl := hx_inP4 (i := 7) rfl
theorem mw_72 : Cond.selects RX12 yX12_endsBy yX12_endsBy ∈ hx_tbl := hx_inP4 (i := 8) rfl
theorem mw_73 : Cond.selects RX12 yX12_streets yX12_streets ∈ hx_tbl := hx_inP4 (i := 9) rfl
theorem mw_74 : Cond.selects RX12 yX12_isFollowed yX12_isFollowed ∈ hx_tbl := hx_inP4 (i := 10) rfl
theorem mw_75 : Cond.selects RX12 yX12_claims yX12_claims ∈ hx_tbl := hx_inP4 (i := 11) rfl
theorem mw_76 : Cond.selects RX12 yX12_atLeast yX12_atLeast ∈ hx_tbl := hx_inP4 (i := 12) rfl
theorem mw_77 : Cond.selects RX12 yX12_isWithin yX12_isWithin ∈ hx_tbl := hx_inP4 (i := 13) rfl
theorem mw_78 : Cond.selects RX12 yX12_shops yX12_shops ∈ hx_tbl := hx_inP4 (i := 14) rfl
theorem mw_79 : Cond.selects RX12 yX12_between yX12_between ∈ hx_tbl := hx_inP4 (i := 15) rfl
theorem mw_80 : Cond.selects RX12 yX12_readBy yX12_readBy ∈ hx_tbl := hx_inP5 (i := 0) rfl
theorem mw_81 : Cond.selects RX12 yX12_lays yX12_lays ∈ hx_tbl := hx_inP5 (i := 1) rfl
theorem mw_82 : Cond.selects RX12 yX12_fetches yX12_fetches ∈ hx_tbl := hx_inP5 (i := 2) rfl
theorem mw_84 : Cond.initialized RX11 ∈ hx_tbl := hx_tbl_of (hx_inT0 (i := 1) rfl) rfl
theorem mw_85 : Cond.initialized RX2 ∈ hx_tbl := hx_tbl_of (hx_inT0 (i := 2) rfl) rfl
theorem mw_86 : Cond.initialized RX10 ∈ hx_tbl := hx_tbl_of (hx_inT0 (i := 3) rfl) rfl
theorem mw_87 : Cond.initialized RX4 ∈ hx_tbl := hx_tbl_of (hx_inT0 (i := 4) rfl) rfl
theorem mw_88 : Cond.initialized RX3 ∈ hx_tbl := hx_tbl_of (hx_inT0 (i := 5) rfl) rfl
theorem mw_89 : Cond.initialized RJ9 ∈ hx_tbl := hx_tbl_of (hx_inT0 (i := 6) rfl) rfl
theorem mw_90 : Cond.initialized RJ7 ∈ hx_tbl := hx_tbl_of (hx_inT0 (i := 7) rfl) rfl
theorem mw_91 : Cond.initialized RX6 ∈ hx_tbl := hx_tbl_of (hx_inT0 (i := 8) rfl) rfl
theorem mw_92 : Cond.initialized RX9 ∈ hx_tbl := hx_tbl_of (hx_inT0 (i := 9) rfl) rfl
theorem mw_93 : Cond.initialized RX0 ∈ hx_tbl := hx_tbl_of (hx_inT0 (i := 10) rfl) rfl
theorem mw_94 : Cond.initialized RX8 ∈ hx_tbl := hx_tbl_of (hx_inT0 (i := 11) rfl) rfl
theorem mw_95 : Cond.initialized RX5 ∈ hx_tbl := hx_tbl_of (hx_inT0 (i := 12) rfl) rfl
theorem mw_96 : Cond.initialized RX7 ∈ hx_tbl := hx_tbl_of (hx_inT0 (i := 13) rfl) rfl
theorem mw_97 : Cond.initialized RX12 ∈ hx_tbl := hx_tbl_of (hx_inT0 (i := 14) rfl) rfl
theorem mw_98 : Cond.initialized RJ0 ∈ hx_tbl := hx_tbl_of (hx_inT0 (i := 15) rfl) rfl
theorem mw_99 : Cond.initialized RJ1 ∈ hx_tbl := hx_tbl_of (hx_inT0 (i := 16) rfl) rfl
theorem mw_100 : Cond.initialized RJ3 ∈ hx_tbl := hx_tbl_of (hx_inT0 (i := 17) rfl) rfl
theorem mw_102 : Cond.initialized RX1 ∈ hx_tbl := hx_tbl_of (hx_inT0 (i := 19) rfl) rfl
theorem mw_103 : Cond.initialized RJ10 ∈ hx_tbl := hx_tbl_of (hx_inT0 (i := 20) rfl) rfl
theorem mw_104 : Cond.initialized RJ6 ∈ hx_tbl := hx_tbl_of (hx_inT0 (i := 21) rfl) rfl
theorem mw_105 : Cond.classLink RL 7 RX11 ∈ hx_tbl := hx_tbl_of (hx_inT0 (i := 22) rfl) rfl
theorem mw_106 : Cond.instantiable RX11 15 ∈ hx_tbl := hx_tbl_of (hx_inT0 (i := 23) rfl) rfl
theorem mw_107 : Cond.methodLink RL 9 yX11_init ∈ hx_tbl := hx_tbl_of (hx_inT0 (i := 24) rfl) rfl
theorem mw_108 : Cond.instanceMethod yX11_init ∈ hx_tbl := hx_tbl_of (hx_inT0 (i := 25) rfl) rfl
theorem mw_109 : Cond.code yX11_init cX11_init 1 (none) ∈ hx_tbl := hx_tbl_of (hx_inT0 (i := 26) rfl) rfl
theorem mw_110 : Cond.methodLink RX11 1 objectInit ∈ hx_tbl := hx_tbl_of (hx_inT0 (i := 27) rfl) rfl
theorem mw_113 : Cond.classLink RX11 17 RX2 ∈ hx_tbl := hx_tbl_of (hx_inT0 (i := 30) rfl) rfl
theorem mw_114 : Cond.instantiable RX2 7 ∈ hx_tbl := hx_tbl_of (hx_inT0 (i := 31) rfl) rfl
theorem mw_115 : Cond.methodLink RX11 19 yX2_init ∈ hx_tbl := hx_tbl_of (hx_inT0 (i := 32) rfl) rfl
theorem mw_116 : Cond.instanceMethod yX2_init ∈ hx_tbl := hx_tbl_of (hx_inT0 (i := 33) rfl) rfl
theorem mw_117 : Cond.code yX2_init cX2_init 2 (none) ∈ hx_tbl := hx_tbl_of (hx_inT0 (i := 34) rfl) rfl
theorem mw_118 : Cond.methodLink RX2 5 objectInit ∈ hx_tbl := hx_tbl_of (hx_inT0 (i := 35) rfl) rfl
theorem mw_119 : Cond.fieldLink RX2 11 "HemLine$LawReader" "text" "[B" ∈ hx_tbl := hx_tbl_of (hx_inT0 (i := 36) rfl) rfl
theorem mw_120 : Cond.fieldLink RX2 15 "HemLine$LawReader" "size" "I" ∈ hx_tbl := hx_tbl_of (hx_inT0 (i := 37) rfl) rfl
theorem mw_121 : Cond.fieldLink RX2 19 "HemLine$LawReader" "tokens" "[I" ∈ hx_tbl := hx_tbl_of (hx_inT0 (i := 38) rfl) rfl
theorem mw_122 : Cond.fieldLink RX2 23 "HemLine$LawReader" "places" "[I" ∈ hx_tbl := hx_tbl_of (hx_inT0 (i := 39) rfl) rfl
theorem mw_123 : Cond.fieldLink RX2 26 "HemLine$LawReader" "at" "I" ∈ hx_tbl := hx_tbl_of (hx_inT0 (i := 40) rfl) rfl
theorem mw_124 : Cond.fieldLink RX2 29 "HemLine$LawReader" "code" "[I" ∈ hx_tbl := hx_tbl_of (hx_inT0 (i := 41) rfl) rfl
theorem mw_125 : Cond.fieldLink RX2 32 "HemLine$LawReader" "used" "I" ∈ hx_tbl := hx_tbl_of (hx_inT0 (i := 42) rfl) rfl
theorem mw_143 : Cond.classLink RX11 26 RX1 ∈ hx_tbl := hx_tbl_of (hx_inT0 (i := 60) rfl) rfl
theorem mw_145 : Cond.classLink RX11 41 RX10 ∈ hx_tbl := hx_tbl_of (hx_inT0 (i := 62) rfl) rfl
theorem mw_146 : Cond.instantiable RX10 12 ∈ hx_tbl := hx_tbl_of (hx_inT0 (i := 63) rfl) rfl
theorem mw_147 : Cond.methodLink RX11 43 yX10_init ∈ hx_tbl := hx_tbl_of (hx_inT0 (i := 64) rfl) rfl
theorem mw_148 : Cond.instanceMethod yX10_init ∈ hx_tbl := hx_tbl_of (hx_inT0 (i := 65) rfl) rfl
theorem mw_149 : Cond.code yX10_init cX10_init 2 (none) ∈ hx_tbl := hx_tbl_of (hx_inT0 (i := 66) rfl) rfl
theorem mw_150 : Cond.methodLink RX10 3 objectInit ∈ hx_tbl := hx_tbl_of (hx_inT0 (i := 67) rfl) rfl
theorem mw_151 : Cond.classLink RX10 9 RX4 ∈ hx_tbl := hx_tbl_of (hx_inT0 (i := 68) rfl) rfl
theorem mw_152 : Cond.instantiable RX4 7 ∈ hx_tbl := hx_tbl_of (hx_inT0 (i := 69) rfl) rfl
theorem mw_153 : Cond.methodLink RX10 11 yX4_init ∈ hx_tbl := hx_tbl_of (hx_inT0 (i := 70) rfl) rfl
theorem mw_154 : Cond.instanceMethod yX4_init ∈ hx_tbl := hx_tbl_of (hx_inT0 (i := 71) rfl) rfl
theorem mw_155 : Cond.code yX4_init cX4_init 1 (none) ∈ hx_tbl := hx_tbl_of (hx_inT0 (i := 72) rfl) rfl
theorem mw_156 : Cond.methodLink RX4 3 objectInit ∈ hx_tbl := hx_tbl_of (hx_inT0 (i := 73) rfl) rfl
theorem mw_157 : Cond.fieldLink RX4 9 "HemLine$People" "size" "I" ∈ hx_tbl := hx_tbl_of (hx_inT0 (i := 74) rfl) rfl
theorem mw_158 : Cond.fieldLink RX7 58 "HemLine$People" "size" "I" ∈ hx_tbl := hx_tbl_of (hx_inT0 (i := 75) rfl) rfl
theorem mw_159 : Cond.fieldLink RX6 73 "HemLine$People" "size" "I" ∈ hx_tbl := hx_tbl_of (hx_inT0 (i := 76) rfl) rfl
theorem mw_160 : Cond.fieldLink RX10 83 "HemLine$People" "size" "I" ∈ hx_tbl := hx_tbl_of (hx_inT0 (i := 77) rfl) rfl
theorem mw_161 : Cond.fieldLink RX0 59 "HemLine$People" "size" "I" ∈ hx_tbl := hx_tbl_of (hx_inT0 (i := 78) rfl) rfl
theorem mw_162 : Cond.fieldLink RX5 52 "HemLine$People" "size" "I" ∈ hx_tbl := hx_tbl_of (hx_inT0 (i := 79) rfl) rfl
theorem mw_163 : Cond.fieldLink RX9 62 "HemLine$People" "size" "I" ∈ hx_tbl := hx_tbl_of (hx_inT0 (i := 80) rfl) rfl
theorem mw_164 : Cond.fieldLink RX11 317 "HemLine$People" "size" "I" ∈ hx_tbl := hx_tbl_of (hx_inT0 (i := 81) rfl) rfl
theorem mw_165 : Cond.fieldLink RX4 15 "HemLine$People" "rank" "[I" ∈ hx_tbl := hx_tbl_of (hx_inT0 (i := 82) rfl) rfl
theorem mw_166 : Cond.fieldLink RX6 48 "HemLine$People" "rank" "[I" ∈ hx_tbl := hx_tbl_of (hx_inT0 (i := 83) rfl) rfl
theorem mw_167 : Cond.fieldLink RX11 187 "HemLine$People" "rank" "[I" ∈ hx_tbl := hx_tbl_of (hx_inT0 (i := 84) rfl) rfl
theorem mw_168 : Cond.fieldLink RX4 19 "HemLine$People" "purse" "[I" ∈ hx_tbl := hx_tbl_of (hx_inT0 (i := 85) rfl) rfl
theorem mw_169 : Cond.fieldLink RX6 43 "HemLine$People" "purse" "[I" ∈ hx_tbl := hx_tbl_of (hx_inT0 (i := 86) rfl) rfl
theorem mw_170 : Cond.fieldLink RX0 80 "HemLine$People" "purse" "[I" ∈ hx_tbl := hx_tbl_of (hx_inT0 (i := 87) rfl) rfl
theorem mw_171 : Cond.fieldLink RX10 128 "HemLine$People" "purse" "[I" ∈ hx_tbl := hx_tbl_of (hx_inT0 (i := 88) rfl) rfl
theorem mw_172 : Cond.fieldLink RX11 190 "HemLine$People" "purse" "[I" ∈ hx_tbl := hx_tbl_of (hx_inT0 (i := 89) rfl) rfl
theorem mw_173 : Cond.fieldLink RX4 22 "HemLine$People" "sees" "[I" ∈ hx_tbl := hx_tbl_of (hx_inT0 (i := 90) rfl) rfl
theorem mw_174 : Cond.fieldLink RX6 76 "HemLine$People" "sees" "[I" ∈ hx_tbl := hx_tbl_of (hx_inT0 (i := 91) rfl) rfl
theorem mw_175 : Cond.fieldLink RX11 128 "HemLine$People" "sees" "[I" ∈ hx_tbl := hx_tbl_of (hx_inT0 (i := 92) rfl) rfl
theorem mw_176 : Cond.fieldLink RX4 25 "HemLine$People" "coin" "[I" ∈ hx_tbl := hx_tbl_of (hx_inT0 (i := 93) rfl) rfl
theorem mw_177 : Cond.fieldLink RX10 99 "HemLine$People" "coin" "[I" ∈ hx_tbl := hx_tbl_of (hx_inT0 (i := 94) rfl) rfl
theorem mw_178 : Cond.fieldLink RX11 193 "HemLine$People" "coin" "[I" ∈ hx_tbl := hx_tbl_of (hx_inT0 (i := 95) rfl) rfl
theorem mw_179 : Cond.fieldLink RX4 28 "HemLine$People" "worn" "[I" ∈ hx_tbl := hx_tbl_of (hx_inT0 (i := 96) rfl) rfl
theorem mw_180 : Cond.fieldLink RX10 102 "HemLine$People" "worn" "[I" ∈ hx_tbl := hx_tbl_of (hx_inT0 (i := 97) rfl) rfl
theorem mw_181 : Cond.fieldLink RX11 196 "HemLine$People" "worn" "[I" ∈ hx_tbl := hx_tbl_of (hx_inT0 (i := 98) rfl) rfl
theorem mw_182 : Cond.fieldLink RX4 31 "HemLine$People" "tally" "[I" ∈ hx_tbl := hx_tbl_of (hx_inT0 (i := 99) rfl) rfl
theorem mw_183 : Cond.fieldLink RX11 203 "HemLine$People" "tally" "[I" ∈ hx_tbl := hx_tbl_of (hx_inT0 (i := 100) rfl) rfl
theorem mw_199 : Cond.classLink RX10 18 RX3 ∈ hx_tbl := hx_tbl_of (hx_inT0 (i := 116) rfl) rfl
theorem mw_200 : Cond.instantiable RX3 6 ∈ hx_tbl := hx_tbl_of (hx_inT0 (i := 117) rfl) rfl
theorem mw_201 : Cond.methodLink RX10 20 yX3_init ∈ hx_tbl := hx_tbl_of (hx_inT0 (i := 118) rfl) rfl
theorem mw_202 : Cond.instanceMethod yX3_init ∈ hx_tbl := hx_tbl_of (hx_inT0 (i := 119) rfl) rfl
theorem mw_203 : Cond.code yX3_init cX3_init 2 (none) ∈ hx_tbl := hx_tbl_of (hx_inT0 (i := 120) rfl) rfl
theorem mw_204 : Cond.methodLink RX3 3 objectInit ∈ hx_tbl := hx_tbl_of (hx_inT0 (i := 121) rfl) rfl
theorem mw_205 : Cond.methodLink RX3 9 yJ9_max_7cf53 ∈ hx_tbl := hx_tbl_of (hx_inT0 (i := 122) rfl) rfl
theorem mw_206 : Cond.static yJ9_max_7cf53 ∈ hx_tbl := hx_tbl_of (hx_inT0 (i := 123) rfl) rfl
theorem mw_207 : Cond.code yJ9_max_7cf53 cJ9_max_7cf53 2 (some .int) ∈ hx_tbl := hx_tbl_of (hx_inT0 (i := 124) rfl) rfl
theorem mw_208 : Cond.methodLink RX3 37 yJ7_fill_53178 ∈ hx_tbl := hx_tbl_of (hx_inT0 (i := 125) rfl) rfl
theorem mw_209 : Cond.static yJ7_fill_53178 ∈ hx_tbl := hx_tbl_of (hx_inT0 (i := 126) rfl) rfl
theorem mw_210 : Cond.code yJ7_fill_53178 cJ7_fill_53178 4 (none) ∈ hx_tbl := hx_tbl_of (hx_inT0 (i := 127) rfl) rfl
theorem mw_211 : Cond.fieldLink RX3 15 "HemLine$Past" "rows" "I" ∈ hx_tbl := hx_tbl_of (hx_inT0 (i := 128) rfl) rfl
theorem mw_212 : Cond.fieldLink RX10 109 "HemLine$Past" "rows" "I" ∈ hx_tbl := hx_tbl_of (hx_inT0 (i := 129) rfl) rfl
theorem mw_213 : Cond.fieldLink RX3 21 "HemLine$Past" "lengths" "[I" ∈ hx_tbl := hx_tbl_of (hx_inT0 (i := 130) rfl) rfl
theorem mw_214 : Cond.fieldLink RX11 115 "HemLine$Past" "lengths" "[I" ∈ hx_tbl := hx_tbl_of (hx_inT0 (i := 131) rfl) rfl
theorem mw_215 : Cond.fieldLink RX10 119 "HemLine$Past" "lengths" "[I" ∈ hx_tbl := hx_tbl_of (hx_inT0 (i := 132) rfl) rfl
theorem mw_216 : Cond.fieldLink RX3 25 "HemLine$Past" "sums" "[I" ∈ hx_tbl := hx_tbl_of (hx_inT0 (i := 133) rfl) rfl
theorem mw_217 : Cond.fieldLink RX11 121 "HemLine$Past" "sums" "[I" ∈ hx_tbl := hx_tbl_of (hx_inT0 (i := 134) rfl) rfl
theorem mw_218 : Cond.fieldLink RX10 86 "HemLine$Past" "sums" "[I" ∈ hx_tbl := hx_tbl_of (hx_inT0 (i := 135) rfl) rfl
theorem mw_219 : Cond.fieldLink RX6 115 "HemLine$Past" "sums" "[I" ∈ hx_tbl := hx_tbl_of (hx_inT0 (i := 136) rfl) rfl
theorem mw_220 : Cond.fieldLink RX3 28 "HemLine$Past" "asked" "[I" ∈ hx_tbl := hx_tbl_of (hx_inT0 (i := 137) rfl) rfl
theorem mw_221 : Cond.fieldLink RX3 31 "HemLine$Past" "shown" "[I" ∈ hx_tbl := hx_tbl_of (hx_inT0 (i := 138) rfl) rfl
theorem mw_222 : Cond.fieldLink RX11 134 "HemLine$Past" "shown" "[I" ∈ hx_tbl := hx_tbl_of (hx_inT0 (i := 139) rfl) rfl
theorem mw_223 : Cond.fieldLink RX3 34 "HemLine$Past" "moneys" "[I" ∈ hx_tbl := hx_tbl_of (hx_inT0 (i := 140) rfl) rfl
theorem mw_224 : Cond.fieldLink RX9 43 "HemLine$Past" "moneys" "[I" ∈ hx_tbl := hx_tbl_of (hx_inT0 (i := 141) rfl) rfl
theorem mw_225 : Cond.fieldLink RX6 51 "HemLine$Past" "moneys" "[I" ∈ hx_tbl := hx_tbl_of (hx_inT0 (i := 142) rfl) rfl
theorem mw_226 : Cond.fieldLink RX11 137 "HemLine$Past" "moneys" "[I" ∈ hx_tbl := hx_tbl_of (hx_inT0 (i := 143) rfl) rfl
theorem mw_227 : Cond.fieldLink RX8 67 "HemLine$Past" "moneys" "[I" ∈ hx_tbl := hx_tbl_of (hx_inT0 (i := 144) rfl) rfl
theorem mw_241 : Cond.classLink RX10 27 RX6 ∈ hx_tbl := hx_tbl_of (hx_inT0 (i := 158) rfl) rfl
theorem mw_242 : Cond.instantiable RX6 6 ∈ hx_tbl := hx_tbl_of (hx_inT0 (i := 159) rfl) rfl
theorem mw_243 : Cond.methodLink RX10 29 yX6_init ∈ hx_tbl := hx_tbl_of (hx_inT0 (i := 160) rfl) rfl
theorem mw_244 : Cond.instanceMethod yX6_init ∈ hx_tbl := hx_tbl_of (hx_inT0 (i := 161) rfl) rfl
theorem mw_245 : Cond.code yX6_init cX6_init 3 (none) ∈ hx_tbl := hx_tbl_of (hx_inT0 (i := 162) rfl) rfl
theorem mw_246 : Cond.methodLink RX6 3 objectInit ∈ hx_tbl := hx_tbl_of (hx_inT0 (i := 163) rfl) rfl
theorem mw_247 : Cond.fieldLink RX6 9 "HemLine$Reckoner" "people" "LHemLine$People;" ∈ hx_tbl := hx_tbl_of (hx_inT0 (i := 164) rfl) rfl
theorem mw_248 : Cond.fieldLink RX6 15 "HemLine$Reckoner" "past" "LHemLine$Past;" ∈ hx_tbl := hx_tbl_of (hx_inT0 (i := 165) rfl) rfl
theorem mw_249 : Cond.fieldLink RX6 21 "HemLine$Reckoner" "answers" "[I" ∈ hx_tbl := hx_tbl_of (hx_inT0 (i := 166) rfl) rfl
theorem mw_250 : Cond.fieldLink RX6 27 "HemLine$Reckoner" "counts" "[I" ∈ hx_tbl := hx_tbl_of (hx_inT0 (i := 167) rfl) rfl
theorem mw_251 : Cond.fieldLink RX6 30 "HemLine$Reckoner" "means" "[I" ∈ hx_tbl := hx_tbl_of (hx_inT0 (i := 168) rfl) rfl
theorem mw_252 : Cond.fieldLink RX0 45 "HemLine$Reckoner" "means" "[I" ∈ hx_tbl := hx_tbl_of (hx_inT0 (i := 169) rfl) rfl
theorem mw_253 : Cond.fieldLink RX6 33 "HemLine$Reckoner" "verb" "I" ∈ hx_tbl := hx_tbl_of (hx_inT0 (i := 170) rfl) rfl
theorem mw_254 : Cond.fieldLink RX10 144 "HemLine$Reckoner" "verb" "I" ∈ hx_tbl := hx_tbl_of (hx_inT0 (i := 171) rfl) rfl
theorem mw_268 : Cond.fieldLink RX10 12 "HemLine$World" "people" "LHemLine$People;" ∈ hx_tbl := hx_tbl_of (hx_inT0 (i := 185) rfl) rfl
theorem mw_269 : Cond.fieldLink RX9 22 "HemLine$World" "people" "LHemLine$People;" ∈ hx_tbl := hx_tbl_of (hx_inT0 (i := 186) rfl) rfl
theorem mw_270 : Cond.fieldLink RX11 101 "HemLine$World" "people" "LHemLine$People;" ∈ hx_tbl := hx_tbl_of (hx_inT0 (i := 187) rfl) rfl
theorem mw_271 : Cond.fieldLink RX7 52 "HemLine$World" "people" "LHemLine$People;" ∈ hx_tbl := hx_tbl_of (hx_inT0 (i := 188) rfl) rfl
theorem mw_272 : Cond.fieldLink RX0 55 "HemLine$World" "people" "LHemLine$People;" ∈ hx_tbl := hx_tbl_of (hx_inT0 (i := 189) rfl) rfl
theorem mw_273 : Cond.fieldLink RX5 48 "HemLine$World" "people" "LHemLine$People;" ∈ hx_tbl := hx_tbl_of (hx_inT0 (i := 190) rfl) rfl
theorem mw_274 : Cond.fieldLink RX10 23 "HemLine$World" "past" "LHemLine$Past;" ∈ hx_tbl := hx_tbl_of (hx_inT0 (i := 191) rfl) rfl
theorem mw_275 : Cond.fieldLink RX0 21 "HemLine$World" "past" "LHemLine$Past;" ∈ hx_tbl := hx_tbl_of (hx_inT0 (i := 192) rfl) rfl
theorem mw_276 : Cond.fieldLink RX9 39 "HemLine$World" "past" "LHemLine$Past;" ∈ hx_tbl := hx_tbl_of (hx_inT0 (i := 193) rfl) rfl
theorem mw_277 : Cond.fieldLink RX11 111 "HemLine$World" "past" "LHemLine$Past;" ∈ hx_tbl := hx_tbl_of (hx_inT0 (i := 194) rfl) rfl
theorem mw_278 : Cond.fieldLink RX5 55 "HemLine$World" "past" "LHemLine$Past;" ∈ hx_tbl := hx_tbl_of (hx_inT0 (i := 195) rfl) rfl
theorem mw_279 : Cond.fieldLink RX8 48 "HemLine$World" "past" "LHemLine$Past;" ∈ hx_tbl := hx_tbl_of (hx_inT0 (i := 196) rfl) rfl
theorem mw_280 : Cond.fieldLink RX10 32 "HemLine$World" "reckoner" "LHemLine$Reckoner;" ∈ hx_tbl := hx_tbl_of (hx_inT0 (i := 197) rfl) rfl
theorem mw_281 : Cond.fieldLink RX0 35 "HemLine$World" "reckoner" "LHemLine$Reckoner;" ∈ hx_tbl := hx_tbl_of (hx_inT0 (i := 198) rfl) rfl
theorem mw_282 : Cond.fieldLink RX10 36 "HemLine$World" "price" "I" ∈ hx_tbl := hx_tbl_of (hx_inT0 (i := 199) rfl) rfl
theorem mw_283 : Cond.fieldLink RX11 140 "HemLine$World" "price" "I" ∈ hx_tbl := hx_tbl_of (hx_inT0 (i := 200) rfl) rfl
theorem mw_284 : Cond.fieldLink RX10 40 "HemLine$World" "seam" "I" ∈ hx_tbl := hx_tbl_of (hx_inT0 (i := 201) rfl) rfl
theorem mw_285 : Cond.fieldLink RX11 143 "HemLine$World" "seam" "I" ∈ hx_tbl := hx_tbl_of (hx_inT0 (i := 202) rfl) rfl
theorem mw_286 : Cond.fieldLink RX10 43 "HemLine$World" "over" "I" ∈ hx_tbl := hx_tbl_of (hx_inT0 (i := 203) rfl) rfl
theorem mw_287 : Cond.fieldLink RX11 146 "HemLine$World" "over" "I" ∈ hx_tbl := hx_tbl_of (hx_inT0 (i := 204) rfl) rfl
theorem mw_288 : Cond.fieldLink RX10 46 "HemLine$World" "z" "J" ∈ hx_tbl := hx_tbl_of (hx_inT0 (i := 205) rfl) rfl
theorem mw_289 : Cond.fieldLink RX9 31 "HemLine$World" "z" "J" ∈ hx_tbl := hx_tbl_of (hx_inT0 (i := 206) rfl) rfl
theorem mw_290 : Cond.fieldLink RX11 150 "HemLine$World" "z" "J" ∈ hx_tbl := hx_tbl_of (hx_inT0 (i := 207) rfl) rfl
theorem mw_291 : Cond.fieldLink RX10 50 "HemLine$World" "season" "I" ∈ hx_tbl := hx_tbl_of (hx_inT0 (i := 208) rfl) rfl
theorem mw_292 : Cond.fieldLink RX8 26 "HemLine$World" "season" "I" ∈ hx_tbl := hx_tbl_of (hx_inT0 (i := 209) rfl) rfl
theorem mw_293 : Cond.fieldLink RX0 15 "HemLine$World" "season" "I" ∈ hx_tbl := hx_tbl_of (hx_inT0 (i := 210) rfl) rfl
theorem mw_294 : Cond.fieldLink RX9 35 "HemLine$World" "season" "I" ∈ hx_tbl := hx_tbl_of (hx_inT0 (i := 211) rfl) rfl
theorem mw_295 : Cond.fieldLink RX11 98 "HemLine$World" "season" "I" ∈ hx_tbl := hx_tbl_of (hx_inT0 (i := 212) rfl) rfl
theorem mw_296 : Cond.fieldLink RX10 53 "HemLine$World" "foretold" "I" ∈ hx_tbl := hx_tbl_of (hx_inT0 (i := 213) rfl) rfl
theorem mw_297 : Cond.fieldLink RX11 275 "HemLine$World" "foretold" "I" ∈ hx_tbl := hx_tbl_of (hx_inT0 (i := 214) rfl) rfl
theorem mw_298 : Cond.fieldLink RX10 56 "HemLine$World" "foretoldSeasons" "[I" ∈ hx_tbl := hx_tbl_of (hx_inT0 (i := 215) rfl) rfl
theorem mw_299 : Cond.fieldLink RX11 278 "HemLine$World" "foretoldSeasons" "[I" ∈ hx_tbl := hx_tbl_of (hx_inT0 (i := 216) rfl) rfl
theorem mw_300 : Cond.fieldLink RX10 60 "HemLine$World" "foretoldLines" "[I" ∈ hx_tbl := hx_tbl_of (hx_inT0 (i := 217) rfl) rfl
theorem mw_301 : Cond.fieldLink RX11 281 "HemLine$World" "foretoldLines" "[I" ∈ hx_tbl := hx_tbl_of (hx_inT0 (i := 218) rfl) rfl
theorem mw_302 : Cond.fieldLink RX10 63 "HemLine$World" "linesThen" "[I" ∈ hx_tbl := hx_tbl_of (hx_inT0 (i := 219) rfl) rfl
theorem mw_303 : Cond.fieldLink RX11 284 "HemLine$World" "linesThen" "[I" ∈ hx_tbl := hx_tbl_of (hx_inT0 (i := 220) rfl) rfl
theorem mw_329 : Cond.classLink RX11 50 RX9 ∈ hx_tbl := hx_tbl_of (hx_inT1 (i := 6) rfl) rfl
theorem mw_330 : Cond.instantiable RX9 2 ∈ hx_tbl := hx_tbl_of (hx_inT1 (i := 7) rfl) rfl
theorem mw_331 : Cond.methodLink RX11 52 yX9_init ∈ hx_tbl := hx_tbl_of (hx_inT1 (i := 8) rfl) rfl
theorem mw_332 : Cond.instanceMethod yX9_init ∈ hx_tbl := hx_tbl_of (hx_inT1 (i := 9) rfl) rfl
theorem mw_333 : Cond.code yX9_init cX9_init 2 (none) ∈ hx_tbl := hx_tbl_of (hx_inT1 (i := 10) rfl) rfl
theorem mw_334 : Cond.methodLink RX9 3 objectInit ∈ hx_tbl := hx_tbl_of (hx_inT1 (i := 11) rfl) rfl
theorem mw_335 : Cond.classLink RX9 15 RX4 ∈ hx_tbl := hx_tbl_of (hx_inT1 (i := 12) rfl) rfl
theorem mw_336 : Cond.methodLink RX9 17 yX4_init ∈ hx_tbl := hx_tbl_of (hx_inT1 (i := 13) rfl) rfl
theorem mw_337 : Cond.fieldLink RX9 9 "HemLine$Trials" "world" "LHemLine$World;" ∈ hx_tbl := hx_tbl_of (hx_inT1 (i := 14) rfl) rfl
theorem mw_338 : Cond.fieldLink RX9 18 "HemLine$Trials" "kept" "LHemLine$People;" ∈ hx_tbl := hx_tbl_of (hx_inT1 (i := 15) rfl) rfl
theorem mw_344 : Cond.classLink RX11 59 RX0 ∈ hx_tbl := hx_tbl_of (hx_inT1 (i := 21) rfl) rfl
theorem mw_345 : Cond.instantiable RX0 1 ∈ hx_tbl := hx_tbl_of (hx_inT1 (i := 22) rfl) rfl
theorem mw_346 : Cond.methodLink RX11 61 yX0_init ∈ hx_tbl := hx_tbl_of (hx_inT1 (i := 23) rfl) rfl
theorem mw_347 : Cond.instanceMethod yX0_init ∈ hx_tbl := hx_tbl_of (hx_inT1 (i := 24) rfl) rfl
theorem mw_348 : Cond.code yX0_init cX0_init 2 (none) ∈ hx_tbl := hx_tbl_of (hx_inT1 (i := 25) rfl) rfl
theorem mw_349 : Cond.methodLink RX0 3 objectInit ∈ hx_tbl := hx_tbl_of (hx_inT1 (i := 26) rfl) rfl
theorem mw_350 : Cond.fieldLink RX0 9 "HemLine$Chronicle" "world" "LHemLine$World;" ∈ hx_tbl := hx_tbl_of (hx_inT1 (i := 27) rfl) rfl
theorem mw_354 : Cond.classLink RX11 66 RX8 ∈ hx_tbl := hx_tbl_of (hx_inT1 (i := 31) rfl) rfl
theorem mw_355 : Cond.instantiable RX8 4 ∈ hx_tbl := hx_tbl_of (hx_inT1 (i := 32) rfl) rfl
theorem mw_356 : Cond.methodLink RX11 68 yX8_init ∈ hx_tbl := hx_tbl_of (hx_inT1 (i := 33) rfl) rfl
theorem mw_357 : Cond.instanceMethod yX8_init ∈ hx_tbl := hx_tbl_of (hx_inT1 (i := 34) rfl) rfl
theorem mw_358 : Cond.code yX8_init cX8_init 2 (none) ∈ hx_tbl := hx_tbl_of (hx_inT1 (i := 35) rfl) rfl
theorem mw_359 : Cond.methodLink RX8 3 objectInit ∈ hx_tbl := hx_tbl_of (hx_inT1 (i := 36) rfl) rfl
theorem mw_360 : Cond.fieldLink RX8 9 "HemLine$Signs" "world" "LHemLine$World;" ∈ hx_tbl := hx_tbl_of (hx_inT1 (i := 37) rfl) rfl
theorem mw_361 : Cond.fieldLink RX8 15 "HemLine$Signs" "ways" "[J" ∈ hx_tbl := hx_tbl_of (hx_inT1 (i := 38) rfl) rfl
theorem mw_362 : Cond.fieldLink RX8 19 "HemLine$Signs" "couples" "I" ∈ hx_tbl := hx_tbl_of (hx_inT1 (i := 39) rfl) rfl
theorem mw_363 : Cond.fieldLink RX11 257 "HemLine$Signs" "couples" "I" ∈ hx_tbl := hx_tbl_of (hx_inT1 (i := 40) rfl) rfl
theorem mw_364 : Cond.fieldLink RX8 23 "HemLine$Signs" "hits" "I" ∈ hx_tbl := hx_tbl_of (hx_inT1 (i := 41) rfl) rfl
theorem mw_365 : Cond.fieldLink RX11 254 "HemLine$Signs" "hits" "I" ∈ hx_tbl := hx_tbl_of (hx_inT1 (i := 42) rfl) rfl
theorem mw_376 : Cond.classLink RX11 73 RX5 ∈ hx_tbl := hx_tbl_of (hx_inT1 (i := 53) rfl) rfl
theorem mw_377 : Cond.instantiable RX5 5 ∈ hx_tbl := hx_tbl_of (hx_inT1 (i := 54) rfl) rfl
theorem mw_378 : Cond.methodLink RX11 75 yX5_init ∈ hx_tbl := hx_tbl_of (hx_inT1 (i := 55) rfl) rfl
theorem mw_379 : Cond.instanceMethod yX5_init ∈ hx_tbl := hx_tbl_of (hx_inT1 (i := 56) rfl) rfl
theorem mw_380 : Cond.code yX5_init cX5_init 2 (none) ∈ hx_tbl := hx_tbl_of (hx_inT1 (i := 57) rfl) rfl
theorem mw_381 : Cond.methodLink RX5 3 objectInit ∈ hx_tbl := hx_tbl_of (hx_inT1 (i := 58) rfl) rfl
theorem mw_382 : Cond.fieldLink RX5 9 "HemLine$Plates" "world" "LHemLine$World;" ∈ hx_tbl := hx_tbl_of (hx_inT1 (i := 59) rfl) rfl
theorem mw_383 : Cond.fieldLink RX5 15 "HemLine$Plates" "size" "I" ∈ hx_tbl := hx_tbl_of (hx_inT1 (i := 60) rfl) rfl
theorem mw_384 : Cond.fieldLink RX11 323 "HemLine$Plates" "size" "I" ∈ hx_tbl := hx_tbl_of (hx_inT1 (i := 61) rfl) rfl
theorem mw_385 : Cond.fieldLink RX5 19 "HemLine$Plates" "papers" "[I" ∈ hx_tbl := hx_tbl_of (hx_inT1 (i := 62) rfl) rfl
theorem mw_386 : Cond.fieldLink RX5 23 "HemLine$Plates" "seasons" "[I" ∈ hx_tbl := hx_tbl_of (hx_inT1 (i := 63) rfl) rfl
theorem mw_387 : Cond.fieldLink RX5 26 "HemLine$Plates" "lengths" "[I" ∈ hx_tbl := hx_tbl_of (hx_inT1 (i := 64) rfl) rfl
theorem mw_399 : Cond.classLink RX11 80 RX7 ∈ hx_tbl := hx_tbl_of (hx_inT1 (i := 76) rfl) rfl
theorem mw_400 : Cond.instantiable RX7 6 ∈ hx_tbl := hx_tbl_of (hx_inT1 (i := 77) rfl) rfl
theorem mw_401 : Cond.methodLink RX11 82 yX7_init ∈ hx_tbl := hx_tbl_of (hx_inT1 (i := 78) rfl) rfl
theorem mw_402 : Cond.instanceMethod yX7_init ∈ hx_tbl := hx_tbl_of (hx_inT1 (i := 79) rfl) rfl
theorem mw_403 : Cond.code yX7_init cX7_init 2 (none) ∈ hx_tbl := hx_tbl_of (hx_inT1 (i := 80) rfl) rfl
theorem mw_404 : Cond.methodLink RX7 3 objectInit ∈ hx_tbl := hx_tbl_of (hx_inT1 (i := 81) rfl) rfl
theorem mw_405 : Cond.fieldLink RX7 9 "HemLine$Shelf" "world" "LHemLine$World;" ∈ hx_tbl := hx_tbl_of (hx_inT1 (i := 82) rfl) rfl
theorem mw_406 : Cond.fieldLink RX7 15 "HemLine$Shelf" "counts" "[I" ∈ hx_tbl := hx_tbl_of (hx_inT1 (i := 83) rfl) rfl
theorem mw_407 : Cond.fieldLink RX7 19 "HemLine$Shelf" "sums" "[I" ∈ hx_tbl := hx_tbl_of (hx_inT1 (i := 84) rfl) rfl
theorem mw_408 : Cond.fieldLink RX7 22 "HemLine$Shelf" "leasts" "[I" ∈ hx_tbl := hx_tbl_of (hx_inT1 (i := 85) rfl) rfl
theorem mw_409 : Cond.fieldLink RX7 25 "HemLine$Shelf" "chosen" "[I" ∈ hx_tbl := hx_tbl_of (hx_inT1 (i := 86) rfl) rfl
theorem mw_410 : Cond.fieldLink RX11 305 "HemLine$Shelf" "chosen" "[I" ∈ hx_tbl := hx_tbl_of (hx_inT1 (i := 87) rfl) rfl
theorem mw_411 : Cond.fieldLink RX7 28 "HemLine$Shelf" "off" "I" ∈ hx_tbl := hx_tbl_of (hx_inT1 (i := 88) rfl) rfl
theorem mw_412 : Cond.fieldLink RX11 302 "HemLine$Shelf" "off" "I" ∈ hx_tbl := hx_tbl_of (hx_inT1 (i := 89) rfl) rfl
theorem mw_427 : Cond.fieldLink RX11 9 "HemLine" "tape" "[B" ∈ hx_tbl := hx_tbl_of (hx_inT1 (i := 104) rfl) rfl
theorem mw_428 : Cond.fieldLink RX11 13 "HemLine" "fed" "I" ∈ hx_tbl := hx_tbl_of (hx_inT1 (i := 105) rfl) rfl
theorem mw_429 : Cond.fieldLink RX11 22 "HemLine" "reader" "LHemLine$LawReader;" ∈ hx_tbl := hx_tbl_of (hx_inT1 (i := 106) rfl) rfl
theorem mw_430 : Cond.fieldLink RX11 28 "HemLine" "laws" "[LHemLine$Law;" ∈ hx_tbl := hx_tbl_of (hx_inT1 (i := 107) rfl) rfl
theorem mw_431 : Cond.fieldLink RX11 32 "HemLine" "lawCount" "I" ∈ hx_tbl := hx_tbl_of (hx_inT1 (i := 108) rfl) rfl
theorem mw_432 : Cond.fieldLink RX11 35 "HemLine" "forced" "I" ∈ hx_tbl := hx_tbl_of (hx_inT1 (i := 109) rfl) rfl
theorem mw_433 : Cond.fieldLink RX11 38 "HemLine" "faultPlace" "I" ∈ hx_tbl := hx_tbl_of (hx_inT1 (i := 110) rfl) rfl
theorem mw_434 : Cond.fieldLink RX11 46 "HemLine" "world" "LHemLine$World;" ∈ hx_tbl := hx_tbl_of (hx_inT1 (i := 111) rfl) rfl
theorem mw_435 : Cond.fieldLink RX11 55 "HemLine" "trials" "LHemLine$Trials;" ∈ hx_tbl := hx_tbl_of (hx_inT1 (i := 112) rfl) rfl
theorem mw_436 : Cond.fieldLink RX11 62 "HemLine" "chronicle" "LHemLine$Chronicle;" ∈ hx_tbl := hx_tbl_of (hx_inT1 (i := 113) rfl) rfl
theorem mw_437 : Cond.fieldLink RX11 69 "HemLine" "signs" "LHemLine$Signs;" ∈ hx_tbl := hx_tbl_of (hx_inT1 (i := 114) rfl) rfl
theorem mw_438 : Cond.fieldLink RX11 76 "HemLine" "plates" "LHemLine$Plates;" ∈ hx_tbl := hx_tbl_of (hx_inT1 (i := 115) rfl) rfl
theorem mw_439 : Cond.fieldLink RX11 83 "HemLine" "shelf" "LHemLine$Shelf;" ∈ hx_tbl := hx_tbl_of (hx_inT1 (i := 116) rfl) rfl
theorem mw_440 : Cond.fieldLink RX11 87 "HemLine" "images" "[LHemLine$World;" ∈ hx_tbl := hx_tbl_of (hx_inT1 (i := 117) rfl) rfl
theorem mw_441 : Cond.fieldLink RX11 91 "HemLine" "imageCount" "I" ∈ hx_tbl := hx_tbl_of (hx_inT1 (i := 118) rfl) rfl
theorem mw_473 : Cond.methodLink RL 13 yX11_person ∈ hx_tbl := hx_tbl_of (hx_inT1 (i := 150) rfl) rfl
theorem mw_474 : Cond.instanceMethod yX11_person ∈ hx_tbl := hx_tbl_of (hx_inT1 (i := 151) rfl) rfl
theorem mw_475 : Cond.selects RX11 yX11_person yX11_person ∈ hx_tbl := hx_tbl_of (hx_inT1 (i := 152) rfl) rfl
theorem mw_476 : Cond.code yX11_person cX11_person 6 (some .int) ∈ hx_tbl := hx_tbl_of (hx_inT1 (i := 153) rfl) rfl
theorem mw_477 : Cond.methodLink RX11 94 yX11_within ∈ hx_tbl := hx_tbl_of (hx_inT1 (i := 154) rfl) rfl
theorem mw_478 : Cond.static yX11_within ∈ hx_tbl := hx_tbl_of (hx_inT1 (i := 155) rfl) rfl
theorem mw_479 : Cond.code yX11_within cX11_within 3 (some .boolean) ∈ hx_tbl := hx_tbl_of (hx_inT1 (i := 156) rfl) rfl
theorem mw_480 : Cond.methodLink RX11 105 yX4_join ∈ hx_tbl := hx_tbl_of (hx_inT1 (i := 157) rfl) rfl
theorem mw_481 : Cond.instanceMethod yX4_join ∈ hx_tbl := hx_tbl_of (hx_inT1 (i := 158) rfl) rfl
theorem mw_482 : Cond.selects RX4 yX4_join yX4_join ∈ hx_tbl := hx_tbl_of (hx_inT1 (i := 159) rfl) rfl
theorem mw_483 : Cond.code yX4_join cX4_join 5 (some .int) ∈ hx_tbl := hx_tbl_of (hx_inT1 (i := 160) rfl) rfl
theorem mw_484 : Cond.methodLink RL 18 yX11_sees ∈ hx_tbl := hx_tbl_of (hx_inT1 (i := 161) rfl) rfl
theorem mw_485 : Cond.instanceMethod yX11_sees ∈ hx_tbl := hx_tbl_of (hx_inT1 (i := 162) rfl) rfl
theorem mw_486 : Cond.selects RX11 yX11_sees yX11_sees ∈ hx_tbl := hx_tbl_of (hx_inT1 (i := 163) rfl) rfl
theorem mw_487 : Cond.code yX11_sees cX11_sees 6 (some .boolean) ∈ hx_tbl := hx_tbl_of (hx_inT1 (i := 164) rfl) rfl
theorem mw_488 : Cond.methodLink RX11 124 yX4_has ∈ hx_tbl := hx_tbl_of (hx_inT1 (i := 165) rfl) rfl
theorem mw_489 : Cond.instanceMethod yX4_has ∈ hx_tbl := hx_tbl_of (hx_inT1 (i := 166) rfl) rfl
theorem mw_490 : Cond.selects RX4 yX4_has yX4_has ∈ hx_tbl := hx_tbl_of (hx_inT1 (i := 167) rfl) rfl
theorem mw_491 : Cond.code yX4_has cX4_has 2 (some .boolean) ∈ hx_tbl := hx_tbl_of (hx_inT1 (i := 168) rfl) rfl
theorem mw_492 : Cond.methodLinkNest RX4 34 yX11_within RX11 ∈ lw_tbl := hx_inT1 (i := 169) rfl
theorem mw_493 : Cond.methodLink RL 23 yX11_shows ∈ hx_tbl := hx_tbl_of (hx_inT1 (i := 170) rfl) rfl
theorem mw_494 : Cond.instanceMethod yX11_shows ∈ hx_tbl := hx_tbl_of (hx_inT1 (i := 171) rfl) rfl
theorem mw_495 : Cond.selects RX11 yX11_shows yX11_shows ∈ hx_tbl := hx_tbl_of (hx_inT1 (i := 172) rfl) rfl
theorem mw_496 : Cond.code yX11_shows cX11_shows 3 (some .boolean) ∈ hx_tbl := hx_tbl_of (hx_inT1 (i := 173) rfl) rfl
theorem mw_497 : Cond.methodLink RX11 131 yX11_isHouse ∈ hx_tbl := hx_tbl_of (hx_inT1 (i := 174) rfl) rfl
theorem mw_498 : Cond.static yX11_isHouse ∈ hx_tbl := hx_tbl_of (hx_inT1 (i := 175) rfl) rfl
theorem mw_499 : Cond.code yX11_isHouse cX11_isHouse 1 (some .boolean) ∈ hx_tbl := hx_tbl_of (hx_inT1 (i := 176) rfl) rfl
theorem mw_500 : Cond.methodLink RL 28 yX11_money ∈ hx_tbl := hx_tbl_of (hx_inT1 (i := 177) rfl) rfl
theorem mw_501 : Cond.instanceMethod yX11_money ∈ hx_tbl := hx_tbl_of (hx_inT1 (i := 178) rfl) rfl
theorem mw_502 : Cond.selects RX11 yX11_money yX11_money ∈ hx_tbl := hx_tbl_of (hx_inT1 (i := 179) rfl) rfl
theorem mw_503 : Cond.code yX11_money cX11_money 2 (some .boolean) ∈ hx_tbl := hx_tbl_of (hx_inT1 (i := 180) rfl) rfl
theorem mw_504 : Cond.methodLink RL 33 yX11_set ∈ hx_tbl := hx_tbl_of (hx_inT1 (i := 181) rfl) rfl
theorem mw_505 : Cond.instanceMethod yX11_set ∈ hx_tbl := hx_tbl_of (hx_inT1 (i := 182) rfl) rfl
theorem mw_506 : Cond.selects RX11 yX11_set yX11_set ∈ hx_tbl := hx_tbl_of (hx_inT1 (i := 183) rfl) rfl
theorem mw_507 : Cond.code yX11_set cX11_set 4 (some .boolean) ∈ hx_tbl := hx_tbl_of (hx_inT1 (i := 184) rfl) rfl
theorem mw_508 : Cond.methodLink RL 38 yX11_seed ∈ hx_tbl := hx_tbl_of (hx_inT1 (i := 185) rfl) rfl
theorem mw_509 : Cond.instanceMethod yX11_seed ∈ hx_tbl := hx_tbl_of (hx_inT1 (i := 186) rfl) rfl
theorem mw_510 : Cond.selects RX11 yX11_seed yX11_seed ∈ hx_tbl := hx_tbl_of (hx_inT1 (i := 187) rfl) rfl
theorem mw_511 : Cond.code yX11_seed cX11_seed 2 (some .boolean) ∈ hx_tbl := hx_tbl_of (hx_inT1 (i := 188) rfl) rfl
theorem mw_512 : Cond.constant RX11 149 (999999999) ∈ hx_tbl := hx_tbl_of (hx_inT1 (i := 189) rfl) rfl
theorem mw_513 : Cond.methodLink RL 42 yX11_feed ∈ hx_tbl := hx_tbl_of (hx_inT1 (i := 190) rfl) rfl
theorem mw_514 : Cond.instanceMethod yX11_feed ∈ hx_tbl := hx_tbl_of (hx_inT1 (i := 191) rfl) rfl
theorem mw_515 : Cond.selects RX11 yX11_feed yX11_feed ∈ hx_tbl := hx_tbl_of (hx_inT1 (i := 192) rfl) rfl
theorem mw_516 : Cond.code yX11_feed cX11_feed 6 (some .int) ∈ hx_tbl := hx_tbl_of (hx_inT1 (i := 193) rfl) rfl
theorem mw_517 : Cond.methodLink RX11 154 yX11_putOnTape ∈ hx_tbl := hx_tbl_of (hx_inT1 (i := 194) rfl) rfl
theorem mw_519 : Cond.instanceMethod yX11_putOnTape ∈ hx_tbl := hx_tbl_of (hx_inT1 (i := 196) rfl) rfl
theorem mw_520 : Cond.code yX11_putOnTape cX11_putOnTape 3 (none) ∈ hx_tbl := hx_tbl_of (hx_inT1 (i := 197) rfl) rfl
theorem mw_521 : Cond.methodLink RL 47 yX11_law ∈ hx_tbl := hx_tbl_of (hx_inT1 (i := 198) rfl) rfl
theorem mw_522 : Cond.instanceMethod yX11_law ∈ hx_tbl := hx_tbl_of (hx_inT1 (i := 199) rfl) rfl
theorem mw_523 : Cond.selects RX11 yX11_law yX11_law ∈ hx_tbl := hx_tbl_of (hx_inT1 (i := 200) rfl) rfl
theorem mw_524 : Cond.code yX11_law cX11_law 3 (some .int) ∈ hx_tbl := hx_tbl_of (hx_inT1 (i := 201) rfl) rfl
theorem mw_525 : Cond.methodLink RX11 157 yX2_compile ∈ hx_tbl := hx_tbl_of (hx_inT1 (i := 202) rfl) rfl
theorem mw_526 : Cond.instanceMethod yX2_compile ∈ hx_tbl := hx_tbl_of (hx_inT1 (i := 203) rfl) rfl
theorem mw_527 : Cond.selects RX2 yX2_compile yX2_compile ∈ hx_tbl := hx_tbl_of (hx_inT1 (i := 204) rfl) rfl
theorem mw_528 : Cond.code yX2_compile cX2_compile 3 (some (.object "HemLine$Law")) ∈ hx_tbl := hx_tbl_of (hx_inT1 (i := 205) rfl) rfl
theorem mw_529 : Cond.methodLinkNest RX2 35 yX11_within RX11 ∈ lw_tbl := hx_inT1 (i := 206) rfl
theorem mw_530 : Cond.methodLink RX2 39 yX2_split ∈ hx_tbl := hx_tbl_of (hx_inT1 (i := 207) rfl) rfl
theorem mw_532 : Cond.instanceMethod yX2_split ∈ hx_tbl := hx_tbl_of (hx_inT1 (i := 209) rfl) rfl
theorem mw_533 : Cond.code yX2_split cX2_split 4 (none) ∈ hx_tbl := hx_tbl_of (hx_inT1 (i := 210) rfl) rfl
theorem mw_534 : Cond.methodLink RX2 57 yX2_endOfToken ∈ hx_tbl := hx_tbl_of (hx_inT1 (i := 211) rfl) rfl
theorem mw_536 : Cond.instanceMethod yX2_endOfToken ∈ hx_tbl := hx_tbl_of (hx_inT1 (i := 213) rfl) rfl
theorem mw_537 : Cond.code yX2_endOfToken cX2_endOfToken 3 (some .int) ∈ hx_tbl := hx_tbl_of (hx_inT1 (i := 214) rfl) rfl
theorem mw_538 : Cond.methodLink RX2 65 yX2_isLetter ∈ hx_tbl := hx_tbl_of (hx_inT1 (i := 215) rfl) rfl
theorem mw_539 : Cond.static yX2_isLetter ∈ hx_tbl := hx_tbl_of (hx_inT1 (i := 216) rfl) rfl
theorem mw_540 : Cond.code yX2_isLetter cX2_isLetter 1 (some .boolean) ∈ hx_tbl := hx_tbl_of (hx_inT1 (i := 217) rfl) rfl
theorem mw_541 : Cond.methodLink RX2 69 yX2_isDigit ∈ hx_tbl := hx_tbl_of (hx_inT1 (i := 218) rfl) rfl
theorem mw_542 : Cond.static yX2_isDigit ∈ hx_tbl := hx_tbl_of (hx_inT1 (i := 219) rfl) rfl
theorem mw_543 : Cond.code yX2_isDigit cX2_isDigit 1 (some .boolean) ∈ hx_tbl := hx_tbl_of (hx_inT1 (i := 220) rfl) rfl
theorem mw_544 : Cond.methodLink RX2 61 yX2_tokenOf ∈ hx_tbl := hx_tbl_of (hx_inT1 (i := 221) rfl) rfl
theorem mw_546 : Cond.instanceMethod yX2_tokenOf ∈ hx_tbl := hx_tbl_of (hx_inT1 (i := 223) rfl) rfl
theorem mw_547 : Cond.code yX2_tokenOf cX2_tokenOf 5 (some .int) ∈ hx_tbl := hx_tbl_of (hx_inT1 (i := 224) rfl) rfl
theorem mw_548 : Cond.methodLink RX2 72 yX2_wordOf ∈ hx_tbl := hx_tbl_of (hx_inT1 (i := 225) rfl) rfl
theorem mw_550 : Cond.instanceMethod yX2_wordOf ∈ hx_tbl := hx_tbl_of (hx_inT1 (i := 227) rfl) rfl
theorem mw_551 : Cond.code yX2_wordOf cX2_wordOf 7 (some .int) ∈ hx_tbl := hx_tbl_of (hx_inT1 (i := 228) rfl) rfl
theorem mw_553 : Cond.methodLink RX2 80 yJ0_charAt_5068e ∈ hx_tbl := hx_tbl_of (hx_inT1 (i := 230) rfl) rfl
theorem mw_554 : Cond.instanceMethod yJ0_charAt_5068e ∈ hx_tbl := hx_tbl_of (hx_inT1 (i := 231) rfl) rfl
theorem mw_555 : Cond.selects RJ0 yJ0_charAt_5068e yJ0_charAt_5068e ∈ hx_tbl := hx_tbl_of (hx_inT1 (i := 232) rfl) rfl
theorem mw_556 : Cond.code yJ0_charAt_5068e cJ0_charAt_5068e 2 (some .char) ∈ hx_tbl := hx_tbl_of (hx_inT1 (i := 233) rfl) rfl
theorem mw_557 : Cond.methodLink RJ0 492 yJ0_isLatin1_aae02 ∈ hx_tbl := hx_tbl_of (hx_inT1 (i := 234) rfl) rfl
theorem mw_558 : Cond.instanceMethod yJ0_isLatin1_aae02 ∈ hx_tbl := hx_tbl_of (hx_inT1 (i := 235) rfl) rfl
theorem mw_559 : Cond.selects RJ0 yJ0_isLatin1_aae02 yJ0_isLatin1_aae02 ∈ hx_tbl := hx_tbl_of (hx_inT1 (i := 236) rfl) rfl
theorem mw_560 : Cond.code yJ0_isLatin1_aae02 cJ0_isLatin1_aae02 1 (some .boolean) ∈ hx_tbl := hx_tbl_of (hx_inT1 (i := 237) rfl) rfl
theorem mw_561 : Cond.fieldLink RJ0 38 "java/lang/String" "COMPACT_STRINGS" "Z" ∈ hx_tbl := hx_tbl_of (hx_inT1 (i := 238) rfl) rfl
theorem mw_563 : Cond.methodLink RJ0 495 yJ1_charAt_3b067 ∈ hx_tbl := hx_tbl_of (hx_inT2 (i := 0) rfl) rfl
theorem mw_564 : Cond.static yJ1_charAt_3b067 ∈ hx_tbl := hx_tbl_of (hx_inT2 (i := 1) rfl) rfl
theorem mw_565 : Cond.code yJ1_charAt_3b067 cJ1_charAt_3b067 2 (some .char) ∈ hx_tbl := hx_tbl_of (hx_inT2 (i := 2) rfl) rfl
theorem mw_566 : Cond.methodLink RJ1 9 yJ0_checkIndex_df160 ∈ hx_tbl := hx_tbl_of (hx_inT2 (i := 3) rfl) rfl
theorem mw_567 : Cond.static yJ0_checkIndex_df160 ∈ hx_tbl := hx_tbl_of (hx_inT2 (i := 4) rfl) rfl
theorem mw_568 : Cond.code yJ0_checkIndex_df160 cJ0_checkIndex_df160 2 (none) ∈ hx_tbl := hx_tbl_of (hx_inT2 (i := 5) rfl) rfl
theorem mw_569 : Cond.fieldLink RJ0 1053 "jdk/internal/util/Preconditions" "SIOOBE_FORMATTER" "Ljava/util/function/BiFunction;" ∈ hx_tbl := hx_tbl_of (hx_inT2 (i := 6) rfl) rfl
theorem mw_571 : Cond.methodLink RJ0 1059 yJ3_checkIndex_8e157 ∈ hx_tbl := hx_tbl_of (hx_inT2 (i := 8) rfl) rfl
theorem mw_572 : Cond.static yJ3_checkIndex_8e157 ∈ hx_tbl := hx_tbl_of (hx_inT2 (i := 9) rfl) rfl
theorem mw_573 : Cond.code yJ3_checkIndex_8e157 cJ3_checkIndex_8e157 3 (some .int) ∈ hx_tbl := hx_tbl_of (hx_inT2 (i := 10) rfl) rfl
theorem mw_593 : Cond.methodLink RX2 75 yX2_numberOf ∈ hx_tbl := hx_tbl_of (hx_inT2 (i := 30) rfl) rfl
theorem mw_595 : Cond.instanceMethod yX2_numberOf ∈ hx_tbl := hx_tbl_of (hx_inT2 (i := 32) rfl) rfl
theorem mw_596 : Cond.code yX2_numberOf cX2_numberOf 5 (some .int) ∈ hx_tbl := hx_tbl_of (hx_inT2 (i := 33) rfl) rfl
theorem mw_597 : Cond.classLink RX2 42 RX1 ∈ hx_tbl := hx_tbl_of (hx_inT2 (i := 34) rfl) rfl
theorem mw_598 : Cond.instantiable RX1 2 ∈ hx_tbl := hx_tbl_of (hx_inT2 (i := 35) rfl) rfl
theorem mw_599 : Cond.methodLink RX2 44 yJ7_copyOf_59c91 ∈ hx_tbl := hx_tbl_of (hx_inT2 (i := 36) rfl) rfl
theorem mw_600 : Cond.static yJ7_copyOf_59c91 ∈ hx_tbl := hx_tbl_of (hx_inT2 (i := 37) rfl) rfl
theorem mw_601 : Cond.code yJ7_copyOf_59c91 cJ7_copyOf_59c91 3 (some (.array .int)) ∈ hx_tbl := hx_tbl_of (hx_inT2 (i := 38) rfl) rfl
theorem mw_609 : Cond.methodLink RJ7 304 yJ9_min_7cf53 ∈ hx_tbl := hx_tbl_of (hx_inT2 (i := 46) rfl) rfl
theorem mw_610 : Cond.static yJ9_min_7cf53 ∈ hx_tbl := hx_tbl_of (hx_inT2 (i := 47) rfl) rfl
theorem mw_611 : Cond.code yJ9_min_7cf53 cJ9_min_7cf53 2 (some .int) ∈ hx_tbl := hx_tbl_of (hx_inT2 (i := 48) rfl) rfl
theorem mw_612 : Cond.methodLink RJ7 150 ⟨"java/lang/System", "arraycopy", "(Ljava/lang/Object;ILjava/lang/Object;II)V"⟩ ∈ hx_tbl := hx_tbl_of (hx_inT2 (i := 49) rfl) rfl
theorem mw_613 : Cond.static ⟨"java/lang/System", "arraycopy", "(Ljava/lang/Object;ILjava/lang/Object;II)V"⟩ ∈ hx_tbl := hx_tbl_of (hx_inT2 (i := 50) rfl) rfl
theorem mw_614 : Cond.native ⟨"java/lang/System", "arraycopy", "(Ljava/lang/Object;ILjava/lang/Object;II)V"⟩ ∈ hx_tbl := hx_tbl_of (hx_inT2 (i := 51) rfl) rfl
theorem mw_615 : Cond.methodLink RX2 50 yX1_init ∈ hx_tbl := hx_tbl_of (hx_inT2 (i := 52) rfl) rfl
theorem mw_616 : Cond.instanceMethod yX1_init ∈ hx_tbl := hx_tbl_of (hx_inT2 (i := 53) rfl) rfl
theorem mw_617 : Cond.code yX1_init cX1_init 3 (none) ∈ hx_tbl := hx_tbl_of (hx_inT2 (i := 54) rfl) rfl
theorem mw_618 : Cond.methodLink RX1 1 objectInit ∈ hx_tbl := hx_tbl_of (hx_inT2 (i := 55) rfl) rfl
theorem mw_619 : Cond.fieldLink RX1 7 "HemLine$Law" "code" "[I" ∈ hx_tbl := hx_tbl_of (hx_inT2 (i := 56) rfl) rfl
theorem mw_620 : Cond.fieldLink RX6 79 "HemLine$Law" "code" "[I" ∈ hx_tbl := hx_tbl_of (hx_inT2 (i := 57) rfl) rfl
theorem mw_621 : Cond.fieldLink RX1 13 "HemLine$Law" "rules" "I" ∈ hx_tbl := hx_tbl_of (hx_inT2 (i := 58) rfl) rfl
theorem mw_622 : Cond.fieldLink RX6 82 "HemLine$Law" "rules" "I" ∈ hx_tbl := hx_tbl_of (hx_inT2 (i := 59) rfl) rfl
theorem mw_623 : Cond.fieldLink RX11 320 "HemLine$Law" "rules" "I" ∈ hx_tbl := hx_tbl_of (hx_inT2 (i := 60) rfl) rfl
theorem mw_629 : Cond.methodLink RX2 53 yX2_readRule ∈ hx_tbl := hx_tbl_of (hx_inT2 (i := 66) rfl) rfl
theorem mw_631 : Cond.instanceMethod yX2_readRule ∈ hx_tbl := hx_tbl_of (hx_inT2 (i := 68) rfl) rfl
theorem mw_632 : Cond.code yX2_readRule cX2_readRule 3 (some .boolean) ∈ hx_tbl := hx_tbl_of (hx_inT2 (i := 69) rfl) rfl
theorem mw_633 : Cond.methodLink RX2 86 yX2_put ∈ hx_tbl := hx_tbl_of (hx_inT2 (i := 70) rfl) rfl
theorem mw_635 : Cond.instanceMethod yX2_put ∈ hx_tbl := hx_tbl_of (hx_inT2 (i := 72) rfl) rfl
theorem mw_636 : Cond.code yX2_put cX2_put 2 (none) ∈ hx_tbl := hx_tbl_of (hx_inT2 (i := 73) rfl) rfl
theorem mw_637 : Cond.methodLink RX2 90 yX2_readAim ∈ hx_tbl := hx_tbl_of (hx_inT2 (i := 74) rfl) rfl
theorem mw_639 : Cond.instanceMethod yX2_readAim ∈ hx_tbl := hx_tbl_of (hx_inT2 (i := 76) rfl) rfl
theorem mw_640 : Cond.code yX2_readAim cX2_readAim 5 (some .int) ∈ hx_tbl := hx_tbl_of (hx_inT2 (i := 77) rfl) rfl
theorem mw_641 : Cond.methodLink RX2 100 yX1_head ∈ hx_tbl := hx_tbl_of (hx_inT2 (i := 78) rfl) rfl
theorem mw_642 : Cond.static yX1_head ∈ hx_tbl := hx_tbl_of (hx_inT2 (i := 79) rfl) rfl
theorem mw_643 : Cond.code yX1_head cX1_head 4 (some .int) ∈ hx_tbl := hx_tbl_of (hx_inT2 (i := 80) rfl) rfl
theorem mw_644 : Cond.methodLink RX2 104 yX2_readNumber ∈ hx_tbl := hx_tbl_of (hx_inT2 (i := 81) rfl) rfl
theorem mw_646 : Cond.instanceMethod yX2_readNumber ∈ hx_tbl := hx_tbl_of (hx_inT2 (i := 83) rfl) rfl
theorem mw_647 : Cond.code yX2_readNumber cX2_readNumber 4 (some .int) ∈ hx_tbl := hx_tbl_of (hx_inT2 (i := 84) rfl) rfl
theorem mw_648 : Cond.methodLink RX2 94 yX2_takes ∈ hx_tbl := hx_tbl_of (hx_inT2 (i := 85) rfl) rfl
theorem mw_650 : Cond.instanceMethod yX2_takes ∈ hx_tbl := hx_tbl_of (hx_inT2 (i := 87) rfl) rfl
theorem mw_651 : Cond.code yX2_takes cX2_takes 2 (some .boolean) ∈ hx_tbl := hx_tbl_of (hx_inT2 (i := 88) rfl) rfl
theorem mw_652 : Cond.methodLink RX2 97 yX2_readAny ∈ hx_tbl := hx_tbl_of (hx_inT2 (i := 89) rfl) rfl
theorem mw_654 : Cond.instanceMethod yX2_readAny ∈ hx_tbl := hx_tbl_of (hx_inT2 (i := 91) rfl) rfl
theorem mw_655 : Cond.code yX2_readAny cX2_readAny 4 (some .boolean) ∈ hx_tbl := hx_tbl_of (hx_inT2 (i := 92) rfl) rfl
theorem mw_656 : Cond.methodLink RX2 107 yX2_readAll ∈ hx_tbl := hx_tbl_of (hx_inT2 (i := 93) rfl) rfl
theorem mw_658 : Cond.instanceMethod yX2_readAll ∈ hx_tbl := hx_tbl_of (hx_inT2 (i := 95) rfl) rfl
theorem mw_659 : Cond.code yX2_readAll cX2_readAll 4 (some .boolean) ∈ hx_tbl := hx_tbl_of (hx_inT2 (i := 96) rfl) rfl
theorem mw_660 : Cond.methodLink RX2 110 yX2_readOne ∈ hx_tbl := hx_tbl_of (hx_inT2 (i := 97) rfl) rfl
theorem mw_662 : Cond.instanceMethod yX2_readOne ∈ hx_tbl := hx_tbl_of (hx_inT2 (i := 99) rfl) rfl
theorem mw_663 : Cond.code yX2_readOne cX2_readOne 4 (some .boolean) ∈ hx_tbl := hx_tbl_of (hx_inT2 (i := 100) rfl) rfl
theorem mw_664 : Cond.methodLink RX2 113 yX2_readComparison ∈ hx_tbl := hx_tbl_of (hx_inT2 (i := 101) rfl) rfl
theorem mw_666 : Cond.instanceMethod yX2_readComparison ∈ hx_tbl := hx_tbl_of (hx_inT2 (i := 103) rfl) rfl
theorem mw_667 : Cond.code yX2_readComparison cX2_readComparison 4 (some .boolean) ∈ hx_tbl := hx_tbl_of (hx_inT2 (i := 104) rfl) rfl
theorem mw_668 : Cond.methodLink RX2 116 yX1_comparison ∈ hx_tbl := hx_tbl_of (hx_inT2 (i := 105) rfl) rfl
theorem mw_669 : Cond.static yX1_comparison ∈ hx_tbl := hx_tbl_of (hx_inT2 (i := 106) rfl) rfl
theorem mw_670 : Cond.code yX1_comparison cX1_comparison 3 (some .int) ∈ hx_tbl := hx_tbl_of (hx_inT2 (i := 107) rfl) rfl
theorem mw_671 : Cond.methodLink RX11 161 yX2_placeAtHand ∈ hx_tbl := hx_tbl_of (hx_inT2 (i := 108) rfl) rfl
theorem mw_672 : Cond.instanceMethod yX2_placeAtHand ∈ hx_tbl := hx_tbl_of (hx_inT2 (i := 109) rfl) rfl
theorem mw_673 : Cond.selects RX2 yX2_placeAtHand yX2_placeAtHand ∈ hx_tbl := hx_tbl_of (hx_inT2 (i := 110) rfl) rfl
theorem mw_674 : Cond.code yX2_placeAtHand cX2_placeAtHand 1 (some .int) ∈ hx_tbl := hx_tbl_of (hx_inT2 (i := 111) rfl) rfl
theorem mw_675 : Cond.methodLink RL 52 yX11_force ∈ hx_tbl := hx_tbl_of (hx_inT2 (i := 112) rfl) rfl
theorem mw_676 : Cond.instanceMethod yX11_force ∈ hx_tbl := hx_tbl_of (hx_inT2 (i := 113) rfl) rfl
theorem mw_677 : Cond.selects RX11 yX11_force yX11_force ∈ hx_tbl := hx_tbl_of (hx_inT2 (i := 114) rfl) rfl
theorem mw_678 : Cond.code yX11_force cX11_force 2 (some .boolean) ∈ hx_tbl := hx_tbl_of (hx_inT2 (i := 115) rfl) rfl
theorem mw_679 : Cond.methodLink RL 56 yX11_fault ∈ hx_tbl := hx_tbl_of (hx_inT2 (i := 116) rfl) rfl
theorem mw_680 : Cond.instanceMethod yX11_fault ∈ hx_tbl := hx_tbl_of (hx_inT2 (i := 117) rfl) rfl
theorem mw_681 : Cond.selects RX11 yX11_fault yX11_fault ∈ hx_tbl := hx_tbl_of (hx_inT2 (i := 118) rfl) rfl
theorem mw_682 : Cond.code yX11_fault cX11_fault 1 (some .int) ∈ hx_tbl := hx_tbl_of (hx_inT2 (i := 119) rfl) rfl
theorem mw_683 : Cond.methodLink RL 61 yX11_run ∈ hx_tbl := hx_tbl_of (hx_inT2 (i := 120) rfl) rfl
theorem mw_684 : Cond.instanceMethod yX11_run ∈ hx_tbl := hx_tbl_of (hx_inT2 (i := 121) rfl) rfl
theorem mw_685 : Cond.selects RX11 yX11_run yX11_run ∈ hx_tbl := hx_tbl_of (hx_inT2 (i := 122) rfl) rfl
theorem mw_686 : Cond.code yX11_run cX11_run 4 (some .int) ∈ hx_tbl := hx_tbl_of (hx_inT2 (i := 123) rfl) rfl
theorem mw_687 : Cond.methodLink RX11 165 yX11_lawInForce ∈ hx_tbl := hx_tbl_of (hx_inT2 (i := 124) rfl) rfl
theorem mw_689 : Cond.instanceMethod yX11_lawInForce ∈ hx_tbl := hx_tbl_of (hx_inT2 (i := 126) rfl) rfl
theorem mw_690 : Cond.code yX11_lawInForce cX11_lawInForce 1 (some (.object "HemLine$Law")) ∈ hx_tbl := hx_tbl_of (hx_inT2 (i := 127) rfl) rfl
theorem mw_691 : Cond.methodLink RX11 169 yX4_isEmpty ∈ hx_tbl := hx_tbl_of (hx_inT2 (i := 128) rfl) rfl
theorem mw_692 : Cond.instanceMethod yX4_isEmpty ∈ hx_tbl := hx_tbl_of (hx_inT2 (i := 129) rfl) rfl
theorem mw_693 : Cond.selects RX4 yX4_isEmpty yX4_isEmpty ∈ hx_tbl := hx_tbl_of (hx_inT2 (i := 130) rfl) rfl
theorem mw_694 : Cond.code yX4_isEmpty cX4_isEmpty 1 (some .boolean) ∈ hx_tbl := hx_tbl_of (hx_inT2 (i := 131) rfl) rfl
theorem mw_695 : Cond.methodLink RX11 173 yX10_pass ∈ hx_tbl := hx_tbl_of (hx_inT2 (i := 132) rfl) rfl
theorem mw_696 : Cond.instanceMethod yX10_pass ∈ hx_tbl := hx_tbl_of (hx_inT2 (i := 133) rfl) rfl
theorem mw_697 : Cond.selects RX10 yX10_pass yX10_pass ∈ hx_tbl := hx_tbl_of (hx_inT2 (i := 134) rfl) rfl
theorem mw_698 : Cond.code yX10_pass cX10_pass 5 (none) ∈ hx_tbl := hx_tbl_of (hx_inT2 (i := 135) rfl) rfl
theorem mw_699 : Cond.methodLink RX10 112 yX3_carryOn ∈ hx_tbl := hx_tbl_of (hx_inT2 (i := 136) rfl) rfl
theorem mw_700 : Cond.instanceMethod yX3_carryOn ∈ hx_tbl := hx_tbl_of (hx_inT2 (i := 137) rfl) rfl
theorem mw_701 : Cond.selects RX3 yX3_carryOn yX3_carryOn ∈ hx_tbl := hx_tbl_of (hx_inT2 (i := 138) rfl) rfl
theorem mw_702 : Cond.code yX3_carryOn cX3_carryOn 2 (none) ∈ hx_tbl := hx_tbl_of (hx_inT2 (i := 139) rfl) rfl
theorem mw_703 : Cond.methodLink RX3 43 ⟨"java/lang/System", "arraycopy", "(Ljava/lang/Object;ILjava/lang/Object;II)V"⟩ ∈ hx_tbl := hx_tbl_of (hx_inT2 (i := 140) rfl) rfl
theorem mw_704 : Cond.methodLink RX10 115 yX10_dress ∈ hx_tbl := hx_tbl_of (hx_inT2 (i := 141) rfl) rfl
theorem mw_706 : Cond.instanceMethod yX10_dress ∈ hx_tbl := hx_tbl_of (hx_inT2 (i := 143) rfl) rfl
theorem mw_707 : Cond.code yX10_dress cX10_dress 6 (some .int) ∈ hx_tbl := hx_tbl_of (hx_inT2 (i := 144) rfl) rfl
theorem mw_708 : Cond.constantLong RX10 122 (6364136223846793005) ∈ hx_tbl := hx_tbl_of (hx_inT2 (i := 145) rfl) rfl
theorem mw_709 : Cond.constantLong RX10 124 (1442695040888963407) ∈ hx_tbl := hx_tbl_of (hx_inT2 (i := 146) rfl) rfl
theorem mw_710 : Cond.constantLong RX10 126 (100) ∈ hx_tbl := hx_tbl_of (hx_inT2 (i := 147) rfl) rfl
theorem mw_711 : Cond.methodLink RX10 131 yJ9_min_7cf53 ∈ hx_tbl := hx_tbl_of (hx_inT2 (i := 148) rfl) rfl
theorem mw_712 : Cond.methodLink RX10 136 yX3_noteAsked ∈ hx_tbl := hx_tbl_of (hx_inT2 (i := 149) rfl) rfl
theorem mw_713 : Cond.instanceMethod yX3_noteAsked ∈ hx_tbl := hx_tbl_of (hx_inT2 (i := 150) rfl) rfl
theorem mw_714 : Cond.selects RX3 yX3_noteAsked yX3_noteAsked ∈ hx_tbl := hx_tbl_of (hx_inT2 (i := 151) rfl) rfl
theorem mw_715 : Cond.code yX3_noteAsked cX3_noteAsked 6 (none) ∈ hx_tbl := hx_tbl_of (hx_inT2 (i := 152) rfl) rfl
theorem mw_716 : Cond.methodLink RX10 89 yX3_lengthOf ∈ hx_tbl := hx_tbl_of (hx_inT2 (i := 153) rfl) rfl
theorem mw_717 : Cond.instanceMethod yX3_lengthOf ∈ hx_tbl := hx_tbl_of (hx_inT2 (i := 154) rfl) rfl
theorem mw_718 : Cond.selects RX3 yX3_lengthOf yX3_lengthOf ∈ hx_tbl := hx_tbl_of (hx_inT2 (i := 155) rfl) rfl
theorem mw_719 : Cond.code yX3_lengthOf cX3_lengthOf 3 (some .int) ∈ hx_tbl := hx_tbl_of (hx_inT2 (i := 156) rfl) rfl
theorem mw_720 : Cond.methodLink RX10 105 yX6_wishOf ∈ hx_tbl := hx_tbl_of (hx_inT2 (i := 157) rfl) rfl
theorem mw_721 : Cond.instanceMethod yX6_wishOf ∈ hx_tbl := hx_tbl_of (hx_inT2 (i := 158) rfl) rfl
theorem mw_722 : Cond.selects RX6 yX6_wishOf yX6_wishOf ∈ hx_tbl := hx_tbl_of (hx_inT2 (i := 159) rfl) rfl
theorem mw_723 : Cond.code yX6_wishOf cX6_wishOf 9 (some .int) ∈ hx_tbl := hx_tbl_of (hx_inT2 (i := 160) rfl) rfl
theorem mw_724 : Cond.methodLink RX6 37 yX3_lengthOf ∈ hx_tbl := hx_tbl_of (hx_inT2 (i := 161) rfl) rfl
theorem mw_725 : Cond.methodLink RX6 54 yX6_look ∈ hx_tbl := hx_tbl_of (hx_inT2 (i := 162) rfl) rfl
theorem mw_726 : Cond.instanceMethod yX6_look ∈ hx_tbl := hx_tbl_of (hx_inT2 (i := 163) rfl) rfl
theorem mw_727 : Cond.selects RX6 yX6_look yX6_look ∈ hx_tbl := hx_tbl_of (hx_inT2 (i := 164) rfl) rfl
theorem mw_728 : Cond.code yX6_look cX6_look 6 (none) ∈ hx_tbl := hx_tbl_of (hx_inT2 (i := 165) rfl) rfl
theorem mw_729 : Cond.methodLink RX6 67 yJ7_fill_53178 ∈ hx_tbl := hx_tbl_of (hx_inT2 (i := 166) rfl) rfl
theorem mw_730 : Cond.methodLink RX6 58 yJ9_max_7cf53 ∈ hx_tbl := hx_tbl_of (hx_inT2 (i := 167) rfl) rfl
theorem mw_731 : Cond.methodLink RX6 63 yX6_wishByRules ∈ hx_tbl := hx_tbl_of (hx_inT2 (i := 168) rfl) rfl
theorem mw_733 : Cond.instanceMethod yX6_wishByRules ∈ hx_tbl := hx_tbl_of (hx_inT2 (i := 170) rfl) rfl
theorem mw_734 : Cond.code yX6_wishByRules cX6_wishByRules 10 (some .int) ∈ hx_tbl := hx_tbl_of (hx_inT2 (i := 171) rfl) rfl
theorem mw_735 : Cond.methodLink RX6 85 yJ9_min_7cf53 ∈ hx_tbl := hx_tbl_of (hx_inT2 (i := 172) rfl) rfl
theorem mw_736 : Cond.methodLink RX6 88 yX6_holds ∈ hx_tbl := hx_tbl_of (hx_inT2 (i := 173) rfl) rfl
theorem mw_738 : Cond.instanceMethod yX6_holds ∈ hx_tbl := hx_tbl_of (hx_inT2 (i := 175) rfl) rfl
theorem mw_739 : Cond.code yX6_holds cX6_holds 9 (some .boolean) ∈ hx_tbl := hx_tbl_of (hx_inT2 (i := 176) rfl) rfl
theorem mw_740 : Cond.methodLink RX6 121 yX1_wordOf ∈ hx_tbl := hx_tbl_of (hx_inT2 (i := 177) rfl) rfl
theorem mw_741 : Cond.static yX1_wordOf ∈ hx_tbl := hx_tbl_of (hx_inT2 (i := 178) rfl) rfl
theorem mw_742 : Cond.code yX1_wordOf cX1_wordOf 1 (some .int) ∈ hx_tbl := hx_tbl_of (hx_inT2 (i := 179) rfl) rfl
theorem mw_743 : Cond.methodLink RX6 124 yX1_compares ∈ hx_tbl := hx_tbl_of (hx_inT2 (i := 180) rfl) rfl
theorem mw_744 : Cond.static yX1_compares ∈ hx_tbl := hx_tbl_of (hx_inT2 (i := 181) rfl) rfl
theorem mw_745 : Cond.code yX1_compares cX1_compares 4 (some .boolean) ∈ hx_tbl := hx_tbl_of (hx_inT2 (i := 182) rfl) rfl
theorem mw_746 : Cond.methodLink RX6 92 yX1_verbOf ∈ hx_tbl := hx_tbl_of (hx_inT2 (i := 183) rfl) rfl
theorem mw_747 : Cond.static yX1_verbOf ∈ hx_tbl := hx_tbl_of (hx_inT2 (i := 184) rfl) rfl
theorem mw_748 : Cond.code yX1_verbOf cX1_verbOf 1 (some .int) ∈ hx_tbl := hx_tbl_of (hx_inT2 (i := 185) rfl) rfl
theorem mw_749 : Cond.methodLink RX6 96 yX6_meanOf ∈ hx_tbl := hx_tbl_of (hx_inT2 (i := 186) rfl) rfl
theorem mw_751 : Cond.instanceMethod yX6_meanOf ∈ hx_tbl := hx_tbl_of (hx_inT2 (i := 188) rfl) rfl
theorem mw_752 : Cond.code yX6_meanOf cX6_meanOf 6 (some .int) ∈ hx_tbl := hx_tbl_of (hx_inT2 (i := 189) rfl) rfl
theorem mw_753 : Cond.methodLink RX6 106 yX1_whomOf ∈ hx_tbl := hx_tbl_of (hx_inT2 (i := 190) rfl) rfl
theorem mw_754 : Cond.static yX1_whomOf ∈ hx_tbl := hx_tbl_of (hx_inT2 (i := 191) rfl) rfl
theorem mw_755 : Cond.code yX1_whomOf cX1_whomOf 1 (some .int) ∈ hx_tbl := hx_tbl_of (hx_inT2 (i := 192) rfl) rfl
theorem mw_756 : Cond.methodLink RX6 109 yX1_numberOf ∈ hx_tbl := hx_tbl_of (hx_inT2 (i := 193) rfl) rfl
theorem mw_757 : Cond.static yX1_numberOf ∈ hx_tbl := hx_tbl_of (hx_inT2 (i := 194) rfl) rfl
theorem mw_758 : Cond.code yX1_numberOf cX1_numberOf 1 (some .int) ∈ hx_tbl := hx_tbl_of (hx_inT2 (i := 195) rfl) rfl
theorem mw_759 : Cond.methodLink RX6 112 yX3_shownBy ∈ hx_tbl := hx_tbl_of (hx_inT2 (i := 196) rfl) rfl
theorem mw_760 : Cond.instanceMethod yX3_shownBy ∈ hx_tbl := hx_tbl_of (hx_inT2 (i := 197) rfl) rfl
theorem mw_761 : Cond.selects RX3 yX3_shownBy yX3_shownBy ∈ hx_tbl := hx_tbl_of (hx_inT2 (i := 198) rfl) rfl
theorem mw_762 : Cond.code yX3_shownBy cX3_shownBy 3 (some .int) ∈ hx_tbl := hx_tbl_of (hx_inT2 (i := 199) rfl) rfl
theorem mw_763 : Cond.methodLink RX6 99 yX1_byOf ∈ hx_tbl := hx_tbl_of (hx_inT2 (i := 200) rfl) rfl
theorem mw_764 : Cond.static yX1_byOf ∈ hx_tbl := hx_tbl_of (hx_inT2 (i := 201) rfl) rfl
theorem mw_765 : Cond.code yX1_byOf cX1_byOf 1 (some .int) ∈ hx_tbl := hx_tbl_of (hx_inT2 (i := 202) rfl) rfl
theorem mw_766 : Cond.methodLink RX6 102 yX6_goal ∈ hx_tbl := hx_tbl_of (hx_inT2 (i := 203) rfl) rfl
theorem mw_768 : Cond.instanceMethod yX6_goal ∈ hx_tbl := hx_tbl_of (hx_inT2 (i := 205) rfl) rfl
theorem mw_769 : Cond.code yX6_goal cX6_goal 4 (some .int) ∈ hx_tbl := hx_tbl_of (hx_inT2 (i := 206) rfl) rfl
theorem mw_770 : Cond.methodLink RX6 118 yJ9_abs_0f7a4 ∈ hx_tbl := hx_tbl_of (hx_inT2 (i := 207) rfl) rfl
theorem mw_771 : Cond.static yJ9_abs_0f7a4 ∈ hx_tbl := hx_tbl_of (hx_inT2 (i := 208) rfl) rfl
theorem mw_772 : Cond.code yJ9_abs_0f7a4 cJ9_abs_0f7a4 1 (some .int) ∈ hx_tbl := hx_tbl_of (hx_inT2 (i := 209) rfl) rfl
theorem mw_773 : Cond.methodLink RX10 140 yX4_tell ∈ hx_tbl := hx_tbl_of (hx_inT2 (i := 210) rfl) rfl
theorem mw_774 : Cond.instanceMethod yX4_tell ∈ hx_tbl := hx_tbl_of (hx_inT2 (i := 211) rfl) rfl
theorem mw_775 : Cond.selects RX4 yX4_tell yX4_tell ∈ hx_tbl := hx_tbl_of (hx_inT2 (i := 212) rfl) rfl
theorem mw_776 : Cond.code yX4_tell cX4_tell 3 (none) ∈ hx_tbl := hx_tbl_of (hx_inT2 (i := 213) rfl) rfl
theorem mw_777 : Cond.methodLink RX10 147 yJ9_abs_0f7a4 ∈ hx_tbl := hx_tbl_of (hx_inT2 (i := 214) rfl) rfl
theorem mw_778 : Cond.methodLink RX10 150 yX10_pays ∈ hx_tbl := hx_tbl_of (hx_inT2 (i := 215) rfl) rfl
theorem mw_780 : Cond.instanceMethod yX10_pays ∈ hx_tbl := hx_tbl_of (hx_inT2 (i := 217) rfl) rfl
theorem mw_781 : Cond.code yX10_pays cX10_pays 4 (some .boolean) ∈ hx_tbl := hx_tbl_of (hx_inT2 (i := 218) rfl) rfl
theorem mw_782 : Cond.methodLink RL 65 yX11_line ∈ hx_tbl := hx_tbl_of (hx_inT2 (i := 219) rfl) rfl
theorem mw_783 : Cond.instanceMethod yX11_line ∈ hx_tbl := hx_tbl_of (hx_inT2 (i := 220) rfl) rfl
theorem mw_784 : Cond.selects RX11 yX11_line yX11_line ∈ hx_tbl := hx_tbl_of (hx_inT2 (i := 221) rfl) rfl
theorem mw_785 : Cond.code yX11_line cX11_line 2 (some .int) ∈ hx_tbl := hx_tbl_of (hx_inT2 (i := 222) rfl) rfl
theorem mw_786 : Cond.methodLink RX11 177 yX10_hasSeason ∈ hx_tbl := hx_tbl_of (hx_inT2 (i := 223) rfl) rfl
theorem mw_787 : Cond.instanceMethod yX10_hasSeason ∈ hx_tbl := hx_tbl_of (hx_inT2 (i := 224) rfl) rfl
theorem mw_788 : Cond.selects RX10 yX10_hasSeason yX10_hasSeason ∈ hx_tbl := hx_tbl_of (hx_inT2 (i := 225) rfl) rfl
theorem mw_789 : Cond.code yX10_hasSeason cX10_hasSeason 2 (some .boolean) ∈ hx_tbl := hx_tbl_of (hx_inT2 (i := 226) rfl) rfl
theorem mw_790 : Cond.methodLinkNest RX10 79 yX11_within RX11 ∈ lw_tbl := hx_inT2 (i := 227) rfl
theorem mw_791 : Cond.methodLink RX11 180 yX10_lineAt ∈ hx_tbl := hx_tbl_of (hx_inT2 (i := 228) rfl) rfl
theorem mw_792 : Cond.instanceMethod yX10_lineAt ∈ hx_tbl := hx_tbl_of (hx_inT2 (i := 229) rfl) rfl
theorem mw_793 : Cond.selects RX10 yX10_lineAt yX10_lineAt ∈ hx_tbl := hx_tbl_of (hx_inT2 (i := 230) rfl) rfl
theorem mw_794 : Cond.code yX10_lineAt cX10_lineAt 2 (some .int) ∈ hx_tbl := hx_tbl_of (hx_inT2 (i := 231) rfl) rfl
theorem mw_795 : Cond.methodLink RL 69 yX11_length ∈ hx_tbl := hx_tbl_of (hx_inT2 (i := 232) rfl) rfl
theorem mw_796 : Cond.instanceMethod yX11_length ∈ hx_tbl := hx_tbl_of (hx_inT2 (i := 233) rfl) rfl
theorem mw_797 : Cond.selects RX11 yX11_length yX11_length ∈ hx_tbl := hx_tbl_of (hx_inT2 (i := 234) rfl) rfl
theorem mw_798 : Cond.code yX11_length cX11_length 3 (some .int) ∈ hx_tbl := hx_tbl_of (hx_inT2 (i := 235) rfl) rfl
theorem mw_799 : Cond.methodLink RX11 184 yX3_lengthOf ∈ hx_tbl := hx_tbl_of (hx_inT2 (i := 236) rfl) rfl
theorem mw_800 : Cond.methodLink RL 74 yX11_wears ∈ hx_tbl := hx_tbl_of (hx_inT2 (i := 237) rfl) rfl
theorem mw_801 : Cond.instanceMethod yX11_wears ∈ hx_tbl := hx_tbl_of (hx_inT2 (i := 238) rfl) rfl
theorem mw_802 : Cond.selects RX11 yX11_wears yX11_wears ∈ hx_tbl := hx_tbl_of (hx_inT2 (i := 239) rfl) rfl
theorem mw_803 : Cond.code yX11_wears cX11_wears 4 (some .int) ∈ hx_tbl := hx_tbl_of (hx_inT3 (i := 0) rfl) rfl
theorem mw_804 : Cond.methodLink RX11 199 yX10_wishNow ∈ hx_tbl := hx_tbl_of (hx_inT3 (i := 1) rfl) rfl
theorem mw_805 : Cond.instanceMethod yX10_wishNow ∈ hx_tbl := hx_tbl_of (hx_inT3 (i := 2) rfl) rfl
theorem mw_806 : Cond.selects RX10 yX10_wishNow yX10_wishNow ∈ hx_tbl := hx_tbl_of (hx_inT3 (i := 3) rfl) rfl
theorem mw_807 : Cond.code yX10_wishNow cX10_wishNow 3 (some .int) ∈ hx_tbl := hx_tbl_of (hx_inT3 (i := 4) rfl) rfl
theorem mw_808 : Cond.methodLink RL 78 yX11_round ∈ hx_tbl := hx_tbl_of (hx_inT3 (i := 5) rfl) rfl
theorem mw_809 : Cond.instanceMethod yX11_round ∈ hx_tbl := hx_tbl_of (hx_inT3 (i := 6) rfl) rfl
theorem mw_810 : Cond.selects RX11 yX11_round yX11_round ∈ hx_tbl := hx_tbl_of (hx_inT3 (i := 7) rfl) rfl
theorem mw_811 : Cond.code yX11_round cX11_round 5 (some .int) ∈ hx_tbl := hx_tbl_of (hx_inT3 (i := 8) rfl) rfl
theorem mw_812 : Cond.methodLink RX11 206 yX9_rehearse ∈ hx_tbl := hx_tbl_of (hx_inT3 (i := 9) rfl) rfl
theorem mw_813 : Cond.instanceMethod yX9_rehearse ∈ hx_tbl := hx_tbl_of (hx_inT3 (i := 10) rfl) rfl
theorem mw_814 : Cond.selects RX9 yX9_rehearse yX9_rehearse ∈ hx_tbl := hx_tbl_of (hx_inT3 (i := 11) rfl) rfl
theorem mw_815 : Cond.code yX9_rehearse cX9_rehearse 11 (none) ∈ hx_tbl := hx_tbl_of (hx_inT3 (i := 12) rfl) rfl
theorem mw_816 : Cond.methodLink RX9 27 yX4_copyOf ∈ hx_tbl := hx_tbl_of (hx_inT3 (i := 13) rfl) rfl
theorem mw_817 : Cond.instanceMethod yX4_copyOf ∈ hx_tbl := hx_tbl_of (hx_inT3 (i := 14) rfl) rfl
theorem mw_818 : Cond.selects RX4 yX4_copyOf yX4_copyOf ∈ hx_tbl := hx_tbl_of (hx_inT3 (i := 15) rfl) rfl
theorem mw_819 : Cond.code yX4_copyOf cX4_copyOf 2 (none) ∈ hx_tbl := hx_tbl_of (hx_inT3 (i := 16) rfl) rfl
theorem mw_820 : Cond.methodLink RX4 38 ⟨"java/lang/System", "arraycopy", "(Ljava/lang/Object;ILjava/lang/Object;II)V"⟩ ∈ hx_tbl := hx_tbl_of (hx_inT3 (i := 17) rfl) rfl
theorem mw_821 : Cond.methodLink RX9 49 yX10_pass ∈ hx_tbl := hx_tbl_of (hx_inT3 (i := 18) rfl) rfl
theorem mw_822 : Cond.methodLink RX11 210 yX9_roundIn ∈ hx_tbl := hx_tbl_of (hx_inT3 (i := 19) rfl) rfl
theorem mw_823 : Cond.instanceMethod yX9_roundIn ∈ hx_tbl := hx_tbl_of (hx_inT3 (i := 20) rfl) rfl
theorem mw_824 : Cond.selects RX9 yX9_roundIn yX9_roundIn ∈ hx_tbl := hx_tbl_of (hx_inT3 (i := 21) rfl) rfl
theorem mw_825 : Cond.code yX9_roundIn cX9_roundIn 6 (some .int) ∈ hx_tbl := hx_tbl_of (hx_inT3 (i := 22) rfl) rfl
theorem mw_826 : Cond.methodLink RX9 53 yX9_sameBefore ∈ hx_tbl := hx_tbl_of (hx_inT3 (i := 23) rfl) rfl
theorem mw_828 : Cond.instanceMethod yX9_sameBefore ∈ hx_tbl := hx_tbl_of (hx_inT3 (i := 25) rfl) rfl
theorem mw_829 : Cond.code yX9_sameBefore cX9_sameBefore 5 (some .int) ∈ hx_tbl := hx_tbl_of (hx_inT3 (i := 26) rfl) rfl
theorem mw_830 : Cond.methodLink RX9 57 yJ9_max_7cf53 ∈ hx_tbl := hx_tbl_of (hx_inT3 (i := 27) rfl) rfl
theorem mw_831 : Cond.methodLink RX9 65 yX3_sameLengths ∈ hx_tbl := hx_tbl_of (hx_inT3 (i := 28) rfl) rfl
theorem mw_832 : Cond.instanceMethod yX3_sameLengths ∈ hx_tbl := hx_tbl_of (hx_inT3 (i := 29) rfl) rfl
theorem mw_833 : Cond.selects RX3 yX3_sameLengths yX3_sameLengths ∈ hx_tbl := hx_tbl_of (hx_inT3 (i := 30) rfl) rfl
theorem mw_834 : Cond.code yX3_sameLengths cX3_sameLengths 5 (some .boolean) ∈ hx_tbl := hx_tbl_of (hx_inT3 (i := 31) rfl) rfl
theorem mw_835 : Cond.methodLink RX3 49 yX3_lengthOf ∈ hx_tbl := hx_tbl_of (hx_inT3 (i := 32) rfl) rfl
theorem mw_836 : Cond.methodLink RL 82 yX11_pushed ∈ hx_tbl := hx_tbl_of (hx_inT3 (i := 33) rfl) rfl
theorem mw_837 : Cond.instanceMethod yX11_pushed ∈ hx_tbl := hx_tbl_of (hx_inT3 (i := 34) rfl) rfl
theorem mw_838 : Cond.selects RX11 yX11_pushed yX11_pushed ∈ hx_tbl := hx_tbl_of (hx_inT3 (i := 35) rfl) rfl
theorem mw_839 : Cond.code yX11_pushed cX11_pushed 7 (some .int) ∈ hx_tbl := hx_tbl_of (hx_inT3 (i := 36) rfl) rfl
theorem mw_840 : Cond.methodLink RL 87 yX11_led ∈ hx_tbl := hx_tbl_of (hx_inT3 (i := 37) rfl) rfl
theorem mw_841 : Cond.instanceMethod yX11_led ∈ hx_tbl := hx_tbl_of (hx_inT3 (i := 38) rfl) rfl
theorem mw_842 : Cond.selects RX11 yX11_led yX11_led ∈ hx_tbl := hx_tbl_of (hx_inT3 (i := 39) rfl) rfl
theorem mw_843 : Cond.code yX11_led cX11_led 3 (some .int) ∈ hx_tbl := hx_tbl_of (hx_inT3 (i := 40) rfl) rfl
theorem mw_844 : Cond.methodLink RX11 214 yX0_changesOf ∈ hx_tbl := hx_tbl_of (hx_inT3 (i := 41) rfl) rfl
theorem mw_845 : Cond.instanceMethod yX0_changesOf ∈ hx_tbl := hx_tbl_of (hx_inT3 (i := 42) rfl) rfl
theorem mw_846 : Cond.selects RX0 yX0_changesOf yX0_changesOf ∈ hx_tbl := hx_tbl_of (hx_inT3 (i := 43) rfl) rfl
theorem mw_847 : Cond.code yX0_changesOf cX0_changesOf 7 (some .int) ∈ hx_tbl := hx_tbl_of (hx_inT3 (i := 44) rfl) rfl
theorem mw_848 : Cond.methodLink RX0 25 yX3_lengthOf ∈ hx_tbl := hx_tbl_of (hx_inT3 (i := 45) rfl) rfl
theorem mw_849 : Cond.methodLink RX0 31 yX0_isLed ∈ hx_tbl := hx_tbl_of (hx_inT3 (i := 46) rfl) rfl
theorem mw_851 : Cond.instanceMethod yX0_isLed ∈ hx_tbl := hx_tbl_of (hx_inT3 (i := 48) rfl) rfl
theorem mw_852 : Cond.code yX0_isLed cX0_isLed 7 (some .boolean) ∈ hx_tbl := hx_tbl_of (hx_inT3 (i := 49) rfl) rfl
theorem mw_853 : Cond.methodLink RX0 39 yX6_look ∈ hx_tbl := hx_tbl_of (hx_inT3 (i := 50) rfl) rfl
theorem mw_854 : Cond.methodLink RX0 49 yJ9_abs_0f7a4 ∈ hx_tbl := hx_tbl_of (hx_inT3 (i := 51) rfl) rfl
theorem mw_855 : Cond.methodLink RL 91 yX11_alone ∈ hx_tbl := hx_tbl_of (hx_inT3 (i := 52) rfl) rfl
theorem mw_856 : Cond.instanceMethod yX11_alone ∈ hx_tbl := hx_tbl_of (hx_inT3 (i := 53) rfl) rfl
theorem mw_857 : Cond.selects RX11 yX11_alone yX11_alone ∈ hx_tbl := hx_tbl_of (hx_inT3 (i := 54) rfl) rfl
theorem mw_858 : Cond.code yX11_alone cX11_alone 4 (some .int) ∈ hx_tbl := hx_tbl_of (hx_inT3 (i := 55) rfl) rfl
theorem mw_859 : Cond.methodLink RX11 217 yX0_startsOf ∈ hx_tbl := hx_tbl_of (hx_inT3 (i := 56) rfl) rfl
theorem mw_860 : Cond.instanceMethod yX0_startsOf ∈ hx_tbl := hx_tbl_of (hx_inT3 (i := 57) rfl) rfl
theorem mw_861 : Cond.selects RX0 yX0_startsOf yX0_startsOf ∈ hx_tbl := hx_tbl_of (hx_inT3 (i := 58) rfl) rfl
theorem mw_862 : Cond.code yX0_startsOf cX0_startsOf 9 (some .int) ∈ hx_tbl := hx_tbl_of (hx_inT3 (i := 59) rfl) rfl
theorem mw_863 : Cond.methodLink RX0 64 yX0_isAlone ∈ hx_tbl := hx_tbl_of (hx_inT3 (i := 60) rfl) rfl
theorem mw_865 : Cond.instanceMethod yX0_isAlone ∈ hx_tbl := hx_tbl_of (hx_inT3 (i := 62) rfl) rfl
theorem mw_866 : Cond.code yX0_isAlone cX0_isAlone 6 (some .boolean) ∈ hx_tbl := hx_tbl_of (hx_inT3 (i := 63) rfl) rfl
theorem mw_867 : Cond.methodLink RX0 67 yX0_endOf ∈ hx_tbl := hx_tbl_of (hx_inT3 (i := 64) rfl) rfl
theorem mw_869 : Cond.instanceMethod yX0_endOf ∈ hx_tbl := hx_tbl_of (hx_inT3 (i := 66) rfl) rfl
theorem mw_870 : Cond.code yX0_endOf cX0_endOf 8 (some .int) ∈ hx_tbl := hx_tbl_of (hx_inT3 (i := 67) rfl) rfl
theorem mw_871 : Cond.methodLink RX0 71 yJ9_min_7cf53 ∈ hx_tbl := hx_tbl_of (hx_inT3 (i := 68) rfl) rfl
theorem mw_872 : Cond.methodLink RL 95 yX11_like ∈ hx_tbl := hx_tbl_of (hx_inT3 (i := 69) rfl) rfl
theorem mw_873 : Cond.instanceMethod yX11_like ∈ hx_tbl := hx_tbl_of (hx_inT3 (i := 70) rfl) rfl
theorem mw_874 : Cond.selects RX11 yX11_like yX11_like ∈ hx_tbl := hx_tbl_of (hx_inT3 (i := 71) rfl) rfl
theorem mw_875 : Cond.code yX11_like cX11_like 4 (some .int) ∈ hx_tbl := hx_tbl_of (hx_inT3 (i := 72) rfl) rfl
theorem mw_876 : Cond.methodLink RX11 220 yX0_mostLike ∈ hx_tbl := hx_tbl_of (hx_inT3 (i := 73) rfl) rfl
theorem mw_877 : Cond.instanceMethod yX0_mostLike ∈ hx_tbl := hx_tbl_of (hx_inT3 (i := 74) rfl) rfl
theorem mw_878 : Cond.selects RX0 yX0_mostLike yX0_mostLike ∈ hx_tbl := hx_tbl_of (hx_inT3 (i := 75) rfl) rfl
theorem mw_879 : Cond.code yX0_mostLike cX0_mostLike 7 (some .int) ∈ hx_tbl := hx_tbl_of (hx_inT3 (i := 76) rfl) rfl
theorem mw_880 : Cond.methodLink RX0 74 yX10_lineAt ∈ hx_tbl := hx_tbl_of (hx_inT3 (i := 77) rfl) rfl
theorem mw_881 : Cond.methodLink RL 99 yX11_street ∈ hx_tbl := hx_tbl_of (hx_inT3 (i := 78) rfl) rfl
theorem mw_882 : Cond.instanceMethod yX11_street ∈ hx_tbl := hx_tbl_of (hx_inT3 (i := 79) rfl) rfl
theorem mw_883 : Cond.selects RX11 yX11_street yX11_street ∈ hx_tbl := hx_tbl_of (hx_inT3 (i := 80) rfl) rfl
theorem mw_884 : Cond.code yX11_street cX11_street 4 (some .int) ∈ hx_tbl := hx_tbl_of (hx_inT3 (i := 81) rfl) rfl
theorem mw_885 : Cond.methodLink RX11 223 yX4_streetCount ∈ hx_tbl := hx_tbl_of (hx_inT3 (i := 82) rfl) rfl
theorem mw_886 : Cond.instanceMethod yX4_streetCount ∈ hx_tbl := hx_tbl_of (hx_inT3 (i := 83) rfl) rfl
theorem mw_887 : Cond.selects RX4 yX4_streetCount yX4_streetCount ∈ hx_tbl := hx_tbl_of (hx_inT3 (i := 84) rfl) rfl
theorem mw_888 : Cond.code yX4_streetCount cX4_streetCount 3 (some .int) ∈ hx_tbl := hx_tbl_of (hx_inT3 (i := 85) rfl) rfl
theorem mw_889 : Cond.methodLink RX4 48 yX4_streetOf ∈ hx_tbl := hx_tbl_of (hx_inT3 (i := 86) rfl) rfl
theorem mw_890 : Cond.instanceMethod yX4_streetOf ∈ hx_tbl := hx_tbl_of (hx_inT3 (i := 87) rfl) rfl
theorem mw_891 : Cond.selects RX4 yX4_streetOf yX4_streetOf ∈ hx_tbl := hx_tbl_of (hx_inT3 (i := 88) rfl) rfl
theorem mw_892 : Cond.code yX4_streetOf cX4_streetOf 5 (some .int) ∈ hx_tbl := hx_tbl_of (hx_inT3 (i := 89) rfl) rfl
theorem mw_893 : Cond.methodLink RX4 44 yX4_withNeighbours ∈ hx_tbl := hx_tbl_of (hx_inT3 (i := 90) rfl) rfl
theorem mw_895 : Cond.instanceMethod yX4_withNeighbours ∈ hx_tbl := hx_tbl_of (hx_inT3 (i := 92) rfl) rfl
theorem mw_896 : Cond.code yX4_withNeighbours cX4_withNeighbours 4 (some .int) ∈ hx_tbl := hx_tbl_of (hx_inT3 (i := 93) rfl) rfl
theorem mw_897 : Cond.methodLink RX4 51 yX4_leastOf ∈ hx_tbl := hx_tbl_of (hx_inT3 (i := 94) rfl) rfl
theorem mw_898 : Cond.instanceMethod yX4_leastOf ∈ hx_tbl := hx_tbl_of (hx_inT3 (i := 95) rfl) rfl
theorem mw_899 : Cond.selects RX4 yX4_leastOf yX4_leastOf ∈ hx_tbl := hx_tbl_of (hx_inT3 (i := 96) rfl) rfl
theorem mw_900 : Cond.code yX4_leastOf cX4_leastOf 3 (some .int) ∈ hx_tbl := hx_tbl_of (hx_inT3 (i := 97) rfl) rfl
theorem mw_901 : Cond.methodLink RX11 226 yX4_streetOf ∈ hx_tbl := hx_tbl_of (hx_inT3 (i := 98) rfl) rfl
theorem mw_902 : Cond.methodLink RX11 229 yX4_leastOf ∈ hx_tbl := hx_tbl_of (hx_inT3 (i := 99) rfl) rfl
theorem mw_903 : Cond.methodLink RX11 232 yX10_lineOf ∈ hx_tbl := hx_tbl_of (hx_inT3 (i := 100) rfl) rfl
theorem mw_904 : Cond.instanceMethod yX10_lineOf ∈ hx_tbl := hx_tbl_of (hx_inT3 (i := 101) rfl) rfl
theorem mw_905 : Cond.selects RX10 yX10_lineOf yX10_lineOf ∈ hx_tbl := hx_tbl_of (hx_inT3 (i := 102) rfl) rfl
theorem mw_906 : Cond.code yX10_lineOf cX10_lineOf 4 (some .int) ∈ hx_tbl := hx_tbl_of (hx_inT3 (i := 103) rfl) rfl
theorem mw_907 : Cond.methodLink RX10 93 yJ6_bitCount_0f7a4 ∈ hx_tbl := hx_tbl_of (hx_inT3 (i := 104) rfl) rfl
theorem mw_908 : Cond.static yJ6_bitCount_0f7a4 ∈ hx_tbl := hx_tbl_of (hx_inT3 (i := 105) rfl) rfl
theorem mw_909 : Cond.code yJ6_bitCount_0f7a4 cJ6_bitCount_0f7a4 1 (some .int) ∈ hx_tbl := hx_tbl_of (hx_inT3 (i := 106) rfl) rfl
theorem mw_910 : Cond.constant RJ6 265 (1431655765) ∈ hx_tbl := hx_tbl_of (hx_inT3 (i := 107) rfl) rfl
theorem mw_911 : Cond.constant RJ6 266 (858993459) ∈ hx_tbl := hx_tbl_of (hx_inT3 (i := 108) rfl) rfl
theorem mw_912 : Cond.constant RJ6 267 (252645135) ∈ hx_tbl := hx_tbl_of (hx_inT3 (i := 109) rfl) rfl
theorem mw_913 : Cond.methodLink RL 103 yX11_followed ∈ hx_tbl := hx_tbl_of (hx_inT3 (i := 110) rfl) rfl
theorem mw_914 : Cond.instanceMethod yX11_followed ∈ hx_tbl := hx_tbl_of (hx_inT3 (i := 111) rfl) rfl
theorem mw_915 : Cond.selects RX11 yX11_followed yX11_followed ∈ hx_tbl := hx_tbl_of (hx_inT3 (i := 112) rfl) rfl
theorem mw_916 : Cond.code yX11_followed cX11_followed 3 (some .int) ∈ hx_tbl := hx_tbl_of (hx_inT3 (i := 113) rfl) rfl
theorem mw_917 : Cond.methodLink RX11 235 yX8_followedSeasons ∈ hx_tbl := hx_tbl_of (hx_inT3 (i := 114) rfl) rfl
theorem mw_918 : Cond.instanceMethod yX8_followedSeasons ∈ hx_tbl := hx_tbl_of (hx_inT3 (i := 115) rfl) rfl
theorem mw_919 : Cond.selects RX8 yX8_followedSeasons yX8_followedSeasons ∈ hx_tbl := hx_tbl_of (hx_inT3 (i := 116) rfl) rfl
theorem mw_920 : Cond.code yX8_followedSeasons cX8_followedSeasons 4 (some .int) ∈ hx_tbl := hx_tbl_of (hx_inT3 (i := 117) rfl) rfl
theorem mw_921 : Cond.methodLink RX8 35 yX8_isFollowed ∈ hx_tbl := hx_tbl_of (hx_inT3 (i := 118) rfl) rfl
theorem mw_923 : Cond.instanceMethod yX8_isFollowed ∈ hx_tbl := hx_tbl_of (hx_inT3 (i := 120) rfl) rfl
theorem mw_924 : Cond.code yX8_isFollowed cX8_isFollowed 4 (some .boolean) ∈ hx_tbl := hx_tbl_of (hx_inT3 (i := 121) rfl) rfl
theorem mw_925 : Cond.methodLink RX8 52 yX3_shownBy ∈ hx_tbl := hx_tbl_of (hx_inT3 (i := 122) rfl) rfl
theorem mw_926 : Cond.methodLink RX8 31 yX8_isShown ∈ hx_tbl := hx_tbl_of (hx_inT3 (i := 123) rfl) rfl
theorem mw_928 : Cond.instanceMethod yX8_isShown ∈ hx_tbl := hx_tbl_of (hx_inT3 (i := 125) rfl) rfl
theorem mw_929 : Cond.code yX8_isShown cX8_isShown 3 (some .boolean) ∈ hx_tbl := hx_tbl_of (hx_inT3 (i := 126) rfl) rfl
theorem mw_930 : Cond.methodLink RX8 58 yX10_lineAt ∈ hx_tbl := hx_tbl_of (hx_inT3 (i := 127) rfl) rfl
theorem mw_931 : Cond.methodLink RX8 62 yJ9_abs_0f7a4 ∈ hx_tbl := hx_tbl_of (hx_inT3 (i := 128) rfl) rfl
theorem mw_932 : Cond.methodLink RX11 238 yX8_shownSeasons ∈ hx_tbl := hx_tbl_of (hx_inT3 (i := 129) rfl) rfl
theorem mw_933 : Cond.instanceMethod yX8_shownSeasons ∈ hx_tbl := hx_tbl_of (hx_inT3 (i := 130) rfl) rfl
theorem mw_934 : Cond.selects RX8 yX8_shownSeasons yX8_shownSeasons ∈ hx_tbl := hx_tbl_of (hx_inT3 (i := 131) rfl) rfl
theorem mw_935 : Cond.code yX8_shownSeasons cX8_shownSeasons 4 (some .int) ∈ hx_tbl := hx_tbl_of (hx_inT3 (i := 132) rfl) rfl
theorem mw_936 : Cond.methodLink RL 107 yX11_luck ∈ hx_tbl := hx_tbl_of (hx_inT3 (i := 133) rfl) rfl
theorem mw_937 : Cond.instanceMethod yX11_luck ∈ hx_tbl := hx_tbl_of (hx_inT3 (i := 134) rfl) rfl
theorem mw_938 : Cond.selects RX11 yX11_luck yX11_luck ∈ hx_tbl := hx_tbl_of (hx_inT3 (i := 135) rfl) rfl
theorem mw_939 : Cond.code yX11_luck cX11_luck 3 (some .long) ∈ hx_tbl := hx_tbl_of (hx_inT3 (i := 136) rfl) rfl
theorem mw_940 : Cond.constantLong RX11 241 (-1) ∈ hx_tbl := hx_tbl_of (hx_inT3 (i := 137) rfl) rfl
theorem mw_941 : Cond.methodLink RX11 243 yX8_waysOf ∈ hx_tbl := hx_tbl_of (hx_inT3 (i := 138) rfl) rfl
theorem mw_942 : Cond.instanceMethod yX8_waysOf ∈ hx_tbl := hx_tbl_of (hx_inT3 (i := 139) rfl) rfl
theorem mw_943 : Cond.selects RX8 yX8_waysOf yX8_waysOf ∈ hx_tbl := hx_tbl_of (hx_inT3 (i := 140) rfl) rfl
theorem mw_944 : Cond.code yX8_waysOf cX8_waysOf 8 (some .long) ∈ hx_tbl := hx_tbl_of (hx_inT3 (i := 141) rfl) rfl
theorem mw_945 : Cond.methodLink RX8 38 yJ7_fill_d0a16 ∈ hx_tbl := hx_tbl_of (hx_inT3 (i := 142) rfl) rfl
theorem mw_946 : Cond.static yJ7_fill_d0a16 ∈ hx_tbl := hx_tbl_of (hx_inT3 (i := 143) rfl) rfl
theorem mw_947 : Cond.code yJ7_fill_d0a16 cJ7_fill_d0a16 5 (none) ∈ hx_tbl := hx_tbl_of (hx_inT3 (i := 144) rfl) rfl
theorem mw_948 : Cond.methodLink RX8 44 yX8_chooseIn ∈ hx_tbl := hx_tbl_of (hx_inT3 (i := 145) rfl) rfl
theorem mw_950 : Cond.instanceMethod yX8_chooseIn ∈ hx_tbl := hx_tbl_of (hx_inT3 (i := 147) rfl) rfl
theorem mw_951 : Cond.code yX8_chooseIn cX8_chooseIn 5 (none) ∈ hx_tbl := hx_tbl_of (hx_inT3 (i := 148) rfl) rfl
theorem mw_952 : Cond.methodLink RL 112 yX11_claim ∈ hx_tbl := hx_tbl_of (hx_inT3 (i := 149) rfl) rfl
theorem mw_953 : Cond.instanceMethod yX11_claim ∈ hx_tbl := hx_tbl_of (hx_inT3 (i := 150) rfl) rfl
theorem mw_954 : Cond.selects RX11 yX11_claim yX11_claim ∈ hx_tbl := hx_tbl_of (hx_inT3 (i := 151) rfl) rfl
theorem mw_955 : Cond.code yX11_claim cX11_claim 3 (some .long) ∈ hx_tbl := hx_tbl_of (hx_inT3 (i := 152) rfl) rfl
theorem mw_956 : Cond.methodLink RX11 247 yX8_gather ∈ hx_tbl := hx_tbl_of (hx_inT3 (i := 153) rfl) rfl
theorem mw_957 : Cond.instanceMethod yX8_gather ∈ hx_tbl := hx_tbl_of (hx_inT3 (i := 154) rfl) rfl
theorem mw_958 : Cond.selects RX8 yX8_gather yX8_gather ∈ hx_tbl := hx_tbl_of (hx_inT3 (i := 155) rfl) rfl
theorem mw_959 : Cond.code yX8_gather cX8_gather 6 (none) ∈ hx_tbl := hx_tbl_of (hx_inT3 (i := 156) rfl) rfl
theorem mw_960 : Cond.methodLink RX8 71 yJ6_compare_7cf53 ∈ hx_tbl := hx_tbl_of (hx_inT3 (i := 157) rfl) rfl
theorem mw_961 : Cond.static yJ6_compare_7cf53 ∈ hx_tbl := hx_tbl_of (hx_inT3 (i := 158) rfl) rfl
theorem mw_962 : Cond.code yJ6_compare_7cf53 cJ6_compare_7cf53 2 (some .int) ∈ hx_tbl := hx_tbl_of (hx_inT3 (i := 159) rfl) rfl
theorem mw_963 : Cond.methodLink RX11 250 yX8_odds ∈ hx_tbl := hx_tbl_of (hx_inT3 (i := 160) rfl) rfl
theorem mw_964 : Cond.instanceMethod yX8_odds ∈ hx_tbl := hx_tbl_of (hx_inT3 (i := 161) rfl) rfl
theorem mw_965 : Cond.selects RX8 yX8_odds yX8_odds ∈ hx_tbl := hx_tbl_of (hx_inT3 (i := 162) rfl) rfl
theorem mw_966 : Cond.code yX8_odds cX8_odds 6 (some .long) ∈ hx_tbl := hx_tbl_of (hx_inT3 (i := 163) rfl) rfl
theorem mw_967 : Cond.methodLink RL 116 yX11_best ∈ hx_tbl := hx_tbl_of (hx_inT3 (i := 164) rfl) rfl
theorem mw_968 : Cond.instanceMethod yX11_best ∈ hx_tbl := hx_tbl_of (hx_inT3 (i := 165) rfl) rfl
theorem mw_969 : Cond.selects RX11 yX11_best yX11_best ∈ hx_tbl := hx_tbl_of (hx_inT3 (i := 166) rfl) rfl
theorem mw_970 : Cond.code yX11_best cX11_best 1 (some .int) ∈ hx_tbl := hx_tbl_of (hx_inT3 (i := 167) rfl) rfl
theorem mw_971 : Cond.methodLink RX11 260 yX8_bestLag ∈ hx_tbl := hx_tbl_of (hx_inT3 (i := 168) rfl) rfl
theorem mw_972 : Cond.instanceMethod yX8_bestLag ∈ hx_tbl := hx_tbl_of (hx_inT3 (i := 169) rfl) rfl
theorem mw_973 : Cond.selects RX8 yX8_bestLag yX8_bestLag ∈ hx_tbl := hx_tbl_of (hx_inT3 (i := 170) rfl) rfl
theorem mw_974 : Cond.code yX8_bestLag cX8_bestLag 7 (some .int) ∈ hx_tbl := hx_tbl_of (hx_inT3 (i := 171) rfl) rfl
theorem mw_975 : Cond.methodLink RX8 76 yX8_gather ∈ hx_tbl := hx_tbl_of (hx_inT3 (i := 172) rfl) rfl
theorem mw_976 : Cond.methodLink RX8 79 yX8_odds ∈ hx_tbl := hx_tbl_of (hx_inT3 (i := 173) rfl) rfl
theorem mw_977 : Cond.methodLink RL 120 yX11_plate ∈ hx_tbl := hx_tbl_of (hx_inT3 (i := 174) rfl) rfl
theorem mw_978 : Cond.instanceMethod yX11_plate ∈ hx_tbl := hx_tbl_of (hx_inT3 (i := 175) rfl) rfl
theorem mw_979 : Cond.selects RX11 yX11_plate yX11_plate ∈ hx_tbl := hx_tbl_of (hx_inT3 (i := 176) rfl) rfl
theorem mw_980 : Cond.code yX11_plate cX11_plate 5 (some .int) ∈ hx_tbl := hx_tbl_of (hx_inT3 (i := 177) rfl) rfl
theorem mw_981 : Cond.methodLink RX11 263 yX5_add ∈ hx_tbl := hx_tbl_of (hx_inT3 (i := 178) rfl) rfl
theorem mw_982 : Cond.instanceMethod yX5_add ∈ hx_tbl := hx_tbl_of (hx_inT3 (i := 179) rfl) rfl
theorem mw_983 : Cond.selects RX5 yX5_add yX5_add ∈ hx_tbl := hx_tbl_of (hx_inT3 (i := 180) rfl) rfl
theorem mw_984 : Cond.code yX5_add cX5_add 4 (some .int) ∈ hx_tbl := hx_tbl_of (hx_inT3 (i := 181) rfl) rfl
theorem mw_985 : Cond.methodLink RL 124 yX11_off ∈ hx_tbl := hx_tbl_of (hx_inT3 (i := 182) rfl) rfl
theorem mw_986 : Cond.instanceMethod yX11_off ∈ hx_tbl := hx_tbl_of (hx_inT3 (i := 183) rfl) rfl
theorem mw_987 : Cond.selects RX11 yX11_off yX11_off ∈ hx_tbl := hx_tbl_of (hx_inT3 (i := 184) rfl) rfl
theorem mw_988 : Cond.code yX11_off cX11_off 3 (some .int) ∈ hx_tbl := hx_tbl_of (hx_inT3 (i := 185) rfl) rfl
theorem mw_989 : Cond.methodLink RX11 266 yX5_offOf ∈ hx_tbl := hx_tbl_of (hx_inT3 (i := 186) rfl) rfl
theorem mw_990 : Cond.instanceMethod yX5_offOf ∈ hx_tbl := hx_tbl_of (hx_inT3 (i := 187) rfl) rfl
theorem mw_991 : Cond.selects RX5 yX5_offOf yX5_offOf ∈ hx_tbl := hx_tbl_of (hx_inT3 (i := 188) rfl) rfl
theorem mw_992 : Cond.code yX5_offOf cX5_offOf 7 (some .int) ∈ hx_tbl := hx_tbl_of (hx_inT3 (i := 189) rfl) rfl
theorem mw_993 : Cond.methodLink RX5 29 yX10_hasSeason ∈ hx_tbl := hx_tbl_of (hx_inT3 (i := 190) rfl) rfl
theorem mw_994 : Cond.methodLink RX5 35 yX10_lineAt ∈ hx_tbl := hx_tbl_of (hx_inT3 (i := 191) rfl) rfl
theorem mw_995 : Cond.methodLink RX5 39 yJ9_abs_0f7a4 ∈ hx_tbl := hx_tbl_of (hx_inT3 (i := 192) rfl) rfl
theorem mw_996 : Cond.methodLink RX5 44 yX5_isWithinWorn ∈ hx_tbl := hx_tbl_of (hx_inT3 (i := 193) rfl) rfl
theorem mw_998 : Cond.instanceMethod yX5_isWithinWorn ∈ hx_tbl := hx_tbl_of (hx_inT3 (i := 195) rfl) rfl
theorem mw_999 : Cond.code yX5_isWithinWorn cX5_isWithinWorn 7 (some .boolean) ∈ hx_tbl := hx_tbl_of (hx_inT3 (i := 196) rfl) rfl
theorem mw_1000 : Cond.methodLink RX5 59 yX3_lengthOf ∈ hx_tbl := hx_tbl_of (hx_inT3 (i := 197) rfl) rfl
theorem mw_1001 : Cond.methodLink RX5 65 yJ9_min_7cf53 ∈ hx_tbl := hx_tbl_of (hx_inT3 (i := 198) rfl) rfl
theorem mw_1002 : Cond.methodLink RX5 68 yJ9_max_7cf53 ∈ hx_tbl := hx_tbl_of (hx_inT3 (i := 199) rfl) rfl
theorem mw_1003 : Cond.methodLinkNest RX5 71 yX11_within RX11 ∈ lw_tbl := hx_inT3 (i := 200) rfl
theorem mw_1004 : Cond.methodLink RL 128 yX11_again ∈ hx_tbl := hx_tbl_of (hx_inT3 (i := 201) rfl) rfl
theorem mw_1005 : Cond.instanceMethod yX11_again ∈ hx_tbl := hx_tbl_of (hx_inT3 (i := 202) rfl) rfl
theorem mw_1006 : Cond.selects RX11 yX11_again yX11_again ∈ hx_tbl := hx_tbl_of (hx_inT3 (i := 203) rfl) rfl
theorem mw_1007 : Cond.code yX11_again cX11_again 3 (some .int) ∈ hx_tbl := hx_tbl_of (hx_inT3 (i := 204) rfl) rfl
theorem mw_1008 : Cond.methodLink RX11 269 yX0_visitsOf ∈ hx_tbl := hx_tbl_of (hx_inT3 (i := 205) rfl) rfl
theorem mw_1009 : Cond.instanceMethod yX0_visitsOf ∈ hx_tbl := hx_tbl_of (hx_inT3 (i := 206) rfl) rfl
theorem mw_1010 : Cond.selects RX0 yX0_visitsOf yX0_visitsOf ∈ hx_tbl := hx_tbl_of (hx_inT3 (i := 207) rfl) rfl
theorem mw_1011 : Cond.code yX0_visitsOf cX0_visitsOf 8 (some .int) ∈ hx_tbl := hx_tbl_of (hx_inT3 (i := 208) rfl) rfl
theorem mw_1012 : Cond.methodLink RX0 77 yJ9_max_7cf53 ∈ hx_tbl := hx_tbl_of (hx_inT3 (i := 209) rfl) rfl
theorem mw_1013 : Cond.methodLink RL 132 yX11_foretell ∈ hx_tbl := hx_tbl_of (hx_inT3 (i := 210) rfl) rfl
theorem mw_1014 : Cond.instanceMethod yX11_foretell ∈ hx_tbl := hx_tbl_of (hx_inT3 (i := 211) rfl) rfl
theorem mw_1015 : Cond.selects RX11 yX11_foretell yX11_foretell ∈ hx_tbl := hx_tbl_of (hx_inT3 (i := 212) rfl) rfl
theorem mw_1016 : Cond.code yX11_foretell cX11_foretell 4 (some .int) ∈ hx_tbl := hx_tbl_of (hx_inT3 (i := 213) rfl) rfl
theorem mw_1017 : Cond.methodLink RX11 272 yX10_keepForetold ∈ hx_tbl := hx_tbl_of (hx_inT3 (i := 214) rfl) rfl
theorem mw_1018 : Cond.instanceMethod yX10_keepForetold ∈ hx_tbl := hx_tbl_of (hx_inT3 (i := 215) rfl) rfl
theorem mw_1019 : Cond.selects RX10 yX10_keepForetold yX10_keepForetold ∈ hx_tbl := hx_tbl_of (hx_inT3 (i := 216) rfl) rfl
theorem mw_1020 : Cond.code yX10_keepForetold cX10_keepForetold 4 (some .int) ∈ hx_tbl := hx_tbl_of (hx_inT3 (i := 217) rfl) rfl
theorem mw_1021 : Cond.methodLink RL 136 yX11_held ∈ hx_tbl := hx_tbl_of (hx_inT3 (i := 218) rfl) rfl
theorem mw_1022 : Cond.instanceMethod yX11_held ∈ hx_tbl := hx_tbl_of (hx_inT3 (i := 219) rfl) rfl
theorem mw_1023 : Cond.selects RX11 yX11_held yX11_held ∈ hx_tbl := hx_tbl_of (hx_inT3 (i := 220) rfl) rfl
theorem mw_1024 : Cond.code yX11_held cX11_held 5 (some .int) ∈ hx_tbl := hx_tbl_of (hx_inT3 (i := 221) rfl) rfl
theorem mw_1025 : Cond.methodLink RX11 287 yJ9_abs_0f7a4 ∈ hx_tbl := hx_tbl_of (hx_inT3 (i := 222) rfl) rfl
theorem mw_1026 : Cond.methodLink RL 140 yX11_behind ∈ hx_tbl := hx_tbl_of (hx_inT3 (i := 223) rfl) rfl
theorem mw_1027 : Cond.instanceMethod yX11_behind ∈ hx_tbl := hx_tbl_of (hx_inT3 (i := 224) rfl) rfl
theorem mw_1028 : Cond.selects RX11 yX11_behind yX11_behind ∈ hx_tbl := hx_tbl_of (hx_inT3 (i := 225) rfl) rfl
theorem mw_1029 : Cond.code yX11_behind cX11_behind 3 (some .int) ∈ hx_tbl := hx_tbl_of (hx_inT3 (i := 226) rfl) rfl
theorem mw_1030 : Cond.methodLink RX11 292 yX0_farFromLine ∈ hx_tbl := hx_tbl_of (hx_inT3 (i := 227) rfl) rfl
theorem mw_1031 : Cond.instanceMethod yX0_farFromLine ∈ hx_tbl := hx_tbl_of (hx_inT3 (i := 228) rfl) rfl
theorem mw_1032 : Cond.selects RX0 yX0_farFromLine yX0_farFromLine ∈ hx_tbl := hx_tbl_of (hx_inT3 (i := 229) rfl) rfl
theorem mw_1033 : Cond.code yX0_farFromLine cX0_farFromLine 9 (some .int) ∈ hx_tbl := hx_tbl_of (hx_inT3 (i := 230) rfl) rfl
theorem mw_1034 : Cond.methodLink RL 144 yX11_shop ∈ hx_tbl := hx_tbl_of (hx_inT3 (i := 231) rfl) rfl
theorem mw_1035 : Cond.instanceMethod yX11_shop ∈ hx_tbl := hx_tbl_of (hx_inT3 (i := 232) rfl) rfl
theorem mw_1036 : Cond.selects RX11 yX11_shop yX11_shop ∈ hx_tbl := hx_tbl_of (hx_inT3 (i := 233) rfl) rfl
theorem mw_1037 : Cond.code yX11_shop cX11_shop 5 (some .int) ∈ hx_tbl := hx_tbl_of (hx_inT3 (i := 234) rfl) rfl
theorem mw_1038 : Cond.methodLink RX11 296 yX7_gatherWishes ∈ hx_tbl := hx_tbl_of (hx_inT3 (i := 235) rfl) rfl
theorem mw_1039 : Cond.instanceMethod yX7_gatherWishes ∈ hx_tbl := hx_tbl_of (hx_inT3 (i := 236) rfl) rfl
theorem mw_1040 : Cond.selects RX7 yX7_gatherWishes yX7_gatherWishes ∈ hx_tbl := hx_tbl_of (hx_inT3 (i := 237) rfl) rfl
theorem mw_1041 : Cond.code yX7_gatherWishes cX7_gatherWishes 4 (none) ∈ hx_tbl := hx_tbl_of (hx_inT3 (i := 238) rfl) rfl
theorem mw_1042 : Cond.methodLink RX7 46 yJ7_fill_53178 ∈ hx_tbl := hx_tbl_of (hx_inT3 (i := 239) rfl) rfl
theorem mw_1043 : Cond.methodLink RX7 63 yX10_wishNow ∈ hx_tbl := hx_tbl_of (hx_inT4 (i := 0) rfl) rfl
theorem mw_1044 : Cond.methodLinkNest RX7 67 yX11_within RX11 ∈ lw_tbl := hx_inT4 (i := 1) rfl
theorem mw_1045 : Cond.methodLink RX11 299 yX7_order ∈ hx_tbl := hx_tbl_of (hx_inT4 (i := 2) rfl) rfl
theorem mw_1046 : Cond.instanceMethod yX7_order ∈ hx_tbl := hx_tbl_of (hx_inT4 (i := 3) rfl) rfl
theorem mw_1047 : Cond.selects RX7 yX7_order yX7_order ∈ hx_tbl := hx_tbl_of (hx_inT4 (i := 4) rfl) rfl
theorem mw_1048 : Cond.code yX7_order cX7_order 4 (none) ∈ hx_tbl := hx_tbl_of (hx_inT4 (i := 5) rfl) rfl
theorem mw_1049 : Cond.methodLink RX7 32 yX7_beyond ∈ hx_tbl := hx_tbl_of (hx_inT4 (i := 6) rfl) rfl
theorem mw_1051 : Cond.instanceMethod yX7_beyond ∈ hx_tbl := hx_tbl_of (hx_inT4 (i := 8) rfl) rfl
theorem mw_1052 : Cond.code yX7_beyond cX7_beyond 2 (some .int) ∈ hx_tbl := hx_tbl_of (hx_inT4 (i := 9) rfl) rfl
theorem mw_1053 : Cond.methodLink RX7 36 yX7_leastBehind ∈ hx_tbl := hx_tbl_of (hx_inT4 (i := 10) rfl) rfl
theorem mw_1055 : Cond.instanceMethod yX7_leastBehind ∈ hx_tbl := hx_tbl_of (hx_inT4 (i := 12) rfl) rfl
theorem mw_1056 : Cond.code yX7_leastBehind cX7_leastBehind 5 (some .int) ∈ hx_tbl := hx_tbl_of (hx_inT4 (i := 13) rfl) rfl
theorem mw_1057 : Cond.constant RX7 71 (1048576) ∈ hx_tbl := hx_tbl_of (hx_inT4 (i := 14) rfl) rfl
theorem mw_1058 : Cond.methodLink RX7 72 yX7_between ∈ hx_tbl := hx_tbl_of (hx_inT4 (i := 15) rfl) rfl
theorem mw_1060 : Cond.instanceMethod yX7_between ∈ hx_tbl := hx_tbl_of (hx_inT4 (i := 17) rfl) rfl
theorem mw_1061 : Cond.code yX7_between cX7_between 6 (some .int) ∈ hx_tbl := hx_tbl_of (hx_inT4 (i := 18) rfl) rfl
theorem mw_1062 : Cond.methodLink RX7 75 yJ9_min_7cf53 ∈ hx_tbl := hx_tbl_of (hx_inT4 (i := 19) rfl) rfl
theorem mw_1063 : Cond.methodLink RX7 40 yX7_leastFrom ∈ hx_tbl := hx_tbl_of (hx_inT4 (i := 20) rfl) rfl
theorem mw_1065 : Cond.instanceMethod yX7_leastFrom ∈ hx_tbl := hx_tbl_of (hx_inT4 (i := 22) rfl) rfl
theorem mw_1066 : Cond.code yX7_leastFrom cX7_leastFrom 8 (some .int) ∈ hx_tbl := hx_tbl_of (hx_inT4 (i := 23) rfl) rfl
theorem mw_1067 : Cond.methodLink RX7 43 yX7_upTo ∈ hx_tbl := hx_tbl_of (hx_inT4 (i := 24) rfl) rfl
theorem mw_1069 : Cond.instanceMethod yX7_upTo ∈ hx_tbl := hx_tbl_of (hx_inT4 (i := 26) rfl) rfl
theorem mw_1070 : Cond.code yX7_upTo cX7_upTo 2 (some .int) ∈ hx_tbl := hx_tbl_of (hx_inT4 (i := 27) rfl) rfl
theorem mw_1071 : Cond.methodLink RL 148 yX11_read ∈ hx_tbl := hx_tbl_of (hx_inT4 (i := 28) rfl) rfl
theorem mw_1072 : Cond.instanceMethod yX11_read ∈ hx_tbl := hx_tbl_of (hx_inT4 (i := 29) rfl) rfl
theorem mw_1073 : Cond.selects RX11 yX11_read yX11_read ∈ hx_tbl := hx_tbl_of (hx_inT4 (i := 30) rfl) rfl
theorem mw_1074 : Cond.code yX11_read cX11_read 2 (some .int) ∈ hx_tbl := hx_tbl_of (hx_inT4 (i := 31) rfl) rfl
theorem mw_1075 : Cond.methodLink RX11 308 yX11_lawReadingBest ∈ hx_tbl := hx_tbl_of (hx_inT4 (i := 32) rfl) rfl
theorem mw_1077 : Cond.instanceMethod yX11_lawReadingBest ∈ hx_tbl := hx_tbl_of (hx_inT4 (i := 34) rfl) rfl
theorem mw_1078 : Cond.code yX11_lawReadingBest cX11_lawReadingBest 5 (some .int) ∈ hx_tbl := hx_tbl_of (hx_inT4 (i := 35) rfl) rfl
theorem mw_1079 : Cond.methodLink RX11 311 yX0_offOf ∈ hx_tbl := hx_tbl_of (hx_inT4 (i := 36) rfl) rfl
theorem mw_1080 : Cond.instanceMethod yX0_offOf ∈ hx_tbl := hx_tbl_of (hx_inT4 (i := 37) rfl) rfl
theorem mw_1081 : Cond.selects RX0 yX0_offOf yX0_offOf ∈ hx_tbl := hx_tbl_of (hx_inT4 (i := 38) rfl) rfl
theorem mw_1082 : Cond.code yX0_offOf cX0_offOf 7 (some .int) ∈ hx_tbl := hx_tbl_of (hx_inT4 (i := 39) rfl) rfl
theorem mw_1083 : Cond.methodLink RX0 83 yX3_coinAsked ∈ hx_tbl := hx_tbl_of (hx_inT4 (i := 40) rfl) rfl
theorem mw_1084 : Cond.instanceMethod yX3_coinAsked ∈ hx_tbl := hx_tbl_of (hx_inT4 (i := 41) rfl) rfl
theorem mw_1085 : Cond.selects RX3 yX3_coinAsked yX3_coinAsked ∈ hx_tbl := hx_tbl_of (hx_inT4 (i := 42) rfl) rfl
theorem mw_1086 : Cond.code yX3_coinAsked cX3_coinAsked 3 (some .int) ∈ hx_tbl := hx_tbl_of (hx_inT4 (i := 43) rfl) rfl
theorem mw_1087 : Cond.methodLink RX0 86 yX3_wornAsked ∈ hx_tbl := hx_tbl_of (hx_inT4 (i := 44) rfl) rfl
theorem mw_1088 : Cond.instanceMethod yX3_wornAsked ∈ hx_tbl := hx_tbl_of (hx_inT4 (i := 45) rfl) rfl
theorem mw_1089 : Cond.selects RX3 yX3_wornAsked yX3_wornAsked ∈ hx_tbl := hx_tbl_of (hx_inT4 (i := 46) rfl) rfl
theorem mw_1090 : Cond.code yX3_wornAsked cX3_wornAsked 3 (some .int) ∈ hx_tbl := hx_tbl_of (hx_inT4 (i := 47) rfl) rfl
theorem mw_1091 : Cond.methodLink RX0 89 yX3_chanceAsked ∈ hx_tbl := hx_tbl_of (hx_inT4 (i := 48) rfl) rfl
theorem mw_1092 : Cond.instanceMethod yX3_chanceAsked ∈ hx_tbl := hx_tbl_of (hx_inT4 (i := 49) rfl) rfl
theorem mw_1093 : Cond.selects RX3 yX3_chanceAsked yX3_chanceAsked ∈ hx_tbl := hx_tbl_of (hx_inT4 (i := 50) rfl) rfl
theorem mw_1094 : Cond.code yX3_chanceAsked cX3_chanceAsked 3 (some .int) ∈ hx_tbl := hx_tbl_of (hx_inT4 (i := 51) rfl) rfl
theorem mw_1095 : Cond.methodLink RX0 92 yX6_wishOf ∈ hx_tbl := hx_tbl_of (hx_inT4 (i := 52) rfl) rfl
theorem mw_1096 : Cond.methodLink RL 152 yX11_image ∈ hx_tbl := hx_tbl_of (hx_inT4 (i := 53) rfl) rfl
theorem mw_1097 : Cond.instanceMethod yX11_image ∈ hx_tbl := hx_tbl_of (hx_inT4 (i := 54) rfl) rfl
theorem mw_1098 : Cond.selects RX11 yX11_image yX11_image ∈ hx_tbl := hx_tbl_of (hx_inT4 (i := 55) rfl) rfl
theorem mw_1099 : Cond.code yX11_image cX11_image 2 (some .int) ∈ hx_tbl := hx_tbl_of (hx_inT4 (i := 56) rfl) rfl
theorem mw_1100 : Cond.methodLink RX11 314 yX10_copyOf ∈ hx_tbl := hx_tbl_of (hx_inT4 (i := 57) rfl) rfl
theorem mw_1101 : Cond.instanceMethod yX10_copyOf ∈ hx_tbl := hx_tbl_of (hx_inT4 (i := 58) rfl) rfl
theorem mw_1102 : Cond.selects RX10 yX10_copyOf yX10_copyOf ∈ hx_tbl := hx_tbl_of (hx_inT4 (i := 59) rfl) rfl
theorem mw_1103 : Cond.code yX10_copyOf cX10_copyOf 2 (none) ∈ hx_tbl := hx_tbl_of (hx_inT4 (i := 60) rfl) rfl
theorem mw_1104 : Cond.methodLink RX10 66 yX4_copyOf ∈ hx_tbl := hx_tbl_of (hx_inT4 (i := 61) rfl) rfl
theorem mw_1105 : Cond.methodLink RX10 70 yX3_copyOf ∈ hx_tbl := hx_tbl_of (hx_inT4 (i := 62) rfl) rfl
theorem mw_1106 : Cond.instanceMethod yX3_copyOf ∈ hx_tbl := hx_tbl_of (hx_inT4 (i := 63) rfl) rfl
theorem mw_1107 : Cond.selects RX3 yX3_copyOf yX3_copyOf ∈ hx_tbl := hx_tbl_of (hx_inT4 (i := 64) rfl) rfl
theorem mw_1108 : Cond.code yX3_copyOf cX3_copyOf 4 (none) ∈ hx_tbl := hx_tbl_of (hx_inT4 (i := 65) rfl) rfl
theorem mw_1109 : Cond.methodLink RX3 52 yJ9_min_7cf53 ∈ hx_tbl := hx_tbl_of (hx_inT4 (i := 66) rfl) rfl
theorem mw_1110 : Cond.methodLink RX10 73 ⟨"java/lang/System", "arraycopy", "(Ljava/lang/Object;ILjava/lang/Object;II)V"⟩ ∈ hx_tbl := hx_tbl_of (hx_inT4 (i := 67) rfl) rfl
theorem mw_1111 : Cond.methodLink RL 156 yX11_back ∈ hx_tbl := hx_tbl_of (hx_inT4 (i := 68) rfl) rfl
theorem mw_1112 : Cond.instanceMethod yX11_back ∈ hx_tbl := hx_tbl_of (hx_inT4 (i := 69) rfl) rfl
theorem mw_1113 : Cond.selects RX11 yX11_back yX11_back ∈ hx_tbl := hx_tbl_of (hx_inT4 (i := 70) rfl) rfl
theorem mw_1114 : Cond.code yX11_back cX11_back 3 (some .boolean) ∈ hx_tbl := hx_tbl_of (hx_inT4 (i := 71) rfl) rfl
theorem mw_1115 : Cond.methodLink RL 160 yX11_count ∈ hx_tbl := hx_tbl_of (hx_inT4 (i := 72) rfl) rfl
theorem mw_1116 : Cond.instanceMethod yX11_count ∈ hx_tbl := hx_tbl_of (hx_inT4 (i := 73) rfl) rfl
theorem mw_1117 : Cond.selects RX11 yX11_count yX11_count ∈ hx_tbl := hx_tbl_of (hx_inT4 (i := 74) rfl) rfl
theorem mw_1118 : Cond.code yX11_count cX11_count 3 (some .int) ∈ hx_tbl := hx_tbl_of (hx_inT4 (i := 75) rfl) rfl
theorem mw_1119 : Cond.methodLink RX11 324 yX3_shownBy ∈ hx_tbl := hx_tbl_of (hx_inT4 (i := 76) rfl) rfl
theorem mw_1120 : Cond.classLink RL 10 RX12 ∈ hx_tbl := hx_tbl_of (hx_inT4 (i := 77) rfl) rfl
theorem mw_1121 : Cond.instantiable RX12 70 ∈ hx_tbl := hx_tbl_of (hx_inT4 (i := 78) rfl) rfl
theorem mw_1122 : Cond.methodLink RL 12 yX12_init ∈ hx_tbl := hx_tbl_of (hx_inT4 (i := 79) rfl) rfl
theorem mw_1123 : Cond.instanceMethod yX12_init ∈ hx_tbl := hx_tbl_of (hx_inT4 (i := 80) rfl) rfl
theorem mw_1124 : Cond.code yX12_init cX12_init 1 (none) ∈ hx_tbl := hx_tbl_of (hx_inT4 (i := 81) rfl) rfl
theorem mw_1125 : Cond.methodLink RX12 1 objectInit ∈ hx_tbl := hx_tbl_of (hx_inT4 (i := 82) rfl) rfl
theorem mw_1126 : Cond.constant RX12 144 (45000) ∈ hx_tbl := hx_tbl_of (hx_inT4 (i := 83) rfl) rfl
theorem mw_1127 : Cond.fieldLink RX12 154 "HemLineModel" "people" "I" ∈ hx_tbl := hx_tbl_of (hx_inT4 (i := 84) rfl) rfl
theorem mw_1128 : Cond.fieldLink RX12 161 "HemLineModel" "season" "I" ∈ hx_tbl := hx_tbl_of (hx_inT4 (i := 85) rfl) rfl
theorem mw_1129 : Cond.fieldLink RX12 164 "HemLineModel" "money" "I" ∈ hx_tbl := hx_tbl_of (hx_inT4 (i := 86) rfl) rfl
theorem mw_1130 : Cond.fieldLink RX12 171 "HemLineModel" "price" "I" ∈ hx_tbl := hx_tbl_of (hx_inT4 (i := 87) rfl) rfl
theorem mw_1131 : Cond.fieldLink RX12 174 "HemLineModel" "seam" "I" ∈ hx_tbl := hx_tbl_of (hx_inT4 (i := 88) rfl) rfl
theorem mw_1132 : Cond.fieldLink RX12 177 "HemLineModel" "over" "I" ∈ hx_tbl := hx_tbl_of (hx_inT4 (i := 89) rfl) rfl
theorem mw_1133 : Cond.fieldLink RX12 7 "HemLineModel" "z" "J" ∈ hx_tbl := hx_tbl_of (hx_inT4 (i := 90) rfl) rfl
theorem mw_1134 : Cond.fieldLink RX12 13 "HemLineModel" "rank" "[I" ∈ hx_tbl := hx_tbl_of (hx_inT4 (i := 91) rfl) rfl
theorem mw_1135 : Cond.fieldLink RX12 17 "HemLineModel" "purse" "[I" ∈ hx_tbl := hx_tbl_of (hx_inT4 (i := 92) rfl) rfl
theorem mw_1136 : Cond.fieldLink RX12 20 "HemLineModel" "coin" "[I" ∈ hx_tbl := hx_tbl_of (hx_inT4 (i := 93) rfl) rfl
theorem mw_1137 : Cond.fieldLink RX12 23 "HemLineModel" "worn" "[I" ∈ hx_tbl := hx_tbl_of (hx_inT4 (i := 94) rfl) rfl
theorem mw_1138 : Cond.fieldLink RX12 26 "HemLineModel" "sees" "[I" ∈ hx_tbl := hx_tbl_of (hx_inT4 (i := 95) rfl) rfl
theorem mw_1139 : Cond.fieldLink RX12 29 "HemLineModel" "house" "[I" ∈ hx_tbl := hx_tbl_of (hx_inT4 (i := 96) rfl) rfl
theorem mw_1140 : Cond.fieldLink RX12 32 "HemLineModel" "counts" "[I" ∈ hx_tbl := hx_tbl_of (hx_inT4 (i := 97) rfl) rfl
theorem mw_1141 : Cond.fieldLink RX12 35 "HemLineModel" "lengths" "[I" ∈ hx_tbl := hx_tbl_of (hx_inT4 (i := 98) rfl) rfl
theorem mw_1142 : Cond.fieldLink RX12 38 "HemLineModel" "coins" "[I" ∈ hx_tbl := hx_tbl_of (hx_inT4 (i := 99) rfl) rfl
theorem mw_1143 : Cond.fieldLink RX12 41 "HemLineModel" "worns" "[I" ∈ hx_tbl := hx_tbl_of (hx_inT4 (i := 100) rfl) rfl
theorem mw_1144 : Cond.fieldLink RX12 44 "HemLineModel" "chances" "[I" ∈ hx_tbl := hx_tbl_of (hx_inT4 (i := 101) rfl) rfl
theorem mw_1145 : Cond.fieldLink RX12 47 "HemLineModel" "houses" "[I" ∈ hx_tbl := hx_tbl_of (hx_inT4 (i := 102) rfl) rfl
theorem mw_1146 : Cond.fieldLink RX12 50 "HemLineModel" "monies" "[I" ∈ hx_tbl := hx_tbl_of (hx_inT4 (i := 103) rfl) rfl
theorem mw_1147 : Cond.fieldLink RX12 293 "HemLineModel" "laws" "I" ∈ hx_tbl := hx_tbl_of (hx_inT4 (i := 104) rfl) rfl
theorem mw_1148 : Cond.fieldLink RX12 53 "HemLineModel" "inForce" "I" ∈ hx_tbl := hx_tbl_of (hx_inT4 (i := 105) rfl) rfl
theorem mw_1149 : Cond.fieldLink RX12 235 "HemLineModel" "stepMany" "I" ∈ hx_tbl := hx_tbl_of (hx_inT4 (i := 106) rfl) rfl
theorem mw_1150 : Cond.fieldLink RX12 181 "HemLineModel" "taped" "I" ∈ hx_tbl := hx_tbl_of (hx_inT4 (i := 107) rfl) rfl
theorem mw_1151 : Cond.fieldLink RX12 191 "HemLineModel" "size" "I" ∈ hx_tbl := hx_tbl_of (hx_inT4 (i := 108) rfl) rfl
theorem mw_1152 : Cond.fieldLink RX12 188 "HemLineModel" "at" "I" ∈ hx_tbl := hx_tbl_of (hx_inT4 (i := 109) rfl) rfl
theorem mw_1153 : Cond.fieldLink RX12 238 "HemLineModel" "deep" "I" ∈ hx_tbl := hx_tbl_of (hx_inT4 (i := 110) rfl) rfl
theorem mw_1154 : Cond.fieldLink RX12 57 "HemLineModel" "fault" "I" ∈ hx_tbl := hx_tbl_of (hx_inT4 (i := 111) rfl) rfl
theorem mw_1155 : Cond.fieldLink RX12 60 "HemLineModel" "rules" "[I" ∈ hx_tbl := hx_tbl_of (hx_inT4 (i := 112) rfl) rfl
theorem mw_1156 : Cond.fieldLink RX12 63 "HemLineModel" "act" "[I" ∈ hx_tbl := hx_tbl_of (hx_inT4 (i := 113) rfl) rfl
theorem mw_1157 : Cond.fieldLink RX12 66 "HemLineModel" "whom" "[I" ∈ hx_tbl := hx_tbl_of (hx_inT4 (i := 114) rfl) rfl
theorem mw_1158 : Cond.fieldLink RX12 69 "HemLineModel" "whomBy" "[I" ∈ hx_tbl := hx_tbl_of (hx_inT4 (i := 115) rfl) rfl
theorem mw_1159 : Cond.fieldLink RX12 72 "HemLineModel" "by" "[I" ∈ hx_tbl := hx_tbl_of (hx_inT4 (i := 116) rfl) rfl
theorem mw_1160 : Cond.fieldLink RX12 75 "HemLineModel" "from" "[I" ∈ hx_tbl := hx_tbl_of (hx_inT4 (i := 117) rfl) rfl
theorem mw_1161 : Cond.fieldLink RX12 78 "HemLineModel" "to" "[I" ∈ hx_tbl := hx_tbl_of (hx_inT4 (i := 118) rfl) rfl
theorem mw_1162 : Cond.fieldLink RX12 81 "HemLineModel" "op" "[I" ∈ hx_tbl := hx_tbl_of (hx_inT4 (i := 119) rfl) rfl
theorem mw_1163 : Cond.fieldLink RX12 84 "HemLineModel" "asked" "[I" ∈ hx_tbl := hx_tbl_of (hx_inT4 (i := 120) rfl) rfl
theorem mw_1164 : Cond.fieldLink RX12 87 "HemLineModel" "than" "[I" ∈ hx_tbl := hx_tbl_of (hx_inT4 (i := 121) rfl) rfl
theorem mw_1165 : Cond.fieldLink RX12 90 "HemLineModel" "pile" "[Z" ∈ hx_tbl := hx_tbl_of (hx_inT4 (i := 122) rfl) rfl
theorem mw_1166 : Cond.fieldLink RX12 94 "HemLineModel" "tape" "[B" ∈ hx_tbl := hx_tbl_of (hx_inT4 (i := 123) rfl) rfl
theorem mw_1167 : Cond.fieldLink RX12 98 "HemLineModel" "text" "[B" ∈ hx_tbl := hx_tbl_of (hx_inT4 (i := 124) rfl) rfl
theorem mw_1168 : Cond.fieldLink RX12 197 "HemLineModel" "wordEnd" "I" ∈ hx_tbl := hx_tbl_of (hx_inT4 (i := 125) rfl) rfl
theorem mw_1169 : Cond.fieldLink RX12 204 "HemLineModel" "read" "I" ∈ hx_tbl := hx_tbl_of (hx_inT4 (i := 126) rfl) rfl
theorem mw_1170 : Cond.fieldLink RX12 101 "HemLineModel" "means" "[I" ∈ hx_tbl := hx_tbl_of (hx_inT4 (i := 127) rfl) rfl
theorem mw_1171 : Cond.fieldLink RX12 104 "HemLineModel" "here" "[I" ∈ hx_tbl := hx_tbl_of (hx_inT4 (i := 128) rfl) rfl
theorem mw_1172 : Cond.fieldLink RX12 325 "HemLineModel" "wantedBy" "I" ∈ hx_tbl := hx_tbl_of (hx_inT4 (i := 129) rfl) rfl
theorem mw_1173 : Cond.fieldLink RX12 107 "HemLineModel" "aside" "[I" ∈ hx_tbl := hx_tbl_of (hx_inT4 (i := 130) rfl) rfl
theorem mw_1174 : Cond.fieldLink RX12 371 "HemLineModel" "asideZ" "J" ∈ hx_tbl := hx_tbl_of (hx_inT4 (i := 131) rfl) rfl
theorem mw_1175 : Cond.fieldLink RX12 377 "HemLineModel" "shuts" "I" ∈ hx_tbl := hx_tbl_of (hx_inT4 (i := 132) rfl) rfl
theorem mw_1176 : Cond.fieldLink RX12 380 "HemLineModel" "turned" "I" ∈ hx_tbl := hx_tbl_of (hx_inT4 (i := 133) rfl) rfl
theorem mw_1177 : Cond.fieldLink RX12 110 "HemLineModel" "streetOf" "[I" ∈ hx_tbl := hx_tbl_of (hx_inT4 (i := 134) rfl) rfl
theorem mw_1178 : Cond.fieldLink RX12 113 "HemLineModel" "ways" "[J" ∈ hx_tbl := hx_tbl_of (hx_inT4 (i := 135) rfl) rfl
theorem mw_1179 : Cond.fieldLink RX12 415 "HemLineModel" "hits" "I" ∈ hx_tbl := hx_tbl_of (hx_inT4 (i := 136) rfl) rfl
theorem mw_1180 : Cond.fieldLink RX12 418 "HemLineModel" "couples" "I" ∈ hx_tbl := hx_tbl_of (hx_inT4 (i := 137) rfl) rfl
theorem mw_1181 : Cond.fieldLink RX12 117 "HemLineModel" "choose" "[J" ∈ hx_tbl := hx_tbl_of (hx_inT4 (i := 138) rfl) rfl
theorem mw_1182 : Cond.fieldLink RX12 428 "HemLineModel" "plates" "I" ∈ hx_tbl := hx_tbl_of (hx_inT4 (i := 139) rfl) rfl
theorem mw_1183 : Cond.fieldLink RX12 120 "HemLineModel" "platePaper" "[I" ∈ hx_tbl := hx_tbl_of (hx_inT4 (i := 140) rfl) rfl
theorem mw_1184 : Cond.fieldLink RX12 123 "HemLineModel" "plateSeason" "[I" ∈ hx_tbl := hx_tbl_of (hx_inT4 (i := 141) rfl) rfl
theorem mw_1185 : Cond.fieldLink RX12 126 "HemLineModel" "plateLength" "[I" ∈ hx_tbl := hx_tbl_of (hx_inT4 (i := 142) rfl) rfl
theorem mw_1186 : Cond.fieldLink RX12 434 "HemLineModel" "foretolds" "I" ∈ hx_tbl := hx_tbl_of (hx_inT4 (i := 143) rfl) rfl
theorem mw_1187 : Cond.fieldLink RX12 129 "HemLineModel" "toldLine" "[I" ∈ hx_tbl := hx_tbl_of (hx_inT4 (i := 144) rfl) rfl
theorem mw_1188 : Cond.fieldLink RX12 132 "HemLineModel" "toldSeason" "[I" ∈ hx_tbl := hx_tbl_of (hx_inT4 (i := 145) rfl) rfl
theorem mw_1189 : Cond.fieldLink RX12 135 "HemLineModel" "toldNow" "[I" ∈ hx_tbl := hx_tbl_of (hx_inT4 (i := 146) rfl) rfl
theorem mw_1190 : Cond.fieldLink RX12 138 "HemLineModel" "wanted" "[I" ∈ hx_tbl := hx_tbl_of (hx_inT4 (i := 147) rfl) rfl
theorem mw_1191 : Cond.fieldLink RX12 141 "HemLineModel" "rest" "[I" ∈ hx_tbl := hx_tbl_of (hx_inT4 (i := 148) rfl) rfl
theorem mw_1192 : Cond.fieldLink RX12 450 "HemLineModel" "images" "I" ∈ hx_tbl := hx_tbl_of (hx_inT4 (i := 149) rfl) rfl
theorem mw_1193 : Cond.fieldLink RX12 447 "HemLineModel" "place" "I" ∈ hx_tbl := hx_tbl_of (hx_inT4 (i := 150) rfl) rfl
theorem mw_1194 : Cond.fieldLink RX12 145 "HemLineModel" "image" "[I" ∈ hx_tbl := hx_tbl_of (hx_inT4 (i := 151) rfl) rfl
theorem mw_1195 : Cond.fieldLink RX12 148 "HemLineModel" "imageZ" "[J" ∈ hx_tbl := hx_tbl_of (hx_inT4 (i := 152) rfl) rfl
theorem mw_1196 : Cond.fieldLink RX12 151 "HemLineModel" "some" "[I" ∈ hx_tbl := hx_tbl_of (hx_inT4 (i := 153) rfl) rfl
theorem mw_1339 : Cond.methodLink RL 17 yX12_person ∈ hx_tbl := hx_tbl_of (hx_inT5 (i := 56) rfl) rfl
theorem mw_1340 : Cond.instanceMethod yX12_person ∈ hx_tbl := hx_tbl_of (hx_inT5 (i := 57) rfl) rfl
theorem mw_1341 : Cond.selects RX12 yX12_person yX12_person ∈ hx_tbl := hx_tbl_of (hx_inT5 (i := 58) rfl) rfl
theorem mw_1342 : Cond.code yX12_person cX12_person 5 (some .int) ∈ hx_tbl := hx_tbl_of (hx_inT5 (i := 59) rfl) rfl
theorem mw_1343 : Cond.methodLink RX12 157 yX12_isIn ∈ hx_tbl := hx_tbl_of (hx_inT5 (i := 60) rfl) rfl
theorem mw_1344 : Cond.static yX12_isIn ∈ hx_tbl := hx_tbl_of (hx_inT5 (i := 61) rfl) rfl
theorem mw_1345 : Cond.code yX12_isIn cX12_isIn 3 (some .boolean) ∈ hx_tbl := hx_tbl_of (hx_inT5 (i := 62) rfl) rfl
theorem mw_1346 : Cond.methodLink RL 22 yX12_sees ∈ hx_tbl := hx_tbl_of (hx_inT5 (i := 63) rfl) rfl
theorem mw_1347 : Cond.instanceMethod yX12_sees ∈ hx_tbl := hx_tbl_of (hx_inT5 (i := 64) rfl) rfl
theorem mw_1348 : Cond.selects RX12 yX12_sees yX12_sees ∈ hx_tbl := hx_tbl_of (hx_inT5 (i := 65) rfl) rfl
theorem mw_1349 : Cond.code yX12_sees cX12_sees 4 (some .boolean) ∈ hx_tbl := hx_tbl_of (hx_inT5 (i := 66) rfl) rfl
theorem mw_1350 : Cond.methodLink RX12 167 yX12_isPerson ∈ hx_tbl := hx_tbl_of (hx_inT5 (i := 67) rfl) rfl
theorem mw_1352 : Cond.instanceMethod yX12_isPerson ∈ hx_tbl := hx_tbl_of (hx_inT5 (i := 69) rfl) rfl
theorem mw_1353 : Cond.code yX12_isPerson cX12_isPerson 2 (some .boolean) ∈ hx_tbl := hx_tbl_of (hx_inT5 (i := 70) rfl) rfl
theorem mw_1354 : Cond.methodLink RL 27 yX12_shows ∈ hx_tbl := hx_tbl_of (hx_inT5 (i := 71) rfl) rfl
theorem mw_1355 : Cond.instanceMethod yX12_shows ∈ hx_tbl := hx_tbl_of (hx_inT5 (i := 72) rfl) rfl
theorem mw_1356 : Cond.selects RX12 yX12_shows yX12_shows ∈ hx_tbl := hx_tbl_of (hx_inT5 (i := 73) rfl) rfl
theorem mw_1357 : Cond.code yX12_shows cX12_shows 3 (some .boolean) ∈ hx_tbl := hx_tbl_of (hx_inT5 (i := 74) rfl) rfl
theorem mw_1358 : Cond.methodLink RL 32 yX12_money ∈ hx_tbl := hx_tbl_of (hx_inT5 (i := 75) rfl) rfl
theorem mw_1359 : Cond.instanceMethod yX12_money ∈ hx_tbl := hx_tbl_of (hx_inT5 (i := 76) rfl) rfl
theorem mw_1360 : Cond.selects RX12 yX12_money yX12_money ∈ hx_tbl := hx_tbl_of (hx_inT5 (i := 77) rfl) rfl
theorem mw_1361 : Cond.code yX12_money cX12_money 2 (some .boolean) ∈ hx_tbl := hx_tbl_of (hx_inT5 (i := 78) rfl) rfl
theorem mw_1362 : Cond.methodLink RL 37 yX12_set ∈ hx_tbl := hx_tbl_of (hx_inT5 (i := 79) rfl) rfl
theorem mw_1363 : Cond.instanceMethod yX12_set ∈ hx_tbl := hx_tbl_of (hx_inT5 (i := 80) rfl) rfl
theorem mw_1364 : Cond.selects RX12 yX12_set yX12_set ∈ hx_tbl := hx_tbl_of (hx_inT5 (i := 81) rfl) rfl
theorem mw_1365 : Cond.code yX12_set cX12_set 4 (some .boolean) ∈ hx_tbl := hx_tbl_of (hx_inT5 (i := 82) rfl) rfl
theorem mw_1366 : Cond.methodLink RL 41 yX12_seed ∈ hx_tbl := hx_tbl_of (hx_inT5 (i := 83) rfl) rfl
theorem mw_1367 : Cond.instanceMethod yX12_seed ∈ hx_tbl := hx_tbl_of (hx_inT5 (i := 84) rfl) rfl
theorem mw_1368 : Cond.selects RX12 yX12_seed yX12_seed ∈ hx_tbl := hx_tbl_of (hx_inT5 (i := 85) rfl) rfl
theorem mw_1369 : Cond.code yX12_seed cX12_seed 2 (some .boolean) ∈ hx_tbl := hx_tbl_of (hx_inT5 (i := 86) rfl) rfl
theorem mw_1370 : Cond.constant RX12 180 (999999999) ∈ hx_tbl := hx_tbl_of (hx_inT5 (i := 87) rfl) rfl
theorem mw_1371 : Cond.methodLink RL 46 yX12_feed ∈ hx_tbl := hx_tbl_of (hx_inT5 (i := 88) rfl) rfl
theorem mw_1372 : Cond.instanceMethod yX12_feed ∈ hx_tbl := hx_tbl_of (hx_inT5 (i := 89) rfl) rfl
theorem mw_1373 : Cond.selects RX12 yX12_feed yX12_feed ∈ hx_tbl := hx_tbl_of (hx_inT5 (i := 90) rfl) rfl
theorem mw_1374 : Cond.code yX12_feed cX12_feed 6 (some .int) ∈ hx_tbl := hx_tbl_of (hx_inT5 (i := 91) rfl) rfl
theorem mw_1375 : Cond.methodLink RX12 184 yX12_four ∈ hx_tbl := hx_tbl_of (hx_inT5 (i := 92) rfl) rfl
theorem mw_1377 : Cond.instanceMethod yX12_four ∈ hx_tbl := hx_tbl_of (hx_inT5 (i := 94) rfl) rfl
theorem mw_1378 : Cond.code yX12_four cX12_four 3 (none) ∈ hx_tbl := hx_tbl_of (hx_inT5 (i := 95) rfl) rfl
theorem mw_1379 : Cond.methodLink RL 51 yX12_law ∈ hx_tbl := hx_tbl_of (hx_inT5 (i := 96) rfl) rfl
theorem mw_1380 : Cond.instanceMethod yX12_law ∈ hx_tbl := hx_tbl_of (hx_inT5 (i := 97) rfl) rfl
theorem mw_1381 : Cond.selects RX12 yX12_law yX12_law ∈ hx_tbl := hx_tbl_of (hx_inT5 (i := 98) rfl) rfl
theorem mw_1382 : Cond.code yX12_law cX12_law 4 (some .int) ∈ hx_tbl := hx_tbl_of (hx_inT5 (i := 99) rfl) rfl
theorem mw_1383 : Cond.methodLink RX12 194 yX12_blanks ∈ hx_tbl := hx_tbl_of (hx_inT5 (i := 100) rfl) rfl
theorem mw_1385 : Cond.instanceMethod yX12_blanks ∈ hx_tbl := hx_tbl_of (hx_inT5 (i := 102) rfl) rfl
theorem mw_1386 : Cond.code yX12_blanks cX12_blanks 1 (none) ∈ hx_tbl := hx_tbl_of (hx_inT5 (i := 103) rfl) rfl
theorem mw_1387 : Cond.methodLink RX12 296 yX12_rule ∈ hx_tbl := hx_tbl_of (hx_inT5 (i := 104) rfl) rfl
theorem mw_1389 : Cond.instanceMethod yX12_rule ∈ hx_tbl := hx_tbl_of (hx_inT5 (i := 106) rfl) rfl
theorem mw_1390 : Cond.code yX12_rule cX12_rule 2 (some .boolean) ∈ hx_tbl := hx_tbl_of (hx_inT5 (i := 107) rfl) rfl
theorem mw_1391 : Cond.constantLong RX12 282 (29807) ∈ hx_tbl := hx_tbl_of (hx_inT5 (i := 108) rfl) rfl
theorem mw_1392 : Cond.methodLink RX12 247 yX12_takes ∈ hx_tbl := hx_tbl_of (hx_inT5 (i := 109) rfl) rfl
theorem mw_1394 : Cond.instanceMethod yX12_takes ∈ hx_tbl := hx_tbl_of (hx_inT5 (i := 111) rfl) rfl
theorem mw_1395 : Cond.code yX12_takes cX12_takes 3 (some .boolean) ∈ hx_tbl := hx_tbl_of (hx_inT5 (i := 112) rfl) rfl
theorem mw_1396 : Cond.methodLink RX12 200 yX12_word ∈ hx_tbl := hx_tbl_of (hx_inT5 (i := 113) rfl) rfl
theorem mw_1398 : Cond.instanceMethod yX12_word ∈ hx_tbl := hx_tbl_of (hx_inT5 (i := 115) rfl) rfl
theorem mw_1399 : Cond.code yX12_word cX12_word 3 (some .long) ∈ hx_tbl := hx_tbl_of (hx_inT5 (i := 116) rfl) rfl
theorem mw_1400 : Cond.constantLong RX12 284 (1718775661) ∈ hx_tbl := hx_tbl_of (hx_inT5 (i := 117) rfl) rfl
theorem mw_1401 : Cond.constantLong RX12 286 (1937006969) ∈ hx_tbl := hx_tbl_of (hx_inT5 (i := 118) rfl) rfl
theorem mw_1402 : Cond.methodLink RX12 288 yX12_whomTold ∈ hx_tbl := hx_tbl_of (hx_inT5 (i := 119) rfl) rfl
theorem mw_1404 : Cond.instanceMethod yX12_whomTold ∈ hx_tbl := hx_tbl_of (hx_inT5 (i := 121) rfl) rfl
theorem mw_1405 : Cond.code yX12_whomTold cX12_whomTold 2 (some .boolean) ∈ hx_tbl := hx_tbl_of (hx_inT5 (i := 122) rfl) rfl
theorem mw_1406 : Cond.methodLink RX12 215 yX12_mean ∈ hx_tbl := hx_tbl_of (hx_inT5 (i := 123) rfl) rfl
theorem mw_1407 : Cond.static yX12_mean ∈ hx_tbl := hx_tbl_of (hx_inT5 (i := 124) rfl) rfl
theorem mw_1408 : Cond.code yX12_mean cX12_mean 2 (some .int) ∈ hx_tbl := hx_tbl_of (hx_inT5 (i := 125) rfl) rfl
theorem mw_1409 : Cond.constantLong RX12 207 (418263299685) ∈ hx_tbl := hx_tbl_of (hx_inT5 (i := 126) rfl) rfl
theorem mw_1410 : Cond.constantLong RX12 209 (422608400247) ∈ hx_tbl := hx_tbl_of (hx_inT5 (i := 127) rfl) rfl
theorem mw_1411 : Cond.constantLong RX12 211 (418430675813) ∈ hx_tbl := hx_tbl_of (hx_inT5 (i := 128) rfl) rfl
theorem mw_1412 : Cond.constantLong RX12 213 (6384748) ∈ hx_tbl := hx_tbl_of (hx_inT5 (i := 129) rfl) rfl
theorem mw_1413 : Cond.constantLong RX12 278 (448546567013) ∈ hx_tbl := hx_tbl_of (hx_inT5 (i := 130) rfl) rfl
theorem mw_1414 : Cond.constantLong RX12 280 (7302244) ∈ hx_tbl := hx_tbl_of (hx_inT5 (i := 131) rfl) rfl
theorem mw_1415 : Cond.methodLink RX12 274 yX12_takesNumber ∈ hx_tbl := hx_tbl_of (hx_inT5 (i := 132) rfl) rfl
theorem mw_1417 : Cond.instanceMethod yX12_takesNumber ∈ hx_tbl := hx_tbl_of (hx_inT5 (i := 134) rfl) rfl
theorem mw_1418 : Cond.code yX12_takesNumber cX12_takesNumber 4 (some .boolean) ∈ hx_tbl := hx_tbl_of (hx_inT5 (i := 135) rfl) rfl
theorem mw_1419 : Cond.constantLong RX12 291 (26982) ∈ hx_tbl := hx_tbl_of (hx_inT5 (i := 136) rfl) rfl
theorem mw_1420 : Cond.methodLink RX12 265 yX12_any ∈ hx_tbl := hx_tbl_of (hx_inT5 (i := 137) rfl) rfl
theorem mw_1422 : Cond.instanceMethod yX12_any ∈ hx_tbl := hx_tbl_of (hx_inT5 (i := 139) rfl) rfl
theorem mw_1423 : Cond.code yX12_any cX12_any 1 (some .boolean) ∈ hx_tbl := hx_tbl_of (hx_inT5 (i := 140) rfl) rfl
theorem mw_1424 : Cond.methodLink RX12 241 yX12_all ∈ hx_tbl := hx_tbl_of (hx_inT5 (i := 141) rfl) rfl
theorem mw_1426 : Cond.instanceMethod yX12_all ∈ hx_tbl := hx_tbl_of (hx_inT5 (i := 143) rfl) rfl
theorem mw_1427 : Cond.code yX12_all cX12_all 1 (some .boolean) ∈ hx_tbl := hx_tbl_of (hx_inT5 (i := 144) rfl) rfl
theorem mw_1428 : Cond.methodLink RX12 255 yX12_single ∈ hx_tbl := hx_tbl_of (hx_inT5 (i := 145) rfl) rfl
theorem mw_1430 : Cond.instanceMethod yX12_single ∈ hx_tbl := hx_tbl_of (hx_inT5 (i := 147) rfl) rfl
theorem mw_1431 : Cond.code yX12_single cX12_single 3 (some .boolean) ∈ hx_tbl := hx_tbl_of (hx_inT5 (i := 148) rfl) rfl
theorem mw_1432 : Cond.constantLong RX12 260 (7237492) ∈ hx_tbl := hx_tbl_of (hx_inT5 (i := 149) rfl) rfl
theorem mw_1433 : Cond.methodLink RX12 262 yX12_opens ∈ hx_tbl := hx_tbl_of (hx_inT5 (i := 150) rfl) rfl
theorem mw_1435 : Cond.instanceMethod yX12_opens ∈ hx_tbl := hx_tbl_of (hx_inT5 (i := 152) rfl) rfl
theorem mw_1436 : Cond.code yX12_opens cX12_opens 1 (some .boolean) ∈ hx_tbl := hx_tbl_of (hx_inT5 (i := 153) rfl) rfl
theorem mw_1437 : Cond.methodLink RX12 251 yX12_puts ∈ hx_tbl := hx_tbl_of (hx_inT5 (i := 154) rfl) rfl
theorem mw_1439 : Cond.instanceMethod yX12_puts ∈ hx_tbl := hx_tbl_of (hx_inT5 (i := 156) rfl) rfl
theorem mw_1440 : Cond.code yX12_puts cX12_puts 4 (none) ∈ hx_tbl := hx_tbl_of (hx_inT5 (i := 157) rfl) rfl
theorem mw_1441 : Cond.methodLink RX12 268 yX12_takesSign ∈ hx_tbl := hx_tbl_of (hx_inT5 (i := 158) rfl) rfl
theorem mw_1443 : Cond.instanceMethod yX12_takesSign ∈ hx_tbl := hx_tbl_of (hx_inT5 (i := 160) rfl) rfl
theorem mw_1444 : Cond.code yX12_takesSign cX12_takesSign 2 (some .boolean) ∈ hx_tbl := hx_tbl_of (hx_inT5 (i := 161) rfl) rfl
theorem mw_1445 : Cond.methodLink RX12 271 yX12_askedBy ∈ hx_tbl := hx_tbl_of (hx_inT5 (i := 162) rfl) rfl
theorem mw_1446 : Cond.static yX12_askedBy ∈ hx_tbl := hx_tbl_of (hx_inT5 (i := 163) rfl) rfl
theorem mw_1447 : Cond.code yX12_askedBy cX12_askedBy 3 (some .int) ∈ hx_tbl := hx_tbl_of (hx_inT5 (i := 164) rfl) rfl
theorem mw_1448 : Cond.constantLong RX12 219 (126879263846254) ∈ hx_tbl := hx_tbl_of (hx_inT5 (i := 165) rfl) rfl
theorem mw_1449 : Cond.constantLong RX12 221 (119182899770472) ∈ hx_tbl := hx_tbl_of (hx_inT5 (i := 166) rfl) rfl
theorem mw_1450 : Cond.constantLong RX12 223 (483006772069) ∈ hx_tbl := hx_tbl_of (hx_inT5 (i := 167) rfl) rfl
theorem mw_1451 : Cond.constantLong RX12 225 (1668245870) ∈ hx_tbl := hx_tbl_of (hx_inT5 (i := 168) rfl) rfl
theorem mw_1452 : Cond.constantLong RX12 227 (1918987883) ∈ hx_tbl := hx_tbl_of (hx_inT5 (i := 169) rfl) rfl
theorem mw_1453 : Cond.constantLong RX12 229 (470020941177) ∈ hx_tbl := hx_tbl_of (hx_inT5 (i := 170) rfl) rfl
theorem mw_1454 : Cond.constantLong RX12 231 (109299962372965) ∈ hx_tbl := hx_tbl_of (hx_inT5 (i := 171) rfl) rfl
theorem mw_1455 : Cond.constantLong RX12 233 (2003792494) ∈ hx_tbl := hx_tbl_of (hx_inT5 (i := 172) rfl) rfl
theorem mw_1456 : Cond.constantLong RX12 258 (6385252) ∈ hx_tbl := hx_tbl_of (hx_inT5 (i := 173) rfl) rfl
theorem mw_1457 : Cond.constantLong RX12 245 (28530) ∈ hx_tbl := hx_tbl_of (hx_inT5 (i := 174) rfl) rfl
theorem mw_1458 : Cond.methodLink RL 55 yX12_force ∈ hx_tbl := hx_tbl_of (hx_inT5 (i := 175) rfl) rfl
theorem mw_1459 : Cond.instanceMethod yX12_force ∈ hx_tbl := hx_tbl_of (hx_inT5 (i := 176) rfl) rfl
theorem mw_1460 : Cond.selects RX12 yX12_force yX12_force ∈ hx_tbl := hx_tbl_of (hx_inT5 (i := 177) rfl) rfl
theorem mw_1461 : Cond.code yX12_force cX12_force 2 (some .boolean) ∈ hx_tbl := hx_tbl_of (hx_inT5 (i := 178) rfl) rfl
theorem mw_1462 : Cond.methodLink RL 60 yX12_fault ∈ hx_tbl := hx_tbl_of (hx_inT5 (i := 179) rfl) rfl
theorem mw_1463 : Cond.instanceMethod yX12_fault ∈ hx_tbl := hx_tbl_of (hx_inT5 (i := 180) rfl) rfl
theorem mw_1464 : Cond.selects RX12 yX12_fault yX12_fault ∈ hx_tbl := hx_tbl_of (hx_inT5 (i := 181) rfl) rfl
theorem mw_1465 : Cond.code yX12_fault cX12_fault 1 (some .int) ∈ hx_tbl := hx_tbl_of (hx_inT5 (i := 182) rfl) rfl
theorem mw_1466 : Cond.methodLink RL 64 yX12_run ∈ hx_tbl := hx_tbl_of (hx_inT5 (i := 183) rfl) rfl
theorem mw_1467 : Cond.instanceMethod yX12_run ∈ hx_tbl := hx_tbl_of (hx_inT5 (i := 184) rfl) rfl
theorem mw_1468 : Cond.selects RX12 yX12_run yX12_run ∈ hx_tbl := hx_tbl_of (hx_inT5 (i := 185) rfl) rfl
theorem mw_1469 : Cond.code yX12_run cX12_run 3 (some .int) ∈ hx_tbl := hx_tbl_of (hx_inT5 (i := 186) rfl) rfl
theorem mw_1470 : Cond.methodLink RX12 359 yX12_step ∈ hx_tbl := hx_tbl_of (hx_inT5 (i := 187) rfl) rfl
theorem mw_1472 : Cond.instanceMethod yX12_step ∈ hx_tbl := hx_tbl_of (hx_inT5 (i := 189) rfl) rfl
theorem mw_1473 : Cond.code yX12_step cX12_step 2 (none) ∈ hx_tbl := hx_tbl_of (hx_inT5 (i := 190) rfl) rfl
theorem mw_1474 : Cond.methodLink RX12 353 yX12_begins ∈ hx_tbl := hx_tbl_of (hx_inT5 (i := 191) rfl) rfl
theorem mw_1476 : Cond.instanceMethod yX12_begins ∈ hx_tbl := hx_tbl_of (hx_inT5 (i := 193) rfl) rfl
theorem mw_1477 : Cond.code yX12_begins cX12_begins 2 (none) ∈ hx_tbl := hx_tbl_of (hx_inT5 (i := 194) rfl) rfl
theorem mw_1478 : Cond.methodLink RX12 356 yX12_goes ∈ hx_tbl := hx_tbl_of (hx_inT5 (i := 195) rfl) rfl
theorem mw_1480 : Cond.instanceMethod yX12_goes ∈ hx_tbl := hx_tbl_of (hx_inT5 (i := 197) rfl) rfl
theorem mw_1481 : Cond.code yX12_goes cX12_goes 9 (none) ∈ hx_tbl := hx_tbl_of (hx_inT5 (i := 198) rfl) rfl
theorem mw_1482 : Cond.constantLong RX12 340 (6364136223846793005) ∈ hx_tbl := hx_tbl_of (hx_inT5 (i := 199) rfl) rfl
theorem mw_1483 : Cond.constantLong RX12 342 (1442695040888963407) ∈ hx_tbl := hx_tbl_of (hx_inT5 (i := 200) rfl) rfl
theorem mw_1484 : Cond.constantLong RX12 344 (100) ∈ hx_tbl := hx_tbl_of (hx_inT5 (i := 201) rfl) rfl
theorem mw_1485 : Cond.methodLink RX12 334 yJ9_min_7cf53 ∈ hx_tbl := hx_tbl_of (hx_inT5 (i := 202) rfl) rfl
theorem mw_1486 : Cond.methodLink RX12 302 yX12_lengthAt ∈ hx_tbl := hx_tbl_of (hx_inT5 (i := 203) rfl) rfl
theorem mw_1488 : Cond.instanceMethod yX12_lengthAt ∈ hx_tbl := hx_tbl_of (hx_inT5 (i := 205) rfl) rfl
theorem mw_1489 : Cond.code yX12_lengthAt cX12_lengthAt 3 (some .int) ∈ hx_tbl := hx_tbl_of (hx_inT5 (i := 206) rfl) rfl
theorem mw_1490 : Cond.methodLink RX12 346 yX12_wants ∈ hx_tbl := hx_tbl_of (hx_inT5 (i := 207) rfl) rfl
theorem mw_1492 : Cond.instanceMethod yX12_wants ∈ hx_tbl := hx_tbl_of (hx_inT5 (i := 209) rfl) rfl
theorem mw_1493 : Cond.code yX12_wants cX12_wants 10 (some .int) ∈ hx_tbl := hx_tbl_of (hx_inT5 (i := 210) rfl) rfl
theorem mw_1494 : Cond.methodLink RX12 313 yX12_meanOf ∈ hx_tbl := hx_tbl_of (hx_inT5 (i := 211) rfl) rfl
theorem mw_1496 : Cond.instanceMethod yX12_meanOf ∈ hx_tbl := hx_tbl_of (hx_inT5 (i := 213) rfl) rfl
theorem mw_1497 : Cond.code yX12_meanOf cX12_meanOf 7 (some .int) ∈ hx_tbl := hx_tbl_of (hx_inT5 (i := 214) rfl) rfl
theorem mw_1498 : Cond.methodLink RX12 299 yX12_has ∈ hx_tbl := hx_tbl_of (hx_inT5 (i := 215) rfl) rfl
theorem mw_1499 : Cond.static yX12_has ∈ hx_tbl := hx_tbl_of (hx_inT5 (i := 216) rfl) rfl
theorem mw_1500 : Cond.code yX12_has cX12_has 2 (some .boolean) ∈ hx_tbl := hx_tbl_of (hx_inT5 (i := 217) rfl) rfl
theorem mw_1501 : Cond.methodLink RX12 317 yX12_moneyAt ∈ hx_tbl := hx_tbl_of (hx_inT5 (i := 218) rfl) rfl
theorem mw_1503 : Cond.instanceMethod yX12_moneyAt ∈ hx_tbl := hx_tbl_of (hx_inT5 (i := 220) rfl) rfl
theorem mw_1504 : Cond.code yX12_moneyAt cX12_moneyAt 2 (some .int) ∈ hx_tbl := hx_tbl_of (hx_inT5 (i := 221) rfl) rfl
theorem mw_1505 : Cond.methodLink RX12 320 yJ9_max_7cf53 ∈ hx_tbl := hx_tbl_of (hx_inT5 (i := 222) rfl) rfl
theorem mw_1506 : Cond.methodLink RX12 328 yX12_isTrue ∈ hx_tbl := hx_tbl_of (hx_inT5 (i := 223) rfl) rfl
theorem mw_1508 : Cond.instanceMethod yX12_isTrue ∈ hx_tbl := hx_tbl_of (hx_inT5 (i := 225) rfl) rfl
theorem mw_1509 : Cond.code yX12_isTrue cX12_isTrue 6 (some .boolean) ∈ hx_tbl := hx_tbl_of (hx_inT5 (i := 226) rfl) rfl
theorem mw_1510 : Cond.methodLink RX12 331 yX12_meanBy ∈ hx_tbl := hx_tbl_of (hx_inT5 (i := 227) rfl) rfl
theorem mw_1512 : Cond.instanceMethod yX12_meanBy ∈ hx_tbl := hx_tbl_of (hx_inT5 (i := 229) rfl) rfl
theorem mw_1513 : Cond.code yX12_meanBy cX12_meanBy 3 (some .int) ∈ hx_tbl := hx_tbl_of (hx_inT5 (i := 230) rfl) rfl
theorem mw_1514 : Cond.methodLink RX12 306 yX12_houseAt ∈ hx_tbl := hx_tbl_of (hx_inT5 (i := 231) rfl) rfl
theorem mw_1516 : Cond.instanceMethod yX12_houseAt ∈ hx_tbl := hx_tbl_of (hx_inT5 (i := 233) rfl) rfl
theorem mw_1517 : Cond.code yX12_houseAt cX12_houseAt 3 (some .int) ∈ hx_tbl := hx_tbl_of (hx_inT5 (i := 234) rfl) rfl
theorem mw_1518 : Cond.methodLink RX12 309 yX12_meanOfAll ∈ hx_tbl := hx_tbl_of (hx_inT5 (i := 235) rfl) rfl
theorem mw_1520 : Cond.instanceMethod yX12_meanOfAll ∈ hx_tbl := hx_tbl_of (hx_inT5 (i := 237) rfl) rfl
theorem mw_1521 : Cond.code yX12_meanOfAll cX12_meanOfAll 4 (some .int) ∈ hx_tbl := hx_tbl_of (hx_inT5 (i := 238) rfl) rfl
theorem mw_1522 : Cond.methodLink RX12 337 yJ9_abs_0f7a4 ∈ hx_tbl := hx_tbl_of (hx_inT5 (i := 239) rfl) rfl
theorem mw_1523 : Cond.methodLink RX12 350 yX12_counts ∈ hx_tbl := hx_tbl_of (hx_inT6 (i := 0) rfl) rfl
theorem mw_1525 : Cond.instanceMethod yX12_counts ∈ hx_tbl := hx_tbl_of (hx_inT6 (i := 2) rfl) rfl
theorem mw_1526 : Cond.code yX12_counts cX12_counts 3 (none) ∈ hx_tbl := hx_tbl_of (hx_inT6 (i := 3) rfl) rfl
theorem mw_1527 : Cond.methodLink RL 68 yX12_line ∈ hx_tbl := hx_tbl_of (hx_inT6 (i := 4) rfl) rfl
theorem mw_1528 : Cond.instanceMethod yX12_line ∈ hx_tbl := hx_tbl_of (hx_inT6 (i := 5) rfl) rfl
theorem mw_1529 : Cond.selects RX12 yX12_line yX12_line ∈ hx_tbl := hx_tbl_of (hx_inT6 (i := 6) rfl) rfl
theorem mw_1530 : Cond.code yX12_line cX12_line 2 (some .int) ∈ hx_tbl := hx_tbl_of (hx_inT6 (i := 7) rfl) rfl
theorem mw_1531 : Cond.methodLink RX12 362 yX12_isSeason ∈ hx_tbl := hx_tbl_of (hx_inT6 (i := 8) rfl) rfl
theorem mw_1533 : Cond.instanceMethod yX12_isSeason ∈ hx_tbl := hx_tbl_of (hx_inT6 (i := 10) rfl) rfl
theorem mw_1534 : Cond.code yX12_isSeason cX12_isSeason 2 (some .boolean) ∈ hx_tbl := hx_tbl_of (hx_inT6 (i := 11) rfl) rfl
theorem mw_1535 : Cond.methodLink RX12 365 yX12_lineAt ∈ hx_tbl := hx_tbl_of (hx_inT6 (i := 12) rfl) rfl
theorem mw_1537 : Cond.instanceMethod yX12_lineAt ∈ hx_tbl := hx_tbl_of (hx_inT6 (i := 14) rfl) rfl
theorem mw_1538 : Cond.code yX12_lineAt cX12_lineAt 4 (some .int) ∈ hx_tbl := hx_tbl_of (hx_inT6 (i := 15) rfl) rfl
theorem mw_1539 : Cond.methodLink RL 73 yX12_length ∈ hx_tbl := hx_tbl_of (hx_inT6 (i := 16) rfl) rfl
theorem mw_1540 : Cond.instanceMethod yX12_length ∈ hx_tbl := hx_tbl_of (hx_inT6 (i := 17) rfl) rfl
theorem mw_1541 : Cond.selects RX12 yX12_length yX12_length ∈ hx_tbl := hx_tbl_of (hx_inT6 (i := 18) rfl) rfl
theorem mw_1542 : Cond.code yX12_length cX12_length 3 (some .int) ∈ hx_tbl := hx_tbl_of (hx_inT6 (i := 19) rfl) rfl
theorem mw_1543 : Cond.methodLink RL 77 yX12_wears ∈ hx_tbl := hx_tbl_of (hx_inT6 (i := 20) rfl) rfl
theorem mw_1544 : Cond.instanceMethod yX12_wears ∈ hx_tbl := hx_tbl_of (hx_inT6 (i := 21) rfl) rfl
theorem mw_1545 : Cond.selects RX12 yX12_wears yX12_wears ∈ hx_tbl := hx_tbl_of (hx_inT6 (i := 22) rfl) rfl
theorem mw_1546 : Cond.code yX12_wears cX12_wears 3 (some .int) ∈ hx_tbl := hx_tbl_of (hx_inT6 (i := 23) rfl) rfl
theorem mw_1547 : Cond.methodLink RX12 368 yX12_wantsNow ∈ hx_tbl := hx_tbl_of (hx_inT6 (i := 24) rfl) rfl
theorem mw_1549 : Cond.instanceMethod yX12_wantsNow ∈ hx_tbl := hx_tbl_of (hx_inT6 (i := 26) rfl) rfl
theorem mw_1550 : Cond.code yX12_wantsNow cX12_wantsNow 2 (some .int) ∈ hx_tbl := hx_tbl_of (hx_inT6 (i := 27) rfl) rfl
theorem mw_1551 : Cond.methodLink RL 81 yX12_round ∈ hx_tbl := hx_tbl_of (hx_inT6 (i := 28) rfl) rfl
theorem mw_1552 : Cond.instanceMethod yX12_round ∈ hx_tbl := hx_tbl_of (hx_inT6 (i := 29) rfl) rfl
theorem mw_1553 : Cond.selects RX12 yX12_round yX12_round ∈ hx_tbl := hx_tbl_of (hx_inT6 (i := 30) rfl) rfl
theorem mw_1554 : Cond.code yX12_round cX12_round 3 (some .int) ∈ hx_tbl := hx_tbl_of (hx_inT6 (i := 31) rfl) rfl
theorem mw_1555 : Cond.methodLink RX12 389 yX12_mayTry ∈ hx_tbl := hx_tbl_of (hx_inT6 (i := 32) rfl) rfl
theorem mw_1557 : Cond.instanceMethod yX12_mayTry ∈ hx_tbl := hx_tbl_of (hx_inT6 (i := 34) rfl) rfl
theorem mw_1558 : Cond.code yX12_mayTry cX12_mayTry 1 (some .boolean) ∈ hx_tbl := hx_tbl_of (hx_inT6 (i := 35) rfl) rfl
theorem mw_1559 : Cond.methodLink RX12 392 yX12_tries ∈ hx_tbl := hx_tbl_of (hx_inT6 (i := 36) rfl) rfl
theorem mw_1561 : Cond.instanceMethod yX12_tries ∈ hx_tbl := hx_tbl_of (hx_inT6 (i := 38) rfl) rfl
theorem mw_1562 : Cond.code yX12_tries cX12_tries 9 (none) ∈ hx_tbl := hx_tbl_of (hx_inT6 (i := 39) rfl) rfl
theorem mw_1563 : Cond.methodLink RX12 374 yX12_keeps ∈ hx_tbl := hx_tbl_of (hx_inT6 (i := 40) rfl) rfl
theorem mw_1565 : Cond.instanceMethod yX12_keeps ∈ hx_tbl := hx_tbl_of (hx_inT6 (i := 42) rfl) rfl
theorem mw_1566 : Cond.code yX12_keeps cX12_keeps 2 (none) ∈ hx_tbl := hx_tbl_of (hx_inT6 (i := 43) rfl) rfl
theorem mw_1567 : Cond.methodLink RX12 383 yX12_isAlike ∈ hx_tbl := hx_tbl_of (hx_inT6 (i := 44) rfl) rfl
theorem mw_1569 : Cond.instanceMethod yX12_isAlike ∈ hx_tbl := hx_tbl_of (hx_inT6 (i := 46) rfl) rfl
theorem mw_1570 : Cond.code yX12_isAlike cX12_isAlike 5 (some .boolean) ∈ hx_tbl := hx_tbl_of (hx_inT6 (i := 47) rfl) rfl
theorem mw_1571 : Cond.methodLink RX12 386 yX12_takesBack ∈ hx_tbl := hx_tbl_of (hx_inT6 (i := 48) rfl) rfl
theorem mw_1573 : Cond.instanceMethod yX12_takesBack ∈ hx_tbl := hx_tbl_of (hx_inT6 (i := 50) rfl) rfl
theorem mw_1574 : Cond.code yX12_takesBack cX12_takesBack 2 (none) ∈ hx_tbl := hx_tbl_of (hx_inT6 (i := 51) rfl) rfl
theorem mw_1575 : Cond.methodLink RL 86 yX12_pushed ∈ hx_tbl := hx_tbl_of (hx_inT6 (i := 52) rfl) rfl
theorem mw_1576 : Cond.instanceMethod yX12_pushed ∈ hx_tbl := hx_tbl_of (hx_inT6 (i := 53) rfl) rfl
theorem mw_1577 : Cond.selects RX12 yX12_pushed yX12_pushed ∈ hx_tbl := hx_tbl_of (hx_inT6 (i := 54) rfl) rfl
theorem mw_1578 : Cond.code yX12_pushed cX12_pushed 5 (some .int) ∈ hx_tbl := hx_tbl_of (hx_inT6 (i := 55) rfl) rfl
theorem mw_1579 : Cond.methodLink RL 90 yX12_led ∈ hx_tbl := hx_tbl_of (hx_inT6 (i := 56) rfl) rfl
theorem mw_1580 : Cond.instanceMethod yX12_led ∈ hx_tbl := hx_tbl_of (hx_inT6 (i := 57) rfl) rfl
theorem mw_1581 : Cond.selects RX12 yX12_led yX12_led ∈ hx_tbl := hx_tbl_of (hx_inT6 (i := 58) rfl) rfl
theorem mw_1582 : Cond.code yX12_led cX12_led 9 (some .int) ∈ hx_tbl := hx_tbl_of (hx_inT6 (i := 59) rfl) rfl
theorem mw_1583 : Cond.methodLink RX12 396 yX12_one ∈ hx_tbl := hx_tbl_of (hx_inT6 (i := 60) rfl) rfl
theorem mw_1584 : Cond.static yX12_one ∈ hx_tbl := hx_tbl_of (hx_inT6 (i := 61) rfl) rfl
theorem mw_1585 : Cond.code yX12_one cX12_one 1 (some .int) ∈ hx_tbl := hx_tbl_of (hx_inT6 (i := 62) rfl) rfl
theorem mw_1586 : Cond.methodLink RL 94 yX12_alone ∈ hx_tbl := hx_tbl_of (hx_inT6 (i := 63) rfl) rfl
theorem mw_1587 : Cond.instanceMethod yX12_alone ∈ hx_tbl := hx_tbl_of (hx_inT6 (i := 64) rfl) rfl
theorem mw_1588 : Cond.selects RX12 yX12_alone yX12_alone ∈ hx_tbl := hx_tbl_of (hx_inT6 (i := 65) rfl) rfl
theorem mw_1589 : Cond.code yX12_alone cX12_alone 7 (some .int) ∈ hx_tbl := hx_tbl_of (hx_inT6 (i := 66) rfl) rfl
theorem mw_1590 : Cond.methodLink RX12 400 yX12_isAlone ∈ hx_tbl := hx_tbl_of (hx_inT6 (i := 67) rfl) rfl
theorem mw_1592 : Cond.instanceMethod yX12_isAlone ∈ hx_tbl := hx_tbl_of (hx_inT6 (i := 69) rfl) rfl
theorem mw_1593 : Cond.code yX12_isAlone cX12_isAlone 6 (some .boolean) ∈ hx_tbl := hx_tbl_of (hx_inT6 (i := 70) rfl) rfl
theorem mw_1594 : Cond.methodLink RX12 403 yX12_endsBy ∈ hx_tbl := hx_tbl_of (hx_inT6 (i := 71) rfl) rfl
theorem mw_1596 : Cond.instanceMethod yX12_endsBy ∈ hx_tbl := hx_tbl_of (hx_inT6 (i := 73) rfl) rfl
theorem mw_1597 : Cond.code yX12_endsBy cX12_endsBy 6 (some .int) ∈ hx_tbl := hx_tbl_of (hx_inT6 (i := 74) rfl) rfl
theorem mw_1598 : Cond.methodLink RL 98 yX12_like ∈ hx_tbl := hx_tbl_of (hx_inT6 (i := 75) rfl) rfl
theorem mw_1599 : Cond.instanceMethod yX12_like ∈ hx_tbl := hx_tbl_of (hx_inT6 (i := 76) rfl) rfl
theorem mw_1600 : Cond.selects RX12 yX12_like yX12_like ∈ hx_tbl := hx_tbl_of (hx_inT6 (i := 77) rfl) rfl
theorem mw_1601 : Cond.code yX12_like cX12_like 8 (some .int) ∈ hx_tbl := hx_tbl_of (hx_inT6 (i := 78) rfl) rfl
theorem mw_1602 : Cond.methodLink RL 102 yX12_street ∈ hx_tbl := hx_tbl_of (hx_inT6 (i := 79) rfl) rfl
theorem mw_1603 : Cond.instanceMethod yX12_street ∈ hx_tbl := hx_tbl_of (hx_inT6 (i := 80) rfl) rfl
theorem mw_1604 : Cond.selects RX12 yX12_street yX12_street ∈ hx_tbl := hx_tbl_of (hx_inT6 (i := 81) rfl) rfl
theorem mw_1605 : Cond.code yX12_street cX12_street 6 (some .int) ∈ hx_tbl := hx_tbl_of (hx_inT6 (i := 82) rfl) rfl
theorem mw_1606 : Cond.methodLink RX12 407 yX12_streets ∈ hx_tbl := hx_tbl_of (hx_inT6 (i := 83) rfl) rfl
theorem mw_1608 : Cond.instanceMethod yX12_streets ∈ hx_tbl := hx_tbl_of (hx_inT6 (i := 85) rfl) rfl
theorem mw_1609 : Cond.code yX12_streets cX12_streets 4 (none) ∈ hx_tbl := hx_tbl_of (hx_inT6 (i := 86) rfl) rfl
theorem mw_1610 : Cond.methodLink RL 106 yX12_followed ∈ hx_tbl := hx_tbl_of (hx_inT6 (i := 87) rfl) rfl
theorem mw_1611 : Cond.instanceMethod yX12_followed ∈ hx_tbl := hx_tbl_of (hx_inT6 (i := 88) rfl) rfl
theorem mw_1612 : Cond.selects RX12 yX12_followed yX12_followed ∈ hx_tbl := hx_tbl_of (hx_inT6 (i := 89) rfl) rfl
theorem mw_1613 : Cond.code yX12_followed cX12_followed 5 (some .int) ∈ hx_tbl := hx_tbl_of (hx_inT6 (i := 90) rfl) rfl
theorem mw_1614 : Cond.methodLink RX12 410 yX12_isFollowed ∈ hx_tbl := hx_tbl_of (hx_inT6 (i := 91) rfl) rfl
theorem mw_1616 : Cond.instanceMethod yX12_isFollowed ∈ hx_tbl := hx_tbl_of (hx_inT6 (i := 93) rfl) rfl
theorem mw_1617 : Cond.code yX12_isFollowed cX12_isFollowed 4 (some .boolean) ∈ hx_tbl := hx_tbl_of (hx_inT6 (i := 94) rfl) rfl
theorem mw_1618 : Cond.methodLink RL 111 yX12_luck ∈ hx_tbl := hx_tbl_of (hx_inT6 (i := 95) rfl) rfl
theorem mw_1619 : Cond.instanceMethod yX12_luck ∈ hx_tbl := hx_tbl_of (hx_inT6 (i := 96) rfl) rfl
theorem mw_1620 : Cond.selects RX12 yX12_luck yX12_luck ∈ hx_tbl := hx_tbl_of (hx_inT6 (i := 97) rfl) rfl
theorem mw_1621 : Cond.code yX12_luck cX12_luck 9 (some .long) ∈ hx_tbl := hx_tbl_of (hx_inT6 (i := 98) rfl) rfl
theorem mw_1622 : Cond.constantLong RX12 413 (-1) ∈ hx_tbl := hx_tbl_of (hx_inT6 (i := 99) rfl) rfl
theorem mw_1623 : Cond.methodLink RL 115 yX12_claim ∈ hx_tbl := hx_tbl_of (hx_inT6 (i := 100) rfl) rfl
theorem mw_1624 : Cond.instanceMethod yX12_claim ∈ hx_tbl := hx_tbl_of (hx_inT6 (i := 101) rfl) rfl
theorem mw_1625 : Cond.selects RX12 yX12_claim yX12_claim ∈ hx_tbl := hx_tbl_of (hx_inT6 (i := 102) rfl) rfl
theorem mw_1626 : Cond.code yX12_claim cX12_claim 3 (some .long) ∈ hx_tbl := hx_tbl_of (hx_inT6 (i := 103) rfl) rfl
theorem mw_1627 : Cond.methodLink RX12 421 yX12_claims ∈ hx_tbl := hx_tbl_of (hx_inT6 (i := 104) rfl) rfl
theorem mw_1629 : Cond.instanceMethod yX12_claims ∈ hx_tbl := hx_tbl_of (hx_inT6 (i := 106) rfl) rfl
theorem mw_1630 : Cond.code yX12_claims cX12_claims 5 (none) ∈ hx_tbl := hx_tbl_of (hx_inT6 (i := 107) rfl) rfl
theorem mw_1631 : Cond.methodLink RX12 424 yX12_atLeast ∈ hx_tbl := hx_tbl_of (hx_inT6 (i := 108) rfl) rfl
theorem mw_1633 : Cond.instanceMethod yX12_atLeast ∈ hx_tbl := hx_tbl_of (hx_inT6 (i := 110) rfl) rfl
theorem mw_1634 : Cond.code yX12_atLeast cX12_atLeast 6 (some .long) ∈ hx_tbl := hx_tbl_of (hx_inT6 (i := 111) rfl) rfl
theorem mw_1635 : Cond.methodLink RL 119 yX12_best ∈ hx_tbl := hx_tbl_of (hx_inT6 (i := 112) rfl) rfl
theorem mw_1636 : Cond.instanceMethod yX12_best ∈ hx_tbl := hx_tbl_of (hx_inT6 (i := 113) rfl) rfl
theorem mw_1637 : Cond.selects RX12 yX12_best yX12_best ∈ hx_tbl := hx_tbl_of (hx_inT6 (i := 114) rfl) rfl
theorem mw_1638 : Cond.code yX12_best cX12_best 7 (some .int) ∈ hx_tbl := hx_tbl_of (hx_inT6 (i := 115) rfl) rfl
theorem mw_1639 : Cond.methodLink RL 123 yX12_plate ∈ hx_tbl := hx_tbl_of (hx_inT6 (i := 116) rfl) rfl
theorem mw_1640 : Cond.instanceMethod yX12_plate ∈ hx_tbl := hx_tbl_of (hx_inT6 (i := 117) rfl) rfl
theorem mw_1641 : Cond.selects RX12 yX12_plate yX12_plate ∈ hx_tbl := hx_tbl_of (hx_inT6 (i := 118) rfl) rfl
theorem mw_1642 : Cond.code yX12_plate cX12_plate 4 (some .int) ∈ hx_tbl := hx_tbl_of (hx_inT6 (i := 119) rfl) rfl
theorem mw_1643 : Cond.methodLink RL 127 yX12_off ∈ hx_tbl := hx_tbl_of (hx_inT6 (i := 120) rfl) rfl
theorem mw_1644 : Cond.instanceMethod yX12_off ∈ hx_tbl := hx_tbl_of (hx_inT6 (i := 121) rfl) rfl
theorem mw_1645 : Cond.selects RX12 yX12_off yX12_off ∈ hx_tbl := hx_tbl_of (hx_inT6 (i := 122) rfl) rfl
theorem mw_1646 : Cond.code yX12_off cX12_off 5 (some .int) ∈ hx_tbl := hx_tbl_of (hx_inT6 (i := 123) rfl) rfl
theorem mw_1647 : Cond.methodLink RX12 431 yX12_isWithin ∈ hx_tbl := hx_tbl_of (hx_inT6 (i := 124) rfl) rfl
theorem mw_1649 : Cond.instanceMethod yX12_isWithin ∈ hx_tbl := hx_tbl_of (hx_inT6 (i := 126) rfl) rfl
theorem mw_1650 : Cond.code yX12_isWithin cX12_isWithin 6 (some .boolean) ∈ hx_tbl := hx_tbl_of (hx_inT6 (i := 127) rfl) rfl
theorem mw_1651 : Cond.methodLink RL 131 yX12_again ∈ hx_tbl := hx_tbl_of (hx_inT6 (i := 128) rfl) rfl
theorem mw_1652 : Cond.instanceMethod yX12_again ∈ hx_tbl := hx_tbl_of (hx_inT6 (i := 129) rfl) rfl
theorem mw_1653 : Cond.selects RX12 yX12_again yX12_again ∈ hx_tbl := hx_tbl_of (hx_inT6 (i := 130) rfl) rfl
theorem mw_1654 : Cond.code yX12_again cX12_again 8 (some .int) ∈ hx_tbl := hx_tbl_of (hx_inT6 (i := 131) rfl) rfl
theorem mw_1655 : Cond.methodLink RL 135 yX12_foretell ∈ hx_tbl := hx_tbl_of (hx_inT6 (i := 132) rfl) rfl
theorem mw_1656 : Cond.instanceMethod yX12_foretell ∈ hx_tbl := hx_tbl_of (hx_inT6 (i := 133) rfl) rfl
theorem mw_1657 : Cond.selects RX12 yX12_foretell yX12_foretell ∈ hx_tbl := hx_tbl_of (hx_inT6 (i := 134) rfl) rfl
theorem mw_1658 : Cond.code yX12_foretell cX12_foretell 3 (some .int) ∈ hx_tbl := hx_tbl_of (hx_inT6 (i := 135) rfl) rfl
theorem mw_1659 : Cond.methodLink RL 139 yX12_held ∈ hx_tbl := hx_tbl_of (hx_inT6 (i := 136) rfl) rfl
theorem mw_1660 : Cond.instanceMethod yX12_held ∈ hx_tbl := hx_tbl_of (hx_inT6 (i := 137) rfl) rfl
theorem mw_1661 : Cond.selects RX12 yX12_held yX12_held ∈ hx_tbl := hx_tbl_of (hx_inT6 (i := 138) rfl) rfl
theorem mw_1662 : Cond.code yX12_held cX12_held 3 (some .int) ∈ hx_tbl := hx_tbl_of (hx_inT6 (i := 139) rfl) rfl
theorem mw_1663 : Cond.methodLink RL 143 yX12_behind ∈ hx_tbl := hx_tbl_of (hx_inT6 (i := 140) rfl) rfl
theorem mw_1664 : Cond.instanceMethod yX12_behind ∈ hx_tbl := hx_tbl_of (hx_inT6 (i := 141) rfl) rfl
theorem mw_1665 : Cond.selects RX12 yX12_behind yX12_behind ∈ hx_tbl := hx_tbl_of (hx_inT6 (i := 142) rfl) rfl
theorem mw_1666 : Cond.code yX12_behind cX12_behind 5 (some .int) ∈ hx_tbl := hx_tbl_of (hx_inT6 (i := 143) rfl) rfl
theorem mw_1667 : Cond.methodLink RL 147 yX12_shop ∈ hx_tbl := hx_tbl_of (hx_inT6 (i := 144) rfl) rfl
theorem mw_1668 : Cond.instanceMethod yX12_shop ∈ hx_tbl := hx_tbl_of (hx_inT6 (i := 145) rfl) rfl
theorem mw_1669 : Cond.selects RX12 yX12_shop yX12_shop ∈ hx_tbl := hx_tbl_of (hx_inT6 (i := 146) rfl) rfl
theorem mw_1670 : Cond.code yX12_shop cX12_shop 8 (some .int) ∈ hx_tbl := hx_tbl_of (hx_inT6 (i := 147) rfl) rfl
theorem mw_1671 : Cond.methodLink RX12 441 yX12_shops ∈ hx_tbl := hx_tbl_of (hx_inT6 (i := 148) rfl) rfl
theorem mw_1673 : Cond.instanceMethod yX12_shops ∈ hx_tbl := hx_tbl_of (hx_inT6 (i := 150) rfl) rfl
theorem mw_1674 : Cond.code yX12_shops cX12_shops 6 (none) ∈ hx_tbl := hx_tbl_of (hx_inT6 (i := 151) rfl) rfl
theorem mw_1675 : Cond.methodLink RX12 437 yX12_between ∈ hx_tbl := hx_tbl_of (hx_inT6 (i := 152) rfl) rfl
theorem mw_1677 : Cond.instanceMethod yX12_between ∈ hx_tbl := hx_tbl_of (hx_inT6 (i := 154) rfl) rfl
theorem mw_1678 : Cond.code yX12_between cX12_between 6 (some .int) ∈ hx_tbl := hx_tbl_of (hx_inT6 (i := 155) rfl) rfl
theorem mw_1679 : Cond.constant RX12 440 (1000000) ∈ hx_tbl := hx_tbl_of (hx_inT6 (i := 156) rfl) rfl
theorem mw_1680 : Cond.methodLink RL 151 yX12_read ∈ hx_tbl := hx_tbl_of (hx_inT6 (i := 157) rfl) rfl
theorem mw_1681 : Cond.instanceMethod yX12_read ∈ hx_tbl := hx_tbl_of (hx_inT6 (i := 158) rfl) rfl
theorem mw_1682 : Cond.selects RX12 yX12_read yX12_read ∈ hx_tbl := hx_tbl_of (hx_inT6 (i := 159) rfl) rfl
theorem mw_1683 : Cond.code yX12_read cX12_read 6 (some .int) ∈ hx_tbl := hx_tbl_of (hx_inT6 (i := 160) rfl) rfl
theorem mw_1684 : Cond.methodLink RX12 444 yX12_readBy ∈ hx_tbl := hx_tbl_of (hx_inT6 (i := 161) rfl) rfl
theorem mw_1686 : Cond.instanceMethod yX12_readBy ∈ hx_tbl := hx_tbl_of (hx_inT6 (i := 163) rfl) rfl
theorem mw_1687 : Cond.code yX12_readBy cX12_readBy 6 (some .int) ∈ hx_tbl := hx_tbl_of (hx_inT6 (i := 164) rfl) rfl
theorem mw_1688 : Cond.methodLink RL 155 yX12_image ∈ hx_tbl := hx_tbl_of (hx_inT6 (i := 165) rfl) rfl
theorem mw_1689 : Cond.instanceMethod yX12_image ∈ hx_tbl := hx_tbl_of (hx_inT6 (i := 166) rfl) rfl
theorem mw_1690 : Cond.selects RX12 yX12_image yX12_image ∈ hx_tbl := hx_tbl_of (hx_inT6 (i := 167) rfl) rfl
theorem mw_1691 : Cond.code yX12_image cX12_image 1 (some .int) ∈ hx_tbl := hx_tbl_of (hx_inT6 (i := 168) rfl) rfl
theorem mw_1692 : Cond.methodLink RX12 453 yX12_lays ∈ hx_tbl := hx_tbl_of (hx_inT6 (i := 169) rfl) rfl
theorem mw_1694 : Cond.instanceMethod yX12_lays ∈ hx_tbl := hx_tbl_of (hx_inT6 (i := 171) rfl) rfl
theorem mw_1695 : Cond.code yX12_lays cX12_lays 4 (none) ∈ hx_tbl := hx_tbl_of (hx_inT6 (i := 172) rfl) rfl
theorem mw_1696 : Cond.methodLink RL 159 yX12_back ∈ hx_tbl := hx_tbl_of (hx_inT6 (i := 173) rfl) rfl
theorem mw_1697 : Cond.instanceMethod yX12_back ∈ hx_tbl := hx_tbl_of (hx_inT6 (i := 174) rfl) rfl
theorem mw_1698 : Cond.selects RX12 yX12_back yX12_back ∈ hx_tbl := hx_tbl_of (hx_inT6 (i := 175) rfl) rfl
theorem mw_1699 : Cond.code yX12_back cX12_back 2 (some .boolean) ∈ hx_tbl := hx_tbl_of (hx_inT6 (i := 176) rfl) rfl
theorem mw_1700 : Cond.methodLink RX12 457 yX12_fetches ∈ hx_tbl := hx_tbl_of (hx_inT6 (i := 177) rfl) rfl
theorem mw_1702 : Cond.instanceMethod yX12_fetches ∈ hx_tbl := hx_tbl_of (hx_inT6 (i := 179) rfl) rfl
theorem mw_1703 : Cond.code yX12_fetches cX12_fetches 4 (none) ∈ hx_tbl := hx_tbl_of (hx_inT6 (i := 180) rfl) rfl
theorem mw_1704 : Cond.methodLink RL 163 yX12_count ∈ hx_tbl := hx_tbl_of (hx_inT6 (i := 181) rfl) rfl
theorem mw_1705 : Cond.instanceMethod yX12_count ∈ hx_tbl := hx_tbl_of (hx_inT6 (i := 182) rfl) rfl
theorem mw_1706 : Cond.selects RX12 yX12_count yX12_count ∈ hx_tbl := hx_tbl_of (hx_inT6 (i := 183) rfl) rfl
theorem mw_1707 : Cond.code yX12_count cX12_count 2 (some .int) ∈ hx_tbl := hx_tbl_of (hx_inT6 (i := 184) rfl) rfl
theorem mw_1708 : Cond.fieldLink RJ0 15 "java/lang/String" "coder" "B" ∈ hx_tbl := hx_tbl_of (hx_inT6 (i := 185) rfl) rfl
theorem mw_1709 : Cond.fieldLink RJ0 9 "java/lang/String" "value" "[B" ∈ hx_tbl := hx_tbl_of (hx_inT6 (i := 186) rfl) rfl
theorem lyX0_0 : u_lay RX0 TX0 0 ∈ hx_tbl := hx_tbl_of (hx_inT1 (i := 28) rfl) rfl
theorem inX0 : ∀ w ∈ u_ws RX0 TX0 1, w ∈ hx_tbl := by
  intro w hw
  obtain ⟨k, hk, rfl⟩ := List.mem_map.mp hw
  have hk := List.mem_range.mp hk
  match k, hk with
  | 0, _ => exact lyX0_0
  | k + 1, hk => exact absurd hk (by omega)
theorem lyX1_0 : u_lay RX1 TX1 0 ∈ hx_tbl := hx_tbl_of (hx_inT2 (i := 61) rfl) rfl
theorem lyX1_1 : u_lay RX1 TX1 1 ∈ hx_tbl := hx_tbl_of (hx_inT2 (i := 63) rfl) rfl
theorem inX1 : ∀ w ∈ u_ws RX1 TX1 2, w ∈ hx_tbl := by
  intro w hw
  obtain ⟨k, hk, rfl⟩ := List.mem_map.mp hw
  have hk := List.mem_range.mp hk
  match k, hk with
  | 0, _ => exact lyX1_0
  | 1, _ => exact lyX1_1
  | k + 2, hk => exact absurd hk (by omega)
theorem lyX10_0 : u_lay RX10 TX10 0 ∈ hx_tbl := hx_tbl_of (hx_inT0 (i := 221) rfl) rfl
theorem lyX10_1 : u_lay RX10 TX10 1 ∈ hx_tbl := hx_tbl_of (hx_inT0 (i := 223) rfl) rfl
theorem lyX10_2 : u_lay RX10 TX10 2 ∈ hx_tbl := hx_tbl_of (hx_inT0 (i := 225) rfl) rfl
theorem lyX10_3 : u_lay RX10 TX10 3 ∈ hx_tbl := hx_tbl_of (hx_inT0 (i := 227) rfl) rfl
theorem lyX10_4 : u_lay RX10 TX10 4 ∈ hx_tbl := hx_tbl_of (hx_inT0 (i := 229) rfl) rfl
theorem lyX10_5 : u_lay RX10 TX10 5 ∈ hx_tbl := hx_tbl_of (hx_inT0 (i := 231) rfl) rfl
theorem lyX10_6 : u_lay RX10 TX10 6 ∈ hx_tbl := hx_tbl_of (hx_inT0 (i := 233) rfl) rfl
theorem lyX10_7 : u_lay RX10 TX10 7 ∈ hx_tbl := hx_tbl_of (hx_inT0 (i := 235) rfl) rfl
theorem lyX10_8 : u_lay RX10 TX10 8 ∈ hx_tbl := hx_tbl_of (hx_inT0 (i := 237) rfl) rfl
theorem lyX10_9 : u_lay RX10 TX10 9 ∈ hx_tbl := hx_tbl_of (hx_inT0 (i := 239) rfl) rfl
theorem lyX10_10 : u_lay RX10 TX10 10 ∈ hx_tbl := hx_tbl_of (hx_inT1 (i := 1) rfl) rfl
theorem lyX10_11 : u_lay RX10 TX10 11 ∈ hx_tbl := hx_tbl_of (hx_inT1 (i := 3) rfl) rfl
theorem inX10 : ∀ w ∈ u_ws RX10 TX10 12, w ∈ hx_tbl := by
  intro w hw
  obtain ⟨k, hk, rfl⟩ := List.mem_map.mp hw
  have hk := List.mem_range.mp hk
  match k, hk with
  | 0, _ => exact lyX10_0
  | 1, _ => exact lyX10_1
  | 2, _ => exact lyX10_2
  | 3, _ => exact lyX10_3
  | 4, _ => exact lyX10_4
  | 5, _ => exact lyX10_5
  | 6, _ => exact lyX10_6
  | 7, _ => exact lyX10_7
  | 8, _ => exact lyX10_8
  | 9, _ => exact lyX10_9
  | 10, _ => exact lyX10_10
  | 11, _ => exact lyX10_11
  | k + 12, hk => exact absurd hk (by omega)
theorem lyX11_0 : u_lay RX11 TX11 0 ∈ hx_tbl := hx_tbl_of (hx_inT1 (i := 119) rfl) rfl
theorem lyX11_1 : u_lay RX11 TX11 1 ∈ hx_tbl := hx_tbl_of (hx_inT1 (i := 121) rfl) rfl
theorem lyX11_2 : u_lay RX11 TX11 2 ∈ hx_tbl := hx_tbl_of (hx_inT1 (i := 123) rfl) rfl
theorem lyX11_3 : u_lay RX11 TX11 3 ∈ hx_tbl := hx_tbl_of (hx_inT1 (i := 125) rfl) rfl
theorem lyX11_4 : u_lay RX11 TX11 4 ∈ hx_tbl := hx_tbl_of (hx_inT1 (i := 127) rfl) rfl
theorem lyX11_5 : u_lay RX11 TX11 5 ∈ hx_tbl := hx_tbl_of (hx_inT1 (i := 129) rfl) rfl
theorem lyX11_6 : u_lay RX11 TX11 6 ∈ hx_tbl := hx_tbl_of (hx_inT1 (i := 131) rfl) rfl
theorem lyX11_7 : u_lay RX11 TX11 7 ∈ hx_tbl := hx_tbl_of (hx_inT1 (i := 133) rfl) rfl
theorem lyX11_8 : u_lay RX11 TX11 8 ∈ hx_tbl := hx_tbl_of (hx_inT1 (i := 135) rfl) rfl
theorem lyX11_9 : u_lay RX11 TX11 9 ∈ hx_tbl := hx_tbl_of (hx_inT1 (i := 137) rfl) rfl
theorem lyX11_10 : u_lay RX11 TX11 10 ∈ hx_tbl := hx_tbl_of (hx_inT1 (i := 139) rfl) rfl
theorem lyX11_11 : u_lay RX11 TX11 11 ∈ hx_tbl := hx_tbl_of (hx_inT1 (i := 141) rfl) rfl
theorem lyX11_12 : u_lay RX11 TX11 12 ∈ hx_tbl := hx_tbl_of (hx_inT1 (i := 143) rfl) rfl
theorem lyX11_13 : u_lay RX11 TX11 13 ∈ hx_tbl := hx_tbl_of (hx_inT1 (i := 145) rfl) rfl
theorem lyX11_14 : u_lay RX11 TX11 14 ∈ hx_tbl := hx_tbl_of (hx_inT1 (i := 147) rfl) rfl
theorem inX11 : ∀ w ∈ u_ws RX11 TX11 15, w ∈ hx_tbl := by
  intro w hw
  obtain ⟨k, hk, rfl⟩ := List.mem_map.mp hw
  have hk := List.mem_range.mp hk
  match k, hk with
  | 0, _ => exact lyX11_0
  | 1, _ => exact lyX11_1
  | 2, _ => exact lyX11_2
  | 3, _ => exact lyX11_3
  | 4, _ => exact lyX11_4
  | 5, _ => exact lyX11_5
  | 6, _ => exact lyX11_6
  | 7, _ => exact lyX11_7
  | 8, _ => exact lyX11_8
  | 9, _ => exact lyX11_9
  | 10, _ => exact lyX11_10
  | 11, _ => exact lyX11_11
  | 12, _ => exact lyX11_12
  | 13, _ => exact lyX11_13
  | 14, _ => exact lyX11_14
  | k + 15, hk => exact absurd hk (by omega)
theorem lyX12_0 : u_lay RX12 TX12 0 ∈ hx_tbl := hx_tbl_of (hx_inT4 (i := 154) rfl) rfl
theorem lyX12_1 : u_lay RX12 TX12 1 ∈ hx_tbl := hx_tbl_of (hx_inT4 (i := 156) rfl) rfl
theorem lyX12_2 : u_lay RX12 TX12 2 ∈ hx_tbl := hx_tbl_of (hx_inT4 (i := 158) rfl) rfl
theorem lyX12_3 : u_lay RX12 TX12 3 ∈ hx_tbl := hx_tbl_of (hx_inT4 (i := 160) rfl) rfl
theorem lyX12_4 : u_lay RX12 TX12 4 ∈ hx_tbl := hx_tbl_of (hx_inT4 (i := 162) rfl) rfl
theorem lyX12_5 : u_lay RX12 TX12 5 ∈ hx_tbl := hx_tbl_of (hx_inT4 (i := 164) rfl) rfl
theorem lyX12_6 : u_lay RX12 TX12 6 ∈ hx_tbl := hx_tbl_of (hx_inT4 (i := 166) rfl) rfl
theorem lyX12_7 : u_lay RX12 TX12 7 ∈ hx_tbl := hx_tbl_of (hx_inT4 (i := 168) rfl) rfl
theorem lyX12_8 : u_lay RX12 TX12 8 ∈ hx_tbl := hx_tbl_of (hx_inT4 (i := 170) rfl) rfl
theorem lyX12_9 : u_lay RX12 TX12 9 ∈ hx_tbl := hx_tbl_of (hx_inT4 (i := 172) rfl) rfl
theorem lyX12_10 : u_lay RX12 TX12 10 ∈ hx_tbl := hx_tbl_of (hx_inT4 (i := 174) rfl) rfl
theorem lyX12_11 : u_lay RX12 TX12 11 ∈ hx_tbl := hx_tbl_of (hx_inT4 (i := 176) rfl) rfl
theorem lyX12_12 : u_lay RX12 TX12 12 ∈ hx_tbl := hx_tbl_of (hx_inT4 (i := 178) rfl) rfl
theorem lyX12_13 : u_lay RX12 TX12 13 ∈ hx_tbl := hx_tbl_of (hx_inT4 (i := 180) rfl) rfl
theorem lyX12_14 : u_lay RX12 TX12 14 ∈ hx_tbl := hx_tbl_of (hx_inT4 (i := 182) rfl) rfl
theorem lyX12_15 : u_lay RX12 TX12 15 ∈ hx_tbl := hx_tbl_of (hx_inT4 (i := 184) rfl) rfl
theorem lyX12_16 : u_lay RX12 TX12 16 ∈ hx_tbl := hx_tbl_of (hx_inT4 (i := 186) rfl) rfl
theorem lyX12_17 : u_lay RX12 TX12 17 ∈ hx_tbl := hx_tbl_of (hx_inT4 (i := 188) rfl) rfl
theorem lyX12_18 : u_lay RX12 TX12 18 ∈ hx_tbl := hx_tbl_of (hx_inT4 (i := 190) rfl) rfl
theorem lyX12_19 : u_lay RX12 TX12 19 ∈ hx_tbl := hx_tbl_of (hx_inT4 (i := 192) rfl) rfl
theorem lyX12_20 : u_lay RX12 TX12 20 ∈ hx_tbl := hx_tbl_of (hx_inT4 (i := 194) rfl) rfl
theorem lyX12_21 : u_lay RX12 TX12 21 ∈ hx_tbl := hx_tbl_of (hx_inT4 (i := 196) rfl) rfl
theorem lyX12_22 : u_lay RX12 TX12 22 ∈ hx_tbl := hx_tbl_of (hx_inT4 (i := 198) rfl) rfl
theorem lyX12_23 : u_lay RX12 TX12 23 ∈ hx_tbl := hx_tbl_of (hx_inT4 (i := 200) rfl) rfl
theorem lyX12_24 : u_lay RX12 TX12 24 ∈ hx_tbl := hx_tbl_of (hx_inT4 (i := 202) rfl) rfl
theorem lyX12_25 : u_lay RX12 TX12 25 ∈ hx_tbl := hx_tbl_of (hx_inT4 (i := 204) rfl) rfl
theorem lyX12_26 : u_lay RX12 TX12 26 ∈ hx_tbl := hx_tbl_of (hx_inT4 (i := 206) rfl) rfl
theorem lyX12_27 : u_lay RX12 TX12 27 ∈ hx_tbl := hx_tbl_of (hx_inT4 (i := 208) rfl) rfl
theorem lyX12_28 : u_lay RX12 TX12 28 ∈ hx_tbl := hx_tbl_of (hx_inT4 (i := 210) rfl) rfl
theorem lyX12_29 : u_lay RX12 TX12 29 ∈ hx_tbl := hx_tbl_of (hx_inT4 (i := 212) rfl) rfl
theorem lyX12_30 : u_lay RX12 TX12 30 ∈ hx_tbl := hx_tbl_of (hx_inT4 (i := 214) rfl) rfl
theorem lyX12_31 : u_lay RX12 TX12 31 ∈ hx_tbl := hx_tbl_of (hx_inT4 (i := 216) rfl) rfl
theorem lyX12_32 : u_lay RX12 TX12 32 ∈ hx_tbl := hx_tbl_of (hx_inT4 (i := 218) rfl) rfl
theorem lyX12_33 : u_lay RX12 TX12 33 ∈ hx_tbl := hx_tbl_of (hx_inT4 (i := 220) rfl) rfl
theorem lyX12_34 : u_lay RX12 TX12 34 ∈ hx_tbl := hx_tbl_of (hx_inT4 (i := 222) rfl) rfl
theorem lyX12_35 : u_lay RX12 TX12 35 ∈ hx_tbl := hx_tbl_of (hx_inT4 (i := 224) rfl) rfl
theorem lyX12_36 : u_lay RX12 TX12 36 ∈ hx_tbl := hx_tbl_of (hx_inT4 (i := 226) rfl) rfl
theorem lyX12_37 : u_lay RX12 TX12 37 ∈ hx_tbl := hx_tbl_of (hx_inT4 (i := 228) rfl) rfl
theorem lyX12_38 : u_lay RX12 TX12 38 ∈ hx_tbl := hx_tbl_of (hx_inT4 (i := 230) rfl) rfl
theorem lyX12_39 : u_lay RX12 TX12 39 ∈ hx_tbl := hx_tbl_of (hx_inT4 (i := 232) rfl) rfl
theorem lyX12_40 : u_lay RX12 TX12 40 ∈ hx_tbl := hx_tbl_of (hx_inT4 (i := 234) rfl) rfl
theorem lyX12_41 : u_lay RX12 TX12 41 ∈ hx_tbl := hx_tbl_of (hx_inT4 (i := 236) rfl) rfl
theorem lyX12_42 : u_lay RX12 TX12 42 ∈ hx_tbl := hx_tbl_of (hx_inT4 (i := 238) rfl) rfl
theorem lyX12_43 : u_lay RX12 TX12 43 ∈ hx_tbl := hx_tbl_of (hx_inT5 (i := 0) rfl) rfl
theorem lyX12_44 : u_lay RX12 TX12 44 ∈ hx_tbl := hx_tbl_of (hx_inT5 (i := 2) rfl) rfl
theorem lyX12_45 : u_lay RX12 TX12 45 ∈ hx_tbl := hx_tbl_of (hx_inT5 (i := 4) rfl) rfl
theorem lyX12_46 : u_lay RX12 TX12 46 ∈ hx_tbl := hx_tbl_of (hx_inT5 (i := 6) rfl) rfl
theorem lyX12_47 : u_lay RX12 TX12 47 ∈ hx_tbl := hx_tbl_of (hx_inT5 (i := 8) rfl) rfl
theorem lyX12_48 : u_lay RX12 TX12 48 ∈ hx_tbl := hx_tbl_of (hx_inT5 (i := 10) rfl) rfl
theorem lyX12_49 : u_lay RX12 TX12 49 ∈ hx_tbl := hx_tbl_of (hx_inT5 (i := 12) rfl) rfl
theorem lyX12_50 : u_lay RX12 TX12 50 ∈ hx_tbl := hx_tbl_of (hx_inT5 (i := 14) rfl) rfl
theorem lyX12_51 : u_lay RX12 TX12 51 ∈ hx_tbl := hx_tbl_of (hx_inT5 (i := 16) rfl) rfl
theorem lyX12_52 : u_lay RX12 TX12 52 ∈ hx_tbl := hx_tbl_of (hx_inT5 (i := 18) rfl) rfl
theorem lyX12_53 : u_lay RX12 TX12 53 ∈ hx_tbl := hx_tbl_of (hx_inT5 (i := 20) rfl) rfl
theorem lyX12_54 : u_lay RX12 TX12 54 ∈ hx_tbl := hx_tbl_of (hx_inT5 (i := 22) rfl) rfl
theorem lyX12_55 : u_lay RX12 TX12 55 ∈ hx_tbl := hx_tbl_of (hx_inT5 (i := 24) rfl) rfl
theorem lyX12_56 : u_lay RX12 TX12 56 ∈ hx_tbl := hx_tbl_of (hx_inT5 (i := 26) rfl) rfl
theorem lyX12_57 : u_lay RX12 TX12 57 ∈ hx_tbl := hx_tbl_of (hx_inT5 (i := 28) rfl) rfl
theorem lyX12_58 : u_lay RX12 TX12 58 ∈ hx_tbl := hx_tbl_of (hx_inT5 (i := 30) rfl) rfl
theorem lyX12_59 : u_lay RX12 TX12 59 ∈ hx_tbl := hx_tbl_of (hx_inT5 (i := 32) rfl) rfl
theorem lyX12_60 : u_lay RX12 TX12 60 ∈ hx_tbl := hx_tbl_of (hx_inT5 (i := 34) rfl) rfl
theorem lyX12_61 : u_lay RX12 TX12 61 ∈ hx_tbl := hx_tbl_of (hx_inT5 (i := 36) rfl) rfl
theorem lyX12_62 : u_lay RX12 TX12 62 ∈ hx_tbl := hx_tbl_of (hx_inT5 (i := 38) rfl) rfl
theorem lyX12_63 : u_lay RX12 TX12 63 ∈ hx_tbl := hx_tbl_of (hx_inT5 (i := 40) rfl) rfl
theorem lyX12_64 : u_lay RX12 TX12 64 ∈ hx_tbl := hx_tbl_of (hx_inT5 (i := 42) rfl) rfl
theorem lyX12_65 : u_lay RX12 TX12 65 ∈ hx_tbl := hx_tbl_of (hx_inT5 (i := 44) rfl) rfl
theorem lyX12_66 : u_lay RX12 TX12 66 ∈ hx_tbl := hx_tbl_of (hx_inT5 (i := 46) rfl) rfl
theorem lyX12_67 : u_lay RX12 TX12 67 ∈ hx_tbl := hx_tbl_of (hx_inT5 (i := 48) rfl) rfl
theorem lyX12_68 : u_lay RX12 TX12 68 ∈ hx_tbl := hx_tbl_of (hx_inT5 (i := 50) rfl) rfl
theorem lyX12_69 : u_lay RX12 TX12 69 ∈ hx_tbl := hx_tbl_of (hx_inT5 (i := 52) rfl) rfl
theorem inX12 : ∀ w ∈ u_ws RX12 TX12 70, w ∈ hx_tbl := by
  intro w hw
  obtain ⟨k, hk, rfl⟩ := List.mem_map.mp hw
  have hk := List.mem_range.mp hk
  match k, hk with
  | 0, _ => exact lyX12_0
  | 1, _ => exact lyX12_1
  | 2, _ => exact lyX12_2
  | 3, _ => exact lyX12_3
  | 4, _ => exact lyX12_4
  | 5, _ => exact lyX12_5
  | 6, _ => exact lyX12_6
  | 7, _ => exact lyX12_7
  | 8, _ => exact lyX12_8
  | 9, _ => exact lyX12_9
  | 10, _ => exact lyX12_10
  | 11, _ => exact lyX12_11
  | 12, _ => exact lyX12_12
  | 13, _ => exact lyX12_13
  | 14, _ => exact lyX12_14
  | 15, _ => exact lyX12_15
  | 16, _ => exact lyX12_16
  | 17, _ => exact lyX12_17
  | 18, _ => exact lyX12_18
  | 19, _ => exact lyX12_19
  | 20, _ => exact lyX12_20
  | 21, _ => exact lyX12_21
  | 22, _ => exact lyX12_22
  | 23, _ => exact lyX12_23
  | 24, _ => exact lyX12_24
  | 25, _ => exact lyX12_25
  | 26, _ => exact lyX12_26
  | 27, _ => exact lyX12_27
  | 28, _ => exact lyX12_28
  | 29, _ => exact lyX12_29
  | 30, _ => exact lyX12_30
  | 31, _ => exact lyX12_31
  | 32, _ => exact lyX12_32
  | 33, _ => exact lyX12_33
  | 34, _ => exact lyX12_34
  | 35, _ => exact lyX12_35
  | 36, _ => exact lyX12_36
  | 37, _ => exact lyX12_37
  | 38, _ => exact lyX12_38
  | 39, _ => exact lyX12_39
  | 40, _ => exact lyX12_40
  | 41, _ => exact lyX12_41
  | 42, _ => exact lyX12_42
  | 43, _ => exact lyX12_43
  | 44, _ => exact lyX12_44
  | 45, _ => exact lyX12_45
  | 46, _ => exact lyX12_46
  | 47, _ => exact lyX12_47
  | 48, _ => exact lyX12_48
  | 49, _ => exact lyX12_49
  | 50, _ => exact lyX12_50
  | 51, _ => exact lyX12_51
  | 52, _ => exact lyX12_52
  | 53, _ => exact lyX12_53
  | 54, _ => exact lyX12_54
  | 55, _ => exact lyX12_55
  | 56, _ => exact lyX12_56
  | 57, _ => exact lyX12_57
  | 58, _ => exact lyX12_58
  | 59, _ => exact lyX12_59
  | 60, _ => exact lyX12_60
  | 61, _ => exact lyX12_61
  | 62, _ => exact lyX12_62
  | 63, _ => exact lyX12_63
  | 64, _ => exact lyX12_64
  | 65, _ => exact lyX12_65
  | 66, _ => exact lyX12_66
  | 67, _ => exact lyX12_67
  | 68, _ => exact lyX12_68
  | 69, _ => exact lyX12_69
  | k + 70, hk => exact absurd hk (by omega)
theorem lyX2_0 : u_lay RX2 TX2 0 ∈ hx_tbl := hx_tbl_of (hx_inT0 (i := 43) rfl) rfl
theorem lyX2_1 : u_lay RX2 TX2 1 ∈ hx_tbl := hx_tbl_of (hx_inT0 (i := 45) rfl) rfl
theorem lyX2_2 : u_lay RX2 TX2 2 ∈ hx_tbl := hx_tbl_of (hx_inT0 (i := 47) rfl) rfl
theorem lyX2_3 : u_lay RX2 TX2 3 ∈ hx_tbl := hx_tbl_of (hx_inT0 (i := 49) rfl) rfl
theorem lyX2_4 : u_lay RX2 TX2 4 ∈ hx_tbl := hx_tbl_of (hx_inT0 (i := 51) rfl) rfl
theorem lyX2_5 : u_lay RX2 TX2 5 ∈ hx_tbl := hx_tbl_of (hx_inT0 (i := 53) rfl) rfl
theorem lyX2_6 : u_lay RX2 TX2 6 ∈ hx_tbl := hx_tbl_of (hx_inT0 (i := 55) rfl) rfl
theorem inX2 : ∀ w ∈ u_ws RX2 TX2 7, w ∈ hx_tbl := by
  intro w hw
  obtain ⟨k, hk, rfl⟩ := List.mem_map.mp hw
  have hk := List.mem_range.mp hk
  match k, hk with
  | 0, _ => exact lyX2_0
  | 1, _ => exact lyX2_1
  | 2, _ => exact lyX2_2
  | 3, _ => exact lyX2_3
  | 4, _ => exact lyX2_4
  | 5, _ => exact lyX2_5
  | 6, _ => exact lyX2_6
  | k + 7, hk => exact absurd hk (by omega)
theorem lyX3_0 : u_lay RX3 TX3 0 ∈ hx_tbl := hx_tbl_of (hx_inT0 (i := 145) rfl) rfl
theorem lyX3_1 : u_lay RX3 TX3 1 ∈ hx_tbl := hx_tbl_of (hx_inT0 (i := 147) rfl) rfl
theorem lyX3_2 : u_lay RX3 TX3 2 ∈ hx_tbl := hx_tbl_of (hx_inT0 (i := 149) rfl) rfl
theorem lyX3_3 : u_lay RX3 TX3 3 ∈ hx_tbl := hx_tbl_of (hx_inT0 (i := 151) rfl) rfl
theorem lyX3_4 : u_lay RX3 TX3 4 ∈ hx_tbl := hx_tbl_of (hx_inT0 (i := 153) rfl) rfl
theorem lyX3_5 : u_lay RX3 TX3 5 ∈ hx_tbl := hx_tbl_of (hx_inT0 (i := 155) rfl) rfl
theorem inX3 : ∀ w ∈ u_ws RX3 TX3 6, w ∈ hx_tbl := by
  intro w hw
  obtain ⟨k, hk, rfl⟩ := List.mem_map.mp hw
  have hk := List.mem_range.mp hk
  match k, hk with
  | 0, _ => exact lyX3_0
  | 1, _ => exact lyX3_1
  | 2, _ => exact lyX3_2
  | 3, _ => exact lyX3_3
  | 4, _ => exact lyX3_4
  | 5, _ => exact lyX3_5
  | k + 6, hk => exact absurd hk (by omega)
theorem lyX4_0 : u_lay RX4 TX4 0 ∈ hx_tbl := hx_tbl_of (hx_inT0 (i := 101) rfl) rfl
theorem lyX4_1 : u_lay RX4 TX4 1 ∈ hx_tbl := hx_tbl_of (hx_inT0 (i := 103) rfl) rfl
theorem lyX4_2 : u_lay RX4 TX4 2 ∈ hx_tbl := hx_tbl_of (hx_inT0 (i := 105) rfl) rfl
theorem lyX4_3 : u_lay RX4 TX4 3 ∈ hx_tbl := hx_tbl_of (hx_inT0 (i := 107) rfl) rfl
theorem lyX4_4 : u_lay RX4 TX4 4 ∈ hx_tbl := hx_tbl_of (hx_inT0 (i := 109) rfl) rfl
theorem lyX4_5 : u_lay RX4 TX4 5 ∈ hx_tbl := hx_tbl_of (hx_inT0 (i := 111) rfl) rfl
theorem lyX4_6 : u_lay RX4 TX4 6 ∈ hx_tbl := hx_tbl_of (hx_inT0 (i := 113) rfl) rfl
theorem inX4 : ∀ w ∈ u_ws RX4 TX4 7, w ∈ hx_tbl := by
  intro w hw
  obtain ⟨k, hk, rfl⟩ := List.mem_map.mp hw
  have hk := List.mem_range.mp hk
  match k, hk with
  | 0, _ => exact lyX4_0
  | 1, _ => exact lyX4_1
  | 2, _ => exact lyX4_2
  | 3, _ => exact lyX4_3
  | 4, _ => exact lyX4_4
  | 5, _ => exact lyX4_5
  | 6, _ => exact lyX4_6
  | k + 7, hk => exact absurd hk (by omega)
theorem lyX5_0 : u_lay RX5 TX5 0 ∈ hx_tbl := hx_tbl_of (hx_inT1 (i := 65) rfl) rfl
theorem lyX5_1 : u_lay RX5 TX5 1 ∈ hx_tbl := hx_tbl_of (hx_inT1 (i := 67) rfl) rfl
theorem lyX5_2 : u_lay RX5 TX5 2 ∈ hx_tbl := hx_tbl_of (hx_inT1 (i := 69) rfl) rfl
theorem lyX5_3 : u_lay RX5 TX5 3 ∈ hx_tbl := hx_tbl_of (hx_inT1 (i := 71) rfl) rfl
theorem lyX5_4 : u_lay RX5 TX5 4 ∈ hx_tbl := hx_tbl_of (hx_inT1 (i := 73) rfl) rfl
theorem inX5 : ∀ w ∈ u_ws RX5 TX5 5, w ∈ hx_tbl := by
  intro w hw
  obtain ⟨k, hk, rfl⟩ := List.mem_map.mp hw
  have hk := List.mem_range.mp hk
  match k, hk with
  | 0, _ => exact lyX5_0
  | 1, _ => exact lyX5_1
  | 2, _ => exact lyX5_2
  | 3, _ => exact lyX5_3
  | 4, _ => exact lyX5_4
  | k + 5, hk => exact absurd hk (by omega)
theorem lyX6_0 : u_lay RX6 TX6 0 ∈ hx_tbl := hx_tbl_of (hx_inT0 (i := 172) rfl) rfl
theorem lyX6_1 : u_lay RX6 TX6 1 ∈ hx_tbl := hx_tbl_of (hx_inT0 (i := 174) rfl) rfl
theorem lyX6_2 : u_lay RX6 TX6 2 ∈ hx_tbl := hx_tbl_of (hx_inT0 (i := 176) rfl) rfl
theorem lyX6_3 : u_lay RX6 TX6 3 ∈ hx_tbl := hx_tbl_of (hx_inT0 (i := 178) rfl) rfl
theorem lyX6_4 : u_lay RX6 TX6 4 ∈ hx_tbl := hx_tbl_of (hx_inT0 (i := 180) rfl) rfl
theorem lyX6_5 : u_lay RX6 TX6 5 ∈ hx_tbl := hx_tbl_of (hx_inT0 (i := 182) rfl) rfl
theorem inX6 : ∀ w ∈ u_ws RX6 TX6 6, w ∈ hx_tbl := by
  intro w hw
  obtain ⟨k, hk, rfl⟩ := List.mem_map.mp hw
  have hk := List.mem_range.mp hk
  match k, hk with
  | 0, _ => exact lyX6_0
  | 1, _ => exact lyX6_1
  | 2, _ => exact lyX6_2
  | 3, _ => exact lyX6_3
  | 4, _ => exact lyX6_4
  | 5, _ => exact lyX6_5
  | k + 6, hk => exact absurd hk (by omega)
theorem lyX7_0 : u_lay RX7 TX7 0 ∈ hx_tbl := hx_tbl_of (hx_inT1 (i := 90) rfl) rfl
theorem lyX7_1 : u_lay RX7 TX7 1 ∈ hx_tbl := hx_tbl_of (hx_inT1 (i := 92) rfl) rfl
theorem lyX7_2 : u_lay RX7 TX7 2 ∈ hx_tbl := hx_tbl_of (hx_inT1 (i := 94) rfl) rfl
theorem lyX7_3 : u_lay RX7 TX7 3 ∈ hx_tbl := hx_tbl_of (hx_inT1 (i := 96) rfl) rfl
theorem lyX7_4 : u_lay RX7 TX7 4 ∈ hx_tbl := hx_tbl_of (hx_inT1 (i := 98) rfl) rfl
theorem lyX7_5 : u_lay RX7 TX7 5 ∈ hx_tbl := hx_tbl_of (hx_inT1 (i := 100) rfl) rfl
theorem inX7 : ∀ w ∈ u_ws RX7 TX7 6, w ∈ hx_tbl := by
  intro w hw
  obtain ⟨k, hk, rfl⟩ := List.mem_map.mp hw
  have hk := List.mem_range.mp hk
  match k, hk with
  | 0, _ => exact lyX7_0
  | 1, _ => exact lyX7_1
  | 2, _ => exact lyX7_2
  | 3, _ => exact lyX7_3
  | 4, _ => exact lyX7_4
  | 5, _ => exact lyX7_5
  | k + 6, hk => exact absurd hk (by omega)
theorem lyX8_0 : u_lay RX8 TX8 0 ∈ hx_tbl := hx_tbl_of (hx_inT1 (i := 43) rfl) rfl
theorem lyX8_1 : u_lay RX8 TX8 1 ∈ hx_tbl := hx_tbl_of (hx_inT1 (i := 45) rfl) rfl
theorem lyX8_2 : u_lay RX8 TX8 2 ∈ hx_tbl := hx_tbl_of (hx_inT1 (i := 47) rfl) rfl
theorem lyX8_3 : u_lay RX8 TX8 3 ∈ hx_tbl := hx_tbl_of (hx_inT1 (i := 49) rfl) rfl
theorem inX8 : ∀ w ∈ u_ws RX8 TX8 4, w ∈ hx_tbl := by
  intro w hw
  obtain ⟨k, hk, rfl⟩ := List.mem_map.mp hw
  have hk := List.mem_range.mp hk
  match k, hk with
  | 0, _ => exact lyX8_0
  | 1, _ => exact lyX8_1
  | 2, _ => exact lyX8_2
  | 3, _ => exact lyX8_3
  | k + 4, hk => exact absurd hk (by omega)
theorem lyX9_0 : u_lay RX9 TX9 0 ∈ hx_tbl := hx_tbl_of (hx_inT1 (i := 16) rfl) rfl
theorem lyX9_1 : u_lay RX9 TX9 1 ∈ hx_tbl := hx_tbl_of (hx_inT1 (i := 18) rfl) rfl
theorem inX9 : ∀ w ∈ u_ws RX9 TX9 2, w ∈ hx_tbl := by
  intro w hw
  obtain ⟨k, hk, rfl⟩ := List.mem_map.mp hw
  have hk := List.mem_range.mp hk
  match k, hk with
  | 0, _ => exact lyX9_0
  | 1, _ => exact lyX9_1
  | k + 2, hk => exact absurd hk (by omega)
theorem nkX0 : ∀ j, j < 1 → (hx_fk 0)[j]? = some (match tyX0 j with | .int => 0 | .long => 1 | _ => 2) ∧ ((∃ x, tyX0 j = .object x) ∨ (∃ x, tyX0 j = .array x) ∨ tyX0 j = .int ∨ tyX0 j = .long) := by
  intro j hj
  match j, hj with
  | 0, _ => exact ⟨rfl, Or.inl ⟨_, rfl⟩⟩
  | j + 1, hj => exact absurd hj (by omega)
theorem nkX1 : ∀ j, j < 2 → (hx_fk 1)[j]? = some (match tyX1 j with | .int => 0 | .long => 1 | _ => 2) ∧ ((∃ x, tyX1 j = .object x) ∨ (∃ x, tyX1 j = .array x) ∨ tyX1 j = .int ∨ tyX1 j = .long) := by
  intro j hj
  match j, hj with
  | 0, _ => exact ⟨rfl, Or.inr (Or.inl ⟨_, rfl⟩)⟩
  | 1, _ => exact ⟨rfl, Or.inr (Or.inr (Or.inl rfl))⟩
  | j + 2, hj => exact absurd hj (by omega)
theorem nkX10 : ∀ j, j < 12 → (hx_fk 10)[j]? = some (match tyX10 j with | .int => 0 | .long => 1 | _ => 2) ∧ ((∃ x, tyX10 j = .object x) ∨ (∃ x, tyX10 j = .array x) ∨ tyX10 j = .int ∨ tyX10 j = .long) := by
  intro j hj
  match j, hj with
  | 0, _ => exact ⟨rfl, Or.inl ⟨_, rfl⟩⟩
  | 1, _ => exact ⟨rfl, Or.inl ⟨_, rfl⟩⟩
  | 2, _ => exact ⟨rfl, Or.inl ⟨_, rfl⟩⟩
  | 3, _ => exact ⟨rfl, Or.inr (Or.inr (Or.inl rfl))⟩
  | 4, _ => exact ⟨rfl, Or.inr (Or.inr (Or.inl rfl))⟩
  | 5, _ => exact ⟨rfl, Or.inr (Or.inr (Or.inl rfl))⟩
  | 6, _ => exact ⟨rfl, Or.inr (Or.inr (Or.inr rfl))⟩
  | 7, _ => exact ⟨rfl, Or.inr (Or.inr (Or.inl rfl))⟩
  | 8, _ => exact ⟨rfl, Or.inr (Or.inr (Or.inl rfl))⟩
  | 9, _ => exact ⟨rfl, Or.inr (Or.inl ⟨_, rfl⟩)⟩
  | 10, _ => exact ⟨rfl, Or.inr (Or.inl ⟨_, rfl⟩)⟩
  | 11, _ => exact ⟨rfl, Or.inr (Or.inl ⟨_, rfl⟩)⟩
  | j + 12, hj => exact absurd hj (by omega)
theorem nkX11 : ∀ j, j < 15 → (hx_fk 11)[j]? = some (match tyX11 j with | .int => 0 | .long => 1 | _ => 2) ∧ ((∃ x, tyX11 j = .object x) ∨ (∃ x, tyX11 j = .array x) ∨ tyX11 j = .int ∨ tyX11 j = .long) := by
  intro j hj
  match j, hj with
  | 0, _ => exact ⟨rfl, Or.inr (Or.inl ⟨_, rfl⟩)⟩
  | 1, _ => exact ⟨rfl, Or.inr (Or.inr (Or.inl rfl))⟩
  | 2, _ => exact ⟨rfl, Or.inl ⟨_, rfl⟩⟩
  | 3, _ => exact ⟨rfl, Or.inr (Or.inl ⟨_, rfl⟩)⟩
  | 4, _ => exact ⟨rfl, Or.inr (Or.inr (Or.inl rfl))⟩
  | 5, _ => exact ⟨rfl, Or.inr (Or.inr (Or.inl rfl))⟩
  | 6, _ => exact ⟨rfl, Or.inr (Or.inr (Or.inl rfl))⟩
  | 7, _ => exact ⟨rfl, Or.inl ⟨_, rfl⟩⟩
  | 8, _ => exact ⟨rfl, Or.inl ⟨_, rfl⟩⟩
  | 9, _ => exact ⟨rfl, Or.inl ⟨_, rfl⟩⟩
  | 10, _ => exact ⟨rfl, Or.inl ⟨_, rfl⟩⟩
  | 11, _ => exact ⟨rfl, Or.inl ⟨_, rfl⟩⟩
  | 12, _ => exact ⟨rfl, Or.inl ⟨_, rfl⟩⟩
  | 13, _ => exact ⟨rfl, Or.inr (Or.inl ⟨_, rfl⟩)⟩
  | 14, _ => exact ⟨rfl, Or.inr (Or.inr (Or.inl rfl))⟩
  | j + 15, hj => exact absurd hj (by omega)
theorem nkX12 : ∀ j, j < 70 → (hx_fk 12)[j]? = some (match tyX12 j with | .int => 0 | .long => 1 | _ => 2) ∧ ((∃ x, tyX12 j = .object x) ∨ (∃ x, tyX12 j = .array x) ∨ tyX12 j = .int ∨ tyX12 j = .long) := by
  intro j hj
  match j, hj with
  | 0, _ => exact ⟨rfl, Or.inr (Or.inr (Or.inl rfl))⟩
  | 1, _ => exact ⟨rfl, Or.inr (Or.inr (Or.inl rfl))⟩
  | 2, _ => exact ⟨rfl, Or.inr (Or.inr (Or.inl rfl))⟩
  | 3, _ => exact ⟨rfl, Or.inr (Or.inr (Or.inl rfl))⟩
  | 4, _ => exact ⟨rfl, Or.inr (Or.inr (Or.inl rfl))⟩
  | 5, _ => exact ⟨rfl, Or.inr (Or.inr (Or.inl rfl))⟩
  | 6, _ => exact ⟨rfl, Or.inr (Or.inr (Or.inr rfl))⟩
  | 7, _ => exact ⟨rfl, Or.inr (Or.inl ⟨_, rfl⟩)⟩
  | 8, _ => exact ⟨rfl, Or.inr (Or.inl ⟨_, rfl⟩)⟩
  | 9, _ => exact ⟨rfl, Or.inr (Or.inl ⟨_, rfl⟩)⟩
  | 10, _ => exact ⟨rfl, Or.inr (Or.inl ⟨_, rfl⟩)⟩
  | 11, _ => exact ⟨rfl, Or.inr (Or.inl ⟨_, rfl⟩)⟩
  | 12, _ => exact ⟨rfl, Or.inr (Or.inl ⟨_, rfl⟩)⟩
  | 13, _ => exact ⟨rfl, Or.inr (Or.inl ⟨_, rfl⟩)⟩
  | 14, _ => exact ⟨rfl, Or.inr (Or.inl ⟨_, rfl⟩)⟩
  | 15, _ => exact ⟨rfl, Or.inr (Or.inl ⟨_, rfl⟩)⟩
  | 16, _ => exact ⟨rfl, Or.inr (Or.inl ⟨_, rfl⟩)⟩
  | 17, _ => exact ⟨rfl, Or.inr (Or.inl ⟨_, rfl⟩)⟩
  | 18, _ => exact ⟨rfl, Or.inr (Or.inl ⟨_, rfl⟩)⟩
  | 19, _ => exact ⟨rfl, Or.inr (Or.inl ⟨_, rfl⟩)⟩
  | 20, _ => exact ⟨rfl, Or.inr (Or.inr (Or.inl rfl))⟩
  | 21, _ => exact ⟨rfl, Or.inr (Or.inr (Or.inl rfl))⟩
  | 22, _ => exact ⟨rfl, Or.inr (Or.inr (Or.inl rfl))⟩
  | 23, _ => exact ⟨rfl, Or.inr (Or.inr (Or.inl rfl))⟩
  | 24, _ => exact ⟨rfl, Or.inr (Or.inr (Or.inl rfl))⟩
  | 25, _ => exact ⟨rfl, Or.inr (Or.inr (Or.inl rfl))⟩
  | 26, _ => exact ⟨rfl, Or.inr (Or.inr (Or.inl rfl))⟩
  | 27, _ => exact ⟨rfl, Or.inr (Or.inr (Or.inl rfl))⟩
  | 28, _ => exact ⟨rfl, Or.inr (Or.inl ⟨_, rfl⟩)⟩
  | 29, _ => exact ⟨rfl, Or.inr (Or.inl ⟨_, rfl⟩)⟩
  | 30, _ => exact ⟨rfl, Or.inr (Or.inl ⟨_, rfl⟩)⟩
  | 31, _ => exact ⟨rfl, Or.inr (Or.inl ⟨_, rfl⟩)⟩
  | 32, _ => exact ⟨rfl, Or.inr (Or.inl ⟨_, rfl⟩)⟩
  | 33, _ => exact ⟨rfl, Or.inr (Or.inl ⟨_, rfl⟩)⟩
  | 34, _ => exact ⟨rfl, Or.inr (Or.inl ⟨_, rfl⟩)⟩
  | 35, _ => exact ⟨rfl, Or.inr (Or.inl ⟨_, rfl⟩)⟩
  | 36, _ => exact ⟨rfl, Or.inr (Or.inl ⟨_, rfl⟩)⟩
  | 37, _ => exact ⟨rfl, Or.inr (Or.inl ⟨_, rfl⟩)⟩
  | 38, _ => exact ⟨rfl, Or.inr (Or.inl ⟨_, rfl⟩)⟩
  | 39, _ => exact ⟨rfl, Or.inr (Or.inl ⟨_, rfl⟩)⟩
  | 40, _ => exact ⟨rfl, Or.inr (Or.inl ⟨_, rfl⟩)⟩
  | 41, _ => exact ⟨rfl, Or.inr (Or.inr (Or.inl rfl))⟩
  | 42, _ => exact ⟨rfl, Or.inr (Or.inr (Or.inl rfl))⟩
  | 43, _ => exact ⟨rfl, Or.inr (Or.inl ⟨_, rfl⟩)⟩
  | 44, _ => exact ⟨rfl, Or.inr (Or.inl ⟨_, rfl⟩)⟩
  | 45, _ => exact ⟨rfl, Or.inr (Or.inr (Or.inl rfl))⟩
  | 46, _ => exact ⟨rfl, Or.inr (Or.inl ⟨_, rfl⟩)⟩
  | 47, _ => exact ⟨rfl, Or.inr (Or.inr (Or.inr rfl))⟩
  | 48, _ => exact ⟨rfl, Or.inr (Or.inr (Or.inl rfl))⟩
  | 49, _ => exact ⟨rfl, Or.inr (Or.inr (Or.inl rfl))⟩
  | 50, _ => exact ⟨rfl, Or.inr (Or.inl ⟨_, rfl⟩)⟩
  | 51, _ => exact ⟨rfl, Or.inr (Or.inl ⟨_, rfl⟩)⟩
  | 52, _ => exact ⟨rfl, Or.inr (Or.inr (Or.inl rfl))⟩
  | 53, _ => exact ⟨rfl, Or.inr (Or.inr (Or.inl rfl))⟩
  | 54, _ => exact ⟨rfl, Or.inr (Or.inl ⟨_, rfl⟩)⟩
  | 55, _ => exact ⟨rfl, Or.inr (Or.inr (Or.inl rfl))⟩
  | 56, _ => exact ⟨rfl, Or.inr (Or.inl ⟨_, rfl⟩)⟩
  | 57, _ => exact ⟨rfl, Or.inr (Or.inl ⟨_, rfl⟩)⟩
  | 58, _ => exact ⟨rfl, Or.inr (Or.inl ⟨_, rfl⟩)⟩
  | 59, _ => exact ⟨rfl, Or.inr (Or.inr (Or.inl rfl))⟩
  | 60, _ => exact ⟨rfl, Or.inr (Or.inl ⟨_, rfl⟩)⟩
  | 61, _ => exact ⟨rfl, Or.inr (Or.inl ⟨_, rfl⟩)⟩
  | 62, _ => exact ⟨rfl, Or.inr (Or.inl ⟨_, rfl⟩)⟩
  | 63, _ => exact ⟨rfl, Or.inr (Or.inl ⟨_, rfl⟩)⟩
  | 64, _ => exact ⟨rfl, Or.inr (Or.inl ⟨_, rfl⟩)⟩
  | 65, _ => exact ⟨rfl, Or.inr (Or.inr (Or.inl rfl))⟩
  | 66, _ => exact ⟨rfl, Or.inr (Or.inr (Or.inl rfl))⟩
  | 67, _ => exact ⟨rfl, Or.inr (Or.inl ⟨_, rfl⟩)⟩
  | 68, _ => exact ⟨rfl, Or.inr (Or.inl ⟨_, rfl⟩)⟩
  | 69, _ => exact ⟨rfl, Or.inr (Or.inl ⟨_, rfl⟩)⟩
  | j + 70, hj => exact absurd hj (by omega)
theorem nkX2 : ∀ j, j < 7 → (hx_fk 2)[j]? = some (match tyX2 j with | .int => 0 | .long => 1 | _ => 2) ∧ ((∃ x, tyX2 j = .object x) ∨ (∃ x, tyX2 j = .array x) ∨ tyX2 j = .int ∨ tyX2 j = .long) := by
  intro j hj
  match j, hj with
  | 0, _ => exact ⟨rfl, Or.inr (Or.inl ⟨_, rfl⟩)⟩
  | 1, _ => exact ⟨rfl, Or.inr (Or.inr (Or.inl rfl))⟩
  | 2, _ => exact ⟨rfl, Or.inr (Or.inl ⟨_, rfl⟩)⟩
  | 3, _ => exact ⟨rfl, Or.inr (Or.inl ⟨_, rfl⟩)⟩
  | 4, _ => exact ⟨rfl, Or.inr (Or.inr (Or.inl rfl))⟩
  | 5, _ => exact ⟨rfl, Or.inr (Or.inl ⟨_, rfl⟩)⟩
  | 6, _ => exact ⟨rfl, Or.inr (Or.inr (Or.inl rfl))⟩
  | j + 7, hj => exact absurd hj (by omega)
theorem nkX3 : ∀ j, j < 6 → (hx_fk 3)[j]? = some (match tyX3 j with | .int => 0 | .long => 1 | _ => 2) ∧ ((∃ x, tyX3 j = .object x) ∨ (∃ x, tyX3 j = .array x) ∨ tyX3 j = .int ∨ tyX3 j = .long) := by
  intro j hj
  match j, hj with
  | 0, _ => exact ⟨rfl, Or.inr (Or.inr (Or.inl rfl))⟩
  | 1, _ => exact ⟨rfl, Or.inr (Or.inl ⟨_, rfl⟩)⟩
  | 2, _ => exact ⟨rfl, Or.inr (Or.inl ⟨_, rfl⟩)⟩
  | 3, _ => exact ⟨rfl, Or.inr (Or.inl ⟨_, rfl⟩)⟩
  | 4, _ => exact ⟨rfl, Or.inr (Or.inl ⟨_, rfl⟩)⟩
  | 5, _ => exact ⟨rfl, Or.inr (Or.inl ⟨_, rfl⟩)⟩
  | j + 6, hj => exact absurd hj (by omega)
theorem nkX4 : ∀ j, j < 7 → (hx_fk 4)[j]? = some (match tyX4 j with | .int => 0 | .long => 1 | _ => 2) ∧ ((∃ x, tyX4 j = .object x) ∨ (∃ x, tyX4 j = .array x) ∨ tyX4 j = .int ∨ tyX4 j = .long) := by
  intro j hj
  match j, hj with
  | 0, _ => exact ⟨rfl, Or.inr (Or.inr (Or.inl rfl))⟩
  | 1, _ => exact ⟨rfl, Or.inr (Or.inl ⟨_, rfl⟩)⟩
  | 2, _ => exact ⟨rfl, Or.inr (Or.inl ⟨_, rfl⟩)⟩
  | 3, _ => exact ⟨rfl, Or.inr (Or.inl ⟨_, rfl⟩)⟩
  | 4, _ => exact ⟨rfl, Or.inr (Or.inl ⟨_, rfl⟩)⟩
  | 5, _ => exact ⟨rfl, Or.inr (Or.inl ⟨_, rfl⟩)⟩
  | 6, _ => exact ⟨rfl, Or.inr (Or.inl ⟨_, rfl⟩)⟩
  | j + 7, hj => exact absurd hj (by omega)
theorem nkX5 : ∀ j, j < 5 → (hx_fk 5)[j]? = some (match tyX5 j with | .int => 0 | .long => 1 | _ => 2) ∧ ((∃ x, tyX5 j = .object x) ∨ (∃ x, tyX5 j = .array x) ∨ tyX5 j = .int ∨ tyX5 j = .long) := by
  intro j hj
  match j, hj with
  | 0, _ => exact ⟨rfl, Or.inl ⟨_, rfl⟩⟩
  | 1, _ => exact ⟨rfl, Or.inr (Or.inr (Or.inl rfl))⟩
  | 2, _ => exact ⟨rfl, Or.inr (Or.inl ⟨_, rfl⟩)⟩
  | 3, _ => exact ⟨rfl, Or.inr (Or.inl ⟨_, rfl⟩)⟩
  | 4, _ => exact ⟨rfl, Or.inr (Or.inl ⟨_, rfl⟩)⟩
  | j + 5, hj => exact absurd hj (by omega)
theorem nkX6 : ∀ j, j < 6 → (hx_fk 6)[j]? = some (match tyX6 j with | .int => 0 | .long => 1 | _ => 2) ∧ ((∃ x, tyX6 j = .object x) ∨ (∃ x, tyX6 j = .array x) ∨ tyX6 j = .int ∨ tyX6 j = .long) := by
  intro j hj
  match j, hj with
  | 0, _ => exact ⟨rfl, Or.inl ⟨_, rfl⟩⟩
  | 1, _ => exact ⟨rfl, Or.inl ⟨_, rfl⟩⟩
  | 2, _ => exact ⟨rfl, Or.inr (Or.inl ⟨_, rfl⟩)⟩
  | 3, _ => exact ⟨rfl, Or.inr (Or.inl ⟨_, rfl⟩)⟩
  | 4, _ => exact ⟨rfl, Or.inr (Or.inl ⟨_, rfl⟩)⟩
  | 5, _ => exact ⟨rfl, Or.inr (Or.inr (Or.inl rfl))⟩
  | j + 6, hj => exact absurd hj (by omega)
theorem nkX7 : ∀ j, j < 6 → (hx_fk 7)[j]? = some (match tyX7 j with | .int => 0 | .long => 1 | _ => 2) ∧ ((∃ x, tyX7 j = .object x) ∨ (∃ x, tyX7 j = .array x) ∨ tyX7 j = .int ∨ tyX7 j = .long) := by
  intro j hj
  match j, hj with
  | 0, _ => exact ⟨rfl, Or.inl ⟨_, rfl⟩⟩
  | 1, _ => exact ⟨rfl, Or.inr (Or.inl ⟨_, rfl⟩)⟩
  | 2, _ => exact ⟨rfl, Or.inr (Or.inl ⟨_, rfl⟩)⟩
  | 3, _ => exact ⟨rfl, Or.inr (Or.inl ⟨_, rfl⟩)⟩
  | 4, _ => exact ⟨rfl, Or.inr (Or.inl ⟨_, rfl⟩)⟩
  | 5, _ => exact ⟨rfl, Or.inr (Or.inr (Or.inl rfl))⟩
  | j + 6, hj => exact absurd hj (by omega)
theorem nkX8 : ∀ j, j < 4 → (hx_fk 8)[j]? = some (match tyX8 j with | .int => 0 | .long => 1 | _ => 2) ∧ ((∃ x, tyX8 j = .object x) ∨ (∃ x, tyX8 j = .array x) ∨ tyX8 j = .int ∨ tyX8 j = .long) := by
  intro j hj
  match j, hj with
  | 0, _ => exact ⟨rfl, Or.inl ⟨_, rfl⟩⟩
  | 1, _ => exact ⟨rfl, Or.inr (Or.inl ⟨_, rfl⟩)⟩
  | 2, _ => exact ⟨rfl, Or.inr (Or.inr (Or.inl rfl))⟩
  | 3, _ => exact ⟨rfl, Or.inr (Or.inr (Or.inl rfl))⟩
  | j + 4, hj => exact absurd hj (by omega)
theorem nkX9 : ∀ j, j < 2 → (hx_fk 9)[j]? = some (match tyX9 j with | .int => 0 | .long => 1 | _ => 2) ∧ ((∃ x, tyX9 j = .object x) ∨ (∃ x, tyX9 j = .array x) ∨ tyX9 j = .int ∨ tyX9 j = .long) := by
  intro j hj
  match j, hj with
  | 0, _ => exact ⟨rfl, Or.inl ⟨_, rfl⟩⟩
  | 1, _ => exact ⟨rfl, Or.inl ⟨_, rfl⟩⟩
  | j + 2, hj => exact absurd hj (by omega)
theorem bipush_10 : (Int8.ofInt 10).toInt32 = 10 := by decide +kernel
theorem bipush_100 : (Int8.ofInt 100).toInt32 = 100 := by decide +kernel
theorem bipush_11 : (Int8.ofInt 11).toInt32 = 11 := by decide +kernel
theorem bipush_12 : (Int8.ofInt 12).toInt32 = 12 := by decide +kernel
theorem bipush_122 : (Int8.ofInt 122).toInt32 = 122 := by decide +kernel
theorem bipush_127 : (Int8.ofInt 127).toInt32 = 127 := by decide +kernel
theorem bipush_13 : (Int8.ofInt 13).toInt32 = 13 := by decide +kernel
theorem bipush_14 : (Int8.ofInt 14).toInt32 = 14 := by decide +kernel
theorem bipush_15 : (Int8.ofInt 15).toInt32 = 15 := by decide +kernel
theorem bipush_16 : (Int8.ofInt 16).toInt32 = 16 := by decide +kernel
theorem bipush_18 : (Int8.ofInt 18).toInt32 = 18 := by decide +kernel
theorem bipush_19 : (Int8.ofInt 19).toInt32 = 19 := by decide +kernel
theorem bipush_20 : (Int8.ofInt 20).toInt32 = 20 := by decide +kernel
theorem bipush_21 : (Int8.ofInt 21).toInt32 = 21 := by decide +kernel
theorem bipush_24 : (Int8.ofInt 24).toInt32 = 24 := by decide +kernel
theorem bipush_32 : (Int8.ofInt 32).toInt32 = 32 := by decide +kernel
theorem bipush_33 : (Int8.ofInt 33).toInt32 = 33 := by decide +kernel
theorem bipush_34 : (Int8.ofInt 34).toInt32 = 34 := by decide +kernel
theorem bipush_40 : (Int8.ofInt 40).toInt32 = 40 := by decide +kernel
theorem bipush_41 : (Int8.ofInt 41).toInt32 = 41 := by decide +kernel
theorem bipush_48 : (Int8.ofInt 48).toInt32 = 48 := by decide +kernel
theorem bipush_50 : (Int8.ofInt 50).toInt32 = 50 := by decide +kernel
theorem bipush_57 : (Int8.ofInt 57).toInt32 = 57 := by decide +kernel
theorem bipush_59 : (Int8.ofInt 59).toInt32 = 59 := by decide +kernel
theorem bipush_6 : (Int8.ofInt 6).toInt32 = 6 := by decide +kernel
theorem bipush_60 : (Int8.ofInt 60).toInt32 = 60 := by decide +kernel
theorem bipush_61 : (Int8.ofInt 61).toInt32 = 61 := by decide +kernel
theorem bipush_62 : (Int8.ofInt 62).toInt32 = 62 := by decide +kernel
theorem bipush_63 : (Int8.ofInt 63).toInt32 = 63 := by decide +kernel
theorem bipush_64 : (Int8.ofInt 64).toInt32 = 64 := by decide +kernel
theorem bipush_7 : (Int8.ofInt 7).toInt32 = 7 := by decide +kernel
theorem bipush_8 : (Int8.ofInt 8).toInt32 = 8 := by decide +kernel
theorem bipush_9 : (Int8.ofInt 9).toInt32 = 9 := by decide +kernel
theorem bipush_96 : (Int8.ofInt 96).toInt32 = 96 := by decide +kernel
theorem bipush_97 : (Int8.ofInt 97).toInt32 = 97 := by decide +kernel
theorem bipush_99 : (Int8.ofInt 99).toInt32 = 99 := by decide +kernel
theorem bipush_m2 : (Int8.ofInt (-2)).toInt32 = (-2) := by decide +kernel
theorem bipush_m3 : (Int8.ofInt (-3)).toInt32 = (-3) := by decide +kernel
theorem iconst_0 : Int32.ofInt 0 = 0 := by decide +kernel
theorem iconst_1 : Int32.ofInt 1 = 1 := by decide +kernel
theorem iconst_2 : Int32.ofInt 2 = 2 := by decide +kernel
theorem iconst_3 : Int32.ofInt 3 = 3 := by decide +kernel
theorem iconst_4 : Int32.ofInt 4 = 4 := by decide +kernel
theorem iconst_5 : Int32.ofInt 5 = 5 := by decide +kernel
theorem iconst_m1 : Int32.ofInt (-1) = (-1) := by decide +kernel
theorem iconst_m8 : Int32.ofInt (-8) = (-8) := by decide +kernel
theorem lconst_0 : Int64.ofNat ((0 : Fin 2) : Nat) = 0 := by decide +kernel
theorem lconst_1 : Int64.ofNat ((1 : Fin 2) : Nat) = 1 := by decide +kernel
theorem sipush_10000 : (Int16.ofInt 10000).toInt32 = 10000 := by decide +kernel
theorem sipush_10014 : (Int16.ofInt 10014).toInt32 = 10014 := by decide +kernel
theorem sipush_10017 : (Int16.ofInt 10017).toInt32 = 10017 := by decide +kernel
theorem sipush_10018 : (Int16.ofInt 10018).toInt32 = 10018 := by decide +kernel
theorem sipush_10019 : (Int16.ofInt 10019).toInt32 = 10019 := by decide +kernel
theorem sipush_10020 : (Int16.ofInt 10020).toInt32 = 10020 := by decide +kernel
theorem sipush_1204 : (Int16.ofInt 1204).toInt32 = 1204 := by decide +kernel
theorem sipush_130 : (Int16.ofInt 130).toInt32 = 130 := by decide +kernel
theorem sipush_15000 : (Int16.ofInt 15000).toInt32 = 15000 := by decide +kernel
theorem sipush_200 : (Int16.ofInt 200).toInt32 = 200 := by decide +kernel
theorem sipush_20000 : (Int16.ofInt 20000).toInt32 = 20000 := by decide +kernel
theorem sipush_20040 : (Int16.ofInt 20040).toInt32 = 20040 := by decide +kernel
theorem sipush_20041 : (Int16.ofInt 20041).toInt32 = 20041 := by decide +kernel
theorem sipush_20059 : (Int16.ofInt 20059).toInt32 = 20059 := by decide +kernel
theorem sipush_201 : (Int16.ofInt 201).toInt32 = 201 := by decide +kernel
theorem sipush_255 : (Int16.ofInt 255).toInt32 = 255 := by decide +kernel
theorem sipush_301 : (Int16.ofInt 301).toInt32 = 301 := by decide +kernel
theorem sipush_3216 : (Int16.ofInt 3216).toInt32 = 3216 := by decide +kernel
theorem sipush_366 : (Int16.ofInt 366).toInt32 = 366 := by decide +kernel
theorem sipush_4200 : (Int16.ofInt 4200).toInt32 = 4200 := by decide +kernel
theorem sipush_427 : (Int16.ofInt 427).toInt32 = 427 := by decide +kernel
theorem sipush_4816 : (Int16.ofInt 4816).toInt32 = 4816 := by decide +kernel
theorem sipush_511 : (Int16.ofInt 511).toInt32 = 511 := by decide +kernel
theorem sipush_700 : (Int16.ofInt 700).toInt32 = 700 := by decide +kernel
theorem sipush_701 : (Int16.ofInt 701).toInt32 = 701 := by decide +kernel
theorem sipush_804 : (Int16.ofInt 804).toInt32 = 804 := by decide +kernel
theorem sipush_999 : (Int16.ofInt 999).toInt32 = 999 := by decide +kernel
theorem sipush_9999 : (Int16.ofInt 9999).toInt32 = 9999 := by decide +kernel
theorem tn_12 : (12 : Int32).toNatClampNeg = 12 := by decide +kernel
theorem tn_1204 : (1204 : Int32).toNatClampNeg = 1204 := by decide +kernel
theorem tn_13 : (13 : Int32).toNatClampNeg = 13 := by decide +kernel
theorem tn_130 : (130 : Int32).toNatClampNeg = 130 := by decide +kernel
theorem tn_16 : (16 : Int32).toNatClampNeg = 16 := by decide +kernel
theorem tn_20 : (20 : Int32).toNatClampNeg = 20 := by decide +kernel
theorem tn_3 : (3 : Int32).toNatClampNeg = 3 := by decide +kernel
theorem tn_301 : (301 : Int32).toNatClampNeg = 301 := by decide +kernel
theorem tn_366 : (366 : Int32).toNatClampNeg = 366 := by decide +kernel
theorem tn_4 : (4 : Int32).toNatClampNeg = 4 := by decide +kernel
theorem tn_41 : (41 : Int32).toNatClampNeg = 41 := by decide +kernel
theorem tn_4200 : (4200 : Int32).toNatClampNeg = 4200 := by decide +kernel
theorem tn_427 : (427 : Int32).toNatClampNeg = 427 := by decide +kernel
theorem tn_45000 : (45000 : Int32).toNatClampNeg = 45000 := by decide +kernel
theorem tn_4816 : (4816 : Int32).toNatClampNeg = 4816 := by decide +kernel
theorem tn_5 : (5 : Int32).toNatClampNeg = 5 := by decide +kernel
theorem tn_6 : (6 : Int32).toNatClampNeg = 6 := by decide +kernel
theorem tn_60 : (60 : Int32).toNatClampNeg = 60 := by decide +kernel
theorem tn_61 : (61 : Int32).toNatClampNeg = 61 := by decide +kernel
theorem tn_64 : (64 : Int32).toNatClampNeg = 64 := by decide +kernel
theorem tn_700 : (700 : Int32).toNatClampNeg = 700 := by decide +kernel
theorem tn_701 : (701 : Int32).toNatClampNeg = 701 := by decide +kernel
theorem tn_8 : (8 : Int32).toNatClampNeg = 8 := by decide +kernel
theorem tn_96 : (96 : Int32).toNatClampNeg = 96 := by decide +kernel
