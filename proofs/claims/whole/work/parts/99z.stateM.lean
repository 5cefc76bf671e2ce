/-! layer 2: law, the reference amid a text -/
theorem wkE : ∀ k, k < 21 → Int64.ofNat (pkR (wds.getD k [])) = ([126879263846254, 119182899770472, 483006772069, 1668245870, 1918987883, 470020941177, 109299962372965, 2003792494, 418263299685, 422608400247, 418430675813, 6384748, 448546567013, 7302244, 29807, 1718775661, 1937006969, 26982, 6385252, 28530, 7237492] : List Int64).getD k 0 := by decide +kernel
section AM
variable {v : Int64} {x : Int32}
theorem meanWd {K : Int32 → Prop} (hw : ∀ k, k < 21 → (v = Int64.ofNat (pkR (wds.getD k [])) ↔ x = Int32.ofNat (10000 + k))) (k1 : ∀ k, k < 4 → x = Int32.ofNat (10008 + k) → K (Int32.ofNat k)) (k0 : (∀ k, k < 4 → x ≠ Int32.ofNat (10008 + k)) → K (-1)) : wX12_mean v K := by
  have e8 : v = (418263299685 : Int64) ↔ x = Int32.ofNat 10008 := by rw [show (418263299685 : Int64) = _ from (wkE 8 (by omega)).symm]; exact hw 8 (by omega)
  have e9 : v = (422608400247 : Int64) ↔ x = Int32.ofNat 10009 := by rw [show (422608400247 : Int64) = _ from (wkE 9 (by omega)).symm]; exact hw 9 (by omega)
  have e10 : v = (418430675813 : Int64) ↔ x = Int32.ofNat 10010 := by rw [show (418430675813 : Int64) = _ from (wkE 10 (by omega)).symm]; exact hw 10 (by omega)
  have e11 : v = (6384748 : Int64) ↔ x = Int32.ofNat 10011 := by rw [show (6384748 : Int64) = _ from (wkE 11 (by omega)).symm]; exact hw 11 (by omega)
  unfold wX12_mean
  simp only [ne_eq, cmp_0, e8, e9, e10, e11]
  refine ⟨fun z0 => ⟨fun z1 => ⟨fun z2 => ⟨fun z3 => k0 (fun k hk => ?_), fun z => k1 3 (by omega) z⟩, fun z => k1 2 (by omega) z⟩, fun z => k1 1 (by omega) z⟩, fun z => k1 0 (by omega) z⟩
  match k, hk with
  | 0, _ => exact z0
  | 1, _ => exact z1
  | 2, _ => exact z2
  | 3, _ => exact z3
theorem askedByM {K : Int32 → Prop} (hw : ∀ k, k < 21 → (v = Int64.ofNat (pkR (wds.getD k [])) ↔ x = Int32.ofNat (10000 + k))) (k1 : ∀ k, k < 12 → x = Int32.ofNat (10000 + k) → K (Int32.ofNat k)) (k0 : (∀ k, k < 12 → x ≠ Int32.ofNat (10000 + k)) → K (-1)) : wX12_askedBy v K := by
  have e0 : v = (126879263846254 : Int64) ↔ x = Int32.ofNat 10000 := by rw [show (126879263846254 : Int64) = _ from (wkE 0 (by omega)).symm]; exact hw 0 (by omega)
  have e1 : v = (119182899770472 : Int64) ↔ x = Int32.ofNat 10001 := by rw [show (119182899770472 : Int64) = _ from (wkE 1 (by omega)).symm]; exact hw 1 (by omega)
  have e2 : v = (483006772069 : Int64) ↔ x = Int32.ofNat 10002 := by rw [show (483006772069 : Int64) = _ from (wkE 2 (by omega)).symm]; exact hw 2 (by omega)
  have e3 : v = (1668245870 : Int64) ↔ x = Int32.ofNat 10003 := by rw [show (1668245870 : Int64) = _ from (wkE 3 (by omega)).symm]; exact hw 3 (by omega)
  have e4 : v = (1918987883 : Int64) ↔ x = Int32.ofNat 10004 := by rw [show (1918987883 : Int64) = _ from (wkE 4 (by omega)).symm]; exact hw 4 (by omega)
  have e5 : v = (470020941177 : Int64) ↔ x = Int32.ofNat 10005 := by rw [show (470020941177 : Int64) = _ from (wkE 5 (by omega)).symm]; exact hw 5 (by omega)
  have e6 : v = (109299962372965 : Int64) ↔ x = Int32.ofNat 10006 := by rw [show (109299962372965 : Int64) = _ from (wkE 6 (by omega)).symm]; exact hw 6 (by omega)
  have e7 : v = (2003792494 : Int64) ↔ x = Int32.ofNat 10007 := by rw [show (2003792494 : Int64) = _ from (wkE 7 (by omega)).symm]; exact hw 7 (by omega)
  unfold wX12_askedBy
  refine meanWd hw (fun k hk e => ?_) (fun h4 => ?_)
  · have e8 : (8 : Int32) = Int32.ofNat 8 := rfl
    refine selF (n32_neg (by omega) (by decide)) ?_
    rw [e8, n32_add]
    exact k1 (8 + k) (by omega) (by rw [e]; congr 1; omega)
  · refine selT rfl ?_
    simp only [ne_eq, cmp_0, e0, e1, e2, e3, e4, e5, e6, e7]
    refine ⟨fun z0 => ⟨fun z1 => ⟨fun z2 => ⟨fun z3 => ⟨fun z4 => ⟨fun z5 => ⟨fun z6 => ⟨fun z7 => k0 (fun k hk => ?_), fun z => k1 7 (by omega) z⟩, fun z => k1 6 (by omega) z⟩, fun z => k1 5 (by omega) z⟩, fun z => k1 4 (by omega) z⟩, fun z => k1 3 (by omega) z⟩, fun z => k1 2 (by omega) z⟩, fun z => k1 1 (by omega) z⟩, fun z => k1 0 (by omega) z⟩
    match k, hk with
    | 0, _ => exact z0
    | 1, _ => exact z1
    | 2, _ => exact z2
    | 3, _ => exact z3
    | 4, _ => exact z4
    | 5, _ => exact z5
    | 6, _ => exact z6
    | 7, _ => exact z7
    | 8, _ => exact h4 0 (by omega)
    | 9, _ => exact h4 1 (by omega)
    | 10, _ => exact h4 2 (by omega)
    | 11, _ => exact h4 3 (by omega)
end AM
/-- the steps put -/
def PUT (h : Nat) (V : List hl_S) (m : hx_M) : Prop := ∀ j s, V[j]? = some s → m.1 70 (h + j) = Int32.ofNat s.1 ∧ m.1 71 (h + j) = Int32.ofNat s.2.1 ∧ m.1 72 (h + j) = Int32.ofNat s.2.2
/-- what reading leaves -/
def OFF (μ : hx_M) (h : Nat) (m : hx_M) : Prop := (∀ c, c ≠ 49 → c ≠ 70 → c ≠ 71 → c ≠ 72 → m.1 c = μ.1 c) ∧ (∀ j, j ≠ 22 → j ≠ 25 → j ≠ 26 → j ≠ 41 → j ≠ 42 → m.1 49 j = μ.1 49 j) ∧ (∀ j, j < h → m.1 70 j = μ.1 70 j ∧ m.1 71 j = μ.1 71 j ∧ m.1 72 j = μ.1 72 j) ∧ m.2 = μ.2
def RS (N : Nat) (t : Nat → Int32) (μ : hx_M) (h d : Nat) (V : List hl_S) (i : Nat) (m : hx_M) : Prop := AT N t i m ∧ V.length ≤ i ∧ m.1 49 26 = Int32.ofNat d ∧ m.1 49 22 = Int32.ofNat (h + V.length) ∧ PUT h V m ∧ OFF μ h m
def RF (N : Nat) (t : Nat → Int32) (μ : hx_M) (h i : Nat) (m : hx_M) : Prop := AX N t i m ∧ OFF μ h m
/-- what is left behind a part -/
def RO (N : Nat) (t : Nat → Int32) (μ : hx_M) (h d : Nat) (V : List hl_S) (x : pR) (m : hx_M) : Prop := (x.1 = true → RS N t μ h d (V ++ x.2.2) x.2.1 m) ∧ (x.1 = false → RF N t μ h x.2.1 m)
section SM
variable {N : Nat} {t : Nat → Int32} {μ m m' : hx_M} {h d i i' : Nat} {V : List hl_S}
theorem OFF.oX (a : OFF μ h m) (o : offX m m') : OFF μ h m' := by
  obtain ⟨a1, a2, a3, a4⟩ := a
  obtain ⟨o1, o2, o3⟩ := o
  refine ⟨fun c q1 q2 q3 q4 => by rw [o1 c q1]; exact a1 c q1 q2 q3 q4, fun j q1 q2 q3 q4 q5 => by rw [o2 j q2 q4 q5]; exact a2 j q1 q2 q3 q4 q5, fun j hj => ?_, by rw [o3]; exact a4⟩
  rw [o1 70 (by omega), o1 71 (by omega), o1 72 (by omega)]
  exact a3 j hj
theorem OFF.tx (tx : TX N t μ) (a : OFF μ h m) : TX N t m := ⟨tx.1, by rw [a.2.1 24 (by omega) (by omega) (by omega) (by omega) (by omega)]; exact tx.2.1, fun j hj => by rw [a.1 75 (by omega) (by omega) (by omega) (by omega)]; exact tx.2.2 j hj⟩
theorem RS.tx (tx : TX N t μ) (r : RS N t μ h d V i m) : TX N t m := r.2.2.2.2.2.tx tx
theorem RS.oX (r : RS N t μ h d V i m) (o : offX m m') (a : AT N t i' m') (hi : i ≤ i') : RS N t μ h d V i' m' := by
  obtain ⟨r1, r2, r3, r4, r5, r6⟩ := r
  refine ⟨a, by omega, ?_, ?_, fun j s e => ?_, r6.oX o⟩
  · rw [o.2.1 26 (by omega) (by omega) (by omega)]; exact r3
  · rw [o.2.1 22 (by omega) (by omega) (by omega)]; exact r4
  · rw [o.1 70 (by omega), o.1 71 (by omega), o.1 72 (by omega)]; exact r5 j s e
theorem RS.fail (r : RS N t μ h d V i m) (o : offX m m') (a : AX N t i' m') : RF N t μ h i' m' := ⟨a, r.2.2.2.2.2.oX o⟩
theorem putsM {a b c : Nat} {x1 x2 x3 : Int32} {K : hx_M → Prop} (hh : h + i ≤ 4200) (r : RS N t μ h d V i m) (hi : V.length + 1 ≤ i) (e1 : x1 = Int32.ofNat a) (e2 : x2 = Int32.ofNat b) (e3 : x3 = Int32.ofNat c) (k : ∀ m', RS N t μ h d (V ++ [(a, b, c)]) i m' → K m') : wX12_puts m x1 x2 x3 K := by
  obtain ⟨r1, r2, r3, r4, r5, r6, r7, r8, r9⟩ := r
  have v1 : vp_in (m.1 49 22) 4200 := by rw [r4]; exact n32_in (by omega) (by omega)
  have hl : (V ++ [(a, b, c)]).length = V.length + 1 := by simp
  unfold wX12_puts
  refine ⟨v1, v1, v1, ?_⟩
  rintro x rfl
  rw [r4, n32_nat (by omega), n32_add1, e1, e2, e3]
  have g0 : ∀ j, j ≠ h + V.length → ∀ x : Int32, (hx_sI (hx_sI (hx_sI (hx_sI m 70 (h + V.length) (Int32.ofNat a)) 71 (h + V.length) (Int32.ofNat b)) 72 (h + V.length) (Int32.ofNat c)) 49 22 x).1 70 j = m.1 70 j ∧ (hx_sI (hx_sI (hx_sI (hx_sI m 70 (h + V.length) (Int32.ofNat a)) 71 (h + V.length) (Int32.ofNat b)) 72 (h + V.length) (Int32.ofNat c)) 49 22 x).1 71 j = m.1 71 j ∧ (hx_sI (hx_sI (hx_sI (hx_sI m 70 (h + V.length) (Int32.ofNat a)) 71 (h + V.length) (Int32.ofNat b)) 72 (h + V.length) (Int32.ofNat c)) 49 22 x).1 72 j = m.1 72 j := fun j hj x => by
    refine ⟨?_, ?_, ?_⟩
    · rw [sIk (by omega), sIk (by omega), sIk (by omega), sIj hj]
    · rw [sIk (by omega), sIk (by omega), sIj hj, sIk (by omega)]
    · rw [sIk (by omega), sIj hj, sIk (by omega), sIk (by omega)]
  refine k _ ⟨?_, by rw [hl]; exact hi, ?_, ?_, fun j s e => ?_, fun c q1 q2 q3 q4 => ?_, fun j q1 q2 q3 q4 q5 => ?_, fun j hj => ?_, r9⟩
  · obtain ⟨a1, b, a2, a3, a4⟩ := r1
    refine ⟨a1, b, a2, ?_, a4⟩
    rw [sIj (by omega), sIk (by omega), sIk (by omega), sIk (by omega)]; exact a3
  · rw [sIj (by omega), sIk (by omega), sIk (by omega), sIk (by omega)]; exact r3
  · rw [sIe, hl, Nat.add_assoc]
  · by_cases ej : j = V.length
    · subst ej
      have es : s = (a, b, c) := by
        rw [List.getElem?_append_right (Nat.le_refl _), Nat.sub_self] at e
        exact (Option.some.inj e).symm
      rw [es]
      refine ⟨?_, ?_, ?_⟩
      · rw [sIk (by omega), sIk (by omega), sIk (by omega), sIe]
      · rw [sIk (by omega), sIk (by omega), sIe]
      · rw [sIk (by omega), sIe]
    · have ej' : V[j]? = some s := by
        have hlt : j < (V ++ [(a, b, c)]).length := by
          apply Classical.byContradiction
          intro z
          rw [List.getElem?_eq_none (Nat.not_lt.mp z)] at e
          exact absurd e (by simp)
        rw [List.getElem?_append_left (by rw [hl] at hlt; omega)] at e
        exact e
      obtain ⟨q1, q2, q3⟩ := g0 (h + j) (by omega) (Int32.ofNat (h + V.length + 1))
      rw [q1, q2, q3]
      exact r5 j s ej'
  · rw [sIk q1, sIk q4, sIk q3, sIk q2]; exact r6 c q1 q2 q3 q4
  · rw [sIj q1, sIk (by omega), sIk (by omega), sIk (by omega)]; exact r7 j q1 q2 q3 q4 q5
  · obtain ⟨q1, q2, q3⟩ := g0 j (by omega) (Int32.ofNat (h + V.length + 1))
    rw [q1, q2, q3]
    exact r8 j hj
end SM
