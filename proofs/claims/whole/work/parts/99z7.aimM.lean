/-! layer 2: law, the reference's aims -/
def OFA (μ : hx_M) (kk : Nat) (m : hx_M) : Prop := (∀ c, c ≠ 49 → (c < 64 ∨ 67 < c) → m.1 c = μ.1 c) ∧ (∀ c, 64 ≤ c → c ≤ 67 → ∀ j, j ≠ kk → m.1 c j = μ.1 c j) ∧ (∀ j, j ≠ 25 → j ≠ 26 → j ≠ 41 → j ≠ 42 → m.1 49 j = μ.1 49 j) ∧ m.2 = μ.2
def pW (T : Nat → Int32) (i : Nat) : Bool × Nat × Nat × Nat :=
  if ¬ (10008 ≤ T i ∧ T i ≤ 10013) then (false, i, 0, 0)
  else if T i = 10012 then (if ¬ (0 ≤ T (i + 1) ∧ T (i + 1) ≤ 3) then (false, i + 1, 0, 0) else (true, i + 2, 4, (T (i + 1)).toNatClampNeg))
  else if T i = 10013 then (if ¬ (1 ≤ T (i + 1) ∧ T (i + 1) ≤ 99) then (false, i + 1, 0, 0) else (true, i + 2, 5, (T (i + 1)).toNatClampNeg))
  else (true, i + 1, (T i - 10008).toNatClampNeg, 0)
section AIM
variable {N : Nat} {t : Nat → Int32} {μ m m' : hx_M} {i i' kk : Nat} {T : Nat → Int32}
theorem OFA.rf : OFA m kk m := ⟨fun _ _ _ => rfl, fun _ _ _ _ _ => rfl, fun _ _ _ _ _ => rfl, rfl⟩
theorem OFA.oX (a : OFA μ kk m) (o : offX m m') : OFA μ kk m' := ⟨fun c h1 h2 => by rw [o.1 c h1]; exact a.1 c h1 h2, fun c h1 h2 j hj => by rw [o.1 c (by omega)]; exact a.2.1 c h1 h2 j hj, fun j h1 h2 h3 h4 => by rw [o.2.1 j h1 h3 h4]; exact a.2.2.1 j h1 h2 h3 h4, by rw [o.2.2]; exact a.2.2.2⟩
theorem OFA.s {c : Nat} {v : Int32} (a : OFA μ kk m) (h1 : 64 ≤ c) (h2 : c ≤ 67) : OFA μ kk (hx_sI m c kk v) := ⟨fun d q1 q2 => by rw [sIk (by omega)]; exact a.1 d q1 q2, fun d q1 q2 j hj => by
    by_cases e : d = c
    · subst e; rw [sIj hj]; exact a.2.1 d q1 q2 j hj
    · rw [sIk e]; exact a.2.1 d q1 q2 j hj, fun j q1 q2 q3 q4 => by rw [sIk (by omega)]; exact a.2.2.1 j q1 q2 q3 q4, a.2.2.2⟩
theorem OFA.d {v : Int32} {c : Nat} (a : OFA μ kk m) (hc : c = 25 ∨ c = 26 ∨ c = 41 ∨ c = 42) : OFA μ kk (hx_sI m 49 c v) := ⟨fun d q1 q2 => by rw [sIk q1]; exact a.1 d q1 q2, fun d q1 q2 j hj => by rw [sIk (by omega)]; exact a.2.1 d q1 q2 j hj, fun j q1 q2 q3 q4 => by rw [sIj (by omega)]; exact a.2.2.1 j q1 q2 q3 q4, a.2.2.2⟩
theorem OFA.tx (a : OFA μ kk m) (tx : TX N t μ) : TX N t m := ⟨tx.1, by rw [a.2.2.1 24 (by omega) (by omega) (by omega) (by omega)]; exact tx.2.1, fun j hj => by rw [a.1 75 (by omega) (by omega)]; exact tx.2.2 j hj⟩
theorem AT.fr (a : AT N t i m) (h : m'.1 49 25 = m.1 49 25) : AT N t i m' := by
  obtain ⟨a1, b, b1, b2, b3⟩ := a
  exact ⟨a1, b, b1, h.trans b2, b3⟩
theorem pAim_eq : pAim T i = if ¬ (10014 ≤ T i ∧ T i ≤ 10016) then (false, i, (0, 0, 0, 0)) else if T i = 10016 then (true, i + 1, (2, 0, 0, 0)) else if (pW T (i + 1)).1 = false then (false, (pW T (i + 1)).2.1, (0, 0, 0, 0)) else if ¬ (0 ≤ T (pW T (i + 1)).2.1 ∧ T (pW T (i + 1)).2.1 ≤ 60) then (false, (pW T (i + 1)).2.1, (0, 0, 0, 0)) else (true, (pW T (i + 1)).2.1 + 1, ((T i - 10014).toNatClampNeg, (pW T (i + 1)).2.2.1, (pW T (i + 1)).2.2.2, (T (pW T (i + 1)).2.1).toNatClampNeg)) := by
  unfold pAim pW
  by_cases c1 : 10014 ≤ T i ∧ T i ≤ 10016
  · by_cases c2 : T i = 10016
    · simp only [if_neg (not_not_intro c1), if_pos c2]
    · by_cases c3 : 10008 ≤ T (i + 1) ∧ T (i + 1) ≤ 10013
      · by_cases c4 : T (i + 1) = 10012
        · by_cases c5 : 0 ≤ T (i + 1 + 1) ∧ T (i + 1 + 1) ≤ 3
          · simp only [if_neg (not_not_intro c1), if_neg c2, if_neg (not_not_intro c3), if_pos c4, if_neg (not_not_intro c5), Bool.true_eq_false, if_false]
          · simp only [if_neg (not_not_intro c1), if_neg c2, if_neg (not_not_intro c3), if_pos c4, if_pos c5, if_true]
        · by_cases c6 : T (i + 1) = 10013
          · by_cases c5 : 1 ≤ T (i + 1 + 1) ∧ T (i + 1 + 1) ≤ 99
            · simp only [if_neg (not_not_intro c1), if_neg c2, if_neg (not_not_intro c3), if_neg c4, if_pos c6, if_neg (not_not_intro c5), Bool.true_eq_false, if_false]
            · simp only [if_neg (not_not_intro c1), if_neg c2, if_neg (not_not_intro c3), if_neg c4, if_pos c6, if_pos c5, if_true]
          · simp only [if_neg (not_not_intro c1), if_neg c2, if_neg (not_not_intro c3), if_neg c4, if_neg c6, Bool.true_eq_false, if_false]
      · simp only [if_neg (not_not_intro c1), if_neg c2, if_pos c3, if_true]
  · simp only [if_pos c1]
theorem whomM {K : Int32 → hx_M → Prop} (hT : T = tkF t N) (tx : TX N t μ) (hk : kk < 96) (a : AT N t i m) (o : OFA μ kk m) (k1 : (pW T i).1 = true → ∀ m', AT N t (pW T i).2.1 m' → m'.1 64 = m.1 64 → m'.1 49 26 = m.1 49 26 → m'.1 65 kk = Int32.ofNat (pW T i).2.2.1 → m'.1 66 kk = Int32.ofNat (pW T i).2.2.2 → OFA μ kk m' → K 1 m') (k0 : (pW T i).1 = false → ∀ m', AX N t (pW T i).2.1 m' → OFA μ kk m' → K 0 m') : wX12_whomTold m (Int32.ofNat kk) K := by
  have vk : vp_in (Int32.ofNat kk) 96 := n32_in (by omega) (by omega)
  have nk : (Int32.ofNat kk).toNatClampNeg = kk := n32_nat (by omega)
  have J9 : ∀ (w : Nat) (m6 : hx_M), (pW T i) = (true, i + 2, w, (T (i + 1)).toNatClampNeg) → (0 ≤ T (i + 1) ∧ T (i + 1) ≤ 99) → AT N t (i + 2) m6 → m6.1 64 = m.1 64 → m6.1 49 26 = m.1 49 26 → m6.1 65 kk = Int32.ofNat w → m6.1 49 42 = T (i + 1) → OFA μ kk m6 → wX12_whomTold_J119 K (Int32.ofNat kk) m6 := by
    intro w m6 ep z at6 e64 e26 e65 e42 o6
    rw [ep] at k1
    obtain ⟨n, en, hn⟩ := n32_of (hi := 99) z.1 z.2 (by omega)
    unfold wX12_whomTold_J119
    rw [nk, e42]
    refine ⟨vk, k1 rfl _ (at6.fr (by rw [sIk (by omega)])) (by rw [sIk (by omega)]; exact e64) (by rw [sIk (by omega)]; exact e26) (by rw [sIk (by omega)]; exact e65) ?_ (o6.s (by omega) (by omega))⟩
    rw [sIe]
    show T (i + 1) = Int32.ofNat (T (i + 1)).toNatClampNeg
    rw [en, n32_nat (by omega)]
  have J7 : ∀ (w : Nat) (m4 : hx_M), w = 4 ∨ w = 5 → T i = Int32.ofNat (10008 + w) → AT N t (i + 1) m4 → m4.1 64 = m.1 64 → m4.1 49 26 = m.1 49 26 → OFA μ kk m4 → wX12_whomTold_J74 K (Int32.ofNat kk) (Int32.ofNat kk) (Int32.ofNat w) m4 := by
    intro w m4 hw e at4 e64 e26 o4
    have cw : 10008 ≤ T i ∧ T i ≤ 10013 := by
      rw [e]
      exact ⟨(n32_le (a := 10008) (by omega) (by omega)).mpr (by omega), (n32_le (b := 10013) (by omega) (by omega)).mpr (by omega)⟩
    have o5 : OFA μ kk (hx_sI m4 65 kk (Int32.ofNat w)) := o4.s (by omega) (by omega)
    have at5 : AT N t (i + 1) (hx_sI m4 65 kk (Int32.ofNat w)) := at4.fr (by rw [sIk (by omega)])
    have f64 : (hx_sI m4 65 kk (Int32.ofNat w)).1 64 = m.1 64 := by rw [sIk (by omega)]; exact e64
    have f26 : (hx_sI m4 65 kk (Int32.ofNat w)).1 49 26 = m.1 49 26 := by rw [sIk (by omega)]; exact e26
    have f65 : (hx_sI m4 65 kk (Int32.ofNat w)).1 65 kk = Int32.ofNat w := sIe
    unfold wX12_whomTold_J74
    rw [nk, f65]
    refine ⟨vk, vk, ?_⟩
    rintro x rfl
    refine selF (n32_neg (by omega) (by decide)) ⟨vk, ?_⟩
    rintro x rfl
    rcases hw with rfl | rfl
    · have e' : T i = 10012 := e
      refine selE rfl (takesNumberT hT (o5.tx tx) at5 (by decide) (by decide) (fun z m6 o6 a6 h42 => sel1 ?_) (fun z m6 o6 a6 => sel0 ?_))
      · have ep : pW T i = (true, i + 2, 4, (T (i + 1)).toNatClampNeg) := by unfold pW; rw [if_neg (not_not_intro cw), if_pos e', if_neg (not_not_intro z)]
        exact J9 4 m6 ep ⟨z.1, Int32.le_trans z.2 (by decide)⟩ a6 (by rw [o6.1 64 (by omega)]; exact f64) (by rw [o6.2.1 26 (by omega) (by omega) (by omega)]; exact f26) (by rw [o6.1 65 (by omega)]; exact f65) h42 (o5.oX o6)
      · have ep : pW T i = (false, i + 1, 0, 0) := by unfold pW; rw [if_neg (not_not_intro cw), if_pos e', if_pos z]
        rw [ep] at k0
        exact k0 rfl m6 a6 (o5.oX o6)
    · have e' : T i = 10013 := e
      have e2 : ¬ T i = 10012 := fun z => by rw [z] at e'; exact absurd e' (by decide)
      refine selN (by decide) (takesNumberT hT (o5.tx tx) at5 (by decide) (by decide) (fun z m6 o6 a6 h42 => seln1 ?_) (fun z m6 o6 a6 => seln0 ?_))
      · have ep : pW T i = (true, i + 2, 5, (T (i + 1)).toNatClampNeg) := by unfold pW; rw [if_neg (not_not_intro cw), if_neg e2, if_pos e', if_neg (not_not_intro z)]
        exact J9 5 m6 ep ⟨Int32.le_trans (by decide) z.1, z.2⟩ a6 (by rw [o6.1 64 (by omega)]; exact f64) (by rw [o6.2.1 26 (by omega) (by omega) (by omega)]; exact f26) (by rw [o6.1 65 (by omega)]; exact f65) h42 (o5.oX o6)
      · have ep : pW T i = (false, i + 1, 0, 0) := by unfold pW; rw [if_neg (not_not_intro cw), if_neg e2, if_pos e', if_pos z]
        rw [ep] at k0
        exact k0 rfl m6 a6 (o5.oX o6)
  have o1 : OFA μ kk (hx_sI m 66 kk 0) := o.s (by omega) (by omega)
  have at1 : AT N t i (hx_sI m 66 kk 0) := a.fr (by rw [sIk (by omega)])
  unfold wX12_whomTold
  rw [nk]
  refine ⟨vk, wordT hT (o1.tx tx) at1 (fun v m1 ox ax hw hn => meanWd (x := T i) hw (fun g hg e => ⟨vk, vk, ?_⟩) (fun e => ⟨vk, vk, ?_⟩))⟩
  · rintro x rfl
    have o2 := o1.oX ox
    rw [sIe]
    have e' : T i = Int32.ofNat (10000 + (8 + g)) := by rw [e]; congr 1; omega
    have cw : 10008 ≤ T i ∧ T i ≤ 10013 := by
      rw [e]
      exact ⟨(n32_le (a := 10008) (by omega) (by omega)).mpr (by omega), (n32_le (b := 10013) (by omega) (by omega)).mpr (by omega)⟩
    have c2 : ¬ T i = 10012 := fun z => by
      have := (n32_eq (b := 10012) (by omega) (by omega)).mp (e.symm.trans z)
      omega
    have c3 : ¬ T i = 10013 := fun z => by
      have := (n32_eq (b := 10013) (by omega) (by omega)).mp (e.symm.trans z)
      omega
    have ep : pW T i = (true, i + 1, g, 0) := by
      unfold pW
      rw [if_neg (not_not_intro cw), if_neg c2, if_neg c3, e, show (10008 : Int32) = Int32.ofNat 10008 from rfl, n32_subn (by omega), n32_nat (by omega), show 10008 + g - 10008 = g by omega]
    rw [ep] at k1
    refine selF (n32_neg (by omega) (by decide)) (k1 rfl _ ((hn (8 + g) (by omega) e').fr (by rw [sIe, sIe])) ?_ ?_ ?_ ?_ ((o2.s (by omega) (by omega)).d (by omega)))
    · rw [sIk (by omega), sIk (by omega), ox.1 64 (by omega), sIk (by omega)]
    · rw [sIj (by omega), sIk (by omega), ox.2.1 26 (by omega) (by omega) (by omega), sIk (by omega)]
    · rw [sIk (by omega), sIe]
    · rw [sIk (by omega), sIk (by omega), ox.1 66 (by omega), sIe]; rfl
  · rintro x rfl
    have o2 : OFA μ kk (hx_sI m1 65 kk (-1)) := (o1.oX ox).s (by omega) (by omega)
    have at2 : AT N t i (hx_sI m1 65 kk (-1)) := ax.at.fr (by rw [sIk (by omega)])
    have f64 : (hx_sI m1 65 kk (-1)).1 64 = m.1 64 := by rw [sIk (by omega), ox.1 64 (by omega), sIk (by omega)]
    have f26 : (hx_sI m1 65 kk (-1)).1 49 26 = m.1 49 26 := by rw [sIk (by omega), ox.2.1 26 (by omega) (by omega) (by omega), sIk (by omega)]
    rw [sIe]
    refine selT rfl (takesT (k := 12) (x := 10012) hT (o2.tx tx) at2 (by omega) (wkE 12 (by omega)).symm (by decide) (fun z m2 ox2 a2 => sel1 ?_) (fun z m2 ox2 a2 => sel0 ?_))
    · exact J7 4 m2 (Or.inl rfl) z a2 (by rw [ox2.1 64 (by omega)]; exact f64) (by rw [ox2.2.1 26 (by omega) (by omega) (by omega)]; exact f26) (o2.oX ox2)
    · have o3 := o2.oX ox2
      refine takesT (k := 13) (x := 10013) hT (o3.tx tx) a2.at (by omega) (wkE 13 (by omega)).symm (by decide) (fun y m3 ox3 a3 => sel1 ?_) (fun y m3 ox3 a3 => sel0 ?_)
      · exact J7 5 m3 (Or.inr rfl) y a3 (by rw [ox3.1 64 (by omega), ox2.1 64 (by omega)]; exact f64) (by rw [ox3.2.1 26 (by omega) (by omega) (by omega), ox2.2.1 26 (by omega) (by omega) (by omega)]; exact f26) (o3.oX ox3)
      · have cw : ¬ (10008 ≤ T i ∧ T i ≤ 10013) := fun w => by
          obtain ⟨q, eq, hq⟩ := n32_of (hi := 10013) (Int32.le_trans (by decide) w.1) w.2 (by omega)
          have hq0 : 10008 ≤ q := by
            have := w.1
            rw [eq] at this
            exact (n32_le (a := 10008) (by omega) (by omega)).mp this
          by_cases q12 : q = 10012
          · exact z (by rw [eq, q12]; rfl)
          · by_cases q13 : q = 10013
            · exact y (by rw [eq, q13]; rfl)
            · exact e (q - 10008) (by omega) (by rw [eq, show 10008 + (q - 10008) = q by omega])
        have ep : pW T i = (false, i, 0, 0) := by unfold pW; rw [if_pos cw]
        rw [ep] at k0
        unfold wX12_whomTold_J74
        rw [nk, sIe]
        refine ⟨vk, vk, ?_⟩
        rintro x rfl
        have ax4 : AX N t i (hx_sI m3 65 kk (-1)) := ⟨a3.1, by rw [sIk (by omega)]; exact a3.2⟩
        exact selT rfl (k0 rfl _ ax4 ((o3.oX ox3).s (by omega) (by omega)))
end AIM
