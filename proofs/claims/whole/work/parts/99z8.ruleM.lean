/-! layer 2: law, the reference's rules -/
section RUM
variable {N : Nat} {t : Nat → Int32} {μ m m' : hx_M} {i i' kk : Nat} {T : Nat → Int32}
theorem aimM {K : Int32 → hx_M → Prop} (hT : T = tkF t N) (tx : TX N t μ) (hk : kk < 96) (a : AT N t i μ)
    (k1 : (pAim T i).1 = true → ∀ m', AT N t (pAim T i).2.1 m' → m'.1 49 26 = 0 → m'.1 64 kk = Int32.ofNat (pAim T i).2.2.1 → ((pAim T i).2.2.1 ≠ 2 → m'.1 65 kk = Int32.ofNat (pAim T i).2.2.2.1 ∧ m'.1 66 kk = Int32.ofNat (pAim T i).2.2.2.2.1 ∧ m'.1 67 kk = Int32.ofNat (pAim T i).2.2.2.2.2) → OFA μ kk m' → wX12_rule_J113 K (Int32.ofNat kk) m')
    (k0 : (pAim T i).1 = false → ∀ m', AX N t (pAim T i).2.1 m' → OFA μ kk m' → K 0 m') : wX12_rule μ (Int32.ofNat kk) K := by
  have vk : vp_in (Int32.ofNat kk) 96 := n32_in (by omega) (by omega)
  have nk : (Int32.ofNat kk).toNatClampNeg = kk := n32_nat (by omega)
  rw [pAim_eq] at k0 k1
  have JV : ∀ (v : Nat) (m : hx_M), v ≤ 2 → T i = Int32.ofNat (10014 + v) → AT N t (i + 1) m → OFA μ kk m → wX12_rule_J48 K (Int32.ofNat kk) (Int32.ofNat kk) (Int32.ofNat v) m := by
    intro v m hv e at1 o
    have cv : 10014 ≤ T i ∧ T i ≤ 10016 := by
      rw [e]
      exact ⟨(n32_le (a := 10014) (by omega) (by omega)).mpr (by omega), (n32_le (b := 10016) (by omega) (by omega)).mpr (by omega)⟩
    have ev : (T i - 10014).toNatClampNeg = v := by
      rw [e, show (10014 : Int32) = Int32.ofNat 10014 from rfl, n32_subn (by omega), n32_nat (by omega)]
      omega
    rw [if_neg (not_not_intro cv)] at k0 k1
    have o3 : OFA μ kk (hx_sI (hx_sI (hx_sI m 64 kk (Int32.ofNat v)) 49 26 0) 67 kk 0) := ((o.s (by omega) (by omega)).d (by omega)).s (by omega) (by omega)
    have at3 : AT N t (i + 1) (hx_sI (hx_sI (hx_sI m 64 kk (Int32.ofNat v)) 49 26 0) 67 kk 0) := at1.fr (by rw [sIk (by omega), sIj (by omega), sIk (by omega)])
    have f64 : (hx_sI (hx_sI (hx_sI m 64 kk (Int32.ofNat v)) 49 26 0) 67 kk 0).1 64 kk = Int32.ofNat v := by rw [sIk (by omega), sIk (by omega), sIe]
    have f26 : (hx_sI (hx_sI (hx_sI m 64 kk (Int32.ofNat v)) 49 26 0) 67 kk 0).1 49 26 = 0 := by rw [sIk (by omega), sIe]
    unfold wX12_rule_J48
    rw [nk, sIe]
    refine ⟨vk, vk, ?_⟩
    rintro x rfl
    refine selN (n32_neg (by omega) (by decide)) ⟨vk, vk, ?_⟩
    rintro x rfl
    by_cases v2 : v = 2
    · subst v2
      have e' : T i = 10016 := e
      rw [if_pos e'] at k1
      exact selT rfl (k1 rfl _ at3 f26 f64 (fun z => absurd rfl z) o3)
    · have e' : ¬ T i = 10016 := fun z => v2 (by
        have := (n32_eq (b := 10016) (by omega) (by omega)).mp (e.symm.trans z)
        omega)
      rw [if_neg e'] at k0 k1
      refine selF (fun z => v2 ((n32_eq (b := 2) (by omega) (by omega)).mp z)) (whomM hT tx hk at3 o3 (fun hw m4 at4 e64 e26 e65 e66 o4 => sel1 ?_) (fun hw m4 ax4 o4 => sel0 ?_))
      · rw [if_neg (by rw [hw]; simp)] at k0 k1
        refine takesNumberT hT (o4.tx tx) at4 (by decide) (by decide) (fun z m5 o5 a5 h42 => seln1 ⟨vk, ?_⟩) (fun z m5 o5 a5 => seln0 ?_)
        · rw [if_neg (not_not_intro z)] at k1
          obtain ⟨b, eb, hb⟩ := n32_of (hi := 60) z.1 z.2 (by omega)
          refine k1 rfl _ (a5.fr (by rw [sIk (by omega)])) ?_ ?_ (fun _ => ⟨?_, ?_, ?_⟩) ((o4.oX o5).s (by omega) (by omega))
          · rw [sIk (by omega), o5.2.1 26 (by omega) (by omega) (by omega), e26]; exact f26
          · rw [sIk (by omega), o5.1 64 (by omega), e64]
            show _ = Int32.ofNat (T i - 10014).toNatClampNeg
            rw [ev]; exact f64
          · rw [sIk (by omega), o5.1 65 (by omega)]; exact e65
          · rw [sIk (by omega), o5.1 66 (by omega)]; exact e66
          · rw [sIe, h42]
            show _ = Int32.ofNat (T (pW T (i + 1)).2.1).toNatClampNeg
            rw [eb, n32_nat (by omega)]
        · rw [if_pos z] at k0
          exact k0 rfl _ a5 (o4.oX o5)
      · rw [if_pos hw] at k0
        exact k0 rfl _ ax4 o4
  have J0 : ∀ (m : hx_M), ¬ (10014 ≤ T i ∧ T i ≤ 10016) → AX N t i m → OFA μ kk m → wX12_rule_J48 K (Int32.ofNat kk) (Int32.ofNat kk) (-1) m := by
    intro m cv ax o
    rw [if_pos cv] at k0
    unfold wX12_rule_J48
    rw [nk, sIe]
    refine ⟨vk, vk, ?_⟩
    rintro x rfl
    exact selE rfl (k0 rfl _ ⟨ax.1, by rw [sIk (by omega)]; exact ax.2⟩ (o.s (by omega) (by omega)))
  unfold wX12_rule
  refine takesT (k := 14) (x := 10014) hT tx a (by omega) (wkE 14 (by omega)).symm (by decide) (fun z m1 o1 a1 => sel1 (JV 0 m1 (by omega) z a1 (OFA.rf.oX o1))) (fun z m1 o1 a1 => sel0 ?_)
  have p1 : OFA μ kk m1 := OFA.rf.oX o1
  refine takesT (k := 15) (x := 10015) hT (p1.tx tx) a1.at (by omega) (wkE 15 (by omega)).symm (by decide) (fun y m2 o2 a2 => sel1 (JV 1 m2 (by omega) y a2 (p1.oX o2))) (fun y m2 o2 a2 => sel0 ?_)
  have p2 : OFA μ kk m2 := p1.oX o2
  refine takesT (k := 16) (x := 10016) hT (p2.tx tx) a2.at (by omega) (wkE 16 (by omega)).symm (by decide) (fun x m3 o3 a3 => sel1 (JV 2 m3 (by omega) x a3 (p2.oX o3))) (fun x m3 o3 a3 => sel0 (J0 m3 (fun w => ?_) a3 (p2.oX o3)))
  obtain ⟨q, eq, hq⟩ := n32_of (hi := 10016) (Int32.le_trans (by decide) w.1) w.2 (by omega)
  have hq0 : 10014 ≤ q := by
    have := w.1
    rw [eq] at this
    exact (n32_le (a := 10014) (by omega) (by omega)).mp this
  have hq3 : q = 10014 ∨ q = 10015 ∨ q = 10016 := by omega
  rcases hq3 with rfl | rfl | rfl
  · exact z eq
  · exact y eq
  · exact x eq
/-- behind an aim -/
def pIf (T : Nat → Int32) (j : Nat) : pR :=
  if T j = 10017 then (if (pAny T (pOne T 8) (j + 1)).1 = false then (false, (pAny T (pOne T 8) (j + 1)).2.1, []) else if T (pAny T (pOne T 8) (j + 1)).2.1 = 20059 then (true, (pAny T (pOne T 8) (j + 1)).2.1 + 1, (pAny T (pOne T 8) (j + 1)).2.2) else (false, (pAny T (pOne T 8) (j + 1)).2.1, []))
  else if T j = 20059 then (true, j + 1, []) else (false, j, [])
theorem pRule_eq : pRule T i = if (pAim T i).1 = false then (false, (pAim T i).2.1, ((0, 0, 0, 0), [])) else if (pIf T (pAim T i).2.1).1 = false then (false, (pIf T (pAim T i).2.1).2.1, ((0, 0, 0, 0), [])) else (true, (pIf T (pAim T i).2.1).2.1, ((pAim T i).2.2, (pIf T (pAim T i).2.1).2.2)) := by
  unfold pRule pIf
  by_cases c1 : (pAim T i).1 = false
  · simp only [if_pos c1]
  · by_cases c2 : T (pAim T i).2.1 = 10017
    · by_cases c3 : (pAny T (pOne T 8) ((pAim T i).2.1 + 1)).1 = false
      · simp only [if_neg c1, if_pos c2, if_pos c3, if_true]
      · by_cases c4 : T (pAny T (pOne T 8) ((pAim T i).2.1 + 1)).2.1 = 20059
        · simp only [if_neg c1, if_pos c2, if_neg c3, if_pos c4, Bool.true_eq_false, if_false]
        · simp only [if_neg c1, if_pos c2, if_neg c3, if_neg c4, if_true]
    · by_cases c4 : T (pAim T i).2.1 = 20059
      · simp only [if_neg c1, if_neg c2, if_pos c4, Bool.true_eq_false, if_false]
      · simp only [if_neg c1, if_neg c2, if_neg c4, if_true]
/-- what reading behind an aim leaves -/
def OFI (μ : hx_M) (hs kk : Nat) (m : hx_M) : Prop := (∀ c, c ≠ 49 → (c < 68 ∨ 72 < c) → m.1 c = μ.1 c) ∧ (∀ j, j ≠ kk → m.1 68 j = μ.1 68 j ∧ m.1 69 j = μ.1 69 j) ∧ (∀ j, j ≠ 22 → j ≠ 25 → j ≠ 26 → j ≠ 41 → j ≠ 42 → m.1 49 j = μ.1 49 j) ∧ (∀ j, j < hs → m.1 70 j = μ.1 70 j ∧ m.1 71 j = μ.1 71 j ∧ m.1 72 j = μ.1 72 j) ∧ m.2 = μ.2
theorem OFI.oX {hs : Nat} (a : OFI μ hs kk m) (o : offX m m') : OFI μ hs kk m' := by
  obtain ⟨a1, a2, a3, a4, a5⟩ := a
  refine ⟨fun c h1 h2 => by rw [o.1 c h1]; exact a1 c h1 h2, fun j hj => ?_, fun j h0 h1 h2 h3 h4 => by rw [o.2.1 j h1 h3 h4]; exact a3 j h0 h1 h2 h3 h4, fun j hj => ?_, by rw [o.2.2]; exact a5⟩
  · rw [o.1 68 (by omega), o.1 69 (by omega)]; exact a2 j hj
  · rw [o.1 70 (by omega), o.1 71 (by omega), o.1 72 (by omega)]; exact a4 j hj
theorem OFI.tx {hs : Nat} (a : OFI μ hs kk m) (tx : TX N t μ) : TX N t m := ⟨tx.1, by rw [a.2.2.1 24 (by omega) (by omega) (by omega) (by omega) (by omega)]; exact tx.2.1, fun j hj => by rw [a.1 75 (by omega) (by omega)]; exact tx.2.2 j hj⟩
/-- the steps of a rule stand -/
def STP (hs kk : Nat) (st : List hl_S) (m : hx_M) : Prop := m.1 68 kk = Int32.ofNat hs ∧ m.1 69 kk = Int32.ofNat (hs + st.length) ∧ PUT hs st m
theorem ruleIfM {K : Int32 → hx_M → Prop} {hs : Nat} (hT : T = tkF t N) (tx : TX N t μ) (hk : kk < 96) (hh : hs ≤ 3500) (a : AT N t i μ) (e22 : μ.1 49 22 = Int32.ofNat hs) (e26 : μ.1 49 26 = 0)
    (k1 : (pIf T i).1 = true → ∀ m', AT N t (pIf T i).2.1 m' → m'.1 49 22 = Int32.ofNat (hs + (pIf T i).2.2.length) → STP hs kk (pIf T i).2.2 m' → OFI μ hs kk m' → K 1 m')
    (k0 : (pIf T i).1 = false → ∀ m', AX N t (pIf T i).2.1 m' → OFI μ hs kk m' → K 0 m') : wX12_rule_J113 K (Int32.ofNat kk) μ := by
  have vk : vp_in (Int32.ofNat kk) 96 := n32_in (by omega) (by omega)
  have nk : (Int32.ofNat kk).toNatClampNeg = kk := n32_nat (by omega)
  have hN := tx.1
  -- the end of a rule
  have J1 : ∀ (st : List hl_S) (j : Nat) (m : hx_M), AT N t j m → m.1 49 22 = Int32.ofNat (hs + st.length) → m.1 68 kk = Int32.ofNat hs → PUT hs st m → OFI μ hs kk m → (T j = 20059 → pIf T i = (true, j + 1, st)) → (T j ≠ 20059 → pIf T i = (false, j, [])) → wX12_rule_J142 K (Int32.ofNat kk) m := by
    intro st j m at1 f22 f68 pt o g1 g0
    unfold wX12_rule_J142
    rw [nk, f22]
    have o2 : OFI μ hs kk (hx_sI m 69 kk (Int32.ofNat (hs + st.length))) := by
      obtain ⟨a1, a2, a3, a4, a5⟩ := o
      refine ⟨fun c h1 h2 => by rw [sIk (by omega)]; exact a1 c h1 h2, fun j hj => ?_, fun j h0 h1 h2 h3 h4 => by rw [sIk (by omega)]; exact a3 j h0 h1 h2 h3 h4, fun j hj => ?_, a5⟩
      · rw [sIk (by omega), sIj hj]; exact a2 j hj
      · rw [sIk (by omega), sIk (by omega), sIk (by omega)]; exact a4 j hj
    have at2 : AT N t j (hx_sI m 69 kk (Int32.ofNat (hs + st.length))) := at1.fr (by rw [sIk (by omega)])
    refine ⟨vk, takesSignT hT (o2.tx tx) at2 (x := 20059) (by decide) (by decide) (fun z m3 o3 a3 => ⟨Or.inr rfl, ?_⟩) (fun z m3 o3 a3 => ⟨Or.inl rfl, ?_⟩)⟩
    · rw [g1 z] at k1
      refine k1 rfl m3 a3 ?_ ⟨?_, ?_, fun q s e => ?_⟩ (o2.oX o3)
      · rw [o3.2.1 22 (by omega) (by omega) (by omega), sIk (by omega)]; exact f22
      · rw [o3.1 68 (by omega), sIk (by omega)]; exact f68
      · rw [o3.1 69 (by omega), sIe]
      · rw [o3.1 70 (by omega), o3.1 71 (by omega), o3.1 72 (by omega), sIk (by omega), sIk (by omega), sIk (by omega)]; exact pt q s e
    · rw [g0 z] at k0
      exact k0 rfl m3 a3 (o2.oX o3)
  unfold wX12_rule_J113
  rw [nk, e22]
  have o1 : OFI μ hs kk (hx_sI μ 68 kk (Int32.ofNat hs)) := by
    refine ⟨fun c h1 h2 => by rw [sIk (by omega)], fun j hj => ⟨by rw [sIj hj], by rw [sIk (by omega)]⟩, fun j h0 h1 h2 h3 h4 => by rw [sIk (by omega)], fun j hj => ⟨by rw [sIk (by omega)], by rw [sIk (by omega)], by rw [sIk (by omega)]⟩, rfl⟩
  have at1 : AT N t i (hx_sI μ 68 kk (Int32.ofNat hs)) := a.fr (by rw [sIk (by omega)])
  refine ⟨vk, takesT (k := 17) (x := 10017) hT (o1.tx tx) at1 (by omega) (wkE 17 (by omega)).symm (by decide) (fun z m1 ox a1 => sel1 ?_) (fun z m1 ox a1 => sel0 ?_)⟩
  · have o2 := o1.oX ox
    have tx2 := o2.tx tx
    have rs : RS N t m1 hs 0 [] (i + 1) m1 := by
      refine ⟨a1, Nat.zero_le _, ?_, ?_, fun j s e => by simp at e, fun _ _ _ _ _ => rfl, fun _ _ _ _ _ _ => rfl, fun _ _ => ⟨rfl, rfl, rfl⟩, rfl⟩
      · rw [ox.2.1 26 (by omega) (by omega) (by omega), sIk (by omega)]; exact e26
      · rw [ox.2.1 22 (by omega) (by omega) (by omega), sIk (by omega)]; exact e22
    have f68 : m1.1 68 kk = Int32.ofNat hs := by rw [ox.1 68 (by omega), sIe]
    have h8 := singleM hT tx2 hh 8 (Nat.le_refl 8)
    have off : ∀ m2, OFF m1 hs m2 → OFI μ hs kk m2 := fun m2 p => by
      obtain ⟨p1, p2, p3, p4⟩ := p
      obtain ⟨a1, a2, a3, a4, a5⟩ := o2
      refine ⟨fun c h1 h2 => by rw [p1 c h1 (by omega) (by omega) (by omega)]; exact a1 c h1 h2, fun j hj => ?_, fun j h0 h1 h2 h3 h4 => by rw [p2 j h0 h1 h2 h3 h4]; exact a3 j h0 h1 h2 h3 h4, fun j hj => ?_, by rw [p4]; exact a5⟩
      · rw [p1 68 (by omega) (by omega) (by omega) (by omega), p1 69 (by omega) (by omega) (by omega) (by omega)]; exact a2 j hj
      · obtain ⟨q1, q2, q3⟩ := p3 j hj
        rw [q1, q2, q3]; exact a4 j hj
    refine anyM (d := 0) hT tx2 hh (pOne_grow 8) h8 _ _ _ _ rs (fun m2 ro => ?_)
    cases hb : (pAny T (pOne T 8) (i + 1)).1 with
    | false =>
      have ep : pIf T i = (false, (pAny T (pOne T 8) (i + 1)).2.1, []) := by unfold pIf; rw [if_pos z, if_pos hb]
      rw [ep] at k0
      have rf := ro.2 hb
      exact seln0 (k0 rfl m2 rf.1 (off m2 rf.2))
    | true =>
      have rs2 := ro.1 hb
      obtain ⟨r1, r2, r3, r4, r5, r6⟩ := rs2
      have hb' : ¬ (pAny T (pOne T 8) (i + 1)).1 = false := by rw [hb]; simp
      refine seln1 (J1 (pAny T (pOne T 8) (i + 1)).2.2 _ m2 r1 r4 ?_ r5 (off m2 r6) (fun y => ?_) (fun y => ?_))
      · rw [r6.1 68 (by omega) (by omega) (by omega) (by omega)]; exact f68
      · unfold pIf; rw [if_pos z, if_neg hb', if_pos y]
      · unfold pIf; rw [if_pos z, if_neg hb', if_neg y]
  · have o2 := o1.oX ox
    refine J1 [] i m1 a1.at ?_ ?_ (fun j s e => by simp at e) o2 (fun y => ?_) (fun y => ?_)
    · rw [ox.2.1 22 (by omega) (by omega) (by omega), sIk (by omega)]; exact e22
    · rw [ox.1 68 (by omega), sIe]
    · unfold pIf; rw [if_neg z, if_pos y]
    · unfold pIf; rw [if_neg z, if_neg y]
end RUM
