/-! layer 2: law, how the class reads a rule -/
def pAim (T : Nat → Int32) (i : Nat) : Bool × Nat × (Nat × Nat × Nat × Nat) :=
  if ¬ (10014 ≤ T i ∧ T i ≤ 10016) then (false, i, (0, 0, 0, 0))
  else if T i = 10016 then (true, i + 1, (2, 0, 0, 0))
  else if ¬ (10008 ≤ T (i + 1) ∧ T (i + 1) ≤ 10013) then (false, i + 1, (0, 0, 0, 0))
  else if T (i + 1) = 10012 then (if ¬ (0 ≤ T (i + 2) ∧ T (i + 2) ≤ 3) then (false, i + 2, (0, 0, 0, 0)) else if ¬ (0 ≤ T (i + 3) ∧ T (i + 3) ≤ 60) then (false, i + 3, (0, 0, 0, 0)) else (true, i + 4, ((T i - 10014).toNatClampNeg, 4, (T (i + 2)).toNatClampNeg, (T (i + 3)).toNatClampNeg)))
  else if T (i + 1) = 10013 then (if ¬ (1 ≤ T (i + 2) ∧ T (i + 2) ≤ 99) then (false, i + 2, (0, 0, 0, 0)) else if ¬ (0 ≤ T (i + 3) ∧ T (i + 3) ≤ 60) then (false, i + 3, (0, 0, 0, 0)) else (true, i + 4, ((T i - 10014).toNatClampNeg, 5, (T (i + 2)).toNatClampNeg, (T (i + 3)).toNatClampNeg)))
  else if ¬ (0 ≤ T (i + 2) ∧ T (i + 2) ≤ 60) then (false, i + 2, (0, 0, 0, 0)) else (true, i + 3, ((T i - 10014).toNatClampNeg, (T (i + 1) - 10008).toNatClampNeg, 0, (T (i + 2)).toNatClampNeg))
def pRule (T : Nat → Int32) (i : Nat) : Bool × Nat × hl_R :=
  if (pAim T i).1 = false then (false, (pAim T i).2.1, ((0, 0, 0, 0), []))
  else if T (pAim T i).2.1 = 10017 then (if (pAny T (pOne T 8) ((pAim T i).2.1 + 1)).1 = false then (false, (pAny T (pOne T 8) ((pAim T i).2.1 + 1)).2.1, ((0, 0, 0, 0), [])) else if T (pAny T (pOne T 8) ((pAim T i).2.1 + 1)).2.1 = 20059 then (true, (pAny T (pOne T 8) ((pAim T i).2.1 + 1)).2.1 + 1, ((pAim T i).2.2, (pAny T (pOne T 8) ((pAim T i).2.1 + 1)).2.2)) else (false, (pAny T (pOne T 8) ((pAim T i).2.1 + 1)).2.1, ((0, 0, 0, 0), [])))
  else if T (pAim T i).2.1 = 20059 then (true, (pAim T i).2.1 + 1, ((pAim T i).2.2, [])) else (false, (pAim T i).2.1, ((0, 0, 0, 0), []))
/-- a rule as the class puts it at a place -/
def rCode (r : hl_R) (at0 : Nat) : List Int32 := hl_head r :: Int32.ofNat (at0 + 2 + r.2.length) :: r.2.map hl_step
section RC
variable {C : Nat} {T : Nat → Int32} {μ m : hx_M} {V : List Int32} {i : Nat}
theorem sub_c {x : Int32} {c : Nat} {hi : Nat} (hc : c ≤ 30000) (hh : hi ≤ 1000) : (0 ≤ x - Int32.ofNat c ∧ x - Int32.ofNat c ≤ Int32.ofNat hi) ↔ (Int32.ofNat c ≤ x ∧ x ≤ Int32.ofNat (c + hi)) := by
  constructor
  · intro h
    obtain ⟨w, ew, hw⟩ := n32_of (hi := hi) h.1 h.2 (by omega)
    have : x = Int32.ofNat (c + w) := by
      rw [← n32_add, ← ew]; grind
    rw [this]
    exact ⟨(n32_le (by omega) (by omega)).mpr (by omega), (n32_le (by omega) (by omega)).mpr (by omega)⟩
  · intro h
    obtain ⟨w, ew, hw⟩ := n32_of (hi := c + hi) (Int32.le_trans ((n32_le (a := 0) (by omega) (by omega)).mpr (Nat.zero_le c)) h.1) h.2 (by omega)
    have hcw : c ≤ w := by
      have := h.1
      rw [ew] at this
      exact (n32_le (by omega) (by omega)).mp this
    rw [ew, n32_subn hcw]
    exact ⟨(n32_le (a := 0) (by omega) (by omega)).mpr (by omega), (n32_le (by omega) (by omega)).mpr (by omega)⟩
theorem headE {v w n b : Nat} {K : Int32 → Prop} (hv : v ≤ 2) (hw : w ≤ 5) (hn : n ≤ 99) (hb : b ≤ 60) (k : K (Int32.ofNat (v + 4 * w + 32 * b + 2048 * n))) : wX1_head (Int32.ofNat v) (Int32.ofNat w) (Int32.ofNat n) (Int32.ofNat b) K := by
  have e2 : (2 : Int32) &&& 31 = Int32.ofNat 2 := rfl
  have e5 : (5 : Int32) &&& 31 = Int32.ofNat 5 := rfl
  have e11 : (11 : Int32) &&& 31 = Int32.ofNat 11 := rfl
  have o1 : v ||| w * 2 ^ 2 = v + 4 * w := by
    rw [Nat.or_comm, Nat.mul_comm w, ← Nat.two_pow_add_eq_or_of_lt (by omega)]; omega
  have o2 : (v + 4 * w) ||| b * 2 ^ 5 = v + 4 * w + 32 * b := by
    rw [Nat.or_comm, Nat.mul_comm b, ← Nat.two_pow_add_eq_or_of_lt (by omega)]; omega
  have o3 : (v + 4 * w + 32 * b) ||| n * 2 ^ 11 = v + 4 * w + 32 * b + 2048 * n := by
    rw [Nat.or_comm, Nat.mul_comm n, ← Nat.two_pow_add_eq_or_of_lt (by omega)]; omega
  unfold wX1_head
  rintro x rfl
  rw [e2, e5, e11, n32_shl (by omega), n32_shl (by omega), n32_shl (by omega), n32_or, o1, n32_or, o2, n32_or, o3]
  exact k
def aimH (q : Nat × Nat × Nat × Nat) : Int32 := Int32.ofNat (q.1 + 4 * q.2.1 + 32 * q.2.2.2 + 2048 * q.2.2.1)
theorem aimC {K : Int32 → hx_M → Prop} (t : TR C T μ) (h : PS C T μ V i m) (k : ∀ m', PS C T μ V (pAim T i).2.1 m' → K (if (pAim T i).1 = true then aimH (pAim T i).2.2 else -1) m') : wX2_readAim m K := by
  obtain ⟨h1, h2⟩ := h.tok t
  have hC := t.1.1
  unfold pAim at k
  unfold wX2_readAim
  rw [h2]
  refine ⟨h1, ?_⟩
  have w1 := sub_c (x := T i) (c := 10014) (hi := 2) (by omega) (by omega)
  by_cases c1 : 10014 ≤ T i ∧ T i ≤ 10016
  · rw [if_neg (not_not_intro c1)] at k
    refine t_withinY (w1.mpr c1) (seln1 ?_)
    obtain ⟨v, ev, hv⟩ := n32_of (hi := 2) (w1.mpr c1).1 (w1.mpr c1).2 (by omega)
    have ev' : T i - 10014 = Int32.ofNat v := ev
    have hiC := t.lt h.1 (i := i) (fun z => by rw [z] at c1; exact absurd c1.1 (by decide))
    have p1 := h.next hiC
    have hTi : T i = Int32.ofNat (10014 + v) := by
      rw [← n32_add, ← ev']
      have : Int32.ofNat 10014 = 10014 := rfl
      rw [this]; grind
    rw [ev']
    by_cases c2 : T i = 10016
    · have hv2 : v = 2 := by
        rw [hTi] at c2
        have := (n32_eq (b := 10016) (by omega) (by omega)).mp c2
        omega
      subst hv2
      rw [if_pos c2] at k
      refine selE rfl (headE (n := 0) (w := 0) (b := 0) (by omega) (by omega) (by omega) (by omega) ?_)
      rw [if_pos rfl] at k
      exact k _ p1
    · rw [if_neg c2] at k
      have hv2 : v ≤ 1 := by
        have : v ≠ 2 := fun z => c2 (by rw [hTi, z]; rfl)
        omega
      obtain ⟨q1, q2⟩ := p1.tok t
      have hT1 : ∀ X : Prop, (vp_in (m.1 2 4 + 1) 701 → m.1 3 (m.1 2 4 + 1).toNatClampNeg = T (i + 1) → X) → X := fun X hX => hX (by rw [sIe] at q1; exact q1) (by rw [sIe, sIk (by omega)] at q2; exact q2)
      refine hT1 _ (fun r1 r2 => ?_)
      rw [r2]
      refine selN (fun z => by have := (n32_eq (b := 2) (by omega) (by omega)).mp z; omega) ⟨r1, ?_⟩
      rintro x5 rfl
      have ex : T (i + 1) - 10000 - 8 = T (i + 1) - 10008 := by grind
      rw [ex]
      have w2 := sub_c (x := T (i + 1)) (c := 10008) (hi := 5) (by omega) (by omega)
      by_cases c3 : 10008 ≤ T (i + 1) ∧ T (i + 1) ≤ 10013
      · rw [if_neg (not_not_intro c3)] at k
        refine t_withinY (w2.mpr c3) (seln1 ?_)
        obtain ⟨wh, ew, hw⟩ := n32_of (hi := 5) (w2.mpr c3).1 (w2.mpr c3).2 (by omega)
        have ew' : T (i + 1) - 10008 = Int32.ofNat wh := ew
        have hTw : T (i + 1) = Int32.ofNat (10008 + wh) := by
          rw [← n32_add, ← ew']
          have : Int32.ofNat 10008 = 10008 := rfl
          rw [this]; grind
        have hiC1 := t.lt p1.1 (fun z => by rw [z] at c3; exact absurd c3.1 (by decide))
        have p2 := p1.next hiC1
        rw [sIe] at p2
        rw [ew']
        have fin : ∀ (n j : Nat) (m' : hx_M), n ≤ 99 → PS C T μ V j m' → (¬ (0 ≤ T j ∧ T j ≤ 60) → ∀ m', PS C T μ V j m' → K (-1) m') → (0 ≤ T j ∧ T j ≤ 60 → ∀ m', PS C T μ V (j + 1) m' → K (aimH (v, wh, n, (T j).toNatClampNeg)) m') → wX2_readAim_J116 K (Int32.ofNat v) (Int32.ofNat wh) (Int32.ofNat n) m' := by
          intro n j m' hn hp k0 k1
          unfold wX2_readAim_J116
          refine selN (n32_neg (by omega) (by decide)) (numC t hp (by decide) (fun z m2 hp2 => ?_) (fun z => ?_))
          · refine selN (fun z2 => by rw [z2] at z; exact absurd z.1 (by decide)) ?_
            obtain ⟨b, eb, hb⟩ := n32_of (hi := 60) z.1 z.2 (by omega)
            have k1' := k1 z m2 hp2
            rw [eb, n32_nat (by omega)] at k1'
            rw [eb]
            exact headE hv (by omega) hn hb k1'
          · exact selE rfl (k0 z m' hp)
        have num : ∀ (lo hi : Nat) (j : Nat), lo ≤ hi → hi ≤ 99 → (∀ m', PS C T μ V (i + 2) m' → ¬ (Int32.ofNat lo ≤ T (i + 2) ∧ T (i + 2) ≤ Int32.ofNat hi) → K (-1) m') → (∀ (n : Nat) m', PS C T μ V (i + 3) m' → T (i + 2) = Int32.ofNat n → n ≤ 99 → (Int32.ofNat lo ≤ T (i + 2) ∧ T (i + 2) ≤ Int32.ofNat hi) → wX2_readAim_J116 K (Int32.ofNat v) (Int32.ofNat wh) (Int32.ofNat n) m') → wX2_readNumber (hx_sI (hx_sI m 2 4 (m.1 2 4 + 1)) 2 4 (m.1 2 4 + 1 + 1)) (Int32.ofNat lo) (Int32.ofNat hi) (fun r m' => wX2_readAim_J116 K (Int32.ofNat v) (Int32.ofNat wh) r m') := by
          intro lo hi j hlh hh k0 k1
          refine numC t p2 ((n32_le (a := 0) (by omega) (by omega)).mpr (Nat.zero_le lo)) (fun z m2 hp2 => ?_) (fun z => ?_)
          · obtain ⟨n, en, hn⟩ := n32_of (hi := hi) (Int32.le_trans ((n32_le (a := 0) (by omega) (by omega)).mpr (Nat.zero_le lo)) z.1) z.2 (by omega)
            have k1' := k1 n m2 hp2 en (by omega) z
            rw [en]
            exact k1'
          · unfold wX2_readAim_J116
            exact selE rfl (k0 _ p2 z)
        by_cases c4 : T (i + 1) = 10012
        · rw [if_pos c4] at k
          have hw4 : wh = 4 := by
            rw [hTw] at c4
            have := (n32_eq (b := 10012) (by omega) (by omega)).mp c4
            omega
          subst hw4
          refine selE rfl (num 0 3 0 (by omega) (by omega) (fun m' hp z => ?_) (fun n m' hp en hn z => ?_))
          · have z' : ¬ (0 ≤ T (i + 2) ∧ T (i + 2) ≤ 3) := z
            rw [if_pos z'] at k
            exact k m' hp
          · have z' : 0 ≤ T (i + 2) ∧ T (i + 2) ≤ 3 := z
            rw [if_neg (not_not_intro z')] at k
            refine fin n (i + 3) m' hn hp (fun z2 m'' hp2 => ?_) (fun z2 m'' hp2 => ?_)
            · rw [if_pos z2] at k
              exact k m'' hp2
            · rw [if_neg (not_not_intro z2), if_pos rfl, ev', en, n32_nat (by omega), n32_nat (by omega)] at k
              exact k m'' hp2
        · rw [if_neg c4] at k
          have hw4 : wh ≠ 4 := fun z => c4 (by rw [hTw, z]; rfl)
          refine selN (fun z => hw4 ((n32_eq (b := 4) (by omega) (by omega)).mp z)) ?_
          by_cases c5 : T (i + 1) = 10013
          · rw [if_pos c5] at k
            have hw5 : wh = 5 := by
              rw [hTw] at c5
              have := (n32_eq (b := 10013) (by omega) (by omega)).mp c5
              omega
            subst hw5
            refine selE rfl (num 1 99 0 (by omega) (by omega) (fun m' hp z => ?_) (fun n m' hp en hn z => ?_))
            · have z' : ¬ (1 ≤ T (i + 2) ∧ T (i + 2) ≤ 99) := z
              rw [if_pos z'] at k
              exact k m' hp
            · have z' : 1 ≤ T (i + 2) ∧ T (i + 2) ≤ 99 := z
              rw [if_neg (not_not_intro z')] at k
              refine fin n (i + 3) m' hn hp (fun z2 m'' hp2 => ?_) (fun z2 m'' hp2 => ?_)
              · rw [if_pos z2] at k
                exact k m'' hp2
              · rw [if_neg (not_not_intro z2), if_pos rfl, ev', en, n32_nat (by omega), n32_nat (by omega)] at k
                exact k m'' hp2
          · rw [if_neg c5] at k
            have hw5 : wh ≠ 5 := fun z => c5 (by rw [hTw, z]; rfl)
            refine selN (fun z => hw5 ((n32_eq (b := 5) (by omega) (by omega)).mp z)) (fin 0 (i + 2) _ (by omega) p2 (fun z2 m'' hp2 => ?_) (fun z2 m'' hp2 => ?_))
            · rw [if_pos z2] at k
              exact k m'' hp2
            · rw [if_neg (not_not_intro z2), if_pos rfl, ev', ew', n32_nat (by omega), n32_nat (by omega)] at k
              exact k m'' hp2
      · rw [if_pos c3] at k
        exact t_withinN (fun z => c3 (w2.mp z)) (seln0 (k _ p1))
  · rw [if_pos c1] at k
    exact t_withinN (fun z => c1 (w1.mp z)) (seln0 (k m h))
end RC
