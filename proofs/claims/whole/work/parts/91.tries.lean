/-! layer 2: rounds found; set aside and taken back -/
def sbF (P : Nat → Bool) (ap : Nat) : Nat → Nat → Option Nat
  | 0, _ => none
  | r + 1, c => if c < ap then none else if P (c - ap) = true then some (c - ap) else sbF P ap r (c - ap)
def rdF (P : Nat → Nat → Bool) (ap : Nat) : Nat → Nat → Option (Nat × Nat)
  | 0, _ => none
  | r + 1, t => match sbF (P t) ap (t + 1) t with | some u => some (t, u) | none => rdF P ap r (t + 1)
def tr_1 (o : Option (Nat × Nat)) : Int32 := match o with | none => -1 | some x => Int32.ofNat x.1
def tr_2 (o : Option (Nat × Nat)) : Int32 := match o with | none => -1 | some x => Int32.ofNat (x.1 - x.2)
def alB (T : Nat → Nat → Int32) (n : Nat) (t u : Nat) : Bool := decide (∀ q, q < n → T u q = T t q)
theorem sbF_lt {P : Nat → Bool} {ap : Nat} (hap : 1 ≤ ap) : ∀ {r c u : Nat}, sbF P ap r c = some u → u < c
  | 0, _, _, h => by simp [sbF] at h
  | r + 1, c, u, h => by
    unfold sbF at h
    by_cases c1 : c < ap
    · rw [if_pos c1] at h; simp at h
    · rw [if_neg c1] at h
      by_cases c2 : P (c - ap) = true
      · rw [if_pos c2] at h
        have : c - ap = u := by simpa using h
        omega
      · rw [if_neg c2] at h
        have := sbF_lt hap h
        omega
section SC
variable {s N n : Nat} {T : Nat → Nat → Int32} {m : hx_M}
theorem sameC_L20 {u t : Nat} {K : Int32 → Prop} (hsN : s + N ≤ 300) (hn : n ≤ 16) (hu : u ≤ N) (ht : t ≤ N) (hT : ∀ u q, u ≤ N → q < n → m.1 16 (16 * (s + u) + q) = T u q) (k : K (bI (alB T n t u))) : ∀ (r q : Nat), q + r = n → (∀ i, i < q → T u i = T t i) → wX3_sameLengths_L20 m (Int32.ofNat (s + u)) (Int32.ofNat (s + t)) (Int32.ofNat n) K (r + 1) (Int32.ofNat q) := by
  intro r
  induction r with
  | zero =>
    intro q e h
    obtain rfl : q = n := by omega
    unfold wX3_sameLengths_L20
    refine selT (Int32.le_refl _) ?_
    have : alB T q t u = true := decide_eq_true h
    rw [this] at k
    exact k
  | succ r ih =>
    intro q e h
    unfold wX3_sameLengths_L20
    refine selF (fun z => by have := (n32_le (by omega) (by omega)).mp z; omega) (t_lengthOf (by omega) (by omega) (t_lengthOf (by omega) (by omega) ?_))
    rw [hT u q hu (by omega), hT t q ht (by omega), n32_add1]
    refine ⟨fun z => ih (q + 1) (by omega) (fun i hi => ?_), fun z => ?_⟩
    · by_cases c : i = q
      · rw [c]; exact z
      · exact h i (by omega)
    · have : alB T n t u = false := decide_eq_false (fun z2 => z (z2 q (by omega)))
      rw [this] at k
      exact k
theorem sameC {u t : Nat} {K : Int32 → Prop} (hsN : s + N ≤ 300) (hn : n ≤ 16) (hu : u ≤ N) (ht : t ≤ N) (hT : ∀ u q, u ≤ N → q < n → m.1 16 (16 * (s + u) + q) = T u q) (hS : ∀ u, u ≤ N → m.1 17 (s + u) = sumN (T u) n) (k : K (bI (alB T n t u))) : wX3_sameLengths m (Int32.ofNat (s + u)) (Int32.ofNat (s + t)) (Int32.ofNat n) K := by
  unfold wX3_sameLengths
  rw [n32_nat (by omega), n32_nat (by omega), hS u hu, hS t ht]
  refine ⟨n32_in (by omega) (by omega), n32_in (by omega) (by omega), fun _ => ⟨n + 1, sameC_L20 hsN hn hu ht hT k n 0 (by omega) (fun i hi => by omega)⟩, fun z => ?_⟩
  have : alB T n t u = false := decide_eq_false (fun z2 => z (sumN_eq fun q hq => z2 q hq))
  rw [this] at k
  exact k
theorem subneg {c ap : Nat} (hc : c < 2 ^ 29) (hap : ap < 2 ^ 29) : Int32.ofNat c - Int32.ofNat ap < 0 ↔ c < ap := by
  rw [Int32.lt_iff_toInt_lt, n32_sub (by omega) (by omega)]
  have : (0 : Int32).toInt = 0 := rfl
  rw [this]
  omega
theorem sameB_L11 {ap t : Nat} {K : Int32 → Prop} (hsN : s + N ≤ 300) (hn : n ≤ 16) (hap : 1 ≤ ap) (hap2 : ap ≤ 100) (ht : t ≤ N) (hT : ∀ u q, u ≤ N → q < n → m.1 16 (16 * (s + u) + q) = T u q) (hS : ∀ u, u ≤ N → m.1 17 (s + u) = sumN (T u) n) (e7 : m.1 7 7 = Int32.ofNat s) (e8 : m.1 8 0 = Int32.ofNat n) : ∀ (r c : Nat), c ≤ t → c < r → K (la_I (sbF (alB T n t) ap r c)) → wX9_sameBefore_L11 m (Int32.ofNat t) (Int32.ofNat ap) K r (Int32.ofNat c - Int32.ofNat ap) := by
  intro r
  induction r with
  | zero => intro c h1 h2; omega
  | succ r ih =>
    intro c h1 h2 k
    unfold wX9_sameBefore_L11
    unfold sbF at k
    by_cases c1 : c < ap
    · rw [if_pos c1] at k
      exact selT ((subneg (by omega) (by omega)).mpr c1) k
    · rw [if_neg c1] at k
      refine selF (fun z => c1 ((subneg (by omega) (by omega)).mp z)) ?_
      rw [n32_subn (by omega), e7, n32_add, n32_add, e8]
      refine sameC hsN hn (by omega) ht hT hS ?_
      by_cases c2 : alB T n t (c - ap) = true
      · rw [if_pos c2] at k
        rw [c2]
        exact sel1 k
      · rw [if_neg c2] at k
        have : alB T n t (c - ap) = false := by simpa using c2
        rw [this]
        exact sel0 (ih (c - ap) (by omega) (by omega) k)
theorem roundIn_L3 {ap M wh : Nat} {K : Int32 → Prop} (hM : M ≤ N) (hsN : s + N ≤ 300) (hn : n ≤ 16) (hap : 1 ≤ ap) (hap2 : ap ≤ 100) (hwh : wh < 2) (hT : ∀ u q, u ≤ N → q < n → m.1 16 (16 * (s + u) + q) = T u q) (hS : ∀ u, u ≤ N → m.1 17 (s + u) = sumN (T u) n) (e7 : m.1 7 7 = Int32.ofNat s) (e8 : m.1 8 0 = Int32.ofNat n) : ∀ (r t : Nat), t + r = M + 1 → K (if wh = 0 then tr_1 (rdF (alB T n) ap r t) else tr_2 (rdF (alB T n) ap r t)) → wX9_roundIn_L3 m (Int32.ofNat M) (Int32.ofNat ap) (Int32.ofNat wh) K (r + 1) (Int32.ofNat t) := by
  intro r
  induction r with
  | zero =>
    intro t e k
    obtain rfl : t = M + 1 := by omega
    unfold wX9_roundIn_L3
    refine selT ((n32_lt (by omega) (by omega)).mpr (by omega)) ?_
    have : (if wh = 0 then tr_1 (rdF (alB T n) ap 0 (M + 1)) else tr_2 (rdF (alB T n) ap 0 (M + 1))) = -1 := by
      split <;> rfl
    rw [this] at k
    exact k
  | succ r ih =>
    intro t e k
    unfold wX9_roundIn_L3
    refine selF (fun z => by have := (n32_lt (by omega) (by omega)).mp z; omega) ?_
    unfold wX9_sameBefore
    have eap : (if 1 < Int32.ofNat ap then Int32.ofNat ap else 1) = Int32.ofNat ap := by
      by_cases c : 1 < Int32.ofNat ap
      · rw [if_pos c]
      · rw [if_neg c]
        have : ¬ 1 < ap := fun z => c ((n32_lt (a := 1) (by omega) (by omega)).mpr z)
        rw [show ap = 1 by omega]; rfl
    rw [eap]
    refine ⟨t + 1, sameB_L11 hsN hn hap hap2 (by omega) hT hS e7 e8 (t + 1) t (Nat.le_refl _) (by omega) ?_⟩
    unfold rdF at k
    cases hsb : sbF (alB T n t) ap (t + 1) t with
    | none =>
      rw [hsb] at k
      refine selT rfl ?_
      rw [n32_add1]
      exact ih (t + 1) (by omega) k
    | some u =>
      rw [hsb] at k
      have hu := sbF_lt hap hsb
      refine selF (n32_neg (by omega) (by decide)) ⟨fun z => ?_, fun z => ?_⟩
      · rw [if_neg (fun z2 => z (by rw [z2]; rfl))] at k
        show K (Int32.ofNat t - Int32.ofNat u)
        rw [n32_subn (by omega)]
        exact k
      · rw [if_pos ((n32_eq (b := 0) (by omega) (by omega)).mp z)] at k
        exact k
end SC
/-! the reference's setting aside -/
theorem keeps_L30 {μ : hx_M} {K K1 : hx_M → Prop} (k : ∀ m, (∀ k, k ≠ 78 → m.1 k = μ.1 k) → m.2 = μ.2 → (∀ j, m.1 78 j = if 2 ≤ j ∧ j < 18 then μ.1 52 (j - 2) else if 18 ≤ j ∧ j < 34 then μ.1 53 (j - 18) else μ.1 78 j) → K1 m) : ∀ (r i : Nat) (m : hx_M), i + r = 16 → (∀ k, k ≠ 78 → m.1 k = μ.1 k) → m.2 = μ.2 → (∀ j, m.1 78 j = if 2 ≤ j ∧ j < 2 + i then μ.1 52 (j - 2) else if 18 ≤ j ∧ j < 18 + i then μ.1 53 (j - 18) else μ.1 78 j) → wX12_keeps_L30 K K1 (r + 1) (Int32.ofNat i) m := by
  intro r
  induction r with
  | zero =>
    intro i m e h1 h2 h3
    obtain rfl : i = 16 := by omega
    unfold wX12_keeps_L30
    exact selT (by decide) (k m h1 h2 h3)
  | succ r ih =>
    intro i m e h1 h2 h3
    unfold wX12_keeps_L30
    have e2 : 2 + Int32.ofNat i = Int32.ofNat (2 + i) := by rw [← n32_add]; rfl
    have e18 : 18 + Int32.ofNat i = Int32.ofNat (18 + i) := by rw [← n32_add]; rfl
    rw [e2, e18, n32_nat (by omega), n32_nat (by omega), n32_nat (by omega), n32_add1, h1 52 (by omega)]
    refine selF (fun z => by have := (n32_le (a := 16) (by omega) (by omega)).mp z; omega) ⟨n32_in (by omega) (by omega), n32_in (by omega) (by omega), n32_in (by omega) (by omega), n32_in (by omega) (by omega), ih (i + 1) _ (by omega) (fun k hk => by rw [sIk hk, sIk hk]; exact h1 k hk) h2 (fun j => ?_)⟩
    rw [hm_sI, hm_sI, h3, h1 53 (by omega)]
    by_cases c : j = 18 + i
    · subst c
      rw [if_pos ⟨rfl, rfl⟩, if_neg (by omega), if_pos (by omega), show 18 + i - 18 = i by omega]
    · rw [if_neg (fun z => c z.2)]
      by_cases c2 : j = 2 + i
      · subst c2
        rw [if_pos ⟨rfl, rfl⟩, if_pos (by omega), show 2 + i - 2 = i by omega]
      · rw [if_neg (fun z => c2 z.2)]
        by_cases c3 : 2 ≤ j ∧ j < 2 + i
        · rw [if_pos c3, if_pos (by omega)]
        · by_cases c4 : 18 ≤ j ∧ j < 18 + i
          · rw [if_neg c3, if_pos c4, if_neg (by omega), if_pos (by omega)]
          · rw [if_neg c3, if_neg c4, if_neg (by omega), if_neg (by omega)]
theorem keeps_L73 {μ : hx_M} {K : hx_M → Prop} (k : ∀ m, (∀ k, k ≠ 78 → m.1 k = μ.1 k) → m.2 = μ.2 → (∀ j, m.1 78 j = if 34 ≤ j ∧ j < 130 then μ.1 56 (j - 34) else μ.1 78 j) → K m) : ∀ (r i : Nat) (m : hx_M), i + r = 96 → (∀ k, k ≠ 78 → m.1 k = μ.1 k) → m.2 = μ.2 → (∀ j, m.1 78 j = if 34 ≤ j ∧ j < 34 + i then μ.1 56 (j - 34) else μ.1 78 j) → wX12_keeps_L73 K (r + 1) (Int32.ofNat i) m := by
  intro r
  induction r with
  | zero =>
    intro i m e h1 h2 h3
    obtain rfl : i = 96 := by omega
    unfold wX12_keeps_L73
    exact selT (by decide) (k m h1 h2 h3)
  | succ r ih =>
    intro i m e h1 h2 h3
    unfold wX12_keeps_L73
    have e2 : 34 + Int32.ofNat i = Int32.ofNat (34 + i) := by rw [← n32_add]; rfl
    rw [e2, n32_nat (by omega), n32_nat (by omega), n32_add1, h1 56 (by omega)]
    refine selF (fun z => by have := (n32_le (a := 96) (by omega) (by omega)).mp z; omega) ⟨n32_in (by omega) (by omega), n32_in (by omega) (by omega), ih (i + 1) _ (by omega) (fun k hk => by rw [sIk hk]; exact h1 k hk) h2 (fun j => ?_)⟩
    rw [hm_sI, h3]
    by_cases c : j = 34 + i
    · subst c
      rw [if_pos ⟨rfl, rfl⟩, if_pos (by omega), show 34 + i - 34 = i by omega]
    · rw [if_neg (fun z => c z.2)]
      by_cases c3 : 34 ≤ j ∧ j < 34 + i
      · rw [if_pos c3, if_pos (by omega)]
      · rw [if_neg c3, if_neg (by omega)]
theorem keepsM {μ : hx_M} {K : hx_M → Prop} (k : ∀ m, (∀ k, k ≠ 78 → m.1 k = μ.1 k) → (∀ k, k ≠ 49 → m.2 k = μ.2 k) → (∀ j, m.2 49 j = if j = 47 then μ.2 49 6 else μ.2 49 j) → m.1 78 0 = μ.1 49 1 → m.1 78 1 = μ.1 49 2 → (∀ p, p < 16 → m.1 78 (2 + p) = μ.1 52 p ∧ m.1 78 (18 + p) = μ.1 53 p) → (∀ j, j < 96 → m.1 78 (34 + j) = μ.1 56 j) → K m) : wX12_keeps μ K := by
  unfold wX12_keeps
  have z0 : (0 : Int32).toNatClampNeg = 0 := rfl
  have z1 : (1 : Int32).toNatClampNeg = 1 := rfl
  rw [z0, z1]
  refine ⟨by unfold vp_in; decide, by unfold vp_in; decide, 17, keeps_L30 (μ := hx_sI (hx_sI (hx_sL μ 49 47 (μ.2 49 6)) 78 0 (μ.1 49 1)) 78 1 (μ.1 49 2)) (fun m1 h1 h2 h3 => ⟨97, keeps_L73 (μ := m1) (fun m2 g1 g2 g3 => ?_) 96 0 m1 (by omega) (fun _ _ => rfl) rfl (fun j => by rw [if_neg (by omega)])⟩) 16 0 _ (by omega) (fun _ _ => rfl) rfl (fun j => by rw [if_neg (by omega), if_neg (by omega)])⟩
  refine k m2 (fun i hi => ?_) (fun i hi => ?_) (fun j => ?_) ?_ ?_ (fun p hp => ⟨?_, ?_⟩) (fun j hj => ?_)
  · rw [g1 i hi, h1 i hi, sIk hi, sIk hi]; rfl
  · rw [g2, h2]
    funext j
    show (hx_sL μ 49 47 (μ.2 49 6)).2 i j = _
    rw [hm_sLv, if_neg (fun z => hi z.1)]
  · rw [g2, h2]
    show (hx_sL μ 49 47 (μ.2 49 6)).2 49 j = _
    rw [hm_sLv]
    by_cases c : j = 47
    · rw [if_pos ⟨rfl, c⟩, if_pos c]
    · rw [if_neg (fun z => c z.2), if_neg c]
  · rw [g3, if_neg (by omega), h3, if_neg (by omega), if_neg (by omega), sIj (by omega), sIe]
  · rw [g3, if_neg (by omega), h3, if_neg (by omega), if_neg (by omega), sIe]
  · rw [g3, if_neg (by omega), h3, if_pos (by omega), sIk (by omega), sIk (by omega), show 2 + p - 2 = p by omega]; rfl
  · rw [g3, if_neg (by omega), h3, if_neg (by omega), if_pos (by omega), sIk (by omega), sIk (by omega), show 18 + p - 18 = p by omega]; rfl
  · rw [g3, if_pos (by omega), h1 56 (by omega), sIk (by omega), sIk (by omega), show 34 + j - 34 = j by omega]; rfl
theorem back_L30 {μ : hx_M} {K K1 : hx_M → Prop} (k : ∀ m, (∀ k, k ≠ 52 → k ≠ 53 → m.1 k = μ.1 k) → m.2 = μ.2 → (∀ j, j < 16 → m.1 52 j = μ.1 78 (2 + j) ∧ m.1 53 j = μ.1 78 (18 + j)) → K1 m) : ∀ (r i : Nat) (m : hx_M), i + r = 16 → (∀ k, k ≠ 52 → k ≠ 53 → m.1 k = μ.1 k) → m.2 = μ.2 → (∀ j, j < i → m.1 52 j = μ.1 78 (2 + j) ∧ m.1 53 j = μ.1 78 (18 + j)) → wX12_takesBack_L30 K K1 (r + 1) (Int32.ofNat i) m := by
  intro r
  induction r with
  | zero =>
    intro i m e h1 h2 h3
    obtain rfl : i = 16 := by omega
    unfold wX12_takesBack_L30
    exact selT (by decide) (k m h1 h2 h3)
  | succ r ih =>
    intro i m e h1 h2 h3
    unfold wX12_takesBack_L30
    have e2 : 2 + Int32.ofNat i = Int32.ofNat (2 + i) := by rw [← n32_add]; rfl
    have e18 : 18 + Int32.ofNat i = Int32.ofNat (18 + i) := by rw [← n32_add]; rfl
    rw [e2, e18, n32_nat (by omega), n32_nat (by omega), n32_nat (by omega), n32_add1, h1 78 (by omega) (by omega)]
    refine selF (fun z => by have := (n32_le (a := 16) (by omega) (by omega)).mp z; omega) ⟨n32_in (by omega) (by omega), n32_in (by omega) (by omega), n32_in (by omega) (by omega), n32_in (by omega) (by omega), ih (i + 1) _ (by omega) (fun k a b => by rw [sIk b, sIk a]; exact h1 k a b) h2 (fun j hj => ?_)⟩
    by_cases c : j = i
    · subst c
      rw [sIk (by omega), sIe, sIe]
      exact ⟨rfl, rfl⟩
    · rw [sIk (by omega), sIj c, sIj c, sIk (by omega)]
      exact h3 j (by omega)
theorem back_L73 {μ : hx_M} {K : hx_M → Prop} (k : ∀ m, (∀ k, k ≠ 56 → m.1 k = μ.1 k) → m.2 = μ.2 → (∀ j, j < 96 → m.1 56 j = μ.1 78 (34 + j)) → K m) : ∀ (r i : Nat) (m : hx_M), i + r = 96 → (∀ k, k ≠ 56 → m.1 k = μ.1 k) → m.2 = μ.2 → (∀ j, j < i → m.1 56 j = μ.1 78 (34 + j)) → wX12_takesBack_L73 K (r + 1) (Int32.ofNat i) m := by
  intro r
  induction r with
  | zero =>
    intro i m e h1 h2 h3
    obtain rfl : i = 96 := by omega
    unfold wX12_takesBack_L73
    exact selT (by decide) (k m h1 h2 h3)
  | succ r ih =>
    intro i m e h1 h2 h3
    unfold wX12_takesBack_L73
    have e2 : 34 + Int32.ofNat i = Int32.ofNat (34 + i) := by rw [← n32_add]; rfl
    rw [e2, n32_nat (by omega), n32_nat (by omega), n32_add1, h1 78 (by omega)]
    refine selF (fun z => by have := (n32_le (a := 96) (by omega) (by omega)).mp z; omega) ⟨n32_in (by omega) (by omega), n32_in (by omega) (by omega), ih (i + 1) _ (by omega) (fun k a => by rw [sIk a]; exact h1 k a) h2 (fun j hj => ?_)⟩
    by_cases c : j = i
    · subst c
      rw [sIe]
    · rw [sIj c]
      exact h3 j (by omega)
theorem backM {μ : hx_M} {K : hx_M → Prop} (k : ∀ m, (∀ k, k ≠ 49 → k ≠ 52 → k ≠ 53 → k ≠ 56 → m.1 k = μ.1 k) → (∀ j, m.1 49 j = if j = 1 then μ.1 78 0 else if j = 2 then μ.1 78 1 else μ.1 49 j) → (∀ k, k ≠ 49 → m.2 k = μ.2 k) → (∀ j, m.2 49 j = if j = 6 then μ.2 49 47 else μ.2 49 j) → (∀ j, j < 16 → m.1 52 j = μ.1 78 (2 + j) ∧ m.1 53 j = μ.1 78 (18 + j)) → (∀ j, j < 96 → m.1 56 j = μ.1 78 (34 + j)) → K m) : wX12_takesBack μ K := by
  unfold wX12_takesBack
  have z0 : (0 : Int32).toNatClampNeg = 0 := rfl
  have z1 : (1 : Int32).toNatClampNeg = 1 := rfl
  rw [z0, z1]
  refine ⟨by unfold vp_in; decide, by unfold vp_in; decide, 17, back_L30 (μ := hx_sI (hx_sI (hx_sL μ 49 6 (μ.2 49 47)) 49 1 (μ.1 78 0)) 49 2 (μ.1 78 1)) (fun m1 h1 h2 h3 => ⟨97, back_L73 (μ := m1) (fun m2 g1 g2 g3 => ?_) 96 0 m1 (by omega) (fun _ _ => rfl) rfl (fun j hj => by omega)⟩) 16 0 _ (by omega) (fun _ _ _ => rfl) rfl (fun j hj => by omega)⟩
  have e78 : m1.1 78 = μ.1 78 := by rw [h1 78 (by omega) (by omega), sIk (by omega), sIk (by omega)]; rfl
  refine k m2 (fun i a b c d => ?_) (fun j => ?_) (fun i hi => ?_) (fun j => ?_) (fun j hj => ?_) (fun j hj => ?_)
  · rw [g1 i d, h1 i b c, sIk a, sIk a]; rfl
  · rw [g1 49 (by omega), h1 49 (by omega) (by omega), hm_sI, hm_sI]
    by_cases c1 : j = 1
    · rw [if_neg (by omega), if_pos ⟨rfl, c1⟩, if_pos c1]
    · rw [if_neg c1]
      by_cases c2 : j = 2
      · rw [if_pos ⟨rfl, c2⟩, if_pos c2]
      · rw [if_neg (fun z => c2 z.2), if_neg (fun z => c1 z.2), if_neg c2]; rfl
  · rw [g2, h2]
    funext j
    show (hx_sL μ 49 6 (μ.2 49 47)).2 i j = _
    rw [hm_sLv, if_neg (fun z => hi z.1)]
  · rw [g2, h2]
    show (hx_sL μ 49 6 (μ.2 49 47)).2 49 j = _
    rw [hm_sLv]
    by_cases c : j = 6
    · rw [if_pos ⟨rfl, c⟩, if_pos c]
    · rw [if_neg (fun z => c z.2), if_neg c]
  · have := h3 j hj
    rw [sIk (by omega), sIk (by omega)] at this
    rw [g1 52 (by omega), g1 53 (by omega)]
    exact this
  · rw [g3 j hj, e78]
