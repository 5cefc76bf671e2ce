/-! layer 2: law, the class's tokens -/
theorem wm_iff {t : Nat → Int32} {p : Nat} : ∀ {L : Nat} {c : List Nat}, wm t p L c = true ↔ (L = c.length ∧ ∀ i, i < c.length → t (p + i) = Int32.ofNat (c.getD (c.length - 1 - i) 0))
  | 0, [] => ⟨fun _ => ⟨rfl, fun i hi => by simp at hi⟩, fun _ => rfl⟩
  | 0, c :: r => ⟨fun z => by simp [wm] at z, fun z => by simp at z⟩
  | L + 1, [] => ⟨fun z => by simp [wm] at z, fun z => by simp at z⟩
  | L + 1, c :: r => by
    show (decide (t (p + L) = Int32.ofNat c) && wm t p L r) = true ↔ _
    rw [Bool.and_eq_true, decide_eq_true_eq, wm_iff]
    constructor
    · rintro ⟨h1, h2, h3⟩
      refine ⟨by simp [h2], fun i hi => ?_⟩
      have hi' : i < r.length + 1 := hi
      by_cases e : i = r.length
      · subst e
        rw [← h2, h1]
        simp [← h2]
      · have := h3 i (by omega)
        rw [this]
        have e2 : (c :: r).length - 1 - i = (r.length - 1 - i) + 1 := by
          show r.length + 1 - 1 - i = _
          omega
        rw [e2]
        rfl
    · rintro ⟨h1, h2⟩
      have h1' : L = r.length := by
        have : L + 1 = r.length + 1 := h1
        omega
      refine ⟨?_, h1', fun i hi => ?_⟩
      · have := h2 L (by show L < r.length + 1; omega)
        rw [this]
        have e2 : (c :: r).length - 1 - L = 0 := by
          show r.length + 1 - 1 - L = 0
          omega
        rw [e2]
        rfl
      · have := h2 i (by show i < r.length + 1; omega)
        rw [this]
        have e2 : (c :: r).length - 1 - i = (r.length - 1 - i) + 1 := by
          show r.length + 1 - 1 - i = _
          omega
        rw [e2]
        rfl
theorem tab_ok : ∀ w, w < 21 → (wds.getD w []).length ≤ 6 ∧ ∀ i, i < 6 → (i < (wds.getD w []).length → wbN.getD (6 * w + i) 0 = (wds.getD w []).getD ((wds.getD w []).length - 1 - i) 0 ∧ 97 ≤ wbN.getD (6 * w + i) 0 ∧ wbN.getD (6 * w + i) 0 ≤ 122) ∧ (¬ i < (wds.getD w []).length → wbN.getD (6 * w + i) 0 = 32) := by decide
/-- the letter compared at i -/
def ltA (t : Nat → Int32) (p e i : Nat) : Int32 := if p + i < e then t (p + i) else 32
theorem same_iff {t : Nat → Int32} {p e w : Nat} (hw : w < 21) (hpe : p ≤ e) (h6 : e - p ≤ 6) (hl : ∀ q, p ≤ q → q < e → bL (t q) = true) : (∀ i, i < 6 → ltA t p e i = Int32.ofNat (wbN.getD (6 * w + i) 0)) ↔ wm t p (e - p) (wds.getD w []) = true := by
  obtain ⟨t1, t2⟩ := tab_ok w hw
  rw [wm_iff]
  have letter : ∀ q, p ≤ q → q < e → t q ≠ 32 := fun q h1 h2 z => by
    have := hl q h1 h2
    rw [z] at this
    exact absurd this (by decide)
  constructor
  · intro h
    have hlen : e - p = (wds.getD w []).length := by
      rcases Nat.lt_trichotomy (e - p) (wds.getD w []).length with c | c | c
      · exfalso
        have h1 := h (e - p) (by omega)
        obtain ⟨q1, q2, q3⟩ := (t2 (e - p) (by omega)).1 c
        unfold ltA at h1
        rw [if_neg (by omega)] at h1
        have := (n32_eq (a := 32) (by omega) (by omega)).mp h1
        omega
      · exact c
      · exfalso
        have h1 := h (wds.getD w []).length (by omega)
        have q1 := (t2 (wds.getD w []).length (by omega)).2 (by omega)
        unfold ltA at h1
        rw [if_pos (by omega), q1] at h1
        exact letter _ (by omega) (by omega) h1
    refine ⟨hlen, fun i hi => ?_⟩
    have h1 := h i (by omega)
    unfold ltA at h1
    rw [if_pos (by omega), ((t2 i (by omega)).1 hi).1] at h1
    exact h1
  · rintro ⟨h1, h2⟩ i hi
    unfold ltA
    by_cases c : i < (wds.getD w []).length
    · rw [if_pos (by omega), h2 i c, ((t2 i hi).1 c).1]
    · rw [if_neg (by omega), (t2 i hi).2 c]; rfl
section SP
variable {Λ : hx_L} {μ m : hx_M} {N : Nat}
theorem word_L22 {p e w : Nat} {K K1 : Int32 → Prop} (hw : w < 21) (he : e ≤ 700) (hpe : p ≤ e) (h6 : e - p ≤ 6) (k : ∀ f : Bool, (f = true ↔ ∀ i, i < 6 → ltA (μ.1 1) p e i = Int32.ofNat (wbN.getD (6 * w + i) 0)) → K1 (bI f)) : ∀ (r i : Nat) (f : Bool), i + r = 6 → (f = true ↔ ∀ j, j < i → ltA (μ.1 1) p e j = Int32.ofNat (wbN.getD (6 * w + j) 0)) → wX2_wordOf_L22 Λ μ (Int32.ofNat p) (Int32.ofNat e) (Int32.ofNat w) K K1 (r + 1) (bI f) (Int32.ofNat i) := by
  intro r
  induction r with
  | zero =>
    intro i f h hf
    obtain rfl : i = 6 := by omega
    unfold wX2_wordOf_L22
    exact selT (by decide) (k f hf)
  | succ r ih =>
    intro i f h hf
    unfold wX2_wordOf_L22
    refine selF (fun z => by have := (n32_le (a := 6) (by omega) (by omega)).mp z; omega) ?_
    cases f with
    | false =>
      refine sel0 (k false ⟨fun z => by simp at z, fun z => ?_⟩)
      have := hf.mpr (fun j hj => z j (by omega))
      exact this
    | true =>
      refine sel1 ?_
      have J : ∀ x : Int32, x = ltA (μ.1 1) p e i → wX2_wordOf_J56 Λ μ K (wX2_wordOf_L22 Λ μ (Int32.ofNat p) (Int32.ofNat e) (Int32.ofNat w) K K1 (r + 1)) (Int32.ofNat p) (Int32.ofNat e) (Int32.ofNat w) (Int32.ofNat i) x := by
        rintro x rfl
        unfold wX2_wordOf_J56 wX2_wordOf_J80
        have ei : Int32.ofNat w * 6 + Int32.ofNat i = Int32.ofNat (6 * w + i) := by
          rw [Nat.mul_comm 6 w, ← n32_add, ← n32_mul]; rfl
        rw [ei, n32_add1]
        refine charC (by omega) ⟨fun z => ih (i + 1) false (by omega) ⟨fun z2 => by simp at z2, fun z2 => absurd (z2 i (by omega)) z⟩, fun z => ih (i + 1) true (by omega) ⟨fun _ j hj => ?_, fun _ => rfl⟩⟩
        by_cases c : j = i
        · rw [c]; exact z
        · exact hf.mp rfl j (by omega)
      rw [n32_add]
      refine ⟨fun z => J 32 ?_, fun z => ?_⟩
      · have := (n32_le (by omega) (by omega)).mp z
        unfold ltA
        rw [if_neg (by omega)]
      · have hlt : p + i < e := Classical.byContradiction fun z2 => z ((n32_le (by omega) (by omega)).mpr (by omega))
        rw [n32_nat (by omega)]
        refine ⟨n32_in (by omega) (by omega), J _ ?_⟩
        unfold ltA
        rw [if_pos hlt]
theorem wkF_no {t : Nat → Int32} {p L : Nat} : ∀ {ws : List (List Nat)} {k : Nat}, (∀ c ∈ ws, wm t p L c = false) → wkF t p L ws k = -3
  | [], _, _ => rfl
  | c :: r, k, h => by
    show (if wm t p L c = true then _ else wkF t p L r (k + 1)) = -3
    rw [if_neg (by rw [h c List.mem_cons_self]; simp)]
    exact wkF_no fun c hc => h c (List.mem_cons_of_mem _ hc)
theorem wds_len : ∀ c ∈ wds, c.length ≤ 6 := by decide
theorem word_L2 {p e : Nat} {K : Int32 → Prop} (he : e ≤ 700) (hpe : p ≤ e) (hl : ∀ q, p ≤ q → q < e → bL (μ.1 1 q) = true) : ∀ (r k : Nat), k + r = 21 → K (wkF (μ.1 1) p (e - p) (wds.drop k) k) → wX2_wordOf_L2 Λ μ (Int32.ofNat p) (Int32.ofNat e) K (r + 1) (Int32.ofNat k) := by
  intro r
  induction r with
  | zero =>
    intro k h hk
    obtain rfl : k = 21 := by omega
    unfold wX2_wordOf_L2
    exact selT (by decide) hk
  | succ r ih =>
    intro k h hk
    unfold wX2_wordOf_L2
    rw [n32_subn hpe]
    refine selF (fun z => by have := (n32_le (a := 21) (by omega) (by omega)).mp z; omega) ⟨fun z => ?_, fun z => ⟨7, ?_⟩⟩
    · have h6 : 6 < e - p := (n32_lt (a := 6) (by omega) (by omega)).mp z
      rw [wkF_no] at hk
      · exact hk
      · intro c hc
        have hc2 : c ∈ wds := List.mem_of_mem_drop hc
        have := wds_len c hc2
        cases hw : wm (μ.1 1) p (e - p) c with
        | false => rfl
        | true =>
          have := (wm_iff.mp hw).1
          omega
    · have h6 : e - p ≤ 6 := Classical.byContradiction fun z2 => z ((n32_lt (a := 6) (by omega) (by omega)).mpr (by omega))
      refine word_L22 (by omega) he hpe h6 (fun f hf => ?_) 6 0 true (by omega) ⟨fun _ j hj => by omega, fun _ => rfl⟩
      rw [same_iff (by omega) hpe h6 hl] at hf
      have hlen : k < wds.length := by show k < 21; omega
      rw [List.drop_eq_getElem_cons hlen] at hk
      have eg : wds.getD k [] = wds[k] := by simp [List.getD, hlen]
      rw [eg] at hf
      unfold wX2_wordOf_J88
      have hk' : K (if wm (μ.1 1) p (e - p) wds[k] = true then Int32.ofNat (10000 + k) else wkF (μ.1 1) p (e - p) (wds.drop (k + 1)) (k + 1)) := hk
      cases f with
      | false =>
        rw [if_neg (fun z2 => by have := hf.mpr z2; simp at this)] at hk'
        rw [n32_add1]
        exact sel0 (ih (k + 1) (by omega) hk')
      | true =>
        rw [if_pos (hf.mp rfl), ← n32_add] at hk'
        exact sel1 hk'
theorem tE_rng {t : Nat → Int32} {p : Nat} (hp : p < N) : p < tE t N p ∧ tE t N p ≤ N ∧ (bL (t p) = true → ∀ q, p ≤ q → q < tE t N p → bL (t q) = true) := by
  unfold tE
  have a1 := run_rng bL t N (p + 1)
  have a2 := run_rng bD t N (p + 1)
  by_cases c : bL (t p) = true
  · rw [if_pos c]
    refine ⟨by omega, a1.2.1 (by omega), fun _ q h1 h2 => ?_⟩
    by_cases e : q = p
    · rw [e]; exact c
    · exact a1.2.2 q (by omega) h2
  · rw [if_neg c]
    by_cases c2 : bD (t p) = true
    · rw [if_pos c2]
      exact ⟨by omega, a2.2.1 (by omega), fun z => absurd z c⟩
    · rw [if_neg c2]
      exact ⟨by omega, by omega, fun z => absurd z c⟩
theorem tokenC {p : Nat} {K : Int32 → Prop} (hN : N ≤ 700) (hp : p < N) (k : K (tK (μ.1 1) N p)) : wX2_tokenOf Λ μ (Int32.ofNat p) (Int32.ofNat (tE (μ.1 1) N p)) K := by
  obtain ⟨e1, e2, e3⟩ := tE_rng (t := μ.1 1) hp
  unfold tK at k
  unfold wX2_tokenOf wX2_tokenOf_J71 wX2_tokenOf_J76 wX2_tokenOf_J76_6
  rw [n32_nat (by omega)]
  refine ⟨n32_in (by omega) (by omega), isLC ?_⟩
  cases hb : bL (μ.1 1 p) with
  | true =>
    rw [if_pos hb] at k
    refine sel1 ?_
    unfold wX2_wordOf
    exact ⟨22, word_L2 (by omega) (by omega) (e3 hb) 21 0 (by omega) k⟩
  | false =>
    rw [if_neg (by rw [hb]; simp)] at k
    refine sel0 (isDC ?_)
    cases hd : bD (μ.1 1 p) with
    | true =>
      rw [if_pos hd] at k
      exact sel1 (numberC (by omega) (by omega) k)
    | false =>
      rw [if_neg (by rw [hd]; simp)] at k
      refine sel0 ?_
      have sg : isSg (μ.1 1 p) = true ↔ (μ.1 1 p = 59 ∨ μ.1 1 p = 40 ∨ μ.1 1 p = 41 ∨ μ.1 1 p = 60 ∨ μ.1 1 p = 62 ∨ μ.1 1 p = 61) := decide_eq_true_iff
      have yes : (μ.1 1 p = 59 ∨ μ.1 1 p = 40 ∨ μ.1 1 p = 41 ∨ μ.1 1 p = 60 ∨ μ.1 1 p = 62 ∨ μ.1 1 p = 61) → ((1 : Int32) = 0 → K (-3)) ∧ (¬ (1 : Int32) = 0 → K (20000 + μ.1 1 p)) := fun z => by
        rw [if_pos (sg.mpr z)] at k
        exact sel1 k
      refine ⟨fun z => yes (Or.inl z), fun z1 => ⟨fun z => yes (Or.inr (Or.inl z)), fun z2 => ⟨fun z => yes (Or.inr (Or.inr (Or.inl z))), fun z3 => ⟨fun z => yes (Or.inr (Or.inr (Or.inr (Or.inl z)))), fun z4 => ⟨fun z => yes (Or.inr (Or.inr (Or.inr (Or.inr (Or.inl z))))), fun z5 => ⟨fun z => ?_, fun z => yes (Or.inr (Or.inr (Or.inr (Or.inr (Or.inr z)))))⟩⟩⟩⟩⟩⟩
      rw [if_neg (fun z7 => by
        rcases sg.mp z7 with h | h | h | h | h | h
        · exact z1 h
        · exact z2 h
        · exact z3 h
        · exact z4 h
        · exact z5 h
        · exact z h)] at k
      exact sel0 k
/-- the places of the tokens from a place on -/
def tl (t : Nat → Int32) (N : Nat) : Nat → Nat → List Nat
  | 0, _ => []
  | r + 1, f => if N ≤ f then [] else if bB (t f) = true then tl t N r (f + 1) else f :: tl t N r (tE t N f)
theorem split_L4 {K : hx_M → Prop} {K1 : Int32 → hx_M → Prop} {t : Nat → Int32} (hN : N ≤ 700) (et : μ.1 1 = t) (eN : μ.1 2 1 = Int32.ofNat N) (k : ∀ (l : List Nat) m, (∀ c, c ≠ 3 → c ≠ 4 → m.1 c = μ.1 c) → m.2 = μ.2 → l.length ≤ N → (∀ i, i < l.length → m.1 3 i = tK t N (l.getD i 0) ∧ m.1 4 i = Int32.ofNat (l.getD i 0)) → l = tl t N (N + 1) 0 → K1 (Int32.ofNat l.length) m) : ∀ (r f : Nat) (l : List Nat) (m : hx_M), N - f < r → f ≤ N → l.length ≤ f → (∀ c, c ≠ 3 → c ≠ 4 → m.1 c = μ.1 c) → m.2 = μ.2 → (∀ i, i < l.length → m.1 3 i = tK t N (l.getD i 0) ∧ m.1 4 i = Int32.ofNat (l.getD i 0)) → l ++ tl t N r f = tl t N (N + 1) 0 → wX2_split_L4 Λ K K1 r (Int32.ofNat f) (Int32.ofNat l.length) m := by
  intro r
  induction r with
  | zero => intro f l m h; omega
  | succ r ih =>
    intro f l m hr hf hll f1 f2 h he
    unfold wX2_split_L4 wX2_split_J73
    rw [f1 2 (by omega) (by omega), eN]
    have he' : l ++ (if N ≤ f then [] else if bB (t f) = true then tl t N r (f + 1) else f :: tl t N r (tE t N f)) = tl t N (N + 1) 0 := he
    by_cases c : N ≤ f
    · rw [if_pos c, List.append_nil] at he'
      exact selT ((n32_le (by omega) (by omega)).mpr c) (k l m f1 f2 (by omega) h he')
    · rw [if_neg c] at he'
      refine selF (fun z => c ((n32_le (by omega) (by omega)).mp z)) (selF (fun z => by have := (n32_le (a := 700) (by omega) (by omega)).mp z; omega) ?_)
      have vf : vp_in (Int32.ofNat f) 700 := n32_in (by omega) (by omega)
      have e1 : m.1 1 = t := by rw [f1 1 (by omega) (by omega)]; exact et
      rw [n32_nat (by omega), e1, n32_add1]
      have bB' : bB (t f) = true ↔ (t f = 32 ∨ t f = 10) := decide_eq_true_iff
      have blank : (t f = 32 ∨ t f = 10) → wX2_split_L4 Λ K K1 r (Int32.ofNat (f + 1)) (Int32.ofNat l.length) m := fun z => by
        rw [if_pos (bB'.mpr z)] at he'
        exact ih (f + 1) l m (by omega) (by omega) (by omega) f1 f2 h he'
      refine ⟨vf, fun z => blank (Or.inl z), fun z => ⟨vf, fun z2 => blank (Or.inr z2), fun z2 => ?_⟩⟩
      rw [if_neg (fun z3 => by
        rcases bB'.mp z3 with z4 | z4
        · exact z z4
        · exact z2 z4)] at he'
      have eNm : m.1 2 1 = Int32.ofNat N := by rw [f1 2 (by omega) (by omega)]; exact eN
      obtain ⟨q1, q2, _⟩ := tE_rng (t := t) (N := N) (p := f) (by omega)
      refine endTC hN eNm (by omega) (tokenC hN (by omega) ?_)
      have vl : vp_in (Int32.ofNat l.length) 701 := n32_in (by omega) (by omega)
      rw [e1, n32_nat (by omega), n32_add1]
      have hlen : (l ++ [f]).length = l.length + 1 := by simp
      have hih := ih (tE t N f) (l ++ [f]) (hx_sI (hx_sI m 3 l.length (tK t N f)) 4 l.length (Int32.ofNat f)) (by omega) q2 (by rw [hlen]; omega) (fun c a b => by rw [sIk b, sIk a]; exact f1 c a b) f2 (fun i hi => ?_) (by rw [List.append_assoc]; exact he')
      · rw [hlen] at hih
        exact ⟨vl, vl, hih⟩
      · rw [hlen] at hi
        by_cases e2 : i = l.length
        · subst e2
          rw [sIk (by omega), sIe, sIe]
          have : (l ++ [f]).getD l.length 0 = f := by simp
          rw [this]
          exact ⟨rfl, rfl⟩
        · rw [sIk (by omega), sIj e2, sIj e2, sIk (by omega)]
          have : (l ++ [f]).getD i 0 = l.getD i 0 := by
            simp only [List.getD]
            rw [List.getElem?_append_left (by omega)]
          rw [this]
          exact h i (by omega)
end SP
