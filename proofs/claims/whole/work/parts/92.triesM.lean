/-! layer 2: trials, the reference -/
/-- the same but for what a trial writes, the reference -/
def offT (μ m : hx_M) : Prop := (∀ k, k ≠ 49 → ¬ (52 ≤ k ∧ k ≤ 53) → ¬ (56 ≤ k ∧ k ≤ 62) → k ≠ 73 → ¬ (76 ≤ k ∧ k ≤ 77) → m.1 k = μ.1 k) ∧ (∀ j, j ≠ 1 → j ≠ 2 → j ≠ 45 → j ≠ 48 → j ≠ 49 → m.1 49 j = μ.1 49 j) ∧ (∀ k, k ≠ 49 → m.2 k = μ.2 k) ∧ (∀ j, j ≠ 6 → m.2 49 j = μ.2 49 j)
theorem offT.rf {μ : hx_M} : offT μ μ := ⟨fun _ _ _ _ _ _ => rfl, fun _ _ _ _ _ _ => rfl, fun _ _ => rfl, fun _ _ => rfl⟩
theorem offT.oG {μ m m' : hx_M} (h1 : offT μ m) (h2 : offG m m') : offT μ m' := ⟨fun k a b c d e => (h2.1 k a b c d e).trans (h1.1 k a b c d e), fun j a b c d e => (h2.2.1 j a c).trans (h1.2.1 j a b c d e), fun k a => (h2.2.2.1 k a).trans (h1.2.2.1 k a), fun j a => (h2.2.2.2 j a).trans (h1.2.2.2 j a)⟩
theorem offT.sI {μ m : hx_M} {j : Nat} {v : Int32} (h : offT μ m) (hj : j = 2 ∨ j = 48 ∨ j = 49) : offT μ (hx_sI m 49 j v) := ⟨fun k a b c d e => by rw [sIk a]; exact h.1 k a b c d e, fun i a b c d e => by rw [sIj (by omega)]; exact h.2.1 i a b c d e, h.2.2⟩
theorem LKM.oT {μ m : hx_M} {sm f : Nat} {l : List hl_R} (h : LKM μ sm f l) (o : offT μ m) : LKM m sm f l := h.fr (o.2.1 21 (by omega) (by omega) (by omega) (by omega) (by omega)) (fun k a b => o.1 k (by omega) (by omega) (by omega) (by omega) (by omega))
theorem MW.fr49 {a : hw_T} {m : hx_M} {j : Nat} {v : Int32} (h : MW a m) (hj : j ∉ [0, 1, 2, 3, 4, 5, 59]) : MW a (hx_sI m 49 j v) := h.fr (fun i hi => by rw [sIj (fun z => hj (by rw [← z]; exact hi))]) rfl (fun k hk => by rw [sIk (by omega)])
section TM
variable {a : hw_T} {l : List hl_R} {f sm n ev s N : Nat} {told was : Int32} {T : Nat → Nat → Int32} {m μ : hx_M}
theorem alikeM_L5 {u t p : Nat} {K : Int32 → Prop} (hp : p ≤ 16) (hn : m.1 49 0 = Int32.ofNat p) (hu : s + u ≤ 300) (ht : s + t ≤ 300) (hT : ∀ q, q < p → m.1 57 (16 * (s + u) + q) = T u q ∧ m.1 57 (16 * (s + t) + q) = T t q) (k : K (bI (alB T p t u))) : ∀ (r q : Nat) (b : Bool), q + r = p → (b = true ↔ ∀ i, i < q → T u i = T t i) → wX12_isAlike_L5 m (Int32.ofNat (s + u)) (Int32.ofNat (s + t)) K (r + 1) (bI b) (Int32.ofNat q) := by
  intro r
  induction r with
  | zero =>
    intro q b e h
    obtain rfl : q = p := by omega
    unfold wX12_isAlike_L5
    rw [hn]
    refine selT (Int32.le_refl _) ?_
    have : b = alB T q t u := by
      cases b
      · exact (decide_eq_false (fun z => by simpa using h.mpr z)).symm
      · exact (decide_eq_true (h.mp rfl)).symm
    rw [← this] at k
    refine ⟨?_, k⟩
    cases b
    · exact Or.inl rfl
    · exact Or.inr rfl
  | succ r ih =>
    intro q b e h
    unfold wX12_isAlike_L5 wX12_isAlike_J39 wX12_isAlike_J40 wX12_isAlike_J40_5
    rw [hn, n32_add1]
    refine selF (fun z => by have := (n32_le (by omega) (by omega)).mp z; omega) ?_
    cases b
    · refine sel0 (ih (q + 1) false (by omega) ⟨fun z => by simp at z, fun z => ?_⟩)
      have := h.mpr (fun i hi => z i (by omega))
      simp at this
    · refine sel1 (t_lengthAt hu (by omega) (t_lengthAt ht (by omega) ?_))
      have hq := hT q (by omega)
      rw [hq.1, hq.2]
      refine ⟨fun z => ih (q + 1) false (by omega) ⟨fun z2 => by simp at z2, fun z2 => absurd (z2 q (by omega)) z⟩, fun z => ih (q + 1) true (by omega) ⟨fun _ i hi => ?_, fun _ => rfl⟩⟩
      by_cases c : i = q
      · rw [c]; exact z
      · exact h.mp rfl i (by omega)
theorem alikeM {u t p : Nat} {K : Int32 → Prop} (hp : p ≤ 16) (hn : m.1 49 0 = Int32.ofNat p) (hu : s + u ≤ 300) (ht : s + t ≤ 300) (hT : ∀ q, q < p → m.1 57 (16 * (s + u) + q) = T u q ∧ m.1 57 (16 * (s + t) + q) = T t q) (k : K (bI (alB T p t u))) : wX12_isAlike m (Int32.ofNat (s + u)) (Int32.ofNat (s + t)) K := by
  unfold wX12_isAlike
  exact ⟨p + 1, alikeM_L5 hp hn hu ht hT k p 0 true (by omega) ⟨fun _ i hi => by omega, fun _ => rfl⟩⟩
/-- what a trial found, told -/
def ansM (m : hx_M) (o : Option (Nat × Nat)) : Prop := m.1 49 48 = tr_1 o ∧ m.1 49 49 = tr_2 o
theorem tries_L82 {p t ap : Nat} {v1 v2 v3 v6 : Int32} {K K1 : hx_M → Prop} (hp : p ≤ 16) (hn : m.1 49 0 = Int32.ofNat p) (hs : m.1 49 1 = Int32.ofNat (s + t)) (h48 : m.1 49 48 = -1) (h49 : m.1 49 49 = -1) (ht : s + t ≤ 300) (hap : 1 ≤ ap) (hap2 : ap ≤ 100) (hT : ∀ u q, u ≤ t → q < p → m.1 57 (16 * (s + u) + q) = T u q)
    {o : Option Nat} (k : ∀ m', (m' = m ∨ ∃ x y, m' = hx_sI (hx_sI m 49 48 x) 49 49 y) → ansM m' (o.map (fun u => (t, u))) → K1 m') : ∀ (r c : Nat), c ≤ t → c < r → sbF (alB T p t) ap r c = o → wX12_tries_L82 v1 v2 v3 (Int32.ofNat ap) (Int32.ofNat s) v6 (Int32.ofNat t) K K1 r (Int32.ofNat (s + c) - Int32.ofNat ap) m := by
  intro r
  induction r with
  | zero => intro c h1 h2; omega
  | succ r ih =>
    intro c h1 h2 he
    unfold wX12_tries_L82
    unfold sbF at he
    have lts : ∀ c, c ≤ t → (Int32.ofNat (s + c) - Int32.ofNat ap < Int32.ofNat s ↔ c < ap) := fun c hc => by
      rw [Int32.lt_iff_toInt_lt, n32_sub (by omega) (by omega), Int32.toInt_ofNat_of_lt (by omega)]
      omega
    by_cases c1 : c < ap
    · rw [if_pos c1] at he
      refine selT ((lts c h1).mpr c1) (k m (Or.inl rfl) ?_)
      rw [← he]
      exact ⟨h48, h49⟩
    · rw [if_neg c1] at he
      refine selF (fun z => c1 ((lts c h1).mp z)) (selE h48 ?_)
      rw [hs, n32_subn (by omega), show s + c - ap = s + (c - ap) by omega]
      refine alikeM hp hn (by omega) ht (fun q hq => ⟨hT _ q (by omega) hq, hT _ q (Nat.le_refl _) hq⟩) ?_
      unfold wX12_tries_J130
      by_cases c2 : alB T p t (c - ap) = true
      · rw [if_pos c2] at he
        rw [c2]
        refine seln1 ?_
        obtain ⟨r, rfl⟩ : ∃ r', r = r' + 1 := ⟨r - 1, by omega⟩
        rw [n32_subn (x := s + t) (y := s + (c - ap)) (by omega), show s + t - (s + (c - ap)) = t - (c - ap) by omega]
        have fin : K1 (hx_sI (hx_sI m 49 48 (Int32.ofNat t)) 49 49 (Int32.ofNat (t - (c - ap)))) := by
          refine k _ (Or.inr ⟨_, _, rfl⟩) ?_
          rw [← he]
          refine ⟨?_, ?_⟩
          · rw [sIj (by omega), sIe]; rfl
          · rw [sIe]; rfl
        have e48 : (hx_sI (hx_sI m 49 48 (Int32.ofNat t)) 49 49 (Int32.ofNat (t - (c - ap)))).1 49 48 = Int32.ofNat t := by rw [sIj (by omega), sIe]
        unfold wX12_tries_L82
        rw [e48]
        exact ⟨fun _ => fin, fun _ => selN (n32_neg (by omega) (by decide)) fin⟩
      · rw [if_neg c2] at he
        have : alB T p t (c - ap) = false := by simpa using c2
        rw [this]
        refine seln0 ?_
        exact ih (c - ap) (by omega) (by omega) he
end TM
