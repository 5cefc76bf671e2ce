/-! layer 2: the class's holds -/
theorem hl_step_cmp {s : hl_S} (h : s.1 ≤ 2) : hl_step s = Int32.ofNat (s.2.2 * 2048 + (if s.1 = 0 then 60 else if s.1 = 1 then 62 else 61) * 16 + s.2.1) := by
  have : s.1 = 0 ∨ s.1 = 1 ∨ s.1 = 2 := by omega
  unfold hl_step
  rcases this with e | e | e <;> simp [e]
theorem compC {s : hl_S} {v : Int32} {K : Int32 → Prop} (h : s.1 ≤ 2) (hw : s.2.1 < 12) (ht : s.2.2 ≤ 9999)
    (k : K (b01 ((s.1 = 0 ∧ v < Int32.ofNat s.2.2) ∨ (s.1 = 1 ∧ Int32.ofNat s.2.2 < v) ∨ (s.1 = 2 ∧ v = Int32.ofNat s.2.2)))) : wX1_compares (hl_step s) v K := by
  unfold wX1_compares
  obtain ⟨h1, h2, h3⟩ := stepD (w := s.2.1) (t := s.2.2) (g := if s.1 = 0 then 60 else if s.1 = 1 then 62 else 61) hw ht (by (split; omega; split; omega; omega))
  rw [hl_step_cmp h, h2, h3]
  have : s.1 = 0 ∨ s.1 = 1 ∨ s.1 = 2 := by omega
  rcases this with e | e | e
  · simp only [e, if_true] at k ⊢
    refine selE (by decide) ⟨fun z => ?_, fun z => ?_⟩
    · rw [b01_0 (by simp; exact z)] at k; exact k
    · rw [b01_1 (by simp; exact Int32.not_le.mp z)] at k; exact k
  · simp only [e] at k ⊢
    refine selN (by decide) (selE (by decide) ⟨fun z => ?_, fun z => ?_⟩)
    · rw [b01_0 (by simp; exact z)] at k; exact k
    · rw [b01_1 (by simp; exact Int32.not_le.mp z)] at k; exact k
  · simp only [e] at k ⊢
    refine selN (by decide) (selN (by decide) ⟨fun z => ?_, fun z => ?_⟩)
    · rw [b01_0 (by simp; exact z)] at k; exact k
    · rw [b01_1 (by simp; exact z)] at k; exact k
theorem ev1_cmp {ans : Nat → Int32} {b : List Bool} {s : hl_S} (h : s.1 ≤ 2) : ev1 ans b s = decide ((s.1 = 0 ∧ ans s.2.1 < Int32.ofNat s.2.2) ∨ (s.1 = 1 ∧ Int32.ofNat s.2.2 < ans s.2.1) ∨ (s.1 = 2 ∧ ans s.2.1 = Int32.ofNat s.2.2)) :: b := by
  have : s.1 = 0 ∨ s.1 = 1 ∨ s.1 = 2 := by omega
  unfold ev1
  rcases this with e | e | e <;> simp [e]
theorem holds_L6 {Λ : hx_L} {μ : hx_M} {cc len last : Nat} {K K1 : Int32 → Prop} (hs : Λ.1 cc = (1, len)) (hlen : len ≤ 700) (hlast : last ≤ len) :
    ∀ (st : List hl_S) (b : List Bool) (at0 : Nat), at0 + st.length = last → b.length ≤ 20 → hl_okS b.length st → (∀ i s, st[i]? = some s → μ.1 cc (at0 + i) = hl_step s) → K1 (Int32.ofNat (tru (evL (μ.1 22) b st))) → wX6_holds_L6 Λ μ cc (Int32.ofNat last) K K1 (st.length + 1) (Int32.ofNat (tru b)) (Int32.ofNat at0) := by
  intro st
  induction st with
  | nil =>
    intro b at0 e hb hok hst k
    simp at e
    subst e
    unfold wX6_holds_L6
    exact selT (Int32.le_refl _) k
  | cons s r ih =>
    intro b at0 e hb hok hst k
    simp only [List.length_cons] at e
    have hs0 : μ.1 cc at0 = hl_step s := hst 0 s rfl
    have hst' : ∀ i s', r[i]? = some s' → μ.1 cc (at0 + 1 + i) = hl_step s' := fun i s' h => by
      have := hst (i + 1) s' (by simpa using h)
      rwa [show at0 + (i + 1) = at0 + 1 + i by omega] at this
    have hT := tru_21 hb
    simp only [List.length_cons]
    unfold wX6_holds_L6
    refine selF (fun z => by have := (n32_le (by omega) (by omega)).mp z; omega) ⟨len, hs, n32_in (by omega) (by omega), ?_⟩
    rw [n32_nat (by omega), hs0]
    unfold hl_okS at hok
    rcases hok with ⟨h1, h2, h3, h4, h5⟩ | ⟨h1, h2, h3⟩ | ⟨h1, h2, h3⟩
    · have hx := hl_step_cmp h1
      have hg : (if s.1 = 0 then 60 else if s.1 = 1 then 62 else 61 : Nat) < 128 := by (split; omega; split; omega; omega)
      obtain ⟨d1, d2, d3⟩ := stepD (w := s.2.1) (t := s.2.2) h2 h3 hg
      have hlt : s.2.2 * 2048 + (if s.1 = 0 then 60 else if s.1 = 1 then 62 else 61) * 16 + s.2.1 < 2 ^ 31 := by omega
      have g1 : hl_step s ≠ -1 := by rw [hx]; exact n32_neg hlt (by decide)
      have g2 : hl_step s ≠ -2 := by rw [hx]; exact n32_neg hlt (by decide)
      have g3 : hl_step s ≠ -3 := by rw [hx]; exact n32_neg hlt (by decide)
      refine selN g1 (selN g2 (selN g3 ?_))
      unfold wX1_wordOf
      rw [hx, d1, ← hx]
      rintro x rfl
      have hm : (if (Int32.ofNat 12) - 1 < Int32.ofNat s.2.1 then (Int32.ofNat 12) - 1 else Int32.ofNat s.2.1) = Int32.ofNat s.2.1 := by
        have e11 : (Int32.ofNat 12) - 1 = Int32.ofNat 11 := by decide
        rw [e11, if_neg (fun z => by have := (n32_lt (by omega) (by omega)).mp z; omega)]
      rw [hm, n32_nat (by omega)]
      refine ⟨n32_in (by omega) (by omega), compC h1 h2 h3 ?_⟩
      have ev := ev1_cmp (ans := μ.1 22) (b := b) h1
      have e1 : (1 : Int32) &&& 31 = Int32.ofNat 1 := by decide
      have sh : Int32.ofNat (tru b) <<< (1 &&& 31) = Int32.ofNat (tru b * 2) := by rw [e1, n32_shl (by omega)]
      have fin : ∀ (v : Int32) (c : Bool), v = (if c then 1 else 0) → ev1 (μ.1 22) b s = c :: b → wX6_holds_J121 Λ μ K (wX6_holds_L6 Λ μ cc (Int32.ofNat last) K K1 (r.length + 1)) cc (Int32.ofNat last) (Int32.ofNat at0) (Int32.ofNat (tru b) <<< (1 &&& 31)) v := by
        intro v c hv hc
        unfold wX6_holds_J121 wX6_holds_J124
        have ho : Int32.ofNat (tru b * 2) ||| v = Int32.ofNat (tru (c :: b)) := by
          rw [← tru_push, ← n32_or, hv]
          cases c <;> rfl
        rw [sh, ho, n32_add1]
        refine ih (c :: b) (at0 + 1) (by omega) (by simp; omega) (by simpa using h5) hst' ?_
        unfold evL at k
        rw [hc] at k
        exact k
      by_cases hc : (s.1 = 0 ∧ μ.1 22 s.2.1 < Int32.ofNat s.2.2) ∨ (s.1 = 1 ∧ Int32.ofNat s.2.2 < μ.1 22 s.2.1) ∨ (s.1 = 2 ∧ μ.1 22 s.2.1 = Int32.ofNat s.2.2)
      · rw [b01_1 hc]
        exact sel1 (fin 1 true rfl (by rw [ev, decide_eq_true hc]))
      · rw [b01_0 hc]
        exact sel0 (fin 0 false rfl (by rw [ev, decide_eq_false hc]))
    · match b, h2, h3 with
      | x :: y :: r', _, h3 =>
        have hb' : (r').length ≤ 20 := by simp at hb; omega
        have a1 : (1 : Int32) = Int32.ofNat 1 := rfl
        rcases h1 with e1 | e1
        · have hx : hl_step s = -3 := by unfold hl_step; simp [e1]
          rw [hx]
          refine selN (by decide) (selN (by decide) (selE rfl ?_))
          rintro z rfl
          unfold wX6_holds_J124_11
          rw [n32_ushr1 (by omega), a1, n32_and, n32_or, tru_or, ← a1, n32_add1]
          refine ih ((y || x) :: r') (at0 + 1) (by omega) (by simp at hb ⊢; omega) (by simpa using h3) hst' ?_
          have ev : ev1 (μ.1 22) (x :: y :: r') s = (y || x) :: r' := by simp [ev1, e1]
          unfold evL at k
          rw [ev] at k
          exact k
        · have hx : hl_step s = -2 := by unfold hl_step; simp [e1]
          have a2 : (-2 : Int32) = Int32.ofNat 4294967294 := by decide
          rw [hx]
          refine selN (by decide) (selE rfl ?_)
          rintro z rfl
          unfold wX6_holds_J124_11
          rw [n32_ushr1 (by omega), a1, a2, n32_and, n32_or, n32_and, tru_and x y r' hb', ← a1, n32_add1]
          refine ih ((y && x) :: r') (at0 + 1) (by omega) (by simp at hb ⊢; omega) (by simpa using h3) hst' ?_
          have ev : ev1 (μ.1 22) (x :: y :: r') s = (y && x) :: r' := by simp [ev1, e1]
          unfold evL at k
          rw [ev] at k
          exact k
    · match b, h2, h3 with
      | x :: r', _, h3 =>
        have a1 : (1 : Int32) = Int32.ofNat 1 := rfl
        have hx : hl_step s = -1 := by unfold hl_step; simp [h1]
        rw [hx]
        refine selE rfl ?_
        unfold wX6_holds_J124_11
        have hxor : Int32.ofNat (tru (x :: r')) ^^^ 1 = Int32.ofNat (tru ((!x) :: r')) := by rw [a1, n32_xor, tru_not]
        rw [hxor, n32_add1]
        refine ih ((!x) :: r') (at0 + 1) (by omega) (by simpa using hb) (by simpa using h3) hst' ?_
        have ev : ev1 (μ.1 22) (x :: r') s = (!x) :: r' := by simp [ev1, h1]
        unfold evL at k
        rw [ev] at k
        exact k
/-- the class's holds answers whether the steps hold -/
theorem t_holds {Λ : hx_L} {μ : hx_M} {cc len at0 : Nat} {st : List hl_S} {K : Int32 → Prop} (hs : Λ.1 cc = (1, len)) (hlen : len ≤ 700) (hlast : at0 + st.length ≤ len) (hok : st = [] ∨ hl_okS 0 st) (hst : ∀ i s, st[i]? = some s → μ.1 cc (at0 + i) = hl_step s) (k : K (b01 (hl_holds (μ.1 22) st = true))) : wX6_holds Λ μ cc (Int32.ofNat at0) (Int32.ofNat (at0 + st.length)) K := by
  have fin : ∀ v : Bool, hl_holds (μ.1 22) st = v → ∀ x : Nat, x < 2 ^ 31 → x % 2 = (if v then 1 else 0) → (((Int32.ofNat x) &&& 1) ≠ 1 → (K 0)) ∧ (((Int32.ofNat x) &&& 1) = 1 → (K 1)) := by
    intro v hv x hx hm
    have a1 : (1 : Int32) = Int32.ofNat (2 ^ 1 - 1) := rfl
    rw [a1, n32_mask, show x % 2 ^ 1 = x % 2 from rfl, hm]
    rw [hv] at k
    cases v
    · exact selN (by decide) (by simpa [b01] using k)
    · exact selE (by decide) (by simpa [b01] using k)
  unfold wX6_holds
  rcases hok with rfl | hok
  · refine ⟨1, ?_⟩
    unfold wX6_holds_L6
    exact selT (Int32.le_refl _) (fin true rfl 1 (by decide) rfl)
  · obtain ⟨v, hv⟩ := evL_one (ans := μ.1 22) (st := st) (b := []) hok
    refine ⟨_, holds_L6 hs hlen hlast st [] at0 rfl (by simp) hok hst ?_⟩
    rw [hv]
    exact fin v (holds_one hv) _ (Nat.lt_of_lt_of_le (tru_lt [v]) (Nat.pow_le_pow_right (by omega) (by simp))) (by cases v <;> rfl)
