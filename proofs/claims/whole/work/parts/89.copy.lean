/-! layer 2: people copied; trials as worlds -/
theorem sAk {μ : hx_M} {c k : Nat} {f : Nat → Int32} (h : k ≠ c) : (hx_sA μ c f).1 k = μ.1 k := by
  show (if k = c then f else μ.1 k) = μ.1 k
  rw [if_neg h]
theorem sAe {μ : hx_M} {c : Nat} {f : Nat → Int32} : (hx_sA μ c f).1 c = f := by
  show (if c = c then f else μ.1 c) = f
  rw [if_pos rfl]
/-- the shape of people at a cell -/
def PSh (Λ : hx_L) (x : Nat) : Prop := Λ.1 x = (0, 4) ∧ (∀ i, 1 ≤ i → i ≤ 6 → Λ.2.1 x i = some (x + i)) ∧ (∀ i, 1 ≤ i → i ≤ 5 → Λ.1 (x + i) = (1, 16)) ∧ Λ.1 (x + 6) = (1, 96)
theorem copyOfP {Λ : hx_L} {μ : hx_M} {x y n : Nat} {K : hx_M → Prop} (hx : PSh Λ x) (hy : PSh Λ y) (hxy : x + 6 < y ∨ y + 6 < x) (hn : μ.1 y 0 = Int32.ofNat n) (hn16 : n ≤ 16)
    (k : ∀ m, (∀ k, k < x ∨ x + 6 < k → m.1 k = μ.1 k) → m.2 = μ.2 → m.1 x 0 = Int32.ofNat n → (∀ i, 1 ≤ i → i ≤ 5 → ∀ q, q < n → m.1 (x + i) q = μ.1 (y + i) q) → (∀ q, q < 6 * n → m.1 (x + 6) q = μ.1 (y + 6) q) → K m) : wX4_copyOf Λ μ x (some y) K := by
  obtain ⟨x0, x1, x2, x3⟩ := hx
  obtain ⟨y0, y1, y2, y3⟩ := hy
  have z0 : (0 : Int32).toNatClampNeg = 0 := rfl
  have ln : 0 + (Int32.ofNat n).toNatClampNeg ≤ 16 := by rw [n32_nat (by omega)]; omega
  have nn : ¬ Int32.ofNat n < 0 := n32_nn (by omega)
  unfold wX4_copyOf
  refine ⟨y, rfl, y0, x0, y + 1, y1 1 (by omega) (by omega), x + 1, x1 1 (by omega) (by omega), 16, y2 1 (by omega) (by omega), 16, x2 1 (by omega) (by omega), by decide, by decide, ?_⟩
  rw [sIe, hn, z0]
  generalize hm0 : hx_sI μ x 0 (Int32.ofNat n) = m0
  have f0 : m0.1 x 0 = Int32.ofNat n := by rw [← hm0, sIe]
  have g0 : ∀ k, k ≠ x → m0.1 k = μ.1 k := fun k hk => by rw [← hm0, sIk hk]
  refine ⟨nn, ln, ln, ?_⟩
  intro m1 e1
  have f1 : m1.1 x 0 = Int32.ofNat n := by rw [e1, sAk (by omega)]; exact f0
  rw [f1]
  refine ⟨y + 2, y1 2 (by omega) (by omega), x + 2, x1 2 (by omega) (by omega), 16, y2 2 (by omega) (by omega), 16, x2 2 (by omega) (by omega), by decide, by decide, nn, ln, ln, ?_⟩
  intro m2 e2
  have f2 : m2.1 x 0 = Int32.ofNat n := by rw [e2, sAk (by omega)]; exact f1
  rw [f2]
  refine ⟨y + 3, y1 3 (by omega) (by omega), x + 3, x1 3 (by omega) (by omega), 16, y2 3 (by omega) (by omega), 16, x2 3 (by omega) (by omega), by decide, by decide, nn, ln, ln, ?_⟩
  intro m3 e3
  have f3 : m3.1 x 0 = Int32.ofNat n := by rw [e3, sAk (by omega)]; exact f2
  rw [f3]
  refine ⟨y + 4, y1 4 (by omega) (by omega), x + 4, x1 4 (by omega) (by omega), 16, y2 4 (by omega) (by omega), 16, x2 4 (by omega) (by omega), by decide, by decide, nn, ln, ln, ?_⟩
  intro m4 e4
  have f4 : m4.1 x 0 = Int32.ofNat n := by rw [e4, sAk (by omega)]; exact f3
  rw [f4]
  refine ⟨y + 5, y1 5 (by omega) (by omega), x + 5, x1 5 (by omega) (by omega), 16, y2 5 (by omega) (by omega), 16, x2 5 (by omega) (by omega), by decide, by decide, nn, ln, ln, ?_⟩
  intro m5 e5
  have f5 : m5.1 x 0 = Int32.ofNat n := by rw [e5, sAk (by omega)]; exact f4
  have e6n : Int32.ofNat n * 6 = Int32.ofNat (6 * n) := by rw [Nat.mul_comm 6 n, ← n32_mul]; rfl
  rw [f5, e6n]
  have ln6 : 0 + (Int32.ofNat (6 * n)).toNatClampNeg ≤ 96 := by rw [n32_nat (by omega)]; omega
  refine ⟨y + 6, y1 6 (by omega) (by omega), x + 6, x1 6 (by omega) (by omega), 96, y3, 96, x3, by decide, by decide, n32_nn (by omega), ln6, ln6, ?_⟩
  intro m6 e6
  rw [n32_nat (by omega)] at e1 e2 e3 e4 e5 e6
  have c1 : ∀ k, k ≠ x + 1 → m1.1 k = m0.1 k := fun k hk => by rw [e1, sAk hk]
  have c2 : ∀ k, k ≠ x + 2 → m2.1 k = m1.1 k := fun k hk => by rw [e2, sAk hk]
  have c3 : ∀ k, k ≠ x + 3 → m3.1 k = m2.1 k := fun k hk => by rw [e3, sAk hk]
  have c4 : ∀ k, k ≠ x + 4 → m4.1 k = m3.1 k := fun k hk => by rw [e4, sAk hk]
  have c5 : ∀ k, k ≠ x + 5 → m5.1 k = m4.1 k := fun k hk => by rw [e5, sAk hk]
  have c6 : ∀ k, k ≠ x + 6 → m6.1 k = m5.1 k := fun k hk => by rw [e6, sAk hk]
  refine k m6 (fun i hi => ?_) ?_ ?_ (fun i i1 i5 q hq => ?_) (fun q hq => ?_)
  · rw [c6 i (by omega), c5 i (by omega), c4 i (by omega), c3 i (by omega), c2 i (by omega), c1 i (by omega), g0 i (by omega)]
  · rw [e6, e5, e4, e3, e2, e1, ← hm0]; rfl
  · rw [c6 x (by omega)]; exact f5
  · have : i = 1 ∨ i = 2 ∨ i = 3 ∨ i = 4 ∨ i = 5 := by omega
    rcases this with rfl | rfl | rfl | rfl | rfl
    · rw [c6 _ (by omega), c5 _ (by omega), c4 _ (by omega), c3 _ (by omega), c2 _ (by omega), e1, sAe, pk_cpy_in (by omega) (by omega), g0 _ (by omega), show 0 + (q - 0) = q by omega]
    · rw [c6 _ (by omega), c5 _ (by omega), c4 _ (by omega), c3 _ (by omega), e2, sAe, pk_cpy_in (by omega) (by omega), c1 _ (by omega), g0 _ (by omega), show 0 + (q - 0) = q by omega]
    · rw [c6 _ (by omega), c5 _ (by omega), c4 _ (by omega), e3, sAe, pk_cpy_in (by omega) (by omega), c2 _ (by omega), c1 _ (by omega), g0 _ (by omega), show 0 + (q - 0) = q by omega]
    · rw [c6 _ (by omega), c5 _ (by omega), e4, sAe, pk_cpy_in (by omega) (by omega), c3 _ (by omega), c2 _ (by omega), c1 _ (by omega), g0 _ (by omega), show 0 + (q - 0) = q by omega]
    · rw [c6 _ (by omega), e5, sAe, pk_cpy_in (by omega) (by omega), c4 _ (by omega), c3 _ (by omega), c2 _ (by omega), c1 _ (by omega), g0 _ (by omega), show 0 + (q - 0) = q by omega]
  · rw [e6, sAe, pk_cpy_in (by omega) (by omega), c5 _ (by omega), c4 _ (by omega), c3 _ (by omega), c2 _ (by omega), c1 _ (by omega), g0 _ (by omega), show 0 + (q - 0) = q by omega]
theorem sI_self {μ : hx_M} {c j : Nat} : hx_sI μ c j (μ.1 c j) = μ := by
  refine hm_ext (fun k i => ?_) (fun _ _ => rfl)
  rw [hm_sI]
  by_cases h : k = c ∧ i = j
  · rw [if_pos h, h.1, h.2]
  · rw [if_neg h]
/-- the money of the latest season told anew -/
def hw_mon (a : hw_T) (v : Int32) : hw_T := (a.1, hx_sI a.2 11 a.1.2.1 v)
/-- a trial: worlds one behind another -/
def hw_W (l : List hl_R) (mo : Nat → Int32) (a : hw_T) : Nat → hw_T
  | 0 => a
  | t + 1 => hw_step (hw_mon (hw_W l mo a t) (mo t)) l
section WW
variable {l : List hl_R} {mo : Nat → Int32} {a : hw_T}
theorem W_1 : ∀ t, (hw_W l mo a t).1 = (a.1.1, a.1.2.1 + t, a.1.2.2)
  | 0 => rfl
  | t + 1 => by
    show ((hw_W l mo a t).1.1, (hw_W l mo a t).1.2.1 + 1, (hw_W l mo a t).1.2.2) = _
    rw [W_1 t]
    rfl
theorem W_WF (w : WF 200 a) (h0 : 0 < a.1.1) (hok : ∀ r ∈ l, hl_okR r) : ∀ t, t ≤ 100 → (∀ u, u < t → 0 ≤ mo u ∧ mo u ≤ 99) → WF 300 (hw_W l mo a t)
  | 0, _, _ => w.up
  | t + 1, ht, hmo => by
    have ih := W_WF w h0 hok t (by omega) (fun u hu => hmo u (by omega))
    have e := W_1 (l := l) (mo := mo) (a := a) t
    have hs := w.s
    refine WF_step (WF_money ih (hmo t (by omega))) (Nat.le_refl _) ?_ ?_ hok
    · show (hw_W l mo a t).1.2.1 < 300
      rw [e]; show a.1.2.1 + t < 300; omega
    · show 0 < (hw_W l mo a t).1.1
      rw [e]; exact h0
/-- what a step leaves -/
theorem W_st (w : WF 200 a) (h0 : 0 < a.1.1) (hok : ∀ r ∈ l, hl_okR r) {t : Nat} (ht : t < 100) (hmo : ∀ u, u < t + 1 → 0 ≤ mo u ∧ mo u ≤ 99) : ∀ k j, k ≠ 3 → k ≠ 4 → k ≠ 5 → ((k = 6 ∨ k = 7 ∨ k = 8 ∨ k = 9) → j < 16 * (a.1.2.1 + t + 1)) → (hw_W l mo a (t + 1)).2.1 k j = (hs_beg (hw_mon (hw_W l mo a t) (mo t))).1 k j := by
  have ih := W_WF w h0 hok t (by omega) (fun u hu => hmo u (by omega))
  have e := W_1 (l := l) (mo := mo) (a := a) t
  have hs := w.s
  have so := step_ok (l := l) (WF_money ih (hmo t (by omega))) (by show (hw_W l mo a t).1.2.1 < 300; rw [e]; show a.1.2.1 + t < 300; omega) hok
  intro k j h3 h4 h5 h6
  refine so.2 k j h3 h4 h5 (fun z => ?_)
  show j < 16 * ((hw_W l mo a t).1.2.1 + 1)
  rw [e]
  exact h6 z
theorem W_fr (w : WF 200 a) (h0 : 0 < a.1.1) (hok : ∀ r ∈ l, hl_okR r) : ∀ t, t ≤ 100 → (∀ u, u < t → 0 ≤ mo u ∧ mo u ≤ 99) → ∀ k j, k ≠ 3 → k ≠ 4 → k ≠ 5 → ((k = 6 ∨ k = 7 ∨ k = 8 ∨ k = 9) → j < 16 * (a.1.2.1 + 1)) → (k = 10 → j < 4 * (a.1.2.1 + 1)) → (k = 11 → j < a.1.2.1) → (hw_W l mo a t).2.1 k j = a.2.1 k j
  | 0, _, _ => fun _ _ _ _ _ _ _ _ => rfl
  | t + 1, ht, hmo => fun k j h3 h4 h5 h6 h10 h11 => by
    have e := W_1 (l := l) (mo := mo) (a := a) t
    rw [W_st w h0 hok (by omega) hmo k j h3 h4 h5 (fun z => by have := h6 z; omega), ← W_fr w h0 hok t (by omega) (fun u hu => hmo u (by omega)) k j h3 h4 h5 h6 h10 h11]
    have es : (hw_mon (hw_W l mo a t) (mo t)).1.2.1 = a.1.2.1 + t := by show (hw_W l mo a t).1.2.1 = _; rw [e]
    have es2 : (hw_W l mo a t).1.2.1 = a.1.2.1 + t := by rw [e]
    by_cases c10 : k = 10
    · subst c10
      have := h10 rfl
      rw [beg_10, es, if_neg (by omega)]
      show (hx_sI _ 11 _ _).1 10 j = _
      rw [sI_ne (by omega)]
    · by_cases c11 : k = 11
      · subst c11
        have := h11 rfl
        rw [beg_11, es, if_neg (by omega)]
        show (hx_sI _ 11 _ _).1 11 j = _
        rw [sI_ne (by omega)]
      · rw [beg_len c10 c11]
        show (hx_sI _ 11 _ _).1 k j = _
        rw [sI_ne (by omega)]
theorem W_row (w : WF 200 a) (h0 : 0 < a.1.1) (hok : ∀ r ∈ l, hl_okR r) {u q : Nat} (hq : q < 16) : ∀ t, u ≤ t → t ≤ 100 → (∀ u, u < t → 0 ≤ mo u ∧ mo u ≤ 99) → (hw_W l mo a t).2.1 6 (16 * (a.1.2.1 + u) + q) = (hw_W l mo a u).2.1 6 (16 * (a.1.2.1 + u) + q)
  | 0, hu, _, _ => by
    obtain rfl : u = 0 := by omega
    rfl
  | t + 1, hu, ht, hmo => by
    by_cases e : u = t + 1
    · rw [e]
    · rw [W_st w h0 hok (by omega) hmo 6 _ (by omega) (by omega) (by omega) (fun _ => by omega), beg_len (by omega) (by omega)]
      show (hx_sI _ 11 _ _).1 6 _ = _
      rw [sI_ne (by omega)]
      exact W_row w h0 hok hq t (by omega) (by omega) (fun u hu => hmo u (by omega))
theorem W_hou (w : WF 200 a) (h0 : 0 < a.1.1) (hok : ∀ r ∈ l, hl_okR r) {h : Nat} (hh : h < 4) : ∀ t, t ≤ 100 → (∀ u, u < t → 0 ≤ mo u ∧ mo u ≤ 99) → (hw_W l mo a t).2.1 10 (4 * (a.1.2.1 + t) + h) = a.2.1 10 (4 * a.1.2.1 + h)
  | 0, _, _ => rfl
  | t + 1, ht, hmo => by
    have e := W_1 (l := l) (mo := mo) (a := a) t
    have es : (hw_mon (hw_W l mo a t) (mo t)).1.2.1 = a.1.2.1 + t := by show (hw_W l mo a t).1.2.1 = _; rw [e]
    rw [W_st w h0 hok (by omega) hmo 10 _ (by omega) (by omega) (by omega) (fun z => by omega), beg_10, es, if_pos (by omega)]
    show (hx_sI _ 11 _ _).1 10 _ = _
    rw [sI_ne (by omega), show 4 * (a.1.2.1 + (t + 1)) + h - 4 = 4 * (a.1.2.1 + t) + h by omega]
    exact W_hou w h0 hok hh t (by omega) (fun u hu => hmo u (by omega))
theorem W_mon (w : WF 200 a) (h0 : 0 < a.1.1) (hok : ∀ r ∈ l, hl_okR r) {t : Nat} (ht : t < 100) (hmo : ∀ u, u < t + 1 → 0 ≤ mo u ∧ mo u ≤ 99) : (hw_W l mo a (t + 1)).2.1 11 (a.1.2.1 + (t + 1)) = mo t := by
  have e := W_1 (l := l) (mo := mo) (a := a) t
  have es : (hw_mon (hw_W l mo a t) (mo t)).1.2.1 = a.1.2.1 + t := by show (hw_W l mo a t).1.2.1 = _; rw [e]
  have es2 : (hw_W l mo a t).1.2.1 = a.1.2.1 + t := by rw [e]
  rw [W_st w h0 hok ht hmo 11 _ (by omega) (by omega) (by omega) (fun z => by omega), beg_11, es, if_pos (by omega)]
  show (hx_sI _ 11 _ _).1 11 _ = _
  rw [es2, sIe]
end WW
