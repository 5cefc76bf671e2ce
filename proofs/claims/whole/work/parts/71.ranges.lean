/-! layer 2: how far sums, means, lines and wishes go -/
theorem n32_div {a b : Nat} (ha : a < 2 ^ 31) (hb : b < 2 ^ 31) : Int32.ofNat a / Int32.ofNat b = Int32.ofNat (a / b) := by
  have h1 : a / b ≤ a := Nat.div_le_self _ _
  rw [← Int32.toInt_inj, Int32.toInt_div, Int32.toInt_ofNat_of_lt ha, Int32.toInt_ofNat_of_lt hb, Int32.toInt_ofNat_of_lt (by omega), ← Int.ofNat_tdiv]
  have h2 : (0 : Int) ≤ ((a / b : Nat) : Int) := Int.natCast_nonneg _
  apply Int.bmod_eq_of_le <;> omega
theorem sumN_rng {f : Nat → Int32} {B : Nat} (hB : B ≤ 60) : ∀ {n : Nat}, n ≤ 16 → (∀ q, q < n → 0 ≤ f q ∧ f q ≤ Int32.ofNat B) → ∃ S, sumN f n = Int32.ofNat S ∧ S ≤ B * n
  | 0, _, _ => ⟨0, rfl, by omega⟩
  | n + 1, h, hf => by
    obtain ⟨S, h1, h2⟩ := sumN_rng (f := f) hB (n := n) (by omega) (fun q hq => hf q (by omega))
    obtain ⟨x, e, hx⟩ := n32_of (hf n (by omega)).1 (hf n (by omega)).2 (by omega)
    refine ⟨S + x, ?_, by rw [Nat.mul_add]; omega⟩
    show sumN f n + f n = _
    rw [h1, e, n32_add]
theorem sumW_rng {S : Nat} {a : hw_T} {t : Nat} (w : WF S a) (ht : t ≤ a.1.2.1) : ∃ x, hw_sum a t = Int32.ofNat x ∧ x ≤ 60 * a.1.1 := sumN_rng (by omega) w.n (fun q hq => w.2.2.2.2.1 t q ht hq)
theorem mean_rng {S : Nat} {a : hw_T} {p t w0 : Nat} (w : WF S a) (ht : t ≤ a.1.2.1) : hw_mean a p w0 t = -1 ∨ ∃ x, hw_mean a p w0 t = Int32.ofNat x ∧ x ≤ 60 := by
  have hn := w.n
  have key : ∀ n, n ≤ a.1.1 → ∃ S C, meanSum (a.2.1 0) (a.2.1 2 p) (fun q => a.2.1 6 (16 * t + q)) p w0 n = Int32.ofNat S ∧ meanCnt (a.2.1 0) (a.2.1 2 p) p w0 n = Int32.ofNat C ∧ S ≤ 60 * C ∧ C ≤ n := by
    intro n
    induction n with
    | zero => exact fun _ => ⟨0, 0, rfl, rfl, by omega, by omega⟩
    | succ n ih =>
      intro hn1
      obtain ⟨S, C, h1, h2, h3, h4⟩ := ih (by omega)
      rw [meanSum_s, meanCnt_s, h1, h2]
      by_cases hc : selq (a.2.1 0) (a.2.1 2 p) p w0 n
      · obtain ⟨x, e, hx⟩ := n32_of (hi := 60) (w.2.2.2.2.1 t n ht (by omega)).1 (w.2.2.2.2.1 t n ht (by omega)).2 (by omega)
        rw [if_pos hc, if_pos hc, e, n32_add, n32_add1]
        exact ⟨_, _, rfl, rfl, by omega, by omega⟩
      · rw [if_neg hc, if_neg hc, Int32.add_zero, Int32.add_zero]
        exact ⟨_, _, rfl, rfl, by omega, by omega⟩
  obtain ⟨S, C, h1, h2, h3, h4⟩ := key a.1.1 (Nat.le_refl _)
  unfold hw_mean meanW
  rw [h1, h2]
  by_cases hc : C = 0
  · left; rw [hc, if_pos]; rfl
  · right
    rw [if_neg (n32_ne0 (by omega) (by omega)), n32_div (by omega) (by omega)]
    exact ⟨_, rfl, Nat.div_le_of_le_mul (by rw [Nat.mul_comm]; omega)⟩
theorem line_rng {S : Nat} {a : hw_T} {t : Nat} (w : WF S a) (ht : t ≤ a.1.2.1) : ∃ x, hw_line a t = Int32.ofNat x ∧ x ≤ 6000 := by
  have hn := w.n
  obtain ⟨x, e, hx⟩ := sumW_rng w ht
  have e100 : (100 : Int32) = Int32.ofNat 100 := rfl
  unfold hw_line
  rw [e, e100, n32_mul, n32_div (by omega) (by omega)]
  exact ⟨_, rfl, Nat.div_le_of_le_mul (by omega)⟩
theorem old_rng {S : Nat} {a : hw_T} {k t : Nat} (w : WF S a) (ht : t ≤ a.1.2.1) : hw_old a k t = -1 ∨ ∃ x, hw_old a k t = Int32.ofNat x ∧ x ≤ 60 := by
  have hn := w.n
  unfold hw_old
  by_cases hk : k ≤ t
  · rw [if_pos hk]
    right
    obtain ⟨x, e, hx⟩ := sumW_rng w (t := t - k) (by omega)
    rw [e, n32_div (by omega) (by omega)]
    exact ⟨_, rfl, Nat.div_le_of_le_mul (by rw [Nat.mul_comm]; omega)⟩
  · rw [if_neg hk]; exact Or.inl rfl
theorem goal_rng {act own mean b : Nat} (h1 : own ≤ 60) (h2 : mean ≤ 60) (h3 : b ≤ 60) : 0 ≤ hl_goal act (Int32.ofNat own) (Int32.ofNat mean) (Int32.ofNat b) ∧ hl_goal act (Int32.ofNat own) (Int32.ofNat mean) (Int32.ofNat b) ≤ 60 := by
  have a1 : 0 ≤ Int32.ofNat own := (n32_le (a := 0) (by omega) (by omega)).mpr (by omega)
  have a2 : Int32.ofNat own ≤ 60 := (n32_le (b := 60) (by omega) (by omega)).mpr (by omega)
  have b1 : 0 ≤ Int32.ofNat mean := (n32_le (a := 0) (by omega) (by omega)).mpr (by omega)
  have b2 : Int32.ofNat mean ≤ 60 := (n32_le (b := 60) (by omega) (by omega)).mpr (by omega)
  have c1 : 0 ≤ Int32.ofNat b := (n32_le (a := 0) (by omega) (by omega)).mpr (by omega)
  have c2 : Int32.ofNat b ≤ 60 := (n32_le (b := 60) (by omega) (by omega)).mpr (by omega)
  generalize Int32.ofNat own = x at *
  generalize Int32.ofNat mean = y at *
  generalize Int32.ofNat b = z at *
  unfold hl_goal
  generalize (if 0 ≤ x - y then x - y else 0 - (x - y)) = u
  constructor
  all_goals
    repeat' split
  all_goals grind
theorem wish_rng {S : Nat} {a : hw_T} {l : List hl_R} {p t : Nat} {coin worn chance : Int32} (w : WF S a) (ht : t ≤ a.1.2.1) (hp : p < a.1.1) (hok : ∀ r ∈ l, hl_okR r) : 0 ≤ (hw_wish a l p t coin worn chance).1 ∧ (hw_wish a l p t coin worn chance).1 ≤ 60 := by
  have hl0 := w.2.2.2.2.1 t p ht hp
  unfold hw_wish
  generalize hw_ans a p t coin worn chance = ans
  revert hok
  induction l with
  | nil => exact fun _ => hl0
  | cons r rs ih =>
    intro hok
    have hokr := hok r List.mem_cons_self
    have hrs := ih (fun r' hr' => hok r' (List.mem_cons_of_mem _ hr'))
    unfold hl_wish
    by_cases g1 : hl_holds ans r.2 = true
    · rw [if_pos g1]
      by_cases g2 : r.1.1 = 2
      · rw [if_pos g2]; exact hl0
      · rw [if_neg g2]
        have hmr : hl_mean (fun w => hw_mean a p w t) (fun h => a.2.1 10 (4 * t + h)) (fun k => hw_old a k t) r = -1 ∨ ∃ x, hl_mean (fun w => hw_mean a p w t) (fun h => a.2.1 10 (4 * t + h)) (fun k => hw_old a k t) r = Int32.ofNat x ∧ x ≤ 60 := by
          unfold hl_mean
          by_cases c1 : r.1.2.1 ≤ 3
          · rw [if_pos c1]; exact mean_rng w ht
          · rw [if_neg c1]
            by_cases c2 : r.1.2.1 = 4
            · rw [if_pos c2]
              have hh := w.2.2.2.2.2.1 t r.1.2.2.1 ht (by have := hokr.2.2.2.1 c2; omega)
              by_cases c3 : a.2.1 10 (4 * t + r.1.2.2.1) = -1
              · exact Or.inl c3
              · right
                have h0 : 0 ≤ a.2.1 10 (4 * t + r.1.2.2.1) := by
                  have := hh.1
                  generalize a.2.1 10 (4 * t + r.1.2.2.1) = y at *
                  grind
                obtain ⟨x, e, hx⟩ := n32_of (hi := 60) h0 hh.2 (by omega)
                exact ⟨x, e, hx⟩
            · rw [if_neg c2]; exact old_rng w ht
        rcases hmr with h | ⟨x, e, hx⟩
        · rw [if_pos h]; exact hrs
        · have hne : ¬ hl_mean (fun w => hw_mean a p w t) (fun h => a.2.1 10 (4 * t + h)) (fun k => hw_old a k t) r = -1 := by
            rw [e]; exact n32_neg (by omega) (by decide)
          rw [if_neg hne, e]
          obtain ⟨o, eo, ho⟩ := n32_of (hi := 60) hl0.1 hl0.2 (by omega)
          rw [eo]
          exact goal_rng ho hx hokr.2.2.2.2.2.2.1
    · rw [if_neg g1]; exact hrs
/-! loops with what they carry -/
def itN {α : Type} (f : Nat → α → α) : Nat → Nat → α → α
  | _, 0, x => x
  | i, r + 1, x => itN f (i + 1) r (f i x)
def ab (x : Int32) : Int32 := if 0 ≤ x then x else 0 - x
