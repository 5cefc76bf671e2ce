/-! layer 2: law, how the reference reads comparisons, lists of them -/
section CM
variable {N : Nat} {t : Nat → Int32} {μ m m' : hx_M} {h d i i' : Nat} {V : List hl_S}
theorem tkC_le : tkC t N ≤ N := by
  have key : ∀ (r f : Nat), f ≤ N → N - f < r → (tl t N r f).length + f ≤ N := by
    intro r
    induction r with
    | zero => intro f _ h; omega
    | succ r ih =>
      intro f hf hr
      have e : tl t N (r + 1) f = if N ≤ f then [] else if bB (t f) = true then tl t N r (f + 1) else f :: tl t N r (tE t N f) := rfl
      by_cases c : N ≤ f
      · rw [e, if_pos c]; show 0 + f ≤ N; omega
      · rw [e, if_neg c]
        by_cases c2 : bB (t f) = true
        · rw [if_pos c2]
          have := ih (f + 1) (by omega) (by omega)
          omega
        · rw [if_neg c2]
          obtain ⟨q1, q2, _⟩ := tE_rng (t := t) (N := N) (p := f) (by omega)
          have := ih (tE t N f) q2 (by omega)
          show (tl t N r (tE t N f)).length + 1 + f ≤ N
          omega
  have h1 := key (N + 1) 0 (Nat.zero_le _) (by omega)
  rw [Nat.add_zero] at h1
  exact h1
end CM
