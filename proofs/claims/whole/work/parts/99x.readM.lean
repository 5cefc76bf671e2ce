/-! layer 2: law, what the reference takes -/
section RM
variable {N : Nat} {t : Nat → Int32} {m : hx_M} {i : Nat}
/-- the reference stands at a token, maybe before its blanks -/
def AT (N : Nat) (t : Nat → Int32) (i : Nat) (m : hx_M) : Prop := i ≤ tkC t N ∧ ∃ b, b ≤ N ∧ m.1 49 25 = Int32.ofNat b ∧ nb t N b = pos t N i
/-- the reference stands at a token -/
def AX (N : Nat) (t : Nat → Int32) (i : Nat) (m : hx_M) : Prop := i ≤ tkC t N ∧ m.1 49 25 = Int32.ofNat (pos t N i)
theorem AX.at (a : AX N t i m) : AT N t i m := ⟨a.1, _, pos_le, a.2, nb_pos⟩
theorem tk_lt (h : tkF t N i ≠ -2) : i < tkC t N := by
  apply Classical.byContradiction
  intro c
  exact h (tk_end (Nat.not_lt.mp c))
theorem nat_of3 {a : Nat} (ha : a < 2 ^ 31) : (-3 : Int32) ≠ Int32.ofNat a := Ne.symm (n32_neg ha (by decide))
theorem nat_of2 {a : Nat} (ha : a < 2 ^ 31) : (-2 : Int32) ≠ Int32.ofNat a := Ne.symm (n32_neg ha (by decide))
theorem tok_word {k : Nat} (hk : k < 21) (h : tkF t N i = Int32.ofNat (10000 + k)) : i < tkC t N ∧ nb t N (run bL t N (pos t N i)) = pos t N (i + 1) := by
  have hi : i < tkC t N := tk_lt (fun z => nat_of2 (a := 10000 + k) (by omega) (z.symm.trans h))
  refine ⟨hi, ?_⟩
  obtain ⟨p1, p2, p3⟩ := pos_s hi
  rw [tk_at hi] at h
  rcases tK_kind (t := t) p1 with ⟨h1, _⟩ | ⟨h1, h2, h3⟩ | ⟨h1, h2, h3⟩
  · rw [← p3]
    unfold tE
    rw [if_pos h1, ← run_yes p1 h1]
  · exfalso
    rcases h3 with h3 | ⟨v, hv, h3⟩
    · exact nat_of3 (a := 10000 + k) (by omega) (h3.symm.trans h)
    · have := (n32_eq (by omega) (by omega)).mp (h3.symm.trans h)
      omega
  · exfalso
    rcases h3 with ⟨h3, h4⟩ | ⟨h3, h4⟩
    · obtain ⟨v, v1, v2, ev⟩ := n20 (c := 0) h3
      rw [h4, ev] at h
      have e20 : (20000 : Int32) = Int32.ofNat 20000 := rfl
      rw [e20, n32_add] at h
      have := (n32_eq (by omega) (by omega)).mp h
      omega
    · exact nat_of3 (a := 10000 + k) (by omega) (h4.symm.trans h)
theorem tok_sign {c : Int32} (hc : isSg c = true) : tkF t N i = 20000 + c ↔ pos t N i < N ∧ t (pos t N i) = c := by
  obtain ⟨v, v1, v2, ev⟩ := n20 (c := 0) hc
  have e20 : (20000 : Int32) = Int32.ofNat 20000 := rfl
  have ec : 20000 + c = Int32.ofNat (20000 + v) := by rw [ev, e20, n32_add]
  by_cases hi : i < tkC t N
  · obtain ⟨p1, p2, p3⟩ := pos_s hi
    rw [tk_at hi]
    rcases tK_kind (t := t) p1 with ⟨h1, h3⟩ | ⟨h1, h2, h3⟩ | ⟨h1, h2, h3⟩
    · constructor
      · intro z
        exfalso
        rw [ec] at z
        rcases h3 with h3 | ⟨j, hj, h3⟩
        · exact nat_of3 (a := 20000 + v) (by omega) (h3.symm.trans z)
        · have := (n32_eq (by omega) (by omega)).mp (h3.symm.trans z)
          omega
      · rintro ⟨_, z⟩
        exfalso
        rw [z] at h1
        rcases decide_eq_true_iff.mp hc with z | z | z | z | z | z <;> (rw [z] at h1; exact absurd h1 (by decide))
    · constructor
      · intro z
        exfalso
        rw [ec] at z
        rcases h3 with h3 | ⟨j, hj, h3⟩
        · exact nat_of3 (a := 20000 + v) (by omega) (h3.symm.trans z)
        · have := (n32_eq (by omega) (by omega)).mp (h3.symm.trans z)
          omega
      · rintro ⟨_, z⟩
        exfalso
        rw [z] at h2
        rcases decide_eq_true_iff.mp hc with z | z | z | z | z | z <;> (rw [z] at h2; exact absurd h2 (by decide))
    · rcases h3 with ⟨h3, h4⟩ | ⟨h3, h4⟩
      · rw [h4]
        constructor
        · intro z
          refine ⟨p1, ?_⟩
          grind
        · rintro ⟨_, z⟩; rw [z]
      · constructor
        · intro z
          exfalso
          rw [ec] at z
          exact nat_of3 (a := 20000 + v) (by omega) (h4.symm.trans z)
        · rintro ⟨_, z⟩
          rw [z, hc] at h3
          exact absurd h3 (by decide)
  · rw [tk_end (Nat.not_lt.mp hi), pos_e (Nat.not_lt.mp hi), ec]
    exact ⟨fun z => absurd z (nat_of2 (by omega)), fun z => absurd z.1 (Nat.lt_irrefl _)⟩
theorem sign_next {c : Int32} (hc : isSg c = true) (h : tkF t N i = 20000 + c) : i < tkC t N ∧ nb t N (pos t N i + 1) = pos t N (i + 1) := by
  obtain ⟨v, v1, v2, ev⟩ := n20 (c := 0) hc
  have e20 : (20000 : Int32) = Int32.ofNat 20000 := rfl
  have ec : 20000 + c = Int32.ofNat (20000 + v) := by rw [ev, e20, n32_add]
  have hi : i < tkC t N := tk_lt (fun z => nat_of2 (a := 20000 + v) (by omega) (z.symm.trans (h.trans ec)))
  refine ⟨hi, ?_⟩
  obtain ⟨p1, p2, p3⟩ := pos_s hi
  obtain ⟨_, z⟩ := (tok_sign hc).mp h
  rw [← p3]
  unfold tE
  rw [if_neg, if_neg]
  · rw [z]; intro h1
    rcases decide_eq_true_iff.mp hc with z | z | z | z | z | z <;> (rw [z] at h1; exact absurd h1 (by decide))
  · rw [z]; intro h1
    rcases decide_eq_true_iff.mp hc with z | z | z | z | z | z <;> (rw [z] at h1; exact absurd h1 (by decide))
theorem takesM {k : Nat} {v : Int64} {K : Int32 → hx_M → Prop} (tx : TX N t m) (a : AT N t i m) (hk : k < 21) (hv : v = Int64.ofNat (pkR (wds.getD k []))) (k1 : tkF t N i = Int32.ofNat (10000 + k) → ∀ m', offX m m' → AT N t (i + 1) m' → K 1 m') (k0 : tkF t N i ≠ Int32.ofNat (10000 + k) → ∀ m', offX m m' → AX N t i m' → K 0 m') : wX12_takes m v K := by
  obtain ⟨ai, b, hb, h25, hn⟩ := a
  unfold wX12_takes
  refine wordM tx hb h25 (fun m' o h1 h2 => ?_)
  rw [hn] at h1 h2 ⊢
  rw [cmp_0, hv, wordTok tx.1 hk]
  refine ⟨fun z => ?_, fun z => k0 z m' o ⟨ai, h1⟩⟩
  obtain ⟨hi, he⟩ := tok_word hk z
  refine k1 z _ (o.sI (by omega)) ⟨hi, run bL t N (pos t N i), (run_rng bL t N _).2.1 pos_le, ?_, he⟩
  rw [sIe]; exact h2
theorem takesSignM {c : Int32} {K : Int32 → hx_M → Prop} (tx : TX N t m) (a : AT N t i m) (hc : isSg c = true) (k1 : tkF t N i = 20000 + c → ∀ m', offX m m' → AT N t (i + 1) m' → K 1 m') (k0 : tkF t N i ≠ 20000 + c → ∀ m', offX m m' → AX N t i m' → K 0 m') : wX12_takesSign m c K := by
  obtain ⟨ai, b, hb, h25, hn⟩ := a
  have hN := tx.1
  unfold wX12_takesSign
  refine blanksM tx hb h25 (fun m' o h1 => ?_)
  rw [hn] at h1
  have tx' := tx.oX o
  have hp := pos_le (t := t) (N := N) (i := i)
  rw [h1, tx'.2.1, n32_eq (by omega) (by omega), n32_nat (by omega)]
  refine ⟨fun z => k0 (fun z2 => ?_) m' o ⟨ai, h1⟩, fun z => ⟨n32_in (by omega) (by omega), ?_⟩⟩
  · have := ((tok_sign hc).mp z2).1
    omega
  · rw [tx'.2.2 _ (by omega), n32_add1]
    refine ⟨fun z2 => ?_, fun z2 => k0 (fun z3 => z2 ((tok_sign hc).mp z3).2) m' o ⟨ai, h1⟩⟩
    have e := (tok_sign hc).mpr ⟨by omega, z2⟩
    obtain ⟨hi, he⟩ := sign_next hc e
    exact k1 e _ (o.sI (by omega)) ⟨hi, pos t N i + 1, by omega, sIe, he⟩
end RM
