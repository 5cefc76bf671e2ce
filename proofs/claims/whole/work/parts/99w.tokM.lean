/-! layer 2: law, the reference's reading by tokens -/
section TL
variable {N : Nat} {t : Nat → Int32}
theorem tl_ok : ∀ (r f : Nat), N - f < r → f ≤ N → (tl t N r f).getD 0 N = nb t N f ∧ ∀ i, i < (tl t N r f).length → (tl t N r f).getD i N < N ∧ bB (t ((tl t N r f).getD i N)) = false ∧ nb t N (tE t N ((tl t N r f).getD i N)) = (tl t N r f).getD (i + 1) N
  | 0, f, h, _ => by omega
  | r + 1, f, h, hf => by
    have e : tl t N (r + 1) f = if N ≤ f then [] else if bB (t f) = true then tl t N r (f + 1) else f :: tl t N r (tE t N f) := rfl
    by_cases c : N ≤ f
    · rw [e, if_pos c]
      refine ⟨?_, fun i hi => by simp at hi⟩
      show N = run bB t N f
      rw [run_ge _ _ _ c]; omega
    · rw [if_neg c] at e
      by_cases c2 : bB (t f) = true
      · rw [e, if_pos c2]
        obtain ⟨h1, h2⟩ := tl_ok r (f + 1) (by omega) (by omega)
        refine ⟨?_, h2⟩
        rw [h1]
        exact (run_yes (by omega) c2).symm
      · rw [e, if_neg c2]
        have hb : bB (t f) = false := by simpa using c2
        obtain ⟨q1, q2, _⟩ := tE_rng (t := t) (N := N) (p := f) (by omega)
        obtain ⟨h1, h2⟩ := tl_ok r (tE t N f) (by omega) q2
        refine ⟨(run_no hb).symm, fun i hi => ?_⟩
        cases i with
        | zero => exact ⟨by show f < N; omega, hb, h1.symm⟩
        | succ i =>
          have hi' : i < (tl t N r (tE t N f)).length := by
            have : i + 1 < (tl t N r (tE t N f)).length + 1 := hi
            omega
          exact h2 i hi'
/-- the place of a token -/
def pos (t : Nat → Int32) (N : Nat) (i : Nat) : Nat := (tl t N (N + 1) 0).getD i N
abbrev tkC (t : Nat → Int32) (N : Nat) : Nat := (tl t N (N + 1) 0).length
abbrev tkF (t : Nat → Int32) (N : Nat) : Nat → Int32 := tkT t N (tl t N (N + 1) 0)
theorem pos_0 : pos t N 0 = nb t N 0 := (tl_ok (N + 1) 0 (by omega) (Nat.zero_le _)).1
theorem pos_s {i : Nat} (hi : i < tkC t N) : pos t N i < N ∧ bB (t (pos t N i)) = false ∧ nb t N (tE t N (pos t N i)) = pos t N (i + 1) := (tl_ok (N + 1) 0 (by omega) (Nat.zero_le _)).2 i hi
theorem pos_e {i : Nat} (hi : tkC t N ≤ i) : pos t N i = N := by
  unfold pos
  simp only [List.getD]
  rw [List.getElem?_eq_none hi]
  rfl
theorem pos_le {i : Nat} : pos t N i ≤ N := by
  by_cases c : i < tkC t N
  · exact Nat.le_of_lt (pos_s c).1
  · rw [pos_e (by omega)]; exact Nat.le_refl _
theorem tk_at {i : Nat} (hi : i < tkC t N) : tkF t N i = tK t N (pos t N i) := by
  have : (tl t N (N + 1) 0).getD i 0 = pos t N i := by
    unfold pos
    simp [List.getD, List.getElem?_eq_getElem hi]
  show (if i < tkC t N then tK t N ((tl t N (N + 1) 0).getD i 0) else -2) = _
  rw [if_pos hi, this]
theorem tk_end {i : Nat} (hi : tkC t N ≤ i) : tkF t N i = -2 := if_neg (Nat.not_lt.mpr hi)
theorem nb_pos {i : Nat} : nb t N (pos t N i) = pos t N i := by
  by_cases c : i < tkC t N
  · exact run_no (pos_s c).2.1
  · rw [pos_e (by omega)]; exact run_ge _ _ _ (Nat.le_refl _)
theorem wkF_inv {q L : Nat} : ∀ {ws : List (List Nat)} {k0 : Nat}, wkF t q L ws k0 = -3 ∨ ∃ j, j < ws.length ∧ wm t q L (ws.getD j []) = true ∧ wkF t q L ws k0 = Int32.ofNat (10000 + (k0 + j))
  | [], k0 => Or.inl rfl
  | c :: r, k0 => by
    have e : wkF t q L (c :: r) k0 = if wm t q L c = true then Int32.ofNat (10000 + k0) else wkF t q L r (k0 + 1) := rfl
    by_cases h : wm t q L c = true
    · right
      refine ⟨0, by show 0 < r.length + 1; omega, h, ?_⟩
      rw [e, if_pos h, Nat.add_zero]
    · rw [e, if_neg h]
      rcases wkF_inv (ws := r) (k0 := k0 + 1) with h1 | ⟨j, j1, j2, j3⟩
      · exact Or.inl h1
      · right
        refine ⟨j + 1, by show j + 1 < r.length + 1; omega, j2, ?_⟩
        rw [j3]
        congr 2
        omega
theorem wds_21 : wds.length = 21 := rfl
theorem wds_let : ∀ c ∈ wds, ∀ x ∈ c, 97 ≤ x ∧ x ≤ 122 := by decide
theorem wds_inj : ∀ j, j < 21 → ∀ k, k < 21 → pkR (wds.getD j []) = pkR (wds.getD k []) → j = k := by decide +kernel
theorem wds_pos : ∀ j, j < 21 → 0 < pkR (wds.getD j []) ∧ pkR (wds.getD j []) < 2 ^ 50 := by decide +kernel
theorem getD_mem {j : Nat} (hj : j < 21) : wds.getD j [] ∈ wds := by
  have : j < wds.length := hj
  simp [List.getD, List.getElem?_eq_getElem this]
/-- a word's kind, by what it is packed to -/
theorem wk_iff {q L k : Nat} (hk : k < 21) (hl : ∀ j, q ≤ j → j < q + L → bL (t j) = true) : wkF t q L wds 0 = Int32.ofNat (10000 + k) ↔ wm t q L (wds.getD k []) = true := by
  have pw : ∀ j, j < 21 → (pkN t q L = pkR (wds.getD j []) ↔ wm t q L (wds.getD j []) = true) := fun j hj => pk_wm hl (wds_let _ (getD_mem hj))
  have first : ∀ (ws : List (List Nat)) (k0 : Nat), k0 + ws.length = 21 → wds.drop k0 = ws → wm t q L (wds.getD k []) = true → k0 ≤ k → wkF t q L ws k0 = Int32.ofNat (10000 + k) := by
    intro ws
    induction ws with
    | nil =>
      intro k0 e _ _ hle
      have : k0 + 0 = 21 := e
      omega
    | cons c r ih =>
      intro k0 e hd hw hle
      have e0 : wkF t q L (c :: r) k0 = if wm t q L c = true then Int32.ofNat (10000 + k0) else wkF t q L r (k0 + 1) := rfl
      have hk0 : k0 < 21 := by
        have : k0 + (r.length + 1) = 21 := e
        omega
      have ec : wds.getD k0 [] = c := by
        have hlt : k0 < wds.length := hk0
        rw [List.drop_eq_getElem_cons hlt] at hd
        have : wds[k0] = c := by
          have := (List.cons.inj hd).1
          exact this
        simp [List.getD, List.getElem?_eq_getElem hlt, this]
      rw [e0]
      by_cases h : wm t q L c = true
      · rw [if_pos h]
        rw [← ec] at h
        have : k0 = k := wds_inj k0 hk0 k hk (((pw k0 hk0).mpr h).symm.trans ((pw k hk).mpr hw))
        rw [this]
      · rw [if_neg h]
        refine ih (k0 + 1) (by have : k0 + (r.length + 1) = 21 := e; omega) ?_ hw ?_
        · have hlt : k0 < wds.length := hk0
          rw [List.drop_eq_getElem_cons hlt] at hd
          exact (List.cons.inj hd).2
        · have : k0 ≠ k := fun z => h (by rw [← ec, z]; exact hw)
          omega
  constructor
  · intro h
    rcases wkF_inv (t := t) (q := q) (L := L) (ws := wds) (k0 := 0) with h1 | ⟨j, j1, j2, j3⟩
    · rw [h1] at h
      exact absurd h.symm (n32_neg (by omega) (by decide))
    · rw [j3] at h
      have hj : j < 21 := j1
      have := (n32_eq (by omega) (by omega)).mp h
      have : j = k := by omega
      rw [← this]; exact j2
  · intro h
    exact first wds 0 rfl rfl h (Nat.zero_le _)
theorem numF_rng : ∀ (r p acc : Nat), (∀ j, p ≤ j → j < p + r → bD (t j) = true) → acc < 10 ^ (4 - r) → r ≤ 4 → ∃ v, numF t r p (Int32.ofNat acc) = Int32.ofNat v ∧ v < 10 ^ 4
  | 0, p, acc, _, ha, _ => ⟨acc, rfl, ha⟩
  | r + 1, p, acc, hd, ha, hr => by
    have hdp : 48 ≤ t p ∧ t p ≤ 57 := decide_eq_true_iff.mp (hd p (Nat.le_refl _) (by omega))
    obtain ⟨b, eb, hb⟩ := n32_of (hi := 57) (Int32.le_trans (by decide) hdp.1) hdp.2 (by omega)
    have hb48 : 48 ≤ b := by
      have := hdp.1
      rw [eb] at this
      exact (n32_le (a := 48) (by omega) (by omega)).mp this
    have h10 : (10 : Nat) ^ (4 - r) = 10 ^ (4 - (r + 1)) * 10 := by
      rw [← Nat.pow_succ]
      congr 1
      omega
    have e : numF t (r + 1) p (Int32.ofNat acc) = numF t r (p + 1) (Int32.ofNat acc * 10 + t p - 48) := rfl
    have e48 : (48 : Int32) = Int32.ofNat 48 := rfl
    have e10 : (10 : Int32) = Int32.ofNat 10 := rfl
    rw [e, eb, e48, e10, n32_mul, n32_add, n32_subn (by omega)]
    exact numF_rng r (p + 1) (acc * 10 + b - 48) (fun j a c => hd j (by omega) (by omega)) (by omega) (by omega)
/-- what kinds there are -/
theorem tK_kind {p : Nat} (hp : p < N) : (bL (t p) = true ∧ (tK t N p = -3 ∨ ∃ k, k < 21 ∧ tK t N p = Int32.ofNat (10000 + k))) ∨ (bL (t p) = false ∧ bD (t p) = true ∧ (tK t N p = -3 ∨ ∃ v, v < 10000 ∧ tK t N p = Int32.ofNat v)) ∨ (bL (t p) = false ∧ bD (t p) = false ∧ ((isSg (t p) = true ∧ tK t N p = 20000 + t p) ∨ (isSg (t p) = false ∧ tK t N p = -3))) := by
  unfold tK
  cases hl : bL (t p) with
  | true =>
    left
    refine ⟨rfl, ?_⟩
    rw [if_pos rfl]
    rcases wkF_inv (t := t) (q := p) (L := tE t N p - p) (ws := wds) (k0 := 0) with h1 | ⟨j, j1, j2, j3⟩
    · exact Or.inl h1
    · refine Or.inr ⟨j, j1, ?_⟩
      rw [j3, Nat.zero_add]
  | false =>
    right
    rw [if_neg (by simp)]
    cases hd : bD (t p) with
    | true =>
      left
      refine ⟨rfl, rfl, ?_⟩
      rw [if_pos rfl]
      by_cases c : tE t N p - p ≤ 4
      · rw [if_pos c]
        right
        have hE : tE t N p = run bD t N (p + 1) := by
          unfold tE
          rw [if_neg (by rw [hl]; simp), if_pos hd]
        have hr := run_rng bD t N (p + 1)
        obtain ⟨v, ev, hv⟩ := numF_rng (t := t) (tE t N p - p) p 0 (fun j a b => by
          by_cases e : j = p
          · rw [e]; exact hd
          · exact hr.2.2 j (by omega) (by rw [← hE]; omega)) (Nat.pos_of_ne_zero (by simp)) c
        exact ⟨v, by omega, ev⟩
      · rw [if_neg c]; exact Or.inl rfl
    | false =>
      right
      refine ⟨rfl, rfl, ?_⟩
      rw [if_neg (by simp)]
      cases hs : isSg (t p) with
      | true => left; exact ⟨rfl, if_pos rfl⟩
      | false => right; exact ⟨rfl, if_neg (by simp)⟩
theorem n20 {x : Int32} {c : Nat} (h : isSg x = true) : ∃ v, 40 ≤ v ∧ v ≤ 62 ∧ x = Int32.ofNat v := by
  have := decide_eq_true_iff.mp h
  rcases this with h | h | h | h | h | h
  · exact ⟨59, by omega, by omega, h⟩
  · exact ⟨40, by omega, by omega, h⟩
  · exact ⟨41, by omega, by omega, h⟩
  · exact ⟨60, by omega, by omega, h⟩
  · exact ⟨62, by omega, by omega, h⟩
  · exact ⟨61, by omega, by omega, h⟩
/-- the word at a token -/
theorem wordTok {i k : Nat} (hN : N ≤ 700) (hk : k < 21) : wv t (pos t N i) (run bL t N (pos t N i) - pos t N i) = Int64.ofNat (pkR (wds.getD k [])) ↔ tkF t N i = Int32.ofNat (10000 + k) := by
  have hw := wds_pos k hk
  have no : wv t (pos t N i) 0 ≠ Int64.ofNat (pkR (wds.getD k [])) := fun z => by
    have := congrArg Int64.toInt z
    unfold wv at this
    rw [if_pos (by omega), n64_nat (by show 0 < 2 ^ 62; omega), n64_nat (by omega)] at this
    have e : pkN t (pos t N i) 0 = 0 := rfl
    rw [e] at this
    omega
  by_cases c : i < tkC t N
  · rw [tk_at c]
    have hp := (pos_s c).1
    rcases tK_kind (t := t) hp with ⟨h1, _⟩ | ⟨h1, h2, h3⟩ | ⟨h1, h2, h3⟩
    · have hE : tE t N (pos t N i) = run bL t N (pos t N i) := by
        unfold tE
        rw [if_pos h1, ← run_yes hp h1]
      have hr := run_rng bL t N (pos t N i)
      have hl : ∀ j, pos t N i ≤ j → j < pos t N i + (run bL t N (pos t N i) - pos t N i) → bL (t j) = true := fun j a b => hr.2.2 j a (by omega)
      have et : tK t N (pos t N i) = wkF t (pos t N i) (run bL t N (pos t N i) - pos t N i) wds 0 := by
        unfold tK
        rw [if_pos h1, hE]
      rw [et, wk_iff hk hl]
      have pw := pk_wm (t := t) (c := wds.getD k []) hl (wds_let _ (getD_mem hk))
      unfold wv
      by_cases c7 : run bL t N (pos t N i) - pos t N i ≤ 7
      · rw [if_pos c7, ← pw]
        have hlt := pkN_lt hl
        have h256 : 256 ^ (run bL t N (pos t N i) - pos t N i) ≤ 256 ^ 7 := Nat.pow_le_pow_right (by omega) c7
        constructor
        · intro z
          have := congrArg Int64.toInt z
          rw [n64_nat (by omega), n64_nat (by omega)] at this
          omega
        · intro z; rw [z]
      · rw [if_neg c7]
        constructor
        · intro z
          have := congrArg Int64.toInt z
          rw [n64_nat (by omega)] at this
          have e : (0 : Int64).toInt = 0 := rfl
          rw [e] at this
          omega
        · intro z
          exfalso
          have := (wm_iff.mp z).1
          have := wds_len _ (getD_mem hk)
          omega
    · have e0 : run bL t N (pos t N i) - pos t N i = 0 := by rw [run_no h1]; omega
      rw [e0]
      refine ⟨fun z => absurd z no, fun z => ?_⟩
      exfalso
      rcases h3 with h3 | ⟨v, hv, h3⟩
      · rw [h3] at z
        exact absurd z.symm (n32_neg (by omega) (by decide))
      · rw [h3] at z
        have := (n32_eq (by omega) (by omega)).mp z
        omega
    · have e0 : run bL t N (pos t N i) - pos t N i = 0 := by rw [run_no h1]; omega
      rw [e0]
      refine ⟨fun z => absurd z no, fun z => ?_⟩
      exfalso
      rcases h3 with ⟨h3, h4⟩ | ⟨h3, h4⟩
      · obtain ⟨v, v1, v2, ev⟩ := n20 (c := 0) h3
        rw [h4, ev] at z
        have e20 : (20000 : Int32) = Int32.ofNat 20000 := rfl
        rw [e20, n32_add] at z
        have := (n32_eq (by omega) (by omega)).mp z
        omega
      · rw [h4] at z
        exact absurd z.symm (n32_neg (by omega) (by decide))
  · rw [tk_end (by omega), pos_e (by omega)] at *
    have e0 : run bL t N N - N = 0 := by rw [run_ge _ _ _ (Nat.le_refl _)]; omega
    rw [e0]
    exact ⟨fun z => absurd z no, fun z => absurd z.symm (n32_neg (by omega) (by decide))⟩
end TL
