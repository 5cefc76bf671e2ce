/-! layer 2: the start, a store made from nothing -/
def lkI : List (Nat × Nat × Int32) → Nat → Nat → Int32
  | [], _, _ => 0
  | q :: r, c, j => if c = q.1 ∧ j = q.2.1 then q.2.2 else lkI r c j
def lkL : List (Nat × Nat × Int64) → Nat → Nat → Int64
  | [], _, _ => 0
  | q :: r, c, j => if c = q.1 ∧ j = q.2.1 then q.2.2 else lkL r c j
/-- so many cells, their shapes and references, what was written (of cell 19 the first four) -/
def ST (k : Nat) (sh rf : List (Nat × Nat × Nat)) (wi : List (Nat × Nat × Int32)) (wl : List (Nat × Nat × Int64)) (L : hx_L) (m : hx_M) : Prop :=
  L.2.2 = k ∧ (∀ q ∈ sh, q.1 < k ∧ L.1 q.1 = q.2) ∧ (∀ q ∈ rf, q.1 < k ∧ L.2.1 q.1 q.2.1 = some q.2.2) ∧ (∀ q ∈ wi, q.1 < k) ∧ (∀ q ∈ wl, q.1 < k) ∧ (∀ c j, (c = 19 → j < 4) → m.1 c j = lkI wi c j) ∧ (∀ c j, m.2 c j = lkL wl c j)
theorem lkI_0 : ∀ {wi : List (Nat × Nat × Int32)} {k : Nat}, (∀ q ∈ wi, q.1 < k) → ∀ c j, k ≤ c → lkI wi c j = 0
  | [], _, _, _, _, _ => rfl
  | q :: r, k, h, c, j, hc => by
    have h1 := h q List.mem_cons_self
    show (if c = q.1 ∧ j = q.2.1 then q.2.2 else lkI r c j) = 0
    rw [if_neg (fun z => by omega)]
    exact lkI_0 (fun x hx => h x (List.mem_cons_of_mem _ hx)) c j hc
theorem lkL_0 : ∀ {wi : List (Nat × Nat × Int64)} {k : Nat}, (∀ q ∈ wi, q.1 < k) → ∀ c j, k ≤ c → lkL wi c j = 0
  | [], _, _, _, _, _ => rfl
  | q :: r, k, h, c, j, hc => by
    have h1 := h q List.mem_cons_self
    show (if c = q.1 ∧ j = q.2.1 then q.2.2 else lkL r c j) = 0
    rw [if_neg (fun z => by omega)]
    exact lkL_0 (fun x hx => h x (List.mem_cons_of_mem _ hx)) c j hc
section STS
variable {k : Nat} {sh rf : List (Nat × Nat × Nat)} {wi : List (Nat × Nat × Int32)} {wl : List (Nat × Nat × Int64)} {L L' : hx_L} {m m' : hx_M}
theorem ST.zero : ST 0 [] [] [] [] hx_L0 (fun _ _ => 0, fun _ _ => 0) := ⟨rfl, fun q hq => by simp at hq, fun q hq => by simp at hq, fun q hq => by simp at hq, fun q hq => by simp at hq, fun _ _ _ => rfl, fun _ _ => rfl⟩
theorem ST.n (h : ST k sh rf wi wl L m) : L.2.2 = k := h.1
theorem ST.s (h : ST k sh rf wi wl L m) {c t n : Nat} (hq : (c, t, n) ∈ sh) : L.1 c = (t, n) := (h.2.1 (c, t, n) hq).2
theorem ST.r (h : ST k sh rf wi wl L m) {c j q : Nat} (hq : (c, j, q) ∈ rf) : L.2.1 c j = some q := (h.2.2.1 (c, j, q) hq).2
theorem ST.v (h : ST k sh rf wi wl L m) {c j : Nat} {v : Int32} (hc : c = 19 → j < 4) (e : lkI wi c j = v) : m.1 c j = v := (h.2.2.2.2.2.1 c j hc).trans e
theorem ST.l (h : ST k sh rf wi wl L m) {c j : Nat} {v : Int64} (e : lkL wl c j = v) : m.2 c j = v := (h.2.2.2.2.2.2 c j).trans e
theorem ST.push (h : ST k sh rf wi wl L m) {s : Nat × Nat} (eL : L' = hx_push L s) (em : m' = hx_z m k) : ST (k + 1) ((k, s) :: sh) rf wi wl L' m' := by
  subst eL; subst em
  obtain ⟨h1, h2, h3, h4, h5, h6, h7⟩ := h
  refine ⟨?_, fun q hq => ?_, fun q hq => ?_, fun q hq => Nat.lt_succ_of_lt (h4 q hq), fun q hq => Nat.lt_succ_of_lt (h5 q hq), fun c j hc => ?_, fun c j => ?_⟩
  · show L.2.2 + 1 = k + 1
    rw [h1]
  · rcases List.mem_cons.mp hq with rfl | hq
    · refine ⟨Nat.lt_succ_self k, ?_⟩
      show (if k = L.2.2 then s else L.1 k) = s
      rw [if_pos h1.symm]
    · have := h2 q hq
      refine ⟨by omega, ?_⟩
      show (if q.1 = L.2.2 then s else L.1 q.1) = q.2
      rw [if_neg (by omega)]; exact this.2
  · have := h3 q hq
    refine ⟨by omega, ?_⟩
    show (if q.1 = L.2.2 then none else L.2.1 q.1 q.2.1) = some q.2.2
    rw [if_neg (by omega)]; exact this.2
  · show (if c = k then (fun _ => 0) else m.1 c) j = lkI wi c j
    by_cases e : c = k
    · rw [if_pos e, lkI_0 h4 c j (by omega)]
    · rw [if_neg e]; exact h6 c j hc
  · show (if c = k then (fun _ => 0) else m.2 c) j = lkL wl c j
    by_cases e : c = k
    · rw [if_pos e, lkL_0 h5 c j (by omega)]
    · rw [if_neg e]; exact h7 c j
theorem ST.ref (h : ST k sh rf wi wl L m) {c j q : Nat} (eL : L' = hx_sR L c j q) (hc : c < k) (hf : ∀ x ∈ rf, ¬ (x.1 = c ∧ x.2.1 = j)) : ST k sh ((c, j, q) :: rf) wi wl L' m := by
  subst eL
  obtain ⟨h1, h2, h3, h4⟩ := h
  refine ⟨h1, h2, fun x hx => ?_, h4⟩
  rcases List.mem_cons.mp hx with rfl | hx
  · refine ⟨hc, ?_⟩
    show (if c = c then (if j = j then some q else _) else _) = some q
    rw [if_pos rfl, if_pos rfl]
  · have := h3 x hx
    refine ⟨this.1, ?_⟩
    have hne := hf x hx
    show (if x.1 = c then (if x.2.1 = j then some q else L.2.1 x.1 x.2.1) else L.2.1 x.1 x.2.1) = _
    by_cases e : x.1 = c
    · rw [if_pos e, if_neg (fun z => hne ⟨e, z⟩)]; exact this.2
    · rw [if_neg e]; exact this.2
theorem ST.sI (h : ST k sh rf wi wl L m) {c j : Nat} {v : Int32} (hc : c < k) : ST k sh rf ((c, j, v) :: wi) wl L (hx_sI m c j v) := by
  obtain ⟨h1, h2, h3, h4, h5, h6, h7⟩ := h
  refine ⟨h1, h2, h3, fun q hq => ?_, h5, fun a b hb => ?_, h7⟩
  · rcases List.mem_cons.mp hq with rfl | hq
    · exact hc
    · exact h4 q hq
  · rw [hm_sI]
    show _ = if a = c ∧ b = j then v else lkI wi a b
    by_cases e : a = c ∧ b = j
    · rw [if_pos e, if_pos e]
    · rw [if_neg e, if_neg e]; exact h6 a b hb
theorem ST.sL (h : ST k sh rf wi wl L m) {c j : Nat} {v : Int64} (hc : c < k) : ST k sh rf wi ((c, j, v) :: wl) L (hx_sL m c j v) := by
  obtain ⟨h1, h2, h3, h4, h5, h6, h7⟩ := h
  refine ⟨h1, h2, h3, h4, fun q hq => ?_, h6, fun a b => ?_⟩
  · rcases List.mem_cons.mp hq with rfl | hq
    · exact hc
    · exact h5 q hq
  · rw [hm_sLv]
    show _ = if a = c ∧ b = j then v else lkL wl a b
    by_cases e : a = c ∧ b = j
    · rw [if_pos e, if_pos e]
    · rw [if_neg e, if_neg e]; exact h7 a b
theorem ST.fill (h : ST k sh rf wi wl L m) {n : Nat} (hn : 4 ≤ n) (hk : 19 < k) : ST k sh rf ((19, 3, -1) :: (19, 2, -1) :: (19, 1, -1) :: (19, 0, -1) :: wi) wl L (hx_sA m 19 (fun j => if j < n then -1 else m.1 19 j)) := by
  obtain ⟨h1, h2, h3, h4, h5, h6, h7⟩ := h
  refine ⟨h1, h2, h3, fun q hq => ?_, h5, fun a b hb => ?_, h7⟩
  · simp only [List.mem_cons] at hq
    rcases hq with rfl | rfl | rfl | rfl | hq
    · exact hk
    · exact hk
    · exact hk
    · exact hk
    · exact h4 q hq
  · show (if a = 19 then (fun j => if j < n then -1 else m.1 19 j) else m.1 a) b = if a = 19 ∧ b = 3 then -1 else if a = 19 ∧ b = 2 then -1 else if a = 19 ∧ b = 1 then -1 else if a = 19 ∧ b = 0 then -1 else lkI wi a b
    by_cases e : a = 19
    · have hb4 := hb e
      rw [if_pos e]
      show (if b < n then -1 else m.1 19 b) = _
      rw [if_pos (by omega)]
      have : b = 0 ∨ b = 1 ∨ b = 2 ∨ b = 3 := by omega
      rcases this with rfl | rfl | rfl | rfl <;> simp [e]
    · rw [if_neg e, if_neg (fun z => e z.1), if_neg (fun z => e z.1), if_neg (fun z => e z.1), if_neg (fun z => e z.1)]
      exact h6 a b hb
theorem ST.cF (h : ST k sh rf wi wl L m) (h1 : ∀ q ∈ cFS, q ∈ sh) (h2 : ∀ q ∈ cFR, q ∈ rf) (h3 : 49 ≤ k) : cF L := ⟨fun q hq => (h.2.1 q (h1 q hq)).2, fun q hq => (h.2.2.1 q (h2 q hq)).2, by rw [h.1]; exact h3⟩
theorem ST.mF (h : ST k sh rf wi wl L m) (h1 : ∀ q ∈ mFS, q ∈ sh) (h2 : ∀ q ∈ mFR, q ∈ rf) (h3 : 93 ≤ k) : mF L := ⟨fun q hq => (h.2.1 q (h1 q hq)).2, fun q hq => (h.2.2.1 q (h2 q hq)).2, by rw [h.1]; exact h3⟩
end STS
