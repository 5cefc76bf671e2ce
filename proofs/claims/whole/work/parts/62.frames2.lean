/-! layer 2: frames of single writes -/
theorem keepC.sI {μ m : hx_M} {c j : Nat} {v : Int32} (h : keepC μ m) (hc : ¬ (c ≤ 6 ∨ c = 15 ∨ (39 ≤ c ∧ c ≤ 42) ∨ 48 ≤ c)) : keepC μ (hx_sI m c j v) := by
  intro k hk
  refine ⟨?_, (h k hk).2⟩
  show (if k = c then _ else m.1 k) = μ.1 k
  rw [if_neg (show ¬ k = c by omega)]
  exact (h k hk).1
theorem keepC.sA {μ m : hx_M} {c : Nat} {f : Nat → Int32} (h : keepC μ m) (hc : ¬ (c ≤ 6 ∨ c = 15 ∨ (39 ≤ c ∧ c ≤ 42) ∨ 48 ≤ c)) : keepC μ (hx_sA m c f) := by
  intro k hk
  refine ⟨?_, (h k hk).2⟩
  show (if k = c then _ else m.1 k) = μ.1 k
  rw [if_neg (show ¬ k = c by omega)]
  exact (h k hk).1
theorem keepC.sL {μ m : hx_M} {c j : Nat} {v : Int64} (h : keepC μ m) (hc : ¬ (c ≤ 6 ∨ c = 15 ∨ (39 ≤ c ∧ c ≤ 42) ∨ 48 ≤ c)) : keepC μ (hx_sL m c j v) := by
  intro k hk
  refine ⟨(h k hk).1, ?_⟩
  show (if k = c then _ else m.2 k) = μ.2 k
  rw [if_neg (show ¬ k = c by omega)]
  exact (h k hk).2
theorem keepM.sI {μ m : hx_M} {c j : Nat} {v : Int32} (h : keepM μ m) (hc : ¬ (c < 49 ∨ (63 ≤ c ∧ c ≤ 72) ∨ c = 74 ∨ (82 ≤ c ∧ c ≤ 84) ∨ (90 ≤ c ∧ c ≤ 91) ∨ 93 ≤ c)) (hj : c = 49 → j ∉ [20, 21, 22, 23, 27, 55, 65]) : keepM μ (hx_sI m c j v) := by
  refine ⟨fun k hk => ⟨?_, (h.1 k hk).2⟩, fun i hi => ?_⟩
  · show (if k = c then _ else m.1 k) = μ.1 k
    rw [if_neg (show ¬ k = c by omega)]
    exact (h.1 k hk).1
  · rw [hm_sI, if_neg (fun z : 49 = c ∧ i = j => hj z.1.symm (by rw [← z.2]; exact hi))]
    exact h.2 i hi
theorem keepM.sA {μ m : hx_M} {c : Nat} {f : Nat → Int32} (h : keepM μ m) (hc : ¬ (c ≤ 49 ∨ (63 ≤ c ∧ c ≤ 72) ∨ c = 74 ∨ (82 ≤ c ∧ c ≤ 84) ∨ (90 ≤ c ∧ c ≤ 91) ∨ 93 ≤ c)) : keepM μ (hx_sA m c f) := by
  refine ⟨fun k hk => ⟨?_, (h.1 k hk).2⟩, fun i hi => ?_⟩
  · show (if k = c then _ else m.1 k) = μ.1 k
    rw [if_neg (show ¬ k = c by omega)]
    exact (h.1 k hk).1
  · rw [hm_sA, if_neg (by omega)]
    exact h.2 i hi
theorem keepM.sL {μ m : hx_M} {c j : Nat} {v : Int64} (h : keepM μ m) (hc : ¬ (c < 49 ∨ (63 ≤ c ∧ c ≤ 72) ∨ c = 74 ∨ (82 ≤ c ∧ c ≤ 84) ∨ (90 ≤ c ∧ c ≤ 91) ∨ 93 ≤ c)) : keepM μ (hx_sL m c j v) := by
  refine ⟨fun k hk => ⟨(h.1 k hk).1, ?_⟩, h.2⟩
  show (if k = c then _ else m.2 k) = μ.2 k
  rw [if_neg (show ¬ k = c by omega)]
  exact (h.1 k hk).2
theorem MW.kC {a : hw_T} {μ m : hx_M} (h : MW a μ) (k : keepC μ m) : MW a m := h.fr (fun j _ => by rw [k.a 49 (by omega)]) (k.b 49 (by omega)) (fun i hi => k.a i (by omega))
theorem CW.kM {a : hw_T} {μ m : hx_M} (h : CW 0 a μ) (k : keepM μ m) : CW 0 a m := h.fr fun i h1 h2 => k.1 (i + 0) (by omega)
theorem keepM_n {j : Nat} (h : j < 20 ∨ (23 < j ∧ j < 27) ∨ (27 < j ∧ j < 55) ∨ (55 < j ∧ j < 65) ∨ 65 < j) : j ∉ [20, 21, 22, 23, 27, 55, 65] := by simp; omega
/-! the calls that set, and their worlds -/
theorem CW_shows {a : hw_T} {μ : hx_M} (h : CW 0 a μ) {i : Nat} (hi : i < 4) (v : Int32) : CW 0 (a.1, hx_sI a.2 10 (4 * a.1.2.1 + i) v) (hx_sI μ 19 (4 * a.1.2.1 + i) v) := by
  obtain ⟨h1, h2, h3, h4, h5, h6, h7, h8, h9, h10⟩ := h
  refine ⟨by simpa [hm_sI] using h1, by simpa [hm_sI, hm_sI2] using h2, by simpa [hm_sI] using h3, by simpa [hm_sI] using h4, by simpa [hm_sI] using h5, by simpa [hm_sI, hw_sum] using h6, by simpa [hm_sI] using h7, ?_, by simpa [hm_sI] using h9, by simpa [hm_sI] using h10⟩
  intro t p ht hp
  have := h8 t p ht hp
  simp [hm_sI] at this ⊢
  grind
theorem MW_shows {a : hw_T} {μ : hx_M} (h : MW a μ) {i : Nat} (hi : i < 4) (v : Int32) : MW (a.1, hx_sI a.2 10 (4 * a.1.2.1 + i) v) (hx_sI μ 55 i v) := by
  obtain ⟨h1, h2, h3, h4, h5, h6, h7, h8, h9, h10, h11⟩ := h
  refine ⟨by simpa [hm_sI] using h1, by simpa [hm_sI, hm_sI2] using h2, by simpa [hm_sI] using h3, by simpa [hm_sI] using h4, by simpa [hm_sI] using h5, by simpa [hm_sI] using h6, ?_, ?_, by simpa [hm_sI] using h9, by simpa [hm_sI] using h10, by simpa [hm_sI] using h11⟩
  · intro p hp
    have := h7 p hp
    simp [hm_sI] at this ⊢
    grind
  · intro t p ht hp
    have := h8 t p ht hp
    simp at ht
    simp [hm_sI] at this ⊢
    grind
theorem WF_shows {S : Nat} {a : hw_T} (h : WF S a) {i : Nat} {v : Int32} (hv : -1 ≤ v ∧ v ≤ 60) : WF S (a.1, hx_sI a.2 10 (4 * a.1.2.1 + i) v) := by
  obtain ⟨h1, h2, h3, h4, h5, h6, h7, h8⟩ := h
  refine ⟨h1, by simpa [hm_sI] using h2, by simpa [hm_sI] using h3, by simpa [hm_sI] using h4, by simpa [hm_sI] using h5, ?_, by simpa [hm_sI] using h7, by simpa [hm_sI] using h8⟩
  intro t p ht hp
  have := h6 t p ht hp
  simp [hm_sI] at this ⊢
  grind
theorem CW_set {a : hw_T} {μ : hx_M} (h : CW 0 a μ) (u v w : Int32) : CW 0 (a.1, hx_sI (hx_sI (hx_sI a.2 12 0 u) 12 1 v) 12 2 w) (hx_sI (hx_sI (hx_sI μ 7 3 u) 7 4 v) 7 5 w) := by
  obtain ⟨h1, h2, h3, h4, h5, h6, h7, h8, h9, h10⟩ := h
  exact ⟨by simpa [hm_sI] using h1, by simpa [hm_sI, hm_sI2] using h2.2.2.2, by simpa [hm_sI] using h3, by simpa [hm_sI] using h4, by simpa [hm_sI] using h5, by simpa [hm_sI, hw_sum] using h6, by simpa [hm_sI] using h7, by simpa [hm_sI] using h8, by simpa [hm_sI] using h9, by simpa [hm_sI] using h10⟩
theorem MW_set {a : hw_T} {μ : hx_M} (h : MW a μ) (u v w : Int32) : MW (a.1, hx_sI (hx_sI (hx_sI a.2 12 0 u) 12 1 v) 12 2 w) (hx_sI (hx_sI (hx_sI μ 49 3 u) 49 4 v) 49 5 w) := by
  obtain ⟨h1, h2, h3, h4, h5, h6, h7, h8, h9, h10, h11⟩ := h
  exact ⟨by simpa [hm_sI] using h1, by simpa [hm_sI, hm_sI2] using h2.2.2.2, by simpa [hm_sI] using h3, by simpa [hm_sI] using h4, by simpa [hm_sI] using h5, by simpa [hm_sI] using h6, by simpa [hm_sI] using h7, by simpa [hm_sI] using h8, by simpa [hm_sI] using h9, by simpa [hm_sI] using h10, by simpa [hm_sI] using h11⟩
theorem WF_set {S : Nat} {a : hw_T} (h : WF S a) {u v w : Int32} (hu : 0 ≤ u ∧ u ≤ 999) (hv : 0 ≤ v ∧ v ≤ 9) (hw : 0 ≤ w ∧ w ≤ 99) : WF S (a.1, hx_sI (hx_sI (hx_sI a.2 12 0 u) 12 1 v) 12 2 w) := by
  obtain ⟨h1, h2, h3, h4, h5, h6, h7, h8⟩ := h
  exact ⟨h1, by simp [hm_sI, hu, hv, hw], by simpa [hm_sI] using h3, by simpa [hm_sI] using h4, by simpa [hm_sI] using h5, by simpa [hm_sI] using h6, by simpa [hm_sI] using h7, by simpa [hm_sI] using h8⟩
theorem CW_seed {a : hw_T} {μ : hx_M} (h : CW 0 a μ) (z : Int64) : CW 0 (a.1, hx_sL a.2 0 0 z) (hx_sL μ 7 6 z) := by
  obtain ⟨h1, h2, h3, h4, h5, h6, h7, h8, h9, h10⟩ := h
  exact ⟨h1, ⟨h2.1, h2.2.1, h2.2.2.1, by simp [hx_sL, vp_updL]⟩, h3, h4, h5, h6, h7, h8, h9, h10⟩
theorem MW_seed {a : hw_T} {μ : hx_M} (h : MW a μ) (z : Int64) : MW (a.1, hx_sL a.2 0 0 z) (hx_sL μ 49 6 z) := by
  obtain ⟨h1, h2, h3, h4, h5, h6, h7, h8, h9, h10, h11⟩ := h
  exact ⟨h1, ⟨h2.1, h2.2.1, h2.2.2.1, by simp [hx_sL, vp_updL]⟩, h3, h4, h5, h6, h7, h8, h9, h10, h11⟩
theorem WF_seed {S : Nat} {a : hw_T} (h : WF S a) {z : Int64} : WF S (a.1, hx_sL a.2 0 0 z) := h
theorem CW_sees {a : hw_T} {μ : hx_M} (h : CW 0 a μ) {p : Nat} (v : Int32) : CW 0 (a.1, hx_sI a.2 2 p v) (hx_sI μ 11 p v) := by
  obtain ⟨h1, h2, h3, h4, h5, h6, h7, h8, h9, h10⟩ := h
  refine ⟨by simpa [hm_sI] using h1, by simpa [hm_sI, hm_sI2] using h2, ?_, by simpa [hm_sI] using h4, by simpa [hm_sI] using h5, by simpa [hm_sI, hw_sum] using h6, by simpa [hm_sI] using h7, by simpa [hm_sI] using h8, by simpa [hm_sI] using h9, by simpa [hm_sI] using h10⟩
  intro q hq
  have := h3 q hq
  simp [hm_sI] at this ⊢
  grind
theorem MW_sees {a : hw_T} {μ : hx_M} (h : MW a μ) {p : Nat} (v : Int32) : MW (a.1, hx_sI a.2 2 p v) (hx_sI μ 54 p v) := by
  obtain ⟨h1, h2, h3, h4, h5, h6, h7, h8, h9, h10, h11⟩ := h
  refine ⟨by simpa [hm_sI] using h1, by simpa [hm_sI, hm_sI2] using h2, ?_, by simpa [hm_sI] using h4, by simpa [hm_sI] using h5, by simpa [hm_sI] using h6, by simpa [hm_sI] using h7, by simpa [hm_sI] using h8, by simpa [hm_sI] using h9, by simpa [hm_sI] using h10, by simpa [hm_sI] using h11⟩
  intro q hq
  have := h3 q hq
  simp [hm_sI] at this ⊢
  grind
theorem WF_sees {S : Nat} {a : hw_T} (h : WF S a) {p : Nat} {v : Int32} (hv : ∃ x : Nat, x < 2 ^ a.1.1 ∧ v = Int32.ofNat x) : WF S (a.1, hx_sI a.2 2 p v) := by
  obtain ⟨h1, h2, h3, h4, h5, h6, h7, h8⟩ := h
  refine ⟨h1, by simpa [hm_sI] using h2, by simpa [hm_sI] using h3, ?_, by simpa [hm_sI] using h5, by simpa [hm_sI] using h6, by simpa [hm_sI] using h7, by simpa [hm_sI] using h8⟩
  intro q hq
  have := h4 q hq
  simp [hm_sI] at this ⊢
  by_cases hqp : q = p
  · subst hqp; simpa using hv
  · simpa [hqp] using this
