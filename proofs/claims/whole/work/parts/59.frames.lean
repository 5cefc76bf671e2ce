/-! layer 2: frames -/
theorem keepC.rf {μ : hx_M} : keepC μ μ := fun _ _ => ⟨rfl, rfl⟩
theorem keepC.tr {μ m m' : hx_M} (h1 : keepC μ m) (h2 : keepC m m') : keepC μ m' := fun k hk => ⟨(h2 k hk).1.trans (h1 k hk).1, (h2 k hk).2.trans (h1 k hk).2⟩
theorem keepC.a {μ m : hx_M} (h : keepC μ m) (k : Nat) (hk : k ≤ 6 ∨ k = 15 ∨ (39 ≤ k ∧ k ≤ 42) ∨ 48 ≤ k) : m.1 k = μ.1 k := (h k hk).1
theorem keepC.b {μ m : hx_M} (h : keepC μ m) (k : Nat) (hk : k ≤ 6 ∨ k = 15 ∨ (39 ≤ k ∧ k ≤ 42) ∨ 48 ≤ k) : m.2 k = μ.2 k := (h k hk).2
theorem keepM.rf {μ : hx_M} : keepM μ μ := ⟨fun _ _ => ⟨rfl, rfl⟩, fun _ _ => rfl⟩
theorem keepM.a {μ m : hx_M} (h : keepM μ m) (k : Nat) (hk : k < 49 ∨ (63 ≤ k ∧ k ≤ 72) ∨ k = 74 ∨ (82 ≤ k ∧ k ≤ 84) ∨ (90 ≤ k ∧ k ≤ 91) ∨ 93 ≤ k) : m.1 k = μ.1 k := (h.1 k hk).1
theorem keepM.b {μ m : hx_M} (h : keepM μ m) (k : Nat) (hk : k < 49 ∨ (63 ≤ k ∧ k ≤ 72) ∨ k = 74 ∨ (82 ≤ k ∧ k ≤ 84) ∨ (90 ≤ k ∧ k ≤ 91) ∨ 93 ≤ k) : m.2 k = μ.2 k := (h.1 k hk).2
theorem keepM.tr {μ m m' : hx_M} (h1 : keepM μ m) (h2 : keepM m m') : keepM μ m' := ⟨fun k hk => ⟨(h2.1 k hk).1.trans (h1.1 k hk).1, (h2.1 k hk).2.trans (h1.1 k hk).2⟩, fun j hj => (h2.2 j hj).trans (h1.2 j hj)⟩
/-- the class's world depends on these cells alone -/
theorem CW.fr {d : Nat} {a : hw_T} {μ m : hx_M} (h : CW d a μ) (hk : ∀ k, 7 ≤ k → k ≤ 27 → m.1 (k + d) = μ.1 (k + d) ∧ m.2 (k + d) = μ.2 (k + d)) : CW d a m := by
  unfold CW
  rw [(hk 8 (by omega) (by omega)).1, (hk 7 (by omega) (by omega)).1, (hk 7 (by omega) (by omega)).2, (hk 9 (by omega) (by omega)).1, (hk 10 (by omega) (by omega)).1, (hk 11 (by omega) (by omega)).1, (hk 12 (by omega) (by omega)).1, (hk 13 (by omega) (by omega)).1, (hk 14 (by omega) (by omega)).1, (hk 16 (by omega) (by omega)).1, (hk 17 (by omega) (by omega)).1, (hk 18 (by omega) (by omega)).1, (hk 19 (by omega) (by omega)).1, (hk 20 (by omega) (by omega)).1, (hk 25 (by omega) (by omega)).1, (hk 26 (by omega) (by omega)).1, (hk 27 (by omega) (by omega)).1]
  exact h
/-- the reference's world depends on these cells alone -/
theorem MW.fr {a : hw_T} {μ m : hx_M} (h : MW a μ) (h0 : ∀ j, j ∈ [0, 1, 2, 3, 4, 5, 59] → m.1 49 j = μ.1 49 j) (hz : m.2 49 = μ.2 49) (hk : ∀ k, (50 ≤ k ∧ k ≤ 62 ∨ 85 ≤ k ∧ k ≤ 87) → m.1 k = μ.1 k) : MW a m := by
  unfold MW
  rw [h0 0 (by decide), h0 1 (by decide), h0 2 (by decide), h0 3 (by decide), h0 4 (by decide), h0 5 (by decide), h0 59 (by decide), hz, hk 50 (by omega), hk 51 (by omega), hk 52 (by omega), hk 53 (by omega), hk 54 (by omega), hk 55 (by omega), hk 56 (by omega), hk 57 (by omega), hk 58 (by omega), hk 59 (by omega), hk 60 (by omega), hk 61 (by omega), hk 62 (by omega), hk 85 (by omega), hk 86 (by omega), hk 87 (by omega)]
  exact h
theorem MI.fr {i : Nat} {μ m : hx_M} (h1 : m.1 90 = μ.1 90) (h2 : m.2 91 = μ.2 91) : MI i m = MI i μ := by
  unfold MI
  rw [h1, h2]
theorem hl_C.fr {μ m : hx_M} {cc len : Nat} (h : m.1 cc = μ.1 cc) : ∀ {rs : List hl_R} {at0 : Nat}, hl_C μ cc len at0 rs → hl_C m cc len at0 rs
  | [], _, _ => trivial
  | _ :: _, _, ⟨h1, h2, h3, h4, h5⟩ => by
    refine ⟨h1, ?_, ?_, ?_, hl_C.fr h h5⟩
    · rw [h]; exact h2
    · rw [h]; exact h3
    · rw [h]; exact h4
theorem hl_M.fr {μ m : hx_M} {sm : Nat} (h : ∀ k, 64 ≤ k → k ≤ 72 → m.1 k = μ.1 k) : ∀ {rs : List hl_R} {k : Nat}, hl_M μ sm k rs → hl_M m sm k rs
  | [], _, _ => trivial
  | _ :: _, _, h0 => by
    unfold hl_M at h0 ⊢
    rw [h 64 (by omega) (by omega), h 65 (by omega) (by omega), h 66 (by omega) (by omega), h 67 (by omega) (by omega), h 68 (by omega) (by omega), h 69 (by omega) (by omega), h 70 (by omega) (by omega), h 71 (by omega) (by omega), h 72 (by omega) (by omega)]
    exact ⟨h0.1, h0.2.1, h0.2.2.1, hl_M.fr h h0.2.2.2⟩
theorem LAWS.fr {Λ : hx_L} {μ m : hx_M} {ls : List (List hl_R)} {fo : Option Nat} (h : LAWS Λ μ ls fo) (h0 : m.1 0 4 = μ.1 0 4) (h5 : m.1 0 5 = μ.1 0 5) (hj : ∀ j, j ∈ [20, 21, 22] → m.1 49 j = μ.1 49 j) (hk : ∀ k, 63 ≤ k → k ≤ 72 → m.1 k = μ.1 k) (hc : ∀ k, 93 ≤ k → m.1 k = μ.1 k) : LAWS Λ m ls fo := by
  obtain ⟨h1, h2, h3, h4, sm, h6, h7, h8⟩ := h
  refine ⟨h1, by rw [h0]; exact h2, by rw [hj 20 (by decide)]; exact h3, ?_, sm, h6, by rw [hj 22 (by decide)]; exact h7, fun k l hl => ?_⟩
  · rw [h5, hj 21 (by decide)]; exact h4
  · obtain ⟨a1, a2, ⟨lc, cc, len, b1, b2, b3, b4, b5, b6, b7, b8, b9, b10, b11⟩, c1, c2⟩ := h8 k l hl
    refine ⟨a1, a2, ⟨lc, cc, len, b1, b2, b3, b4, b5, b6, b7, b8, b9, ?_, hl_C.fr (hc cc b4) b11⟩, ?_, hl_M.fr (fun k h1 h2 => hk k (by omega) h2) c2⟩
    · rw [hc lc b2]; exact b10
    · rw [hk 63 (by omega) (by omega)]; exact c1
theorem TAPE.fr {μ m : hx_M} (h : TAPE μ) (h0 : m.1 0 1 = μ.1 0 1) (h6 : m.1 0 6 = μ.1 0 6) (h1 : m.1 1 = μ.1 1) (hj : ∀ j, j ∈ [23, 27, 55] → m.1 49 j = μ.1 49 j) (h74 : m.1 74 = μ.1 74) (hp : ∀ k, 39 ≤ k → k ≤ 42 → m.1 k = μ.1 k) (hq : ∀ k, 82 ≤ k → k ≤ 84 → m.1 k = μ.1 k) : TAPE m := by
  unfold TAPE
  rw [h0, h6, h1, h74, hj 23 (by decide), hj 27 (by decide), hj 55 (by decide), hp 39 (by omega) (by omega), hp 40 (by omega) (by omega), hp 41 (by omega) (by omega), hp 42 (by omega) (by omega), hq 82 (by omega) (by omega), hq 83 (by omega) (by omega), hq 84 (by omega) (by omega)]
  exact h
theorem IMGS.fr {Λ : hx_L} {μ m : hx_M} {is : List hw_T} (h : IMGS Λ μ is) (h0 : m.1 0 14 = μ.1 0 14) (hj : m.1 49 65 = μ.1 49 65) (h1 : m.1 90 = μ.1 90) (h2 : m.2 91 = μ.2 91) (hc : ∀ k, 93 ≤ k → m.1 k = μ.1 k ∧ m.2 k = μ.2 k) : IMGS Λ m is := by
  obtain ⟨a1, a2, a3, a4⟩ := h
  refine ⟨a1, by rw [h0]; exact a2, by rw [hj]; exact a3, fun i a hi => ?_⟩
  obtain ⟨b1, b2, d, c1, c2, c3, c4, c5, c6⟩ := a4 i a hi
  refine ⟨b1, by rw [MI.fr h1 h2]; exact b2, d, c1, c2, c3, c4, ?_, c6.fr fun k k1 k2 => hc (k + d) (by omega)⟩
  rw [(hc (15 + d) (by omega)).1]; exact c5
theorem IMB.fr {Λ : hx_L} {μ m : hx_M} {ls : List (List hl_R)} {is : List hw_T} (h : IMB Λ μ ls is) (h0 : m.1 0 14 = μ.1 0 14) (hj : m.1 49 65 = μ.1 49 65) (h1 : m.1 90 = μ.1 90) (h2 : m.2 91 = μ.2 91) (hc : ∀ k, 93 ≤ k → m.1 k = μ.1 k ∧ m.2 k = μ.2 k) : IMB Λ m ls is := ⟨h.1.fr h0 hj h1 h2 hc, h.2⟩
/-- a call that only answers -/
theorem hI.q {Λ : hx_L} {μ m : hx_M} {a a' : hw_T} {ls : List (List hl_R)} {fo : Option Nat} {is : List hw_T} (hF : cF Λ) (hM : mF Λ) (h15 : μ.1 15 0 = Int32.ofNat 301) (h3 : TAPE μ) (h4 : LAWS Λ μ ls fo) (h5 : IMB Λ μ ls is) {m0 : hx_M} (k1 : keepC μ m0) (k2 : keepM m0 m) (hw : WF 200 a') (hc : CW 0 a' m) (hm : MW a' m) : hI Λ m := by
  have e1 : ∀ k, (k < 49 ∨ (63 ≤ k ∧ k ≤ 72) ∨ k = 74 ∨ (82 ≤ k ∧ k ≤ 84) ∨ (90 ≤ k ∧ k ≤ 91) ∨ 93 ≤ k) → (k ≤ 6 ∨ k = 15 ∨ (39 ≤ k ∧ k ≤ 42) ∨ 48 ≤ k) → m.1 k = μ.1 k := fun k a b => (k2.a k a).trans (k1.a k b)
  have e2 : ∀ k, (k < 49 ∨ (63 ≤ k ∧ k ≤ 72) ∨ k = 74 ∨ (82 ≤ k ∧ k ≤ 84) ∨ (90 ≤ k ∧ k ≤ 91) ∨ 93 ≤ k) → (k ≤ 6 ∨ k = 15 ∨ (39 ≤ k ∧ k ≤ 42) ∨ 48 ≤ k) → m.2 k = μ.2 k := fun k a b => (k2.b k a).trans (k1.b k b)
  have e3 : ∀ j, j ∈ [20, 21, 22, 23, 27, 55, 65] → m.1 49 j = μ.1 49 j := fun j hj => (k2.2 j hj).trans (by rw [k1.a 49 (by omega)])
  refine ⟨hF, hM, by rw [e1 15 (by omega) (by omega)]; exact h15, a', ls, fo, is, hw, hc, hm, ?_, ?_, ?_⟩
  · exact h3.fr (by rw [e1 0 (by omega) (by omega)]) (by rw [e1 0 (by omega) (by omega)]) (e1 1 (by omega) (by omega)) (fun j hj => e3 j (by simp at hj ⊢; omega)) (e1 74 (by omega) (by omega)) (fun k _ _ => e1 k (by omega) (by omega)) (fun k _ _ => e1 k (by omega) (by omega))
  · exact h4.fr (by rw [e1 0 (by omega) (by omega)]) (by rw [e1 0 (by omega) (by omega)]) (fun j hj => e3 j (by simp at hj ⊢; omega)) (fun k _ _ => e1 k (by omega) (by omega)) (fun k _ => e1 k (by omega) (by omega))
  · exact h5.fr (by rw [e1 0 (by omega) (by omega)]) (e3 65 (by decide)) (e1 90 (by omega) (by omega)) (e2 91 (by omega) (by omega)) (fun k _ => ⟨e1 k (by omega) (by omega), e2 k (by omega) (by omega)⟩)
