/-! layer 2: a person passes a season, the class -/
theorem hm_sL1 {μ : hx_M} {k j : Nat} {v : Int64} : (hx_sL μ k j v).1 = μ.1 := rfl
theorem hm_sLv {μ : hx_M} {k j a b : Nat} {v : Int64} : (hx_sL μ k j v).2 a b = if a = k ∧ b = j then v else μ.2 a b := by
  show (if a = k then vp_updL (μ.2 k) j v else μ.2 a) b = _
  by_cases h : a = k
  · subst h
    rw [if_pos rfl]
    show (if b = j then v else μ.2 a b) = _
    by_cases h2 : b = j
    · rw [if_pos h2, if_pos ⟨rfl, h2⟩]
    · rw [if_neg h2, if_neg (fun z => h2 z.2)]
  · rw [if_neg h, if_neg (fun z => h z.1)]
def hg_z (z : Int64) : Int64 := (z * (6364136223846793005 : Int64)) + (1442695040888963407 : Int64)
def hg_x (z : Int64) : Int64 := (((hg_z z : Int64).toUInt64 >>> ((33 : Int32).toInt64.toUInt64 &&& Int64.toUInt64 63)).toInt64)
def hg_ch (z : Int64) : Int32 := ((hg_x z - hg_x z / (100 : Int64) * (100 : Int64) : Int64).toInt32)
def hg_coin (c u : Int32) : Int32 := if c + u < 9999 then c + u else 9999
def htal (x : hx_M) (p i : Nat) : hx_M := hx_sI x 5 (6 * p + i) (x.1 5 (6 * p + i) + 1)
/-- what a person wants amid the season -/
def hs_w (a : hw_T) (l : List hl_R) (p : Nat) (b : hx_M) : Int32 × Nat := hw_wish a l p a.1.2.1 (hg_coin (b.1 3 p) (b.1 1 p)) (b.1 4 p) (hg_ch (b.2 0 0))
def hs_ask (k p : Nat) (b : hx_M) : hx_M := hx_sI (hx_sI (hx_sI (hx_sI (hx_sL b 0 0 (hg_z (b.2 0 0))) 3 p (hg_coin (b.1 3 p) (b.1 1 p))) 7 k (hg_coin (b.1 3 p) (b.1 1 p))) 8 k (b.1 4 p)) 9 k (hg_ch (b.2 0 0))
abbrev hs_seam (a : hw_T) (l : List hl_R) (p : Nat) (b : hx_M) : Prop := ¬ a.2.1 12 1 < ab ((hs_w a l p b).1 - a.2.1 6 (16 * a.1.2.1 + p))
def hs_cost (a : hw_T) (l : List hl_R) (p : Nat) (b : hx_M) : Int32 := if hs_seam a l p b then a.2.1 12 2 else a.2.1 12 0
def hs_do (a : hw_T) (l : List hl_R) (p : Nat) (b : hx_M) : hx_M × Int32 :=
  if (hs_w a l p b).1 = a.2.1 6 (16 * a.1.2.1 + p) then (hx_sI (htal (hs_ask (16 * (a.1.2.1 + 1) + p) p b) p 2) 4 p (b.1 4 p + 1), a.2.1 6 (16 * a.1.2.1 + p))
  else if ¬ hs_cost a l p b ≤ hg_coin (b.1 3 p) (b.1 1 p) then (hx_sI (htal (htal (hs_ask (16 * (a.1.2.1 + 1) + p) p b) p (if (hs_w a l p b).2 = 0 then 0 else 1)) p 3) 4 p (b.1 4 p + 1), a.2.1 6 (16 * a.1.2.1 + p))
  else (hx_sI (htal (hx_sI (htal (hs_ask (16 * (a.1.2.1 + 1) + p) p b) p (if (hs_w a l p b).2 = 0 then 0 else 1)) 3 p (hg_coin (b.1 3 p) (b.1 1 p) - hs_cost a l p b)) p (if hs_seam a l p b then 4 else 5)) 4 p 0, (hs_w a l p b).1)
def hs_go (a : hw_T) (l : List hl_R) (p : Nat) (b : hx_M) : hx_M := hx_sI (hs_do a l p b).1 6 (16 * (a.1.2.1 + 1) + p) (hs_do a l p b).2
/-- what the class's cells hold amid a season -/
def CB (n s : Nat) (m0 b : hx_M) (pl pk : Nat) (m : hx_M) : Prop :=
  ((∀ k, k ≠ 12 → k ≠ 13 → k ≠ 14 → k ≠ 16 → k ≠ 18 → ¬ (21 ≤ k ∧ k ≤ 24) → m.1 k = m0.1 k) ∧ (∀ k, k ≠ 7 → m.2 k = m0.2 k) ∧ (∀ j, j ≠ 6 → m.2 7 j = m0.2 7 j) ∧ (∀ j, j < 16 * (s + 1) → m.1 16 j = m0.1 16 j ∧ m.1 18 j = m0.1 18 j)) ∧
  m.2 7 6 = b.2 0 0 ∧ (∀ q, q < n → m.1 12 q = b.1 3 q) ∧ (∀ q, q < n → m.1 13 q = b.1 4 q) ∧ (∀ k, k < 6 * n → m.1 14 k = b.1 5 k) ∧
  (∀ q, q < pl → m.1 16 (16 * (s + 1) + q) = b.1 6 (16 * (s + 1) + q)) ∧
  (∀ q, q < pk → m.1 18 (16 * (s + 1) + q) >>> (16 &&& 31) = b.1 7 (16 * (s + 1) + q) ∧ (m.1 18 (16 * (s + 1) + q) >>> (7 &&& 31)) &&& 511 = b.1 8 (16 * (s + 1) + q) ∧ m.1 18 (16 * (s + 1) + q) &&& 127 = b.1 9 (16 * (s + 1) + q))
section DC
variable {n s p pl pk i : Nat} {m0 b m : hx_M} {v : Int32}
theorem CB.oR {m' : hx_M} (h : CB n s m0 b pl pk m) (o : offR m m') : CB n s m0 b pl pk m' := by
  obtain ⟨⟨h1, h2, h3, h4⟩, h5, h6, h7, h8, h9, h10⟩ := h
  unfold CB
  rw [o.2, o.1 12 (by omega), o.1 13 (by omega), o.1 14 (by omega), o.1 16 (by omega), o.1 18 (by omega)]
  exact ⟨⟨fun k a1 a2 a3 a4 a5 a6 => by rw [o.1 k (by omega)]; exact h1 k a1 a2 a3 a4 a5 a6, h2, h3, h4⟩, h5, h6, h7, h8, h9, h10⟩
theorem CB.tal (h : CB n s m0 b pl pk m) (hp : p < n) (hi : i < 6) : CB n s m0 (htal b p i) pl pk (hx_sI m 14 (6 * p + i) (m.1 14 (6 * p + i) + 1)) := by
  obtain ⟨⟨h1, h2, h3, h4⟩, h5, h6, h7, h8, h9, h10⟩ := h
  refine ⟨⟨fun k a1 a2 a3 a4 a5 a6 => by rw [sIk a3]; exact h1 k a1 a2 a3 a4 a5 a6, h2, h3, by rw [sIk (by omega), sIk (by omega)]; exact h4⟩, h5, by simpa [hm_sI, htal] using h6, by simpa [hm_sI, htal] using h7, ?_, by simpa [hm_sI, htal] using h9, by simpa [hm_sI, htal] using h10⟩
  intro k hk
  unfold htal
  rw [hm_sI, hm_sI, h8 k hk, h8 (6 * p + i) (by omega)]
  simp
theorem CB.coin (h : CB n s m0 b pl pk m) : CB n s m0 (hx_sI b 3 p v) pl pk (hx_sI m 12 p v) := by
  obtain ⟨⟨h1, h2, h3, h4⟩, h5, h6, h7, h8, h9, h10⟩ := h
  refine ⟨⟨fun k a1 a2 a3 a4 a5 a6 => by rw [sIk a1]; exact h1 k a1 a2 a3 a4 a5 a6, h2, h3, by rw [sIk (by omega), sIk (by omega)]; exact h4⟩, h5, ?_, by simpa [hm_sI] using h7, by simpa [hm_sI] using h8, by simpa [hm_sI] using h9, by simpa [hm_sI] using h10⟩
  intro k hk
  rw [hm_sI, hm_sI, h6 k hk]
  simp
theorem CB.worn (h : CB n s m0 b pl pk m) : CB n s m0 (hx_sI b 4 p v) pl pk (hx_sI m 13 p v) := by
  obtain ⟨⟨h1, h2, h3, h4⟩, h5, h6, h7, h8, h9, h10⟩ := h
  refine ⟨⟨fun k a1 a2 a3 a4 a5 a6 => by rw [sIk a2]; exact h1 k a1 a2 a3 a4 a5 a6, h2, h3, by rw [sIk (by omega), sIk (by omega)]; exact h4⟩, h5, by simpa [hm_sI] using h6, ?_, by simpa [hm_sI] using h8, by simpa [hm_sI] using h9, by simpa [hm_sI] using h10⟩
  intro k hk
  rw [hm_sI, hm_sI, h7 k hk]
  simp
theorem CB.len (h : CB n s m0 b p pk m) : CB n s m0 (hx_sI b 6 (16 * (s + 1) + p) v) (p + 1) pk (hx_sI m 16 (16 * (s + 1) + p) v) := by
  obtain ⟨⟨h1, h2, h3, h4⟩, h5, h6, h7, h8, h9, h10⟩ := h
  refine ⟨⟨fun k a1 a2 a3 a4 a5 a6 => by rw [sIk a4]; exact h1 k a1 a2 a3 a4 a5 a6, h2, h3, fun j hj => by rw [sIj (by omega), sIk (by omega)]; exact h4 j hj⟩, h5, by simpa [hm_sI] using h6, by simpa [hm_sI] using h7, by simpa [hm_sI] using h8, ?_, by simpa [hm_sI] using h10⟩
  intro k hk
  rw [hm_sI, hm_sI]
  by_cases e : k = p
  · simp [e]
  · rw [if_neg (by omega), if_neg (by omega)]; exact h9 k (by omega)
/-- coin, worn and chance in one number -/
theorem pack3 {c w g : Nat} (hc : c ≤ 9999) (hw : w ≤ 511) (hg : g ≤ 127) : ∀ x : Int32, x = ((((Int32.ofNat c <<< ((9 : Int32) &&& 31)) ||| Int32.ofNat w) <<< ((7 : Int32) &&& 31)) ||| Int32.ofNat g) → x >>> (16 &&& 31) = Int32.ofNat c ∧ (x >>> (7 &&& 31)) &&& 511 = Int32.ofNat w ∧ x &&& 127 = Int32.ofNat g := by
  rintro x rfl
  have e9 : (9 : Int32) &&& 31 = Int32.ofNat 9 := rfl
  have e7 : (7 : Int32) &&& 31 = Int32.ofNat 7 := rfl
  have e16 : (16 : Int32) &&& 31 = Int32.ofNat 16 := rfl
  have e5 : (511 : Int32) = Int32.ofNat (2 ^ 9 - 1) := rfl
  have e1 : (127 : Int32) = Int32.ofNat (2 ^ 7 - 1) := rfl
  have o1 : c * 2 ^ 9 ||| w = c * 512 + w := by
    rw [Nat.mul_comm c, ← Nat.two_pow_add_eq_or_of_lt (by omega)]
    try omega
  have o2 : (c * 512 + w) * 2 ^ 7 ||| g = c * 65536 + w * 128 + g := by
    rw [Nat.mul_comm (c * 512 + w), ← Nat.two_pow_add_eq_or_of_lt (by omega)]
    try omega
  rw [e9, e7, e16, e5, e1, n32_shl (by omega), n32_or, o1, n32_shl (by omega), n32_or, o2, n32_shr (by omega) (by omega), n32_shr (by omega) (by omega), n32_mask, n32_mask]
  refine ⟨?_, ?_, ?_⟩ <;> congr 1 <;> omega
theorem CB.ask (h : CB n s m0 b p p m) {c w g : Nat} (ec : hg_coin (b.1 3 p) (b.1 1 p) = Int32.ofNat c) (ew : b.1 4 p = Int32.ofNat w) (eg : hg_ch (b.2 0 0) = Int32.ofNat g) (hc : c ≤ 9999) (hw : w ≤ 511) (hg : g ≤ 127) :
    CB n s m0 (hs_ask (16 * (s + 1) + p) p b) p (p + 1) (hx_sI (hx_sI (hx_sL m 7 6 (hg_z (b.2 0 0))) 12 p (hg_coin (b.1 3 p) (b.1 1 p))) 18 (16 * (s + 1) + p) ((((hg_coin (b.1 3 p) (b.1 1 p) <<< ((9 : Int32) &&& 31)) ||| b.1 4 p) <<< ((7 : Int32) &&& 31)) ||| hg_ch (b.2 0 0))) := by
  obtain ⟨⟨h1, h2, h3, h4⟩, h5, h6, h7, h8, h9, h10⟩ := h
  have hpk := pack3 hc hw hg _ rfl
  rw [← ec, ← ew, ← eg] at hpk
  revert hpk
  generalize ((((hg_coin (b.1 3 p) (b.1 1 p) <<< ((9 : Int32) &&& 31)) ||| b.1 4 p) <<< ((7 : Int32) &&& 31)) ||| hg_ch (b.2 0 0)) = x
  intro hpk
  refine ⟨⟨fun k a1 a2 a3 a4 a5 a6 => ?_, fun k hk => ?_, fun j hj => ?_, fun j hj => ?_⟩, ?_, ?_, ?_, ?_, ?_, ?_⟩
  · rw [sIk a5, sIk a1]; exact h1 k a1 a2 a3 a4 a5 a6
  · rw [sIk2, sIk2, ← h2 k hk]
    funext j
    rw [hm_sLv, if_neg (fun z => hk z.1)]
  · rw [sIk2, sIk2, hm_sLv, if_neg (fun z => hj z.2)]; exact h3 j hj
  · rw [sIk (by omega), sIk (by omega), sIj (by omega), sIk (by omega)]; exact h4 j hj
  · rw [sIk2, sIk2, hm_sLv, if_pos ⟨rfl, rfl⟩]
    unfold hs_ask
    rw [sIk2, sIk2, sIk2, sIk2, hm_sLv, if_pos ⟨rfl, rfl⟩]
  · intro q hq
    have := h6 q hq
    unfold hs_ask
    simp [hm_sI, hm_sL1, this]
  · intro q hq
    have := h7 q hq
    unfold hs_ask
    simp [hm_sI, hm_sL1, this]
  · intro q hq
    have := h8 q hq
    unfold hs_ask
    simp [hm_sI, hm_sL1, this]
  · intro q hq
    have := h9 q hq
    unfold hs_ask
    simp [hm_sI, hm_sL1, this]
  · intro q hq
    unfold hs_ask
    by_cases e : q = p
    · subst e
      simpa [hm_sI, hm_sL1] using hpk
    · have := h10 q (by omega)
      simpa [hm_sI, hm_sL1, e] using this
end DC
