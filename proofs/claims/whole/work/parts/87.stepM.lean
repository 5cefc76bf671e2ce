/-! layer 2: a season passes, the reference -/
section SM
variable {a : hw_T} {l : List hl_R} {p f sm : Nat} {b m0 μ : hx_M}
theorem begins_L15 {s : Nat} {K K1 : hx_M → Prop} (hs : s ≤ 300) (e1 : μ.1 49 1 = Int32.ofNat s) (k : ∀ m, (∀ k, k ≠ 61 → m.1 k = μ.1 k) → m.2 = μ.2 → (∀ j, m.1 61 j = if 4 * s ≤ j ∧ j < 4 * s + 4 then μ.1 55 (j - 4 * s) else μ.1 61 j) → K1 m) : ∀ (r i : Nat) (m : hx_M), i + r = 4 → (∀ k, k ≠ 61 → m.1 k = μ.1 k) → m.2 = μ.2 → (∀ j, m.1 61 j = if 4 * s ≤ j ∧ j < 4 * s + i then μ.1 55 (j - 4 * s) else μ.1 61 j) → wX12_begins_L15 K K1 (r + 1) (Int32.ofNat i) m := by
  intro r
  induction r with
  | zero =>
    intro i m e h1 h2 h3
    obtain rfl : i = 4 := by omega
    unfold wX12_begins_L15
    exact selT (by decide) (k m h1 h2 h3)
  | succ r ih =>
    intro i m e h1 h2 h3
    unfold wX12_begins_L15
    have e4 : 4 * Int32.ofNat s + Int32.ofNat i = Int32.ofNat (4 * s + i) := by rw [← n32_add, ← n32_mul]; rfl
    rw [h1 49 (by omega), h1 55 (by omega), e1, e4, n32_nat (by omega), n32_nat (by omega), n32_add1]
    refine selF (fun z => by have := (n32_le (a := 4) (by omega) (by omega)).mp z; omega) ⟨n32_in (by omega) (by omega), n32_in (by omega) (by omega), ih (i + 1) _ (by omega) (fun k hk => by rw [sIk hk]; exact h1 k hk) h2 (fun j => ?_)⟩
    rw [hm_sI, h3]
    by_cases c : j = 4 * s + i
    · subst c
      rw [if_pos ⟨rfl, rfl⟩, if_pos (by omega), show 4 * s + i - 4 * s = i by omega]
    · rw [if_neg (fun z => c z.2)]
      by_cases c2 : 4 * s ≤ j ∧ j < 4 * s + i
      · rw [if_pos c2, if_pos (by omega)]
      · rw [if_neg c2, if_neg (by omega)]
theorem beginsM {s : Nat} {K : hx_M → Prop} (hs : s < 300) (e1 : μ.1 49 1 = Int32.ofNat s) (k : ∀ m, (∀ k, k ≠ 49 → k ≠ 61 → k ≠ 62 → m.1 k = μ.1 k) → (∀ j, j ≠ 1 → m.1 49 j = μ.1 49 j) → m.1 49 1 = Int32.ofNat (s + 1) → m.2 = μ.2 → (∀ j, m.1 61 j = if 4 * s ≤ j ∧ j < 4 * s + 4 then μ.1 55 (j - 4 * s) else μ.1 61 j) → (∀ t, m.1 62 t = if t = s then μ.1 49 2 else μ.1 62 t) → K m) : wX12_begins μ K := by
  unfold wX12_begins
  rw [e1, n32_nat (by omega)]
  refine ⟨n32_in (by omega) (by omega), 5, begins_L15 (μ := hx_sI μ 62 s (μ.1 49 2)) (s := s) (by omega) (by rw [sIk (by omega)]; exact e1) (fun m h1 h2 h3 => ?_) 4 0 _ (by omega) (fun _ _ => rfl) rfl (fun j => by rw [if_neg (by omega)])⟩
  have e49 : m.1 49 = μ.1 49 := by rw [h1 49 (by omega), sIk (by omega)]
  refine k _ (fun i a b c => ?_) (fun j hj => ?_) ?_ ?_ (fun j => ?_) (fun t => ?_)
  · rw [sIk a, h1 i b, sIk c]
  · rw [sIj hj, e49]
  · rw [sIe, e49, e1, n32_add1]
  · rw [sIk2, h2]; rfl
  · rw [sIk (by omega), h3, sIk (by omega), sIk (by omega)]
  · rw [sIk (by omega), h1 62 (by omega), hm_sI]
    by_cases c : t = s
    · rw [if_pos ⟨rfl, c⟩, if_pos c]
    · rw [if_neg (fun z => c z.2), if_neg c]
theorem goesM {K : hx_M → Prop} {m : hx_M} (h : MB a.1.1 a.1.2.1 m0 b p p m) (hc : MWp a m0) (w : WF 300 a) (hs : a.1.2.1 < 300) (h73 : m0.1 49 3 = a.2.1 12 0) (h74 : m0.1 49 4 = a.2.1 12 1) (h75 : m0.1 49 5 = a.2.1 12 2) (h21 : m0.1 49 21 = Int32.ofNat f) (r : BR a p b) (hp : p < a.1.1) (hf : f < 5) (hsm : sm ≤ 3500) (hl : hl_LM m0 sm f l) (hl16 : l.length ≤ 16) (hok : ∀ r ∈ l, hl_okR r)
    (k : ∀ m', MB a.1.1 a.1.2.1 m0 (hs_go a l p b) (p + 1) (p + 1) m' → K m') : wX12_goes m (Int32.ofNat p) (Int32.ofNat a.1.2.1) K := by
  have hn := w.n
  have vp : vp_in (Int32.ofNat p) 16 := n32_in (by omega) (by omega)
  have vk : vp_in (Int32.ofNat (16 * (a.1.2.1 + 1) + p)) 4816 := n32_in (by omega) (by omega)
  have hm := h.mid hc w
  obtain ⟨r1, r2, r3, r4⟩ := r
  have e12 : m.1 52 p = b.1 3 p := h.2.2.1 p hp
  have e13 : m.1 53 p = b.1 4 p := h.2.2.2.1 p hp
  have e10 : m.1 51 p = b.1 1 p := by rw [hm.purse hp, r4]
  have e7 : m.2 49 6 = b.2 0 0 := h.2.1
  unfold wX12_goes
  rw [n32_nat (by omega), e12, e10, e7, hm.s, idxM, n32_nat (by omega)]
  intro x1 hx1
  obtain rfl : x1 = hg_z (b.2 0 0) := hx1
  intro x2 hx2
  obtain rfl : x2 = hg_x (b.2 0 0) := hx2
  refine ⟨by decide, ?_⟩
  intro x3 hx3
  obtain rfl : x3 = hg_ch (b.2 0 0) := hx3
  refine ⟨vp, vp, ?_⟩
  rintro x6 rfl
  have ec0 : (if b.1 3 p + b.1 1 p < 9999 then b.1 3 p + b.1 1 p else 9999) = hg_coin (b.1 3 p) (b.1 1 p) := rfl
  rw [ec0]
  refine ⟨vp, vk, vp, ?_⟩
  rintro x9 rfl
  rw [sIe]
  refine ⟨vk, ?_⟩
  rintro m1 rfl
  refine ⟨vp, vk, ?_⟩
  have e53 : (hx_sI (hx_sI (hx_sI (hx_sL m 49 6 (hg_z (b.2 0 0))) 52 p (hg_coin (b.1 3 p) (b.1 1 p))) 60 (16 * (a.1.2.1 + 1) + p) (hg_ch (b.2 0 0))) 58 (16 * (a.1.2.1 + 1) + p) (hg_coin (b.1 3 p) (b.1 1 p))).1 53 p = b.1 4 p := by
    rw [sIk (by omega), sIk (by omega), sIk (by omega)]; exact e13
  have e52 : (hx_sI (hx_sI (hx_sI (hx_sL m 49 6 (hg_z (b.2 0 0))) 52 p (hg_coin (b.1 3 p) (b.1 1 p))) 60 (16 * (a.1.2.1 + 1) + p) (hg_ch (b.2 0 0))) 58 (16 * (a.1.2.1 + 1) + p) (hg_coin (b.1 3 p) (b.1 1 p))).1 52 p = hg_coin (b.1 3 p) (b.1 1 p) := by
    rw [sIk (by omega), sIk (by omega), sIe]
  have e21 : (hx_sI (hx_sI (hx_sI (hx_sL m 49 6 (hg_z (b.2 0 0))) 52 p (hg_coin (b.1 3 p) (b.1 1 p))) 60 (16 * (a.1.2.1 + 1) + p) (hg_ch (b.2 0 0))) 58 (16 * (a.1.2.1 + 1) + p) (hg_coin (b.1 3 p) (b.1 1 p))).1 49 21 = Int32.ofNat f := by
    rw [sIk (by omega), sIk (by omega), sIk (by omega)]
    show m.1 49 21 = _
    rw [h.1.2.1 21 (by omega)]; exact h21
  rw [e53, e52, e21]
  have hA := h.ask hp
  revert hA
  generalize (hx_sI (hx_sI (hx_sI (hx_sI (hx_sL m 49 6 (hg_z (b.2 0 0))) 52 p (hg_coin (b.1 3 p) (b.1 1 p))) 60 (16 * (a.1.2.1 + 1) + p) (hg_ch (b.2 0 0))) 58 (16 * (a.1.2.1 + 1) + p) (hg_coin (b.1 3 p) (b.1 1 p))) 59 (16 * (a.1.2.1 + 1) + p) (b.1 4 p)) = m1
  intro hA
  have hm1 := hA.mid hc w
  refine lenMp hm1 w (Nat.le_refl _) hp ⟨vp, vp, ?_⟩
  refine wishMp hm1 w (Nat.le_refl _) hp hf hsm ?_ hl16 hok (fun m2 o2 e2 => ⟨vk, vp, vp, ?_⟩)
  · obtain ⟨l1, l2⟩ := hl
    have hk : ∀ k, 63 ≤ k → k ≤ 72 → m1.1 k = m0.1 k := fun k hk hk2 => hA.1.1 k (by omega) (by omega) (by omega) (by omega) (by omega)
    exact ⟨by rw [hk 63 (by omega) (by omega)]; exact l1, hl_M.fr (fun k a b => hk k (by omega) b) l2⟩
  · exact goesT (hA.oW o2) w hs h73 h74 h75 hp hok e2 k
theorem step_L6 {K : hx_M → Prop} (hc : MWp a m0) (w : WF 300 a) (hs : a.1.2.1 < 300) (h73 : m0.1 49 3 = a.2.1 12 0) (h74 : m0.1 49 4 = a.2.1 12 1) (h75 : m0.1 49 5 = a.2.1 12 2) (h21 : m0.1 49 21 = Int32.ofNat f) (hf : f < 5) (hsm : sm ≤ 3500) (hl : hl_LM m0 sm f l) (hl16 : l.length ≤ 16) (hok : ∀ r ∈ l, hl_okR r) :
    ∀ (r p : Nat) (b m : hx_M), p + r = a.1.1 → BR a p b → MB a.1.1 a.1.2.1 m0 b p p m → (∀ m', MB a.1.1 a.1.2.1 m0 (itN (hs_go a l) p r b) a.1.1 a.1.1 m' → K m') → wX12_step_L6 K (r + 1) (Int32.ofNat p) m := by
  have hn := w.n
  intro r
  induction r with
  | zero =>
    intro p b m e hb h k
    obtain rfl : p = a.1.1 := by omega
    unfold wX12_step_L6
    rw [(h.mid hc w).n]
    exact selT (Int32.le_refl _) (k m h)
  | succ r ih =>
    intro p b m e hb h k
    unfold wX12_step_L6
    have hm := h.mid hc w
    rw [hm.n, hm.s, n32_sub1 (by omega), Nat.add_sub_cancel, n32_add1]
    refine selF (fun z => by have := (n32_le (by omega) (by omega)).mp z; omega) (goesM h hc w hs h73 h74 h75 h21 hb (by omega) hf hsm hl hl16 hok (fun m1 h1 => ?_))
    exact ih (p + 1) (hs_go a l p b) _ (by omega) (hb.go w hs (by omega) hok) h1 k
theorem stepM {K : hx_M → Prop} (hc : MW a μ) (w : WF 300 a) (hs : a.1.2.1 < 300) (h21 : μ.1 49 21 = Int32.ofNat f) (hf : f < 5) (hsm : sm ≤ 3500) (hl : hl_LM μ sm f l) (hl16 : l.length ≤ 16) (hok : ∀ r ∈ l, hl_okR r)
    (k : ∀ m, offG μ m → MW (hw_step a l) m → K m) : wX12_step μ K := by
  have hn := w.n
  unfold wX12_step
  refine beginsM hs hc.s (fun m0 c0 c49 c1 c2 c61 c62 => ?_)
  have hp0 : MWp a m0 := by
    obtain ⟨h1, h2, h3, h4, h5, h6, h7, h8, h9, h10, h11⟩ := hc
    unfold MWp
    rw [c49 0 (by omega), c0 50 (by omega) (by omega) (by omega), c0 51 (by omega) (by omega) (by omega), c0 54 (by omega) (by omega) (by omega), c0 57 (by omega) (by omega) (by omega)]
    refine ⟨h1.1, fun p hp => ⟨(h3 p hp).1, (h3 p hp).2.1, (h3 p hp).2.2.1⟩, h5, c1, fun t h ht hh => ?_, fun t ht => ?_⟩
    · rw [c61]
      by_cases e : t = a.1.2.1
      · subst e; rw [if_pos (by omega), show 4 * a.1.2.1 + h - 4 * a.1.2.1 = h by omega]; exact h7 h hh
      · rw [if_neg (by omega)]; exact h8 t h (by omega) hh
    · rw [c62]
      by_cases e : t = a.1.2.1
      · rw [if_pos e, e]; exact h9
      · rw [if_neg e]; exact h10 t (by omega)
  have hb0 : MB a.1.1 a.1.2.1 m0 (hs_beg a) 0 0 m0 := by
    refine ⟨⟨fun _ _ _ _ _ _ => rfl, fun _ _ => rfl, fun _ _ => rfl, fun _ _ => rfl, fun _ _ => ⟨rfl, rfl, rfl, rfl⟩⟩, by rw [c2]; exact hc.z, fun q hq => ?_, fun q hq => ?_, fun k hk => ?_, fun q hq => by omega, fun q hq => by omega⟩
    · rw [c0 52 (by omega) (by omega) (by omega), beg_len (by omega) (by omega)]; exact hc.coin hq
    · rw [c0 53 (by omega) (by omega) (by omega), beg_len (by omega) (by omega)]; exact hc.worn hq
    · rw [c0 56 (by omega) (by omega) (by omega), beg_len (by omega) (by omega)]; exact hc.tally hk
  have hl0 : hl_LM m0 sm f l := by
    obtain ⟨l1, l2⟩ := hl
    exact ⟨by rw [c0 63 (by omega) (by omega) (by omega)]; exact l1, hl_M.fr (fun k a b => c0 k (by omega) (by omega) (by omega)) l2⟩
  refine ⟨a.1.1 + 1, step_L6 hp0 w hs (by rw [c49 3 (by omega)]; exact hc.price) (by rw [c49 4 (by omega)]; exact hc.seam) (by rw [c49 5 (by omega)]; exact hc.over) (by rw [c49 21 (by omega)]; exact h21) hf hsm hl0 hl16 hok a.1.1 0 (hs_beg a) m0 (by omega) (BR.beg w hs) hb0 (fun m1 h1 => ?_)⟩
  have so := step_ok (l := l) w hs hok
  have eb : itN (hs_go a l) 0 a.1.1 (hs_beg a) = (hw_step a l).2 := rfl
  rw [eb] at h1
  obtain ⟨⟨b1, b2, b3, b4⟩, fr⟩ := so
  have frk : ∀ k j, k ≠ 3 → k ≠ 4 → k ≠ 5 → ((k = 6 ∨ k = 7 ∨ k = 8 ∨ k = 9) → j < 16 * (a.1.2.1 + 1)) → (hw_step a l).2.1 k j = (hs_beg a).1 k j := fr
  obtain ⟨⟨f1, f2, f3, f4, f4'⟩, g5, g6, g7, g8, g9, g10⟩ := h1
  refine k _ ⟨fun i a b c d e => ?_, fun j a b => ?_, fun i a => ?_, fun j a => ?_⟩ ?_
  · rw [f1 i a b (by omega) d e, c0 i a (by omega) (by omega)]
  · rw [f2 j b, c49 j a]
  · rw [f3 i a, c2]
  · rw [f4 j a, c2]
  · obtain ⟨h1, h2, h3, h4, h5, h6, h7, h8, h9, h10, h11⟩ := hc
    refine ⟨⟨?_, ?_, ?_⟩, ⟨?_, ?_, ?_, g5⟩, fun p hp => ?_, fun k hk => g8 k hk, fun t p ht hp => ?_, fun t p t1 ht hp => ?_, fun h hh => ?_, fun t h ht hh => ?_, ?_, fun t ht => ?_, fun k hk => ?_⟩
    · rw [f2 0 (by omega), c49 0 (by omega)]; exact h1.1
    · rw [f2 1 (by omega)]; exact c1
    · rw [f2 59 (by omega), c49 59 (by omega)]; exact h1.2.2
    · rw [f2 3 (by omega), c49 3 (by omega), frk 12 0 (by omega) (by omega) (by omega) (by omega), beg_len (by omega) (by omega)]; exact h2.1
    · rw [f2 4 (by omega), c49 4 (by omega), frk 12 1 (by omega) (by omega) (by omega) (by omega), beg_len (by omega) (by omega)]; exact h2.2.1
    · rw [f2 5 (by omega), c49 5 (by omega), frk 12 2 (by omega) (by omega) (by omega) (by omega), beg_len (by omega) (by omega)]; exact h2.2.2.1
    · rw [f1 50 (by omega) (by omega) (by omega) (by omega) (by omega), f1 51 (by omega) (by omega) (by omega) (by omega) (by omega), f1 54 (by omega) (by omega) (by omega) (by omega) (by omega), c0 50 (by omega) (by omega) (by omega), c0 51 (by omega) (by omega) (by omega), c0 54 (by omega) (by omega) (by omega), frk 0 p (by omega) (by omega) (by omega) (by omega), frk 1 p (by omega) (by omega) (by omega) (by omega), frk 2 p (by omega) (by omega) (by omega) (by omega), beg_len (by omega) (by omega), beg_len (by omega) (by omega), beg_len (by omega) (by omega)]
      exact ⟨(h3 p hp).1, (h3 p hp).2.1, (h3 p hp).2.2.1, g6 p hp, g7 p hp⟩
    · have hp' : p < a.1.1 := hp
      have ht' : t ≤ a.1.2.1 + 1 := ht
      by_cases e : t = a.1.2.1 + 1
      · subst e; exact g9 p hp
      · rw [(f4' _ (by omega)).1, c0 57 (by omega) (by omega) (by omega), frk 6 _ (by omega) (by omega) (by omega) (by omega), beg_len (by omega) (by omega)]
        exact h5 t p (by omega) hp
    · have hp' : p < a.1.1 := hp
      have ht' : t ≤ a.1.2.1 + 1 := ht
      by_cases e : t = a.1.2.1 + 1
      · subst e; exact g10 p hp
      · have ff := f4' (16 * t + p) (by omega)
        rw [ff.2.1, ff.2.2.1, ff.2.2.2, c0 58 (by omega) (by omega) (by omega), c0 59 (by omega) (by omega) (by omega), c0 60 (by omega) (by omega) (by omega), frk 7 _ (by omega) (by omega) (by omega) (by omega), frk 8 _ (by omega) (by omega) (by omega) (by omega), frk 9 _ (by omega) (by omega) (by omega) (by omega), beg_len (by omega) (by omega), beg_len (by omega) (by omega), beg_len (by omega) (by omega)]
        exact h6 t p t1 (by omega) hp
    · show m1.1 55 h = (hw_step a l).2.1 10 (4 * (a.1.2.1 + 1) + h)
      rw [f1 55 (by omega) (by omega) (by omega) (by omega) (by omega), c0 55 (by omega) (by omega) (by omega), frk 10 _ (by omega) (by omega) (by omega) (by omega), beg_10, if_pos (by omega), show 4 * (a.1.2.1 + 1) + h - 4 = 4 * a.1.2.1 + h by omega]
      exact h7 h hh
    · have ht' : t < a.1.2.1 + 1 := ht
      rw [f1 61 (by omega) (by omega) (by omega) (by omega) (by omega), frk 10 _ (by omega) (by omega) (by omega) (by omega), beg_10, if_neg (by omega)]
      exact hp0.house2 (by omega) hh
    · show m1.1 49 2 = (hw_step a l).2.1 11 (a.1.2.1 + 1)
      rw [f2 2 (by omega), c49 2 (by omega), frk 11 _ (by omega) (by omega) (by omega) (by omega), beg_11, if_pos rfl]
      exact h9
    · have ht' : t < a.1.2.1 + 1 := ht
      rw [f1 62 (by omega) (by omega) (by omega) (by omega) (by omega), frk 11 _ (by omega) (by omega) (by omega) (by omega), beg_11, if_neg (by omega)]
      exact hp0.money2 (by omega)
    · rw [f1 86 (by omega) (by omega) (by omega) (by omega) (by omega), f1 85 (by omega) (by omega) (by omega) (by omega) (by omega), f1 87 (by omega) (by omega) (by omega) (by omega) (by omega), c0 86 (by omega) (by omega) (by omega), c0 85 (by omega) (by omega) (by omega), c0 87 (by omega) (by omega) (by omega), frk 13 k (by omega) (by omega) (by omega) (by omega), frk 14 k (by omega) (by omega) (by omega) (by omega), frk 15 k (by omega) (by omega) (by omega) (by omega), beg_len (by omega) (by omega), beg_len (by omega) (by omega), beg_len (by omega) (by omega)]
      exact h11 k hk
end SM
