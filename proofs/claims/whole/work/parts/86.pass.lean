/-! layer 2: a season passes, both -/
/-- the same but for what a passing season writes, the class -/
def offP (μ m : hx_M) : Prop := ∀ k, (k < 7 ∨ k = 15 ∨ 27 < k) → m.1 k = μ.1 k ∧ m.2 k = μ.2 k
theorem offP.rf {μ : hx_M} : offP μ μ := fun _ _ => ⟨rfl, rfl⟩
theorem offP.tr {μ m m' : hx_M} (h1 : offP μ m) (h2 : offP m m') : offP μ m' := fun k hk => ⟨(h2 k hk).1.trans (h1 k hk).1, (h2 k hk).2.trans (h1 k hk).2⟩
/-- the same but for what a passing season writes, the reference -/
def offG (μ m : hx_M) : Prop := (∀ k, k ≠ 49 → ¬ (52 ≤ k ∧ k ≤ 53) → ¬ (56 ≤ k ∧ k ≤ 62) → k ≠ 73 → ¬ (76 ≤ k ∧ k ≤ 77) → m.1 k = μ.1 k) ∧ (∀ j, j ≠ 1 → j ≠ 45 → m.1 49 j = μ.1 49 j) ∧ (∀ k, k ≠ 49 → m.2 k = μ.2 k) ∧ (∀ j, j ≠ 6 → m.2 49 j = μ.2 49 j)
theorem offG.rf {μ : hx_M} : offG μ μ := ⟨fun _ _ _ _ _ _ => rfl, fun _ _ _ => rfl, fun _ _ => rfl, fun _ _ => rfl⟩
theorem offG.tr {μ m m' : hx_M} (h1 : offG μ m) (h2 : offG m m') : offG μ m' := ⟨fun k a b c d e => (h2.1 k a b c d e).trans (h1.1 k a b c d e), fun j a b => (h2.2.1 j a b).trans (h1.2.1 j a b), fun k a => (h2.2.2.1 k a).trans (h1.2.2.1 k a), fun j a => (h2.2.2.2 j a).trans (h1.2.2.2 j a)⟩
section PS
variable {a : hw_T} {l : List hl_R} {p f : Nat} {b m0 μ : hx_M} {Λ : hx_L}
theorem pass_L42 {lc : Nat} {K : hx_M → Prop} {K1 : Int32 → hx_M → Prop} (F : cF Λ) (hc : CWp a m0) (w : WF 300 a) (hs : a.1.2.1 < 300) (h77 : m0.1 7 7 = Int32.ofNat (a.1.2.1 + 1)) (h73 : m0.1 7 3 = a.2.1 12 0) (h74 : m0.1 7 4 = a.2.1 12 1) (h75 : m0.1 7 5 = a.2.1 12 2) (hl : hl_LC Λ m0 f l) (hlc : Λ.2.1 6 f = some lc) (hl16 : l.length ≤ 16) (hok : ∀ r ∈ l, hl_okR r) :
    ∀ (r p : Nat) (b m : hx_M), p + r = a.1.1 → BR a p b → CB a.1.1 a.1.2.1 m0 b p p m → (∀ m', CB a.1.1 a.1.2.1 m0 (itN (hs_go a l) p r b) a.1.1 a.1.1 m' → K1 (sumN (fun q => (itN (hs_go a l) p r b).1 6 (16 * (a.1.2.1 + 1) + q)) a.1.1) m') → wX10_pass_L42 Λ lc K K1 (r + 1) (sumN (fun q => b.1 6 (16 * (a.1.2.1 + 1) + q)) p) (Int32.ofNat p) m := by
  have hn := w.n
  intro r
  induction r with
  | zero =>
    intro p b m e hb h k
    obtain rfl : p = a.1.1 := by omega
    unfold wX10_pass_L42
    rw [(h.mid hc w).n]
    exact selT (Int32.le_refl _) (k m h)
  | succ r ih =>
    intro p b m e hb h k
    unfold wX10_pass_L42
    rw [(h.mid hc w).n]
    refine selF (fun z => by have := (n32_le (by omega) (by omega)).mp z; omega) (dressC F h hc w hs h77 h73 h74 h75 hb (by omega) hl hlc hl16 hok (fun m1 h1 => ?_))
    have f7 : m1.1 7 7 = Int32.ofNat (a.1.2.1 + 1) := by rw [h1.1.1 7 (by omega) (by omega) (by omega) (by omega) (by omega) (by omega)]; exact h77
    rw [f7, idxC, n32_nat (by omega), n32_add1]
    refine ⟨n32_in (by omega) (by omega), ?_⟩
    have es : sumN (fun q => b.1 6 (16 * (a.1.2.1 + 1) + q)) p + (hs_do a l p b).2 = sumN (fun q => (hs_go a l p b).1 6 (16 * (a.1.2.1 + 1) + q)) (p + 1) := by
      show _ = sumN _ p + (hs_go a l p b).1 6 (16 * (a.1.2.1 + 1) + p)
      congr 1
      · exact sumN_eq fun q hq => (go_ne (by omega) (by omega) (by omega) (by omega)).symm
      · unfold hs_go; rw [sIe]
    rw [es]
    exact ih (p + 1) (hs_go a l p b) _ (by omega) (hb.go w hs (by omega) hok) h1.len k
theorem stepC {lc : Nat} {K : hx_M → Prop} (F : cF Λ) (hc : CW 0 a μ) (w : WF 300 a) (hs : a.1.2.1 < 300) (h15 : μ.1 15 0 = Int32.ofNat 301) (hl : hl_LC Λ μ f l) (hlc : Λ.2.1 6 f = some lc) (hl16 : l.length ≤ 16) (hok : ∀ r ∈ l, hl_okR r)
    (k : ∀ m, offP μ m → CW 0 (hw_step a l) m → K m) : wX10_pass Λ μ lc K := by
  have hn := w.n
  unfold wX10_pass
  rw [hc.s, h15, n32_add1]
  refine selT ((n32_lt (by omega) (by omega)).mpr (by omega)) ?_
  unfold wX3_carryOn
  have e4 : ∀ t : Nat, Int32.ofNat t * 4 = Int32.ofNat (4 * t) := fun t => by rw [Nat.mul_comm 4 t, ← n32_mul]; rfl
  rw [n32_add1, e4, e4, n32_nat (by omega), n32_nat (by omega), n32_nat (by omega), n32_nat (by omega)]
  have t4 : (4 : Int32).toNatClampNeg = 4 := rfl
  rw [t4]
  refine ⟨n32_in (by omega) (by omega), n32_in (by omega) (by omega), n32_nn (by omega), n32_nn (by omega), by decide, by omega, by omega, ?_⟩
  rintro m1 rfl
  have s7 : (hx_sA (hx_sI μ 20 (a.1.2.1 + 1) (μ.1 20 a.1.2.1)) 19 (va_cpy (μ.1 19) (μ.1 19) (4 * a.1.2.1) (4 * (a.1.2.1 + 1)) 4)).1 7 7 = Int32.ofNat a.1.2.1 := by
    rw [hm_sA, if_neg (by omega), sIk (by omega)]; exact hc.s
  rw [s7, n32_add1]
  generalize hm0 : hx_sI (hx_sA (hx_sI μ 20 (a.1.2.1 + 1) (μ.1 20 a.1.2.1)) 19 (va_cpy (μ.1 19) (μ.1 19) (4 * a.1.2.1) (4 * (a.1.2.1 + 1)) 4)) 7 7 (Int32.ofNat (a.1.2.1 + 1)) = m0
  have c0 : ∀ k, k ≠ 7 → k ≠ 19 → k ≠ 20 → m0.1 k = μ.1 k := fun k h1 h2 h3 => by
    rw [← hm0, sIk h1]
    show (if k = 19 then _ else _) = _
    rw [if_neg h2, sIk h3]
  have c7 : ∀ j, j ≠ 7 → m0.1 7 j = μ.1 7 j := fun j hj => by
    rw [← hm0, sIj hj, hm_sA, if_neg (by omega), sIk (by omega)]
  have c77 : m0.1 7 7 = Int32.ofNat (a.1.2.1 + 1) := by rw [← hm0, sIe]
  have c2 : m0.2 = μ.2 := by rw [← hm0]; rfl
  have c19 : ∀ t h, t ≤ a.1.2.1 + 1 → h < 4 → m0.1 19 (4 * t + h) = (hs_beg a).1 10 (4 * t + h) := fun t h ht hh => by
    rw [← hm0, sIk (by omega), hm_sA, if_pos rfl, beg_10]
    by_cases e : t = a.1.2.1 + 1
    · subst e
      rw [pk_cpy_in (by omega) (by omega), if_pos (by omega), show 4 * (a.1.2.1 + 1) + h - 4 = 4 * a.1.2.1 + h by omega, show 4 * a.1.2.1 + (4 * (a.1.2.1 + 1) + h - 4 * (a.1.2.1 + 1)) = 4 * a.1.2.1 + h by omega]
      exact hc.house (Nat.le_refl _) hh
    · rw [pk_cpy_out (by omega), if_neg (by omega)]
      exact hc.house (by omega) hh
  have c20 : ∀ t, t ≤ a.1.2.1 + 1 → m0.1 20 t = (hs_beg a).1 11 t := fun t ht => by
    rw [← hm0, sIk (by omega), hm_sA, if_neg (by omega), hm_sI, beg_11]
    by_cases e : t = a.1.2.1 + 1
    · rw [if_pos ⟨rfl, e⟩, if_pos e]; exact hc.money (Nat.le_refl _)
    · rw [if_neg (by omega), if_neg e]; exact hc.money (by omega)
  have hp0 : CWp a m0 := by
    obtain ⟨h1, h2, h3, h4, h5, h6, h7, h8, h9, h10⟩ := hc
    unfold CWp
    rw [c0 8 (by omega) (by omega) (by omega), c0 9 (by omega) (by omega) (by omega), c0 10 (by omega) (by omega) (by omega), c0 11 (by omega) (by omega) (by omega), c0 16 (by omega) (by omega) (by omega), c0 17 (by omega) (by omega) (by omega)]
    refine ⟨h1.1, fun p hp => ⟨(h3 p hp).1, (h3 p hp).2.1, (h3 p hp).2.2.1⟩, h5, h6, fun t h ht hh => ?_, fun t ht => ?_⟩
    · rw [c19 t h (by omega) hh, beg_10, if_neg (by omega)]
    · rw [c20 t (by omega), beg_11, if_neg (by omega)]
  have hb0 : CB a.1.1 a.1.2.1 m0 (hs_beg a) 0 0 m0 := by
    refine ⟨⟨fun _ _ _ _ _ _ _ => rfl, fun _ _ => rfl, fun _ _ => rfl, fun _ _ => ⟨rfl, rfl⟩⟩, by rw [c2]; exact hc.z, fun q hq => ?_, fun q hq => ?_, fun k hk => ?_, fun q hq => by omega, fun q hq => by omega⟩
    · rw [c0 12 (by omega) (by omega) (by omega), beg_len (by omega) (by omega)]; exact hc.coin hq
    · rw [c0 13 (by omega) (by omega) (by omega), beg_len (by omega) (by omega)]; exact hc.worn hq
    · rw [c0 14 (by omega) (by omega) (by omega), beg_len (by omega) (by omega)]; exact hc.tally hk
  have hl0 : hl_LC Λ m0 f l := by
    obtain ⟨lc', cc, len, b1, b2, b3, b4, b5, b6, b7, b8, b9, b10, b11⟩ := hl
    exact ⟨lc', cc, len, b1, b2, b3, b4, b5, b6, b7, b8, b9, by rw [c0 lc' (by omega) (by omega) (by omega)]; exact b10, hl_C.fr (c0 cc (by omega) (by omega) (by omega)) b11⟩
  refine ⟨a.1.1 + 1, pass_L42 F hp0 w hs c77 (by rw [c7 3 (by omega)]; exact hc.price) (by rw [c7 4 (by omega)]; exact hc.seam) (by rw [c7 5 (by omega)]; exact hc.over) hl0 hlc hl16 hok a.1.1 0 (hs_beg a) m0 (by omega) (BR.beg w hs) hb0 (fun m1 h1 => ?_)⟩
  have so := step_ok (l := l) w hs hok
  have eb : itN (hs_go a l) 0 a.1.1 (hs_beg a) = (hw_step a l).2 := rfl
  rw [eb] at h1 ⊢
  obtain ⟨⟨b1, b2, b3, b4⟩, fr⟩ := so
  have frk : ∀ k j, k ≠ 3 → k ≠ 4 → k ≠ 5 → ((k = 6 ∨ k = 7 ∨ k = 8 ∨ k = 9) → j < 16 * (a.1.2.1 + 1)) → (hw_step a l).2.1 k j = (hs_beg a).1 k j := fr
  have hh1 := h1
  obtain ⟨⟨f1, f2, f3, f4⟩, g5, g6, g7, g8, g9, g10⟩ := h1
  have f7 : m1.1 7 = m0.1 7 := f1 7 (by omega) (by omega) (by omega) (by omega) (by omega) (by omega)
  rw [f7, c77, n32_nat (by omega)]
  refine ⟨n32_in (by omega) (by omega), k _ ?_ ?_⟩
  · intro i hi
    rw [sIk (by omega), sIk2, f1 i (by omega) (by omega) (by omega) (by omega) (by omega) (by omega), f2 i (by omega), c2]
    exact ⟨c0 i (by omega) (by omega) (by omega), rfl⟩
  · have sI2 : ∀ k, k ≠ 17 → k ≠ 12 → k ≠ 13 → k ≠ 14 → k ≠ 16 → k ≠ 18 → ¬ (21 ≤ k ∧ k ≤ 24) → (hx_sI m1 17 (a.1.2.1 + 1) (sumN (fun q => (hw_step a l).2.1 6 (16 * (a.1.2.1 + 1) + q)) a.1.1)).1 k = m0.1 k := fun k k0 k1 k2 k3 k4 k5 k6 => by rw [sIk k0]; exact f1 k k1 k2 k3 k4 k5 k6
    have sm : ∀ t, t ≤ a.1.2.1 → hw_sum (hw_step a l) t = hw_sum a t := fun t ht => sumN_eq fun q hq => by
      have hq' : q < a.1.1 := hq
      rw [frk 6 _ (by omega) (by omega) (by omega) (by omega), beg_len (by omega) (by omega)]
    obtain ⟨h1, h2, h3, h4, h5, h6, h7, h8, h9, h10⟩ := hc
    refine ⟨⟨?_, ?_, ?_⟩, ⟨?_, ?_, ?_, ?_⟩, fun p hp => ?_, fun k hk => ?_, fun t p ht hp => ?_, fun t ht => ?_, fun t p t1 ht hp => ?_, fun t h ht hh => ?_, fun t ht => ?_, fun k hk => ?_⟩
    · rw [sI2 8 (by omega) (by omega) (by omega) (by omega) (by omega) (by omega) (by omega), c0 8 (by omega) (by omega) (by omega)]; exact h1.1
    · rw [sIk (by omega), f7]; exact c77
    · rw [sIk (by omega), f7, c7 8 (by omega)]; exact h1.2.2
    · rw [sIk (by omega), f7, c7 3 (by omega), frk 12 0 (by omega) (by omega) (by omega) (by omega), beg_len (by omega) (by omega)]; exact h2.1
    · rw [sIk (by omega), f7, c7 4 (by omega), frk 12 1 (by omega) (by omega) (by omega) (by omega), beg_len (by omega) (by omega)]; exact h2.2.1
    · rw [sIk (by omega), f7, c7 5 (by omega), frk 12 2 (by omega) (by omega) (by omega) (by omega), beg_len (by omega) (by omega)]; exact h2.2.2.1
    · rw [sIk2]; exact g5
    · have hp' : p < a.1.1 := hp
      rw [sI2 9 (by omega) (by omega) (by omega) (by omega) (by omega) (by omega) (by omega), sI2 10 (by omega) (by omega) (by omega) (by omega) (by omega) (by omega) (by omega), sI2 11 (by omega) (by omega) (by omega) (by omega) (by omega) (by omega) (by omega), c0 9 (by omega) (by omega) (by omega), c0 10 (by omega) (by omega) (by omega), c0 11 (by omega) (by omega) (by omega), frk 0 p (by omega) (by omega) (by omega) (by omega), frk 1 p (by omega) (by omega) (by omega) (by omega), frk 2 p (by omega) (by omega) (by omega) (by omega), beg_len (by omega) (by omega), beg_len (by omega) (by omega), beg_len (by omega) (by omega), sIk (by omega), sIk (by omega)]
      exact ⟨(h3 p hp).1, (h3 p hp).2.1, (h3 p hp).2.2.1, g6 p hp, g7 p hp⟩
    · rw [sIk (by omega)]; exact g8 k hk
    · have hp' : p < a.1.1 := hp
      have ht' : t ≤ a.1.2.1 + 1 := ht
      rw [sIk (by omega)]
      by_cases e : t = a.1.2.1 + 1
      · subst e; exact g9 p hp
      · rw [(f4 _ (by omega)).1, c0 16 (by omega) (by omega) (by omega), frk 6 _ (by omega) (by omega) (by omega) (by omega), beg_len (by omega) (by omega)]
        exact h5 t p (by omega) hp
    · have ht' : t ≤ a.1.2.1 + 1 := ht
      show (hx_sI m1 17 _ _).1 17 t = _
      by_cases e : t = a.1.2.1 + 1
      · subst e; rw [sIe]; rfl
      · rw [sIj e, f1 17 (by omega) (by omega) (by omega) (by omega) (by omega) (by omega), c0 17 (by omega) (by omega) (by omega), sm t (by omega)]
        exact h6 t (by omega)
    · have hp' : p < a.1.1 := hp
      have ht' : t ≤ a.1.2.1 + 1 := ht
      rw [sIk (by omega)]
      by_cases e : t = a.1.2.1 + 1
      · subst e; exact g10 p hp
      · rw [(f4 _ (by omega)).2, c0 18 (by omega) (by omega) (by omega), frk 7 _ (by omega) (by omega) (by omega) (by omega), frk 8 _ (by omega) (by omega) (by omega) (by omega), frk 9 _ (by omega) (by omega) (by omega) (by omega), beg_len (by omega) (by omega), beg_len (by omega) (by omega), beg_len (by omega) (by omega)]
        exact h7 t p t1 (by omega) hp
    · have ht' : t ≤ a.1.2.1 + 1 := ht
      rw [sI2 19 (by omega) (by omega) (by omega) (by omega) (by omega) (by omega) (by omega), frk 10 _ (by omega) (by omega) (by omega) (by omega)]
      exact c19 t h ht' hh
    · have ht' : t ≤ a.1.2.1 + 1 := ht
      rw [sI2 20 (by omega) (by omega) (by omega) (by omega) (by omega) (by omega) (by omega), frk 11 _ (by omega) (by omega) (by omega) (by omega)]
      exact c20 t ht'
    · rw [sI2 25 (by omega) (by omega) (by omega) (by omega) (by omega) (by omega) (by omega), sI2 26 (by omega) (by omega) (by omega) (by omega) (by omega) (by omega) (by omega), sI2 27 (by omega) (by omega) (by omega) (by omega) (by omega) (by omega) (by omega), c0 25 (by omega) (by omega) (by omega), c0 26 (by omega) (by omega) (by omega), c0 27 (by omega) (by omega) (by omega), frk 13 k (by omega) (by omega) (by omega) (by omega), frk 14 k (by omega) (by omega) (by omega) (by omega), frk 15 k (by omega) (by omega) (by omega) (by omega), beg_len (by omega) (by omega), beg_len (by omega) (by omega), beg_len (by omega) (by omega)]
      exact h10 k hk
end PS
