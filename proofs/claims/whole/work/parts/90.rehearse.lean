/-! layer 2: trials, the class -/
theorem PSh8 {Λ : hx_L} (F : cF Λ) : PSh Λ 8 := by
  refine ⟨cF_S8 F, fun i h1 h6 => ?_, fun i h1 h5 => ?_, cF_S14 F⟩
  · have : i = 1 ∨ i = 2 ∨ i = 3 ∨ i = 4 ∨ i = 5 ∨ i = 6 := by omega
    rcases this with rfl | rfl | rfl | rfl | rfl | rfl
    · exact cF_R8_1 F
    · exact cF_R8_2 F
    · exact cF_R8_3 F
    · exact cF_R8_4 F
    · exact cF_R8_5 F
    · exact cF_R8_6 F
  · have : i = 1 ∨ i = 2 ∨ i = 3 ∨ i = 4 ∨ i = 5 := by omega
    rcases this with rfl | rfl | rfl | rfl | rfl
    · exact cF_S9 F
    · exact cF_S10 F
    · exact cF_S11 F
    · exact cF_S12 F
    · exact cF_S13 F
theorem PSh29 {Λ : hx_L} (F : cF Λ) : PSh Λ 29 := by
  refine ⟨cF_S29 F, fun i h1 h6 => ?_, fun i h1 h5 => ?_, cF_S35 F⟩
  · have : i = 1 ∨ i = 2 ∨ i = 3 ∨ i = 4 ∨ i = 5 ∨ i = 6 := by omega
    rcases this with rfl | rfl | rfl | rfl | rfl | rfl
    · exact cF_R29_1 F
    · exact cF_R29_2 F
    · exact cF_R29_3 F
    · exact cF_R29_4 F
    · exact cF_R29_5 F
    · exact cF_R29_6 F
  · have : i = 1 ∨ i = 2 ∨ i = 3 ∨ i = 4 ∨ i = 5 := by omega
    rcases this with rfl | rfl | rfl | rfl | rfl
    · exact cF_S30 F
    · exact cF_S31 F
    · exact cF_S32 F
    · exact cF_S33 F
    · exact cF_S34 F
theorem n32_mod2 {x : Nat} (h : x < 2 ^ 30) : Int32.ofNat x - Int32.ofNat x / 2 * 2 = Int32.ofNat (x % 2) := by
  have e2 : (2 : Int32) = Int32.ofNat 2 := rfl
  rw [e2, n32_div (by omega) (by omega), n32_mul, n32_subn (by omega)]
  congr 1
  omega
/-- the money of a trial, by its seasons -/
def tr_mo (told was : Int32) (ev t : Nat) : Int32 := if told = -1 then was else if t / ev % 2 = 0 then told else was
section RH
variable {Λ : hx_L} {a : hw_T} {l : List hl_R} {f lc n ev : Nat} {told was : Int32} {μ : hx_M}
theorem mo_rng (h1 : told = -1 ∨ 0 ≤ told ∧ told ≤ 99) (h2 : 0 ≤ was ∧ was ≤ 99) (t : Nat) : 0 ≤ tr_mo told was ev t ∧ tr_mo told was ev t ≤ 99 := by
  unfold tr_mo
  by_cases c : told = -1
  · rw [if_pos c]; exact h2
  · rw [if_neg c]
    rcases h1 with h1 | h1
    · exact absurd h1 c
    · split
      · exact h1
      · exact h2
theorem rehearse_L50 {K K1 : hx_M → Prop} {z0 : Int64} {v7 : Int32} (w : WF 200 a) (h0 : 0 < a.1.1) (hn : n ≤ 100) (hev : 1 ≤ ev ∧ ev ≤ 20) (h1 : told = -1 ∨ 0 ≤ told ∧ told ≤ 99) (h2 : 0 ≤ was ∧ was ≤ 99) (hl : LKC Λ μ f lc l) :
    ∀ (r t : Nat) (m : hx_M), t + r = n → CW 0 (hw_W l (tr_mo told was ev) a t) m → offP μ m → (∀ m', CW 0 (hw_W l (tr_mo told was ev) a n) m' → offP μ m' → K1 m') → wX9_rehearse_L50 Λ lc (Int32.ofNat n) (Int32.ofNat ev) told z0 v7 was K K1 (r + 1) (Int32.ofNat t) m := by
  have hs := w.s
  have hok := hl.2.2.2.2.2
  intro r
  induction r with
  | zero =>
    intro t m e hc o k
    obtain rfl : t = n := by omega
    unfold wX9_rehearse_L50
    exact selT (Int32.le_refl _) (k m hc o)
  | succ r ih =>
    intro t m e hc o k
    have es : (hw_W l (tr_mo told was ev) a t).1.2.1 = a.1.2.1 + t := by rw [W_1]
    have wt := W_WF (mo := tr_mo told was ev) w h0 hok t (by omega) (fun u _ => mo_rng h1 h2 u)
    unfold wX9_rehearse_L50
    have go : ∀ v : Int32, v = tr_mo told was ev t → vp_in (m.1 7 7) 301 ∧ wX10_pass Λ (hx_sI m 20 (m.1 7 7).toNatClampNeg v) lc (fun m117 => wX9_rehearse_L50 Λ lc (Int32.ofNat n) (Int32.ofNat ev) told z0 v7 was K K1 (r + 1) (Int32.ofNat t + 1) m117) := by
      rintro v rfl
      rw [hc.s, n32_nat (by omega), n32_add1]
      have hc2 := CW_money hc (tr_mo told was ev t)
      have o2 : offP m (hx_sI m 20 (hw_W l (tr_mo told was ev) a t).1.2.1 (tr_mo told was ev t)) := fun k hk => ⟨by rw [sIk (by omega)], rfl⟩
      refine ⟨n32_in (by omega) (by omega), passC (a := hw_mon (hw_W l (tr_mo told was ev) a t) (tr_mo told was ev t)) (hl.oP (o.tr o2)) hc2 (WF_money wt (mo_rng h1 h2 t)) (by show (hw_W l (tr_mo told was ev) a t).1.2.1 < 300; omega) (fun m1 o3 c3 => ?_)⟩
      exact ih (t + 1) m1 (by omega) c3 ((o.tr o2).tr o3) k
    unfold wX9_rehearse_J79 wX9_rehearse_J80 wX9_rehearse_J80_7 wX9_rehearse_J111 wX9_rehearse_J111_8
    refine selF (fun z => by have := (n32_le (by omega) (by omega)).mp z; omega) ⟨fun c => sel0 (go was (by unfold tr_mo; rw [if_pos c])), fun c => selF (fun z => by have := (n32_le (b := 0) (by omega) (by omega)).mp z; omega) ⟨n32_ne0 (by omega) (by omega), ?_⟩⟩
    rw [n32_div (by omega) (by omega), n32_mod2 (Nat.lt_of_le_of_lt (Nat.div_le_self _ _) (by omega))]
    have hm2 : t / ev % 2 < 2 := Nat.mod_lt _ (by omega)
    refine ⟨fun z => sel0 (go was ?_), fun z => sel1 (go told ?_)⟩
    · unfold tr_mo
      rw [if_neg c, if_neg (fun z2 => z (by rw [z2]; rfl))]
    · unfold tr_mo
      rw [if_neg c, if_pos ((n32_eq (b := 0) (by omega) (by omega)).mp z)]
theorem rehC {K : hx_M → Prop} (hc : CW 0 a μ) (w : WF 200 a) (h0 : 0 < a.1.1) (hn : n ≤ 100) (hev : 1 ≤ ev ∧ ev ≤ 20) (h1 : told = -1 ∨ 0 ≤ told ∧ told ≤ 99) (hl : LKC Λ μ f lc l)
    (k : ∀ m, (∀ k, (k < 7 ∨ k = 15 ∨ 35 < k) → m.1 k = μ.1 k ∧ m.2 k = μ.2 k) → CW 0 a m → (∀ u q, u ≤ n → q < a.1.1 → m.1 16 (16 * (a.1.2.1 + u) + q) = (hw_W l (tr_mo told (a.2.1 11 a.1.2.1) ev) a u).2.1 6 (16 * (a.1.2.1 + u) + q)) → (∀ u, u ≤ n → m.1 17 (a.1.2.1 + u) = sumN (fun q => (hw_W l (tr_mo told (a.2.1 11 a.1.2.1) ev) a u).2.1 6 (16 * (a.1.2.1 + u) + q)) a.1.1) → K m) : wX9_rehearse Λ μ lc (Int32.ofNat n) (Int32.ofNat ev) told K := by
  have hs := w.s
  have hn16 := w.n
  have hok := hl.2.2.2.2.2
  have hwas : 0 ≤ a.2.1 11 a.1.2.1 ∧ a.2.1 11 a.1.2.1 ≤ 99 := w.2.2.2.2.2.2.1 _ (Nat.le_refl _)
  unfold wX9_rehearse
  refine copyOfP (PSh29 hl.1) (PSh8 hl.1) (by omega) hc.n hn16 (fun m1 p1 p2 p3 p4 p5 => ?_)
  have o1 : ∀ k, (k < 29 ∨ 35 < k) → m1.1 k = μ.1 k := fun k hk => p1 k (by omega)
  have hc1 : CW 0 a m1 := hc.fr fun k k1 k2 => ⟨o1 _ (by omega), by rw [p2]⟩
  rw [hc1.s, n32_nat (by omega), hc1.money (Nat.le_refl _), hc1.z]
  have hl1 : LKC Λ m1 f lc l := hl.fr (o1 15 (by omega)) (fun k hk => o1 k (by omega))
  refine ⟨n32_in (by omega) (by omega), n + 1, rehearse_L50 (μ := m1) w h0 hn hev h1 hwas hl1 n 0 m1 (by omega) hc1 offP.rf (fun m2 c2 q2 => ⟨n32_in (by omega) (by omega), ?_⟩)⟩
  have hmo : ∀ u, u < n → 0 ≤ tr_mo told (a.2.1 11 a.1.2.1) ev u ∧ tr_mo told (a.2.1 11 a.1.2.1) ev u ≤ 99 := fun u _ => mo_rng h1 hwas u
  have e1 := W_1 (l := l) (mo := tr_mo told (a.2.1 11 a.1.2.1) ev) (a := a) n
  have fr := W_fr (mo := tr_mo told (a.2.1 11 a.1.2.1) ev) w h0 hok n hn hmo
  have k2 : ∀ i, 29 ≤ i → i ≤ 35 → m2.1 i = m1.1 i := fun i a b => (q2 i (by omega)).1
  refine copyOfP (n := a.1.1) (PSh8 hl.1) (PSh29 hl.1) (by omega) ?_ hn16 (fun m3 r1 r2 r3 r4 r5 => ?_)
  · rw [hm_sL1, sIk (by omega), sIk (by omega), k2 29 (by omega) (by omega)]
    exact p3
  have r1' : ∀ k, (k < 8 ∨ 14 < k) → k ≠ 7 → k ≠ 20 → m3.1 k = m2.1 k := fun k hk h7 h20 => by
    rw [r1 k (by omega)]
    rw [hm_sL1, sIk h7, sIk h20]
  have r7 : ∀ j, m3.1 7 j = if j = 7 then Int32.ofNat a.1.2.1 else m2.1 7 j := fun j => by
    rw [r1 7 (by omega)]
    rw [hm_sL1, hm_sI, sIk (by omega)]
    by_cases c : j = 7
    · rw [if_pos ⟨rfl, c⟩, if_pos c]
    · rw [if_neg (fun z => c z.2), if_neg c]
  have r20 : ∀ t, m3.1 20 t = if t = a.1.2.1 then a.2.1 11 a.1.2.1 else m2.1 20 t := fun t => by
    rw [r1 20 (by omega)]
    rw [hm_sL1, sIk (by omega), hm_sI]
    by_cases c : t = a.1.2.1
    · rw [if_pos ⟨rfl, c⟩, if_pos c]
    · rw [if_neg (fun z => c z.2), if_neg c]
  have rr : ∀ i, 1 ≤ i → i ≤ 5 → ∀ q, q < a.1.1 → m3.1 (8 + i) q = μ.1 (8 + i) q := fun i i1 i5 q hq => by
    rw [r4 i i1 i5 q hq]
    rw [hm_sL1, sIk (by omega), sIk (by omega), k2 (29 + i) (by omega) (by omega), p4 i i1 i5 q hq]
  have r14 : ∀ q, q < 6 * a.1.1 → m3.1 14 q = μ.1 14 q := fun q hq => by
    rw [show (14 : Nat) = 8 + 6 from rfl, r5 q hq]
    rw [hm_sL1, sIk (by omega), sIk (by omega), k2 (29 + 6) (by omega) (by omega), p5 q hq]
  have sW : ∀ t, t ≤ a.1.2.1 → hw_sum (hw_W l (tr_mo told (a.2.1 11 a.1.2.1) ev) a n) t = hw_sum a t := fun t ht => by
    unfold hw_sum
    rw [e1]
    exact sumN_eq fun q hq => fr 6 _ (by omega) (by omega) (by omega) (by have : q < a.1.1 := hq; omega) (by omega) (by omega)
  have rowW : ∀ u q, u ≤ n → q < a.1.1 → (hw_W l (tr_mo told (a.2.1 11 a.1.2.1) ev) a n).2.1 6 (16 * (a.1.2.1 + u) + q) = (hw_W l (tr_mo told (a.2.1 11 a.1.2.1) ev) a u).2.1 6 (16 * (a.1.2.1 + u) + q) := fun u q hu hq => W_row w h0 hok (by omega) n hu hn hmo
  refine k m3 (fun i hi => ⟨?_, ?_⟩) ?_ (fun u q hu hq => ?_) (fun u hu => ?_)
  · rw [r1' i (by omega) (by omega) (by omega), (q2 i (by omega)).1, o1 i (by omega)]
  · rw [r2]
    show (hx_sL _ 7 6 _).2 i = _
    have : (hx_sL (hx_sI (hx_sI m2 20 a.1.2.1 (a.2.1 11 a.1.2.1)) 7 7 (Int32.ofNat a.1.2.1)) 7 6 (a.2.2 0 0)).2 i = m2.2 i := by
      funext j
      rw [hm_sLv, if_neg (by omega)]
      rfl
    rw [this, (q2 i (by omega)).2, p2]
  · have hcc := hc
    obtain ⟨g1, g2, g3, g4, g5, g6, g7, g8, g9, g10⟩ := hc
    obtain ⟨d1, d2, d3, d4, d5, d6, d7, d8, d9, d10⟩ := c2
    rw [e1] at d1 d5 d6 d7 d8 d9 d10
    refine ⟨⟨r3, by rw [r7, if_pos rfl], by rw [r7, if_neg (by omega)]; exact d1.2.2⟩, ⟨?_, ?_, ?_, ?_⟩, fun p hp => ?_, fun k hk => ?_, fun t p ht hp => ?_, fun t ht => ?_, fun t p t1 ht hp => ?_, fun t h ht hh => ?_, fun t ht => ?_, fun k hk => ?_⟩
    · rw [r7, if_neg (by omega), d2.1]; exact fr 12 0 (by omega) (by omega) (by omega) (by omega) (by omega) (by omega)
    · rw [r7, if_neg (by omega), d2.2.1]; exact fr 12 1 (by omega) (by omega) (by omega) (by omega) (by omega) (by omega)
    · rw [r7, if_neg (by omega), d2.2.2.1]; exact fr 12 2 (by omega) (by omega) (by omega) (by omega) (by omega) (by omega)
    · rw [r2]
      show (hx_sL _ 7 6 _).2 7 6 = _
      rw [hm_sLv, if_pos ⟨rfl, rfl⟩]
    · have := g3 p hp
      exact ⟨(rr 1 (by omega) (by omega) p hp).trans this.1, (rr 2 (by omega) (by omega) p hp).trans this.2.1, (rr 3 (by omega) (by omega) p hp).trans this.2.2.1, (rr 4 (by omega) (by omega) p hp).trans this.2.2.2.1, (rr 5 (by omega) (by omega) p hp).trans this.2.2.2.2⟩
    · exact (r14 k hk).trans (g4 k hk)
    · rw [r1' 16 (by omega) (by omega) (by omega), d5 t p (by show t ≤ a.1.2.1 + n; omega) hp]
      exact fr 6 _ (by omega) (by omega) (by omega) (by omega) (by omega) (by omega)
    · rw [r1' 17 (by omega) (by omega) (by omega), d6 t (by show t ≤ a.1.2.1 + n; omega)]
      exact sW t ht
    · have := d7 t p t1 (by show t ≤ a.1.2.1 + n; omega) hp
      rw [r1' 18 (by omega) (by omega) (by omega), this.1, this.2.1, this.2.2]
      exact ⟨fr 7 _ (by omega) (by omega) (by omega) (by omega) (by omega) (by omega), fr 8 _ (by omega) (by omega) (by omega) (by omega) (by omega) (by omega), fr 9 _ (by omega) (by omega) (by omega) (by omega) (by omega) (by omega)⟩
    · rw [r1' 19 (by omega) (by omega) (by omega), d8 t h (by show t ≤ a.1.2.1 + n; omega) hh]
      exact fr 10 _ (by omega) (by omega) (by omega) (by omega) (by omega) (by omega)
    · rw [r20]
      by_cases c : t = a.1.2.1
      · rw [if_pos c, c]
      · rw [if_neg c, d9 t (by show t ≤ a.1.2.1 + n; omega)]
        exact fr 11 _ (by omega) (by omega) (by omega) (by omega) (by omega) (by omega)
    · have := d10 k hk
      rw [r1' 25 (by omega) (by omega) (by omega), r1' 26 (by omega) (by omega) (by omega), r1' 27 (by omega) (by omega) (by omega), this.1, this.2.1, this.2.2]
      exact ⟨fr 13 _ (by omega) (by omega) (by omega) (by omega) (by omega) (by omega), fr 14 _ (by omega) (by omega) (by omega) (by omega) (by omega) (by omega), fr 15 _ (by omega) (by omega) (by omega) (by omega) (by omega) (by omega)⟩
  · rw [r1' 16 (by omega) (by omega) (by omega), c2.len (by rw [e1]; show a.1.2.1 + u ≤ a.1.2.1 + n; omega) (by rw [e1]; exact hq)]
    exact rowW u q hu hq
  · rw [r1' 17 (by omega) (by omega) (by omega), c2.sum (by rw [e1]; show a.1.2.1 + u ≤ a.1.2.1 + n; omega)]
    unfold hw_sum
    rw [e1]
    exact sumN_eq fun q hq => rowW u q hu hq
end RH
