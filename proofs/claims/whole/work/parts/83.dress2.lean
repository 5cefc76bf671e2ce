/-! layer 2: a person passes a season, the class, whole -/
theorem telIdx {p i : Nat} : (Int32.ofNat p * 6 + Int32.ofNat (i + 10)) - 10 = Int32.ofNat (6 * p + i) := by
  rw [← n32_add (a := 6 * p), ← n32_mul, ← n32_add (a := i)]
  have : Int32.ofNat 10 = 10 := rfl
  have : Int32.ofNat 6 = 6 := rfl
  grind
theorem tellC {p i : Nat} {m : hx_M} {K : hx_M → Prop} (hp : p < 16) (hi : i < 6) (k : K (hx_sI m 14 (6 * p + i) (m.1 14 (6 * p + i) + 1))) : wX4_tell m (Int32.ofNat p) (Int32.ofNat (i + 10)) K := by
  unfold wX4_tell
  rw [telIdx]
  refine ⟨n32_in (by omega) (by omega), ?_⟩
  rintro x rfl
  refine ⟨n32_in (by omega) (by omega), ?_⟩
  rw [n32_nat (by omega)]
  exact k
/-- what goes for sure of a person amid a season -/
def BR (a : hw_T) (p : Nat) (b : hx_M) : Prop :=
  (∀ q, p ≤ q → b.1 3 q = a.2.1 3 q ∧ b.1 4 q = a.2.1 4 q) ∧
  (∀ q, q < a.1.1 → (0 ≤ b.1 3 q ∧ b.1 3 q ≤ 9999) ∧ (0 ≤ b.1 4 q ∧ b.1 4 q ≤ Int32.ofNat (a.1.2.1 + 1))) ∧
  (∀ q, q < p → 0 ≤ b.1 6 (16 * (a.1.2.1 + 1) + q) ∧ b.1 6 (16 * (a.1.2.1 + 1) + q) ≤ 60) ∧
  (∀ q, b.1 1 q = a.2.1 1 q)
theorem ch_rng (z : Int64) : ∃ g : Nat, g ≤ 99 ∧ hg_ch z = Int32.ofNat g := by
  have hx0 : 0 ≤ (hg_x z).toInt ∧ (hg_x z).toInt < 2 ^ 31 := by
    unfold hg_x
    generalize hg_z z = y
    have e33 : ((33 : Int32).toInt64.toUInt64 &&& Int64.toUInt64 63) = UInt64.ofNat 33 := rfl
    rw [e33]
    have h1 : (y.toUInt64 >>> UInt64.ofNat 33).toNat < 2 ^ 31 := by
      rw [UInt64.toNat_shiftRight]
      have : (UInt64.ofNat 33).toNat % 64 = 33 := rfl
      rw [this, Nat.shiftRight_eq_div_pow]
      have := y.toUInt64.toNat_lt
      omega
    have h2 : (y.toUInt64 >>> UInt64.ofNat 33).toInt64.toInt = ((y.toUInt64 >>> UInt64.ofNat 33).toNat : Int) := by
      show (y.toUInt64 >>> UInt64.ofNat 33).toBitVec.toInt = _
      rw [BitVec.toInt_eq_toNat_of_lt]
      · rfl
      · show 2 * (y.toUInt64 >>> UInt64.ofNat 33).toNat < 2 ^ 64
        omega
    rw [h2]
    omega
  unfold hg_ch
  generalize hg_x z = x at hx0
  have e : (x - x / 100 * 100).toInt = x.toInt % 100 := by
    have e100 : (100 : Int64).toInt = 100 := rfl
    have hd : (x / 100).toInt = x.toInt / 100 := by
      rw [Int64.toInt_div, e100, Int.tdiv_eq_ediv_of_nonneg hx0.1]
      apply Int.bmod_eq_of_le <;> omega
    have hm : (x / 100 * 100).toInt = x.toInt / 100 * 100 := by
      rw [Int64.toInt_mul, hd, e100]
      apply Int.bmod_eq_of_le <;> omega
    rw [Int64.toInt_sub, hm]
    have : x.toInt - x.toInt / 100 * 100 = x.toInt % 100 := by omega
    rw [this]
    apply Int.bmod_eq_of_le <;> omega
  refine ⟨(x.toInt % 100).toNat, by omega, ?_⟩
  apply Int32.toInt_inj.mp
  rw [Int64.toInt_toInt32, e, Int32.toInt_ofNat_of_lt (by omega)]
  have : (((x.toInt % 100).toNat : Nat) : Int) = x.toInt % 100 := by omega
  rw [this]
  apply Int.bmod_eq_of_le <;> omega
theorem coin_rng {c u : Int32} (hc : 0 ≤ c ∧ c ≤ 9999) (hu : 0 ≤ u ∧ u ≤ 99) : ∃ x : Nat, x ≤ 9999 ∧ hg_coin c u = Int32.ofNat x := by
  obtain ⟨x, rfl, hx⟩ := n32_of (hi := 9999) hc.1 hc.2 (by omega)
  obtain ⟨y, rfl, hy⟩ := n32_of (hi := 99) hu.1 hu.2 (by omega)
  unfold hg_coin
  have e : (9999 : Int32) = Int32.ofNat 9999 := rfl
  rw [n32_add, e]
  by_cases h : Int32.ofNat (x + y) < Int32.ofNat 9999
  · rw [if_pos h]; exact ⟨_, Nat.le_of_lt ((n32_lt (by omega) (by omega)).mp h), rfl⟩
  · rw [if_neg h]; exact ⟨_, by omega, rfl⟩
theorem wish_verb {a : hw_T} {l : List hl_R} {p t : Nat} {coin worn chance : Int32} (hok : ∀ r ∈ l, hl_okR r) : (hw_wish a l p t coin worn chance).2 ≤ 2 := by
  unfold hw_wish
  generalize hw_ans a p t coin worn chance = ans
  revert hok
  induction l with
  | nil => exact fun _ => Nat.le_refl _
  | cons r rs ih =>
    intro hok
    have hokr := hok r List.mem_cons_self
    have hrs := ih (fun r' hr' => hok r' (List.mem_cons_of_mem _ hr'))
    unfold hl_wish
    by_cases g1 : hl_holds ans r.2 = true
    · rw [if_pos g1]
      by_cases g2 : r.1.1 = 2
      · rw [if_pos g2]; exact Nat.le_refl _
      · rw [if_neg g2]
        split
        · exact hrs
        · exact hokr.1
    · rw [if_neg g1]; exact hrs
section DR
variable {a : hw_T} {p s : Nat} {m0 b m : hx_M} {Λ : hx_L} {l : List hl_R} {f : Nat}
theorem CB.mid {pl pk : Nat} (h : CB a.1.1 a.1.2.1 m0 b pl pk m) (hc : CWp a m0) (w : WF 300 a) : CWp a m := by
  obtain ⟨⟨h1, h2, h3, h4⟩, h5⟩ := h
  have hn := w.n
  unfold CWp
  rw [h1 8 (by omega) (by omega) (by omega) (by omega) (by omega) (by omega), h1 9 (by omega) (by omega) (by omega) (by omega) (by omega) (by omega), h1 10 (by omega) (by omega) (by omega) (by omega) (by omega) (by omega), h1 11 (by omega) (by omega) (by omega) (by omega) (by omega) (by omega), h1 17 (by omega) (by omega) (by omega) (by omega) (by omega) (by omega), h1 19 (by omega) (by omega) (by omega) (by omega) (by omega) (by omega), h1 20 (by omega) (by omega) (by omega) (by omega) (by omega) (by omega)]
  obtain ⟨c1, c2, c3, c4, c5, c6⟩ := hc
  exact ⟨c1, c2, fun t p ht hp => by rw [(h4 _ (by omega)).1]; exact c3 t p ht hp, c4, c5, c6⟩
/-- paying, the class -/
theorem paysC {n s0 pl pk : Nat} {x : Int32} {y : Bool} {cost : Int32} {K : Int32 → hx_M → Prop} (hp : p < n) (hn : n ≤ 16) (h : CB n s0 m0 b pl pk m) (hx : x = if y then 1 else 0) (hcost : cost = if y then m.1 7 5 else m.1 7 3)
    (k1 : cost ≤ b.1 3 p → ∀ m', CB n s0 m0 (htal (hx_sI b 3 p (b.1 3 p - cost)) p (if y then 4 else 5)) pl pk m' → K 1 m') (k0 : ¬ cost ≤ b.1 3 p → ∀ m', CB n s0 m0 (htal b p 3) pl pk m' → K 0 m') : wX10_pays m (Int32.ofNat p) x K := by
  have vp : vp_in (Int32.ofNat p) 16 := n32_in (by omega) (by omega)
  have e3 : m.1 12 p = b.1 3 p := h.2.2.1 p hp
  have main : ∀ z, (z = 0 ↔ y = false) → wX10_pays_J15 K (Int32.ofNat p) z cost m := by
    intro z hz
    unfold wX10_pays_J15 wX10_pays_J70
    rw [n32_nat (by omega), e3]
    refine ⟨vp, fun c => ⟨vp, vp, fun z0 => ?_, fun z0 => ?_⟩, fun c => ?_⟩
    · have := hz.mp z0
      subst this
      exact tellC (i := 5) (by omega) (by omega) (k1 c _ ((h.coin).tal hp (by decide)))
    · have : y = true := by
        cases y
        · exact absurd (hz.mpr rfl) z0
        · rfl
      subst this
      exact tellC (i := 4) (by omega) (by omega) (k1 c _ ((h.coin).tal hp (by decide)))
    · exact tellC (i := 3) (by omega) (by omega) (k0 c _ (h.tal hp (by omega)))
  unfold wX10_pays
  cases y
  · subst hx
    subst hcost
    exact sel0 (main _ (by simp))
  · subst hx
    subst hcost
    exact sel1 (main _ (by simp))
theorem dressT {K : Int32 → hx_M → Prop} {m2 : hx_M} (hB : CB a.1.1 a.1.2.1 m0 (hs_ask (16 * (a.1.2.1 + 1) + p) p b) p (p + 1) m2) (f72 : m2.1 7 = m0.1 7) (w : WF 300 a) (h73 : m0.1 7 3 = a.2.1 12 0) (h74 : m0.1 7 4 = a.2.1 12 1) (h75 : m0.1 7 5 = a.2.1 12 2) (hp : p < a.1.1) (hok : ∀ r ∈ l, hl_okR r) (e2 : m2.1 21 5 = Int32.ofNat (hs_w a l p b).2)
    (k : ∀ m', CB a.1.1 a.1.2.1 m0 (hs_do a l p b).1 p (p + 1) m' → K (hs_do a l p b).2 m') : ((hs_w a l p b).1 ≠ a.2.1 6 (16 * a.1.2.1 + p) → (((m2.1 21 5) ≠ 0 → (wX10_dress_J186 Λ K (Int32.ofNat p) (a.2.1 6 (16 * a.1.2.1 + p)) (hs_w a l p b).1 (Int32.ofNat p) 11 m2)) ∧ ((m2.1 21 5) = 0 → (wX10_dress_J186 Λ K (Int32.ofNat p) (a.2.1 6 (16 * a.1.2.1 + p)) (hs_w a l p b).1 (Int32.ofNat p) 10 m2)))) ∧ ((hs_w a l p b).1 = a.2.1 6 (16 * a.1.2.1 + p) → (wX4_tell m2 (Int32.ofNat p) 12 (fun m158_27 => wX10_dress_J230_29 Λ K (Int32.ofNat p) (a.2.1 6 (16 * a.1.2.1 + p)) m158_27))) := by
  have hn := w.n
  have vp : vp_in (Int32.ofNat p) 16 := n32_in (by omega) (by omega)
  have ews : hw_wish a l p a.1.2.1 (hg_coin (b.1 3 p) (b.1 1 p)) (b.1 4 p) (hg_ch (b.2 0 0)) = hs_w a l p b := rfl
  have dos : hs_do a l p b = hs_do a l p b := rfl
  conv at dos => rhs; unfold hs_do
  by_cases c1 : (hs_w a l p b).1 = a.2.1 6 (16 * a.1.2.1 + p)
  · rw [if_pos c1] at dos
    refine selE c1 (tellC (i := 2) (by omega) (by omega) ?_)
    unfold wX10_dress_J230_29
    refine ⟨vp, vp, ?_⟩
    have hT := hB.tal (i := 2) hp (by omega)
    have e4 : (hx_sI m2 14 (6 * p + 2) (m2.1 14 (6 * p + 2) + 1)).1 13 p = b.1 4 p := by
      rw [hT.2.2.2.1 p hp]; simp [htal, hs_ask, hm_sI, hm_sL1]
    rw [n32_nat (by omega), e4]
    rw [dos] at k
    exact k _ hT.worn
  · rw [if_neg c1] at dos
    refine selN c1 ?_
    have J : ∀ (i : Nat), i < 2 → i = (if (hs_w a l p b).2 = 0 then 0 else 1) → wX10_dress_J186 Λ K (Int32.ofNat p) (a.2.1 6 (16 * a.1.2.1 + p)) (hs_w a l p b).1 (Int32.ofNat p) (Int32.ofNat (i + 10)) m2 := by
      intro i hi ei
      unfold wX10_dress_J186
      refine tellC (by omega) (by omega) ?_
      rintro x rfl
      have hT := hB.tal (i := i) hp (by omega)
      have f73 : (hx_sI m2 14 (6 * p + i) (m2.1 14 (6 * p + i) + 1)).1 7 = m0.1 7 := by rw [sIk (by omega), f72]
      rw [f73, h74]
      revert hT f73
      generalize (hx_sI m2 14 (6 * p + i) (m2.1 14 (6 * p + i) + 1)) = m3
      intro hT f73
      have h3 : (htal (hs_ask (16 * (a.1.2.1 + 1) + p) p b) p i).1 3 p = hg_coin (b.1 3 p) (b.1 1 p) := by simp [htal, hs_ask, hm_sI]
      have h4 : (htal (hs_ask (16 * (a.1.2.1 + 1) + p) p b) p i).1 4 p = b.1 4 p := by simp [htal, hs_ask, hm_sI, hm_sL1]
      have pay : ∀ (x : Int32) (y : Bool), x = (if y then 1 else 0) → (y = true ↔ hs_seam a l p b) → wX10_dress_J211 Λ K (Int32.ofNat p) (a.2.1 6 (16 * a.1.2.1 + p)) (hs_w a l p b).1 (Int32.ofNat p) x m3 := by
        intro x y hx hy
        unfold wX10_dress_J211
        have ecost : (if y then m3.1 7 5 else m3.1 7 3) = hs_cost a l p b := by
          rw [f73, h73, h75]
          unfold hs_cost
          by_cases c2 : hs_seam a l p b
          · rw [if_pos (hy.mpr c2), if_pos c2]
          · rw [if_neg (fun z => c2 (hy.mp z)), if_neg c2]
        have e45 : (if y then 4 else 5) = (if hs_seam a l p b then 4 else 5) := by
          by_cases c2 : hs_seam a l p b
          · rw [if_pos (hy.mpr c2), if_pos c2]
          · rw [if_neg (fun z => c2 (hy.mp z)), if_neg c2]
        refine paysC hp hn hT hx ecost.symm (fun hle m4 h4' => ?_) (fun hle m4 h4' => ?_)
        · rw [h3] at hle h4'
          refine sel1 ⟨vp, ?_⟩
          rw [if_neg (not_not_intro hle), ← ei, ← e45] at dos
          rw [n32_nat (by omega)]
          rw [dos] at k
          exact k _ h4'.worn
        · rw [h3] at hle
          refine sel0 ?_
          unfold wX10_dress_J230
          refine ⟨vp, vp, ?_⟩
          rw [if_pos hle, ← ei] at dos
          have e4 : m4.1 13 p = b.1 4 p := by rw [h4'.2.2.2.1 p hp]; simpa [htal, hm_sI] using h4
          rw [n32_nat (by omega), e4]
          rw [dos] at k
          exact k _ h4'.worn
      refine ⟨fun z => pay 0 false rfl ⟨fun z2 => by simp at z2, fun z2 => absurd z z2⟩, fun z => pay 1 true rfl ⟨fun _ => z, fun _ => rfl⟩⟩
    rw [e2]
    by_cases c3 : (hs_w a l p b).2 = 0
    · rw [c3]
      exact selE rfl (J 0 (by omega) (by rw [if_pos c3]))
    · refine selN (fun z => c3 ?_) (J 1 (by omega) (by rw [if_neg c3]))
      have := wish_verb (a := a) (l := l) (p := p) (t := a.1.2.1) (coin := hg_coin (b.1 3 p) (b.1 1 p)) (worn := b.1 4 p) (chance := hg_ch (b.2 0 0)) hok
      rw [ews] at this
      exact (n32_eq (b := 0) (by omega) (by omega)).mp z
theorem noteC {s0 : Nat} {m : hx_M} {c w g : Int32} {K : hx_M → Prop} (hp : p < 16) (hs : s0 ≤ 300) (k : K (hx_sI m 18 (16 * s0 + p) ((((c <<< ((9 : Int32) &&& 31)) ||| w) <<< ((7 : Int32) &&& 31)) ||| g))) : wX3_noteAsked m (Int32.ofNat p) (Int32.ofNat s0) c w g K := by
  unfold wX3_noteAsked
  rintro x rfl
  rw [idxC, n32_nat (by omega)]
  exact ⟨n32_in (by omega) (by omega), k⟩
theorem dressC {K : Int32 → hx_M → Prop} {lc : Nat} (F : cF Λ) (h : CB a.1.1 a.1.2.1 m0 b p p m) (hc : CWp a m0) (w : WF 300 a) (hs : a.1.2.1 < 300) (h77 : m0.1 7 7 = Int32.ofNat (a.1.2.1 + 1)) (h73 : m0.1 7 3 = a.2.1 12 0) (h74 : m0.1 7 4 = a.2.1 12 1) (h75 : m0.1 7 5 = a.2.1 12 2) (r : BR a p b) (hp : p < a.1.1) (hl : hl_LC Λ m0 f l) (hlc : Λ.2.1 6 f = some lc) (hl16 : l.length ≤ 16) (hok : ∀ r ∈ l, hl_okR r)
    (k : ∀ m', CB a.1.1 a.1.2.1 m0 (hs_do a l p b).1 p (p + 1) m' → K (hs_do a l p b).2 m') : wX10_dress Λ m lc (Int32.ofNat p) K := by
  have hn := w.n
  have vp : vp_in (Int32.ofNat p) 16 := n32_in (by omega) (by omega)
  have hm := h.mid hc w
  obtain ⟨r1, r2, r3, r4⟩ := r
  obtain ⟨r2c, r2w⟩ := r2 p hp
  have hpu : 0 ≤ b.1 1 p ∧ b.1 1 p ≤ 99 := by rw [r4]; exact (w.2.2.1 p hp).2.1
  obtain ⟨c, hc1, ec⟩ := coin_rng r2c hpu
  obtain ⟨wn, ew, hwn⟩ := n32_of (hi := a.1.2.1 + 1) r2w.1 r2w.2 (by omega)
  obtain ⟨g, hg, eg⟩ := ch_rng (b.2 0 0)
  have e12 : m.1 12 p = b.1 3 p := h.2.2.1 p hp
  have e13 : m.1 13 p = b.1 4 p := h.2.2.2.1 p hp
  have e10 : m.1 10 p = b.1 1 p := by rw [hm.purse hp, r4]
  have e7 : m.2 7 6 = b.2 0 0 := h.2.1
  have f7 : m.1 7 = m0.1 7 := h.1.1 7 (by omega) (by omega) (by omega) (by omega) (by omega) (by omega)
  unfold wX10_dress
  rw [n32_nat (by omega), e12, e13, e10, e7, f7, h77]
  intro x1 hx1
  obtain rfl : x1 = hg_z (b.2 0 0) := hx1
  intro x2 hx2
  obtain rfl : x2 = hg_x (b.2 0 0) := hx2
  refine ⟨by decide, ?_⟩
  intro x3 hx3
  obtain rfl : x3 = hg_ch (b.2 0 0) := hx3
  refine ⟨vp, vp, ?_⟩
  rintro x6 rfl
  have ec0 : (if b.1 3 p + b.1 1 p < 9999 then b.1 3 p + b.1 1 p else 9999) = hg_coin (b.1 3 p) (b.1 1 p) := rfl
  rw [ec0]
  refine ⟨vp, vp, ?_⟩
  rintro x9 rfl
  refine ⟨vp, ?_⟩
  rw [sIe]
  refine noteC (by omega) (by omega) ?_
  have hA := h.ask ec ew eg hc1 (by omega) (by omega)
  revert hA
  generalize (hx_sI (hx_sI (hx_sL m 7 6 (hg_z (b.2 0 0))) 12 p (hg_coin (b.1 3 p) (b.1 1 p))) 18 (16 * (a.1.2.1 + 1) + p) ((((hg_coin (b.1 3 p) (b.1 1 p) <<< ((9 : Int32) &&& 31)) ||| b.1 4 p) <<< ((7 : Int32) &&& 31)) ||| hg_ch (b.2 0 0))) = m1
  intro hA
  have hm1 := hA.mid hc w
  have g7 : m1.1 7 = m0.1 7 := hA.1.1 7 (by omega) (by omega) (by omega) (by omega) (by omega) (by omega)
  have g12 : m1.1 12 p = hg_coin (b.1 3 p) (b.1 1 p) := by rw [hA.2.2.1 p hp]; simp [hs_ask, hm_sI]
  have g13 : m1.1 13 p = b.1 4 p := by rw [hA.2.2.2.1 p hp]; simp [hs_ask, hm_sI, hm_sL1]
  show wX3_lengthOf m1 (Int32.ofNat p) (m1.1 7 7 - 1) _
  rw [g7, h77, n32_sub1 (by omega), Nat.add_sub_cancel]
  refine lenCp hm1 w (Nat.le_refl _) hp ⟨vp, vp, ?_⟩
  rw [g12, g13]
  refine wishCp F hm1 w (Nat.le_refl _) hp ?_ hlc hl16 hok (fun m2 o2 e2 => ?_)
  · obtain ⟨lc', cc, len, b1, b2, b3, b4, b5, b6, b7, b8, b9, b10, b11⟩ := hl
    have hk : ∀ k, 93 ≤ k → m1.1 k = m0.1 k := fun k hk => hA.1.1 k (by omega) (by omega) (by omega) (by omega) (by omega) (by omega)
    exact ⟨lc', cc, len, b1, b2, b3, b4, b5, b6, b7, b8, b9, by rw [hk lc' b2]; exact b10, hl_C.fr (hk cc b4) b11⟩
  · exact dressT (hA.oR o2) (by rw [o2.1 7 (by omega), g7]) w h73 h74 h75 hp hok e2 k
end DR
