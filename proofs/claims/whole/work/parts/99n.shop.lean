/-! layer 2: shop, whole -/
section KN
variable {W : Nat → Nat} {n kk : Nat} {m : hx_M}
theorem ShX_F {F G : Nat} {X : Nat → Nat} (hn : n ≤ 16) (hW : ∀ p, p < n → W p ≤ 60) (hF : 100000 ≤ F) (hG : 100000 ≤ G) (hk1 : 1 ≤ kk) (hk : kk ≤ 6) : ∀ t, t ≤ kk - 1 → ShX W n F kk X t → ShX W n G kk X t ∧ ∀ i, i ≤ t → X i + (kk - 1 - i) ≤ 60
  | 0, _, h => by
    obtain ⟨q1, q2⟩ := Am2_F (G := G) hn hW hF hG (by omega) (by omega) (fun b _ hb => up_le hn hb) h.1
    exact ⟨⟨q2, fun j hj => by omega⟩, fun i hi => by obtain rfl : i = 0 := (by omega); exact q1⟩
  | t + 1, ht, h => by
    obtain ⟨p1, p2⟩ := ShX_F hn hW hF hG hk1 hk t (by omega) ⟨h.1, fun j hj => h.2 j (by omega)⟩
    have hx := p2 t (Nat.le_refl _)
    obtain ⟨q1, q2⟩ := Am2_F (G := G) hn hW hF hG (by omega) (by omega) (fun b _ hb => bt_le hn hW hb) (h.2 t (by omega))
    refine ⟨⟨p1.1, fun j hj => ?_⟩, fun i hi => ?_⟩
    · by_cases c : j = t
      · subst c; exact q2
      · exact p1.2 j (by omega)
    · by_cases c : i = t + 1
      · subst c; exact q1
      · exact p2 i (by omega)
theorem shop_L52 {v2 : Int32} {K : Int32 → hx_M → Prop} {K1 : Int32 → Int32 → Prop} (hn : n ≤ 16) (hW : ∀ p, p < n → W p ≤ 60) (hk1 : 1 ≤ kk) (hk : kk ≤ 6) (h : BTb W n m) (t : TBl W n 1000000 89 kk 0 m) (k : ∀ x, Am2 (fun b => sh_up W n b + sh_R W n 1000000 (kk - 1) b) 0 60 x → K1 (Int32.ofNat x) (Int32.ofNat (sh_up W n x + sh_R W n 1000000 (kk - 1) x))) : ∀ (c best least : Nat), c ≤ 61 → least ≤ 1000000 → best ≤ 60 → (∀ j, c ≤ j → j ≤ 60 → least ≤ sh_up W n j + sh_R W n 1000000 (kk - 1) j) → (least = 1000000 ∨ (c ≤ best ∧ least = sh_up W n best + sh_R W n 1000000 (kk - 1) best ∧ ∀ j, c ≤ j → j < best → least < sh_up W n j + sh_R W n 1000000 (kk - 1) j)) → wX12_shop_L52 m (Int32.ofNat kk) v2 K K1 (c + 1) (Int32.ofNat best) (Int32.ofNat least) (Int32.ofNat c - 1) := by
  intro c
  induction c with
  | zero =>
    intro best least hc hl hb h1 h2
    unfold wX12_shop_L52
    refine selT (by decide) ?_
    have b1 := up_le (W := W) (n := n) hn (b := 0) (by omega)
    have b2 := R_small (W := W) (n := n) (F := 1000000) (q := kk - 1) (b := 0) hn hW (by omega) (by omega) (by omega)
    have b3 := h1 0 (by omega) (by omega)
    rcases h2 with h2 | ⟨a1, a2, a3⟩
    · omega
    · rw [a2]
      refine k best ⟨by omega, hb, fun j _ j2 => ⟨?_, fun j3 => ?_⟩⟩
      · show sh_up W n best + sh_R W n 1000000 (kk - 1) best ≤ sh_up W n j + sh_R W n 1000000 (kk - 1) j
        have := h1 j (by omega) j2; omega
      · show sh_up W n best + sh_R W n 1000000 (kk - 1) best < sh_up W n j + sh_R W n 1000000 (kk - 1) j
        have := a3 j (by omega) j3; omega
  | succ c ih =>
    intro best least hc hl hb h1 h2
    unfold wX12_shop_L52 wX12_shop_J98
    rw [n32_sub1 (by omega), Nat.add_sub_cancel, n32_sub1 (by omega), idx61', n32_nat (by omega), t.1 (kk - 1) c (by omega) (by omega), m1i]
    have hg := up_le (W := W) (n := n) hn (b := c) (by omega)
    have hr := R_le (W := W) hn hW (F := 1000000) (m := kk - 1) (a := c) (by omega) (by omega) (by omega)
    refine selF (n32_nn (by omega)) (bt_up hn h (by omega) ⟨n32_in (by omega) (by omega), ?_⟩)
    rintro x rfl
    rw [n32_add, n32_le (by omega) (by omega)]
    refine ⟨fun z => ih c _ (by omega) (by omega) (by omega) (fun j j1 j2 => ?_) (Or.inr ⟨Nat.le_refl _, rfl, fun j j1 j2 => by omega⟩), fun z => ih best least (by omega) hl hb (fun j j1 j2 => ?_) ?_⟩
    · by_cases e : j = c
      · rw [e]; exact Nat.le_refl _
      · have := h1 j (by omega) j2; omega
    · by_cases e : j = c
      · rw [e]; omega
      · exact h1 j (by omega) j2
    · rcases h2 with h2 | ⟨a1, a2, a3⟩
      · exact Or.inl h2
      · refine Or.inr ⟨by omega, a2, fun j j1 j2 => ?_⟩
        by_cases e : j = c
        · rw [e]; omega
        · exact a3 j (by omega) j2
theorem shop_L132 {x y i : Nat} {v2 : Int32} {K : Int32 → hx_M → Prop} {K1 : Int32 → Prop} (hn : n ≤ 16) (hk : kk ≤ 6) (hi1 : 1 ≤ i) (hi : i < kk) (h : BTb W n m) (t : TBl W n 1000000 89 kk 0 m) (hx : x ≤ 60) (hy : y ≤ 60) (hW : ∀ p, p < n → W p ≤ 60) (e : sh_bt W n x y + sh_R W n 1000000 (kk - 1 - i) y = sh_R W n 1000000 (kk - i) x) (ne : ∀ b, x < b → b < y → sh_bt W n x b + sh_R W n 1000000 (kk - 1 - i) b ≠ sh_R W n 1000000 (kk - i) x) (k : K1 (Int32.ofNat y)) : ∀ (r b : Nat), b + r = y → x < b → wX12_shop_L132 m (Int32.ofNat kk) v2 (Int32.ofNat x) (Int32.ofNat i) K K1 (r + 1) (Int32.ofNat b) := by
  have hrr := fun q b (hq : q ≤ 6) (hb : b ≤ 60) => R_le (W := W) (n := n) hn hW (F := 1000000) (m := q) (a := b) (by omega) hq hb
  intro r
  induction r with
  | zero =>
    intro b eb hb
    obtain rfl : b = y := by omega
    unfold wX12_shop_L132
    rw [n32_sub1 (by omega), n32_subn (by omega), n32_subn (by omega), idx61', idx61', n32_nat (by omega), n32_nat (by omega), t.1 _ b (by omega) hy, t.1 _ x (by omega) hx]
    refine bt_bt hn h hx hy ⟨n32_in (by omega) (by omega), ?_⟩
    rintro v rfl
    refine ⟨n32_in (by omega) (by omega), ?_⟩
    rintro v rfl
    rw [n32_add, e]
    exact selT rfl k
  | succ r ih =>
    intro b eb hb
    unfold wX12_shop_L132
    rw [n32_sub1 (by omega), n32_subn (by omega), n32_subn (by omega), idx61', idx61', n32_nat (by omega), n32_nat (by omega), t.1 _ b (by omega) (by omega), t.1 _ x (by omega) hx, n32_add1]
    refine bt_bt hn h hx (by omega) ⟨n32_in (by omega) (by omega), ?_⟩
    rintro v rfl
    refine ⟨n32_in (by omega) (by omega), ?_⟩
    rintro v rfl
    rw [n32_add]
    have q1 := hrr (kk - 1 - i) b (by omega) (by omega)
    have q2 := hrr (kk - i) x (by omega) hx
    have q3 := bt_le hn hW (a := x) (b := b) (by omega)
    exact selF (fun z => ne b hb (by omega) ((n32_eq (by omega) (by omega)).mp z)) (ih (b + 1) (by omega) (by omega))
theorem shop_L117 {X : Nat → Nat} {j : Nat} {v2 : Int32} {K : Int32 → hx_M → Prop} (hn : n ≤ 16) (hW : ∀ p, p < n → W p ≤ 60) (hk1 : 1 ≤ kk) (hk : kk ≤ 6) (h : BTb W n m) (t : TBl W n 1000000 89 kk 0 m) (hj : j < kk) (ev : v2 - 10 = Int32.ofNat j) (hX : ShX W n 1000000 kk X (kk - 1)) (hf : ∀ i, i ≤ kk - 1 → X i + (kk - 1 - i) ≤ 60) (k : K (Int32.ofNat (X j)) m) : ∀ (r i : Nat), i + r = j → wX12_shop_L117 m (Int32.ofNat kk) v2 K (r + 1) (Int32.ofNat (X i)) (Int32.ofNat (i + 1)) := by
  intro r
  induction r with
  | zero =>
    intro i e
    obtain rfl : i = j := by omega
    unfold wX12_shop_L117
    rw [ev]
    exact selT ((n32_lt (by omega) (by omega)).mpr (by omega)) k
  | succ r ih =>
    intro i e
    unfold wX12_shop_L117
    rw [ev]
    have ekk : kk - (i + 1) = kk - 1 - (i + 1) + 1 := by omega
    have am := hX.2 i (by omega)
    have f1 := hf i (by omega)
    have f2 := hf (i + 1) (by omega)
    have hr1 := (R_ok (F := 1000000) (G := 1000000) hn hW (by omega) (by omega) (kk - (i + 1)) (X i) (by omega) (by omega)).1 (by omega)
    obtain ⟨m1, m2, m3⟩ := mn_le (F := 1000000) (g := fun b => sh_bt W n (X i) b + sh_R W n 1000000 (kk - 1 - (i + 1)) b) (60 - X i) (X i + 1) 1000000
    have eR : sh_R W n 1000000 (kk - (i + 1)) (X i) = sh_mn 1000000 (fun b => sh_bt W n (X i) b + sh_R W n 1000000 (kk - 1 - (i + 1)) b) (60 - X i) (X i + 1) 1000000 := by
      rw [ekk]; rfl
    rw [← eR] at m1 m2 m3
    have ey : sh_bt W n (X i) (X (i + 1)) + sh_R W n 1000000 (kk - 1 - (i + 1)) (X (i + 1)) = sh_R W n 1000000 (kk - (i + 1)) (X i) := by
      have q1 : sh_R W n 1000000 (kk - (i + 1)) (X i) ≤ sh_bt W n (X i) (X (i + 1)) + sh_R W n 1000000 (kk - 1 - (i + 1)) (X (i + 1)) := m2 (X (i + 1)) am.1 (by have := am.2.1; omega)
      rcases m3 with m3 | ⟨b, b1, b2, b3⟩
      · omega
      · have b3' : sh_R W n 1000000 (kk - (i + 1)) (X i) = sh_bt W n (X i) b + sh_R W n 1000000 (kk - 1 - (i + 1)) b := b3
        have q2 : sh_bt W n (X i) (X (i + 1)) + sh_R W n 1000000 (kk - 1 - (i + 1)) (X (i + 1)) ≤ sh_bt W n (X i) b + sh_R W n 1000000 (kk - 1 - (i + 1)) b := (am.2.2 b b1 (by omega)).1
        omega
    rw [n32_add1 (a := X i)]
    refine selF (fun z => by have := (n32_lt (by omega) (by omega)).mp z; omega) ⟨X (i + 1) - (X i + 1) + 1, ?_⟩
    have a1 := am.1
    have L := shop_L132 (v2 := v2) (K := K) (K1 := fun v7 => wX12_shop_L117 m (Int32.ofNat kk) v2 K (r + 1) v7 (Int32.ofNat (i + 1) + 1)) hn hk (i := i + 1) (by omega) (by omega) h t (x := X i) (y := X (i + 1)) (by omega) (by omega) hW ey (fun b b1 b2 => ?_) (by rw [n32_add1]; exact ih (i + 1) (by omega)) (X (i + 1) - (X i + 1)) (X i + 1) (by omega) (by omega)
    · exact L
    · have q2 : sh_bt W n (X i) (X (i + 1)) + sh_R W n 1000000 (kk - 1 - (i + 1)) (X (i + 1)) < sh_bt W n (X i) b + sh_R W n 1000000 (kk - 1 - (i + 1)) b := (am.2.2 b (by omega) (by omega)).2 b2
      omega
end KN
theorem op_shop (Λ : hx_L) (μ : hx_M) (a1 a2 : Int32) (h : hI Λ μ) : wL_30 Λ μ a1 a2 hI := by
  obtain ⟨hF, hM, h15, a, ls, fo, is, w, hc, hm, ht, hl, hi⟩ := id h
  have hn := w.n
  have law : ∀ K : Option Nat → Prop, (∀ o, (fo = none → o = none) → (∀ f, fo = some f → o = Λ.2.1 6 f) → K o) → wX11_lawInForce Λ μ K := fun K hk => by
    cases fo with
    | none => exact lawC0 hl (hk none (fun _ => rfl) (fun f z => by simp at z))
    | some f => exact lawC1 hl (hk _ (fun z => by simp at z) (fun g z => by simp at z; rw [z]))
  unfold wL_30 wX11_shop wX11_shop_J32 wX11_shop_J36 wX11_shop_J37 wX11_shop_J37_13
  refine law _ (fun o ho1 ho2 => ?_)
  by_cases h1 : 1 ≤ a1 ∧ a1 ≤ 6
  · obtain ⟨kk, rfl, hk6⟩ := n32_of (hi := 6) (Int32.le_trans (by decide) h1.1) h1.2 (by omega)
    have hk1 : 1 ≤ kk := (n32_le (a := 1) (by omega) (by omega)).mp h1.1
    have e9 : 9 + Int32.ofNat kk = Int32.ofNat (9 + kk) := by rw [← n32_add]; rfl
    -- behind the guards
    have body : (a2 = 0 ∨ ∃ j, j < kk ∧ a2 = Int32.ofNat (10 + j)) → (∀ K2 : Int32 → hx_M → Prop, (∀ m, wX12_shop_J27 K2 (Int32.ofNat kk) a2 m → wX12_shop m (Int32.ofNat kk) a2 K2)) → ((o = none → wX12_shop μ (Int32.ofNat kk) a2 (fun q m1 => -1 = q ∧ hI Λ m1)) ∧ (∀ k45, o = some k45 → (wX4_isEmpty μ (fun r55 => (r55 = 0 → (wX7_gatherWishes Λ μ k45 (fun m68 => wX7_order m68 (Int32.ofNat kk) (fun m76 => (a2 ≠ 0 → (vp_in (a2 - 10) 6 ∧ wX12_shop m76 (Int32.ofNat kk) a2 (fun q m1 => m76.1 47 ((a2 - 10).toNatClampNeg) = q ∧ hI Λ m1))) ∧ (a2 = 0 → (wX12_shop m76 (Int32.ofNat kk) a2 (fun q m1 => m76.1 43 5 = q ∧ hI Λ m1))))))) ∧ (¬ (r55 = 0) → (wX12_shop μ (Int32.ofNat kk) a2 (fun q m1 => -1 = q ∧ hI Λ m1))))))) := by
      intro ha2 guard
      refine ⟨fun z => ?_, fun kc z => ?_⟩
      · have hfo : fo = none := by
          cases fo with
          | none => rfl
          | some f =>
            obtain ⟨l, lc, sm, elc, _⟩ := hl.force hF h15
            rw [ho2 f rfl, elc] at z
            simp at z
        subst hfo
        refine guard _ μ ?_
        unfold wX12_shop_J27
        exact mayTryN hm w (Or.inr hl.2.2.2.1.2.2) (seln0 ⟨rfl, h⟩)
      · by_cases h0 : a.1.1 = 0
        · refine t_emptyY hc h0 (sel1 (guard _ μ ?_))
          unfold wX12_shop_J27
          exact mayTryN hm w (Or.inl h0) (seln0 ⟨rfl, h⟩)
        · have h0' : 0 < a.1.1 := by omega
          cases fo with
          | none => rw [ho1 rfl] at z; simp at z
          | some f =>
            obtain ⟨l, lc, sm, elc, hC, hMk⟩ := hl.force hF h15
            rw [ho2 f rfl, elc] at z
            obtain rfl : lc = kc := by simpa using z
            have hW : ∀ p, p < a.1.1 → shW a l p ≤ 60 := fun p hp => (shW_e w hp hC.2.2.2.2.2).2
            refine t_emptyN hc w.up h0' (sel0 (gatherWC hc w hC (fun m1 o1 t1 => orderC hn hW hk1 hk6 t1 (fun m2 X o2 hX h47 h43 => ?_))))
            have o3 : offH μ m2 := ⟨fun k a b => (o2.1 k a b).trans (o1.1 k a b), o2.2.trans o1.2⟩
            have k1 := o3.keep
            have c2 := hc.oH o3
            have hm2 : MW a m2 := hm.kC k1
            have hM2 : LKM m2 sm f l := hMk.fr (by rw [k1.a 49 (by omega)]) (fun k a b => k1.a k (by omega))
            obtain ⟨hXF, hXf⟩ := ShX_F (G := 1000000) hn hW (by omega) (by omega) hk1 hk6 (kk - 1) (Nat.le_refl _) hX
            have ref : ∀ v : Int32, (a2 = 0 → v = Int32.ofNat (sh_up (shW a l) a.1.1 (X 0) + sh_R (shW a l) a.1.1 1000000 (kk - 1) (X 0))) → (∀ j, j < kk → a2 = Int32.ofNat (10 + j) → v = Int32.ofNat (X j)) → wX12_shop m2 (Int32.ofNat kk) a2 (fun q m1 => v = q ∧ hI Λ m1) := by
              intro v v0 v1
              refine guard _ m2 ?_
              unfold wX12_shop_J27
              refine mayTryY hm2 w h0' hM2 (seln1 (shopsM hm2 w hM2 hk6 (fun m3 o4 b3 t3 => ?_)))
              have fin : hI Λ m3 := hI.q (a := a) hF hM h15 ht hl hi k1 o4.keep w (c2.kM o4.keep) (hm2.oY o4)
              have e60 : (60 : Int32) = Int32.ofNat 61 - 1 := rfl
              have eF : (1000000 : Int32) = Int32.ofNat 1000000 := rfl
              rw [e60, eF]
              refine ⟨_, shop_L52 hn hW hk1 hk6 b3 t3 (fun x hx => ?_) 61 0 1000000 (Nat.le_refl _) (Nat.le_refl _) (by omega) (fun j j1 j2 => by omega) (Or.inl rfl)⟩
              have ex : x = X 0 := hx.uq hXF.1
              subst ex
              refine ⟨fun z2 => ?_, fun z2 => ⟨v0 z2, fin⟩⟩
              rcases ha2 with ha2 | ⟨j, hj, rfl⟩
              · exact absurd ha2 z2
              · have ev : Int32.ofNat (10 + j) - 10 = Int32.ofNat j := by
                  have : (10 : Int32) = Int32.ofNat 10 := rfl
                  rw [this, n32_subn (by omega)]
                  congr 1
                  omega
                exact ⟨j + 1, shop_L117 hn hW hk1 hk6 b3 t3 hj ev hXF hXf ⟨v1 j hj rfl, fin⟩ j 0 (by omega)⟩
            have hx0 := hXf 0 (by omega)
            have hR := ((R_ok (F := 1048576) (G := 1000000) hn hW (by omega) (by omega) (kk - 1) (X 0) (by omega) (by omega)).1 (by omega)).1
            refine ⟨fun z2 => ?_, fun z2 => ?_⟩
            · rcases ha2 with ha2 | ⟨j, hj, rfl⟩
              · exact absurd ha2 z2
              · have ev : Int32.ofNat (10 + j) - 10 = Int32.ofNat j := by
                  have : (10 : Int32) = Int32.ofNat 10 := rfl
                  rw [this, n32_subn (by omega)]
                  congr 1
                  omega
                rw [ev, n32_nat (by omega), h47 j hj]
                refine ⟨n32_in (by omega) (by omega), ref _ (fun z3 => absurd z3 z2) (fun j' hj' e => ?_)⟩
                have := (n32_eq (by omega) (by omega)).mp e
                rw [show j = j' by omega]
            · rw [h43, hR]
              refine ref _ (fun _ => rfl) (fun j' hj' e => ?_)
              exfalso
              rw [z2] at e
              have := (n32_eq (a := 0) (by omega) (by omega)).mp e
              omega
    by_cases h2 : a2 = 0
    · refine t_withinY h1 (sel1 (selT h2 (sel1 (body (Or.inl h2) (fun K2 m g => ?_)))))
      unfold wX12_shop
      exact t_isInY h1 (sel1 (selT h2 g))
    · by_cases h3 : 10 ≤ a2 ∧ a2 ≤ 9 + Int32.ofNat kk
      · have h3' := h3
        rw [e9] at h3'
        obtain ⟨x, rfl, hx⟩ := n32_of (hi := 9 + kk) (Int32.le_trans (by decide) h3'.1) h3'.2 (by omega)
        have hx10 : 10 ≤ x := (n32_le (a := 10) (by omega) (by omega)).mp h3'.1
        refine t_withinY h1 (sel1 (selF h2 (t_withinY h3 (sel1 (sel1 (body (Or.inr ⟨x - 10, by omega, by rw [show 10 + (x - 10) = x by omega]⟩) (fun K2 m g => ?_)))))))
        unfold wX12_shop
        exact t_isInY h1 (sel1 (selF h2 (t_isInY h3 (sel1 g))))
      · refine t_withinY h1 (sel1 (selF h2 (t_withinN h3 (sel0 (sel0 ?_)))))
        unfold wX12_shop
        exact t_isInY h1 (sel1 (selF h2 (t_isInN h3 (sel0 ⟨rfl, h⟩))))
  · refine t_withinN h1 (sel0 (sel0 ?_))
    unfold wX12_shop
    exact t_isInN h1 (sel0 ⟨rfl, h⟩)
