/-! layer 2: trials, the reference, whole -/
theorem MW.fr' {a : hw_T} {μ m : hx_M} (h : MW a μ) (h0 : ∀ j, j ∈ [0, 1, 2, 3, 4, 5, 59] → m.1 49 j = μ.1 49 j) (hz : m.2 49 6 = μ.2 49 6) (hk : ∀ k, (50 ≤ k ∧ k ≤ 62 ∨ 85 ≤ k ∧ k ≤ 87) → m.1 k = μ.1 k) : MW a m := by
  unfold MW
  rw [h0 0 (by decide), h0 1 (by decide), h0 2 (by decide), h0 3 (by decide), h0 4 (by decide), h0 5 (by decide), h0 59 (by decide), hz, hk 50 (by omega), hk 51 (by omega), hk 52 (by omega), hk 53 (by omega), hk 54 (by omega), hk 55 (by omega), hk 56 (by omega), hk 57 (by omega), hk 58 (by omega), hk 59 (by omega), hk 60 (by omega), hk 61 (by omega), hk 62 (by omega), hk 85 (by omega), hk 86 (by omega), hk 87 (by omega)]
  exact h
section TN
variable {Λ : hx_L} {a : hw_T} {l : List hl_R} {f sm n ev ap lc : Nat} {told was : Int32} {m μ : hx_M}
theorem tries_L29 {K K1 : hx_M → Prop} (w : WF 200 a) (h0 : 0 < a.1.1) (hn : n ≤ 100) (hev : 1 ≤ ev ∧ ev ≤ 20) (hap : 1 ≤ ap) (hap2 : ap ≤ 100) (h1 : told = -1 ∨ 0 ≤ told ∧ told ≤ 99) (h2 : 0 ≤ was ∧ was ≤ 99) (hwas : a.2.1 11 a.1.2.1 = was) (hl : LKM μ sm f l) :
    ∀ (r t : Nat) (m : hx_M), t + r = n → MW (hw_W l (tr_mo told was ev) a t) m → offT μ m → m.1 49 48 = -1 → m.1 49 49 = -1 → (∀ m' t', t' ≤ n → MW (hw_W l (tr_mo told was ev) a t') m' → offT μ m' → ansM m' (rdF (alB (fun u q => (hw_W l (tr_mo told was ev) a u).2.1 6 (16 * (a.1.2.1 + u) + q)) a.1.1) ap r (t + 1)) → K1 m') → wX12_tries_L29 (Int32.ofNat n) (Int32.ofNat ev) told (Int32.ofNat ap) (Int32.ofNat a.1.2.1) was K K1 (r + 1) (Int32.ofNat (t + 1)) m := by
  have hs := w.s
  have hn16 := w.n
  have hok := hl.2.2.2.2.2
  intro r
  induction r with
  | zero =>
    intro t m e hc o h48 h49 k
    obtain rfl : t = n := by omega
    unfold wX12_tries_L29
    exact selT ((n32_lt (by omega) (by omega)).mpr (by omega)) (k m t (Nat.le_refl _) hc o ⟨h48, h49⟩)
  | succ r ih =>
    intro t m e hc o h48 h49 k
    have e1 := W_1 (l := l) (mo := tr_mo told was ev) (a := a) t
    have e2 := W_1 (l := l) (mo := tr_mo told was ev) (a := a) (t + 1)
    have es : (hw_W l (tr_mo told was ev) a t).1.2.1 = a.1.2.1 + t := by rw [e1]
    have hmo : ∀ t, ∀ u, u < t → 0 ≤ tr_mo told was ev u ∧ tr_mo told was ev u ≤ 99 := fun t u _ => mo_rng h1 h2 u
    have wt := W_WF (mo := tr_mo told was ev) w h0 hok t (by omega) (hmo t)
    unfold wX12_tries_L29
    have go : ∀ m2, MW (hw_mon (hw_W l (tr_mo told was ev) a t) (tr_mo told was ev t)) m2 → offT μ m2 → m2.1 49 48 = -1 → m2.1 49 49 = -1 → wX12_step m2 (fun m70 => ∃ n82, wX12_tries_L82 (Int32.ofNat n) (Int32.ofNat ev) told (Int32.ofNat ap) (Int32.ofNat a.1.2.1) was (Int32.ofNat (t + 1)) K (fun m => wX12_tries_L29 (Int32.ofNat n) (Int32.ofNat ev) told (Int32.ofNat ap) (Int32.ofNat a.1.2.1) was K K1 (r + 1) (Int32.ofNat (t + 1) + 1) m) n82 ((m70.1 49 1) - Int32.ofNat ap) m70) := by
      intro m2 c2 o2 g48 g49
      refine passM (a := hw_mon (hw_W l (tr_mo told was ev) a t) (tr_mo told was ev t)) (hl.oT o2) c2 (WF_money wt (mo_rng h1 h2 t)) (by show (hw_W l (tr_mo told was ev) a t).1.2.1 < 300; omega) (fun m3 o3 c3 => ?_)
      have c3' : MW (hw_W l (tr_mo told was ev) a (t + 1)) m3 := c3
      have s3 : m3.1 49 1 = Int32.ofNat (a.1.2.1 + (t + 1)) := by rw [c3'.s, e2]
      have n3 : m3.1 49 0 = Int32.ofNat a.1.1 := by rw [c3'.n, e2]
      have f48 : m3.1 49 48 = -1 := by rw [o3.2.1 48 (by omega) (by omega)]; exact g48
      have f49 : m3.1 49 49 = -1 := by rw [o3.2.1 49 (by omega) (by omega)]; exact g49
      rw [s3, n32_add1]
      refine ⟨t + 1 + 1, tries_L82 (s := a.1.2.1) (t := t + 1) (T := fun u q => (hw_W l (tr_mo told was ev) a u).2.1 6 (16 * (a.1.2.1 + u) + q)) (o := sbF (alB (fun u q => (hw_W l (tr_mo told was ev) a u).2.1 6 (16 * (a.1.2.1 + u) + q)) a.1.1 (t + 1)) ap (t + 1 + 1) (t + 1)) hn16 n3 s3 f48 f49 (by omega) hap hap2 (fun u q hu hq => ?_) (fun m' hm' ha => ?_) (t + 1 + 1) (t + 1) (Nat.le_refl _) (by omega) rfl⟩
      · rw [c3'.len (by rw [e2]; show a.1.2.1 + u ≤ a.1.2.1 + (t + 1); omega) (by rw [e2]; exact hq)]
        exact W_row w h0 hok (by omega) (t + 1) hu (by omega) (hmo _)
      · have cm : MW (hw_W l (tr_mo told was ev) a (t + 1)) m' ∧ offT μ m' := by
          rcases hm' with rfl | ⟨x, y, rfl⟩
          · exact ⟨c3', o2.oG o3⟩
          · exact ⟨(c3'.fr49 (by decide)).fr49 (by decide), ((o2.oG o3).sI (by omega)).sI (by omega)⟩
        cases hsb : sbF (alB (fun u q => (hw_W l (tr_mo told was ev) a u).2.1 6 (16 * (a.1.2.1 + u) + q)) a.1.1 (t + 1)) ap (t + 1 + 1) (t + 1) with
        | none =>
          rw [hsb] at ha
          refine ih (t + 1) m' (by omega) cm.1 cm.2 ha.1 ha.2 (fun m4 t4 h4 c4 o4 a4 => k m4 t4 h4 c4 o4 ?_)
          unfold rdF
          rw [hsb]
          exact a4
        | some u =>
          rw [hsb] at ha
          have fin : K1 m' := by
            refine k m' (t + 1) (by omega) cm.1 cm.2 ?_
            unfold rdF
            rw [hsb]
            exact ha
          have a1 : m'.1 49 48 = Int32.ofNat (t + 1) := ha.1
          unfold wX12_tries_L29
          rw [a1]
          exact ⟨fun _ => fin, fun _ => selN (n32_neg (by omega) (by decide)) fin⟩
    unfold wX12_tries_J66 wX12_tries_J69 wX12_tries_J69_9 wX12_tries_J140 wX12_tries_J140_13
    refine selF (fun z => by have := (n32_lt (by omega) (by omega)).mp z; omega) (selE h48 ⟨fun c => ?_, fun c => ⟨n32_ne0 (by omega) (by omega), ?_⟩⟩)
    · refine go m ?_ o h48 h49
      have em : tr_mo told was ev t = (hw_W l (tr_mo told was ev) a t).2.1 11 (hw_W l (tr_mo told was ev) a t).1.2.1 := by
        have e3 : tr_mo told was ev t = was := by unfold tr_mo; rw [if_pos c]
        rw [e3, es]
        cases t with
        | zero => exact hwas.symm
        | succ t' =>
          rw [W_mon w h0 hok (by omega) (hmo _)]
          unfold tr_mo
          rw [if_pos c]
      rw [em]
      unfold hw_mon
      rw [sI_self]
      exact hc
    · have hm2 : t / ev % 2 < 2 := Nat.mod_lt _ (by omega)
      rw [n32_sub1 (by omega), Nat.add_sub_cancel, n32_div (by omega) (by omega), n32_mod2 (Nat.lt_of_le_of_lt (Nat.div_le_self _ _) (by omega))]
      have go2 : ∀ v, v = tr_mo told was ev t → _ := fun v hv => go (hx_sI m 49 2 v) (by rw [hv]; exact MW_money hc _) (o.sI (Or.inl rfl)) (by rw [sIj (by omega)]; exact h48) (by rw [sIj (by omega)]; exact h49)
      refine ⟨fun z => go2 was ?_, fun z => go2 told ?_⟩
      · unfold tr_mo
        rw [if_neg c, if_neg (fun z2 => z (by rw [z2]; rfl))]
      · unfold tr_mo
        rw [if_neg c, if_pos ((n32_eq (b := 0) (by omega) (by omega)).mp z)]
/-- taken back: the world as it was -/
theorem back_MW {m0 m1 m2 m3 : hx_M} {mo : Nat → Int32} {t : Nat} (w : WF 200 a) (h0 : 0 < a.1.1) (hok : ∀ r ∈ l, hl_okR r) (ht : t ≤ 100) (hmo : ∀ u, u < t → 0 ≤ mo u ∧ mo u ≤ 99) (hc : MW a m0)
    (g1 : ∀ k, k ≠ 49 → k ≠ 78 → ¬ (85 ≤ k ∧ k ≤ 87) → m1.1 k = m0.1 k) (g78 : m1.1 78 0 = m0.1 49 1 ∧ m1.1 78 1 = m0.1 49 2) (g52 : ∀ p, p < 16 → m1.1 78 (2 + p) = m0.1 52 p ∧ m1.1 78 (18 + p) = m0.1 53 p) (g56 : ∀ j, j < 96 → m1.1 78 (34 + j) = m0.1 56 j) (gz : m1.2 49 47 = m0.2 49 6) (g49 : ∀ j, j ∈ [0, 3, 4, 5, 59] → m1.1 49 j = m0.1 49 j)
    (c2 : MW (hw_W l mo a t) m2) (o2 : offT m1 m2)
    (b1 : ∀ k, k ≠ 49 → k ≠ 52 → k ≠ 53 → k ≠ 56 → ¬ (85 ≤ k ∧ k ≤ 87) → m3.1 k = m2.1 k) (b49 : ∀ j, m3.1 49 j = if j = 1 then m2.1 78 0 else if j = 2 then m2.1 78 1 else m2.1 49 j) (bz : m3.2 49 6 = m2.2 49 47) (b52 : ∀ j, j < 16 → m3.1 52 j = m2.1 78 (2 + j) ∧ m3.1 53 j = m2.1 78 (18 + j)) (b56 : ∀ j, j < 96 → m3.1 56 j = m2.1 78 (34 + j))
    (bt : ∀ k, k < a.1.2.2 → m3.1 86 k = a.2.1 13 k ∧ m3.1 85 k = a.2.1 14 k ∧ m3.1 87 k = a.2.1 15 k) : MW a m3 := by
  have hs := w.s
  have hn16 := w.n
  have e1 := W_1 (l := l) (mo := mo) (a := a) t
  have fr := W_fr (mo := mo) w h0 hok t ht hmo
  have e78 : m2.1 78 = m1.1 78 := o2.1 78 (by omega) (by omega) (by omega) (by omega) (by omega)
  obtain ⟨h1, h2, h3, h4, h5, h6, h7, h8, h9, h10, h11⟩ := hc
  have d := c2
  have o49 : ∀ j, j ∈ [0, 3, 4, 5, 59] → m3.1 49 j = m0.1 49 j := fun j hj => by
    rw [b49, if_neg (by simp at hj; omega), if_neg (by simp at hj; omega), o2.2.1 j (by simp at hj; omega) (by simp at hj; omega) (by simp at hj; omega) (by simp at hj; omega) (by simp at hj; omega)]
    exact g49 j hj
  have same : ∀ k, 50 ≤ k → k ≤ 55 → k ≠ 52 → k ≠ 53 → m3.1 k = m0.1 k := fun k a b c d => by
    rw [b1 k (by omega) c d (by omega) (by omega), o2.1 k (by omega) (by omega) (by omega) (by omega) (by omega), g1 k (by omega) (by omega) (by omega)]
  have le1 : ∀ {t' : Nat}, t' ≤ a.1.2.1 → t' ≤ (hw_W l mo a t).1.2.1 := fun h => by rw [e1]; show _ ≤ a.1.2.1 + t; omega
  have lp : ∀ {p : Nat}, p < a.1.1 → p < (hw_W l mo a t).1.1 := fun h => by rw [e1]; exact h
  refine ⟨⟨?_, ?_, ?_⟩, ⟨?_, ?_, ?_, ?_⟩, fun p hp => ?_, fun k hk => ?_, fun t' p ht' hp => ?_, fun t' p t1 ht' hp => ?_, fun h hh => ?_, fun t' h ht' hh => ?_, ?_, fun t' ht' => ?_, bt⟩
  · rw [o49 0 (by decide)]; exact h1.1
  · rw [b49, if_pos rfl, e78, g78.1]; exact h1.2.1
  · rw [o49 59 (by decide)]; exact h1.2.2
  · rw [o49 3 (by decide)]; exact h2.1
  · rw [o49 4 (by decide)]; exact h2.2.1
  · rw [o49 5 (by decide)]; exact h2.2.2.1
  · rw [bz, o2.2.2.2 47 (by omega), gz]; exact h2.2.2.2
  · rw [same 50 (by omega) (by omega) (by omega) (by omega), same 51 (by omega) (by omega) (by omega) (by omega), same 54 (by omega) (by omega) (by omega) (by omega), (b52 p (by omega)).1, (b52 p (by omega)).2, e78, (g52 p (by omega)).1, (g52 p (by omega)).2]
    exact h3 p hp
  · rw [b56 k (by omega), e78, g56 k (by omega)]; exact h4 k hk
  · rw [b1 57 (by omega) (by omega) (by omega) (by omega) (by omega), d.len (le1 ht') (lp hp)]
    exact fr 6 _ (by omega) (by omega) (by omega) (by omega) (by omega) (by omega)
  · have := d.asked t1 (le1 ht') (lp hp)
    rw [b1 58 (by omega) (by omega) (by omega) (by omega) (by omega), b1 59 (by omega) (by omega) (by omega) (by omega) (by omega), b1 60 (by omega) (by omega) (by omega) (by omega) (by omega), this.1, this.2.1, this.2.2]
    exact ⟨fr 7 _ (by omega) (by omega) (by omega) (by omega) (by omega) (by omega), fr 8 _ (by omega) (by omega) (by omega) (by omega) (by omega) (by omega), fr 9 _ (by omega) (by omega) (by omega) (by omega) (by omega) (by omega)⟩
  · rw [same 55 (by omega) (by omega) (by omega) (by omega)]; exact h7 h hh
  · rw [b1 61 (by omega) (by omega) (by omega) (by omega) (by omega)]
    by_cases c : t' < (hw_W l mo a t).1.2.1
    · rw [d.house2 c hh]
      exact fr 10 _ (by omega) (by omega) (by omega) (by omega) (by omega) (by omega)
    · exfalso
      have := le1 (Nat.le_of_lt ht')
      rw [e1] at c this
      have c' : ¬ t' < a.1.2.1 + t := c
      omega
  · rw [b49, if_neg (by omega), if_pos rfl, e78, g78.2]; exact h9
  · rw [b1 62 (by omega) (by omega) (by omega) (by omega) (by omega), d.money2 (by rw [e1]; show t' < a.1.2.1 + t; omega)]
    exact fr 11 _ (by omega) (by omega) (by omega) (by omega) (by omega) (by omega)
theorem triesM {K : hx_M → Prop} (hc : MW a μ) (w : WF 200 a) (h0 : 0 < a.1.1) (hn : n ≤ 100) (hev : 1 ≤ ev ∧ ev ≤ 20) (hap : 1 ≤ ap) (hap2 : ap ≤ 100) (h1 : told = -1 ∨ 0 ≤ told ∧ told ≤ 99) (hl : LKM μ sm f l)
    (k : ∀ m, keepM μ m → MW a m → ansM m (rdF (alB (fun u q => (hw_W l (tr_mo told (a.2.1 11 a.1.2.1) ev) a u).2.1 6 (16 * (a.1.2.1 + u) + q)) a.1.1) ap n 1) → K m) : wX12_tries μ (Int32.ofNat n) (Int32.ofNat ev) told (Int32.ofNat ap) K := by
  have hs := w.s
  have hn16 := w.n
  have hok := hl.2.2.2.2.2
  have hwas : 0 ≤ a.2.1 11 a.1.2.1 ∧ a.2.1 11 a.1.2.1 ≤ 99 := w.2.2.2.2.2.2.1 _ (Nat.le_refl _)
  unfold wX12_tries
  refine keepsM (fun m1 g1 g2 g3 g4 g5 g6 g7 => ?_)
  have c1 : MW a m1 := hc.fr' (fun j hj => by rw [g1 49 (by omega)]) (by rw [g3, if_neg (by omega)]) (fun i hi => g1 i (by omega))
  rw [c1.s, c1.money1]
  have hmo : ∀ t, ∀ u, u < t → 0 ≤ tr_mo told (a.2.1 11 a.1.2.1) ev u ∧ tr_mo told (a.2.1 11 a.1.2.1) ev u ≤ 99 := fun t u _ => mo_rng h1 hwas u
  have c1' : MW a (hx_sI (hx_sI m1 49 48 (-1)) 49 49 (-1)) := (c1.fr49 (by decide)).fr49 (by decide)
  have x1 : ∀ k, k ≠ 49 → k ≠ 78 → (hx_sI (hx_sI m1 49 48 (-1)) 49 49 (-1)).1 k = μ.1 k := fun k a b => by rw [sIk a, sIk a]; exact g1 k b
  have x49 : ∀ j, j ≠ 48 → j ≠ 49 → (hx_sI (hx_sI m1 49 48 (-1)) 49 49 (-1)).1 49 j = μ.1 49 j := fun j a b => by rw [sIj b, sIj a, g1 49 (by omega)]
  have l1 : LKM (hx_sI (hx_sI m1 49 48 (-1)) 49 49 (-1)) sm f l := hl.fr (x49 21 (by omega) (by omega)) (fun k a b => x1 k (by omega) (by omega))
  refine ⟨n + 1, tries_L29 (a := a) w h0 hn hev hap hap2 h1 hwas rfl l1 n 0 _ (by omega) c1' offT.rf (by rw [sIj (by omega), sIe]) (by rw [sIe]) (fun m2 t' ht' c2 o2 a2 => ?_)⟩
  unfold wX12_tries_J146
  refine backM (fun m3 b1 b49 b2 bz b52 b56 => k m3 ⟨fun i hi => ⟨?_, ?_⟩, fun j hj => ?_⟩ ?_ ⟨?_, ?_⟩)
  · rw [b1 i (by omega) (by omega) (by omega) (by omega), o2.1 i (by omega) (by omega) (by omega) (by omega) (by omega), x1 i (by omega) (by omega)]
  · rw [b2 i (by omega), o2.2.2.1 i (by omega)]
    show m1.2 i = _
    exact g2 i (by omega)
  · rw [b49, if_neg (by simp at hj; omega), if_neg (by simp at hj; omega), o2.2.1 j (by simp at hj; omega) (by simp at hj; omega) (by simp at hj; omega) (by simp at hj; omega) (by simp at hj; omega), x49 j (by simp at hj; omega) (by simp at hj; omega)]
  · refine back_MW (m0 := μ) (m1 := hx_sI (hx_sI m1 49 48 (-1)) 49 49 (-1)) w h0 hok (by omega) (hmo t') hc (fun k a b _ => x1 k a b) ⟨?_, ?_⟩ (fun p hp => ?_) (fun j hj => ?_) ?_ (fun j hj => x49 j (by simp at hj; omega) (by simp at hj; omega)) c2 o2 (fun k a b c d _ => b1 k a b c d) b49 ?_ b52 b56 (fun k hk => ?_)
    · rw [sIk (by omega), sIk (by omega)]; exact g4
    · rw [sIk (by omega), sIk (by omega)]; exact g5
    · rw [sIk (by omega), sIk (by omega)]; exact g6 p hp
    · rw [sIk (by omega), sIk (by omega)]; exact g7 j hj
    · show m1.2 49 47 = _
      rw [g3, if_pos rfl]
    · rw [bz, if_pos rfl]
    · have e : ∀ i, 85 ≤ i → i ≤ 87 → m3.1 i = μ.1 i := fun i a b => by rw [b1 i (by omega) (by omega) (by omega) (by omega), o2.1 i (by omega) (by omega) (by omega) (by omega) (by omega), x1 i (by omega) (by omega)]
      rw [e 85 (by omega) (by omega), e 86 (by omega) (by omega), e 87 (by omega) (by omega)]
      exact hc.told hk
  · rw [b49, if_neg (by omega), if_neg (by omega)]; exact a2.1
  · rw [b49, if_neg (by omega), if_neg (by omega)]; exact a2.2
/-- both, in one -/
theorem trialC {wh : Nat} {K : Int32 → hx_M → Prop} (hc : CW 0 a μ) (w : WF 200 a) (h0 : 0 < a.1.1) (hn : n ≤ 100) (hev : 1 ≤ ev ∧ ev ≤ 20) (hap : 1 ≤ ap) (hap2 : ap ≤ 100) (hwh : wh < 2) (h1 : told = -1 ∨ 0 ≤ told ∧ told ≤ 99) (hl : LKC Λ μ f lc l)
    (k : ∀ m, keepC μ m → CW 0 a m → K (if wh = 0 then tr_1 (rdF (alB (fun u q => (hw_W l (tr_mo told (a.2.1 11 a.1.2.1) ev) a u).2.1 6 (16 * (a.1.2.1 + u) + q)) a.1.1) ap n 1) else tr_2 (rdF (alB (fun u q => (hw_W l (tr_mo told (a.2.1 11 a.1.2.1) ev) a u).2.1 6 (16 * (a.1.2.1 + u) + q)) a.1.1) ap n 1)) m) : wX9_rehearse Λ μ lc (Int32.ofNat n) (Int32.ofNat ev) told (fun m63 => wX9_roundIn m63 (Int32.ofNat n) (Int32.ofNat ap) (Int32.ofNat wh) (fun r => K r m63)) := by
  have hs := w.s
  refine rehC hc w h0 hn hev h1 hl (fun m g1 g2 g3 g4 => ?_)
  unfold wX9_roundIn
  exact ⟨n + 1, roundIn_L3 (N := n) (T := fun u q => (hw_W l (tr_mo told (a.2.1 11 a.1.2.1) ev) a u).2.1 6 (16 * (a.1.2.1 + u) + q)) (Nat.le_refl _) (by omega) w.n hap hap2 hwh g3 g4 g2.s g2.n n 1 (by omega) (k m (fun i hi => g1 i (by omega)) g2)⟩
end TN
theorem mayTryY {a : hw_T} {μ : hx_M} {f sm : Nat} {l : List hl_R} {K : Int32 → Prop} (hc : MW a μ) (w : WF 200 a) (h0 : 0 < a.1.1) (hl : LKM μ sm f l) (k : K 1) : wX12_mayTry μ K := by
  have hn := w.n
  have hf := hl.2.2.1
  unfold wX12_mayTry
  rw [hc.n, hl.2.1]
  refine selF (fun z => ?_) (selF (n32_neg (by omega) (by decide)) k)
  have := (n32_le (b := 0) (by omega) (by omega)).mp z
  omega
theorem mayTryN {a : hw_T} {μ : hx_M} {K : Int32 → Prop} (hc : MW a μ) (w : WF 200 a) (h : a.1.1 = 0 ∨ μ.1 49 21 = -1) (k : K 0) : wX12_mayTry μ K := by
  have hn := w.n
  unfold wX12_mayTry
  rw [hc.n]
  refine ⟨fun _ => k, fun z => ?_⟩
  rcases h with h | h
  · exact absurd ((n32_le (b := 0) (by omega) (by omega)).mpr (by omega)) z
  · exact selT h k
theorem op_round (Λ : hx_L) (μ : hx_M) (a1 a2 : Int32) (h : hI Λ μ) : wL_14 Λ μ a1 a2 hI := by
  obtain ⟨hF, hM, h15, a, ls, fo, is, w, hc, hm, ht, hl, hi⟩ := id h
  have hn := w.n
  have hs := w.s
  have law : ∀ K : Option Nat → Prop, (∀ o, (fo = none → o = none) → (∀ f, fo = some f → o = Λ.2.1 6 f) → K o) → wX11_lawInForce Λ μ K := fun K hk => by
    cases fo with
    | none => exact lawC0 hl (hk none (fun _ => rfl) (fun f z => by simp at z))
    | some f => exact lawC1 hl (hk _ (fun z => by simp at z) (fun g z => by simp at z; rw [z]))
  unfold wL_14 wX11_round wX11_round_J28 wX11_round_J29 wX11_round_J29_14
  refine law _ (fun o ho1 ho2 => ?_)
  by_cases h1 : 1 ≤ a1 ∧ a1 ≤ 100
  · obtain ⟨n, rfl, hn100⟩ := n32_of (hi := 100) (Int32.le_trans (by decide) h1.1) h1.2 (by omega)
    by_cases h2 : 0 ≤ a2 ∧ a2 ≤ 1
    · obtain ⟨wh, rfl, hwh⟩ := n32_of (hi := 1) h2.1 h2.2 (by omega)
      refine t_withinY h1 (sel1 (t_withinY h2 (sel1 (sel1 ⟨fun z => ?_, fun kk z => ?_⟩))))
      · have hfo : fo = none := by
          cases fo with
          | none => rfl
          | some f =>
            obtain ⟨l, lc, sm, elc, _⟩ := hl.force hF h15
            rw [ho2 f rfl, elc] at z
            simp at z
        subst hfo
        show wX12_round μ _ _ _
        unfold wX12_round
        exact t_isInY h1 (sel1 (t_isInY h2 (sel1 (mayTryN hm w (Or.inr hl.2.2.2.1.2.2) (seln0 ⟨rfl, h⟩)))))
      · by_cases h0 : a.1.1 = 0
        · refine t_emptyY hc h0 (sel1 ?_)
          show wX12_round μ _ _ _
          unfold wX12_round
          exact t_isInY h1 (sel1 (t_isInY h2 (sel1 (mayTryN hm w (Or.inl h0) (seln0 ⟨rfl, h⟩)))))
        · have h0' : 0 < a.1.1 := by omega
          cases fo with
          | none => rw [ho1 rfl] at z; simp at z
          | some f =>
            obtain ⟨l, lc, sm, elc, hC, hMk⟩ := hl.force hF h15
            rw [ho2 f rfl, elc] at z
            obtain rfl : lc = kk := by simpa using z
            refine t_emptyN hc w.up h0' (sel0 (trialC (n := n) (ev := 1) (ap := 1) (told := -1) (wh := wh) hc w h0' hn100 (by omega) (by omega) (by omega) (by omega) (Or.inl rfl) hC (fun m1 k1 c1 => ?_)))
            have hm1 : MW a m1 := hm.kC k1
            have hM1 : LKM m1 sm f l := hMk.fr (by rw [k1.a 49 (by omega)]) (fun k a b => k1.a k (by omega))
            unfold wX12_round
            refine t_isInY h1 (sel1 (t_isInY h2 (sel1 (mayTryY hm1 w h0' hM1 (seln1 (triesM (n := n) (ev := 1) (ap := 1) (told := -1) hm1 w h0' hn100 (by omega) (by omega) (by omega) (Or.inl rfl) hM1 (fun m2 k2 c2 a2 => ?_)))))))
            have fin : hI Λ m2 := hI.q (a := a) hF hM h15 ht hl hi k1 k2 w (c1.kM k2) c2
            refine ⟨fun z => ⟨?_, fin⟩, fun z => ⟨?_, fin⟩⟩
            · rw [if_neg (fun z2 => z (by rw [z2]; rfl)), a2.2]
            · rw [if_pos ((n32_eq (b := 0) (by omega) (by omega)).mp z), a2.1]
    · refine t_withinY h1 (sel1 (t_withinN h2 (sel0 (sel0 ?_))))
      unfold wX12_round
      exact t_isInY h1 (sel1 (t_isInN h2 (sel0 ⟨rfl, h⟩)))
  · refine t_withinN h1 (sel0 (sel0 ?_))
    unfold wX12_round
    exact t_isInN h1 (sel0 ⟨rfl, h⟩)
