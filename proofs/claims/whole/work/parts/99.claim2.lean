/-! layer 2: claims, the reference; claim, best -/
section CM
variable {Λ : hx_L} {a : hw_T} {μ m : hx_M} {lag : Nat}
/-- the same but for what claims writes -/
def offC (μ m : hx_M) : Prop := (∀ k, k ≠ 49 → m.1 k = μ.1 k) ∧ (∀ j, j ≠ 52 → j ≠ 53 → m.1 49 j = μ.1 49 j) ∧ ∀ k, k ≠ 81 → m.2 k = μ.2 k
theorem MW.oC (h : MW a μ) (o : offC μ m) : MW a m := h.fr (fun j hj => o.2.1 j (by simp at hj; omega) (by simp at hj; omega)) (o.2.2 49 (by omega)) (fun k hk => o.1 k (by omega))
theorem offC.keep (o : offC μ m) : keepM μ m := ⟨fun k hk => ⟨o.1 k (by omega), o.2.2 k (by omega)⟩, fun j hj => o.2.1 j (by simp at hj; omega) (by simp at hj; omega)⟩
theorem offC.tr {m' : hx_M} (h1 : offC μ m) (h2 : offC m m') : offC μ m' := ⟨fun k hk => (h2.1 k hk).trans (h1.1 k hk), fun j a b => (h2.2.1 j a b).trans (h1.2.1 j a b), fun k hk => (h2.2.2 k hk).trans (h1.2.2 k hk)⟩
theorem money_nat (w : WF 200 a) {t : Nat} (ht : t ≤ a.1.2.1) : ∃ x, a.2.1 11 t = Int32.ofNat x ∧ x ≤ 99 := by
  have h := w.2.2.2.2.2.2.1 t ht
  exact n32_of (hi := 99) h.1 h.2 (by omega)
theorem sub_0 {x y : Int32} : x - y = 0 ↔ x = y := by
  constructor
  · intro z; grind
  · intro z; grind
theorem claims_L15 {K : hx_M → Prop} (hc : MW a μ) (w : WF 200 a) (hlag : lag ≤ 9) (k : ∀ m, offC μ m → m.1 49 53 = Int32.ofNat (clF a lag a.1.2.1 (0, 0)).1 → m.1 49 52 = Int32.ofNat (clF a lag a.1.2.1 (0, 0)).2 → K m) : ∀ (s : Nat) (x : Nat × Nat) (m : hx_M), s ≤ a.1.2.1 → x.1 ≤ 40 → clF a lag a.1.2.1 (0, 0) = clF a lag s x → offC μ m → m.1 49 53 = Int32.ofNat x.1 → m.1 49 52 = Int32.ofNat x.2 → wX12_claims_L15 (Int32.ofNat lag) K (s + 1) (Int32.ofNat s) m := by
  have hs := w.s
  have hn := w.n
  intro s
  induction s with
  | zero =>
    intro x m h1 hx he o f3 f4
    unfold wX12_claims_L15
    have he' : clF a lag a.1.2.1 (0, 0) = x := he
    exact selT ((n32_le (a := 0) (by omega) (by omega)).mpr (by omega)) (k m o (by rw [he']; exact f3) (by rw [he']; exact f4))
  | succ s ih =>
    intro x m h1 hx he o f3 f4
    unfold wX12_claims_L15
    conv at he => rhs; unfold clF
    by_cases c1 : s + 1 ≤ lag
    · rw [if_pos c1] at he
      exact selT ((n32_le (by omega) (by omega)).mpr c1) (k m o (by rw [he]; exact f3) (by rw [he]; exact f4))
    · rw [if_neg c1] at he
      refine selF (fun z => c1 ((n32_le (by omega) (by omega)).mp z)) ?_
      rw [f3]
      by_cases c2 : 40 ≤ x.1
      · rw [if_pos c2] at he
        exact selT ((n32_le (a := 40) (by omega) (by omega)).mpr c2) (k m o (by rw [he]; exact f3) (by rw [he]; exact f4))
      · rw [if_neg c2] at he
        have hcm : MW a m := hc.oC o
        have h0 : 0 < a.1.1 := w.sn (by omega)
        refine selF (fun z => c2 ((n32_le (a := 40) (by omega) (by omega)).mp z)) ?_
        rw [hcm.n, n32_subn (by omega), n32_sub1 (by omega), n32_sub1 (by omega)]
        refine selF (fun z => by have := (n32_le (b := 0) (by omega) (by omega)).mp z; omega) (moneyM hcm w.up (by omega) (moneyM hcm w.up (by omega) (lineM hcm w.up h1 h0 (lineM hcm w.up (by omega) h0 ?_))))
        unfold wX12_claims_J130 wX12_claims_J105
        rw [n32_addm1 (by omega), Nat.add_sub_cancel]
        obtain ⟨y1, ey1, hy1⟩ := money_nat w (t := s + 1 - lag) (by omega)
        obtain ⟨y2, ey2, hy2⟩ := money_nat w (t := s + 1 - lag - 1) (by omega)
        obtain ⟨z1, ez1, hz1⟩ := line_rng w h1
        obtain ⟨z2, ez2, hz2⟩ := line_rng w (t := s) (by omega)
        have em : ∀ t : Nat, t ≤ 1 → cl_c a lag (s + 1) → (t = 1 ↔ cl_h a lag (s + 1)) → wX12_claims_J130_11 K (wX12_claims_L15 (Int32.ofNat lag) K (s + 1)) (Int32.ofNat lag) (Int32.ofNat (s + 1)) (hx_sI (hx_sI m 49 53 (Int32.ofNat x.1 + 1)) 49 52 (m.1 49 52 + Int32.ofNat t)) := by
          intro t ht hcc hth
          unfold wX12_claims_J130_11
          rw [f4, n32_add1, n32_add, n32_addm1 (by omega), Nat.add_sub_cancel]
          refine ih (x.1 + 1, x.2 + t) _ (by omega) (by show x.1 + 1 ≤ 40; omega) ?_ ⟨fun k hk => by rw [sIk hk, sIk hk]; exact o.1 k hk, fun j a b => by rw [sIj a, sIj b]; exact o.2.1 j a b, o.2.2⟩ (by rw [sIj (by omega), sIe]) (by rw [sIe])
          rw [he]
          congr 1
          by_cases c4 : cl_h a lag (s + 1)
          · rw [cl_n_hit hcc c4, hth.mpr c4]
          · rw [cl_n_mis hcc c4]
            have : t = 0 := by
              have : ¬ t = 1 := fun z => c4 (hth.mp z)
              omega
            rw [this]; rfl
        refine ⟨fun z => ?_, fun z => ⟨fun z2 => ?_, fun z2 => ?_⟩⟩
        · have : ¬ cl_c a lag (s + 1) := fun z2 => z2.1 (sub_0.mp z)
          rw [cl_n_no this] at he
          exact ih x m (by omega) hx he o f3 f4
        · have hcc : cl_c a lag (s + 1) := ⟨fun z3 => z (sub_0.mpr z3), fun z3 => z2 (sub_0.mpr z3)⟩
          have lm : a.2.1 11 (s + 1 - lag) - a.2.1 11 (s + 1 - lag - 1) ≤ 0 ↔ ¬ (a.2.1 11 (s + 1 - lag - 1) < a.2.1 11 (s + 1 - lag)) := by
            rw [ey1, ey2, n32_sub_le (by omega) (by omega), Int32.not_lt]
          have ll : hw_line a (s + 1) - hw_line a s ≤ 0 ↔ ¬ (hw_line a s < hw_line a (s + 1)) := by
            rw [ez1, ez2, n32_sub_le (by omega) (by omega), Int32.not_lt]
          have e52 : (hx_sI m 49 53 (Int32.ofNat x.1 + 1)).1 49 52 = m.1 49 52 := sIj (by omega)
          have hch : cl_h a lag (s + 1) ↔ ((a.2.1 11 (s + 1 - lag - 1) < a.2.1 11 (s + 1 - lag)) ↔ (hw_line a s < hw_line a (s + 1))) := by
            unfold cl_h
            rw [Nat.add_sub_cancel]
          unfold wX12_claims_J115 wX12_claims_J123
          refine ⟨fun z3 => ⟨fun z4 => ⟨fun z5 => absurd rfl z5, fun _ => one_1 ?_⟩, fun z4 => ⟨fun _ => one_0 ?_, fun z5 => absurd z5 (by decide)⟩⟩, fun z3 => ⟨fun z4 => ⟨fun _ => one_0 ?_, fun z5 => absurd z5 (by decide)⟩, fun z4 => ⟨fun z5 => absurd rfl z5, fun _ => one_1 ?_⟩⟩⟩
          · exact em 1 (by omega) hcc ⟨fun _ => hch.mpr ⟨fun z => absurd z (lm.mp z3), fun z => absurd z (ll.mp z4)⟩, fun _ => rfl⟩
          · exact em 0 (by omega) hcc ⟨fun z => by omega, fun z => absurd (hch.mp z) (fun z6 => z4 (ll.mpr fun z7 => (lm.mp z3) (z6.mpr z7)))⟩
          · exact em 0 (by omega) hcc ⟨fun z => by omega, fun z => absurd (hch.mp z) (fun z6 => z3 (lm.mpr fun z7 => (ll.mp z4) (z6.mp z7)))⟩
          · exact em 1 (by omega) hcc ⟨fun _ => hch.mpr ⟨fun _ => Classical.byContradiction fun z => z4 (ll.mpr z), fun _ => Classical.byContradiction fun z => z3 (lm.mpr z)⟩, fun _ => rfl⟩
        · have : ¬ cl_c a lag (s + 1) := fun z3 => z3.2 (sub_0.mp z2)
          rw [cl_n_no this] at he
          exact ih x m (by omega) hx he o f3 f4
theorem claimsM {K : hx_M → Prop} (hc : MW a μ) (w : WF 200 a) (hlag : lag ≤ 9) (k : ∀ m, offC μ m → m.1 49 53 = Int32.ofNat (clF a lag a.1.2.1 (0, 0)).1 → m.1 49 52 = Int32.ofNat (clF a lag a.1.2.1 (0, 0)).2 → K m) : wX12_claims μ (Int32.ofNat lag) K := by
  unfold wX12_claims
  rw [hc.s]
  exact ⟨_, claims_L15 hc w hlag k a.1.2.1 (0, 0) _ (Nat.le_refl _) (by show 0 ≤ 40; omega) rfl ⟨fun k hk => by rw [sIk hk, sIk hk], fun j a b => by rw [sIj b, sIj a], fun _ _ => rfl⟩ (by rw [sIe]; rfl) (by rw [sIj (by omega), sIe]; rfl)⟩
theorem atLeast_L2 {v1 v2 : Int32} {K : Int64 → hx_M → Prop} {K1 : hx_M → Prop} (k : ∀ m, WL 81 41 (fun k => Int64.ofNat (bin 0 k)) μ m → K1 m) : ∀ (r i : Nat) (m : hx_M), i + r = 41 → m.1 = μ.1 → (∀ k, k ≠ 81 → m.2 k = μ.2 k) → (∀ k, k < i → m.2 81 k = Int64.ofNat (bin 0 k)) → wX12_atLeast_L2 v1 v2 K K1 (r + 1) (Int32.ofNat i) m := by
  intro r
  induction r with
  | zero =>
    intro i m e h1 h2 h3
    obtain rfl : i = 41 := by omega
    unfold wX12_atLeast_L2
    exact selT (by decide) (k m ⟨h1, h2, h3⟩)
  | succ r ih =>
    intro i m e h1 h2 h3
    unfold wX12_atLeast_L2 wX12_atLeast_J22
    rw [n32_nat (by omega), n32_add1]
    have go : ∀ v : Int64, v = Int64.ofNat (bin 0 i) → vp_in (Int32.ofNat i) 41 ∧ wX12_atLeast_L2 v1 v2 K K1 (r + 1) (Int32.ofNat (i + 1)) (hx_sL m 81 i v) := by
      intro v hv
      refine ⟨n32_in (by omega) (by omega), ih (i + 1) _ (by omega) h1 (fun k hk => ?_) (fun k hk => ?_)⟩
      · rw [← h2 k hk]
        funext j
        rw [hm_sLv, if_neg (fun z => hk z.1)]
      · rw [hm_sLv]
        by_cases e : k = i
        · rw [if_pos ⟨rfl, e⟩, hv, e]
        · rw [if_neg (fun z => e z.2)]; exact h3 k (by omega)
    refine selF (fun z => by have := (n32_le (a := 41) (by omega) (by omega)).mp z; omega) ⟨fun z => go 0 ?_, fun z => go 1 ?_⟩
    · have : i ≠ 0 := fun z2 => z (by rw [z2]; rfl)
      rw [bin_z (by omega)]; rfl
    · rw [(n32_eq (b := 0) (by omega) (by omega)).mp z]; rfl
theorem atLeast_L40 {v1 v2 v3 : Int32} {n : Nat} {K : Int64 → hx_M → Prop} {K1 : hx_M → Prop} (k : ∀ m, WL 81 41 (fun k => Int64.ofNat (bin (n + 1) k)) μ m → K1 m) : ∀ (j : Nat) (m : hx_M), j ≤ 40 → WL 81 41 (fun k => if j < k then Int64.ofNat (bin (n + 1) k) else Int64.ofNat (bin n k)) μ m → wX12_atLeast_L40 v1 v2 v3 K K1 (j + 1) (Int32.ofNat j) m := by
  intro j
  induction j with
  | zero =>
    intro m hj h
    unfold wX12_atLeast_L40
    refine selT (by decide) (k m (h.to fun i hi => ?_))
    by_cases c : 0 < i
    · rw [if_pos c]
    · rw [if_neg c, show i = 0 by omega, bin_0, bin_0]
  | succ j ih =>
    intro m hj h
    unfold wX12_atLeast_L40
    rw [n32_sub1 (by omega), Nat.add_sub_cancel, n32_nat (by omega), n32_nat (by omega), n32_addm1 (by omega), Nat.add_sub_cancel]
    have q1 : m.2 81 (j + 1) = Int64.ofNat (bin n (j + 1)) := (h.2.2 (j + 1) (by omega)).trans (if_neg (by omega))
    have q2 : m.2 81 j = Int64.ofNat (bin n j) := (h.2.2 j (by omega)).trans (if_neg (by omega))
    refine selF (fun z => by have := (n32_le (b := 0) (by omega) (by omega)).mp z; omega) ⟨n32_in (by omega) (by omega), n32_in (by omega) (by omega), ?_⟩
    rintro x rfl
    rw [q1, q2, ← Int64.ofNat_add]
    refine ⟨n32_in (by omega) (by omega), ih _ (by omega) ((h.set (j + 1) _).to fun i hi => ?_)⟩
    by_cases e : i = j + 1
    · subst e
      rw [if_pos rfl, if_pos (by omega), bin_s, Nat.add_comm]
    · rw [if_neg e]
      by_cases c : j + 1 < i
      · rw [if_pos c, if_pos (by omega)]
      · rw [if_neg c, if_neg (by omega)]
theorem atLeast_L31 {many : Nat} {v2 : Int32} {K : Int64 → hx_M → Prop} {K1 : hx_M → Prop} (hm40 : many ≤ 40) (k : ∀ m, WL 81 41 (fun k => Int64.ofNat (bin many k)) μ m → K1 m) : ∀ (r n : Nat) (m : hx_M), n + r = many → WL 81 41 (fun k => Int64.ofNat (bin n k)) μ m → wX12_atLeast_L31 (Int32.ofNat many) v2 K K1 (r + 1) (Int32.ofNat n) m := by
  intro r
  induction r with
  | zero =>
    intro n m e h
    obtain rfl : n = many := by omega
    unfold wX12_atLeast_L31
    exact selT (Int32.le_refl _) (k m h)
  | succ r ih =>
    intro n m e h
    unfold wX12_atLeast_L31
    refine selF (fun z => by have := (n32_le (by omega) (by omega)).mp z; omega) ⟨41, atLeast_L40 (μ := μ) (n := n) (fun m' h' => ?_) 40 m (Nat.le_refl _) (h.to fun i hi => by rw [if_neg (by omega)])⟩
    rw [n32_add1]
    exact ih (n + 1) m' (by omega) h'
theorem atLeast_L81 {many : Nat} {K : Int64 → hx_M → Prop} (hm40 : many ≤ 40) (h : WL 81 41 (fun k => Int64.ofNat (bin many k)) μ m) : ∀ (r y : Nat) (acc : Int64), y + r = many + 1 → K (acc + S64 (fun k => Int64.ofNat (bin many k)) y r) m → wX12_atLeast_L81 m (Int32.ofNat many) K (r + 1) acc (Int32.ofNat y) := by
  intro r
  induction r with
  | zero =>
    intro y acc e k
    unfold wX12_atLeast_L81
    have : S64 (fun k => Int64.ofNat (bin many k)) y 0 = 0 := rfl
    rw [this, Int64.add_zero] at k
    exact selT ((n32_lt (by omega) (by omega)).mpr (by omega)) k
  | succ r ih =>
    intro y acc e k
    unfold wX12_atLeast_L81
    rw [n32_nat (by omega), h.2.2 y (by omega), n32_add1]
    refine selF (fun z => by have := (n32_lt (by omega) (by omega)).mp z; omega) ⟨n32_in (by omega) (by omega), ih (y + 1) _ (by omega) ?_⟩
    rw [Int64.add_assoc]
    exact k
theorem atLeastM {c h : Nat} {K : Int64 → hx_M → Prop} (hc : c ≤ 40) (hh : h ≤ c) (k : ∀ m', offC m m' → m'.1 = m.1 → K (od c h) m') : wX12_atLeast m (Int32.ofNat c) (Int32.ofNat h) K := by
  unfold wX12_atLeast
  refine ⟨42, atLeast_L2 (μ := m) (fun m1 h1 => ⟨c + 1, atLeast_L31 (μ := m) hc (fun m2 h2 => ⟨(c + 1 - h) + 1, atLeast_L81 (μ := m) hc h2 (c + 1 - h) h 0 (by omega) ?_⟩) c 0 m1 (by omega) h1⟩) 41 0 m (by omega) rfl (fun _ _ => rfl) (fun k hk => by omega)⟩
  rw [Int64.zero_add]
  exact k m2 ⟨fun k _ => by rw [h2.1], fun j _ _ => by rw [h2.1], h2.2.1⟩ h2.1
end CM
theorem op_claim (Λ : hx_L) (μ : hx_M) (a1 a2 : Int32) (h : hI Λ μ) : wL_22 Λ μ a1 a2 hI := by
  obtain ⟨hF, hM, h15, a, ls, fo, is, w, hc, hm, ht, hl, hi⟩ := id h
  unfold wL_22 wX11_claim
  by_cases h1 : 0 ≤ a1 ∧ a1 ≤ 9
  · obtain ⟨lag, rfl, hlag⟩ := n32_of (hi := 9) h1.1 h1.2 (by omega)
    by_cases h2 : 0 ≤ a2 ∧ a2 ≤ 2
    · obtain ⟨q, rfl, hq⟩ := n32_of (hi := 2) h2.1 h2.2 (by omega)
      have rng := cl_rng (a := a) (lag := lag) a.1.2.1 (0, 0) (by show 0 ≤ 40; omega) (Nat.le_refl _)
      refine t_withinY h1 (sel1 (t_withinY h2 (seln1 (gatherC hc w hlag (fun m1 g1 g2 g3 g4 => ?_)))))
      have k1 : keepC μ m1 := fun k hk => ⟨g1 k (by omega), by rw [g2]⟩
      have c1 : CW 0 a m1 := hc.fr fun k k1 k2 => ⟨g1 _ (by omega), by rw [g2]⟩
      have hm1 : MW a m1 := hm.kC k1
      have q3 : q = 0 ∨ q = 1 ∨ q = 2 := by omega
      have ref : ∀ v : Int64, (q = 0 → v = (Int32.ofNat (clF a lag a.1.2.1 (0, 0)).2).toInt64) → (q = 1 → v = (Int32.ofNat (clF a lag a.1.2.1 (0, 0)).1).toInt64) → (q = 2 → v = od (clF a lag a.1.2.1 (0, 0)).1 (clF a lag a.1.2.1 (0, 0)).2) → wX12_claim m1 (Int32.ofNat lag) (Int32.ofNat q) (fun q m => v = q ∧ hI Λ m) := by
        intro v v0 v1 v2
        unfold wX12_claim
        refine t_isInY h1 (sel1 (t_isInY h2 (seln1 (claimsM hm1 w hlag (fun m2 o2 e3 e2 => ?_)))))
        have fin : ∀ m3, offC m1 m3 → hI Λ m3 := fun m3 o3 => hI.q (a := a) hF hM h15 ht hl hi k1 o3.keep w (c1.kM o3.keep) (hm1.oC o3)
        rw [e3, e2]
        rcases q3 with rfl | rfl | rfl
        · exact selE rfl ⟨v0 rfl, fin m2 o2⟩
        · exact selN (by decide) (selE rfl ⟨v1 rfl, fin m2 o2⟩)
        · exact selN (by decide) (selN (by decide) (atLeastM rng.1 rng.2 (fun m3 o3 _ => ⟨v2 rfl, fin m3 (o2.tr o3)⟩)))
      rcases q3 with rfl | rfl | rfl
      · refine selN (by decide) (selE rfl ?_)
        rw [g4]
        exact ref _ (fun _ => rfl) (fun z => by omega) (fun z => by omega)
      · refine selN (by decide) (selN (by decide) ?_)
        rw [g3]
        exact ref _ (fun z => by omega) (fun _ => rfl) (fun z => by omega)
      · exact selE rfl (oddsC rng.1 rng.2 g3 g4 (ref _ (fun z => by omega) (fun z => by omega) (fun _ => rfl)))
    · refine t_withinY h1 (sel1 (t_withinN h2 (seln0 ?_)))
      unfold wX12_claim
      exact t_isInY h1 (sel1 (t_isInN h2 (seln0 ⟨rfl, h⟩)))
  · refine t_withinN h1 (sel0 ?_)
    unfold wX12_claim
    exact t_isInN h1 (sel0 ⟨rfl, h⟩)
/-- the lag that goes best so far, and how rare -/
noncomputable def be_s (a : hw_T) (lag : Nat) (b : Int32 × Int64) : Int32 × Int64 :=
  if (clF a lag a.1.2.1 (0, 0)).1 = 0 then b
  else if b.1 = -1 ∨ lg_cmp (od (clF a lag a.1.2.1 (0, 0)).1 (clF a lag a.1.2.1 (0, 0)).2 <<< ((40 - Int32.ofNat (clF a lag a.1.2.1 (0, 0)).1 : Int32).toInt64 &&& 63)) b.2 < 0 then (Int32.ofNat lag, od (clF a lag a.1.2.1 (0, 0)).1 (clF a lag a.1.2.1 (0, 0)).2 <<< ((40 - Int32.ofNat (clF a lag a.1.2.1 (0, 0)).1 : Int32).toInt64 &&& 63)) else b
theorem bestLag_L7 {a : hw_T} {μ : hx_M} {K : Int32 → hx_M → Prop} (hc : CW 0 a μ) (w : WF 200 a) (k : ∀ m, (∀ k, k ≠ 37 → m.1 k = μ.1 k) → m.2 = μ.2 → K (itN (be_s a) 0 10 (-1, 0)).1 m) : ∀ (r lag : Nat) (b : Int32 × Int64) (m : hx_M), lag + r = 10 → itN (be_s a) 0 10 (-1, 0) = itN (be_s a) lag r b → (∀ k, k ≠ 37 → m.1 k = μ.1 k) → m.2 = μ.2 → wX8_bestLag_L7 K (r + 1) b.1 b.2 (Int32.ofNat lag) m := by
  intro r
  induction r with
  | zero =>
    intro lag b m e he f1 f2
    obtain rfl : lag = 10 := by omega
    unfold wX8_bestLag_L7
    refine selT (by decide) ?_
    have := k m f1 f2
    rw [he] at this
    exact this
  | succ r ih =>
    intro lag b m e he f1 f2
    have he' : itN (be_s a) 0 10 (-1, 0) = itN (be_s a) (lag + 1) r (be_s a lag b) := he
    have hcm : CW 0 a m := hc.fr fun k k1 k2 => ⟨f1 _ (by omega), by rw [f2]⟩
    have rng := cl_rng (a := a) (lag := lag) a.1.2.1 (0, 0) (by show 0 ≤ 40; omega) (Nat.le_refl _)
    unfold wX8_bestLag_L7 wX8_bestLag_J59 wX8_bestLag_J53 wX8_bestLag_J59_6
    rw [n32_add1]
    refine selF (fun z => by have := (n32_lt (a := 9) (by omega) (by omega)).mp z; omega) (gatherC hcm w (by omega) (fun m1 g1 g2 g3 g4 => ?_))
    have f1' : ∀ k, k ≠ 37 → m1.1 k = μ.1 k := fun k hk => (g1 k hk).trans (f1 k hk)
    have f2' : m1.2 = μ.2 := g2.trans f2
    unfold be_s at he'
    rw [g3]
    refine ⟨fun z => ?_, fun z => oddsC rng.1 rng.2 g3 g4 ?_⟩
    · have := (n32_le (b := 0) (by omega) (by omega)).mp z
      rw [if_pos (by omega)] at he'
      exact ih (lag + 1) b m1 (by omega) he' f1' f2'
    · rintro x rfl
      have hn0 : ¬ (clF a lag a.1.2.1 (0, 0)).1 = 0 := fun z2 => z (by rw [z2]; exact Int32.le_refl _)
      rw [if_neg hn0] at he'
      refine ⟨fun z2 => ?_, fun z2 => ⟨fun z3 => ?_, fun z3 => ?_⟩⟩
      · rw [if_pos (Or.inl z2)] at he'
        exact ih (lag + 1) _ m1 (by omega) he' f1' f2'
      · rw [if_neg (fun z4 => by
          rcases z4 with z4 | z4
          · exact z2 z4
          · exact absurd z3 (Int32.not_le.mpr z4))] at he'
        exact ih (lag + 1) b m1 (by omega) he' f1' f2'
      · rw [if_pos (Or.inr (Int32.not_le.mp z3))] at he'
        exact ih (lag + 1) _ m1 (by omega) he' f1' f2'
theorem best_L7 {a : hw_T} {μ : hx_M} {K : Int32 → hx_M → Prop} (hc : MW a μ) (w : WF 200 a) (k : ∀ m, offC μ m → K (itN (be_s a) 0 10 (-1, 0)).1 m) : ∀ (r lag : Nat) (b : Int32 × Int64) (m : hx_M), lag + r = 10 → itN (be_s a) 0 10 (-1, 0) = itN (be_s a) lag r b → offC μ m → wX12_best_L7 K (r + 1) b.1 b.2 (Int32.ofNat lag) m := by
  intro r
  induction r with
  | zero =>
    intro lag b m e he o
    obtain rfl : lag = 10 := by omega
    unfold wX12_best_L7
    refine selT (by decide) ?_
    have := k m o
    rw [he] at this
    exact this
  | succ r ih =>
    intro lag b m e he o
    have he' : itN (be_s a) 0 10 (-1, 0) = itN (be_s a) (lag + 1) r (be_s a lag b) := he
    have hcm : MW a m := hc.oC o
    have rng := cl_rng (a := a) (lag := lag) a.1.2.1 (0, 0) (by show 0 ≤ 40; omega) (Nat.le_refl _)
    unfold wX12_best_L7 wX12_best_J67 wX12_best_J73 wX12_best_J73_6
    rw [n32_add1]
    refine selF (fun z => by have := (n32_le (a := 10) (by omega) (by omega)).mp z; omega) (claimsM hcm w (by omega) (fun m1 o1 e3 e2 => ?_))
    unfold be_s at he'
    rw [e3, e2]
    refine ⟨fun z => atLeastM rng.1 rng.2 (fun m2 o2 em => ?_), fun z => ?_⟩
    · rw [em, e3]
      rintro x rfl
      have hn0 : ¬ (clF a lag a.1.2.1 (0, 0)).1 = 0 := fun z2 => z (by rw [z2]; rfl)
      rw [if_neg hn0] at he'
      have o3 : offC μ m2 := (o.tr o1).tr o2
      refine ⟨fun z2 => ?_, fun z2 => ⟨fun z3 => ?_, fun z3 => ?_⟩⟩
      · rw [if_pos (Or.inl z2)] at he'
        exact ih (lag + 1) _ m2 (by omega) he' o3
      · rw [if_pos (Or.inr z3)] at he'
        exact ih (lag + 1) _ m2 (by omega) he' o3
      · rw [if_neg (fun z4 => by
          rcases z4 with z4 | z4
          · exact z2 z4
          · exact absurd z4 z3)] at he'
        exact ih (lag + 1) b m2 (by omega) he' o3
    · have := (n32_eq (b := 0) (by omega) (by omega)).mp z
      rw [if_pos this] at he'
      exact ih (lag + 1) b m1 (by omega) he' (o.tr o1)
theorem op_best (Λ : hx_L) (μ : hx_M) (h : hI Λ μ) : wL_23 Λ μ hI := by
  obtain ⟨hF, hM, h15, a, ls, fo, is, w, hc, hm, ht, hl, hi⟩ := id h
  unfold wL_23 wX11_best wX8_bestLag
  refine ⟨11, bestLag_L7 hc w (fun m1 g1 g2 => ?_) 10 0 (-1, 0) μ (by omega) rfl (fun _ _ => rfl) rfl⟩
  have k1 : keepC μ m1 := fun k hk => ⟨g1 k (by omega), by rw [g2]⟩
  have c1 : CW 0 a m1 := hc.fr fun k k1 k2 => ⟨g1 _ (by omega), by rw [g2]⟩
  have hm1 : MW a m1 := hm.kC k1
  unfold wX12_best
  exact ⟨11, best_L7 hm1 w (fun m2 o2 => ⟨rfl, hI.q (a := a) hF hM h15 ht hl hi k1 o2.keep w (c1.kM o2.keep) (hm1.oC o2)⟩) 10 0 (-1, 0) m1 (by omega) rfl ⟨fun _ _ => rfl, fun _ _ _ => rfl, fun _ _ => rfl⟩⟩
