/-! layer 2: the calls that set: both sides -/
theorem seesBit {n x q : Nat} (hx : x < 2 ^ n) (hq : q < n) (hn : n ≤ 16) : (∃ y : Nat, y < 2 ^ n ∧ Int32.ofNat x ||| (1 <<< (Int32.ofNat q &&& 31)) = Int32.ofNat y) ∧ (∃ y : Nat, y < 2 ^ n ∧ Int32.ofNat x &&& ((1 <<< (Int32.ofNat q &&& 31)) ^^^ (-1)) = Int32.ofNat y) := by
  have e : (1 : Int32) <<< (Int32.ofNat q &&& 31) = Int32.ofNat (2 ^ q) := by
    rw [n32_m31 (by omega)]
    have := n32_shl (a := 1) (k := q) (by omega)
    rw [Nat.one_mul] at this
    exact this
  have e1 : (-1 : Int32) = Int32.ofNat 4294967295 := by decide
  rw [e, e1, n32_or, n32_xor, n32_and]
  exact ⟨⟨_, Nat.or_lt_two_pow hx (Nat.pow_lt_pow_right (by omega) hq), rfl⟩, ⟨_, Nat.lt_of_le_of_lt Nat.and_le_left hx, rfl⟩⟩
theorem op_money (Λ : hx_L) (μ : hx_M) (a1 : Int32) (h : hI Λ μ) : wL_3 Λ μ a1 hI := by
  obtain ⟨hF, hM, h15, a, ls, fo, is, w, hc, hm, ht, hl, hi⟩ := id h
  have hs := w.s
  unfold wL_3 wX11_money wX12_money
  by_cases h1 : 0 ≤ a1 ∧ a1 ≤ 99
  · refine t_withinY h1 (seln1 ?_)
    rw [hc.s, n32_nat (by omega)]
    refine ⟨n32_in (by omega) (by omega), t_isInY h1 (seln1 ⟨rfl, ?_⟩)⟩
    have k1 : keepC μ (hx_sI μ 20 a.1.2.1 a1) := keepC.rf.sI (by omega)
    have k2 : keepM (hx_sI μ 20 a.1.2.1 a1) (hx_sI (hx_sI μ 20 a.1.2.1 a1) 49 2 a1) := keepM.rf.sI (by omega) (fun _ => keepM_n (by omega))
    exact hI.q (a := a) hF hM h15 ht hl hi k1 k2 (WF_money w h1) ((CW_money hc a1).kM k2) (MW_money (hm.kC k1) a1)
  · exact t_withinN h1 (seln0 (t_isInN h1 (seln0 ⟨rfl, h⟩)))
theorem op_shows (Λ : hx_L) (μ : hx_M) (a1 a2 : Int32) (h : hI Λ μ) : wL_2 Λ μ a1 a2 hI := by
  obtain ⟨hF, hM, h15, a, ls, fo, is, w, hc, hm, ht, hl, hi⟩ := id h
  have hs := w.s
  unfold wL_2 wX11_shows wX12_shows
  by_cases h1 : 0 ≤ a1 ∧ a1 ≤ 3
  · obtain ⟨i, rfl, hi3⟩ := n32_of (hi := 3) h1.1 h1.2 (by omega)
    by_cases h2 : -1 ≤ a2 ∧ a2 ≤ 60
    · refine t_isHouseY h1 (sel1 (t_withinY h2 (seln1 ?_)))
      have e : Int32.ofNat a.1.2.1 * 4 + Int32.ofNat i = Int32.ofNat (4 * a.1.2.1 + i) := by
        rw [Nat.mul_comm 4, ← n32_add, ← n32_mul]; rfl
      rw [hc.s, e, n32_nat (by omega)]
      refine ⟨n32_in (by omega) (by omega), t_isInY h1 (sel1 (t_isInY h2 (seln1 ⟨n32_in (by omega) (by omega), rfl, ?_⟩)))⟩
      rw [n32_nat (by omega)]
      have k1 : keepC μ (hx_sI μ 19 (4 * a.1.2.1 + i) a2) := keepC.rf.sI (by omega)
      have k2 : keepM (hx_sI μ 19 (4 * a.1.2.1 + i) a2) (hx_sI (hx_sI μ 19 (4 * a.1.2.1 + i) a2) 55 i a2) := keepM.rf.sI (by omega) (by omega)
      exact hI.q (a := a) hF hM h15 ht hl hi k1 k2 (WF_shows w h2) ((CW_shows hc (by omega) a2).kM k2) (MW_shows (hm.kC k1) (by omega) a2)
    · exact t_isHouseY h1 (sel1 (t_withinN h2 (seln0 (t_isInY h1 (sel1 (t_isInN h2 (seln0 ⟨rfl, h⟩)))))))
  · exact t_isHouseN h1 (sel0 (t_isInN h1 (sel0 ⟨rfl, h⟩)))
theorem op_set (Λ : hx_L) (μ : hx_M) (a1 a2 a3 : Int32) (h : hI Λ μ) : wL_4 Λ μ a1 a2 a3 hI := by
  obtain ⟨hF, hM, h15, a, ls, fo, is, w, hc, hm, ht, hl, hi⟩ := id h
  unfold wL_4 wX11_set wX12_set
  by_cases h1 : 0 ≤ a1 ∧ a1 ≤ 999
  · by_cases h2 : 0 ≤ a2 ∧ a2 ≤ 9
    · by_cases h3 : 0 ≤ a3 ∧ a3 ≤ 99
      · refine t_withinY h1 (sel1 (t_withinY h2 (sel1 (t_withinY h3 (seln1 (t_isInY h1 (sel1 (t_isInY h2 (sel1 (t_isInY h3 (seln1 ⟨rfl, ?_⟩)))))))))))
        have k1 : keepC μ (hx_sI (hx_sI (hx_sI μ 7 3 a1) 7 4 a2) 7 5 a3) := ((keepC.rf.sI (by omega)).sI (by omega)).sI (by omega)
        have k2 := ((keepM.rf (μ := hx_sI (hx_sI (hx_sI μ 7 3 a1) 7 4 a2) 7 5 a3)).sI (c := 49) (j := 3) (v := a1) (by omega) (fun _ => keepM_n (by omega)))
        have k3 := (k2.sI (c := 49) (j := 4) (v := a2) (by omega) (fun _ => keepM_n (by omega))).sI (c := 49) (j := 5) (v := a3) (by omega) (fun _ => keepM_n (by omega))
        exact hI.q (a := a) hF hM h15 ht hl hi k1 k3 (WF_set w h1 h2 h3) ((CW_set hc a1 a2 a3).kM k3) (MW_set (hm.kC k1) a1 a2 a3)
      · exact t_withinY h1 (sel1 (t_withinY h2 (sel1 (t_withinN h3 (seln0 (t_isInY h1 (sel1 (t_isInY h2 (sel1 (t_isInN h3 (seln0 ⟨rfl, h⟩)))))))))))
    · exact t_withinY h1 (sel1 (t_withinN h2 (sel0 (t_isInY h1 (sel1 (t_isInN h2 (sel0 ⟨rfl, h⟩)))))))
  · exact t_withinN h1 (sel0 (t_isInN h1 (sel0 ⟨rfl, h⟩)))
theorem op_seed (Λ : hx_L) (μ : hx_M) (a1 : Int32) (h : hI Λ μ) : wL_5 Λ μ a1 hI := by
  obtain ⟨hF, hM, h15, a, ls, fo, is, w, hc, hm, ht, hl, hi⟩ := id h
  unfold wL_5 wX11_seed wX12_seed
  by_cases h1 : 0 ≤ a1 ∧ a1 ≤ 999999999
  · refine t_withinY h1 (seln1 (t_isInY h1 (seln1 ⟨rfl, ?_⟩)))
    have k1 : keepC μ (hx_sL μ 7 6 a1.toInt64) := keepC.rf.sL (by omega)
    have k2 : keepM (hx_sL μ 7 6 a1.toInt64) (hx_sL (hx_sL μ 7 6 a1.toInt64) 49 6 a1.toInt64) := keepM.rf.sL (by omega)
    exact hI.q (a := a) hF hM h15 ht hl hi k1 k2 (WF_seed w) ((CW_seed hc _).kM ⟨fun k hk => k2.1 k hk, k2.2⟩) (MW_seed (hm.kC k1) _)
  · exact t_withinN h1 (seln0 (t_isInN h1 (seln0 ⟨rfl, h⟩)))
theorem op_sees (Λ : hx_L) (μ : hx_M) (a1 a2 a3 : Int32) (h : hI Λ μ) : wL_1 Λ μ a1 a2 a3 hI := by
  obtain ⟨hF, hM, h15, a, ls, fo, is, w, hc, hm, ht, hl, hi⟩ := id h
  have hn := w.n
  unfold wL_1 wX11_sees wX12_sees
  by_cases h1 : isP a a1
  · obtain ⟨p, hp, rfl⟩ := h1
    by_cases h2 : isP a a2
    · obtain ⟨q, hq, rfl⟩ := h2
      refine t_hasY hc w hp (sel1 (t_hasY hc w hq (sel1 ?_)))
      by_cases hpq : p = q
      · subst hpq
        exact selE rfl (t_isPersonY hm w hp (sel1 (t_isPersonY hm w hq (sel1 (selE rfl ⟨rfl, h⟩)))))
      · have hne : Int32.ofNat p ≠ Int32.ofNat q := fun z => hpq ((n32_eq (by omega) (by omega)).mp z)
        obtain ⟨x, hx, ex⟩ := w.2.2.2.1 p hp
        have hb := seesBit (q := q) hx hq hn
        have e1 := hc.sees hp
        have e2 := hm.sees hp
        have vi : vp_in (Int32.ofNat p) 16 := n32_in (by omega) (by omega)
        have fin : ∀ v : Int32, (∃ y : Nat, y < 2 ^ a.1.1 ∧ v = Int32.ofNat y) → hI Λ (hx_sI (hx_sI μ 11 p v) 54 p v) := by
          intro v hv
          have k1 : keepC μ (hx_sI μ 11 p v) := keepC.rf.sI (by omega)
          have k2 : keepM (hx_sI μ 11 p v) (hx_sI (hx_sI μ 11 p v) 54 p v) := keepM.rf.sI (by omega) (by omega)
          exact hI.q (a := a) hF hM h15 ht hl hi k1 k2 (WF_sees w hv) ((CW_sees hc v).kM k2) (MW_sees (hm.kC k1) v)
        refine selN hne ⟨vi, ?_⟩
        rw [n32_nat (by omega), e1]
        by_cases h3 : a3 = 0
        · rw [if_pos h3]
          refine sel0 ?_
          rintro v rfl
          refine ⟨vi, t_isPersonY (hm.kC (keepC.rf.sI (by omega))) w hp (sel1 (t_isPersonY (hm.kC (keepC.rf.sI (by omega))) w hq (sel1 (selN hne (sel0 ⟨vi, ?_⟩)))))⟩
          rintro v rfl
          have e3 : ∀ v : Int32, (hx_sI μ 11 p v).1 54 p = a.2.1 2 p := fun v => by rw [hm_sI, if_neg (by omega)]; exact e2
          rw [e3]
          refine ⟨vi, rfl, fin _ ?_⟩
          rw [ex]
          exact hb.2
        · rw [if_neg h3]
          refine sel1 ?_
          rintro v rfl
          refine ⟨vi, t_isPersonY (hm.kC (keepC.rf.sI (by omega))) w hp (sel1 (t_isPersonY (hm.kC (keepC.rf.sI (by omega))) w hq (sel1 (selN hne (sel1 ⟨vi, ?_⟩)))))⟩
          rintro v rfl
          have e3 : ∀ v : Int32, (hx_sI μ 11 p v).1 54 p = a.2.1 2 p := fun v => by rw [hm_sI, if_neg (by omega)]; exact e2
          rw [e3]
          refine ⟨vi, rfl, fin _ ?_⟩
          rw [ex]
          exact hb.1
    · exact t_hasY hc w hp (sel1 (t_hasN hc w h2 (sel0 (t_isPersonY hm w hp (sel1 (t_isPersonN hm w h2 (sel0 ⟨rfl, h⟩)))))))
  · exact t_hasN hc w h1 (sel0 (t_isPersonN hm w h1 (sel0 ⟨rfl, h⟩)))
theorem lawC0 {Λ : hx_L} {μ : hx_M} {ls : List (List hl_R)} {K : Option Nat → Prop} (h : LAWS Λ μ ls none) (k : K none) : wX11_lawInForce Λ μ K := by
  obtain ⟨_, h2, _, ⟨h4, h5, _⟩, _⟩ := h
  unfold wX11_lawInForce
  rw [h5]
  exact t_withinN (fun z => absurd z.1 (by decide)) (sel0 k)
theorem lawC1 {Λ : hx_L} {μ : hx_M} {ls : List (List hl_R)} {f : Nat} {K : Option Nat → Prop} (h : LAWS Λ μ ls (some f)) (k : K (Λ.2.1 6 f)) : wX11_lawInForce Λ μ K := by
  obtain ⟨h1, h2, _, ⟨h4, h5, _⟩, _⟩ := h
  unfold wX11_lawInForce
  rw [h5, h2, n32_nat (by omega)]
  exact t_withinY ((n32_pred (by omega)).mpr ⟨f, h4, rfl⟩) (sel1 ⟨n32_in (by omega) (by omega), k⟩)
theorem LAWS.get {Λ : hx_L} {μ : hx_M} {ls : List (List hl_R)} {fo : Option Nat} (h : LAWS Λ μ ls fo) {f : Nat} (hf : f < ls.length) : ∃ l sm, ls[f]? = some l ∧ l.length ≤ 16 ∧ (∀ r ∈ l, hl_okR r) ∧ sm ≤ 3500 ∧ hl_LC Λ μ f l ∧ hl_LM μ sm f l := by
  obtain ⟨h1, _, _, _, sm, h6, _, h8⟩ := h
  refine ⟨ls[f], sm, List.getElem?_eq_getElem hf, ?_⟩
  obtain ⟨a, b, c, d⟩ := h8 f ls[f] (List.getElem?_eq_getElem hf)
  exact ⟨a, b, by omega, c, d⟩
theorem op_force (Λ : hx_L) (μ : hx_M) (a1 : Int32) (h : hI Λ μ) : wL_8 Λ μ a1 hI := by
  obtain ⟨hF, hM, h15, a, ls, fo, is, w, hc, hm, ht, hl, hi⟩ := id h
  obtain ⟨l1, l2, l3, l4, sm, l5, l6, l7⟩ := id hl
  unfold wL_8 wX11_force wX12_force
  rw [l2]
  by_cases h1 : ∃ k, k < ls.length ∧ a1 = Int32.ofNat k
  · have h1' := (n32_pred (by omega)).mpr h1
    obtain ⟨k, hk, rfl⟩ := h1
    refine t_withinY h1' (seln1 ?_)
    have e : (hx_sI μ 0 5 (Int32.ofNat k)).1 49 20 = Int32.ofNat ls.length := by rw [hm_sI, if_neg (by omega)]; exact l3
    dsimp only
    rw [e]
    refine t_isInY h1' (seln1 ⟨rfl, ?_⟩)
    have f1 : ∀ i, i ≠ 0 → i ≠ 49 → (hx_sI (hx_sI μ 0 5 (Int32.ofNat k)) 49 21 (Int32.ofNat k)).1 i = μ.1 i := by
      intro i i0 i49
      show (if i = 49 then _ else if i = 0 then _ else μ.1 i) = μ.1 i
      rw [if_neg i49, if_neg i0]
    have f2 : ∀ j, j ≠ 5 → (hx_sI (hx_sI μ 0 5 (Int32.ofNat k)) 49 21 (Int32.ofNat k)).1 0 j = μ.1 0 j := by
      intro j hj
      simp [hm_sI, hj]
    have f3 : ∀ j, j ≠ 21 → (hx_sI (hx_sI μ 0 5 (Int32.ofNat k)) 49 21 (Int32.ofNat k)).1 49 j = μ.1 49 j := by
      intro j hj
      simp [hm_sI, hj]
    refine ⟨hF, hM, by rw [f1 15 (by omega) (by omega)]; exact h15, a, ls, some k, is, w, hc.fr (fun i j1 j2 => ⟨f1 _ (by omega) (by omega), rfl⟩), hm.fr (fun j hj => f3 j (by simp at hj; omega)) rfl (fun i hi => f1 i (by omega) (by omega)), ht.fr (f2 1 (by omega)) (f2 6 (by omega)) (f1 1 (by omega) (by omega)) (fun j hj => f3 j (by simp at hj; omega)) (f1 74 (by omega) (by omega)) (fun i _ _ => f1 i (by omega) (by omega)) (fun i _ _ => f1 i (by omega) (by omega)), ?_, hi.fr (f2 14 (by omega)) (f3 65 (by omega)) (f1 90 (by omega) (by omega)) rfl (fun i j1 => ⟨f1 i (by omega) (by omega), rfl⟩)⟩
    refine ⟨l1, by rw [f2 4 (by omega)]; exact l2, by rw [f3 20 (by omega)]; exact l3, ⟨hk, by simp [hm_sI], by simp [hm_sI]⟩, sm, l5, by rw [f3 22 (by omega)]; exact l6, fun i l hil => ?_⟩
    obtain ⟨a1, a2, ⟨lc, cc, len, b1, b2, b3, b4, b5, b6, b7, b8, b9, b10, b11⟩, c1, c2⟩ := l7 i l hil
    refine ⟨a1, a2, ⟨lc, cc, len, b1, b2, b3, b4, b5, b6, b7, b8, b9, ?_, hl_C.fr (f1 cc (by omega) (by omega)) b11⟩, ?_, hl_M.fr (fun k h1 h2 => f1 k (by omega) (by omega)) c2⟩
    · rw [f1 lc (by omega) (by omega)]; exact b10
    · rw [f1 63 (by omega) (by omega)]; exact c1
  · have h1' : ¬ (0 ≤ a1 ∧ a1 ≤ Int32.ofNat ls.length - 1) := fun z => h1 ((n32_pred (by omega)).mp z)
    refine t_withinN h1' (seln0 ?_)
    dsimp only
    rw [l3]
    exact t_isInN h1' (seln0 ⟨rfl, h⟩)
theorem sw10 {v : Int32} : ((v.toInt < 0 ∨ 9 < v.toInt) ∧ ¬ (0 ≤ v ∧ v ≤ 9)) ∨ v = 0 ∨ v = 1 ∨ v = 2 ∨ v = 3 ∨ v = 4 ∨ v = 5 ∨ v = 6 ∨ v = 7 ∨ v = 8 ∨ v = 9 := by
  by_cases h : 0 ≤ v ∧ v ≤ 9
  · right
    grind
  · left
    refine ⟨?_, h⟩
    rw [Int32.le_iff_toInt_le, Int32.le_iff_toInt_le] at h
    have z0 : (0 : Int32).toInt = 0 := rfl
    have z9 : (9 : Int32).toInt = 9 := rfl
    rw [z0, z9] at h
    omega
theorem op_count (Λ : hx_L) (μ : hx_M) (a1 : Int32) (h : hI Λ μ) : wL_34 Λ μ a1 hI := by
  obtain ⟨hF, hM, h15, a, ls, fo, is, w, hc, hm, ht, hl, hi⟩ := id h
  obtain ⟨l1, l2, l3, l4, sm, l5, l6, l7⟩ := id hl
  obtain ⟨⟨fd, p1, p2, p3, p4⟩, p5, np, p6, p7, p8, p9⟩ := id ht
  obtain ⟨⟨i1, i2, i3, i4⟩, _⟩ := id hi
  have hs := w.s
  unfold wL_34 wX11_count wX12_count
  rcases sw10 (v := a1) with ⟨c1, c2⟩ | c | c | c | c | c | c | c | c | c | c
  · have z : ∀ x : Int32, 0 ≤ x → x ≤ 9 → ¬ a1 = x := fun x h1 h2 z => c2 (z ▸ ⟨h1, h2⟩)
    have all : wX11_isHouse (a1 - 10) (fun r151_4 => (r151_4 = 0 → wX12_count μ a1 (fun q => -1 = q ∧ hI Λ μ)) ∧ (¬ (r151_4 = 0) → (wX3_shownBy μ (a1 - 10) (μ.1 7 7) (fun r175_6 => wX12_count μ a1 (fun q => r175_6 = q ∧ hI Λ μ))))) := by
      by_cases h1 : 0 ≤ a1 - 10 ∧ a1 - 10 ≤ 3
      · refine t_isHouseY h1 (sel1 ?_)
        have h2 : 10 ≤ a1 ∧ a1 ≤ 13 := by grind
        obtain ⟨k, e, hk⟩ := n32_of (hi := 3) h1.1 h1.2 (by omega)
        unfold wX12_count
        rw [e, hc.s]
        refine houseC hc w.up (Nat.le_refl _) (by omega) (t_isInY h2 (sel1 ⟨n32_in (by omega) (by omega), ?_, h⟩))
        rw [n32_nat (by omega), hm.house1 (by omega)]
      · have h2 : ¬ (10 ≤ a1 ∧ a1 ≤ 13) := by grind
        refine t_isHouseN h1 (sel0 ?_)
        unfold wX12_count
        exact t_isInN h2 (sel0 ⟨fun _ => ⟨rfl, h⟩, fun x => absurd x (z 0 (by decide) (by decide)), fun x => absurd x (z 1 (by decide) (by decide)), fun x => absurd x (z 2 (by decide) (by decide)), fun x => absurd x (z 3 (by decide) (by decide)), fun x => absurd x (z 4 (by decide) (by decide)), fun x => absurd x (z 5 (by decide) (by decide)), fun x => absurd x (z 6 (by decide) (by decide)), fun x => absurd x (z 7 (by decide) (by decide)), fun x => absurd x (z 8 (by decide) (by decide)), fun x => absurd x (z 9 (by decide) (by decide))⟩)
    have z0 := z 0 (by decide) (by decide)
    have z1 := z 1 (by decide) (by decide)
    have z2 := z 2 (by decide) (by decide)
    have z3 := z 3 (by decide) (by decide)
    have z4 := z 4 (by decide) (by decide)
    have z5 := z 5 (by decide) (by decide)
    have z6 := z 6 (by decide) (by decide)
    have z7 := z 7 (by decide) (by decide)
    have z8 := z 8 (by decide) (by decide)
    have z9 := z 9 (by decide) (by decide)
    cases fo with
    | none => exact lawC0 hl ⟨fun _ => all, fun x => absurd x z0, fun x => absurd x z1, fun x => absurd x z2, fun x => absurd x z3, fun x => absurd x z4, fun x => absurd x z5, fun x => absurd x z6, fun x => absurd x z7, fun x => absurd x z8, fun x => absurd x z9⟩
    | some f => exact lawC1 hl ⟨fun _ => all, fun x => absurd x z0, fun x => absurd x z1, fun x => absurd x z2, fun x => absurd x z3, fun x => absurd x z4, fun x => absurd x z5, fun x => absurd x z6, fun x => absurd x z7, fun x => absurd x z8, fun x => absurd x z9⟩
  all_goals
    subst c
    have h20 := hc.money (Nat.le_refl _)
    have v301 : vp_in (Int32.ofNat a.1.2.1) 301 := n32_in (by omega) (by omega)
    have ns := n32_nat (a := a.1.2.1) (by omega)
    cases fo with
    | none =>
      refine lawC0 hl ?_
      simp [wX12_count, wX12_isIn, hc.n, hc.s, hc.ft, hm.n, hm.s, hm.ft, l2, l3, l4.2.1, l4.2.2, p2, p3, p7, p8, i2, i3, h20, hm.money1, h, v301, ns]
    | some f =>
      refine lawC1 hl ?_
      have vf : vp_in (Int32.ofNat f) 6 := n32_in (by have := l4.1; omega) (by have := l4.1; omega)
      obtain ⟨l, sm', q1, q2, q3, q4, ⟨lc, cc, len, b1, b2, b3, b4, b5, b6, b7, b8, b9, b10, b11⟩, q6⟩ := hl.get l4.1
      have nf := n32_nat (a := f) (by have := l4.1; omega)
      have ne1 : ¬ Int32.ofNat f = -1 := fun z => by
        have := (n32_le (a := 0) (b := f) (by omega) (by have := l4.1; omega)).mpr (by omega)
        rw [z] at this
        exact absurd this (by decide)
      simp [wX12_count, wX12_isIn, hc.n, hc.s, hc.ft, hm.n, hm.s, hm.ft, l2, l3, l4.2.1, l4.2.2, p2, p3, p7, p8, i2, i3, h20, hm.money1, h, v301, ns, b1, b6, b10, q6.1, vf, nf, ne1]
