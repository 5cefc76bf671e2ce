/-! layer 2: law, one part of the reference -/
section ONM
variable {N : Nat} {t : Nat → Int32} {μ m m' : hx_M} {h d i i' : Nat} {V : List hl_S} {T : Nat → Int32}
theorem RS.dep {d' : Nat} {v : Int32} (rs : RS N t μ h d V i m) (hv : v = Int32.ofNat d') : RS N t μ h d' V i (hx_sI m 49 26 v) := by
  obtain ⟨⟨a1, b, a2, a3, a4⟩, r2, r3, r4, r5, r6, r7, r8, r9⟩ := rs
  refine ⟨⟨a1, b, a2, by rw [sIj (by omega)]; exact a3, a4⟩, r2, by rw [sIe]; exact hv, by rw [sIj (by omega)]; exact r4, fun j s e => ?_, fun c q1 q2 q3 q4 => by rw [sIk q1]; exact r6 c q1 q2 q3 q4, fun j q1 q2 q3 q4 q5 => by rw [sIj q3]; exact r7 j q1 q2 q3 q4 q5, fun j hj => ?_, r9⟩
  · rw [sIk (by omega), sIk (by omega), sIk (by omega)]; exact r5 j s e
  · rw [sIk (by omega), sIk (by omega), sIk (by omega)]; exact r8 j hj
theorem opensM {K : Int32 → hx_M → Prop} (hd : d ≤ 8) (rs : RS N t μ h d V i m) (k1 : d < 8 → K 1 (hx_sI m 49 26 (Int32.ofNat (d + 1)))) (k0 : d = 8 → K 0 m) : wX12_opens m K := by
  have e8 : (8 : Int32) = Int32.ofNat 8 := rfl
  unfold wX12_opens
  rw [rs.2.2.1, n32_add1, e8, ne_eq, n32_eq (by omega) (by omega)]
  exact ⟨fun z => k1 (by omega), fun z => k0 z⟩
theorem signAt (hT : T = tkF t N) {c x : Int32} (hc : isSg c = true) (hx : 20000 + c = x) : T i = x ↔ pos t N i < N ∧ t (pos t N i) = c := by
  subst hT; subst hx; exact tok_sign hc
theorem signNext (hT : T = tkF t N) {c x : Int32} (hc : isSg c = true) (hx : 20000 + c = x) (hp : T i = x) : i < tkC t N ∧ nb t N (pos t N i + 1) = pos t N (i + 1) := by
  subst hT; subst hx; exact sign_next hc hp
theorem single0 {W1 : hx_M → (Int32 → hx_M → Prop) → Prop} (hT : T = tkF t N) (tx : TX N t μ) (hh : h ≤ 3500) : SpM N t μ h 8 (wX12_single W1) (pOne T 0) := by
  intro V i m K rs k
  have hN := tx.1
  have hp := pos_le (t := t) (N := N) (i := i)
  have e : pOne T 0 i = if T i = 10020 ∨ T i = 20040 then (false, i, []) else pCmp T i := rfl
  rw [e] at k
  unfold wX12_single
  refine wordT hT (rs.tx tx) rs.1 (fun v m1 o1 a1 hw hn => ?_)
  have rs1 := rs.oX o1 a1.at (Nat.le_refl _)
  have tx1 := rs1.tx tx
  have e20 : v = (7237492 : Int64) ↔ T i = 10020 := by rw [show (7237492 : Int64) = _ from (wkE 20 (by omega)).symm]; exact hw 20 (by omega)
  rw [ne_eq, cmp_0, e20]
  refine ⟨fun z => ?_, fun z => ?_⟩
  · have go : T i ≠ 20040 → wX12_single_J130 W1 K m1 := fun y => by
      rw [if_neg (fun w => by rcases w with w | w; exact z w; exact y w)] at k
      exact cmpM hT tx hh V i m1 K rs1 k
    rw [a1.2, tx1.2.1, n32_nat (by omega), n32_le (by omega) (by omega)]
    refine ⟨fun y => go (fun w => ?_), fun y => ⟨n32_in (by omega) (by omega), ?_⟩⟩
    · have := ((signAt hT (c := 40) (by decide) (by decide)).mp w).1
      omega
    · rw [tx1.2.2 _ (by omega)]
      refine ⟨fun w => go (fun w2 => w ((signAt hT (c := 40) (by decide) (by decide)).mp w2).2), fun w => ?_⟩
      have hsg : T i = 20040 := (signAt hT (c := 40) (by decide) (by decide)).mpr ⟨by omega, w⟩
      rw [if_pos (Or.inr hsg)] at k
      exact opensM (by omega) rs1 (fun z => absurd z (by omega)) (fun _ => seln0 (k _ (RO.no rfl ⟨a1, rs1.2.2.2.2.2⟩)))
  · rw [if_pos (Or.inl z)] at k
    exact opensM (by omega) rs1 (fun z => absurd z (by omega)) (fun _ => seln0 (k _ (RO.no rfl ⟨a1, rs1.2.2.2.2.2⟩)))
theorem singleS {W1 : hx_M → (Int32 → hx_M → Prop) → Prop} {q : Nat} (hd : d < 8) (hT : T = tkF t N) (tx : TX N t μ) (hh : h ≤ 3500) (h1 : SpM N t μ h (d + 1) W1 (pOne T q)) : SpM N t μ h d (wX12_single W1) (pOne T (q + 1)) := by
  intro V i m K rs k
  have hN := tx.1
  have hC := tkC_le (t := t) (N := N)
  have hp := pos_le (t := t) (N := N) (i := i)
  have e : pOne T (q + 1) i = if T i = 10020 then ((pOne T q (i + 1)).1, (pOne T q (i + 1)).2.1, (pOne T q (i + 1)).2.2 ++ [(5, 0, 0)])
    else if T i = 20040 then (if (pAny T (pOne T q) (i + 1)).1 = true ∧ T (pAny T (pOne T q) (i + 1)).2.1 = 20041 then (true, (pAny T (pOne T q) (i + 1)).2.1 + 1, (pAny T (pOne T q) (i + 1)).2.2) else (false, (pAny T (pOne T q) (i + 1)).2.1, []))
    else pCmp T i := rfl
  rw [e] at k
  unfold wX12_single
  refine wordT hT (rs.tx tx) rs.1 (fun v m1 o1 a1 hw hn => ?_)
  have rs1 := rs.oX o1 a1.at (Nat.le_refl _)
  have tx1 := rs1.tx tx
  have e20 : v = (7237492 : Int64) ↔ T i = 10020 := by rw [show (7237492 : Int64) = _ from (wkE 20 (by omega)).symm]; exact hw 20 (by omega)
  rw [ne_eq, cmp_0, e20]
  refine ⟨fun z => ?_, fun z => ?_⟩
  · rw [if_neg z] at k
    have go : T i ≠ 20040 → wX12_single_J130 W1 K m1 := fun y => by
      rw [if_neg y] at k
      exact cmpM hT tx hh V i m1 K rs1 k
    rw [a1.2, tx1.2.1, n32_nat (by omega), n32_le (by omega) (by omega)]
    refine ⟨fun y => go (fun w => ?_), fun y => ⟨n32_in (by omega) (by omega), ?_⟩⟩
    · have := ((signAt hT (c := 40) (by decide) (by decide)).mp w).1
      omega
    · rw [tx1.2.2 _ (by omega)]
      refine ⟨fun w => go (fun w2 => w ((signAt hT (c := 40) (by decide) (by decide)).mp w2).2), fun w => ?_⟩
      have hsg : T i = 20040 := (signAt hT (c := 40) (by decide) (by decide)).mpr ⟨by omega, w⟩
      obtain ⟨n1, n2⟩ := signNext hT (c := 40) (by decide) (by decide) hsg
      rw [if_pos hsg] at k
      refine opensM (by omega) rs1 (fun _ => seln1 ?_) (fun z => absurd z (by omega))
      have rs2 : RS N t μ h (d + 1) V i (hx_sI m1 49 26 (Int32.ofNat (d + 1))) := rs1.dep rfl
      have o2 : offX (hx_sI m1 49 26 (Int32.ofNat (d + 1))) (hx_sI (hx_sI m1 49 26 (Int32.ofNat (d + 1))) 49 25 ((hx_sI m1 49 26 (Int32.ofNat (d + 1))).1 49 25 + 1)) := offX.rf.sI (by omega)
      have at2 : AT N t (i + 1) (hx_sI (hx_sI m1 49 26 (Int32.ofNat (d + 1))) 49 25 ((hx_sI m1 49 26 (Int32.ofNat (d + 1))).1 49 25 + 1)) := ⟨n1, pos t N i + 1, by omega, by rw [sIe, sIj (by omega), a1.2, n32_add1], n2⟩
      have rs3 := rs2.oX o2 at2 (by omega)
      refine anyM hT tx hh (pOne_grow q) h1 _ _ _ _ rs3 (fun m3 ro => ?_)
      cases hb : (pAny T (pOne T q) (i + 1)).1 with
      | false =>
        rw [if_neg (fun z => by rw [hb] at z; exact absurd z.1 (by decide))] at k
        exact sel0 (k _ (RO.no rfl (ro.2 hb)))
      | true =>
        have rs4 := ro.1 hb
        refine sel1 (takesSignT hT (rs4.tx tx) rs4.1 (x := 20041) (by decide) (by decide) (fun y m4 o4 a4 => ?_) (fun y m4 o4 a4 => ?_))
        · rw [if_pos ⟨hb, y⟩] at k
          have rs5 := rs4.oX o4 a4 (by omega)
          refine seln1 (k _ (RO.yes rfl (rs5.dep (d' := d) ?_)))
          rw [rs5.2.2.1, show (1 : Int32) = Int32.ofNat 1 from rfl, n32_subn (by omega)]
          rfl
        · rw [if_neg (fun z => y z.2)] at k
          exact seln0 (k _ (RO.no rfl (rs4.fail o4 a4)))
  · rw [if_pos z] at k
    have at1 := hn 20 (by omega) z
    refine opensM (by omega) rs1 (fun _ => seln1 ?_) (fun z => absurd z (by omega))
    have rs2 : RS N t μ h (d + 1) V i (hx_sI m1 49 26 (Int32.ofNat (d + 1))) := rs1.dep rfl
    have o2 : offX (hx_sI m1 49 26 (Int32.ofNat (d + 1))) (hx_sI (hx_sI m1 49 26 (Int32.ofNat (d + 1))) 49 25 ((hx_sI m1 49 26 (Int32.ofNat (d + 1))).1 49 41)) := offX.rf.sI (by omega)
    obtain ⟨b1, b, b2, b3, b4⟩ := at1
    have at2 : AT N t (i + 1) (hx_sI (hx_sI m1 49 26 (Int32.ofNat (d + 1))) 49 25 ((hx_sI m1 49 26 (Int32.ofNat (d + 1))).1 49 41)) := ⟨b1, b, b2, by rw [sIe] at b3; rw [sIe, sIj (by omega)]; exact b3, b4⟩
    have rs3 := rs2.oX o2 at2 (by omega)
    refine h1 _ _ _ _ rs3 (fun m3 ro => ?_)
    cases hb : (pOne T q (i + 1)).1 with
    | false =>
      have k' := k m3 (RO.no hb (ro.2 hb))
      rw [show (((pOne T q (i + 1)).1, (pOne T q (i + 1)).2.1, (pOne T q (i + 1)).2.2 ++ [(5, 0, 0)]) : pR).1 = false from hb] at k'
      exact seln0 k'
    | true =>
      have rs4 := ro.1 hb
      have hg := pOne_grow q _ hb
      have hl := rs.2.1
      have i4 := rs4.1.1
      have rs5 : RS N t μ h d (V ++ (pOne T q (i + 1)).2.2) (pOne T q (i + 1)).2.1 (hx_sI m3 49 26 (m3.1 49 26 - 1)) := rs4.dep (by
        rw [rs4.2.2.1, show (1 : Int32) = Int32.ofNat 1 from rfl, n32_subn (by omega)]
        rfl)
      refine seln1 (putsM (a := 5) (b := 0) (c := 0) (by omega) rs5 ?_ rfl rfl rfl (fun m6 rs6 => ?_))
      · rw [List.length_append]; omega
      · have k' := k m6 (RO.yes hb (by
          show RS N t μ h d (V ++ ((pOne T q (i + 1)).2.2 ++ [(5, 0, 0)])) (pOne T q (i + 1)).2.1 m6
          rw [← List.append_assoc]; exact rs6))
        rw [show (((pOne T q (i + 1)).1, (pOne T q (i + 1)).2.1, (pOne T q (i + 1)).2.2 ++ [(5, 0, 0)]) : pR).1 = true from hb] at k'
        exact k'
theorem singleM (hT : T = tkF t N) (tx : TX N t μ) (hh : h ≤ 3500) : ∀ q, q ≤ 8 → SpM N t μ h (8 - q) (wX12_single_d (q + 4)) (pOne T q)
  | 0, _ => single0 hT tx hh
  | q + 1, hq => by
    have e : 8 - q = (8 - (q + 1)) + 1 := by omega
    have ih := singleM hT tx hh q (by omega)
    rw [e] at ih
    exact singleS (by omega) hT tx hh ih
end ONM
