/-! layer 2: law, the reference's laws -/
def OFK (μ : hx_M) (hs kk : Nat) (m : hx_M) : Prop := (∀ c, c ≠ 49 → (c < 64 ∨ 72 < c) → m.1 c = μ.1 c) ∧ (∀ c, 64 ≤ c → c ≤ 69 → ∀ j, j ≠ kk → m.1 c j = μ.1 c j) ∧ (∀ j, j ≠ 22 → j ≠ 25 → j ≠ 26 → j ≠ 41 → j ≠ 42 → m.1 49 j = μ.1 49 j) ∧ (∀ j, j < hs → m.1 70 j = μ.1 70 j ∧ m.1 71 j = μ.1 71 j ∧ m.1 72 j = μ.1 72 j) ∧ m.2 = μ.2
def OFL (μ : hx_M) (h lc : Nat) (m : hx_M) : Prop := (∀ c, c ≠ 49 → (c < 63 ∨ 72 < c) → m.1 c = μ.1 c) ∧ (∀ j, j ≠ lc → m.1 63 j = μ.1 63 j) ∧ (∀ c, 64 ≤ c → c ≤ 69 → ∀ j, j < 16 * lc → m.1 c j = μ.1 c j) ∧ (∀ j, j ≠ 22 → j ≠ 25 → j ≠ 26 → j ≠ 41 → j ≠ 42 → m.1 49 j = μ.1 49 j) ∧ (∀ j, j < h → m.1 70 j = μ.1 70 j ∧ m.1 71 j = μ.1 71 j ∧ m.1 72 j = μ.1 72 j) ∧ m.2 = μ.2
section LWM
variable {N : Nat} {t : Nat → Int32} {μ m m' : hx_M} {i i' kk hs h lc : Nat} {T : Nat → Int32}
theorem OFK.of (a : OFA μ kk m) (b : OFI m hs kk m') : OFK μ hs kk m' := by
  obtain ⟨a1, a2, a3, a4⟩ := a
  obtain ⟨b1, b2, b3, b4, b5⟩ := b
  refine ⟨fun c h1 h2 => (b1 c h1 (by omega)).trans (a1 c h1 (by omega)), fun c h1 h2 j hj => ?_, fun j h0 h1 h2 h3 h4 => (b3 j h0 h1 h2 h3 h4).trans (a3 j h1 h2 h3 h4), fun j hj => ?_, b5.trans a4⟩
  · by_cases c7 : c ≤ 67
    · rw [b1 c (by omega) (by omega)]; exact a2 c h1 c7 j hj
    · have hc : c = 68 ∨ c = 69 := by omega
      rcases hc with rfl | rfl
      · rw [(b2 j hj).1, a1 68 (by omega) (by omega)]
      · rw [(b2 j hj).2, a1 69 (by omega) (by omega)]
  · obtain ⟨q1, q2, q3⟩ := b4 j hj
    rw [q1, q2, q3, a1 70 (by omega) (by omega), a1 71 (by omega) (by omega), a1 72 (by omega) (by omega)]
    exact ⟨rfl, rfl, rfl⟩
theorem OFI.rf : OFI m hs kk m := ⟨fun _ _ _ => rfl, fun _ _ => ⟨rfl, rfl⟩, fun _ _ _ _ _ _ => rfl, fun _ _ => ⟨rfl, rfl, rfl⟩, rfl⟩
theorem OFK.oX (a : OFK μ hs kk m) (o : offX m m') : OFK μ hs kk m' := by
  obtain ⟨a1, a2, a3, a4, a5⟩ := a
  refine ⟨fun c h1 h2 => by rw [o.1 c h1]; exact a1 c h1 h2, fun c h1 h2 j hj => by rw [o.1 c (by omega)]; exact a2 c h1 h2 j hj, fun j h0 h1 h2 h3 h4 => by rw [o.2.1 j h1 h3 h4]; exact a3 j h0 h1 h2 h3 h4, fun j hj => ?_, by rw [o.2.2]; exact a5⟩
  rw [o.1 70 (by omega), o.1 71 (by omega), o.1 72 (by omega)]; exact a4 j hj
theorem OFL.tx (a : OFL μ h lc m) (tx : TX N t μ) : TX N t m := ⟨tx.1, by rw [a.2.2.2.1 24 (by omega) (by omega) (by omega) (by omega) (by omega)]; exact tx.2.1, fun j hj => by rw [a.1 75 (by omega) (by omega)]; exact tx.2.2 j hj⟩
theorem ruleM {K : Int32 → hx_M → Prop} (hT : T = tkF t N) (tx : TX N t μ) (hk : kk < 96) (hh : hs ≤ 3500) (a : AT N t i μ) (e22 : μ.1 49 22 = Int32.ofNat hs)
    (k1 : (pRule T i).1 = true → ∀ m', AT N t (pRule T i).2.1 m' → m'.1 49 22 = Int32.ofNat (hs + (pRule T i).2.2.2.length) → hl_M m' (hs + (pRule T i).2.2.2.length) kk [(pRule T i).2.2] → OFK μ hs kk m' → K 1 m')
    (k0 : (pRule T i).1 = false → ∀ m', AX N t (pRule T i).2.1 m' → OFK μ hs kk m' → K 0 m') : wX12_rule μ (Int32.ofNat kk) K := by
  rw [pRule_eq] at k0 k1
  refine aimM hT tx hk a (fun ha m1 at1 f26 f64 f6 o1 => ?_) (fun ha m1 ax1 o1 => ?_)
  · rw [if_neg (by rw [ha]; simp)] at k0 k1
    refine ruleIfM hT (o1.tx tx) hk hh at1 (by rw [o1.2.2.1 22 (by omega) (by omega) (by omega) (by omega)]; exact e22) f26 (fun hb m2 at2 g22 st o2 => ?_) (fun hb m2 ax2 o2 => ?_)
    · rw [if_neg (by rw [hb]; simp)] at k1
      refine k1 rfl m2 at2 g22 ⟨?_, fun z => ?_, ⟨hs, st.1, st.2.1, Nat.le_refl _, fun q s e => st.2.2 q s e⟩, trivial⟩ (OFK.of o1 o2)
      · rw [o2.1 64 (by omega) (by omega)]; exact f64
      · rw [o2.1 65 (by omega) (by omega), o2.1 66 (by omega) (by omega), o2.1 67 (by omega) (by omega)]; exact f6 z
    · rw [if_pos hb] at k0
      exact k0 rfl m2 ax2 (OFK.of o1 o2)
  · rw [if_pos ha] at k0
    exact k0 rfl m1 ax1 (OFK.of o1 OFI.rf)
theorem tk_end_iff : tkF t N i = -2 ↔ N ≤ pos t N i := by
  by_cases c : i < tkC t N
  · obtain ⟨p1, _, _⟩ := pos_s c
    rw [tk_at c]
    constructor
    · intro z
      exfalso
      rcases tK_kind (t := t) p1 with ⟨_, h3⟩ | ⟨_, _, h3⟩ | ⟨_, _, h3⟩
      · rcases h3 with h3 | ⟨j, hj, h3⟩
        · rw [h3] at z; exact absurd z (by decide)
        · exact nat_of2 (a := 10000 + j) (by omega) (z.symm.trans h3)
      · rcases h3 with h3 | ⟨j, hj, h3⟩
        · rw [h3] at z; exact absurd z (by decide)
        · exact nat_of2 (a := j) (by omega) (z.symm.trans h3)
      · rcases h3 with ⟨h3, h4⟩ | ⟨h3, h4⟩
        · obtain ⟨v, v1, v2, ev⟩ := n20 (c := 0) h3
          rw [h4, ev, show (20000 : Int32) = Int32.ofNat 20000 from rfl, n32_add] at z
          exact nat_of2 (a := 20000 + v) (by omega) z.symm
        · rw [h4] at z; exact absurd z (by decide)
    · intro z; omega
  · rw [tk_end (Nat.not_lt.mp c), pos_e (Nat.not_lt.mp c)]
    exact ⟨fun _ => Nat.le_refl _, fun _ => rfl⟩
theorem sl_app : ∀ {L1 L2 : List hl_R}, sl (L1 ++ L2) = sl L1 + sl L2
  | [], L2 => (Nat.zero_add _).symm
  | r :: rs, L2 => by
    show r.2.length + sl (rs ++ L2) = r.2.length + sl rs + sl L2
    rw [sl_app, Nat.add_assoc]
theorem law_L87 {K K3 : Int32 → hx_M → Prop} {v2 : Int32} (hT : T = tkF t N) (tx0 : TX N t μ) (hlc : lc ≤ 4) (hh : h ≤ 2800) (e20 : μ.1 49 20 = Int32.ofNat lc) : ∀ (f k i : Nat) (L0 : List hl_R) (m : hx_M), k + f = 17 → k ≤ 16 → L0.length = k → sl L0 ≤ i → AX N t i m → OFL μ h lc m → m.1 63 lc = Int32.ofNat k → m.1 49 22 = Int32.ofNat (h + sl L0) → hl_M m (h + sl L0) (16 * lc) L0 →
    ((pLaw T f k i).1 = true → ∀ m', OFL μ h lc m' → m'.1 63 lc = Int32.ofNat (L0 ++ (pLaw T f k i).2.2).length → m'.1 49 22 = Int32.ofNat (h + sl (L0 ++ (pLaw T f k i).2.2)) → hl_M m' (h + sl (L0 ++ (pLaw T f k i).2.2)) (16 * lc) (L0 ++ (pLaw T f k i).2.2) → K3 1 m') →
    ((pLaw T f k i).1 = false → ∀ m', OFL μ h lc m' → AX N t (pLaw T f k i).2.1 m' → K3 0 m') → wX12_law_L87 v2 K K3 (f + 1) 1 m := by
  intro f
  induction f with
  | zero => intro k i L0 m e hk; omega
  | succ f ih =>
    intro k i L0 m e hk hl hsl ax o e63 e22 hm k1 k0
    have tx := o.tx tx0
    have hN := tx.1
    have hC := tkC_le (t := t) (N := N)
    have hp := pos_le (t := t) (N := N) (i := i)
    have f20 : m.1 49 20 = Int32.ofNat lc := by rw [o.2.2.2.1 20 (by omega) (by omega) (by omega) (by omega) (by omega)]; exact e20
    have v6 : vp_in (Int32.ofNat lc) 6 := n32_in (by omega) (by omega)
    rw [pLaw_s] at k0 k1
    have hE : T i = -2 ↔ N ≤ pos t N i := by rw [hT]; exact tk_end_iff
    unfold wX12_law_L87
    rw [ax.2, tx.2.1, n32_le (by omega) (by omega), f20, n32_nat (by omega), e63]
    refine selF (by decide) ⟨fun z => ?_, fun z => ⟨v6, fun y => ?_, fun y => ⟨v6, ?_⟩⟩⟩
    · rw [if_pos (hE.mpr z)] at k1
      refine k1 rfl m o ?_ ?_ ?_
      · rw [List.append_nil, hl]; exact e63
      · rw [List.append_nil]; exact e22
      · rw [List.append_nil]; exact hm
    · have hk16 : k = 16 := by
        have := (n32_le (a := 16) (by omega) (by omega)).mp y
        omega
      rw [if_neg (fun w => z (hE.mp w)), if_pos hk16] at k0
      unfold wX12_law_J144 wX12_law_J145
      refine seln0 ?_
      unfold wX12_law_L87
      exact selT rfl (k0 rfl m o ax)
    · have hk16 : ¬ k = 16 := fun w => y (by rw [w]; exact (n32_le (a := 16) (by omega) (by omega)).mpr (Nat.le_refl _))
      rw [if_neg (fun w => z (hE.mp w)), if_neg hk16] at k0 k1
      have ex : 16 * Int32.ofNat lc + Int32.ofNat k = Int32.ofNat (16 * lc + k) := by
        rw [← n32_add, ← n32_mul]; rfl
      rw [ex]
      rintro x rfl
      have hi := ax.1
      refine ruleM hT tx (kk := 16 * lc + k) (by omega) (by omega) ax.at e22 (fun hb m1 at1 g22 hm1 o1 => sel1 ?_) (fun hb m1 ax1 o1 => sel0 ?_)
      · rw [if_pos hb] at k0 k1
        obtain ⟨-, r2, -⟩ := pRule_ok hb
        have h20 : m1.1 49 20 = Int32.ofNat lc := by rw [o1.2.2.1 20 (by omega) (by omega) (by omega) (by omega) (by omega)]; exact f20
        have h63 : m1.1 63 = m.1 63 := o1.1 63 (by omega) (by omega)
        unfold wX12_law_J145_18
        rw [h20, n32_nat (by omega), h63, e63, n32_add1]
        refine seln1 ⟨v6, v6, ?_⟩
        obtain ⟨a1, b, b1, b2, b3⟩ := at1
        have txm : TX N t (hx_sI m1 63 lc (Int32.ofNat (k + 1))) := ⟨tx.1, by rw [sIk (by omega), o1.2.2.1 24 (by omega) (by omega) (by omega) (by omega) (by omega)]; exact tx.2.1, fun j hj => by rw [sIk (by omega), o1.1 75 (by omega) (by omega)]; exact tx.2.2 j hj⟩
        refine blanksM txm b1 (by rw [sIk (by omega)]; exact b2) (fun m2 ox q25 => ?_)
        rw [b3] at q25
        have c2 : ∀ c, c ≠ 49 → c ≠ 63 → m2.1 c = m1.1 c := fun c h1 h2 => by rw [ox.1 c h1, sIk h2]
        have s2 : ∀ j, j ≠ 25 → j ≠ 41 → j ≠ 42 → m2.1 49 j = m1.1 49 j := fun j h1 h2 h3 => by rw [ox.2.1 j h1 h2 h3, sIk (by omega)]
        have esl : sl (L0 ++ [(pRule T i).2.2]) = sl L0 + (pRule T i).2.2.2.length := by
          rw [sl_app]; rfl
        have eap : ∀ L : List hl_R, (L0 ++ [(pRule T i).2.2]) ++ L = L0 ++ (pRule T i).2.2 :: L := fun L => by rw [List.append_assoc]; rfl
        have g22' : m1.1 49 22 = Int32.ofNat (h + sl L0 + (pRule T i).2.2.2.length) := g22
        refine ih (k + 1) (pRule T i).2.1 (L0 ++ [(pRule T i).2.2]) m2 (by omega) (by omega) (by rw [List.length_append, hl]; rfl) (by rw [esl]; rcases r2 with ⟨r3, r4⟩ | r3; (rw [r3]; show sl L0 + 0 ≤ _; omega); omega) ⟨a1, q25⟩ ?_ ?_ ?_ ?_ (fun hz m' p1 p2 p3 p4 => ?_) (fun hz m' p1 p2 => k0 hz m' p1 p2)
        · obtain ⟨w1, w2, w3, w4, w5, w6⟩ := o
          obtain ⟨u1, u2, u3, u4, u5⟩ := o1
          refine ⟨fun c h1 h2 => by rw [c2 c h1 (by omega), u1 c h1 (by omega)]; exact w1 c h1 h2, fun j hj => by rw [ox.1 63 (by omega), sIj hj, h63]; exact w2 j hj, fun c h1 h2 j hj => by rw [c2 c (by omega) (by omega), u2 c h1 h2 j (by omega)]; exact w3 c h1 h2 j hj, fun j q0 q1 q2 q3 q4 => by rw [s2 j q1 q3 q4, u3 j q0 q1 q2 q3 q4]; exact w4 j q0 q1 q2 q3 q4, fun j hj => ?_, by rw [ox.2.2]; exact u5.trans w6⟩
          obtain ⟨x1, x2, x3⟩ := u4 j (by omega)
          rw [c2 70 (by omega) (by omega), c2 71 (by omega) (by omega), c2 72 (by omega) (by omega), x1, x2, x3]
          exact w5 j hj
        · rw [ox.1 63 (by omega), sIe]
        · rw [s2 22 (by omega) (by omega) (by omega), esl, ← Nat.add_assoc]; exact g22'
        · rw [esl, ← Nat.add_assoc]
          refine hl_M_app (hl_M_mono (by omega) (fun j hj => ?_) (fun c h1 h2 j h3 h4 => ?_) hm) ?_
          · obtain ⟨x1, x2, x3⟩ := o1.2.2.2.1 j hj
            rw [c2 70 (by omega) (by omega), c2 71 (by omega) (by omega), c2 72 (by omega) (by omega), x1, x2, x3]
            exact ⟨rfl, rfl, rfl⟩
          · rw [c2 c (by omega) (by omega)]; exact o1.2.1 c h1 h2 j (by omega)
          · rw [hl]
            exact hl_M.fr (fun c h1 h2 => c2 c (by omega) (by omega)) hm1
        · rw [eap] at p2 p3 p4
          exact k1 hz m' p1 p2 p3 p4
      · rw [if_neg (by rw [hb]; simp)] at k0
        unfold wX12_law_J144 wX12_law_J145
        refine seln0 ?_
        unfold wX12_law_L87
        refine selT rfl (k0 rfl m1 ?_ ax1)
        obtain ⟨w1, w2, w3, w4, w5, w6⟩ := o
        obtain ⟨u1, u2, u3, u4, u5⟩ := o1
        refine ⟨fun c h1 h2 => by rw [u1 c h1 (by omega)]; exact w1 c h1 h2, fun j hj => by rw [u1 63 (by omega) (by omega)]; exact w2 j hj, fun c h1 h2 j hj => by rw [u2 c h1 h2 j (by omega)]; exact w3 c h1 h2 j hj, fun j q0 q1 q2 q3 q4 => by rw [u3 j q0 q1 q2 q3 q4]; exact w4 j q0 q1 q2 q3 q4, fun j hj => ?_, u5.trans w6⟩
        obtain ⟨x1, x2, x3⟩ := u4 j (by omega)
        rw [x1, x2, x3]
        exact w5 j hj
theorem law_L28 {K : Int32 → hx_M → Prop} {K5 : hx_M → Prop} (hN : N ≤ 700) (ht : ∀ j, j < N → vp_nar .byte (μ.1 74 j) = t j) (k : ∀ m', (∀ j, j < N → m'.1 75 j = t j) → (∀ c, c ≠ 75 → m'.1 c = μ.1 c) → m'.2 = μ.2 → K5 m') : ∀ (r p : Nat) (m : hx_M), p + r = N → (∀ j, j < p → m.1 75 j = t j) → (∀ c, c ≠ 75 → m.1 c = μ.1 c) → m.2 = μ.2 → wX12_law_L28 (Int32.ofNat N) K K5 (r + 1) (Int32.ofNat p) m := by
  intro r
  induction r with
  | zero =>
    intro p m e h1 h2 h3
    unfold wX12_law_L28
    obtain rfl : p = N := by omega
    exact selT ((n32_le (by omega) (by omega)).mpr (Nat.le_refl _)) (k m h1 h2 h3)
  | succ r ih =>
    intro p m e h1 h2 h3
    have v7 : vp_in (Int32.ofNat p) 700 := n32_in (by omega) (by omega)
    unfold wX12_law_L28
    rw [n32_nat (by omega), n32_add1]
    refine selF (fun z => by have := (n32_le (by omega) (by omega)).mp z; omega) ⟨v7, v7, ih (p + 1) _ (by omega) (fun j hj => ?_) (fun c hc => by rw [sIk hc]; exact h2 c hc) h3⟩
    by_cases ej : j = p
    · subst ej
      rw [sIe, h2 74 (by omega)]
      exact ht j (by omega)
    · rw [sIj ej]; exact h1 j (by omega)
/-- what the reference's law leaves -/
def OFW (μ : hx_M) (h lc : Nat) (m : hx_M) : Prop := (∀ c, c ≠ 49 → c ≠ 75 → (c < 63 ∨ 72 < c) → m.1 c = μ.1 c) ∧ (∀ j, j ≠ lc → m.1 63 j = μ.1 63 j) ∧ (∀ c, 64 ≤ c → c ≤ 69 → ∀ j, j < 16 * lc → m.1 c j = μ.1 c j) ∧ (∀ j, j < 20 ∨ 27 < j → j ≠ 41 → j ≠ 42 → m.1 49 j = μ.1 49 j) ∧ (∀ j, j < h → m.1 70 j = μ.1 70 j ∧ m.1 71 j = μ.1 71 j ∧ m.1 72 j = μ.1 72 j) ∧ m.2 = μ.2 ∧ m.1 49 23 = 0
theorem lawM {K : Int32 → hx_M → Prop} {fd : Nat} (hT : T = tkF t N) (hN : N ≤ fd) (hfd : fd ≤ 700) (ht : ∀ j, j < N → vp_nar .byte (μ.1 74 j) = t j) (e20 : μ.1 49 20 = Int32.ofNat lc) (hlc : lc ≤ 4) (e22 : μ.1 49 22 = Int32.ofNat h) (hh : h ≤ 2800) (e23 : μ.1 49 23 = Int32.ofNat fd)
    (k1 : (pLaw T 17 0 0).1 = true → ∀ m', OFW μ h lc m' → m'.1 63 lc = Int32.ofNat (pLaw T 17 0 0).2.2.length → m'.1 49 22 = Int32.ofNat (h + sl (pLaw T 17 0 0).2.2) → hl_M m' (h + sl (pLaw T 17 0 0).2.2) (16 * lc) (pLaw T 17 0 0).2.2 → m'.1 49 27 = -1 → m'.1 49 21 = Int32.ofNat lc → m'.1 49 20 = Int32.ofNat (lc + 1) → K (Int32.ofNat lc) m')
    (k0 : (pLaw T 17 0 0).1 = false → ∀ m', OFW μ h lc m' → m'.1 49 22 = Int32.ofNat h → m'.1 49 27 = Int32.ofNat (pos t N (pLaw T 17 0 0).2.1) → m'.1 49 21 = μ.1 49 21 → m'.1 49 20 = μ.1 49 20 → K (-1) m') : wX12_law μ (Int32.ofNat N) K := by
  unfold wX12_law
  rw [e23, e20]
  refine t_isInY ⟨(n32_le (a := 0) (by omega) (by omega)).mpr (Nat.zero_le _), (n32_le (by omega) (by omega)).mpr hN⟩ (seln1 (selN (fun z => by have := (n32_eq (b := 5) (by omega) (by omega)).mp z; omega) ?_))
  refine ⟨N + 1, law_L28 (μ := μ) (t := t) (by omega) ht (fun m5 g1 g2 g3 => ?_) N 0 μ (by omega) (fun j hj => by omega) (fun _ _ => rfl) rfl⟩
  have f20 : m5.1 49 20 = Int32.ofNat lc := by rw [g2 49 (by omega)]; exact e20
  have f22 : m5.1 49 22 = Int32.ofNat h := by rw [g2 49 (by omega)]; exact e22
  rw [f20, f22, n32_nat (by omega)]
  generalize hm6 : hx_sI (hx_sI (hx_sI (hx_sI m5 49 24 (Int32.ofNat N)) 49 23 0) 49 25 0) 63 lc 0 = m6
  have q24 : m6.1 49 24 = Int32.ofNat N := by rw [← hm6, sIk (by omega), sIj (by omega), sIj (by omega), sIe]
  have q23 : m6.1 49 23 = 0 := by rw [← hm6, sIk (by omega), sIj (by omega), sIe]
  have q25 : m6.1 49 25 = Int32.ofNat 0 := by rw [← hm6, sIk (by omega), sIe]; rfl
  have q63 : m6.1 63 lc = Int32.ofNat 0 := by rw [← hm6, sIe]; rfl
  have q63' : ∀ j, j ≠ lc → m6.1 63 j = μ.1 63 j := fun j hj => by rw [← hm6, sIj hj, sIk (by omega), sIk (by omega), sIk (by omega), g2 63 (by omega)]
  have qs : ∀ j, j ≠ 23 → j ≠ 24 → j ≠ 25 → m6.1 49 j = μ.1 49 j := fun j h1 h2 h3 => by rw [← hm6, sIk (by omega), sIj h3, sIj h1, sIj h2, g2 49 (by omega)]
  have qc : ∀ c, c ≠ 49 → c ≠ 63 → c ≠ 75 → m6.1 c = μ.1 c := fun c h1 h2 h3 => by rw [← hm6, sIk h2, sIk h1, sIk h1, sIk h1, g2 c h3]
  have q75 : ∀ j, j < N → m6.1 75 j = t j := fun j hj => by rw [← hm6, sIk (by omega), sIk (by omega), sIk (by omega), sIk (by omega)]; exact g1 j hj
  have q2 : m6.2 = μ.2 := by rw [← hm6]; exact g3
  have tx6 : TX N t m6 := ⟨by omega, q24, q75⟩
  refine ⟨n32_in (by omega) (by omega), blanksM tx6 (Nat.zero_le N) q25 (fun m7 ox h7 => ?_)⟩
  rw [← pos_0] at h7
  have tx7 := tx6.oX ox
  have r20 : m7.1 49 20 = Int32.ofNat lc := by rw [ox.2.1 20 (by omega) (by omega) (by omega), qs 20 (by omega) (by omega) (by omega)]; exact e20
  have r22 : m7.1 49 22 = Int32.ofNat h := by rw [ox.2.1 22 (by omega) (by omega) (by omega), qs 22 (by omega) (by omega) (by omega)]; exact e22
  have r23 : m7.1 49 23 = 0 := by rw [ox.2.1 23 (by omega) (by omega) (by omega)]; exact q23
  have r63 : m7.1 63 lc = Int32.ofNat 0 := by rw [ox.1 63 (by omega)]; exact q63
  have o7 : OFL m7 h lc m7 := ⟨fun _ _ _ => rfl, fun _ _ => rfl, fun _ _ _ _ _ => rfl, fun _ _ _ _ _ _ => rfl, fun _ _ => ⟨rfl, rfl, rfl⟩, rfl⟩
  have back : ∀ m8, OFL m7 h lc m8 → ∀ (x y z w : Int32) (s : Nat), OFW μ h lc (hx_sI (hx_sI (hx_sI (hx_sI m8 49 27 x) 49 22 w) 49 21 y) 49 20 z) := fun m8 o8 x y z w s => by
    obtain ⟨a1, a2, a3, a4, a5, a6⟩ := o8
    refine ⟨fun c h1 h2 h3 => by rw [sIk h1, sIk h1, sIk h1, sIk h1, a1 c h1 h3, ox.1 c h1]; exact qc c h1 (by omega) h2, fun j hj => by rw [sIk (by omega), sIk (by omega), sIk (by omega), sIk (by omega), a2 j hj, ox.1 63 (by omega)]; exact q63' j hj, fun c h1 h2 j hj => by rw [sIk (by omega), sIk (by omega), sIk (by omega), sIk (by omega), a3 c h1 h2 j hj, ox.1 c (by omega), qc c (by omega) (by omega) (by omega)], fun j h1 h2 h3 => by rw [sIj (by omega), sIj (by omega), sIj (by omega), sIj (by omega), a4 j (by omega) (by omega) (by omega) h2 h3, ox.2.1 j (by omega) h2 h3]; exact qs j (by omega) (by omega) (by omega), fun j hj => ?_, ?_, ?_⟩
    · obtain ⟨x1, x2, x3⟩ := a5 j hj
      rw [sIk (by omega), sIk (by omega), sIk (by omega), sIk (by omega), sIk (by omega), sIk (by omega), sIk (by omega), sIk (by omega), sIk (by omega), sIk (by omega), sIk (by omega), sIk (by omega), x1, x2, x3, ox.1 70 (by omega), ox.1 71 (by omega), ox.1 72 (by omega), qc 70 (by omega) (by omega) (by omega), qc 71 (by omega) (by omega) (by omega), qc 72 (by omega) (by omega) (by omega)]
      exact ⟨rfl, rfl, rfl⟩
    · show m8.2 = μ.2
      rw [a6, ox.2.2, q2]
    · rw [sIj (by omega), sIj (by omega), sIj (by omega), sIj (by omega), a4 23 (by omega) (by omega) (by omega) (by omega) (by omega)]; exact r23
  have id1 : ∀ (m8 : hx_M) (c j : Nat), hx_sI m8 c j (m8.1 c j) = m8 := fun m8 c j => by
    refine Prod.ext ?_ rfl
    funext a b
    show (hx_sI m8 c j (m8.1 c j)).1 a b = m8.1 a b
    rw [hm_sI]
    by_cases z : a = c ∧ b = j
    · rw [if_pos z, z.1, z.2]
    · rw [if_neg z]
  refine ⟨18, law_L87 (μ := m7) (h := h) (lc := lc) hT tx7 hlc hh r20 17 0 0 [] m7 (by omega) (by omega) rfl (Nat.le_refl _) ⟨Nat.zero_le _, h7⟩ o7 r63 (by rw [r22]; rfl) trivial (fun hz m8 o8 p63 p22 pm => ?_) (fun hz m8 o8 ax8 => ?_)⟩
  · rw [List.nil_append] at p63 p22 pm
    have s20 : m8.1 49 20 = Int32.ofNat lc := by rw [o8.2.2.2.1 20 (by omega) (by omega) (by omega) (by omega) (by omega)]; exact r20
    unfold wX12_law_J173 wX12_law_J186
    refine sel1 (seln1 ?_)
    rw [s20, n32_add1]
    have hb := back m8 o8 (-1) (Int32.ofNat lc) (Int32.ofNat (lc + 1)) (m8.1 49 22) 0
    have e22' : hx_sI (hx_sI m8 49 27 (-1)) 49 22 (m8.1 49 22) = hx_sI m8 49 27 (-1) := by
      have := id1 (hx_sI m8 49 27 (-1)) 49 22
      rw [sIj (by omega)] at this
      exact this
    rw [e22'] at hb
    refine k1 hz _ hb ?_ ?_ ?_ ?_ ?_ sIe
    · rw [sIk (by omega), sIk (by omega), sIk (by omega)]; exact p63
    · rw [sIj (by omega), sIj (by omega), sIj (by omega)]; exact p22
    · exact hl_M.fr (fun c h1 h2 => by rw [sIk (by omega), sIk (by omega), sIk (by omega)]) pm
    · rw [sIj (by omega), sIj (by omega), sIe]
    · rw [sIj (by omega), sIe]
  · have s20 : m8.1 49 20 = Int32.ofNat lc := by rw [o8.2.2.2.1 20 (by omega) (by omega) (by omega) (by omega) (by omega)]; exact r20
    have s21 : m8.1 49 21 = μ.1 49 21 := by rw [o8.2.2.2.1 21 (by omega) (by omega) (by omega) (by omega) (by omega), ox.2.1 21 (by omega) (by omega) (by omega)]; exact qs 21 (by omega) (by omega) (by omega)
    unfold wX12_law_J173 wX12_law_J186
    refine sel0 (seln0 ?_)
    rw [ax8.2]
    have hb := back m8 o8 (Int32.ofNat (pos t N (pLaw T 17 0 0).2.1)) (m8.1 49 21) (m8.1 49 20) (Int32.ofNat h) 0
    have e1 : hx_sI (hx_sI (hx_sI m8 49 27 (Int32.ofNat (pos t N (pLaw T 17 0 0).2.1))) 49 22 (Int32.ofNat h)) 49 21 (m8.1 49 21) = hx_sI (hx_sI m8 49 27 (Int32.ofNat (pos t N (pLaw T 17 0 0).2.1))) 49 22 (Int32.ofNat h) := by
      have := id1 (hx_sI (hx_sI m8 49 27 (Int32.ofNat (pos t N (pLaw T 17 0 0).2.1))) 49 22 (Int32.ofNat h)) 49 21
      rw [sIj (by omega), sIj (by omega)] at this
      exact this
    have e2 : hx_sI (hx_sI (hx_sI m8 49 27 (Int32.ofNat (pos t N (pLaw T 17 0 0).2.1))) 49 22 (Int32.ofNat h)) 49 20 (m8.1 49 20) = hx_sI (hx_sI m8 49 27 (Int32.ofNat (pos t N (pLaw T 17 0 0).2.1))) 49 22 (Int32.ofNat h) := by
      have := id1 (hx_sI (hx_sI m8 49 27 (Int32.ofNat (pos t N (pLaw T 17 0 0).2.1))) 49 22 (Int32.ofNat h)) 49 20
      rw [sIj (by omega), sIj (by omega)] at this
      exact this
    rw [e1, e2] at hb
    refine k0 hz _ hb sIe ?_ ?_ ?_
    · rw [sIj (by omega), sIe]
    · rw [sIj (by omega), sIj (by omega)]; exact s21
    · rw [sIj (by omega), sIj (by omega), s20, e20]
end LWM
