/-! layer 2: alone -/
def bI (b : Bool) : Int32 := if b then 1 else 0
theorem bI_t : bI true = 1 := rfl
theorem bI_f : bI false = 0 := rfl
def al_q (a : hw_T) (p s : Nat) (gap : Int32) (q : Nat) : Bool := decide (q = p) || decide (gap ≤ ab (a.2.1 6 (16 * s + q) - a.2.1 6 (16 * s + p)))
def al_F (a : hw_T) (p s : Nat) (gap : Int32) : Nat → Nat → Bool
  | _, 0 => true
  | q, r + 1 => al_q a p s gap q && al_F a p s gap (q + 1) r
def hw_alone (a : hw_T) (p s : Nat) (gap : Int32) : Bool := al_F a p s gap 0 a.1.1
section AL
variable {a : hw_T} {μ : hx_M} {p s : Nat} {gap : Int32}
theorem aloneC {K : Int32 → Prop} (hc : CW 0 a μ) (w : WF 300 a) (hs : s ≤ a.1.2.1) (hp : p < a.1.1) (k : K (bI (hw_alone a p s gap))) : wX0_isAlone μ (Int32.ofNat p) (Int32.ofNat s) gap K := by
  have hn := w.n
  have go : ∀ (r q : Nat), q + r = a.1.1 → K (bI (al_F a p s gap q r)) → wX0_isAlone_L17 μ (Int32.ofNat p) (Int32.ofNat s) gap (a.2.1 6 (16 * s + p)) K (r + 1) (Int32.ofNat q) := by
    intro r
    induction r with
    | zero =>
      intro q e k
      obtain rfl : q = a.1.1 := by omega
      unfold wX0_isAlone_L17
      rw [hc.n]
      exact selT (Int32.le_refl _) k
    | succ r ih =>
      intro q e k
      unfold al_F al_q at k
      unfold wX0_isAlone_L17 wX0_isAlone_J63
      rw [hc.n, n32_add1]
      refine selF (fun z => by have := (n32_le (by omega) (by omega)).mp z; omega) ⟨fun z => ih (q + 1) (by omega) ?_, fun z => lenC hc w hs (by omega) ?_⟩
      · have : q = p := (n32_eq (by omega) (by omega)).mp z
        simpa [this] using k
      · have hqp : ¬ q = p := fun hh => z (by rw [hh])
        rintro x rfl
        refine ⟨fun z2 => ih (q + 1) (by omega) ?_, fun z2 => ?_⟩
        · have z3 : gap ≤ ab (a.2.1 6 (16 * s + q) - a.2.1 6 (16 * s + p)) := z2
          simpa [hqp, z3] using k
        · have z3 : ¬ gap ≤ ab (a.2.1 6 (16 * s + q) - a.2.1 6 (16 * s + p)) := z2
          rw [decide_eq_false hqp, decide_eq_false z3] at k
          exact k
  unfold wX0_isAlone
  exact lenC hc w hs hp ⟨_, go a.1.1 0 (by omega) k⟩
theorem aloneM {K : Int32 → Prop} (hc : MW a μ) (w : WF 300 a) (hs : s ≤ a.1.2.1) (hp : p < a.1.1) (k : K (bI (hw_alone a p s gap))) : wX12_isAlone μ (Int32.ofNat p) (Int32.ofNat s) gap K := by
  have hn := w.n
  have go : ∀ (r q : Nat) (acc : Bool), q + r = a.1.1 → K (bI (acc && al_F a p s gap q r)) → wX12_isAlone_L6 μ (Int32.ofNat p) (Int32.ofNat s) gap K (r + 1) (bI acc) (Int32.ofNat q) := by
    intro r
    induction r with
    | zero =>
      intro q acc e k
      obtain rfl : q = a.1.1 := by omega
      unfold wX12_isAlone_L6
      rw [hc.n]
      refine selT (Int32.le_refl _) ⟨?_, ?_⟩
      · cases acc
        · exact Or.inl rfl
        · exact Or.inr rfl
      · unfold al_F at k
        rw [Bool.and_true] at k
        exact k
    | succ r ih =>
      intro q acc e k
      unfold al_F al_q at k
      unfold wX12_isAlone_L6 wX12_isAlone_J51 wX12_isAlone_J47 wX12_isAlone_J52 wX12_isAlone_J52_1
      rw [hc.n, n32_add1]
      refine selF (fun z => by have := (n32_le (by omega) (by omega)).mp z; omega) ?_
      cases acc
      · exact selT rfl (ih (q + 1) false (by omega) (by simpa using k))
      · refine selF (by decide) ⟨fun z => ih (q + 1) true (by omega) ?_, fun z => lenM hc w hs (by omega) (lenM hc w hs hp ?_)⟩
        · have : q = p := (n32_eq (by omega) (by omega)).mp z
          simpa [this] using k
        · have hqp : ¬ q = p := fun hh => z (by rw [hh])
          rintro x rfl
          refine ⟨fun z2 => ih (q + 1) false (by omega) ?_, fun z2 => ih (q + 1) true (by omega) ?_⟩
          · have z3 : ¬ gap ≤ ab (a.2.1 6 (16 * s + q) - a.2.1 6 (16 * s + p)) := Int32.not_le.mpr z2
            rw [decide_eq_false hqp, decide_eq_false z3] at k
            simpa using k
          · have z3 : gap ≤ ab (a.2.1 6 (16 * s + q) - a.2.1 6 (16 * s + p)) := Int32.not_lt.mp z2
            simpa [hqp, z3] using k
  unfold wX12_isAlone
  exact ⟨_, go a.1.1 0 true (by omega) (by rw [Bool.true_and]; exact k)⟩
/-- how a start ends: 1 taken, 2 left, 0 not yet -/
def eo_F (a : hw_T) (p st : Nat) (gap : Int32) : Nat → Nat → Nat
  | _, 0 => 0
  | s, r + 1 => if a.2.1 6 (16 * s + p) = a.2.1 6 (16 * st + p) then (if hw_alone a p s gap = true then eo_F a p st gap (s + 1) r else 1) else 2
def hw_end (a : hw_T) (p st : Nat) (gap : Int32) (n : Nat) : Nat := eo_F a p st gap (st + 1) (min a.1.2.1 (st + n) - st)
theorem minI {x y : Nat} (hx : x < 2 ^ 30) (hy : y < 2 ^ 30) : (if Int32.ofNat x < Int32.ofNat y then Int32.ofNat x else Int32.ofNat y) = Int32.ofNat (min y x) := by
  by_cases c : x < y
  · rw [if_pos ((n32_lt (by omega) (by omega)).mpr c), Nat.min_eq_right (by omega)]
  · rw [if_neg (fun z => c ((n32_lt (by omega) (by omega)).mp z)), Nat.min_eq_left (by omega)]
theorem endC {n : Nat} {K : Int32 → Prop} (hc : CW 0 a μ) (w : WF 300 a) (hs : s ≤ a.1.2.1) (hp : p < a.1.1) (hn : n ≤ 20) (k : ∀ v : Int32, (v = -1 ∧ hw_end a p s gap n = 0 ∨ 1 ≤ hw_end a p s gap n ∧ v = Int32.ofNat (hw_end a p s gap n)) → K v) : wX0_endOf μ (Int32.ofNat p) (Int32.ofNat s) gap (Int32.ofNat n) K := by
  have hn3 := w.n
  have hs3 := w.s
  have go : ∀ (r q : Nat), q + r = min a.1.2.1 (s + n) + 1 → (∀ v : Int32, (v = -1 ∧ eo_F a p s gap q r = 0 ∨ 1 ≤ eo_F a p s gap q r ∧ v = Int32.ofNat (eo_F a p s gap q r)) → K v) → wX0_endOf_L35 μ (Int32.ofNat p) gap (Int32.ofNat (min a.1.2.1 (s + n))) (a.2.1 6 (16 * s + p)) K (r + 1) (Int32.ofNat q) := by
    intro r
    induction r with
    | zero =>
      intro q e k
      unfold wX0_endOf_L35
      exact selT ((n32_lt (by omega) (by omega)).mpr (by omega)) (k _ (Or.inl ⟨rfl, rfl⟩))
    | succ r ih =>
      intro q e k
      unfold eo_F at k
      unfold wX0_endOf_L35
      rw [n32_add1]
      refine selF (fun z => by have := (n32_lt (by omega) (by omega)).mp z; omega) (lenC hc w (by omega) hp ⟨fun z => aloneC hc w (by omega) hp ⟨fun z2 => ih (q + 1) (by omega) ?_, fun z2 => ?_⟩, fun z => ?_⟩)
      · have h1 : hw_alone a p q gap = true := by
          cases h : hw_alone a p q gap with
          | true => rfl
          | false => rw [h] at z2; exact absurd rfl z2
        simp only [if_pos z, if_pos h1] at k
        exact k
      · have h1 : ¬ hw_alone a p q gap = true := fun h => by rw [h] at z2; exact absurd z2 (by decide)
        rw [if_pos z, if_neg h1] at k
        exact k _ (Or.inr ⟨by omega, rfl⟩)
      · rw [if_neg z] at k
        exact k _ (Or.inr ⟨by omega, rfl⟩)
  unfold wX0_endOf
  rw [n32_add, hc.s, minI (by omega) (by omega), n32_add1]
  rintro x rfl
  refine lenC hc w hs hp ⟨_, go (min a.1.2.1 (s + n) - s) (s + 1) (by omega) ?_⟩
  exact k
theorem endM {n : Nat} {K : Int32 → Prop} (hc : MW a μ) (w : WF 300 a) (hs : s ≤ a.1.2.1) (hp : p < a.1.1) (hn : n ≤ 20) (k : K (Int32.ofNat (hw_end a p s gap n))) : wX12_endsBy μ (Int32.ofNat p) (Int32.ofNat s) gap (Int32.ofNat n) K := by
  have hn3 := w.n
  have hs3 := w.s
  have go : ∀ (r q : Nat), q + r = min a.1.2.1 (s + n) + 1 → K (Int32.ofNat (eo_F a p s gap q r)) → wX12_endsBy_L5 μ (Int32.ofNat p) (Int32.ofNat s) gap (Int32.ofNat n) K (r + 1) (Int32.ofNat q) := by
    intro r
    induction r with
    | zero =>
      intro q e k
      unfold wX12_endsBy_L5
      rw [n32_add, hc.s, minI (by omega) (by omega)]
      rintro x rfl
      exact selT ((n32_lt (by omega) (by omega)).mpr (by omega)) k
    | succ r ih =>
      intro q e k
      unfold eo_F at k
      unfold wX12_endsBy_L5
      rw [n32_add, hc.s, minI (by omega) (by omega), n32_add1]
      rintro x rfl
      refine selF (fun z => by have := (n32_lt (by omega) (by omega)).mp z; omega) (lenM hc w (by omega) hp (lenM hc w hs hp ⟨fun z => aloneM hc w (by omega) hp ⟨fun z2 => ih (q + 1) (by omega) ?_, fun z2 => ?_⟩, fun z => ?_⟩))
      · have h1 : hw_alone a p q gap = true := by
          cases h : hw_alone a p q gap with
          | true => rfl
          | false => rw [h] at z2; exact absurd rfl z2
        rw [if_pos z, if_pos h1] at k
        exact k
      · have h1 : ¬ hw_alone a p q gap = true := fun h => by rw [h] at z2; exact absurd z2 (by decide)
        rw [if_pos z, if_neg h1] at k
        exact k
      · rw [if_neg z] at k
        exact k
  unfold wX12_endsBy
  rw [n32_add1]
  exact ⟨_, go (min a.1.2.1 (s + n) - s) (s + 1) (by omega) k⟩
/-- one start, counted or not -/
def st_1 (a : hw_T) (gap : Int32) (n what p s : Nat) : Int32 := if hw_alone a p s gap = true ∧ hw_alone a p (s - 1) gap = false ∧ (what = 0 ∨ hw_end a p s gap n = what) then 1 else 0
def sumR (f : Nat → Int32) : Nat → Nat → Int32
  | _, 0 => 0
  | i, r + 1 => f i + sumR f (i + 1) r
theorem sumR_add (f g : Nat → Int32) : ∀ r i, sumR (fun i => f i + g i) i r = sumR f i r + sumR g i r
  | 0, _ => rfl
  | r + 1, i => by
    simp only [sumR, sumR_add f g r (i + 1)]
    grind
theorem sumR_zero : ∀ r i, sumR (fun _ => 0) i r = 0
  | 0, _ => rfl
  | r + 1, i => by simp [sumR, sumR_zero r (i + 1)]
theorem sumR_swap (f : Nat → Nat → Int32) (j r2 : Nat) : ∀ r1 i, sumR (fun x => sumR (f x) j r2) i r1 = sumR (fun y => sumR (fun x => f x y) i r1) j r2
  | 0, _ => by simp only [sumR]; exact (sumR_zero r2 j).symm
  | r1 + 1, i => by
    simp only [sumR, sumR_swap f j r2 r1 (i + 1)]
    exact (sumR_add _ _ r2 j).symm
theorem startsC_L34 {n what : Nat} {K K1 : Int32 → Prop} (hc : CW 0 a μ) (w : WF 300 a) (hp : p < a.1.1) (hn : n ≤ 20) (hw : what ≤ 2) : ∀ (r s : Nat) (acc : Int32), 1 ≤ s → s + r = a.1.2.1 + 1 → K1 (acc + sumR (st_1 a gap n what p) s r) → wX0_startsOf_L34 μ gap (Int32.ofNat n) (Int32.ofNat what) (Int32.ofNat p) K K1 (r + 1) acc (bI (hw_alone a p (s - 1) gap)) (Int32.ofNat s) := by
  have hs3 := w.s
  intro r
  induction r with
  | zero =>
    intro s acc h1 e k
    unfold wX0_startsOf_L34
    rw [hc.s]
    refine selT ((n32_lt (by omega) (by omega)).mpr (by omega)) ?_
    unfold sumR at k
    rw [Int32.add_zero] at k
    exact k
  | succ r ih =>
    intro s acc h1 e k
    have hi := fun acc' => ih (s + 1) acc' (by omega) (by omega)
    rw [Nat.add_sub_cancel, ← n32_add1] at hi
    unfold sumR at k
    have k0 : st_1 a gap n what p s = 0 → wX0_startsOf_L34 μ gap (Int32.ofNat n) (Int32.ofNat what) (Int32.ofNat p) K K1 (r + 1) acc (bI (hw_alone a p s gap)) (Int32.ofNat s + 1) := fun h => hi acc (by rw [h, Int32.zero_add] at k; exact k)
    have k1 : st_1 a gap n what p s = 1 → wX0_startsOf_L34 μ gap (Int32.ofNat n) (Int32.ofNat what) (Int32.ofNat p) K K1 (r + 1) (acc + 1) (bI (hw_alone a p s gap)) (Int32.ofNat s + 1) := fun h => hi (acc + 1) (by rw [h, ← Int32.add_assoc] at k; exact k)
    unfold wX0_startsOf_L34 wX0_startsOf_J88 wX0_startsOf_J85 wX0_startsOf_J88_5
    rw [hc.s]
    refine selF (fun z => by have := (n32_lt (by omega) (by omega)).mp z; omega) (aloneC hc w (by omega) hp ?_)
    cases h2 : hw_alone a p s gap with
    | false => 
      rw [h2] at k0
      exact selT rfl (k0 (by simp [st_1, h2]))
    | true =>
      rw [h2] at k0 k1
      refine selF (by decide) ?_
      cases h3 : hw_alone a p (s - 1) gap with
      | true => exact selN (by decide) (k0 (by simp [st_1, h3]))
      | false =>
        refine selE rfl ⟨fun z => k1 ?_, fun z => endC (gap := gap) (n := n) hc w (by omega) hp hn (fun v hv => ⟨fun z2 => k0 ?_, fun z2 => k1 ?_⟩)⟩
        · have : what = 0 := (n32_eq (b := 0) (by omega) (by omega)).mp z
          simp [st_1, h2, h3, this]
        · have h0 : what ≠ 0 := fun hh => z (by rw [hh]; rfl)
          have : hw_end a p s gap n ≠ what := by
            rcases hv with ⟨_, e2⟩ | ⟨e1, e2⟩
            · omega
            · intro hh; exact z2 (by rw [e2, hh])
          simp [st_1, h2, h3, h0, this]
        · have : hw_end a p s gap n = what := by
            rcases hv with ⟨e1, e2⟩ | ⟨e1, e2⟩
            · rw [z2] at e1
              exact absurd e1 (n32_neg (by omega) (by decide))
            · rw [e2] at z2
              have hle : hw_end a p s gap n ≤ 2 := by
                have : ∀ r q, eo_F a p s gap q r ≤ 2 := by
                  intro r
                  induction r with
                  | zero => intro q; simp [eo_F]
                  | succ r ih => intro q; unfold eo_F; split; split; exact ih _; omega; omega
                exact this _ _
              exact (n32_eq (by omega) (by omega)).mp z2
          simp [st_1, h2, h3, this]
theorem startsC_L6 {n what : Nat} {K : Int32 → Prop} (hc : CW 0 a μ) (w : WF 300 a) (hn : n ≤ 20) (hw : what ≤ 2) : ∀ (r p : Nat) (acc : Int32), p + r = a.1.1 → K (acc + sumR (fun p => sumR (st_1 a gap n what p) 1 a.1.2.1) p r) → wX0_startsOf_L6 μ gap (Int32.ofNat n) (Int32.ofNat what) K (r + 1) acc (Int32.ofNat p) := by
  have hn3 := w.n
  intro r
  induction r with
  | zero =>
    intro p acc e k
    obtain rfl : p = a.1.1 := by omega
    unfold wX0_startsOf_L6
    rw [hc.n]
    unfold sumR at k
    rw [Int32.add_zero] at k
    exact selT (Int32.le_refl _) k
  | succ r ih =>
    intro p acc e k
    unfold sumR at k
    rw [← Int32.add_assoc] at k
    unfold wX0_startsOf_L6
    rw [hc.n, n32_add1]
    exact selF (fun z => by have := (n32_le (by omega) (by omega)).mp z; omega) (aloneC (s := 0) hc w (by omega) (by omega) ⟨_, startsC_L34 hc w (by omega) hn hw a.1.2.1 1 acc (by omega) (by omega) (ih (p + 1) _ (by omega) k)⟩)
theorem aloneM_L49 {n what : Nat} {K K1 : Int32 → Prop} (hc : MW a μ) (w : WF 300 a) (hs1 : 1 ≤ s) (hs : s ≤ a.1.2.1) (hn : n ≤ 20) (hw : what ≤ 2) : ∀ (r p : Nat) (acc : Int32), p + r = a.1.1 → K1 (acc + sumR (fun p => st_1 a gap n what p s) p r) → wX12_alone_L49 μ gap (Int32.ofNat n) (Int32.ofNat what) (Int32.ofNat s) K K1 (r + 1) acc (Int32.ofNat p) := by
  have hn3 := w.n
  intro r
  induction r with
  | zero =>
    intro p acc e k
    obtain rfl : p = a.1.1 := by omega
    unfold wX12_alone_L49
    rw [hc.n]
    unfold sumR at k
    rw [Int32.add_zero] at k
    exact selT (Int32.le_refl _) k
  | succ r ih =>
    intro p acc e k
    have hi := fun acc' => ih (p + 1) acc' (by omega)
    rw [← n32_add1] at hi
    unfold sumR at k
    have k0 : st_1 a gap n what p s = 0 → wX12_alone_L49 μ gap (Int32.ofNat n) (Int32.ofNat what) (Int32.ofNat s) K K1 (r + 1) acc (Int32.ofNat p + 1) := fun h => hi acc (by rw [h, Int32.zero_add] at k; exact k)
    have k1 : st_1 a gap n what p s = 1 → wX12_alone_L49 μ gap (Int32.ofNat n) (Int32.ofNat what) (Int32.ofNat s) K K1 (r + 1) (acc + 1) (Int32.ofNat p + 1) := fun h => hi (acc + 1) (by rw [h, ← Int32.add_assoc] at k; exact k)
    unfold wX12_alone_L49 wX12_alone_J118 wX12_alone_J107 wX12_alone_J112 wX12_alone_J112_16 wX12_alone_J118_13 wX12_alone_J118_19
    rw [hc.n, n32_sub1 (by omega)]
    refine selF (fun z => by have := (n32_le (by omega) (by omega)).mp z; omega) (aloneM hc w hs (by omega) ?_)
    have one1 : ∀ K : Int32 → Prop, K 1 → wX12_one 1 K := fun K k => t_one (by rw [b01_1 (by decide)]; exact k)
    have one0 : ∀ K : Int32 → Prop, K 0 → wX12_one 0 K := fun K k => t_one (by rw [b01_0 (by decide)]; exact k)
    cases h2 : hw_alone a p s gap with
    | false => exact selT rfl (k0 (by simp [st_1, h2]))
    | true =>
      refine selF (by decide) (aloneM hc w (by omega) (by omega) ?_)
      cases h3 : hw_alone a p (s - 1) gap with
      | true => exact selF (by decide) (k0 (by simp [st_1, h3]))
      | false =>
        refine selT rfl ⟨fun z => one1 _ (k1 ?_), fun z => endM hc w hs (by omega) hn ⟨fun z2 => one0 _ ?_, fun z2 => one1 _ (k1 ?_)⟩⟩
        · have : what = 0 := (n32_eq (b := 0) (by omega) (by omega)).mp z
          simp [st_1, h2, h3, this]
        · have h0 : what ≠ 0 := fun hh => z (by rw [hh]; rfl)
          have : hw_end a p s gap n ≠ what := fun hh => z2 (by rw [hh])
          rw [Int32.add_zero]
          exact k0 (by simp [st_1, h2, h3, h0, this])
        · have hle : hw_end a p s gap n ≤ 2 := by
            have : ∀ r q, eo_F a p s gap q r ≤ 2 := by
              intro r
              induction r with
              | zero => intro q; simp [eo_F]
              | succ r ih => intro q; unfold eo_F; split; split; exact ih _; omega; omega
            exact this _ _
          have : hw_end a p s gap n = what := (n32_eq (by omega) (by omega)).mp z2
          simp [st_1, h2, h3, this]
theorem aloneM_L37 {n what : Nat} {K : Int32 → Prop} (hc : MW a μ) (w : WF 300 a) (hn : n ≤ 20) (hw : what ≤ 2) : ∀ (r s : Nat) (acc : Int32), 1 ≤ s → s + r = a.1.2.1 + 1 → K (acc + sumR (fun s => sumR (fun p => st_1 a gap n what p s) 0 a.1.1) s r) → wX12_alone_L37 μ gap (Int32.ofNat n) (Int32.ofNat what) K (r + 1) acc (Int32.ofNat s) := by
  have hs3 := w.s
  intro r
  induction r with
  | zero =>
    intro s acc h1 e k
    unfold wX12_alone_L37
    rw [hc.s]
    unfold sumR at k
    rw [Int32.add_zero] at k
    exact selT ((n32_lt (by omega) (by omega)).mpr (by omega)) k
  | succ r ih =>
    intro s acc h1 e k
    unfold sumR at k
    rw [← Int32.add_assoc] at k
    unfold wX12_alone_L37
    rw [hc.s, n32_add1]
    exact selF (fun z => by have := (n32_lt (by omega) (by omega)).mp z; omega) ⟨_, aloneM_L49 hc w h1 (by omega) hn hw a.1.1 0 acc (by omega) (ih (s + 1) _ (by omega) (by omega) k)⟩
end AL
theorem op_alone (Λ : hx_L) (μ : hx_M) (a1 a2 a3 : Int32) (h : hI Λ μ) : wL_17 Λ μ a1 a2 a3 hI := by
  obtain ⟨hF, hM, h15, a, ls, fo, is, w, hc, hm, ht, hl, hi⟩ := id h
  unfold wL_17 wX11_alone wX12_alone
  by_cases h1 : 1 ≤ a1 ∧ a1 ≤ 60
  · by_cases h2 : 1 ≤ a2 ∧ a2 ≤ 20
    · by_cases h3 : 0 ≤ a3 ∧ a3 ≤ 2
      · obtain ⟨n, rfl, hn⟩ := n32_of (v := a2) (hi := 20) (Int32.le_trans (by decide) h2.1) h2.2 (by omega)
        obtain ⟨q, rfl, hq⟩ := n32_of (hi := 2) h3.1 h3.2 (by omega)
        refine t_withinY h1 (sel1 (t_withinY h2 (sel1 (t_withinY h3 (seln1 ?_)))))
        unfold wX0_startsOf
        refine ⟨_, startsC_L6 hc w.up hn hq a.1.1 0 0 (by omega) (t_isInY h1 (sel1 (t_isInY h2 (sel1 (t_isInY h3 (seln1 ⟨_, aloneM_L37 hm w.up hn hq a.1.2.1 1 0 (by omega) (by omega) ⟨?_, h⟩⟩))))))⟩
        rw [sumR_swap]
      · exact t_withinY h1 (sel1 (t_withinY h2 (sel1 (t_withinN h3 (seln0 (t_isInY h1 (sel1 (t_isInY h2 (sel1 (t_isInN h3 (seln0 ⟨rfl, h⟩)))))))))))
    · exact t_withinY h1 (sel1 (t_withinN h2 (sel0 (t_isInY h1 (sel1 (t_isInN h2 (sel0 ⟨rfl, h⟩)))))))
  · exact t_withinN h1 (sel0 (t_isInN h1 (sel0 ⟨rfl, h⟩)))
