/-! layer 2: wears, led -/
theorem sw7 {v : Int32} : ((v.toInt < 0 ∨ 6 < v.toInt) ∧ ¬ (0 ≤ v ∧ v ≤ 6)) ∨ v = 0 ∨ v = 1 ∨ v = 2 ∨ v = 3 ∨ v = 4 ∨ v = 5 ∨ v = 6 := by
  by_cases h : 0 ≤ v ∧ v ≤ 6
  · right
    grind
  · left
    refine ⟨?_, h⟩
    rw [Int32.le_iff_toInt_le, Int32.le_iff_toInt_le] at h
    have z0 : (0 : Int32).toInt = 0 := rfl
    have z6 : (6 : Int32).toInt = 6 := rfl
    rw [z0, z6] at h
    omega
theorem wishNowC {a : hw_T} {Λ : hx_L} {μ : hx_M} {p f : Nat} {l : List hl_R} {K : Int32 → hx_M → Prop} (F : cF Λ) (hc : CW 0 a μ) (w : WF 200 a) (hp : p < a.1.1) (hl : hl_LC Λ μ f l) (hl16 : l.length ≤ 16) (hok : ∀ r ∈ l, hl_okR r) (k : ∀ m, offR μ m → K (hw_wish a l p a.1.2.1 (a.2.1 3 p) (a.2.1 4 p) 0).1 m) : wX10_wishNow Λ μ (Λ.2.1 6 f) (Int32.ofNat p) K := by
  have hn := w.n
  obtain ⟨lc, cc, len, b1, b2⟩ := id hl
  have vp : vp_in (Int32.ofNat p) 16 := n32_in (by omega) (by omega)
  unfold wX10_wishNow
  rw [b1]
  refine ⟨?_, fun z => by cases z⟩
  rintro k1 z
  cases z
  rw [n32_nat (by omega), hc.coin hp, hc.worn hp, hc.s, n32_add1]
  exact ⟨vp, vp, wishC F hc w.up (Nat.le_refl _) hp hl b1 hl16 hok (fun m o _ => k m o)⟩
theorem wantsNowM {a : hw_T} {μ : hx_M} {p f sm : Nat} {l : List hl_R} {K : Int32 → hx_M → Prop} (hm : MW a μ) (w : WF 200 a) (hp : p < a.1.1) (hf : f < 5) (hin : μ.1 49 21 = Int32.ofNat f) (hsm : sm ≤ 3500) (hl : hl_LM μ sm f l) (hl16 : l.length ≤ 16) (hok : ∀ r ∈ l, hl_okR r) (k : ∀ m, offW μ m → K (hw_wish a l p a.1.2.1 (a.2.1 3 p) (a.2.1 4 p) 0).1 m) : wX12_wantsNow μ (Int32.ofNat p) K := by
  have hn := w.n
  have vp : vp_in (Int32.ofNat p) 16 := n32_in (by omega) (by omega)
  unfold wX12_wantsNow
  rw [n32_nat (by omega), hm.coin hp, hm.worn hp, hm.s, hin]
  exact ⟨vp, vp, wishM hm w.up (Nat.le_refl _) hp hf hsm hl hl16 hok (fun m o _ => k m o)⟩
theorem op_wears (Λ : hx_L) (μ : hx_M) (a1 a2 : Int32) (h : hI Λ μ) : wL_13 Λ μ a1 a2 hI := by
  obtain ⟨hF, hM, h15, a, ls, fo, is, w, hc, hm, ht, hl, hi⟩ := id h
  have hn := w.n
  have hs := w.s
  unfold wL_13 wX11_wears wX12_wears
  by_cases h1 : isP a a1
  · obtain ⟨p, hp, rfl⟩ := h1
    have vp : vp_in (Int32.ofNat p) 16 := n32_in (by omega) (by omega)
    refine t_hasY hc w hp (seln1 ?_)
    have np : (Int32.ofNat p).toNatClampNeg = p := n32_nat (by omega)
    rw [np]
    rcases sw7 (v := a2) with ⟨c1, c2⟩ | c | c | c | c | c | c | c
    · have z : ∀ x : Int32, 0 ≤ x → x ≤ 6 → ¬ a2 = x := fun x h1 h2 z => c2 (z ▸ ⟨h1, h2⟩)
      have z0 := z 0 (by decide) (by decide)
      have z1 := z 1 (by decide) (by decide)
      have z2 := z 2 (by decide) (by decide)
      have z3 := z 3 (by decide) (by decide)
      have z4 := z 4 (by decide) (by decide)
      have z5 := z 5 (by decide) (by decide)
      have z6 := z 6 (by decide) (by decide)
      refine ⟨fun _ => ?_, fun x => absurd x z0, fun x => absurd x z1, fun x => absurd x z2, fun x => absurd x z3, fun x => absurd x z4, fun x => absurd x z5, fun x => absurd x z6⟩
      by_cases h2 : 10 ≤ a2 ∧ a2 ≤ 15
      · have h3 : 0 ≤ a2 - 10 ∧ a2 - 10 ≤ 5 := by grind
        obtain ⟨k, e, hk⟩ := n32_of (hi := 5) h3.1 h3.2 (by omega)
        have e2 : a2 = Int32.ofNat k + 10 := by rw [← e]; grind
        have e3 : ((Int32.ofNat p * 6) + a2) - 10 = Int32.ofNat (6 * p + k) := by
          rw [e2, ← n32_add, ← n32_mul]
          have : Int32.ofNat 6 = 6 := rfl
          rw [this]; grind
        have e4 : ((6 * Int32.ofNat p) + a2) - 10 = Int32.ofNat (6 * p + k) := by rw [Int32.mul_comm, e3]
        have v96 : vp_in (Int32.ofNat (6 * p + k)) 96 := n32_in (by omega) (by omega)
        refine t_withinY h2 (sel1 ?_)
        rw [e3]
        refine ⟨v96, ?_⟩
        rintro x rfl
        refine t_isPersonY hm w hp (seln1 ⟨fun _ => t_isInY h2 (sel1 ?_), fun x => absurd x z0, fun x => absurd x z1, fun x => absurd x z2, fun x => absurd x z3, fun x => absurd x z4, fun x => absurd x z5, fun x => absurd x z6⟩)
        rw [e4]
        refine ⟨v96, ?_⟩
        rintro x rfl
        refine ⟨?_, h⟩
        rw [n32_nat (by omega), hc.tally (by omega), hm.tally (by omega)]
      · exact t_withinN h2 (sel0 (t_isPersonY hm w hp (seln1 ⟨fun _ => t_isInN h2 (sel0 ⟨rfl, h⟩), fun x => absurd x z0, fun x => absurd x z1, fun x => absurd x z2, fun x => absurd x z3, fun x => absurd x z4, fun x => absurd x z5, fun x => absurd x z6⟩)))
    · subst c
      refine ⟨fun z => absurd z (by decide), fun _ => ⟨vp, t_isPersonY hm w hp (seln1 ⟨fun z => absurd z (by decide), fun _ => ⟨vp, ?_, h⟩, fun z => absurd z (by decide), fun z => absurd z (by decide), fun z => absurd z (by decide), fun z => absurd z (by decide), fun z => absurd z (by decide), fun z => absurd z (by decide)⟩)⟩, fun z => absurd z (by decide), fun z => absurd z (by decide), fun z => absurd z (by decide), fun z => absurd z (by decide), fun z => absurd z (by decide), fun z => absurd z (by decide)⟩
      rw [hc.rank hp, hm.rank hp]
    · subst c
      refine ⟨fun z => absurd z (by decide), fun z => absurd z (by decide), fun _ => ⟨vp, t_isPersonY hm w hp (seln1 ⟨fun z => absurd z (by decide), fun z => absurd z (by decide), fun _ => ⟨vp, ?_, h⟩, fun z => absurd z (by decide), fun z => absurd z (by decide), fun z => absurd z (by decide), fun z => absurd z (by decide), fun z => absurd z (by decide)⟩)⟩, fun z => absurd z (by decide), fun z => absurd z (by decide), fun z => absurd z (by decide), fun z => absurd z (by decide), fun z => absurd z (by decide)⟩
      rw [hc.purse hp, hm.purse hp]
    · subst c
      rw [hc.s]
      refine ⟨fun z => absurd z (by decide), fun z => absurd z (by decide), fun z => absurd z (by decide), fun _ => lenC hc w.up (Nat.le_refl _) hp (t_isPersonY hm w hp (seln1 ⟨fun z => absurd z (by decide), fun z => absurd z (by decide), fun z => absurd z (by decide), fun _ => ?_, fun z => absurd z (by decide), fun z => absurd z (by decide), fun z => absurd z (by decide), fun z => absurd z (by decide)⟩)), fun z => absurd z (by decide), fun z => absurd z (by decide), fun z => absurd z (by decide), fun z => absurd z (by decide)⟩
      rw [hm.s]
      exact lenM hm w.up (Nat.le_refl _) hp ⟨rfl, h⟩
    · subst c
      refine ⟨fun z => absurd z (by decide), fun z => absurd z (by decide), fun z => absurd z (by decide), fun z => absurd z (by decide), fun _ => ⟨vp, t_isPersonY hm w hp (seln1 ⟨fun z => absurd z (by decide), fun z => absurd z (by decide), fun z => absurd z (by decide), fun z => absurd z (by decide), fun _ => ⟨vp, ?_, h⟩, fun z => absurd z (by decide), fun z => absurd z (by decide), fun z => absurd z (by decide)⟩)⟩, fun z => absurd z (by decide), fun z => absurd z (by decide), fun z => absurd z (by decide)⟩
      rw [hc.coin hp, hm.coin hp]
    · subst c
      refine ⟨fun z => absurd z (by decide), fun z => absurd z (by decide), fun z => absurd z (by decide), fun z => absurd z (by decide), fun z => absurd z (by decide), fun _ => ⟨vp, t_isPersonY hm w hp (seln1 ⟨fun z => absurd z (by decide), fun z => absurd z (by decide), fun z => absurd z (by decide), fun z => absurd z (by decide), fun z => absurd z (by decide), fun _ => ⟨vp, ?_, h⟩, fun z => absurd z (by decide), fun z => absurd z (by decide)⟩)⟩, fun z => absurd z (by decide), fun z => absurd z (by decide)⟩
      rw [hc.worn hp, hm.worn hp]
    · subst c
      refine ⟨fun z => absurd z (by decide), fun z => absurd z (by decide), fun z => absurd z (by decide), fun z => absurd z (by decide), fun z => absurd z (by decide), fun z => absurd z (by decide), fun _ => ⟨vp, t_isPersonY hm w hp (seln1 ⟨fun z => absurd z (by decide), fun z => absurd z (by decide), fun z => absurd z (by decide), fun z => absurd z (by decide), fun z => absurd z (by decide), fun z => absurd z (by decide), fun _ => ⟨vp, ?_, h⟩, fun z => absurd z (by decide)⟩)⟩, fun z => absurd z (by decide)⟩
      rw [hc.sees hp, hm.sees hp]
    · subst c
      refine ⟨fun z => absurd z (by decide), fun z => absurd z (by decide), fun z => absurd z (by decide), fun z => absurd z (by decide), fun z => absurd z (by decide), fun z => absurd z (by decide), fun z => absurd z (by decide), fun _ => ?_⟩
      cases fo with
      | none =>
        refine lawC0 hl ?_
        unfold wX10_wishNow
        refine ⟨fun k z => (by cases z), fun _ => t_isPersonY hm w hp (seln1 ⟨fun z => absurd z (by decide), fun z => absurd z (by decide), fun z => absurd z (by decide), fun z => absurd z (by decide), fun z => absurd z (by decide), fun z => absurd z (by decide), fun z => absurd z (by decide), fun _ => ?_⟩)⟩
        exact selE hl.2.2.2.1.2.2 ⟨rfl, h⟩
      | some f =>
        obtain ⟨l1, l2, l3, l4, _⟩ := id hl
        obtain ⟨sm, g1, g2, g3, g4, g5⟩ := hl.get' l4.1
        refine lawC1 hl (wishNowC hF hc w hp g4 g1 g2 (fun m1 o1 => t_isPersonY (hm.kC o1.keep) w hp (seln1 ⟨fun z => absurd z (by decide), fun z => absurd z (by decide), fun z => absurd z (by decide), fun z => absurd z (by decide), fun z => absurd z (by decide), fun z => absurd z (by decide), fun z => absurd z (by decide), fun _ => ?_⟩)))
        have e21 : m1.1 49 21 = Int32.ofNat f := by rw [o1.1 49 (by omega)]; exact l4.2.2
        obtain ⟨sm', g1', g2', g3', g4', g5'⟩ := (hl.frC o1.keep).get' l4.1
        rw [e21]
        refine selN (n32_neg (by omega) (by decide)) (wantsNowM (hm.kC o1.keep) w hp (by omega) e21 g3' g5' g1 g2 (fun m2 o2 => ⟨rfl, ?_⟩))
        exact hI.q (a := a) hF hM h15 ht hl hi o1.keep o2.keep w ((hc.oR o1).kM o2.keep) ((hm.kC o1.keep).oW o2)
  · exact t_hasN hc w h1 (seln0 (t_isPersonN hm w h1 (seln0 ⟨rfl, h⟩)))
/-- whether a change was led: nearer to (0 above, 2 alike), further from (1 below), any (3) -/
def ld_is (a : hw_T) (p what s : Nat) : Bool := if what = 3 then true else if hw_mean a p what (s - 1) = -1 then false else if what = 1 then decide (ab (a.2.1 6 (16 * (s - 1) + p) - hw_mean a p what (s - 1)) < ab (a.2.1 6 (16 * s + p) - hw_mean a p what (s - 1))) else decide (ab (a.2.1 6 (16 * s + p) - hw_mean a p what (s - 1)) < ab (a.2.1 6 (16 * (s - 1) + p) - hw_mean a p what (s - 1)))
def ld_st (a : hw_T) (p what : Nat) : Nat → Int32 → Int32 := fun s acc => if a.2.1 6 (16 * s + p) = a.2.1 6 (16 * (s - 1) + p) then acc else if ld_is a p what s = true then acc + 1 else acc
theorem changesOf_L5 {a : hw_T} {Λ : hx_L} {μ : hx_M} {p what : Nat} {K : Int32 → hx_M → Prop} (F : cF Λ) (hc : CW 0 a μ) (w : WF 300 a) (hp : p < a.1.1) (hw : what < 4) : ∀ (r s : Nat) (acc : Int32) (m : hx_M), 1 ≤ s → s + r = a.1.2.1 + 1 → offR μ m → (∀ m', offR μ m' → K (itN (ld_st a p what) s r acc) m') → wX0_changesOf_L5 Λ (Int32.ofNat p) (Int32.ofNat what) K (r + 1) acc (Int32.ofNat s) m := by
  have hn := w.n
  have hs3 := w.s
  intro r
  induction r with
  | zero =>
    intro s acc m h1 e o k
    unfold wX0_changesOf_L5
    rw [(hc.oR o).s]
    exact selT ((n32_lt (by omega) (by omega)).mpr (by omega)) (k m o)
  | succ r ih =>
    intro s acc m h1 e o k
    have hc' := hc.oR o
    obtain ⟨t, rfl⟩ : ∃ t, s = t + 1 := ⟨s - 1, by omega⟩
    have et : Int32.ofNat (t + 1) - 1 = Int32.ofNat t := by rw [← n32_add1, Int32.add_sub_cancel]
    have hi := fun m' o' => ih (t + 1 + 1) (ld_st a p what (t + 1) acc) m' (by omega) (by omega) o' k
    have k0 : ∀ m', offR μ m' → ld_st a p what (t + 1) acc = acc → wX0_changesOf_J75 Λ K (wX0_changesOf_L5 Λ (Int32.ofNat p) (Int32.ofNat what) K (r + 1)) (Int32.ofNat p) (Int32.ofNat what) acc (Int32.ofNat (t + 1)) m' := by
      intro m' o' z
      have := hi m' o'
      rw [z] at this
      unfold wX0_changesOf_J75
      rw [n32_add1]
      exact this
    have k1 : ∀ m', offR μ m' → ld_st a p what (t + 1) acc = acc + 1 → wX0_changesOf_J72 Λ K (wX0_changesOf_L5 Λ (Int32.ofNat p) (Int32.ofNat what) K (r + 1)) (Int32.ofNat p) (Int32.ofNat what) acc (Int32.ofNat (t + 1)) m' := by
      intro m' o' z
      have := hi m' o'
      rw [z] at this
      unfold wX0_changesOf_J72 wX0_changesOf_J75_5
      rw [n32_add1]
      exact this
    unfold wX0_changesOf_L5
    rw [hc'.s, et]
    refine selF (fun z => by have := (n32_lt (by omega) (by omega)).mp z; omega) (lenC hc' w (by omega) hp (lenC hc' w (by omega) hp ⟨fun z => k0 m o ?_, fun z => ⟨fun z2 => k1 m o ?_, fun z2 => ?_⟩⟩))
    · simp only [ld_st, Nat.add_sub_cancel, z, if_true]
    · have : what = 3 := (n32_eq (b := 3) (by omega) (by omega)).mp z2
      simp only [ld_st, ld_is, Nat.add_sub_cancel, if_neg z, this, if_true]
    · have hne3 : ¬ what = 3 := fun hh => z2 (by rw [hh]; rfl)
      unfold wX0_isLed
      rw [et]
      refine lookC F hc' w (by omega) hp (fun m1 h2 h3 => ⟨n32_in (by omega) (by omega), ?_⟩)
      have o1 : offR μ m1 := o.tr (offR.o2 h2)
      have hc1 := hc.oR o1
      rw [n32_nat (by omega), h3 what hw]
      by_cases g1 : hw_mean a p what t = -1
      · exact selE g1 (selT rfl (k0 m1 o1 (by simp only [ld_st, ld_is, Nat.add_sub_cancel, if_neg z, if_neg hne3, g1, if_true]; rfl)))
      · refine selN g1 (lenC hc1 w (by omega) hp ?_)
        rintro x rfl
        refine lenC hc1 w (by omega) hp ?_
        rintro y rfl
        by_cases g2 : what = 1
        · refine selE (by rw [g2]; rfl) ⟨fun z3 => selT rfl (k0 m1 o1 ?_), fun z3 => selF (by decide) (k1 m1 o1 ?_)⟩
          · have : ld_is a p what (t + 1) = false := by
              simp only [ld_is, Nat.add_sub_cancel, if_neg hne3, if_neg g1, if_pos g2]
              exact decide_eq_false (Int32.not_lt.mpr z3)
            simp only [ld_st, Nat.add_sub_cancel, if_neg z, this]; rfl
          · have : ld_is a p what (t + 1) = true := by
              simp only [ld_is, Nat.add_sub_cancel, if_neg hne3, if_neg g1, if_pos g2]
              exact decide_eq_true (Int32.not_le.mp z3)
            simp only [ld_st, Nat.add_sub_cancel, if_neg z, this, if_true]
        · refine selN (fun hh => g2 ((n32_eq (b := 1) (by omega) (by omega)).mp hh)) ⟨fun z3 => selT rfl (k0 m1 o1 ?_), fun z3 => selF (by decide) (k1 m1 o1 ?_)⟩
          · have : ld_is a p what (t + 1) = false := by
              simp only [ld_is, Nat.add_sub_cancel, if_neg hne3, if_neg g1, if_neg g2]
              exact decide_eq_false (Int32.not_lt.mpr z3)
            simp only [ld_st, Nat.add_sub_cancel, if_neg z, this]; rfl
          · have : ld_is a p what (t + 1) = true := by
              simp only [ld_is, Nat.add_sub_cancel, if_neg hne3, if_neg g1, if_neg g2]
              exact decide_eq_true (Int32.not_le.mp z3)
            simp only [ld_st, Nat.add_sub_cancel, if_neg z, this, if_true]
/-- how far two numbers are from one another -/
def dif (x y : Nat) : Nat := if y ≤ x then x - y else y - x
theorem ab_nat {x y : Nat} (hx : x < 2 ^ 29) (hy : y < 2 ^ 29) : ab (Int32.ofNat x - Int32.ofNat y) = Int32.ofNat (dif x y) := by
  have h1 := n32_sub (a := x) (b := y) (by omega) (by omega)
  have z0 : (0 : Int32).toInt = 0 := rfl
  unfold ab dif
  by_cases c : y ≤ x
  · rw [if_pos c, if_pos (by rw [Int32.le_iff_toInt_le, h1, z0]; omega), ← Int32.toInt_inj, h1, Int32.toInt_ofNat_of_lt (by omega)]
    omega
  · rw [if_neg c, if_neg (by rw [Int32.le_iff_toInt_le, h1, z0]; omega), ← Int32.toInt_inj, Int32.toInt_sub, h1, Int32.toInt_ofNat_of_lt (by omega), z0]
    have : ((y - x : Nat) : Int) = (y : Int) - x := by omega
    rw [this]
    apply (Int.bmod_eq_of_le _ _).trans <;> omega
theorem ab_rng {x y : Nat} (hx : x ≤ 10000) (hy : y ≤ 10000) : 0 ≤ ab (Int32.ofNat x - Int32.ofNat y) ∧ ab (Int32.ofNat x - Int32.ofNat y) ≤ 10000 := by
  rw [ab_nat (by omega) (by omega)]
  have : dif x y ≤ 10000 := by unfold dif; split <;> omega
  exact ⟨(n32_le (a := 0) (by omega) (by omega)).mpr (by omega), (n32_le (b := 10000) (by omega) (by omega)).mpr this⟩
theorem led_L24 {a : hw_T} {μ : hx_M} {p what : Nat} {K : Int32 → Prop} (hm : MW a μ) (w : WF 300 a) (hp : p < a.1.1) (hw : what < 4) : ∀ (r s : Nat) (acc : Int32), 1 ≤ s → s + r = a.1.2.1 + 1 → K (itN (ld_st a p what) s r acc) → wX12_led_L24 μ (Int32.ofNat p) (Int32.ofNat what) K (r + 1) acc (Int32.ofNat s) := by
  have hn := w.n
  have hs3 := w.s
  intro r
  induction r with
  | zero =>
    intro s acc h1 e k
    unfold wX12_led_L24
    rw [hm.s]
    exact selT ((n32_lt (by omega) (by omega)).mpr (by omega)) k
  | succ r ih =>
    intro s acc h1 e k
    obtain ⟨t, rfl⟩ : ∃ t, s = t + 1 := ⟨s - 1, by omega⟩
    have et : Int32.ofNat (t + 1) - 1 = Int32.ofNat t := by rw [← n32_add1, Int32.add_sub_cancel]
    have hi := ih (t + 1 + 1) (ld_st a p what (t + 1) acc) (by omega) (by omega) k
    rw [← n32_add1] at hi
    have k0 : ld_st a p what (t + 1) acc = acc → wX12_led_J141 μ K (wX12_led_L24 μ (Int32.ofNat p) (Int32.ofNat what) K (r + 1)) (Int32.ofNat p) (Int32.ofNat what) (Int32.ofNat (t + 1)) acc := by
      intro z
      unfold wX12_led_J141 wX12_led_J142_15 wX12_led_J147_18
      refine t_one ?_
      rw [z] at hi
      rw [b01_0 (by decide), Int32.add_zero]
      exact hi
    have k1 : ld_st a p what (t + 1) acc = acc + 1 → wX12_led_J137 μ K (wX12_led_L24 μ (Int32.ofNat p) (Int32.ofNat what) K (r + 1)) (Int32.ofNat p) (Int32.ofNat what) (Int32.ofNat (t + 1)) acc := by
      intro z
      unfold wX12_led_J137 wX12_led_J142 wX12_led_J147
      refine t_one ?_
      rw [z] at hi
      rw [b01_1 (by decide)]
      exact hi
    unfold wX12_led_L24
    rw [hm.s, et]
    refine selF (fun z => by have := (n32_lt (by omega) (by omega)).mp z; omega) (lenM hm w (by omega) hp (lenM hm w (by omega) hp ?_))
    by_cases g0 : a.2.1 6 (16 * (t + 1) + p) = a.2.1 6 (16 * t + p)
    · refine selE g0.symm ?_
      have : ld_st a p what (t + 1) acc = acc := by simp only [ld_st, Nat.add_sub_cancel, g0, if_true]
      rw [this] at hi
      unfold wX12_led_J147_19
      exact hi
    · refine selN (fun z => g0 z.symm) ?_
      by_cases g3 : what = 3
      · refine selE (by rw [g3]; rfl) ?_
        unfold wX12_led_J82 wX12_led_J111
        refine selE rfl (selT (by rw [g3]; rfl) (k1 ?_))
        simp only [ld_st, ld_is, Nat.add_sub_cancel, if_neg g0, g3, if_true]
      · have g3' : ¬ Int32.ofNat what = 3 := fun hh => g3 ((n32_eq (b := 3) (by omega) (by omega)).mp hh)
        refine selN g3' (meanM hm w (by omega) hp (by omega) ?_)
        unfold wX12_led_J82
        by_cases g1 : hw_mean a p what t = -1
        · refine selE g1 ?_
          have : ld_st a p what (t + 1) acc = acc := by simp only [ld_st, ld_is, Nat.add_sub_cancel, if_neg g0, if_neg g3, g1, if_true]; rfl
          unfold wX12_led_J111
          refine selF g3' ⟨fun _ => selT (by decide) (k0 this), fun _ => selT (by decide) (k0 this)⟩
        · refine selN g1 ?_
          rintro x rfl
          rintro y rfl
          obtain ⟨mn, em, hmn⟩ := (mean_rng (p := p) (w0 := what) w (t := t) (by omega)).resolve_left g1
          obtain ⟨l0, e0, hl0⟩ := n32_of (hi := 60) (w.2.2.2.2.1 t p (by omega) hp).1 (w.2.2.2.2.1 t p (by omega) hp).2 (by omega)
          obtain ⟨l1, e1, hl1⟩ := n32_of (hi := 60) (w.2.2.2.2.1 (t + 1) p (by omega) hp).1 (w.2.2.2.2.1 (t + 1) p (by omega) hp).2 (by omega)
          have r0 := ab_rng (x := l0) (y := mn) (by omega) (by omega)
          have r1 := ab_rng (x := l1) (y := mn) (by omega) (by omega)
          rw [← e0, ← em] at r0
          rw [← e1, ← em] at r1
          show wX12_led_J111 μ K (wX12_led_L24 μ (Int32.ofNat p) (Int32.ofNat what) K (r + 1)) (Int32.ofNat p) (Int32.ofNat what) acc (Int32.ofNat (t + 1)) (ab (a.2.1 6 (16 * (t + 1) + p) - hw_mean a p what t) - ab (a.2.1 6 (16 * t + p) - hw_mean a p what t))
          have hst : ld_st a p what (t + 1) acc = if ld_is a p what (t + 1) = true then acc + 1 else acc := by simp only [ld_st, Nat.add_sub_cancel, if_neg g0]
          have his : ld_is a p what (t + 1) = if what = 1 then decide (ab (a.2.1 6 (16 * t + p) - hw_mean a p what t) < ab (a.2.1 6 (16 * (t + 1) + p) - hw_mean a p what t)) else decide (ab (a.2.1 6 (16 * (t + 1) + p) - hw_mean a p what t) < ab (a.2.1 6 (16 * t + p) - hw_mean a p what t)) := by
            simp only [ld_is, Nat.add_sub_cancel, if_neg g3, if_neg g1]
          generalize ab (a.2.1 6 (16 * (t + 1) + p) - hw_mean a p what t) = u1 at *
          generalize ab (a.2.1 6 (16 * t + p) - hw_mean a p what t) = u0 at *
          unfold wX12_led_J111
          refine selF g3' ?_
          by_cases g2 : what = 1
          · rw [if_pos g2] at his
            refine selE (by rw [g2]; rfl) ⟨fun z => k0 ?_, fun z => k1 ?_⟩
            · rw [hst, his, decide_eq_false (by grind)]; rfl
            · rw [hst, his, decide_eq_true (by grind), if_pos rfl]
          · rw [if_neg g2] at his
            refine selN (fun hh => g2 ((n32_eq (b := 1) (by omega) (by omega)).mp hh)) ⟨fun z => k0 ?_, fun z => k1 ?_⟩
            · rw [hst, his, decide_eq_false (by grind)]; rfl
            · rw [hst, his, decide_eq_true (by grind), if_pos rfl]
theorem op_led (Λ : hx_L) (μ : hx_M) (a1 a2 : Int32) (h : hI Λ μ) : wL_16 Λ μ a1 a2 hI := by
  obtain ⟨hF, hM, h15, a, ls, fo, is, w, hc, hm, ht, hl, hi⟩ := id h
  unfold wL_16 wX11_led wX12_led
  by_cases h1 : isP a a1
  · obtain ⟨p, hp, rfl⟩ := h1
    by_cases h2 : 0 ≤ a2 ∧ a2 ≤ 3
    · obtain ⟨q, rfl, hq⟩ := n32_of (hi := 3) h2.1 h2.2 (by omega)
      refine t_hasY hc w hp (sel1 (t_withinY h2 (seln1 ?_)))
      unfold wX0_changesOf
      refine ⟨a.1.2.1 + 1, changesOf_L5 hF hc w.up hp (by omega) a.1.2.1 1 0 μ (by omega) (by omega) offR.rf (fun m o => ?_)⟩
      have hm' := hm.kC o.keep
      refine t_isPersonY hm' w hp (sel1 (t_isInY h2 (seln1 ⟨a.1.2.1 + 1, led_L24 hm' w.up hp (by omega) a.1.2.1 1 0 (by omega) (by omega) ⟨rfl, ?_⟩⟩)))
      exact hI.q (a := a) hF hM h15 ht hl hi o.keep keepM.rf w (hc.oR o) hm'
    · exact t_hasY hc w hp (sel1 (t_withinN h2 (seln0 (t_isPersonY hm w hp (sel1 (t_isInN h2 (seln0 ⟨rfl, h⟩)))))))
  · exact t_hasN hc w h1 (sel0 (t_isPersonN hm w h1 (sel0 ⟨rfl, h⟩)))
