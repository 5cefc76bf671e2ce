/-! layer 2: read -/
theorem keepC.CW {a : hw_T} {μ m : hx_M} (_ : keepC μ m) : True := trivial
def rd_in (a : hw_T) (l : List hl_R) (s : Nat) : Nat → Int32 → Int32 := fun p acc => acc + ab ((hw_wish a l p (s - 1) (a.2.1 7 (16 * s + p)) (a.2.1 8 (16 * s + p)) (a.2.1 9 (16 * s + p))).1 - a.2.1 6 (16 * s + p))
def rd_out (a : hw_T) (l : List hl_R) : Nat → Int32 → Int32 := fun s acc => itN (rd_in a l s) 0 a.1.1 acc
def rd_lo (s : Nat) : Nat := if 20 < s then s - 19 else 1
def hw_read (a : hw_T) (l : List hl_R) : Int32 := itN (rd_out a l) (rd_lo a.1.2.1) (a.1.2.1 + 1 - rd_lo a.1.2.1) 0
theorem offOf_L39 {a : hw_T} {Λ : hx_L} {μ : hx_M} {s f lc : Nat} {l : List hl_R} {K K1 : Int32 → hx_M → Prop} (F : cF Λ) (hc : CW 0 a μ) (w : WF 300 a) (hs1 : 1 ≤ s) (hs : s ≤ a.1.2.1) (hl : hl_LC Λ μ f l) (hlc : Λ.2.1 6 f = some lc) (hl16 : l.length ≤ 16) (hok : ∀ r ∈ l, hl_okR r) : ∀ (r p : Nat) (acc : Int32) (m : hx_M), p + r = a.1.1 → offR μ m → (∀ m', offR μ m' → K1 (itN (rd_in a l s) p r acc) m') → wX0_offOf_L39 Λ lc (Int32.ofNat s) K K1 (r + 1) acc (Int32.ofNat p) m := by
  have hn := w.n
  have hs3 := w.s
  intro r
  induction r with
  | zero =>
    intro p acc m e o k
    have hp : p = a.1.1 := by omega
    subst hp
    unfold wX0_offOf_L39
    rw [(hc.oR o).n]
    exact selT (Int32.le_refl _) (k m o)
  | succ r ih =>
    intro p acc m e o k
    have hc' := hc.oR o
    obtain ⟨t, rfl⟩ : ∃ t, s = t + 1 := ⟨s - 1, by omega⟩
    obtain ⟨q1, q2, q3⟩ := hc'.asked (t := t + 1) (p := p) (by omega) hs (by omega)
    unfold wX0_offOf_L39
    rw [hc'.n]
    have vi : vp_in (Int32.ofNat (16 * (t + 1) + p)) 4816 := n32_in (by omega) (by omega)
    refine selF (fun z => by have := (n32_le (by omega) (by omega)).mp z; omega) ?_
    unfold wX3_coinAsked wX3_wornAsked wX3_chanceAsked
    rw [idxC, n32_nat (by omega), q1]
    refine ⟨vi, ?_⟩
    rintro x rfl
    refine ⟨vi, ?_⟩
    rintro x rfl
    dsimp only
    rw [q2]
    refine ⟨vi, ?_⟩
    rintro x rfl
    rw [q3]
    have hl' : hl_LC Λ m f l := by
      obtain ⟨lc', cc, len, b1, b2, b3, b4, b5, b6, b7, b8, b9, b10, b11⟩ := hl
      exact ⟨lc', cc, len, b1, b2, b3, b4, b5, b6, b7, b8, b9, by rw [o.1 lc' (by omega)]; exact b10, hl_C.fr (o.1 cc (by omega)) b11⟩
    refine wishC F hc' w (t := t) (by omega) (by omega) hl' hlc hl16 hok (fun m1 o1 _ => ?_)
    have o2 := o.tr o1
    refine lenC (hc.oR o2) w hs (by omega) ?_
    rintro x rfl
    rw [n32_add1]
    exact ih (p + 1) _ m1 (by omega) o2 k
theorem offOf_L25 {a : hw_T} {Λ : hx_L} {μ : hx_M} {f lc : Nat} {l : List hl_R} {K : Int32 → hx_M → Prop} (F : cF Λ) (hc : CW 0 a μ) (w : WF 300 a) (hl : hl_LC Λ μ f l) (hlc : Λ.2.1 6 f = some lc) (hl16 : l.length ≤ 16) (hok : ∀ r ∈ l, hl_okR r) : ∀ (r s : Nat) (acc : Int32) (m : hx_M), 1 ≤ s → s + r = a.1.2.1 + 1 → offR μ m → (∀ m', offR μ m' → K (itN (rd_out a l) s r acc) m') → wX0_offOf_L25 Λ lc K (r + 1) acc (Int32.ofNat s) m := by
  have hn := w.n
  have hs3 := w.s
  intro r
  induction r with
  | zero =>
    intro s acc m h1 e o k
    unfold wX0_offOf_L25
    rw [(hc.oR o).s]
    exact selT ((n32_lt (by omega) (by omega)).mpr (by omega)) (k m o)
  | succ r ih =>
    intro s acc m h1 e o k
    unfold wX0_offOf_L25
    rw [(hc.oR o).s]
    refine selF (fun z => by have := (n32_lt (by omega) (by omega)).mp z; omega) ⟨a.1.1 + 1, offOf_L39 F hc w h1 (by omega) hl hlc hl16 hok a.1.1 0 acc m (by omega) o (fun m' o' => ?_)⟩
    rw [n32_add1]
    exact ih (s + 1) _ m' (by omega) (by omega) o' k
theorem rd_loC {s : Nat} (h : s ≤ 300) : (if 1 < ((Int32.ofNat s - 20) + 1) then ((Int32.ofNat s - 20) + 1) else 1) = Int32.ofNat (rd_lo s) ∧ (if 1 < (Int32.ofNat s - 19) then (Int32.ofNat s - 19) else 1) = Int32.ofNat (rd_lo s) := by
  have e : (Int32.ofNat s - 20) + 1 = Int32.ofNat s - 19 := by grind
  rw [e]
  refine ⟨?_, ?_⟩
  all_goals
    have hsub := n32_sub (a := s) (b := 19) (by omega) (by omega)
    have z19 : Int32.ofNat 19 = 19 := rfl
    have z1 : (1 : Int32).toInt = 1 := rfl
    rw [z19] at hsub
    unfold rd_lo
    by_cases c : 20 < s
    · rw [if_pos c, if_pos (by rw [Int32.lt_iff_toInt_lt, hsub, z1]; omega), ← Int32.toInt_inj, hsub, Int32.toInt_ofNat_of_lt (by omega)]
      omega
    · rw [if_neg c, if_neg (by rw [Int32.lt_iff_toInt_lt, hsub, z1]; omega)]
      rfl
theorem readC {a : hw_T} {Λ : hx_L} {μ : hx_M} {f : Nat} {l : List hl_R} {K : Int32 → hx_M → Prop} (F : cF Λ) (hc : CW 0 a μ) (w : WF 300 a) (hl : hl_LC Λ μ f l) (hl16 : l.length ≤ 16) (hok : ∀ r ∈ l, hl_okR r) (k : ∀ m', offR μ m' → K (hw_read a l) m') : wX0_offOf Λ μ (Λ.2.1 6 f) K := by
  have hs3 := w.s
  obtain ⟨lc, cc, len, b1, b2⟩ := id hl
  unfold wX0_offOf
  rw [b1, hc.s, (rd_loC hs3).1]
  refine ⟨?_, fun z => by cases z⟩
  rintro k1 z
  cases z
  rintro x rfl
  have h1 : 1 ≤ rd_lo a.1.2.1 ∧ rd_lo a.1.2.1 ≤ a.1.2.1 + 1 := by unfold rd_lo; split <;> omega
  exact ⟨_, offOf_L25 F hc w hl b1 hl16 hok (a.1.2.1 + 1 - rd_lo a.1.2.1) _ 0 μ h1.1 (by omega) offR.rf k⟩
theorem readBy_L25 {a : hw_T} {μ : hx_M} {s f sm : Nat} {l : List hl_R} {K K1 : Int32 → hx_M → Prop} (hm : MW a μ) (w : WF 300 a) (hs1 : 1 ≤ s) (hs : s ≤ a.1.2.1) (hf : f < 5) (hsm : sm ≤ 3500) (hl : hl_LM μ sm f l) (hl16 : l.length ≤ 16) (hok : ∀ r ∈ l, hl_okR r) : ∀ (r p : Nat) (acc : Int32) (m : hx_M), p + r = a.1.1 → offW μ m → (∀ m', offW μ m' → K1 (itN (rd_in a l s) p r acc) m') → wX12_readBy_L25 (Int32.ofNat f) (Int32.ofNat s) K K1 (r + 1) acc (Int32.ofNat p) m := by
  have hn := w.n
  have hs3 := w.s
  intro r
  induction r with
  | zero =>
    intro p acc m e o k
    have hp : p = a.1.1 := by omega
    subst hp
    unfold wX12_readBy_L25
    rw [(hm.oW o).n]
    exact selT (Int32.le_refl _) (k m o)
  | succ r ih =>
    intro p acc m e o k
    have hm' := hm.oW o
    obtain ⟨t, rfl⟩ : ∃ t, s = t + 1 := ⟨s - 1, by omega⟩
    obtain ⟨q1, q2, q3⟩ := hm'.asked (t := t + 1) (p := p) (by omega) hs (by omega)
    have vi : vp_in (Int32.ofNat (16 * (t + 1) + p)) 4816 := n32_in (by omega) (by omega)
    unfold wX12_readBy_L25
    rw [hm'.n, idxM, n32_nat (by omega), q1, q2, q3]
    refine selF (fun z => by have := (n32_le (by omega) (by omega)).mp z; omega) ⟨vi, vi, vi, ?_⟩
    have et : Int32.ofNat (t + 1) - 1 = Int32.ofNat t := by rw [← n32_add1, Int32.add_sub_cancel]
    have hl' : hl_LM m sm f l := ⟨by rw [o.1 63 (by omega) (by omega) (by omega) (by omega)]; exact hl.1, hl_M.fr (fun k h1 h2 => o.1 k (by omega) (by omega) (by omega) (by omega)) hl.2⟩
    rw [et]
    refine wishM hm' w (t := t) (by omega) (by omega) hf hsm hl' hl16 hok (fun m1 o1 _ => ⟨vi, ?_⟩)
    rintro x rfl
    have o2 := o.tr o1
    rw [(hm.oW o2).len hs (by omega), n32_add1]
    exact ih (p + 1) _ m1 (by omega) o2 k
theorem readBy_L14 {a : hw_T} {μ : hx_M} {f sm : Nat} {l : List hl_R} {K : Int32 → hx_M → Prop} (hm : MW a μ) (w : WF 300 a) (hf : f < 5) (hsm : sm ≤ 3500) (hl : hl_LM μ sm f l) (hl16 : l.length ≤ 16) (hok : ∀ r ∈ l, hl_okR r) : ∀ (r s : Nat) (acc : Int32) (m : hx_M), 1 ≤ s → s + r = a.1.2.1 + 1 → offW μ m → (∀ m', offW μ m' → K (itN (rd_out a l) s r acc) m') → wX12_readBy_L14 (Int32.ofNat f) K (r + 1) acc (Int32.ofNat s) m := by
  have hn := w.n
  have hs3 := w.s
  intro r
  induction r with
  | zero =>
    intro s acc m h1 e o k
    unfold wX12_readBy_L14
    rw [(hm.oW o).s]
    exact selT ((n32_lt (by omega) (by omega)).mpr (by omega)) (k m o)
  | succ r ih =>
    intro s acc m h1 e o k
    unfold wX12_readBy_L14
    rw [(hm.oW o).s]
    refine selF (fun z => by have := (n32_lt (by omega) (by omega)).mp z; omega) ⟨a.1.1 + 1, readBy_L25 hm w h1 (by omega) hf hsm hl hl16 hok a.1.1 0 acc m (by omega) o (fun m' o' => ?_)⟩
    rw [n32_add1]
    exact ih (s + 1) _ m' (by omega) (by omega) o' k
theorem readM {a : hw_T} {μ : hx_M} {f sm : Nat} {l : List hl_R} {K : Int32 → hx_M → Prop} (hm : MW a μ) (w : WF 300 a) (hf : f < 5) (hsm : sm ≤ 3500) (hl : hl_LM μ sm f l) (hl16 : l.length ≤ 16) (hok : ∀ r ∈ l, hl_okR r) (k : ∀ m', offW μ m' → K (hw_read a l) m') : wX12_readBy μ (Int32.ofNat f) K := by
  have hs3 := w.s
  unfold wX12_readBy
  rw [hm.s, (rd_loC hs3).2]
  rintro x rfl
  have h1 : 1 ≤ rd_lo a.1.2.1 ∧ rd_lo a.1.2.1 ≤ a.1.2.1 + 1 := by unfold rd_lo; split <;> omega
  exact ⟨_, readBy_L14 hm w hf hsm hl hl16 hok (a.1.2.1 + 1 - rd_lo a.1.2.1) _ 0 μ h1.1 (by omega) offW.rf k⟩
/-- which law reads best: number (or -1) and how far off -/
def rb_st (a : hw_T) (ls : List (List hl_R)) : Nat → Int32 × Int32 → Int32 × Int32 := fun k b => if b.1 = -1 then (Int32.ofNat k, hw_read a (ls.getD k [])) else if b.2 ≤ hw_read a (ls.getD k []) then b else (Int32.ofNat k, hw_read a (ls.getD k []))
theorem LAWS.frC {Λ : hx_L} {μ m : hx_M} {ls : List (List hl_R)} {fo : Option Nat} (h : LAWS Λ μ ls fo) (k : keepC μ m) : LAWS Λ m ls fo := h.fr (by rw [k.a 0 (by omega)]) (by rw [k.a 0 (by omega)]) (fun j _ => by rw [k.a 49 (by omega)]) (fun i _ _ => k.a i (by omega)) (fun i _ => k.a i (by omega))
theorem LAWS.frM {Λ : hx_L} {μ m : hx_M} {ls : List (List hl_R)} {fo : Option Nat} (h : LAWS Λ μ ls fo) (k : keepM μ m) : LAWS Λ m ls fo := h.fr (by rw [k.a 0 (by omega)]) (by rw [k.a 0 (by omega)]) (fun j hj => k.2 j (by simp at hj ⊢; omega)) (fun i _ _ => k.a i (by omega)) (fun i _ => k.a i (by omega))
theorem LAWS.get' {Λ : hx_L} {μ : hx_M} {ls : List (List hl_R)} {fo : Option Nat} (h : LAWS Λ μ ls fo) {f : Nat} (hf : f < ls.length) : ∃ sm, (ls.getD f []).length ≤ 16 ∧ (∀ r ∈ ls.getD f [], hl_okR r) ∧ sm ≤ 3500 ∧ hl_LC Λ μ f (ls.getD f []) ∧ hl_LM μ sm f (ls.getD f []) := by
  obtain ⟨l, sm, e, h1⟩ := h.get hf
  have : ls.getD f [] = l := by simp [List.getD, e]
  rw [this]
  exact ⟨sm, h1⟩
theorem bestC_L6 {a : hw_T} {Λ : hx_L} {μ : hx_M} {ls : List (List hl_R)} {fo : Option Nat} {K : Int32 → hx_M → Prop} (F : cF Λ) (hc : CW 0 a μ) (w : WF 300 a) (hl : LAWS Λ μ ls fo) : ∀ (r i : Nat) (b : Int32 × Int32) (m : hx_M), i + r = ls.length → offR μ m → (∀ m', offR μ m' → K (itN (rb_st a ls) i r b).1 m') → wX11_lawReadingBest_L6 Λ K (r + 1) b.1 b.2 (Int32.ofNat i) m := by
  obtain ⟨l1, l2, _⟩ := id hl
  intro r
  induction r with
  | zero =>
    intro i b m e o k
    unfold wX11_lawReadingBest_L6
    rw [o.1 0 (by omega), l2]
    exact selT ((n32_le (by omega) (by omega)).mpr (by omega)) (k m o)
  | succ r ih =>
    intro i b m e o k
    unfold wX11_lawReadingBest_L6
    rw [o.1 0 (by omega), l2, n32_nat (by omega)]
    obtain ⟨sm, g1, g2, g3, g4, g5⟩ := (hl.frC o.keep).get' (f := i) (by omega)
    refine selF (fun z => by have := (n32_le (by omega) (by omega)).mp z; omega) ⟨n32_in (by omega) (by omega), readC F (hc.oR o) w g4 g1 g2 (fun m1 o1 => ?_)⟩
    have hi := ih (i + 1) (rb_st a ls i b) m1 (by omega) (o.tr o1) k
    unfold wX11_lawReadingBest_J40 wX11_lawReadingBest_J45 wX11_lawReadingBest_J45_4
    rw [n32_add1]
    unfold rb_st at hi
    refine ⟨fun z => ?_, fun z => ⟨fun z2 => ?_, fun z2 => ?_⟩⟩
    · rw [if_pos z] at hi; exact hi
    · rw [if_neg z, if_pos z2] at hi; exact hi
    · rw [if_neg z, if_neg z2] at hi; exact hi
theorem bestM_L36 {a : hw_T} {Λ : hx_L} {μ : hx_M} {ls : List (List hl_R)} {fo : Option Nat} {K : Int32 → hx_M → Prop} (hm : MW a μ) (w : WF 300 a) (hl : LAWS Λ μ ls fo) : ∀ (r i : Nat) (b : Int32 × Int32) (m : hx_M), i + r = ls.length → offW μ m → (∀ m', offW μ m' → K (itN (rb_st a ls) i r b).1 m') → wX12_read_L36 K (r + 1) b.1 b.2 (Int32.ofNat i) m := by
  obtain ⟨l1, _, l3, _⟩ := id hl
  intro r
  induction r with
  | zero =>
    intro i b m e o k
    unfold wX12_read_L36
    rw [o.2.1 20 (by omega), l3]
    exact selT ((n32_le (by omega) (by omega)).mpr (by omega)) (k m o)
  | succ r ih =>
    intro i b m e o k
    unfold wX12_read_L36
    rw [o.2.1 20 (by omega), l3]
    obtain ⟨sm, g1, g2, g3, g4, g5⟩ := (hl.frM o.keep).get' (f := i) (by omega)
    refine selF (fun z => by have := (n32_le (by omega) (by omega)).mp z; omega) (readM (hm.oW o) w (by omega) g3 g5 g1 g2 (fun m1 o1 => ?_))
    have hi := ih (i + 1) (rb_st a ls i b) m1 (by omega) (o.tr o1) k
    unfold wX12_read_J67 wX12_read_J73 wX12_read_J73_3
    rw [n32_add1]
    unfold rb_st at hi
    refine ⟨fun z => ?_, fun z => ⟨fun z2 => ?_, fun z2 => ?_⟩⟩
    · rw [if_pos z] at hi; exact hi
    · rw [if_neg z, if_neg (Int32.not_le.mpr z2)] at hi; exact hi
    · rw [if_neg z, if_pos (Int32.not_lt.mp z2)] at hi; exact hi
theorem op_read (Λ : hx_L) (μ : hx_M) (a1 : Int32) (h : hI Λ μ) : wL_31 Λ μ a1 hI := by
  obtain ⟨hF, hM, h15, a, ls, fo, is, w, hc, hm, ht, hl, hi⟩ := id h
  obtain ⟨l1, l2, l3, _⟩ := id hl
  unfold wL_31 wX11_read wX12_read
  rw [l2]
  have fin : ∀ m1 m2, offR μ m1 → offW m1 m2 → hI Λ m2 := fun m1 m2 o1 o2 => hI.q (a := a) hF hM h15 ht hl hi o1.keep o2.keep w ((hc.oR o1).kM o2.keep) ((hm.kC o1.keep).oW o2)
  by_cases h1 : a1 = -1
  · refine selE h1 ?_
    unfold wX11_lawReadingBest
    refine ⟨ls.length + 1, bestC_L6 hF hc w.up hl ls.length 0 (-1, 0) μ (by omega) offR.rf (fun m1 o1 => selT h1 ⟨ls.length + 1, bestM_L36 (hm.kC o1.keep) w.up (hl.frC o1.keep) ls.length 0 (-1, 0) m1 (by omega) offW.rf (fun m2 o2 => ⟨rfl, fin m1 m2 o1 o2⟩)⟩)⟩
  · refine selN h1 ?_
    by_cases h2 : ∃ k, k < ls.length ∧ a1 = Int32.ofNat k
    · have h2' := (n32_pred (by omega)).mpr h2
      obtain ⟨f, hf, rfl⟩ := h2
      refine t_withinY h2' (sel1 ⟨n32_in (by omega) (by omega), ?_⟩)
      rw [n32_nat (by omega)]
      obtain ⟨sm, g1, g2, g3, g4, g5⟩ := hl.get' hf
      refine readC hF hc w.up g4 g1 g2 (fun m1 o1 => selF h1 ?_)
      dsimp only
      rw [o1.1 49 (by omega), l3]
      obtain ⟨sm', g1', g2', g3', g4', g5'⟩ := (hl.frC o1.keep).get' hf
      exact t_isInY h2' (sel1 (readM (hm.kC o1.keep) w.up (by omega) g3' g5' g1 g2 (fun m2 o2 => ⟨rfl, fin m1 m2 o1 o2⟩)))
    · have h2' : ¬ (0 ≤ a1 ∧ a1 ≤ Int32.ofNat ls.length - 1) := fun z => h2 ((n32_pred (by omega)).mp z)
      refine t_withinN h2' (sel0 (selF h1 ?_))
      dsimp only
      rw [l3]
      exact t_isInN h2' (sel0 ⟨rfl, h⟩)
