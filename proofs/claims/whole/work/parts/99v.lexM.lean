/-! layer 2: law, how the reference reads words -/
def pkN (t : Nat → Int32) (q : Nat) : Nat → Nat
  | 0 => 0
  | L + 1 => pkN t q L * 256 + (t (q + L)).toNatClampNeg
def pkR : List Nat → Nat
  | [] => 0
  | c :: r => pkR r * 256 + c
theorem let_nat {x : Int32} (h : bL x = true) : ∃ b, x = Int32.ofNat b ∧ 97 ≤ b ∧ b ≤ 122 := by
  have h' : 97 ≤ x ∧ x ≤ 122 := decide_eq_true_iff.mp h
  obtain ⟨b, e, hb⟩ := n32_of (hi := 122) (Int32.le_trans (by decide) h'.1) h'.2 (by omega)
  refine ⟨b, e, ?_, hb⟩
  have := h'.1
  rw [e] at this
  exact (n32_le (a := 97) (by omega) (by omega)).mp this
theorem pkN_lt {t : Nat → Int32} {q : Nat} : ∀ {L : Nat}, (∀ j, q ≤ j → j < q + L → bL (t j) = true) → pkN t q L < 256 ^ L
  | 0, _ => by show 0 < 1; omega
  | L + 1, h => by
    have h1 := pkN_lt (t := t) (q := q) (L := L) (fun j a b => h j a (by omega))
    obtain ⟨b, e, b1, b2⟩ := let_nat (h (q + L) (by omega) (by omega))
    show pkN t q L * 256 + (t (q + L)).toNatClampNeg < 256 ^ (L + 1)
    rw [e, n32_nat (by omega), Nat.pow_succ]
    omega
theorem pk_wm {t : Nat → Int32} {q : Nat} : ∀ {L : Nat} {c : List Nat}, (∀ j, q ≤ j → j < q + L → bL (t j) = true) → (∀ x ∈ c, 97 ≤ x ∧ x ≤ 122) → (pkN t q L = pkR c ↔ wm t q L c = true)
  | 0, [], _, _ => ⟨fun _ => rfl, fun _ => rfl⟩
  | 0, c :: r, _, hc => by
    have := hc c List.mem_cons_self
    constructor
    · intro h
      have h' : 0 = pkR r * 256 + c := h
      omega
    · intro h; simp [wm] at h
  | L + 1, [], h, _ => by
    obtain ⟨b, e, b1, b2⟩ := let_nat (h (q + L) (by omega) (by omega))
    constructor
    · intro h
      have h' : pkN t q L * 256 + (t (q + L)).toNatClampNeg = 0 := h
      rw [e, n32_nat (by omega)] at h'
      omega
    · intro h; simp [wm] at h
  | L + 1, c :: r, h, hc => by
    have ih := pk_wm (t := t) (q := q) (L := L) (c := r) (fun j a b => h j a (by omega)) (fun x hx => hc x (List.mem_cons_of_mem _ hx))
    obtain ⟨b, e, b1, b2⟩ := let_nat (h (q + L) (by omega) (by omega))
    have hc0 := hc c List.mem_cons_self
    have ew : wm t q (L + 1) (c :: r) = (decide (t (q + L) = Int32.ofNat c) && wm t q L r) := rfl
    have ep : pkN t q (L + 1) = pkN t q L * 256 + (t (q + L)).toNatClampNeg := rfl
    have er : pkR (c :: r) = pkR r * 256 + c := rfl
    rw [ew, ep, er, Bool.and_eq_true, decide_eq_true_eq, ← ih, e, n32_nat (by omega), n32_eq (by omega) (by omega)]
    omega
theorem cmp_0 {x y : Int64} : lg_cmp x y = 0 ↔ x = y := by
  unfold lg_cmp
  by_cases c : x = y
  · subst c; simp
  · refine ⟨fun h => ?_, fun h => absurd h c⟩
    exfalso
    revert h
    rw [if_neg c]
    split <;> decide
/-- the text in the reference's row -/
def TX (N : Nat) (t : Nat → Int32) (μ : hx_M) : Prop := N ≤ 700 ∧ μ.1 49 24 = Int32.ofNat N ∧ ∀ j, j < N → μ.1 75 j = t j
/-- the same but for where the reference reads -/
def offX (μ m : hx_M) : Prop := (∀ c, c ≠ 49 → m.1 c = μ.1 c) ∧ (∀ j, j ≠ 25 → j ≠ 41 → j ≠ 42 → m.1 49 j = μ.1 49 j) ∧ m.2 = μ.2
theorem offX.rf {μ : hx_M} : offX μ μ := ⟨fun _ _ => rfl, fun _ _ _ _ => rfl, rfl⟩
theorem offX.sI {μ m : hx_M} {j : Nat} {v : Int32} (h : offX μ m) (hj : j = 25 ∨ j = 41 ∨ j = 42) : offX μ (hx_sI m 49 j v) := ⟨fun c hc => by rw [sIk hc]; exact h.1 c hc, fun i a b c => by rw [sIj (by omega)]; exact h.2.1 i a b c, h.2.2⟩
theorem offX.tr {μ m m' : hx_M} (h : offX μ m) (h2 : offX m m') : offX μ m' := ⟨fun c hc => (h2.1 c hc).trans (h.1 c hc), fun j a b c => (h2.2.1 j a b c).trans (h.2.1 j a b c), h2.2.2.trans h.2.2⟩
theorem TX.oX {N : Nat} {t : Nat → Int32} {μ m : hx_M} (h : TX N t μ) (o : offX μ m) : TX N t m := ⟨h.1, by rw [o.2.1 24 (by omega) (by omega) (by omega)]; exact h.2.1, fun j hj => by rw [o.1 75 (by omega)]; exact h.2.2 j hj⟩
section XM
variable {N : Nat} {t : Nat → Int32} {μ m : hx_M}
theorem blanks_L0 {K : hx_M → Prop} {p0 : Nat} (k : ∀ m', offX μ m' → m'.1 49 25 = Int32.ofNat (nb t N p0) → K m') : ∀ (r p : Nat) (m : hx_M), N - p = r → p ≤ N → TX N t m → offX μ m → m.1 49 25 = Int32.ofNat p → nb t N p = nb t N p0 → wX12_blanks_L0 K (r + 1) m := by
  intro r
  induction r with
  | zero =>
    intro p m e hp tx o h hn
    unfold wX12_blanks_L0
    have e1 : nb t N p = p := run_ge _ _ _ (by omega)
    have := tx.1
    rw [h, tx.2.1]
    refine selT ((n32_le (by omega) (by omega)).mpr (by omega)) (k m o ?_)
    rw [h, ← hn, e1]
  | succ r ih =>
    intro p m e hp tx o h hn
    have hN := tx.1
    unfold wX12_blanks_L0 wX12_blanks_J39
    rw [h, tx.2.1, n32_nat (by omega), tx.2.2 p (by omega), n32_add1]
    have v : vp_in (Int32.ofNat p) 700 := n32_in (by omega) (by omega)
    have bB' : bB (t p) = true ↔ (t p = 32 ∨ t p = 10) := decide_eq_true_iff
    have go : (t p = 32 ∨ t p = 10) → wX12_blanks_L0 K (r + 1) (hx_sI m 49 25 (Int32.ofNat (p + 1))) := fun z => by
      have o1 : offX m (hx_sI m 49 25 (Int32.ofNat (p + 1))) := offX.rf.sI (by omega)
      refine ih (p + 1) _ (by omega) (by omega) (tx.oX o1) (o.tr o1) sIe ?_
      rw [← hn]
      exact (run_yes (P := bB) (t := t) (by omega) (bB'.mpr z)).symm
    refine selF (fun z => by have := (n32_le (by omega) (by omega)).mp z; omega) ⟨v, fun z => go (Or.inl z), fun z => ⟨v, fun z2 => k m o ?_, fun z2 => go (Or.inr z2)⟩⟩
    have : bB (t p) = false := by
      cases hb : bB (t p) with
      | false => rfl
      | true =>
        exfalso
        rcases bB'.mp hb with z3 | z3
        · exact z z3
        · exact z2 z3
    rw [h, ← hn]
    congr 1
    exact (run_no (P := bB) this).symm
theorem blanksM {K : hx_M → Prop} {p : Nat} (tx : TX N t m) (hp : p ≤ N) (h : m.1 49 25 = Int32.ofNat p) (k : ∀ m', offX m m' → m'.1 49 25 = Int32.ofNat (nb t N p) → K m') : wX12_blanks m K := by
  unfold wX12_blanks
  exact ⟨_, blanks_L0 (μ := m) k (N - p) p m rfl hp tx offX.rf h rfl⟩
theorem n64_shl8or {a b : Nat} (ha : a < 2 ^ 50) (hb : b < 256) : (Int64.ofNat a <<< ((8 : Int32).toInt64 &&& 63)) ||| Int64.ofNat b = Int64.ofNat (a * 256 + b) := by
  have e8 : (8 : Int32).toInt64 &&& 63 = Int64.ofNat 8 := rfl
  rw [e8]
  apply Int64.toBitVec_inj.mp
  apply BitVec.eq_of_toNat_eq
  have h1 : (Int64.ofNat a <<< Int64.ofNat 8).toBitVec = BitVec.ofNat 64 (a * 256) := by
    show (BitVec.ofNat 64 a) <<< ((BitVec.ofNat 64 8).smod 64) = _
    have : (BitVec.ofNat 64 8).smod 64 = BitVec.ofNat 64 8 := by decide
    rw [this]
    apply BitVec.eq_of_toNat_eq
    show ((BitVec.ofNat 64 a) <<< (8 : Nat)).toNat = _
    rw [BitVec.toNat_shiftLeft, BitVec.toNat_ofNat, BitVec.toNat_ofNat, Nat.shiftLeft_eq]
    omega
  show ((Int64.ofNat a <<< Int64.ofNat 8).toBitVec ||| BitVec.ofNat 64 b).toNat = (BitVec.ofNat 64 (a * 256 + b)).toNat
  rw [h1, BitVec.toNat_or, BitVec.toNat_ofNat, BitVec.toNat_ofNat, BitVec.toNat_ofNat]
  rw [Nat.mod_eq_of_lt (show a * 256 < 2 ^ 64 by omega), Nat.mod_eq_of_lt (show b < 2 ^ 64 by omega), Nat.mod_eq_of_lt (show a * 256 + b < 2 ^ 64 by omega)]
  have : a * 256 = 2 ^ 8 * a := by omega
  rw [this, ← Nat.two_pow_add_eq_or_of_lt (by omega)]
/-- what a word is packed to -/
def wv (t : Nat → Int32) (q L : Nat) : Int64 := if L ≤ 7 then Int64.ofNat (pkN t q L) else 0
theorem word_L14 {K K1 : Int64 → hx_M → Prop} {q : Nat} (hq : q ≤ N) (k : ∀ (v : Int64) m', offX μ m' → m'.1 49 25 = Int32.ofNat q → m'.1 49 41 = Int32.ofNat (run bL t N q) → (run bL t N q - q ≤ 7 → v = Int64.ofNat (pkN t q (run bL t N q - q))) → K1 v m') : ∀ (r p : Nat) (v : Int64) (m : hx_M), N - p = r → q ≤ p → p ≤ N → TX N t m → offX μ m → m.1 49 25 = Int32.ofNat q → m.1 49 41 = Int32.ofNat p → run bL t N p = run bL t N q → (∀ j, q ≤ j → j < p → bL (t j) = true) → (p - q ≤ 7 → v = Int64.ofNat (pkN t q (p - q))) → wX12_word_L14 K K1 (r + 1) v m := by
  intro r
  induction r with
  | zero =>
    intro p v m e hqp hp tx o h25 h41 hr hl hv
    have hN := tx.1
    unfold wX12_word_L14
    have e1 : run bL t N p = p := run_ge _ _ _ (by omega)
    rw [h41, tx.2.1]
    refine selT ((n32_le (by omega) (by omega)).mpr (by omega)) (k v m o h25 ?_ ?_)
    · rw [h41, ← hr, e1]
    · rw [← hr, e1]; exact hv
  | succ r ih =>
    intro p v m e hqp hp tx o h25 h41 hr hl hv
    have hN := tx.1
    unfold wX12_word_L14 wX12_word_J86
    rw [h41, h25, tx.2.1, n32_nat (by omega), tx.2.2 p (by omega), n32_add1, n32_subn hqp]
    have vp : vp_in (Int32.ofNat p) 700 := n32_in (by omega) (by omega)
    have stop : bL (t p) = false → K1 v m := fun hb => by
      have e1 : run bL t N p = p := run_no hb
      refine k v m o h25 ?_ ?_
      · rw [h41, ← hr, e1]
      · rw [← hr, e1]; exact hv
    have bL' : bL (t p) = true ↔ (97 ≤ t p ∧ t p ≤ 122) := decide_eq_true_iff
    refine selF (fun z => by have := (n32_le (by omega) (by omega)).mp z; omega) ⟨vp, fun z => stop ?_, fun z => ⟨vp, fun z2 => stop ?_, fun z2 => ?_⟩⟩
    · cases hb : bL (t p) with
      | false => rfl
      | true => exact absurd (bL'.mp hb).1 (Int32.not_le.mpr z)
    · cases hb : bL (t p) with
      | false => rfl
      | true => exact absurd (bL'.mp hb).2 (Int32.not_le.mpr z2)
    · have hb : bL (t p) = true := bL'.mpr ⟨Int32.not_lt.mp z, Int32.not_lt.mp z2⟩
      have hl' : ∀ j, q ≤ j → j < p + 1 → bL (t j) = true := fun j a b => by
        by_cases c : j = p
        · rw [c]; exact hb
        · exact hl j a (by omega)
      have o1 : offX m (hx_sI m 49 41 (Int32.ofNat (p + 1))) := offX.rf.sI (by omega)
      have hrun : run bL t N (p + 1) = run bL t N q := by rw [← hr]; exact (run_yes (by omega) hb).symm
      have e7 : (7 : Int32) = Int32.ofNat 7 := rfl
      rw [e7, n32_le (by omega) (by omega)]
      refine ⟨fun z3 => ih (p + 1) 0 _ (by omega) (by omega) (by omega) (tx.oX o1) (o.tr o1) (by rw [sIj (by omega)]; exact h25) sIe hrun hl' (fun z4 => by omega), fun z3 => ⟨vp, ?_⟩⟩
      rintro x rfl
      obtain ⟨b, eb, b1, b2⟩ := let_nat hb
      refine ih (p + 1) _ _ (by omega) (by omega) (by omega) (tx.oX o1) (o.tr o1) (by rw [sIj (by omega)]; exact h25) sIe hrun hl' (fun z4 => ?_)
      have hpk := pkN_lt (t := t) (q := q) (L := p - q) (fun j a c => hl j a (by omega))
      have h256 : 256 ^ (p - q) ≤ 256 ^ 6 := Nat.pow_le_pow_right (by omega) (by omega)
      rw [hv (by omega), eb, n64_of (by omega), n64_shl8or (by omega) (by omega)]
      congr 1
      rw [show p + 1 - q = (p - q) + 1 by omega]
      show pkN t q (p - q) * 256 + b = pkN t q (p - q) * 256 + (t (q + (p - q))).toNatClampNeg
      rw [show q + (p - q) = p by omega, eb, n32_nat (by omega)]
theorem wordM {K : Int64 → hx_M → Prop} {p : Nat} (tx : TX N t m) (hp : p ≤ N) (h : m.1 49 25 = Int32.ofNat p) (k : ∀ m', offX m m' → m'.1 49 25 = Int32.ofNat (nb t N p) → m'.1 49 41 = Int32.ofNat (run bL t N (nb t N p)) → K (wv t (nb t N p) (run bL t N (nb t N p) - nb t N p)) m') : wX12_word m K := by
  have hq := (run_rng bB t N p).2.1 hp
  have hN := tx.1
  unfold wX12_word
  refine blanksM tx hp h (fun m1 o1 h1 => ⟨_, word_L14 (μ := m) (q := nb t N p) (t := t) (N := N) hq (fun v m' o' a1 a2 a3 => ?_) (N - nb t N p) (nb t N p) 0 _ rfl (Nat.le_refl _) hq ((tx.oX o1).oX (offX.rf.sI (by omega))) (o1.sI (by omega)) (by rw [sIj (by omega)]; exact h1) (by rw [sIe]; exact h1) rfl (fun j a b => by omega) (fun _ => by rw [Nat.sub_self]; rfl)⟩)
  have hr := (run_rng bL t N (nb t N p))
  have hr2 := hr.2.1 hq
  unfold wX12_word_J100
  have hk := k m' o' a1 a2
  unfold wv at hk
  have e7 : (7 : Int32) = Int32.ofNat 7 := rfl
  rw [a1, a2, n32_subn hr.1, e7, n32_le (by omega) (by omega)]
  refine ⟨fun z => ?_, fun z => ?_⟩
  · rw [if_pos z] at hk
    rw [a3 z]
    exact hk
  · rw [if_neg z] at hk
    exact hk
end XM
