/-! layer 2: claims -/
/-- of n, k chosen -/
def bin : Nat → Nat → Nat
  | _, 0 => 1
  | 0, _ + 1 => 0
  | n + 1, k + 1 => bin n k + bin n (k + 1)
theorem bin_0 (n : Nat) : bin n 0 = 1 := by cases n <;> rfl
theorem bin_z : ∀ {n k : Nat}, n < k → bin n k = 0
  | 0, k + 1, _ => rfl
  | n + 1, k + 1, h => by
    show bin n k + bin n (k + 1) = 0
    rw [bin_z (n := n) (k := k) (by omega), bin_z (n := n) (k := k + 1) (by omega)]
theorem bin_s (n k : Nat) : bin (n + 1) (k + 1) = bin n k + bin n (k + 1) := rfl
theorem bin_id : ∀ (n k : Nat), bin n (k + 1) * (k + 1) = bin n k * (n - k)
  | 0, k => by
    have : bin 0 (k + 1) = 0 := rfl
    rw [this, Nat.zero_mul, Nat.zero_sub, Nat.mul_zero]
  | n + 1, 0 => by
    have h := bin_id n 0
    rw [bin_0] at h
    rw [bin_s, bin_0, bin_0]
    omega
  | n + 1, k + 1 => by
    have h1 := bin_id n k
    have h2 := bin_id n (k + 1)
    rw [bin_s n (k + 1), bin_s n k]
    by_cases c : k + 1 ≤ n
    · obtain ⟨d, rfl⟩ : ∃ d, n = k + 1 + d := ⟨n - (k + 1), by omega⟩
      rw [show k + 1 + d - k = d + 1 by omega] at h1
      rw [show k + 1 + d - (k + 1) = d by omega] at h2
      rw [show k + 1 + d + 1 - (k + 1) = d + 1 by omega]
      rw [Nat.add_mul, Nat.add_mul, ← h1, h2, ← Nat.mul_add, ← Nat.mul_add]
      congr 1
      omega
    · have z1 : bin n (k + 1) = 0 := bin_z (by omega)
      have z2 : bin n (k + 1 + 1) = 0 := bin_z (by omega)
      rw [z1, z2, show n + 1 - (k + 1) = n - k by omega]
      show 0 * (k + 1 + 1) = bin n k * (n - k)
      rw [← h1, z1, Nat.zero_mul, Nat.zero_mul]
theorem bin_le : ∀ (n k : Nat), bin n k ≤ 2 ^ n
  | n, 0 => by rw [bin_0]; exact Nat.one_le_two_pow
  | 0, k + 1 => by rw [show bin 0 (k + 1) = 0 from rfl]; omega
  | n + 1, k + 1 => by
    have h1 := bin_le n k
    have h2 := bin_le n (k + 1)
    rw [bin_s, Nat.pow_succ]
    omega
theorem n64_nat {a : Nat} (h : a < 2 ^ 62) : (Int64.ofNat a).toInt = (a : Int) := by
  rw [Int64.toInt_ofNat_of_lt (by omega)]
theorem n64_div {a b : Nat} (ha : a < 2 ^ 62) (hb : b < 2 ^ 62) : Int64.ofNat a / Int64.ofNat b = Int64.ofNat (a / b) := by
  apply Int64.toInt_inj.mp
  rw [Int64.toInt_div, n64_nat ha, n64_nat hb, n64_nat (Nat.lt_of_le_of_lt (Nat.div_le_self _ _) ha)]
  have e : (a : Int).tdiv (b : Int) = ((a / b : Nat) : Int) := rfl
  rw [e]
  have := Nat.div_le_self a b
  generalize a / b = q at *
  apply Int.bmod_eq_of_le <;> omega
theorem n64_of {a : Nat} (h : a < 2 ^ 30) : (Int32.ofNat a).toInt64 = Int64.ofNat a := by
  apply Int64.toInt_inj.mp
  rw [Int32.toInt_toInt64, Int32.toInt_ofNat_of_lt (by omega), n64_nat (by omega)]
theorem n64_ne0 {a : Nat} (h : 0 < a) (h2 : a < 2 ^ 30) : ¬ Int64.ofNat a = 0 := fun z => by
  have := congrArg Int64.toInt z
  rw [n64_nat (by omega)] at this
  have e : (0 : Int64).toInt = 0 := rfl
  rw [e] at this
  omega
def S64 (f : Nat → Int64) : Nat → Nat → Int64
  | _, 0 => 0
  | i, r + 1 => f i + S64 f (i + 1) r
theorem S64_s (f : Nat → Int64) : ∀ r i, S64 f i (r + 1) = S64 f i r + f (i + r)
  | 0, i => by
    show f i + 0 = 0 + f i
    rw [Int64.add_zero, Int64.zero_add]
  | r + 1, i => by
    show f i + S64 f (i + 1) (r + 1) = f i + S64 f (i + 1) r + f (i + (r + 1))
    rw [S64_s f r (i + 1), show i + 1 + r = i + (r + 1) by omega, Int64.add_assoc]
/-- how many ways to have so many of so many, or more -/
def od (c h : Nat) : Int64 := S64 (fun k => Int64.ofNat (bin c k)) h (c + 1 - h)
/-- couples and hits of a lag, from the latest season down -/
def cl_c (a : hw_T) (lag s : Nat) : Prop := a.2.1 11 (s - lag) ≠ a.2.1 11 (s - lag - 1) ∧ hw_line a s ≠ hw_line a (s - 1)
def cl_h (a : hw_T) (lag s : Nat) : Prop := (a.2.1 11 (s - lag - 1) < a.2.1 11 (s - lag)) ↔ (hw_line a (s - 1) < hw_line a s)
noncomputable def cl_n (a : hw_T) (lag s : Nat) (x : Nat × Nat) : Nat × Nat := @ite _ (cl_c a lag s) (Classical.propDecidable _) (x.1 + 1, x.2 + @ite _ (cl_h a lag s) (Classical.propDecidable _) 1 0) x
noncomputable def clF (a : hw_T) (lag : Nat) : Nat → Nat × Nat → Nat × Nat
  | 0, x => x
  | s + 1, x => if s + 1 ≤ lag then x else if 40 ≤ x.1 then x else clF a lag s (cl_n a lag (s + 1) x)
theorem cl_n_no {a : hw_T} {lag s : Nat} {x : Nat × Nat} (h : ¬ cl_c a lag s) : cl_n a lag s x = x := if_neg h
theorem cl_n_hit {a : hw_T} {lag s : Nat} {x : Nat × Nat} (h : cl_c a lag s) (h2 : cl_h a lag s) : cl_n a lag s x = (x.1 + 1, x.2 + 1) := by
  unfold cl_n
  rw [if_pos h, if_pos h2]
theorem cl_n_mis {a : hw_T} {lag s : Nat} {x : Nat × Nat} (h : cl_c a lag s) (h2 : ¬ cl_h a lag s) : cl_n a lag s x = (x.1 + 1, x.2) := by
  unfold cl_n
  rw [if_pos h, if_neg h2]
  rfl
theorem cl_rng {a : hw_T} {lag : Nat} : ∀ (s : Nat) (x : Nat × Nat), x.1 ≤ 40 → x.2 ≤ x.1 → (clF a lag s x).1 ≤ 40 ∧ (clF a lag s x).2 ≤ (clF a lag s x).1
  | 0, x, h1, h2 => ⟨h1, h2⟩
  | s + 1, x, h1, h2 => by
    unfold clF
    by_cases c1 : s + 1 ≤ lag
    · rw [if_pos c1]; exact ⟨h1, h2⟩
    · rw [if_neg c1]
      by_cases c2 : 40 ≤ x.1
      · rw [if_pos c2]; exact ⟨h1, h2⟩
      · rw [if_neg c2]
        by_cases c3 : cl_c a lag (s + 1)
        · by_cases c4 : cl_h a lag (s + 1)
          · rw [cl_n_hit c3 c4]; exact cl_rng s _ (by show x.1 + 1 ≤ 40; omega) (by show x.2 + 1 ≤ x.1 + 1; omega)
          · rw [cl_n_mis c3 c4]; exact cl_rng s _ (by show x.1 + 1 ≤ 40; omega) (by show x.2 ≤ x.1 + 1; omega)
        · rw [cl_n_no c3]; exact cl_rng s x h1 h2
section CLM
variable {Λ : hx_L} {a : hw_T} {μ m : hx_M} {lag : Nat}
theorem cmp3 {x y : Int32} {K : Int32 → Prop} (k : ∀ v : Int32, (v = 0 ↔ x = y) → (y < x → v = 1) → (x < y → v = -1) → K v) : wJ6_compare_7cf53 x y K := by
  unfold wJ6_compare_7cf53
  refine ⟨fun z => ⟨fun z2 => k 1 ⟨fun z => absurd z (by decide), fun z => absurd z z2⟩ (fun _ => rfl) (fun z3 => absurd z (Int32.not_le.mpr z3)), fun z2 => k 0 ⟨fun _ => z2, fun _ => rfl⟩ (fun z3 => absurd z3 (by rw [z2]; exact Int32.lt_irrefl)) (fun z3 => absurd z (Int32.not_le.mpr z3))⟩, fun z => k (-1) ⟨fun z => absurd z (by decide), fun z2 => absurd (by rw [z2]; exact Int32.le_refl _) z⟩ (fun z3 => absurd (Int32.le_of_lt z3) z) (fun _ => rfl)⟩
theorem gather_L29 {K : hx_M → Prop} (hc : CW 0 a μ) (w : WF 200 a) (hlag : lag ≤ 9) (k : ∀ m, (∀ k, k ≠ 37 → m.1 k = μ.1 k) → m.2 = μ.2 → m.1 37 2 = Int32.ofNat (clF a lag a.1.2.1 (0, 0)).1 → m.1 37 3 = Int32.ofNat (clF a lag a.1.2.1 (0, 0)).2 → K m) : ∀ (s : Nat) (x : Nat × Nat) (m : hx_M), s ≤ a.1.2.1 → x.1 ≤ 40 → clF a lag a.1.2.1 (0, 0) = clF a lag s x → (∀ k, k ≠ 37 → m.1 k = μ.1 k) → m.2 = μ.2 → m.1 37 2 = Int32.ofNat x.1 → m.1 37 3 = Int32.ofNat x.2 → wX8_gather_L29 (Int32.ofNat lag) K (s + 1) (Int32.ofNat s) m := by
  have hs := w.s
  intro s
  induction s with
  | zero =>
    intro x m h1 hx he f1 f2 f3 f4
    unfold wX8_gather_L29
    have he' : clF a lag a.1.2.1 (0, 0) = x := he
    exact selT ((n32_le (a := 0) (by omega) (by omega)).mpr (by omega)) (k m f1 f2 (by rw [he']; exact f3) (by rw [he']; exact f4))
  | succ s ih =>
    intro x m h1 hx he f1 f2 f3 f4
    unfold wX8_gather_L29
    conv at he => rhs; unfold clF
    by_cases c1 : s + 1 ≤ lag
    · rw [if_pos c1] at he
      exact selT ((n32_le (by omega) (by omega)).mpr c1) (k m f1 f2 (by rw [he]; exact f3) (by rw [he]; exact f4))
    · rw [if_neg c1] at he
      refine selF (fun z => c1 ((n32_le (by omega) (by omega)).mp z)) ?_
      rw [f3]
      by_cases c2 : 40 ≤ x.1
      · rw [if_pos c2] at he
        exact selT ((n32_le (a := 40) (by omega) (by omega)).mpr c2) (k m f1 f2 (by rw [he]; exact f3) (by rw [he]; exact f4))
      · rw [if_neg c2] at he
        have hcm : CW 0 a m := hc.fr fun k k1 k2 => ⟨f1 _ (by omega), by rw [f2]⟩
        have h0 : 0 < a.1.1 := w.sn (by omega)
        refine selF (fun z => c2 ((n32_le (a := 40) (by omega) (by omega)).mp z)) ?_
        rw [n32_subn (by omega), n32_sub1 (by omega), n32_sub1 (by omega), n32_nat (by omega), n32_nat (by omega), hcm.money (by omega), hcm.money (by omega)]
        refine ⟨n32_in (by omega) (by omega), n32_in (by omega) (by omega), cmp3 (fun v1 p1 p2 p3 => lineC hcm w.up h1 h0 (lineC hcm w.up (by omega) h0 (cmp3 (fun v2 q1 q2 q3 => ?_))))⟩
        unfold wX8_gather_J124 wX8_gather_J120 wX8_gather_J124_11
        rw [n32_addm1 (by omega), Nat.add_sub_cancel]
        have em : ∀ t : Nat, t ≤ 1 → cl_c a lag (s + 1) → (t = 1 ↔ cl_h a lag (s + 1)) → wX8_gather_L29 (Int32.ofNat lag) K (s + 1) (Int32.ofNat s) (hx_sI (hx_sI m 37 2 (Int32.ofNat x.1 + 1)) 37 3 (m.1 37 3 + Int32.ofNat t)) := by
          intro t ht hcc hth
          rw [f4, n32_add1, n32_add]
          refine ih (x.1 + 1, x.2 + t) _ (by omega) (by show x.1 + 1 ≤ 40; omega) ?_ (fun k hk => by rw [sIk hk, sIk hk]; exact f1 k hk) f2 (by rw [sIj (by omega), sIe]) (by rw [sIe])
          rw [he]
          congr 1
          by_cases c4 : cl_h a lag (s + 1)
          · rw [cl_n_hit hcc c4, hth.mpr c4]
          · rw [cl_n_mis hcc c4]
            have : t = 0 := by
              have : ¬ t = 1 := fun z => c4 (hth.mp z)
              omega
            rw [this]; rfl
        refine ⟨fun z => ?_, fun z => ⟨fun z2 => ?_, fun z2 => ?_⟩⟩
        · have : ¬ cl_c a lag (s + 1) := fun z2 => z2.1 (p1.mp z)
          rw [cl_n_no this] at he
          exact ih x m (by omega) hx he f1 f2 f3 f4
        · have : ¬ cl_c a lag (s + 1) := fun z3 => z3.2 (q1.mp z2)
          rw [cl_n_no this] at he
          exact ih x m (by omega) hx he f1 f2 f3 f4
        · have hcc : cl_c a lag (s + 1) := ⟨fun z3 => z (p1.mpr z3), fun z3 => z2 (q1.mpr z3)⟩
          have e37 : (hx_sI m 37 2 (Int32.ofNat x.1 + 1)).1 37 3 = m.1 37 3 := sIj (by omega)
          have vs : (v1 = v2) ↔ cl_h a lag (s + 1) := by
            unfold cl_h
            rcases Int32.lt_or_lt_of_ne hcc.1 with t1 | t1 <;> rcases Int32.lt_or_lt_of_ne hcc.2 with t2 | t2
            · rw [p3 t1, q3 t2]
              exact ⟨fun _ => ⟨fun z => absurd z (Int32.not_lt.mpr (Int32.le_of_lt t1)), fun z => absurd z (Int32.not_lt.mpr (Int32.le_of_lt t2))⟩, fun _ => rfl⟩
            · rw [p3 t1, q2 t2]
              exact ⟨fun z => absurd z (by decide), fun z => absurd (z.mpr t2) (Int32.not_lt.mpr (Int32.le_of_lt t1))⟩
            · rw [p2 t1, q3 t2]
              exact ⟨fun z => absurd z (by decide), fun z => absurd (z.mp t1) (Int32.not_lt.mpr (Int32.le_of_lt t2))⟩
            · rw [p2 t1, q2 t2]
              exact ⟨fun _ => ⟨fun _ => t2, fun _ => t1⟩, fun _ => rfl⟩
          refine ⟨fun z3 => em 0 (by omega) hcc ⟨fun z4 => by omega, fun z4 => absurd (vs.mpr z4) z3⟩, fun z3 => em 1 (by omega) hcc ⟨fun _ => vs.mp z3, fun _ => rfl⟩⟩
theorem gatherC {K : hx_M → Prop} (hc : CW 0 a μ) (w : WF 200 a) (hlag : lag ≤ 9) (k : ∀ m, (∀ k, k ≠ 37 → m.1 k = μ.1 k) → m.2 = μ.2 → m.1 37 2 = Int32.ofNat (clF a lag a.1.2.1 (0, 0)).1 → m.1 37 3 = Int32.ofNat (clF a lag a.1.2.1 (0, 0)).2 → K m) : wX8_gather μ (Int32.ofNat lag) K := by
  unfold wX8_gather
  rw [hc.s]
  exact ⟨_, gather_L29 hc w hlag k a.1.2.1 (0, 0) _ (Nat.le_refl _) (by show 0 ≤ 40; omega) rfl (fun k hk => by rw [sIk hk, sIk hk]) rfl (by rw [sIj (by omega), sIe]; rfl) (by rw [sIe]; rfl)⟩
theorem odds_L10 {c h : Nat} {K : Int64 → Prop} (hc : c ≤ 40) (e2 : m.1 37 2 = Int32.ofNat c) (e3 : m.1 37 3 = Int32.ofNat h) : ∀ (r : Nat) (v1 v3 : Int64), h + r ≤ c + 1 → (0 < h + r → v3 = Int64.ofNat (bin c (h + r - 1))) → K (v1 + S64 (fun k => Int64.ofNat (bin c k)) h r) → wX8_odds_L10 m K (r + 1) v1 v3 (Int32.ofNat (h + r) - 1) := by
  intro r
  induction r with
  | zero =>
    intro v1 v3 h1 h2 k
    unfold wX8_odds_L10
    rw [e3]
    refine selT ?_ ?_
    · by_cases c0 : h = 0
      · subst c0; decide
      · rw [n32_sub1 (by omega)]
        exact (n32_lt (by omega) (by omega)).mpr (by omega)
    · have : S64 (fun k => Int64.ofNat (bin c k)) h 0 = 0 := rfl
      rw [this, Int64.add_zero] at k
      exact k
  | succ r ih =>
    intro v1 v3 h1 h2 k
    unfold wX8_odds_L10
    rw [e2, e3, show h + (r + 1) = h + r + 1 by omega, n32_sub1 (by omega), Nat.add_sub_cancel, n32_subn (by omega), n32_add1, n64_of (by omega), n64_of (by omega), m1i]
    have hv := h2 (by omega)
    rw [show h + (r + 1) - 1 = h + r by omega] at hv
    refine selF (fun z => by have := (n32_lt (by omega) (by omega)).mp z; omega) ⟨n64_ne0 (by omega) (by omega), ?_⟩
    rintro x rfl
    rw [S64_s, hv] at *
    refine ih _ _ (by omega) (fun h0 => ?_) ?_
    · have hb := bin_le c (h + r)
      have h40 : 2 ^ c ≤ 2 ^ 40 := Nat.pow_le_pow_right (by omega) hc
      have hmul : bin c (h + r) * (h + r) ≤ 2 ^ 40 * 40 := Nat.mul_le_mul (Nat.le_trans hb h40) (by omega)
      rw [← Int64.ofNat_mul, n64_div (by omega) (by omega)]
      congr 1
      obtain ⟨d, hd⟩ : ∃ d, h + r = d + 1 := ⟨h + r - 1, by omega⟩
      rw [hd, bin_id, Nat.add_sub_cancel, show c - (d + 1) + 1 = c - d by omega]
      exact Nat.mul_div_cancel _ (by omega)
    · rw [Int64.add_assoc, Int64.add_comm (Int64.ofNat (bin c (h + r)))]
      exact k
theorem oddsC {c h : Nat} {K : Int64 → Prop} (hc : c ≤ 40) (hh : h ≤ c) (e2 : m.1 37 2 = Int32.ofNat c) (e3 : m.1 37 3 = Int32.ofNat h) (k : K (od c h)) : wX8_odds m K := by
  unfold wX8_odds
  rw [e2]
  have h1 := odds_L10 (K := K) hc e2 e3 (c + 1 - h) 0 1 (by omega) (fun _ => by
    rw [show h + (c + 1 - h) - 1 = c by omega]
    have : ∀ n, bin n n = 1 := by
      intro n
      induction n with
      | zero => rfl
      | succ n ih => rw [bin_s, ih, bin_z (by omega)]
    rw [this]; rfl) (by rw [Int64.zero_add]; exact k)
  rw [show h + (c + 1 - h) = c + 1 by omega, n32_sub1 (by omega), Nat.add_sub_cancel] at h1
  exact ⟨_, h1⟩
end CLM
