/-! layer 2: shop, the numbers -/
def sumP (f : Nat → Nat) : Nat → Nat
  | 0 => 0
  | k + 1 => sumP f k + f k
theorem sumP_add {f g : Nat → Nat} : ∀ n, sumP (fun p => f p + g p) n = sumP f n + sumP g n
  | 0 => rfl
  | n + 1 => by
    show sumP (fun p => f p + g p) n + (f n + g n) = sumP f n + f n + (sumP g n + g n)
    rw [sumP_add n]; omega
theorem sumP_mul {f : Nat → Nat} {c : Nat} : ∀ n, sumP (fun p => c * f p) n = c * sumP f n
  | 0 => rfl
  | n + 1 => by
    show sumP (fun p => c * f p) n + c * f n = c * (sumP f n + f n)
    rw [sumP_mul n, Nat.mul_add]
theorem sumP_eq {f g : Nat → Nat} : ∀ {n}, (∀ p, p < n → f p = g p) → sumP f n = sumP g n
  | 0, _ => rfl
  | n + 1, h => by
    show sumP f n + f n = sumP g n + g n
    rw [sumP_eq (n := n) (fun p hp => h p (by omega)), h n (by omega)]
theorem sumP_le {f : Nat → Nat} {B : Nat} : ∀ {n}, (∀ p, p < n → f p ≤ B) → sumP f n ≤ B * n
  | 0, _ => Nat.zero_le _
  | n + 1, h => by
    have h1 := sumP_le (n := n) (fun p hp => h p (by omega))
    have h2 := h n (by omega)
    show sumP f n + f n ≤ B * (n + 1)
    rw [Nat.mul_add, Nat.mul_one]; omega
section SH
variable (W : Nat → Nat) (n : Nat)
def sh_r (i : Nat) : Nat := sumP (fun p => if W p = i then 1 else 0) n
def sh_c (i : Nat) : Nat := sumP (fun p => if W p ≤ i then 1 else 0) n
def sh_s (i : Nat) : Nat := sumP (fun p => if W p ≤ i then W p else 0) n
/-- up to b, beyond a, between both: how far off -/
def sh_up (b : Nat) : Nat := sumP (fun p => if W p < b then b - W p else 0) n
def sh_be (a : Nat) : Nat := sumP (fun p => if W p < a then 0 else W p - a) n
def sh_bt (a b : Nat) : Nat := sumP (fun p => if W p < a then 0 else if W p < b then (if b - W p < W p - a then b - W p else W p - a) else 0) n
def sh_lo (a m : Nat) : Nat := sumP (fun p => if a < W p ∧ W p ≤ m then W p - a else 0) n
def sh_hi (m b : Nat) : Nat := sumP (fun p => if m < W p ∧ W p ≤ b then b - W p else 0) n
variable {W n}
theorem sh_c1 (i : Nat) : sh_c W n (i + 1) = sh_r W n (i + 1) + sh_c W n i := by
  unfold sh_c sh_r
  rw [← sumP_add]
  exact sumP_eq fun p _ => by
    show (if W p ≤ i + 1 then 1 else 0) = (if W p = i + 1 then 1 else 0) + (if W p ≤ i then 1 else 0)
    by_cases h1 : W p ≤ i
    · rw [if_pos (by omega), if_neg (by omega), if_pos h1]
    · by_cases h2 : W p = i + 1
      · rw [if_pos (by omega), if_pos h2, if_neg h1]
      · rw [if_neg (by omega), if_neg h2, if_neg h1]
theorem sh_c0 : sh_c W n 0 = sh_r W n 0 := sumP_eq fun p _ => by
  show (if W p ≤ 0 then 1 else 0) = (if W p = 0 then 1 else 0)
  by_cases h : W p = 0
  · rw [if_pos (by omega), if_pos h]
  · rw [if_neg (by omega), if_neg h]
theorem sh_s1 (i : Nat) : sh_s W n (i + 1) = sh_s W n i + (i + 1) * sh_r W n (i + 1) := by
  unfold sh_s sh_r
  rw [← sumP_mul, ← sumP_add]
  exact sumP_eq fun p _ => by
    show (if W p ≤ i + 1 then W p else 0) = (if W p ≤ i then W p else 0) + (i + 1) * (if W p = i + 1 then 1 else 0)
    by_cases h1 : W p ≤ i
    · rw [if_pos (show W p ≤ i + 1 by omega), if_pos h1, if_neg (show ¬ W p = i + 1 by omega)]; omega
    · by_cases h2 : W p = i + 1
      · rw [if_pos (show W p ≤ i + 1 by omega), if_neg h1, if_pos h2]; omega
      · rw [if_neg (show ¬ W p ≤ i + 1 by omega), if_neg h1, if_neg h2]; omega
theorem sh_s0 : sh_s W n 0 = 0 := by
  have : sh_s W n 0 = sumP (fun _ => 0 * 0) n := sumP_eq fun p _ => by
    show (if W p ≤ 0 then W p else 0) = 0 * 0
    split <;> omega
  rw [this, sumP_mul (f := fun _ => 0), Nat.zero_mul]
theorem sh_upE (b : Nat) : b * sh_c W n b = sh_up W n b + sh_s W n b := by
  unfold sh_c sh_up sh_s
  rw [← sumP_mul, ← sumP_add]
  exact sumP_eq fun p _ => by
    show b * (if W p ≤ b then 1 else 0) = (if W p < b then b - W p else 0) + (if W p ≤ b then W p else 0)
    by_cases h1 : W p ≤ b
    · rw [if_pos h1, if_pos h1]
      by_cases h2 : W p < b
      · rw [if_pos h2]; omega
      · rw [if_neg h2]; omega
    · rw [if_neg h1, if_neg h1, if_neg (by omega)]; omega
theorem sh_loE {a m : Nat} (h : a ≤ m) : sh_s W n m + a * sh_c W n a = sh_lo W n a m + sh_s W n a + a * sh_c W n m := by
  unfold sh_c sh_lo sh_s
  rw [← sumP_mul, ← sumP_mul, ← sumP_add, ← sumP_add, ← sumP_add]
  exact sumP_eq fun p _ => by
    show (if W p ≤ m then W p else 0) + a * (if W p ≤ a then 1 else 0) = (if a < W p ∧ W p ≤ m then W p - a else 0) + (if W p ≤ a then W p else 0) + a * (if W p ≤ m then 1 else 0)
    by_cases h1 : W p ≤ a
    · rw [if_pos (by omega), if_pos h1, if_neg (by omega), if_pos h1, if_pos (by omega)]; omega
    · by_cases h2 : W p ≤ m
      · rw [if_pos h2, if_neg h1, if_pos (by omega), if_neg h1, if_pos h2]; omega
      · rw [if_neg h2, if_neg h1, if_neg (by omega), if_neg h1, if_neg h2]
theorem sh_hiE {m b : Nat} (h : m ≤ b) : b * sh_c W n b + sh_s W n m = sh_hi W n m b + sh_s W n b + b * sh_c W n m := by
  unfold sh_c sh_hi sh_s
  rw [← sumP_mul, ← sumP_mul, ← sumP_add, ← sumP_add, ← sumP_add]
  exact sumP_eq fun p _ => by
    show b * (if W p ≤ b then 1 else 0) + (if W p ≤ m then W p else 0) = (if m < W p ∧ W p ≤ b then b - W p else 0) + (if W p ≤ b then W p else 0) + b * (if W p ≤ m then 1 else 0)
    by_cases h1 : W p ≤ m
    · rw [if_pos (by omega), if_pos h1, if_neg (by omega), if_pos (by omega), if_pos h1]; omega
    · by_cases h2 : W p ≤ b
      · rw [if_pos h2, if_neg h1, if_pos (by omega), if_pos h2, if_neg h1]; omega
      · rw [if_neg h2, if_neg h1, if_neg (by omega), if_neg h2, if_neg h1]; omega
theorem sh_btE {a b : Nat} (h : a < b) : sh_bt W n a b = sh_lo W n a ((a + b) / 2) + sh_hi W n ((a + b) / 2) b := by
  unfold sh_bt sh_lo sh_hi
  rw [← sumP_add]
  exact sumP_eq fun p _ => by
    show (if W p < a then 0 else if W p < b then (if b - W p < W p - a then b - W p else W p - a) else 0) = (if a < W p ∧ W p ≤ (a + b) / 2 then W p - a else 0) + (if (a + b) / 2 < W p ∧ W p ≤ b then b - W p else 0)
    split <;> split <;> (try split) <;> (try split) <;> (try split) <;> omega
theorem sh_beE (hW : ∀ p, p < n → W p ≤ 60) (a : Nat) : sh_be W n a = sh_lo W n a 60 := sumP_eq fun p hp => by
  have := hW p hp
  show (if W p < a then 0 else W p - a) = (if a < W p ∧ W p ≤ 60 then W p - a else 0)
  split <;> split <;> omega
/-- so many more lengths behind one: how far off at the least; F where there are none -/
def sh_mn (F : Nat) (g : Nat → Nat) : Nat → Nat → Nat → Nat
  | 0, _, acc => acc
  | r + 1, b, acc => sh_mn F g r (b + 1) (if g b < acc then g b else acc)
def sh_R (W : Nat → Nat) (n F : Nat) : Nat → Nat → Nat
  | 0, a => sh_be W n a
  | m + 1, a => sh_mn F (fun b => sh_bt W n a b + sh_R W n F m b) (60 - a) (a + 1) F
theorem mn_le {F : Nat} {g : Nat → Nat} : ∀ (r b acc : Nat), sh_mn F g r b acc ≤ acc ∧ (∀ j, b ≤ j → j < b + r → sh_mn F g r b acc ≤ g j) ∧ (sh_mn F g r b acc = acc ∨ ∃ j, b ≤ j ∧ j < b + r ∧ sh_mn F g r b acc = g j)
  | 0, b, acc => ⟨Nat.le_refl _, fun j h1 h2 => by omega, Or.inl rfl⟩
  | r + 1, b, acc => by
    obtain ⟨h1, h2, h3⟩ := mn_le (F := F) (g := g) r (b + 1) (if g b < acc then g b else acc)
    have hl : (if g b < acc then g b else acc) ≤ acc ∧ (if g b < acc then g b else acc) ≤ g b := by split <;> omega
    refine ⟨?_, fun j j1 j2 => ?_, ?_⟩
    · show sh_mn F g r (b + 1) _ ≤ acc
      omega
    · show sh_mn F g r (b + 1) _ ≤ g j
      by_cases e : j = b
      · rw [e]; omega
      · exact h2 j (by omega) (by omega)
    · rcases h3 with h3 | ⟨j, j1, j2, j3⟩
      · by_cases c : g b < acc
        · right
          refine ⟨b, Nat.le_refl _, by omega, ?_⟩
          show sh_mn F g r (b + 1) (if g b < acc then g b else acc) = g b
          rw [h3, if_pos c]
        · left
          show sh_mn F g r (b + 1) (if g b < acc then g b else acc) = acc
          rw [h3, if_neg c]
      · exact Or.inr ⟨j, by omega, by omega, j3⟩
theorem bt_le (hn : n ≤ 16) (hW : ∀ p, p < n → W p ≤ 60) {a b : Nat} (hb : b ≤ 60) : sh_bt W n a b ≤ 960 := by
  have h := sumP_le (B := 60) (n := n) (f := fun p => if W p < a then 0 else if W p < b then (if b - W p < W p - a then b - W p else W p - a) else 0) (fun p hp => by
    have := hW p hp
    show (if W p < a then 0 else if W p < b then (if b - W p < W p - a then b - W p else W p - a) else 0) ≤ 60
    split
    · omega
    · split
      · split <;> omega
      · omega)
  have : sh_bt W n a b ≤ 60 * n := h
  omega
theorem be_le (hn : n ≤ 16) (hW : ∀ p, p < n → W p ≤ 60) {a : Nat} : sh_be W n a ≤ 960 := by
  have h := sumP_le (B := 60) (n := n) (f := fun p => if W p < a then 0 else W p - a) (fun p hp => by
    have := hW p hp
    show (if W p < a then 0 else W p - a) ≤ 60
    split <;> omega)
  have : sh_be W n a ≤ 60 * n := h
  omega
theorem up_le (hn : n ≤ 16) {b : Nat} (hb : b ≤ 60) : sh_up W n b ≤ 960 := by
  have h := sumP_le (B := 60) (n := n) (f := fun p => if W p < b then b - W p else 0) (fun p hp => by
    show (if W p < b then b - W p else 0) ≤ 60
    split <;> omega)
  have : sh_up W n b ≤ 60 * n := h
  omega
/-- where there are enough lengths it is the same for every F, and small; else F -/
theorem R_ok (hn : n ≤ 16) (hW : ∀ p, p < n → W p ≤ 60) {F G : Nat} (hF : 100000 ≤ F) (hG : 100000 ≤ G) : ∀ (m a : Nat), m ≤ 6 → a ≤ 60 → (a + m ≤ 60 → sh_R W n F m a = sh_R W n G m a ∧ sh_R W n F m a ≤ 960 * (m + 1)) ∧ (60 < a + m → sh_R W n F m a = F)
  | 0, a, _, ha => ⟨fun _ => ⟨rfl, by rw [Nat.zero_add, Nat.mul_one]; exact be_le hn hW⟩, fun h => by omega⟩
  | m + 1, a, hm, ha => by
    have ih := fun b hb => R_ok hn hW hF hG m b (by omega) hb
    have ihG := fun b hb => R_ok hn hW hG hF m b (by omega) hb
    obtain ⟨f1, f2, f3⟩ := mn_le (F := F) (g := fun b => sh_bt W n a b + sh_R W n F m b) (60 - a) (a + 1) F
    obtain ⟨g1, g2, g3⟩ := mn_le (F := G) (g := fun b => sh_bt W n a b + sh_R W n G m b) (60 - a) (a + 1) G
    have eF : sh_R W n F (m + 1) a = sh_mn F (fun b => sh_bt W n a b + sh_R W n F m b) (60 - a) (a + 1) F := rfl
    have eG : sh_R W n G (m + 1) a = sh_mn G (fun b => sh_bt W n a b + sh_R W n G m b) (60 - a) (a + 1) G := rfl
    rw [← eF] at f1 f2 f3
    rw [← eG] at g1 g2 g3
    constructor
    · intro hfe
      have hb1 := bt_le hn hW (a := a) (b := a + 1) (by omega)
      have h1 := (ih (a + 1) (by omega)).1 (by omega)
      have h1G := (ihG (a + 1) (by omega)).1 (by omega)
      have q1 := f2 (a + 1) (Nat.le_refl _) (by omega)
      have q2 := g2 (a + 1) (Nat.le_refl _) (by omega)
      have q1' : sh_R W n F (m + 1) a ≤ sh_bt W n a (a + 1) + sh_R W n F m (a + 1) := q1
      have q2' : sh_R W n G (m + 1) a ≤ sh_bt W n a (a + 1) + sh_R W n G m (a + 1) := q2
      have e1 : sh_R W n F (m + 1) a ≤ 960 * (m + 1 + 1) := by omega
      have e2 : sh_R W n G (m + 1) a ≤ 960 * (m + 1 + 1) := by omega
      refine ⟨?_, e1⟩
      rcases f3 with f3 | ⟨j, j1, j2, j3⟩
      · omega
      · rcases g3 with g3 | ⟨i, i1, i2, i3⟩
        · omega
        · have j3' : sh_R W n F (m + 1) a = sh_bt W n a j + sh_R W n F m j := j3
          have i3' : sh_R W n G (m + 1) a = sh_bt W n a i + sh_R W n G m i := i3
          have jf : j + m ≤ 60 := Classical.byContradiction fun z => by
            have := (ih j (by omega)).2 (by omega)
            omega
          have jg : i + m ≤ 60 := Classical.byContradiction fun z => by
            have := (ihG i (by omega)).2 (by omega)
            omega
          have hj := ((ih j (by omega)).1 jf).1
          have hi := ((ih i (by omega)).1 jg).1
          have t1 : sh_R W n G (m + 1) a ≤ sh_bt W n a j + sh_R W n G m j := g2 j j1 j2
          have t2 : sh_R W n F (m + 1) a ≤ sh_bt W n a i + sh_R W n F m i := f2 i i1 i2
          omega
    · intro hin
      rcases f3 with f3 | ⟨j, j1, j2, j3⟩
      · exact f3
      · have j3' : sh_R W n F (m + 1) a = sh_bt W n a j + sh_R W n F m j := j3
        have := (ih j (by omega)).2 (by omega)
        omega
end SH
