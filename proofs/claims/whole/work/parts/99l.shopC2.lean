/-! layer 2: shop, the class's order -/
section KD
variable {m μ : hx_M}
/-- feasible and the same for every F -/
theorem Am2_F {W : Nat → Nat} {n F G q lo : Nat} {gap : Nat → Nat} (hn : n ≤ 16) (hW : ∀ p, p < n → W p ≤ 60) (hF : 100000 ≤ F) (hG : 100000 ≤ G) (hq : q ≤ 6) (hlo : lo + q ≤ 60) (hg : ∀ b, lo ≤ b → b ≤ 60 → gap b ≤ 960) {x : Nat} (h : Am2 (fun b => gap b + sh_R W n F q b) lo 60 x) : x + q ≤ 60 ∧ Am2 (fun b => gap b + sh_R W n G q b) lo 60 x := by
  obtain ⟨a1, a2, a3⟩ := h
  have r := fun b hb => R_ok hn hW hF hG q b hq hb
  have r0 := (r lo (by omega)).1 hlo
  have g0 := hg lo (Nat.le_refl _) (by omega)
  have q0 : gap x + sh_R W n F q x ≤ gap lo + sh_R W n F q lo := (a3 lo (Nat.le_refl _) (by omega)).1
  have hx : x + q ≤ 60 := Classical.byContradiction fun z => by
    have := (r x a2).2 (by omega)
    omega
  have rx := (r x a2).1 hx
  refine ⟨hx, a1, a2, fun j j1 j2 => ?_⟩
  have p1 : gap x + sh_R W n F q x ≤ gap j + sh_R W n F q j := (a3 j j1 j2).1
  have p2 : j < x → gap x + sh_R W n F q x < gap j + sh_R W n F q j := (a3 j j1 j2).2
  show gap x + sh_R W n G q x ≤ gap j + sh_R W n G q j ∧ (j < x → gap x + sh_R W n G q x < gap j + sh_R W n G q j)
  by_cases hj : j + q ≤ 60
  · have rj := (r j j2).1 hj
    omega
  · have rj := (R_ok hn hW hG hF q j hq j2).2 (by omega)
    omega
/-- the lengths chosen, one behind another -/
def ShX (W : Nat → Nat) (n F kk : Nat) (X : Nat → Nat) (i : Nat) : Prop := Am2 (fun b => sh_up W n b + sh_R W n F (kk - 1) b) 0 60 (X 0) ∧ ∀ j, j < i → Am2 (fun b => sh_bt W n (X j) b + sh_R W n F (kk - 1 - (j + 1)) b) (X j + 1) 60 (X (j + 1))
theorem R_small {W : Nat → Nat} {n F q b : Nat} (hn : n ≤ 16) (hW : ∀ p, p < n → W p ≤ 60) (hF : 100000 ≤ F) (hq : q ≤ 6) (hb : b + q ≤ 60) : sh_R W n F q b ≤ 6720 := by
  have := ((R_ok hn hW hF hF q b hq (by omega)).1 hb).2
  omega
theorem order_L97 {W : Nat → Nat} {n kk : Nat} {K : hx_M → Prop} (hn : n ≤ 16) (hW : ∀ p, p < n → W p ≤ 60) (hk : kk ≤ 6) (h : CTb W n μ) (ht : ∀ i y, i < kk → y ≤ 60 → μ.1 46 (61 * i + y) = Int32.ofNat (sh_R W n 1048576 i y)) (k : ∀ m X, (∀ i, i ≠ 47 → m.1 i = μ.1 i) → m.2 = μ.2 → ShX W n 1048576 kk X (kk - 1) → (∀ i, i < kk → m.1 47 i = Int32.ofNat (X i)) → m.1 43 = μ.1 43 → X 0 + (kk - 1) ≤ 60 → (∀ Y, ShX W n 1048576 kk Y 0 → Y 0 = X 0) → K m) : ∀ (r i : Nat) (X : Nat → Nat) (m : hx_M), i + r = kk → 1 ≤ i → ShX W n 1048576 kk X (i - 1) → (∀ j, j < i → X j + (kk - 1 - j) ≤ 60) → (∀ j, j < i → m.1 47 j = Int32.ofNat (X j)) → (∀ c, c ≠ 47 → m.1 c = μ.1 c) → m.2 = μ.2 → wX7_order_L97 (Int32.ofNat kk) K (r + 1) (Int32.ofNat (X (i - 1))) (Int32.ofNat i) m := by
  intro r
  induction r with
  | zero =>
    intro i X m e hi hX hf hm f1 f2
    obtain rfl : i = kk := by omega
    unfold wX7_order_L97
    exact selT (Int32.le_refl _) (k m X f1 f2 hX hm (f1 43 (by omega)) (hf 0 (by omega)) (fun Y hY => hY.1.uq hX.1))
  | succ r ih =>
    intro i X m e hi hX hf hm f1 f2
    unfold wX7_order_L97
    have hcm : CTb W n m := fun j hj => by rw [f1 44 (by omega), f1 45 (by omega)]; exact h j hj
    rw [n32_sub1 (by omega), n32_subn (by omega), n32_nat (by omega)]
    refine selF (fun z => by have := (n32_le (by omega) (by omega)).mp z; omega) ?_
    have hx := hf (i - 1) (by omega)
    unfold wX7_leastFrom
    have e60 : (60 : Int32) = Int32.ofNat 60 := rfl
    have eF : (1048576 : Int32) = Int32.ofNat 1048576 := rfl
    rw [e60, eF, n32_add1 (a := X (i - 1))]
    refine ⟨_, leastF_L12 (q := kk - 1 - i) (lo := X (i - 1) + 1) (gap := sh_bt W n (X (i - 1))) hn hW hcm (by omega) (Or.inr ⟨_, rfl, rfl, by omega⟩) (fun y hy => by rw [f1 46 (by omega)]; exact ht _ y (by omega) hy) ⟨X (i - 1) + 1, Nat.le_refl _, by omega, ?_⟩ (fun x hx2 => ?_) (60 - X (i - 1)) (X (i - 1) + 1) 60 1048576 (by omega) (Nat.le_refl _) (Nat.le_refl _) (Nat.le_refl _) (fun j j1 j2 => by omega) (Or.inl rfl)⟩
    · have b1 := bt_le hn hW (a := X (i - 1)) (b := X (i - 1) + 1) (by omega)
      have b2 := R_small (W := W) (n := n) (F := 1048576) (q := kk - 1 - i) (b := X (i - 1) + 1) hn hW (by omega) (by omega) (by omega)
      omega
    · have hfe := (Am2_F (G := 1000000) hn hW (by omega) (by omega) (by omega) (by omega) (fun b _ hb => bt_le hn hW hb) hx2).1
      refine ⟨n32_in (by omega) (by omega), ?_⟩
      rw [n32_add1]
      have hih := ih (i + 1) (fun j => if j = i then x else X j) (hx_sI m 47 i (Int32.ofNat x)) (by omega) (by omega) ?_ (fun j hj => ?_) (fun j hj => ?_) (fun c hc => by rw [sIk hc]; exact f1 c hc) f2
      · have e2 : (if i + 1 - 1 = i then x else X (i + 1 - 1)) = x := if_pos (by omega)
        rw [e2] at hih
        exact hih
      · refine ⟨?_, fun j hj => ?_⟩
        · show Am2 _ 0 60 (if 0 = i then x else X 0)
          rw [if_neg (by omega)]; exact hX.1
        · show Am2 (fun b => sh_bt W n (if j = i then x else X j) b + _) ((if j = i then x else X j) + 1) 60 (if j + 1 = i then x else X (j + 1))
          rw [if_neg (by omega)]
          by_cases c : j + 1 = i
          · rw [if_pos c]
            have : j = i - 1 := by omega
            subst this
            rw [show kk - 1 - (i - 1 + 1) = kk - 1 - i by omega]
            exact hx2
          · rw [if_neg c]; exact hX.2 j (by omega)
      · show (if j = i then x else X j) + (kk - 1 - j) ≤ 60
        by_cases c : j = i
        · rw [if_pos c, c]; exact hfe
        · rw [if_neg c]; exact hf j (by omega)
      · show _ = Int32.ofNat (if j = i then x else X j)
        by_cases c : j = i
        · subst c; rw [sIe, if_pos rfl]
        · rw [sIj c, if_neg c]; exact hm j (by omega)
theorem orderC {W : Nat → Nat} {n kk : Nat} {K : hx_M → Prop} (hn : n ≤ 16) (hW : ∀ p, p < n → W p ≤ 60) (hk1 : 1 ≤ kk) (hk : kk ≤ 6) (h : CTb W n μ) (k : ∀ m X, offH μ m → ShX W n 1048576 kk X (kk - 1) → (∀ i, i < kk → m.1 47 i = Int32.ofNat (X i)) → m.1 43 5 = Int32.ofNat (sh_up W n (X 0) + sh_R W n 1048576 (kk - 1) (X 0)) → K m) : wX7_order μ (Int32.ofNat kk) K := by
  unfold wX7_order
  have e60 : (60 : Int32) = Int32.ofNat 60 := rfl
  have eF : (1048576 : Int32) = Int32.ofNat 1048576 := rfl
  have z0 : (0 : Int32).toNatClampNeg = 0 := rfl
  refine ⟨kk + 1, order_L2 hn hW hk h (fun m1 f1 f2 t => ?_) kk 0 μ (by omega) (fun _ _ => rfl) rfl ⟨fun i y hi => by omega, fun y hy => by omega⟩⟩
  have hc1 : CTb W n m1 := fun j hj => by rw [f1 44 (by omega), f1 45 (by omega)]; exact h j hj
  rw [n32_sub1 (by omega)]
  unfold wX7_leastFrom
  have em : (-1 : Int32) + 1 = Int32.ofNat 0 := rfl
  rw [e60, eF, em]
  refine ⟨62, leastF_L12 (q := kk - 1) (lo := 0) (gap := sh_up W n) hn hW hc1 (by omega) (Or.inl ⟨rfl, rfl⟩) (fun y hy => t.1 _ y (by omega) hy) ⟨0, Nat.le_refl _, by omega, ?_⟩ (fun x hx => ?_) 61 0 60 1048576 (by omega) (Nat.le_refl _) (Nat.le_refl _) (Nat.le_refl _) (fun j j1 j2 => by omega) (Or.inl rfl)⟩
  · have b1 := up_le (W := W) (n := n) hn (b := 0) (by omega)
    have b2 := R_small (W := W) (n := n) (F := 1048576) (q := kk - 1) (b := 0) hn hW (by omega) (by omega) (by omega)
    omega
  · have hfe := (Am2_F (G := 1000000) hn hW (by omega) (by omega) (by omega) (by omega) (fun b _ hb => up_le hn hb) hx).1
    refine upToC hc1 (by omega) ?_
    rw [idx61, n32_nat (by omega), t.1 _ x (by omega) (by omega)]
    refine ⟨n32_in (by omega) (by omega), ?_⟩
    rintro y rfl
    refine ⟨by unfold vp_in; decide, ?_⟩
    rw [z0, n32_add]
    generalize hm2 : hx_sI (hx_sI m1 43 5 (Int32.ofNat (sh_up W n x + sh_R W n 1048576 (kk - 1) x))) 47 0 (Int32.ofNat x) = m2
    have g1 : ∀ c, c ≠ 43 → c ≠ 47 → m2.1 c = m1.1 c := fun c a b => by rw [← hm2, sIk b, sIk a]
    have g2 : m2.2 = m1.2 := by rw [← hm2]; rfl
    have g43 : m2.1 43 5 = Int32.ofNat (sh_up W n x + sh_R W n 1048576 (kk - 1) x) := by rw [← hm2, sIk (by omega), sIe]
    have g47 : m2.1 47 0 = Int32.ofNat x := by rw [← hm2, sIe]
    have hc2 : CTb W n m2 := fun j hj => by rw [g1 44 (by omega) (by omega), g1 45 (by omega) (by omega)]; exact hc1 j hj
    have L := order_L97 (kk := kk) (K := K) hn hW hk hc2 (fun i y hi hy => by rw [g1 46 (by omega) (by omega)]; exact t.1 i y hi hy) (fun m X p1 p2 p3 p4 p5 p6 p7 => k m X ⟨fun c a b => ?_, ?_⟩ p3 p4 ?_) (kk - 1) 1 (fun _ => x) m2 (by omega) (Nat.le_refl _) ⟨hx, fun j hj => by omega⟩ (fun j hj => by omega) (fun j hj => by obtain rfl : j = 0 := (by omega); exact g47) (fun _ _ => rfl) rfl
    · exact ⟨_, L⟩
    · rw [p1 c (by omega), g1 c (by omega) (by omega), f1 c (by omega)]
    · rw [p2, g2, f2]
    · have : x = X 0 := p7 (fun _ => x) ⟨hx, fun j hj => by omega⟩
      rw [p5, g43, this]
end KD
