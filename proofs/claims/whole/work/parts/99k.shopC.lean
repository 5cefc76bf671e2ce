/-! layer 2: shop, the class -/
theorem R_le {W : Nat → Nat} {n F : Nat} (hn : n ≤ 16) (hW : ∀ p, p < n → W p ≤ 60) (hF : 100000 ≤ F) {m a : Nat} (hm : m ≤ 6) (ha : a ≤ 60) : sh_R W n F m a ≤ F := by
  have h := R_ok hn hW hF hF m a hm ha
  by_cases c : a + m ≤ 60
  · have := (h.1 c).2; omega
  · have := h.2 (by omega); omega
def shW (a : hw_T) (l : List hl_R) (p : Nat) : Nat := ((hw_wish a l p a.1.2.1 (a.2.1 3 p) (a.2.1 4 p) 0).1).toNatClampNeg
theorem shW_e {a : hw_T} {l : List hl_R} {p : Nat} (w : WF 200 a) (hp : p < a.1.1) (hok : ∀ r ∈ l, hl_okR r) : (hw_wish a l p a.1.2.1 (a.2.1 3 p) (a.2.1 4 p) 0).1 = Int32.ofNat (shW a l p) ∧ shW a l p ≤ 60 := by
  obtain ⟨h1, h2⟩ := wish_rng (coin := a.2.1 3 p) (worn := a.2.1 4 p) (chance := 0) w (Nat.le_refl a.1.2.1) hp hok
  obtain ⟨x, e, hx⟩ := n32_of (hi := 60) h1 h2 (by omega)
  unfold shW
  rw [e, n32_nat (by omega)]
  exact ⟨rfl, hx⟩
/-- the same but for what a shop writes, the class -/
def offH (μ m : hx_M) : Prop := (∀ k, ¬ (21 ≤ k ∧ k ≤ 24) → ¬ (43 ≤ k ∧ k ≤ 47) → m.1 k = μ.1 k) ∧ m.2 = μ.2
theorem offH.oR {μ m m' : hx_M} (h : offH μ m) (o : offR m m') : offH μ m' := ⟨fun k a b => (o.1 k (by omega)).trans (h.1 k a b), o.2.trans h.2⟩
theorem offH.sI {μ m : hx_M} {c j : Nat} {v : Int32} (h : offH μ m) (hc : 43 ≤ c ∧ c ≤ 47) : offH μ (hx_sI m c j v) := ⟨fun k a b => by rw [sIk (by omega)]; exact h.1 k a b, h.2⟩
theorem offH.keep {μ m : hx_M} (h : offH μ m) : keepC μ m := fun k hk => ⟨h.1 k (by omega) (by omega), by rw [h.2]⟩
theorem CW.oH {a : hw_T} {μ m : hx_M} (h : CW 0 a μ) (o : offH μ m) : CW 0 a m := h.frs (fun k hk => o.1 k (by omega) (by omega)) (by rw [o.2])
theorem LKC.oH {Λ : hx_L} {μ m : hx_M} {f lc : Nat} {l : List hl_R} (h : LKC Λ μ f lc l) (o : offH μ m) : LKC Λ m f lc l := h.fr (o.1 15 (by omega) (by omega)) (fun k hk => o.1 k (by omega) (by omega))
section KC
variable {Λ : hx_L} {a : hw_T} {l : List hl_R} {f lc : Nat} {μ m : hx_M}
theorem gather_L10 {K K1 : hx_M → Prop} (hc : CW 0 a μ) (w : WF 200 a) (hl : LKC Λ μ f lc l) (k : ∀ m, offH μ m → (∀ i, i ≤ 60 → m.1 44 i = Int32.ofNat (sh_r (shW a l) a.1.1 i)) → K1 m) : ∀ (r j : Nat) (m : hx_M), j + r = a.1.1 → offH μ m → (∀ i, i ≤ 60 → m.1 44 i = Int32.ofNat (sh_r (shW a l) j i)) → wX7_gatherWishes_L10 Λ lc K K1 (r + 1) (Int32.ofNat j) m := by
  have hn := w.n
  intro r
  induction r with
  | zero =>
    intro j m e o h
    obtain rfl : j = a.1.1 := by omega
    unfold wX7_gatherWishes_L10
    rw [(hc.oH o).n]
    exact selT (Int32.le_refl _) (k m o h)
  | succ r ih =>
    intro j m e o h
    unfold wX7_gatherWishes_L10 wX7_gatherWishes_J54
    have hl1 := hl.oH o
    rw [(hc.oH o).n, ← hl.2.2.1, n32_add1]
    obtain ⟨ew, hw⟩ := shW_e (l := l) w (p := j) (by omega) hl.2.2.2.2.2
    refine selF (fun z => by have := (n32_le (by omega) (by omega)).mp z; omega) (wishNowC hl.1 (hc.oH o) w (by omega) hl1.2.1 hl1.2.2.2.2.1 hl1.2.2.2.2.2 (fun m1 o1 => ?_))
    rw [ew]
    have o2 := o.oR o1
    have v61 : vp_in (Int32.ofNat (shW a l j)) 61 := n32_in (by omega) (by omega)
    refine t_withinY ⟨(n32_le (a := 0) (by omega) (by omega)).mpr (by omega), (n32_le (b := 60) (by omega) (by omega)).mpr hw⟩ (sel1 ⟨v61, v61, ?_⟩)
    rw [n32_nat (by omega), o1.1 44 (by omega), h _ hw, n32_add1]
    refine ih (j + 1) _ (by omega) (o2.sI (by omega)) (fun i hi => ?_)
    have es : sh_r (shW a l) (j + 1) i = sh_r (shW a l) j i + (if shW a l j = i then 1 else 0) := rfl
    rw [es, hm_sI, o1.1 44 (by omega), h i hi]
    by_cases c : i = shW a l j
    · subst c
      rw [if_pos ⟨rfl, rfl⟩, if_pos rfl]
    · rw [if_neg (fun z => c z.2), if_neg (fun z => c z.symm)]
      rfl
/-- counts and sums told -/
def CTb (W : Nat → Nat) (n : Nat) (m : hx_M) : Prop := ∀ i, i ≤ 60 → m.1 44 i = Int32.ofNat (sh_c W n i) ∧ m.1 45 i = Int32.ofNat (sh_s W n i)
theorem gather_L69 {W : Nat → Nat} {n : Nat} {K : hx_M → Prop} (k : ∀ m, offH μ m → CTb W n m → K m) : ∀ (r j : Nat) (m : hx_M), j + r = 60 → offH μ m → (∀ i, i ≤ j → m.1 44 i = Int32.ofNat (sh_c W n i) ∧ m.1 45 i = Int32.ofNat (sh_s W n i)) → (∀ i, j < i → i ≤ 60 → m.1 44 i = Int32.ofNat (sh_r W n i)) → wX7_gatherWishes_L69 Λ K (r + 1) (Int32.ofNat (j + 1)) m := by
  intro r
  induction r with
  | zero =>
    intro j m e o h1 h2
    obtain rfl : j = 60 := by omega
    unfold wX7_gatherWishes_L69
    exact selT (by decide) (k m o h1)
  | succ r ih =>
    intro j m e o h1 h2
    unfold wX7_gatherWishes_L69
    rw [n32_sub1 (by omega), Nat.add_sub_cancel, n32_nat (by omega), n32_nat (by omega), n32_add1, (h1 j (Nat.le_refl _)).1, (h1 j (Nat.le_refl _)).2, h2 (j + 1) (by omega) (by omega)]
    have v1 : vp_in (Int32.ofNat j) 61 := n32_in (by omega) (by omega)
    have v2 : vp_in (Int32.ofNat (j + 1)) 61 := n32_in (by omega) (by omega)
    refine selF (fun z => by have := (n32_lt (a := 60) (by omega) (by omega)).mp z; omega) ⟨v1, v2, ?_⟩
    rintro x rfl
    refine ⟨v2, v2, v1, ?_⟩
    rintro y rfl
    refine ⟨v2, ?_⟩
    rw [n32_mul, n32_add, n32_add, ← sh_s1, ← sh_c1]
    refine ih (j + 1) _ (by omega) ((o.sI (by omega)).sI (by omega)) (fun i hi => ?_) (fun i hi hi2 => ?_)
    · by_cases c : i = j + 1
      · subst c
        rw [sIe, sIk (by omega), sIe]
        exact ⟨rfl, rfl⟩
      · rw [sIj c, sIk (by omega), sIk (by omega), sIj c]
        exact h1 i (by omega)
    · rw [sIj (by omega), sIk (by omega)]
      exact h2 i (by omega) hi2
theorem gatherWC {K : hx_M → Prop} (hc : CW 0 a μ) (w : WF 200 a) (hl : LKC Λ μ f lc l) (k : ∀ m, offH μ m → CTb (shW a l) a.1.1 m → K m) : wX7_gatherWishes Λ μ lc K := by
  unfold wX7_gatherWishes
  have z0 : (0 : Int32).toNatClampNeg = 0 := rfl
  refine fillI (cF_S44 hl.1) (by omega) ⟨a.1.1 + 1, gather_L10 hc w hl (fun m1 o1 h1 => ⟨by unfold vp_in; decide, 61, ?_⟩) a.1.1 0 _ (by omega) ⟨fun k a b => sAk (by omega), rfl⟩ (fun i hi => ?_)⟩
  · rw [sAe, if_pos (by omega)]; rfl
  · rw [z0]
    refine gather_L69 (μ := μ) k 60 0 _ (by omega) (o1.sI (by omega)) (fun i hi => ?_) (fun i hi hi2 => ?_)
    · obtain rfl : i = 0 := by omega
      rw [sIk (by omega), sIe, h1 0 (by omega), sh_c0, sh_s0]
      exact ⟨rfl, rfl⟩
    · rw [sIk (by omega)]; exact h1 i hi2
theorem ringBt {a b sM sA cM cA cB sB lo hi : Int32} (h1 : sM + a * cA = lo + sA + a * cM) (h2 : b * cB + sM = hi + sB + b * cM) : (sM - sA - a * (cM - cA)) + (b * (cB - cM) - (sB - sM)) = lo + hi := by grind
theorem betweenC {W : Nat → Nat} {n x y : Nat} {K : Int32 → Prop} (h : CTb W n m) (hxy : x < y) (hy : y ≤ 60) (k : K (Int32.ofNat (sh_bt W n x y))) : wX7_between m (Int32.ofNat x) (Int32.ofNat y) K := by
  unfold wX7_between
  have e2 : (2 : Int32) = Int32.ofNat 2 := rfl
  rw [n32_add, e2, n32_div (by omega) (by omega), n32_nat (by omega), n32_nat (by omega), n32_nat (by omega), (h x (by omega)).1, (h x (by omega)).2, (h y (by omega)).1, (h y (by omega)).2, (h ((x + y) / 2) (by omega)).1, (h ((x + y) / 2) (by omega)).2]
  have vx : vp_in (Int32.ofNat x) 61 := n32_in (by omega) (by omega)
  have vy : vp_in (Int32.ofNat y) 61 := n32_in (by omega) (by omega)
  have vm : vp_in (Int32.ofNat ((x + y) / 2)) 61 := n32_in (by omega) (by omega)
  refine ⟨vm, vx, ?_⟩
  rintro x3 rfl
  refine ⟨vm, vx, ?_⟩
  rintro x6 rfl
  refine ⟨vy, vm, ?_⟩
  rintro x9 rfl
  refine ⟨vy, vm, ?_⟩
  rintro x12 rfl
  have h1 := congrArg Int32.ofNat (sh_loE (W := W) (n := n) (a := x) (m := (x + y) / 2) (by omega))
  have h2 := congrArg Int32.ofNat (sh_hiE (W := W) (n := n) (m := (x + y) / 2) (b := y) (by omega))
  rw [← n32_add, ← n32_mul, ← n32_add, ← n32_add, ← n32_mul] at h1
  rw [← n32_add, ← n32_mul, ← n32_add, ← n32_add, ← n32_mul] at h2
  rw [ringBt h1 h2, n32_add, ← sh_btE hxy]
  exact k
theorem ringUp {b c u s : Int32} (h : b * c = u + s) : b * c - s = u := by grind
theorem upToC {W : Nat → Nat} {n y : Nat} {K : Int32 → Prop} (h : CTb W n m) (hy : y ≤ 60) (k : K (Int32.ofNat (sh_up W n y))) : wX7_upTo m (Int32.ofNat y) K := by
  unfold wX7_upTo
  rw [n32_nat (by omega), (h y hy).1, (h y hy).2]
  have vy : vp_in (Int32.ofNat y) 61 := n32_in (by omega) (by omega)
  refine ⟨vy, vy, ?_⟩
  rintro x rfl
  have h1 := congrArg Int32.ofNat (sh_upE (W := W) (n := n) y)
  rw [← n32_add, ← n32_mul] at h1
  rw [ringUp h1]
  exact k
theorem ringBe {a sM sA cM cA lo : Int32} (h1 : sM + a * cA = lo + sA + a * cM) : (sM - sA) - a * (cM - cA) = lo := by grind
theorem beyondC {W : Nat → Nat} {n y : Nat} {K : Int32 → Prop} (h : CTb W n m) (hW : ∀ p, p < n → W p ≤ 60) (hy : y ≤ 60) (k : K (Int32.ofNat (sh_be W n y))) : wX7_beyond m (Int32.ofNat y) K := by
  unfold wX7_beyond
  have z60 : (60 : Int32).toNatClampNeg = 60 := rfl
  rw [z60, n32_nat (by omega), (h y hy).1, (h y hy).2, (h 60 (by omega)).1, (h 60 (by omega)).2]
  have vy : vp_in (Int32.ofNat y) 61 := n32_in (by omega) (by omega)
  have v60 : vp_in (60 : Int32) 61 := by unfold vp_in; decide
  refine ⟨v60, vy, ?_⟩
  rintro x rfl
  refine ⟨v60, vy, ?_⟩
  rintro x2 rfl
  have h1 := congrArg Int32.ofNat (sh_loE (W := W) (n := n) (a := y) (m := 60) hy)
  rw [← n32_add, ← n32_mul, ← n32_add, ← n32_add, ← n32_mul] at h1
  rw [ringBe h1, ← sh_beE hW]
  exact k
/-- the rows told: all of the first q, and row q up to x -/
def TBl (W : Nat → Nat) (n F c q x : Nat) (m : hx_M) : Prop := (∀ i y, i < q → y ≤ 60 → m.1 c (61 * i + y) = Int32.ofNat (sh_R W n F i y)) ∧ ∀ y, y < x → m.1 c (61 * q + y) = Int32.ofNat (sh_R W n F q y)
theorem idx61 {q y : Nat} : (Int32.ofNat q * 61) + Int32.ofNat y = Int32.ofNat (61 * q + y) := by
  rw [Nat.mul_comm 61 q, ← n32_add, ← n32_mul]; rfl
theorem leastB_L8 {W : Nat → Nat} {n F x q : Nat} {K : Int32 → Prop} (hn : n ≤ 16) (hW : ∀ p, p < n → W p ≤ 60) (hF : F = 1048576) (h : CTb W n m) (hq : q < 6) (hx : x ≤ 60) (ht : ∀ y, y ≤ 60 → m.1 46 (61 * q + y) = Int32.ofNat (sh_R W n F q y)) : ∀ (r b acc : Nat), b + r = 61 → x < b → acc ≤ F → K (Int32.ofNat (sh_mn F (fun b => sh_bt W n x b + sh_R W n F q b) r b acc)) → wX7_leastBehind_L8 m (Int32.ofNat x) (Int32.ofNat (q + 1)) K (r + 1) (Int32.ofNat acc) (Int32.ofNat b) := by
  intro r
  induction r with
  | zero =>
    intro b acc e hb ha k
    obtain rfl : b = 61 := by omega
    unfold wX7_leastBehind_L8
    exact selT (by decide) k
  | succ r ih =>
    intro b acc e hb ha k
    unfold wX7_leastBehind_L8
    rw [n32_sub1 (by omega), Nat.add_sub_cancel, idx61, n32_nat (by omega), ht b (by omega)]
    refine selF (fun z => by have := (n32_lt (a := 60) (by omega) (by omega)).mp z; omega) (betweenC h (by omega) (by omega) ⟨n32_in (by omega) (by omega), ?_⟩)
    rintro y rfl
    rintro z rfl
    have hb1 := bt_le hn hW (a := x) (b := b) (by omega)
    have hr := R_le hn hW (F := F) (m := q) (a := b) (by omega) (by omega) (by omega)
    rw [n32_add, n32_add1]
    have key : (if Int32.ofNat (sh_bt W n x b + sh_R W n F q b) < Int32.ofNat acc then Int32.ofNat (sh_bt W n x b + sh_R W n F q b) else Int32.ofNat acc) = Int32.ofNat (if sh_bt W n x b + sh_R W n F q b < acc then sh_bt W n x b + sh_R W n F q b else acc) := by
      by_cases c : sh_bt W n x b + sh_R W n F q b < acc
      · rw [if_pos c, if_pos ((n32_lt (by omega) (by omega)).mpr c)]
      · rw [if_neg c, if_neg (fun z => c ((n32_lt (by omega) (by omega)).mp z))]
    rw [key]
    refine ih (b + 1) _ (by omega) (by omega) ?_ k
    split <;> omega
theorem order_L9 {W : Nat → Nat} {n q kk : Nat} {K K1 : hx_M → Prop} (hn : n ≤ 16) (hW : ∀ p, p < n → W p ≤ 60) (hq : q < 6) (h : CTb W n μ) (k : ∀ m, (∀ i, i ≠ 46 → m.1 i = μ.1 i) → m.2 = μ.2 → TBl W n 1048576 46 (q + 1) 0 m → K1 m) : ∀ (r x : Nat) (m : hx_M), x + r = 61 → (∀ i, i ≠ 46 → m.1 i = μ.1 i) → m.2 = μ.2 → TBl W n 1048576 46 q x m → wX7_order_L9 (Int32.ofNat kk) (Int32.ofNat q) K K1 (r + 1) (Int32.ofNat x) m := by
  intro r
  induction r with
  | zero =>
    intro x m e f1 f2 t
    obtain rfl : x = 61 := by omega
    unfold wX7_order_L9
    refine selT (by decide) (k m f1 f2 ⟨fun i y hi hy => ?_, fun y hy => by omega⟩)
    by_cases c : i = q
    · subst c; exact t.2 y (by omega)
    · exact t.1 i y (by omega) hy
  | succ r ih =>
    intro x m e f1 f2 t
    have hm : CTb W n m := fun i hi => by rw [f1 44 (by omega), f1 45 (by omega)]; exact h i hi
    unfold wX7_order_L9 wX7_order_J43
    rw [idx61, n32_nat (by omega), n32_add1]
    have go : ∀ v, v = sh_R W n 1048576 q x → vp_in (Int32.ofNat (61 * q + x)) 366 ∧ wX7_order_L9 (Int32.ofNat kk) (Int32.ofNat q) K K1 (r + 1) (Int32.ofNat (x + 1)) (hx_sI m 46 (61 * q + x) (Int32.ofNat v)) := by
      rintro v rfl
      refine ⟨n32_in (by omega) (by omega), ih (x + 1) _ (by omega) (fun i hi => by rw [sIk hi]; exact f1 i hi) f2 ⟨fun i y hi hy => ?_, fun y hy => ?_⟩⟩
      · rw [sIj (by omega)]; exact t.1 i y hi hy
      · by_cases c : y = x
        · subst c; rw [sIe]
        · rw [sIj (by omega)]; exact t.2 y (by omega)
    refine selF (fun z => by have := (n32_lt (a := 60) (by omega) (by omega)).mp z; omega) ⟨fun z => ?_, fun z => ?_⟩
    · have hq0 : q ≠ 0 := fun z2 => z (by rw [z2]; rfl)
      obtain ⟨q', rfl⟩ : ∃ q', q = q' + 1 := ⟨q - 1, by omega⟩
      unfold wX7_leastBehind
      have eF : (1048576 : Int32) = Int32.ofNat 1048576 := rfl
      rw [eF, n32_add1]
      exact ⟨_, leastB_L8 (F := 1048576) hn hW rfl hm (by omega) (by omega) (fun y hy => t.1 q' y (by omega) hy) (60 - x) (x + 1) 1048576 (by omega) (by omega) (Nat.le_refl _) (go _ rfl)⟩
    · have hq0 : q = 0 := (n32_eq (b := 0) (by omega) (by omega)).mp z
      subst hq0
      exact beyondC hm hW (by omega) (go _ rfl)
theorem order_L2 {W : Nat → Nat} {n kk : Nat} {K K1 : hx_M → Prop} (hn : n ≤ 16) (hW : ∀ p, p < n → W p ≤ 60) (hk : kk ≤ 6) (h : CTb W n μ) (k : ∀ m, (∀ i, i ≠ 46 → m.1 i = μ.1 i) → m.2 = μ.2 → TBl W n 1048576 46 kk 0 m → K1 m) : ∀ (r q : Nat) (m : hx_M), q + r = kk → (∀ i, i ≠ 46 → m.1 i = μ.1 i) → m.2 = μ.2 → TBl W n 1048576 46 q 0 m → wX7_order_L2 (Int32.ofNat kk) K K1 (r + 1) (Int32.ofNat q) m := by
  intro r
  induction r with
  | zero =>
    intro q m e f1 f2 t
    obtain rfl : q = kk := by omega
    unfold wX7_order_L2
    exact selT (Int32.le_refl _) (k m f1 f2 t)
  | succ r ih =>
    intro q m e f1 f2 t
    have hm : CTb W n m := fun i hi => by rw [f1 44 (by omega), f1 45 (by omega)]; exact h i hi
    unfold wX7_order_L2
    rw [n32_add1]
    exact selF (fun z => by have := (n32_le (by omega) (by omega)).mp z; omega) ⟨62, order_L9 hn hW (by omega) hm (fun m' f1' f2' t' => ih (q + 1) m' (by omega) (fun i hi => (f1' i hi).trans (f1 i hi)) (f2'.trans f2) t') 61 0 m (by omega) (fun _ _ => rfl) rfl t⟩
/-- the lowest that is least -/
def Am2 (g : Nat → Nat) (lo hi x : Nat) : Prop := lo ≤ x ∧ x ≤ hi ∧ ∀ j, lo ≤ j → j ≤ hi → g x ≤ g j ∧ (j < x → g x < g j)
theorem Am2.uq {g : Nat → Nat} {lo hi x y : Nat} (h1 : Am2 g lo hi x) (h2 : Am2 g lo hi y) : x = y := by
  obtain ⟨a1, a2, a3⟩ := h1
  obtain ⟨b1, b2, b3⟩ := h2
  have p1 := a3 y b1 b2
  have p2 := b3 x a1 a2
  rcases Nat.lt_trichotomy x y with c | c | c
  · have := p2.2 c; omega
  · exact c
  · have := p1.2 c; omega
theorem leastF_L12 {W : Nat → Nat} {n q lo : Nat} {v1 : Int32} {gap : Nat → Nat} {K : Int32 → Prop} (hn : n ≤ 16) (hW : ∀ p, p < n → W p ≤ 60) (h : CTb W n m) (hq : q < 6) (hv : (v1 = -1 ∧ gap = sh_up W n) ∨ ∃ x, v1 = Int32.ofNat x ∧ gap = sh_bt W n x ∧ x < lo) (ht : ∀ y, y ≤ 60 → m.1 46 (61 * q + y) = Int32.ofNat (sh_R W n 1048576 q y)) (hex : ∃ y, lo ≤ y ∧ y ≤ 60 ∧ gap y + sh_R W n 1048576 q y < 1048576) (k : ∀ x, Am2 (fun b => gap b + sh_R W n 1048576 q b) lo 60 x → K (Int32.ofNat x)) : ∀ (r b best least : Nat), b + r = 61 → lo ≤ b → best ≤ 60 → least ≤ 1048576 → (∀ j, lo ≤ j → j < b → least ≤ gap j + sh_R W n 1048576 q j) → (least = 1048576 ∨ (lo ≤ best ∧ best < b ∧ least = gap best + sh_R W n 1048576 q best ∧ ∀ j, lo ≤ j → j < best → least < gap j + sh_R W n 1048576 q j)) → wX7_leastFrom_L12 m v1 (Int32.ofNat q) K (r + 1) (Int32.ofNat best) (Int32.ofNat least) (Int32.ofNat b) := by
  intro r
  induction r with
  | zero =>
    intro b best least e h1 hb hl h2 h3
    obtain rfl : b = 61 := by omega
    unfold wX7_leastFrom_L12
    refine selT (by decide) (k best ?_)
    obtain ⟨y, y1, y2, y3⟩ := hex
    have := h2 y y1 (by omega)
    rcases h3 with h3 | ⟨a1, a2, a3, a4⟩
    · omega
    · refine ⟨a1, hb, fun j j1 j2 => ⟨?_, fun j3 => ?_⟩⟩
      · show gap best + sh_R W n 1048576 q best ≤ gap j + sh_R W n 1048576 q j
        have := h2 j j1 (by omega); omega
      · show gap best + sh_R W n 1048576 q best < gap j + sh_R W n 1048576 q j
        have := a4 j j1 j3; omega
  | succ r ih =>
    intro b best least e h1 hb hl h2 h3
    unfold wX7_leastFrom_L12
    have hr := R_le hn hW (F := 1048576) (m := q) (a := b) (by omega) (by omega) (by omega)
    have J : gap b ≤ 960 → wX7_leastFrom_J40 m K (wX7_leastFrom_L12 m v1 (Int32.ofNat q) K (r + 1)) v1 (Int32.ofNat q) (Int32.ofNat best) (Int32.ofNat least) (Int32.ofNat b) (Int32.ofNat (gap b)) := by
      intro hg
      unfold wX7_leastFrom_J40 wX7_leastFrom_J73
      rw [idx61, n32_nat (by omega), ht b (by omega), n32_add1, n32_add]
      refine ⟨n32_in (by omega) (by omega), ?_⟩
      rintro x rfl
      rw [n32_le (by omega) (by omega)]
      refine ⟨fun z => ih (b + 1) best least (by omega) (by omega) hb hl (fun j j1 j2 => ?_) ?_, fun z => ih (b + 1) b _ (by omega) (by omega) (by omega) (by omega) (fun j j1 j2 => ?_) (Or.inr ⟨h1, by omega, rfl, fun j j1 j2 => ?_⟩)⟩
      · by_cases c : j = b
        · rw [c]; exact z
        · exact h2 j j1 (by omega)
      · rcases h3 with h3 | ⟨a1, a2, a3⟩
        · exact Or.inl h3
        · exact Or.inr ⟨a1, by omega, a3⟩
      · by_cases c : j = b
        · rw [c]; exact Nat.le_refl _
        · have := h2 j j1 (by omega); omega
      · have := h2 j j1 (by omega); omega
    refine selF (fun z => by have := (n32_lt (a := 60) (by omega) (by omega)).mp z; omega) ?_
    rcases hv with ⟨rfl, hg⟩ | ⟨x, rfl, hg, hx⟩
    · refine selE rfl (upToC h (by omega) ?_)
      rw [hg] at J
      exact J (up_le hn (by omega))
    · refine selN (n32_neg (by omega) (by decide)) (betweenC h (by omega) (by omega) ?_)
      rw [hg] at J
      exact J (bt_le hn hW (by omega))
end KC
