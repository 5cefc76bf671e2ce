/-! layer 2: shop, the reference -/
/-- the same but for what a shop writes, the reference -/
def offY (μ m : hx_M) : Prop := (∀ k, k ≠ 49 → k ≠ 73 → ¬ (76 ≤ k ∧ k ≤ 77) → ¬ (88 ≤ k ∧ k ≤ 89) → m.1 k = μ.1 k) ∧ (∀ j, j ≠ 45 → m.1 49 j = μ.1 49 j) ∧ m.2 = μ.2
theorem offY.oW {μ m m' : hx_M} (h : offY μ m) (o : offW m m') : offY μ m' := ⟨fun k a b c d => (o.1 k a b (by omega) (by omega)).trans (h.1 k a b c d), fun j hj => (o.2.1 j hj).trans (h.2.1 j hj), o.2.2.trans h.2.2⟩
theorem offY.sI {μ m : hx_M} {c j : Nat} {v : Int32} (h : offY μ m) (hc : 88 ≤ c ∧ c ≤ 89) : offY μ (hx_sI m c j v) := ⟨fun k a b e d => by rw [sIk (by omega)]; exact h.1 k a b e d, fun i hi => by rw [sIk (by omega)]; exact h.2.1 i hi, h.2.2⟩
theorem offY.keep {μ m : hx_M} (h : offY μ m) : keepM μ m := ⟨fun k hk => ⟨h.1 k (by omega) (by omega) (by omega) (by omega), by rw [h.2.2]⟩, fun j hj => h.2.1 j (by simp at hj; omega)⟩
theorem MW.oY {a : hw_T} {μ m : hx_M} (h : MW a μ) (o : offY μ m) : MW a m := h.fr (fun j hj => o.2.1 j (by simp at hj; omega)) (by rw [o.2.2]) (fun k hk => o.1 k (by omega) (by omega) (by omega) (by omega))
theorem hl_M.fr73 {μ m : hx_M} {sm : Nat} (h : ∀ k, 64 ≤ k → k ≤ 72 → k ≠ 73 → m.1 k = μ.1 k) {rs : List hl_R} {k : Nat} (hh : hl_M μ sm k rs) : hl_M m sm k rs := hl_M.fr (fun k a b => h k a b (by omega)) hh
theorem LKM.oY {μ m : hx_M} {sm f : Nat} {l : List hl_R} (h : LKM μ sm f l) (o : offY μ m) : LKM m sm f l := by
  obtain ⟨⟨h1, h2⟩, h3, h4⟩ := h
  exact ⟨⟨by rw [o.1 63 (by omega) (by omega) (by omega) (by omega)]; exact h1, hl_M.fr73 (fun k a b c => o.1 k (by omega) c (by omega) (by omega)) h2⟩, by rw [o.2.1 21 (by omega)]; exact h3, h4⟩
section KM
variable {a : hw_T} {l : List hl_R} {f sm : Nat} {μ m : hx_M}
theorem shops_L2 {v1 : Int32} {K K1 : hx_M → Prop} (hc : MW a μ) (w : WF 200 a) (hl : LKM μ sm f l) (k : ∀ m, offY μ m → (∀ p, p < a.1.1 → m.1 88 p = Int32.ofNat (shW a l p)) → K1 m) : ∀ (r j : Nat) (m : hx_M), j + r = a.1.1 → offY μ m → (∀ p, p < j → m.1 88 p = Int32.ofNat (shW a l p)) → wX12_shops_L2 v1 K K1 (r + 1) (Int32.ofNat j) m := by
  have hn := w.n
  intro r
  induction r with
  | zero =>
    intro j m e o h
    obtain rfl : j = a.1.1 := by omega
    unfold wX12_shops_L2
    rw [(hc.oY o).n]
    exact selT (Int32.le_refl _) (k m o h)
  | succ r ih =>
    intro j m e o h
    unfold wX12_shops_L2
    have hl1 := hl.oY o
    rw [(hc.oY o).n, n32_add1]
    obtain ⟨ew, hw⟩ := shW_e (l := l) w (p := j) (by omega) hl.2.2.2.2.2
    refine selF (fun z => by have := (n32_le (by omega) (by omega)).mp z; omega) (wantsNowM (hc.oY o) w (by omega) hl1.2.2.1 hl1.2.1 hl1.2.2.2.1 hl1.1 hl1.2.2.2.2.1 hl1.2.2.2.2.2 (fun m1 o1 => ⟨n32_in (by omega) (by omega), ?_⟩))
    rw [ew, n32_nat (by omega)]
    refine ih (j + 1) _ (by omega) ((o.oW o1).sI (by omega)) (fun p hp => ?_)
    rw [hm_sI]
    by_cases c : p = j
    · rw [if_pos ⟨rfl, c⟩, c]
    · rw [if_neg (fun z => c z.2), o1.1 88 (by omega) (by omega) (by omega) (by omega)]
      exact h p (by omega)
/-- one person's part of a between -/
def btT (v1 v2 : Option Nat) (wp : Nat) : Nat := match v1, v2 with
  | none, none => 0
  | none, some y => if wp < y then y - wp else 0
  | some x, none => if wp < x then 0 else wp - x
  | some x, some y => if wp < x then 0 else if wp < y then (if y - wp < wp - x then y - wp else wp - x) else 0
theorem betweenM_L5 {W : Nat → Nat} {n : Nat} {v1 v2 : Option Nat} {K : Int32 → Prop} (hn : n ≤ 16) (hn0 : m.1 49 0 = Int32.ofNat n) (hW : ∀ p, p < n → m.1 88 p = Int32.ofNat (W p) ∧ W p ≤ 60) (h1 : v1 = none → v2 ≠ none) (hx : ∀ x, v1 = some x → x ≤ 60) (hy : ∀ y, v2 = some y → y ≤ 60) (k : K (Int32.ofNat (sumP (fun p => btT v1 v2 (W p)) n))) : ∀ (r j : Nat), j + r = n → wX12_between_L5 m (la_I v1) (la_I v2) K (r + 1) (Int32.ofNat (sumP (fun p => btT v1 v2 (W p)) j)) (Int32.ofNat j) := by
  intro r
  induction r with
  | zero =>
    intro j e
    obtain rfl : j = n := by omega
    unfold wX12_between_L5
    rw [hn0]
    exact selT (Int32.le_refl _) k
  | succ r ih =>
    intro j e
    obtain ⟨ew, hw⟩ := hW j (by omega)
    have hi := ih (j + 1) (by omega)
    have es : sumP (fun p => btT v1 v2 (W p)) (j + 1) = sumP (fun p => btT v1 v2 (W p)) j + btT v1 v2 (W j) := rfl
    rw [es, ← n32_add, ← n32_add1] at hi
    have hi0 : btT v1 v2 (W j) = 0 → wX12_between_L5 m (la_I v1) (la_I v2) K (r + 1) (Int32.ofNat (sumP (fun p => btT v1 v2 (W p)) j)) (Int32.ofNat j + 1) := fun z => by
      rw [z] at hi
      have : Int32.ofNat (sumP (fun p => btT v1 v2 (W p)) j) + Int32.ofNat 0 = Int32.ofNat (sumP (fun p => btT v1 v2 (W p)) j) := Int32.add_zero _
      rw [this] at hi
      exact hi
    have z0 : ∀ y : Nat, la_I (some y) = Int32.ofNat y := fun _ => rfl
    unfold wX12_between_L5 wX12_between_J34 wX12_between_J48 wX12_between_J84 wX12_between_J86 wX12_between_J86_3 wX12_between_J86_4
    rw [hn0, n32_nat (by omega), ew]
    refine selF (fun z => by have := (n32_le (by omega) (by omega)).mp z; omega) ⟨n32_in (by omega) (by omega), ?_⟩
    cases v1 with
    | none =>
      cases v2 with
      | none => exact absurd rfl (h1 rfl)
      | some y =>
        have hy60 := hy y rfl
        refine selT rfl ?_
        show (Int32.ofNat y = -1 → _) ∧ _
        refine selF (n32_neg (by omega) (by decide)) ⟨fun z => selE rfl ?_, fun z => hi0 ?_⟩
        · have hlt : W j < y := (n32_lt (by omega) (by omega)).mp z
          rw [z0, n32_subn (by omega)]
          have : btT none (some y) (W j) = y - W j := if_pos hlt
          rw [this] at hi
          exact hi
        · exact if_neg (fun z2 => z ((n32_lt (by omega) (by omega)).mpr z2))
    | some x =>
      have hx60 := hx x rfl
      refine selF (n32_neg (by omega) (by decide)) ⟨fun z => hi0 ?_, fun z => ?_⟩
      · have hlt : W j < x := (n32_lt (by omega) (by omega)).mp z
        cases v2 with
        | none => exact if_pos hlt
        | some y => exact if_pos hlt
      · have hge : ¬ W j < x := fun z2 => z ((n32_lt (by omega) (by omega)).mpr z2)
        cases v2 with
        | none =>
          refine selT rfl (selN (n32_neg (by omega) (by decide)) (selE rfl ?_))
          rw [z0, n32_subn (by omega)]
          have : btT (some x) none (W j) = W j - x := if_neg hge
          rw [this] at hi
          exact hi
        | some y =>
          have hy60 := hy y rfl
          have hne : la_I (some y) ≠ -1 := n32_neg (by omega) (by decide)
          refine selF hne ⟨fun z2 => selN (n32_neg (by omega) (by decide)) (selN hne ?_), fun z2 => hi0 ?_⟩
          · have hlt : W j < y := (n32_lt (by omega) (by omega)).mp z2
            rw [z0, z0, n32_subn (by omega), n32_subn (by omega)]
            rintro v rfl
            have e1 : btT (some x) (some y) (W j) = (if y - W j < W j - x then y - W j else W j - x) := by
              show (if W j < x then 0 else if W j < y then _ else 0) = _
              rw [if_neg hge, if_pos hlt]
            rw [e1] at hi
            have e2 : (if Int32.ofNat (y - W j) < Int32.ofNat (W j - x) then Int32.ofNat (y - W j) else Int32.ofNat (W j - x)) = Int32.ofNat (if y - W j < W j - x then y - W j else W j - x) := by
              by_cases c : y - W j < W j - x
              · rw [if_pos c, if_pos ((n32_lt (by omega) (by omega)).mpr c)]
              · rw [if_neg c, if_neg (fun z => c ((n32_lt (by omega) (by omega)).mp z))]
            rw [e2]
            exact hi
          · show (if W j < x then 0 else if W j < y then _ else 0) = 0
            rw [if_neg hge, if_neg (fun z3 => z2 ((n32_lt (by omega) (by omega)).mpr z3))]
/-- what the reference's betweens read -/
def BTb (W : Nat → Nat) (n : Nat) (m : hx_M) : Prop := m.1 49 0 = Int32.ofNat n ∧ ∀ p, p < n → m.1 88 p = Int32.ofNat (W p) ∧ W p ≤ 60
theorem betweenM {W : Nat → Nat} {n : Nat} {v1 v2 : Option Nat} {K : Int32 → Prop} (hn : n ≤ 16) (h : BTb W n m) (h1 : v1 = none → v2 ≠ none) (hx : ∀ x, v1 = some x → x ≤ 60) (hy : ∀ y, v2 = some y → y ≤ 60) (k : K (Int32.ofNat (sumP (fun p => btT v1 v2 (W p)) n))) : wX12_between m (la_I v1) (la_I v2) K := by
  unfold wX12_between
  exact ⟨n + 1, betweenM_L5 hn h.1 h.2 h1 hx hy k n 0 (by omega)⟩
theorem bt_up {W : Nat → Nat} {n y : Nat} {K : Int32 → Prop} (hn : n ≤ 16) (h : BTb W n m) (hy : y ≤ 60) (k : K (Int32.ofNat (sh_up W n y))) : wX12_between m (-1) (Int32.ofNat y) K := betweenM (v1 := none) (v2 := some y) hn h (fun _ z => by simp at z) (fun x z => by simp at z) (fun x z => by simp at z; omega) k
theorem bt_be {W : Nat → Nat} {n x : Nat} {K : Int32 → Prop} (hn : n ≤ 16) (h : BTb W n m) (hx : x ≤ 60) (k : K (Int32.ofNat (sh_be W n x))) : wX12_between m (Int32.ofNat x) (-1) K := betweenM (v1 := some x) (v2 := none) hn h (fun z => by simp at z) (fun x z => by simp at z; omega) (fun x z => by simp at z) k
theorem bt_bt {W : Nat → Nat} {n x y : Nat} {K : Int32 → Prop} (hn : n ≤ 16) (h : BTb W n m) (hx : x ≤ 60) (hy : y ≤ 60) (k : K (Int32.ofNat (sh_bt W n x y))) : wX12_between m (Int32.ofNat x) (Int32.ofNat y) K := betweenM (v1 := some x) (v2 := some y) hn h (fun z => by simp at z) (fun x z => by simp at z; omega) (fun x z => by simp at z; omega) k
theorem idx61' {q y : Nat} : (61 * Int32.ofNat q) + Int32.ofNat y = Int32.ofNat (61 * q + y) := by
  rw [← n32_add, ← n32_mul]; rfl
theorem shops_L65 {W : Nat → Nat} {n x q : Nat} {v1 : Int32} {K : hx_M → Prop} {K1 : Int32 → Prop} (hn : n ≤ 16) (hW : ∀ p, p < n → W p ≤ 60) (h : BTb W n m) (hq : q < 6) (hx : x ≤ 60) (ht : ∀ y, y ≤ 60 → m.1 89 (61 * q + y) = Int32.ofNat (sh_R W n 1000000 q y)) : ∀ (r b acc : Nat), b + r = 61 → x < b → acc ≤ 1000000 → K1 (Int32.ofNat (sh_mn 1000000 (fun b => sh_bt W n x b + sh_R W n 1000000 q b) r b acc)) → wX12_shops_L65 m v1 (Int32.ofNat (q + 1)) (Int32.ofNat x) K K1 (r + 1) (Int32.ofNat acc) (Int32.ofNat b) := by
  intro r
  induction r with
  | zero =>
    intro b acc e hb ha k
    obtain rfl : b = 61 := by omega
    unfold wX12_shops_L65
    exact selT (by decide) k
  | succ r ih =>
    intro b acc e hb ha k
    unfold wX12_shops_L65
    rw [n32_sub1 (by omega), Nat.add_sub_cancel, idx61', n32_nat (by omega), ht b (by omega)]
    refine selF (fun z => by have := (n32_le (a := 61) (by omega) (by omega)).mp z; omega) (selF (fun z => by have := (n32_le (b := 0) (by omega) (by omega)).mp z; omega) (bt_bt hn h hx (by omega) ⟨n32_in (by omega) (by omega), ?_⟩))
    rintro y rfl
    rintro z rfl
    have hb1 := bt_le hn hW (a := x) (b := b) (by omega)
    have hr := R_le hn hW (F := 1000000) (m := q) (a := b) (by omega) (by omega) (by omega)
    rw [n32_add, n32_add1]
    have key : (if Int32.ofNat (sh_bt W n x b + sh_R W n 1000000 q b) < Int32.ofNat acc then Int32.ofNat (sh_bt W n x b + sh_R W n 1000000 q b) else Int32.ofNat acc) = Int32.ofNat (if sh_bt W n x b + sh_R W n 1000000 q b < acc then sh_bt W n x b + sh_R W n 1000000 q b else acc) := by
      by_cases c : sh_bt W n x b + sh_R W n 1000000 q b < acc
      · rw [if_pos c, if_pos ((n32_lt (by omega) (by omega)).mpr c)]
      · rw [if_neg c, if_neg (fun z => c ((n32_lt (by omega) (by omega)).mp z))]
    rw [key]
    refine ih (b + 1) _ (by omega) (by omega) ?_ k
    split <;> omega
theorem shops_L36 {W : Nat → Nat} {n q : Nat} {v1 : Int32} {K K1 : hx_M → Prop} (hn : n ≤ 16) (hW : ∀ p, p < n → W p ≤ 60) (hq : q < 6) (h : BTb W n μ) (k : ∀ m, (∀ i, i ≠ 89 → m.1 i = μ.1 i) → m.2 = μ.2 → TBl W n 1000000 89 (q + 1) 0 m → K1 m) : ∀ (r x : Nat) (m : hx_M), x + r = 61 → (∀ i, i ≠ 89 → m.1 i = μ.1 i) → m.2 = μ.2 → TBl W n 1000000 89 q x m → wX12_shops_L36 v1 (Int32.ofNat q) K K1 (r + 1) (Int32.ofNat x) m := by
  intro r
  induction r with
  | zero =>
    intro x m e f1 f2 t
    obtain rfl : x = 61 := by omega
    unfold wX12_shops_L36
    refine selT (by decide) (k m f1 f2 ⟨fun i y hi hy => ?_, fun y hy => by omega⟩)
    by_cases c : i = q
    · subst c; exact t.2 y (by omega)
    · exact t.1 i y (by omega) hy
  | succ r ih =>
    intro x m e f1 f2 t
    have hm : BTb W n m := ⟨by rw [f1 49 (by omega)]; exact h.1, fun p hp => by rw [f1 88 (by omega)]; exact h.2 p hp⟩
    unfold wX12_shops_L36 wX12_shops_J58 wX12_shops_J111
    rw [idx61', n32_nat (by omega)]
    have go : ∀ v, v = sh_R W n 1000000 q x → vp_in (Int32.ofNat (61 * q + x)) 427 ∧ wX12_shops_L36 v1 (Int32.ofNat q) K K1 (r + 1) (Int32.ofNat x + 1) (hx_sI m 89 (61 * q + x) (Int32.ofNat v)) := by
      rintro v rfl
      rw [n32_add1]
      refine ⟨n32_in (by omega) (by omega), ih (x + 1) _ (by omega) (fun i hi => by rw [sIk hi]; exact f1 i hi) f2 ⟨fun i y hi hy => ?_, fun y hy => ?_⟩⟩
      · rw [sIj (by omega)]; exact t.1 i y hi hy
      · by_cases c : y = x
        · subst c; rw [sIe]
        · rw [sIj (by omega)]; exact t.2 y (by omega)
    refine selF (fun z => by have := (n32_le (a := 61) (by omega) (by omega)).mp z; omega) ⟨fun z => ?_, fun z => ?_⟩
    · have hq0 : q ≠ 0 := fun z2 => z (by rw [z2]; rfl)
      obtain ⟨q', rfl⟩ : ∃ q', q = q' + 1 := ⟨q - 1, by omega⟩
      have L := shops_L65 (v1 := v1) (K := K) (K1 := fun v4 => vp_in (Int32.ofNat (61 * (q' + 1) + x)) 427 ∧ wX12_shops_L36 v1 (Int32.ofNat (q' + 1)) K K1 (r + 1) (Int32.ofNat x + 1) (hx_sI m 89 (61 * (q' + 1) + x) v4)) hn hW hm (by omega) (by omega) (fun y hy => t.1 q' y (by omega) hy) (60 - x) (x + 1) 1000000 (by omega) (by omega) (Nat.le_refl _) (go _ rfl)
      rw [← n32_add1 (a := x)] at L
      exact ⟨_, L⟩
    · have hq0 : q = 0 := (n32_eq (b := 0) (by omega) (by omega)).mp z
      subst hq0
      refine bt_be hn hm (by omega) ⟨2, ?_⟩
      unfold wX12_shops_L65
      have g := go _ rfl
      exact ⟨fun _ => g, fun _ => selT (Int32.le_refl _) g⟩
theorem shops_L29 {W : Nat → Nat} {n kk : Nat} {K : hx_M → Prop} (hn : n ≤ 16) (hW : ∀ p, p < n → W p ≤ 60) (hk : kk ≤ 6) (h : BTb W n μ) (k : ∀ m, (∀ i, i ≠ 89 → m.1 i = μ.1 i) → m.2 = μ.2 → TBl W n 1000000 89 kk 0 m → K m) : ∀ (r q : Nat) (m : hx_M), q + r = kk → (∀ i, i ≠ 89 → m.1 i = μ.1 i) → m.2 = μ.2 → TBl W n 1000000 89 q 0 m → wX12_shops_L29 (Int32.ofNat kk) K (r + 1) (Int32.ofNat q) m := by
  intro r
  induction r with
  | zero =>
    intro q m e f1 f2 t
    obtain rfl : q = kk := by omega
    unfold wX12_shops_L29
    exact selT (Int32.le_refl _) (k m f1 f2 t)
  | succ r ih =>
    intro q m e f1 f2 t
    have hm : BTb W n m := ⟨by rw [f1 49 (by omega)]; exact h.1, fun p hp => by rw [f1 88 (by omega)]; exact h.2 p hp⟩
    unfold wX12_shops_L29
    rw [n32_add1]
    exact selF (fun z => by have := (n32_le (by omega) (by omega)).mp z; omega) ⟨62, shops_L36 hn hW (by omega) hm (fun m' f1' f2' t' => ih (q + 1) m' (by omega) (fun i hi => (f1' i hi).trans (f1 i hi)) (f2'.trans f2) t') 61 0 m (by omega) (fun _ _ => rfl) rfl t⟩
theorem shopsM {kk : Nat} {K : hx_M → Prop} (hc : MW a μ) (w : WF 200 a) (hl : LKM μ sm f l) (hk : kk ≤ 6) (k : ∀ m, offY μ m → BTb (shW a l) a.1.1 m → TBl (shW a l) a.1.1 1000000 89 kk 0 m → K m) : wX12_shops μ (Int32.ofNat kk) K := by
  have hn := w.n
  have hW : ∀ p, p < a.1.1 → shW a l p ≤ 60 := fun p hp => (shW_e w hp hl.2.2.2.2.2).2
  unfold wX12_shops
  refine ⟨a.1.1 + 1, shops_L2 hc w hl (fun m1 o1 h1 => ⟨kk + 1, shops_L29 (μ := m1) hn hW hk ⟨(hc.oY o1).n, fun p hp => ⟨h1 p hp, hW p hp⟩⟩ (fun m2 f1 f2 t => ?_) kk 0 m1 (by omega) (fun _ _ => rfl) rfl ⟨fun i y hi => by omega, fun y hy => by omega⟩⟩) a.1.1 0 μ (by omega) ⟨fun _ _ _ _ _ => rfl, fun _ _ => rfl, rfl⟩ (fun p hp => by omega)⟩
  refine k m2 ⟨fun k a b c d => by rw [f1 k (by omega)]; exact o1.1 k a b c d, fun j hj => by rw [f1 49 (by omega)]; exact o1.2.1 j hj, f2.trans o1.2.2⟩ ⟨by rw [f1 49 (by omega)]; exact (hc.oY o1).n, fun p hp => ⟨by rw [f1 88 (by omega)]; exact h1 p hp, hW p hp⟩⟩ t
end KM
