/-! layer 2: law, how the class reads what is asked -/
section PD
variable {C : Nat} {T : Nat → Int32} {μ : hx_M}
/-- a part is read so -/
def SpC (C : Nat) (T : Nat → Int32) (μ : hx_M) (W : hx_M → Int32 → (Int32 → hx_M → Prop) → Prop) (d : Nat) (sub : Nat → pR) : Prop := ∀ (V : List Int32) (i : Nat) (m : hx_M) (K : Int32 → hx_M → Prop), PS C T μ V i m → (∀ m', Out C T μ V (sub i) m' → K (bI (sub i).1) m') → W m (Int32.ofNat d) K
theorem bIor (b : Bool) : bI b = 0 ∨ bI b = 1 := by cases b <;> simp [bI]
theorem pLoop_s {sub : Nat → pR} {tok : Int32} {st : hl_S} {r : Nat} {x : pR} : pLoop T sub tok st (r + 1) x = if x.1 = true ∧ T x.2.1 = tok then pLoop T sub tok st r ((sub (x.2.1 + 1)).1, (sub (x.2.1 + 1)).2.1, x.2.2 ++ (sub (x.2.1 + 1)).2.2 ++ [st]) else x := rfl
theorem readAll_L8 {W1 : hx_M → Int32 → (Int32 → hx_M → Prop) → Prop} {d : Nat} {sub : Nat → pR} {K : Int32 → hx_M → Prop} {V0 : List Int32} (t : TR C T μ) (h1 : SpC C T μ W1 d sub) : ∀ (r j : Nat) (x : pR) (m : hx_M), j + r = 700 → Out C T μ V0 x m → (∀ m', Out C T μ V0 (pLoop T sub 10018 (4, 0, 0) r x) m' → K (bI (pLoop T sub 10018 (4, 0, 0) r x).1) m') → wX2_readAll_L8 W1 (Int32.ofNat d) K (r + 1) (bI x.1) (Int32.ofNat j) m := by
  intro r
  induction r with
  | zero =>
    intro j x m e h k
    obtain rfl : j = 700 := by omega
    unfold wX2_readAll_L8
    exact selT (by decide) ⟨bIor _, k m h⟩
  | succ r ih =>
    intro j x m e h k
    unfold wX2_readAll_L8
    refine selF (fun z => by have := (n32_le (a := 700) (by omega) (by omega)).mp z; omega) ?_
    obtain ⟨V', hp, hv⟩ := h
    rw [pLoop_s] at k
    cases hx : x.1 with
    | false =>
      rw [if_neg (fun z => by rw [hx] at z; simp at z), hx] at k
      exact sel0 ⟨bIor _, k m ⟨V', hp, fun z => hv z⟩⟩
    | true =>
      refine sel1 (takesC t hp (by decide) (fun z m1 p1 => sel1 ?_) (fun z => sel0 ?_))
      · rw [if_pos ⟨hx, z⟩] at k
        refine h1 V' (x.2.1 + 1) m1 _ p1 (fun m2 o2 => ?_)
        obtain ⟨V2, hp2, hv2⟩ := o2
        rw [n32_add1]
        refine putC2 hp2 (fun m3 p3 => ih (j + 1) ((sub (x.2.1 + 1)).1, (sub (x.2.1 + 1)).2.1, x.2.2 ++ (sub (x.2.1 + 1)).2.2 ++ [(4, 0, 0)]) m3 (by omega) ⟨_, p3, fun z2 => ?_⟩ k)
        rw [hv2 z2, hv hx, List.map_append, List.map_append, List.append_assoc, List.append_assoc, List.append_assoc]
        rfl
      · rw [if_neg (fun z2 => z z2.2), hx] at k
        exact ⟨bIor true, k m ⟨V', hp, fun z => hv z⟩⟩
theorem readAllC {W1 : hx_M → Int32 → (Int32 → hx_M → Prop) → Prop} {d : Nat} {sub : Nat → pR} (t : TR C T μ) (h1 : SpC C T μ W1 d sub) : SpC C T μ (wX2_readAll W1) d (pAll T sub) := by
  intro V i m K p k
  unfold wX2_readAll
  exact h1 V i m _ p (fun m1 o1 => ⟨701, readAll_L8 t h1 700 0 (sub i) m1 (by omega) o1 k⟩)
theorem readAny_L8 {W1 : hx_M → Int32 → (Int32 → hx_M → Prop) → Prop} {d : Nat} {sub : Nat → pR} {K : Int32 → hx_M → Prop} {V0 : List Int32} (t : TR C T μ) (h1 : SpC C T μ (wX2_readAll W1) d sub) : ∀ (r j : Nat) (x : pR) (m : hx_M), j + r = 700 → Out C T μ V0 x m → (∀ m', Out C T μ V0 (pLoop T sub 10019 (3, 0, 0) r x) m' → K (bI (pLoop T sub 10019 (3, 0, 0) r x).1) m') → wX2_readAny_L8 W1 (Int32.ofNat d) K (r + 1) (bI x.1) (Int32.ofNat j) m := by
  intro r
  induction r with
  | zero =>
    intro j x m e h k
    obtain rfl : j = 700 := by omega
    unfold wX2_readAny_L8
    exact selT (by decide) ⟨bIor _, k m h⟩
  | succ r ih =>
    intro j x m e h k
    unfold wX2_readAny_L8
    refine selF (fun z => by have := (n32_le (a := 700) (by omega) (by omega)).mp z; omega) ?_
    obtain ⟨V', hp, hv⟩ := h
    rw [pLoop_s] at k
    cases hx : x.1 with
    | false =>
      rw [if_neg (fun z => by rw [hx] at z; simp at z), hx] at k
      exact sel0 ⟨bIor _, k m ⟨V', hp, fun z => hv z⟩⟩
    | true =>
      refine sel1 (takesC t hp (by decide) (fun z m1 p1 => sel1 ?_) (fun z => sel0 ?_))
      · rw [if_pos ⟨hx, z⟩] at k
        refine h1 V' (x.2.1 + 1) m1 _ p1 (fun m2 o2 => ?_)
        obtain ⟨V2, hp2, hv2⟩ := o2
        rw [n32_add1]
        refine putC2 hp2 (fun m3 p3 => ih (j + 1) ((sub (x.2.1 + 1)).1, (sub (x.2.1 + 1)).2.1, x.2.2 ++ (sub (x.2.1 + 1)).2.2 ++ [(3, 0, 0)]) m3 (by omega) ⟨_, p3, fun z2 => ?_⟩ k)
        rw [hv2 z2, hv hx, List.map_append, List.map_append, List.append_assoc, List.append_assoc, List.append_assoc]
        rfl
      · rw [if_neg (fun z2 => z z2.2), hx] at k
        exact ⟨bIor true, k m ⟨V', hp, fun z => hv z⟩⟩
theorem readAnyC {W1 : hx_M → Int32 → (Int32 → hx_M → Prop) → Prop} {d : Nat} {sub : Nat → pR} (t : TR C T μ) (h1 : SpC C T μ W1 d sub) : SpC C T μ (wX2_readAny W1) d (pAny T sub) := by
  intro V i m K p k
  unfold wX2_readAny
  exact readAllC t h1 V i m _ p (fun m1 o1 => ⟨701, readAny_L8 t (readAllC t h1) 700 0 (pAll T sub i) m1 (by omega) o1 k⟩)
theorem readOne0 {W1 : hx_M → Int32 → (Int32 → hx_M → Prop) → Prop} (t : TR C T μ) : SpC C T μ (wX2_readOne W1) 8 (pOne T 0) := by
  intro V i m K p k
  obtain ⟨h1, h2⟩ := p.tok t
  have k' : ∀ m', Out C T μ V (if T i = 10020 ∨ T i = 20040 then (false, i, []) else pCmp T i) m' → K (bI (if T i = 10020 ∨ T i = 20040 then (false, i, []) else pCmp T i).1) m' := k
  have e8 : ¬ (Int32.ofNat 8 < 8) := by decide
  unfold wX2_readOne wX2_readOne_J20 wX2_readOne_J45
  rw [h2]
  refine ⟨h1, fun z => selE rfl ⟨h1, fun z2 => selF e8 ?_, fun z2 => ?_⟩, fun z => selN (by decide) (selF e8 ?_)⟩
  · rw [if_pos (Or.inr z2)] at k'
    exact k' m ⟨V, p, fun z => by simp at z⟩
  · rw [if_neg (fun z3 => by rcases z3 with z3 | z3; exact z z3; exact z2 z3)] at k'
    exact comparisonC t p (fun m' o' => ⟨bIor _, k' m' o'⟩)
  · rw [if_pos (Or.inl z)] at k'
    exact k' m ⟨V, p, fun z => by simp at z⟩
theorem readOneS {W1 : hx_M → Int32 → (Int32 → hx_M → Prop) → Prop} {q d : Nat} (hd : d < 8) (t : TR C T μ) (h1 : SpC C T μ W1 (d + 1) (pOne T q)) : SpC C T μ (wX2_readOne W1) d (pOne T (q + 1)) := by
  intro V i m K p k
  obtain ⟨g1, g2⟩ := p.tok t
  have k' : ∀ m', Out C T μ V (if T i = 10020 then ((pOne T q (i + 1)).1, (pOne T q (i + 1)).2.1, (pOne T q (i + 1)).2.2 ++ [(5, 0, 0)]) else if T i = 20040 then (if (pAny T (pOne T q) (i + 1)).1 = true ∧ T (pAny T (pOne T q) (i + 1)).2.1 = 20041 then (true, (pAny T (pOne T q) (i + 1)).2.1 + 1, (pAny T (pOne T q) (i + 1)).2.2) else (false, (pAny T (pOne T q) (i + 1)).2.1, [])) else pCmp T i) m' → K (bI (if T i = 10020 then ((pOne T q (i + 1)).1, (pOne T q (i + 1)).2.1, (pOne T q (i + 1)).2.2 ++ [(5, 0, 0)]) else if T i = 20040 then (if (pAny T (pOne T q) (i + 1)).1 = true ∧ T (pAny T (pOne T q) (i + 1)).2.1 = 20041 then (true, (pAny T (pOne T q) (i + 1)).2.1 + 1, (pAny T (pOne T q) (i + 1)).2.2) else (false, (pAny T (pOne T q) (i + 1)).2.1, [])) else pCmp T i).1) m' := k
  have e8 : Int32.ofNat d < 8 := (n32_lt (b := 8) (by omega) (by omega)).mpr hd
  unfold wX2_readOne wX2_readOne_J20 wX2_readOne_J45
  rw [g2]
  refine ⟨g1, fun z => selE rfl ⟨g1, fun z2 => selT e8 (selT rfl ?_), fun z2 => ?_⟩, fun z => selN (by decide) (selT e8 (selF (by decide) ?_))⟩
  · rw [if_neg z, if_pos z2] at k'
    have pn := p.next (t.lt p.1 (by rw [z2]; decide))
    rw [n32_add1]
    refine readAnyC t h1 V (i + 1) _ _ pn (fun m2 o2 => ?_)
    obtain ⟨V2, hp2, hv2⟩ := o2
    cases hy : (pAny T (pOne T q) (i + 1)).1 with
    | false =>
      rw [if_neg (fun z => by rw [hy] at z; simp at z)] at k'
      exact sel0 (k' m2 ⟨V2, hp2, fun z => by simp at z⟩)
    | true =>
      refine sel1 (takesC t hp2 (by decide) (fun z3 m3 p3 => sel1 ?_) (fun z3 => sel0 ?_))
      · rw [if_pos ⟨hy, z3⟩] at k'
        exact k' m3 ⟨V2, p3, fun _ => hv2 hy⟩
      · rw [if_neg (fun z4 => z3 z4.2)] at k'
        exact k' m2 ⟨V2, hp2, fun z => by simp at z⟩
  · rw [if_neg z, if_neg z2] at k'
    exact comparisonC t p (fun m' o' => ⟨bIor _, k' m' o'⟩)
  · rw [if_pos z] at k'
    have pn := p.next (t.lt p.1 (by rw [z]; decide))
    rw [n32_add1]
    refine h1 V (i + 1) _ _ pn (fun m2 o2 => ?_)
    obtain ⟨V2, hp2, hv2⟩ := o2
    refine putC2 hp2 (fun m3 p3 => ⟨bIor _, k' m3 ⟨_, p3, fun z3 => ?_⟩⟩)
    rw [hv2 z3, List.map_append, List.append_assoc]
    rfl
theorem readOneC (t : TR C T μ) : ∀ q, q ≤ 8 → SpC C T μ (wX2_readOne_d (q + 4)) (8 - q) (pOne T q)
  | 0, _ => readOne0 t
  | q + 1, hq => by
    have h := readOneC t q (by omega)
    have e : 8 - q = 8 - (q + 1) + 1 := by omega
    rw [e] at h
    exact readOneS (by omega) t h
end PD
