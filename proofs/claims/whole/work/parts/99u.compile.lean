/-! layer 2: law, the class's compile -/
/-- the token at an index of a text -/
def tkT (t : Nat → Int32) (N : Nat) (l : List Nat) : Nat → Int32 := fun i => if i < l.length then tK t N (l.getD i 0) else -2
section CO
variable {Λ : hx_L} {μ : hx_M} {N : Nat} {t : Nat → Int32}
theorem compileC {K : Option Nat → hx_L → hx_M → Prop} (F : cF Λ) (hb : Λ.2.2 + 2 < 1000000) (h93 : 93 ≤ Λ.2.2) (hN : N ≤ 700) (et : μ.1 1 = t) (hu : (pLaw (tkT t N (tl t N (N + 1) 0)) 17 0 0).1 = true → (lCode (pLaw (tkT t N (tl t N (N + 1) 0)) 17 0 0).2.2 0).length < 700)
    (k0 : (pLaw (tkT t N (tl t N (N + 1) 0)) 17 0 0).1 = false → ∀ m, (∀ c, c ≠ 2 → c ≠ 3 → c ≠ 4 → c ≠ 5 → m.1 c = μ.1 c) → m.2 = μ.2 → (∀ K' : Int32 → Prop, K' (Int32.ofNat ((tl t N (N + 1) 0).getD (pLaw (tkT t N (tl t N (N + 1) 0)) 17 0 0).2.1 N)) → wX2_placeAtHand m K') → K none Λ m)
    (k1 : (pLaw (tkT t N (tl t N (N + 1) 0)) 17 0 0).1 = true → ∀ L m, NB Λ.2.2 Λ m 2 [(1, 1, (lCode (pLaw (tkT t N (tl t N (N + 1) 0)) 17 0 0).2.2 0).length), (0, 0, 1)] [(0, 0, 1)] L m → (∀ c, c < Λ.2.2 → c ≠ 2 → c ≠ 3 → c ≠ 4 → c ≠ 5 → m.1 c = μ.1 c) → (∀ c, c < Λ.2.2 → m.2 c = μ.2 c) → m.1 Λ.2.2 1 = Int32.ofNat (pLaw (tkT t N (tl t N (N + 1) 0)) 17 0 0).2.2.length → (∀ j, j < (lCode (pLaw (tkT t N (tl t N (N + 1) 0)) 17 0 0).2.2 0).length → m.1 (Λ.2.2 + 1) j = (lCode (pLaw (tkT t N (tl t N (N + 1) 0)) 17 0 0).2.2 0).getD j 0) → K (some Λ.2.2) L m) : wX2_compile Λ μ (Int32.ofNat N) K := by
  unfold wX2_compile wX2_compile_J19
  refine t_withinY ⟨(n32_le (a := 0) (by omega) (by omega)).mpr (Nat.zero_le N), (n32_le (by omega) (by omega)).mpr hN⟩ (sel1 ?_)
  generalize hm0 : hx_sI (hx_sI μ 2 1 (Int32.ofNat N)) 2 6 0 = m0
  have g0 : ∀ c, c ≠ 2 → m0.1 c = μ.1 c := fun c hc => by rw [← hm0, sIk hc, sIk hc]
  have g21 : m0.1 2 1 = Int32.ofNat N := by rw [← hm0, sIj (by omega), sIe]
  have g26 : m0.1 2 6 = 0 := by rw [← hm0, sIe]
  have g2 : m0.2 = μ.2 := by rw [← hm0]; rfl
  unfold wX2_split
  refine ⟨N + 1, split_L4 (μ := m0) (t := t) hN (by rw [g0 1 (by omega)]; exact et) g21 (fun l m1 f1 f2 f3 f4 f5 => ?_) (N + 1) 0 [] m0 (by omega) (Nat.zero_le N) (Nat.le_refl _) (fun _ _ _ => rfl) rfl (fun i hi => by simp at hi) (by rw [List.nil_append])⟩
  rw [← f5] at hu k0 k1
  unfold wX2_split_J78
  have v701 : vp_in (Int32.ofNat l.length) 701 := n32_in (by omega) (by omega)
  have e21 : m1.1 2 1 = Int32.ofNat N := by rw [f1 2 (by omega) (by omega)]; exact g21
  rw [e21, n32_nat (by omega)]
  refine ⟨v701, v701, ?_⟩
  generalize hm2 : hx_sI (hx_sI m1 3 l.length (-2)) 4 l.length (Int32.ofNat N) = m2
  have q1 : ∀ c, c ≠ 3 → c ≠ 4 → m2.1 c = m1.1 c := fun c a b => by rw [← hm2, sIk b, sIk a]
  have q2 : m2.2 = m1.2 := by rw [← hm2]; rfl
  have tr : TR l.length (tkT t N l) m2 := by
    refine ⟨⟨by omega, fun i hi => if_neg (by omega)⟩, fun i hi => ?_⟩
    unfold tkT
    rw [← hm2, sIk (by omega)]
    by_cases c : i < l.length
    · rw [if_pos c, sIj (by omega)]; exact (f4 i c).1
    · obtain rfl : i = l.length := by omega
      rw [if_neg c, sIe]
  have pl : ∀ i, i ≤ l.length → m2.1 4 i = Int32.ofNat (l.getD i N) := fun i hi => by
    rw [← hm2]
    by_cases c : i < l.length
    · rw [sIj (by omega), sIk (by omega), (f4 i c).2]
      congr 1
      simp [List.getD, List.getElem?_eq_getElem c]
    · obtain rfl : i = l.length := by omega
      rw [sIe]
      congr 1
      simp [List.getD]
  have ps : PS l.length (tkT t N l) m2 [] 0 (hx_sI m2 2 4 0) := by
    refine ⟨Nat.zero_le _, sIe, ?_, fun j hj => by simp at hj, fun c a b => sIk a, fun j a b => sIj a, rfl⟩
    rw [sIj (by omega), q1 2 (by omega) (by omega), f1 2 (by omega) (by omega), g26]
    rfl
  have fr : ∀ {V : List Int32} {i : Nat} {m' : hx_M}, PS l.length (tkT t N l) m2 V i m' → (∀ c, c ≠ 2 → c ≠ 3 → c ≠ 4 → c ≠ 5 → m'.1 c = μ.1 c) ∧ m'.2 = μ.2 := fun p => ⟨fun c a b d e => by rw [p.2.2.2.2.1 c a e, q1 c b d, f1 c b d, g0 c a], by rw [p.2.2.2.2.2.2, q2, f2, g2]⟩
  refine ⟨17, compile_L38 tr 17 0 0 [] _ (by omega) (by omega) ps (fun m' hf ⟨V', p'⟩ => ?_) (fun m' ht ⟨V', p', hv⟩ => ?_)⟩
  · refine k0 hf m' (fr p').1 (fr p').2 (fun K' hK' => ?_)
    obtain ⟨a1, a2, a3, a4, a5, a6, a7⟩ := p'
    unfold wX2_placeAtHand
    rw [a2, n32_nat (by omega), a5 4 (by omega) (by omega), pl _ a1]
    exact ⟨n32_in (by omega) (by omega), hK'⟩
  · have hlt := hu ht
    have hV : V' = lCode (pLaw (tkT t N l) 17 0 0).2.2 0 := by
      have := hv (by show 0 + _ ≤ 700; exact Nat.le_trans (Nat.le_of_eq (Nat.zero_add _)) (Nat.le_of_lt hlt))
      rw [this]
      rfl
    have e26 : m'.1 2 6 = Int32.ofNat V'.length := by
      rw [p'.2.2.1, hV]
      congr 1
      omega
    have hVl : V'.length < 700 := by rw [hV]; exact hlt
    rw [Nat.zero_add]
    refine ⟨by unfold hx_big; omega, ?_⟩
    intro L1 eL1 m3 em3
    have b0 : NB Λ.2.2 Λ m' 0 [] [] Λ m' := ⟨rfl, fun _ _ => ⟨rfl, fun _ => rfl⟩, fun _ _ => ⟨rfl, rfl⟩, fun q hq => by simp at hq, fun q hq => by simp at hq⟩
    have b1 : NB Λ.2.2 Λ m' 1 [(0, 0, 1)] [] L1 m3 := by rw [eL1, em3]; exact b0.push (0, 1)
    have e26' : m3.1 2 6 = Int32.ofNat V'.length := by rw [(b1.2.2.1 2 (by omega)).1]; exact e26
    rw [e26']
    refine ⟨b1.c F h93, ?_⟩
    have F1 := b1.c F h93
    unfold wJ7_copyOf_59c91
    refine ⟨700, cF_S5 F1, fun _ => ⟨n32_nn (by omega), ?_⟩, fun z => by have := (n32_eq (by omega) (by omega)).mp z; omega⟩
    rw [n32_nat (by omega), b1.n]
    refine ⟨by omega, by omega, by unfold hx_big; omega, ?_⟩
    intro L2 eL2 m4 em4
    have b2 : NB Λ.2.2 Λ m' 2 [(1, 1, V'.length), (0, 0, 1)] [] L2 m4 := by rw [eL2, em4]; exact b1.push (1, V'.length)
    have F2 := b2.c F h93
    refine ⟨700, cF_S5 F2, ?_⟩
    intro x11 e11
    have ex : x11 = Int32.ofNat V'.length := by
      rw [e11, if_pos ((n32_lt (by omega) (by omega)).mpr hVl)]
    rw [ex, n32_nat (by omega)]
    have z0 : (0 : Int32).toNatClampNeg = 0 := rfl
    rw [z0]
    refine ⟨V'.length, b2.s (c := 1) (by simp), by decide, by decide, n32_nn (by omega), by omega, by omega, ?_⟩
    intro m5 em5
    refine ⟨_, rfl, ?_⟩
    have b3 : NB Λ.2.2 Λ m' 2 [(1, 1, V'.length), (0, 0, 1)] [] L2 m5 := b2.mem fun c hc => by rw [em5]; exact ⟨sAk (by omega), rfl⟩
    have c5 : ∀ j, j < V'.length → m5.1 (Λ.2.2 + 1) j = V'.getD j 0 := fun j hj => by
      rw [em5, sAe, pk_cpy_in (by omega) (by omega), show 0 + (j - 0) = j by omega, (b2.2.2.1 5 (by omega)).1]
      exact p'.2.2.2.1 j hj (by omega)
    unfold wX1_init
    refine ⟨b3.s (c := 0) (by simp), ?_⟩
    intro L3 eL3
    have b4 : NB Λ.2.2 Λ m' 2 [(1, 1, V'.length), (0, 0, 1)] [(0, 0, 1)] L3 m5 := by rw [eL3]; exact b3.ref (c := 0) (j := 0) (q := 1) (by omega) (by simp)
    refine ⟨b4.s (c := 0) (by simp), ?_⟩
    have b5 : NB Λ.2.2 Λ m' 2 [(1, 1, V'.length), (0, 0, 1)] [(0, 0, 1)] L3 (hx_sI m5 (Λ.2.2 + 0) 1 (Int32.ofNat (pLaw (tkT t N l) 17 0 0).2.2.length)) := b4.sI
    rw [hV] at b5 c5
    have fm := fr p'
    refine k1 ht L3 _ ⟨b5.1, b5.2.1, fun _ _ => ⟨rfl, rfl⟩, b5.2.2.2⟩ (fun c hc a b d e => ?_) (fun c hc => ?_) sIe (fun j hj => ?_)
    · exact ((b5.2.2.1 c hc).1).trans (fm.1 c a b d e)
    · exact ((b5.2.2.1 c hc).2).trans (by rw [fm.2])
    · rw [sIk (by omega)]; exact c5 j hj
end CO
