/-! the law's own body: the script is a constant outside the store -/
def hx_LW (cc : ByteArray) (L : Nat) (xs : Nat → Int32) (G : hx_GT) : Prop :=
  (∀ (n : Fin 4) (k : Nat), ∀ pc, decode cc pc = .ok (.aload_n n, 1) → ∀ Λ μ u (lv : hx_V) st, lv[(n : Nat)]? = some (some (.retAddr k)) → G Λ μ u (pc + 1) lv (.retAddr k :: st) → G Λ μ u pc lv st) ∧
  (∀ pc, decode cc pc = .ok (.arraylength, 1) → ∀ Λ μ u lv st, G Λ μ u (pc + 1) lv (.int (Int32.ofNat L) :: st) → G Λ μ u pc lv (.retAddr 3 :: st)) ∧
  (∀ (i : Int32), vp_in i L → ∀ pc, decode cc pc = .ok (.iaload, 1) → ∀ Λ μ u lv st, G Λ μ u (pc + 1) lv (.int (xs i.toNatClampNeg) :: st) → G Λ μ u pc lv (.int i :: .retAddr 3 :: st))
section HXL
variable {p : Program} {l : Launch} {e : Env} {R : Room} {s : State} {m : MethodId} {args : Array Value} {below : List Frame} {meth : Method} {c : Code} {Q : State → Prop}
variable {dC : Nat → ClassId} {dI : Nat → Nat → Nat} {cA : Nat → ClassId} {A : Nat → Prop} {nL N0 mc ms : Nat} {ad0 : Nat → Nat} {cc : ByteArray} {own : String} {ret0 : Option FieldType}
theorem hx_LW_G {b L : Nat} {xs : Nat → Int32} (C : hx_C p s m args meth c dC dI cA nL cc own ret0) (hX : va_X b L xs s s.heap) (hbl : b < s.heap.size) (hbA : ¬ A b) (hb0 : ad0 (3 + hx_big) = b) : hx_LW cc L xs (hx_G p l e R s m args below meth c Q dC dI cA A s.heap nL N0 ad0) := by
  refine ⟨?_, ?_, ?_⟩
  · intro n k pc d Λ μ u lv st hv k9 ad H locs ls B
    exact lv_aload_n C.1 C.2.1 d rfl (B.h.at hv) (k9 ad H locs ls (B.stk fun h => ⟨hx_wc, h⟩))
  · intro pc d Λ μ u lv st k ad H locs ls B
    have hk := k ad H locs ls (B.stk fun h => ⟨hx_wi, h.2⟩)
    rw [List.map_cons, show hx_tr ad (.retAddr 3) = .ref (ad (3 + hx_big)) from rfl, hx_Bc B, hb0]
    exact va_slen C.1 C.2.1 hX hbl hbA B.S d hk
  · intro i hi pc d Λ μ u lv st k ad H locs ls B
    have hk := k ad H locs ls (B.stk fun h => ⟨hx_wi, h.2.2⟩)
    rw [List.map_cons, List.map_cons, show hx_tr ad (.retAddr 3) = .ref (ad (3 + hx_big)) from rfl, hx_Bc B, hb0]
    exact va_sld C.1 C.2.1 hX hbl hbA B.S hi d hk
/-- the end of a walk that wrote to new cells only -/
theorem hx_LW_end {b : Addr} (hA : ∀ q, A q → s.heap.size ≤ q) {K : hx_KT} (hK : ∀ r Λ μ, K r Λ μ → r = some (.int 1)) {N : Nat} {t : State} (h : MQ below (hx_Q dC dI cA ad0 N A K) #[Value.ref b] s 600000 7302250 A t) : lw_Z below #[Value.ref b] s t := by
  obtain ⟨o, h1, h2, ⟨⟨r, Λ', μ', ad', ho, hk, -⟩, -⟩, L, ⟨f1, f2, f3⟩, hL⟩ := h
  have hr := hK r Λ' μ' hk
  subst hr
  refine ⟨o, h1, h2, ho, f1, f2, f3.1, f3.2.1, f3.2.2.1, f3.2.2.2.1, f3.2.2.2.2.1, ?_⟩
  intro a c hc
  obtain ⟨c', g1, g2, g3, g4⟩ := f3.2.2.2.2.2 a c hc
  refine ⟨c', g1, g2, g3, fun i _ => g4 i ?_⟩
  intro hin
  have h9 := hA _ (hL _ hin)
  have h8 : a < s.heap.size := (Array.getElem?_eq_some_iff.mp hc).1
  exact absurd h9 (Nat.not_le.mpr h8)
end HXL
theorem cl_saload {cc : ByteArray} {L : Nat} {xs : Nat → Int32} {G : hx_GT} (h : hx_LW cc L xs G) {n : Fin 4} {k pc : Nat} {Λ : hx_L} {μ : hx_M} {u : Nat × Nat} {lv : hx_V} {st : List Value} (d : decode cc pc = .ok (.aload_n n, 1)) (hv : lv[(n : Nat)]? = some (some (.retAddr k))) (g : G Λ μ u (pc + 1) lv (.retAddr k :: st)) : G Λ μ u pc lv st := h.1 n k pc d Λ μ u lv st hv g
theorem cl_slen {cc : ByteArray} {L : Nat} {xs : Nat → Int32} {G : hx_GT} (h : hx_LW cc L xs G) {pc : Nat} {Λ : hx_L} {μ : hx_M} {u : Nat × Nat} {lv : hx_V} {st : List Value} (d : decode cc pc = .ok (.arraylength, 1)) (g : G Λ μ u (pc + 1) lv (.int (Int32.ofNat L) :: st)) : G Λ μ u pc lv (.retAddr 3 :: st) := h.2.1 pc d Λ μ u lv st g
theorem cl_sald {cc : ByteArray} {L : Nat} {xs : Nat → Int32} {G : hx_GT} (h : hx_LW cc L xs G) {pc : Nat} {Λ : hx_L} {μ : hx_M} {u : Nat × Nat} {lv : hx_V} {st : List Value} {i : Int32} (d : decode cc pc = .ok (.iaload, 1)) (hi : vp_in i L) (g : G Λ μ u (pc + 1) lv (.int (xs i.toNatClampNeg) :: st)) : G Λ μ u pc lv (.int i :: .retAddr 3 :: st) := h.2.2 i hi pc d Λ μ u lv st g
