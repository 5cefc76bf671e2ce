/-! layer 2: law, how the reference reads comparisons, lists of them -/
section CM
variable {N : Nat} {t : Nat → Int32} {μ m m' : hx_M} {h d i i' : Nat} {V : List hl_S}
theorem wordR {K : Int64 → hx_M → Prop} (tx : TX N t m) (a : AT N t i m) (k : ∀ v m', offX m m' → AX N t i m' → (∀ j, j < 21 → (v = Int64.ofNat (pkR (wds.getD j [])) ↔ tkF t N i = Int32.ofNat (10000 + j))) → (∀ j, j < 21 → tkF t N i = Int32.ofNat (10000 + j) → AT N t (i + 1) (hx_sI m' 49 25 (m'.1 49 41))) → K v m') : wX12_word m K := by
  obtain ⟨ai, b, hb, h25, hn⟩ := a
  refine wordM tx hb h25 (fun m' o h1 h2 => ?_)
  rw [hn] at h1 h2 ⊢
  refine k _ m' o ⟨ai, h1⟩ (fun j hj => wordTok tx.1 hj) (fun j hj e => ?_)
  obtain ⟨hi, he⟩ := tok_word hj e
  refine ⟨hi, run bL t N (pos t N i), (run_rng bL t N _).2.1 pos_le, ?_, he⟩
  rw [sIe]; exact h2
section TM
variable {T : Nat → Int32}
theorem wordT {K : Int64 → hx_M → Prop} (hT : T = tkF t N) (tx : TX N t m) (a : AT N t i m) (k : ∀ v m', offX m m' → AX N t i m' → (∀ j, j < 21 → (v = Int64.ofNat (pkR (wds.getD j [])) ↔ T i = Int32.ofNat (10000 + j))) → (∀ j, j < 21 → T i = Int32.ofNat (10000 + j) → AT N t (i + 1) (hx_sI m' 49 25 (m'.1 49 41))) → K v m') : wX12_word m K := by
  subst hT; exact wordR tx a k
theorem takesT {k : Nat} {v : Int64} {K : Int32 → hx_M → Prop} {x : Int32} (hT : T = tkF t N) (tx : TX N t m) (a : AT N t i m) (hk : k < 21) (hv : v = Int64.ofNat (pkR (wds.getD k []))) (hx : Int32.ofNat (10000 + k) = x) (k1 : T i = x → ∀ m', offX m m' → AT N t (i + 1) m' → K 1 m') (k0 : T i ≠ x → ∀ m', offX m m' → AX N t i m' → K 0 m') : wX12_takes m v K := by
  subst hT; subst hx; exact takesM tx a hk hv k1 k0
theorem takesSignT {c x : Int32} {K : Int32 → hx_M → Prop} (hT : T = tkF t N) (tx : TX N t m) (a : AT N t i m) (hc : isSg c = true) (hx : 20000 + c = x) (k1 : T i = x → ∀ m', offX m m' → AT N t (i + 1) m' → K 1 m') (k0 : T i ≠ x → ∀ m', offX m m' → AX N t i m' → K 0 m') : wX12_takesSign m c K := by
  subst hT; subst hx; exact takesSignM tx a hc k1 k0
theorem takesNumberT {lo hi : Int32} {K : Int32 → hx_M → Prop} (hT : T = tkF t N) (tx : TX N t m) (a : AT N t i m) (hlo : 0 ≤ lo) (hhi : hi ≤ 9999) (k1 : lo ≤ T i ∧ T i ≤ hi → ∀ m', offX m m' → AT N t (i + 1) m' → m'.1 49 42 = T i → K 1 m') (k0 : ¬ (lo ≤ T i ∧ T i ≤ hi) → ∀ m', offX m m' → AX N t i m' → K 0 m') : wX12_takesNumber m lo hi K := by
  subst hT; exact takesNumberM tx a hlo hhi k1 k0
end TM
theorem RO.yes {x : pR} (hx : x.1 = true) (r : RS N t μ h d (V ++ x.2.2) x.2.1 m) : RO N t μ h d V x m := ⟨fun _ => r, fun z => by rw [hx] at z; exact absurd z (by decide)⟩
theorem RO.no {x : pR} (hx : x.1 = false) (r : RF N t μ h x.2.1 m) : RO N t μ h d V x m := ⟨fun z => by rw [hx] at z; exact absurd z (by decide), fun _ => r⟩
/-- what a part of the reference owes -/
def SpM (N : Nat) (t : Nat → Int32) (μ : hx_M) (h d : Nat) (W : hx_M → (Int32 → hx_M → Prop) → Prop) (sub : Nat → pR) : Prop := ∀ (V : List hl_S) (i : Nat) (m : hx_M) (K : Int32 → hx_M → Prop), RS N t μ h d V i m → (∀ m', RO N t μ h d V (sub i) m' → K (bI (sub i).1) m') → W m K
end CM
