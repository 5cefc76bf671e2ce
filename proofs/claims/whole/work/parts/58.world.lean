/-! layer 2: worlds told as numbers: ((people, season, foretold), fields); fields: 0 rank, 1 purse, 2 sees, 3 coin, 4 worn, 5 tally, 6 length, 7 coins, 8 worns, 9 chances, 10 house, 11 money, 12 price seam over, 13 season told, 14 line told, 15 line then -/
abbrev hw_T : Type := (Nat × Nat × Nat) × hx_M
def hw_sum (a : hw_T) (t : Nat) : Int32 := sumN (fun q => a.2.1 6 (16 * t + q)) a.1.1
def hw_line (a : hw_T) (t : Nat) : Int32 := (100 * hw_sum a t) / Int32.ofNat a.1.1
def hw_mean (a : hw_T) (p w t : Nat) : Int32 := meanW (a.2.1 0) (a.2.1 2 p) (fun q => a.2.1 6 (16 * t + q)) p w a.1.1
def hw_old (a : hw_T) (k t : Nat) : Int32 := if k ≤ t then hw_sum a (t - k) / Int32.ofNat a.1.1 else -1
/-- what stands in the class's world (or in an image of it, d cells behind) -/
def CW (d : Nat) (a : hw_T) (μ : hx_M) : Prop :=
  (μ.1 (8 + d) 0 = Int32.ofNat a.1.1 ∧ μ.1 (7 + d) 7 = Int32.ofNat a.1.2.1 ∧ μ.1 (7 + d) 8 = Int32.ofNat a.1.2.2) ∧
  (μ.1 (7 + d) 3 = a.2.1 12 0 ∧ μ.1 (7 + d) 4 = a.2.1 12 1 ∧ μ.1 (7 + d) 5 = a.2.1 12 2 ∧ μ.2 (7 + d) 6 = a.2.2 0 0) ∧
  (∀ p, p < a.1.1 → μ.1 (9 + d) p = a.2.1 0 p ∧ μ.1 (10 + d) p = a.2.1 1 p ∧ μ.1 (11 + d) p = a.2.1 2 p ∧ μ.1 (12 + d) p = a.2.1 3 p ∧ μ.1 (13 + d) p = a.2.1 4 p) ∧
  (∀ k, k < 6 * a.1.1 → μ.1 (14 + d) k = a.2.1 5 k) ∧
  (∀ t p, t ≤ a.1.2.1 → p < a.1.1 → μ.1 (16 + d) (16 * t + p) = a.2.1 6 (16 * t + p)) ∧
  (∀ t, t ≤ a.1.2.1 → μ.1 (17 + d) t = hw_sum a t) ∧
  (∀ t p, 1 ≤ t → t ≤ a.1.2.1 → p < a.1.1 → (μ.1 (18 + d) (16 * t + p) >>> (16 &&& 31) = a.2.1 7 (16 * t + p) ∧ (μ.1 (18 + d) (16 * t + p) >>> (7 &&& 31)) &&& 511 = a.2.1 8 (16 * t + p) ∧ μ.1 (18 + d) (16 * t + p) &&& 127 = a.2.1 9 (16 * t + p))) ∧
  (∀ t h, t ≤ a.1.2.1 → h < 4 → μ.1 (19 + d) (4 * t + h) = a.2.1 10 (4 * t + h)) ∧
  (∀ t, t ≤ a.1.2.1 → μ.1 (20 + d) t = a.2.1 11 t) ∧
  (∀ k, k < a.1.2.2 → μ.1 (25 + d) k = a.2.1 13 k ∧ μ.1 (26 + d) k = a.2.1 14 k ∧ μ.1 (27 + d) k = a.2.1 15 k)
/-- what stands in the reference's world -/
def MW (a : hw_T) (μ : hx_M) : Prop :=
  (μ.1 49 0 = Int32.ofNat a.1.1 ∧ μ.1 49 1 = Int32.ofNat a.1.2.1 ∧ μ.1 49 59 = Int32.ofNat a.1.2.2) ∧
  (μ.1 49 3 = a.2.1 12 0 ∧ μ.1 49 4 = a.2.1 12 1 ∧ μ.1 49 5 = a.2.1 12 2 ∧ μ.2 49 6 = a.2.2 0 0) ∧
  (∀ p, p < a.1.1 → μ.1 50 p = a.2.1 0 p ∧ μ.1 51 p = a.2.1 1 p ∧ μ.1 54 p = a.2.1 2 p ∧ μ.1 52 p = a.2.1 3 p ∧ μ.1 53 p = a.2.1 4 p) ∧
  (∀ k, k < 6 * a.1.1 → μ.1 56 k = a.2.1 5 k) ∧
  (∀ t p, t ≤ a.1.2.1 → p < a.1.1 → μ.1 57 (16 * t + p) = a.2.1 6 (16 * t + p)) ∧
  (∀ t p, 1 ≤ t → t ≤ a.1.2.1 → p < a.1.1 → (μ.1 58 (16 * t + p) = a.2.1 7 (16 * t + p) ∧ μ.1 59 (16 * t + p) = a.2.1 8 (16 * t + p) ∧ μ.1 60 (16 * t + p) = a.2.1 9 (16 * t + p))) ∧
  (∀ h, h < 4 → μ.1 55 h = a.2.1 10 (4 * a.1.2.1 + h)) ∧
  (∀ t h, t < a.1.2.1 → h < 4 → μ.1 61 (4 * t + h) = a.2.1 10 (4 * t + h)) ∧
  μ.1 49 2 = a.2.1 11 a.1.2.1 ∧
  (∀ t, t < a.1.2.1 → μ.1 62 t = a.2.1 11 t) ∧
  (∀ k, k < a.1.2.2 → μ.1 86 k = a.2.1 13 k ∧ μ.1 85 k = a.2.1 14 k ∧ μ.1 87 k = a.2.1 15 k)
/-- in its bounds -/
def WF (S : Nat) (a : hw_T) : Prop :=
  (a.1.1 ≤ 16 ∧ a.1.2.1 ≤ S ∧ a.1.2.2 ≤ 20 ∧ (0 < a.1.2.1 → 0 < a.1.1) ∧ (0 < a.1.2.2 → 0 < a.1.1)) ∧
  (0 ≤ a.2.1 12 0 ∧ a.2.1 12 0 ≤ 999 ∧ 0 ≤ a.2.1 12 1 ∧ a.2.1 12 1 ≤ 9 ∧ 0 ≤ a.2.1 12 2 ∧ a.2.1 12 2 ≤ 99) ∧
  (∀ p, p < a.1.1 → (0 ≤ a.2.1 0 p ∧ a.2.1 0 p ≤ 9) ∧ (0 ≤ a.2.1 1 p ∧ a.2.1 1 p ≤ 99) ∧ (0 ≤ a.2.1 3 p ∧ a.2.1 3 p ≤ 9999) ∧ (0 ≤ a.2.1 4 p ∧ a.2.1 4 p ≤ Int32.ofNat a.1.2.1)) ∧
  (∀ p, p < a.1.1 → ∃ x : Nat, x < 2 ^ a.1.1 ∧ a.2.1 2 p = Int32.ofNat x) ∧
  (∀ t p, t ≤ a.1.2.1 → p < a.1.1 → 0 ≤ a.2.1 6 (16 * t + p) ∧ a.2.1 6 (16 * t + p) ≤ 60) ∧
  (∀ t h, t ≤ a.1.2.1 → h < 4 → -1 ≤ a.2.1 10 (4 * t + h) ∧ a.2.1 10 (4 * t + h) ≤ 60) ∧
  (∀ t, t ≤ a.1.2.1 → 0 ≤ a.2.1 11 t ∧ a.2.1 11 t ≤ 99) ∧
  (∀ k, k < a.1.2.2 → 0 ≤ a.2.1 13 k ∧ a.2.1 13 k ≤ 250)
/-! laws: a step (0 less, 1 more, 2 equal, 3 or, 4 and, 5 not; word; number); a rule (act, whom, number, by, steps) -/
abbrev hl_S : Type := Nat × Nat × Nat
abbrev hl_R : Type := (Nat × Nat × Nat × Nat) × List hl_S
def hl_step (s : hl_S) : Int32 := if s.1 = 0 then Int32.ofNat (s.2.2 * 2048 + 60 * 16 + s.2.1) else if s.1 = 1 then Int32.ofNat (s.2.2 * 2048 + 62 * 16 + s.2.1) else if s.1 = 2 then Int32.ofNat (s.2.2 * 2048 + 61 * 16 + s.2.1) else if s.1 = 3 then -3 else if s.1 = 4 then -2 else -1
def hl_head (r : hl_R) : Int32 := Int32.ofNat (r.1.1 + 4 * r.1.2.1 + 32 * r.1.2.2.2 + 2048 * r.1.2.2.1)
/-- the steps leave one answer, with at most 20 open -/
def hl_okS : Nat → List hl_S → Prop
  | d, [] => d = 1
  | d, s :: r => (s.1 ≤ 2 ∧ s.2.1 < 12 ∧ s.2.2 ≤ 9999 ∧ d < 20 ∧ hl_okS (d + 1) r) ∨ ((s.1 = 3 ∨ s.1 = 4) ∧ 2 ≤ d ∧ hl_okS (d - 1) r) ∨ (s.1 = 5 ∧ 1 ≤ d ∧ hl_okS d r)
def hl_okR (r : hl_R) : Prop := r.1.1 ≤ 2 ∧ (r.1.1 = 2 → r.1.2 = (0, 0, 0)) ∧ r.1.2.1 ≤ 5 ∧ (r.1.2.1 = 4 → r.1.2.2.1 ≤ 3) ∧ (r.1.2.1 = 5 → 1 ≤ r.1.2.2.1) ∧ r.1.2.2.1 ≤ 99 ∧ r.1.2.2.2 ≤ 60 ∧ (r.2 = [] ∨ hl_okS 0 r.2)
/-- the class's code from a place on -/
def hl_C (μ : hx_M) (cc len : Nat) : Nat → List hl_R → Prop
  | _, [] => True
  | at0, r :: rs => at0 + 2 + r.2.length ≤ len ∧ μ.1 cc at0 = hl_head r ∧ μ.1 cc (at0 + 1) = Int32.ofNat (at0 + 2 + r.2.length) ∧ (∀ i s, r.2[i]? = some s → μ.1 cc (at0 + 2 + i) = hl_step s) ∧ hl_C μ cc len (at0 + 2 + r.2.length) rs
/-- the reference's rules from a number on -/
def hl_M (μ : hx_M) (sm : Nat) : Nat → List hl_R → Prop
  | _, [] => True
  | k, r :: rs => μ.1 64 k = Int32.ofNat r.1.1 ∧ (r.1.1 ≠ 2 → μ.1 65 k = Int32.ofNat r.1.2.1 ∧ μ.1 66 k = Int32.ofNat r.1.2.2.1 ∧ μ.1 67 k = Int32.ofNat r.1.2.2.2) ∧ (∃ fr : Nat, μ.1 68 k = Int32.ofNat fr ∧ μ.1 69 k = Int32.ofNat (fr + r.2.length) ∧ fr + r.2.length ≤ sm ∧ (∀ i s, r.2[i]? = some s → μ.1 70 (fr + i) = Int32.ofNat s.1 ∧ μ.1 71 (fr + i) = Int32.ofNat s.2.1 ∧ μ.1 72 (fr + i) = Int32.ofNat s.2.2)) ∧ hl_M μ sm (k + 1) rs
def hl_LC (Λ : hx_L) (μ : hx_M) (k : Nat) (l : List hl_R) : Prop := ∃ lc cc len : Nat, Λ.2.1 6 k = some lc ∧ 93 ≤ lc ∧ lc < Λ.2.2 ∧ 93 ≤ cc ∧ cc < Λ.2.2 ∧ Λ.1 lc = (0, 1) ∧ Λ.2.1 lc 0 = some cc ∧ Λ.1 cc = (1, len) ∧ len ≤ 700 ∧ μ.1 lc 1 = Int32.ofNat l.length ∧ hl_C μ cc len 0 l
def hl_LM (μ : hx_M) (sm k : Nat) (l : List hl_R) : Prop := μ.1 63 k = Int32.ofNat l.length ∧ hl_M μ sm (16 * k) l
/-- the laws told: the same in both -/
def LAWS (Λ : hx_L) (μ : hx_M) (ls : List (List hl_R)) (fo : Option Nat) : Prop :=
  ls.length ≤ 5 ∧ μ.1 0 4 = Int32.ofNat ls.length ∧ μ.1 49 20 = Int32.ofNat ls.length ∧
  (match fo with | none => ls = [] ∧ μ.1 0 5 = -1 ∧ μ.1 49 21 = -1 | some k => k < ls.length ∧ μ.1 0 5 = Int32.ofNat k ∧ μ.1 49 21 = Int32.ofNat k) ∧
  (∃ sm : Nat, sm ≤ 700 * ls.length ∧ μ.1 49 22 = Int32.ofNat sm ∧ ∀ k l, ls[k]? = some l → l.length ≤ 16 ∧ (∀ r ∈ l, hl_okR r) ∧ hl_LC Λ μ k l ∧ hl_LM μ sm k l)
/-- tape, fault, plates -/
def TAPE (μ : hx_M) : Prop := (∃ fd : Nat, fd ≤ 700 ∧ μ.1 0 1 = Int32.ofNat fd ∧ μ.1 49 23 = Int32.ofNat fd ∧ (∀ j, j < fd → μ.1 1 j = vp_nar .byte (μ.1 74 j))) ∧ μ.1 0 6 = μ.1 49 27 ∧
  (∃ np : Nat, np ≤ 60 ∧ μ.1 39 1 = Int32.ofNat np ∧ μ.1 49 55 = Int32.ofNat np ∧ ∀ k, k < np → μ.1 40 k = μ.1 82 k ∧ μ.1 41 k = μ.1 83 k ∧ μ.1 42 k = μ.1 84 k ∧ 0 ≤ μ.1 83 k ∧ μ.1 83 k ≤ 200)
/-- the shape of an image, d cells behind the world's own, with so many rows -/
def IS (Λ : hx_L) (d rows : Nat) : Prop := (∀ q ∈ [(7, 0, 10), (8, 0, 4), (9, 1, 16), (10, 1, 16), (11, 1, 16), (12, 1, 16), (13, 1, 16), (14, 1, 96), (15, 0, 3), (16, 1, 16 * rows), (17, 1, rows), (18, 1, 16 * rows), (19, 1, 4 * rows), (20, 1, rows), (25, 1, 20), (26, 1, 20), (27, 1, 20)], Λ.1 (q.1 + d) = q.2) ∧ (∀ q ∈ [(7, 0, 8), (7, 1, 15), (7, 9, 25), (7, 10, 26), (7, 11, 27), (8, 1, 9), (8, 2, 10), (8, 3, 11), (8, 4, 12), (8, 5, 13), (8, 6, 14), (15, 1, 16), (15, 2, 17), (15, 3, 18), (15, 4, 19), (15, 5, 20)], Λ.2.1 (q.1 + d) q.2.1 = some (q.2.2 + d))
/-- the reference's row of an image, laid into cells of its own -/
def MIr (b : Nat → Int32) (z : Int64) : hx_M :=
  (fun k j => if k = 49 then (if j = 59 then b 6 else b j)
    else if k = 50 then b (8 + j) else if k = 51 then b (24 + j) else if k = 52 then b (40 + j) else if k = 53 then b (56 + j) else if k = 54 then b (72 + j) else if k = 55 then b (88 + j) else if k = 56 then b (92 + j) else if k = 85 then b (188 + j) else if k = 86 then b (208 + j) else if k = 87 then b (228 + j) else if k = 57 then b (248 + j) else if k = 58 then b (3464 + j) else if k = 59 then b (6680 + j) else if k = 60 then b (9896 + j) else if k = 61 then b (13112 + j) else if k = 62 then b (13916 + j) else 0,
   fun _ _ => z)
def MI (i : Nat) (μ : hx_M) : hx_M := MIr (fun j => μ.1 90 (15000 * i + j)) (μ.2 91 i)
/-- the images -/
def IMGS (Λ : hx_L) (μ : hx_M) (is : List hw_T) : Prop := is.length ≤ 3 ∧ μ.1 0 14 = Int32.ofNat is.length ∧ μ.1 49 65 = Int32.ofNat is.length ∧ ∀ i a, is[i]? = some a → WF 200 a ∧ MW a (MI i μ) ∧ ∃ d : Nat, 93 ≤ 7 + d ∧ 28 + d ≤ Λ.2.2 ∧ Λ.2.1 48 i = some (7 + d) ∧ IS Λ d (a.1.2.1 + 1) ∧ μ.1 (15 + d) 0 = Int32.ofNat (a.1.2.1 + 1) ∧ CW d a μ
/-- the images, and how many cells there are at the most -/
def IMB (Λ : hx_L) (μ : hx_M) (ls : List (List hl_R)) (is : List hw_T) : Prop := IMGS Λ μ is ∧ Λ.2.2 ≤ 93 + 2 * ls.length + 21 * is.length
/-- the invariant -/
def hI (Λ : hx_L) (μ : hx_M) : Prop := cF Λ ∧ mF Λ ∧ μ.1 15 0 = Int32.ofNat 301 ∧ ∃ (a : hw_T) (ls : List (List hl_R)) (fo : Option Nat) (is : List hw_T), WF 200 a ∧ CW 0 a μ ∧ MW a μ ∧ TAPE μ ∧ LAWS Λ μ ls fo ∧ IMB Λ μ ls is
/-! frames -/
/-- what the class leaves when it only answers -/
def keepC (μ m : hx_M) : Prop := (∀ k, (k ≤ 6 ∨ k = 15 ∨ (39 ≤ k ∧ k ≤ 42) ∨ 48 ≤ k) → m.1 k = μ.1 k ∧ m.2 k = μ.2 k)
/-- what the reference leaves when it only answers -/
def keepM (μ m : hx_M) : Prop := (∀ k, (k < 49 ∨ (63 ≤ k ∧ k ≤ 72) ∨ k = 74 ∨ (82 ≤ k ∧ k ≤ 84) ∨ (90 ≤ k ∧ k ≤ 91) ∨ 93 ≤ k) → m.1 k = μ.1 k ∧ m.2 k = μ.2 k) ∧ (∀ j, j ∈ [20, 21, 22, 23, 27, 55, 65] → m.1 49 j = μ.1 49 j)
