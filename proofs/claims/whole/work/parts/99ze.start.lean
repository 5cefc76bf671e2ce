/-! layer 2: the start; written by wip/gen/start.py -/
def h0_w : hw_T := ((0, 0, 0), (fun k _ => if k = 10 then -1 else 0, fun _ _ => 1))
theorem WF_0 : WF 200 h0_w := by
  refine ⟨⟨by decide, by decide, by decide, fun z => absurd z (by decide), fun z => absurd z (by decide)⟩, by decide, fun p hp => absurd hp (Nat.not_lt_zero _), fun p hp => absurd hp (Nat.not_lt_zero _), fun t p _ hp => absurd hp (Nat.not_lt_zero _), fun t h _ _ => ?_, fun t _ => ?_, fun k hk => absurd hk (Nat.not_lt_zero _)⟩
  · show -1 ≤ (-1 : Int32) ∧ (-1 : Int32) ≤ 60
    decide
  · show 0 ≤ (0 : Int32) ∧ (0 : Int32) ≤ 99
    decide
set_option maxRecDepth 100000 in
set_option maxHeartbeats 8000000 in
theorem hI_start : wL_start (fun _ _ => 0, fun _ _ => 0) hI := by
  unfold wL_start wX11_init
  have h1 : ST 1 _ _ _ _ (hx_push hx_L0 (0, 11)) (hx_z (fun _ _ => 0, fun _ _ => 0) 0) := ST.zero.push rfl rfl
  generalize hx_push hx_L0 (0, 11) = L1 at h1 ⊢
  generalize hx_z (fun _ _ => 0, fun _ _ => 0) 0 = m1 at h1 ⊢
  rw [h1.n]
  refine ⟨by unfold hx_big; omega, ?_⟩
  intro L2 eL2 m2 em2
  have h2 : ST 2 _ _ _ _ L2 m2 := h1.push eL2 em2
  refine ⟨h2.s (c := 0) (by decide), ?_⟩
  intro L3 eL3
  have h3 : ST 2 _ _ _ _ L3 _ := h2.ref eL3 (by decide) (by decide)
  refine ⟨h3.s (c := 0) (by decide), ?_⟩
  rw [h3.n]
  refine ⟨by unfold hx_big; omega, ?_⟩
  intro L4 eL4 m4 em4
  have h4 : ST 3 _ _ _ _ L4 m4 := (h3.sI (c := 0) (j := 1) (v := 0) (by decide)).push eL4 em4
  refine ⟨h4.s (c := 0) (by decide), ?_⟩
  refine ⟨1, h4.r (c := 0) (j := 0) (by decide), ?_⟩
  unfold wX2_init
  refine ⟨h4.s (c := 2) (by decide), ?_⟩
  intro L5 eL5
  have h5 : ST 3 _ _ _ _ L5 _ := h4.ref eL5 (by decide) (by decide)
  refine ⟨h5.s (c := 2) (by decide), ?_⟩
  rw [h5.n]
  refine ⟨by unfold hx_big; omega, ?_⟩
  intro L6 eL6 m6 em6
  have h6 : ST 4 _ _ _ _ L6 m6 := (h5.sI (c := 2) (j := 1) (v := 0) (by decide)).push eL6 em6
  refine ⟨h6.s (c := 2) (by decide), ?_⟩
  intro L7 eL7
  have h7 : ST 4 _ _ _ _ L7 _ := h6.ref eL7 (by decide) (by decide)
  rw [h7.n]
  refine ⟨by unfold hx_big; omega, ?_⟩
  intro L8 eL8 m8 em8
  have h8 : ST 5 _ _ _ _ L8 m8 := h7.push eL8 em8
  refine ⟨h8.s (c := 2) (by decide), ?_⟩
  intro L9 eL9
  have h9 : ST 5 _ _ _ _ L9 _ := h8.ref eL9 (by decide) (by decide)
  refine ⟨h9.s (c := 2) (by decide), ?_⟩
  rw [h9.n]
  refine ⟨by unfold hx_big; omega, ?_⟩
  intro L10 eL10 m10 em10
  have h10 : ST 6 _ _ _ _ L10 m10 := (h9.sI (c := 2) (j := 4) (v := 0) (by decide)).push eL10 em10
  refine ⟨h10.s (c := 2) (by decide), ?_⟩
  intro L11 eL11
  have h11 : ST 6 _ _ _ _ L11 _ := h10.ref eL11 (by decide) (by decide)
  refine ⟨h11.s (c := 2) (by decide), ?_⟩
  have h12 := (h11.sI (c := 2) (j := 6) (v := 0) (by decide))
  refine ⟨h12.s (c := 0) (by decide), ?_⟩
  intro L13 eL13
  have h13 : ST 6 _ _ _ _ L13 _ := h12.ref eL13 (by decide) (by decide)
  rw [h13.n]
  refine ⟨by unfold hx_big; omega, ?_⟩
  intro L14 eL14 m14 em14
  have h14 : ST 7 _ _ _ _ L14 m14 := h13.push eL14 em14
  refine ⟨h14.s (c := 0) (by decide), ?_⟩
  intro L15 eL15
  have h15 : ST 7 _ _ _ _ L15 _ := h14.ref eL15 (by decide) (by decide)
  refine ⟨h15.s (c := 0) (by decide), ?_⟩
  rw [h15.n]
  refine ⟨by unfold hx_big; omega, ?_⟩
  intro L16 eL16 m16 em16
  have h16 : ST 8 _ _ _ _ L16 m16 := (((h15.sI (c := 0) (j := 4) (v := 0) (by decide)).sI (c := 0) (j := 5) (v := (-1)) (by decide)).sI (c := 0) (j := 6) (v := (-1)) (by decide)).push eL16 em16
  unfold wX10_init
  rw [h16.n]
  refine ⟨by unfold hx_big; omega, ?_⟩
  intro L17 eL17 m17 em17
  have h17 : ST 9 _ _ _ _ L17 m17 := h16.push eL17 em17
  unfold wX4_init
  refine ⟨h17.s (c := 8) (by decide), ?_⟩
  rw [h17.n]
  refine ⟨by unfold hx_big; omega, ?_⟩
  intro L18 eL18 m18 em18
  have h18 : ST 10 _ _ _ _ L18 m18 := (h17.sI (c := 8) (j := 0) (v := 0) (by decide)).push eL18 em18
  refine ⟨h18.s (c := 8) (by decide), ?_⟩
  intro L19 eL19
  have h19 : ST 10 _ _ _ _ L19 _ := h18.ref eL19 (by decide) (by decide)
  rw [h19.n]
  refine ⟨by unfold hx_big; omega, ?_⟩
  intro L20 eL20 m20 em20
  have h20 : ST 11 _ _ _ _ L20 m20 := h19.push eL20 em20
  refine ⟨h20.s (c := 8) (by decide), ?_⟩
  intro L21 eL21
  have h21 : ST 11 _ _ _ _ L21 _ := h20.ref eL21 (by decide) (by decide)
  rw [h21.n]
  refine ⟨by unfold hx_big; omega, ?_⟩
  intro L22 eL22 m22 em22
  have h22 : ST 12 _ _ _ _ L22 m22 := h21.push eL22 em22
  refine ⟨h22.s (c := 8) (by decide), ?_⟩
  intro L23 eL23
  have h23 : ST 12 _ _ _ _ L23 _ := h22.ref eL23 (by decide) (by decide)
  rw [h23.n]
  refine ⟨by unfold hx_big; omega, ?_⟩
  intro L24 eL24 m24 em24
  have h24 : ST 13 _ _ _ _ L24 m24 := h23.push eL24 em24
  refine ⟨h24.s (c := 8) (by decide), ?_⟩
  intro L25 eL25
  have h25 : ST 13 _ _ _ _ L25 _ := h24.ref eL25 (by decide) (by decide)
  rw [h25.n]
  refine ⟨by unfold hx_big; omega, ?_⟩
  intro L26 eL26 m26 em26
  have h26 : ST 14 _ _ _ _ L26 m26 := h25.push eL26 em26
  refine ⟨h26.s (c := 8) (by decide), ?_⟩
  intro L27 eL27
  have h27 : ST 14 _ _ _ _ L27 _ := h26.ref eL27 (by decide) (by decide)
  rw [h27.n]
  refine ⟨by unfold hx_big; omega, ?_⟩
  intro L28 eL28 m28 em28
  have h28 : ST 15 _ _ _ _ L28 m28 := h27.push eL28 em28
  refine ⟨h28.s (c := 8) (by decide), ?_⟩
  intro L29 eL29
  have h29 : ST 15 _ _ _ _ L29 _ := h28.ref eL29 (by decide) (by decide)
  refine ⟨h29.s (c := 7) (by decide), ?_⟩
  intro L30 eL30
  have h30 : ST 15 _ _ _ _ L30 _ := h29.ref eL30 (by decide) (by decide)
  rw [h30.n]
  refine ⟨by unfold hx_big; omega, ?_⟩
  intro L31 eL31 m31 em31
  have h31 : ST 16 _ _ _ _ L31 m31 := h30.push eL31 em31
  unfold wX3_init
  refine ⟨h31.s (c := 15) (by decide), ?_⟩
  rw [show (if (1 : Int32) < 301 then (301 : Int32) else 1) = 301 from by decide, sIe]
  rintro x2 rfl
  rw [show ((301 : Int32) * 16).toNatClampNeg = 4816 from by decide]
  refine ⟨by decide, by decide, by decide, ?_⟩
  rw [h31.n]
  refine ⟨by unfold hx_big; omega, ?_⟩
  intro L32 eL32 m32 em32
  have h32 : ST 17 _ _ _ _ L32 m32 := (h31.sI (c := 15) (j := 0) (v := 301) (by decide)).push eL32 em32
  refine ⟨h32.s (c := 15) (by decide), ?_⟩
  intro L33 eL33
  have h33 : ST 17 _ _ _ _ L33 _ := h32.ref eL33 (by decide) (by decide)
  refine ⟨h33.s (c := 15) (by decide), ?_⟩
  rw [h33.v (c := 15) (j := 0) (v := 301) (by decide) (by decide), show (301 : Int32).toNatClampNeg = 301 from by decide]
  refine ⟨by decide, by decide, by decide, ?_⟩
  rw [h33.n]
  refine ⟨by unfold hx_big; omega, ?_⟩
  intro L34 eL34 m34 em34
  have h34 : ST 18 _ _ _ _ L34 m34 := h33.push eL34 em34
  refine ⟨h34.s (c := 15) (by decide), ?_⟩
  intro L35 eL35
  have h35 : ST 18 _ _ _ _ L35 _ := h34.ref eL35 (by decide) (by decide)
  refine ⟨h35.s (c := 15) (by decide), ?_⟩
  rw [h35.v (c := 15) (j := 0) (v := 301) (by decide) (by decide), show ((301 : Int32) * 16).toNatClampNeg = 4816 from by decide]
  refine ⟨by decide, by decide, by decide, ?_⟩
  rw [h35.n]
  refine ⟨by unfold hx_big; omega, ?_⟩
  intro L36 eL36 m36 em36
  have h36 : ST 19 _ _ _ _ L36 m36 := h35.push eL36 em36
  refine ⟨h36.s (c := 15) (by decide), ?_⟩
  intro L37 eL37
  have h37 : ST 19 _ _ _ _ L37 _ := h36.ref eL37 (by decide) (by decide)
  refine ⟨h37.s (c := 15) (by decide), ?_⟩
  rw [h37.v (c := 15) (j := 0) (v := 301) (by decide) (by decide), show ((301 : Int32) * 4).toNatClampNeg = 1204 from by decide]
  refine ⟨by decide, by decide, by decide, ?_⟩
  rw [h37.n]
  refine ⟨by unfold hx_big; omega, ?_⟩
  intro L38 eL38 m38 em38
  have h38 : ST 20 _ _ _ _ L38 m38 := h37.push eL38 em38
  refine ⟨h38.s (c := 15) (by decide), ?_⟩
  intro L39 eL39
  have h39 : ST 20 _ _ _ _ L39 _ := h38.ref eL39 (by decide) (by decide)
  refine ⟨h39.s (c := 15) (by decide), ?_⟩
  rw [h39.v (c := 15) (j := 0) (v := 301) (by decide) (by decide), show (301 : Int32).toNatClampNeg = 301 from by decide]
  refine ⟨by decide, by decide, by decide, ?_⟩
  rw [h39.n]
  refine ⟨by unfold hx_big; omega, ?_⟩
  intro L40 eL40 m40 em40
  have h40 : ST 21 _ _ _ _ L40 m40 := h39.push eL40 em40
  refine ⟨h40.s (c := 15) (by decide), ?_⟩
  intro L41 eL41
  have h41 : ST 21 _ _ _ _ L41 _ := h40.ref eL41 (by decide) (by decide)
  refine ⟨h41.s (c := 15) (by decide), ?_⟩
  refine ⟨19, h41.r (c := 15) (j := 4) (by decide), ?_⟩
  refine fillI (h41.s (c := 19) (t := 1) (n := 1204) (by decide)) (by omega) ?_
  have h42 := h41.fill (n := 1204) (by omega) (by decide)
  refine ⟨h42.s (c := 7) (by decide), ?_⟩
  intro L43 eL43
  have h43 : ST 21 _ _ _ _ L43 _ := h42.ref eL43 (by decide) (by decide)
  rw [h43.n]
  refine ⟨by unfold hx_big; omega, ?_⟩
  intro L44 eL44 m44 em44
  have h44 : ST 22 _ _ _ _ L44 m44 := h43.push eL44 em44
  refine ⟨h44.s (c := 7) (by decide), ?_⟩
  refine ⟨8, h44.r (c := 7) (j := 0) (by decide), ?_⟩
  refine ⟨15, h44.r (c := 7) (j := 1) (by decide), ?_⟩
  unfold wX6_init
  refine ⟨h44.s (c := 21) (by decide), ?_⟩
  intro L45 eL45
  have h45 : ST 22 _ _ _ _ L45 _ := h44.ref eL45 (by decide) (by decide)
  refine ⟨h45.s (c := 21) (by decide), ?_⟩
  intro L46 eL46
  have h46 : ST 22 _ _ _ _ L46 _ := h45.ref eL46 (by decide) (by decide)
  rw [h46.n]
  refine ⟨by unfold hx_big; omega, ?_⟩
  intro L47 eL47 m47 em47
  have h47 : ST 23 _ _ _ _ L47 m47 := h46.push eL47 em47
  refine ⟨h47.s (c := 21) (by decide), ?_⟩
  intro L48 eL48
  have h48 : ST 23 _ _ _ _ L48 _ := h47.ref eL48 (by decide) (by decide)
  rw [h48.n]
  refine ⟨by unfold hx_big; omega, ?_⟩
  intro L49 eL49 m49 em49
  have h49 : ST 24 _ _ _ _ L49 m49 := h48.push eL49 em49
  refine ⟨h49.s (c := 21) (by decide), ?_⟩
  intro L50 eL50
  have h50 : ST 24 _ _ _ _ L50 _ := h49.ref eL50 (by decide) (by decide)
  rw [h50.n]
  refine ⟨by unfold hx_big; omega, ?_⟩
  intro L51 eL51 m51 em51
  have h51 : ST 25 _ _ _ _ L51 m51 := h50.push eL51 em51
  refine ⟨h51.s (c := 21) (by decide), ?_⟩
  intro L52 eL52
  have h52 : ST 25 _ _ _ _ L52 _ := h51.ref eL52 (by decide) (by decide)
  refine ⟨h52.s (c := 21) (by decide), ?_⟩
  have h53 := (h52.sI (c := 21) (j := 5) (v := 2) (by decide))
  refine ⟨h53.s (c := 7) (by decide), ?_⟩
  intro L54 eL54
  have h54 : ST 25 _ _ _ _ L54 _ := h53.ref eL54 (by decide) (by decide)
  refine ⟨h54.s (c := 7) (by decide), ?_⟩
  rw [h54.n]
  refine ⟨by unfold hx_big; omega, ?_⟩
  intro L55 eL55 m55 em55
  have h55 : ST 26 _ _ _ _ L55 m55 := ((((((h54.sI (c := 7) (j := 3) (v := 0) (by decide)).sI (c := 7) (j := 4) (v := 0) (by decide)).sI (c := 7) (j := 5) (v := 0) (by decide)).sL (c := 7) (j := 6) (v := 1) (by decide)).sI (c := 7) (j := 7) (v := 0) (by decide)).sI (c := 7) (j := 8) (v := 0) (by decide)).push eL55 em55
  refine ⟨h55.s (c := 7) (by decide), ?_⟩
  intro L56 eL56
  have h56 : ST 26 _ _ _ _ L56 _ := h55.ref eL56 (by decide) (by decide)
  rw [h56.n]
  refine ⟨by unfold hx_big; omega, ?_⟩
  intro L57 eL57 m57 em57
  have h57 : ST 27 _ _ _ _ L57 m57 := h56.push eL57 em57
  refine ⟨h57.s (c := 7) (by decide), ?_⟩
  intro L58 eL58
  have h58 : ST 27 _ _ _ _ L58 _ := h57.ref eL58 (by decide) (by decide)
  rw [h58.n]
  refine ⟨by unfold hx_big; omega, ?_⟩
  intro L59 eL59 m59 em59
  have h59 : ST 28 _ _ _ _ L59 m59 := h58.push eL59 em59
  refine ⟨h59.s (c := 7) (by decide), ?_⟩
  intro L60 eL60
  have h60 : ST 28 _ _ _ _ L60 _ := h59.ref eL60 (by decide) (by decide)
  refine ⟨h60.s (c := 0) (by decide), ?_⟩
  intro L61 eL61
  have h61 : ST 28 _ _ _ _ L61 _ := h60.ref eL61 (by decide) (by decide)
  rw [h61.n]
  refine ⟨by unfold hx_big; omega, ?_⟩
  intro L62 eL62 m62 em62
  have h62 : ST 29 _ _ _ _ L62 m62 := h61.push eL62 em62
  refine ⟨h62.s (c := 0) (by decide), ?_⟩
  refine ⟨7, h62.r (c := 0) (j := 7) (by decide), ?_⟩
  unfold wX9_init
  refine ⟨h62.s (c := 28) (by decide), ?_⟩
  intro L63 eL63
  have h63 : ST 29 _ _ _ _ L63 _ := h62.ref eL63 (by decide) (by decide)
  rw [h63.n]
  refine ⟨by unfold hx_big; omega, ?_⟩
  intro L64 eL64 m64 em64
  have h64 : ST 30 _ _ _ _ L64 m64 := h63.push eL64 em64
  unfold wX4_init
  refine ⟨h64.s (c := 29) (by decide), ?_⟩
  rw [h64.n]
  refine ⟨by unfold hx_big; omega, ?_⟩
  intro L65 eL65 m65 em65
  have h65 : ST 31 _ _ _ _ L65 m65 := (h64.sI (c := 29) (j := 0) (v := 0) (by decide)).push eL65 em65
  refine ⟨h65.s (c := 29) (by decide), ?_⟩
  intro L66 eL66
  have h66 : ST 31 _ _ _ _ L66 _ := h65.ref eL66 (by decide) (by decide)
  rw [h66.n]
  refine ⟨by unfold hx_big; omega, ?_⟩
  intro L67 eL67 m67 em67
  have h67 : ST 32 _ _ _ _ L67 m67 := h66.push eL67 em67
  refine ⟨h67.s (c := 29) (by decide), ?_⟩
  intro L68 eL68
  have h68 : ST 32 _ _ _ _ L68 _ := h67.ref eL68 (by decide) (by decide)
  rw [h68.n]
  refine ⟨by unfold hx_big; omega, ?_⟩
  intro L69 eL69 m69 em69
  have h69 : ST 33 _ _ _ _ L69 m69 := h68.push eL69 em69
  refine ⟨h69.s (c := 29) (by decide), ?_⟩
  intro L70 eL70
  have h70 : ST 33 _ _ _ _ L70 _ := h69.ref eL70 (by decide) (by decide)
  rw [h70.n]
  refine ⟨by unfold hx_big; omega, ?_⟩
  intro L71 eL71 m71 em71
  have h71 : ST 34 _ _ _ _ L71 m71 := h70.push eL71 em71
  refine ⟨h71.s (c := 29) (by decide), ?_⟩
  intro L72 eL72
  have h72 : ST 34 _ _ _ _ L72 _ := h71.ref eL72 (by decide) (by decide)
  rw [h72.n]
  refine ⟨by unfold hx_big; omega, ?_⟩
  intro L73 eL73 m73 em73
  have h73 : ST 35 _ _ _ _ L73 m73 := h72.push eL73 em73
  refine ⟨h73.s (c := 29) (by decide), ?_⟩
  intro L74 eL74
  have h74 : ST 35 _ _ _ _ L74 _ := h73.ref eL74 (by decide) (by decide)
  rw [h74.n]
  refine ⟨by unfold hx_big; omega, ?_⟩
  intro L75 eL75 m75 em75
  have h75 : ST 36 _ _ _ _ L75 m75 := h74.push eL75 em75
  refine ⟨h75.s (c := 29) (by decide), ?_⟩
  intro L76 eL76
  have h76 : ST 36 _ _ _ _ L76 _ := h75.ref eL76 (by decide) (by decide)
  refine ⟨h76.s (c := 28) (by decide), ?_⟩
  intro L77 eL77
  have h77 : ST 36 _ _ _ _ L77 _ := h76.ref eL77 (by decide) (by decide)
  refine ⟨h77.s (c := 0) (by decide), ?_⟩
  intro L78 eL78
  have h78 : ST 36 _ _ _ _ L78 _ := h77.ref eL78 (by decide) (by decide)
  rw [h78.n]
  refine ⟨by unfold hx_big; omega, ?_⟩
  intro L79 eL79 m79 em79
  have h79 : ST 37 _ _ _ _ L79 m79 := h78.push eL79 em79
  refine ⟨h79.s (c := 0) (by decide), ?_⟩
  refine ⟨7, h79.r (c := 0) (j := 7) (by decide), ?_⟩
  unfold wX0_init
  refine ⟨h79.s (c := 36) (by decide), ?_⟩
  intro L80 eL80
  have h80 : ST 37 _ _ _ _ L80 _ := h79.ref eL80 (by decide) (by decide)
  refine ⟨h80.s (c := 0) (by decide), ?_⟩
  intro L81 eL81
  have h81 : ST 37 _ _ _ _ L81 _ := h80.ref eL81 (by decide) (by decide)
  rw [h81.n]
  refine ⟨by unfold hx_big; omega, ?_⟩
  intro L82 eL82 m82 em82
  have h82 : ST 38 _ _ _ _ L82 m82 := h81.push eL82 em82
  refine ⟨h82.s (c := 0) (by decide), ?_⟩
  refine ⟨7, h82.r (c := 0) (j := 7) (by decide), ?_⟩
  unfold wX8_init
  refine ⟨h82.s (c := 37) (by decide), ?_⟩
  intro L83 eL83
  have h83 : ST 38 _ _ _ _ L83 _ := h82.ref eL83 (by decide) (by decide)
  rw [h83.n]
  refine ⟨by unfold hx_big; omega, ?_⟩
  intro L84 eL84 m84 em84
  have h84 : ST 39 _ _ _ _ L84 m84 := h83.push eL84 em84
  refine ⟨h84.s (c := 37) (by decide), ?_⟩
  intro L85 eL85
  have h85 : ST 39 _ _ _ _ L85 _ := h84.ref eL85 (by decide) (by decide)
  refine ⟨h85.s (c := 37) (by decide), ?_⟩
  have h86 := ((h85.sI (c := 37) (j := 2) (v := 0) (by decide)).sI (c := 37) (j := 3) (v := 0) (by decide))
  refine ⟨h86.s (c := 0) (by decide), ?_⟩
  intro L87 eL87
  have h87 : ST 39 _ _ _ _ L87 _ := h86.ref eL87 (by decide) (by decide)
  rw [h87.n]
  refine ⟨by unfold hx_big; omega, ?_⟩
  intro L88 eL88 m88 em88
  have h88 : ST 40 _ _ _ _ L88 m88 := h87.push eL88 em88
  refine ⟨h88.s (c := 0) (by decide), ?_⟩
  refine ⟨7, h88.r (c := 0) (j := 7) (by decide), ?_⟩
  unfold wX5_init
  refine ⟨h88.s (c := 39) (by decide), ?_⟩
  intro L89 eL89
  have h89 : ST 40 _ _ _ _ L89 _ := h88.ref eL89 (by decide) (by decide)
  refine ⟨h89.s (c := 39) (by decide), ?_⟩
  rw [h89.n]
  refine ⟨by unfold hx_big; omega, ?_⟩
  intro L90 eL90 m90 em90
  have h90 : ST 41 _ _ _ _ L90 m90 := (h89.sI (c := 39) (j := 1) (v := 0) (by decide)).push eL90 em90
  refine ⟨h90.s (c := 39) (by decide), ?_⟩
  intro L91 eL91
  have h91 : ST 41 _ _ _ _ L91 _ := h90.ref eL91 (by decide) (by decide)
  rw [h91.n]
  refine ⟨by unfold hx_big; omega, ?_⟩
  intro L92 eL92 m92 em92
  have h92 : ST 42 _ _ _ _ L92 m92 := h91.push eL92 em92
  refine ⟨h92.s (c := 39) (by decide), ?_⟩
  intro L93 eL93
  have h93 : ST 42 _ _ _ _ L93 _ := h92.ref eL93 (by decide) (by decide)
  rw [h93.n]
  refine ⟨by unfold hx_big; omega, ?_⟩
  intro L94 eL94 m94 em94
  have h94 : ST 43 _ _ _ _ L94 m94 := h93.push eL94 em94
  refine ⟨h94.s (c := 39) (by decide), ?_⟩
  intro L95 eL95
  have h95 : ST 43 _ _ _ _ L95 _ := h94.ref eL95 (by decide) (by decide)
  refine ⟨h95.s (c := 0) (by decide), ?_⟩
  intro L96 eL96
  have h96 : ST 43 _ _ _ _ L96 _ := h95.ref eL96 (by decide) (by decide)
  rw [h96.n]
  refine ⟨by unfold hx_big; omega, ?_⟩
  intro L97 eL97 m97 em97
  have h97 : ST 44 _ _ _ _ L97 m97 := h96.push eL97 em97
  refine ⟨h97.s (c := 0) (by decide), ?_⟩
  refine ⟨7, h97.r (c := 0) (j := 7) (by decide), ?_⟩
  unfold wX7_init
  refine ⟨h97.s (c := 43) (by decide), ?_⟩
  intro L98 eL98
  have h98 : ST 44 _ _ _ _ L98 _ := h97.ref eL98 (by decide) (by decide)
  rw [h98.n]
  refine ⟨by unfold hx_big; omega, ?_⟩
  intro L99 eL99 m99 em99
  have h99 : ST 45 _ _ _ _ L99 m99 := h98.push eL99 em99
  refine ⟨h99.s (c := 43) (by decide), ?_⟩
  intro L100 eL100
  have h100 : ST 45 _ _ _ _ L100 _ := h99.ref eL100 (by decide) (by decide)
  rw [h100.n]
  refine ⟨by unfold hx_big; omega, ?_⟩
  intro L101 eL101 m101 em101
  have h101 : ST 46 _ _ _ _ L101 m101 := h100.push eL101 em101
  refine ⟨h101.s (c := 43) (by decide), ?_⟩
  intro L102 eL102
  have h102 : ST 46 _ _ _ _ L102 _ := h101.ref eL102 (by decide) (by decide)
  rw [h102.n]
  refine ⟨by unfold hx_big; omega, ?_⟩
  intro L103 eL103 m103 em103
  have h103 : ST 47 _ _ _ _ L103 m103 := h102.push eL103 em103
  refine ⟨h103.s (c := 43) (by decide), ?_⟩
  intro L104 eL104
  have h104 : ST 47 _ _ _ _ L104 _ := h103.ref eL104 (by decide) (by decide)
  rw [h104.n]
  refine ⟨by unfold hx_big; omega, ?_⟩
  intro L105 eL105 m105 em105
  have h105 : ST 48 _ _ _ _ L105 m105 := h104.push eL105 em105
  refine ⟨h105.s (c := 43) (by decide), ?_⟩
  intro L106 eL106
  have h106 : ST 48 _ _ _ _ L106 _ := h105.ref eL106 (by decide) (by decide)
  refine ⟨h106.s (c := 43) (by decide), ?_⟩
  have h107 := (h106.sI (c := 43) (j := 5) (v := 0) (by decide))
  refine ⟨h107.s (c := 0) (by decide), ?_⟩
  intro L108 eL108
  have h108 : ST 48 _ _ _ _ L108 _ := h107.ref eL108 (by decide) (by decide)
  rw [h108.n]
  refine ⟨by unfold hx_big; omega, ?_⟩
  intro L109 eL109 m109 em109
  have h109 : ST 49 _ _ _ _ L109 m109 := h108.push eL109 em109
  refine ⟨h109.s (c := 0) (by decide), ?_⟩
  intro L110 eL110
  have h110 : ST 49 _ _ _ _ L110 _ := h109.ref eL110 (by decide) (by decide)
  refine ⟨h110.s (c := 0) (by decide), ?_⟩
  have h111 := (h110.sI (c := 0) (j := 14) (v := 0) (by decide))
  refine ⟨h111.n, ?_⟩
  have h112 : ST 50 _ _ _ _ _ _ := h111.push (s := (0, 12)) rfl rfl
  unfold wX12_init
  refine ⟨h112.s (c := 49) (by decide), ?_⟩
  rw [h112.n]
  refine ⟨by unfold hx_big; omega, ?_⟩
  intro L113 eL113 m113 em113
  have h113 : ST 51 _ _ _ _ L113 m113 := (h112.sL (c := 49) (j := 6) (v := 1) (by decide)).push eL113 em113
  refine ⟨h113.s (c := 49) (by decide), ?_⟩
  intro L114 eL114
  have h114 : ST 51 _ _ _ _ L114 _ := h113.ref eL114 (by decide) (by decide)
  rw [h114.n]
  refine ⟨by unfold hx_big; omega, ?_⟩
  intro L115 eL115 m115 em115
  have h115 : ST 52 _ _ _ _ L115 m115 := h114.push eL115 em115
  refine ⟨h115.s (c := 49) (by decide), ?_⟩
  intro L116 eL116
  have h116 : ST 52 _ _ _ _ L116 _ := h115.ref eL116 (by decide) (by decide)
  rw [h116.n]
  refine ⟨by unfold hx_big; omega, ?_⟩
  intro L117 eL117 m117 em117
  have h117 : ST 53 _ _ _ _ L117 m117 := h116.push eL117 em117
  refine ⟨h117.s (c := 49) (by decide), ?_⟩
  intro L118 eL118
  have h118 : ST 53 _ _ _ _ L118 _ := h117.ref eL118 (by decide) (by decide)
  rw [h118.n]
  refine ⟨by unfold hx_big; omega, ?_⟩
  intro L119 eL119 m119 em119
  have h119 : ST 54 _ _ _ _ L119 m119 := h118.push eL119 em119
  refine ⟨h119.s (c := 49) (by decide), ?_⟩
  intro L120 eL120
  have h120 : ST 54 _ _ _ _ L120 _ := h119.ref eL120 (by decide) (by decide)
  rw [h120.n]
  refine ⟨by unfold hx_big; omega, ?_⟩
  intro L121 eL121 m121 em121
  have h121 : ST 55 _ _ _ _ L121 m121 := h120.push eL121 em121
  refine ⟨h121.s (c := 49) (by decide), ?_⟩
  intro L122 eL122
  have h122 : ST 55 _ _ _ _ L122 _ := h121.ref eL122 (by decide) (by decide)
  rw [h122.n]
  refine ⟨by unfold hx_big; omega, ?_⟩
  intro L123 eL123 m123 em123
  have h123 : ST 56 _ _ _ _ L123 m123 := h122.push eL123 em123
  refine ⟨4, h123.s (c := 55) (by decide), by unfold vp_in; decide, by unfold vp_in; decide, by unfold vp_in; decide, ?_⟩
  rintro m124 rfl
  have h124 := (((h123.sI (c := 55) (j := ((0 : Int32).toNatClampNeg)) (v := (-1)) (by decide)).sI (c := 55) (j := ((1 : Int32).toNatClampNeg)) (v := (-1)) (by decide)).sI (c := 55) (j := ((2 : Int32).toNatClampNeg)) (v := (-1)) (by decide))
  refine ⟨by unfold vp_in; decide, ?_⟩
  refine ⟨h124.s (c := 49) (by decide), ?_⟩
  intro L125 eL125
  have h125 : ST 56 _ _ _ _ L125 _ := h124.ref eL125 (by decide) (by decide)
  rw [h125.n]
  refine ⟨by unfold hx_big; omega, ?_⟩
  intro L126 eL126 m126 em126
  have h126 : ST 57 _ _ _ _ L126 m126 := (h125.sI (c := 55) (j := ((3 : Int32).toNatClampNeg)) (v := (-1)) (by decide)).push eL126 em126
  refine ⟨h126.s (c := 49) (by decide), ?_⟩
  intro L127 eL127
  have h127 : ST 57 _ _ _ _ L127 _ := h126.ref eL127 (by decide) (by decide)
  rw [h127.n]
  refine ⟨by unfold hx_big; omega, ?_⟩
  intro L128 eL128 m128 em128
  have h128 : ST 58 _ _ _ _ L128 m128 := h127.push eL128 em128
  refine ⟨h128.s (c := 49) (by decide), ?_⟩
  intro L129 eL129
  have h129 : ST 58 _ _ _ _ L129 _ := h128.ref eL129 (by decide) (by decide)
  rw [h129.n]
  refine ⟨by unfold hx_big; omega, ?_⟩
  intro L130 eL130 m130 em130
  have h130 : ST 59 _ _ _ _ L130 m130 := h129.push eL130 em130
  refine ⟨h130.s (c := 49) (by decide), ?_⟩
  intro L131 eL131
  have h131 : ST 59 _ _ _ _ L131 _ := h130.ref eL131 (by decide) (by decide)
  rw [h131.n]
  refine ⟨by unfold hx_big; omega, ?_⟩
  intro L132 eL132 m132 em132
  have h132 : ST 60 _ _ _ _ L132 m132 := h131.push eL132 em132
  refine ⟨h132.s (c := 49) (by decide), ?_⟩
  intro L133 eL133
  have h133 : ST 60 _ _ _ _ L133 _ := h132.ref eL133 (by decide) (by decide)
  rw [h133.n]
  refine ⟨by unfold hx_big; omega, ?_⟩
  intro L134 eL134 m134 em134
  have h134 : ST 61 _ _ _ _ L134 m134 := h133.push eL134 em134
  refine ⟨h134.s (c := 49) (by decide), ?_⟩
  intro L135 eL135
  have h135 : ST 61 _ _ _ _ L135 _ := h134.ref eL135 (by decide) (by decide)
  rw [h135.n]
  refine ⟨by unfold hx_big; omega, ?_⟩
  intro L136 eL136 m136 em136
  have h136 : ST 62 _ _ _ _ L136 m136 := h135.push eL136 em136
  refine ⟨h136.s (c := 49) (by decide), ?_⟩
  intro L137 eL137
  have h137 : ST 62 _ _ _ _ L137 _ := h136.ref eL137 (by decide) (by decide)
  rw [h137.n]
  refine ⟨by unfold hx_big; omega, ?_⟩
  intro L138 eL138 m138 em138
  have h138 : ST 63 _ _ _ _ L138 m138 := h137.push eL138 em138
  refine ⟨h138.s (c := 49) (by decide), ?_⟩
  intro L139 eL139
  have h139 : ST 63 _ _ _ _ L139 _ := h138.ref eL139 (by decide) (by decide)
  refine ⟨h139.s (c := 49) (by decide), ?_⟩
  rw [h139.n]
  refine ⟨by unfold hx_big; omega, ?_⟩
  intro L140 eL140 m140 em140
  have h140 : ST 64 _ _ _ _ L140 m140 := ((h139.sI (c := 49) (j := 21) (v := (-1)) (by decide)).sI (c := 49) (j := 27) (v := (-1)) (by decide)).push eL140 em140
  refine ⟨h140.s (c := 49) (by decide), ?_⟩
  intro L141 eL141
  have h141 : ST 64 _ _ _ _ L141 _ := h140.ref eL141 (by decide) (by decide)
  rw [h141.n]
  refine ⟨by unfold hx_big; omega, ?_⟩
  intro L142 eL142 m142 em142
  have h142 : ST 65 _ _ _ _ L142 m142 := h141.push eL142 em142
  refine ⟨h142.s (c := 49) (by decide), ?_⟩
  intro L143 eL143
  have h143 : ST 65 _ _ _ _ L143 _ := h142.ref eL143 (by decide) (by decide)
  rw [h143.n]
  refine ⟨by unfold hx_big; omega, ?_⟩
  intro L144 eL144 m144 em144
  have h144 : ST 66 _ _ _ _ L144 m144 := h143.push eL144 em144
  refine ⟨h144.s (c := 49) (by decide), ?_⟩
  intro L145 eL145
  have h145 : ST 66 _ _ _ _ L145 _ := h144.ref eL145 (by decide) (by decide)
  rw [h145.n]
  refine ⟨by unfold hx_big; omega, ?_⟩
  intro L146 eL146 m146 em146
  have h146 : ST 67 _ _ _ _ L146 m146 := h145.push eL146 em146
  refine ⟨h146.s (c := 49) (by decide), ?_⟩
  intro L147 eL147
  have h147 : ST 67 _ _ _ _ L147 _ := h146.ref eL147 (by decide) (by decide)
  rw [h147.n]
  refine ⟨by unfold hx_big; omega, ?_⟩
  intro L148 eL148 m148 em148
  have h148 : ST 68 _ _ _ _ L148 m148 := h147.push eL148 em148
  refine ⟨h148.s (c := 49) (by decide), ?_⟩
  intro L149 eL149
  have h149 : ST 68 _ _ _ _ L149 _ := h148.ref eL149 (by decide) (by decide)
  rw [h149.n]
  refine ⟨by unfold hx_big; omega, ?_⟩
  intro L150 eL150 m150 em150
  have h150 : ST 69 _ _ _ _ L150 m150 := h149.push eL150 em150
  refine ⟨h150.s (c := 49) (by decide), ?_⟩
  intro L151 eL151
  have h151 : ST 69 _ _ _ _ L151 _ := h150.ref eL151 (by decide) (by decide)
  rw [h151.n]
  refine ⟨by unfold hx_big; omega, ?_⟩
  intro L152 eL152 m152 em152
  have h152 : ST 70 _ _ _ _ L152 m152 := h151.push eL152 em152
  refine ⟨h152.s (c := 49) (by decide), ?_⟩
  intro L153 eL153
  have h153 : ST 70 _ _ _ _ L153 _ := h152.ref eL153 (by decide) (by decide)
  rw [h153.n]
  refine ⟨by unfold hx_big; omega, ?_⟩
  intro L154 eL154 m154 em154
  have h154 : ST 71 _ _ _ _ L154 m154 := h153.push eL154 em154
  refine ⟨h154.s (c := 49) (by decide), ?_⟩
  intro L155 eL155
  have h155 : ST 71 _ _ _ _ L155 _ := h154.ref eL155 (by decide) (by decide)
  rw [h155.n]
  refine ⟨by unfold hx_big; omega, ?_⟩
  intro L156 eL156 m156 em156
  have h156 : ST 72 _ _ _ _ L156 m156 := h155.push eL156 em156
  refine ⟨h156.s (c := 49) (by decide), ?_⟩
  intro L157 eL157
  have h157 : ST 72 _ _ _ _ L157 _ := h156.ref eL157 (by decide) (by decide)
  rw [h157.n]
  refine ⟨by unfold hx_big; omega, ?_⟩
  intro L158 eL158 m158 em158
  have h158 : ST 73 _ _ _ _ L158 m158 := h157.push eL158 em158
  refine ⟨h158.s (c := 49) (by decide), ?_⟩
  intro L159 eL159
  have h159 : ST 73 _ _ _ _ L159 _ := h158.ref eL159 (by decide) (by decide)
  rw [h159.n]
  refine ⟨by unfold hx_big; omega, ?_⟩
  intro L160 eL160 m160 em160
  have h160 : ST 74 _ _ _ _ L160 m160 := h159.push eL160 em160
  refine ⟨h160.s (c := 49) (by decide), ?_⟩
  intro L161 eL161
  have h161 : ST 74 _ _ _ _ L161 _ := h160.ref eL161 (by decide) (by decide)
  rw [h161.n]
  refine ⟨by unfold hx_big; omega, ?_⟩
  intro L162 eL162 m162 em162
  have h162 : ST 75 _ _ _ _ L162 m162 := h161.push eL162 em162
  refine ⟨h162.s (c := 49) (by decide), ?_⟩
  intro L163 eL163
  have h163 : ST 75 _ _ _ _ L163 _ := h162.ref eL163 (by decide) (by decide)
  rw [h163.n]
  refine ⟨by unfold hx_big; omega, ?_⟩
  intro L164 eL164 m164 em164
  have h164 : ST 76 _ _ _ _ L164 m164 := h163.push eL164 em164
  refine ⟨h164.s (c := 49) (by decide), ?_⟩
  intro L165 eL165
  have h165 : ST 76 _ _ _ _ L165 _ := h164.ref eL165 (by decide) (by decide)
  rw [h165.n]
  refine ⟨by unfold hx_big; omega, ?_⟩
  intro L166 eL166 m166 em166
  have h166 : ST 77 _ _ _ _ L166 m166 := h165.push eL166 em166
  refine ⟨h166.s (c := 49) (by decide), ?_⟩
  intro L167 eL167
  have h167 : ST 77 _ _ _ _ L167 _ := h166.ref eL167 (by decide) (by decide)
  rw [h167.n]
  refine ⟨by unfold hx_big; omega, ?_⟩
  intro L168 eL168 m168 em168
  have h168 : ST 78 _ _ _ _ L168 m168 := h167.push eL168 em168
  refine ⟨h168.s (c := 49) (by decide), ?_⟩
  intro L169 eL169
  have h169 : ST 78 _ _ _ _ L169 _ := h168.ref eL169 (by decide) (by decide)
  rw [h169.n]
  refine ⟨by unfold hx_big; omega, ?_⟩
  intro L170 eL170 m170 em170
  have h170 : ST 79 _ _ _ _ L170 m170 := h169.push eL170 em170
  refine ⟨h170.s (c := 49) (by decide), ?_⟩
  intro L171 eL171
  have h171 : ST 79 _ _ _ _ L171 _ := h170.ref eL171 (by decide) (by decide)
  rw [h171.n]
  refine ⟨by unfold hx_big; omega, ?_⟩
  intro L172 eL172 m172 em172
  have h172 : ST 80 _ _ _ _ L172 m172 := h171.push eL172 em172
  refine ⟨h172.s (c := 49) (by decide), ?_⟩
  intro L173 eL173
  have h173 : ST 80 _ _ _ _ L173 _ := h172.ref eL173 (by decide) (by decide)
  rw [h173.n]
  refine ⟨by unfold hx_big; omega, ?_⟩
  intro L174 eL174 m174 em174
  have h174 : ST 81 _ _ _ _ L174 m174 := h173.push eL174 em174
  refine ⟨h174.s (c := 49) (by decide), ?_⟩
  intro L175 eL175
  have h175 : ST 81 _ _ _ _ L175 _ := h174.ref eL175 (by decide) (by decide)
  rw [h175.n]
  refine ⟨by unfold hx_big; omega, ?_⟩
  intro L176 eL176 m176 em176
  have h176 : ST 82 _ _ _ _ L176 m176 := h175.push eL176 em176
  refine ⟨h176.s (c := 49) (by decide), ?_⟩
  intro L177 eL177
  have h177 : ST 82 _ _ _ _ L177 _ := h176.ref eL177 (by decide) (by decide)
  rw [h177.n]
  refine ⟨by unfold hx_big; omega, ?_⟩
  intro L178 eL178 m178 em178
  have h178 : ST 83 _ _ _ _ L178 m178 := h177.push eL178 em178
  refine ⟨h178.s (c := 49) (by decide), ?_⟩
  intro L179 eL179
  have h179 : ST 83 _ _ _ _ L179 _ := h178.ref eL179 (by decide) (by decide)
  rw [h179.n]
  refine ⟨by unfold hx_big; omega, ?_⟩
  intro L180 eL180 m180 em180
  have h180 : ST 84 _ _ _ _ L180 m180 := h179.push eL180 em180
  refine ⟨h180.s (c := 49) (by decide), ?_⟩
  intro L181 eL181
  have h181 : ST 84 _ _ _ _ L181 _ := h180.ref eL181 (by decide) (by decide)
  rw [h181.n]
  refine ⟨by unfold hx_big; omega, ?_⟩
  intro L182 eL182 m182 em182
  have h182 : ST 85 _ _ _ _ L182 m182 := h181.push eL182 em182
  refine ⟨h182.s (c := 49) (by decide), ?_⟩
  intro L183 eL183
  have h183 : ST 85 _ _ _ _ L183 _ := h182.ref eL183 (by decide) (by decide)
  rw [h183.n]
  refine ⟨by unfold hx_big; omega, ?_⟩
  intro L184 eL184 m184 em184
  have h184 : ST 86 _ _ _ _ L184 m184 := h183.push eL184 em184
  refine ⟨h184.s (c := 49) (by decide), ?_⟩
  intro L185 eL185
  have h185 : ST 86 _ _ _ _ L185 _ := h184.ref eL185 (by decide) (by decide)
  rw [h185.n]
  refine ⟨by unfold hx_big; omega, ?_⟩
  intro L186 eL186 m186 em186
  have h186 : ST 87 _ _ _ _ L186 m186 := h185.push eL186 em186
  refine ⟨h186.s (c := 49) (by decide), ?_⟩
  intro L187 eL187
  have h187 : ST 87 _ _ _ _ L187 _ := h186.ref eL187 (by decide) (by decide)
  rw [h187.n]
  refine ⟨by unfold hx_big; omega, ?_⟩
  intro L188 eL188 m188 em188
  have h188 : ST 88 _ _ _ _ L188 m188 := h187.push eL188 em188
  refine ⟨h188.s (c := 49) (by decide), ?_⟩
  intro L189 eL189
  have h189 : ST 88 _ _ _ _ L189 _ := h188.ref eL189 (by decide) (by decide)
  rw [h189.n]
  refine ⟨by unfold hx_big; omega, ?_⟩
  intro L190 eL190 m190 em190
  have h190 : ST 89 _ _ _ _ L190 m190 := h189.push eL190 em190
  refine ⟨h190.s (c := 49) (by decide), ?_⟩
  intro L191 eL191
  have h191 : ST 89 _ _ _ _ L191 _ := h190.ref eL191 (by decide) (by decide)
  rw [h191.n]
  refine ⟨by unfold hx_big; omega, ?_⟩
  intro L192 eL192 m192 em192
  have h192 : ST 90 _ _ _ _ L192 m192 := h191.push eL192 em192
  refine ⟨h192.s (c := 49) (by decide), ?_⟩
  intro L193 eL193
  have h193 : ST 90 _ _ _ _ L193 _ := h192.ref eL193 (by decide) (by decide)
  rw [h193.n]
  refine ⟨by unfold hx_big; omega, ?_⟩
  intro L194 eL194 m194 em194
  have h194 : ST 91 _ _ _ _ L194 m194 := h193.push eL194 em194
  refine ⟨h194.s (c := 49) (by decide), ?_⟩
  intro L195 eL195
  have h195 : ST 91 _ _ _ _ L195 _ := h194.ref eL195 (by decide) (by decide)
  rw [h195.n]
  refine ⟨by unfold hx_big; omega, ?_⟩
  intro L196 eL196 m196 em196
  have h196 : ST 92 _ _ _ _ L196 m196 := h195.push eL196 em196
  refine ⟨h196.s (c := 49) (by decide), ?_⟩
  intro L197 eL197
  have h197 : ST 92 _ _ _ _ L197 _ := h196.ref eL197 (by decide) (by decide)
  rw [h197.n]
  refine ⟨by unfold hx_big; omega, ?_⟩
  intro L198 eL198 m198 em198
  have h198 : ST 93 _ _ _ _ L198 m198 := h197.push eL198 em198
  refine ⟨h198.s (c := 49) (by decide), ?_⟩
  intro L199 eL199
  have h199 : ST 93 _ _ _ _ L199 _ := h198.ref eL199 (by decide) (by decide)
  refine ⟨h199.cF (by decide +kernel) (by decide +kernel) (by decide), h199.mF (by decide +kernel) (by decide +kernel) (by decide), h199.v (by decide) (by decide +kernel), h0_w, [], none, [], WF_0, ?_, ?_, ?_, ?_, ?_⟩
  · refine ⟨⟨h199.v (by decide) (by decide +kernel), h199.v (by decide) (by decide +kernel), h199.v (by decide) (by decide +kernel)⟩, ⟨h199.v (by decide) (by decide +kernel), h199.v (by decide) (by decide +kernel), h199.v (by decide) (by decide +kernel), h199.l (by decide +kernel)⟩, fun p hp => absurd hp (Nat.not_lt_zero _), fun k hk => absurd hk (Nat.not_lt_zero _), fun t p _ hp => absurd hp (Nat.not_lt_zero _), fun t ht => ?_, fun t p _ _ hp => absurd hp (Nat.not_lt_zero _), fun t q ht hq => ?_, fun t ht => ?_, fun k hk => absurd hk (Nat.not_lt_zero _)⟩
    · obtain rfl : t = 0 := Nat.le_zero.mp ht
      exact h199.v (by decide) (by decide +kernel)
    · obtain rfl : t = 0 := Nat.le_zero.mp ht
      show _ = (-1 : Int32)
      have hq4 : q = 0 ∨ q = 1 ∨ q = 2 ∨ q = 3 := by omega
      rcases hq4 with rfl | rfl | rfl | rfl
      · exact h199.v (by decide) (by decide +kernel)
      · exact h199.v (by decide) (by decide +kernel)
      · exact h199.v (by decide) (by decide +kernel)
      · exact h199.v (by decide) (by decide +kernel)
    · obtain rfl : t = 0 := Nat.le_zero.mp ht
      exact h199.v (by decide) (by decide +kernel)
  · refine ⟨⟨h199.v (by decide) (by decide +kernel), h199.v (by decide) (by decide +kernel), h199.v (by decide) (by decide +kernel)⟩, ⟨h199.v (by decide) (by decide +kernel), h199.v (by decide) (by decide +kernel), h199.v (by decide) (by decide +kernel), h199.l (by decide +kernel)⟩, fun p hp => absurd hp (Nat.not_lt_zero _), fun k hk => absurd hk (Nat.not_lt_zero _), fun t p _ hp => absurd hp (Nat.not_lt_zero _), fun t p _ _ hp => absurd hp (Nat.not_lt_zero _), fun q hq => ?_, fun t q ht => absurd ht (Nat.not_lt_zero _), h199.v (by decide) (by decide +kernel), fun t ht => absurd ht (Nat.not_lt_zero _), fun k hk => absurd hk (Nat.not_lt_zero _)⟩
    show _ = (-1 : Int32)
    have hq4 : q = 0 ∨ q = 1 ∨ q = 2 ∨ q = 3 := by omega
    rcases hq4 with rfl | rfl | rfl | rfl
    · exact h199.v (by decide) (by decide +kernel)
    · exact h199.v (by decide) (by decide +kernel)
    · exact h199.v (by decide) (by decide +kernel)
    · exact h199.v (by decide) (by decide +kernel)
  · refine ⟨⟨0, by omega, h199.v (by decide) (by decide +kernel), h199.v (by decide) (by decide +kernel), fun j hj => absurd hj (Nat.not_lt_zero _)⟩, ?_, 0, by omega, h199.v (by decide) (by decide +kernel), h199.v (by decide) (by decide +kernel), fun k hk => absurd hk (Nat.not_lt_zero _)⟩
    rw [h199.v (c := 0) (j := 6) (v := -1) (by decide) (by decide +kernel), h199.v (c := 49) (j := 27) (v := -1) (by decide) (by decide +kernel)]
  · refine ⟨by decide, h199.v (by decide) (by decide +kernel), h199.v (by decide) (by decide +kernel), ⟨rfl, h199.v (by decide) (by decide +kernel), h199.v (by decide) (by decide +kernel)⟩, 0, by decide, h199.v (by decide) (by decide +kernel), fun k l hk => by simp at hk⟩
  · refine ⟨⟨by decide, h199.v (by decide) (by decide +kernel), h199.v (by decide) (by decide +kernel), fun i a hi => by simp at hi⟩, ?_⟩
    rw [h199.n]
    decide
