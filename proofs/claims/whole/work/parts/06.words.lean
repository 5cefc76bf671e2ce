theorem hx_in_of {ws : List Cond} (ps : List Nat) (h : ws = ps.filterMap (fun i => lw_tbl[i]?)) (hg : ws.all goodWord = true) : ∀ w ∈ ws, w ∈ hx_tbl := by
  intro w hw
  have h1 := List.all_eq_true.mp hg w hw
  rw [h] at hw
  obtain ⟨i, -, hi⟩ := List.mem_filterMap.mp hw
  exact hx_tbl_in hi h1
def hx_dt (c : ByteArray) (t : List (Nat × Instr × Nat)) : Bool := t.all fun q => match decode c q.1 with
  | .ok (i, n) => decide (i = q.2.1) && decide (n = q.2.2)
  | _ => false
theorem hx_dq {c : ByteArray} {t : List (Nat × Instr × Nat)} (h : hx_dt c t = true) (k : Nat) {pc n : Nat} {i : Instr} (hk : t[k]? = some (pc, i, n)) : decode c pc = .ok (i, n) := by
  have h1 := List.all_eq_true.mp h _ (List.mem_of_getElem? hk)
  dsimp only at h1
  split at h1
  · rename_i i' n' e
    simp only [Bool.and_eq_true, decide_eq_true_eq] at h1
    rw [e, h1.1, h1.2]
  · cases h1
theorem hx_nb {r : Int32} (h : r = 0 ∨ r = 1) : narrow .boolean (.int r) = .int r := by rcases h with rfl | rfl <;> rfl

theorem hx_sw6 (x : Int32) (h1 : ¬ x.toInt < 0) (h2 : ¬ 6 < x.toInt) : x = 0 ∨ x = 1 ∨ x = 2 ∨ x = 3 ∨ x = 4 ∨ x = 5 ∨ x = 6 := by
  have e : ∀ y : Int32, x.toInt = y.toInt → x = y := fun y h => Int32.toInt_inj.mp h
  have h3 : x.toInt = 0 ∨ x.toInt = 1 ∨ x.toInt = 2 ∨ x.toInt = 3 ∨ x.toInt = 4 ∨ x.toInt = 5 ∨ x.toInt = 6 := by omega
  rcases h3 with h | h | h | h | h | h | h
  · exact Or.inl (e 0 (h.trans (by decide)))
  · exact Or.inr (Or.inl (e 1 (h.trans (by decide))))
  · exact Or.inr (Or.inr (Or.inl (e 2 (h.trans (by decide)))))
  · exact Or.inr (Or.inr (Or.inr (Or.inl (e 3 (h.trans (by decide))))))
  · exact Or.inr (Or.inr (Or.inr (Or.inr (Or.inl (e 4 (h.trans (by decide)))))))
  · exact Or.inr (Or.inr (Or.inr (Or.inr (Or.inr (Or.inl (e 5 (h.trans (by decide))))))))
  · exact Or.inr (Or.inr (Or.inr (Or.inr (Or.inr (Or.inr ((e 6 (h.trans (by decide)))))))))
theorem hx_sw9 (x : Int32) (h1 : ¬ x.toInt < 0) (h2 : ¬ 9 < x.toInt) : x = 0 ∨ x = 1 ∨ x = 2 ∨ x = 3 ∨ x = 4 ∨ x = 5 ∨ x = 6 ∨ x = 7 ∨ x = 8 ∨ x = 9 := by
  have e : ∀ y : Int32, x.toInt = y.toInt → x = y := fun y h => Int32.toInt_inj.mp h
  have h3 : x.toInt = 0 ∨ x.toInt = 1 ∨ x.toInt = 2 ∨ x.toInt = 3 ∨ x.toInt = 4 ∨ x.toInt = 5 ∨ x.toInt = 6 ∨ x.toInt = 7 ∨ x.toInt = 8 ∨ x.toInt = 9 := by omega
  rcases h3 with h | h | h | h | h | h | h | h | h | h
  · exact Or.inl (e 0 (h.trans (by decide)))
  · exact Or.inr (Or.inl (e 1 (h.trans (by decide))))
  · exact Or.inr (Or.inr (Or.inl (e 2 (h.trans (by decide)))))
  · exact Or.inr (Or.inr (Or.inr (Or.inl (e 3 (h.trans (by decide))))))
  · exact Or.inr (Or.inr (Or.inr (Or.inr (Or.inl (e 4 (h.trans (by decide)))))))
  · exact Or.inr (Or.inr (Or.inr (Or.inr (Or.inr (Or.inl (e 5 (h.trans (by decide))))))))
  · exact Or.inr (Or.inr (Or.inr (Or.inr (Or.inr (Or.inr (Or.inl (e 6 (h.trans (by decide)))))))))
  · exact Or.inr (Or.inr (Or.inr (Or.inr (Or.inr (Or.inr (Or.inr (Or.inl (e 7 (h.trans (by decide))))))))))
  · exact Or.inr (Or.inr (Or.inr (Or.inr (Or.inr (Or.inr (Or.inr (Or.inr (Or.inl (e 8 (h.trans (by decide)))))))))))
  · exact Or.inr (Or.inr (Or.inr (Or.inr (Or.inr (Or.inr (Or.inr (Or.inr (Or.inr ((e 9 (h.trans (by decide))))))))))))
theorem mw_0 : Cond.selects RX11 yX11_putOnTape yX11_putOnTape ∈ hx_tbl := hx_tbl_in (i := 0) (by decide +kernel) rfl
theorem mw_7 : Cond.selects RX2 yX2_put yX2_put ∈ hx_tbl := hx_tbl_in (i := 7) (by decide +kernel) rfl
theorem mw_9 : Cond.selects RX2 yX2_readNumber yX2_readNumber ∈ hx_tbl := hx_tbl_in (i := 9) (by decide +kernel) rfl
theorem mw_15 : Cond.selects RX11 yX11_lawInForce yX11_lawInForce ∈ hx_tbl := hx_tbl_in (i := 15) (by decide +kernel) rfl
theorem mw_16 : Cond.selects RX10 yX10_dress yX10_dress ∈ hx_tbl := hx_tbl_in (i := 16) (by decide +kernel) rfl
theorem mw_17 : Cond.selects RX6 yX6_wishByRules yX6_wishByRules ∈ hx_tbl := hx_tbl_in (i := 17) (by decide +kernel) rfl
theorem mw_18 : Cond.selects RX6 yX6_holds yX6_holds ∈ hx_tbl := hx_tbl_in (i := 18) (by decide +kernel) rfl
theorem mw_19 : Cond.selects RX6 yX6_meanOf yX6_meanOf ∈ hx_tbl := hx_tbl_in (i := 19) (by decide +kernel) rfl
theorem mw_20 : Cond.selects RX6 yX6_goal yX6_goal ∈ hx_tbl := hx_tbl_in (i := 20) (by decide +kernel) rfl
theorem mw_21 : Cond.selects RX10 yX10_pays yX10_pays ∈ hx_tbl := hx_tbl_in (i := 21) (by decide +kernel) rfl
theorem mw_22 : Cond.selects RX9 yX9_sameBefore yX9_sameBefore ∈ hx_tbl := hx_tbl_in (i := 22) (by decide +kernel) rfl
theorem mw_23 : Cond.selects RX0 yX0_isLed yX0_isLed ∈ hx_tbl := hx_tbl_in (i := 23) (by decide +kernel) rfl
theorem mw_24 : Cond.selects RX0 yX0_isAlone yX0_isAlone ∈ hx_tbl := hx_tbl_in (i := 24) (by decide +kernel) rfl
theorem mw_25 : Cond.selects RX0 yX0_endOf yX0_endOf ∈ hx_tbl := hx_tbl_in (i := 25) (by decide +kernel) rfl
theorem mw_26 : Cond.selects RX4 yX4_withNeighbours yX4_withNeighbours ∈ hx_tbl := hx_tbl_in (i := 26) (by decide +kernel) rfl
theorem mw_27 : Cond.selects RX8 yX8_isFollowed yX8_isFollowed ∈ hx_tbl := hx_tbl_in (i := 27) (by decide +kernel) rfl
theorem mw_28 : Cond.selects RX8 yX8_isShown yX8_isShown ∈ hx_tbl := hx_tbl_in (i := 28) (by decide +kernel) rfl
theorem mw_29 : Cond.selects RX8 yX8_chooseIn yX8_chooseIn ∈ hx_tbl := hx_tbl_in (i := 29) (by decide +kernel) rfl
theorem mw_30 : Cond.selects RX5 yX5_isWithinWorn yX5_isWithinWorn ∈ hx_tbl := hx_tbl_in (i := 30) (by decide +kernel) rfl
theorem mw_31 : Cond.selects RX7 yX7_beyond yX7_beyond ∈ hx_tbl := hx_tbl_in (i := 31) (by decide +kernel) rfl
theorem mw_32 : Cond.selects RX7 yX7_leastBehind yX7_leastBehind ∈ hx_tbl := hx_tbl_in (i := 32) (by decide +kernel) rfl
theorem mw_33 : Cond.selects RX7 yX7_between yX7_between ∈ hx_tbl := hx_tbl_in (i := 33) (by decide +kernel) rfl
theorem mw_34 : Cond.selects RX7 yX7_leastFrom yX7_leastFrom ∈ hx_tbl := hx_tbl_in (i := 34) (by decide +kernel) rfl
theorem mw_35 : Cond.selects RX7 yX7_upTo yX7_upTo ∈ hx_tbl := hx_tbl_in (i := 35) (by decide +kernel) rfl
theorem mw_36 : Cond.selects RX11 yX11_lawReadingBest yX11_lawReadingBest ∈ hx_tbl := hx_tbl_in (i := 36) (by decide +kernel) rfl
theorem mw_37 : Cond.selects RX12 yX12_isPerson yX12_isPerson ∈ hx_tbl := hx_tbl_in (i := 37) (by decide +kernel) rfl
theorem mw_38 : Cond.selects RX12 yX12_four yX12_four ∈ hx_tbl := hx_tbl_in (i := 38) (by decide +kernel) rfl
theorem mw_39 : Cond.selects RX12 yX12_blanks yX12_blanks ∈ hx_tbl := hx_tbl_in (i := 39) (by decide +kernel) rfl
theorem mw_41 : Cond.selects RX12 yX12_takes yX12_takes ∈ hx_tbl := hx_tbl_in (i := 41) (by decide +kernel) rfl
theorem mw_42 : Cond.selects RX12 yX12_word yX12_word ∈ hx_tbl := hx_tbl_in (i := 42) (by decide +kernel) rfl
theorem mw_44 : Cond.selects RX12 yX12_takesNumber yX12_takesNumber ∈ hx_tbl := hx_tbl_in (i := 44) (by decide +kernel) rfl
theorem mw_51 : Cond.selects RX12 yX12_step yX12_step ∈ hx_tbl := hx_tbl_in (i := 51) (by decide +kernel) rfl
theorem mw_52 : Cond.selects RX12 yX12_begins yX12_begins ∈ hx_tbl := hx_tbl_in (i := 52) (by decide +kernel) rfl
theorem mw_53 : Cond.selects RX12 yX12_goes yX12_goes ∈ hx_tbl := hx_tbl_in (i := 53) (by decide +kernel) rfl
theorem mw_54 : Cond.selects RX12 yX12_lengthAt yX12_lengthAt ∈ hx_tbl := hx_tbl_in (i := 54) (by decide +kernel) rfl
theorem mw_55 : Cond.selects RX12 yX12_wants yX12_wants ∈ hx_tbl := hx_tbl_in (i := 55) (by decide +kernel) rfl
theorem mw_56 : Cond.selects RX12 yX12_meanOf yX12_meanOf ∈ hx_tbl := hx_tbl_in (i := 56) (by decide +kernel) rfl
theorem mw_57 : Cond.selects RX12 yX12_moneyAt yX12_moneyAt ∈ hx_tbl := hx_tbl_in (i := 57) (by decide +kernel) rfl
theorem mw_58 : Cond.selects RX12 yX12_isTrue yX12_isTrue ∈ hx_tbl := hx_tbl_in (i := 58) (by decide +kernel) rfl
theorem mw_59 : Cond.selects RX12 yX12_meanBy yX12_meanBy ∈ hx_tbl := hx_tbl_in (i := 59) (by decide +kernel) rfl
theorem mw_60 : Cond.selects RX12 yX12_houseAt yX12_houseAt ∈ hx_tbl := hx_tbl_in (i := 60) (by decide +kernel) rfl
theorem mw_61 : Cond.selects RX12 yX12_meanOfAll yX12_meanOfAll ∈ hx_tbl := hx_tbl_in (i := 61) (by decide +kernel) rfl
theorem mw_62 : Cond.selects RX12 yX12_counts yX12_counts ∈ hx_tbl := hx_tbl_in (i := 62) (by decide +kernel) rfl
theorem mw_63 : Cond.selects RX12 yX12_isSeason yX12_isSeason ∈ hx_tbl := hx_tbl_in (i := 63) (by decide +kernel) rfl
theorem mw_64 : Cond.selects RX12 yX12_lineAt yX12_lineAt ∈ hx_tbl := hx_tbl_in (i := 64) (by decide +kernel) rfl
theorem mw_65 : Cond.selects RX12 yX12_wantsNow yX12_wantsNow ∈ hx_tbl := hx_tbl_in (i := 65) (by decide +kernel) rfl
theorem mw_66 : Cond.selects RX12 yX12_mayTry yX12_mayTry ∈ hx_tbl := hx_tbl_in (i := 66) (by decide +kernel) rfl
theorem mw_67 : Cond.selects RX12 yX12_tries yX12_tries ∈ hx_tbl := hx_tbl_in (i := 67) (by decide +kernel) rfl
theorem mw_68 : Cond.selects RX12 yX12_keeps yX12_keeps ∈ hx_tbl := hx_tbl_in (i := 68) (by decide +kernel) rfl
theorem mw_69 : Cond.selects RX12 yX12_isAlike yX12_isAlike ∈ hx_tbl := hx_tbl_in (i := 69) (by decide +kernel) rfl
theorem mw_70 : Cond.selects RX12 yX12_takesBack yX12_takesBack ∈ hx_tbl := hx_tbl_in (i := 70) (by decide +kernel) rfl
theorem mw_71 : Cond.selects RX12 yX12_isAlone yX12_isAlone ∈ hx_tbl := hx_tbl_in (i := 71) (by decide +kernel) rfl
theorem mw_72 : Cond.selects RX12 yX12_endsBy yX12_endsBy ∈ hx_tbl := hx_tbl_in (i := 72) (by decide +kernel) rfl
theorem mw_73 : Cond.selects RX12 yX12_streets yX12_streets ∈ hx_tbl := hx_tbl_in (i := 73) (by decide +kernel) rfl
theorem mw_74 : Cond.selects RX12 yX12_isFollowed yX12_isFollowed ∈ hx_tbl := hx_tbl_in (i := 74) (by decide +kernel) rfl
theorem mw_75 : Cond.selects RX12 yX12_claims yX12_claims ∈ hx_tbl := hx_tbl_in (i := 75) (by decide +kernel) rfl
theorem mw_76 : Cond.selects RX12 yX12_atLeast yX12_atLeast ∈ hx_tbl := hx_tbl_in (i := 76) (by decide +kernel) rfl
theorem mw_77 : Cond.selects RX12 yX12_isWithin yX12_isWithin ∈ hx_tbl := hx_tbl_in (i := 77) (by decide +kernel) rfl
theorem mw_78 : Cond.selects RX12 yX12_shops yX12_shops ∈ hx_tbl := hx_tbl_in (i := 78) (by decide +kernel) rfl
theorem mw_79 : Cond.selects RX12 yX12_between yX12_between ∈ hx_tbl := hx_tbl_in (i := 79) (by decide +kernel) rfl
theorem mw_80 : Cond.selects RX12 yX12_readBy yX12_readBy ∈ hx_tbl := hx_tbl_in (i := 80) (by decide +kernel) rfl
theorem mw_81 : Cond.selects RX12 yX12_lays yX12_lays ∈ hx_tbl := hx_tbl_in (i := 81) (by decide +kernel) rfl
theorem mw_82 : Cond.selects RX12 yX12_fetches yX12_fetches ∈ hx_tbl := hx_tbl_in (i := 82) (by decide +kernel) rfl
theorem mw_84 : Cond.initialized RX11 ∈ hx_tbl := hx_tbl_in (i := 84) (by decide +kernel) rfl
theorem mw_85 : Cond.initialized RX2 ∈ hx_tbl := hx_tbl_in (i := 85) (by decide +kernel) rfl
theorem mw_86 : Cond.initialized RX10 ∈ hx_tbl := hx_tbl_in (i := 86) (by decide +kernel) rfl
theorem mw_87 : Cond.initialized RX4 ∈ hx_tbl := hx_tbl_in (i := 87) (by decide +kernel) rfl
theorem mw_88 : Cond.initialized RX3 ∈ hx_tbl := hx_tbl_in (i := 88) (by decide +kernel) rfl
theorem mw_89 : Cond.initialized RJ9 ∈ hx_tbl := hx_tbl_in (i := 89) (by decide +kernel) rfl
theorem mw_90 : Cond.initialized RJ7 ∈ hx_tbl := hx_tbl_in (i := 90) (by decide +kernel) rfl
theorem mw_91 : Cond.initialized RX6 ∈ hx_tbl := hx_tbl_in (i := 91) (by decide +kernel) rfl
theorem mw_92 : Cond.initialized RX9 ∈ hx_tbl := hx_tbl_in (i := 92) (by decide +kernel) rfl
theorem mw_93 : Cond.initialized RX0 ∈ hx_tbl := hx_tbl_in (i := 93) (by decide +kernel) rfl
theorem mw_94 : Cond.initialized RX8 ∈ hx_tbl := hx_tbl_in (i := 94) (by decide +kernel) rfl
theorem mw_95 : Cond.initialized RX5 ∈ hx_tbl := hx_tbl_in (i := 95) (by decide +kernel) rfl
theorem mw_96 : Cond.initialized RX7 ∈ hx_tbl := hx_tbl_in (i := 96) (by decide +kernel) rfl
theorem mw_97 : Cond.initialized RX12 ∈ hx_tbl := hx_tbl_in (i := 97) (by decide +kernel) rfl
theorem mw_102 : Cond.initialized RX1 ∈ hx_tbl := hx_tbl_in (i := 102) (by decide +kernel) rfl
theorem mw_103 : Cond.initialized RJ10 ∈ hx_tbl := hx_tbl_in (i := 103) (by decide +kernel) rfl
theorem mw_104 : Cond.initialized RJ6 ∈ hx_tbl := hx_tbl_in (i := 104) (by decide +kernel) rfl
theorem mw_119 : Cond.fieldLink RX2 11 "HemLine$LawReader" "text" "[B" ∈ hx_tbl := hx_tbl_in (i := 119) (by decide +kernel) rfl
theorem mw_120 : Cond.fieldLink RX2 15 "HemLine$LawReader" "size" "I" ∈ hx_tbl := hx_tbl_in (i := 120) (by decide +kernel) rfl
theorem mw_121 : Cond.fieldLink RX2 19 "HemLine$LawReader" "tokens" "[I" ∈ hx_tbl := hx_tbl_in (i := 121) (by decide +kernel) rfl
theorem mw_122 : Cond.fieldLink RX2 23 "HemLine$LawReader" "places" "[I" ∈ hx_tbl := hx_tbl_in (i := 122) (by decide +kernel) rfl
theorem mw_123 : Cond.fieldLink RX2 26 "HemLine$LawReader" "at" "I" ∈ hx_tbl := hx_tbl_in (i := 123) (by decide +kernel) rfl
theorem mw_124 : Cond.fieldLink RX2 29 "HemLine$LawReader" "code" "[I" ∈ hx_tbl := hx_tbl_in (i := 124) (by decide +kernel) rfl
theorem mw_125 : Cond.fieldLink RX2 32 "HemLine$LawReader" "used" "I" ∈ hx_tbl := hx_tbl_in (i := 125) (by decide +kernel) rfl
theorem mw_157 : Cond.fieldLink RX4 9 "HemLine$People" "size" "I" ∈ hx_tbl := hx_tbl_in (i := 157) (by decide +kernel) rfl
theorem mw_158 : Cond.fieldLink RX7 58 "HemLine$People" "size" "I" ∈ hx_tbl := hx_tbl_in (i := 158) (by decide +kernel) rfl
theorem mw_159 : Cond.fieldLink RX6 73 "HemLine$People" "size" "I" ∈ hx_tbl := hx_tbl_in (i := 159) (by decide +kernel) rfl
theorem mw_160 : Cond.fieldLink RX10 83 "HemLine$People" "size" "I" ∈ hx_tbl := hx_tbl_in (i := 160) (by decide +kernel) rfl
theorem mw_161 : Cond.fieldLink RX0 59 "HemLine$People" "size" "I" ∈ hx_tbl := hx_tbl_in (i := 161) (by decide +kernel) rfl
theorem mw_162 : Cond.fieldLink RX5 52 "HemLine$People" "size" "I" ∈ hx_tbl := hx_tbl_in (i := 162) (by decide +kernel) rfl
theorem mw_163 : Cond.fieldLink RX9 62 "HemLine$People" "size" "I" ∈ hx_tbl := hx_tbl_in (i := 163) (by decide +kernel) rfl
theorem mw_164 : Cond.fieldLink RX11 317 "HemLine$People" "size" "I" ∈ hx_tbl := hx_tbl_in (i := 164) (by decide +kernel) rfl
theorem mw_165 : Cond.fieldLink RX4 15 "HemLine$People" "rank" "[I" ∈ hx_tbl := hx_tbl_in (i := 165) (by decide +kernel) rfl
theorem mw_166 : Cond.fieldLink RX6 48 "HemLine$People" "rank" "[I" ∈ hx_tbl := hx_tbl_in (i := 166) (by decide +kernel) rfl
theorem mw_167 : Cond.fieldLink RX11 187 "HemLine$People" "rank" "[I" ∈ hx_tbl := hx_tbl_in (i := 167) (by decide +kernel) rfl
theorem mw_168 : Cond.fieldLink RX4 19 "HemLine$People" "purse" "[I" ∈ hx_tbl := hx_tbl_in (i := 168) (by decide +kernel) rfl
theorem mw_169 : Cond.fieldLink RX6 43 "HemLine$People" "purse" "[I" ∈ hx_tbl := hx_tbl_in (i := 169) (by decide +kernel) rfl
theorem mw_170 : Cond.fieldLink RX0 80 "HemLine$People" "purse" "[I" ∈ hx_tbl := hx_tbl_in (i := 170) (by decide +kernel) rfl
theorem mw_171 : Cond.fieldLink RX10 128 "HemLine$People" "purse" "[I" ∈ hx_tbl := hx_tbl_in (i := 171) (by decide +kernel) rfl
theorem mw_172 : Cond.fieldLink RX11 190 "HemLine$People" "purse" "[I" ∈ hx_tbl := hx_tbl_in (i := 172) (by decide +kernel) rfl
theorem mw_173 : Cond.fieldLink RX4 22 "HemLine$People" "sees" "[I" ∈ hx_tbl := hx_tbl_in (i := 173) (by decide +kernel) rfl
theorem mw_174 : Cond.fieldLink RX6 76 "HemLine$People" "sees" "[I" ∈ hx_tbl := hx_tbl_in (i := 174) (by decide +kernel) rfl
theorem mw_175 : Cond.fieldLink RX11 128 "HemLine$People" "sees" "[I" ∈ hx_tbl := hx_tbl_in (i := 175) (by decide +kernel) rfl
theorem mw_176 : Cond.fieldLink RX4 25 "HemLine$People" "coin" "[I" ∈ hx_tbl := hx_tbl_in (i := 176) (by decide +kernel) rfl
theorem mw_177 : Cond.fieldLink RX10 99 "HemLine$People" "coin" "[I" ∈ hx_tbl := hx_tbl_in (i := 177) (by decide +kernel) rfl
theorem mw_178 : Cond.fieldLink RX11 193 "HemLine$People" "coin" "[I" ∈ hx_tbl := hx_tbl_in (i := 178) (by decide +kernel) rfl
theorem mw_179 : Cond.fieldLink RX4 28 "HemLine$People" "worn" "[I" ∈ hx_tbl := hx_tbl_in (i := 179) (by decide +kernel) rfl
theorem mw_180 : Cond.fieldLink RX10 102 "HemLine$People" "worn" "[I" ∈ hx_tbl := hx_tbl_in (i := 180) (by decide +kernel) rfl
theorem mw_181 : Cond.fieldLink RX11 196 "HemLine$People" "worn" "[I" ∈ hx_tbl := hx_tbl_in (i := 181) (by decide +kernel) rfl
theorem mw_182 : Cond.fieldLink RX4 31 "HemLine$People" "tally" "[I" ∈ hx_tbl := hx_tbl_in (i := 182) (by decide +kernel) rfl
theorem mw_183 : Cond.fieldLink RX11 203 "HemLine$People" "tally" "[I" ∈ hx_tbl := hx_tbl_in (i := 183) (by decide +kernel) rfl
theorem mw_206 : Cond.static yJ9_max_7cf53 ∈ hx_tbl := hx_tbl_in (i := 206) (by decide +kernel) rfl
theorem mw_207 : Cond.code yJ9_max_7cf53 cJ9_max_7cf53 2 (some .int) ∈ hx_tbl := hx_tbl_in (i := 207) (by decide +kernel) rfl
theorem mw_209 : Cond.static yJ7_fill_53178 ∈ hx_tbl := hx_tbl_in (i := 209) (by decide +kernel) rfl
theorem mw_210 : Cond.code yJ7_fill_53178 cJ7_fill_53178 4 (none) ∈ hx_tbl := hx_tbl_in (i := 210) (by decide +kernel) rfl
theorem mw_211 : Cond.fieldLink RX3 15 "HemLine$Past" "rows" "I" ∈ hx_tbl := hx_tbl_in (i := 211) (by decide +kernel) rfl
theorem mw_212 : Cond.fieldLink RX10 109 "HemLine$Past" "rows" "I" ∈ hx_tbl := hx_tbl_in (i := 212) (by decide +kernel) rfl
theorem mw_213 : Cond.fieldLink RX3 21 "HemLine$Past" "lengths" "[I" ∈ hx_tbl := hx_tbl_in (i := 213) (by decide +kernel) rfl
theorem mw_214 : Cond.fieldLink RX11 115 "HemLine$Past" "lengths" "[I" ∈ hx_tbl := hx_tbl_in (i := 214) (by decide +kernel) rfl
theorem mw_215 : Cond.fieldLink RX10 119 "HemLine$Past" "lengths" "[I" ∈ hx_tbl := hx_tbl_in (i := 215) (by decide +kernel) rfl
theorem mw_216 : Cond.fieldLink RX3 25 "HemLine$Past" "sums" "[I" ∈ hx_tbl := hx_tbl_in (i := 216) (by decide +kernel) rfl
theorem mw_217 : Cond.fieldLink RX11 121 "HemLine$Past" "sums" "[I" ∈ hx_tbl := hx_tbl_in (i := 217) (by decide +kernel) rfl
theorem mw_218 : Cond.fieldLink RX10 86 "HemLine$Past" "sums" "[I" ∈ hx_tbl := hx_tbl_in (i := 218) (by decide +kernel) rfl
theorem mw_219 : Cond.fieldLink RX6 115 "HemLine$Past" "sums" "[I" ∈ hx_tbl := hx_tbl_in (i := 219) (by decide +kernel) rfl
theorem mw_220 : Cond.fieldLink RX3 28 "HemLine$Past" "asked" "[I" ∈ hx_tbl := hx_tbl_in (i := 220) (by decide +kernel) rfl
theorem mw_221 : Cond.fieldLink RX3 31 "HemLine$Past" "shown" "[I" ∈ hx_tbl := hx_tbl_in (i := 221) (by decide +kernel) rfl
theorem mw_222 : Cond.fieldLink RX11 134 "HemLine$Past" "shown" "[I" ∈ hx_tbl := hx_tbl_in (i := 222) (by decide +kernel) rfl
theorem mw_223 : Cond.fieldLink RX3 34 "HemLine$Past" "moneys" "[I" ∈ hx_tbl := hx_tbl_in (i := 223) (by decide +kernel) rfl
theorem mw_224 : Cond.fieldLink RX9 43 "HemLine$Past" "moneys" "[I" ∈ hx_tbl := hx_tbl_in (i := 224) (by decide +kernel) rfl
theorem mw_225 : Cond.fieldLink RX6 51 "HemLine$Past" "moneys" "[I" ∈ hx_tbl := hx_tbl_in (i := 225) (by decide +kernel) rfl
theorem mw_226 : Cond.fieldLink RX11 137 "HemLine$Past" "moneys" "[I" ∈ hx_tbl := hx_tbl_in (i := 226) (by decide +kernel) rfl
theorem mw_227 : Cond.fieldLink RX8 67 "HemLine$Past" "moneys" "[I" ∈ hx_tbl := hx_tbl_in (i := 227) (by decide +kernel) rfl
theorem mw_247 : Cond.fieldLink RX6 9 "HemLine$Reckoner" "people" "LHemLine$People;" ∈ hx_tbl := hx_tbl_in (i := 247) (by decide +kernel) rfl
theorem mw_248 : Cond.fieldLink RX6 15 "HemLine$Reckoner" "past" "LHemLine$Past;" ∈ hx_tbl := hx_tbl_in (i := 248) (by decide +kernel) rfl
theorem mw_249 : Cond.fieldLink RX6 21 "HemLine$Reckoner" "answers" "[I" ∈ hx_tbl := hx_tbl_in (i := 249) (by decide +kernel) rfl
theorem mw_250 : Cond.fieldLink RX6 27 "HemLine$Reckoner" "counts" "[I" ∈ hx_tbl := hx_tbl_in (i := 250) (by decide +kernel) rfl
theorem mw_251 : Cond.fieldLink RX6 30 "HemLine$Reckoner" "means" "[I" ∈ hx_tbl := hx_tbl_in (i := 251) (by decide +kernel) rfl
theorem mw_252 : Cond.fieldLink RX0 45 "HemLine$Reckoner" "means" "[I" ∈ hx_tbl := hx_tbl_in (i := 252) (by decide +kernel) rfl
theorem mw_253 : Cond.fieldLink RX6 33 "HemLine$Reckoner" "verb" "I" ∈ hx_tbl := hx_tbl_in (i := 253) (by decide +kernel) rfl
theorem mw_254 : Cond.fieldLink RX10 144 "HemLine$Reckoner" "verb" "I" ∈ hx_tbl := hx_tbl_in (i := 254) (by decide +kernel) rfl
theorem mw_268 : Cond.fieldLink RX10 12 "HemLine$World" "people" "LHemLine$People;" ∈ hx_tbl := hx_tbl_in (i := 268) (by decide +kernel) rfl
theorem mw_269 : Cond.fieldLink RX9 22 "HemLine$World" "people" "LHemLine$People;" ∈ hx_tbl := hx_tbl_in (i := 269) (by decide +kernel) rfl
theorem mw_270 : Cond.fieldLink RX11 101 "HemLine$World" "people" "LHemLine$People;" ∈ hx_tbl := hx_tbl_in (i := 270) (by decide +kernel) rfl
theorem mw_271 : Cond.fieldLink RX7 52 "HemLine$World" "people" "LHemLine$People;" ∈ hx_tbl := hx_tbl_in (i := 271) (by decide +kernel) rfl
theorem mw_272 : Cond.fieldLink RX0 55 "HemLine$World" "people" "LHemLine$People;" ∈ hx_tbl := hx_tbl_in (i := 272) (by decide +kernel) rfl
theorem mw_273 : Cond.fieldLink RX5 48 "HemLine$World" "people" "LHemLine$People;" ∈ hx_tbl := hx_tbl_in (i := 273) (by decide +kernel) rfl
theorem mw_274 : Cond.fieldLink RX10 23 "HemLine$World" "past" "LHemLine$Past;" ∈ hx_tbl := hx_tbl_in (i := 274) (by decide +kernel) rfl
theorem mw_275 : Cond.fieldLink RX0 21 "HemLine$World" "past" "LHemLine$Past;" ∈ hx_tbl := hx_tbl_in (i := 275) (by decide +kernel) rfl
theorem mw_276 : Cond.fieldLink RX9 39 "HemLine$World" "past" "LHemLine$Past;" ∈ hx_tbl := hx_tbl_in (i := 276) (by decide +kernel) rfl
theorem mw_277 : Cond.fieldLink RX11 111 "HemLine$World" "past" "LHemLine$Past;" ∈ hx_tbl := hx_tbl_in (i := 277) (by decide +kernel) rfl
theorem mw_278 : Cond.fieldLink RX5 55 "HemLine$World" "past" "LHemLine$Past;" ∈ hx_tbl := hx_tbl_in (i := 278) (by decide +kernel) rfl
theorem mw_279 : Cond.fieldLink RX8 48 "HemLine$World" "past" "LHemLine$Past;" ∈ hx_tbl := hx_tbl_in (i := 279) (by decide +kernel) rfl
theorem mw_280 : Cond.fieldLink RX10 32 "HemLine$World" "reckoner" "LHemLine$Reckoner;" ∈ hx_tbl := hx_tbl_in (i := 280) (by decide +kernel) rfl
theorem mw_281 : Cond.fieldLink RX0 35 "HemLine$World" "reckoner" "LHemLine$Reckoner;" ∈ hx_tbl := hx_tbl_in (i := 281) (by decide +kernel) rfl
theorem mw_282 : Cond.fieldLink RX10 36 "HemLine$World" "price" "I" ∈ hx_tbl := hx_tbl_in (i := 282) (by decide +kernel) rfl
theorem mw_283 : Cond.fieldLink RX11 140 "HemLine$World" "price" "I" ∈ hx_tbl := hx_tbl_in (i := 283) (by decide +kernel) rfl
theorem mw_284 : Cond.fieldLink RX10 40 "HemLine$World" "seam" "I" ∈ hx_tbl := hx_tbl_in (i := 284) (by decide +kernel) rfl
theorem mw_285 : Cond.fieldLink RX11 143 "HemLine$World" "seam" "I" ∈ hx_tbl := hx_tbl_in (i := 285) (by decide +kernel) rfl
theorem mw_286 : Cond.fieldLink RX10 43 "HemLine$World" "over" "I" ∈ hx_tbl := hx_tbl_in (i := 286) (by decide +kernel) rfl
theorem mw_287 : Cond.fieldLink RX11 146 "HemLine$World" "over" "I" ∈ hx_tbl := hx_tbl_in (i := 287) (by decide +kernel) rfl
theorem mw_288 : Cond.fieldLink RX10 46 "HemLine$World" "z" "J" ∈ hx_tbl := hx_tbl_in (i := 288) (by decide +kernel) rfl
theorem mw_289 : Cond.fieldLink RX9 31 "HemLine$World" "z" "J" ∈ hx_tbl := hx_tbl_in (i := 289) (by decide +kernel) rfl
theorem mw_290 : Cond.fieldLink RX11 150 "HemLine$World" "z" "J" ∈ hx_tbl := hx_tbl_in (i := 290) (by decide +kernel) rfl
theorem mw_291 : Cond.fieldLink RX10 50 "HemLine$World" "season" "I" ∈ hx_tbl := hx_tbl_in (i := 291) (by decide +kernel) rfl
theorem mw_292 : Cond.fieldLink RX8 26 "HemLine$World" "season" "I" ∈ hx_tbl := hx_tbl_in (i := 292) (by decide +kernel) rfl
theorem mw_293 : Cond.fieldLink RX0 15 "HemLine$World" "season" "I" ∈ hx_tbl := hx_tbl_in (i := 293) (by decide +kernel) rfl
theorem mw_294 : Cond.fieldLink RX9 35 "HemLine$World" "season" "I" ∈ hx_tbl := hx_tbl_in (i := 294) (by decide +kernel) rfl
theorem mw_295 : Cond.fieldLink RX11 98 "HemLine$World" "season" "I" ∈ hx_tbl := hx_tbl_in (i := 295) (by decide +kernel) rfl
theorem mw_296 : Cond.fieldLink RX10 53 "HemLine$World" "foretold" "I" ∈ hx_tbl := hx_tbl_in (i := 296) (by decide +kernel) rfl
theorem mw_297 : Cond.fieldLink RX11 275 "HemLine$World" "foretold" "I" ∈ hx_tbl := hx_tbl_in (i := 297) (by decide +kernel) rfl
theorem mw_298 : Cond.fieldLink RX10 56 "HemLine$World" "foretoldSeasons" "[I" ∈ hx_tbl := hx_tbl_in (i := 298) (by decide +kernel) rfl
theorem mw_299 : Cond.fieldLink RX11 278 "HemLine$World" "foretoldSeasons" "[I" ∈ hx_tbl := hx_tbl_in (i := 299) (by decide +kernel) rfl
theorem mw_300 : Cond.fieldLink RX10 60 "HemLine$World" "foretoldLines" "[I" ∈ hx_tbl := hx_tbl_in (i := 300) (by decide +kernel) rfl
theorem mw_301 : Cond.fieldLink RX11 281 "HemLine$World" "foretoldLines" "[I" ∈ hx_tbl := hx_tbl_in (i := 301) (by decide +kernel) rfl
theorem mw_302 : Cond.fieldLink RX10 63 "HemLine$World" "linesThen" "[I" ∈ hx_tbl := hx_tbl_in (i := 302) (by decide +kernel) rfl
theorem mw_303 : Cond.fieldLink RX11 284 "HemLine$World" "linesThen" "[I" ∈ hx_tbl := hx_tbl_in (i := 303) (by decide +kernel) rfl
theorem mw_337 : Cond.fieldLink RX9 9 "HemLine$Trials" "world" "LHemLine$World;" ∈ hx_tbl := hx_tbl_in (i := 337) (by decide +kernel) rfl
theorem mw_338 : Cond.fieldLink RX9 18 "HemLine$Trials" "kept" "LHemLine$People;" ∈ hx_tbl := hx_tbl_in (i := 338) (by decide +kernel) rfl
theorem mw_350 : Cond.fieldLink RX0 9 "HemLine$Chronicle" "world" "LHemLine$World;" ∈ hx_tbl := hx_tbl_in (i := 350) (by decide +kernel) rfl
theorem mw_360 : Cond.fieldLink RX8 9 "HemLine$Signs" "world" "LHemLine$World;" ∈ hx_tbl := hx_tbl_in (i := 360) (by decide +kernel) rfl
theorem mw_361 : Cond.fieldLink RX8 15 "HemLine$Signs" "ways" "[J" ∈ hx_tbl := hx_tbl_in (i := 361) (by decide +kernel) rfl
theorem mw_362 : Cond.fieldLink RX8 19 "HemLine$Signs" "couples" "I" ∈ hx_tbl := hx_tbl_in (i := 362) (by decide +kernel) rfl
theorem mw_363 : Cond.fieldLink RX11 257 "HemLine$Signs" "couples" "I" ∈ hx_tbl := hx_tbl_in (i := 363) (by decide +kernel) rfl
theorem mw_364 : Cond.fieldLink RX8 23 "HemLine$Signs" "hits" "I" ∈ hx_tbl := hx_tbl_in (i := 364) (by decide +kernel) rfl
theorem mw_365 : Cond.fieldLink RX11 254 "HemLine$Signs" "hits" "I" ∈ hx_tbl := hx_tbl_in (i := 365) (by decide +kernel) rfl
theorem mw_382 : Cond.fieldLink RX5 9 "HemLine$Plates" "world" "LHemLine$World;" ∈ hx_tbl := hx_tbl_in (i := 382) (by decide +kernel) rfl
theorem mw_383 : Cond.fieldLink RX5 15 "HemLine$Plates" "size" "I" ∈ hx_tbl := hx_tbl_in (i := 383) (by decide +kernel) rfl
theorem mw_384 : Cond.fieldLink RX11 323 "HemLine$Plates" "size" "I" ∈ hx_tbl := hx_tbl_in (i := 384) (by decide +kernel) rfl
theorem mw_385 : Cond.fieldLink RX5 19 "HemLine$Plates" "papers" "[I" ∈ hx_tbl := hx_tbl_in (i := 385) (by decide +kernel) rfl
theorem mw_386 : Cond.fieldLink RX5 23 "HemLine$Plates" "seasons" "[I" ∈ hx_tbl := hx_tbl_in (i := 386) (by decide +kernel) rfl
theorem mw_387 : Cond.fieldLink RX5 26 "HemLine$Plates" "lengths" "[I" ∈ hx_tbl := hx_tbl_in (i := 387) (by decide +kernel) rfl
theorem mw_405 : Cond.fieldLink RX7 9 "HemLine$Shelf" "world" "LHemLine$World;" ∈ hx_tbl := hx_tbl_in (i := 405) (by decide +kernel) rfl
theorem mw_406 : Cond.fieldLink RX7 15 "HemLine$Shelf" "counts" "[I" ∈ hx_tbl := hx_tbl_in (i := 406) (by decide +kernel) rfl
theorem mw_407 : Cond.fieldLink RX7 19 "HemLine$Shelf" "sums" "[I" ∈ hx_tbl := hx_tbl_in (i := 407) (by decide +kernel) rfl
theorem mw_408 : Cond.fieldLink RX7 22 "HemLine$Shelf" "leasts" "[I" ∈ hx_tbl := hx_tbl_in (i := 408) (by decide +kernel) rfl
theorem mw_409 : Cond.fieldLink RX7 25 "HemLine$Shelf" "chosen" "[I" ∈ hx_tbl := hx_tbl_in (i := 409) (by decide +kernel) rfl
theorem mw_410 : Cond.fieldLink RX11 305 "HemLine$Shelf" "chosen" "[I" ∈ hx_tbl := hx_tbl_in (i := 410) (by decide +kernel) rfl
theorem mw_411 : Cond.fieldLink RX7 28 "HemLine$Shelf" "off" "I" ∈ hx_tbl := hx_tbl_in (i := 411) (by decide +kernel) rfl
theorem mw_412 : Cond.fieldLink RX11 302 "HemLine$Shelf" "off" "I" ∈ hx_tbl := hx_tbl_in (i := 412) (by decide +kernel) rfl
theorem mw_427 : Cond.fieldLink RX11 9 "HemLine" "tape" "[B" ∈ hx_tbl := hx_tbl_in (i := 427) (by decide +kernel) rfl
theorem mw_428 : Cond.fieldLink RX11 13 "HemLine" "fed" "I" ∈ hx_tbl := hx_tbl_in (i := 428) (by decide +kernel) rfl
theorem mw_430 : Cond.fieldLink RX11 28 "HemLine" "laws" "[LHemLine$Law;" ∈ hx_tbl := hx_tbl_in (i := 430) (by decide +kernel) rfl
theorem mw_431 : Cond.fieldLink RX11 32 "HemLine" "lawCount" "I" ∈ hx_tbl := hx_tbl_in (i := 431) (by decide +kernel) rfl
theorem mw_432 : Cond.fieldLink RX11 35 "HemLine" "forced" "I" ∈ hx_tbl := hx_tbl_in (i := 432) (by decide +kernel) rfl
theorem mw_433 : Cond.fieldLink RX11 38 "HemLine" "faultPlace" "I" ∈ hx_tbl := hx_tbl_in (i := 433) (by decide +kernel) rfl
theorem mw_434 : Cond.fieldLink RX11 46 "HemLine" "world" "LHemLine$World;" ∈ hx_tbl := hx_tbl_in (i := 434) (by decide +kernel) rfl
theorem mw_435 : Cond.fieldLink RX11 55 "HemLine" "trials" "LHemLine$Trials;" ∈ hx_tbl := hx_tbl_in (i := 435) (by decide +kernel) rfl
theorem mw_436 : Cond.fieldLink RX11 62 "HemLine" "chronicle" "LHemLine$Chronicle;" ∈ hx_tbl := hx_tbl_in (i := 436) (by decide +kernel) rfl
theorem mw_437 : Cond.fieldLink RX11 69 "HemLine" "signs" "LHemLine$Signs;" ∈ hx_tbl := hx_tbl_in (i := 437) (by decide +kernel) rfl
theorem mw_438 : Cond.fieldLink RX11 76 "HemLine" "plates" "LHemLine$Plates;" ∈ hx_tbl := hx_tbl_in (i := 438) (by decide +kernel) rfl
theorem mw_439 : Cond.fieldLink RX11 83 "HemLine" "shelf" "LHemLine$Shelf;" ∈ hx_tbl := hx_tbl_in (i := 439) (by decide +kernel) rfl
theorem mw_440 : Cond.fieldLink RX11 87 "HemLine" "images" "[LHemLine$World;" ∈ hx_tbl := hx_tbl_in (i := 440) (by decide +kernel) rfl
theorem mw_441 : Cond.fieldLink RX11 91 "HemLine" "imageCount" "I" ∈ hx_tbl := hx_tbl_in (i := 441) (by decide +kernel) rfl
theorem mw_477 : Cond.methodLink RX11 94 yX11_within ∈ hx_tbl := hx_tbl_in (i := 477) (by decide +kernel) rfl
theorem mw_478 : Cond.static yX11_within ∈ hx_tbl := hx_tbl_in (i := 478) (by decide +kernel) rfl
theorem mw_479 : Cond.code yX11_within cX11_within 3 (some .boolean) ∈ hx_tbl := hx_tbl_in (i := 479) (by decide +kernel) rfl
theorem mw_480 : Cond.methodLink RX11 105 yX4_join ∈ hx_tbl := hx_tbl_in (i := 480) (by decide +kernel) rfl
theorem mw_481 : Cond.instanceMethod yX4_join ∈ hx_tbl := hx_tbl_in (i := 481) (by decide +kernel) rfl
theorem mw_482 : Cond.selects RX4 yX4_join yX4_join ∈ hx_tbl := hx_tbl_in (i := 482) (by decide +kernel) rfl
theorem mw_483 : Cond.code yX4_join cX4_join 5 (some .int) ∈ hx_tbl := hx_tbl_in (i := 483) (by decide +kernel) rfl
theorem mw_488 : Cond.methodLink RX11 124 yX4_has ∈ hx_tbl := hx_tbl_in (i := 488) (by decide +kernel) rfl
theorem mw_489 : Cond.instanceMethod yX4_has ∈ hx_tbl := hx_tbl_in (i := 489) (by decide +kernel) rfl
theorem mw_490 : Cond.selects RX4 yX4_has yX4_has ∈ hx_tbl := hx_tbl_in (i := 490) (by decide +kernel) rfl
theorem mw_491 : Cond.code yX4_has cX4_has 2 (some .boolean) ∈ hx_tbl := hx_tbl_in (i := 491) (by decide +kernel) rfl
theorem mw_492 : Cond.methodLinkNest RX4 34 yX11_within RX11 ∈ hx_tbl := hx_tbl_in (i := 492) (by decide +kernel) rfl
theorem mw_497 : Cond.methodLink RX11 131 yX11_isHouse ∈ hx_tbl := hx_tbl_in (i := 497) (by decide +kernel) rfl
theorem mw_498 : Cond.static yX11_isHouse ∈ hx_tbl := hx_tbl_in (i := 498) (by decide +kernel) rfl
theorem mw_499 : Cond.code yX11_isHouse cX11_isHouse 1 (some .boolean) ∈ hx_tbl := hx_tbl_in (i := 499) (by decide +kernel) rfl
theorem mw_512 : Cond.constant RX11 149 (999999999) ∈ hx_tbl := hx_tbl_in (i := 512) (by decide +kernel) rfl
theorem mw_517 : Cond.methodLink RX11 154 yX11_putOnTape ∈ hx_tbl := hx_tbl_in (i := 517) (by decide +kernel) rfl
theorem mw_519 : Cond.instanceMethod yX11_putOnTape ∈ hx_tbl := hx_tbl_in (i := 519) (by decide +kernel) rfl
theorem mw_520 : Cond.code yX11_putOnTape cX11_putOnTape 3 (none) ∈ hx_tbl := hx_tbl_in (i := 520) (by decide +kernel) rfl
theorem mw_529 : Cond.methodLinkNest RX2 35 yX11_within RX11 ∈ hx_tbl := hx_tbl_in (i := 529) (by decide +kernel) rfl
theorem mw_538 : Cond.methodLink RX2 65 yX2_isLetter ∈ hx_tbl := hx_tbl_in (i := 538) (by decide +kernel) rfl
theorem mw_539 : Cond.static yX2_isLetter ∈ hx_tbl := hx_tbl_in (i := 539) (by decide +kernel) rfl
theorem mw_540 : Cond.code yX2_isLetter cX2_isLetter 1 (some .boolean) ∈ hx_tbl := hx_tbl_in (i := 540) (by decide +kernel) rfl
theorem mw_541 : Cond.methodLink RX2 69 yX2_isDigit ∈ hx_tbl := hx_tbl_in (i := 541) (by decide +kernel) rfl
theorem mw_542 : Cond.static yX2_isDigit ∈ hx_tbl := hx_tbl_in (i := 542) (by decide +kernel) rfl
theorem mw_543 : Cond.code yX2_isDigit cX2_isDigit 1 (some .boolean) ∈ hx_tbl := hx_tbl_in (i := 543) (by decide +kernel) rfl
theorem mw_610 : Cond.static yJ9_min_7cf53 ∈ hx_tbl := hx_tbl_in (i := 610) (by decide +kernel) rfl
theorem mw_611 : Cond.code yJ9_min_7cf53 cJ9_min_7cf53 2 (some .int) ∈ hx_tbl := hx_tbl_in (i := 611) (by decide +kernel) rfl
theorem mw_613 : Cond.static ⟨"java/lang/System", "arraycopy", "(Ljava/lang/Object;ILjava/lang/Object;II)V"⟩ ∈ hx_tbl := hx_tbl_in (i := 613) (by decide +kernel) rfl
theorem mw_614 : Cond.native ⟨"java/lang/System", "arraycopy", "(Ljava/lang/Object;ILjava/lang/Object;II)V"⟩ ∈ hx_tbl := hx_tbl_in (i := 614) (by decide +kernel) rfl
theorem mw_620 : Cond.fieldLink RX6 79 "HemLine$Law" "code" "[I" ∈ hx_tbl := hx_tbl_in (i := 620) (by decide +kernel) rfl
theorem mw_622 : Cond.fieldLink RX6 82 "HemLine$Law" "rules" "I" ∈ hx_tbl := hx_tbl_in (i := 622) (by decide +kernel) rfl
theorem mw_623 : Cond.fieldLink RX11 320 "HemLine$Law" "rules" "I" ∈ hx_tbl := hx_tbl_in (i := 623) (by decide +kernel) rfl
theorem mw_633 : Cond.methodLink RX2 86 yX2_put ∈ hx_tbl := hx_tbl_in (i := 633) (by decide +kernel) rfl
theorem mw_635 : Cond.instanceMethod yX2_put ∈ hx_tbl := hx_tbl_in (i := 635) (by decide +kernel) rfl
theorem mw_636 : Cond.code yX2_put cX2_put 2 (none) ∈ hx_tbl := hx_tbl_in (i := 636) (by decide +kernel) rfl
theorem mw_641 : Cond.methodLink RX2 100 yX1_head ∈ hx_tbl := hx_tbl_in (i := 641) (by decide +kernel) rfl
theorem mw_642 : Cond.static yX1_head ∈ hx_tbl := hx_tbl_in (i := 642) (by decide +kernel) rfl
theorem mw_643 : Cond.code yX1_head cX1_head 4 (some .int) ∈ hx_tbl := hx_tbl_in (i := 643) (by decide +kernel) rfl
theorem mw_644 : Cond.methodLink RX2 104 yX2_readNumber ∈ hx_tbl := hx_tbl_in (i := 644) (by decide +kernel) rfl
theorem mw_646 : Cond.instanceMethod yX2_readNumber ∈ hx_tbl := hx_tbl_in (i := 646) (by decide +kernel) rfl
theorem mw_647 : Cond.code yX2_readNumber cX2_readNumber 4 (some .int) ∈ hx_tbl := hx_tbl_in (i := 647) (by decide +kernel) rfl
theorem mw_668 : Cond.methodLink RX2 116 yX1_comparison ∈ hx_tbl := hx_tbl_in (i := 668) (by decide +kernel) rfl
theorem mw_669 : Cond.static yX1_comparison ∈ hx_tbl := hx_tbl_in (i := 669) (by decide +kernel) rfl
theorem mw_670 : Cond.code yX1_comparison cX1_comparison 3 (some .int) ∈ hx_tbl := hx_tbl_in (i := 670) (by decide +kernel) rfl
theorem mw_687 : Cond.methodLink RX11 165 yX11_lawInForce ∈ hx_tbl := hx_tbl_in (i := 687) (by decide +kernel) rfl
theorem mw_689 : Cond.instanceMethod yX11_lawInForce ∈ hx_tbl := hx_tbl_in (i := 689) (by decide +kernel) rfl
theorem mw_690 : Cond.code yX11_lawInForce cX11_lawInForce 1 (some (.object "HemLine$Law")) ∈ hx_tbl := hx_tbl_in (i := 690) (by decide +kernel) rfl
theorem mw_691 : Cond.methodLink RX11 169 yX4_isEmpty ∈ hx_tbl := hx_tbl_in (i := 691) (by decide +kernel) rfl
theorem mw_692 : Cond.instanceMethod yX4_isEmpty ∈ hx_tbl := hx_tbl_in (i := 692) (by decide +kernel) rfl
theorem mw_693 : Cond.selects RX4 yX4_isEmpty yX4_isEmpty ∈ hx_tbl := hx_tbl_in (i := 693) (by decide +kernel) rfl
theorem mw_694 : Cond.code yX4_isEmpty cX4_isEmpty 1 (some .boolean) ∈ hx_tbl := hx_tbl_in (i := 694) (by decide +kernel) rfl
theorem mw_695 : Cond.methodLink RX11 173 yX10_pass ∈ hx_tbl := hx_tbl_in (i := 695) (by decide +kernel) rfl
theorem mw_696 : Cond.instanceMethod yX10_pass ∈ hx_tbl := hx_tbl_in (i := 696) (by decide +kernel) rfl
theorem mw_697 : Cond.selects RX10 yX10_pass yX10_pass ∈ hx_tbl := hx_tbl_in (i := 697) (by decide +kernel) rfl
theorem mw_698 : Cond.code yX10_pass cX10_pass 5 (none) ∈ hx_tbl := hx_tbl_in (i := 698) (by decide +kernel) rfl
theorem mw_699 : Cond.methodLink RX10 112 yX3_carryOn ∈ hx_tbl := hx_tbl_in (i := 699) (by decide +kernel) rfl
theorem mw_700 : Cond.instanceMethod yX3_carryOn ∈ hx_tbl := hx_tbl_in (i := 700) (by decide +kernel) rfl
theorem mw_701 : Cond.selects RX3 yX3_carryOn yX3_carryOn ∈ hx_tbl := hx_tbl_in (i := 701) (by decide +kernel) rfl
theorem mw_702 : Cond.code yX3_carryOn cX3_carryOn 2 (none) ∈ hx_tbl := hx_tbl_in (i := 702) (by decide +kernel) rfl
theorem mw_703 : Cond.methodLink RX3 43 ⟨"java/lang/System", "arraycopy", "(Ljava/lang/Object;ILjava/lang/Object;II)V"⟩ ∈ hx_tbl := hx_tbl_in (i := 703) (by decide +kernel) rfl
theorem mw_704 : Cond.methodLink RX10 115 yX10_dress ∈ hx_tbl := hx_tbl_in (i := 704) (by decide +kernel) rfl
theorem mw_706 : Cond.instanceMethod yX10_dress ∈ hx_tbl := hx_tbl_in (i := 706) (by decide +kernel) rfl
theorem mw_707 : Cond.code yX10_dress cX10_dress 6 (some .int) ∈ hx_tbl := hx_tbl_in (i := 707) (by decide +kernel) rfl
theorem mw_708 : Cond.constantLong RX10 122 (6364136223846793005) ∈ hx_tbl := hx_tbl_in (i := 708) (by decide +kernel) rfl
theorem mw_709 : Cond.constantLong RX10 124 (1442695040888963407) ∈ hx_tbl := hx_tbl_in (i := 709) (by decide +kernel) rfl
theorem mw_710 : Cond.constantLong RX10 126 (100) ∈ hx_tbl := hx_tbl_in (i := 710) (by decide +kernel) rfl
theorem mw_711 : Cond.methodLink RX10 131 yJ9_min_7cf53 ∈ hx_tbl := hx_tbl_in (i := 711) (by decide +kernel) rfl
theorem mw_712 : Cond.methodLink RX10 136 yX3_noteAsked ∈ hx_tbl := hx_tbl_in (i := 712) (by decide +kernel) rfl
theorem mw_713 : Cond.instanceMethod yX3_noteAsked ∈ hx_tbl := hx_tbl_in (i := 713) (by decide +kernel) rfl
theorem mw_714 : Cond.selects RX3 yX3_noteAsked yX3_noteAsked ∈ hx_tbl := hx_tbl_in (i := 714) (by decide +kernel) rfl
theorem mw_715 : Cond.code yX3_noteAsked cX3_noteAsked 6 (none) ∈ hx_tbl := hx_tbl_in (i := 715) (by decide +kernel) rfl
theorem mw_716 : Cond.methodLink RX10 89 yX3_lengthOf ∈ hx_tbl := hx_tbl_in (i := 716) (by decide +kernel) rfl
theorem mw_717 : Cond.instanceMethod yX3_lengthOf ∈ hx_tbl := hx_tbl_in (i := 717) (by decide +kernel) rfl
theorem mw_718 : Cond.selects RX3 yX3_lengthOf yX3_lengthOf ∈ hx_tbl := hx_tbl_in (i := 718) (by decide +kernel) rfl
theorem mw_719 : Cond.code yX3_lengthOf cX3_lengthOf 3 (some .int) ∈ hx_tbl := hx_tbl_in (i := 719) (by decide +kernel) rfl
theorem mw_720 : Cond.methodLink RX10 105 yX6_wishOf ∈ hx_tbl := hx_tbl_in (i := 720) (by decide +kernel) rfl
theorem mw_721 : Cond.instanceMethod yX6_wishOf ∈ hx_tbl := hx_tbl_in (i := 721) (by decide +kernel) rfl
theorem mw_722 : Cond.selects RX6 yX6_wishOf yX6_wishOf ∈ hx_tbl := hx_tbl_in (i := 722) (by decide +kernel) rfl
theorem mw_723 : Cond.code yX6_wishOf cX6_wishOf 9 (some .int) ∈ hx_tbl := hx_tbl_in (i := 723) (by decide +kernel) rfl
theorem mw_724 : Cond.methodLink RX6 37 yX3_lengthOf ∈ hx_tbl := hx_tbl_in (i := 724) (by decide +kernel) rfl
theorem mw_725 : Cond.methodLink RX6 54 yX6_look ∈ hx_tbl := hx_tbl_in (i := 725) (by decide +kernel) rfl
theorem mw_726 : Cond.instanceMethod yX6_look ∈ hx_tbl := hx_tbl_in (i := 726) (by decide +kernel) rfl
theorem mw_727 : Cond.selects RX6 yX6_look yX6_look ∈ hx_tbl := hx_tbl_in (i := 727) (by decide +kernel) rfl
theorem mw_728 : Cond.code yX6_look cX6_look 6 (none) ∈ hx_tbl := hx_tbl_in (i := 728) (by decide +kernel) rfl
theorem mw_729 : Cond.methodLink RX6 67 yJ7_fill_53178 ∈ hx_tbl := hx_tbl_in (i := 729) (by decide +kernel) rfl
theorem mw_730 : Cond.methodLink RX6 58 yJ9_max_7cf53 ∈ hx_tbl := hx_tbl_in (i := 730) (by decide +kernel) rfl
theorem mw_731 : Cond.methodLink RX6 63 yX6_wishByRules ∈ hx_tbl := hx_tbl_in (i := 731) (by decide +kernel) rfl
theorem mw_733 : Cond.instanceMethod yX6_wishByRules ∈ hx_tbl := hx_tbl_in (i := 733) (by decide +kernel) rfl
theorem mw_734 : Cond.code yX6_wishByRules cX6_wishByRules 10 (some .int) ∈ hx_tbl := hx_tbl_in (i := 734) (by decide +kernel) rfl
theorem mw_735 : Cond.methodLink RX6 85 yJ9_min_7cf53 ∈ hx_tbl := hx_tbl_in (i := 735) (by decide +kernel) rfl
theorem mw_736 : Cond.methodLink RX6 88 yX6_holds ∈ hx_tbl := hx_tbl_in (i := 736) (by decide +kernel) rfl
theorem mw_738 : Cond.instanceMethod yX6_holds ∈ hx_tbl := hx_tbl_in (i := 738) (by decide +kernel) rfl
theorem mw_739 : Cond.code yX6_holds cX6_holds 9 (some .boolean) ∈ hx_tbl := hx_tbl_in (i := 739) (by decide +kernel) rfl
theorem mw_740 : Cond.methodLink RX6 121 yX1_wordOf ∈ hx_tbl := hx_tbl_in (i := 740) (by decide +kernel) rfl
theorem mw_741 : Cond.static yX1_wordOf ∈ hx_tbl := hx_tbl_in (i := 741) (by decide +kernel) rfl
theorem mw_742 : Cond.code yX1_wordOf cX1_wordOf 1 (some .int) ∈ hx_tbl := hx_tbl_in (i := 742) (by decide +kernel) rfl
theorem mw_743 : Cond.methodLink RX6 124 yX1_compares ∈ hx_tbl := hx_tbl_in (i := 743) (by decide +kernel) rfl
theorem mw_744 : Cond.static yX1_compares ∈ hx_tbl := hx_tbl_in (i := 744) (by decide +kernel) rfl
theorem mw_745 : Cond.code yX1_compares cX1_compares 4 (some .boolean) ∈ hx_tbl := hx_tbl_in (i := 745) (by decide +kernel) rfl
theorem mw_746 : Cond.methodLink RX6 92 yX1_verbOf ∈ hx_tbl := hx_tbl_in (i := 746) (by decide +kernel) rfl
theorem mw_747 : Cond.static yX1_verbOf ∈ hx_tbl := hx_tbl_in (i := 747) (by decide +kernel) rfl
theorem mw_748 : Cond.code yX1_verbOf cX1_verbOf 1 (some .int) ∈ hx_tbl := hx_tbl_in (i := 748) (by decide +kernel) rfl
theorem mw_749 : Cond.methodLink RX6 96 yX6_meanOf ∈ hx_tbl := hx_tbl_in (i := 749) (by decide +kernel) rfl
theorem mw_751 : Cond.instanceMethod yX6_meanOf ∈ hx_tbl := hx_tbl_in (i := 751) (by decide +kernel) rfl
theorem mw_752 : Cond.code yX6_meanOf cX6_meanOf 6 (some .int) ∈ hx_tbl := hx_tbl_in (i := 752) (by decide +kernel) rfl
theorem mw_753 : Cond.methodLink RX6 106 yX1_whomOf ∈ hx_tbl := hx_tbl_in (i := 753) (by decide +kernel) rfl
theorem mw_754 : Cond.static yX1_whomOf ∈ hx_tbl := hx_tbl_in (i := 754) (by decide +kernel) rfl
theorem mw_755 : Cond.code yX1_whomOf cX1_whomOf 1 (some .int) ∈ hx_tbl := hx_tbl_in (i := 755) (by decide +kernel) rfl
theorem mw_756 : Cond.methodLink RX6 109 yX1_numberOf ∈ hx_tbl := hx_tbl_in (i := 756) (by decide +kernel) rfl
theorem mw_757 : Cond.static yX1_numberOf ∈ hx_tbl := hx_tbl_in (i := 757) (by decide +kernel) rfl
theorem mw_758 : Cond.code yX1_numberOf cX1_numberOf 1 (some .int) ∈ hx_tbl := hx_tbl_in (i := 758) (by decide +kernel) rfl
theorem mw_759 : Cond.methodLink RX6 112 yX3_shownBy ∈ hx_tbl := hx_tbl_in (i := 759) (by decide +kernel) rfl
theorem mw_760 : Cond.instanceMethod yX3_shownBy ∈ hx_tbl := hx_tbl_in (i := 760) (by decide +kernel) rfl
theorem mw_761 : Cond.selects RX3 yX3_shownBy yX3_shownBy ∈ hx_tbl := hx_tbl_in (i := 761) (by decide +kernel) rfl
theorem mw_762 : Cond.code yX3_shownBy cX3_shownBy 3 (some .int) ∈ hx_tbl := hx_tbl_in (i := 762) (by decide +kernel) rfl
theorem mw_763 : Cond.methodLink RX6 99 yX1_byOf ∈ hx_tbl := hx_tbl_in (i := 763) (by decide +kernel) rfl
theorem mw_764 : Cond.static yX1_byOf ∈ hx_tbl := hx_tbl_in (i := 764) (by decide +kernel) rfl
theorem mw_765 : Cond.code yX1_byOf cX1_byOf 1 (some .int) ∈ hx_tbl := hx_tbl_in (i := 765) (by decide +kernel) rfl
theorem mw_766 : Cond.methodLink RX6 102 yX6_goal ∈ hx_tbl := hx_tbl_in (i := 766) (by decide +kernel) rfl
theorem mw_768 : Cond.instanceMethod yX6_goal ∈ hx_tbl := hx_tbl_in (i := 768) (by decide +kernel) rfl
theorem mw_769 : Cond.code yX6_goal cX6_goal 4 (some .int) ∈ hx_tbl := hx_tbl_in (i := 769) (by decide +kernel) rfl
theorem mw_770 : Cond.methodLink RX6 118 yJ9_abs_0f7a4 ∈ hx_tbl := hx_tbl_in (i := 770) (by decide +kernel) rfl
theorem mw_771 : Cond.static yJ9_abs_0f7a4 ∈ hx_tbl := hx_tbl_in (i := 771) (by decide +kernel) rfl
theorem mw_772 : Cond.code yJ9_abs_0f7a4 cJ9_abs_0f7a4 1 (some .int) ∈ hx_tbl := hx_tbl_in (i := 772) (by decide +kernel) rfl
theorem mw_773 : Cond.methodLink RX10 140 yX4_tell ∈ hx_tbl := hx_tbl_in (i := 773) (by decide +kernel) rfl
theorem mw_774 : Cond.instanceMethod yX4_tell ∈ hx_tbl := hx_tbl_in (i := 774) (by decide +kernel) rfl
theorem mw_775 : Cond.selects RX4 yX4_tell yX4_tell ∈ hx_tbl := hx_tbl_in (i := 775) (by decide +kernel) rfl
theorem mw_776 : Cond.code yX4_tell cX4_tell 3 (none) ∈ hx_tbl := hx_tbl_in (i := 776) (by decide +kernel) rfl
theorem mw_777 : Cond.methodLink RX10 147 yJ9_abs_0f7a4 ∈ hx_tbl := hx_tbl_in (i := 777) (by decide +kernel) rfl
theorem mw_778 : Cond.methodLink RX10 150 yX10_pays ∈ hx_tbl := hx_tbl_in (i := 778) (by decide +kernel) rfl
theorem mw_780 : Cond.instanceMethod yX10_pays ∈ hx_tbl := hx_tbl_in (i := 780) (by decide +kernel) rfl
theorem mw_781 : Cond.code yX10_pays cX10_pays 4 (some .boolean) ∈ hx_tbl := hx_tbl_in (i := 781) (by decide +kernel) rfl
theorem mw_786 : Cond.methodLink RX11 177 yX10_hasSeason ∈ hx_tbl := hx_tbl_in (i := 786) (by decide +kernel) rfl
theorem mw_787 : Cond.instanceMethod yX10_hasSeason ∈ hx_tbl := hx_tbl_in (i := 787) (by decide +kernel) rfl
theorem mw_788 : Cond.selects RX10 yX10_hasSeason yX10_hasSeason ∈ hx_tbl := hx_tbl_in (i := 788) (by decide +kernel) rfl
theorem mw_789 : Cond.code yX10_hasSeason cX10_hasSeason 2 (some .boolean) ∈ hx_tbl := hx_tbl_in (i := 789) (by decide +kernel) rfl
theorem mw_790 : Cond.methodLinkNest RX10 79 yX11_within RX11 ∈ hx_tbl := hx_tbl_in (i := 790) (by decide +kernel) rfl
theorem mw_791 : Cond.methodLink RX11 180 yX10_lineAt ∈ hx_tbl := hx_tbl_in (i := 791) (by decide +kernel) rfl
theorem mw_792 : Cond.instanceMethod yX10_lineAt ∈ hx_tbl := hx_tbl_in (i := 792) (by decide +kernel) rfl
theorem mw_793 : Cond.selects RX10 yX10_lineAt yX10_lineAt ∈ hx_tbl := hx_tbl_in (i := 793) (by decide +kernel) rfl
theorem mw_794 : Cond.code yX10_lineAt cX10_lineAt 2 (some .int) ∈ hx_tbl := hx_tbl_in (i := 794) (by decide +kernel) rfl
theorem mw_799 : Cond.methodLink RX11 184 yX3_lengthOf ∈ hx_tbl := hx_tbl_in (i := 799) (by decide +kernel) rfl
theorem mw_804 : Cond.methodLink RX11 199 yX10_wishNow ∈ hx_tbl := hx_tbl_in (i := 804) (by decide +kernel) rfl
theorem mw_805 : Cond.instanceMethod yX10_wishNow ∈ hx_tbl := hx_tbl_in (i := 805) (by decide +kernel) rfl
theorem mw_806 : Cond.selects RX10 yX10_wishNow yX10_wishNow ∈ hx_tbl := hx_tbl_in (i := 806) (by decide +kernel) rfl
theorem mw_807 : Cond.code yX10_wishNow cX10_wishNow 3 (some .int) ∈ hx_tbl := hx_tbl_in (i := 807) (by decide +kernel) rfl
theorem mw_812 : Cond.methodLink RX11 206 yX9_rehearse ∈ hx_tbl := hx_tbl_in (i := 812) (by decide +kernel) rfl
theorem mw_813 : Cond.instanceMethod yX9_rehearse ∈ hx_tbl := hx_tbl_in (i := 813) (by decide +kernel) rfl
theorem mw_814 : Cond.selects RX9 yX9_rehearse yX9_rehearse ∈ hx_tbl := hx_tbl_in (i := 814) (by decide +kernel) rfl
theorem mw_815 : Cond.code yX9_rehearse cX9_rehearse 11 (none) ∈ hx_tbl := hx_tbl_in (i := 815) (by decide +kernel) rfl
theorem mw_816 : Cond.methodLink RX9 27 yX4_copyOf ∈ hx_tbl := hx_tbl_in (i := 816) (by decide +kernel) rfl
theorem mw_817 : Cond.instanceMethod yX4_copyOf ∈ hx_tbl := hx_tbl_in (i := 817) (by decide +kernel) rfl
theorem mw_818 : Cond.selects RX4 yX4_copyOf yX4_copyOf ∈ hx_tbl := hx_tbl_in (i := 818) (by decide +kernel) rfl
theorem mw_819 : Cond.code yX4_copyOf cX4_copyOf 2 (none) ∈ hx_tbl := hx_tbl_in (i := 819) (by decide +kernel) rfl
theorem mw_820 : Cond.methodLink RX4 38 ⟨"java/lang/System", "arraycopy", "(Ljava/lang/Object;ILjava/lang/Object;II)V"⟩ ∈ hx_tbl := hx_tbl_in (i := 820) (by decide +kernel) rfl
theorem mw_821 : Cond.methodLink RX9 49 yX10_pass ∈ hx_tbl := hx_tbl_in (i := 821) (by decide +kernel) rfl
theorem mw_822 : Cond.methodLink RX11 210 yX9_roundIn ∈ hx_tbl := hx_tbl_in (i := 822) (by decide +kernel) rfl
theorem mw_823 : Cond.instanceMethod yX9_roundIn ∈ hx_tbl := hx_tbl_in (i := 823) (by decide +kernel) rfl
theorem mw_824 : Cond.selects RX9 yX9_roundIn yX9_roundIn ∈ hx_tbl := hx_tbl_in (i := 824) (by decide +kernel) rfl
theorem mw_825 : Cond.code yX9_roundIn cX9_roundIn 6 (some .int) ∈ hx_tbl := hx_tbl_in (i := 825) (by decide +kernel) rfl
theorem mw_826 : Cond.methodLink RX9 53 yX9_sameBefore ∈ hx_tbl := hx_tbl_in (i := 826) (by decide +kernel) rfl
theorem mw_828 : Cond.instanceMethod yX9_sameBefore ∈ hx_tbl := hx_tbl_in (i := 828) (by decide +kernel) rfl
theorem mw_829 : Cond.code yX9_sameBefore cX9_sameBefore 5 (some .int) ∈ hx_tbl := hx_tbl_in (i := 829) (by decide +kernel) rfl
theorem mw_830 : Cond.methodLink RX9 57 yJ9_max_7cf53 ∈ hx_tbl := hx_tbl_in (i := 830) (by decide +kernel) rfl
theorem mw_831 : Cond.methodLink RX9 65 yX3_sameLengths ∈ hx_tbl := hx_tbl_in (i := 831) (by decide +kernel) rfl
theorem mw_832 : Cond.instanceMethod yX3_sameLengths ∈ hx_tbl := hx_tbl_in (i := 832) (by decide +kernel) rfl
theorem mw_833 : Cond.selects RX3 yX3_sameLengths yX3_sameLengths ∈ hx_tbl := hx_tbl_in (i := 833) (by decide +kernel) rfl
theorem mw_834 : Cond.code yX3_sameLengths cX3_sameLengths 5 (some .boolean) ∈ hx_tbl := hx_tbl_in (i := 834) (by decide +kernel) rfl
theorem mw_835 : Cond.methodLink RX3 49 yX3_lengthOf ∈ hx_tbl := hx_tbl_in (i := 835) (by decide +kernel) rfl
theorem mw_844 : Cond.methodLink RX11 214 yX0_changesOf ∈ hx_tbl := hx_tbl_in (i := 844) (by decide +kernel) rfl
theorem mw_845 : Cond.instanceMethod yX0_changesOf ∈ hx_tbl := hx_tbl_in (i := 845) (by decide +kernel) rfl
theorem mw_846 : Cond.selects RX0 yX0_changesOf yX0_changesOf ∈ hx_tbl := hx_tbl_in (i := 846) (by decide +kernel) rfl
theorem mw_847 : Cond.code yX0_changesOf cX0_changesOf 7 (some .int) ∈ hx_tbl := hx_tbl_in (i := 847) (by decide +kernel) rfl
theorem mw_848 : Cond.methodLink RX0 25 yX3_lengthOf ∈ hx_tbl := hx_tbl_in (i := 848) (by decide +kernel) rfl
theorem mw_849 : Cond.methodLink RX0 31 yX0_isLed ∈ hx_tbl := hx_tbl_in (i := 849) (by decide +kernel) rfl
theorem mw_851 : Cond.instanceMethod yX0_isLed ∈ hx_tbl := hx_tbl_in (i := 851) (by decide +kernel) rfl
theorem mw_852 : Cond.code yX0_isLed cX0_isLed 7 (some .boolean) ∈ hx_tbl := hx_tbl_in (i := 852) (by decide +kernel) rfl
theorem mw_853 : Cond.methodLink RX0 39 yX6_look ∈ hx_tbl := hx_tbl_in (i := 853) (by decide +kernel) rfl
theorem mw_854 : Cond.methodLink RX0 49 yJ9_abs_0f7a4 ∈ hx_tbl := hx_tbl_in (i := 854) (by decide +kernel) rfl
theorem mw_859 : Cond.methodLink RX11 217 yX0_startsOf ∈ hx_tbl := hx_tbl_in (i := 859) (by decide +kernel) rfl
theorem mw_860 : Cond.instanceMethod yX0_startsOf ∈ hx_tbl := hx_tbl_in (i := 860) (by decide +kernel) rfl
theorem mw_861 : Cond.selects RX0 yX0_startsOf yX0_startsOf ∈ hx_tbl := hx_tbl_in (i := 861) (by decide +kernel) rfl
theorem mw_862 : Cond.code yX0_startsOf cX0_startsOf 9 (some .int) ∈ hx_tbl := hx_tbl_in (i := 862) (by decide +kernel) rfl
theorem mw_863 : Cond.methodLink RX0 64 yX0_isAlone ∈ hx_tbl := hx_tbl_in (i := 863) (by decide +kernel) rfl
theorem mw_865 : Cond.instanceMethod yX0_isAlone ∈ hx_tbl := hx_tbl_in (i := 865) (by decide +kernel) rfl
theorem mw_866 : Cond.code yX0_isAlone cX0_isAlone 6 (some .boolean) ∈ hx_tbl := hx_tbl_in (i := 866) (by decide +kernel) rfl
theorem mw_867 : Cond.methodLink RX0 67 yX0_endOf ∈ hx_tbl := hx_tbl_in (i := 867) (by decide +kernel) rfl
theorem mw_869 : Cond.instanceMethod yX0_endOf ∈ hx_tbl := hx_tbl_in (i := 869) (by decide +kernel) rfl
theorem mw_870 : Cond.code yX0_endOf cX0_endOf 8 (some .int) ∈ hx_tbl := hx_tbl_in (i := 870) (by decide +kernel) rfl
theorem mw_871 : Cond.methodLink RX0 71 yJ9_min_7cf53 ∈ hx_tbl := hx_tbl_in (i := 871) (by decide +kernel) rfl
theorem mw_876 : Cond.methodLink RX11 220 yX0_mostLike ∈ hx_tbl := hx_tbl_in (i := 876) (by decide +kernel) rfl
theorem mw_877 : Cond.instanceMethod yX0_mostLike ∈ hx_tbl := hx_tbl_in (i := 877) (by decide +kernel) rfl
theorem mw_878 : Cond.selects RX0 yX0_mostLike yX0_mostLike ∈ hx_tbl := hx_tbl_in (i := 878) (by decide +kernel) rfl
theorem mw_879 : Cond.code yX0_mostLike cX0_mostLike 7 (some .int) ∈ hx_tbl := hx_tbl_in (i := 879) (by decide +kernel) rfl
theorem mw_880 : Cond.methodLink RX0 74 yX10_lineAt ∈ hx_tbl := hx_tbl_in (i := 880) (by decide +kernel) rfl
theorem mw_885 : Cond.methodLink RX11 223 yX4_streetCount ∈ hx_tbl := hx_tbl_in (i := 885) (by decide +kernel) rfl
theorem mw_886 : Cond.instanceMethod yX4_streetCount ∈ hx_tbl := hx_tbl_in (i := 886) (by decide +kernel) rfl
theorem mw_887 : Cond.selects RX4 yX4_streetCount yX4_streetCount ∈ hx_tbl := hx_tbl_in (i := 887) (by decide +kernel) rfl
theorem mw_888 : Cond.code yX4_streetCount cX4_streetCount 3 (some .int) ∈ hx_tbl := hx_tbl_in (i := 888) (by decide +kernel) rfl
theorem mw_889 : Cond.methodLink RX4 48 yX4_streetOf ∈ hx_tbl := hx_tbl_in (i := 889) (by decide +kernel) rfl
theorem mw_890 : Cond.instanceMethod yX4_streetOf ∈ hx_tbl := hx_tbl_in (i := 890) (by decide +kernel) rfl
theorem mw_891 : Cond.selects RX4 yX4_streetOf yX4_streetOf ∈ hx_tbl := hx_tbl_in (i := 891) (by decide +kernel) rfl
theorem mw_892 : Cond.code yX4_streetOf cX4_streetOf 5 (some .int) ∈ hx_tbl := hx_tbl_in (i := 892) (by decide +kernel) rfl
theorem mw_893 : Cond.methodLink RX4 44 yX4_withNeighbours ∈ hx_tbl := hx_tbl_in (i := 893) (by decide +kernel) rfl
theorem mw_895 : Cond.instanceMethod yX4_withNeighbours ∈ hx_tbl := hx_tbl_in (i := 895) (by decide +kernel) rfl
theorem mw_896 : Cond.code yX4_withNeighbours cX4_withNeighbours 4 (some .int) ∈ hx_tbl := hx_tbl_in (i := 896) (by decide +kernel) rfl
theorem mw_897 : Cond.methodLink RX4 51 yX4_leastOf ∈ hx_tbl := hx_tbl_in (i := 897) (by decide +kernel) rfl
theorem mw_898 : Cond.instanceMethod yX4_leastOf ∈ hx_tbl := hx_tbl_in (i := 898) (by decide +kernel) rfl
theorem mw_899 : Cond.selects RX4 yX4_leastOf yX4_leastOf ∈ hx_tbl := hx_tbl_in (i := 899) (by decide +kernel) rfl
theorem mw_900 : Cond.code yX4_leastOf cX4_leastOf 3 (some .int) ∈ hx_tbl := hx_tbl_in (i := 900) (by decide +kernel) rfl
theorem mw_901 : Cond.methodLink RX11 226 yX4_streetOf ∈ hx_tbl := hx_tbl_in (i := 901) (by decide +kernel) rfl
theorem mw_902 : Cond.methodLink RX11 229 yX4_leastOf ∈ hx_tbl := hx_tbl_in (i := 902) (by decide +kernel) rfl
theorem mw_903 : Cond.methodLink RX11 232 yX10_lineOf ∈ hx_tbl := hx_tbl_in (i := 903) (by decide +kernel) rfl
theorem mw_904 : Cond.instanceMethod yX10_lineOf ∈ hx_tbl := hx_tbl_in (i := 904) (by decide +kernel) rfl
theorem mw_905 : Cond.selects RX10 yX10_lineOf yX10_lineOf ∈ hx_tbl := hx_tbl_in (i := 905) (by decide +kernel) rfl
theorem mw_906 : Cond.code yX10_lineOf cX10_lineOf 4 (some .int) ∈ hx_tbl := hx_tbl_in (i := 906) (by decide +kernel) rfl
theorem mw_907 : Cond.methodLink RX10 93 yJ6_bitCount_0f7a4 ∈ hx_tbl := hx_tbl_in (i := 907) (by decide +kernel) rfl
theorem mw_908 : Cond.static yJ6_bitCount_0f7a4 ∈ hx_tbl := hx_tbl_in (i := 908) (by decide +kernel) rfl
theorem mw_909 : Cond.code yJ6_bitCount_0f7a4 cJ6_bitCount_0f7a4 1 (some .int) ∈ hx_tbl := hx_tbl_in (i := 909) (by decide +kernel) rfl
theorem mw_910 : Cond.constant RJ6 265 (1431655765) ∈ hx_tbl := hx_tbl_in (i := 910) (by decide +kernel) rfl
theorem mw_911 : Cond.constant RJ6 266 (858993459) ∈ hx_tbl := hx_tbl_in (i := 911) (by decide +kernel) rfl
theorem mw_912 : Cond.constant RJ6 267 (252645135) ∈ hx_tbl := hx_tbl_in (i := 912) (by decide +kernel) rfl
theorem mw_917 : Cond.methodLink RX11 235 yX8_followedSeasons ∈ hx_tbl := hx_tbl_in (i := 917) (by decide +kernel) rfl
theorem mw_918 : Cond.instanceMethod yX8_followedSeasons ∈ hx_tbl := hx_tbl_in (i := 918) (by decide +kernel) rfl
theorem mw_919 : Cond.selects RX8 yX8_followedSeasons yX8_followedSeasons ∈ hx_tbl := hx_tbl_in (i := 919) (by decide +kernel) rfl
theorem mw_920 : Cond.code yX8_followedSeasons cX8_followedSeasons 4 (some .int) ∈ hx_tbl := hx_tbl_in (i := 920) (by decide +kernel) rfl
theorem mw_921 : Cond.methodLink RX8 35 yX8_isFollowed ∈ hx_tbl := hx_tbl_in (i := 921) (by decide +kernel) rfl
theorem mw_923 : Cond.instanceMethod yX8_isFollowed ∈ hx_tbl := hx_tbl_in (i := 923) (by decide +kernel) rfl
theorem mw_924 : Cond.code yX8_isFollowed cX8_isFollowed 4 (some .boolean) ∈ hx_tbl := hx_tbl_in (i := 924) (by decide +kernel) rfl
theorem mw_925 : Cond.methodLink RX8 52 yX3_shownBy ∈ hx_tbl := hx_tbl_in (i := 925) (by decide +kernel) rfl
theorem mw_926 : Cond.methodLink RX8 31 yX8_isShown ∈ hx_tbl := hx_tbl_in (i := 926) (by decide +kernel) rfl
theorem mw_928 : Cond.instanceMethod yX8_isShown ∈ hx_tbl := hx_tbl_in (i := 928) (by decide +kernel) rfl
theorem mw_929 : Cond.code yX8_isShown cX8_isShown 3 (some .boolean) ∈ hx_tbl := hx_tbl_in (i := 929) (by decide +kernel) rfl
theorem mw_930 : Cond.methodLink RX8 58 yX10_lineAt ∈ hx_tbl := hx_tbl_in (i := 930) (by decide +kernel) rfl
theorem mw_931 : Cond.methodLink RX8 62 yJ9_abs_0f7a4 ∈ hx_tbl := hx_tbl_in (i := 931) (by decide +kernel) rfl
theorem mw_932 : Cond.methodLink RX11 238 yX8_shownSeasons ∈ hx_tbl := hx_tbl_in (i := 932) (by decide +kernel) rfl
theorem mw_933 : Cond.instanceMethod yX8_shownSeasons ∈ hx_tbl := hx_tbl_in (i := 933) (by decide +kernel) rfl
theorem mw_934 : Cond.selects RX8 yX8_shownSeasons yX8_shownSeasons ∈ hx_tbl := hx_tbl_in (i := 934) (by decide +kernel) rfl
theorem mw_935 : Cond.code yX8_shownSeasons cX8_shownSeasons 4 (some .int) ∈ hx_tbl := hx_tbl_in (i := 935) (by decide +kernel) rfl
theorem mw_940 : Cond.constantLong RX11 241 (-1) ∈ hx_tbl := hx_tbl_in (i := 940) (by decide +kernel) rfl
theorem mw_941 : Cond.methodLink RX11 243 yX8_waysOf ∈ hx_tbl := hx_tbl_in (i := 941) (by decide +kernel) rfl
theorem mw_942 : Cond.instanceMethod yX8_waysOf ∈ hx_tbl := hx_tbl_in (i := 942) (by decide +kernel) rfl
theorem mw_943 : Cond.selects RX8 yX8_waysOf yX8_waysOf ∈ hx_tbl := hx_tbl_in (i := 943) (by decide +kernel) rfl
theorem mw_944 : Cond.code yX8_waysOf cX8_waysOf 8 (some .long) ∈ hx_tbl := hx_tbl_in (i := 944) (by decide +kernel) rfl
theorem mw_945 : Cond.methodLink RX8 38 yJ7_fill_d0a16 ∈ hx_tbl := hx_tbl_in (i := 945) (by decide +kernel) rfl
theorem mw_946 : Cond.static yJ7_fill_d0a16 ∈ hx_tbl := hx_tbl_in (i := 946) (by decide +kernel) rfl
theorem mw_947 : Cond.code yJ7_fill_d0a16 cJ7_fill_d0a16 5 (none) ∈ hx_tbl := hx_tbl_in (i := 947) (by decide +kernel) rfl
theorem mw_948 : Cond.methodLink RX8 44 yX8_chooseIn ∈ hx_tbl := hx_tbl_in (i := 948) (by decide +kernel) rfl
theorem mw_950 : Cond.instanceMethod yX8_chooseIn ∈ hx_tbl := hx_tbl_in (i := 950) (by decide +kernel) rfl
theorem mw_951 : Cond.code yX8_chooseIn cX8_chooseIn 5 (none) ∈ hx_tbl := hx_tbl_in (i := 951) (by decide +kernel) rfl
theorem mw_956 : Cond.methodLink RX11 247 yX8_gather ∈ hx_tbl := hx_tbl_in (i := 956) (by decide +kernel) rfl
theorem mw_957 : Cond.instanceMethod yX8_gather ∈ hx_tbl := hx_tbl_in (i := 957) (by decide +kernel) rfl
theorem mw_958 : Cond.selects RX8 yX8_gather yX8_gather ∈ hx_tbl := hx_tbl_in (i := 958) (by decide +kernel) rfl
theorem mw_959 : Cond.code yX8_gather cX8_gather 6 (none) ∈ hx_tbl := hx_tbl_in (i := 959) (by decide +kernel) rfl
theorem mw_960 : Cond.methodLink RX8 71 yJ6_compare_7cf53 ∈ hx_tbl := hx_tbl_in (i := 960) (by decide +kernel) rfl
theorem mw_961 : Cond.static yJ6_compare_7cf53 ∈ hx_tbl := hx_tbl_in (i := 961) (by decide +kernel) rfl
theorem mw_962 : Cond.code yJ6_compare_7cf53 cJ6_compare_7cf53 2 (some .int) ∈ hx_tbl := hx_tbl_in (i := 962) (by decide +kernel) rfl
theorem mw_963 : Cond.methodLink RX11 250 yX8_odds ∈ hx_tbl := hx_tbl_in (i := 963) (by decide +kernel) rfl
theorem mw_964 : Cond.instanceMethod yX8_odds ∈ hx_tbl := hx_tbl_in (i := 964) (by decide +kernel) rfl
theorem mw_965 : Cond.selects RX8 yX8_odds yX8_odds ∈ hx_tbl := hx_tbl_in (i := 965) (by decide +kernel) rfl
theorem mw_966 : Cond.code yX8_odds cX8_odds 6 (some .long) ∈ hx_tbl := hx_tbl_in (i := 966) (by decide +kernel) rfl
theorem mw_971 : Cond.methodLink RX11 260 yX8_bestLag ∈ hx_tbl := hx_tbl_in (i := 971) (by decide +kernel) rfl
theorem mw_972 : Cond.instanceMethod yX8_bestLag ∈ hx_tbl := hx_tbl_in (i := 972) (by decide +kernel) rfl
theorem mw_973 : Cond.selects RX8 yX8_bestLag yX8_bestLag ∈ hx_tbl := hx_tbl_in (i := 973) (by decide +kernel) rfl
theorem mw_974 : Cond.code yX8_bestLag cX8_bestLag 7 (some .int) ∈ hx_tbl := hx_tbl_in (i := 974) (by decide +kernel) rfl
theorem mw_975 : Cond.methodLink RX8 76 yX8_gather ∈ hx_tbl := hx_tbl_in (i := 975) (by decide +kernel) rfl
theorem mw_976 : Cond.methodLink RX8 79 yX8_odds ∈ hx_tbl := hx_tbl_in (i := 976) (by decide +kernel) rfl
theorem mw_981 : Cond.methodLink RX11 263 yX5_add ∈ hx_tbl := hx_tbl_in (i := 981) (by decide +kernel) rfl
theorem mw_982 : Cond.instanceMethod yX5_add ∈ hx_tbl := hx_tbl_in (i := 982) (by decide +kernel) rfl
theorem mw_983 : Cond.selects RX5 yX5_add yX5_add ∈ hx_tbl := hx_tbl_in (i := 983) (by decide +kernel) rfl
theorem mw_984 : Cond.code yX5_add cX5_add 4 (some .int) ∈ hx_tbl := hx_tbl_in (i := 984) (by decide +kernel) rfl
theorem mw_989 : Cond.methodLink RX11 266 yX5_offOf ∈ hx_tbl := hx_tbl_in (i := 989) (by decide +kernel) rfl
theorem mw_990 : Cond.instanceMethod yX5_offOf ∈ hx_tbl := hx_tbl_in (i := 990) (by decide +kernel) rfl
theorem mw_991 : Cond.selects RX5 yX5_offOf yX5_offOf ∈ hx_tbl := hx_tbl_in (i := 991) (by decide +kernel) rfl
theorem mw_992 : Cond.code yX5_offOf cX5_offOf 7 (some .int) ∈ hx_tbl := hx_tbl_in (i := 992) (by decide +kernel) rfl
theorem mw_993 : Cond.methodLink RX5 29 yX10_hasSeason ∈ hx_tbl := hx_tbl_in (i := 993) (by decide +kernel) rfl
theorem mw_994 : Cond.methodLink RX5 35 yX10_lineAt ∈ hx_tbl := hx_tbl_in (i := 994) (by decide +kernel) rfl
theorem mw_995 : Cond.methodLink RX5 39 yJ9_abs_0f7a4 ∈ hx_tbl := hx_tbl_in (i := 995) (by decide +kernel) rfl
theorem mw_996 : Cond.methodLink RX5 44 yX5_isWithinWorn ∈ hx_tbl := hx_tbl_in (i := 996) (by decide +kernel) rfl
theorem mw_998 : Cond.instanceMethod yX5_isWithinWorn ∈ hx_tbl := hx_tbl_in (i := 998) (by decide +kernel) rfl
theorem mw_999 : Cond.code yX5_isWithinWorn cX5_isWithinWorn 7 (some .boolean) ∈ hx_tbl := hx_tbl_in (i := 999) (by decide +kernel) rfl
theorem mw_1000 : Cond.methodLink RX5 59 yX3_lengthOf ∈ hx_tbl := hx_tbl_in (i := 1000) (by decide +kernel) rfl
theorem mw_1001 : Cond.methodLink RX5 65 yJ9_min_7cf53 ∈ hx_tbl := hx_tbl_in (i := 1001) (by decide +kernel) rfl
theorem mw_1002 : Cond.methodLink RX5 68 yJ9_max_7cf53 ∈ hx_tbl := hx_tbl_in (i := 1002) (by decide +kernel) rfl
theorem mw_1003 : Cond.methodLinkNest RX5 71 yX11_within RX11 ∈ hx_tbl := hx_tbl_in (i := 1003) (by decide +kernel) rfl
theorem mw_1008 : Cond.methodLink RX11 269 yX0_visitsOf ∈ hx_tbl := hx_tbl_in (i := 1008) (by decide +kernel) rfl
theorem mw_1009 : Cond.instanceMethod yX0_visitsOf ∈ hx_tbl := hx_tbl_in (i := 1009) (by decide +kernel) rfl
theorem mw_1010 : Cond.selects RX0 yX0_visitsOf yX0_visitsOf ∈ hx_tbl := hx_tbl_in (i := 1010) (by decide +kernel) rfl
theorem mw_1011 : Cond.code yX0_visitsOf cX0_visitsOf 8 (some .int) ∈ hx_tbl := hx_tbl_in (i := 1011) (by decide +kernel) rfl
theorem mw_1012 : Cond.methodLink RX0 77 yJ9_max_7cf53 ∈ hx_tbl := hx_tbl_in (i := 1012) (by decide +kernel) rfl
theorem mw_1017 : Cond.methodLink RX11 272 yX10_keepForetold ∈ hx_tbl := hx_tbl_in (i := 1017) (by decide +kernel) rfl
theorem mw_1018 : Cond.instanceMethod yX10_keepForetold ∈ hx_tbl := hx_tbl_in (i := 1018) (by decide +kernel) rfl
theorem mw_1019 : Cond.selects RX10 yX10_keepForetold yX10_keepForetold ∈ hx_tbl := hx_tbl_in (i := 1019) (by decide +kernel) rfl
theorem mw_1020 : Cond.code yX10_keepForetold cX10_keepForetold 4 (some .int) ∈ hx_tbl := hx_tbl_in (i := 1020) (by decide +kernel) rfl
theorem mw_1025 : Cond.methodLink RX11 287 yJ9_abs_0f7a4 ∈ hx_tbl := hx_tbl_in (i := 1025) (by decide +kernel) rfl
theorem mw_1030 : Cond.methodLink RX11 292 yX0_farFromLine ∈ hx_tbl := hx_tbl_in (i := 1030) (by decide +kernel) rfl
theorem mw_1031 : Cond.instanceMethod yX0_farFromLine ∈ hx_tbl := hx_tbl_in (i := 1031) (by decide +kernel) rfl
theorem mw_1032 : Cond.selects RX0 yX0_farFromLine yX0_farFromLine ∈ hx_tbl := hx_tbl_in (i := 1032) (by decide +kernel) rfl
theorem mw_1033 : Cond.code yX0_farFromLine cX0_farFromLine 9 (some .int) ∈ hx_tbl := hx_tbl_in (i := 1033) (by decide +kernel) rfl
theorem mw_1038 : Cond.methodLink RX11 296 yX7_gatherWishes ∈ hx_tbl := hx_tbl_in (i := 1038) (by decide +kernel) rfl
theorem mw_1039 : Cond.instanceMethod yX7_gatherWishes ∈ hx_tbl := hx_tbl_in (i := 1039) (by decide +kernel) rfl
theorem mw_1040 : Cond.selects RX7 yX7_gatherWishes yX7_gatherWishes ∈ hx_tbl := hx_tbl_in (i := 1040) (by decide +kernel) rfl
theorem mw_1041 : Cond.code yX7_gatherWishes cX7_gatherWishes 4 (none) ∈ hx_tbl := hx_tbl_in (i := 1041) (by decide +kernel) rfl
theorem mw_1042 : Cond.methodLink RX7 46 yJ7_fill_53178 ∈ hx_tbl := hx_tbl_in (i := 1042) (by decide +kernel) rfl
theorem mw_1043 : Cond.methodLink RX7 63 yX10_wishNow ∈ hx_tbl := hx_tbl_in (i := 1043) (by decide +kernel) rfl
theorem mw_1044 : Cond.methodLinkNest RX7 67 yX11_within RX11 ∈ hx_tbl := hx_tbl_in (i := 1044) (by decide +kernel) rfl
theorem mw_1045 : Cond.methodLink RX11 299 yX7_order ∈ hx_tbl := hx_tbl_in (i := 1045) (by decide +kernel) rfl
theorem mw_1046 : Cond.instanceMethod yX7_order ∈ hx_tbl := hx_tbl_in (i := 1046) (by decide +kernel) rfl
theorem mw_1047 : Cond.selects RX7 yX7_order yX7_order ∈ hx_tbl := hx_tbl_in (i := 1047) (by decide +kernel) rfl
theorem mw_1048 : Cond.code yX7_order cX7_order 4 (none) ∈ hx_tbl := hx_tbl_in (i := 1048) (by decide +kernel) rfl
theorem mw_1049 : Cond.methodLink RX7 32 yX7_beyond ∈ hx_tbl := hx_tbl_in (i := 1049) (by decide +kernel) rfl
theorem mw_1051 : Cond.instanceMethod yX7_beyond ∈ hx_tbl := hx_tbl_in (i := 1051) (by decide +kernel) rfl
theorem mw_1052 : Cond.code yX7_beyond cX7_beyond 2 (some .int) ∈ hx_tbl := hx_tbl_in (i := 1052) (by decide +kernel) rfl
theorem mw_1053 : Cond.methodLink RX7 36 yX7_leastBehind ∈ hx_tbl := hx_tbl_in (i := 1053) (by decide +kernel) rfl
theorem mw_1055 : Cond.instanceMethod yX7_leastBehind ∈ hx_tbl := hx_tbl_in (i := 1055) (by decide +kernel) rfl
theorem mw_1056 : Cond.code yX7_leastBehind cX7_leastBehind 5 (some .int) ∈ hx_tbl := hx_tbl_in (i := 1056) (by decide +kernel) rfl
theorem mw_1057 : Cond.constant RX7 71 (1048576) ∈ hx_tbl := hx_tbl_in (i := 1057) (by decide +kernel) rfl
theorem mw_1058 : Cond.methodLink RX7 72 yX7_between ∈ hx_tbl := hx_tbl_in (i := 1058) (by decide +kernel) rfl
theorem mw_1060 : Cond.instanceMethod yX7_between ∈ hx_tbl := hx_tbl_in (i := 1060) (by decide +kernel) rfl
theorem mw_1061 : Cond.code yX7_between cX7_between 6 (some .int) ∈ hx_tbl := hx_tbl_in (i := 1061) (by decide +kernel) rfl
theorem mw_1062 : Cond.methodLink RX7 75 yJ9_min_7cf53 ∈ hx_tbl := hx_tbl_in (i := 1062) (by decide +kernel) rfl
theorem mw_1063 : Cond.methodLink RX7 40 yX7_leastFrom ∈ hx_tbl := hx_tbl_in (i := 1063) (by decide +kernel) rfl
theorem mw_1065 : Cond.instanceMethod yX7_leastFrom ∈ hx_tbl := hx_tbl_in (i := 1065) (by decide +kernel) rfl
theorem mw_1066 : Cond.code yX7_leastFrom cX7_leastFrom 8 (some .int) ∈ hx_tbl := hx_tbl_in (i := 1066) (by decide +kernel) rfl
theorem mw_1067 : Cond.methodLink RX7 43 yX7_upTo ∈ hx_tbl := hx_tbl_in (i := 1067) (by decide +kernel) rfl
theorem mw_1069 : Cond.instanceMethod yX7_upTo ∈ hx_tbl := hx_tbl_in (i := 1069) (by decide +kernel) rfl
theorem mw_1070 : Cond.code yX7_upTo cX7_upTo 2 (some .int) ∈ hx_tbl := hx_tbl_in (i := 1070) (by decide +kernel) rfl
theorem mw_1075 : Cond.methodLink RX11 308 yX11_lawReadingBest ∈ hx_tbl := hx_tbl_in (i := 1075) (by decide +kernel) rfl
theorem mw_1077 : Cond.instanceMethod yX11_lawReadingBest ∈ hx_tbl := hx_tbl_in (i := 1077) (by decide +kernel) rfl
theorem mw_1078 : Cond.code yX11_lawReadingBest cX11_lawReadingBest 5 (some .int) ∈ hx_tbl := hx_tbl_in (i := 1078) (by decide +kernel) rfl
theorem mw_1079 : Cond.methodLink RX11 311 yX0_offOf ∈ hx_tbl := hx_tbl_in (i := 1079) (by decide +kernel) rfl
theorem mw_1080 : Cond.instanceMethod yX0_offOf ∈ hx_tbl := hx_tbl_in (i := 1080) (by decide +kernel) rfl
theorem mw_1081 : Cond.selects RX0 yX0_offOf yX0_offOf ∈ hx_tbl := hx_tbl_in (i := 1081) (by decide +kernel) rfl
theorem mw_1082 : Cond.code yX0_offOf cX0_offOf 7 (some .int) ∈ hx_tbl := hx_tbl_in (i := 1082) (by decide +kernel) rfl
theorem mw_1083 : Cond.methodLink RX0 83 yX3_coinAsked ∈ hx_tbl := hx_tbl_in (i := 1083) (by decide +kernel) rfl
theorem mw_1084 : Cond.instanceMethod yX3_coinAsked ∈ hx_tbl := hx_tbl_in (i := 1084) (by decide +kernel) rfl
theorem mw_1085 : Cond.selects RX3 yX3_coinAsked yX3_coinAsked ∈ hx_tbl := hx_tbl_in (i := 1085) (by decide +kernel) rfl
theorem mw_1086 : Cond.code yX3_coinAsked cX3_coinAsked 3 (some .int) ∈ hx_tbl := hx_tbl_in (i := 1086) (by decide +kernel) rfl
theorem mw_1087 : Cond.methodLink RX0 86 yX3_wornAsked ∈ hx_tbl := hx_tbl_in (i := 1087) (by decide +kernel) rfl
theorem mw_1088 : Cond.instanceMethod yX3_wornAsked ∈ hx_tbl := hx_tbl_in (i := 1088) (by decide +kernel) rfl
theorem mw_1089 : Cond.selects RX3 yX3_wornAsked yX3_wornAsked ∈ hx_tbl := hx_tbl_in (i := 1089) (by decide +kernel) rfl
theorem mw_1090 : Cond.code yX3_wornAsked cX3_wornAsked 3 (some .int) ∈ hx_tbl := hx_tbl_in (i := 1090) (by decide +kernel) rfl
theorem mw_1091 : Cond.methodLink RX0 89 yX3_chanceAsked ∈ hx_tbl := hx_tbl_in (i := 1091) (by decide +kernel) rfl
theorem mw_1092 : Cond.instanceMethod yX3_chanceAsked ∈ hx_tbl := hx_tbl_in (i := 1092) (by decide +kernel) rfl
theorem mw_1093 : Cond.selects RX3 yX3_chanceAsked yX3_chanceAsked ∈ hx_tbl := hx_tbl_in (i := 1093) (by decide +kernel) rfl
theorem mw_1094 : Cond.code yX3_chanceAsked cX3_chanceAsked 3 (some .int) ∈ hx_tbl := hx_tbl_in (i := 1094) (by decide +kernel) rfl
theorem mw_1095 : Cond.methodLink RX0 92 yX6_wishOf ∈ hx_tbl := hx_tbl_in (i := 1095) (by decide +kernel) rfl
theorem mw_1100 : Cond.methodLink RX11 314 yX10_copyOf ∈ hx_tbl := hx_tbl_in (i := 1100) (by decide +kernel) rfl
theorem mw_1101 : Cond.instanceMethod yX10_copyOf ∈ hx_tbl := hx_tbl_in (i := 1101) (by decide +kernel) rfl
theorem mw_1102 : Cond.selects RX10 yX10_copyOf yX10_copyOf ∈ hx_tbl := hx_tbl_in (i := 1102) (by decide +kernel) rfl
theorem mw_1103 : Cond.code yX10_copyOf cX10_copyOf 2 (none) ∈ hx_tbl := hx_tbl_in (i := 1103) (by decide +kernel) rfl
theorem mw_1104 : Cond.methodLink RX10 66 yX4_copyOf ∈ hx_tbl := hx_tbl_in (i := 1104) (by decide +kernel) rfl
theorem mw_1105 : Cond.methodLink RX10 70 yX3_copyOf ∈ hx_tbl := hx_tbl_in (i := 1105) (by decide +kernel) rfl
theorem mw_1106 : Cond.instanceMethod yX3_copyOf ∈ hx_tbl := hx_tbl_in (i := 1106) (by decide +kernel) rfl
theorem mw_1107 : Cond.selects RX3 yX3_copyOf yX3_copyOf ∈ hx_tbl := hx_tbl_in (i := 1107) (by decide +kernel) rfl
theorem mw_1108 : Cond.code yX3_copyOf cX3_copyOf 4 (none) ∈ hx_tbl := hx_tbl_in (i := 1108) (by decide +kernel) rfl
theorem mw_1109 : Cond.methodLink RX3 52 yJ9_min_7cf53 ∈ hx_tbl := hx_tbl_in (i := 1109) (by decide +kernel) rfl
theorem mw_1110 : Cond.methodLink RX10 73 ⟨"java/lang/System", "arraycopy", "(Ljava/lang/Object;ILjava/lang/Object;II)V"⟩ ∈ hx_tbl := hx_tbl_in (i := 1110) (by decide +kernel) rfl
theorem mw_1119 : Cond.methodLink RX11 324 yX3_shownBy ∈ hx_tbl := hx_tbl_in (i := 1119) (by decide +kernel) rfl
theorem mw_1127 : Cond.fieldLink RX12 154 "HemLineModel" "people" "I" ∈ hx_tbl := hx_tbl_in (i := 1127) (by decide +kernel) rfl
theorem mw_1128 : Cond.fieldLink RX12 161 "HemLineModel" "season" "I" ∈ hx_tbl := hx_tbl_in (i := 1128) (by decide +kernel) rfl
theorem mw_1129 : Cond.fieldLink RX12 164 "HemLineModel" "money" "I" ∈ hx_tbl := hx_tbl_in (i := 1129) (by decide +kernel) rfl
theorem mw_1130 : Cond.fieldLink RX12 171 "HemLineModel" "price" "I" ∈ hx_tbl := hx_tbl_in (i := 1130) (by decide +kernel) rfl
theorem mw_1131 : Cond.fieldLink RX12 174 "HemLineModel" "seam" "I" ∈ hx_tbl := hx_tbl_in (i := 1131) (by decide +kernel) rfl
theorem mw_1132 : Cond.fieldLink RX12 177 "HemLineModel" "over" "I" ∈ hx_tbl := hx_tbl_in (i := 1132) (by decide +kernel) rfl
theorem mw_1133 : Cond.fieldLink RX12 7 "HemLineModel" "z" "J" ∈ hx_tbl := hx_tbl_in (i := 1133) (by decide +kernel) rfl
theorem mw_1134 : Cond.fieldLink RX12 13 "HemLineModel" "rank" "[I" ∈ hx_tbl := hx_tbl_in (i := 1134) (by decide +kernel) rfl
theorem mw_1135 : Cond.fieldLink RX12 17 "HemLineModel" "purse" "[I" ∈ hx_tbl := hx_tbl_in (i := 1135) (by decide +kernel) rfl
theorem mw_1136 : Cond.fieldLink RX12 20 "HemLineModel" "coin" "[I" ∈ hx_tbl := hx_tbl_in (i := 1136) (by decide +kernel) rfl
theorem mw_1137 : Cond.fieldLink RX12 23 "HemLineModel" "worn" "[I" ∈ hx_tbl := hx_tbl_in (i := 1137) (by decide +kernel) rfl
theorem mw_1138 : Cond.fieldLink RX12 26 "HemLineModel" "sees" "[I" ∈ hx_tbl := hx_tbl_in (i := 1138) (by decide +kernel) rfl
theorem mw_1139 : Cond.fieldLink RX12 29 "HemLineModel" "house" "[I" ∈ hx_tbl := hx_tbl_in (i := 1139) (by decide +kernel) rfl
theorem mw_1140 : Cond.fieldLink RX12 32 "HemLineModel" "counts" "[I" ∈ hx_tbl := hx_tbl_in (i := 1140) (by decide +kernel) rfl
theorem mw_1141 : Cond.fieldLink RX12 35 "HemLineModel" "lengths" "[I" ∈ hx_tbl := hx_tbl_in (i := 1141) (by decide +kernel) rfl
theorem mw_1142 : Cond.fieldLink RX12 38 "HemLineModel" "coins" "[I" ∈ hx_tbl := hx_tbl_in (i := 1142) (by decide +kernel) rfl
theorem mw_1143 : Cond.fieldLink RX12 41 "HemLineModel" "worns" "[I" ∈ hx_tbl := hx_tbl_in (i := 1143) (by decide +kernel) rfl
theorem mw_1144 : Cond.fieldLink RX12 44 "HemLineModel" "chances" "[I" ∈ hx_tbl := hx_tbl_in (i := 1144) (by decide +kernel) rfl
theorem mw_1145 : Cond.fieldLink RX12 47 "HemLineModel" "houses" "[I" ∈ hx_tbl := hx_tbl_in (i := 1145) (by decide +kernel) rfl
theorem mw_1146 : Cond.fieldLink RX12 50 "HemLineModel" "monies" "[I" ∈ hx_tbl := hx_tbl_in (i := 1146) (by decide +kernel) rfl
theorem mw_1147 : Cond.fieldLink RX12 293 "HemLineModel" "laws" "I" ∈ hx_tbl := hx_tbl_in (i := 1147) (by decide +kernel) rfl
theorem mw_1148 : Cond.fieldLink RX12 53 "HemLineModel" "inForce" "I" ∈ hx_tbl := hx_tbl_in (i := 1148) (by decide +kernel) rfl
theorem mw_1149 : Cond.fieldLink RX12 235 "HemLineModel" "stepMany" "I" ∈ hx_tbl := hx_tbl_in (i := 1149) (by decide +kernel) rfl
theorem mw_1150 : Cond.fieldLink RX12 181 "HemLineModel" "taped" "I" ∈ hx_tbl := hx_tbl_in (i := 1150) (by decide +kernel) rfl
theorem mw_1151 : Cond.fieldLink RX12 191 "HemLineModel" "size" "I" ∈ hx_tbl := hx_tbl_in (i := 1151) (by decide +kernel) rfl
theorem mw_1152 : Cond.fieldLink RX12 188 "HemLineModel" "at" "I" ∈ hx_tbl := hx_tbl_in (i := 1152) (by decide +kernel) rfl
theorem mw_1153 : Cond.fieldLink RX12 238 "HemLineModel" "deep" "I" ∈ hx_tbl := hx_tbl_in (i := 1153) (by decide +kernel) rfl
theorem mw_1154 : Cond.fieldLink RX12 57 "HemLineModel" "fault" "I" ∈ hx_tbl := hx_tbl_in (i := 1154) (by decide +kernel) rfl
theorem mw_1155 : Cond.fieldLink RX12 60 "HemLineModel" "rules" "[I" ∈ hx_tbl := hx_tbl_in (i := 1155) (by decide +kernel) rfl
theorem mw_1156 : Cond.fieldLink RX12 63 "HemLineModel" "act" "[I" ∈ hx_tbl := hx_tbl_in (i := 1156) (by decide +kernel) rfl
theorem mw_1157 : Cond.fieldLink RX12 66 "HemLineModel" "whom" "[I" ∈ hx_tbl := hx_tbl_in (i := 1157) (by decide +kernel) rfl
theorem mw_1158 : Cond.fieldLink RX12 69 "HemLineModel" "whomBy" "[I" ∈ hx_tbl := hx_tbl_in (i := 1158) (by decide +kernel) rfl
theorem mw_1159 : Cond.fieldLink RX12 72 "HemLineModel" "by" "[I" ∈ hx_tbl := hx_tbl_in (i := 1159) (by decide +kernel) rfl
theorem mw_1160 : Cond.fieldLink RX12 75 "HemLineModel" "from" "[I" ∈ hx_tbl := hx_tbl_in (i := 1160) (by decide +kernel) rfl
theorem mw_1161 : Cond.fieldLink RX12 78 "HemLineModel" "to" "[I" ∈ hx_tbl := hx_tbl_in (i := 1161) (by decide +kernel) rfl
theorem mw_1162 : Cond.fieldLink RX12 81 "HemLineModel" "op" "[I" ∈ hx_tbl := hx_tbl_in (i := 1162) (by decide +kernel) rfl
theorem mw_1163 : Cond.fieldLink RX12 84 "HemLineModel" "asked" "[I" ∈ hx_tbl := hx_tbl_in (i := 1163) (by decide +kernel) rfl
theorem mw_1164 : Cond.fieldLink RX12 87 "HemLineModel" "than" "[I" ∈ hx_tbl := hx_tbl_in (i := 1164) (by decide +kernel) rfl
theorem mw_1165 : Cond.fieldLink RX12 90 "HemLineModel" "pile" "[Z" ∈ hx_tbl := hx_tbl_in (i := 1165) (by decide +kernel) rfl
theorem mw_1166 : Cond.fieldLink RX12 94 "HemLineModel" "tape" "[B" ∈ hx_tbl := hx_tbl_in (i := 1166) (by decide +kernel) rfl
theorem mw_1167 : Cond.fieldLink RX12 98 "HemLineModel" "text" "[B" ∈ hx_tbl := hx_tbl_in (i := 1167) (by decide +kernel) rfl
theorem mw_1168 : Cond.fieldLink RX12 197 "HemLineModel" "wordEnd" "I" ∈ hx_tbl := hx_tbl_in (i := 1168) (by decide +kernel) rfl
theorem mw_1169 : Cond.fieldLink RX12 204 "HemLineModel" "read" "I" ∈ hx_tbl := hx_tbl_in (i := 1169) (by decide +kernel) rfl
theorem mw_1170 : Cond.fieldLink RX12 101 "HemLineModel" "means" "[I" ∈ hx_tbl := hx_tbl_in (i := 1170) (by decide +kernel) rfl
theorem mw_1171 : Cond.fieldLink RX12 104 "HemLineModel" "here" "[I" ∈ hx_tbl := hx_tbl_in (i := 1171) (by decide +kernel) rfl
theorem mw_1172 : Cond.fieldLink RX12 325 "HemLineModel" "wantedBy" "I" ∈ hx_tbl := hx_tbl_in (i := 1172) (by decide +kernel) rfl
theorem mw_1173 : Cond.fieldLink RX12 107 "HemLineModel" "aside" "[I" ∈ hx_tbl := hx_tbl_in (i := 1173) (by decide +kernel) rfl
theorem mw_1174 : Cond.fieldLink RX12 371 "HemLineModel" "asideZ" "J" ∈ hx_tbl := hx_tbl_in (i := 1174) (by decide +kernel) rfl
theorem mw_1175 : Cond.fieldLink RX12 377 "HemLineModel" "shuts" "I" ∈ hx_tbl := hx_tbl_in (i := 1175) (by decide +kernel) rfl
theorem mw_1176 : Cond.fieldLink RX12 380 "HemLineModel" "turned" "I" ∈ hx_tbl := hx_tbl_in (i := 1176) (by decide +kernel) rfl
theorem mw_1177 : Cond.fieldLink RX12 110 "HemLineModel" "streetOf" "[I" ∈ hx_tbl := hx_tbl_in (i := 1177) (by decide +kernel) rfl
theorem mw_1178 : Cond.fieldLink RX12 113 "HemLineModel" "ways" "[J" ∈ hx_tbl := hx_tbl_in (i := 1178) (by decide +kernel) rfl
theorem mw_1179 : Cond.fieldLink RX12 415 "HemLineModel" "hits" "I" ∈ hx_tbl := hx_tbl_in (i := 1179) (by decide +kernel) rfl
theorem mw_1180 : Cond.fieldLink RX12 418 "HemLineModel" "couples" "I" ∈ hx_tbl := hx_tbl_in (i := 1180) (by decide +kernel) rfl
theorem mw_1181 : Cond.fieldLink RX12 117 "HemLineModel" "choose" "[J" ∈ hx_tbl := hx_tbl_in (i := 1181) (by decide +kernel) rfl
theorem mw_1182 : Cond.fieldLink RX12 428 "HemLineModel" "plates" "I" ∈ hx_tbl := hx_tbl_in (i := 1182) (by decide +kernel) rfl
theorem mw_1183 : Cond.fieldLink RX12 120 "HemLineModel" "platePaper" "[I" ∈ hx_tbl := hx_tbl_in (i := 1183) (by decide +kernel) rfl
theorem mw_1184 : Cond.fieldLink RX12 123 "HemLineModel" "plateSeason" "[I" ∈ hx_tbl := hx_tbl_in (i := 1184) (by decide +kernel) rfl
theorem mw_1185 : Cond.fieldLink RX12 126 "HemLineModel" "plateLength" "[I" ∈ hx_tbl := hx_tbl_in (i := 1185) (by decide +kernel) rfl
theorem mw_1186 : Cond.fieldLink RX12 434 "HemLineModel" "foretolds" "I" ∈ hx_tbl := hx_tbl_in (i := 1186) (by decide +kernel) rfl
theorem mw_1187 : Cond.fieldLink RX12 129 "HemLineModel" "toldLine" "[I" ∈ hx_tbl := hx_tbl_in (i := 1187) (by decide +kernel) rfl
theorem mw_1188 : Cond.fieldLink RX12 132 "HemLineModel" "toldSeason" "[I" ∈ hx_tbl := hx_tbl_in (i := 1188) (by decide +kernel) rfl
theorem mw_1189 : Cond.fieldLink RX12 135 "HemLineModel" "toldNow" "[I" ∈ hx_tbl := hx_tbl_in (i := 1189) (by decide +kernel) rfl
theorem mw_1190 : Cond.fieldLink RX12 138 "HemLineModel" "wanted" "[I" ∈ hx_tbl := hx_tbl_in (i := 1190) (by decide +kernel) rfl
theorem mw_1191 : Cond.fieldLink RX12 141 "HemLineModel" "rest" "[I" ∈ hx_tbl := hx_tbl_in (i := 1191) (by decide +kernel) rfl
theorem mw_1192 : Cond.fieldLink RX12 450 "HemLineModel" "images" "I" ∈ hx_tbl := hx_tbl_in (i := 1192) (by decide +kernel) rfl
theorem mw_1193 : Cond.fieldLink RX12 447 "HemLineModel" "place" "I" ∈ hx_tbl := hx_tbl_in (i := 1193) (by decide +kernel) rfl
theorem mw_1194 : Cond.fieldLink RX12 145 "HemLineModel" "image" "[I" ∈ hx_tbl := hx_tbl_in (i := 1194) (by decide +kernel) rfl
theorem mw_1195 : Cond.fieldLink RX12 148 "HemLineModel" "imageZ" "[J" ∈ hx_tbl := hx_tbl_in (i := 1195) (by decide +kernel) rfl
theorem mw_1196 : Cond.fieldLink RX12 151 "HemLineModel" "some" "[I" ∈ hx_tbl := hx_tbl_in (i := 1196) (by decide +kernel) rfl
theorem mw_1343 : Cond.methodLink RX12 157 yX12_isIn ∈ hx_tbl := hx_tbl_in (i := 1343) (by decide +kernel) rfl
theorem mw_1344 : Cond.static yX12_isIn ∈ hx_tbl := hx_tbl_in (i := 1344) (by decide +kernel) rfl
theorem mw_1345 : Cond.code yX12_isIn cX12_isIn 3 (some .boolean) ∈ hx_tbl := hx_tbl_in (i := 1345) (by decide +kernel) rfl
theorem mw_1350 : Cond.methodLink RX12 167 yX12_isPerson ∈ hx_tbl := hx_tbl_in (i := 1350) (by decide +kernel) rfl
theorem mw_1352 : Cond.instanceMethod yX12_isPerson ∈ hx_tbl := hx_tbl_in (i := 1352) (by decide +kernel) rfl
theorem mw_1353 : Cond.code yX12_isPerson cX12_isPerson 2 (some .boolean) ∈ hx_tbl := hx_tbl_in (i := 1353) (by decide +kernel) rfl
theorem mw_1370 : Cond.constant RX12 180 (999999999) ∈ hx_tbl := hx_tbl_in (i := 1370) (by decide +kernel) rfl
theorem mw_1375 : Cond.methodLink RX12 184 yX12_four ∈ hx_tbl := hx_tbl_in (i := 1375) (by decide +kernel) rfl
theorem mw_1377 : Cond.instanceMethod yX12_four ∈ hx_tbl := hx_tbl_in (i := 1377) (by decide +kernel) rfl
theorem mw_1378 : Cond.code yX12_four cX12_four 3 (none) ∈ hx_tbl := hx_tbl_in (i := 1378) (by decide +kernel) rfl
theorem mw_1383 : Cond.methodLink RX12 194 yX12_blanks ∈ hx_tbl := hx_tbl_in (i := 1383) (by decide +kernel) rfl
theorem mw_1385 : Cond.instanceMethod yX12_blanks ∈ hx_tbl := hx_tbl_in (i := 1385) (by decide +kernel) rfl
theorem mw_1386 : Cond.code yX12_blanks cX12_blanks 1 (none) ∈ hx_tbl := hx_tbl_in (i := 1386) (by decide +kernel) rfl
theorem mw_1392 : Cond.methodLink RX12 247 yX12_takes ∈ hx_tbl := hx_tbl_in (i := 1392) (by decide +kernel) rfl
theorem mw_1394 : Cond.instanceMethod yX12_takes ∈ hx_tbl := hx_tbl_in (i := 1394) (by decide +kernel) rfl
theorem mw_1395 : Cond.code yX12_takes cX12_takes 3 (some .boolean) ∈ hx_tbl := hx_tbl_in (i := 1395) (by decide +kernel) rfl
theorem mw_1396 : Cond.methodLink RX12 200 yX12_word ∈ hx_tbl := hx_tbl_in (i := 1396) (by decide +kernel) rfl
theorem mw_1398 : Cond.instanceMethod yX12_word ∈ hx_tbl := hx_tbl_in (i := 1398) (by decide +kernel) rfl
theorem mw_1399 : Cond.code yX12_word cX12_word 3 (some .long) ∈ hx_tbl := hx_tbl_in (i := 1399) (by decide +kernel) rfl
theorem mw_1406 : Cond.methodLink RX12 215 yX12_mean ∈ hx_tbl := hx_tbl_in (i := 1406) (by decide +kernel) rfl
theorem mw_1407 : Cond.static yX12_mean ∈ hx_tbl := hx_tbl_in (i := 1407) (by decide +kernel) rfl
theorem mw_1408 : Cond.code yX12_mean cX12_mean 2 (some .int) ∈ hx_tbl := hx_tbl_in (i := 1408) (by decide +kernel) rfl
theorem mw_1409 : Cond.constantLong RX12 207 (418263299685) ∈ hx_tbl := hx_tbl_in (i := 1409) (by decide +kernel) rfl
theorem mw_1410 : Cond.constantLong RX12 209 (422608400247) ∈ hx_tbl := hx_tbl_in (i := 1410) (by decide +kernel) rfl
theorem mw_1411 : Cond.constantLong RX12 211 (418430675813) ∈ hx_tbl := hx_tbl_in (i := 1411) (by decide +kernel) rfl
theorem mw_1412 : Cond.constantLong RX12 213 (6384748) ∈ hx_tbl := hx_tbl_in (i := 1412) (by decide +kernel) rfl
theorem mw_1413 : Cond.constantLong RX12 278 (448546567013) ∈ hx_tbl := hx_tbl_in (i := 1413) (by decide +kernel) rfl
theorem mw_1414 : Cond.constantLong RX12 280 (7302244) ∈ hx_tbl := hx_tbl_in (i := 1414) (by decide +kernel) rfl
theorem mw_1415 : Cond.methodLink RX12 274 yX12_takesNumber ∈ hx_tbl := hx_tbl_in (i := 1415) (by decide +kernel) rfl
theorem mw_1417 : Cond.instanceMethod yX12_takesNumber ∈ hx_tbl := hx_tbl_in (i := 1417) (by decide +kernel) rfl
theorem mw_1418 : Cond.code yX12_takesNumber cX12_takesNumber 4 (some .boolean) ∈ hx_tbl := hx_tbl_in (i := 1418) (by decide +kernel) rfl
theorem mw_1448 : Cond.constantLong RX12 219 (126879263846254) ∈ hx_tbl := hx_tbl_in (i := 1448) (by decide +kernel) rfl
theorem mw_1449 : Cond.constantLong RX12 221 (119182899770472) ∈ hx_tbl := hx_tbl_in (i := 1449) (by decide +kernel) rfl
theorem mw_1450 : Cond.constantLong RX12 223 (483006772069) ∈ hx_tbl := hx_tbl_in (i := 1450) (by decide +kernel) rfl
theorem mw_1451 : Cond.constantLong RX12 225 (1668245870) ∈ hx_tbl := hx_tbl_in (i := 1451) (by decide +kernel) rfl
theorem mw_1452 : Cond.constantLong RX12 227 (1918987883) ∈ hx_tbl := hx_tbl_in (i := 1452) (by decide +kernel) rfl
theorem mw_1453 : Cond.constantLong RX12 229 (470020941177) ∈ hx_tbl := hx_tbl_in (i := 1453) (by decide +kernel) rfl
theorem mw_1454 : Cond.constantLong RX12 231 (109299962372965) ∈ hx_tbl := hx_tbl_in (i := 1454) (by decide +kernel) rfl
theorem mw_1455 : Cond.constantLong RX12 233 (2003792494) ∈ hx_tbl := hx_tbl_in (i := 1455) (by decide +kernel) rfl
theorem mw_1470 : Cond.methodLink RX12 359 yX12_step ∈ hx_tbl := hx_tbl_in (i := 1470) (by decide +kernel) rfl
theorem mw_1472 : Cond.instanceMethod yX12_step ∈ hx_tbl := hx_tbl_in (i := 1472) (by decide +kernel) rfl
theorem mw_1473 : Cond.code yX12_step cX12_step 2 (none) ∈ hx_tbl := hx_tbl_in (i := 1473) (by decide +kernel) rfl
theorem mw_1474 : Cond.methodLink RX12 353 yX12_begins ∈ hx_tbl := hx_tbl_in (i := 1474) (by decide +kernel) rfl
theorem mw_1476 : Cond.instanceMethod yX12_begins ∈ hx_tbl := hx_tbl_in (i := 1476) (by decide +kernel) rfl
theorem mw_1477 : Cond.code yX12_begins cX12_begins 2 (none) ∈ hx_tbl := hx_tbl_in (i := 1477) (by decide +kernel) rfl
theorem mw_1478 : Cond.methodLink RX12 356 yX12_goes ∈ hx_tbl := hx_tbl_in (i := 1478) (by decide +kernel) rfl
theorem mw_1480 : Cond.instanceMethod yX12_goes ∈ hx_tbl := hx_tbl_in (i := 1480) (by decide +kernel) rfl
theorem mw_1481 : Cond.code yX12_goes cX12_goes 9 (none) ∈ hx_tbl := hx_tbl_in (i := 1481) (by decide +kernel) rfl
theorem mw_1482 : Cond.constantLong RX12 340 (6364136223846793005) ∈ hx_tbl := hx_tbl_in (i := 1482) (by decide +kernel) rfl
theorem mw_1483 : Cond.constantLong RX12 342 (1442695040888963407) ∈ hx_tbl := hx_tbl_in (i := 1483) (by decide +kernel) rfl
theorem mw_1484 : Cond.constantLong RX12 344 (100) ∈ hx_tbl := hx_tbl_in (i := 1484) (by decide +kernel) rfl
theorem mw_1485 : Cond.methodLink RX12 334 yJ9_min_7cf53 ∈ hx_tbl := hx_tbl_in (i := 1485) (by decide +kernel) rfl
theorem mw_1486 : Cond.methodLink RX12 302 yX12_lengthAt ∈ hx_tbl := hx_tbl_in (i := 1486) (by decide +kernel) rfl
theorem mw_1488 : Cond.instanceMethod yX12_lengthAt ∈ hx_tbl := hx_tbl_in (i := 1488) (by decide +kernel) rfl
theorem mw_1489 : Cond.code yX12_lengthAt cX12_lengthAt 3 (some .int) ∈ hx_tbl := hx_tbl_in (i := 1489) (by decide +kernel) rfl
theorem mw_1490 : Cond.methodLink RX12 346 yX12_wants ∈ hx_tbl := hx_tbl_in (i := 1490) (by decide +kernel) rfl
theorem mw_1492 : Cond.instanceMethod yX12_wants ∈ hx_tbl := hx_tbl_in (i := 1492) (by decide +kernel) rfl
theorem mw_1493 : Cond.code yX12_wants cX12_wants 10 (some .int) ∈ hx_tbl := hx_tbl_in (i := 1493) (by decide +kernel) rfl
theorem mw_1494 : Cond.methodLink RX12 313 yX12_meanOf ∈ hx_tbl := hx_tbl_in (i := 1494) (by decide +kernel) rfl
theorem mw_1496 : Cond.instanceMethod yX12_meanOf ∈ hx_tbl := hx_tbl_in (i := 1496) (by decide +kernel) rfl
theorem mw_1497 : Cond.code yX12_meanOf cX12_meanOf 7 (some .int) ∈ hx_tbl := hx_tbl_in (i := 1497) (by decide +kernel) rfl
theorem mw_1498 : Cond.methodLink RX12 299 yX12_has ∈ hx_tbl := hx_tbl_in (i := 1498) (by decide +kernel) rfl
theorem mw_1499 : Cond.static yX12_has ∈ hx_tbl := hx_tbl_in (i := 1499) (by decide +kernel) rfl
theorem mw_1500 : Cond.code yX12_has cX12_has 2 (some .boolean) ∈ hx_tbl := hx_tbl_in (i := 1500) (by decide +kernel) rfl
theorem mw_1501 : Cond.methodLink RX12 317 yX12_moneyAt ∈ hx_tbl := hx_tbl_in (i := 1501) (by decide +kernel) rfl
theorem mw_1503 : Cond.instanceMethod yX12_moneyAt ∈ hx_tbl := hx_tbl_in (i := 1503) (by decide +kernel) rfl
theorem mw_1504 : Cond.code yX12_moneyAt cX12_moneyAt 2 (some .int) ∈ hx_tbl := hx_tbl_in (i := 1504) (by decide +kernel) rfl
theorem mw_1505 : Cond.methodLink RX12 320 yJ9_max_7cf53 ∈ hx_tbl := hx_tbl_in (i := 1505) (by decide +kernel) rfl
theorem mw_1506 : Cond.methodLink RX12 328 yX12_isTrue ∈ hx_tbl := hx_tbl_in (i := 1506) (by decide +kernel) rfl
theorem mw_1508 : Cond.instanceMethod yX12_isTrue ∈ hx_tbl := hx_tbl_in (i := 1508) (by decide +kernel) rfl
theorem mw_1509 : Cond.code yX12_isTrue cX12_isTrue 6 (some .boolean) ∈ hx_tbl := hx_tbl_in (i := 1509) (by decide +kernel) rfl
theorem mw_1510 : Cond.methodLink RX12 331 yX12_meanBy ∈ hx_tbl := hx_tbl_in (i := 1510) (by decide +kernel) rfl
theorem mw_1512 : Cond.instanceMethod yX12_meanBy ∈ hx_tbl := hx_tbl_in (i := 1512) (by decide +kernel) rfl
theorem mw_1513 : Cond.code yX12_meanBy cX12_meanBy 3 (some .int) ∈ hx_tbl := hx_tbl_in (i := 1513) (by decide +kernel) rfl
theorem mw_1514 : Cond.methodLink RX12 306 yX12_houseAt ∈ hx_tbl := hx_tbl_in (i := 1514) (by decide +kernel) rfl
theorem mw_1516 : Cond.instanceMethod yX12_houseAt ∈ hx_tbl := hx_tbl_in (i := 1516) (by decide +kernel) rfl
theorem mw_1517 : Cond.code yX12_houseAt cX12_houseAt 3 (some .int) ∈ hx_tbl := hx_tbl_in (i := 1517) (by decide +kernel) rfl
theorem mw_1518 : Cond.methodLink RX12 309 yX12_meanOfAll ∈ hx_tbl := hx_tbl_in (i := 1518) (by decide +kernel) rfl
theorem mw_1520 : Cond.instanceMethod yX12_meanOfAll ∈ hx_tbl := hx_tbl_in (i := 1520) (by decide +kernel) rfl
theorem mw_1521 : Cond.code yX12_meanOfAll cX12_meanOfAll 4 (some .int) ∈ hx_tbl := hx_tbl_in (i := 1521) (by decide +kernel) rfl
theorem mw_1522 : Cond.methodLink RX12 337 yJ9_abs_0f7a4 ∈ hx_tbl := hx_tbl_in (i := 1522) (by decide +kernel) rfl
theorem mw_1523 : Cond.methodLink RX12 350 yX12_counts ∈ hx_tbl := hx_tbl_in (i := 1523) (by decide +kernel) rfl
theorem mw_1525 : Cond.instanceMethod yX12_counts ∈ hx_tbl := hx_tbl_in (i := 1525) (by decide +kernel) rfl
theorem mw_1526 : Cond.code yX12_counts cX12_counts 3 (none) ∈ hx_tbl := hx_tbl_in (i := 1526) (by decide +kernel) rfl
theorem mw_1531 : Cond.methodLink RX12 362 yX12_isSeason ∈ hx_tbl := hx_tbl_in (i := 1531) (by decide +kernel) rfl
theorem mw_1533 : Cond.instanceMethod yX12_isSeason ∈ hx_tbl := hx_tbl_in (i := 1533) (by decide +kernel) rfl
theorem mw_1534 : Cond.code yX12_isSeason cX12_isSeason 2 (some .boolean) ∈ hx_tbl := hx_tbl_in (i := 1534) (by decide +kernel) rfl
theorem mw_1535 : Cond.methodLink RX12 365 yX12_lineAt ∈ hx_tbl := hx_tbl_in (i := 1535) (by decide +kernel) rfl
theorem mw_1537 : Cond.instanceMethod yX12_lineAt ∈ hx_tbl := hx_tbl_in (i := 1537) (by decide +kernel) rfl
theorem mw_1538 : Cond.code yX12_lineAt cX12_lineAt 4 (some .int) ∈ hx_tbl := hx_tbl_in (i := 1538) (by decide +kernel) rfl
theorem mw_1547 : Cond.methodLink RX12 368 yX12_wantsNow ∈ hx_tbl := hx_tbl_in (i := 1547) (by decide +kernel) rfl
theorem mw_1549 : Cond.instanceMethod yX12_wantsNow ∈ hx_tbl := hx_tbl_in (i := 1549) (by decide +kernel) rfl
theorem mw_1550 : Cond.code yX12_wantsNow cX12_wantsNow 2 (some .int) ∈ hx_tbl := hx_tbl_in (i := 1550) (by decide +kernel) rfl
theorem mw_1555 : Cond.methodLink RX12 389 yX12_mayTry ∈ hx_tbl := hx_tbl_in (i := 1555) (by decide +kernel) rfl
theorem mw_1557 : Cond.instanceMethod yX12_mayTry ∈ hx_tbl := hx_tbl_in (i := 1557) (by decide +kernel) rfl
theorem mw_1558 : Cond.code yX12_mayTry cX12_mayTry 1 (some .boolean) ∈ hx_tbl := hx_tbl_in (i := 1558) (by decide +kernel) rfl
theorem mw_1559 : Cond.methodLink RX12 392 yX12_tries ∈ hx_tbl := hx_tbl_in (i := 1559) (by decide +kernel) rfl
theorem mw_1561 : Cond.instanceMethod yX12_tries ∈ hx_tbl := hx_tbl_in (i := 1561) (by decide +kernel) rfl
theorem mw_1562 : Cond.code yX12_tries cX12_tries 9 (none) ∈ hx_tbl := hx_tbl_in (i := 1562) (by decide +kernel) rfl
theorem mw_1563 : Cond.methodLink RX12 374 yX12_keeps ∈ hx_tbl := hx_tbl_in (i := 1563) (by decide +kernel) rfl
theorem mw_1565 : Cond.instanceMethod yX12_keeps ∈ hx_tbl := hx_tbl_in (i := 1565) (by decide +kernel) rfl
theorem mw_1566 : Cond.code yX12_keeps cX12_keeps 2 (none) ∈ hx_tbl := hx_tbl_in (i := 1566) (by decide +kernel) rfl
theorem mw_1567 : Cond.methodLink RX12 383 yX12_isAlike ∈ hx_tbl := hx_tbl_in (i := 1567) (by decide +kernel) rfl
theorem mw_1569 : Cond.instanceMethod yX12_isAlike ∈ hx_tbl := hx_tbl_in (i := 1569) (by decide +kernel) rfl
theorem mw_1570 : Cond.code yX12_isAlike cX12_isAlike 5 (some .boolean) ∈ hx_tbl := hx_tbl_in (i := 1570) (by decide +kernel) rfl
theorem mw_1571 : Cond.methodLink RX12 386 yX12_takesBack ∈ hx_tbl := hx_tbl_in (i := 1571) (by decide +kernel) rfl
theorem mw_1573 : Cond.instanceMethod yX12_takesBack ∈ hx_tbl := hx_tbl_in (i := 1573) (by decide +kernel) rfl
theorem mw_1574 : Cond.code yX12_takesBack cX12_takesBack 2 (none) ∈ hx_tbl := hx_tbl_in (i := 1574) (by decide +kernel) rfl
theorem mw_1583 : Cond.methodLink RX12 396 yX12_one ∈ hx_tbl := hx_tbl_in (i := 1583) (by decide +kernel) rfl
theorem mw_1584 : Cond.static yX12_one ∈ hx_tbl := hx_tbl_in (i := 1584) (by decide +kernel) rfl
theorem mw_1585 : Cond.code yX12_one cX12_one 1 (some .int) ∈ hx_tbl := hx_tbl_in (i := 1585) (by decide +kernel) rfl
theorem mw_1590 : Cond.methodLink RX12 400 yX12_isAlone ∈ hx_tbl := hx_tbl_in (i := 1590) (by decide +kernel) rfl
theorem mw_1592 : Cond.instanceMethod yX12_isAlone ∈ hx_tbl := hx_tbl_in (i := 1592) (by decide +kernel) rfl
theorem mw_1593 : Cond.code yX12_isAlone cX12_isAlone 6 (some .boolean) ∈ hx_tbl := hx_tbl_in (i := 1593) (by decide +kernel) rfl
theorem mw_1594 : Cond.methodLink RX12 403 yX12_endsBy ∈ hx_tbl := hx_tbl_in (i := 1594) (by decide +kernel) rfl
theorem mw_1596 : Cond.instanceMethod yX12_endsBy ∈ hx_tbl := hx_tbl_in (i := 1596) (by decide +kernel) rfl
theorem mw_1597 : Cond.code yX12_endsBy cX12_endsBy 6 (some .int) ∈ hx_tbl := hx_tbl_in (i := 1597) (by decide +kernel) rfl
theorem mw_1606 : Cond.methodLink RX12 407 yX12_streets ∈ hx_tbl := hx_tbl_in (i := 1606) (by decide +kernel) rfl
theorem mw_1608 : Cond.instanceMethod yX12_streets ∈ hx_tbl := hx_tbl_in (i := 1608) (by decide +kernel) rfl
theorem mw_1609 : Cond.code yX12_streets cX12_streets 4 (none) ∈ hx_tbl := hx_tbl_in (i := 1609) (by decide +kernel) rfl
theorem mw_1614 : Cond.methodLink RX12 410 yX12_isFollowed ∈ hx_tbl := hx_tbl_in (i := 1614) (by decide +kernel) rfl
theorem mw_1616 : Cond.instanceMethod yX12_isFollowed ∈ hx_tbl := hx_tbl_in (i := 1616) (by decide +kernel) rfl
theorem mw_1617 : Cond.code yX12_isFollowed cX12_isFollowed 4 (some .boolean) ∈ hx_tbl := hx_tbl_in (i := 1617) (by decide +kernel) rfl
theorem mw_1622 : Cond.constantLong RX12 413 (-1) ∈ hx_tbl := hx_tbl_in (i := 1622) (by decide +kernel) rfl
theorem mw_1627 : Cond.methodLink RX12 421 yX12_claims ∈ hx_tbl := hx_tbl_in (i := 1627) (by decide +kernel) rfl
theorem mw_1629 : Cond.instanceMethod yX12_claims ∈ hx_tbl := hx_tbl_in (i := 1629) (by decide +kernel) rfl
theorem mw_1630 : Cond.code yX12_claims cX12_claims 5 (none) ∈ hx_tbl := hx_tbl_in (i := 1630) (by decide +kernel) rfl
theorem mw_1631 : Cond.methodLink RX12 424 yX12_atLeast ∈ hx_tbl := hx_tbl_in (i := 1631) (by decide +kernel) rfl
theorem mw_1633 : Cond.instanceMethod yX12_atLeast ∈ hx_tbl := hx_tbl_in (i := 1633) (by decide +kernel) rfl
theorem mw_1634 : Cond.code yX12_atLeast cX12_atLeast 6 (some .long) ∈ hx_tbl := hx_tbl_in (i := 1634) (by decide +kernel) rfl
theorem mw_1647 : Cond.methodLink RX12 431 yX12_isWithin ∈ hx_tbl := hx_tbl_in (i := 1647) (by decide +kernel) rfl
theorem mw_1649 : Cond.instanceMethod yX12_isWithin ∈ hx_tbl := hx_tbl_in (i := 1649) (by decide +kernel) rfl
theorem mw_1650 : Cond.code yX12_isWithin cX12_isWithin 6 (some .boolean) ∈ hx_tbl := hx_tbl_in (i := 1650) (by decide +kernel) rfl
theorem mw_1671 : Cond.methodLink RX12 441 yX12_shops ∈ hx_tbl := hx_tbl_in (i := 1671) (by decide +kernel) rfl
theorem mw_1673 : Cond.instanceMethod yX12_shops ∈ hx_tbl := hx_tbl_in (i := 1673) (by decide +kernel) rfl
theorem mw_1674 : Cond.code yX12_shops cX12_shops 6 (none) ∈ hx_tbl := hx_tbl_in (i := 1674) (by decide +kernel) rfl
theorem mw_1675 : Cond.methodLink RX12 437 yX12_between ∈ hx_tbl := hx_tbl_in (i := 1675) (by decide +kernel) rfl
theorem mw_1677 : Cond.instanceMethod yX12_between ∈ hx_tbl := hx_tbl_in (i := 1677) (by decide +kernel) rfl
theorem mw_1678 : Cond.code yX12_between cX12_between 6 (some .int) ∈ hx_tbl := hx_tbl_in (i := 1678) (by decide +kernel) rfl
theorem mw_1679 : Cond.constant RX12 440 (1000000) ∈ hx_tbl := hx_tbl_in (i := 1679) (by decide +kernel) rfl
theorem mw_1684 : Cond.methodLink RX12 444 yX12_readBy ∈ hx_tbl := hx_tbl_in (i := 1684) (by decide +kernel) rfl
theorem mw_1686 : Cond.instanceMethod yX12_readBy ∈ hx_tbl := hx_tbl_in (i := 1686) (by decide +kernel) rfl
theorem mw_1687 : Cond.code yX12_readBy cX12_readBy 6 (some .int) ∈ hx_tbl := hx_tbl_in (i := 1687) (by decide +kernel) rfl
theorem mw_1692 : Cond.methodLink RX12 453 yX12_lays ∈ hx_tbl := hx_tbl_in (i := 1692) (by decide +kernel) rfl
theorem mw_1694 : Cond.instanceMethod yX12_lays ∈ hx_tbl := hx_tbl_in (i := 1694) (by decide +kernel) rfl
theorem mw_1695 : Cond.code yX12_lays cX12_lays 4 (none) ∈ hx_tbl := hx_tbl_in (i := 1695) (by decide +kernel) rfl
theorem mw_1700 : Cond.methodLink RX12 457 yX12_fetches ∈ hx_tbl := hx_tbl_in (i := 1700) (by decide +kernel) rfl
theorem mw_1702 : Cond.instanceMethod yX12_fetches ∈ hx_tbl := hx_tbl_in (i := 1702) (by decide +kernel) rfl
theorem mw_1703 : Cond.code yX12_fetches cX12_fetches 4 (none) ∈ hx_tbl := hx_tbl_in (i := 1703) (by decide +kernel) rfl
theorem inX0 : ∀ w ∈ u_ws RX0 TX0 1, w ∈ hx_tbl := hx_in_of [351] (by decide +kernel) (by decide +kernel)
theorem inX1 : ∀ w ∈ u_ws RX1 TX1 2, w ∈ hx_tbl := hx_in_of [624, 626] (by decide +kernel) (by decide +kernel)
theorem inX10 : ∀ w ∈ u_ws RX10 TX10 12, w ∈ hx_tbl := hx_in_of [304, 306, 308, 310, 312, 314, 316, 318, 320, 322, 324, 326] (by decide +kernel) (by decide +kernel)
theorem inX11 : ∀ w ∈ u_ws RX11 TX11 15, w ∈ hx_tbl := hx_in_of [442, 444, 446, 448, 450, 452, 454, 456, 458, 460, 462, 464, 466, 468, 470] (by decide +kernel) (by decide +kernel)
theorem inX12 : ∀ w ∈ u_ws RX12 TX12 70, w ∈ hx_tbl := hx_in_of [1197, 1199, 1201, 1203, 1205, 1207, 1209, 1211, 1213, 1215, 1217, 1219, 1221, 1223, 1225, 1227, 1229, 1231, 1233, 1235, 1237, 1239, 1241, 1243, 1245, 1247, 1249, 1251, 1253, 1255, 1257, 1259, 1261, 1263, 1265, 1267, 1269, 1271, 1273, 1275, 1277, 1279, 1281, 1283, 1285, 1287, 1289, 1291, 1293, 1295, 1297, 1299, 1301, 1303, 1305, 1307, 1309, 1311, 1313, 1315, 1317, 1319, 1321, 1323, 1325, 1327, 1329, 1331, 1333, 1335] (by decide +kernel) (by decide +kernel)
theorem inX2 : ∀ w ∈ u_ws RX2 TX2 7, w ∈ hx_tbl := hx_in_of [126, 128, 130, 132, 134, 136, 138] (by decide +kernel) (by decide +kernel)
theorem inX3 : ∀ w ∈ u_ws RX3 TX3 6, w ∈ hx_tbl := hx_in_of [228, 230, 232, 234, 236, 238] (by decide +kernel) (by decide +kernel)
theorem inX4 : ∀ w ∈ u_ws RX4 TX4 7, w ∈ hx_tbl := hx_in_of [184, 186, 188, 190, 192, 194, 196] (by decide +kernel) (by decide +kernel)
theorem inX5 : ∀ w ∈ u_ws RX5 TX5 5, w ∈ hx_tbl := hx_in_of [388, 390, 392, 394, 396] (by decide +kernel) (by decide +kernel)
theorem inX6 : ∀ w ∈ u_ws RX6 TX6 6, w ∈ hx_tbl := hx_in_of [255, 257, 259, 261, 263, 265] (by decide +kernel) (by decide +kernel)
theorem inX7 : ∀ w ∈ u_ws RX7 TX7 6, w ∈ hx_tbl := hx_in_of [413, 415, 417, 419, 421, 423] (by decide +kernel) (by decide +kernel)
theorem inX8 : ∀ w ∈ u_ws RX8 TX8 4, w ∈ hx_tbl := hx_in_of [366, 368, 370, 372] (by decide +kernel) (by decide +kernel)
theorem inX9 : ∀ w ∈ u_ws RX9 TX9 2, w ∈ hx_tbl := hx_in_of [339, 341] (by decide +kernel) (by decide +kernel)
theorem bipush_10 : (Int8.ofInt 10).toInt32 = 10 := by decide +kernel
theorem bipush_100 : (Int8.ofInt 100).toInt32 = 100 := by decide +kernel
theorem bipush_11 : (Int8.ofInt 11).toInt32 = 11 := by decide +kernel
theorem bipush_12 : (Int8.ofInt 12).toInt32 = 12 := by decide +kernel
theorem bipush_122 : (Int8.ofInt 122).toInt32 = 122 := by decide +kernel
theorem bipush_127 : (Int8.ofInt 127).toInt32 = 127 := by decide +kernel
theorem bipush_13 : (Int8.ofInt 13).toInt32 = 13 := by decide +kernel
theorem bipush_14 : (Int8.ofInt 14).toInt32 = 14 := by decide +kernel
theorem bipush_15 : (Int8.ofInt 15).toInt32 = 15 := by decide +kernel
theorem bipush_16 : (Int8.ofInt 16).toInt32 = 16 := by decide +kernel
theorem bipush_18 : (Int8.ofInt 18).toInt32 = 18 := by decide +kernel
theorem bipush_19 : (Int8.ofInt 19).toInt32 = 19 := by decide +kernel
theorem bipush_20 : (Int8.ofInt 20).toInt32 = 20 := by decide +kernel
theorem bipush_24 : (Int8.ofInt 24).toInt32 = 24 := by decide +kernel
theorem bipush_32 : (Int8.ofInt 32).toInt32 = 32 := by decide +kernel
theorem bipush_33 : (Int8.ofInt 33).toInt32 = 33 := by decide +kernel
theorem bipush_34 : (Int8.ofInt 34).toInt32 = 34 := by decide +kernel
theorem bipush_40 : (Int8.ofInt 40).toInt32 = 40 := by decide +kernel
theorem bipush_41 : (Int8.ofInt 41).toInt32 = 41 := by decide +kernel
theorem bipush_48 : (Int8.ofInt 48).toInt32 = 48 := by decide +kernel
theorem bipush_50 : (Int8.ofInt 50).toInt32 = 50 := by decide +kernel
theorem bipush_57 : (Int8.ofInt 57).toInt32 = 57 := by decide +kernel
theorem bipush_6 : (Int8.ofInt 6).toInt32 = 6 := by decide +kernel
theorem bipush_60 : (Int8.ofInt 60).toInt32 = 60 := by decide +kernel
theorem bipush_61 : (Int8.ofInt 61).toInt32 = 61 := by decide +kernel
theorem bipush_62 : (Int8.ofInt 62).toInt32 = 62 := by decide +kernel
theorem bipush_63 : (Int8.ofInt 63).toInt32 = 63 := by decide +kernel
theorem bipush_7 : (Int8.ofInt 7).toInt32 = 7 := by decide +kernel
theorem bipush_8 : (Int8.ofInt 8).toInt32 = 8 := by decide +kernel
theorem bipush_9 : (Int8.ofInt 9).toInt32 = 9 := by decide +kernel
theorem bipush_96 : (Int8.ofInt 96).toInt32 = 96 := by decide +kernel
theorem bipush_97 : (Int8.ofInt 97).toInt32 = 97 := by decide +kernel
theorem bipush_99 : (Int8.ofInt 99).toInt32 = 99 := by decide +kernel
theorem bipush_m2 : (Int8.ofInt (-2)).toInt32 = (-2) := by decide +kernel
theorem bipush_m3 : (Int8.ofInt (-3)).toInt32 = (-3) := by decide +kernel
theorem iconst_0 : Int32.ofInt 0 = 0 := by decide +kernel
theorem iconst_1 : Int32.ofInt 1 = 1 := by decide +kernel
theorem iconst_2 : Int32.ofInt 2 = 2 := by decide +kernel
theorem iconst_3 : Int32.ofInt 3 = 3 := by decide +kernel
theorem iconst_4 : Int32.ofInt 4 = 4 := by decide +kernel
theorem iconst_5 : Int32.ofInt 5 = 5 := by decide +kernel
theorem iconst_m1 : Int32.ofInt (-1) = (-1) := by decide +kernel
theorem iconst_m8 : Int32.ofInt (-8) = (-8) := by decide +kernel
theorem lconst_0 : Int64.ofNat ((0 : Fin 2) : Nat) = 0 := by decide +kernel
theorem lconst_1 : Int64.ofNat ((1 : Fin 2) : Nat) = 1 := by decide +kernel
theorem sipush_10000 : (Int16.ofInt 10000).toInt32 = 10000 := by decide +kernel
theorem sipush_10014 : (Int16.ofInt 10014).toInt32 = 10014 := by decide +kernel
theorem sipush_15000 : (Int16.ofInt 15000).toInt32 = 15000 := by decide +kernel
theorem sipush_200 : (Int16.ofInt 200).toInt32 = 200 := by decide +kernel
theorem sipush_20000 : (Int16.ofInt 20000).toInt32 = 20000 := by decide +kernel
theorem sipush_201 : (Int16.ofInt 201).toInt32 = 201 := by decide +kernel
theorem sipush_3216 : (Int16.ofInt 3216).toInt32 = 3216 := by decide +kernel
theorem sipush_511 : (Int16.ofInt 511).toInt32 = 511 := by decide +kernel
theorem sipush_700 : (Int16.ofInt 700).toInt32 = 700 := by decide +kernel
theorem sipush_804 : (Int16.ofInt 804).toInt32 = 804 := by decide +kernel
theorem sipush_999 : (Int16.ofInt 999).toInt32 = 999 := by decide +kernel
theorem sipush_9999 : (Int16.ofInt 9999).toInt32 = 9999 := by decide +kernel
