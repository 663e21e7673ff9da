theorem gT_t {x : Cond} {i : Nat} (h : decide (tables_1[i]? = some x) = true) (hg : goodWord x = true) : x ∈ gT := gT_in (List.mem_append_right _ (List.mem_of_getElem? (of_decide_eq_true h))) hg
theorem gT_p {x : Cond} {i : Nat} (h : decide ((k2_sels lw_privs)[i]? = some x) = true) (hg : goodWord x = true) : x ∈ gT := gT_in (List.mem_append_left _ (List.mem_of_getElem? (of_decide_eq_true h))) hg
set_option maxRecDepth 100000 in
theorem inX0 : ∀ x ∈ u_ws RX0 TX0 7, x ∈ gT := by
  have h : (u_ws RX0 TX0 7).all (fun x => decide (x ∈ tables_1) && goodWord x) = true := by decide +kernel
  intro x hx
  have h1 := List.all_eq_true.mp h x hx
  simp only [Bool.and_eq_true, decide_eq_true_eq] at h1
  exact gT_in (List.mem_append_right _ h1.1) h1.2
set_option maxRecDepth 100000 in
theorem inX1 : ∀ x ∈ u_ws RX1 TX1 7, x ∈ gT := by
  have h : (u_ws RX1 TX1 7).all (fun x => decide (x ∈ tables_1) && goodWord x) = true := by decide +kernel
  intro x hx
  have h1 := List.all_eq_true.mp h x hx
  simp only [Bool.and_eq_true, decide_eq_true_eq] at h1
  exact gT_in (List.mem_append_right _ h1.1) h1.2
set_option maxRecDepth 100000 in
theorem inX2 : ∀ x ∈ u_ws RX2 TX2 8, x ∈ gT := by
  have h : (u_ws RX2 TX2 8).all (fun x => decide (x ∈ tables_1) && goodWord x) = true := by decide +kernel
  intro x hx
  have h1 := List.all_eq_true.mp h x hx
  simp only [Bool.and_eq_true, decide_eq_true_eq] at h1
  exact gT_in (List.mem_append_right _ h1.1) h1.2
set_option maxRecDepth 100000 in
theorem inX3 : ∀ x ∈ u_ws RX3 TX3 4, x ∈ gT := by
  have h : (u_ws RX3 TX3 4).all (fun x => decide (x ∈ tables_1) && goodWord x) = true := by decide +kernel
  intro x hx
  have h1 := List.all_eq_true.mp h x hx
  simp only [Bool.and_eq_true, decide_eq_true_eq] at h1
  exact gT_in (List.mem_append_right _ h1.1) h1.2
set_option maxRecDepth 100000 in
theorem inX4 : ∀ x ∈ u_ws RX4 TX4 4, x ∈ gT := by
  have h : (u_ws RX4 TX4 4).all (fun x => decide (x ∈ tables_1) && goodWord x) = true := by decide +kernel
  intro x hx
  have h1 := List.all_eq_true.mp h x hx
  simp only [Bool.and_eq_true, decide_eq_true_eq] at h1
  exact gT_in (List.mem_append_right _ h1.1) h1.2
set_option maxRecDepth 100000 in
theorem inX5 : ∀ x ∈ u_ws RX5 TX5 1, x ∈ gT := by
  have h : (u_ws RX5 TX5 1).all (fun x => decide (x ∈ tables_1) && goodWord x) = true := by decide +kernel
  intro x hx
  have h1 := List.all_eq_true.mp h x hx
  simp only [Bool.and_eq_true, decide_eq_true_eq] at h1
  exact gT_in (List.mem_append_right _ h1.1) h1.2
set_option maxRecDepth 100000 in
theorem inX6 : ∀ x ∈ u_ws RX6 TX6 6, x ∈ gT := by
  have h : (u_ws RX6 TX6 6).all (fun x => decide (x ∈ tables_1) && goodWord x) = true := by decide +kernel
  intro x hx
  have h1 := List.all_eq_true.mp h x hx
  simp only [Bool.and_eq_true, decide_eq_true_eq] at h1
  exact gT_in (List.mem_append_right _ h1.1) h1.2
set_option maxRecDepth 100000 in
theorem inX7 : ∀ x ∈ u_ws RX7 TX7 2, x ∈ gT := by
  have h : (u_ws RX7 TX7 2).all (fun x => decide (x ∈ tables_1) && goodWord x) = true := by decide +kernel
  intro x hx
  have h1 := List.all_eq_true.mp h x hx
  simp only [Bool.and_eq_true, decide_eq_true_eq] at h1
  exact gT_in (List.mem_append_right _ h1.1) h1.2
set_option maxRecDepth 100000 in
theorem inX8 : ∀ x ∈ u_ws RX8 TX8 8, x ∈ gT := by
  have h : (u_ws RX8 TX8 8).all (fun x => decide (x ∈ tables_1) && goodWord x) = true := by decide +kernel
  intro x hx
  have h1 := List.all_eq_true.mp h x hx
  simp only [Bool.and_eq_true, decide_eq_true_eq] at h1
  exact gT_in (List.mem_append_right _ h1.1) h1.2
set_option maxRecDepth 100000 in
theorem inX9 : ∀ x ∈ u_ws RX9 TX9 28, x ∈ gT := by
  have h : (u_ws RX9 TX9 28).all (fun x => decide (x ∈ tables_1) && goodWord x) = true := by decide +kernel
  intro x hx
  have h1 := List.all_eq_true.mp h x hx
  simp only [Bool.and_eq_true, decide_eq_true_eq] at h1
  exact gT_in (List.mem_append_right _ h1.1) h1.2
abbrev mX0_init : gM := (yX0_init, cX0_init, 1, none)
theorem mw_0 : Cond.code yX0_init cX0_init 1 none ∈ gT := gT_t (i := 26) (by decide +kernel) rfl
abbrev mX0_lay : gM := (yX0_lay, cX0_lay, 7, (some .boolean))
theorem mw_1 : Cond.code yX0_lay cX0_lay 7 (some .boolean) ∈ gT := gT_t (i := 31) (by decide +kernel) rfl
abbrev mX0_isSide : gM := (yX0_isSide, cX0_isSide, 1, (some .boolean))
theorem mw_2 : Cond.code yX0_isSide cX0_isSide 1 (some .boolean) ∈ gT := gT_t (i := 34) (by decide +kernel) rfl
abbrev mX0_bitOf : gM := (yX0_bitOf, cX0_bitOf, 4, (some .int))
theorem mw_3 : Cond.code yX0_bitOf cX0_bitOf 4 (some .int) ∈ gT := gT_t (i := 277) (by decide +kernel) rfl
abbrev mX0_bitAt : gM := (yX0_bitAt, cX0_bitAt, 4, (some .int))
theorem mw_4 : Cond.code yX0_bitAt cX0_bitAt 4 (some .int) ∈ gT := gT_t (i := 281) (by decide +kernel) rfl
abbrev mX0_cellOf : gM := (yX0_cellOf, cX0_cellOf, 2, (some .int))
theorem mw_5 : Cond.code yX0_cellOf cX0_cellOf 2 (some .int) ∈ gT := gT_t (i := 384) (by decide +kernel) rfl
abbrev mX0_columnOf : gM := (yX0_columnOf, cX0_columnOf, 2, (some .int))
theorem mw_6 : Cond.code yX0_columnOf cX0_columnOf 2 (some .int) ∈ gT := gT_t (i := 398) (by decide +kernel) rfl
abbrev mX0_rowOf : gM := (yX0_rowOf, cX0_rowOf, 2, (some .int))
theorem mw_7 : Cond.code yX0_rowOf cX0_rowOf 2 (some .int) ∈ gT := gT_t (i := 388) (by decide +kernel) rfl
abbrev mX0_openCells : gM := (yX0_openCells, cX0_openCells, 3, (some .int))
theorem mw_8 : Cond.code yX0_openCells cX0_openCells 3 (some .int) ∈ gT := gT_t (i := 301) (by decide +kernel) rfl
abbrev mX0_completing : gM := (yX0_completing, cX0_completing, 11, (some .int))
theorem mw_9 : Cond.code yX0_completing cX0_completing 11 (some .int) ∈ gT := gT_t (i := 305) (by decide +kernel) rfl
abbrev mX0_fewestToRow : gM := (yX0_fewestToRow, cX0_fewestToRow, 13, (some .int))
theorem mw_10 : Cond.code yX0_fewestToRow cX0_fewestToRow 13 (some .int) ∈ gT := gT_t (i := 468) (by decide +kernel) rfl
abbrev mX0_lineAlong : gM := (yX0_lineAlong, cX0_lineAlong, 4, (some .int))
theorem mw_11 : Cond.code yX0_lineAlong cX0_lineAlong 4 (some .int) ∈ gT := gT_t (i := 472) (by decide +kernel) rfl
abbrev mX0_withSupports : gM := (yX0_withSupports, cX0_withSupports, 5, (some .int))
theorem mw_12 : Cond.code yX0_withSupports cX0_withSupports 5 (some .int) ∈ gT := gT_t (i := 476) (by decide +kernel) rfl
abbrev mX1_init : gM := (yX1_init, cX1_init, 1, none)
theorem mw_13 : Cond.code yX1_init cX1_init 1 none ∈ gT := gT_t (i := 176) (by decide +kernel) rfl
abbrev mX1_clear : gM := (yX1_clear, cX1_clear, 1, none)
theorem mw_14 : Cond.code yX1_clear cX1_clear 1 none ∈ gT := gT_t (i := 535) (by decide +kernel) rfl
abbrev mX1_offer : gM := (yX1_offer, cX1_offer, 4, none)
theorem mw_15 : Cond.code yX1_offer cX1_offer 4 none ∈ gT := gT_t (i := 550) (by decide +kernel) rfl
abbrev mX1_choose : gM := (yX1_choose, cX1_choose, 4, (some .int))
theorem mw_16 : Cond.code yX1_choose cX1_choose 4 (some .int) ∈ gT := gT_t (i := 554) (by decide +kernel) rfl
abbrev mX1_weigh : gM := (yX1_weigh, cX1_weigh, 8, none)
theorem mw_17 : Cond.code yX1_weigh cX1_weigh 8 none ∈ gT := gT_t (i := 560) (by decide +kernel) rfl
abbrev mX2_init : gM := (yX2_init, cX2_init, 4, none)
theorem mw_18 : Cond.code yX2_init cX2_init 4 none ∈ gT := gT_t (i := 106) (by decide +kernel) rfl
abbrev mX2_tellDepth : gM := (yX2_tellDepth, cX2_tellDepth, 2, (some .boolean))
theorem mw_19 : Cond.code yX2_tellDepth cX2_tellDepth 2 (some .boolean) ∈ gT := gT_t (i := 330) (by decide +kernel) rfl
abbrev mX2_tellWeight : gM := (yX2_tellWeight, cX2_tellWeight, 3, (some .boolean))
theorem mw_20 : Cond.code yX2_tellWeight cX2_tellWeight 3 (some .boolean) ∈ gT := gT_t (i := 338) (by decide +kernel) rfl
abbrev mX2_weightOf : gM := (yX2_weightOf, cX2_weightOf, 2, (some .int))
theorem mw_21 : Cond.code yX2_weightOf cX2_weightOf 2 (some .int) ∈ gT := gT_t (i := 622) (by decide +kernel) rfl
abbrev mX2_forgetAll : gM := (yX2_forgetAll, cX2_forgetAll, 1, none)
theorem mw_22 : Cond.code yX2_forgetAll cX2_forgetAll 1 none ∈ gT := gT_t (i := 269) (by decide +kernel) rfl
abbrev mX2_forgetMove : gM := (yX2_forgetMove, cX2_forgetMove, 4, none)
theorem mw_23 : Cond.code yX2_forgetMove cX2_forgetMove 4 none ∈ gT := gT_t (i := 311) (by decide +kernel) rfl
abbrev mX2_valueBehind : gM := (yX2_valueBehind, cX2_valueBehind, 7, (some .int))
theorem mw_24 : Cond.code yX2_valueBehind cX2_valueBehind 7 (some .int) ∈ gT := gT_t (i := 350) (by decide +kernel) rfl
abbrev mX2_leaderBehind : gM := (yX2_leaderBehind, cX2_leaderBehind, 3, (some .int))
theorem mw_25 : Cond.code yX2_leaderBehind cX2_leaderBehind 3 (some .int) ∈ gT := gT_t (i := 451) (by decide +kernel) rfl
abbrev mX2_examine : gM := (yX2_examine, cX2_examine, 3, none)
theorem mw_26 : Cond.code yX2_examine cX2_examine 3 none ∈ gT := gT_t (i := 410) (by decide +kernel) rfl
abbrev mX2_keep : gM := (yX2_keep, cX2_keep, 5, none)
theorem mw_27 : Cond.code yX2_keep cX2_keep 5 none ∈ gT := gT_t (i := 421) (by decide +kernel) rfl
abbrev mX2_amountOf : gM := (yX2_amountOf, cX2_amountOf, 4, (some .int))
theorem mw_28 : Cond.code yX2_amountOf cX2_amountOf 4 (some .int) ∈ gT := gT_t (i := 455) (by decide +kernel) rfl
abbrev mX2_worthOf : gM := (yX2_worthOf, cX2_worthOf, 4, (some .int))
theorem mw_29 : Cond.code yX2_worthOf cX2_worthOf 4 (some .int) ∈ gT := gT_t (i := 539) (by decide +kernel) rfl
abbrev mX2_winOf : gM := (yX2_winOf, cX2_winOf, 2, (some .int))
theorem mw_30 : Cond.code yX2_winOf cX2_winOf 2 (some .int) ∈ gT := gT_t (i := 414) (by decide +kernel) rfl
abbrev mX2_threatOf : gM := (yX2_threatOf, cX2_threatOf, 2, (some .int))
theorem mw_31 : Cond.code yX2_threatOf cX2_threatOf 2 (some .int) ∈ gT := gT_t (i := 425) (by decide +kernel) rfl
abbrev mX2_forcedOf : gM := (yX2_forcedOf, cX2_forcedOf, 5, (some .int))
theorem mw_32 : Cond.code yX2_forcedOf cX2_forcedOf 5 (some .int) ∈ gT := gT_t (i := 436) (by decide +kernel) rfl
abbrev mX2_missedBy : gM := (yX2_missedBy, cX2_missedBy, 3, (some .int))
theorem mw_33 : Cond.code yX2_missedBy cX2_missedBy 3 (some .int) ∈ gT := gT_t (i := 443) (by decide +kernel) rfl
abbrev mX2_winningFor : gM := (yX2_winningFor, cX2_winningFor, 5, (some .int))
theorem mw_34 : Cond.code yX2_winningFor cX2_winningFor 5 (some .int) ∈ gT := gT_t (i := 429) (by decide +kernel) rfl
abbrev mX2_turningMove : gM := (yX2_turningMove, cX2_turningMove, 4, (some .int))
theorem mw_35 : Cond.code yX2_turningMove cX2_turningMove 4 (some .int) ∈ gT := gT_t (i := 447) (by decide +kernel) rfl
abbrev mX2_makerOf : gM := (yX2_makerOf, cX2_makerOf, 1, (some .int))
theorem mw_36 : Cond.code yX2_makerOf cX2_makerOf 1 (some .int) ∈ gT := gT_t (i := 417) (by decide +kernel) rfl
abbrev mX3_init : gM := (yX3_init, cX3_init, 2, none)
theorem mw_37 : Cond.code yX3_init cX3_init 2 none ∈ gT := gT_t (i := 72) (by decide +kernel) rfl
abbrev mX3_clear : gM := (yX3_clear, cX3_clear, 1, none)
theorem mw_38 : Cond.code yX3_clear cX3_clear 1 none ∈ gT := gT_t (i := 265) (by decide +kernel) rfl
abbrev mX3_addMove : gM := (yX3_addMove, cX3_addMove, 6, (some .boolean))
theorem mw_39 : Cond.code yX3_addMove cX3_addMove 6 (some .boolean) ∈ gT := gT_t (i := 289) (by decide +kernel) rfl
abbrev mX3_takeBack : gM := (yX3_takeBack, cX3_takeBack, 1, (some .boolean))
theorem mw_40 : Cond.code yX3_takeBack cX3_takeBack 1 (some .boolean) ∈ gT := gT_t (i := 322) (by decide +kernel) rfl
abbrev mX3_bitOfMove : gM := (yX3_bitOfMove, cX3_bitOfMove, 2, (some .int))
theorem mw_41 : Cond.code yX3_bitOfMove cX3_bitOfMove 2 (some .int) ∈ gT := gT_t (i := 297) (by decide +kernel) rfl
abbrev mX3_stonesOf : gM := (yX3_stonesOf, cX3_stonesOf, 5, (some .int))
theorem mw_42 : Cond.code yX3_stonesOf cX3_stonesOf 5 (some .int) ∈ gT := gT_t (i := 293) (by decide +kernel) rfl
abbrev mX3_hasEndedBehind : gM := (yX3_hasEndedBehind, cX3_hasEndedBehind, 2, (some .boolean))
theorem mw_43 : Cond.code yX3_hasEndedBehind cX3_hasEndedBehind 2 (some .boolean) ∈ gT := gT_t (i := 354) (by decide +kernel) rfl
abbrev mX3_endValue : gM := (yX3_endValue, cX3_endValue, 1, (some .int))
theorem mw_44 : Cond.code yX3_endValue cX3_endValue 1 (some .int) ∈ gT := gT_t (i := 358) (by decide +kernel) rfl
abbrev mX4_init : gM := (yX4_init, cX4_init, 4, none)
theorem mw_45 : Cond.code yX4_init cX4_init 4 none ∈ gT := gT_t (i := 141) (by decide +kernel) rfl
abbrev mX4_isLevel : gM := (yX4_isLevel, cX4_isLevel, 1, (some .boolean))
theorem mw_46 : Cond.code yX4_isLevel cX4_isLevel 1 (some .boolean) ∈ gT := gT_t (i := 484) (by decide +kernel) rfl
abbrev mX4_writeWords : gM := (yX4_writeWords, cX4_writeWords, 6, none)
theorem mw_47 : Cond.code yX4_writeWords cX4_writeWords 6 none ∈ gT := gT_t (i := 492) (by decide +kernel) rfl
abbrev mX4_writeCell : gM := (yX4_writeCell, cX4_writeCell, 3, none)
theorem mw_48 : Cond.code yX4_writeCell cX4_writeCell 3 none ∈ gT := gT_t (i := 506) (by decide +kernel) rfl
abbrev mX4_writeSigns : gM := (yX4_writeSigns, cX4_writeSigns, 5, none)
theorem mw_49 : Cond.code yX4_writeSigns cX4_writeSigns 5 none ∈ gT := gT_t (i := 513) (by decide +kernel) rfl
abbrev mX4_lengthOfAllWords : gM := (yX4_lengthOfAllWords, cX4_lengthOfAllWords, 2, (some .int))
theorem mw_50 : Cond.code yX4_lengthOfAllWords cX4_lengthOfAllWords 2 (some .int) ∈ gT := gT_t (i := 544) (by decide +kernel) rfl
abbrev mX5_init : gM := (yX5_init, cX5_init, 2, none)
theorem mw_51 : Cond.code yX5_init cX5_init 2 none ∈ gT := gT_t (i := 96) (by decide +kernel) rfl
abbrev mX5_lowestReaching : gM := (yX5_lowestReaching, cX5_lowestReaching, 11, (some .int))
theorem mw_52 : Cond.code yX5_lowestReaching cX5_lowestReaching 11 (some .int) ∈ gT := gT_t (i := 380) (by decide +kernel) rfl
abbrev mX5_valueFor : gM := (yX5_valueFor, cX5_valueFor, 4, (some .int))
theorem mw_53 : Cond.code yX5_valueFor cX5_valueFor 4 (some .int) ∈ gT := gT_t (i := 363) (by decide +kernel) rfl
abbrev mX5_reaches : gM := (yX5_reaches, cX5_reaches, 10, (some .boolean))
theorem mw_54 : Cond.code yX5_reaches cX5_reaches 10 (some .boolean) ∈ gT := gT_t (i := 367) (by decide +kernel) rfl
abbrev mX6_init : gM := (yX6_init, cX6_init, 1, none)
theorem mw_55 : Cond.code yX6_init cX6_init 1 none ∈ gT := gT_t (i := 204) (by decide +kernel) rfl
abbrev mX6_hasRoomForTwenty : gM := (yX6_hasRoomForTwenty, cX6_hasRoomForTwenty, 1, (some .boolean))
theorem mw_56 : Cond.code yX6_hasRoomForTwenty cX6_hasRoomForTwenty 1 (some .boolean) ∈ gT := gT_t (i := 572) (by decide +kernel) rfl
abbrev mX6_addFour : gM := (yX6_addFour, cX6_addFour, 3, none)
theorem mw_57 : Cond.code yX6_addFour cX6_addFour 3 none ∈ gT := gT_t (i := 576) (by decide +kernel) rfl
abbrev mX6_finish : gM := (yX6_finish, cX6_finish, 2, none)
theorem mw_58 : Cond.code yX6_finish cX6_finish 2 none ∈ gT := gT_t (i := 614) (by decide +kernel) rfl
abbrev mX6_readWords : gM := (yX6_readWords, cX6_readWords, 5, (some .boolean))
theorem mw_59 : Cond.code yX6_readWords cX6_readWords 5 (some .boolean) ∈ gT := gT_t (i := 584) (by decide +kernel) rfl
abbrev mX6_behindNumber : gM := (yX6_behindNumber, cX6_behindNumber, 6, (some .int))
theorem mw_60 : Cond.code yX6_behindNumber cX6_behindNumber 6 (some .int) ∈ gT := gT_t (i := 588) (by decide +kernel) rfl
abbrev mX6_behindSigns : gM := (yX6_behindSigns, cX6_behindSigns, 6, (some .int))
theorem mw_61 : Cond.code yX6_behindSigns cX6_behindSigns 6 (some .int) ∈ gT := gT_t (i := 600) (by decide +kernel) rfl
abbrev mX6_behindSign : gM := (yX6_behindSign, cX6_behindSign, 3, (some .int))
theorem mw_62 : Cond.code yX6_behindSign cX6_behindSign 3 (some .int) ∈ gT := gT_t (i := 604) (by decide +kernel) rfl
abbrev mX6_isCellAt : gM := (yX6_isCellAt, cX6_isCellAt, 5, (some .boolean))
theorem mw_63 : Cond.code yX6_isCellAt cX6_isCellAt 5 (some .boolean) ∈ gT := gT_t (i := 596) (by decide +kernel) rfl
abbrev mX6_isDigitAt : gM := (yX6_isDigitAt, cX6_isDigitAt, 4, (some .boolean))
theorem mw_64 : Cond.code yX6_isDigitAt cX6_isDigitAt 4 (some .boolean) ∈ gT := gT_t (i := 608) (by decide +kernel) rfl
abbrev mX6_byteAt : gM := (yX6_byteAt, cX6_byteAt, 3, (some .int))
theorem mw_65 : Cond.code yX6_byteAt cX6_byteAt 3 (some .int) ∈ gT := gT_t (i := 592) (by decide +kernel) rfl
abbrev mX7_init : gM := (yX7_init, cX7_init, 1, none)
theorem mw_66 : Cond.code yX7_init cX7_init 1 none ∈ gT := gT_t (i := 147) (by decide +kernel) rfl
abbrev mX7_clear : gM := (yX7_clear, cX7_clear, 1, none)
theorem mw_67 : Cond.code yX7_clear cX7_clear 1 none ∈ gT := gT_t (i := 488) (by decide +kernel) rfl
abbrev mX7_addByte : gM := (yX7_addByte, cX7_addByte, 2, none)
theorem mw_68 : Cond.code yX7_addByte cX7_addByte 2 none ∈ gT := gT_t (i := 500) (by decide +kernel) rfl
abbrev mX7_addNumber : gM := (yX7_addNumber, cX7_addNumber, 2, none)
theorem mw_69 : Cond.code yX7_addNumber cX7_addNumber 2 none ∈ gT := gT_t (i := 496) (by decide +kernel) rfl
abbrev mX7_byteAt : gM := (yX7_byteAt, cX7_byteAt, 2, (some .int))
theorem mw_70 : Cond.code yX7_byteAt cX7_byteAt 2 (some .int) ∈ gT := gT_t (i := 527) (by decide +kernel) rfl
abbrev mX8_init : gM := (yX8_init, cX8_init, 1, none)
theorem mw_71 : Cond.code yX8_init cX8_init 1 none ∈ gT := gT_t (i := 18) (by decide +kernel) rfl
abbrev mX8_game : gM := (yX8_game, cX8_game, 6, (some .boolean))
theorem mw_72 : Cond.code yX8_game cX8_game 6 (some .boolean) ∈ gT := gT_t (i := 260) (by decide +kernel) rfl
abbrev mX8_play : gM := (yX8_play, cX8_play, 2, (some .int))
theorem mw_73 : Cond.code yX8_play cX8_play 2 (some .int) ∈ gT := gT_t (i := 273) (by decide +kernel) rfl
abbrev mX8_back : gM := (yX8_back, cX8_back, 1, (some .int))
theorem mw_74 : Cond.code yX8_back cX8_back 1 (some .int) ∈ gT := gT_t (i := 318) (by decide +kernel) rfl
abbrev mX8_depth : gM := (yX8_depth, cX8_depth, 2, (some .boolean))
theorem mw_75 : Cond.code yX8_depth cX8_depth 2 (some .boolean) ∈ gT := gT_t (i := 326) (by decide +kernel) rfl
abbrev mX8_weight : gM := (yX8_weight, cX8_weight, 3, (some .boolean))
theorem mw_76 : Cond.code yX8_weight cX8_weight 3 (some .boolean) ∈ gT := gT_t (i := 334) (by decide +kernel) rfl
abbrev mX8_value : gM := (yX8_value, cX8_value, 3, (some .int))
theorem mw_77 : Cond.code yX8_value cX8_value 3 (some .int) ∈ gT := gT_t (i := 342) (by decide +kernel) rfl
abbrev mX8_best : gM := (yX8_best, cX8_best, 8, (some .int))
theorem mw_78 : Cond.code yX8_best cX8_best 8 (some .int) ∈ gT := gT_t (i := 373) (by decide +kernel) rfl
abbrev mX8_found : gM := (yX8_found, cX8_found, 3, (some .int))
theorem mw_79 : Cond.code yX8_found cX8_found 3 (some .int) ∈ gT := gT_t (i := 402) (by decide +kernel) rfl
abbrev mX8_leader : gM := (yX8_leader, cX8_leader, 2, (some .int))
theorem mw_80 : Cond.code yX8_leader cX8_leader 2 (some .int) ∈ gT := gT_t (i := 459) (by decide +kernel) rfl
abbrev mX8_plan : gM := (yX8_plan, cX8_plan, 5, (some .int))
theorem mw_81 : Cond.code yX8_plan cX8_plan 5 (some .int) ∈ gT := gT_t (i := 464) (by decide +kernel) rfl
abbrev mX8_words : gM := (yX8_words, cX8_words, 3, (some .int))
theorem mw_82 : Cond.code yX8_words cX8_words 3 (some .int) ∈ gT := gT_t (i := 481) (by decide +kernel) rfl
abbrev mX8_tale : gM := (yX8_tale, cX8_tale, 3, (some .int))
theorem mw_83 : Cond.code yX8_tale cX8_tale 3 (some .int) ∈ gT := gT_t (i := 518) (by decide +kernel) rfl
abbrev mX8_octet : gM := (yX8_octet, cX8_octet, 2, (some .int))
theorem mw_84 : Cond.code yX8_octet cX8_octet 2 (some .int) ∈ gT := gT_t (i := 523) (by decide +kernel) rfl
abbrev mX8_chosen : gM := (yX8_chosen, cX8_chosen, 4, (some .int))
theorem mw_85 : Cond.code yX8_chosen cX8_chosen 4 (some .int) ∈ gT := gT_t (i := 531) (by decide +kernel) rfl
abbrev mX8_worth : gM := (yX8_worth, cX8_worth, 2, (some .int))
theorem mw_86 : Cond.code yX8_worth cX8_worth 2 (some .int) ∈ gT := gT_t (i := 564) (by decide +kernel) rfl
abbrev mX8_feed : gM := (yX8_feed, cX8_feed, 6, (some .int))
theorem mw_87 : Cond.code yX8_feed cX8_feed 6 (some .int) ∈ gT := gT_t (i := 568) (by decide +kernel) rfl
abbrev mX8_read : gM := (yX8_read, cX8_read, 5, (some .int))
theorem mw_88 : Cond.code yX8_read cX8_read 5 (some .int) ∈ gT := gT_t (i := 580) (by decide +kernel) rfl
abbrev mX8_look : gM := (yX8_look, cX8_look, 2, (some .int))
theorem mw_89 : Cond.code yX8_look cX8_look 2 (some .int) ∈ gT := gT_t (i := 618) (by decide +kernel) rfl
abbrev mX8_lookAtState : gM := (yX8_lookAtState, cX8_lookAtState, 2, (some .int))
theorem mw_90 : Cond.code yX8_lookAtState cX8_lookAtState 2 (some .int) ∈ gT := gT_t (i := 631) (by decide +kernel) rfl
abbrev mX8_ownerOf : gM := (yX8_ownerOf, cX8_ownerOf, 3, (some .int))
theorem mw_91 : Cond.code yX8_ownerOf cX8_ownerOf 3 (some .int) ∈ gT := gT_t (i := 626) (by decide +kernel) rfl
abbrev mX8_setStone : gM := (yX8_setStone, cX8_setStone, 2, (some .boolean))
theorem mw_92 : Cond.code yX8_setStone cX8_setStone 2 (some .boolean) ∈ gT := gT_t (i := 285) (by decide +kernel) rfl
abbrev mX8_isMove : gM := (yX8_isMove, cX8_isMove, 2, (some .boolean))
theorem mw_93 : Cond.code yX8_isMove cX8_isMove 2 (some .boolean) ∈ gT := gT_t (i := 406) (by decide +kernel) rfl
abbrev mX8_isPosition : gM := (yX8_isPosition, cX8_isPosition, 2, (some .boolean))
theorem mw_94 : Cond.code yX8_isPosition cX8_isPosition 2 (some .boolean) ∈ gT := gT_t (i := 346) (by decide +kernel) rfl
abbrev mX9_init : gM := (yX9_init, cX9_init, 2, none)
theorem mw_95 : Cond.code yX9_init cX9_init 2 none ∈ gT := gT_t (i := 636) (by decide +kernel) rfl
abbrev mX9_in : gM := (yX9_in, cX9_in, 3, (some .boolean))
theorem mw_96 : Cond.code yX9_in cX9_in 3 (some .boolean) ∈ gT := gT_t (i := 734) (by decide +kernel) rfl
abbrev mX9_game : gM := (yX9_game, cX9_game, 6, (some .boolean))
theorem mw_97 : Cond.code yX9_game cX9_game 6 (some .boolean) ∈ gT := gT_t (i := 731) (by decide +kernel) rfl
abbrev mX9_starts : gM := (yX9_starts, cX9_starts, 2, none)
theorem mw_98 : Cond.code yX9_starts cX9_starts 2 none ∈ gT := gT_t (i := 746) (by decide +kernel) rfl
abbrev mX9_isMove : gM := (yX9_isMove, cX9_isMove, 2, (some .boolean))
theorem mw_99 : Cond.code yX9_isMove cX9_isMove 2 (some .boolean) ∈ gT := gT_t (i := 766) (by decide +kernel) rfl
abbrev mX9_stonesFrom : gM := (yX9_stonesFrom, cX9_stonesFrom, 8, (some .int))
theorem mw_100 : Cond.code yX9_stonesFrom cX9_stonesFrom 8 (some .int) ∈ gT := gT_t (i := 762) (by decide +kernel) rfl
abbrev mX9_isLine : gM := (yX9_isLine, cX9_isLine, 5, (some .boolean))
theorem mw_101 : Cond.code yX9_isLine cX9_isLine 5 (some .boolean) ∈ gT := gT_t (i := 758) (by decide +kernel) rfl
abbrev mX9_makesRow : gM := (yX9_makesRow, cX9_makesRow, 3, (some .boolean))
theorem mw_102 : Cond.code yX9_makesRow cX9_makesRow 3 (some .boolean) ∈ gT := gT_t (i := 754) (by decide +kernel) rfl
abbrev mX9_sets : gM := (yX9_sets, cX9_sets, 3, none)
theorem mw_103 : Cond.code yX9_sets cX9_sets 3 none ∈ gT := gT_t (i := 750) (by decide +kernel) rfl
abbrev mX9_setsUp : gM := (yX9_setsUp, cX9_setsUp, 3, none)
theorem mw_104 : Cond.code yX9_setsUp cX9_setsUp 3 none ∈ gT := gT_t (i := 742) (by decide +kernel) rfl
abbrev mX9_play : gM := (yX9_play, cX9_play, 2, (some .int))
theorem mw_105 : Cond.code yX9_play cX9_play 2 (some .int) ∈ gT := gT_t (i := 738) (by decide +kernel) rfl
abbrev mX9_back : gM := (yX9_back, cX9_back, 1, (some .int))
theorem mw_106 : Cond.code yX9_back cX9_back 1 (some .int) ∈ gT := gT_t (i := 770) (by decide +kernel) rfl
abbrev mX9_depth : gM := (yX9_depth, cX9_depth, 2, (some .boolean))
theorem mw_107 : Cond.code yX9_depth cX9_depth 2 (some .boolean) ∈ gT := gT_t (i := 774) (by decide +kernel) rfl
abbrev mX9_weight : gM := (yX9_weight, cX9_weight, 3, (some .boolean))
theorem mw_108 : Cond.code yX9_weight cX9_weight 3 (some .boolean) ∈ gT := gT_t (i := 778) (by decide +kernel) rfl
abbrev mX9_searched : gM := (yX9_searched, cX9_searched, 10, (some .int))
theorem mw_109 : Cond.code yX9_searched cX9_searched 10 (some .int) ∈ gT := gT_t (i := 786) (by decide +kernel) rfl
abbrev mX9_value : gM := (yX9_value, cX9_value, 3, (some .int))
theorem mw_110 : Cond.code yX9_value cX9_value 3 (some .int) ∈ gT := gT_t (i := 782) (by decide +kernel) rfl
abbrev mX9_behind : gM := (yX9_behind, cX9_behind, 4, (some .int))
theorem mw_111 : Cond.code yX9_behind cX9_behind 4 (some .int) ∈ gT := gT_t (i := 794) (by decide +kernel) rfl
abbrev mX9_best : gM := (yX9_best, cX9_best, 7, (some .int))
theorem mw_112 : Cond.code yX9_best cX9_best 7 (some .int) ∈ gT := gT_t (i := 790) (by decide +kernel) rfl
abbrev mX9_forgets : gM := (yX9_forgets, cX9_forgets, 2, none)
theorem mw_113 : Cond.code yX9_forgets cX9_forgets 2 none ∈ gT := gT_t (i := 641) (by decide +kernel) rfl
abbrev mX9_leader : gM := (yX9_leader, cX9_leader, 3, (some .int))
theorem mw_114 : Cond.code yX9_leader cX9_leader 3 (some .int) ∈ gT := gT_t (i := 798) (by decide +kernel) rfl
abbrev mX9_wins : gM := (yX9_wins, cX9_wins, 4, (some .int))
theorem mw_115 : Cond.code yX9_wins cX9_wins 4 (some .int) ∈ gT := gT_t (i := 810) (by decide +kernel) rfl
abbrev mX9_winsBy : gM := (yX9_winsBy, cX9_winsBy, 3, (some .boolean))
theorem mw_116 : Cond.code yX9_winsBy cX9_winsBy 3 (some .boolean) ∈ gT := gT_t (i := 814) (by decide +kernel) rfl
abbrev mX9_threat : gM := (yX9_threat, cX9_threat, 2, (some .int))
theorem mw_117 : Cond.code yX9_threat cX9_threat 2 (some .int) ∈ gT := gT_t (i := 806) (by decide +kernel) rfl
abbrev mX9_forced : gM := (yX9_forced, cX9_forced, 6, (some .int))
theorem mw_118 : Cond.code yX9_forced cX9_forced 6 (some .int) ∈ gT := gT_t (i := 818) (by decide +kernel) rfl
abbrev mX9_slip : gM := (yX9_slip, cX9_slip, 3, (some .int))
theorem mw_119 : Cond.code yX9_slip cX9_slip 3 (some .int) ∈ gT := gT_t (i := 822) (by decide +kernel) rfl
abbrev mX9_missed : gM := (yX9_missed, cX9_missed, 3, (some .int))
theorem mw_120 : Cond.code yX9_missed cX9_missed 3 (some .int) ∈ gT := gT_t (i := 827) (by decide +kernel) rfl
abbrev mX9_turn : gM := (yX9_turn, cX9_turn, 4, (some .int))
theorem mw_121 : Cond.code yX9_turn cX9_turn 4 (some .int) ∈ gT := gT_t (i := 831) (by decide +kernel) rfl
abbrev mX9_found : gM := (yX9_found, cX9_found, 3, (some .int))
theorem mw_122 : Cond.code yX9_found cX9_found 3 (some .int) ∈ gT := gT_t (i := 802) (by decide +kernel) rfl
abbrev mX9_reaches : gM := (yX9_reaches, cX9_reaches, 11, (some .boolean))
theorem mw_123 : Cond.code yX9_reaches cX9_reaches 11 (some .boolean) ∈ gT := gT_t (i := 844) (by decide +kernel) rfl
abbrev mX9_rowsOf : gM := (yX9_rowsOf, cX9_rowsOf, 4, (some .int))
theorem mw_124 : Cond.code yX9_rowsOf cX9_rowsOf 4 (some .int) ∈ gT := gT_t (i := 840) (by decide +kernel) rfl
abbrev mX9_plan : gM := (yX9_plan, cX9_plan, 8, (some .int))
theorem mw_125 : Cond.code yX9_plan cX9_plan 8 (some .int) ∈ gT := gT_t (i := 836) (by decide +kernel) rfl
abbrev mX9_says : gM := (yX9_says, cX9_says, 2, none)
theorem mw_126 : Cond.code yX9_says cX9_says 2 none ∈ gT := gT_t (i := 860) (by decide +kernel) rfl
abbrev mX9_saysNumber : gM := (yX9_saysNumber, cX9_saysNumber, 2, none)
theorem mw_127 : Cond.code yX9_saysNumber cX9_saysNumber 2 none ∈ gT := gT_t (i := 856) (by decide +kernel) rfl
abbrev mX9_saysCell : gM := (yX9_saysCell, cX9_saysCell, 2, none)
theorem mw_128 : Cond.code yX9_saysCell cX9_saysCell 2 none ∈ gT := gT_t (i := 864) (by decide +kernel) rfl
abbrev mX9_lowestMissed : gM := (yX9_lowestMissed, cX9_lowestMissed, 3, (some .int))
theorem mw_129 : Cond.code yX9_lowestMissed cX9_lowestMissed 3 (some .int) ∈ gT := gT_t (i := 869) (by decide +kernel) rfl
abbrev mX9_saysMove : gM := (yX9_saysMove, cX9_saysMove, 6, none)
theorem mw_130 : Cond.code yX9_saysMove cX9_saysMove 6 none ∈ gT := gT_t (i := 852) (by decide +kernel) rfl
abbrev mX9_words : gM := (yX9_words, cX9_words, 3, (some .int))
theorem mw_131 : Cond.code yX9_words cX9_words 3 (some .int) ∈ gT := gT_t (i := 848) (by decide +kernel) rfl
abbrev mX9_tale : gM := (yX9_tale, cX9_tale, 3, (some .int))
theorem mw_132 : Cond.code yX9_tale cX9_tale 3 (some .int) ∈ gT := gT_t (i := 873) (by decide +kernel) rfl
abbrev mX9_octet : gM := (yX9_octet, cX9_octet, 2, (some .int))
theorem mw_133 : Cond.code yX9_octet cX9_octet 2 (some .int) ∈ gT := gT_t (i := 877) (by decide +kernel) rfl
abbrev mX9_worth : gM := (yX9_worth, cX9_worth, 4, (some .int))
theorem mw_134 : Cond.code yX9_worth cX9_worth 4 (some .int) ∈ gT := gT_t (i := 881) (by decide +kernel) rfl
abbrev mX9_weighs : gM := (yX9_weighs, cX9_weighs, 3, none)
theorem mw_135 : Cond.code yX9_weighs cX9_weighs 3 none ∈ gT := gT_t (i := 889) (by decide +kernel) rfl
abbrev mX9_bytesOf : gM := (yX9_bytesOf, cX9_bytesOf, 4, (some .int))
theorem mw_136 : Cond.code yX9_bytesOf cX9_bytesOf 4 (some .int) ∈ gT := gT_t (i := 894) (by decide +kernel) rfl
abbrev mX9_chosen : gM := (yX9_chosen, cX9_chosen, 9, (some .int))
theorem mw_137 : Cond.code yX9_chosen cX9_chosen 9 (some .int) ∈ gT := gT_t (i := 885) (by decide +kernel) rfl
abbrev mX9_isEarlier : gM := (yX9_isEarlier, cX9_isEarlier, 3, (some .boolean))
theorem mw_138 : Cond.code yX9_isEarlier cX9_isEarlier 3 (some .boolean) ∈ gT := gT_t (i := 897) (by decide +kernel) rfl
abbrev mX9_types : gM := (yX9_types, cX9_types, 3, none)
theorem mw_139 : Cond.code yX9_types cX9_types 3 none ∈ gT := gT_t (i := 905) (by decide +kernel) rfl
abbrev mX9_feed : gM := (yX9_feed, cX9_feed, 6, (some .int))
theorem mw_140 : Cond.code yX9_feed cX9_feed 6 (some .int) ∈ gT := gT_t (i := 901) (by decide +kernel) rfl
abbrev mX9_sign : gM := (yX9_sign, cX9_sign, 2, (some .int))
theorem mw_141 : Cond.code yX9_sign cX9_sign 2 (some .int) ∈ gT := gT_t (i := 921) (by decide +kernel) rfl
abbrev mX9_isDigit : gM := (yX9_isDigit, cX9_isDigit, 1, (some .boolean))
theorem mw_142 : Cond.code yX9_isDigit cX9_isDigit 1 (some .boolean) ∈ gT := gT_t (i := 924) (by decide +kernel) rfl
abbrev mX9_isCellAt : gM := (yX9_isCellAt, cX9_isCellAt, 2, (some .boolean))
theorem mw_143 : Cond.code yX9_isCellAt cX9_isCellAt 2 (some .boolean) ∈ gT := gT_t (i := 928) (by decide +kernel) rfl
abbrev mX9_readsNumber : gM := (yX9_readsNumber, cX9_readsNumber, 2, (some .boolean))
theorem mw_144 : Cond.code yX9_readsNumber cX9_readsNumber 2 (some .boolean) ∈ gT := gT_t (i := 917) (by decide +kernel) rfl
abbrev mX9_readsSigns : gM := (yX9_readsSigns, cX9_readsSigns, 3, (some .boolean))
theorem mw_145 : Cond.code yX9_readsSigns cX9_readsSigns 3 (some .boolean) ∈ gT := gT_t (i := 932) (by decide +kernel) rfl
abbrev mX9_readsMove : gM := (yX9_readsMove, cX9_readsMove, 3, (some .boolean))
theorem mw_146 : Cond.code yX9_readsMove cX9_readsMove 3 (some .boolean) ∈ gT := gT_t (i := 913) (by decide +kernel) rfl
abbrev mX9_read : gM := (yX9_read, cX9_read, 4, (some .int))
theorem mw_147 : Cond.code yX9_read cX9_read 4 (some .int) ∈ gT := gT_t (i := 909) (by decide +kernel) rfl
abbrev mX9_look : gM := (yX9_look, cX9_look, 2, (some .int))
theorem mw_148 : Cond.code yX9_look cX9_look 2 (some .int) ∈ gT := gT_t (i := 937) (by decide +kernel) rfl
abbrev mX9_lookFar : gM := (yX9_lookFar, cX9_lookFar, 2, (some .int))
theorem mw_149 : Cond.code yX9_lookFar cX9_lookFar 2 (some .int) ∈ gT := gT_t (i := 941) (by decide +kernel) rfl
abbrev mJ6_bitCount_0f7a4 : gM := (yJ6_bitCount_0f7a4, cJ6_bitCount_0f7a4, 1, (some .int))
theorem mw_150 : Cond.code yJ6_bitCount_0f7a4 cJ6_bitCount_0f7a4 1 (some .int) ∈ gT := gT_t (i := 391) (by decide +kernel) rfl
abbrev mJ9_max_7cf53 : gM := (yJ9_max_7cf53, cJ9_max_7cf53, 2, (some .int))
theorem mw_151 : Cond.code yJ9_max_7cf53 cJ9_max_7cf53 2 (some .int) ∈ gT := gT_t (i := 37) (by decide +kernel) rfl
abbrev mJ9_min_7cf53 : gM := (yJ9_min_7cf53, cJ9_min_7cf53, 2, (some .int))
theorem mw_152 : Cond.code yJ9_min_7cf53 cJ9_min_7cf53 2 (some .int) ∈ gT := gT_t (i := 314) (by decide +kernel) rfl
abbrev mJ7_fill_53178 : gM := (yJ7_fill_53178, cJ7_fill_53178, 4, none)
theorem mw_153 : Cond.code yJ7_fill_53178 cJ7_fill_53178 4 none ∈ gT := gT_t (i := 110) (by decide +kernel) rfl
theorem mw_154 : Cond.fieldLink RX0 25 "GameTeller$Board" "width" "I" ∈ gT := gT_t (i := 38) (by decide +kernel) rfl
theorem fX0_25 : gFld RX0 25 0 0 (.int) false := ⟨RX0, TX0, 7, tyX0, rfl, inX0, by decide, mw_154, tyX0_ok, nmX0, rfl, rfl, (fun h => by cases h)⟩
theorem mw_155 : Cond.fieldLink RX8 217 "GameTeller$Board" "width" "I" ∈ gT := gT_t (i := 39) (by decide +kernel) rfl
theorem fX8_217 : gFld RX8 217 0 0 (.int) false := ⟨RX0, TX0, 7, tyX0, rfl, inX0, by decide, mw_155, tyX0_ok, nmX0, rfl, rfl, (fun h => by cases h)⟩
theorem mw_156 : Cond.fieldLink RX0 29 "GameTeller$Board" "height" "I" ∈ gT := gT_t (i := 40) (by decide +kernel) rfl
theorem fX0_29 : gFld RX0 29 0 1 (.int) false := ⟨RX0, TX0, 7, tyX0, rfl, inX0, by decide, mw_156, tyX0_ok, nmX0, rfl, rfl, (fun h => by cases h)⟩
theorem mw_157 : Cond.fieldLink RX8 220 "GameTeller$Board" "height" "I" ∈ gT := gT_t (i := 41) (by decide +kernel) rfl
theorem fX8_220 : gFld RX8 220 0 1 (.int) false := ⟨RX0, TX0, 7, tyX0, rfl, inX0, by decide, mw_157, tyX0_ok, nmX0, rfl, rfl, (fun h => by cases h)⟩
theorem mw_158 : Cond.fieldLink RX0 32 "GameTeller$Board" "rowLength" "I" ∈ gT := gT_t (i := 42) (by decide +kernel) rfl
theorem fX0_32 : gFld RX0 32 0 2 (.int) false := ⟨RX0, TX0, 7, tyX0, rfl, inX0, by decide, mw_158, tyX0_ok, nmX0, rfl, rfl, (fun h => by cases h)⟩
theorem mw_159 : Cond.fieldLink RX8 223 "GameTeller$Board" "rowLength" "I" ∈ gT := gT_t (i := 43) (by decide +kernel) rfl
theorem fX8_223 : gFld RX8 223 0 2 (.int) false := ⟨RX0, TX0, 7, tyX0, rfl, inX0, by decide, mw_159, tyX0_ok, nmX0, rfl, rfl, (fun h => by cases h)⟩
theorem mw_160 : Cond.fieldLink RX0 35 "GameTeller$Board" "gravity" "Z" ∈ gT := gT_t (i := 44) (by decide +kernel) rfl
theorem fX0_35 : gFld RX0 35 0 3 (.boolean) false := ⟨RX0, TX0, 7, tyX0, rfl, inX0, by decide, mw_160, tyX0_ok, nmX0, rfl, rfl, (fun h => by cases h)⟩
theorem mw_161 : Cond.fieldLink RX8 226 "GameTeller$Board" "gravity" "Z" ∈ gT := gT_t (i := 45) (by decide +kernel) rfl
theorem fX8_226 : gFld RX8 226 0 3 (.boolean) false := ⟨RX0, TX0, 7, tyX0, rfl, inX0, by decide, mw_161, tyX0_ok, nmX0, rfl, rfl, (fun h => by cases h)⟩
theorem mw_162 : Cond.fieldLink RX0 39 "GameTeller$Board" "rowsLose" "Z" ∈ gT := gT_t (i := 46) (by decide +kernel) rfl
theorem fX0_39 : gFld RX0 39 0 4 (.boolean) false := ⟨RX0, TX0, 7, tyX0, rfl, inX0, by decide, mw_162, tyX0_ok, nmX0, rfl, rfl, (fun h => by cases h)⟩
theorem mw_163 : Cond.fieldLink RX5 19 "GameTeller$Board" "rowsLose" "Z" ∈ gT := gT_t (i := 47) (by decide +kernel) rfl
theorem fX5_19 : gFld RX5 19 0 4 (.boolean) false := ⟨RX0, TX0, 7, tyX0, rfl, inX0, by decide, mw_163, tyX0_ok, nmX0, rfl, rfl, (fun h => by cases h)⟩
theorem mw_164 : Cond.fieldLink RX3 37 "GameTeller$Board" "rowsLose" "Z" ∈ gT := gT_t (i := 48) (by decide +kernel) rfl
theorem fX3_37 : gFld RX3 37 0 4 (.boolean) false := ⟨RX0, TX0, 7, tyX0, rfl, inX0, by decide, mw_164, tyX0_ok, nmX0, rfl, rfl, (fun h => by cases h)⟩
theorem mw_165 : Cond.fieldLink RX2 126 "GameTeller$Board" "rowsLose" "Z" ∈ gT := gT_t (i := 49) (by decide +kernel) rfl
theorem fX2_126 : gFld RX2 126 0 4 (.boolean) false := ⟨RX0, TX0, 7, tyX0, rfl, inX0, by decide, mw_165, tyX0_ok, nmX0, rfl, rfl, (fun h => by cases h)⟩
theorem mw_166 : Cond.fieldLink RX8 230 "GameTeller$Board" "rowsLose" "Z" ∈ gT := gT_t (i := 50) (by decide +kernel) rfl
theorem fX8_230 : gFld RX8 230 0 4 (.boolean) false := ⟨RX0, TX0, 7, tyX0, rfl, inX0, by decide, mw_166, tyX0_ok, nmX0, rfl, rfl, (fun h => by cases h)⟩
theorem mw_167 : Cond.fieldLink RX0 45 "GameTeller$Board" "whole" "I" ∈ gT := gT_t (i := 51) (by decide +kernel) rfl
theorem fX0_45 : gFld RX0 45 0 5 (.int) false := ⟨RX0, TX0, 7, tyX0, rfl, inX0, by decide, mw_167, tyX0_ok, nmX0, rfl, rfl, (fun h => by cases h)⟩
theorem mw_168 : Cond.fieldLink RX0 42 "GameTeller$Board" "bottom" "I" ∈ gT := gT_t (i := 52) (by decide +kernel) rfl
theorem fX0_42 : gFld RX0 42 0 6 (.int) false := ⟨RX0, TX0, 7, tyX0, rfl, inX0, by decide, mw_168, tyX0_ok, nmX0, rfl, rfl, (fun h => by cases h)⟩
theorem mw_169 : Cond.fieldLink RX3 7 "GameTeller$Match" "board" "LGameTeller$Board;" ∈ gT := gT_t (i := 74) (by decide +kernel) rfl
theorem fX3_7 : gFld RX3 7 3 0 (.object "GameTeller$Board") true := ⟨RX3, TX3, 4, tyX3, rfl, inX3, by decide, mw_169, tyX3_ok, nmX3, rfl, rfl, (fun _ => rfl)⟩
theorem mw_170 : Cond.fieldLink RX3 15 "GameTeller$Match" "bits" "[I" ∈ gT := gT_t (i := 75) (by decide +kernel) rfl
theorem fX3_15 : gFld RX3 15 3 1 (.array .int) true := ⟨RX3, TX3, 4, tyX3, rfl, inX3, by decide, mw_170, tyX3_ok, nmX3, rfl, rfl, (fun _ => rfl)⟩
theorem mw_171 : Cond.fieldLink RX3 19 "GameTeller$Match" "count" "I" ∈ gT := gT_t (i := 76) (by decide +kernel) rfl
theorem fX3_19 : gFld RX3 19 3 2 (.int) false := ⟨RX3, TX3, 4, tyX3, rfl, inX3, by decide, mw_171, tyX3_ok, nmX3, rfl, rfl, (fun h => by cases h)⟩
theorem mw_172 : Cond.fieldLink RX8 89 "GameTeller$Match" "count" "I" ∈ gT := gT_t (i := 77) (by decide +kernel) rfl
theorem fX8_89 : gFld RX8 89 3 2 (.int) false := ⟨RX3, TX3, 4, tyX3, rfl, inX3, by decide, mw_172, tyX3_ok, nmX3, rfl, rfl, (fun h => by cases h)⟩
theorem mw_173 : Cond.fieldLink RX2 76 "GameTeller$Match" "count" "I" ∈ gT := gT_t (i := 78) (by decide +kernel) rfl
theorem fX2_76 : gFld RX2 76 3 2 (.int) false := ⟨RX3, TX3, 4, tyX3, rfl, inX3, by decide, mw_173, tyX3_ok, nmX3, rfl, rfl, (fun h => by cases h)⟩
theorem mw_174 : Cond.fieldLink RX3 23 "GameTeller$Match" "result" "I" ∈ gT := gT_t (i := 79) (by decide +kernel) rfl
theorem fX3_23 : gFld RX3 23 3 3 (.int) false := ⟨RX3, TX3, 4, tyX3, rfl, inX3, by decide, mw_174, tyX3_ok, nmX3, rfl, rfl, (fun h => by cases h)⟩
theorem mw_175 : Cond.fieldLink RX2 107 "GameTeller$Match" "result" "I" ∈ gT := gT_t (i := 80) (by decide +kernel) rfl
theorem fX2_107 : gFld RX2 107 3 3 (.int) false := ⟨RX3, TX3, 4, tyX3, rfl, inX3, by decide, mw_175, tyX3_ok, nmX3, rfl, rfl, (fun h => by cases h)⟩
theorem mw_176 : Cond.fieldLink RX8 233 "GameTeller$Match" "result" "I" ∈ gT := gT_t (i := 81) (by decide +kernel) rfl
theorem fX8_233 : gFld RX8 233 3 3 (.int) false := ⟨RX3, TX3, 4, tyX3, rfl, inX3, by decide, mw_176, tyX3_ok, nmX3, rfl, rfl, (fun h => by cases h)⟩
theorem mw_177 : Cond.fieldLink RX5 7 "GameTeller$Search" "board" "LGameTeller$Board;" ∈ gT := gT_t (i := 98) (by decide +kernel) rfl
theorem fX5_7 : gFld RX5 7 5 0 (.object "GameTeller$Board") true := ⟨RX5, TX5, 1, tyX5, rfl, inX5, by decide, mw_177, tyX5_ok, nmX5, rfl, rfl, (fun _ => rfl)⟩
theorem mw_178 : Cond.fieldLink RX2 13 "GameTeller$Judge" "board" "LGameTeller$Board;" ∈ gT := gT_t (i := 111) (by decide +kernel) rfl
theorem fX2_13 : gFld RX2 13 2 0 (.object "GameTeller$Board") true := ⟨RX2, TX2, 8, tyX2, rfl, inX2, by decide, mw_178, tyX2_ok, nmX2, rfl, rfl, (fun _ => rfl)⟩
theorem mw_179 : Cond.fieldLink RX2 19 "GameTeller$Judge" "match" "LGameTeller$Match;" ∈ gT := gT_t (i := 112) (by decide +kernel) rfl
theorem fX2_19 : gFld RX2 19 2 1 (.object "GameTeller$Match") true := ⟨RX2, TX2, 8, tyX2, rfl, inX2, by decide, mw_179, tyX2_ok, nmX2, rfl, rfl, (fun _ => rfl)⟩
theorem mw_180 : Cond.fieldLink RX2 23 "GameTeller$Judge" "search" "LGameTeller$Search;" ∈ gT := gT_t (i := 113) (by decide +kernel) rfl
theorem fX2_23 : gFld RX2 23 2 2 (.object "GameTeller$Search") true := ⟨RX2, TX2, 8, tyX2, rfl, inX2, by decide, mw_180, tyX2_ok, nmX2, rfl, rfl, (fun _ => rfl)⟩
theorem mw_181 : Cond.fieldLink RX2 27 "GameTeller$Judge" "weights" "[I" ∈ gT := gT_t (i := 114) (by decide +kernel) rfl
theorem fX2_27 : gFld RX2 27 2 3 (.array .int) true := ⟨RX2, TX2, 8, tyX2, rfl, inX2, by decide, mw_181, tyX2_ok, nmX2, rfl, rfl, (fun _ => rfl)⟩
theorem mw_182 : Cond.fieldLink RX2 31 "GameTeller$Judge" "values" "[I" ∈ gT := gT_t (i := 115) (by decide +kernel) rfl
theorem fX2_31 : gFld RX2 31 2 4 (.array .int) true := ⟨RX2, TX2, 8, tyX2, rfl, inX2, by decide, mw_182, tyX2_ok, nmX2, rfl, rfl, (fun _ => rfl)⟩
theorem mw_183 : Cond.fieldLink RX2 34 "GameTeller$Judge" "amounts" "[I" ∈ gT := gT_t (i := 116) (by decide +kernel) rfl
theorem fX2_34 : gFld RX2 34 2 5 (.array .int) true := ⟨RX2, TX2, 8, tyX2, rfl, inX2, by decide, mw_183, tyX2_ok, nmX2, rfl, rfl, (fun _ => rfl)⟩
theorem mw_184 : Cond.fieldLink RX2 37 "GameTeller$Judge" "toldDepth" "I" ∈ gT := gT_t (i := 117) (by decide +kernel) rfl
theorem fX2_37 : gFld RX2 37 2 6 (.int) false := ⟨RX2, TX2, 8, tyX2, rfl, inX2, by decide, mw_184, tyX2_ok, nmX2, rfl, rfl, (fun h => by cases h)⟩
theorem mw_185 : Cond.fieldLink RX8 236 "GameTeller$Judge" "toldDepth" "I" ∈ gT := gT_t (i := 118) (by decide +kernel) rfl
theorem fX8_236 : gFld RX8 236 2 6 (.int) false := ⟨RX2, TX2, 8, tyX2, rfl, inX2, by decide, mw_185, tyX2_ok, nmX2, rfl, rfl, (fun h => by cases h)⟩
theorem mw_186 : Cond.fieldLink RX2 47 "GameTeller$Judge" "examined" "I" ∈ gT := gT_t (i := 119) (by decide +kernel) rfl
theorem fX2_47 : gFld RX2 47 2 7 (.int) false := ⟨RX2, TX2, 8, tyX2, rfl, inX2, by decide, mw_186, tyX2_ok, nmX2, rfl, rfl, (fun h => by cases h)⟩
theorem mw_187 : Cond.fieldLink RX7 11 "GameTeller$Text" "bytes" "[B" ∈ gT := gT_t (i := 149) (by decide +kernel) rfl
theorem fX7_11 : gFld RX7 11 7 0 (.array .byte) true := ⟨RX7, TX7, 2, tyX7, rfl, inX7, by decide, mw_187, tyX7_ok, nmX7, rfl, rfl, (fun _ => rfl)⟩
theorem mw_188 : Cond.fieldLink RX7 15 "GameTeller$Text" "length" "I" ∈ gT := gT_t (i := 150) (by decide +kernel) rfl
theorem fX7_15 : gFld RX7 15 7 1 (.int) false := ⟨RX7, TX7, 2, tyX7, rfl, inX7, by decide, mw_188, tyX7_ok, nmX7, rfl, rfl, (fun h => by cases h)⟩
theorem mw_189 : Cond.fieldLink RX4 73 "GameTeller$Text" "length" "I" ∈ gT := gT_t (i := 151) (by decide +kernel) rfl
theorem fX4_73 : gFld RX4 73 7 1 (.int) false := ⟨RX7, TX7, 2, tyX7, rfl, inX7, by decide, mw_189, tyX7_ok, nmX7, rfl, rfl, (fun h => by cases h)⟩
theorem mw_190 : Cond.fieldLink RX8 150 "GameTeller$Text" "length" "I" ∈ gT := gT_t (i := 152) (by decide +kernel) rfl
theorem fX8_150 : gFld RX8 150 7 1 (.int) false := ⟨RX7, TX7, 2, tyX7, rfl, inX7, by decide, mw_190, tyX7_ok, nmX7, rfl, rfl, (fun h => by cases h)⟩
theorem mw_191 : Cond.fieldLink RX4 7 "GameTeller$Scribe" "board" "LGameTeller$Board;" ∈ gT := gT_t (i := 159) (by decide +kernel) rfl
theorem fX4_7 : gFld RX4 7 4 0 (.object "GameTeller$Board") true := ⟨RX4, TX4, 4, tyX4, rfl, inX4, by decide, mw_191, tyX4_ok, nmX4, rfl, rfl, (fun _ => rfl)⟩
theorem mw_192 : Cond.fieldLink RX4 13 "GameTeller$Scribe" "match" "LGameTeller$Match;" ∈ gT := gT_t (i := 160) (by decide +kernel) rfl
theorem fX4_13 : gFld RX4 13 4 1 (.object "GameTeller$Match") true := ⟨RX4, TX4, 4, tyX4, rfl, inX4, by decide, mw_192, tyX4_ok, nmX4, rfl, rfl, (fun _ => rfl)⟩
theorem mw_193 : Cond.fieldLink RX4 17 "GameTeller$Scribe" "judge" "LGameTeller$Judge;" ∈ gT := gT_t (i := 161) (by decide +kernel) rfl
theorem fX4_17 : gFld RX4 17 4 2 (.object "GameTeller$Judge") true := ⟨RX4, TX4, 4, tyX4, rfl, inX4, by decide, mw_193, tyX4_ok, nmX4, rfl, rfl, (fun _ => rfl)⟩
theorem mw_194 : Cond.fieldLink RX4 24 "GameTeller$Scribe" "draft" "LGameTeller$Text;" ∈ gT := gT_t (i := 162) (by decide +kernel) rfl
theorem fX4_24 : gFld RX4 24 4 3 (.object "GameTeller$Text") true := ⟨RX4, TX4, 4, tyX4, rfl, inX4, by decide, mw_194, tyX4_ok, nmX4, rfl, rfl, (fun _ => rfl)⟩
theorem mw_195 : Cond.fieldLink RX1 11 "GameTeller$Chooser" "numbers" "[I" ∈ gT := gT_t (i := 178) (by decide +kernel) rfl
theorem fX1_11 : gFld RX1 11 1 0 (.array .int) true := ⟨RX1, TX1, 7, tyX1, rfl, inX1, by decide, mw_195, tyX1_ok, nmX1, rfl, rfl, (fun _ => rfl)⟩
theorem mw_196 : Cond.fieldLink RX1 15 "GameTeller$Chooser" "worths" "[I" ∈ gT := gT_t (i := 179) (by decide +kernel) rfl
theorem fX1_15 : gFld RX1 15 1 1 (.array .int) true := ⟨RX1, TX1, 7, tyX1, rfl, inX1, by decide, mw_196, tyX1_ok, nmX1, rfl, rfl, (fun _ => rfl)⟩
theorem mw_197 : Cond.fieldLink RX1 18 "GameTeller$Chooser" "costs" "[I" ∈ gT := gT_t (i := 180) (by decide +kernel) rfl
theorem fX1_18 : gFld RX1 18 1 2 (.array .int) true := ⟨RX1, TX1, 7, tyX1, rfl, inX1, by decide, mw_197, tyX1_ok, nmX1, rfl, rfl, (fun _ => rfl)⟩
theorem mw_198 : Cond.fieldLink RX1 30 "GameTeller$Chooser" "offered" "I" ∈ gT := gT_t (i := 181) (by decide +kernel) rfl
theorem fX1_30 : gFld RX1 30 1 3 (.int) false := ⟨RX1, TX1, 7, tyX1, rfl, inX1, by decide, mw_198, tyX1_ok, nmX1, rfl, rfl, (fun h => by cases h)⟩
theorem mw_199 : Cond.fieldLink RX1 21 "GameTeller$Chooser" "bestWorths" "[I" ∈ gT := gT_t (i := 182) (by decide +kernel) rfl
theorem fX1_21 : gFld RX1 21 1 4 (.array .int) true := ⟨RX1, TX1, 7, tyX1, rfl, inX1, by decide, mw_199, tyX1_ok, nmX1, rfl, rfl, (fun _ => rfl)⟩
theorem mw_200 : Cond.fieldLink RX1 24 "GameTeller$Chooser" "bestCosts" "[I" ∈ gT := gT_t (i := 183) (by decide +kernel) rfl
theorem fX1_24 : gFld RX1 24 1 5 (.array .int) true := ⟨RX1, TX1, 7, tyX1, rfl, inX1, by decide, mw_200, tyX1_ok, nmX1, rfl, rfl, (fun _ => rfl)⟩
theorem mw_201 : Cond.fieldLink RX1 27 "GameTeller$Chooser" "bestSets" "[I" ∈ gT := gT_t (i := 184) (by decide +kernel) rfl
theorem fX1_27 : gFld RX1 27 1 6 (.array .int) true := ⟨RX1, TX1, 7, tyX1, rfl, inX1, by decide, mw_201, tyX1_ok, nmX1, rfl, rfl, (fun _ => rfl)⟩
theorem mw_202 : Cond.fieldLink RX6 11 "GameTeller$Tape" "bytes" "[I" ∈ gT := gT_t (i := 206) (by decide +kernel) rfl
theorem fX6_11 : gFld RX6 11 6 0 (.array .int) true := ⟨RX6, TX6, 6, tyX6, rfl, inX6, by decide, mw_202, tyX6_ok, nmX6, rfl, rfl, (fun _ => rfl)⟩
theorem mw_203 : Cond.fieldLink RX6 15 "GameTeller$Tape" "length" "I" ∈ gT := gT_t (i := 207) (by decide +kernel) rfl
theorem fX6_15 : gFld RX6 15 6 1 (.int) false := ⟨RX6, TX6, 6, tyX6, rfl, inX6, by decide, mw_203, tyX6_ok, nmX6, rfl, rfl, (fun h => by cases h)⟩
theorem mw_204 : Cond.fieldLink RX8 180 "GameTeller$Tape" "length" "I" ∈ gT := gT_t (i := 208) (by decide +kernel) rfl
theorem fX8_180 : gFld RX8 180 6 1 (.int) false := ⟨RX6, TX6, 6, tyX6, rfl, inX6, by decide, mw_204, tyX6_ok, nmX6, rfl, rfl, (fun h => by cases h)⟩
theorem mw_205 : Cond.fieldLink RX6 19 "GameTeller$Tape" "unsetPlace" "I" ∈ gT := gT_t (i := 209) (by decide +kernel) rfl
theorem fX6_19 : gFld RX6 19 6 2 (.int) false := ⟨RX6, TX6, 6, tyX6, rfl, inX6, by decide, mw_205, tyX6_ok, nmX6, rfl, rfl, (fun h => by cases h)⟩
theorem mw_206 : Cond.fieldLink RX8 239 "GameTeller$Tape" "unsetPlace" "I" ∈ gT := gT_t (i := 210) (by decide +kernel) rfl
theorem fX8_239 : gFld RX8 239 6 2 (.int) false := ⟨RX6, TX6, 6, tyX6, rfl, inX6, by decide, mw_206, tyX6_ok, nmX6, rfl, rfl, (fun h => by cases h)⟩
theorem mw_207 : Cond.fieldLink RX6 34 "GameTeller$Tape" "column" "I" ∈ gT := gT_t (i := 211) (by decide +kernel) rfl
theorem fX6_34 : gFld RX6 34 6 3 (.int) false := ⟨RX6, TX6, 6, tyX6, rfl, inX6, by decide, mw_207, tyX6_ok, nmX6, rfl, rfl, (fun h => by cases h)⟩
theorem mw_208 : Cond.fieldLink RX8 185 "GameTeller$Tape" "column" "I" ∈ gT := gT_t (i := 212) (by decide +kernel) rfl
theorem fX8_185 : gFld RX8 185 6 3 (.int) false := ⟨RX6, TX6, 6, tyX6, rfl, inX6, by decide, mw_208, tyX6_ok, nmX6, rfl, rfl, (fun h => by cases h)⟩
theorem mw_209 : Cond.fieldLink RX6 37 "GameTeller$Tape" "row" "I" ∈ gT := gT_t (i := 213) (by decide +kernel) rfl
theorem fX6_37 : gFld RX6 37 6 4 (.int) false := ⟨RX6, TX6, 6, tyX6, rfl, inX6, by decide, mw_209, tyX6_ok, nmX6, rfl, rfl, (fun h => by cases h)⟩
theorem mw_210 : Cond.fieldLink RX8 188 "GameTeller$Tape" "row" "I" ∈ gT := gT_t (i := 214) (by decide +kernel) rfl
theorem fX8_188 : gFld RX8 188 6 4 (.int) false := ⟨RX6, TX6, 6, tyX6, rfl, inX6, by decide, mw_210, tyX6_ok, nmX6, rfl, rfl, (fun h => by cases h)⟩
theorem mw_211 : Cond.fieldLink RX6 43 "GameTeller$Tape" "end" "I" ∈ gT := gT_t (i := 215) (by decide +kernel) rfl
theorem fX6_43 : gFld RX6 43 6 5 (.int) false := ⟨RX6, TX6, 6, tyX6, rfl, inX6, by decide, mw_211, tyX6_ok, nmX6, rfl, rfl, (fun h => by cases h)⟩
theorem mw_212 : Cond.fieldLink RX8 194 "GameTeller$Tape" "end" "I" ∈ gT := gT_t (i := 216) (by decide +kernel) rfl
theorem fX8_194 : gFld RX8 194 6 5 (.int) false := ⟨RX6, TX6, 6, tyX6, rfl, inX6, by decide, mw_212, tyX6_ok, nmX6, rfl, rfl, (fun h => by cases h)⟩
theorem mw_213 : Cond.fieldLink RX8 10 "GameTeller" "board" "LGameTeller$Board;" ∈ gT := gT_t (i := 232) (by decide +kernel) rfl
theorem fX8_10 : gFld RX8 10 8 0 (.object "GameTeller$Board") true := ⟨RX8, TX8, 8, tyX8, rfl, inX8, by decide, mw_213, tyX8_ok, nmX8, rfl, rfl, (fun _ => rfl)⟩
theorem mw_214 : Cond.fieldLink RX8 21 "GameTeller" "match" "LGameTeller$Match;" ∈ gT := gT_t (i := 233) (by decide +kernel) rfl
theorem fX8_21 : gFld RX8 21 8 1 (.object "GameTeller$Match") true := ⟨RX8, TX8, 8, tyX8, rfl, inX8, by decide, mw_214, tyX8_ok, nmX8, rfl, rfl, (fun _ => rfl)⟩
theorem mw_215 : Cond.fieldLink RX8 28 "GameTeller" "search" "LGameTeller$Search;" ∈ gT := gT_t (i := 234) (by decide +kernel) rfl
theorem fX8_28 : gFld RX8 28 8 2 (.object "GameTeller$Search") true := ⟨RX8, TX8, 8, tyX8, rfl, inX8, by decide, mw_215, tyX8_ok, nmX8, rfl, rfl, (fun _ => rfl)⟩
theorem mw_216 : Cond.fieldLink RX8 37 "GameTeller" "judge" "LGameTeller$Judge;" ∈ gT := gT_t (i := 235) (by decide +kernel) rfl
theorem fX8_37 : gFld RX8 37 8 3 (.object "GameTeller$Judge") true := ⟨RX8, TX8, 8, tyX8, rfl, inX8, by decide, mw_216, tyX8_ok, nmX8, rfl, rfl, (fun _ => rfl)⟩
theorem mw_217 : Cond.fieldLink RX8 46 "GameTeller" "scribe" "LGameTeller$Scribe;" ∈ gT := gT_t (i := 236) (by decide +kernel) rfl
theorem fX8_46 : gFld RX8 46 8 4 (.object "GameTeller$Scribe") true := ⟨RX8, TX8, 8, tyX8, rfl, inX8, by decide, mw_217, tyX8_ok, nmX8, rfl, rfl, (fun _ => rfl)⟩
theorem mw_218 : Cond.fieldLink RX8 53 "GameTeller" "chooser" "LGameTeller$Chooser;" ∈ gT := gT_t (i := 237) (by decide +kernel) rfl
theorem fX8_53 : gFld RX8 53 8 5 (.object "GameTeller$Chooser") true := ⟨RX8, TX8, 8, tyX8, rfl, inX8, by decide, mw_218, tyX8_ok, nmX8, rfl, rfl, (fun _ => rfl)⟩
theorem mw_219 : Cond.fieldLink RX8 60 "GameTeller" "tape" "LGameTeller$Tape;" ∈ gT := gT_t (i := 238) (by decide +kernel) rfl
theorem fX8_60 : gFld RX8 60 8 6 (.object "GameTeller$Tape") true := ⟨RX8, TX8, 8, tyX8, rfl, inX8, by decide, mw_219, tyX8_ok, nmX8, rfl, rfl, (fun _ => rfl)⟩
theorem mw_220 : Cond.fieldLink RX8 67 "GameTeller" "told" "LGameTeller$Text;" ∈ gT := gT_t (i := 239) (by decide +kernel) rfl
theorem fX8_67 : gFld RX8 67 8 7 (.object "GameTeller$Text") true := ⟨RX8, TX8, 8, tyX8, rfl, inX8, by decide, mw_220, tyX8_ok, nmX8, rfl, rfl, (fun _ => rfl)⟩
theorem mw_221 : Cond.fieldLink RX0 63 RX0 "STEPS" "[I" ∈ gT := gT_t (i := 306) (by decide +kernel) rfl
theorem fX0_63 : Cond.fieldLink RX0 63 RX0 "STEPS" "[I" ∈ gT := mw_221
theorem mw_222 : Cond.fieldLink RX9 7 "GameTellerModel" "w" "I" ∈ gT := gT_t (i := 642) (by decide +kernel) rfl
theorem fX9_7 : gFld RX9 7 9 0 (.int) false := ⟨RX9, TX9, 28, tyX9, rfl, inX9, by decide, mw_222, tyX9_ok, nmX9, rfl, rfl, (fun h => by cases h)⟩
theorem mw_223 : Cond.fieldLink RX9 13 "GameTellerModel" "h" "I" ∈ gT := gT_t (i := 643) (by decide +kernel) rfl
theorem fX9_13 : gFld RX9 13 9 1 (.int) false := ⟨RX9, TX9, 28, tyX9, rfl, inX9, by decide, mw_223, tyX9_ok, nmX9, rfl, rfl, (fun h => by cases h)⟩
theorem mw_224 : Cond.fieldLink RX9 16 "GameTellerModel" "k" "I" ∈ gT := gT_t (i := 644) (by decide +kernel) rfl
theorem fX9_16 : gFld RX9 16 9 2 (.int) false := ⟨RX9, TX9, 28, tyX9, rfl, inX9, by decide, mw_224, tyX9_ok, nmX9, rfl, rfl, (fun h => by cases h)⟩
theorem mw_225 : Cond.fieldLink RX9 78 "GameTellerModel" "moves" "I" ∈ gT := gT_t (i := 645) (by decide +kernel) rfl
theorem fX9_78 : gFld RX9 78 9 3 (.int) false := ⟨RX9, TX9, 28, tyX9, rfl, inX9, by decide, mw_225, tyX9_ok, nmX9, rfl, rfl, (fun h => by cases h)⟩
theorem mw_226 : Cond.fieldLink RX9 19 "GameTellerModel" "deep" "I" ∈ gT := gT_t (i := 646) (by decide +kernel) rfl
theorem fX9_19 : gFld RX9 19 9 4 (.int) false := ⟨RX9, TX9, 28, tyX9, rfl, inX9, by decide, mw_226, tyX9_ok, nmX9, rfl, rfl, (fun h => by cases h)⟩
theorem mw_227 : Cond.fieldLink RX9 71 "GameTellerModel" "hasGravity" "Z" ∈ gT := gT_t (i := 647) (by decide +kernel) rfl
theorem fX9_71 : gFld RX9 71 9 5 (.boolean) false := ⟨RX9, TX9, 28, tyX9, rfl, inX9, by decide, mw_227, tyX9_ok, nmX9, rfl, rfl, (fun h => by cases h)⟩
theorem mw_228 : Cond.fieldLink RX9 75 "GameTellerModel" "rowsLose" "Z" ∈ gT := gT_t (i := 648) (by decide +kernel) rfl
theorem fX9_75 : gFld RX9 75 9 6 (.boolean) false := ⟨RX9, TX9, 28, tyX9, rfl, inX9, by decide, mw_228, tyX9_ok, nmX9, rfl, rfl, (fun h => by cases h)⟩
theorem mw_229 : Cond.fieldLink RX9 22 "GameTellerModel" "cell" "[I" ∈ gT := gT_t (i := 649) (by decide +kernel) rfl
theorem fX9_22 : gFld RX9 22 9 7 (.array .int) true := ⟨RX9, TX9, 28, tyX9, rfl, inX9, by decide, mw_229, tyX9_ok, nmX9, rfl, rfl, (fun _ => rfl)⟩
theorem mw_230 : Cond.fieldLink RX9 26 "GameTellerModel" "weights" "[I" ∈ gT := gT_t (i := 650) (by decide +kernel) rfl
theorem fX9_26 : gFld RX9 26 9 8 (.array .int) true := ⟨RX9, TX9, 28, tyX9, rfl, inX9, by decide, mw_230, tyX9_ok, nmX9, rfl, rfl, (fun _ => rfl)⟩
theorem mw_231 : Cond.fieldLink RX9 29 "GameTellerModel" "stone" "[I" ∈ gT := gT_t (i := 651) (by decide +kernel) rfl
theorem fX9_29 : gFld RX9 29 9 9 (.array .int) true := ⟨RX9, TX9, 28, tyX9, rfl, inX9, by decide, mw_231, tyX9_ok, nmX9, rfl, rfl, (fun _ => rfl)⟩
theorem mw_232 : Cond.fieldLink RX9 81 "GameTellerModel" "set" "I" ∈ gT := gT_t (i := 652) (by decide +kernel) rfl
theorem fX9_81 : gFld RX9 81 9 10 (.int) false := ⟨RX9, TX9, 28, tyX9, rfl, inX9, by decide, mw_232, tyX9_ok, nmX9, rfl, rfl, (fun h => by cases h)⟩
theorem mw_233 : Cond.fieldLink RX9 84 "GameTellerModel" "winner" "I" ∈ gT := gT_t (i := 653) (by decide +kernel) rfl
theorem fX9_84 : gFld RX9 84 9 11 (.int) false := ⟨RX9, TX9, 28, tyX9, rfl, inX9, by decide, mw_233, tyX9_ok, nmX9, rfl, rfl, (fun h => by cases h)⟩
theorem mw_234 : Cond.fieldLink RX9 32 "GameTellerModel" "bests" "[I" ∈ gT := gT_t (i := 654) (by decide +kernel) rfl
theorem fX9_32 : gFld RX9 32 9 12 (.array .int) true := ⟨RX9, TX9, 28, tyX9, rfl, inX9, by decide, mw_234, tyX9_ok, nmX9, rfl, rfl, (fun _ => rfl)⟩
theorem mw_235 : Cond.fieldLink RX9 35 "GameTellerModel" "next" "[I" ∈ gT := gT_t (i := 655) (by decide +kernel) rfl
theorem fX9_35 : gFld RX9 35 9 13 (.array .int) true := ⟨RX9, TX9, 28, tyX9, rfl, inX9, by decide, mw_235, tyX9_ok, nmX9, rfl, rfl, (fun _ => rfl)⟩
theorem mw_236 : Cond.fieldLink RX9 38 "GameTellerModel" "chosenAt" "[I" ∈ gT := gT_t (i := 656) (by decide +kernel) rfl
theorem fX9_38 : gFld RX9 38 9 14 (.array .int) true := ⟨RX9, TX9, 28, tyX9, rfl, inX9, by decide, mw_236, tyX9_ok, nmX9, rfl, rfl, (fun _ => rfl)⟩
theorem mw_237 : Cond.fieldLink RX9 41 "GameTellerModel" "leads" "[I" ∈ gT := gT_t (i := 657) (by decide +kernel) rfl
theorem fX9_41 : gFld RX9 41 9 15 (.array .int) true := ⟨RX9, TX9, 28, tyX9, rfl, inX9, by decide, mw_237, tyX9_ok, nmX9, rfl, rfl, (fun _ => rfl)⟩
theorem mw_238 : Cond.fieldLink RX9 44 "GameTellerModel" "isLed" "[Z" ∈ gT := gT_t (i := 658) (by decide +kernel) rfl
theorem fX9_44 : gFld RX9 44 9 16 (.array .boolean) true := ⟨RX9, TX9, 28, tyX9, rfl, inX9, by decide, mw_238, tyX9_ok, nmX9, rfl, rfl, (fun _ => rfl)⟩
theorem mw_239 : Cond.fieldLink RX9 48 "GameTellerModel" "said" "[B" ∈ gT := gT_t (i := 659) (by decide +kernel) rfl
theorem fX9_48 : gFld RX9 48 9 17 (.array .byte) true := ⟨RX9, TX9, 28, tyX9, rfl, inX9, by decide, mw_239, tyX9_ok, nmX9, rfl, rfl, (fun _ => rfl)⟩
theorem mw_240 : Cond.fieldLink RX9 156 "GameTellerModel" "saidMany" "I" ∈ gT := gT_t (i := 660) (by decide +kernel) rfl
theorem fX9_156 : gFld RX9 156 9 18 (.int) false := ⟨RX9, TX9, 28, tyX9, rfl, inX9, by decide, mw_240, tyX9_ok, nmX9, rfl, rfl, (fun h => by cases h)⟩
theorem mw_241 : Cond.fieldLink RX9 52 "GameTellerModel" "of" "[I" ∈ gT := gT_t (i := 661) (by decide +kernel) rfl
theorem fX9_52 : gFld RX9 52 9 19 (.array .int) true := ⟨RX9, TX9, 28, tyX9, rfl, inX9, by decide, mw_241, tyX9_ok, nmX9, rfl, rfl, (fun _ => rfl)⟩
theorem mw_242 : Cond.fieldLink RX9 55 "GameTellerModel" "worths" "[I" ∈ gT := gT_t (i := 662) (by decide +kernel) rfl
theorem fX9_55 : gFld RX9 55 9 20 (.array .int) true := ⟨RX9, TX9, 28, tyX9, rfl, inX9, by decide, mw_242, tyX9_ok, nmX9, rfl, rfl, (fun _ => rfl)⟩
theorem mw_243 : Cond.fieldLink RX9 58 "GameTellerModel" "bytes" "[I" ∈ gT := gT_t (i := 663) (by decide +kernel) rfl
theorem fX9_58 : gFld RX9 58 9 21 (.array .int) true := ⟨RX9, TX9, 28, tyX9, rfl, inX9, by decide, mw_243, tyX9_ok, nmX9, rfl, rfl, (fun _ => rfl)⟩
theorem mw_244 : Cond.fieldLink RX9 178 "GameTellerModel" "ofMany" "I" ∈ gT := gT_t (i := 664) (by decide +kernel) rfl
theorem fX9_178 : gFld RX9 178 9 22 (.int) false := ⟨RX9, TX9, 28, tyX9, rfl, inX9, by decide, mw_244, tyX9_ok, nmX9, rfl, rfl, (fun h => by cases h)⟩
theorem mw_245 : Cond.fieldLink RX9 61 "GameTellerModel" "tape" "[B" ∈ gT := gT_t (i := 665) (by decide +kernel) rfl
theorem fX9_61 : gFld RX9 61 9 23 (.array .byte) true := ⟨RX9, TX9, 28, tyX9, rfl, inX9, by decide, mw_245, tyX9_ok, nmX9, rfl, rfl, (fun _ => rfl)⟩
theorem mw_246 : Cond.fieldLink RX9 193 "GameTellerModel" "taped" "I" ∈ gT := gT_t (i := 666) (by decide +kernel) rfl
theorem fX9_193 : gFld RX9 193 9 24 (.int) false := ⟨RX9, TX9, 28, tyX9, rfl, inX9, by decide, mw_246, tyX9_ok, nmX9, rfl, rfl, (fun h => by cases h)⟩
theorem mw_247 : Cond.fieldLink RX9 205 "GameTellerModel" "at" "I" ∈ gT := gT_t (i := 667) (by decide +kernel) rfl
theorem fX9_205 : gFld RX9 205 9 25 (.int) false := ⟨RX9, TX9, 28, tyX9, rfl, inX9, by decide, mw_247, tyX9_ok, nmX9, rfl, rfl, (fun h => by cases h)⟩
theorem mw_248 : Cond.fieldLink RX9 199 "GameTellerModel" "size" "I" ∈ gT := gT_t (i := 668) (by decide +kernel) rfl
theorem fX9_199 : gFld RX9 199 9 26 (.int) false := ⟨RX9, TX9, 28, tyX9, rfl, inX9, by decide, mw_248, tyX9_ok, nmX9, rfl, rfl, (fun h => by cases h)⟩
theorem mw_249 : Cond.fieldLink RX9 224 "GameTellerModel" "unread" "I" ∈ gT := gT_t (i := 669) (by decide +kernel) rfl
theorem fX9_224 : gFld RX9 224 9 27 (.int) false := ⟨RX9, TX9, 28, tyX9, rfl, inX9, by decide, mw_249, tyX9_ok, nmX9, rfl, rfl, (fun h => by cases h)⟩
theorem mw_250 : Cond.methodLink RL 9 yX8_init ∈ gT := gT_t (i := 16) (by decide +kernel) rfl
theorem mw_251 : Cond.initialized RX8 ∈ gT := gT_t (i := 1) (by decide +kernel) rfl
theorem mw_252 : Cond.instanceMethod yX8_init ∈ gT := gT_t (i := 17) (by decide +kernel) rfl
theorem cL_9 : gCI RL 9 0 mX8_init := ⟨mw_250, mw_252, mw_251, mw_71, ⟨by decide +kernel, by decide +kernel, by decide +kernel⟩, by decide, rfl, rfl⟩
theorem mw_253 : Cond.methodLink RX8 9 yX0_init ∈ gT := gT_t (i := 24) (by decide +kernel) rfl
theorem mw_254 : Cond.initialized RX0 ∈ gT := gT_t (i := 2) (by decide +kernel) rfl
theorem mw_255 : Cond.instanceMethod yX0_init ∈ gT := gT_t (i := 25) (by decide +kernel) rfl
theorem cX8_9 : gCI RX8 9 0 mX0_init := ⟨mw_253, mw_255, mw_254, mw_0, ⟨by decide +kernel, by decide +kernel, by decide +kernel⟩, by decide, rfl, rfl⟩
theorem mw_256 : Cond.methodLink RX0 11 yX0_lay ∈ gT := gT_t (i := 28) (by decide +kernel) rfl
theorem mw_257 : Cond.instanceMethod yX0_lay ∈ gT := gT_t (i := 29) (by decide +kernel) rfl
theorem mw_258 : Cond.selects RX0 yX0_lay yX0_lay ∈ gT := gT_t (i := 30) (by decide +kernel) rfl
theorem cX0_11 : gCV RX0 11 5 mX0_lay := ⟨mw_256, mw_257, mw_258, mw_254, mw_1, ⟨by decide +kernel, by decide +kernel, by decide +kernel⟩, by decide⟩
theorem mw_259 : Cond.methodLink RX0 15 yX0_isSide ∈ gT := gT_t (i := 32) (by decide +kernel) rfl
theorem mw_260 : Cond.static yX0_isSide ∈ gT := gT_t (i := 33) (by decide +kernel) rfl
theorem cX0_15 : gCS RX0 15 1 mX0_isSide := ⟨mw_259, mw_260, mw_254, mw_2, ⟨by decide +kernel, by decide +kernel, by decide +kernel⟩, by decide⟩
theorem mw_261 : Cond.methodLink RX8 18 yX3_init ∈ gT := gT_t (i := 70) (by decide +kernel) rfl
theorem mw_262 : Cond.initialized RX3 ∈ gT := gT_t (i := 4) (by decide +kernel) rfl
theorem mw_263 : Cond.instanceMethod yX3_init ∈ gT := gT_t (i := 71) (by decide +kernel) rfl
theorem cX8_18 : gCI RX8 18 1 mX3_init := ⟨mw_261, mw_263, mw_262, mw_37, ⟨by decide +kernel, by decide +kernel, by decide +kernel⟩, by decide, rfl, rfl⟩
theorem mw_264 : Cond.methodLink RX8 27 yX5_init ∈ gT := gT_t (i := 94) (by decide +kernel) rfl
theorem mw_265 : Cond.initialized RX5 ∈ gT := gT_t (i := 5) (by decide +kernel) rfl
theorem mw_266 : Cond.instanceMethod yX5_init ∈ gT := gT_t (i := 95) (by decide +kernel) rfl
theorem cX8_27 : gCI RX8 27 1 mX5_init := ⟨mw_264, mw_266, mw_265, mw_51, ⟨by decide +kernel, by decide +kernel, by decide +kernel⟩, by decide, rfl, rfl⟩
theorem mw_267 : Cond.methodLink RX8 34 yX2_init ∈ gT := gT_t (i := 104) (by decide +kernel) rfl
theorem mw_268 : Cond.initialized RX2 ∈ gT := gT_t (i := 6) (by decide +kernel) rfl
theorem mw_269 : Cond.instanceMethod yX2_init ∈ gT := gT_t (i := 105) (by decide +kernel) rfl
theorem cX8_34 : gCI RX8 34 3 mX2_init := ⟨mw_267, mw_269, mw_268, mw_18, ⟨by decide +kernel, by decide +kernel, by decide +kernel⟩, by decide, rfl, rfl⟩
theorem mw_270 : Cond.methodLink RX2 41 yJ7_fill_53178 ∈ gT := gT_t (i := 108) (by decide +kernel) rfl
theorem mw_271 : Cond.initialized RJ7 ∈ gT := gT_t (i := 7) (by decide +kernel) rfl
theorem mw_272 : Cond.static yJ7_fill_53178 ∈ gT := gT_t (i := 109) (by decide +kernel) rfl
theorem cX2_41 : gCS RX2 41 2 mJ7_fill_53178 := ⟨mw_270, mw_272, mw_271, mw_153, ⟨by decide +kernel, by decide +kernel, by decide +kernel⟩, by decide⟩
theorem mw_273 : Cond.methodLink RX8 43 yX4_init ∈ gT := gT_t (i := 139) (by decide +kernel) rfl
theorem mw_274 : Cond.initialized RX4 ∈ gT := gT_t (i := 8) (by decide +kernel) rfl
theorem mw_275 : Cond.instanceMethod yX4_init ∈ gT := gT_t (i := 140) (by decide +kernel) rfl
theorem cX8_43 : gCI RX8 43 3 mX4_init := ⟨mw_273, mw_275, mw_274, mw_45, ⟨by decide +kernel, by decide +kernel, by decide +kernel⟩, by decide, rfl, rfl⟩
theorem mw_276 : Cond.methodLink RX4 23 yX7_init ∈ gT := gT_t (i := 145) (by decide +kernel) rfl
theorem mw_277 : Cond.initialized RX7 ∈ gT := gT_t (i := 9) (by decide +kernel) rfl
theorem mw_278 : Cond.instanceMethod yX7_init ∈ gT := gT_t (i := 146) (by decide +kernel) rfl
theorem cX4_23 : gCI RX4 23 0 mX7_init := ⟨mw_276, mw_278, mw_277, mw_66, ⟨by decide +kernel, by decide +kernel, by decide +kernel⟩, by decide, rfl, rfl⟩
theorem mw_279 : Cond.methodLink RX8 52 yX1_init ∈ gT := gT_t (i := 174) (by decide +kernel) rfl
theorem mw_280 : Cond.initialized RX1 ∈ gT := gT_t (i := 10) (by decide +kernel) rfl
theorem mw_281 : Cond.instanceMethod yX1_init ∈ gT := gT_t (i := 175) (by decide +kernel) rfl
theorem cX8_52 : gCI RX8 52 0 mX1_init := ⟨mw_279, mw_281, mw_280, mw_13, ⟨by decide +kernel, by decide +kernel, by decide +kernel⟩, by decide, rfl, rfl⟩
theorem mw_282 : Cond.methodLink RX8 59 yX6_init ∈ gT := gT_t (i := 202) (by decide +kernel) rfl
theorem mw_283 : Cond.initialized RX6 ∈ gT := gT_t (i := 11) (by decide +kernel) rfl
theorem mw_284 : Cond.instanceMethod yX6_init ∈ gT := gT_t (i := 203) (by decide +kernel) rfl
theorem cX8_59 : gCI RX8 59 0 mX6_init := ⟨mw_282, mw_284, mw_283, mw_55, ⟨by decide +kernel, by decide +kernel, by decide +kernel⟩, by decide, rfl, rfl⟩
theorem mw_285 : Cond.methodLink RX8 66 yX7_init ∈ gT := gT_t (i := 231) (by decide +kernel) rfl
theorem cX8_66 : gCI RX8 66 0 mX7_init := ⟨mw_285, mw_278, mw_277, mw_66, ⟨by decide +kernel, by decide +kernel, by decide +kernel⟩, by decide, rfl, rfl⟩
theorem mw_286 : Cond.methodLink RL 13 yX8_game ∈ gT := gT_t (i := 257) (by decide +kernel) rfl
theorem mw_287 : Cond.instanceMethod yX8_game ∈ gT := gT_t (i := 258) (by decide +kernel) rfl
theorem mw_288 : Cond.selects RX8 yX8_game yX8_game ∈ gT := gT_t (i := 259) (by decide +kernel) rfl
theorem cL_13 : gCV RL 13 5 mX8_game := ⟨mw_286, mw_287, mw_288, mw_251, mw_72, ⟨by decide +kernel, by decide +kernel, by decide +kernel⟩, by decide⟩
theorem mw_289 : Cond.methodLink RX8 71 yX0_lay ∈ gT := gT_t (i := 261) (by decide +kernel) rfl
theorem cX8_71 : gCV RX8 71 5 mX0_lay := ⟨mw_289, mw_257, mw_258, mw_254, mw_1, ⟨by decide +kernel, by decide +kernel, by decide +kernel⟩, by decide⟩
theorem mw_290 : Cond.methodLink RX8 75 yX3_clear ∈ gT := gT_t (i := 262) (by decide +kernel) rfl
theorem mw_291 : Cond.instanceMethod yX3_clear ∈ gT := gT_t (i := 263) (by decide +kernel) rfl
theorem mw_292 : Cond.selects RX3 yX3_clear yX3_clear ∈ gT := gT_t (i := 264) (by decide +kernel) rfl
theorem cX8_75 : gCV RX8 75 0 mX3_clear := ⟨mw_290, mw_291, mw_292, mw_262, mw_38, ⟨by decide +kernel, by decide +kernel, by decide +kernel⟩, by decide⟩
theorem mw_293 : Cond.methodLink RX8 78 yX2_forgetAll ∈ gT := gT_t (i := 266) (by decide +kernel) rfl
theorem mw_294 : Cond.instanceMethod yX2_forgetAll ∈ gT := gT_t (i := 267) (by decide +kernel) rfl
theorem mw_295 : Cond.selects RX2 yX2_forgetAll yX2_forgetAll ∈ gT := gT_t (i := 268) (by decide +kernel) rfl
theorem cX8_78 : gCV RX8 78 0 mX2_forgetAll := ⟨mw_293, mw_294, mw_295, mw_268, mw_22, ⟨by decide +kernel, by decide +kernel, by decide +kernel⟩, by decide⟩
theorem mw_296 : Cond.methodLink RL 18 yX8_play ∈ gT := gT_t (i := 270) (by decide +kernel) rfl
theorem mw_297 : Cond.instanceMethod yX8_play ∈ gT := gT_t (i := 271) (by decide +kernel) rfl
theorem mw_298 : Cond.selects RX8 yX8_play yX8_play ∈ gT := gT_t (i := 272) (by decide +kernel) rfl
theorem cL_18 : gCV RL 18 1 mX8_play := ⟨mw_296, mw_297, mw_298, mw_251, mw_73, ⟨by decide +kernel, by decide +kernel, by decide +kernel⟩, by decide⟩
theorem mw_299 : Cond.methodLink RX8 81 yX0_bitOf ∈ gT := gT_t (i := 274) (by decide +kernel) rfl
theorem mw_300 : Cond.instanceMethod yX0_bitOf ∈ gT := gT_t (i := 275) (by decide +kernel) rfl
theorem mw_301 : Cond.selects RX0 yX0_bitOf yX0_bitOf ∈ gT := gT_t (i := 276) (by decide +kernel) rfl
theorem cX8_81 : gCV RX8 81 1 mX0_bitOf := ⟨mw_299, mw_300, mw_301, mw_254, mw_3, ⟨by decide +kernel, by decide +kernel, by decide +kernel⟩, by decide⟩
theorem mw_302 : Cond.methodLink RX0 48 yX0_bitAt ∈ gT := gT_t (i := 278) (by decide +kernel) rfl
theorem mw_303 : Cond.instanceMethod yX0_bitAt ∈ gT := gT_t (i := 279) (by decide +kernel) rfl
theorem mw_304 : Cond.selects RX0 yX0_bitAt yX0_bitAt ∈ gT := gT_t (i := 280) (by decide +kernel) rfl
theorem cX0_48 : gCV RX0 48 2 mX0_bitAt := ⟨mw_302, mw_303, mw_304, mw_254, mw_4, ⟨by decide +kernel, by decide +kernel, by decide +kernel⟩, by decide⟩
theorem mw_305 : Cond.methodLink RX8 85 yX8_setStone ∈ gT := gT_t (i := 282) (by decide +kernel) rfl
theorem mw_306 : Cond.instanceMethod yX8_setStone ∈ gT := gT_t (i := 284) (by decide +kernel) rfl
theorem mw_307 : Cond.selects RX8 yX8_setStone yX8_setStone ∈ gT := gT_p (i := 0) (by decide +kernel) rfl
theorem cX8_85 : gCV RX8 85 1 mX8_setStone := ⟨mw_305, mw_306, mw_307, mw_251, mw_92, ⟨by decide +kernel, by decide +kernel, by decide +kernel⟩, by decide⟩
theorem mw_308 : Cond.methodLink RX8 242 yX3_addMove ∈ gT := gT_t (i := 286) (by decide +kernel) rfl
theorem mw_309 : Cond.instanceMethod yX3_addMove ∈ gT := gT_t (i := 287) (by decide +kernel) rfl
theorem mw_310 : Cond.selects RX3 yX3_addMove yX3_addMove ∈ gT := gT_t (i := 288) (by decide +kernel) rfl
theorem cX8_242 : gCV RX8 242 1 mX3_addMove := ⟨mw_308, mw_309, mw_310, mw_262, mw_39, ⟨by decide +kernel, by decide +kernel, by decide +kernel⟩, by decide⟩
theorem mw_311 : Cond.methodLink RX3 26 yX3_stonesOf ∈ gT := gT_t (i := 290) (by decide +kernel) rfl
theorem mw_312 : Cond.instanceMethod yX3_stonesOf ∈ gT := gT_t (i := 291) (by decide +kernel) rfl
theorem mw_313 : Cond.selects RX3 yX3_stonesOf yX3_stonesOf ∈ gT := gT_t (i := 292) (by decide +kernel) rfl
theorem cX3_26 : gCV RX3 26 2 mX3_stonesOf := ⟨mw_311, mw_312, mw_313, mw_262, mw_42, ⟨by decide +kernel, by decide +kernel, by decide +kernel⟩, by decide⟩
theorem mw_314 : Cond.methodLink RX3 41 yX3_bitOfMove ∈ gT := gT_t (i := 294) (by decide +kernel) rfl
theorem mw_315 : Cond.instanceMethod yX3_bitOfMove ∈ gT := gT_t (i := 295) (by decide +kernel) rfl
theorem mw_316 : Cond.selects RX3 yX3_bitOfMove yX3_bitOfMove ∈ gT := gT_t (i := 296) (by decide +kernel) rfl
theorem cX3_41 : gCV RX3 41 1 mX3_bitOfMove := ⟨mw_314, mw_315, mw_316, mw_262, mw_41, ⟨by decide +kernel, by decide +kernel, by decide +kernel⟩, by decide⟩
theorem mw_317 : Cond.methodLink RX3 30 yX0_openCells ∈ gT := gT_t (i := 298) (by decide +kernel) rfl
theorem mw_318 : Cond.instanceMethod yX0_openCells ∈ gT := gT_t (i := 299) (by decide +kernel) rfl
theorem mw_319 : Cond.selects RX0 yX0_openCells yX0_openCells ∈ gT := gT_t (i := 300) (by decide +kernel) rfl
theorem cX3_30 : gCV RX3 30 1 mX0_openCells := ⟨mw_317, mw_318, mw_319, mw_254, mw_8, ⟨by decide +kernel, by decide +kernel, by decide +kernel⟩, by decide⟩
theorem mw_320 : Cond.methodLink RX3 34 yX0_completing ∈ gT := gT_t (i := 302) (by decide +kernel) rfl
theorem mw_321 : Cond.instanceMethod yX0_completing ∈ gT := gT_t (i := 303) (by decide +kernel) rfl
theorem mw_322 : Cond.selects RX0 yX0_completing yX0_completing ∈ gT := gT_t (i := 304) (by decide +kernel) rfl
theorem cX3_34 : gCV RX3 34 1 mX0_completing := ⟨mw_320, mw_321, mw_322, mw_254, mw_9, ⟨by decide +kernel, by decide +kernel, by decide +kernel⟩, by decide⟩
theorem mw_323 : Cond.methodLink RX8 245 yX2_forgetMove ∈ gT := gT_t (i := 308) (by decide +kernel) rfl
theorem mw_324 : Cond.instanceMethod yX2_forgetMove ∈ gT := gT_t (i := 309) (by decide +kernel) rfl
theorem mw_325 : Cond.selects RX2 yX2_forgetMove yX2_forgetMove ∈ gT := gT_t (i := 310) (by decide +kernel) rfl
theorem cX8_245 : gCV RX8 245 1 mX2_forgetMove := ⟨mw_323, mw_324, mw_325, mw_268, mw_23, ⟨by decide +kernel, by decide +kernel, by decide +kernel⟩, by decide⟩
theorem mw_326 : Cond.methodLink RL 23 yX8_back ∈ gT := gT_t (i := 315) (by decide +kernel) rfl
theorem mw_327 : Cond.instanceMethod yX8_back ∈ gT := gT_t (i := 316) (by decide +kernel) rfl
theorem mw_328 : Cond.selects RX8 yX8_back yX8_back ∈ gT := gT_t (i := 317) (by decide +kernel) rfl
theorem cL_23 : gCV RL 23 0 mX8_back := ⟨mw_326, mw_327, mw_328, mw_251, mw_74, ⟨by decide +kernel, by decide +kernel, by decide +kernel⟩, by decide⟩
theorem mw_329 : Cond.methodLink RX8 93 yX3_takeBack ∈ gT := gT_t (i := 319) (by decide +kernel) rfl
theorem mw_330 : Cond.instanceMethod yX3_takeBack ∈ gT := gT_t (i := 320) (by decide +kernel) rfl
theorem mw_331 : Cond.selects RX3 yX3_takeBack yX3_takeBack ∈ gT := gT_t (i := 321) (by decide +kernel) rfl
theorem cX8_93 : gCV RX8 93 0 mX3_takeBack := ⟨mw_329, mw_330, mw_331, mw_262, mw_40, ⟨by decide +kernel, by decide +kernel, by decide +kernel⟩, by decide⟩
theorem mw_332 : Cond.methodLink RL 28 yX8_depth ∈ gT := gT_t (i := 323) (by decide +kernel) rfl
theorem mw_333 : Cond.instanceMethod yX8_depth ∈ gT := gT_t (i := 324) (by decide +kernel) rfl
theorem mw_334 : Cond.selects RX8 yX8_depth yX8_depth ∈ gT := gT_t (i := 325) (by decide +kernel) rfl
theorem cL_28 : gCV RL 28 1 mX8_depth := ⟨mw_332, mw_333, mw_334, mw_251, mw_75, ⟨by decide +kernel, by decide +kernel, by decide +kernel⟩, by decide⟩
theorem mw_335 : Cond.methodLink RX8 97 yX2_tellDepth ∈ gT := gT_t (i := 327) (by decide +kernel) rfl
theorem mw_336 : Cond.instanceMethod yX2_tellDepth ∈ gT := gT_t (i := 328) (by decide +kernel) rfl
theorem mw_337 : Cond.selects RX2 yX2_tellDepth yX2_tellDepth ∈ gT := gT_t (i := 329) (by decide +kernel) rfl
theorem cX8_97 : gCV RX8 97 1 mX2_tellDepth := ⟨mw_335, mw_336, mw_337, mw_268, mw_19, ⟨by decide +kernel, by decide +kernel, by decide +kernel⟩, by decide⟩
theorem mw_338 : Cond.methodLink RL 33 yX8_weight ∈ gT := gT_t (i := 331) (by decide +kernel) rfl
theorem mw_339 : Cond.instanceMethod yX8_weight ∈ gT := gT_t (i := 332) (by decide +kernel) rfl
theorem mw_340 : Cond.selects RX8 yX8_weight yX8_weight ∈ gT := gT_t (i := 333) (by decide +kernel) rfl
theorem cL_33 : gCV RL 33 2 mX8_weight := ⟨mw_338, mw_339, mw_340, mw_251, mw_76, ⟨by decide +kernel, by decide +kernel, by decide +kernel⟩, by decide⟩
theorem mw_341 : Cond.methodLink RX8 100 yX2_tellWeight ∈ gT := gT_t (i := 335) (by decide +kernel) rfl
theorem mw_342 : Cond.instanceMethod yX2_tellWeight ∈ gT := gT_t (i := 336) (by decide +kernel) rfl
theorem mw_343 : Cond.selects RX2 yX2_tellWeight yX2_tellWeight ∈ gT := gT_t (i := 337) (by decide +kernel) rfl
theorem cX8_100 : gCV RX8 100 2 mX2_tellWeight := ⟨mw_341, mw_342, mw_343, mw_268, mw_20, ⟨by decide +kernel, by decide +kernel, by decide +kernel⟩, by decide⟩
theorem mw_344 : Cond.methodLink RL 38 yX8_value ∈ gT := gT_t (i := 339) (by decide +kernel) rfl
theorem mw_345 : Cond.instanceMethod yX8_value ∈ gT := gT_t (i := 340) (by decide +kernel) rfl
theorem mw_346 : Cond.selects RX8 yX8_value yX8_value ∈ gT := gT_t (i := 341) (by decide +kernel) rfl
theorem cL_38 : gCV RL 38 2 mX8_value := ⟨mw_344, mw_345, mw_346, mw_251, mw_77, ⟨by decide +kernel, by decide +kernel, by decide +kernel⟩, by decide⟩
theorem mw_347 : Cond.methodLink RX8 104 yX8_isPosition ∈ gT := gT_t (i := 343) (by decide +kernel) rfl
theorem mw_348 : Cond.instanceMethod yX8_isPosition ∈ gT := gT_t (i := 345) (by decide +kernel) rfl
theorem mw_349 : Cond.selects RX8 yX8_isPosition yX8_isPosition ∈ gT := gT_p (i := 1) (by decide +kernel) rfl
theorem cX8_104 : gCV RX8 104 1 mX8_isPosition := ⟨mw_347, mw_348, mw_349, mw_251, mw_94, ⟨by decide +kernel, by decide +kernel, by decide +kernel⟩, by decide⟩
theorem mw_350 : Cond.methodLink RX8 107 yX2_valueBehind ∈ gT := gT_t (i := 347) (by decide +kernel) rfl
theorem mw_351 : Cond.instanceMethod yX2_valueBehind ∈ gT := gT_t (i := 348) (by decide +kernel) rfl
theorem mw_352 : Cond.selects RX2 yX2_valueBehind yX2_valueBehind ∈ gT := gT_t (i := 349) (by decide +kernel) rfl
theorem cX8_107 : gCV RX8 107 2 mX2_valueBehind := ⟨mw_350, mw_351, mw_352, mw_268, mw_24, ⟨by decide +kernel, by decide +kernel, by decide +kernel⟩, by decide⟩
theorem mw_353 : Cond.methodLink RX2 56 yX3_hasEndedBehind ∈ gT := gT_t (i := 351) (by decide +kernel) rfl
theorem mw_354 : Cond.instanceMethod yX3_hasEndedBehind ∈ gT := gT_t (i := 352) (by decide +kernel) rfl
theorem mw_355 : Cond.selects RX3 yX3_hasEndedBehind yX3_hasEndedBehind ∈ gT := gT_t (i := 353) (by decide +kernel) rfl
theorem cX2_56 : gCV RX2 56 1 mX3_hasEndedBehind := ⟨mw_353, mw_354, mw_355, mw_262, mw_43, ⟨by decide +kernel, by decide +kernel, by decide +kernel⟩, by decide⟩
theorem mw_356 : Cond.methodLink RX2 62 yX3_endValue ∈ gT := gT_t (i := 355) (by decide +kernel) rfl
theorem mw_357 : Cond.instanceMethod yX3_endValue ∈ gT := gT_t (i := 356) (by decide +kernel) rfl
theorem mw_358 : Cond.selects RX3 yX3_endValue yX3_endValue ∈ gT := gT_t (i := 357) (by decide +kernel) rfl
theorem cX2_62 : gCV RX2 62 0 mX3_endValue := ⟨mw_356, mw_357, mw_358, mw_262, mw_44, ⟨by decide +kernel, by decide +kernel, by decide +kernel⟩, by decide⟩
theorem mw_359 : Cond.methodLink RX2 66 yX3_stonesOf ∈ gT := gT_t (i := 359) (by decide +kernel) rfl
theorem cX2_66 : gCV RX2 66 2 mX3_stonesOf := ⟨mw_359, mw_312, mw_313, mw_262, mw_42, ⟨by decide +kernel, by decide +kernel, by decide +kernel⟩, by decide⟩
theorem mw_360 : Cond.methodLink RX2 69 yX5_valueFor ∈ gT := gT_t (i := 360) (by decide +kernel) rfl
theorem mw_361 : Cond.instanceMethod yX5_valueFor ∈ gT := gT_t (i := 361) (by decide +kernel) rfl
theorem mw_362 : Cond.selects RX5 yX5_valueFor yX5_valueFor ∈ gT := gT_t (i := 362) (by decide +kernel) rfl
theorem cX2_69 : gCV RX2 69 3 mX5_valueFor := ⟨mw_360, mw_361, mw_362, mw_265, mw_53, ⟨by decide +kernel, by decide +kernel, by decide +kernel⟩, by decide⟩
theorem mw_363 : Cond.methodLink RX5 23 yX5_reaches ∈ gT := gT_t (i := 364) (by decide +kernel) rfl
theorem mw_364 : Cond.instanceMethod yX5_reaches ∈ gT := gT_t (i := 366) (by decide +kernel) rfl
theorem mw_365 : Cond.selects RX5 yX5_reaches yX5_reaches ∈ gT := gT_p (i := 2) (by decide +kernel) rfl
theorem cX5_23 : gCV RX5 23 4 mX5_reaches := ⟨mw_363, mw_364, mw_365, mw_265, mw_54, ⟨by decide +kernel, by decide +kernel, by decide +kernel⟩, by decide⟩
theorem mw_366 : Cond.methodLink RX5 27 yX0_openCells ∈ gT := gT_t (i := 368) (by decide +kernel) rfl
theorem cX5_27 : gCV RX5 27 1 mX0_openCells := ⟨mw_366, mw_318, mw_319, mw_254, mw_8, ⟨by decide +kernel, by decide +kernel, by decide +kernel⟩, by decide⟩
theorem mw_367 : Cond.methodLink RX5 13 yX0_completing ∈ gT := gT_t (i := 369) (by decide +kernel) rfl
theorem cX5_13 : gCV RX5 13 1 mX0_completing := ⟨mw_367, mw_321, mw_322, mw_254, mw_9, ⟨by decide +kernel, by decide +kernel, by decide +kernel⟩, by decide⟩
theorem mw_368 : Cond.methodLink RL 43 yX8_best ∈ gT := gT_t (i := 370) (by decide +kernel) rfl
theorem mw_369 : Cond.instanceMethod yX8_best ∈ gT := gT_t (i := 371) (by decide +kernel) rfl
theorem mw_370 : Cond.selects RX8 yX8_best yX8_best ∈ gT := gT_t (i := 372) (by decide +kernel) rfl
theorem cL_43 : gCV RL 43 2 mX8_best := ⟨mw_368, mw_369, mw_370, mw_251, mw_78, ⟨by decide +kernel, by decide +kernel, by decide +kernel⟩, by decide⟩
theorem mw_371 : Cond.methodLink RX8 111 yX3_hasEndedBehind ∈ gT := gT_t (i := 374) (by decide +kernel) rfl
theorem cX8_111 : gCV RX8 111 1 mX3_hasEndedBehind := ⟨mw_371, mw_354, mw_355, mw_262, mw_43, ⟨by decide +kernel, by decide +kernel, by decide +kernel⟩, by decide⟩
theorem mw_372 : Cond.methodLink RX8 114 yX3_stonesOf ∈ gT := gT_t (i := 375) (by decide +kernel) rfl
theorem cX8_114 : gCV RX8 114 2 mX3_stonesOf := ⟨mw_372, mw_312, mw_313, mw_262, mw_42, ⟨by decide +kernel, by decide +kernel, by decide +kernel⟩, by decide⟩
theorem mw_373 : Cond.methodLink RX8 117 yX0_openCells ∈ gT := gT_t (i := 376) (by decide +kernel) rfl
theorem cX8_117 : gCV RX8 117 1 mX0_openCells := ⟨mw_373, mw_318, mw_319, mw_254, mw_8, ⟨by decide +kernel, by decide +kernel, by decide +kernel⟩, by decide⟩
theorem mw_374 : Cond.methodLink RX8 120 yX5_lowestReaching ∈ gT := gT_t (i := 377) (by decide +kernel) rfl
theorem mw_375 : Cond.instanceMethod yX5_lowestReaching ∈ gT := gT_t (i := 378) (by decide +kernel) rfl
theorem mw_376 : Cond.selects RX5 yX5_lowestReaching yX5_lowestReaching ∈ gT := gT_t (i := 379) (by decide +kernel) rfl
theorem cX8_120 : gCV RX8 120 5 mX5_lowestReaching := ⟨mw_374, mw_375, mw_376, mw_265, mw_52, ⟨by decide +kernel, by decide +kernel, by decide +kernel⟩, by decide⟩
theorem mw_377 : Cond.methodLink RX8 124 yX0_cellOf ∈ gT := gT_t (i := 381) (by decide +kernel) rfl
theorem mw_378 : Cond.instanceMethod yX0_cellOf ∈ gT := gT_t (i := 382) (by decide +kernel) rfl
theorem mw_379 : Cond.selects RX0 yX0_cellOf yX0_cellOf ∈ gT := gT_t (i := 383) (by decide +kernel) rfl
theorem cX8_124 : gCV RX8 124 1 mX0_cellOf := ⟨mw_377, mw_378, mw_379, mw_254, mw_5, ⟨by decide +kernel, by decide +kernel, by decide +kernel⟩, by decide⟩
theorem mw_380 : Cond.methodLink RX0 51 yX0_rowOf ∈ gT := gT_t (i := 385) (by decide +kernel) rfl
theorem mw_381 : Cond.instanceMethod yX0_rowOf ∈ gT := gT_t (i := 386) (by decide +kernel) rfl
theorem mw_382 : Cond.selects RX0 yX0_rowOf yX0_rowOf ∈ gT := gT_t (i := 387) (by decide +kernel) rfl
theorem cX0_51 : gCV RX0 51 1 mX0_rowOf := ⟨mw_380, mw_381, mw_382, mw_254, mw_7, ⟨by decide +kernel, by decide +kernel, by decide +kernel⟩, by decide⟩
theorem mw_383 : Cond.methodLink RX0 58 yJ6_bitCount_0f7a4 ∈ gT := gT_t (i := 389) (by decide +kernel) rfl
theorem mw_384 : Cond.initialized RJ6 ∈ gT := gT_t (i := 13) (by decide +kernel) rfl
theorem mw_385 : Cond.static yJ6_bitCount_0f7a4 ∈ gT := gT_t (i := 390) (by decide +kernel) rfl
theorem cX0_58 : gCS RX0 58 1 mJ6_bitCount_0f7a4 := ⟨mw_383, mw_385, mw_384, mw_150, ⟨by decide +kernel, by decide +kernel, by decide +kernel⟩, by decide⟩
theorem mw_386 : Cond.methodLink RX0 55 yX0_columnOf ∈ gT := gT_t (i := 395) (by decide +kernel) rfl
theorem mw_387 : Cond.instanceMethod yX0_columnOf ∈ gT := gT_t (i := 396) (by decide +kernel) rfl
theorem mw_388 : Cond.selects RX0 yX0_columnOf yX0_columnOf ∈ gT := gT_t (i := 397) (by decide +kernel) rfl
theorem cX0_55 : gCV RX0 55 1 mX0_columnOf := ⟨mw_386, mw_387, mw_388, mw_254, mw_6, ⟨by decide +kernel, by decide +kernel, by decide +kernel⟩, by decide⟩
theorem mw_389 : Cond.methodLink RL 47 yX8_found ∈ gT := gT_t (i := 399) (by decide +kernel) rfl
theorem mw_390 : Cond.instanceMethod yX8_found ∈ gT := gT_t (i := 400) (by decide +kernel) rfl
theorem mw_391 : Cond.selects RX8 yX8_found yX8_found ∈ gT := gT_t (i := 401) (by decide +kernel) rfl
theorem cL_47 : gCV RL 47 2 mX8_found := ⟨mw_389, mw_390, mw_391, mw_251, mw_79, ⟨by decide +kernel, by decide +kernel, by decide +kernel⟩, by decide⟩
theorem mw_392 : Cond.methodLink RX8 127 yX8_isMove ∈ gT := gT_t (i := 403) (by decide +kernel) rfl
theorem mw_393 : Cond.instanceMethod yX8_isMove ∈ gT := gT_t (i := 405) (by decide +kernel) rfl
theorem mw_394 : Cond.selects RX8 yX8_isMove yX8_isMove ∈ gT := gT_p (i := 3) (by decide +kernel) rfl
theorem cX8_127 : gCV RX8 127 1 mX8_isMove := ⟨mw_392, mw_393, mw_394, mw_251, mw_93, ⟨by decide +kernel, by decide +kernel, by decide +kernel⟩, by decide⟩
theorem mw_395 : Cond.methodLink RX8 130 yX2_examine ∈ gT := gT_t (i := 407) (by decide +kernel) rfl
theorem mw_396 : Cond.instanceMethod yX2_examine ∈ gT := gT_t (i := 408) (by decide +kernel) rfl
theorem mw_397 : Cond.selects RX2 yX2_examine yX2_examine ∈ gT := gT_t (i := 409) (by decide +kernel) rfl
theorem cX8_130 : gCV RX8 130 0 mX2_examine := ⟨mw_395, mw_396, mw_397, mw_268, mw_26, ⟨by decide +kernel, by decide +kernel, by decide +kernel⟩, by decide⟩
theorem mw_398 : Cond.methodLink RX2 79 yX2_winOf ∈ gT := gT_t (i := 411) (by decide +kernel) rfl
theorem mw_399 : Cond.instanceMethod yX2_winOf ∈ gT := gT_t (i := 413) (by decide +kernel) rfl
theorem mw_400 : Cond.selects RX2 yX2_winOf yX2_winOf ∈ gT := gT_p (i := 4) (by decide +kernel) rfl
theorem cX2_79 : gCV RX2 79 1 mX2_winOf := ⟨mw_398, mw_399, mw_400, mw_268, mw_30, ⟨by decide +kernel, by decide +kernel, by decide +kernel⟩, by decide⟩
theorem mw_401 : Cond.methodLink RX2 110 yX2_makerOf ∈ gT := gT_t (i := 415) (by decide +kernel) rfl
theorem mw_402 : Cond.static yX2_makerOf ∈ gT := gT_t (i := 416) (by decide +kernel) rfl
theorem cX2_110 : gCS RX2 110 1 mX2_makerOf := ⟨mw_401, mw_402, mw_268, mw_36, ⟨by decide +kernel, by decide +kernel, by decide +kernel⟩, by decide⟩
theorem mw_403 : Cond.methodLink RX2 83 yX2_keep ∈ gT := gT_t (i := 418) (by decide +kernel) rfl
theorem mw_404 : Cond.instanceMethod yX2_keep ∈ gT := gT_t (i := 420) (by decide +kernel) rfl
theorem mw_405 : Cond.selects RX2 yX2_keep yX2_keep ∈ gT := gT_p (i := 5) (by decide +kernel) rfl
theorem cX2_83 : gCV RX2 83 3 mX2_keep := ⟨mw_403, mw_404, mw_405, mw_268, mw_27, ⟨by decide +kernel, by decide +kernel, by decide +kernel⟩, by decide⟩
theorem mw_406 : Cond.methodLink RX2 87 yX2_threatOf ∈ gT := gT_t (i := 422) (by decide +kernel) rfl
theorem mw_407 : Cond.instanceMethod yX2_threatOf ∈ gT := gT_t (i := 424) (by decide +kernel) rfl
theorem mw_408 : Cond.selects RX2 yX2_threatOf yX2_threatOf ∈ gT := gT_p (i := 6) (by decide +kernel) rfl
theorem cX2_87 : gCV RX2 87 1 mX2_threatOf := ⟨mw_406, mw_407, mw_408, mw_268, mw_31, ⟨by decide +kernel, by decide +kernel, by decide +kernel⟩, by decide⟩
theorem mw_409 : Cond.methodLink RX2 113 yX2_winningFor ∈ gT := gT_t (i := 426) (by decide +kernel) rfl
theorem mw_410 : Cond.instanceMethod yX2_winningFor ∈ gT := gT_t (i := 428) (by decide +kernel) rfl
theorem mw_411 : Cond.selects RX2 yX2_winningFor yX2_winningFor ∈ gT := gT_p (i := 7) (by decide +kernel) rfl
theorem cX2_113 : gCV RX2 113 2 mX2_winningFor := ⟨mw_409, mw_410, mw_411, mw_268, mw_34, ⟨by decide +kernel, by decide +kernel, by decide +kernel⟩, by decide⟩
theorem mw_412 : Cond.methodLink RX2 116 yX0_openCells ∈ gT := gT_t (i := 430) (by decide +kernel) rfl
theorem cX2_116 : gCV RX2 116 1 mX0_openCells := ⟨mw_412, mw_318, mw_319, mw_254, mw_8, ⟨by decide +kernel, by decide +kernel, by decide +kernel⟩, by decide⟩
theorem mw_413 : Cond.methodLink RX2 130 yX0_completing ∈ gT := gT_t (i := 431) (by decide +kernel) rfl
theorem cX2_130 : gCV RX2 130 1 mX0_completing := ⟨mw_413, mw_321, mw_322, mw_254, mw_9, ⟨by decide +kernel, by decide +kernel, by decide +kernel⟩, by decide⟩
theorem mw_414 : Cond.methodLink RX2 96 yJ6_bitCount_0f7a4 ∈ gT := gT_t (i := 432) (by decide +kernel) rfl
theorem cX2_96 : gCS RX2 96 1 mJ6_bitCount_0f7a4 := ⟨mw_414, mw_385, mw_384, mw_150, ⟨by decide +kernel, by decide +kernel, by decide +kernel⟩, by decide⟩
theorem mw_415 : Cond.methodLink RX2 90 yX2_forcedOf ∈ gT := gT_t (i := 433) (by decide +kernel) rfl
theorem mw_416 : Cond.instanceMethod yX2_forcedOf ∈ gT := gT_t (i := 435) (by decide +kernel) rfl
theorem mw_417 : Cond.selects RX2 yX2_forcedOf yX2_forcedOf ∈ gT := gT_p (i := 8) (by decide +kernel) rfl
theorem cX2_90 : gCV RX2 90 1 mX2_forcedOf := ⟨mw_415, mw_416, mw_417, mw_268, mw_32, ⟨by decide +kernel, by decide +kernel, by decide +kernel⟩, by decide⟩
theorem mw_418 : Cond.methodLink RX2 119 yX3_bitOfMove ∈ gT := gT_t (i := 437) (by decide +kernel) rfl
theorem cX2_119 : gCV RX2 119 1 mX3_bitOfMove := ⟨mw_418, mw_315, mw_316, mw_262, mw_41, ⟨by decide +kernel, by decide +kernel, by decide +kernel⟩, by decide⟩
theorem mw_419 : Cond.methodLink RX2 73 yX2_valueBehind ∈ gT := gT_t (i := 438) (by decide +kernel) rfl
theorem cX2_73 : gCV RX2 73 2 mX2_valueBehind := ⟨mw_419, mw_351, mw_352, mw_268, mw_24, ⟨by decide +kernel, by decide +kernel, by decide +kernel⟩, by decide⟩
theorem mw_420 : Cond.methodLink RX2 122 yX5_lowestReaching ∈ gT := gT_t (i := 439) (by decide +kernel) rfl
theorem cX2_122 : gCV RX2 122 5 mX5_lowestReaching := ⟨mw_420, mw_375, mw_376, mw_265, mw_52, ⟨by decide +kernel, by decide +kernel, by decide +kernel⟩, by decide⟩
theorem mw_421 : Cond.methodLink RX2 93 yX2_missedBy ∈ gT := gT_t (i := 440) (by decide +kernel) rfl
theorem mw_422 : Cond.instanceMethod yX2_missedBy ∈ gT := gT_t (i := 441) (by decide +kernel) rfl
theorem mw_423 : Cond.selects RX2 yX2_missedBy yX2_missedBy ∈ gT := gT_t (i := 442) (by decide +kernel) rfl
theorem cX2_93 : gCV RX2 93 1 mX2_missedBy := ⟨mw_421, mw_422, mw_423, mw_268, mw_33, ⟨by decide +kernel, by decide +kernel, by decide +kernel⟩, by decide⟩
theorem mw_424 : Cond.methodLink RX2 101 yX2_turningMove ∈ gT := gT_t (i := 444) (by decide +kernel) rfl
theorem mw_425 : Cond.instanceMethod yX2_turningMove ∈ gT := gT_t (i := 446) (by decide +kernel) rfl
theorem mw_426 : Cond.selects RX2 yX2_turningMove yX2_turningMove ∈ gT := gT_p (i := 9) (by decide +kernel) rfl
theorem cX2_101 : gCV RX2 101 0 mX2_turningMove := ⟨mw_424, mw_425, mw_426, mw_268, mw_35, ⟨by decide +kernel, by decide +kernel, by decide +kernel⟩, by decide⟩
theorem mw_427 : Cond.methodLink RX2 133 yX2_leaderBehind ∈ gT := gT_t (i := 448) (by decide +kernel) rfl
theorem mw_428 : Cond.instanceMethod yX2_leaderBehind ∈ gT := gT_t (i := 449) (by decide +kernel) rfl
theorem mw_429 : Cond.selects RX2 yX2_leaderBehind yX2_leaderBehind ∈ gT := gT_t (i := 450) (by decide +kernel) rfl
theorem cX2_133 : gCV RX2 133 1 mX2_leaderBehind := ⟨mw_427, mw_428, mw_429, mw_268, mw_25, ⟨by decide +kernel, by decide +kernel, by decide +kernel⟩, by decide⟩
theorem mw_430 : Cond.methodLink RX8 133 yX2_amountOf ∈ gT := gT_t (i := 452) (by decide +kernel) rfl
theorem mw_431 : Cond.instanceMethod yX2_amountOf ∈ gT := gT_t (i := 453) (by decide +kernel) rfl
theorem mw_432 : Cond.selects RX2 yX2_amountOf yX2_amountOf ∈ gT := gT_t (i := 454) (by decide +kernel) rfl
theorem cX8_133 : gCV RX8 133 2 mX2_amountOf := ⟨mw_430, mw_431, mw_432, mw_268, mw_28, ⟨by decide +kernel, by decide +kernel, by decide +kernel⟩, by decide⟩
theorem mw_433 : Cond.methodLink RL 51 yX8_leader ∈ gT := gT_t (i := 456) (by decide +kernel) rfl
theorem mw_434 : Cond.instanceMethod yX8_leader ∈ gT := gT_t (i := 457) (by decide +kernel) rfl
theorem mw_435 : Cond.selects RX8 yX8_leader yX8_leader ∈ gT := gT_t (i := 458) (by decide +kernel) rfl
theorem cL_51 : gCV RL 51 1 mX8_leader := ⟨mw_433, mw_434, mw_435, mw_251, mw_80, ⟨by decide +kernel, by decide +kernel, by decide +kernel⟩, by decide⟩
theorem mw_436 : Cond.methodLink RX8 136 yX2_leaderBehind ∈ gT := gT_t (i := 460) (by decide +kernel) rfl
theorem cX8_136 : gCV RX8 136 1 mX2_leaderBehind := ⟨mw_436, mw_428, mw_429, mw_268, mw_25, ⟨by decide +kernel, by decide +kernel, by decide +kernel⟩, by decide⟩
theorem mw_437 : Cond.methodLink RL 55 yX8_plan ∈ gT := gT_t (i := 461) (by decide +kernel) rfl
theorem mw_438 : Cond.instanceMethod yX8_plan ∈ gT := gT_t (i := 462) (by decide +kernel) rfl
theorem mw_439 : Cond.selects RX8 yX8_plan yX8_plan ∈ gT := gT_t (i := 463) (by decide +kernel) rfl
theorem cL_55 : gCV RL 55 1 mX8_plan := ⟨mw_437, mw_438, mw_439, mw_251, mw_81, ⟨by decide +kernel, by decide +kernel, by decide +kernel⟩, by decide⟩
theorem mw_440 : Cond.methodLink RX8 139 yX0_fewestToRow ∈ gT := gT_t (i := 465) (by decide +kernel) rfl
theorem mw_441 : Cond.instanceMethod yX0_fewestToRow ∈ gT := gT_t (i := 466) (by decide +kernel) rfl
theorem mw_442 : Cond.selects RX0 yX0_fewestToRow yX0_fewestToRow ∈ gT := gT_t (i := 467) (by decide +kernel) rfl
theorem cX8_139 : gCV RX8 139 2 mX0_fewestToRow := ⟨mw_440, mw_441, mw_442, mw_254, mw_10, ⟨by decide +kernel, by decide +kernel, by decide +kernel⟩, by decide⟩
theorem mw_443 : Cond.methodLink RX0 67 yX0_lineAlong ∈ gT := gT_t (i := 469) (by decide +kernel) rfl
theorem mw_444 : Cond.instanceMethod yX0_lineAlong ∈ gT := gT_t (i := 471) (by decide +kernel) rfl
theorem mw_445 : Cond.selects RX0 yX0_lineAlong yX0_lineAlong ∈ gT := gT_p (i := 10) (by decide +kernel) rfl
theorem cX0_67 : gCV RX0 67 1 mX0_lineAlong := ⟨mw_443, mw_444, mw_445, mw_254, mw_11, ⟨by decide +kernel, by decide +kernel, by decide +kernel⟩, by decide⟩
theorem mw_446 : Cond.methodLink RX0 70 yX0_withSupports ∈ gT := gT_t (i := 473) (by decide +kernel) rfl
theorem mw_447 : Cond.instanceMethod yX0_withSupports ∈ gT := gT_t (i := 475) (by decide +kernel) rfl
theorem mw_448 : Cond.selects RX0 yX0_withSupports yX0_withSupports ∈ gT := gT_p (i := 11) (by decide +kernel) rfl
theorem cX0_70 : gCV RX0 70 2 mX0_withSupports := ⟨mw_446, mw_447, mw_448, mw_254, mw_12, ⟨by decide +kernel, by decide +kernel, by decide +kernel⟩, by decide⟩
theorem mw_449 : Cond.methodLink RL 59 yX8_words ∈ gT := gT_t (i := 478) (by decide +kernel) rfl
theorem mw_450 : Cond.instanceMethod yX8_words ∈ gT := gT_t (i := 479) (by decide +kernel) rfl
theorem mw_451 : Cond.selects RX8 yX8_words yX8_words ∈ gT := gT_t (i := 480) (by decide +kernel) rfl
theorem cL_59 : gCV RL 59 2 mX8_words := ⟨mw_449, mw_450, mw_451, mw_251, mw_82, ⟨by decide +kernel, by decide +kernel, by decide +kernel⟩, by decide⟩
theorem mw_452 : Cond.methodLink RX8 142 yX4_isLevel ∈ gT := gT_t (i := 482) (by decide +kernel) rfl
theorem mw_453 : Cond.static yX4_isLevel ∈ gT := gT_t (i := 483) (by decide +kernel) rfl
theorem cX8_142 : gCS RX8 142 1 mX4_isLevel := ⟨mw_452, mw_453, mw_274, mw_46, ⟨by decide +kernel, by decide +kernel, by decide +kernel⟩, by decide⟩
theorem mw_454 : Cond.methodLink RX8 145 yX7_clear ∈ gT := gT_t (i := 485) (by decide +kernel) rfl
theorem mw_455 : Cond.instanceMethod yX7_clear ∈ gT := gT_t (i := 486) (by decide +kernel) rfl
theorem mw_456 : Cond.selects RX7 yX7_clear yX7_clear ∈ gT := gT_t (i := 487) (by decide +kernel) rfl
theorem cX8_145 : gCV RX8 145 0 mX7_clear := ⟨mw_454, mw_455, mw_456, mw_277, mw_67, ⟨by decide +kernel, by decide +kernel, by decide +kernel⟩, by decide⟩
theorem mw_457 : Cond.methodLink RX8 146 yX4_writeWords ∈ gT := gT_t (i := 489) (by decide +kernel) rfl
theorem mw_458 : Cond.instanceMethod yX4_writeWords ∈ gT := gT_t (i := 490) (by decide +kernel) rfl
theorem mw_459 : Cond.selects RX4 yX4_writeWords yX4_writeWords ∈ gT := gT_t (i := 491) (by decide +kernel) rfl
theorem cX8_146 : gCV RX8 146 3 mX4_writeWords := ⟨mw_457, mw_458, mw_459, mw_274, mw_47, ⟨by decide +kernel, by decide +kernel, by decide +kernel⟩, by decide⟩
theorem mw_460 : Cond.methodLink RX4 28 yX7_addNumber ∈ gT := gT_t (i := 493) (by decide +kernel) rfl
theorem mw_461 : Cond.instanceMethod yX7_addNumber ∈ gT := gT_t (i := 494) (by decide +kernel) rfl
theorem mw_462 : Cond.selects RX7 yX7_addNumber yX7_addNumber ∈ gT := gT_t (i := 495) (by decide +kernel) rfl
theorem cX4_28 : gCV RX4 28 1 mX7_addNumber := ⟨mw_460, mw_461, mw_462, mw_277, mw_69, ⟨by decide +kernel, by decide +kernel, by decide +kernel⟩, by decide⟩
theorem mw_463 : Cond.methodLink RX7 19 yX7_addByte ∈ gT := gT_t (i := 497) (by decide +kernel) rfl
theorem mw_464 : Cond.instanceMethod yX7_addByte ∈ gT := gT_t (i := 498) (by decide +kernel) rfl
theorem mw_465 : Cond.selects RX7 yX7_addByte yX7_addByte ∈ gT := gT_t (i := 499) (by decide +kernel) rfl
theorem cX7_19 : gCV RX7 19 1 mX7_addByte := ⟨mw_463, mw_464, mw_465, mw_277, mw_68, ⟨by decide +kernel, by decide +kernel, by decide +kernel⟩, by decide⟩
theorem mw_466 : Cond.methodLink RX4 32 yX7_addByte ∈ gT := gT_t (i := 501) (by decide +kernel) rfl
theorem cX4_32 : gCV RX4 32 1 mX7_addByte := ⟨mw_466, mw_464, mw_465, mw_277, mw_68, ⟨by decide +kernel, by decide +kernel, by decide +kernel⟩, by decide⟩
theorem mw_467 : Cond.methodLink RX4 35 yX3_bitOfMove ∈ gT := gT_t (i := 502) (by decide +kernel) rfl
theorem cX4_35 : gCV RX4 35 1 mX3_bitOfMove := ⟨mw_467, mw_315, mw_316, mw_262, mw_41, ⟨by decide +kernel, by decide +kernel, by decide +kernel⟩, by decide⟩
theorem mw_468 : Cond.methodLink RX4 41 yX4_writeCell ∈ gT := gT_t (i := 503) (by decide +kernel) rfl
theorem mw_469 : Cond.instanceMethod yX4_writeCell ∈ gT := gT_t (i := 505) (by decide +kernel) rfl
theorem mw_470 : Cond.selects RX4 yX4_writeCell yX4_writeCell ∈ gT := gT_p (i := 12) (by decide +kernel) rfl
theorem cX4_41 : gCV RX4 41 2 mX4_writeCell := ⟨mw_468, mw_469, mw_470, mw_274, mw_48, ⟨by decide +kernel, by decide +kernel, by decide +kernel⟩, by decide⟩
theorem mw_471 : Cond.methodLink RX4 58 yX0_columnOf ∈ gT := gT_t (i := 507) (by decide +kernel) rfl
theorem cX4_58 : gCV RX4 58 1 mX0_columnOf := ⟨mw_471, mw_387, mw_388, mw_254, mw_6, ⟨by decide +kernel, by decide +kernel, by decide +kernel⟩, by decide⟩
theorem mw_472 : Cond.methodLink RX4 63 yX0_rowOf ∈ gT := gT_t (i := 508) (by decide +kernel) rfl
theorem cX4_63 : gCV RX4 63 1 mX0_rowOf := ⟨mw_472, mw_381, mw_382, mw_254, mw_7, ⟨by decide +kernel, by decide +kernel, by decide +kernel⟩, by decide⟩
theorem mw_473 : Cond.methodLink RX4 47 yX2_amountOf ∈ gT := gT_t (i := 509) (by decide +kernel) rfl
theorem cX4_47 : gCV RX4 47 2 mX2_amountOf := ⟨mw_473, mw_431, mw_432, mw_268, mw_28, ⟨by decide +kernel, by decide +kernel, by decide +kernel⟩, by decide⟩
theorem mw_474 : Cond.methodLink RX4 51 yX4_writeSigns ∈ gT := gT_t (i := 510) (by decide +kernel) rfl
theorem mw_475 : Cond.instanceMethod yX4_writeSigns ∈ gT := gT_t (i := 512) (by decide +kernel) rfl
theorem mw_476 : Cond.selects RX4 yX4_writeSigns yX4_writeSigns ∈ gT := gT_p (i := 13) (by decide +kernel) rfl
theorem cX4_51 : gCV RX4 51 3 mX4_writeSigns := ⟨mw_474, mw_475, mw_476, mw_274, mw_49, ⟨by decide +kernel, by decide +kernel, by decide +kernel⟩, by decide⟩
theorem mw_477 : Cond.methodLink RX4 55 yX2_missedBy ∈ gT := gT_t (i := 514) (by decide +kernel) rfl
theorem cX4_55 : gCV RX4 55 1 mX2_missedBy := ⟨mw_477, mw_422, mw_423, mw_268, mw_33, ⟨by decide +kernel, by decide +kernel, by decide +kernel⟩, by decide⟩
theorem mw_478 : Cond.methodLink RL 63 yX8_tale ∈ gT := gT_t (i := 515) (by decide +kernel) rfl
theorem mw_479 : Cond.instanceMethod yX8_tale ∈ gT := gT_t (i := 516) (by decide +kernel) rfl
theorem mw_480 : Cond.selects RX8 yX8_tale yX8_tale ∈ gT := gT_t (i := 517) (by decide +kernel) rfl
theorem cL_63 : gCV RL 63 1 mX8_tale := ⟨mw_478, mw_479, mw_480, mw_251, mw_83, ⟨by decide +kernel, by decide +kernel, by decide +kernel⟩, by decide⟩
theorem mw_481 : Cond.methodLink RX8 153 yX7_addByte ∈ gT := gT_t (i := 519) (by decide +kernel) rfl
theorem cX8_153 : gCV RX8 153 1 mX7_addByte := ⟨mw_481, mw_464, mw_465, mw_277, mw_68, ⟨by decide +kernel, by decide +kernel, by decide +kernel⟩, by decide⟩
theorem mw_482 : Cond.methodLink RL 67 yX8_octet ∈ gT := gT_t (i := 520) (by decide +kernel) rfl
theorem mw_483 : Cond.instanceMethod yX8_octet ∈ gT := gT_t (i := 521) (by decide +kernel) rfl
theorem mw_484 : Cond.selects RX8 yX8_octet yX8_octet ∈ gT := gT_t (i := 522) (by decide +kernel) rfl
theorem cL_67 : gCV RL 67 1 mX8_octet := ⟨mw_482, mw_483, mw_484, mw_251, mw_84, ⟨by decide +kernel, by decide +kernel, by decide +kernel⟩, by decide⟩
theorem mw_485 : Cond.methodLink RX8 157 yX7_byteAt ∈ gT := gT_t (i := 524) (by decide +kernel) rfl
theorem mw_486 : Cond.instanceMethod yX7_byteAt ∈ gT := gT_t (i := 525) (by decide +kernel) rfl
theorem mw_487 : Cond.selects RX7 yX7_byteAt yX7_byteAt ∈ gT := gT_t (i := 526) (by decide +kernel) rfl
theorem cX8_157 : gCV RX8 157 1 mX7_byteAt := ⟨mw_485, mw_486, mw_487, mw_277, mw_70, ⟨by decide +kernel, by decide +kernel, by decide +kernel⟩, by decide⟩
theorem mw_488 : Cond.methodLink RL 71 yX8_chosen ∈ gT := gT_t (i := 528) (by decide +kernel) rfl
theorem mw_489 : Cond.instanceMethod yX8_chosen ∈ gT := gT_t (i := 529) (by decide +kernel) rfl
theorem mw_490 : Cond.selects RX8 yX8_chosen yX8_chosen ∈ gT := gT_t (i := 530) (by decide +kernel) rfl
theorem cL_71 : gCV RL 71 1 mX8_chosen := ⟨mw_488, mw_489, mw_490, mw_251, mw_85, ⟨by decide +kernel, by decide +kernel, by decide +kernel⟩, by decide⟩
theorem mw_491 : Cond.methodLink RX8 160 yX1_clear ∈ gT := gT_t (i := 532) (by decide +kernel) rfl
theorem mw_492 : Cond.instanceMethod yX1_clear ∈ gT := gT_t (i := 533) (by decide +kernel) rfl
theorem mw_493 : Cond.selects RX1 yX1_clear yX1_clear ∈ gT := gT_t (i := 534) (by decide +kernel) rfl
theorem cX8_160 : gCV RX8 160 0 mX1_clear := ⟨mw_491, mw_492, mw_493, mw_280, mw_14, ⟨by decide +kernel, by decide +kernel, by decide +kernel⟩, by decide⟩
theorem mw_494 : Cond.methodLink RX8 161 yX2_worthOf ∈ gT := gT_t (i := 536) (by decide +kernel) rfl
theorem mw_495 : Cond.instanceMethod yX2_worthOf ∈ gT := gT_t (i := 537) (by decide +kernel) rfl
theorem mw_496 : Cond.selects RX2 yX2_worthOf yX2_worthOf ∈ gT := gT_t (i := 538) (by decide +kernel) rfl
theorem cX8_161 : gCV RX8 161 1 mX2_worthOf := ⟨mw_494, mw_495, mw_496, mw_268, mw_29, ⟨by decide +kernel, by decide +kernel, by decide +kernel⟩, by decide⟩
theorem mw_497 : Cond.methodLink RX2 104 yX2_amountOf ∈ gT := gT_t (i := 540) (by decide +kernel) rfl
theorem cX2_104 : gCV RX2 104 2 mX2_amountOf := ⟨mw_497, mw_431, mw_432, mw_268, mw_28, ⟨by decide +kernel, by decide +kernel, by decide +kernel⟩, by decide⟩
theorem mw_498 : Cond.methodLink RX8 164 yX4_lengthOfAllWords ∈ gT := gT_t (i := 541) (by decide +kernel) rfl
theorem mw_499 : Cond.instanceMethod yX4_lengthOfAllWords ∈ gT := gT_t (i := 542) (by decide +kernel) rfl
theorem mw_500 : Cond.selects RX4 yX4_lengthOfAllWords yX4_lengthOfAllWords ∈ gT := gT_t (i := 543) (by decide +kernel) rfl
theorem cX8_164 : gCV RX8 164 1 mX4_lengthOfAllWords := ⟨mw_498, mw_499, mw_500, mw_274, mw_50, ⟨by decide +kernel, by decide +kernel, by decide +kernel⟩, by decide⟩
theorem mw_501 : Cond.methodLink RX4 66 yX7_clear ∈ gT := gT_t (i := 545) (by decide +kernel) rfl
theorem cX4_66 : gCV RX4 66 0 mX7_clear := ⟨mw_501, mw_455, mw_456, mw_277, mw_67, ⟨by decide +kernel, by decide +kernel, by decide +kernel⟩, by decide⟩
theorem mw_502 : Cond.methodLink RX4 69 yX4_writeWords ∈ gT := gT_t (i := 546) (by decide +kernel) rfl
theorem cX4_69 : gCV RX4 69 3 mX4_writeWords := ⟨mw_502, mw_458, mw_459, mw_274, mw_47, ⟨by decide +kernel, by decide +kernel, by decide +kernel⟩, by decide⟩
theorem mw_503 : Cond.methodLink RX8 167 yX1_offer ∈ gT := gT_t (i := 547) (by decide +kernel) rfl
theorem mw_504 : Cond.instanceMethod yX1_offer ∈ gT := gT_t (i := 548) (by decide +kernel) rfl
theorem mw_505 : Cond.selects RX1 yX1_offer yX1_offer ∈ gT := gT_t (i := 549) (by decide +kernel) rfl
theorem cX8_167 : gCV RX8 167 3 mX1_offer := ⟨mw_503, mw_504, mw_505, mw_280, mw_15, ⟨by decide +kernel, by decide +kernel, by decide +kernel⟩, by decide⟩
theorem mw_506 : Cond.methodLink RX8 171 yX1_choose ∈ gT := gT_t (i := 551) (by decide +kernel) rfl
theorem mw_507 : Cond.instanceMethod yX1_choose ∈ gT := gT_t (i := 552) (by decide +kernel) rfl
theorem mw_508 : Cond.selects RX1 yX1_choose yX1_choose ∈ gT := gT_t (i := 553) (by decide +kernel) rfl
theorem cX8_171 : gCV RX8 171 1 mX1_choose := ⟨mw_506, mw_507, mw_508, mw_280, mw_16, ⟨by decide +kernel, by decide +kernel, by decide +kernel⟩, by decide⟩
theorem mw_509 : Cond.methodLink RX1 34 yJ7_fill_53178 ∈ gT := gT_t (i := 555) (by decide +kernel) rfl
theorem cX1_34 : gCS RX1 34 2 mJ7_fill_53178 := ⟨mw_509, mw_272, mw_271, mw_153, ⟨by decide +kernel, by decide +kernel, by decide +kernel⟩, by decide⟩
theorem mw_510 : Cond.methodLink RX1 46 yX1_weigh ∈ gT := gT_t (i := 557) (by decide +kernel) rfl
theorem mw_511 : Cond.instanceMethod yX1_weigh ∈ gT := gT_t (i := 559) (by decide +kernel) rfl
theorem mw_512 : Cond.selects RX1 yX1_weigh yX1_weigh ∈ gT := gT_p (i := 14) (by decide +kernel) rfl
theorem cX1_46 : gCV RX1 46 2 mX1_weigh := ⟨mw_510, mw_511, mw_512, mw_280, mw_17, ⟨by decide +kernel, by decide +kernel, by decide +kernel⟩, by decide⟩
theorem mw_513 : Cond.methodLink RL 75 yX8_worth ∈ gT := gT_t (i := 561) (by decide +kernel) rfl
theorem mw_514 : Cond.instanceMethod yX8_worth ∈ gT := gT_t (i := 562) (by decide +kernel) rfl
theorem mw_515 : Cond.selects RX8 yX8_worth yX8_worth ∈ gT := gT_t (i := 563) (by decide +kernel) rfl
theorem cL_75 : gCV RL 75 1 mX8_worth := ⟨mw_513, mw_514, mw_515, mw_251, mw_86, ⟨by decide +kernel, by decide +kernel, by decide +kernel⟩, by decide⟩
theorem mw_516 : Cond.methodLink RL 79 yX8_feed ∈ gT := gT_t (i := 565) (by decide +kernel) rfl
theorem mw_517 : Cond.instanceMethod yX8_feed ∈ gT := gT_t (i := 566) (by decide +kernel) rfl
theorem mw_518 : Cond.selects RX8 yX8_feed yX8_feed ∈ gT := gT_t (i := 567) (by decide +kernel) rfl
theorem cL_79 : gCV RL 79 5 mX8_feed := ⟨mw_516, mw_517, mw_518, mw_251, mw_87, ⟨by decide +kernel, by decide +kernel, by decide +kernel⟩, by decide⟩
theorem mw_519 : Cond.methodLink RX8 174 yX6_hasRoomForTwenty ∈ gT := gT_t (i := 569) (by decide +kernel) rfl
theorem mw_520 : Cond.instanceMethod yX6_hasRoomForTwenty ∈ gT := gT_t (i := 570) (by decide +kernel) rfl
theorem mw_521 : Cond.selects RX6 yX6_hasRoomForTwenty yX6_hasRoomForTwenty ∈ gT := gT_t (i := 571) (by decide +kernel) rfl
theorem cX8_174 : gCV RX8 174 0 mX6_hasRoomForTwenty := ⟨mw_519, mw_520, mw_521, mw_283, mw_56, ⟨by decide +kernel, by decide +kernel, by decide +kernel⟩, by decide⟩
theorem mw_522 : Cond.methodLink RX8 177 yX6_addFour ∈ gT := gT_t (i := 573) (by decide +kernel) rfl
theorem mw_523 : Cond.instanceMethod yX6_addFour ∈ gT := gT_t (i := 574) (by decide +kernel) rfl
theorem mw_524 : Cond.selects RX6 yX6_addFour yX6_addFour ∈ gT := gT_t (i := 575) (by decide +kernel) rfl
theorem cX8_177 : gCV RX8 177 1 mX6_addFour := ⟨mw_522, mw_523, mw_524, mw_283, mw_57, ⟨by decide +kernel, by decide +kernel, by decide +kernel⟩, by decide⟩
theorem mw_525 : Cond.methodLink RL 84 yX8_read ∈ gT := gT_t (i := 577) (by decide +kernel) rfl
theorem mw_526 : Cond.instanceMethod yX8_read ∈ gT := gT_t (i := 578) (by decide +kernel) rfl
theorem mw_527 : Cond.selects RX8 yX8_read yX8_read ∈ gT := gT_t (i := 579) (by decide +kernel) rfl
theorem cL_84 : gCV RL 84 1 mX8_read := ⟨mw_525, mw_526, mw_527, mw_251, mw_88, ⟨by decide +kernel, by decide +kernel, by decide +kernel⟩, by decide⟩
theorem mw_528 : Cond.methodLink RX8 181 yX6_readWords ∈ gT := gT_t (i := 581) (by decide +kernel) rfl
theorem mw_529 : Cond.instanceMethod yX6_readWords ∈ gT := gT_t (i := 582) (by decide +kernel) rfl
theorem mw_530 : Cond.selects RX6 yX6_readWords yX6_readWords ∈ gT := gT_t (i := 583) (by decide +kernel) rfl
theorem cX8_181 : gCV RX8 181 3 mX6_readWords := ⟨mw_528, mw_529, mw_530, mw_283, mw_59, ⟨by decide +kernel, by decide +kernel, by decide +kernel⟩, by decide⟩
theorem mw_531 : Cond.methodLink RX6 22 yX6_behindNumber ∈ gT := gT_t (i := 585) (by decide +kernel) rfl
theorem mw_532 : Cond.instanceMethod yX6_behindNumber ∈ gT := gT_t (i := 587) (by decide +kernel) rfl
theorem mw_533 : Cond.selects RX6 yX6_behindNumber yX6_behindNumber ∈ gT := gT_p (i := 15) (by decide +kernel) rfl
theorem cX6_22 : gCV RX6 22 3 mX6_behindNumber := ⟨mw_531, mw_532, mw_533, mw_283, mw_60, ⟨by decide +kernel, by decide +kernel, by decide +kernel⟩, by decide⟩
theorem mw_534 : Cond.methodLink RX6 30 yX6_byteAt ∈ gT := gT_t (i := 589) (by decide +kernel) rfl
theorem mw_535 : Cond.instanceMethod yX6_byteAt ∈ gT := gT_t (i := 591) (by decide +kernel) rfl
theorem mw_536 : Cond.selects RX6 yX6_byteAt yX6_byteAt ∈ gT := gT_p (i := 16) (by decide +kernel) rfl
theorem cX6_30 : gCV RX6 30 2 mX6_byteAt := ⟨mw_534, mw_535, mw_536, mw_283, mw_65, ⟨by decide +kernel, by decide +kernel, by decide +kernel⟩, by decide⟩
theorem mw_537 : Cond.methodLink RX6 26 yX6_isCellAt ∈ gT := gT_t (i := 593) (by decide +kernel) rfl
theorem mw_538 : Cond.instanceMethod yX6_isCellAt ∈ gT := gT_t (i := 595) (by decide +kernel) rfl
theorem mw_539 : Cond.selects RX6 yX6_isCellAt yX6_isCellAt ∈ gT := gT_p (i := 17) (by decide +kernel) rfl
theorem cX6_26 : gCV RX6 26 2 mX6_isCellAt := ⟨mw_537, mw_538, mw_539, mw_283, mw_63, ⟨by decide +kernel, by decide +kernel, by decide +kernel⟩, by decide⟩
theorem mw_540 : Cond.methodLink RX6 40 yX6_behindSigns ∈ gT := gT_t (i := 597) (by decide +kernel) rfl
theorem mw_541 : Cond.instanceMethod yX6_behindSigns ∈ gT := gT_t (i := 599) (by decide +kernel) rfl
theorem mw_542 : Cond.selects RX6 yX6_behindSigns yX6_behindSigns ∈ gT := gT_p (i := 18) (by decide +kernel) rfl
theorem cX6_40 : gCV RX6 40 2 mX6_behindSigns := ⟨mw_540, mw_541, mw_542, mw_283, mw_61, ⟨by decide +kernel, by decide +kernel, by decide +kernel⟩, by decide⟩
theorem mw_543 : Cond.methodLink RX6 46 yX6_behindSign ∈ gT := gT_t (i := 601) (by decide +kernel) rfl
theorem mw_544 : Cond.instanceMethod yX6_behindSign ∈ gT := gT_t (i := 603) (by decide +kernel) rfl
theorem mw_545 : Cond.selects RX6 yX6_behindSign yX6_behindSign ∈ gT := gT_p (i := 19) (by decide +kernel) rfl
theorem cX6_46 : gCV RX6 46 2 mX6_behindSign := ⟨mw_543, mw_544, mw_545, mw_283, mw_62, ⟨by decide +kernel, by decide +kernel, by decide +kernel⟩, by decide⟩
theorem mw_546 : Cond.methodLink RX6 49 yX6_isDigitAt ∈ gT := gT_t (i := 605) (by decide +kernel) rfl
theorem mw_547 : Cond.instanceMethod yX6_isDigitAt ∈ gT := gT_t (i := 607) (by decide +kernel) rfl
theorem mw_548 : Cond.selects RX6 yX6_isDigitAt yX6_isDigitAt ∈ gT := gT_p (i := 20) (by decide +kernel) rfl
theorem cX6_49 : gCV RX6 49 2 mX6_isDigitAt := ⟨mw_546, mw_547, mw_548, mw_283, mw_64, ⟨by decide +kernel, by decide +kernel, by decide +kernel⟩, by decide⟩
theorem mw_549 : Cond.methodLink RX8 191 yX0_bitAt ∈ gT := gT_t (i := 609) (by decide +kernel) rfl
theorem cX8_191 : gCV RX8 191 2 mX0_bitAt := ⟨mw_549, mw_303, mw_304, mw_254, mw_4, ⟨by decide +kernel, by decide +kernel, by decide +kernel⟩, by decide⟩
theorem mw_550 : Cond.methodLink RX8 202 yX6_finish ∈ gT := gT_t (i := 611) (by decide +kernel) rfl
theorem mw_551 : Cond.instanceMethod yX6_finish ∈ gT := gT_t (i := 612) (by decide +kernel) rfl
theorem mw_552 : Cond.selects RX6 yX6_finish yX6_finish ∈ gT := gT_t (i := 613) (by decide +kernel) rfl
theorem cX8_202 : gCV RX8 202 1 mX6_finish := ⟨mw_550, mw_551, mw_552, mw_283, mw_58, ⟨by decide +kernel, by decide +kernel, by decide +kernel⟩, by decide⟩
theorem mw_553 : Cond.methodLink RL 88 yX8_look ∈ gT := gT_t (i := 615) (by decide +kernel) rfl
theorem mw_554 : Cond.instanceMethod yX8_look ∈ gT := gT_t (i := 616) (by decide +kernel) rfl
theorem mw_555 : Cond.selects RX8 yX8_look yX8_look ∈ gT := gT_t (i := 617) (by decide +kernel) rfl
theorem cL_88 : gCV RL 88 1 mX8_look := ⟨mw_553, mw_554, mw_555, mw_251, mw_89, ⟨by decide +kernel, by decide +kernel, by decide +kernel⟩, by decide⟩
theorem mw_556 : Cond.methodLink RX8 205 yX2_weightOf ∈ gT := gT_t (i := 619) (by decide +kernel) rfl
theorem mw_557 : Cond.instanceMethod yX2_weightOf ∈ gT := gT_t (i := 620) (by decide +kernel) rfl
theorem mw_558 : Cond.selects RX2 yX2_weightOf yX2_weightOf ∈ gT := gT_t (i := 621) (by decide +kernel) rfl
theorem cX8_205 : gCV RX8 205 1 mX2_weightOf := ⟨mw_556, mw_557, mw_558, mw_268, mw_21, ⟨by decide +kernel, by decide +kernel, by decide +kernel⟩, by decide⟩
theorem mw_559 : Cond.methodLink RX8 208 yX8_ownerOf ∈ gT := gT_t (i := 623) (by decide +kernel) rfl
theorem mw_560 : Cond.instanceMethod yX8_ownerOf ∈ gT := gT_t (i := 625) (by decide +kernel) rfl
theorem mw_561 : Cond.selects RX8 yX8_ownerOf yX8_ownerOf ∈ gT := gT_p (i := 21) (by decide +kernel) rfl
theorem cX8_208 : gCV RX8 208 1 mX8_ownerOf := ⟨mw_559, mw_560, mw_561, mw_251, mw_91, ⟨by decide +kernel, by decide +kernel, by decide +kernel⟩, by decide⟩
theorem mw_562 : Cond.methodLink RX8 211 yX3_bitOfMove ∈ gT := gT_t (i := 627) (by decide +kernel) rfl
theorem cX8_211 : gCV RX8 211 1 mX3_bitOfMove := ⟨mw_562, mw_315, mw_316, mw_262, mw_41, ⟨by decide +kernel, by decide +kernel, by decide +kernel⟩, by decide⟩
theorem mw_563 : Cond.methodLink RX8 214 yX8_lookAtState ∈ gT := gT_t (i := 628) (by decide +kernel) rfl
theorem mw_564 : Cond.instanceMethod yX8_lookAtState ∈ gT := gT_t (i := 630) (by decide +kernel) rfl
theorem mw_565 : Cond.selects RX8 yX8_lookAtState yX8_lookAtState ∈ gT := gT_p (i := 22) (by decide +kernel) rfl
theorem cX8_214 : gCV RX8 214 1 mX8_lookAtState := ⟨mw_563, mw_564, mw_565, mw_251, mw_90, ⟨by decide +kernel, by decide +kernel, by decide +kernel⟩, by decide⟩
theorem mw_566 : Cond.methodLink RL 12 yX9_init ∈ gT := gT_t (i := 634) (by decide +kernel) rfl
theorem mw_567 : Cond.initialized RX9 ∈ gT := gT_t (i := 12) (by decide +kernel) rfl
theorem mw_568 : Cond.instanceMethod yX9_init ∈ gT := gT_t (i := 635) (by decide +kernel) rfl
theorem cL_12 : gCI RL 12 0 mX9_init := ⟨mw_566, mw_568, mw_567, mw_95, ⟨by decide +kernel, by decide +kernel, by decide +kernel⟩, by decide, rfl, rfl⟩
theorem mw_569 : Cond.methodLink RX9 64 yX9_forgets ∈ gT := gT_t (i := 638) (by decide +kernel) rfl
theorem mw_570 : Cond.instanceMethod yX9_forgets ∈ gT := gT_t (i := 640) (by decide +kernel) rfl
theorem mw_571 : Cond.selects RX9 yX9_forgets yX9_forgets ∈ gT := gT_p (i := 23) (by decide +kernel) rfl
theorem cX9_64 : gCV RX9 64 0 mX9_forgets := ⟨mw_569, mw_570, mw_571, mw_567, mw_113, ⟨by decide +kernel, by decide +kernel, by decide +kernel⟩, by decide⟩
theorem mw_572 : Cond.methodLink RL 17 yX9_game ∈ gT := gT_t (i := 728) (by decide +kernel) rfl
theorem mw_573 : Cond.instanceMethod yX9_game ∈ gT := gT_t (i := 729) (by decide +kernel) rfl
theorem mw_574 : Cond.selects RX9 yX9_game yX9_game ∈ gT := gT_t (i := 730) (by decide +kernel) rfl
theorem cL_17 : gCV RL 17 5 mX9_game := ⟨mw_572, mw_573, mw_574, mw_567, mw_97, ⟨by decide +kernel, by decide +kernel, by decide +kernel⟩, by decide⟩
theorem mw_575 : Cond.methodLink RX9 67 yX9_in ∈ gT := gT_t (i := 732) (by decide +kernel) rfl
theorem mw_576 : Cond.static yX9_in ∈ gT := gT_t (i := 733) (by decide +kernel) rfl
theorem cX9_67 : gCS RX9 67 3 mX9_in := ⟨mw_575, mw_576, mw_567, mw_96, ⟨by decide +kernel, by decide +kernel, by decide +kernel⟩, by decide⟩
theorem mw_577 : Cond.methodLink RL 22 yX9_play ∈ gT := gT_t (i := 735) (by decide +kernel) rfl
theorem mw_578 : Cond.instanceMethod yX9_play ∈ gT := gT_t (i := 736) (by decide +kernel) rfl
theorem mw_579 : Cond.selects RX9 yX9_play yX9_play ∈ gT := gT_t (i := 737) (by decide +kernel) rfl
theorem cL_22 : gCV RL 22 1 mX9_play := ⟨mw_577, mw_578, mw_579, mw_567, mw_105, ⟨by decide +kernel, by decide +kernel, by decide +kernel⟩, by decide⟩
theorem mw_580 : Cond.methodLink RX9 106 yX9_setsUp ∈ gT := gT_t (i := 739) (by decide +kernel) rfl
theorem mw_581 : Cond.instanceMethod yX9_setsUp ∈ gT := gT_t (i := 741) (by decide +kernel) rfl
theorem mw_582 : Cond.selects RX9 yX9_setsUp yX9_setsUp ∈ gT := gT_p (i := 24) (by decide +kernel) rfl
theorem cX9_106 : gCV RX9 106 1 mX9_setsUp := ⟨mw_580, mw_581, mw_582, mw_567, mw_104, ⟨by decide +kernel, by decide +kernel, by decide +kernel⟩, by decide⟩
theorem mw_583 : Cond.methodLink RX9 99 yX9_starts ∈ gT := gT_t (i := 743) (by decide +kernel) rfl
theorem mw_584 : Cond.instanceMethod yX9_starts ∈ gT := gT_t (i := 745) (by decide +kernel) rfl
theorem mw_585 : Cond.selects RX9 yX9_starts yX9_starts ∈ gT := gT_p (i := 25) (by decide +kernel) rfl
theorem cX9_99 : gCV RX9 99 0 mX9_starts := ⟨mw_583, mw_584, mw_585, mw_567, mw_98, ⟨by decide +kernel, by decide +kernel, by decide +kernel⟩, by decide⟩
theorem mw_586 : Cond.methodLink RX9 102 yX9_sets ∈ gT := gT_t (i := 747) (by decide +kernel) rfl
theorem mw_587 : Cond.instanceMethod yX9_sets ∈ gT := gT_t (i := 749) (by decide +kernel) rfl
theorem mw_588 : Cond.selects RX9 yX9_sets yX9_sets ∈ gT := gT_p (i := 26) (by decide +kernel) rfl
theorem cX9_102 : gCV RX9 102 1 mX9_sets := ⟨mw_586, mw_587, mw_588, mw_567, mw_103, ⟨by decide +kernel, by decide +kernel, by decide +kernel⟩, by decide⟩
theorem mw_589 : Cond.methodLink RX9 95 yX9_makesRow ∈ gT := gT_t (i := 751) (by decide +kernel) rfl
theorem mw_590 : Cond.instanceMethod yX9_makesRow ∈ gT := gT_t (i := 753) (by decide +kernel) rfl
theorem mw_591 : Cond.selects RX9 yX9_makesRow yX9_makesRow ∈ gT := gT_p (i := 27) (by decide +kernel) rfl
theorem cX9_95 : gCV RX9 95 2 mX9_makesRow := ⟨mw_589, mw_590, mw_591, mw_567, mw_102, ⟨by decide +kernel, by decide +kernel, by decide +kernel⟩, by decide⟩
theorem mw_592 : Cond.methodLink RX9 91 yX9_isLine ∈ gT := gT_t (i := 755) (by decide +kernel) rfl
theorem mw_593 : Cond.instanceMethod yX9_isLine ∈ gT := gT_t (i := 757) (by decide +kernel) rfl
theorem mw_594 : Cond.selects RX9 yX9_isLine yX9_isLine ∈ gT := gT_p (i := 28) (by decide +kernel) rfl
theorem cX9_91 : gCV RX9 91 4 mX9_isLine := ⟨mw_592, mw_593, mw_594, mw_567, mw_101, ⟨by decide +kernel, by decide +kernel, by decide +kernel⟩, by decide⟩
theorem mw_595 : Cond.methodLink RX9 87 yX9_stonesFrom ∈ gT := gT_t (i := 759) (by decide +kernel) rfl
theorem mw_596 : Cond.instanceMethod yX9_stonesFrom ∈ gT := gT_t (i := 761) (by decide +kernel) rfl
theorem mw_597 : Cond.selects RX9 yX9_stonesFrom yX9_stonesFrom ∈ gT := gT_p (i := 29) (by decide +kernel) rfl
theorem cX9_87 : gCV RX9 87 4 mX9_stonesFrom := ⟨mw_595, mw_596, mw_597, mw_567, mw_100, ⟨by decide +kernel, by decide +kernel, by decide +kernel⟩, by decide⟩
theorem mw_598 : Cond.methodLink RX9 109 yX9_isMove ∈ gT := gT_t (i := 763) (by decide +kernel) rfl
theorem mw_599 : Cond.instanceMethod yX9_isMove ∈ gT := gT_t (i := 765) (by decide +kernel) rfl
theorem mw_600 : Cond.selects RX9 yX9_isMove yX9_isMove ∈ gT := gT_p (i := 30) (by decide +kernel) rfl
theorem cX9_109 : gCV RX9 109 1 mX9_isMove := ⟨mw_598, mw_599, mw_600, mw_567, mw_99, ⟨by decide +kernel, by decide +kernel, by decide +kernel⟩, by decide⟩
theorem mw_601 : Cond.methodLink RL 27 yX9_back ∈ gT := gT_t (i := 767) (by decide +kernel) rfl
theorem mw_602 : Cond.instanceMethod yX9_back ∈ gT := gT_t (i := 768) (by decide +kernel) rfl
theorem mw_603 : Cond.selects RX9 yX9_back yX9_back ∈ gT := gT_t (i := 769) (by decide +kernel) rfl
theorem cL_27 : gCV RL 27 0 mX9_back := ⟨mw_601, mw_602, mw_603, mw_567, mw_106, ⟨by decide +kernel, by decide +kernel, by decide +kernel⟩, by decide⟩
theorem mw_604 : Cond.methodLink RL 32 yX9_depth ∈ gT := gT_t (i := 771) (by decide +kernel) rfl
theorem mw_605 : Cond.instanceMethod yX9_depth ∈ gT := gT_t (i := 772) (by decide +kernel) rfl
theorem mw_606 : Cond.selects RX9 yX9_depth yX9_depth ∈ gT := gT_t (i := 773) (by decide +kernel) rfl
theorem cL_32 : gCV RL 32 1 mX9_depth := ⟨mw_604, mw_605, mw_606, mw_567, mw_107, ⟨by decide +kernel, by decide +kernel, by decide +kernel⟩, by decide⟩
theorem mw_607 : Cond.methodLink RL 37 yX9_weight ∈ gT := gT_t (i := 775) (by decide +kernel) rfl
theorem mw_608 : Cond.instanceMethod yX9_weight ∈ gT := gT_t (i := 776) (by decide +kernel) rfl
theorem mw_609 : Cond.selects RX9 yX9_weight yX9_weight ∈ gT := gT_t (i := 777) (by decide +kernel) rfl
theorem cL_37 : gCV RL 37 2 mX9_weight := ⟨mw_607, mw_608, mw_609, mw_567, mw_108, ⟨by decide +kernel, by decide +kernel, by decide +kernel⟩, by decide⟩
theorem mw_610 : Cond.methodLink RL 42 yX9_value ∈ gT := gT_t (i := 779) (by decide +kernel) rfl
theorem mw_611 : Cond.instanceMethod yX9_value ∈ gT := gT_t (i := 780) (by decide +kernel) rfl
theorem mw_612 : Cond.selects RX9 yX9_value yX9_value ∈ gT := gT_t (i := 781) (by decide +kernel) rfl
theorem cL_42 : gCV RL 42 2 mX9_value := ⟨mw_610, mw_611, mw_612, mw_567, mw_110, ⟨by decide +kernel, by decide +kernel, by decide +kernel⟩, by decide⟩
theorem mw_613 : Cond.methodLink RX9 113 yX9_searched ∈ gT := gT_t (i := 783) (by decide +kernel) rfl
theorem mw_614 : Cond.instanceMethod yX9_searched ∈ gT := gT_t (i := 785) (by decide +kernel) rfl
theorem mw_615 : Cond.selects RX9 yX9_searched yX9_searched ∈ gT := gT_p (i := 31) (by decide +kernel) rfl
theorem cX9_113 : gCV RX9 113 1 mX9_searched := ⟨mw_613, mw_614, mw_615, mw_567, mw_109, ⟨by decide +kernel, by decide +kernel, by decide +kernel⟩, by decide⟩
theorem mw_616 : Cond.methodLink RL 46 yX9_best ∈ gT := gT_t (i := 787) (by decide +kernel) rfl
theorem mw_617 : Cond.instanceMethod yX9_best ∈ gT := gT_t (i := 788) (by decide +kernel) rfl
theorem mw_618 : Cond.selects RX9 yX9_best yX9_best ∈ gT := gT_t (i := 789) (by decide +kernel) rfl
theorem cL_46 : gCV RL 46 2 mX9_best := ⟨mw_616, mw_617, mw_618, mw_567, mw_112, ⟨by decide +kernel, by decide +kernel, by decide +kernel⟩, by decide⟩
theorem mw_619 : Cond.methodLink RX9 117 yX9_behind ∈ gT := gT_t (i := 791) (by decide +kernel) rfl
theorem mw_620 : Cond.instanceMethod yX9_behind ∈ gT := gT_t (i := 793) (by decide +kernel) rfl
theorem mw_621 : Cond.selects RX9 yX9_behind yX9_behind ∈ gT := gT_p (i := 32) (by decide +kernel) rfl
theorem cX9_117 : gCV RX9 117 3 mX9_behind := ⟨mw_619, mw_620, mw_621, mw_567, mw_111, ⟨by decide +kernel, by decide +kernel, by decide +kernel⟩, by decide⟩
theorem mw_622 : Cond.methodLink RL 54 yX9_leader ∈ gT := gT_t (i := 795) (by decide +kernel) rfl
theorem mw_623 : Cond.instanceMethod yX9_leader ∈ gT := gT_t (i := 796) (by decide +kernel) rfl
theorem mw_624 : Cond.selects RX9 yX9_leader yX9_leader ∈ gT := gT_t (i := 797) (by decide +kernel) rfl
theorem cL_54 : gCV RL 54 1 mX9_leader := ⟨mw_622, mw_623, mw_624, mw_567, mw_114, ⟨by decide +kernel, by decide +kernel, by decide +kernel⟩, by decide⟩
theorem mw_625 : Cond.methodLink RL 50 yX9_found ∈ gT := gT_t (i := 799) (by decide +kernel) rfl
theorem mw_626 : Cond.instanceMethod yX9_found ∈ gT := gT_t (i := 800) (by decide +kernel) rfl
theorem mw_627 : Cond.selects RX9 yX9_found yX9_found ∈ gT := gT_t (i := 801) (by decide +kernel) rfl
theorem cL_50 : gCV RL 50 2 mX9_found := ⟨mw_625, mw_626, mw_627, mw_567, mw_122, ⟨by decide +kernel, by decide +kernel, by decide +kernel⟩, by decide⟩
theorem mw_628 : Cond.methodLink RX9 134 yX9_threat ∈ gT := gT_t (i := 803) (by decide +kernel) rfl
theorem mw_629 : Cond.instanceMethod yX9_threat ∈ gT := gT_t (i := 805) (by decide +kernel) rfl
theorem mw_630 : Cond.selects RX9 yX9_threat yX9_threat ∈ gT := gT_p (i := 33) (by decide +kernel) rfl
theorem cX9_134 : gCV RX9 134 1 mX9_threat := ⟨mw_628, mw_629, mw_630, mw_567, mw_117, ⟨by decide +kernel, by decide +kernel, by decide +kernel⟩, by decide⟩
theorem mw_631 : Cond.methodLink RX9 124 yX9_wins ∈ gT := gT_t (i := 807) (by decide +kernel) rfl
theorem mw_632 : Cond.instanceMethod yX9_wins ∈ gT := gT_t (i := 809) (by decide +kernel) rfl
theorem mw_633 : Cond.selects RX9 yX9_wins yX9_wins ∈ gT := gT_p (i := 34) (by decide +kernel) rfl
theorem cX9_124 : gCV RX9 124 1 mX9_wins := ⟨mw_631, mw_632, mw_633, mw_567, mw_115, ⟨by decide +kernel, by decide +kernel, by decide +kernel⟩, by decide⟩
theorem mw_634 : Cond.methodLink RX9 121 yX9_winsBy ∈ gT := gT_t (i := 811) (by decide +kernel) rfl
theorem mw_635 : Cond.instanceMethod yX9_winsBy ∈ gT := gT_t (i := 813) (by decide +kernel) rfl
theorem mw_636 : Cond.selects RX9 yX9_winsBy yX9_winsBy ∈ gT := gT_p (i := 35) (by decide +kernel) rfl
theorem cX9_121 : gCV RX9 121 2 mX9_winsBy := ⟨mw_634, mw_635, mw_636, mw_567, mw_116, ⟨by decide +kernel, by decide +kernel, by decide +kernel⟩, by decide⟩
theorem mw_637 : Cond.methodLink RX9 137 yX9_forced ∈ gT := gT_t (i := 815) (by decide +kernel) rfl
theorem mw_638 : Cond.instanceMethod yX9_forced ∈ gT := gT_t (i := 817) (by decide +kernel) rfl
theorem mw_639 : Cond.selects RX9 yX9_forced yX9_forced ∈ gT := gT_p (i := 36) (by decide +kernel) rfl
theorem cX9_137 : gCV RX9 137 1 mX9_forced := ⟨mw_637, mw_638, mw_639, mw_567, mw_118, ⟨by decide +kernel, by decide +kernel, by decide +kernel⟩, by decide⟩
theorem mw_640 : Cond.methodLink RX9 140 yX9_slip ∈ gT := gT_t (i := 819) (by decide +kernel) rfl
theorem mw_641 : Cond.instanceMethod yX9_slip ∈ gT := gT_t (i := 821) (by decide +kernel) rfl
theorem mw_642 : Cond.selects RX9 yX9_slip yX9_slip ∈ gT := gT_p (i := 37) (by decide +kernel) rfl
theorem cX9_140 : gCV RX9 140 1 mX9_slip := ⟨mw_640, mw_641, mw_642, mw_567, mw_119, ⟨by decide +kernel, by decide +kernel, by decide +kernel⟩, by decide⟩
theorem mw_643 : Cond.methodLink RX9 127 yX9_value ∈ gT := gT_t (i := 823) (by decide +kernel) rfl
theorem cX9_127 : gCV RX9 127 2 mX9_value := ⟨mw_643, mw_611, mw_612, mw_567, mw_110, ⟨by decide +kernel, by decide +kernel, by decide +kernel⟩, by decide⟩
theorem mw_644 : Cond.methodLink RX9 143 yX9_missed ∈ gT := gT_t (i := 824) (by decide +kernel) rfl
theorem mw_645 : Cond.instanceMethod yX9_missed ∈ gT := gT_t (i := 826) (by decide +kernel) rfl
theorem mw_646 : Cond.selects RX9 yX9_missed yX9_missed ∈ gT := gT_p (i := 38) (by decide +kernel) rfl
theorem cX9_143 : gCV RX9 143 1 mX9_missed := ⟨mw_644, mw_645, mw_646, mw_567, mw_120, ⟨by decide +kernel, by decide +kernel, by decide +kernel⟩, by decide⟩
theorem mw_647 : Cond.methodLink RX9 146 yX9_turn ∈ gT := gT_t (i := 828) (by decide +kernel) rfl
theorem mw_648 : Cond.instanceMethod yX9_turn ∈ gT := gT_t (i := 830) (by decide +kernel) rfl
theorem mw_649 : Cond.selects RX9 yX9_turn yX9_turn ∈ gT := gT_p (i := 39) (by decide +kernel) rfl
theorem cX9_146 : gCV RX9 146 1 mX9_turn := ⟨mw_647, mw_648, mw_649, mw_567, mw_121, ⟨by decide +kernel, by decide +kernel, by decide +kernel⟩, by decide⟩
theorem mw_650 : Cond.methodLink RX9 131 yX9_leader ∈ gT := gT_t (i := 832) (by decide +kernel) rfl
theorem cX9_131 : gCV RX9 131 1 mX9_leader := ⟨mw_650, mw_623, mw_624, mw_567, mw_114, ⟨by decide +kernel, by decide +kernel, by decide +kernel⟩, by decide⟩
theorem mw_651 : Cond.methodLink RL 58 yX9_plan ∈ gT := gT_t (i := 833) (by decide +kernel) rfl
theorem mw_652 : Cond.instanceMethod yX9_plan ∈ gT := gT_t (i := 834) (by decide +kernel) rfl
theorem mw_653 : Cond.selects RX9 yX9_plan yX9_plan ∈ gT := gT_t (i := 835) (by decide +kernel) rfl
theorem cL_58 : gCV RL 58 1 mX9_plan := ⟨mw_651, mw_652, mw_653, mw_567, mw_125, ⟨by decide +kernel, by decide +kernel, by decide +kernel⟩, by decide⟩
theorem mw_654 : Cond.methodLink RX9 149 yX9_rowsOf ∈ gT := gT_t (i := 837) (by decide +kernel) rfl
theorem mw_655 : Cond.instanceMethod yX9_rowsOf ∈ gT := gT_t (i := 839) (by decide +kernel) rfl
theorem mw_656 : Cond.selects RX9 yX9_rowsOf yX9_rowsOf ∈ gT := gT_p (i := 40) (by decide +kernel) rfl
theorem cX9_149 : gCV RX9 149 1 mX9_rowsOf := ⟨mw_654, mw_655, mw_656, mw_567, mw_124, ⟨by decide +kernel, by decide +kernel, by decide +kernel⟩, by decide⟩
theorem mw_657 : Cond.methodLink RX9 152 yX9_reaches ∈ gT := gT_t (i := 841) (by decide +kernel) rfl
theorem mw_658 : Cond.instanceMethod yX9_reaches ∈ gT := gT_t (i := 843) (by decide +kernel) rfl
theorem mw_659 : Cond.selects RX9 yX9_reaches yX9_reaches ∈ gT := gT_p (i := 41) (by decide +kernel) rfl
theorem cX9_152 : gCV RX9 152 6 mX9_reaches := ⟨mw_657, mw_658, mw_659, mw_567, mw_123, ⟨by decide +kernel, by decide +kernel, by decide +kernel⟩, by decide⟩
theorem mw_660 : Cond.methodLink RL 62 yX9_words ∈ gT := gT_t (i := 845) (by decide +kernel) rfl
theorem mw_661 : Cond.instanceMethod yX9_words ∈ gT := gT_t (i := 846) (by decide +kernel) rfl
theorem mw_662 : Cond.selects RX9 yX9_words yX9_words ∈ gT := gT_t (i := 847) (by decide +kernel) rfl
theorem cL_62 : gCV RL 62 2 mX9_words := ⟨mw_660, mw_661, mw_662, mw_567, mw_131, ⟨by decide +kernel, by decide +kernel, by decide +kernel⟩, by decide⟩
theorem mw_663 : Cond.methodLink RX9 174 yX9_saysMove ∈ gT := gT_t (i := 849) (by decide +kernel) rfl
theorem mw_664 : Cond.instanceMethod yX9_saysMove ∈ gT := gT_t (i := 851) (by decide +kernel) rfl
theorem mw_665 : Cond.selects RX9 yX9_saysMove yX9_saysMove ∈ gT := gT_p (i := 42) (by decide +kernel) rfl
theorem cX9_174 : gCV RX9 174 2 mX9_saysMove := ⟨mw_663, mw_664, mw_665, mw_567, mw_130, ⟨by decide +kernel, by decide +kernel, by decide +kernel⟩, by decide⟩
theorem mw_666 : Cond.methodLink RX9 162 yX9_saysNumber ∈ gT := gT_t (i := 853) (by decide +kernel) rfl
theorem mw_667 : Cond.instanceMethod yX9_saysNumber ∈ gT := gT_t (i := 855) (by decide +kernel) rfl
theorem mw_668 : Cond.selects RX9 yX9_saysNumber yX9_saysNumber ∈ gT := gT_p (i := 43) (by decide +kernel) rfl
theorem cX9_162 : gCV RX9 162 1 mX9_saysNumber := ⟨mw_666, mw_667, mw_668, mw_567, mw_127, ⟨by decide +kernel, by decide +kernel, by decide +kernel⟩, by decide⟩
theorem mw_669 : Cond.methodLink RX9 159 yX9_says ∈ gT := gT_t (i := 857) (by decide +kernel) rfl
theorem mw_670 : Cond.instanceMethod yX9_says ∈ gT := gT_t (i := 859) (by decide +kernel) rfl
theorem mw_671 : Cond.selects RX9 yX9_says yX9_says ∈ gT := gT_p (i := 44) (by decide +kernel) rfl
theorem cX9_159 : gCV RX9 159 1 mX9_says := ⟨mw_669, mw_670, mw_671, mw_567, mw_126, ⟨by decide +kernel, by decide +kernel, by decide +kernel⟩, by decide⟩
theorem mw_672 : Cond.methodLink RX9 165 yX9_saysCell ∈ gT := gT_t (i := 861) (by decide +kernel) rfl
theorem mw_673 : Cond.instanceMethod yX9_saysCell ∈ gT := gT_t (i := 863) (by decide +kernel) rfl
theorem mw_674 : Cond.selects RX9 yX9_saysCell yX9_saysCell ∈ gT := gT_p (i := 45) (by decide +kernel) rfl
theorem cX9_165 : gCV RX9 165 1 mX9_saysCell := ⟨mw_672, mw_673, mw_674, mw_567, mw_128, ⟨by decide +kernel, by decide +kernel, by decide +kernel⟩, by decide⟩
theorem mw_675 : Cond.methodLink RX9 168 yX9_found ∈ gT := gT_t (i := 865) (by decide +kernel) rfl
theorem cX9_168 : gCV RX9 168 2 mX9_found := ⟨mw_675, mw_626, mw_627, mw_567, mw_122, ⟨by decide +kernel, by decide +kernel, by decide +kernel⟩, by decide⟩
theorem mw_676 : Cond.methodLink RX9 171 yX9_lowestMissed ∈ gT := gT_t (i := 866) (by decide +kernel) rfl
theorem mw_677 : Cond.instanceMethod yX9_lowestMissed ∈ gT := gT_t (i := 868) (by decide +kernel) rfl
theorem mw_678 : Cond.selects RX9 yX9_lowestMissed yX9_lowestMissed ∈ gT := gT_p (i := 46) (by decide +kernel) rfl
theorem cX9_171 : gCV RX9 171 1 mX9_lowestMissed := ⟨mw_676, mw_677, mw_678, mw_567, mw_129, ⟨by decide +kernel, by decide +kernel, by decide +kernel⟩, by decide⟩
theorem mw_679 : Cond.methodLink RL 66 yX9_tale ∈ gT := gT_t (i := 870) (by decide +kernel) rfl
theorem mw_680 : Cond.instanceMethod yX9_tale ∈ gT := gT_t (i := 871) (by decide +kernel) rfl
theorem mw_681 : Cond.selects RX9 yX9_tale yX9_tale ∈ gT := gT_t (i := 872) (by decide +kernel) rfl
theorem cL_66 : gCV RL 66 1 mX9_tale := ⟨mw_679, mw_680, mw_681, mw_567, mw_132, ⟨by decide +kernel, by decide +kernel, by decide +kernel⟩, by decide⟩
theorem mw_682 : Cond.methodLink RL 70 yX9_octet ∈ gT := gT_t (i := 874) (by decide +kernel) rfl
theorem mw_683 : Cond.instanceMethod yX9_octet ∈ gT := gT_t (i := 875) (by decide +kernel) rfl
theorem mw_684 : Cond.selects RX9 yX9_octet yX9_octet ∈ gT := gT_t (i := 876) (by decide +kernel) rfl
theorem cL_70 : gCV RL 70 1 mX9_octet := ⟨mw_682, mw_683, mw_684, mw_567, mw_133, ⟨by decide +kernel, by decide +kernel, by decide +kernel⟩, by decide⟩
theorem mw_685 : Cond.methodLink RL 78 yX9_worth ∈ gT := gT_t (i := 878) (by decide +kernel) rfl
theorem mw_686 : Cond.instanceMethod yX9_worth ∈ gT := gT_t (i := 879) (by decide +kernel) rfl
theorem mw_687 : Cond.selects RX9 yX9_worth yX9_worth ∈ gT := gT_t (i := 880) (by decide +kernel) rfl
theorem cL_78 : gCV RL 78 1 mX9_worth := ⟨mw_685, mw_686, mw_687, mw_567, mw_134, ⟨by decide +kernel, by decide +kernel, by decide +kernel⟩, by decide⟩
theorem mw_688 : Cond.methodLink RL 74 yX9_chosen ∈ gT := gT_t (i := 882) (by decide +kernel) rfl
theorem mw_689 : Cond.instanceMethod yX9_chosen ∈ gT := gT_t (i := 883) (by decide +kernel) rfl
theorem mw_690 : Cond.selects RX9 yX9_chosen yX9_chosen ∈ gT := gT_t (i := 884) (by decide +kernel) rfl
theorem cL_74 : gCV RL 74 1 mX9_chosen := ⟨mw_688, mw_689, mw_690, mw_567, mw_137, ⟨by decide +kernel, by decide +kernel, by decide +kernel⟩, by decide⟩
theorem mw_691 : Cond.methodLink RX9 187 yX9_weighs ∈ gT := gT_t (i := 886) (by decide +kernel) rfl
theorem mw_692 : Cond.instanceMethod yX9_weighs ∈ gT := gT_t (i := 888) (by decide +kernel) rfl
theorem mw_693 : Cond.selects RX9 yX9_weighs yX9_weighs ∈ gT := gT_p (i := 47) (by decide +kernel) rfl
theorem cX9_187 : gCV RX9 187 0 mX9_weighs := ⟨mw_691, mw_692, mw_693, mw_567, mw_135, ⟨by decide +kernel, by decide +kernel, by decide +kernel⟩, by decide⟩
theorem mw_694 : Cond.methodLink RX9 181 yX9_worth ∈ gT := gT_t (i := 890) (by decide +kernel) rfl
theorem cX9_181 : gCV RX9 181 1 mX9_worth := ⟨mw_694, mw_686, mw_687, mw_567, mw_134, ⟨by decide +kernel, by decide +kernel, by decide +kernel⟩, by decide⟩
theorem mw_695 : Cond.methodLink RX9 184 yX9_bytesOf ∈ gT := gT_t (i := 891) (by decide +kernel) rfl
theorem mw_696 : Cond.instanceMethod yX9_bytesOf ∈ gT := gT_t (i := 893) (by decide +kernel) rfl
theorem mw_697 : Cond.selects RX9 yX9_bytesOf yX9_bytesOf ∈ gT := gT_p (i := 48) (by decide +kernel) rfl
theorem cX9_184 : gCV RX9 184 1 mX9_bytesOf := ⟨mw_695, mw_696, mw_697, mw_567, mw_136, ⟨by decide +kernel, by decide +kernel, by decide +kernel⟩, by decide⟩
theorem mw_698 : Cond.methodLink RX9 190 yX9_isEarlier ∈ gT := gT_t (i := 895) (by decide +kernel) rfl
theorem mw_699 : Cond.static yX9_isEarlier ∈ gT := gT_t (i := 896) (by decide +kernel) rfl
theorem cX9_190 : gCS RX9 190 2 mX9_isEarlier := ⟨mw_698, mw_699, mw_567, mw_138, ⟨by decide +kernel, by decide +kernel, by decide +kernel⟩, by decide⟩
theorem mw_700 : Cond.methodLink RL 83 yX9_feed ∈ gT := gT_t (i := 898) (by decide +kernel) rfl
theorem mw_701 : Cond.instanceMethod yX9_feed ∈ gT := gT_t (i := 899) (by decide +kernel) rfl
theorem mw_702 : Cond.selects RX9 yX9_feed yX9_feed ∈ gT := gT_t (i := 900) (by decide +kernel) rfl
theorem cL_83 : gCV RL 83 5 mX9_feed := ⟨mw_700, mw_701, mw_702, mw_567, mw_140, ⟨by decide +kernel, by decide +kernel, by decide +kernel⟩, by decide⟩
theorem mw_703 : Cond.methodLink RX9 196 yX9_types ∈ gT := gT_t (i := 902) (by decide +kernel) rfl
theorem mw_704 : Cond.instanceMethod yX9_types ∈ gT := gT_t (i := 904) (by decide +kernel) rfl
theorem mw_705 : Cond.selects RX9 yX9_types yX9_types ∈ gT := gT_p (i := 49) (by decide +kernel) rfl
theorem cX9_196 : gCV RX9 196 1 mX9_types := ⟨mw_703, mw_704, mw_705, mw_567, mw_139, ⟨by decide +kernel, by decide +kernel, by decide +kernel⟩, by decide⟩
theorem mw_706 : Cond.methodLink RL 87 yX9_read ∈ gT := gT_t (i := 906) (by decide +kernel) rfl
theorem mw_707 : Cond.instanceMethod yX9_read ∈ gT := gT_t (i := 907) (by decide +kernel) rfl
theorem mw_708 : Cond.selects RX9 yX9_read yX9_read ∈ gT := gT_t (i := 908) (by decide +kernel) rfl
theorem cL_87 : gCV RL 87 1 mX9_read := ⟨mw_706, mw_707, mw_708, mw_567, mw_147, ⟨by decide +kernel, by decide +kernel, by decide +kernel⟩, by decide⟩
theorem mw_709 : Cond.methodLink RX9 227 yX9_readsMove ∈ gT := gT_t (i := 910) (by decide +kernel) rfl
theorem mw_710 : Cond.instanceMethod yX9_readsMove ∈ gT := gT_t (i := 912) (by decide +kernel) rfl
theorem mw_711 : Cond.selects RX9 yX9_readsMove yX9_readsMove ∈ gT := gT_p (i := 50) (by decide +kernel) rfl
theorem cX9_227 : gCV RX9 227 0 mX9_readsMove := ⟨mw_709, mw_710, mw_711, mw_567, mw_146, ⟨by decide +kernel, by decide +kernel, by decide +kernel⟩, by decide⟩
theorem mw_712 : Cond.methodLink RX9 214 yX9_readsNumber ∈ gT := gT_t (i := 914) (by decide +kernel) rfl
theorem mw_713 : Cond.instanceMethod yX9_readsNumber ∈ gT := gT_t (i := 916) (by decide +kernel) rfl
theorem mw_714 : Cond.selects RX9 yX9_readsNumber yX9_readsNumber ∈ gT := gT_p (i := 51) (by decide +kernel) rfl
theorem cX9_214 : gCV RX9 214 0 mX9_readsNumber := ⟨mw_712, mw_713, mw_714, mw_567, mw_144, ⟨by decide +kernel, by decide +kernel, by decide +kernel⟩, by decide⟩
theorem mw_715 : Cond.methodLink RX9 202 yX9_sign ∈ gT := gT_t (i := 918) (by decide +kernel) rfl
theorem mw_716 : Cond.instanceMethod yX9_sign ∈ gT := gT_t (i := 920) (by decide +kernel) rfl
theorem mw_717 : Cond.selects RX9 yX9_sign yX9_sign ∈ gT := gT_p (i := 52) (by decide +kernel) rfl
theorem cX9_202 : gCV RX9 202 1 mX9_sign := ⟨mw_715, mw_716, mw_717, mw_567, mw_141, ⟨by decide +kernel, by decide +kernel, by decide +kernel⟩, by decide⟩
theorem mw_718 : Cond.methodLink RX9 208 yX9_isDigit ∈ gT := gT_t (i := 922) (by decide +kernel) rfl
theorem mw_719 : Cond.static yX9_isDigit ∈ gT := gT_t (i := 923) (by decide +kernel) rfl
theorem cX9_208 : gCS RX9 208 1 mX9_isDigit := ⟨mw_718, mw_719, mw_567, mw_142, ⟨by decide +kernel, by decide +kernel, by decide +kernel⟩, by decide⟩
theorem mw_720 : Cond.methodLink RX9 211 yX9_isCellAt ∈ gT := gT_t (i := 925) (by decide +kernel) rfl
theorem mw_721 : Cond.instanceMethod yX9_isCellAt ∈ gT := gT_t (i := 927) (by decide +kernel) rfl
theorem mw_722 : Cond.selects RX9 yX9_isCellAt yX9_isCellAt ∈ gT := gT_p (i := 53) (by decide +kernel) rfl
theorem cX9_211 : gCV RX9 211 1 mX9_isCellAt := ⟨mw_720, mw_721, mw_722, mw_567, mw_143, ⟨by decide +kernel, by decide +kernel, by decide +kernel⟩, by decide⟩
theorem mw_723 : Cond.methodLink RX9 218 yX9_readsSigns ∈ gT := gT_t (i := 929) (by decide +kernel) rfl
theorem mw_724 : Cond.instanceMethod yX9_readsSigns ∈ gT := gT_t (i := 931) (by decide +kernel) rfl
theorem mw_725 : Cond.selects RX9 yX9_readsSigns yX9_readsSigns ∈ gT := gT_p (i := 54) (by decide +kernel) rfl
theorem cX9_218 : gCV RX9 218 0 mX9_readsSigns := ⟨mw_723, mw_724, mw_725, mw_567, mw_145, ⟨by decide +kernel, by decide +kernel, by decide +kernel⟩, by decide⟩
theorem mw_726 : Cond.methodLink RX9 221 yX9_play ∈ gT := gT_t (i := 933) (by decide +kernel) rfl
theorem cX9_221 : gCV RX9 221 1 mX9_play := ⟨mw_726, mw_578, mw_579, mw_567, mw_105, ⟨by decide +kernel, by decide +kernel, by decide +kernel⟩, by decide⟩
theorem mw_727 : Cond.methodLink RL 91 yX9_look ∈ gT := gT_t (i := 934) (by decide +kernel) rfl
theorem mw_728 : Cond.instanceMethod yX9_look ∈ gT := gT_t (i := 935) (by decide +kernel) rfl
theorem mw_729 : Cond.selects RX9 yX9_look yX9_look ∈ gT := gT_t (i := 936) (by decide +kernel) rfl
theorem cL_91 : gCV RL 91 1 mX9_look := ⟨mw_727, mw_728, mw_729, mw_567, mw_148, ⟨by decide +kernel, by decide +kernel, by decide +kernel⟩, by decide⟩
theorem mw_730 : Cond.methodLink RX9 230 yX9_lookFar ∈ gT := gT_t (i := 938) (by decide +kernel) rfl
theorem mw_731 : Cond.instanceMethod yX9_lookFar ∈ gT := gT_t (i := 940) (by decide +kernel) rfl
theorem mw_732 : Cond.selects RX9 yX9_lookFar yX9_lookFar ∈ gT := gT_p (i := 55) (by decide +kernel) rfl
theorem cX9_230 : gCV RX9 230 1 mX9_lookFar := ⟨mw_730, mw_731, mw_732, mw_567, mw_149, ⟨by decide +kernel, by decide +kernel, by decide +kernel⟩, by decide⟩
