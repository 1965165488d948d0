theorem mf_Block_setBounds : rx_M "DeflateEffort$Block" "setBounds" y_Block_setBounds := ⟨by decide +kernel, rfl, rfl, by decide +kernel⟩
theorem fa_Block_9 : rx_fld "DeflateEffort$Block" 9 0 1 .int false := ⟨"DeflateEffort$Block", Tc_Block, 9, tyc_Block, rfl, by decide, inc_Block, tyok_Block, nmc_Block, rfl, rfl, by decide +kernel, Or.inl (rx_inS (rx_T2 (List.mem_of_getElem? (i := 3) (by decide +kernel))) rfl)⟩
theorem fa_Block_15 : rx_fld "DeflateEffort$Block" 15 0 2 .int false := ⟨"DeflateEffort$Block", Tc_Block, 9, tyc_Block, rfl, by decide, inc_Block, tyok_Block, nmc_Block, rfl, rfl, by decide +kernel, Or.inl (rx_inS (rx_T2 (List.mem_of_getElem? (i := 6) (by decide +kernel))) rfl)⟩
theorem mf_Block_keep : rx_M "DeflateEffort$Block" "keep" y_Block_keep := ⟨by decide +kernel, rfl, rfl, by decide +kernel⟩
theorem fa_Block_46 : rx_fld "DeflateEffort$Block" 46 7 5 .int false := ⟨"DeflateEffort$Plan", Tc_Plan, 7, tyc_Plan, rfl, by decide, inc_Plan, tyok_Plan, nmc_Plan, rfl, rfl, by decide +kernel, Or.inl (rx_inS (rx_T1 (List.mem_of_getElem? (i := 188) (by decide +kernel))) rfl)⟩
theorem fa_Block_18 : rx_fld "DeflateEffort$Block" 18 0 3 .int false := ⟨"DeflateEffort$Block", Tc_Block, 9, tyc_Block, rfl, by decide, inc_Block, tyok_Block, nmc_Block, rfl, rfl, by decide +kernel, Or.inl (rx_inS (rx_T2 (List.mem_of_getElem? (i := 9) (by decide +kernel))) rfl)⟩
theorem fa_Block_49 : rx_fld "DeflateEffort$Block" 49 7 6 .int false := ⟨"DeflateEffort$Plan", Tc_Plan, 7, tyc_Plan, rfl, by decide, inc_Plan, tyok_Plan, nmc_Plan, rfl, rfl, by decide +kernel, Or.inl (rx_inS (rx_T1 (List.mem_of_getElem? (i := 191) (by decide +kernel))) rfl)⟩
theorem fa_Block_21 : rx_fld "DeflateEffort$Block" 21 0 4 .int false := ⟨"DeflateEffort$Block", Tc_Block, 9, tyc_Block, rfl, by decide, inc_Block, tyok_Block, nmc_Block, rfl, rfl, by decide +kernel, Or.inl (rx_inS (rx_T2 (List.mem_of_getElem? (i := 11) (by decide +kernel))) rfl)⟩
theorem fa_Block_50 : rx_fld "DeflateEffort$Block" 50 7 1 .int false := ⟨"DeflateEffort$Plan", Tc_Plan, 7, tyc_Plan, rfl, by decide, inc_Plan, tyok_Plan, nmc_Plan, rfl, rfl, by decide +kernel, Or.inl (rx_inS (rx_T1 (List.mem_of_getElem? (i := 177) (by decide +kernel))) rfl)⟩
theorem fa_Block_42 : rx_fld "DeflateEffort$Block" 42 0 0 (.array .int) true := ⟨"DeflateEffort$Block", Tc_Block, 9, tyc_Block, rfl, by decide, inc_Block, tyok_Block, nmc_Block, rfl, rfl, by decide +kernel, Or.inl (rx_inS (rx_T2 (List.mem_of_getElem? (i := 1) (by decide +kernel))) rfl)⟩
theorem mk_Block_51 : Cond.methodLink "DeflateEffort$Block" 51 Lib.Math.min.name ∈ rx_Ts := (rx_inS (rx_T5 (List.mem_of_getElem? (i := 27) (by decide +kernel))) rfl)
theorem fa_Block_24 : rx_fld "DeflateEffort$Block" 24 0 5 .int false := ⟨"DeflateEffort$Block", Tc_Block, 9, tyc_Block, rfl, by decide, inc_Block, tyok_Block, nmc_Block, rfl, rfl, by decide +kernel, Or.inl (rx_inS (rx_T2 (List.mem_of_getElem? (i := 13) (by decide +kernel))) rfl)⟩
theorem fa_Block_54 : rx_fld "DeflateEffort$Block" 54 7 2 .int false := ⟨"DeflateEffort$Plan", Tc_Plan, 7, tyc_Plan, rfl, by decide, inc_Plan, tyok_Plan, nmc_Plan, rfl, rfl, by decide +kernel, Or.inl (rx_inS (rx_T1 (List.mem_of_getElem? (i := 180) (by decide +kernel))) rfl)⟩
theorem fa_Block_27 : rx_fld "DeflateEffort$Block" 27 0 6 .int false := ⟨"DeflateEffort$Block", Tc_Block, 9, tyc_Block, rfl, by decide, inc_Block, tyok_Block, nmc_Block, rfl, rfl, by decide +kernel, Or.inl (rx_inS (rx_T2 (List.mem_of_getElem? (i := 16) (by decide +kernel))) rfl)⟩
theorem fa_Block_30 : rx_fld "DeflateEffort$Block" 30 0 7 .int false := ⟨"DeflateEffort$Block", Tc_Block, 9, tyc_Block, rfl, by decide, inc_Block, tyok_Block, nmc_Block, rfl, rfl, by decide +kernel, Or.inl (rx_inS (rx_T2 (List.mem_of_getElem? (i := 18) (by decide +kernel))) rfl)⟩
theorem fa_Block_33 : rx_fld "DeflateEffort$Block" 33 0 8 .int false := ⟨"DeflateEffort$Block", Tc_Block, 9, tyc_Block, rfl, by decide, inc_Block, tyok_Block, nmc_Block, rfl, rfl, by decide +kernel, Or.inl (rx_inS (rx_T2 (List.mem_of_getElem? (i := 20) (by decide +kernel))) rfl)⟩
theorem fa_Block_55 : rx_fld "DeflateEffort$Block" 55 7 0 (.array .int) true := ⟨"DeflateEffort$Plan", Tc_Plan, 7, tyc_Plan, rfl, by decide, inc_Plan, tyok_Plan, nmc_Plan, rfl, rfl, by decide +kernel, Or.inl (rx_inS (rx_T1 (List.mem_of_getElem? (i := 174) (by decide +kernel))) rfl)⟩
theorem mf_Code_longest : rx_M "DeflateEffort$Code" "longest" y_Code_longest := ⟨by decide +kernel, rfl, rfl, by decide +kernel⟩
theorem fa_Code_19 : rx_fld "DeflateEffort$Code" 19 1 1 (.array .int) true := ⟨"DeflateEffort$Code", Tc_Code, 2, tyc_Code, rfl, by decide, inc_Code, tyok_Code, nmc_Code, rfl, rfl, by decide +kernel, Or.inl (rx_inS (rx_T1 (List.mem_of_getElem? (i := 111) (by decide +kernel))) rfl)⟩
theorem mk_Code_7 : Cond.methodLink "DeflateEffort$Code" 7 Lib.Math.max.name ∈ rx_Ts := (rx_inS (rx_T1 (List.mem_of_getElem? (i := 106) (by decide +kernel))) rfl)
theorem mf_Code_usedLengths : rx_M "DeflateEffort$Code" "usedLengths" y_Code_usedLengths := ⟨by decide +kernel, rfl, rfl, by decide +kernel⟩
theorem mf_Code_halveCounts : rx_M "DeflateEffort$Code" "halveCounts" y_Code_halveCounts := ⟨by decide +kernel, rfl, rfl, by decide +kernel⟩
theorem fa_Code_13 : rx_fld "DeflateEffort$Code" 13 1 0 (.array .int) true := ⟨"DeflateEffort$Code", Tc_Code, 2, tyc_Code, rfl, by decide, inc_Code, tyok_Code, nmc_Code, rfl, rfl, by decide +kernel, Or.inl (rx_inS (rx_T1 (List.mem_of_getElem? (i := 107) (by decide +kernel))) rfl)⟩
theorem mf_JA_fill2 : rx_M "java/util/Arrays" "fill" y_JA_fill2 := ⟨by decide +kernel, rfl, rfl, by decide +kernel⟩
theorem mf_CodeSet_measure : rx_M "DeflateEffort$CodeSet" "measure" y_CodeSet_measure := ⟨by decide +kernel, rfl, rfl, by decide +kernel⟩
theorem fa_CodeSet_22 : rx_fld "DeflateEffort$CodeSet" 22 2 4 .int false := ⟨"DeflateEffort$CodeSet", Tc_CodeSet, 6, tyc_CodeSet, rfl, by decide, inc_CodeSet, tyok_CodeSet, nmc_CodeSet, rfl, rfl, by decide +kernel, Or.inl (rx_inS (rx_T2 (List.mem_of_getElem? (i := 100) (by decide +kernel))) rfl)⟩
theorem fa_CodeSet_25 : rx_fld "DeflateEffort$CodeSet" 25 2 5 .int false := ⟨"DeflateEffort$CodeSet", Tc_CodeSet, 6, tyc_CodeSet, rfl, by decide, inc_CodeSet, tyok_CodeSet, nmc_CodeSet, rfl, rfl, by decide +kernel, Or.inl (rx_inS (rx_T2 (List.mem_of_getElem? (i := 102) (by decide +kernel))) rfl)⟩
theorem fa_CodeSet_15 : rx_fld "DeflateEffort$CodeSet" 15 2 2 (.array .int) true := ⟨"DeflateEffort$CodeSet", Tc_CodeSet, 6, tyc_CodeSet, rfl, by decide, inc_CodeSet, tyok_CodeSet, nmc_CodeSet, rfl, rfl, by decide +kernel, Or.inl (rx_inS (rx_T2 (List.mem_of_getElem? (i := 98) (by decide +kernel))) rfl)⟩
theorem fa_CodeSet_9 : rx_fld "DeflateEffort$CodeSet" 9 2 0 (.array .int) true := ⟨"DeflateEffort$CodeSet", Tc_CodeSet, 6, tyc_CodeSet, rfl, by decide, inc_CodeSet, tyok_CodeSet, nmc_CodeSet, rfl, rfl, by decide +kernel, Or.inl (rx_inS (rx_T2 (List.mem_of_getElem? (i := 94) (by decide +kernel))) rfl)⟩
theorem mf_CodeSet_make : rx_M "DeflateEffort$CodeSet" "make" y_CodeSet_make := ⟨by decide +kernel, rfl, rfl, by decide +kernel⟩
set_option maxRecDepth 20000 in
theorem cw_JA_fill2 : rx_cw y_JA_fill2 b_JA_fill2 4 none 2 := ⟨(rx_inS (rx_T2 (List.mem_of_getElem? (i := 126) (rfl))) rfl), (rx_inS (rx_T1 (List.mem_of_getElem? (i := 14) (by decide +kernel))) rfl), by decide, by decide, by decide +kernel⟩
theorem lk_CodeSet_37 : rx_lkm "DeflateEffort$CodeSet" 37 y_JA_fill2 := Or.inl (rx_inS (rx_T2 (List.mem_of_getElem? (i := 124) (by decide +kernel))) rfl)
theorem cs_JA_fill2 : Cond.static y_JA_fill2 ∈ rx_Ts := (rx_inS (rx_T2 (List.mem_of_getElem? (i := 125) (by decide +kernel))) rfl)
theorem fa_CodeSet_18 : rx_fld "DeflateEffort$CodeSet" 18 2 3 .int false := ⟨"DeflateEffort$CodeSet", Tc_CodeSet, 6, tyc_CodeSet, rfl, by decide, inc_CodeSet, tyok_CodeSet, nmc_CodeSet, rfl, rfl, by decide +kernel, Or.inl (rx_inS (rx_T2 (List.mem_of_getElem? (i := 99) (by decide +kernel))) rfl)⟩
set_option maxRecDepth 20000 in
theorem cw_CodeSet_measure : rx_cw y_CodeSet_measure b_CodeSet_measure 2 none 0 := ⟨(rx_inS (rx_T2 (List.mem_of_getElem? (i := 130) (rfl))) rfl), (rx_inS (rx_T1 (List.mem_of_getElem? (i := 13) (by decide +kernel))) rfl), by decide, by decide, by decide +kernel⟩
theorem lk_CodeSet_43 : rx_lkm "DeflateEffort$CodeSet" 43 y_CodeSet_measure := Or.inl (rx_inS (rx_T2 (List.mem_of_getElem? (i := 127) (by decide +kernel))) rfl)
theorem ci_CodeSet_measure : Cond.instanceMethod y_CodeSet_measure ∈ rx_Ts ∧ Cond.selects "DeflateEffort$CodeSet" y_CodeSet_measure y_CodeSet_measure ∈ rx_Ts := ⟨(rx_inS (rx_T2 (List.mem_of_getElem? (i := 129) (by decide +kernel))) rfl), (rx_inP 0 (by decide +kernel) rfl)⟩
theorem fa_CodeSet_34 : rx_fld "DeflateEffort$CodeSet" 34 2 1 (.array .int) true := ⟨"DeflateEffort$CodeSet", Tc_CodeSet, 6, tyc_CodeSet, rfl, by decide, inc_CodeSet, tyok_CodeSet, nmc_CodeSet, rfl, rfl, by decide +kernel, Or.inl (rx_inS (rx_T2 (List.mem_of_getElem? (i := 96) (by decide +kernel))) rfl)⟩
theorem mf_CodeSet_isFull : rx_M "DeflateEffort$CodeSet" "isFull" y_CodeSet_isFull := ⟨by decide +kernel, rfl, rfl, by decide +kernel⟩
theorem mf_CodeSet_mayStandForDistances : rx_M "DeflateEffort$CodeSet" "mayStandForDistances" y_CodeSet_mayStandForDistances := ⟨by decide +kernel, rfl, rfl, by decide +kernel⟩
set_option maxRecDepth 20000 in
theorem cw_CodeSet_isFull : rx_cw y_CodeSet_isFull b_CodeSet_isFull 1 (some .boolean) 0 := ⟨(rx_inS (rx_T5 (List.mem_of_getElem? (i := 166) (rfl))) rfl), (rx_inS (rx_T1 (List.mem_of_getElem? (i := 13) (by decide +kernel))) rfl), by decide, by decide, by decide +kernel⟩
theorem lk_CodeSet_46 : rx_lkm "DeflateEffort$CodeSet" 46 y_CodeSet_isFull := Or.inl (rx_inS (rx_T5 (List.mem_of_getElem? (i := 180) (by decide +kernel))) rfl)
theorem ci_CodeSet_isFull : Cond.instanceMethod y_CodeSet_isFull ∈ rx_Ts ∧ Cond.selects "DeflateEffort$CodeSet" y_CodeSet_isFull y_CodeSet_isFull ∈ rx_Ts := ⟨(rx_inS (rx_T5 (List.mem_of_getElem? (i := 164) (by decide +kernel))) rfl), (rx_inS (rx_T5 (List.mem_of_getElem? (i := 165) (by decide +kernel))) rfl)⟩
theorem mf_Cutter_forget : rx_M "DeflateEffort$Cutter" "forget" y_Cutter_forget := ⟨by decide +kernel, rfl, rfl, by decide +kernel⟩
theorem fa_Cutter_55 : rx_fld "DeflateEffort$Cutter" 55 3 11 .int false := ⟨"DeflateEffort$Cutter", Tc_Cutter, 12, tyc_Cutter, rfl, by decide, inc_Cutter, tyok_Cutter, nmc_Cutter, rfl, rfl, by decide +kernel, Or.inl (rx_inS (rx_T2 (List.mem_of_getElem? (i := 54) (by decide +kernel))) rfl)⟩
theorem fa_Cutter_70 : rx_fld "DeflateEffort$Cutter" 70 3 2 (.object "DeflateEffort$Matches") true := ⟨"DeflateEffort$Cutter", Tc_Cutter, 12, tyc_Cutter, rfl, by decide, inc_Cutter, tyok_Cutter, nmc_Cutter, rfl, rfl, by decide +kernel, Or.inl (rx_inS (rx_T2 (List.mem_of_getElem? (i := 43) (by decide +kernel))) rfl)⟩
theorem fa_Cutter_77 : rx_fld "DeflateEffort$Cutter" 77 6 4 .int false := ⟨"DeflateEffort$Matches", Tc_Matches, 5, tyc_Matches, rfl, by decide, inc_Matches, tyok_Matches, nmc_Matches, rfl, rfl, by decide +kernel, Or.inl (rx_inS (rx_T1 (List.mem_of_getElem? (i := 222) (by decide +kernel))) rfl)⟩
theorem mf_Cutter_takenBlock : rx_M "DeflateEffort$Cutter" "takenBlock" y_Cutter_takenBlock := ⟨by decide +kernel, rfl, rfl, by decide +kernel⟩
theorem fa_Cutter_48 : rx_fld "DeflateEffort$Cutter" 48 3 9 (.array (.object "DeflateEffort$Block")) true := ⟨"DeflateEffort$Cutter", Tc_Cutter, 12, tyc_Cutter, rfl, by decide, inc_Cutter, tyok_Cutter, nmc_Cutter, rfl, rfl, by decide +kernel, Or.inl (rx_inS (rx_T2 (List.mem_of_getElem? (i := 52) (by decide +kernel))) rfl)⟩
theorem fa_Cutter_52 : rx_fld "DeflateEffort$Cutter" 52 3 10 (.array .int) true := ⟨"DeflateEffort$Cutter", Tc_Cutter, 12, tyc_Cutter, rfl, by decide, inc_Cutter, tyok_Cutter, nmc_Cutter, rfl, rfl, by decide +kernel, Or.inl (rx_inS (rx_T2 (List.mem_of_getElem? (i := 53) (by decide +kernel))) rfl)⟩
theorem mf_Cutter_replacedInTaken : rx_M "DeflateEffort$Cutter" "replacedInTaken" y_Cutter_replacedInTaken := ⟨by decide +kernel, rfl, rfl, by decide +kernel⟩
set_option maxRecDepth 20000 in
theorem cw_Cutter_takenBlock : rx_cw y_Cutter_takenBlock b_Cutter_takenBlock 2 (some (.object "DeflateEffort$Block")) 1 := ⟨(rx_inS (rx_T5 (List.mem_of_getElem? (i := 40) (rfl))) rfl), (rx_inS (rx_T1 (List.mem_of_getElem? (i := 4) (by decide +kernel))) rfl), by decide, by decide, by decide +kernel⟩
theorem lk_Cutter_80 : rx_lkm "DeflateEffort$Cutter" 80 y_Cutter_takenBlock := Or.inl (rx_inS (rx_T5 (List.mem_of_getElem? (i := 189) (by decide +kernel))) rfl)
theorem ci_Cutter_takenBlock : Cond.instanceMethod y_Cutter_takenBlock ∈ rx_Ts ∧ Cond.selects "DeflateEffort$Cutter" y_Cutter_takenBlock y_Cutter_takenBlock ∈ rx_Ts := ⟨(rx_inS (rx_T5 (List.mem_of_getElem? (i := 38) (by decide +kernel))) rfl), (rx_inS (rx_T5 (List.mem_of_getElem? (i := 39) (by decide +kernel))) rfl)⟩
theorem fa_Cutter_84 : rx_fld "DeflateEffort$Cutter" 84 0 7 .int false := ⟨"DeflateEffort$Block", Tc_Block, 9, tyc_Block, rfl, by decide, inc_Block, tyok_Block, nmc_Block, rfl, rfl, by decide +kernel, Or.inl (rx_inS (rx_T2 (List.mem_of_getElem? (i := 19) (by decide +kernel))) rfl)⟩
theorem mf_Matches_link : rx_M "DeflateEffort$Matches" "link" y_Matches_link := ⟨by decide +kernel, rfl, rfl, by decide +kernel⟩
theorem fa_Matches_21 : rx_fld "DeflateEffort$Matches" 21 6 4 .int false := ⟨"DeflateEffort$Matches", Tc_Matches, 5, tyc_Matches, rfl, by decide, inc_Matches, tyok_Matches, nmc_Matches, rfl, rfl, by decide +kernel, Or.inl (rx_inS (rx_T1 (List.mem_of_getElem? (i := 221) (by decide +kernel))) rfl)⟩
theorem fa_Matches_11 : rx_fld "DeflateEffort$Matches" 11 6 1 (.array .int) true := ⟨"DeflateEffort$Matches", Tc_Matches, 5, tyc_Matches, rfl, by decide, inc_Matches, tyok_Matches, nmc_Matches, rfl, rfl, by decide +kernel, Or.inl (rx_inS (rx_T1 (List.mem_of_getElem? (i := 218) (by decide +kernel))) rfl)⟩
theorem lk_Matches_28 : rx_lkm "DeflateEffort$Matches" 28 y_JA_fill2 := Or.inl (rx_inS (rx_T2 (List.mem_of_getElem? (i := 224) (by decide +kernel))) rfl)
theorem fa_Matches_25 : rx_fld "DeflateEffort$Matches" 25 6 0 (.array .int) true := ⟨"DeflateEffort$Matches", Tc_Matches, 5, tyc_Matches, rfl, by decide, inc_Matches, tyok_Matches, nmc_Matches, rfl, rfl, by decide +kernel, Or.inl (rx_inS (rx_T1 (List.mem_of_getElem? (i := 216) (by decide +kernel))) rfl)⟩
theorem fa_Matches_15 : rx_fld "DeflateEffort$Matches" 15 6 2 (.array .int) true := ⟨"DeflateEffort$Matches", Tc_Matches, 5, tyc_Matches, rfl, by decide, inc_Matches, tyok_Matches, nmc_Matches, rfl, rfl, by decide +kernel, Or.inl (rx_inS (rx_T1 (List.mem_of_getElem? (i := 219) (by decide +kernel))) rfl)⟩
theorem mf_Plan_restart : rx_M "DeflateEffort$Plan" "restart" y_Plan_restart := ⟨by decide +kernel, rfl, rfl, by decide +kernel⟩
theorem fa_Plan_15 : rx_fld "DeflateEffort$Plan" 15 7 1 .int false := ⟨"DeflateEffort$Plan", Tc_Plan, 7, tyc_Plan, rfl, by decide, inc_Plan, tyok_Plan, nmc_Plan, rfl, rfl, by decide +kernel, Or.inl (rx_inS (rx_T1 (List.mem_of_getElem? (i := 176) (by decide +kernel))) rfl)⟩
theorem fa_Plan_19 : rx_fld "DeflateEffort$Plan" 19 7 2 .int false := ⟨"DeflateEffort$Plan", Tc_Plan, 7, tyc_Plan, rfl, by decide, inc_Plan, tyok_Plan, nmc_Plan, rfl, rfl, by decide +kernel, Or.inl (rx_inS (rx_T1 (List.mem_of_getElem? (i := 179) (by decide +kernel))) rfl)⟩
theorem fa_Plan_27 : rx_fld "DeflateEffort$Plan" 27 7 3 (.object "DeflateEffort$Code") true := ⟨"DeflateEffort$Plan", Tc_Plan, 7, tyc_Plan, rfl, by decide, inc_Plan, tyok_Plan, nmc_Plan, rfl, rfl, by decide +kernel, Or.inl (rx_inS (rx_T1 (List.mem_of_getElem? (i := 181) (by decide +kernel))) rfl)⟩
theorem fa_Plan_40 : rx_fld "DeflateEffort$Plan" 40 1 0 (.array .int) true := ⟨"DeflateEffort$Code", Tc_Code, 2, tyc_Code, rfl, by decide, inc_Code, tyok_Code, nmc_Code, rfl, rfl, by decide +kernel, Or.inl (rx_inS (rx_T1 (List.mem_of_getElem? (i := 109) (by decide +kernel))) rfl)⟩
theorem lk_Plan_43 : rx_lkm "DeflateEffort$Plan" 43 y_JA_fill2 := Or.inl (rx_inS (rx_T2 (List.mem_of_getElem? (i := 234) (by decide +kernel))) rfl)
theorem fa_Plan_31 : rx_fld "DeflateEffort$Plan" 31 7 4 (.object "DeflateEffort$Code") true := ⟨"DeflateEffort$Plan", Tc_Plan, 7, tyc_Plan, rfl, by decide, inc_Plan, tyok_Plan, nmc_Plan, rfl, rfl, by decide +kernel, Or.inl (rx_inS (rx_T1 (List.mem_of_getElem? (i := 184) (by decide +kernel))) rfl)⟩
theorem mf_Plan_weighStored : rx_M "DeflateEffort$Plan" "weighStored" y_Plan_weighStored := ⟨by decide +kernel, rfl, rfl, by decide +kernel⟩
theorem fa_Plan_34 : rx_fld "DeflateEffort$Plan" 34 7 5 .int false := ⟨"DeflateEffort$Plan", Tc_Plan, 7, tyc_Plan, rfl, by decide, inc_Plan, tyok_Plan, nmc_Plan, rfl, rfl, by decide +kernel, Or.inl (rx_inS (rx_T1 (List.mem_of_getElem? (i := 187) (by decide +kernel))) rfl)⟩
theorem fa_Plan_37 : rx_fld "DeflateEffort$Plan" 37 7 6 .int false := ⟨"DeflateEffort$Plan", Tc_Plan, 7, tyc_Plan, rfl, by decide, inc_Plan, tyok_Plan, nmc_Plan, rfl, rfl, by decide +kernel, Or.inl (rx_inS (rx_T1 (List.mem_of_getElem? (i := 190) (by decide +kernel))) rfl)⟩
theorem mf_Matches_sameThree : rx_M "DeflateEffort$Matches" "sameThree" y_Matches_sameThree := ⟨by decide +kernel, rfl, rfl, by decide +kernel⟩
theorem mf_Matches_sameBytes : rx_M "DeflateEffort$Matches" "sameBytes" y_Matches_sameBytes := ⟨by decide +kernel, rfl, rfl, by decide +kernel⟩
theorem mf_DE_matchToken : rx_M "DeflateEffort" "matchToken" y_DE_matchToken := ⟨by decide +kernel, rfl, rfl, by decide +kernel⟩
theorem mf_Matches_longestAt : rx_M "DeflateEffort$Matches" "longestAt" y_Matches_longestAt := ⟨by decide +kernel, rfl, rfl, by decide +kernel⟩
set_option maxRecDepth 20000 in
theorem cw_Matches_sameThree : rx_cw y_Matches_sameThree b_Matches_sameThree 3 (some .boolean) 2 := ⟨(rx_inS (rx_T3 (List.mem_of_getElem? (i := 11) (rfl))) rfl), (rx_inS (rx_T1 (List.mem_of_getElem? (i := 10) (by decide +kernel))) rfl), by decide, by decide, by decide +kernel⟩
theorem lk_Matches_51 : rx_lkm "DeflateEffort$Matches" 51 y_Matches_sameThree := Or.inl (rx_inS (rx_T3 (List.mem_of_getElem? (i := 8) (by decide +kernel))) rfl)
theorem ci_Matches_sameThree : Cond.instanceMethod y_Matches_sameThree ∈ rx_Ts ∧ Cond.selects "DeflateEffort$Matches" y_Matches_sameThree y_Matches_sameThree ∈ rx_Ts := ⟨(rx_inS (rx_T3 (List.mem_of_getElem? (i := 10) (by decide +kernel))) rfl), (rx_inP 3 (by decide +kernel) rfl)⟩
set_option maxRecDepth 20000 in
theorem cw_Matches_sameBytes : rx_cw y_Matches_sameBytes b_Matches_sameBytes 6 (some .int) 4 := ⟨(rx_inS (rx_T3 (List.mem_of_getElem? (i := 15) (rfl))) rfl), (rx_inS (rx_T1 (List.mem_of_getElem? (i := 10) (by decide +kernel))) rfl), by decide, by decide, by decide +kernel⟩
theorem lk_Matches_55 : rx_lkm "DeflateEffort$Matches" 55 y_Matches_sameBytes := Or.inl (rx_inS (rx_T3 (List.mem_of_getElem? (i := 12) (by decide +kernel))) rfl)
theorem ci_Matches_sameBytes : Cond.instanceMethod y_Matches_sameBytes ∈ rx_Ts ∧ Cond.selects "DeflateEffort$Matches" y_Matches_sameBytes y_Matches_sameBytes ∈ rx_Ts := ⟨(rx_inS (rx_T3 (List.mem_of_getElem? (i := 14) (by decide +kernel))) rfl), (rx_inP 4 (by decide +kernel) rfl)⟩
set_option maxRecDepth 20000 in
theorem cw_DE_matchToken : rx_cw y_DE_matchToken b_DE_matchToken 2 (some .int) 2 := ⟨(rx_inS (rx_T3 (List.mem_of_getElem? (i := 18) (rfl))) rfl), (rx_inS (rx_T1 (List.mem_of_getElem? (i := 1) (by decide +kernel))) rfl), by decide, by decide, by decide +kernel⟩
theorem lk_Matches_59 : rx_lkm "DeflateEffort$Matches" 59 y_DE_matchToken := Or.inr ⟨"DeflateEffort", (rx_inNS (rx_T3 (List.mem_of_getElem? (i := 16) (by decide +kernel))) rfl)⟩
theorem cs_DE_matchToken : Cond.static y_DE_matchToken ∈ rx_Ts := (rx_inS (rx_T3 (List.mem_of_getElem? (i := 17) (by decide +kernel))) rfl)
theorem mf_Matches_find : rx_M "DeflateEffort$Matches" "find" y_Matches_find := ⟨by decide +kernel, rfl, rfl, by decide +kernel⟩
theorem fa_Matches_18 : rx_fld "DeflateEffort$Matches" 18 6 3 (.array .int) true := ⟨"DeflateEffort$Matches", Tc_Matches, 5, tyc_Matches, rfl, by decide, inc_Matches, tyok_Matches, nmc_Matches, rfl, rfl, by decide +kernel, Or.inl (rx_inS (rx_T1 (List.mem_of_getElem? (i := 220) (by decide +kernel))) rfl)⟩
theorem mk_Matches_34 : Cond.methodLink "DeflateEffort$Matches" 34 Lib.Math.min.name ∈ rx_Ts := (rx_inS (rx_T3 (List.mem_of_getElem? (i := 3) (by decide +kernel))) rfl)
set_option maxRecDepth 20000 in
theorem cw_Matches_longestAt : rx_cw y_Matches_longestAt b_Matches_longestAt 10 (some .int) 3 := ⟨(rx_inS (rx_T3 (List.mem_of_getElem? (i := 7) (rfl))) rfl), (rx_inS (rx_T1 (List.mem_of_getElem? (i := 10) (by decide +kernel))) rfl), by decide, by decide, by decide +kernel⟩
theorem lk_Matches_40 : rx_lkm "DeflateEffort$Matches" 40 y_Matches_longestAt := Or.inl (rx_inS (rx_T3 (List.mem_of_getElem? (i := 4) (by decide +kernel))) rfl)
theorem ci_Matches_longestAt : Cond.instanceMethod y_Matches_longestAt ∈ rx_Ts ∧ Cond.selects "DeflateEffort$Matches" y_Matches_longestAt y_Matches_longestAt ∈ rx_Ts := ⟨(rx_inS (rx_T3 (List.mem_of_getElem? (i := 6) (by decide +kernel))) rfl), (rx_inP 2 (by decide +kernel) rfl)⟩
theorem mf_DE_tokenLength : rx_M "DeflateEffort" "tokenLength" y_DE_tokenLength := ⟨by decide +kernel, rfl, rfl, by decide +kernel⟩
theorem mf_Matches_lengthAt : rx_M "DeflateEffort$Matches" "lengthAt" y_Matches_lengthAt := ⟨by decide +kernel, rfl, rfl, by decide +kernel⟩
set_option maxRecDepth 20000 in
theorem cw_DE_tokenLength : rx_cw y_DE_tokenLength b_DE_tokenLength 1 (some .int) 1 := ⟨(rx_inS (rx_T3 (List.mem_of_getElem? (i := 29) (rfl))) rfl), (rx_inS (rx_T1 (List.mem_of_getElem? (i := 1) (by decide +kernel))) rfl), by decide, by decide, by decide +kernel⟩
theorem lk_Matches_44 : rx_lkm "DeflateEffort$Matches" 44 y_DE_tokenLength := Or.inr ⟨"DeflateEffort", (rx_inNS (rx_T3 (List.mem_of_getElem? (i := 27) (by decide +kernel))) rfl)⟩
theorem cs_DE_tokenLength : Cond.static y_DE_tokenLength ∈ rx_Ts := (rx_inS (rx_T3 (List.mem_of_getElem? (i := 28) (by decide +kernel))) rfl)
theorem mf_Cutter_chooseByMatches : rx_M "DeflateEffort$Cutter" "chooseByMatches" y_Cutter_chooseByMatches := ⟨by decide +kernel, rfl, rfl, by decide +kernel⟩
set_option maxRecDepth 20000 in
theorem cw_Matches_lengthAt : rx_cw y_Matches_lengthAt b_Matches_lengthAt 2 (some .int) 1 := ⟨(rx_inS (rx_T3 (List.mem_of_getElem? (i := 26) (rfl))) rfl), (rx_inS (rx_T1 (List.mem_of_getElem? (i := 10) (by decide +kernel))) rfl), by decide, by decide, by decide +kernel⟩
theorem lk_Cutter_147 : rx_lkm "DeflateEffort$Cutter" 147 y_Matches_lengthAt := Or.inl (rx_inS (rx_T3 (List.mem_of_getElem? (i := 23) (by decide +kernel))) rfl)
theorem ci_Matches_lengthAt : Cond.instanceMethod y_Matches_lengthAt ∈ rx_Ts ∧ Cond.selects "DeflateEffort$Matches" y_Matches_lengthAt y_Matches_lengthAt ∈ rx_Ts := ⟨(rx_inS (rx_T3 (List.mem_of_getElem? (i := 24) (by decide +kernel))) rfl), (rx_inS (rx_T3 (List.mem_of_getElem? (i := 25) (by decide +kernel))) rfl)⟩
theorem fa_Cutter_62 : rx_fld "DeflateEffort$Cutter" 62 3 0 .int true := ⟨"DeflateEffort$Cutter", Tc_Cutter, 12, tyc_Cutter, rfl, by decide, inc_Cutter, tyok_Cutter, nmc_Cutter, rfl, rfl, by decide +kernel, Or.inl (rx_inS (rx_T2 (List.mem_of_getElem? (i := 41) (by decide +kernel))) rfl)⟩
theorem fa_Cutter_32 : rx_fld "DeflateEffort$Cutter" 32 3 6 (.array .int) true := ⟨"DeflateEffort$Cutter", Tc_Cutter, 12, tyc_Cutter, rfl, by decide, inc_Cutter, tyok_Cutter, nmc_Cutter, rfl, rfl, by decide +kernel, Or.inl (rx_inS (rx_T2 (List.mem_of_getElem? (i := 49) (by decide +kernel))) rfl)⟩
theorem mk_Cutter_151 : Cond.methodLink "DeflateEffort$Cutter" 151 Lib.Math.max.name ∈ rx_Ts := (rx_inS (rx_T3 (List.mem_of_getElem? (i := 30) (by decide +kernel))) rfl)
theorem mf_DE_lengthSymbol : rx_M "DeflateEffort" "lengthSymbol" y_DE_lengthSymbol := ⟨by decide +kernel, rfl, rfl, by decide +kernel⟩
theorem sa_DE_192 : rx_st "DeflateEffort" 192 0 := ⟨Or.inl (rx_inS (rx_T3 (List.mem_of_getElem? (i := 52) (by decide +kernel))) rfl), by decide⟩
theorem mf_DE_tokenDistance : rx_M "DeflateEffort" "tokenDistance" y_DE_tokenDistance := ⟨by decide +kernel, rfl, rfl, by decide +kernel⟩
theorem kc_DE_191 : Cond.constant "DeflateEffort" 191 (65535) ∈ rx_Ts := (rx_inS (rx_T3 (List.mem_of_getElem? (i := 42) (by decide +kernel))) rfl)
theorem mf_DE_distanceSymbol : rx_M "DeflateEffort" "distanceSymbol" y_DE_distanceSymbol := ⟨by decide +kernel, rfl, rfl, by decide +kernel⟩
theorem sa_DE_195 : rx_st "DeflateEffort" 195 2 := ⟨Or.inl (rx_inS (rx_T3 (List.mem_of_getElem? (i := 58) (by decide +kernel))) rfl), by decide⟩
theorem mf_Plan_addToken : rx_M "DeflateEffort$Plan" "addToken" y_Plan_addToken := ⟨by decide +kernel, rfl, rfl, by decide +kernel⟩
theorem fa_Plan_9 : rx_fld "DeflateEffort$Plan" 9 7 0 (.array .int) true := ⟨"DeflateEffort$Plan", Tc_Plan, 7, tyc_Plan, rfl, by decide, inc_Plan, tyok_Plan, nmc_Plan, rfl, rfl, by decide +kernel, Or.inl (rx_inS (rx_T1 (List.mem_of_getElem? (i := 173) (by decide +kernel))) rfl)⟩
theorem lk_Plan_49 : rx_lkm "DeflateEffort$Plan" 49 y_DE_tokenLength := Or.inr ⟨"DeflateEffort", (rx_inNS (rx_T3 (List.mem_of_getElem? (i := 48) (by decide +kernel))) rfl)⟩
set_option maxRecDepth 20000 in
theorem cw_DE_lengthSymbol : rx_cw y_DE_lengthSymbol b_DE_lengthSymbol 2 (some .int) 1 := ⟨(rx_inS (rx_T3 (List.mem_of_getElem? (i := 51) (rfl))) rfl), (rx_inS (rx_T1 (List.mem_of_getElem? (i := 1) (by decide +kernel))) rfl), by decide, by decide, by decide +kernel⟩
theorem lk_Plan_53 : rx_lkm "DeflateEffort$Plan" 53 y_DE_lengthSymbol := Or.inr ⟨"DeflateEffort", (rx_inNS (rx_T3 (List.mem_of_getElem? (i := 49) (by decide +kernel))) rfl)⟩
theorem cs_DE_lengthSymbol : Cond.static y_DE_lengthSymbol ∈ rx_Ts := (rx_inS (rx_T3 (List.mem_of_getElem? (i := 50) (by decide +kernel))) rfl)
set_option maxRecDepth 20000 in
theorem cw_DE_tokenDistance : rx_cw y_DE_tokenDistance b_DE_tokenDistance 1 (some .int) 1 := ⟨(rx_inS (rx_T3 (List.mem_of_getElem? (i := 41) (rfl))) rfl), (rx_inS (rx_T1 (List.mem_of_getElem? (i := 1) (by decide +kernel))) rfl), by decide, by decide, by decide +kernel⟩
theorem lk_Plan_56 : rx_lkm "DeflateEffort$Plan" 56 y_DE_tokenDistance := Or.inr ⟨"DeflateEffort", (rx_inNS (rx_T3 (List.mem_of_getElem? (i := 54) (by decide +kernel))) rfl)⟩
theorem cs_DE_tokenDistance : Cond.static y_DE_tokenDistance ∈ rx_Ts := (rx_inS (rx_T3 (List.mem_of_getElem? (i := 40) (by decide +kernel))) rfl)
set_option maxRecDepth 20000 in
theorem cw_DE_distanceSymbol : rx_cw y_DE_distanceSymbol b_DE_distanceSymbol 2 (some .int) 1 := ⟨(rx_inS (rx_T3 (List.mem_of_getElem? (i := 57) (rfl))) rfl), (rx_inS (rx_T1 (List.mem_of_getElem? (i := 1) (by decide +kernel))) rfl), by decide, by decide, by decide +kernel⟩
theorem lk_Plan_59 : rx_lkm "DeflateEffort$Plan" 59 y_DE_distanceSymbol := Or.inr ⟨"DeflateEffort", (rx_inNS (rx_T3 (List.mem_of_getElem? (i := 55) (by decide +kernel))) rfl)⟩
theorem cs_DE_distanceSymbol : Cond.static y_DE_distanceSymbol ∈ rx_Ts := (rx_inS (rx_T3 (List.mem_of_getElem? (i := 56) (by decide +kernel))) rfl)
theorem mf_Matches_distanceAt : rx_M "DeflateEffort$Matches" "distanceAt" y_Matches_distanceAt := ⟨by decide +kernel, rfl, rfl, by decide +kernel⟩
theorem lk_Matches_48 : rx_lkm "DeflateEffort$Matches" 48 y_DE_tokenDistance := Or.inr ⟨"DeflateEffort", (rx_inNS (rx_T3 (List.mem_of_getElem? (i := 39) (by decide +kernel))) rfl)⟩
theorem mf_Cutter_addTokens : rx_M "DeflateEffort$Cutter" "addTokens" y_Cutter_addTokens := ⟨by decide +kernel, rfl, rfl, by decide +kernel⟩
set_option maxRecDepth 20000 in
theorem cw_Plan_restart : rx_cw y_Plan_restart b_Plan_restart 1 none 0 := ⟨(rx_inS (rx_T2 (List.mem_of_getElem? (i := 233) (rfl))) rfl), (rx_inS (rx_T1 (List.mem_of_getElem? (i := 9) (by decide +kernel))) rfl), by decide, by decide, by decide +kernel⟩
theorem lk_Cutter_119 : rx_lkm "DeflateEffort$Cutter" 119 y_Plan_restart := Or.inl (rx_inS (rx_T2 (List.mem_of_getElem? (i := 230) (by decide +kernel))) rfl)
theorem ci_Plan_restart : Cond.instanceMethod y_Plan_restart ∈ rx_Ts ∧ Cond.selects "DeflateEffort$Plan" y_Plan_restart y_Plan_restart ∈ rx_Ts := ⟨(rx_inS (rx_T2 (List.mem_of_getElem? (i := 231) (by decide +kernel))) rfl), (rx_inS (rx_T2 (List.mem_of_getElem? (i := 232) (by decide +kernel))) rfl)⟩
theorem fa_Cutter_59 : rx_fld "DeflateEffort$Cutter" 59 3 1 (.array .int) true := ⟨"DeflateEffort$Cutter", Tc_Cutter, 12, tyc_Cutter, rfl, by decide, inc_Cutter, tyok_Cutter, nmc_Cutter, rfl, rfl, by decide +kernel, Or.inl (rx_inS (rx_T2 (List.mem_of_getElem? (i := 42) (by decide +kernel))) rfl)⟩
set_option maxRecDepth 20000 in
theorem cw_Matches_distanceAt : rx_cw y_Matches_distanceAt b_Matches_distanceAt 2 (some .int) 1 := ⟨(rx_inS (rx_T3 (List.mem_of_getElem? (i := 38) (rfl))) rfl), (rx_inS (rx_T1 (List.mem_of_getElem? (i := 10) (by decide +kernel))) rfl), by decide, by decide, by decide +kernel⟩
theorem lk_Cutter_154 : rx_lkm "DeflateEffort$Cutter" 154 y_Matches_distanceAt := Or.inl (rx_inS (rx_T3 (List.mem_of_getElem? (i := 35) (by decide +kernel))) rfl)
theorem ci_Matches_distanceAt : Cond.instanceMethod y_Matches_distanceAt ∈ rx_Ts ∧ Cond.selects "DeflateEffort$Matches" y_Matches_distanceAt y_Matches_distanceAt ∈ rx_Ts := ⟨(rx_inS (rx_T3 (List.mem_of_getElem? (i := 36) (by decide +kernel))) rfl), (rx_inS (rx_T3 (List.mem_of_getElem? (i := 37) (by decide +kernel))) rfl)⟩
theorem lk_Cutter_157 : rx_lkm "DeflateEffort$Cutter" 157 y_DE_matchToken := Or.inr ⟨"DeflateEffort", (rx_inNS (rx_T3 (List.mem_of_getElem? (i := 43) (by decide +kernel))) rfl)⟩
set_option maxRecDepth 20000 in
theorem cw_Plan_addToken : rx_cw y_Plan_addToken b_Plan_addToken 3 none 1 := ⟨(rx_inS (rx_T3 (List.mem_of_getElem? (i := 47) (rfl))) rfl), (rx_inS (rx_T1 (List.mem_of_getElem? (i := 9) (by decide +kernel))) rfl), by decide, by decide, by decide +kernel⟩
theorem lk_Cutter_160 : rx_lkm "DeflateEffort$Cutter" 160 y_Plan_addToken := Or.inl (rx_inS (rx_T3 (List.mem_of_getElem? (i := 44) (by decide +kernel))) rfl)
theorem ci_Plan_addToken : Cond.instanceMethod y_Plan_addToken ∈ rx_Ts ∧ Cond.selects "DeflateEffort$Plan" y_Plan_addToken y_Plan_addToken ∈ rx_Ts := ⟨(rx_inS (rx_T3 (List.mem_of_getElem? (i := 45) (by decide +kernel))) rfl), (rx_inS (rx_T3 (List.mem_of_getElem? (i := 46) (by decide +kernel))) rfl)⟩
theorem mf_Joiner_sort : rx_M "DeflateEffort$Joiner" "sort" y_Joiner_sort := ⟨by decide +kernel, rfl, rfl, by decide +kernel⟩
theorem fa_Joiner_9 : rx_fld "DeflateEffort$Joiner" 9 4 0 (.array .int) true := ⟨"DeflateEffort$Joiner", Tc_Joiner, 3, tyc_Joiner, rfl, by decide, inc_Joiner, tyok_Joiner, nmc_Joiner, rfl, rfl, by decide +kernel, Or.inl (rx_inS (rx_T1 (List.mem_of_getElem? (i := 84) (by decide +kernel))) rfl)⟩
theorem mf_Joiner_joinInOrder : rx_M "DeflateEffort$Joiner" "joinInOrder" y_Joiner_joinInOrder := ⟨by decide +kernel, rfl, rfl, by decide +kernel⟩
theorem fa_Joiner_15 : rx_fld "DeflateEffort$Joiner" 15 4 1 (.array .int) true := ⟨"DeflateEffort$Joiner", Tc_Joiner, 3, tyc_Joiner, rfl, by decide, inc_Joiner, tyok_Joiner, nmc_Joiner, rfl, rfl, by decide +kernel, Or.inl (rx_inS (rx_T1 (List.mem_of_getElem? (i := 85) (by decide +kernel))) rfl)⟩
theorem fa_Joiner_18 : rx_fld "DeflateEffort$Joiner" 18 4 2 (.array .int) true := ⟨"DeflateEffort$Joiner", Tc_Joiner, 3, tyc_Joiner, rfl, by decide, inc_Joiner, tyok_Joiner, nmc_Joiner, rfl, rfl, by decide +kernel, Or.inl (rx_inS (rx_T1 (List.mem_of_getElem? (i := 86) (by decide +kernel))) rfl)⟩
theorem mf_Joiner_tellDepths : rx_M "DeflateEffort$Joiner" "tellDepths" y_Joiner_tellDepths := ⟨by decide +kernel, rfl, rfl, by decide +kernel⟩
theorem mf_Joiner_join : rx_M "DeflateEffort$Joiner" "join" y_Joiner_join := ⟨by decide +kernel, rfl, rfl, by decide +kernel⟩
theorem fa_Joiner_21 : rx_fld "DeflateEffort$Joiner" 21 1 1 (.array .int) true := ⟨"DeflateEffort$Code", Tc_Code, 2, tyc_Code, rfl, by decide, inc_Code, tyok_Code, nmc_Code, rfl, rfl, by decide +kernel, Or.inl (rx_inS (rx_T1 (List.mem_of_getElem? (i := 112) (by decide +kernel))) rfl)⟩
theorem lk_Joiner_26 : rx_lkm "DeflateEffort$Joiner" 26 y_JA_fill2 := Or.inl (rx_inS (rx_T3 (List.mem_of_getElem? (i := 68) (by decide +kernel))) rfl)
theorem fa_Joiner_32 : rx_fld "DeflateEffort$Joiner" 32 1 0 (.array .int) true := ⟨"DeflateEffort$Code", Tc_Code, 2, tyc_Code, rfl, by decide, inc_Code, tyok_Code, nmc_Code, rfl, rfl, by decide +kernel, Or.inl (rx_inS (rx_T1 (List.mem_of_getElem? (i := 108) (by decide +kernel))) rfl)⟩
set_option maxRecDepth 20000 in
theorem cw_Joiner_sort : rx_cw y_Joiner_sort b_Joiner_sort 5 (some .int) 1 := ⟨(rx_inS (rx_T3 (List.mem_of_getElem? (i := 72) (rfl))) rfl), (rx_inS (rx_T1 (List.mem_of_getElem? (i := 5) (by decide +kernel))) rfl), by decide, by decide, by decide +kernel⟩
theorem lk_Joiner_35 : rx_lkm "DeflateEffort$Joiner" 35 y_Joiner_sort := Or.inl (rx_inS (rx_T3 (List.mem_of_getElem? (i := 69) (by decide +kernel))) rfl)
theorem ci_Joiner_sort : Cond.instanceMethod y_Joiner_sort ∈ rx_Ts ∧ Cond.selects "DeflateEffort$Joiner" y_Joiner_sort y_Joiner_sort ∈ rx_Ts := ⟨(rx_inS (rx_T3 (List.mem_of_getElem? (i := 71) (by decide +kernel))) rfl), (rx_inP 7 (by decide +kernel) rfl)⟩
set_option maxRecDepth 20000 in
theorem cw_Joiner_joinInOrder : rx_cw y_Joiner_joinInOrder b_Joiner_joinInOrder 8 none 2 := ⟨(rx_inS (rx_T3 (List.mem_of_getElem? (i := 76) (rfl))) rfl), (rx_inS (rx_T1 (List.mem_of_getElem? (i := 5) (by decide +kernel))) rfl), by decide, by decide, by decide +kernel⟩
theorem lk_Joiner_39 : rx_lkm "DeflateEffort$Joiner" 39 y_Joiner_joinInOrder := Or.inl (rx_inS (rx_T3 (List.mem_of_getElem? (i := 73) (by decide +kernel))) rfl)
theorem ci_Joiner_joinInOrder : Cond.instanceMethod y_Joiner_joinInOrder ∈ rx_Ts ∧ Cond.selects "DeflateEffort$Joiner" y_Joiner_joinInOrder y_Joiner_joinInOrder ∈ rx_Ts := ⟨(rx_inS (rx_T3 (List.mem_of_getElem? (i := 75) (by decide +kernel))) rfl), (rx_inP 8 (by decide +kernel) rfl)⟩
set_option maxRecDepth 20000 in
theorem cw_Joiner_tellDepths : rx_cw y_Joiner_tellDepths b_Joiner_tellDepths 4 none 2 := ⟨(rx_inS (rx_T3 (List.mem_of_getElem? (i := 80) (rfl))) rfl), (rx_inS (rx_T1 (List.mem_of_getElem? (i := 5) (by decide +kernel))) rfl), by decide, by decide, by decide +kernel⟩
theorem lk_Joiner_42 : rx_lkm "DeflateEffort$Joiner" 42 y_Joiner_tellDepths := Or.inl (rx_inS (rx_T3 (List.mem_of_getElem? (i := 77) (by decide +kernel))) rfl)
theorem ci_Joiner_tellDepths : Cond.instanceMethod y_Joiner_tellDepths ∈ rx_Ts ∧ Cond.selects "DeflateEffort$Joiner" y_Joiner_tellDepths y_Joiner_tellDepths ∈ rx_Ts := ⟨(rx_inS (rx_T3 (List.mem_of_getElem? (i := 79) (by decide +kernel))) rfl), (rx_inP 9 (by decide +kernel) rfl)⟩
theorem mf_LengthRow_tellSymbol : rx_M "DeflateEffort$LengthRow" "tellSymbol" y_LengthRow_tellSymbol := ⟨by decide +kernel, rfl, rfl, by decide +kernel⟩
theorem fa_LengthRow_24 : rx_fld "DeflateEffort$LengthRow" 24 5 2 .int false := ⟨"DeflateEffort$LengthRow", Tc_LengthRow, 6, tyc_LengthRow, rfl, by decide, inc_LengthRow, tyok_LengthRow, nmc_LengthRow, rfl, rfl, by decide +kernel, Or.inl (rx_inS (rx_T1 (List.mem_of_getElem? (i := 125) (by decide +kernel))) rfl)⟩
theorem fa_LengthRow_20 : rx_fld "DeflateEffort$LengthRow" 20 5 1 (.array .int) true := ⟨"DeflateEffort$LengthRow", Tc_LengthRow, 6, tyc_LengthRow, rfl, by decide, inc_LengthRow, tyok_LengthRow, nmc_LengthRow, rfl, rfl, by decide +kernel, Or.inl (rx_inS (rx_T1 (List.mem_of_getElem? (i := 124) (by decide +kernel))) rfl)⟩
theorem fa_LengthRow_14 : rx_fld "DeflateEffort$LengthRow" 14 5 0 (.object "DeflateEffort$Code") true := ⟨"DeflateEffort$LengthRow", Tc_LengthRow, 6, tyc_LengthRow, rfl, by decide, inc_LengthRow, tyok_LengthRow, nmc_LengthRow, rfl, rfl, by decide +kernel, Or.inl (rx_inS (rx_T1 (List.mem_of_getElem? (i := 122) (by decide +kernel))) rfl)⟩
theorem fa_LengthRow_41 : rx_fld "DeflateEffort$LengthRow" 41 1 0 (.array .int) true := ⟨"DeflateEffort$Code", Tc_Code, 2, tyc_Code, rfl, by decide, inc_Code, tyok_Code, nmc_Code, rfl, rfl, by decide +kernel, Or.inl (rx_inS (rx_T1 (List.mem_of_getElem? (i := 110) (by decide +kernel))) rfl)⟩
theorem mf_LengthRow_tellEqual : rx_M "DeflateEffort$LengthRow" "tellEqual" y_LengthRow_tellEqual := ⟨by decide +kernel, rfl, rfl, by decide +kernel⟩
theorem mk_LengthRow_57 : Cond.methodLink "DeflateEffort$LengthRow" 57 Lib.Math.min.name ∈ rx_Ts := (rx_inS (rx_T3 (List.mem_of_getElem? (i := 94) (by decide +kernel))) rfl)
set_option maxRecDepth 20000 in
theorem cw_LengthRow_tellSymbol : rx_cw y_LengthRow_tellSymbol b_LengthRow_tellSymbol 3 none 2 := ⟨(rx_inS (rx_T3 (List.mem_of_getElem? (i := 98) (rfl))) rfl), (rx_inS (rx_T1 (List.mem_of_getElem? (i := 6) (by decide +kernel))) rfl), by decide, by decide, by decide +kernel⟩
theorem lk_LengthRow_63 : rx_lkm "DeflateEffort$LengthRow" 63 y_LengthRow_tellSymbol := Or.inl (rx_inS (rx_T3 (List.mem_of_getElem? (i := 95) (by decide +kernel))) rfl)
theorem ci_LengthRow_tellSymbol : Cond.instanceMethod y_LengthRow_tellSymbol ∈ rx_Ts ∧ Cond.selects "DeflateEffort$LengthRow" y_LengthRow_tellSymbol y_LengthRow_tellSymbol ∈ rx_Ts := ⟨(rx_inS (rx_T3 (List.mem_of_getElem? (i := 97) (by decide +kernel))) rfl), (rx_inP 11 (by decide +kernel) rfl)⟩
theorem mf_LengthRow_tellBoth : rx_M "DeflateEffort$LengthRow" "tellBoth" y_LengthRow_tellBoth := ⟨by decide +kernel, rfl, rfl, by decide +kernel⟩
set_option maxRecDepth 20000 in
theorem cw_Code_usedLengths : rx_cw y_Code_usedLengths b_Code_usedLengths 3 (some .int) 1 := ⟨(rx_inS (rx_T3 (List.mem_of_getElem? (i := 88) (rfl))) rfl), (rx_inS (rx_T1 (List.mem_of_getElem? (i := 7) (by decide +kernel))) rfl), by decide, by decide, by decide +kernel⟩
theorem lk_LengthRow_37 : rx_lkm "DeflateEffort$LengthRow" 37 y_Code_usedLengths := Or.inl (rx_inS (rx_T3 (List.mem_of_getElem? (i := 85) (by decide +kernel))) rfl)
theorem ci_Code_usedLengths : Cond.instanceMethod y_Code_usedLengths ∈ rx_Ts ∧ Cond.selects "DeflateEffort$Code" y_Code_usedLengths y_Code_usedLengths ∈ rx_Ts := ⟨(rx_inS (rx_T3 (List.mem_of_getElem? (i := 86) (by decide +kernel))) rfl), (rx_inS (rx_T3 (List.mem_of_getElem? (i := 87) (by decide +kernel))) rfl)⟩
theorem fa_LengthRow_28 : rx_fld "DeflateEffort$LengthRow" 28 5 3 .int false := ⟨"DeflateEffort$LengthRow", Tc_LengthRow, 6, tyc_LengthRow, rfl, by decide, inc_LengthRow, tyok_LengthRow, nmc_LengthRow, rfl, rfl, by decide +kernel, Or.inl (rx_inS (rx_T1 (List.mem_of_getElem? (i := 127) (by decide +kernel))) rfl)⟩
theorem fa_LengthRow_31 : rx_fld "DeflateEffort$LengthRow" 31 5 4 .int false := ⟨"DeflateEffort$LengthRow", Tc_LengthRow, 6, tyc_LengthRow, rfl, by decide, inc_LengthRow, tyok_LengthRow, nmc_LengthRow, rfl, rfl, by decide +kernel, Or.inl (rx_inS (rx_T1 (List.mem_of_getElem? (i := 129) (by decide +kernel))) rfl)⟩
theorem lk_LengthRow_44 : rx_lkm "DeflateEffort$LengthRow" 44 y_JA_fill2 := Or.inl (rx_inS (rx_T3 (List.mem_of_getElem? (i := 89) (by decide +kernel))) rfl)
theorem fa_LengthRow_50 : rx_fld "DeflateEffort$LengthRow" 50 1 1 (.array .int) true := ⟨"DeflateEffort$Code", Tc_Code, 2, tyc_Code, rfl, by decide, inc_Code, tyok_Code, nmc_Code, rfl, rfl, by decide +kernel, Or.inl (rx_inS (rx_T1 (List.mem_of_getElem? (i := 114) (by decide +kernel))) rfl)⟩
set_option maxRecDepth 20000 in
theorem cw_LengthRow_tellEqual : rx_cw y_LengthRow_tellEqual b_LengthRow_tellEqual 5 none 2 := ⟨(rx_inS (rx_T3 (List.mem_of_getElem? (i := 93) (rfl))) rfl), (rx_inS (rx_T1 (List.mem_of_getElem? (i := 6) (by decide +kernel))) rfl), by decide, by decide, by decide +kernel⟩
theorem lk_LengthRow_53 : rx_lkm "DeflateEffort$LengthRow" 53 y_LengthRow_tellEqual := Or.inl (rx_inS (rx_T3 (List.mem_of_getElem? (i := 90) (by decide +kernel))) rfl)
theorem ci_LengthRow_tellEqual : Cond.instanceMethod y_LengthRow_tellEqual ∈ rx_Ts ∧ Cond.selects "DeflateEffort$LengthRow" y_LengthRow_tellEqual y_LengthRow_tellEqual ∈ rx_Ts := ⟨(rx_inS (rx_T3 (List.mem_of_getElem? (i := 92) (by decide +kernel))) rfl), (rx_inP 10 (by decide +kernel) rfl)⟩
theorem mf_LengthRow_makeCode : rx_M "DeflateEffort$LengthRow" "makeCode" y_LengthRow_makeCode := ⟨by decide +kernel, rfl, rfl, by decide +kernel⟩
set_option maxRecDepth 20000 in
theorem cw_Joiner_join : rx_cw y_Joiner_join b_Joiner_join 3 none 1 := ⟨(rx_inS (rx_T3 (List.mem_of_getElem? (i := 67) (rfl))) rfl), (rx_inS (rx_T1 (List.mem_of_getElem? (i := 5) (by decide +kernel))) rfl), by decide, by decide, by decide +kernel⟩
theorem lk_LengthRow_66 : rx_lkm "DeflateEffort$LengthRow" 66 y_Joiner_join := Or.inl (rx_inS (rx_T3 (List.mem_of_getElem? (i := 103) (by decide +kernel))) rfl)
theorem ci_Joiner_join : Cond.instanceMethod y_Joiner_join ∈ rx_Ts ∧ Cond.selects "DeflateEffort$Joiner" y_Joiner_join y_Joiner_join ∈ rx_Ts := ⟨(rx_inS (rx_T3 (List.mem_of_getElem? (i := 65) (by decide +kernel))) rfl), (rx_inS (rx_T3 (List.mem_of_getElem? (i := 66) (by decide +kernel))) rfl)⟩
set_option maxRecDepth 20000 in
theorem cw_Code_longest : rx_cw y_Code_longest b_Code_longest 3 (some .int) 0 := ⟨(rx_inS (rx_T3 (List.mem_of_getElem? (i := 107) (rfl))) rfl), (rx_inS (rx_T1 (List.mem_of_getElem? (i := 7) (by decide +kernel))) rfl), by decide, by decide, by decide +kernel⟩
theorem lk_LengthRow_72 : rx_lkm "DeflateEffort$LengthRow" 72 y_Code_longest := Or.inl (rx_inS (rx_T3 (List.mem_of_getElem? (i := 104) (by decide +kernel))) rfl)
theorem ci_Code_longest : Cond.instanceMethod y_Code_longest ∈ rx_Ts ∧ Cond.selects "DeflateEffort$Code" y_Code_longest y_Code_longest ∈ rx_Ts := ⟨(rx_inS (rx_T3 (List.mem_of_getElem? (i := 105) (by decide +kernel))) rfl), (rx_inS (rx_T3 (List.mem_of_getElem? (i := 106) (by decide +kernel))) rfl)⟩
set_option maxRecDepth 20000 in
theorem cw_Code_halveCounts : rx_cw y_Code_halveCounts b_Code_halveCounts 2 none 0 := ⟨(rx_inS (rx_T3 (List.mem_of_getElem? (i := 111) (rfl))) rfl), (rx_inS (rx_T1 (List.mem_of_getElem? (i := 7) (by decide +kernel))) rfl), by decide, by decide, by decide +kernel⟩
theorem lk_LengthRow_76 : rx_lkm "DeflateEffort$LengthRow" 76 y_Code_halveCounts := Or.inl (rx_inS (rx_T3 (List.mem_of_getElem? (i := 108) (by decide +kernel))) rfl)
theorem ci_Code_halveCounts : Cond.instanceMethod y_Code_halveCounts ∈ rx_Ts ∧ Cond.selects "DeflateEffort$Code" y_Code_halveCounts y_Code_halveCounts ∈ rx_Ts := ⟨(rx_inS (rx_T3 (List.mem_of_getElem? (i := 109) (by decide +kernel))) rfl), (rx_inS (rx_T3 (List.mem_of_getElem? (i := 110) (by decide +kernel))) rfl)⟩
theorem fa_LengthRow_34 : rx_fld "DeflateEffort$LengthRow" 34 5 5 .int false := ⟨"DeflateEffort$LengthRow", Tc_LengthRow, 6, tyc_LengthRow, rfl, by decide, inc_LengthRow, tyok_LengthRow, nmc_LengthRow, rfl, rfl, by decide +kernel, Or.inl (rx_inS (rx_T1 (List.mem_of_getElem? (i := 131) (by decide +kernel))) rfl)⟩
theorem sa_LengthRow_79 : rx_st "DeflateEffort$LengthRow" 79 4 := ⟨Or.inr ⟨"DeflateEffort", (rx_inNS (rx_T3 (List.mem_of_getElem? (i := 112) (by decide +kernel))) rfl)⟩, by decide⟩
theorem mf_DE_literalExtra : rx_M "DeflateEffort" "literalExtra" y_DE_literalExtra := ⟨by decide +kernel, rfl, rfl, by decide +kernel⟩
theorem sa_DE_198 : rx_st "DeflateEffort" 198 1 := ⟨Or.inl (rx_inS (rx_T3 (List.mem_of_getElem? (i := 122) (by decide +kernel))) rfl), by decide⟩
theorem mf_Plan_extraBits : rx_M "DeflateEffort$Plan" "extraBits" y_Plan_extraBits := ⟨by decide +kernel, rfl, rfl, by decide +kernel⟩
set_option maxRecDepth 20000 in
theorem cw_DE_literalExtra : rx_cw y_DE_literalExtra b_DE_literalExtra 2 (some .int) 1 := ⟨(rx_inS (rx_T3 (List.mem_of_getElem? (i := 121) (rfl))) rfl), (rx_inS (rx_T1 (List.mem_of_getElem? (i := 1) (by decide +kernel))) rfl), by decide, by decide, by decide +kernel⟩
theorem lk_Plan_97 : rx_lkm "DeflateEffort$Plan" 97 y_DE_literalExtra := Or.inr ⟨"DeflateEffort", (rx_inNS (rx_T3 (List.mem_of_getElem? (i := 119) (by decide +kernel))) rfl)⟩
theorem cs_DE_literalExtra : Cond.static y_DE_literalExtra ∈ rx_Ts := (rx_inS (rx_T3 (List.mem_of_getElem? (i := 120) (by decide +kernel))) rfl)
theorem sa_Plan_100 : rx_st "DeflateEffort$Plan" 100 3 := ⟨Or.inr ⟨"DeflateEffort", (rx_inNS (rx_T3 (List.mem_of_getElem? (i := 124) (by decide +kernel))) rfl)⟩, by decide⟩
theorem mf_DE_fixedLength : rx_M "DeflateEffort" "fixedLength" y_DE_fixedLength := ⟨by decide +kernel, rfl, rfl, by decide +kernel⟩
theorem mf_Plan_fixedBits : rx_M "DeflateEffort$Plan" "fixedBits" y_Plan_fixedBits := ⟨by decide +kernel, rfl, rfl, by decide +kernel⟩
set_option maxRecDepth 20000 in
theorem cw_DE_fixedLength : rx_cw y_DE_fixedLength b_DE_fixedLength 1 (some .int) 1 := ⟨(rx_inS (rx_T2 (List.mem_of_getElem? (i := 119) (rfl))) rfl), (rx_inS (rx_T1 (List.mem_of_getElem? (i := 1) (by decide +kernel))) rfl), by decide, by decide, by decide +kernel⟩
theorem lk_Plan_103 : rx_lkm "DeflateEffort$Plan" 103 y_DE_fixedLength := Or.inr ⟨"DeflateEffort", (rx_inNS (rx_T3 (List.mem_of_getElem? (i := 130) (by decide +kernel))) rfl)⟩
theorem cs_DE_fixedLength : Cond.static y_DE_fixedLength ∈ rx_Ts := (rx_inS (rx_T2 (List.mem_of_getElem? (i := 118) (by decide +kernel))) rfl)
theorem mf_Plan_takeFewer : rx_M "DeflateEffort$Plan" "takeFewer" y_Plan_takeFewer := ⟨by decide +kernel, rfl, rfl, by decide +kernel⟩
theorem mf_LengthRow_symbolAt : rx_M "DeflateEffort$LengthRow" "symbolAt" y_LengthRow_symbolAt := ⟨by decide +kernel, rfl, rfl, by decide +kernel⟩
theorem mf_DE_repeatExtra : rx_M "DeflateEffort" "repeatExtra" y_DE_repeatExtra := ⟨by decide +kernel, rfl, rfl, by decide +kernel⟩
theorem mf_LengthRow_bits : rx_M "DeflateEffort$LengthRow" "bits" y_LengthRow_bits := ⟨by decide +kernel, rfl, rfl, by decide +kernel⟩
set_option maxRecDepth 20000 in
theorem cw_LengthRow_symbolAt : rx_cw y_LengthRow_symbolAt b_LengthRow_symbolAt 2 (some .int) 1 := ⟨(rx_inS (rx_T3 (List.mem_of_getElem? (i := 142) (rfl))) rfl), (rx_inS (rx_T1 (List.mem_of_getElem? (i := 6) (by decide +kernel))) rfl), by decide, by decide, by decide +kernel⟩
theorem lk_LengthRow_82 : rx_lkm "DeflateEffort$LengthRow" 82 y_LengthRow_symbolAt := Or.inl (rx_inS (rx_T3 (List.mem_of_getElem? (i := 139) (by decide +kernel))) rfl)
theorem ci_LengthRow_symbolAt : Cond.instanceMethod y_LengthRow_symbolAt ∈ rx_Ts ∧ Cond.selects "DeflateEffort$LengthRow" y_LengthRow_symbolAt y_LengthRow_symbolAt ∈ rx_Ts := ⟨(rx_inS (rx_T3 (List.mem_of_getElem? (i := 140) (by decide +kernel))) rfl), (rx_inS (rx_T3 (List.mem_of_getElem? (i := 141) (by decide +kernel))) rfl)⟩
set_option maxRecDepth 20000 in
theorem cw_DE_repeatExtra : rx_cw y_DE_repeatExtra b_DE_repeatExtra 1 (some .int) 1 := ⟨(rx_inS (rx_T3 (List.mem_of_getElem? (i := 145) (rfl))) rfl), (rx_inS (rx_T1 (List.mem_of_getElem? (i := 1) (by decide +kernel))) rfl), by decide, by decide, by decide +kernel⟩
theorem lk_LengthRow_85 : rx_lkm "DeflateEffort$LengthRow" 85 y_DE_repeatExtra := Or.inr ⟨"DeflateEffort", (rx_inNS (rx_T3 (List.mem_of_getElem? (i := 143) (by decide +kernel))) rfl)⟩
theorem cs_DE_repeatExtra : Cond.static y_DE_repeatExtra ∈ rx_Ts := (rx_inS (rx_T3 (List.mem_of_getElem? (i := 144) (by decide +kernel))) rfl)
theorem mf_Plan_ownBits : rx_M "DeflateEffort$Plan" "ownBits" y_Plan_ownBits := ⟨by decide +kernel, rfl, rfl, by decide +kernel⟩
theorem fa_Plan_106 : rx_fld "DeflateEffort$Plan" 106 1 1 (.array .int) true := ⟨"DeflateEffort$Code", Tc_Code, 2, tyc_Code, rfl, by decide, inc_Code, tyok_Code, nmc_Code, rfl, rfl, by decide +kernel, Or.inl (rx_inS (rx_T1 (List.mem_of_getElem? (i := 115) (by decide +kernel))) rfl)⟩
theorem mf_Plan_weigh : rx_M "DeflateEffort$Plan" "weigh" y_Plan_weigh := ⟨by decide +kernel, rfl, rfl, by decide +kernel⟩
theorem lk_Plan_62 : rx_lkm "DeflateEffort$Plan" 62 y_Joiner_join := Or.inl (rx_inS (rx_T3 (List.mem_of_getElem? (i := 64) (by decide +kernel))) rfl)
set_option maxRecDepth 20000 in
theorem cw_LengthRow_tellBoth : rx_cw y_LengthRow_tellBoth b_LengthRow_tellBoth 8 none 2 := ⟨(rx_inS (rx_T3 (List.mem_of_getElem? (i := 84) (rfl))) rfl), (rx_inS (rx_T1 (List.mem_of_getElem? (i := 6) (by decide +kernel))) rfl), by decide, by decide, by decide +kernel⟩
theorem lk_Plan_68 : rx_lkm "DeflateEffort$Plan" 68 y_LengthRow_tellBoth := Or.inl (rx_inS (rx_T3 (List.mem_of_getElem? (i := 81) (by decide +kernel))) rfl)
theorem ci_LengthRow_tellBoth : Cond.instanceMethod y_LengthRow_tellBoth ∈ rx_Ts ∧ Cond.selects "DeflateEffort$LengthRow" y_LengthRow_tellBoth y_LengthRow_tellBoth ∈ rx_Ts := ⟨(rx_inS (rx_T3 (List.mem_of_getElem? (i := 82) (by decide +kernel))) rfl), (rx_inS (rx_T3 (List.mem_of_getElem? (i := 83) (by decide +kernel))) rfl)⟩
set_option maxRecDepth 20000 in
theorem cw_LengthRow_makeCode : rx_cw y_LengthRow_makeCode b_LengthRow_makeCode 3 none 1 := ⟨(rx_inS (rx_T3 (List.mem_of_getElem? (i := 102) (rfl))) rfl), (rx_inS (rx_T1 (List.mem_of_getElem? (i := 6) (by decide +kernel))) rfl), by decide, by decide, by decide +kernel⟩
theorem lk_Plan_74 : rx_lkm "DeflateEffort$Plan" 74 y_LengthRow_makeCode := Or.inl (rx_inS (rx_T3 (List.mem_of_getElem? (i := 99) (by decide +kernel))) rfl)
theorem ci_LengthRow_makeCode : Cond.instanceMethod y_LengthRow_makeCode ∈ rx_Ts ∧ Cond.selects "DeflateEffort$LengthRow" y_LengthRow_makeCode y_LengthRow_makeCode ∈ rx_Ts := ⟨(rx_inS (rx_T3 (List.mem_of_getElem? (i := 100) (by decide +kernel))) rfl), (rx_inS (rx_T3 (List.mem_of_getElem? (i := 101) (by decide +kernel))) rfl)⟩
set_option maxRecDepth 20000 in
theorem cw_Plan_weighStored : rx_cw y_Plan_weighStored b_Plan_weighStored 2 none 1 := ⟨(rx_inS (rx_T2 (List.mem_of_getElem? (i := 238) (rfl))) rfl), (rx_inS (rx_T1 (List.mem_of_getElem? (i := 9) (by decide +kernel))) rfl), by decide, by decide, by decide +kernel⟩
theorem lk_Plan_78 : rx_lkm "DeflateEffort$Plan" 78 y_Plan_weighStored := Or.inl (rx_inS (rx_T3 (List.mem_of_getElem? (i := 114) (by decide +kernel))) rfl)
theorem ci_Plan_weighStored : Cond.instanceMethod y_Plan_weighStored ∈ rx_Ts ∧ Cond.selects "DeflateEffort$Plan" y_Plan_weighStored y_Plan_weighStored ∈ rx_Ts := ⟨(rx_inS (rx_T2 (List.mem_of_getElem? (i := 236) (by decide +kernel))) rfl), (rx_inS (rx_T2 (List.mem_of_getElem? (i := 237) (by decide +kernel))) rfl)⟩
set_option maxRecDepth 20000 in
theorem cw_Plan_extraBits : rx_cw y_Plan_extraBits b_Plan_extraBits 3 (some .int) 0 := ⟨(rx_inS (rx_T3 (List.mem_of_getElem? (i := 118) (rfl))) rfl), (rx_inS (rx_T1 (List.mem_of_getElem? (i := 9) (by decide +kernel))) rfl), by decide, by decide, by decide +kernel⟩
theorem lk_Plan_81 : rx_lkm "DeflateEffort$Plan" 81 y_Plan_extraBits := Or.inl (rx_inS (rx_T3 (List.mem_of_getElem? (i := 115) (by decide +kernel))) rfl)
theorem ci_Plan_extraBits : Cond.instanceMethod y_Plan_extraBits ∈ rx_Ts ∧ Cond.selects "DeflateEffort$Plan" y_Plan_extraBits y_Plan_extraBits ∈ rx_Ts := ⟨(rx_inS (rx_T3 (List.mem_of_getElem? (i := 117) (by decide +kernel))) rfl), (rx_inP 12 (by decide +kernel) rfl)⟩
set_option maxRecDepth 20000 in
theorem cw_Plan_fixedBits : rx_cw y_Plan_fixedBits b_Plan_fixedBits 3 (some .int) 0 := ⟨(rx_inS (rx_T3 (List.mem_of_getElem? (i := 129) (rfl))) rfl), (rx_inS (rx_T1 (List.mem_of_getElem? (i := 9) (by decide +kernel))) rfl), by decide, by decide, by decide +kernel⟩
theorem lk_Plan_85 : rx_lkm "DeflateEffort$Plan" 85 y_Plan_fixedBits := Or.inl (rx_inS (rx_T3 (List.mem_of_getElem? (i := 126) (by decide +kernel))) rfl)
theorem ci_Plan_fixedBits : Cond.instanceMethod y_Plan_fixedBits ∈ rx_Ts ∧ Cond.selects "DeflateEffort$Plan" y_Plan_fixedBits y_Plan_fixedBits ∈ rx_Ts := ⟨(rx_inS (rx_T3 (List.mem_of_getElem? (i := 128) (by decide +kernel))) rfl), (rx_inP 13 (by decide +kernel) rfl)⟩
set_option maxRecDepth 20000 in
theorem cw_Plan_takeFewer : rx_cw y_Plan_takeFewer b_Plan_takeFewer 3 none 2 := ⟨(rx_inS (rx_T3 (List.mem_of_getElem? (i := 134) (rfl))) rfl), (rx_inS (rx_T1 (List.mem_of_getElem? (i := 9) (by decide +kernel))) rfl), by decide, by decide, by decide +kernel⟩
theorem lk_Plan_88 : rx_lkm "DeflateEffort$Plan" 88 y_Plan_takeFewer := Or.inl (rx_inS (rx_T3 (List.mem_of_getElem? (i := 131) (by decide +kernel))) rfl)
theorem ci_Plan_takeFewer : Cond.instanceMethod y_Plan_takeFewer ∈ rx_Ts ∧ Cond.selects "DeflateEffort$Plan" y_Plan_takeFewer y_Plan_takeFewer ∈ rx_Ts := ⟨(rx_inS (rx_T3 (List.mem_of_getElem? (i := 133) (by decide +kernel))) rfl), (rx_inP 14 (by decide +kernel) rfl)⟩
set_option maxRecDepth 20000 in
theorem cw_LengthRow_bits : rx_cw y_LengthRow_bits b_LengthRow_bits 3 (some .int) 0 := ⟨(rx_inS (rx_T3 (List.mem_of_getElem? (i := 138) (rfl))) rfl), (rx_inS (rx_T1 (List.mem_of_getElem? (i := 6) (by decide +kernel))) rfl), by decide, by decide, by decide +kernel⟩
theorem lk_Plan_92 : rx_lkm "DeflateEffort$Plan" 92 y_LengthRow_bits := Or.inl (rx_inS (rx_T3 (List.mem_of_getElem? (i := 135) (by decide +kernel))) rfl)
theorem ci_LengthRow_bits : Cond.instanceMethod y_LengthRow_bits ∈ rx_Ts ∧ Cond.selects "DeflateEffort$LengthRow" y_LengthRow_bits y_LengthRow_bits ∈ rx_Ts := ⟨(rx_inS (rx_T3 (List.mem_of_getElem? (i := 136) (by decide +kernel))) rfl), (rx_inS (rx_T3 (List.mem_of_getElem? (i := 137) (by decide +kernel))) rfl)⟩
set_option maxRecDepth 20000 in
theorem cw_Plan_ownBits : rx_cw y_Plan_ownBits b_Plan_ownBits 3 (some .int) 0 := ⟨(rx_inS (rx_T3 (List.mem_of_getElem? (i := 149) (rfl))) rfl), (rx_inS (rx_T1 (List.mem_of_getElem? (i := 9) (by decide +kernel))) rfl), by decide, by decide, by decide +kernel⟩
theorem lk_Plan_94 : rx_lkm "DeflateEffort$Plan" 94 y_Plan_ownBits := Or.inl (rx_inS (rx_T3 (List.mem_of_getElem? (i := 146) (by decide +kernel))) rfl)
theorem ci_Plan_ownBits : Cond.instanceMethod y_Plan_ownBits ∈ rx_Ts ∧ Cond.selects "DeflateEffort$Plan" y_Plan_ownBits y_Plan_ownBits ∈ rx_Ts := ⟨(rx_inS (rx_T3 (List.mem_of_getElem? (i := 148) (by decide +kernel))) rfl), (rx_inP 15 (by decide +kernel) rfl)⟩
theorem mf_Prices_priceOf : rx_M "DeflateEffort$Prices" "priceOf" y_Prices_priceOf := ⟨by decide +kernel, rfl, rfl, by decide +kernel⟩
theorem mf_JA_rangeCheck : rx_M "java/util/Arrays" "rangeCheck" y_JA_rangeCheck := ⟨by decide +kernel, rfl, rfl, by decide +kernel⟩
theorem mf_JA_fill4 : rx_M "java/util/Arrays" "fill" y_JA_fill4 := ⟨by decide +kernel, rfl, rfl, by decide +kernel⟩
set_option maxRecDepth 20000 in
theorem cw_JA_rangeCheck : rx_cw y_JA_rangeCheck b_JA_rangeCheck 3 none 3 := ⟨(rx_inS (rx_T3 (List.mem_of_getElem? (i := 164) (rfl))) rfl), (rx_inS (rx_T1 (List.mem_of_getElem? (i := 14) (by decide +kernel))) rfl), by decide, by decide, by decide +kernel⟩
theorem lk_JA_13 : rx_lkm "java/util/Arrays" 13 y_JA_rangeCheck := Or.inl (rx_inS (rx_T3 (List.mem_of_getElem? (i := 162) (by decide +kernel))) rfl)
theorem cs_JA_rangeCheck : Cond.static y_JA_rangeCheck ∈ rx_Ts := (rx_inS (rx_T3 (List.mem_of_getElem? (i := 163) (by decide +kernel))) rfl)
theorem mf_Prices_takeFrom : rx_M "DeflateEffort$Prices" "takeFrom" y_Prices_takeFrom := ⟨by decide +kernel, rfl, rfl, by decide +kernel⟩
theorem fa_Prices_9 : rx_fld "DeflateEffort$Prices" 9 8 0 (.array .int) true := ⟨"DeflateEffort$Prices", Tc_Prices, 4, tyc_Prices, rfl, by decide, inc_Prices, tyok_Prices, nmc_Prices, rfl, rfl, by decide +kernel, Or.inl (rx_inS (rx_T1 (List.mem_of_getElem? (i := 152) (by decide +kernel))) rfl)⟩
theorem fa_Prices_24 : rx_fld "DeflateEffort$Prices" 24 7 3 (.object "DeflateEffort$Code") true := ⟨"DeflateEffort$Plan", Tc_Plan, 7, tyc_Plan, rfl, by decide, inc_Plan, tyok_Plan, nmc_Plan, rfl, rfl, by decide +kernel, Or.inl (rx_inS (rx_T1 (List.mem_of_getElem? (i := 182) (by decide +kernel))) rfl)⟩
theorem fa_Prices_30 : rx_fld "DeflateEffort$Prices" 30 1 1 (.array .int) true := ⟨"DeflateEffort$Code", Tc_Code, 2, tyc_Code, rfl, by decide, inc_Code, tyok_Code, nmc_Code, rfl, rfl, by decide +kernel, Or.inl (rx_inS (rx_T1 (List.mem_of_getElem? (i := 113) (by decide +kernel))) rfl)⟩
set_option maxRecDepth 20000 in
theorem cw_Prices_priceOf : rx_cw y_Prices_priceOf b_Prices_priceOf 2 (some .int) 2 := ⟨(rx_inS (rx_T3 (List.mem_of_getElem? (i := 156) (rfl))) rfl), (rx_inS (rx_T1 (List.mem_of_getElem? (i := 8) (by decide +kernel))) rfl), by decide, by decide, by decide +kernel⟩
theorem lk_Prices_35 : rx_lkm "DeflateEffort$Prices" 35 y_Prices_priceOf := Or.inl (rx_inS (rx_T3 (List.mem_of_getElem? (i := 154) (by decide +kernel))) rfl)
theorem cs_Prices_priceOf : Cond.static y_Prices_priceOf ∈ rx_Ts := (rx_inS (rx_T3 (List.mem_of_getElem? (i := 155) (by decide +kernel))) rfl)
theorem sa_Prices_39 : rx_st "DeflateEffort$Prices" 39 0 := ⟨Or.inr ⟨"DeflateEffort", (rx_inNS (rx_T3 (List.mem_of_getElem? (i := 157) (by decide +kernel))) rfl)⟩, by decide⟩
theorem sa_Prices_42 : rx_st "DeflateEffort$Prices" 42 1 := ⟨Or.inr ⟨"DeflateEffort", (rx_inNS (rx_T3 (List.mem_of_getElem? (i := 158) (by decide +kernel))) rfl)⟩, by decide⟩
theorem fa_Prices_15 : rx_fld "DeflateEffort$Prices" 15 8 1 (.array .int) true := ⟨"DeflateEffort$Prices", Tc_Prices, 4, tyc_Prices, rfl, by decide, inc_Prices, tyok_Prices, nmc_Prices, rfl, rfl, by decide +kernel, Or.inl (rx_inS (rx_T1 (List.mem_of_getElem? (i := 153) (by decide +kernel))) rfl)⟩
set_option maxRecDepth 20000 in
theorem cw_JA_fill4 : rx_cw y_JA_fill4 b_JA_fill4 5 none 4 := ⟨(rx_inS (rx_T3 (List.mem_of_getElem? (i := 161) (rfl))) rfl), (rx_inS (rx_T1 (List.mem_of_getElem? (i := 14) (by decide +kernel))) rfl), by decide, by decide, by decide +kernel⟩
theorem lk_Prices_45 : rx_lkm "DeflateEffort$Prices" 45 y_JA_fill4 := Or.inl (rx_inS (rx_T3 (List.mem_of_getElem? (i := 159) (by decide +kernel))) rfl)
theorem cs_JA_fill4 : Cond.static y_JA_fill4 ∈ rx_Ts := (rx_inS (rx_T3 (List.mem_of_getElem? (i := 160) (by decide +kernel))) rfl)
theorem fa_Prices_18 : rx_fld "DeflateEffort$Prices" 18 8 2 (.array .int) true := ⟨"DeflateEffort$Prices", Tc_Prices, 4, tyc_Prices, rfl, by decide, inc_Prices, tyok_Prices, nmc_Prices, rfl, rfl, by decide +kernel, Or.inl (rx_inS (rx_T1 (List.mem_of_getElem? (i := 154) (by decide +kernel))) rfl)⟩
theorem fa_Prices_51 : rx_fld "DeflateEffort$Prices" 51 7 4 (.object "DeflateEffort$Code") true := ⟨"DeflateEffort$Plan", Tc_Plan, 7, tyc_Plan, rfl, by decide, inc_Plan, tyok_Plan, nmc_Plan, rfl, rfl, by decide +kernel, Or.inl (rx_inS (rx_T1 (List.mem_of_getElem? (i := 185) (by decide +kernel))) rfl)⟩
theorem sa_Prices_54 : rx_st "DeflateEffort$Prices" 54 3 := ⟨Or.inr ⟨"DeflateEffort", (rx_inNS (rx_T5 (List.mem_of_getElem? (i := 11) (by decide +kernel))) rfl)⟩, by decide⟩
theorem mf_Prices_choose : rx_M "DeflateEffort$Prices" "choose" y_Prices_choose := ⟨by decide +kernel, rfl, rfl, by decide +kernel⟩
theorem fa_Prices_21 : rx_fld "DeflateEffort$Prices" 21 8 3 (.array .int) true := ⟨"DeflateEffort$Prices", Tc_Prices, 4, tyc_Prices, rfl, by decide, inc_Prices, tyok_Prices, nmc_Prices, rfl, rfl, by decide +kernel, Or.inl (rx_inS (rx_T1 (List.mem_of_getElem? (i := 155) (by decide +kernel))) rfl)⟩
theorem fa_Prices_57 : rx_fld "DeflateEffort$Prices" 57 6 0 (.array .int) true := ⟨"DeflateEffort$Matches", Tc_Matches, 5, tyc_Matches, rfl, by decide, inc_Matches, tyok_Matches, nmc_Matches, rfl, rfl, by decide +kernel, Or.inr ⟨"DeflateEffort", (rx_inNS (rx_T1 (List.mem_of_getElem? (i := 217) (by decide +kernel))) rfl)⟩⟩
theorem lk_Prices_62 : rx_lkm "DeflateEffort$Prices" 62 y_Matches_lengthAt := Or.inl (rx_inS (rx_T5 (List.mem_of_getElem? (i := 16) (by decide +kernel))) rfl)
theorem lk_Prices_66 : rx_lkm "DeflateEffort$Prices" 66 y_Matches_distanceAt := Or.inl (rx_inS (rx_T5 (List.mem_of_getElem? (i := 17) (by decide +kernel))) rfl)
theorem lk_Prices_69 : rx_lkm "DeflateEffort$Prices" 69 y_DE_distanceSymbol := Or.inr ⟨"DeflateEffort", (rx_inNS (rx_T5 (List.mem_of_getElem? (i := 18) (by decide +kernel))) rfl)⟩
theorem mf_Cutter_tryBlock : rx_M "DeflateEffort$Cutter" "tryBlock" y_Cutter_tryBlock := ⟨by decide +kernel, rfl, rfl, by decide +kernel⟩
theorem fa_Cutter_39 : rx_fld "DeflateEffort$Cutter" 39 3 7 (.object "DeflateEffort$Plan") false := ⟨"DeflateEffort$Cutter", Tc_Cutter, 12, tyc_Cutter, rfl, by decide, inc_Cutter, tyok_Cutter, nmc_Cutter, rfl, rfl, by decide +kernel, Or.inl (rx_inS (rx_T2 (List.mem_of_getElem? (i := 50) (by decide +kernel))) rfl)⟩
theorem lk_Cutter_122 : rx_lkm "DeflateEffort$Cutter" 122 y_Plan_weighStored := Or.inl (rx_inS (rx_T2 (List.mem_of_getElem? (i := 235) (by decide +kernel))) rfl)
set_option maxRecDepth 20000 in
theorem cw_Matches_find : rx_cw y_Matches_find b_Matches_find 5 none 3 := ⟨(rx_inS (rx_T3 (List.mem_of_getElem? (i := 2) (rfl))) rfl), (rx_inS (rx_T1 (List.mem_of_getElem? (i := 10) (by decide +kernel))) rfl), by decide, by decide, by decide +kernel⟩
theorem lk_Cutter_125 : rx_lkm "DeflateEffort$Cutter" 125 y_Matches_find := Or.inl (rx_inS (rx_T2 (List.mem_of_getElem? (i := 239) (by decide +kernel))) rfl)
theorem ci_Matches_find : Cond.instanceMethod y_Matches_find ∈ rx_Ts ∧ Cond.selects "DeflateEffort$Matches" y_Matches_find y_Matches_find ∈ rx_Ts := ⟨(rx_inS (rx_T3 (List.mem_of_getElem? (i := 0) (by decide +kernel))) rfl), (rx_inS (rx_T3 (List.mem_of_getElem? (i := 1) (by decide +kernel))) rfl)⟩
set_option maxRecDepth 20000 in
theorem cw_Cutter_chooseByMatches : rx_cw y_Cutter_chooseByMatches b_Cutter_chooseByMatches 6 none 2 := ⟨(rx_inS (rx_T3 (List.mem_of_getElem? (i := 22) (rfl))) rfl), (rx_inS (rx_T1 (List.mem_of_getElem? (i := 4) (by decide +kernel))) rfl), by decide, by decide, by decide +kernel⟩
theorem lk_Cutter_129 : rx_lkm "DeflateEffort$Cutter" 129 y_Cutter_chooseByMatches := Or.inl (rx_inS (rx_T3 (List.mem_of_getElem? (i := 19) (by decide +kernel))) rfl)
theorem ci_Cutter_chooseByMatches : Cond.instanceMethod y_Cutter_chooseByMatches ∈ rx_Ts ∧ Cond.selects "DeflateEffort$Cutter" y_Cutter_chooseByMatches y_Cutter_chooseByMatches ∈ rx_Ts := ⟨(rx_inS (rx_T3 (List.mem_of_getElem? (i := 21) (by decide +kernel))) rfl), (rx_inP 5 (by decide +kernel) rfl)⟩
set_option maxRecDepth 20000 in
theorem cw_Cutter_addTokens : rx_cw y_Cutter_addTokens b_Cutter_addTokens 6 none 3 := ⟨(rx_inS (rx_T3 (List.mem_of_getElem? (i := 34) (rfl))) rfl), (rx_inS (rx_T1 (List.mem_of_getElem? (i := 4) (by decide +kernel))) rfl), by decide, by decide, by decide +kernel⟩
theorem lk_Cutter_132 : rx_lkm "DeflateEffort$Cutter" 132 y_Cutter_addTokens := Or.inl (rx_inS (rx_T3 (List.mem_of_getElem? (i := 31) (by decide +kernel))) rfl)
theorem ci_Cutter_addTokens : Cond.instanceMethod y_Cutter_addTokens ∈ rx_Ts ∧ Cond.selects "DeflateEffort$Cutter" y_Cutter_addTokens y_Cutter_addTokens ∈ rx_Ts := ⟨(rx_inS (rx_T3 (List.mem_of_getElem? (i := 33) (by decide +kernel))) rfl), (rx_inP 6 (by decide +kernel) rfl)⟩
theorem fa_Cutter_12 : rx_fld "DeflateEffort$Cutter" 12 3 3 (.object "DeflateEffort$Joiner") true := ⟨"DeflateEffort$Cutter", Tc_Cutter, 12, tyc_Cutter, rfl, by decide, inc_Cutter, tyok_Cutter, nmc_Cutter, rfl, rfl, by decide +kernel, Or.inl (rx_inS (rx_T2 (List.mem_of_getElem? (i := 45) (by decide +kernel))) rfl)⟩
theorem fa_Cutter_21 : rx_fld "DeflateEffort$Cutter" 21 3 4 (.object "DeflateEffort$LengthRow") true := ⟨"DeflateEffort$Cutter", Tc_Cutter, 12, tyc_Cutter, rfl, by decide, inc_Cutter, tyok_Cutter, nmc_Cutter, rfl, rfl, by decide +kernel, Or.inl (rx_inS (rx_T2 (List.mem_of_getElem? (i := 46) (by decide +kernel))) rfl)⟩
set_option maxRecDepth 20000 in
theorem cw_Plan_weigh : rx_cw y_Plan_weigh b_Plan_weigh 4 none 3 := ⟨(rx_inS (rx_T3 (List.mem_of_getElem? (i := 63) (rfl))) rfl), (rx_inS (rx_T1 (List.mem_of_getElem? (i := 9) (by decide +kernel))) rfl), by decide, by decide, by decide +kernel⟩
theorem lk_Cutter_135 : rx_lkm "DeflateEffort$Cutter" 135 y_Plan_weigh := Or.inl (rx_inS (rx_T3 (List.mem_of_getElem? (i := 60) (by decide +kernel))) rfl)
theorem ci_Plan_weigh : Cond.instanceMethod y_Plan_weigh ∈ rx_Ts ∧ Cond.selects "DeflateEffort$Plan" y_Plan_weigh y_Plan_weigh ∈ rx_Ts := ⟨(rx_inS (rx_T3 (List.mem_of_getElem? (i := 61) (by decide +kernel))) rfl), (rx_inS (rx_T3 (List.mem_of_getElem? (i := 62) (by decide +kernel))) rfl)⟩
theorem fa_Cutter_28 : rx_fld "DeflateEffort$Cutter" 28 3 5 (.object "DeflateEffort$Prices") true := ⟨"DeflateEffort$Cutter", Tc_Cutter, 12, tyc_Cutter, rfl, by decide, inc_Cutter, tyok_Cutter, nmc_Cutter, rfl, rfl, by decide +kernel, Or.inl (rx_inS (rx_T2 (List.mem_of_getElem? (i := 48) (by decide +kernel))) rfl)⟩
set_option maxRecDepth 20000 in
theorem cw_Prices_takeFrom : rx_cw y_Prices_takeFrom b_Prices_takeFrom 5 none 1 := ⟨(rx_inS (rx_T3 (List.mem_of_getElem? (i := 153) (rfl))) rfl), (rx_inS (rx_T1 (List.mem_of_getElem? (i := 8) (by decide +kernel))) rfl), by decide, by decide, by decide +kernel⟩
theorem lk_Cutter_139 : rx_lkm "DeflateEffort$Cutter" 139 y_Prices_takeFrom := Or.inl (rx_inS (rx_T3 (List.mem_of_getElem? (i := 150) (by decide +kernel))) rfl)
theorem ci_Prices_takeFrom : Cond.instanceMethod y_Prices_takeFrom ∈ rx_Ts ∧ Cond.selects "DeflateEffort$Prices" y_Prices_takeFrom y_Prices_takeFrom ∈ rx_Ts := ⟨(rx_inS (rx_T3 (List.mem_of_getElem? (i := 151) (by decide +kernel))) rfl), (rx_inS (rx_T3 (List.mem_of_getElem? (i := 152) (by decide +kernel))) rfl)⟩
set_option maxRecDepth 20000 in
theorem cw_Prices_choose : rx_cw y_Prices_choose b_Prices_choose 11 none 4 := ⟨(rx_inS (rx_T5 (List.mem_of_getElem? (i := 15) (rfl))) rfl), (rx_inS (rx_T1 (List.mem_of_getElem? (i := 8) (by decide +kernel))) rfl), by decide, by decide, by decide +kernel⟩
theorem lk_Cutter_143 : rx_lkm "DeflateEffort$Cutter" 143 y_Prices_choose := Or.inl (rx_inS (rx_T5 (List.mem_of_getElem? (i := 12) (by decide +kernel))) rfl)
theorem ci_Prices_choose : Cond.instanceMethod y_Prices_choose ∈ rx_Ts ∧ Cond.selects "DeflateEffort$Prices" y_Prices_choose y_Prices_choose ∈ rx_Ts := ⟨(rx_inS (rx_T5 (List.mem_of_getElem? (i := 13) (by decide +kernel))) rfl), (rx_inS (rx_T5 (List.mem_of_getElem? (i := 14) (by decide +kernel))) rfl)⟩
theorem fa_Cutter_43 : rx_fld "DeflateEffort$Cutter" 43 3 8 (.object "DeflateEffort$Plan") false := ⟨"DeflateEffort$Cutter", Tc_Cutter, 12, tyc_Cutter, rfl, by decide, inc_Cutter, tyok_Cutter, nmc_Cutter, rfl, rfl, by decide +kernel, Or.inl (rx_inS (rx_T2 (List.mem_of_getElem? (i := 51) (by decide +kernel))) rfl)⟩
theorem fa_Cutter_102 : rx_fld "DeflateEffort$Cutter" 102 7 6 .int false := ⟨"DeflateEffort$Plan", Tc_Plan, 7, tyc_Plan, rfl, by decide, inc_Plan, tyok_Plan, nmc_Plan, rfl, rfl, by decide +kernel, Or.inl (rx_inS (rx_T1 (List.mem_of_getElem? (i := 192) (by decide +kernel))) rfl)⟩
theorem mf_Cutter_takeBest : rx_M "DeflateEffort$Cutter" "takeBest" y_Cutter_takeBest := ⟨by decide +kernel, rfl, rfl, by decide +kernel⟩
theorem fa_Cutter_116 : rx_fld "DeflateEffort$Cutter" 116 0 2 .int false := ⟨"DeflateEffort$Block", Tc_Block, 9, tyc_Block, rfl, by decide, inc_Block, tyok_Block, nmc_Block, rfl, rfl, by decide +kernel, Or.inl (rx_inS (rx_T2 (List.mem_of_getElem? (i := 8) (by decide +kernel))) rfl)⟩
theorem mf_Cutter_cut : rx_M "DeflateEffort$Cutter" "cut" y_Cutter_cut := ⟨by decide +kernel, rfl, rfl, by decide +kernel⟩
set_option maxRecDepth 20000 in
theorem cw_Matches_link : rx_cw y_Matches_link b_Matches_link 4 none 1 := ⟨(rx_inS (rx_T2 (List.mem_of_getElem? (i := 223) (rfl))) rfl), (rx_inS (rx_T1 (List.mem_of_getElem? (i := 10) (by decide +kernel))) rfl), by decide, by decide, by decide +kernel⟩
theorem lk_Cutter_87 : rx_lkm "DeflateEffort$Cutter" 87 y_Matches_link := Or.inl (rx_inS (rx_T2 (List.mem_of_getElem? (i := 220) (by decide +kernel))) rfl)
theorem ci_Matches_link : Cond.instanceMethod y_Matches_link ∈ rx_Ts ∧ Cond.selects "DeflateEffort$Matches" y_Matches_link y_Matches_link ∈ rx_Ts := ⟨(rx_inS (rx_T2 (List.mem_of_getElem? (i := 221) (by decide +kernel))) rfl), (rx_inS (rx_T2 (List.mem_of_getElem? (i := 222) (by decide +kernel))) rfl)⟩
theorem mk_Cutter_90 : Cond.methodLink "DeflateEffort$Cutter" 90 Lib.Math.min.name ∈ rx_Ts := (rx_inS (rx_T2 (List.mem_of_getElem? (i := 225) (by decide +kernel))) rfl)
set_option maxRecDepth 20000 in
theorem cw_Cutter_tryBlock : rx_cw y_Cutter_tryBlock b_Cutter_tryBlock 6 (some .int) 2 := ⟨(rx_inS (rx_T2 (List.mem_of_getElem? (i := 229) (rfl))) rfl), (rx_inS (rx_T1 (List.mem_of_getElem? (i := 4) (by decide +kernel))) rfl), by decide, by decide, by decide +kernel⟩
theorem lk_Cutter_96 : rx_lkm "DeflateEffort$Cutter" 96 y_Cutter_tryBlock := Or.inl (rx_inS (rx_T2 (List.mem_of_getElem? (i := 226) (by decide +kernel))) rfl)
theorem ci_Cutter_tryBlock : Cond.instanceMethod y_Cutter_tryBlock ∈ rx_Ts ∧ Cond.selects "DeflateEffort$Cutter" y_Cutter_tryBlock y_Cutter_tryBlock ∈ rx_Ts := ⟨(rx_inS (rx_T2 (List.mem_of_getElem? (i := 228) (by decide +kernel))) rfl), (rx_inP 1 (by decide +kernel) rfl)⟩
theorem fa_Cutter_99 : rx_fld "DeflateEffort$Cutter" 99 0 8 .int false := ⟨"DeflateEffort$Block", Tc_Block, 9, tyc_Block, rfl, by decide, inc_Block, tyok_Block, nmc_Block, rfl, rfl, by decide +kernel, Or.inl (rx_inS (rx_T2 (List.mem_of_getElem? (i := 21) (by decide +kernel))) rfl)⟩
set_option maxRecDepth 20000 in
theorem cw_Block_setBounds : rx_cw y_Block_setBounds b_Block_setBounds 3 none 2 := ⟨(rx_inS (rx_T5 (List.mem_of_getElem? (i := 22) (rfl))) rfl), (rx_inS (rx_T1 (List.mem_of_getElem? (i := 11) (by decide +kernel))) rfl), by decide, by decide, by decide +kernel⟩
theorem lk_Cutter_105 : rx_lkm "DeflateEffort$Cutter" 105 y_Block_setBounds := Or.inl (rx_inS (rx_T5 (List.mem_of_getElem? (i := 19) (by decide +kernel))) rfl)
theorem ci_Block_setBounds : Cond.instanceMethod y_Block_setBounds ∈ rx_Ts ∧ Cond.selects "DeflateEffort$Block" y_Block_setBounds y_Block_setBounds ∈ rx_Ts := ⟨(rx_inS (rx_T5 (List.mem_of_getElem? (i := 20) (by decide +kernel))) rfl), (rx_inS (rx_T5 (List.mem_of_getElem? (i := 21) (by decide +kernel))) rfl)⟩
set_option maxRecDepth 20000 in
theorem cw_Block_keep : rx_cw y_Block_keep b_Block_keep 5 none 3 := ⟨(rx_inS (rx_T5 (List.mem_of_getElem? (i := 26) (rfl))) rfl), (rx_inS (rx_T1 (List.mem_of_getElem? (i := 11) (by decide +kernel))) rfl), by decide, by decide, by decide +kernel⟩
theorem lk_Cutter_109 : rx_lkm "DeflateEffort$Cutter" 109 y_Block_keep := Or.inl (rx_inS (rx_T5 (List.mem_of_getElem? (i := 23) (by decide +kernel))) rfl)
theorem ci_Block_keep : Cond.instanceMethod y_Block_keep ∈ rx_Ts ∧ Cond.selects "DeflateEffort$Block" y_Block_keep y_Block_keep ∈ rx_Ts := ⟨(rx_inS (rx_T5 (List.mem_of_getElem? (i := 24) (by decide +kernel))) rfl), (rx_inS (rx_T5 (List.mem_of_getElem? (i := 25) (by decide +kernel))) rfl)⟩
set_option maxRecDepth 20000 in
theorem cw_Cutter_takeBest : rx_cw y_Cutter_takeBest b_Cutter_takeBest 4 none 1 := ⟨(rx_inS (rx_T5 (List.mem_of_getElem? (i := 31) (rfl))) rfl), (rx_inS (rx_T1 (List.mem_of_getElem? (i := 4) (by decide +kernel))) rfl), by decide, by decide, by decide +kernel⟩
theorem lk_Cutter_113 : rx_lkm "DeflateEffort$Cutter" 113 y_Cutter_takeBest := Or.inl (rx_inS (rx_T5 (List.mem_of_getElem? (i := 28) (by decide +kernel))) rfl)
theorem ci_Cutter_takeBest : Cond.instanceMethod y_Cutter_takeBest ∈ rx_Ts ∧ Cond.selects "DeflateEffort$Cutter" y_Cutter_takeBest y_Cutter_takeBest ∈ rx_Ts := ⟨(rx_inS (rx_T5 (List.mem_of_getElem? (i := 30) (by decide +kernel))) rfl), (rx_inP 17 (by decide +kernel) rfl)⟩
theorem mf_Cutter_planOf : rx_M "DeflateEffort$Cutter" "planOf" y_Cutter_planOf := ⟨by decide +kernel, rfl, rfl, by decide +kernel⟩
theorem fa_Cutter_163 : rx_fld "DeflateEffort$Cutter" 163 0 5 .int false := ⟨"DeflateEffort$Block", Tc_Block, 9, tyc_Block, rfl, by decide, inc_Block, tyok_Block, nmc_Block, rfl, rfl, by decide +kernel, Or.inl (rx_inS (rx_T2 (List.mem_of_getElem? (i := 15) (by decide +kernel))) rfl)⟩
theorem fa_Cutter_166 : rx_fld "DeflateEffort$Cutter" 166 0 0 (.array .int) true := ⟨"DeflateEffort$Block", Tc_Block, 9, tyc_Block, rfl, by decide, inc_Block, tyok_Block, nmc_Block, rfl, rfl, by decide +kernel, Or.inl (rx_inS (rx_T2 (List.mem_of_getElem? (i := 2) (by decide +kernel))) rfl)⟩
theorem fa_Cutter_169 : rx_fld "DeflateEffort$Cutter" 169 0 1 .int false := ⟨"DeflateEffort$Block", Tc_Block, 9, tyc_Block, rfl, by decide, inc_Block, tyok_Block, nmc_Block, rfl, rfl, by decide +kernel, Or.inl (rx_inS (rx_T2 (List.mem_of_getElem? (i := 5) (by decide +kernel))) rfl)⟩
theorem mf_LengthRow_extraAt : rx_M "DeflateEffort$LengthRow" "extraAt" y_LengthRow_extraAt := ⟨by decide +kernel, rfl, rfl, by decide +kernel⟩
theorem mf_Reader_restart : rx_M "DeflateEffort$Reader" "restart" y_Reader_restart := ⟨by decide +kernel, rfl, rfl, by decide +kernel⟩
theorem fa_Reader_9 : rx_fld "DeflateEffort$Reader" 9 9 2 .int false := ⟨"DeflateEffort$Reader", Tc_Reader, 16, tyc_Reader, rfl, by decide, inc_Reader, tyok_Reader, nmc_Reader, rfl, rfl, by decide +kernel, Or.inl (rx_inS (rx_T2 (List.mem_of_getElem? (i := 135) (by decide +kernel))) rfl)⟩
theorem fa_Reader_15 : rx_fld "DeflateEffort$Reader" 15 9 3 .int false := ⟨"DeflateEffort$Reader", Tc_Reader, 16, tyc_Reader, rfl, by decide, inc_Reader, tyok_Reader, nmc_Reader, rfl, rfl, by decide +kernel, Or.inl (rx_inS (rx_T2 (List.mem_of_getElem? (i := 137) (by decide +kernel))) rfl)⟩
theorem fa_Reader_18 : rx_fld "DeflateEffort$Reader" 18 9 4 .int false := ⟨"DeflateEffort$Reader", Tc_Reader, 16, tyc_Reader, rfl, by decide, inc_Reader, tyok_Reader, nmc_Reader, rfl, rfl, by decide +kernel, Or.inl (rx_inS (rx_T2 (List.mem_of_getElem? (i := 139) (by decide +kernel))) rfl)⟩
theorem fa_Reader_61 : rx_fld "DeflateEffort$Reader" 61 9 0 (.array .int) true := ⟨"DeflateEffort$Reader", Tc_Reader, 16, tyc_Reader, rfl, by decide, inc_Reader, tyok_Reader, nmc_Reader, rfl, rfl, by decide +kernel, Or.inl (rx_inS (rx_T2 (List.mem_of_getElem? (i := 132) (by decide +kernel))) rfl)⟩
theorem mk_Reader_87 : Cond.methodLink "DeflateEffort$Reader" 87 Lib.Math.min.name ∈ rx_Ts := (rx_inS (rx_T5 (List.mem_of_getElem? (i := 116) (by decide +kernel))) rfl)
theorem fa_Reader_21 : rx_fld "DeflateEffort$Reader" 21 9 5 .int false := ⟨"DeflateEffort$Reader", Tc_Reader, 16, tyc_Reader, rfl, by decide, inc_Reader, tyok_Reader, nmc_Reader, rfl, rfl, by decide +kernel, Or.inl (rx_inS (rx_T2 (List.mem_of_getElem? (i := 140) (by decide +kernel))) rfl)⟩
theorem fa_Reader_24 : rx_fld "DeflateEffort$Reader" 24 9 6 .int false := ⟨"DeflateEffort$Reader", Tc_Reader, 16, tyc_Reader, rfl, by decide, inc_Reader, tyok_Reader, nmc_Reader, rfl, rfl, by decide +kernel, Or.inl (rx_inS (rx_T2 (List.mem_of_getElem? (i := 141) (by decide +kernel))) rfl)⟩
theorem mf_Reader_takeBits : rx_M "DeflateEffort$Reader" "takeBits" y_Reader_takeBits := ⟨by decide +kernel, rfl, rfl, by decide +kernel⟩
theorem mf_Reader_breakAt : rx_M "DeflateEffort$Reader" "breakAt" y_Reader_breakAt := ⟨by decide +kernel, rfl, rfl, by decide +kernel⟩
theorem mf_Reader_readNumbers : rx_M "DeflateEffort$Reader" "readNumbers" y_Reader_readNumbers := ⟨by decide +kernel, rfl, rfl, by decide +kernel⟩
set_option maxRecDepth 20000 in
theorem cw_Reader_takeBits : rx_cw y_Reader_takeBits b_Reader_takeBits 4 (some .int) 1 := ⟨(rx_inS (rx_T5 (List.mem_of_getElem? (i := 124) (rfl))) rfl), (rx_inS (rx_T1 (List.mem_of_getElem? (i := 12) (by decide +kernel))) rfl), by decide, by decide, by decide +kernel⟩
theorem lk_Reader_96 : rx_lkm "DeflateEffort$Reader" 96 y_Reader_takeBits := Or.inl (rx_inS (rx_T5 (List.mem_of_getElem? (i := 121) (by decide +kernel))) rfl)
theorem ci_Reader_takeBits : Cond.instanceMethod y_Reader_takeBits ∈ rx_Ts ∧ Cond.selects "DeflateEffort$Reader" y_Reader_takeBits y_Reader_takeBits ∈ rx_Ts := ⟨(rx_inS (rx_T5 (List.mem_of_getElem? (i := 123) (by decide +kernel))) rfl), (rx_inP 26 (by decide +kernel) rfl)⟩
theorem fa_Reader_30 : rx_fld "DeflateEffort$Reader" 30 9 8 .int false := ⟨"DeflateEffort$Reader", Tc_Reader, 16, tyc_Reader, rfl, by decide, inc_Reader, tyok_Reader, nmc_Reader, rfl, rfl, by decide +kernel, Or.inl (rx_inS (rx_T2 (List.mem_of_getElem? (i := 143) (by decide +kernel))) rfl)⟩
set_option maxRecDepth 20000 in
theorem cw_Reader_breakAt : rx_cw y_Reader_breakAt b_Reader_breakAt 2 none 1 := ⟨(rx_inS (rx_T5 (List.mem_of_getElem? (i := 133) (rfl))) rfl), (rx_inS (rx_T1 (List.mem_of_getElem? (i := 12) (by decide +kernel))) rfl), by decide, by decide, by decide +kernel⟩
theorem lk_Reader_115 : rx_lkm "DeflateEffort$Reader" 115 y_Reader_breakAt := Or.inl (rx_inS (rx_T5 (List.mem_of_getElem? (i := 130) (by decide +kernel))) rfl)
theorem ci_Reader_breakAt : Cond.instanceMethod y_Reader_breakAt ∈ rx_Ts ∧ Cond.selects "DeflateEffort$Reader" y_Reader_breakAt y_Reader_breakAt ∈ rx_Ts := ⟨(rx_inS (rx_T5 (List.mem_of_getElem? (i := 132) (by decide +kernel))) rfl), (rx_inP 28 (by decide +kernel) rfl)⟩
theorem fa_Reader_33 : rx_fld "DeflateEffort$Reader" 33 9 9 .int false := ⟨"DeflateEffort$Reader", Tc_Reader, 16, tyc_Reader, rfl, by decide, inc_Reader, tyok_Reader, nmc_Reader, rfl, rfl, by decide +kernel, Or.inl (rx_inS (rx_T2 (List.mem_of_getElem? (i := 144) (by decide +kernel))) rfl)⟩
theorem mf_Reader_readLengthsCode : rx_M "DeflateEffort$Reader" "readLengthsCode" y_Reader_readLengthsCode := ⟨by decide +kernel, rfl, rfl, by decide +kernel⟩
theorem fa_Reader_36 : rx_fld "DeflateEffort$Reader" 36 9 10 (.array .int) true := ⟨"DeflateEffort$Reader", Tc_Reader, 16, tyc_Reader, rfl, by decide, inc_Reader, tyok_Reader, nmc_Reader, rfl, rfl, by decide +kernel, Or.inl (rx_inS (rx_T2 (List.mem_of_getElem? (i := 145) (by decide +kernel))) rfl)⟩
theorem lk_Reader_81 : rx_lkm "DeflateEffort$Reader" 81 y_JA_fill2 := Or.inl (rx_inS (rx_T2 (List.mem_of_getElem? (i := 131) (by decide +kernel))) rfl)
theorem sa_Reader_122 : rx_st "DeflateEffort$Reader" 122 4 := ⟨Or.inr ⟨"DeflateEffort", (rx_inNS (rx_T5 (List.mem_of_getElem? (i := 162) (by decide +kernel))) rfl)⟩, by decide⟩
theorem fa_Reader_58 : rx_fld "DeflateEffort$Reader" 58 9 15 (.object "DeflateEffort$CodeSet") true := ⟨"DeflateEffort$Reader", Tc_Reader, 16, tyc_Reader, rfl, by decide, inc_Reader, tyok_Reader, nmc_Reader, rfl, rfl, by decide +kernel, Or.inl (rx_inS (rx_T2 (List.mem_of_getElem? (i := 150) (by decide +kernel))) rfl)⟩
set_option maxRecDepth 20000 in
theorem cw_CodeSet_make : rx_cw y_CodeSet_make b_CodeSet_make 6 none 3 := ⟨(rx_inS (rx_T2 (List.mem_of_getElem? (i := 123) (rfl))) rfl), (rx_inS (rx_T1 (List.mem_of_getElem? (i := 13) (by decide +kernel))) rfl), by decide, by decide, by decide +kernel⟩
theorem lk_Reader_77 : rx_lkm "DeflateEffort$Reader" 77 y_CodeSet_make := Or.inl (rx_inS (rx_T2 (List.mem_of_getElem? (i := 120) (by decide +kernel))) rfl)
theorem ci_CodeSet_make : Cond.instanceMethod y_CodeSet_make ∈ rx_Ts ∧ Cond.selects "DeflateEffort$CodeSet" y_CodeSet_make y_CodeSet_make ∈ rx_Ts := ⟨(rx_inS (rx_T2 (List.mem_of_getElem? (i := 121) (by decide +kernel))) rfl), (rx_inS (rx_T2 (List.mem_of_getElem? (i := 122) (by decide +kernel))) rfl)⟩
theorem lk_Reader_125 : rx_lkm "DeflateEffort$Reader" 125 y_CodeSet_isFull := Or.inl (rx_inS (rx_T5 (List.mem_of_getElem? (i := 163) (by decide +kernel))) rfl)
theorem fa_Reader_27 : rx_fld "DeflateEffort$Reader" 27 9 7 .int false := ⟨"DeflateEffort$Reader", Tc_Reader, 16, tyc_Reader, rfl, by decide, inc_Reader, tyok_Reader, nmc_Reader, rfl, rfl, by decide +kernel, Or.inl (rx_inS (rx_T2 (List.mem_of_getElem? (i := 142) (by decide +kernel))) rfl)⟩
theorem mf_Reader_findSymbol : rx_M "DeflateEffort$Reader" "findSymbol" y_Reader_findSymbol := ⟨by decide +kernel, rfl, rfl, by decide +kernel⟩
theorem fa_Reader_142 : rx_fld "DeflateEffort$Reader" 142 2 4 .int false := ⟨"DeflateEffort$CodeSet", Tc_CodeSet, 6, tyc_CodeSet, rfl, by decide, inc_CodeSet, tyok_CodeSet, nmc_CodeSet, rfl, rfl, by decide +kernel, Or.inl (rx_inS (rx_T2 (List.mem_of_getElem? (i := 101) (by decide +kernel))) rfl)⟩
theorem fa_Reader_145 : rx_fld "DeflateEffort$Reader" 145 2 0 (.array .int) true := ⟨"DeflateEffort$CodeSet", Tc_CodeSet, 6, tyc_CodeSet, rfl, by decide, inc_CodeSet, tyok_CodeSet, nmc_CodeSet, rfl, rfl, by decide +kernel, Or.inl (rx_inS (rx_T2 (List.mem_of_getElem? (i := 95) (by decide +kernel))) rfl)⟩
theorem fa_Reader_148 : rx_fld "DeflateEffort$Reader" 148 2 1 (.array .int) true := ⟨"DeflateEffort$CodeSet", Tc_CodeSet, 6, tyc_CodeSet, rfl, by decide, inc_CodeSet, tyok_CodeSet, nmc_CodeSet, rfl, rfl, by decide +kernel, Or.inl (rx_inS (rx_T2 (List.mem_of_getElem? (i := 97) (by decide +kernel))) rfl)⟩
theorem mf_Reader_readLengths : rx_M "DeflateEffort$Reader" "readLengths" y_Reader_readLengths := ⟨by decide +kernel, rfl, rfl, by decide +kernel⟩
set_option maxRecDepth 20000 in
theorem cw_Reader_findSymbol : rx_cw y_Reader_findSymbol b_Reader_findSymbol 8 (some .int) 1 := ⟨(rx_inS (rx_T5 (List.mem_of_getElem? (i := 145) (rfl))) rfl), (rx_inS (rx_T1 (List.mem_of_getElem? (i := 12) (by decide +kernel))) rfl), by decide, by decide, by decide +kernel⟩
theorem lk_Reader_135 : rx_lkm "DeflateEffort$Reader" 135 y_Reader_findSymbol := Or.inl (rx_inS (rx_T5 (List.mem_of_getElem? (i := 142) (by decide +kernel))) rfl)
theorem ci_Reader_findSymbol : Cond.instanceMethod y_Reader_findSymbol ∈ rx_Ts ∧ Cond.selects "DeflateEffort$Reader" y_Reader_findSymbol y_Reader_findSymbol ∈ rx_Ts := ⟨(rx_inS (rx_T5 (List.mem_of_getElem? (i := 144) (by decide +kernel))) rfl), (rx_inP 31 (by decide +kernel) rfl)⟩
theorem lk_Reader_139 : rx_lkm "DeflateEffort$Reader" 139 y_DE_repeatExtra := Or.inr ⟨"DeflateEffort", (rx_inNS (rx_T5 (List.mem_of_getElem? (i := 175) (by decide +kernel))) rfl)⟩
theorem mf_Reader_readRow : rx_M "DeflateEffort$Reader" "readRow" y_Reader_readRow := ⟨by decide +kernel, rfl, rfl, by decide +kernel⟩
set_option maxRecDepth 20000 in
theorem cw_Reader_readLengths : rx_cw y_Reader_readLengths b_Reader_readLengths 9 (some .int) 2 := ⟨(rx_inS (rx_T5 (List.mem_of_getElem? (i := 174) (rfl))) rfl), (rx_inS (rx_T1 (List.mem_of_getElem? (i := 12) (by decide +kernel))) rfl), by decide, by decide, by decide +kernel⟩
theorem lk_Reader_129 : rx_lkm "DeflateEffort$Reader" 129 y_Reader_readLengths := Or.inl (rx_inS (rx_T5 (List.mem_of_getElem? (i := 171) (by decide +kernel))) rfl)
theorem ci_Reader_readLengths : Cond.instanceMethod y_Reader_readLengths ∈ rx_Ts ∧ Cond.selects "DeflateEffort$Reader" y_Reader_readLengths y_Reader_readLengths ∈ rx_Ts := ⟨(rx_inS (rx_T5 (List.mem_of_getElem? (i := 173) (by decide +kernel))) rfl), (rx_inP 36 (by decide +kernel) rfl)⟩
theorem fa_Reader_52 : rx_fld "DeflateEffort$Reader" 52 9 13 (.object "DeflateEffort$CodeSet") true := ⟨"DeflateEffort$Reader", Tc_Reader, 16, tyc_Reader, rfl, by decide, inc_Reader, tyok_Reader, nmc_Reader, rfl, rfl, by decide +kernel, Or.inl (rx_inS (rx_T2 (List.mem_of_getElem? (i := 148) (by decide +kernel))) rfl)⟩
theorem fa_Reader_55 : rx_fld "DeflateEffort$Reader" 55 9 14 (.object "DeflateEffort$CodeSet") true := ⟨"DeflateEffort$Reader", Tc_Reader, 16, tyc_Reader, rfl, by decide, inc_Reader, tyok_Reader, nmc_Reader, rfl, rfl, by decide +kernel, Or.inl (rx_inS (rx_T2 (List.mem_of_getElem? (i := 149) (by decide +kernel))) rfl)⟩
set_option maxRecDepth 20000 in
theorem cw_CodeSet_mayStandForDistances : rx_cw y_CodeSet_mayStandForDistances b_CodeSet_mayStandForDistances 1 (some .boolean) 0 := ⟨(rx_inS (rx_T5 (List.mem_of_getElem? (i := 179) (rfl))) rfl), (rx_inS (rx_T1 (List.mem_of_getElem? (i := 13) (by decide +kernel))) rfl), by decide, by decide, by decide +kernel⟩
theorem lk_Reader_132 : rx_lkm "DeflateEffort$Reader" 132 y_CodeSet_mayStandForDistances := Or.inl (rx_inS (rx_T5 (List.mem_of_getElem? (i := 176) (by decide +kernel))) rfl)
theorem ci_CodeSet_mayStandForDistances : Cond.instanceMethod y_CodeSet_mayStandForDistances ∈ rx_Ts ∧ Cond.selects "DeflateEffort$CodeSet" y_CodeSet_mayStandForDistances y_CodeSet_mayStandForDistances ∈ rx_Ts := ⟨(rx_inS (rx_T5 (List.mem_of_getElem? (i := 177) (by decide +kernel))) rfl), (rx_inS (rx_T5 (List.mem_of_getElem? (i := 178) (by decide +kernel))) rfl)⟩
theorem mf_Reader_addByte : rx_M "DeflateEffort$Reader" "addByte" y_Reader_addByte := ⟨by decide +kernel, rfl, rfl, by decide +kernel⟩
theorem fa_Reader_70 : rx_fld "DeflateEffort$Reader" 70 9 1 (.array .int) true := ⟨"DeflateEffort$Reader", Tc_Reader, 16, tyc_Reader, rfl, by decide, inc_Reader, tyok_Reader, nmc_Reader, rfl, rfl, by decide +kernel, Or.inl (rx_inS (rx_T2 (List.mem_of_getElem? (i := 133) (by decide +kernel))) rfl)⟩
theorem mf_Reader_readMatch : rx_M "DeflateEffort$Reader" "readMatch" y_Reader_readMatch := ⟨by decide +kernel, rfl, rfl, by decide +kernel⟩
theorem sa_Reader_155 : rx_st "DeflateEffort$Reader" 155 1 := ⟨Or.inr ⟨"DeflateEffort", (rx_inNS (rx_T5 (List.mem_of_getElem? (i := 150) (by decide +kernel))) rfl)⟩, by decide⟩
theorem sa_Reader_158 : rx_st "DeflateEffort$Reader" 158 0 := ⟨Or.inr ⟨"DeflateEffort", (rx_inNS (rx_T5 (List.mem_of_getElem? (i := 151) (by decide +kernel))) rfl)⟩, by decide⟩
theorem sa_Reader_161 : rx_st "DeflateEffort$Reader" 161 3 := ⟨Or.inr ⟨"DeflateEffort", (rx_inNS (rx_T5 (List.mem_of_getElem? (i := 152) (by decide +kernel))) rfl)⟩, by decide⟩
theorem sa_Reader_164 : rx_st "DeflateEffort$Reader" 164 2 := ⟨Or.inr ⟨"DeflateEffort", (rx_inNS (rx_T5 (List.mem_of_getElem? (i := 153) (by decide +kernel))) rfl)⟩, by decide⟩
set_option maxRecDepth 20000 in
theorem cw_Reader_addByte : rx_cw y_Reader_addByte b_Reader_addByte 2 none 1 := ⟨(rx_inS (rx_T5 (List.mem_of_getElem? (i := 137) (rfl))) rfl), (rx_inS (rx_T1 (List.mem_of_getElem? (i := 12) (by decide +kernel))) rfl), by decide, by decide, by decide +kernel⟩
theorem lk_Reader_119 : rx_lkm "DeflateEffort$Reader" 119 y_Reader_addByte := Or.inl (rx_inS (rx_T5 (List.mem_of_getElem? (i := 134) (by decide +kernel))) rfl)
theorem ci_Reader_addByte : Cond.instanceMethod y_Reader_addByte ∈ rx_Ts ∧ Cond.selects "DeflateEffort$Reader" y_Reader_addByte y_Reader_addByte ∈ rx_Ts := ⟨(rx_inS (rx_T5 (List.mem_of_getElem? (i := 136) (by decide +kernel))) rfl), (rx_inP 29 (by decide +kernel) rfl)⟩
theorem mf_Reader_readSymbols : rx_M "DeflateEffort$Reader" "readSymbols" y_Reader_readSymbols := ⟨by decide +kernel, rfl, rfl, by decide +kernel⟩
set_option maxRecDepth 20000 in
theorem cw_Reader_readMatch : rx_cw y_Reader_readMatch b_Reader_readMatch 11 none 3 := ⟨(rx_inS (rx_T5 (List.mem_of_getElem? (i := 149) (rfl))) rfl), (rx_inS (rx_T1 (List.mem_of_getElem? (i := 12) (by decide +kernel))) rfl), by decide, by decide, by decide +kernel⟩
theorem lk_Reader_151 : rx_lkm "DeflateEffort$Reader" 151 y_Reader_readMatch := Or.inl (rx_inS (rx_T5 (List.mem_of_getElem? (i := 146) (by decide +kernel))) rfl)
theorem ci_Reader_readMatch : Cond.instanceMethod y_Reader_readMatch ∈ rx_Ts ∧ Cond.selects "DeflateEffort$Reader" y_Reader_readMatch y_Reader_readMatch ∈ rx_Ts := ⟨(rx_inS (rx_T5 (List.mem_of_getElem? (i := 148) (by decide +kernel))) rfl), (rx_inP 32 (by decide +kernel) rfl)⟩
theorem mf_Reader_readStored : rx_M "DeflateEffort$Reader" "readStored" y_Reader_readStored := ⟨by decide +kernel, rfl, rfl, by decide +kernel⟩
theorem kc_Reader_118 : Cond.constant "DeflateEffort$Reader" 118 (65535) ∈ rx_Ts := (rx_inS (rx_T5 (List.mem_of_getElem? (i := 129) (by decide +kernel))) rfl)
theorem mf_Reader_readBlock : rx_M "DeflateEffort$Reader" "readBlock" y_Reader_readBlock := ⟨by decide +kernel, rfl, rfl, by decide +kernel⟩
set_option maxRecDepth 20000 in
theorem cw_Reader_readStored : rx_cw y_Reader_readStored b_Reader_readStored 6 none 0 := ⟨(rx_inS (rx_T5 (List.mem_of_getElem? (i := 128) (rfl))) rfl), (rx_inS (rx_T1 (List.mem_of_getElem? (i := 12) (by decide +kernel))) rfl), by decide, by decide, by decide +kernel⟩
theorem lk_Reader_99 : rx_lkm "DeflateEffort$Reader" 99 y_Reader_readStored := Or.inl (rx_inS (rx_T5 (List.mem_of_getElem? (i := 125) (by decide +kernel))) rfl)
theorem ci_Reader_readStored : Cond.instanceMethod y_Reader_readStored ∈ rx_Ts ∧ Cond.selects "DeflateEffort$Reader" y_Reader_readStored y_Reader_readStored ∈ rx_Ts := ⟨(rx_inS (rx_T5 (List.mem_of_getElem? (i := 127) (by decide +kernel))) rfl), (rx_inP 27 (by decide +kernel) rfl)⟩
theorem fa_Reader_45 : rx_fld "DeflateEffort$Reader" 45 9 11 (.object "DeflateEffort$CodeSet") true := ⟨"DeflateEffort$Reader", Tc_Reader, 16, tyc_Reader, rfl, by decide, inc_Reader, tyok_Reader, nmc_Reader, rfl, rfl, by decide +kernel, Or.inl (rx_inS (rx_T2 (List.mem_of_getElem? (i := 146) (by decide +kernel))) rfl)⟩
theorem fa_Reader_49 : rx_fld "DeflateEffort$Reader" 49 9 12 (.object "DeflateEffort$CodeSet") true := ⟨"DeflateEffort$Reader", Tc_Reader, 16, tyc_Reader, rfl, by decide, inc_Reader, tyok_Reader, nmc_Reader, rfl, rfl, by decide +kernel, Or.inl (rx_inS (rx_T2 (List.mem_of_getElem? (i := 147) (by decide +kernel))) rfl)⟩
set_option maxRecDepth 20000 in
theorem cw_Reader_readSymbols : rx_cw y_Reader_readSymbols b_Reader_readSymbols 6 none 2 := ⟨(rx_inS (rx_T5 (List.mem_of_getElem? (i := 141) (rfl))) rfl), (rx_inS (rx_T1 (List.mem_of_getElem? (i := 12) (by decide +kernel))) rfl), by decide, by decide, by decide +kernel⟩
theorem lk_Reader_102 : rx_lkm "DeflateEffort$Reader" 102 y_Reader_readSymbols := Or.inl (rx_inS (rx_T5 (List.mem_of_getElem? (i := 138) (by decide +kernel))) rfl)
theorem ci_Reader_readSymbols : Cond.instanceMethod y_Reader_readSymbols ∈ rx_Ts ∧ Cond.selects "DeflateEffort$Reader" y_Reader_readSymbols y_Reader_readSymbols ∈ rx_Ts := ⟨(rx_inS (rx_T5 (List.mem_of_getElem? (i := 140) (by decide +kernel))) rfl), (rx_inP 30 (by decide +kernel) rfl)⟩
set_option maxRecDepth 20000 in
theorem cw_Reader_readNumbers : rx_cw y_Reader_readNumbers b_Reader_readNumbers 3 none 0 := ⟨(rx_inS (rx_T5 (List.mem_of_getElem? (i := 157) (rfl))) rfl), (rx_inS (rx_T1 (List.mem_of_getElem? (i := 12) (by decide +kernel))) rfl), by decide, by decide, by decide +kernel⟩
theorem lk_Reader_106 : rx_lkm "DeflateEffort$Reader" 106 y_Reader_readNumbers := Or.inl (rx_inS (rx_T5 (List.mem_of_getElem? (i := 154) (by decide +kernel))) rfl)
theorem ci_Reader_readNumbers : Cond.instanceMethod y_Reader_readNumbers ∈ rx_Ts ∧ Cond.selects "DeflateEffort$Reader" y_Reader_readNumbers y_Reader_readNumbers ∈ rx_Ts := ⟨(rx_inS (rx_T5 (List.mem_of_getElem? (i := 156) (by decide +kernel))) rfl), (rx_inP 33 (by decide +kernel) rfl)⟩
set_option maxRecDepth 20000 in
theorem cw_Reader_readLengthsCode : rx_cw y_Reader_readLengthsCode b_Reader_readLengthsCode 4 none 0 := ⟨(rx_inS (rx_T5 (List.mem_of_getElem? (i := 161) (rfl))) rfl), (rx_inS (rx_T1 (List.mem_of_getElem? (i := 12) (by decide +kernel))) rfl), by decide, by decide, by decide +kernel⟩
theorem lk_Reader_109 : rx_lkm "DeflateEffort$Reader" 109 y_Reader_readLengthsCode := Or.inl (rx_inS (rx_T5 (List.mem_of_getElem? (i := 158) (by decide +kernel))) rfl)
theorem ci_Reader_readLengthsCode : Cond.instanceMethod y_Reader_readLengthsCode ∈ rx_Ts ∧ Cond.selects "DeflateEffort$Reader" y_Reader_readLengthsCode y_Reader_readLengthsCode ∈ rx_Ts := ⟨(rx_inS (rx_T5 (List.mem_of_getElem? (i := 160) (by decide +kernel))) rfl), (rx_inP 34 (by decide +kernel) rfl)⟩
set_option maxRecDepth 20000 in
theorem cw_Reader_readRow : rx_cw y_Reader_readRow b_Reader_readRow 4 none 0 := ⟨(rx_inS (rx_T5 (List.mem_of_getElem? (i := 170) (rfl))) rfl), (rx_inS (rx_T1 (List.mem_of_getElem? (i := 12) (by decide +kernel))) rfl), by decide, by decide, by decide +kernel⟩
theorem lk_Reader_112 : rx_lkm "DeflateEffort$Reader" 112 y_Reader_readRow := Or.inl (rx_inS (rx_T5 (List.mem_of_getElem? (i := 167) (by decide +kernel))) rfl)
theorem ci_Reader_readRow : Cond.instanceMethod y_Reader_readRow ∈ rx_Ts ∧ Cond.selects "DeflateEffort$Reader" y_Reader_readRow y_Reader_readRow ∈ rx_Ts := ⟨(rx_inS (rx_T5 (List.mem_of_getElem? (i := 169) (by decide +kernel))) rfl), (rx_inP 35 (by decide +kernel) rfl)⟩
theorem mf_Reader_readAll : rx_M "DeflateEffort$Reader" "readAll" y_Reader_readAll := ⟨by decide +kernel, rfl, rfl, by decide +kernel⟩
set_option maxRecDepth 20000 in
theorem cw_Reader_restart : rx_cw y_Reader_restart b_Reader_restart 2 none 1 := ⟨(rx_inS (rx_T5 (List.mem_of_getElem? (i := 115) (rfl))) rfl), (rx_inS (rx_T1 (List.mem_of_getElem? (i := 12) (by decide +kernel))) rfl), by decide, by decide, by decide +kernel⟩
theorem lk_Reader_90 : rx_lkm "DeflateEffort$Reader" 90 y_Reader_restart := Or.inl (rx_inS (rx_T5 (List.mem_of_getElem? (i := 112) (by decide +kernel))) rfl)
theorem ci_Reader_restart : Cond.instanceMethod y_Reader_restart ∈ rx_Ts ∧ Cond.selects "DeflateEffort$Reader" y_Reader_restart y_Reader_restart ∈ rx_Ts := ⟨(rx_inS (rx_T5 (List.mem_of_getElem? (i := 113) (by decide +kernel))) rfl), (rx_inS (rx_T5 (List.mem_of_getElem? (i := 114) (by decide +kernel))) rfl)⟩
set_option maxRecDepth 20000 in
theorem cw_Reader_readBlock : rx_cw y_Reader_readBlock b_Reader_readBlock 2 none 0 := ⟨(rx_inS (rx_T5 (List.mem_of_getElem? (i := 120) (rfl))) rfl), (rx_inS (rx_T1 (List.mem_of_getElem? (i := 12) (by decide +kernel))) rfl), by decide, by decide, by decide +kernel⟩
theorem lk_Reader_93 : rx_lkm "DeflateEffort$Reader" 93 y_Reader_readBlock := Or.inl (rx_inS (rx_T5 (List.mem_of_getElem? (i := 117) (by decide +kernel))) rfl)
theorem ci_Reader_readBlock : Cond.instanceMethod y_Reader_readBlock ∈ rx_Ts ∧ Cond.selects "DeflateEffort$Reader" y_Reader_readBlock y_Reader_readBlock ∈ rx_Ts := ⟨(rx_inS (rx_T5 (List.mem_of_getElem? (i := 119) (by decide +kernel))) rfl), (rx_inP 25 (by decide +kernel) rfl)⟩
theorem mf_Writer_restart : rx_M "DeflateEffort$Writer" "restart" y_Writer_restart := ⟨by decide +kernel, rfl, rfl, by decide +kernel⟩
theorem fa_Writer_9 : rx_fld "DeflateEffort$Writer" 9 10 0 (.array .int) true := ⟨"DeflateEffort$Writer", Tc_Writer, 6, tyc_Writer, rfl, by decide, inc_Writer, tyok_Writer, nmc_Writer, rfl, rfl, by decide +kernel, Or.inl (rx_inS (rx_T1 (List.mem_of_getElem? (i := 46) (by decide +kernel))) rfl)⟩
theorem lk_Writer_31 : rx_lkm "DeflateEffort$Writer" 31 y_JA_fill2 := Or.inl (rx_inS (rx_T5 (List.mem_of_getElem? (i := 36) (by decide +kernel))) rfl)
theorem fa_Writer_15 : rx_fld "DeflateEffort$Writer" 15 10 1 .int false := ⟨"DeflateEffort$Writer", Tc_Writer, 6, tyc_Writer, rfl, by decide, inc_Writer, tyok_Writer, nmc_Writer, rfl, rfl, by decide +kernel, Or.inl (rx_inS (rx_T1 (List.mem_of_getElem? (i := 47) (by decide +kernel))) rfl)⟩
theorem mf_Writer_byteCount : rx_M "DeflateEffort$Writer" "byteCount" y_Writer_byteCount := ⟨by decide +kernel, rfl, rfl, by decide +kernel⟩
theorem mf_Writer_cameAt : rx_M "DeflateEffort$Writer" "cameAt" y_Writer_cameAt := ⟨by decide +kernel, rfl, rfl, by decide +kernel⟩
theorem mf_Writer_putBit : rx_M "DeflateEffort$Writer" "putBit" y_Writer_putBit := ⟨by decide +kernel, rfl, rfl, by decide +kernel⟩
theorem mf_Writer_putBits : rx_M "DeflateEffort$Writer" "putBits" y_Writer_putBits := ⟨by decide +kernel, rfl, rfl, by decide +kernel⟩
set_option maxRecDepth 20000 in
theorem cw_Writer_putBit : rx_cw y_Writer_putBit b_Writer_putBit 3 none 1 := ⟨(rx_inS (rx_T5 (List.mem_of_getElem? (i := 52) (rfl))) rfl), (rx_inS (rx_T1 (List.mem_of_getElem? (i := 2) (by decide +kernel))) rfl), by decide, by decide, by decide +kernel⟩
theorem lk_Writer_37 : rx_lkm "DeflateEffort$Writer" 37 y_Writer_putBit := Or.inl (rx_inS (rx_T5 (List.mem_of_getElem? (i := 49) (by decide +kernel))) rfl)
theorem ci_Writer_putBit : Cond.instanceMethod y_Writer_putBit ∈ rx_Ts ∧ Cond.selects "DeflateEffort$Writer" y_Writer_putBit y_Writer_putBit ∈ rx_Ts := ⟨(rx_inS (rx_T5 (List.mem_of_getElem? (i := 51) (by decide +kernel))) rfl), (rx_inP 19 (by decide +kernel) rfl)⟩
theorem mf_Writer_putCode : rx_M "DeflateEffort$Writer" "putCode" y_Writer_putCode := ⟨by decide +kernel, rfl, rfl, by decide +kernel⟩
theorem mf_Writer_putStored : rx_M "DeflateEffort$Writer" "putStored" y_Writer_putStored := ⟨by decide +kernel, rfl, rfl, by decide +kernel⟩
set_option maxRecDepth 20000 in
theorem cw_Writer_putBits : rx_cw y_Writer_putBits b_Writer_putBits 4 none 2 := ⟨(rx_inS (rx_T5 (List.mem_of_getElem? (i := 48) (rfl))) rfl), (rx_inS (rx_T1 (List.mem_of_getElem? (i := 2) (by decide +kernel))) rfl), by decide, by decide, by decide +kernel⟩
theorem lk_Writer_41 : rx_lkm "DeflateEffort$Writer" 41 y_Writer_putBits := Or.inl (rx_inS (rx_T5 (List.mem_of_getElem? (i := 45) (by decide +kernel))) rfl)
theorem ci_Writer_putBits : Cond.instanceMethod y_Writer_putBits ∈ rx_Ts ∧ Cond.selects "DeflateEffort$Writer" y_Writer_putBits y_Writer_putBits ∈ rx_Ts := ⟨(rx_inS (rx_T5 (List.mem_of_getElem? (i := 47) (by decide +kernel))) rfl), (rx_inP 18 (by decide +kernel) rfl)⟩
theorem mf_Writer_giveCodes : rx_M "DeflateEffort$Writer" "giveCodes" y_Writer_giveCodes := ⟨by decide +kernel, rfl, rfl, by decide +kernel⟩
theorem fa_Writer_28 : rx_fld "DeflateEffort$Writer" 28 10 5 (.array .int) true := ⟨"DeflateEffort$Writer", Tc_Writer, 6, tyc_Writer, rfl, by decide, inc_Writer, tyok_Writer, nmc_Writer, rfl, rfl, by decide +kernel, Or.inl (rx_inS (rx_T1 (List.mem_of_getElem? (i := 51) (by decide +kernel))) rfl)⟩
theorem mf_Writer_putRow : rx_M "DeflateEffort$Writer" "putRow" y_Writer_putRow := ⟨by decide +kernel, rfl, rfl, by decide +kernel⟩
theorem fa_Writer_96 : rx_fld "DeflateEffort$Writer" 96 5 3 .int false := ⟨"DeflateEffort$LengthRow", Tc_LengthRow, 6, tyc_LengthRow, rfl, by decide, inc_LengthRow, tyok_LengthRow, nmc_LengthRow, rfl, rfl, by decide +kernel, Or.inl (rx_inS (rx_T1 (List.mem_of_getElem? (i := 128) (by decide +kernel))) rfl)⟩
theorem fa_Writer_98 : rx_fld "DeflateEffort$Writer" 98 5 4 .int false := ⟨"DeflateEffort$LengthRow", Tc_LengthRow, 6, tyc_LengthRow, rfl, by decide, inc_LengthRow, tyok_LengthRow, nmc_LengthRow, rfl, rfl, by decide +kernel, Or.inl (rx_inS (rx_T1 (List.mem_of_getElem? (i := 130) (by decide +kernel))) rfl)⟩
theorem fa_Writer_100 : rx_fld "DeflateEffort$Writer" 100 5 5 .int false := ⟨"DeflateEffort$LengthRow", Tc_LengthRow, 6, tyc_LengthRow, rfl, by decide, inc_LengthRow, tyok_LengthRow, nmc_LengthRow, rfl, rfl, by decide +kernel, Or.inl (rx_inS (rx_T1 (List.mem_of_getElem? (i := 132) (by decide +kernel))) rfl)⟩
theorem fa_Writer_66 : rx_fld "DeflateEffort$Writer" 66 5 0 (.object "DeflateEffort$Code") true := ⟨"DeflateEffort$LengthRow", Tc_LengthRow, 6, tyc_LengthRow, rfl, by decide, inc_LengthRow, tyok_LengthRow, nmc_LengthRow, rfl, rfl, by decide +kernel, Or.inl (rx_inS (rx_T1 (List.mem_of_getElem? (i := 123) (by decide +kernel))) rfl)⟩
theorem fa_Writer_54 : rx_fld "DeflateEffort$Writer" 54 1 1 (.array .int) true := ⟨"DeflateEffort$Code", Tc_Code, 2, tyc_Code, rfl, by decide, inc_Code, tyok_Code, nmc_Code, rfl, rfl, by decide +kernel, Or.inl (rx_inS (rx_T1 (List.mem_of_getElem? (i := 116) (by decide +kernel))) rfl)⟩
theorem sa_Writer_103 : rx_st "DeflateEffort$Writer" 103 4 := ⟨Or.inr ⟨"DeflateEffort", (rx_inNS (rx_T5 (List.mem_of_getElem? (i := 69) (by decide +kernel))) rfl)⟩, by decide⟩
theorem fa_Writer_106 : rx_fld "DeflateEffort$Writer" 106 5 2 .int false := ⟨"DeflateEffort$LengthRow", Tc_LengthRow, 6, tyc_LengthRow, rfl, by decide, inc_LengthRow, tyok_LengthRow, nmc_LengthRow, rfl, rfl, by decide +kernel, Or.inl (rx_inS (rx_T1 (List.mem_of_getElem? (i := 126) (by decide +kernel))) rfl)⟩
theorem lk_Writer_107 : rx_lkm "DeflateEffort$Writer" 107 y_LengthRow_symbolAt := Or.inl (rx_inS (rx_T5 (List.mem_of_getElem? (i := 70) (by decide +kernel))) rfl)
theorem fa_Writer_25 : rx_fld "DeflateEffort$Writer" 25 10 4 (.array .int) true := ⟨"DeflateEffort$Writer", Tc_Writer, 6, tyc_Writer, rfl, by decide, inc_Writer, tyok_Writer, nmc_Writer, rfl, rfl, by decide +kernel, Or.inl (rx_inS (rx_T1 (List.mem_of_getElem? (i := 50) (by decide +kernel))) rfl)⟩
set_option maxRecDepth 20000 in
theorem cw_Writer_putCode : rx_cw y_Writer_putCode b_Writer_putCode 4 none 2 := ⟨(rx_inS (rx_T5 (List.mem_of_getElem? (i := 74) (rfl))) rfl), (rx_inS (rx_T1 (List.mem_of_getElem? (i := 2) (by decide +kernel))) rfl), by decide, by decide, by decide +kernel⟩
theorem lk_Writer_110 : rx_lkm "DeflateEffort$Writer" 110 y_Writer_putCode := Or.inl (rx_inS (rx_T5 (List.mem_of_getElem? (i := 71) (by decide +kernel))) rfl)
theorem ci_Writer_putCode : Cond.instanceMethod y_Writer_putCode ∈ rx_Ts ∧ Cond.selects "DeflateEffort$Writer" y_Writer_putCode y_Writer_putCode ∈ rx_Ts := ⟨(rx_inS (rx_T5 (List.mem_of_getElem? (i := 73) (by decide +kernel))) rfl), (rx_inP 22 (by decide +kernel) rfl)⟩
set_option maxRecDepth 20000 in
theorem cw_LengthRow_extraAt : rx_cw y_LengthRow_extraAt b_LengthRow_extraAt 2 (some .int) 1 := ⟨(rx_inS (rx_T5 (List.mem_of_getElem? (i := 78) (rfl))) rfl), (rx_inS (rx_T1 (List.mem_of_getElem? (i := 6) (by decide +kernel))) rfl), by decide, by decide, by decide +kernel⟩
theorem lk_Writer_113 : rx_lkm "DeflateEffort$Writer" 113 y_LengthRow_extraAt := Or.inl (rx_inS (rx_T5 (List.mem_of_getElem? (i := 75) (by decide +kernel))) rfl)
theorem ci_LengthRow_extraAt : Cond.instanceMethod y_LengthRow_extraAt ∈ rx_Ts ∧ Cond.selects "DeflateEffort$LengthRow" y_LengthRow_extraAt y_LengthRow_extraAt ∈ rx_Ts := ⟨(rx_inS (rx_T5 (List.mem_of_getElem? (i := 76) (by decide +kernel))) rfl), (rx_inS (rx_T5 (List.mem_of_getElem? (i := 77) (by decide +kernel))) rfl)⟩
theorem lk_Writer_116 : rx_lkm "DeflateEffort$Writer" 116 y_DE_repeatExtra := Or.inr ⟨"DeflateEffort", (rx_inNS (rx_T5 (List.mem_of_getElem? (i := 79) (by decide +kernel))) rfl)⟩
theorem mf_DE_fixedCode : rx_M "DeflateEffort" "fixedCode" y_DE_fixedCode := ⟨by decide +kernel, rfl, rfl, by decide +kernel⟩
theorem mf_Writer_putLiteral : rx_M "DeflateEffort$Writer" "putLiteral" y_Writer_putLiteral := ⟨by decide +kernel, rfl, rfl, by decide +kernel⟩
set_option maxRecDepth 20000 in
theorem cw_DE_fixedCode : rx_cw y_DE_fixedCode b_DE_fixedCode 1 (some .int) 1 := ⟨(rx_inS (rx_T5 (List.mem_of_getElem? (i := 87) (rfl))) rfl), (rx_inS (rx_T1 (List.mem_of_getElem? (i := 1) (by decide +kernel))) rfl), by decide, by decide, by decide +kernel⟩
theorem lk_Writer_119 : rx_lkm "DeflateEffort$Writer" 119 y_DE_fixedCode := Or.inr ⟨"DeflateEffort", (rx_inNS (rx_T5 (List.mem_of_getElem? (i := 85) (by decide +kernel))) rfl)⟩
theorem cs_DE_fixedCode : Cond.static y_DE_fixedCode ∈ rx_Ts := (rx_inS (rx_T5 (List.mem_of_getElem? (i := 86) (by decide +kernel))) rfl)
theorem lk_Writer_122 : rx_lkm "DeflateEffort$Writer" 122 y_DE_fixedLength := Or.inr ⟨"DeflateEffort", (rx_inNS (rx_T5 (List.mem_of_getElem? (i := 88) (by decide +kernel))) rfl)⟩
theorem fa_Writer_19 : rx_fld "DeflateEffort$Writer" 19 10 2 (.array .int) true := ⟨"DeflateEffort$Writer", Tc_Writer, 6, tyc_Writer, rfl, by decide, inc_Writer, tyok_Writer, nmc_Writer, rfl, rfl, by decide +kernel, Or.inl (rx_inS (rx_T1 (List.mem_of_getElem? (i := 48) (by decide +kernel))) rfl)⟩
theorem fa_Writer_50 : rx_fld "DeflateEffort$Writer" 50 7 3 (.object "DeflateEffort$Code") true := ⟨"DeflateEffort$Plan", Tc_Plan, 7, tyc_Plan, rfl, by decide, inc_Plan, tyok_Plan, nmc_Plan, rfl, rfl, by decide +kernel, Or.inl (rx_inS (rx_T1 (List.mem_of_getElem? (i := 183) (by decide +kernel))) rfl)⟩
theorem mf_Writer_putMatch : rx_M "DeflateEffort$Writer" "putMatch" y_Writer_putMatch := ⟨by decide +kernel, rfl, rfl, by decide +kernel⟩
theorem lk_Writer_125 : rx_lkm "DeflateEffort$Writer" 125 y_DE_lengthSymbol := Or.inr ⟨"DeflateEffort", (rx_inNS (rx_T5 (List.mem_of_getElem? (i := 94) (by decide +kernel))) rfl)⟩
set_option maxRecDepth 20000 in
theorem cw_Writer_putLiteral : rx_cw y_Writer_putLiteral b_Writer_putLiteral 4 none 3 := ⟨(rx_inS (rx_T5 (List.mem_of_getElem? (i := 84) (rfl))) rfl), (rx_inS (rx_T1 (List.mem_of_getElem? (i := 2) (by decide +kernel))) rfl), by decide, by decide, by decide +kernel⟩
theorem lk_Writer_85 : rx_lkm "DeflateEffort$Writer" 85 y_Writer_putLiteral := Or.inl (rx_inS (rx_T5 (List.mem_of_getElem? (i := 81) (by decide +kernel))) rfl)
theorem ci_Writer_putLiteral : Cond.instanceMethod y_Writer_putLiteral ∈ rx_Ts ∧ Cond.selects "DeflateEffort$Writer" y_Writer_putLiteral y_Writer_putLiteral ∈ rx_Ts := ⟨(rx_inS (rx_T5 (List.mem_of_getElem? (i := 83) (by decide +kernel))) rfl), (rx_inP 23 (by decide +kernel) rfl)⟩
theorem sa_Writer_128 : rx_st "DeflateEffort$Writer" 128 0 := ⟨Or.inr ⟨"DeflateEffort", (rx_inNS (rx_T5 (List.mem_of_getElem? (i := 95) (by decide +kernel))) rfl)⟩, by decide⟩
theorem lk_Writer_131 : rx_lkm "DeflateEffort$Writer" 131 y_DE_literalExtra := Or.inr ⟨"DeflateEffort", (rx_inNS (rx_T5 (List.mem_of_getElem? (i := 96) (by decide +kernel))) rfl)⟩
theorem lk_Writer_134 : rx_lkm "DeflateEffort$Writer" 134 y_DE_distanceSymbol := Or.inr ⟨"DeflateEffort", (rx_inNS (rx_T5 (List.mem_of_getElem? (i := 97) (by decide +kernel))) rfl)⟩
theorem fa_Writer_22 : rx_fld "DeflateEffort$Writer" 22 10 3 (.array .int) true := ⟨"DeflateEffort$Writer", Tc_Writer, 6, tyc_Writer, rfl, by decide, inc_Writer, tyok_Writer, nmc_Writer, rfl, rfl, by decide +kernel, Or.inl (rx_inS (rx_T1 (List.mem_of_getElem? (i := 49) (by decide +kernel))) rfl)⟩
theorem fa_Writer_63 : rx_fld "DeflateEffort$Writer" 63 7 4 (.object "DeflateEffort$Code") true := ⟨"DeflateEffort$Plan", Tc_Plan, 7, tyc_Plan, rfl, by decide, inc_Plan, tyok_Plan, nmc_Plan, rfl, rfl, by decide +kernel, Or.inl (rx_inS (rx_T1 (List.mem_of_getElem? (i := 186) (by decide +kernel))) rfl)⟩
theorem sa_Writer_137 : rx_st "DeflateEffort$Writer" 137 2 := ⟨Or.inr ⟨"DeflateEffort", (rx_inNS (rx_T5 (List.mem_of_getElem? (i := 98) (by decide +kernel))) rfl)⟩, by decide⟩
theorem sa_Writer_140 : rx_st "DeflateEffort$Writer" 140 3 := ⟨Or.inr ⟨"DeflateEffort", (rx_inNS (rx_T5 (List.mem_of_getElem? (i := 99) (by decide +kernel))) rfl)⟩, by decide⟩
theorem mf_Writer_putCoded : rx_M "DeflateEffort$Writer" "putCoded" y_Writer_putCoded := ⟨by decide +kernel, rfl, rfl, by decide +kernel⟩
theorem fa_Writer_45 : rx_fld "DeflateEffort$Writer" 45 7 5 .int false := ⟨"DeflateEffort$Plan", Tc_Plan, 7, tyc_Plan, rfl, by decide, inc_Plan, tyok_Plan, nmc_Plan, rfl, rfl, by decide +kernel, Or.inl (rx_inS (rx_T1 (List.mem_of_getElem? (i := 189) (by decide +kernel))) rfl)⟩
set_option maxRecDepth 20000 in
theorem cw_Writer_giveCodes : rx_cw y_Writer_giveCodes b_Writer_giveCodes 4 none 2 := ⟨(rx_inS (rx_T5 (List.mem_of_getElem? (i := 64) (rfl))) rfl), (rx_inS (rx_T1 (List.mem_of_getElem? (i := 2) (by decide +kernel))) rfl), by decide, by decide, by decide +kernel⟩
theorem lk_Writer_59 : rx_lkm "DeflateEffort$Writer" 59 y_Writer_giveCodes := Or.inl (rx_inS (rx_T5 (List.mem_of_getElem? (i := 61) (by decide +kernel))) rfl)
theorem ci_Writer_giveCodes : Cond.instanceMethod y_Writer_giveCodes ∈ rx_Ts ∧ Cond.selects "DeflateEffort$Writer" y_Writer_giveCodes y_Writer_giveCodes ∈ rx_Ts := ⟨(rx_inS (rx_T5 (List.mem_of_getElem? (i := 63) (by decide +kernel))) rfl), (rx_inP 20 (by decide +kernel) rfl)⟩
set_option maxRecDepth 20000 in
theorem cw_Writer_putRow : rx_cw y_Writer_putRow b_Writer_putRow 4 none 1 := ⟨(rx_inS (rx_T5 (List.mem_of_getElem? (i := 68) (rfl))) rfl), (rx_inS (rx_T1 (List.mem_of_getElem? (i := 2) (by decide +kernel))) rfl), by decide, by decide, by decide +kernel⟩
theorem lk_Writer_71 : rx_lkm "DeflateEffort$Writer" 71 y_Writer_putRow := Or.inl (rx_inS (rx_T5 (List.mem_of_getElem? (i := 65) (by decide +kernel))) rfl)
theorem ci_Writer_putRow : Cond.instanceMethod y_Writer_putRow ∈ rx_Ts ∧ Cond.selects "DeflateEffort$Writer" y_Writer_putRow y_Writer_putRow ∈ rx_Ts := ⟨(rx_inS (rx_T5 (List.mem_of_getElem? (i := 67) (by decide +kernel))) rfl), (rx_inP 21 (by decide +kernel) rfl)⟩
theorem fa_Writer_75 : rx_fld "DeflateEffort$Writer" 75 7 1 .int false := ⟨"DeflateEffort$Plan", Tc_Plan, 7, tyc_Plan, rfl, by decide, inc_Plan, tyok_Plan, nmc_Plan, rfl, rfl, by decide +kernel, Or.inl (rx_inS (rx_T1 (List.mem_of_getElem? (i := 178) (by decide +kernel))) rfl)⟩
theorem fa_Writer_78 : rx_fld "DeflateEffort$Writer" 78 7 0 (.array .int) true := ⟨"DeflateEffort$Plan", Tc_Plan, 7, tyc_Plan, rfl, by decide, inc_Plan, tyok_Plan, nmc_Plan, rfl, rfl, by decide +kernel, Or.inl (rx_inS (rx_T1 (List.mem_of_getElem? (i := 175) (by decide +kernel))) rfl)⟩
theorem lk_Writer_81 : rx_lkm "DeflateEffort$Writer" 81 y_DE_tokenLength := Or.inr ⟨"DeflateEffort", (rx_inNS (rx_T5 (List.mem_of_getElem? (i := 80) (by decide +kernel))) rfl)⟩
theorem lk_Writer_89 : rx_lkm "DeflateEffort$Writer" 89 y_DE_tokenDistance := Or.inr ⟨"DeflateEffort", (rx_inNS (rx_T5 (List.mem_of_getElem? (i := 89) (by decide +kernel))) rfl)⟩
set_option maxRecDepth 20000 in
theorem cw_Writer_putMatch : rx_cw y_Writer_putMatch b_Writer_putMatch 7 none 4 := ⟨(rx_inS (rx_T5 (List.mem_of_getElem? (i := 93) (rfl))) rfl), (rx_inS (rx_T1 (List.mem_of_getElem? (i := 2) (by decide +kernel))) rfl), by decide, by decide, by decide +kernel⟩
theorem lk_Writer_92 : rx_lkm "DeflateEffort$Writer" 92 y_Writer_putMatch := Or.inl (rx_inS (rx_T5 (List.mem_of_getElem? (i := 90) (by decide +kernel))) rfl)
theorem ci_Writer_putMatch : Cond.instanceMethod y_Writer_putMatch ∈ rx_Ts ∧ Cond.selects "DeflateEffort$Writer" y_Writer_putMatch y_Writer_putMatch ∈ rx_Ts := ⟨(rx_inS (rx_T5 (List.mem_of_getElem? (i := 92) (by decide +kernel))) rfl), (rx_inP 24 (by decide +kernel) rfl)⟩
theorem mf_DE_isByte : rx_M "DeflateEffort" "isByte" y_DE_isByte := ⟨by decide +kernel, rfl, rfl, by decide +kernel⟩
theorem mf_DE_deflate : rx_M "DeflateEffort" "deflate" y_DE_deflate := ⟨by decide +kernel, rfl, rfl, by decide +kernel⟩
theorem fa_DE_50 : rx_fld "DeflateEffort" 50 11 4 (.object "DeflateEffort$Cutter") true := ⟨"DeflateEffort", Tc_DE, 9, tyc_DE, rfl, by decide, inc_DE, tyok_DE, nmc_DE, rfl, rfl, by decide +kernel, Or.inl (rx_inS (rx_T2 (List.mem_of_getElem? (i := 188) (by decide +kernel))) rfl)⟩
theorem fa_DE_13 : rx_fld "DeflateEffort" 13 11 3 .int false := ⟨"DeflateEffort", Tc_DE, 9, tyc_DE, rfl, by decide, inc_DE, tyok_DE, nmc_DE, rfl, rfl, by decide +kernel, Or.inl (rx_inS (rx_T2 (List.mem_of_getElem? (i := 187) (by decide +kernel))) rfl)⟩
set_option maxRecDepth 20000 in
theorem cw_Cutter_cut : rx_cw y_Cutter_cut b_Cutter_cut 8 none 1 := ⟨(rx_inS (rx_T2 (List.mem_of_getElem? (i := 219) (rfl))) rfl), (rx_inS (rx_T1 (List.mem_of_getElem? (i := 4) (by decide +kernel))) rfl), by decide, by decide, by decide +kernel⟩
theorem lk_DE_77 : rx_lkm "DeflateEffort" 77 y_Cutter_cut := Or.inl (rx_inS (rx_T2 (List.mem_of_getElem? (i := 216) (by decide +kernel))) rfl)
theorem ci_Cutter_cut : Cond.instanceMethod y_Cutter_cut ∈ rx_Ts ∧ Cond.selects "DeflateEffort$Cutter" y_Cutter_cut y_Cutter_cut ∈ rx_Ts := ⟨(rx_inS (rx_T2 (List.mem_of_getElem? (i := 217) (by decide +kernel))) rfl), (rx_inS (rx_T2 (List.mem_of_getElem? (i := 218) (by decide +kernel))) rfl)⟩
theorem fa_DE_20 : rx_fld "DeflateEffort" 20 11 5 (.object "DeflateEffort$Writer") true := ⟨"DeflateEffort", Tc_DE, 9, tyc_DE, rfl, by decide, inc_DE, tyok_DE, nmc_DE, rfl, rfl, by decide +kernel, Or.inl (rx_inS (rx_T2 (List.mem_of_getElem? (i := 189) (by decide +kernel))) rfl)⟩
set_option maxRecDepth 20000 in
theorem cw_Writer_restart : rx_cw y_Writer_restart b_Writer_restart 1 none 0 := ⟨(rx_inS (rx_T5 (List.mem_of_getElem? (i := 35) (rfl))) rfl), (rx_inS (rx_T1 (List.mem_of_getElem? (i := 2) (by decide +kernel))) rfl), by decide, by decide, by decide +kernel⟩
theorem lk_DE_81 : rx_lkm "DeflateEffort" 81 y_Writer_restart := Or.inl (rx_inS (rx_T5 (List.mem_of_getElem? (i := 32) (by decide +kernel))) rfl)
theorem ci_Writer_restart : Cond.instanceMethod y_Writer_restart ∈ rx_Ts ∧ Cond.selects "DeflateEffort$Writer" y_Writer_restart y_Writer_restart ∈ rx_Ts := ⟨(rx_inS (rx_T5 (List.mem_of_getElem? (i := 33) (by decide +kernel))) rfl), (rx_inS (rx_T5 (List.mem_of_getElem? (i := 34) (by decide +kernel))) rfl)⟩
theorem fa_DE_84 : rx_fld "DeflateEffort" 84 3 11 .int false := ⟨"DeflateEffort$Cutter", Tc_Cutter, 12, tyc_Cutter, rfl, by decide, inc_Cutter, tyok_Cutter, nmc_Cutter, rfl, rfl, by decide +kernel, Or.inl (rx_inS (rx_T2 (List.mem_of_getElem? (i := 55) (by decide +kernel))) rfl)⟩
theorem lk_DE_87 : rx_lkm "DeflateEffort" 87 y_Cutter_takenBlock := Or.inl (rx_inS (rx_T5 (List.mem_of_getElem? (i := 37) (by decide +kernel))) rfl)
theorem fa_DE_91 : rx_fld "DeflateEffort" 91 0 3 .int false := ⟨"DeflateEffort$Block", Tc_Block, 9, tyc_Block, rfl, by decide, inc_Block, tyok_Block, nmc_Block, rfl, rfl, by decide +kernel, Or.inl (rx_inS (rx_T2 (List.mem_of_getElem? (i := 10) (by decide +kernel))) rfl)⟩
theorem fa_DE_9 : rx_fld "DeflateEffort" 9 11 2 (.array .int) true := ⟨"DeflateEffort", Tc_DE, 9, tyc_DE, rfl, by decide, inc_DE, tyok_DE, nmc_DE, rfl, rfl, by decide +kernel, Or.inl (rx_inS (rx_T2 (List.mem_of_getElem? (i := 186) (by decide +kernel))) rfl)⟩
theorem fa_DE_96 : rx_fld "DeflateEffort" 96 0 1 .int false := ⟨"DeflateEffort$Block", Tc_Block, 9, tyc_Block, rfl, by decide, inc_Block, tyok_Block, nmc_Block, rfl, rfl, by decide +kernel, Or.inl (rx_inS (rx_T2 (List.mem_of_getElem? (i := 4) (by decide +kernel))) rfl)⟩
theorem fa_DE_99 : rx_fld "DeflateEffort" 99 0 2 .int false := ⟨"DeflateEffort$Block", Tc_Block, 9, tyc_Block, rfl, by decide, inc_Block, tyok_Block, nmc_Block, rfl, rfl, by decide +kernel, Or.inl (rx_inS (rx_T2 (List.mem_of_getElem? (i := 7) (by decide +kernel))) rfl)⟩
set_option maxRecDepth 20000 in
theorem cw_Writer_putStored : rx_cw y_Writer_putStored b_Writer_putStored 6 none 4 := ⟨(rx_inS (rx_T5 (List.mem_of_getElem? (i := 44) (rfl))) rfl), (rx_inS (rx_T1 (List.mem_of_getElem? (i := 2) (by decide +kernel))) rfl), by decide, by decide, by decide +kernel⟩
theorem lk_DE_102 : rx_lkm "DeflateEffort" 102 y_Writer_putStored := Or.inl (rx_inS (rx_T5 (List.mem_of_getElem? (i := 41) (by decide +kernel))) rfl)
theorem ci_Writer_putStored : Cond.instanceMethod y_Writer_putStored ∈ rx_Ts ∧ Cond.selects "DeflateEffort$Writer" y_Writer_putStored y_Writer_putStored ∈ rx_Ts := ⟨(rx_inS (rx_T5 (List.mem_of_getElem? (i := 42) (by decide +kernel))) rfl), (rx_inS (rx_T5 (List.mem_of_getElem? (i := 43) (by decide +kernel))) rfl)⟩
set_option maxRecDepth 20000 in
theorem cw_Cutter_planOf : rx_cw y_Cutter_planOf b_Cutter_planOf 3 (some (.object "DeflateEffort$Plan")) 1 := ⟨(rx_inS (rx_T5 (List.mem_of_getElem? (i := 56) (rfl))) rfl), (rx_inS (rx_T1 (List.mem_of_getElem? (i := 4) (by decide +kernel))) rfl), by decide, by decide, by decide +kernel⟩
theorem lk_DE_106 : rx_lkm "DeflateEffort" 106 y_Cutter_planOf := Or.inl (rx_inS (rx_T5 (List.mem_of_getElem? (i := 53) (by decide +kernel))) rfl)
theorem ci_Cutter_planOf : Cond.instanceMethod y_Cutter_planOf ∈ rx_Ts ∧ Cond.selects "DeflateEffort$Cutter" y_Cutter_planOf y_Cutter_planOf ∈ rx_Ts := ⟨(rx_inS (rx_T5 (List.mem_of_getElem? (i := 54) (by decide +kernel))) rfl), (rx_inS (rx_T5 (List.mem_of_getElem? (i := 55) (by decide +kernel))) rfl)⟩
theorem fa_DE_110 : rx_fld "DeflateEffort" 110 3 4 (.object "DeflateEffort$LengthRow") true := ⟨"DeflateEffort$Cutter", Tc_Cutter, 12, tyc_Cutter, rfl, by decide, inc_Cutter, tyok_Cutter, nmc_Cutter, rfl, rfl, by decide +kernel, Or.inl (rx_inS (rx_T2 (List.mem_of_getElem? (i := 47) (by decide +kernel))) rfl)⟩
set_option maxRecDepth 20000 in
theorem cw_Writer_putCoded : rx_cw y_Writer_putCoded b_Writer_putCoded 7 none 3 := ⟨(rx_inS (rx_T5 (List.mem_of_getElem? (i := 60) (rfl))) rfl), (rx_inS (rx_T1 (List.mem_of_getElem? (i := 2) (by decide +kernel))) rfl), by decide, by decide, by decide +kernel⟩
theorem lk_DE_114 : rx_lkm "DeflateEffort" 114 y_Writer_putCoded := Or.inl (rx_inS (rx_T5 (List.mem_of_getElem? (i := 57) (by decide +kernel))) rfl)
theorem ci_Writer_putCoded : Cond.instanceMethod y_Writer_putCoded ∈ rx_Ts ∧ Cond.selects "DeflateEffort$Writer" y_Writer_putCoded y_Writer_putCoded ∈ rx_Ts := ⟨(rx_inS (rx_T5 (List.mem_of_getElem? (i := 58) (by decide +kernel))) rfl), (rx_inS (rx_T5 (List.mem_of_getElem? (i := 59) (by decide +kernel))) rfl)⟩
set_option maxRecDepth 20000 in
theorem cw_Writer_byteCount : rx_cw y_Writer_byteCount b_Writer_byteCount 1 (some .int) 0 := ⟨(rx_inS (rx_T5 (List.mem_of_getElem? (i := 103) (rfl))) rfl), (rx_inS (rx_T1 (List.mem_of_getElem? (i := 2) (by decide +kernel))) rfl), by decide, by decide, by decide +kernel⟩
theorem lk_DE_118 : rx_lkm "DeflateEffort" 118 y_Writer_byteCount := Or.inl (rx_inS (rx_T5 (List.mem_of_getElem? (i := 100) (by decide +kernel))) rfl)
theorem ci_Writer_byteCount : Cond.instanceMethod y_Writer_byteCount ∈ rx_Ts ∧ Cond.selects "DeflateEffort$Writer" y_Writer_byteCount y_Writer_byteCount ∈ rx_Ts := ⟨(rx_inS (rx_T5 (List.mem_of_getElem? (i := 101) (by decide +kernel))) rfl), (rx_inS (rx_T5 (List.mem_of_getElem? (i := 102) (by decide +kernel))) rfl)⟩
theorem mf_DE_inflate : rx_M "DeflateEffort" "inflate" y_DE_inflate := ⟨by decide +kernel, rfl, rfl, by decide +kernel⟩
theorem fa_DE_57 : rx_fld "DeflateEffort" 57 11 8 (.object "DeflateEffort$Reader") true := ⟨"DeflateEffort", Tc_DE, 9, tyc_DE, rfl, by decide, inc_DE, tyok_DE, nmc_DE, rfl, rfl, by decide +kernel, Or.inl (rx_inS (rx_T2 (List.mem_of_getElem? (i := 192) (by decide +kernel))) rfl)⟩
theorem fa_DE_27 : rx_fld "DeflateEffort" 27 11 7 .int false := ⟨"DeflateEffort", Tc_DE, 9, tyc_DE, rfl, by decide, inc_DE, tyok_DE, nmc_DE, rfl, rfl, by decide +kernel, Or.inl (rx_inS (rx_T2 (List.mem_of_getElem? (i := 191) (by decide +kernel))) rfl)⟩
set_option maxRecDepth 20000 in
theorem cw_Reader_readAll : rx_cw y_Reader_readAll b_Reader_readAll 3 (some .int) 1 := ⟨(rx_inS (rx_T5 (List.mem_of_getElem? (i := 111) (rfl))) rfl), (rx_inS (rx_T1 (List.mem_of_getElem? (i := 12) (by decide +kernel))) rfl), by decide, by decide, by decide +kernel⟩
theorem lk_DE_150 : rx_lkm "DeflateEffort" 150 y_Reader_readAll := Or.inl (rx_inS (rx_T5 (List.mem_of_getElem? (i := 108) (by decide +kernel))) rfl)
theorem ci_Reader_readAll : Cond.instanceMethod y_Reader_readAll ∈ rx_Ts ∧ Cond.selects "DeflateEffort$Reader" y_Reader_readAll y_Reader_readAll ∈ rx_Ts := ⟨(rx_inS (rx_T5 (List.mem_of_getElem? (i := 109) (by decide +kernel))) rfl), (rx_inS (rx_T5 (List.mem_of_getElem? (i := 110) (by decide +kernel))) rfl)⟩
theorem mf_DE_crc : rx_M "DeflateEffort" "crc" y_DE_crc := ⟨by decide +kernel, rfl, rfl, by decide +kernel⟩
theorem kc_DE_190 : Cond.constant "DeflateEffort" 190 (-306674912) ∈ rx_Ts := (rx_inS (rx_T6 (List.mem_of_getElem? (i := 73) (by decide +kernel))) rfl)
theorem mf_DE_adler : rx_M "DeflateEffort" "adler" y_DE_adler := ⟨by decide +kernel, rfl, rfl, by decide +kernel⟩
theorem kc_DE_189 : Cond.constant "DeflateEffort" 189 (65521) ∈ rx_Ts := (rx_inS (rx_T6 (List.mem_of_getElem? (i := 69) (by decide +kernel))) rfl)
theorem mf_DE_told : rx_M "DeflateEffort" "told" y_DE_told := ⟨by decide +kernel, rfl, rfl, by decide +kernel⟩
theorem fa_DE_39 : rx_fld "DeflateEffort" 39 11 0 .int true := ⟨"DeflateEffort", Tc_DE, 9, tyc_DE, rfl, by decide, inc_DE, tyok_DE, nmc_DE, rfl, rfl, by decide +kernel, Or.inl (rx_inS (rx_T2 (List.mem_of_getElem? (i := 184) (by decide +kernel))) rfl)⟩
theorem fa_DE_42 : rx_fld "DeflateEffort" 42 11 1 .int true := ⟨"DeflateEffort", Tc_DE, 9, tyc_DE, rfl, by decide, inc_DE, tyok_DE, nmc_DE, rfl, rfl, by decide +kernel, Or.inl (rx_inS (rx_T2 (List.mem_of_getElem? (i := 185) (by decide +kernel))) rfl)⟩
theorem fa_DE_170 : rx_fld "DeflateEffort" 170 3 2 (.object "DeflateEffort$Matches") true := ⟨"DeflateEffort$Cutter", Tc_Cutter, 12, tyc_Cutter, rfl, by decide, inc_Cutter, tyok_Cutter, nmc_Cutter, rfl, rfl, by decide +kernel, Or.inl (rx_inS (rx_T2 (List.mem_of_getElem? (i := 44) (by decide +kernel))) rfl)⟩
theorem fa_DE_173 : rx_fld "DeflateEffort" 173 6 4 .int false := ⟨"DeflateEffort$Matches", Tc_Matches, 5, tyc_Matches, rfl, by decide, inc_Matches, tyok_Matches, nmc_Matches, rfl, rfl, by decide +kernel, Or.inl (rx_inS (rx_T1 (List.mem_of_getElem? (i := 223) (by decide +kernel))) rfl)⟩
set_option maxRecDepth 20000 in
theorem cw_Cutter_replacedInTaken : rx_cw y_Cutter_replacedInTaken b_Cutter_replacedInTaken 3 (some .int) 0 := ⟨(rx_inS (rx_T5 (List.mem_of_getElem? (i := 188) (rfl))) rfl), (rx_inS (rx_T1 (List.mem_of_getElem? (i := 4) (by decide +kernel))) rfl), by decide, by decide, by decide +kernel⟩
theorem lk_DE_178 : rx_lkm "DeflateEffort" 178 y_Cutter_replacedInTaken := Or.inl (rx_inS (rx_T5 (List.mem_of_getElem? (i := 185) (by decide +kernel))) rfl)
theorem ci_Cutter_replacedInTaken : Cond.instanceMethod y_Cutter_replacedInTaken ∈ rx_Ts ∧ Cond.selects "DeflateEffort$Cutter" y_Cutter_replacedInTaken y_Cutter_replacedInTaken ∈ rx_Ts := ⟨(rx_inS (rx_T5 (List.mem_of_getElem? (i := 186) (by decide +kernel))) rfl), (rx_inS (rx_T5 (List.mem_of_getElem? (i := 187) (by decide +kernel))) rfl)⟩
theorem fa_DE_153 : rx_fld "DeflateEffort" 153 9 2 .int false := ⟨"DeflateEffort$Reader", Tc_Reader, 16, tyc_Reader, rfl, by decide, inc_Reader, tyok_Reader, nmc_Reader, rfl, rfl, by decide +kernel, Or.inl (rx_inS (rx_T2 (List.mem_of_getElem? (i := 136) (by decide +kernel))) rfl)⟩
theorem fa_DE_181 : rx_fld "DeflateEffort" 181 9 3 .int false := ⟨"DeflateEffort$Reader", Tc_Reader, 16, tyc_Reader, rfl, by decide, inc_Reader, tyok_Reader, nmc_Reader, rfl, rfl, by decide +kernel, Or.inl (rx_inS (rx_T2 (List.mem_of_getElem? (i := 138) (by decide +kernel))) rfl)⟩
theorem mf_DE_clear : rx_M "DeflateEffort" "clear" y_DE_clear := ⟨by decide +kernel, rfl, rfl, by decide +kernel⟩
set_option maxRecDepth 20000 in
theorem cw_Cutter_forget : rx_cw y_Cutter_forget b_Cutter_forget 1 none 0 := ⟨(rx_inS (rx_T5 (List.mem_of_getElem? (i := 197) (rfl))) rfl), (rx_inS (rx_T1 (List.mem_of_getElem? (i := 4) (by decide +kernel))) rfl), by decide, by decide, by decide +kernel⟩
theorem lk_DE_184 : rx_lkm "DeflateEffort" 184 y_Cutter_forget := Or.inl (rx_inS (rx_T5 (List.mem_of_getElem? (i := 194) (by decide +kernel))) rfl)
theorem ci_Cutter_forget : Cond.instanceMethod y_Cutter_forget ∈ rx_Ts ∧ Cond.selects "DeflateEffort$Cutter" y_Cutter_forget y_Cutter_forget ∈ rx_Ts := ⟨(rx_inS (rx_T5 (List.mem_of_getElem? (i := 195) (by decide +kernel))) rfl), (rx_inS (rx_T5 (List.mem_of_getElem? (i := 196) (by decide +kernel))) rfl)⟩
theorem lk_DE_187 : rx_lkm "DeflateEffort" 187 y_Reader_restart := Or.inl (rx_inS (rx_T5 (List.mem_of_getElem? (i := 198) (by decide +kernel))) rfl)
theorem mf_MD_thrown : rx_M "DeflateEffortModel" "thrown" y_MD_thrown := ⟨by decide +kernel, rfl, rfl, by decide +kernel⟩
theorem fa_MD_125 : rx_fld "DeflateEffortModel" 125 12 2 .int false := ⟨"DeflateEffortModel", Tc_MD, 57, tyc_MD, rfl, by decide, inc_MD, tyok_MD, nmc_MD, rfl, rfl, by decide +kernel, Or.inl (rx_inS (rx_T6 (List.mem_of_getElem? (i := 83) (by decide +kernel))) rfl)⟩
theorem mf_MD_within : rx_M "DeflateEffortModel" "within" y_MD_within := ⟨by decide +kernel, rfl, rfl, by decide +kernel⟩
theorem mf_MD_feed : rx_M "DeflateEffortModel" "feed" y_MD_feed := ⟨by decide +kernel, rfl, rfl, by decide +kernel⟩
set_option maxRecDepth 20000 in
theorem cw_MD_within : rx_cw y_MD_within b_MD_within 3 (some .boolean) 3 := ⟨(rx_inS (rx_T7 (List.mem_of_getElem? (i := 23) (rfl))) rfl), (rx_inS (rx_T1 (List.mem_of_getElem? (i := 15) (by decide +kernel))) rfl), by decide, by decide, by decide +kernel⟩
theorem lk_MD_128 : rx_lkm "DeflateEffortModel" 128 y_MD_within := Or.inl (rx_inS (rx_T7 (List.mem_of_getElem? (i := 21) (by decide +kernel))) rfl)
theorem cs_MD_within : Cond.static y_MD_within ∈ rx_Ts := (rx_inS (rx_T7 (List.mem_of_getElem? (i := 22) (by decide +kernel))) rfl)
theorem fa_MD_132 : rx_fld "DeflateEffortModel" 132 12 3 .int false := ⟨"DeflateEffortModel", Tc_MD, 57, tyc_MD, rfl, by decide, inc_MD, tyok_MD, nmc_MD, rfl, rfl, by decide +kernel, Or.inl (rx_inS (rx_T6 (List.mem_of_getElem? (i := 84) (by decide +kernel))) rfl)⟩
theorem fa_MD_7 : rx_fld "DeflateEffortModel" 7 12 4 (.array .int) true := ⟨"DeflateEffortModel", Tc_MD, 57, tyc_MD, rfl, by decide, inc_MD, tyok_MD, nmc_MD, rfl, rfl, by decide +kernel, Or.inl (rx_inS (rx_T6 (List.mem_of_getElem? (i := 85) (by decide +kernel))) rfl)⟩
theorem mf_MD_high : rx_M "DeflateEffortModel" "high" y_MD_high := ⟨by decide +kernel, rfl, rfl, by decide +kernel⟩
theorem mf_MD_extraOfSize : rx_M "DeflateEffortModel" "extraOfSize" y_MD_extraOfSize := ⟨by decide +kernel, rfl, rfl, by decide +kernel⟩
set_option maxRecDepth 20000 in
theorem cw_MD_high : rx_cw y_MD_high b_MD_high 2 (some .int) 1 := ⟨(rx_inS (rx_T7 (List.mem_of_getElem? (i := 68) (rfl))) rfl), (rx_inS (rx_T1 (List.mem_of_getElem? (i := 15) (by decide +kernel))) rfl), by decide, by decide, by decide +kernel⟩
theorem lk_MD_135 : rx_lkm "DeflateEffortModel" 135 y_MD_high := Or.inl (rx_inS (rx_T7 (List.mem_of_getElem? (i := 66) (by decide +kernel))) rfl)
theorem cs_MD_high : Cond.static y_MD_high ∈ rx_Ts := (rx_inS (rx_T7 (List.mem_of_getElem? (i := 67) (by decide +kernel))) rfl)
theorem mf_MD_symbolOfSize : rx_M "DeflateEffortModel" "symbolOfSize" y_MD_symbolOfSize := ⟨by decide +kernel, rfl, rfl, by decide +kernel⟩
set_option maxRecDepth 20000 in
theorem cw_MD_extraOfSize : rx_cw y_MD_extraOfSize b_MD_extraOfSize 1 (some .int) 1 := ⟨(rx_inS (rx_T7 (List.mem_of_getElem? (i := 65) (rfl))) rfl), (rx_inS (rx_T1 (List.mem_of_getElem? (i := 15) (by decide +kernel))) rfl), by decide, by decide, by decide +kernel⟩
theorem lk_MD_139 : rx_lkm "DeflateEffortModel" 139 y_MD_extraOfSize := Or.inl (rx_inS (rx_T7 (List.mem_of_getElem? (i := 63) (by decide +kernel))) rfl)
theorem cs_MD_extraOfSize : Cond.static y_MD_extraOfSize ∈ rx_Ts := (rx_inS (rx_T7 (List.mem_of_getElem? (i := 64) (by decide +kernel))) rfl)
theorem mf_MD_extraOfFar : rx_M "DeflateEffortModel" "extraOfFar" y_MD_extraOfFar := ⟨by decide +kernel, rfl, rfl, by decide +kernel⟩
theorem mf_MD_symbolOfFar : rx_M "DeflateEffortModel" "symbolOfFar" y_MD_symbolOfFar := ⟨by decide +kernel, rfl, rfl, by decide +kernel⟩
set_option maxRecDepth 20000 in
theorem cw_MD_extraOfFar : rx_cw y_MD_extraOfFar b_MD_extraOfFar 1 (some .int) 1 := ⟨(rx_inS (rx_T7 (List.mem_of_getElem? (i := 74) (rfl))) rfl), (rx_inS (rx_T1 (List.mem_of_getElem? (i := 15) (by decide +kernel))) rfl), by decide, by decide, by decide +kernel⟩
theorem lk_MD_142 : rx_lkm "DeflateEffortModel" 142 y_MD_extraOfFar := Or.inl (rx_inS (rx_T7 (List.mem_of_getElem? (i := 72) (by decide +kernel))) rfl)
theorem cs_MD_extraOfFar : Cond.static y_MD_extraOfFar ∈ rx_Ts := (rx_inS (rx_T7 (List.mem_of_getElem? (i := 73) (by decide +kernel))) rfl)
theorem mf_MD_least : rx_M "DeflateEffortModel" "least" y_MD_least := ⟨by decide +kernel, rfl, rfl, by decide +kernel⟩
theorem fa_MD_113 : rx_fld "DeflateEffortModel" 113 12 54 (.array .int) true := ⟨"DeflateEffortModel", Tc_MD, 57, tyc_MD, rfl, by decide, inc_MD, tyok_MD, nmc_MD, rfl, rfl, by decide +kernel, Or.inl (rx_inS (rx_T6 (List.mem_of_getElem? (i := 135) (by decide +kernel))) rfl)⟩
theorem fa_MD_110 : rx_fld "DeflateEffortModel" 110 12 53 (.array .int) true := ⟨"DeflateEffortModel", Tc_MD, 57, tyc_MD, rfl, by decide, inc_MD, tyok_MD, nmc_MD, rfl, rfl, by decide +kernel, Or.inl (rx_inS (rx_T6 (List.mem_of_getElem? (i := 134) (by decide +kernel))) rfl)⟩
theorem mf_MD_join : rx_M "DeflateEffortModel" "join" y_MD_join := ⟨by decide +kernel, rfl, rfl, by decide +kernel⟩
set_option maxRecDepth 20000 in
theorem cw_MD_least : rx_cw y_MD_least b_MD_least 5 (some .int) 2 := ⟨(rx_inS (rx_T7 (List.mem_of_getElem? (i := 90) (rfl))) rfl), (rx_inS (rx_T1 (List.mem_of_getElem? (i := 15) (by decide +kernel))) rfl), by decide, by decide, by decide +kernel⟩
theorem lk_MD_145 : rx_lkm "DeflateEffortModel" 145 y_MD_least := Or.inl (rx_inS (rx_T7 (List.mem_of_getElem? (i := 87) (by decide +kernel))) rfl)
theorem ci_MD_least : Cond.instanceMethod y_MD_least ∈ rx_Ts ∧ Cond.selects "DeflateEffortModel" y_MD_least y_MD_least ∈ rx_Ts := ⟨(rx_inS (rx_T7 (List.mem_of_getElem? (i := 89) (by decide +kernel))) rfl), (rx_inP 48 (by decide +kernel) rfl)⟩
theorem mf_MD_number : rx_M "DeflateEffortModel" "number" y_MD_number := ⟨by decide +kernel, rfl, rfl, by decide +kernel⟩
theorem mf_MD_fixedCodes : rx_M "DeflateEffortModel" "fixedCodes" y_MD_fixedCodes := ⟨by decide +kernel, rfl, rfl, by decide +kernel⟩
theorem fa_MD_80 : rx_fld "DeflateEffortModel" 80 12 39 (.array .int) true := ⟨"DeflateEffortModel", Tc_MD, 57, tyc_MD, rfl, by decide, inc_MD, tyok_MD, nmc_MD, rfl, rfl, by decide +kernel, Or.inl (rx_inS (rx_T6 (List.mem_of_getElem? (i := 120) (by decide +kernel))) rfl)⟩
theorem fa_MD_89 : rx_fld "DeflateEffortModel" 89 12 42 (.array .int) true := ⟨"DeflateEffortModel", Tc_MD, 57, tyc_MD, rfl, by decide, inc_MD, tyok_MD, nmc_MD, rfl, rfl, by decide +kernel, Or.inl (rx_inS (rx_T6 (List.mem_of_getElem? (i := 123) (by decide +kernel))) rfl)⟩
theorem mf_MD_countTokens : rx_M "DeflateEffortModel" "countTokens" y_MD_countTokens := ⟨by decide +kernel, rfl, rfl, by decide +kernel⟩
theorem fa_MD_77 : rx_fld "DeflateEffortModel" 77 12 38 (.array .int) true := ⟨"DeflateEffortModel", Tc_MD, 57, tyc_MD, rfl, by decide, inc_MD, tyok_MD, nmc_MD, rfl, rfl, by decide +kernel, Or.inl (rx_inS (rx_T6 (List.mem_of_getElem? (i := 119) (by decide +kernel))) rfl)⟩
theorem fa_MD_86 : rx_fld "DeflateEffortModel" 86 12 41 (.array .int) true := ⟨"DeflateEffortModel", Tc_MD, 57, tyc_MD, rfl, by decide, inc_MD, tyok_MD, nmc_MD, rfl, rfl, by decide +kernel, Or.inl (rx_inS (rx_T6 (List.mem_of_getElem? (i := 122) (by decide +kernel))) rfl)⟩
theorem fa_MD_148 : rx_fld "DeflateEffortModel" 148 12 27 .int false := ⟨"DeflateEffortModel", Tc_MD, 57, tyc_MD, rfl, by decide, inc_MD, tyok_MD, nmc_MD, rfl, rfl, by decide +kernel, Or.inl (rx_inS (rx_T6 (List.mem_of_getElem? (i := 108) (by decide +kernel))) rfl)⟩
theorem fa_MD_59 : rx_fld "DeflateEffortModel" 59 12 28 (.array .int) true := ⟨"DeflateEffortModel", Tc_MD, 57, tyc_MD, rfl, by decide, inc_MD, tyok_MD, nmc_MD, rfl, rfl, by decide +kernel, Or.inl (rx_inS (rx_T6 (List.mem_of_getElem? (i := 109) (by decide +kernel))) rfl)⟩
set_option maxRecDepth 20000 in
theorem cw_MD_symbolOfSize : rx_cw y_MD_symbolOfSize b_MD_symbolOfSize 2 (some .int) 1 := ⟨(rx_inS (rx_T7 (List.mem_of_getElem? (i := 62) (rfl))) rfl), (rx_inS (rx_T1 (List.mem_of_getElem? (i := 15) (by decide +kernel))) rfl), by decide, by decide, by decide +kernel⟩
theorem lk_MD_151 : rx_lkm "DeflateEffortModel" 151 y_MD_symbolOfSize := Or.inl (rx_inS (rx_T7 (List.mem_of_getElem? (i := 60) (by decide +kernel))) rfl)
theorem cs_MD_symbolOfSize : Cond.static y_MD_symbolOfSize ∈ rx_Ts := (rx_inS (rx_T7 (List.mem_of_getElem? (i := 61) (by decide +kernel))) rfl)
theorem fa_MD_62 : rx_fld "DeflateEffortModel" 62 12 29 (.array .int) true := ⟨"DeflateEffortModel", Tc_MD, 57, tyc_MD, rfl, by decide, inc_MD, tyok_MD, nmc_MD, rfl, rfl, by decide +kernel, Or.inl (rx_inS (rx_T6 (List.mem_of_getElem? (i := 110) (by decide +kernel))) rfl)⟩
set_option maxRecDepth 20000 in
theorem cw_MD_symbolOfFar : rx_cw y_MD_symbolOfFar b_MD_symbolOfFar 2 (some .int) 1 := ⟨(rx_inS (rx_T7 (List.mem_of_getElem? (i := 71) (rfl))) rfl), (rx_inS (rx_T1 (List.mem_of_getElem? (i := 15) (by decide +kernel))) rfl), by decide, by decide, by decide +kernel⟩
theorem lk_MD_154 : rx_lkm "DeflateEffortModel" 154 y_MD_symbolOfFar := Or.inl (rx_inS (rx_T7 (List.mem_of_getElem? (i := 69) (by decide +kernel))) rfl)
theorem cs_MD_symbolOfFar : Cond.static y_MD_symbolOfFar ∈ rx_Ts := (rx_inS (rx_T7 (List.mem_of_getElem? (i := 70) (by decide +kernel))) rfl)
theorem mf_MD_bitsOfTokens : rx_M "DeflateEffortModel" "bitsOfTokens" y_MD_bitsOfTokens := ⟨by decide +kernel, rfl, rfl, by decide +kernel⟩
theorem mf_MD_addRow : rx_M "DeflateEffortModel" "addRow" y_MD_addRow := ⟨by decide +kernel, rfl, rfl, by decide +kernel⟩
theorem fa_MD_104 : rx_fld "DeflateEffortModel" 104 12 48 (.array .int) true := ⟨"DeflateEffortModel", Tc_MD, 57, tyc_MD, rfl, by decide, inc_MD, tyok_MD, nmc_MD, rfl, rfl, by decide +kernel, Or.inl (rx_inS (rx_T6 (List.mem_of_getElem? (i := 129) (by decide +kernel))) rfl)⟩
theorem fa_MD_157 : rx_fld "DeflateEffortModel" 157 12 47 .int false := ⟨"DeflateEffortModel", Tc_MD, 57, tyc_MD, rfl, by decide, inc_MD, tyok_MD, nmc_MD, rfl, rfl, by decide +kernel, Or.inl (rx_inS (rx_T6 (List.mem_of_getElem? (i := 128) (by decide +kernel))) rfl)⟩
theorem fa_MD_107 : rx_fld "DeflateEffortModel" 107 12 49 (.array .int) true := ⟨"DeflateEffortModel", Tc_MD, 57, tyc_MD, rfl, by decide, inc_MD, tyok_MD, nmc_MD, rfl, rfl, by decide +kernel, Or.inl (rx_inS (rx_T6 (List.mem_of_getElem? (i := 130) (by decide +kernel))) rfl)⟩
theorem mf_MD_addRun : rx_M "DeflateEffortModel" "addRun" y_MD_addRun := ⟨by decide +kernel, rfl, rfl, by decide +kernel⟩
set_option maxRecDepth 20000 in
theorem cw_MD_addRow : rx_cw y_MD_addRow b_MD_addRow 3 none 2 := ⟨(rx_inS (rx_T7 (List.mem_of_getElem? (i := 102) (rfl))) rfl), (rx_inS (rx_T1 (List.mem_of_getElem? (i := 15) (by decide +kernel))) rfl), by decide, by decide, by decide +kernel⟩
theorem lk_MD_160 : rx_lkm "DeflateEffortModel" 160 y_MD_addRow := Or.inl (rx_inS (rx_T7 (List.mem_of_getElem? (i := 99) (by decide +kernel))) rfl)
theorem ci_MD_addRow : Cond.instanceMethod y_MD_addRow ∈ rx_Ts ∧ Cond.selects "DeflateEffortModel" y_MD_addRow y_MD_addRow ∈ rx_Ts := ⟨(rx_inS (rx_T7 (List.mem_of_getElem? (i := 101) (by decide +kernel))) rfl), (rx_inP 51 (by decide +kernel) rfl)⟩
theorem mf_MD_lengthInRow : rx_M "DeflateEffortModel" "lengthInRow" y_MD_lengthInRow := ⟨by decide +kernel, rfl, rfl, by decide +kernel⟩
theorem fa_MD_164 : rx_fld "DeflateEffortModel" 164 12 50 .int false := ⟨"DeflateEffortModel", Tc_MD, 57, tyc_MD, rfl, by decide, inc_MD, tyok_MD, nmc_MD, rfl, rfl, by decide +kernel, Or.inl (rx_inS (rx_T6 (List.mem_of_getElem? (i := 131) (by decide +kernel))) rfl)⟩
theorem mf_MD_orderOf : rx_M "DeflateEffortModel" "orderOf" y_MD_orderOf := ⟨by decide +kernel, rfl, rfl, by decide +kernel⟩
theorem mf_MD_isLong : rx_M "DeflateEffortModel" "isLong" y_MD_isLong := ⟨by decide +kernel, rfl, rfl, by decide +kernel⟩
theorem fa_MD_98 : rx_fld "DeflateEffortModel" 98 12 45 (.array .int) true := ⟨"DeflateEffortModel", Tc_MD, 57, tyc_MD, rfl, by decide, inc_MD, tyok_MD, nmc_MD, rfl, rfl, by decide +kernel, Or.inl (rx_inS (rx_T6 (List.mem_of_getElem? (i := 126) (by decide +kernel))) rfl)⟩
theorem mf_MD_ownCodes : rx_M "DeflateEffortModel" "ownCodes" y_MD_ownCodes := ⟨by decide +kernel, rfl, rfl, by decide +kernel⟩
set_option maxRecDepth 20000 in
theorem cw_MD_countTokens : rx_cw y_MD_countTokens b_MD_countTokens 4 none 1 := ⟨(rx_inS (rx_T7 (List.mem_of_getElem? (i := 82) (rfl))) rfl), (rx_inS (rx_T1 (List.mem_of_getElem? (i := 15) (by decide +kernel))) rfl), by decide, by decide, by decide +kernel⟩
theorem lk_MD_167 : rx_lkm "DeflateEffortModel" 167 y_MD_countTokens := Or.inl (rx_inS (rx_T7 (List.mem_of_getElem? (i := 79) (by decide +kernel))) rfl)
theorem ci_MD_countTokens : Cond.instanceMethod y_MD_countTokens ∈ rx_Ts ∧ Cond.selects "DeflateEffortModel" y_MD_countTokens y_MD_countTokens ∈ rx_Ts := ⟨(rx_inS (rx_T7 (List.mem_of_getElem? (i := 81) (by decide +kernel))) rfl), (rx_inP 46 (by decide +kernel) rfl)⟩
set_option maxRecDepth 20000 in
theorem cw_MD_join : rx_cw y_MD_join b_MD_join 10 none 3 := ⟨(rx_inS (rx_T7 (List.mem_of_getElem? (i := 86) (rfl))) rfl), (rx_inS (rx_T1 (List.mem_of_getElem? (i := 15) (by decide +kernel))) rfl), by decide, by decide, by decide +kernel⟩
theorem lk_MD_171 : rx_lkm "DeflateEffortModel" 171 y_MD_join := Or.inl (rx_inS (rx_T7 (List.mem_of_getElem? (i := 83) (by decide +kernel))) rfl)
theorem ci_MD_join : Cond.instanceMethod y_MD_join ∈ rx_Ts ∧ Cond.selects "DeflateEffortModel" y_MD_join y_MD_join ∈ rx_Ts := ⟨(rx_inS (rx_T7 (List.mem_of_getElem? (i := 85) (by decide +kernel))) rfl), (rx_inP 47 (by decide +kernel) rfl)⟩
theorem fa_MD_175 : rx_fld "DeflateEffortModel" 175 12 51 .int false := ⟨"DeflateEffortModel", Tc_MD, 57, tyc_MD, rfl, by decide, inc_MD, tyok_MD, nmc_MD, rfl, rfl, by decide +kernel, Or.inl (rx_inS (rx_T6 (List.mem_of_getElem? (i := 132) (by decide +kernel))) rfl)⟩
set_option maxRecDepth 20000 in
theorem cw_MD_lengthInRow : rx_cw y_MD_lengthInRow b_MD_lengthInRow 2 (some .int) 1 := ⟨(rx_inS (rx_T7 (List.mem_of_getElem? (i := 94) (rfl))) rfl), (rx_inS (rx_T1 (List.mem_of_getElem? (i := 15) (by decide +kernel))) rfl), by decide, by decide, by decide +kernel⟩
theorem lk_MD_178 : rx_lkm "DeflateEffortModel" 178 y_MD_lengthInRow := Or.inl (rx_inS (rx_T7 (List.mem_of_getElem? (i := 91) (by decide +kernel))) rfl)
theorem ci_MD_lengthInRow : Cond.instanceMethod y_MD_lengthInRow ∈ rx_Ts ∧ Cond.selects "DeflateEffortModel" y_MD_lengthInRow y_MD_lengthInRow ∈ rx_Ts := ⟨(rx_inS (rx_T7 (List.mem_of_getElem? (i := 93) (by decide +kernel))) rfl), (rx_inP 49 (by decide +kernel) rfl)⟩
set_option maxRecDepth 20000 in
theorem cw_MD_addRun : rx_cw y_MD_addRun b_MD_addRun 5 none 2 := ⟨(rx_inS (rx_T7 (List.mem_of_getElem? (i := 98) (rfl))) rfl), (rx_inS (rx_T1 (List.mem_of_getElem? (i := 15) (by decide +kernel))) rfl), by decide, by decide, by decide +kernel⟩
theorem lk_MD_181 : rx_lkm "DeflateEffortModel" 181 y_MD_addRun := Or.inl (rx_inS (rx_T7 (List.mem_of_getElem? (i := 95) (by decide +kernel))) rfl)
theorem ci_MD_addRun : Cond.instanceMethod y_MD_addRun ∈ rx_Ts ∧ Cond.selects "DeflateEffortModel" y_MD_addRun y_MD_addRun ∈ rx_Ts := ⟨(rx_inS (rx_T7 (List.mem_of_getElem? (i := 97) (by decide +kernel))) rfl), (rx_inP 50 (by decide +kernel) rfl)⟩
theorem fa_MD_95 : rx_fld "DeflateEffortModel" 95 12 44 (.array .int) true := ⟨"DeflateEffortModel", Tc_MD, 57, tyc_MD, rfl, by decide, inc_MD, tyok_MD, nmc_MD, rfl, rfl, by decide +kernel, Or.inl (rx_inS (rx_T6 (List.mem_of_getElem? (i := 125) (by decide +kernel))) rfl)⟩
set_option maxRecDepth 20000 in
theorem cw_MD_isLong : rx_cw y_MD_isLong b_MD_isLong 3 (some .boolean) 0 := ⟨(rx_inS (rx_T7 (List.mem_of_getElem? (i := 106) (rfl))) rfl), (rx_inS (rx_T1 (List.mem_of_getElem? (i := 15) (by decide +kernel))) rfl), by decide, by decide, by decide +kernel⟩
theorem lk_MD_184 : rx_lkm "DeflateEffortModel" 184 y_MD_isLong := Or.inl (rx_inS (rx_T7 (List.mem_of_getElem? (i := 103) (by decide +kernel))) rfl)
theorem ci_MD_isLong : Cond.instanceMethod y_MD_isLong ∈ rx_Ts ∧ Cond.selects "DeflateEffortModel" y_MD_isLong y_MD_isLong ∈ rx_Ts := ⟨(rx_inS (rx_T7 (List.mem_of_getElem? (i := 105) (by decide +kernel))) rfl), (rx_inP 52 (by decide +kernel) rfl)⟩
theorem fa_MD_188 : rx_fld "DeflateEffortModel" 188 12 52 .int false := ⟨"DeflateEffortModel", Tc_MD, 57, tyc_MD, rfl, by decide, inc_MD, tyok_MD, nmc_MD, rfl, rfl, by decide +kernel, Or.inl (rx_inS (rx_T6 (List.mem_of_getElem? (i := 133) (by decide +kernel))) rfl)⟩
set_option maxRecDepth 20000 in
theorem cw_MD_orderOf : rx_cw y_MD_orderOf b_MD_orderOf 1 (some .int) 1 := ⟨(rx_inS (rx_T7 (List.mem_of_getElem? (i := 109) (rfl))) rfl), (rx_inS (rx_T1 (List.mem_of_getElem? (i := 15) (by decide +kernel))) rfl), by decide, by decide, by decide +kernel⟩
theorem lk_MD_191 : rx_lkm "DeflateEffortModel" 191 y_MD_orderOf := Or.inl (rx_inS (rx_T7 (List.mem_of_getElem? (i := 107) (by decide +kernel))) rfl)
theorem cs_MD_orderOf : Cond.static y_MD_orderOf ∈ rx_Ts := (rx_inS (rx_T7 (List.mem_of_getElem? (i := 108) (by decide +kernel))) rfl)
theorem mf_MD_extraOfRow : rx_M "DeflateEffortModel" "extraOfRow" y_MD_extraOfRow := ⟨by decide +kernel, rfl, rfl, by decide +kernel⟩
theorem mf_MD_bitsOfRow : rx_M "DeflateEffortModel" "bitsOfRow" y_MD_bitsOfRow := ⟨by decide +kernel, rfl, rfl, by decide +kernel⟩
set_option maxRecDepth 20000 in
theorem cw_MD_extraOfRow : rx_cw y_MD_extraOfRow b_MD_extraOfRow 1 (some .int) 1 := ⟨(rx_inS (rx_T7 (List.mem_of_getElem? (i := 116) (rfl))) rfl), (rx_inS (rx_T1 (List.mem_of_getElem? (i := 15) (by decide +kernel))) rfl), by decide, by decide, by decide +kernel⟩
theorem lk_MD_194 : rx_lkm "DeflateEffortModel" 194 y_MD_extraOfRow := Or.inl (rx_inS (rx_T7 (List.mem_of_getElem? (i := 114) (by decide +kernel))) rfl)
theorem cs_MD_extraOfRow : Cond.static y_MD_extraOfRow ∈ rx_Ts := (rx_inS (rx_T7 (List.mem_of_getElem? (i := 115) (by decide +kernel))) rfl)
theorem mf_MD_findMatch : rx_M "DeflateEffortModel" "findMatch" y_MD_findMatch := ⟨by decide +kernel, rfl, rfl, by decide +kernel⟩
theorem fa_MD_53 : rx_fld "DeflateEffortModel" 53 12 25 (.array .int) true := ⟨"DeflateEffortModel", Tc_MD, 57, tyc_MD, rfl, by decide, inc_MD, tyok_MD, nmc_MD, rfl, rfl, by decide +kernel, Or.inl (rx_inS (rx_T6 (List.mem_of_getElem? (i := 106) (by decide +kernel))) rfl)⟩
theorem fa_MD_119 : rx_fld "DeflateEffortModel" 119 12 0 .int true := ⟨"DeflateEffortModel", Tc_MD, 57, tyc_MD, rfl, by decide, inc_MD, tyok_MD, nmc_MD, rfl, rfl, by decide +kernel, Or.inl (rx_inS (rx_T6 (List.mem_of_getElem? (i := 81) (by decide +kernel))) rfl)⟩
theorem fa_MD_197 : rx_fld "DeflateEffortModel" 197 12 13 .int false := ⟨"DeflateEffortModel", Tc_MD, 57, tyc_MD, rfl, by decide, inc_MD, tyok_MD, nmc_MD, rfl, rfl, by decide +kernel, Or.inl (rx_inS (rx_T6 (List.mem_of_getElem? (i := 94) (by decide +kernel))) rfl)⟩
theorem fa_MD_56 : rx_fld "DeflateEffortModel" 56 12 26 (.array .int) true := ⟨"DeflateEffortModel", Tc_MD, 57, tyc_MD, rfl, by decide, inc_MD, tyok_MD, nmc_MD, rfl, rfl, by decide +kernel, Or.inl (rx_inS (rx_T6 (List.mem_of_getElem? (i := 107) (by decide +kernel))) rfl)⟩
theorem mf_MD_addToken : rx_M "DeflateEffortModel" "addToken" y_MD_addToken := ⟨by decide +kernel, rfl, rfl, by decide +kernel⟩
theorem mf_MD_firstTokens : rx_M "DeflateEffortModel" "firstTokens" y_MD_firstTokens := ⟨by decide +kernel, rfl, rfl, by decide +kernel⟩
set_option maxRecDepth 20000 in
theorem cw_MD_addToken : rx_cw y_MD_addToken b_MD_addToken 3 none 2 := ⟨(rx_inS (rx_T7 (List.mem_of_getElem? (i := 47) (rfl))) rfl), (rx_inS (rx_T1 (List.mem_of_getElem? (i := 15) (by decide +kernel))) rfl), by decide, by decide, by decide +kernel⟩
theorem lk_MD_200 : rx_lkm "DeflateEffortModel" 200 y_MD_addToken := Or.inl (rx_inS (rx_T7 (List.mem_of_getElem? (i := 44) (by decide +kernel))) rfl)
theorem ci_MD_addToken : Cond.instanceMethod y_MD_addToken ∈ rx_Ts ∧ Cond.selects "DeflateEffortModel" y_MD_addToken y_MD_addToken ∈ rx_Ts := ⟨(rx_inS (rx_T7 (List.mem_of_getElem? (i := 46) (by decide +kernel))) rfl), (rx_inP 41 (by decide +kernel) rfl)⟩
theorem mf_MD_weigh : rx_M "DeflateEffortModel" "weigh" y_MD_weigh := ⟨by decide +kernel, rfl, rfl, by decide +kernel⟩
theorem fa_MD_203 : rx_fld "DeflateEffortModel" 203 12 33 .int false := ⟨"DeflateEffortModel", Tc_MD, 57, tyc_MD, rfl, by decide, inc_MD, tyok_MD, nmc_MD, rfl, rfl, by decide +kernel, Or.inl (rx_inS (rx_T6 (List.mem_of_getElem? (i := 114) (by decide +kernel))) rfl)⟩
theorem fa_MD_206 : rx_fld "DeflateEffortModel" 206 12 34 .int false := ⟨"DeflateEffortModel", Tc_MD, 57, tyc_MD, rfl, by decide, inc_MD, tyok_MD, nmc_MD, rfl, rfl, by decide +kernel, Or.inl (rx_inS (rx_T6 (List.mem_of_getElem? (i := 115) (by decide +kernel))) rfl)⟩
set_option maxRecDepth 20000 in
theorem cw_MD_fixedCodes : rx_cw y_MD_fixedCodes b_MD_fixedCodes 2 none 0 := ⟨(rx_inS (rx_T7 (List.mem_of_getElem? (i := 55) (rfl))) rfl), (rx_inS (rx_T1 (List.mem_of_getElem? (i := 15) (by decide +kernel))) rfl), by decide, by decide, by decide +kernel⟩
theorem lk_MD_209 : rx_lkm "DeflateEffortModel" 209 y_MD_fixedCodes := Or.inl (rx_inS (rx_T7 (List.mem_of_getElem? (i := 52) (by decide +kernel))) rfl)
theorem ci_MD_fixedCodes : Cond.instanceMethod y_MD_fixedCodes ∈ rx_Ts ∧ Cond.selects "DeflateEffortModel" y_MD_fixedCodes y_MD_fixedCodes ∈ rx_Ts := ⟨(rx_inS (rx_T7 (List.mem_of_getElem? (i := 54) (by decide +kernel))) rfl), (rx_inP 43 (by decide +kernel) rfl)⟩
set_option maxRecDepth 20000 in
theorem cw_MD_bitsOfTokens : rx_cw y_MD_bitsOfTokens b_MD_bitsOfTokens 5 (some .int) 1 := ⟨(rx_inS (rx_T7 (List.mem_of_getElem? (i := 59) (rfl))) rfl), (rx_inS (rx_T1 (List.mem_of_getElem? (i := 15) (by decide +kernel))) rfl), by decide, by decide, by decide +kernel⟩
theorem lk_MD_212 : rx_lkm "DeflateEffortModel" 212 y_MD_bitsOfTokens := Or.inl (rx_inS (rx_T7 (List.mem_of_getElem? (i := 56) (by decide +kernel))) rfl)
theorem ci_MD_bitsOfTokens : Cond.instanceMethod y_MD_bitsOfTokens ∈ rx_Ts ∧ Cond.selects "DeflateEffortModel" y_MD_bitsOfTokens y_MD_bitsOfTokens ∈ rx_Ts := ⟨(rx_inS (rx_T7 (List.mem_of_getElem? (i := 58) (by decide +kernel))) rfl), (rx_inP 44 (by decide +kernel) rfl)⟩
set_option maxRecDepth 20000 in
theorem cw_MD_ownCodes : rx_cw y_MD_ownCodes b_MD_ownCodes 4 none 1 := ⟨(rx_inS (rx_T7 (List.mem_of_getElem? (i := 78) (rfl))) rfl), (rx_inS (rx_T1 (List.mem_of_getElem? (i := 15) (by decide +kernel))) rfl), by decide, by decide, by decide +kernel⟩
theorem lk_MD_215 : rx_lkm "DeflateEffortModel" 215 y_MD_ownCodes := Or.inl (rx_inS (rx_T7 (List.mem_of_getElem? (i := 75) (by decide +kernel))) rfl)
theorem ci_MD_ownCodes : Cond.instanceMethod y_MD_ownCodes ∈ rx_Ts ∧ Cond.selects "DeflateEffortModel" y_MD_ownCodes y_MD_ownCodes ∈ rx_Ts := ⟨(rx_inS (rx_T7 (List.mem_of_getElem? (i := 77) (by decide +kernel))) rfl), (rx_inP 45 (by decide +kernel) rfl)⟩
set_option maxRecDepth 20000 in
theorem cw_MD_bitsOfRow : rx_cw y_MD_bitsOfRow b_MD_bitsOfRow 3 (some .int) 0 := ⟨(rx_inS (rx_T7 (List.mem_of_getElem? (i := 113) (rfl))) rfl), (rx_inS (rx_T1 (List.mem_of_getElem? (i := 15) (by decide +kernel))) rfl), by decide, by decide, by decide +kernel⟩
theorem lk_MD_218 : rx_lkm "DeflateEffortModel" 218 y_MD_bitsOfRow := Or.inl (rx_inS (rx_T7 (List.mem_of_getElem? (i := 110) (by decide +kernel))) rfl)
theorem ci_MD_bitsOfRow : Cond.instanceMethod y_MD_bitsOfRow ∈ rx_Ts ∧ Cond.selects "DeflateEffortModel" y_MD_bitsOfRow y_MD_bitsOfRow ∈ rx_Ts := ⟨(rx_inS (rx_T7 (List.mem_of_getElem? (i := 112) (by decide +kernel))) rfl), (rx_inP 53 (by decide +kernel) rfl)⟩
theorem mf_MD_priceOfMatch : rx_M "DeflateEffortModel" "priceOfMatch" y_MD_priceOfMatch := ⟨by decide +kernel, rfl, rfl, by decide +kernel⟩
theorem mf_MD_priceTokens : rx_M "DeflateEffortModel" "priceTokens" y_MD_priceTokens := ⟨by decide +kernel, rfl, rfl, by decide +kernel⟩
theorem fa_MD_71 : rx_fld "DeflateEffortModel" 71 12 36 (.array .int) true := ⟨"DeflateEffortModel", Tc_MD, 57, tyc_MD, rfl, by decide, inc_MD, tyok_MD, nmc_MD, rfl, rfl, by decide +kernel, Or.inl (rx_inS (rx_T6 (List.mem_of_getElem? (i := 117) (by decide +kernel))) rfl)⟩
theorem fa_MD_74 : rx_fld "DeflateEffortModel" 74 12 37 (.array .int) true := ⟨"DeflateEffortModel", Tc_MD, 57, tyc_MD, rfl, by decide, inc_MD, tyok_MD, nmc_MD, rfl, rfl, by decide +kernel, Or.inl (rx_inS (rx_T6 (List.mem_of_getElem? (i := 118) (by decide +kernel))) rfl)⟩
set_option maxRecDepth 20000 in
theorem cw_MD_priceOfMatch : rx_cw y_MD_priceOfMatch b_MD_priceOfMatch 7 (some .int) 2 := ⟨(rx_inS (rx_T7 (List.mem_of_getElem? (i := 128) (rfl))) rfl), (rx_inS (rx_T1 (List.mem_of_getElem? (i := 15) (by decide +kernel))) rfl), by decide, by decide, by decide +kernel⟩
theorem lk_MD_222 : rx_lkm "DeflateEffortModel" 222 y_MD_priceOfMatch := Or.inl (rx_inS (rx_T7 (List.mem_of_getElem? (i := 125) (by decide +kernel))) rfl)
theorem ci_MD_priceOfMatch : Cond.instanceMethod y_MD_priceOfMatch ∈ rx_Ts ∧ Cond.selects "DeflateEffortModel" y_MD_priceOfMatch y_MD_priceOfMatch ∈ rx_Ts := ⟨(rx_inS (rx_T7 (List.mem_of_getElem? (i := 127) (by decide +kernel))) rfl), (rx_inP 56 (by decide +kernel) rfl)⟩
theorem mf_MD_keepSpare : rx_M "DeflateEffortModel" "keepSpare" y_MD_keepSpare := ⟨by decide +kernel, rfl, rfl, by decide +kernel⟩
theorem fa_MD_225 : rx_fld "DeflateEffortModel" 225 12 30 .int false := ⟨"DeflateEffortModel", Tc_MD, 57, tyc_MD, rfl, by decide, inc_MD, tyok_MD, nmc_MD, rfl, rfl, by decide +kernel, Or.inl (rx_inS (rx_T6 (List.mem_of_getElem? (i := 111) (by decide +kernel))) rfl)⟩
theorem fa_MD_65 : rx_fld "DeflateEffortModel" 65 12 31 (.array .int) true := ⟨"DeflateEffortModel", Tc_MD, 57, tyc_MD, rfl, by decide, inc_MD, tyok_MD, nmc_MD, rfl, rfl, by decide +kernel, Or.inl (rx_inS (rx_T6 (List.mem_of_getElem? (i := 112) (by decide +kernel))) rfl)⟩
theorem fa_MD_68 : rx_fld "DeflateEffortModel" 68 12 32 (.array .int) true := ⟨"DeflateEffortModel", Tc_MD, 57, tyc_MD, rfl, by decide, inc_MD, tyok_MD, nmc_MD, rfl, rfl, by decide +kernel, Or.inl (rx_inS (rx_T6 (List.mem_of_getElem? (i := 113) (by decide +kernel))) rfl)⟩
theorem mf_MD_putBack : rx_M "DeflateEffortModel" "putBack" y_MD_putBack := ⟨by decide +kernel, rfl, rfl, by decide +kernel⟩
theorem mf_MD_makeBlock : rx_M "DeflateEffortModel" "makeBlock" y_MD_makeBlock := ⟨by decide +kernel, rfl, rfl, by decide +kernel⟩
set_option maxRecDepth 20000 in
theorem cw_MD_findMatch : rx_cw y_MD_findMatch b_MD_findMatch 7 none 3 := ⟨(rx_inS (rx_T7 (List.mem_of_getElem? (i := 39) (rfl))) rfl), (rx_inS (rx_T1 (List.mem_of_getElem? (i := 15) (by decide +kernel))) rfl), by decide, by decide, by decide +kernel⟩
theorem lk_MD_228 : rx_lkm "DeflateEffortModel" 228 y_MD_findMatch := Or.inl (rx_inS (rx_T7 (List.mem_of_getElem? (i := 36) (by decide +kernel))) rfl)
theorem ci_MD_findMatch : Cond.instanceMethod y_MD_findMatch ∈ rx_Ts ∧ Cond.selects "DeflateEffortModel" y_MD_findMatch y_MD_findMatch ∈ rx_Ts := ⟨(rx_inS (rx_T7 (List.mem_of_getElem? (i := 38) (by decide +kernel))) rfl), (rx_inP 39 (by decide +kernel) rfl)⟩
set_option maxRecDepth 20000 in
theorem cw_MD_firstTokens : rx_cw y_MD_firstTokens b_MD_firstTokens 6 none 2 := ⟨(rx_inS (rx_T7 (List.mem_of_getElem? (i := 43) (rfl))) rfl), (rx_inS (rx_T1 (List.mem_of_getElem? (i := 15) (by decide +kernel))) rfl), by decide, by decide, by decide +kernel⟩
theorem lk_MD_232 : rx_lkm "DeflateEffortModel" 232 y_MD_firstTokens := Or.inl (rx_inS (rx_T7 (List.mem_of_getElem? (i := 40) (by decide +kernel))) rfl)
theorem ci_MD_firstTokens : Cond.instanceMethod y_MD_firstTokens ∈ rx_Ts ∧ Cond.selects "DeflateEffortModel" y_MD_firstTokens y_MD_firstTokens ∈ rx_Ts := ⟨(rx_inS (rx_T7 (List.mem_of_getElem? (i := 42) (by decide +kernel))) rfl), (rx_inP 40 (by decide +kernel) rfl)⟩
set_option maxRecDepth 20000 in
theorem cw_MD_weigh : rx_cw y_MD_weigh b_MD_weigh 4 none 2 := ⟨(rx_inS (rx_T7 (List.mem_of_getElem? (i := 51) (rfl))) rfl), (rx_inS (rx_T1 (List.mem_of_getElem? (i := 15) (by decide +kernel))) rfl), by decide, by decide, by decide +kernel⟩
theorem lk_MD_235 : rx_lkm "DeflateEffortModel" 235 y_MD_weigh := Or.inl (rx_inS (rx_T7 (List.mem_of_getElem? (i := 48) (by decide +kernel))) rfl)
theorem ci_MD_weigh : Cond.instanceMethod y_MD_weigh ∈ rx_Ts ∧ Cond.selects "DeflateEffortModel" y_MD_weigh y_MD_weigh ∈ rx_Ts := ⟨(rx_inS (rx_T7 (List.mem_of_getElem? (i := 50) (by decide +kernel))) rfl), (rx_inP 42 (by decide +kernel) rfl)⟩
theorem fa_MD_238 : rx_fld "DeflateEffortModel" 238 12 35 .int false := ⟨"DeflateEffortModel", Tc_MD, 57, tyc_MD, rfl, by decide, inc_MD, tyok_MD, nmc_MD, rfl, rfl, by decide +kernel, Or.inl (rx_inS (rx_T6 (List.mem_of_getElem? (i := 116) (by decide +kernel))) rfl)⟩
set_option maxRecDepth 20000 in
theorem cw_MD_keepSpare : rx_cw y_MD_keepSpare b_MD_keepSpare 2 none 0 := ⟨(rx_inS (rx_T7 (List.mem_of_getElem? (i := 120) (rfl))) rfl), (rx_inS (rx_T1 (List.mem_of_getElem? (i := 15) (by decide +kernel))) rfl), by decide, by decide, by decide +kernel⟩
theorem lk_MD_241 : rx_lkm "DeflateEffortModel" 241 y_MD_keepSpare := Or.inl (rx_inS (rx_T7 (List.mem_of_getElem? (i := 117) (by decide +kernel))) rfl)
theorem ci_MD_keepSpare : Cond.instanceMethod y_MD_keepSpare ∈ rx_Ts ∧ Cond.selects "DeflateEffortModel" y_MD_keepSpare y_MD_keepSpare ∈ rx_Ts := ⟨(rx_inS (rx_T7 (List.mem_of_getElem? (i := 119) (by decide +kernel))) rfl), (rx_inP 54 (by decide +kernel) rfl)⟩
set_option maxRecDepth 20000 in
theorem cw_MD_priceTokens : rx_cw y_MD_priceTokens b_MD_priceTokens 6 none 2 := ⟨(rx_inS (rx_T7 (List.mem_of_getElem? (i := 124) (rfl))) rfl), (rx_inS (rx_T1 (List.mem_of_getElem? (i := 15) (by decide +kernel))) rfl), by decide, by decide, by decide +kernel⟩
theorem lk_MD_244 : rx_lkm "DeflateEffortModel" 244 y_MD_priceTokens := Or.inl (rx_inS (rx_T7 (List.mem_of_getElem? (i := 121) (by decide +kernel))) rfl)
theorem ci_MD_priceTokens : Cond.instanceMethod y_MD_priceTokens ∈ rx_Ts ∧ Cond.selects "DeflateEffortModel" y_MD_priceTokens y_MD_priceTokens ∈ rx_Ts := ⟨(rx_inS (rx_T7 (List.mem_of_getElem? (i := 123) (by decide +kernel))) rfl), (rx_inP 55 (by decide +kernel) rfl)⟩
set_option maxRecDepth 20000 in
theorem cw_MD_putBack : rx_cw y_MD_putBack b_MD_putBack 2 none 0 := ⟨(rx_inS (rx_T7 (List.mem_of_getElem? (i := 132) (rfl))) rfl), (rx_inS (rx_T1 (List.mem_of_getElem? (i := 15) (by decide +kernel))) rfl), by decide, by decide, by decide +kernel⟩
theorem lk_MD_247 : rx_lkm "DeflateEffortModel" 247 y_MD_putBack := Or.inl (rx_inS (rx_T7 (List.mem_of_getElem? (i := 129) (by decide +kernel))) rfl)
theorem ci_MD_putBack : Cond.instanceMethod y_MD_putBack ∈ rx_Ts ∧ Cond.selects "DeflateEffortModel" y_MD_putBack y_MD_putBack ∈ rx_Ts := ⟨(rx_inS (rx_T7 (List.mem_of_getElem? (i := 131) (by decide +kernel))) rfl), (rx_inP 57 (by decide +kernel) rfl)⟩
theorem mf_MD_putBit : rx_M "DeflateEffortModel" "putBit" y_MD_putBit := ⟨by decide +kernel, rfl, rfl, by decide +kernel⟩
theorem fa_MD_250 : rx_fld "DeflateEffortModel" 250 12 7 .int false := ⟨"DeflateEffortModel", Tc_MD, 57, tyc_MD, rfl, by decide, inc_MD, tyok_MD, nmc_MD, rfl, rfl, by decide +kernel, Or.inl (rx_inS (rx_T6 (List.mem_of_getElem? (i := 88) (by decide +kernel))) rfl)⟩
theorem fa_MD_13 : rx_fld "DeflateEffortModel" 13 12 6 (.array .int) true := ⟨"DeflateEffortModel", Tc_MD, 57, tyc_MD, rfl, by decide, inc_MD, tyok_MD, nmc_MD, rfl, rfl, by decide +kernel, Or.inl (rx_inS (rx_T6 (List.mem_of_getElem? (i := 87) (by decide +kernel))) rfl)⟩
theorem mf_MD_putNumber : rx_M "DeflateEffortModel" "putNumber" y_MD_putNumber := ⟨by decide +kernel, rfl, rfl, by decide +kernel⟩
set_option maxRecDepth 20000 in
theorem cw_MD_putBit : rx_cw y_MD_putBit b_MD_putBit 2 none 1 := ⟨(rx_inS (rx_T7 (List.mem_of_getElem? (i := 140) (rfl))) rfl), (rx_inS (rx_T1 (List.mem_of_getElem? (i := 15) (by decide +kernel))) rfl), by decide, by decide, by decide +kernel⟩
theorem lk_MD_253 : rx_lkm "DeflateEffortModel" 253 y_MD_putBit := Or.inl (rx_inS (rx_T7 (List.mem_of_getElem? (i := 137) (by decide +kernel))) rfl)
theorem ci_MD_putBit : Cond.instanceMethod y_MD_putBit ∈ rx_Ts ∧ Cond.selects "DeflateEffortModel" y_MD_putBit y_MD_putBit ∈ rx_Ts := ⟨(rx_inS (rx_T7 (List.mem_of_getElem? (i := 139) (by decide +kernel))) rfl), (rx_inP 59 (by decide +kernel) rfl)⟩
theorem mf_MD_putCode : rx_M "DeflateEffortModel" "putCode" y_MD_putCode := ⟨by decide +kernel, rfl, rfl, by decide +kernel⟩
theorem mf_MD_putStored : rx_M "DeflateEffortModel" "putStored" y_MD_putStored := ⟨by decide +kernel, rfl, rfl, by decide +kernel⟩
set_option maxRecDepth 20000 in
theorem cw_MD_putNumber : rx_cw y_MD_putNumber b_MD_putNumber 4 none 2 := ⟨(rx_inS (rx_T7 (List.mem_of_getElem? (i := 144) (rfl))) rfl), (rx_inS (rx_T1 (List.mem_of_getElem? (i := 15) (by decide +kernel))) rfl), by decide, by decide, by decide +kernel⟩
theorem lk_MD_256 : rx_lkm "DeflateEffortModel" 256 y_MD_putNumber := Or.inl (rx_inS (rx_T7 (List.mem_of_getElem? (i := 141) (by decide +kernel))) rfl)
theorem ci_MD_putNumber : Cond.instanceMethod y_MD_putNumber ∈ rx_Ts ∧ Cond.selects "DeflateEffortModel" y_MD_putNumber y_MD_putNumber ∈ rx_Ts := ⟨(rx_inS (rx_T7 (List.mem_of_getElem? (i := 143) (by decide +kernel))) rfl), (rx_inP 60 (by decide +kernel) rfl)⟩
theorem mf_MD_putRow : rx_M "DeflateEffortModel" "putRow" y_MD_putRow := ⟨by decide +kernel, rfl, rfl, by decide +kernel⟩
theorem fa_MD_101 : rx_fld "DeflateEffortModel" 101 12 46 (.array .int) true := ⟨"DeflateEffortModel", Tc_MD, 57, tyc_MD, rfl, by decide, inc_MD, tyok_MD, nmc_MD, rfl, rfl, by decide +kernel, Or.inl (rx_inS (rx_T6 (List.mem_of_getElem? (i := 127) (by decide +kernel))) rfl)⟩
set_option maxRecDepth 20000 in
theorem cw_MD_number : rx_cw y_MD_number b_MD_number 6 none 3 := ⟨(rx_inS (rx_T7 (List.mem_of_getElem? (i := 155) (rfl))) rfl), (rx_inS (rx_T1 (List.mem_of_getElem? (i := 15) (by decide +kernel))) rfl), by decide, by decide, by decide +kernel⟩
theorem lk_MD_259 : rx_lkm "DeflateEffortModel" 259 y_MD_number := Or.inl (rx_inS (rx_T7 (List.mem_of_getElem? (i := 153) (by decide +kernel))) rfl)
theorem cs_MD_number : Cond.static y_MD_number ∈ rx_Ts := (rx_inS (rx_T7 (List.mem_of_getElem? (i := 154) (by decide +kernel))) rfl)
set_option maxRecDepth 20000 in
theorem cw_MD_putCode : rx_cw y_MD_putCode b_MD_putCode 4 none 2 := ⟨(rx_inS (rx_T7 (List.mem_of_getElem? (i := 159) (rfl))) rfl), (rx_inS (rx_T1 (List.mem_of_getElem? (i := 15) (by decide +kernel))) rfl), by decide, by decide, by decide +kernel⟩
theorem lk_MD_262 : rx_lkm "DeflateEffortModel" 262 y_MD_putCode := Or.inl (rx_inS (rx_T7 (List.mem_of_getElem? (i := 156) (by decide +kernel))) rfl)
theorem ci_MD_putCode : Cond.instanceMethod y_MD_putCode ∈ rx_Ts ∧ Cond.selects "DeflateEffortModel" y_MD_putCode y_MD_putCode ∈ rx_Ts := ⟨(rx_inS (rx_T7 (List.mem_of_getElem? (i := 158) (by decide +kernel))) rfl), (rx_inP 63 (by decide +kernel) rfl)⟩
theorem mf_MD_putTokens : rx_M "DeflateEffortModel" "putTokens" y_MD_putTokens := ⟨by decide +kernel, rfl, rfl, by decide +kernel⟩
theorem fa_MD_83 : rx_fld "DeflateEffortModel" 83 12 40 (.array .int) true := ⟨"DeflateEffortModel", Tc_MD, 57, tyc_MD, rfl, by decide, inc_MD, tyok_MD, nmc_MD, rfl, rfl, by decide +kernel, Or.inl (rx_inS (rx_T6 (List.mem_of_getElem? (i := 121) (by decide +kernel))) rfl)⟩
theorem fa_MD_92 : rx_fld "DeflateEffortModel" 92 12 43 (.array .int) true := ⟨"DeflateEffortModel", Tc_MD, 57, tyc_MD, rfl, by decide, inc_MD, tyok_MD, nmc_MD, rfl, rfl, by decide +kernel, Or.inl (rx_inS (rx_T6 (List.mem_of_getElem? (i := 124) (by decide +kernel))) rfl)⟩
theorem mf_MD_putBlock : rx_M "DeflateEffortModel" "putBlock" y_MD_putBlock := ⟨by decide +kernel, rfl, rfl, by decide +kernel⟩
set_option maxRecDepth 20000 in
theorem cw_MD_makeBlock : rx_cw y_MD_makeBlock b_MD_makeBlock 8 none 3 := ⟨(rx_inS (rx_T7 (List.mem_of_getElem? (i := 35) (rfl))) rfl), (rx_inS (rx_T1 (List.mem_of_getElem? (i := 15) (by decide +kernel))) rfl), by decide, by decide, by decide +kernel⟩
theorem lk_MD_265 : rx_lkm "DeflateEffortModel" 265 y_MD_makeBlock := Or.inl (rx_inS (rx_T7 (List.mem_of_getElem? (i := 32) (by decide +kernel))) rfl)
theorem ci_MD_makeBlock : Cond.instanceMethod y_MD_makeBlock ∈ rx_Ts ∧ Cond.selects "DeflateEffortModel" y_MD_makeBlock y_MD_makeBlock ∈ rx_Ts := ⟨(rx_inS (rx_T7 (List.mem_of_getElem? (i := 34) (by decide +kernel))) rfl), (rx_inP 38 (by decide +kernel) rfl)⟩
set_option maxRecDepth 20000 in
theorem cw_MD_putStored : rx_cw y_MD_putStored b_MD_putStored 4 none 2 := ⟨(rx_inS (rx_T7 (List.mem_of_getElem? (i := 148) (rfl))) rfl), (rx_inS (rx_T1 (List.mem_of_getElem? (i := 15) (by decide +kernel))) rfl), by decide, by decide, by decide +kernel⟩
theorem lk_MD_268 : rx_lkm "DeflateEffortModel" 268 y_MD_putStored := Or.inl (rx_inS (rx_T7 (List.mem_of_getElem? (i := 145) (by decide +kernel))) rfl)
theorem ci_MD_putStored : Cond.instanceMethod y_MD_putStored ∈ rx_Ts ∧ Cond.selects "DeflateEffortModel" y_MD_putStored y_MD_putStored ∈ rx_Ts := ⟨(rx_inS (rx_T7 (List.mem_of_getElem? (i := 147) (by decide +kernel))) rfl), (rx_inP 61 (by decide +kernel) rfl)⟩
set_option maxRecDepth 20000 in
theorem cw_MD_putRow : rx_cw y_MD_putRow b_MD_putRow 2 none 0 := ⟨(rx_inS (rx_T7 (List.mem_of_getElem? (i := 152) (rfl))) rfl), (rx_inS (rx_T1 (List.mem_of_getElem? (i := 15) (by decide +kernel))) rfl), by decide, by decide, by decide +kernel⟩
theorem lk_MD_271 : rx_lkm "DeflateEffortModel" 271 y_MD_putRow := Or.inl (rx_inS (rx_T7 (List.mem_of_getElem? (i := 149) (by decide +kernel))) rfl)
theorem ci_MD_putRow : Cond.instanceMethod y_MD_putRow ∈ rx_Ts ∧ Cond.selects "DeflateEffortModel" y_MD_putRow y_MD_putRow ∈ rx_Ts := ⟨(rx_inS (rx_T7 (List.mem_of_getElem? (i := 151) (by decide +kernel))) rfl), (rx_inP 62 (by decide +kernel) rfl)⟩
set_option maxRecDepth 20000 in
theorem cw_MD_putTokens : rx_cw y_MD_putTokens b_MD_putTokens 8 none 1 := ⟨(rx_inS (rx_T7 (List.mem_of_getElem? (i := 163) (rfl))) rfl), (rx_inS (rx_T1 (List.mem_of_getElem? (i := 15) (by decide +kernel))) rfl), by decide, by decide, by decide +kernel⟩
theorem lk_MD_274 : rx_lkm "DeflateEffortModel" 274 y_MD_putTokens := Or.inl (rx_inS (rx_T7 (List.mem_of_getElem? (i := 160) (by decide +kernel))) rfl)
theorem ci_MD_putTokens : Cond.instanceMethod y_MD_putTokens ∈ rx_Ts ∧ Cond.selects "DeflateEffortModel" y_MD_putTokens y_MD_putTokens ∈ rx_Ts := ⟨(rx_inS (rx_T7 (List.mem_of_getElem? (i := 162) (by decide +kernel))) rfl), (rx_inP 64 (by decide +kernel) rfl)⟩
theorem fa_MD_26 : rx_fld "DeflateEffortModel" 26 12 16 (.array .int) true := ⟨"DeflateEffortModel", Tc_MD, 57, tyc_MD, rfl, by decide, inc_MD, tyok_MD, nmc_MD, rfl, rfl, by decide +kernel, Or.inl (rx_inS (rx_T6 (List.mem_of_getElem? (i := 97) (by decide +kernel))) rfl)⟩
theorem fa_MD_277 : rx_fld "DeflateEffortModel" 277 12 15 .int false := ⟨"DeflateEffortModel", Tc_MD, 57, tyc_MD, rfl, by decide, inc_MD, tyok_MD, nmc_MD, rfl, rfl, by decide +kernel, Or.inl (rx_inS (rx_T6 (List.mem_of_getElem? (i := 96) (by decide +kernel))) rfl)⟩
theorem fa_MD_29 : rx_fld "DeflateEffortModel" 29 12 17 (.array .int) true := ⟨"DeflateEffortModel", Tc_MD, 57, tyc_MD, rfl, by decide, inc_MD, tyok_MD, nmc_MD, rfl, rfl, by decide +kernel, Or.inl (rx_inS (rx_T6 (List.mem_of_getElem? (i := 98) (by decide +kernel))) rfl)⟩
theorem fa_MD_32 : rx_fld "DeflateEffortModel" 32 12 18 (.array .int) true := ⟨"DeflateEffortModel", Tc_MD, 57, tyc_MD, rfl, by decide, inc_MD, tyok_MD, nmc_MD, rfl, rfl, by decide +kernel, Or.inl (rx_inS (rx_T6 (List.mem_of_getElem? (i := 99) (by decide +kernel))) rfl)⟩
theorem fa_MD_35 : rx_fld "DeflateEffortModel" 35 12 19 (.array .int) true := ⟨"DeflateEffortModel", Tc_MD, 57, tyc_MD, rfl, by decide, inc_MD, tyok_MD, nmc_MD, rfl, rfl, by decide +kernel, Or.inl (rx_inS (rx_T6 (List.mem_of_getElem? (i := 100) (by decide +kernel))) rfl)⟩
theorem fa_MD_38 : rx_fld "DeflateEffortModel" 38 12 20 (.array .int) true := ⟨"DeflateEffortModel", Tc_MD, 57, tyc_MD, rfl, by decide, inc_MD, tyok_MD, nmc_MD, rfl, rfl, by decide +kernel, Or.inl (rx_inS (rx_T6 (List.mem_of_getElem? (i := 101) (by decide +kernel))) rfl)⟩
theorem fa_MD_41 : rx_fld "DeflateEffortModel" 41 12 21 (.array .int) true := ⟨"DeflateEffortModel", Tc_MD, 57, tyc_MD, rfl, by decide, inc_MD, tyok_MD, nmc_MD, rfl, rfl, by decide +kernel, Or.inl (rx_inS (rx_T6 (List.mem_of_getElem? (i := 102) (by decide +kernel))) rfl)⟩
