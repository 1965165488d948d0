theorem fa_MD_280 : rx_fld "DeflateEffortModel" 280 12 14 .int false := ⟨"DeflateEffortModel", Tc_MD, 57, tyc_MD, rfl, by decide, inc_MD, tyok_MD, nmc_MD, rfl, rfl, by decide +kernel, Or.inl (rx_inS (rx_T6 (List.mem_of_getElem? (i := 95) (by decide +kernel))) rfl)⟩
theorem mf_MD_cut : rx_M "DeflateEffortModel" "cut" y_MD_cut := ⟨by decide +kernel, rfl, rfl, by decide +kernel⟩
theorem mf_MD_deflate : rx_M "DeflateEffortModel" "deflate" y_MD_deflate := ⟨by decide +kernel, rfl, rfl, by decide +kernel⟩
set_option maxRecDepth 20000 in
theorem cw_MD_cut : rx_cw y_MD_cut b_MD_cut 2 (some .int) 1 := ⟨(rx_inS (rx_T7 (List.mem_of_getElem? (i := 31) (rfl))) rfl), (rx_inS (rx_T1 (List.mem_of_getElem? (i := 15) (by decide +kernel))) rfl), by decide, by decide, by decide +kernel⟩
theorem lk_MD_283 : rx_lkm "DeflateEffortModel" 283 y_MD_cut := Or.inl (rx_inS (rx_T7 (List.mem_of_getElem? (i := 28) (by decide +kernel))) rfl)
theorem ci_MD_cut : Cond.instanceMethod y_MD_cut ∈ rx_Ts ∧ Cond.selects "DeflateEffortModel" y_MD_cut y_MD_cut ∈ rx_Ts := ⟨(rx_inS (rx_T7 (List.mem_of_getElem? (i := 30) (by decide +kernel))) rfl), (rx_inP 37 (by decide +kernel) rfl)⟩
theorem fa_MD_44 : rx_fld "DeflateEffortModel" 44 12 22 (.array .int) true := ⟨"DeflateEffortModel", Tc_MD, 57, tyc_MD, rfl, by decide, inc_MD, tyok_MD, nmc_MD, rfl, rfl, by decide +kernel, Or.inl (rx_inS (rx_T6 (List.mem_of_getElem? (i := 103) (by decide +kernel))) rfl)⟩
theorem fa_MD_47 : rx_fld "DeflateEffortModel" 47 12 23 (.array .int) true := ⟨"DeflateEffortModel", Tc_MD, 57, tyc_MD, rfl, by decide, inc_MD, tyok_MD, nmc_MD, rfl, rfl, by decide +kernel, Or.inl (rx_inS (rx_T6 (List.mem_of_getElem? (i := 104) (by decide +kernel))) rfl)⟩
theorem fa_MD_50 : rx_fld "DeflateEffortModel" 50 12 24 (.array .int) true := ⟨"DeflateEffortModel", Tc_MD, 57, tyc_MD, rfl, by decide, inc_MD, tyok_MD, nmc_MD, rfl, rfl, by decide +kernel, Or.inl (rx_inS (rx_T6 (List.mem_of_getElem? (i := 105) (by decide +kernel))) rfl)⟩
set_option maxRecDepth 20000 in
theorem cw_MD_putBlock : rx_cw y_MD_putBlock b_MD_putBlock 4 none 2 := ⟨(rx_inS (rx_T7 (List.mem_of_getElem? (i := 136) (rfl))) rfl), (rx_inS (rx_T1 (List.mem_of_getElem? (i := 15) (by decide +kernel))) rfl), by decide, by decide, by decide +kernel⟩
theorem lk_MD_286 : rx_lkm "DeflateEffortModel" 286 y_MD_putBlock := Or.inl (rx_inS (rx_T7 (List.mem_of_getElem? (i := 133) (by decide +kernel))) rfl)
theorem ci_MD_putBlock : Cond.instanceMethod y_MD_putBlock ∈ rx_Ts ∧ Cond.selects "DeflateEffortModel" y_MD_putBlock y_MD_putBlock ∈ rx_Ts := ⟨(rx_inS (rx_T7 (List.mem_of_getElem? (i := 135) (by decide +kernel))) rfl), (rx_inP 58 (by decide +kernel) rfl)⟩
theorem fa_MD_289 : rx_fld "DeflateEffortModel" 289 12 5 .int false := ⟨"DeflateEffortModel", Tc_MD, 57, tyc_MD, rfl, by decide, inc_MD, tyok_MD, nmc_MD, rfl, rfl, by decide +kernel, Or.inl (rx_inS (rx_T6 (List.mem_of_getElem? (i := 86) (by decide +kernel))) rfl)⟩
theorem mf_MD_byteAt : rx_M "DeflateEffortModel" "byteAt" y_MD_byteAt := ⟨by decide +kernel, rfl, rfl, by decide +kernel⟩
theorem mf_MD_block : rx_M "DeflateEffortModel" "block" y_MD_block := ⟨by decide +kernel, rfl, rfl, by decide +kernel⟩
theorem mf_MD_feedCoded : rx_M "DeflateEffortModel" "feedCoded" y_MD_feedCoded := ⟨by decide +kernel, rfl, rfl, by decide +kernel⟩
theorem fa_MD_292 : rx_fld "DeflateEffortModel" 292 12 8 .int false := ⟨"DeflateEffortModel", Tc_MD, 57, tyc_MD, rfl, by decide, inc_MD, tyok_MD, nmc_MD, rfl, rfl, by decide +kernel, Or.inl (rx_inS (rx_T6 (List.mem_of_getElem? (i := 89) (by decide +kernel))) rfl)⟩
theorem fa_MD_16 : rx_fld "DeflateEffortModel" 16 12 9 (.array .int) true := ⟨"DeflateEffortModel", Tc_MD, 57, tyc_MD, rfl, by decide, inc_MD, tyok_MD, nmc_MD, rfl, rfl, by decide +kernel, Or.inl (rx_inS (rx_T6 (List.mem_of_getElem? (i := 90) (by decide +kernel))) rfl)⟩
theorem mf_MD_pass : rx_M "DeflateEffortModel" "pass" y_MD_pass := ⟨by decide +kernel, rfl, rfl, by decide +kernel⟩
theorem mf_MD_alter : rx_M "DeflateEffortModel" "alter" y_MD_alter := ⟨by decide +kernel, rfl, rfl, by decide +kernel⟩
theorem mf_MD_has : rx_M "DeflateEffortModel" "has" y_MD_has := ⟨by decide +kernel, rfl, rfl, by decide +kernel⟩
theorem fa_MD_295 : rx_fld "DeflateEffortModel" 295 12 55 .int false := ⟨"DeflateEffortModel", Tc_MD, 57, tyc_MD, rfl, by decide, inc_MD, tyok_MD, nmc_MD, rfl, rfl, by decide +kernel, Or.inl (rx_inS (rx_T6 (List.mem_of_getElem? (i := 136) (by decide +kernel))) rfl)⟩
theorem mf_MD_take : rx_M "DeflateEffortModel" "take" y_MD_take := ⟨by decide +kernel, rfl, rfl, by decide +kernel⟩
theorem mf_MD_broken : rx_M "DeflateEffortModel" "broken" y_MD_broken := ⟨by decide +kernel, rfl, rfl, by decide +kernel⟩
theorem fa_MD_22 : rx_fld "DeflateEffortModel" 22 12 12 .int false := ⟨"DeflateEffortModel", Tc_MD, 57, tyc_MD, rfl, by decide, inc_MD, tyok_MD, nmc_MD, rfl, rfl, by decide +kernel, Or.inl (rx_inS (rx_T6 (List.mem_of_getElem? (i := 93) (by decide +kernel))) rfl)⟩
theorem mf_MD_tell : rx_M "DeflateEffortModel" "tell" y_MD_tell := ⟨by decide +kernel, rfl, rfl, by decide +kernel⟩
theorem fa_MD_298 : rx_fld "DeflateEffortModel" 298 12 10 .int false := ⟨"DeflateEffortModel", Tc_MD, 57, tyc_MD, rfl, by decide, inc_MD, tyok_MD, nmc_MD, rfl, rfl, by decide +kernel, Or.inl (rx_inS (rx_T6 (List.mem_of_getElem? (i := 91) (by decide +kernel))) rfl)⟩
theorem fa_MD_122 : rx_fld "DeflateEffortModel" 122 12 1 .int true := ⟨"DeflateEffortModel", Tc_MD, 57, tyc_MD, rfl, by decide, inc_MD, tyok_MD, nmc_MD, rfl, rfl, by decide +kernel, Or.inl (rx_inS (rx_T6 (List.mem_of_getElem? (i := 82) (by decide +kernel))) rfl)⟩
theorem fa_MD_19 : rx_fld "DeflateEffortModel" 19 12 11 (.array .int) true := ⟨"DeflateEffortModel", Tc_MD, 57, tyc_MD, rfl, by decide, inc_MD, tyok_MD, nmc_MD, rfl, rfl, by decide +kernel, Or.inl (rx_inS (rx_T6 (List.mem_of_getElem? (i := 92) (by decide +kernel))) rfl)⟩
theorem mf_MD_symbol : rx_M "DeflateEffortModel" "symbol" y_MD_symbol := ⟨by decide +kernel, rfl, rfl, by decide +kernel⟩
set_option maxRecDepth 20000 in
theorem cw_MD_has : rx_cw y_MD_has b_MD_has 2 (some .boolean) 1 := ⟨(rx_inS (rx_T7 (List.mem_of_getElem? (i := 195) (rfl))) rfl), (rx_inS (rx_T1 (List.mem_of_getElem? (i := 15) (by decide +kernel))) rfl), by decide, by decide, by decide +kernel⟩
theorem lk_MD_301 : rx_lkm "DeflateEffortModel" 301 y_MD_has := Or.inl (rx_inS (rx_T7 (List.mem_of_getElem? (i := 192) (by decide +kernel))) rfl)
theorem ci_MD_has : Cond.instanceMethod y_MD_has ∈ rx_Ts ∧ Cond.selects "DeflateEffortModel" y_MD_has y_MD_has ∈ rx_Ts := ⟨(rx_inS (rx_T7 (List.mem_of_getElem? (i := 194) (by decide +kernel))) rfl), (rx_inP 66 (by decide +kernel) rfl)⟩
theorem mf_MD_fullness : rx_M "DeflateEffortModel" "fullness" y_MD_fullness := ⟨by decide +kernel, rfl, rfl, by decide +kernel⟩
theorem kc_MD_305 : Cond.constant "DeflateEffortModel" 305 (32768) ∈ rx_Ts := (rx_inS (rx_T7 (List.mem_of_getElem? (i := 220) (by decide +kernel))) rfl)
theorem mf_MD_readStored : rx_M "DeflateEffortModel" "readStored" y_MD_readStored := ⟨by decide +kernel, rfl, rfl, by decide +kernel⟩
set_option maxRecDepth 20000 in
theorem cw_MD_take : rx_cw y_MD_take b_MD_take 4 (some .int) 1 := ⟨(rx_inS (rx_T7 (List.mem_of_getElem? (i := 199) (rfl))) rfl), (rx_inS (rx_T1 (List.mem_of_getElem? (i := 15) (by decide +kernel))) rfl), by decide, by decide, by decide +kernel⟩
theorem lk_MD_306 : rx_lkm "DeflateEffortModel" 306 y_MD_take := Or.inl (rx_inS (rx_T7 (List.mem_of_getElem? (i := 196) (by decide +kernel))) rfl)
theorem ci_MD_take : Cond.instanceMethod y_MD_take ∈ rx_Ts ∧ Cond.selects "DeflateEffortModel" y_MD_take y_MD_take ∈ rx_Ts := ⟨(rx_inS (rx_T7 (List.mem_of_getElem? (i := 198) (by decide +kernel))) rfl), (rx_inP 67 (by decide +kernel) rfl)⟩
theorem kc_MD_309 : Cond.constant "DeflateEffortModel" 309 (65535) ∈ rx_Ts := (rx_inS (rx_T7 (List.mem_of_getElem? (i := 204) (by decide +kernel))) rfl)
set_option maxRecDepth 20000 in
theorem cw_MD_tell : rx_cw y_MD_tell b_MD_tell 2 (some .int) 1 := ⟨(rx_inS (rx_T7 (List.mem_of_getElem? (i := 212) (rfl))) rfl), (rx_inS (rx_T1 (List.mem_of_getElem? (i := 15) (by decide +kernel))) rfl), by decide, by decide, by decide +kernel⟩
theorem lk_MD_313 : rx_lkm "DeflateEffortModel" 313 y_MD_tell := Or.inl (rx_inS (rx_T7 (List.mem_of_getElem? (i := 209) (by decide +kernel))) rfl)
theorem ci_MD_tell : Cond.instanceMethod y_MD_tell ∈ rx_Ts ∧ Cond.selects "DeflateEffortModel" y_MD_tell y_MD_tell ∈ rx_Ts := ⟨(rx_inS (rx_T7 (List.mem_of_getElem? (i := 211) (by decide +kernel))) rfl), (rx_inP 70 (by decide +kernel) rfl)⟩
set_option maxRecDepth 20000 in
theorem cw_MD_broken : rx_cw y_MD_broken b_MD_broken 2 (some .int) 1 := ⟨(rx_inS (rx_T7 (List.mem_of_getElem? (i := 208) (rfl))) rfl), (rx_inS (rx_T1 (List.mem_of_getElem? (i := 15) (by decide +kernel))) rfl), by decide, by decide, by decide +kernel⟩
theorem lk_MD_310 : rx_lkm "DeflateEffortModel" 310 y_MD_broken := Or.inl (rx_inS (rx_T7 (List.mem_of_getElem? (i := 205) (by decide +kernel))) rfl)
theorem ci_MD_broken : Cond.instanceMethod y_MD_broken ∈ rx_Ts ∧ Cond.selects "DeflateEffortModel" y_MD_broken y_MD_broken ∈ rx_Ts := ⟨(rx_inS (rx_T7 (List.mem_of_getElem? (i := 207) (by decide +kernel))) rfl), (rx_inP 69 (by decide +kernel) rfl)⟩
theorem mf_MD_readRow : rx_M "DeflateEffortModel" "readRow" y_MD_readRow := ⟨by decide +kernel, rfl, rfl, by decide +kernel⟩
set_option maxRecDepth 20000 in
theorem cw_MD_symbol : rx_cw y_MD_symbol b_MD_symbol 9 (some .int) 3 := ⟨(rx_inS (rx_T7 (List.mem_of_getElem? (i := 228) (rfl))) rfl), (rx_inS (rx_T1 (List.mem_of_getElem? (i := 15) (by decide +kernel))) rfl), by decide, by decide, by decide +kernel⟩
theorem lk_MD_316 : rx_lkm "DeflateEffortModel" 316 y_MD_symbol := Or.inl (rx_inS (rx_T7 (List.mem_of_getElem? (i := 225) (by decide +kernel))) rfl)
theorem ci_MD_symbol : Cond.instanceMethod y_MD_symbol ∈ rx_Ts ∧ Cond.selects "DeflateEffortModel" y_MD_symbol y_MD_symbol ∈ rx_Ts := ⟨(rx_inS (rx_T7 (List.mem_of_getElem? (i := 227) (by decide +kernel))) rfl), (rx_inP 73 (by decide +kernel) rfl)⟩
theorem fa_MD_116 : rx_fld "DeflateEffortModel" 116 12 56 (.array .int) true := ⟨"DeflateEffortModel", Tc_MD, 57, tyc_MD, rfl, by decide, inc_MD, tyok_MD, nmc_MD, rfl, rfl, by decide +kernel, Or.inl (rx_inS (rx_T6 (List.mem_of_getElem? (i := 137) (by decide +kernel))) rfl)⟩
theorem mf_MD_useRow : rx_M "DeflateEffortModel" "useRow" y_MD_useRow := ⟨by decide +kernel, rfl, rfl, by decide +kernel⟩
set_option maxRecDepth 20000 in
theorem cw_MD_fullness : rx_cw y_MD_fullness b_MD_fullness 4 (some .int) 2 := ⟨(rx_inS (rx_T7 (List.mem_of_getElem? (i := 219) (rfl))) rfl), (rx_inS (rx_T1 (List.mem_of_getElem? (i := 15) (by decide +kernel))) rfl), by decide, by decide, by decide +kernel⟩
theorem lk_MD_320 : rx_lkm "DeflateEffortModel" 320 y_MD_fullness := Or.inl (rx_inS (rx_T7 (List.mem_of_getElem? (i := 217) (by decide +kernel))) rfl)
theorem cs_MD_fullness : Cond.static y_MD_fullness ∈ rx_Ts := (rx_inS (rx_T7 (List.mem_of_getElem? (i := 218) (by decide +kernel))) rfl)
theorem mf_MD_readSets : rx_M "DeflateEffortModel" "readSets" y_MD_readSets := ⟨by decide +kernel, rfl, rfl, by decide +kernel⟩
set_option maxRecDepth 20000 in
theorem cw_MD_readRow : rx_cw y_MD_readRow b_MD_readRow 7 (some .int) 1 := ⟨(rx_inS (rx_T7 (List.mem_of_getElem? (i := 224) (rfl))) rfl), (rx_inS (rx_T1 (List.mem_of_getElem? (i := 15) (by decide +kernel))) rfl), by decide, by decide, by decide +kernel⟩
theorem lk_MD_324 : rx_lkm "DeflateEffortModel" 324 y_MD_readRow := Or.inl (rx_inS (rx_T7 (List.mem_of_getElem? (i := 221) (by decide +kernel))) rfl)
theorem ci_MD_readRow : Cond.instanceMethod y_MD_readRow ∈ rx_Ts ∧ Cond.selects "DeflateEffortModel" y_MD_readRow y_MD_readRow ∈ rx_Ts := ⟨(rx_inS (rx_T7 (List.mem_of_getElem? (i := 223) (by decide +kernel))) rfl), (rx_inP 72 (by decide +kernel) rfl)⟩
set_option maxRecDepth 20000 in
theorem cw_MD_useRow : rx_cw y_MD_useRow b_MD_useRow 5 (some .int) 1 := ⟨(rx_inS (rx_T7 (List.mem_of_getElem? (i := 232) (rfl))) rfl), (rx_inS (rx_T1 (List.mem_of_getElem? (i := 15) (by decide +kernel))) rfl), by decide, by decide, by decide +kernel⟩
theorem lk_MD_327 : rx_lkm "DeflateEffortModel" 327 y_MD_useRow := Or.inl (rx_inS (rx_T7 (List.mem_of_getElem? (i := 229) (by decide +kernel))) rfl)
theorem ci_MD_useRow : Cond.instanceMethod y_MD_useRow ∈ rx_Ts ∧ Cond.selects "DeflateEffortModel" y_MD_useRow y_MD_useRow ∈ rx_Ts := ⟨(rx_inS (rx_T7 (List.mem_of_getElem? (i := 231) (by decide +kernel))) rfl), (rx_inP 74 (by decide +kernel) rfl)⟩
theorem mf_MD_readMatch : rx_M "DeflateEffortModel" "readMatch" y_MD_readMatch := ⟨by decide +kernel, rfl, rfl, by decide +kernel⟩
theorem mf_MD_readTokens : rx_M "DeflateEffortModel" "readTokens" y_MD_readTokens := ⟨by decide +kernel, rfl, rfl, by decide +kernel⟩
set_option maxRecDepth 20000 in
theorem cw_MD_readMatch : rx_cw y_MD_readMatch b_MD_readMatch 11 (some .int) 2 := ⟨(rx_inS (rx_T8 (List.mem_of_getElem? (i := 0) (rfl))) rfl), (rx_inS (rx_T1 (List.mem_of_getElem? (i := 15) (by decide +kernel))) rfl), by decide, by decide, by decide +kernel⟩
theorem lk_MD_330 : rx_lkm "DeflateEffortModel" 330 y_MD_readMatch := Or.inl (rx_inS (rx_T7 (List.mem_of_getElem? (i := 237) (by decide +kernel))) rfl)
theorem ci_MD_readMatch : Cond.instanceMethod y_MD_readMatch ∈ rx_Ts ∧ Cond.selects "DeflateEffortModel" y_MD_readMatch y_MD_readMatch ∈ rx_Ts := ⟨(rx_inS (rx_T7 (List.mem_of_getElem? (i := 239) (by decide +kernel))) rfl), (rx_inP 76 (by decide +kernel) rfl)⟩
theorem mf_MD_readBlock : rx_M "DeflateEffortModel" "readBlock" y_MD_readBlock := ⟨by decide +kernel, rfl, rfl, by decide +kernel⟩
set_option maxRecDepth 20000 in
theorem cw_MD_readStored : rx_cw y_MD_readStored b_MD_readStored 6 (some .int) 0 := ⟨(rx_inS (rx_T7 (List.mem_of_getElem? (i := 203) (rfl))) rfl), (rx_inS (rx_T1 (List.mem_of_getElem? (i := 15) (by decide +kernel))) rfl), by decide, by decide, by decide +kernel⟩
theorem lk_MD_333 : rx_lkm "DeflateEffortModel" 333 y_MD_readStored := Or.inl (rx_inS (rx_T7 (List.mem_of_getElem? (i := 200) (by decide +kernel))) rfl)
theorem ci_MD_readStored : Cond.instanceMethod y_MD_readStored ∈ rx_Ts ∧ Cond.selects "DeflateEffortModel" y_MD_readStored y_MD_readStored ∈ rx_Ts := ⟨(rx_inS (rx_T7 (List.mem_of_getElem? (i := 202) (by decide +kernel))) rfl), (rx_inP 68 (by decide +kernel) rfl)⟩
set_option maxRecDepth 20000 in
theorem cw_MD_readSets : rx_cw y_MD_readSets b_MD_readSets 4 (some .int) 1 := ⟨(rx_inS (rx_T7 (List.mem_of_getElem? (i := 216) (rfl))) rfl), (rx_inS (rx_T1 (List.mem_of_getElem? (i := 15) (by decide +kernel))) rfl), by decide, by decide, by decide +kernel⟩
theorem lk_MD_336 : rx_lkm "DeflateEffortModel" 336 y_MD_readSets := Or.inl (rx_inS (rx_T7 (List.mem_of_getElem? (i := 213) (by decide +kernel))) rfl)
theorem ci_MD_readSets : Cond.instanceMethod y_MD_readSets ∈ rx_Ts ∧ Cond.selects "DeflateEffortModel" y_MD_readSets y_MD_readSets ∈ rx_Ts := ⟨(rx_inS (rx_T7 (List.mem_of_getElem? (i := 215) (by decide +kernel))) rfl), (rx_inP 71 (by decide +kernel) rfl)⟩
set_option maxRecDepth 20000 in
theorem cw_MD_readTokens : rx_cw y_MD_readTokens b_MD_readTokens 5 (some .int) 0 := ⟨(rx_inS (rx_T7 (List.mem_of_getElem? (i := 236) (rfl))) rfl), (rx_inS (rx_T1 (List.mem_of_getElem? (i := 15) (by decide +kernel))) rfl), by decide, by decide, by decide +kernel⟩
theorem lk_MD_339 : rx_lkm "DeflateEffortModel" 339 y_MD_readTokens := Or.inl (rx_inS (rx_T7 (List.mem_of_getElem? (i := 233) (by decide +kernel))) rfl)
theorem ci_MD_readTokens : Cond.instanceMethod y_MD_readTokens ∈ rx_Ts ∧ Cond.selects "DeflateEffortModel" y_MD_readTokens y_MD_readTokens ∈ rx_Ts := ⟨(rx_inS (rx_T7 (List.mem_of_getElem? (i := 235) (by decide +kernel))) rfl), (rx_inP 75 (by decide +kernel) rfl)⟩
theorem mf_MD_inflate : rx_M "DeflateEffortModel" "inflate" y_MD_inflate := ⟨by decide +kernel, rfl, rfl, by decide +kernel⟩
set_option maxRecDepth 20000 in
theorem cw_MD_readBlock : rx_cw y_MD_readBlock b_MD_readBlock 5 (some .int) 0 := ⟨(rx_inS (rx_T7 (List.mem_of_getElem? (i := 191) (rfl))) rfl), (rx_inS (rx_T1 (List.mem_of_getElem? (i := 15) (by decide +kernel))) rfl), by decide, by decide, by decide +kernel⟩
theorem lk_MD_342 : rx_lkm "DeflateEffortModel" 342 y_MD_readBlock := Or.inl (rx_inS (rx_T7 (List.mem_of_getElem? (i := 188) (by decide +kernel))) rfl)
theorem ci_MD_readBlock : Cond.instanceMethod y_MD_readBlock ∈ rx_Ts ∧ Cond.selects "DeflateEffortModel" y_MD_readBlock y_MD_readBlock ∈ rx_Ts := ⟨(rx_inS (rx_T7 (List.mem_of_getElem? (i := 190) (by decide +kernel))) rfl), (rx_inP 65 (by decide +kernel) rfl)⟩
theorem mf_MD_out : rx_M "DeflateEffortModel" "out" y_MD_out := ⟨by decide +kernel, rfl, rfl, by decide +kernel⟩
theorem mf_MD_sum : rx_M "DeflateEffortModel" "sum" y_MD_sum := ⟨by decide +kernel, rfl, rfl, by decide +kernel⟩
theorem kc_MD_345 : Cond.constant "DeflateEffortModel" 345 (65521) ∈ rx_Ts := (rx_inS (rx_T8 (List.mem_of_getElem? (i := 9) (by decide +kernel))) rfl)
theorem kc_MD_346 : Cond.constant "DeflateEffortModel" 346 (-306674912) ∈ rx_Ts := (rx_inS (rx_T8 (List.mem_of_getElem? (i := 10) (by decide +kernel))) rfl)
theorem mf_MD_told : rx_M "DeflateEffortModel" "told" y_MD_told := ⟨by decide +kernel, rfl, rfl, by decide +kernel⟩
theorem mf_MD_clear : rx_M "DeflateEffortModel" "clear" y_MD_clear := ⟨by decide +kernel, rfl, rfl, by decide +kernel⟩
