theorem c_Reader_readAll (l : Launch) (Z : rx_D) (F : Nat) (a_t a_t_coded a_t_fixedDistances a_t_fixedDistances_next a_t_fixedDistances_perLength a_t_fixedDistances_symbol a_t_fixedLiterals a_t_fixedLiterals_next a_t_fixedLiterals_perLength a_t_fixedLiterals_symbol a_t_inflated a_t_length a_t_ownDistances a_t_ownDistances_next a_t_ownDistances_perLength a_t_ownDistances_symbol a_t_ownLengths a_t_ownLengths_next a_t_ownLengths_perLength a_t_ownLengths_symbol a_t_ownLiterals a_t_ownLiterals_next a_t_ownLiterals_perLength a_t_ownLiterals_symbol n_t : Nat) (t_at t_bitCount t_blockBit : Int32) (t_coded : Nat → Int32) (t_distanceLengths t_fixedDistances_codes t_fixedDistances_free t_fixedDistances_longest : Int32) (t_fixedDistances_perLength t_fixedDistances_symbol : Nat → Int32) (t_fixedLiterals_codes t_fixedLiterals_free t_fixedLiterals_longest : Int32) (t_fixedLiterals_perLength t_fixedLiterals_symbol t_inflated : Nat → Int32) (t_inflatedCount : Int32) (t_length : Nat → Int32) (t_literalLengths t_ownDistances_codes t_ownDistances_free t_ownDistances_longest : Int32) (t_ownDistances_next t_ownDistances_perLength t_ownDistances_symbol : Nat → Int32) (t_ownLengths_codes t_ownLengths_free t_ownLengths_longest : Int32) (t_ownLengths_next t_ownLengths_perLength t_ownLengths_symbol : Nat → Int32) (t_ownLiterals_codes t_ownLiterals_free t_ownLiterals_longest : Int32) (t_ownLiterals_next t_ownLiterals_perLength t_ownLiterals_symbol : Nat → Int32) (t_state t_stopBit x1 : Int32) (r0 o_t_inflatedCount o_t_stopBit o_t_state o_t_bitCount o_t_at o_t_blockBit o_t_literalLengths o_t_distanceLengths : Int32) (o_t_inflated o_t_length : Nat → Int32) (o_t_ownDistances_codes o_t_ownDistances_longest o_t_ownDistances_free : Int32) (o_t_ownDistances_next o_t_ownDistances_perLength o_t_ownDistances_symbol : Nat → Int32) (o_t_ownLengths_codes o_t_ownLengths_longest o_t_ownLengths_free : Int32) (o_t_ownLengths_next o_t_ownLengths_perLength o_t_ownLengths_symbol : Nat → Int32) (o_t_ownLiterals_codes o_t_ownLiterals_longest o_t_ownLiterals_free : Int32) (o_t_ownLiterals_next o_t_ownLiterals_perLength o_t_ownLiterals_symbol : Nat → Int32) (hm : m_Reader_readAll F n_t t_blockBit t_coded t_distanceLengths t_fixedDistances_longest t_fixedDistances_perLength t_fixedDistances_symbol t_fixedLiterals_longest t_fixedLiterals_perLength t_fixedLiterals_symbol t_inflated t_length t_literalLengths t_ownDistances_codes t_ownDistances_free t_ownDistances_longest t_ownDistances_next t_ownDistances_perLength t_ownDistances_symbol t_ownLengths_codes t_ownLengths_free t_ownLengths_longest t_ownLengths_next t_ownLengths_perLength t_ownLengths_symbol t_ownLiterals_codes t_ownLiterals_free t_ownLiterals_longest t_ownLiterals_next t_ownLiterals_perLength t_ownLiterals_symbol x1 = some (r0, o_t_inflatedCount, o_t_stopBit, o_t_state, o_t_bitCount, o_t_at, o_t_blockBit, o_t_literalLengths, o_t_distanceLengths, o_t_inflated, o_t_length, o_t_ownDistances_codes, o_t_ownDistances_longest, o_t_ownDistances_free, o_t_ownDistances_next, o_t_ownDistances_perLength, o_t_ownDistances_symbol, o_t_ownLengths_codes, o_t_ownLengths_longest, o_t_ownLengths_free, o_t_ownLengths_next, o_t_ownLengths_perLength, o_t_ownLengths_symbol, o_t_ownLiterals_codes, o_t_ownLiterals_longest, o_t_ownLiterals_free, o_t_ownLiterals_next, o_t_ownLiterals_perLength, o_t_ownLiterals_symbol)) : Cn l Z y_Reader_readAll b_Reader_readAll 3 (some .int) 5 [.ref a_t, .int x1] [ob a_t 9 [.ref a_t_coded, .ref a_t_inflated, .int t_inflatedCount, .int t_stopBit, .int t_state, .int t_bitCount, .int t_at, .int t_blockBit, .int t_literalLengths, .int t_distanceLengths, .ref a_t_length, .ref a_t_fixedLiterals, .ref a_t_fixedDistances, .ref a_t_ownLiterals, .ref a_t_ownDistances, .ref a_t_ownLengths], ia Z a_t_coded 1200 t_coded, ob a_t_fixedDistances 2 [.ref a_t_fixedDistances_perLength, .ref a_t_fixedDistances_symbol, .ref a_t_fixedDistances_next, .int t_fixedDistances_codes, .int t_fixedDistances_longest, .int t_fixedDistances_free], ia Z a_t_fixedDistances_perLength 16 t_fixedDistances_perLength, ia Z a_t_fixedDistances_symbol 32 t_fixedDistances_symbol, ob a_t_fixedLiterals 2 [.ref a_t_fixedLiterals_perLength, .ref a_t_fixedLiterals_symbol, .ref a_t_fixedLiterals_next, .int t_fixedLiterals_codes, .int t_fixedLiterals_longest, .int t_fixedLiterals_free], ia Z a_t_fixedLiterals_perLength 16 t_fixedLiterals_perLength, ia Z a_t_fixedLiterals_symbol 288 t_fixedLiterals_symbol, ia Z a_t_inflated n_t t_inflated, ia Z a_t_length 318 t_length, ob a_t_ownDistances 2 [.ref a_t_ownDistances_perLength, .ref a_t_ownDistances_symbol, .ref a_t_ownDistances_next, .int t_ownDistances_codes, .int t_ownDistances_longest, .int t_ownDistances_free], ia Z a_t_ownDistances_next 16 t_ownDistances_next, ia Z a_t_ownDistances_perLength 16 t_ownDistances_perLength, ia Z a_t_ownDistances_symbol 30 t_ownDistances_symbol, ob a_t_ownLengths 2 [.ref a_t_ownLengths_perLength, .ref a_t_ownLengths_symbol, .ref a_t_ownLengths_next, .int t_ownLengths_codes, .int t_ownLengths_longest, .int t_ownLengths_free], ia Z a_t_ownLengths_next 16 t_ownLengths_next, ia Z a_t_ownLengths_perLength 16 t_ownLengths_perLength, ia Z a_t_ownLengths_symbol 19 t_ownLengths_symbol, ob a_t_ownLiterals 2 [.ref a_t_ownLiterals_perLength, .ref a_t_ownLiterals_symbol, .ref a_t_ownLiterals_next, .int t_ownLiterals_codes, .int t_ownLiterals_longest, .int t_ownLiterals_free], ia Z a_t_ownLiterals_next 16 t_ownLiterals_next, ia Z a_t_ownLiterals_perLength 16 t_ownLiterals_perLength, ia Z a_t_ownLiterals_symbol 286 t_ownLiterals_symbol] 0 0 (fun r w => r = (some (.int r0)) ∧ w = [ob a_t 9 [.ref a_t_coded, .ref a_t_inflated, .int o_t_inflatedCount, .int o_t_stopBit, .int o_t_state, .int o_t_bitCount, .int o_t_at, .int o_t_blockBit, .int o_t_literalLengths, .int o_t_distanceLengths, .ref a_t_length, .ref a_t_fixedLiterals, .ref a_t_fixedDistances, .ref a_t_ownLiterals, .ref a_t_ownDistances, .ref a_t_ownLengths], ia Z a_t_coded 1200 t_coded, ob a_t_fixedDistances 2 [.ref a_t_fixedDistances_perLength, .ref a_t_fixedDistances_symbol, .ref a_t_fixedDistances_next, .int t_fixedDistances_codes, .int t_fixedDistances_longest, .int t_fixedDistances_free], ia Z a_t_fixedDistances_perLength 16 t_fixedDistances_perLength, ia Z a_t_fixedDistances_symbol 32 t_fixedDistances_symbol, ob a_t_fixedLiterals 2 [.ref a_t_fixedLiterals_perLength, .ref a_t_fixedLiterals_symbol, .ref a_t_fixedLiterals_next, .int t_fixedLiterals_codes, .int t_fixedLiterals_longest, .int t_fixedLiterals_free], ia Z a_t_fixedLiterals_perLength 16 t_fixedLiterals_perLength, ia Z a_t_fixedLiterals_symbol 288 t_fixedLiterals_symbol, ia Z a_t_inflated n_t o_t_inflated, ia Z a_t_length 318 o_t_length, ob a_t_ownDistances 2 [.ref a_t_ownDistances_perLength, .ref a_t_ownDistances_symbol, .ref a_t_ownDistances_next, .int o_t_ownDistances_codes, .int o_t_ownDistances_longest, .int o_t_ownDistances_free], ia Z a_t_ownDistances_next 16 o_t_ownDistances_next, ia Z a_t_ownDistances_perLength 16 o_t_ownDistances_perLength, ia Z a_t_ownDistances_symbol 30 o_t_ownDistances_symbol, ob a_t_ownLengths 2 [.ref a_t_ownLengths_perLength, .ref a_t_ownLengths_symbol, .ref a_t_ownLengths_next, .int o_t_ownLengths_codes, .int o_t_ownLengths_longest, .int o_t_ownLengths_free], ia Z a_t_ownLengths_next 16 o_t_ownLengths_next, ia Z a_t_ownLengths_perLength 16 o_t_ownLengths_perLength, ia Z a_t_ownLengths_symbol 19 o_t_ownLengths_symbol, ob a_t_ownLiterals 2 [.ref a_t_ownLiterals_perLength, .ref a_t_ownLiterals_symbol, .ref a_t_ownLiterals_next, .int o_t_ownLiterals_codes, .int o_t_ownLiterals_longest, .int o_t_ownLiterals_free], ia Z a_t_ownLiterals_next 16 o_t_ownLiterals_next, ia Z a_t_ownLiterals_perLength 16 o_t_ownLiterals_perLength, ia Z a_t_ownLiterals_symbol 286 o_t_ownLiterals_symbol]) :=
  rx_met "DeflateEffort$Reader" "readAll" mf_Reader_readAll (Nat.le_of_ble_eq_true rfl) rfl (by rintro _ _ ⟨h9, _⟩; cases h9) (w_Reader_readAll l Z 0 0 _ 0 0 F a_t a_t_coded a_t_fixedDistances a_t_fixedDistances_next a_t_fixedDistances_perLength a_t_fixedDistances_symbol a_t_fixedLiterals a_t_fixedLiterals_next a_t_fixedLiterals_perLength a_t_fixedLiterals_symbol a_t_inflated a_t_length a_t_ownDistances a_t_ownDistances_next a_t_ownDistances_perLength a_t_ownDistances_symbol a_t_ownLengths a_t_ownLengths_next a_t_ownLengths_perLength a_t_ownLengths_symbol a_t_ownLiterals a_t_ownLiterals_next a_t_ownLiterals_perLength a_t_ownLiterals_symbol n_t t_at t_bitCount t_blockBit t_coded t_distanceLengths t_fixedDistances_codes t_fixedDistances_free t_fixedDistances_longest t_fixedDistances_perLength t_fixedDistances_symbol t_fixedLiterals_codes t_fixedLiterals_free t_fixedLiterals_longest t_fixedLiterals_perLength t_fixedLiterals_symbol t_inflated t_inflatedCount t_length t_literalLengths t_ownDistances_codes t_ownDistances_free t_ownDistances_longest t_ownDistances_next t_ownDistances_perLength t_ownDistances_symbol t_ownLengths_codes t_ownLengths_free t_ownLengths_longest t_ownLengths_next t_ownLengths_perLength t_ownLengths_symbol t_ownLiterals_codes t_ownLiterals_free t_ownLiterals_longest t_ownLiterals_next t_ownLiterals_perLength t_ownLiterals_symbol t_state t_stopBit x1 r0 o_t_inflatedCount o_t_stopBit o_t_state o_t_bitCount o_t_at o_t_blockBit o_t_literalLengths o_t_distanceLengths o_t_inflated o_t_length o_t_ownDistances_codes o_t_ownDistances_longest o_t_ownDistances_free o_t_ownDistances_next o_t_ownDistances_perLength o_t_ownDistances_symbol o_t_ownLengths_codes o_t_ownLengths_longest o_t_ownLengths_free o_t_ownLengths_next o_t_ownLengths_perLength o_t_ownLengths_symbol o_t_ownLiterals_codes o_t_ownLiterals_longest o_t_ownLiterals_free o_t_ownLiterals_next o_t_ownLiterals_perLength o_t_ownLiterals_symbol hm ⟨rfl, rfl⟩)
abbrev J_Writer_restart (l : Launch) (Z : rx_D) (mc ms : Nat) (post : Option Value → va_W → Prop) := Rw l Z "DeflateEffort$Writer" "restart" b_Writer_restart 1 none 1 mc ms post
set_option maxRecDepth 100000 in
set_option maxHeartbeats 4000000 in
theorem w_Writer_restart (l : Launch) (Z : rx_D) (mc ms : Nat) (post : Option Value → va_W → Prop) (k n : Nat) (F : Nat) (a_t a_t_came a_t_distanceCode a_t_lengthCode a_t_literalCode a_t_next : Nat) (t_bitCount : Int32) (t_came : Nat → Int32) (o_t_bitCount : Int32) (o_t_came : Nat → Int32) (hm : m_Writer_restart F t_came = some (o_t_bitCount, o_t_came)) (hp : post none [ob a_t 10 [.ref a_t_came, .int o_t_bitCount, .ref a_t_literalCode, .ref a_t_distanceCode, .ref a_t_lengthCode, .ref a_t_next], ia Z a_t_came 518 o_t_came]) : J_Writer_restart l Z mc ms post k n [ob a_t 10 [.ref a_t_came, .int t_bitCount, .ref a_t_literalCode, .ref a_t_distanceCode, .ref a_t_lengthCode, .ref a_t_next], ia Z a_t_came 518 t_came] [(0, .ref a_t)] 0 [] := by
  unfold m_Writer_restart at hm
  refine rw_aload_n (pc := 0) 0 rfl rfl (rx_dt dt_Writer_restart 0 rfl) ?_
  refine rw_get fa_Writer_9 (pc := 1) 0 rfl rfl (rx_dt dt_Writer_restart 1 rfl) ?_
  refine rw_iconst (pc := 4) (v := 0) rfl (rx_dt dt_Writer_restart 2 rfl) ?_
  obtain ⟨t_came1, hq, hm⟩ := bnd1_some hm
  refine rw_callS cw_JA_fill2 lk_Writer_31 cs_JA_fill2 (c_JA_fill2 l Z F (a_p0 := a_t_came) (n_p0 := 518) (p0 := t_came) (x1 := (0 : Int32)) (o_p0 := t_came1) hq) [1] [0] rfl rfl rfl rfl (by decide) rfl (by decide) (fun h => h) (rest := []) (wr := [ob a_t 10 [.ref a_t_came, .int t_bitCount, .ref a_t_literalCode, .ref a_t_distanceCode, .ref a_t_lengthCode, .ref a_t_next]]) (Nat.le_of_ble_eq_true rfl) rfl (rx_dt dt_Writer_restart 3 rfl) (pc := 5) ?_
  rintro _ _ ⟨rfl, rfl⟩
  show J_Writer_restart l Z mc ms post k n [ob a_t 10 [.ref a_t_came, .int t_bitCount, .ref a_t_literalCode, .ref a_t_distanceCode, .ref a_t_lengthCode, .ref a_t_next], ia Z a_t_came 518 t_came1] [(0, .ref a_t)] 8 []
  refine rw_aload_n (pc := 8) 0 rfl rfl (rx_dt dt_Writer_restart 4 rfl) ?_
  refine rw_iconst (pc := 9) (v := 0) rfl (rx_dt dt_Writer_restart 5 rfl) ?_
  refine rw_put fa_Writer_15 (pc := 10) (ws' := [ob a_t 10 [.ref a_t_came, .int (0 : Int32), .ref a_t_literalCode, .ref a_t_distanceCode, .ref a_t_lengthCode, .ref a_t_next], ia Z a_t_came 518 t_came1]) 0 rfl rfl rfl (Nat.le_of_ble_eq_true rfl) rfl (rx_dt dt_Writer_restart 6 rfl) ?_
  refine rw_perm (lv' := []) (ws' := [ob a_t 10 [.ref a_t_came, .int (0 : Int32), .ref a_t_literalCode, .ref a_t_distanceCode, .ref a_t_lengthCode, .ref a_t_next], ia Z a_t_came 518 t_came1]) [] [0, 1] rfl rfl rfl ?_
  cases hm
  exact rw_vret (pc := 13) (rx_dt dt_Writer_restart 7 rfl) hp
theorem c_Writer_restart (l : Launch) (Z : rx_D) (F : Nat) (a_t a_t_came a_t_distanceCode a_t_lengthCode a_t_literalCode a_t_next : Nat) (t_bitCount : Int32) (t_came : Nat → Int32) (o_t_bitCount : Int32) (o_t_came : Nat → Int32) (hm : m_Writer_restart F t_came = some (o_t_bitCount, o_t_came)) : Cn l Z y_Writer_restart b_Writer_restart 1 none 1 [.ref a_t] [ob a_t 10 [.ref a_t_came, .int t_bitCount, .ref a_t_literalCode, .ref a_t_distanceCode, .ref a_t_lengthCode, .ref a_t_next], ia Z a_t_came 518 t_came] 0 0 (fun r w => r = none ∧ w = [ob a_t 10 [.ref a_t_came, .int o_t_bitCount, .ref a_t_literalCode, .ref a_t_distanceCode, .ref a_t_lengthCode, .ref a_t_next], ia Z a_t_came 518 o_t_came]) :=
  rx_met "DeflateEffort$Writer" "restart" mf_Writer_restart (Nat.le_of_ble_eq_true rfl) rfl (by rintro _ _ ⟨h9, _⟩; cases h9) (w_Writer_restart l Z 0 0 _ 0 0 F a_t a_t_came a_t_distanceCode a_t_lengthCode a_t_literalCode a_t_next t_bitCount t_came o_t_bitCount o_t_came hm ⟨rfl, rfl⟩)
abbrev J_Writer_byteCount (l : Launch) (Z : rx_D) (mc ms : Nat) (post : Option Value → va_W → Prop) := Rw l Z "DeflateEffort$Writer" "byteCount" b_Writer_byteCount 1 (some .int) 0 mc ms post
set_option maxRecDepth 100000 in
set_option maxHeartbeats 4000000 in
theorem w_Writer_byteCount (l : Launch) (Z : rx_D) (mc ms : Nat) (post : Option Value → va_W → Prop) (k n : Nat) (F : Nat) (a_t a_t_came a_t_distanceCode a_t_lengthCode a_t_literalCode a_t_next : Nat) (t_bitCount : Int32) (r0 : Int32) (hm : m_Writer_byteCount F t_bitCount = some r0) (hp : post (some (.int r0)) [ob a_t 10 [.ref a_t_came, .int t_bitCount, .ref a_t_literalCode, .ref a_t_distanceCode, .ref a_t_lengthCode, .ref a_t_next]]) : J_Writer_byteCount l Z mc ms post k n [ob a_t 10 [.ref a_t_came, .int t_bitCount, .ref a_t_literalCode, .ref a_t_distanceCode, .ref a_t_lengthCode, .ref a_t_next]] [(0, .ref a_t)] 0 [] := by
  unfold m_Writer_byteCount at hm
  refine rw_aload_n (pc := 0) 0 rfl rfl (rx_dt dt_Writer_byteCount 0 rfl) ?_
  refine rw_get fa_Writer_15 (pc := 1) 0 rfl rfl (rx_dt dt_Writer_byteCount 1 rfl) ?_
  refine rw_bipush (pc := 4) (v := 7) (by decide) (rx_dt dt_Writer_byteCount 2 rfl) ?_
  refine rw_iadd (pc := 6) (rx_dt dt_Writer_byteCount 3 rfl) ?_
  refine rw_bipush (pc := 7) (v := 8) (by decide) (rx_dt dt_Writer_byteCount 4 rfl) ?_
  refine rw_idiv (pc := 9) (by decide) (rx_dt dt_Writer_byteCount 5 rfl) ?_
  refine rw_perm (lv' := []) (ws' := [ob a_t 10 [.ref a_t_came, .int t_bitCount, .ref a_t_literalCode, .ref a_t_distanceCode, .ref a_t_lengthCode, .ref a_t_next]]) [] [0] rfl rfl rfl ?_
  cases hm
  exact rw_iret (pc := 10) (rx_dt dt_Writer_byteCount 6 rfl) hp
theorem c_Writer_byteCount (l : Launch) (Z : rx_D) (F : Nat) (a_t a_t_came a_t_distanceCode a_t_lengthCode a_t_literalCode a_t_next : Nat) (t_bitCount : Int32) (r0 : Int32) (hm : m_Writer_byteCount F t_bitCount = some r0) : Cn l Z y_Writer_byteCount b_Writer_byteCount 1 (some .int) 0 [.ref a_t] [ob a_t 10 [.ref a_t_came, .int t_bitCount, .ref a_t_literalCode, .ref a_t_distanceCode, .ref a_t_lengthCode, .ref a_t_next]] 0 0 (fun r w => r = (some (.int r0)) ∧ w = [ob a_t 10 [.ref a_t_came, .int t_bitCount, .ref a_t_literalCode, .ref a_t_distanceCode, .ref a_t_lengthCode, .ref a_t_next]]) :=
  rx_met "DeflateEffort$Writer" "byteCount" mf_Writer_byteCount (Nat.le_of_ble_eq_true rfl) rfl (by rintro _ _ ⟨h9, _⟩; cases h9) (w_Writer_byteCount l Z 0 0 _ 0 0 F a_t a_t_came a_t_distanceCode a_t_lengthCode a_t_literalCode a_t_next t_bitCount r0 hm ⟨rfl, rfl⟩)
abbrev J_Writer_cameAt (l : Launch) (Z : rx_D) (mc ms : Nat) (post : Option Value → va_W → Prop) := Rw l Z "DeflateEffort$Writer" "cameAt" b_Writer_cameAt 2 (some .int) 0 mc ms post
set_option maxRecDepth 100000 in
set_option maxHeartbeats 4000000 in
theorem w_Writer_cameAt (l : Launch) (Z : rx_D) (mc ms : Nat) (post : Option Value → va_W → Prop) (k n : Nat) (F : Nat) (a_t a_t_came a_t_distanceCode a_t_lengthCode a_t_literalCode a_t_next : Nat) (t_bitCount : Int32) (t_came : Nat → Int32) (x1 : Int32) (r0 : Int32) (hm : m_Writer_cameAt F t_came x1 = some r0) (hp : post (some (.int r0)) [ob a_t 10 [.ref a_t_came, .int t_bitCount, .ref a_t_literalCode, .ref a_t_distanceCode, .ref a_t_lengthCode, .ref a_t_next], ia Z a_t_came 518 t_came]) : J_Writer_cameAt l Z mc ms post k n [ob a_t 10 [.ref a_t_came, .int t_bitCount, .ref a_t_literalCode, .ref a_t_distanceCode, .ref a_t_lengthCode, .ref a_t_next], ia Z a_t_came 518 t_came] [(0, .ref a_t), (1, .int x1)] 0 [] := by
  unfold m_Writer_cameAt at hm
  refine rw_aload_n (pc := 0) 0 rfl rfl (rx_dt dt_Writer_cameAt 0 rfl) ?_
  refine rw_get fa_Writer_9 (pc := 1) 0 rfl rfl (rx_dt dt_Writer_cameAt 1 rfl) ?_
  refine rw_iload_n (pc := 4) 1 rfl rfl (rx_dt dt_Writer_cameAt 2 rfl) ?_
  obtain ⟨hk1, hm⟩ := chk_some hm
  refine rw_iald (pc := 5) 1 rfl hk1 (rx_dt dt_Writer_cameAt 3 rfl) ?_
  refine rw_perm (lv' := []) (ws' := [ob a_t 10 [.ref a_t_came, .int t_bitCount, .ref a_t_literalCode, .ref a_t_distanceCode, .ref a_t_lengthCode, .ref a_t_next], ia Z a_t_came 518 t_came]) [] [0, 1] rfl rfl rfl ?_
  cases hm
  exact rw_iret (pc := 6) (rx_dt dt_Writer_cameAt 4 rfl) hp
theorem c_Writer_cameAt (l : Launch) (Z : rx_D) (F : Nat) (a_t a_t_came a_t_distanceCode a_t_lengthCode a_t_literalCode a_t_next : Nat) (t_bitCount : Int32) (t_came : Nat → Int32) (x1 : Int32) (r0 : Int32) (hm : m_Writer_cameAt F t_came x1 = some r0) : Cn l Z y_Writer_cameAt b_Writer_cameAt 2 (some .int) 0 [.ref a_t, .int x1] [ob a_t 10 [.ref a_t_came, .int t_bitCount, .ref a_t_literalCode, .ref a_t_distanceCode, .ref a_t_lengthCode, .ref a_t_next], ia Z a_t_came 518 t_came] 0 0 (fun r w => r = (some (.int r0)) ∧ w = [ob a_t 10 [.ref a_t_came, .int t_bitCount, .ref a_t_literalCode, .ref a_t_distanceCode, .ref a_t_lengthCode, .ref a_t_next], ia Z a_t_came 518 t_came]) :=
  rx_met "DeflateEffort$Writer" "cameAt" mf_Writer_cameAt (Nat.le_of_ble_eq_true rfl) rfl (by rintro _ _ ⟨h9, _⟩; cases h9) (w_Writer_cameAt l Z 0 0 _ 0 0 F a_t a_t_came a_t_distanceCode a_t_lengthCode a_t_literalCode a_t_next t_bitCount t_came x1 r0 hm ⟨rfl, rfl⟩)
abbrev J_Writer_putBit (l : Launch) (Z : rx_D) (mc ms : Nat) (post : Option Value → va_W → Prop) := Rw l Z "DeflateEffort$Writer" "putBit" b_Writer_putBit 3 none 0 mc ms post
set_option maxRecDepth 100000 in
set_option maxHeartbeats 4000000 in
theorem w_Writer_putBit (l : Launch) (Z : rx_D) (mc ms : Nat) (post : Option Value → va_W → Prop) (k n : Nat) (F : Nat) (a_t a_t_came a_t_distanceCode a_t_lengthCode a_t_literalCode a_t_next : Nat) (t_bitCount : Int32) (t_came : Nat → Int32) (x1 : Int32) (o_t_bitCount : Int32) (o_t_came : Nat → Int32) (hm : m_Writer_putBit F t_bitCount t_came x1 = some (o_t_bitCount, o_t_came)) (hp : post none [ob a_t 10 [.ref a_t_came, .int o_t_bitCount, .ref a_t_literalCode, .ref a_t_distanceCode, .ref a_t_lengthCode, .ref a_t_next], ia Z a_t_came 518 o_t_came]) : J_Writer_putBit l Z mc ms post k n [ob a_t 10 [.ref a_t_came, .int t_bitCount, .ref a_t_literalCode, .ref a_t_distanceCode, .ref a_t_lengthCode, .ref a_t_next], ia Z a_t_came 518 t_came] [(0, .ref a_t), (1, .int x1)] 0 [] := by
  unfold m_Writer_putBit at hm
  refine rw_aload_n (pc := 0) 0 rfl rfl (rx_dt dt_Writer_putBit 0 rfl) ?_
  refine rw_get fa_Writer_15 (pc := 1) 0 rfl rfl (rx_dt dt_Writer_putBit 1 rfl) ?_
  refine rw_iconst (pc := 4) (v := 3) rfl (rx_dt dt_Writer_putBit 2 rfl) ?_
  refine rw_ishr (pc := 5) (rx_dt dt_Writer_putBit 3 rfl) ?_
  obtain ⟨y1, hy1, hm⟩ := nm_some hm
  refine rw_nm hy1 ?_
  refine rw_istore_n (pc := 6) (lv' := [(2, .int y1), (0, .ref a_t), (1, .int x1)]) rfl (by decide) rfl (rx_dt dt_Writer_putBit 4 rfl) ?_
  refine rw_iload_n (pc := 7) 0 rfl rfl (rx_dt dt_Writer_putBit 5 rfl) ?_
  refine rw_aload_n (pc := 8) 1 rfl rfl (rx_dt dt_Writer_putBit 6 rfl) ?_
  refine rw_get fa_Writer_9 (pc := 9) 0 rfl rfl (rx_dt dt_Writer_putBit 7 rfl) ?_
  refine rw_alen (pc := 12) 1 rfl (rx_dt dt_Writer_putBit 8 rfl) ?_
  rcases ite_some hm with ⟨hc, hm⟩ | ⟨hc, hm⟩
  · refine rw_icmp_ge_t (pc := 13) (tgt := 44) hc (by decide) (rx_dt dt_Writer_putBit 9 rfl) ?_
    refine rw_perm (lv' := []) (ws' := [ob a_t 10 [.ref a_t_came, .int t_bitCount, .ref a_t_literalCode, .ref a_t_distanceCode, .ref a_t_lengthCode, .ref a_t_next], ia Z a_t_came 518 t_came]) [] [0, 1] rfl rfl rfl ?_
    cases hm
    exact rw_vret (pc := 44) (rx_dt dt_Writer_putBit 29 rfl) hp
  · refine rw_icmp_ge_f (pc := 13) (tgt := 44) hc (by decide) (rx_dt dt_Writer_putBit 9 rfl) ?_
    refine rw_aload_n (pc := 16) 1 rfl rfl (rx_dt dt_Writer_putBit 10 rfl) ?_
    refine rw_get fa_Writer_9 (pc := 17) 0 rfl rfl (rx_dt dt_Writer_putBit 11 rfl) ?_
    refine rw_iload_n (pc := 20) 0 rfl rfl (rx_dt dt_Writer_putBit 12 rfl) ?_
    refine rw_dup2 (pc := 21) rfl rfl (rx_dt dt_Writer_putBit 13 rfl) ?_
    obtain ⟨hk1, hm⟩ := chk_some hm
    refine rw_iald (pc := 22) 1 rfl hk1 (rx_dt dt_Writer_putBit 14 rfl) ?_
    refine rw_iload_n (pc := 23) 2 rfl rfl (rx_dt dt_Writer_putBit 15 rfl) ?_
    refine rw_aload_n (pc := 24) 1 rfl rfl (rx_dt dt_Writer_putBit 16 rfl) ?_
    refine rw_get fa_Writer_15 (pc := 25) 0 rfl rfl (rx_dt dt_Writer_putBit 17 rfl) ?_
    refine rw_bipush (pc := 28) (v := 7) (by decide) (rx_dt dt_Writer_putBit 18 rfl) ?_
    refine rw_iand (pc := 30) (rx_dt dt_Writer_putBit 19 rfl) ?_
    refine rw_ishl (pc := 31) (rx_dt dt_Writer_putBit 20 rfl) ?_
    refine rw_ior (pc := 32) (rx_dt dt_Writer_putBit 21 rfl) ?_
    obtain ⟨hk2, hm⟩ := chk_some hm
    obtain ⟨t_came1, ht_came1, hm⟩ := nm_some hm
    refine rw_iast (pc := 33) (ws' := [ob a_t 10 [.ref a_t_came, .int t_bitCount, .ref a_t_literalCode, .ref a_t_distanceCode, .ref a_t_lengthCode, .ref a_t_next], ia Z a_t_came 518 t_came1]) 1 rfl hk2 (by rw [← ht_came1]; rfl) (rx_dt dt_Writer_putBit 22 rfl) ?_
    refine rw_aload_n (pc := 34) 1 rfl rfl (rx_dt dt_Writer_putBit 23 rfl) ?_
    refine rw_dup (pc := 35) rfl (rx_dt dt_Writer_putBit 24 rfl) ?_
    refine rw_get fa_Writer_15 (pc := 36) 0 rfl rfl (rx_dt dt_Writer_putBit 25 rfl) ?_
    refine rw_iconst (pc := 39) (v := 1) rfl (rx_dt dt_Writer_putBit 26 rfl) ?_
    refine rw_iadd (pc := 40) (rx_dt dt_Writer_putBit 27 rfl) ?_
    obtain ⟨y2, hy2, hm⟩ := nm_some hm
    refine rw_nm hy2 ?_
    refine rw_put fa_Writer_15 (pc := 41) (ws' := [ob a_t 10 [.ref a_t_came, .int y2, .ref a_t_literalCode, .ref a_t_distanceCode, .ref a_t_lengthCode, .ref a_t_next], ia Z a_t_came 518 t_came1]) 0 rfl rfl rfl (Nat.le_of_ble_eq_true rfl) rfl (rx_dt dt_Writer_putBit 28 rfl) ?_
    refine rw_perm (lv' := []) (ws' := [ob a_t 10 [.ref a_t_came, .int y2, .ref a_t_literalCode, .ref a_t_distanceCode, .ref a_t_lengthCode, .ref a_t_next], ia Z a_t_came 518 t_came1]) [] [0, 1] rfl rfl rfl ?_
    cases hm
    exact rw_vret (pc := 44) (rx_dt dt_Writer_putBit 29 rfl) hp
theorem c_Writer_putBit (l : Launch) (Z : rx_D) (F : Nat) (a_t a_t_came a_t_distanceCode a_t_lengthCode a_t_literalCode a_t_next : Nat) (t_bitCount : Int32) (t_came : Nat → Int32) (x1 : Int32) (o_t_bitCount : Int32) (o_t_came : Nat → Int32) (hm : m_Writer_putBit F t_bitCount t_came x1 = some (o_t_bitCount, o_t_came)) : Cn l Z y_Writer_putBit b_Writer_putBit 3 none 0 [.ref a_t, .int x1] [ob a_t 10 [.ref a_t_came, .int t_bitCount, .ref a_t_literalCode, .ref a_t_distanceCode, .ref a_t_lengthCode, .ref a_t_next], ia Z a_t_came 518 t_came] 0 0 (fun r w => r = none ∧ w = [ob a_t 10 [.ref a_t_came, .int o_t_bitCount, .ref a_t_literalCode, .ref a_t_distanceCode, .ref a_t_lengthCode, .ref a_t_next], ia Z a_t_came 518 o_t_came]) :=
  rx_met "DeflateEffort$Writer" "putBit" mf_Writer_putBit (Nat.le_of_ble_eq_true rfl) rfl (by rintro _ _ ⟨h9, _⟩; cases h9) (w_Writer_putBit l Z 0 0 _ 0 0 F a_t a_t_came a_t_distanceCode a_t_lengthCode a_t_literalCode a_t_next t_bitCount t_came x1 o_t_bitCount o_t_came hm ⟨rfl, rfl⟩)
abbrev J_Writer_putBits (l : Launch) (Z : rx_D) (mc ms : Nat) (post : Option Value → va_W → Prop) := Rw l Z "DeflateEffort$Writer" "putBits" b_Writer_putBits 4 none 1 mc ms post
set_option maxRecDepth 100000 in
set_option maxHeartbeats 4000000 in
theorem wl_Writer_putBits_2 (l : Launch) (Z : rx_D) (mc ms : Nat) (post : Option Value → va_W → Prop) (k n : Nat) (F : Nat) (a_t a_t_came a_t_distanceCode a_t_lengthCode a_t_literalCode a_t_next : Nat) (x1 x2 : Int32) : ∀ (f : Nat)  (v3_1 t_bitCount_1 : Int32) (t_came1 : Nat → Int32) (v3_2 t_bitCount_2 : Int32) (t_came2 : Nat → Int32), L_Writer_putBits_2 F x1 x2 f v3_1 t_bitCount_1 t_came1 = some (v3_2, t_bitCount_2, t_came2) → (J_Writer_putBits l Z mc ms post k n [ob a_t 10 [.ref a_t_came, .int t_bitCount_2, .ref a_t_literalCode, .ref a_t_distanceCode, .ref a_t_lengthCode, .ref a_t_next], ia Z a_t_came 518 t_came2] [] 22 []) → J_Writer_putBits l Z mc ms post k n [ob a_t 10 [.ref a_t_came, .int t_bitCount_1, .ref a_t_literalCode, .ref a_t_distanceCode, .ref a_t_lengthCode, .ref a_t_next], ia Z a_t_came 518 t_came1] [(0, .ref a_t), (1, .int x1), (2, .int x2), (3, .int v3_1)] 2 [] := by
  intro f
  induction f with
  | zero =>
    intro v3_1 t_bitCount_1 t_came1 v3_2 t_bitCount_2 t_came2 hm K
    cases hm
  | succ f ih =>
    intro v3_1 t_bitCount_1 t_came1 v3_2 t_bitCount_2 t_came2 hm K
    have hm : B_Writer_putBits_2 F x1 x2 (L_Writer_putBits_2 F x1 x2 f) v3_1 t_bitCount_1 t_came1 = some (v3_2, t_bitCount_2, t_came2) := hm
    unfold B_Writer_putBits_2 at hm
    refine rw_iload_n (pc := 2) 3 rfl rfl (rx_dt dt_Writer_putBits 2 rfl) ?_
    refine rw_iload_n (pc := 3) 2 rfl rfl (rx_dt dt_Writer_putBits 3 rfl) ?_
    rcases ite_some hm with ⟨hc, hm⟩ | ⟨hc, hm⟩
    · refine rw_icmp_ge_t (pc := 4) (tgt := 22) hc (by decide) (rx_dt dt_Writer_putBits 4 rfl) ?_
      refine rw_perm (lv' := []) (ws' := [ob a_t 10 [.ref a_t_came, .int t_bitCount_1, .ref a_t_literalCode, .ref a_t_distanceCode, .ref a_t_lengthCode, .ref a_t_next], ia Z a_t_came 518 t_came1]) [] [0, 1] rfl rfl rfl ?_
      cases hm
      exact K
    · refine rw_icmp_ge_f (pc := 4) (tgt := 22) hc (by decide) (rx_dt dt_Writer_putBits 4 rfl) ?_
      refine rw_aload_n (pc := 7) 0 rfl rfl (rx_dt dt_Writer_putBits 5 rfl) ?_
      refine rw_iload_n (pc := 8) 1 rfl rfl (rx_dt dt_Writer_putBits 6 rfl) ?_
      refine rw_iload_n (pc := 9) 3 rfl rfl (rx_dt dt_Writer_putBits 7 rfl) ?_
      refine rw_iushr (pc := 10) (rx_dt dt_Writer_putBits 8 rfl) ?_
      refine rw_iconst (pc := 11) (v := 1) rfl (rx_dt dt_Writer_putBits 9 rfl) ?_
      refine rw_iand (pc := 12) (rx_dt dt_Writer_putBits 10 rfl) ?_
      obtain ⟨t_bitCount_3, t_came3, hq, hm⟩ := bnd2_some hm
      refine rw_callV cw_Writer_putBit lk_Writer_37 ci_Writer_putBit rfl (q := 0) rfl (c_Writer_putBit l Z F (a_t := a_t) (a_t_came := a_t_came) (a_t_distanceCode := a_t_distanceCode) (a_t_lengthCode := a_t_lengthCode) (a_t_literalCode := a_t_literalCode) (a_t_next := a_t_next) (t_bitCount := t_bitCount_1) (t_came := t_came1) (x1 := (rx_us x1 v3_1) &&& (1 : Int32)) (o_t_bitCount := t_bitCount_3) (o_t_came := t_came3) hq) [0, 1] [] rfl rfl rfl rfl (by decide) rfl (by decide) (fun h => h) (rest := []) (wr := []) (Nat.le_of_ble_eq_true rfl) rfl (rx_dt dt_Writer_putBits 11 rfl) (pc := 13) ?_
      rintro _ _ ⟨rfl, rfl⟩
      show J_Writer_putBits l Z mc ms post k n [ob a_t 10 [.ref a_t_came, .int t_bitCount_3, .ref a_t_literalCode, .ref a_t_distanceCode, .ref a_t_lengthCode, .ref a_t_next], ia Z a_t_came 518 t_came3] [(0, .ref a_t), (1, .int x1), (2, .int x2), (3, .int v3_1)] 16 []
      obtain ⟨y1, hy1, hm⟩ := nm_some hm
      refine rw_iinc (pc := 16) (lv' := [(3, .int y1), (0, .ref a_t), (1, .int x1), (2, .int x2)]) 3 rfl hy1 (by decide) rfl (rx_dt dt_Writer_putBits 12 rfl) ?_
      refine rw_goto (pc := 19) (tgt := 2) (by decide) (rx_dt dt_Writer_putBits 13 rfl) ?_
      refine rw_perm (lv' := [(0, .ref a_t), (1, .int x1), (2, .int x2), (3, .int y1)]) (ws' := [ob a_t 10 [.ref a_t_came, .int t_bitCount_3, .ref a_t_literalCode, .ref a_t_distanceCode, .ref a_t_lengthCode, .ref a_t_next], ia Z a_t_came 518 t_came3]) [1, 2, 3, 0] [0, 1] rfl rfl rfl ?_
      exact ih  _ _ _ _ _ _ hm K
set_option maxRecDepth 100000 in
set_option maxHeartbeats 4000000 in
theorem w_Writer_putBits (l : Launch) (Z : rx_D) (mc ms : Nat) (post : Option Value → va_W → Prop) (k n : Nat) (F : Nat) (a_t a_t_came a_t_distanceCode a_t_lengthCode a_t_literalCode a_t_next : Nat) (t_bitCount : Int32) (t_came : Nat → Int32) (x1 x2 : Int32) (o_t_bitCount : Int32) (o_t_came : Nat → Int32) (hm : m_Writer_putBits F t_bitCount t_came x1 x2 = some (o_t_bitCount, o_t_came)) (hp : post none [ob a_t 10 [.ref a_t_came, .int o_t_bitCount, .ref a_t_literalCode, .ref a_t_distanceCode, .ref a_t_lengthCode, .ref a_t_next], ia Z a_t_came 518 o_t_came]) : J_Writer_putBits l Z mc ms post k n [ob a_t 10 [.ref a_t_came, .int t_bitCount, .ref a_t_literalCode, .ref a_t_distanceCode, .ref a_t_lengthCode, .ref a_t_next], ia Z a_t_came 518 t_came] [(0, .ref a_t), (1, .int x1), (2, .int x2)] 0 [] := by
  unfold m_Writer_putBits at hm
  refine rw_iconst (pc := 0) (v := 0) rfl (rx_dt dt_Writer_putBits 0 rfl) ?_
  refine rw_istore_n (pc := 1) (lv' := [(3, .int (0 : Int32)), (0, .ref a_t), (1, .int x1), (2, .int x2)]) rfl (by decide) rfl (rx_dt dt_Writer_putBits 1 rfl) ?_
  obtain ⟨v3_3, t_bitCount_4, t_came4, hl, hm⟩ := bnd3_some hm
  refine rw_perm (lv' := [(0, .ref a_t), (1, .int x1), (2, .int x2), (3, .int (0 : Int32))]) (ws' := [ob a_t 10 [.ref a_t_came, .int t_bitCount, .ref a_t_literalCode, .ref a_t_distanceCode, .ref a_t_lengthCode, .ref a_t_next], ia Z a_t_came 518 t_came]) [1, 2, 3, 0] [0, 1] rfl rfl rfl ?_
  refine wl_Writer_putBits_2 l Z mc ms post k n F a_t a_t_came a_t_distanceCode a_t_lengthCode a_t_literalCode a_t_next x1 x2 F  (0 : Int32) t_bitCount t_came v3_3 t_bitCount_4 t_came4 hl ?_
  cases hm
  exact rw_vret (pc := 22) (rx_dt dt_Writer_putBits 14 rfl) hp
theorem c_Writer_putBits (l : Launch) (Z : rx_D) (F : Nat) (a_t a_t_came a_t_distanceCode a_t_lengthCode a_t_literalCode a_t_next : Nat) (t_bitCount : Int32) (t_came : Nat → Int32) (x1 x2 : Int32) (o_t_bitCount : Int32) (o_t_came : Nat → Int32) (hm : m_Writer_putBits F t_bitCount t_came x1 x2 = some (o_t_bitCount, o_t_came)) : Cn l Z y_Writer_putBits b_Writer_putBits 4 none 1 [.ref a_t, .int x1, .int x2] [ob a_t 10 [.ref a_t_came, .int t_bitCount, .ref a_t_literalCode, .ref a_t_distanceCode, .ref a_t_lengthCode, .ref a_t_next], ia Z a_t_came 518 t_came] 0 0 (fun r w => r = none ∧ w = [ob a_t 10 [.ref a_t_came, .int o_t_bitCount, .ref a_t_literalCode, .ref a_t_distanceCode, .ref a_t_lengthCode, .ref a_t_next], ia Z a_t_came 518 o_t_came]) :=
  rx_met "DeflateEffort$Writer" "putBits" mf_Writer_putBits (Nat.le_of_ble_eq_true rfl) rfl (by rintro _ _ ⟨h9, _⟩; cases h9) (w_Writer_putBits l Z 0 0 _ 0 0 F a_t a_t_came a_t_distanceCode a_t_lengthCode a_t_literalCode a_t_next t_bitCount t_came x1 x2 o_t_bitCount o_t_came hm ⟨rfl, rfl⟩)
abbrev J_Writer_putCode (l : Launch) (Z : rx_D) (mc ms : Nat) (post : Option Value → va_W → Prop) := Rw l Z "DeflateEffort$Writer" "putCode" b_Writer_putCode 4 none 1 mc ms post
set_option maxRecDepth 100000 in
set_option maxHeartbeats 4000000 in
theorem wl_Writer_putCode_4 (l : Launch) (Z : rx_D) (mc ms : Nat) (post : Option Value → va_W → Prop) (k n : Nat) (F : Nat) (a_t a_t_came a_t_distanceCode a_t_lengthCode a_t_literalCode a_t_next : Nat) (x1 : Int32) : ∀ (f : Nat)  (v3_1 t_bitCount_1 : Int32) (t_came1 : Nat → Int32) (v3_2 t_bitCount_2 : Int32) (t_came2 : Nat → Int32), L_Writer_putCode_4 F x1 f v3_1 t_bitCount_1 t_came1 = some (v3_2, t_bitCount_2, t_came2) → (J_Writer_putCode l Z mc ms post k n [ob a_t 10 [.ref a_t_came, .int t_bitCount_2, .ref a_t_literalCode, .ref a_t_distanceCode, .ref a_t_lengthCode, .ref a_t_next], ia Z a_t_came 518 t_came2] [] 23 []) → J_Writer_putCode l Z mc ms post k n [ob a_t 10 [.ref a_t_came, .int t_bitCount_1, .ref a_t_literalCode, .ref a_t_distanceCode, .ref a_t_lengthCode, .ref a_t_next], ia Z a_t_came 518 t_came1] [(0, .ref a_t), (1, .int x1), (3, .int v3_1)] 4 [] := by
  intro f
  induction f with
  | zero =>
    intro v3_1 t_bitCount_1 t_came1 v3_2 t_bitCount_2 t_came2 hm K
    cases hm
  | succ f ih =>
    intro v3_1 t_bitCount_1 t_came1 v3_2 t_bitCount_2 t_came2 hm K
    have hm : B_Writer_putCode_4 F x1 (L_Writer_putCode_4 F x1 f) v3_1 t_bitCount_1 t_came1 = some (v3_2, t_bitCount_2, t_came2) := hm
    unfold B_Writer_putCode_4 at hm
    refine rw_iload_n (pc := 4) 2 rfl rfl (rx_dt dt_Writer_putCode 4 rfl) ?_
    rcases ite_some hm with ⟨hc, hm⟩ | ⟨hc, hm⟩
    · refine rw_if_lt_t (pc := 5) (tgt := 23) hc (by decide) (rx_dt dt_Writer_putCode 5 rfl) ?_
      refine rw_perm (lv' := []) (ws' := [ob a_t 10 [.ref a_t_came, .int t_bitCount_1, .ref a_t_literalCode, .ref a_t_distanceCode, .ref a_t_lengthCode, .ref a_t_next], ia Z a_t_came 518 t_came1]) [] [0, 1] rfl rfl rfl ?_
      cases hm
      exact K
    · refine rw_if_lt_f (pc := 5) (tgt := 23) hc (by decide) (rx_dt dt_Writer_putCode 5 rfl) ?_
      refine rw_aload_n (pc := 8) 0 rfl rfl (rx_dt dt_Writer_putCode 6 rfl) ?_
      refine rw_iload_n (pc := 9) 1 rfl rfl (rx_dt dt_Writer_putCode 7 rfl) ?_
      refine rw_iload_n (pc := 10) 2 rfl rfl (rx_dt dt_Writer_putCode 8 rfl) ?_
      refine rw_iushr (pc := 11) (rx_dt dt_Writer_putCode 9 rfl) ?_
      refine rw_iconst (pc := 12) (v := 1) rfl (rx_dt dt_Writer_putCode 10 rfl) ?_
      refine rw_iand (pc := 13) (rx_dt dt_Writer_putCode 11 rfl) ?_
      obtain ⟨t_bitCount_3, t_came3, hq, hm⟩ := bnd2_some hm
      refine rw_callV cw_Writer_putBit lk_Writer_37 ci_Writer_putBit rfl (q := 0) rfl (c_Writer_putBit l Z F (a_t := a_t) (a_t_came := a_t_came) (a_t_distanceCode := a_t_distanceCode) (a_t_lengthCode := a_t_lengthCode) (a_t_literalCode := a_t_literalCode) (a_t_next := a_t_next) (t_bitCount := t_bitCount_1) (t_came := t_came1) (x1 := (rx_us x1 v3_1) &&& (1 : Int32)) (o_t_bitCount := t_bitCount_3) (o_t_came := t_came3) hq) [0, 1] [] rfl rfl rfl rfl (by decide) rfl (by decide) (fun h => h) (rest := []) (wr := []) (Nat.le_of_ble_eq_true rfl) rfl (rx_dt dt_Writer_putCode 12 rfl) (pc := 14) ?_
      rintro _ _ ⟨rfl, rfl⟩
      show J_Writer_putCode l Z mc ms post k n [ob a_t 10 [.ref a_t_came, .int t_bitCount_3, .ref a_t_literalCode, .ref a_t_distanceCode, .ref a_t_lengthCode, .ref a_t_next], ia Z a_t_came 518 t_came3] [(0, .ref a_t), (1, .int x1), (3, .int v3_1)] 17 []
      obtain ⟨y2, hy2, hm⟩ := nm_some hm
      refine rw_iinc (pc := 17) (lv' := [(3, .int y2), (0, .ref a_t), (1, .int x1)]) 2 rfl hy2 (by decide) rfl (rx_dt dt_Writer_putCode 13 rfl) ?_
      refine rw_goto (pc := 20) (tgt := 4) (by decide) (rx_dt dt_Writer_putCode 14 rfl) ?_
      refine rw_perm (lv' := [(0, .ref a_t), (1, .int x1), (3, .int y2)]) (ws' := [ob a_t 10 [.ref a_t_came, .int t_bitCount_3, .ref a_t_literalCode, .ref a_t_distanceCode, .ref a_t_lengthCode, .ref a_t_next], ia Z a_t_came 518 t_came3]) [1, 2, 0] [0, 1] rfl rfl rfl ?_
      exact ih  _ _ _ _ _ _ hm K
set_option maxRecDepth 100000 in
set_option maxHeartbeats 4000000 in
theorem w_Writer_putCode (l : Launch) (Z : rx_D) (mc ms : Nat) (post : Option Value → va_W → Prop) (k n : Nat) (F : Nat) (a_t a_t_came a_t_distanceCode a_t_lengthCode a_t_literalCode a_t_next : Nat) (t_bitCount : Int32) (t_came : Nat → Int32) (x1 x2 : Int32) (o_t_bitCount : Int32) (o_t_came : Nat → Int32) (hm : m_Writer_putCode F t_bitCount t_came x1 x2 = some (o_t_bitCount, o_t_came)) (hp : post none [ob a_t 10 [.ref a_t_came, .int o_t_bitCount, .ref a_t_literalCode, .ref a_t_distanceCode, .ref a_t_lengthCode, .ref a_t_next], ia Z a_t_came 518 o_t_came]) : J_Writer_putCode l Z mc ms post k n [ob a_t 10 [.ref a_t_came, .int t_bitCount, .ref a_t_literalCode, .ref a_t_distanceCode, .ref a_t_lengthCode, .ref a_t_next], ia Z a_t_came 518 t_came] [(0, .ref a_t), (1, .int x1), (2, .int x2)] 0 [] := by
  unfold m_Writer_putCode at hm
  refine rw_iload_n (pc := 0) 2 rfl rfl (rx_dt dt_Writer_putCode 0 rfl) ?_
  refine rw_iconst (pc := 1) (v := 1) rfl (rx_dt dt_Writer_putCode 1 rfl) ?_
  refine rw_isub (pc := 2) (rx_dt dt_Writer_putCode 2 rfl) ?_
  obtain ⟨y1, hy1, hm⟩ := nm_some hm
  refine rw_nm hy1 ?_
  refine rw_istore_n (pc := 3) (lv' := [(3, .int y1), (0, .ref a_t), (1, .int x1), (2, .int x2)]) rfl (by decide) rfl (rx_dt dt_Writer_putCode 3 rfl) ?_
  obtain ⟨v3_3, t_bitCount_4, t_came4, hl, hm⟩ := bnd3_some hm
  refine rw_perm (lv' := [(0, .ref a_t), (1, .int x1), (3, .int y1)]) (ws' := [ob a_t 10 [.ref a_t_came, .int t_bitCount, .ref a_t_literalCode, .ref a_t_distanceCode, .ref a_t_lengthCode, .ref a_t_next], ia Z a_t_came 518 t_came]) [1, 2, 0] [0, 1] rfl rfl rfl ?_
  refine wl_Writer_putCode_4 l Z mc ms post k n F a_t a_t_came a_t_distanceCode a_t_lengthCode a_t_literalCode a_t_next x1 F  y1 t_bitCount t_came v3_3 t_bitCount_4 t_came4 hl ?_
  cases hm
  exact rw_vret (pc := 23) (rx_dt dt_Writer_putCode 15 rfl) hp
theorem c_Writer_putCode (l : Launch) (Z : rx_D) (F : Nat) (a_t a_t_came a_t_distanceCode a_t_lengthCode a_t_literalCode a_t_next : Nat) (t_bitCount : Int32) (t_came : Nat → Int32) (x1 x2 : Int32) (o_t_bitCount : Int32) (o_t_came : Nat → Int32) (hm : m_Writer_putCode F t_bitCount t_came x1 x2 = some (o_t_bitCount, o_t_came)) : Cn l Z y_Writer_putCode b_Writer_putCode 4 none 1 [.ref a_t, .int x1, .int x2] [ob a_t 10 [.ref a_t_came, .int t_bitCount, .ref a_t_literalCode, .ref a_t_distanceCode, .ref a_t_lengthCode, .ref a_t_next], ia Z a_t_came 518 t_came] 0 0 (fun r w => r = none ∧ w = [ob a_t 10 [.ref a_t_came, .int o_t_bitCount, .ref a_t_literalCode, .ref a_t_distanceCode, .ref a_t_lengthCode, .ref a_t_next], ia Z a_t_came 518 o_t_came]) :=
  rx_met "DeflateEffort$Writer" "putCode" mf_Writer_putCode (Nat.le_of_ble_eq_true rfl) rfl (by rintro _ _ ⟨h9, _⟩; cases h9) (w_Writer_putCode l Z 0 0 _ 0 0 F a_t a_t_came a_t_distanceCode a_t_lengthCode a_t_literalCode a_t_next t_bitCount t_came x1 x2 o_t_bitCount o_t_came hm ⟨rfl, rfl⟩)
abbrev J_Writer_putStored (l : Launch) (Z : rx_D) (mc ms : Nat) (post : Option Value → va_W → Prop) := Rw l Z "DeflateEffort$Writer" "putStored" b_Writer_putStored 6 none 2 mc ms post
set_option maxRecDepth 100000 in
set_option maxHeartbeats 4000000 in
theorem wl_Writer_putStored_50 (l : Launch) (Z : rx_D) (mc ms : Nat) (post : Option Value → va_W → Prop) (k n : Nat) (F : Nat) (a_p1 a_t a_t_came a_t_distanceCode a_t_lengthCode a_t_literalCode a_t_next n_p1 : Nat) (p1 : Nat → Int32) (x3 : Int32) : ∀ (f : Nat)  (v5_1 t_bitCount_5 : Int32) (t_came5 : Nat → Int32) (v5_2 t_bitCount_6 : Int32) (t_came6 : Nat → Int32), L_Writer_putStored_50 F n_p1 p1 x3 f v5_1 t_bitCount_5 t_came5 = some (v5_2, t_bitCount_6, t_came6) → (J_Writer_putStored l Z mc ms post k n [ia Z a_p1 n_p1 p1, ob a_t 10 [.ref a_t_came, .int t_bitCount_6, .ref a_t_literalCode, .ref a_t_distanceCode, .ref a_t_lengthCode, .ref a_t_next], ia Z a_t_came 518 t_came6] [] 79 []) → J_Writer_putStored l Z mc ms post k n [ia Z a_p1 n_p1 p1, ob a_t 10 [.ref a_t_came, .int t_bitCount_5, .ref a_t_literalCode, .ref a_t_distanceCode, .ref a_t_lengthCode, .ref a_t_next], ia Z a_t_came 518 t_came5] [(0, .ref a_t), (1, .ref a_p1), (3, .int x3), (5, .int v5_1)] 50 [] := by
  intro f
  induction f with
  | zero =>
    intro v5_1 t_bitCount_5 t_came5 v5_2 t_bitCount_6 t_came6 hm K
    cases hm
  | succ f ih =>
    intro v5_1 t_bitCount_5 t_came5 v5_2 t_bitCount_6 t_came6 hm K
    have hm : B_Writer_putStored_50 F n_p1 p1 x3 (L_Writer_putStored_50 F n_p1 p1 x3 f) v5_1 t_bitCount_5 t_came5 = some (v5_2, t_bitCount_6, t_came6) := hm
    unfold B_Writer_putStored_50 at hm
    refine rw_iload (pc := 50) 3 rfl (rx_dt dt_Writer_putStored 32 rfl) ?_
    refine rw_iload_n (pc := 52) 2 rfl rfl (rx_dt dt_Writer_putStored 33 rfl) ?_
    rcases ite_some hm with ⟨hc, hm⟩ | ⟨hc, hm⟩
    · refine rw_icmp_ge_t (pc := 53) (tgt := 79) hc (by decide) (rx_dt dt_Writer_putStored 34 rfl) ?_
      refine rw_perm (lv' := []) (ws' := [ia Z a_p1 n_p1 p1, ob a_t 10 [.ref a_t_came, .int t_bitCount_5, .ref a_t_literalCode, .ref a_t_distanceCode, .ref a_t_lengthCode, .ref a_t_next], ia Z a_t_came 518 t_came5]) [] [0, 1, 2] rfl rfl rfl ?_
      cases hm
      exact K
    · refine rw_icmp_ge_f (pc := 53) (tgt := 79) hc (by decide) (rx_dt dt_Writer_putStored 34 rfl) ?_
      refine rw_iload (pc := 56) 3 rfl (rx_dt dt_Writer_putStored 35 rfl) ?_
      refine rw_aload_n (pc := 58) 1 rfl rfl (rx_dt dt_Writer_putStored 36 rfl) ?_
      refine rw_alen (pc := 59) 0 rfl (rx_dt dt_Writer_putStored 37 rfl) ?_
      rcases ite_some hm with ⟨hc, hm⟩ | ⟨hc, hm⟩
      · refine rw_icmp_ge_t (pc := 60) (tgt := 79) hc (by decide) (rx_dt dt_Writer_putStored 38 rfl) ?_
        refine rw_perm (lv' := []) (ws' := [ia Z a_p1 n_p1 p1, ob a_t 10 [.ref a_t_came, .int t_bitCount_5, .ref a_t_literalCode, .ref a_t_distanceCode, .ref a_t_lengthCode, .ref a_t_next], ia Z a_t_came 518 t_came5]) [] [0, 1, 2] rfl rfl rfl ?_
        cases hm
        exact K
      · refine rw_icmp_ge_f (pc := 60) (tgt := 79) hc (by decide) (rx_dt dt_Writer_putStored 38 rfl) ?_
        refine rw_aload_n (pc := 63) 0 rfl rfl (rx_dt dt_Writer_putStored 39 rfl) ?_
        refine rw_aload_n (pc := 64) 1 rfl rfl (rx_dt dt_Writer_putStored 40 rfl) ?_
        refine rw_iload (pc := 65) 3 rfl (rx_dt dt_Writer_putStored 41 rfl) ?_
        obtain ⟨hk1, hm⟩ := chk_some hm
        refine rw_iald (pc := 67) 0 rfl hk1 (rx_dt dt_Writer_putStored 42 rfl) ?_
        refine rw_bipush (pc := 68) (v := 8) (by decide) (rx_dt dt_Writer_putStored 43 rfl) ?_
        obtain ⟨t_bitCount_7, t_came7, hq, hm⟩ := bnd2_some hm
        refine rw_callV cw_Writer_putBits lk_Writer_41 ci_Writer_putBits rfl (q := 1) rfl (c_Writer_putBits l Z F (a_t := a_t) (a_t_came := a_t_came) (a_t_distanceCode := a_t_distanceCode) (a_t_lengthCode := a_t_lengthCode) (a_t_literalCode := a_t_literalCode) (a_t_next := a_t_next) (t_bitCount := t_bitCount_5) (t_came := t_came5) (x1 := p1 v5_1.toNatClampNeg) (x2 := (8 : Int32)) (o_t_bitCount := t_bitCount_7) (o_t_came := t_came7) hq) [1, 2] [0] rfl rfl rfl rfl (by decide) rfl (by decide) (fun h => h) (rest := []) (wr := [ia Z a_p1 n_p1 p1]) (Nat.le_of_ble_eq_true rfl) rfl (rx_dt dt_Writer_putStored 44 rfl) (pc := 70) ?_
        rintro _ _ ⟨rfl, rfl⟩
        show J_Writer_putStored l Z mc ms post k n [ia Z a_p1 n_p1 p1, ob a_t 10 [.ref a_t_came, .int t_bitCount_7, .ref a_t_literalCode, .ref a_t_distanceCode, .ref a_t_lengthCode, .ref a_t_next], ia Z a_t_came 518 t_came7] [(0, .ref a_t), (1, .ref a_p1), (3, .int x3), (5, .int v5_1)] 73 []
        obtain ⟨y2, hy2, hm⟩ := nm_some hm
        refine rw_iinc (pc := 73) (lv' := [(5, .int y2), (0, .ref a_t), (1, .ref a_p1), (3, .int x3)]) 3 rfl hy2 (by decide) rfl (rx_dt dt_Writer_putStored 45 rfl) ?_
        refine rw_goto (pc := 76) (tgt := 50) (by decide) (rx_dt dt_Writer_putStored 46 rfl) ?_
        refine rw_perm (lv' := [(0, .ref a_t), (1, .ref a_p1), (3, .int x3), (5, .int y2)]) (ws' := [ia Z a_p1 n_p1 p1, ob a_t 10 [.ref a_t_came, .int t_bitCount_7, .ref a_t_literalCode, .ref a_t_distanceCode, .ref a_t_lengthCode, .ref a_t_next], ia Z a_t_came 518 t_came7]) [1, 2, 3, 0] [0, 1, 2] rfl rfl rfl ?_
        exact ih  _ _ _ _ _ _ hm K
set_option maxRecDepth 100000 in
set_option maxHeartbeats 4000000 in
theorem w_Writer_putStored (l : Launch) (Z : rx_D) (mc ms : Nat) (post : Option Value → va_W → Prop) (k n : Nat) (F : Nat) (a_p1 a_t a_t_came a_t_distanceCode a_t_lengthCode a_t_literalCode a_t_next n_p1 : Nat) (p1 : Nat → Int32) (t_bitCount : Int32) (t_came : Nat → Int32) (x2 x3 x4 : Int32) (o_t_bitCount : Int32) (o_t_came : Nat → Int32) (hm : m_Writer_putStored F n_p1 p1 t_bitCount t_came x2 x3 x4 = some (o_t_bitCount, o_t_came)) (hp : post none [ia Z a_p1 n_p1 p1, ob a_t 10 [.ref a_t_came, .int o_t_bitCount, .ref a_t_literalCode, .ref a_t_distanceCode, .ref a_t_lengthCode, .ref a_t_next], ia Z a_t_came 518 o_t_came]) : J_Writer_putStored l Z mc ms post k n [ia Z a_p1 n_p1 p1, ob a_t 10 [.ref a_t_came, .int t_bitCount, .ref a_t_literalCode, .ref a_t_distanceCode, .ref a_t_lengthCode, .ref a_t_next], ia Z a_t_came 518 t_came] [(0, .ref a_t), (1, .ref a_p1), (2, .int x2), (3, .int x3), (4, .int x4)] 0 [] := by
  unfold m_Writer_putStored at hm
  refine rw_aload_n (pc := 0) 0 rfl rfl (rx_dt dt_Writer_putStored 0 rfl) ?_
  refine rw_iload (pc := 1) 4 rfl (rx_dt dt_Writer_putStored 1 rfl) ?_
  refine rw_iconst (pc := 3) (v := 1) rfl (rx_dt dt_Writer_putStored 2 rfl) ?_
  obtain ⟨t_bitCount_1, t_came1, hq, hm⟩ := bnd2_some hm
  refine rw_callV cw_Writer_putBits lk_Writer_41 ci_Writer_putBits rfl (q := 1) rfl (c_Writer_putBits l Z F (a_t := a_t) (a_t_came := a_t_came) (a_t_distanceCode := a_t_distanceCode) (a_t_lengthCode := a_t_lengthCode) (a_t_literalCode := a_t_literalCode) (a_t_next := a_t_next) (t_bitCount := t_bitCount) (t_came := t_came) (x1 := x4) (x2 := (1 : Int32)) (o_t_bitCount := t_bitCount_1) (o_t_came := t_came1) hq) [1, 2] [0] rfl rfl rfl rfl (by decide) rfl (by decide) (fun h => h) (rest := []) (wr := [ia Z a_p1 n_p1 p1]) (Nat.le_of_ble_eq_true rfl) rfl (rx_dt dt_Writer_putStored 3 rfl) (pc := 4) ?_
  rintro _ _ ⟨rfl, rfl⟩
  show J_Writer_putStored l Z mc ms post k n [ia Z a_p1 n_p1 p1, ob a_t 10 [.ref a_t_came, .int t_bitCount_1, .ref a_t_literalCode, .ref a_t_distanceCode, .ref a_t_lengthCode, .ref a_t_next], ia Z a_t_came 518 t_came1] [(0, .ref a_t), (1, .ref a_p1), (2, .int x2), (3, .int x3), (4, .int x4)] 7 []
  refine rw_aload_n (pc := 7) 0 rfl rfl (rx_dt dt_Writer_putStored 4 rfl) ?_
  refine rw_iconst (pc := 8) (v := 0) rfl (rx_dt dt_Writer_putStored 5 rfl) ?_
  refine rw_iconst (pc := 9) (v := 2) rfl (rx_dt dt_Writer_putStored 6 rfl) ?_
  obtain ⟨t_bitCount_2, t_came2, hq, hm⟩ := bnd2_some hm
  refine rw_callV cw_Writer_putBits lk_Writer_41 ci_Writer_putBits rfl (q := 1) rfl (c_Writer_putBits l Z F (a_t := a_t) (a_t_came := a_t_came) (a_t_distanceCode := a_t_distanceCode) (a_t_lengthCode := a_t_lengthCode) (a_t_literalCode := a_t_literalCode) (a_t_next := a_t_next) (t_bitCount := t_bitCount_1) (t_came := t_came1) (x1 := (0 : Int32)) (x2 := (2 : Int32)) (o_t_bitCount := t_bitCount_2) (o_t_came := t_came2) hq) [1, 2] [0] rfl rfl rfl rfl (by decide) rfl (by decide) (fun h => h) (rest := []) (wr := [ia Z a_p1 n_p1 p1]) (Nat.le_of_ble_eq_true rfl) rfl (rx_dt dt_Writer_putStored 7 rfl) (pc := 10) ?_
  rintro _ _ ⟨rfl, rfl⟩
  show J_Writer_putStored l Z mc ms post k n [ia Z a_p1 n_p1 p1, ob a_t 10 [.ref a_t_came, .int t_bitCount_2, .ref a_t_literalCode, .ref a_t_distanceCode, .ref a_t_lengthCode, .ref a_t_next], ia Z a_t_came 518 t_came2] [(0, .ref a_t), (1, .ref a_p1), (2, .int x2), (3, .int x3), (4, .int x4)] 13 []
  refine rw_aload_n (pc := 13) 0 rfl rfl (rx_dt dt_Writer_putStored 8 rfl) ?_
  refine rw_aload_n (pc := 14) 0 rfl rfl (rx_dt dt_Writer_putStored 9 rfl) ?_
  refine rw_get fa_Writer_15 (pc := 15) 1 rfl rfl (rx_dt dt_Writer_putStored 10 rfl) ?_
  refine rw_bipush (pc := 18) (v := 7) (by decide) (rx_dt dt_Writer_putStored 11 rfl) ?_
  refine rw_iadd (pc := 20) (rx_dt dt_Writer_putStored 12 rfl) ?_
  refine rw_bipush (pc := 21) (v := -8) (by decide) (rx_dt dt_Writer_putStored 13 rfl) ?_
  refine rw_iand (pc := 23) (rx_dt dt_Writer_putStored 14 rfl) ?_
  obtain ⟨y1, hy1, hm⟩ := nm_some hm
  refine rw_nm hy1 ?_
  refine rw_put fa_Writer_15 (pc := 24) (ws' := [ia Z a_p1 n_p1 p1, ob a_t 10 [.ref a_t_came, .int y1, .ref a_t_literalCode, .ref a_t_distanceCode, .ref a_t_lengthCode, .ref a_t_next], ia Z a_t_came 518 t_came2]) 1 rfl rfl rfl (Nat.le_of_ble_eq_true rfl) rfl (rx_dt dt_Writer_putStored 15 rfl) ?_
  refine rw_aload_n (pc := 27) 0 rfl rfl (rx_dt dt_Writer_putStored 16 rfl) ?_
  refine rw_iload_n (pc := 28) 3 rfl rfl (rx_dt dt_Writer_putStored 17 rfl) ?_
  refine rw_iload_n (pc := 29) 2 rfl rfl (rx_dt dt_Writer_putStored 18 rfl) ?_
  refine rw_isub (pc := 30) (rx_dt dt_Writer_putStored 19 rfl) ?_
  refine rw_bipush (pc := 31) (v := 16) (by decide) (rx_dt dt_Writer_putStored 20 rfl) ?_
  obtain ⟨t_bitCount_3, t_came3, hq, hm⟩ := bnd2_some hm
  refine rw_callV cw_Writer_putBits lk_Writer_41 ci_Writer_putBits rfl (q := 1) rfl (c_Writer_putBits l Z F (a_t := a_t) (a_t_came := a_t_came) (a_t_distanceCode := a_t_distanceCode) (a_t_lengthCode := a_t_lengthCode) (a_t_literalCode := a_t_literalCode) (a_t_next := a_t_next) (t_bitCount := y1) (t_came := t_came2) (x1 := x3 - x2) (x2 := (16 : Int32)) (o_t_bitCount := t_bitCount_3) (o_t_came := t_came3) hq) [1, 2] [0] rfl rfl rfl rfl (by decide) rfl (by decide) (fun h => h) (rest := []) (wr := [ia Z a_p1 n_p1 p1]) (Nat.le_of_ble_eq_true rfl) rfl (rx_dt dt_Writer_putStored 21 rfl) (pc := 33) ?_
  rintro _ _ ⟨rfl, rfl⟩
  show J_Writer_putStored l Z mc ms post k n [ia Z a_p1 n_p1 p1, ob a_t 10 [.ref a_t_came, .int t_bitCount_3, .ref a_t_literalCode, .ref a_t_distanceCode, .ref a_t_lengthCode, .ref a_t_next], ia Z a_t_came 518 t_came3] [(0, .ref a_t), (1, .ref a_p1), (2, .int x2), (3, .int x3), (4, .int x4)] 36 []
  refine rw_aload_n (pc := 36) 0 rfl rfl (rx_dt dt_Writer_putStored 22 rfl) ?_
  refine rw_iload_n (pc := 37) 3 rfl rfl (rx_dt dt_Writer_putStored 23 rfl) ?_
  refine rw_iload_n (pc := 38) 2 rfl rfl (rx_dt dt_Writer_putStored 24 rfl) ?_
  refine rw_isub (pc := 39) (rx_dt dt_Writer_putStored 25 rfl) ?_
  refine rw_iconst (pc := 40) (v := -1) rfl (rx_dt dt_Writer_putStored 26 rfl) ?_
  refine rw_ixor (pc := 41) (rx_dt dt_Writer_putStored 27 rfl) ?_
  refine rw_bipush (pc := 42) (v := 16) (by decide) (rx_dt dt_Writer_putStored 28 rfl) ?_
  obtain ⟨t_bitCount_4, t_came4, hq, hm⟩ := bnd2_some hm
  refine rw_callV cw_Writer_putBits lk_Writer_41 ci_Writer_putBits rfl (q := 1) rfl (c_Writer_putBits l Z F (a_t := a_t) (a_t_came := a_t_came) (a_t_distanceCode := a_t_distanceCode) (a_t_lengthCode := a_t_lengthCode) (a_t_literalCode := a_t_literalCode) (a_t_next := a_t_next) (t_bitCount := t_bitCount_3) (t_came := t_came3) (x1 := (x3 - x2) ^^^ (-1 : Int32)) (x2 := (16 : Int32)) (o_t_bitCount := t_bitCount_4) (o_t_came := t_came4) hq) [1, 2] [0] rfl rfl rfl rfl (by decide) rfl (by decide) (fun h => h) (rest := []) (wr := [ia Z a_p1 n_p1 p1]) (Nat.le_of_ble_eq_true rfl) rfl (rx_dt dt_Writer_putStored 29 rfl) (pc := 44) ?_
  rintro _ _ ⟨rfl, rfl⟩
  show J_Writer_putStored l Z mc ms post k n [ia Z a_p1 n_p1 p1, ob a_t 10 [.ref a_t_came, .int t_bitCount_4, .ref a_t_literalCode, .ref a_t_distanceCode, .ref a_t_lengthCode, .ref a_t_next], ia Z a_t_came 518 t_came4] [(0, .ref a_t), (1, .ref a_p1), (2, .int x2), (3, .int x3), (4, .int x4)] 47 []
  refine rw_iload_n (pc := 47) 2 rfl rfl (rx_dt dt_Writer_putStored 30 rfl) ?_
  refine rw_istore (pc := 48) (lv' := [(5, .int x2), (0, .ref a_t), (1, .ref a_p1), (2, .int x2), (3, .int x3), (4, .int x4)]) (by decide) rfl (rx_dt dt_Writer_putStored 31 rfl) ?_
  obtain ⟨v5_3, t_bitCount_8, t_came8, hl, hm⟩ := bnd3_some hm
  refine rw_perm (lv' := [(0, .ref a_t), (1, .ref a_p1), (3, .int x3), (5, .int x2)]) (ws' := [ia Z a_p1 n_p1 p1, ob a_t 10 [.ref a_t_came, .int t_bitCount_4, .ref a_t_literalCode, .ref a_t_distanceCode, .ref a_t_lengthCode, .ref a_t_next], ia Z a_t_came 518 t_came4]) [1, 2, 4, 0] [0, 1, 2] rfl rfl rfl ?_
  refine wl_Writer_putStored_50 l Z mc ms post k n F a_p1 a_t a_t_came a_t_distanceCode a_t_lengthCode a_t_literalCode a_t_next n_p1 p1 x3 F  x2 t_bitCount_4 t_came4 v5_3 t_bitCount_8 t_came8 hl ?_
  cases hm
  exact rw_vret (pc := 79) (rx_dt dt_Writer_putStored 47 rfl) hp
theorem c_Writer_putStored (l : Launch) (Z : rx_D) (F : Nat) (a_p1 a_t a_t_came a_t_distanceCode a_t_lengthCode a_t_literalCode a_t_next n_p1 : Nat) (p1 : Nat → Int32) (t_bitCount : Int32) (t_came : Nat → Int32) (x2 x3 x4 : Int32) (o_t_bitCount : Int32) (o_t_came : Nat → Int32) (hm : m_Writer_putStored F n_p1 p1 t_bitCount t_came x2 x3 x4 = some (o_t_bitCount, o_t_came)) : Cn l Z y_Writer_putStored b_Writer_putStored 6 none 2 [.ref a_t, .ref a_p1, .int x2, .int x3, .int x4] [ia Z a_p1 n_p1 p1, ob a_t 10 [.ref a_t_came, .int t_bitCount, .ref a_t_literalCode, .ref a_t_distanceCode, .ref a_t_lengthCode, .ref a_t_next], ia Z a_t_came 518 t_came] 0 0 (fun r w => r = none ∧ w = [ia Z a_p1 n_p1 p1, ob a_t 10 [.ref a_t_came, .int o_t_bitCount, .ref a_t_literalCode, .ref a_t_distanceCode, .ref a_t_lengthCode, .ref a_t_next], ia Z a_t_came 518 o_t_came]) :=
  rx_met "DeflateEffort$Writer" "putStored" mf_Writer_putStored (Nat.le_of_ble_eq_true rfl) rfl (by rintro _ _ ⟨h9, _⟩; cases h9) (w_Writer_putStored l Z 0 0 _ 0 0 F a_p1 a_t a_t_came a_t_distanceCode a_t_lengthCode a_t_literalCode a_t_next n_p1 p1 t_bitCount t_came x2 x3 x4 o_t_bitCount o_t_came hm ⟨rfl, rfl⟩)
abbrev J_Writer_giveCodes (l : Launch) (Z : rx_D) (mc ms : Nat) (post : Option Value → va_W → Prop) := Rw l Z "DeflateEffort$Writer" "giveCodes" b_Writer_giveCodes 4 none 1 mc ms post
set_option maxRecDepth 100000 in
set_option maxHeartbeats 4000000 in
theorem wl_Writer_giveCodes_10 (l : Launch) (Z : rx_D) (mc ms : Nat) (post : Option Value → va_W → Prop) (k n : Nat) (F : Nat) (a_p1 a_p2 a_t a_t_came a_t_distanceCode a_t_lengthCode a_t_literalCode a_t_next n_p1 n_p2 : Nat) (p1 p2 : Nat → Int32) (t_bitCount : Int32) : ∀ (f : Nat)  (v3_1 : Int32) (t_next2 : Nat → Int32) (v3_2 : Int32) (t_next3 : Nat → Int32), L_Writer_giveCodes_10 F n_p1 p1 f v3_1 t_next2 = some (v3_2, t_next3) → (J_Writer_giveCodes l Z mc ms post k n [ia Z a_p1 n_p1 p1, ia Z a_p2 n_p2 p2, ob a_t 10 [.ref a_t_came, .int t_bitCount, .ref a_t_literalCode, .ref a_t_distanceCode, .ref a_t_lengthCode, .ref a_t_next], ia Z a_t_next 17 t_next3] [(0, .ref a_t), (1, .ref a_p1), (2, .ref a_p2)] 50 []) → J_Writer_giveCodes l Z mc ms post k n [ia Z a_p1 n_p1 p1, ia Z a_p2 n_p2 p2, ob a_t 10 [.ref a_t_came, .int t_bitCount, .ref a_t_literalCode, .ref a_t_distanceCode, .ref a_t_lengthCode, .ref a_t_next], ia Z a_t_next 17 t_next2] [(0, .ref a_t), (1, .ref a_p1), (2, .ref a_p2), (3, .int v3_1)] 10 [] := by
  intro f
  induction f with
  | zero =>
    intro v3_1 t_next2 v3_2 t_next3 hm K
    cases hm
  | succ f ih =>
    intro v3_1 t_next2 v3_2 t_next3 hm K
    have hm : B_Writer_giveCodes_10 F n_p1 p1 (L_Writer_giveCodes_10 F n_p1 p1 f) v3_1 t_next2 = some (v3_2, t_next3) := hm
    unfold B_Writer_giveCodes_10 at hm
    refine rw_iload_n (pc := 10) 3 rfl rfl (rx_dt dt_Writer_giveCodes 6 rfl) ?_
    refine rw_aload_n (pc := 11) 1 rfl rfl (rx_dt dt_Writer_giveCodes 7 rfl) ?_
    refine rw_alen (pc := 12) 0 rfl (rx_dt dt_Writer_giveCodes 8 rfl) ?_
    rcases ite_some hm with ⟨hc, hm⟩ | ⟨hc, hm⟩
    · refine rw_icmp_ge_t (pc := 13) (tgt := 50) hc (by decide) (rx_dt dt_Writer_giveCodes 9 rfl) ?_
      refine rw_perm (lv' := [(0, .ref a_t), (1, .ref a_p1), (2, .ref a_p2)]) (ws' := [ia Z a_p1 n_p1 p1, ia Z a_p2 n_p2 p2, ob a_t 10 [.ref a_t_came, .int t_bitCount, .ref a_t_literalCode, .ref a_t_distanceCode, .ref a_t_lengthCode, .ref a_t_next], ia Z a_t_next 17 t_next2]) [0, 1, 2] [0, 1, 2, 3] rfl rfl rfl ?_
      cases hm
      exact K
    · refine rw_icmp_ge_f (pc := 13) (tgt := 50) hc (by decide) (rx_dt dt_Writer_giveCodes 9 rfl) ?_
      refine rw_aload_n (pc := 16) 1 rfl rfl (rx_dt dt_Writer_giveCodes 10 rfl) ?_
      refine rw_iload_n (pc := 17) 3 rfl rfl (rx_dt dt_Writer_giveCodes 11 rfl) ?_
      obtain ⟨hk1, hm⟩ := chk_some hm
      refine rw_iald (pc := 18) 0 rfl hk1 (rx_dt dt_Writer_giveCodes 12 rfl) ?_
      obtain ⟨t_next4, hj, hm⟩ := bnd1_some hm
      have KJ : J_Writer_giveCodes l Z mc ms post k n [ia Z a_p1 n_p1 p1, ia Z a_p2 n_p2 p2, ob a_t 10 [.ref a_t_came, .int t_bitCount, .ref a_t_literalCode, .ref a_t_distanceCode, .ref a_t_lengthCode, .ref a_t_next], ia Z a_t_next 17 t_next4] [(0, .ref a_t), (1, .ref a_p1), (2, .ref a_p2), (3, .int v3_1)] 44 [] := by
        obtain ⟨y1, hy1, hm⟩ := nm_some hm
        refine rw_iinc (pc := 44) (lv' := [(3, .int y1), (0, .ref a_t), (1, .ref a_p1), (2, .ref a_p2)]) 3 rfl hy1 (by decide) rfl (rx_dt dt_Writer_giveCodes 31 rfl) ?_
        refine rw_goto (pc := 47) (tgt := 10) (by decide) (rx_dt dt_Writer_giveCodes 32 rfl) ?_
        refine rw_perm (lv' := [(0, .ref a_t), (1, .ref a_p1), (2, .ref a_p2), (3, .int y1)]) (ws' := [ia Z a_p1 n_p1 p1, ia Z a_p2 n_p2 p2, ob a_t 10 [.ref a_t_came, .int t_bitCount, .ref a_t_literalCode, .ref a_t_distanceCode, .ref a_t_lengthCode, .ref a_t_next], ia Z a_t_next 17 t_next4]) [1, 2, 3, 0] [0, 1, 2, 3] rfl rfl rfl ?_
        exact ih  _ _ _ _ hm K
      clear hm
      have hm := hj
      clear hj
      rcases ite_some hm with ⟨hc, hm⟩ | ⟨hc, hm⟩
      · refine rw_if_le_t (pc := 19) (tgt := 44) hc (by decide) (rx_dt dt_Writer_giveCodes 13 rfl) ?_
        cases hm
        exact KJ
      · refine rw_if_le_f (pc := 19) (tgt := 44) hc (by decide) (rx_dt dt_Writer_giveCodes 13 rfl) ?_
        refine rw_aload_n (pc := 22) 1 rfl rfl (rx_dt dt_Writer_giveCodes 14 rfl) ?_
        refine rw_iload_n (pc := 23) 3 rfl rfl (rx_dt dt_Writer_giveCodes 15 rfl) ?_
        obtain ⟨hk2, hm⟩ := chk_some hm
        refine rw_iald (pc := 24) 0 rfl hk2 (rx_dt dt_Writer_giveCodes 16 rfl) ?_
        refine rw_bipush (pc := 25) (v := 15) (by decide) (rx_dt dt_Writer_giveCodes 17 rfl) ?_
        rcases ite_some hm with ⟨hc, hm⟩ | ⟨hc, hm⟩
        · refine rw_icmp_gt_t (pc := 27) (tgt := 44) hc (by decide) (rx_dt dt_Writer_giveCodes 18 rfl) ?_
          cases hm
          exact KJ
        · refine rw_icmp_gt_f (pc := 27) (tgt := 44) hc (by decide) (rx_dt dt_Writer_giveCodes 18 rfl) ?_
          refine rw_aload_n (pc := 30) 0 rfl rfl (rx_dt dt_Writer_giveCodes 19 rfl) ?_
          refine rw_get fa_Writer_28 (pc := 31) 2 rfl rfl (rx_dt dt_Writer_giveCodes 20 rfl) ?_
          refine rw_aload_n (pc := 34) 1 rfl rfl (rx_dt dt_Writer_giveCodes 21 rfl) ?_
          refine rw_iload_n (pc := 35) 3 rfl rfl (rx_dt dt_Writer_giveCodes 22 rfl) ?_
          obtain ⟨hk3, hm⟩ := chk_some hm
          refine rw_iald (pc := 36) 0 rfl hk3 (rx_dt dt_Writer_giveCodes 23 rfl) ?_
          refine rw_iconst (pc := 37) (v := 1) rfl (rx_dt dt_Writer_giveCodes 24 rfl) ?_
          refine rw_iadd (pc := 38) (rx_dt dt_Writer_giveCodes 25 rfl) ?_
          refine rw_dup2 (pc := 39) rfl rfl (rx_dt dt_Writer_giveCodes 26 rfl) ?_
          obtain ⟨hk4, hm⟩ := chk_some hm
          refine rw_iald (pc := 40) 3 rfl hk4 (rx_dt dt_Writer_giveCodes 27 rfl) ?_
          refine rw_iconst (pc := 41) (v := 1) rfl (rx_dt dt_Writer_giveCodes 28 rfl) ?_
          refine rw_iadd (pc := 42) (rx_dt dt_Writer_giveCodes 29 rfl) ?_
          obtain ⟨hk5, hm⟩ := chk_some hm
          obtain ⟨t_next5, ht_next5, hm⟩ := nm_some hm
          refine rw_iast (pc := 43) (ws' := [ia Z a_p1 n_p1 p1, ia Z a_p2 n_p2 p2, ob a_t 10 [.ref a_t_came, .int t_bitCount, .ref a_t_literalCode, .ref a_t_distanceCode, .ref a_t_lengthCode, .ref a_t_next], ia Z a_t_next 17 t_next5]) 3 rfl hk5 (by rw [← ht_next5]; rfl) (rx_dt dt_Writer_giveCodes 30 rfl) ?_
          cases hm
          exact KJ
set_option maxRecDepth 100000 in
set_option maxHeartbeats 4000000 in
theorem wl_Writer_giveCodes_52 (l : Launch) (Z : rx_D) (mc ms : Nat) (post : Option Value → va_W → Prop) (k n : Nat) (F : Nat) (a_p1 a_p2 a_t a_t_came a_t_distanceCode a_t_lengthCode a_t_literalCode a_t_next n_p1 n_p2 : Nat) (p1 p2 : Nat → Int32) (t_bitCount : Int32) : ∀ (f : Nat)  (v3_4 : Int32) (t_next7 : Nat → Int32) (v3_5 : Int32) (t_next8 : Nat → Int32), L_Writer_giveCodes_52 F  f v3_4 t_next7 = some (v3_5, t_next8) → (J_Writer_giveCodes l Z mc ms post k n [ia Z a_p1 n_p1 p1, ia Z a_p2 n_p2 p2, ob a_t 10 [.ref a_t_came, .int t_bitCount, .ref a_t_literalCode, .ref a_t_distanceCode, .ref a_t_lengthCode, .ref a_t_next], ia Z a_t_next 17 t_next8] [(0, .ref a_t), (1, .ref a_p1), (2, .ref a_p2)] 90 []) → J_Writer_giveCodes l Z mc ms post k n [ia Z a_p1 n_p1 p1, ia Z a_p2 n_p2 p2, ob a_t 10 [.ref a_t_came, .int t_bitCount, .ref a_t_literalCode, .ref a_t_distanceCode, .ref a_t_lengthCode, .ref a_t_next], ia Z a_t_next 17 t_next7] [(0, .ref a_t), (1, .ref a_p1), (2, .ref a_p2), (3, .int v3_4)] 52 [] := by
  intro f
  induction f with
  | zero =>
    intro v3_4 t_next7 v3_5 t_next8 hm K
    cases hm
  | succ f ih =>
    intro v3_4 t_next7 v3_5 t_next8 hm K
    have hm : B_Writer_giveCodes_52 F  (L_Writer_giveCodes_52 F  f) v3_4 t_next7 = some (v3_5, t_next8) := hm
    unfold B_Writer_giveCodes_52 at hm
    refine rw_iload_n (pc := 52) 3 rfl rfl (rx_dt dt_Writer_giveCodes 35 rfl) ?_
    refine rw_aload_n (pc := 53) 0 rfl rfl (rx_dt dt_Writer_giveCodes 36 rfl) ?_
    refine rw_get fa_Writer_28 (pc := 54) 2 rfl rfl (rx_dt dt_Writer_giveCodes 37 rfl) ?_
    refine rw_alen (pc := 57) 3 rfl (rx_dt dt_Writer_giveCodes 38 rfl) ?_
    rcases ite_some hm with ⟨hc, hm⟩ | ⟨hc, hm⟩
    · refine rw_icmp_ge_t (pc := 58) (tgt := 90) hc (by decide) (rx_dt dt_Writer_giveCodes 39 rfl) ?_
      refine rw_perm (lv' := [(0, .ref a_t), (1, .ref a_p1), (2, .ref a_p2)]) (ws' := [ia Z a_p1 n_p1 p1, ia Z a_p2 n_p2 p2, ob a_t 10 [.ref a_t_came, .int t_bitCount, .ref a_t_literalCode, .ref a_t_distanceCode, .ref a_t_lengthCode, .ref a_t_next], ia Z a_t_next 17 t_next7]) [0, 1, 2] [0, 1, 2, 3] rfl rfl rfl ?_
      cases hm
      exact K
    · refine rw_icmp_ge_f (pc := 58) (tgt := 90) hc (by decide) (rx_dt dt_Writer_giveCodes 39 rfl) ?_
      refine rw_aload_n (pc := 61) 0 rfl rfl (rx_dt dt_Writer_giveCodes 40 rfl) ?_
      refine rw_get fa_Writer_28 (pc := 62) 2 rfl rfl (rx_dt dt_Writer_giveCodes 41 rfl) ?_
      refine rw_iload_n (pc := 65) 3 rfl rfl (rx_dt dt_Writer_giveCodes 42 rfl) ?_
      refine rw_aload_n (pc := 66) 0 rfl rfl (rx_dt dt_Writer_giveCodes 43 rfl) ?_
      refine rw_get fa_Writer_28 (pc := 67) 2 rfl rfl (rx_dt dt_Writer_giveCodes 44 rfl) ?_
      refine rw_iload_n (pc := 70) 3 rfl rfl (rx_dt dt_Writer_giveCodes 45 rfl) ?_
      obtain ⟨hk6, hm⟩ := chk_some hm
      refine rw_iald (pc := 71) 3 rfl hk6 (rx_dt dt_Writer_giveCodes 46 rfl) ?_
      refine rw_aload_n (pc := 72) 0 rfl rfl (rx_dt dt_Writer_giveCodes 47 rfl) ?_
      refine rw_get fa_Writer_28 (pc := 73) 2 rfl rfl (rx_dt dt_Writer_giveCodes 48 rfl) ?_
      refine rw_iload_n (pc := 76) 3 rfl rfl (rx_dt dt_Writer_giveCodes 49 rfl) ?_
      refine rw_iconst (pc := 77) (v := 1) rfl (rx_dt dt_Writer_giveCodes 50 rfl) ?_
      refine rw_isub (pc := 78) (rx_dt dt_Writer_giveCodes 51 rfl) ?_
      obtain ⟨hk7, hm⟩ := chk_some hm
      refine rw_iald (pc := 79) 3 rfl hk7 (rx_dt dt_Writer_giveCodes 52 rfl) ?_
      refine rw_iadd (pc := 80) (rx_dt dt_Writer_giveCodes 53 rfl) ?_
      refine rw_iconst (pc := 81) (v := 1) rfl (rx_dt dt_Writer_giveCodes 54 rfl) ?_
      refine rw_ishl (pc := 82) (rx_dt dt_Writer_giveCodes 55 rfl) ?_
      obtain ⟨hk8, hm⟩ := chk_some hm
      obtain ⟨t_next9, ht_next9, hm⟩ := nm_some hm
      refine rw_iast (pc := 83) (ws' := [ia Z a_p1 n_p1 p1, ia Z a_p2 n_p2 p2, ob a_t 10 [.ref a_t_came, .int t_bitCount, .ref a_t_literalCode, .ref a_t_distanceCode, .ref a_t_lengthCode, .ref a_t_next], ia Z a_t_next 17 t_next9]) 3 rfl hk8 (by rw [← ht_next9]; rfl) (rx_dt dt_Writer_giveCodes 56 rfl) ?_
      obtain ⟨y2, hy2, hm⟩ := nm_some hm
      refine rw_iinc (pc := 84) (lv' := [(3, .int y2), (0, .ref a_t), (1, .ref a_p1), (2, .ref a_p2)]) 3 rfl hy2 (by decide) rfl (rx_dt dt_Writer_giveCodes 57 rfl) ?_
      refine rw_goto (pc := 87) (tgt := 52) (by decide) (rx_dt dt_Writer_giveCodes 58 rfl) ?_
      refine rw_perm (lv' := [(0, .ref a_t), (1, .ref a_p1), (2, .ref a_p2), (3, .int y2)]) (ws' := [ia Z a_p1 n_p1 p1, ia Z a_p2 n_p2 p2, ob a_t 10 [.ref a_t_came, .int t_bitCount, .ref a_t_literalCode, .ref a_t_distanceCode, .ref a_t_lengthCode, .ref a_t_next], ia Z a_t_next 17 t_next9]) [1, 2, 3, 0] [0, 1, 2, 3] rfl rfl rfl ?_
      exact ih  _ _ _ _ hm K
set_option maxRecDepth 100000 in
set_option maxHeartbeats 4000000 in
theorem wl_Writer_giveCodes_92 (l : Launch) (Z : rx_D) (mc ms : Nat) (post : Option Value → va_W → Prop) (k n : Nat) (F : Nat) (a_p1 a_p2 a_t a_t_came a_t_distanceCode a_t_lengthCode a_t_literalCode a_t_next n_p1 n_p2 : Nat) (p1 : Nat → Int32) (t_bitCount : Int32) : ∀ (f : Nat)  (v3_7 : Int32) (p3 t_next11 : Nat → Int32) (v3_8 : Int32) (p4 t_next12 : Nat → Int32), L_Writer_giveCodes_92 F n_p1 n_p2 p1 f v3_7 p3 t_next11 = some (v3_8, p4, t_next12) → (J_Writer_giveCodes l Z mc ms post k n [ia Z a_p1 n_p1 p1, ia Z a_p2 n_p2 p4, ob a_t 10 [.ref a_t_came, .int t_bitCount, .ref a_t_literalCode, .ref a_t_distanceCode, .ref a_t_lengthCode, .ref a_t_next], ia Z a_t_next 17 t_next12] [] 147 []) → J_Writer_giveCodes l Z mc ms post k n [ia Z a_p1 n_p1 p1, ia Z a_p2 n_p2 p3, ob a_t 10 [.ref a_t_came, .int t_bitCount, .ref a_t_literalCode, .ref a_t_distanceCode, .ref a_t_lengthCode, .ref a_t_next], ia Z a_t_next 17 t_next11] [(0, .ref a_t), (1, .ref a_p1), (2, .ref a_p2), (3, .int v3_7)] 92 [] := by
  intro f
  induction f with
  | zero =>
    intro v3_7 p3 t_next11 v3_8 p4 t_next12 hm K
    cases hm
  | succ f ih =>
    intro v3_7 p3 t_next11 v3_8 p4 t_next12 hm K
    have hm : B_Writer_giveCodes_92 F n_p1 n_p2 p1 (L_Writer_giveCodes_92 F n_p1 n_p2 p1 f) v3_7 p3 t_next11 = some (v3_8, p4, t_next12) := hm
    unfold B_Writer_giveCodes_92 at hm
    refine rw_iload_n (pc := 92) 3 rfl rfl (rx_dt dt_Writer_giveCodes 61 rfl) ?_
    refine rw_aload_n (pc := 93) 1 rfl rfl (rx_dt dt_Writer_giveCodes 62 rfl) ?_
    refine rw_alen (pc := 94) 0 rfl (rx_dt dt_Writer_giveCodes 63 rfl) ?_
    rcases ite_some hm with ⟨hc, hm⟩ | ⟨hc, hm⟩
    · refine rw_icmp_ge_t (pc := 95) (tgt := 147) hc (by decide) (rx_dt dt_Writer_giveCodes 64 rfl) ?_
      refine rw_perm (lv' := []) (ws' := [ia Z a_p1 n_p1 p1, ia Z a_p2 n_p2 p3, ob a_t 10 [.ref a_t_came, .int t_bitCount, .ref a_t_literalCode, .ref a_t_distanceCode, .ref a_t_lengthCode, .ref a_t_next], ia Z a_t_next 17 t_next11]) [] [0, 1, 2, 3] rfl rfl rfl ?_
      cases hm
      exact K
    · refine rw_icmp_ge_f (pc := 95) (tgt := 147) hc (by decide) (rx_dt dt_Writer_giveCodes 64 rfl) ?_
      refine rw_iload_n (pc := 98) 3 rfl rfl (rx_dt dt_Writer_giveCodes 65 rfl) ?_
      refine rw_aload_n (pc := 99) 2 rfl rfl (rx_dt dt_Writer_giveCodes 66 rfl) ?_
      refine rw_alen (pc := 100) 1 rfl (rx_dt dt_Writer_giveCodes 67 rfl) ?_
      rcases ite_some hm with ⟨hc, hm⟩ | ⟨hc, hm⟩
      · refine rw_icmp_ge_t (pc := 101) (tgt := 147) hc (by decide) (rx_dt dt_Writer_giveCodes 68 rfl) ?_
        refine rw_perm (lv' := []) (ws' := [ia Z a_p1 n_p1 p1, ia Z a_p2 n_p2 p3, ob a_t 10 [.ref a_t_came, .int t_bitCount, .ref a_t_literalCode, .ref a_t_distanceCode, .ref a_t_lengthCode, .ref a_t_next], ia Z a_t_next 17 t_next11]) [] [0, 1, 2, 3] rfl rfl rfl ?_
        cases hm
        exact K
      · refine rw_icmp_ge_f (pc := 101) (tgt := 147) hc (by decide) (rx_dt dt_Writer_giveCodes 68 rfl) ?_
        refine rw_aload_n (pc := 104) 1 rfl rfl (rx_dt dt_Writer_giveCodes 69 rfl) ?_
        refine rw_iload_n (pc := 105) 3 rfl rfl (rx_dt dt_Writer_giveCodes 70 rfl) ?_
        obtain ⟨hk9, hm⟩ := chk_some hm
        refine rw_iald (pc := 106) 0 rfl hk9 (rx_dt dt_Writer_giveCodes 71 rfl) ?_
        obtain ⟨p5, t_next13, hj, hm⟩ := bnd2_some hm
        have KJ : J_Writer_giveCodes l Z mc ms post k n [ia Z a_p1 n_p1 p1, ia Z a_p2 n_p2 p5, ob a_t 10 [.ref a_t_came, .int t_bitCount, .ref a_t_literalCode, .ref a_t_distanceCode, .ref a_t_lengthCode, .ref a_t_next], ia Z a_t_next 17 t_next13] [(0, .ref a_t), (1, .ref a_p1), (2, .ref a_p2), (3, .int v3_7)] 141 [] := by
          obtain ⟨y3, hy3, hm⟩ := nm_some hm
          refine rw_iinc (pc := 141) (lv' := [(3, .int y3), (0, .ref a_t), (1, .ref a_p1), (2, .ref a_p2)]) 3 rfl hy3 (by decide) rfl (rx_dt dt_Writer_giveCodes 97 rfl) ?_
          refine rw_goto (pc := 144) (tgt := 92) (by decide) (rx_dt dt_Writer_giveCodes 98 rfl) ?_
          refine rw_perm (lv' := [(0, .ref a_t), (1, .ref a_p1), (2, .ref a_p2), (3, .int y3)]) (ws' := [ia Z a_p1 n_p1 p1, ia Z a_p2 n_p2 p5, ob a_t 10 [.ref a_t_came, .int t_bitCount, .ref a_t_literalCode, .ref a_t_distanceCode, .ref a_t_lengthCode, .ref a_t_next], ia Z a_t_next 17 t_next13]) [1, 2, 3, 0] [0, 1, 2, 3] rfl rfl rfl ?_
          exact ih  _ _ _ _ _ _ hm K
        clear hm
        have hm := hj
        clear hj
        rcases ite_some hm with ⟨hc, hm⟩ | ⟨hc, hm⟩
        · refine rw_if_le_t (pc := 107) (tgt := 141) hc (by decide) (rx_dt dt_Writer_giveCodes 72 rfl) ?_
          cases hm
          exact KJ
        · refine rw_if_le_f (pc := 107) (tgt := 141) hc (by decide) (rx_dt dt_Writer_giveCodes 72 rfl) ?_
          refine rw_aload_n (pc := 110) 1 rfl rfl (rx_dt dt_Writer_giveCodes 73 rfl) ?_
          refine rw_iload_n (pc := 111) 3 rfl rfl (rx_dt dt_Writer_giveCodes 74 rfl) ?_
          obtain ⟨hk10, hm⟩ := chk_some hm
          refine rw_iald (pc := 112) 0 rfl hk10 (rx_dt dt_Writer_giveCodes 75 rfl) ?_
          refine rw_bipush (pc := 113) (v := 15) (by decide) (rx_dt dt_Writer_giveCodes 76 rfl) ?_
          rcases ite_some hm with ⟨hc, hm⟩ | ⟨hc, hm⟩
          · refine rw_icmp_gt_t (pc := 115) (tgt := 141) hc (by decide) (rx_dt dt_Writer_giveCodes 77 rfl) ?_
            cases hm
            exact KJ
          · refine rw_icmp_gt_f (pc := 115) (tgt := 141) hc (by decide) (rx_dt dt_Writer_giveCodes 77 rfl) ?_
            refine rw_aload_n (pc := 118) 2 rfl rfl (rx_dt dt_Writer_giveCodes 78 rfl) ?_
            refine rw_iload_n (pc := 119) 3 rfl rfl (rx_dt dt_Writer_giveCodes 79 rfl) ?_
            refine rw_aload_n (pc := 120) 0 rfl rfl (rx_dt dt_Writer_giveCodes 80 rfl) ?_
            refine rw_get fa_Writer_28 (pc := 121) 2 rfl rfl (rx_dt dt_Writer_giveCodes 81 rfl) ?_
            refine rw_aload_n (pc := 124) 1 rfl rfl (rx_dt dt_Writer_giveCodes 82 rfl) ?_
            refine rw_iload_n (pc := 125) 3 rfl rfl (rx_dt dt_Writer_giveCodes 83 rfl) ?_
            obtain ⟨hk11, hm⟩ := chk_some hm
            refine rw_iald (pc := 126) 0 rfl hk11 (rx_dt dt_Writer_giveCodes 84 rfl) ?_
            obtain ⟨hk12, hm⟩ := chk_some hm
            refine rw_iald (pc := 127) 3 rfl hk12 (rx_dt dt_Writer_giveCodes 85 rfl) ?_
            obtain ⟨hk13, hm⟩ := chk_some hm
            obtain ⟨p6, hp6, hm⟩ := nm_some hm
            refine rw_iast (pc := 128) (ws' := [ia Z a_p1 n_p1 p1, ia Z a_p2 n_p2 p6, ob a_t 10 [.ref a_t_came, .int t_bitCount, .ref a_t_literalCode, .ref a_t_distanceCode, .ref a_t_lengthCode, .ref a_t_next], ia Z a_t_next 17 t_next11]) 1 rfl hk13 (by rw [← hp6]; rfl) (rx_dt dt_Writer_giveCodes 86 rfl) ?_
            refine rw_aload_n (pc := 129) 0 rfl rfl (rx_dt dt_Writer_giveCodes 87 rfl) ?_
            refine rw_get fa_Writer_28 (pc := 130) 2 rfl rfl (rx_dt dt_Writer_giveCodes 88 rfl) ?_
            refine rw_aload_n (pc := 133) 1 rfl rfl (rx_dt dt_Writer_giveCodes 89 rfl) ?_
            refine rw_iload_n (pc := 134) 3 rfl rfl (rx_dt dt_Writer_giveCodes 90 rfl) ?_
            obtain ⟨hk14, hm⟩ := chk_some hm
            refine rw_iald (pc := 135) 0 rfl hk14 (rx_dt dt_Writer_giveCodes 91 rfl) ?_
            refine rw_dup2 (pc := 136) rfl rfl (rx_dt dt_Writer_giveCodes 92 rfl) ?_
            obtain ⟨hk15, hm⟩ := chk_some hm
            refine rw_iald (pc := 137) 3 rfl hk15 (rx_dt dt_Writer_giveCodes 93 rfl) ?_
            refine rw_iconst (pc := 138) (v := 1) rfl (rx_dt dt_Writer_giveCodes 94 rfl) ?_
            refine rw_iadd (pc := 139) (rx_dt dt_Writer_giveCodes 95 rfl) ?_
            obtain ⟨hk16, hm⟩ := chk_some hm
            obtain ⟨t_next14, ht_next14, hm⟩ := nm_some hm
            refine rw_iast (pc := 140) (ws' := [ia Z a_p1 n_p1 p1, ia Z a_p2 n_p2 p6, ob a_t 10 [.ref a_t_came, .int t_bitCount, .ref a_t_literalCode, .ref a_t_distanceCode, .ref a_t_lengthCode, .ref a_t_next], ia Z a_t_next 17 t_next14]) 3 rfl hk16 (by rw [← ht_next14]; rfl) (rx_dt dt_Writer_giveCodes 96 rfl) ?_
            cases hm
            exact KJ
set_option maxRecDepth 100000 in
set_option maxHeartbeats 4000000 in
theorem w_Writer_giveCodes (l : Launch) (Z : rx_D) (mc ms : Nat) (post : Option Value → va_W → Prop) (k n : Nat) (F : Nat) (a_p1 a_p2 a_t a_t_came a_t_distanceCode a_t_lengthCode a_t_literalCode a_t_next n_p1 n_p2 : Nat) (p1 p2 : Nat → Int32) (t_bitCount : Int32) (t_next : Nat → Int32) (o_p2 o_t_next : Nat → Int32) (hm : m_Writer_giveCodes F n_p1 n_p2 p1 p2 t_next = some (o_p2, o_t_next)) (hp : post none [ia Z a_p1 n_p1 p1, ia Z a_p2 n_p2 o_p2, ob a_t 10 [.ref a_t_came, .int t_bitCount, .ref a_t_literalCode, .ref a_t_distanceCode, .ref a_t_lengthCode, .ref a_t_next], ia Z a_t_next 17 o_t_next]) : J_Writer_giveCodes l Z mc ms post k n [ia Z a_p1 n_p1 p1, ia Z a_p2 n_p2 p2, ob a_t 10 [.ref a_t_came, .int t_bitCount, .ref a_t_literalCode, .ref a_t_distanceCode, .ref a_t_lengthCode, .ref a_t_next], ia Z a_t_next 17 t_next] [(0, .ref a_t), (1, .ref a_p1), (2, .ref a_p2)] 0 [] := by
  unfold m_Writer_giveCodes at hm
  refine rw_aload_n (pc := 0) 0 rfl rfl (rx_dt dt_Writer_giveCodes 0 rfl) ?_
  refine rw_get fa_Writer_28 (pc := 1) 2 rfl rfl (rx_dt dt_Writer_giveCodes 1 rfl) ?_
  refine rw_iconst (pc := 4) (v := 0) rfl (rx_dt dt_Writer_giveCodes 2 rfl) ?_
  obtain ⟨t_next1, hq, hm⟩ := bnd1_some hm
  refine rw_callS cw_JA_fill2 lk_Writer_31 cs_JA_fill2 (c_JA_fill2 l Z F (a_p0 := a_t_next) (n_p0 := 17) (p0 := t_next) (x1 := (0 : Int32)) (o_p0 := t_next1) hq) [3] [0, 1, 2] rfl rfl rfl rfl (by decide) rfl (by decide) (fun h => h) (rest := []) (wr := [ia Z a_p1 n_p1 p1, ia Z a_p2 n_p2 p2, ob a_t 10 [.ref a_t_came, .int t_bitCount, .ref a_t_literalCode, .ref a_t_distanceCode, .ref a_t_lengthCode, .ref a_t_next]]) (Nat.le_of_ble_eq_true rfl) rfl (rx_dt dt_Writer_giveCodes 3 rfl) (pc := 5) ?_
  rintro _ _ ⟨rfl, rfl⟩
  show J_Writer_giveCodes l Z mc ms post k n [ia Z a_p1 n_p1 p1, ia Z a_p2 n_p2 p2, ob a_t 10 [.ref a_t_came, .int t_bitCount, .ref a_t_literalCode, .ref a_t_distanceCode, .ref a_t_lengthCode, .ref a_t_next], ia Z a_t_next 17 t_next1] [(0, .ref a_t), (1, .ref a_p1), (2, .ref a_p2)] 8 []
  refine rw_iconst (pc := 8) (v := 0) rfl (rx_dt dt_Writer_giveCodes 4 rfl) ?_
  refine rw_istore_n (pc := 9) (lv' := [(3, .int (0 : Int32)), (0, .ref a_t), (1, .ref a_p1), (2, .ref a_p2)]) rfl (by decide) rfl (rx_dt dt_Writer_giveCodes 5 rfl) ?_
  obtain ⟨v3_3, t_next6, hl, hm⟩ := bnd2_some hm
  refine rw_perm (lv' := [(0, .ref a_t), (1, .ref a_p1), (2, .ref a_p2), (3, .int (0 : Int32))]) (ws' := [ia Z a_p1 n_p1 p1, ia Z a_p2 n_p2 p2, ob a_t 10 [.ref a_t_came, .int t_bitCount, .ref a_t_literalCode, .ref a_t_distanceCode, .ref a_t_lengthCode, .ref a_t_next], ia Z a_t_next 17 t_next1]) [1, 2, 3, 0] [0, 1, 2, 3] rfl rfl rfl ?_
  refine wl_Writer_giveCodes_10 l Z mc ms post k n F a_p1 a_p2 a_t a_t_came a_t_distanceCode a_t_lengthCode a_t_literalCode a_t_next n_p1 n_p2 p1 p2 t_bitCount F  (0 : Int32) t_next1 v3_3 t_next6 hl ?_
  refine rw_iconst (pc := 50) (v := 1) rfl (rx_dt dt_Writer_giveCodes 33 rfl) ?_
  refine rw_istore_n (pc := 51) (lv' := [(3, .int (1 : Int32)), (0, .ref a_t), (1, .ref a_p1), (2, .ref a_p2)]) rfl (by decide) rfl (rx_dt dt_Writer_giveCodes 34 rfl) ?_
  obtain ⟨v3_6, t_next10, hl, hm⟩ := bnd2_some hm
  refine rw_perm (lv' := [(0, .ref a_t), (1, .ref a_p1), (2, .ref a_p2), (3, .int (1 : Int32))]) (ws' := [ia Z a_p1 n_p1 p1, ia Z a_p2 n_p2 p2, ob a_t 10 [.ref a_t_came, .int t_bitCount, .ref a_t_literalCode, .ref a_t_distanceCode, .ref a_t_lengthCode, .ref a_t_next], ia Z a_t_next 17 t_next6]) [1, 2, 3, 0] [0, 1, 2, 3] rfl rfl rfl ?_
  refine wl_Writer_giveCodes_52 l Z mc ms post k n F a_p1 a_p2 a_t a_t_came a_t_distanceCode a_t_lengthCode a_t_literalCode a_t_next n_p1 n_p2 p1 p2 t_bitCount F  (1 : Int32) t_next6 v3_6 t_next10 hl ?_
  refine rw_iconst (pc := 90) (v := 0) rfl (rx_dt dt_Writer_giveCodes 59 rfl) ?_
  refine rw_istore_n (pc := 91) (lv' := [(3, .int (0 : Int32)), (0, .ref a_t), (1, .ref a_p1), (2, .ref a_p2)]) rfl (by decide) rfl (rx_dt dt_Writer_giveCodes 60 rfl) ?_
  obtain ⟨v3_9, p7, t_next15, hl, hm⟩ := bnd3_some hm
  refine rw_perm (lv' := [(0, .ref a_t), (1, .ref a_p1), (2, .ref a_p2), (3, .int (0 : Int32))]) (ws' := [ia Z a_p1 n_p1 p1, ia Z a_p2 n_p2 p2, ob a_t 10 [.ref a_t_came, .int t_bitCount, .ref a_t_literalCode, .ref a_t_distanceCode, .ref a_t_lengthCode, .ref a_t_next], ia Z a_t_next 17 t_next10]) [1, 2, 3, 0] [0, 1, 2, 3] rfl rfl rfl ?_
  refine wl_Writer_giveCodes_92 l Z mc ms post k n F a_p1 a_p2 a_t a_t_came a_t_distanceCode a_t_lengthCode a_t_literalCode a_t_next n_p1 n_p2 p1 t_bitCount F  (0 : Int32) p2 t_next10 v3_9 p7 t_next15 hl ?_
  cases hm
  exact rw_vret (pc := 147) (rx_dt dt_Writer_giveCodes 99 rfl) hp
theorem c_Writer_giveCodes (l : Launch) (Z : rx_D) (F : Nat) (a_p1 a_p2 a_t a_t_came a_t_distanceCode a_t_lengthCode a_t_literalCode a_t_next n_p1 n_p2 : Nat) (p1 p2 : Nat → Int32) (t_bitCount : Int32) (t_next : Nat → Int32) (o_p2 o_t_next : Nat → Int32) (hm : m_Writer_giveCodes F n_p1 n_p2 p1 p2 t_next = some (o_p2, o_t_next)) : Cn l Z y_Writer_giveCodes b_Writer_giveCodes 4 none 1 [.ref a_t, .ref a_p1, .ref a_p2] [ia Z a_p1 n_p1 p1, ia Z a_p2 n_p2 p2, ob a_t 10 [.ref a_t_came, .int t_bitCount, .ref a_t_literalCode, .ref a_t_distanceCode, .ref a_t_lengthCode, .ref a_t_next], ia Z a_t_next 17 t_next] 0 0 (fun r w => r = none ∧ w = [ia Z a_p1 n_p1 p1, ia Z a_p2 n_p2 o_p2, ob a_t 10 [.ref a_t_came, .int t_bitCount, .ref a_t_literalCode, .ref a_t_distanceCode, .ref a_t_lengthCode, .ref a_t_next], ia Z a_t_next 17 o_t_next]) :=
  rx_met "DeflateEffort$Writer" "giveCodes" mf_Writer_giveCodes (Nat.le_of_ble_eq_true rfl) rfl (by rintro _ _ ⟨h9, _⟩; cases h9) (w_Writer_giveCodes l Z 0 0 _ 0 0 F a_p1 a_p2 a_t a_t_came a_t_distanceCode a_t_lengthCode a_t_literalCode a_t_next n_p1 n_p2 p1 p2 t_bitCount t_next o_p2 o_t_next hm ⟨rfl, rfl⟩)
abbrev J_Writer_putRow (l : Launch) (Z : rx_D) (mc ms : Nat) (post : Option Value → va_W → Prop) := Rw l Z "DeflateEffort$Writer" "putRow" b_Writer_putRow 4 none 2 mc ms post
set_option maxRecDepth 100000 in
set_option maxHeartbeats 4000000 in
theorem wl_Writer_putRow_39 (l : Launch) (Z : rx_D) (mc ms : Nat) (post : Option Value → va_W → Prop) (k n : Nat) (F : Nat) (a_p1 a_p1_code a_p1_code_count a_p1_code_length a_p1_row a_t a_t_came a_t_distanceCode a_t_lengthCode a_t_literalCode a_t_next : Nat) (p1_code_length : Nat → Int32) (p1_distances p1_literals : Int32) (p1_row : Nat → Int32) (p1_size p1_toldOfCode : Int32) (t_lengthCode : Nat → Int32) : ∀ (f : Nat)  (v2_1 t_bitCount_4 : Int32) (t_came4 : Nat → Int32) (v2_2 t_bitCount_5 : Int32) (t_came5 : Nat → Int32), L_Writer_putRow_39 F p1_code_length p1_toldOfCode f v2_1 t_bitCount_4 t_came4 = some (v2_2, t_bitCount_5, t_came5) → (J_Writer_putRow l Z mc ms post k n [ob a_p1 5 [.ref a_p1_code, .ref a_p1_row, .int p1_size, .int p1_literals, .int p1_distances, .int p1_toldOfCode], ob a_p1_code 1 [.ref a_p1_code_count, .ref a_p1_code_length], ia Z a_p1_code_length 19 p1_code_length, ia Z a_p1_row 316 p1_row, ob a_t 10 [.ref a_t_came, .int t_bitCount_5, .ref a_t_literalCode, .ref a_t_distanceCode, .ref a_t_lengthCode, .ref a_t_next], ia Z a_t_came 518 t_came5, ia Z a_t_lengthCode 19 t_lengthCode] [(0, .ref a_t), (1, .ref a_p1)] 77 []) → J_Writer_putRow l Z mc ms post k n [ob a_p1 5 [.ref a_p1_code, .ref a_p1_row, .int p1_size, .int p1_literals, .int p1_distances, .int p1_toldOfCode], ob a_p1_code 1 [.ref a_p1_code_count, .ref a_p1_code_length], ia Z a_p1_code_length 19 p1_code_length, ia Z a_p1_row 316 p1_row, ob a_t 10 [.ref a_t_came, .int t_bitCount_4, .ref a_t_literalCode, .ref a_t_distanceCode, .ref a_t_lengthCode, .ref a_t_next], ia Z a_t_came 518 t_came4, ia Z a_t_lengthCode 19 t_lengthCode] [(0, .ref a_t), (1, .ref a_p1), (2, .int v2_1)] 39 [] := by
  intro f
  induction f with
  | zero =>
    intro v2_1 t_bitCount_4 t_came4 v2_2 t_bitCount_5 t_came5 hm K
    cases hm
  | succ f ih =>
    intro v2_1 t_bitCount_4 t_came4 v2_2 t_bitCount_5 t_came5 hm K
    have hm : B_Writer_putRow_39 F p1_code_length p1_toldOfCode (L_Writer_putRow_39 F p1_code_length p1_toldOfCode f) v2_1 t_bitCount_4 t_came4 = some (v2_2, t_bitCount_5, t_came5) := hm
    unfold B_Writer_putRow_39 at hm
    refine rw_iload_n (pc := 39) 2 rfl rfl (rx_dt dt_Writer_putRow 25 rfl) ?_
    refine rw_aload_n (pc := 40) 1 rfl rfl (rx_dt dt_Writer_putRow 26 rfl) ?_
    refine rw_get fa_Writer_100 (pc := 41) 0 rfl rfl (rx_dt dt_Writer_putRow 27 rfl) ?_
    rcases ite_some hm with ⟨hc, hm⟩ | ⟨hc, hm⟩
    · refine rw_icmp_ge_t (pc := 44) (tgt := 77) hc (by decide) (rx_dt dt_Writer_putRow 28 rfl) ?_
      refine rw_perm (lv' := [(0, .ref a_t), (1, .ref a_p1)]) (ws' := [ob a_p1 5 [.ref a_p1_code, .ref a_p1_row, .int p1_size, .int p1_literals, .int p1_distances, .int p1_toldOfCode], ob a_p1_code 1 [.ref a_p1_code_count, .ref a_p1_code_length], ia Z a_p1_code_length 19 p1_code_length, ia Z a_p1_row 316 p1_row, ob a_t 10 [.ref a_t_came, .int t_bitCount_4, .ref a_t_literalCode, .ref a_t_distanceCode, .ref a_t_lengthCode, .ref a_t_next], ia Z a_t_came 518 t_came4, ia Z a_t_lengthCode 19 t_lengthCode]) [0, 1] [0, 1, 2, 3, 4, 5, 6] rfl rfl rfl ?_
      cases hm
      exact K
    · refine rw_icmp_ge_f (pc := 44) (tgt := 77) hc (by decide) (rx_dt dt_Writer_putRow 28 rfl) ?_
      refine rw_iload_n (pc := 47) 2 rfl rfl (rx_dt dt_Writer_putRow 29 rfl) ?_
      refine rw_bipush (pc := 48) (v := 19) (by decide) (rx_dt dt_Writer_putRow 30 rfl) ?_
      rcases ite_some hm with ⟨hc, hm⟩ | ⟨hc, hm⟩
      · refine rw_icmp_ge_t (pc := 50) (tgt := 77) hc (by decide) (rx_dt dt_Writer_putRow 31 rfl) ?_
        refine rw_perm (lv' := [(0, .ref a_t), (1, .ref a_p1)]) (ws' := [ob a_p1 5 [.ref a_p1_code, .ref a_p1_row, .int p1_size, .int p1_literals, .int p1_distances, .int p1_toldOfCode], ob a_p1_code 1 [.ref a_p1_code_count, .ref a_p1_code_length], ia Z a_p1_code_length 19 p1_code_length, ia Z a_p1_row 316 p1_row, ob a_t 10 [.ref a_t_came, .int t_bitCount_4, .ref a_t_literalCode, .ref a_t_distanceCode, .ref a_t_lengthCode, .ref a_t_next], ia Z a_t_came 518 t_came4, ia Z a_t_lengthCode 19 t_lengthCode]) [0, 1] [0, 1, 2, 3, 4, 5, 6] rfl rfl rfl ?_
        cases hm
        exact K
      · refine rw_icmp_ge_f (pc := 50) (tgt := 77) hc (by decide) (rx_dt dt_Writer_putRow 31 rfl) ?_
        refine rw_aload_n (pc := 53) 0 rfl rfl (rx_dt dt_Writer_putRow 32 rfl) ?_
        refine rw_aload_n (pc := 54) 1 rfl rfl (rx_dt dt_Writer_putRow 33 rfl) ?_
        refine rw_get fa_Writer_66 (pc := 55) 0 rfl rfl (rx_dt dt_Writer_putRow 34 rfl) ?_
        refine rw_get fa_Writer_54 (pc := 58) 1 rfl rfl (rx_dt dt_Writer_putRow 35 rfl) ?_
        refine rw_tab sa_Writer_103 (pc := 61) (rx_dt dt_Writer_putRow 36 rfl) ?_
        refine rw_iload_n (pc := 64) 2 rfl rfl (rx_dt dt_Writer_putRow 37 rfl) ?_
        obtain ⟨hk1, hm⟩ := chk_some hm
        refine rw_tld (pc := 65) (by decide) hk1 (rx_dt dt_Writer_putRow 38 rfl) ?_
        obtain ⟨hk2, hm⟩ := chk_some hm
        refine rw_iald (pc := 66) 2 rfl hk2 (rx_dt dt_Writer_putRow 39 rfl) ?_
        refine rw_iconst (pc := 67) (v := 3) rfl (rx_dt dt_Writer_putRow 40 rfl) ?_
        obtain ⟨t_bitCount_6, t_came6, hq, hm⟩ := bnd2_some hm
        refine rw_callV cw_Writer_putBits lk_Writer_41 ci_Writer_putBits rfl (q := 4) rfl (c_Writer_putBits l Z F (a_t := a_t) (a_t_came := a_t_came) (a_t_distanceCode := a_t_distanceCode) (a_t_lengthCode := a_t_lengthCode) (a_t_literalCode := a_t_literalCode) (a_t_next := a_t_next) (t_bitCount := t_bitCount_4) (t_came := t_came4) (x1 := p1_code_length (tb 4 v2_1.toNatClampNeg).toNatClampNeg) (x2 := (3 : Int32)) (o_t_bitCount := t_bitCount_6) (o_t_came := t_came6) hq) [4, 5] [0, 1, 2, 3, 6] rfl rfl rfl rfl (by decide) rfl (by decide) (fun h => h) (rest := []) (wr := [ob a_p1 5 [.ref a_p1_code, .ref a_p1_row, .int p1_size, .int p1_literals, .int p1_distances, .int p1_toldOfCode], ob a_p1_code 1 [.ref a_p1_code_count, .ref a_p1_code_length], ia Z a_p1_code_length 19 p1_code_length, ia Z a_p1_row 316 p1_row, ia Z a_t_lengthCode 19 t_lengthCode]) (Nat.le_of_ble_eq_true rfl) rfl (rx_dt dt_Writer_putRow 41 rfl) (pc := 68) ?_
        rintro _ _ ⟨rfl, rfl⟩
        show J_Writer_putRow l Z mc ms post k n [ob a_p1 5 [.ref a_p1_code, .ref a_p1_row, .int p1_size, .int p1_literals, .int p1_distances, .int p1_toldOfCode], ob a_p1_code 1 [.ref a_p1_code_count, .ref a_p1_code_length], ia Z a_p1_code_length 19 p1_code_length, ia Z a_p1_row 316 p1_row, ia Z a_t_lengthCode 19 t_lengthCode, ob a_t 10 [.ref a_t_came, .int t_bitCount_6, .ref a_t_literalCode, .ref a_t_distanceCode, .ref a_t_lengthCode, .ref a_t_next], ia Z a_t_came 518 t_came6] [(0, .ref a_t), (1, .ref a_p1), (2, .int v2_1)] 71 []
        obtain ⟨y1, hy1, hm⟩ := nm_some hm
        refine rw_iinc (pc := 71) (lv' := [(2, .int y1), (0, .ref a_t), (1, .ref a_p1)]) 2 rfl hy1 (by decide) rfl (rx_dt dt_Writer_putRow 42 rfl) ?_
        refine rw_goto (pc := 74) (tgt := 39) (by decide) (rx_dt dt_Writer_putRow 43 rfl) ?_
        refine rw_perm (lv' := [(0, .ref a_t), (1, .ref a_p1), (2, .int y1)]) (ws' := [ob a_p1 5 [.ref a_p1_code, .ref a_p1_row, .int p1_size, .int p1_literals, .int p1_distances, .int p1_toldOfCode], ob a_p1_code 1 [.ref a_p1_code_count, .ref a_p1_code_length], ia Z a_p1_code_length 19 p1_code_length, ia Z a_p1_row 316 p1_row, ob a_t 10 [.ref a_t_came, .int t_bitCount_6, .ref a_t_literalCode, .ref a_t_distanceCode, .ref a_t_lengthCode, .ref a_t_next], ia Z a_t_came 518 t_came6, ia Z a_t_lengthCode 19 t_lengthCode]) [1, 2, 0] [0, 1, 2, 3, 5, 6, 4] rfl rfl rfl ?_
        exact ih  _ _ _ _ _ _ hm K
set_option maxRecDepth 100000 in
set_option maxHeartbeats 4000000 in
theorem wl_Writer_putRow_79 (l : Launch) (Z : rx_D) (mc ms : Nat) (post : Option Value → va_W → Prop) (k n : Nat) (F : Nat) (a_p1 a_p1_code a_p1_code_count a_p1_code_length a_p1_row a_t a_t_came a_t_distanceCode a_t_lengthCode a_t_literalCode a_t_next : Nat) (p1_code_length : Nat → Int32) (p1_distances p1_literals : Int32) (p1_row : Nat → Int32) (p1_size p1_toldOfCode : Int32) (t_lengthCode : Nat → Int32) : ∀ (f : Nat)  (v2_4 t_bitCount_8 : Int32) (t_came8 : Nat → Int32) (v2_5 t_bitCount_9 : Int32) (t_came9 : Nat → Int32), L_Writer_putRow_79 F p1_code_length p1_row p1_size t_lengthCode f v2_4 t_bitCount_8 t_came8 = some (v2_5, t_bitCount_9, t_came9) → (J_Writer_putRow l Z mc ms post k n [ob a_p1 5 [.ref a_p1_code, .ref a_p1_row, .int p1_size, .int p1_literals, .int p1_distances, .int p1_toldOfCode], ob a_p1_code 1 [.ref a_p1_code_count, .ref a_p1_code_length], ia Z a_p1_code_length 19 p1_code_length, ia Z a_p1_row 316 p1_row, ob a_t 10 [.ref a_t_came, .int t_bitCount_9, .ref a_t_literalCode, .ref a_t_distanceCode, .ref a_t_lengthCode, .ref a_t_next], ia Z a_t_came 518 t_came9, ia Z a_t_lengthCode 19 t_lengthCode] [] 131 []) → J_Writer_putRow l Z mc ms post k n [ob a_p1 5 [.ref a_p1_code, .ref a_p1_row, .int p1_size, .int p1_literals, .int p1_distances, .int p1_toldOfCode], ob a_p1_code 1 [.ref a_p1_code_count, .ref a_p1_code_length], ia Z a_p1_code_length 19 p1_code_length, ia Z a_p1_row 316 p1_row, ob a_t 10 [.ref a_t_came, .int t_bitCount_8, .ref a_t_literalCode, .ref a_t_distanceCode, .ref a_t_lengthCode, .ref a_t_next], ia Z a_t_came 518 t_came8, ia Z a_t_lengthCode 19 t_lengthCode] [(0, .ref a_t), (1, .ref a_p1), (2, .int v2_4)] 79 [] := by
  intro f
  induction f with
  | zero =>
    intro v2_4 t_bitCount_8 t_came8 v2_5 t_bitCount_9 t_came9 hm K
    cases hm
  | succ f ih =>
    intro v2_4 t_bitCount_8 t_came8 v2_5 t_bitCount_9 t_came9 hm K
    have hm : B_Writer_putRow_79 F p1_code_length p1_row p1_size t_lengthCode (L_Writer_putRow_79 F p1_code_length p1_row p1_size t_lengthCode f) v2_4 t_bitCount_8 t_came8 = some (v2_5, t_bitCount_9, t_came9) := hm
    unfold B_Writer_putRow_79 at hm
    refine rw_iload_n (pc := 79) 2 rfl rfl (rx_dt dt_Writer_putRow 46 rfl) ?_
    refine rw_aload_n (pc := 80) 1 rfl rfl (rx_dt dt_Writer_putRow 47 rfl) ?_
    refine rw_get fa_Writer_106 (pc := 81) 0 rfl rfl (rx_dt dt_Writer_putRow 48 rfl) ?_
    rcases ite_some hm with ⟨hc, hm⟩ | ⟨hc, hm⟩
    · refine rw_icmp_ge_t (pc := 84) (tgt := 131) hc (by decide) (rx_dt dt_Writer_putRow 49 rfl) ?_
      refine rw_perm (lv' := []) (ws' := [ob a_p1 5 [.ref a_p1_code, .ref a_p1_row, .int p1_size, .int p1_literals, .int p1_distances, .int p1_toldOfCode], ob a_p1_code 1 [.ref a_p1_code_count, .ref a_p1_code_length], ia Z a_p1_code_length 19 p1_code_length, ia Z a_p1_row 316 p1_row, ob a_t 10 [.ref a_t_came, .int t_bitCount_8, .ref a_t_literalCode, .ref a_t_distanceCode, .ref a_t_lengthCode, .ref a_t_next], ia Z a_t_came 518 t_came8, ia Z a_t_lengthCode 19 t_lengthCode]) [] [0, 1, 2, 3, 4, 5, 6] rfl rfl rfl ?_
      cases hm
      exact K
    · refine rw_icmp_ge_f (pc := 84) (tgt := 131) hc (by decide) (rx_dt dt_Writer_putRow 49 rfl) ?_
      refine rw_aload_n (pc := 87) 1 rfl rfl (rx_dt dt_Writer_putRow 50 rfl) ?_
      refine rw_iload_n (pc := 88) 2 rfl rfl (rx_dt dt_Writer_putRow 51 rfl) ?_
      obtain ⟨r1, hq, hm⟩ := bnd1_some hm
      refine rw_callV cw_LengthRow_symbolAt lk_Writer_107 ci_LengthRow_symbolAt rfl (q := 0) rfl (c_LengthRow_symbolAt l Z F (a_t := a_p1) (a_t_code := a_p1_code) (a_t_row := a_p1_row) (t_distances := p1_distances) (t_literals := p1_literals) (t_row := p1_row) (t_size := p1_size) (t_toldOfCode := p1_toldOfCode) (x1 := v2_4) (r0 := r1) hq) [0, 3] [1, 2, 4, 5, 6] rfl rfl rfl rfl (by decide) rfl (by decide) (fun h => h) (rest := []) (wr := [ob a_p1_code 1 [.ref a_p1_code_count, .ref a_p1_code_length], ia Z a_p1_code_length 19 p1_code_length, ob a_t 10 [.ref a_t_came, .int t_bitCount_8, .ref a_t_literalCode, .ref a_t_distanceCode, .ref a_t_lengthCode, .ref a_t_next], ia Z a_t_came 518 t_came8, ia Z a_t_lengthCode 19 t_lengthCode]) (Nat.le_of_ble_eq_true rfl) rfl (rx_dt dt_Writer_putRow 52 rfl) (pc := 89) ?_
      rintro _ _ ⟨rfl, rfl⟩
      show J_Writer_putRow l Z mc ms post k n [ob a_p1_code 1 [.ref a_p1_code_count, .ref a_p1_code_length], ia Z a_p1_code_length 19 p1_code_length, ob a_t 10 [.ref a_t_came, .int t_bitCount_8, .ref a_t_literalCode, .ref a_t_distanceCode, .ref a_t_lengthCode, .ref a_t_next], ia Z a_t_came 518 t_came8, ia Z a_t_lengthCode 19 t_lengthCode, ob a_p1 5 [.ref a_p1_code, .ref a_p1_row, .int p1_size, .int p1_literals, .int p1_distances, .int p1_toldOfCode], ia Z a_p1_row 316 p1_row] [(0, .ref a_t), (1, .ref a_p1), (2, .int v2_4)] 92 [.int r1]
      refine rw_istore_n (pc := 92) (lv' := [(3, .int r1), (0, .ref a_t), (1, .ref a_p1), (2, .int v2_4)]) rfl (by decide) rfl (rx_dt dt_Writer_putRow 53 rfl) ?_
      refine rw_aload_n (pc := 93) 1 rfl rfl (rx_dt dt_Writer_putRow 54 rfl) ?_
      refine rw_aload_n (pc := 94) 1 rfl rfl (rx_dt dt_Writer_putRow 55 rfl) ?_
      refine rw_get fa_Writer_25 (pc := 95) 2 rfl rfl (rx_dt dt_Writer_putRow 56 rfl) ?_
      refine rw_iload_n (pc := 98) 0 rfl rfl (rx_dt dt_Writer_putRow 57 rfl) ?_
      obtain ⟨hk3, hm⟩ := chk_some hm
      refine rw_iald (pc := 99) 4 rfl hk3 (rx_dt dt_Writer_putRow 58 rfl) ?_
      refine rw_aload_n (pc := 100) 2 rfl rfl (rx_dt dt_Writer_putRow 59 rfl) ?_
      refine rw_get fa_Writer_66 (pc := 101) 5 rfl rfl (rx_dt dt_Writer_putRow 60 rfl) ?_
      refine rw_get fa_Writer_54 (pc := 104) 0 rfl rfl (rx_dt dt_Writer_putRow 61 rfl) ?_
      refine rw_iload_n (pc := 107) 0 rfl rfl (rx_dt dt_Writer_putRow 62 rfl) ?_
      obtain ⟨hk4, hm⟩ := chk_some hm
      refine rw_iald (pc := 108) 1 rfl hk4 (rx_dt dt_Writer_putRow 63 rfl) ?_
      obtain ⟨t_bitCount_10, t_came10, hq, hm⟩ := bnd2_some hm
      refine rw_callV cw_Writer_putCode lk_Writer_110 ci_Writer_putCode rfl (q := 2) rfl (c_Writer_putCode l Z F (a_t := a_t) (a_t_came := a_t_came) (a_t_distanceCode := a_t_distanceCode) (a_t_lengthCode := a_t_lengthCode) (a_t_literalCode := a_t_literalCode) (a_t_next := a_t_next) (t_bitCount := t_bitCount_8) (t_came := t_came8) (x1 := t_lengthCode r1.toNatClampNeg) (x2 := p1_code_length r1.toNatClampNeg) (o_t_bitCount := t_bitCount_10) (o_t_came := t_came10) hq) [2, 3] [0, 1, 4, 5, 6] rfl rfl rfl rfl (by decide) rfl (by decide) (fun h => h) (rest := []) (wr := [ob a_p1_code 1 [.ref a_p1_code_count, .ref a_p1_code_length], ia Z a_p1_code_length 19 p1_code_length, ia Z a_t_lengthCode 19 t_lengthCode, ob a_p1 5 [.ref a_p1_code, .ref a_p1_row, .int p1_size, .int p1_literals, .int p1_distances, .int p1_toldOfCode], ia Z a_p1_row 316 p1_row]) (Nat.le_of_ble_eq_true rfl) rfl (rx_dt dt_Writer_putRow 64 rfl) (pc := 109) ?_
      rintro _ _ ⟨rfl, rfl⟩
      show J_Writer_putRow l Z mc ms post k n [ob a_p1_code 1 [.ref a_p1_code_count, .ref a_p1_code_length], ia Z a_p1_code_length 19 p1_code_length, ia Z a_t_lengthCode 19 t_lengthCode, ob a_p1 5 [.ref a_p1_code, .ref a_p1_row, .int p1_size, .int p1_literals, .int p1_distances, .int p1_toldOfCode], ia Z a_p1_row 316 p1_row, ob a_t 10 [.ref a_t_came, .int t_bitCount_10, .ref a_t_literalCode, .ref a_t_distanceCode, .ref a_t_lengthCode, .ref a_t_next], ia Z a_t_came 518 t_came10] [(3, .int r1), (0, .ref a_t), (1, .ref a_p1), (2, .int v2_4)] 112 []
      refine rw_aload_n (pc := 112) 1 rfl rfl (rx_dt dt_Writer_putRow 65 rfl) ?_
      refine rw_aload_n (pc := 113) 2 rfl rfl (rx_dt dt_Writer_putRow 66 rfl) ?_
      refine rw_iload_n (pc := 114) 3 rfl rfl (rx_dt dt_Writer_putRow 67 rfl) ?_
      obtain ⟨r2, hq, hm⟩ := bnd1_some hm
      refine rw_callV cw_LengthRow_extraAt lk_Writer_113 ci_LengthRow_extraAt rfl (q := 3) rfl (c_LengthRow_extraAt l Z F (a_t := a_p1) (a_t_code := a_p1_code) (a_t_row := a_p1_row) (t_distances := p1_distances) (t_literals := p1_literals) (t_row := p1_row) (t_size := p1_size) (t_toldOfCode := p1_toldOfCode) (x1 := v2_4) (r0 := r2) hq) [3, 4] [0, 1, 2, 5, 6] rfl rfl rfl rfl (by decide) rfl (by decide) (fun h => h) (rest := [.ref a_t]) (wr := [ob a_p1_code 1 [.ref a_p1_code_count, .ref a_p1_code_length], ia Z a_p1_code_length 19 p1_code_length, ia Z a_t_lengthCode 19 t_lengthCode, ob a_t 10 [.ref a_t_came, .int t_bitCount_10, .ref a_t_literalCode, .ref a_t_distanceCode, .ref a_t_lengthCode, .ref a_t_next], ia Z a_t_came 518 t_came10]) (Nat.le_of_ble_eq_true rfl) rfl (rx_dt dt_Writer_putRow 68 rfl) (pc := 115) ?_
      rintro _ _ ⟨rfl, rfl⟩
      show J_Writer_putRow l Z mc ms post k n [ob a_p1_code 1 [.ref a_p1_code_count, .ref a_p1_code_length], ia Z a_p1_code_length 19 p1_code_length, ia Z a_t_lengthCode 19 t_lengthCode, ob a_t 10 [.ref a_t_came, .int t_bitCount_10, .ref a_t_literalCode, .ref a_t_distanceCode, .ref a_t_lengthCode, .ref a_t_next], ia Z a_t_came 518 t_came10, ob a_p1 5 [.ref a_p1_code, .ref a_p1_row, .int p1_size, .int p1_literals, .int p1_distances, .int p1_toldOfCode], ia Z a_p1_row 316 p1_row] [(3, .int r1), (0, .ref a_t), (1, .ref a_p1), (2, .int v2_4)] 118 [.int r2, .ref a_t]
      refine rw_iload_n (pc := 118) 0 rfl rfl (rx_dt dt_Writer_putRow 69 rfl) ?_
      obtain ⟨r3, hq, hm⟩ := bnd1_some hm
      refine rw_callS cw_DE_repeatExtra lk_Writer_116 cs_DE_repeatExtra (c_DE_repeatExtra l Z F (x0 := r1) (r0 := r3) hq) [] [0, 1, 2, 3, 4, 5, 6] rfl rfl rfl rfl (by decide) rfl (by decide) (fun h => h) (rest := [.int r2, .ref a_t]) (wr := [ob a_p1_code 1 [.ref a_p1_code_count, .ref a_p1_code_length], ia Z a_p1_code_length 19 p1_code_length, ia Z a_t_lengthCode 19 t_lengthCode, ob a_t 10 [.ref a_t_came, .int t_bitCount_10, .ref a_t_literalCode, .ref a_t_distanceCode, .ref a_t_lengthCode, .ref a_t_next], ia Z a_t_came 518 t_came10, ob a_p1 5 [.ref a_p1_code, .ref a_p1_row, .int p1_size, .int p1_literals, .int p1_distances, .int p1_toldOfCode], ia Z a_p1_row 316 p1_row]) (Nat.le_of_ble_eq_true rfl) rfl (rx_dt dt_Writer_putRow 70 rfl) (pc := 119) ?_
      rintro _ _ ⟨rfl, rfl⟩
      show J_Writer_putRow l Z mc ms post k n [ob a_p1_code 1 [.ref a_p1_code_count, .ref a_p1_code_length], ia Z a_p1_code_length 19 p1_code_length, ia Z a_t_lengthCode 19 t_lengthCode, ob a_t 10 [.ref a_t_came, .int t_bitCount_10, .ref a_t_literalCode, .ref a_t_distanceCode, .ref a_t_lengthCode, .ref a_t_next], ia Z a_t_came 518 t_came10, ob a_p1 5 [.ref a_p1_code, .ref a_p1_row, .int p1_size, .int p1_literals, .int p1_distances, .int p1_toldOfCode], ia Z a_p1_row 316 p1_row] [(3, .int r1), (0, .ref a_t), (1, .ref a_p1), (2, .int v2_4)] 122 [.int r3, .int r2, .ref a_t]
      obtain ⟨t_bitCount_11, t_came11, hq, hm⟩ := bnd2_some hm
      refine rw_callV cw_Writer_putBits lk_Writer_41 ci_Writer_putBits rfl (q := 3) rfl (c_Writer_putBits l Z F (a_t := a_t) (a_t_came := a_t_came) (a_t_distanceCode := a_t_distanceCode) (a_t_lengthCode := a_t_lengthCode) (a_t_literalCode := a_t_literalCode) (a_t_next := a_t_next) (t_bitCount := t_bitCount_10) (t_came := t_came10) (x1 := r2) (x2 := r3) (o_t_bitCount := t_bitCount_11) (o_t_came := t_came11) hq) [3, 4] [0, 1, 2, 5, 6] rfl rfl rfl rfl (by decide) rfl (by decide) (fun h => h) (rest := []) (wr := [ob a_p1_code 1 [.ref a_p1_code_count, .ref a_p1_code_length], ia Z a_p1_code_length 19 p1_code_length, ia Z a_t_lengthCode 19 t_lengthCode, ob a_p1 5 [.ref a_p1_code, .ref a_p1_row, .int p1_size, .int p1_literals, .int p1_distances, .int p1_toldOfCode], ia Z a_p1_row 316 p1_row]) (Nat.le_of_ble_eq_true rfl) rfl (rx_dt dt_Writer_putRow 71 rfl) (pc := 122) ?_
      rintro _ _ ⟨rfl, rfl⟩
      show J_Writer_putRow l Z mc ms post k n [ob a_p1_code 1 [.ref a_p1_code_count, .ref a_p1_code_length], ia Z a_p1_code_length 19 p1_code_length, ia Z a_t_lengthCode 19 t_lengthCode, ob a_p1 5 [.ref a_p1_code, .ref a_p1_row, .int p1_size, .int p1_literals, .int p1_distances, .int p1_toldOfCode], ia Z a_p1_row 316 p1_row, ob a_t 10 [.ref a_t_came, .int t_bitCount_11, .ref a_t_literalCode, .ref a_t_distanceCode, .ref a_t_lengthCode, .ref a_t_next], ia Z a_t_came 518 t_came11] [(3, .int r1), (0, .ref a_t), (1, .ref a_p1), (2, .int v2_4)] 125 []
      obtain ⟨y2, hy2, hm⟩ := nm_some hm
      refine rw_iinc (pc := 125) (lv' := [(2, .int y2), (3, .int r1), (0, .ref a_t), (1, .ref a_p1)]) 3 rfl hy2 (by decide) rfl (rx_dt dt_Writer_putRow 72 rfl) ?_
      refine rw_goto (pc := 128) (tgt := 79) (by decide) (rx_dt dt_Writer_putRow 73 rfl) ?_
      refine rw_perm (lv' := [(0, .ref a_t), (1, .ref a_p1), (2, .int y2)]) (ws' := [ob a_p1 5 [.ref a_p1_code, .ref a_p1_row, .int p1_size, .int p1_literals, .int p1_distances, .int p1_toldOfCode], ob a_p1_code 1 [.ref a_p1_code_count, .ref a_p1_code_length], ia Z a_p1_code_length 19 p1_code_length, ia Z a_p1_row 316 p1_row, ob a_t 10 [.ref a_t_came, .int t_bitCount_11, .ref a_t_literalCode, .ref a_t_distanceCode, .ref a_t_lengthCode, .ref a_t_next], ia Z a_t_came 518 t_came11, ia Z a_t_lengthCode 19 t_lengthCode]) [2, 3, 0] [3, 0, 1, 4, 5, 6, 2] rfl rfl rfl ?_
      exact ih  _ _ _ _ _ _ hm K
set_option maxRecDepth 100000 in
set_option maxHeartbeats 4000000 in
theorem w_Writer_putRow (l : Launch) (Z : rx_D) (mc ms : Nat) (post : Option Value → va_W → Prop) (k n : Nat) (F : Nat) (a_p1 a_p1_code a_p1_code_count a_p1_code_length a_p1_row a_t a_t_came a_t_distanceCode a_t_lengthCode a_t_literalCode a_t_next : Nat) (p1_code_length : Nat → Int32) (p1_distances p1_literals : Int32) (p1_row : Nat → Int32) (p1_size p1_toldOfCode t_bitCount : Int32) (t_came t_lengthCode : Nat → Int32) (o_t_bitCount : Int32) (o_t_came : Nat → Int32) (hm : m_Writer_putRow F p1_code_length p1_distances p1_literals p1_row p1_size p1_toldOfCode t_bitCount t_came t_lengthCode = some (o_t_bitCount, o_t_came)) (hp : post none [ob a_p1 5 [.ref a_p1_code, .ref a_p1_row, .int p1_size, .int p1_literals, .int p1_distances, .int p1_toldOfCode], ob a_p1_code 1 [.ref a_p1_code_count, .ref a_p1_code_length], ia Z a_p1_code_length 19 p1_code_length, ia Z a_p1_row 316 p1_row, ob a_t 10 [.ref a_t_came, .int o_t_bitCount, .ref a_t_literalCode, .ref a_t_distanceCode, .ref a_t_lengthCode, .ref a_t_next], ia Z a_t_came 518 o_t_came, ia Z a_t_lengthCode 19 t_lengthCode]) : J_Writer_putRow l Z mc ms post k n [ob a_p1 5 [.ref a_p1_code, .ref a_p1_row, .int p1_size, .int p1_literals, .int p1_distances, .int p1_toldOfCode], ob a_p1_code 1 [.ref a_p1_code_count, .ref a_p1_code_length], ia Z a_p1_code_length 19 p1_code_length, ia Z a_p1_row 316 p1_row, ob a_t 10 [.ref a_t_came, .int t_bitCount, .ref a_t_literalCode, .ref a_t_distanceCode, .ref a_t_lengthCode, .ref a_t_next], ia Z a_t_came 518 t_came, ia Z a_t_lengthCode 19 t_lengthCode] [(0, .ref a_t), (1, .ref a_p1)] 0 [] := by
  unfold m_Writer_putRow at hm
  refine rw_aload_n (pc := 0) 0 rfl rfl (rx_dt dt_Writer_putRow 0 rfl) ?_
  refine rw_aload_n (pc := 1) 1 rfl rfl (rx_dt dt_Writer_putRow 1 rfl) ?_
  refine rw_get fa_Writer_96 (pc := 2) 0 rfl rfl (rx_dt dt_Writer_putRow 2 rfl) ?_
  refine rw_sipush (pc := 5) (v := 256) (by decide) (rx_dt dt_Writer_putRow 3 rfl) ?_
  refine rw_isub (pc := 8) (rx_dt dt_Writer_putRow 4 rfl) ?_
  refine rw_iconst (pc := 9) (v := 1) rfl (rx_dt dt_Writer_putRow 5 rfl) ?_
  refine rw_isub (pc := 10) (rx_dt dt_Writer_putRow 6 rfl) ?_
  refine rw_iconst (pc := 11) (v := 5) rfl (rx_dt dt_Writer_putRow 7 rfl) ?_
  obtain ⟨t_bitCount_1, t_came1, hq, hm⟩ := bnd2_some hm
  refine rw_callV cw_Writer_putBits lk_Writer_41 ci_Writer_putBits rfl (q := 4) rfl (c_Writer_putBits l Z F (a_t := a_t) (a_t_came := a_t_came) (a_t_distanceCode := a_t_distanceCode) (a_t_lengthCode := a_t_lengthCode) (a_t_literalCode := a_t_literalCode) (a_t_next := a_t_next) (t_bitCount := t_bitCount) (t_came := t_came) (x1 := (p1_literals - (256 : Int32)) - (1 : Int32)) (x2 := (5 : Int32)) (o_t_bitCount := t_bitCount_1) (o_t_came := t_came1) hq) [4, 5] [0, 1, 2, 3, 6] rfl rfl rfl rfl (by decide) rfl (by decide) (fun h => h) (rest := []) (wr := [ob a_p1 5 [.ref a_p1_code, .ref a_p1_row, .int p1_size, .int p1_literals, .int p1_distances, .int p1_toldOfCode], ob a_p1_code 1 [.ref a_p1_code_count, .ref a_p1_code_length], ia Z a_p1_code_length 19 p1_code_length, ia Z a_p1_row 316 p1_row, ia Z a_t_lengthCode 19 t_lengthCode]) (Nat.le_of_ble_eq_true rfl) rfl (rx_dt dt_Writer_putRow 8 rfl) (pc := 12) ?_
  rintro _ _ ⟨rfl, rfl⟩
  show J_Writer_putRow l Z mc ms post k n [ob a_p1 5 [.ref a_p1_code, .ref a_p1_row, .int p1_size, .int p1_literals, .int p1_distances, .int p1_toldOfCode], ob a_p1_code 1 [.ref a_p1_code_count, .ref a_p1_code_length], ia Z a_p1_code_length 19 p1_code_length, ia Z a_p1_row 316 p1_row, ia Z a_t_lengthCode 19 t_lengthCode, ob a_t 10 [.ref a_t_came, .int t_bitCount_1, .ref a_t_literalCode, .ref a_t_distanceCode, .ref a_t_lengthCode, .ref a_t_next], ia Z a_t_came 518 t_came1] [(0, .ref a_t), (1, .ref a_p1)] 15 []
  refine rw_aload_n (pc := 15) 0 rfl rfl (rx_dt dt_Writer_putRow 9 rfl) ?_
  refine rw_aload_n (pc := 16) 1 rfl rfl (rx_dt dt_Writer_putRow 10 rfl) ?_
  refine rw_get fa_Writer_98 (pc := 17) 0 rfl rfl (rx_dt dt_Writer_putRow 11 rfl) ?_
  refine rw_iconst (pc := 20) (v := 1) rfl (rx_dt dt_Writer_putRow 12 rfl) ?_
  refine rw_isub (pc := 21) (rx_dt dt_Writer_putRow 13 rfl) ?_
  refine rw_iconst (pc := 22) (v := 5) rfl (rx_dt dt_Writer_putRow 14 rfl) ?_
  obtain ⟨t_bitCount_2, t_came2, hq, hm⟩ := bnd2_some hm
  refine rw_callV cw_Writer_putBits lk_Writer_41 ci_Writer_putBits rfl (q := 5) rfl (c_Writer_putBits l Z F (a_t := a_t) (a_t_came := a_t_came) (a_t_distanceCode := a_t_distanceCode) (a_t_lengthCode := a_t_lengthCode) (a_t_literalCode := a_t_literalCode) (a_t_next := a_t_next) (t_bitCount := t_bitCount_1) (t_came := t_came1) (x1 := p1_distances - (1 : Int32)) (x2 := (5 : Int32)) (o_t_bitCount := t_bitCount_2) (o_t_came := t_came2) hq) [5, 6] [0, 1, 2, 3, 4] rfl rfl rfl rfl (by decide) rfl (by decide) (fun h => h) (rest := []) (wr := [ob a_p1 5 [.ref a_p1_code, .ref a_p1_row, .int p1_size, .int p1_literals, .int p1_distances, .int p1_toldOfCode], ob a_p1_code 1 [.ref a_p1_code_count, .ref a_p1_code_length], ia Z a_p1_code_length 19 p1_code_length, ia Z a_p1_row 316 p1_row, ia Z a_t_lengthCode 19 t_lengthCode]) (Nat.le_of_ble_eq_true rfl) rfl (rx_dt dt_Writer_putRow 15 rfl) (pc := 23) ?_
  rintro _ _ ⟨rfl, rfl⟩
  show J_Writer_putRow l Z mc ms post k n [ob a_p1 5 [.ref a_p1_code, .ref a_p1_row, .int p1_size, .int p1_literals, .int p1_distances, .int p1_toldOfCode], ob a_p1_code 1 [.ref a_p1_code_count, .ref a_p1_code_length], ia Z a_p1_code_length 19 p1_code_length, ia Z a_p1_row 316 p1_row, ia Z a_t_lengthCode 19 t_lengthCode, ob a_t 10 [.ref a_t_came, .int t_bitCount_2, .ref a_t_literalCode, .ref a_t_distanceCode, .ref a_t_lengthCode, .ref a_t_next], ia Z a_t_came 518 t_came2] [(0, .ref a_t), (1, .ref a_p1)] 26 []
  refine rw_aload_n (pc := 26) 0 rfl rfl (rx_dt dt_Writer_putRow 16 rfl) ?_
  refine rw_aload_n (pc := 27) 1 rfl rfl (rx_dt dt_Writer_putRow 17 rfl) ?_
  refine rw_get fa_Writer_100 (pc := 28) 0 rfl rfl (rx_dt dt_Writer_putRow 18 rfl) ?_
  refine rw_iconst (pc := 31) (v := 4) rfl (rx_dt dt_Writer_putRow 19 rfl) ?_
  refine rw_isub (pc := 32) (rx_dt dt_Writer_putRow 20 rfl) ?_
  refine rw_iconst (pc := 33) (v := 4) rfl (rx_dt dt_Writer_putRow 21 rfl) ?_
  obtain ⟨t_bitCount_3, t_came3, hq, hm⟩ := bnd2_some hm
  refine rw_callV cw_Writer_putBits lk_Writer_41 ci_Writer_putBits rfl (q := 5) rfl (c_Writer_putBits l Z F (a_t := a_t) (a_t_came := a_t_came) (a_t_distanceCode := a_t_distanceCode) (a_t_lengthCode := a_t_lengthCode) (a_t_literalCode := a_t_literalCode) (a_t_next := a_t_next) (t_bitCount := t_bitCount_2) (t_came := t_came2) (x1 := p1_toldOfCode - (4 : Int32)) (x2 := (4 : Int32)) (o_t_bitCount := t_bitCount_3) (o_t_came := t_came3) hq) [5, 6] [0, 1, 2, 3, 4] rfl rfl rfl rfl (by decide) rfl (by decide) (fun h => h) (rest := []) (wr := [ob a_p1 5 [.ref a_p1_code, .ref a_p1_row, .int p1_size, .int p1_literals, .int p1_distances, .int p1_toldOfCode], ob a_p1_code 1 [.ref a_p1_code_count, .ref a_p1_code_length], ia Z a_p1_code_length 19 p1_code_length, ia Z a_p1_row 316 p1_row, ia Z a_t_lengthCode 19 t_lengthCode]) (Nat.le_of_ble_eq_true rfl) rfl (rx_dt dt_Writer_putRow 22 rfl) (pc := 34) ?_
  rintro _ _ ⟨rfl, rfl⟩
  show J_Writer_putRow l Z mc ms post k n [ob a_p1 5 [.ref a_p1_code, .ref a_p1_row, .int p1_size, .int p1_literals, .int p1_distances, .int p1_toldOfCode], ob a_p1_code 1 [.ref a_p1_code_count, .ref a_p1_code_length], ia Z a_p1_code_length 19 p1_code_length, ia Z a_p1_row 316 p1_row, ia Z a_t_lengthCode 19 t_lengthCode, ob a_t 10 [.ref a_t_came, .int t_bitCount_3, .ref a_t_literalCode, .ref a_t_distanceCode, .ref a_t_lengthCode, .ref a_t_next], ia Z a_t_came 518 t_came3] [(0, .ref a_t), (1, .ref a_p1)] 37 []
  refine rw_iconst (pc := 37) (v := 0) rfl (rx_dt dt_Writer_putRow 23 rfl) ?_
  refine rw_istore_n (pc := 38) (lv' := [(2, .int (0 : Int32)), (0, .ref a_t), (1, .ref a_p1)]) rfl (by decide) rfl (rx_dt dt_Writer_putRow 24 rfl) ?_
  obtain ⟨v2_3, t_bitCount_7, t_came7, hl, hm⟩ := bnd3_some hm
  refine rw_perm (lv' := [(0, .ref a_t), (1, .ref a_p1), (2, .int (0 : Int32))]) (ws' := [ob a_p1 5 [.ref a_p1_code, .ref a_p1_row, .int p1_size, .int p1_literals, .int p1_distances, .int p1_toldOfCode], ob a_p1_code 1 [.ref a_p1_code_count, .ref a_p1_code_length], ia Z a_p1_code_length 19 p1_code_length, ia Z a_p1_row 316 p1_row, ob a_t 10 [.ref a_t_came, .int t_bitCount_3, .ref a_t_literalCode, .ref a_t_distanceCode, .ref a_t_lengthCode, .ref a_t_next], ia Z a_t_came 518 t_came3, ia Z a_t_lengthCode 19 t_lengthCode]) [1, 2, 0] [0, 1, 2, 3, 5, 6, 4] rfl rfl rfl ?_
  refine wl_Writer_putRow_39 l Z mc ms post k n F a_p1 a_p1_code a_p1_code_count a_p1_code_length a_p1_row a_t a_t_came a_t_distanceCode a_t_lengthCode a_t_literalCode a_t_next p1_code_length p1_distances p1_literals p1_row p1_size p1_toldOfCode t_lengthCode F  (0 : Int32) t_bitCount_3 t_came3 v2_3 t_bitCount_7 t_came7 hl ?_
  refine rw_iconst (pc := 77) (v := 0) rfl (rx_dt dt_Writer_putRow 44 rfl) ?_
  refine rw_istore_n (pc := 78) (lv' := [(2, .int (0 : Int32)), (0, .ref a_t), (1, .ref a_p1)]) rfl (by decide) rfl (rx_dt dt_Writer_putRow 45 rfl) ?_
  obtain ⟨v2_6, t_bitCount_12, t_came12, hl, hm⟩ := bnd3_some hm
  refine rw_perm (lv' := [(0, .ref a_t), (1, .ref a_p1), (2, .int (0 : Int32))]) (ws' := [ob a_p1 5 [.ref a_p1_code, .ref a_p1_row, .int p1_size, .int p1_literals, .int p1_distances, .int p1_toldOfCode], ob a_p1_code 1 [.ref a_p1_code_count, .ref a_p1_code_length], ia Z a_p1_code_length 19 p1_code_length, ia Z a_p1_row 316 p1_row, ob a_t 10 [.ref a_t_came, .int t_bitCount_7, .ref a_t_literalCode, .ref a_t_distanceCode, .ref a_t_lengthCode, .ref a_t_next], ia Z a_t_came 518 t_came7, ia Z a_t_lengthCode 19 t_lengthCode]) [1, 2, 0] [0, 1, 2, 3, 4, 5, 6] rfl rfl rfl ?_
  refine wl_Writer_putRow_79 l Z mc ms post k n F a_p1 a_p1_code a_p1_code_count a_p1_code_length a_p1_row a_t a_t_came a_t_distanceCode a_t_lengthCode a_t_literalCode a_t_next p1_code_length p1_distances p1_literals p1_row p1_size p1_toldOfCode t_lengthCode F  (0 : Int32) t_bitCount_7 t_came7 v2_6 t_bitCount_12 t_came12 hl ?_
  cases hm
  exact rw_vret (pc := 131) (rx_dt dt_Writer_putRow 74 rfl) hp
theorem c_Writer_putRow (l : Launch) (Z : rx_D) (F : Nat) (a_p1 a_p1_code a_p1_code_count a_p1_code_length a_p1_row a_t a_t_came a_t_distanceCode a_t_lengthCode a_t_literalCode a_t_next : Nat) (p1_code_length : Nat → Int32) (p1_distances p1_literals : Int32) (p1_row : Nat → Int32) (p1_size p1_toldOfCode t_bitCount : Int32) (t_came t_lengthCode : Nat → Int32) (o_t_bitCount : Int32) (o_t_came : Nat → Int32) (hm : m_Writer_putRow F p1_code_length p1_distances p1_literals p1_row p1_size p1_toldOfCode t_bitCount t_came t_lengthCode = some (o_t_bitCount, o_t_came)) : Cn l Z y_Writer_putRow b_Writer_putRow 4 none 2 [.ref a_t, .ref a_p1] [ob a_p1 5 [.ref a_p1_code, .ref a_p1_row, .int p1_size, .int p1_literals, .int p1_distances, .int p1_toldOfCode], ob a_p1_code 1 [.ref a_p1_code_count, .ref a_p1_code_length], ia Z a_p1_code_length 19 p1_code_length, ia Z a_p1_row 316 p1_row, ob a_t 10 [.ref a_t_came, .int t_bitCount, .ref a_t_literalCode, .ref a_t_distanceCode, .ref a_t_lengthCode, .ref a_t_next], ia Z a_t_came 518 t_came, ia Z a_t_lengthCode 19 t_lengthCode] 0 0 (fun r w => r = none ∧ w = [ob a_p1 5 [.ref a_p1_code, .ref a_p1_row, .int p1_size, .int p1_literals, .int p1_distances, .int p1_toldOfCode], ob a_p1_code 1 [.ref a_p1_code_count, .ref a_p1_code_length], ia Z a_p1_code_length 19 p1_code_length, ia Z a_p1_row 316 p1_row, ob a_t 10 [.ref a_t_came, .int o_t_bitCount, .ref a_t_literalCode, .ref a_t_distanceCode, .ref a_t_lengthCode, .ref a_t_next], ia Z a_t_came 518 o_t_came, ia Z a_t_lengthCode 19 t_lengthCode]) :=
  rx_met "DeflateEffort$Writer" "putRow" mf_Writer_putRow (Nat.le_of_ble_eq_true rfl) rfl (by rintro _ _ ⟨h9, _⟩; cases h9) (w_Writer_putRow l Z 0 0 _ 0 0 F a_p1 a_p1_code a_p1_code_count a_p1_code_length a_p1_row a_t a_t_came a_t_distanceCode a_t_lengthCode a_t_literalCode a_t_next p1_code_length p1_distances p1_literals p1_row p1_size p1_toldOfCode t_bitCount t_came t_lengthCode o_t_bitCount o_t_came hm ⟨rfl, rfl⟩)
abbrev J_DE_fixedCode (l : Launch) (Z : rx_D) (mc ms : Nat) (post : Option Value → va_W → Prop) := Rw l Z "DeflateEffort" "fixedCode" b_DE_fixedCode 1 (some .int) 0 mc ms post
set_option maxRecDepth 100000 in
set_option maxHeartbeats 4000000 in
theorem w_DE_fixedCode (l : Launch) (Z : rx_D) (mc ms : Nat) (post : Option Value → va_W → Prop) (k n : Nat) (F : Nat) (x0 : Int32) (r0 : Int32) (hm : m_DE_fixedCode F x0 = some r0) (hp : post (some (.int r0)) []) : J_DE_fixedCode l Z mc ms post k n [] [(0, .int x0)] 0 [] := by
  unfold m_DE_fixedCode at hm
  refine rw_iload_n (pc := 0) 0 rfl rfl (rx_dt dt_DE_fixedCode 0 rfl) ?_
  refine rw_sipush (pc := 1) (v := 144) (by decide) (rx_dt dt_DE_fixedCode 1 rfl) ?_
  rcases ite_some hm with ⟨hc, hm⟩ | ⟨hc, hm⟩
  · refine rw_icmp_ge_t (pc := 4) (tgt := 12) hc (by decide) (rx_dt dt_DE_fixedCode 2 rfl) ?_
    refine rw_iload_n (pc := 12) 0 rfl rfl (rx_dt dt_DE_fixedCode 7 rfl) ?_
    refine rw_sipush (pc := 13) (v := 256) (by decide) (rx_dt dt_DE_fixedCode 8 rfl) ?_
    rcases ite_some hm with ⟨hc, hm⟩ | ⟨hc, hm⟩
    · refine rw_icmp_ge_t (pc := 16) (tgt := 29) hc (by decide) (rx_dt dt_DE_fixedCode 9 rfl) ?_
      refine rw_iload_n (pc := 29) 0 rfl rfl (rx_dt dt_DE_fixedCode 16 rfl) ?_
      refine rw_sipush (pc := 30) (v := 280) (by decide) (rx_dt dt_DE_fixedCode 17 rfl) ?_
      rcases ite_some hm with ⟨hc, hm⟩ | ⟨hc, hm⟩
      · refine rw_icmp_ge_t (pc := 33) (tgt := 44) hc (by decide) (rx_dt dt_DE_fixedCode 18 rfl) ?_
        refine rw_sipush (pc := 44) (v := 192) (by decide) (rx_dt dt_DE_fixedCode 23 rfl) ?_
        refine rw_iload_n (pc := 47) 0 rfl rfl (rx_dt dt_DE_fixedCode 24 rfl) ?_
        refine rw_iadd (pc := 48) (rx_dt dt_DE_fixedCode 25 rfl) ?_
        refine rw_sipush (pc := 49) (v := 280) (by decide) (rx_dt dt_DE_fixedCode 26 rfl) ?_
        refine rw_isub (pc := 52) (rx_dt dt_DE_fixedCode 27 rfl) ?_
        refine rw_perm (lv' := []) (ws' := []) [] [] rfl rfl rfl ?_
        cases hm
        exact rw_iret (pc := 53) (rx_dt dt_DE_fixedCode 28 rfl) hp
      · refine rw_icmp_ge_f (pc := 33) (tgt := 44) hc (by decide) (rx_dt dt_DE_fixedCode 18 rfl) ?_
        refine rw_iload_n (pc := 36) 0 rfl rfl (rx_dt dt_DE_fixedCode 19 rfl) ?_
        refine rw_sipush (pc := 37) (v := 256) (by decide) (rx_dt dt_DE_fixedCode 20 rfl) ?_
        refine rw_isub (pc := 40) (rx_dt dt_DE_fixedCode 21 rfl) ?_
        refine rw_goto (pc := 41) (tgt := 53) (by decide) (rx_dt dt_DE_fixedCode 22 rfl) ?_
        refine rw_perm (lv' := []) (ws' := []) [] [] rfl rfl rfl ?_
        cases hm
        exact rw_iret (pc := 53) (rx_dt dt_DE_fixedCode 28 rfl) hp
    · refine rw_icmp_ge_f (pc := 16) (tgt := 29) hc (by decide) (rx_dt dt_DE_fixedCode 9 rfl) ?_
      refine rw_sipush (pc := 19) (v := 400) (by decide) (rx_dt dt_DE_fixedCode 10 rfl) ?_
      refine rw_iload_n (pc := 22) 0 rfl rfl (rx_dt dt_DE_fixedCode 11 rfl) ?_
      refine rw_iadd (pc := 23) (rx_dt dt_DE_fixedCode 12 rfl) ?_
      refine rw_sipush (pc := 24) (v := 144) (by decide) (rx_dt dt_DE_fixedCode 13 rfl) ?_
      refine rw_isub (pc := 27) (rx_dt dt_DE_fixedCode 14 rfl) ?_
      refine rw_perm (lv' := []) (ws' := []) [] [] rfl rfl rfl ?_
      cases hm
      exact rw_iret (pc := 28) (rx_dt dt_DE_fixedCode 15 rfl) hp
  · refine rw_icmp_ge_f (pc := 4) (tgt := 12) hc (by decide) (rx_dt dt_DE_fixedCode 2 rfl) ?_
    refine rw_bipush (pc := 7) (v := 48) (by decide) (rx_dt dt_DE_fixedCode 3 rfl) ?_
    refine rw_iload_n (pc := 9) 0 rfl rfl (rx_dt dt_DE_fixedCode 4 rfl) ?_
    refine rw_iadd (pc := 10) (rx_dt dt_DE_fixedCode 5 rfl) ?_
    refine rw_perm (lv' := []) (ws' := []) [] [] rfl rfl rfl ?_
    cases hm
    exact rw_iret (pc := 11) (rx_dt dt_DE_fixedCode 6 rfl) hp
theorem c_DE_fixedCode (l : Launch) (Z : rx_D) (F : Nat) (x0 : Int32) (r0 : Int32) (hm : m_DE_fixedCode F x0 = some r0) : Cn l Z y_DE_fixedCode b_DE_fixedCode 1 (some .int) 0 [.int x0] [] 0 0 (fun r w => r = (some (.int r0)) ∧ w = []) :=
  rx_met "DeflateEffort" "fixedCode" mf_DE_fixedCode (Nat.le_of_ble_eq_true rfl) rfl (by rintro _ _ ⟨h9, _⟩; cases h9) (w_DE_fixedCode l Z 0 0 _ 0 0 F x0 r0 hm ⟨rfl, rfl⟩)
abbrev J_Writer_putLiteral (l : Launch) (Z : rx_D) (mc ms : Nat) (post : Option Value → va_W → Prop) := Rw l Z "DeflateEffort$Writer" "putLiteral" b_Writer_putLiteral 4 none 2 mc ms post
set_option maxRecDepth 100000 in
set_option maxHeartbeats 4000000 in
theorem w_Writer_putLiteral (l : Launch) (Z : rx_D) (mc ms : Nat) (post : Option Value → va_W → Prop) (k n : Nat) (F : Nat) (a_p1 a_p1_distances a_p1_literals a_p1_literals_count a_p1_literals_length a_p1_token a_t a_t_came a_t_distanceCode a_t_lengthCode a_t_literalCode a_t_next : Nat) (p1_bits p1_kind : Int32) (p1_literals_length : Nat → Int32) (p1_matches p1_size t_bitCount : Int32) (t_came t_literalCode : Nat → Int32) (x2 x3 : Int32) (o_t_bitCount : Int32) (o_t_came : Nat → Int32) (hm : m_Writer_putLiteral F p1_literals_length t_bitCount t_came t_literalCode x2 x3 = some (o_t_bitCount, o_t_came)) (hp : post none [ob a_p1 7 [.ref a_p1_token, .int p1_size, .int p1_matches, .ref a_p1_literals, .ref a_p1_distances, .int p1_kind, .int p1_bits], ob a_p1_literals 1 [.ref a_p1_literals_count, .ref a_p1_literals_length], ia Z a_p1_literals_length 286 p1_literals_length, ob a_t 10 [.ref a_t_came, .int o_t_bitCount, .ref a_t_literalCode, .ref a_t_distanceCode, .ref a_t_lengthCode, .ref a_t_next], ia Z a_t_came 518 o_t_came, ia Z a_t_literalCode 286 t_literalCode]) : J_Writer_putLiteral l Z mc ms post k n [ob a_p1 7 [.ref a_p1_token, .int p1_size, .int p1_matches, .ref a_p1_literals, .ref a_p1_distances, .int p1_kind, .int p1_bits], ob a_p1_literals 1 [.ref a_p1_literals_count, .ref a_p1_literals_length], ia Z a_p1_literals_length 286 p1_literals_length, ob a_t 10 [.ref a_t_came, .int t_bitCount, .ref a_t_literalCode, .ref a_t_distanceCode, .ref a_t_lengthCode, .ref a_t_next], ia Z a_t_came 518 t_came, ia Z a_t_literalCode 286 t_literalCode] [(0, .ref a_t), (1, .ref a_p1), (2, .int x2), (3, .int x3)] 0 [] := by
  unfold m_Writer_putLiteral at hm
  refine rw_iload_n (pc := 0) 2 rfl rfl (rx_dt dt_Writer_putLiteral 0 rfl) ?_
  rcases ite_some hm with ⟨hc, hm⟩ | ⟨hc, hm⟩
  · refine rw_if_eq_t (pc := 1) (tgt := 26) hc (by decide) (rx_dt dt_Writer_putLiteral 1 rfl) ?_
    refine rw_aload_n (pc := 26) 0 rfl rfl (rx_dt dt_Writer_putLiteral 14 rfl) ?_
    refine rw_iload_n (pc := 27) 3 rfl rfl (rx_dt dt_Writer_putLiteral 15 rfl) ?_
    obtain ⟨r1, hq, hm⟩ := bnd1_some hm
    refine rw_callS cw_DE_fixedCode lk_Writer_119 cs_DE_fixedCode (c_DE_fixedCode l Z F (x0 := x3) (r0 := r1) hq) [] [0, 1, 2, 3, 4, 5] rfl rfl rfl rfl (by decide) rfl (by decide) (fun h => h) (rest := [.ref a_t]) (wr := [ob a_p1 7 [.ref a_p1_token, .int p1_size, .int p1_matches, .ref a_p1_literals, .ref a_p1_distances, .int p1_kind, .int p1_bits], ob a_p1_literals 1 [.ref a_p1_literals_count, .ref a_p1_literals_length], ia Z a_p1_literals_length 286 p1_literals_length, ob a_t 10 [.ref a_t_came, .int t_bitCount, .ref a_t_literalCode, .ref a_t_distanceCode, .ref a_t_lengthCode, .ref a_t_next], ia Z a_t_came 518 t_came, ia Z a_t_literalCode 286 t_literalCode]) (Nat.le_of_ble_eq_true rfl) rfl (rx_dt dt_Writer_putLiteral 16 rfl) (pc := 28) ?_
    rintro _ _ ⟨rfl, rfl⟩
    show J_Writer_putLiteral l Z mc ms post k n [ob a_p1 7 [.ref a_p1_token, .int p1_size, .int p1_matches, .ref a_p1_literals, .ref a_p1_distances, .int p1_kind, .int p1_bits], ob a_p1_literals 1 [.ref a_p1_literals_count, .ref a_p1_literals_length], ia Z a_p1_literals_length 286 p1_literals_length, ob a_t 10 [.ref a_t_came, .int t_bitCount, .ref a_t_literalCode, .ref a_t_distanceCode, .ref a_t_lengthCode, .ref a_t_next], ia Z a_t_came 518 t_came, ia Z a_t_literalCode 286 t_literalCode] [(0, .ref a_t), (1, .ref a_p1), (2, .int x2), (3, .int x3)] 31 [.int r1, .ref a_t]
    refine rw_iload_n (pc := 31) 3 rfl rfl (rx_dt dt_Writer_putLiteral 17 rfl) ?_
    obtain ⟨r2, hq, hm⟩ := bnd1_some hm
    refine rw_callS cw_DE_fixedLength lk_Writer_122 cs_DE_fixedLength (c_DE_fixedLength l Z F (x0 := x3) (r0 := r2) hq) [] [0, 1, 2, 3, 4, 5] rfl rfl rfl rfl (by decide) rfl (by decide) (fun h => h) (rest := [.int r1, .ref a_t]) (wr := [ob a_p1 7 [.ref a_p1_token, .int p1_size, .int p1_matches, .ref a_p1_literals, .ref a_p1_distances, .int p1_kind, .int p1_bits], ob a_p1_literals 1 [.ref a_p1_literals_count, .ref a_p1_literals_length], ia Z a_p1_literals_length 286 p1_literals_length, ob a_t 10 [.ref a_t_came, .int t_bitCount, .ref a_t_literalCode, .ref a_t_distanceCode, .ref a_t_lengthCode, .ref a_t_next], ia Z a_t_came 518 t_came, ia Z a_t_literalCode 286 t_literalCode]) (Nat.le_of_ble_eq_true rfl) rfl (rx_dt dt_Writer_putLiteral 18 rfl) (pc := 32) ?_
    rintro _ _ ⟨rfl, rfl⟩
    show J_Writer_putLiteral l Z mc ms post k n [ob a_p1 7 [.ref a_p1_token, .int p1_size, .int p1_matches, .ref a_p1_literals, .ref a_p1_distances, .int p1_kind, .int p1_bits], ob a_p1_literals 1 [.ref a_p1_literals_count, .ref a_p1_literals_length], ia Z a_p1_literals_length 286 p1_literals_length, ob a_t 10 [.ref a_t_came, .int t_bitCount, .ref a_t_literalCode, .ref a_t_distanceCode, .ref a_t_lengthCode, .ref a_t_next], ia Z a_t_came 518 t_came, ia Z a_t_literalCode 286 t_literalCode] [(0, .ref a_t), (1, .ref a_p1), (2, .int x2), (3, .int x3)] 35 [.int r2, .int r1, .ref a_t]
    obtain ⟨t_bitCount_1, t_came1, hq, hm⟩ := bnd2_some hm
    refine rw_callV cw_Writer_putCode lk_Writer_110 ci_Writer_putCode rfl (q := 3) rfl (c_Writer_putCode l Z F (a_t := a_t) (a_t_came := a_t_came) (a_t_distanceCode := a_t_distanceCode) (a_t_lengthCode := a_t_lengthCode) (a_t_literalCode := a_t_literalCode) (a_t_next := a_t_next) (t_bitCount := t_bitCount) (t_came := t_came) (x1 := r1) (x2 := r2) (o_t_bitCount := t_bitCount_1) (o_t_came := t_came1) hq) [3, 4] [0, 1, 2, 5] rfl rfl rfl rfl (by decide) rfl (by decide) (fun h => h) (rest := []) (wr := [ob a_p1 7 [.ref a_p1_token, .int p1_size, .int p1_matches, .ref a_p1_literals, .ref a_p1_distances, .int p1_kind, .int p1_bits], ob a_p1_literals 1 [.ref a_p1_literals_count, .ref a_p1_literals_length], ia Z a_p1_literals_length 286 p1_literals_length, ia Z a_t_literalCode 286 t_literalCode]) (Nat.le_of_ble_eq_true rfl) rfl (rx_dt dt_Writer_putLiteral 19 rfl) (pc := 35) ?_
    rintro _ _ ⟨rfl, rfl⟩
    show J_Writer_putLiteral l Z mc ms post k n [ob a_p1 7 [.ref a_p1_token, .int p1_size, .int p1_matches, .ref a_p1_literals, .ref a_p1_distances, .int p1_kind, .int p1_bits], ob a_p1_literals 1 [.ref a_p1_literals_count, .ref a_p1_literals_length], ia Z a_p1_literals_length 286 p1_literals_length, ia Z a_t_literalCode 286 t_literalCode, ob a_t 10 [.ref a_t_came, .int t_bitCount_1, .ref a_t_literalCode, .ref a_t_distanceCode, .ref a_t_lengthCode, .ref a_t_next], ia Z a_t_came 518 t_came1] [(0, .ref a_t), (1, .ref a_p1), (2, .int x2), (3, .int x3)] 38 []
    refine rw_perm (lv' := []) (ws' := [ob a_p1 7 [.ref a_p1_token, .int p1_size, .int p1_matches, .ref a_p1_literals, .ref a_p1_distances, .int p1_kind, .int p1_bits], ob a_p1_literals 1 [.ref a_p1_literals_count, .ref a_p1_literals_length], ia Z a_p1_literals_length 286 p1_literals_length, ob a_t 10 [.ref a_t_came, .int t_bitCount_1, .ref a_t_literalCode, .ref a_t_distanceCode, .ref a_t_lengthCode, .ref a_t_next], ia Z a_t_came 518 t_came1, ia Z a_t_literalCode 286 t_literalCode]) [] [0, 1, 2, 4, 5, 3] rfl rfl rfl ?_
    cases hm
    exact rw_vret (pc := 38) (rx_dt dt_Writer_putLiteral 20 rfl) hp
  · refine rw_if_eq_f (pc := 1) (tgt := 26) hc (by decide) (rx_dt dt_Writer_putLiteral 1 rfl) ?_
    refine rw_aload_n (pc := 4) 0 rfl rfl (rx_dt dt_Writer_putLiteral 2 rfl) ?_
    refine rw_aload_n (pc := 5) 0 rfl rfl (rx_dt dt_Writer_putLiteral 3 rfl) ?_
    refine rw_get fa_Writer_19 (pc := 6) 3 rfl rfl (rx_dt dt_Writer_putLiteral 4 rfl) ?_
    refine rw_iload_n (pc := 9) 3 rfl rfl (rx_dt dt_Writer_putLiteral 5 rfl) ?_
    obtain ⟨hk1, hm⟩ := chk_some hm
    refine rw_iald (pc := 10) 5 rfl hk1 (rx_dt dt_Writer_putLiteral 6 rfl) ?_
    refine rw_aload_n (pc := 11) 1 rfl rfl (rx_dt dt_Writer_putLiteral 7 rfl) ?_
    refine rw_get fa_Writer_50 (pc := 12) 0 rfl rfl (rx_dt dt_Writer_putLiteral 8 rfl) ?_
    refine rw_get fa_Writer_54 (pc := 15) 1 rfl rfl (rx_dt dt_Writer_putLiteral 9 rfl) ?_
    refine rw_iload_n (pc := 18) 3 rfl rfl (rx_dt dt_Writer_putLiteral 10 rfl) ?_
    obtain ⟨hk2, hm⟩ := chk_some hm
    refine rw_iald (pc := 19) 2 rfl hk2 (rx_dt dt_Writer_putLiteral 11 rfl) ?_
    obtain ⟨t_bitCount_2, t_came2, hq, hm⟩ := bnd2_some hm
    refine rw_callV cw_Writer_putCode lk_Writer_110 ci_Writer_putCode rfl (q := 3) rfl (c_Writer_putCode l Z F (a_t := a_t) (a_t_came := a_t_came) (a_t_distanceCode := a_t_distanceCode) (a_t_lengthCode := a_t_lengthCode) (a_t_literalCode := a_t_literalCode) (a_t_next := a_t_next) (t_bitCount := t_bitCount) (t_came := t_came) (x1 := t_literalCode x3.toNatClampNeg) (x2 := p1_literals_length x3.toNatClampNeg) (o_t_bitCount := t_bitCount_2) (o_t_came := t_came2) hq) [3, 4] [0, 1, 2, 5] rfl rfl rfl rfl (by decide) rfl (by decide) (fun h => h) (rest := []) (wr := [ob a_p1 7 [.ref a_p1_token, .int p1_size, .int p1_matches, .ref a_p1_literals, .ref a_p1_distances, .int p1_kind, .int p1_bits], ob a_p1_literals 1 [.ref a_p1_literals_count, .ref a_p1_literals_length], ia Z a_p1_literals_length 286 p1_literals_length, ia Z a_t_literalCode 286 t_literalCode]) (Nat.le_of_ble_eq_true rfl) rfl (rx_dt dt_Writer_putLiteral 12 rfl) (pc := 20) ?_
    rintro _ _ ⟨rfl, rfl⟩
    show J_Writer_putLiteral l Z mc ms post k n [ob a_p1 7 [.ref a_p1_token, .int p1_size, .int p1_matches, .ref a_p1_literals, .ref a_p1_distances, .int p1_kind, .int p1_bits], ob a_p1_literals 1 [.ref a_p1_literals_count, .ref a_p1_literals_length], ia Z a_p1_literals_length 286 p1_literals_length, ia Z a_t_literalCode 286 t_literalCode, ob a_t 10 [.ref a_t_came, .int t_bitCount_2, .ref a_t_literalCode, .ref a_t_distanceCode, .ref a_t_lengthCode, .ref a_t_next], ia Z a_t_came 518 t_came2] [(0, .ref a_t), (1, .ref a_p1), (2, .int x2), (3, .int x3)] 23 []
    refine rw_goto (pc := 23) (tgt := 38) (by decide) (rx_dt dt_Writer_putLiteral 13 rfl) ?_
    refine rw_perm (lv' := []) (ws' := [ob a_p1 7 [.ref a_p1_token, .int p1_size, .int p1_matches, .ref a_p1_literals, .ref a_p1_distances, .int p1_kind, .int p1_bits], ob a_p1_literals 1 [.ref a_p1_literals_count, .ref a_p1_literals_length], ia Z a_p1_literals_length 286 p1_literals_length, ob a_t 10 [.ref a_t_came, .int t_bitCount_2, .ref a_t_literalCode, .ref a_t_distanceCode, .ref a_t_lengthCode, .ref a_t_next], ia Z a_t_came 518 t_came2, ia Z a_t_literalCode 286 t_literalCode]) [] [0, 1, 2, 4, 5, 3] rfl rfl rfl ?_
    cases hm
    exact rw_vret (pc := 38) (rx_dt dt_Writer_putLiteral 20 rfl) hp
theorem c_Writer_putLiteral (l : Launch) (Z : rx_D) (F : Nat) (a_p1 a_p1_distances a_p1_literals a_p1_literals_count a_p1_literals_length a_p1_token a_t a_t_came a_t_distanceCode a_t_lengthCode a_t_literalCode a_t_next : Nat) (p1_bits p1_kind : Int32) (p1_literals_length : Nat → Int32) (p1_matches p1_size t_bitCount : Int32) (t_came t_literalCode : Nat → Int32) (x2 x3 : Int32) (o_t_bitCount : Int32) (o_t_came : Nat → Int32) (hm : m_Writer_putLiteral F p1_literals_length t_bitCount t_came t_literalCode x2 x3 = some (o_t_bitCount, o_t_came)) : Cn l Z y_Writer_putLiteral b_Writer_putLiteral 4 none 2 [.ref a_t, .ref a_p1, .int x2, .int x3] [ob a_p1 7 [.ref a_p1_token, .int p1_size, .int p1_matches, .ref a_p1_literals, .ref a_p1_distances, .int p1_kind, .int p1_bits], ob a_p1_literals 1 [.ref a_p1_literals_count, .ref a_p1_literals_length], ia Z a_p1_literals_length 286 p1_literals_length, ob a_t 10 [.ref a_t_came, .int t_bitCount, .ref a_t_literalCode, .ref a_t_distanceCode, .ref a_t_lengthCode, .ref a_t_next], ia Z a_t_came 518 t_came, ia Z a_t_literalCode 286 t_literalCode] 0 0 (fun r w => r = none ∧ w = [ob a_p1 7 [.ref a_p1_token, .int p1_size, .int p1_matches, .ref a_p1_literals, .ref a_p1_distances, .int p1_kind, .int p1_bits], ob a_p1_literals 1 [.ref a_p1_literals_count, .ref a_p1_literals_length], ia Z a_p1_literals_length 286 p1_literals_length, ob a_t 10 [.ref a_t_came, .int o_t_bitCount, .ref a_t_literalCode, .ref a_t_distanceCode, .ref a_t_lengthCode, .ref a_t_next], ia Z a_t_came 518 o_t_came, ia Z a_t_literalCode 286 t_literalCode]) :=
  rx_met "DeflateEffort$Writer" "putLiteral" mf_Writer_putLiteral (Nat.le_of_ble_eq_true rfl) rfl (by rintro _ _ ⟨h9, _⟩; cases h9) (w_Writer_putLiteral l Z 0 0 _ 0 0 F a_p1 a_p1_distances a_p1_literals a_p1_literals_count a_p1_literals_length a_p1_token a_t a_t_came a_t_distanceCode a_t_lengthCode a_t_literalCode a_t_next p1_bits p1_kind p1_literals_length p1_matches p1_size t_bitCount t_came t_literalCode x2 x3 o_t_bitCount o_t_came hm ⟨rfl, rfl⟩)
abbrev J_Writer_putMatch (l : Launch) (Z : rx_D) (mc ms : Nat) (post : Option Value → va_W → Prop) := Rw l Z "DeflateEffort$Writer" "putMatch" b_Writer_putMatch 7 none 3 mc ms post
set_option maxRecDepth 100000 in
set_option maxHeartbeats 4000000 in
theorem w_Writer_putMatch (l : Launch) (Z : rx_D) (mc ms : Nat) (post : Option Value → va_W → Prop) (k n : Nat) (F : Nat) (a_p1 a_p1_distances a_p1_distances_count a_p1_distances_length a_p1_literals a_p1_literals_count a_p1_literals_length a_p1_token a_t a_t_came a_t_distanceCode a_t_lengthCode a_t_literalCode a_t_next : Nat) (p1_bits : Int32) (p1_distances_length : Nat → Int32) (p1_kind : Int32) (p1_literals_length : Nat → Int32) (p1_matches p1_size t_bitCount : Int32) (t_came t_distanceCode t_literalCode : Nat → Int32) (x2 x3 x4 : Int32) (o_t_bitCount : Int32) (o_t_came : Nat → Int32) (hm : m_Writer_putMatch F p1_distances_length p1_literals_length t_bitCount t_came t_distanceCode t_literalCode x2 x3 x4 = some (o_t_bitCount, o_t_came)) (hp : post none [ob a_p1 7 [.ref a_p1_token, .int p1_size, .int p1_matches, .ref a_p1_literals, .ref a_p1_distances, .int p1_kind, .int p1_bits], ob a_p1_distances 1 [.ref a_p1_distances_count, .ref a_p1_distances_length], ia Z a_p1_distances_length 30 p1_distances_length, ob a_p1_literals 1 [.ref a_p1_literals_count, .ref a_p1_literals_length], ia Z a_p1_literals_length 286 p1_literals_length, ob a_t 10 [.ref a_t_came, .int o_t_bitCount, .ref a_t_literalCode, .ref a_t_distanceCode, .ref a_t_lengthCode, .ref a_t_next], ia Z a_t_came 518 o_t_came, ia Z a_t_distanceCode 30 t_distanceCode, ia Z a_t_literalCode 286 t_literalCode]) : J_Writer_putMatch l Z mc ms post k n [ob a_p1 7 [.ref a_p1_token, .int p1_size, .int p1_matches, .ref a_p1_literals, .ref a_p1_distances, .int p1_kind, .int p1_bits], ob a_p1_distances 1 [.ref a_p1_distances_count, .ref a_p1_distances_length], ia Z a_p1_distances_length 30 p1_distances_length, ob a_p1_literals 1 [.ref a_p1_literals_count, .ref a_p1_literals_length], ia Z a_p1_literals_length 286 p1_literals_length, ob a_t 10 [.ref a_t_came, .int t_bitCount, .ref a_t_literalCode, .ref a_t_distanceCode, .ref a_t_lengthCode, .ref a_t_next], ia Z a_t_came 518 t_came, ia Z a_t_distanceCode 30 t_distanceCode, ia Z a_t_literalCode 286 t_literalCode] [(0, .ref a_t), (1, .ref a_p1), (2, .int x2), (3, .int x3), (4, .int x4)] 0 [] := by
  unfold m_Writer_putMatch at hm
  refine rw_iload_n (pc := 0) 3 rfl rfl (rx_dt dt_Writer_putMatch 0 rfl) ?_
  obtain ⟨r1, hq, hm⟩ := bnd1_some hm
  refine rw_callS cw_DE_lengthSymbol lk_Writer_125 cs_DE_lengthSymbol (c_DE_lengthSymbol l Z F (x0 := x3) (r0 := r1) hq) [] [0, 1, 2, 3, 4, 5, 6, 7, 8] rfl rfl rfl rfl (by decide) rfl (by decide) (fun h => h) (rest := []) (wr := [ob a_p1 7 [.ref a_p1_token, .int p1_size, .int p1_matches, .ref a_p1_literals, .ref a_p1_distances, .int p1_kind, .int p1_bits], ob a_p1_distances 1 [.ref a_p1_distances_count, .ref a_p1_distances_length], ia Z a_p1_distances_length 30 p1_distances_length, ob a_p1_literals 1 [.ref a_p1_literals_count, .ref a_p1_literals_length], ia Z a_p1_literals_length 286 p1_literals_length, ob a_t 10 [.ref a_t_came, .int t_bitCount, .ref a_t_literalCode, .ref a_t_distanceCode, .ref a_t_lengthCode, .ref a_t_next], ia Z a_t_came 518 t_came, ia Z a_t_distanceCode 30 t_distanceCode, ia Z a_t_literalCode 286 t_literalCode]) (Nat.le_of_ble_eq_true rfl) rfl (rx_dt dt_Writer_putMatch 1 rfl) (pc := 1) ?_
  rintro _ _ ⟨rfl, rfl⟩
  show J_Writer_putMatch l Z mc ms post k n [ob a_p1 7 [.ref a_p1_token, .int p1_size, .int p1_matches, .ref a_p1_literals, .ref a_p1_distances, .int p1_kind, .int p1_bits], ob a_p1_distances 1 [.ref a_p1_distances_count, .ref a_p1_distances_length], ia Z a_p1_distances_length 30 p1_distances_length, ob a_p1_literals 1 [.ref a_p1_literals_count, .ref a_p1_literals_length], ia Z a_p1_literals_length 286 p1_literals_length, ob a_t 10 [.ref a_t_came, .int t_bitCount, .ref a_t_literalCode, .ref a_t_distanceCode, .ref a_t_lengthCode, .ref a_t_next], ia Z a_t_came 518 t_came, ia Z a_t_distanceCode 30 t_distanceCode, ia Z a_t_literalCode 286 t_literalCode] [(0, .ref a_t), (1, .ref a_p1), (2, .int x2), (3, .int x3), (4, .int x4)] 4 [.int r1]
  refine rw_istore (pc := 4) (lv' := [(5, .int r1), (0, .ref a_t), (1, .ref a_p1), (2, .int x2), (3, .int x3), (4, .int x4)]) (by decide) rfl (rx_dt dt_Writer_putMatch 2 rfl) ?_
  refine rw_aload_n (pc := 6) 1 rfl rfl (rx_dt dt_Writer_putMatch 3 rfl) ?_
  refine rw_aload_n (pc := 7) 2 rfl rfl (rx_dt dt_Writer_putMatch 4 rfl) ?_
  refine rw_iload_n (pc := 8) 3 rfl rfl (rx_dt dt_Writer_putMatch 5 rfl) ?_
  refine rw_iload (pc := 9) 0 rfl (rx_dt dt_Writer_putMatch 6 rfl) ?_
  obtain ⟨t_bitCount_1, t_came1, hq, hm⟩ := bnd2_some hm
  refine rw_callV cw_Writer_putLiteral lk_Writer_85 ci_Writer_putLiteral rfl (q := 5) rfl (c_Writer_putLiteral l Z F (a_p1 := a_p1) (a_p1_distances := a_p1_distances) (a_p1_literals := a_p1_literals) (a_p1_literals_count := a_p1_literals_count) (a_p1_literals_length := a_p1_literals_length) (a_p1_token := a_p1_token) (a_t := a_t) (a_t_came := a_t_came) (a_t_distanceCode := a_t_distanceCode) (a_t_lengthCode := a_t_lengthCode) (a_t_literalCode := a_t_literalCode) (a_t_next := a_t_next) (p1_bits := p1_bits) (p1_kind := p1_kind) (p1_literals_length := p1_literals_length) (p1_matches := p1_matches) (p1_size := p1_size) (t_bitCount := t_bitCount) (t_came := t_came) (t_literalCode := t_literalCode) (x2 := x2) (x3 := r1) (o_t_bitCount := t_bitCount_1) (o_t_came := t_came1) hq) [0, 3, 4, 5, 6, 8] [1, 2, 7] rfl rfl rfl rfl (by decide) rfl (by decide) (fun h => h) (rest := []) (wr := [ob a_p1_distances 1 [.ref a_p1_distances_count, .ref a_p1_distances_length], ia Z a_p1_distances_length 30 p1_distances_length, ia Z a_t_distanceCode 30 t_distanceCode]) (Nat.le_of_ble_eq_true rfl) rfl (rx_dt dt_Writer_putMatch 7 rfl) (pc := 11) ?_
  rintro _ _ ⟨rfl, rfl⟩
  show J_Writer_putMatch l Z mc ms post k n [ob a_p1_distances 1 [.ref a_p1_distances_count, .ref a_p1_distances_length], ia Z a_p1_distances_length 30 p1_distances_length, ia Z a_t_distanceCode 30 t_distanceCode, ob a_p1 7 [.ref a_p1_token, .int p1_size, .int p1_matches, .ref a_p1_literals, .ref a_p1_distances, .int p1_kind, .int p1_bits], ob a_p1_literals 1 [.ref a_p1_literals_count, .ref a_p1_literals_length], ia Z a_p1_literals_length 286 p1_literals_length, ob a_t 10 [.ref a_t_came, .int t_bitCount_1, .ref a_t_literalCode, .ref a_t_distanceCode, .ref a_t_lengthCode, .ref a_t_next], ia Z a_t_came 518 t_came1, ia Z a_t_literalCode 286 t_literalCode] [(5, .int r1), (0, .ref a_t), (1, .ref a_p1), (2, .int x2), (3, .int x3), (4, .int x4)] 14 []
  refine rw_aload_n (pc := 14) 1 rfl rfl (rx_dt dt_Writer_putMatch 8 rfl) ?_
  refine rw_iload_n (pc := 15) 4 rfl rfl (rx_dt dt_Writer_putMatch 9 rfl) ?_
  refine rw_tab sa_Writer_128 (pc := 16) (rx_dt dt_Writer_putMatch 10 rfl) ?_
  refine rw_iload (pc := 19) 0 rfl (rx_dt dt_Writer_putMatch 11 rfl) ?_
  refine rw_sipush (pc := 21) (v := 256) (by decide) (rx_dt dt_Writer_putMatch 12 rfl) ?_
  refine rw_isub (pc := 24) (rx_dt dt_Writer_putMatch 13 rfl) ?_
  refine rw_iconst (pc := 25) (v := 1) rfl (rx_dt dt_Writer_putMatch 14 rfl) ?_
  refine rw_isub (pc := 26) (rx_dt dt_Writer_putMatch 15 rfl) ?_
  obtain ⟨hk1, hm⟩ := chk_some hm
  refine rw_tld (pc := 27) (by decide) hk1 (rx_dt dt_Writer_putMatch 16 rfl) ?_
  refine rw_isub (pc := 28) (rx_dt dt_Writer_putMatch 17 rfl) ?_
  refine rw_iload (pc := 29) 0 rfl (rx_dt dt_Writer_putMatch 18 rfl) ?_
  obtain ⟨r2, hq, hm⟩ := bnd1_some hm
  refine rw_callS cw_DE_literalExtra lk_Writer_131 cs_DE_literalExtra (c_DE_literalExtra l Z F (x0 := r1) (r0 := r2) hq) [] [0, 1, 2, 3, 4, 5, 6, 7, 8] rfl rfl rfl rfl (by decide) rfl (by decide) (fun h => h) (rest := [.int (x3 - (tb 0 ((r1 - (256 : Int32)) - (1 : Int32)).toNatClampNeg)), .ref a_t]) (wr := [ob a_p1_distances 1 [.ref a_p1_distances_count, .ref a_p1_distances_length], ia Z a_p1_distances_length 30 p1_distances_length, ia Z a_t_distanceCode 30 t_distanceCode, ob a_p1 7 [.ref a_p1_token, .int p1_size, .int p1_matches, .ref a_p1_literals, .ref a_p1_distances, .int p1_kind, .int p1_bits], ob a_p1_literals 1 [.ref a_p1_literals_count, .ref a_p1_literals_length], ia Z a_p1_literals_length 286 p1_literals_length, ob a_t 10 [.ref a_t_came, .int t_bitCount_1, .ref a_t_literalCode, .ref a_t_distanceCode, .ref a_t_lengthCode, .ref a_t_next], ia Z a_t_came 518 t_came1, ia Z a_t_literalCode 286 t_literalCode]) (Nat.le_of_ble_eq_true rfl) rfl (rx_dt dt_Writer_putMatch 19 rfl) (pc := 31) ?_
  rintro _ _ ⟨rfl, rfl⟩
  show J_Writer_putMatch l Z mc ms post k n [ob a_p1_distances 1 [.ref a_p1_distances_count, .ref a_p1_distances_length], ia Z a_p1_distances_length 30 p1_distances_length, ia Z a_t_distanceCode 30 t_distanceCode, ob a_p1 7 [.ref a_p1_token, .int p1_size, .int p1_matches, .ref a_p1_literals, .ref a_p1_distances, .int p1_kind, .int p1_bits], ob a_p1_literals 1 [.ref a_p1_literals_count, .ref a_p1_literals_length], ia Z a_p1_literals_length 286 p1_literals_length, ob a_t 10 [.ref a_t_came, .int t_bitCount_1, .ref a_t_literalCode, .ref a_t_distanceCode, .ref a_t_lengthCode, .ref a_t_next], ia Z a_t_came 518 t_came1, ia Z a_t_literalCode 286 t_literalCode] [(5, .int r1), (0, .ref a_t), (1, .ref a_p1), (2, .int x2), (3, .int x3), (4, .int x4)] 34 [.int r2, .int (x3 - (tb 0 ((r1 - (256 : Int32)) - (1 : Int32)).toNatClampNeg)), .ref a_t]
  obtain ⟨t_bitCount_2, t_came2, hq, hm⟩ := bnd2_some hm
  refine rw_callV cw_Writer_putBits lk_Writer_41 ci_Writer_putBits rfl (q := 6) rfl (c_Writer_putBits l Z F (a_t := a_t) (a_t_came := a_t_came) (a_t_distanceCode := a_t_distanceCode) (a_t_lengthCode := a_t_lengthCode) (a_t_literalCode := a_t_literalCode) (a_t_next := a_t_next) (t_bitCount := t_bitCount_1) (t_came := t_came1) (x1 := x3 - (tb 0 ((r1 - (256 : Int32)) - (1 : Int32)).toNatClampNeg)) (x2 := r2) (o_t_bitCount := t_bitCount_2) (o_t_came := t_came2) hq) [6, 7] [0, 1, 2, 3, 4, 5, 8] rfl rfl rfl rfl (by decide) rfl (by decide) (fun h => h) (rest := []) (wr := [ob a_p1_distances 1 [.ref a_p1_distances_count, .ref a_p1_distances_length], ia Z a_p1_distances_length 30 p1_distances_length, ia Z a_t_distanceCode 30 t_distanceCode, ob a_p1 7 [.ref a_p1_token, .int p1_size, .int p1_matches, .ref a_p1_literals, .ref a_p1_distances, .int p1_kind, .int p1_bits], ob a_p1_literals 1 [.ref a_p1_literals_count, .ref a_p1_literals_length], ia Z a_p1_literals_length 286 p1_literals_length, ia Z a_t_literalCode 286 t_literalCode]) (Nat.le_of_ble_eq_true rfl) rfl (rx_dt dt_Writer_putMatch 20 rfl) (pc := 34) ?_
  rintro _ _ ⟨rfl, rfl⟩
  show J_Writer_putMatch l Z mc ms post k n [ob a_p1_distances 1 [.ref a_p1_distances_count, .ref a_p1_distances_length], ia Z a_p1_distances_length 30 p1_distances_length, ia Z a_t_distanceCode 30 t_distanceCode, ob a_p1 7 [.ref a_p1_token, .int p1_size, .int p1_matches, .ref a_p1_literals, .ref a_p1_distances, .int p1_kind, .int p1_bits], ob a_p1_literals 1 [.ref a_p1_literals_count, .ref a_p1_literals_length], ia Z a_p1_literals_length 286 p1_literals_length, ia Z a_t_literalCode 286 t_literalCode, ob a_t 10 [.ref a_t_came, .int t_bitCount_2, .ref a_t_literalCode, .ref a_t_distanceCode, .ref a_t_lengthCode, .ref a_t_next], ia Z a_t_came 518 t_came2] [(5, .int r1), (0, .ref a_t), (1, .ref a_p1), (2, .int x2), (3, .int x3), (4, .int x4)] 37 []
  refine rw_iload (pc := 37) 5 rfl (rx_dt dt_Writer_putMatch 21 rfl) ?_
  obtain ⟨r3, hq, hm⟩ := bnd1_some hm
  refine rw_callS cw_DE_distanceSymbol lk_Writer_134 cs_DE_distanceSymbol (c_DE_distanceSymbol l Z F (x0 := x4) (r0 := r3) hq) [] [0, 1, 2, 3, 4, 5, 6, 7, 8] rfl rfl rfl rfl (by decide) rfl (by decide) (fun h => h) (rest := []) (wr := [ob a_p1_distances 1 [.ref a_p1_distances_count, .ref a_p1_distances_length], ia Z a_p1_distances_length 30 p1_distances_length, ia Z a_t_distanceCode 30 t_distanceCode, ob a_p1 7 [.ref a_p1_token, .int p1_size, .int p1_matches, .ref a_p1_literals, .ref a_p1_distances, .int p1_kind, .int p1_bits], ob a_p1_literals 1 [.ref a_p1_literals_count, .ref a_p1_literals_length], ia Z a_p1_literals_length 286 p1_literals_length, ia Z a_t_literalCode 286 t_literalCode, ob a_t 10 [.ref a_t_came, .int t_bitCount_2, .ref a_t_literalCode, .ref a_t_distanceCode, .ref a_t_lengthCode, .ref a_t_next], ia Z a_t_came 518 t_came2]) (Nat.le_of_ble_eq_true rfl) rfl (rx_dt dt_Writer_putMatch 22 rfl) (pc := 39) ?_
  rintro _ _ ⟨rfl, rfl⟩
  show J_Writer_putMatch l Z mc ms post k n [ob a_p1_distances 1 [.ref a_p1_distances_count, .ref a_p1_distances_length], ia Z a_p1_distances_length 30 p1_distances_length, ia Z a_t_distanceCode 30 t_distanceCode, ob a_p1 7 [.ref a_p1_token, .int p1_size, .int p1_matches, .ref a_p1_literals, .ref a_p1_distances, .int p1_kind, .int p1_bits], ob a_p1_literals 1 [.ref a_p1_literals_count, .ref a_p1_literals_length], ia Z a_p1_literals_length 286 p1_literals_length, ia Z a_t_literalCode 286 t_literalCode, ob a_t 10 [.ref a_t_came, .int t_bitCount_2, .ref a_t_literalCode, .ref a_t_distanceCode, .ref a_t_lengthCode, .ref a_t_next], ia Z a_t_came 518 t_came2] [(5, .int r1), (0, .ref a_t), (1, .ref a_p1), (2, .int x2), (3, .int x3), (4, .int x4)] 42 [.int r3]
  refine rw_istore (pc := 42) (lv' := [(6, .int r3), (5, .int r1), (0, .ref a_t), (1, .ref a_p1), (2, .int x2), (3, .int x3), (4, .int x4)]) (by decide) rfl (rx_dt dt_Writer_putMatch 23 rfl) ?_
  refine rw_iload_n (pc := 44) 4 rfl rfl (rx_dt dt_Writer_putMatch 24 rfl) ?_
  obtain ⟨z1, t_came3, hj, hm⟩ := bnd2_some hm
  have KJ : J_Writer_putMatch l Z mc ms post k n [ob a_p1 7 [.ref a_p1_token, .int p1_size, .int p1_matches, .ref a_p1_literals, .ref a_p1_distances, .int p1_kind, .int p1_bits], ob a_p1_distances 1 [.ref a_p1_distances_count, .ref a_p1_distances_length], ia Z a_p1_distances_length 30 p1_distances_length, ob a_p1_literals 1 [.ref a_p1_literals_count, .ref a_p1_literals_length], ia Z a_p1_literals_length 286 p1_literals_length, ob a_t 10 [.ref a_t_came, .int z1, .ref a_t_literalCode, .ref a_t_distanceCode, .ref a_t_lengthCode, .ref a_t_next], ia Z a_t_came 518 t_came3, ia Z a_t_distanceCode 30 t_distanceCode, ia Z a_t_literalCode 286 t_literalCode] [(0, .ref a_t), (4, .int x4), (6, .int r3)] 79 [] := by
    refine rw_aload_n (pc := 79) 0 rfl rfl (rx_dt dt_Writer_putMatch 42 rfl) ?_
    refine rw_iload (pc := 80) 1 rfl (rx_dt dt_Writer_putMatch 43 rfl) ?_
    refine rw_tab sa_Writer_137 (pc := 82) (rx_dt dt_Writer_putMatch 44 rfl) ?_
    refine rw_iload (pc := 85) 2 rfl (rx_dt dt_Writer_putMatch 45 rfl) ?_
    obtain ⟨hk4, hm⟩ := chk_some hm
    refine rw_tld (pc := 87) (by decide) hk4 (rx_dt dt_Writer_putMatch 46 rfl) ?_
    refine rw_isub (pc := 88) (rx_dt dt_Writer_putMatch 47 rfl) ?_
    refine rw_tab sa_Writer_140 (pc := 89) (rx_dt dt_Writer_putMatch 48 rfl) ?_
    refine rw_iload (pc := 92) 2 rfl (rx_dt dt_Writer_putMatch 49 rfl) ?_
    obtain ⟨hk5, hm⟩ := chk_some hm
    refine rw_tld (pc := 94) (by decide) hk5 (rx_dt dt_Writer_putMatch 50 rfl) ?_
    obtain ⟨t_bitCount_5, t_came6, hq, hm⟩ := bnd2_some hm
    refine rw_callV cw_Writer_putBits lk_Writer_41 ci_Writer_putBits rfl (q := 5) rfl (c_Writer_putBits l Z F (a_t := a_t) (a_t_came := a_t_came) (a_t_distanceCode := a_t_distanceCode) (a_t_lengthCode := a_t_lengthCode) (a_t_literalCode := a_t_literalCode) (a_t_next := a_t_next) (t_bitCount := z1) (t_came := t_came3) (x1 := x4 - (tb 2 r3.toNatClampNeg)) (x2 := tb 3 r3.toNatClampNeg) (o_t_bitCount := t_bitCount_5) (o_t_came := t_came6) hq) [5, 6] [0, 1, 2, 3, 4, 7, 8] rfl rfl rfl rfl (by decide) rfl (by decide) (fun h => h) (rest := []) (wr := [ob a_p1 7 [.ref a_p1_token, .int p1_size, .int p1_matches, .ref a_p1_literals, .ref a_p1_distances, .int p1_kind, .int p1_bits], ob a_p1_distances 1 [.ref a_p1_distances_count, .ref a_p1_distances_length], ia Z a_p1_distances_length 30 p1_distances_length, ob a_p1_literals 1 [.ref a_p1_literals_count, .ref a_p1_literals_length], ia Z a_p1_literals_length 286 p1_literals_length, ia Z a_t_distanceCode 30 t_distanceCode, ia Z a_t_literalCode 286 t_literalCode]) (Nat.le_of_ble_eq_true rfl) rfl (rx_dt dt_Writer_putMatch 51 rfl) (pc := 95) ?_
    rintro _ _ ⟨rfl, rfl⟩
    show J_Writer_putMatch l Z mc ms post k n [ob a_p1 7 [.ref a_p1_token, .int p1_size, .int p1_matches, .ref a_p1_literals, .ref a_p1_distances, .int p1_kind, .int p1_bits], ob a_p1_distances 1 [.ref a_p1_distances_count, .ref a_p1_distances_length], ia Z a_p1_distances_length 30 p1_distances_length, ob a_p1_literals 1 [.ref a_p1_literals_count, .ref a_p1_literals_length], ia Z a_p1_literals_length 286 p1_literals_length, ia Z a_t_distanceCode 30 t_distanceCode, ia Z a_t_literalCode 286 t_literalCode, ob a_t 10 [.ref a_t_came, .int t_bitCount_5, .ref a_t_literalCode, .ref a_t_distanceCode, .ref a_t_lengthCode, .ref a_t_next], ia Z a_t_came 518 t_came6] [(0, .ref a_t), (4, .int x4), (6, .int r3)] 98 []
    refine rw_perm (lv' := []) (ws' := [ob a_p1 7 [.ref a_p1_token, .int p1_size, .int p1_matches, .ref a_p1_literals, .ref a_p1_distances, .int p1_kind, .int p1_bits], ob a_p1_distances 1 [.ref a_p1_distances_count, .ref a_p1_distances_length], ia Z a_p1_distances_length 30 p1_distances_length, ob a_p1_literals 1 [.ref a_p1_literals_count, .ref a_p1_literals_length], ia Z a_p1_literals_length 286 p1_literals_length, ob a_t 10 [.ref a_t_came, .int t_bitCount_5, .ref a_t_literalCode, .ref a_t_distanceCode, .ref a_t_lengthCode, .ref a_t_next], ia Z a_t_came 518 t_came6, ia Z a_t_distanceCode 30 t_distanceCode, ia Z a_t_literalCode 286 t_literalCode]) [] [0, 1, 2, 3, 4, 7, 8, 5, 6] rfl rfl rfl ?_
    cases hm
    exact rw_vret (pc := 98) (rx_dt dt_Writer_putMatch 52 rfl) hp
  clear hm
  have hm := hj
  clear hj
  rcases ite_some hm with ⟨hc, hm⟩ | ⟨hc, hm⟩
  · refine rw_if_eq_t (pc := 45) (tgt := 72) hc (by decide) (rx_dt dt_Writer_putMatch 25 rfl) ?_
    refine rw_aload_n (pc := 72) 2 rfl rfl (rx_dt dt_Writer_putMatch 38 rfl) ?_
    refine rw_iload (pc := 73) 0 rfl (rx_dt dt_Writer_putMatch 39 rfl) ?_
    refine rw_iconst (pc := 75) (v := 5) rfl (rx_dt dt_Writer_putMatch 40 rfl) ?_
    obtain ⟨t_bitCount_3, t_came4, hq, hm⟩ := bnd2_some hm
    refine rw_callV cw_Writer_putCode lk_Writer_110 ci_Writer_putCode rfl (q := 7) rfl (c_Writer_putCode l Z F (a_t := a_t) (a_t_came := a_t_came) (a_t_distanceCode := a_t_distanceCode) (a_t_lengthCode := a_t_lengthCode) (a_t_literalCode := a_t_literalCode) (a_t_next := a_t_next) (t_bitCount := t_bitCount_2) (t_came := t_came2) (x1 := r3) (x2 := (5 : Int32)) (o_t_bitCount := t_bitCount_3) (o_t_came := t_came4) hq) [7, 8] [0, 1, 2, 3, 4, 5, 6] rfl rfl rfl rfl (by decide) rfl (by decide) (fun h => h) (rest := []) (wr := [ob a_p1_distances 1 [.ref a_p1_distances_count, .ref a_p1_distances_length], ia Z a_p1_distances_length 30 p1_distances_length, ia Z a_t_distanceCode 30 t_distanceCode, ob a_p1 7 [.ref a_p1_token, .int p1_size, .int p1_matches, .ref a_p1_literals, .ref a_p1_distances, .int p1_kind, .int p1_bits], ob a_p1_literals 1 [.ref a_p1_literals_count, .ref a_p1_literals_length], ia Z a_p1_literals_length 286 p1_literals_length, ia Z a_t_literalCode 286 t_literalCode]) (Nat.le_of_ble_eq_true rfl) rfl (rx_dt dt_Writer_putMatch 41 rfl) (pc := 76) ?_
    rintro _ _ ⟨rfl, rfl⟩
    show J_Writer_putMatch l Z mc ms post k n [ob a_p1_distances 1 [.ref a_p1_distances_count, .ref a_p1_distances_length], ia Z a_p1_distances_length 30 p1_distances_length, ia Z a_t_distanceCode 30 t_distanceCode, ob a_p1 7 [.ref a_p1_token, .int p1_size, .int p1_matches, .ref a_p1_literals, .ref a_p1_distances, .int p1_kind, .int p1_bits], ob a_p1_literals 1 [.ref a_p1_literals_count, .ref a_p1_literals_length], ia Z a_p1_literals_length 286 p1_literals_length, ia Z a_t_literalCode 286 t_literalCode, ob a_t 10 [.ref a_t_came, .int t_bitCount_3, .ref a_t_literalCode, .ref a_t_distanceCode, .ref a_t_lengthCode, .ref a_t_next], ia Z a_t_came 518 t_came4] [(6, .int r3), (5, .int r1), (0, .ref a_t), (1, .ref a_p1), (2, .int x2), (3, .int x3), (4, .int x4)] 79 []
    refine rw_perm (lv' := [(0, .ref a_t), (4, .int x4), (6, .int r3)]) (ws' := [ob a_p1 7 [.ref a_p1_token, .int p1_size, .int p1_matches, .ref a_p1_literals, .ref a_p1_distances, .int p1_kind, .int p1_bits], ob a_p1_distances 1 [.ref a_p1_distances_count, .ref a_p1_distances_length], ia Z a_p1_distances_length 30 p1_distances_length, ob a_p1_literals 1 [.ref a_p1_literals_count, .ref a_p1_literals_length], ia Z a_p1_literals_length 286 p1_literals_length, ob a_t 10 [.ref a_t_came, .int t_bitCount_3, .ref a_t_literalCode, .ref a_t_distanceCode, .ref a_t_lengthCode, .ref a_t_next], ia Z a_t_came 518 t_came4, ia Z a_t_distanceCode 30 t_distanceCode, ia Z a_t_literalCode 286 t_literalCode]) [2, 6, 0] [3, 0, 1, 4, 5, 7, 8, 2, 6] rfl rfl rfl ?_
    cases hm
    exact KJ
  · refine rw_if_eq_f (pc := 45) (tgt := 72) hc (by decide) (rx_dt dt_Writer_putMatch 25 rfl) ?_
    refine rw_aload_n (pc := 48) 2 rfl rfl (rx_dt dt_Writer_putMatch 26 rfl) ?_
    refine rw_aload_n (pc := 49) 2 rfl rfl (rx_dt dt_Writer_putMatch 27 rfl) ?_
    refine rw_get fa_Writer_22 (pc := 50) 7 rfl rfl (rx_dt dt_Writer_putMatch 28 rfl) ?_
    refine rw_iload (pc := 53) 0 rfl (rx_dt dt_Writer_putMatch 29 rfl) ?_
    obtain ⟨hk2, hm⟩ := chk_some hm
    refine rw_iald (pc := 55) 2 rfl hk2 (rx_dt dt_Writer_putMatch 30 rfl) ?_
    refine rw_aload_n (pc := 56) 3 rfl rfl (rx_dt dt_Writer_putMatch 31 rfl) ?_
    refine rw_get fa_Writer_63 (pc := 57) 3 rfl rfl (rx_dt dt_Writer_putMatch 32 rfl) ?_
    refine rw_get fa_Writer_54 (pc := 60) 0 rfl rfl (rx_dt dt_Writer_putMatch 33 rfl) ?_
    refine rw_iload (pc := 63) 0 rfl (rx_dt dt_Writer_putMatch 34 rfl) ?_
    obtain ⟨hk3, hm⟩ := chk_some hm
    refine rw_iald (pc := 65) 1 rfl hk3 (rx_dt dt_Writer_putMatch 35 rfl) ?_
    obtain ⟨t_bitCount_4, t_came5, hq, hm⟩ := bnd2_some hm
    refine rw_callV cw_Writer_putCode lk_Writer_110 ci_Writer_putCode rfl (q := 7) rfl (c_Writer_putCode l Z F (a_t := a_t) (a_t_came := a_t_came) (a_t_distanceCode := a_t_distanceCode) (a_t_lengthCode := a_t_lengthCode) (a_t_literalCode := a_t_literalCode) (a_t_next := a_t_next) (t_bitCount := t_bitCount_2) (t_came := t_came2) (x1 := t_distanceCode r3.toNatClampNeg) (x2 := p1_distances_length r3.toNatClampNeg) (o_t_bitCount := t_bitCount_4) (o_t_came := t_came5) hq) [7, 8] [0, 1, 2, 3, 4, 5, 6] rfl rfl rfl rfl (by decide) rfl (by decide) (fun h => h) (rest := []) (wr := [ob a_p1_distances 1 [.ref a_p1_distances_count, .ref a_p1_distances_length], ia Z a_p1_distances_length 30 p1_distances_length, ia Z a_t_distanceCode 30 t_distanceCode, ob a_p1 7 [.ref a_p1_token, .int p1_size, .int p1_matches, .ref a_p1_literals, .ref a_p1_distances, .int p1_kind, .int p1_bits], ob a_p1_literals 1 [.ref a_p1_literals_count, .ref a_p1_literals_length], ia Z a_p1_literals_length 286 p1_literals_length, ia Z a_t_literalCode 286 t_literalCode]) (Nat.le_of_ble_eq_true rfl) rfl (rx_dt dt_Writer_putMatch 36 rfl) (pc := 66) ?_
    rintro _ _ ⟨rfl, rfl⟩
    show J_Writer_putMatch l Z mc ms post k n [ob a_p1_distances 1 [.ref a_p1_distances_count, .ref a_p1_distances_length], ia Z a_p1_distances_length 30 p1_distances_length, ia Z a_t_distanceCode 30 t_distanceCode, ob a_p1 7 [.ref a_p1_token, .int p1_size, .int p1_matches, .ref a_p1_literals, .ref a_p1_distances, .int p1_kind, .int p1_bits], ob a_p1_literals 1 [.ref a_p1_literals_count, .ref a_p1_literals_length], ia Z a_p1_literals_length 286 p1_literals_length, ia Z a_t_literalCode 286 t_literalCode, ob a_t 10 [.ref a_t_came, .int t_bitCount_4, .ref a_t_literalCode, .ref a_t_distanceCode, .ref a_t_lengthCode, .ref a_t_next], ia Z a_t_came 518 t_came5] [(6, .int r3), (5, .int r1), (0, .ref a_t), (1, .ref a_p1), (2, .int x2), (3, .int x3), (4, .int x4)] 69 []
    refine rw_goto (pc := 69) (tgt := 79) (by decide) (rx_dt dt_Writer_putMatch 37 rfl) ?_
    refine rw_perm (lv' := [(0, .ref a_t), (4, .int x4), (6, .int r3)]) (ws' := [ob a_p1 7 [.ref a_p1_token, .int p1_size, .int p1_matches, .ref a_p1_literals, .ref a_p1_distances, .int p1_kind, .int p1_bits], ob a_p1_distances 1 [.ref a_p1_distances_count, .ref a_p1_distances_length], ia Z a_p1_distances_length 30 p1_distances_length, ob a_p1_literals 1 [.ref a_p1_literals_count, .ref a_p1_literals_length], ia Z a_p1_literals_length 286 p1_literals_length, ob a_t 10 [.ref a_t_came, .int t_bitCount_4, .ref a_t_literalCode, .ref a_t_distanceCode, .ref a_t_lengthCode, .ref a_t_next], ia Z a_t_came 518 t_came5, ia Z a_t_distanceCode 30 t_distanceCode, ia Z a_t_literalCode 286 t_literalCode]) [2, 6, 0] [3, 0, 1, 4, 5, 7, 8, 2, 6] rfl rfl rfl ?_
    cases hm
    exact KJ
theorem c_Writer_putMatch (l : Launch) (Z : rx_D) (F : Nat) (a_p1 a_p1_distances a_p1_distances_count a_p1_distances_length a_p1_literals a_p1_literals_count a_p1_literals_length a_p1_token a_t a_t_came a_t_distanceCode a_t_lengthCode a_t_literalCode a_t_next : Nat) (p1_bits : Int32) (p1_distances_length : Nat → Int32) (p1_kind : Int32) (p1_literals_length : Nat → Int32) (p1_matches p1_size t_bitCount : Int32) (t_came t_distanceCode t_literalCode : Nat → Int32) (x2 x3 x4 : Int32) (o_t_bitCount : Int32) (o_t_came : Nat → Int32) (hm : m_Writer_putMatch F p1_distances_length p1_literals_length t_bitCount t_came t_distanceCode t_literalCode x2 x3 x4 = some (o_t_bitCount, o_t_came)) : Cn l Z y_Writer_putMatch b_Writer_putMatch 7 none 3 [.ref a_t, .ref a_p1, .int x2, .int x3, .int x4] [ob a_p1 7 [.ref a_p1_token, .int p1_size, .int p1_matches, .ref a_p1_literals, .ref a_p1_distances, .int p1_kind, .int p1_bits], ob a_p1_distances 1 [.ref a_p1_distances_count, .ref a_p1_distances_length], ia Z a_p1_distances_length 30 p1_distances_length, ob a_p1_literals 1 [.ref a_p1_literals_count, .ref a_p1_literals_length], ia Z a_p1_literals_length 286 p1_literals_length, ob a_t 10 [.ref a_t_came, .int t_bitCount, .ref a_t_literalCode, .ref a_t_distanceCode, .ref a_t_lengthCode, .ref a_t_next], ia Z a_t_came 518 t_came, ia Z a_t_distanceCode 30 t_distanceCode, ia Z a_t_literalCode 286 t_literalCode] 0 0 (fun r w => r = none ∧ w = [ob a_p1 7 [.ref a_p1_token, .int p1_size, .int p1_matches, .ref a_p1_literals, .ref a_p1_distances, .int p1_kind, .int p1_bits], ob a_p1_distances 1 [.ref a_p1_distances_count, .ref a_p1_distances_length], ia Z a_p1_distances_length 30 p1_distances_length, ob a_p1_literals 1 [.ref a_p1_literals_count, .ref a_p1_literals_length], ia Z a_p1_literals_length 286 p1_literals_length, ob a_t 10 [.ref a_t_came, .int o_t_bitCount, .ref a_t_literalCode, .ref a_t_distanceCode, .ref a_t_lengthCode, .ref a_t_next], ia Z a_t_came 518 o_t_came, ia Z a_t_distanceCode 30 t_distanceCode, ia Z a_t_literalCode 286 t_literalCode]) :=
  rx_met "DeflateEffort$Writer" "putMatch" mf_Writer_putMatch (Nat.le_of_ble_eq_true rfl) rfl (by rintro _ _ ⟨h9, _⟩; cases h9) (w_Writer_putMatch l Z 0 0 _ 0 0 F a_p1 a_p1_distances a_p1_distances_count a_p1_distances_length a_p1_literals a_p1_literals_count a_p1_literals_length a_p1_token a_t a_t_came a_t_distanceCode a_t_lengthCode a_t_literalCode a_t_next p1_bits p1_distances_length p1_kind p1_literals_length p1_matches p1_size t_bitCount t_came t_distanceCode t_literalCode x2 x3 x4 o_t_bitCount o_t_came hm ⟨rfl, rfl⟩)
abbrev J_Writer_putCoded (l : Launch) (Z : rx_D) (mc ms : Nat) (post : Option Value → va_W → Prop) := Rw l Z "DeflateEffort$Writer" "putCoded" b_Writer_putCoded 7 none 4 mc ms post
set_option maxRecDepth 100000 in
set_option maxHeartbeats 4000000 in
theorem wl_Writer_putCoded_88 (l : Launch) (Z : rx_D) (mc ms : Nat) (post : Option Value → va_W → Prop) (k n : Nat) (F : Nat) (a_p1 a_p1_distances a_p1_distances_count a_p1_distances_length a_p1_literals a_p1_literals_count a_p1_literals_length a_p1_token a_p2 a_p2_code a_p2_code_count a_p2_code_length a_p2_row a_t a_t_came a_t_distanceCode a_t_lengthCode a_t_literalCode a_t_next : Nat) (p1_bits : Int32) (p1_distances_length : Nat → Int32) (p1_kind : Int32) (p1_literals_length : Nat → Int32) (p1_matches p1_size : Int32) (p1_token p2_code_length : Nat → Int32) (p2_distances p2_literals : Int32) (p2_row : Nat → Int32) (p2_size p2_toldOfCode : Int32) (t_distanceCode1 t_lengthCode1 t_literalCode1 t_next1 : Nat → Int32) (z1 : Int32) : ∀ (f : Nat)  (v5_1 t_bitCount_4 : Int32) (t_came5 : Nat → Int32) (v5_2 t_bitCount_5 : Int32) (t_came6 : Nat → Int32), L_Writer_putCoded_88 F p1_distances_length p1_literals_length p1_size p1_token t_distanceCode1 t_literalCode1 z1 f v5_1 t_bitCount_4 t_came5 = some (v5_2, t_bitCount_5, t_came6) → (J_Writer_putCoded l Z mc ms post k n [ob a_p1 7 [.ref a_p1_token, .int p1_size, .int p1_matches, .ref a_p1_literals, .ref a_p1_distances, .int p1_kind, .int p1_bits], ob a_p1_distances 1 [.ref a_p1_distances_count, .ref a_p1_distances_length], ia Z a_p1_distances_length 30 p1_distances_length, ob a_p1_literals 1 [.ref a_p1_literals_count, .ref a_p1_literals_length], ia Z a_p1_literals_length 286 p1_literals_length, ia Z a_p1_token 512 p1_token, ob a_p2 5 [.ref a_p2_code, .ref a_p2_row, .int p2_size, .int p2_literals, .int p2_distances, .int p2_toldOfCode], ob a_p2_code 1 [.ref a_p2_code_count, .ref a_p2_code_length], ia Z a_p2_code_length 19 p2_code_length, ia Z a_p2_row 316 p2_row, ob a_t 10 [.ref a_t_came, .int t_bitCount_5, .ref a_t_literalCode, .ref a_t_distanceCode, .ref a_t_lengthCode, .ref a_t_next], ia Z a_t_came 518 t_came6, ia Z a_t_distanceCode 30 t_distanceCode1, ia Z a_t_lengthCode 19 t_lengthCode1, ia Z a_t_literalCode 286 t_literalCode1, ia Z a_t_next 17 t_next1] [(0, .ref a_t), (1, .ref a_p1), (4, .int z1)] 149 []) → J_Writer_putCoded l Z mc ms post k n [ob a_p1 7 [.ref a_p1_token, .int p1_size, .int p1_matches, .ref a_p1_literals, .ref a_p1_distances, .int p1_kind, .int p1_bits], ob a_p1_distances 1 [.ref a_p1_distances_count, .ref a_p1_distances_length], ia Z a_p1_distances_length 30 p1_distances_length, ob a_p1_literals 1 [.ref a_p1_literals_count, .ref a_p1_literals_length], ia Z a_p1_literals_length 286 p1_literals_length, ia Z a_p1_token 512 p1_token, ob a_p2 5 [.ref a_p2_code, .ref a_p2_row, .int p2_size, .int p2_literals, .int p2_distances, .int p2_toldOfCode], ob a_p2_code 1 [.ref a_p2_code_count, .ref a_p2_code_length], ia Z a_p2_code_length 19 p2_code_length, ia Z a_p2_row 316 p2_row, ob a_t 10 [.ref a_t_came, .int t_bitCount_4, .ref a_t_literalCode, .ref a_t_distanceCode, .ref a_t_lengthCode, .ref a_t_next], ia Z a_t_came 518 t_came5, ia Z a_t_distanceCode 30 t_distanceCode1, ia Z a_t_lengthCode 19 t_lengthCode1, ia Z a_t_literalCode 286 t_literalCode1, ia Z a_t_next 17 t_next1] [(0, .ref a_t), (1, .ref a_p1), (4, .int z1), (5, .int v5_1)] 88 [] := by
  intro f
  induction f with
  | zero =>
    intro v5_1 t_bitCount_4 t_came5 v5_2 t_bitCount_5 t_came6 hm K
    cases hm
  | succ f ih =>
    intro v5_1 t_bitCount_4 t_came5 v5_2 t_bitCount_5 t_came6 hm K
    have hm : B_Writer_putCoded_88 F p1_distances_length p1_literals_length p1_size p1_token t_distanceCode1 t_literalCode1 z1 (L_Writer_putCoded_88 F p1_distances_length p1_literals_length p1_size p1_token t_distanceCode1 t_literalCode1 z1 f) v5_1 t_bitCount_4 t_came5 = some (v5_2, t_bitCount_5, t_came6) := hm
    unfold B_Writer_putCoded_88 at hm
    refine rw_iload (pc := 88) 3 rfl (rx_dt dt_Writer_putCoded 45 rfl) ?_
    refine rw_aload_n (pc := 90) 1 rfl rfl (rx_dt dt_Writer_putCoded 46 rfl) ?_
    refine rw_get fa_Writer_75 (pc := 91) 0 rfl rfl (rx_dt dt_Writer_putCoded 47 rfl) ?_
    rcases ite_some hm with ⟨hc, hm⟩ | ⟨hc, hm⟩
    · refine rw_icmp_ge_t (pc := 94) (tgt := 149) hc (by decide) (rx_dt dt_Writer_putCoded 48 rfl) ?_
      refine rw_perm (lv' := [(0, .ref a_t), (1, .ref a_p1), (4, .int z1)]) (ws' := [ob a_p1 7 [.ref a_p1_token, .int p1_size, .int p1_matches, .ref a_p1_literals, .ref a_p1_distances, .int p1_kind, .int p1_bits], ob a_p1_distances 1 [.ref a_p1_distances_count, .ref a_p1_distances_length], ia Z a_p1_distances_length 30 p1_distances_length, ob a_p1_literals 1 [.ref a_p1_literals_count, .ref a_p1_literals_length], ia Z a_p1_literals_length 286 p1_literals_length, ia Z a_p1_token 512 p1_token, ob a_p2 5 [.ref a_p2_code, .ref a_p2_row, .int p2_size, .int p2_literals, .int p2_distances, .int p2_toldOfCode], ob a_p2_code 1 [.ref a_p2_code_count, .ref a_p2_code_length], ia Z a_p2_code_length 19 p2_code_length, ia Z a_p2_row 316 p2_row, ob a_t 10 [.ref a_t_came, .int t_bitCount_4, .ref a_t_literalCode, .ref a_t_distanceCode, .ref a_t_lengthCode, .ref a_t_next], ia Z a_t_came 518 t_came5, ia Z a_t_distanceCode 30 t_distanceCode1, ia Z a_t_lengthCode 19 t_lengthCode1, ia Z a_t_literalCode 286 t_literalCode1, ia Z a_t_next 17 t_next1]) [0, 1, 2] [0, 1, 2, 3, 4, 5, 6, 7, 8, 9, 10, 11, 12, 13, 14, 15] rfl rfl rfl ?_
      cases hm
      exact K
    · refine rw_icmp_ge_f (pc := 94) (tgt := 149) hc (by decide) (rx_dt dt_Writer_putCoded 48 rfl) ?_
      refine rw_aload_n (pc := 97) 1 rfl rfl (rx_dt dt_Writer_putCoded 49 rfl) ?_
      refine rw_get fa_Writer_78 (pc := 98) 0 rfl rfl (rx_dt dt_Writer_putCoded 50 rfl) ?_
      refine rw_iload (pc := 101) 3 rfl (rx_dt dt_Writer_putCoded 51 rfl) ?_
      obtain ⟨hk1, hm⟩ := chk_some hm
      refine rw_iald (pc := 103) 5 rfl hk1 (rx_dt dt_Writer_putCoded 52 rfl) ?_
      obtain ⟨y1, hy1, hm⟩ := nm_some hm
      refine rw_nm hy1 ?_
      refine rw_istore (pc := 104) (lv' := [(6, .int y1), (0, .ref a_t), (1, .ref a_p1), (4, .int z1), (5, .int v5_1)]) (by decide) rfl (rx_dt dt_Writer_putCoded 53 rfl) ?_
      refine rw_iload (pc := 106) 0 rfl (rx_dt dt_Writer_putCoded 54 rfl) ?_
      obtain ⟨r1, hq, hm⟩ := bnd1_some hm
      refine rw_callS cw_DE_tokenLength lk_Writer_81 cs_DE_tokenLength (c_DE_tokenLength l Z F (x0 := y1) (r0 := r1) hq) [] [0, 1, 2, 3, 4, 5, 6, 7, 8, 9, 10, 11, 12, 13, 14, 15] rfl rfl rfl rfl (by decide) rfl (by decide) (fun h => h) (rest := []) (wr := [ob a_p1 7 [.ref a_p1_token, .int p1_size, .int p1_matches, .ref a_p1_literals, .ref a_p1_distances, .int p1_kind, .int p1_bits], ob a_p1_distances 1 [.ref a_p1_distances_count, .ref a_p1_distances_length], ia Z a_p1_distances_length 30 p1_distances_length, ob a_p1_literals 1 [.ref a_p1_literals_count, .ref a_p1_literals_length], ia Z a_p1_literals_length 286 p1_literals_length, ia Z a_p1_token 512 p1_token, ob a_p2 5 [.ref a_p2_code, .ref a_p2_row, .int p2_size, .int p2_literals, .int p2_distances, .int p2_toldOfCode], ob a_p2_code 1 [.ref a_p2_code_count, .ref a_p2_code_length], ia Z a_p2_code_length 19 p2_code_length, ia Z a_p2_row 316 p2_row, ob a_t 10 [.ref a_t_came, .int t_bitCount_4, .ref a_t_literalCode, .ref a_t_distanceCode, .ref a_t_lengthCode, .ref a_t_next], ia Z a_t_came 518 t_came5, ia Z a_t_distanceCode 30 t_distanceCode1, ia Z a_t_lengthCode 19 t_lengthCode1, ia Z a_t_literalCode 286 t_literalCode1, ia Z a_t_next 17 t_next1]) (Nat.le_of_ble_eq_true rfl) rfl (rx_dt dt_Writer_putCoded 55 rfl) (pc := 108) ?_
      rintro _ _ ⟨rfl, rfl⟩
      show J_Writer_putCoded l Z mc ms post k n [ob a_p1 7 [.ref a_p1_token, .int p1_size, .int p1_matches, .ref a_p1_literals, .ref a_p1_distances, .int p1_kind, .int p1_bits], ob a_p1_distances 1 [.ref a_p1_distances_count, .ref a_p1_distances_length], ia Z a_p1_distances_length 30 p1_distances_length, ob a_p1_literals 1 [.ref a_p1_literals_count, .ref a_p1_literals_length], ia Z a_p1_literals_length 286 p1_literals_length, ia Z a_p1_token 512 p1_token, ob a_p2 5 [.ref a_p2_code, .ref a_p2_row, .int p2_size, .int p2_literals, .int p2_distances, .int p2_toldOfCode], ob a_p2_code 1 [.ref a_p2_code_count, .ref a_p2_code_length], ia Z a_p2_code_length 19 p2_code_length, ia Z a_p2_row 316 p2_row, ob a_t 10 [.ref a_t_came, .int t_bitCount_4, .ref a_t_literalCode, .ref a_t_distanceCode, .ref a_t_lengthCode, .ref a_t_next], ia Z a_t_came 518 t_came5, ia Z a_t_distanceCode 30 t_distanceCode1, ia Z a_t_lengthCode 19 t_lengthCode1, ia Z a_t_literalCode 286 t_literalCode1, ia Z a_t_next 17 t_next1] [(6, .int y1), (0, .ref a_t), (1, .ref a_p1), (4, .int z1), (5, .int v5_1)] 111 [.int r1]
      obtain ⟨z3, t_came7, hj, hm⟩ := bnd2_some hm
      have KJ : J_Writer_putCoded l Z mc ms post k n [ob a_p1 7 [.ref a_p1_token, .int p1_size, .int p1_matches, .ref a_p1_literals, .ref a_p1_distances, .int p1_kind, .int p1_bits], ob a_p1_distances 1 [.ref a_p1_distances_count, .ref a_p1_distances_length], ia Z a_p1_distances_length 30 p1_distances_length, ob a_p1_literals 1 [.ref a_p1_literals_count, .ref a_p1_literals_length], ia Z a_p1_literals_length 286 p1_literals_length, ia Z a_p1_token 512 p1_token, ob a_p2 5 [.ref a_p2_code, .ref a_p2_row, .int p2_size, .int p2_literals, .int p2_distances, .int p2_toldOfCode], ob a_p2_code 1 [.ref a_p2_code_count, .ref a_p2_code_length], ia Z a_p2_code_length 19 p2_code_length, ia Z a_p2_row 316 p2_row, ob a_t 10 [.ref a_t_came, .int z3, .ref a_t_literalCode, .ref a_t_distanceCode, .ref a_t_lengthCode, .ref a_t_next], ia Z a_t_came 518 t_came7, ia Z a_t_distanceCode 30 t_distanceCode1, ia Z a_t_lengthCode 19 t_lengthCode1, ia Z a_t_literalCode 286 t_literalCode1, ia Z a_t_next 17 t_next1] [(0, .ref a_t), (1, .ref a_p1), (4, .int z1), (5, .int v5_1)] 143 [] := by
        obtain ⟨y2, hy2, hm⟩ := nm_some hm
        refine rw_iinc (pc := 143) (lv' := [(5, .int y2), (0, .ref a_t), (1, .ref a_p1), (4, .int z1)]) 3 rfl hy2 (by decide) rfl (rx_dt dt_Writer_putCoded 71 rfl) ?_
        refine rw_goto (pc := 146) (tgt := 88) (by decide) (rx_dt dt_Writer_putCoded 72 rfl) ?_
        refine rw_perm (lv' := [(0, .ref a_t), (1, .ref a_p1), (4, .int z1), (5, .int y2)]) (ws' := [ob a_p1 7 [.ref a_p1_token, .int p1_size, .int p1_matches, .ref a_p1_literals, .ref a_p1_distances, .int p1_kind, .int p1_bits], ob a_p1_distances 1 [.ref a_p1_distances_count, .ref a_p1_distances_length], ia Z a_p1_distances_length 30 p1_distances_length, ob a_p1_literals 1 [.ref a_p1_literals_count, .ref a_p1_literals_length], ia Z a_p1_literals_length 286 p1_literals_length, ia Z a_p1_token 512 p1_token, ob a_p2 5 [.ref a_p2_code, .ref a_p2_row, .int p2_size, .int p2_literals, .int p2_distances, .int p2_toldOfCode], ob a_p2_code 1 [.ref a_p2_code_count, .ref a_p2_code_length], ia Z a_p2_code_length 19 p2_code_length, ia Z a_p2_row 316 p2_row, ob a_t 10 [.ref a_t_came, .int z3, .ref a_t_literalCode, .ref a_t_distanceCode, .ref a_t_lengthCode, .ref a_t_next], ia Z a_t_came 518 t_came7, ia Z a_t_distanceCode 30 t_distanceCode1, ia Z a_t_lengthCode 19 t_lengthCode1, ia Z a_t_literalCode 286 t_literalCode1, ia Z a_t_next 17 t_next1]) [1, 2, 3, 0] [0, 1, 2, 3, 4, 5, 6, 7, 8, 9, 10, 11, 12, 13, 14, 15] rfl rfl rfl ?_
        exact ih  _ _ _ _ _ _ hm K
      clear hm
      have hm := hj
      clear hj
      rcases ite_some hm with ⟨hc, hm⟩ | ⟨hc, hm⟩
      · refine rw_if_ne_f (pc := 111) (tgt := 126) hc (by decide) (rx_dt dt_Writer_putCoded 56 rfl) ?_
        refine rw_aload_n (pc := 114) 1 rfl rfl (rx_dt dt_Writer_putCoded 57 rfl) ?_
        refine rw_aload_n (pc := 115) 2 rfl rfl (rx_dt dt_Writer_putCoded 58 rfl) ?_
        refine rw_iload (pc := 116) 3 rfl (rx_dt dt_Writer_putCoded 59 rfl) ?_
        refine rw_iload (pc := 118) 0 rfl (rx_dt dt_Writer_putCoded 60 rfl) ?_
        obtain ⟨t_bitCount_6, t_came8, hq, hm⟩ := bnd2_some hm
        refine rw_callV cw_Writer_putLiteral lk_Writer_85 ci_Writer_putLiteral rfl (q := 10) rfl (c_Writer_putLiteral l Z F (a_p1 := a_p1) (a_p1_distances := a_p1_distances) (a_p1_literals := a_p1_literals) (a_p1_literals_count := a_p1_literals_count) (a_p1_literals_length := a_p1_literals_length) (a_p1_token := a_p1_token) (a_t := a_t) (a_t_came := a_t_came) (a_t_distanceCode := a_t_distanceCode) (a_t_lengthCode := a_t_lengthCode) (a_t_literalCode := a_t_literalCode) (a_t_next := a_t_next) (p1_bits := p1_bits) (p1_kind := p1_kind) (p1_literals_length := p1_literals_length) (p1_matches := p1_matches) (p1_size := p1_size) (t_bitCount := t_bitCount_4) (t_came := t_came5) (t_literalCode := t_literalCode1) (x2 := z1) (x3 := y1) (o_t_bitCount := t_bitCount_6) (o_t_came := t_came8) hq) [0, 3, 4, 10, 11, 14] [1, 2, 5, 6, 7, 8, 9, 12, 13, 15] rfl rfl rfl rfl (by decide) rfl (by decide) (fun h => h) (rest := []) (wr := [ob a_p1_distances 1 [.ref a_p1_distances_count, .ref a_p1_distances_length], ia Z a_p1_distances_length 30 p1_distances_length, ia Z a_p1_token 512 p1_token, ob a_p2 5 [.ref a_p2_code, .ref a_p2_row, .int p2_size, .int p2_literals, .int p2_distances, .int p2_toldOfCode], ob a_p2_code 1 [.ref a_p2_code_count, .ref a_p2_code_length], ia Z a_p2_code_length 19 p2_code_length, ia Z a_p2_row 316 p2_row, ia Z a_t_distanceCode 30 t_distanceCode1, ia Z a_t_lengthCode 19 t_lengthCode1, ia Z a_t_next 17 t_next1]) (Nat.le_of_ble_eq_true rfl) rfl (rx_dt dt_Writer_putCoded 61 rfl) (pc := 120) ?_
        rintro _ _ ⟨rfl, rfl⟩
        show J_Writer_putCoded l Z mc ms post k n [ob a_p1_distances 1 [.ref a_p1_distances_count, .ref a_p1_distances_length], ia Z a_p1_distances_length 30 p1_distances_length, ia Z a_p1_token 512 p1_token, ob a_p2 5 [.ref a_p2_code, .ref a_p2_row, .int p2_size, .int p2_literals, .int p2_distances, .int p2_toldOfCode], ob a_p2_code 1 [.ref a_p2_code_count, .ref a_p2_code_length], ia Z a_p2_code_length 19 p2_code_length, ia Z a_p2_row 316 p2_row, ia Z a_t_distanceCode 30 t_distanceCode1, ia Z a_t_lengthCode 19 t_lengthCode1, ia Z a_t_next 17 t_next1, ob a_p1 7 [.ref a_p1_token, .int p1_size, .int p1_matches, .ref a_p1_literals, .ref a_p1_distances, .int p1_kind, .int p1_bits], ob a_p1_literals 1 [.ref a_p1_literals_count, .ref a_p1_literals_length], ia Z a_p1_literals_length 286 p1_literals_length, ob a_t 10 [.ref a_t_came, .int t_bitCount_6, .ref a_t_literalCode, .ref a_t_distanceCode, .ref a_t_lengthCode, .ref a_t_next], ia Z a_t_came 518 t_came8, ia Z a_t_literalCode 286 t_literalCode1] [(6, .int y1), (0, .ref a_t), (1, .ref a_p1), (4, .int z1), (5, .int v5_1)] 123 []
        refine rw_goto (pc := 123) (tgt := 143) (by decide) (rx_dt dt_Writer_putCoded 62 rfl) ?_
        refine rw_perm (lv' := [(0, .ref a_t), (1, .ref a_p1), (4, .int z1), (5, .int v5_1)]) (ws' := [ob a_p1 7 [.ref a_p1_token, .int p1_size, .int p1_matches, .ref a_p1_literals, .ref a_p1_distances, .int p1_kind, .int p1_bits], ob a_p1_distances 1 [.ref a_p1_distances_count, .ref a_p1_distances_length], ia Z a_p1_distances_length 30 p1_distances_length, ob a_p1_literals 1 [.ref a_p1_literals_count, .ref a_p1_literals_length], ia Z a_p1_literals_length 286 p1_literals_length, ia Z a_p1_token 512 p1_token, ob a_p2 5 [.ref a_p2_code, .ref a_p2_row, .int p2_size, .int p2_literals, .int p2_distances, .int p2_toldOfCode], ob a_p2_code 1 [.ref a_p2_code_count, .ref a_p2_code_length], ia Z a_p2_code_length 19 p2_code_length, ia Z a_p2_row 316 p2_row, ob a_t 10 [.ref a_t_came, .int t_bitCount_6, .ref a_t_literalCode, .ref a_t_distanceCode, .ref a_t_lengthCode, .ref a_t_next], ia Z a_t_came 518 t_came8, ia Z a_t_distanceCode 30 t_distanceCode1, ia Z a_t_lengthCode 19 t_lengthCode1, ia Z a_t_literalCode 286 t_literalCode1, ia Z a_t_next 17 t_next1]) [1, 2, 3, 4] [10, 0, 1, 11, 12, 2, 3, 4, 5, 6, 13, 14, 7, 8, 15, 9] rfl rfl rfl ?_
        cases hm
        exact KJ
      · refine rw_if_ne_t (pc := 111) (tgt := 126) hc (by decide) (rx_dt dt_Writer_putCoded 56 rfl) ?_
        refine rw_aload_n (pc := 126) 1 rfl rfl (rx_dt dt_Writer_putCoded 63 rfl) ?_
        refine rw_aload_n (pc := 127) 2 rfl rfl (rx_dt dt_Writer_putCoded 64 rfl) ?_
        refine rw_iload (pc := 128) 3 rfl (rx_dt dt_Writer_putCoded 65 rfl) ?_
        refine rw_iload (pc := 130) 0 rfl (rx_dt dt_Writer_putCoded 66 rfl) ?_
        obtain ⟨r2, hq, hm⟩ := bnd1_some hm
        refine rw_callS cw_DE_tokenLength lk_Writer_81 cs_DE_tokenLength (c_DE_tokenLength l Z F (x0 := y1) (r0 := r2) hq) [] [0, 1, 2, 3, 4, 5, 6, 7, 8, 9, 10, 11, 12, 13, 14, 15] rfl rfl rfl rfl (by decide) rfl (by decide) (fun h => h) (rest := [.int z1, .ref a_p1, .ref a_t]) (wr := [ob a_p1 7 [.ref a_p1_token, .int p1_size, .int p1_matches, .ref a_p1_literals, .ref a_p1_distances, .int p1_kind, .int p1_bits], ob a_p1_distances 1 [.ref a_p1_distances_count, .ref a_p1_distances_length], ia Z a_p1_distances_length 30 p1_distances_length, ob a_p1_literals 1 [.ref a_p1_literals_count, .ref a_p1_literals_length], ia Z a_p1_literals_length 286 p1_literals_length, ia Z a_p1_token 512 p1_token, ob a_p2 5 [.ref a_p2_code, .ref a_p2_row, .int p2_size, .int p2_literals, .int p2_distances, .int p2_toldOfCode], ob a_p2_code 1 [.ref a_p2_code_count, .ref a_p2_code_length], ia Z a_p2_code_length 19 p2_code_length, ia Z a_p2_row 316 p2_row, ob a_t 10 [.ref a_t_came, .int t_bitCount_4, .ref a_t_literalCode, .ref a_t_distanceCode, .ref a_t_lengthCode, .ref a_t_next], ia Z a_t_came 518 t_came5, ia Z a_t_distanceCode 30 t_distanceCode1, ia Z a_t_lengthCode 19 t_lengthCode1, ia Z a_t_literalCode 286 t_literalCode1, ia Z a_t_next 17 t_next1]) (Nat.le_of_ble_eq_true rfl) rfl (rx_dt dt_Writer_putCoded 67 rfl) (pc := 132) ?_
        rintro _ _ ⟨rfl, rfl⟩
        show J_Writer_putCoded l Z mc ms post k n [ob a_p1 7 [.ref a_p1_token, .int p1_size, .int p1_matches, .ref a_p1_literals, .ref a_p1_distances, .int p1_kind, .int p1_bits], ob a_p1_distances 1 [.ref a_p1_distances_count, .ref a_p1_distances_length], ia Z a_p1_distances_length 30 p1_distances_length, ob a_p1_literals 1 [.ref a_p1_literals_count, .ref a_p1_literals_length], ia Z a_p1_literals_length 286 p1_literals_length, ia Z a_p1_token 512 p1_token, ob a_p2 5 [.ref a_p2_code, .ref a_p2_row, .int p2_size, .int p2_literals, .int p2_distances, .int p2_toldOfCode], ob a_p2_code 1 [.ref a_p2_code_count, .ref a_p2_code_length], ia Z a_p2_code_length 19 p2_code_length, ia Z a_p2_row 316 p2_row, ob a_t 10 [.ref a_t_came, .int t_bitCount_4, .ref a_t_literalCode, .ref a_t_distanceCode, .ref a_t_lengthCode, .ref a_t_next], ia Z a_t_came 518 t_came5, ia Z a_t_distanceCode 30 t_distanceCode1, ia Z a_t_lengthCode 19 t_lengthCode1, ia Z a_t_literalCode 286 t_literalCode1, ia Z a_t_next 17 t_next1] [(6, .int y1), (0, .ref a_t), (1, .ref a_p1), (4, .int z1), (5, .int v5_1)] 135 [.int r2, .int z1, .ref a_p1, .ref a_t]
        refine rw_iload (pc := 135) 0 rfl (rx_dt dt_Writer_putCoded 68 rfl) ?_
        obtain ⟨r3, hq, hm⟩ := bnd1_some hm
        refine rw_callS cw_DE_tokenDistance lk_Writer_89 cs_DE_tokenDistance (c_DE_tokenDistance l Z F (x0 := y1) (r0 := r3) hq) [] [0, 1, 2, 3, 4, 5, 6, 7, 8, 9, 10, 11, 12, 13, 14, 15] rfl rfl rfl rfl (by decide) rfl (by decide) (fun h => h) (rest := [.int r2, .int z1, .ref a_p1, .ref a_t]) (wr := [ob a_p1 7 [.ref a_p1_token, .int p1_size, .int p1_matches, .ref a_p1_literals, .ref a_p1_distances, .int p1_kind, .int p1_bits], ob a_p1_distances 1 [.ref a_p1_distances_count, .ref a_p1_distances_length], ia Z a_p1_distances_length 30 p1_distances_length, ob a_p1_literals 1 [.ref a_p1_literals_count, .ref a_p1_literals_length], ia Z a_p1_literals_length 286 p1_literals_length, ia Z a_p1_token 512 p1_token, ob a_p2 5 [.ref a_p2_code, .ref a_p2_row, .int p2_size, .int p2_literals, .int p2_distances, .int p2_toldOfCode], ob a_p2_code 1 [.ref a_p2_code_count, .ref a_p2_code_length], ia Z a_p2_code_length 19 p2_code_length, ia Z a_p2_row 316 p2_row, ob a_t 10 [.ref a_t_came, .int t_bitCount_4, .ref a_t_literalCode, .ref a_t_distanceCode, .ref a_t_lengthCode, .ref a_t_next], ia Z a_t_came 518 t_came5, ia Z a_t_distanceCode 30 t_distanceCode1, ia Z a_t_lengthCode 19 t_lengthCode1, ia Z a_t_literalCode 286 t_literalCode1, ia Z a_t_next 17 t_next1]) (Nat.le_of_ble_eq_true rfl) rfl (rx_dt dt_Writer_putCoded 69 rfl) (pc := 137) ?_
        rintro _ _ ⟨rfl, rfl⟩
        show J_Writer_putCoded l Z mc ms post k n [ob a_p1 7 [.ref a_p1_token, .int p1_size, .int p1_matches, .ref a_p1_literals, .ref a_p1_distances, .int p1_kind, .int p1_bits], ob a_p1_distances 1 [.ref a_p1_distances_count, .ref a_p1_distances_length], ia Z a_p1_distances_length 30 p1_distances_length, ob a_p1_literals 1 [.ref a_p1_literals_count, .ref a_p1_literals_length], ia Z a_p1_literals_length 286 p1_literals_length, ia Z a_p1_token 512 p1_token, ob a_p2 5 [.ref a_p2_code, .ref a_p2_row, .int p2_size, .int p2_literals, .int p2_distances, .int p2_toldOfCode], ob a_p2_code 1 [.ref a_p2_code_count, .ref a_p2_code_length], ia Z a_p2_code_length 19 p2_code_length, ia Z a_p2_row 316 p2_row, ob a_t 10 [.ref a_t_came, .int t_bitCount_4, .ref a_t_literalCode, .ref a_t_distanceCode, .ref a_t_lengthCode, .ref a_t_next], ia Z a_t_came 518 t_came5, ia Z a_t_distanceCode 30 t_distanceCode1, ia Z a_t_lengthCode 19 t_lengthCode1, ia Z a_t_literalCode 286 t_literalCode1, ia Z a_t_next 17 t_next1] [(6, .int y1), (0, .ref a_t), (1, .ref a_p1), (4, .int z1), (5, .int v5_1)] 140 [.int r3, .int r2, .int z1, .ref a_p1, .ref a_t]
        obtain ⟨t_bitCount_7, t_came9, hq, hm⟩ := bnd2_some hm
        refine rw_callV cw_Writer_putMatch lk_Writer_92 ci_Writer_putMatch rfl (q := 10) rfl (c_Writer_putMatch l Z F (a_p1 := a_p1) (a_p1_distances := a_p1_distances) (a_p1_distances_count := a_p1_distances_count) (a_p1_distances_length := a_p1_distances_length) (a_p1_literals := a_p1_literals) (a_p1_literals_count := a_p1_literals_count) (a_p1_literals_length := a_p1_literals_length) (a_p1_token := a_p1_token) (a_t := a_t) (a_t_came := a_t_came) (a_t_distanceCode := a_t_distanceCode) (a_t_lengthCode := a_t_lengthCode) (a_t_literalCode := a_t_literalCode) (a_t_next := a_t_next) (p1_bits := p1_bits) (p1_distances_length := p1_distances_length) (p1_kind := p1_kind) (p1_literals_length := p1_literals_length) (p1_matches := p1_matches) (p1_size := p1_size) (t_bitCount := t_bitCount_4) (t_came := t_came5) (t_distanceCode := t_distanceCode1) (t_literalCode := t_literalCode1) (x2 := z1) (x3 := r2) (x4 := r3) (o_t_bitCount := t_bitCount_7) (o_t_came := t_came9) hq) [0, 1, 2, 3, 4, 10, 11, 12, 14] [5, 6, 7, 8, 9, 13, 15] rfl rfl rfl rfl (by decide) rfl (by decide) (fun h => h) (rest := []) (wr := [ia Z a_p1_token 512 p1_token, ob a_p2 5 [.ref a_p2_code, .ref a_p2_row, .int p2_size, .int p2_literals, .int p2_distances, .int p2_toldOfCode], ob a_p2_code 1 [.ref a_p2_code_count, .ref a_p2_code_length], ia Z a_p2_code_length 19 p2_code_length, ia Z a_p2_row 316 p2_row, ia Z a_t_lengthCode 19 t_lengthCode1, ia Z a_t_next 17 t_next1]) (Nat.le_of_ble_eq_true rfl) rfl (rx_dt dt_Writer_putCoded 70 rfl) (pc := 140) ?_
        rintro _ _ ⟨rfl, rfl⟩
        show J_Writer_putCoded l Z mc ms post k n [ia Z a_p1_token 512 p1_token, ob a_p2 5 [.ref a_p2_code, .ref a_p2_row, .int p2_size, .int p2_literals, .int p2_distances, .int p2_toldOfCode], ob a_p2_code 1 [.ref a_p2_code_count, .ref a_p2_code_length], ia Z a_p2_code_length 19 p2_code_length, ia Z a_p2_row 316 p2_row, ia Z a_t_lengthCode 19 t_lengthCode1, ia Z a_t_next 17 t_next1, ob a_p1 7 [.ref a_p1_token, .int p1_size, .int p1_matches, .ref a_p1_literals, .ref a_p1_distances, .int p1_kind, .int p1_bits], ob a_p1_distances 1 [.ref a_p1_distances_count, .ref a_p1_distances_length], ia Z a_p1_distances_length 30 p1_distances_length, ob a_p1_literals 1 [.ref a_p1_literals_count, .ref a_p1_literals_length], ia Z a_p1_literals_length 286 p1_literals_length, ob a_t 10 [.ref a_t_came, .int t_bitCount_7, .ref a_t_literalCode, .ref a_t_distanceCode, .ref a_t_lengthCode, .ref a_t_next], ia Z a_t_came 518 t_came9, ia Z a_t_distanceCode 30 t_distanceCode1, ia Z a_t_literalCode 286 t_literalCode1] [(6, .int y1), (0, .ref a_t), (1, .ref a_p1), (4, .int z1), (5, .int v5_1)] 143 []
        refine rw_perm (lv' := [(0, .ref a_t), (1, .ref a_p1), (4, .int z1), (5, .int v5_1)]) (ws' := [ob a_p1 7 [.ref a_p1_token, .int p1_size, .int p1_matches, .ref a_p1_literals, .ref a_p1_distances, .int p1_kind, .int p1_bits], ob a_p1_distances 1 [.ref a_p1_distances_count, .ref a_p1_distances_length], ia Z a_p1_distances_length 30 p1_distances_length, ob a_p1_literals 1 [.ref a_p1_literals_count, .ref a_p1_literals_length], ia Z a_p1_literals_length 286 p1_literals_length, ia Z a_p1_token 512 p1_token, ob a_p2 5 [.ref a_p2_code, .ref a_p2_row, .int p2_size, .int p2_literals, .int p2_distances, .int p2_toldOfCode], ob a_p2_code 1 [.ref a_p2_code_count, .ref a_p2_code_length], ia Z a_p2_code_length 19 p2_code_length, ia Z a_p2_row 316 p2_row, ob a_t 10 [.ref a_t_came, .int t_bitCount_7, .ref a_t_literalCode, .ref a_t_distanceCode, .ref a_t_lengthCode, .ref a_t_next], ia Z a_t_came 518 t_came9, ia Z a_t_distanceCode 30 t_distanceCode1, ia Z a_t_lengthCode 19 t_lengthCode1, ia Z a_t_literalCode 286 t_literalCode1, ia Z a_t_next 17 t_next1]) [1, 2, 3, 4] [7, 8, 9, 10, 11, 0, 1, 2, 3, 4, 12, 13, 14, 5, 15, 6] rfl rfl rfl ?_
        cases hm
        exact KJ
