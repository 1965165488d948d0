/-! new objects -/
set_option maxRecDepth 100000 in
set_option maxHeartbeats 4000000 in
theorem bx_init (l : Launch) (Z : rx_D) (q : Nat) (x1 x2 : Int32) (o_t_reader_fixedDistances_3 : Int32) (o_t_reader_fixedDistances_4 : Int32) (o_t_reader_fixedDistances_5 : Int32) (o_t_reader_fixedDistances_next : Nat → Int32) (o_t_reader_fixedDistances_perLength : Nat → Int32) (o_t_reader_fixedDistances_symbol : Nat → Int32) (o_t_reader_fixedLiterals_3 : Int32) (o_t_reader_fixedLiterals_4 : Int32) (o_t_reader_fixedLiterals_5 : Int32) (o_t_reader_fixedLiterals_next : Nat → Int32) (o_t_reader_fixedLiterals_perLength : Nat → Int32) (o_t_reader_fixedLiterals_symbol : Nat → Int32) (o_t_reader_length : Nat → Int32) (hm : m_DE_init 100000 x2 = some (o_t_reader_fixedDistances_3, o_t_reader_fixedDistances_4, o_t_reader_fixedDistances_5, o_t_reader_fixedDistances_next, o_t_reader_fixedDistances_perLength, o_t_reader_fixedDistances_symbol, o_t_reader_fixedLiterals_3, o_t_reader_fixedLiterals_4, o_t_reader_fixedLiterals_5, o_t_reader_fixedLiterals_next, o_t_reader_fixedLiterals_perLength, o_t_reader_fixedLiterals_symbol, o_t_reader_length)) (rm : Nat) (hrm : (imax (1 : Int32) (imax (1 : Int32) (imin (2000 : Int32) x2))).toNatClampNeg = rm) : Cn l Z y_DE_init b_DE_init 3 none 4 [.ref q, .int x1, .int x2] [ob q 11 [.int (0 : Int32), .int (0 : Int32), .null, .int (0 : Int32), .null, .null, .null, .int (0 : Int32), .null]] 77 48830 (fun r w => r = none ∧ ∃ a2 : Nat → Nat, a2 0 = q ∧ w = blkX Z a2 rm (pk [(imax (0 : Int32) (imin (9 : Int32) x1)), (imax (1 : Int32) (imin (2000 : Int32) x2)), (0 : Int32), (0 : Int32), (imax (0 : Int32) (imin (9 : Int32) x1)), (0 : Int32), (0 : Int32), (0 : Int32), (0 : Int32), (0 : Int32), (0 : Int32), (0 : Int32), (0 : Int32), (0 : Int32), (0 : Int32), (0 : Int32), (0 : Int32), (0 : Int32), (0 : Int32), (0 : Int32), (-1 : Int32), (-1 : Int32), (0 : Int32), (0 : Int32), (0 : Int32), (0 : Int32), (0 : Int32), o_t_reader_fixedDistances_3, o_t_reader_fixedDistances_4, o_t_reader_fixedDistances_5, o_t_reader_fixedLiterals_3, o_t_reader_fixedLiterals_4, o_t_reader_fixedLiterals_5, (0 : Int32), (0 : Int32), (0 : Int32), (0 : Int32), (0 : Int32), (0 : Int32), (0 : Int32), (0 : Int32), (0 : Int32), (0 : Int32)] 0) (pk [(fun _ => (0 : Int32)), (fun _ => (0 : Int32)), (fun _ => (0 : Int32)), (fun _ => (0 : Int32)), (fun _ => (0 : Int32)), (fun _ => (0 : Int32)), (fun _ => (0 : Int32)), (fun _ => (0 : Int32)), (fun _ => (0 : Int32)), (fun _ => (0 : Int32)), (fun _ => (0 : Int32)), (fun _ => (0 : Int32)), (fun _ => (0 : Int32)), (fun _ => (0 : Int32)), (fun _ => (0 : Int32)), (fun _ => (0 : Int32)), (fun _ => (0 : Int32)), (fun _ => (0 : Int32)), (fun _ => (0 : Int32)), (fun _ => (0 : Int32)), (fun _ => (0 : Int32)), (fun _ => (0 : Int32)), (fun _ => (0 : Int32)), (fun _ => (0 : Int32)), (fun _ => (0 : Int32)), (fun _ => (0 : Int32)), (fun _ => (0 : Int32)), o_t_reader_fixedDistances_next, o_t_reader_fixedDistances_perLength, o_t_reader_fixedDistances_symbol, o_t_reader_fixedLiterals_next, o_t_reader_fixedLiterals_perLength, o_t_reader_fixedLiterals_symbol, (fun _ => (0 : Int32)), o_t_reader_length, (fun _ => (0 : Int32)), (fun _ => (0 : Int32)), (fun _ => (0 : Int32)), (fun _ => (0 : Int32)), (fun _ => (0 : Int32)), (fun _ => (0 : Int32)), (fun _ => (0 : Int32)), (fun _ => (0 : Int32)), (fun _ => (0 : Int32)), (fun _ => (0 : Int32)), (fun _ => (0 : Int32)), (fun _ => (0 : Int32)), (fun _ => (0 : Int32)), (fun _ => (0 : Int32))] (fun _ => 0)) (fun _ _ => 0) (fun _ _ => 0)) := by
  subst hrm
  refine Cn_mono (c_DE_init l Z 100000 q x1 x2 o_t_reader_fixedDistances_3 o_t_reader_fixedDistances_4 o_t_reader_fixedDistances_5 o_t_reader_fixedDistances_next o_t_reader_fixedDistances_perLength o_t_reader_fixedDistances_symbol o_t_reader_fixedLiterals_3 o_t_reader_fixedLiterals_4 o_t_reader_fixedLiterals_5 o_t_reader_fixedLiterals_next o_t_reader_fixedLiterals_perLength o_t_reader_fixedLiterals_symbol o_t_reader_length hm) ?_
  rintro r w ⟨rfl, H⟩
  obtain ⟨e_t_coded, H⟩ := H
  obtain ⟨e_t_cutter, H⟩ := H
  obtain ⟨e_t_cutter_best, H⟩ := H
  obtain ⟨e_t_cutter_best_0, H⟩ := H
  obtain ⟨e_t_cutter_best_0_token, H⟩ := H
  obtain ⟨e_t_cutter_best_1, H⟩ := H
  obtain ⟨e_t_cutter_best_1_token, H⟩ := H
  obtain ⟨e_t_cutter_best_2, H⟩ := H
  obtain ⟨e_t_cutter_best_2_token, H⟩ := H
  obtain ⟨e_t_cutter_best_3, H⟩ := H
  obtain ⟨e_t_cutter_best_3_token, H⟩ := H
  obtain ⟨e_t_cutter_hand, H⟩ := H
  obtain ⟨e_t_cutter_hand_distances, H⟩ := H
  obtain ⟨e_t_cutter_hand_distances_count, H⟩ := H
  obtain ⟨e_t_cutter_hand_distances_length, H⟩ := H
  obtain ⟨e_t_cutter_hand_literals, H⟩ := H
  obtain ⟨e_t_cutter_hand_literals_count, H⟩ := H
  obtain ⟨e_t_cutter_hand_literals_length, H⟩ := H
  obtain ⟨e_t_cutter_hand_token, H⟩ := H
  obtain ⟨e_t_cutter_joiner, H⟩ := H
  obtain ⟨e_t_cutter_joiner_above, H⟩ := H
  obtain ⟨e_t_cutter_joiner_order, H⟩ := H
  obtain ⟨e_t_cutter_joiner_weight, H⟩ := H
  obtain ⟨e_t_cutter_lengthTaken, H⟩ := H
  obtain ⟨e_t_cutter_matches, H⟩ := H
  obtain ⟨e_t_cutter_matches_below, H⟩ := H
  obtain ⟨e_t_cutter_matches_bucket, H⟩ := H
  obtain ⟨e_t_cutter_matches_found, H⟩ := H
  obtain ⟨e_t_cutter_prices, H⟩ := H
  obtain ⟨e_t_cutter_prices_least, H⟩ := H
  obtain ⟨e_t_cutter_prices_ofDistance, H⟩ := H
  obtain ⟨e_t_cutter_prices_ofLength, H⟩ := H
  obtain ⟨e_t_cutter_prices_ofLiteral, H⟩ := H
  obtain ⟨e_t_cutter_row, H⟩ := H
  obtain ⟨e_t_cutter_row_code, H⟩ := H
  obtain ⟨e_t_cutter_row_code_count, H⟩ := H
  obtain ⟨e_t_cutter_row_code_length, H⟩ := H
  obtain ⟨e_t_cutter_row_row, H⟩ := H
  obtain ⟨e_t_cutter_taken, H⟩ := H
  obtain ⟨e_t_cutter_trial, H⟩ := H
  obtain ⟨e_t_cutter_trial_distances, H⟩ := H
  obtain ⟨e_t_cutter_trial_distances_count, H⟩ := H
  obtain ⟨e_t_cutter_trial_distances_length, H⟩ := H
  obtain ⟨e_t_cutter_trial_literals, H⟩ := H
  obtain ⟨e_t_cutter_trial_literals_count, H⟩ := H
  obtain ⟨e_t_cutter_trial_literals_length, H⟩ := H
  obtain ⟨e_t_cutter_trial_token, H⟩ := H
  obtain ⟨e_t_fed, H⟩ := H
  obtain ⟨e_t_reader, H⟩ := H
  obtain ⟨e_t_reader_fixedDistances, H⟩ := H
  obtain ⟨e_t_reader_fixedDistances_next, H⟩ := H
  obtain ⟨e_t_reader_fixedDistances_perLength, H⟩ := H
  obtain ⟨e_t_reader_fixedDistances_symbol, H⟩ := H
  obtain ⟨e_t_reader_fixedLiterals, H⟩ := H
  obtain ⟨e_t_reader_fixedLiterals_next, H⟩ := H
  obtain ⟨e_t_reader_fixedLiterals_perLength, H⟩ := H
  obtain ⟨e_t_reader_fixedLiterals_symbol, H⟩ := H
  obtain ⟨e_t_reader_inflated, H⟩ := H
  obtain ⟨e_t_reader_length, H⟩ := H
  obtain ⟨e_t_reader_ownDistances, H⟩ := H
  obtain ⟨e_t_reader_ownDistances_next, H⟩ := H
  obtain ⟨e_t_reader_ownDistances_perLength, H⟩ := H
  obtain ⟨e_t_reader_ownDistances_symbol, H⟩ := H
  obtain ⟨e_t_reader_ownLengths, H⟩ := H
  obtain ⟨e_t_reader_ownLengths_next, H⟩ := H
  obtain ⟨e_t_reader_ownLengths_perLength, H⟩ := H
  obtain ⟨e_t_reader_ownLengths_symbol, H⟩ := H
  obtain ⟨e_t_reader_ownLiterals, H⟩ := H
  obtain ⟨e_t_reader_ownLiterals_next, H⟩ := H
  obtain ⟨e_t_reader_ownLiterals_perLength, H⟩ := H
  obtain ⟨e_t_reader_ownLiterals_symbol, H⟩ := H
  obtain ⟨e_t_writer, H⟩ := H
  obtain ⟨e_t_writer_came, H⟩ := H
  obtain ⟨e_t_writer_distanceCode, H⟩ := H
  obtain ⟨e_t_writer_lengthCode, H⟩ := H
  obtain ⟨e_t_writer_literalCode, H⟩ := H
  obtain ⟨e_t_writer_next, H⟩ := H
  subst H
  exact ⟨blkX Z (pk [q, e_t_coded, e_t_cutter, e_t_cutter_best, e_t_cutter_best_0, e_t_cutter_best_0_token, e_t_cutter_best_1, e_t_cutter_best_1_token, e_t_cutter_best_2, e_t_cutter_best_2_token, e_t_cutter_best_3, e_t_cutter_best_3_token, e_t_cutter_hand, e_t_cutter_hand_distances, e_t_cutter_hand_distances_count, e_t_cutter_hand_distances_length, e_t_cutter_hand_literals, e_t_cutter_hand_literals_count, e_t_cutter_hand_literals_length, e_t_cutter_hand_token, e_t_cutter_joiner, e_t_cutter_joiner_above, e_t_cutter_joiner_order, e_t_cutter_joiner_weight, e_t_cutter_lengthTaken, e_t_cutter_matches, e_t_cutter_matches_below, e_t_cutter_matches_bucket, e_t_cutter_matches_found, e_t_cutter_prices, e_t_cutter_prices_least, e_t_cutter_prices_ofDistance, e_t_cutter_prices_ofLength, e_t_cutter_prices_ofLiteral, e_t_cutter_row, e_t_cutter_row_code, e_t_cutter_row_code_count, e_t_cutter_row_code_length, e_t_cutter_row_row, e_t_cutter_taken, e_t_cutter_trial, e_t_cutter_trial_distances, e_t_cutter_trial_distances_count, e_t_cutter_trial_distances_length, e_t_cutter_trial_literals, e_t_cutter_trial_literals_count, e_t_cutter_trial_literals_length, e_t_cutter_trial_token, e_t_fed, e_t_reader, e_t_reader_fixedDistances, e_t_reader_fixedDistances_next, e_t_reader_fixedDistances_perLength, e_t_reader_fixedDistances_symbol, e_t_reader_fixedLiterals, e_t_reader_fixedLiterals_next, e_t_reader_fixedLiterals_perLength, e_t_reader_fixedLiterals_symbol, e_t_reader_inflated, e_t_reader_length, e_t_reader_ownDistances, e_t_reader_ownDistances_next, e_t_reader_ownDistances_perLength, e_t_reader_ownDistances_symbol, e_t_reader_ownLengths, e_t_reader_ownLengths_next, e_t_reader_ownLengths_perLength, e_t_reader_ownLengths_symbol, e_t_reader_ownLiterals, e_t_reader_ownLiterals_next, e_t_reader_ownLiterals_perLength, e_t_reader_ownLiterals_symbol, e_t_writer, e_t_writer_came, e_t_writer_distanceCode, e_t_writer_lengthCode, e_t_writer_literalCode, e_t_writer_next] 0) ((imax (1 : Int32) (imax (1 : Int32) (imin (2000 : Int32) x2))).toNatClampNeg) (pk [(imax (0 : Int32) (imin (9 : Int32) x1)), (imax (1 : Int32) (imin (2000 : Int32) x2)), (0 : Int32), (0 : Int32), (imax (0 : Int32) (imin (9 : Int32) x1)), (0 : Int32), (0 : Int32), (0 : Int32), (0 : Int32), (0 : Int32), (0 : Int32), (0 : Int32), (0 : Int32), (0 : Int32), (0 : Int32), (0 : Int32), (0 : Int32), (0 : Int32), (0 : Int32), (0 : Int32), (-1 : Int32), (-1 : Int32), (0 : Int32), (0 : Int32), (0 : Int32), (0 : Int32), (0 : Int32), o_t_reader_fixedDistances_3, o_t_reader_fixedDistances_4, o_t_reader_fixedDistances_5, o_t_reader_fixedLiterals_3, o_t_reader_fixedLiterals_4, o_t_reader_fixedLiterals_5, (0 : Int32), (0 : Int32), (0 : Int32), (0 : Int32), (0 : Int32), (0 : Int32), (0 : Int32), (0 : Int32), (0 : Int32), (0 : Int32)] 0) (pk [(fun _ => (0 : Int32)), (fun _ => (0 : Int32)), (fun _ => (0 : Int32)), (fun _ => (0 : Int32)), (fun _ => (0 : Int32)), (fun _ => (0 : Int32)), (fun _ => (0 : Int32)), (fun _ => (0 : Int32)), (fun _ => (0 : Int32)), (fun _ => (0 : Int32)), (fun _ => (0 : Int32)), (fun _ => (0 : Int32)), (fun _ => (0 : Int32)), (fun _ => (0 : Int32)), (fun _ => (0 : Int32)), (fun _ => (0 : Int32)), (fun _ => (0 : Int32)), (fun _ => (0 : Int32)), (fun _ => (0 : Int32)), (fun _ => (0 : Int32)), (fun _ => (0 : Int32)), (fun _ => (0 : Int32)), (fun _ => (0 : Int32)), (fun _ => (0 : Int32)), (fun _ => (0 : Int32)), (fun _ => (0 : Int32)), (fun _ => (0 : Int32)), o_t_reader_fixedDistances_next, o_t_reader_fixedDistances_perLength, o_t_reader_fixedDistances_symbol, o_t_reader_fixedLiterals_next, o_t_reader_fixedLiterals_perLength, o_t_reader_fixedLiterals_symbol, (fun _ => (0 : Int32)), o_t_reader_length, (fun _ => (0 : Int32)), (fun _ => (0 : Int32)), (fun _ => (0 : Int32)), (fun _ => (0 : Int32)), (fun _ => (0 : Int32)), (fun _ => (0 : Int32)), (fun _ => (0 : Int32)), (fun _ => (0 : Int32)), (fun _ => (0 : Int32)), (fun _ => (0 : Int32)), (fun _ => (0 : Int32)), (fun _ => (0 : Int32)), (fun _ => (0 : Int32)), (fun _ => (0 : Int32))] (fun _ => 0)) (fun _ _ => 0) (fun _ _ => 0), [0, 1, 2, 3, 4, 5, 6, 7, 8, 9, 10, 11, 12, 13, 14, 15, 16, 17, 18, 19, 20, 21, 22, 23, 24, 25, 26, 27, 28, 29, 30, 31, 32, 33, 34, 35, 36, 37, 38, 39, 40, 41, 42, 43, 44, 45, 46, 47, 48, 49, 50, 51, 52, 53, 54, 55, 56, 57, 58, 59, 60, 61, 62, 63, 64, 65, 66, 67, 68, 69, 70, 71, 72, 73, 74, 75, 76, 77], rfl, rfl, rfl, pk [q, e_t_coded, e_t_cutter, e_t_cutter_best, e_t_cutter_best_0, e_t_cutter_best_0_token, e_t_cutter_best_1, e_t_cutter_best_1_token, e_t_cutter_best_2, e_t_cutter_best_2_token, e_t_cutter_best_3, e_t_cutter_best_3_token, e_t_cutter_hand, e_t_cutter_hand_distances, e_t_cutter_hand_distances_count, e_t_cutter_hand_distances_length, e_t_cutter_hand_literals, e_t_cutter_hand_literals_count, e_t_cutter_hand_literals_length, e_t_cutter_hand_token, e_t_cutter_joiner, e_t_cutter_joiner_above, e_t_cutter_joiner_order, e_t_cutter_joiner_weight, e_t_cutter_lengthTaken, e_t_cutter_matches, e_t_cutter_matches_below, e_t_cutter_matches_bucket, e_t_cutter_matches_found, e_t_cutter_prices, e_t_cutter_prices_least, e_t_cutter_prices_ofDistance, e_t_cutter_prices_ofLength, e_t_cutter_prices_ofLiteral, e_t_cutter_row, e_t_cutter_row_code, e_t_cutter_row_code_count, e_t_cutter_row_code_length, e_t_cutter_row_row, e_t_cutter_taken, e_t_cutter_trial, e_t_cutter_trial_distances, e_t_cutter_trial_distances_count, e_t_cutter_trial_distances_length, e_t_cutter_trial_literals, e_t_cutter_trial_literals_count, e_t_cutter_trial_literals_length, e_t_cutter_trial_token, e_t_fed, e_t_reader, e_t_reader_fixedDistances, e_t_reader_fixedDistances_next, e_t_reader_fixedDistances_perLength, e_t_reader_fixedDistances_symbol, e_t_reader_fixedLiterals, e_t_reader_fixedLiterals_next, e_t_reader_fixedLiterals_perLength, e_t_reader_fixedLiterals_symbol, e_t_reader_inflated, e_t_reader_length, e_t_reader_ownDistances, e_t_reader_ownDistances_next, e_t_reader_ownDistances_perLength, e_t_reader_ownDistances_symbol, e_t_reader_ownLengths, e_t_reader_ownLengths_next, e_t_reader_ownLengths_perLength, e_t_reader_ownLengths_symbol, e_t_reader_ownLiterals, e_t_reader_ownLiterals_next, e_t_reader_ownLiterals_perLength, e_t_reader_ownLiterals_symbol, e_t_writer, e_t_writer_came, e_t_writer_distanceCode, e_t_writer_lengthCode, e_t_writer_literalCode, e_t_writer_next] 0, rfl, rfl⟩
set_option maxRecDepth 100000 in
set_option maxHeartbeats 4000000 in
theorem bm_init (l : Launch) (Z : rx_D) (q : Nat) (x1 x2 : Int32) (o_t_0 : Int32) (o_t_1 : Int32) (hm : m_MD_init 100000 x1 x2 = some (o_t_0, o_t_1)) : Cn l Z y_MD_init b_MD_init 3 none 1 [.ref q, .int x1, .int x2] [ob q 12 [.int (0 : Int32), .int (0 : Int32), .int (0 : Int32), .int (0 : Int32), .null, .int (0 : Int32), .null, .int (0 : Int32), .int (0 : Int32), .null, .int (0 : Int32), .null, .int (0 : Int32), .int (0 : Int32), .int (0 : Int32), .int (0 : Int32), .null, .null, .null, .null, .null, .null, .null, .null, .null, .null, .null, .int (0 : Int32), .null, .null, .int (0 : Int32), .null, .null, .int (0 : Int32), .int (0 : Int32), .int (0 : Int32), .null, .null, .null, .null, .null, .null, .null, .null, .null, .null, .null, .int (0 : Int32), .null, .null, .int (0 : Int32), .int (0 : Int32), .int (0 : Int32), .null, .null, .int (0 : Int32), .null]] 35 12399 (fun r w => r = none ∧ ∃ a2 : Nat → Nat, a2 0 = q ∧ w = blkM Z a2 (pk [o_t_0, o_t_1, (0 : Int32), (0 : Int32), (0 : Int32), (0 : Int32), (0 : Int32), (0 : Int32), (-1 : Int32), (0 : Int32), (0 : Int32), (0 : Int32), (0 : Int32), (0 : Int32), (0 : Int32), (0 : Int32), (0 : Int32), (0 : Int32), (0 : Int32), (0 : Int32), (0 : Int32), (0 : Int32)] 0) (pk [(fun _ => (0 : Int32)), (fun _ => (0 : Int32)), (fun _ => (0 : Int32)), (fun _ => (0 : Int32)), (fun _ => (0 : Int32)), (fun _ => (0 : Int32)), (fun _ => (0 : Int32)), (fun _ => (0 : Int32)), (fun _ => (0 : Int32)), (fun _ => (0 : Int32)), (fun _ => (0 : Int32)), (fun _ => (0 : Int32)), (fun _ => (0 : Int32)), (fun _ => (0 : Int32)), (fun _ => (0 : Int32)), (fun _ => (0 : Int32)), (fun _ => (0 : Int32)), (fun _ => (0 : Int32)), (fun _ => (0 : Int32)), (fun _ => (0 : Int32)), (fun _ => (0 : Int32)), (fun _ => (0 : Int32)), (fun _ => (0 : Int32)), (fun _ => (0 : Int32)), (fun _ => (0 : Int32)), (fun _ => (0 : Int32)), (fun _ => (0 : Int32)), (fun _ => (0 : Int32)), (fun _ => (0 : Int32)), (fun _ => (0 : Int32)), (fun _ => (0 : Int32)), (fun _ => (0 : Int32)), (fun _ => (0 : Int32)), (fun _ => (0 : Int32)), (fun _ => (0 : Int32))] (fun _ => 0))) := by
  refine Cn_mono (c_MD_init l Z 100000 q x1 x2 o_t_0 o_t_1 hm) ?_
  rintro r w ⟨rfl, H⟩
  obtain ⟨e_t_blockBits, H⟩ := H
  obtain ⟨e_t_blockFrom, H⟩ := H
  obtain ⟨e_t_blockKind, H⟩ := H
  obtain ⟨e_t_blockMatches, H⟩ := H
  obtain ⟨e_t_blockSize, H⟩ := H
  obtain ⟨e_t_blockTokens, H⟩ := H
  obtain ⟨e_t_bytes, H⟩ := H
  obtain ⟨e_t_choice, H⟩ := H
  obtain ⟨e_t_coded, H⟩ := H
  obtain ⟨e_t_farCode, H⟩ := H
  obtain ⟨e_t_farCount, H⟩ := H
  obtain ⟨e_t_farLength, H⟩ := H
  obtain ⟨e_t_fed, H⟩ := H
  obtain ⟨e_t_least, H⟩ := H
  obtain ⟨e_t_litCode, H⟩ := H
  obtain ⟨e_t_litCount, H⟩ := H
  obtain ⟨e_t_litLength, H⟩ := H
  obtain ⟨e_t_matchFar, H⟩ := H
  obtain ⟨e_t_matchSize, H⟩ := H
  obtain ⟨e_t_nextCut, H⟩ := H
  obtain ⟨e_t_out, H⟩ := H
  obtain ⟨e_t_price, H⟩ := H
  obtain ⟨e_t_row, H⟩ := H
  obtain ⟨e_t_rowMore, H⟩ := H
  obtain ⟨e_t_rowSymbol, H⟩ := H
  obtain ⟨e_t_setCode, H⟩ := H
  obtain ⟨e_t_setCount, H⟩ := H
  obtain ⟨e_t_setLength, H⟩ := H
  obtain ⟨e_t_spareFar, H⟩ := H
  obtain ⟨e_t_spareSize, H⟩ := H
  obtain ⟨e_t_tokenFar, H⟩ := H
  obtain ⟨e_t_tokenSize, H⟩ := H
  obtain ⟨e_t_tried, H⟩ := H
  obtain ⟨e_t_upper, H⟩ := H
  obtain ⟨e_t_weight, H⟩ := H
  subst H
  exact ⟨blkM Z (pk [q, e_t_blockBits, e_t_blockFrom, e_t_blockKind, e_t_blockMatches, e_t_blockSize, e_t_blockTokens, e_t_bytes, e_t_choice, e_t_coded, e_t_farCode, e_t_farCount, e_t_farLength, e_t_fed, e_t_least, e_t_litCode, e_t_litCount, e_t_litLength, e_t_matchFar, e_t_matchSize, e_t_nextCut, e_t_out, e_t_price, e_t_row, e_t_rowMore, e_t_rowSymbol, e_t_setCode, e_t_setCount, e_t_setLength, e_t_spareFar, e_t_spareSize, e_t_tokenFar, e_t_tokenSize, e_t_tried, e_t_upper, e_t_weight] 0) (pk [o_t_0, o_t_1, (0 : Int32), (0 : Int32), (0 : Int32), (0 : Int32), (0 : Int32), (0 : Int32), (-1 : Int32), (0 : Int32), (0 : Int32), (0 : Int32), (0 : Int32), (0 : Int32), (0 : Int32), (0 : Int32), (0 : Int32), (0 : Int32), (0 : Int32), (0 : Int32), (0 : Int32), (0 : Int32)] 0) (pk [(fun _ => (0 : Int32)), (fun _ => (0 : Int32)), (fun _ => (0 : Int32)), (fun _ => (0 : Int32)), (fun _ => (0 : Int32)), (fun _ => (0 : Int32)), (fun _ => (0 : Int32)), (fun _ => (0 : Int32)), (fun _ => (0 : Int32)), (fun _ => (0 : Int32)), (fun _ => (0 : Int32)), (fun _ => (0 : Int32)), (fun _ => (0 : Int32)), (fun _ => (0 : Int32)), (fun _ => (0 : Int32)), (fun _ => (0 : Int32)), (fun _ => (0 : Int32)), (fun _ => (0 : Int32)), (fun _ => (0 : Int32)), (fun _ => (0 : Int32)), (fun _ => (0 : Int32)), (fun _ => (0 : Int32)), (fun _ => (0 : Int32)), (fun _ => (0 : Int32)), (fun _ => (0 : Int32)), (fun _ => (0 : Int32)), (fun _ => (0 : Int32)), (fun _ => (0 : Int32)), (fun _ => (0 : Int32)), (fun _ => (0 : Int32)), (fun _ => (0 : Int32)), (fun _ => (0 : Int32)), (fun _ => (0 : Int32)), (fun _ => (0 : Int32)), (fun _ => (0 : Int32))] (fun _ => 0)), [0, 1, 2, 3, 4, 5, 6, 7, 8, 9, 10, 11, 12, 13, 14, 15, 16, 17, 18, 19, 20, 21, 22, 23, 24, 25, 26, 27, 28, 29, 30, 31, 32, 33, 34, 35], rfl, rfl, rfl, pk [q, e_t_blockBits, e_t_blockFrom, e_t_blockKind, e_t_blockMatches, e_t_blockSize, e_t_blockTokens, e_t_bytes, e_t_choice, e_t_coded, e_t_farCode, e_t_farCount, e_t_farLength, e_t_fed, e_t_least, e_t_litCode, e_t_litCount, e_t_litLength, e_t_matchFar, e_t_matchSize, e_t_nextCut, e_t_out, e_t_price, e_t_row, e_t_rowMore, e_t_rowSymbol, e_t_setCode, e_t_setCount, e_t_setLength, e_t_spareFar, e_t_spareSize, e_t_tokenFar, e_t_tokenSize, e_t_tried, e_t_upper, e_t_weight] 0, rfl, rfl⟩
set_option maxRecDepth 100000 in
set_option maxHeartbeats 4000000 in
theorem a_init (l : Launch) (Z : rx_D) (xa : Nat) (x1 x2 : Int32) : ∃ (PX : va_W → Prop), Cn l Z y_DE_init b_DE_init 3 none 4 [.ref xa, .int x1, .int x2] [ob xa 11 [.int (0 : Int32), .int (0 : Int32), .null, .int (0 : Int32), .null, .null, .null, .int (0 : Int32), .null]] 77 48830 (fun r w => r = none ∧ PX w) ∧ ∀ ma : Nat, ∃ (PM : va_W → Prop), Cn l Z y_MD_init b_MD_init 3 none 1 [.ref ma, .int x1, .int x2] [ob ma 12 [.int (0 : Int32), .int (0 : Int32), .int (0 : Int32), .int (0 : Int32), .null, .int (0 : Int32), .null, .int (0 : Int32), .int (0 : Int32), .null, .int (0 : Int32), .null, .int (0 : Int32), .int (0 : Int32), .int (0 : Int32), .int (0 : Int32), .null, .null, .null, .null, .null, .null, .null, .null, .null, .null, .null, .int (0 : Int32), .null, .null, .int (0 : Int32), .null, .null, .int (0 : Int32), .int (0 : Int32), .int (0 : Int32), .null, .null, .null, .null, .null, .null, .null, .null, .null, .null, .null, .int (0 : Int32), .null, .null, .int (0 : Int32), .int (0 : Int32), .int (0 : Int32), .null, .null, .int (0 : Int32), .null]] 35 12399 (fun r w => r = none ∧ PM w) ∧ ∀ X' M', PX X' → PM M' → JI Z xa ma X' M' := by
  obtain ⟨rm, h1, h2, h3, h4⟩ := p_room x2
  obtain ⟨ef, g1, g2, g3⟩ := p_eff x1
  obtain ⟨dC, dL, dF, dN, dP, dS, lC, lL, lF, lN, lP, lS, len, q1, q2, q3⟩ := p_init 100000 rm x2 (by omega) h3 h1 h2
  have hmm : m_MD_init 100000 x1 x2 = some (nI ef, nI rm) := by
    unfold m_MD_init
    rw [g3, h4]
    rfl
  have hrm : (imax (1 : Int32) (imax (1 : Int32) (imin (2000 : Int32) x2))).toNatClampNeg = rm := by
    rw [h3]
    show (imax (nI 1) (nI rm)).toNatClampNeg = rm
    rw [z_max (by omega) (by omega), Nat.max_eq_right h1, z_tn (by omega)]
  have b1 := bx_init l Z xa x1 x2 dC dL dF dN dP dS lC lL lF lN lP lS len q1 rm hrm
  refine ⟨_, b1, fun ma => ⟨_, bm_init l Z ma x1 x2 (nI ef) (nI rm) hmm, ?_⟩⟩
  rintro X' M' ⟨a2, c1, rfl⟩ ⟨a3, c2, rfl⟩
  exact ⟨ef, rm, 0, 0, 0, fun _ => 0, fun _ => 0, a2, _, _, _, _, a3, _, _, rfl, rfl, c1, c2, ⟨⟨g1, h1, h2, by omega, by omega⟩, ⟨g2, g2, h3, rfl, rfl⟩, ⟨rfl, rfl, rfl, fun j hj => ⟨rfl, show 0 < 256 from by omega⟩⟩, ⟨rfl, rfl, by omega, fun j hj => by omega⟩, ⟨rfl, rfl, fun j hj => by omega, rfl⟩, ⟨q2, q3⟩, dinv_0 _ _ _ _ _ _ _ _ _ _ _ _ _ _ _ _ (fun j hj => rfl)⟩⟩
