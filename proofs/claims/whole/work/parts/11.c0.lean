/-! the law's loop, and the law -/
theorem y_lt {a b : Int} (ha : -2147483648 ≤ a) (ha2 : a < 2147483648) (hb : -2147483648 ≤ b) (hb2 : b < 2147483648) : (iI a < iI b) = (a < b) := by
  rw [Int32.lt_iff_toInt_lt, y_toInt ha ha2, y_toInt hb hb2]
theorem lp_cmp {L iv : Nat} (hL : L < 2147483000) (hiv : iv < 2147483000) : (nI L - 3 < nI iv) = (L < iv + 3) := by
  show (nI L - nI 3 < nI iv) = _
  rw [y_nI L, y_nI 3, y_nI iv, y_sub, y_lt (by omega) (by omega) (by omega) (by omega)]
  exact propext ⟨fun h => by omega, fun h => by omega⟩
set_option maxRecDepth 100000 in
set_option maxHeartbeats 4000000 in
theorem lp_law (l : Launch) (Z : rx_D) (mc ms : Nat) (post : Option Value → va_W → Prop) (hlt : l.stackTraces = false) (hp : ∀ w, post (some (.int 1)) w) (hL : Z.2.2.2.2.1 < 2147480000) (xa ma lc : Nat) : ∀ (u k n iv : Nat) (lg : Nat → Int64) (W V : va_W), Z.2.2.2.2.1 - iv ≤ u → iv ≤ Z.2.2.2.2.1 + 3 → k + (Z.2.2.2.2.1 - iv) ≤ mc → n + 6 * (Z.2.2.2.2.1 - iv) ≤ ms → JI Z xa ma W V → J_LW_law l Z mc ms post k n (W ++ (V ++ [la Z lc 1 lg])) [(0, .ref Z.2.2.2.1), (1, .ref xa), (2, .ref ma), (3, .ref lc), (4, .int (nI iv))] 43 [] := by
  intro u
  induction u with
  | zero =>
    intro k n iv lg W V h1 h2 h3 h4 hJ
    refine rw_iload (pc := 43) 4 rfl (rx_dt dt_LW_law 25 rfl) ?_
    refine rw_aload_n (pc := 45) 0 rfl rfl (rx_dt dt_LW_law 26 rfl) ?_
    refine rw_slen (pc := 46) (rx_dt dt_LW_law 27 rfl) ?_
    refine rw_iconst (pc := 47) (v := 3) rfl (rx_dt dt_LW_law 28 rfl) ?_
    refine rw_isub (pc := 48) (rx_dt dt_LW_law 29 rfl) ?_
    refine rw_icmp_gt_t (pc := 49) (tgt := 684) (by rw [lp_cmp (by omega) (by omega)]; omega) (by decide) (rx_dt dt_LW_law 30 rfl) ?_
    refine rw_iconst (pc := 684) (v := 1) rfl (rx_dt dt_LW_law 395 rfl) ?_
    exact rw_zret (pc := 685) (rx_dt dt_LW_law 396 rfl) (hp _)
  | succ u ih =>
    intro k n iv lg W V h1 h2 h3 h4 hJ
    refine rw_iload (pc := 43) 4 rfl (rx_dt dt_LW_law 25 rfl) ?_
    refine rw_aload_n (pc := 45) 0 rfl rfl (rx_dt dt_LW_law 26 rfl) ?_
    refine rw_slen (pc := 46) (rx_dt dt_LW_law 27 rfl) ?_
    refine rw_iconst (pc := 47) (v := 3) rfl (rx_dt dt_LW_law 28 rfl) ?_
    refine rw_isub (pc := 48) (rx_dt dt_LW_law 29 rfl) ?_
    by_cases hc : Z.2.2.2.2.1 < iv + 3
    · refine rw_icmp_gt_t (pc := 49) (tgt := 684) (by rw [lp_cmp (by omega) (by omega)]; exact hc) (by decide) (rx_dt dt_LW_law 30 rfl) ?_
      refine rw_iconst (pc := 684) (v := 1) rfl (rx_dt dt_LW_law 395 rfl) ?_
      exact rw_zret (pc := 685) (rx_dt dt_LW_law 396 rfl) (hp _)
    have hiv : iv + 3 ≤ Z.2.2.2.2.1 := by omega
    have hb1 : k + 1 ≤ mc ∧ n + 6 ≤ ms := by omega
    refine rw_icmp_gt_f (pc := 49) (tgt := 684) (by rw [lp_cmp (by omega) (by omega)]; exact hc) (by decide) (rx_dt dt_LW_law 30 rfl) ?_
    refine rw_aload_n (pc := 52) 0 rfl rfl (rx_dt dt_LW_law 31 rfl) ?_
    refine rw_iload (pc := 53) 4 rfl (rx_dt dt_LW_law 32 rfl) ?_
    refine rw_sld (pc := 55) (z_inb (by omega) (by omega)) (rx_dt dt_LW_law 33 rfl) ?_
    refine rw_bipush (pc := 56) (v := 15) rfl (rx_dt dt_LW_law 34 rfl) ?_
    refine rw_iand (pc := 58) (rx_dt dt_LW_law 35 rfl) ?_
    generalize Z.2.2.2.2.2 (nI iv).toNatClampNeg &&& 15 = sv
    have hL : Z.2.2.2.2.1 < 2147483000 := by omega
    have NX : ∀ (k' n' : Nat) (lg' : Nat → Int64) (X' V' : va_W), k' ≤ k + 1 → n' ≤ n + 6 → JI Z xa ma X' V' → J_LW_law l Z mc ms post k' n' (X' ++ (V' ++ [la Z lc 1 lg'])) [(0, .ref Z.2.2.2.1), (1, .ref xa), (2, .ref ma), (3, .ref lc), (4, .int (nI iv))] 678 [] := by
      intro k' n' lg' X' V' hk hn hJ'
      refine rw_iinc (pc := 678) (lv' := [(4, .int (nI (iv + 3))), (0, .ref Z.2.2.2.1), (1, .ref xa), (2, .ref ma), (3, .ref lc)]) 4 rfl (show nI iv + Int32.ofInt 3 = nI (iv + 3) by rw [show Int32.ofInt 3 = nI 3 from rfl]; exact z_add iv 3) (by decide) rfl (rx_dt dt_LW_law 393 rfl) ?_
      refine rw_goto (pc := 681) (tgt := 43) (by decide) (rx_dt dt_LW_law 394 rfl) ?_
      exact rw_lv [1, 2, 3, 4, 0] rfl (ih k' n' (iv + 3) lg' X' V' (by omega) (by omega) (by omega) (by omega) hJ')
    by_cases hc0 : sv = 0
    · exact rw_tin (pc := 59) (tgt := 120) (by rw [hc0]; decide) (by rw [hc0]; decide) (by rw [hc0]; rfl) (by decide) (rx_dt dt_LW_law 36 rfl) (ar_feed l Z mc ms post hlt k n iv xa ma lc lg W V hL hiv hb1 hJ NX)
    by_cases hc1 : sv = 1
    · exact rw_tin (pc := 59) (tgt := 188) (by rw [hc1]; decide) (by rw [hc1]; decide) (by rw [hc1]; rfl) (by decide) (rx_dt dt_LW_law 36 rfl) (ar_deflate l Z mc ms post hlt k n iv xa ma lc lg W V hL hiv hb1 hJ NX)
    by_cases hc2 : sv = 2
    · exact rw_tin (pc := 59) (tgt := 201) (by rw [hc2]; decide) (by rw [hc2]; decide) (by rw [hc2]; rfl) (by decide) (rx_dt dt_LW_law 36 rfl) (ar_byteAt l Z mc ms post hlt k n iv xa ma lc lg W V hL hiv hb1 hJ NX)
    by_cases hc3 : sv = 3
    · exact rw_tin (pc := 59) (tgt := 257) (by rw [hc3]; decide) (by rw [hc3]; decide) (by rw [hc3]; rfl) (by decide) (rx_dt dt_LW_law 36 rfl) (ar_block l Z mc ms post hlt k n iv xa ma lc lg W V hL hiv hb1 hJ NX)
    by_cases hc4 : sv = 4
    · exact rw_tin (pc := 59) (tgt := 325) (by rw [hc4]; decide) (by rw [hc4]; decide) (by rw [hc4]; rfl) (by decide) (rx_dt dt_LW_law 36 rfl) (ar_feedCoded l Z mc ms post hlt k n iv xa ma lc lg W V hL hiv hb1 hJ NX)
    by_cases hc5 : sv = 5
    · exact rw_tin (pc := 59) (tgt := 381) (by rw [hc5]; decide) (by rw [hc5]; decide) (by rw [hc5]; rfl) (by decide) (rx_dt dt_LW_law 36 rfl) (ar_pass l Z mc ms post hlt k n iv xa ma lc lg W V hL hiv hb1 hJ NX)
    by_cases hc6 : sv = 6
    · exact rw_tin (pc := 59) (tgt := 449) (by rw [hc6]; decide) (by rw [hc6]; decide) (by rw [hc6]; rfl) (by decide) (rx_dt dt_LW_law 36 rfl) (ar_alter l Z mc ms post hlt k n iv xa ma lc lg W V hL hiv hb1 hJ NX)
    by_cases hc7 : sv = 7
    · exact rw_tin (pc := 59) (tgt := 517) (by rw [hc7]; decide) (by rw [hc7]; decide) (by rw [hc7]; rfl) (by decide) (rx_dt dt_LW_law 36 rfl) (ar_inflate l Z mc ms post hlt k n iv xa ma lc lg W V hL hiv hb1 hJ NX)
    by_cases hc8 : sv = 8
    · exact rw_tin (pc := 59) (tgt := 530) (by rw [hc8]; decide) (by rw [hc8]; decide) (by rw [hc8]; rfl) (by decide) (rx_dt dt_LW_law 36 rfl) (ar_out l Z mc ms post hlt k n iv xa ma lc lg W V hL hiv hb1 hJ NX)
    by_cases hc9 : sv = 9
    · exact rw_tin (pc := 59) (tgt := 586) (by rw [hc9]; decide) (by rw [hc9]; decide) (by rw [hc9]; rfl) (by decide) (rx_dt dt_LW_law 36 rfl) (ar_sum l Z mc ms post hlt k n iv xa ma lc lg W V hL hiv hb1 hJ NX)
    by_cases hc10 : sv = 10
    · exact rw_tin (pc := 59) (tgt := 642) (by rw [hc10]; decide) (by rw [hc10]; decide) (by rw [hc10]; rfl) (by decide) (rx_dt dt_LW_law 36 rfl) (ar_told l Z mc ms post hlt k n iv xa ma lc lg W V hL hiv hb1 hJ NX)
    by_cases hc11 : sv = 11
    · exact rw_tin (pc := 59) (tgt := 667) (by rw [hc11]; decide) (by rw [hc11]; decide) (by rw [hc11]; rfl) (by decide) (rx_dt dt_LW_law 36 rfl) (ar_clear l Z mc ms post hlt k n iv xa ma lc lg W V hL hiv hb1 hJ NX)
    refine rw_tout (pc := 59) (tgt := 678) (by have e0 := lv_neT hc0 (a := 0) (by decide); have e1 := lv_neT hc1 (a := 1) (by decide); have e2 := lv_neT hc2 (a := 2) (by decide); have e3 := lv_neT hc3 (a := 3) (by decide); have e4 := lv_neT hc4 (a := 4) (by decide); have e5 := lv_neT hc5 (a := 5) (by decide); have e6 := lv_neT hc6 (a := 6) (by decide); have e7 := lv_neT hc7 (a := 7) (by decide); have e8 := lv_neT hc8 (a := 8) (by decide); have e9 := lv_neT hc9 (a := 9) (by decide); have e10 := lv_neT hc10 (a := 10) (by decide); have e11 := lv_neT hc11 (a := 11) (by decide); omega) (by decide) (rx_dt dt_LW_law 36 rfl) ?_
    exact NX k n lg W V (Nat.le_succ _) (Nat.le_add_right _ _) hJ
theorem cell_some (Z : rx_D) (x : Nat) (hx : x < 10) (hL : Z.2.2.2.2.1 < 2147480000) : ∃ r, m_LW_cell 100000 Z (nI x) = some r := by
  unfold m_LW_cell
  by_cases h : Z.2.2.2.2.1 ≤ x
  · rw [if_pos (by rw [z_le (by omega) (by omega)]; exact h)]; exact ⟨_, rfl⟩
  · rw [if_neg (by rw [z_le (by omega) (by omega)]; exact h), z_chk (by omega) (by omega)]; exact ⟨_, rfl⟩
set_option maxRecDepth 100000 in
set_option maxHeartbeats 4000000 in
theorem w_law (l : Launch) (Z : rx_D) (mc ms : Nat) (post : Option Value → va_W → Prop) (k n : Nat) (hlt : l.stackTraces = false) (hp : ∀ w, post (some (.int 1)) w) (hL : Z.2.2.2.2.1 < 2147480000) (hr1 : k + 115 + Z.2.2.2.2.1 ≤ mc) (hr2 : n + 61296 + 6 * Z.2.2.2.2.1 ≤ ms) : J_LW_law l Z mc ms post k n [] [(0, .ref Z.2.2.2.1)] 0 [] := by
  obtain ⟨r1, hq1⟩ := cell_some Z 0 (by omega) hL
  obtain ⟨r2, hq2⟩ := cell_some Z 1 (by omega) hL
  refine rw_newO nf_LW_8 (pc := 0) ⟨by omega, by omega⟩ (rx_dt dt_LW_law 0 rfl) ?_
  intro xa
  show J_LW_law l Z mc ms post (k + 1) (n + 9) [ob xa 11 [.int (0 : Int32), .int (0 : Int32), .null, .int (0 : Int32), .null, .null, .null, .int (0 : Int32), .null]] [(0, .ref Z.2.2.2.1)] 3 [.ref xa]
  refine rw_dup (pc := 3) rfl (rx_dt dt_LW_law 1 rfl) ?_
  refine rw_aload_n (pc := 4) 0 rfl rfl (rx_dt dt_LW_law 2 rfl) ?_
  refine rw_iconst (pc := 5) (v := 0) rfl (rx_dt dt_LW_law 3 rfl) ?_
  refine rw_callS cw_LW_cell lk_LW_41 cs_LW_cell (c_LW_cell l Z 100000 (0 : Int32) r1 hq1) [] [0] rfl rfl (by decide +kernel) (by decide +kernel) (by decide +kernel) rfl (by decide) (fun h => h) (rest := [.ref xa, .ref xa]) (wr := [ob xa 11 [.int (0 : Int32), .int (0 : Int32), .null, .int (0 : Int32), .null, .null, .null, .int (0 : Int32), .null]]) (Nat.le_of_ble_eq_true rfl) rfl (rx_dt dt_LW_law 4 rfl) (pc := 6) ?_
  rintro _ _ ⟨rfl, rfl⟩
  show J_LW_law l Z mc ms post (k + 1) (n + 9) [ob xa 11 [.int (0 : Int32), .int (0 : Int32), .null, .int (0 : Int32), .null, .null, .null, .int (0 : Int32), .null]] [(0, .ref Z.2.2.2.1)] 9 [.int r1, .ref xa, .ref xa]
  refine rw_aload_n (pc := 9) 0 rfl rfl (rx_dt dt_LW_law 5 rfl) ?_
  refine rw_iconst (pc := 10) (v := 1) rfl (rx_dt dt_LW_law 6 rfl) ?_
  refine rw_callS cw_LW_cell lk_LW_41 cs_LW_cell (c_LW_cell l Z 100000 (1 : Int32) r2 hq2) [] [0] rfl rfl (by decide +kernel) (by decide +kernel) (by decide +kernel) rfl (by decide) (fun h => h) (rest := [.int r1, .ref xa, .ref xa]) (wr := [ob xa 11 [.int (0 : Int32), .int (0 : Int32), .null, .int (0 : Int32), .null, .null, .null, .int (0 : Int32), .null]]) (Nat.le_of_ble_eq_true rfl) rfl (rx_dt dt_LW_law 7 rfl) (pc := 11) ?_
  rintro _ _ ⟨rfl, rfl⟩
  show J_LW_law l Z mc ms post (k + 1) (n + 9) [ob xa 11 [.int (0 : Int32), .int (0 : Int32), .null, .int (0 : Int32), .null, .null, .null, .int (0 : Int32), .null]] [(0, .ref Z.2.2.2.1)] 14 [.int r2, .int r1, .ref xa, .ref xa]
  obtain ⟨PX, h1, h2⟩ := a_init l Z xa r1 r2
  refine rw_callI cw_DE_init lk_LW_47 ii_DE_init h1 [0] [] rfl rfl (by decide +kernel) (by decide +kernel) (by decide +kernel) rfl (by decide) (fun h => by omega) (rest := [.ref xa]) (wr := []) (Nat.le_of_ble_eq_true rfl) rfl (rx_dt dt_LW_law 8 rfl) (pc := 14) ?_
  rintro _ W ⟨rfl, hX⟩
  show J_LW_law l Z mc ms post (k + 78) (n + 48839) W [(0, .ref Z.2.2.2.1)] 17 [.ref xa]
  refine rw_astore_n (pc := 17) (lv' := [(1, .ref xa), (0, .ref Z.2.2.2.1)]) rfl (by decide) rfl (rx_dt dt_LW_law 9 rfl) ?_
  refine rw_newO nf_LW_50 (pc := 18) ⟨by omega, by omega⟩ (rx_dt dt_LW_law 10 rfl) ?_
  intro ma
  show J_LW_law l Z mc ms post (k + 79) (n + 48896) (W ++ [ob ma 12 [.int (0 : Int32), .int (0 : Int32), .int (0 : Int32), .int (0 : Int32), .null, .int (0 : Int32), .null, .int (0 : Int32), .int (0 : Int32), .null, .int (0 : Int32), .null, .int (0 : Int32), .int (0 : Int32), .int (0 : Int32), .int (0 : Int32), .null, .null, .null, .null, .null, .null, .null, .null, .null, .null, .null, .int (0 : Int32), .null, .null, .int (0 : Int32), .null, .null, .int (0 : Int32), .int (0 : Int32), .int (0 : Int32), .null, .null, .null, .null, .null, .null, .null, .null, .null, .null, .null, .int (0 : Int32), .null, .null, .int (0 : Int32), .int (0 : Int32), .int (0 : Int32), .null, .null, .int (0 : Int32), .null]]) [(1, .ref xa), (0, .ref Z.2.2.2.1)] 21 [.ref ma]
  refine rw_dup (pc := 21) rfl (rx_dt dt_LW_law 11 rfl) ?_
  refine rw_aload_n (pc := 22) 1 rfl rfl (rx_dt dt_LW_law 12 rfl) ?_
  refine rw_iconst (pc := 23) (v := 0) rfl (rx_dt dt_LW_law 13 rfl) ?_
  refine rw_callSB (pc := 24) (A := []) (C := []) (B := W ++ [ob ma 12 [.int (0 : Int32), .int (0 : Int32), .int (0 : Int32), .int (0 : Int32), .null, .int (0 : Int32), .null, .int (0 : Int32), .int (0 : Int32), .null, .int (0 : Int32), .null, .int (0 : Int32), .int (0 : Int32), .int (0 : Int32), .int (0 : Int32), .null, .null, .null, .null, .null, .null, .null, .null, .null, .null, .null, .int (0 : Int32), .null, .null, .int (0 : Int32), .null, .null, .int (0 : Int32), .int (0 : Int32), .int (0 : Int32), .null, .null, .null, .null, .null, .null, .null, .null, .null, .null, .null, .int (0 : Int32), .null, .null, .int (0 : Int32), .int (0 : Int32), .int (0 : Int32), .null, .null, .int (0 : Int32), .null]]) (as := [.ref Z.2.2.2.1, .int 0]) (rest := [.ref ma, .ref ma]) cw_LW_cell lk_LW_41 cs_LW_cell (c_LW_cell l Z 100000 (0 : Int32) r1 hq1) rfl (by decide) (fun h => h) (Nat.le_of_ble_eq_true rfl) rfl (rx_dt dt_LW_law 14 rfl) ?_
  rintro _ _ ⟨rfl, rfl⟩
  show J_LW_law l Z mc ms post (k + 79) (n + 48896) (W ++ [ob ma 12 [.int (0 : Int32), .int (0 : Int32), .int (0 : Int32), .int (0 : Int32), .null, .int (0 : Int32), .null, .int (0 : Int32), .int (0 : Int32), .null, .int (0 : Int32), .null, .int (0 : Int32), .int (0 : Int32), .int (0 : Int32), .int (0 : Int32), .null, .null, .null, .null, .null, .null, .null, .null, .null, .null, .null, .int (0 : Int32), .null, .null, .int (0 : Int32), .null, .null, .int (0 : Int32), .int (0 : Int32), .int (0 : Int32), .null, .null, .null, .null, .null, .null, .null, .null, .null, .null, .null, .int (0 : Int32), .null, .null, .int (0 : Int32), .int (0 : Int32), .int (0 : Int32), .null, .null, .int (0 : Int32), .null]]) [(1, .ref xa), (0, .ref Z.2.2.2.1)] 27 [.int r1, .ref ma, .ref ma]
  refine rw_aload_n (pc := 27) 1 rfl rfl (rx_dt dt_LW_law 15 rfl) ?_
  refine rw_iconst (pc := 28) (v := 1) rfl (rx_dt dt_LW_law 16 rfl) ?_
  refine rw_callSB (pc := 29) (A := []) (C := []) (B := W ++ [ob ma 12 [.int (0 : Int32), .int (0 : Int32), .int (0 : Int32), .int (0 : Int32), .null, .int (0 : Int32), .null, .int (0 : Int32), .int (0 : Int32), .null, .int (0 : Int32), .null, .int (0 : Int32), .int (0 : Int32), .int (0 : Int32), .int (0 : Int32), .null, .null, .null, .null, .null, .null, .null, .null, .null, .null, .null, .int (0 : Int32), .null, .null, .int (0 : Int32), .null, .null, .int (0 : Int32), .int (0 : Int32), .int (0 : Int32), .null, .null, .null, .null, .null, .null, .null, .null, .null, .null, .null, .int (0 : Int32), .null, .null, .int (0 : Int32), .int (0 : Int32), .int (0 : Int32), .null, .null, .int (0 : Int32), .null]]) (as := [.ref Z.2.2.2.1, .int 1]) (rest := [.int r1, .ref ma, .ref ma]) cw_LW_cell lk_LW_41 cs_LW_cell (c_LW_cell l Z 100000 (1 : Int32) r2 hq2) rfl (by decide) (fun h => h) (Nat.le_of_ble_eq_true rfl) rfl (rx_dt dt_LW_law 17 rfl) ?_
  rintro _ _ ⟨rfl, rfl⟩
  show J_LW_law l Z mc ms post (k + 79) (n + 48896) (W ++ [ob ma 12 [.int (0 : Int32), .int (0 : Int32), .int (0 : Int32), .int (0 : Int32), .null, .int (0 : Int32), .null, .int (0 : Int32), .int (0 : Int32), .null, .int (0 : Int32), .null, .int (0 : Int32), .int (0 : Int32), .int (0 : Int32), .int (0 : Int32), .null, .null, .null, .null, .null, .null, .null, .null, .null, .null, .null, .int (0 : Int32), .null, .null, .int (0 : Int32), .null, .null, .int (0 : Int32), .int (0 : Int32), .int (0 : Int32), .null, .null, .null, .null, .null, .null, .null, .null, .null, .null, .null, .int (0 : Int32), .null, .null, .int (0 : Int32), .int (0 : Int32), .int (0 : Int32), .null, .null, .int (0 : Int32), .null]]) [(1, .ref xa), (0, .ref Z.2.2.2.1)] 32 [.int r2, .int r1, .ref ma, .ref ma]
  obtain ⟨PM, h3, h4⟩ := h2 ma
  have hm := pl_mid W [ob ma 12 [.int (0 : Int32), .int (0 : Int32), .int (0 : Int32), .int (0 : Int32), .null, .int (0 : Int32), .null, .int (0 : Int32), .int (0 : Int32), .null, .int (0 : Int32), .null, .int (0 : Int32), .int (0 : Int32), .int (0 : Int32), .int (0 : Int32), .null, .null, .null, .null, .null, .null, .null, .null, .null, .null, .null, .int (0 : Int32), .null, .null, .int (0 : Int32), .null, .null, .int (0 : Int32), .int (0 : Int32), .int (0 : Int32), .null, .null, .null, .null, .null, .null, .null, .null, .null, .null, .null, .int (0 : Int32), .null, .null, .int (0 : Int32), .int (0 : Int32), .int (0 : Int32), .null, .null, .int (0 : Int32), .null]] []
  have hr := pl_mid [] W [ob ma 12 [.int (0 : Int32), .int (0 : Int32), .int (0 : Int32), .int (0 : Int32), .null, .int (0 : Int32), .null, .int (0 : Int32), .int (0 : Int32), .null, .int (0 : Int32), .null, .int (0 : Int32), .int (0 : Int32), .int (0 : Int32), .int (0 : Int32), .null, .null, .null, .null, .null, .null, .null, .null, .null, .null, .null, .int (0 : Int32), .null, .null, .int (0 : Int32), .null, .null, .int (0 : Int32), .int (0 : Int32), .int (0 : Int32), .null, .null, .null, .null, .null, .null, .null, .null, .null, .null, .null, .int (0 : Int32), .null, .null, .int (0 : Int32), .int (0 : Int32), .int (0 : Int32), .null, .null, .int (0 : Int32), .null]]
  refine rw_callI cw_MD_init lk_LW_52 ii_MD_init h3 (plr W.length 1) (plr 0 W.length) hm hr (pl_nd _ _) (pl_nd _ _) (pl_dis (Or.inl (by omega))) rfl (by decide) (fun h => by omega) (rest := [.ref ma]) (wr := W) (Nat.le_of_ble_eq_true rfl) rfl (rx_dt dt_LW_law 18 rfl) (pc := 32) ?_
  rintro _ V ⟨rfl, hM⟩
  show J_LW_law l Z mc ms post (k + 114) (n + 61295) (W ++ V) [(1, .ref xa), (0, .ref Z.2.2.2.1)] 35 [.ref ma]
  refine rw_astore_n (pc := 35) (lv' := [(2, .ref ma), (1, .ref xa), (0, .ref Z.2.2.2.1)]) rfl (by decide) rfl (rx_dt dt_LW_law 19 rfl) ?_
  refine rw_iconst (pc := 36) (v := 1) rfl (rx_dt dt_LW_law 20 rfl) ?_
  refine rw_newJ (pc := 37) (N := 1) (M := 1) (by decide) (by decide) (Nat.le_refl _) (by decide) ⟨by omega, by omega⟩ (rx_dt dt_LW_law 21 rfl) ?_
  intro lc
  rw [List.append_assoc]
  show J_LW_law l Z mc ms post (k + 115) (n + 61296) (W ++ (V ++ [la Z lc 1 (fun _ => (0 : Int64))])) [(2, .ref ma), (1, .ref xa), (0, .ref Z.2.2.2.1)] 39 [.ref lc]
  refine rw_astore_n (pc := 39) (lv' := [(3, .ref lc), (2, .ref ma), (1, .ref xa), (0, .ref Z.2.2.2.1)]) rfl (by decide) rfl (rx_dt dt_LW_law 22 rfl) ?_
  refine rw_iconst (pc := 40) (v := 2) rfl (rx_dt dt_LW_law 23 rfl) ?_
  refine rw_istore (pc := 41) (lv' := [(4, .int (2 : Int32)), (3, .ref lc), (2, .ref ma), (1, .ref xa), (0, .ref Z.2.2.2.1)]) (by decide) rfl (rx_dt dt_LW_law 24 rfl) ?_
  exact rw_lv [4, 3, 2, 1, 0] rfl (lp_law l Z mc ms post hlt hp hL xa ma lc (Z.2.2.2.2.1 - 2) (k + 115) (n + 61296) 2 (fun _ => 0) W V (Nat.le_refl _) (by omega) (by omega) (by omega) (h4 W V hX hM))
