abbrev J_Block_setBounds (l : Launch) (Z : rx_D) (mc ms : Nat) (post : Option Value → va_W → Prop) := Rw l Z "DeflateEffort$Block" "setBounds" b_Block_setBounds 3 none 0 mc ms post
set_option maxRecDepth 100000 in
set_option maxHeartbeats 4000000 in
theorem w_Block_setBounds (l : Launch) (Z : rx_D) (mc ms : Nat) (post : Option Value → va_W → Prop) (k n : Nat) (F : Nat) (a_t a_t_token : Nat) (t_bits t_bitsToEnd t_from t_kind t_matches t_replaced t_size t_to x1 x2 : Int32) (o_t_from o_t_to : Int32) (hm : m_Block_setBounds F x1 x2 = some (o_t_from, o_t_to)) (hp : post none [ob a_t 0 [.ref a_t_token, .int o_t_from, .int o_t_to, .int t_kind, .int t_bits, .int t_size, .int t_matches, .int t_replaced, .int t_bitsToEnd]]) : J_Block_setBounds l Z mc ms post k n [ob a_t 0 [.ref a_t_token, .int t_from, .int t_to, .int t_kind, .int t_bits, .int t_size, .int t_matches, .int t_replaced, .int t_bitsToEnd]] [(0, .ref a_t), (1, .int x1), (2, .int x2)] 0 [] := by
  unfold m_Block_setBounds at hm
  refine rw_aload_n (pc := 0) 0 rfl rfl (rx_dt dt_Block_setBounds 0 rfl) ?_
  refine rw_iload_n (pc := 1) 1 rfl rfl (rx_dt dt_Block_setBounds 1 rfl) ?_
  refine rw_put fa_Block_9 (pc := 2) (ws' := [ob a_t 0 [.ref a_t_token, .int x1, .int t_to, .int t_kind, .int t_bits, .int t_size, .int t_matches, .int t_replaced, .int t_bitsToEnd]]) 0 rfl rfl rfl (Nat.le_of_ble_eq_true rfl) rfl (rx_dt dt_Block_setBounds 2 rfl) ?_
  refine rw_aload_n (pc := 5) 0 rfl rfl (rx_dt dt_Block_setBounds 3 rfl) ?_
  refine rw_iload_n (pc := 6) 2 rfl rfl (rx_dt dt_Block_setBounds 4 rfl) ?_
  refine rw_put fa_Block_15 (pc := 7) (ws' := [ob a_t 0 [.ref a_t_token, .int x1, .int x2, .int t_kind, .int t_bits, .int t_size, .int t_matches, .int t_replaced, .int t_bitsToEnd]]) 0 rfl rfl rfl (Nat.le_of_ble_eq_true rfl) rfl (rx_dt dt_Block_setBounds 5 rfl) ?_
  refine rw_perm (lv' := []) (ws' := [ob a_t 0 [.ref a_t_token, .int x1, .int x2, .int t_kind, .int t_bits, .int t_size, .int t_matches, .int t_replaced, .int t_bitsToEnd]]) [] [0] rfl rfl rfl ?_
  cases hm
  exact rw_vret (pc := 10) (rx_dt dt_Block_setBounds 6 rfl) hp
theorem c_Block_setBounds (l : Launch) (Z : rx_D) (F : Nat) (a_t a_t_token : Nat) (t_bits t_bitsToEnd t_from t_kind t_matches t_replaced t_size t_to x1 x2 : Int32) (o_t_from o_t_to : Int32) (hm : m_Block_setBounds F x1 x2 = some (o_t_from, o_t_to)) : Cn l Z y_Block_setBounds b_Block_setBounds 3 none 0 [.ref a_t, .int x1, .int x2] [ob a_t 0 [.ref a_t_token, .int t_from, .int t_to, .int t_kind, .int t_bits, .int t_size, .int t_matches, .int t_replaced, .int t_bitsToEnd]] 0 0 (fun r w => r = none ∧ w = [ob a_t 0 [.ref a_t_token, .int o_t_from, .int o_t_to, .int t_kind, .int t_bits, .int t_size, .int t_matches, .int t_replaced, .int t_bitsToEnd]]) :=
  rx_met "DeflateEffort$Block" "setBounds" mf_Block_setBounds (Nat.le_of_ble_eq_true rfl) rfl (by rintro _ _ ⟨h9, _⟩; cases h9) (w_Block_setBounds l Z 0 0 _ 0 0 F a_t a_t_token t_bits t_bitsToEnd t_from t_kind t_matches t_replaced t_size t_to x1 x2 o_t_from o_t_to hm ⟨rfl, rfl⟩)
abbrev J_Block_keep (l : Launch) (Z : rx_D) (mc ms : Nat) (post : Option Value → va_W → Prop) := Rw l Z "DeflateEffort$Block" "keep" b_Block_keep 5 none 1 mc ms post
set_option maxRecDepth 100000 in
set_option maxHeartbeats 4000000 in
theorem wl_Block_keep_58 (l : Launch) (Z : rx_D) (mc ms : Nat) (post : Option Value → va_W → Prop) (k n : Nat) (F : Nat) (a_p1 a_p1_distances a_p1_literals a_p1_token a_t a_t_token n_t : Nat) (p1_bits p1_kind p1_matches p1_size : Int32) (p1_token : Nat → Int32) (t_from t_to x2 y1 y2 : Int32) : ∀ (f : Nat)  (v4_1 : Int32) (t_token1 : Nat → Int32) (v4_2 : Int32) (t_token2 : Nat → Int32), L_Block_keep_58 F n_t p1_token y1 f v4_1 t_token1 = some (v4_2, t_token2) → (J_Block_keep l Z mc ms post k n [ob a_p1 7 [.ref a_p1_token, .int p1_size, .int p1_matches, .ref a_p1_literals, .ref a_p1_distances, .int p1_kind, .int p1_bits], ia Z a_p1_token 512 p1_token, ob a_t 0 [.ref a_t_token, .int t_from, .int t_to, .int p1_kind, .int p1_bits, .int y1, .int p1_matches, .int x2, .int y2], ia Z a_t_token n_t t_token2] [] 87 []) → J_Block_keep l Z mc ms post k n [ob a_p1 7 [.ref a_p1_token, .int p1_size, .int p1_matches, .ref a_p1_literals, .ref a_p1_distances, .int p1_kind, .int p1_bits], ia Z a_p1_token 512 p1_token, ob a_t 0 [.ref a_t_token, .int t_from, .int t_to, .int p1_kind, .int p1_bits, .int y1, .int p1_matches, .int x2, .int y2], ia Z a_t_token n_t t_token1] [(0, .ref a_t), (1, .ref a_p1), (4, .int v4_1)] 58 [] := by
  intro f
  induction f with
  | zero =>
    intro v4_1 t_token1 v4_2 t_token2 hm K
    cases hm
  | succ f ih =>
    intro v4_1 t_token1 v4_2 t_token2 hm K
    have hm : B_Block_keep_58 F n_t p1_token y1 (L_Block_keep_58 F n_t p1_token y1 f) v4_1 t_token1 = some (v4_2, t_token2) := hm
    unfold B_Block_keep_58 at hm
    refine rw_iload (pc := 58) 2 rfl (rx_dt dt_Block_keep 31 rfl) ?_
    refine rw_aload_n (pc := 60) 0 rfl rfl (rx_dt dt_Block_keep 32 rfl) ?_
    refine rw_get fa_Block_24 (pc := 61) 2 rfl rfl (rx_dt dt_Block_keep 33 rfl) ?_
    rcases ite_some hm with ⟨hc, hm⟩ | ⟨hc, hm⟩
    · refine rw_icmp_ge_t (pc := 64) (tgt := 87) hc (by decide) (rx_dt dt_Block_keep 34 rfl) ?_
      refine rw_perm (lv' := []) (ws' := [ob a_p1 7 [.ref a_p1_token, .int p1_size, .int p1_matches, .ref a_p1_literals, .ref a_p1_distances, .int p1_kind, .int p1_bits], ia Z a_p1_token 512 p1_token, ob a_t 0 [.ref a_t_token, .int t_from, .int t_to, .int p1_kind, .int p1_bits, .int y1, .int p1_matches, .int x2, .int y2], ia Z a_t_token n_t t_token1]) [] [0, 1, 2, 3] rfl rfl rfl ?_
      cases hm
      exact K
    · refine rw_icmp_ge_f (pc := 64) (tgt := 87) hc (by decide) (rx_dt dt_Block_keep 34 rfl) ?_
      refine rw_aload_n (pc := 67) 0 rfl rfl (rx_dt dt_Block_keep 35 rfl) ?_
      refine rw_get fa_Block_42 (pc := 68) 2 rfl rfl (rx_dt dt_Block_keep 36 rfl) ?_
      refine rw_iload (pc := 71) 2 rfl (rx_dt dt_Block_keep 37 rfl) ?_
      refine rw_aload_n (pc := 73) 1 rfl rfl (rx_dt dt_Block_keep 38 rfl) ?_
      refine rw_get fa_Block_55 (pc := 74) 0 rfl rfl (rx_dt dt_Block_keep 39 rfl) ?_
      refine rw_iload (pc := 77) 2 rfl (rx_dt dt_Block_keep 40 rfl) ?_
      obtain ⟨hk1, hm⟩ := chk_some hm
      refine rw_iald (pc := 79) 1 rfl hk1 (rx_dt dt_Block_keep 41 rfl) ?_
      obtain ⟨hk2, hm⟩ := chk_some hm
      obtain ⟨t_token3, ht_token3, hm⟩ := nm_some hm
      refine rw_iast (pc := 80) (ws' := [ob a_p1 7 [.ref a_p1_token, .int p1_size, .int p1_matches, .ref a_p1_literals, .ref a_p1_distances, .int p1_kind, .int p1_bits], ia Z a_p1_token 512 p1_token, ob a_t 0 [.ref a_t_token, .int t_from, .int t_to, .int p1_kind, .int p1_bits, .int y1, .int p1_matches, .int x2, .int y2], ia Z a_t_token n_t t_token3]) 3 rfl hk2 (by rw [← ht_token3]; rfl) (rx_dt dt_Block_keep 42 rfl) ?_
      obtain ⟨y3, hy3, hm⟩ := nm_some hm
      refine rw_iinc (pc := 81) (lv' := [(4, .int y3), (0, .ref a_t), (1, .ref a_p1)]) 2 rfl hy3 (by decide) rfl (rx_dt dt_Block_keep 43 rfl) ?_
      refine rw_goto (pc := 84) (tgt := 58) (by decide) (rx_dt dt_Block_keep 44 rfl) ?_
      refine rw_perm (lv' := [(0, .ref a_t), (1, .ref a_p1), (4, .int y3)]) (ws' := [ob a_p1 7 [.ref a_p1_token, .int p1_size, .int p1_matches, .ref a_p1_literals, .ref a_p1_distances, .int p1_kind, .int p1_bits], ia Z a_p1_token 512 p1_token, ob a_t 0 [.ref a_t_token, .int t_from, .int t_to, .int p1_kind, .int p1_bits, .int y1, .int p1_matches, .int x2, .int y2], ia Z a_t_token n_t t_token3]) [1, 2, 0] [0, 1, 2, 3] rfl rfl rfl ?_
      exact ih  _ _ _ _ hm K
set_option maxRecDepth 100000 in
set_option maxHeartbeats 4000000 in
theorem w_Block_keep (l : Launch) (Z : rx_D) (mc ms : Nat) (post : Option Value → va_W → Prop) (k n : Nat) (F : Nat) (a_p1 a_p1_distances a_p1_literals a_p1_token a_t a_t_token n_t : Nat) (p1_bits p1_kind p1_matches p1_size : Int32) (p1_token : Nat → Int32) (t_bits t_bitsToEnd t_from t_kind t_matches t_replaced t_size t_to : Int32) (t_token : Nat → Int32) (x2 x3 : Int32) (o_t_kind o_t_bits o_t_size o_t_matches o_t_replaced o_t_bitsToEnd : Int32) (o_t_token : Nat → Int32) (hm : m_Block_keep F n_t p1_bits p1_kind p1_matches p1_size p1_token t_token x2 x3 = some (o_t_kind, o_t_bits, o_t_size, o_t_matches, o_t_replaced, o_t_bitsToEnd, o_t_token)) (hp : post none [ob a_p1 7 [.ref a_p1_token, .int p1_size, .int p1_matches, .ref a_p1_literals, .ref a_p1_distances, .int p1_kind, .int p1_bits], ia Z a_p1_token 512 p1_token, ob a_t 0 [.ref a_t_token, .int t_from, .int t_to, .int o_t_kind, .int o_t_bits, .int o_t_size, .int o_t_matches, .int o_t_replaced, .int o_t_bitsToEnd], ia Z a_t_token n_t o_t_token]) : J_Block_keep l Z mc ms post k n [ob a_p1 7 [.ref a_p1_token, .int p1_size, .int p1_matches, .ref a_p1_literals, .ref a_p1_distances, .int p1_kind, .int p1_bits], ia Z a_p1_token 512 p1_token, ob a_t 0 [.ref a_t_token, .int t_from, .int t_to, .int t_kind, .int t_bits, .int t_size, .int t_matches, .int t_replaced, .int t_bitsToEnd], ia Z a_t_token n_t t_token] [(0, .ref a_t), (1, .ref a_p1), (2, .int x2), (3, .int x3)] 0 [] := by
  unfold m_Block_keep at hm
  refine rw_aload_n (pc := 0) 0 rfl rfl (rx_dt dt_Block_keep 0 rfl) ?_
  refine rw_aload_n (pc := 1) 1 rfl rfl (rx_dt dt_Block_keep 1 rfl) ?_
  refine rw_get fa_Block_46 (pc := 2) 0 rfl rfl (rx_dt dt_Block_keep 2 rfl) ?_
  refine rw_put fa_Block_18 (pc := 5) (ws' := [ob a_p1 7 [.ref a_p1_token, .int p1_size, .int p1_matches, .ref a_p1_literals, .ref a_p1_distances, .int p1_kind, .int p1_bits], ia Z a_p1_token 512 p1_token, ob a_t 0 [.ref a_t_token, .int t_from, .int t_to, .int p1_kind, .int t_bits, .int t_size, .int t_matches, .int t_replaced, .int t_bitsToEnd], ia Z a_t_token n_t t_token]) 2 rfl rfl rfl (Nat.le_of_ble_eq_true rfl) rfl (rx_dt dt_Block_keep 3 rfl) ?_
  refine rw_aload_n (pc := 8) 0 rfl rfl (rx_dt dt_Block_keep 4 rfl) ?_
  refine rw_aload_n (pc := 9) 1 rfl rfl (rx_dt dt_Block_keep 5 rfl) ?_
  refine rw_get fa_Block_49 (pc := 10) 0 rfl rfl (rx_dt dt_Block_keep 6 rfl) ?_
  refine rw_put fa_Block_21 (pc := 13) (ws' := [ob a_p1 7 [.ref a_p1_token, .int p1_size, .int p1_matches, .ref a_p1_literals, .ref a_p1_distances, .int p1_kind, .int p1_bits], ia Z a_p1_token 512 p1_token, ob a_t 0 [.ref a_t_token, .int t_from, .int t_to, .int p1_kind, .int p1_bits, .int t_size, .int t_matches, .int t_replaced, .int t_bitsToEnd], ia Z a_t_token n_t t_token]) 2 rfl rfl rfl (Nat.le_of_ble_eq_true rfl) rfl (rx_dt dt_Block_keep 7 rfl) ?_
  refine rw_aload_n (pc := 16) 0 rfl rfl (rx_dt dt_Block_keep 8 rfl) ?_
  refine rw_aload_n (pc := 17) 1 rfl rfl (rx_dt dt_Block_keep 9 rfl) ?_
  refine rw_get fa_Block_50 (pc := 18) 0 rfl rfl (rx_dt dt_Block_keep 10 rfl) ?_
  refine rw_aload_n (pc := 21) 0 rfl rfl (rx_dt dt_Block_keep 11 rfl) ?_
  refine rw_get fa_Block_42 (pc := 22) 2 rfl rfl (rx_dt dt_Block_keep 12 rfl) ?_
  refine rw_alen (pc := 25) 3 rfl (rx_dt dt_Block_keep 13 rfl) ?_
  refine rw_imin (pc := 26) mk_Block_51 (by decide) (Nat.le_of_ble_eq_true rfl) (rx_dt dt_Block_keep 14 rfl) ?_
  obtain ⟨y1, hy1, hm⟩ := nm_some hm
  refine rw_nm hy1 ?_
  refine rw_put fa_Block_24 (pc := 29) (ws' := [ob a_p1 7 [.ref a_p1_token, .int p1_size, .int p1_matches, .ref a_p1_literals, .ref a_p1_distances, .int p1_kind, .int p1_bits], ia Z a_p1_token 512 p1_token, ob a_t 0 [.ref a_t_token, .int t_from, .int t_to, .int p1_kind, .int p1_bits, .int y1, .int t_matches, .int t_replaced, .int t_bitsToEnd], ia Z a_t_token n_t t_token]) 2 rfl rfl rfl (Nat.le_of_ble_eq_true rfl) rfl (rx_dt dt_Block_keep 15 rfl) ?_
  refine rw_aload_n (pc := 32) 0 rfl rfl (rx_dt dt_Block_keep 16 rfl) ?_
  refine rw_aload_n (pc := 33) 1 rfl rfl (rx_dt dt_Block_keep 17 rfl) ?_
  refine rw_get fa_Block_54 (pc := 34) 0 rfl rfl (rx_dt dt_Block_keep 18 rfl) ?_
  refine rw_put fa_Block_27 (pc := 37) (ws' := [ob a_p1 7 [.ref a_p1_token, .int p1_size, .int p1_matches, .ref a_p1_literals, .ref a_p1_distances, .int p1_kind, .int p1_bits], ia Z a_p1_token 512 p1_token, ob a_t 0 [.ref a_t_token, .int t_from, .int t_to, .int p1_kind, .int p1_bits, .int y1, .int p1_matches, .int t_replaced, .int t_bitsToEnd], ia Z a_t_token n_t t_token]) 2 rfl rfl rfl (Nat.le_of_ble_eq_true rfl) rfl (rx_dt dt_Block_keep 19 rfl) ?_
  refine rw_aload_n (pc := 40) 0 rfl rfl (rx_dt dt_Block_keep 20 rfl) ?_
  refine rw_iload_n (pc := 41) 2 rfl rfl (rx_dt dt_Block_keep 21 rfl) ?_
  refine rw_put fa_Block_30 (pc := 42) (ws' := [ob a_p1 7 [.ref a_p1_token, .int p1_size, .int p1_matches, .ref a_p1_literals, .ref a_p1_distances, .int p1_kind, .int p1_bits], ia Z a_p1_token 512 p1_token, ob a_t 0 [.ref a_t_token, .int t_from, .int t_to, .int p1_kind, .int p1_bits, .int y1, .int p1_matches, .int x2, .int t_bitsToEnd], ia Z a_t_token n_t t_token]) 2 rfl rfl rfl (Nat.le_of_ble_eq_true rfl) rfl (rx_dt dt_Block_keep 22 rfl) ?_
  refine rw_aload_n (pc := 45) 0 rfl rfl (rx_dt dt_Block_keep 23 rfl) ?_
  refine rw_aload_n (pc := 46) 1 rfl rfl (rx_dt dt_Block_keep 24 rfl) ?_
  refine rw_get fa_Block_49 (pc := 47) 0 rfl rfl (rx_dt dt_Block_keep 25 rfl) ?_
  refine rw_iload_n (pc := 50) 3 rfl rfl (rx_dt dt_Block_keep 26 rfl) ?_
  refine rw_iadd (pc := 51) (rx_dt dt_Block_keep 27 rfl) ?_
  obtain ⟨y2, hy2, hm⟩ := nm_some hm
  refine rw_nm hy2 ?_
  refine rw_put fa_Block_33 (pc := 52) (ws' := [ob a_p1 7 [.ref a_p1_token, .int p1_size, .int p1_matches, .ref a_p1_literals, .ref a_p1_distances, .int p1_kind, .int p1_bits], ia Z a_p1_token 512 p1_token, ob a_t 0 [.ref a_t_token, .int t_from, .int t_to, .int p1_kind, .int p1_bits, .int y1, .int p1_matches, .int x2, .int y2], ia Z a_t_token n_t t_token]) 2 rfl rfl rfl (Nat.le_of_ble_eq_true rfl) rfl (rx_dt dt_Block_keep 28 rfl) ?_
  refine rw_iconst (pc := 55) (v := 0) rfl (rx_dt dt_Block_keep 29 rfl) ?_
  refine rw_istore (pc := 56) (lv' := [(4, .int (0 : Int32)), (0, .ref a_t), (1, .ref a_p1), (2, .int x2), (3, .int x3)]) (by decide) rfl (rx_dt dt_Block_keep 30 rfl) ?_
  obtain ⟨v4_3, t_token4, hl, hm⟩ := bnd2_some hm
  refine rw_perm (lv' := [(0, .ref a_t), (1, .ref a_p1), (4, .int (0 : Int32))]) (ws' := [ob a_p1 7 [.ref a_p1_token, .int p1_size, .int p1_matches, .ref a_p1_literals, .ref a_p1_distances, .int p1_kind, .int p1_bits], ia Z a_p1_token 512 p1_token, ob a_t 0 [.ref a_t_token, .int t_from, .int t_to, .int p1_kind, .int p1_bits, .int y1, .int p1_matches, .int x2, .int y2], ia Z a_t_token n_t t_token]) [1, 2, 0] [0, 1, 2, 3] rfl rfl rfl ?_
  refine wl_Block_keep_58 l Z mc ms post k n F a_p1 a_p1_distances a_p1_literals a_p1_token a_t a_t_token n_t p1_bits p1_kind p1_matches p1_size p1_token t_from t_to x2 y1 y2 F  (0 : Int32) t_token v4_3 t_token4 hl ?_
  cases hm
  exact rw_vret (pc := 87) (rx_dt dt_Block_keep 45 rfl) hp
theorem c_Block_keep (l : Launch) (Z : rx_D) (F : Nat) (a_p1 a_p1_distances a_p1_literals a_p1_token a_t a_t_token n_t : Nat) (p1_bits p1_kind p1_matches p1_size : Int32) (p1_token : Nat → Int32) (t_bits t_bitsToEnd t_from t_kind t_matches t_replaced t_size t_to : Int32) (t_token : Nat → Int32) (x2 x3 : Int32) (o_t_kind o_t_bits o_t_size o_t_matches o_t_replaced o_t_bitsToEnd : Int32) (o_t_token : Nat → Int32) (hm : m_Block_keep F n_t p1_bits p1_kind p1_matches p1_size p1_token t_token x2 x3 = some (o_t_kind, o_t_bits, o_t_size, o_t_matches, o_t_replaced, o_t_bitsToEnd, o_t_token)) : Cn l Z y_Block_keep b_Block_keep 5 none 1 [.ref a_t, .ref a_p1, .int x2, .int x3] [ob a_p1 7 [.ref a_p1_token, .int p1_size, .int p1_matches, .ref a_p1_literals, .ref a_p1_distances, .int p1_kind, .int p1_bits], ia Z a_p1_token 512 p1_token, ob a_t 0 [.ref a_t_token, .int t_from, .int t_to, .int t_kind, .int t_bits, .int t_size, .int t_matches, .int t_replaced, .int t_bitsToEnd], ia Z a_t_token n_t t_token] 0 0 (fun r w => r = none ∧ w = [ob a_p1 7 [.ref a_p1_token, .int p1_size, .int p1_matches, .ref a_p1_literals, .ref a_p1_distances, .int p1_kind, .int p1_bits], ia Z a_p1_token 512 p1_token, ob a_t 0 [.ref a_t_token, .int t_from, .int t_to, .int o_t_kind, .int o_t_bits, .int o_t_size, .int o_t_matches, .int o_t_replaced, .int o_t_bitsToEnd], ia Z a_t_token n_t o_t_token]) :=
  rx_met "DeflateEffort$Block" "keep" mf_Block_keep (Nat.le_of_ble_eq_true rfl) rfl (by rintro _ _ ⟨h9, _⟩; cases h9) (w_Block_keep l Z 0 0 _ 0 0 F a_p1 a_p1_distances a_p1_literals a_p1_token a_t a_t_token n_t p1_bits p1_kind p1_matches p1_size p1_token t_bits t_bitsToEnd t_from t_kind t_matches t_replaced t_size t_to t_token x2 x3 o_t_kind o_t_bits o_t_size o_t_matches o_t_replaced o_t_bitsToEnd o_t_token hm ⟨rfl, rfl⟩)
abbrev J_Code_longest (l : Launch) (Z : rx_D) (mc ms : Nat) (post : Option Value → va_W → Prop) := Rw l Z "DeflateEffort$Code" "longest" b_Code_longest 3 (some .int) 1 mc ms post
set_option maxRecDepth 100000 in
set_option maxHeartbeats 4000000 in
theorem wl_Code_longest_4 (l : Launch) (Z : rx_D) (mc ms : Nat) (post : Option Value → va_W → Prop) (k n : Nat) (F : Nat) (a_t a_t_count a_t_length n_t : Nat) (t_length : Nat → Int32) : ∀ (f : Nat)  (v1_1 v2_1 : Int32) (v1_2 v2_2 : Int32), L_Code_longest_4 F n_t t_length f v1_1 v2_1 = some (v1_2, v2_2) → (J_Code_longest l Z mc ms post k n [ob a_t 1 [.ref a_t_count, .ref a_t_length], ia Z a_t_length n_t t_length] [(1, .int v1_2)] 30 []) → J_Code_longest l Z mc ms post k n [ob a_t 1 [.ref a_t_count, .ref a_t_length], ia Z a_t_length n_t t_length] [(0, .ref a_t), (1, .int v1_1), (2, .int v2_1)] 4 [] := by
  intro f
  induction f with
  | zero =>
    intro v1_1 v2_1 v1_2 v2_2 hm K
    cases hm
  | succ f ih =>
    intro v1_1 v2_1 v1_2 v2_2 hm K
    have hm : B_Code_longest_4 F n_t t_length (L_Code_longest_4 F n_t t_length f) v1_1 v2_1 = some (v1_2, v2_2) := hm
    unfold B_Code_longest_4 at hm
    refine rw_iload_n (pc := 4) 2 rfl rfl (rx_dt dt_Code_longest 4 rfl) ?_
    refine rw_aload_n (pc := 5) 0 rfl rfl (rx_dt dt_Code_longest 5 rfl) ?_
    refine rw_get fa_Code_19 (pc := 6) 0 rfl rfl (rx_dt dt_Code_longest 6 rfl) ?_
    refine rw_alen (pc := 9) 1 rfl (rx_dt dt_Code_longest 7 rfl) ?_
    rcases ite_some hm with ⟨hc, hm⟩ | ⟨hc, hm⟩
    · refine rw_icmp_ge_t (pc := 10) (tgt := 30) hc (by decide) (rx_dt dt_Code_longest 8 rfl) ?_
      refine rw_perm (lv' := [(1, .int v1_1)]) (ws' := [ob a_t 1 [.ref a_t_count, .ref a_t_length], ia Z a_t_length n_t t_length]) [1] [0, 1] rfl rfl rfl ?_
      cases hm
      exact K
    · refine rw_icmp_ge_f (pc := 10) (tgt := 30) hc (by decide) (rx_dt dt_Code_longest 8 rfl) ?_
      refine rw_iload_n (pc := 13) 1 rfl rfl (rx_dt dt_Code_longest 9 rfl) ?_
      refine rw_aload_n (pc := 14) 0 rfl rfl (rx_dt dt_Code_longest 10 rfl) ?_
      refine rw_get fa_Code_19 (pc := 15) 0 rfl rfl (rx_dt dt_Code_longest 11 rfl) ?_
      refine rw_iload_n (pc := 18) 2 rfl rfl (rx_dt dt_Code_longest 12 rfl) ?_
      obtain ⟨hk1, hm⟩ := chk_some hm
      refine rw_iald (pc := 19) 1 rfl hk1 (rx_dt dt_Code_longest 13 rfl) ?_
      refine rw_imax (pc := 20) mk_Code_7 (by decide) (Nat.le_of_ble_eq_true rfl) (rx_dt dt_Code_longest 14 rfl) ?_
      obtain ⟨y1, hy1, hm⟩ := nm_some hm
      refine rw_nm hy1 ?_
      refine rw_istore_n (pc := 23) (lv' := [(1, .int y1), (0, .ref a_t), (2, .int v2_1)]) rfl (by decide) rfl (rx_dt dt_Code_longest 15 rfl) ?_
      obtain ⟨y2, hy2, hm⟩ := nm_some hm
      refine rw_iinc (pc := 24) (lv' := [(2, .int y2), (1, .int y1), (0, .ref a_t)]) 2 rfl hy2 (by decide) rfl (rx_dt dt_Code_longest 16 rfl) ?_
      refine rw_goto (pc := 27) (tgt := 4) (by decide) (rx_dt dt_Code_longest 17 rfl) ?_
      refine rw_perm (lv' := [(0, .ref a_t), (1, .int y1), (2, .int y2)]) (ws' := [ob a_t 1 [.ref a_t_count, .ref a_t_length], ia Z a_t_length n_t t_length]) [2, 1, 0] [0, 1] rfl rfl rfl ?_
      exact ih  _ _ _ _ hm K
set_option maxRecDepth 100000 in
set_option maxHeartbeats 4000000 in
theorem w_Code_longest (l : Launch) (Z : rx_D) (mc ms : Nat) (post : Option Value → va_W → Prop) (k n : Nat) (F : Nat) (a_t a_t_count a_t_length n_t : Nat) (t_length : Nat → Int32) (r0 : Int32) (hm : m_Code_longest F n_t t_length = some r0) (hp : post (some (.int r0)) [ob a_t 1 [.ref a_t_count, .ref a_t_length], ia Z a_t_length n_t t_length]) : J_Code_longest l Z mc ms post k n [ob a_t 1 [.ref a_t_count, .ref a_t_length], ia Z a_t_length n_t t_length] [(0, .ref a_t)] 0 [] := by
  unfold m_Code_longest at hm
  refine rw_iconst (pc := 0) (v := 0) rfl (rx_dt dt_Code_longest 0 rfl) ?_
  refine rw_istore_n (pc := 1) (lv' := [(1, .int (0 : Int32)), (0, .ref a_t)]) rfl (by decide) rfl (rx_dt dt_Code_longest 1 rfl) ?_
  refine rw_iconst (pc := 2) (v := 0) rfl (rx_dt dt_Code_longest 2 rfl) ?_
  refine rw_istore_n (pc := 3) (lv' := [(2, .int (0 : Int32)), (1, .int (0 : Int32)), (0, .ref a_t)]) rfl (by decide) rfl (rx_dt dt_Code_longest 3 rfl) ?_
  obtain ⟨v1_3, v2_3, hl, hm⟩ := bnd2_some hm
  refine rw_perm (lv' := [(0, .ref a_t), (1, .int (0 : Int32)), (2, .int (0 : Int32))]) (ws' := [ob a_t 1 [.ref a_t_count, .ref a_t_length], ia Z a_t_length n_t t_length]) [2, 1, 0] [0, 1] rfl rfl rfl ?_
  refine wl_Code_longest_4 l Z mc ms post k n F a_t a_t_count a_t_length n_t t_length F  (0 : Int32) (0 : Int32) v1_3 v2_3 hl ?_
  refine rw_iload_n (pc := 30) 0 rfl rfl (rx_dt dt_Code_longest 18 rfl) ?_
  refine rw_perm (lv' := []) (ws' := [ob a_t 1 [.ref a_t_count, .ref a_t_length], ia Z a_t_length n_t t_length]) [] [0, 1] rfl rfl rfl ?_
  cases hm
  exact rw_iret (pc := 31) (rx_dt dt_Code_longest 19 rfl) hp
theorem c_Code_longest (l : Launch) (Z : rx_D) (F : Nat) (a_t a_t_count a_t_length n_t : Nat) (t_length : Nat → Int32) (r0 : Int32) (hm : m_Code_longest F n_t t_length = some r0) : Cn l Z y_Code_longest b_Code_longest 3 (some .int) 1 [.ref a_t] [ob a_t 1 [.ref a_t_count, .ref a_t_length], ia Z a_t_length n_t t_length] 0 0 (fun r w => r = (some (.int r0)) ∧ w = [ob a_t 1 [.ref a_t_count, .ref a_t_length], ia Z a_t_length n_t t_length]) :=
  rx_met "DeflateEffort$Code" "longest" mf_Code_longest (Nat.le_of_ble_eq_true rfl) rfl (by rintro _ _ ⟨h9, _⟩; cases h9) (w_Code_longest l Z 0 0 _ 0 0 F a_t a_t_count a_t_length n_t t_length r0 hm ⟨rfl, rfl⟩)
abbrev J_Code_usedLengths (l : Launch) (Z : rx_D) (mc ms : Nat) (post : Option Value → va_W → Prop) := Rw l Z "DeflateEffort$Code" "usedLengths" b_Code_usedLengths 3 (some .int) 0 mc ms post
set_option maxRecDepth 100000 in
set_option maxHeartbeats 4000000 in
theorem wl_Code_usedLengths_6 (l : Launch) (Z : rx_D) (mc ms : Nat) (post : Option Value → va_W → Prop) (k n : Nat) (F : Nat) (a_t a_t_count a_t_length n_t : Nat) (t_length : Nat → Int32) (x1 : Int32) : ∀ (f : Nat)  (v2_1 : Int32) (v2_2 : Int32), L_Code_usedLengths_6 F n_t t_length x1 f v2_1 = some v2_2 → (J_Code_usedLengths l Z mc ms post k n [ob a_t 1 [.ref a_t_count, .ref a_t_length], ia Z a_t_length n_t t_length] [(2, .int v2_2)] 32 []) → J_Code_usedLengths l Z mc ms post k n [ob a_t 1 [.ref a_t_count, .ref a_t_length], ia Z a_t_length n_t t_length] [(0, .ref a_t), (1, .int x1), (2, .int v2_1)] 6 [] := by
  intro f
  induction f with
  | zero =>
    intro v2_1 v2_2 hm K
    cases hm
  | succ f ih =>
    intro v2_1 v2_2 hm K
    have hm : B_Code_usedLengths_6 F n_t t_length x1 (L_Code_usedLengths_6 F n_t t_length x1 f) v2_1 = some v2_2 := hm
    unfold B_Code_usedLengths_6 at hm
    refine rw_iload_n (pc := 6) 2 rfl rfl (rx_dt dt_Code_usedLengths 4 rfl) ?_
    refine rw_iload_n (pc := 7) 1 rfl rfl (rx_dt dt_Code_usedLengths 5 rfl) ?_
    rcases ite_some hm with ⟨hc, hm⟩ | ⟨hc, hm⟩
    · refine rw_icmp_le_t (pc := 8) (tgt := 32) hc (by decide) (rx_dt dt_Code_usedLengths 6 rfl) ?_
      refine rw_perm (lv' := [(2, .int v2_1)]) (ws' := [ob a_t 1 [.ref a_t_count, .ref a_t_length], ia Z a_t_length n_t t_length]) [2] [0, 1] rfl rfl rfl ?_
      cases hm
      exact K
    · refine rw_icmp_le_f (pc := 8) (tgt := 32) hc (by decide) (rx_dt dt_Code_usedLengths 6 rfl) ?_
      refine rw_iload_n (pc := 11) 2 rfl rfl (rx_dt dt_Code_usedLengths 7 rfl) ?_
      rcases ite_some hm with ⟨hc, hm⟩ | ⟨hc, hm⟩
      · refine rw_if_le_t (pc := 12) (tgt := 32) hc (by decide) (rx_dt dt_Code_usedLengths 8 rfl) ?_
        refine rw_perm (lv' := [(2, .int v2_1)]) (ws' := [ob a_t 1 [.ref a_t_count, .ref a_t_length], ia Z a_t_length n_t t_length]) [2] [0, 1] rfl rfl rfl ?_
        cases hm
        exact K
      · refine rw_if_le_f (pc := 12) (tgt := 32) hc (by decide) (rx_dt dt_Code_usedLengths 8 rfl) ?_
        refine rw_aload_n (pc := 15) 0 rfl rfl (rx_dt dt_Code_usedLengths 9 rfl) ?_
        refine rw_get fa_Code_19 (pc := 16) 0 rfl rfl (rx_dt dt_Code_usedLengths 10 rfl) ?_
        refine rw_iload_n (pc := 19) 2 rfl rfl (rx_dt dt_Code_usedLengths 11 rfl) ?_
        refine rw_iconst (pc := 20) (v := 1) rfl (rx_dt dt_Code_usedLengths 12 rfl) ?_
        refine rw_isub (pc := 21) (rx_dt dt_Code_usedLengths 13 rfl) ?_
        obtain ⟨hk1, hm⟩ := chk_some hm
        refine rw_iald (pc := 22) 1 rfl hk1 (rx_dt dt_Code_usedLengths 14 rfl) ?_
        rcases ite_some hm with ⟨hc, hm⟩ | ⟨hc, hm⟩
        · refine rw_if_ne_f (pc := 23) (tgt := 32) hc (by decide) (rx_dt dt_Code_usedLengths 15 rfl) ?_
          obtain ⟨y2, hy2, hm⟩ := nm_some hm
          refine rw_iinc (pc := 26) (lv' := [(2, .int y2), (0, .ref a_t), (1, .int x1)]) 2 rfl hy2 (by decide) rfl (rx_dt dt_Code_usedLengths 16 rfl) ?_
          refine rw_goto (pc := 29) (tgt := 6) (by decide) (rx_dt dt_Code_usedLengths 17 rfl) ?_
          refine rw_perm (lv' := [(0, .ref a_t), (1, .int x1), (2, .int y2)]) (ws' := [ob a_t 1 [.ref a_t_count, .ref a_t_length], ia Z a_t_length n_t t_length]) [1, 2, 0] [0, 1] rfl rfl rfl ?_
          exact ih  _ _ hm K
        · refine rw_if_ne_t (pc := 23) (tgt := 32) hc (by decide) (rx_dt dt_Code_usedLengths 15 rfl) ?_
          refine rw_perm (lv' := [(2, .int v2_1)]) (ws' := [ob a_t 1 [.ref a_t_count, .ref a_t_length], ia Z a_t_length n_t t_length]) [2] [0, 1] rfl rfl rfl ?_
          cases hm
          exact K
set_option maxRecDepth 100000 in
set_option maxHeartbeats 4000000 in
theorem w_Code_usedLengths (l : Launch) (Z : rx_D) (mc ms : Nat) (post : Option Value → va_W → Prop) (k n : Nat) (F : Nat) (a_t a_t_count a_t_length n_t : Nat) (t_length : Nat → Int32) (x1 : Int32) (r0 : Int32) (hm : m_Code_usedLengths F n_t t_length x1 = some r0) (hp : post (some (.int r0)) [ob a_t 1 [.ref a_t_count, .ref a_t_length], ia Z a_t_length n_t t_length]) : J_Code_usedLengths l Z mc ms post k n [ob a_t 1 [.ref a_t_count, .ref a_t_length], ia Z a_t_length n_t t_length] [(0, .ref a_t), (1, .int x1)] 0 [] := by
  unfold m_Code_usedLengths at hm
  refine rw_aload_n (pc := 0) 0 rfl rfl (rx_dt dt_Code_usedLengths 0 rfl) ?_
  refine rw_get fa_Code_19 (pc := 1) 0 rfl rfl (rx_dt dt_Code_usedLengths 1 rfl) ?_
  refine rw_alen (pc := 4) 1 rfl (rx_dt dt_Code_usedLengths 2 rfl) ?_
  obtain ⟨y1, hy1, hm⟩ := nm_some hm
  refine rw_nm hy1 ?_
  refine rw_istore_n (pc := 5) (lv' := [(2, .int y1), (0, .ref a_t), (1, .int x1)]) rfl (by decide) rfl (rx_dt dt_Code_usedLengths 3 rfl) ?_
  obtain ⟨v2_3, hl, hm⟩ := bnd1_some hm
  refine rw_perm (lv' := [(0, .ref a_t), (1, .int x1), (2, .int y1)]) (ws' := [ob a_t 1 [.ref a_t_count, .ref a_t_length], ia Z a_t_length n_t t_length]) [1, 2, 0] [0, 1] rfl rfl rfl ?_
  refine wl_Code_usedLengths_6 l Z mc ms post k n F a_t a_t_count a_t_length n_t t_length x1 F  y1 v2_3 hl ?_
  refine rw_iload_n (pc := 32) 0 rfl rfl (rx_dt dt_Code_usedLengths 18 rfl) ?_
  refine rw_perm (lv' := []) (ws' := [ob a_t 1 [.ref a_t_count, .ref a_t_length], ia Z a_t_length n_t t_length]) [] [0, 1] rfl rfl rfl ?_
  cases hm
  exact rw_iret (pc := 33) (rx_dt dt_Code_usedLengths 19 rfl) hp
theorem c_Code_usedLengths (l : Launch) (Z : rx_D) (F : Nat) (a_t a_t_count a_t_length n_t : Nat) (t_length : Nat → Int32) (x1 : Int32) (r0 : Int32) (hm : m_Code_usedLengths F n_t t_length x1 = some r0) : Cn l Z y_Code_usedLengths b_Code_usedLengths 3 (some .int) 0 [.ref a_t, .int x1] [ob a_t 1 [.ref a_t_count, .ref a_t_length], ia Z a_t_length n_t t_length] 0 0 (fun r w => r = (some (.int r0)) ∧ w = [ob a_t 1 [.ref a_t_count, .ref a_t_length], ia Z a_t_length n_t t_length]) :=
  rx_met "DeflateEffort$Code" "usedLengths" mf_Code_usedLengths (Nat.le_of_ble_eq_true rfl) rfl (by rintro _ _ ⟨h9, _⟩; cases h9) (w_Code_usedLengths l Z 0 0 _ 0 0 F a_t a_t_count a_t_length n_t t_length x1 r0 hm ⟨rfl, rfl⟩)
abbrev J_Code_halveCounts (l : Launch) (Z : rx_D) (mc ms : Nat) (post : Option Value → va_W → Prop) := Rw l Z "DeflateEffort$Code" "halveCounts" b_Code_halveCounts 2 none 0 mc ms post
set_option maxRecDepth 100000 in
set_option maxHeartbeats 4000000 in
theorem wl_Code_halveCounts_2 (l : Launch) (Z : rx_D) (mc ms : Nat) (post : Option Value → va_W → Prop) (k n : Nat) (F : Nat) (a_t a_t_count a_t_length n_t : Nat) : ∀ (f : Nat)  (v1_1 : Int32) (t_count1 : Nat → Int32) (v1_2 : Int32) (t_count2 : Nat → Int32), L_Code_halveCounts_2 F n_t f v1_1 t_count1 = some (v1_2, t_count2) → (J_Code_halveCounts l Z mc ms post k n [ob a_t 1 [.ref a_t_count, .ref a_t_length], ia Z a_t_count n_t t_count2] [] 33 []) → J_Code_halveCounts l Z mc ms post k n [ob a_t 1 [.ref a_t_count, .ref a_t_length], ia Z a_t_count n_t t_count1] [(0, .ref a_t), (1, .int v1_1)] 2 [] := by
  intro f
  induction f with
  | zero =>
    intro v1_1 t_count1 v1_2 t_count2 hm K
    cases hm
  | succ f ih =>
    intro v1_1 t_count1 v1_2 t_count2 hm K
    have hm : B_Code_halveCounts_2 F n_t (L_Code_halveCounts_2 F n_t f) v1_1 t_count1 = some (v1_2, t_count2) := hm
    unfold B_Code_halveCounts_2 at hm
    refine rw_iload_n (pc := 2) 1 rfl rfl (rx_dt dt_Code_halveCounts 2 rfl) ?_
    refine rw_aload_n (pc := 3) 0 rfl rfl (rx_dt dt_Code_halveCounts 3 rfl) ?_
    refine rw_get fa_Code_13 (pc := 4) 0 rfl rfl (rx_dt dt_Code_halveCounts 4 rfl) ?_
    refine rw_alen (pc := 7) 1 rfl (rx_dt dt_Code_halveCounts 5 rfl) ?_
    rcases ite_some hm with ⟨hc, hm⟩ | ⟨hc, hm⟩
    · refine rw_icmp_ge_t (pc := 8) (tgt := 33) hc (by decide) (rx_dt dt_Code_halveCounts 6 rfl) ?_
      refine rw_perm (lv' := []) (ws' := [ob a_t 1 [.ref a_t_count, .ref a_t_length], ia Z a_t_count n_t t_count1]) [] [0, 1] rfl rfl rfl ?_
      cases hm
      exact K
    · refine rw_icmp_ge_f (pc := 8) (tgt := 33) hc (by decide) (rx_dt dt_Code_halveCounts 6 rfl) ?_
      refine rw_aload_n (pc := 11) 0 rfl rfl (rx_dt dt_Code_halveCounts 7 rfl) ?_
      refine rw_get fa_Code_13 (pc := 12) 0 rfl rfl (rx_dt dt_Code_halveCounts 8 rfl) ?_
      refine rw_iload_n (pc := 15) 1 rfl rfl (rx_dt dt_Code_halveCounts 9 rfl) ?_
      refine rw_aload_n (pc := 16) 0 rfl rfl (rx_dt dt_Code_halveCounts 10 rfl) ?_
      refine rw_get fa_Code_13 (pc := 17) 0 rfl rfl (rx_dt dt_Code_halveCounts 11 rfl) ?_
      refine rw_iload_n (pc := 20) 1 rfl rfl (rx_dt dt_Code_halveCounts 12 rfl) ?_
      obtain ⟨hk1, hm⟩ := chk_some hm
      refine rw_iald (pc := 21) 1 rfl hk1 (rx_dt dt_Code_halveCounts 13 rfl) ?_
      refine rw_iconst (pc := 22) (v := 1) rfl (rx_dt dt_Code_halveCounts 14 rfl) ?_
      refine rw_iadd (pc := 23) (rx_dt dt_Code_halveCounts 15 rfl) ?_
      refine rw_iconst (pc := 24) (v := 2) rfl (rx_dt dt_Code_halveCounts 16 rfl) ?_
      refine rw_idiv (pc := 25) (by decide) (rx_dt dt_Code_halveCounts 17 rfl) ?_
      obtain ⟨hk2, hm⟩ := chk_some hm
      obtain ⟨t_count3, ht_count3, hm⟩ := nm_some hm
      refine rw_iast (pc := 26) (ws' := [ob a_t 1 [.ref a_t_count, .ref a_t_length], ia Z a_t_count n_t t_count3]) 1 rfl hk2 (by rw [← ht_count3]; rfl) (rx_dt dt_Code_halveCounts 18 rfl) ?_
      obtain ⟨y1, hy1, hm⟩ := nm_some hm
      refine rw_iinc (pc := 27) (lv' := [(1, .int y1), (0, .ref a_t)]) 1 rfl hy1 (by decide) rfl (rx_dt dt_Code_halveCounts 19 rfl) ?_
      refine rw_goto (pc := 30) (tgt := 2) (by decide) (rx_dt dt_Code_halveCounts 20 rfl) ?_
      refine rw_perm (lv' := [(0, .ref a_t), (1, .int y1)]) (ws' := [ob a_t 1 [.ref a_t_count, .ref a_t_length], ia Z a_t_count n_t t_count3]) [1, 0] [0, 1] rfl rfl rfl ?_
      exact ih  _ _ _ _ hm K
set_option maxRecDepth 100000 in
set_option maxHeartbeats 4000000 in
theorem w_Code_halveCounts (l : Launch) (Z : rx_D) (mc ms : Nat) (post : Option Value → va_W → Prop) (k n : Nat) (F : Nat) (a_t a_t_count a_t_length n_t : Nat) (t_count : Nat → Int32) (o_t_count : Nat → Int32) (hm : m_Code_halveCounts F n_t t_count = some o_t_count) (hp : post none [ob a_t 1 [.ref a_t_count, .ref a_t_length], ia Z a_t_count n_t o_t_count]) : J_Code_halveCounts l Z mc ms post k n [ob a_t 1 [.ref a_t_count, .ref a_t_length], ia Z a_t_count n_t t_count] [(0, .ref a_t)] 0 [] := by
  unfold m_Code_halveCounts at hm
  refine rw_iconst (pc := 0) (v := 0) rfl (rx_dt dt_Code_halveCounts 0 rfl) ?_
  refine rw_istore_n (pc := 1) (lv' := [(1, .int (0 : Int32)), (0, .ref a_t)]) rfl (by decide) rfl (rx_dt dt_Code_halveCounts 1 rfl) ?_
  obtain ⟨v1_3, t_count4, hl, hm⟩ := bnd2_some hm
  refine rw_perm (lv' := [(0, .ref a_t), (1, .int (0 : Int32))]) (ws' := [ob a_t 1 [.ref a_t_count, .ref a_t_length], ia Z a_t_count n_t t_count]) [1, 0] [0, 1] rfl rfl rfl ?_
  refine wl_Code_halveCounts_2 l Z mc ms post k n F a_t a_t_count a_t_length n_t F  (0 : Int32) t_count v1_3 t_count4 hl ?_
  cases hm
  exact rw_vret (pc := 33) (rx_dt dt_Code_halveCounts 21 rfl) hp
theorem c_Code_halveCounts (l : Launch) (Z : rx_D) (F : Nat) (a_t a_t_count a_t_length n_t : Nat) (t_count : Nat → Int32) (o_t_count : Nat → Int32) (hm : m_Code_halveCounts F n_t t_count = some o_t_count) : Cn l Z y_Code_halveCounts b_Code_halveCounts 2 none 0 [.ref a_t] [ob a_t 1 [.ref a_t_count, .ref a_t_length], ia Z a_t_count n_t t_count] 0 0 (fun r w => r = none ∧ w = [ob a_t 1 [.ref a_t_count, .ref a_t_length], ia Z a_t_count n_t o_t_count]) :=
  rx_met "DeflateEffort$Code" "halveCounts" mf_Code_halveCounts (Nat.le_of_ble_eq_true rfl) rfl (by rintro _ _ ⟨h9, _⟩; cases h9) (w_Code_halveCounts l Z 0 0 _ 0 0 F a_t a_t_count a_t_length n_t t_count o_t_count hm ⟨rfl, rfl⟩)
abbrev J_JA_fill2 (l : Launch) (Z : rx_D) (mc ms : Nat) (post : Option Value → va_W → Prop) := Rw l Z "java/util/Arrays" "fill" b_JA_fill2 4 none 0 mc ms post
set_option maxRecDepth 100000 in
set_option maxHeartbeats 4000000 in
theorem wl_JA_fill2_5 (l : Launch) (Z : rx_D) (mc ms : Nat) (post : Option Value → va_W → Prop) (k n : Nat) (F : Nat) (a_p0 n_p0 : Nat) (x1 y1 : Int32) : ∀ (f : Nat)  (v2_1 : Int32) (p1 : Nat → Int32) (v2_2 : Int32) (p2 : Nat → Int32), L_JA_fill2_5 F n_p0 x1 y1 f v2_1 p1 = some (v2_2, p2) → (J_JA_fill2 l Z mc ms post k n [ia Z a_p0 n_p0 p2] [] 20 []) → J_JA_fill2 l Z mc ms post k n [ia Z a_p0 n_p0 p1] [(0, .ref a_p0), (1, .int x1), (2, .int v2_1), (3, .int y1)] 5 [] := by
  intro f
  induction f with
  | zero =>
    intro v2_1 p1 v2_2 p2 hm K
    cases hm
  | succ f ih =>
    intro v2_1 p1 v2_2 p2 hm K
    have hm : B_JA_fill2_5 F n_p0 x1 y1 (L_JA_fill2_5 F n_p0 x1 y1 f) v2_1 p1 = some (v2_2, p2) := hm
    unfold B_JA_fill2_5 at hm
    refine rw_iload_n (pc := 5) 2 rfl rfl (rx_dt dt_JA_fill2 5 rfl) ?_
    refine rw_iload_n (pc := 6) 3 rfl rfl (rx_dt dt_JA_fill2 6 rfl) ?_
    rcases ite_some hm with ⟨hc, hm⟩ | ⟨hc, hm⟩
    · refine rw_icmp_ge_t (pc := 7) (tgt := 20) hc (by decide) (rx_dt dt_JA_fill2 7 rfl) ?_
      refine rw_perm (lv' := []) (ws' := [ia Z a_p0 n_p0 p1]) [] [0] rfl rfl rfl ?_
      cases hm
      exact K
    · refine rw_icmp_ge_f (pc := 7) (tgt := 20) hc (by decide) (rx_dt dt_JA_fill2 7 rfl) ?_
      refine rw_aload_n (pc := 10) 0 rfl rfl (rx_dt dt_JA_fill2 8 rfl) ?_
      refine rw_iload_n (pc := 11) 2 rfl rfl (rx_dt dt_JA_fill2 9 rfl) ?_
      refine rw_iload_n (pc := 12) 1 rfl rfl (rx_dt dt_JA_fill2 10 rfl) ?_
      obtain ⟨hk1, hm⟩ := chk_some hm
      obtain ⟨p3, hp3, hm⟩ := nm_some hm
      refine rw_iast (pc := 13) (ws' := [ia Z a_p0 n_p0 p3]) 0 rfl hk1 (by rw [← hp3]; rfl) (rx_dt dt_JA_fill2 11 rfl) ?_
      obtain ⟨y2, hy2, hm⟩ := nm_some hm
      refine rw_iinc (pc := 14) (lv' := [(2, .int y2), (0, .ref a_p0), (1, .int x1), (3, .int y1)]) 2 rfl hy2 (by decide) rfl (rx_dt dt_JA_fill2 12 rfl) ?_
      refine rw_goto (pc := 17) (tgt := 5) (by decide) (rx_dt dt_JA_fill2 13 rfl) ?_
      refine rw_perm (lv' := [(0, .ref a_p0), (1, .int x1), (2, .int y2), (3, .int y1)]) (ws' := [ia Z a_p0 n_p0 p3]) [1, 2, 0, 3] [0] rfl rfl rfl ?_
      exact ih  _ _ _ _ hm K
set_option maxRecDepth 100000 in
set_option maxHeartbeats 4000000 in
theorem w_JA_fill2 (l : Launch) (Z : rx_D) (mc ms : Nat) (post : Option Value → va_W → Prop) (k n : Nat) (F : Nat) (a_p0 n_p0 : Nat) (p0 : Nat → Int32) (x1 : Int32) (o_p0 : Nat → Int32) (hm : m_JA_fill2 F n_p0 p0 x1 = some o_p0) (hp : post none [ia Z a_p0 n_p0 o_p0]) : J_JA_fill2 l Z mc ms post k n [ia Z a_p0 n_p0 p0] [(0, .ref a_p0), (1, .int x1)] 0 [] := by
  unfold m_JA_fill2 at hm
  refine rw_iconst (pc := 0) (v := 0) rfl (rx_dt dt_JA_fill2 0 rfl) ?_
  refine rw_istore_n (pc := 1) (lv' := [(2, .int (0 : Int32)), (0, .ref a_p0), (1, .int x1)]) rfl (by decide) rfl (rx_dt dt_JA_fill2 1 rfl) ?_
  refine rw_aload_n (pc := 2) 1 rfl rfl (rx_dt dt_JA_fill2 2 rfl) ?_
  refine rw_alen (pc := 3) 0 rfl (rx_dt dt_JA_fill2 3 rfl) ?_
  obtain ⟨y1, hy1, hm⟩ := nm_some hm
  refine rw_nm hy1 ?_
  refine rw_istore_n (pc := 4) (lv' := [(3, .int y1), (2, .int (0 : Int32)), (0, .ref a_p0), (1, .int x1)]) rfl (by decide) rfl (rx_dt dt_JA_fill2 4 rfl) ?_
  obtain ⟨v2_3, p4, hl, hm⟩ := bnd2_some hm
  refine rw_perm (lv' := [(0, .ref a_p0), (1, .int x1), (2, .int (0 : Int32)), (3, .int y1)]) (ws' := [ia Z a_p0 n_p0 p0]) [2, 3, 1, 0] [0] rfl rfl rfl ?_
  refine wl_JA_fill2_5 l Z mc ms post k n F a_p0 n_p0 x1 y1 F  (0 : Int32) p0 v2_3 p4 hl ?_
  cases hm
  exact rw_vret (pc := 20) (rx_dt dt_JA_fill2 14 rfl) hp
theorem c_JA_fill2 (l : Launch) (Z : rx_D) (F : Nat) (a_p0 n_p0 : Nat) (p0 : Nat → Int32) (x1 : Int32) (o_p0 : Nat → Int32) (hm : m_JA_fill2 F n_p0 p0 x1 = some o_p0) : Cn l Z y_JA_fill2 b_JA_fill2 4 none 0 [.ref a_p0, .int x1] [ia Z a_p0 n_p0 p0] 0 0 (fun r w => r = none ∧ w = [ia Z a_p0 n_p0 o_p0]) :=
  rx_met "java/util/Arrays" "fill" mf_JA_fill2 (Nat.le_of_ble_eq_true rfl) rfl (by rintro _ _ ⟨h9, _⟩; cases h9) (w_JA_fill2 l Z 0 0 _ 0 0 F a_p0 n_p0 p0 x1 o_p0 hm ⟨rfl, rfl⟩)
abbrev J_CodeSet_measure (l : Launch) (Z : rx_D) (mc ms : Nat) (post : Option Value → va_W → Prop) := Rw l Z "DeflateEffort$CodeSet" "measure" b_CodeSet_measure 2 none 0 mc ms post
set_option maxRecDepth 100000 in
set_option maxHeartbeats 4000000 in
theorem wl_CodeSet_measure_19 (l : Launch) (Z : rx_D) (mc ms : Nat) (post : Option Value → va_W → Prop) (k n : Nat) (F : Nat) (a_t a_t_next a_t_perLength a_t_symbol : Nat) (t_codes : Int32) (t_perLength : Nat → Int32) : ∀ (f : Nat)  (v1_1 t_longest_1 t_free_1 : Int32) (t_next2 : Nat → Int32) (v1_2 t_longest_2 t_free_2 : Int32) (t_next3 : Nat → Int32), L_CodeSet_measure_19 F t_perLength f v1_1 t_longest_1 t_free_1 t_next2 = some (v1_2, t_longest_2, t_free_2, t_next3) → (J_CodeSet_measure l Z mc ms post k n [ob a_t 2 [.ref a_t_perLength, .ref a_t_symbol, .ref a_t_next, .int t_codes, .int t_longest_2, .int t_free_2], ia Z a_t_next 16 t_next3, ia Z a_t_perLength 16 t_perLength] [] 92 []) → J_CodeSet_measure l Z mc ms post k n [ob a_t 2 [.ref a_t_perLength, .ref a_t_symbol, .ref a_t_next, .int t_codes, .int t_longest_1, .int t_free_1], ia Z a_t_next 16 t_next2, ia Z a_t_perLength 16 t_perLength] [(0, .ref a_t), (1, .int v1_1)] 19 [] := by
  intro f
  induction f with
  | zero =>
    intro v1_1 t_longest_1 t_free_1 t_next2 v1_2 t_longest_2 t_free_2 t_next3 hm K
    cases hm
  | succ f ih =>
    intro v1_1 t_longest_1 t_free_1 t_next2 v1_2 t_longest_2 t_free_2 t_next3 hm K
    have hm : B_CodeSet_measure_19 F t_perLength (L_CodeSet_measure_19 F t_perLength f) v1_1 t_longest_1 t_free_1 t_next2 = some (v1_2, t_longest_2, t_free_2, t_next3) := hm
    unfold B_CodeSet_measure_19 at hm
    refine rw_iload_n (pc := 19) 1 rfl rfl (rx_dt dt_CodeSet_measure 13 rfl) ?_
    refine rw_bipush (pc := 20) (v := 15) (by decide) (rx_dt dt_CodeSet_measure 14 rfl) ?_
    rcases ite_some hm with ⟨hc, hm⟩ | ⟨hc, hm⟩
    · refine rw_icmp_gt_t (pc := 22) (tgt := 92) hc (by decide) (rx_dt dt_CodeSet_measure 15 rfl) ?_
      refine rw_perm (lv' := []) (ws' := [ob a_t 2 [.ref a_t_perLength, .ref a_t_symbol, .ref a_t_next, .int t_codes, .int t_longest_1, .int t_free_1], ia Z a_t_next 16 t_next2, ia Z a_t_perLength 16 t_perLength]) [] [0, 1, 2] rfl rfl rfl ?_
      cases hm
      exact K
    · refine rw_icmp_gt_f (pc := 22) (tgt := 92) hc (by decide) (rx_dt dt_CodeSet_measure 15 rfl) ?_
      refine rw_aload_n (pc := 25) 0 rfl rfl (rx_dt dt_CodeSet_measure 16 rfl) ?_
      refine rw_get fa_CodeSet_15 (pc := 26) 0 rfl rfl (rx_dt dt_CodeSet_measure 17 rfl) ?_
      refine rw_iload_n (pc := 29) 1 rfl rfl (rx_dt dt_CodeSet_measure 18 rfl) ?_
      refine rw_aload_n (pc := 30) 0 rfl rfl (rx_dt dt_CodeSet_measure 19 rfl) ?_
      refine rw_get fa_CodeSet_15 (pc := 31) 0 rfl rfl (rx_dt dt_CodeSet_measure 20 rfl) ?_
      refine rw_iload_n (pc := 34) 1 rfl rfl (rx_dt dt_CodeSet_measure 21 rfl) ?_
      refine rw_iconst (pc := 35) (v := 1) rfl (rx_dt dt_CodeSet_measure 22 rfl) ?_
      refine rw_isub (pc := 36) (rx_dt dt_CodeSet_measure 23 rfl) ?_
      obtain ⟨hk2, hm⟩ := chk_some hm
      refine rw_iald (pc := 37) 1 rfl hk2 (rx_dt dt_CodeSet_measure 24 rfl) ?_
      refine rw_aload_n (pc := 38) 0 rfl rfl (rx_dt dt_CodeSet_measure 25 rfl) ?_
      refine rw_get fa_CodeSet_9 (pc := 39) 0 rfl rfl (rx_dt dt_CodeSet_measure 26 rfl) ?_
      refine rw_iload_n (pc := 42) 1 rfl rfl (rx_dt dt_CodeSet_measure 27 rfl) ?_
      refine rw_iconst (pc := 43) (v := 1) rfl (rx_dt dt_CodeSet_measure 28 rfl) ?_
      refine rw_isub (pc := 44) (rx_dt dt_CodeSet_measure 29 rfl) ?_
      obtain ⟨hk3, hm⟩ := chk_some hm
      refine rw_iald (pc := 45) 2 rfl hk3 (rx_dt dt_CodeSet_measure 30 rfl) ?_
      refine rw_iadd (pc := 46) (rx_dt dt_CodeSet_measure 31 rfl) ?_
      obtain ⟨hk4, hm⟩ := chk_some hm
      obtain ⟨t_next4, ht_next4, hm⟩ := nm_some hm
      refine rw_iast (pc := 47) (ws' := [ob a_t 2 [.ref a_t_perLength, .ref a_t_symbol, .ref a_t_next, .int t_codes, .int t_longest_1, .int t_free_1], ia Z a_t_next 16 t_next4, ia Z a_t_perLength 16 t_perLength]) 1 rfl hk4 (by rw [← ht_next4]; rfl) (rx_dt dt_CodeSet_measure 32 rfl) ?_
      refine rw_aload_n (pc := 48) 0 rfl rfl (rx_dt dt_CodeSet_measure 33 rfl) ?_
      refine rw_iconst (pc := 49) (v := 2) rfl (rx_dt dt_CodeSet_measure 34 rfl) ?_
      refine rw_aload_n (pc := 50) 0 rfl rfl (rx_dt dt_CodeSet_measure 35 rfl) ?_
      refine rw_get fa_CodeSet_25 (pc := 51) 0 rfl rfl (rx_dt dt_CodeSet_measure 36 rfl) ?_
      refine rw_imul (pc := 54) (rx_dt dt_CodeSet_measure 37 rfl) ?_
      refine rw_aload_n (pc := 55) 0 rfl rfl (rx_dt dt_CodeSet_measure 38 rfl) ?_
      refine rw_get fa_CodeSet_9 (pc := 56) 0 rfl rfl (rx_dt dt_CodeSet_measure 39 rfl) ?_
      refine rw_iload_n (pc := 59) 1 rfl rfl (rx_dt dt_CodeSet_measure 40 rfl) ?_
      obtain ⟨hk5, hm⟩ := chk_some hm
      refine rw_iald (pc := 60) 2 rfl hk5 (rx_dt dt_CodeSet_measure 41 rfl) ?_
      refine rw_isub (pc := 61) (rx_dt dt_CodeSet_measure 42 rfl) ?_
      obtain ⟨y1, hy1, hm⟩ := nm_some hm
      refine rw_nm hy1 ?_
      refine rw_put fa_CodeSet_25 (pc := 62) (ws' := [ob a_t 2 [.ref a_t_perLength, .ref a_t_symbol, .ref a_t_next, .int t_codes, .int t_longest_1, .int y1], ia Z a_t_next 16 t_next4, ia Z a_t_perLength 16 t_perLength]) 0 rfl rfl rfl (Nat.le_of_ble_eq_true rfl) rfl (rx_dt dt_CodeSet_measure 43 rfl) ?_
      refine rw_aload_n (pc := 65) 0 rfl rfl (rx_dt dt_CodeSet_measure 44 rfl) ?_
      refine rw_aload_n (pc := 66) 0 rfl rfl (rx_dt dt_CodeSet_measure 45 rfl) ?_
      refine rw_get fa_CodeSet_9 (pc := 67) 0 rfl rfl (rx_dt dt_CodeSet_measure 46 rfl) ?_
      refine rw_iload_n (pc := 70) 1 rfl rfl (rx_dt dt_CodeSet_measure 47 rfl) ?_
      obtain ⟨hk6, hm⟩ := chk_some hm
      refine rw_iald (pc := 71) 2 rfl hk6 (rx_dt dt_CodeSet_measure 48 rfl) ?_
      obtain ⟨z1, hj, hm⟩ := bnd1_some hm
      have KJ : J_CodeSet_measure l Z mc ms post k n [ob a_t 2 [.ref a_t_perLength, .ref a_t_symbol, .ref a_t_next, .int t_codes, .int t_longest_1, .int y1], ia Z a_t_next 16 t_next4, ia Z a_t_perLength 16 t_perLength] [(0, .ref a_t), (1, .int v1_1)] 83 [.int z1, .ref a_t] := by
        refine rw_put fa_CodeSet_22 (pc := 83) (ws' := [ob a_t 2 [.ref a_t_perLength, .ref a_t_symbol, .ref a_t_next, .int t_codes, .int z1, .int y1], ia Z a_t_next 16 t_next4, ia Z a_t_perLength 16 t_perLength]) 0 rfl rfl rfl (Nat.le_of_ble_eq_true rfl) rfl (rx_dt dt_CodeSet_measure 54 rfl) ?_
        obtain ⟨y2, hy2, hm⟩ := nm_some hm
        refine rw_iinc (pc := 86) (lv' := [(1, .int y2), (0, .ref a_t)]) 1 rfl hy2 (by decide) rfl (rx_dt dt_CodeSet_measure 55 rfl) ?_
        refine rw_goto (pc := 89) (tgt := 19) (by decide) (rx_dt dt_CodeSet_measure 56 rfl) ?_
        refine rw_perm (lv' := [(0, .ref a_t), (1, .int y2)]) (ws' := [ob a_t 2 [.ref a_t_perLength, .ref a_t_symbol, .ref a_t_next, .int t_codes, .int z1, .int y1], ia Z a_t_next 16 t_next4, ia Z a_t_perLength 16 t_perLength]) [1, 0] [0, 1, 2] rfl rfl rfl ?_
        exact ih  _ _ _ _ _ _ _ _ hm K
      clear hm
      have hm := hj
      clear hj
      rcases ite_some hm with ⟨hc, hm⟩ | ⟨hc, hm⟩
      · refine rw_if_le_t (pc := 72) (tgt := 79) hc (by decide) (rx_dt dt_CodeSet_measure 49 rfl) ?_
        refine rw_aload_n (pc := 79) 0 rfl rfl (rx_dt dt_CodeSet_measure 52 rfl) ?_
        refine rw_get fa_CodeSet_22 (pc := 80) 0 rfl rfl (rx_dt dt_CodeSet_measure 53 rfl) ?_
        cases hm
        exact KJ
      · refine rw_if_le_f (pc := 72) (tgt := 79) hc (by decide) (rx_dt dt_CodeSet_measure 49 rfl) ?_
        refine rw_iload_n (pc := 75) 1 rfl rfl (rx_dt dt_CodeSet_measure 50 rfl) ?_
        refine rw_goto (pc := 76) (tgt := 83) (by decide) (rx_dt dt_CodeSet_measure 51 rfl) ?_
        cases hm
        exact KJ
set_option maxRecDepth 100000 in
set_option maxHeartbeats 4000000 in
theorem w_CodeSet_measure (l : Launch) (Z : rx_D) (mc ms : Nat) (post : Option Value → va_W → Prop) (k n : Nat) (F : Nat) (a_t a_t_next a_t_perLength a_t_symbol : Nat) (t_codes t_free t_longest : Int32) (t_next t_perLength : Nat → Int32) (o_t_longest o_t_free : Int32) (o_t_next : Nat → Int32) (hm : m_CodeSet_measure F t_next t_perLength = some (o_t_longest, o_t_free, o_t_next)) (hp : post none [ob a_t 2 [.ref a_t_perLength, .ref a_t_symbol, .ref a_t_next, .int t_codes, .int o_t_longest, .int o_t_free], ia Z a_t_next 16 o_t_next, ia Z a_t_perLength 16 t_perLength]) : J_CodeSet_measure l Z mc ms post k n [ob a_t 2 [.ref a_t_perLength, .ref a_t_symbol, .ref a_t_next, .int t_codes, .int t_longest, .int t_free], ia Z a_t_next 16 t_next, ia Z a_t_perLength 16 t_perLength] [(0, .ref a_t)] 0 [] := by
  unfold m_CodeSet_measure at hm
  refine rw_aload_n (pc := 0) 0 rfl rfl (rx_dt dt_CodeSet_measure 0 rfl) ?_
  refine rw_iconst (pc := 1) (v := 0) rfl (rx_dt dt_CodeSet_measure 1 rfl) ?_
  refine rw_put fa_CodeSet_22 (pc := 2) (ws' := [ob a_t 2 [.ref a_t_perLength, .ref a_t_symbol, .ref a_t_next, .int t_codes, .int (0 : Int32), .int t_free], ia Z a_t_next 16 t_next, ia Z a_t_perLength 16 t_perLength]) 0 rfl rfl rfl (Nat.le_of_ble_eq_true rfl) rfl (rx_dt dt_CodeSet_measure 2 rfl) ?_
  refine rw_aload_n (pc := 5) 0 rfl rfl (rx_dt dt_CodeSet_measure 3 rfl) ?_
  refine rw_iconst (pc := 6) (v := 1) rfl (rx_dt dt_CodeSet_measure 4 rfl) ?_
  refine rw_put fa_CodeSet_25 (pc := 7) (ws' := [ob a_t 2 [.ref a_t_perLength, .ref a_t_symbol, .ref a_t_next, .int t_codes, .int (0 : Int32), .int (1 : Int32)], ia Z a_t_next 16 t_next, ia Z a_t_perLength 16 t_perLength]) 0 rfl rfl rfl (Nat.le_of_ble_eq_true rfl) rfl (rx_dt dt_CodeSet_measure 5 rfl) ?_
  refine rw_aload_n (pc := 10) 0 rfl rfl (rx_dt dt_CodeSet_measure 6 rfl) ?_
  refine rw_get fa_CodeSet_15 (pc := 11) 0 rfl rfl (rx_dt dt_CodeSet_measure 7 rfl) ?_
  refine rw_iconst (pc := 14) (v := 0) rfl (rx_dt dt_CodeSet_measure 8 rfl) ?_
  refine rw_iconst (pc := 15) (v := 0) rfl (rx_dt dt_CodeSet_measure 9 rfl) ?_
  obtain ⟨hk1, hm⟩ := chk_some hm
  obtain ⟨t_next1, ht_next1, hm⟩ := nm_some hm
  refine rw_iast (pc := 16) (ws' := [ob a_t 2 [.ref a_t_perLength, .ref a_t_symbol, .ref a_t_next, .int t_codes, .int (0 : Int32), .int (1 : Int32)], ia Z a_t_next 16 t_next1, ia Z a_t_perLength 16 t_perLength]) 1 rfl hk1 (by rw [← ht_next1]; rfl) (rx_dt dt_CodeSet_measure 10 rfl) ?_
  refine rw_iconst (pc := 17) (v := 1) rfl (rx_dt dt_CodeSet_measure 11 rfl) ?_
  refine rw_istore_n (pc := 18) (lv' := [(1, .int (1 : Int32)), (0, .ref a_t)]) rfl (by decide) rfl (rx_dt dt_CodeSet_measure 12 rfl) ?_
  obtain ⟨v1_3, t_longest_3, t_free_3, t_next5, hl, hm⟩ := bnd4_some hm
  refine rw_perm (lv' := [(0, .ref a_t), (1, .int (1 : Int32))]) (ws' := [ob a_t 2 [.ref a_t_perLength, .ref a_t_symbol, .ref a_t_next, .int t_codes, .int (0 : Int32), .int (1 : Int32)], ia Z a_t_next 16 t_next1, ia Z a_t_perLength 16 t_perLength]) [1, 0] [0, 1, 2] rfl rfl rfl ?_
  refine wl_CodeSet_measure_19 l Z mc ms post k n F a_t a_t_next a_t_perLength a_t_symbol t_codes t_perLength F  (1 : Int32) (0 : Int32) (1 : Int32) t_next1 v1_3 t_longest_3 t_free_3 t_next5 hl ?_
  cases hm
  exact rw_vret (pc := 92) (rx_dt dt_CodeSet_measure 57 rfl) hp
theorem c_CodeSet_measure (l : Launch) (Z : rx_D) (F : Nat) (a_t a_t_next a_t_perLength a_t_symbol : Nat) (t_codes t_free t_longest : Int32) (t_next t_perLength : Nat → Int32) (o_t_longest o_t_free : Int32) (o_t_next : Nat → Int32) (hm : m_CodeSet_measure F t_next t_perLength = some (o_t_longest, o_t_free, o_t_next)) : Cn l Z y_CodeSet_measure b_CodeSet_measure 2 none 0 [.ref a_t] [ob a_t 2 [.ref a_t_perLength, .ref a_t_symbol, .ref a_t_next, .int t_codes, .int t_longest, .int t_free], ia Z a_t_next 16 t_next, ia Z a_t_perLength 16 t_perLength] 0 0 (fun r w => r = none ∧ w = [ob a_t 2 [.ref a_t_perLength, .ref a_t_symbol, .ref a_t_next, .int t_codes, .int o_t_longest, .int o_t_free], ia Z a_t_next 16 o_t_next, ia Z a_t_perLength 16 t_perLength]) :=
  rx_met "DeflateEffort$CodeSet" "measure" mf_CodeSet_measure (Nat.le_of_ble_eq_true rfl) rfl (by rintro _ _ ⟨h9, _⟩; cases h9) (w_CodeSet_measure l Z 0 0 _ 0 0 F a_t a_t_next a_t_perLength a_t_symbol t_codes t_free t_longest t_next t_perLength o_t_longest o_t_free o_t_next hm ⟨rfl, rfl⟩)
abbrev J_CodeSet_make (l : Launch) (Z : rx_D) (mc ms : Nat) (post : Option Value → va_W → Prop) := Rw l Z "DeflateEffort$CodeSet" "make" b_CodeSet_make 6 none 1 mc ms post
set_option maxRecDepth 100000 in
set_option maxHeartbeats 4000000 in
theorem wl_CodeSet_make_16 (l : Launch) (Z : rx_D) (mc ms : Nat) (post : Option Value → va_W → Prop) (k n : Nat) (F : Nat) (a_p1 a_t a_t_next a_t_perLength a_t_symbol n_p1 n_t : Nat) (p1 : Nat → Int32) (t_free t_longest : Int32) (t_next t_symbol : Nat → Int32) (x2 x3 : Int32) : ∀ (f : Nat)  (v4_1 t_codes_1 : Int32) (t_perLength2 : Nat → Int32) (v4_2 t_codes_2 : Int32) (t_perLength3 : Nat → Int32), L_CodeSet_make_16 F n_p1 p1 x2 x3 f v4_1 t_codes_1 t_perLength2 = some (v4_2, t_codes_2, t_perLength3) → (J_CodeSet_make l Z mc ms post k n [ia Z a_p1 n_p1 p1, ob a_t 2 [.ref a_t_perLength, .ref a_t_symbol, .ref a_t_next, .int t_codes_2, .int t_longest, .int t_free], ia Z a_t_next 16 t_next, ia Z a_t_perLength 16 t_perLength3, ia Z a_t_symbol n_t t_symbol] [(0, .ref a_t), (1, .ref a_p1), (2, .int x2), (3, .int x3)] 69 []) → J_CodeSet_make l Z mc ms post k n [ia Z a_p1 n_p1 p1, ob a_t 2 [.ref a_t_perLength, .ref a_t_symbol, .ref a_t_next, .int t_codes_1, .int t_longest, .int t_free], ia Z a_t_next 16 t_next, ia Z a_t_perLength 16 t_perLength2, ia Z a_t_symbol n_t t_symbol] [(0, .ref a_t), (1, .ref a_p1), (2, .int x2), (3, .int x3), (4, .int v4_1)] 16 [] := by
  intro f
  induction f with
  | zero =>
    intro v4_1 t_codes_1 t_perLength2 v4_2 t_codes_2 t_perLength3 hm K
    cases hm
  | succ f ih =>
    intro v4_1 t_codes_1 t_perLength2 v4_2 t_codes_2 t_perLength3 hm K
    have hm : B_CodeSet_make_16 F n_p1 p1 x2 x3 (L_CodeSet_make_16 F n_p1 p1 x2 x3 f) v4_1 t_codes_1 t_perLength2 = some (v4_2, t_codes_2, t_perLength3) := hm
    unfold B_CodeSet_make_16 at hm
    refine rw_iload (pc := 16) 4 rfl (rx_dt dt_CodeSet_make 9 rfl) ?_
    refine rw_iload_n (pc := 18) 3 rfl rfl (rx_dt dt_CodeSet_make 10 rfl) ?_
    rcases ite_some hm with ⟨hc, hm⟩ | ⟨hc, hm⟩
    · refine rw_icmp_ge_t (pc := 19) (tgt := 69) hc (by decide) (rx_dt dt_CodeSet_make 11 rfl) ?_
      refine rw_perm (lv' := [(0, .ref a_t), (1, .ref a_p1), (2, .int x2), (3, .int x3)]) (ws' := [ia Z a_p1 n_p1 p1, ob a_t 2 [.ref a_t_perLength, .ref a_t_symbol, .ref a_t_next, .int t_codes_1, .int t_longest, .int t_free], ia Z a_t_next 16 t_next, ia Z a_t_perLength 16 t_perLength2, ia Z a_t_symbol n_t t_symbol]) [0, 1, 2, 3] [0, 1, 2, 3, 4] rfl rfl rfl ?_
      cases hm
      exact K
    · refine rw_icmp_ge_f (pc := 19) (tgt := 69) hc (by decide) (rx_dt dt_CodeSet_make 11 rfl) ?_
      refine rw_aload_n (pc := 22) 1 rfl rfl (rx_dt dt_CodeSet_make 12 rfl) ?_
      refine rw_iload_n (pc := 23) 2 rfl rfl (rx_dt dt_CodeSet_make 13 rfl) ?_
      refine rw_iload (pc := 24) 4 rfl (rx_dt dt_CodeSet_make 14 rfl) ?_
      refine rw_iadd (pc := 26) (rx_dt dt_CodeSet_make 15 rfl) ?_
      obtain ⟨hk1, hm⟩ := chk_some hm
      refine rw_iald (pc := 27) 0 rfl hk1 (rx_dt dt_CodeSet_make 16 rfl) ?_
      obtain ⟨y1, hy1, hm⟩ := nm_some hm
      refine rw_nm hy1 ?_
      refine rw_istore (pc := 28) (lv' := [(5, .int y1), (0, .ref a_t), (1, .ref a_p1), (2, .int x2), (3, .int x3), (4, .int v4_1)]) (by decide) rfl (rx_dt dt_CodeSet_make 17 rfl) ?_
      refine rw_iload (pc := 30) 0 rfl (rx_dt dt_CodeSet_make 18 rfl) ?_
      obtain ⟨z1, t_perLength4, hj, hm⟩ := bnd2_some hm
      have KJ : J_CodeSet_make l Z mc ms post k n [ia Z a_p1 n_p1 p1, ob a_t 2 [.ref a_t_perLength, .ref a_t_symbol, .ref a_t_next, .int z1, .int t_longest, .int t_free], ia Z a_t_next 16 t_next, ia Z a_t_perLength 16 t_perLength4, ia Z a_t_symbol n_t t_symbol] [(0, .ref a_t), (1, .ref a_p1), (2, .int x2), (3, .int x3), (4, .int v4_1)] 63 [] := by
        obtain ⟨y3, hy3, hm⟩ := nm_some hm
        refine rw_iinc (pc := 63) (lv' := [(4, .int y3), (0, .ref a_t), (1, .ref a_p1), (2, .int x2), (3, .int x3)]) 4 rfl hy3 (by decide) rfl (rx_dt dt_CodeSet_make 37 rfl) ?_
        refine rw_goto (pc := 66) (tgt := 16) (by decide) (rx_dt dt_CodeSet_make 38 rfl) ?_
        refine rw_perm (lv' := [(0, .ref a_t), (1, .ref a_p1), (2, .int x2), (3, .int x3), (4, .int y3)]) (ws' := [ia Z a_p1 n_p1 p1, ob a_t 2 [.ref a_t_perLength, .ref a_t_symbol, .ref a_t_next, .int z1, .int t_longest, .int t_free], ia Z a_t_next 16 t_next, ia Z a_t_perLength 16 t_perLength4, ia Z a_t_symbol n_t t_symbol]) [1, 2, 3, 4, 0] [0, 1, 2, 3, 4] rfl rfl rfl ?_
        exact ih  _ _ _ _ _ _ hm K
      clear hm
      have hm := hj
      clear hj
      rcases ite_some hm with ⟨hc, hm⟩ | ⟨hc, hm⟩
      · refine rw_if_le_t (pc := 32) (tgt := 63) hc (by decide) (rx_dt dt_CodeSet_make 19 rfl) ?_
        refine rw_perm (lv' := [(0, .ref a_t), (1, .ref a_p1), (2, .int x2), (3, .int x3), (4, .int v4_1)]) (ws' := [ia Z a_p1 n_p1 p1, ob a_t 2 [.ref a_t_perLength, .ref a_t_symbol, .ref a_t_next, .int t_codes_1, .int t_longest, .int t_free], ia Z a_t_next 16 t_next, ia Z a_t_perLength 16 t_perLength2, ia Z a_t_symbol n_t t_symbol]) [1, 2, 3, 4, 5] [0, 1, 2, 3, 4] rfl rfl rfl ?_
        cases hm
        exact KJ
      · refine rw_if_le_f (pc := 32) (tgt := 63) hc (by decide) (rx_dt dt_CodeSet_make 19 rfl) ?_
        refine rw_iload (pc := 35) 0 rfl (rx_dt dt_CodeSet_make 20 rfl) ?_
        refine rw_bipush (pc := 37) (v := 15) (by decide) (rx_dt dt_CodeSet_make 21 rfl) ?_
        rcases ite_some hm with ⟨hc, hm⟩ | ⟨hc, hm⟩
        · refine rw_icmp_gt_t (pc := 39) (tgt := 63) hc (by decide) (rx_dt dt_CodeSet_make 22 rfl) ?_
          refine rw_perm (lv' := [(0, .ref a_t), (1, .ref a_p1), (2, .int x2), (3, .int x3), (4, .int v4_1)]) (ws' := [ia Z a_p1 n_p1 p1, ob a_t 2 [.ref a_t_perLength, .ref a_t_symbol, .ref a_t_next, .int t_codes_1, .int t_longest, .int t_free], ia Z a_t_next 16 t_next, ia Z a_t_perLength 16 t_perLength2, ia Z a_t_symbol n_t t_symbol]) [1, 2, 3, 4, 5] [0, 1, 2, 3, 4] rfl rfl rfl ?_
          cases hm
          exact KJ
        · refine rw_icmp_gt_f (pc := 39) (tgt := 63) hc (by decide) (rx_dt dt_CodeSet_make 22 rfl) ?_
          refine rw_aload_n (pc := 42) 1 rfl rfl (rx_dt dt_CodeSet_make 23 rfl) ?_
          refine rw_get fa_CodeSet_9 (pc := 43) 1 rfl rfl (rx_dt dt_CodeSet_make 24 rfl) ?_
          refine rw_iload (pc := 46) 0 rfl (rx_dt dt_CodeSet_make 25 rfl) ?_
          refine rw_dup2 (pc := 48) rfl rfl (rx_dt dt_CodeSet_make 26 rfl) ?_
          obtain ⟨hk2, hm⟩ := chk_some hm
          refine rw_iald (pc := 49) 3 rfl hk2 (rx_dt dt_CodeSet_make 27 rfl) ?_
          refine rw_iconst (pc := 50) (v := 1) rfl (rx_dt dt_CodeSet_make 28 rfl) ?_
          refine rw_iadd (pc := 51) (rx_dt dt_CodeSet_make 29 rfl) ?_
          obtain ⟨hk3, hm⟩ := chk_some hm
          obtain ⟨t_perLength5, ht_perLength5, hm⟩ := nm_some hm
          refine rw_iast (pc := 52) (ws' := [ia Z a_p1 n_p1 p1, ob a_t 2 [.ref a_t_perLength, .ref a_t_symbol, .ref a_t_next, .int t_codes_1, .int t_longest, .int t_free], ia Z a_t_next 16 t_next, ia Z a_t_perLength 16 t_perLength5, ia Z a_t_symbol n_t t_symbol]) 3 rfl hk3 (by rw [← ht_perLength5]; rfl) (rx_dt dt_CodeSet_make 30 rfl) ?_
          refine rw_aload_n (pc := 53) 1 rfl rfl (rx_dt dt_CodeSet_make 31 rfl) ?_
          refine rw_dup (pc := 54) rfl (rx_dt dt_CodeSet_make 32 rfl) ?_
          refine rw_get fa_CodeSet_18 (pc := 55) 1 rfl rfl (rx_dt dt_CodeSet_make 33 rfl) ?_
          refine rw_iconst (pc := 58) (v := 1) rfl (rx_dt dt_CodeSet_make 34 rfl) ?_
          refine rw_iadd (pc := 59) (rx_dt dt_CodeSet_make 35 rfl) ?_
          obtain ⟨y2, hy2, hm⟩ := nm_some hm
          refine rw_nm hy2 ?_
          refine rw_put fa_CodeSet_18 (pc := 60) (ws' := [ia Z a_p1 n_p1 p1, ob a_t 2 [.ref a_t_perLength, .ref a_t_symbol, .ref a_t_next, .int y2, .int t_longest, .int t_free], ia Z a_t_next 16 t_next, ia Z a_t_perLength 16 t_perLength5, ia Z a_t_symbol n_t t_symbol]) 1 rfl rfl rfl (Nat.le_of_ble_eq_true rfl) rfl (rx_dt dt_CodeSet_make 36 rfl) ?_
          refine rw_perm (lv' := [(0, .ref a_t), (1, .ref a_p1), (2, .int x2), (3, .int x3), (4, .int v4_1)]) (ws' := [ia Z a_p1 n_p1 p1, ob a_t 2 [.ref a_t_perLength, .ref a_t_symbol, .ref a_t_next, .int y2, .int t_longest, .int t_free], ia Z a_t_next 16 t_next, ia Z a_t_perLength 16 t_perLength5, ia Z a_t_symbol n_t t_symbol]) [1, 2, 3, 4, 5] [0, 1, 2, 3, 4] rfl rfl rfl ?_
          cases hm
          exact KJ
set_option maxRecDepth 100000 in
set_option maxHeartbeats 4000000 in
theorem wl_CodeSet_make_76 (l : Launch) (Z : rx_D) (mc ms : Nat) (post : Option Value → va_W → Prop) (k n : Nat) (F : Nat) (a_p1 a_t a_t_next a_t_perLength a_t_symbol n_p1 n_t : Nat) (p1 : Nat → Int32) (t_codes_3 t_free_1 t_longest_1 : Int32) (t_perLength6 : Nat → Int32) (x2 x3 : Int32) : ∀ (f : Nat)  (v4_4 : Int32) (t_next2 t_symbol1 : Nat → Int32) (v4_5 : Int32) (t_next3 t_symbol2 : Nat → Int32), L_CodeSet_make_76 F n_p1 n_t p1 x2 x3 f v4_4 t_next2 t_symbol1 = some (v4_5, t_next3, t_symbol2) → (J_CodeSet_make l Z mc ms post k n [ia Z a_p1 n_p1 p1, ob a_t 2 [.ref a_t_perLength, .ref a_t_symbol, .ref a_t_next, .int t_codes_3, .int t_longest_1, .int t_free_1], ia Z a_t_next 16 t_next3, ia Z a_t_perLength 16 t_perLength6, ia Z a_t_symbol n_t t_symbol2] [] 148 []) → J_CodeSet_make l Z mc ms post k n [ia Z a_p1 n_p1 p1, ob a_t 2 [.ref a_t_perLength, .ref a_t_symbol, .ref a_t_next, .int t_codes_3, .int t_longest_1, .int t_free_1], ia Z a_t_next 16 t_next2, ia Z a_t_perLength 16 t_perLength6, ia Z a_t_symbol n_t t_symbol1] [(0, .ref a_t), (1, .ref a_p1), (2, .int x2), (3, .int x3), (4, .int v4_4)] 76 [] := by
  intro f
  induction f with
  | zero =>
    intro v4_4 t_next2 t_symbol1 v4_5 t_next3 t_symbol2 hm K
    cases hm
  | succ f ih =>
    intro v4_4 t_next2 t_symbol1 v4_5 t_next3 t_symbol2 hm K
    have hm : B_CodeSet_make_76 F n_p1 n_t p1 x2 x3 (L_CodeSet_make_76 F n_p1 n_t p1 x2 x3 f) v4_4 t_next2 t_symbol1 = some (v4_5, t_next3, t_symbol2) := hm
    unfold B_CodeSet_make_76 at hm
    refine rw_iload (pc := 76) 4 rfl (rx_dt dt_CodeSet_make 43 rfl) ?_
    refine rw_iload_n (pc := 78) 3 rfl rfl (rx_dt dt_CodeSet_make 44 rfl) ?_
    rcases ite_some hm with ⟨hc, hm⟩ | ⟨hc, hm⟩
    · refine rw_icmp_ge_t (pc := 79) (tgt := 148) hc (by decide) (rx_dt dt_CodeSet_make 45 rfl) ?_
      refine rw_perm (lv' := []) (ws' := [ia Z a_p1 n_p1 p1, ob a_t 2 [.ref a_t_perLength, .ref a_t_symbol, .ref a_t_next, .int t_codes_3, .int t_longest_1, .int t_free_1], ia Z a_t_next 16 t_next2, ia Z a_t_perLength 16 t_perLength6, ia Z a_t_symbol n_t t_symbol1]) [] [0, 1, 2, 3, 4] rfl rfl rfl ?_
      cases hm
      exact K
    · refine rw_icmp_ge_f (pc := 79) (tgt := 148) hc (by decide) (rx_dt dt_CodeSet_make 45 rfl) ?_
      refine rw_aload_n (pc := 82) 1 rfl rfl (rx_dt dt_CodeSet_make 46 rfl) ?_
      refine rw_iload_n (pc := 83) 2 rfl rfl (rx_dt dt_CodeSet_make 47 rfl) ?_
      refine rw_iload (pc := 84) 4 rfl (rx_dt dt_CodeSet_make 48 rfl) ?_
      refine rw_iadd (pc := 86) (rx_dt dt_CodeSet_make 49 rfl) ?_
      obtain ⟨hk4, hm⟩ := chk_some hm
      refine rw_iald (pc := 87) 0 rfl hk4 (rx_dt dt_CodeSet_make 50 rfl) ?_
      obtain ⟨y4, hy4, hm⟩ := nm_some hm
      refine rw_nm hy4 ?_
      refine rw_istore (pc := 88) (lv' := [(5, .int y4), (0, .ref a_t), (1, .ref a_p1), (2, .int x2), (3, .int x3), (4, .int v4_4)]) (by decide) rfl (rx_dt dt_CodeSet_make 51 rfl) ?_
      refine rw_iload (pc := 90) 0 rfl (rx_dt dt_CodeSet_make 52 rfl) ?_
      obtain ⟨t_next4, t_symbol3, hj, hm⟩ := bnd2_some hm
      have KJ : J_CodeSet_make l Z mc ms post k n [ia Z a_p1 n_p1 p1, ob a_t 2 [.ref a_t_perLength, .ref a_t_symbol, .ref a_t_next, .int t_codes_3, .int t_longest_1, .int t_free_1], ia Z a_t_next 16 t_next4, ia Z a_t_perLength 16 t_perLength6, ia Z a_t_symbol n_t t_symbol3] [(0, .ref a_t), (1, .ref a_p1), (2, .int x2), (3, .int x3), (4, .int v4_4)] 142 [] := by
        obtain ⟨y5, hy5, hm⟩ := nm_some hm
        refine rw_iinc (pc := 142) (lv' := [(4, .int y5), (0, .ref a_t), (1, .ref a_p1), (2, .int x2), (3, .int x3)]) 4 rfl hy5 (by decide) rfl (rx_dt dt_CodeSet_make 81 rfl) ?_
        refine rw_goto (pc := 145) (tgt := 76) (by decide) (rx_dt dt_CodeSet_make 82 rfl) ?_
        refine rw_perm (lv' := [(0, .ref a_t), (1, .ref a_p1), (2, .int x2), (3, .int x3), (4, .int y5)]) (ws' := [ia Z a_p1 n_p1 p1, ob a_t 2 [.ref a_t_perLength, .ref a_t_symbol, .ref a_t_next, .int t_codes_3, .int t_longest_1, .int t_free_1], ia Z a_t_next 16 t_next4, ia Z a_t_perLength 16 t_perLength6, ia Z a_t_symbol n_t t_symbol3]) [1, 2, 3, 4, 0] [0, 1, 2, 3, 4] rfl rfl rfl ?_
        exact ih  _ _ _ _ _ _ hm K
      clear hm
      have hm := hj
      clear hj
      rcases ite_some hm with ⟨hc, hm⟩ | ⟨hc, hm⟩
      · refine rw_if_le_t (pc := 92) (tgt := 142) hc (by decide) (rx_dt dt_CodeSet_make 53 rfl) ?_
        refine rw_perm (lv' := [(0, .ref a_t), (1, .ref a_p1), (2, .int x2), (3, .int x3), (4, .int v4_4)]) (ws' := [ia Z a_p1 n_p1 p1, ob a_t 2 [.ref a_t_perLength, .ref a_t_symbol, .ref a_t_next, .int t_codes_3, .int t_longest_1, .int t_free_1], ia Z a_t_next 16 t_next2, ia Z a_t_perLength 16 t_perLength6, ia Z a_t_symbol n_t t_symbol1]) [1, 2, 3, 4, 5] [0, 1, 2, 3, 4] rfl rfl rfl ?_
        cases hm
        exact KJ
      · refine rw_if_le_f (pc := 92) (tgt := 142) hc (by decide) (rx_dt dt_CodeSet_make 53 rfl) ?_
        refine rw_iload (pc := 95) 0 rfl (rx_dt dt_CodeSet_make 54 rfl) ?_
        refine rw_bipush (pc := 97) (v := 15) (by decide) (rx_dt dt_CodeSet_make 55 rfl) ?_
        rcases ite_some hm with ⟨hc, hm⟩ | ⟨hc, hm⟩
        · refine rw_icmp_gt_t (pc := 99) (tgt := 142) hc (by decide) (rx_dt dt_CodeSet_make 56 rfl) ?_
          refine rw_perm (lv' := [(0, .ref a_t), (1, .ref a_p1), (2, .int x2), (3, .int x3), (4, .int v4_4)]) (ws' := [ia Z a_p1 n_p1 p1, ob a_t 2 [.ref a_t_perLength, .ref a_t_symbol, .ref a_t_next, .int t_codes_3, .int t_longest_1, .int t_free_1], ia Z a_t_next 16 t_next2, ia Z a_t_perLength 16 t_perLength6, ia Z a_t_symbol n_t t_symbol1]) [1, 2, 3, 4, 5] [0, 1, 2, 3, 4] rfl rfl rfl ?_
          cases hm
          exact KJ
        · refine rw_icmp_gt_f (pc := 99) (tgt := 142) hc (by decide) (rx_dt dt_CodeSet_make 56 rfl) ?_
          refine rw_aload_n (pc := 102) 1 rfl rfl (rx_dt dt_CodeSet_make 57 rfl) ?_
          refine rw_get fa_CodeSet_15 (pc := 103) 1 rfl rfl (rx_dt dt_CodeSet_make 58 rfl) ?_
          refine rw_iload (pc := 106) 0 rfl (rx_dt dt_CodeSet_make 59 rfl) ?_
          obtain ⟨hk5, hm⟩ := chk_some hm
          refine rw_iald (pc := 108) 2 rfl hk5 (rx_dt dt_CodeSet_make 60 rfl) ?_
          refine rw_aload_n (pc := 109) 1 rfl rfl (rx_dt dt_CodeSet_make 61 rfl) ?_
          refine rw_get fa_CodeSet_34 (pc := 110) 1 rfl rfl (rx_dt dt_CodeSet_make 62 rfl) ?_
          refine rw_alen (pc := 113) 4 rfl (rx_dt dt_CodeSet_make 63 rfl) ?_
          rcases ite_some hm with ⟨hc, hm⟩ | ⟨hc, hm⟩
          · refine rw_icmp_ge_t (pc := 114) (tgt := 142) hc (by decide) (rx_dt dt_CodeSet_make 64 rfl) ?_
            refine rw_perm (lv' := [(0, .ref a_t), (1, .ref a_p1), (2, .int x2), (3, .int x3), (4, .int v4_4)]) (ws' := [ia Z a_p1 n_p1 p1, ob a_t 2 [.ref a_t_perLength, .ref a_t_symbol, .ref a_t_next, .int t_codes_3, .int t_longest_1, .int t_free_1], ia Z a_t_next 16 t_next2, ia Z a_t_perLength 16 t_perLength6, ia Z a_t_symbol n_t t_symbol1]) [1, 2, 3, 4, 5] [0, 1, 2, 3, 4] rfl rfl rfl ?_
            cases hm
            exact KJ
          · refine rw_icmp_ge_f (pc := 114) (tgt := 142) hc (by decide) (rx_dt dt_CodeSet_make 64 rfl) ?_
            refine rw_aload_n (pc := 117) 1 rfl rfl (rx_dt dt_CodeSet_make 65 rfl) ?_
            refine rw_get fa_CodeSet_34 (pc := 118) 1 rfl rfl (rx_dt dt_CodeSet_make 66 rfl) ?_
            refine rw_aload_n (pc := 121) 1 rfl rfl (rx_dt dt_CodeSet_make 67 rfl) ?_
            refine rw_get fa_CodeSet_15 (pc := 122) 1 rfl rfl (rx_dt dt_CodeSet_make 68 rfl) ?_
            refine rw_iload (pc := 125) 0 rfl (rx_dt dt_CodeSet_make 69 rfl) ?_
            obtain ⟨hk6, hm⟩ := chk_some hm
            refine rw_iald (pc := 127) 2 rfl hk6 (rx_dt dt_CodeSet_make 70 rfl) ?_
            refine rw_iload (pc := 128) 5 rfl (rx_dt dt_CodeSet_make 71 rfl) ?_
            obtain ⟨hk7, hm⟩ := chk_some hm
            obtain ⟨t_symbol4, ht_symbol4, hm⟩ := nm_some hm
            refine rw_iast (pc := 130) (ws' := [ia Z a_p1 n_p1 p1, ob a_t 2 [.ref a_t_perLength, .ref a_t_symbol, .ref a_t_next, .int t_codes_3, .int t_longest_1, .int t_free_1], ia Z a_t_next 16 t_next2, ia Z a_t_perLength 16 t_perLength6, ia Z a_t_symbol n_t t_symbol4]) 4 rfl hk7 (by rw [← ht_symbol4]; rfl) (rx_dt dt_CodeSet_make 72 rfl) ?_
            refine rw_aload_n (pc := 131) 1 rfl rfl (rx_dt dt_CodeSet_make 73 rfl) ?_
            refine rw_get fa_CodeSet_15 (pc := 132) 1 rfl rfl (rx_dt dt_CodeSet_make 74 rfl) ?_
            refine rw_iload (pc := 135) 0 rfl (rx_dt dt_CodeSet_make 75 rfl) ?_
            refine rw_dup2 (pc := 137) rfl rfl (rx_dt dt_CodeSet_make 76 rfl) ?_
            obtain ⟨hk8, hm⟩ := chk_some hm
            refine rw_iald (pc := 138) 2 rfl hk8 (rx_dt dt_CodeSet_make 77 rfl) ?_
            refine rw_iconst (pc := 139) (v := 1) rfl (rx_dt dt_CodeSet_make 78 rfl) ?_
            refine rw_iadd (pc := 140) (rx_dt dt_CodeSet_make 79 rfl) ?_
            obtain ⟨hk9, hm⟩ := chk_some hm
            obtain ⟨t_next5, ht_next5, hm⟩ := nm_some hm
            refine rw_iast (pc := 141) (ws' := [ia Z a_p1 n_p1 p1, ob a_t 2 [.ref a_t_perLength, .ref a_t_symbol, .ref a_t_next, .int t_codes_3, .int t_longest_1, .int t_free_1], ia Z a_t_next 16 t_next5, ia Z a_t_perLength 16 t_perLength6, ia Z a_t_symbol n_t t_symbol4]) 2 rfl hk9 (by rw [← ht_next5]; rfl) (rx_dt dt_CodeSet_make 80 rfl) ?_
            refine rw_perm (lv' := [(0, .ref a_t), (1, .ref a_p1), (2, .int x2), (3, .int x3), (4, .int v4_4)]) (ws' := [ia Z a_p1 n_p1 p1, ob a_t 2 [.ref a_t_perLength, .ref a_t_symbol, .ref a_t_next, .int t_codes_3, .int t_longest_1, .int t_free_1], ia Z a_t_next 16 t_next5, ia Z a_t_perLength 16 t_perLength6, ia Z a_t_symbol n_t t_symbol4]) [1, 2, 3, 4, 5] [0, 1, 2, 3, 4] rfl rfl rfl ?_
            cases hm
            exact KJ
set_option maxRecDepth 100000 in
set_option maxHeartbeats 4000000 in
theorem w_CodeSet_make (l : Launch) (Z : rx_D) (mc ms : Nat) (post : Option Value → va_W → Prop) (k n : Nat) (F : Nat) (a_p1 a_t a_t_next a_t_perLength a_t_symbol n_p1 n_t : Nat) (p1 : Nat → Int32) (t_codes t_free t_longest : Int32) (t_next t_perLength t_symbol : Nat → Int32) (x2 x3 : Int32) (o_t_codes o_t_longest o_t_free : Int32) (o_t_next o_t_perLength o_t_symbol : Nat → Int32) (hm : m_CodeSet_make F n_p1 n_t p1 t_next t_perLength t_symbol x2 x3 = some (o_t_codes, o_t_longest, o_t_free, o_t_next, o_t_perLength, o_t_symbol)) (hp : post none [ia Z a_p1 n_p1 p1, ob a_t 2 [.ref a_t_perLength, .ref a_t_symbol, .ref a_t_next, .int o_t_codes, .int o_t_longest, .int o_t_free], ia Z a_t_next 16 o_t_next, ia Z a_t_perLength 16 o_t_perLength, ia Z a_t_symbol n_t o_t_symbol]) : J_CodeSet_make l Z mc ms post k n [ia Z a_p1 n_p1 p1, ob a_t 2 [.ref a_t_perLength, .ref a_t_symbol, .ref a_t_next, .int t_codes, .int t_longest, .int t_free], ia Z a_t_next 16 t_next, ia Z a_t_perLength 16 t_perLength, ia Z a_t_symbol n_t t_symbol] [(0, .ref a_t), (1, .ref a_p1), (2, .int x2), (3, .int x3)] 0 [] := by
  unfold m_CodeSet_make at hm
  refine rw_aload_n (pc := 0) 0 rfl rfl (rx_dt dt_CodeSet_make 0 rfl) ?_
  refine rw_get fa_CodeSet_9 (pc := 1) 1 rfl rfl (rx_dt dt_CodeSet_make 1 rfl) ?_
  refine rw_iconst (pc := 4) (v := 0) rfl (rx_dt dt_CodeSet_make 2 rfl) ?_
  obtain ⟨t_perLength1, hq, hm⟩ := bnd1_some hm
  refine rw_callS cw_JA_fill2 lk_CodeSet_37 cs_JA_fill2 (c_JA_fill2 l Z F (a_p0 := a_t_perLength) (n_p0 := 16) (p0 := t_perLength) (x1 := (0 : Int32)) (o_p0 := t_perLength1) hq) [3] [0, 1, 2, 4] rfl rfl rfl rfl (by decide) rfl (by decide) (fun h => h) (rest := []) (wr := [ia Z a_p1 n_p1 p1, ob a_t 2 [.ref a_t_perLength, .ref a_t_symbol, .ref a_t_next, .int t_codes, .int t_longest, .int t_free], ia Z a_t_next 16 t_next, ia Z a_t_symbol n_t t_symbol]) (Nat.le_of_ble_eq_true rfl) rfl (rx_dt dt_CodeSet_make 3 rfl) (pc := 5) ?_
  rintro _ _ ⟨rfl, rfl⟩
  show J_CodeSet_make l Z mc ms post k n [ia Z a_p1 n_p1 p1, ob a_t 2 [.ref a_t_perLength, .ref a_t_symbol, .ref a_t_next, .int t_codes, .int t_longest, .int t_free], ia Z a_t_next 16 t_next, ia Z a_t_symbol n_t t_symbol, ia Z a_t_perLength 16 t_perLength1] [(0, .ref a_t), (1, .ref a_p1), (2, .int x2), (3, .int x3)] 8 []
  refine rw_aload_n (pc := 8) 0 rfl rfl (rx_dt dt_CodeSet_make 4 rfl) ?_
  refine rw_iconst (pc := 9) (v := 0) rfl (rx_dt dt_CodeSet_make 5 rfl) ?_
  refine rw_put fa_CodeSet_18 (pc := 10) (ws' := [ia Z a_p1 n_p1 p1, ob a_t 2 [.ref a_t_perLength, .ref a_t_symbol, .ref a_t_next, .int (0 : Int32), .int t_longest, .int t_free], ia Z a_t_next 16 t_next, ia Z a_t_symbol n_t t_symbol, ia Z a_t_perLength 16 t_perLength1]) 1 rfl rfl rfl (Nat.le_of_ble_eq_true rfl) rfl (rx_dt dt_CodeSet_make 6 rfl) ?_
  refine rw_iconst (pc := 13) (v := 0) rfl (rx_dt dt_CodeSet_make 7 rfl) ?_
  refine rw_istore (pc := 14) (lv' := [(4, .int (0 : Int32)), (0, .ref a_t), (1, .ref a_p1), (2, .int x2), (3, .int x3)]) (by decide) rfl (rx_dt dt_CodeSet_make 8 rfl) ?_
  obtain ⟨v4_3, t_codes_3, t_perLength6, hl, hm⟩ := bnd3_some hm
  refine rw_perm (lv' := [(0, .ref a_t), (1, .ref a_p1), (2, .int x2), (3, .int x3), (4, .int (0 : Int32))]) (ws' := [ia Z a_p1 n_p1 p1, ob a_t 2 [.ref a_t_perLength, .ref a_t_symbol, .ref a_t_next, .int (0 : Int32), .int t_longest, .int t_free], ia Z a_t_next 16 t_next, ia Z a_t_perLength 16 t_perLength1, ia Z a_t_symbol n_t t_symbol]) [1, 2, 3, 4, 0] [0, 1, 2, 4, 3] rfl rfl rfl ?_
  refine wl_CodeSet_make_16 l Z mc ms post k n F a_p1 a_t a_t_next a_t_perLength a_t_symbol n_p1 n_t p1 t_free t_longest t_next t_symbol x2 x3 F  (0 : Int32) (0 : Int32) t_perLength1 v4_3 t_codes_3 t_perLength6 hl ?_
  refine rw_aload_n (pc := 69) 0 rfl rfl (rx_dt dt_CodeSet_make 39 rfl) ?_
  obtain ⟨t_longest_1, t_free_1, t_next1, hq, hm⟩ := bnd3_some hm
  refine rw_callV cw_CodeSet_measure lk_CodeSet_43 ci_CodeSet_measure rfl (q := 1) rfl (c_CodeSet_measure l Z F (a_t := a_t) (a_t_next := a_t_next) (a_t_perLength := a_t_perLength) (a_t_symbol := a_t_symbol) (t_codes := t_codes_3) (t_free := t_free) (t_longest := t_longest) (t_next := t_next) (t_perLength := t_perLength6) (o_t_longest := t_longest_1) (o_t_free := t_free_1) (o_t_next := t_next1) hq) [1, 2, 3] [0, 4] rfl rfl rfl rfl (by decide) rfl (by decide) (fun h => h) (rest := []) (wr := [ia Z a_p1 n_p1 p1, ia Z a_t_symbol n_t t_symbol]) (Nat.le_of_ble_eq_true rfl) rfl (rx_dt dt_CodeSet_make 40 rfl) (pc := 70) ?_
  rintro _ _ ⟨rfl, rfl⟩
  show J_CodeSet_make l Z mc ms post k n [ia Z a_p1 n_p1 p1, ia Z a_t_symbol n_t t_symbol, ob a_t 2 [.ref a_t_perLength, .ref a_t_symbol, .ref a_t_next, .int t_codes_3, .int t_longest_1, .int t_free_1], ia Z a_t_next 16 t_next1, ia Z a_t_perLength 16 t_perLength6] [(0, .ref a_t), (1, .ref a_p1), (2, .int x2), (3, .int x3)] 73 []
  refine rw_iconst (pc := 73) (v := 0) rfl (rx_dt dt_CodeSet_make 41 rfl) ?_
  refine rw_istore (pc := 74) (lv' := [(4, .int (0 : Int32)), (0, .ref a_t), (1, .ref a_p1), (2, .int x2), (3, .int x3)]) (by decide) rfl (rx_dt dt_CodeSet_make 42 rfl) ?_
  obtain ⟨v4_6, t_next6, t_symbol5, hl, hm⟩ := bnd3_some hm
  refine rw_perm (lv' := [(0, .ref a_t), (1, .ref a_p1), (2, .int x2), (3, .int x3), (4, .int (0 : Int32))]) (ws' := [ia Z a_p1 n_p1 p1, ob a_t 2 [.ref a_t_perLength, .ref a_t_symbol, .ref a_t_next, .int t_codes_3, .int t_longest_1, .int t_free_1], ia Z a_t_next 16 t_next1, ia Z a_t_perLength 16 t_perLength6, ia Z a_t_symbol n_t t_symbol]) [1, 2, 3, 4, 0] [0, 2, 3, 4, 1] rfl rfl rfl ?_
  refine wl_CodeSet_make_76 l Z mc ms post k n F a_p1 a_t a_t_next a_t_perLength a_t_symbol n_p1 n_t p1 t_codes_3 t_free_1 t_longest_1 t_perLength6 x2 x3 F  (0 : Int32) t_next1 t_symbol v4_6 t_next6 t_symbol5 hl ?_
  cases hm
  exact rw_vret (pc := 148) (rx_dt dt_CodeSet_make 83 rfl) hp
theorem c_CodeSet_make (l : Launch) (Z : rx_D) (F : Nat) (a_p1 a_t a_t_next a_t_perLength a_t_symbol n_p1 n_t : Nat) (p1 : Nat → Int32) (t_codes t_free t_longest : Int32) (t_next t_perLength t_symbol : Nat → Int32) (x2 x3 : Int32) (o_t_codes o_t_longest o_t_free : Int32) (o_t_next o_t_perLength o_t_symbol : Nat → Int32) (hm : m_CodeSet_make F n_p1 n_t p1 t_next t_perLength t_symbol x2 x3 = some (o_t_codes, o_t_longest, o_t_free, o_t_next, o_t_perLength, o_t_symbol)) : Cn l Z y_CodeSet_make b_CodeSet_make 6 none 1 [.ref a_t, .ref a_p1, .int x2, .int x3] [ia Z a_p1 n_p1 p1, ob a_t 2 [.ref a_t_perLength, .ref a_t_symbol, .ref a_t_next, .int t_codes, .int t_longest, .int t_free], ia Z a_t_next 16 t_next, ia Z a_t_perLength 16 t_perLength, ia Z a_t_symbol n_t t_symbol] 0 0 (fun r w => r = none ∧ w = [ia Z a_p1 n_p1 p1, ob a_t 2 [.ref a_t_perLength, .ref a_t_symbol, .ref a_t_next, .int o_t_codes, .int o_t_longest, .int o_t_free], ia Z a_t_next 16 o_t_next, ia Z a_t_perLength 16 o_t_perLength, ia Z a_t_symbol n_t o_t_symbol]) :=
  rx_met "DeflateEffort$CodeSet" "make" mf_CodeSet_make (Nat.le_of_ble_eq_true rfl) rfl (by rintro _ _ ⟨h9, _⟩; cases h9) (w_CodeSet_make l Z 0 0 _ 0 0 F a_p1 a_t a_t_next a_t_perLength a_t_symbol n_p1 n_t p1 t_codes t_free t_longest t_next t_perLength t_symbol x2 x3 o_t_codes o_t_longest o_t_free o_t_next o_t_perLength o_t_symbol hm ⟨rfl, rfl⟩)
abbrev J_CodeSet_isFull (l : Launch) (Z : rx_D) (mc ms : Nat) (post : Option Value → va_W → Prop) := Rw l Z "DeflateEffort$CodeSet" "isFull" b_CodeSet_isFull 1 (some .boolean) 0 mc ms post
set_option maxRecDepth 100000 in
set_option maxHeartbeats 4000000 in
theorem w_CodeSet_isFull (l : Launch) (Z : rx_D) (mc ms : Nat) (post : Option Value → va_W → Prop) (k n : Nat) (F : Nat) (a_t a_t_next a_t_perLength a_t_symbol : Nat) (t_codes t_free t_longest : Int32) (r0 : Int32) (hm : m_CodeSet_isFull F t_free = some r0) (hp : post (some (.int r0)) [ob a_t 2 [.ref a_t_perLength, .ref a_t_symbol, .ref a_t_next, .int t_codes, .int t_longest, .int t_free]]) : J_CodeSet_isFull l Z mc ms post k n [ob a_t 2 [.ref a_t_perLength, .ref a_t_symbol, .ref a_t_next, .int t_codes, .int t_longest, .int t_free]] [(0, .ref a_t)] 0 [] := by
  unfold m_CodeSet_isFull at hm
  refine rw_aload_n (pc := 0) 0 rfl rfl (rx_dt dt_CodeSet_isFull 0 rfl) ?_
  refine rw_get fa_CodeSet_25 (pc := 1) 0 rfl rfl (rx_dt dt_CodeSet_isFull 1 rfl) ?_
  rcases ite_some hm with ⟨hc, hm⟩ | ⟨hc, hm⟩
  · refine rw_if_ne_f (pc := 4) (tgt := 11) hc (by decide) (rx_dt dt_CodeSet_isFull 2 rfl) ?_
    refine rw_iconst (pc := 7) (v := 1) rfl (rx_dt dt_CodeSet_isFull 3 rfl) ?_
    refine rw_goto (pc := 8) (tgt := 12) (by decide) (rx_dt dt_CodeSet_isFull 4 rfl) ?_
    refine rw_perm (lv' := []) (ws' := [ob a_t 2 [.ref a_t_perLength, .ref a_t_symbol, .ref a_t_next, .int t_codes, .int t_longest, .int t_free]]) [] [0] rfl rfl rfl ?_
    cases hm
    exact rw_zret (pc := 12) (rx_dt dt_CodeSet_isFull 6 rfl) hp
  · refine rw_if_ne_t (pc := 4) (tgt := 11) hc (by decide) (rx_dt dt_CodeSet_isFull 2 rfl) ?_
    refine rw_iconst (pc := 11) (v := 0) rfl (rx_dt dt_CodeSet_isFull 5 rfl) ?_
    refine rw_perm (lv' := []) (ws' := [ob a_t 2 [.ref a_t_perLength, .ref a_t_symbol, .ref a_t_next, .int t_codes, .int t_longest, .int t_free]]) [] [0] rfl rfl rfl ?_
    cases hm
    exact rw_zret (pc := 12) (rx_dt dt_CodeSet_isFull 6 rfl) hp
theorem c_CodeSet_isFull (l : Launch) (Z : rx_D) (F : Nat) (a_t a_t_next a_t_perLength a_t_symbol : Nat) (t_codes t_free t_longest : Int32) (r0 : Int32) (hm : m_CodeSet_isFull F t_free = some r0) : Cn l Z y_CodeSet_isFull b_CodeSet_isFull 1 (some .boolean) 0 [.ref a_t] [ob a_t 2 [.ref a_t_perLength, .ref a_t_symbol, .ref a_t_next, .int t_codes, .int t_longest, .int t_free]] 0 0 (fun r w => r = (some (.int r0)) ∧ w = [ob a_t 2 [.ref a_t_perLength, .ref a_t_symbol, .ref a_t_next, .int t_codes, .int t_longest, .int t_free]]) :=
  rx_met "DeflateEffort$CodeSet" "isFull" mf_CodeSet_isFull (Nat.le_of_ble_eq_true rfl) rfl (by rintro _ _ ⟨h9, _⟩; cases h9) (w_CodeSet_isFull l Z 0 0 _ 0 0 F a_t a_t_next a_t_perLength a_t_symbol t_codes t_free t_longest r0 hm ⟨rfl, rfl⟩)
abbrev J_CodeSet_mayStandForDistances (l : Launch) (Z : rx_D) (mc ms : Nat) (post : Option Value → va_W → Prop) := Rw l Z "DeflateEffort$CodeSet" "mayStandForDistances" b_CodeSet_mayStandForDistances 1 (some .boolean) 1 mc ms post
set_option maxRecDepth 100000 in
set_option maxHeartbeats 4000000 in
theorem w_CodeSet_mayStandForDistances (l : Launch) (Z : rx_D) (mc ms : Nat) (post : Option Value → va_W → Prop) (k n : Nat) (F : Nat) (a_t a_t_next a_t_perLength a_t_symbol : Nat) (t_codes t_free t_longest : Int32) (r0 : Int32) (hm : m_CodeSet_mayStandForDistances F t_codes t_free t_longest = some r0) (hp : post (some (.int r0)) [ob a_t 2 [.ref a_t_perLength, .ref a_t_symbol, .ref a_t_next, .int t_codes, .int t_longest, .int t_free]]) : J_CodeSet_mayStandForDistances l Z mc ms post k n [ob a_t 2 [.ref a_t_perLength, .ref a_t_symbol, .ref a_t_next, .int t_codes, .int t_longest, .int t_free]] [(0, .ref a_t)] 0 [] := by
  unfold m_CodeSet_mayStandForDistances at hm
  refine rw_aload_n (pc := 0) 0 rfl rfl (rx_dt dt_CodeSet_mayStandForDistances 0 rfl) ?_
  obtain ⟨r1, hq, hm⟩ := bnd1_some hm
  refine rw_callV cw_CodeSet_isFull lk_CodeSet_46 ci_CodeSet_isFull rfl (q := 0) rfl (c_CodeSet_isFull l Z F (a_t := a_t) (a_t_next := a_t_next) (a_t_perLength := a_t_perLength) (a_t_symbol := a_t_symbol) (t_codes := t_codes) (t_free := t_free) (t_longest := t_longest) (r0 := r1) hq) [0] [] rfl rfl rfl rfl (by decide) rfl (by decide) (fun h => h) (rest := []) (wr := []) (Nat.le_of_ble_eq_true rfl) rfl (rx_dt dt_CodeSet_mayStandForDistances 1 rfl) (pc := 1) ?_
  rintro _ _ ⟨rfl, rfl⟩
  show J_CodeSet_mayStandForDistances l Z mc ms post k n [ob a_t 2 [.ref a_t_perLength, .ref a_t_symbol, .ref a_t_next, .int t_codes, .int t_longest, .int t_free]] [(0, .ref a_t)] 4 [.int r1]
  rcases ite_some hm with ⟨hc, hm⟩ | ⟨hc, hm⟩
  · refine rw_if_ne_f (pc := 4) (tgt := 30) hc (by decide) (rx_dt dt_CodeSet_mayStandForDistances 2 rfl) ?_
    refine rw_aload_n (pc := 7) 0 rfl rfl (rx_dt dt_CodeSet_mayStandForDistances 3 rfl) ?_
    refine rw_get fa_CodeSet_18 (pc := 8) 0 rfl rfl (rx_dt dt_CodeSet_mayStandForDistances 4 rfl) ?_
    rcases ite_some hm with ⟨hc, hm⟩ | ⟨hc, hm⟩
    · refine rw_if_eq_t (pc := 11) (tgt := 30) hc (by decide) (rx_dt dt_CodeSet_mayStandForDistances 5 rfl) ?_
      refine rw_iconst (pc := 30) (v := 1) rfl (rx_dt dt_CodeSet_mayStandForDistances 14 rfl) ?_
      refine rw_goto (pc := 31) (tgt := 35) (by decide) (rx_dt dt_CodeSet_mayStandForDistances 15 rfl) ?_
      refine rw_perm (lv' := []) (ws' := [ob a_t 2 [.ref a_t_perLength, .ref a_t_symbol, .ref a_t_next, .int t_codes, .int t_longest, .int t_free]]) [] [0] rfl rfl rfl ?_
      cases hm
      exact rw_zret (pc := 35) (rx_dt dt_CodeSet_mayStandForDistances 17 rfl) hp
    · refine rw_if_eq_f (pc := 11) (tgt := 30) hc (by decide) (rx_dt dt_CodeSet_mayStandForDistances 5 rfl) ?_
      refine rw_aload_n (pc := 14) 0 rfl rfl (rx_dt dt_CodeSet_mayStandForDistances 6 rfl) ?_
      refine rw_get fa_CodeSet_18 (pc := 15) 0 rfl rfl (rx_dt dt_CodeSet_mayStandForDistances 7 rfl) ?_
      refine rw_iconst (pc := 18) (v := 1) rfl (rx_dt dt_CodeSet_mayStandForDistances 8 rfl) ?_
      rcases ite_some hm with ⟨hc, hm⟩ | ⟨hc, hm⟩
      · refine rw_icmp_ne_f (pc := 19) (tgt := 34) hc (by decide) (rx_dt dt_CodeSet_mayStandForDistances 9 rfl) ?_
        refine rw_aload_n (pc := 22) 0 rfl rfl (rx_dt dt_CodeSet_mayStandForDistances 10 rfl) ?_
        refine rw_get fa_CodeSet_22 (pc := 23) 0 rfl rfl (rx_dt dt_CodeSet_mayStandForDistances 11 rfl) ?_
        refine rw_iconst (pc := 26) (v := 1) rfl (rx_dt dt_CodeSet_mayStandForDistances 12 rfl) ?_
        rcases ite_some hm with ⟨hc, hm⟩ | ⟨hc, hm⟩
        · refine rw_icmp_ne_f (pc := 27) (tgt := 34) hc (by decide) (rx_dt dt_CodeSet_mayStandForDistances 13 rfl) ?_
          refine rw_iconst (pc := 30) (v := 1) rfl (rx_dt dt_CodeSet_mayStandForDistances 14 rfl) ?_
          refine rw_goto (pc := 31) (tgt := 35) (by decide) (rx_dt dt_CodeSet_mayStandForDistances 15 rfl) ?_
          refine rw_perm (lv' := []) (ws' := [ob a_t 2 [.ref a_t_perLength, .ref a_t_symbol, .ref a_t_next, .int t_codes, .int t_longest, .int t_free]]) [] [0] rfl rfl rfl ?_
          cases hm
          exact rw_zret (pc := 35) (rx_dt dt_CodeSet_mayStandForDistances 17 rfl) hp
        · refine rw_icmp_ne_t (pc := 27) (tgt := 34) hc (by decide) (rx_dt dt_CodeSet_mayStandForDistances 13 rfl) ?_
          refine rw_iconst (pc := 34) (v := 0) rfl (rx_dt dt_CodeSet_mayStandForDistances 16 rfl) ?_
          refine rw_perm (lv' := []) (ws' := [ob a_t 2 [.ref a_t_perLength, .ref a_t_symbol, .ref a_t_next, .int t_codes, .int t_longest, .int t_free]]) [] [0] rfl rfl rfl ?_
          cases hm
          exact rw_zret (pc := 35) (rx_dt dt_CodeSet_mayStandForDistances 17 rfl) hp
      · refine rw_icmp_ne_t (pc := 19) (tgt := 34) hc (by decide) (rx_dt dt_CodeSet_mayStandForDistances 9 rfl) ?_
        refine rw_iconst (pc := 34) (v := 0) rfl (rx_dt dt_CodeSet_mayStandForDistances 16 rfl) ?_
        refine rw_perm (lv' := []) (ws' := [ob a_t 2 [.ref a_t_perLength, .ref a_t_symbol, .ref a_t_next, .int t_codes, .int t_longest, .int t_free]]) [] [0] rfl rfl rfl ?_
        cases hm
        exact rw_zret (pc := 35) (rx_dt dt_CodeSet_mayStandForDistances 17 rfl) hp
  · refine rw_if_ne_t (pc := 4) (tgt := 30) hc (by decide) (rx_dt dt_CodeSet_mayStandForDistances 2 rfl) ?_
    refine rw_iconst (pc := 30) (v := 1) rfl (rx_dt dt_CodeSet_mayStandForDistances 14 rfl) ?_
    refine rw_goto (pc := 31) (tgt := 35) (by decide) (rx_dt dt_CodeSet_mayStandForDistances 15 rfl) ?_
    refine rw_perm (lv' := []) (ws' := [ob a_t 2 [.ref a_t_perLength, .ref a_t_symbol, .ref a_t_next, .int t_codes, .int t_longest, .int t_free]]) [] [0] rfl rfl rfl ?_
    cases hm
    exact rw_zret (pc := 35) (rx_dt dt_CodeSet_mayStandForDistances 17 rfl) hp
theorem c_CodeSet_mayStandForDistances (l : Launch) (Z : rx_D) (F : Nat) (a_t a_t_next a_t_perLength a_t_symbol : Nat) (t_codes t_free t_longest : Int32) (r0 : Int32) (hm : m_CodeSet_mayStandForDistances F t_codes t_free t_longest = some r0) : Cn l Z y_CodeSet_mayStandForDistances b_CodeSet_mayStandForDistances 1 (some .boolean) 1 [.ref a_t] [ob a_t 2 [.ref a_t_perLength, .ref a_t_symbol, .ref a_t_next, .int t_codes, .int t_longest, .int t_free]] 0 0 (fun r w => r = (some (.int r0)) ∧ w = [ob a_t 2 [.ref a_t_perLength, .ref a_t_symbol, .ref a_t_next, .int t_codes, .int t_longest, .int t_free]]) :=
  rx_met "DeflateEffort$CodeSet" "mayStandForDistances" mf_CodeSet_mayStandForDistances (Nat.le_of_ble_eq_true rfl) rfl (by rintro _ _ ⟨h9, _⟩; cases h9) (w_CodeSet_mayStandForDistances l Z 0 0 _ 0 0 F a_t a_t_next a_t_perLength a_t_symbol t_codes t_free t_longest r0 hm ⟨rfl, rfl⟩)
abbrev J_Cutter_forget (l : Launch) (Z : rx_D) (mc ms : Nat) (post : Option Value → va_W → Prop) := Rw l Z "DeflateEffort$Cutter" "forget" b_Cutter_forget 1 none 0 mc ms post
set_option maxRecDepth 100000 in
set_option maxHeartbeats 4000000 in
theorem w_Cutter_forget (l : Launch) (Z : rx_D) (mc ms : Nat) (post : Option Value → va_W → Prop) (k n : Nat) (F : Nat) (a_t a_t_best a_t_bytes a_t_hand a_t_joiner a_t_lengthTaken a_t_matches a_t_matches_below a_t_matches_bucket a_t_matches_found a_t_prices a_t_row a_t_taken a_t_trial : Nat) (t_effort t_matches_steps t_takenCount : Int32) (o_t_takenCount o_t_matches_steps : Int32) (hm : m_Cutter_forget F  = some (o_t_takenCount, o_t_matches_steps)) (hp : post none [ob a_t 3 [.int t_effort, .ref a_t_bytes, .ref a_t_matches, .ref a_t_joiner, .ref a_t_row, .ref a_t_prices, .ref a_t_lengthTaken, .ref a_t_hand, .ref a_t_trial, .ref a_t_best, .ref a_t_taken, .int o_t_takenCount], ob a_t_matches 6 [.ref a_t_bytes, .ref a_t_matches_bucket, .ref a_t_matches_below, .ref a_t_matches_found, .int o_t_matches_steps]]) : J_Cutter_forget l Z mc ms post k n [ob a_t 3 [.int t_effort, .ref a_t_bytes, .ref a_t_matches, .ref a_t_joiner, .ref a_t_row, .ref a_t_prices, .ref a_t_lengthTaken, .ref a_t_hand, .ref a_t_trial, .ref a_t_best, .ref a_t_taken, .int t_takenCount], ob a_t_matches 6 [.ref a_t_bytes, .ref a_t_matches_bucket, .ref a_t_matches_below, .ref a_t_matches_found, .int t_matches_steps]] [(0, .ref a_t)] 0 [] := by
  unfold m_Cutter_forget at hm
  refine rw_aload_n (pc := 0) 0 rfl rfl (rx_dt dt_Cutter_forget 0 rfl) ?_
  refine rw_iconst (pc := 1) (v := 0) rfl (rx_dt dt_Cutter_forget 1 rfl) ?_
  refine rw_put fa_Cutter_55 (pc := 2) (ws' := [ob a_t 3 [.int t_effort, .ref a_t_bytes, .ref a_t_matches, .ref a_t_joiner, .ref a_t_row, .ref a_t_prices, .ref a_t_lengthTaken, .ref a_t_hand, .ref a_t_trial, .ref a_t_best, .ref a_t_taken, .int (0 : Int32)], ob a_t_matches 6 [.ref a_t_bytes, .ref a_t_matches_bucket, .ref a_t_matches_below, .ref a_t_matches_found, .int t_matches_steps]]) 0 rfl rfl rfl (Nat.le_of_ble_eq_true rfl) rfl (rx_dt dt_Cutter_forget 2 rfl) ?_
  refine rw_aload_n (pc := 5) 0 rfl rfl (rx_dt dt_Cutter_forget 3 rfl) ?_
  refine rw_get fa_Cutter_70 (pc := 6) 0 rfl rfl (rx_dt dt_Cutter_forget 4 rfl) ?_
  refine rw_iconst (pc := 9) (v := 0) rfl (rx_dt dt_Cutter_forget 5 rfl) ?_
  refine rw_put fa_Cutter_77 (pc := 10) (ws' := [ob a_t 3 [.int t_effort, .ref a_t_bytes, .ref a_t_matches, .ref a_t_joiner, .ref a_t_row, .ref a_t_prices, .ref a_t_lengthTaken, .ref a_t_hand, .ref a_t_trial, .ref a_t_best, .ref a_t_taken, .int (0 : Int32)], ob a_t_matches 6 [.ref a_t_bytes, .ref a_t_matches_bucket, .ref a_t_matches_below, .ref a_t_matches_found, .int (0 : Int32)]]) 1 rfl rfl rfl (Nat.le_of_ble_eq_true rfl) rfl (rx_dt dt_Cutter_forget 6 rfl) ?_
  refine rw_perm (lv' := []) (ws' := [ob a_t 3 [.int t_effort, .ref a_t_bytes, .ref a_t_matches, .ref a_t_joiner, .ref a_t_row, .ref a_t_prices, .ref a_t_lengthTaken, .ref a_t_hand, .ref a_t_trial, .ref a_t_best, .ref a_t_taken, .int (0 : Int32)], ob a_t_matches 6 [.ref a_t_bytes, .ref a_t_matches_bucket, .ref a_t_matches_below, .ref a_t_matches_found, .int (0 : Int32)]]) [] [0, 1] rfl rfl rfl ?_
  cases hm
  exact rw_vret (pc := 13) (rx_dt dt_Cutter_forget 7 rfl) hp
theorem c_Cutter_forget (l : Launch) (Z : rx_D) (F : Nat) (a_t a_t_best a_t_bytes a_t_hand a_t_joiner a_t_lengthTaken a_t_matches a_t_matches_below a_t_matches_bucket a_t_matches_found a_t_prices a_t_row a_t_taken a_t_trial : Nat) (t_effort t_matches_steps t_takenCount : Int32) (o_t_takenCount o_t_matches_steps : Int32) (hm : m_Cutter_forget F  = some (o_t_takenCount, o_t_matches_steps)) : Cn l Z y_Cutter_forget b_Cutter_forget 1 none 0 [.ref a_t] [ob a_t 3 [.int t_effort, .ref a_t_bytes, .ref a_t_matches, .ref a_t_joiner, .ref a_t_row, .ref a_t_prices, .ref a_t_lengthTaken, .ref a_t_hand, .ref a_t_trial, .ref a_t_best, .ref a_t_taken, .int t_takenCount], ob a_t_matches 6 [.ref a_t_bytes, .ref a_t_matches_bucket, .ref a_t_matches_below, .ref a_t_matches_found, .int t_matches_steps]] 0 0 (fun r w => r = none ∧ w = [ob a_t 3 [.int t_effort, .ref a_t_bytes, .ref a_t_matches, .ref a_t_joiner, .ref a_t_row, .ref a_t_prices, .ref a_t_lengthTaken, .ref a_t_hand, .ref a_t_trial, .ref a_t_best, .ref a_t_taken, .int o_t_takenCount], ob a_t_matches 6 [.ref a_t_bytes, .ref a_t_matches_bucket, .ref a_t_matches_below, .ref a_t_matches_found, .int o_t_matches_steps]]) :=
  rx_met "DeflateEffort$Cutter" "forget" mf_Cutter_forget (Nat.le_of_ble_eq_true rfl) rfl (by rintro _ _ ⟨h9, _⟩; cases h9) (w_Cutter_forget l Z 0 0 _ 0 0 F a_t a_t_best a_t_bytes a_t_hand a_t_joiner a_t_lengthTaken a_t_matches a_t_matches_below a_t_matches_bucket a_t_matches_found a_t_prices a_t_row a_t_taken a_t_trial t_effort t_matches_steps t_takenCount o_t_takenCount o_t_matches_steps hm ⟨rfl, rfl⟩)
abbrev J_Cutter_takenBlock (l : Launch) (Z : rx_D) (mc ms : Nat) (post : Option Value → va_W → Prop) := Rw l Z "DeflateEffort$Cutter" "takenBlock" b_Cutter_takenBlock 2 (some (.object "DeflateEffort$Block")) 0 mc ms post
set_option maxRecDepth 100000 in
set_option maxHeartbeats 4000000 in
theorem w_Cutter_takenBlock (l : Launch) (Z : rx_D) (mc ms : Nat) (post : Option Value → va_W → Prop) (k n : Nat) (F : Nat) (a_t a_t_best a_t_best_0 a_t_best_0_token a_t_best_1 a_t_best_1_token a_t_best_2 a_t_best_2_token a_t_best_3 a_t_best_3_token a_t_bytes a_t_hand a_t_joiner a_t_lengthTaken a_t_matches a_t_prices a_t_row a_t_taken a_t_trial : Nat) (t_best_bits t_best_bitsToEnd t_best_from t_best_kind t_best_matches t_best_replaced t_best_size t_best_to : Nat → Int32) (t_best_token : Nat → Nat → Int32) (t_effort : Int32) (t_taken : Nat → Int32) (t_takenCount x1 : Int32) (r0 : Nat) (hm : m_Cutter_takenBlock F t_taken x1 = some r0) (hp : post (some (.ref (b4 r0 a_t_best_0 a_t_best_1 a_t_best_2 a_t_best_3))) [ob a_t 3 [.int t_effort, .ref a_t_bytes, .ref a_t_matches, .ref a_t_joiner, .ref a_t_row, .ref a_t_prices, .ref a_t_lengthTaken, .ref a_t_hand, .ref a_t_trial, .ref a_t_best, .ref a_t_taken, .int t_takenCount], ra4 Z a_t_best a_t_best_0 a_t_best_1 a_t_best_2 a_t_best_3, ob a_t_best_0 0 [.ref a_t_best_0_token, .int (t_best_from 0), .int (t_best_to 0), .int (t_best_kind 0), .int (t_best_bits 0), .int (t_best_size 0), .int (t_best_matches 0), .int (t_best_replaced 0), .int (t_best_bitsToEnd 0)], ia Z a_t_best_0_token 512 (t_best_token 0), ob a_t_best_1 0 [.ref a_t_best_1_token, .int (t_best_from 1), .int (t_best_to 1), .int (t_best_kind 1), .int (t_best_bits 1), .int (t_best_size 1), .int (t_best_matches 1), .int (t_best_replaced 1), .int (t_best_bitsToEnd 1)], ia Z a_t_best_1_token 384 (t_best_token 1), ob a_t_best_2 0 [.ref a_t_best_2_token, .int (t_best_from 2), .int (t_best_to 2), .int (t_best_kind 2), .int (t_best_bits 2), .int (t_best_size 2), .int (t_best_matches 2), .int (t_best_replaced 2), .int (t_best_bitsToEnd 2)], ia Z a_t_best_2_token 256 (t_best_token 2), ob a_t_best_3 0 [.ref a_t_best_3_token, .int (t_best_from 3), .int (t_best_to 3), .int (t_best_kind 3), .int (t_best_bits 3), .int (t_best_size 3), .int (t_best_matches 3), .int (t_best_replaced 3), .int (t_best_bitsToEnd 3)], ia Z a_t_best_3_token 128 (t_best_token 3), ia Z a_t_taken 4 t_taken]) : J_Cutter_takenBlock l Z mc ms post k n [ob a_t 3 [.int t_effort, .ref a_t_bytes, .ref a_t_matches, .ref a_t_joiner, .ref a_t_row, .ref a_t_prices, .ref a_t_lengthTaken, .ref a_t_hand, .ref a_t_trial, .ref a_t_best, .ref a_t_taken, .int t_takenCount], ra4 Z a_t_best a_t_best_0 a_t_best_1 a_t_best_2 a_t_best_3, ob a_t_best_0 0 [.ref a_t_best_0_token, .int (t_best_from 0), .int (t_best_to 0), .int (t_best_kind 0), .int (t_best_bits 0), .int (t_best_size 0), .int (t_best_matches 0), .int (t_best_replaced 0), .int (t_best_bitsToEnd 0)], ia Z a_t_best_0_token 512 (t_best_token 0), ob a_t_best_1 0 [.ref a_t_best_1_token, .int (t_best_from 1), .int (t_best_to 1), .int (t_best_kind 1), .int (t_best_bits 1), .int (t_best_size 1), .int (t_best_matches 1), .int (t_best_replaced 1), .int (t_best_bitsToEnd 1)], ia Z a_t_best_1_token 384 (t_best_token 1), ob a_t_best_2 0 [.ref a_t_best_2_token, .int (t_best_from 2), .int (t_best_to 2), .int (t_best_kind 2), .int (t_best_bits 2), .int (t_best_size 2), .int (t_best_matches 2), .int (t_best_replaced 2), .int (t_best_bitsToEnd 2)], ia Z a_t_best_2_token 256 (t_best_token 2), ob a_t_best_3 0 [.ref a_t_best_3_token, .int (t_best_from 3), .int (t_best_to 3), .int (t_best_kind 3), .int (t_best_bits 3), .int (t_best_size 3), .int (t_best_matches 3), .int (t_best_replaced 3), .int (t_best_bitsToEnd 3)], ia Z a_t_best_3_token 128 (t_best_token 3), ia Z a_t_taken 4 t_taken] [(0, .ref a_t), (1, .int x1)] 0 [] := by
  unfold m_Cutter_takenBlock at hm
  refine rw_aload_n (pc := 0) 0 rfl rfl (rx_dt dt_Cutter_takenBlock 0 rfl) ?_
  refine rw_get fa_Cutter_48 (pc := 1) 0 rfl rfl (rx_dt dt_Cutter_takenBlock 1 rfl) ?_
  refine rw_aload_n (pc := 4) 0 rfl rfl (rx_dt dt_Cutter_takenBlock 2 rfl) ?_
  refine rw_get fa_Cutter_52 (pc := 5) 0 rfl rfl (rx_dt dt_Cutter_takenBlock 3 rfl) ?_
  refine rw_iload_n (pc := 8) 1 rfl rfl (rx_dt dt_Cutter_takenBlock 4 rfl) ?_
  obtain ⟨hk1, hm⟩ := chk_some hm
  refine rw_iald (pc := 9) 10 rfl hk1 (rx_dt dt_Cutter_takenBlock 5 rfl) ?_
  obtain ⟨hk2, hm⟩ := chk_some hm
  obtain ⟨j1, hj1, hm⟩ := nm_some hm
  have hlj1 : j1 < 4 := by rw [← hj1]; exact inb_lt hk2
  refine rw_aald4 (pc := 10) 1 rfl hk2 hj1 (rx_dt dt_Cutter_takenBlock 6 rfl) ?_
  refine rw_perm (lv' := []) (ws' := [ob a_t 3 [.int t_effort, .ref a_t_bytes, .ref a_t_matches, .ref a_t_joiner, .ref a_t_row, .ref a_t_prices, .ref a_t_lengthTaken, .ref a_t_hand, .ref a_t_trial, .ref a_t_best, .ref a_t_taken, .int t_takenCount], ra4 Z a_t_best a_t_best_0 a_t_best_1 a_t_best_2 a_t_best_3, ob a_t_best_0 0 [.ref a_t_best_0_token, .int (t_best_from 0), .int (t_best_to 0), .int (t_best_kind 0), .int (t_best_bits 0), .int (t_best_size 0), .int (t_best_matches 0), .int (t_best_replaced 0), .int (t_best_bitsToEnd 0)], ia Z a_t_best_0_token 512 (t_best_token 0), ob a_t_best_1 0 [.ref a_t_best_1_token, .int (t_best_from 1), .int (t_best_to 1), .int (t_best_kind 1), .int (t_best_bits 1), .int (t_best_size 1), .int (t_best_matches 1), .int (t_best_replaced 1), .int (t_best_bitsToEnd 1)], ia Z a_t_best_1_token 384 (t_best_token 1), ob a_t_best_2 0 [.ref a_t_best_2_token, .int (t_best_from 2), .int (t_best_to 2), .int (t_best_kind 2), .int (t_best_bits 2), .int (t_best_size 2), .int (t_best_matches 2), .int (t_best_replaced 2), .int (t_best_bitsToEnd 2)], ia Z a_t_best_2_token 256 (t_best_token 2), ob a_t_best_3 0 [.ref a_t_best_3_token, .int (t_best_from 3), .int (t_best_to 3), .int (t_best_kind 3), .int (t_best_bits 3), .int (t_best_size 3), .int (t_best_matches 3), .int (t_best_replaced 3), .int (t_best_bitsToEnd 3)], ia Z a_t_best_3_token 128 (t_best_token 3), ia Z a_t_taken 4 t_taken]) [] [0, 1, 2, 3, 4, 5, 6, 7, 8, 9, 10] rfl rfl rfl ?_
  cases hm
  exact rw_aret (pc := 11) (rx_dt dt_Cutter_takenBlock 7 rfl) hp
theorem c_Cutter_takenBlock (l : Launch) (Z : rx_D) (F : Nat) (a_t a_t_best a_t_best_0 a_t_best_0_token a_t_best_1 a_t_best_1_token a_t_best_2 a_t_best_2_token a_t_best_3 a_t_best_3_token a_t_bytes a_t_hand a_t_joiner a_t_lengthTaken a_t_matches a_t_prices a_t_row a_t_taken a_t_trial : Nat) (t_best_bits t_best_bitsToEnd t_best_from t_best_kind t_best_matches t_best_replaced t_best_size t_best_to : Nat → Int32) (t_best_token : Nat → Nat → Int32) (t_effort : Int32) (t_taken : Nat → Int32) (t_takenCount x1 : Int32) (r0 : Nat) (hm : m_Cutter_takenBlock F t_taken x1 = some r0) : Cn l Z y_Cutter_takenBlock b_Cutter_takenBlock 2 (some (.object "DeflateEffort$Block")) 0 [.ref a_t, .int x1] [ob a_t 3 [.int t_effort, .ref a_t_bytes, .ref a_t_matches, .ref a_t_joiner, .ref a_t_row, .ref a_t_prices, .ref a_t_lengthTaken, .ref a_t_hand, .ref a_t_trial, .ref a_t_best, .ref a_t_taken, .int t_takenCount], ra4 Z a_t_best a_t_best_0 a_t_best_1 a_t_best_2 a_t_best_3, ob a_t_best_0 0 [.ref a_t_best_0_token, .int (t_best_from 0), .int (t_best_to 0), .int (t_best_kind 0), .int (t_best_bits 0), .int (t_best_size 0), .int (t_best_matches 0), .int (t_best_replaced 0), .int (t_best_bitsToEnd 0)], ia Z a_t_best_0_token 512 (t_best_token 0), ob a_t_best_1 0 [.ref a_t_best_1_token, .int (t_best_from 1), .int (t_best_to 1), .int (t_best_kind 1), .int (t_best_bits 1), .int (t_best_size 1), .int (t_best_matches 1), .int (t_best_replaced 1), .int (t_best_bitsToEnd 1)], ia Z a_t_best_1_token 384 (t_best_token 1), ob a_t_best_2 0 [.ref a_t_best_2_token, .int (t_best_from 2), .int (t_best_to 2), .int (t_best_kind 2), .int (t_best_bits 2), .int (t_best_size 2), .int (t_best_matches 2), .int (t_best_replaced 2), .int (t_best_bitsToEnd 2)], ia Z a_t_best_2_token 256 (t_best_token 2), ob a_t_best_3 0 [.ref a_t_best_3_token, .int (t_best_from 3), .int (t_best_to 3), .int (t_best_kind 3), .int (t_best_bits 3), .int (t_best_size 3), .int (t_best_matches 3), .int (t_best_replaced 3), .int (t_best_bitsToEnd 3)], ia Z a_t_best_3_token 128 (t_best_token 3), ia Z a_t_taken 4 t_taken] 0 0 (fun r w => r = (some (.ref (b4 r0 a_t_best_0 a_t_best_1 a_t_best_2 a_t_best_3))) ∧ w = [ob a_t 3 [.int t_effort, .ref a_t_bytes, .ref a_t_matches, .ref a_t_joiner, .ref a_t_row, .ref a_t_prices, .ref a_t_lengthTaken, .ref a_t_hand, .ref a_t_trial, .ref a_t_best, .ref a_t_taken, .int t_takenCount], ra4 Z a_t_best a_t_best_0 a_t_best_1 a_t_best_2 a_t_best_3, ob a_t_best_0 0 [.ref a_t_best_0_token, .int (t_best_from 0), .int (t_best_to 0), .int (t_best_kind 0), .int (t_best_bits 0), .int (t_best_size 0), .int (t_best_matches 0), .int (t_best_replaced 0), .int (t_best_bitsToEnd 0)], ia Z a_t_best_0_token 512 (t_best_token 0), ob a_t_best_1 0 [.ref a_t_best_1_token, .int (t_best_from 1), .int (t_best_to 1), .int (t_best_kind 1), .int (t_best_bits 1), .int (t_best_size 1), .int (t_best_matches 1), .int (t_best_replaced 1), .int (t_best_bitsToEnd 1)], ia Z a_t_best_1_token 384 (t_best_token 1), ob a_t_best_2 0 [.ref a_t_best_2_token, .int (t_best_from 2), .int (t_best_to 2), .int (t_best_kind 2), .int (t_best_bits 2), .int (t_best_size 2), .int (t_best_matches 2), .int (t_best_replaced 2), .int (t_best_bitsToEnd 2)], ia Z a_t_best_2_token 256 (t_best_token 2), ob a_t_best_3 0 [.ref a_t_best_3_token, .int (t_best_from 3), .int (t_best_to 3), .int (t_best_kind 3), .int (t_best_bits 3), .int (t_best_size 3), .int (t_best_matches 3), .int (t_best_replaced 3), .int (t_best_bitsToEnd 3)], ia Z a_t_best_3_token 128 (t_best_token 3), ia Z a_t_taken 4 t_taken]) :=
  rx_met "DeflateEffort$Cutter" "takenBlock" mf_Cutter_takenBlock (Nat.le_of_ble_eq_true rfl) rfl (by rintro _ _ ⟨h9, _⟩; cases h9) (w_Cutter_takenBlock l Z 0 0 _ 0 0 F a_t a_t_best a_t_best_0 a_t_best_0_token a_t_best_1 a_t_best_1_token a_t_best_2 a_t_best_2_token a_t_best_3 a_t_best_3_token a_t_bytes a_t_hand a_t_joiner a_t_lengthTaken a_t_matches a_t_prices a_t_row a_t_taken a_t_trial t_best_bits t_best_bitsToEnd t_best_from t_best_kind t_best_matches t_best_replaced t_best_size t_best_to t_best_token t_effort t_taken t_takenCount x1 r0 hm ⟨rfl, rfl⟩)
abbrev J_Cutter_replacedInTaken (l : Launch) (Z : rx_D) (mc ms : Nat) (post : Option Value → va_W → Prop) := Rw l Z "DeflateEffort$Cutter" "replacedInTaken" b_Cutter_replacedInTaken 3 (some .int) 1 mc ms post
set_option maxRecDepth 100000 in
set_option maxHeartbeats 4000000 in
theorem wl_Cutter_replacedInTaken_4 (l : Launch) (Z : rx_D) (mc ms : Nat) (post : Option Value → va_W → Prop) (k n : Nat) (F : Nat) (a_t a_t_best a_t_best_0 a_t_best_0_token a_t_best_1 a_t_best_1_token a_t_best_2 a_t_best_2_token a_t_best_3 a_t_best_3_token a_t_bytes a_t_hand a_t_joiner a_t_lengthTaken a_t_matches a_t_prices a_t_row a_t_taken a_t_trial : Nat) (t_best_bits t_best_bitsToEnd t_best_from t_best_kind t_best_matches t_best_replaced t_best_size t_best_to : Nat → Int32) (t_best_token : Nat → Nat → Int32) (t_effort : Int32) (t_taken : Nat → Int32) (t_takenCount : Int32) : ∀ (f : Nat)  (v1_1 v2_1 : Int32) (v1_2 v2_2 : Int32), L_Cutter_replacedInTaken_4 F t_best_replaced t_taken t_takenCount f v1_1 v2_1 = some (v1_2, v2_2) → (J_Cutter_replacedInTaken l Z mc ms post k n [ob a_t 3 [.int t_effort, .ref a_t_bytes, .ref a_t_matches, .ref a_t_joiner, .ref a_t_row, .ref a_t_prices, .ref a_t_lengthTaken, .ref a_t_hand, .ref a_t_trial, .ref a_t_best, .ref a_t_taken, .int t_takenCount], ra4 Z a_t_best a_t_best_0 a_t_best_1 a_t_best_2 a_t_best_3, ob a_t_best_0 0 [.ref a_t_best_0_token, .int (t_best_from 0), .int (t_best_to 0), .int (t_best_kind 0), .int (t_best_bits 0), .int (t_best_size 0), .int (t_best_matches 0), .int (t_best_replaced 0), .int (t_best_bitsToEnd 0)], ia Z a_t_best_0_token 512 (t_best_token 0), ob a_t_best_1 0 [.ref a_t_best_1_token, .int (t_best_from 1), .int (t_best_to 1), .int (t_best_kind 1), .int (t_best_bits 1), .int (t_best_size 1), .int (t_best_matches 1), .int (t_best_replaced 1), .int (t_best_bitsToEnd 1)], ia Z a_t_best_1_token 384 (t_best_token 1), ob a_t_best_2 0 [.ref a_t_best_2_token, .int (t_best_from 2), .int (t_best_to 2), .int (t_best_kind 2), .int (t_best_bits 2), .int (t_best_size 2), .int (t_best_matches 2), .int (t_best_replaced 2), .int (t_best_bitsToEnd 2)], ia Z a_t_best_2_token 256 (t_best_token 2), ob a_t_best_3 0 [.ref a_t_best_3_token, .int (t_best_from 3), .int (t_best_to 3), .int (t_best_kind 3), .int (t_best_bits 3), .int (t_best_size 3), .int (t_best_matches 3), .int (t_best_replaced 3), .int (t_best_bitsToEnd 3)], ia Z a_t_best_3_token 128 (t_best_token 3), ia Z a_t_taken 4 t_taken] [(1, .int v1_2)] 29 []) → J_Cutter_replacedInTaken l Z mc ms post k n [ob a_t 3 [.int t_effort, .ref a_t_bytes, .ref a_t_matches, .ref a_t_joiner, .ref a_t_row, .ref a_t_prices, .ref a_t_lengthTaken, .ref a_t_hand, .ref a_t_trial, .ref a_t_best, .ref a_t_taken, .int t_takenCount], ra4 Z a_t_best a_t_best_0 a_t_best_1 a_t_best_2 a_t_best_3, ob a_t_best_0 0 [.ref a_t_best_0_token, .int (t_best_from 0), .int (t_best_to 0), .int (t_best_kind 0), .int (t_best_bits 0), .int (t_best_size 0), .int (t_best_matches 0), .int (t_best_replaced 0), .int (t_best_bitsToEnd 0)], ia Z a_t_best_0_token 512 (t_best_token 0), ob a_t_best_1 0 [.ref a_t_best_1_token, .int (t_best_from 1), .int (t_best_to 1), .int (t_best_kind 1), .int (t_best_bits 1), .int (t_best_size 1), .int (t_best_matches 1), .int (t_best_replaced 1), .int (t_best_bitsToEnd 1)], ia Z a_t_best_1_token 384 (t_best_token 1), ob a_t_best_2 0 [.ref a_t_best_2_token, .int (t_best_from 2), .int (t_best_to 2), .int (t_best_kind 2), .int (t_best_bits 2), .int (t_best_size 2), .int (t_best_matches 2), .int (t_best_replaced 2), .int (t_best_bitsToEnd 2)], ia Z a_t_best_2_token 256 (t_best_token 2), ob a_t_best_3 0 [.ref a_t_best_3_token, .int (t_best_from 3), .int (t_best_to 3), .int (t_best_kind 3), .int (t_best_bits 3), .int (t_best_size 3), .int (t_best_matches 3), .int (t_best_replaced 3), .int (t_best_bitsToEnd 3)], ia Z a_t_best_3_token 128 (t_best_token 3), ia Z a_t_taken 4 t_taken] [(0, .ref a_t), (1, .int v1_1), (2, .int v2_1)] 4 [] := by
  intro f
  induction f with
  | zero =>
    intro v1_1 v2_1 v1_2 v2_2 hm K
    cases hm
  | succ f ih =>
    intro v1_1 v2_1 v1_2 v2_2 hm K
    have hm : B_Cutter_replacedInTaken_4 F t_best_replaced t_taken t_takenCount (L_Cutter_replacedInTaken_4 F t_best_replaced t_taken t_takenCount f) v1_1 v2_1 = some (v1_2, v2_2) := hm
    unfold B_Cutter_replacedInTaken_4 at hm
    refine rw_iload_n (pc := 4) 2 rfl rfl (rx_dt dt_Cutter_replacedInTaken 4 rfl) ?_
    refine rw_aload_n (pc := 5) 0 rfl rfl (rx_dt dt_Cutter_replacedInTaken 5 rfl) ?_
    refine rw_get fa_Cutter_55 (pc := 6) 0 rfl rfl (rx_dt dt_Cutter_replacedInTaken 6 rfl) ?_
    rcases ite_some hm with ⟨hc, hm⟩ | ⟨hc, hm⟩
    · refine rw_icmp_ge_t (pc := 9) (tgt := 29) hc (by decide) (rx_dt dt_Cutter_replacedInTaken 7 rfl) ?_
      refine rw_perm (lv' := [(1, .int v1_1)]) (ws' := [ob a_t 3 [.int t_effort, .ref a_t_bytes, .ref a_t_matches, .ref a_t_joiner, .ref a_t_row, .ref a_t_prices, .ref a_t_lengthTaken, .ref a_t_hand, .ref a_t_trial, .ref a_t_best, .ref a_t_taken, .int t_takenCount], ra4 Z a_t_best a_t_best_0 a_t_best_1 a_t_best_2 a_t_best_3, ob a_t_best_0 0 [.ref a_t_best_0_token, .int (t_best_from 0), .int (t_best_to 0), .int (t_best_kind 0), .int (t_best_bits 0), .int (t_best_size 0), .int (t_best_matches 0), .int (t_best_replaced 0), .int (t_best_bitsToEnd 0)], ia Z a_t_best_0_token 512 (t_best_token 0), ob a_t_best_1 0 [.ref a_t_best_1_token, .int (t_best_from 1), .int (t_best_to 1), .int (t_best_kind 1), .int (t_best_bits 1), .int (t_best_size 1), .int (t_best_matches 1), .int (t_best_replaced 1), .int (t_best_bitsToEnd 1)], ia Z a_t_best_1_token 384 (t_best_token 1), ob a_t_best_2 0 [.ref a_t_best_2_token, .int (t_best_from 2), .int (t_best_to 2), .int (t_best_kind 2), .int (t_best_bits 2), .int (t_best_size 2), .int (t_best_matches 2), .int (t_best_replaced 2), .int (t_best_bitsToEnd 2)], ia Z a_t_best_2_token 256 (t_best_token 2), ob a_t_best_3 0 [.ref a_t_best_3_token, .int (t_best_from 3), .int (t_best_to 3), .int (t_best_kind 3), .int (t_best_bits 3), .int (t_best_size 3), .int (t_best_matches 3), .int (t_best_replaced 3), .int (t_best_bitsToEnd 3)], ia Z a_t_best_3_token 128 (t_best_token 3), ia Z a_t_taken 4 t_taken]) [1] [0, 1, 2, 3, 4, 5, 6, 7, 8, 9, 10] rfl rfl rfl ?_
      cases hm
      exact K
    · refine rw_icmp_ge_f (pc := 9) (tgt := 29) hc (by decide) (rx_dt dt_Cutter_replacedInTaken 7 rfl) ?_
      refine rw_iload_n (pc := 12) 1 rfl rfl (rx_dt dt_Cutter_replacedInTaken 8 rfl) ?_
      refine rw_aload_n (pc := 13) 0 rfl rfl (rx_dt dt_Cutter_replacedInTaken 9 rfl) ?_
      refine rw_iload_n (pc := 14) 2 rfl rfl (rx_dt dt_Cutter_replacedInTaken 10 rfl) ?_
      obtain ⟨j1, hq, hm⟩ := bnd1_some hm
      obtain ⟨hlj1, hm⟩ := chk_some hm
      have hlj1 : j1 < 4 := of_decide_eq_true hlj1
      refine rw_callV cw_Cutter_takenBlock lk_Cutter_80 ci_Cutter_takenBlock rfl (q := 0) rfl (c_Cutter_takenBlock l Z F (a_t := a_t) (a_t_best := a_t_best) (a_t_best_0 := a_t_best_0) (a_t_best_0_token := a_t_best_0_token) (a_t_best_1 := a_t_best_1) (a_t_best_1_token := a_t_best_1_token) (a_t_best_2 := a_t_best_2) (a_t_best_2_token := a_t_best_2_token) (a_t_best_3 := a_t_best_3) (a_t_best_3_token := a_t_best_3_token) (a_t_bytes := a_t_bytes) (a_t_hand := a_t_hand) (a_t_joiner := a_t_joiner) (a_t_lengthTaken := a_t_lengthTaken) (a_t_matches := a_t_matches) (a_t_prices := a_t_prices) (a_t_row := a_t_row) (a_t_taken := a_t_taken) (a_t_trial := a_t_trial) (t_best_bits := t_best_bits) (t_best_bitsToEnd := t_best_bitsToEnd) (t_best_from := t_best_from) (t_best_kind := t_best_kind) (t_best_matches := t_best_matches) (t_best_replaced := t_best_replaced) (t_best_size := t_best_size) (t_best_to := t_best_to) (t_best_token := t_best_token) (t_effort := t_effort) (t_taken := t_taken) (t_takenCount := t_takenCount) (x1 := v2_1) (r0 := j1) hq) [0, 1, 2, 3, 4, 5, 6, 7, 8, 9, 10] [] rfl rfl rfl rfl (by decide) rfl (by decide) (fun h => h) (rest := [.int v1_1]) (wr := []) (Nat.le_of_ble_eq_true rfl) rfl (rx_dt dt_Cutter_replacedInTaken 11 rfl) (pc := 15) ?_
      rintro _ _ ⟨rfl, rfl⟩
      show J_Cutter_replacedInTaken l Z mc ms post k n [ob a_t 3 [.int t_effort, .ref a_t_bytes, .ref a_t_matches, .ref a_t_joiner, .ref a_t_row, .ref a_t_prices, .ref a_t_lengthTaken, .ref a_t_hand, .ref a_t_trial, .ref a_t_best, .ref a_t_taken, .int t_takenCount], ra4 Z a_t_best a_t_best_0 a_t_best_1 a_t_best_2 a_t_best_3, ob a_t_best_0 0 [.ref a_t_best_0_token, .int (t_best_from 0), .int (t_best_to 0), .int (t_best_kind 0), .int (t_best_bits 0), .int (t_best_size 0), .int (t_best_matches 0), .int (t_best_replaced 0), .int (t_best_bitsToEnd 0)], ia Z a_t_best_0_token 512 (t_best_token 0), ob a_t_best_1 0 [.ref a_t_best_1_token, .int (t_best_from 1), .int (t_best_to 1), .int (t_best_kind 1), .int (t_best_bits 1), .int (t_best_size 1), .int (t_best_matches 1), .int (t_best_replaced 1), .int (t_best_bitsToEnd 1)], ia Z a_t_best_1_token 384 (t_best_token 1), ob a_t_best_2 0 [.ref a_t_best_2_token, .int (t_best_from 2), .int (t_best_to 2), .int (t_best_kind 2), .int (t_best_bits 2), .int (t_best_size 2), .int (t_best_matches 2), .int (t_best_replaced 2), .int (t_best_bitsToEnd 2)], ia Z a_t_best_2_token 256 (t_best_token 2), ob a_t_best_3 0 [.ref a_t_best_3_token, .int (t_best_from 3), .int (t_best_to 3), .int (t_best_kind 3), .int (t_best_bits 3), .int (t_best_size 3), .int (t_best_matches 3), .int (t_best_replaced 3), .int (t_best_bitsToEnd 3)], ia Z a_t_best_3_token 128 (t_best_token 3), ia Z a_t_taken 4 t_taken] [(0, .ref a_t), (1, .int v1_1), (2, .int v2_1)] 18 [.ref (b4 j1 a_t_best_0 a_t_best_1 a_t_best_2 a_t_best_3), .int v1_1]
      refine rw_getD fa_Cutter_84 (pc := 18) (V := t_best_replaced) 2 4 6 8 rfl rfl rfl rfl rfl rfl rfl rfl hlj1 (rx_dt dt_Cutter_replacedInTaken 12 rfl) ?_
      refine rw_iadd (pc := 21) (rx_dt dt_Cutter_replacedInTaken 13 rfl) ?_
      obtain ⟨y1, hy1, hm⟩ := nm_some hm
      refine rw_nm hy1 ?_
      refine rw_istore_n (pc := 22) (lv' := [(1, .int y1), (0, .ref a_t), (2, .int v2_1)]) rfl (by decide) rfl (rx_dt dt_Cutter_replacedInTaken 14 rfl) ?_
      obtain ⟨y2, hy2, hm⟩ := nm_some hm
      refine rw_iinc (pc := 23) (lv' := [(2, .int y2), (1, .int y1), (0, .ref a_t)]) 2 rfl hy2 (by decide) rfl (rx_dt dt_Cutter_replacedInTaken 15 rfl) ?_
      refine rw_goto (pc := 26) (tgt := 4) (by decide) (rx_dt dt_Cutter_replacedInTaken 16 rfl) ?_
      refine rw_perm (lv' := [(0, .ref a_t), (1, .int y1), (2, .int y2)]) (ws' := [ob a_t 3 [.int t_effort, .ref a_t_bytes, .ref a_t_matches, .ref a_t_joiner, .ref a_t_row, .ref a_t_prices, .ref a_t_lengthTaken, .ref a_t_hand, .ref a_t_trial, .ref a_t_best, .ref a_t_taken, .int t_takenCount], ra4 Z a_t_best a_t_best_0 a_t_best_1 a_t_best_2 a_t_best_3, ob a_t_best_0 0 [.ref a_t_best_0_token, .int (t_best_from 0), .int (t_best_to 0), .int (t_best_kind 0), .int (t_best_bits 0), .int (t_best_size 0), .int (t_best_matches 0), .int (t_best_replaced 0), .int (t_best_bitsToEnd 0)], ia Z a_t_best_0_token 512 (t_best_token 0), ob a_t_best_1 0 [.ref a_t_best_1_token, .int (t_best_from 1), .int (t_best_to 1), .int (t_best_kind 1), .int (t_best_bits 1), .int (t_best_size 1), .int (t_best_matches 1), .int (t_best_replaced 1), .int (t_best_bitsToEnd 1)], ia Z a_t_best_1_token 384 (t_best_token 1), ob a_t_best_2 0 [.ref a_t_best_2_token, .int (t_best_from 2), .int (t_best_to 2), .int (t_best_kind 2), .int (t_best_bits 2), .int (t_best_size 2), .int (t_best_matches 2), .int (t_best_replaced 2), .int (t_best_bitsToEnd 2)], ia Z a_t_best_2_token 256 (t_best_token 2), ob a_t_best_3 0 [.ref a_t_best_3_token, .int (t_best_from 3), .int (t_best_to 3), .int (t_best_kind 3), .int (t_best_bits 3), .int (t_best_size 3), .int (t_best_matches 3), .int (t_best_replaced 3), .int (t_best_bitsToEnd 3)], ia Z a_t_best_3_token 128 (t_best_token 3), ia Z a_t_taken 4 t_taken]) [2, 1, 0] [0, 1, 2, 3, 4, 5, 6, 7, 8, 9, 10] rfl rfl rfl ?_
      exact ih  _ _ _ _ hm K
set_option maxRecDepth 100000 in
set_option maxHeartbeats 4000000 in
theorem w_Cutter_replacedInTaken (l : Launch) (Z : rx_D) (mc ms : Nat) (post : Option Value → va_W → Prop) (k n : Nat) (F : Nat) (a_t a_t_best a_t_best_0 a_t_best_0_token a_t_best_1 a_t_best_1_token a_t_best_2 a_t_best_2_token a_t_best_3 a_t_best_3_token a_t_bytes a_t_hand a_t_joiner a_t_lengthTaken a_t_matches a_t_prices a_t_row a_t_taken a_t_trial : Nat) (t_best_bits t_best_bitsToEnd t_best_from t_best_kind t_best_matches t_best_replaced t_best_size t_best_to : Nat → Int32) (t_best_token : Nat → Nat → Int32) (t_effort : Int32) (t_taken : Nat → Int32) (t_takenCount : Int32) (r0 : Int32) (hm : m_Cutter_replacedInTaken F t_best_replaced t_taken t_takenCount = some r0) (hp : post (some (.int r0)) [ob a_t 3 [.int t_effort, .ref a_t_bytes, .ref a_t_matches, .ref a_t_joiner, .ref a_t_row, .ref a_t_prices, .ref a_t_lengthTaken, .ref a_t_hand, .ref a_t_trial, .ref a_t_best, .ref a_t_taken, .int t_takenCount], ra4 Z a_t_best a_t_best_0 a_t_best_1 a_t_best_2 a_t_best_3, ob a_t_best_0 0 [.ref a_t_best_0_token, .int (t_best_from 0), .int (t_best_to 0), .int (t_best_kind 0), .int (t_best_bits 0), .int (t_best_size 0), .int (t_best_matches 0), .int (t_best_replaced 0), .int (t_best_bitsToEnd 0)], ia Z a_t_best_0_token 512 (t_best_token 0), ob a_t_best_1 0 [.ref a_t_best_1_token, .int (t_best_from 1), .int (t_best_to 1), .int (t_best_kind 1), .int (t_best_bits 1), .int (t_best_size 1), .int (t_best_matches 1), .int (t_best_replaced 1), .int (t_best_bitsToEnd 1)], ia Z a_t_best_1_token 384 (t_best_token 1), ob a_t_best_2 0 [.ref a_t_best_2_token, .int (t_best_from 2), .int (t_best_to 2), .int (t_best_kind 2), .int (t_best_bits 2), .int (t_best_size 2), .int (t_best_matches 2), .int (t_best_replaced 2), .int (t_best_bitsToEnd 2)], ia Z a_t_best_2_token 256 (t_best_token 2), ob a_t_best_3 0 [.ref a_t_best_3_token, .int (t_best_from 3), .int (t_best_to 3), .int (t_best_kind 3), .int (t_best_bits 3), .int (t_best_size 3), .int (t_best_matches 3), .int (t_best_replaced 3), .int (t_best_bitsToEnd 3)], ia Z a_t_best_3_token 128 (t_best_token 3), ia Z a_t_taken 4 t_taken]) : J_Cutter_replacedInTaken l Z mc ms post k n [ob a_t 3 [.int t_effort, .ref a_t_bytes, .ref a_t_matches, .ref a_t_joiner, .ref a_t_row, .ref a_t_prices, .ref a_t_lengthTaken, .ref a_t_hand, .ref a_t_trial, .ref a_t_best, .ref a_t_taken, .int t_takenCount], ra4 Z a_t_best a_t_best_0 a_t_best_1 a_t_best_2 a_t_best_3, ob a_t_best_0 0 [.ref a_t_best_0_token, .int (t_best_from 0), .int (t_best_to 0), .int (t_best_kind 0), .int (t_best_bits 0), .int (t_best_size 0), .int (t_best_matches 0), .int (t_best_replaced 0), .int (t_best_bitsToEnd 0)], ia Z a_t_best_0_token 512 (t_best_token 0), ob a_t_best_1 0 [.ref a_t_best_1_token, .int (t_best_from 1), .int (t_best_to 1), .int (t_best_kind 1), .int (t_best_bits 1), .int (t_best_size 1), .int (t_best_matches 1), .int (t_best_replaced 1), .int (t_best_bitsToEnd 1)], ia Z a_t_best_1_token 384 (t_best_token 1), ob a_t_best_2 0 [.ref a_t_best_2_token, .int (t_best_from 2), .int (t_best_to 2), .int (t_best_kind 2), .int (t_best_bits 2), .int (t_best_size 2), .int (t_best_matches 2), .int (t_best_replaced 2), .int (t_best_bitsToEnd 2)], ia Z a_t_best_2_token 256 (t_best_token 2), ob a_t_best_3 0 [.ref a_t_best_3_token, .int (t_best_from 3), .int (t_best_to 3), .int (t_best_kind 3), .int (t_best_bits 3), .int (t_best_size 3), .int (t_best_matches 3), .int (t_best_replaced 3), .int (t_best_bitsToEnd 3)], ia Z a_t_best_3_token 128 (t_best_token 3), ia Z a_t_taken 4 t_taken] [(0, .ref a_t)] 0 [] := by
  unfold m_Cutter_replacedInTaken at hm
  refine rw_iconst (pc := 0) (v := 0) rfl (rx_dt dt_Cutter_replacedInTaken 0 rfl) ?_
  refine rw_istore_n (pc := 1) (lv' := [(1, .int (0 : Int32)), (0, .ref a_t)]) rfl (by decide) rfl (rx_dt dt_Cutter_replacedInTaken 1 rfl) ?_
  refine rw_iconst (pc := 2) (v := 0) rfl (rx_dt dt_Cutter_replacedInTaken 2 rfl) ?_
  refine rw_istore_n (pc := 3) (lv' := [(2, .int (0 : Int32)), (1, .int (0 : Int32)), (0, .ref a_t)]) rfl (by decide) rfl (rx_dt dt_Cutter_replacedInTaken 3 rfl) ?_
  obtain ⟨v1_3, v2_3, hl, hm⟩ := bnd2_some hm
  refine rw_perm (lv' := [(0, .ref a_t), (1, .int (0 : Int32)), (2, .int (0 : Int32))]) (ws' := [ob a_t 3 [.int t_effort, .ref a_t_bytes, .ref a_t_matches, .ref a_t_joiner, .ref a_t_row, .ref a_t_prices, .ref a_t_lengthTaken, .ref a_t_hand, .ref a_t_trial, .ref a_t_best, .ref a_t_taken, .int t_takenCount], ra4 Z a_t_best a_t_best_0 a_t_best_1 a_t_best_2 a_t_best_3, ob a_t_best_0 0 [.ref a_t_best_0_token, .int (t_best_from 0), .int (t_best_to 0), .int (t_best_kind 0), .int (t_best_bits 0), .int (t_best_size 0), .int (t_best_matches 0), .int (t_best_replaced 0), .int (t_best_bitsToEnd 0)], ia Z a_t_best_0_token 512 (t_best_token 0), ob a_t_best_1 0 [.ref a_t_best_1_token, .int (t_best_from 1), .int (t_best_to 1), .int (t_best_kind 1), .int (t_best_bits 1), .int (t_best_size 1), .int (t_best_matches 1), .int (t_best_replaced 1), .int (t_best_bitsToEnd 1)], ia Z a_t_best_1_token 384 (t_best_token 1), ob a_t_best_2 0 [.ref a_t_best_2_token, .int (t_best_from 2), .int (t_best_to 2), .int (t_best_kind 2), .int (t_best_bits 2), .int (t_best_size 2), .int (t_best_matches 2), .int (t_best_replaced 2), .int (t_best_bitsToEnd 2)], ia Z a_t_best_2_token 256 (t_best_token 2), ob a_t_best_3 0 [.ref a_t_best_3_token, .int (t_best_from 3), .int (t_best_to 3), .int (t_best_kind 3), .int (t_best_bits 3), .int (t_best_size 3), .int (t_best_matches 3), .int (t_best_replaced 3), .int (t_best_bitsToEnd 3)], ia Z a_t_best_3_token 128 (t_best_token 3), ia Z a_t_taken 4 t_taken]) [2, 1, 0] [0, 1, 2, 3, 4, 5, 6, 7, 8, 9, 10] rfl rfl rfl ?_
  refine wl_Cutter_replacedInTaken_4 l Z mc ms post k n F a_t a_t_best a_t_best_0 a_t_best_0_token a_t_best_1 a_t_best_1_token a_t_best_2 a_t_best_2_token a_t_best_3 a_t_best_3_token a_t_bytes a_t_hand a_t_joiner a_t_lengthTaken a_t_matches a_t_prices a_t_row a_t_taken a_t_trial t_best_bits t_best_bitsToEnd t_best_from t_best_kind t_best_matches t_best_replaced t_best_size t_best_to t_best_token t_effort t_taken t_takenCount F  (0 : Int32) (0 : Int32) v1_3 v2_3 hl ?_
  refine rw_iload_n (pc := 29) 0 rfl rfl (rx_dt dt_Cutter_replacedInTaken 17 rfl) ?_
  refine rw_perm (lv' := []) (ws' := [ob a_t 3 [.int t_effort, .ref a_t_bytes, .ref a_t_matches, .ref a_t_joiner, .ref a_t_row, .ref a_t_prices, .ref a_t_lengthTaken, .ref a_t_hand, .ref a_t_trial, .ref a_t_best, .ref a_t_taken, .int t_takenCount], ra4 Z a_t_best a_t_best_0 a_t_best_1 a_t_best_2 a_t_best_3, ob a_t_best_0 0 [.ref a_t_best_0_token, .int (t_best_from 0), .int (t_best_to 0), .int (t_best_kind 0), .int (t_best_bits 0), .int (t_best_size 0), .int (t_best_matches 0), .int (t_best_replaced 0), .int (t_best_bitsToEnd 0)], ia Z a_t_best_0_token 512 (t_best_token 0), ob a_t_best_1 0 [.ref a_t_best_1_token, .int (t_best_from 1), .int (t_best_to 1), .int (t_best_kind 1), .int (t_best_bits 1), .int (t_best_size 1), .int (t_best_matches 1), .int (t_best_replaced 1), .int (t_best_bitsToEnd 1)], ia Z a_t_best_1_token 384 (t_best_token 1), ob a_t_best_2 0 [.ref a_t_best_2_token, .int (t_best_from 2), .int (t_best_to 2), .int (t_best_kind 2), .int (t_best_bits 2), .int (t_best_size 2), .int (t_best_matches 2), .int (t_best_replaced 2), .int (t_best_bitsToEnd 2)], ia Z a_t_best_2_token 256 (t_best_token 2), ob a_t_best_3 0 [.ref a_t_best_3_token, .int (t_best_from 3), .int (t_best_to 3), .int (t_best_kind 3), .int (t_best_bits 3), .int (t_best_size 3), .int (t_best_matches 3), .int (t_best_replaced 3), .int (t_best_bitsToEnd 3)], ia Z a_t_best_3_token 128 (t_best_token 3), ia Z a_t_taken 4 t_taken]) [] [0, 1, 2, 3, 4, 5, 6, 7, 8, 9, 10] rfl rfl rfl ?_
  cases hm
  exact rw_iret (pc := 30) (rx_dt dt_Cutter_replacedInTaken 18 rfl) hp
theorem c_Cutter_replacedInTaken (l : Launch) (Z : rx_D) (F : Nat) (a_t a_t_best a_t_best_0 a_t_best_0_token a_t_best_1 a_t_best_1_token a_t_best_2 a_t_best_2_token a_t_best_3 a_t_best_3_token a_t_bytes a_t_hand a_t_joiner a_t_lengthTaken a_t_matches a_t_prices a_t_row a_t_taken a_t_trial : Nat) (t_best_bits t_best_bitsToEnd t_best_from t_best_kind t_best_matches t_best_replaced t_best_size t_best_to : Nat → Int32) (t_best_token : Nat → Nat → Int32) (t_effort : Int32) (t_taken : Nat → Int32) (t_takenCount : Int32) (r0 : Int32) (hm : m_Cutter_replacedInTaken F t_best_replaced t_taken t_takenCount = some r0) : Cn l Z y_Cutter_replacedInTaken b_Cutter_replacedInTaken 3 (some .int) 1 [.ref a_t] [ob a_t 3 [.int t_effort, .ref a_t_bytes, .ref a_t_matches, .ref a_t_joiner, .ref a_t_row, .ref a_t_prices, .ref a_t_lengthTaken, .ref a_t_hand, .ref a_t_trial, .ref a_t_best, .ref a_t_taken, .int t_takenCount], ra4 Z a_t_best a_t_best_0 a_t_best_1 a_t_best_2 a_t_best_3, ob a_t_best_0 0 [.ref a_t_best_0_token, .int (t_best_from 0), .int (t_best_to 0), .int (t_best_kind 0), .int (t_best_bits 0), .int (t_best_size 0), .int (t_best_matches 0), .int (t_best_replaced 0), .int (t_best_bitsToEnd 0)], ia Z a_t_best_0_token 512 (t_best_token 0), ob a_t_best_1 0 [.ref a_t_best_1_token, .int (t_best_from 1), .int (t_best_to 1), .int (t_best_kind 1), .int (t_best_bits 1), .int (t_best_size 1), .int (t_best_matches 1), .int (t_best_replaced 1), .int (t_best_bitsToEnd 1)], ia Z a_t_best_1_token 384 (t_best_token 1), ob a_t_best_2 0 [.ref a_t_best_2_token, .int (t_best_from 2), .int (t_best_to 2), .int (t_best_kind 2), .int (t_best_bits 2), .int (t_best_size 2), .int (t_best_matches 2), .int (t_best_replaced 2), .int (t_best_bitsToEnd 2)], ia Z a_t_best_2_token 256 (t_best_token 2), ob a_t_best_3 0 [.ref a_t_best_3_token, .int (t_best_from 3), .int (t_best_to 3), .int (t_best_kind 3), .int (t_best_bits 3), .int (t_best_size 3), .int (t_best_matches 3), .int (t_best_replaced 3), .int (t_best_bitsToEnd 3)], ia Z a_t_best_3_token 128 (t_best_token 3), ia Z a_t_taken 4 t_taken] 0 0 (fun r w => r = (some (.int r0)) ∧ w = [ob a_t 3 [.int t_effort, .ref a_t_bytes, .ref a_t_matches, .ref a_t_joiner, .ref a_t_row, .ref a_t_prices, .ref a_t_lengthTaken, .ref a_t_hand, .ref a_t_trial, .ref a_t_best, .ref a_t_taken, .int t_takenCount], ra4 Z a_t_best a_t_best_0 a_t_best_1 a_t_best_2 a_t_best_3, ob a_t_best_0 0 [.ref a_t_best_0_token, .int (t_best_from 0), .int (t_best_to 0), .int (t_best_kind 0), .int (t_best_bits 0), .int (t_best_size 0), .int (t_best_matches 0), .int (t_best_replaced 0), .int (t_best_bitsToEnd 0)], ia Z a_t_best_0_token 512 (t_best_token 0), ob a_t_best_1 0 [.ref a_t_best_1_token, .int (t_best_from 1), .int (t_best_to 1), .int (t_best_kind 1), .int (t_best_bits 1), .int (t_best_size 1), .int (t_best_matches 1), .int (t_best_replaced 1), .int (t_best_bitsToEnd 1)], ia Z a_t_best_1_token 384 (t_best_token 1), ob a_t_best_2 0 [.ref a_t_best_2_token, .int (t_best_from 2), .int (t_best_to 2), .int (t_best_kind 2), .int (t_best_bits 2), .int (t_best_size 2), .int (t_best_matches 2), .int (t_best_replaced 2), .int (t_best_bitsToEnd 2)], ia Z a_t_best_2_token 256 (t_best_token 2), ob a_t_best_3 0 [.ref a_t_best_3_token, .int (t_best_from 3), .int (t_best_to 3), .int (t_best_kind 3), .int (t_best_bits 3), .int (t_best_size 3), .int (t_best_matches 3), .int (t_best_replaced 3), .int (t_best_bitsToEnd 3)], ia Z a_t_best_3_token 128 (t_best_token 3), ia Z a_t_taken 4 t_taken]) :=
  rx_met "DeflateEffort$Cutter" "replacedInTaken" mf_Cutter_replacedInTaken (Nat.le_of_ble_eq_true rfl) rfl (by rintro _ _ ⟨h9, _⟩; cases h9) (w_Cutter_replacedInTaken l Z 0 0 _ 0 0 F a_t a_t_best a_t_best_0 a_t_best_0_token a_t_best_1 a_t_best_1_token a_t_best_2 a_t_best_2_token a_t_best_3 a_t_best_3_token a_t_bytes a_t_hand a_t_joiner a_t_lengthTaken a_t_matches a_t_prices a_t_row a_t_taken a_t_trial t_best_bits t_best_bitsToEnd t_best_from t_best_kind t_best_matches t_best_replaced t_best_size t_best_to t_best_token t_effort t_taken t_takenCount r0 hm ⟨rfl, rfl⟩)
abbrev J_Matches_link (l : Launch) (Z : rx_D) (mc ms : Nat) (post : Option Value → va_W → Prop) := Rw l Z "DeflateEffort$Matches" "link" b_Matches_link 4 none 1 mc ms post
set_option maxRecDepth 100000 in
set_option maxHeartbeats 4000000 in
theorem wl_Matches_link_15 (l : Launch) (Z : rx_D) (mc ms : Nat) (post : Option Value → va_W → Prop) (k n : Nat) (F : Nat) (a_t a_t_below a_t_bucket a_t_bytes a_t_found : Nat) (t_bytes : Nat → Int32) (x1 : Int32) : ∀ (f : Nat)  (v2_1 : Int32) (t_below1 t_bucket2 : Nat → Int32) (v2_2 : Int32) (t_below2 t_bucket3 : Nat → Int32), L_Matches_link_15 F t_bytes x1 f v2_1 t_below1 t_bucket2 = some (v2_2, t_below2, t_bucket3) → (J_Matches_link l Z mc ms post k n [ob a_t 6 [.ref a_t_bytes, .ref a_t_bucket, .ref a_t_below, .ref a_t_found, .int (0 : Int32)], ia Z a_t_below 512 t_below2, ia Z a_t_bucket 256 t_bucket3, ia Z a_t_bytes 512 t_bytes] [] 82 []) → J_Matches_link l Z mc ms post k n [ob a_t 6 [.ref a_t_bytes, .ref a_t_bucket, .ref a_t_below, .ref a_t_found, .int (0 : Int32)], ia Z a_t_below 512 t_below1, ia Z a_t_bucket 256 t_bucket2, ia Z a_t_bytes 512 t_bytes] [(0, .ref a_t), (1, .int x1), (2, .int v2_1)] 15 [] := by
  intro f
  induction f with
  | zero =>
    intro v2_1 t_below1 t_bucket2 v2_2 t_below2 t_bucket3 hm K
    cases hm
  | succ f ih =>
    intro v2_1 t_below1 t_bucket2 v2_2 t_below2 t_bucket3 hm K
    have hm : B_Matches_link_15 F t_bytes x1 (L_Matches_link_15 F t_bytes x1 f) v2_1 t_below1 t_bucket2 = some (v2_2, t_below2, t_bucket3) := hm
    unfold B_Matches_link_15 at hm
    refine rw_iload_n (pc := 15) 2 rfl rfl (rx_dt dt_Matches_link 9 rfl) ?_
    refine rw_iconst (pc := 16) (v := 2) rfl (rx_dt dt_Matches_link 10 rfl) ?_
    refine rw_iadd (pc := 17) (rx_dt dt_Matches_link 11 rfl) ?_
    refine rw_iload_n (pc := 18) 1 rfl rfl (rx_dt dt_Matches_link 12 rfl) ?_
    rcases ite_some hm with ⟨hc, hm⟩ | ⟨hc, hm⟩
    · refine rw_icmp_ge_t (pc := 19) (tgt := 82) hc (by decide) (rx_dt dt_Matches_link 13 rfl) ?_
      refine rw_perm (lv' := []) (ws' := [ob a_t 6 [.ref a_t_bytes, .ref a_t_bucket, .ref a_t_below, .ref a_t_found, .int (0 : Int32)], ia Z a_t_below 512 t_below1, ia Z a_t_bucket 256 t_bucket2, ia Z a_t_bytes 512 t_bytes]) [] [0, 1, 2, 3] rfl rfl rfl ?_
      cases hm
      exact K
    · refine rw_icmp_ge_f (pc := 19) (tgt := 82) hc (by decide) (rx_dt dt_Matches_link 13 rfl) ?_
      refine rw_aload_n (pc := 22) 0 rfl rfl (rx_dt dt_Matches_link 14 rfl) ?_
      refine rw_get fa_Matches_25 (pc := 23) 0 rfl rfl (rx_dt dt_Matches_link 15 rfl) ?_
      refine rw_iload_n (pc := 26) 2 rfl rfl (rx_dt dt_Matches_link 16 rfl) ?_
      obtain ⟨hk1, hm⟩ := chk_some hm
      refine rw_iald (pc := 27) 3 rfl hk1 (rx_dt dt_Matches_link 17 rfl) ?_
      refine rw_bipush (pc := 28) (v := 37) (by decide) (rx_dt dt_Matches_link 18 rfl) ?_
      refine rw_imul (pc := 30) (rx_dt dt_Matches_link 19 rfl) ?_
      refine rw_aload_n (pc := 31) 0 rfl rfl (rx_dt dt_Matches_link 20 rfl) ?_
      refine rw_get fa_Matches_25 (pc := 32) 0 rfl rfl (rx_dt dt_Matches_link 21 rfl) ?_
      refine rw_iload_n (pc := 35) 2 rfl rfl (rx_dt dt_Matches_link 22 rfl) ?_
      refine rw_iconst (pc := 36) (v := 1) rfl (rx_dt dt_Matches_link 23 rfl) ?_
      refine rw_iadd (pc := 37) (rx_dt dt_Matches_link 24 rfl) ?_
      obtain ⟨hk2, hm⟩ := chk_some hm
      refine rw_iald (pc := 38) 3 rfl hk2 (rx_dt dt_Matches_link 25 rfl) ?_
      refine rw_bipush (pc := 39) (v := 101) (by decide) (rx_dt dt_Matches_link 26 rfl) ?_
      refine rw_imul (pc := 41) (rx_dt dt_Matches_link 27 rfl) ?_
      refine rw_iadd (pc := 42) (rx_dt dt_Matches_link 28 rfl) ?_
      refine rw_aload_n (pc := 43) 0 rfl rfl (rx_dt dt_Matches_link 29 rfl) ?_
      refine rw_get fa_Matches_25 (pc := 44) 0 rfl rfl (rx_dt dt_Matches_link 30 rfl) ?_
      refine rw_iload_n (pc := 47) 2 rfl rfl (rx_dt dt_Matches_link 31 rfl) ?_
      refine rw_iconst (pc := 48) (v := 2) rfl (rx_dt dt_Matches_link 32 rfl) ?_
      refine rw_iadd (pc := 49) (rx_dt dt_Matches_link 33 rfl) ?_
      obtain ⟨hk3, hm⟩ := chk_some hm
      refine rw_iald (pc := 50) 3 rfl hk3 (rx_dt dt_Matches_link 34 rfl) ?_
      refine rw_iadd (pc := 51) (rx_dt dt_Matches_link 35 rfl) ?_
      refine rw_sipush (pc := 52) (v := 255) (by decide) (rx_dt dt_Matches_link 36 rfl) ?_
      refine rw_iand (pc := 55) (rx_dt dt_Matches_link 37 rfl) ?_
      obtain ⟨y1, hy1, hm⟩ := nm_some hm
      refine rw_nm hy1 ?_
      refine rw_istore_n (pc := 56) (lv' := [(3, .int y1), (0, .ref a_t), (1, .int x1), (2, .int v2_1)]) rfl (by decide) rfl (rx_dt dt_Matches_link 38 rfl) ?_
      refine rw_aload_n (pc := 57) 1 rfl rfl (rx_dt dt_Matches_link 39 rfl) ?_
      refine rw_get fa_Matches_15 (pc := 58) 0 rfl rfl (rx_dt dt_Matches_link 40 rfl) ?_
      refine rw_iload_n (pc := 61) 3 rfl rfl (rx_dt dt_Matches_link 41 rfl) ?_
      refine rw_aload_n (pc := 62) 1 rfl rfl (rx_dt dt_Matches_link 42 rfl) ?_
      refine rw_get fa_Matches_11 (pc := 63) 0 rfl rfl (rx_dt dt_Matches_link 43 rfl) ?_
      refine rw_iload_n (pc := 66) 0 rfl rfl (rx_dt dt_Matches_link 44 rfl) ?_
      obtain ⟨hk4, hm⟩ := chk_some hm
      refine rw_iald (pc := 67) 2 rfl hk4 (rx_dt dt_Matches_link 45 rfl) ?_
      obtain ⟨hk5, hm⟩ := chk_some hm
      obtain ⟨t_below3, ht_below3, hm⟩ := nm_some hm
      refine rw_iast (pc := 68) (ws' := [ob a_t 6 [.ref a_t_bytes, .ref a_t_bucket, .ref a_t_below, .ref a_t_found, .int (0 : Int32)], ia Z a_t_below 512 t_below3, ia Z a_t_bucket 256 t_bucket2, ia Z a_t_bytes 512 t_bytes]) 1 rfl hk5 (by rw [← ht_below3]; rfl) (rx_dt dt_Matches_link 46 rfl) ?_
      refine rw_aload_n (pc := 69) 1 rfl rfl (rx_dt dt_Matches_link 47 rfl) ?_
      refine rw_get fa_Matches_11 (pc := 70) 0 rfl rfl (rx_dt dt_Matches_link 48 rfl) ?_
      refine rw_iload_n (pc := 73) 0 rfl rfl (rx_dt dt_Matches_link 49 rfl) ?_
      refine rw_iload_n (pc := 74) 3 rfl rfl (rx_dt dt_Matches_link 50 rfl) ?_
      obtain ⟨hk6, hm⟩ := chk_some hm
      obtain ⟨t_bucket4, ht_bucket4, hm⟩ := nm_some hm
      refine rw_iast (pc := 75) (ws' := [ob a_t 6 [.ref a_t_bytes, .ref a_t_bucket, .ref a_t_below, .ref a_t_found, .int (0 : Int32)], ia Z a_t_below 512 t_below3, ia Z a_t_bucket 256 t_bucket4, ia Z a_t_bytes 512 t_bytes]) 2 rfl hk6 (by rw [← ht_bucket4]; rfl) (rx_dt dt_Matches_link 51 rfl) ?_
      obtain ⟨y2, hy2, hm⟩ := nm_some hm
      refine rw_iinc (pc := 76) (lv' := [(2, .int y2), (3, .int y1), (0, .ref a_t), (1, .int x1)]) 3 rfl hy2 (by decide) rfl (rx_dt dt_Matches_link 52 rfl) ?_
      refine rw_goto (pc := 79) (tgt := 15) (by decide) (rx_dt dt_Matches_link 53 rfl) ?_
      refine rw_perm (lv' := [(0, .ref a_t), (1, .int x1), (2, .int y2)]) (ws' := [ob a_t 6 [.ref a_t_bytes, .ref a_t_bucket, .ref a_t_below, .ref a_t_found, .int (0 : Int32)], ia Z a_t_below 512 t_below3, ia Z a_t_bucket 256 t_bucket4, ia Z a_t_bytes 512 t_bytes]) [2, 3, 0] [0, 1, 2, 3] rfl rfl rfl ?_
      exact ih  _ _ _ _ _ _ hm K
set_option maxRecDepth 100000 in
set_option maxHeartbeats 4000000 in
theorem w_Matches_link (l : Launch) (Z : rx_D) (mc ms : Nat) (post : Option Value → va_W → Prop) (k n : Nat) (F : Nat) (a_t a_t_below a_t_bucket a_t_bytes a_t_found : Nat) (t_below t_bucket t_bytes : Nat → Int32) (t_steps x1 : Int32) (o_t_steps : Int32) (o_t_below o_t_bucket : Nat → Int32) (hm : m_Matches_link F t_below t_bucket t_bytes x1 = some (o_t_steps, o_t_below, o_t_bucket)) (hp : post none [ob a_t 6 [.ref a_t_bytes, .ref a_t_bucket, .ref a_t_below, .ref a_t_found, .int o_t_steps], ia Z a_t_below 512 o_t_below, ia Z a_t_bucket 256 o_t_bucket, ia Z a_t_bytes 512 t_bytes]) : J_Matches_link l Z mc ms post k n [ob a_t 6 [.ref a_t_bytes, .ref a_t_bucket, .ref a_t_below, .ref a_t_found, .int t_steps], ia Z a_t_below 512 t_below, ia Z a_t_bucket 256 t_bucket, ia Z a_t_bytes 512 t_bytes] [(0, .ref a_t), (1, .int x1)] 0 [] := by
  unfold m_Matches_link at hm
  refine rw_aload_n (pc := 0) 0 rfl rfl (rx_dt dt_Matches_link 0 rfl) ?_
  refine rw_iconst (pc := 1) (v := 0) rfl (rx_dt dt_Matches_link 1 rfl) ?_
  refine rw_put fa_Matches_21 (pc := 2) (ws' := [ob a_t 6 [.ref a_t_bytes, .ref a_t_bucket, .ref a_t_below, .ref a_t_found, .int (0 : Int32)], ia Z a_t_below 512 t_below, ia Z a_t_bucket 256 t_bucket, ia Z a_t_bytes 512 t_bytes]) 0 rfl rfl rfl (Nat.le_of_ble_eq_true rfl) rfl (rx_dt dt_Matches_link 2 rfl) ?_
  refine rw_aload_n (pc := 5) 0 rfl rfl (rx_dt dt_Matches_link 3 rfl) ?_
  refine rw_get fa_Matches_11 (pc := 6) 0 rfl rfl (rx_dt dt_Matches_link 4 rfl) ?_
  refine rw_iconst (pc := 9) (v := -1) rfl (rx_dt dt_Matches_link 5 rfl) ?_
  obtain ⟨t_bucket1, hq, hm⟩ := bnd1_some hm
  refine rw_callS cw_JA_fill2 lk_Matches_28 cs_JA_fill2 (c_JA_fill2 l Z F (a_p0 := a_t_bucket) (n_p0 := 256) (p0 := t_bucket) (x1 := (-1 : Int32)) (o_p0 := t_bucket1) hq) [2] [0, 1, 3] rfl rfl rfl rfl (by decide) rfl (by decide) (fun h => h) (rest := []) (wr := [ob a_t 6 [.ref a_t_bytes, .ref a_t_bucket, .ref a_t_below, .ref a_t_found, .int (0 : Int32)], ia Z a_t_below 512 t_below, ia Z a_t_bytes 512 t_bytes]) (Nat.le_of_ble_eq_true rfl) rfl (rx_dt dt_Matches_link 6 rfl) (pc := 10) ?_
  rintro _ _ ⟨rfl, rfl⟩
  show J_Matches_link l Z mc ms post k n [ob a_t 6 [.ref a_t_bytes, .ref a_t_bucket, .ref a_t_below, .ref a_t_found, .int (0 : Int32)], ia Z a_t_below 512 t_below, ia Z a_t_bytes 512 t_bytes, ia Z a_t_bucket 256 t_bucket1] [(0, .ref a_t), (1, .int x1)] 13 []
  refine rw_iconst (pc := 13) (v := 0) rfl (rx_dt dt_Matches_link 7 rfl) ?_
  refine rw_istore_n (pc := 14) (lv' := [(2, .int (0 : Int32)), (0, .ref a_t), (1, .int x1)]) rfl (by decide) rfl (rx_dt dt_Matches_link 8 rfl) ?_
  obtain ⟨v2_3, t_below4, t_bucket5, hl, hm⟩ := bnd3_some hm
  refine rw_perm (lv' := [(0, .ref a_t), (1, .int x1), (2, .int (0 : Int32))]) (ws' := [ob a_t 6 [.ref a_t_bytes, .ref a_t_bucket, .ref a_t_below, .ref a_t_found, .int (0 : Int32)], ia Z a_t_below 512 t_below, ia Z a_t_bucket 256 t_bucket1, ia Z a_t_bytes 512 t_bytes]) [1, 2, 0] [0, 1, 3, 2] rfl rfl rfl ?_
  refine wl_Matches_link_15 l Z mc ms post k n F a_t a_t_below a_t_bucket a_t_bytes a_t_found t_bytes x1 F  (0 : Int32) t_below t_bucket1 v2_3 t_below4 t_bucket5 hl ?_
  cases hm
  exact rw_vret (pc := 82) (rx_dt dt_Matches_link 54 rfl) hp
theorem c_Matches_link (l : Launch) (Z : rx_D) (F : Nat) (a_t a_t_below a_t_bucket a_t_bytes a_t_found : Nat) (t_below t_bucket t_bytes : Nat → Int32) (t_steps x1 : Int32) (o_t_steps : Int32) (o_t_below o_t_bucket : Nat → Int32) (hm : m_Matches_link F t_below t_bucket t_bytes x1 = some (o_t_steps, o_t_below, o_t_bucket)) : Cn l Z y_Matches_link b_Matches_link 4 none 1 [.ref a_t, .int x1] [ob a_t 6 [.ref a_t_bytes, .ref a_t_bucket, .ref a_t_below, .ref a_t_found, .int t_steps], ia Z a_t_below 512 t_below, ia Z a_t_bucket 256 t_bucket, ia Z a_t_bytes 512 t_bytes] 0 0 (fun r w => r = none ∧ w = [ob a_t 6 [.ref a_t_bytes, .ref a_t_bucket, .ref a_t_below, .ref a_t_found, .int o_t_steps], ia Z a_t_below 512 o_t_below, ia Z a_t_bucket 256 o_t_bucket, ia Z a_t_bytes 512 t_bytes]) :=
  rx_met "DeflateEffort$Matches" "link" mf_Matches_link (Nat.le_of_ble_eq_true rfl) rfl (by rintro _ _ ⟨h9, _⟩; cases h9) (w_Matches_link l Z 0 0 _ 0 0 F a_t a_t_below a_t_bucket a_t_bytes a_t_found t_below t_bucket t_bytes t_steps x1 o_t_steps o_t_below o_t_bucket hm ⟨rfl, rfl⟩)
abbrev J_Plan_restart (l : Launch) (Z : rx_D) (mc ms : Nat) (post : Option Value → va_W → Prop) := Rw l Z "DeflateEffort$Plan" "restart" b_Plan_restart 1 none 1 mc ms post
set_option maxRecDepth 100000 in
set_option maxHeartbeats 4000000 in
theorem w_Plan_restart (l : Launch) (Z : rx_D) (mc ms : Nat) (post : Option Value → va_W → Prop) (k n : Nat) (F : Nat) (a_t a_t_distances a_t_distances_count a_t_distances_length a_t_literals a_t_literals_count a_t_literals_length a_t_token : Nat) (t_bits : Int32) (t_distances_count : Nat → Int32) (t_kind : Int32) (t_literals_count : Nat → Int32) (t_matches t_size : Int32) (o_t_size o_t_matches : Int32) (o_t_distances_count o_t_literals_count : Nat → Int32) (hm : m_Plan_restart F t_distances_count t_literals_count = some (o_t_size, o_t_matches, o_t_distances_count, o_t_literals_count)) (hp : post none [ob a_t 7 [.ref a_t_token, .int o_t_size, .int o_t_matches, .ref a_t_literals, .ref a_t_distances, .int t_kind, .int t_bits], ob a_t_distances 1 [.ref a_t_distances_count, .ref a_t_distances_length], ia Z a_t_distances_count 30 o_t_distances_count, ob a_t_literals 1 [.ref a_t_literals_count, .ref a_t_literals_length], ia Z a_t_literals_count 286 o_t_literals_count]) : J_Plan_restart l Z mc ms post k n [ob a_t 7 [.ref a_t_token, .int t_size, .int t_matches, .ref a_t_literals, .ref a_t_distances, .int t_kind, .int t_bits], ob a_t_distances 1 [.ref a_t_distances_count, .ref a_t_distances_length], ia Z a_t_distances_count 30 t_distances_count, ob a_t_literals 1 [.ref a_t_literals_count, .ref a_t_literals_length], ia Z a_t_literals_count 286 t_literals_count] [(0, .ref a_t)] 0 [] := by
  unfold m_Plan_restart at hm
  refine rw_aload_n (pc := 0) 0 rfl rfl (rx_dt dt_Plan_restart 0 rfl) ?_
  refine rw_iconst (pc := 1) (v := 0) rfl (rx_dt dt_Plan_restart 1 rfl) ?_
  refine rw_put fa_Plan_15 (pc := 2) (ws' := [ob a_t 7 [.ref a_t_token, .int (0 : Int32), .int t_matches, .ref a_t_literals, .ref a_t_distances, .int t_kind, .int t_bits], ob a_t_distances 1 [.ref a_t_distances_count, .ref a_t_distances_length], ia Z a_t_distances_count 30 t_distances_count, ob a_t_literals 1 [.ref a_t_literals_count, .ref a_t_literals_length], ia Z a_t_literals_count 286 t_literals_count]) 0 rfl rfl rfl (Nat.le_of_ble_eq_true rfl) rfl (rx_dt dt_Plan_restart 2 rfl) ?_
  refine rw_aload_n (pc := 5) 0 rfl rfl (rx_dt dt_Plan_restart 3 rfl) ?_
  refine rw_iconst (pc := 6) (v := 0) rfl (rx_dt dt_Plan_restart 4 rfl) ?_
  refine rw_put fa_Plan_19 (pc := 7) (ws' := [ob a_t 7 [.ref a_t_token, .int (0 : Int32), .int (0 : Int32), .ref a_t_literals, .ref a_t_distances, .int t_kind, .int t_bits], ob a_t_distances 1 [.ref a_t_distances_count, .ref a_t_distances_length], ia Z a_t_distances_count 30 t_distances_count, ob a_t_literals 1 [.ref a_t_literals_count, .ref a_t_literals_length], ia Z a_t_literals_count 286 t_literals_count]) 0 rfl rfl rfl (Nat.le_of_ble_eq_true rfl) rfl (rx_dt dt_Plan_restart 5 rfl) ?_
  refine rw_aload_n (pc := 10) 0 rfl rfl (rx_dt dt_Plan_restart 6 rfl) ?_
  refine rw_get fa_Plan_27 (pc := 11) 0 rfl rfl (rx_dt dt_Plan_restart 7 rfl) ?_
  refine rw_get fa_Plan_40 (pc := 14) 3 rfl rfl (rx_dt dt_Plan_restart 8 rfl) ?_
  refine rw_iconst (pc := 17) (v := 0) rfl (rx_dt dt_Plan_restart 9 rfl) ?_
  obtain ⟨t_literals_count1, hq, hm⟩ := bnd1_some hm
  refine rw_callS cw_JA_fill2 lk_Plan_43 cs_JA_fill2 (c_JA_fill2 l Z F (a_p0 := a_t_literals_count) (n_p0 := 286) (p0 := t_literals_count) (x1 := (0 : Int32)) (o_p0 := t_literals_count1) hq) [4] [0, 1, 2, 3] rfl rfl rfl rfl (by decide) rfl (by decide) (fun h => h) (rest := []) (wr := [ob a_t 7 [.ref a_t_token, .int (0 : Int32), .int (0 : Int32), .ref a_t_literals, .ref a_t_distances, .int t_kind, .int t_bits], ob a_t_distances 1 [.ref a_t_distances_count, .ref a_t_distances_length], ia Z a_t_distances_count 30 t_distances_count, ob a_t_literals 1 [.ref a_t_literals_count, .ref a_t_literals_length]]) (Nat.le_of_ble_eq_true rfl) rfl (rx_dt dt_Plan_restart 10 rfl) (pc := 18) ?_
  rintro _ _ ⟨rfl, rfl⟩
  show J_Plan_restart l Z mc ms post k n [ob a_t 7 [.ref a_t_token, .int (0 : Int32), .int (0 : Int32), .ref a_t_literals, .ref a_t_distances, .int t_kind, .int t_bits], ob a_t_distances 1 [.ref a_t_distances_count, .ref a_t_distances_length], ia Z a_t_distances_count 30 t_distances_count, ob a_t_literals 1 [.ref a_t_literals_count, .ref a_t_literals_length], ia Z a_t_literals_count 286 t_literals_count1] [(0, .ref a_t)] 21 []
  refine rw_aload_n (pc := 21) 0 rfl rfl (rx_dt dt_Plan_restart 11 rfl) ?_
  refine rw_get fa_Plan_31 (pc := 22) 0 rfl rfl (rx_dt dt_Plan_restart 12 rfl) ?_
  refine rw_get fa_Plan_40 (pc := 25) 1 rfl rfl (rx_dt dt_Plan_restart 13 rfl) ?_
  refine rw_iconst (pc := 28) (v := 0) rfl (rx_dt dt_Plan_restart 14 rfl) ?_
  obtain ⟨t_distances_count1, hq, hm⟩ := bnd1_some hm
  refine rw_callS cw_JA_fill2 lk_Plan_43 cs_JA_fill2 (c_JA_fill2 l Z F (a_p0 := a_t_distances_count) (n_p0 := 30) (p0 := t_distances_count) (x1 := (0 : Int32)) (o_p0 := t_distances_count1) hq) [2] [0, 1, 3, 4] rfl rfl rfl rfl (by decide) rfl (by decide) (fun h => h) (rest := []) (wr := [ob a_t 7 [.ref a_t_token, .int (0 : Int32), .int (0 : Int32), .ref a_t_literals, .ref a_t_distances, .int t_kind, .int t_bits], ob a_t_distances 1 [.ref a_t_distances_count, .ref a_t_distances_length], ob a_t_literals 1 [.ref a_t_literals_count, .ref a_t_literals_length], ia Z a_t_literals_count 286 t_literals_count1]) (Nat.le_of_ble_eq_true rfl) rfl (rx_dt dt_Plan_restart 15 rfl) (pc := 29) ?_
  rintro _ _ ⟨rfl, rfl⟩
  show J_Plan_restart l Z mc ms post k n [ob a_t 7 [.ref a_t_token, .int (0 : Int32), .int (0 : Int32), .ref a_t_literals, .ref a_t_distances, .int t_kind, .int t_bits], ob a_t_distances 1 [.ref a_t_distances_count, .ref a_t_distances_length], ob a_t_literals 1 [.ref a_t_literals_count, .ref a_t_literals_length], ia Z a_t_literals_count 286 t_literals_count1, ia Z a_t_distances_count 30 t_distances_count1] [(0, .ref a_t)] 32 []
  refine rw_aload_n (pc := 32) 0 rfl rfl (rx_dt dt_Plan_restart 16 rfl) ?_
  refine rw_get fa_Plan_27 (pc := 33) 0 rfl rfl (rx_dt dt_Plan_restart 17 rfl) ?_
  refine rw_get fa_Plan_40 (pc := 36) 2 rfl rfl (rx_dt dt_Plan_restart 18 rfl) ?_
  refine rw_sipush (pc := 39) (v := 256) (by decide) (rx_dt dt_Plan_restart 19 rfl) ?_
  refine rw_iconst (pc := 42) (v := 1) rfl (rx_dt dt_Plan_restart 20 rfl) ?_
  obtain ⟨hk1, hm⟩ := chk_some hm
  obtain ⟨t_literals_count2, ht_literals_count2, hm⟩ := nm_some hm
  refine rw_iast (pc := 43) (ws' := [ob a_t 7 [.ref a_t_token, .int (0 : Int32), .int (0 : Int32), .ref a_t_literals, .ref a_t_distances, .int t_kind, .int t_bits], ob a_t_distances 1 [.ref a_t_distances_count, .ref a_t_distances_length], ob a_t_literals 1 [.ref a_t_literals_count, .ref a_t_literals_length], ia Z a_t_literals_count 286 t_literals_count2, ia Z a_t_distances_count 30 t_distances_count1]) 3 rfl hk1 (by rw [← ht_literals_count2]; rfl) (rx_dt dt_Plan_restart 21 rfl) ?_
  refine rw_perm (lv' := []) (ws' := [ob a_t 7 [.ref a_t_token, .int (0 : Int32), .int (0 : Int32), .ref a_t_literals, .ref a_t_distances, .int t_kind, .int t_bits], ob a_t_distances 1 [.ref a_t_distances_count, .ref a_t_distances_length], ia Z a_t_distances_count 30 t_distances_count1, ob a_t_literals 1 [.ref a_t_literals_count, .ref a_t_literals_length], ia Z a_t_literals_count 286 t_literals_count2]) [] [0, 1, 4, 2, 3] rfl rfl rfl ?_
  cases hm
  exact rw_vret (pc := 44) (rx_dt dt_Plan_restart 22 rfl) hp
theorem c_Plan_restart (l : Launch) (Z : rx_D) (F : Nat) (a_t a_t_distances a_t_distances_count a_t_distances_length a_t_literals a_t_literals_count a_t_literals_length a_t_token : Nat) (t_bits : Int32) (t_distances_count : Nat → Int32) (t_kind : Int32) (t_literals_count : Nat → Int32) (t_matches t_size : Int32) (o_t_size o_t_matches : Int32) (o_t_distances_count o_t_literals_count : Nat → Int32) (hm : m_Plan_restart F t_distances_count t_literals_count = some (o_t_size, o_t_matches, o_t_distances_count, o_t_literals_count)) : Cn l Z y_Plan_restart b_Plan_restart 1 none 1 [.ref a_t] [ob a_t 7 [.ref a_t_token, .int t_size, .int t_matches, .ref a_t_literals, .ref a_t_distances, .int t_kind, .int t_bits], ob a_t_distances 1 [.ref a_t_distances_count, .ref a_t_distances_length], ia Z a_t_distances_count 30 t_distances_count, ob a_t_literals 1 [.ref a_t_literals_count, .ref a_t_literals_length], ia Z a_t_literals_count 286 t_literals_count] 0 0 (fun r w => r = none ∧ w = [ob a_t 7 [.ref a_t_token, .int o_t_size, .int o_t_matches, .ref a_t_literals, .ref a_t_distances, .int t_kind, .int t_bits], ob a_t_distances 1 [.ref a_t_distances_count, .ref a_t_distances_length], ia Z a_t_distances_count 30 o_t_distances_count, ob a_t_literals 1 [.ref a_t_literals_count, .ref a_t_literals_length], ia Z a_t_literals_count 286 o_t_literals_count]) :=
  rx_met "DeflateEffort$Plan" "restart" mf_Plan_restart (Nat.le_of_ble_eq_true rfl) rfl (by rintro _ _ ⟨h9, _⟩; cases h9) (w_Plan_restart l Z 0 0 _ 0 0 F a_t a_t_distances a_t_distances_count a_t_distances_length a_t_literals a_t_literals_count a_t_literals_length a_t_token t_bits t_distances_count t_kind t_literals_count t_matches t_size o_t_size o_t_matches o_t_distances_count o_t_literals_count hm ⟨rfl, rfl⟩)
abbrev J_Plan_weighStored (l : Launch) (Z : rx_D) (mc ms : Nat) (post : Option Value → va_W → Prop) := Rw l Z "DeflateEffort$Plan" "weighStored" b_Plan_weighStored 2 none 0 mc ms post
set_option maxRecDepth 100000 in
set_option maxHeartbeats 4000000 in
theorem w_Plan_weighStored (l : Launch) (Z : rx_D) (mc ms : Nat) (post : Option Value → va_W → Prop) (k n : Nat) (F : Nat) (a_t a_t_distances a_t_literals a_t_token : Nat) (t_bits t_kind t_matches t_size x1 : Int32) (o_t_kind o_t_bits : Int32) (hm : m_Plan_weighStored F x1 = some (o_t_kind, o_t_bits)) (hp : post none [ob a_t 7 [.ref a_t_token, .int t_size, .int t_matches, .ref a_t_literals, .ref a_t_distances, .int o_t_kind, .int o_t_bits]]) : J_Plan_weighStored l Z mc ms post k n [ob a_t 7 [.ref a_t_token, .int t_size, .int t_matches, .ref a_t_literals, .ref a_t_distances, .int t_kind, .int t_bits]] [(0, .ref a_t), (1, .int x1)] 0 [] := by
  unfold m_Plan_weighStored at hm
  refine rw_aload_n (pc := 0) 0 rfl rfl (rx_dt dt_Plan_weighStored 0 rfl) ?_
  refine rw_iconst (pc := 1) (v := 0) rfl (rx_dt dt_Plan_weighStored 1 rfl) ?_
  refine rw_put fa_Plan_34 (pc := 2) (ws' := [ob a_t 7 [.ref a_t_token, .int t_size, .int t_matches, .ref a_t_literals, .ref a_t_distances, .int (0 : Int32), .int t_bits]]) 0 rfl rfl rfl (Nat.le_of_ble_eq_true rfl) rfl (rx_dt dt_Plan_weighStored 2 rfl) ?_
  refine rw_aload_n (pc := 5) 0 rfl rfl (rx_dt dt_Plan_weighStored 3 rfl) ?_
  refine rw_bipush (pc := 6) (v := 42) (by decide) (rx_dt dt_Plan_weighStored 4 rfl) ?_
  refine rw_bipush (pc := 8) (v := 8) (by decide) (rx_dt dt_Plan_weighStored 5 rfl) ?_
  refine rw_iload_n (pc := 10) 1 rfl rfl (rx_dt dt_Plan_weighStored 6 rfl) ?_
  refine rw_imul (pc := 11) (rx_dt dt_Plan_weighStored 7 rfl) ?_
  refine rw_iadd (pc := 12) (rx_dt dt_Plan_weighStored 8 rfl) ?_
  obtain ⟨y1, hy1, hm⟩ := nm_some hm
  refine rw_nm hy1 ?_
  refine rw_put fa_Plan_37 (pc := 13) (ws' := [ob a_t 7 [.ref a_t_token, .int t_size, .int t_matches, .ref a_t_literals, .ref a_t_distances, .int (0 : Int32), .int y1]]) 0 rfl rfl rfl (Nat.le_of_ble_eq_true rfl) rfl (rx_dt dt_Plan_weighStored 9 rfl) ?_
  refine rw_perm (lv' := []) (ws' := [ob a_t 7 [.ref a_t_token, .int t_size, .int t_matches, .ref a_t_literals, .ref a_t_distances, .int (0 : Int32), .int y1]]) [] [0] rfl rfl rfl ?_
  cases hm
  exact rw_vret (pc := 16) (rx_dt dt_Plan_weighStored 10 rfl) hp
theorem c_Plan_weighStored (l : Launch) (Z : rx_D) (F : Nat) (a_t a_t_distances a_t_literals a_t_token : Nat) (t_bits t_kind t_matches t_size x1 : Int32) (o_t_kind o_t_bits : Int32) (hm : m_Plan_weighStored F x1 = some (o_t_kind, o_t_bits)) : Cn l Z y_Plan_weighStored b_Plan_weighStored 2 none 0 [.ref a_t, .int x1] [ob a_t 7 [.ref a_t_token, .int t_size, .int t_matches, .ref a_t_literals, .ref a_t_distances, .int t_kind, .int t_bits]] 0 0 (fun r w => r = none ∧ w = [ob a_t 7 [.ref a_t_token, .int t_size, .int t_matches, .ref a_t_literals, .ref a_t_distances, .int o_t_kind, .int o_t_bits]]) :=
  rx_met "DeflateEffort$Plan" "weighStored" mf_Plan_weighStored (Nat.le_of_ble_eq_true rfl) rfl (by rintro _ _ ⟨h9, _⟩; cases h9) (w_Plan_weighStored l Z 0 0 _ 0 0 F a_t a_t_distances a_t_literals a_t_token t_bits t_kind t_matches t_size x1 o_t_kind o_t_bits hm ⟨rfl, rfl⟩)
abbrev J_Matches_sameThree (l : Launch) (Z : rx_D) (mc ms : Nat) (post : Option Value → va_W → Prop) := Rw l Z "DeflateEffort$Matches" "sameThree" b_Matches_sameThree 3 (some .boolean) 0 mc ms post
set_option maxRecDepth 100000 in
set_option maxHeartbeats 4000000 in
theorem w_Matches_sameThree (l : Launch) (Z : rx_D) (mc ms : Nat) (post : Option Value → va_W → Prop) (k n : Nat) (F : Nat) (a_t a_t_below a_t_bucket a_t_bytes a_t_found : Nat) (t_bytes : Nat → Int32) (t_steps x1 x2 : Int32) (r0 : Int32) (hm : m_Matches_sameThree F t_bytes x1 x2 = some r0) (hp : post (some (.int r0)) [ob a_t 6 [.ref a_t_bytes, .ref a_t_bucket, .ref a_t_below, .ref a_t_found, .int t_steps], ia Z a_t_bytes 512 t_bytes]) : J_Matches_sameThree l Z mc ms post k n [ob a_t 6 [.ref a_t_bytes, .ref a_t_bucket, .ref a_t_below, .ref a_t_found, .int t_steps], ia Z a_t_bytes 512 t_bytes] [(0, .ref a_t), (1, .int x1), (2, .int x2)] 0 [] := by
  unfold m_Matches_sameThree at hm
  refine rw_aload_n (pc := 0) 0 rfl rfl (rx_dt dt_Matches_sameThree 0 rfl) ?_
  refine rw_get fa_Matches_25 (pc := 1) 0 rfl rfl (rx_dt dt_Matches_sameThree 1 rfl) ?_
  refine rw_iload_n (pc := 4) 1 rfl rfl (rx_dt dt_Matches_sameThree 2 rfl) ?_
  obtain ⟨hk1, hm⟩ := chk_some hm
  refine rw_iald (pc := 5) 1 rfl hk1 (rx_dt dt_Matches_sameThree 3 rfl) ?_
  refine rw_aload_n (pc := 6) 0 rfl rfl (rx_dt dt_Matches_sameThree 4 rfl) ?_
  refine rw_get fa_Matches_25 (pc := 7) 0 rfl rfl (rx_dt dt_Matches_sameThree 5 rfl) ?_
  refine rw_iload_n (pc := 10) 2 rfl rfl (rx_dt dt_Matches_sameThree 6 rfl) ?_
  obtain ⟨hk2, hm⟩ := chk_some hm
  refine rw_iald (pc := 11) 1 rfl hk2 (rx_dt dt_Matches_sameThree 7 rfl) ?_
  rcases ite_some hm with ⟨hc, hm⟩ | ⟨hc, hm⟩
  · refine rw_icmp_ne_f (pc := 12) (tgt := 57) hc (by decide) (rx_dt dt_Matches_sameThree 8 rfl) ?_
    refine rw_aload_n (pc := 15) 0 rfl rfl (rx_dt dt_Matches_sameThree 9 rfl) ?_
    refine rw_get fa_Matches_25 (pc := 16) 0 rfl rfl (rx_dt dt_Matches_sameThree 10 rfl) ?_
    refine rw_iload_n (pc := 19) 1 rfl rfl (rx_dt dt_Matches_sameThree 11 rfl) ?_
    refine rw_iconst (pc := 20) (v := 1) rfl (rx_dt dt_Matches_sameThree 12 rfl) ?_
    refine rw_iadd (pc := 21) (rx_dt dt_Matches_sameThree 13 rfl) ?_
    obtain ⟨hk3, hm⟩ := chk_some hm
    refine rw_iald (pc := 22) 1 rfl hk3 (rx_dt dt_Matches_sameThree 14 rfl) ?_
    refine rw_aload_n (pc := 23) 0 rfl rfl (rx_dt dt_Matches_sameThree 15 rfl) ?_
    refine rw_get fa_Matches_25 (pc := 24) 0 rfl rfl (rx_dt dt_Matches_sameThree 16 rfl) ?_
    refine rw_iload_n (pc := 27) 2 rfl rfl (rx_dt dt_Matches_sameThree 17 rfl) ?_
    refine rw_iconst (pc := 28) (v := 1) rfl (rx_dt dt_Matches_sameThree 18 rfl) ?_
    refine rw_iadd (pc := 29) (rx_dt dt_Matches_sameThree 19 rfl) ?_
    obtain ⟨hk4, hm⟩ := chk_some hm
    refine rw_iald (pc := 30) 1 rfl hk4 (rx_dt dt_Matches_sameThree 20 rfl) ?_
    rcases ite_some hm with ⟨hc, hm⟩ | ⟨hc, hm⟩
    · refine rw_icmp_ne_f (pc := 31) (tgt := 57) hc (by decide) (rx_dt dt_Matches_sameThree 21 rfl) ?_
      refine rw_aload_n (pc := 34) 0 rfl rfl (rx_dt dt_Matches_sameThree 22 rfl) ?_
      refine rw_get fa_Matches_25 (pc := 35) 0 rfl rfl (rx_dt dt_Matches_sameThree 23 rfl) ?_
      refine rw_iload_n (pc := 38) 1 rfl rfl (rx_dt dt_Matches_sameThree 24 rfl) ?_
      refine rw_iconst (pc := 39) (v := 2) rfl (rx_dt dt_Matches_sameThree 25 rfl) ?_
      refine rw_iadd (pc := 40) (rx_dt dt_Matches_sameThree 26 rfl) ?_
      obtain ⟨hk5, hm⟩ := chk_some hm
      refine rw_iald (pc := 41) 1 rfl hk5 (rx_dt dt_Matches_sameThree 27 rfl) ?_
      refine rw_aload_n (pc := 42) 0 rfl rfl (rx_dt dt_Matches_sameThree 28 rfl) ?_
      refine rw_get fa_Matches_25 (pc := 43) 0 rfl rfl (rx_dt dt_Matches_sameThree 29 rfl) ?_
      refine rw_iload_n (pc := 46) 2 rfl rfl (rx_dt dt_Matches_sameThree 30 rfl) ?_
      refine rw_iconst (pc := 47) (v := 2) rfl (rx_dt dt_Matches_sameThree 31 rfl) ?_
      refine rw_iadd (pc := 48) (rx_dt dt_Matches_sameThree 32 rfl) ?_
      obtain ⟨hk6, hm⟩ := chk_some hm
      refine rw_iald (pc := 49) 1 rfl hk6 (rx_dt dt_Matches_sameThree 33 rfl) ?_
      rcases ite_some hm with ⟨hc, hm⟩ | ⟨hc, hm⟩
      · refine rw_icmp_ne_f (pc := 50) (tgt := 57) hc (by decide) (rx_dt dt_Matches_sameThree 34 rfl) ?_
        refine rw_iconst (pc := 53) (v := 1) rfl (rx_dt dt_Matches_sameThree 35 rfl) ?_
        refine rw_goto (pc := 54) (tgt := 58) (by decide) (rx_dt dt_Matches_sameThree 36 rfl) ?_
        refine rw_perm (lv' := []) (ws' := [ob a_t 6 [.ref a_t_bytes, .ref a_t_bucket, .ref a_t_below, .ref a_t_found, .int t_steps], ia Z a_t_bytes 512 t_bytes]) [] [0, 1] rfl rfl rfl ?_
        cases hm
        exact rw_zret (pc := 58) (rx_dt dt_Matches_sameThree 38 rfl) hp
      · refine rw_icmp_ne_t (pc := 50) (tgt := 57) hc (by decide) (rx_dt dt_Matches_sameThree 34 rfl) ?_
        refine rw_iconst (pc := 57) (v := 0) rfl (rx_dt dt_Matches_sameThree 37 rfl) ?_
        refine rw_perm (lv' := []) (ws' := [ob a_t 6 [.ref a_t_bytes, .ref a_t_bucket, .ref a_t_below, .ref a_t_found, .int t_steps], ia Z a_t_bytes 512 t_bytes]) [] [0, 1] rfl rfl rfl ?_
        cases hm
        exact rw_zret (pc := 58) (rx_dt dt_Matches_sameThree 38 rfl) hp
    · refine rw_icmp_ne_t (pc := 31) (tgt := 57) hc (by decide) (rx_dt dt_Matches_sameThree 21 rfl) ?_
      refine rw_iconst (pc := 57) (v := 0) rfl (rx_dt dt_Matches_sameThree 37 rfl) ?_
      refine rw_perm (lv' := []) (ws' := [ob a_t 6 [.ref a_t_bytes, .ref a_t_bucket, .ref a_t_below, .ref a_t_found, .int t_steps], ia Z a_t_bytes 512 t_bytes]) [] [0, 1] rfl rfl rfl ?_
      cases hm
      exact rw_zret (pc := 58) (rx_dt dt_Matches_sameThree 38 rfl) hp
  · refine rw_icmp_ne_t (pc := 12) (tgt := 57) hc (by decide) (rx_dt dt_Matches_sameThree 8 rfl) ?_
    refine rw_iconst (pc := 57) (v := 0) rfl (rx_dt dt_Matches_sameThree 37 rfl) ?_
    refine rw_perm (lv' := []) (ws' := [ob a_t 6 [.ref a_t_bytes, .ref a_t_bucket, .ref a_t_below, .ref a_t_found, .int t_steps], ia Z a_t_bytes 512 t_bytes]) [] [0, 1] rfl rfl rfl ?_
    cases hm
    exact rw_zret (pc := 58) (rx_dt dt_Matches_sameThree 38 rfl) hp
theorem c_Matches_sameThree (l : Launch) (Z : rx_D) (F : Nat) (a_t a_t_below a_t_bucket a_t_bytes a_t_found : Nat) (t_bytes : Nat → Int32) (t_steps x1 x2 : Int32) (r0 : Int32) (hm : m_Matches_sameThree F t_bytes x1 x2 = some r0) : Cn l Z y_Matches_sameThree b_Matches_sameThree 3 (some .boolean) 0 [.ref a_t, .int x1, .int x2] [ob a_t 6 [.ref a_t_bytes, .ref a_t_bucket, .ref a_t_below, .ref a_t_found, .int t_steps], ia Z a_t_bytes 512 t_bytes] 0 0 (fun r w => r = (some (.int r0)) ∧ w = [ob a_t 6 [.ref a_t_bytes, .ref a_t_bucket, .ref a_t_below, .ref a_t_found, .int t_steps], ia Z a_t_bytes 512 t_bytes]) :=
  rx_met "DeflateEffort$Matches" "sameThree" mf_Matches_sameThree (Nat.le_of_ble_eq_true rfl) rfl (by rintro _ _ ⟨h9, _⟩; cases h9) (w_Matches_sameThree l Z 0 0 _ 0 0 F a_t a_t_below a_t_bucket a_t_bytes a_t_found t_bytes t_steps x1 x2 r0 hm ⟨rfl, rfl⟩)
abbrev J_Matches_sameBytes (l : Launch) (Z : rx_D) (mc ms : Nat) (post : Option Value → va_W → Prop) := Rw l Z "DeflateEffort$Matches" "sameBytes" b_Matches_sameBytes 6 (some .int) 0 mc ms post
set_option maxRecDepth 100000 in
set_option maxHeartbeats 4000000 in
theorem wl_Matches_sameBytes_30 (l : Launch) (Z : rx_D) (mc ms : Nat) (post : Option Value → va_W → Prop) (k n : Nat) (F : Nat) (a_t a_t_below a_t_bucket a_t_bytes a_t_found : Nat) (t_bytes : Nat → Int32) (t_steps x1 x2 x4 : Int32) : ∀ (f : Nat)  (v5_1 : Int32) (v5_2 : Int32), L_Matches_sameBytes_30 F t_bytes x1 x2 x4 f v5_1 = some v5_2 → (J_Matches_sameBytes l Z mc ms post k n [ob a_t 6 [.ref a_t_bytes, .ref a_t_bucket, .ref a_t_below, .ref a_t_found, .int t_steps], ia Z a_t_bytes 512 t_bytes] [(5, .int v5_2)] 64 []) → J_Matches_sameBytes l Z mc ms post k n [ob a_t 6 [.ref a_t_bytes, .ref a_t_bucket, .ref a_t_below, .ref a_t_found, .int t_steps], ia Z a_t_bytes 512 t_bytes] [(0, .ref a_t), (1, .int x1), (2, .int x2), (4, .int x4), (5, .int v5_1)] 30 [] := by
  intro f
  induction f with
  | zero =>
    intro v5_1 v5_2 hm K
    cases hm
  | succ f ih =>
    intro v5_1 v5_2 hm K
    have hm : B_Matches_sameBytes_30 F t_bytes x1 x2 x4 (L_Matches_sameBytes_30 F t_bytes x1 x2 x4 f) v5_1 = some v5_2 := hm
    unfold B_Matches_sameBytes_30 at hm
    refine rw_iload (pc := 30) 4 rfl (rx_dt dt_Matches_sameBytes 20 rfl) ?_
    refine rw_iload (pc := 32) 3 rfl (rx_dt dt_Matches_sameBytes 21 rfl) ?_
    rcases ite_some hm with ⟨hc, hm⟩ | ⟨hc, hm⟩
    · refine rw_icmp_ge_t (pc := 34) (tgt := 64) hc (by decide) (rx_dt dt_Matches_sameBytes 22 rfl) ?_
      refine rw_perm (lv' := [(5, .int v5_1)]) (ws' := [ob a_t 6 [.ref a_t_bytes, .ref a_t_bucket, .ref a_t_below, .ref a_t_found, .int t_steps], ia Z a_t_bytes 512 t_bytes]) [4] [0, 1] rfl rfl rfl ?_
      cases hm
      exact K
    · refine rw_icmp_ge_f (pc := 34) (tgt := 64) hc (by decide) (rx_dt dt_Matches_sameBytes 22 rfl) ?_
      refine rw_aload_n (pc := 37) 0 rfl rfl (rx_dt dt_Matches_sameBytes 23 rfl) ?_
      refine rw_get fa_Matches_25 (pc := 38) 0 rfl rfl (rx_dt dt_Matches_sameBytes 24 rfl) ?_
      refine rw_iload_n (pc := 41) 1 rfl rfl (rx_dt dt_Matches_sameBytes 25 rfl) ?_
      refine rw_iload (pc := 42) 4 rfl (rx_dt dt_Matches_sameBytes 26 rfl) ?_
      refine rw_iadd (pc := 44) (rx_dt dt_Matches_sameBytes 27 rfl) ?_
      obtain ⟨hk3, hm⟩ := chk_some hm
      refine rw_iald (pc := 45) 1 rfl hk3 (rx_dt dt_Matches_sameBytes 28 rfl) ?_
      refine rw_aload_n (pc := 46) 0 rfl rfl (rx_dt dt_Matches_sameBytes 29 rfl) ?_
      refine rw_get fa_Matches_25 (pc := 47) 0 rfl rfl (rx_dt dt_Matches_sameBytes 30 rfl) ?_
      refine rw_iload_n (pc := 50) 2 rfl rfl (rx_dt dt_Matches_sameBytes 31 rfl) ?_
      refine rw_iload (pc := 51) 4 rfl (rx_dt dt_Matches_sameBytes 32 rfl) ?_
      refine rw_iadd (pc := 53) (rx_dt dt_Matches_sameBytes 33 rfl) ?_
      obtain ⟨hk4, hm⟩ := chk_some hm
      refine rw_iald (pc := 54) 1 rfl hk4 (rx_dt dt_Matches_sameBytes 34 rfl) ?_
      rcases ite_some hm with ⟨hc, hm⟩ | ⟨hc, hm⟩
      · refine rw_icmp_ne_f (pc := 55) (tgt := 64) hc (by decide) (rx_dt dt_Matches_sameBytes 35 rfl) ?_
        obtain ⟨y1, hy1, hm⟩ := nm_some hm
        refine rw_iinc (pc := 58) (lv' := [(5, .int y1), (0, .ref a_t), (1, .int x1), (2, .int x2), (4, .int x4)]) 4 rfl hy1 (by decide) rfl (rx_dt dt_Matches_sameBytes 36 rfl) ?_
        refine rw_goto (pc := 61) (tgt := 30) (by decide) (rx_dt dt_Matches_sameBytes 37 rfl) ?_
        refine rw_perm (lv' := [(0, .ref a_t), (1, .int x1), (2, .int x2), (4, .int x4), (5, .int y1)]) (ws' := [ob a_t 6 [.ref a_t_bytes, .ref a_t_bucket, .ref a_t_below, .ref a_t_found, .int t_steps], ia Z a_t_bytes 512 t_bytes]) [1, 2, 3, 4, 0] [0, 1] rfl rfl rfl ?_
        exact ih  _ _ hm K
      · refine rw_icmp_ne_t (pc := 55) (tgt := 64) hc (by decide) (rx_dt dt_Matches_sameBytes 35 rfl) ?_
        refine rw_perm (lv' := [(5, .int v5_1)]) (ws' := [ob a_t 6 [.ref a_t_bytes, .ref a_t_bucket, .ref a_t_below, .ref a_t_found, .int t_steps], ia Z a_t_bytes 512 t_bytes]) [4] [0, 1] rfl rfl rfl ?_
        cases hm
        exact K
set_option maxRecDepth 100000 in
set_option maxHeartbeats 4000000 in
theorem w_Matches_sameBytes (l : Launch) (Z : rx_D) (mc ms : Nat) (post : Option Value → va_W → Prop) (k n : Nat) (F : Nat) (a_t a_t_below a_t_bucket a_t_bytes a_t_found : Nat) (t_bytes : Nat → Int32) (t_steps x1 x2 x3 x4 : Int32) (r0 : Int32) (hm : m_Matches_sameBytes F t_bytes x1 x2 x3 x4 = some r0) (hp : post (some (.int r0)) [ob a_t 6 [.ref a_t_bytes, .ref a_t_bucket, .ref a_t_below, .ref a_t_found, .int t_steps], ia Z a_t_bytes 512 t_bytes]) : J_Matches_sameBytes l Z mc ms post k n [ob a_t 6 [.ref a_t_bytes, .ref a_t_bucket, .ref a_t_below, .ref a_t_found, .int t_steps], ia Z a_t_bytes 512 t_bytes] [(0, .ref a_t), (1, .int x1), (2, .int x2), (3, .int x3), (4, .int x4)] 0 [] := by
  unfold m_Matches_sameBytes at hm
  refine rw_iload_n (pc := 0) 3 rfl rfl (rx_dt dt_Matches_sameBytes 0 rfl) ?_
  refine rw_iload (pc := 1) 4 rfl (rx_dt dt_Matches_sameBytes 1 rfl) ?_
  rcases ite_some hm with ⟨hc, hm⟩ | ⟨hc, hm⟩
  · refine rw_icmp_ge_t (pc := 3) (tgt := 25) hc (by decide) (rx_dt dt_Matches_sameBytes 2 rfl) ?_
    refine rw_iconst (pc := 25) (v := 0) rfl (rx_dt dt_Matches_sameBytes 16 rfl) ?_
    refine rw_perm (lv' := []) (ws' := [ob a_t 6 [.ref a_t_bytes, .ref a_t_bucket, .ref a_t_below, .ref a_t_found, .int t_steps], ia Z a_t_bytes 512 t_bytes]) [] [0, 1] rfl rfl rfl ?_
    cases hm
    exact rw_iret (pc := 26) (rx_dt dt_Matches_sameBytes 17 rfl) hp
  · refine rw_icmp_ge_f (pc := 3) (tgt := 25) hc (by decide) (rx_dt dt_Matches_sameBytes 2 rfl) ?_
    refine rw_aload_n (pc := 6) 0 rfl rfl (rx_dt dt_Matches_sameBytes 3 rfl) ?_
    refine rw_get fa_Matches_25 (pc := 7) 0 rfl rfl (rx_dt dt_Matches_sameBytes 4 rfl) ?_
    refine rw_iload_n (pc := 10) 1 rfl rfl (rx_dt dt_Matches_sameBytes 5 rfl) ?_
    refine rw_iload_n (pc := 11) 3 rfl rfl (rx_dt dt_Matches_sameBytes 6 rfl) ?_
    refine rw_iadd (pc := 12) (rx_dt dt_Matches_sameBytes 7 rfl) ?_
    obtain ⟨hk1, hm⟩ := chk_some hm
    refine rw_iald (pc := 13) 1 rfl hk1 (rx_dt dt_Matches_sameBytes 8 rfl) ?_
    refine rw_aload_n (pc := 14) 0 rfl rfl (rx_dt dt_Matches_sameBytes 9 rfl) ?_
    refine rw_get fa_Matches_25 (pc := 15) 0 rfl rfl (rx_dt dt_Matches_sameBytes 10 rfl) ?_
    refine rw_iload_n (pc := 18) 2 rfl rfl (rx_dt dt_Matches_sameBytes 11 rfl) ?_
    refine rw_iload_n (pc := 19) 3 rfl rfl (rx_dt dt_Matches_sameBytes 12 rfl) ?_
    refine rw_iadd (pc := 20) (rx_dt dt_Matches_sameBytes 13 rfl) ?_
    obtain ⟨hk2, hm⟩ := chk_some hm
    refine rw_iald (pc := 21) 1 rfl hk2 (rx_dt dt_Matches_sameBytes 14 rfl) ?_
    rcases ite_some hm with ⟨hc, hm⟩ | ⟨hc, hm⟩
    · refine rw_icmp_eq_t (pc := 22) (tgt := 27) hc (by decide) (rx_dt dt_Matches_sameBytes 15 rfl) ?_
      refine rw_iconst (pc := 27) (v := 3) rfl (rx_dt dt_Matches_sameBytes 18 rfl) ?_
      refine rw_istore (pc := 28) (lv' := [(5, .int (3 : Int32)), (0, .ref a_t), (1, .int x1), (2, .int x2), (3, .int x3), (4, .int x4)]) (by decide) rfl (rx_dt dt_Matches_sameBytes 19 rfl) ?_
      obtain ⟨v5_3, hl, hm⟩ := bnd1_some hm
      refine rw_perm (lv' := [(0, .ref a_t), (1, .int x1), (2, .int x2), (4, .int x4), (5, .int (3 : Int32))]) (ws' := [ob a_t 6 [.ref a_t_bytes, .ref a_t_bucket, .ref a_t_below, .ref a_t_found, .int t_steps], ia Z a_t_bytes 512 t_bytes]) [1, 2, 3, 5, 0] [0, 1] rfl rfl rfl ?_
      refine wl_Matches_sameBytes_30 l Z mc ms post k n F a_t a_t_below a_t_bucket a_t_bytes a_t_found t_bytes t_steps x1 x2 x4 F  (3 : Int32) v5_3 hl ?_
      refine rw_iload (pc := 64) 0 rfl (rx_dt dt_Matches_sameBytes 38 rfl) ?_
      refine rw_perm (lv' := []) (ws' := [ob a_t 6 [.ref a_t_bytes, .ref a_t_bucket, .ref a_t_below, .ref a_t_found, .int t_steps], ia Z a_t_bytes 512 t_bytes]) [] [0, 1] rfl rfl rfl ?_
      cases hm
      exact rw_iret (pc := 66) (rx_dt dt_Matches_sameBytes 39 rfl) hp
    · refine rw_icmp_eq_f (pc := 22) (tgt := 27) hc (by decide) (rx_dt dt_Matches_sameBytes 15 rfl) ?_
      refine rw_iconst (pc := 25) (v := 0) rfl (rx_dt dt_Matches_sameBytes 16 rfl) ?_
      refine rw_perm (lv' := []) (ws' := [ob a_t 6 [.ref a_t_bytes, .ref a_t_bucket, .ref a_t_below, .ref a_t_found, .int t_steps], ia Z a_t_bytes 512 t_bytes]) [] [0, 1] rfl rfl rfl ?_
      cases hm
      exact rw_iret (pc := 26) (rx_dt dt_Matches_sameBytes 17 rfl) hp
