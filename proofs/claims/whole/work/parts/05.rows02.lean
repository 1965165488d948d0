set_option maxRecDepth 100000 in
set_option maxHeartbeats 4000000 in
theorem w_Joiner_tellDepths (l : Launch) (Z : rx_D) (mc ms : Nat) (post : Option Value → va_W → Prop) (k n : Nat) (F : Nat) (a_p1 a_t a_t_above a_t_order a_t_weight n_p1 : Nat) (p1 t_above t_order t_weight : Nat → Int32) (x2 : Int32) (o_p1 o_t_weight : Nat → Int32) (hm : m_Joiner_tellDepths F n_p1 p1 t_above t_order t_weight x2 = some (o_p1, o_t_weight)) (hp : post none [ia Z a_p1 n_p1 o_p1, ob a_t 4 [.ref a_t_order, .ref a_t_weight, .ref a_t_above], ia Z a_t_above 572 t_above, ia Z a_t_order 286 t_order, ia Z a_t_weight 572 o_t_weight]) : J_Joiner_tellDepths l Z mc ms post k n [ia Z a_p1 n_p1 p1, ob a_t 4 [.ref a_t_order, .ref a_t_weight, .ref a_t_above], ia Z a_t_above 572 t_above, ia Z a_t_order 286 t_order, ia Z a_t_weight 572 t_weight] [(0, .ref a_t), (1, .ref a_p1), (2, .int x2)] 0 [] := by
  unfold m_Joiner_tellDepths at hm
  refine rw_aload_n (pc := 0) 0 rfl rfl (rx_dt dt_Joiner_tellDepths 0 rfl) ?_
  refine rw_get fa_Joiner_15 (pc := 1) 1 rfl rfl (rx_dt dt_Joiner_tellDepths 1 rfl) ?_
  refine rw_iconst (pc := 4) (v := 2) rfl (rx_dt dt_Joiner_tellDepths 2 rfl) ?_
  refine rw_iload_n (pc := 5) 2 rfl rfl (rx_dt dt_Joiner_tellDepths 3 rfl) ?_
  refine rw_imul (pc := 6) (rx_dt dt_Joiner_tellDepths 4 rfl) ?_
  refine rw_iconst (pc := 7) (v := 2) rfl (rx_dt dt_Joiner_tellDepths 5 rfl) ?_
  refine rw_isub (pc := 8) (rx_dt dt_Joiner_tellDepths 6 rfl) ?_
  refine rw_iconst (pc := 9) (v := 0) rfl (rx_dt dt_Joiner_tellDepths 7 rfl) ?_
  obtain ⟨hk1, hm⟩ := chk_some hm
  obtain ⟨t_weight1, ht_weight1, hm⟩ := nm_some hm
  refine rw_iast (pc := 10) (ws' := [ia Z a_p1 n_p1 p1, ob a_t 4 [.ref a_t_order, .ref a_t_weight, .ref a_t_above], ia Z a_t_above 572 t_above, ia Z a_t_order 286 t_order, ia Z a_t_weight 572 t_weight1]) 4 rfl hk1 (by rw [← ht_weight1]; rfl) (rx_dt dt_Joiner_tellDepths 8 rfl) ?_
  refine rw_iconst (pc := 11) (v := 2) rfl (rx_dt dt_Joiner_tellDepths 9 rfl) ?_
  refine rw_iload_n (pc := 12) 2 rfl rfl (rx_dt dt_Joiner_tellDepths 10 rfl) ?_
  refine rw_imul (pc := 13) (rx_dt dt_Joiner_tellDepths 11 rfl) ?_
  refine rw_iconst (pc := 14) (v := 3) rfl (rx_dt dt_Joiner_tellDepths 12 rfl) ?_
  refine rw_isub (pc := 15) (rx_dt dt_Joiner_tellDepths 13 rfl) ?_
  obtain ⟨y1, hy1, hm⟩ := nm_some hm
  refine rw_nm hy1 ?_
  refine rw_istore_n (pc := 16) (lv' := [(3, .int y1), (0, .ref a_t), (1, .ref a_p1), (2, .int x2)]) rfl (by decide) rfl (rx_dt dt_Joiner_tellDepths 14 rfl) ?_
  obtain ⟨v3_3, p6, t_weight5, hl, hm⟩ := bnd3_some hm
  refine rw_perm (lv' := [(0, .ref a_t), (1, .ref a_p1), (2, .int x2), (3, .int y1)]) (ws' := [ia Z a_p1 n_p1 p1, ob a_t 4 [.ref a_t_order, .ref a_t_weight, .ref a_t_above], ia Z a_t_above 572 t_above, ia Z a_t_order 286 t_order, ia Z a_t_weight 572 t_weight1]) [1, 2, 3, 0] [0, 1, 2, 3, 4] rfl rfl rfl ?_
  refine wl_Joiner_tellDepths_17 l Z mc ms post k n F a_p1 a_t a_t_above a_t_order a_t_weight n_p1 t_above t_order x2 F  y1 p1 t_weight1 v3_3 p6 t_weight5 hl ?_
  cases hm
  exact rw_vret (pc := 65) (rx_dt dt_Joiner_tellDepths 45 rfl) hp
theorem c_Joiner_tellDepths (l : Launch) (Z : rx_D) (F : Nat) (a_p1 a_t a_t_above a_t_order a_t_weight n_p1 : Nat) (p1 t_above t_order t_weight : Nat → Int32) (x2 : Int32) (o_p1 o_t_weight : Nat → Int32) (hm : m_Joiner_tellDepths F n_p1 p1 t_above t_order t_weight x2 = some (o_p1, o_t_weight)) : Cn l Z y_Joiner_tellDepths b_Joiner_tellDepths 4 none 0 [.ref a_t, .ref a_p1, .int x2] [ia Z a_p1 n_p1 p1, ob a_t 4 [.ref a_t_order, .ref a_t_weight, .ref a_t_above], ia Z a_t_above 572 t_above, ia Z a_t_order 286 t_order, ia Z a_t_weight 572 t_weight] 0 0 (fun r w => r = none ∧ w = [ia Z a_p1 n_p1 o_p1, ob a_t 4 [.ref a_t_order, .ref a_t_weight, .ref a_t_above], ia Z a_t_above 572 t_above, ia Z a_t_order 286 t_order, ia Z a_t_weight 572 o_t_weight]) :=
  rx_met "DeflateEffort$Joiner" "tellDepths" mf_Joiner_tellDepths (Nat.le_of_ble_eq_true rfl) rfl (by rintro _ _ ⟨h9, _⟩; cases h9) (w_Joiner_tellDepths l Z 0 0 _ 0 0 F a_p1 a_t a_t_above a_t_order a_t_weight n_p1 p1 t_above t_order t_weight x2 o_p1 o_t_weight hm ⟨rfl, rfl⟩)
abbrev J_Joiner_join (l : Launch) (Z : rx_D) (mc ms : Nat) (post : Option Value → va_W → Prop) := Rw l Z "DeflateEffort$Joiner" "join" b_Joiner_join 3 none 1 mc ms post
set_option maxRecDepth 100000 in
set_option maxHeartbeats 4000000 in
theorem w_Joiner_join (l : Launch) (Z : rx_D) (mc ms : Nat) (post : Option Value → va_W → Prop) (k n : Nat) (F : Nat) (a_p1 a_p1_count a_p1_length a_t a_t_above a_t_order a_t_weight n_p1 : Nat) (p1_count p1_length t_above t_order t_weight : Nat → Int32) (o_p1_length o_t_above o_t_order o_t_weight : Nat → Int32) (hm : m_Joiner_join F n_p1 p1_count p1_length t_above t_order t_weight = some (o_p1_length, o_t_above, o_t_order, o_t_weight)) (hp : post none [ob a_p1 1 [.ref a_p1_count, .ref a_p1_length], ia Z a_p1_count n_p1 p1_count, ia Z a_p1_length n_p1 o_p1_length, ob a_t 4 [.ref a_t_order, .ref a_t_weight, .ref a_t_above], ia Z a_t_above 572 o_t_above, ia Z a_t_order 286 o_t_order, ia Z a_t_weight 572 o_t_weight]) : J_Joiner_join l Z mc ms post k n [ob a_p1 1 [.ref a_p1_count, .ref a_p1_length], ia Z a_p1_count n_p1 p1_count, ia Z a_p1_length n_p1 p1_length, ob a_t 4 [.ref a_t_order, .ref a_t_weight, .ref a_t_above], ia Z a_t_above 572 t_above, ia Z a_t_order 286 t_order, ia Z a_t_weight 572 t_weight] [(0, .ref a_t), (1, .ref a_p1)] 0 [] := by
  unfold m_Joiner_join at hm
  refine rw_aload_n (pc := 0) 1 rfl rfl (rx_dt dt_Joiner_join 0 rfl) ?_
  refine rw_get fa_Joiner_21 (pc := 1) 0 rfl rfl (rx_dt dt_Joiner_join 1 rfl) ?_
  refine rw_iconst (pc := 4) (v := 0) rfl (rx_dt dt_Joiner_join 2 rfl) ?_
  obtain ⟨p1_length1, hq, hm⟩ := bnd1_some hm
  refine rw_callS cw_JA_fill2 lk_Joiner_26 cs_JA_fill2 (c_JA_fill2 l Z F (a_p0 := a_p1_length) (n_p0 := n_p1) (p0 := p1_length) (x1 := (0 : Int32)) (o_p0 := p1_length1) hq) [2] [0, 1, 3, 4, 5, 6] rfl rfl rfl rfl (by decide) rfl (by decide) (fun h => h) (rest := []) (wr := [ob a_p1 1 [.ref a_p1_count, .ref a_p1_length], ia Z a_p1_count n_p1 p1_count, ob a_t 4 [.ref a_t_order, .ref a_t_weight, .ref a_t_above], ia Z a_t_above 572 t_above, ia Z a_t_order 286 t_order, ia Z a_t_weight 572 t_weight]) (Nat.le_of_ble_eq_true rfl) rfl (rx_dt dt_Joiner_join 3 rfl) (pc := 5) ?_
  rintro _ _ ⟨rfl, rfl⟩
  show J_Joiner_join l Z mc ms post k n [ob a_p1 1 [.ref a_p1_count, .ref a_p1_length], ia Z a_p1_count n_p1 p1_count, ob a_t 4 [.ref a_t_order, .ref a_t_weight, .ref a_t_above], ia Z a_t_above 572 t_above, ia Z a_t_order 286 t_order, ia Z a_t_weight 572 t_weight, ia Z a_p1_length n_p1 p1_length1] [(0, .ref a_t), (1, .ref a_p1)] 8 []
  refine rw_aload_n (pc := 8) 0 rfl rfl (rx_dt dt_Joiner_join 4 rfl) ?_
  refine rw_aload_n (pc := 9) 1 rfl rfl (rx_dt dt_Joiner_join 5 rfl) ?_
  refine rw_get fa_Joiner_32 (pc := 10) 0 rfl rfl (rx_dt dt_Joiner_join 6 rfl) ?_
  obtain ⟨r1, t_order1, hq, hm⟩ := bnd2_some hm
  refine rw_callV cw_Joiner_sort lk_Joiner_35 ci_Joiner_sort rfl (q := 2) rfl (c_Joiner_sort l Z F (a_p1 := a_p1_count) (a_t := a_t) (a_t_above := a_t_above) (a_t_order := a_t_order) (a_t_weight := a_t_weight) (n_p1 := n_p1) (p1 := p1_count) (t_order := t_order) (r0 := r1) (o_t_order := t_order1) hq) [1, 2, 4] [0, 3, 5, 6] rfl rfl rfl rfl (by decide) rfl (by decide) (fun h => h) (rest := []) (wr := [ob a_p1 1 [.ref a_p1_count, .ref a_p1_length], ia Z a_t_above 572 t_above, ia Z a_t_weight 572 t_weight, ia Z a_p1_length n_p1 p1_length1]) (Nat.le_of_ble_eq_true rfl) rfl (rx_dt dt_Joiner_join 7 rfl) (pc := 13) ?_
  rintro _ _ ⟨rfl, rfl⟩
  show J_Joiner_join l Z mc ms post k n [ob a_p1 1 [.ref a_p1_count, .ref a_p1_length], ia Z a_t_above 572 t_above, ia Z a_t_weight 572 t_weight, ia Z a_p1_length n_p1 p1_length1, ia Z a_p1_count n_p1 p1_count, ob a_t 4 [.ref a_t_order, .ref a_t_weight, .ref a_t_above], ia Z a_t_order 286 t_order1] [(0, .ref a_t), (1, .ref a_p1)] 16 [.int r1]
  refine rw_istore_n (pc := 16) (lv' := [(2, .int r1), (0, .ref a_t), (1, .ref a_p1)]) rfl (by decide) rfl (rx_dt dt_Joiner_join 8 rfl) ?_
  refine rw_iload_n (pc := 17) 0 rfl rfl (rx_dt dt_Joiner_join 9 rfl) ?_
  refine rw_iconst (pc := 18) (v := 1) rfl (rx_dt dt_Joiner_join 10 rfl) ?_
  obtain ⟨p1_length2, hj, hm⟩ := bnd1_some hm
  have KJ : J_Joiner_join l Z mc ms post k n [ob a_p1 1 [.ref a_p1_count, .ref a_p1_length], ia Z a_p1_count n_p1 p1_count, ia Z a_p1_length n_p1 p1_length2, ob a_t 4 [.ref a_t_order, .ref a_t_weight, .ref a_t_above], ia Z a_t_above 572 t_above, ia Z a_t_order 286 t_order1, ia Z a_t_weight 572 t_weight] [(0, .ref a_t), (1, .ref a_p1), (2, .int r1)] 34 [] := by
    refine rw_iload_n (pc := 34) 2 rfl rfl (rx_dt dt_Joiner_join 20 rfl) ?_
    refine rw_iconst (pc := 35) (v := 1) rfl (rx_dt dt_Joiner_join 21 rfl) ?_
    rcases ite_some hm with ⟨hc, hm⟩ | ⟨hc, hm⟩
    · refine rw_icmp_le_t (pc := 36) (tgt := 57) hc (by decide) (rx_dt dt_Joiner_join 22 rfl) ?_
      refine rw_perm (lv' := []) (ws' := [ob a_p1 1 [.ref a_p1_count, .ref a_p1_length], ia Z a_p1_count n_p1 p1_count, ia Z a_p1_length n_p1 p1_length2, ob a_t 4 [.ref a_t_order, .ref a_t_weight, .ref a_t_above], ia Z a_t_above 572 t_above, ia Z a_t_order 286 t_order1, ia Z a_t_weight 572 t_weight]) [] [0, 1, 2, 3, 4, 5, 6] rfl rfl rfl ?_
      cases hm
      exact rw_vret (pc := 57) (rx_dt dt_Joiner_join 33 rfl) hp
    · refine rw_icmp_le_f (pc := 36) (tgt := 57) hc (by decide) (rx_dt dt_Joiner_join 22 rfl) ?_
      refine rw_aload_n (pc := 39) 0 rfl rfl (rx_dt dt_Joiner_join 23 rfl) ?_
      refine rw_aload_n (pc := 40) 1 rfl rfl (rx_dt dt_Joiner_join 24 rfl) ?_
      refine rw_get fa_Joiner_32 (pc := 41) 0 rfl rfl (rx_dt dt_Joiner_join 25 rfl) ?_
      refine rw_iload_n (pc := 44) 2 rfl rfl (rx_dt dt_Joiner_join 26 rfl) ?_
      obtain ⟨t_above1, t_weight1, hq, hm⟩ := bnd2_some hm
      refine rw_callV cw_Joiner_joinInOrder lk_Joiner_39 ci_Joiner_joinInOrder rfl (q := 3) rfl (c_Joiner_joinInOrder l Z F (a_p1 := a_p1_count) (a_t := a_t) (a_t_above := a_t_above) (a_t_order := a_t_order) (a_t_weight := a_t_weight) (n_p1 := n_p1) (p1 := p1_count) (t_above := t_above) (t_order := t_order1) (t_weight := t_weight) (x2 := r1) (o_t_above := t_above1) (o_t_weight := t_weight1) hq) [1, 3, 4, 5, 6] [0, 2] rfl rfl rfl rfl (by decide) rfl (by decide) (fun h => h) (rest := []) (wr := [ob a_p1 1 [.ref a_p1_count, .ref a_p1_length], ia Z a_p1_length n_p1 p1_length2]) (Nat.le_of_ble_eq_true rfl) rfl (rx_dt dt_Joiner_join 27 rfl) (pc := 45) ?_
      rintro _ _ ⟨rfl, rfl⟩
      show J_Joiner_join l Z mc ms post k n [ob a_p1 1 [.ref a_p1_count, .ref a_p1_length], ia Z a_p1_length n_p1 p1_length2, ia Z a_p1_count n_p1 p1_count, ob a_t 4 [.ref a_t_order, .ref a_t_weight, .ref a_t_above], ia Z a_t_above 572 t_above1, ia Z a_t_order 286 t_order1, ia Z a_t_weight 572 t_weight1] [(0, .ref a_t), (1, .ref a_p1), (2, .int r1)] 48 []
      refine rw_aload_n (pc := 48) 0 rfl rfl (rx_dt dt_Joiner_join 28 rfl) ?_
      refine rw_aload_n (pc := 49) 1 rfl rfl (rx_dt dt_Joiner_join 29 rfl) ?_
      refine rw_get fa_Joiner_21 (pc := 50) 0 rfl rfl (rx_dt dt_Joiner_join 30 rfl) ?_
      refine rw_iload_n (pc := 53) 2 rfl rfl (rx_dt dt_Joiner_join 31 rfl) ?_
      obtain ⟨p1_length4, t_weight2, hq, hm⟩ := bnd2_some hm
      refine rw_callV cw_Joiner_tellDepths lk_Joiner_42 ci_Joiner_tellDepths rfl (q := 3) rfl (c_Joiner_tellDepths l Z F (a_p1 := a_p1_length) (a_t := a_t) (a_t_above := a_t_above) (a_t_order := a_t_order) (a_t_weight := a_t_weight) (n_p1 := n_p1) (p1 := p1_length2) (t_above := t_above1) (t_order := t_order1) (t_weight := t_weight1) (x2 := r1) (o_p1 := p1_length4) (o_t_weight := t_weight2) hq) [1, 3, 4, 5, 6] [0, 2] rfl rfl rfl rfl (by decide) rfl (by decide) (fun h => h) (rest := []) (wr := [ob a_p1 1 [.ref a_p1_count, .ref a_p1_length], ia Z a_p1_count n_p1 p1_count]) (Nat.le_of_ble_eq_true rfl) rfl (rx_dt dt_Joiner_join 32 rfl) (pc := 54) ?_
      rintro _ _ ⟨rfl, rfl⟩
      show J_Joiner_join l Z mc ms post k n [ob a_p1 1 [.ref a_p1_count, .ref a_p1_length], ia Z a_p1_count n_p1 p1_count, ia Z a_p1_length n_p1 p1_length4, ob a_t 4 [.ref a_t_order, .ref a_t_weight, .ref a_t_above], ia Z a_t_above 572 t_above1, ia Z a_t_order 286 t_order1, ia Z a_t_weight 572 t_weight2] [(0, .ref a_t), (1, .ref a_p1), (2, .int r1)] 57 []
      refine rw_perm (lv' := []) (ws' := [ob a_p1 1 [.ref a_p1_count, .ref a_p1_length], ia Z a_p1_count n_p1 p1_count, ia Z a_p1_length n_p1 p1_length4, ob a_t 4 [.ref a_t_order, .ref a_t_weight, .ref a_t_above], ia Z a_t_above 572 t_above1, ia Z a_t_order 286 t_order1, ia Z a_t_weight 572 t_weight2]) [] [0, 1, 2, 3, 4, 5, 6] rfl rfl rfl ?_
      cases hm
      exact rw_vret (pc := 57) (rx_dt dt_Joiner_join 33 rfl) hp
  clear hm
  have hm := hj
  clear hj
  rcases ite_some hm with ⟨hc, hm⟩ | ⟨hc, hm⟩
  · refine rw_icmp_ne_f (pc := 19) (tgt := 34) hc (by decide) (rx_dt dt_Joiner_join 11 rfl) ?_
    refine rw_aload_n (pc := 22) 2 rfl rfl (rx_dt dt_Joiner_join 12 rfl) ?_
    refine rw_get fa_Joiner_21 (pc := 23) 0 rfl rfl (rx_dt dt_Joiner_join 13 rfl) ?_
    refine rw_aload_n (pc := 26) 1 rfl rfl (rx_dt dt_Joiner_join 14 rfl) ?_
    refine rw_get fa_Joiner_9 (pc := 27) 5 rfl rfl (rx_dt dt_Joiner_join 15 rfl) ?_
    refine rw_iconst (pc := 30) (v := 0) rfl (rx_dt dt_Joiner_join 16 rfl) ?_
    obtain ⟨hk1, hm⟩ := chk_some hm
    refine rw_iald (pc := 31) 6 rfl hk1 (rx_dt dt_Joiner_join 17 rfl) ?_
    refine rw_iconst (pc := 32) (v := 1) rfl (rx_dt dt_Joiner_join 18 rfl) ?_
    obtain ⟨hk2, hm⟩ := chk_some hm
    obtain ⟨p1_length3, hp1_length3, hm⟩ := nm_some hm
    refine rw_iast (pc := 33) (ws' := [ob a_p1 1 [.ref a_p1_count, .ref a_p1_length], ia Z a_t_above 572 t_above, ia Z a_t_weight 572 t_weight, ia Z a_p1_length n_p1 p1_length3, ia Z a_p1_count n_p1 p1_count, ob a_t 4 [.ref a_t_order, .ref a_t_weight, .ref a_t_above], ia Z a_t_order 286 t_order1]) 3 rfl hk2 (by rw [← hp1_length3]; rfl) (rx_dt dt_Joiner_join 19 rfl) ?_
    refine rw_perm (lv' := [(0, .ref a_t), (1, .ref a_p1), (2, .int r1)]) (ws' := [ob a_p1 1 [.ref a_p1_count, .ref a_p1_length], ia Z a_p1_count n_p1 p1_count, ia Z a_p1_length n_p1 p1_length3, ob a_t 4 [.ref a_t_order, .ref a_t_weight, .ref a_t_above], ia Z a_t_above 572 t_above, ia Z a_t_order 286 t_order1, ia Z a_t_weight 572 t_weight]) [1, 2, 0] [0, 4, 3, 5, 1, 6, 2] rfl rfl rfl ?_
    cases hm
    exact KJ
  · refine rw_icmp_ne_t (pc := 19) (tgt := 34) hc (by decide) (rx_dt dt_Joiner_join 11 rfl) ?_
    refine rw_perm (lv' := [(0, .ref a_t), (1, .ref a_p1), (2, .int r1)]) (ws' := [ob a_p1 1 [.ref a_p1_count, .ref a_p1_length], ia Z a_p1_count n_p1 p1_count, ia Z a_p1_length n_p1 p1_length1, ob a_t 4 [.ref a_t_order, .ref a_t_weight, .ref a_t_above], ia Z a_t_above 572 t_above, ia Z a_t_order 286 t_order1, ia Z a_t_weight 572 t_weight]) [1, 2, 0] [0, 4, 3, 5, 1, 6, 2] rfl rfl rfl ?_
    cases hm
    exact KJ
theorem c_Joiner_join (l : Launch) (Z : rx_D) (F : Nat) (a_p1 a_p1_count a_p1_length a_t a_t_above a_t_order a_t_weight n_p1 : Nat) (p1_count p1_length t_above t_order t_weight : Nat → Int32) (o_p1_length o_t_above o_t_order o_t_weight : Nat → Int32) (hm : m_Joiner_join F n_p1 p1_count p1_length t_above t_order t_weight = some (o_p1_length, o_t_above, o_t_order, o_t_weight)) : Cn l Z y_Joiner_join b_Joiner_join 3 none 1 [.ref a_t, .ref a_p1] [ob a_p1 1 [.ref a_p1_count, .ref a_p1_length], ia Z a_p1_count n_p1 p1_count, ia Z a_p1_length n_p1 p1_length, ob a_t 4 [.ref a_t_order, .ref a_t_weight, .ref a_t_above], ia Z a_t_above 572 t_above, ia Z a_t_order 286 t_order, ia Z a_t_weight 572 t_weight] 0 0 (fun r w => r = none ∧ w = [ob a_p1 1 [.ref a_p1_count, .ref a_p1_length], ia Z a_p1_count n_p1 p1_count, ia Z a_p1_length n_p1 o_p1_length, ob a_t 4 [.ref a_t_order, .ref a_t_weight, .ref a_t_above], ia Z a_t_above 572 o_t_above, ia Z a_t_order 286 o_t_order, ia Z a_t_weight 572 o_t_weight]) :=
  rx_met "DeflateEffort$Joiner" "join" mf_Joiner_join (Nat.le_of_ble_eq_true rfl) rfl (by rintro _ _ ⟨h9, _⟩; cases h9) (w_Joiner_join l Z 0 0 _ 0 0 F a_p1 a_p1_count a_p1_length a_t a_t_above a_t_order a_t_weight n_p1 p1_count p1_length t_above t_order t_weight o_p1_length o_t_above o_t_order o_t_weight hm ⟨rfl, rfl⟩)
abbrev J_LengthRow_tellSymbol (l : Launch) (Z : rx_D) (mc ms : Nat) (post : Option Value → va_W → Prop) := Rw l Z "DeflateEffort$LengthRow" "tellSymbol" b_LengthRow_tellSymbol 3 none 0 mc ms post
set_option maxRecDepth 100000 in
set_option maxHeartbeats 4000000 in
theorem w_LengthRow_tellSymbol (l : Launch) (Z : rx_D) (mc ms : Nat) (post : Option Value → va_W → Prop) (k n : Nat) (F : Nat) (a_t a_t_code a_t_code_count a_t_code_length a_t_row : Nat) (t_code_count : Nat → Int32) (t_distances t_literals : Int32) (t_row : Nat → Int32) (t_size t_toldOfCode x1 x2 : Int32) (o_t_size : Int32) (o_t_code_count o_t_row : Nat → Int32) (hm : m_LengthRow_tellSymbol F t_code_count t_row t_size x1 x2 = some (o_t_size, o_t_code_count, o_t_row)) (hp : post none [ob a_t 5 [.ref a_t_code, .ref a_t_row, .int o_t_size, .int t_literals, .int t_distances, .int t_toldOfCode], ob a_t_code 1 [.ref a_t_code_count, .ref a_t_code_length], ia Z a_t_code_count 19 o_t_code_count, ia Z a_t_row 316 o_t_row]) : J_LengthRow_tellSymbol l Z mc ms post k n [ob a_t 5 [.ref a_t_code, .ref a_t_row, .int t_size, .int t_literals, .int t_distances, .int t_toldOfCode], ob a_t_code 1 [.ref a_t_code_count, .ref a_t_code_length], ia Z a_t_code_count 19 t_code_count, ia Z a_t_row 316 t_row] [(0, .ref a_t), (1, .int x1), (2, .int x2)] 0 [] := by
  unfold m_LengthRow_tellSymbol at hm
  refine rw_aload_n (pc := 0) 0 rfl rfl (rx_dt dt_LengthRow_tellSymbol 0 rfl) ?_
  refine rw_get fa_LengthRow_24 (pc := 1) 0 rfl rfl (rx_dt dt_LengthRow_tellSymbol 1 rfl) ?_
  refine rw_aload_n (pc := 4) 0 rfl rfl (rx_dt dt_LengthRow_tellSymbol 2 rfl) ?_
  refine rw_get fa_LengthRow_20 (pc := 5) 0 rfl rfl (rx_dt dt_LengthRow_tellSymbol 3 rfl) ?_
  refine rw_alen (pc := 8) 3 rfl (rx_dt dt_LengthRow_tellSymbol 4 rfl) ?_
  rcases ite_some hm with ⟨hc, hm⟩ | ⟨hc, hm⟩
  · refine rw_icmp_ge_t (pc := 9) (tgt := 60) hc (by decide) (rx_dt dt_LengthRow_tellSymbol 5 rfl) ?_
    refine rw_perm (lv' := []) (ws' := [ob a_t 5 [.ref a_t_code, .ref a_t_row, .int t_size, .int t_literals, .int t_distances, .int t_toldOfCode], ob a_t_code 1 [.ref a_t_code_count, .ref a_t_code_length], ia Z a_t_code_count 19 t_code_count, ia Z a_t_row 316 t_row]) [] [0, 1, 2, 3] rfl rfl rfl ?_
    cases hm
    exact rw_vret (pc := 60) (rx_dt dt_LengthRow_tellSymbol 36 rfl) hp
  · refine rw_icmp_ge_f (pc := 9) (tgt := 60) hc (by decide) (rx_dt dt_LengthRow_tellSymbol 5 rfl) ?_
    refine rw_iload_n (pc := 12) 1 rfl rfl (rx_dt dt_LengthRow_tellSymbol 6 rfl) ?_
    rcases ite_some hm with ⟨hc, hm⟩ | ⟨hc, hm⟩
    · refine rw_if_lt_t (pc := 13) (tgt := 60) hc (by decide) (rx_dt dt_LengthRow_tellSymbol 7 rfl) ?_
      refine rw_perm (lv' := []) (ws' := [ob a_t 5 [.ref a_t_code, .ref a_t_row, .int t_size, .int t_literals, .int t_distances, .int t_toldOfCode], ob a_t_code 1 [.ref a_t_code_count, .ref a_t_code_length], ia Z a_t_code_count 19 t_code_count, ia Z a_t_row 316 t_row]) [] [0, 1, 2, 3] rfl rfl rfl ?_
      cases hm
      exact rw_vret (pc := 60) (rx_dt dt_LengthRow_tellSymbol 36 rfl) hp
    · refine rw_if_lt_f (pc := 13) (tgt := 60) hc (by decide) (rx_dt dt_LengthRow_tellSymbol 7 rfl) ?_
      refine rw_iload_n (pc := 16) 1 rfl rfl (rx_dt dt_LengthRow_tellSymbol 8 rfl) ?_
      refine rw_bipush (pc := 17) (v := 19) (by decide) (rx_dt dt_LengthRow_tellSymbol 9 rfl) ?_
      rcases ite_some hm with ⟨hc, hm⟩ | ⟨hc, hm⟩
      · refine rw_icmp_ge_t (pc := 19) (tgt := 60) hc (by decide) (rx_dt dt_LengthRow_tellSymbol 10 rfl) ?_
        refine rw_perm (lv' := []) (ws' := [ob a_t 5 [.ref a_t_code, .ref a_t_row, .int t_size, .int t_literals, .int t_distances, .int t_toldOfCode], ob a_t_code 1 [.ref a_t_code_count, .ref a_t_code_length], ia Z a_t_code_count 19 t_code_count, ia Z a_t_row 316 t_row]) [] [0, 1, 2, 3] rfl rfl rfl ?_
        cases hm
        exact rw_vret (pc := 60) (rx_dt dt_LengthRow_tellSymbol 36 rfl) hp
      · refine rw_icmp_ge_f (pc := 19) (tgt := 60) hc (by decide) (rx_dt dt_LengthRow_tellSymbol 10 rfl) ?_
        refine rw_aload_n (pc := 22) 0 rfl rfl (rx_dt dt_LengthRow_tellSymbol 11 rfl) ?_
        refine rw_get fa_LengthRow_20 (pc := 23) 0 rfl rfl (rx_dt dt_LengthRow_tellSymbol 12 rfl) ?_
        refine rw_aload_n (pc := 26) 0 rfl rfl (rx_dt dt_LengthRow_tellSymbol 13 rfl) ?_
        refine rw_get fa_LengthRow_24 (pc := 27) 0 rfl rfl (rx_dt dt_LengthRow_tellSymbol 14 rfl) ?_
        refine rw_iload_n (pc := 30) 2 rfl rfl (rx_dt dt_LengthRow_tellSymbol 15 rfl) ?_
        refine rw_bipush (pc := 31) (v := 8) (by decide) (rx_dt dt_LengthRow_tellSymbol 16 rfl) ?_
        refine rw_ishl (pc := 33) (rx_dt dt_LengthRow_tellSymbol 17 rfl) ?_
        refine rw_iload_n (pc := 34) 1 rfl rfl (rx_dt dt_LengthRow_tellSymbol 18 rfl) ?_
        refine rw_ior (pc := 35) (rx_dt dt_LengthRow_tellSymbol 19 rfl) ?_
        obtain ⟨hk1, hm⟩ := chk_some hm
        obtain ⟨t_row1, ht_row1, hm⟩ := nm_some hm
        refine rw_iast (pc := 36) (ws' := [ob a_t 5 [.ref a_t_code, .ref a_t_row, .int t_size, .int t_literals, .int t_distances, .int t_toldOfCode], ob a_t_code 1 [.ref a_t_code_count, .ref a_t_code_length], ia Z a_t_code_count 19 t_code_count, ia Z a_t_row 316 t_row1]) 3 rfl hk1 (by rw [← ht_row1]; rfl) (rx_dt dt_LengthRow_tellSymbol 20 rfl) ?_
        refine rw_aload_n (pc := 37) 0 rfl rfl (rx_dt dt_LengthRow_tellSymbol 21 rfl) ?_
        refine rw_dup (pc := 38) rfl (rx_dt dt_LengthRow_tellSymbol 22 rfl) ?_
        refine rw_get fa_LengthRow_24 (pc := 39) 0 rfl rfl (rx_dt dt_LengthRow_tellSymbol 23 rfl) ?_
        refine rw_iconst (pc := 42) (v := 1) rfl (rx_dt dt_LengthRow_tellSymbol 24 rfl) ?_
        refine rw_iadd (pc := 43) (rx_dt dt_LengthRow_tellSymbol 25 rfl) ?_
        obtain ⟨y1, hy1, hm⟩ := nm_some hm
        refine rw_nm hy1 ?_
        refine rw_put fa_LengthRow_24 (pc := 44) (ws' := [ob a_t 5 [.ref a_t_code, .ref a_t_row, .int y1, .int t_literals, .int t_distances, .int t_toldOfCode], ob a_t_code 1 [.ref a_t_code_count, .ref a_t_code_length], ia Z a_t_code_count 19 t_code_count, ia Z a_t_row 316 t_row1]) 0 rfl rfl rfl (Nat.le_of_ble_eq_true rfl) rfl (rx_dt dt_LengthRow_tellSymbol 26 rfl) ?_
        refine rw_aload_n (pc := 47) 0 rfl rfl (rx_dt dt_LengthRow_tellSymbol 27 rfl) ?_
        refine rw_get fa_LengthRow_14 (pc := 48) 0 rfl rfl (rx_dt dt_LengthRow_tellSymbol 28 rfl) ?_
        refine rw_get fa_LengthRow_41 (pc := 51) 1 rfl rfl (rx_dt dt_LengthRow_tellSymbol 29 rfl) ?_
        refine rw_iload_n (pc := 54) 1 rfl rfl (rx_dt dt_LengthRow_tellSymbol 30 rfl) ?_
        refine rw_dup2 (pc := 55) rfl rfl (rx_dt dt_LengthRow_tellSymbol 31 rfl) ?_
        obtain ⟨hk2, hm⟩ := chk_some hm
        refine rw_iald (pc := 56) 2 rfl hk2 (rx_dt dt_LengthRow_tellSymbol 32 rfl) ?_
        refine rw_iconst (pc := 57) (v := 1) rfl (rx_dt dt_LengthRow_tellSymbol 33 rfl) ?_
        refine rw_iadd (pc := 58) (rx_dt dt_LengthRow_tellSymbol 34 rfl) ?_
        obtain ⟨hk3, hm⟩ := chk_some hm
        obtain ⟨t_code_count1, ht_code_count1, hm⟩ := nm_some hm
        refine rw_iast (pc := 59) (ws' := [ob a_t 5 [.ref a_t_code, .ref a_t_row, .int y1, .int t_literals, .int t_distances, .int t_toldOfCode], ob a_t_code 1 [.ref a_t_code_count, .ref a_t_code_length], ia Z a_t_code_count 19 t_code_count1, ia Z a_t_row 316 t_row1]) 2 rfl hk3 (by rw [← ht_code_count1]; rfl) (rx_dt dt_LengthRow_tellSymbol 35 rfl) ?_
        refine rw_perm (lv' := []) (ws' := [ob a_t 5 [.ref a_t_code, .ref a_t_row, .int y1, .int t_literals, .int t_distances, .int t_toldOfCode], ob a_t_code 1 [.ref a_t_code_count, .ref a_t_code_length], ia Z a_t_code_count 19 t_code_count1, ia Z a_t_row 316 t_row1]) [] [0, 1, 2, 3] rfl rfl rfl ?_
        cases hm
        exact rw_vret (pc := 60) (rx_dt dt_LengthRow_tellSymbol 36 rfl) hp
theorem c_LengthRow_tellSymbol (l : Launch) (Z : rx_D) (F : Nat) (a_t a_t_code a_t_code_count a_t_code_length a_t_row : Nat) (t_code_count : Nat → Int32) (t_distances t_literals : Int32) (t_row : Nat → Int32) (t_size t_toldOfCode x1 x2 : Int32) (o_t_size : Int32) (o_t_code_count o_t_row : Nat → Int32) (hm : m_LengthRow_tellSymbol F t_code_count t_row t_size x1 x2 = some (o_t_size, o_t_code_count, o_t_row)) : Cn l Z y_LengthRow_tellSymbol b_LengthRow_tellSymbol 3 none 0 [.ref a_t, .int x1, .int x2] [ob a_t 5 [.ref a_t_code, .ref a_t_row, .int t_size, .int t_literals, .int t_distances, .int t_toldOfCode], ob a_t_code 1 [.ref a_t_code_count, .ref a_t_code_length], ia Z a_t_code_count 19 t_code_count, ia Z a_t_row 316 t_row] 0 0 (fun r w => r = none ∧ w = [ob a_t 5 [.ref a_t_code, .ref a_t_row, .int o_t_size, .int t_literals, .int t_distances, .int t_toldOfCode], ob a_t_code 1 [.ref a_t_code_count, .ref a_t_code_length], ia Z a_t_code_count 19 o_t_code_count, ia Z a_t_row 316 o_t_row]) :=
  rx_met "DeflateEffort$LengthRow" "tellSymbol" mf_LengthRow_tellSymbol (Nat.le_of_ble_eq_true rfl) rfl (by rintro _ _ ⟨h9, _⟩; cases h9) (w_LengthRow_tellSymbol l Z 0 0 _ 0 0 F a_t a_t_code a_t_code_count a_t_code_length a_t_row t_code_count t_distances t_literals t_row t_size t_toldOfCode x1 x2 o_t_size o_t_code_count o_t_row hm ⟨rfl, rfl⟩)
abbrev J_LengthRow_tellEqual (l : Launch) (Z : rx_D) (mc ms : Nat) (post : Option Value → va_W → Prop) := Rw l Z "DeflateEffort$LengthRow" "tellEqual" b_LengthRow_tellEqual 5 none 1 mc ms post
set_option maxRecDepth 100000 in
set_option maxHeartbeats 4000000 in
theorem wl_LengthRow_tellEqual_6 (l : Launch) (Z : rx_D) (mc ms : Nat) (post : Option Value → va_W → Prop) (k n : Nat) (F : Nat) (a_t a_t_code a_t_code_count a_t_code_length a_t_row : Nat) (t_distances t_literals t_toldOfCode x1 : Int32) : ∀ (f : Nat)  (v3_1 t_size_1 : Int32) (t_code_count2 t_row2 : Nat → Int32) (v3_2 t_size_2 : Int32) (t_code_count3 t_row3 : Nat → Int32), L_LengthRow_tellEqual_6 F  f v3_1 t_size_1 t_code_count2 t_row2 = some (v3_2, t_size_2, t_code_count3, t_row3) → (J_LengthRow_tellEqual l Z mc ms post k n [ob a_t 5 [.ref a_t_code, .ref a_t_row, .int t_size_2, .int t_literals, .int t_distances, .int t_toldOfCode], ob a_t_code 1 [.ref a_t_code_count, .ref a_t_code_length], ia Z a_t_code_count 19 t_code_count3, ia Z a_t_row 316 t_row3] [(0, .ref a_t), (1, .int x1), (3, .int v3_2)] 40 []) → J_LengthRow_tellEqual l Z mc ms post k n [ob a_t 5 [.ref a_t_code, .ref a_t_row, .int t_size_1, .int t_literals, .int t_distances, .int t_toldOfCode], ob a_t_code 1 [.ref a_t_code_count, .ref a_t_code_length], ia Z a_t_code_count 19 t_code_count2, ia Z a_t_row 316 t_row2] [(0, .ref a_t), (1, .int x1), (3, .int v3_1)] 6 [] := by
  intro f
  induction f with
  | zero =>
    intro v3_1 t_size_1 t_code_count2 t_row2 v3_2 t_size_2 t_code_count3 t_row3 hm K
    cases hm
  | succ f ih =>
    intro v3_1 t_size_1 t_code_count2 t_row2 v3_2 t_size_2 t_code_count3 t_row3 hm K
    have hm : B_LengthRow_tellEqual_6 F  (L_LengthRow_tellEqual_6 F  f) v3_1 t_size_1 t_code_count2 t_row2 = some (v3_2, t_size_2, t_code_count3, t_row3) := hm
    unfold B_LengthRow_tellEqual_6 at hm
    refine rw_iload_n (pc := 6) 2 rfl rfl (rx_dt dt_LengthRow_tellEqual 4 rfl) ?_
    refine rw_bipush (pc := 7) (v := 11) (by decide) (rx_dt dt_LengthRow_tellEqual 5 rfl) ?_
    rcases ite_some hm with ⟨hc, hm⟩ | ⟨hc, hm⟩
    · refine rw_icmp_lt_t (pc := 9) (tgt := 40) hc (by decide) (rx_dt dt_LengthRow_tellEqual 6 rfl) ?_
      cases hm
      exact K
    · refine rw_icmp_lt_f (pc := 9) (tgt := 40) hc (by decide) (rx_dt dt_LengthRow_tellEqual 6 rfl) ?_
      refine rw_iload_n (pc := 12) 2 rfl rfl (rx_dt dt_LengthRow_tellEqual 7 rfl) ?_
      refine rw_sipush (pc := 13) (v := 138) (by decide) (rx_dt dt_LengthRow_tellEqual 8 rfl) ?_
      refine rw_imin (pc := 16) mk_LengthRow_57 (by decide) (Nat.le_of_ble_eq_true rfl) (rx_dt dt_LengthRow_tellEqual 9 rfl) ?_
      obtain ⟨y1, hy1, hm⟩ := nm_some hm
      refine rw_nm hy1 ?_
      refine rw_istore (pc := 19) (lv' := [(4, .int y1), (0, .ref a_t), (1, .int x1), (3, .int v3_1)]) (by decide) rfl (rx_dt dt_LengthRow_tellEqual 10 rfl) ?_
      refine rw_aload_n (pc := 21) 1 rfl rfl (rx_dt dt_LengthRow_tellEqual 11 rfl) ?_
      refine rw_bipush (pc := 22) (v := 18) (by decide) (rx_dt dt_LengthRow_tellEqual 12 rfl) ?_
      refine rw_iload (pc := 24) 0 rfl (rx_dt dt_LengthRow_tellEqual 13 rfl) ?_
      refine rw_bipush (pc := 26) (v := 11) (by decide) (rx_dt dt_LengthRow_tellEqual 14 rfl) ?_
      refine rw_isub (pc := 28) (rx_dt dt_LengthRow_tellEqual 15 rfl) ?_
      obtain ⟨t_size_3, t_code_count4, t_row4, hq, hm⟩ := bnd3_some hm
      refine rw_callV cw_LengthRow_tellSymbol lk_LengthRow_63 ci_LengthRow_tellSymbol rfl (q := 0) rfl (c_LengthRow_tellSymbol l Z F (a_t := a_t) (a_t_code := a_t_code) (a_t_code_count := a_t_code_count) (a_t_code_length := a_t_code_length) (a_t_row := a_t_row) (t_code_count := t_code_count2) (t_distances := t_distances) (t_literals := t_literals) (t_row := t_row2) (t_size := t_size_1) (t_toldOfCode := t_toldOfCode) (x1 := (18 : Int32)) (x2 := y1 - (11 : Int32)) (o_t_size := t_size_3) (o_t_code_count := t_code_count4) (o_t_row := t_row4) hq) [0, 1, 2, 3] [] rfl rfl rfl rfl (by decide) rfl (by decide) (fun h => h) (rest := []) (wr := []) (Nat.le_of_ble_eq_true rfl) rfl (rx_dt dt_LengthRow_tellEqual 16 rfl) (pc := 29) ?_
      rintro _ _ ⟨rfl, rfl⟩
      show J_LengthRow_tellEqual l Z mc ms post k n [ob a_t 5 [.ref a_t_code, .ref a_t_row, .int t_size_3, .int t_literals, .int t_distances, .int t_toldOfCode], ob a_t_code 1 [.ref a_t_code_count, .ref a_t_code_length], ia Z a_t_code_count 19 t_code_count4, ia Z a_t_row 316 t_row4] [(4, .int y1), (0, .ref a_t), (1, .int x1), (3, .int v3_1)] 32 []
      refine rw_iload_n (pc := 32) 3 rfl rfl (rx_dt dt_LengthRow_tellEqual 17 rfl) ?_
      refine rw_iload (pc := 33) 0 rfl (rx_dt dt_LengthRow_tellEqual 18 rfl) ?_
      refine rw_isub (pc := 35) (rx_dt dt_LengthRow_tellEqual 19 rfl) ?_
      obtain ⟨y2, hy2, hm⟩ := nm_some hm
      refine rw_nm hy2 ?_
      refine rw_istore_n (pc := 36) (lv' := [(3, .int y2), (4, .int y1), (0, .ref a_t), (1, .int x1)]) rfl (by decide) rfl (rx_dt dt_LengthRow_tellEqual 20 rfl) ?_
      refine rw_goto (pc := 37) (tgt := 6) (by decide) (rx_dt dt_LengthRow_tellEqual 21 rfl) ?_
      refine rw_perm (lv' := [(0, .ref a_t), (1, .int x1), (3, .int y2)]) (ws' := [ob a_t 5 [.ref a_t_code, .ref a_t_row, .int t_size_3, .int t_literals, .int t_distances, .int t_toldOfCode], ob a_t_code 1 [.ref a_t_code_count, .ref a_t_code_length], ia Z a_t_code_count 19 t_code_count4, ia Z a_t_row 316 t_row4]) [2, 3, 0] [0, 1, 2, 3] rfl rfl rfl ?_
      exact ih  _ _ _ _ _ _ _ _ hm K
set_option maxRecDepth 100000 in
set_option maxHeartbeats 4000000 in
theorem wl_LengthRow_tellEqual_72 (l : Launch) (Z : rx_D) (mc ms : Nat) (post : Option Value → va_W → Prop) (k n : Nat) (F : Nat) (a_t a_t_code a_t_code_count a_t_code_length a_t_row : Nat) (t_distances t_literals t_toldOfCode x1 : Int32) : ∀ (f : Nat)  (v3_4 t_size_7 : Int32) (t_code_count8 t_row8 : Nat → Int32) (v3_5 t_size_8 : Int32) (t_code_count9 t_row9 : Nat → Int32), L_LengthRow_tellEqual_72 F  f v3_4 t_size_7 t_code_count8 t_row8 = some (v3_5, t_size_8, t_code_count9, t_row9) → (J_LengthRow_tellEqual l Z mc ms post k n [ob a_t 5 [.ref a_t_code, .ref a_t_row, .int t_size_8, .int t_literals, .int t_distances, .int t_toldOfCode], ob a_t_code 1 [.ref a_t_code_count, .ref a_t_code_length], ia Z a_t_code_count 19 t_code_count9, ia Z a_t_row 316 t_row9] [(0, .ref a_t), (1, .int x1), (3, .int v3_5)] 103 []) → J_LengthRow_tellEqual l Z mc ms post k n [ob a_t 5 [.ref a_t_code, .ref a_t_row, .int t_size_7, .int t_literals, .int t_distances, .int t_toldOfCode], ob a_t_code 1 [.ref a_t_code_count, .ref a_t_code_length], ia Z a_t_code_count 19 t_code_count8, ia Z a_t_row 316 t_row8] [(0, .ref a_t), (1, .int x1), (3, .int v3_4)] 72 [] := by
  intro f
  induction f with
  | zero =>
    intro v3_4 t_size_7 t_code_count8 t_row8 v3_5 t_size_8 t_code_count9 t_row9 hm K
    cases hm
  | succ f ih =>
    intro v3_4 t_size_7 t_code_count8 t_row8 v3_5 t_size_8 t_code_count9 t_row9 hm K
    have hm : B_LengthRow_tellEqual_72 F  (L_LengthRow_tellEqual_72 F  f) v3_4 t_size_7 t_code_count8 t_row8 = some (v3_5, t_size_8, t_code_count9, t_row9) := hm
    unfold B_LengthRow_tellEqual_72 at hm
    refine rw_iload_n (pc := 72) 2 rfl rfl (rx_dt dt_LengthRow_tellEqual 41 rfl) ?_
    refine rw_iconst (pc := 73) (v := 3) rfl (rx_dt dt_LengthRow_tellEqual 42 rfl) ?_
    rcases ite_some hm with ⟨hc, hm⟩ | ⟨hc, hm⟩
    · refine rw_icmp_lt_t (pc := 74) (tgt := 103) hc (by decide) (rx_dt dt_LengthRow_tellEqual 43 rfl) ?_
      cases hm
      exact K
    · refine rw_icmp_lt_f (pc := 74) (tgt := 103) hc (by decide) (rx_dt dt_LengthRow_tellEqual 43 rfl) ?_
      refine rw_iload_n (pc := 77) 2 rfl rfl (rx_dt dt_LengthRow_tellEqual 44 rfl) ?_
      refine rw_bipush (pc := 78) (v := 6) (by decide) (rx_dt dt_LengthRow_tellEqual 45 rfl) ?_
      refine rw_imin (pc := 80) mk_LengthRow_57 (by decide) (Nat.le_of_ble_eq_true rfl) (rx_dt dt_LengthRow_tellEqual 46 rfl) ?_
      obtain ⟨y4, hy4, hm⟩ := nm_some hm
      refine rw_nm hy4 ?_
      refine rw_istore (pc := 83) (lv' := [(4, .int y4), (0, .ref a_t), (1, .int x1), (3, .int v3_4)]) (by decide) rfl (rx_dt dt_LengthRow_tellEqual 47 rfl) ?_
      refine rw_aload_n (pc := 85) 1 rfl rfl (rx_dt dt_LengthRow_tellEqual 48 rfl) ?_
      refine rw_bipush (pc := 86) (v := 16) (by decide) (rx_dt dt_LengthRow_tellEqual 49 rfl) ?_
      refine rw_iload (pc := 88) 0 rfl (rx_dt dt_LengthRow_tellEqual 50 rfl) ?_
      refine rw_iconst (pc := 90) (v := 3) rfl (rx_dt dt_LengthRow_tellEqual 51 rfl) ?_
      refine rw_isub (pc := 91) (rx_dt dt_LengthRow_tellEqual 52 rfl) ?_
      obtain ⟨t_size_9, t_code_count10, t_row10, hq, hm⟩ := bnd3_some hm
      refine rw_callV cw_LengthRow_tellSymbol lk_LengthRow_63 ci_LengthRow_tellSymbol rfl (q := 0) rfl (c_LengthRow_tellSymbol l Z F (a_t := a_t) (a_t_code := a_t_code) (a_t_code_count := a_t_code_count) (a_t_code_length := a_t_code_length) (a_t_row := a_t_row) (t_code_count := t_code_count8) (t_distances := t_distances) (t_literals := t_literals) (t_row := t_row8) (t_size := t_size_7) (t_toldOfCode := t_toldOfCode) (x1 := (16 : Int32)) (x2 := y4 - (3 : Int32)) (o_t_size := t_size_9) (o_t_code_count := t_code_count10) (o_t_row := t_row10) hq) [0, 1, 2, 3] [] rfl rfl rfl rfl (by decide) rfl (by decide) (fun h => h) (rest := []) (wr := []) (Nat.le_of_ble_eq_true rfl) rfl (rx_dt dt_LengthRow_tellEqual 53 rfl) (pc := 92) ?_
      rintro _ _ ⟨rfl, rfl⟩
      show J_LengthRow_tellEqual l Z mc ms post k n [ob a_t 5 [.ref a_t_code, .ref a_t_row, .int t_size_9, .int t_literals, .int t_distances, .int t_toldOfCode], ob a_t_code 1 [.ref a_t_code_count, .ref a_t_code_length], ia Z a_t_code_count 19 t_code_count10, ia Z a_t_row 316 t_row10] [(4, .int y4), (0, .ref a_t), (1, .int x1), (3, .int v3_4)] 95 []
      refine rw_iload_n (pc := 95) 3 rfl rfl (rx_dt dt_LengthRow_tellEqual 54 rfl) ?_
      refine rw_iload (pc := 96) 0 rfl (rx_dt dt_LengthRow_tellEqual 55 rfl) ?_
      refine rw_isub (pc := 98) (rx_dt dt_LengthRow_tellEqual 56 rfl) ?_
      obtain ⟨y5, hy5, hm⟩ := nm_some hm
      refine rw_nm hy5 ?_
      refine rw_istore_n (pc := 99) (lv' := [(3, .int y5), (4, .int y4), (0, .ref a_t), (1, .int x1)]) rfl (by decide) rfl (rx_dt dt_LengthRow_tellEqual 57 rfl) ?_
      refine rw_goto (pc := 100) (tgt := 72) (by decide) (rx_dt dt_LengthRow_tellEqual 58 rfl) ?_
      refine rw_perm (lv' := [(0, .ref a_t), (1, .int x1), (3, .int y5)]) (ws' := [ob a_t 5 [.ref a_t_code, .ref a_t_row, .int t_size_9, .int t_literals, .int t_distances, .int t_toldOfCode], ob a_t_code 1 [.ref a_t_code_count, .ref a_t_code_length], ia Z a_t_code_count 19 t_code_count10, ia Z a_t_row 316 t_row10]) [2, 3, 0] [0, 1, 2, 3] rfl rfl rfl ?_
      exact ih  _ _ _ _ _ _ _ _ hm K
set_option maxRecDepth 100000 in
set_option maxHeartbeats 4000000 in
theorem wl_LengthRow_tellEqual_106 (l : Launch) (Z : rx_D) (mc ms : Nat) (post : Option Value → va_W → Prop) (k n : Nat) (F : Nat) (a_t a_t_code a_t_code_count a_t_code_length a_t_row : Nat) (t_distances t_literals t_toldOfCode x1 z1 : Int32) : ∀ (f : Nat)  (v4_1 t_size_11 : Int32) (t_code_count12 t_row12 : Nat → Int32) (v4_2 t_size_12 : Int32) (t_code_count13 t_row13 : Nat → Int32), L_LengthRow_tellEqual_106 F x1 z1 f v4_1 t_size_11 t_code_count12 t_row12 = some (v4_2, t_size_12, t_code_count13, t_row13) → (J_LengthRow_tellEqual l Z mc ms post k n [ob a_t 5 [.ref a_t_code, .ref a_t_row, .int t_size_12, .int t_literals, .int t_distances, .int t_toldOfCode], ob a_t_code 1 [.ref a_t_code_count, .ref a_t_code_length], ia Z a_t_code_count 19 t_code_count13, ia Z a_t_row 316 t_row13] [] 124 []) → J_LengthRow_tellEqual l Z mc ms post k n [ob a_t 5 [.ref a_t_code, .ref a_t_row, .int t_size_11, .int t_literals, .int t_distances, .int t_toldOfCode], ob a_t_code 1 [.ref a_t_code_count, .ref a_t_code_length], ia Z a_t_code_count 19 t_code_count12, ia Z a_t_row 316 t_row12] [(0, .ref a_t), (1, .int x1), (3, .int z1), (4, .int v4_1)] 106 [] := by
  intro f
  induction f with
  | zero =>
    intro v4_1 t_size_11 t_code_count12 t_row12 v4_2 t_size_12 t_code_count13 t_row13 hm K
    cases hm
  | succ f ih =>
    intro v4_1 t_size_11 t_code_count12 t_row12 v4_2 t_size_12 t_code_count13 t_row13 hm K
    have hm : B_LengthRow_tellEqual_106 F x1 z1 (L_LengthRow_tellEqual_106 F x1 z1 f) v4_1 t_size_11 t_code_count12 t_row12 = some (v4_2, t_size_12, t_code_count13, t_row13) := hm
    unfold B_LengthRow_tellEqual_106 at hm
    refine rw_iload (pc := 106) 3 rfl (rx_dt dt_LengthRow_tellEqual 61 rfl) ?_
    refine rw_iload_n (pc := 108) 2 rfl rfl (rx_dt dt_LengthRow_tellEqual 62 rfl) ?_
    rcases ite_some hm with ⟨hc, hm⟩ | ⟨hc, hm⟩
    · refine rw_icmp_ge_t (pc := 109) (tgt := 124) hc (by decide) (rx_dt dt_LengthRow_tellEqual 63 rfl) ?_
      refine rw_perm (lv' := []) (ws' := [ob a_t 5 [.ref a_t_code, .ref a_t_row, .int t_size_11, .int t_literals, .int t_distances, .int t_toldOfCode], ob a_t_code 1 [.ref a_t_code_count, .ref a_t_code_length], ia Z a_t_code_count 19 t_code_count12, ia Z a_t_row 316 t_row12]) [] [0, 1, 2, 3] rfl rfl rfl ?_
      cases hm
      exact K
    · refine rw_icmp_ge_f (pc := 109) (tgt := 124) hc (by decide) (rx_dt dt_LengthRow_tellEqual 63 rfl) ?_
      refine rw_aload_n (pc := 112) 0 rfl rfl (rx_dt dt_LengthRow_tellEqual 64 rfl) ?_
      refine rw_iload_n (pc := 113) 1 rfl rfl (rx_dt dt_LengthRow_tellEqual 65 rfl) ?_
      refine rw_iconst (pc := 114) (v := 0) rfl (rx_dt dt_LengthRow_tellEqual 66 rfl) ?_
      obtain ⟨t_size_13, t_code_count14, t_row14, hq, hm⟩ := bnd3_some hm
      refine rw_callV cw_LengthRow_tellSymbol lk_LengthRow_63 ci_LengthRow_tellSymbol rfl (q := 0) rfl (c_LengthRow_tellSymbol l Z F (a_t := a_t) (a_t_code := a_t_code) (a_t_code_count := a_t_code_count) (a_t_code_length := a_t_code_length) (a_t_row := a_t_row) (t_code_count := t_code_count12) (t_distances := t_distances) (t_literals := t_literals) (t_row := t_row12) (t_size := t_size_11) (t_toldOfCode := t_toldOfCode) (x1 := x1) (x2 := (0 : Int32)) (o_t_size := t_size_13) (o_t_code_count := t_code_count14) (o_t_row := t_row14) hq) [0, 1, 2, 3] [] rfl rfl rfl rfl (by decide) rfl (by decide) (fun h => h) (rest := []) (wr := []) (Nat.le_of_ble_eq_true rfl) rfl (rx_dt dt_LengthRow_tellEqual 67 rfl) (pc := 115) ?_
      rintro _ _ ⟨rfl, rfl⟩
      show J_LengthRow_tellEqual l Z mc ms post k n [ob a_t 5 [.ref a_t_code, .ref a_t_row, .int t_size_13, .int t_literals, .int t_distances, .int t_toldOfCode], ob a_t_code 1 [.ref a_t_code_count, .ref a_t_code_length], ia Z a_t_code_count 19 t_code_count14, ia Z a_t_row 316 t_row14] [(0, .ref a_t), (1, .int x1), (3, .int z1), (4, .int v4_1)] 118 []
      obtain ⟨y6, hy6, hm⟩ := nm_some hm
      refine rw_iinc (pc := 118) (lv' := [(4, .int y6), (0, .ref a_t), (1, .int x1), (3, .int z1)]) 3 rfl hy6 (by decide) rfl (rx_dt dt_LengthRow_tellEqual 68 rfl) ?_
      refine rw_goto (pc := 121) (tgt := 106) (by decide) (rx_dt dt_LengthRow_tellEqual 69 rfl) ?_
      refine rw_perm (lv' := [(0, .ref a_t), (1, .int x1), (3, .int z1), (4, .int y6)]) (ws' := [ob a_t 5 [.ref a_t_code, .ref a_t_row, .int t_size_13, .int t_literals, .int t_distances, .int t_toldOfCode], ob a_t_code 1 [.ref a_t_code_count, .ref a_t_code_length], ia Z a_t_code_count 19 t_code_count14, ia Z a_t_row 316 t_row14]) [1, 2, 3, 0] [0, 1, 2, 3] rfl rfl rfl ?_
      exact ih  _ _ _ _ _ _ _ _ hm K
set_option maxRecDepth 100000 in
set_option maxHeartbeats 4000000 in
theorem w_LengthRow_tellEqual (l : Launch) (Z : rx_D) (mc ms : Nat) (post : Option Value → va_W → Prop) (k n : Nat) (F : Nat) (a_t a_t_code a_t_code_count a_t_code_length a_t_row : Nat) (t_code_count : Nat → Int32) (t_distances t_literals : Int32) (t_row : Nat → Int32) (t_size t_toldOfCode x1 x2 : Int32) (o_t_size : Int32) (o_t_code_count o_t_row : Nat → Int32) (hm : m_LengthRow_tellEqual F t_code_count t_row t_size x1 x2 = some (o_t_size, o_t_code_count, o_t_row)) (hp : post none [ob a_t 5 [.ref a_t_code, .ref a_t_row, .int o_t_size, .int t_literals, .int t_distances, .int t_toldOfCode], ob a_t_code 1 [.ref a_t_code_count, .ref a_t_code_length], ia Z a_t_code_count 19 o_t_code_count, ia Z a_t_row 316 o_t_row]) : J_LengthRow_tellEqual l Z mc ms post k n [ob a_t 5 [.ref a_t_code, .ref a_t_row, .int t_size, .int t_literals, .int t_distances, .int t_toldOfCode], ob a_t_code 1 [.ref a_t_code_count, .ref a_t_code_length], ia Z a_t_code_count 19 t_code_count, ia Z a_t_row 316 t_row] [(0, .ref a_t), (1, .int x1), (2, .int x2)] 0 [] := by
  unfold m_LengthRow_tellEqual at hm
  refine rw_iload_n (pc := 0) 2 rfl rfl (rx_dt dt_LengthRow_tellEqual 0 rfl) ?_
  refine rw_istore_n (pc := 1) (lv' := [(3, .int x2), (0, .ref a_t), (1, .int x1), (2, .int x2)]) rfl (by decide) rfl (rx_dt dt_LengthRow_tellEqual 1 rfl) ?_
  refine rw_iload_n (pc := 2) 2 rfl rfl (rx_dt dt_LengthRow_tellEqual 2 rfl) ?_
  obtain ⟨z1, z2, t_code_count1, t_row1, hj, hm⟩ := bnd4_some hm
  have KJ : J_LengthRow_tellEqual l Z mc ms post k n [ob a_t 5 [.ref a_t_code, .ref a_t_row, .int z2, .int t_literals, .int t_distances, .int t_toldOfCode], ob a_t_code 1 [.ref a_t_code_count, .ref a_t_code_length], ia Z a_t_code_count 19 t_code_count1, ia Z a_t_row 316 t_row1] [(0, .ref a_t), (1, .int x1), (3, .int z1)] 103 [] := by
    refine rw_iconst (pc := 103) (v := 0) rfl (rx_dt dt_LengthRow_tellEqual 59 rfl) ?_
    refine rw_istore (pc := 104) (lv' := [(4, .int (0 : Int32)), (0, .ref a_t), (1, .int x1), (3, .int z1)]) (by decide) rfl (rx_dt dt_LengthRow_tellEqual 60 rfl) ?_
    obtain ⟨v4_3, t_size_14, t_code_count15, t_row15, hl, hm⟩ := bnd4_some hm
    refine rw_perm (lv' := [(0, .ref a_t), (1, .int x1), (3, .int z1), (4, .int (0 : Int32))]) (ws' := [ob a_t 5 [.ref a_t_code, .ref a_t_row, .int z2, .int t_literals, .int t_distances, .int t_toldOfCode], ob a_t_code 1 [.ref a_t_code_count, .ref a_t_code_length], ia Z a_t_code_count 19 t_code_count1, ia Z a_t_row 316 t_row1]) [1, 2, 3, 0] [0, 1, 2, 3] rfl rfl rfl ?_
    refine wl_LengthRow_tellEqual_106 l Z mc ms post k n F a_t a_t_code a_t_code_count a_t_code_length a_t_row t_distances t_literals t_toldOfCode x1 z1 F  (0 : Int32) z2 t_code_count1 t_row1 v4_3 t_size_14 t_code_count15 t_row15 hl ?_
    cases hm
    exact rw_vret (pc := 124) (rx_dt dt_LengthRow_tellEqual 70 rfl) hp
  clear hm
  have hm := hj
  clear hj
  rcases ite_some hm with ⟨hc, hm⟩ | ⟨hc, hm⟩
  · refine rw_if_ne_f (pc := 3) (tgt := 59) hc (by decide) (rx_dt dt_LengthRow_tellEqual 3 rfl) ?_
    obtain ⟨v3_3, t_size_4, t_code_count5, t_row5, hl, hm⟩ := bnd4_some hm
    refine rw_perm (lv' := [(0, .ref a_t), (1, .int x1), (3, .int x2)]) (ws' := [ob a_t 5 [.ref a_t_code, .ref a_t_row, .int t_size, .int t_literals, .int t_distances, .int t_toldOfCode], ob a_t_code 1 [.ref a_t_code_count, .ref a_t_code_length], ia Z a_t_code_count 19 t_code_count, ia Z a_t_row 316 t_row]) [1, 2, 0] [0, 1, 2, 3] rfl rfl rfl ?_
    refine wl_LengthRow_tellEqual_6 l Z mc ms post k n F a_t a_t_code a_t_code_count a_t_code_length a_t_row t_distances t_literals t_toldOfCode x1 F  x2 t_size t_code_count t_row v3_3 t_size_4 t_code_count5 t_row5 hl ?_
    refine rw_iload_n (pc := 40) 2 rfl rfl (rx_dt dt_LengthRow_tellEqual 22 rfl) ?_
    refine rw_iconst (pc := 41) (v := 3) rfl (rx_dt dt_LengthRow_tellEqual 23 rfl) ?_
    rcases ite_some hm with ⟨hc, hm⟩ | ⟨hc, hm⟩
    · refine rw_icmp_lt_t (pc := 42) (tgt := 103) hc (by decide) (rx_dt dt_LengthRow_tellEqual 24 rfl) ?_
      cases hm
      exact KJ
    · refine rw_icmp_lt_f (pc := 42) (tgt := 103) hc (by decide) (rx_dt dt_LengthRow_tellEqual 24 rfl) ?_
      refine rw_aload_n (pc := 45) 0 rfl rfl (rx_dt dt_LengthRow_tellEqual 25 rfl) ?_
      refine rw_bipush (pc := 46) (v := 17) (by decide) (rx_dt dt_LengthRow_tellEqual 26 rfl) ?_
      refine rw_iload_n (pc := 48) 2 rfl rfl (rx_dt dt_LengthRow_tellEqual 27 rfl) ?_
      refine rw_iconst (pc := 49) (v := 3) rfl (rx_dt dt_LengthRow_tellEqual 28 rfl) ?_
      refine rw_isub (pc := 50) (rx_dt dt_LengthRow_tellEqual 29 rfl) ?_
      obtain ⟨t_size_5, t_code_count6, t_row6, hq, hm⟩ := bnd3_some hm
      refine rw_callV cw_LengthRow_tellSymbol lk_LengthRow_63 ci_LengthRow_tellSymbol rfl (q := 0) rfl (c_LengthRow_tellSymbol l Z F (a_t := a_t) (a_t_code := a_t_code) (a_t_code_count := a_t_code_count) (a_t_code_length := a_t_code_length) (a_t_row := a_t_row) (t_code_count := t_code_count5) (t_distances := t_distances) (t_literals := t_literals) (t_row := t_row5) (t_size := t_size_4) (t_toldOfCode := t_toldOfCode) (x1 := (17 : Int32)) (x2 := v3_3 - (3 : Int32)) (o_t_size := t_size_5) (o_t_code_count := t_code_count6) (o_t_row := t_row6) hq) [0, 1, 2, 3] [] rfl rfl rfl rfl (by decide) rfl (by decide) (fun h => h) (rest := []) (wr := []) (Nat.le_of_ble_eq_true rfl) rfl (rx_dt dt_LengthRow_tellEqual 30 rfl) (pc := 51) ?_
      rintro _ _ ⟨rfl, rfl⟩
      show J_LengthRow_tellEqual l Z mc ms post k n [ob a_t 5 [.ref a_t_code, .ref a_t_row, .int t_size_5, .int t_literals, .int t_distances, .int t_toldOfCode], ob a_t_code 1 [.ref a_t_code_count, .ref a_t_code_length], ia Z a_t_code_count 19 t_code_count6, ia Z a_t_row 316 t_row6] [(0, .ref a_t), (1, .int x1), (3, .int v3_3)] 54 []
      refine rw_iconst (pc := 54) (v := 0) rfl (rx_dt dt_LengthRow_tellEqual 31 rfl) ?_
      refine rw_istore_n (pc := 55) (lv' := [(3, .int (0 : Int32)), (0, .ref a_t), (1, .int x1)]) rfl (by decide) rfl (rx_dt dt_LengthRow_tellEqual 32 rfl) ?_
      refine rw_goto (pc := 56) (tgt := 103) (by decide) (rx_dt dt_LengthRow_tellEqual 33 rfl) ?_
      refine rw_perm (lv' := [(0, .ref a_t), (1, .int x1), (3, .int (0 : Int32))]) (ws' := [ob a_t 5 [.ref a_t_code, .ref a_t_row, .int t_size_5, .int t_literals, .int t_distances, .int t_toldOfCode], ob a_t_code 1 [.ref a_t_code_count, .ref a_t_code_length], ia Z a_t_code_count 19 t_code_count6, ia Z a_t_row 316 t_row6]) [1, 2, 0] [0, 1, 2, 3] rfl rfl rfl ?_
      cases hm
      exact KJ
  · refine rw_if_ne_t (pc := 3) (tgt := 59) hc (by decide) (rx_dt dt_LengthRow_tellEqual 3 rfl) ?_
    refine rw_iload_n (pc := 59) 0 rfl rfl (rx_dt dt_LengthRow_tellEqual 34 rfl) ?_
    rcases ite_some hm with ⟨hc, hm⟩ | ⟨hc, hm⟩
    · refine rw_if_le_t (pc := 60) (tgt := 103) hc (by decide) (rx_dt dt_LengthRow_tellEqual 35 rfl) ?_
      refine rw_perm (lv' := [(0, .ref a_t), (1, .int x1), (3, .int x2)]) (ws' := [ob a_t 5 [.ref a_t_code, .ref a_t_row, .int t_size, .int t_literals, .int t_distances, .int t_toldOfCode], ob a_t_code 1 [.ref a_t_code_count, .ref a_t_code_length], ia Z a_t_code_count 19 t_code_count, ia Z a_t_row 316 t_row]) [1, 2, 0] [0, 1, 2, 3] rfl rfl rfl ?_
      cases hm
      exact KJ
    · refine rw_if_le_f (pc := 60) (tgt := 103) hc (by decide) (rx_dt dt_LengthRow_tellEqual 35 rfl) ?_
      refine rw_aload_n (pc := 63) 1 rfl rfl (rx_dt dt_LengthRow_tellEqual 36 rfl) ?_
      refine rw_iload_n (pc := 64) 2 rfl rfl (rx_dt dt_LengthRow_tellEqual 37 rfl) ?_
      refine rw_iconst (pc := 65) (v := 0) rfl (rx_dt dt_LengthRow_tellEqual 38 rfl) ?_
      obtain ⟨t_size_6, t_code_count7, t_row7, hq, hm⟩ := bnd3_some hm
      refine rw_callV cw_LengthRow_tellSymbol lk_LengthRow_63 ci_LengthRow_tellSymbol rfl (q := 0) rfl (c_LengthRow_tellSymbol l Z F (a_t := a_t) (a_t_code := a_t_code) (a_t_code_count := a_t_code_count) (a_t_code_length := a_t_code_length) (a_t_row := a_t_row) (t_code_count := t_code_count) (t_distances := t_distances) (t_literals := t_literals) (t_row := t_row) (t_size := t_size) (t_toldOfCode := t_toldOfCode) (x1 := x1) (x2 := (0 : Int32)) (o_t_size := t_size_6) (o_t_code_count := t_code_count7) (o_t_row := t_row7) hq) [0, 1, 2, 3] [] rfl rfl rfl rfl (by decide) rfl (by decide) (fun h => h) (rest := []) (wr := []) (Nat.le_of_ble_eq_true rfl) rfl (rx_dt dt_LengthRow_tellEqual 39 rfl) (pc := 66) ?_
      rintro _ _ ⟨rfl, rfl⟩
      show J_LengthRow_tellEqual l Z mc ms post k n [ob a_t 5 [.ref a_t_code, .ref a_t_row, .int t_size_6, .int t_literals, .int t_distances, .int t_toldOfCode], ob a_t_code 1 [.ref a_t_code_count, .ref a_t_code_length], ia Z a_t_code_count 19 t_code_count7, ia Z a_t_row 316 t_row7] [(3, .int x2), (0, .ref a_t), (1, .int x1), (2, .int x2)] 69 []
      obtain ⟨y3, hy3, hm⟩ := nm_some hm
      refine rw_iinc (pc := 69) (lv' := [(3, .int y3), (0, .ref a_t), (1, .int x1), (2, .int x2)]) 0 rfl hy3 (by decide) rfl (rx_dt dt_LengthRow_tellEqual 40 rfl) ?_
      obtain ⟨v3_6, t_size_10, t_code_count11, t_row11, hl, hm⟩ := bnd4_some hm
      refine rw_perm (lv' := [(0, .ref a_t), (1, .int x1), (3, .int y3)]) (ws' := [ob a_t 5 [.ref a_t_code, .ref a_t_row, .int t_size_6, .int t_literals, .int t_distances, .int t_toldOfCode], ob a_t_code 1 [.ref a_t_code_count, .ref a_t_code_length], ia Z a_t_code_count 19 t_code_count7, ia Z a_t_row 316 t_row7]) [1, 2, 0] [0, 1, 2, 3] rfl rfl rfl ?_
      refine wl_LengthRow_tellEqual_72 l Z mc ms post k n F a_t a_t_code a_t_code_count a_t_code_length a_t_row t_distances t_literals t_toldOfCode x1 F  y3 t_size_6 t_code_count7 t_row7 v3_6 t_size_10 t_code_count11 t_row11 hl ?_
      cases hm
      exact KJ
theorem c_LengthRow_tellEqual (l : Launch) (Z : rx_D) (F : Nat) (a_t a_t_code a_t_code_count a_t_code_length a_t_row : Nat) (t_code_count : Nat → Int32) (t_distances t_literals : Int32) (t_row : Nat → Int32) (t_size t_toldOfCode x1 x2 : Int32) (o_t_size : Int32) (o_t_code_count o_t_row : Nat → Int32) (hm : m_LengthRow_tellEqual F t_code_count t_row t_size x1 x2 = some (o_t_size, o_t_code_count, o_t_row)) : Cn l Z y_LengthRow_tellEqual b_LengthRow_tellEqual 5 none 1 [.ref a_t, .int x1, .int x2] [ob a_t 5 [.ref a_t_code, .ref a_t_row, .int t_size, .int t_literals, .int t_distances, .int t_toldOfCode], ob a_t_code 1 [.ref a_t_code_count, .ref a_t_code_length], ia Z a_t_code_count 19 t_code_count, ia Z a_t_row 316 t_row] 0 0 (fun r w => r = none ∧ w = [ob a_t 5 [.ref a_t_code, .ref a_t_row, .int o_t_size, .int t_literals, .int t_distances, .int t_toldOfCode], ob a_t_code 1 [.ref a_t_code_count, .ref a_t_code_length], ia Z a_t_code_count 19 o_t_code_count, ia Z a_t_row 316 o_t_row]) :=
  rx_met "DeflateEffort$LengthRow" "tellEqual" mf_LengthRow_tellEqual (Nat.le_of_ble_eq_true rfl) rfl (by rintro _ _ ⟨h9, _⟩; cases h9) (w_LengthRow_tellEqual l Z 0 0 _ 0 0 F a_t a_t_code a_t_code_count a_t_code_length a_t_row t_code_count t_distances t_literals t_row t_size t_toldOfCode x1 x2 o_t_size o_t_code_count o_t_row hm ⟨rfl, rfl⟩)
abbrev J_LengthRow_tellBoth (l : Launch) (Z : rx_D) (mc ms : Nat) (post : Option Value → va_W → Prop) := Rw l Z "DeflateEffort$LengthRow" "tellBoth" b_LengthRow_tellBoth 8 none 2 mc ms post
set_option maxRecDepth 100000 in
set_option maxHeartbeats 4000000 in
theorem wl_LengthRow_tellBoth_55 (l : Launch) (Z : rx_D) (mc ms : Nat) (post : Option Value → va_W → Prop) (k n : Nat) (F : Nat) (a_p1 a_p1_count a_p1_length a_p2 a_p2_count a_p2_length a_t a_t_code a_t_code_count a_t_code_length a_t_row n_p1 n_p2 : Nat) (p1_length p2_length : Nat → Int32) (r1 r2 t_toldOfCode y1 : Int32) : ∀ (f : Nat)  (v4_1 v5_1 v6_1 t_size_1 : Int32) (t_code_count2 t_row1 : Nat → Int32) (v4_2 v5_2 v6_2 t_size_2 : Int32) (t_code_count3 t_row2 : Nat → Int32), L_LengthRow_tellBoth_55 F n_p1 n_p2 p1_length p2_length r1 y1 f v4_1 v5_1 v6_1 t_size_1 t_code_count2 t_row1 = some (v4_2, v5_2, v6_2, t_size_2, t_code_count3, t_row2) → (J_LengthRow_tellBoth l Z mc ms post k n [ob a_p1 1 [.ref a_p1_count, .ref a_p1_length], ia Z a_p1_length n_p1 p1_length, ob a_p2 1 [.ref a_p2_count, .ref a_p2_length], ia Z a_p2_length n_p2 p2_length, ob a_t 5 [.ref a_t_code, .ref a_t_row, .int t_size_2, .int r1, .int r2, .int t_toldOfCode], ob a_t_code 1 [.ref a_t_code_count, .ref a_t_code_length], ia Z a_t_code_count 19 t_code_count3, ia Z a_t_row 316 t_row2] [(0, .ref a_t), (4, .int v4_2), (5, .int v5_2)] 125 []) → J_LengthRow_tellBoth l Z mc ms post k n [ob a_p1 1 [.ref a_p1_count, .ref a_p1_length], ia Z a_p1_length n_p1 p1_length, ob a_p2 1 [.ref a_p2_count, .ref a_p2_length], ia Z a_p2_length n_p2 p2_length, ob a_t 5 [.ref a_t_code, .ref a_t_row, .int t_size_1, .int r1, .int r2, .int t_toldOfCode], ob a_t_code 1 [.ref a_t_code_count, .ref a_t_code_length], ia Z a_t_code_count 19 t_code_count2, ia Z a_t_row 316 t_row1] [(0, .ref a_t), (1, .ref a_p1), (2, .ref a_p2), (3, .int y1), (4, .int v4_1), (5, .int v5_1), (6, .int v6_1)] 55 [] := by
  intro f
  induction f with
  | zero =>
    intro v4_1 v5_1 v6_1 t_size_1 t_code_count2 t_row1 v4_2 v5_2 v6_2 t_size_2 t_code_count3 t_row2 hm K
    cases hm
  | succ f ih =>
    intro v4_1 v5_1 v6_1 t_size_1 t_code_count2 t_row1 v4_2 v5_2 v6_2 t_size_2 t_code_count3 t_row2 hm K
    have hm : B_LengthRow_tellBoth_55 F n_p1 n_p2 p1_length p2_length r1 y1 (L_LengthRow_tellBoth_55 F n_p1 n_p2 p1_length p2_length r1 y1 f) v4_1 v5_1 v6_1 t_size_1 t_code_count2 t_row1 = some (v4_2, v5_2, v6_2, t_size_2, t_code_count3, t_row2) := hm
    unfold B_LengthRow_tellBoth_55 at hm
    refine rw_iload (pc := 55) 6 rfl (rx_dt dt_LengthRow_tellBoth 30 rfl) ?_
    refine rw_iload_n (pc := 57) 3 rfl rfl (rx_dt dt_LengthRow_tellBoth 31 rfl) ?_
    rcases ite_some hm with ⟨hc, hm⟩ | ⟨hc, hm⟩
    · refine rw_icmp_ge_t (pc := 58) (tgt := 125) hc (by decide) (rx_dt dt_LengthRow_tellBoth 32 rfl) ?_
      refine rw_perm (lv' := [(0, .ref a_t), (4, .int v4_1), (5, .int v5_1)]) (ws' := [ob a_p1 1 [.ref a_p1_count, .ref a_p1_length], ia Z a_p1_length n_p1 p1_length, ob a_p2 1 [.ref a_p2_count, .ref a_p2_length], ia Z a_p2_length n_p2 p2_length, ob a_t 5 [.ref a_t_code, .ref a_t_row, .int t_size_1, .int r1, .int r2, .int t_toldOfCode], ob a_t_code 1 [.ref a_t_code_count, .ref a_t_code_length], ia Z a_t_code_count 19 t_code_count2, ia Z a_t_row 316 t_row1]) [0, 4, 5] [0, 1, 2, 3, 4, 5, 6, 7] rfl rfl rfl ?_
      cases hm
      exact K
    · refine rw_icmp_ge_f (pc := 58) (tgt := 125) hc (by decide) (rx_dt dt_LengthRow_tellBoth 32 rfl) ?_
      refine rw_iload (pc := 61) 6 rfl (rx_dt dt_LengthRow_tellBoth 33 rfl) ?_
      refine rw_aload_n (pc := 63) 0 rfl rfl (rx_dt dt_LengthRow_tellBoth 34 rfl) ?_
      refine rw_get fa_LengthRow_28 (pc := 64) 4 rfl rfl (rx_dt dt_LengthRow_tellBoth 35 rfl) ?_
      obtain ⟨z1, hj, hm⟩ := bnd1_some hm
      have KJ : J_LengthRow_tellBoth l Z mc ms post k n [ob a_p1 1 [.ref a_p1_count, .ref a_p1_length], ia Z a_p1_length n_p1 p1_length, ob a_p2 1 [.ref a_p2_count, .ref a_p2_length], ia Z a_p2_length n_p2 p2_length, ob a_t 5 [.ref a_t_code, .ref a_t_row, .int t_size_1, .int r1, .int r2, .int t_toldOfCode], ob a_t_code 1 [.ref a_t_code_count, .ref a_t_code_length], ia Z a_t_code_count 19 t_code_count2, ia Z a_t_row 316 t_row1] [(0, .ref a_t), (1, .ref a_p1), (2, .ref a_p2), (3, .int y1), (4, .int v4_1), (5, .int v5_1), (6, .int v6_1)] 92 [.int z1] := by
        refine rw_istore (pc := 92) (lv' := [(7, .int z1), (0, .ref a_t), (1, .ref a_p1), (2, .ref a_p2), (3, .int y1), (4, .int v4_1), (5, .int v5_1), (6, .int v6_1)]) (by decide) rfl (rx_dt dt_LengthRow_tellBoth 49 rfl) ?_
        refine rw_iload (pc := 94) 0 rfl (rx_dt dt_LengthRow_tellBoth 50 rfl) ?_
        refine rw_iload (pc := 96) 6 rfl (rx_dt dt_LengthRow_tellBoth 51 rfl) ?_
        obtain ⟨z2, z3, z4, t_code_count4, t_row3, hj, hm⟩ := bnd5_some hm
        have KJ : J_LengthRow_tellBoth l Z mc ms post k n [ob a_p1 1 [.ref a_p1_count, .ref a_p1_length], ia Z a_p1_length n_p1 p1_length, ob a_p2 1 [.ref a_p2_count, .ref a_p2_length], ia Z a_p2_length n_p2 p2_length, ob a_t 5 [.ref a_t_code, .ref a_t_row, .int z4, .int r1, .int r2, .int t_toldOfCode], ob a_t_code 1 [.ref a_t_code_count, .ref a_t_code_length], ia Z a_t_code_count 19 t_code_count4, ia Z a_t_row 316 t_row3] [(0, .ref a_t), (1, .ref a_p1), (2, .ref a_p2), (3, .int y1), (4, .int z2), (5, .int z3), (6, .int v6_1)] 116 [] := by
          obtain ⟨y2, hy2, hm⟩ := nm_some hm
          refine rw_iinc (pc := 116) (lv' := [(4, .int y2), (0, .ref a_t), (1, .ref a_p1), (2, .ref a_p2), (3, .int y1), (5, .int z3), (6, .int v6_1)]) 4 rfl hy2 (by decide) rfl (rx_dt dt_LengthRow_tellBoth 61 rfl) ?_
          obtain ⟨y3, hy3, hm⟩ := nm_some hm
          refine rw_iinc (pc := 119) (lv' := [(6, .int y3), (4, .int y2), (0, .ref a_t), (1, .ref a_p1), (2, .ref a_p2), (3, .int y1), (5, .int z3)]) 6 rfl hy3 (by decide) rfl (rx_dt dt_LengthRow_tellBoth 62 rfl) ?_
          refine rw_goto (pc := 122) (tgt := 55) (by decide) (rx_dt dt_LengthRow_tellBoth 63 rfl) ?_
          refine rw_perm (lv' := [(0, .ref a_t), (1, .ref a_p1), (2, .ref a_p2), (3, .int y1), (4, .int y2), (5, .int z3), (6, .int y3)]) (ws' := [ob a_p1 1 [.ref a_p1_count, .ref a_p1_length], ia Z a_p1_length n_p1 p1_length, ob a_p2 1 [.ref a_p2_count, .ref a_p2_length], ia Z a_p2_length n_p2 p2_length, ob a_t 5 [.ref a_t_code, .ref a_t_row, .int z4, .int r1, .int r2, .int t_toldOfCode], ob a_t_code 1 [.ref a_t_code_count, .ref a_t_code_length], ia Z a_t_code_count 19 t_code_count4, ia Z a_t_row 316 t_row3]) [2, 3, 4, 5, 1, 6, 0] [0, 1, 2, 3, 4, 5, 6, 7] rfl rfl rfl ?_
          exact ih  _ _ _ _ _ _ _ _ _ _ _ _ hm K
        clear hm
        have hm := hj
        clear hj
        rcases ite_some hm with ⟨hc, hm⟩ | ⟨hc, hm⟩
        · refine rw_icmp_eq_t (pc := 98) (tgt := 116) hc (by decide) (rx_dt dt_LengthRow_tellBoth 52 rfl) ?_
          refine rw_perm (lv' := [(0, .ref a_t), (1, .ref a_p1), (2, .ref a_p2), (3, .int y1), (4, .int v4_1), (5, .int v5_1), (6, .int v6_1)]) (ws' := [ob a_p1 1 [.ref a_p1_count, .ref a_p1_length], ia Z a_p1_length n_p1 p1_length, ob a_p2 1 [.ref a_p2_count, .ref a_p2_length], ia Z a_p2_length n_p2 p2_length, ob a_t 5 [.ref a_t_code, .ref a_t_row, .int t_size_1, .int r1, .int r2, .int t_toldOfCode], ob a_t_code 1 [.ref a_t_code_count, .ref a_t_code_length], ia Z a_t_code_count 19 t_code_count2, ia Z a_t_row 316 t_row1]) [1, 2, 3, 4, 5, 6, 7] [0, 1, 2, 3, 4, 5, 6, 7] rfl rfl rfl ?_
          cases hm
          exact KJ
        · refine rw_icmp_eq_f (pc := 98) (tgt := 116) hc (by decide) (rx_dt dt_LengthRow_tellBoth 52 rfl) ?_
          refine rw_aload_n (pc := 101) 1 rfl rfl (rx_dt dt_LengthRow_tellBoth 53 rfl) ?_
          refine rw_iload (pc := 102) 6 rfl (rx_dt dt_LengthRow_tellBoth 54 rfl) ?_
          refine rw_iload (pc := 104) 5 rfl (rx_dt dt_LengthRow_tellBoth 55 rfl) ?_
          obtain ⟨t_size_3, t_code_count5, t_row4, hq, hm⟩ := bnd3_some hm
          refine rw_callV cw_LengthRow_tellEqual lk_LengthRow_53 ci_LengthRow_tellEqual rfl (q := 4) rfl (c_LengthRow_tellEqual l Z F (a_t := a_t) (a_t_code := a_t_code) (a_t_code_count := a_t_code_count) (a_t_code_length := a_t_code_length) (a_t_row := a_t_row) (t_code_count := t_code_count2) (t_distances := r2) (t_literals := r1) (t_row := t_row1) (t_size := t_size_1) (t_toldOfCode := t_toldOfCode) (x1 := v5_1) (x2 := v4_1) (o_t_size := t_size_3) (o_t_code_count := t_code_count5) (o_t_row := t_row4) hq) [4, 5, 6, 7] [0, 1, 2, 3] rfl rfl rfl rfl (by decide) rfl (by decide) (fun h => h) (rest := []) (wr := [ob a_p1 1 [.ref a_p1_count, .ref a_p1_length], ia Z a_p1_length n_p1 p1_length, ob a_p2 1 [.ref a_p2_count, .ref a_p2_length], ia Z a_p2_length n_p2 p2_length]) (Nat.le_of_ble_eq_true rfl) rfl (rx_dt dt_LengthRow_tellBoth 56 rfl) (pc := 106) ?_
          rintro _ _ ⟨rfl, rfl⟩
          show J_LengthRow_tellBoth l Z mc ms post k n [ob a_p1 1 [.ref a_p1_count, .ref a_p1_length], ia Z a_p1_length n_p1 p1_length, ob a_p2 1 [.ref a_p2_count, .ref a_p2_length], ia Z a_p2_length n_p2 p2_length, ob a_t 5 [.ref a_t_code, .ref a_t_row, .int t_size_3, .int r1, .int r2, .int t_toldOfCode], ob a_t_code 1 [.ref a_t_code_count, .ref a_t_code_length], ia Z a_t_code_count 19 t_code_count5, ia Z a_t_row 316 t_row4] [(7, .int z1), (0, .ref a_t), (1, .ref a_p1), (2, .ref a_p2), (3, .int y1), (4, .int v4_1), (5, .int v5_1), (6, .int v6_1)] 109 []
          refine rw_iload (pc := 109) 0 rfl (rx_dt dt_LengthRow_tellBoth 57 rfl) ?_
          refine rw_istore (pc := 111) (lv' := [(5, .int z1), (7, .int z1), (0, .ref a_t), (1, .ref a_p1), (2, .ref a_p2), (3, .int y1), (4, .int v4_1), (6, .int v6_1)]) (by decide) rfl (rx_dt dt_LengthRow_tellBoth 58 rfl) ?_
          refine rw_iconst (pc := 113) (v := 0) rfl (rx_dt dt_LengthRow_tellBoth 59 rfl) ?_
          refine rw_istore (pc := 114) (lv' := [(4, .int (0 : Int32)), (5, .int z1), (7, .int z1), (0, .ref a_t), (1, .ref a_p1), (2, .ref a_p2), (3, .int y1), (6, .int v6_1)]) (by decide) rfl (rx_dt dt_LengthRow_tellBoth 60 rfl) ?_
          refine rw_perm (lv' := [(0, .ref a_t), (1, .ref a_p1), (2, .ref a_p2), (3, .int y1), (4, .int (0 : Int32)), (5, .int z1), (6, .int v6_1)]) (ws' := [ob a_p1 1 [.ref a_p1_count, .ref a_p1_length], ia Z a_p1_length n_p1 p1_length, ob a_p2 1 [.ref a_p2_count, .ref a_p2_length], ia Z a_p2_length n_p2 p2_length, ob a_t 5 [.ref a_t_code, .ref a_t_row, .int t_size_3, .int r1, .int r2, .int t_toldOfCode], ob a_t_code 1 [.ref a_t_code_count, .ref a_t_code_length], ia Z a_t_code_count 19 t_code_count5, ia Z a_t_row 316 t_row4]) [3, 4, 5, 6, 0, 1, 7] [0, 1, 2, 3, 4, 5, 6, 7] rfl rfl rfl ?_
          cases hm
          exact KJ
      clear hm
      have hm := hj
      clear hj
      rcases ite_some hm with ⟨hc, hm⟩ | ⟨hc, hm⟩
      · refine rw_icmp_ge_t (pc := 67) (tgt := 80) hc (by decide) (rx_dt dt_LengthRow_tellBoth 36 rfl) ?_
        refine rw_aload_n (pc := 80) 2 rfl rfl (rx_dt dt_LengthRow_tellBoth 42 rfl) ?_
        refine rw_get fa_LengthRow_50 (pc := 81) 2 rfl rfl (rx_dt dt_LengthRow_tellBoth 43 rfl) ?_
        refine rw_iload (pc := 84) 6 rfl (rx_dt dt_LengthRow_tellBoth 44 rfl) ?_
        refine rw_aload_n (pc := 86) 0 rfl rfl (rx_dt dt_LengthRow_tellBoth 45 rfl) ?_
        refine rw_get fa_LengthRow_28 (pc := 87) 4 rfl rfl (rx_dt dt_LengthRow_tellBoth 46 rfl) ?_
        refine rw_isub (pc := 90) (rx_dt dt_LengthRow_tellBoth 47 rfl) ?_
        obtain ⟨hk1, hm⟩ := chk_some hm
        refine rw_iald (pc := 91) 3 rfl hk1 (rx_dt dt_LengthRow_tellBoth 48 rfl) ?_
        cases hm
        exact KJ
      · refine rw_icmp_ge_f (pc := 67) (tgt := 80) hc (by decide) (rx_dt dt_LengthRow_tellBoth 36 rfl) ?_
        refine rw_aload_n (pc := 70) 1 rfl rfl (rx_dt dt_LengthRow_tellBoth 37 rfl) ?_
        refine rw_get fa_LengthRow_50 (pc := 71) 0 rfl rfl (rx_dt dt_LengthRow_tellBoth 38 rfl) ?_
        refine rw_iload (pc := 74) 6 rfl (rx_dt dt_LengthRow_tellBoth 39 rfl) ?_
        obtain ⟨hk2, hm⟩ := chk_some hm
        refine rw_iald (pc := 76) 1 rfl hk2 (rx_dt dt_LengthRow_tellBoth 40 rfl) ?_
        refine rw_goto (pc := 77) (tgt := 92) (by decide) (rx_dt dt_LengthRow_tellBoth 41 rfl) ?_
        cases hm
        exact KJ
set_option maxRecDepth 100000 in
set_option maxHeartbeats 4000000 in
theorem w_LengthRow_tellBoth (l : Launch) (Z : rx_D) (mc ms : Nat) (post : Option Value → va_W → Prop) (k n : Nat) (F : Nat) (a_p1 a_p1_count a_p1_length a_p2 a_p2_count a_p2_length a_t a_t_code a_t_code_count a_t_code_length a_t_row n_p1 n_p2 : Nat) (p1_length p2_length t_code_count : Nat → Int32) (t_distances t_literals : Int32) (t_row : Nat → Int32) (t_size t_toldOfCode : Int32) (o_t_size o_t_literals o_t_distances : Int32) (o_t_code_count o_t_row : Nat → Int32) (hm : m_LengthRow_tellBoth F n_p1 n_p2 p1_length p2_length t_code_count t_row = some (o_t_size, o_t_literals, o_t_distances, o_t_code_count, o_t_row)) (hp : post none [ob a_p1 1 [.ref a_p1_count, .ref a_p1_length], ia Z a_p1_length n_p1 p1_length, ob a_p2 1 [.ref a_p2_count, .ref a_p2_length], ia Z a_p2_length n_p2 p2_length, ob a_t 5 [.ref a_t_code, .ref a_t_row, .int o_t_size, .int o_t_literals, .int o_t_distances, .int t_toldOfCode], ob a_t_code 1 [.ref a_t_code_count, .ref a_t_code_length], ia Z a_t_code_count 19 o_t_code_count, ia Z a_t_row 316 o_t_row]) : J_LengthRow_tellBoth l Z mc ms post k n [ob a_p1 1 [.ref a_p1_count, .ref a_p1_length], ia Z a_p1_length n_p1 p1_length, ob a_p2 1 [.ref a_p2_count, .ref a_p2_length], ia Z a_p2_length n_p2 p2_length, ob a_t 5 [.ref a_t_code, .ref a_t_row, .int t_size, .int t_literals, .int t_distances, .int t_toldOfCode], ob a_t_code 1 [.ref a_t_code_count, .ref a_t_code_length], ia Z a_t_code_count 19 t_code_count, ia Z a_t_row 316 t_row] [(0, .ref a_t), (1, .ref a_p1), (2, .ref a_p2)] 0 [] := by
  unfold m_LengthRow_tellBoth at hm
  refine rw_aload_n (pc := 0) 0 rfl rfl (rx_dt dt_LengthRow_tellBoth 0 rfl) ?_
  refine rw_aload_n (pc := 1) 1 rfl rfl (rx_dt dt_LengthRow_tellBoth 1 rfl) ?_
  refine rw_sipush (pc := 2) (v := 257) (by decide) (rx_dt dt_LengthRow_tellBoth 2 rfl) ?_
  obtain ⟨r1, hq, hm⟩ := bnd1_some hm
  refine rw_callV cw_Code_usedLengths lk_LengthRow_37 ci_Code_usedLengths rfl (q := 0) rfl (c_Code_usedLengths l Z F (a_t := a_p1) (a_t_count := a_p1_count) (a_t_length := a_p1_length) (n_t := n_p1) (t_length := p1_length) (x1 := (257 : Int32)) (r0 := r1) hq) [0, 1] [2, 3, 4, 5, 6, 7] rfl rfl rfl rfl (by decide) rfl (by decide) (fun h => h) (rest := [.ref a_t]) (wr := [ob a_p2 1 [.ref a_p2_count, .ref a_p2_length], ia Z a_p2_length n_p2 p2_length, ob a_t 5 [.ref a_t_code, .ref a_t_row, .int t_size, .int t_literals, .int t_distances, .int t_toldOfCode], ob a_t_code 1 [.ref a_t_code_count, .ref a_t_code_length], ia Z a_t_code_count 19 t_code_count, ia Z a_t_row 316 t_row]) (Nat.le_of_ble_eq_true rfl) rfl (rx_dt dt_LengthRow_tellBoth 3 rfl) (pc := 5) ?_
  rintro _ _ ⟨rfl, rfl⟩
  show J_LengthRow_tellBoth l Z mc ms post k n [ob a_p2 1 [.ref a_p2_count, .ref a_p2_length], ia Z a_p2_length n_p2 p2_length, ob a_t 5 [.ref a_t_code, .ref a_t_row, .int t_size, .int t_literals, .int t_distances, .int t_toldOfCode], ob a_t_code 1 [.ref a_t_code_count, .ref a_t_code_length], ia Z a_t_code_count 19 t_code_count, ia Z a_t_row 316 t_row, ob a_p1 1 [.ref a_p1_count, .ref a_p1_length], ia Z a_p1_length n_p1 p1_length] [(0, .ref a_t), (1, .ref a_p1), (2, .ref a_p2)] 8 [.int r1, .ref a_t]
  refine rw_put fa_LengthRow_28 (pc := 8) (ws' := [ob a_p2 1 [.ref a_p2_count, .ref a_p2_length], ia Z a_p2_length n_p2 p2_length, ob a_t 5 [.ref a_t_code, .ref a_t_row, .int t_size, .int r1, .int t_distances, .int t_toldOfCode], ob a_t_code 1 [.ref a_t_code_count, .ref a_t_code_length], ia Z a_t_code_count 19 t_code_count, ia Z a_t_row 316 t_row, ob a_p1 1 [.ref a_p1_count, .ref a_p1_length], ia Z a_p1_length n_p1 p1_length]) 2 rfl rfl rfl (Nat.le_of_ble_eq_true rfl) rfl (rx_dt dt_LengthRow_tellBoth 4 rfl) ?_
  refine rw_aload_n (pc := 11) 0 rfl rfl (rx_dt dt_LengthRow_tellBoth 5 rfl) ?_
  refine rw_aload_n (pc := 12) 2 rfl rfl (rx_dt dt_LengthRow_tellBoth 6 rfl) ?_
  refine rw_iconst (pc := 13) (v := 1) rfl (rx_dt dt_LengthRow_tellBoth 7 rfl) ?_
  obtain ⟨r2, hq, hm⟩ := bnd1_some hm
  refine rw_callV cw_Code_usedLengths lk_LengthRow_37 ci_Code_usedLengths rfl (q := 0) rfl (c_Code_usedLengths l Z F (a_t := a_p2) (a_t_count := a_p2_count) (a_t_length := a_p2_length) (n_t := n_p2) (t_length := p2_length) (x1 := (1 : Int32)) (r0 := r2) hq) [0, 1] [2, 3, 4, 5, 6, 7] rfl rfl rfl rfl (by decide) rfl (by decide) (fun h => h) (rest := [.ref a_t]) (wr := [ob a_t 5 [.ref a_t_code, .ref a_t_row, .int t_size, .int r1, .int t_distances, .int t_toldOfCode], ob a_t_code 1 [.ref a_t_code_count, .ref a_t_code_length], ia Z a_t_code_count 19 t_code_count, ia Z a_t_row 316 t_row, ob a_p1 1 [.ref a_p1_count, .ref a_p1_length], ia Z a_p1_length n_p1 p1_length]) (Nat.le_of_ble_eq_true rfl) rfl (rx_dt dt_LengthRow_tellBoth 8 rfl) (pc := 14) ?_
  rintro _ _ ⟨rfl, rfl⟩
  show J_LengthRow_tellBoth l Z mc ms post k n [ob a_t 5 [.ref a_t_code, .ref a_t_row, .int t_size, .int r1, .int t_distances, .int t_toldOfCode], ob a_t_code 1 [.ref a_t_code_count, .ref a_t_code_length], ia Z a_t_code_count 19 t_code_count, ia Z a_t_row 316 t_row, ob a_p1 1 [.ref a_p1_count, .ref a_p1_length], ia Z a_p1_length n_p1 p1_length, ob a_p2 1 [.ref a_p2_count, .ref a_p2_length], ia Z a_p2_length n_p2 p2_length] [(0, .ref a_t), (1, .ref a_p1), (2, .ref a_p2)] 17 [.int r2, .ref a_t]
  refine rw_put fa_LengthRow_31 (pc := 17) (ws' := [ob a_t 5 [.ref a_t_code, .ref a_t_row, .int t_size, .int r1, .int r2, .int t_toldOfCode], ob a_t_code 1 [.ref a_t_code_count, .ref a_t_code_length], ia Z a_t_code_count 19 t_code_count, ia Z a_t_row 316 t_row, ob a_p1 1 [.ref a_p1_count, .ref a_p1_length], ia Z a_p1_length n_p1 p1_length, ob a_p2 1 [.ref a_p2_count, .ref a_p2_length], ia Z a_p2_length n_p2 p2_length]) 0 rfl rfl rfl (Nat.le_of_ble_eq_true rfl) rfl (rx_dt dt_LengthRow_tellBoth 9 rfl) ?_
  refine rw_aload_n (pc := 20) 0 rfl rfl (rx_dt dt_LengthRow_tellBoth 10 rfl) ?_
  refine rw_iconst (pc := 21) (v := 0) rfl (rx_dt dt_LengthRow_tellBoth 11 rfl) ?_
  refine rw_put fa_LengthRow_24 (pc := 22) (ws' := [ob a_t 5 [.ref a_t_code, .ref a_t_row, .int (0 : Int32), .int r1, .int r2, .int t_toldOfCode], ob a_t_code 1 [.ref a_t_code_count, .ref a_t_code_length], ia Z a_t_code_count 19 t_code_count, ia Z a_t_row 316 t_row, ob a_p1 1 [.ref a_p1_count, .ref a_p1_length], ia Z a_p1_length n_p1 p1_length, ob a_p2 1 [.ref a_p2_count, .ref a_p2_length], ia Z a_p2_length n_p2 p2_length]) 0 rfl rfl rfl (Nat.le_of_ble_eq_true rfl) rfl (rx_dt dt_LengthRow_tellBoth 12 rfl) ?_
  refine rw_aload_n (pc := 25) 0 rfl rfl (rx_dt dt_LengthRow_tellBoth 13 rfl) ?_
  refine rw_get fa_LengthRow_14 (pc := 26) 0 rfl rfl (rx_dt dt_LengthRow_tellBoth 14 rfl) ?_
  refine rw_get fa_LengthRow_41 (pc := 29) 1 rfl rfl (rx_dt dt_LengthRow_tellBoth 15 rfl) ?_
  refine rw_iconst (pc := 32) (v := 0) rfl (rx_dt dt_LengthRow_tellBoth 16 rfl) ?_
  obtain ⟨t_code_count1, hq, hm⟩ := bnd1_some hm
  refine rw_callS cw_JA_fill2 lk_LengthRow_44 cs_JA_fill2 (c_JA_fill2 l Z F (a_p0 := a_t_code_count) (n_p0 := 19) (p0 := t_code_count) (x1 := (0 : Int32)) (o_p0 := t_code_count1) hq) [2] [0, 1, 3, 4, 5, 6, 7] rfl rfl rfl rfl (by decide) rfl (by decide) (fun h => h) (rest := []) (wr := [ob a_t 5 [.ref a_t_code, .ref a_t_row, .int (0 : Int32), .int r1, .int r2, .int t_toldOfCode], ob a_t_code 1 [.ref a_t_code_count, .ref a_t_code_length], ia Z a_t_row 316 t_row, ob a_p1 1 [.ref a_p1_count, .ref a_p1_length], ia Z a_p1_length n_p1 p1_length, ob a_p2 1 [.ref a_p2_count, .ref a_p2_length], ia Z a_p2_length n_p2 p2_length]) (Nat.le_of_ble_eq_true rfl) rfl (rx_dt dt_LengthRow_tellBoth 17 rfl) (pc := 33) ?_
  rintro _ _ ⟨rfl, rfl⟩
  show J_LengthRow_tellBoth l Z mc ms post k n [ob a_t 5 [.ref a_t_code, .ref a_t_row, .int (0 : Int32), .int r1, .int r2, .int t_toldOfCode], ob a_t_code 1 [.ref a_t_code_count, .ref a_t_code_length], ia Z a_t_row 316 t_row, ob a_p1 1 [.ref a_p1_count, .ref a_p1_length], ia Z a_p1_length n_p1 p1_length, ob a_p2 1 [.ref a_p2_count, .ref a_p2_length], ia Z a_p2_length n_p2 p2_length, ia Z a_t_code_count 19 t_code_count1] [(0, .ref a_t), (1, .ref a_p1), (2, .ref a_p2)] 36 []
  refine rw_aload_n (pc := 36) 0 rfl rfl (rx_dt dt_LengthRow_tellBoth 18 rfl) ?_
  refine rw_get fa_LengthRow_28 (pc := 37) 0 rfl rfl (rx_dt dt_LengthRow_tellBoth 19 rfl) ?_
  refine rw_aload_n (pc := 40) 0 rfl rfl (rx_dt dt_LengthRow_tellBoth 20 rfl) ?_
  refine rw_get fa_LengthRow_31 (pc := 41) 0 rfl rfl (rx_dt dt_LengthRow_tellBoth 21 rfl) ?_
  refine rw_iadd (pc := 44) (rx_dt dt_LengthRow_tellBoth 22 rfl) ?_
  obtain ⟨y1, hy1, hm⟩ := nm_some hm
  refine rw_nm hy1 ?_
  refine rw_istore_n (pc := 45) (lv' := [(3, .int y1), (0, .ref a_t), (1, .ref a_p1), (2, .ref a_p2)]) rfl (by decide) rfl (rx_dt dt_LengthRow_tellBoth 23 rfl) ?_
  refine rw_iconst (pc := 46) (v := 0) rfl (rx_dt dt_LengthRow_tellBoth 24 rfl) ?_
  refine rw_istore (pc := 47) (lv' := [(4, .int (0 : Int32)), (3, .int y1), (0, .ref a_t), (1, .ref a_p1), (2, .ref a_p2)]) (by decide) rfl (rx_dt dt_LengthRow_tellBoth 25 rfl) ?_
  refine rw_iconst (pc := 49) (v := -1) rfl (rx_dt dt_LengthRow_tellBoth 26 rfl) ?_
  refine rw_istore (pc := 50) (lv' := [(5, .int (-1 : Int32)), (4, .int (0 : Int32)), (3, .int y1), (0, .ref a_t), (1, .ref a_p1), (2, .ref a_p2)]) (by decide) rfl (rx_dt dt_LengthRow_tellBoth 27 rfl) ?_
  refine rw_iconst (pc := 52) (v := 0) rfl (rx_dt dt_LengthRow_tellBoth 28 rfl) ?_
  refine rw_istore (pc := 53) (lv' := [(6, .int (0 : Int32)), (5, .int (-1 : Int32)), (4, .int (0 : Int32)), (3, .int y1), (0, .ref a_t), (1, .ref a_p1), (2, .ref a_p2)]) (by decide) rfl (rx_dt dt_LengthRow_tellBoth 29 rfl) ?_
  obtain ⟨v4_3, v5_3, v6_3, t_size_4, t_code_count6, t_row5, hl, hm⟩ := bnd6_some hm
  refine rw_perm (lv' := [(0, .ref a_t), (1, .ref a_p1), (2, .ref a_p2), (3, .int y1), (4, .int (0 : Int32)), (5, .int (-1 : Int32)), (6, .int (0 : Int32))]) (ws' := [ob a_p1 1 [.ref a_p1_count, .ref a_p1_length], ia Z a_p1_length n_p1 p1_length, ob a_p2 1 [.ref a_p2_count, .ref a_p2_length], ia Z a_p2_length n_p2 p2_length, ob a_t 5 [.ref a_t_code, .ref a_t_row, .int (0 : Int32), .int r1, .int r2, .int t_toldOfCode], ob a_t_code 1 [.ref a_t_code_count, .ref a_t_code_length], ia Z a_t_code_count 19 t_code_count1, ia Z a_t_row 316 t_row]) [4, 5, 6, 3, 2, 1, 0] [3, 4, 5, 6, 0, 1, 7, 2] rfl rfl rfl ?_
  refine wl_LengthRow_tellBoth_55 l Z mc ms post k n F a_p1 a_p1_count a_p1_length a_p2 a_p2_count a_p2_length a_t a_t_code a_t_code_count a_t_code_length a_t_row n_p1 n_p2 p1_length p2_length r1 r2 t_toldOfCode y1 F  (0 : Int32) (-1 : Int32) (0 : Int32) (0 : Int32) t_code_count1 t_row v4_3 v5_3 v6_3 t_size_4 t_code_count6 t_row5 hl ?_
  refine rw_aload_n (pc := 125) 0 rfl rfl (rx_dt dt_LengthRow_tellBoth 64 rfl) ?_
  refine rw_iload (pc := 126) 2 rfl (rx_dt dt_LengthRow_tellBoth 65 rfl) ?_
  refine rw_iload (pc := 128) 1 rfl (rx_dt dt_LengthRow_tellBoth 66 rfl) ?_
  obtain ⟨t_size_5, t_code_count7, t_row6, hq, hm⟩ := bnd3_some hm
  refine rw_callV cw_LengthRow_tellEqual lk_LengthRow_53 ci_LengthRow_tellEqual rfl (q := 4) rfl (c_LengthRow_tellEqual l Z F (a_t := a_t) (a_t_code := a_t_code) (a_t_code_count := a_t_code_count) (a_t_code_length := a_t_code_length) (a_t_row := a_t_row) (t_code_count := t_code_count6) (t_distances := r2) (t_literals := r1) (t_row := t_row5) (t_size := t_size_4) (t_toldOfCode := t_toldOfCode) (x1 := v5_3) (x2 := v4_3) (o_t_size := t_size_5) (o_t_code_count := t_code_count7) (o_t_row := t_row6) hq) [4, 5, 6, 7] [0, 1, 2, 3] rfl rfl rfl rfl (by decide) rfl (by decide) (fun h => h) (rest := []) (wr := [ob a_p1 1 [.ref a_p1_count, .ref a_p1_length], ia Z a_p1_length n_p1 p1_length, ob a_p2 1 [.ref a_p2_count, .ref a_p2_length], ia Z a_p2_length n_p2 p2_length]) (Nat.le_of_ble_eq_true rfl) rfl (rx_dt dt_LengthRow_tellBoth 67 rfl) (pc := 130) ?_
  rintro _ _ ⟨rfl, rfl⟩
  show J_LengthRow_tellBoth l Z mc ms post k n [ob a_p1 1 [.ref a_p1_count, .ref a_p1_length], ia Z a_p1_length n_p1 p1_length, ob a_p2 1 [.ref a_p2_count, .ref a_p2_length], ia Z a_p2_length n_p2 p2_length, ob a_t 5 [.ref a_t_code, .ref a_t_row, .int t_size_5, .int r1, .int r2, .int t_toldOfCode], ob a_t_code 1 [.ref a_t_code_count, .ref a_t_code_length], ia Z a_t_code_count 19 t_code_count7, ia Z a_t_row 316 t_row6] [(0, .ref a_t), (4, .int v4_3), (5, .int v5_3)] 133 []
  refine rw_perm (lv' := []) (ws' := [ob a_p1 1 [.ref a_p1_count, .ref a_p1_length], ia Z a_p1_length n_p1 p1_length, ob a_p2 1 [.ref a_p2_count, .ref a_p2_length], ia Z a_p2_length n_p2 p2_length, ob a_t 5 [.ref a_t_code, .ref a_t_row, .int t_size_5, .int r1, .int r2, .int t_toldOfCode], ob a_t_code 1 [.ref a_t_code_count, .ref a_t_code_length], ia Z a_t_code_count 19 t_code_count7, ia Z a_t_row 316 t_row6]) [] [0, 1, 2, 3, 4, 5, 6, 7] rfl rfl rfl ?_
  cases hm
  exact rw_vret (pc := 133) (rx_dt dt_LengthRow_tellBoth 68 rfl) hp
theorem c_LengthRow_tellBoth (l : Launch) (Z : rx_D) (F : Nat) (a_p1 a_p1_count a_p1_length a_p2 a_p2_count a_p2_length a_t a_t_code a_t_code_count a_t_code_length a_t_row n_p1 n_p2 : Nat) (p1_length p2_length t_code_count : Nat → Int32) (t_distances t_literals : Int32) (t_row : Nat → Int32) (t_size t_toldOfCode : Int32) (o_t_size o_t_literals o_t_distances : Int32) (o_t_code_count o_t_row : Nat → Int32) (hm : m_LengthRow_tellBoth F n_p1 n_p2 p1_length p2_length t_code_count t_row = some (o_t_size, o_t_literals, o_t_distances, o_t_code_count, o_t_row)) : Cn l Z y_LengthRow_tellBoth b_LengthRow_tellBoth 8 none 2 [.ref a_t, .ref a_p1, .ref a_p2] [ob a_p1 1 [.ref a_p1_count, .ref a_p1_length], ia Z a_p1_length n_p1 p1_length, ob a_p2 1 [.ref a_p2_count, .ref a_p2_length], ia Z a_p2_length n_p2 p2_length, ob a_t 5 [.ref a_t_code, .ref a_t_row, .int t_size, .int t_literals, .int t_distances, .int t_toldOfCode], ob a_t_code 1 [.ref a_t_code_count, .ref a_t_code_length], ia Z a_t_code_count 19 t_code_count, ia Z a_t_row 316 t_row] 0 0 (fun r w => r = none ∧ w = [ob a_p1 1 [.ref a_p1_count, .ref a_p1_length], ia Z a_p1_length n_p1 p1_length, ob a_p2 1 [.ref a_p2_count, .ref a_p2_length], ia Z a_p2_length n_p2 p2_length, ob a_t 5 [.ref a_t_code, .ref a_t_row, .int o_t_size, .int o_t_literals, .int o_t_distances, .int t_toldOfCode], ob a_t_code 1 [.ref a_t_code_count, .ref a_t_code_length], ia Z a_t_code_count 19 o_t_code_count, ia Z a_t_row 316 o_t_row]) :=
  rx_met "DeflateEffort$LengthRow" "tellBoth" mf_LengthRow_tellBoth (Nat.le_of_ble_eq_true rfl) rfl (by rintro _ _ ⟨h9, _⟩; cases h9) (w_LengthRow_tellBoth l Z 0 0 _ 0 0 F a_p1 a_p1_count a_p1_length a_p2 a_p2_count a_p2_length a_t a_t_code a_t_code_count a_t_code_length a_t_row n_p1 n_p2 p1_length p2_length t_code_count t_distances t_literals t_row t_size t_toldOfCode o_t_size o_t_literals o_t_distances o_t_code_count o_t_row hm ⟨rfl, rfl⟩)
abbrev J_LengthRow_makeCode (l : Launch) (Z : rx_D) (mc ms : Nat) (post : Option Value → va_W → Prop) := Rw l Z "DeflateEffort$LengthRow" "makeCode" b_LengthRow_makeCode 3 none 2 mc ms post
set_option maxRecDepth 100000 in
set_option maxHeartbeats 4000000 in
theorem wl_LengthRow_makeCode_10 (l : Launch) (Z : rx_D) (mc ms : Nat) (post : Option Value → va_W → Prop) (k n : Nat) (F : Nat) (a_p1 a_p1_above a_p1_order a_p1_weight a_t a_t_code a_t_code_count a_t_code_length a_t_row : Nat) (t_distances t_literals t_size t_toldOfCode : Int32) : ∀ (f : Nat)  (v2_1 : Int32) (p1_above2 p1_order2 p1_weight2 t_code_count1 t_code_length2 : Nat → Int32) (v2_2 : Int32) (p1_above3 p1_order3 p1_weight3 t_code_count2 t_code_length3 : Nat → Int32), L_LengthRow_makeCode_10 F  f v2_1 p1_above2 p1_order2 p1_weight2 t_code_count1 t_code_length2 = some (v2_2, p1_above3, p1_order3, p1_weight3, t_code_count2, t_code_length3) → (J_LengthRow_makeCode l Z mc ms post k n [ob a_p1 4 [.ref a_p1_order, .ref a_p1_weight, .ref a_p1_above], ia Z a_p1_above 572 p1_above3, ia Z a_p1_order 286 p1_order3, ia Z a_p1_weight 572 p1_weight3, ob a_t 5 [.ref a_t_code, .ref a_t_row, .int t_size, .int t_literals, .int t_distances, .int t_toldOfCode], ob a_t_code 1 [.ref a_t_code_count, .ref a_t_code_length], ia Z a_t_code_count 19 t_code_count2, ia Z a_t_code_length 19 t_code_length3] [(0, .ref a_t)] 49 []) → J_LengthRow_makeCode l Z mc ms post k n [ob a_p1 4 [.ref a_p1_order, .ref a_p1_weight, .ref a_p1_above], ia Z a_p1_above 572 p1_above2, ia Z a_p1_order 286 p1_order2, ia Z a_p1_weight 572 p1_weight2, ob a_t 5 [.ref a_t_code, .ref a_t_row, .int t_size, .int t_literals, .int t_distances, .int t_toldOfCode], ob a_t_code 1 [.ref a_t_code_count, .ref a_t_code_length], ia Z a_t_code_count 19 t_code_count1, ia Z a_t_code_length 19 t_code_length2] [(0, .ref a_t), (1, .ref a_p1), (2, .int v2_1)] 10 [] := by
  intro f
  induction f with
  | zero =>
    intro v2_1 p1_above2 p1_order2 p1_weight2 t_code_count1 t_code_length2 v2_2 p1_above3 p1_order3 p1_weight3 t_code_count2 t_code_length3 hm K
    cases hm
  | succ f ih =>
    intro v2_1 p1_above2 p1_order2 p1_weight2 t_code_count1 t_code_length2 v2_2 p1_above3 p1_order3 p1_weight3 t_code_count2 t_code_length3 hm K
    have hm : B_LengthRow_makeCode_10 F  (L_LengthRow_makeCode_10 F  f) v2_1 p1_above2 p1_order2 p1_weight2 t_code_count1 t_code_length2 = some (v2_2, p1_above3, p1_order3, p1_weight3, t_code_count2, t_code_length3) := hm
    unfold B_LengthRow_makeCode_10 at hm
    refine rw_iload_n (pc := 10) 2 rfl rfl (rx_dt dt_LengthRow_makeCode 6 rfl) ?_
    refine rw_bipush (pc := 11) (v := 10) (by decide) (rx_dt dt_LengthRow_makeCode 7 rfl) ?_
    rcases ite_some hm with ⟨hc, hm⟩ | ⟨hc, hm⟩
    · refine rw_icmp_ge_t (pc := 13) (tgt := 49) hc (by decide) (rx_dt dt_LengthRow_makeCode 8 rfl) ?_
      refine rw_perm (lv' := [(0, .ref a_t)]) (ws' := [ob a_p1 4 [.ref a_p1_order, .ref a_p1_weight, .ref a_p1_above], ia Z a_p1_above 572 p1_above2, ia Z a_p1_order 286 p1_order2, ia Z a_p1_weight 572 p1_weight2, ob a_t 5 [.ref a_t_code, .ref a_t_row, .int t_size, .int t_literals, .int t_distances, .int t_toldOfCode], ob a_t_code 1 [.ref a_t_code_count, .ref a_t_code_length], ia Z a_t_code_count 19 t_code_count1, ia Z a_t_code_length 19 t_code_length2]) [0] [0, 1, 2, 3, 4, 5, 6, 7] rfl rfl rfl ?_
      cases hm
      exact K
    · refine rw_icmp_ge_f (pc := 13) (tgt := 49) hc (by decide) (rx_dt dt_LengthRow_makeCode 8 rfl) ?_
      refine rw_aload_n (pc := 16) 0 rfl rfl (rx_dt dt_LengthRow_makeCode 9 rfl) ?_
      refine rw_get fa_LengthRow_14 (pc := 17) 4 rfl rfl (rx_dt dt_LengthRow_makeCode 10 rfl) ?_
      obtain ⟨r1, hq, hm⟩ := bnd1_some hm
      refine rw_callV cw_Code_longest lk_LengthRow_72 ci_Code_longest rfl (q := 5) rfl (c_Code_longest l Z F (a_t := a_t_code) (a_t_count := a_t_code_count) (a_t_length := a_t_code_length) (n_t := 19) (t_length := t_code_length2) (r0 := r1) hq) [5, 7] [0, 1, 2, 3, 4, 6] rfl rfl rfl rfl (by decide) rfl (by decide) (fun h => h) (rest := []) (wr := [ob a_p1 4 [.ref a_p1_order, .ref a_p1_weight, .ref a_p1_above], ia Z a_p1_above 572 p1_above2, ia Z a_p1_order 286 p1_order2, ia Z a_p1_weight 572 p1_weight2, ob a_t 5 [.ref a_t_code, .ref a_t_row, .int t_size, .int t_literals, .int t_distances, .int t_toldOfCode], ia Z a_t_code_count 19 t_code_count1]) (Nat.le_of_ble_eq_true rfl) rfl (rx_dt dt_LengthRow_makeCode 11 rfl) (pc := 20) ?_
      rintro _ _ ⟨rfl, rfl⟩
      show J_LengthRow_makeCode l Z mc ms post k n [ob a_p1 4 [.ref a_p1_order, .ref a_p1_weight, .ref a_p1_above], ia Z a_p1_above 572 p1_above2, ia Z a_p1_order 286 p1_order2, ia Z a_p1_weight 572 p1_weight2, ob a_t 5 [.ref a_t_code, .ref a_t_row, .int t_size, .int t_literals, .int t_distances, .int t_toldOfCode], ia Z a_t_code_count 19 t_code_count1, ob a_t_code 1 [.ref a_t_code_count, .ref a_t_code_length], ia Z a_t_code_length 19 t_code_length2] [(0, .ref a_t), (1, .ref a_p1), (2, .int v2_1)] 23 [.int r1]
      refine rw_bipush (pc := 23) (v := 7) (by decide) (rx_dt dt_LengthRow_makeCode 12 rfl) ?_
      rcases ite_some hm with ⟨hc, hm⟩ | ⟨hc, hm⟩
      · refine rw_icmp_le_t (pc := 25) (tgt := 49) hc (by decide) (rx_dt dt_LengthRow_makeCode 13 rfl) ?_
        refine rw_perm (lv' := [(0, .ref a_t)]) (ws' := [ob a_p1 4 [.ref a_p1_order, .ref a_p1_weight, .ref a_p1_above], ia Z a_p1_above 572 p1_above2, ia Z a_p1_order 286 p1_order2, ia Z a_p1_weight 572 p1_weight2, ob a_t 5 [.ref a_t_code, .ref a_t_row, .int t_size, .int t_literals, .int t_distances, .int t_toldOfCode], ob a_t_code 1 [.ref a_t_code_count, .ref a_t_code_length], ia Z a_t_code_count 19 t_code_count1, ia Z a_t_code_length 19 t_code_length2]) [0] [0, 1, 2, 3, 4, 6, 5, 7] rfl rfl rfl ?_
        cases hm
        exact K
      · refine rw_icmp_le_f (pc := 25) (tgt := 49) hc (by decide) (rx_dt dt_LengthRow_makeCode 13 rfl) ?_
        refine rw_aload_n (pc := 28) 0 rfl rfl (rx_dt dt_LengthRow_makeCode 14 rfl) ?_
        refine rw_get fa_LengthRow_14 (pc := 29) 4 rfl rfl (rx_dt dt_LengthRow_makeCode 15 rfl) ?_
        obtain ⟨t_code_count3, hq, hm⟩ := bnd1_some hm
        refine rw_callV cw_Code_halveCounts lk_LengthRow_76 ci_Code_halveCounts rfl (q := 6) rfl (c_Code_halveCounts l Z F (a_t := a_t_code) (a_t_count := a_t_code_count) (a_t_length := a_t_code_length) (n_t := 19) (t_count := t_code_count1) (o_t_count := t_code_count3) hq) [6, 5] [0, 1, 2, 3, 4, 7] rfl rfl rfl rfl (by decide) rfl (by decide) (fun h => h) (rest := []) (wr := [ob a_p1 4 [.ref a_p1_order, .ref a_p1_weight, .ref a_p1_above], ia Z a_p1_above 572 p1_above2, ia Z a_p1_order 286 p1_order2, ia Z a_p1_weight 572 p1_weight2, ob a_t 5 [.ref a_t_code, .ref a_t_row, .int t_size, .int t_literals, .int t_distances, .int t_toldOfCode], ia Z a_t_code_length 19 t_code_length2]) (Nat.le_of_ble_eq_true rfl) rfl (rx_dt dt_LengthRow_makeCode 16 rfl) (pc := 32) ?_
        rintro _ _ ⟨rfl, rfl⟩
        show J_LengthRow_makeCode l Z mc ms post k n [ob a_p1 4 [.ref a_p1_order, .ref a_p1_weight, .ref a_p1_above], ia Z a_p1_above 572 p1_above2, ia Z a_p1_order 286 p1_order2, ia Z a_p1_weight 572 p1_weight2, ob a_t 5 [.ref a_t_code, .ref a_t_row, .int t_size, .int t_literals, .int t_distances, .int t_toldOfCode], ia Z a_t_code_length 19 t_code_length2, ob a_t_code 1 [.ref a_t_code_count, .ref a_t_code_length], ia Z a_t_code_count 19 t_code_count3] [(0, .ref a_t), (1, .ref a_p1), (2, .int v2_1)] 35 []
        refine rw_aload_n (pc := 35) 1 rfl rfl (rx_dt dt_LengthRow_makeCode 17 rfl) ?_
        refine rw_aload_n (pc := 36) 0 rfl rfl (rx_dt dt_LengthRow_makeCode 18 rfl) ?_
        refine rw_get fa_LengthRow_14 (pc := 37) 4 rfl rfl (rx_dt dt_LengthRow_makeCode 19 rfl) ?_
        obtain ⟨t_code_length4, p1_above4, p1_order4, p1_weight4, hq, hm⟩ := bnd4_some hm
        refine rw_callV cw_Joiner_join lk_LengthRow_66 ci_Joiner_join rfl (q := 0) rfl (c_Joiner_join l Z F (a_p1 := a_t_code) (a_p1_count := a_t_code_count) (a_p1_length := a_t_code_length) (a_t := a_p1) (a_t_above := a_p1_above) (a_t_order := a_p1_order) (a_t_weight := a_p1_weight) (n_p1 := 19) (p1_count := t_code_count3) (p1_length := t_code_length2) (t_above := p1_above2) (t_order := p1_order2) (t_weight := p1_weight2) (o_p1_length := t_code_length4) (o_t_above := p1_above4) (o_t_order := p1_order4) (o_t_weight := p1_weight4) hq) [6, 7, 5, 0, 1, 2, 3] [4] rfl rfl rfl rfl (by decide) rfl (by decide) (fun h => h) (rest := []) (wr := [ob a_t 5 [.ref a_t_code, .ref a_t_row, .int t_size, .int t_literals, .int t_distances, .int t_toldOfCode]]) (Nat.le_of_ble_eq_true rfl) rfl (rx_dt dt_LengthRow_makeCode 20 rfl) (pc := 40) ?_
        rintro _ _ ⟨rfl, rfl⟩
        show J_LengthRow_makeCode l Z mc ms post k n [ob a_t 5 [.ref a_t_code, .ref a_t_row, .int t_size, .int t_literals, .int t_distances, .int t_toldOfCode], ob a_t_code 1 [.ref a_t_code_count, .ref a_t_code_length], ia Z a_t_code_count 19 t_code_count3, ia Z a_t_code_length 19 t_code_length4, ob a_p1 4 [.ref a_p1_order, .ref a_p1_weight, .ref a_p1_above], ia Z a_p1_above 572 p1_above4, ia Z a_p1_order 286 p1_order4, ia Z a_p1_weight 572 p1_weight4] [(0, .ref a_t), (1, .ref a_p1), (2, .int v2_1)] 43 []
        obtain ⟨y1, hy1, hm⟩ := nm_some hm
        refine rw_iinc (pc := 43) (lv' := [(2, .int y1), (0, .ref a_t), (1, .ref a_p1)]) 2 rfl hy1 (by decide) rfl (rx_dt dt_LengthRow_makeCode 21 rfl) ?_
        refine rw_goto (pc := 46) (tgt := 10) (by decide) (rx_dt dt_LengthRow_makeCode 22 rfl) ?_
        refine rw_perm (lv' := [(0, .ref a_t), (1, .ref a_p1), (2, .int y1)]) (ws' := [ob a_p1 4 [.ref a_p1_order, .ref a_p1_weight, .ref a_p1_above], ia Z a_p1_above 572 p1_above4, ia Z a_p1_order 286 p1_order4, ia Z a_p1_weight 572 p1_weight4, ob a_t 5 [.ref a_t_code, .ref a_t_row, .int t_size, .int t_literals, .int t_distances, .int t_toldOfCode], ob a_t_code 1 [.ref a_t_code_count, .ref a_t_code_length], ia Z a_t_code_count 19 t_code_count3, ia Z a_t_code_length 19 t_code_length4]) [1, 2, 0] [4, 5, 6, 7, 0, 1, 2, 3] rfl rfl rfl ?_
        exact ih  _ _ _ _ _ _ _ _ _ _ _ _ hm K
set_option maxRecDepth 100000 in
set_option maxHeartbeats 4000000 in
theorem wl_LengthRow_makeCode_55 (l : Launch) (Z : rx_D) (mc ms : Nat) (post : Option Value → va_W → Prop) (k n : Nat) (F : Nat) (a_p1 a_p1_above a_p1_order a_p1_weight a_t a_t_code a_t_code_count a_t_code_length a_t_row : Nat) (p1_above5 p1_order5 p1_weight5 t_code_count4 t_code_length5 : Nat → Int32) (t_distances t_literals t_size : Int32) : ∀ (f : Nat)  (t_toldOfCode_1 : Int32) (t_toldOfCode_2 : Int32), L_LengthRow_makeCode_55 F t_code_length5 f t_toldOfCode_1 = some t_toldOfCode_2 → (J_LengthRow_makeCode l Z mc ms post k n [ob a_p1 4 [.ref a_p1_order, .ref a_p1_weight, .ref a_p1_above], ia Z a_p1_above 572 p1_above5, ia Z a_p1_order 286 p1_order5, ia Z a_p1_weight 572 p1_weight5, ob a_t 5 [.ref a_t_code, .ref a_t_row, .int t_size, .int t_literals, .int t_distances, .int t_toldOfCode_2], ob a_t_code 1 [.ref a_t_code_count, .ref a_t_code_length], ia Z a_t_code_count 19 t_code_count4, ia Z a_t_code_length 19 t_code_length5] [] 97 []) → J_LengthRow_makeCode l Z mc ms post k n [ob a_p1 4 [.ref a_p1_order, .ref a_p1_weight, .ref a_p1_above], ia Z a_p1_above 572 p1_above5, ia Z a_p1_order 286 p1_order5, ia Z a_p1_weight 572 p1_weight5, ob a_t 5 [.ref a_t_code, .ref a_t_row, .int t_size, .int t_literals, .int t_distances, .int t_toldOfCode_1], ob a_t_code 1 [.ref a_t_code_count, .ref a_t_code_length], ia Z a_t_code_count 19 t_code_count4, ia Z a_t_code_length 19 t_code_length5] [(0, .ref a_t)] 55 [] := by
  intro f
  induction f with
  | zero =>
    intro t_toldOfCode_1 t_toldOfCode_2 hm K
    cases hm
  | succ f ih =>
    intro t_toldOfCode_1 t_toldOfCode_2 hm K
    have hm : B_LengthRow_makeCode_55 F t_code_length5 (L_LengthRow_makeCode_55 F t_code_length5 f) t_toldOfCode_1 = some t_toldOfCode_2 := hm
    unfold B_LengthRow_makeCode_55 at hm
    refine rw_aload_n (pc := 55) 0 rfl rfl (rx_dt dt_LengthRow_makeCode 26 rfl) ?_
    refine rw_get fa_LengthRow_34 (pc := 56) 4 rfl rfl (rx_dt dt_LengthRow_makeCode 27 rfl) ?_
    refine rw_iconst (pc := 59) (v := 4) rfl (rx_dt dt_LengthRow_makeCode 28 rfl) ?_
    rcases ite_some hm with ⟨hc, hm⟩ | ⟨hc, hm⟩
    · refine rw_icmp_le_t (pc := 60) (tgt := 97) hc (by decide) (rx_dt dt_LengthRow_makeCode 29 rfl) ?_
      refine rw_perm (lv' := []) (ws' := [ob a_p1 4 [.ref a_p1_order, .ref a_p1_weight, .ref a_p1_above], ia Z a_p1_above 572 p1_above5, ia Z a_p1_order 286 p1_order5, ia Z a_p1_weight 572 p1_weight5, ob a_t 5 [.ref a_t_code, .ref a_t_row, .int t_size, .int t_literals, .int t_distances, .int t_toldOfCode_1], ob a_t_code 1 [.ref a_t_code_count, .ref a_t_code_length], ia Z a_t_code_count 19 t_code_count4, ia Z a_t_code_length 19 t_code_length5]) [] [0, 1, 2, 3, 4, 5, 6, 7] rfl rfl rfl ?_
      cases hm
      exact K
    · refine rw_icmp_le_f (pc := 60) (tgt := 97) hc (by decide) (rx_dt dt_LengthRow_makeCode 29 rfl) ?_
      refine rw_aload_n (pc := 63) 0 rfl rfl (rx_dt dt_LengthRow_makeCode 30 rfl) ?_
      refine rw_get fa_LengthRow_14 (pc := 64) 4 rfl rfl (rx_dt dt_LengthRow_makeCode 31 rfl) ?_
      refine rw_get fa_LengthRow_50 (pc := 67) 5 rfl rfl (rx_dt dt_LengthRow_makeCode 32 rfl) ?_
      refine rw_tab sa_LengthRow_79 (pc := 70) (rx_dt dt_LengthRow_makeCode 33 rfl) ?_
      refine rw_aload_n (pc := 73) 0 rfl rfl (rx_dt dt_LengthRow_makeCode 34 rfl) ?_
      refine rw_get fa_LengthRow_34 (pc := 74) 4 rfl rfl (rx_dt dt_LengthRow_makeCode 35 rfl) ?_
      refine rw_iconst (pc := 77) (v := 1) rfl (rx_dt dt_LengthRow_makeCode 36 rfl) ?_
      refine rw_isub (pc := 78) (rx_dt dt_LengthRow_makeCode 37 rfl) ?_
      obtain ⟨hk1, hm⟩ := chk_some hm
      refine rw_tld (pc := 79) (by decide) hk1 (rx_dt dt_LengthRow_makeCode 38 rfl) ?_
      obtain ⟨hk2, hm⟩ := chk_some hm
      refine rw_iald (pc := 80) 7 rfl hk2 (rx_dt dt_LengthRow_makeCode 39 rfl) ?_
      rcases ite_some hm with ⟨hc, hm⟩ | ⟨hc, hm⟩
      · refine rw_if_ne_f (pc := 81) (tgt := 97) hc (by decide) (rx_dt dt_LengthRow_makeCode 40 rfl) ?_
        refine rw_aload_n (pc := 84) 0 rfl rfl (rx_dt dt_LengthRow_makeCode 41 rfl) ?_
        refine rw_dup (pc := 85) rfl (rx_dt dt_LengthRow_makeCode 42 rfl) ?_
        refine rw_get fa_LengthRow_34 (pc := 86) 4 rfl rfl (rx_dt dt_LengthRow_makeCode 43 rfl) ?_
        refine rw_iconst (pc := 89) (v := 1) rfl (rx_dt dt_LengthRow_makeCode 44 rfl) ?_
        refine rw_isub (pc := 90) (rx_dt dt_LengthRow_makeCode 45 rfl) ?_
        obtain ⟨y2, hy2, hm⟩ := nm_some hm
        refine rw_nm hy2 ?_
        refine rw_put fa_LengthRow_34 (pc := 91) (ws' := [ob a_p1 4 [.ref a_p1_order, .ref a_p1_weight, .ref a_p1_above], ia Z a_p1_above 572 p1_above5, ia Z a_p1_order 286 p1_order5, ia Z a_p1_weight 572 p1_weight5, ob a_t 5 [.ref a_t_code, .ref a_t_row, .int t_size, .int t_literals, .int t_distances, .int y2], ob a_t_code 1 [.ref a_t_code_count, .ref a_t_code_length], ia Z a_t_code_count 19 t_code_count4, ia Z a_t_code_length 19 t_code_length5]) 4 rfl rfl rfl (Nat.le_of_ble_eq_true rfl) rfl (rx_dt dt_LengthRow_makeCode 46 rfl) ?_
        refine rw_goto (pc := 94) (tgt := 55) (by decide) (rx_dt dt_LengthRow_makeCode 47 rfl) ?_
        exact ih  _ _ hm K
      · refine rw_if_ne_t (pc := 81) (tgt := 97) hc (by decide) (rx_dt dt_LengthRow_makeCode 40 rfl) ?_
        refine rw_perm (lv' := []) (ws' := [ob a_p1 4 [.ref a_p1_order, .ref a_p1_weight, .ref a_p1_above], ia Z a_p1_above 572 p1_above5, ia Z a_p1_order 286 p1_order5, ia Z a_p1_weight 572 p1_weight5, ob a_t 5 [.ref a_t_code, .ref a_t_row, .int t_size, .int t_literals, .int t_distances, .int t_toldOfCode_1], ob a_t_code 1 [.ref a_t_code_count, .ref a_t_code_length], ia Z a_t_code_count 19 t_code_count4, ia Z a_t_code_length 19 t_code_length5]) [] [0, 1, 2, 3, 4, 5, 6, 7] rfl rfl rfl ?_
        cases hm
        exact K
set_option maxRecDepth 100000 in
set_option maxHeartbeats 4000000 in
theorem w_LengthRow_makeCode (l : Launch) (Z : rx_D) (mc ms : Nat) (post : Option Value → va_W → Prop) (k n : Nat) (F : Nat) (a_p1 a_p1_above a_p1_order a_p1_weight a_t a_t_code a_t_code_count a_t_code_length a_t_row : Nat) (p1_above p1_order p1_weight t_code_count t_code_length : Nat → Int32) (t_distances t_literals t_size t_toldOfCode : Int32) (o_p1_above o_p1_order o_p1_weight : Nat → Int32) (o_t_toldOfCode : Int32) (o_t_code_count o_t_code_length : Nat → Int32) (hm : m_LengthRow_makeCode F p1_above p1_order p1_weight t_code_count t_code_length = some (o_p1_above, o_p1_order, o_p1_weight, o_t_toldOfCode, o_t_code_count, o_t_code_length)) (hp : post none [ob a_p1 4 [.ref a_p1_order, .ref a_p1_weight, .ref a_p1_above], ia Z a_p1_above 572 o_p1_above, ia Z a_p1_order 286 o_p1_order, ia Z a_p1_weight 572 o_p1_weight, ob a_t 5 [.ref a_t_code, .ref a_t_row, .int t_size, .int t_literals, .int t_distances, .int o_t_toldOfCode], ob a_t_code 1 [.ref a_t_code_count, .ref a_t_code_length], ia Z a_t_code_count 19 o_t_code_count, ia Z a_t_code_length 19 o_t_code_length]) : J_LengthRow_makeCode l Z mc ms post k n [ob a_p1 4 [.ref a_p1_order, .ref a_p1_weight, .ref a_p1_above], ia Z a_p1_above 572 p1_above, ia Z a_p1_order 286 p1_order, ia Z a_p1_weight 572 p1_weight, ob a_t 5 [.ref a_t_code, .ref a_t_row, .int t_size, .int t_literals, .int t_distances, .int t_toldOfCode], ob a_t_code 1 [.ref a_t_code_count, .ref a_t_code_length], ia Z a_t_code_count 19 t_code_count, ia Z a_t_code_length 19 t_code_length] [(0, .ref a_t), (1, .ref a_p1)] 0 [] := by
  unfold m_LengthRow_makeCode at hm
  refine rw_aload_n (pc := 0) 1 rfl rfl (rx_dt dt_LengthRow_makeCode 0 rfl) ?_
  refine rw_aload_n (pc := 1) 0 rfl rfl (rx_dt dt_LengthRow_makeCode 1 rfl) ?_
  refine rw_get fa_LengthRow_14 (pc := 2) 4 rfl rfl (rx_dt dt_LengthRow_makeCode 2 rfl) ?_
  obtain ⟨t_code_length1, p1_above1, p1_order1, p1_weight1, hq, hm⟩ := bnd4_some hm
  refine rw_callV cw_Joiner_join lk_LengthRow_66 ci_Joiner_join rfl (q := 0) rfl (c_Joiner_join l Z F (a_p1 := a_t_code) (a_p1_count := a_t_code_count) (a_p1_length := a_t_code_length) (a_t := a_p1) (a_t_above := a_p1_above) (a_t_order := a_p1_order) (a_t_weight := a_p1_weight) (n_p1 := 19) (p1_count := t_code_count) (p1_length := t_code_length) (t_above := p1_above) (t_order := p1_order) (t_weight := p1_weight) (o_p1_length := t_code_length1) (o_t_above := p1_above1) (o_t_order := p1_order1) (o_t_weight := p1_weight1) hq) [5, 6, 7, 0, 1, 2, 3] [4] rfl rfl rfl rfl (by decide) rfl (by decide) (fun h => h) (rest := []) (wr := [ob a_t 5 [.ref a_t_code, .ref a_t_row, .int t_size, .int t_literals, .int t_distances, .int t_toldOfCode]]) (Nat.le_of_ble_eq_true rfl) rfl (rx_dt dt_LengthRow_makeCode 3 rfl) (pc := 5) ?_
  rintro _ _ ⟨rfl, rfl⟩
  show J_LengthRow_makeCode l Z mc ms post k n [ob a_t 5 [.ref a_t_code, .ref a_t_row, .int t_size, .int t_literals, .int t_distances, .int t_toldOfCode], ob a_t_code 1 [.ref a_t_code_count, .ref a_t_code_length], ia Z a_t_code_count 19 t_code_count, ia Z a_t_code_length 19 t_code_length1, ob a_p1 4 [.ref a_p1_order, .ref a_p1_weight, .ref a_p1_above], ia Z a_p1_above 572 p1_above1, ia Z a_p1_order 286 p1_order1, ia Z a_p1_weight 572 p1_weight1] [(0, .ref a_t), (1, .ref a_p1)] 8 []
  refine rw_iconst (pc := 8) (v := 0) rfl (rx_dt dt_LengthRow_makeCode 4 rfl) ?_
  refine rw_istore_n (pc := 9) (lv' := [(2, .int (0 : Int32)), (0, .ref a_t), (1, .ref a_p1)]) rfl (by decide) rfl (rx_dt dt_LengthRow_makeCode 5 rfl) ?_
  obtain ⟨v2_3, p1_above5, p1_order5, p1_weight5, t_code_count4, t_code_length5, hl, hm⟩ := bnd6_some hm
  refine rw_perm (lv' := [(0, .ref a_t), (1, .ref a_p1), (2, .int (0 : Int32))]) (ws' := [ob a_p1 4 [.ref a_p1_order, .ref a_p1_weight, .ref a_p1_above], ia Z a_p1_above 572 p1_above1, ia Z a_p1_order 286 p1_order1, ia Z a_p1_weight 572 p1_weight1, ob a_t 5 [.ref a_t_code, .ref a_t_row, .int t_size, .int t_literals, .int t_distances, .int t_toldOfCode], ob a_t_code 1 [.ref a_t_code_count, .ref a_t_code_length], ia Z a_t_code_count 19 t_code_count, ia Z a_t_code_length 19 t_code_length1]) [1, 2, 0] [4, 5, 6, 7, 0, 1, 2, 3] rfl rfl rfl ?_
  refine wl_LengthRow_makeCode_10 l Z mc ms post k n F a_p1 a_p1_above a_p1_order a_p1_weight a_t a_t_code a_t_code_count a_t_code_length a_t_row t_distances t_literals t_size t_toldOfCode F  (0 : Int32) p1_above1 p1_order1 p1_weight1 t_code_count t_code_length1 v2_3 p1_above5 p1_order5 p1_weight5 t_code_count4 t_code_length5 hl ?_
  refine rw_aload_n (pc := 49) 0 rfl rfl (rx_dt dt_LengthRow_makeCode 23 rfl) ?_
  refine rw_bipush (pc := 50) (v := 19) (by decide) (rx_dt dt_LengthRow_makeCode 24 rfl) ?_
  refine rw_put fa_LengthRow_34 (pc := 52) (ws' := [ob a_p1 4 [.ref a_p1_order, .ref a_p1_weight, .ref a_p1_above], ia Z a_p1_above 572 p1_above5, ia Z a_p1_order 286 p1_order5, ia Z a_p1_weight 572 p1_weight5, ob a_t 5 [.ref a_t_code, .ref a_t_row, .int t_size, .int t_literals, .int t_distances, .int (19 : Int32)], ob a_t_code 1 [.ref a_t_code_count, .ref a_t_code_length], ia Z a_t_code_count 19 t_code_count4, ia Z a_t_code_length 19 t_code_length5]) 4 rfl rfl rfl (Nat.le_of_ble_eq_true rfl) rfl (rx_dt dt_LengthRow_makeCode 25 rfl) ?_
  obtain ⟨t_toldOfCode_3, hl, hm⟩ := bnd1_some hm
  refine wl_LengthRow_makeCode_55 l Z mc ms post k n F a_p1 a_p1_above a_p1_order a_p1_weight a_t a_t_code a_t_code_count a_t_code_length a_t_row p1_above5 p1_order5 p1_weight5 t_code_count4 t_code_length5 t_distances t_literals t_size F  (19 : Int32) t_toldOfCode_3 hl ?_
  cases hm
  exact rw_vret (pc := 97) (rx_dt dt_LengthRow_makeCode 48 rfl) hp
theorem c_LengthRow_makeCode (l : Launch) (Z : rx_D) (F : Nat) (a_p1 a_p1_above a_p1_order a_p1_weight a_t a_t_code a_t_code_count a_t_code_length a_t_row : Nat) (p1_above p1_order p1_weight t_code_count t_code_length : Nat → Int32) (t_distances t_literals t_size t_toldOfCode : Int32) (o_p1_above o_p1_order o_p1_weight : Nat → Int32) (o_t_toldOfCode : Int32) (o_t_code_count o_t_code_length : Nat → Int32) (hm : m_LengthRow_makeCode F p1_above p1_order p1_weight t_code_count t_code_length = some (o_p1_above, o_p1_order, o_p1_weight, o_t_toldOfCode, o_t_code_count, o_t_code_length)) : Cn l Z y_LengthRow_makeCode b_LengthRow_makeCode 3 none 2 [.ref a_t, .ref a_p1] [ob a_p1 4 [.ref a_p1_order, .ref a_p1_weight, .ref a_p1_above], ia Z a_p1_above 572 p1_above, ia Z a_p1_order 286 p1_order, ia Z a_p1_weight 572 p1_weight, ob a_t 5 [.ref a_t_code, .ref a_t_row, .int t_size, .int t_literals, .int t_distances, .int t_toldOfCode], ob a_t_code 1 [.ref a_t_code_count, .ref a_t_code_length], ia Z a_t_code_count 19 t_code_count, ia Z a_t_code_length 19 t_code_length] 0 0 (fun r w => r = none ∧ w = [ob a_p1 4 [.ref a_p1_order, .ref a_p1_weight, .ref a_p1_above], ia Z a_p1_above 572 o_p1_above, ia Z a_p1_order 286 o_p1_order, ia Z a_p1_weight 572 o_p1_weight, ob a_t 5 [.ref a_t_code, .ref a_t_row, .int t_size, .int t_literals, .int t_distances, .int o_t_toldOfCode], ob a_t_code 1 [.ref a_t_code_count, .ref a_t_code_length], ia Z a_t_code_count 19 o_t_code_count, ia Z a_t_code_length 19 o_t_code_length]) :=
  rx_met "DeflateEffort$LengthRow" "makeCode" mf_LengthRow_makeCode (Nat.le_of_ble_eq_true rfl) rfl (by rintro _ _ ⟨h9, _⟩; cases h9) (w_LengthRow_makeCode l Z 0 0 _ 0 0 F a_p1 a_p1_above a_p1_order a_p1_weight a_t a_t_code a_t_code_count a_t_code_length a_t_row p1_above p1_order p1_weight t_code_count t_code_length t_distances t_literals t_size t_toldOfCode o_p1_above o_p1_order o_p1_weight o_t_toldOfCode o_t_code_count o_t_code_length hm ⟨rfl, rfl⟩)
abbrev J_DE_literalExtra (l : Launch) (Z : rx_D) (mc ms : Nat) (post : Option Value → va_W → Prop) := Rw l Z "DeflateEffort" "literalExtra" b_DE_literalExtra 2 (some .int) 0 mc ms post
set_option maxRecDepth 100000 in
set_option maxHeartbeats 4000000 in
theorem w_DE_literalExtra (l : Launch) (Z : rx_D) (mc ms : Nat) (post : Option Value → va_W → Prop) (k n : Nat) (F : Nat) (x0 : Int32) (r0 : Int32) (hm : m_DE_literalExtra F x0 = some r0) (hp : post (some (.int r0)) []) : J_DE_literalExtra l Z mc ms post k n [] [(0, .int x0)] 0 [] := by
  unfold m_DE_literalExtra at hm
  refine rw_iload_n (pc := 0) 0 rfl rfl (rx_dt dt_DE_literalExtra 0 rfl) ?_
  refine rw_sipush (pc := 1) (v := 256) (by decide) (rx_dt dt_DE_literalExtra 1 rfl) ?_
  refine rw_isub (pc := 4) (rx_dt dt_DE_literalExtra 2 rfl) ?_
  refine rw_iconst (pc := 5) (v := 1) rfl (rx_dt dt_DE_literalExtra 3 rfl) ?_
  refine rw_isub (pc := 6) (rx_dt dt_DE_literalExtra 4 rfl) ?_
  obtain ⟨y1, hy1, hm⟩ := nm_some hm
  refine rw_nm hy1 ?_
  refine rw_istore_n (pc := 7) (lv' := [(1, .int y1), (0, .int x0)]) rfl (by decide) rfl (rx_dt dt_DE_literalExtra 5 rfl) ?_
  refine rw_iload_n (pc := 8) 0 rfl rfl (rx_dt dt_DE_literalExtra 6 rfl) ?_
  rcases ite_some hm with ⟨hc, hm⟩ | ⟨hc, hm⟩
  · refine rw_if_lt_t (pc := 9) (tgt := 28) hc (by decide) (rx_dt dt_DE_literalExtra 7 rfl) ?_
    refine rw_iconst (pc := 28) (v := 0) rfl (rx_dt dt_DE_literalExtra 16 rfl) ?_
    refine rw_perm (lv' := []) (ws' := []) [] [] rfl rfl rfl ?_
    cases hm
    exact rw_iret (pc := 29) (rx_dt dt_DE_literalExtra 17 rfl) hp
  · refine rw_if_lt_f (pc := 9) (tgt := 28) hc (by decide) (rx_dt dt_DE_literalExtra 7 rfl) ?_
    refine rw_iload_n (pc := 12) 0 rfl rfl (rx_dt dt_DE_literalExtra 8 rfl) ?_
    refine rw_tab sa_DE_198 (pc := 13) (rx_dt dt_DE_literalExtra 9 rfl) ?_
    refine rw_tlen (pc := 16) (by decide) (rx_dt dt_DE_literalExtra 10 rfl) ?_
    rcases ite_some hm with ⟨hc, hm⟩ | ⟨hc, hm⟩
    · refine rw_icmp_ge_t (pc := 17) (tgt := 28) hc (by decide) (rx_dt dt_DE_literalExtra 11 rfl) ?_
      refine rw_iconst (pc := 28) (v := 0) rfl (rx_dt dt_DE_literalExtra 16 rfl) ?_
      refine rw_perm (lv' := []) (ws' := []) [] [] rfl rfl rfl ?_
      cases hm
      exact rw_iret (pc := 29) (rx_dt dt_DE_literalExtra 17 rfl) hp
    · refine rw_icmp_ge_f (pc := 17) (tgt := 28) hc (by decide) (rx_dt dt_DE_literalExtra 11 rfl) ?_
      refine rw_tab sa_DE_198 (pc := 20) (rx_dt dt_DE_literalExtra 12 rfl) ?_
      refine rw_iload_n (pc := 23) 0 rfl rfl (rx_dt dt_DE_literalExtra 13 rfl) ?_
      obtain ⟨hk1, hm⟩ := chk_some hm
      refine rw_tld (pc := 24) (by decide) hk1 (rx_dt dt_DE_literalExtra 14 rfl) ?_
      refine rw_goto (pc := 25) (tgt := 29) (by decide) (rx_dt dt_DE_literalExtra 15 rfl) ?_
      refine rw_perm (lv' := []) (ws' := []) [] [] rfl rfl rfl ?_
      cases hm
      exact rw_iret (pc := 29) (rx_dt dt_DE_literalExtra 17 rfl) hp
theorem c_DE_literalExtra (l : Launch) (Z : rx_D) (F : Nat) (x0 : Int32) (r0 : Int32) (hm : m_DE_literalExtra F x0 = some r0) : Cn l Z y_DE_literalExtra b_DE_literalExtra 2 (some .int) 0 [.int x0] [] 0 0 (fun r w => r = (some (.int r0)) ∧ w = []) :=
  rx_met "DeflateEffort" "literalExtra" mf_DE_literalExtra (Nat.le_of_ble_eq_true rfl) rfl (by rintro _ _ ⟨h9, _⟩; cases h9) (w_DE_literalExtra l Z 0 0 _ 0 0 F x0 r0 hm ⟨rfl, rfl⟩)
abbrev J_Plan_extraBits (l : Launch) (Z : rx_D) (mc ms : Nat) (post : Option Value → va_W → Prop) := Rw l Z "DeflateEffort$Plan" "extraBits" b_Plan_extraBits 3 (some .int) 1 mc ms post
set_option maxRecDepth 100000 in
set_option maxHeartbeats 4000000 in
theorem wl_Plan_extraBits_6 (l : Launch) (Z : rx_D) (mc ms : Nat) (post : Option Value → va_W → Prop) (k n : Nat) (F : Nat) (a_t a_t_distances a_t_distances_count a_t_distances_length a_t_literals a_t_literals_count a_t_literals_length a_t_token : Nat) (t_bits : Int32) (t_distances_count : Nat → Int32) (t_kind : Int32) (t_literals_count : Nat → Int32) (t_matches t_size : Int32) : ∀ (f : Nat)  (v1_1 v2_1 : Int32) (v1_2 v2_2 : Int32), L_Plan_extraBits_6 F t_literals_count f v1_1 v2_1 = some (v1_2, v2_2) → (J_Plan_extraBits l Z mc ms post k n [ob a_t 7 [.ref a_t_token, .int t_size, .int t_matches, .ref a_t_literals, .ref a_t_distances, .int t_kind, .int t_bits], ob a_t_distances 1 [.ref a_t_distances_count, .ref a_t_distances_length], ia Z a_t_distances_count 30 t_distances_count, ob a_t_literals 1 [.ref a_t_literals_count, .ref a_t_literals_length], ia Z a_t_literals_count 286 t_literals_count] [(0, .ref a_t), (1, .int v1_2)] 36 []) → J_Plan_extraBits l Z mc ms post k n [ob a_t 7 [.ref a_t_token, .int t_size, .int t_matches, .ref a_t_literals, .ref a_t_distances, .int t_kind, .int t_bits], ob a_t_distances 1 [.ref a_t_distances_count, .ref a_t_distances_length], ia Z a_t_distances_count 30 t_distances_count, ob a_t_literals 1 [.ref a_t_literals_count, .ref a_t_literals_length], ia Z a_t_literals_count 286 t_literals_count] [(0, .ref a_t), (1, .int v1_1), (2, .int v2_1)] 6 [] := by
  intro f
  induction f with
  | zero =>
    intro v1_1 v2_1 v1_2 v2_2 hm K
    cases hm
  | succ f ih =>
    intro v1_1 v2_1 v1_2 v2_2 hm K
    have hm : B_Plan_extraBits_6 F t_literals_count (L_Plan_extraBits_6 F t_literals_count f) v1_1 v2_1 = some (v1_2, v2_2) := hm
    unfold B_Plan_extraBits_6 at hm
    refine rw_iload_n (pc := 6) 2 rfl rfl (rx_dt dt_Plan_extraBits 4 rfl) ?_
    refine rw_sipush (pc := 7) (v := 286) (by decide) (rx_dt dt_Plan_extraBits 5 rfl) ?_
    rcases ite_some hm with ⟨hc, hm⟩ | ⟨hc, hm⟩
    · refine rw_icmp_ge_t (pc := 10) (tgt := 36) hc (by decide) (rx_dt dt_Plan_extraBits 6 rfl) ?_
      refine rw_perm (lv' := [(0, .ref a_t), (1, .int v1_1)]) (ws' := [ob a_t 7 [.ref a_t_token, .int t_size, .int t_matches, .ref a_t_literals, .ref a_t_distances, .int t_kind, .int t_bits], ob a_t_distances 1 [.ref a_t_distances_count, .ref a_t_distances_length], ia Z a_t_distances_count 30 t_distances_count, ob a_t_literals 1 [.ref a_t_literals_count, .ref a_t_literals_length], ia Z a_t_literals_count 286 t_literals_count]) [0, 1] [0, 1, 2, 3, 4] rfl rfl rfl ?_
      cases hm
      exact K
    · refine rw_icmp_ge_f (pc := 10) (tgt := 36) hc (by decide) (rx_dt dt_Plan_extraBits 6 rfl) ?_
      refine rw_iload_n (pc := 13) 1 rfl rfl (rx_dt dt_Plan_extraBits 7 rfl) ?_
      refine rw_aload_n (pc := 14) 0 rfl rfl (rx_dt dt_Plan_extraBits 8 rfl) ?_
      refine rw_get fa_Plan_27 (pc := 15) 0 rfl rfl (rx_dt dt_Plan_extraBits 9 rfl) ?_
      refine rw_get fa_Plan_40 (pc := 18) 3 rfl rfl (rx_dt dt_Plan_extraBits 10 rfl) ?_
      refine rw_iload_n (pc := 21) 2 rfl rfl (rx_dt dt_Plan_extraBits 11 rfl) ?_
      obtain ⟨hk1, hm⟩ := chk_some hm
      refine rw_iald (pc := 22) 4 rfl hk1 (rx_dt dt_Plan_extraBits 12 rfl) ?_
      refine rw_iload_n (pc := 23) 2 rfl rfl (rx_dt dt_Plan_extraBits 13 rfl) ?_
      obtain ⟨r1, hq, hm⟩ := bnd1_some hm
      refine rw_callS cw_DE_literalExtra lk_Plan_97 cs_DE_literalExtra (c_DE_literalExtra l Z F (x0 := v2_1) (r0 := r1) hq) [] [0, 1, 2, 3, 4] rfl rfl rfl rfl (by decide) rfl (by decide) (fun h => h) (rest := [.int (t_literals_count v2_1.toNatClampNeg), .int v1_1]) (wr := [ob a_t 7 [.ref a_t_token, .int t_size, .int t_matches, .ref a_t_literals, .ref a_t_distances, .int t_kind, .int t_bits], ob a_t_distances 1 [.ref a_t_distances_count, .ref a_t_distances_length], ia Z a_t_distances_count 30 t_distances_count, ob a_t_literals 1 [.ref a_t_literals_count, .ref a_t_literals_length], ia Z a_t_literals_count 286 t_literals_count]) (Nat.le_of_ble_eq_true rfl) rfl (rx_dt dt_Plan_extraBits 14 rfl) (pc := 24) ?_
      rintro _ _ ⟨rfl, rfl⟩
      show J_Plan_extraBits l Z mc ms post k n [ob a_t 7 [.ref a_t_token, .int t_size, .int t_matches, .ref a_t_literals, .ref a_t_distances, .int t_kind, .int t_bits], ob a_t_distances 1 [.ref a_t_distances_count, .ref a_t_distances_length], ia Z a_t_distances_count 30 t_distances_count, ob a_t_literals 1 [.ref a_t_literals_count, .ref a_t_literals_length], ia Z a_t_literals_count 286 t_literals_count] [(0, .ref a_t), (1, .int v1_1), (2, .int v2_1)] 27 [.int r1, .int (t_literals_count v2_1.toNatClampNeg), .int v1_1]
      refine rw_imul (pc := 27) (rx_dt dt_Plan_extraBits 15 rfl) ?_
      refine rw_iadd (pc := 28) (rx_dt dt_Plan_extraBits 16 rfl) ?_
      obtain ⟨y1, hy1, hm⟩ := nm_some hm
      refine rw_nm hy1 ?_
      refine rw_istore_n (pc := 29) (lv' := [(1, .int y1), (0, .ref a_t), (2, .int v2_1)]) rfl (by decide) rfl (rx_dt dt_Plan_extraBits 17 rfl) ?_
      obtain ⟨y2, hy2, hm⟩ := nm_some hm
      refine rw_iinc (pc := 30) (lv' := [(2, .int y2), (1, .int y1), (0, .ref a_t)]) 2 rfl hy2 (by decide) rfl (rx_dt dt_Plan_extraBits 18 rfl) ?_
      refine rw_goto (pc := 33) (tgt := 6) (by decide) (rx_dt dt_Plan_extraBits 19 rfl) ?_
      refine rw_perm (lv' := [(0, .ref a_t), (1, .int y1), (2, .int y2)]) (ws' := [ob a_t 7 [.ref a_t_token, .int t_size, .int t_matches, .ref a_t_literals, .ref a_t_distances, .int t_kind, .int t_bits], ob a_t_distances 1 [.ref a_t_distances_count, .ref a_t_distances_length], ia Z a_t_distances_count 30 t_distances_count, ob a_t_literals 1 [.ref a_t_literals_count, .ref a_t_literals_length], ia Z a_t_literals_count 286 t_literals_count]) [2, 1, 0] [0, 1, 2, 3, 4] rfl rfl rfl ?_
      exact ih  _ _ _ _ hm K
set_option maxRecDepth 100000 in
set_option maxHeartbeats 4000000 in
theorem wl_Plan_extraBits_38 (l : Launch) (Z : rx_D) (mc ms : Nat) (post : Option Value → va_W → Prop) (k n : Nat) (F : Nat) (a_t a_t_distances a_t_distances_count a_t_distances_length a_t_literals a_t_literals_count a_t_literals_length a_t_token : Nat) (t_bits : Int32) (t_distances_count : Nat → Int32) (t_kind : Int32) (t_literals_count : Nat → Int32) (t_matches t_size : Int32) : ∀ (f : Nat)  (v1_4 v2_4 : Int32) (v1_5 v2_5 : Int32), L_Plan_extraBits_38 F t_distances_count f v1_4 v2_4 = some (v1_5, v2_5) → (J_Plan_extraBits l Z mc ms post k n [ob a_t 7 [.ref a_t_token, .int t_size, .int t_matches, .ref a_t_literals, .ref a_t_distances, .int t_kind, .int t_bits], ob a_t_distances 1 [.ref a_t_distances_count, .ref a_t_distances_length], ia Z a_t_distances_count 30 t_distances_count, ob a_t_literals 1 [.ref a_t_literals_count, .ref a_t_literals_length], ia Z a_t_literals_count 286 t_literals_count] [(1, .int v1_5)] 68 []) → J_Plan_extraBits l Z mc ms post k n [ob a_t 7 [.ref a_t_token, .int t_size, .int t_matches, .ref a_t_literals, .ref a_t_distances, .int t_kind, .int t_bits], ob a_t_distances 1 [.ref a_t_distances_count, .ref a_t_distances_length], ia Z a_t_distances_count 30 t_distances_count, ob a_t_literals 1 [.ref a_t_literals_count, .ref a_t_literals_length], ia Z a_t_literals_count 286 t_literals_count] [(0, .ref a_t), (1, .int v1_4), (2, .int v2_4)] 38 [] := by
  intro f
  induction f with
  | zero =>
    intro v1_4 v2_4 v1_5 v2_5 hm K
    cases hm
  | succ f ih =>
    intro v1_4 v2_4 v1_5 v2_5 hm K
    have hm : B_Plan_extraBits_38 F t_distances_count (L_Plan_extraBits_38 F t_distances_count f) v1_4 v2_4 = some (v1_5, v2_5) := hm
    unfold B_Plan_extraBits_38 at hm
    refine rw_iload_n (pc := 38) 2 rfl rfl (rx_dt dt_Plan_extraBits 22 rfl) ?_
    refine rw_bipush (pc := 39) (v := 30) (by decide) (rx_dt dt_Plan_extraBits 23 rfl) ?_
    rcases ite_some hm with ⟨hc, hm⟩ | ⟨hc, hm⟩
    · refine rw_icmp_ge_t (pc := 41) (tgt := 68) hc (by decide) (rx_dt dt_Plan_extraBits 24 rfl) ?_
      refine rw_perm (lv' := [(1, .int v1_4)]) (ws' := [ob a_t 7 [.ref a_t_token, .int t_size, .int t_matches, .ref a_t_literals, .ref a_t_distances, .int t_kind, .int t_bits], ob a_t_distances 1 [.ref a_t_distances_count, .ref a_t_distances_length], ia Z a_t_distances_count 30 t_distances_count, ob a_t_literals 1 [.ref a_t_literals_count, .ref a_t_literals_length], ia Z a_t_literals_count 286 t_literals_count]) [1] [0, 1, 2, 3, 4] rfl rfl rfl ?_
      cases hm
      exact K
    · refine rw_icmp_ge_f (pc := 41) (tgt := 68) hc (by decide) (rx_dt dt_Plan_extraBits 24 rfl) ?_
      refine rw_iload_n (pc := 44) 1 rfl rfl (rx_dt dt_Plan_extraBits 25 rfl) ?_
      refine rw_aload_n (pc := 45) 0 rfl rfl (rx_dt dt_Plan_extraBits 26 rfl) ?_
      refine rw_get fa_Plan_31 (pc := 46) 0 rfl rfl (rx_dt dt_Plan_extraBits 27 rfl) ?_
      refine rw_get fa_Plan_40 (pc := 49) 1 rfl rfl (rx_dt dt_Plan_extraBits 28 rfl) ?_
      refine rw_iload_n (pc := 52) 2 rfl rfl (rx_dt dt_Plan_extraBits 29 rfl) ?_
      obtain ⟨hk2, hm⟩ := chk_some hm
      refine rw_iald (pc := 53) 2 rfl hk2 (rx_dt dt_Plan_extraBits 30 rfl) ?_
      refine rw_tab sa_Plan_100 (pc := 54) (rx_dt dt_Plan_extraBits 31 rfl) ?_
      refine rw_iload_n (pc := 57) 2 rfl rfl (rx_dt dt_Plan_extraBits 32 rfl) ?_
      obtain ⟨hk3, hm⟩ := chk_some hm
      refine rw_tld (pc := 58) (by decide) hk3 (rx_dt dt_Plan_extraBits 33 rfl) ?_
      refine rw_imul (pc := 59) (rx_dt dt_Plan_extraBits 34 rfl) ?_
      refine rw_iadd (pc := 60) (rx_dt dt_Plan_extraBits 35 rfl) ?_
      obtain ⟨y3, hy3, hm⟩ := nm_some hm
      refine rw_nm hy3 ?_
      refine rw_istore_n (pc := 61) (lv' := [(1, .int y3), (0, .ref a_t), (2, .int v2_4)]) rfl (by decide) rfl (rx_dt dt_Plan_extraBits 36 rfl) ?_
      obtain ⟨y4, hy4, hm⟩ := nm_some hm
      refine rw_iinc (pc := 62) (lv' := [(2, .int y4), (1, .int y3), (0, .ref a_t)]) 2 rfl hy4 (by decide) rfl (rx_dt dt_Plan_extraBits 37 rfl) ?_
      refine rw_goto (pc := 65) (tgt := 38) (by decide) (rx_dt dt_Plan_extraBits 38 rfl) ?_
      refine rw_perm (lv' := [(0, .ref a_t), (1, .int y3), (2, .int y4)]) (ws' := [ob a_t 7 [.ref a_t_token, .int t_size, .int t_matches, .ref a_t_literals, .ref a_t_distances, .int t_kind, .int t_bits], ob a_t_distances 1 [.ref a_t_distances_count, .ref a_t_distances_length], ia Z a_t_distances_count 30 t_distances_count, ob a_t_literals 1 [.ref a_t_literals_count, .ref a_t_literals_length], ia Z a_t_literals_count 286 t_literals_count]) [2, 1, 0] [0, 1, 2, 3, 4] rfl rfl rfl ?_
      exact ih  _ _ _ _ hm K
set_option maxRecDepth 100000 in
set_option maxHeartbeats 4000000 in
theorem w_Plan_extraBits (l : Launch) (Z : rx_D) (mc ms : Nat) (post : Option Value → va_W → Prop) (k n : Nat) (F : Nat) (a_t a_t_distances a_t_distances_count a_t_distances_length a_t_literals a_t_literals_count a_t_literals_length a_t_token : Nat) (t_bits : Int32) (t_distances_count : Nat → Int32) (t_kind : Int32) (t_literals_count : Nat → Int32) (t_matches t_size : Int32) (r0 : Int32) (hm : m_Plan_extraBits F t_distances_count t_literals_count = some r0) (hp : post (some (.int r0)) [ob a_t 7 [.ref a_t_token, .int t_size, .int t_matches, .ref a_t_literals, .ref a_t_distances, .int t_kind, .int t_bits], ob a_t_distances 1 [.ref a_t_distances_count, .ref a_t_distances_length], ia Z a_t_distances_count 30 t_distances_count, ob a_t_literals 1 [.ref a_t_literals_count, .ref a_t_literals_length], ia Z a_t_literals_count 286 t_literals_count]) : J_Plan_extraBits l Z mc ms post k n [ob a_t 7 [.ref a_t_token, .int t_size, .int t_matches, .ref a_t_literals, .ref a_t_distances, .int t_kind, .int t_bits], ob a_t_distances 1 [.ref a_t_distances_count, .ref a_t_distances_length], ia Z a_t_distances_count 30 t_distances_count, ob a_t_literals 1 [.ref a_t_literals_count, .ref a_t_literals_length], ia Z a_t_literals_count 286 t_literals_count] [(0, .ref a_t)] 0 [] := by
  unfold m_Plan_extraBits at hm
  refine rw_iconst (pc := 0) (v := 0) rfl (rx_dt dt_Plan_extraBits 0 rfl) ?_
  refine rw_istore_n (pc := 1) (lv' := [(1, .int (0 : Int32)), (0, .ref a_t)]) rfl (by decide) rfl (rx_dt dt_Plan_extraBits 1 rfl) ?_
  refine rw_sipush (pc := 2) (v := 257) (by decide) (rx_dt dt_Plan_extraBits 2 rfl) ?_
  refine rw_istore_n (pc := 5) (lv' := [(2, .int (257 : Int32)), (1, .int (0 : Int32)), (0, .ref a_t)]) rfl (by decide) rfl (rx_dt dt_Plan_extraBits 3 rfl) ?_
  obtain ⟨v1_3, v2_3, hl, hm⟩ := bnd2_some hm
  refine rw_perm (lv' := [(0, .ref a_t), (1, .int (0 : Int32)), (2, .int (257 : Int32))]) (ws' := [ob a_t 7 [.ref a_t_token, .int t_size, .int t_matches, .ref a_t_literals, .ref a_t_distances, .int t_kind, .int t_bits], ob a_t_distances 1 [.ref a_t_distances_count, .ref a_t_distances_length], ia Z a_t_distances_count 30 t_distances_count, ob a_t_literals 1 [.ref a_t_literals_count, .ref a_t_literals_length], ia Z a_t_literals_count 286 t_literals_count]) [2, 1, 0] [0, 1, 2, 3, 4] rfl rfl rfl ?_
  refine wl_Plan_extraBits_6 l Z mc ms post k n F a_t a_t_distances a_t_distances_count a_t_distances_length a_t_literals a_t_literals_count a_t_literals_length a_t_token t_bits t_distances_count t_kind t_literals_count t_matches t_size F  (0 : Int32) (257 : Int32) v1_3 v2_3 hl ?_
  refine rw_iconst (pc := 36) (v := 0) rfl (rx_dt dt_Plan_extraBits 20 rfl) ?_
  refine rw_istore_n (pc := 37) (lv' := [(2, .int (0 : Int32)), (0, .ref a_t), (1, .int v1_3)]) rfl (by decide) rfl (rx_dt dt_Plan_extraBits 21 rfl) ?_
  obtain ⟨v1_6, v2_6, hl, hm⟩ := bnd2_some hm
  refine rw_perm (lv' := [(0, .ref a_t), (1, .int v1_3), (2, .int (0 : Int32))]) (ws' := [ob a_t 7 [.ref a_t_token, .int t_size, .int t_matches, .ref a_t_literals, .ref a_t_distances, .int t_kind, .int t_bits], ob a_t_distances 1 [.ref a_t_distances_count, .ref a_t_distances_length], ia Z a_t_distances_count 30 t_distances_count, ob a_t_literals 1 [.ref a_t_literals_count, .ref a_t_literals_length], ia Z a_t_literals_count 286 t_literals_count]) [1, 2, 0] [0, 1, 2, 3, 4] rfl rfl rfl ?_
  refine wl_Plan_extraBits_38 l Z mc ms post k n F a_t a_t_distances a_t_distances_count a_t_distances_length a_t_literals a_t_literals_count a_t_literals_length a_t_token t_bits t_distances_count t_kind t_literals_count t_matches t_size F  v1_3 (0 : Int32) v1_6 v2_6 hl ?_
  refine rw_iload_n (pc := 68) 0 rfl rfl (rx_dt dt_Plan_extraBits 39 rfl) ?_
  refine rw_perm (lv' := []) (ws' := [ob a_t 7 [.ref a_t_token, .int t_size, .int t_matches, .ref a_t_literals, .ref a_t_distances, .int t_kind, .int t_bits], ob a_t_distances 1 [.ref a_t_distances_count, .ref a_t_distances_length], ia Z a_t_distances_count 30 t_distances_count, ob a_t_literals 1 [.ref a_t_literals_count, .ref a_t_literals_length], ia Z a_t_literals_count 286 t_literals_count]) [] [0, 1, 2, 3, 4] rfl rfl rfl ?_
  cases hm
  exact rw_iret (pc := 69) (rx_dt dt_Plan_extraBits 40 rfl) hp
theorem c_Plan_extraBits (l : Launch) (Z : rx_D) (F : Nat) (a_t a_t_distances a_t_distances_count a_t_distances_length a_t_literals a_t_literals_count a_t_literals_length a_t_token : Nat) (t_bits : Int32) (t_distances_count : Nat → Int32) (t_kind : Int32) (t_literals_count : Nat → Int32) (t_matches t_size : Int32) (r0 : Int32) (hm : m_Plan_extraBits F t_distances_count t_literals_count = some r0) : Cn l Z y_Plan_extraBits b_Plan_extraBits 3 (some .int) 1 [.ref a_t] [ob a_t 7 [.ref a_t_token, .int t_size, .int t_matches, .ref a_t_literals, .ref a_t_distances, .int t_kind, .int t_bits], ob a_t_distances 1 [.ref a_t_distances_count, .ref a_t_distances_length], ia Z a_t_distances_count 30 t_distances_count, ob a_t_literals 1 [.ref a_t_literals_count, .ref a_t_literals_length], ia Z a_t_literals_count 286 t_literals_count] 0 0 (fun r w => r = (some (.int r0)) ∧ w = [ob a_t 7 [.ref a_t_token, .int t_size, .int t_matches, .ref a_t_literals, .ref a_t_distances, .int t_kind, .int t_bits], ob a_t_distances 1 [.ref a_t_distances_count, .ref a_t_distances_length], ia Z a_t_distances_count 30 t_distances_count, ob a_t_literals 1 [.ref a_t_literals_count, .ref a_t_literals_length], ia Z a_t_literals_count 286 t_literals_count]) :=
  rx_met "DeflateEffort$Plan" "extraBits" mf_Plan_extraBits (Nat.le_of_ble_eq_true rfl) rfl (by rintro _ _ ⟨h9, _⟩; cases h9) (w_Plan_extraBits l Z 0 0 _ 0 0 F a_t a_t_distances a_t_distances_count a_t_distances_length a_t_literals a_t_literals_count a_t_literals_length a_t_token t_bits t_distances_count t_kind t_literals_count t_matches t_size r0 hm ⟨rfl, rfl⟩)
abbrev J_DE_fixedLength (l : Launch) (Z : rx_D) (mc ms : Nat) (post : Option Value → va_W → Prop) := Rw l Z "DeflateEffort" "fixedLength" b_DE_fixedLength 1 (some .int) 0 mc ms post
set_option maxRecDepth 100000 in
set_option maxHeartbeats 4000000 in
theorem w_DE_fixedLength (l : Launch) (Z : rx_D) (mc ms : Nat) (post : Option Value → va_W → Prop) (k n : Nat) (F : Nat) (x0 : Int32) (r0 : Int32) (hm : m_DE_fixedLength F x0 = some r0) (hp : post (some (.int r0)) []) : J_DE_fixedLength l Z mc ms post k n [] [(0, .int x0)] 0 [] := by
  unfold m_DE_fixedLength at hm
  refine rw_iload_n (pc := 0) 0 rfl rfl (rx_dt dt_DE_fixedLength 0 rfl) ?_
  refine rw_sipush (pc := 1) (v := 144) (by decide) (rx_dt dt_DE_fixedLength 1 rfl) ?_
  rcases ite_some hm with ⟨hc, hm⟩ | ⟨hc, hm⟩
  · refine rw_icmp_ge_t (pc := 4) (tgt := 10) hc (by decide) (rx_dt dt_DE_fixedLength 2 rfl) ?_
    refine rw_iload_n (pc := 10) 0 rfl rfl (rx_dt dt_DE_fixedLength 5 rfl) ?_
    refine rw_sipush (pc := 11) (v := 256) (by decide) (rx_dt dt_DE_fixedLength 6 rfl) ?_
    rcases ite_some hm with ⟨hc, hm⟩ | ⟨hc, hm⟩
    · refine rw_icmp_ge_t (pc := 14) (tgt := 20) hc (by decide) (rx_dt dt_DE_fixedLength 7 rfl) ?_
      refine rw_iload_n (pc := 20) 0 rfl rfl (rx_dt dt_DE_fixedLength 10 rfl) ?_
      refine rw_sipush (pc := 21) (v := 280) (by decide) (rx_dt dt_DE_fixedLength 11 rfl) ?_
      rcases ite_some hm with ⟨hc, hm⟩ | ⟨hc, hm⟩
      · refine rw_icmp_ge_t (pc := 24) (tgt := 32) hc (by decide) (rx_dt dt_DE_fixedLength 12 rfl) ?_
        refine rw_bipush (pc := 32) (v := 8) (by decide) (rx_dt dt_DE_fixedLength 15 rfl) ?_
        refine rw_perm (lv' := []) (ws' := []) [] [] rfl rfl rfl ?_
        cases hm
        exact rw_iret (pc := 34) (rx_dt dt_DE_fixedLength 16 rfl) hp
      · refine rw_icmp_ge_f (pc := 24) (tgt := 32) hc (by decide) (rx_dt dt_DE_fixedLength 12 rfl) ?_
        refine rw_bipush (pc := 27) (v := 7) (by decide) (rx_dt dt_DE_fixedLength 13 rfl) ?_
        refine rw_goto (pc := 29) (tgt := 34) (by decide) (rx_dt dt_DE_fixedLength 14 rfl) ?_
        refine rw_perm (lv' := []) (ws' := []) [] [] rfl rfl rfl ?_
        cases hm
        exact rw_iret (pc := 34) (rx_dt dt_DE_fixedLength 16 rfl) hp
    · refine rw_icmp_ge_f (pc := 14) (tgt := 20) hc (by decide) (rx_dt dt_DE_fixedLength 7 rfl) ?_
      refine rw_bipush (pc := 17) (v := 9) (by decide) (rx_dt dt_DE_fixedLength 8 rfl) ?_
      refine rw_perm (lv' := []) (ws' := []) [] [] rfl rfl rfl ?_
      cases hm
      exact rw_iret (pc := 19) (rx_dt dt_DE_fixedLength 9 rfl) hp
  · refine rw_icmp_ge_f (pc := 4) (tgt := 10) hc (by decide) (rx_dt dt_DE_fixedLength 2 rfl) ?_
    refine rw_bipush (pc := 7) (v := 8) (by decide) (rx_dt dt_DE_fixedLength 3 rfl) ?_
    refine rw_perm (lv' := []) (ws' := []) [] [] rfl rfl rfl ?_
    cases hm
    exact rw_iret (pc := 9) (rx_dt dt_DE_fixedLength 4 rfl) hp
theorem c_DE_fixedLength (l : Launch) (Z : rx_D) (F : Nat) (x0 : Int32) (r0 : Int32) (hm : m_DE_fixedLength F x0 = some r0) : Cn l Z y_DE_fixedLength b_DE_fixedLength 1 (some .int) 0 [.int x0] [] 0 0 (fun r w => r = (some (.int r0)) ∧ w = []) :=
  rx_met "DeflateEffort" "fixedLength" mf_DE_fixedLength (Nat.le_of_ble_eq_true rfl) rfl (by rintro _ _ ⟨h9, _⟩; cases h9) (w_DE_fixedLength l Z 0 0 _ 0 0 F x0 r0 hm ⟨rfl, rfl⟩)
abbrev J_Plan_fixedBits (l : Launch) (Z : rx_D) (mc ms : Nat) (post : Option Value → va_W → Prop) := Rw l Z "DeflateEffort$Plan" "fixedBits" b_Plan_fixedBits 3 (some .int) 1 mc ms post
set_option maxRecDepth 100000 in
set_option maxHeartbeats 4000000 in
theorem wl_Plan_fixedBits_9 (l : Launch) (Z : rx_D) (mc ms : Nat) (post : Option Value → va_W → Prop) (k n : Nat) (F : Nat) (a_t a_t_distances a_t_literals a_t_literals_count a_t_literals_length a_t_token : Nat) (t_bits t_kind : Int32) (t_literals_count : Nat → Int32) (t_matches t_size : Int32) : ∀ (f : Nat)  (v1_1 v2_1 : Int32) (v1_2 v2_2 : Int32), L_Plan_fixedBits_9 F t_literals_count f v1_1 v2_1 = some (v1_2, v2_2) → (J_Plan_fixedBits l Z mc ms post k n [ob a_t 7 [.ref a_t_token, .int t_size, .int t_matches, .ref a_t_literals, .ref a_t_distances, .int t_kind, .int t_bits], ob a_t_literals 1 [.ref a_t_literals_count, .ref a_t_literals_length], ia Z a_t_literals_count 286 t_literals_count] [(1, .int v1_2)] 39 []) → J_Plan_fixedBits l Z mc ms post k n [ob a_t 7 [.ref a_t_token, .int t_size, .int t_matches, .ref a_t_literals, .ref a_t_distances, .int t_kind, .int t_bits], ob a_t_literals 1 [.ref a_t_literals_count, .ref a_t_literals_length], ia Z a_t_literals_count 286 t_literals_count] [(0, .ref a_t), (1, .int v1_1), (2, .int v2_1)] 9 [] := by
  intro f
  induction f with
  | zero =>
    intro v1_1 v2_1 v1_2 v2_2 hm K
    cases hm
  | succ f ih =>
    intro v1_1 v2_1 v1_2 v2_2 hm K
    have hm : B_Plan_fixedBits_9 F t_literals_count (L_Plan_fixedBits_9 F t_literals_count f) v1_1 v2_1 = some (v1_2, v2_2) := hm
    unfold B_Plan_fixedBits_9 at hm
    refine rw_iload_n (pc := 9) 2 rfl rfl (rx_dt dt_Plan_fixedBits 7 rfl) ?_
    refine rw_sipush (pc := 10) (v := 286) (by decide) (rx_dt dt_Plan_fixedBits 8 rfl) ?_
    rcases ite_some hm with ⟨hc, hm⟩ | ⟨hc, hm⟩
    · refine rw_icmp_ge_t (pc := 13) (tgt := 39) hc (by decide) (rx_dt dt_Plan_fixedBits 9 rfl) ?_
      refine rw_perm (lv' := [(1, .int v1_1)]) (ws' := [ob a_t 7 [.ref a_t_token, .int t_size, .int t_matches, .ref a_t_literals, .ref a_t_distances, .int t_kind, .int t_bits], ob a_t_literals 1 [.ref a_t_literals_count, .ref a_t_literals_length], ia Z a_t_literals_count 286 t_literals_count]) [1] [0, 1, 2] rfl rfl rfl ?_
      cases hm
      exact K
    · refine rw_icmp_ge_f (pc := 13) (tgt := 39) hc (by decide) (rx_dt dt_Plan_fixedBits 9 rfl) ?_
      refine rw_iload_n (pc := 16) 1 rfl rfl (rx_dt dt_Plan_fixedBits 10 rfl) ?_
      refine rw_aload_n (pc := 17) 0 rfl rfl (rx_dt dt_Plan_fixedBits 11 rfl) ?_
      refine rw_get fa_Plan_27 (pc := 18) 0 rfl rfl (rx_dt dt_Plan_fixedBits 12 rfl) ?_
      refine rw_get fa_Plan_40 (pc := 21) 1 rfl rfl (rx_dt dt_Plan_fixedBits 13 rfl) ?_
      refine rw_iload_n (pc := 24) 2 rfl rfl (rx_dt dt_Plan_fixedBits 14 rfl) ?_
      obtain ⟨hk1, hm⟩ := chk_some hm
      refine rw_iald (pc := 25) 2 rfl hk1 (rx_dt dt_Plan_fixedBits 15 rfl) ?_
      refine rw_iload_n (pc := 26) 2 rfl rfl (rx_dt dt_Plan_fixedBits 16 rfl) ?_
      obtain ⟨r1, hq, hm⟩ := bnd1_some hm
      refine rw_callS cw_DE_fixedLength lk_Plan_103 cs_DE_fixedLength (c_DE_fixedLength l Z F (x0 := v2_1) (r0 := r1) hq) [] [0, 1, 2] rfl rfl rfl rfl (by decide) rfl (by decide) (fun h => h) (rest := [.int (t_literals_count v2_1.toNatClampNeg), .int v1_1]) (wr := [ob a_t 7 [.ref a_t_token, .int t_size, .int t_matches, .ref a_t_literals, .ref a_t_distances, .int t_kind, .int t_bits], ob a_t_literals 1 [.ref a_t_literals_count, .ref a_t_literals_length], ia Z a_t_literals_count 286 t_literals_count]) (Nat.le_of_ble_eq_true rfl) rfl (rx_dt dt_Plan_fixedBits 17 rfl) (pc := 27) ?_
      rintro _ _ ⟨rfl, rfl⟩
      show J_Plan_fixedBits l Z mc ms post k n [ob a_t 7 [.ref a_t_token, .int t_size, .int t_matches, .ref a_t_literals, .ref a_t_distances, .int t_kind, .int t_bits], ob a_t_literals 1 [.ref a_t_literals_count, .ref a_t_literals_length], ia Z a_t_literals_count 286 t_literals_count] [(0, .ref a_t), (1, .int v1_1), (2, .int v2_1)] 30 [.int r1, .int (t_literals_count v2_1.toNatClampNeg), .int v1_1]
      refine rw_imul (pc := 30) (rx_dt dt_Plan_fixedBits 18 rfl) ?_
      refine rw_iadd (pc := 31) (rx_dt dt_Plan_fixedBits 19 rfl) ?_
      obtain ⟨y2, hy2, hm⟩ := nm_some hm
      refine rw_nm hy2 ?_
      refine rw_istore_n (pc := 32) (lv' := [(1, .int y2), (0, .ref a_t), (2, .int v2_1)]) rfl (by decide) rfl (rx_dt dt_Plan_fixedBits 20 rfl) ?_
      obtain ⟨y3, hy3, hm⟩ := nm_some hm
      refine rw_iinc (pc := 33) (lv' := [(2, .int y3), (1, .int y2), (0, .ref a_t)]) 2 rfl hy3 (by decide) rfl (rx_dt dt_Plan_fixedBits 21 rfl) ?_
      refine rw_goto (pc := 36) (tgt := 9) (by decide) (rx_dt dt_Plan_fixedBits 22 rfl) ?_
      refine rw_perm (lv' := [(0, .ref a_t), (1, .int y2), (2, .int y3)]) (ws' := [ob a_t 7 [.ref a_t_token, .int t_size, .int t_matches, .ref a_t_literals, .ref a_t_distances, .int t_kind, .int t_bits], ob a_t_literals 1 [.ref a_t_literals_count, .ref a_t_literals_length], ia Z a_t_literals_count 286 t_literals_count]) [2, 1, 0] [0, 1, 2] rfl rfl rfl ?_
      exact ih  _ _ _ _ hm K
set_option maxRecDepth 100000 in
set_option maxHeartbeats 4000000 in
theorem w_Plan_fixedBits (l : Launch) (Z : rx_D) (mc ms : Nat) (post : Option Value → va_W → Prop) (k n : Nat) (F : Nat) (a_t a_t_distances a_t_literals a_t_literals_count a_t_literals_length a_t_token : Nat) (t_bits t_kind : Int32) (t_literals_count : Nat → Int32) (t_matches t_size : Int32) (r0 : Int32) (hm : m_Plan_fixedBits F t_literals_count t_matches = some r0) (hp : post (some (.int r0)) [ob a_t 7 [.ref a_t_token, .int t_size, .int t_matches, .ref a_t_literals, .ref a_t_distances, .int t_kind, .int t_bits], ob a_t_literals 1 [.ref a_t_literals_count, .ref a_t_literals_length], ia Z a_t_literals_count 286 t_literals_count]) : J_Plan_fixedBits l Z mc ms post k n [ob a_t 7 [.ref a_t_token, .int t_size, .int t_matches, .ref a_t_literals, .ref a_t_distances, .int t_kind, .int t_bits], ob a_t_literals 1 [.ref a_t_literals_count, .ref a_t_literals_length], ia Z a_t_literals_count 286 t_literals_count] [(0, .ref a_t)] 0 [] := by
  unfold m_Plan_fixedBits at hm
  refine rw_iconst (pc := 0) (v := 5) rfl (rx_dt dt_Plan_fixedBits 0 rfl) ?_
  refine rw_aload_n (pc := 1) 0 rfl rfl (rx_dt dt_Plan_fixedBits 1 rfl) ?_
  refine rw_get fa_Plan_19 (pc := 2) 0 rfl rfl (rx_dt dt_Plan_fixedBits 2 rfl) ?_
  refine rw_imul (pc := 5) (rx_dt dt_Plan_fixedBits 3 rfl) ?_
  obtain ⟨y1, hy1, hm⟩ := nm_some hm
  refine rw_nm hy1 ?_
  refine rw_istore_n (pc := 6) (lv' := [(1, .int y1), (0, .ref a_t)]) rfl (by decide) rfl (rx_dt dt_Plan_fixedBits 4 rfl) ?_
  refine rw_iconst (pc := 7) (v := 0) rfl (rx_dt dt_Plan_fixedBits 5 rfl) ?_
  refine rw_istore_n (pc := 8) (lv' := [(2, .int (0 : Int32)), (1, .int y1), (0, .ref a_t)]) rfl (by decide) rfl (rx_dt dt_Plan_fixedBits 6 rfl) ?_
  obtain ⟨v1_3, v2_3, hl, hm⟩ := bnd2_some hm
  refine rw_perm (lv' := [(0, .ref a_t), (1, .int y1), (2, .int (0 : Int32))]) (ws' := [ob a_t 7 [.ref a_t_token, .int t_size, .int t_matches, .ref a_t_literals, .ref a_t_distances, .int t_kind, .int t_bits], ob a_t_literals 1 [.ref a_t_literals_count, .ref a_t_literals_length], ia Z a_t_literals_count 286 t_literals_count]) [2, 1, 0] [0, 1, 2] rfl rfl rfl ?_
  refine wl_Plan_fixedBits_9 l Z mc ms post k n F a_t a_t_distances a_t_literals a_t_literals_count a_t_literals_length a_t_token t_bits t_kind t_literals_count t_matches t_size F  y1 (0 : Int32) v1_3 v2_3 hl ?_
  refine rw_iload_n (pc := 39) 0 rfl rfl (rx_dt dt_Plan_fixedBits 23 rfl) ?_
  refine rw_perm (lv' := []) (ws' := [ob a_t 7 [.ref a_t_token, .int t_size, .int t_matches, .ref a_t_literals, .ref a_t_distances, .int t_kind, .int t_bits], ob a_t_literals 1 [.ref a_t_literals_count, .ref a_t_literals_length], ia Z a_t_literals_count 286 t_literals_count]) [] [0, 1, 2] rfl rfl rfl ?_
  cases hm
  exact rw_iret (pc := 40) (rx_dt dt_Plan_fixedBits 24 rfl) hp
theorem c_Plan_fixedBits (l : Launch) (Z : rx_D) (F : Nat) (a_t a_t_distances a_t_literals a_t_literals_count a_t_literals_length a_t_token : Nat) (t_bits t_kind : Int32) (t_literals_count : Nat → Int32) (t_matches t_size : Int32) (r0 : Int32) (hm : m_Plan_fixedBits F t_literals_count t_matches = some r0) : Cn l Z y_Plan_fixedBits b_Plan_fixedBits 3 (some .int) 1 [.ref a_t] [ob a_t 7 [.ref a_t_token, .int t_size, .int t_matches, .ref a_t_literals, .ref a_t_distances, .int t_kind, .int t_bits], ob a_t_literals 1 [.ref a_t_literals_count, .ref a_t_literals_length], ia Z a_t_literals_count 286 t_literals_count] 0 0 (fun r w => r = (some (.int r0)) ∧ w = [ob a_t 7 [.ref a_t_token, .int t_size, .int t_matches, .ref a_t_literals, .ref a_t_distances, .int t_kind, .int t_bits], ob a_t_literals 1 [.ref a_t_literals_count, .ref a_t_literals_length], ia Z a_t_literals_count 286 t_literals_count]) :=
  rx_met "DeflateEffort$Plan" "fixedBits" mf_Plan_fixedBits (Nat.le_of_ble_eq_true rfl) rfl (by rintro _ _ ⟨h9, _⟩; cases h9) (w_Plan_fixedBits l Z 0 0 _ 0 0 F a_t a_t_distances a_t_literals a_t_literals_count a_t_literals_length a_t_token t_bits t_kind t_literals_count t_matches t_size r0 hm ⟨rfl, rfl⟩)
abbrev J_Plan_takeFewer (l : Launch) (Z : rx_D) (mc ms : Nat) (post : Option Value → va_W → Prop) := Rw l Z "DeflateEffort$Plan" "takeFewer" b_Plan_takeFewer 3 none 0 mc ms post
set_option maxRecDepth 100000 in
set_option maxHeartbeats 4000000 in
theorem w_Plan_takeFewer (l : Launch) (Z : rx_D) (mc ms : Nat) (post : Option Value → va_W → Prop) (k n : Nat) (F : Nat) (a_t a_t_distances a_t_literals a_t_token : Nat) (t_bits t_kind t_matches t_size x1 x2 : Int32) (o_t_kind o_t_bits : Int32) (hm : m_Plan_takeFewer F t_bits t_kind x1 x2 = some (o_t_kind, o_t_bits)) (hp : post none [ob a_t 7 [.ref a_t_token, .int t_size, .int t_matches, .ref a_t_literals, .ref a_t_distances, .int o_t_kind, .int o_t_bits]]) : J_Plan_takeFewer l Z mc ms post k n [ob a_t 7 [.ref a_t_token, .int t_size, .int t_matches, .ref a_t_literals, .ref a_t_distances, .int t_kind, .int t_bits]] [(0, .ref a_t), (1, .int x1), (2, .int x2)] 0 [] := by
  unfold m_Plan_takeFewer at hm
  refine rw_iload_n (pc := 0) 2 rfl rfl (rx_dt dt_Plan_takeFewer 0 rfl) ?_
  refine rw_aload_n (pc := 1) 0 rfl rfl (rx_dt dt_Plan_takeFewer 1 rfl) ?_
  refine rw_get fa_Plan_37 (pc := 2) 0 rfl rfl (rx_dt dt_Plan_takeFewer 2 rfl) ?_
  rcases ite_some hm with ⟨hc, hm⟩ | ⟨hc, hm⟩
  · refine rw_icmp_ge_t (pc := 5) (tgt := 18) hc (by decide) (rx_dt dt_Plan_takeFewer 3 rfl) ?_
    refine rw_perm (lv' := []) (ws' := [ob a_t 7 [.ref a_t_token, .int t_size, .int t_matches, .ref a_t_literals, .ref a_t_distances, .int t_kind, .int t_bits]]) [] [0] rfl rfl rfl ?_
    cases hm
    exact rw_vret (pc := 18) (rx_dt dt_Plan_takeFewer 10 rfl) hp
  · refine rw_icmp_ge_f (pc := 5) (tgt := 18) hc (by decide) (rx_dt dt_Plan_takeFewer 3 rfl) ?_
    refine rw_aload_n (pc := 8) 0 rfl rfl (rx_dt dt_Plan_takeFewer 4 rfl) ?_
    refine rw_iload_n (pc := 9) 1 rfl rfl (rx_dt dt_Plan_takeFewer 5 rfl) ?_
    refine rw_put fa_Plan_34 (pc := 10) (ws' := [ob a_t 7 [.ref a_t_token, .int t_size, .int t_matches, .ref a_t_literals, .ref a_t_distances, .int x1, .int t_bits]]) 0 rfl rfl rfl (Nat.le_of_ble_eq_true rfl) rfl (rx_dt dt_Plan_takeFewer 6 rfl) ?_
    refine rw_aload_n (pc := 13) 0 rfl rfl (rx_dt dt_Plan_takeFewer 7 rfl) ?_
    refine rw_iload_n (pc := 14) 2 rfl rfl (rx_dt dt_Plan_takeFewer 8 rfl) ?_
    refine rw_put fa_Plan_37 (pc := 15) (ws' := [ob a_t 7 [.ref a_t_token, .int t_size, .int t_matches, .ref a_t_literals, .ref a_t_distances, .int x1, .int x2]]) 0 rfl rfl rfl (Nat.le_of_ble_eq_true rfl) rfl (rx_dt dt_Plan_takeFewer 9 rfl) ?_
    refine rw_perm (lv' := []) (ws' := [ob a_t 7 [.ref a_t_token, .int t_size, .int t_matches, .ref a_t_literals, .ref a_t_distances, .int x1, .int x2]]) [] [0] rfl rfl rfl ?_
    cases hm
    exact rw_vret (pc := 18) (rx_dt dt_Plan_takeFewer 10 rfl) hp
theorem c_Plan_takeFewer (l : Launch) (Z : rx_D) (F : Nat) (a_t a_t_distances a_t_literals a_t_token : Nat) (t_bits t_kind t_matches t_size x1 x2 : Int32) (o_t_kind o_t_bits : Int32) (hm : m_Plan_takeFewer F t_bits t_kind x1 x2 = some (o_t_kind, o_t_bits)) : Cn l Z y_Plan_takeFewer b_Plan_takeFewer 3 none 0 [.ref a_t, .int x1, .int x2] [ob a_t 7 [.ref a_t_token, .int t_size, .int t_matches, .ref a_t_literals, .ref a_t_distances, .int t_kind, .int t_bits]] 0 0 (fun r w => r = none ∧ w = [ob a_t 7 [.ref a_t_token, .int t_size, .int t_matches, .ref a_t_literals, .ref a_t_distances, .int o_t_kind, .int o_t_bits]]) :=
  rx_met "DeflateEffort$Plan" "takeFewer" mf_Plan_takeFewer (Nat.le_of_ble_eq_true rfl) rfl (by rintro _ _ ⟨h9, _⟩; cases h9) (w_Plan_takeFewer l Z 0 0 _ 0 0 F a_t a_t_distances a_t_literals a_t_token t_bits t_kind t_matches t_size x1 x2 o_t_kind o_t_bits hm ⟨rfl, rfl⟩)
abbrev J_LengthRow_symbolAt (l : Launch) (Z : rx_D) (mc ms : Nat) (post : Option Value → va_W → Prop) := Rw l Z "DeflateEffort$LengthRow" "symbolAt" b_LengthRow_symbolAt 2 (some .int) 0 mc ms post
set_option maxRecDepth 100000 in
set_option maxHeartbeats 4000000 in
theorem w_LengthRow_symbolAt (l : Launch) (Z : rx_D) (mc ms : Nat) (post : Option Value → va_W → Prop) (k n : Nat) (F : Nat) (a_t a_t_code a_t_row : Nat) (t_distances t_literals : Int32) (t_row : Nat → Int32) (t_size t_toldOfCode x1 : Int32) (r0 : Int32) (hm : m_LengthRow_symbolAt F t_row x1 = some r0) (hp : post (some (.int r0)) [ob a_t 5 [.ref a_t_code, .ref a_t_row, .int t_size, .int t_literals, .int t_distances, .int t_toldOfCode], ia Z a_t_row 316 t_row]) : J_LengthRow_symbolAt l Z mc ms post k n [ob a_t 5 [.ref a_t_code, .ref a_t_row, .int t_size, .int t_literals, .int t_distances, .int t_toldOfCode], ia Z a_t_row 316 t_row] [(0, .ref a_t), (1, .int x1)] 0 [] := by
  unfold m_LengthRow_symbolAt at hm
  refine rw_aload_n (pc := 0) 0 rfl rfl (rx_dt dt_LengthRow_symbolAt 0 rfl) ?_
  refine rw_get fa_LengthRow_20 (pc := 1) 0 rfl rfl (rx_dt dt_LengthRow_symbolAt 1 rfl) ?_
  refine rw_iload_n (pc := 4) 1 rfl rfl (rx_dt dt_LengthRow_symbolAt 2 rfl) ?_
  obtain ⟨hk1, hm⟩ := chk_some hm
  refine rw_iald (pc := 5) 1 rfl hk1 (rx_dt dt_LengthRow_symbolAt 3 rfl) ?_
  refine rw_sipush (pc := 6) (v := 255) (by decide) (rx_dt dt_LengthRow_symbolAt 4 rfl) ?_
  refine rw_iand (pc := 9) (rx_dt dt_LengthRow_symbolAt 5 rfl) ?_
  refine rw_perm (lv' := []) (ws' := [ob a_t 5 [.ref a_t_code, .ref a_t_row, .int t_size, .int t_literals, .int t_distances, .int t_toldOfCode], ia Z a_t_row 316 t_row]) [] [0, 1] rfl rfl rfl ?_
  cases hm
  exact rw_iret (pc := 10) (rx_dt dt_LengthRow_symbolAt 6 rfl) hp
theorem c_LengthRow_symbolAt (l : Launch) (Z : rx_D) (F : Nat) (a_t a_t_code a_t_row : Nat) (t_distances t_literals : Int32) (t_row : Nat → Int32) (t_size t_toldOfCode x1 : Int32) (r0 : Int32) (hm : m_LengthRow_symbolAt F t_row x1 = some r0) : Cn l Z y_LengthRow_symbolAt b_LengthRow_symbolAt 2 (some .int) 0 [.ref a_t, .int x1] [ob a_t 5 [.ref a_t_code, .ref a_t_row, .int t_size, .int t_literals, .int t_distances, .int t_toldOfCode], ia Z a_t_row 316 t_row] 0 0 (fun r w => r = (some (.int r0)) ∧ w = [ob a_t 5 [.ref a_t_code, .ref a_t_row, .int t_size, .int t_literals, .int t_distances, .int t_toldOfCode], ia Z a_t_row 316 t_row]) :=
  rx_met "DeflateEffort$LengthRow" "symbolAt" mf_LengthRow_symbolAt (Nat.le_of_ble_eq_true rfl) rfl (by rintro _ _ ⟨h9, _⟩; cases h9) (w_LengthRow_symbolAt l Z 0 0 _ 0 0 F a_t a_t_code a_t_row t_distances t_literals t_row t_size t_toldOfCode x1 r0 hm ⟨rfl, rfl⟩)
abbrev J_DE_repeatExtra (l : Launch) (Z : rx_D) (mc ms : Nat) (post : Option Value → va_W → Prop) := Rw l Z "DeflateEffort" "repeatExtra" b_DE_repeatExtra 1 (some .int) 0 mc ms post
set_option maxRecDepth 100000 in
set_option maxHeartbeats 4000000 in
theorem w_DE_repeatExtra (l : Launch) (Z : rx_D) (mc ms : Nat) (post : Option Value → va_W → Prop) (k n : Nat) (F : Nat) (x0 : Int32) (r0 : Int32) (hm : m_DE_repeatExtra F x0 = some r0) (hp : post (some (.int r0)) []) : J_DE_repeatExtra l Z mc ms post k n [] [(0, .int x0)] 0 [] := by
  unfold m_DE_repeatExtra at hm
  refine rw_iload_n (pc := 0) 0 rfl rfl (rx_dt dt_DE_repeatExtra 0 rfl) ?_
  rcases ite_some hm with ⟨hc0, hm⟩ | ⟨hc0, hm⟩
  · refine rw_tin (pc := 1) (tgt := 28) (by rw [hc0]; decide) (by rw [hc0]; decide) (by rw [hc0]; rfl) (by decide) (rx_dt dt_DE_repeatExtra 1 rfl) ?_
    refine rw_iconst (pc := 28) (v := 2) rfl (rx_dt dt_DE_repeatExtra 2 rfl) ?_
    refine rw_perm (lv' := []) (ws' := []) [] [] rfl rfl rfl ?_
    cases hm
    exact rw_iret (pc := 29) (rx_dt dt_DE_repeatExtra 3 rfl) hp
  rcases ite_some hm with ⟨hc1, hm⟩ | ⟨hc1, hm⟩
  · refine rw_tin (pc := 1) (tgt := 30) (by rw [hc1]; decide) (by rw [hc1]; decide) (by rw [hc1]; rfl) (by decide) (rx_dt dt_DE_repeatExtra 1 rfl) ?_
    refine rw_iconst (pc := 30) (v := 3) rfl (rx_dt dt_DE_repeatExtra 4 rfl) ?_
    refine rw_perm (lv' := []) (ws' := []) [] [] rfl rfl rfl ?_
    cases hm
    exact rw_iret (pc := 31) (rx_dt dt_DE_repeatExtra 5 rfl) hp
  rcases ite_some hm with ⟨hc2, hm⟩ | ⟨hc2, hm⟩
  · refine rw_tin (pc := 1) (tgt := 32) (by rw [hc2]; decide) (by rw [hc2]; decide) (by rw [hc2]; rfl) (by decide) (rx_dt dt_DE_repeatExtra 1 rfl) ?_
    refine rw_bipush (pc := 32) (v := 7) (by decide) (rx_dt dt_DE_repeatExtra 6 rfl) ?_
    refine rw_perm (lv' := []) (ws' := []) [] [] rfl rfl rfl ?_
    cases hm
    exact rw_iret (pc := 34) (rx_dt dt_DE_repeatExtra 7 rfl) hp
  refine rw_tout (pc := 1) (tgt := 35) (by have e0 := lv_neT hc0 (a := 16) (by decide); have e1 := lv_neT hc1 (a := 17) (by decide); have e2 := lv_neT hc2 (a := 18) (by decide); omega) (by decide) (rx_dt dt_DE_repeatExtra 1 rfl) ?_
  refine rw_iconst (pc := 35) (v := 0) rfl (rx_dt dt_DE_repeatExtra 8 rfl) ?_
  refine rw_perm (lv' := []) (ws' := []) [] [] rfl rfl rfl ?_
  cases hm
  exact rw_iret (pc := 36) (rx_dt dt_DE_repeatExtra 9 rfl) hp
theorem c_DE_repeatExtra (l : Launch) (Z : rx_D) (F : Nat) (x0 : Int32) (r0 : Int32) (hm : m_DE_repeatExtra F x0 = some r0) : Cn l Z y_DE_repeatExtra b_DE_repeatExtra 1 (some .int) 0 [.int x0] [] 0 0 (fun r w => r = (some (.int r0)) ∧ w = []) :=
  rx_met "DeflateEffort" "repeatExtra" mf_DE_repeatExtra (Nat.le_of_ble_eq_true rfl) rfl (by rintro _ _ ⟨h9, _⟩; cases h9) (w_DE_repeatExtra l Z 0 0 _ 0 0 F x0 r0 hm ⟨rfl, rfl⟩)
abbrev J_LengthRow_bits (l : Launch) (Z : rx_D) (mc ms : Nat) (post : Option Value → va_W → Prop) := Rw l Z "DeflateEffort$LengthRow" "bits" b_LengthRow_bits 3 (some .int) 1 mc ms post
set_option maxRecDepth 100000 in
set_option maxHeartbeats 4000000 in
theorem wl_LengthRow_bits_9 (l : Launch) (Z : rx_D) (mc ms : Nat) (post : Option Value → va_W → Prop) (k n : Nat) (F : Nat) (a_t a_t_code a_t_code_count a_t_code_length a_t_row : Nat) (t_code_length : Nat → Int32) (t_distances t_literals : Int32) (t_row : Nat → Int32) (t_size t_toldOfCode : Int32) : ∀ (f : Nat)  (v1_1 v2_1 : Int32) (v1_2 v2_2 : Int32), L_LengthRow_bits_9 F t_code_length t_row t_size f v1_1 v2_1 = some (v1_2, v2_2) → (J_LengthRow_bits l Z mc ms post k n [ob a_t 5 [.ref a_t_code, .ref a_t_row, .int t_size, .int t_literals, .int t_distances, .int t_toldOfCode], ob a_t_code 1 [.ref a_t_code_count, .ref a_t_code_length], ia Z a_t_code_length 19 t_code_length, ia Z a_t_row 316 t_row] [(1, .int v1_2)] 48 []) → J_LengthRow_bits l Z mc ms post k n [ob a_t 5 [.ref a_t_code, .ref a_t_row, .int t_size, .int t_literals, .int t_distances, .int t_toldOfCode], ob a_t_code 1 [.ref a_t_code_count, .ref a_t_code_length], ia Z a_t_code_length 19 t_code_length, ia Z a_t_row 316 t_row] [(0, .ref a_t), (1, .int v1_1), (2, .int v2_1)] 9 [] := by
  intro f
  induction f with
  | zero =>
    intro v1_1 v2_1 v1_2 v2_2 hm K
    cases hm
  | succ f ih =>
    intro v1_1 v2_1 v1_2 v2_2 hm K
    have hm : B_LengthRow_bits_9 F t_code_length t_row t_size (L_LengthRow_bits_9 F t_code_length t_row t_size f) v1_1 v2_1 = some (v1_2, v2_2) := hm
    unfold B_LengthRow_bits_9 at hm
    refine rw_iload_n (pc := 9) 2 rfl rfl (rx_dt dt_LengthRow_bits 7 rfl) ?_
    refine rw_aload_n (pc := 10) 0 rfl rfl (rx_dt dt_LengthRow_bits 8 rfl) ?_
    refine rw_get fa_LengthRow_24 (pc := 11) 0 rfl rfl (rx_dt dt_LengthRow_bits 9 rfl) ?_
    rcases ite_some hm with ⟨hc, hm⟩ | ⟨hc, hm⟩
    · refine rw_icmp_ge_t (pc := 14) (tgt := 48) hc (by decide) (rx_dt dt_LengthRow_bits 10 rfl) ?_
      refine rw_perm (lv' := [(1, .int v1_1)]) (ws' := [ob a_t 5 [.ref a_t_code, .ref a_t_row, .int t_size, .int t_literals, .int t_distances, .int t_toldOfCode], ob a_t_code 1 [.ref a_t_code_count, .ref a_t_code_length], ia Z a_t_code_length 19 t_code_length, ia Z a_t_row 316 t_row]) [1] [0, 1, 2, 3] rfl rfl rfl ?_
      cases hm
      exact K
    · refine rw_icmp_ge_f (pc := 14) (tgt := 48) hc (by decide) (rx_dt dt_LengthRow_bits 10 rfl) ?_
      refine rw_iload_n (pc := 17) 1 rfl rfl (rx_dt dt_LengthRow_bits 11 rfl) ?_
      refine rw_aload_n (pc := 18) 0 rfl rfl (rx_dt dt_LengthRow_bits 12 rfl) ?_
      refine rw_get fa_LengthRow_14 (pc := 19) 0 rfl rfl (rx_dt dt_LengthRow_bits 13 rfl) ?_
      refine rw_get fa_LengthRow_50 (pc := 22) 1 rfl rfl (rx_dt dt_LengthRow_bits 14 rfl) ?_
      refine rw_aload_n (pc := 25) 0 rfl rfl (rx_dt dt_LengthRow_bits 15 rfl) ?_
      refine rw_iload_n (pc := 26) 2 rfl rfl (rx_dt dt_LengthRow_bits 16 rfl) ?_
      obtain ⟨r1, hq, hm⟩ := bnd1_some hm
      refine rw_callV cw_LengthRow_symbolAt lk_LengthRow_82 ci_LengthRow_symbolAt rfl (q := 0) rfl (c_LengthRow_symbolAt l Z F (a_t := a_t) (a_t_code := a_t_code) (a_t_row := a_t_row) (t_distances := t_distances) (t_literals := t_literals) (t_row := t_row) (t_size := t_size) (t_toldOfCode := t_toldOfCode) (x1 := v2_1) (r0 := r1) hq) [0, 3] [1, 2] rfl rfl rfl rfl (by decide) rfl (by decide) (fun h => h) (rest := [.ref a_t_code_length, .int v1_1]) (wr := [ob a_t_code 1 [.ref a_t_code_count, .ref a_t_code_length], ia Z a_t_code_length 19 t_code_length]) (Nat.le_of_ble_eq_true rfl) rfl (rx_dt dt_LengthRow_bits 17 rfl) (pc := 27) ?_
      rintro _ _ ⟨rfl, rfl⟩
      show J_LengthRow_bits l Z mc ms post k n [ob a_t_code 1 [.ref a_t_code_count, .ref a_t_code_length], ia Z a_t_code_length 19 t_code_length, ob a_t 5 [.ref a_t_code, .ref a_t_row, .int t_size, .int t_literals, .int t_distances, .int t_toldOfCode], ia Z a_t_row 316 t_row] [(0, .ref a_t), (1, .int v1_1), (2, .int v2_1)] 30 [.int r1, .ref a_t_code_length, .int v1_1]
      obtain ⟨hk1, hm⟩ := chk_some hm
      refine rw_iald (pc := 30) 1 rfl hk1 (rx_dt dt_LengthRow_bits 18 rfl) ?_
      refine rw_aload_n (pc := 31) 0 rfl rfl (rx_dt dt_LengthRow_bits 19 rfl) ?_
      refine rw_iload_n (pc := 32) 2 rfl rfl (rx_dt dt_LengthRow_bits 20 rfl) ?_
      obtain ⟨r2, hq, hm⟩ := bnd1_some hm
      refine rw_callV cw_LengthRow_symbolAt lk_LengthRow_82 ci_LengthRow_symbolAt rfl (q := 2) rfl (c_LengthRow_symbolAt l Z F (a_t := a_t) (a_t_code := a_t_code) (a_t_row := a_t_row) (t_distances := t_distances) (t_literals := t_literals) (t_row := t_row) (t_size := t_size) (t_toldOfCode := t_toldOfCode) (x1 := v2_1) (r0 := r2) hq) [2, 3] [0, 1] rfl rfl rfl rfl (by decide) rfl (by decide) (fun h => h) (rest := [.int (t_code_length r1.toNatClampNeg), .int v1_1]) (wr := [ob a_t_code 1 [.ref a_t_code_count, .ref a_t_code_length], ia Z a_t_code_length 19 t_code_length]) (Nat.le_of_ble_eq_true rfl) rfl (rx_dt dt_LengthRow_bits 21 rfl) (pc := 33) ?_
      rintro _ _ ⟨rfl, rfl⟩
      show J_LengthRow_bits l Z mc ms post k n [ob a_t_code 1 [.ref a_t_code_count, .ref a_t_code_length], ia Z a_t_code_length 19 t_code_length, ob a_t 5 [.ref a_t_code, .ref a_t_row, .int t_size, .int t_literals, .int t_distances, .int t_toldOfCode], ia Z a_t_row 316 t_row] [(0, .ref a_t), (1, .int v1_1), (2, .int v2_1)] 36 [.int r2, .int (t_code_length r1.toNatClampNeg), .int v1_1]
      obtain ⟨r3, hq, hm⟩ := bnd1_some hm
      refine rw_callS cw_DE_repeatExtra lk_LengthRow_85 cs_DE_repeatExtra (c_DE_repeatExtra l Z F (x0 := r2) (r0 := r3) hq) [] [0, 1, 2, 3] rfl rfl rfl rfl (by decide) rfl (by decide) (fun h => h) (rest := [.int (t_code_length r1.toNatClampNeg), .int v1_1]) (wr := [ob a_t_code 1 [.ref a_t_code_count, .ref a_t_code_length], ia Z a_t_code_length 19 t_code_length, ob a_t 5 [.ref a_t_code, .ref a_t_row, .int t_size, .int t_literals, .int t_distances, .int t_toldOfCode], ia Z a_t_row 316 t_row]) (Nat.le_of_ble_eq_true rfl) rfl (rx_dt dt_LengthRow_bits 22 rfl) (pc := 36) ?_
      rintro _ _ ⟨rfl, rfl⟩
      show J_LengthRow_bits l Z mc ms post k n [ob a_t_code 1 [.ref a_t_code_count, .ref a_t_code_length], ia Z a_t_code_length 19 t_code_length, ob a_t 5 [.ref a_t_code, .ref a_t_row, .int t_size, .int t_literals, .int t_distances, .int t_toldOfCode], ia Z a_t_row 316 t_row] [(0, .ref a_t), (1, .int v1_1), (2, .int v2_1)] 39 [.int r3, .int (t_code_length r1.toNatClampNeg), .int v1_1]
      refine rw_iadd (pc := 39) (rx_dt dt_LengthRow_bits 23 rfl) ?_
      refine rw_iadd (pc := 40) (rx_dt dt_LengthRow_bits 24 rfl) ?_
      obtain ⟨y2, hy2, hm⟩ := nm_some hm
      refine rw_nm hy2 ?_
      refine rw_istore_n (pc := 41) (lv' := [(1, .int y2), (0, .ref a_t), (2, .int v2_1)]) rfl (by decide) rfl (rx_dt dt_LengthRow_bits 25 rfl) ?_
      obtain ⟨y3, hy3, hm⟩ := nm_some hm
      refine rw_iinc (pc := 42) (lv' := [(2, .int y3), (1, .int y2), (0, .ref a_t)]) 2 rfl hy3 (by decide) rfl (rx_dt dt_LengthRow_bits 26 rfl) ?_
      refine rw_goto (pc := 45) (tgt := 9) (by decide) (rx_dt dt_LengthRow_bits 27 rfl) ?_
      refine rw_perm (lv' := [(0, .ref a_t), (1, .int y2), (2, .int y3)]) (ws' := [ob a_t 5 [.ref a_t_code, .ref a_t_row, .int t_size, .int t_literals, .int t_distances, .int t_toldOfCode], ob a_t_code 1 [.ref a_t_code_count, .ref a_t_code_length], ia Z a_t_code_length 19 t_code_length, ia Z a_t_row 316 t_row]) [2, 1, 0] [2, 0, 1, 3] rfl rfl rfl ?_
      exact ih  _ _ _ _ hm K
set_option maxRecDepth 100000 in
set_option maxHeartbeats 4000000 in
theorem w_LengthRow_bits (l : Launch) (Z : rx_D) (mc ms : Nat) (post : Option Value → va_W → Prop) (k n : Nat) (F : Nat) (a_t a_t_code a_t_code_count a_t_code_length a_t_row : Nat) (t_code_length : Nat → Int32) (t_distances t_literals : Int32) (t_row : Nat → Int32) (t_size t_toldOfCode : Int32) (r0 : Int32) (hm : m_LengthRow_bits F t_code_length t_row t_size t_toldOfCode = some r0) (hp : post (some (.int r0)) [ob a_t 5 [.ref a_t_code, .ref a_t_row, .int t_size, .int t_literals, .int t_distances, .int t_toldOfCode], ob a_t_code 1 [.ref a_t_code_count, .ref a_t_code_length], ia Z a_t_code_length 19 t_code_length, ia Z a_t_row 316 t_row]) : J_LengthRow_bits l Z mc ms post k n [ob a_t 5 [.ref a_t_code, .ref a_t_row, .int t_size, .int t_literals, .int t_distances, .int t_toldOfCode], ob a_t_code 1 [.ref a_t_code_count, .ref a_t_code_length], ia Z a_t_code_length 19 t_code_length, ia Z a_t_row 316 t_row] [(0, .ref a_t)] 0 [] := by
  unfold m_LengthRow_bits at hm
  refine rw_iconst (pc := 0) (v := 3) rfl (rx_dt dt_LengthRow_bits 0 rfl) ?_
  refine rw_aload_n (pc := 1) 0 rfl rfl (rx_dt dt_LengthRow_bits 1 rfl) ?_
  refine rw_get fa_LengthRow_34 (pc := 2) 0 rfl rfl (rx_dt dt_LengthRow_bits 2 rfl) ?_
  refine rw_imul (pc := 5) (rx_dt dt_LengthRow_bits 3 rfl) ?_
  obtain ⟨y1, hy1, hm⟩ := nm_some hm
  refine rw_nm hy1 ?_
  refine rw_istore_n (pc := 6) (lv' := [(1, .int y1), (0, .ref a_t)]) rfl (by decide) rfl (rx_dt dt_LengthRow_bits 4 rfl) ?_
  refine rw_iconst (pc := 7) (v := 0) rfl (rx_dt dt_LengthRow_bits 5 rfl) ?_
  refine rw_istore_n (pc := 8) (lv' := [(2, .int (0 : Int32)), (1, .int y1), (0, .ref a_t)]) rfl (by decide) rfl (rx_dt dt_LengthRow_bits 6 rfl) ?_
  obtain ⟨v1_3, v2_3, hl, hm⟩ := bnd2_some hm
  refine rw_perm (lv' := [(0, .ref a_t), (1, .int y1), (2, .int (0 : Int32))]) (ws' := [ob a_t 5 [.ref a_t_code, .ref a_t_row, .int t_size, .int t_literals, .int t_distances, .int t_toldOfCode], ob a_t_code 1 [.ref a_t_code_count, .ref a_t_code_length], ia Z a_t_code_length 19 t_code_length, ia Z a_t_row 316 t_row]) [2, 1, 0] [0, 1, 2, 3] rfl rfl rfl ?_
  refine wl_LengthRow_bits_9 l Z mc ms post k n F a_t a_t_code a_t_code_count a_t_code_length a_t_row t_code_length t_distances t_literals t_row t_size t_toldOfCode F  y1 (0 : Int32) v1_3 v2_3 hl ?_
  refine rw_iload_n (pc := 48) 0 rfl rfl (rx_dt dt_LengthRow_bits 28 rfl) ?_
  refine rw_perm (lv' := []) (ws' := [ob a_t 5 [.ref a_t_code, .ref a_t_row, .int t_size, .int t_literals, .int t_distances, .int t_toldOfCode], ob a_t_code 1 [.ref a_t_code_count, .ref a_t_code_length], ia Z a_t_code_length 19 t_code_length, ia Z a_t_row 316 t_row]) [] [0, 1, 2, 3] rfl rfl rfl ?_
  cases hm
  exact rw_iret (pc := 49) (rx_dt dt_LengthRow_bits 29 rfl) hp
theorem c_LengthRow_bits (l : Launch) (Z : rx_D) (F : Nat) (a_t a_t_code a_t_code_count a_t_code_length a_t_row : Nat) (t_code_length : Nat → Int32) (t_distances t_literals : Int32) (t_row : Nat → Int32) (t_size t_toldOfCode : Int32) (r0 : Int32) (hm : m_LengthRow_bits F t_code_length t_row t_size t_toldOfCode = some r0) : Cn l Z y_LengthRow_bits b_LengthRow_bits 3 (some .int) 1 [.ref a_t] [ob a_t 5 [.ref a_t_code, .ref a_t_row, .int t_size, .int t_literals, .int t_distances, .int t_toldOfCode], ob a_t_code 1 [.ref a_t_code_count, .ref a_t_code_length], ia Z a_t_code_length 19 t_code_length, ia Z a_t_row 316 t_row] 0 0 (fun r w => r = (some (.int r0)) ∧ w = [ob a_t 5 [.ref a_t_code, .ref a_t_row, .int t_size, .int t_literals, .int t_distances, .int t_toldOfCode], ob a_t_code 1 [.ref a_t_code_count, .ref a_t_code_length], ia Z a_t_code_length 19 t_code_length, ia Z a_t_row 316 t_row]) :=
  rx_met "DeflateEffort$LengthRow" "bits" mf_LengthRow_bits (Nat.le_of_ble_eq_true rfl) rfl (by rintro _ _ ⟨h9, _⟩; cases h9) (w_LengthRow_bits l Z 0 0 _ 0 0 F a_t a_t_code a_t_code_count a_t_code_length a_t_row t_code_length t_distances t_literals t_row t_size t_toldOfCode r0 hm ⟨rfl, rfl⟩)
abbrev J_Plan_ownBits (l : Launch) (Z : rx_D) (mc ms : Nat) (post : Option Value → va_W → Prop) := Rw l Z "DeflateEffort$Plan" "ownBits" b_Plan_ownBits 3 (some .int) 0 mc ms post
set_option maxRecDepth 100000 in
set_option maxHeartbeats 4000000 in
theorem wl_Plan_ownBits_4 (l : Launch) (Z : rx_D) (mc ms : Nat) (post : Option Value → va_W → Prop) (k n : Nat) (F : Nat) (a_t a_t_distances a_t_distances_count a_t_distances_length a_t_literals a_t_literals_count a_t_literals_length a_t_token : Nat) (t_bits : Int32) (t_distances_count t_distances_length : Nat → Int32) (t_kind : Int32) (t_literals_count t_literals_length : Nat → Int32) (t_matches t_size : Int32) : ∀ (f : Nat)  (v1_1 v2_1 : Int32) (v1_2 v2_2 : Int32), L_Plan_ownBits_4 F t_literals_count t_literals_length f v1_1 v2_1 = some (v1_2, v2_2) → (J_Plan_ownBits l Z mc ms post k n [ob a_t 7 [.ref a_t_token, .int t_size, .int t_matches, .ref a_t_literals, .ref a_t_distances, .int t_kind, .int t_bits], ob a_t_distances 1 [.ref a_t_distances_count, .ref a_t_distances_length], ia Z a_t_distances_count 30 t_distances_count, ia Z a_t_distances_length 30 t_distances_length, ob a_t_literals 1 [.ref a_t_literals_count, .ref a_t_literals_length], ia Z a_t_literals_count 286 t_literals_count, ia Z a_t_literals_length 286 t_literals_length] [(0, .ref a_t), (1, .int v1_2)] 39 []) → J_Plan_ownBits l Z mc ms post k n [ob a_t 7 [.ref a_t_token, .int t_size, .int t_matches, .ref a_t_literals, .ref a_t_distances, .int t_kind, .int t_bits], ob a_t_distances 1 [.ref a_t_distances_count, .ref a_t_distances_length], ia Z a_t_distances_count 30 t_distances_count, ia Z a_t_distances_length 30 t_distances_length, ob a_t_literals 1 [.ref a_t_literals_count, .ref a_t_literals_length], ia Z a_t_literals_count 286 t_literals_count, ia Z a_t_literals_length 286 t_literals_length] [(0, .ref a_t), (1, .int v1_1), (2, .int v2_1)] 4 [] := by
  intro f
  induction f with
  | zero =>
    intro v1_1 v2_1 v1_2 v2_2 hm K
    cases hm
  | succ f ih =>
    intro v1_1 v2_1 v1_2 v2_2 hm K
    have hm : B_Plan_ownBits_4 F t_literals_count t_literals_length (L_Plan_ownBits_4 F t_literals_count t_literals_length f) v1_1 v2_1 = some (v1_2, v2_2) := hm
    unfold B_Plan_ownBits_4 at hm
    refine rw_iload_n (pc := 4) 2 rfl rfl (rx_dt dt_Plan_ownBits 4 rfl) ?_
    refine rw_sipush (pc := 5) (v := 286) (by decide) (rx_dt dt_Plan_ownBits 5 rfl) ?_
    rcases ite_some hm with ⟨hc, hm⟩ | ⟨hc, hm⟩
    · refine rw_icmp_ge_t (pc := 8) (tgt := 39) hc (by decide) (rx_dt dt_Plan_ownBits 6 rfl) ?_
      refine rw_perm (lv' := [(0, .ref a_t), (1, .int v1_1)]) (ws' := [ob a_t 7 [.ref a_t_token, .int t_size, .int t_matches, .ref a_t_literals, .ref a_t_distances, .int t_kind, .int t_bits], ob a_t_distances 1 [.ref a_t_distances_count, .ref a_t_distances_length], ia Z a_t_distances_count 30 t_distances_count, ia Z a_t_distances_length 30 t_distances_length, ob a_t_literals 1 [.ref a_t_literals_count, .ref a_t_literals_length], ia Z a_t_literals_count 286 t_literals_count, ia Z a_t_literals_length 286 t_literals_length]) [0, 1] [0, 1, 2, 3, 4, 5, 6] rfl rfl rfl ?_
      cases hm
      exact K
    · refine rw_icmp_ge_f (pc := 8) (tgt := 39) hc (by decide) (rx_dt dt_Plan_ownBits 6 rfl) ?_
      refine rw_iload_n (pc := 11) 1 rfl rfl (rx_dt dt_Plan_ownBits 7 rfl) ?_
      refine rw_aload_n (pc := 12) 0 rfl rfl (rx_dt dt_Plan_ownBits 8 rfl) ?_
      refine rw_get fa_Plan_27 (pc := 13) 0 rfl rfl (rx_dt dt_Plan_ownBits 9 rfl) ?_
      refine rw_get fa_Plan_40 (pc := 16) 4 rfl rfl (rx_dt dt_Plan_ownBits 10 rfl) ?_
      refine rw_iload_n (pc := 19) 2 rfl rfl (rx_dt dt_Plan_ownBits 11 rfl) ?_
      obtain ⟨hk1, hm⟩ := chk_some hm
      refine rw_iald (pc := 20) 5 rfl hk1 (rx_dt dt_Plan_ownBits 12 rfl) ?_
      refine rw_aload_n (pc := 21) 0 rfl rfl (rx_dt dt_Plan_ownBits 13 rfl) ?_
      refine rw_get fa_Plan_27 (pc := 22) 0 rfl rfl (rx_dt dt_Plan_ownBits 14 rfl) ?_
      refine rw_get fa_Plan_106 (pc := 25) 4 rfl rfl (rx_dt dt_Plan_ownBits 15 rfl) ?_
      refine rw_iload_n (pc := 28) 2 rfl rfl (rx_dt dt_Plan_ownBits 16 rfl) ?_
      obtain ⟨hk2, hm⟩ := chk_some hm
      refine rw_iald (pc := 29) 6 rfl hk2 (rx_dt dt_Plan_ownBits 17 rfl) ?_
      refine rw_imul (pc := 30) (rx_dt dt_Plan_ownBits 18 rfl) ?_
      refine rw_iadd (pc := 31) (rx_dt dt_Plan_ownBits 19 rfl) ?_
      obtain ⟨y1, hy1, hm⟩ := nm_some hm
      refine rw_nm hy1 ?_
      refine rw_istore_n (pc := 32) (lv' := [(1, .int y1), (0, .ref a_t), (2, .int v2_1)]) rfl (by decide) rfl (rx_dt dt_Plan_ownBits 20 rfl) ?_
      obtain ⟨y2, hy2, hm⟩ := nm_some hm
      refine rw_iinc (pc := 33) (lv' := [(2, .int y2), (1, .int y1), (0, .ref a_t)]) 2 rfl hy2 (by decide) rfl (rx_dt dt_Plan_ownBits 21 rfl) ?_
      refine rw_goto (pc := 36) (tgt := 4) (by decide) (rx_dt dt_Plan_ownBits 22 rfl) ?_
      refine rw_perm (lv' := [(0, .ref a_t), (1, .int y1), (2, .int y2)]) (ws' := [ob a_t 7 [.ref a_t_token, .int t_size, .int t_matches, .ref a_t_literals, .ref a_t_distances, .int t_kind, .int t_bits], ob a_t_distances 1 [.ref a_t_distances_count, .ref a_t_distances_length], ia Z a_t_distances_count 30 t_distances_count, ia Z a_t_distances_length 30 t_distances_length, ob a_t_literals 1 [.ref a_t_literals_count, .ref a_t_literals_length], ia Z a_t_literals_count 286 t_literals_count, ia Z a_t_literals_length 286 t_literals_length]) [2, 1, 0] [0, 1, 2, 3, 4, 5, 6] rfl rfl rfl ?_
      exact ih  _ _ _ _ hm K
set_option maxRecDepth 100000 in
set_option maxHeartbeats 4000000 in
theorem wl_Plan_ownBits_41 (l : Launch) (Z : rx_D) (mc ms : Nat) (post : Option Value → va_W → Prop) (k n : Nat) (F : Nat) (a_t a_t_distances a_t_distances_count a_t_distances_length a_t_literals a_t_literals_count a_t_literals_length a_t_token : Nat) (t_bits : Int32) (t_distances_count t_distances_length : Nat → Int32) (t_kind : Int32) (t_literals_count t_literals_length : Nat → Int32) (t_matches t_size : Int32) : ∀ (f : Nat)  (v1_4 v2_4 : Int32) (v1_5 v2_5 : Int32), L_Plan_ownBits_41 F t_distances_count t_distances_length f v1_4 v2_4 = some (v1_5, v2_5) → (J_Plan_ownBits l Z mc ms post k n [ob a_t 7 [.ref a_t_token, .int t_size, .int t_matches, .ref a_t_literals, .ref a_t_distances, .int t_kind, .int t_bits], ob a_t_distances 1 [.ref a_t_distances_count, .ref a_t_distances_length], ia Z a_t_distances_count 30 t_distances_count, ia Z a_t_distances_length 30 t_distances_length, ob a_t_literals 1 [.ref a_t_literals_count, .ref a_t_literals_length], ia Z a_t_literals_count 286 t_literals_count, ia Z a_t_literals_length 286 t_literals_length] [(1, .int v1_5)] 75 []) → J_Plan_ownBits l Z mc ms post k n [ob a_t 7 [.ref a_t_token, .int t_size, .int t_matches, .ref a_t_literals, .ref a_t_distances, .int t_kind, .int t_bits], ob a_t_distances 1 [.ref a_t_distances_count, .ref a_t_distances_length], ia Z a_t_distances_count 30 t_distances_count, ia Z a_t_distances_length 30 t_distances_length, ob a_t_literals 1 [.ref a_t_literals_count, .ref a_t_literals_length], ia Z a_t_literals_count 286 t_literals_count, ia Z a_t_literals_length 286 t_literals_length] [(0, .ref a_t), (1, .int v1_4), (2, .int v2_4)] 41 [] := by
  intro f
  induction f with
  | zero =>
    intro v1_4 v2_4 v1_5 v2_5 hm K
    cases hm
  | succ f ih =>
    intro v1_4 v2_4 v1_5 v2_5 hm K
    have hm : B_Plan_ownBits_41 F t_distances_count t_distances_length (L_Plan_ownBits_41 F t_distances_count t_distances_length f) v1_4 v2_4 = some (v1_5, v2_5) := hm
    unfold B_Plan_ownBits_41 at hm
    refine rw_iload_n (pc := 41) 2 rfl rfl (rx_dt dt_Plan_ownBits 25 rfl) ?_
    refine rw_bipush (pc := 42) (v := 30) (by decide) (rx_dt dt_Plan_ownBits 26 rfl) ?_
    rcases ite_some hm with ⟨hc, hm⟩ | ⟨hc, hm⟩
    · refine rw_icmp_ge_t (pc := 44) (tgt := 75) hc (by decide) (rx_dt dt_Plan_ownBits 27 rfl) ?_
      refine rw_perm (lv' := [(1, .int v1_4)]) (ws' := [ob a_t 7 [.ref a_t_token, .int t_size, .int t_matches, .ref a_t_literals, .ref a_t_distances, .int t_kind, .int t_bits], ob a_t_distances 1 [.ref a_t_distances_count, .ref a_t_distances_length], ia Z a_t_distances_count 30 t_distances_count, ia Z a_t_distances_length 30 t_distances_length, ob a_t_literals 1 [.ref a_t_literals_count, .ref a_t_literals_length], ia Z a_t_literals_count 286 t_literals_count, ia Z a_t_literals_length 286 t_literals_length]) [1] [0, 1, 2, 3, 4, 5, 6] rfl rfl rfl ?_
      cases hm
      exact K
    · refine rw_icmp_ge_f (pc := 44) (tgt := 75) hc (by decide) (rx_dt dt_Plan_ownBits 27 rfl) ?_
      refine rw_iload_n (pc := 47) 1 rfl rfl (rx_dt dt_Plan_ownBits 28 rfl) ?_
      refine rw_aload_n (pc := 48) 0 rfl rfl (rx_dt dt_Plan_ownBits 29 rfl) ?_
      refine rw_get fa_Plan_31 (pc := 49) 0 rfl rfl (rx_dt dt_Plan_ownBits 30 rfl) ?_
      refine rw_get fa_Plan_40 (pc := 52) 1 rfl rfl (rx_dt dt_Plan_ownBits 31 rfl) ?_
      refine rw_iload_n (pc := 55) 2 rfl rfl (rx_dt dt_Plan_ownBits 32 rfl) ?_
      obtain ⟨hk3, hm⟩ := chk_some hm
      refine rw_iald (pc := 56) 2 rfl hk3 (rx_dt dt_Plan_ownBits 33 rfl) ?_
      refine rw_aload_n (pc := 57) 0 rfl rfl (rx_dt dt_Plan_ownBits 34 rfl) ?_
      refine rw_get fa_Plan_31 (pc := 58) 0 rfl rfl (rx_dt dt_Plan_ownBits 35 rfl) ?_
      refine rw_get fa_Plan_106 (pc := 61) 1 rfl rfl (rx_dt dt_Plan_ownBits 36 rfl) ?_
      refine rw_iload_n (pc := 64) 2 rfl rfl (rx_dt dt_Plan_ownBits 37 rfl) ?_
      obtain ⟨hk4, hm⟩ := chk_some hm
      refine rw_iald (pc := 65) 3 rfl hk4 (rx_dt dt_Plan_ownBits 38 rfl) ?_
      refine rw_imul (pc := 66) (rx_dt dt_Plan_ownBits 39 rfl) ?_
      refine rw_iadd (pc := 67) (rx_dt dt_Plan_ownBits 40 rfl) ?_
      obtain ⟨y3, hy3, hm⟩ := nm_some hm
      refine rw_nm hy3 ?_
      refine rw_istore_n (pc := 68) (lv' := [(1, .int y3), (0, .ref a_t), (2, .int v2_4)]) rfl (by decide) rfl (rx_dt dt_Plan_ownBits 41 rfl) ?_
      obtain ⟨y4, hy4, hm⟩ := nm_some hm
      refine rw_iinc (pc := 69) (lv' := [(2, .int y4), (1, .int y3), (0, .ref a_t)]) 2 rfl hy4 (by decide) rfl (rx_dt dt_Plan_ownBits 42 rfl) ?_
      refine rw_goto (pc := 72) (tgt := 41) (by decide) (rx_dt dt_Plan_ownBits 43 rfl) ?_
      refine rw_perm (lv' := [(0, .ref a_t), (1, .int y3), (2, .int y4)]) (ws' := [ob a_t 7 [.ref a_t_token, .int t_size, .int t_matches, .ref a_t_literals, .ref a_t_distances, .int t_kind, .int t_bits], ob a_t_distances 1 [.ref a_t_distances_count, .ref a_t_distances_length], ia Z a_t_distances_count 30 t_distances_count, ia Z a_t_distances_length 30 t_distances_length, ob a_t_literals 1 [.ref a_t_literals_count, .ref a_t_literals_length], ia Z a_t_literals_count 286 t_literals_count, ia Z a_t_literals_length 286 t_literals_length]) [2, 1, 0] [0, 1, 2, 3, 4, 5, 6] rfl rfl rfl ?_
      exact ih  _ _ _ _ hm K
