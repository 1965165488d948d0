theorem c_Matches_sameBytes (l : Launch) (Z : rx_D) (F : Nat) (a_t a_t_below a_t_bucket a_t_bytes a_t_found : Nat) (t_bytes : Nat → Int32) (t_steps x1 x2 x3 x4 : Int32) (r0 : Int32) (hm : m_Matches_sameBytes F t_bytes x1 x2 x3 x4 = some r0) : Cn l Z y_Matches_sameBytes b_Matches_sameBytes 6 (some .int) 0 [.ref a_t, .int x1, .int x2, .int x3, .int x4] [ob a_t 6 [.ref a_t_bytes, .ref a_t_bucket, .ref a_t_below, .ref a_t_found, .int t_steps], ia Z a_t_bytes 512 t_bytes] 0 0 (fun r w => r = (some (.int r0)) ∧ w = [ob a_t 6 [.ref a_t_bytes, .ref a_t_bucket, .ref a_t_below, .ref a_t_found, .int t_steps], ia Z a_t_bytes 512 t_bytes]) :=
  rx_met "DeflateEffort$Matches" "sameBytes" mf_Matches_sameBytes (Nat.le_of_ble_eq_true rfl) rfl (by rintro _ _ ⟨h9, _⟩; cases h9) (w_Matches_sameBytes l Z 0 0 _ 0 0 F a_t a_t_below a_t_bucket a_t_bytes a_t_found t_bytes t_steps x1 x2 x3 x4 r0 hm ⟨rfl, rfl⟩)
abbrev J_DE_matchToken (l : Launch) (Z : rx_D) (mc ms : Nat) (post : Option Value → va_W → Prop) := Rw l Z "DeflateEffort" "matchToken" b_DE_matchToken 2 (some .int) 0 mc ms post
set_option maxRecDepth 100000 in
set_option maxHeartbeats 4000000 in
theorem w_DE_matchToken (l : Launch) (Z : rx_D) (mc ms : Nat) (post : Option Value → va_W → Prop) (k n : Nat) (F : Nat) (x0 x1 : Int32) (r0 : Int32) (hm : m_DE_matchToken F x0 x1 = some r0) (hp : post (some (.int r0)) []) : J_DE_matchToken l Z mc ms post k n [] [(0, .int x0), (1, .int x1)] 0 [] := by
  unfold m_DE_matchToken at hm
  refine rw_iload_n (pc := 0) 0 rfl rfl (rx_dt dt_DE_matchToken 0 rfl) ?_
  refine rw_bipush (pc := 1) (v := 16) (by decide) (rx_dt dt_DE_matchToken 1 rfl) ?_
  refine rw_ishl (pc := 3) (rx_dt dt_DE_matchToken 2 rfl) ?_
  refine rw_iload_n (pc := 4) 1 rfl rfl (rx_dt dt_DE_matchToken 3 rfl) ?_
  refine rw_ior (pc := 5) (rx_dt dt_DE_matchToken 4 rfl) ?_
  refine rw_perm (lv' := []) (ws' := []) [] [] rfl rfl rfl ?_
  cases hm
  exact rw_iret (pc := 6) (rx_dt dt_DE_matchToken 5 rfl) hp
theorem c_DE_matchToken (l : Launch) (Z : rx_D) (F : Nat) (x0 x1 : Int32) (r0 : Int32) (hm : m_DE_matchToken F x0 x1 = some r0) : Cn l Z y_DE_matchToken b_DE_matchToken 2 (some .int) 0 [.int x0, .int x1] [] 0 0 (fun r w => r = (some (.int r0)) ∧ w = []) :=
  rx_met "DeflateEffort" "matchToken" mf_DE_matchToken (Nat.le_of_ble_eq_true rfl) rfl (by rintro _ _ ⟨h9, _⟩; cases h9) (w_DE_matchToken l Z 0 0 _ 0 0 F x0 x1 r0 hm ⟨rfl, rfl⟩)
abbrev J_Matches_longestAt (l : Launch) (Z : rx_D) (mc ms : Nat) (post : Option Value → va_W → Prop) := Rw l Z "DeflateEffort$Matches" "longestAt" b_Matches_longestAt 10 (some .int) 1 mc ms post
set_option maxRecDepth 100000 in
set_option maxHeartbeats 4000000 in
theorem wl_Matches_longestAt_20 (l : Launch) (Z : rx_D) (mc ms : Nat) (post : Option Value → va_W → Prop) (k n : Nat) (F : Nat) (a_t a_t_below a_t_bucket a_t_bytes a_t_found : Nat) (t_below t_bytes : Nat → Int32) (t_steps x1 x2 x3 : Int32) : ∀ (f : Nat)  (v4_1 v5_1 v6_1 v7_1 v8_1 : Int32) (v4_2 v5_2 v6_2 v7_2 v8_2 : Int32), L_Matches_longestAt_20 F t_below t_bytes x1 x2 x3 f v4_1 v5_1 v6_1 v7_1 v8_1 = some (v4_2, v5_2, v6_2, v7_2, v8_2) → (J_Matches_longestAt l Z mc ms post k n [ob a_t 6 [.ref a_t_bytes, .ref a_t_bucket, .ref a_t_below, .ref a_t_found, .int t_steps], ia Z a_t_below 512 t_below, ia Z a_t_bytes 512 t_bytes] [(0, .ref a_t), (4, .int v4_2), (5, .int v5_2), (6, .int v6_2)] 94 []) → J_Matches_longestAt l Z mc ms post k n [ob a_t 6 [.ref a_t_bytes, .ref a_t_bucket, .ref a_t_below, .ref a_t_found, .int t_steps], ia Z a_t_below 512 t_below, ia Z a_t_bytes 512 t_bytes] [(0, .ref a_t), (1, .int x1), (2, .int x2), (3, .int x3), (4, .int v4_1), (5, .int v5_1), (6, .int v6_1), (7, .int v7_1), (8, .int v8_1)] 20 [] := by
  intro f
  induction f with
  | zero =>
    intro v4_1 v5_1 v6_1 v7_1 v8_1 v4_2 v5_2 v6_2 v7_2 v8_2 hm K
    cases hm
  | succ f ih =>
    intro v4_1 v5_1 v6_1 v7_1 v8_1 v4_2 v5_2 v6_2 v7_2 v8_2 hm K
    have hm : B_Matches_longestAt_20 F t_below t_bytes x1 x2 x3 (L_Matches_longestAt_20 F t_below t_bytes x1 x2 x3 f) v4_1 v5_1 v6_1 v7_1 v8_1 = some (v4_2, v5_2, v6_2, v7_2, v8_2) := hm
    unfold B_Matches_longestAt_20 at hm
    refine rw_iload (pc := 20) 8 rfl (rx_dt dt_Matches_longestAt 13 rfl) ?_
    refine rw_iload_n (pc := 22) 1 rfl rfl (rx_dt dt_Matches_longestAt 14 rfl) ?_
    rcases ite_some hm with ⟨hc, hm⟩ | ⟨hc, hm⟩
    · refine rw_icmp_ge_t (pc := 23) (tgt := 94) hc (by decide) (rx_dt dt_Matches_longestAt 15 rfl) ?_
      refine rw_perm (lv' := [(0, .ref a_t), (4, .int v4_1), (5, .int v5_1), (6, .int v6_1)]) (ws' := [ob a_t 6 [.ref a_t_bytes, .ref a_t_bucket, .ref a_t_below, .ref a_t_found, .int t_steps], ia Z a_t_below 512 t_below, ia Z a_t_bytes 512 t_bytes]) [0, 4, 5, 6] [0, 1, 2] rfl rfl rfl ?_
      cases hm
      exact K
    · refine rw_icmp_ge_f (pc := 23) (tgt := 94) hc (by decide) (rx_dt dt_Matches_longestAt 15 rfl) ?_
      refine rw_iload (pc := 26) 7 rfl (rx_dt dt_Matches_longestAt 16 rfl) ?_
      rcases ite_some hm with ⟨hc, hm⟩ | ⟨hc, hm⟩
      · refine rw_if_lt_t (pc := 28) (tgt := 94) hc (by decide) (rx_dt dt_Matches_longestAt 17 rfl) ?_
        refine rw_perm (lv' := [(0, .ref a_t), (4, .int v4_1), (5, .int v5_1), (6, .int v6_1)]) (ws' := [ob a_t 6 [.ref a_t_bytes, .ref a_t_bucket, .ref a_t_below, .ref a_t_found, .int t_steps], ia Z a_t_below 512 t_below, ia Z a_t_bytes 512 t_bytes]) [0, 4, 5, 6] [0, 1, 2] rfl rfl rfl ?_
        cases hm
        exact K
      · refine rw_if_lt_f (pc := 28) (tgt := 94) hc (by decide) (rx_dt dt_Matches_longestAt 17 rfl) ?_
        refine rw_iload (pc := 31) 6 rfl (rx_dt dt_Matches_longestAt 18 rfl) ?_
        refine rw_iload_n (pc := 33) 3 rfl rfl (rx_dt dt_Matches_longestAt 19 rfl) ?_
        rcases ite_some hm with ⟨hc, hm⟩ | ⟨hc, hm⟩
        · refine rw_icmp_ge_t (pc := 34) (tgt := 94) hc (by decide) (rx_dt dt_Matches_longestAt 20 rfl) ?_
          refine rw_perm (lv' := [(0, .ref a_t), (4, .int v4_1), (5, .int v5_1), (6, .int v6_1)]) (ws' := [ob a_t 6 [.ref a_t_bytes, .ref a_t_bucket, .ref a_t_below, .ref a_t_found, .int t_steps], ia Z a_t_below 512 t_below, ia Z a_t_bytes 512 t_bytes]) [0, 4, 5, 6] [0, 1, 2] rfl rfl rfl ?_
          cases hm
          exact K
        · refine rw_icmp_ge_f (pc := 34) (tgt := 94) hc (by decide) (rx_dt dt_Matches_longestAt 20 rfl) ?_
          refine rw_aload_n (pc := 37) 0 rfl rfl (rx_dt dt_Matches_longestAt 21 rfl) ?_
          refine rw_iload (pc := 38) 7 rfl (rx_dt dt_Matches_longestAt 22 rfl) ?_
          refine rw_iload_n (pc := 40) 1 rfl rfl (rx_dt dt_Matches_longestAt 23 rfl) ?_
          obtain ⟨r1, hq, hm⟩ := bnd1_some hm
          refine rw_callV cw_Matches_sameThree lk_Matches_51 ci_Matches_sameThree rfl (q := 0) rfl (c_Matches_sameThree l Z F (a_t := a_t) (a_t_below := a_t_below) (a_t_bucket := a_t_bucket) (a_t_bytes := a_t_bytes) (a_t_found := a_t_found) (t_bytes := t_bytes) (t_steps := t_steps) (x1 := v7_1) (x2 := x1) (r0 := r1) hq) [0, 2] [1] rfl rfl rfl rfl (by decide) rfl (by decide) (fun h => h) (rest := []) (wr := [ia Z a_t_below 512 t_below]) (Nat.le_of_ble_eq_true rfl) rfl (rx_dt dt_Matches_longestAt 24 rfl) (pc := 41) ?_
          rintro _ _ ⟨rfl, rfl⟩
          show J_Matches_longestAt l Z mc ms post k n [ia Z a_t_below 512 t_below, ob a_t 6 [.ref a_t_bytes, .ref a_t_bucket, .ref a_t_below, .ref a_t_found, .int t_steps], ia Z a_t_bytes 512 t_bytes] [(0, .ref a_t), (1, .int x1), (2, .int x2), (3, .int x3), (4, .int v4_1), (5, .int v5_1), (6, .int v6_1), (7, .int v7_1), (8, .int v8_1)] 44 [.int r1]
          obtain ⟨z1, z2, z3, hj, hm⟩ := bnd3_some hm
          have KJ : J_Matches_longestAt l Z mc ms post k n [ob a_t 6 [.ref a_t_bytes, .ref a_t_bucket, .ref a_t_below, .ref a_t_found, .int t_steps], ia Z a_t_below 512 t_below, ia Z a_t_bytes 512 t_bytes] [(0, .ref a_t), (1, .int x1), (2, .int x2), (3, .int x3), (4, .int z1), (5, .int z2), (6, .int z3), (7, .int v7_1), (8, .int v8_1)] 79 [] := by
            refine rw_aload_n (pc := 79) 0 rfl rfl (rx_dt dt_Matches_longestAt 43 rfl) ?_
            refine rw_get fa_Matches_15 (pc := 80) 0 rfl rfl (rx_dt dt_Matches_longestAt 44 rfl) ?_
            refine rw_iload (pc := 83) 7 rfl (rx_dt dt_Matches_longestAt 45 rfl) ?_
            obtain ⟨hk2, hm⟩ := chk_some hm
            refine rw_iald (pc := 85) 1 rfl hk2 (rx_dt dt_Matches_longestAt 46 rfl) ?_
            obtain ⟨y4, hy4, hm⟩ := nm_some hm
            refine rw_nm hy4 ?_
            refine rw_istore (pc := 86) (lv' := [(7, .int y4), (0, .ref a_t), (1, .int x1), (2, .int x2), (3, .int x3), (4, .int z1), (5, .int z2), (6, .int z3), (8, .int v8_1)]) (by decide) rfl (rx_dt dt_Matches_longestAt 47 rfl) ?_
            obtain ⟨y5, hy5, hm⟩ := nm_some hm
            refine rw_iinc (pc := 88) (lv' := [(8, .int y5), (7, .int y4), (0, .ref a_t), (1, .int x1), (2, .int x2), (3, .int x3), (4, .int z1), (5, .int z2), (6, .int z3)]) 8 rfl hy5 (by decide) rfl (rx_dt dt_Matches_longestAt 48 rfl) ?_
            refine rw_goto (pc := 91) (tgt := 20) (by decide) (rx_dt dt_Matches_longestAt 49 rfl) ?_
            refine rw_perm (lv' := [(0, .ref a_t), (1, .int x1), (2, .int x2), (3, .int x3), (4, .int z1), (5, .int z2), (6, .int z3), (7, .int y4), (8, .int y5)]) (ws' := [ob a_t 6 [.ref a_t_bytes, .ref a_t_bucket, .ref a_t_below, .ref a_t_found, .int t_steps], ia Z a_t_below 512 t_below, ia Z a_t_bytes 512 t_bytes]) [2, 3, 4, 5, 6, 7, 8, 1, 0] [0, 1, 2] rfl rfl rfl ?_
            exact ih  _ _ _ _ _ _ _ _ _ _ hm K
          clear hm
          have hm := hj
          clear hj
          rcases ite_some hm with ⟨hc, hm⟩ | ⟨hc, hm⟩
          · refine rw_if_eq_t (pc := 44) (tgt := 79) hc (by decide) (rx_dt dt_Matches_longestAt 25 rfl) ?_
            refine rw_perm (lv' := [(0, .ref a_t), (1, .int x1), (2, .int x2), (3, .int x3), (4, .int v4_1), (5, .int v5_1), (6, .int v6_1), (7, .int v7_1), (8, .int v8_1)]) (ws' := [ob a_t 6 [.ref a_t_bytes, .ref a_t_bucket, .ref a_t_below, .ref a_t_found, .int t_steps], ia Z a_t_below 512 t_below, ia Z a_t_bytes 512 t_bytes]) [0, 1, 2, 3, 4, 5, 6, 7, 8] [1, 0, 2] rfl rfl rfl ?_
            cases hm
            exact KJ
          · refine rw_if_eq_f (pc := 44) (tgt := 79) hc (by decide) (rx_dt dt_Matches_longestAt 25 rfl) ?_
            obtain ⟨y2, hy2, hm⟩ := nm_some hm
            refine rw_iinc (pc := 47) (lv' := [(6, .int y2), (0, .ref a_t), (1, .int x1), (2, .int x2), (3, .int x3), (4, .int v4_1), (5, .int v5_1), (7, .int v7_1), (8, .int v8_1)]) 6 rfl hy2 (by decide) rfl (rx_dt dt_Matches_longestAt 26 rfl) ?_
            refine rw_aload_n (pc := 50) 1 rfl rfl (rx_dt dt_Matches_longestAt 27 rfl) ?_
            refine rw_iload (pc := 51) 7 rfl (rx_dt dt_Matches_longestAt 28 rfl) ?_
            refine rw_iload_n (pc := 53) 2 rfl rfl (rx_dt dt_Matches_longestAt 29 rfl) ?_
            refine rw_iload (pc := 54) 5 rfl (rx_dt dt_Matches_longestAt 30 rfl) ?_
            refine rw_iload_n (pc := 56) 3 rfl rfl (rx_dt dt_Matches_longestAt 31 rfl) ?_
            obtain ⟨r2, hq, hm⟩ := bnd1_some hm
            refine rw_callV cw_Matches_sameBytes lk_Matches_55 ci_Matches_sameBytes rfl (q := 1) rfl (c_Matches_sameBytes l Z F (a_t := a_t) (a_t_below := a_t_below) (a_t_bucket := a_t_bucket) (a_t_bytes := a_t_bytes) (a_t_found := a_t_found) (t_bytes := t_bytes) (t_steps := t_steps) (x1 := v7_1) (x2 := x1) (x3 := v4_1) (x4 := x2) (r0 := r2) hq) [1, 2] [0] rfl rfl rfl rfl (by decide) rfl (by decide) (fun h => h) (rest := []) (wr := [ia Z a_t_below 512 t_below]) (Nat.le_of_ble_eq_true rfl) rfl (rx_dt dt_Matches_longestAt 32 rfl) (pc := 57) ?_
            rintro _ _ ⟨rfl, rfl⟩
            show J_Matches_longestAt l Z mc ms post k n [ia Z a_t_below 512 t_below, ob a_t 6 [.ref a_t_bytes, .ref a_t_bucket, .ref a_t_below, .ref a_t_found, .int t_steps], ia Z a_t_bytes 512 t_bytes] [(6, .int y2), (0, .ref a_t), (1, .int x1), (2, .int x2), (3, .int x3), (4, .int v4_1), (5, .int v5_1), (7, .int v7_1), (8, .int v8_1)] 60 [.int r2]
            refine rw_istore (pc := 60) (lv' := [(9, .int r2), (6, .int y2), (0, .ref a_t), (1, .int x1), (2, .int x2), (3, .int x3), (4, .int v4_1), (5, .int v5_1), (7, .int v7_1), (8, .int v8_1)]) (by decide) rfl (rx_dt dt_Matches_longestAt 33 rfl) ?_
            refine rw_iload (pc := 62) 0 rfl (rx_dt dt_Matches_longestAt 34 rfl) ?_
            refine rw_iload (pc := 64) 6 rfl (rx_dt dt_Matches_longestAt 35 rfl) ?_
            rcases ite_some hm with ⟨hc, hm⟩ | ⟨hc, hm⟩
            · refine rw_icmp_le_t (pc := 66) (tgt := 79) hc (by decide) (rx_dt dt_Matches_longestAt 36 rfl) ?_
              refine rw_perm (lv' := [(0, .ref a_t), (1, .int x1), (2, .int x2), (3, .int x3), (4, .int v4_1), (5, .int v5_1), (6, .int y2), (7, .int v7_1), (8, .int v8_1)]) (ws' := [ob a_t 6 [.ref a_t_bytes, .ref a_t_bucket, .ref a_t_below, .ref a_t_found, .int t_steps], ia Z a_t_below 512 t_below, ia Z a_t_bytes 512 t_bytes]) [2, 3, 4, 5, 6, 7, 1, 8, 9] [1, 0, 2] rfl rfl rfl ?_
              cases hm
              exact KJ
            · refine rw_icmp_le_f (pc := 66) (tgt := 79) hc (by decide) (rx_dt dt_Matches_longestAt 36 rfl) ?_
              refine rw_iload (pc := 69) 0 rfl (rx_dt dt_Matches_longestAt 37 rfl) ?_
              refine rw_istore (pc := 71) (lv' := [(4, .int r2), (9, .int r2), (6, .int y2), (0, .ref a_t), (1, .int x1), (2, .int x2), (3, .int x3), (5, .int v5_1), (7, .int v7_1), (8, .int v8_1)]) (by decide) rfl (rx_dt dt_Matches_longestAt 38 rfl) ?_
              refine rw_iload_n (pc := 73) 4 rfl rfl (rx_dt dt_Matches_longestAt 39 rfl) ?_
              refine rw_iload (pc := 74) 8 rfl (rx_dt dt_Matches_longestAt 40 rfl) ?_
              refine rw_isub (pc := 76) (rx_dt dt_Matches_longestAt 41 rfl) ?_
              obtain ⟨y3, hy3, hm⟩ := nm_some hm
              refine rw_nm hy3 ?_
              refine rw_istore (pc := 77) (lv' := [(5, .int y3), (4, .int r2), (9, .int r2), (6, .int y2), (0, .ref a_t), (1, .int x1), (2, .int x2), (3, .int x3), (7, .int v7_1), (8, .int v8_1)]) (by decide) rfl (rx_dt dt_Matches_longestAt 42 rfl) ?_
              refine rw_perm (lv' := [(0, .ref a_t), (1, .int x1), (2, .int x2), (3, .int x3), (4, .int r2), (5, .int y3), (6, .int y2), (7, .int v7_1), (8, .int v8_1)]) (ws' := [ob a_t 6 [.ref a_t_bytes, .ref a_t_bucket, .ref a_t_below, .ref a_t_found, .int t_steps], ia Z a_t_below 512 t_below, ia Z a_t_bytes 512 t_bytes]) [4, 5, 6, 7, 1, 0, 3, 8, 9] [1, 0, 2] rfl rfl rfl ?_
              cases hm
              exact KJ
set_option maxRecDepth 100000 in
set_option maxHeartbeats 4000000 in
theorem w_Matches_longestAt (l : Launch) (Z : rx_D) (mc ms : Nat) (post : Option Value → va_W → Prop) (k n : Nat) (F : Nat) (a_t a_t_below a_t_bucket a_t_bytes a_t_found : Nat) (t_below t_bytes : Nat → Int32) (t_steps x1 x2 x3 : Int32) (r0 o_t_steps : Int32) (hm : m_Matches_longestAt F t_below t_bytes t_steps x1 x2 x3 = some (r0, o_t_steps)) (hp : post (some (.int r0)) [ob a_t 6 [.ref a_t_bytes, .ref a_t_bucket, .ref a_t_below, .ref a_t_found, .int o_t_steps], ia Z a_t_below 512 t_below, ia Z a_t_bytes 512 t_bytes]) : J_Matches_longestAt l Z mc ms post k n [ob a_t 6 [.ref a_t_bytes, .ref a_t_bucket, .ref a_t_below, .ref a_t_found, .int t_steps], ia Z a_t_below 512 t_below, ia Z a_t_bytes 512 t_bytes] [(0, .ref a_t), (1, .int x1), (2, .int x2), (3, .int x3)] 0 [] := by
  unfold m_Matches_longestAt at hm
  refine rw_iconst (pc := 0) (v := 0) rfl (rx_dt dt_Matches_longestAt 0 rfl) ?_
  refine rw_istore (pc := 1) (lv' := [(4, .int (0 : Int32)), (0, .ref a_t), (1, .int x1), (2, .int x2), (3, .int x3)]) (by decide) rfl (rx_dt dt_Matches_longestAt 1 rfl) ?_
  refine rw_iconst (pc := 3) (v := 0) rfl (rx_dt dt_Matches_longestAt 2 rfl) ?_
  refine rw_istore (pc := 4) (lv' := [(5, .int (0 : Int32)), (4, .int (0 : Int32)), (0, .ref a_t), (1, .int x1), (2, .int x2), (3, .int x3)]) (by decide) rfl (rx_dt dt_Matches_longestAt 3 rfl) ?_
  refine rw_iconst (pc := 6) (v := 0) rfl (rx_dt dt_Matches_longestAt 4 rfl) ?_
  refine rw_istore (pc := 7) (lv' := [(6, .int (0 : Int32)), (5, .int (0 : Int32)), (4, .int (0 : Int32)), (0, .ref a_t), (1, .int x1), (2, .int x2), (3, .int x3)]) (by decide) rfl (rx_dt dt_Matches_longestAt 5 rfl) ?_
  refine rw_aload_n (pc := 9) 3 rfl rfl (rx_dt dt_Matches_longestAt 6 rfl) ?_
  refine rw_get fa_Matches_15 (pc := 10) 0 rfl rfl (rx_dt dt_Matches_longestAt 7 rfl) ?_
  refine rw_iload_n (pc := 13) 4 rfl rfl (rx_dt dt_Matches_longestAt 8 rfl) ?_
  obtain ⟨hk1, hm⟩ := chk_some hm
  refine rw_iald (pc := 14) 1 rfl hk1 (rx_dt dt_Matches_longestAt 9 rfl) ?_
  obtain ⟨y1, hy1, hm⟩ := nm_some hm
  refine rw_nm hy1 ?_
  refine rw_istore (pc := 15) (lv' := [(7, .int y1), (6, .int (0 : Int32)), (5, .int (0 : Int32)), (4, .int (0 : Int32)), (0, .ref a_t), (1, .int x1), (2, .int x2), (3, .int x3)]) (by decide) rfl (rx_dt dt_Matches_longestAt 10 rfl) ?_
  refine rw_iconst (pc := 17) (v := 0) rfl (rx_dt dt_Matches_longestAt 11 rfl) ?_
  refine rw_istore (pc := 18) (lv' := [(8, .int (0 : Int32)), (7, .int y1), (6, .int (0 : Int32)), (5, .int (0 : Int32)), (4, .int (0 : Int32)), (0, .ref a_t), (1, .int x1), (2, .int x2), (3, .int x3)]) (by decide) rfl (rx_dt dt_Matches_longestAt 12 rfl) ?_
  obtain ⟨v4_3, v5_3, v6_3, v7_3, v8_3, hl, hm⟩ := bnd5_some hm
  refine rw_perm (lv' := [(0, .ref a_t), (1, .int x1), (2, .int x2), (3, .int x3), (4, .int (0 : Int32)), (5, .int (0 : Int32)), (6, .int (0 : Int32)), (7, .int y1), (8, .int (0 : Int32))]) (ws' := [ob a_t 6 [.ref a_t_bytes, .ref a_t_bucket, .ref a_t_below, .ref a_t_found, .int t_steps], ia Z a_t_below 512 t_below, ia Z a_t_bytes 512 t_bytes]) [5, 6, 7, 8, 4, 3, 2, 1, 0] [0, 1, 2] rfl rfl rfl ?_
  refine wl_Matches_longestAt_20 l Z mc ms post k n F a_t a_t_below a_t_bucket a_t_bytes a_t_found t_below t_bytes t_steps x1 x2 x3 F  (0 : Int32) (0 : Int32) (0 : Int32) y1 (0 : Int32) v4_3 v5_3 v6_3 v7_3 v8_3 hl ?_
  refine rw_aload_n (pc := 94) 0 rfl rfl (rx_dt dt_Matches_longestAt 50 rfl) ?_
  refine rw_dup (pc := 95) rfl (rx_dt dt_Matches_longestAt 51 rfl) ?_
  refine rw_get fa_Matches_21 (pc := 96) 0 rfl rfl (rx_dt dt_Matches_longestAt 52 rfl) ?_
  refine rw_iload (pc := 99) 3 rfl (rx_dt dt_Matches_longestAt 53 rfl) ?_
  refine rw_iadd (pc := 101) (rx_dt dt_Matches_longestAt 54 rfl) ?_
  obtain ⟨y6, hy6, hm⟩ := nm_some hm
  refine rw_nm hy6 ?_
  refine rw_put fa_Matches_21 (pc := 102) (ws' := [ob a_t 6 [.ref a_t_bytes, .ref a_t_bucket, .ref a_t_below, .ref a_t_found, .int y6], ia Z a_t_below 512 t_below, ia Z a_t_bytes 512 t_bytes]) 0 rfl rfl rfl (Nat.le_of_ble_eq_true rfl) rfl (rx_dt dt_Matches_longestAt 55 rfl) ?_
  refine rw_iload (pc := 105) 1 rfl (rx_dt dt_Matches_longestAt 56 rfl) ?_
  refine rw_iload (pc := 107) 2 rfl (rx_dt dt_Matches_longestAt 57 rfl) ?_
  obtain ⟨r3, hq, hm⟩ := bnd1_some hm
  refine rw_callS cw_DE_matchToken lk_Matches_59 cs_DE_matchToken (c_DE_matchToken l Z F (x0 := v4_3) (x1 := v5_3) (r0 := r3) hq) [] [0, 1, 2] rfl rfl rfl rfl (by decide) rfl (by decide) (fun h => h) (rest := []) (wr := [ob a_t 6 [.ref a_t_bytes, .ref a_t_bucket, .ref a_t_below, .ref a_t_found, .int y6], ia Z a_t_below 512 t_below, ia Z a_t_bytes 512 t_bytes]) (Nat.le_of_ble_eq_true rfl) rfl (rx_dt dt_Matches_longestAt 58 rfl) (pc := 109) ?_
  rintro _ _ ⟨rfl, rfl⟩
  show J_Matches_longestAt l Z mc ms post k n [ob a_t 6 [.ref a_t_bytes, .ref a_t_bucket, .ref a_t_below, .ref a_t_found, .int y6], ia Z a_t_below 512 t_below, ia Z a_t_bytes 512 t_bytes] [(0, .ref a_t), (4, .int v4_3), (5, .int v5_3), (6, .int v6_3)] 112 [.int r3]
  refine rw_perm (lv' := []) (ws' := [ob a_t 6 [.ref a_t_bytes, .ref a_t_bucket, .ref a_t_below, .ref a_t_found, .int y6], ia Z a_t_below 512 t_below, ia Z a_t_bytes 512 t_bytes]) [] [0, 1, 2] rfl rfl rfl ?_
  cases hm
  exact rw_iret (pc := 112) (rx_dt dt_Matches_longestAt 59 rfl) hp
theorem c_Matches_longestAt (l : Launch) (Z : rx_D) (F : Nat) (a_t a_t_below a_t_bucket a_t_bytes a_t_found : Nat) (t_below t_bytes : Nat → Int32) (t_steps x1 x2 x3 : Int32) (r0 o_t_steps : Int32) (hm : m_Matches_longestAt F t_below t_bytes t_steps x1 x2 x3 = some (r0, o_t_steps)) : Cn l Z y_Matches_longestAt b_Matches_longestAt 10 (some .int) 1 [.ref a_t, .int x1, .int x2, .int x3] [ob a_t 6 [.ref a_t_bytes, .ref a_t_bucket, .ref a_t_below, .ref a_t_found, .int t_steps], ia Z a_t_below 512 t_below, ia Z a_t_bytes 512 t_bytes] 0 0 (fun r w => r = (some (.int r0)) ∧ w = [ob a_t 6 [.ref a_t_bytes, .ref a_t_bucket, .ref a_t_below, .ref a_t_found, .int o_t_steps], ia Z a_t_below 512 t_below, ia Z a_t_bytes 512 t_bytes]) :=
  rx_met "DeflateEffort$Matches" "longestAt" mf_Matches_longestAt (Nat.le_of_ble_eq_true rfl) rfl (by rintro _ _ ⟨h9, _⟩; cases h9) (w_Matches_longestAt l Z 0 0 _ 0 0 F a_t a_t_below a_t_bucket a_t_bytes a_t_found t_below t_bytes t_steps x1 x2 x3 r0 o_t_steps hm ⟨rfl, rfl⟩)
abbrev J_Matches_find (l : Launch) (Z : rx_D) (mc ms : Nat) (post : Option Value → va_W → Prop) := Rw l Z "DeflateEffort$Matches" "find" b_Matches_find 5 none 2 mc ms post
set_option maxRecDepth 100000 in
set_option maxHeartbeats 4000000 in
theorem wl_Matches_find_3 (l : Launch) (Z : rx_D) (mc ms : Nat) (post : Option Value → va_W → Prop) (k n : Nat) (F : Nat) (a_t a_t_below a_t_bucket a_t_bytes a_t_found : Nat) (t_below t_bytes : Nat → Int32) (x2 x3 : Int32) : ∀ (f : Nat)  (v4_1 t_steps_1 : Int32) (t_found1 : Nat → Int32) (v4_2 t_steps_2 : Int32) (t_found2 : Nat → Int32), L_Matches_find_3 F t_below t_bytes x2 x3 f v4_1 t_steps_1 t_found1 = some (v4_2, t_steps_2, t_found2) → (J_Matches_find l Z mc ms post k n [ob a_t 6 [.ref a_t_bytes, .ref a_t_bucket, .ref a_t_below, .ref a_t_found, .int t_steps_2], ia Z a_t_below 512 t_below, ia Z a_t_bytes 512 t_bytes, ia Z a_t_found 512 t_found2] [] 51 []) → J_Matches_find l Z mc ms post k n [ob a_t 6 [.ref a_t_bytes, .ref a_t_bucket, .ref a_t_below, .ref a_t_found, .int t_steps_1], ia Z a_t_below 512 t_below, ia Z a_t_bytes 512 t_bytes, ia Z a_t_found 512 t_found1] [(0, .ref a_t), (2, .int x2), (3, .int x3), (4, .int v4_1)] 3 [] := by
  intro f
  induction f with
  | zero =>
    intro v4_1 t_steps_1 t_found1 v4_2 t_steps_2 t_found2 hm K
    cases hm
  | succ f ih =>
    intro v4_1 t_steps_1 t_found1 v4_2 t_steps_2 t_found2 hm K
    have hm : B_Matches_find_3 F t_below t_bytes x2 x3 (L_Matches_find_3 F t_below t_bytes x2 x3 f) v4_1 t_steps_1 t_found1 = some (v4_2, t_steps_2, t_found2) := hm
    unfold B_Matches_find_3 at hm
    refine rw_iload (pc := 3) 3 rfl (rx_dt dt_Matches_find 2 rfl) ?_
    refine rw_iload_n (pc := 5) 1 rfl rfl (rx_dt dt_Matches_find 3 rfl) ?_
    rcases ite_some hm with ⟨hc, hm⟩ | ⟨hc, hm⟩
    · refine rw_icmp_ge_t (pc := 6) (tgt := 51) hc (by decide) (rx_dt dt_Matches_find 4 rfl) ?_
      refine rw_perm (lv' := []) (ws' := [ob a_t 6 [.ref a_t_bytes, .ref a_t_bucket, .ref a_t_below, .ref a_t_found, .int t_steps_1], ia Z a_t_below 512 t_below, ia Z a_t_bytes 512 t_bytes, ia Z a_t_found 512 t_found1]) [] [0, 1, 2, 3] rfl rfl rfl ?_
      cases hm
      exact K
    · refine rw_icmp_ge_f (pc := 6) (tgt := 51) hc (by decide) (rx_dt dt_Matches_find 4 rfl) ?_
      refine rw_aload_n (pc := 9) 0 rfl rfl (rx_dt dt_Matches_find 5 rfl) ?_
      refine rw_get fa_Matches_18 (pc := 10) 0 rfl rfl (rx_dt dt_Matches_find 6 rfl) ?_
      refine rw_iload (pc := 13) 3 rfl (rx_dt dt_Matches_find 7 rfl) ?_
      refine rw_iload (pc := 15) 3 rfl (rx_dt dt_Matches_find 8 rfl) ?_
      refine rw_iconst (pc := 17) (v := 3) rfl (rx_dt dt_Matches_find 9 rfl) ?_
      refine rw_iadd (pc := 18) (rx_dt dt_Matches_find 10 rfl) ?_
      refine rw_iload_n (pc := 19) 1 rfl rfl (rx_dt dt_Matches_find 11 rfl) ?_
      obtain ⟨z1, z2, hj, hm⟩ := bnd2_some hm
      have KJ : J_Matches_find l Z mc ms post k n [ob a_t 6 [.ref a_t_bytes, .ref a_t_bucket, .ref a_t_below, .ref a_t_found, .int z2], ia Z a_t_below 512 t_below, ia Z a_t_bytes 512 t_bytes, ia Z a_t_found 512 t_found1] [(0, .ref a_t), (2, .int x2), (3, .int x3), (4, .int v4_1)] 44 [.int z1, .int v4_1, .ref a_t_found] := by
        obtain ⟨hk1, hm⟩ := chk_some hm
        obtain ⟨t_found3, ht_found3, hm⟩ := nm_some hm
        refine rw_iast (pc := 44) (ws' := [ob a_t 6 [.ref a_t_bytes, .ref a_t_bucket, .ref a_t_below, .ref a_t_found, .int z2], ia Z a_t_below 512 t_below, ia Z a_t_bytes 512 t_bytes, ia Z a_t_found 512 t_found3]) 3 rfl hk1 (by rw [← ht_found3]; rfl) (rx_dt dt_Matches_find 24 rfl) ?_
        obtain ⟨y1, hy1, hm⟩ := nm_some hm
        refine rw_iinc (pc := 45) (lv' := [(4, .int y1), (0, .ref a_t), (2, .int x2), (3, .int x3)]) 3 rfl hy1 (by decide) rfl (rx_dt dt_Matches_find 25 rfl) ?_
        refine rw_goto (pc := 48) (tgt := 3) (by decide) (rx_dt dt_Matches_find 26 rfl) ?_
        refine rw_perm (lv' := [(0, .ref a_t), (2, .int x2), (3, .int x3), (4, .int y1)]) (ws' := [ob a_t 6 [.ref a_t_bytes, .ref a_t_bucket, .ref a_t_below, .ref a_t_found, .int z2], ia Z a_t_below 512 t_below, ia Z a_t_bytes 512 t_bytes, ia Z a_t_found 512 t_found3]) [1, 2, 3, 0] [0, 1, 2, 3] rfl rfl rfl ?_
        exact ih  _ _ _ _ _ _ hm K
      clear hm
      have hm := hj
      clear hj
      rcases ite_some hm with ⟨hc, hm⟩ | ⟨hc, hm⟩
      · refine rw_icmp_gt_t (pc := 20) (tgt := 43) hc (by decide) (rx_dt dt_Matches_find 12 rfl) ?_
        refine rw_iconst (pc := 43) (v := 0) rfl (rx_dt dt_Matches_find 23 rfl) ?_
        cases hm
        exact KJ
      · refine rw_icmp_gt_f (pc := 20) (tgt := 43) hc (by decide) (rx_dt dt_Matches_find 12 rfl) ?_
        refine rw_aload_n (pc := 23) 0 rfl rfl (rx_dt dt_Matches_find 13 rfl) ?_
        refine rw_iload (pc := 24) 3 rfl (rx_dt dt_Matches_find 14 rfl) ?_
        refine rw_sipush (pc := 26) (v := 258) (by decide) (rx_dt dt_Matches_find 15 rfl) ?_
        refine rw_iload_n (pc := 29) 1 rfl rfl (rx_dt dt_Matches_find 16 rfl) ?_
        refine rw_iload (pc := 30) 3 rfl (rx_dt dt_Matches_find 17 rfl) ?_
        refine rw_isub (pc := 32) (rx_dt dt_Matches_find 18 rfl) ?_
        refine rw_imin (pc := 33) mk_Matches_34 (by decide) (Nat.le_of_ble_eq_true rfl) (rx_dt dt_Matches_find 19 rfl) ?_
        refine rw_iload_n (pc := 36) 2 rfl rfl (rx_dt dt_Matches_find 20 rfl) ?_
        obtain ⟨r1, t_steps_3, hq, hm⟩ := bnd2_some hm
        refine rw_callV cw_Matches_longestAt lk_Matches_40 ci_Matches_longestAt rfl (q := 0) rfl (c_Matches_longestAt l Z F (a_t := a_t) (a_t_below := a_t_below) (a_t_bucket := a_t_bucket) (a_t_bytes := a_t_bytes) (a_t_found := a_t_found) (t_below := t_below) (t_bytes := t_bytes) (t_steps := t_steps_1) (x1 := v4_1) (x2 := imin (258 : Int32) (x2 - v4_1)) (x3 := x3) (r0 := r1) (o_t_steps := t_steps_3) hq) [0, 1, 2] [3] rfl rfl rfl rfl (by decide) rfl (by decide) (fun h => h) (rest := [.int v4_1, .ref a_t_found]) (wr := [ia Z a_t_found 512 t_found1]) (Nat.le_of_ble_eq_true rfl) rfl (rx_dt dt_Matches_find 21 rfl) (pc := 37) ?_
        rintro _ _ ⟨rfl, rfl⟩
        show J_Matches_find l Z mc ms post k n [ia Z a_t_found 512 t_found1, ob a_t 6 [.ref a_t_bytes, .ref a_t_bucket, .ref a_t_below, .ref a_t_found, .int t_steps_3], ia Z a_t_below 512 t_below, ia Z a_t_bytes 512 t_bytes] [(0, .ref a_t), (2, .int x2), (3, .int x3), (4, .int v4_1)] 40 [.int r1, .int v4_1, .ref a_t_found]
        refine rw_goto (pc := 40) (tgt := 44) (by decide) (rx_dt dt_Matches_find 22 rfl) ?_
        refine rw_perm (lv' := [(0, .ref a_t), (2, .int x2), (3, .int x3), (4, .int v4_1)]) (ws' := [ob a_t 6 [.ref a_t_bytes, .ref a_t_bucket, .ref a_t_below, .ref a_t_found, .int t_steps_3], ia Z a_t_below 512 t_below, ia Z a_t_bytes 512 t_bytes, ia Z a_t_found 512 t_found1]) [0, 1, 2, 3] [1, 2, 3, 0] rfl rfl rfl ?_
        cases hm
        exact KJ
set_option maxRecDepth 100000 in
set_option maxHeartbeats 4000000 in
theorem w_Matches_find (l : Launch) (Z : rx_D) (mc ms : Nat) (post : Option Value → va_W → Prop) (k n : Nat) (F : Nat) (a_t a_t_below a_t_bucket a_t_bytes a_t_found : Nat) (t_below t_bytes t_found : Nat → Int32) (t_steps x1 x2 x3 : Int32) (o_t_steps : Int32) (o_t_found : Nat → Int32) (hm : m_Matches_find F t_below t_bytes t_found t_steps x1 x2 x3 = some (o_t_steps, o_t_found)) (hp : post none [ob a_t 6 [.ref a_t_bytes, .ref a_t_bucket, .ref a_t_below, .ref a_t_found, .int o_t_steps], ia Z a_t_below 512 t_below, ia Z a_t_bytes 512 t_bytes, ia Z a_t_found 512 o_t_found]) : J_Matches_find l Z mc ms post k n [ob a_t 6 [.ref a_t_bytes, .ref a_t_bucket, .ref a_t_below, .ref a_t_found, .int t_steps], ia Z a_t_below 512 t_below, ia Z a_t_bytes 512 t_bytes, ia Z a_t_found 512 t_found] [(0, .ref a_t), (1, .int x1), (2, .int x2), (3, .int x3)] 0 [] := by
  unfold m_Matches_find at hm
  refine rw_iload_n (pc := 0) 1 rfl rfl (rx_dt dt_Matches_find 0 rfl) ?_
  refine rw_istore (pc := 1) (lv' := [(4, .int x1), (0, .ref a_t), (1, .int x1), (2, .int x2), (3, .int x3)]) (by decide) rfl (rx_dt dt_Matches_find 1 rfl) ?_
  obtain ⟨v4_3, t_steps_4, t_found4, hl, hm⟩ := bnd3_some hm
  refine rw_perm (lv' := [(0, .ref a_t), (2, .int x2), (3, .int x3), (4, .int x1)]) (ws' := [ob a_t 6 [.ref a_t_bytes, .ref a_t_bucket, .ref a_t_below, .ref a_t_found, .int t_steps], ia Z a_t_below 512 t_below, ia Z a_t_bytes 512 t_bytes, ia Z a_t_found 512 t_found]) [1, 3, 4, 0] [0, 1, 2, 3] rfl rfl rfl ?_
  refine wl_Matches_find_3 l Z mc ms post k n F a_t a_t_below a_t_bucket a_t_bytes a_t_found t_below t_bytes x2 x3 F  x1 t_steps t_found v4_3 t_steps_4 t_found4 hl ?_
  cases hm
  exact rw_vret (pc := 51) (rx_dt dt_Matches_find 27 rfl) hp
theorem c_Matches_find (l : Launch) (Z : rx_D) (F : Nat) (a_t a_t_below a_t_bucket a_t_bytes a_t_found : Nat) (t_below t_bytes t_found : Nat → Int32) (t_steps x1 x2 x3 : Int32) (o_t_steps : Int32) (o_t_found : Nat → Int32) (hm : m_Matches_find F t_below t_bytes t_found t_steps x1 x2 x3 = some (o_t_steps, o_t_found)) : Cn l Z y_Matches_find b_Matches_find 5 none 2 [.ref a_t, .int x1, .int x2, .int x3] [ob a_t 6 [.ref a_t_bytes, .ref a_t_bucket, .ref a_t_below, .ref a_t_found, .int t_steps], ia Z a_t_below 512 t_below, ia Z a_t_bytes 512 t_bytes, ia Z a_t_found 512 t_found] 0 0 (fun r w => r = none ∧ w = [ob a_t 6 [.ref a_t_bytes, .ref a_t_bucket, .ref a_t_below, .ref a_t_found, .int o_t_steps], ia Z a_t_below 512 t_below, ia Z a_t_bytes 512 t_bytes, ia Z a_t_found 512 o_t_found]) :=
  rx_met "DeflateEffort$Matches" "find" mf_Matches_find (Nat.le_of_ble_eq_true rfl) rfl (by rintro _ _ ⟨h9, _⟩; cases h9) (w_Matches_find l Z 0 0 _ 0 0 F a_t a_t_below a_t_bucket a_t_bytes a_t_found t_below t_bytes t_found t_steps x1 x2 x3 o_t_steps o_t_found hm ⟨rfl, rfl⟩)
abbrev J_DE_tokenLength (l : Launch) (Z : rx_D) (mc ms : Nat) (post : Option Value → va_W → Prop) := Rw l Z "DeflateEffort" "tokenLength" b_DE_tokenLength 1 (some .int) 0 mc ms post
set_option maxRecDepth 100000 in
set_option maxHeartbeats 4000000 in
theorem w_DE_tokenLength (l : Launch) (Z : rx_D) (mc ms : Nat) (post : Option Value → va_W → Prop) (k n : Nat) (F : Nat) (x0 : Int32) (r0 : Int32) (hm : m_DE_tokenLength F x0 = some r0) (hp : post (some (.int r0)) []) : J_DE_tokenLength l Z mc ms post k n [] [(0, .int x0)] 0 [] := by
  unfold m_DE_tokenLength at hm
  refine rw_iload_n (pc := 0) 0 rfl rfl (rx_dt dt_DE_tokenLength 0 rfl) ?_
  refine rw_bipush (pc := 1) (v := 16) (by decide) (rx_dt dt_DE_tokenLength 1 rfl) ?_
  refine rw_iushr (pc := 3) (rx_dt dt_DE_tokenLength 2 rfl) ?_
  refine rw_perm (lv' := []) (ws' := []) [] [] rfl rfl rfl ?_
  cases hm
  exact rw_iret (pc := 4) (rx_dt dt_DE_tokenLength 3 rfl) hp
theorem c_DE_tokenLength (l : Launch) (Z : rx_D) (F : Nat) (x0 : Int32) (r0 : Int32) (hm : m_DE_tokenLength F x0 = some r0) : Cn l Z y_DE_tokenLength b_DE_tokenLength 1 (some .int) 0 [.int x0] [] 0 0 (fun r w => r = (some (.int r0)) ∧ w = []) :=
  rx_met "DeflateEffort" "tokenLength" mf_DE_tokenLength (Nat.le_of_ble_eq_true rfl) rfl (by rintro _ _ ⟨h9, _⟩; cases h9) (w_DE_tokenLength l Z 0 0 _ 0 0 F x0 r0 hm ⟨rfl, rfl⟩)
abbrev J_Matches_lengthAt (l : Launch) (Z : rx_D) (mc ms : Nat) (post : Option Value → va_W → Prop) := Rw l Z "DeflateEffort$Matches" "lengthAt" b_Matches_lengthAt 2 (some .int) 1 mc ms post
set_option maxRecDepth 100000 in
set_option maxHeartbeats 4000000 in
theorem w_Matches_lengthAt (l : Launch) (Z : rx_D) (mc ms : Nat) (post : Option Value → va_W → Prop) (k n : Nat) (F : Nat) (a_t a_t_below a_t_bucket a_t_bytes a_t_found : Nat) (t_found : Nat → Int32) (t_steps x1 : Int32) (r0 : Int32) (hm : m_Matches_lengthAt F t_found x1 = some r0) (hp : post (some (.int r0)) [ob a_t 6 [.ref a_t_bytes, .ref a_t_bucket, .ref a_t_below, .ref a_t_found, .int t_steps], ia Z a_t_found 512 t_found]) : J_Matches_lengthAt l Z mc ms post k n [ob a_t 6 [.ref a_t_bytes, .ref a_t_bucket, .ref a_t_below, .ref a_t_found, .int t_steps], ia Z a_t_found 512 t_found] [(0, .ref a_t), (1, .int x1)] 0 [] := by
  unfold m_Matches_lengthAt at hm
  refine rw_aload_n (pc := 0) 0 rfl rfl (rx_dt dt_Matches_lengthAt 0 rfl) ?_
  refine rw_get fa_Matches_18 (pc := 1) 0 rfl rfl (rx_dt dt_Matches_lengthAt 1 rfl) ?_
  refine rw_iload_n (pc := 4) 1 rfl rfl (rx_dt dt_Matches_lengthAt 2 rfl) ?_
  obtain ⟨hk1, hm⟩ := chk_some hm
  refine rw_iald (pc := 5) 1 rfl hk1 (rx_dt dt_Matches_lengthAt 3 rfl) ?_
  obtain ⟨r1, hq, hm⟩ := bnd1_some hm
  refine rw_callS cw_DE_tokenLength lk_Matches_44 cs_DE_tokenLength (c_DE_tokenLength l Z F (x0 := t_found x1.toNatClampNeg) (r0 := r1) hq) [] [0, 1] rfl rfl rfl rfl (by decide) rfl (by decide) (fun h => h) (rest := []) (wr := [ob a_t 6 [.ref a_t_bytes, .ref a_t_bucket, .ref a_t_below, .ref a_t_found, .int t_steps], ia Z a_t_found 512 t_found]) (Nat.le_of_ble_eq_true rfl) rfl (rx_dt dt_Matches_lengthAt 4 rfl) (pc := 6) ?_
  rintro _ _ ⟨rfl, rfl⟩
  show J_Matches_lengthAt l Z mc ms post k n [ob a_t 6 [.ref a_t_bytes, .ref a_t_bucket, .ref a_t_below, .ref a_t_found, .int t_steps], ia Z a_t_found 512 t_found] [(0, .ref a_t), (1, .int x1)] 9 [.int r1]
  refine rw_perm (lv' := []) (ws' := [ob a_t 6 [.ref a_t_bytes, .ref a_t_bucket, .ref a_t_below, .ref a_t_found, .int t_steps], ia Z a_t_found 512 t_found]) [] [0, 1] rfl rfl rfl ?_
  cases hm
  exact rw_iret (pc := 9) (rx_dt dt_Matches_lengthAt 5 rfl) hp
theorem c_Matches_lengthAt (l : Launch) (Z : rx_D) (F : Nat) (a_t a_t_below a_t_bucket a_t_bytes a_t_found : Nat) (t_found : Nat → Int32) (t_steps x1 : Int32) (r0 : Int32) (hm : m_Matches_lengthAt F t_found x1 = some r0) : Cn l Z y_Matches_lengthAt b_Matches_lengthAt 2 (some .int) 1 [.ref a_t, .int x1] [ob a_t 6 [.ref a_t_bytes, .ref a_t_bucket, .ref a_t_below, .ref a_t_found, .int t_steps], ia Z a_t_found 512 t_found] 0 0 (fun r w => r = (some (.int r0)) ∧ w = [ob a_t 6 [.ref a_t_bytes, .ref a_t_bucket, .ref a_t_below, .ref a_t_found, .int t_steps], ia Z a_t_found 512 t_found]) :=
  rx_met "DeflateEffort$Matches" "lengthAt" mf_Matches_lengthAt (Nat.le_of_ble_eq_true rfl) rfl (by rintro _ _ ⟨h9, _⟩; cases h9) (w_Matches_lengthAt l Z 0 0 _ 0 0 F a_t a_t_below a_t_bucket a_t_bytes a_t_found t_found t_steps x1 r0 hm ⟨rfl, rfl⟩)
abbrev J_Cutter_chooseByMatches (l : Launch) (Z : rx_D) (mc ms : Nat) (post : Option Value → va_W → Prop) := Rw l Z "DeflateEffort$Cutter" "chooseByMatches" b_Cutter_chooseByMatches 6 none 2 mc ms post
set_option maxRecDepth 100000 in
set_option maxHeartbeats 4000000 in
theorem wl_Cutter_chooseByMatches_2 (l : Launch) (Z : rx_D) (mc ms : Nat) (post : Option Value → va_W → Prop) (k n : Nat) (F : Nat) (a_t a_t_best a_t_bytes a_t_hand a_t_joiner a_t_lengthTaken a_t_matches a_t_matches_below a_t_matches_bucket a_t_matches_found a_t_prices a_t_row a_t_taken a_t_trial : Nat) (t_effort : Int32) (t_matches_found : Nat → Int32) (t_matches_steps t_takenCount x2 : Int32) : ∀ (f : Nat)  (v3_1 : Int32) (t_lengthTaken1 : Nat → Int32) (v3_2 : Int32) (t_lengthTaken2 : Nat → Int32), L_Cutter_chooseByMatches_2 F t_effort t_matches_found x2 f v3_1 t_lengthTaken1 = some (v3_2, t_lengthTaken2) → (J_Cutter_chooseByMatches l Z mc ms post k n [ob a_t 3 [.int t_effort, .ref a_t_bytes, .ref a_t_matches, .ref a_t_joiner, .ref a_t_row, .ref a_t_prices, .ref a_t_lengthTaken, .ref a_t_hand, .ref a_t_trial, .ref a_t_best, .ref a_t_taken, .int t_takenCount], ia Z a_t_lengthTaken 512 t_lengthTaken2, ob a_t_matches 6 [.ref a_t_bytes, .ref a_t_matches_bucket, .ref a_t_matches_below, .ref a_t_matches_found, .int t_matches_steps], ia Z a_t_matches_found 512 t_matches_found] [] 81 []) → J_Cutter_chooseByMatches l Z mc ms post k n [ob a_t 3 [.int t_effort, .ref a_t_bytes, .ref a_t_matches, .ref a_t_joiner, .ref a_t_row, .ref a_t_prices, .ref a_t_lengthTaken, .ref a_t_hand, .ref a_t_trial, .ref a_t_best, .ref a_t_taken, .int t_takenCount], ia Z a_t_lengthTaken 512 t_lengthTaken1, ob a_t_matches 6 [.ref a_t_bytes, .ref a_t_matches_bucket, .ref a_t_matches_below, .ref a_t_matches_found, .int t_matches_steps], ia Z a_t_matches_found 512 t_matches_found] [(0, .ref a_t), (2, .int x2), (3, .int v3_1)] 2 [] := by
  intro f
  induction f with
  | zero =>
    intro v3_1 t_lengthTaken1 v3_2 t_lengthTaken2 hm K
    cases hm
  | succ f ih =>
    intro v3_1 t_lengthTaken1 v3_2 t_lengthTaken2 hm K
    have hm : B_Cutter_chooseByMatches_2 F t_effort t_matches_found x2 (L_Cutter_chooseByMatches_2 F t_effort t_matches_found x2 f) v3_1 t_lengthTaken1 = some (v3_2, t_lengthTaken2) := hm
    unfold B_Cutter_chooseByMatches_2 at hm
    refine rw_iload_n (pc := 2) 2 rfl rfl (rx_dt dt_Cutter_chooseByMatches 2 rfl) ?_
    refine rw_iload_n (pc := 3) 1 rfl rfl (rx_dt dt_Cutter_chooseByMatches 3 rfl) ?_
    rcases ite_some hm with ⟨hc, hm⟩ | ⟨hc, hm⟩
    · refine rw_icmp_ge_t (pc := 4) (tgt := 81) hc (by decide) (rx_dt dt_Cutter_chooseByMatches 4 rfl) ?_
      refine rw_perm (lv' := []) (ws' := [ob a_t 3 [.int t_effort, .ref a_t_bytes, .ref a_t_matches, .ref a_t_joiner, .ref a_t_row, .ref a_t_prices, .ref a_t_lengthTaken, .ref a_t_hand, .ref a_t_trial, .ref a_t_best, .ref a_t_taken, .int t_takenCount], ia Z a_t_lengthTaken 512 t_lengthTaken1, ob a_t_matches 6 [.ref a_t_bytes, .ref a_t_matches_bucket, .ref a_t_matches_below, .ref a_t_matches_found, .int t_matches_steps], ia Z a_t_matches_found 512 t_matches_found]) [] [0, 1, 2, 3] rfl rfl rfl ?_
      cases hm
      exact K
    · refine rw_icmp_ge_f (pc := 4) (tgt := 81) hc (by decide) (rx_dt dt_Cutter_chooseByMatches 4 rfl) ?_
      refine rw_aload_n (pc := 7) 0 rfl rfl (rx_dt dt_Cutter_chooseByMatches 5 rfl) ?_
      refine rw_get fa_Cutter_70 (pc := 8) 0 rfl rfl (rx_dt dt_Cutter_chooseByMatches 6 rfl) ?_
      refine rw_iload_n (pc := 11) 2 rfl rfl (rx_dt dt_Cutter_chooseByMatches 7 rfl) ?_
      obtain ⟨r1, hq, hm⟩ := bnd1_some hm
      refine rw_callV cw_Matches_lengthAt lk_Cutter_147 ci_Matches_lengthAt rfl (q := 2) rfl (c_Matches_lengthAt l Z F (a_t := a_t_matches) (a_t_below := a_t_matches_below) (a_t_bucket := a_t_matches_bucket) (a_t_bytes := a_t_bytes) (a_t_found := a_t_matches_found) (t_found := t_matches_found) (t_steps := t_matches_steps) (x1 := v3_1) (r0 := r1) hq) [2, 3] [0, 1] rfl rfl rfl rfl (by decide) rfl (by decide) (fun h => h) (rest := []) (wr := [ob a_t 3 [.int t_effort, .ref a_t_bytes, .ref a_t_matches, .ref a_t_joiner, .ref a_t_row, .ref a_t_prices, .ref a_t_lengthTaken, .ref a_t_hand, .ref a_t_trial, .ref a_t_best, .ref a_t_taken, .int t_takenCount], ia Z a_t_lengthTaken 512 t_lengthTaken1]) (Nat.le_of_ble_eq_true rfl) rfl (rx_dt dt_Cutter_chooseByMatches 8 rfl) (pc := 12) ?_
      rintro _ _ ⟨rfl, rfl⟩
      show J_Cutter_chooseByMatches l Z mc ms post k n [ob a_t 3 [.int t_effort, .ref a_t_bytes, .ref a_t_matches, .ref a_t_joiner, .ref a_t_row, .ref a_t_prices, .ref a_t_lengthTaken, .ref a_t_hand, .ref a_t_trial, .ref a_t_best, .ref a_t_taken, .int t_takenCount], ia Z a_t_lengthTaken 512 t_lengthTaken1, ob a_t_matches 6 [.ref a_t_bytes, .ref a_t_matches_bucket, .ref a_t_matches_below, .ref a_t_matches_found, .int t_matches_steps], ia Z a_t_matches_found 512 t_matches_found] [(0, .ref a_t), (2, .int x2), (3, .int v3_1)] 15 [.int r1]
      refine rw_istore (pc := 15) (lv' := [(4, .int r1), (0, .ref a_t), (2, .int x2), (3, .int v3_1)]) (by decide) rfl (rx_dt dt_Cutter_chooseByMatches 9 rfl) ?_
      refine rw_aload_n (pc := 17) 1 rfl rfl (rx_dt dt_Cutter_chooseByMatches 10 rfl) ?_
      refine rw_get fa_Cutter_62 (pc := 18) 0 rfl rfl (rx_dt dt_Cutter_chooseByMatches 11 rfl) ?_
      refine rw_iconst (pc := 21) (v := 4) rfl (rx_dt dt_Cutter_chooseByMatches 12 rfl) ?_
      obtain ⟨z1, hj, hm⟩ := bnd1_some hm
      have KJ : J_Cutter_chooseByMatches l Z mc ms post k n [ob a_t 3 [.int t_effort, .ref a_t_bytes, .ref a_t_matches, .ref a_t_joiner, .ref a_t_row, .ref a_t_prices, .ref a_t_lengthTaken, .ref a_t_hand, .ref a_t_trial, .ref a_t_best, .ref a_t_taken, .int t_takenCount], ia Z a_t_lengthTaken 512 t_lengthTaken1, ob a_t_matches 6 [.ref a_t_bytes, .ref a_t_matches_bucket, .ref a_t_matches_below, .ref a_t_matches_found, .int t_matches_steps], ia Z a_t_matches_found 512 t_matches_found] [(0, .ref a_t), (2, .int x2), (3, .int v3_1), (4, .int r1)] 52 [.int z1] := by
        refine rw_istore (pc := 52) (lv' := [(5, .int z1), (0, .ref a_t), (2, .int x2), (3, .int v3_1), (4, .int r1)]) (by decide) rfl (rx_dt dt_Cutter_chooseByMatches 30 rfl) ?_
        refine rw_aload_n (pc := 54) 1 rfl rfl (rx_dt dt_Cutter_chooseByMatches 31 rfl) ?_
        refine rw_get fa_Cutter_32 (pc := 55) 0 rfl rfl (rx_dt dt_Cutter_chooseByMatches 32 rfl) ?_
        refine rw_iload_n (pc := 58) 3 rfl rfl (rx_dt dt_Cutter_chooseByMatches 33 rfl) ?_
        refine rw_iload (pc := 59) 0 rfl (rx_dt dt_Cutter_chooseByMatches 34 rfl) ?_
        obtain ⟨z2, hj, hm⟩ := bnd1_some hm
        have KJ : J_Cutter_chooseByMatches l Z mc ms post k n [ob a_t 3 [.int t_effort, .ref a_t_bytes, .ref a_t_matches, .ref a_t_joiner, .ref a_t_row, .ref a_t_prices, .ref a_t_lengthTaken, .ref a_t_hand, .ref a_t_trial, .ref a_t_best, .ref a_t_taken, .int t_takenCount], ia Z a_t_lengthTaken 512 t_lengthTaken1, ob a_t_matches 6 [.ref a_t_bytes, .ref a_t_matches_bucket, .ref a_t_matches_below, .ref a_t_matches_found, .int t_matches_steps], ia Z a_t_matches_found 512 t_matches_found] [(0, .ref a_t), (2, .int x2), (3, .int v3_1)] 74 [.int z2, .int v3_1, .ref a_t_lengthTaken] := by
          obtain ⟨hk1, hm⟩ := chk_some hm
          obtain ⟨t_lengthTaken3, ht_lengthTaken3, hm⟩ := nm_some hm
          refine rw_iast (pc := 74) (ws' := [ob a_t 3 [.int t_effort, .ref a_t_bytes, .ref a_t_matches, .ref a_t_joiner, .ref a_t_row, .ref a_t_prices, .ref a_t_lengthTaken, .ref a_t_hand, .ref a_t_trial, .ref a_t_best, .ref a_t_taken, .int t_takenCount], ia Z a_t_lengthTaken 512 t_lengthTaken3, ob a_t_matches 6 [.ref a_t_bytes, .ref a_t_matches_bucket, .ref a_t_matches_below, .ref a_t_matches_found, .int t_matches_steps], ia Z a_t_matches_found 512 t_matches_found]) 1 rfl hk1 (by rw [← ht_lengthTaken3]; rfl) (rx_dt dt_Cutter_chooseByMatches 41 rfl) ?_
          obtain ⟨y1, hy1, hm⟩ := nm_some hm
          refine rw_iinc (pc := 75) (lv' := [(3, .int y1), (0, .ref a_t), (2, .int x2)]) 2 rfl hy1 (by decide) rfl (rx_dt dt_Cutter_chooseByMatches 42 rfl) ?_
          refine rw_goto (pc := 78) (tgt := 2) (by decide) (rx_dt dt_Cutter_chooseByMatches 43 rfl) ?_
          refine rw_perm (lv' := [(0, .ref a_t), (2, .int x2), (3, .int y1)]) (ws' := [ob a_t 3 [.int t_effort, .ref a_t_bytes, .ref a_t_matches, .ref a_t_joiner, .ref a_t_row, .ref a_t_prices, .ref a_t_lengthTaken, .ref a_t_hand, .ref a_t_trial, .ref a_t_best, .ref a_t_taken, .int t_takenCount], ia Z a_t_lengthTaken 512 t_lengthTaken3, ob a_t_matches 6 [.ref a_t_bytes, .ref a_t_matches_bucket, .ref a_t_matches_below, .ref a_t_matches_found, .int t_matches_steps], ia Z a_t_matches_found 512 t_matches_found]) [1, 2, 0] [0, 1, 2, 3] rfl rfl rfl ?_
          exact ih  _ _ _ _ hm K
        clear hm
        have hm := hj
        clear hj
        rcases ite_some hm with ⟨hc, hm⟩ | ⟨hc, hm⟩
        · refine rw_if_eq_t (pc := 61) (tgt := 68) hc (by decide) (rx_dt dt_Cutter_chooseByMatches 35 rfl) ?_
          refine rw_iconst (pc := 68) (v := 1) rfl (rx_dt dt_Cutter_chooseByMatches 38 rfl) ?_
          refine rw_iload (pc := 69) 4 rfl (rx_dt dt_Cutter_chooseByMatches 39 rfl) ?_
          refine rw_imax (pc := 71) mk_Cutter_151 (by decide) (Nat.le_of_ble_eq_true rfl) (rx_dt dt_Cutter_chooseByMatches 40 rfl) ?_
          refine rw_perm (lv' := [(0, .ref a_t), (2, .int x2), (3, .int v3_1)]) (ws' := [ob a_t 3 [.int t_effort, .ref a_t_bytes, .ref a_t_matches, .ref a_t_joiner, .ref a_t_row, .ref a_t_prices, .ref a_t_lengthTaken, .ref a_t_hand, .ref a_t_trial, .ref a_t_best, .ref a_t_taken, .int t_takenCount], ia Z a_t_lengthTaken 512 t_lengthTaken1, ob a_t_matches 6 [.ref a_t_bytes, .ref a_t_matches_bucket, .ref a_t_matches_below, .ref a_t_matches_found, .int t_matches_steps], ia Z a_t_matches_found 512 t_matches_found]) [1, 2, 3] [0, 1, 2, 3] rfl rfl rfl ?_
          cases hm
          exact KJ
        · refine rw_if_eq_f (pc := 61) (tgt := 68) hc (by decide) (rx_dt dt_Cutter_chooseByMatches 35 rfl) ?_
          refine rw_iconst (pc := 64) (v := 1) rfl (rx_dt dt_Cutter_chooseByMatches 36 rfl) ?_
          refine rw_goto (pc := 65) (tgt := 74) (by decide) (rx_dt dt_Cutter_chooseByMatches 37 rfl) ?_
          refine rw_perm (lv' := [(0, .ref a_t), (2, .int x2), (3, .int v3_1)]) (ws' := [ob a_t 3 [.int t_effort, .ref a_t_bytes, .ref a_t_matches, .ref a_t_joiner, .ref a_t_row, .ref a_t_prices, .ref a_t_lengthTaken, .ref a_t_hand, .ref a_t_trial, .ref a_t_best, .ref a_t_taken, .int t_takenCount], ia Z a_t_lengthTaken 512 t_lengthTaken1, ob a_t_matches 6 [.ref a_t_bytes, .ref a_t_matches_bucket, .ref a_t_matches_below, .ref a_t_matches_found, .int t_matches_steps], ia Z a_t_matches_found 512 t_matches_found]) [1, 2, 3] [0, 1, 2, 3] rfl rfl rfl ?_
          cases hm
          exact KJ
      clear hm
      have hm := hj
      clear hj
      rcases ite_some hm with ⟨hc, hm⟩ | ⟨hc, hm⟩
      · refine rw_icmp_lt_t (pc := 22) (tgt := 51) hc (by decide) (rx_dt dt_Cutter_chooseByMatches 13 rfl) ?_
        refine rw_iconst (pc := 51) (v := 0) rfl (rx_dt dt_Cutter_chooseByMatches 29 rfl) ?_
        refine rw_perm (lv' := [(0, .ref a_t), (2, .int x2), (3, .int v3_1), (4, .int r1)]) (ws' := [ob a_t 3 [.int t_effort, .ref a_t_bytes, .ref a_t_matches, .ref a_t_joiner, .ref a_t_row, .ref a_t_prices, .ref a_t_lengthTaken, .ref a_t_hand, .ref a_t_trial, .ref a_t_best, .ref a_t_taken, .int t_takenCount], ia Z a_t_lengthTaken 512 t_lengthTaken1, ob a_t_matches 6 [.ref a_t_bytes, .ref a_t_matches_bucket, .ref a_t_matches_below, .ref a_t_matches_found, .int t_matches_steps], ia Z a_t_matches_found 512 t_matches_found]) [1, 2, 3, 0] [0, 1, 2, 3] rfl rfl rfl ?_
        cases hm
        exact KJ
      · refine rw_icmp_lt_f (pc := 22) (tgt := 51) hc (by decide) (rx_dt dt_Cutter_chooseByMatches 13 rfl) ?_
        refine rw_iload_n (pc := 25) 3 rfl rfl (rx_dt dt_Cutter_chooseByMatches 14 rfl) ?_
        refine rw_iconst (pc := 26) (v := 1) rfl (rx_dt dt_Cutter_chooseByMatches 15 rfl) ?_
        refine rw_iadd (pc := 27) (rx_dt dt_Cutter_chooseByMatches 16 rfl) ?_
        refine rw_iload_n (pc := 28) 2 rfl rfl (rx_dt dt_Cutter_chooseByMatches 17 rfl) ?_
        rcases ite_some hm with ⟨hc, hm⟩ | ⟨hc, hm⟩
        · refine rw_icmp_ge_t (pc := 29) (tgt := 51) hc (by decide) (rx_dt dt_Cutter_chooseByMatches 18 rfl) ?_
          refine rw_iconst (pc := 51) (v := 0) rfl (rx_dt dt_Cutter_chooseByMatches 29 rfl) ?_
          refine rw_perm (lv' := [(0, .ref a_t), (2, .int x2), (3, .int v3_1), (4, .int r1)]) (ws' := [ob a_t 3 [.int t_effort, .ref a_t_bytes, .ref a_t_matches, .ref a_t_joiner, .ref a_t_row, .ref a_t_prices, .ref a_t_lengthTaken, .ref a_t_hand, .ref a_t_trial, .ref a_t_best, .ref a_t_taken, .int t_takenCount], ia Z a_t_lengthTaken 512 t_lengthTaken1, ob a_t_matches 6 [.ref a_t_bytes, .ref a_t_matches_bucket, .ref a_t_matches_below, .ref a_t_matches_found, .int t_matches_steps], ia Z a_t_matches_found 512 t_matches_found]) [1, 2, 3, 0] [0, 1, 2, 3] rfl rfl rfl ?_
          cases hm
          exact KJ
        · refine rw_icmp_ge_f (pc := 29) (tgt := 51) hc (by decide) (rx_dt dt_Cutter_chooseByMatches 18 rfl) ?_
          refine rw_aload_n (pc := 32) 1 rfl rfl (rx_dt dt_Cutter_chooseByMatches 19 rfl) ?_
          refine rw_get fa_Cutter_70 (pc := 33) 0 rfl rfl (rx_dt dt_Cutter_chooseByMatches 20 rfl) ?_
          refine rw_iload_n (pc := 36) 3 rfl rfl (rx_dt dt_Cutter_chooseByMatches 21 rfl) ?_
          refine rw_iconst (pc := 37) (v := 1) rfl (rx_dt dt_Cutter_chooseByMatches 22 rfl) ?_
          refine rw_iadd (pc := 38) (rx_dt dt_Cutter_chooseByMatches 23 rfl) ?_
          obtain ⟨r2, hq, hm⟩ := bnd1_some hm
          refine rw_callV cw_Matches_lengthAt lk_Cutter_147 ci_Matches_lengthAt rfl (q := 2) rfl (c_Matches_lengthAt l Z F (a_t := a_t_matches) (a_t_below := a_t_matches_below) (a_t_bucket := a_t_matches_bucket) (a_t_bytes := a_t_bytes) (a_t_found := a_t_matches_found) (t_found := t_matches_found) (t_steps := t_matches_steps) (x1 := v3_1 + (1 : Int32)) (r0 := r2) hq) [2, 3] [0, 1] rfl rfl rfl rfl (by decide) rfl (by decide) (fun h => h) (rest := []) (wr := [ob a_t 3 [.int t_effort, .ref a_t_bytes, .ref a_t_matches, .ref a_t_joiner, .ref a_t_row, .ref a_t_prices, .ref a_t_lengthTaken, .ref a_t_hand, .ref a_t_trial, .ref a_t_best, .ref a_t_taken, .int t_takenCount], ia Z a_t_lengthTaken 512 t_lengthTaken1]) (Nat.le_of_ble_eq_true rfl) rfl (rx_dt dt_Cutter_chooseByMatches 24 rfl) (pc := 39) ?_
          rintro _ _ ⟨rfl, rfl⟩
          show J_Cutter_chooseByMatches l Z mc ms post k n [ob a_t 3 [.int t_effort, .ref a_t_bytes, .ref a_t_matches, .ref a_t_joiner, .ref a_t_row, .ref a_t_prices, .ref a_t_lengthTaken, .ref a_t_hand, .ref a_t_trial, .ref a_t_best, .ref a_t_taken, .int t_takenCount], ia Z a_t_lengthTaken 512 t_lengthTaken1, ob a_t_matches 6 [.ref a_t_bytes, .ref a_t_matches_bucket, .ref a_t_matches_below, .ref a_t_matches_found, .int t_matches_steps], ia Z a_t_matches_found 512 t_matches_found] [(4, .int r1), (0, .ref a_t), (2, .int x2), (3, .int v3_1)] 42 [.int r2]
          refine rw_iload (pc := 42) 0 rfl (rx_dt dt_Cutter_chooseByMatches 25 rfl) ?_
          rcases ite_some hm with ⟨hc, hm⟩ | ⟨hc, hm⟩
          · refine rw_icmp_le_t (pc := 44) (tgt := 51) hc (by decide) (rx_dt dt_Cutter_chooseByMatches 26 rfl) ?_
            refine rw_iconst (pc := 51) (v := 0) rfl (rx_dt dt_Cutter_chooseByMatches 29 rfl) ?_
            refine rw_perm (lv' := [(0, .ref a_t), (2, .int x2), (3, .int v3_1), (4, .int r1)]) (ws' := [ob a_t 3 [.int t_effort, .ref a_t_bytes, .ref a_t_matches, .ref a_t_joiner, .ref a_t_row, .ref a_t_prices, .ref a_t_lengthTaken, .ref a_t_hand, .ref a_t_trial, .ref a_t_best, .ref a_t_taken, .int t_takenCount], ia Z a_t_lengthTaken 512 t_lengthTaken1, ob a_t_matches 6 [.ref a_t_bytes, .ref a_t_matches_bucket, .ref a_t_matches_below, .ref a_t_matches_found, .int t_matches_steps], ia Z a_t_matches_found 512 t_matches_found]) [1, 2, 3, 0] [0, 1, 2, 3] rfl rfl rfl ?_
            cases hm
            exact KJ
          · refine rw_icmp_le_f (pc := 44) (tgt := 51) hc (by decide) (rx_dt dt_Cutter_chooseByMatches 26 rfl) ?_
            refine rw_iconst (pc := 47) (v := 1) rfl (rx_dt dt_Cutter_chooseByMatches 27 rfl) ?_
            refine rw_goto (pc := 48) (tgt := 52) (by decide) (rx_dt dt_Cutter_chooseByMatches 28 rfl) ?_
            refine rw_perm (lv' := [(0, .ref a_t), (2, .int x2), (3, .int v3_1), (4, .int r1)]) (ws' := [ob a_t 3 [.int t_effort, .ref a_t_bytes, .ref a_t_matches, .ref a_t_joiner, .ref a_t_row, .ref a_t_prices, .ref a_t_lengthTaken, .ref a_t_hand, .ref a_t_trial, .ref a_t_best, .ref a_t_taken, .int t_takenCount], ia Z a_t_lengthTaken 512 t_lengthTaken1, ob a_t_matches 6 [.ref a_t_bytes, .ref a_t_matches_bucket, .ref a_t_matches_below, .ref a_t_matches_found, .int t_matches_steps], ia Z a_t_matches_found 512 t_matches_found]) [1, 2, 3, 0] [0, 1, 2, 3] rfl rfl rfl ?_
            cases hm
            exact KJ
set_option maxRecDepth 100000 in
set_option maxHeartbeats 4000000 in
theorem w_Cutter_chooseByMatches (l : Launch) (Z : rx_D) (mc ms : Nat) (post : Option Value → va_W → Prop) (k n : Nat) (F : Nat) (a_t a_t_best a_t_bytes a_t_hand a_t_joiner a_t_lengthTaken a_t_matches a_t_matches_below a_t_matches_bucket a_t_matches_found a_t_prices a_t_row a_t_taken a_t_trial : Nat) (t_effort : Int32) (t_lengthTaken t_matches_found : Nat → Int32) (t_matches_steps t_takenCount x1 x2 : Int32) (o_t_lengthTaken : Nat → Int32) (hm : m_Cutter_chooseByMatches F t_effort t_lengthTaken t_matches_found x1 x2 = some o_t_lengthTaken) (hp : post none [ob a_t 3 [.int t_effort, .ref a_t_bytes, .ref a_t_matches, .ref a_t_joiner, .ref a_t_row, .ref a_t_prices, .ref a_t_lengthTaken, .ref a_t_hand, .ref a_t_trial, .ref a_t_best, .ref a_t_taken, .int t_takenCount], ia Z a_t_lengthTaken 512 o_t_lengthTaken, ob a_t_matches 6 [.ref a_t_bytes, .ref a_t_matches_bucket, .ref a_t_matches_below, .ref a_t_matches_found, .int t_matches_steps], ia Z a_t_matches_found 512 t_matches_found]) : J_Cutter_chooseByMatches l Z mc ms post k n [ob a_t 3 [.int t_effort, .ref a_t_bytes, .ref a_t_matches, .ref a_t_joiner, .ref a_t_row, .ref a_t_prices, .ref a_t_lengthTaken, .ref a_t_hand, .ref a_t_trial, .ref a_t_best, .ref a_t_taken, .int t_takenCount], ia Z a_t_lengthTaken 512 t_lengthTaken, ob a_t_matches 6 [.ref a_t_bytes, .ref a_t_matches_bucket, .ref a_t_matches_below, .ref a_t_matches_found, .int t_matches_steps], ia Z a_t_matches_found 512 t_matches_found] [(0, .ref a_t), (1, .int x1), (2, .int x2)] 0 [] := by
  unfold m_Cutter_chooseByMatches at hm
  refine rw_iload_n (pc := 0) 1 rfl rfl (rx_dt dt_Cutter_chooseByMatches 0 rfl) ?_
  refine rw_istore_n (pc := 1) (lv' := [(3, .int x1), (0, .ref a_t), (1, .int x1), (2, .int x2)]) rfl (by decide) rfl (rx_dt dt_Cutter_chooseByMatches 1 rfl) ?_
  obtain ⟨v3_3, t_lengthTaken4, hl, hm⟩ := bnd2_some hm
  refine rw_perm (lv' := [(0, .ref a_t), (2, .int x2), (3, .int x1)]) (ws' := [ob a_t 3 [.int t_effort, .ref a_t_bytes, .ref a_t_matches, .ref a_t_joiner, .ref a_t_row, .ref a_t_prices, .ref a_t_lengthTaken, .ref a_t_hand, .ref a_t_trial, .ref a_t_best, .ref a_t_taken, .int t_takenCount], ia Z a_t_lengthTaken 512 t_lengthTaken, ob a_t_matches 6 [.ref a_t_bytes, .ref a_t_matches_bucket, .ref a_t_matches_below, .ref a_t_matches_found, .int t_matches_steps], ia Z a_t_matches_found 512 t_matches_found]) [1, 3, 0] [0, 1, 2, 3] rfl rfl rfl ?_
  refine wl_Cutter_chooseByMatches_2 l Z mc ms post k n F a_t a_t_best a_t_bytes a_t_hand a_t_joiner a_t_lengthTaken a_t_matches a_t_matches_below a_t_matches_bucket a_t_matches_found a_t_prices a_t_row a_t_taken a_t_trial t_effort t_matches_found t_matches_steps t_takenCount x2 F  x1 t_lengthTaken v3_3 t_lengthTaken4 hl ?_
  cases hm
  exact rw_vret (pc := 81) (rx_dt dt_Cutter_chooseByMatches 44 rfl) hp
theorem c_Cutter_chooseByMatches (l : Launch) (Z : rx_D) (F : Nat) (a_t a_t_best a_t_bytes a_t_hand a_t_joiner a_t_lengthTaken a_t_matches a_t_matches_below a_t_matches_bucket a_t_matches_found a_t_prices a_t_row a_t_taken a_t_trial : Nat) (t_effort : Int32) (t_lengthTaken t_matches_found : Nat → Int32) (t_matches_steps t_takenCount x1 x2 : Int32) (o_t_lengthTaken : Nat → Int32) (hm : m_Cutter_chooseByMatches F t_effort t_lengthTaken t_matches_found x1 x2 = some o_t_lengthTaken) : Cn l Z y_Cutter_chooseByMatches b_Cutter_chooseByMatches 6 none 2 [.ref a_t, .int x1, .int x2] [ob a_t 3 [.int t_effort, .ref a_t_bytes, .ref a_t_matches, .ref a_t_joiner, .ref a_t_row, .ref a_t_prices, .ref a_t_lengthTaken, .ref a_t_hand, .ref a_t_trial, .ref a_t_best, .ref a_t_taken, .int t_takenCount], ia Z a_t_lengthTaken 512 t_lengthTaken, ob a_t_matches 6 [.ref a_t_bytes, .ref a_t_matches_bucket, .ref a_t_matches_below, .ref a_t_matches_found, .int t_matches_steps], ia Z a_t_matches_found 512 t_matches_found] 0 0 (fun r w => r = none ∧ w = [ob a_t 3 [.int t_effort, .ref a_t_bytes, .ref a_t_matches, .ref a_t_joiner, .ref a_t_row, .ref a_t_prices, .ref a_t_lengthTaken, .ref a_t_hand, .ref a_t_trial, .ref a_t_best, .ref a_t_taken, .int t_takenCount], ia Z a_t_lengthTaken 512 o_t_lengthTaken, ob a_t_matches 6 [.ref a_t_bytes, .ref a_t_matches_bucket, .ref a_t_matches_below, .ref a_t_matches_found, .int t_matches_steps], ia Z a_t_matches_found 512 t_matches_found]) :=
  rx_met "DeflateEffort$Cutter" "chooseByMatches" mf_Cutter_chooseByMatches (Nat.le_of_ble_eq_true rfl) rfl (by rintro _ _ ⟨h9, _⟩; cases h9) (w_Cutter_chooseByMatches l Z 0 0 _ 0 0 F a_t a_t_best a_t_bytes a_t_hand a_t_joiner a_t_lengthTaken a_t_matches a_t_matches_below a_t_matches_bucket a_t_matches_found a_t_prices a_t_row a_t_taken a_t_trial t_effort t_lengthTaken t_matches_found t_matches_steps t_takenCount x1 x2 o_t_lengthTaken hm ⟨rfl, rfl⟩)
abbrev J_DE_lengthSymbol (l : Launch) (Z : rx_D) (mc ms : Nat) (post : Option Value → va_W → Prop) := Rw l Z "DeflateEffort" "lengthSymbol" b_DE_lengthSymbol 2 (some .int) 0 mc ms post
set_option maxRecDepth 100000 in
set_option maxHeartbeats 4000000 in
theorem wl_DE_lengthSymbol_2 (l : Launch) (Z : rx_D) (mc ms : Nat) (post : Option Value → va_W → Prop) (k n : Nat) (F : Nat) (x0 : Int32) : ∀ (f : Nat)  (v1_1 : Int32) (v1_2 : Int32), L_DE_lengthSymbol_2 F x0 f v1_1 = some v1_2 → (J_DE_lengthSymbol l Z mc ms post k n [] [(1, .int v1_2)] 29 []) → J_DE_lengthSymbol l Z mc ms post k n [] [(0, .int x0), (1, .int v1_1)] 2 [] := by
  intro f
  induction f with
  | zero =>
    intro v1_1 v1_2 hm K
    cases hm
  | succ f ih =>
    intro v1_1 v1_2 hm K
    have hm : B_DE_lengthSymbol_2 F x0 (L_DE_lengthSymbol_2 F x0 f) v1_1 = some v1_2 := hm
    unfold B_DE_lengthSymbol_2 at hm
    refine rw_iload_n (pc := 2) 1 rfl rfl (rx_dt dt_DE_lengthSymbol 2 rfl) ?_
    refine rw_iconst (pc := 3) (v := 1) rfl (rx_dt dt_DE_lengthSymbol 3 rfl) ?_
    refine rw_iadd (pc := 4) (rx_dt dt_DE_lengthSymbol 4 rfl) ?_
    refine rw_tab sa_DE_192 (pc := 5) (rx_dt dt_DE_lengthSymbol 5 rfl) ?_
    refine rw_tlen (pc := 8) (by decide) (rx_dt dt_DE_lengthSymbol 6 rfl) ?_
    rcases ite_some hm with ⟨hc, hm⟩ | ⟨hc, hm⟩
    · refine rw_icmp_ge_t (pc := 9) (tgt := 29) hc (by decide) (rx_dt dt_DE_lengthSymbol 7 rfl) ?_
      refine rw_perm (lv' := [(1, .int v1_1)]) (ws' := []) [1] [] rfl rfl rfl ?_
      cases hm
      exact K
    · refine rw_icmp_ge_f (pc := 9) (tgt := 29) hc (by decide) (rx_dt dt_DE_lengthSymbol 7 rfl) ?_
      refine rw_tab sa_DE_192 (pc := 12) (rx_dt dt_DE_lengthSymbol 8 rfl) ?_
      refine rw_iload_n (pc := 15) 1 rfl rfl (rx_dt dt_DE_lengthSymbol 9 rfl) ?_
      refine rw_iconst (pc := 16) (v := 1) rfl (rx_dt dt_DE_lengthSymbol 10 rfl) ?_
      refine rw_iadd (pc := 17) (rx_dt dt_DE_lengthSymbol 11 rfl) ?_
      obtain ⟨hk1, hm⟩ := chk_some hm
      refine rw_tld (pc := 18) (by decide) hk1 (rx_dt dt_DE_lengthSymbol 12 rfl) ?_
      refine rw_iload_n (pc := 19) 0 rfl rfl (rx_dt dt_DE_lengthSymbol 13 rfl) ?_
      rcases ite_some hm with ⟨hc, hm⟩ | ⟨hc, hm⟩
      · refine rw_icmp_gt_t (pc := 20) (tgt := 29) hc (by decide) (rx_dt dt_DE_lengthSymbol 14 rfl) ?_
        refine rw_perm (lv' := [(1, .int v1_1)]) (ws' := []) [1] [] rfl rfl rfl ?_
        cases hm
        exact K
      · refine rw_icmp_gt_f (pc := 20) (tgt := 29) hc (by decide) (rx_dt dt_DE_lengthSymbol 14 rfl) ?_
        obtain ⟨y1, hy1, hm⟩ := nm_some hm
        refine rw_iinc (pc := 23) (lv' := [(1, .int y1), (0, .int x0)]) 1 rfl hy1 (by decide) rfl (rx_dt dt_DE_lengthSymbol 15 rfl) ?_
        refine rw_goto (pc := 26) (tgt := 2) (by decide) (rx_dt dt_DE_lengthSymbol 16 rfl) ?_
        refine rw_perm (lv' := [(0, .int x0), (1, .int y1)]) (ws' := []) [1, 0] [] rfl rfl rfl ?_
        exact ih  _ _ hm K
set_option maxRecDepth 100000 in
set_option maxHeartbeats 4000000 in
theorem w_DE_lengthSymbol (l : Launch) (Z : rx_D) (mc ms : Nat) (post : Option Value → va_W → Prop) (k n : Nat) (F : Nat) (x0 : Int32) (r0 : Int32) (hm : m_DE_lengthSymbol F x0 = some r0) (hp : post (some (.int r0)) []) : J_DE_lengthSymbol l Z mc ms post k n [] [(0, .int x0)] 0 [] := by
  unfold m_DE_lengthSymbol at hm
  refine rw_iconst (pc := 0) (v := 0) rfl (rx_dt dt_DE_lengthSymbol 0 rfl) ?_
  refine rw_istore_n (pc := 1) (lv' := [(1, .int (0 : Int32)), (0, .int x0)]) rfl (by decide) rfl (rx_dt dt_DE_lengthSymbol 1 rfl) ?_
  obtain ⟨v1_3, hl, hm⟩ := bnd1_some hm
  refine rw_perm (lv' := [(0, .int x0), (1, .int (0 : Int32))]) (ws' := []) [1, 0] [] rfl rfl rfl ?_
  refine wl_DE_lengthSymbol_2 l Z mc ms post k n F x0 F  (0 : Int32) v1_3 hl ?_
  refine rw_sipush (pc := 29) (v := 257) (by decide) (rx_dt dt_DE_lengthSymbol 17 rfl) ?_
  refine rw_iload_n (pc := 32) 0 rfl rfl (rx_dt dt_DE_lengthSymbol 18 rfl) ?_
  refine rw_iadd (pc := 33) (rx_dt dt_DE_lengthSymbol 19 rfl) ?_
  refine rw_perm (lv' := []) (ws' := []) [] [] rfl rfl rfl ?_
  cases hm
  exact rw_iret (pc := 34) (rx_dt dt_DE_lengthSymbol 20 rfl) hp
theorem c_DE_lengthSymbol (l : Launch) (Z : rx_D) (F : Nat) (x0 : Int32) (r0 : Int32) (hm : m_DE_lengthSymbol F x0 = some r0) : Cn l Z y_DE_lengthSymbol b_DE_lengthSymbol 2 (some .int) 0 [.int x0] [] 0 0 (fun r w => r = (some (.int r0)) ∧ w = []) :=
  rx_met "DeflateEffort" "lengthSymbol" mf_DE_lengthSymbol (Nat.le_of_ble_eq_true rfl) rfl (by rintro _ _ ⟨h9, _⟩; cases h9) (w_DE_lengthSymbol l Z 0 0 _ 0 0 F x0 r0 hm ⟨rfl, rfl⟩)
abbrev J_DE_tokenDistance (l : Launch) (Z : rx_D) (mc ms : Nat) (post : Option Value → va_W → Prop) := Rw l Z "DeflateEffort" "tokenDistance" b_DE_tokenDistance 1 (some .int) 0 mc ms post
set_option maxRecDepth 100000 in
set_option maxHeartbeats 4000000 in
theorem w_DE_tokenDistance (l : Launch) (Z : rx_D) (mc ms : Nat) (post : Option Value → va_W → Prop) (k n : Nat) (F : Nat) (x0 : Int32) (r0 : Int32) (hm : m_DE_tokenDistance F x0 = some r0) (hp : post (some (.int r0)) []) : J_DE_tokenDistance l Z mc ms post k n [] [(0, .int x0)] 0 [] := by
  unfold m_DE_tokenDistance at hm
  refine rw_iload_n (pc := 0) 0 rfl rfl (rx_dt dt_DE_tokenDistance 0 rfl) ?_
  refine rw_ldc (pc := 1) (v := 65535) kc_DE_191 (rx_dt dt_DE_tokenDistance 1 rfl) ?_
  refine rw_iand (pc := 3) (rx_dt dt_DE_tokenDistance 2 rfl) ?_
  refine rw_perm (lv' := []) (ws' := []) [] [] rfl rfl rfl ?_
  cases hm
  exact rw_iret (pc := 4) (rx_dt dt_DE_tokenDistance 3 rfl) hp
theorem c_DE_tokenDistance (l : Launch) (Z : rx_D) (F : Nat) (x0 : Int32) (r0 : Int32) (hm : m_DE_tokenDistance F x0 = some r0) : Cn l Z y_DE_tokenDistance b_DE_tokenDistance 1 (some .int) 0 [.int x0] [] 0 0 (fun r w => r = (some (.int r0)) ∧ w = []) :=
  rx_met "DeflateEffort" "tokenDistance" mf_DE_tokenDistance (Nat.le_of_ble_eq_true rfl) rfl (by rintro _ _ ⟨h9, _⟩; cases h9) (w_DE_tokenDistance l Z 0 0 _ 0 0 F x0 r0 hm ⟨rfl, rfl⟩)
abbrev J_DE_distanceSymbol (l : Launch) (Z : rx_D) (mc ms : Nat) (post : Option Value → va_W → Prop) := Rw l Z "DeflateEffort" "distanceSymbol" b_DE_distanceSymbol 2 (some .int) 0 mc ms post
set_option maxRecDepth 100000 in
set_option maxHeartbeats 4000000 in
theorem wl_DE_distanceSymbol_2 (l : Launch) (Z : rx_D) (mc ms : Nat) (post : Option Value → va_W → Prop) (k n : Nat) (F : Nat) (x0 : Int32) : ∀ (f : Nat)  (v1_1 : Int32) (v1_2 : Int32), L_DE_distanceSymbol_2 F x0 f v1_1 = some v1_2 → (J_DE_distanceSymbol l Z mc ms post k n [] [(1, .int v1_2)] 29 []) → J_DE_distanceSymbol l Z mc ms post k n [] [(0, .int x0), (1, .int v1_1)] 2 [] := by
  intro f
  induction f with
  | zero =>
    intro v1_1 v1_2 hm K
    cases hm
  | succ f ih =>
    intro v1_1 v1_2 hm K
    have hm : B_DE_distanceSymbol_2 F x0 (L_DE_distanceSymbol_2 F x0 f) v1_1 = some v1_2 := hm
    unfold B_DE_distanceSymbol_2 at hm
    refine rw_iload_n (pc := 2) 1 rfl rfl (rx_dt dt_DE_distanceSymbol 2 rfl) ?_
    refine rw_iconst (pc := 3) (v := 1) rfl (rx_dt dt_DE_distanceSymbol 3 rfl) ?_
    refine rw_iadd (pc := 4) (rx_dt dt_DE_distanceSymbol 4 rfl) ?_
    refine rw_tab sa_DE_195 (pc := 5) (rx_dt dt_DE_distanceSymbol 5 rfl) ?_
    refine rw_tlen (pc := 8) (by decide) (rx_dt dt_DE_distanceSymbol 6 rfl) ?_
    rcases ite_some hm with ⟨hc, hm⟩ | ⟨hc, hm⟩
    · refine rw_icmp_ge_t (pc := 9) (tgt := 29) hc (by decide) (rx_dt dt_DE_distanceSymbol 7 rfl) ?_
      refine rw_perm (lv' := [(1, .int v1_1)]) (ws' := []) [1] [] rfl rfl rfl ?_
      cases hm
      exact K
    · refine rw_icmp_ge_f (pc := 9) (tgt := 29) hc (by decide) (rx_dt dt_DE_distanceSymbol 7 rfl) ?_
      refine rw_tab sa_DE_195 (pc := 12) (rx_dt dt_DE_distanceSymbol 8 rfl) ?_
      refine rw_iload_n (pc := 15) 1 rfl rfl (rx_dt dt_DE_distanceSymbol 9 rfl) ?_
      refine rw_iconst (pc := 16) (v := 1) rfl (rx_dt dt_DE_distanceSymbol 10 rfl) ?_
      refine rw_iadd (pc := 17) (rx_dt dt_DE_distanceSymbol 11 rfl) ?_
      obtain ⟨hk1, hm⟩ := chk_some hm
      refine rw_tld (pc := 18) (by decide) hk1 (rx_dt dt_DE_distanceSymbol 12 rfl) ?_
      refine rw_iload_n (pc := 19) 0 rfl rfl (rx_dt dt_DE_distanceSymbol 13 rfl) ?_
      rcases ite_some hm with ⟨hc, hm⟩ | ⟨hc, hm⟩
      · refine rw_icmp_gt_t (pc := 20) (tgt := 29) hc (by decide) (rx_dt dt_DE_distanceSymbol 14 rfl) ?_
        refine rw_perm (lv' := [(1, .int v1_1)]) (ws' := []) [1] [] rfl rfl rfl ?_
        cases hm
        exact K
      · refine rw_icmp_gt_f (pc := 20) (tgt := 29) hc (by decide) (rx_dt dt_DE_distanceSymbol 14 rfl) ?_
        obtain ⟨y1, hy1, hm⟩ := nm_some hm
        refine rw_iinc (pc := 23) (lv' := [(1, .int y1), (0, .int x0)]) 1 rfl hy1 (by decide) rfl (rx_dt dt_DE_distanceSymbol 15 rfl) ?_
        refine rw_goto (pc := 26) (tgt := 2) (by decide) (rx_dt dt_DE_distanceSymbol 16 rfl) ?_
        refine rw_perm (lv' := [(0, .int x0), (1, .int y1)]) (ws' := []) [1, 0] [] rfl rfl rfl ?_
        exact ih  _ _ hm K
set_option maxRecDepth 100000 in
set_option maxHeartbeats 4000000 in
theorem w_DE_distanceSymbol (l : Launch) (Z : rx_D) (mc ms : Nat) (post : Option Value → va_W → Prop) (k n : Nat) (F : Nat) (x0 : Int32) (r0 : Int32) (hm : m_DE_distanceSymbol F x0 = some r0) (hp : post (some (.int r0)) []) : J_DE_distanceSymbol l Z mc ms post k n [] [(0, .int x0)] 0 [] := by
  unfold m_DE_distanceSymbol at hm
  refine rw_iconst (pc := 0) (v := 0) rfl (rx_dt dt_DE_distanceSymbol 0 rfl) ?_
  refine rw_istore_n (pc := 1) (lv' := [(1, .int (0 : Int32)), (0, .int x0)]) rfl (by decide) rfl (rx_dt dt_DE_distanceSymbol 1 rfl) ?_
  obtain ⟨v1_3, hl, hm⟩ := bnd1_some hm
  refine rw_perm (lv' := [(0, .int x0), (1, .int (0 : Int32))]) (ws' := []) [1, 0] [] rfl rfl rfl ?_
  refine wl_DE_distanceSymbol_2 l Z mc ms post k n F x0 F  (0 : Int32) v1_3 hl ?_
  refine rw_iload_n (pc := 29) 0 rfl rfl (rx_dt dt_DE_distanceSymbol 17 rfl) ?_
  refine rw_perm (lv' := []) (ws' := []) [] [] rfl rfl rfl ?_
  cases hm
  exact rw_iret (pc := 30) (rx_dt dt_DE_distanceSymbol 18 rfl) hp
theorem c_DE_distanceSymbol (l : Launch) (Z : rx_D) (F : Nat) (x0 : Int32) (r0 : Int32) (hm : m_DE_distanceSymbol F x0 = some r0) : Cn l Z y_DE_distanceSymbol b_DE_distanceSymbol 2 (some .int) 0 [.int x0] [] 0 0 (fun r w => r = (some (.int r0)) ∧ w = []) :=
  rx_met "DeflateEffort" "distanceSymbol" mf_DE_distanceSymbol (Nat.le_of_ble_eq_true rfl) rfl (by rintro _ _ ⟨h9, _⟩; cases h9) (w_DE_distanceSymbol l Z 0 0 _ 0 0 F x0 r0 hm ⟨rfl, rfl⟩)
abbrev J_Plan_addToken (l : Launch) (Z : rx_D) (mc ms : Nat) (post : Option Value → va_W → Prop) := Rw l Z "DeflateEffort$Plan" "addToken" b_Plan_addToken 3 none 1 mc ms post
set_option maxRecDepth 100000 in
set_option maxHeartbeats 4000000 in
theorem w_Plan_addToken (l : Launch) (Z : rx_D) (mc ms : Nat) (post : Option Value → va_W → Prop) (k n : Nat) (F : Nat) (a_t a_t_distances a_t_distances_count a_t_distances_length a_t_literals a_t_literals_count a_t_literals_length a_t_token : Nat) (t_bits : Int32) (t_distances_count : Nat → Int32) (t_kind : Int32) (t_literals_count : Nat → Int32) (t_matches t_size : Int32) (t_token : Nat → Int32) (x1 : Int32) (o_t_size o_t_matches : Int32) (o_t_distances_count o_t_literals_count o_t_token : Nat → Int32) (hm : m_Plan_addToken F t_distances_count t_literals_count t_matches t_size t_token x1 = some (o_t_size, o_t_matches, o_t_distances_count, o_t_literals_count, o_t_token)) (hp : post none [ob a_t 7 [.ref a_t_token, .int o_t_size, .int o_t_matches, .ref a_t_literals, .ref a_t_distances, .int t_kind, .int t_bits], ob a_t_distances 1 [.ref a_t_distances_count, .ref a_t_distances_length], ia Z a_t_distances_count 30 o_t_distances_count, ob a_t_literals 1 [.ref a_t_literals_count, .ref a_t_literals_length], ia Z a_t_literals_count 286 o_t_literals_count, ia Z a_t_token 512 o_t_token]) : J_Plan_addToken l Z mc ms post k n [ob a_t 7 [.ref a_t_token, .int t_size, .int t_matches, .ref a_t_literals, .ref a_t_distances, .int t_kind, .int t_bits], ob a_t_distances 1 [.ref a_t_distances_count, .ref a_t_distances_length], ia Z a_t_distances_count 30 t_distances_count, ob a_t_literals 1 [.ref a_t_literals_count, .ref a_t_literals_length], ia Z a_t_literals_count 286 t_literals_count, ia Z a_t_token 512 t_token] [(0, .ref a_t), (1, .int x1)] 0 [] := by
  unfold m_Plan_addToken at hm
  refine rw_aload_n (pc := 0) 0 rfl rfl (rx_dt dt_Plan_addToken 0 rfl) ?_
  refine rw_get fa_Plan_15 (pc := 1) 0 rfl rfl (rx_dt dt_Plan_addToken 1 rfl) ?_
  refine rw_aload_n (pc := 4) 0 rfl rfl (rx_dt dt_Plan_addToken 2 rfl) ?_
  refine rw_get fa_Plan_9 (pc := 5) 0 rfl rfl (rx_dt dt_Plan_addToken 3 rfl) ?_
  refine rw_alen (pc := 8) 5 rfl (rx_dt dt_Plan_addToken 4 rfl) ?_
  rcases ite_some hm with ⟨hc, hm⟩ | ⟨hc, hm⟩
  · refine rw_icmp_lt_t (pc := 9) (tgt := 13) hc (by decide) (rx_dt dt_Plan_addToken 5 rfl) ?_
    refine rw_aload_n (pc := 13) 0 rfl rfl (rx_dt dt_Plan_addToken 7 rfl) ?_
    refine rw_get fa_Plan_9 (pc := 14) 0 rfl rfl (rx_dt dt_Plan_addToken 8 rfl) ?_
    refine rw_aload_n (pc := 17) 0 rfl rfl (rx_dt dt_Plan_addToken 9 rfl) ?_
    refine rw_get fa_Plan_15 (pc := 18) 0 rfl rfl (rx_dt dt_Plan_addToken 10 rfl) ?_
    refine rw_iload_n (pc := 21) 1 rfl rfl (rx_dt dt_Plan_addToken 11 rfl) ?_
    obtain ⟨hk1, hm⟩ := chk_some hm
    obtain ⟨t_token1, ht_token1, hm⟩ := nm_some hm
    refine rw_iast (pc := 22) (ws' := [ob a_t 7 [.ref a_t_token, .int t_size, .int t_matches, .ref a_t_literals, .ref a_t_distances, .int t_kind, .int t_bits], ob a_t_distances 1 [.ref a_t_distances_count, .ref a_t_distances_length], ia Z a_t_distances_count 30 t_distances_count, ob a_t_literals 1 [.ref a_t_literals_count, .ref a_t_literals_length], ia Z a_t_literals_count 286 t_literals_count, ia Z a_t_token 512 t_token1]) 5 rfl hk1 (by rw [← ht_token1]; rfl) (rx_dt dt_Plan_addToken 12 rfl) ?_
    refine rw_aload_n (pc := 23) 0 rfl rfl (rx_dt dt_Plan_addToken 13 rfl) ?_
    refine rw_dup (pc := 24) rfl (rx_dt dt_Plan_addToken 14 rfl) ?_
    refine rw_get fa_Plan_15 (pc := 25) 0 rfl rfl (rx_dt dt_Plan_addToken 15 rfl) ?_
    refine rw_iconst (pc := 28) (v := 1) rfl (rx_dt dt_Plan_addToken 16 rfl) ?_
    refine rw_iadd (pc := 29) (rx_dt dt_Plan_addToken 17 rfl) ?_
    obtain ⟨y1, hy1, hm⟩ := nm_some hm
    refine rw_nm hy1 ?_
    refine rw_put fa_Plan_15 (pc := 30) (ws' := [ob a_t 7 [.ref a_t_token, .int y1, .int t_matches, .ref a_t_literals, .ref a_t_distances, .int t_kind, .int t_bits], ob a_t_distances 1 [.ref a_t_distances_count, .ref a_t_distances_length], ia Z a_t_distances_count 30 t_distances_count, ob a_t_literals 1 [.ref a_t_literals_count, .ref a_t_literals_length], ia Z a_t_literals_count 286 t_literals_count, ia Z a_t_token 512 t_token1]) 0 rfl rfl rfl (Nat.le_of_ble_eq_true rfl) rfl (rx_dt dt_Plan_addToken 18 rfl) ?_
    refine rw_iload_n (pc := 33) 1 rfl rfl (rx_dt dt_Plan_addToken 19 rfl) ?_
    obtain ⟨r1, hq, hm⟩ := bnd1_some hm
    refine rw_callS cw_DE_tokenLength lk_Plan_49 cs_DE_tokenLength (c_DE_tokenLength l Z F (x0 := x1) (r0 := r1) hq) [] [0, 1, 2, 3, 4, 5] rfl rfl rfl rfl (by decide) rfl (by decide) (fun h => h) (rest := []) (wr := [ob a_t 7 [.ref a_t_token, .int y1, .int t_matches, .ref a_t_literals, .ref a_t_distances, .int t_kind, .int t_bits], ob a_t_distances 1 [.ref a_t_distances_count, .ref a_t_distances_length], ia Z a_t_distances_count 30 t_distances_count, ob a_t_literals 1 [.ref a_t_literals_count, .ref a_t_literals_length], ia Z a_t_literals_count 286 t_literals_count, ia Z a_t_token 512 t_token1]) (Nat.le_of_ble_eq_true rfl) rfl (rx_dt dt_Plan_addToken 20 rfl) (pc := 34) ?_
    rintro _ _ ⟨rfl, rfl⟩
    show J_Plan_addToken l Z mc ms post k n [ob a_t 7 [.ref a_t_token, .int y1, .int t_matches, .ref a_t_literals, .ref a_t_distances, .int t_kind, .int t_bits], ob a_t_distances 1 [.ref a_t_distances_count, .ref a_t_distances_length], ia Z a_t_distances_count 30 t_distances_count, ob a_t_literals 1 [.ref a_t_literals_count, .ref a_t_literals_length], ia Z a_t_literals_count 286 t_literals_count, ia Z a_t_token 512 t_token1] [(0, .ref a_t), (1, .int x1)] 37 [.int r1]
    refine rw_istore_n (pc := 37) (lv' := [(2, .int r1), (0, .ref a_t), (1, .int x1)]) rfl (by decide) rfl (rx_dt dt_Plan_addToken 21 rfl) ?_
    refine rw_iload_n (pc := 38) 0 rfl rfl (rx_dt dt_Plan_addToken 22 rfl) ?_
    rcases ite_some hm with ⟨hc, hm⟩ | ⟨hc, hm⟩
    · refine rw_if_ne_f (pc := 39) (tgt := 62) hc (by decide) (rx_dt dt_Plan_addToken 23 rfl) ?_
      refine rw_aload_n (pc := 42) 1 rfl rfl (rx_dt dt_Plan_addToken 24 rfl) ?_
      refine rw_get fa_Plan_27 (pc := 43) 0 rfl rfl (rx_dt dt_Plan_addToken 25 rfl) ?_
      refine rw_get fa_Plan_40 (pc := 46) 3 rfl rfl (rx_dt dt_Plan_addToken 26 rfl) ?_
      refine rw_iload_n (pc := 49) 2 rfl rfl (rx_dt dt_Plan_addToken 27 rfl) ?_
      refine rw_sipush (pc := 50) (v := 255) (by decide) (rx_dt dt_Plan_addToken 28 rfl) ?_
      refine rw_iand (pc := 53) (rx_dt dt_Plan_addToken 29 rfl) ?_
      refine rw_dup2 (pc := 54) rfl rfl (rx_dt dt_Plan_addToken 30 rfl) ?_
      obtain ⟨hk2, hm⟩ := chk_some hm
      refine rw_iald (pc := 55) 4 rfl hk2 (rx_dt dt_Plan_addToken 31 rfl) ?_
      refine rw_iconst (pc := 56) (v := 1) rfl (rx_dt dt_Plan_addToken 32 rfl) ?_
      refine rw_iadd (pc := 57) (rx_dt dt_Plan_addToken 33 rfl) ?_
      obtain ⟨hk3, hm⟩ := chk_some hm
      obtain ⟨t_literals_count1, ht_literals_count1, hm⟩ := nm_some hm
      refine rw_iast (pc := 58) (ws' := [ob a_t 7 [.ref a_t_token, .int y1, .int t_matches, .ref a_t_literals, .ref a_t_distances, .int t_kind, .int t_bits], ob a_t_distances 1 [.ref a_t_distances_count, .ref a_t_distances_length], ia Z a_t_distances_count 30 t_distances_count, ob a_t_literals 1 [.ref a_t_literals_count, .ref a_t_literals_length], ia Z a_t_literals_count 286 t_literals_count1, ia Z a_t_token 512 t_token1]) 4 rfl hk3 (by rw [← ht_literals_count1]; rfl) (rx_dt dt_Plan_addToken 34 rfl) ?_
      refine rw_goto (pc := 59) (tgt := 107) (by decide) (rx_dt dt_Plan_addToken 35 rfl) ?_
      refine rw_perm (lv' := []) (ws' := [ob a_t 7 [.ref a_t_token, .int y1, .int t_matches, .ref a_t_literals, .ref a_t_distances, .int t_kind, .int t_bits], ob a_t_distances 1 [.ref a_t_distances_count, .ref a_t_distances_length], ia Z a_t_distances_count 30 t_distances_count, ob a_t_literals 1 [.ref a_t_literals_count, .ref a_t_literals_length], ia Z a_t_literals_count 286 t_literals_count1, ia Z a_t_token 512 t_token1]) [] [0, 1, 2, 3, 4, 5] rfl rfl rfl ?_
      cases hm
      exact rw_vret (pc := 107) (rx_dt dt_Plan_addToken 63 rfl) hp
    · refine rw_if_ne_t (pc := 39) (tgt := 62) hc (by decide) (rx_dt dt_Plan_addToken 23 rfl) ?_
      refine rw_aload_n (pc := 62) 1 rfl rfl (rx_dt dt_Plan_addToken 36 rfl) ?_
      refine rw_dup (pc := 63) rfl (rx_dt dt_Plan_addToken 37 rfl) ?_
      refine rw_get fa_Plan_19 (pc := 64) 0 rfl rfl (rx_dt dt_Plan_addToken 38 rfl) ?_
      refine rw_iconst (pc := 67) (v := 1) rfl (rx_dt dt_Plan_addToken 39 rfl) ?_
      refine rw_iadd (pc := 68) (rx_dt dt_Plan_addToken 40 rfl) ?_
      obtain ⟨y2, hy2, hm⟩ := nm_some hm
      refine rw_nm hy2 ?_
      refine rw_put fa_Plan_19 (pc := 69) (ws' := [ob a_t 7 [.ref a_t_token, .int y1, .int y2, .ref a_t_literals, .ref a_t_distances, .int t_kind, .int t_bits], ob a_t_distances 1 [.ref a_t_distances_count, .ref a_t_distances_length], ia Z a_t_distances_count 30 t_distances_count, ob a_t_literals 1 [.ref a_t_literals_count, .ref a_t_literals_length], ia Z a_t_literals_count 286 t_literals_count, ia Z a_t_token 512 t_token1]) 0 rfl rfl rfl (Nat.le_of_ble_eq_true rfl) rfl (rx_dt dt_Plan_addToken 41 rfl) ?_
      refine rw_aload_n (pc := 72) 1 rfl rfl (rx_dt dt_Plan_addToken 42 rfl) ?_
      refine rw_get fa_Plan_27 (pc := 73) 0 rfl rfl (rx_dt dt_Plan_addToken 43 rfl) ?_
      refine rw_get fa_Plan_40 (pc := 76) 3 rfl rfl (rx_dt dt_Plan_addToken 44 rfl) ?_
      refine rw_iload_n (pc := 79) 0 rfl rfl (rx_dt dt_Plan_addToken 45 rfl) ?_
      obtain ⟨r2, hq, hm⟩ := bnd1_some hm
      refine rw_callS cw_DE_lengthSymbol lk_Plan_53 cs_DE_lengthSymbol (c_DE_lengthSymbol l Z F (x0 := r1) (r0 := r2) hq) [] [0, 1, 2, 3, 4, 5] rfl rfl rfl rfl (by decide) rfl (by decide) (fun h => h) (rest := [.ref a_t_literals_count]) (wr := [ob a_t 7 [.ref a_t_token, .int y1, .int y2, .ref a_t_literals, .ref a_t_distances, .int t_kind, .int t_bits], ob a_t_distances 1 [.ref a_t_distances_count, .ref a_t_distances_length], ia Z a_t_distances_count 30 t_distances_count, ob a_t_literals 1 [.ref a_t_literals_count, .ref a_t_literals_length], ia Z a_t_literals_count 286 t_literals_count, ia Z a_t_token 512 t_token1]) (Nat.le_of_ble_eq_true rfl) rfl (rx_dt dt_Plan_addToken 46 rfl) (pc := 80) ?_
      rintro _ _ ⟨rfl, rfl⟩
      show J_Plan_addToken l Z mc ms post k n [ob a_t 7 [.ref a_t_token, .int y1, .int y2, .ref a_t_literals, .ref a_t_distances, .int t_kind, .int t_bits], ob a_t_distances 1 [.ref a_t_distances_count, .ref a_t_distances_length], ia Z a_t_distances_count 30 t_distances_count, ob a_t_literals 1 [.ref a_t_literals_count, .ref a_t_literals_length], ia Z a_t_literals_count 286 t_literals_count, ia Z a_t_token 512 t_token1] [(2, .int r1), (0, .ref a_t), (1, .int x1)] 83 [.int r2, .ref a_t_literals_count]
      refine rw_dup2 (pc := 83) rfl rfl (rx_dt dt_Plan_addToken 47 rfl) ?_
      obtain ⟨hk4, hm⟩ := chk_some hm
      refine rw_iald (pc := 84) 4 rfl hk4 (rx_dt dt_Plan_addToken 48 rfl) ?_
      refine rw_iconst (pc := 85) (v := 1) rfl (rx_dt dt_Plan_addToken 49 rfl) ?_
      refine rw_iadd (pc := 86) (rx_dt dt_Plan_addToken 50 rfl) ?_
      obtain ⟨hk5, hm⟩ := chk_some hm
      obtain ⟨t_literals_count2, ht_literals_count2, hm⟩ := nm_some hm
      refine rw_iast (pc := 87) (ws' := [ob a_t 7 [.ref a_t_token, .int y1, .int y2, .ref a_t_literals, .ref a_t_distances, .int t_kind, .int t_bits], ob a_t_distances 1 [.ref a_t_distances_count, .ref a_t_distances_length], ia Z a_t_distances_count 30 t_distances_count, ob a_t_literals 1 [.ref a_t_literals_count, .ref a_t_literals_length], ia Z a_t_literals_count 286 t_literals_count2, ia Z a_t_token 512 t_token1]) 4 rfl hk5 (by rw [← ht_literals_count2]; rfl) (rx_dt dt_Plan_addToken 51 rfl) ?_
      refine rw_aload_n (pc := 88) 1 rfl rfl (rx_dt dt_Plan_addToken 52 rfl) ?_
      refine rw_get fa_Plan_31 (pc := 89) 0 rfl rfl (rx_dt dt_Plan_addToken 53 rfl) ?_
      refine rw_get fa_Plan_40 (pc := 92) 1 rfl rfl (rx_dt dt_Plan_addToken 54 rfl) ?_
      refine rw_iload_n (pc := 95) 2 rfl rfl (rx_dt dt_Plan_addToken 55 rfl) ?_
      obtain ⟨r3, hq, hm⟩ := bnd1_some hm
      refine rw_callS cw_DE_tokenDistance lk_Plan_56 cs_DE_tokenDistance (c_DE_tokenDistance l Z F (x0 := x1) (r0 := r3) hq) [] [0, 1, 2, 3, 4, 5] rfl rfl rfl rfl (by decide) rfl (by decide) (fun h => h) (rest := [.ref a_t_distances_count]) (wr := [ob a_t 7 [.ref a_t_token, .int y1, .int y2, .ref a_t_literals, .ref a_t_distances, .int t_kind, .int t_bits], ob a_t_distances 1 [.ref a_t_distances_count, .ref a_t_distances_length], ia Z a_t_distances_count 30 t_distances_count, ob a_t_literals 1 [.ref a_t_literals_count, .ref a_t_literals_length], ia Z a_t_literals_count 286 t_literals_count2, ia Z a_t_token 512 t_token1]) (Nat.le_of_ble_eq_true rfl) rfl (rx_dt dt_Plan_addToken 56 rfl) (pc := 96) ?_
      rintro _ _ ⟨rfl, rfl⟩
      show J_Plan_addToken l Z mc ms post k n [ob a_t 7 [.ref a_t_token, .int y1, .int y2, .ref a_t_literals, .ref a_t_distances, .int t_kind, .int t_bits], ob a_t_distances 1 [.ref a_t_distances_count, .ref a_t_distances_length], ia Z a_t_distances_count 30 t_distances_count, ob a_t_literals 1 [.ref a_t_literals_count, .ref a_t_literals_length], ia Z a_t_literals_count 286 t_literals_count2, ia Z a_t_token 512 t_token1] [(2, .int r1), (0, .ref a_t), (1, .int x1)] 99 [.int r3, .ref a_t_distances_count]
      obtain ⟨r4, hq, hm⟩ := bnd1_some hm
      refine rw_callS cw_DE_distanceSymbol lk_Plan_59 cs_DE_distanceSymbol (c_DE_distanceSymbol l Z F (x0 := r3) (r0 := r4) hq) [] [0, 1, 2, 3, 4, 5] rfl rfl rfl rfl (by decide) rfl (by decide) (fun h => h) (rest := [.ref a_t_distances_count]) (wr := [ob a_t 7 [.ref a_t_token, .int y1, .int y2, .ref a_t_literals, .ref a_t_distances, .int t_kind, .int t_bits], ob a_t_distances 1 [.ref a_t_distances_count, .ref a_t_distances_length], ia Z a_t_distances_count 30 t_distances_count, ob a_t_literals 1 [.ref a_t_literals_count, .ref a_t_literals_length], ia Z a_t_literals_count 286 t_literals_count2, ia Z a_t_token 512 t_token1]) (Nat.le_of_ble_eq_true rfl) rfl (rx_dt dt_Plan_addToken 57 rfl) (pc := 99) ?_
      rintro _ _ ⟨rfl, rfl⟩
      show J_Plan_addToken l Z mc ms post k n [ob a_t 7 [.ref a_t_token, .int y1, .int y2, .ref a_t_literals, .ref a_t_distances, .int t_kind, .int t_bits], ob a_t_distances 1 [.ref a_t_distances_count, .ref a_t_distances_length], ia Z a_t_distances_count 30 t_distances_count, ob a_t_literals 1 [.ref a_t_literals_count, .ref a_t_literals_length], ia Z a_t_literals_count 286 t_literals_count2, ia Z a_t_token 512 t_token1] [(2, .int r1), (0, .ref a_t), (1, .int x1)] 102 [.int r4, .ref a_t_distances_count]
      refine rw_dup2 (pc := 102) rfl rfl (rx_dt dt_Plan_addToken 58 rfl) ?_
      obtain ⟨hk6, hm⟩ := chk_some hm
      refine rw_iald (pc := 103) 2 rfl hk6 (rx_dt dt_Plan_addToken 59 rfl) ?_
      refine rw_iconst (pc := 104) (v := 1) rfl (rx_dt dt_Plan_addToken 60 rfl) ?_
      refine rw_iadd (pc := 105) (rx_dt dt_Plan_addToken 61 rfl) ?_
      obtain ⟨hk7, hm⟩ := chk_some hm
      obtain ⟨t_distances_count1, ht_distances_count1, hm⟩ := nm_some hm
      refine rw_iast (pc := 106) (ws' := [ob a_t 7 [.ref a_t_token, .int y1, .int y2, .ref a_t_literals, .ref a_t_distances, .int t_kind, .int t_bits], ob a_t_distances 1 [.ref a_t_distances_count, .ref a_t_distances_length], ia Z a_t_distances_count 30 t_distances_count1, ob a_t_literals 1 [.ref a_t_literals_count, .ref a_t_literals_length], ia Z a_t_literals_count 286 t_literals_count2, ia Z a_t_token 512 t_token1]) 2 rfl hk7 (by rw [← ht_distances_count1]; rfl) (rx_dt dt_Plan_addToken 62 rfl) ?_
      refine rw_perm (lv' := []) (ws' := [ob a_t 7 [.ref a_t_token, .int y1, .int y2, .ref a_t_literals, .ref a_t_distances, .int t_kind, .int t_bits], ob a_t_distances 1 [.ref a_t_distances_count, .ref a_t_distances_length], ia Z a_t_distances_count 30 t_distances_count1, ob a_t_literals 1 [.ref a_t_literals_count, .ref a_t_literals_length], ia Z a_t_literals_count 286 t_literals_count2, ia Z a_t_token 512 t_token1]) [] [0, 1, 2, 3, 4, 5] rfl rfl rfl ?_
      cases hm
      exact rw_vret (pc := 107) (rx_dt dt_Plan_addToken 63 rfl) hp
  · refine rw_icmp_lt_f (pc := 9) (tgt := 13) hc (by decide) (rx_dt dt_Plan_addToken 5 rfl) ?_
    refine rw_perm (lv' := []) (ws' := [ob a_t 7 [.ref a_t_token, .int t_size, .int t_matches, .ref a_t_literals, .ref a_t_distances, .int t_kind, .int t_bits], ob a_t_distances 1 [.ref a_t_distances_count, .ref a_t_distances_length], ia Z a_t_distances_count 30 t_distances_count, ob a_t_literals 1 [.ref a_t_literals_count, .ref a_t_literals_length], ia Z a_t_literals_count 286 t_literals_count, ia Z a_t_token 512 t_token]) [] [0, 1, 2, 3, 4, 5] rfl rfl rfl ?_
    cases hm
    exact rw_vret (pc := 12) (rx_dt dt_Plan_addToken 6 rfl) hp
theorem c_Plan_addToken (l : Launch) (Z : rx_D) (F : Nat) (a_t a_t_distances a_t_distances_count a_t_distances_length a_t_literals a_t_literals_count a_t_literals_length a_t_token : Nat) (t_bits : Int32) (t_distances_count : Nat → Int32) (t_kind : Int32) (t_literals_count : Nat → Int32) (t_matches t_size : Int32) (t_token : Nat → Int32) (x1 : Int32) (o_t_size o_t_matches : Int32) (o_t_distances_count o_t_literals_count o_t_token : Nat → Int32) (hm : m_Plan_addToken F t_distances_count t_literals_count t_matches t_size t_token x1 = some (o_t_size, o_t_matches, o_t_distances_count, o_t_literals_count, o_t_token)) : Cn l Z y_Plan_addToken b_Plan_addToken 3 none 1 [.ref a_t, .int x1] [ob a_t 7 [.ref a_t_token, .int t_size, .int t_matches, .ref a_t_literals, .ref a_t_distances, .int t_kind, .int t_bits], ob a_t_distances 1 [.ref a_t_distances_count, .ref a_t_distances_length], ia Z a_t_distances_count 30 t_distances_count, ob a_t_literals 1 [.ref a_t_literals_count, .ref a_t_literals_length], ia Z a_t_literals_count 286 t_literals_count, ia Z a_t_token 512 t_token] 0 0 (fun r w => r = none ∧ w = [ob a_t 7 [.ref a_t_token, .int o_t_size, .int o_t_matches, .ref a_t_literals, .ref a_t_distances, .int t_kind, .int t_bits], ob a_t_distances 1 [.ref a_t_distances_count, .ref a_t_distances_length], ia Z a_t_distances_count 30 o_t_distances_count, ob a_t_literals 1 [.ref a_t_literals_count, .ref a_t_literals_length], ia Z a_t_literals_count 286 o_t_literals_count, ia Z a_t_token 512 o_t_token]) :=
  rx_met "DeflateEffort$Plan" "addToken" mf_Plan_addToken (Nat.le_of_ble_eq_true rfl) rfl (by rintro _ _ ⟨h9, _⟩; cases h9) (w_Plan_addToken l Z 0 0 _ 0 0 F a_t a_t_distances a_t_distances_count a_t_distances_length a_t_literals a_t_literals_count a_t_literals_length a_t_token t_bits t_distances_count t_kind t_literals_count t_matches t_size t_token x1 o_t_size o_t_matches o_t_distances_count o_t_literals_count o_t_token hm ⟨rfl, rfl⟩)
abbrev J_Matches_distanceAt (l : Launch) (Z : rx_D) (mc ms : Nat) (post : Option Value → va_W → Prop) := Rw l Z "DeflateEffort$Matches" "distanceAt" b_Matches_distanceAt 2 (some .int) 1 mc ms post
set_option maxRecDepth 100000 in
set_option maxHeartbeats 4000000 in
theorem w_Matches_distanceAt (l : Launch) (Z : rx_D) (mc ms : Nat) (post : Option Value → va_W → Prop) (k n : Nat) (F : Nat) (a_t a_t_below a_t_bucket a_t_bytes a_t_found : Nat) (t_found : Nat → Int32) (t_steps x1 : Int32) (r0 : Int32) (hm : m_Matches_distanceAt F t_found x1 = some r0) (hp : post (some (.int r0)) [ob a_t 6 [.ref a_t_bytes, .ref a_t_bucket, .ref a_t_below, .ref a_t_found, .int t_steps], ia Z a_t_found 512 t_found]) : J_Matches_distanceAt l Z mc ms post k n [ob a_t 6 [.ref a_t_bytes, .ref a_t_bucket, .ref a_t_below, .ref a_t_found, .int t_steps], ia Z a_t_found 512 t_found] [(0, .ref a_t), (1, .int x1)] 0 [] := by
  unfold m_Matches_distanceAt at hm
  refine rw_aload_n (pc := 0) 0 rfl rfl (rx_dt dt_Matches_distanceAt 0 rfl) ?_
  refine rw_get fa_Matches_18 (pc := 1) 0 rfl rfl (rx_dt dt_Matches_distanceAt 1 rfl) ?_
  refine rw_iload_n (pc := 4) 1 rfl rfl (rx_dt dt_Matches_distanceAt 2 rfl) ?_
  obtain ⟨hk1, hm⟩ := chk_some hm
  refine rw_iald (pc := 5) 1 rfl hk1 (rx_dt dt_Matches_distanceAt 3 rfl) ?_
  obtain ⟨r1, hq, hm⟩ := bnd1_some hm
  refine rw_callS cw_DE_tokenDistance lk_Matches_48 cs_DE_tokenDistance (c_DE_tokenDistance l Z F (x0 := t_found x1.toNatClampNeg) (r0 := r1) hq) [] [0, 1] rfl rfl rfl rfl (by decide) rfl (by decide) (fun h => h) (rest := []) (wr := [ob a_t 6 [.ref a_t_bytes, .ref a_t_bucket, .ref a_t_below, .ref a_t_found, .int t_steps], ia Z a_t_found 512 t_found]) (Nat.le_of_ble_eq_true rfl) rfl (rx_dt dt_Matches_distanceAt 4 rfl) (pc := 6) ?_
  rintro _ _ ⟨rfl, rfl⟩
  show J_Matches_distanceAt l Z mc ms post k n [ob a_t 6 [.ref a_t_bytes, .ref a_t_bucket, .ref a_t_below, .ref a_t_found, .int t_steps], ia Z a_t_found 512 t_found] [(0, .ref a_t), (1, .int x1)] 9 [.int r1]
  refine rw_perm (lv' := []) (ws' := [ob a_t 6 [.ref a_t_bytes, .ref a_t_bucket, .ref a_t_below, .ref a_t_found, .int t_steps], ia Z a_t_found 512 t_found]) [] [0, 1] rfl rfl rfl ?_
  cases hm
  exact rw_iret (pc := 9) (rx_dt dt_Matches_distanceAt 5 rfl) hp
theorem c_Matches_distanceAt (l : Launch) (Z : rx_D) (F : Nat) (a_t a_t_below a_t_bucket a_t_bytes a_t_found : Nat) (t_found : Nat → Int32) (t_steps x1 : Int32) (r0 : Int32) (hm : m_Matches_distanceAt F t_found x1 = some r0) : Cn l Z y_Matches_distanceAt b_Matches_distanceAt 2 (some .int) 1 [.ref a_t, .int x1] [ob a_t 6 [.ref a_t_bytes, .ref a_t_bucket, .ref a_t_below, .ref a_t_found, .int t_steps], ia Z a_t_found 512 t_found] 0 0 (fun r w => r = (some (.int r0)) ∧ w = [ob a_t 6 [.ref a_t_bytes, .ref a_t_bucket, .ref a_t_below, .ref a_t_found, .int t_steps], ia Z a_t_found 512 t_found]) :=
  rx_met "DeflateEffort$Matches" "distanceAt" mf_Matches_distanceAt (Nat.le_of_ble_eq_true rfl) rfl (by rintro _ _ ⟨h9, _⟩; cases h9) (w_Matches_distanceAt l Z 0 0 _ 0 0 F a_t a_t_below a_t_bucket a_t_bytes a_t_found t_found t_steps x1 r0 hm ⟨rfl, rfl⟩)
abbrev J_Cutter_addTokens (l : Launch) (Z : rx_D) (mc ms : Nat) (post : Option Value → va_W → Prop) := Rw l Z "DeflateEffort$Cutter" "addTokens" b_Cutter_addTokens 6 none 2 mc ms post
set_option maxRecDepth 100000 in
set_option maxHeartbeats 4000000 in
theorem wl_Cutter_addTokens_7 (l : Launch) (Z : rx_D) (mc ms : Nat) (post : Option Value → va_W → Prop) (k n : Nat) (F : Nat) (a_p1 a_p1_distances a_p1_distances_count a_p1_distances_length a_p1_literals a_p1_literals_count a_p1_literals_length a_p1_token a_t a_t_best a_t_bytes a_t_hand a_t_joiner a_t_lengthTaken a_t_matches a_t_matches_below a_t_matches_bucket a_t_matches_found a_t_prices a_t_row a_t_taken a_t_trial : Nat) (p1_bits p1_kind : Int32) (t_bytes : Nat → Int32) (t_effort : Int32) (t_lengthTaken t_matches_found : Nat → Int32) (t_matches_steps t_takenCount x3 : Int32) : ∀ (f : Nat)  (v5_1 p1_size_2 p1_matches_2 : Int32) (p1_distances_count2 p1_literals_count2 p1_token1 : Nat → Int32) (v5_2 p1_size_3 p1_matches_3 : Int32) (p1_distances_count3 p1_literals_count3 p1_token2 : Nat → Int32), L_Cutter_addTokens_7 F t_bytes t_lengthTaken t_matches_found x3 f v5_1 p1_size_2 p1_matches_2 p1_distances_count2 p1_literals_count2 p1_token1 = some (v5_2, p1_size_3, p1_matches_3, p1_distances_count3, p1_literals_count3, p1_token2) → (J_Cutter_addTokens l Z mc ms post k n [ob a_p1 7 [.ref a_p1_token, .int p1_size_3, .int p1_matches_3, .ref a_p1_literals, .ref a_p1_distances, .int p1_kind, .int p1_bits], ob a_p1_distances 1 [.ref a_p1_distances_count, .ref a_p1_distances_length], ia Z a_p1_distances_count 30 p1_distances_count3, ob a_p1_literals 1 [.ref a_p1_literals_count, .ref a_p1_literals_length], ia Z a_p1_literals_count 286 p1_literals_count3, ia Z a_p1_token 512 p1_token2, ob a_t 3 [.int t_effort, .ref a_t_bytes, .ref a_t_matches, .ref a_t_joiner, .ref a_t_row, .ref a_t_prices, .ref a_t_lengthTaken, .ref a_t_hand, .ref a_t_trial, .ref a_t_best, .ref a_t_taken, .int t_takenCount], ia Z a_t_bytes 512 t_bytes, ia Z a_t_lengthTaken 512 t_lengthTaken, ob a_t_matches 6 [.ref a_t_bytes, .ref a_t_matches_bucket, .ref a_t_matches_below, .ref a_t_matches_found, .int t_matches_steps], ia Z a_t_matches_found 512 t_matches_found] [] 70 []) → J_Cutter_addTokens l Z mc ms post k n [ob a_p1 7 [.ref a_p1_token, .int p1_size_2, .int p1_matches_2, .ref a_p1_literals, .ref a_p1_distances, .int p1_kind, .int p1_bits], ob a_p1_distances 1 [.ref a_p1_distances_count, .ref a_p1_distances_length], ia Z a_p1_distances_count 30 p1_distances_count2, ob a_p1_literals 1 [.ref a_p1_literals_count, .ref a_p1_literals_length], ia Z a_p1_literals_count 286 p1_literals_count2, ia Z a_p1_token 512 p1_token1, ob a_t 3 [.int t_effort, .ref a_t_bytes, .ref a_t_matches, .ref a_t_joiner, .ref a_t_row, .ref a_t_prices, .ref a_t_lengthTaken, .ref a_t_hand, .ref a_t_trial, .ref a_t_best, .ref a_t_taken, .int t_takenCount], ia Z a_t_bytes 512 t_bytes, ia Z a_t_lengthTaken 512 t_lengthTaken, ob a_t_matches 6 [.ref a_t_bytes, .ref a_t_matches_bucket, .ref a_t_matches_below, .ref a_t_matches_found, .int t_matches_steps], ia Z a_t_matches_found 512 t_matches_found] [(0, .ref a_t), (1, .ref a_p1), (3, .int x3), (5, .int v5_1)] 7 [] := by
  intro f
  induction f with
  | zero =>
    intro v5_1 p1_size_2 p1_matches_2 p1_distances_count2 p1_literals_count2 p1_token1 v5_2 p1_size_3 p1_matches_3 p1_distances_count3 p1_literals_count3 p1_token2 hm K
    cases hm
  | succ f ih =>
    intro v5_1 p1_size_2 p1_matches_2 p1_distances_count2 p1_literals_count2 p1_token1 v5_2 p1_size_3 p1_matches_3 p1_distances_count3 p1_literals_count3 p1_token2 hm K
    have hm : B_Cutter_addTokens_7 F t_bytes t_lengthTaken t_matches_found x3 (L_Cutter_addTokens_7 F t_bytes t_lengthTaken t_matches_found x3 f) v5_1 p1_size_2 p1_matches_2 p1_distances_count2 p1_literals_count2 p1_token1 = some (v5_2, p1_size_3, p1_matches_3, p1_distances_count3, p1_literals_count3, p1_token2) := hm
    unfold B_Cutter_addTokens_7 at hm
    refine rw_iload (pc := 7) 3 rfl (rx_dt dt_Cutter_addTokens 4 rfl) ?_
    refine rw_iload_n (pc := 9) 2 rfl rfl (rx_dt dt_Cutter_addTokens 5 rfl) ?_
    rcases ite_some hm with ⟨hc, hm⟩ | ⟨hc, hm⟩
    · refine rw_icmp_ge_t (pc := 10) (tgt := 70) hc (by decide) (rx_dt dt_Cutter_addTokens 6 rfl) ?_
      refine rw_perm (lv' := []) (ws' := [ob a_p1 7 [.ref a_p1_token, .int p1_size_2, .int p1_matches_2, .ref a_p1_literals, .ref a_p1_distances, .int p1_kind, .int p1_bits], ob a_p1_distances 1 [.ref a_p1_distances_count, .ref a_p1_distances_length], ia Z a_p1_distances_count 30 p1_distances_count2, ob a_p1_literals 1 [.ref a_p1_literals_count, .ref a_p1_literals_length], ia Z a_p1_literals_count 286 p1_literals_count2, ia Z a_p1_token 512 p1_token1, ob a_t 3 [.int t_effort, .ref a_t_bytes, .ref a_t_matches, .ref a_t_joiner, .ref a_t_row, .ref a_t_prices, .ref a_t_lengthTaken, .ref a_t_hand, .ref a_t_trial, .ref a_t_best, .ref a_t_taken, .int t_takenCount], ia Z a_t_bytes 512 t_bytes, ia Z a_t_lengthTaken 512 t_lengthTaken, ob a_t_matches 6 [.ref a_t_bytes, .ref a_t_matches_bucket, .ref a_t_matches_below, .ref a_t_matches_found, .int t_matches_steps], ia Z a_t_matches_found 512 t_matches_found]) [] [0, 1, 2, 3, 4, 5, 6, 7, 8, 9, 10] rfl rfl rfl ?_
      cases hm
      exact K
    · refine rw_icmp_ge_f (pc := 10) (tgt := 70) hc (by decide) (rx_dt dt_Cutter_addTokens 6 rfl) ?_
      refine rw_iconst (pc := 13) (v := 1) rfl (rx_dt dt_Cutter_addTokens 7 rfl) ?_
      refine rw_aload_n (pc := 14) 0 rfl rfl (rx_dt dt_Cutter_addTokens 8 rfl) ?_
      refine rw_get fa_Cutter_32 (pc := 15) 6 rfl rfl (rx_dt dt_Cutter_addTokens 9 rfl) ?_
      refine rw_iload (pc := 18) 3 rfl (rx_dt dt_Cutter_addTokens 10 rfl) ?_
      obtain ⟨hk1, hm⟩ := chk_some hm
      refine rw_iald (pc := 20) 8 rfl hk1 (rx_dt dt_Cutter_addTokens 11 rfl) ?_
      refine rw_imax (pc := 21) mk_Cutter_151 (by decide) (Nat.le_of_ble_eq_true rfl) (rx_dt dt_Cutter_addTokens 12 rfl) ?_
      obtain ⟨y1, hy1, hm⟩ := nm_some hm
      refine rw_nm hy1 ?_
      refine rw_istore (pc := 24) (lv' := [(4, .int y1), (0, .ref a_t), (1, .ref a_p1), (3, .int x3), (5, .int v5_1)]) (by decide) rfl (rx_dt dt_Cutter_addTokens 13 rfl) ?_
      refine rw_aload_n (pc := 26) 2 rfl rfl (rx_dt dt_Cutter_addTokens 14 rfl) ?_
      refine rw_iload (pc := 27) 0 rfl (rx_dt dt_Cutter_addTokens 15 rfl) ?_
      refine rw_iconst (pc := 29) (v := 1) rfl (rx_dt dt_Cutter_addTokens 16 rfl) ?_
      obtain ⟨z1, hj, hm⟩ := bnd1_some hm
      have KJ : J_Cutter_addTokens l Z mc ms post k n [ob a_p1 7 [.ref a_p1_token, .int p1_size_2, .int p1_matches_2, .ref a_p1_literals, .ref a_p1_distances, .int p1_kind, .int p1_bits], ob a_p1_distances 1 [.ref a_p1_distances_count, .ref a_p1_distances_length], ia Z a_p1_distances_count 30 p1_distances_count2, ob a_p1_literals 1 [.ref a_p1_literals_count, .ref a_p1_literals_length], ia Z a_p1_literals_count 286 p1_literals_count2, ia Z a_p1_token 512 p1_token1, ob a_t 3 [.int t_effort, .ref a_t_bytes, .ref a_t_matches, .ref a_t_joiner, .ref a_t_row, .ref a_t_prices, .ref a_t_lengthTaken, .ref a_t_hand, .ref a_t_trial, .ref a_t_best, .ref a_t_taken, .int t_takenCount], ia Z a_t_bytes 512 t_bytes, ia Z a_t_lengthTaken 512 t_lengthTaken, ob a_t_matches 6 [.ref a_t_bytes, .ref a_t_matches_bucket, .ref a_t_matches_below, .ref a_t_matches_found, .int t_matches_steps], ia Z a_t_matches_found 512 t_matches_found] [(0, .ref a_t), (1, .ref a_p1), (3, .int x3), (4, .int y1), (5, .int v5_1)] 57 [.int z1, .ref a_p1] := by
        obtain ⟨p1_size_4, p1_matches_4, p1_distances_count4, p1_literals_count4, p1_token3, hq, hm⟩ := bnd5_some hm
        refine rw_callV cw_Plan_addToken lk_Cutter_160 ci_Plan_addToken rfl (q := 0) rfl (c_Plan_addToken l Z F (a_t := a_p1) (a_t_distances := a_p1_distances) (a_t_distances_count := a_p1_distances_count) (a_t_distances_length := a_p1_distances_length) (a_t_literals := a_p1_literals) (a_t_literals_count := a_p1_literals_count) (a_t_literals_length := a_p1_literals_length) (a_t_token := a_p1_token) (t_bits := p1_bits) (t_distances_count := p1_distances_count2) (t_kind := p1_kind) (t_literals_count := p1_literals_count2) (t_matches := p1_matches_2) (t_size := p1_size_2) (t_token := p1_token1) (x1 := z1) (o_t_size := p1_size_4) (o_t_matches := p1_matches_4) (o_t_distances_count := p1_distances_count4) (o_t_literals_count := p1_literals_count4) (o_t_token := p1_token3) hq) [0, 1, 2, 3, 4, 5] [6, 7, 8, 9, 10] rfl rfl rfl rfl (by decide) rfl (by decide) (fun h => h) (rest := []) (wr := [ob a_t 3 [.int t_effort, .ref a_t_bytes, .ref a_t_matches, .ref a_t_joiner, .ref a_t_row, .ref a_t_prices, .ref a_t_lengthTaken, .ref a_t_hand, .ref a_t_trial, .ref a_t_best, .ref a_t_taken, .int t_takenCount], ia Z a_t_bytes 512 t_bytes, ia Z a_t_lengthTaken 512 t_lengthTaken, ob a_t_matches 6 [.ref a_t_bytes, .ref a_t_matches_bucket, .ref a_t_matches_below, .ref a_t_matches_found, .int t_matches_steps], ia Z a_t_matches_found 512 t_matches_found]) (Nat.le_of_ble_eq_true rfl) rfl (rx_dt dt_Cutter_addTokens 29 rfl) (pc := 57) ?_
        rintro _ _ ⟨rfl, rfl⟩
        show J_Cutter_addTokens l Z mc ms post k n [ob a_t 3 [.int t_effort, .ref a_t_bytes, .ref a_t_matches, .ref a_t_joiner, .ref a_t_row, .ref a_t_prices, .ref a_t_lengthTaken, .ref a_t_hand, .ref a_t_trial, .ref a_t_best, .ref a_t_taken, .int t_takenCount], ia Z a_t_bytes 512 t_bytes, ia Z a_t_lengthTaken 512 t_lengthTaken, ob a_t_matches 6 [.ref a_t_bytes, .ref a_t_matches_bucket, .ref a_t_matches_below, .ref a_t_matches_found, .int t_matches_steps], ia Z a_t_matches_found 512 t_matches_found, ob a_p1 7 [.ref a_p1_token, .int p1_size_4, .int p1_matches_4, .ref a_p1_literals, .ref a_p1_distances, .int p1_kind, .int p1_bits], ob a_p1_distances 1 [.ref a_p1_distances_count, .ref a_p1_distances_length], ia Z a_p1_distances_count 30 p1_distances_count4, ob a_p1_literals 1 [.ref a_p1_literals_count, .ref a_p1_literals_length], ia Z a_p1_literals_count 286 p1_literals_count4, ia Z a_p1_token 512 p1_token3] [(0, .ref a_t), (1, .ref a_p1), (3, .int x3), (4, .int y1), (5, .int v5_1)] 60 []
        refine rw_iload (pc := 60) 4 rfl (rx_dt dt_Cutter_addTokens 30 rfl) ?_
        refine rw_iload (pc := 62) 3 rfl (rx_dt dt_Cutter_addTokens 31 rfl) ?_
        refine rw_iadd (pc := 64) (rx_dt dt_Cutter_addTokens 32 rfl) ?_
        obtain ⟨y2, hy2, hm⟩ := nm_some hm
        refine rw_nm hy2 ?_
        refine rw_istore (pc := 65) (lv' := [(5, .int y2), (0, .ref a_t), (1, .ref a_p1), (3, .int x3), (4, .int y1)]) (by decide) rfl (rx_dt dt_Cutter_addTokens 33 rfl) ?_
        refine rw_goto (pc := 67) (tgt := 7) (by decide) (rx_dt dt_Cutter_addTokens 34 rfl) ?_
        refine rw_perm (lv' := [(0, .ref a_t), (1, .ref a_p1), (3, .int x3), (5, .int y2)]) (ws' := [ob a_p1 7 [.ref a_p1_token, .int p1_size_4, .int p1_matches_4, .ref a_p1_literals, .ref a_p1_distances, .int p1_kind, .int p1_bits], ob a_p1_distances 1 [.ref a_p1_distances_count, .ref a_p1_distances_length], ia Z a_p1_distances_count 30 p1_distances_count4, ob a_p1_literals 1 [.ref a_p1_literals_count, .ref a_p1_literals_length], ia Z a_p1_literals_count 286 p1_literals_count4, ia Z a_p1_token 512 p1_token3, ob a_t 3 [.int t_effort, .ref a_t_bytes, .ref a_t_matches, .ref a_t_joiner, .ref a_t_row, .ref a_t_prices, .ref a_t_lengthTaken, .ref a_t_hand, .ref a_t_trial, .ref a_t_best, .ref a_t_taken, .int t_takenCount], ia Z a_t_bytes 512 t_bytes, ia Z a_t_lengthTaken 512 t_lengthTaken, ob a_t_matches 6 [.ref a_t_bytes, .ref a_t_matches_bucket, .ref a_t_matches_below, .ref a_t_matches_found, .int t_matches_steps], ia Z a_t_matches_found 512 t_matches_found]) [1, 2, 3, 0] [5, 6, 7, 8, 9, 10, 0, 1, 2, 3, 4] rfl rfl rfl ?_
        exact ih  _ _ _ _ _ _ _ _ _ _ _ _ hm K
      clear hm
      have hm := hj
      clear hj
      rcases ite_some hm with ⟨hc, hm⟩ | ⟨hc, hm⟩
      · refine rw_icmp_ne_f (pc := 30) (tgt := 43) hc (by decide) (rx_dt dt_Cutter_addTokens 17 rfl) ?_
        refine rw_aload_n (pc := 33) 1 rfl rfl (rx_dt dt_Cutter_addTokens 18 rfl) ?_
        refine rw_get fa_Cutter_59 (pc := 34) 6 rfl rfl (rx_dt dt_Cutter_addTokens 19 rfl) ?_
        refine rw_iload (pc := 37) 4 rfl (rx_dt dt_Cutter_addTokens 20 rfl) ?_
        obtain ⟨hk2, hm⟩ := chk_some hm
        refine rw_iald (pc := 39) 7 rfl hk2 (rx_dt dt_Cutter_addTokens 21 rfl) ?_
        refine rw_goto (pc := 40) (tgt := 57) (by decide) (rx_dt dt_Cutter_addTokens 22 rfl) ?_
        refine rw_perm (lv' := [(0, .ref a_t), (1, .ref a_p1), (3, .int x3), (4, .int y1), (5, .int v5_1)]) (ws' := [ob a_p1 7 [.ref a_p1_token, .int p1_size_2, .int p1_matches_2, .ref a_p1_literals, .ref a_p1_distances, .int p1_kind, .int p1_bits], ob a_p1_distances 1 [.ref a_p1_distances_count, .ref a_p1_distances_length], ia Z a_p1_distances_count 30 p1_distances_count2, ob a_p1_literals 1 [.ref a_p1_literals_count, .ref a_p1_literals_length], ia Z a_p1_literals_count 286 p1_literals_count2, ia Z a_p1_token 512 p1_token1, ob a_t 3 [.int t_effort, .ref a_t_bytes, .ref a_t_matches, .ref a_t_joiner, .ref a_t_row, .ref a_t_prices, .ref a_t_lengthTaken, .ref a_t_hand, .ref a_t_trial, .ref a_t_best, .ref a_t_taken, .int t_takenCount], ia Z a_t_bytes 512 t_bytes, ia Z a_t_lengthTaken 512 t_lengthTaken, ob a_t_matches 6 [.ref a_t_bytes, .ref a_t_matches_bucket, .ref a_t_matches_below, .ref a_t_matches_found, .int t_matches_steps], ia Z a_t_matches_found 512 t_matches_found]) [1, 2, 3, 0, 4] [0, 1, 2, 3, 4, 5, 6, 7, 8, 9, 10] rfl rfl rfl ?_
        cases hm
        exact KJ
      · refine rw_icmp_ne_t (pc := 30) (tgt := 43) hc (by decide) (rx_dt dt_Cutter_addTokens 17 rfl) ?_
        refine rw_iload (pc := 43) 0 rfl (rx_dt dt_Cutter_addTokens 23 rfl) ?_
        refine rw_aload_n (pc := 45) 1 rfl rfl (rx_dt dt_Cutter_addTokens 24 rfl) ?_
        refine rw_get fa_Cutter_70 (pc := 46) 6 rfl rfl (rx_dt dt_Cutter_addTokens 25 rfl) ?_
        refine rw_iload (pc := 49) 4 rfl (rx_dt dt_Cutter_addTokens 26 rfl) ?_
        obtain ⟨r1, hq, hm⟩ := bnd1_some hm
        refine rw_callV cw_Matches_distanceAt lk_Cutter_154 ci_Matches_distanceAt rfl (q := 9) rfl (c_Matches_distanceAt l Z F (a_t := a_t_matches) (a_t_below := a_t_matches_below) (a_t_bucket := a_t_matches_bucket) (a_t_bytes := a_t_bytes) (a_t_found := a_t_matches_found) (t_found := t_matches_found) (t_steps := t_matches_steps) (x1 := v5_1) (r0 := r1) hq) [9, 10] [0, 1, 2, 3, 4, 5, 6, 7, 8] rfl rfl rfl rfl (by decide) rfl (by decide) (fun h => h) (rest := [.int y1, .ref a_p1]) (wr := [ob a_p1 7 [.ref a_p1_token, .int p1_size_2, .int p1_matches_2, .ref a_p1_literals, .ref a_p1_distances, .int p1_kind, .int p1_bits], ob a_p1_distances 1 [.ref a_p1_distances_count, .ref a_p1_distances_length], ia Z a_p1_distances_count 30 p1_distances_count2, ob a_p1_literals 1 [.ref a_p1_literals_count, .ref a_p1_literals_length], ia Z a_p1_literals_count 286 p1_literals_count2, ia Z a_p1_token 512 p1_token1, ob a_t 3 [.int t_effort, .ref a_t_bytes, .ref a_t_matches, .ref a_t_joiner, .ref a_t_row, .ref a_t_prices, .ref a_t_lengthTaken, .ref a_t_hand, .ref a_t_trial, .ref a_t_best, .ref a_t_taken, .int t_takenCount], ia Z a_t_bytes 512 t_bytes, ia Z a_t_lengthTaken 512 t_lengthTaken]) (Nat.le_of_ble_eq_true rfl) rfl (rx_dt dt_Cutter_addTokens 27 rfl) (pc := 51) ?_
        rintro _ _ ⟨rfl, rfl⟩
        show J_Cutter_addTokens l Z mc ms post k n [ob a_p1 7 [.ref a_p1_token, .int p1_size_2, .int p1_matches_2, .ref a_p1_literals, .ref a_p1_distances, .int p1_kind, .int p1_bits], ob a_p1_distances 1 [.ref a_p1_distances_count, .ref a_p1_distances_length], ia Z a_p1_distances_count 30 p1_distances_count2, ob a_p1_literals 1 [.ref a_p1_literals_count, .ref a_p1_literals_length], ia Z a_p1_literals_count 286 p1_literals_count2, ia Z a_p1_token 512 p1_token1, ob a_t 3 [.int t_effort, .ref a_t_bytes, .ref a_t_matches, .ref a_t_joiner, .ref a_t_row, .ref a_t_prices, .ref a_t_lengthTaken, .ref a_t_hand, .ref a_t_trial, .ref a_t_best, .ref a_t_taken, .int t_takenCount], ia Z a_t_bytes 512 t_bytes, ia Z a_t_lengthTaken 512 t_lengthTaken, ob a_t_matches 6 [.ref a_t_bytes, .ref a_t_matches_bucket, .ref a_t_matches_below, .ref a_t_matches_found, .int t_matches_steps], ia Z a_t_matches_found 512 t_matches_found] [(4, .int y1), (0, .ref a_t), (1, .ref a_p1), (3, .int x3), (5, .int v5_1)] 54 [.int r1, .int y1, .ref a_p1]
        obtain ⟨r2, hq, hm⟩ := bnd1_some hm
        refine rw_callS cw_DE_matchToken lk_Cutter_157 cs_DE_matchToken (c_DE_matchToken l Z F (x0 := y1) (x1 := r1) (r0 := r2) hq) [] [0, 1, 2, 3, 4, 5, 6, 7, 8, 9, 10] rfl rfl rfl rfl (by decide) rfl (by decide) (fun h => h) (rest := [.ref a_p1]) (wr := [ob a_p1 7 [.ref a_p1_token, .int p1_size_2, .int p1_matches_2, .ref a_p1_literals, .ref a_p1_distances, .int p1_kind, .int p1_bits], ob a_p1_distances 1 [.ref a_p1_distances_count, .ref a_p1_distances_length], ia Z a_p1_distances_count 30 p1_distances_count2, ob a_p1_literals 1 [.ref a_p1_literals_count, .ref a_p1_literals_length], ia Z a_p1_literals_count 286 p1_literals_count2, ia Z a_p1_token 512 p1_token1, ob a_t 3 [.int t_effort, .ref a_t_bytes, .ref a_t_matches, .ref a_t_joiner, .ref a_t_row, .ref a_t_prices, .ref a_t_lengthTaken, .ref a_t_hand, .ref a_t_trial, .ref a_t_best, .ref a_t_taken, .int t_takenCount], ia Z a_t_bytes 512 t_bytes, ia Z a_t_lengthTaken 512 t_lengthTaken, ob a_t_matches 6 [.ref a_t_bytes, .ref a_t_matches_bucket, .ref a_t_matches_below, .ref a_t_matches_found, .int t_matches_steps], ia Z a_t_matches_found 512 t_matches_found]) (Nat.le_of_ble_eq_true rfl) rfl (rx_dt dt_Cutter_addTokens 28 rfl) (pc := 54) ?_
        rintro _ _ ⟨rfl, rfl⟩
        show J_Cutter_addTokens l Z mc ms post k n [ob a_p1 7 [.ref a_p1_token, .int p1_size_2, .int p1_matches_2, .ref a_p1_literals, .ref a_p1_distances, .int p1_kind, .int p1_bits], ob a_p1_distances 1 [.ref a_p1_distances_count, .ref a_p1_distances_length], ia Z a_p1_distances_count 30 p1_distances_count2, ob a_p1_literals 1 [.ref a_p1_literals_count, .ref a_p1_literals_length], ia Z a_p1_literals_count 286 p1_literals_count2, ia Z a_p1_token 512 p1_token1, ob a_t 3 [.int t_effort, .ref a_t_bytes, .ref a_t_matches, .ref a_t_joiner, .ref a_t_row, .ref a_t_prices, .ref a_t_lengthTaken, .ref a_t_hand, .ref a_t_trial, .ref a_t_best, .ref a_t_taken, .int t_takenCount], ia Z a_t_bytes 512 t_bytes, ia Z a_t_lengthTaken 512 t_lengthTaken, ob a_t_matches 6 [.ref a_t_bytes, .ref a_t_matches_bucket, .ref a_t_matches_below, .ref a_t_matches_found, .int t_matches_steps], ia Z a_t_matches_found 512 t_matches_found] [(4, .int y1), (0, .ref a_t), (1, .ref a_p1), (3, .int x3), (5, .int v5_1)] 57 [.int r2, .ref a_p1]
        refine rw_perm (lv' := [(0, .ref a_t), (1, .ref a_p1), (3, .int x3), (4, .int y1), (5, .int v5_1)]) (ws' := [ob a_p1 7 [.ref a_p1_token, .int p1_size_2, .int p1_matches_2, .ref a_p1_literals, .ref a_p1_distances, .int p1_kind, .int p1_bits], ob a_p1_distances 1 [.ref a_p1_distances_count, .ref a_p1_distances_length], ia Z a_p1_distances_count 30 p1_distances_count2, ob a_p1_literals 1 [.ref a_p1_literals_count, .ref a_p1_literals_length], ia Z a_p1_literals_count 286 p1_literals_count2, ia Z a_p1_token 512 p1_token1, ob a_t 3 [.int t_effort, .ref a_t_bytes, .ref a_t_matches, .ref a_t_joiner, .ref a_t_row, .ref a_t_prices, .ref a_t_lengthTaken, .ref a_t_hand, .ref a_t_trial, .ref a_t_best, .ref a_t_taken, .int t_takenCount], ia Z a_t_bytes 512 t_bytes, ia Z a_t_lengthTaken 512 t_lengthTaken, ob a_t_matches 6 [.ref a_t_bytes, .ref a_t_matches_bucket, .ref a_t_matches_below, .ref a_t_matches_found, .int t_matches_steps], ia Z a_t_matches_found 512 t_matches_found]) [1, 2, 3, 0, 4] [0, 1, 2, 3, 4, 5, 6, 7, 8, 9, 10] rfl rfl rfl ?_
        cases hm
        exact KJ
set_option maxRecDepth 100000 in
set_option maxHeartbeats 4000000 in
theorem w_Cutter_addTokens (l : Launch) (Z : rx_D) (mc ms : Nat) (post : Option Value → va_W → Prop) (k n : Nat) (F : Nat) (a_p1 a_p1_distances a_p1_distances_count a_p1_distances_length a_p1_literals a_p1_literals_count a_p1_literals_length a_p1_token a_t a_t_best a_t_bytes a_t_hand a_t_joiner a_t_lengthTaken a_t_matches a_t_matches_below a_t_matches_bucket a_t_matches_found a_t_prices a_t_row a_t_taken a_t_trial : Nat) (p1_bits : Int32) (p1_distances_count : Nat → Int32) (p1_kind : Int32) (p1_literals_count : Nat → Int32) (p1_matches p1_size : Int32) (p1_token t_bytes : Nat → Int32) (t_effort : Int32) (t_lengthTaken t_matches_found : Nat → Int32) (t_matches_steps t_takenCount x2 x3 : Int32) (o_p1_size o_p1_matches : Int32) (o_p1_distances_count o_p1_literals_count o_p1_token : Nat → Int32) (hm : m_Cutter_addTokens F p1_distances_count p1_literals_count p1_token t_bytes t_lengthTaken t_matches_found x2 x3 = some (o_p1_size, o_p1_matches, o_p1_distances_count, o_p1_literals_count, o_p1_token)) (hp : post none [ob a_p1 7 [.ref a_p1_token, .int o_p1_size, .int o_p1_matches, .ref a_p1_literals, .ref a_p1_distances, .int p1_kind, .int p1_bits], ob a_p1_distances 1 [.ref a_p1_distances_count, .ref a_p1_distances_length], ia Z a_p1_distances_count 30 o_p1_distances_count, ob a_p1_literals 1 [.ref a_p1_literals_count, .ref a_p1_literals_length], ia Z a_p1_literals_count 286 o_p1_literals_count, ia Z a_p1_token 512 o_p1_token, ob a_t 3 [.int t_effort, .ref a_t_bytes, .ref a_t_matches, .ref a_t_joiner, .ref a_t_row, .ref a_t_prices, .ref a_t_lengthTaken, .ref a_t_hand, .ref a_t_trial, .ref a_t_best, .ref a_t_taken, .int t_takenCount], ia Z a_t_bytes 512 t_bytes, ia Z a_t_lengthTaken 512 t_lengthTaken, ob a_t_matches 6 [.ref a_t_bytes, .ref a_t_matches_bucket, .ref a_t_matches_below, .ref a_t_matches_found, .int t_matches_steps], ia Z a_t_matches_found 512 t_matches_found]) : J_Cutter_addTokens l Z mc ms post k n [ob a_p1 7 [.ref a_p1_token, .int p1_size, .int p1_matches, .ref a_p1_literals, .ref a_p1_distances, .int p1_kind, .int p1_bits], ob a_p1_distances 1 [.ref a_p1_distances_count, .ref a_p1_distances_length], ia Z a_p1_distances_count 30 p1_distances_count, ob a_p1_literals 1 [.ref a_p1_literals_count, .ref a_p1_literals_length], ia Z a_p1_literals_count 286 p1_literals_count, ia Z a_p1_token 512 p1_token, ob a_t 3 [.int t_effort, .ref a_t_bytes, .ref a_t_matches, .ref a_t_joiner, .ref a_t_row, .ref a_t_prices, .ref a_t_lengthTaken, .ref a_t_hand, .ref a_t_trial, .ref a_t_best, .ref a_t_taken, .int t_takenCount], ia Z a_t_bytes 512 t_bytes, ia Z a_t_lengthTaken 512 t_lengthTaken, ob a_t_matches 6 [.ref a_t_bytes, .ref a_t_matches_bucket, .ref a_t_matches_below, .ref a_t_matches_found, .int t_matches_steps], ia Z a_t_matches_found 512 t_matches_found] [(0, .ref a_t), (1, .ref a_p1), (2, .int x2), (3, .int x3)] 0 [] := by
  unfold m_Cutter_addTokens at hm
  refine rw_aload_n (pc := 0) 1 rfl rfl (rx_dt dt_Cutter_addTokens 0 rfl) ?_
  obtain ⟨p1_size_1, p1_matches_1, p1_distances_count1, p1_literals_count1, hq, hm⟩ := bnd4_some hm
  refine rw_callV cw_Plan_restart lk_Cutter_119 ci_Plan_restart rfl (q := 0) rfl (c_Plan_restart l Z F (a_t := a_p1) (a_t_distances := a_p1_distances) (a_t_distances_count := a_p1_distances_count) (a_t_distances_length := a_p1_distances_length) (a_t_literals := a_p1_literals) (a_t_literals_count := a_p1_literals_count) (a_t_literals_length := a_p1_literals_length) (a_t_token := a_p1_token) (t_bits := p1_bits) (t_distances_count := p1_distances_count) (t_kind := p1_kind) (t_literals_count := p1_literals_count) (t_matches := p1_matches) (t_size := p1_size) (o_t_size := p1_size_1) (o_t_matches := p1_matches_1) (o_t_distances_count := p1_distances_count1) (o_t_literals_count := p1_literals_count1) hq) [0, 1, 2, 3, 4] [5, 6, 7, 8, 9, 10] rfl rfl rfl rfl (by decide) rfl (by decide) (fun h => h) (rest := []) (wr := [ia Z a_p1_token 512 p1_token, ob a_t 3 [.int t_effort, .ref a_t_bytes, .ref a_t_matches, .ref a_t_joiner, .ref a_t_row, .ref a_t_prices, .ref a_t_lengthTaken, .ref a_t_hand, .ref a_t_trial, .ref a_t_best, .ref a_t_taken, .int t_takenCount], ia Z a_t_bytes 512 t_bytes, ia Z a_t_lengthTaken 512 t_lengthTaken, ob a_t_matches 6 [.ref a_t_bytes, .ref a_t_matches_bucket, .ref a_t_matches_below, .ref a_t_matches_found, .int t_matches_steps], ia Z a_t_matches_found 512 t_matches_found]) (Nat.le_of_ble_eq_true rfl) rfl (rx_dt dt_Cutter_addTokens 1 rfl) (pc := 1) ?_
  rintro _ _ ⟨rfl, rfl⟩
  show J_Cutter_addTokens l Z mc ms post k n [ia Z a_p1_token 512 p1_token, ob a_t 3 [.int t_effort, .ref a_t_bytes, .ref a_t_matches, .ref a_t_joiner, .ref a_t_row, .ref a_t_prices, .ref a_t_lengthTaken, .ref a_t_hand, .ref a_t_trial, .ref a_t_best, .ref a_t_taken, .int t_takenCount], ia Z a_t_bytes 512 t_bytes, ia Z a_t_lengthTaken 512 t_lengthTaken, ob a_t_matches 6 [.ref a_t_bytes, .ref a_t_matches_bucket, .ref a_t_matches_below, .ref a_t_matches_found, .int t_matches_steps], ia Z a_t_matches_found 512 t_matches_found, ob a_p1 7 [.ref a_p1_token, .int p1_size_1, .int p1_matches_1, .ref a_p1_literals, .ref a_p1_distances, .int p1_kind, .int p1_bits], ob a_p1_distances 1 [.ref a_p1_distances_count, .ref a_p1_distances_length], ia Z a_p1_distances_count 30 p1_distances_count1, ob a_p1_literals 1 [.ref a_p1_literals_count, .ref a_p1_literals_length], ia Z a_p1_literals_count 286 p1_literals_count1] [(0, .ref a_t), (1, .ref a_p1), (2, .int x2), (3, .int x3)] 4 []
  refine rw_iload_n (pc := 4) 2 rfl rfl (rx_dt dt_Cutter_addTokens 2 rfl) ?_
  refine rw_istore (pc := 5) (lv' := [(5, .int x2), (0, .ref a_t), (1, .ref a_p1), (2, .int x2), (3, .int x3)]) (by decide) rfl (rx_dt dt_Cutter_addTokens 3 rfl) ?_
  obtain ⟨v5_3, p1_size_5, p1_matches_5, p1_distances_count5, p1_literals_count5, p1_token4, hl, hm⟩ := bnd6_some hm
  refine rw_perm (lv' := [(0, .ref a_t), (1, .ref a_p1), (3, .int x3), (5, .int x2)]) (ws' := [ob a_p1 7 [.ref a_p1_token, .int p1_size_1, .int p1_matches_1, .ref a_p1_literals, .ref a_p1_distances, .int p1_kind, .int p1_bits], ob a_p1_distances 1 [.ref a_p1_distances_count, .ref a_p1_distances_length], ia Z a_p1_distances_count 30 p1_distances_count1, ob a_p1_literals 1 [.ref a_p1_literals_count, .ref a_p1_literals_length], ia Z a_p1_literals_count 286 p1_literals_count1, ia Z a_p1_token 512 p1_token, ob a_t 3 [.int t_effort, .ref a_t_bytes, .ref a_t_matches, .ref a_t_joiner, .ref a_t_row, .ref a_t_prices, .ref a_t_lengthTaken, .ref a_t_hand, .ref a_t_trial, .ref a_t_best, .ref a_t_taken, .int t_takenCount], ia Z a_t_bytes 512 t_bytes, ia Z a_t_lengthTaken 512 t_lengthTaken, ob a_t_matches 6 [.ref a_t_bytes, .ref a_t_matches_bucket, .ref a_t_matches_below, .ref a_t_matches_found, .int t_matches_steps], ia Z a_t_matches_found 512 t_matches_found]) [1, 2, 4, 0] [6, 7, 8, 9, 10, 0, 1, 2, 3, 4, 5] rfl rfl rfl ?_
  refine wl_Cutter_addTokens_7 l Z mc ms post k n F a_p1 a_p1_distances a_p1_distances_count a_p1_distances_length a_p1_literals a_p1_literals_count a_p1_literals_length a_p1_token a_t a_t_best a_t_bytes a_t_hand a_t_joiner a_t_lengthTaken a_t_matches a_t_matches_below a_t_matches_bucket a_t_matches_found a_t_prices a_t_row a_t_taken a_t_trial p1_bits p1_kind t_bytes t_effort t_lengthTaken t_matches_found t_matches_steps t_takenCount x3 F  x2 p1_size_1 p1_matches_1 p1_distances_count1 p1_literals_count1 p1_token v5_3 p1_size_5 p1_matches_5 p1_distances_count5 p1_literals_count5 p1_token4 hl ?_
  cases hm
  exact rw_vret (pc := 70) (rx_dt dt_Cutter_addTokens 35 rfl) hp
theorem c_Cutter_addTokens (l : Launch) (Z : rx_D) (F : Nat) (a_p1 a_p1_distances a_p1_distances_count a_p1_distances_length a_p1_literals a_p1_literals_count a_p1_literals_length a_p1_token a_t a_t_best a_t_bytes a_t_hand a_t_joiner a_t_lengthTaken a_t_matches a_t_matches_below a_t_matches_bucket a_t_matches_found a_t_prices a_t_row a_t_taken a_t_trial : Nat) (p1_bits : Int32) (p1_distances_count : Nat → Int32) (p1_kind : Int32) (p1_literals_count : Nat → Int32) (p1_matches p1_size : Int32) (p1_token t_bytes : Nat → Int32) (t_effort : Int32) (t_lengthTaken t_matches_found : Nat → Int32) (t_matches_steps t_takenCount x2 x3 : Int32) (o_p1_size o_p1_matches : Int32) (o_p1_distances_count o_p1_literals_count o_p1_token : Nat → Int32) (hm : m_Cutter_addTokens F p1_distances_count p1_literals_count p1_token t_bytes t_lengthTaken t_matches_found x2 x3 = some (o_p1_size, o_p1_matches, o_p1_distances_count, o_p1_literals_count, o_p1_token)) : Cn l Z y_Cutter_addTokens b_Cutter_addTokens 6 none 2 [.ref a_t, .ref a_p1, .int x2, .int x3] [ob a_p1 7 [.ref a_p1_token, .int p1_size, .int p1_matches, .ref a_p1_literals, .ref a_p1_distances, .int p1_kind, .int p1_bits], ob a_p1_distances 1 [.ref a_p1_distances_count, .ref a_p1_distances_length], ia Z a_p1_distances_count 30 p1_distances_count, ob a_p1_literals 1 [.ref a_p1_literals_count, .ref a_p1_literals_length], ia Z a_p1_literals_count 286 p1_literals_count, ia Z a_p1_token 512 p1_token, ob a_t 3 [.int t_effort, .ref a_t_bytes, .ref a_t_matches, .ref a_t_joiner, .ref a_t_row, .ref a_t_prices, .ref a_t_lengthTaken, .ref a_t_hand, .ref a_t_trial, .ref a_t_best, .ref a_t_taken, .int t_takenCount], ia Z a_t_bytes 512 t_bytes, ia Z a_t_lengthTaken 512 t_lengthTaken, ob a_t_matches 6 [.ref a_t_bytes, .ref a_t_matches_bucket, .ref a_t_matches_below, .ref a_t_matches_found, .int t_matches_steps], ia Z a_t_matches_found 512 t_matches_found] 0 0 (fun r w => r = none ∧ w = [ob a_p1 7 [.ref a_p1_token, .int o_p1_size, .int o_p1_matches, .ref a_p1_literals, .ref a_p1_distances, .int p1_kind, .int p1_bits], ob a_p1_distances 1 [.ref a_p1_distances_count, .ref a_p1_distances_length], ia Z a_p1_distances_count 30 o_p1_distances_count, ob a_p1_literals 1 [.ref a_p1_literals_count, .ref a_p1_literals_length], ia Z a_p1_literals_count 286 o_p1_literals_count, ia Z a_p1_token 512 o_p1_token, ob a_t 3 [.int t_effort, .ref a_t_bytes, .ref a_t_matches, .ref a_t_joiner, .ref a_t_row, .ref a_t_prices, .ref a_t_lengthTaken, .ref a_t_hand, .ref a_t_trial, .ref a_t_best, .ref a_t_taken, .int t_takenCount], ia Z a_t_bytes 512 t_bytes, ia Z a_t_lengthTaken 512 t_lengthTaken, ob a_t_matches 6 [.ref a_t_bytes, .ref a_t_matches_bucket, .ref a_t_matches_below, .ref a_t_matches_found, .int t_matches_steps], ia Z a_t_matches_found 512 t_matches_found]) :=
  rx_met "DeflateEffort$Cutter" "addTokens" mf_Cutter_addTokens (Nat.le_of_ble_eq_true rfl) rfl (by rintro _ _ ⟨h9, _⟩; cases h9) (w_Cutter_addTokens l Z 0 0 _ 0 0 F a_p1 a_p1_distances a_p1_distances_count a_p1_distances_length a_p1_literals a_p1_literals_count a_p1_literals_length a_p1_token a_t a_t_best a_t_bytes a_t_hand a_t_joiner a_t_lengthTaken a_t_matches a_t_matches_below a_t_matches_bucket a_t_matches_found a_t_prices a_t_row a_t_taken a_t_trial p1_bits p1_distances_count p1_kind p1_literals_count p1_matches p1_size p1_token t_bytes t_effort t_lengthTaken t_matches_found t_matches_steps t_takenCount x2 x3 o_p1_size o_p1_matches o_p1_distances_count o_p1_literals_count o_p1_token hm ⟨rfl, rfl⟩)
abbrev J_Joiner_sort (l : Launch) (Z : rx_D) (mc ms : Nat) (post : Option Value → va_W → Prop) := Rw l Z "DeflateEffort$Joiner" "sort" b_Joiner_sort 5 (some .int) 0 mc ms post
set_option maxRecDepth 100000 in
set_option maxHeartbeats 4000000 in
theorem wl_Joiner_sort_28 (l : Launch) (Z : rx_D) (mc ms : Nat) (post : Option Value → va_W → Prop) (k n : Nat) (F : Nat) (a_p1 a_t a_t_above a_t_order a_t_weight n_p1 : Nat) (p1 : Nat → Int32) (v2_1 v3_1 : Int32) : ∀ (f : Nat)  (v4_1 : Int32) (t_order4 : Nat → Int32) (v4_2 : Int32) (t_order5 : Nat → Int32), L_Joiner_sort_28 F n_p1 p1 v3_1 f v4_1 t_order4 = some (v4_2, t_order5) → (J_Joiner_sort l Z mc ms post k n [ia Z a_p1 n_p1 p1, ob a_t 4 [.ref a_t_order, .ref a_t_weight, .ref a_t_above], ia Z a_t_order 286 t_order5] [(0, .ref a_t), (1, .ref a_p1), (2, .int v2_1), (3, .int v3_1), (4, .int v4_2)] 72 []) → J_Joiner_sort l Z mc ms post k n [ia Z a_p1 n_p1 p1, ob a_t 4 [.ref a_t_order, .ref a_t_weight, .ref a_t_above], ia Z a_t_order 286 t_order4] [(0, .ref a_t), (1, .ref a_p1), (2, .int v2_1), (3, .int v3_1), (4, .int v4_1)] 28 [] := by
  intro f
  induction f with
  | zero =>
    intro v4_1 t_order4 v4_2 t_order5 hm K
    cases hm
  | succ f ih =>
    intro v4_1 t_order4 v4_2 t_order5 hm K
    have hm : B_Joiner_sort_28 F n_p1 p1 v3_1 (L_Joiner_sort_28 F n_p1 p1 v3_1 f) v4_1 t_order4 = some (v4_2, t_order5) := hm
    unfold B_Joiner_sort_28 at hm
    refine rw_iload (pc := 28) 4 rfl (rx_dt dt_Joiner_sort 19 rfl) ?_
    rcases ite_some hm with ⟨hc, hm⟩ | ⟨hc, hm⟩
    · refine rw_if_le_t (pc := 30) (tgt := 72) hc (by decide) (rx_dt dt_Joiner_sort 20 rfl) ?_
      cases hm
      exact K
    · refine rw_if_le_f (pc := 30) (tgt := 72) hc (by decide) (rx_dt dt_Joiner_sort 20 rfl) ?_
      refine rw_aload_n (pc := 33) 1 rfl rfl (rx_dt dt_Joiner_sort 21 rfl) ?_
      refine rw_aload_n (pc := 34) 0 rfl rfl (rx_dt dt_Joiner_sort 22 rfl) ?_
      refine rw_get fa_Joiner_9 (pc := 35) 1 rfl rfl (rx_dt dt_Joiner_sort 23 rfl) ?_
      refine rw_iload (pc := 38) 4 rfl (rx_dt dt_Joiner_sort 24 rfl) ?_
      refine rw_iconst (pc := 40) (v := 1) rfl (rx_dt dt_Joiner_sort 25 rfl) ?_
      refine rw_isub (pc := 41) (rx_dt dt_Joiner_sort 26 rfl) ?_
      obtain ⟨hk2, hm⟩ := chk_some hm
      refine rw_iald (pc := 42) 2 rfl hk2 (rx_dt dt_Joiner_sort 27 rfl) ?_
      obtain ⟨hk3, hm⟩ := chk_some hm
      refine rw_iald (pc := 43) 0 rfl hk3 (rx_dt dt_Joiner_sort 28 rfl) ?_
      refine rw_aload_n (pc := 44) 1 rfl rfl (rx_dt dt_Joiner_sort 29 rfl) ?_
      refine rw_iload_n (pc := 45) 3 rfl rfl (rx_dt dt_Joiner_sort 30 rfl) ?_
      obtain ⟨hk4, hm⟩ := chk_some hm
      refine rw_iald (pc := 46) 0 rfl hk4 (rx_dt dt_Joiner_sort 31 rfl) ?_
      rcases ite_some hm with ⟨hc, hm⟩ | ⟨hc, hm⟩
      · refine rw_icmp_le_t (pc := 47) (tgt := 72) hc (by decide) (rx_dt dt_Joiner_sort 32 rfl) ?_
        cases hm
        exact K
      · refine rw_icmp_le_f (pc := 47) (tgt := 72) hc (by decide) (rx_dt dt_Joiner_sort 32 rfl) ?_
        refine rw_aload_n (pc := 50) 0 rfl rfl (rx_dt dt_Joiner_sort 33 rfl) ?_
        refine rw_get fa_Joiner_9 (pc := 51) 1 rfl rfl (rx_dt dt_Joiner_sort 34 rfl) ?_
        refine rw_iload (pc := 54) 4 rfl (rx_dt dt_Joiner_sort 35 rfl) ?_
        refine rw_aload_n (pc := 56) 0 rfl rfl (rx_dt dt_Joiner_sort 36 rfl) ?_
        refine rw_get fa_Joiner_9 (pc := 57) 1 rfl rfl (rx_dt dt_Joiner_sort 37 rfl) ?_
        refine rw_iload (pc := 60) 4 rfl (rx_dt dt_Joiner_sort 38 rfl) ?_
        refine rw_iconst (pc := 62) (v := 1) rfl (rx_dt dt_Joiner_sort 39 rfl) ?_
        refine rw_isub (pc := 63) (rx_dt dt_Joiner_sort 40 rfl) ?_
        obtain ⟨hk5, hm⟩ := chk_some hm
        refine rw_iald (pc := 64) 2 rfl hk5 (rx_dt dt_Joiner_sort 41 rfl) ?_
        obtain ⟨hk6, hm⟩ := chk_some hm
        obtain ⟨t_order6, ht_order6, hm⟩ := nm_some hm
        refine rw_iast (pc := 65) (ws' := [ia Z a_p1 n_p1 p1, ob a_t 4 [.ref a_t_order, .ref a_t_weight, .ref a_t_above], ia Z a_t_order 286 t_order6]) 2 rfl hk6 (by rw [← ht_order6]; rfl) (rx_dt dt_Joiner_sort 42 rfl) ?_
        obtain ⟨y1, hy1, hm⟩ := nm_some hm
        refine rw_iinc (pc := 66) (lv' := [(4, .int y1), (0, .ref a_t), (1, .ref a_p1), (2, .int v2_1), (3, .int v3_1)]) 4 rfl hy1 (by decide) rfl (rx_dt dt_Joiner_sort 43 rfl) ?_
        refine rw_goto (pc := 69) (tgt := 28) (by decide) (rx_dt dt_Joiner_sort 44 rfl) ?_
        refine rw_perm (lv' := [(0, .ref a_t), (1, .ref a_p1), (2, .int v2_1), (3, .int v3_1), (4, .int y1)]) (ws' := [ia Z a_p1 n_p1 p1, ob a_t 4 [.ref a_t_order, .ref a_t_weight, .ref a_t_above], ia Z a_t_order 286 t_order6]) [1, 2, 3, 4, 0] [0, 1, 2] rfl rfl rfl ?_
        exact ih  _ _ _ _ hm K
set_option maxRecDepth 100000 in
set_option maxHeartbeats 4000000 in
theorem wl_Joiner_sort_4 (l : Launch) (Z : rx_D) (mc ms : Nat) (post : Option Value → va_W → Prop) (k n : Nat) (F : Nat) (a_p1 a_t a_t_above a_t_order a_t_weight n_p1 : Nat) (p1 : Nat → Int32) : ∀ (f : Nat)  (v2_1 v3_1 : Int32) (t_order1 : Nat → Int32) (v2_2 v3_2 : Int32) (t_order2 : Nat → Int32), L_Joiner_sort_4 F n_p1 p1 f v2_1 v3_1 t_order1 = some (v2_2, v3_2, t_order2) → (J_Joiner_sort l Z mc ms post k n [ia Z a_p1 n_p1 p1, ob a_t 4 [.ref a_t_order, .ref a_t_weight, .ref a_t_above], ia Z a_t_order 286 t_order2] [(2, .int v2_2)] 89 []) → J_Joiner_sort l Z mc ms post k n [ia Z a_p1 n_p1 p1, ob a_t 4 [.ref a_t_order, .ref a_t_weight, .ref a_t_above], ia Z a_t_order 286 t_order1] [(0, .ref a_t), (1, .ref a_p1), (2, .int v2_1), (3, .int v3_1)] 4 [] := by
  intro f
  induction f with
  | zero =>
    intro v2_1 v3_1 t_order1 v2_2 v3_2 t_order2 hm K
    cases hm
  | succ f ih =>
    intro v2_1 v3_1 t_order1 v2_2 v3_2 t_order2 hm K
    have hm : B_Joiner_sort_4 F n_p1 p1 (L_Joiner_sort_4 F n_p1 p1 f) v2_1 v3_1 t_order1 = some (v2_2, v3_2, t_order2) := hm
    unfold B_Joiner_sort_4 at hm
    refine rw_iload_n (pc := 4) 3 rfl rfl (rx_dt dt_Joiner_sort 4 rfl) ?_
    refine rw_aload_n (pc := 5) 1 rfl rfl (rx_dt dt_Joiner_sort 5 rfl) ?_
    refine rw_alen (pc := 6) 0 rfl (rx_dt dt_Joiner_sort 6 rfl) ?_
    rcases ite_some hm with ⟨hc, hm⟩ | ⟨hc, hm⟩
    · refine rw_icmp_ge_t (pc := 7) (tgt := 89) hc (by decide) (rx_dt dt_Joiner_sort 7 rfl) ?_
      refine rw_perm (lv' := [(2, .int v2_1)]) (ws' := [ia Z a_p1 n_p1 p1, ob a_t 4 [.ref a_t_order, .ref a_t_weight, .ref a_t_above], ia Z a_t_order 286 t_order1]) [2] [0, 1, 2] rfl rfl rfl ?_
      cases hm
      exact K
    · refine rw_icmp_ge_f (pc := 7) (tgt := 89) hc (by decide) (rx_dt dt_Joiner_sort 7 rfl) ?_
      refine rw_iload_n (pc := 10) 2 rfl rfl (rx_dt dt_Joiner_sort 8 rfl) ?_
      refine rw_aload_n (pc := 11) 0 rfl rfl (rx_dt dt_Joiner_sort 9 rfl) ?_
      refine rw_get fa_Joiner_9 (pc := 12) 1 rfl rfl (rx_dt dt_Joiner_sort 10 rfl) ?_
      refine rw_alen (pc := 15) 2 rfl (rx_dt dt_Joiner_sort 11 rfl) ?_
      rcases ite_some hm with ⟨hc, hm⟩ | ⟨hc, hm⟩
      · refine rw_icmp_ge_t (pc := 16) (tgt := 89) hc (by decide) (rx_dt dt_Joiner_sort 12 rfl) ?_
        refine rw_perm (lv' := [(2, .int v2_1)]) (ws' := [ia Z a_p1 n_p1 p1, ob a_t 4 [.ref a_t_order, .ref a_t_weight, .ref a_t_above], ia Z a_t_order 286 t_order1]) [2] [0, 1, 2] rfl rfl rfl ?_
        cases hm
        exact K
      · refine rw_icmp_ge_f (pc := 16) (tgt := 89) hc (by decide) (rx_dt dt_Joiner_sort 12 rfl) ?_
        refine rw_aload_n (pc := 19) 1 rfl rfl (rx_dt dt_Joiner_sort 13 rfl) ?_
        refine rw_iload_n (pc := 20) 3 rfl rfl (rx_dt dt_Joiner_sort 14 rfl) ?_
        obtain ⟨hk1, hm⟩ := chk_some hm
        refine rw_iald (pc := 21) 0 rfl hk1 (rx_dt dt_Joiner_sort 15 rfl) ?_
        obtain ⟨z1, t_order3, hj, hm⟩ := bnd2_some hm
        have KJ : J_Joiner_sort l Z mc ms post k n [ia Z a_p1 n_p1 p1, ob a_t 4 [.ref a_t_order, .ref a_t_weight, .ref a_t_above], ia Z a_t_order 286 t_order3] [(0, .ref a_t), (1, .ref a_p1), (2, .int z1), (3, .int v3_1)] 83 [] := by
          obtain ⟨y3, hy3, hm⟩ := nm_some hm
          refine rw_iinc (pc := 83) (lv' := [(3, .int y3), (0, .ref a_t), (1, .ref a_p1), (2, .int z1)]) 3 rfl hy3 (by decide) rfl (rx_dt dt_Joiner_sort 51 rfl) ?_
          refine rw_goto (pc := 86) (tgt := 4) (by decide) (rx_dt dt_Joiner_sort 52 rfl) ?_
          refine rw_perm (lv' := [(0, .ref a_t), (1, .ref a_p1), (2, .int z1), (3, .int y3)]) (ws' := [ia Z a_p1 n_p1 p1, ob a_t 4 [.ref a_t_order, .ref a_t_weight, .ref a_t_above], ia Z a_t_order 286 t_order3]) [1, 2, 3, 0] [0, 1, 2] rfl rfl rfl ?_
          exact ih  _ _ _ _ _ _ hm K
        clear hm
        have hm := hj
        clear hj
        rcases ite_some hm with ⟨hc, hm⟩ | ⟨hc, hm⟩
        · refine rw_if_le_t (pc := 22) (tgt := 83) hc (by decide) (rx_dt dt_Joiner_sort 16 rfl) ?_
          cases hm
          exact KJ
        · refine rw_if_le_f (pc := 22) (tgt := 83) hc (by decide) (rx_dt dt_Joiner_sort 16 rfl) ?_
          refine rw_iload_n (pc := 25) 2 rfl rfl (rx_dt dt_Joiner_sort 17 rfl) ?_
          refine rw_istore (pc := 26) (lv' := [(4, .int v2_1), (0, .ref a_t), (1, .ref a_p1), (2, .int v2_1), (3, .int v3_1)]) (by decide) rfl (rx_dt dt_Joiner_sort 18 rfl) ?_
          obtain ⟨v4_3, t_order7, hl, hm⟩ := bnd2_some hm
          refine rw_perm (lv' := [(0, .ref a_t), (1, .ref a_p1), (2, .int v2_1), (3, .int v3_1), (4, .int v2_1)]) (ws' := [ia Z a_p1 n_p1 p1, ob a_t 4 [.ref a_t_order, .ref a_t_weight, .ref a_t_above], ia Z a_t_order 286 t_order1]) [1, 2, 3, 4, 0] [0, 1, 2] rfl rfl rfl ?_
          refine wl_Joiner_sort_28 l Z mc ms post k n F a_p1 a_t a_t_above a_t_order a_t_weight n_p1 p1 v2_1 v3_1 F  v2_1 t_order1 v4_3 t_order7 hl ?_
          refine rw_aload_n (pc := 72) 0 rfl rfl (rx_dt dt_Joiner_sort 45 rfl) ?_
          refine rw_get fa_Joiner_9 (pc := 73) 1 rfl rfl (rx_dt dt_Joiner_sort 46 rfl) ?_
          refine rw_iload (pc := 76) 4 rfl (rx_dt dt_Joiner_sort 47 rfl) ?_
          refine rw_iload_n (pc := 78) 3 rfl rfl (rx_dt dt_Joiner_sort 48 rfl) ?_
          obtain ⟨hk7, hm⟩ := chk_some hm
          obtain ⟨t_order8, ht_order8, hm⟩ := nm_some hm
          refine rw_iast (pc := 79) (ws' := [ia Z a_p1 n_p1 p1, ob a_t 4 [.ref a_t_order, .ref a_t_weight, .ref a_t_above], ia Z a_t_order 286 t_order8]) 2 rfl hk7 (by rw [← ht_order8]; rfl) (rx_dt dt_Joiner_sort 49 rfl) ?_
          obtain ⟨y2, hy2, hm⟩ := nm_some hm
          refine rw_iinc (pc := 80) (lv' := [(2, .int y2), (0, .ref a_t), (1, .ref a_p1), (3, .int v3_1), (4, .int v4_3)]) 2 rfl hy2 (by decide) rfl (rx_dt dt_Joiner_sort 50 rfl) ?_
          refine rw_perm (lv' := [(0, .ref a_t), (1, .ref a_p1), (2, .int y2), (3, .int v3_1)]) (ws' := [ia Z a_p1 n_p1 p1, ob a_t 4 [.ref a_t_order, .ref a_t_weight, .ref a_t_above], ia Z a_t_order 286 t_order8]) [1, 2, 0, 3] [0, 1, 2] rfl rfl rfl ?_
          cases hm
          exact KJ
set_option maxRecDepth 100000 in
set_option maxHeartbeats 4000000 in
theorem w_Joiner_sort (l : Launch) (Z : rx_D) (mc ms : Nat) (post : Option Value → va_W → Prop) (k n : Nat) (F : Nat) (a_p1 a_t a_t_above a_t_order a_t_weight n_p1 : Nat) (p1 t_order : Nat → Int32) (r0 : Int32) (o_t_order : Nat → Int32) (hm : m_Joiner_sort F n_p1 p1 t_order = some (r0, o_t_order)) (hp : post (some (.int r0)) [ia Z a_p1 n_p1 p1, ob a_t 4 [.ref a_t_order, .ref a_t_weight, .ref a_t_above], ia Z a_t_order 286 o_t_order]) : J_Joiner_sort l Z mc ms post k n [ia Z a_p1 n_p1 p1, ob a_t 4 [.ref a_t_order, .ref a_t_weight, .ref a_t_above], ia Z a_t_order 286 t_order] [(0, .ref a_t), (1, .ref a_p1)] 0 [] := by
  unfold m_Joiner_sort at hm
  refine rw_iconst (pc := 0) (v := 0) rfl (rx_dt dt_Joiner_sort 0 rfl) ?_
  refine rw_istore_n (pc := 1) (lv' := [(2, .int (0 : Int32)), (0, .ref a_t), (1, .ref a_p1)]) rfl (by decide) rfl (rx_dt dt_Joiner_sort 1 rfl) ?_
  refine rw_iconst (pc := 2) (v := 0) rfl (rx_dt dt_Joiner_sort 2 rfl) ?_
  refine rw_istore_n (pc := 3) (lv' := [(3, .int (0 : Int32)), (2, .int (0 : Int32)), (0, .ref a_t), (1, .ref a_p1)]) rfl (by decide) rfl (rx_dt dt_Joiner_sort 3 rfl) ?_
  obtain ⟨v2_3, v3_3, t_order9, hl, hm⟩ := bnd3_some hm
  refine rw_perm (lv' := [(0, .ref a_t), (1, .ref a_p1), (2, .int (0 : Int32)), (3, .int (0 : Int32))]) (ws' := [ia Z a_p1 n_p1 p1, ob a_t 4 [.ref a_t_order, .ref a_t_weight, .ref a_t_above], ia Z a_t_order 286 t_order]) [2, 3, 1, 0] [0, 1, 2] rfl rfl rfl ?_
  refine wl_Joiner_sort_4 l Z mc ms post k n F a_p1 a_t a_t_above a_t_order a_t_weight n_p1 p1 F  (0 : Int32) (0 : Int32) t_order v2_3 v3_3 t_order9 hl ?_
  refine rw_iload_n (pc := 89) 0 rfl rfl (rx_dt dt_Joiner_sort 53 rfl) ?_
  refine rw_perm (lv' := []) (ws' := [ia Z a_p1 n_p1 p1, ob a_t 4 [.ref a_t_order, .ref a_t_weight, .ref a_t_above], ia Z a_t_order 286 t_order9]) [] [0, 1, 2] rfl rfl rfl ?_
  cases hm
  exact rw_iret (pc := 90) (rx_dt dt_Joiner_sort 54 rfl) hp
theorem c_Joiner_sort (l : Launch) (Z : rx_D) (F : Nat) (a_p1 a_t a_t_above a_t_order a_t_weight n_p1 : Nat) (p1 t_order : Nat → Int32) (r0 : Int32) (o_t_order : Nat → Int32) (hm : m_Joiner_sort F n_p1 p1 t_order = some (r0, o_t_order)) : Cn l Z y_Joiner_sort b_Joiner_sort 5 (some .int) 0 [.ref a_t, .ref a_p1] [ia Z a_p1 n_p1 p1, ob a_t 4 [.ref a_t_order, .ref a_t_weight, .ref a_t_above], ia Z a_t_order 286 t_order] 0 0 (fun r w => r = (some (.int r0)) ∧ w = [ia Z a_p1 n_p1 p1, ob a_t 4 [.ref a_t_order, .ref a_t_weight, .ref a_t_above], ia Z a_t_order 286 o_t_order]) :=
  rx_met "DeflateEffort$Joiner" "sort" mf_Joiner_sort (Nat.le_of_ble_eq_true rfl) rfl (by rintro _ _ ⟨h9, _⟩; cases h9) (w_Joiner_sort l Z 0 0 _ 0 0 F a_p1 a_t a_t_above a_t_order a_t_weight n_p1 p1 t_order r0 o_t_order hm ⟨rfl, rfl⟩)
abbrev J_Joiner_joinInOrder (l : Launch) (Z : rx_D) (mc ms : Nat) (post : Option Value → va_W → Prop) := Rw l Z "DeflateEffort$Joiner" "joinInOrder" b_Joiner_joinInOrder 8 none 0 mc ms post
set_option maxRecDepth 100000 in
set_option maxHeartbeats 4000000 in
theorem wl_Joiner_joinInOrder_2 (l : Launch) (Z : rx_D) (mc ms : Nat) (post : Option Value → va_W → Prop) (k n : Nat) (F : Nat) (a_p1 a_t a_t_above a_t_order a_t_weight n_p1 : Nat) (p1 t_above t_order : Nat → Int32) (x2 : Int32) : ∀ (f : Nat)  (v3_1 : Int32) (t_weight1 : Nat → Int32) (v3_2 : Int32) (t_weight2 : Nat → Int32), L_Joiner_joinInOrder_2 F n_p1 p1 t_order x2 f v3_1 t_weight1 = some (v3_2, t_weight2) → (J_Joiner_joinInOrder l Z mc ms post k n [ia Z a_p1 n_p1 p1, ob a_t 4 [.ref a_t_order, .ref a_t_weight, .ref a_t_above], ia Z a_t_above 572 t_above, ia Z a_t_order 286 t_order, ia Z a_t_weight 572 t_weight2] [(0, .ref a_t), (2, .int x2)] 27 []) → J_Joiner_joinInOrder l Z mc ms post k n [ia Z a_p1 n_p1 p1, ob a_t 4 [.ref a_t_order, .ref a_t_weight, .ref a_t_above], ia Z a_t_above 572 t_above, ia Z a_t_order 286 t_order, ia Z a_t_weight 572 t_weight1] [(0, .ref a_t), (1, .ref a_p1), (2, .int x2), (3, .int v3_1)] 2 [] := by
  intro f
  induction f with
  | zero =>
    intro v3_1 t_weight1 v3_2 t_weight2 hm K
    cases hm
  | succ f ih =>
    intro v3_1 t_weight1 v3_2 t_weight2 hm K
    have hm : B_Joiner_joinInOrder_2 F n_p1 p1 t_order x2 (L_Joiner_joinInOrder_2 F n_p1 p1 t_order x2 f) v3_1 t_weight1 = some (v3_2, t_weight2) := hm
    unfold B_Joiner_joinInOrder_2 at hm
    refine rw_iload_n (pc := 2) 3 rfl rfl (rx_dt dt_Joiner_joinInOrder 2 rfl) ?_
    refine rw_iload_n (pc := 3) 2 rfl rfl (rx_dt dt_Joiner_joinInOrder 3 rfl) ?_
    rcases ite_some hm with ⟨hc, hm⟩ | ⟨hc, hm⟩
    · refine rw_icmp_ge_t (pc := 4) (tgt := 27) hc (by decide) (rx_dt dt_Joiner_joinInOrder 4 rfl) ?_
      refine rw_perm (lv' := [(0, .ref a_t), (2, .int x2)]) (ws' := [ia Z a_p1 n_p1 p1, ob a_t 4 [.ref a_t_order, .ref a_t_weight, .ref a_t_above], ia Z a_t_above 572 t_above, ia Z a_t_order 286 t_order, ia Z a_t_weight 572 t_weight1]) [0, 2] [0, 1, 2, 3, 4] rfl rfl rfl ?_
      cases hm
      exact K
    · refine rw_icmp_ge_f (pc := 4) (tgt := 27) hc (by decide) (rx_dt dt_Joiner_joinInOrder 4 rfl) ?_
      refine rw_aload_n (pc := 7) 0 rfl rfl (rx_dt dt_Joiner_joinInOrder 5 rfl) ?_
      refine rw_get fa_Joiner_15 (pc := 8) 1 rfl rfl (rx_dt dt_Joiner_joinInOrder 6 rfl) ?_
      refine rw_iload_n (pc := 11) 3 rfl rfl (rx_dt dt_Joiner_joinInOrder 7 rfl) ?_
      refine rw_aload_n (pc := 12) 1 rfl rfl (rx_dt dt_Joiner_joinInOrder 8 rfl) ?_
      refine rw_aload_n (pc := 13) 0 rfl rfl (rx_dt dt_Joiner_joinInOrder 9 rfl) ?_
      refine rw_get fa_Joiner_9 (pc := 14) 1 rfl rfl (rx_dt dt_Joiner_joinInOrder 10 rfl) ?_
      refine rw_iload_n (pc := 17) 3 rfl rfl (rx_dt dt_Joiner_joinInOrder 11 rfl) ?_
      obtain ⟨hk1, hm⟩ := chk_some hm
      refine rw_iald (pc := 18) 3 rfl hk1 (rx_dt dt_Joiner_joinInOrder 12 rfl) ?_
      obtain ⟨hk2, hm⟩ := chk_some hm
      refine rw_iald (pc := 19) 0 rfl hk2 (rx_dt dt_Joiner_joinInOrder 13 rfl) ?_
      obtain ⟨hk3, hm⟩ := chk_some hm
      obtain ⟨t_weight3, ht_weight3, hm⟩ := nm_some hm
      refine rw_iast (pc := 20) (ws' := [ia Z a_p1 n_p1 p1, ob a_t 4 [.ref a_t_order, .ref a_t_weight, .ref a_t_above], ia Z a_t_above 572 t_above, ia Z a_t_order 286 t_order, ia Z a_t_weight 572 t_weight3]) 4 rfl hk3 (by rw [← ht_weight3]; rfl) (rx_dt dt_Joiner_joinInOrder 14 rfl) ?_
      obtain ⟨y1, hy1, hm⟩ := nm_some hm
      refine rw_iinc (pc := 21) (lv' := [(3, .int y1), (0, .ref a_t), (1, .ref a_p1), (2, .int x2)]) 3 rfl hy1 (by decide) rfl (rx_dt dt_Joiner_joinInOrder 15 rfl) ?_
      refine rw_goto (pc := 24) (tgt := 2) (by decide) (rx_dt dt_Joiner_joinInOrder 16 rfl) ?_
      refine rw_perm (lv' := [(0, .ref a_t), (1, .ref a_p1), (2, .int x2), (3, .int y1)]) (ws' := [ia Z a_p1 n_p1 p1, ob a_t 4 [.ref a_t_order, .ref a_t_weight, .ref a_t_above], ia Z a_t_above 572 t_above, ia Z a_t_order 286 t_order, ia Z a_t_weight 572 t_weight3]) [1, 2, 3, 0] [0, 1, 2, 3, 4] rfl rfl rfl ?_
      exact ih  _ _ _ _ hm K
set_option maxRecDepth 100000 in
set_option maxHeartbeats 4000000 in
theorem wl_Joiner_joinInOrder_56 (l : Launch) (Z : rx_D) (mc ms : Nat) (post : Option Value → va_W → Prop) (k n : Nat) (F : Nat) (a_p1 a_t a_t_above a_t_order a_t_weight n_p1 : Nat) (p1 t_order : Nat → Int32) (v5_1 x2 : Int32) : ∀ (f : Nat)  (v3_6 v4_3 v6_1 : Int32) (t_above3 t_weight8 : Nat → Int32) (v3_7 v4_4 v6_2 : Int32) (t_above4 t_weight9 : Nat → Int32), L_Joiner_joinInOrder_56 F v5_1 x2 f v3_6 v4_3 v6_1 t_above3 t_weight8 = some (v3_7, v4_4, v6_2, t_above4, t_weight9) → (J_Joiner_joinInOrder l Z mc ms post k n [ia Z a_p1 n_p1 p1, ob a_t 4 [.ref a_t_order, .ref a_t_weight, .ref a_t_above], ia Z a_t_above 572 t_above4, ia Z a_t_order 286 t_order, ia Z a_t_weight 572 t_weight9] [(0, .ref a_t), (2, .int x2), (3, .int v3_7), (4, .int v4_4), (5, .int v5_1)] 138 []) → J_Joiner_joinInOrder l Z mc ms post k n [ia Z a_p1 n_p1 p1, ob a_t 4 [.ref a_t_order, .ref a_t_weight, .ref a_t_above], ia Z a_t_above 572 t_above3, ia Z a_t_order 286 t_order, ia Z a_t_weight 572 t_weight8] [(0, .ref a_t), (2, .int x2), (3, .int v3_6), (4, .int v4_3), (5, .int v5_1), (6, .int v6_1)] 56 [] := by
  intro f
  induction f with
  | zero =>
    intro v3_6 v4_3 v6_1 t_above3 t_weight8 v3_7 v4_4 v6_2 t_above4 t_weight9 hm K
    cases hm
  | succ f ih =>
    intro v3_6 v4_3 v6_1 t_above3 t_weight8 v3_7 v4_4 v6_2 t_above4 t_weight9 hm K
    have hm : B_Joiner_joinInOrder_56 F v5_1 x2 (L_Joiner_joinInOrder_56 F v5_1 x2 f) v3_6 v4_3 v6_1 t_above3 t_weight8 = some (v3_7, v4_4, v6_2, t_above4, t_weight9) := hm
    unfold B_Joiner_joinInOrder_56 at hm
    refine rw_iload (pc := 56) 5 rfl (rx_dt dt_Joiner_joinInOrder 37 rfl) ?_
    refine rw_iconst (pc := 58) (v := 2) rfl (rx_dt dt_Joiner_joinInOrder 38 rfl) ?_
    rcases ite_some hm with ⟨hc, hm⟩ | ⟨hc, hm⟩
    · refine rw_icmp_ge_t (pc := 59) (tgt := 138) hc (by decide) (rx_dt dt_Joiner_joinInOrder 39 rfl) ?_
      refine rw_perm (lv' := [(0, .ref a_t), (2, .int x2), (3, .int v3_6), (4, .int v4_3), (5, .int v5_1)]) (ws' := [ia Z a_p1 n_p1 p1, ob a_t 4 [.ref a_t_order, .ref a_t_weight, .ref a_t_above], ia Z a_t_above 572 t_above3, ia Z a_t_order 286 t_order, ia Z a_t_weight 572 t_weight8]) [0, 1, 2, 3, 4] [0, 1, 2, 3, 4] rfl rfl rfl ?_
      cases hm
      exact K
    · refine rw_icmp_ge_f (pc := 59) (tgt := 138) hc (by decide) (rx_dt dt_Joiner_joinInOrder 39 rfl) ?_
      refine rw_iload_n (pc := 62) 2 rfl rfl (rx_dt dt_Joiner_joinInOrder 40 rfl) ?_
      refine rw_iload_n (pc := 63) 1 rfl rfl (rx_dt dt_Joiner_joinInOrder 41 rfl) ?_
      obtain ⟨z1, z2, z3, hj, hm⟩ := bnd3_some hm
      have KJ : J_Joiner_joinInOrder l Z mc ms post k n [ia Z a_p1 n_p1 p1, ob a_t 4 [.ref a_t_order, .ref a_t_weight, .ref a_t_above], ia Z a_t_above 572 t_above3, ia Z a_t_order 286 t_order, ia Z a_t_weight 572 t_weight8] [(0, .ref a_t), (2, .int x2), (3, .int z1), (4, .int z2), (5, .int v5_1), (6, .int v6_1), (7, .int z3)] 106 [] := by
        refine rw_aload_n (pc := 106) 0 rfl rfl (rx_dt dt_Joiner_joinInOrder 62 rfl) ?_
        refine rw_get fa_Joiner_18 (pc := 107) 1 rfl rfl (rx_dt dt_Joiner_joinInOrder 63 rfl) ?_
        refine rw_iload (pc := 110) 6 rfl (rx_dt dt_Joiner_joinInOrder 64 rfl) ?_
        refine rw_iload (pc := 112) 4 rfl (rx_dt dt_Joiner_joinInOrder 65 rfl) ?_
        obtain ⟨hk7, hm⟩ := chk_some hm
        obtain ⟨t_above5, ht_above5, hm⟩ := nm_some hm
        refine rw_iast (pc := 114) (ws' := [ia Z a_p1 n_p1 p1, ob a_t 4 [.ref a_t_order, .ref a_t_weight, .ref a_t_above], ia Z a_t_above 572 t_above5, ia Z a_t_order 286 t_order, ia Z a_t_weight 572 t_weight8]) 2 rfl hk7 (by rw [← ht_above5]; rfl) (rx_dt dt_Joiner_joinInOrder 66 rfl) ?_
        refine rw_aload_n (pc := 115) 0 rfl rfl (rx_dt dt_Joiner_joinInOrder 67 rfl) ?_
        refine rw_get fa_Joiner_15 (pc := 116) 1 rfl rfl (rx_dt dt_Joiner_joinInOrder 68 rfl) ?_
        refine rw_iload (pc := 119) 4 rfl (rx_dt dt_Joiner_joinInOrder 69 rfl) ?_
        refine rw_dup2 (pc := 121) rfl rfl (rx_dt dt_Joiner_joinInOrder 70 rfl) ?_
        obtain ⟨hk8, hm⟩ := chk_some hm
        refine rw_iald (pc := 122) 4 rfl hk8 (rx_dt dt_Joiner_joinInOrder 71 rfl) ?_
        refine rw_aload_n (pc := 123) 0 rfl rfl (rx_dt dt_Joiner_joinInOrder 72 rfl) ?_
        refine rw_get fa_Joiner_15 (pc := 124) 1 rfl rfl (rx_dt dt_Joiner_joinInOrder 73 rfl) ?_
        refine rw_iload (pc := 127) 6 rfl (rx_dt dt_Joiner_joinInOrder 74 rfl) ?_
        obtain ⟨hk9, hm⟩ := chk_some hm
        refine rw_iald (pc := 129) 4 rfl hk9 (rx_dt dt_Joiner_joinInOrder 75 rfl) ?_
        refine rw_iadd (pc := 130) (rx_dt dt_Joiner_joinInOrder 76 rfl) ?_
        obtain ⟨hk10, hm⟩ := chk_some hm
        obtain ⟨t_weight10, ht_weight10, hm⟩ := nm_some hm
        refine rw_iast (pc := 131) (ws' := [ia Z a_p1 n_p1 p1, ob a_t 4 [.ref a_t_order, .ref a_t_weight, .ref a_t_above], ia Z a_t_above 572 t_above5, ia Z a_t_order 286 t_order, ia Z a_t_weight 572 t_weight10]) 4 rfl hk10 (by rw [← ht_weight10]; rfl) (rx_dt dt_Joiner_joinInOrder 77 rfl) ?_
        obtain ⟨y6, hy6, hm⟩ := nm_some hm
        refine rw_iinc (pc := 132) (lv' := [(6, .int y6), (0, .ref a_t), (2, .int x2), (3, .int z1), (4, .int z2), (5, .int v5_1), (7, .int z3)]) 5 rfl hy6 (by decide) rfl (rx_dt dt_Joiner_joinInOrder 78 rfl) ?_
        refine rw_goto (pc := 135) (tgt := 56) (by decide) (rx_dt dt_Joiner_joinInOrder 79 rfl) ?_
        refine rw_perm (lv' := [(0, .ref a_t), (2, .int x2), (3, .int z1), (4, .int z2), (5, .int v5_1), (6, .int y6)]) (ws' := [ia Z a_p1 n_p1 p1, ob a_t 4 [.ref a_t_order, .ref a_t_weight, .ref a_t_above], ia Z a_t_above 572 t_above5, ia Z a_t_order 286 t_order, ia Z a_t_weight 572 t_weight10]) [1, 2, 3, 4, 5, 0] [0, 1, 2, 3, 4] rfl rfl rfl ?_
        exact ih  _ _ _ _ _ _ _ _ _ _ hm K
      clear hm
      have hm := hj
      clear hj
      rcases ite_some hm with ⟨hc, hm⟩ | ⟨hc, hm⟩
      · refine rw_icmp_ge_t (pc := 64) (tgt := 99) hc (by decide) (rx_dt dt_Joiner_joinInOrder 42 rfl) ?_
        refine rw_iload (pc := 99) 3 rfl (rx_dt dt_Joiner_joinInOrder 59 rfl) ?_
        refine rw_istore (pc := 101) (lv' := [(7, .int v4_3), (0, .ref a_t), (2, .int x2), (3, .int v3_6), (4, .int v4_3), (5, .int v5_1), (6, .int v6_1)]) (by decide) rfl (rx_dt dt_Joiner_joinInOrder 60 rfl) ?_
        obtain ⟨y2, hy2, hm⟩ := nm_some hm
        refine rw_iinc (pc := 103) (lv' := [(4, .int y2), (7, .int v4_3), (0, .ref a_t), (2, .int x2), (3, .int v3_6), (5, .int v5_1), (6, .int v6_1)]) 4 rfl hy2 (by decide) rfl (rx_dt dt_Joiner_joinInOrder 61 rfl) ?_
        refine rw_perm (lv' := [(0, .ref a_t), (2, .int x2), (3, .int v3_6), (4, .int y2), (5, .int v5_1), (6, .int v6_1), (7, .int v4_3)]) (ws' := [ia Z a_p1 n_p1 p1, ob a_t 4 [.ref a_t_order, .ref a_t_weight, .ref a_t_above], ia Z a_t_above 572 t_above3, ia Z a_t_order 286 t_order, ia Z a_t_weight 572 t_weight8]) [2, 3, 4, 0, 5, 6, 1] [0, 1, 2, 3, 4] rfl rfl rfl ?_
        cases hm
        exact KJ
      · refine rw_icmp_ge_f (pc := 64) (tgt := 99) hc (by decide) (rx_dt dt_Joiner_joinInOrder 42 rfl) ?_
        refine rw_iload (pc := 67) 3 rfl (rx_dt dt_Joiner_joinInOrder 43 rfl) ?_
        refine rw_iload (pc := 69) 4 rfl (rx_dt dt_Joiner_joinInOrder 44 rfl) ?_
        rcases ite_some hm with ⟨hc, hm⟩ | ⟨hc, hm⟩
        · refine rw_icmp_ge_t (pc := 71) (tgt := 90) hc (by decide) (rx_dt dt_Joiner_joinInOrder 45 rfl) ?_
          refine rw_iload_n (pc := 90) 2 rfl rfl (rx_dt dt_Joiner_joinInOrder 55 rfl) ?_
          refine rw_istore (pc := 91) (lv' := [(7, .int v3_6), (0, .ref a_t), (2, .int x2), (3, .int v3_6), (4, .int v4_3), (5, .int v5_1), (6, .int v6_1)]) (by decide) rfl (rx_dt dt_Joiner_joinInOrder 56 rfl) ?_
          obtain ⟨y3, hy3, hm⟩ := nm_some hm
          refine rw_iinc (pc := 93) (lv' := [(3, .int y3), (7, .int v3_6), (0, .ref a_t), (2, .int x2), (4, .int v4_3), (5, .int v5_1), (6, .int v6_1)]) 3 rfl hy3 (by decide) rfl (rx_dt dt_Joiner_joinInOrder 57 rfl) ?_
          refine rw_goto (pc := 96) (tgt := 106) (by decide) (rx_dt dt_Joiner_joinInOrder 58 rfl) ?_
          refine rw_perm (lv' := [(0, .ref a_t), (2, .int x2), (3, .int y3), (4, .int v4_3), (5, .int v5_1), (6, .int v6_1), (7, .int v3_6)]) (ws' := [ia Z a_p1 n_p1 p1, ob a_t 4 [.ref a_t_order, .ref a_t_weight, .ref a_t_above], ia Z a_t_above 572 t_above3, ia Z a_t_order 286 t_order, ia Z a_t_weight 572 t_weight8]) [2, 3, 0, 4, 5, 6, 1] [0, 1, 2, 3, 4] rfl rfl rfl ?_
          cases hm
          exact KJ
        · refine rw_icmp_ge_f (pc := 71) (tgt := 90) hc (by decide) (rx_dt dt_Joiner_joinInOrder 45 rfl) ?_
          refine rw_aload_n (pc := 74) 0 rfl rfl (rx_dt dt_Joiner_joinInOrder 46 rfl) ?_
          refine rw_get fa_Joiner_15 (pc := 75) 1 rfl rfl (rx_dt dt_Joiner_joinInOrder 47 rfl) ?_
          refine rw_iload_n (pc := 78) 2 rfl rfl (rx_dt dt_Joiner_joinInOrder 48 rfl) ?_
          obtain ⟨hk5, hm⟩ := chk_some hm
          refine rw_iald (pc := 79) 4 rfl hk5 (rx_dt dt_Joiner_joinInOrder 49 rfl) ?_
          refine rw_aload_n (pc := 80) 0 rfl rfl (rx_dt dt_Joiner_joinInOrder 50 rfl) ?_
          refine rw_get fa_Joiner_15 (pc := 81) 1 rfl rfl (rx_dt dt_Joiner_joinInOrder 51 rfl) ?_
          refine rw_iload (pc := 84) 3 rfl (rx_dt dt_Joiner_joinInOrder 52 rfl) ?_
          obtain ⟨hk6, hm⟩ := chk_some hm
          refine rw_iald (pc := 86) 4 rfl hk6 (rx_dt dt_Joiner_joinInOrder 53 rfl) ?_
          rcases ite_some hm with ⟨hc, hm⟩ | ⟨hc, hm⟩
          · refine rw_icmp_gt_t (pc := 87) (tgt := 99) hc (by decide) (rx_dt dt_Joiner_joinInOrder 54 rfl) ?_
            refine rw_iload (pc := 99) 3 rfl (rx_dt dt_Joiner_joinInOrder 59 rfl) ?_
            refine rw_istore (pc := 101) (lv' := [(7, .int v4_3), (0, .ref a_t), (2, .int x2), (3, .int v3_6), (4, .int v4_3), (5, .int v5_1), (6, .int v6_1)]) (by decide) rfl (rx_dt dt_Joiner_joinInOrder 60 rfl) ?_
            obtain ⟨y4, hy4, hm⟩ := nm_some hm
            refine rw_iinc (pc := 103) (lv' := [(4, .int y4), (7, .int v4_3), (0, .ref a_t), (2, .int x2), (3, .int v3_6), (5, .int v5_1), (6, .int v6_1)]) 4 rfl hy4 (by decide) rfl (rx_dt dt_Joiner_joinInOrder 61 rfl) ?_
            refine rw_perm (lv' := [(0, .ref a_t), (2, .int x2), (3, .int v3_6), (4, .int y4), (5, .int v5_1), (6, .int v6_1), (7, .int v4_3)]) (ws' := [ia Z a_p1 n_p1 p1, ob a_t 4 [.ref a_t_order, .ref a_t_weight, .ref a_t_above], ia Z a_t_above 572 t_above3, ia Z a_t_order 286 t_order, ia Z a_t_weight 572 t_weight8]) [2, 3, 4, 0, 5, 6, 1] [0, 1, 2, 3, 4] rfl rfl rfl ?_
            cases hm
            exact KJ
          · refine rw_icmp_gt_f (pc := 87) (tgt := 99) hc (by decide) (rx_dt dt_Joiner_joinInOrder 54 rfl) ?_
            refine rw_iload_n (pc := 90) 2 rfl rfl (rx_dt dt_Joiner_joinInOrder 55 rfl) ?_
            refine rw_istore (pc := 91) (lv' := [(7, .int v3_6), (0, .ref a_t), (2, .int x2), (3, .int v3_6), (4, .int v4_3), (5, .int v5_1), (6, .int v6_1)]) (by decide) rfl (rx_dt dt_Joiner_joinInOrder 56 rfl) ?_
            obtain ⟨y5, hy5, hm⟩ := nm_some hm
            refine rw_iinc (pc := 93) (lv' := [(3, .int y5), (7, .int v3_6), (0, .ref a_t), (2, .int x2), (4, .int v4_3), (5, .int v5_1), (6, .int v6_1)]) 3 rfl hy5 (by decide) rfl (rx_dt dt_Joiner_joinInOrder 57 rfl) ?_
            refine rw_goto (pc := 96) (tgt := 106) (by decide) (rx_dt dt_Joiner_joinInOrder 58 rfl) ?_
            refine rw_perm (lv' := [(0, .ref a_t), (2, .int x2), (3, .int y5), (4, .int v4_3), (5, .int v5_1), (6, .int v6_1), (7, .int v3_6)]) (ws' := [ia Z a_p1 n_p1 p1, ob a_t 4 [.ref a_t_order, .ref a_t_weight, .ref a_t_above], ia Z a_t_above 572 t_above3, ia Z a_t_order 286 t_order, ia Z a_t_weight 572 t_weight8]) [2, 3, 0, 4, 5, 6, 1] [0, 1, 2, 3, 4] rfl rfl rfl ?_
            cases hm
            exact KJ
set_option maxRecDepth 100000 in
set_option maxHeartbeats 4000000 in
theorem wl_Joiner_joinInOrder_35 (l : Launch) (Z : rx_D) (mc ms : Nat) (post : Option Value → va_W → Prop) (k n : Nat) (F : Nat) (a_p1 a_t a_t_above a_t_order a_t_weight n_p1 : Nat) (p1 t_order : Nat → Int32) (x2 : Int32) : ∀ (f : Nat)  (v3_4 v4_1 v5_1 : Int32) (t_above1 t_weight5 : Nat → Int32) (v3_5 v4_2 v5_2 : Int32) (t_above2 t_weight6 : Nat → Int32), L_Joiner_joinInOrder_35 F x2 f v3_4 v4_1 v5_1 t_above1 t_weight5 = some (v3_5, v4_2, v5_2, t_above2, t_weight6) → (J_Joiner_joinInOrder l Z mc ms post k n [ia Z a_p1 n_p1 p1, ob a_t 4 [.ref a_t_order, .ref a_t_weight, .ref a_t_above], ia Z a_t_above 572 t_above2, ia Z a_t_order 286 t_order, ia Z a_t_weight 572 t_weight6] [] 144 []) → J_Joiner_joinInOrder l Z mc ms post k n [ia Z a_p1 n_p1 p1, ob a_t 4 [.ref a_t_order, .ref a_t_weight, .ref a_t_above], ia Z a_t_above 572 t_above1, ia Z a_t_order 286 t_order, ia Z a_t_weight 572 t_weight5] [(0, .ref a_t), (2, .int x2), (3, .int v3_4), (4, .int v4_1), (5, .int v5_1)] 35 [] := by
  intro f
  induction f with
  | zero =>
    intro v3_4 v4_1 v5_1 t_above1 t_weight5 v3_5 v4_2 v5_2 t_above2 t_weight6 hm K
    cases hm
  | succ f ih =>
    intro v3_4 v4_1 v5_1 t_above1 t_weight5 v3_5 v4_2 v5_2 t_above2 t_weight6 hm K
    have hm : B_Joiner_joinInOrder_35 F x2 (L_Joiner_joinInOrder_35 F x2 f) v3_4 v4_1 v5_1 t_above1 t_weight5 = some (v3_5, v4_2, v5_2, t_above2, t_weight6) := hm
    unfold B_Joiner_joinInOrder_35 at hm
    refine rw_iload (pc := 35) 4 rfl (rx_dt dt_Joiner_joinInOrder 23 rfl) ?_
    refine rw_iconst (pc := 37) (v := 2) rfl (rx_dt dt_Joiner_joinInOrder 24 rfl) ?_
    refine rw_iload_n (pc := 38) 1 rfl rfl (rx_dt dt_Joiner_joinInOrder 25 rfl) ?_
    refine rw_imul (pc := 39) (rx_dt dt_Joiner_joinInOrder 26 rfl) ?_
    refine rw_iconst (pc := 40) (v := 1) rfl (rx_dt dt_Joiner_joinInOrder 27 rfl) ?_
    refine rw_isub (pc := 41) (rx_dt dt_Joiner_joinInOrder 28 rfl) ?_
    rcases ite_some hm with ⟨hc, hm⟩ | ⟨hc, hm⟩
    · refine rw_icmp_ge_t (pc := 42) (tgt := 144) hc (by decide) (rx_dt dt_Joiner_joinInOrder 29 rfl) ?_
      refine rw_perm (lv' := []) (ws' := [ia Z a_p1 n_p1 p1, ob a_t 4 [.ref a_t_order, .ref a_t_weight, .ref a_t_above], ia Z a_t_above 572 t_above1, ia Z a_t_order 286 t_order, ia Z a_t_weight 572 t_weight5]) [] [0, 1, 2, 3, 4] rfl rfl rfl ?_
      cases hm
      exact K
    · refine rw_icmp_ge_f (pc := 42) (tgt := 144) hc (by decide) (rx_dt dt_Joiner_joinInOrder 29 rfl) ?_
      refine rw_aload_n (pc := 45) 0 rfl rfl (rx_dt dt_Joiner_joinInOrder 30 rfl) ?_
      refine rw_get fa_Joiner_15 (pc := 46) 1 rfl rfl (rx_dt dt_Joiner_joinInOrder 31 rfl) ?_
      refine rw_iload (pc := 49) 4 rfl (rx_dt dt_Joiner_joinInOrder 32 rfl) ?_
      refine rw_iconst (pc := 51) (v := 0) rfl (rx_dt dt_Joiner_joinInOrder 33 rfl) ?_
      obtain ⟨hk4, hm⟩ := chk_some hm
      obtain ⟨t_weight7, ht_weight7, hm⟩ := nm_some hm
      refine rw_iast (pc := 52) (ws' := [ia Z a_p1 n_p1 p1, ob a_t 4 [.ref a_t_order, .ref a_t_weight, .ref a_t_above], ia Z a_t_above 572 t_above1, ia Z a_t_order 286 t_order, ia Z a_t_weight 572 t_weight7]) 4 rfl hk4 (by rw [← ht_weight7]; rfl) (rx_dt dt_Joiner_joinInOrder 34 rfl) ?_
      refine rw_iconst (pc := 53) (v := 0) rfl (rx_dt dt_Joiner_joinInOrder 35 rfl) ?_
      refine rw_istore (pc := 54) (lv' := [(6, .int (0 : Int32)), (0, .ref a_t), (2, .int x2), (3, .int v3_4), (4, .int v4_1), (5, .int v5_1)]) (by decide) rfl (rx_dt dt_Joiner_joinInOrder 36 rfl) ?_
      obtain ⟨v3_8, v4_5, v6_3, t_above6, t_weight11, hl, hm⟩ := bnd5_some hm
      refine rw_perm (lv' := [(0, .ref a_t), (2, .int x2), (3, .int v3_4), (4, .int v4_1), (5, .int v5_1), (6, .int (0 : Int32))]) (ws' := [ia Z a_p1 n_p1 p1, ob a_t 4 [.ref a_t_order, .ref a_t_weight, .ref a_t_above], ia Z a_t_above 572 t_above1, ia Z a_t_order 286 t_order, ia Z a_t_weight 572 t_weight7]) [1, 2, 3, 4, 5, 0] [0, 1, 2, 3, 4] rfl rfl rfl ?_
      refine wl_Joiner_joinInOrder_56 l Z mc ms post k n F a_p1 a_t a_t_above a_t_order a_t_weight n_p1 p1 t_order v5_1 x2 F  v3_4 v4_1 (0 : Int32) t_above1 t_weight7 v3_8 v4_5 v6_3 t_above6 t_weight11 hl ?_
      obtain ⟨y7, hy7, hm⟩ := nm_some hm
      refine rw_iinc (pc := 138) (lv' := [(5, .int y7), (0, .ref a_t), (2, .int x2), (3, .int v3_8), (4, .int v4_5)]) 4 rfl hy7 (by decide) rfl (rx_dt dt_Joiner_joinInOrder 80 rfl) ?_
      refine rw_goto (pc := 141) (tgt := 35) (by decide) (rx_dt dt_Joiner_joinInOrder 81 rfl) ?_
      refine rw_perm (lv' := [(0, .ref a_t), (2, .int x2), (3, .int v3_8), (4, .int v4_5), (5, .int y7)]) (ws' := [ia Z a_p1 n_p1 p1, ob a_t 4 [.ref a_t_order, .ref a_t_weight, .ref a_t_above], ia Z a_t_above 572 t_above6, ia Z a_t_order 286 t_order, ia Z a_t_weight 572 t_weight11]) [1, 2, 3, 4, 0] [0, 1, 2, 3, 4] rfl rfl rfl ?_
      exact ih  _ _ _ _ _ _ _ _ _ _ hm K
set_option maxRecDepth 100000 in
set_option maxHeartbeats 4000000 in
theorem w_Joiner_joinInOrder (l : Launch) (Z : rx_D) (mc ms : Nat) (post : Option Value → va_W → Prop) (k n : Nat) (F : Nat) (a_p1 a_t a_t_above a_t_order a_t_weight n_p1 : Nat) (p1 t_above t_order t_weight : Nat → Int32) (x2 : Int32) (o_t_above o_t_weight : Nat → Int32) (hm : m_Joiner_joinInOrder F n_p1 p1 t_above t_order t_weight x2 = some (o_t_above, o_t_weight)) (hp : post none [ia Z a_p1 n_p1 p1, ob a_t 4 [.ref a_t_order, .ref a_t_weight, .ref a_t_above], ia Z a_t_above 572 o_t_above, ia Z a_t_order 286 t_order, ia Z a_t_weight 572 o_t_weight]) : J_Joiner_joinInOrder l Z mc ms post k n [ia Z a_p1 n_p1 p1, ob a_t 4 [.ref a_t_order, .ref a_t_weight, .ref a_t_above], ia Z a_t_above 572 t_above, ia Z a_t_order 286 t_order, ia Z a_t_weight 572 t_weight] [(0, .ref a_t), (1, .ref a_p1), (2, .int x2)] 0 [] := by
  unfold m_Joiner_joinInOrder at hm
  refine rw_iconst (pc := 0) (v := 0) rfl (rx_dt dt_Joiner_joinInOrder 0 rfl) ?_
  refine rw_istore_n (pc := 1) (lv' := [(3, .int (0 : Int32)), (0, .ref a_t), (1, .ref a_p1), (2, .int x2)]) rfl (by decide) rfl (rx_dt dt_Joiner_joinInOrder 1 rfl) ?_
  obtain ⟨v3_3, t_weight4, hl, hm⟩ := bnd2_some hm
  refine rw_perm (lv' := [(0, .ref a_t), (1, .ref a_p1), (2, .int x2), (3, .int (0 : Int32))]) (ws' := [ia Z a_p1 n_p1 p1, ob a_t 4 [.ref a_t_order, .ref a_t_weight, .ref a_t_above], ia Z a_t_above 572 t_above, ia Z a_t_order 286 t_order, ia Z a_t_weight 572 t_weight]) [1, 2, 3, 0] [0, 1, 2, 3, 4] rfl rfl rfl ?_
  refine wl_Joiner_joinInOrder_2 l Z mc ms post k n F a_p1 a_t a_t_above a_t_order a_t_weight n_p1 p1 t_above t_order x2 F  (0 : Int32) t_weight v3_3 t_weight4 hl ?_
  refine rw_iconst (pc := 27) (v := 0) rfl (rx_dt dt_Joiner_joinInOrder 17 rfl) ?_
  refine rw_istore_n (pc := 28) (lv' := [(3, .int (0 : Int32)), (0, .ref a_t), (2, .int x2)]) rfl (by decide) rfl (rx_dt dt_Joiner_joinInOrder 18 rfl) ?_
  refine rw_iload_n (pc := 29) 2 rfl rfl (rx_dt dt_Joiner_joinInOrder 19 rfl) ?_
  refine rw_istore (pc := 30) (lv' := [(4, .int x2), (3, .int (0 : Int32)), (0, .ref a_t), (2, .int x2)]) (by decide) rfl (rx_dt dt_Joiner_joinInOrder 20 rfl) ?_
  refine rw_iload_n (pc := 32) 3 rfl rfl (rx_dt dt_Joiner_joinInOrder 21 rfl) ?_
  refine rw_istore (pc := 33) (lv' := [(5, .int x2), (4, .int x2), (3, .int (0 : Int32)), (0, .ref a_t), (2, .int x2)]) (by decide) rfl (rx_dt dt_Joiner_joinInOrder 22 rfl) ?_
  obtain ⟨v3_9, v4_6, v5_3, t_above7, t_weight12, hl, hm⟩ := bnd5_some hm
  refine rw_perm (lv' := [(0, .ref a_t), (2, .int x2), (3, .int (0 : Int32)), (4, .int x2), (5, .int x2)]) (ws' := [ia Z a_p1 n_p1 p1, ob a_t 4 [.ref a_t_order, .ref a_t_weight, .ref a_t_above], ia Z a_t_above 572 t_above, ia Z a_t_order 286 t_order, ia Z a_t_weight 572 t_weight4]) [3, 4, 2, 1, 0] [0, 1, 2, 3, 4] rfl rfl rfl ?_
  refine wl_Joiner_joinInOrder_35 l Z mc ms post k n F a_p1 a_t a_t_above a_t_order a_t_weight n_p1 p1 t_order x2 F  (0 : Int32) x2 x2 t_above t_weight4 v3_9 v4_6 v5_3 t_above7 t_weight12 hl ?_
  cases hm
  exact rw_vret (pc := 144) (rx_dt dt_Joiner_joinInOrder 82 rfl) hp
theorem c_Joiner_joinInOrder (l : Launch) (Z : rx_D) (F : Nat) (a_p1 a_t a_t_above a_t_order a_t_weight n_p1 : Nat) (p1 t_above t_order t_weight : Nat → Int32) (x2 : Int32) (o_t_above o_t_weight : Nat → Int32) (hm : m_Joiner_joinInOrder F n_p1 p1 t_above t_order t_weight x2 = some (o_t_above, o_t_weight)) : Cn l Z y_Joiner_joinInOrder b_Joiner_joinInOrder 8 none 0 [.ref a_t, .ref a_p1, .int x2] [ia Z a_p1 n_p1 p1, ob a_t 4 [.ref a_t_order, .ref a_t_weight, .ref a_t_above], ia Z a_t_above 572 t_above, ia Z a_t_order 286 t_order, ia Z a_t_weight 572 t_weight] 0 0 (fun r w => r = none ∧ w = [ia Z a_p1 n_p1 p1, ob a_t 4 [.ref a_t_order, .ref a_t_weight, .ref a_t_above], ia Z a_t_above 572 o_t_above, ia Z a_t_order 286 t_order, ia Z a_t_weight 572 o_t_weight]) :=
  rx_met "DeflateEffort$Joiner" "joinInOrder" mf_Joiner_joinInOrder (Nat.le_of_ble_eq_true rfl) rfl (by rintro _ _ ⟨h9, _⟩; cases h9) (w_Joiner_joinInOrder l Z 0 0 _ 0 0 F a_p1 a_t a_t_above a_t_order a_t_weight n_p1 p1 t_above t_order t_weight x2 o_t_above o_t_weight hm ⟨rfl, rfl⟩)
abbrev J_Joiner_tellDepths (l : Launch) (Z : rx_D) (mc ms : Nat) (post : Option Value → va_W → Prop) := Rw l Z "DeflateEffort$Joiner" "tellDepths" b_Joiner_tellDepths 4 none 0 mc ms post
set_option maxRecDepth 100000 in
set_option maxHeartbeats 4000000 in
theorem wl_Joiner_tellDepths_17 (l : Launch) (Z : rx_D) (mc ms : Nat) (post : Option Value → va_W → Prop) (k n : Nat) (F : Nat) (a_p1 a_t a_t_above a_t_order a_t_weight n_p1 : Nat) (t_above t_order : Nat → Int32) (x2 : Int32) : ∀ (f : Nat)  (v3_1 : Int32) (p2 t_weight2 : Nat → Int32) (v3_2 : Int32) (p3 t_weight3 : Nat → Int32), L_Joiner_tellDepths_17 F n_p1 t_above t_order x2 f v3_1 p2 t_weight2 = some (v3_2, p3, t_weight3) → (J_Joiner_tellDepths l Z mc ms post k n [ia Z a_p1 n_p1 p3, ob a_t 4 [.ref a_t_order, .ref a_t_weight, .ref a_t_above], ia Z a_t_above 572 t_above, ia Z a_t_order 286 t_order, ia Z a_t_weight 572 t_weight3] [] 65 []) → J_Joiner_tellDepths l Z mc ms post k n [ia Z a_p1 n_p1 p2, ob a_t 4 [.ref a_t_order, .ref a_t_weight, .ref a_t_above], ia Z a_t_above 572 t_above, ia Z a_t_order 286 t_order, ia Z a_t_weight 572 t_weight2] [(0, .ref a_t), (1, .ref a_p1), (2, .int x2), (3, .int v3_1)] 17 [] := by
  intro f
  induction f with
  | zero =>
    intro v3_1 p2 t_weight2 v3_2 p3 t_weight3 hm K
    cases hm
  | succ f ih =>
    intro v3_1 p2 t_weight2 v3_2 p3 t_weight3 hm K
    have hm : B_Joiner_tellDepths_17 F n_p1 t_above t_order x2 (L_Joiner_tellDepths_17 F n_p1 t_above t_order x2 f) v3_1 p2 t_weight2 = some (v3_2, p3, t_weight3) := hm
    unfold B_Joiner_tellDepths_17 at hm
    refine rw_iload_n (pc := 17) 3 rfl rfl (rx_dt dt_Joiner_tellDepths 15 rfl) ?_
    rcases ite_some hm with ⟨hc, hm⟩ | ⟨hc, hm⟩
    · refine rw_if_lt_t (pc := 18) (tgt := 65) hc (by decide) (rx_dt dt_Joiner_tellDepths 16 rfl) ?_
      refine rw_perm (lv' := []) (ws' := [ia Z a_p1 n_p1 p2, ob a_t 4 [.ref a_t_order, .ref a_t_weight, .ref a_t_above], ia Z a_t_above 572 t_above, ia Z a_t_order 286 t_order, ia Z a_t_weight 572 t_weight2]) [] [0, 1, 2, 3, 4] rfl rfl rfl ?_
      cases hm
      exact K
    · refine rw_if_lt_f (pc := 18) (tgt := 65) hc (by decide) (rx_dt dt_Joiner_tellDepths 16 rfl) ?_
      refine rw_aload_n (pc := 21) 0 rfl rfl (rx_dt dt_Joiner_tellDepths 17 rfl) ?_
      refine rw_get fa_Joiner_15 (pc := 22) 1 rfl rfl (rx_dt dt_Joiner_tellDepths 18 rfl) ?_
      refine rw_iload_n (pc := 25) 3 rfl rfl (rx_dt dt_Joiner_tellDepths 19 rfl) ?_
      refine rw_aload_n (pc := 26) 0 rfl rfl (rx_dt dt_Joiner_tellDepths 20 rfl) ?_
      refine rw_get fa_Joiner_15 (pc := 27) 1 rfl rfl (rx_dt dt_Joiner_tellDepths 21 rfl) ?_
      refine rw_aload_n (pc := 30) 0 rfl rfl (rx_dt dt_Joiner_tellDepths 22 rfl) ?_
      refine rw_get fa_Joiner_18 (pc := 31) 1 rfl rfl (rx_dt dt_Joiner_tellDepths 23 rfl) ?_
      refine rw_iload_n (pc := 34) 3 rfl rfl (rx_dt dt_Joiner_tellDepths 24 rfl) ?_
      obtain ⟨hk2, hm⟩ := chk_some hm
      refine rw_iald (pc := 35) 2 rfl hk2 (rx_dt dt_Joiner_tellDepths 25 rfl) ?_
      obtain ⟨hk3, hm⟩ := chk_some hm
      refine rw_iald (pc := 36) 4 rfl hk3 (rx_dt dt_Joiner_tellDepths 26 rfl) ?_
      refine rw_iconst (pc := 37) (v := 1) rfl (rx_dt dt_Joiner_tellDepths 27 rfl) ?_
      refine rw_iadd (pc := 38) (rx_dt dt_Joiner_tellDepths 28 rfl) ?_
      obtain ⟨hk4, hm⟩ := chk_some hm
      obtain ⟨t_weight4, ht_weight4, hm⟩ := nm_some hm
      refine rw_iast (pc := 39) (ws' := [ia Z a_p1 n_p1 p2, ob a_t 4 [.ref a_t_order, .ref a_t_weight, .ref a_t_above], ia Z a_t_above 572 t_above, ia Z a_t_order 286 t_order, ia Z a_t_weight 572 t_weight4]) 4 rfl hk4 (by rw [← ht_weight4]; rfl) (rx_dt dt_Joiner_tellDepths 29 rfl) ?_
      refine rw_iload_n (pc := 40) 3 rfl rfl (rx_dt dt_Joiner_tellDepths 30 rfl) ?_
      refine rw_iload_n (pc := 41) 2 rfl rfl (rx_dt dt_Joiner_tellDepths 31 rfl) ?_
      obtain ⟨p4, hj, hm⟩ := bnd1_some hm
      have KJ : J_Joiner_tellDepths l Z mc ms post k n [ia Z a_p1 n_p1 p4, ob a_t 4 [.ref a_t_order, .ref a_t_weight, .ref a_t_above], ia Z a_t_above 572 t_above, ia Z a_t_order 286 t_order, ia Z a_t_weight 572 t_weight4] [(0, .ref a_t), (1, .ref a_p1), (2, .int x2), (3, .int v3_1)] 59 [] := by
        obtain ⟨y2, hy2, hm⟩ := nm_some hm
        refine rw_iinc (pc := 59) (lv' := [(3, .int y2), (0, .ref a_t), (1, .ref a_p1), (2, .int x2)]) 3 rfl hy2 (by decide) rfl (rx_dt dt_Joiner_tellDepths 43 rfl) ?_
        refine rw_goto (pc := 62) (tgt := 17) (by decide) (rx_dt dt_Joiner_tellDepths 44 rfl) ?_
        refine rw_perm (lv' := [(0, .ref a_t), (1, .ref a_p1), (2, .int x2), (3, .int y2)]) (ws' := [ia Z a_p1 n_p1 p4, ob a_t 4 [.ref a_t_order, .ref a_t_weight, .ref a_t_above], ia Z a_t_above 572 t_above, ia Z a_t_order 286 t_order, ia Z a_t_weight 572 t_weight4]) [1, 2, 3, 0] [0, 1, 2, 3, 4] rfl rfl rfl ?_
        exact ih  _ _ _ _ _ _ hm K
      clear hm
      have hm := hj
      clear hj
      rcases ite_some hm with ⟨hc, hm⟩ | ⟨hc, hm⟩
      · refine rw_icmp_ge_t (pc := 42) (tgt := 59) hc (by decide) (rx_dt dt_Joiner_tellDepths 32 rfl) ?_
        cases hm
        exact KJ
      · refine rw_icmp_ge_f (pc := 42) (tgt := 59) hc (by decide) (rx_dt dt_Joiner_tellDepths 32 rfl) ?_
        refine rw_aload_n (pc := 45) 1 rfl rfl (rx_dt dt_Joiner_tellDepths 33 rfl) ?_
        refine rw_aload_n (pc := 46) 0 rfl rfl (rx_dt dt_Joiner_tellDepths 34 rfl) ?_
        refine rw_get fa_Joiner_9 (pc := 47) 1 rfl rfl (rx_dt dt_Joiner_tellDepths 35 rfl) ?_
        refine rw_iload_n (pc := 50) 3 rfl rfl (rx_dt dt_Joiner_tellDepths 36 rfl) ?_
        obtain ⟨hk5, hm⟩ := chk_some hm
        refine rw_iald (pc := 51) 3 rfl hk5 (rx_dt dt_Joiner_tellDepths 37 rfl) ?_
        refine rw_aload_n (pc := 52) 0 rfl rfl (rx_dt dt_Joiner_tellDepths 38 rfl) ?_
        refine rw_get fa_Joiner_15 (pc := 53) 1 rfl rfl (rx_dt dt_Joiner_tellDepths 39 rfl) ?_
        refine rw_iload_n (pc := 56) 3 rfl rfl (rx_dt dt_Joiner_tellDepths 40 rfl) ?_
        obtain ⟨hk6, hm⟩ := chk_some hm
        refine rw_iald (pc := 57) 4 rfl hk6 (rx_dt dt_Joiner_tellDepths 41 rfl) ?_
        obtain ⟨hk7, hm⟩ := chk_some hm
        obtain ⟨p5, hp5, hm⟩ := nm_some hm
        refine rw_iast (pc := 58) (ws' := [ia Z a_p1 n_p1 p5, ob a_t 4 [.ref a_t_order, .ref a_t_weight, .ref a_t_above], ia Z a_t_above 572 t_above, ia Z a_t_order 286 t_order, ia Z a_t_weight 572 t_weight4]) 0 rfl hk7 (by rw [← hp5]; rfl) (rx_dt dt_Joiner_tellDepths 42 rfl) ?_
        cases hm
        exact KJ
