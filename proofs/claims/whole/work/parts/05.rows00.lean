abbrev J_Code_longest (l : Launch) (Z : rx_D) (mc ms : Nat) (post : Option Value → va_W → Prop) := Rw l Z "DeflateEffort$Code" "longest" b_Code_longest 3 (some .int) 1 mc ms post
set_option maxRecDepth 100000 in
set_option maxHeartbeats 4000000 in
theorem wl_Code_longest_4 (l : Launch) (Z : rx_D) (mc ms : Nat) (post : Option Value → va_W → Prop) (k n : Nat) (F : Nat) (a_t a_t_count a_t_length n_t : Nat) (t_length : Nat → Int32) : ∀ (f : Nat)  (v1_1 v2_1 : Int32) (v1_2 v2_2 : Int32), L_Code_longest_4 F n_t t_length f v1_1 v2_1 = some (v1_2, v2_2) → (J_Code_longest l Z mc ms post k n [ob a_t 1 [.ref a_t_count, .ref a_t_length], ia Z a_t_length n_t t_length] [(1, .int v1_2)] 30 []) → J_Code_longest l Z mc ms post k n [ob a_t 1 [.ref a_t_count, .ref a_t_length], ia Z a_t_length n_t t_length] [(0, .ref a_t), (1, .int v1_1), (2, .int v2_1)] 4 [] := by
  intro f
  induction f with
  | zero =>
    intro v1_1 v2_1 v1_2 v2_2 hm K
    cases hm
  | succ f ih =>
    intro v1_1 v2_1 v1_2 v2_2 hm K
    have hm : B_Code_longest_4 F n_t t_length (L_Code_longest_4 F n_t t_length f) v1_1 v2_1 = some (v1_2, v2_2) := hm
    unfold B_Code_longest_4 at hm
    refine rw_iload_n (pc := 4) 2 rfl rfl (rx_dt dt_Code_longest 4 rfl) ?_
    refine rw_aload_n (pc := 5) 0 rfl rfl (rx_dt dt_Code_longest 5 rfl) ?_
    refine rw_get fa_Code_19 (pc := 6) 0 rfl rfl (rx_dt dt_Code_longest 6 rfl) ?_
    refine rw_alen (pc := 9) 1 rfl (rx_dt dt_Code_longest 7 rfl) ?_
    rcases ite_some hm with ⟨hc, hm⟩ | ⟨hc, hm⟩
    · refine rw_icmp_ge_t (pc := 10) (tgt := 30) hc (by decide) (rx_dt dt_Code_longest 8 rfl) ?_
      refine rw_perm (lv' := [(1, .int v1_1)]) (ws' := [ob a_t 1 [.ref a_t_count, .ref a_t_length], ia Z a_t_length n_t t_length]) [1] [0, 1] rfl rfl rfl ?_
      cases hm
      exact K
    · refine rw_icmp_ge_f (pc := 10) (tgt := 30) hc (by decide) (rx_dt dt_Code_longest 8 rfl) ?_
      refine rw_iload_n (pc := 13) 1 rfl rfl (rx_dt dt_Code_longest 9 rfl) ?_
      refine rw_aload_n (pc := 14) 0 rfl rfl (rx_dt dt_Code_longest 10 rfl) ?_
      refine rw_get fa_Code_19 (pc := 15) 0 rfl rfl (rx_dt dt_Code_longest 11 rfl) ?_
      refine rw_iload_n (pc := 18) 2 rfl rfl (rx_dt dt_Code_longest 12 rfl) ?_
      obtain ⟨hk1, hm⟩ := chk_some hm
      refine rw_iald (pc := 19) 1 rfl hk1 (rx_dt dt_Code_longest 13 rfl) ?_
      refine rw_imax (pc := 20) mk_Code_7 (by decide) (by decide) (rx_dt dt_Code_longest 14 rfl) ?_
      obtain ⟨y1, hy1, hm⟩ := nm_some hm
      refine rw_nm hy1 ?_
      refine rw_istore_n (pc := 23) (lv' := [(1, .int y1), (0, .ref a_t), (2, .int v2_1)]) rfl (by decide) rfl (rx_dt dt_Code_longest 15 rfl) ?_
      obtain ⟨y2, hy2, hm⟩ := nm_some hm
      refine rw_iinc (pc := 24) (lv' := [(2, .int y2), (1, .int y1), (0, .ref a_t)]) 2 rfl hy2 (by decide) rfl (rx_dt dt_Code_longest 16 rfl) ?_
      refine rw_goto (pc := 27) (tgt := 4) (by decide) (rx_dt dt_Code_longest 17 rfl) ?_
      refine rw_perm (lv' := [(0, .ref a_t), (1, .int y1), (2, .int y2)]) (ws' := [ob a_t 1 [.ref a_t_count, .ref a_t_length], ia Z a_t_length n_t t_length]) [2, 1, 0] [0, 1] rfl rfl rfl ?_
      exact ih  _ _ _ _ hm K
set_option maxRecDepth 100000 in
set_option maxHeartbeats 4000000 in
theorem w_Code_longest (l : Launch) (Z : rx_D) (mc ms : Nat) (post : Option Value → va_W → Prop) (k n : Nat) (F : Nat) (a_t a_t_count a_t_length n_t : Nat) (t_length : Nat → Int32) (r0 : Int32) (hm : m_Code_longest F n_t t_length = some r0) (hp : post (some (.int r0)) [ob a_t 1 [.ref a_t_count, .ref a_t_length], ia Z a_t_length n_t t_length]) : J_Code_longest l Z mc ms post k n [ob a_t 1 [.ref a_t_count, .ref a_t_length], ia Z a_t_length n_t t_length] [(0, .ref a_t)] 0 [] := by
  unfold m_Code_longest at hm
  refine rw_iconst (pc := 0) (v := 0) rfl (rx_dt dt_Code_longest 0 rfl) ?_
  refine rw_istore_n (pc := 1) (lv' := [(1, .int (0 : Int32)), (0, .ref a_t)]) rfl (by decide) rfl (rx_dt dt_Code_longest 1 rfl) ?_
  refine rw_iconst (pc := 2) (v := 0) rfl (rx_dt dt_Code_longest 2 rfl) ?_
  refine rw_istore_n (pc := 3) (lv' := [(2, .int (0 : Int32)), (1, .int (0 : Int32)), (0, .ref a_t)]) rfl (by decide) rfl (rx_dt dt_Code_longest 3 rfl) ?_
  obtain ⟨v1_3, v2_3, hl, hm⟩ := bnd2_some hm
  refine rw_perm (lv' := [(0, .ref a_t), (1, .int (0 : Int32)), (2, .int (0 : Int32))]) (ws' := [ob a_t 1 [.ref a_t_count, .ref a_t_length], ia Z a_t_length n_t t_length]) [2, 1, 0] [0, 1] rfl rfl rfl ?_
  refine wl_Code_longest_4 l Z mc ms post k n F a_t a_t_count a_t_length n_t t_length F  (0 : Int32) (0 : Int32) v1_3 v2_3 hl ?_
  refine rw_iload_n (pc := 30) 0 rfl rfl (rx_dt dt_Code_longest 18 rfl) ?_
  refine rw_perm (lv' := []) (ws' := [ob a_t 1 [.ref a_t_count, .ref a_t_length], ia Z a_t_length n_t t_length]) [] [0, 1] rfl rfl rfl ?_
  cases hm
  exact rw_iret (pc := 31) (rx_dt dt_Code_longest 19 rfl) hp
theorem c_Code_longest (l : Launch) (Z : rx_D) (F : Nat) (a_t a_t_count a_t_length n_t : Nat) (t_length : Nat → Int32) (r0 : Int32) (hm : m_Code_longest F n_t t_length = some r0) : Cn l Z y_Code_longest b_Code_longest 3 (some .int) 1 [.ref a_t] [ob a_t 1 [.ref a_t_count, .ref a_t_length], ia Z a_t_length n_t t_length] 0 0 (fun r w => r = (some (.int r0)) ∧ w = [ob a_t 1 [.ref a_t_count, .ref a_t_length], ia Z a_t_length n_t t_length]) :=
  rx_met "DeflateEffort$Code" "longest" mf_Code_longest (Nat.le_of_ble_eq_true rfl) rfl (w_Code_longest l Z 0 0 _ 0 0 F a_t a_t_count a_t_length n_t t_length r0 hm ⟨rfl, rfl⟩)
abbrev J_Code_usedLengths (l : Launch) (Z : rx_D) (mc ms : Nat) (post : Option Value → va_W → Prop) := Rw l Z "DeflateEffort$Code" "usedLengths" b_Code_usedLengths 3 (some .int) 0 mc ms post
set_option maxRecDepth 100000 in
set_option maxHeartbeats 4000000 in
theorem wl_Code_usedLengths_6 (l : Launch) (Z : rx_D) (mc ms : Nat) (post : Option Value → va_W → Prop) (k n : Nat) (F : Nat) (a_t a_t_count a_t_length n_t : Nat) (t_length : Nat → Int32) (x1 : Int32) : ∀ (f : Nat)  (v2_1 : Int32) (v2_2 : Int32), L_Code_usedLengths_6 F n_t t_length x1 f v2_1 = some v2_2 → (J_Code_usedLengths l Z mc ms post k n [ob a_t 1 [.ref a_t_count, .ref a_t_length], ia Z a_t_length n_t t_length] [(2, .int v2_2)] 32 []) → J_Code_usedLengths l Z mc ms post k n [ob a_t 1 [.ref a_t_count, .ref a_t_length], ia Z a_t_length n_t t_length] [(0, .ref a_t), (1, .int x1), (2, .int v2_1)] 6 [] := by
  intro f
  induction f with
  | zero =>
    intro v2_1 v2_2 hm K
    cases hm
  | succ f ih =>
    intro v2_1 v2_2 hm K
    have hm : B_Code_usedLengths_6 F n_t t_length x1 (L_Code_usedLengths_6 F n_t t_length x1 f) v2_1 = some v2_2 := hm
    unfold B_Code_usedLengths_6 at hm
    refine rw_iload_n (pc := 6) 2 rfl rfl (rx_dt dt_Code_usedLengths 4 rfl) ?_
    refine rw_iload_n (pc := 7) 1 rfl rfl (rx_dt dt_Code_usedLengths 5 rfl) ?_
    rcases ite_some hm with ⟨hc, hm⟩ | ⟨hc, hm⟩
    · refine rw_icmp_le_t (pc := 8) (tgt := 32) hc (by decide) (rx_dt dt_Code_usedLengths 6 rfl) ?_
      refine rw_perm (lv' := [(2, .int v2_1)]) (ws' := [ob a_t 1 [.ref a_t_count, .ref a_t_length], ia Z a_t_length n_t t_length]) [2] [0, 1] rfl rfl rfl ?_
      cases hm
      exact K
    · refine rw_icmp_le_f (pc := 8) (tgt := 32) hc (by decide) (rx_dt dt_Code_usedLengths 6 rfl) ?_
      refine rw_iload_n (pc := 11) 2 rfl rfl (rx_dt dt_Code_usedLengths 7 rfl) ?_
      rcases ite_some hm with ⟨hc, hm⟩ | ⟨hc, hm⟩
      · refine rw_if_le_t (pc := 12) (tgt := 32) hc (by decide) (rx_dt dt_Code_usedLengths 8 rfl) ?_
        refine rw_perm (lv' := [(2, .int v2_1)]) (ws' := [ob a_t 1 [.ref a_t_count, .ref a_t_length], ia Z a_t_length n_t t_length]) [2] [0, 1] rfl rfl rfl ?_
        cases hm
        exact K
      · refine rw_if_le_f (pc := 12) (tgt := 32) hc (by decide) (rx_dt dt_Code_usedLengths 8 rfl) ?_
        refine rw_aload_n (pc := 15) 0 rfl rfl (rx_dt dt_Code_usedLengths 9 rfl) ?_
        refine rw_get fa_Code_19 (pc := 16) 0 rfl rfl (rx_dt dt_Code_usedLengths 10 rfl) ?_
        refine rw_iload_n (pc := 19) 2 rfl rfl (rx_dt dt_Code_usedLengths 11 rfl) ?_
        refine rw_iconst (pc := 20) (v := 1) rfl (rx_dt dt_Code_usedLengths 12 rfl) ?_
        refine rw_isub (pc := 21) (rx_dt dt_Code_usedLengths 13 rfl) ?_
        obtain ⟨hk1, hm⟩ := chk_some hm
        refine rw_iald (pc := 22) 1 rfl hk1 (rx_dt dt_Code_usedLengths 14 rfl) ?_
        rcases ite_some hm with ⟨hc, hm⟩ | ⟨hc, hm⟩
        · refine rw_if_ne_f (pc := 23) (tgt := 32) hc (by decide) (rx_dt dt_Code_usedLengths 15 rfl) ?_
          obtain ⟨y2, hy2, hm⟩ := nm_some hm
          refine rw_iinc (pc := 26) (lv' := [(2, .int y2), (0, .ref a_t), (1, .int x1)]) 2 rfl hy2 (by decide) rfl (rx_dt dt_Code_usedLengths 16 rfl) ?_
          refine rw_goto (pc := 29) (tgt := 6) (by decide) (rx_dt dt_Code_usedLengths 17 rfl) ?_
          refine rw_perm (lv' := [(0, .ref a_t), (1, .int x1), (2, .int y2)]) (ws' := [ob a_t 1 [.ref a_t_count, .ref a_t_length], ia Z a_t_length n_t t_length]) [1, 2, 0] [0, 1] rfl rfl rfl ?_
          exact ih  _ _ hm K
        · refine rw_if_ne_t (pc := 23) (tgt := 32) hc (by decide) (rx_dt dt_Code_usedLengths 15 rfl) ?_
          refine rw_perm (lv' := [(2, .int v2_1)]) (ws' := [ob a_t 1 [.ref a_t_count, .ref a_t_length], ia Z a_t_length n_t t_length]) [2] [0, 1] rfl rfl rfl ?_
          cases hm
          exact K
set_option maxRecDepth 100000 in
set_option maxHeartbeats 4000000 in
theorem w_Code_usedLengths (l : Launch) (Z : rx_D) (mc ms : Nat) (post : Option Value → va_W → Prop) (k n : Nat) (F : Nat) (a_t a_t_count a_t_length n_t : Nat) (t_length : Nat → Int32) (x1 : Int32) (r0 : Int32) (hm : m_Code_usedLengths F n_t t_length x1 = some r0) (hp : post (some (.int r0)) [ob a_t 1 [.ref a_t_count, .ref a_t_length], ia Z a_t_length n_t t_length]) : J_Code_usedLengths l Z mc ms post k n [ob a_t 1 [.ref a_t_count, .ref a_t_length], ia Z a_t_length n_t t_length] [(0, .ref a_t), (1, .int x1)] 0 [] := by
  unfold m_Code_usedLengths at hm
  refine rw_aload_n (pc := 0) 0 rfl rfl (rx_dt dt_Code_usedLengths 0 rfl) ?_
  refine rw_get fa_Code_19 (pc := 1) 0 rfl rfl (rx_dt dt_Code_usedLengths 1 rfl) ?_
  refine rw_alen (pc := 4) 1 rfl (rx_dt dt_Code_usedLengths 2 rfl) ?_
  obtain ⟨y1, hy1, hm⟩ := nm_some hm
  refine rw_nm hy1 ?_
  refine rw_istore_n (pc := 5) (lv' := [(2, .int y1), (0, .ref a_t), (1, .int x1)]) rfl (by decide) rfl (rx_dt dt_Code_usedLengths 3 rfl) ?_
  obtain ⟨v2_3, hl, hm⟩ := bnd1_some hm
  refine rw_perm (lv' := [(0, .ref a_t), (1, .int x1), (2, .int y1)]) (ws' := [ob a_t 1 [.ref a_t_count, .ref a_t_length], ia Z a_t_length n_t t_length]) [1, 2, 0] [0, 1] rfl rfl rfl ?_
  refine wl_Code_usedLengths_6 l Z mc ms post k n F a_t a_t_count a_t_length n_t t_length x1 F  y1 v2_3 hl ?_
  refine rw_iload_n (pc := 32) 0 rfl rfl (rx_dt dt_Code_usedLengths 18 rfl) ?_
  refine rw_perm (lv' := []) (ws' := [ob a_t 1 [.ref a_t_count, .ref a_t_length], ia Z a_t_length n_t t_length]) [] [0, 1] rfl rfl rfl ?_
  cases hm
  exact rw_iret (pc := 33) (rx_dt dt_Code_usedLengths 19 rfl) hp
theorem c_Code_usedLengths (l : Launch) (Z : rx_D) (F : Nat) (a_t a_t_count a_t_length n_t : Nat) (t_length : Nat → Int32) (x1 : Int32) (r0 : Int32) (hm : m_Code_usedLengths F n_t t_length x1 = some r0) : Cn l Z y_Code_usedLengths b_Code_usedLengths 3 (some .int) 0 [.ref a_t, .int x1] [ob a_t 1 [.ref a_t_count, .ref a_t_length], ia Z a_t_length n_t t_length] 0 0 (fun r w => r = (some (.int r0)) ∧ w = [ob a_t 1 [.ref a_t_count, .ref a_t_length], ia Z a_t_length n_t t_length]) :=
  rx_met "DeflateEffort$Code" "usedLengths" mf_Code_usedLengths (Nat.le_of_ble_eq_true rfl) rfl (w_Code_usedLengths l Z 0 0 _ 0 0 F a_t a_t_count a_t_length n_t t_length x1 r0 hm ⟨rfl, rfl⟩)
abbrev J_Code_halveCounts (l : Launch) (Z : rx_D) (mc ms : Nat) (post : Option Value → va_W → Prop) := Rw l Z "DeflateEffort$Code" "halveCounts" b_Code_halveCounts 2 none 0 mc ms post
set_option maxRecDepth 100000 in
set_option maxHeartbeats 4000000 in
theorem wl_Code_halveCounts_2 (l : Launch) (Z : rx_D) (mc ms : Nat) (post : Option Value → va_W → Prop) (k n : Nat) (F : Nat) (a_t a_t_count a_t_length n_t : Nat) : ∀ (f : Nat)  (v1_1 : Int32) (t_count1 : Nat → Int32) (v1_2 : Int32) (t_count2 : Nat → Int32), L_Code_halveCounts_2 F n_t f v1_1 t_count1 = some (v1_2, t_count2) → (J_Code_halveCounts l Z mc ms post k n [ob a_t 1 [.ref a_t_count, .ref a_t_length], ia Z a_t_count n_t t_count2] [] 33 []) → J_Code_halveCounts l Z mc ms post k n [ob a_t 1 [.ref a_t_count, .ref a_t_length], ia Z a_t_count n_t t_count1] [(0, .ref a_t), (1, .int v1_1)] 2 [] := by
  intro f
  induction f with
  | zero =>
    intro v1_1 t_count1 v1_2 t_count2 hm K
    cases hm
  | succ f ih =>
    intro v1_1 t_count1 v1_2 t_count2 hm K
    have hm : B_Code_halveCounts_2 F n_t (L_Code_halveCounts_2 F n_t f) v1_1 t_count1 = some (v1_2, t_count2) := hm
    unfold B_Code_halveCounts_2 at hm
    refine rw_iload_n (pc := 2) 1 rfl rfl (rx_dt dt_Code_halveCounts 2 rfl) ?_
    refine rw_aload_n (pc := 3) 0 rfl rfl (rx_dt dt_Code_halveCounts 3 rfl) ?_
    refine rw_get fa_Code_13 (pc := 4) 0 rfl rfl (rx_dt dt_Code_halveCounts 4 rfl) ?_
    refine rw_alen (pc := 7) 1 rfl (rx_dt dt_Code_halveCounts 5 rfl) ?_
    rcases ite_some hm with ⟨hc, hm⟩ | ⟨hc, hm⟩
    · refine rw_icmp_ge_t (pc := 8) (tgt := 33) hc (by decide) (rx_dt dt_Code_halveCounts 6 rfl) ?_
      refine rw_perm (lv' := []) (ws' := [ob a_t 1 [.ref a_t_count, .ref a_t_length], ia Z a_t_count n_t t_count1]) [] [0, 1] rfl rfl rfl ?_
      cases hm
      exact K
    · refine rw_icmp_ge_f (pc := 8) (tgt := 33) hc (by decide) (rx_dt dt_Code_halveCounts 6 rfl) ?_
      refine rw_aload_n (pc := 11) 0 rfl rfl (rx_dt dt_Code_halveCounts 7 rfl) ?_
      refine rw_get fa_Code_13 (pc := 12) 0 rfl rfl (rx_dt dt_Code_halveCounts 8 rfl) ?_
      refine rw_iload_n (pc := 15) 1 rfl rfl (rx_dt dt_Code_halveCounts 9 rfl) ?_
      refine rw_aload_n (pc := 16) 0 rfl rfl (rx_dt dt_Code_halveCounts 10 rfl) ?_
      refine rw_get fa_Code_13 (pc := 17) 0 rfl rfl (rx_dt dt_Code_halveCounts 11 rfl) ?_
      refine rw_iload_n (pc := 20) 1 rfl rfl (rx_dt dt_Code_halveCounts 12 rfl) ?_
      obtain ⟨hk1, hm⟩ := chk_some hm
      refine rw_iald (pc := 21) 1 rfl hk1 (rx_dt dt_Code_halveCounts 13 rfl) ?_
      refine rw_iconst (pc := 22) (v := 1) rfl (rx_dt dt_Code_halveCounts 14 rfl) ?_
      refine rw_iadd (pc := 23) (rx_dt dt_Code_halveCounts 15 rfl) ?_
      refine rw_iconst (pc := 24) (v := 2) rfl (rx_dt dt_Code_halveCounts 16 rfl) ?_
      refine rw_idiv (pc := 25) (by decide) (rx_dt dt_Code_halveCounts 17 rfl) ?_
      obtain ⟨hk2, hm⟩ := chk_some hm
      obtain ⟨t_count3, ht_count3, hm⟩ := nm_some hm
      refine rw_iast (pc := 26) (ws' := [ob a_t 1 [.ref a_t_count, .ref a_t_length], ia Z a_t_count n_t t_count3]) 1 rfl hk2 (by rw [← ht_count3]; rfl) (rx_dt dt_Code_halveCounts 18 rfl) ?_
      obtain ⟨y1, hy1, hm⟩ := nm_some hm
      refine rw_iinc (pc := 27) (lv' := [(1, .int y1), (0, .ref a_t)]) 1 rfl hy1 (by decide) rfl (rx_dt dt_Code_halveCounts 19 rfl) ?_
      refine rw_goto (pc := 30) (tgt := 2) (by decide) (rx_dt dt_Code_halveCounts 20 rfl) ?_
      refine rw_perm (lv' := [(0, .ref a_t), (1, .int y1)]) (ws' := [ob a_t 1 [.ref a_t_count, .ref a_t_length], ia Z a_t_count n_t t_count3]) [1, 0] [0, 1] rfl rfl rfl ?_
      exact ih  _ _ _ _ hm K
set_option maxRecDepth 100000 in
set_option maxHeartbeats 4000000 in
theorem w_Code_halveCounts (l : Launch) (Z : rx_D) (mc ms : Nat) (post : Option Value → va_W → Prop) (k n : Nat) (F : Nat) (a_t a_t_count a_t_length n_t : Nat) (t_count : Nat → Int32) (o_t_count : Nat → Int32) (hm : m_Code_halveCounts F n_t t_count = some o_t_count) (hp : post none [ob a_t 1 [.ref a_t_count, .ref a_t_length], ia Z a_t_count n_t o_t_count]) : J_Code_halveCounts l Z mc ms post k n [ob a_t 1 [.ref a_t_count, .ref a_t_length], ia Z a_t_count n_t t_count] [(0, .ref a_t)] 0 [] := by
  unfold m_Code_halveCounts at hm
  refine rw_iconst (pc := 0) (v := 0) rfl (rx_dt dt_Code_halveCounts 0 rfl) ?_
  refine rw_istore_n (pc := 1) (lv' := [(1, .int (0 : Int32)), (0, .ref a_t)]) rfl (by decide) rfl (rx_dt dt_Code_halveCounts 1 rfl) ?_
  obtain ⟨v1_3, t_count4, hl, hm⟩ := bnd2_some hm
  refine rw_perm (lv' := [(0, .ref a_t), (1, .int (0 : Int32))]) (ws' := [ob a_t 1 [.ref a_t_count, .ref a_t_length], ia Z a_t_count n_t t_count]) [1, 0] [0, 1] rfl rfl rfl ?_
  refine wl_Code_halveCounts_2 l Z mc ms post k n F a_t a_t_count a_t_length n_t F  (0 : Int32) t_count v1_3 t_count4 hl ?_
  cases hm
  exact rw_vret (pc := 33) (rx_dt dt_Code_halveCounts 21 rfl) hp
theorem c_Code_halveCounts (l : Launch) (Z : rx_D) (F : Nat) (a_t a_t_count a_t_length n_t : Nat) (t_count : Nat → Int32) (o_t_count : Nat → Int32) (hm : m_Code_halveCounts F n_t t_count = some o_t_count) : Cn l Z y_Code_halveCounts b_Code_halveCounts 2 none 0 [.ref a_t] [ob a_t 1 [.ref a_t_count, .ref a_t_length], ia Z a_t_count n_t t_count] 0 0 (fun r w => r = none ∧ w = [ob a_t 1 [.ref a_t_count, .ref a_t_length], ia Z a_t_count n_t o_t_count]) :=
  rx_met "DeflateEffort$Code" "halveCounts" mf_Code_halveCounts (Nat.le_of_ble_eq_true rfl) rfl (w_Code_halveCounts l Z 0 0 _ 0 0 F a_t a_t_count a_t_length n_t t_count o_t_count hm ⟨rfl, rfl⟩)
abbrev J_JA_fill (l : Launch) (Z : rx_D) (mc ms : Nat) (post : Option Value → va_W → Prop) := Rw l Z "java/util/Arrays" "fill" b_JA_fill 4 none 0 mc ms post
set_option maxRecDepth 100000 in
set_option maxHeartbeats 4000000 in
theorem wl_JA_fill_5 (l : Launch) (Z : rx_D) (mc ms : Nat) (post : Option Value → va_W → Prop) (k n : Nat) (F : Nat) (a_p0 n_p0 : Nat) (x1 y1 : Int32) : ∀ (f : Nat)  (v2_1 : Int32) (p1 : Nat → Int32) (v2_2 : Int32) (p2 : Nat → Int32), L_JA_fill_5 F n_p0 x1 y1 f v2_1 p1 = some (v2_2, p2) → (J_JA_fill l Z mc ms post k n [ia Z a_p0 n_p0 p2] [] 20 []) → J_JA_fill l Z mc ms post k n [ia Z a_p0 n_p0 p1] [(0, .ref a_p0), (1, .int x1), (2, .int v2_1), (3, .int y1)] 5 [] := by
  intro f
  induction f with
  | zero =>
    intro v2_1 p1 v2_2 p2 hm K
    cases hm
  | succ f ih =>
    intro v2_1 p1 v2_2 p2 hm K
    have hm : B_JA_fill_5 F n_p0 x1 y1 (L_JA_fill_5 F n_p0 x1 y1 f) v2_1 p1 = some (v2_2, p2) := hm
    unfold B_JA_fill_5 at hm
    refine rw_iload_n (pc := 5) 2 rfl rfl (rx_dt dt_JA_fill 5 rfl) ?_
    refine rw_iload_n (pc := 6) 3 rfl rfl (rx_dt dt_JA_fill 6 rfl) ?_
    rcases ite_some hm with ⟨hc, hm⟩ | ⟨hc, hm⟩
    · refine rw_icmp_ge_t (pc := 7) (tgt := 20) hc (by decide) (rx_dt dt_JA_fill 7 rfl) ?_
      refine rw_perm (lv' := []) (ws' := [ia Z a_p0 n_p0 p1]) [] [0] rfl rfl rfl ?_
      cases hm
      exact K
    · refine rw_icmp_ge_f (pc := 7) (tgt := 20) hc (by decide) (rx_dt dt_JA_fill 7 rfl) ?_
      refine rw_aload_n (pc := 10) 0 rfl rfl (rx_dt dt_JA_fill 8 rfl) ?_
      refine rw_iload_n (pc := 11) 2 rfl rfl (rx_dt dt_JA_fill 9 rfl) ?_
      refine rw_iload_n (pc := 12) 1 rfl rfl (rx_dt dt_JA_fill 10 rfl) ?_
      obtain ⟨hk1, hm⟩ := chk_some hm
      obtain ⟨p3, hp3, hm⟩ := nm_some hm
      refine rw_iast (pc := 13) (ws' := [ia Z a_p0 n_p0 p3]) 0 rfl hk1 (by rw [← hp3]; rfl) (rx_dt dt_JA_fill 11 rfl) ?_
      obtain ⟨y2, hy2, hm⟩ := nm_some hm
      refine rw_iinc (pc := 14) (lv' := [(2, .int y2), (0, .ref a_p0), (1, .int x1), (3, .int y1)]) 2 rfl hy2 (by decide) rfl (rx_dt dt_JA_fill 12 rfl) ?_
      refine rw_goto (pc := 17) (tgt := 5) (by decide) (rx_dt dt_JA_fill 13 rfl) ?_
      refine rw_perm (lv' := [(0, .ref a_p0), (1, .int x1), (2, .int y2), (3, .int y1)]) (ws' := [ia Z a_p0 n_p0 p3]) [1, 2, 0, 3] [0] rfl rfl rfl ?_
      exact ih  _ _ _ _ hm K
set_option maxRecDepth 100000 in
set_option maxHeartbeats 4000000 in
theorem w_JA_fill (l : Launch) (Z : rx_D) (mc ms : Nat) (post : Option Value → va_W → Prop) (k n : Nat) (F : Nat) (a_p0 n_p0 : Nat) (p0 : Nat → Int32) (x1 : Int32) (o_p0 : Nat → Int32) (hm : m_JA_fill F n_p0 p0 x1 = some o_p0) (hp : post none [ia Z a_p0 n_p0 o_p0]) : J_JA_fill l Z mc ms post k n [ia Z a_p0 n_p0 p0] [(0, .ref a_p0), (1, .int x1)] 0 [] := by
  unfold m_JA_fill at hm
  refine rw_iconst (pc := 0) (v := 0) rfl (rx_dt dt_JA_fill 0 rfl) ?_
  refine rw_istore_n (pc := 1) (lv' := [(2, .int (0 : Int32)), (0, .ref a_p0), (1, .int x1)]) rfl (by decide) rfl (rx_dt dt_JA_fill 1 rfl) ?_
  refine rw_aload_n (pc := 2) 1 rfl rfl (rx_dt dt_JA_fill 2 rfl) ?_
  refine rw_alen (pc := 3) 0 rfl (rx_dt dt_JA_fill 3 rfl) ?_
  obtain ⟨y1, hy1, hm⟩ := nm_some hm
  refine rw_nm hy1 ?_
  refine rw_istore_n (pc := 4) (lv' := [(3, .int y1), (2, .int (0 : Int32)), (0, .ref a_p0), (1, .int x1)]) rfl (by decide) rfl (rx_dt dt_JA_fill 4 rfl) ?_
  obtain ⟨v2_3, p4, hl, hm⟩ := bnd2_some hm
  refine rw_perm (lv' := [(0, .ref a_p0), (1, .int x1), (2, .int (0 : Int32)), (3, .int y1)]) (ws' := [ia Z a_p0 n_p0 p0]) [2, 3, 1, 0] [0] rfl rfl rfl ?_
  refine wl_JA_fill_5 l Z mc ms post k n F a_p0 n_p0 x1 y1 F  (0 : Int32) p0 v2_3 p4 hl ?_
  cases hm
  exact rw_vret (pc := 20) (rx_dt dt_JA_fill 14 rfl) hp
theorem c_JA_fill (l : Launch) (Z : rx_D) (F : Nat) (a_p0 n_p0 : Nat) (p0 : Nat → Int32) (x1 : Int32) (o_p0 : Nat → Int32) (hm : m_JA_fill F n_p0 p0 x1 = some o_p0) : Cn l Z y_JA_fill b_JA_fill 4 none 0 [.ref a_p0, .int x1] [ia Z a_p0 n_p0 p0] 0 0 (fun r w => r = none ∧ w = [ia Z a_p0 n_p0 o_p0]) :=
  rx_met "java/util/Arrays" "fill" mf_JA_fill (Nat.le_of_ble_eq_true rfl) rfl (w_JA_fill l Z 0 0 _ 0 0 F a_p0 n_p0 p0 x1 o_p0 hm ⟨rfl, rfl⟩)
abbrev J_Joiner_sort (l : Launch) (Z : rx_D) (mc ms : Nat) (post : Option Value → va_W → Prop) := Rw l Z "DeflateEffort$Joiner" "sort" b_Joiner_sort 5 (some .int) 0 mc ms post
set_option maxRecDepth 100000 in
set_option maxHeartbeats 4000000 in
theorem wl_Joiner_sort_28 (l : Launch) (Z : rx_D) (mc ms : Nat) (post : Option Value → va_W → Prop) (k n : Nat) (F : Nat) (a_p1 a_t a_t_above a_t_order a_t_weight n_p1 : Nat) (p1 : Nat → Int32) (v2_1 v3_1 : Int32) : ∀ (f : Nat)  (v4_1 : Int32) (t_order4 : Nat → Int32) (v4_2 : Int32) (t_order5 : Nat → Int32), L_Joiner_sort_28 F n_p1 p1 v3_1 f v4_1 t_order4 = some (v4_2, t_order5) → (J_Joiner_sort l Z mc ms post k n [ia Z a_p1 n_p1 p1, ob a_t 4 [.ref a_t_order, .ref a_t_weight, .ref a_t_above], ia Z a_t_order 286 t_order5] [(0, .ref a_t), (1, .ref a_p1), (2, .int v2_1), (3, .int v3_1), (4, .int v4_2)] 72 []) → J_Joiner_sort l Z mc ms post k n [ia Z a_p1 n_p1 p1, ob a_t 4 [.ref a_t_order, .ref a_t_weight, .ref a_t_above], ia Z a_t_order 286 t_order4] [(0, .ref a_t), (1, .ref a_p1), (2, .int v2_1), (3, .int v3_1), (4, .int v4_1)] 28 [] := by
  intro f
  induction f with
  | zero =>
    intro v4_1 t_order4 v4_2 t_order5 hm K
    cases hm
  | succ f ih =>
    intro v4_1 t_order4 v4_2 t_order5 hm K
    have hm : B_Joiner_sort_28 F n_p1 p1 v3_1 (L_Joiner_sort_28 F n_p1 p1 v3_1 f) v4_1 t_order4 = some (v4_2, t_order5) := hm
    unfold B_Joiner_sort_28 at hm
    refine rw_iload (pc := 28) 4 rfl (rx_dt dt_Joiner_sort 19 rfl) ?_
    rcases ite_some hm with ⟨hc, hm⟩ | ⟨hc, hm⟩
    · refine rw_if_le_t (pc := 30) (tgt := 72) hc (by decide) (rx_dt dt_Joiner_sort 20 rfl) ?_
      cases hm
      exact K
    · refine rw_if_le_f (pc := 30) (tgt := 72) hc (by decide) (rx_dt dt_Joiner_sort 20 rfl) ?_
      refine rw_aload_n (pc := 33) 1 rfl rfl (rx_dt dt_Joiner_sort 21 rfl) ?_
      refine rw_aload_n (pc := 34) 0 rfl rfl (rx_dt dt_Joiner_sort 22 rfl) ?_
      refine rw_get fa_Joiner_9 (pc := 35) 1 rfl rfl (rx_dt dt_Joiner_sort 23 rfl) ?_
      refine rw_iload (pc := 38) 4 rfl (rx_dt dt_Joiner_sort 24 rfl) ?_
      refine rw_iconst (pc := 40) (v := 1) rfl (rx_dt dt_Joiner_sort 25 rfl) ?_
      refine rw_isub (pc := 41) (rx_dt dt_Joiner_sort 26 rfl) ?_
      obtain ⟨hk2, hm⟩ := chk_some hm
      refine rw_iald (pc := 42) 2 rfl hk2 (rx_dt dt_Joiner_sort 27 rfl) ?_
      obtain ⟨hk3, hm⟩ := chk_some hm
      refine rw_iald (pc := 43) 0 rfl hk3 (rx_dt dt_Joiner_sort 28 rfl) ?_
      refine rw_aload_n (pc := 44) 1 rfl rfl (rx_dt dt_Joiner_sort 29 rfl) ?_
      refine rw_iload_n (pc := 45) 3 rfl rfl (rx_dt dt_Joiner_sort 30 rfl) ?_
      obtain ⟨hk4, hm⟩ := chk_some hm
      refine rw_iald (pc := 46) 0 rfl hk4 (rx_dt dt_Joiner_sort 31 rfl) ?_
      rcases ite_some hm with ⟨hc, hm⟩ | ⟨hc, hm⟩
      · refine rw_icmp_le_t (pc := 47) (tgt := 72) hc (by decide) (rx_dt dt_Joiner_sort 32 rfl) ?_
        cases hm
        exact K
      · refine rw_icmp_le_f (pc := 47) (tgt := 72) hc (by decide) (rx_dt dt_Joiner_sort 32 rfl) ?_
        refine rw_aload_n (pc := 50) 0 rfl rfl (rx_dt dt_Joiner_sort 33 rfl) ?_
        refine rw_get fa_Joiner_9 (pc := 51) 1 rfl rfl (rx_dt dt_Joiner_sort 34 rfl) ?_
        refine rw_iload (pc := 54) 4 rfl (rx_dt dt_Joiner_sort 35 rfl) ?_
        refine rw_aload_n (pc := 56) 0 rfl rfl (rx_dt dt_Joiner_sort 36 rfl) ?_
        refine rw_get fa_Joiner_9 (pc := 57) 1 rfl rfl (rx_dt dt_Joiner_sort 37 rfl) ?_
        refine rw_iload (pc := 60) 4 rfl (rx_dt dt_Joiner_sort 38 rfl) ?_
        refine rw_iconst (pc := 62) (v := 1) rfl (rx_dt dt_Joiner_sort 39 rfl) ?_
        refine rw_isub (pc := 63) (rx_dt dt_Joiner_sort 40 rfl) ?_
        obtain ⟨hk5, hm⟩ := chk_some hm
        refine rw_iald (pc := 64) 2 rfl hk5 (rx_dt dt_Joiner_sort 41 rfl) ?_
        obtain ⟨hk6, hm⟩ := chk_some hm
        obtain ⟨t_order6, ht_order6, hm⟩ := nm_some hm
        refine rw_iast (pc := 65) (ws' := [ia Z a_p1 n_p1 p1, ob a_t 4 [.ref a_t_order, .ref a_t_weight, .ref a_t_above], ia Z a_t_order 286 t_order6]) 2 rfl hk6 (by rw [← ht_order6]; rfl) (rx_dt dt_Joiner_sort 42 rfl) ?_
        obtain ⟨y1, hy1, hm⟩ := nm_some hm
        refine rw_iinc (pc := 66) (lv' := [(4, .int y1), (0, .ref a_t), (1, .ref a_p1), (2, .int v2_1), (3, .int v3_1)]) 4 rfl hy1 (by decide) rfl (rx_dt dt_Joiner_sort 43 rfl) ?_
        refine rw_goto (pc := 69) (tgt := 28) (by decide) (rx_dt dt_Joiner_sort 44 rfl) ?_
        refine rw_perm (lv' := [(0, .ref a_t), (1, .ref a_p1), (2, .int v2_1), (3, .int v3_1), (4, .int y1)]) (ws' := [ia Z a_p1 n_p1 p1, ob a_t 4 [.ref a_t_order, .ref a_t_weight, .ref a_t_above], ia Z a_t_order 286 t_order6]) [1, 2, 3, 4, 0] [0, 1, 2] rfl rfl rfl ?_
        exact ih  _ _ _ _ hm K
set_option maxRecDepth 100000 in
set_option maxHeartbeats 4000000 in
theorem wl_Joiner_sort_4 (l : Launch) (Z : rx_D) (mc ms : Nat) (post : Option Value → va_W → Prop) (k n : Nat) (F : Nat) (a_p1 a_t a_t_above a_t_order a_t_weight n_p1 : Nat) (p1 : Nat → Int32) : ∀ (f : Nat)  (v2_1 v3_1 : Int32) (t_order1 : Nat → Int32) (v2_2 v3_2 : Int32) (t_order2 : Nat → Int32), L_Joiner_sort_4 F n_p1 p1 f v2_1 v3_1 t_order1 = some (v2_2, v3_2, t_order2) → (J_Joiner_sort l Z mc ms post k n [ia Z a_p1 n_p1 p1, ob a_t 4 [.ref a_t_order, .ref a_t_weight, .ref a_t_above], ia Z a_t_order 286 t_order2] [(2, .int v2_2)] 89 []) → J_Joiner_sort l Z mc ms post k n [ia Z a_p1 n_p1 p1, ob a_t 4 [.ref a_t_order, .ref a_t_weight, .ref a_t_above], ia Z a_t_order 286 t_order1] [(0, .ref a_t), (1, .ref a_p1), (2, .int v2_1), (3, .int v3_1)] 4 [] := by
  intro f
  induction f with
  | zero =>
    intro v2_1 v3_1 t_order1 v2_2 v3_2 t_order2 hm K
    cases hm
  | succ f ih =>
    intro v2_1 v3_1 t_order1 v2_2 v3_2 t_order2 hm K
    have hm : B_Joiner_sort_4 F n_p1 p1 (L_Joiner_sort_4 F n_p1 p1 f) v2_1 v3_1 t_order1 = some (v2_2, v3_2, t_order2) := hm
    unfold B_Joiner_sort_4 at hm
    refine rw_iload_n (pc := 4) 3 rfl rfl (rx_dt dt_Joiner_sort 4 rfl) ?_
    refine rw_aload_n (pc := 5) 1 rfl rfl (rx_dt dt_Joiner_sort 5 rfl) ?_
    refine rw_alen (pc := 6) 0 rfl (rx_dt dt_Joiner_sort 6 rfl) ?_
    rcases ite_some hm with ⟨hc, hm⟩ | ⟨hc, hm⟩
    · refine rw_icmp_ge_t (pc := 7) (tgt := 89) hc (by decide) (rx_dt dt_Joiner_sort 7 rfl) ?_
      refine rw_perm (lv' := [(2, .int v2_1)]) (ws' := [ia Z a_p1 n_p1 p1, ob a_t 4 [.ref a_t_order, .ref a_t_weight, .ref a_t_above], ia Z a_t_order 286 t_order1]) [2] [0, 1, 2] rfl rfl rfl ?_
      cases hm
      exact K
    · refine rw_icmp_ge_f (pc := 7) (tgt := 89) hc (by decide) (rx_dt dt_Joiner_sort 7 rfl) ?_
      refine rw_iload_n (pc := 10) 2 rfl rfl (rx_dt dt_Joiner_sort 8 rfl) ?_
      refine rw_aload_n (pc := 11) 0 rfl rfl (rx_dt dt_Joiner_sort 9 rfl) ?_
      refine rw_get fa_Joiner_9 (pc := 12) 1 rfl rfl (rx_dt dt_Joiner_sort 10 rfl) ?_
      refine rw_alen (pc := 15) 2 rfl (rx_dt dt_Joiner_sort 11 rfl) ?_
      rcases ite_some hm with ⟨hc, hm⟩ | ⟨hc, hm⟩
      · refine rw_icmp_ge_t (pc := 16) (tgt := 89) hc (by decide) (rx_dt dt_Joiner_sort 12 rfl) ?_
        refine rw_perm (lv' := [(2, .int v2_1)]) (ws' := [ia Z a_p1 n_p1 p1, ob a_t 4 [.ref a_t_order, .ref a_t_weight, .ref a_t_above], ia Z a_t_order 286 t_order1]) [2] [0, 1, 2] rfl rfl rfl ?_
        cases hm
        exact K
      · refine rw_icmp_ge_f (pc := 16) (tgt := 89) hc (by decide) (rx_dt dt_Joiner_sort 12 rfl) ?_
        refine rw_aload_n (pc := 19) 1 rfl rfl (rx_dt dt_Joiner_sort 13 rfl) ?_
        refine rw_iload_n (pc := 20) 3 rfl rfl (rx_dt dt_Joiner_sort 14 rfl) ?_
        obtain ⟨hk1, hm⟩ := chk_some hm
        refine rw_iald (pc := 21) 0 rfl hk1 (rx_dt dt_Joiner_sort 15 rfl) ?_
        obtain ⟨z1, t_order3, hj, hm⟩ := bnd2_some hm
        have KJ : J_Joiner_sort l Z mc ms post k n [ia Z a_p1 n_p1 p1, ob a_t 4 [.ref a_t_order, .ref a_t_weight, .ref a_t_above], ia Z a_t_order 286 t_order3] [(0, .ref a_t), (1, .ref a_p1), (2, .int z1), (3, .int v3_1)] 83 [] := by
          obtain ⟨y3, hy3, hm⟩ := nm_some hm
          refine rw_iinc (pc := 83) (lv' := [(3, .int y3), (0, .ref a_t), (1, .ref a_p1), (2, .int z1)]) 3 rfl hy3 (by decide) rfl (rx_dt dt_Joiner_sort 51 rfl) ?_
          refine rw_goto (pc := 86) (tgt := 4) (by decide) (rx_dt dt_Joiner_sort 52 rfl) ?_
          refine rw_perm (lv' := [(0, .ref a_t), (1, .ref a_p1), (2, .int z1), (3, .int y3)]) (ws' := [ia Z a_p1 n_p1 p1, ob a_t 4 [.ref a_t_order, .ref a_t_weight, .ref a_t_above], ia Z a_t_order 286 t_order3]) [1, 2, 3, 0] [0, 1, 2] rfl rfl rfl ?_
          exact ih  _ _ _ _ _ _ hm K
        clear hm
        have hm := hj
        clear hj
        rcases ite_some hm with ⟨hc, hm⟩ | ⟨hc, hm⟩
        · refine rw_if_le_t (pc := 22) (tgt := 83) hc (by decide) (rx_dt dt_Joiner_sort 16 rfl) ?_
          cases hm
          exact KJ
        · refine rw_if_le_f (pc := 22) (tgt := 83) hc (by decide) (rx_dt dt_Joiner_sort 16 rfl) ?_
          refine rw_iload_n (pc := 25) 2 rfl rfl (rx_dt dt_Joiner_sort 17 rfl) ?_
          refine rw_istore (pc := 26) (lv' := [(4, .int v2_1), (0, .ref a_t), (1, .ref a_p1), (2, .int v2_1), (3, .int v3_1)]) (by decide) rfl (rx_dt dt_Joiner_sort 18 rfl) ?_
          obtain ⟨v4_3, t_order7, hl, hm⟩ := bnd2_some hm
          refine rw_perm (lv' := [(0, .ref a_t), (1, .ref a_p1), (2, .int v2_1), (3, .int v3_1), (4, .int v2_1)]) (ws' := [ia Z a_p1 n_p1 p1, ob a_t 4 [.ref a_t_order, .ref a_t_weight, .ref a_t_above], ia Z a_t_order 286 t_order1]) [1, 2, 3, 4, 0] [0, 1, 2] rfl rfl rfl ?_
          refine wl_Joiner_sort_28 l Z mc ms post k n F a_p1 a_t a_t_above a_t_order a_t_weight n_p1 p1 v2_1 v3_1 F  v2_1 t_order1 v4_3 t_order7 hl ?_
          refine rw_aload_n (pc := 72) 0 rfl rfl (rx_dt dt_Joiner_sort 45 rfl) ?_
          refine rw_get fa_Joiner_9 (pc := 73) 1 rfl rfl (rx_dt dt_Joiner_sort 46 rfl) ?_
          refine rw_iload (pc := 76) 4 rfl (rx_dt dt_Joiner_sort 47 rfl) ?_
          refine rw_iload_n (pc := 78) 3 rfl rfl (rx_dt dt_Joiner_sort 48 rfl) ?_
          obtain ⟨hk7, hm⟩ := chk_some hm
          obtain ⟨t_order8, ht_order8, hm⟩ := nm_some hm
          refine rw_iast (pc := 79) (ws' := [ia Z a_p1 n_p1 p1, ob a_t 4 [.ref a_t_order, .ref a_t_weight, .ref a_t_above], ia Z a_t_order 286 t_order8]) 2 rfl hk7 (by rw [← ht_order8]; rfl) (rx_dt dt_Joiner_sort 49 rfl) ?_
          obtain ⟨y2, hy2, hm⟩ := nm_some hm
          refine rw_iinc (pc := 80) (lv' := [(2, .int y2), (0, .ref a_t), (1, .ref a_p1), (3, .int v3_1), (4, .int v4_3)]) 2 rfl hy2 (by decide) rfl (rx_dt dt_Joiner_sort 50 rfl) ?_
          refine rw_perm (lv' := [(0, .ref a_t), (1, .ref a_p1), (2, .int y2), (3, .int v3_1)]) (ws' := [ia Z a_p1 n_p1 p1, ob a_t 4 [.ref a_t_order, .ref a_t_weight, .ref a_t_above], ia Z a_t_order 286 t_order8]) [1, 2, 0, 3] [0, 1, 2] rfl rfl rfl ?_
          cases hm
          exact KJ
set_option maxRecDepth 100000 in
set_option maxHeartbeats 4000000 in
theorem w_Joiner_sort (l : Launch) (Z : rx_D) (mc ms : Nat) (post : Option Value → va_W → Prop) (k n : Nat) (F : Nat) (a_p1 a_t a_t_above a_t_order a_t_weight n_p1 : Nat) (p1 t_order : Nat → Int32) (r0 : Int32) (o_t_order : Nat → Int32) (hm : m_Joiner_sort F n_p1 p1 t_order = some (r0, o_t_order)) (hp : post (some (.int r0)) [ia Z a_p1 n_p1 p1, ob a_t 4 [.ref a_t_order, .ref a_t_weight, .ref a_t_above], ia Z a_t_order 286 o_t_order]) : J_Joiner_sort l Z mc ms post k n [ia Z a_p1 n_p1 p1, ob a_t 4 [.ref a_t_order, .ref a_t_weight, .ref a_t_above], ia Z a_t_order 286 t_order] [(0, .ref a_t), (1, .ref a_p1)] 0 [] := by
  unfold m_Joiner_sort at hm
  refine rw_iconst (pc := 0) (v := 0) rfl (rx_dt dt_Joiner_sort 0 rfl) ?_
  refine rw_istore_n (pc := 1) (lv' := [(2, .int (0 : Int32)), (0, .ref a_t), (1, .ref a_p1)]) rfl (by decide) rfl (rx_dt dt_Joiner_sort 1 rfl) ?_
  refine rw_iconst (pc := 2) (v := 0) rfl (rx_dt dt_Joiner_sort 2 rfl) ?_
  refine rw_istore_n (pc := 3) (lv' := [(3, .int (0 : Int32)), (2, .int (0 : Int32)), (0, .ref a_t), (1, .ref a_p1)]) rfl (by decide) rfl (rx_dt dt_Joiner_sort 3 rfl) ?_
  obtain ⟨v2_3, v3_3, t_order9, hl, hm⟩ := bnd3_some hm
  refine rw_perm (lv' := [(0, .ref a_t), (1, .ref a_p1), (2, .int (0 : Int32)), (3, .int (0 : Int32))]) (ws' := [ia Z a_p1 n_p1 p1, ob a_t 4 [.ref a_t_order, .ref a_t_weight, .ref a_t_above], ia Z a_t_order 286 t_order]) [2, 3, 1, 0] [0, 1, 2] rfl rfl rfl ?_
  refine wl_Joiner_sort_4 l Z mc ms post k n F a_p1 a_t a_t_above a_t_order a_t_weight n_p1 p1 F  (0 : Int32) (0 : Int32) t_order v2_3 v3_3 t_order9 hl ?_
  refine rw_iload_n (pc := 89) 0 rfl rfl (rx_dt dt_Joiner_sort 53 rfl) ?_
  refine rw_perm (lv' := []) (ws' := [ia Z a_p1 n_p1 p1, ob a_t 4 [.ref a_t_order, .ref a_t_weight, .ref a_t_above], ia Z a_t_order 286 t_order9]) [] [0, 1, 2] rfl rfl rfl ?_
  cases hm
  exact rw_iret (pc := 90) (rx_dt dt_Joiner_sort 54 rfl) hp
theorem c_Joiner_sort (l : Launch) (Z : rx_D) (F : Nat) (a_p1 a_t a_t_above a_t_order a_t_weight n_p1 : Nat) (p1 t_order : Nat → Int32) (r0 : Int32) (o_t_order : Nat → Int32) (hm : m_Joiner_sort F n_p1 p1 t_order = some (r0, o_t_order)) : Cn l Z y_Joiner_sort b_Joiner_sort 5 (some .int) 0 [.ref a_t, .ref a_p1] [ia Z a_p1 n_p1 p1, ob a_t 4 [.ref a_t_order, .ref a_t_weight, .ref a_t_above], ia Z a_t_order 286 t_order] 0 0 (fun r w => r = (some (.int r0)) ∧ w = [ia Z a_p1 n_p1 p1, ob a_t 4 [.ref a_t_order, .ref a_t_weight, .ref a_t_above], ia Z a_t_order 286 o_t_order]) :=
  rx_met "DeflateEffort$Joiner" "sort" mf_Joiner_sort (Nat.le_of_ble_eq_true rfl) rfl (w_Joiner_sort l Z 0 0 _ 0 0 F a_p1 a_t a_t_above a_t_order a_t_weight n_p1 p1 t_order r0 o_t_order hm ⟨rfl, rfl⟩)
abbrev J_Joiner_joinInOrder (l : Launch) (Z : rx_D) (mc ms : Nat) (post : Option Value → va_W → Prop) := Rw l Z "DeflateEffort$Joiner" "joinInOrder" b_Joiner_joinInOrder 8 none 0 mc ms post
set_option maxRecDepth 100000 in
set_option maxHeartbeats 4000000 in
theorem wl_Joiner_joinInOrder_2 (l : Launch) (Z : rx_D) (mc ms : Nat) (post : Option Value → va_W → Prop) (k n : Nat) (F : Nat) (a_p1 a_t a_t_above a_t_order a_t_weight n_p1 : Nat) (p1 t_above t_order : Nat → Int32) (x2 : Int32) : ∀ (f : Nat)  (v3_1 : Int32) (t_weight1 : Nat → Int32) (v3_2 : Int32) (t_weight2 : Nat → Int32), L_Joiner_joinInOrder_2 F n_p1 p1 t_order x2 f v3_1 t_weight1 = some (v3_2, t_weight2) → (J_Joiner_joinInOrder l Z mc ms post k n [ia Z a_p1 n_p1 p1, ob a_t 4 [.ref a_t_order, .ref a_t_weight, .ref a_t_above], ia Z a_t_above 572 t_above, ia Z a_t_order 286 t_order, ia Z a_t_weight 572 t_weight2] [(0, .ref a_t), (2, .int x2)] 27 []) → J_Joiner_joinInOrder l Z mc ms post k n [ia Z a_p1 n_p1 p1, ob a_t 4 [.ref a_t_order, .ref a_t_weight, .ref a_t_above], ia Z a_t_above 572 t_above, ia Z a_t_order 286 t_order, ia Z a_t_weight 572 t_weight1] [(0, .ref a_t), (1, .ref a_p1), (2, .int x2), (3, .int v3_1)] 2 [] := by
  intro f
  induction f with
  | zero =>
    intro v3_1 t_weight1 v3_2 t_weight2 hm K
    cases hm
  | succ f ih =>
    intro v3_1 t_weight1 v3_2 t_weight2 hm K
    have hm : B_Joiner_joinInOrder_2 F n_p1 p1 t_order x2 (L_Joiner_joinInOrder_2 F n_p1 p1 t_order x2 f) v3_1 t_weight1 = some (v3_2, t_weight2) := hm
    unfold B_Joiner_joinInOrder_2 at hm
    refine rw_iload_n (pc := 2) 3 rfl rfl (rx_dt dt_Joiner_joinInOrder 2 rfl) ?_
    refine rw_iload_n (pc := 3) 2 rfl rfl (rx_dt dt_Joiner_joinInOrder 3 rfl) ?_
    rcases ite_some hm with ⟨hc, hm⟩ | ⟨hc, hm⟩
    · refine rw_icmp_ge_t (pc := 4) (tgt := 27) hc (by decide) (rx_dt dt_Joiner_joinInOrder 4 rfl) ?_
      refine rw_perm (lv' := [(0, .ref a_t), (2, .int x2)]) (ws' := [ia Z a_p1 n_p1 p1, ob a_t 4 [.ref a_t_order, .ref a_t_weight, .ref a_t_above], ia Z a_t_above 572 t_above, ia Z a_t_order 286 t_order, ia Z a_t_weight 572 t_weight1]) [0, 2] [0, 1, 2, 3, 4] rfl rfl rfl ?_
      cases hm
      exact K
    · refine rw_icmp_ge_f (pc := 4) (tgt := 27) hc (by decide) (rx_dt dt_Joiner_joinInOrder 4 rfl) ?_
      refine rw_aload_n (pc := 7) 0 rfl rfl (rx_dt dt_Joiner_joinInOrder 5 rfl) ?_
      refine rw_get fa_Joiner_15 (pc := 8) 1 rfl rfl (rx_dt dt_Joiner_joinInOrder 6 rfl) ?_
      refine rw_iload_n (pc := 11) 3 rfl rfl (rx_dt dt_Joiner_joinInOrder 7 rfl) ?_
      refine rw_aload_n (pc := 12) 1 rfl rfl (rx_dt dt_Joiner_joinInOrder 8 rfl) ?_
      refine rw_aload_n (pc := 13) 0 rfl rfl (rx_dt dt_Joiner_joinInOrder 9 rfl) ?_
      refine rw_get fa_Joiner_9 (pc := 14) 1 rfl rfl (rx_dt dt_Joiner_joinInOrder 10 rfl) ?_
      refine rw_iload_n (pc := 17) 3 rfl rfl (rx_dt dt_Joiner_joinInOrder 11 rfl) ?_
      obtain ⟨hk1, hm⟩ := chk_some hm
      refine rw_iald (pc := 18) 3 rfl hk1 (rx_dt dt_Joiner_joinInOrder 12 rfl) ?_
      obtain ⟨hk2, hm⟩ := chk_some hm
      refine rw_iald (pc := 19) 0 rfl hk2 (rx_dt dt_Joiner_joinInOrder 13 rfl) ?_
      obtain ⟨hk3, hm⟩ := chk_some hm
      obtain ⟨t_weight3, ht_weight3, hm⟩ := nm_some hm
      refine rw_iast (pc := 20) (ws' := [ia Z a_p1 n_p1 p1, ob a_t 4 [.ref a_t_order, .ref a_t_weight, .ref a_t_above], ia Z a_t_above 572 t_above, ia Z a_t_order 286 t_order, ia Z a_t_weight 572 t_weight3]) 4 rfl hk3 (by rw [← ht_weight3]; rfl) (rx_dt dt_Joiner_joinInOrder 14 rfl) ?_
      obtain ⟨y1, hy1, hm⟩ := nm_some hm
      refine rw_iinc (pc := 21) (lv' := [(3, .int y1), (0, .ref a_t), (1, .ref a_p1), (2, .int x2)]) 3 rfl hy1 (by decide) rfl (rx_dt dt_Joiner_joinInOrder 15 rfl) ?_
      refine rw_goto (pc := 24) (tgt := 2) (by decide) (rx_dt dt_Joiner_joinInOrder 16 rfl) ?_
      refine rw_perm (lv' := [(0, .ref a_t), (1, .ref a_p1), (2, .int x2), (3, .int y1)]) (ws' := [ia Z a_p1 n_p1 p1, ob a_t 4 [.ref a_t_order, .ref a_t_weight, .ref a_t_above], ia Z a_t_above 572 t_above, ia Z a_t_order 286 t_order, ia Z a_t_weight 572 t_weight3]) [1, 2, 3, 0] [0, 1, 2, 3, 4] rfl rfl rfl ?_
      exact ih  _ _ _ _ hm K
set_option maxRecDepth 100000 in
set_option maxHeartbeats 4000000 in
theorem wl_Joiner_joinInOrder_56 (l : Launch) (Z : rx_D) (mc ms : Nat) (post : Option Value → va_W → Prop) (k n : Nat) (F : Nat) (a_p1 a_t a_t_above a_t_order a_t_weight n_p1 : Nat) (p1 t_order : Nat → Int32) (v5_1 x2 : Int32) : ∀ (f : Nat)  (v3_6 v4_3 v6_1 : Int32) (t_above3 t_weight8 : Nat → Int32) (v3_7 v4_4 v6_2 : Int32) (t_above4 t_weight9 : Nat → Int32), L_Joiner_joinInOrder_56 F v5_1 x2 f v3_6 v4_3 v6_1 t_above3 t_weight8 = some (v3_7, v4_4, v6_2, t_above4, t_weight9) → (J_Joiner_joinInOrder l Z mc ms post k n [ia Z a_p1 n_p1 p1, ob a_t 4 [.ref a_t_order, .ref a_t_weight, .ref a_t_above], ia Z a_t_above 572 t_above4, ia Z a_t_order 286 t_order, ia Z a_t_weight 572 t_weight9] [(0, .ref a_t), (2, .int x2), (3, .int v3_7), (4, .int v4_4), (5, .int v5_1)] 138 []) → J_Joiner_joinInOrder l Z mc ms post k n [ia Z a_p1 n_p1 p1, ob a_t 4 [.ref a_t_order, .ref a_t_weight, .ref a_t_above], ia Z a_t_above 572 t_above3, ia Z a_t_order 286 t_order, ia Z a_t_weight 572 t_weight8] [(0, .ref a_t), (2, .int x2), (3, .int v3_6), (4, .int v4_3), (5, .int v5_1), (6, .int v6_1)] 56 [] := by
  intro f
  induction f with
  | zero =>
    intro v3_6 v4_3 v6_1 t_above3 t_weight8 v3_7 v4_4 v6_2 t_above4 t_weight9 hm K
    cases hm
  | succ f ih =>
    intro v3_6 v4_3 v6_1 t_above3 t_weight8 v3_7 v4_4 v6_2 t_above4 t_weight9 hm K
    have hm : B_Joiner_joinInOrder_56 F v5_1 x2 (L_Joiner_joinInOrder_56 F v5_1 x2 f) v3_6 v4_3 v6_1 t_above3 t_weight8 = some (v3_7, v4_4, v6_2, t_above4, t_weight9) := hm
    unfold B_Joiner_joinInOrder_56 at hm
    refine rw_iload (pc := 56) 5 rfl (rx_dt dt_Joiner_joinInOrder 37 rfl) ?_
    refine rw_iconst (pc := 58) (v := 2) rfl (rx_dt dt_Joiner_joinInOrder 38 rfl) ?_
    rcases ite_some hm with ⟨hc, hm⟩ | ⟨hc, hm⟩
    · refine rw_icmp_ge_t (pc := 59) (tgt := 138) hc (by decide) (rx_dt dt_Joiner_joinInOrder 39 rfl) ?_
      refine rw_perm (lv' := [(0, .ref a_t), (2, .int x2), (3, .int v3_6), (4, .int v4_3), (5, .int v5_1)]) (ws' := [ia Z a_p1 n_p1 p1, ob a_t 4 [.ref a_t_order, .ref a_t_weight, .ref a_t_above], ia Z a_t_above 572 t_above3, ia Z a_t_order 286 t_order, ia Z a_t_weight 572 t_weight8]) [0, 1, 2, 3, 4] [0, 1, 2, 3, 4] rfl rfl rfl ?_
      cases hm
      exact K
    · refine rw_icmp_ge_f (pc := 59) (tgt := 138) hc (by decide) (rx_dt dt_Joiner_joinInOrder 39 rfl) ?_
      refine rw_iload_n (pc := 62) 2 rfl rfl (rx_dt dt_Joiner_joinInOrder 40 rfl) ?_
      refine rw_iload_n (pc := 63) 1 rfl rfl (rx_dt dt_Joiner_joinInOrder 41 rfl) ?_
      obtain ⟨z1, z2, z3, hj, hm⟩ := bnd3_some hm
      have KJ : J_Joiner_joinInOrder l Z mc ms post k n [ia Z a_p1 n_p1 p1, ob a_t 4 [.ref a_t_order, .ref a_t_weight, .ref a_t_above], ia Z a_t_above 572 t_above3, ia Z a_t_order 286 t_order, ia Z a_t_weight 572 t_weight8] [(0, .ref a_t), (2, .int x2), (3, .int z1), (4, .int z2), (5, .int v5_1), (6, .int v6_1), (7, .int z3)] 106 [] := by
        refine rw_aload_n (pc := 106) 0 rfl rfl (rx_dt dt_Joiner_joinInOrder 62 rfl) ?_
        refine rw_get fa_Joiner_18 (pc := 107) 1 rfl rfl (rx_dt dt_Joiner_joinInOrder 63 rfl) ?_
        refine rw_iload (pc := 110) 6 rfl (rx_dt dt_Joiner_joinInOrder 64 rfl) ?_
        refine rw_iload (pc := 112) 4 rfl (rx_dt dt_Joiner_joinInOrder 65 rfl) ?_
        obtain ⟨hk7, hm⟩ := chk_some hm
        obtain ⟨t_above5, ht_above5, hm⟩ := nm_some hm
        refine rw_iast (pc := 114) (ws' := [ia Z a_p1 n_p1 p1, ob a_t 4 [.ref a_t_order, .ref a_t_weight, .ref a_t_above], ia Z a_t_above 572 t_above5, ia Z a_t_order 286 t_order, ia Z a_t_weight 572 t_weight8]) 2 rfl hk7 (by rw [← ht_above5]; rfl) (rx_dt dt_Joiner_joinInOrder 66 rfl) ?_
        refine rw_aload_n (pc := 115) 0 rfl rfl (rx_dt dt_Joiner_joinInOrder 67 rfl) ?_
        refine rw_get fa_Joiner_15 (pc := 116) 1 rfl rfl (rx_dt dt_Joiner_joinInOrder 68 rfl) ?_
        refine rw_iload (pc := 119) 4 rfl (rx_dt dt_Joiner_joinInOrder 69 rfl) ?_
        refine rw_dup2 (pc := 121) rfl rfl (rx_dt dt_Joiner_joinInOrder 70 rfl) ?_
        obtain ⟨hk8, hm⟩ := chk_some hm
        refine rw_iald (pc := 122) 4 rfl hk8 (rx_dt dt_Joiner_joinInOrder 71 rfl) ?_
        refine rw_aload_n (pc := 123) 0 rfl rfl (rx_dt dt_Joiner_joinInOrder 72 rfl) ?_
        refine rw_get fa_Joiner_15 (pc := 124) 1 rfl rfl (rx_dt dt_Joiner_joinInOrder 73 rfl) ?_
        refine rw_iload (pc := 127) 6 rfl (rx_dt dt_Joiner_joinInOrder 74 rfl) ?_
        obtain ⟨hk9, hm⟩ := chk_some hm
        refine rw_iald (pc := 129) 4 rfl hk9 (rx_dt dt_Joiner_joinInOrder 75 rfl) ?_
        refine rw_iadd (pc := 130) (rx_dt dt_Joiner_joinInOrder 76 rfl) ?_
        obtain ⟨hk10, hm⟩ := chk_some hm
        obtain ⟨t_weight10, ht_weight10, hm⟩ := nm_some hm
        refine rw_iast (pc := 131) (ws' := [ia Z a_p1 n_p1 p1, ob a_t 4 [.ref a_t_order, .ref a_t_weight, .ref a_t_above], ia Z a_t_above 572 t_above5, ia Z a_t_order 286 t_order, ia Z a_t_weight 572 t_weight10]) 4 rfl hk10 (by rw [← ht_weight10]; rfl) (rx_dt dt_Joiner_joinInOrder 77 rfl) ?_
        obtain ⟨y6, hy6, hm⟩ := nm_some hm
        refine rw_iinc (pc := 132) (lv' := [(6, .int y6), (0, .ref a_t), (2, .int x2), (3, .int z1), (4, .int z2), (5, .int v5_1), (7, .int z3)]) 5 rfl hy6 (by decide) rfl (rx_dt dt_Joiner_joinInOrder 78 rfl) ?_
        refine rw_goto (pc := 135) (tgt := 56) (by decide) (rx_dt dt_Joiner_joinInOrder 79 rfl) ?_
        refine rw_perm (lv' := [(0, .ref a_t), (2, .int x2), (3, .int z1), (4, .int z2), (5, .int v5_1), (6, .int y6)]) (ws' := [ia Z a_p1 n_p1 p1, ob a_t 4 [.ref a_t_order, .ref a_t_weight, .ref a_t_above], ia Z a_t_above 572 t_above5, ia Z a_t_order 286 t_order, ia Z a_t_weight 572 t_weight10]) [1, 2, 3, 4, 5, 0] [0, 1, 2, 3, 4] rfl rfl rfl ?_
        exact ih  _ _ _ _ _ _ _ _ _ _ hm K
      clear hm
      have hm := hj
      clear hj
      rcases ite_some hm with ⟨hc, hm⟩ | ⟨hc, hm⟩
      · refine rw_icmp_ge_t (pc := 64) (tgt := 99) hc (by decide) (rx_dt dt_Joiner_joinInOrder 42 rfl) ?_
        refine rw_iload (pc := 99) 3 rfl (rx_dt dt_Joiner_joinInOrder 59 rfl) ?_
        refine rw_istore (pc := 101) (lv' := [(7, .int v4_3), (0, .ref a_t), (2, .int x2), (3, .int v3_6), (4, .int v4_3), (5, .int v5_1), (6, .int v6_1)]) (by decide) rfl (rx_dt dt_Joiner_joinInOrder 60 rfl) ?_
        obtain ⟨y2, hy2, hm⟩ := nm_some hm
        refine rw_iinc (pc := 103) (lv' := [(4, .int y2), (7, .int v4_3), (0, .ref a_t), (2, .int x2), (3, .int v3_6), (5, .int v5_1), (6, .int v6_1)]) 4 rfl hy2 (by decide) rfl (rx_dt dt_Joiner_joinInOrder 61 rfl) ?_
        refine rw_perm (lv' := [(0, .ref a_t), (2, .int x2), (3, .int v3_6), (4, .int y2), (5, .int v5_1), (6, .int v6_1), (7, .int v4_3)]) (ws' := [ia Z a_p1 n_p1 p1, ob a_t 4 [.ref a_t_order, .ref a_t_weight, .ref a_t_above], ia Z a_t_above 572 t_above3, ia Z a_t_order 286 t_order, ia Z a_t_weight 572 t_weight8]) [2, 3, 4, 0, 5, 6, 1] [0, 1, 2, 3, 4] rfl rfl rfl ?_
        cases hm
        exact KJ
      · refine rw_icmp_ge_f (pc := 64) (tgt := 99) hc (by decide) (rx_dt dt_Joiner_joinInOrder 42 rfl) ?_
        refine rw_iload (pc := 67) 3 rfl (rx_dt dt_Joiner_joinInOrder 43 rfl) ?_
        refine rw_iload (pc := 69) 4 rfl (rx_dt dt_Joiner_joinInOrder 44 rfl) ?_
        rcases ite_some hm with ⟨hc, hm⟩ | ⟨hc, hm⟩
        · refine rw_icmp_ge_t (pc := 71) (tgt := 90) hc (by decide) (rx_dt dt_Joiner_joinInOrder 45 rfl) ?_
          refine rw_iload_n (pc := 90) 2 rfl rfl (rx_dt dt_Joiner_joinInOrder 55 rfl) ?_
          refine rw_istore (pc := 91) (lv' := [(7, .int v3_6), (0, .ref a_t), (2, .int x2), (3, .int v3_6), (4, .int v4_3), (5, .int v5_1), (6, .int v6_1)]) (by decide) rfl (rx_dt dt_Joiner_joinInOrder 56 rfl) ?_
          obtain ⟨y3, hy3, hm⟩ := nm_some hm
          refine rw_iinc (pc := 93) (lv' := [(3, .int y3), (7, .int v3_6), (0, .ref a_t), (2, .int x2), (4, .int v4_3), (5, .int v5_1), (6, .int v6_1)]) 3 rfl hy3 (by decide) rfl (rx_dt dt_Joiner_joinInOrder 57 rfl) ?_
          refine rw_goto (pc := 96) (tgt := 106) (by decide) (rx_dt dt_Joiner_joinInOrder 58 rfl) ?_
          refine rw_perm (lv' := [(0, .ref a_t), (2, .int x2), (3, .int y3), (4, .int v4_3), (5, .int v5_1), (6, .int v6_1), (7, .int v3_6)]) (ws' := [ia Z a_p1 n_p1 p1, ob a_t 4 [.ref a_t_order, .ref a_t_weight, .ref a_t_above], ia Z a_t_above 572 t_above3, ia Z a_t_order 286 t_order, ia Z a_t_weight 572 t_weight8]) [2, 3, 0, 4, 5, 6, 1] [0, 1, 2, 3, 4] rfl rfl rfl ?_
          cases hm
          exact KJ
        · refine rw_icmp_ge_f (pc := 71) (tgt := 90) hc (by decide) (rx_dt dt_Joiner_joinInOrder 45 rfl) ?_
          refine rw_aload_n (pc := 74) 0 rfl rfl (rx_dt dt_Joiner_joinInOrder 46 rfl) ?_
          refine rw_get fa_Joiner_15 (pc := 75) 1 rfl rfl (rx_dt dt_Joiner_joinInOrder 47 rfl) ?_
          refine rw_iload_n (pc := 78) 2 rfl rfl (rx_dt dt_Joiner_joinInOrder 48 rfl) ?_
          obtain ⟨hk5, hm⟩ := chk_some hm
          refine rw_iald (pc := 79) 4 rfl hk5 (rx_dt dt_Joiner_joinInOrder 49 rfl) ?_
          refine rw_aload_n (pc := 80) 0 rfl rfl (rx_dt dt_Joiner_joinInOrder 50 rfl) ?_
          refine rw_get fa_Joiner_15 (pc := 81) 1 rfl rfl (rx_dt dt_Joiner_joinInOrder 51 rfl) ?_
          refine rw_iload (pc := 84) 3 rfl (rx_dt dt_Joiner_joinInOrder 52 rfl) ?_
          obtain ⟨hk6, hm⟩ := chk_some hm
          refine rw_iald (pc := 86) 4 rfl hk6 (rx_dt dt_Joiner_joinInOrder 53 rfl) ?_
          rcases ite_some hm with ⟨hc, hm⟩ | ⟨hc, hm⟩
          · refine rw_icmp_gt_t (pc := 87) (tgt := 99) hc (by decide) (rx_dt dt_Joiner_joinInOrder 54 rfl) ?_
            refine rw_iload (pc := 99) 3 rfl (rx_dt dt_Joiner_joinInOrder 59 rfl) ?_
            refine rw_istore (pc := 101) (lv' := [(7, .int v4_3), (0, .ref a_t), (2, .int x2), (3, .int v3_6), (4, .int v4_3), (5, .int v5_1), (6, .int v6_1)]) (by decide) rfl (rx_dt dt_Joiner_joinInOrder 60 rfl) ?_
            obtain ⟨y4, hy4, hm⟩ := nm_some hm
            refine rw_iinc (pc := 103) (lv' := [(4, .int y4), (7, .int v4_3), (0, .ref a_t), (2, .int x2), (3, .int v3_6), (5, .int v5_1), (6, .int v6_1)]) 4 rfl hy4 (by decide) rfl (rx_dt dt_Joiner_joinInOrder 61 rfl) ?_
            refine rw_perm (lv' := [(0, .ref a_t), (2, .int x2), (3, .int v3_6), (4, .int y4), (5, .int v5_1), (6, .int v6_1), (7, .int v4_3)]) (ws' := [ia Z a_p1 n_p1 p1, ob a_t 4 [.ref a_t_order, .ref a_t_weight, .ref a_t_above], ia Z a_t_above 572 t_above3, ia Z a_t_order 286 t_order, ia Z a_t_weight 572 t_weight8]) [2, 3, 4, 0, 5, 6, 1] [0, 1, 2, 3, 4] rfl rfl rfl ?_
            cases hm
            exact KJ
          · refine rw_icmp_gt_f (pc := 87) (tgt := 99) hc (by decide) (rx_dt dt_Joiner_joinInOrder 54 rfl) ?_
            refine rw_iload_n (pc := 90) 2 rfl rfl (rx_dt dt_Joiner_joinInOrder 55 rfl) ?_
            refine rw_istore (pc := 91) (lv' := [(7, .int v3_6), (0, .ref a_t), (2, .int x2), (3, .int v3_6), (4, .int v4_3), (5, .int v5_1), (6, .int v6_1)]) (by decide) rfl (rx_dt dt_Joiner_joinInOrder 56 rfl) ?_
            obtain ⟨y5, hy5, hm⟩ := nm_some hm
            refine rw_iinc (pc := 93) (lv' := [(3, .int y5), (7, .int v3_6), (0, .ref a_t), (2, .int x2), (4, .int v4_3), (5, .int v5_1), (6, .int v6_1)]) 3 rfl hy5 (by decide) rfl (rx_dt dt_Joiner_joinInOrder 57 rfl) ?_
            refine rw_goto (pc := 96) (tgt := 106) (by decide) (rx_dt dt_Joiner_joinInOrder 58 rfl) ?_
            refine rw_perm (lv' := [(0, .ref a_t), (2, .int x2), (3, .int y5), (4, .int v4_3), (5, .int v5_1), (6, .int v6_1), (7, .int v3_6)]) (ws' := [ia Z a_p1 n_p1 p1, ob a_t 4 [.ref a_t_order, .ref a_t_weight, .ref a_t_above], ia Z a_t_above 572 t_above3, ia Z a_t_order 286 t_order, ia Z a_t_weight 572 t_weight8]) [2, 3, 0, 4, 5, 6, 1] [0, 1, 2, 3, 4] rfl rfl rfl ?_
            cases hm
            exact KJ
set_option maxRecDepth 100000 in
set_option maxHeartbeats 4000000 in
theorem wl_Joiner_joinInOrder_35 (l : Launch) (Z : rx_D) (mc ms : Nat) (post : Option Value → va_W → Prop) (k n : Nat) (F : Nat) (a_p1 a_t a_t_above a_t_order a_t_weight n_p1 : Nat) (p1 t_order : Nat → Int32) (x2 : Int32) : ∀ (f : Nat)  (v3_4 v4_1 v5_1 : Int32) (t_above1 t_weight5 : Nat → Int32) (v3_5 v4_2 v5_2 : Int32) (t_above2 t_weight6 : Nat → Int32), L_Joiner_joinInOrder_35 F x2 f v3_4 v4_1 v5_1 t_above1 t_weight5 = some (v3_5, v4_2, v5_2, t_above2, t_weight6) → (J_Joiner_joinInOrder l Z mc ms post k n [ia Z a_p1 n_p1 p1, ob a_t 4 [.ref a_t_order, .ref a_t_weight, .ref a_t_above], ia Z a_t_above 572 t_above2, ia Z a_t_order 286 t_order, ia Z a_t_weight 572 t_weight6] [] 144 []) → J_Joiner_joinInOrder l Z mc ms post k n [ia Z a_p1 n_p1 p1, ob a_t 4 [.ref a_t_order, .ref a_t_weight, .ref a_t_above], ia Z a_t_above 572 t_above1, ia Z a_t_order 286 t_order, ia Z a_t_weight 572 t_weight5] [(0, .ref a_t), (2, .int x2), (3, .int v3_4), (4, .int v4_1), (5, .int v5_1)] 35 [] := by
  intro f
  induction f with
  | zero =>
    intro v3_4 v4_1 v5_1 t_above1 t_weight5 v3_5 v4_2 v5_2 t_above2 t_weight6 hm K
    cases hm
  | succ f ih =>
    intro v3_4 v4_1 v5_1 t_above1 t_weight5 v3_5 v4_2 v5_2 t_above2 t_weight6 hm K
    have hm : B_Joiner_joinInOrder_35 F x2 (L_Joiner_joinInOrder_35 F x2 f) v3_4 v4_1 v5_1 t_above1 t_weight5 = some (v3_5, v4_2, v5_2, t_above2, t_weight6) := hm
    unfold B_Joiner_joinInOrder_35 at hm
    refine rw_iload (pc := 35) 4 rfl (rx_dt dt_Joiner_joinInOrder 23 rfl) ?_
    refine rw_iconst (pc := 37) (v := 2) rfl (rx_dt dt_Joiner_joinInOrder 24 rfl) ?_
    refine rw_iload_n (pc := 38) 1 rfl rfl (rx_dt dt_Joiner_joinInOrder 25 rfl) ?_
    refine rw_imul (pc := 39) (rx_dt dt_Joiner_joinInOrder 26 rfl) ?_
    refine rw_iconst (pc := 40) (v := 1) rfl (rx_dt dt_Joiner_joinInOrder 27 rfl) ?_
    refine rw_isub (pc := 41) (rx_dt dt_Joiner_joinInOrder 28 rfl) ?_
    rcases ite_some hm with ⟨hc, hm⟩ | ⟨hc, hm⟩
    · refine rw_icmp_ge_t (pc := 42) (tgt := 144) hc (by decide) (rx_dt dt_Joiner_joinInOrder 29 rfl) ?_
      refine rw_perm (lv' := []) (ws' := [ia Z a_p1 n_p1 p1, ob a_t 4 [.ref a_t_order, .ref a_t_weight, .ref a_t_above], ia Z a_t_above 572 t_above1, ia Z a_t_order 286 t_order, ia Z a_t_weight 572 t_weight5]) [] [0, 1, 2, 3, 4] rfl rfl rfl ?_
      cases hm
      exact K
    · refine rw_icmp_ge_f (pc := 42) (tgt := 144) hc (by decide) (rx_dt dt_Joiner_joinInOrder 29 rfl) ?_
      refine rw_aload_n (pc := 45) 0 rfl rfl (rx_dt dt_Joiner_joinInOrder 30 rfl) ?_
      refine rw_get fa_Joiner_15 (pc := 46) 1 rfl rfl (rx_dt dt_Joiner_joinInOrder 31 rfl) ?_
      refine rw_iload (pc := 49) 4 rfl (rx_dt dt_Joiner_joinInOrder 32 rfl) ?_
      refine rw_iconst (pc := 51) (v := 0) rfl (rx_dt dt_Joiner_joinInOrder 33 rfl) ?_
      obtain ⟨hk4, hm⟩ := chk_some hm
      obtain ⟨t_weight7, ht_weight7, hm⟩ := nm_some hm
      refine rw_iast (pc := 52) (ws' := [ia Z a_p1 n_p1 p1, ob a_t 4 [.ref a_t_order, .ref a_t_weight, .ref a_t_above], ia Z a_t_above 572 t_above1, ia Z a_t_order 286 t_order, ia Z a_t_weight 572 t_weight7]) 4 rfl hk4 (by rw [← ht_weight7]; rfl) (rx_dt dt_Joiner_joinInOrder 34 rfl) ?_
      refine rw_iconst (pc := 53) (v := 0) rfl (rx_dt dt_Joiner_joinInOrder 35 rfl) ?_
      refine rw_istore (pc := 54) (lv' := [(6, .int (0 : Int32)), (0, .ref a_t), (2, .int x2), (3, .int v3_4), (4, .int v4_1), (5, .int v5_1)]) (by decide) rfl (rx_dt dt_Joiner_joinInOrder 36 rfl) ?_
      obtain ⟨v3_8, v4_5, v6_3, t_above6, t_weight11, hl, hm⟩ := bnd5_some hm
      refine rw_perm (lv' := [(0, .ref a_t), (2, .int x2), (3, .int v3_4), (4, .int v4_1), (5, .int v5_1), (6, .int (0 : Int32))]) (ws' := [ia Z a_p1 n_p1 p1, ob a_t 4 [.ref a_t_order, .ref a_t_weight, .ref a_t_above], ia Z a_t_above 572 t_above1, ia Z a_t_order 286 t_order, ia Z a_t_weight 572 t_weight7]) [1, 2, 3, 4, 5, 0] [0, 1, 2, 3, 4] rfl rfl rfl ?_
      refine wl_Joiner_joinInOrder_56 l Z mc ms post k n F a_p1 a_t a_t_above a_t_order a_t_weight n_p1 p1 t_order v5_1 x2 F  v3_4 v4_1 (0 : Int32) t_above1 t_weight7 v3_8 v4_5 v6_3 t_above6 t_weight11 hl ?_
      obtain ⟨y7, hy7, hm⟩ := nm_some hm
      refine rw_iinc (pc := 138) (lv' := [(5, .int y7), (0, .ref a_t), (2, .int x2), (3, .int v3_8), (4, .int v4_5)]) 4 rfl hy7 (by decide) rfl (rx_dt dt_Joiner_joinInOrder 80 rfl) ?_
      refine rw_goto (pc := 141) (tgt := 35) (by decide) (rx_dt dt_Joiner_joinInOrder 81 rfl) ?_
      refine rw_perm (lv' := [(0, .ref a_t), (2, .int x2), (3, .int v3_8), (4, .int v4_5), (5, .int y7)]) (ws' := [ia Z a_p1 n_p1 p1, ob a_t 4 [.ref a_t_order, .ref a_t_weight, .ref a_t_above], ia Z a_t_above 572 t_above6, ia Z a_t_order 286 t_order, ia Z a_t_weight 572 t_weight11]) [1, 2, 3, 4, 0] [0, 1, 2, 3, 4] rfl rfl rfl ?_
      exact ih  _ _ _ _ _ _ _ _ _ _ hm K
set_option maxRecDepth 100000 in
set_option maxHeartbeats 4000000 in
theorem w_Joiner_joinInOrder (l : Launch) (Z : rx_D) (mc ms : Nat) (post : Option Value → va_W → Prop) (k n : Nat) (F : Nat) (a_p1 a_t a_t_above a_t_order a_t_weight n_p1 : Nat) (p1 t_above t_order t_weight : Nat → Int32) (x2 : Int32) (o_t_above o_t_weight : Nat → Int32) (hm : m_Joiner_joinInOrder F n_p1 p1 t_above t_order t_weight x2 = some (o_t_above, o_t_weight)) (hp : post none [ia Z a_p1 n_p1 p1, ob a_t 4 [.ref a_t_order, .ref a_t_weight, .ref a_t_above], ia Z a_t_above 572 o_t_above, ia Z a_t_order 286 t_order, ia Z a_t_weight 572 o_t_weight]) : J_Joiner_joinInOrder l Z mc ms post k n [ia Z a_p1 n_p1 p1, ob a_t 4 [.ref a_t_order, .ref a_t_weight, .ref a_t_above], ia Z a_t_above 572 t_above, ia Z a_t_order 286 t_order, ia Z a_t_weight 572 t_weight] [(0, .ref a_t), (1, .ref a_p1), (2, .int x2)] 0 [] := by
  unfold m_Joiner_joinInOrder at hm
  refine rw_iconst (pc := 0) (v := 0) rfl (rx_dt dt_Joiner_joinInOrder 0 rfl) ?_
  refine rw_istore_n (pc := 1) (lv' := [(3, .int (0 : Int32)), (0, .ref a_t), (1, .ref a_p1), (2, .int x2)]) rfl (by decide) rfl (rx_dt dt_Joiner_joinInOrder 1 rfl) ?_
  obtain ⟨v3_3, t_weight4, hl, hm⟩ := bnd2_some hm
  refine rw_perm (lv' := [(0, .ref a_t), (1, .ref a_p1), (2, .int x2), (3, .int (0 : Int32))]) (ws' := [ia Z a_p1 n_p1 p1, ob a_t 4 [.ref a_t_order, .ref a_t_weight, .ref a_t_above], ia Z a_t_above 572 t_above, ia Z a_t_order 286 t_order, ia Z a_t_weight 572 t_weight]) [1, 2, 3, 0] [0, 1, 2, 3, 4] rfl rfl rfl ?_
  refine wl_Joiner_joinInOrder_2 l Z mc ms post k n F a_p1 a_t a_t_above a_t_order a_t_weight n_p1 p1 t_above t_order x2 F  (0 : Int32) t_weight v3_3 t_weight4 hl ?_
  refine rw_iconst (pc := 27) (v := 0) rfl (rx_dt dt_Joiner_joinInOrder 17 rfl) ?_
  refine rw_istore_n (pc := 28) (lv' := [(3, .int (0 : Int32)), (0, .ref a_t), (2, .int x2)]) rfl (by decide) rfl (rx_dt dt_Joiner_joinInOrder 18 rfl) ?_
  refine rw_iload_n (pc := 29) 2 rfl rfl (rx_dt dt_Joiner_joinInOrder 19 rfl) ?_
  refine rw_istore (pc := 30) (lv' := [(4, .int x2), (3, .int (0 : Int32)), (0, .ref a_t), (2, .int x2)]) (by decide) rfl (rx_dt dt_Joiner_joinInOrder 20 rfl) ?_
  refine rw_iload_n (pc := 32) 3 rfl rfl (rx_dt dt_Joiner_joinInOrder 21 rfl) ?_
  refine rw_istore (pc := 33) (lv' := [(5, .int x2), (4, .int x2), (3, .int (0 : Int32)), (0, .ref a_t), (2, .int x2)]) (by decide) rfl (rx_dt dt_Joiner_joinInOrder 22 rfl) ?_
  obtain ⟨v3_9, v4_6, v5_3, t_above7, t_weight12, hl, hm⟩ := bnd5_some hm
  refine rw_perm (lv' := [(0, .ref a_t), (2, .int x2), (3, .int (0 : Int32)), (4, .int x2), (5, .int x2)]) (ws' := [ia Z a_p1 n_p1 p1, ob a_t 4 [.ref a_t_order, .ref a_t_weight, .ref a_t_above], ia Z a_t_above 572 t_above, ia Z a_t_order 286 t_order, ia Z a_t_weight 572 t_weight4]) [3, 4, 2, 1, 0] [0, 1, 2, 3, 4] rfl rfl rfl ?_
  refine wl_Joiner_joinInOrder_35 l Z mc ms post k n F a_p1 a_t a_t_above a_t_order a_t_weight n_p1 p1 t_order x2 F  (0 : Int32) x2 x2 t_above t_weight4 v3_9 v4_6 v5_3 t_above7 t_weight12 hl ?_
  cases hm
  exact rw_vret (pc := 144) (rx_dt dt_Joiner_joinInOrder 82 rfl) hp
theorem c_Joiner_joinInOrder (l : Launch) (Z : rx_D) (F : Nat) (a_p1 a_t a_t_above a_t_order a_t_weight n_p1 : Nat) (p1 t_above t_order t_weight : Nat → Int32) (x2 : Int32) (o_t_above o_t_weight : Nat → Int32) (hm : m_Joiner_joinInOrder F n_p1 p1 t_above t_order t_weight x2 = some (o_t_above, o_t_weight)) : Cn l Z y_Joiner_joinInOrder b_Joiner_joinInOrder 8 none 0 [.ref a_t, .ref a_p1, .int x2] [ia Z a_p1 n_p1 p1, ob a_t 4 [.ref a_t_order, .ref a_t_weight, .ref a_t_above], ia Z a_t_above 572 t_above, ia Z a_t_order 286 t_order, ia Z a_t_weight 572 t_weight] 0 0 (fun r w => r = none ∧ w = [ia Z a_p1 n_p1 p1, ob a_t 4 [.ref a_t_order, .ref a_t_weight, .ref a_t_above], ia Z a_t_above 572 o_t_above, ia Z a_t_order 286 t_order, ia Z a_t_weight 572 o_t_weight]) :=
  rx_met "DeflateEffort$Joiner" "joinInOrder" mf_Joiner_joinInOrder (Nat.le_of_ble_eq_true rfl) rfl (w_Joiner_joinInOrder l Z 0 0 _ 0 0 F a_p1 a_t a_t_above a_t_order a_t_weight n_p1 p1 t_above t_order t_weight x2 o_t_above o_t_weight hm ⟨rfl, rfl⟩)
abbrev J_Joiner_tellDepths (l : Launch) (Z : rx_D) (mc ms : Nat) (post : Option Value → va_W → Prop) := Rw l Z "DeflateEffort$Joiner" "tellDepths" b_Joiner_tellDepths 4 none 0 mc ms post
set_option maxRecDepth 100000 in
set_option maxHeartbeats 4000000 in
theorem wl_Joiner_tellDepths_17 (l : Launch) (Z : rx_D) (mc ms : Nat) (post : Option Value → va_W → Prop) (k n : Nat) (F : Nat) (a_p1 a_t a_t_above a_t_order a_t_weight n_p1 : Nat) (t_above t_order : Nat → Int32) (x2 : Int32) : ∀ (f : Nat)  (v3_1 : Int32) (p2 t_weight2 : Nat → Int32) (v3_2 : Int32) (p3 t_weight3 : Nat → Int32), L_Joiner_tellDepths_17 F n_p1 t_above t_order x2 f v3_1 p2 t_weight2 = some (v3_2, p3, t_weight3) → (J_Joiner_tellDepths l Z mc ms post k n [ia Z a_p1 n_p1 p3, ob a_t 4 [.ref a_t_order, .ref a_t_weight, .ref a_t_above], ia Z a_t_above 572 t_above, ia Z a_t_order 286 t_order, ia Z a_t_weight 572 t_weight3] [] 65 []) → J_Joiner_tellDepths l Z mc ms post k n [ia Z a_p1 n_p1 p2, ob a_t 4 [.ref a_t_order, .ref a_t_weight, .ref a_t_above], ia Z a_t_above 572 t_above, ia Z a_t_order 286 t_order, ia Z a_t_weight 572 t_weight2] [(0, .ref a_t), (1, .ref a_p1), (2, .int x2), (3, .int v3_1)] 17 [] := by
  intro f
  induction f with
  | zero =>
    intro v3_1 p2 t_weight2 v3_2 p3 t_weight3 hm K
    cases hm
  | succ f ih =>
    intro v3_1 p2 t_weight2 v3_2 p3 t_weight3 hm K
    have hm : B_Joiner_tellDepths_17 F n_p1 t_above t_order x2 (L_Joiner_tellDepths_17 F n_p1 t_above t_order x2 f) v3_1 p2 t_weight2 = some (v3_2, p3, t_weight3) := hm
    unfold B_Joiner_tellDepths_17 at hm
    refine rw_iload_n (pc := 17) 3 rfl rfl (rx_dt dt_Joiner_tellDepths 15 rfl) ?_
    rcases ite_some hm with ⟨hc, hm⟩ | ⟨hc, hm⟩
    · refine rw_if_lt_t (pc := 18) (tgt := 65) hc (by decide) (rx_dt dt_Joiner_tellDepths 16 rfl) ?_
      refine rw_perm (lv' := []) (ws' := [ia Z a_p1 n_p1 p2, ob a_t 4 [.ref a_t_order, .ref a_t_weight, .ref a_t_above], ia Z a_t_above 572 t_above, ia Z a_t_order 286 t_order, ia Z a_t_weight 572 t_weight2]) [] [0, 1, 2, 3, 4] rfl rfl rfl ?_
      cases hm
      exact K
    · refine rw_if_lt_f (pc := 18) (tgt := 65) hc (by decide) (rx_dt dt_Joiner_tellDepths 16 rfl) ?_
      refine rw_aload_n (pc := 21) 0 rfl rfl (rx_dt dt_Joiner_tellDepths 17 rfl) ?_
      refine rw_get fa_Joiner_15 (pc := 22) 1 rfl rfl (rx_dt dt_Joiner_tellDepths 18 rfl) ?_
      refine rw_iload_n (pc := 25) 3 rfl rfl (rx_dt dt_Joiner_tellDepths 19 rfl) ?_
      refine rw_aload_n (pc := 26) 0 rfl rfl (rx_dt dt_Joiner_tellDepths 20 rfl) ?_
      refine rw_get fa_Joiner_15 (pc := 27) 1 rfl rfl (rx_dt dt_Joiner_tellDepths 21 rfl) ?_
      refine rw_aload_n (pc := 30) 0 rfl rfl (rx_dt dt_Joiner_tellDepths 22 rfl) ?_
      refine rw_get fa_Joiner_18 (pc := 31) 1 rfl rfl (rx_dt dt_Joiner_tellDepths 23 rfl) ?_
      refine rw_iload_n (pc := 34) 3 rfl rfl (rx_dt dt_Joiner_tellDepths 24 rfl) ?_
      obtain ⟨hk2, hm⟩ := chk_some hm
      refine rw_iald (pc := 35) 2 rfl hk2 (rx_dt dt_Joiner_tellDepths 25 rfl) ?_
      obtain ⟨hk3, hm⟩ := chk_some hm
      refine rw_iald (pc := 36) 4 rfl hk3 (rx_dt dt_Joiner_tellDepths 26 rfl) ?_
      refine rw_iconst (pc := 37) (v := 1) rfl (rx_dt dt_Joiner_tellDepths 27 rfl) ?_
      refine rw_iadd (pc := 38) (rx_dt dt_Joiner_tellDepths 28 rfl) ?_
      obtain ⟨hk4, hm⟩ := chk_some hm
      obtain ⟨t_weight4, ht_weight4, hm⟩ := nm_some hm
      refine rw_iast (pc := 39) (ws' := [ia Z a_p1 n_p1 p2, ob a_t 4 [.ref a_t_order, .ref a_t_weight, .ref a_t_above], ia Z a_t_above 572 t_above, ia Z a_t_order 286 t_order, ia Z a_t_weight 572 t_weight4]) 4 rfl hk4 (by rw [← ht_weight4]; rfl) (rx_dt dt_Joiner_tellDepths 29 rfl) ?_
      refine rw_iload_n (pc := 40) 3 rfl rfl (rx_dt dt_Joiner_tellDepths 30 rfl) ?_
      refine rw_iload_n (pc := 41) 2 rfl rfl (rx_dt dt_Joiner_tellDepths 31 rfl) ?_
      obtain ⟨p4, hj, hm⟩ := bnd1_some hm
      have KJ : J_Joiner_tellDepths l Z mc ms post k n [ia Z a_p1 n_p1 p4, ob a_t 4 [.ref a_t_order, .ref a_t_weight, .ref a_t_above], ia Z a_t_above 572 t_above, ia Z a_t_order 286 t_order, ia Z a_t_weight 572 t_weight4] [(0, .ref a_t), (1, .ref a_p1), (2, .int x2), (3, .int v3_1)] 59 [] := by
        obtain ⟨y2, hy2, hm⟩ := nm_some hm
        refine rw_iinc (pc := 59) (lv' := [(3, .int y2), (0, .ref a_t), (1, .ref a_p1), (2, .int x2)]) 3 rfl hy2 (by decide) rfl (rx_dt dt_Joiner_tellDepths 43 rfl) ?_
        refine rw_goto (pc := 62) (tgt := 17) (by decide) (rx_dt dt_Joiner_tellDepths 44 rfl) ?_
        refine rw_perm (lv' := [(0, .ref a_t), (1, .ref a_p1), (2, .int x2), (3, .int y2)]) (ws' := [ia Z a_p1 n_p1 p4, ob a_t 4 [.ref a_t_order, .ref a_t_weight, .ref a_t_above], ia Z a_t_above 572 t_above, ia Z a_t_order 286 t_order, ia Z a_t_weight 572 t_weight4]) [1, 2, 3, 0] [0, 1, 2, 3, 4] rfl rfl rfl ?_
        exact ih  _ _ _ _ _ _ hm K
      clear hm
      have hm := hj
      clear hj
      rcases ite_some hm with ⟨hc, hm⟩ | ⟨hc, hm⟩
      · refine rw_icmp_ge_t (pc := 42) (tgt := 59) hc (by decide) (rx_dt dt_Joiner_tellDepths 32 rfl) ?_
        cases hm
        exact KJ
      · refine rw_icmp_ge_f (pc := 42) (tgt := 59) hc (by decide) (rx_dt dt_Joiner_tellDepths 32 rfl) ?_
        refine rw_aload_n (pc := 45) 1 rfl rfl (rx_dt dt_Joiner_tellDepths 33 rfl) ?_
        refine rw_aload_n (pc := 46) 0 rfl rfl (rx_dt dt_Joiner_tellDepths 34 rfl) ?_
        refine rw_get fa_Joiner_9 (pc := 47) 1 rfl rfl (rx_dt dt_Joiner_tellDepths 35 rfl) ?_
        refine rw_iload_n (pc := 50) 3 rfl rfl (rx_dt dt_Joiner_tellDepths 36 rfl) ?_
        obtain ⟨hk5, hm⟩ := chk_some hm
        refine rw_iald (pc := 51) 3 rfl hk5 (rx_dt dt_Joiner_tellDepths 37 rfl) ?_
        refine rw_aload_n (pc := 52) 0 rfl rfl (rx_dt dt_Joiner_tellDepths 38 rfl) ?_
        refine rw_get fa_Joiner_15 (pc := 53) 1 rfl rfl (rx_dt dt_Joiner_tellDepths 39 rfl) ?_
        refine rw_iload_n (pc := 56) 3 rfl rfl (rx_dt dt_Joiner_tellDepths 40 rfl) ?_
        obtain ⟨hk6, hm⟩ := chk_some hm
        refine rw_iald (pc := 57) 4 rfl hk6 (rx_dt dt_Joiner_tellDepths 41 rfl) ?_
        obtain ⟨hk7, hm⟩ := chk_some hm
        obtain ⟨p5, hp5, hm⟩ := nm_some hm
        refine rw_iast (pc := 58) (ws' := [ia Z a_p1 n_p1 p5, ob a_t 4 [.ref a_t_order, .ref a_t_weight, .ref a_t_above], ia Z a_t_above 572 t_above, ia Z a_t_order 286 t_order, ia Z a_t_weight 572 t_weight4]) 0 rfl hk7 (by rw [← hp5]; rfl) (rx_dt dt_Joiner_tellDepths 42 rfl) ?_
        cases hm
        exact KJ
set_option maxRecDepth 100000 in
set_option maxHeartbeats 4000000 in
theorem w_Joiner_tellDepths (l : Launch) (Z : rx_D) (mc ms : Nat) (post : Option Value → va_W → Prop) (k n : Nat) (F : Nat) (a_p1 a_t a_t_above a_t_order a_t_weight n_p1 : Nat) (p1 t_above t_order t_weight : Nat → Int32) (x2 : Int32) (o_p1 o_t_weight : Nat → Int32) (hm : m_Joiner_tellDepths F n_p1 p1 t_above t_order t_weight x2 = some (o_p1, o_t_weight)) (hp : post none [ia Z a_p1 n_p1 o_p1, ob a_t 4 [.ref a_t_order, .ref a_t_weight, .ref a_t_above], ia Z a_t_above 572 t_above, ia Z a_t_order 286 t_order, ia Z a_t_weight 572 o_t_weight]) : J_Joiner_tellDepths l Z mc ms post k n [ia Z a_p1 n_p1 p1, ob a_t 4 [.ref a_t_order, .ref a_t_weight, .ref a_t_above], ia Z a_t_above 572 t_above, ia Z a_t_order 286 t_order, ia Z a_t_weight 572 t_weight] [(0, .ref a_t), (1, .ref a_p1), (2, .int x2)] 0 [] := by
  unfold m_Joiner_tellDepths at hm
  refine rw_aload_n (pc := 0) 0 rfl rfl (rx_dt dt_Joiner_tellDepths 0 rfl) ?_
  refine rw_get fa_Joiner_15 (pc := 1) 1 rfl rfl (rx_dt dt_Joiner_tellDepths 1 rfl) ?_
  refine rw_iconst (pc := 4) (v := 2) rfl (rx_dt dt_Joiner_tellDepths 2 rfl) ?_
  refine rw_iload_n (pc := 5) 2 rfl rfl (rx_dt dt_Joiner_tellDepths 3 rfl) ?_
  refine rw_imul (pc := 6) (rx_dt dt_Joiner_tellDepths 4 rfl) ?_
  refine rw_iconst (pc := 7) (v := 2) rfl (rx_dt dt_Joiner_tellDepths 5 rfl) ?_
  refine rw_isub (pc := 8) (rx_dt dt_Joiner_tellDepths 6 rfl) ?_
  refine rw_iconst (pc := 9) (v := 0) rfl (rx_dt dt_Joiner_tellDepths 7 rfl) ?_
  obtain ⟨hk1, hm⟩ := chk_some hm
  obtain ⟨t_weight1, ht_weight1, hm⟩ := nm_some hm
  refine rw_iast (pc := 10) (ws' := [ia Z a_p1 n_p1 p1, ob a_t 4 [.ref a_t_order, .ref a_t_weight, .ref a_t_above], ia Z a_t_above 572 t_above, ia Z a_t_order 286 t_order, ia Z a_t_weight 572 t_weight1]) 4 rfl hk1 (by rw [← ht_weight1]; rfl) (rx_dt dt_Joiner_tellDepths 8 rfl) ?_
  refine rw_iconst (pc := 11) (v := 2) rfl (rx_dt dt_Joiner_tellDepths 9 rfl) ?_
  refine rw_iload_n (pc := 12) 2 rfl rfl (rx_dt dt_Joiner_tellDepths 10 rfl) ?_
  refine rw_imul (pc := 13) (rx_dt dt_Joiner_tellDepths 11 rfl) ?_
  refine rw_iconst (pc := 14) (v := 3) rfl (rx_dt dt_Joiner_tellDepths 12 rfl) ?_
  refine rw_isub (pc := 15) (rx_dt dt_Joiner_tellDepths 13 rfl) ?_
  obtain ⟨y1, hy1, hm⟩ := nm_some hm
  refine rw_nm hy1 ?_
  refine rw_istore_n (pc := 16) (lv' := [(3, .int y1), (0, .ref a_t), (1, .ref a_p1), (2, .int x2)]) rfl (by decide) rfl (rx_dt dt_Joiner_tellDepths 14 rfl) ?_
  obtain ⟨v3_3, p6, t_weight5, hl, hm⟩ := bnd3_some hm
  refine rw_perm (lv' := [(0, .ref a_t), (1, .ref a_p1), (2, .int x2), (3, .int y1)]) (ws' := [ia Z a_p1 n_p1 p1, ob a_t 4 [.ref a_t_order, .ref a_t_weight, .ref a_t_above], ia Z a_t_above 572 t_above, ia Z a_t_order 286 t_order, ia Z a_t_weight 572 t_weight1]) [1, 2, 3, 0] [0, 1, 2, 3, 4] rfl rfl rfl ?_
  refine wl_Joiner_tellDepths_17 l Z mc ms post k n F a_p1 a_t a_t_above a_t_order a_t_weight n_p1 t_above t_order x2 F  y1 p1 t_weight1 v3_3 p6 t_weight5 hl ?_
  cases hm
  exact rw_vret (pc := 65) (rx_dt dt_Joiner_tellDepths 45 rfl) hp
theorem c_Joiner_tellDepths (l : Launch) (Z : rx_D) (F : Nat) (a_p1 a_t a_t_above a_t_order a_t_weight n_p1 : Nat) (p1 t_above t_order t_weight : Nat → Int32) (x2 : Int32) (o_p1 o_t_weight : Nat → Int32) (hm : m_Joiner_tellDepths F n_p1 p1 t_above t_order t_weight x2 = some (o_p1, o_t_weight)) : Cn l Z y_Joiner_tellDepths b_Joiner_tellDepths 4 none 0 [.ref a_t, .ref a_p1, .int x2] [ia Z a_p1 n_p1 p1, ob a_t 4 [.ref a_t_order, .ref a_t_weight, .ref a_t_above], ia Z a_t_above 572 t_above, ia Z a_t_order 286 t_order, ia Z a_t_weight 572 t_weight] 0 0 (fun r w => r = none ∧ w = [ia Z a_p1 n_p1 o_p1, ob a_t 4 [.ref a_t_order, .ref a_t_weight, .ref a_t_above], ia Z a_t_above 572 t_above, ia Z a_t_order 286 t_order, ia Z a_t_weight 572 o_t_weight]) :=
  rx_met "DeflateEffort$Joiner" "tellDepths" mf_Joiner_tellDepths (Nat.le_of_ble_eq_true rfl) rfl (w_Joiner_tellDepths l Z 0 0 _ 0 0 F a_p1 a_t a_t_above a_t_order a_t_weight n_p1 p1 t_above t_order t_weight x2 o_p1 o_t_weight hm ⟨rfl, rfl⟩)
abbrev J_Joiner_join (l : Launch) (Z : rx_D) (mc ms : Nat) (post : Option Value → va_W → Prop) := Rw l Z "DeflateEffort$Joiner" "join" b_Joiner_join 3 none 1 mc ms post
set_option maxRecDepth 100000 in
set_option maxHeartbeats 4000000 in
theorem w_Joiner_join (l : Launch) (Z : rx_D) (mc ms : Nat) (post : Option Value → va_W → Prop) (k n : Nat) (F : Nat) (a_p1 a_p1_count a_p1_length a_t a_t_above a_t_order a_t_weight n_p1 : Nat) (p1_count p1_length t_above t_order t_weight : Nat → Int32) (o_p1_length o_t_above o_t_order o_t_weight : Nat → Int32) (hm : m_Joiner_join F n_p1 p1_count p1_length t_above t_order t_weight = some (o_p1_length, o_t_above, o_t_order, o_t_weight)) (hp : post none [ob a_p1 1 [.ref a_p1_count, .ref a_p1_length], ia Z a_p1_count n_p1 p1_count, ia Z a_p1_length n_p1 o_p1_length, ob a_t 4 [.ref a_t_order, .ref a_t_weight, .ref a_t_above], ia Z a_t_above 572 o_t_above, ia Z a_t_order 286 o_t_order, ia Z a_t_weight 572 o_t_weight]) : J_Joiner_join l Z mc ms post k n [ob a_p1 1 [.ref a_p1_count, .ref a_p1_length], ia Z a_p1_count n_p1 p1_count, ia Z a_p1_length n_p1 p1_length, ob a_t 4 [.ref a_t_order, .ref a_t_weight, .ref a_t_above], ia Z a_t_above 572 t_above, ia Z a_t_order 286 t_order, ia Z a_t_weight 572 t_weight] [(0, .ref a_t), (1, .ref a_p1)] 0 [] := by
  unfold m_Joiner_join at hm
  refine rw_aload_n (pc := 0) 1 rfl rfl (rx_dt dt_Joiner_join 0 rfl) ?_
  refine rw_get fa_Joiner_21 (pc := 1) 0 rfl rfl (rx_dt dt_Joiner_join 1 rfl) ?_
  refine rw_iconst (pc := 4) (v := 0) rfl (rx_dt dt_Joiner_join 2 rfl) ?_
  obtain ⟨p1_length1, hq, hm⟩ := bnd1_some hm
  refine rw_callS cw_JA_fill lk_Joiner_26 cs_JA_fill (c_JA_fill l Z F (a_p0 := a_p1_length) (n_p0 := n_p1) (p0 := p1_length) (x1 := (0 : Int32)) (o_p0 := p1_length1) hq) [2] [0, 1, 3, 4, 5, 6] rfl rfl rfl rfl (by decide) rfl (by decide) (fun h => h) (rest := []) (wr := [ob a_p1 1 [.ref a_p1_count, .ref a_p1_length], ia Z a_p1_count n_p1 p1_count, ob a_t 4 [.ref a_t_order, .ref a_t_weight, .ref a_t_above], ia Z a_t_above 572 t_above, ia Z a_t_order 286 t_order, ia Z a_t_weight 572 t_weight]) (Nat.le_of_ble_eq_true rfl) rfl (rx_dt dt_Joiner_join 3 rfl) (pc := 5) ?_
  rintro _ _ ⟨rfl, rfl⟩
  show J_Joiner_join l Z mc ms post k n [ob a_p1 1 [.ref a_p1_count, .ref a_p1_length], ia Z a_p1_count n_p1 p1_count, ob a_t 4 [.ref a_t_order, .ref a_t_weight, .ref a_t_above], ia Z a_t_above 572 t_above, ia Z a_t_order 286 t_order, ia Z a_t_weight 572 t_weight, ia Z a_p1_length n_p1 p1_length1] [(0, .ref a_t), (1, .ref a_p1)] 8 []
  refine rw_aload_n (pc := 8) 0 rfl rfl (rx_dt dt_Joiner_join 4 rfl) ?_
  refine rw_aload_n (pc := 9) 1 rfl rfl (rx_dt dt_Joiner_join 5 rfl) ?_
  refine rw_get fa_Joiner_32 (pc := 10) 0 rfl rfl (rx_dt dt_Joiner_join 6 rfl) ?_
  obtain ⟨r1, t_order1, hq, hm⟩ := bnd2_some hm
  refine rw_callV cw_Joiner_sort lk_Joiner_35 ci_Joiner_sort rfl (q := 2) rfl (c_Joiner_sort l Z F (a_p1 := a_p1_count) (a_t := a_t) (a_t_above := a_t_above) (a_t_order := a_t_order) (a_t_weight := a_t_weight) (n_p1 := n_p1) (p1 := p1_count) (t_order := t_order) (r0 := r1) (o_t_order := t_order1) hq) [1, 2, 4] [0, 3, 5, 6] rfl rfl rfl rfl (by decide) rfl (by decide) (fun h => h) (rest := []) (wr := [ob a_p1 1 [.ref a_p1_count, .ref a_p1_length], ia Z a_t_above 572 t_above, ia Z a_t_weight 572 t_weight, ia Z a_p1_length n_p1 p1_length1]) (Nat.le_of_ble_eq_true rfl) rfl (rx_dt dt_Joiner_join 7 rfl) (pc := 13) ?_
  rintro _ _ ⟨rfl, rfl⟩
  show J_Joiner_join l Z mc ms post k n [ob a_p1 1 [.ref a_p1_count, .ref a_p1_length], ia Z a_t_above 572 t_above, ia Z a_t_weight 572 t_weight, ia Z a_p1_length n_p1 p1_length1, ia Z a_p1_count n_p1 p1_count, ob a_t 4 [.ref a_t_order, .ref a_t_weight, .ref a_t_above], ia Z a_t_order 286 t_order1] [(0, .ref a_t), (1, .ref a_p1)] 16 [.int r1]
  refine rw_istore_n (pc := 16) (lv' := [(2, .int r1), (0, .ref a_t), (1, .ref a_p1)]) rfl (by decide) rfl (rx_dt dt_Joiner_join 8 rfl) ?_
  refine rw_iload_n (pc := 17) 0 rfl rfl (rx_dt dt_Joiner_join 9 rfl) ?_
  refine rw_iconst (pc := 18) (v := 1) rfl (rx_dt dt_Joiner_join 10 rfl) ?_
  obtain ⟨p1_length2, hj, hm⟩ := bnd1_some hm
  have KJ : J_Joiner_join l Z mc ms post k n [ob a_p1 1 [.ref a_p1_count, .ref a_p1_length], ia Z a_p1_count n_p1 p1_count, ia Z a_p1_length n_p1 p1_length2, ob a_t 4 [.ref a_t_order, .ref a_t_weight, .ref a_t_above], ia Z a_t_above 572 t_above, ia Z a_t_order 286 t_order1, ia Z a_t_weight 572 t_weight] [(0, .ref a_t), (1, .ref a_p1), (2, .int r1)] 34 [] := by
    refine rw_iload_n (pc := 34) 2 rfl rfl (rx_dt dt_Joiner_join 20 rfl) ?_
    refine rw_iconst (pc := 35) (v := 1) rfl (rx_dt dt_Joiner_join 21 rfl) ?_
    rcases ite_some hm with ⟨hc, hm⟩ | ⟨hc, hm⟩
    · refine rw_icmp_le_t (pc := 36) (tgt := 57) hc (by decide) (rx_dt dt_Joiner_join 22 rfl) ?_
      refine rw_perm (lv' := []) (ws' := [ob a_p1 1 [.ref a_p1_count, .ref a_p1_length], ia Z a_p1_count n_p1 p1_count, ia Z a_p1_length n_p1 p1_length2, ob a_t 4 [.ref a_t_order, .ref a_t_weight, .ref a_t_above], ia Z a_t_above 572 t_above, ia Z a_t_order 286 t_order1, ia Z a_t_weight 572 t_weight]) [] [0, 1, 2, 3, 4, 5, 6] rfl rfl rfl ?_
      cases hm
      exact rw_vret (pc := 57) (rx_dt dt_Joiner_join 33 rfl) hp
    · refine rw_icmp_le_f (pc := 36) (tgt := 57) hc (by decide) (rx_dt dt_Joiner_join 22 rfl) ?_
      refine rw_aload_n (pc := 39) 0 rfl rfl (rx_dt dt_Joiner_join 23 rfl) ?_
      refine rw_aload_n (pc := 40) 1 rfl rfl (rx_dt dt_Joiner_join 24 rfl) ?_
      refine rw_get fa_Joiner_32 (pc := 41) 0 rfl rfl (rx_dt dt_Joiner_join 25 rfl) ?_
      refine rw_iload_n (pc := 44) 2 rfl rfl (rx_dt dt_Joiner_join 26 rfl) ?_
      obtain ⟨t_above1, t_weight1, hq, hm⟩ := bnd2_some hm
      refine rw_callV cw_Joiner_joinInOrder lk_Joiner_39 ci_Joiner_joinInOrder rfl (q := 3) rfl (c_Joiner_joinInOrder l Z F (a_p1 := a_p1_count) (a_t := a_t) (a_t_above := a_t_above) (a_t_order := a_t_order) (a_t_weight := a_t_weight) (n_p1 := n_p1) (p1 := p1_count) (t_above := t_above) (t_order := t_order1) (t_weight := t_weight) (x2 := r1) (o_t_above := t_above1) (o_t_weight := t_weight1) hq) [1, 3, 4, 5, 6] [0, 2] rfl rfl rfl rfl (by decide) rfl (by decide) (fun h => h) (rest := []) (wr := [ob a_p1 1 [.ref a_p1_count, .ref a_p1_length], ia Z a_p1_length n_p1 p1_length2]) (Nat.le_of_ble_eq_true rfl) rfl (rx_dt dt_Joiner_join 27 rfl) (pc := 45) ?_
      rintro _ _ ⟨rfl, rfl⟩
      show J_Joiner_join l Z mc ms post k n [ob a_p1 1 [.ref a_p1_count, .ref a_p1_length], ia Z a_p1_length n_p1 p1_length2, ia Z a_p1_count n_p1 p1_count, ob a_t 4 [.ref a_t_order, .ref a_t_weight, .ref a_t_above], ia Z a_t_above 572 t_above1, ia Z a_t_order 286 t_order1, ia Z a_t_weight 572 t_weight1] [(0, .ref a_t), (1, .ref a_p1), (2, .int r1)] 48 []
      refine rw_aload_n (pc := 48) 0 rfl rfl (rx_dt dt_Joiner_join 28 rfl) ?_
      refine rw_aload_n (pc := 49) 1 rfl rfl (rx_dt dt_Joiner_join 29 rfl) ?_
      refine rw_get fa_Joiner_21 (pc := 50) 0 rfl rfl (rx_dt dt_Joiner_join 30 rfl) ?_
      refine rw_iload_n (pc := 53) 2 rfl rfl (rx_dt dt_Joiner_join 31 rfl) ?_
      obtain ⟨p1_length4, t_weight2, hq, hm⟩ := bnd2_some hm
      refine rw_callV cw_Joiner_tellDepths lk_Joiner_42 ci_Joiner_tellDepths rfl (q := 3) rfl (c_Joiner_tellDepths l Z F (a_p1 := a_p1_length) (a_t := a_t) (a_t_above := a_t_above) (a_t_order := a_t_order) (a_t_weight := a_t_weight) (n_p1 := n_p1) (p1 := p1_length2) (t_above := t_above1) (t_order := t_order1) (t_weight := t_weight1) (x2 := r1) (o_p1 := p1_length4) (o_t_weight := t_weight2) hq) [1, 3, 4, 5, 6] [0, 2] rfl rfl rfl rfl (by decide) rfl (by decide) (fun h => h) (rest := []) (wr := [ob a_p1 1 [.ref a_p1_count, .ref a_p1_length], ia Z a_p1_count n_p1 p1_count]) (Nat.le_of_ble_eq_true rfl) rfl (rx_dt dt_Joiner_join 32 rfl) (pc := 54) ?_
      rintro _ _ ⟨rfl, rfl⟩
      show J_Joiner_join l Z mc ms post k n [ob a_p1 1 [.ref a_p1_count, .ref a_p1_length], ia Z a_p1_count n_p1 p1_count, ia Z a_p1_length n_p1 p1_length4, ob a_t 4 [.ref a_t_order, .ref a_t_weight, .ref a_t_above], ia Z a_t_above 572 t_above1, ia Z a_t_order 286 t_order1, ia Z a_t_weight 572 t_weight2] [(0, .ref a_t), (1, .ref a_p1), (2, .int r1)] 57 []
      refine rw_perm (lv' := []) (ws' := [ob a_p1 1 [.ref a_p1_count, .ref a_p1_length], ia Z a_p1_count n_p1 p1_count, ia Z a_p1_length n_p1 p1_length4, ob a_t 4 [.ref a_t_order, .ref a_t_weight, .ref a_t_above], ia Z a_t_above 572 t_above1, ia Z a_t_order 286 t_order1, ia Z a_t_weight 572 t_weight2]) [] [0, 1, 2, 3, 4, 5, 6] rfl rfl rfl ?_
      cases hm
      exact rw_vret (pc := 57) (rx_dt dt_Joiner_join 33 rfl) hp
  clear hm
  have hm := hj
  clear hj
  rcases ite_some hm with ⟨hc, hm⟩ | ⟨hc, hm⟩
  · refine rw_icmp_ne_f (pc := 19) (tgt := 34) hc (by decide) (rx_dt dt_Joiner_join 11 rfl) ?_
    refine rw_aload_n (pc := 22) 2 rfl rfl (rx_dt dt_Joiner_join 12 rfl) ?_
    refine rw_get fa_Joiner_21 (pc := 23) 0 rfl rfl (rx_dt dt_Joiner_join 13 rfl) ?_
    refine rw_aload_n (pc := 26) 1 rfl rfl (rx_dt dt_Joiner_join 14 rfl) ?_
    refine rw_get fa_Joiner_9 (pc := 27) 5 rfl rfl (rx_dt dt_Joiner_join 15 rfl) ?_
    refine rw_iconst (pc := 30) (v := 0) rfl (rx_dt dt_Joiner_join 16 rfl) ?_
    obtain ⟨hk1, hm⟩ := chk_some hm
    refine rw_iald (pc := 31) 6 rfl hk1 (rx_dt dt_Joiner_join 17 rfl) ?_
    refine rw_iconst (pc := 32) (v := 1) rfl (rx_dt dt_Joiner_join 18 rfl) ?_
    obtain ⟨hk2, hm⟩ := chk_some hm
    obtain ⟨p1_length3, hp1_length3, hm⟩ := nm_some hm
    refine rw_iast (pc := 33) (ws' := [ob a_p1 1 [.ref a_p1_count, .ref a_p1_length], ia Z a_t_above 572 t_above, ia Z a_t_weight 572 t_weight, ia Z a_p1_length n_p1 p1_length3, ia Z a_p1_count n_p1 p1_count, ob a_t 4 [.ref a_t_order, .ref a_t_weight, .ref a_t_above], ia Z a_t_order 286 t_order1]) 3 rfl hk2 (by rw [← hp1_length3]; rfl) (rx_dt dt_Joiner_join 19 rfl) ?_
    refine rw_perm (lv' := [(0, .ref a_t), (1, .ref a_p1), (2, .int r1)]) (ws' := [ob a_p1 1 [.ref a_p1_count, .ref a_p1_length], ia Z a_p1_count n_p1 p1_count, ia Z a_p1_length n_p1 p1_length3, ob a_t 4 [.ref a_t_order, .ref a_t_weight, .ref a_t_above], ia Z a_t_above 572 t_above, ia Z a_t_order 286 t_order1, ia Z a_t_weight 572 t_weight]) [1, 2, 0] [0, 4, 3, 5, 1, 6, 2] rfl rfl rfl ?_
    cases hm
    exact KJ
  · refine rw_icmp_ne_t (pc := 19) (tgt := 34) hc (by decide) (rx_dt dt_Joiner_join 11 rfl) ?_
    refine rw_perm (lv' := [(0, .ref a_t), (1, .ref a_p1), (2, .int r1)]) (ws' := [ob a_p1 1 [.ref a_p1_count, .ref a_p1_length], ia Z a_p1_count n_p1 p1_count, ia Z a_p1_length n_p1 p1_length1, ob a_t 4 [.ref a_t_order, .ref a_t_weight, .ref a_t_above], ia Z a_t_above 572 t_above, ia Z a_t_order 286 t_order1, ia Z a_t_weight 572 t_weight]) [1, 2, 0] [0, 4, 3, 5, 1, 6, 2] rfl rfl rfl ?_
    cases hm
    exact KJ
theorem c_Joiner_join (l : Launch) (Z : rx_D) (F : Nat) (a_p1 a_p1_count a_p1_length a_t a_t_above a_t_order a_t_weight n_p1 : Nat) (p1_count p1_length t_above t_order t_weight : Nat → Int32) (o_p1_length o_t_above o_t_order o_t_weight : Nat → Int32) (hm : m_Joiner_join F n_p1 p1_count p1_length t_above t_order t_weight = some (o_p1_length, o_t_above, o_t_order, o_t_weight)) : Cn l Z y_Joiner_join b_Joiner_join 3 none 1 [.ref a_t, .ref a_p1] [ob a_p1 1 [.ref a_p1_count, .ref a_p1_length], ia Z a_p1_count n_p1 p1_count, ia Z a_p1_length n_p1 p1_length, ob a_t 4 [.ref a_t_order, .ref a_t_weight, .ref a_t_above], ia Z a_t_above 572 t_above, ia Z a_t_order 286 t_order, ia Z a_t_weight 572 t_weight] 0 0 (fun r w => r = none ∧ w = [ob a_p1 1 [.ref a_p1_count, .ref a_p1_length], ia Z a_p1_count n_p1 p1_count, ia Z a_p1_length n_p1 o_p1_length, ob a_t 4 [.ref a_t_order, .ref a_t_weight, .ref a_t_above], ia Z a_t_above 572 o_t_above, ia Z a_t_order 286 o_t_order, ia Z a_t_weight 572 o_t_weight]) :=
  rx_met "DeflateEffort$Joiner" "join" mf_Joiner_join (Nat.le_of_ble_eq_true rfl) rfl (w_Joiner_join l Z 0 0 _ 0 0 F a_p1 a_p1_count a_p1_length a_t a_t_above a_t_order a_t_weight n_p1 p1_count p1_length t_above t_order t_weight o_p1_length o_t_above o_t_order o_t_weight hm ⟨rfl, rfl⟩)
