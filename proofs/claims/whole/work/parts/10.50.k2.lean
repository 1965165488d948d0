/-! the calls that look at what was deflated -/
/-- what both keep of the last deflate -/
def dinv (tc st bc : Int32) (fr to kd bt sz mt rp tk came : Nat → Int32) (mcs mst mrd mbl : Int32) (bB bF bK bM bS bT mco : Nat → Int32) : Prop := ∃ (M q : Nat) (R : Nat → Nat), tc = nI M ∧ mbl = nI M ∧ M ≤ 4 ∧ bc = nI q ∧ q ≤ 4144 ∧ mcs = nI ((q + 7) / 8) ∧ mst = st ∧ Wr q came mco ∧ mrd = nI (sm R 0 M) ∧ (∀ s, s < M → ∃ j, j < 4 ∧ tk s = nI j ∧ rp j = nI (R s) ∧ bF s = fr j ∧ bS s = to j - fr j ∧ bK s = kd j ∧ bB s = bt j ∧ bT s = sz j ∧ bM s = mt j)
theorem s_bc (F q : Nat) (hq : q ≤ 4144) : m_Writer_byteCount F (nI q) = some (nI ((q + 7) / 8)) := by
  unfold m_Writer_byteCount
  simp (disch := omega) only [nm, z_lit, z_one, z_mone, z_neg1, z_neg2, z_pred, z_add, z_mul, z_sub, z_le, z_lt, z_eq, z_tn, z_chk, z_eqm, z_meq, z_lem, z_mle, z_ltm, z_mlt, z_eqq, z_qeq, z_leq, z_qle, z_ltq, z_qlt, z_m1m2, z_m2m1, z_m1m1, z_m2m2, z_bnd1, z_bnd2, z_bnd3, z_bnd4, z_bnd5, z_bnd6, z_bnd7, z_bnd8, z_bnd9, z_bnd10, z_bnd11, z_bnd12, z_bnd13, z_bnd14, z_bnd15, z_bnd16, z_max, z_min, z_n31, z_shl, z_shr, z_us, z_div, z_mod, z_and, z_or, z_xor, if_true, if_false]
theorem z_neg_not {x : Int32} (h : ¬ (x < 0)) : (x < (0 : Int32)) = False := eq_false h
theorem nI_nn {a : Nat} (ha : a < 2147483648) : (nI a < (0 : Int32)) = False := eq_false (by show ¬ (nI a < nI 0); rw [z_lt ha (by omega)]; omega)
theorem p_byteAt (F : Nat) (lg : Nat → Int64) (x1 tc st bc : Int32) (fr to kd bt sz mt rp tk came : Nat → Int32) (mcs mst mrd mbl : Int32) (bB bF bK bM bS bT mco : Nat → Int32) (D : dinv tc st bc fr to kd bt sz mt rp tk came mcs mst mrd mbl bB bF bK bM bS bT mco) : ∃ k lg' v, m_LW_byteAt F 1 bc came lg x1 = some (nI k, lg') ∧ m_MD_byteAt F mco mcs x1 = some (v, nI k) ∧ k ≤ 3 ∧ (k = 0 → lg' = upL0 lg v) := by
  obtain ⟨M, q, R, _, _, _, rfl, hq, rfl, _, ⟨y, w1, _, _⟩, _, _⟩ := D
  unfold m_LW_byteAt m_DE_byteAt m_MD_byteAt
  rw [s_bc F q hq]
  rcases s_w F ((q + 7) / 8) x1 (by omega) with ⟨a, ha, rfl, hw⟩ | ⟨hw, hx⟩
  · obtain ⟨e1, e2, e3⟩ := w1 a ha
    have c1 : (nI a < nI ((q + 7) / 8)) = True := eq_true (by rw [z_lt (by omega) (by omega)]; exact ha)
    unfold m_Writer_cameAt
    rw [hw]
    simp only [nI_nn (show a < 2147483648 by omega), if_false, z_bnd1, c1, if_true, z_chk (show a < 2147483648 by omega) (show a < 518 by omega), z_tn (show a < 2147483648 by omega), z_bnd2, e00L, ck01, n10, le00, z_chk (show a < 2147483648 by omega) (show a < 1300 by omega), nm, e1, e2]
    exact ⟨0, _, _, rfl, rfl, by omega, fun _ => rfl⟩
  · rw [hw]
    simp only [z_bnd1, n00, if_true, le10, if_false]
    rcases hx with hx | ⟨a, h1, h2, rfl⟩
    · rw [if_pos hx]
      simp only [z_bnd2, e30L, e33L, if_true, if_false]
      exact ⟨1, _, _, rfl, rfl, by omega, fun h => absurd h (by omega)⟩
    · have c1 : (nI a < nI ((q + 7) / 8)) = False := eq_false (by rw [z_lt (by omega) (by omega)]; omega)
      simp only [nI_nn h2, c1, if_false, z_bnd2, e30L, e33L, if_true]
      exact ⟨1, _, _, rfl, rfl, by omega, fun h => absurd h (by omega)⟩
theorem p_block (F : Nat) (lg : Nat → Int64) (x1 x2 tc st bc : Int32) (fr to kd bt sz mt rp tk came : Nat → Int32) (mcs mst mrd mbl : Int32) (bB bF bK bM bS bT mco : Nat → Int32) (D : dinv tc st bc fr to kd bt sz mt rp tk came mcs mst mrd mbl bB bF bK bM bS bT mco) : ∃ k lg' v, m_LW_block F 1 bt fr kd mt sz to tk tc lg x1 x2 = some (nI k, lg') ∧ m_MD_block F bB bF bK bM bS bT mbl x1 x2 = some (v, nI k) ∧ k ≤ 3 ∧ (k = 0 → lg' = upL0 lg v) := by
  obtain ⟨M, q, R, rfl, rfl, hM, _, _, _, _, _, _, hs⟩ := D
  unfold m_LW_block m_DE_block m_MD_block
  rcases s_w F M x1 (by omega) with ⟨a, ha, rfl, hw⟩ | ⟨hw, hx⟩
  · obtain ⟨j, hj, g1, g2, g3, g4, g5, g6, g7, g8⟩ := hs a ha
    have c1 : (nI a < nI M) = True := eq_true (by rw [z_lt (by omega) (by omega)]; exact ha)
    have tb_ : m_Cutter_takenBlock F tk (nI a) = some j := by
      unfold m_Cutter_takenBlock
      simp only [z_chk (show a < 2147483648 by omega) (show a < 4 by omega), z_tn (show a < 2147483648 by omega), g1, z_chk (show j < 2147483648 by omega) (show j < 4 by omega), z_tn (show j < 2147483648 by omega), nm]
    have cj : ∀ {α : Type} (x : Option α), chk (decide (j < 4)) x = x := fun x => by rw [decide_eq_true hj]; rfl
    rw [hw]
    simp only [nI_nn (show a < 2147483648 by omega), if_false, z_bnd1, c1, if_true, tb_, cj, n10, le00, z_chk (show a < 2147483648 by omega) (show a < 5 by omega), z_tn (show a < 2147483648 by omega), g3, g4, g5, g6, g7, g8]
    by_cases h0 : x2 = (0 : Int32)
    · simp only [h0, if_true, z_bnd2, e00L, ck01, nm]
      exact ⟨0, _, _, rfl, rfl, by omega, fun _ => rfl⟩
    · rw [if_neg h0, if_neg h0]
      by_cases h1 : x2 = (1 : Int32)
      · rw [if_pos h1, if_pos h1]; simp only [z_bnd2, e00L, if_true, ck01, nm]
        exact ⟨0, _, _, rfl, rfl, by omega, fun _ => rfl⟩
      · rw [if_neg h1, if_neg h1]
        by_cases h2 : x2 = (2 : Int32)
        · rw [if_pos h2, if_pos h2]; simp only [z_bnd2, e00L, if_true, ck01, nm]
          exact ⟨0, _, _, rfl, rfl, by omega, fun _ => rfl⟩
        · rw [if_neg h2, if_neg h2]
          by_cases h3 : x2 = (3 : Int32)
          · rw [if_pos h3, if_pos h3]; simp only [z_bnd2, e00L, if_true, ck01, nm]
            exact ⟨0, _, _, rfl, rfl, by omega, fun _ => rfl⟩
          · rw [if_neg h3, if_neg h3]
            by_cases h4 : x2 = (4 : Int32)
            · rw [if_pos h4, if_pos h4]; simp only [z_bnd2, e00L, if_true, ck01, nm]
              exact ⟨0, _, _, rfl, rfl, by omega, fun _ => rfl⟩
            · rw [if_neg h4, if_neg h4]
              by_cases h5 : x2 = (5 : Int32)
              · rw [if_pos h5, if_pos h5]; simp only [z_bnd2, e00L, if_true, ck01, nm]
                exact ⟨0, _, _, rfl, rfl, by omega, fun _ => rfl⟩
              · rw [if_neg h5, if_neg h5]; simp only [z_bnd2, e00L, if_true, ck01, nm]
                exact ⟨0, _, _, rfl, rfl, by omega, fun _ => rfl⟩
  · rw [hw]
    simp only [z_bnd1, n00, if_true, le10, if_false]
    rcases hx with hx | ⟨a, h1, h2, rfl⟩
    · rw [if_pos hx]
      simp only [z_bnd2, e30L, e33L, if_true, if_false]
      exact ⟨1, _, _, rfl, rfl, by omega, fun h => absurd h (by omega)⟩
    · have c1 : (nI a < nI M) = False := eq_false (by rw [z_lt (by omega) (by omega)]; omega)
      simp only [nI_nn h2, c1, if_false, z_bnd2, e30L, e33L, if_true]
      exact ⟨1, _, _, rfl, rfl, by omega, fun h => absurd h (by omega)⟩
theorem p_feedCoded (F nF : Nat) (cb : Nat → Nat) (C M : Nat → Int32) (lg : Nat → Int64) (x1 : Int32) (hr : fedr cb nF C M) : ∃ k n' C' M' cb' lg' v, m_LW_feedCoded F 1 C (nI nF) lg x1 = some (nI k, nI n', C', lg') ∧ m_MD_feedCoded F M (nI nF) x1 = some (v, nI k, nI n', M') ∧ k ≤ 3 ∧ (k = 0 → lg' = upL0 lg v) ∧ fedr cb' n' C' M' := by
  have hn := hr.1
  unfold m_LW_feedCoded m_DE_feedCoded m_MD_feedCoded
  rcases s_byte F x1 with ⟨a, ha, rfl, h1, h2⟩ | ⟨h1, h2⟩
  · rw [h1, h2]
    simp only [z_bnd1, n10, if_false]
    by_cases c : nF = 1200
    · have c1 : (nI nF < (1200 : Int32)) = False := eq_false (by show ¬ (nI nF < nI 1200); rw [z_lt (by omega) (by omega)]; omega)
      have c2 : (nI nF = (1200 : Int32)) = True := eq_true (by rw [c]; rfl)
      simp only [c1, c2, if_true, if_false, z_bnd1, z_bnd4, le20, e20L, e21L, e22L]
      exact ⟨2, nF, C, M, cb, lg, _, rfl, rfl, by omega, fun h => absurd h (by omega), hr⟩
    · have c1 : (nI nF < (1200 : Int32)) = True := eq_true (by show nI nF < nI 1200; rw [z_lt (by omega) (by omega)]; omega)
      have c2 : (nI nF = (1200 : Int32)) = False := eq_false (by show ¬ (nI nF = nI 1200); rw [z_eq (by omega) (by omega)]; exact c)
      have ea : nI nF + (1 : Int32) = nI (nF + 1) := by show nI nF + nI 1 = _; rw [z_add]
      simp only [c1, c2, if_true, if_false, z_bnd1, le00, z_chk (show nF < 2147483648 by omega) (show nF < 1200 by omega), z_tn (show nF < 2147483648 by omega), nm, ea, z_bnd4, e00L, ck01]
      refine ⟨0, nF + 1, _, _, fun j => if j = nF then a else cb j, _, _, rfl, rfl, by omega, fun _ => rfl, by omega, fun j hj => ?_⟩
      by_cases e : j = nF
      · subst e
        rw [z_updE, z_updE]; simp only [if_true]; exact ⟨trivial, trivial, ha⟩
      · rw [z_updN e, z_updN e]; simp only [e, if_false]; exact hr.2 j (by omega)
  · rw [h1, h2]
    simp only [z_bnd1, n00, if_true, z_bnd4, e10L, e11L, if_false, le10]
    exact ⟨1, nF, C, M, cb, lg, _, rfl, rfl, by omega, fun h => absurd h (by omega), hr⟩
theorem l_pass (F a m nF q : Nat) (came mco : Nat → Int32) (W : Wr q came mco) (hq : q ≤ 4144) (ha : a + m ≤ (q + 7) / 8) (hm : nF + m ≤ 1200) : ∀ (f i : Nat) (C M : Nat → Int32) (cb : Nat → Nat), i ≤ m → m - i < f → fedr cb (nF + i) C M → ∃ C' M' cb', L_DE_pass_76 F came (nI a) (nI m) f (nI i) (nI (nF + i)) C = some (nI m, nI (nF + m), C') ∧ L_MD_pass_80 F mco (nI a) (nI m) f (nI i) (nI (nF + i)) M = some (nI m, nI (nF + m), M') ∧ fedr cb' (nF + m) C' M' := by
  obtain ⟨y, w1, _, _⟩ := W
  intro f
  induction f with
  | zero => intros; omega
  | succ f ih =>
    intro i C M cb hi hf hr
    unfold L_DE_pass_76 B_DE_pass_76 L_MD_pass_80 B_MD_pass_80 m_Writer_cameAt
    by_cases h : m ≤ i
    · have e : i = m := by omega
      subst e
      exact ⟨C, M, cb, by simp (disch := omega) only [nm, z_lit, z_one, z_mone, z_neg1, z_neg2, z_pred, z_add, z_mul, z_sub, z_le, z_lt, z_eq, z_tn, z_chk, z_eqm, z_meq, z_lem, z_mle, z_ltm, z_mlt, z_eqq, z_qeq, z_leq, z_qle, z_ltq, z_qlt, z_m1m2, z_m2m1, z_m1m1, z_m2m2, z_bnd1, z_bnd2, z_bnd3, z_bnd4, z_bnd5, z_bnd6, z_bnd7, z_bnd8, z_bnd9, z_bnd10, z_bnd11, z_bnd12, z_bnd13, z_bnd14, z_bnd15, z_bnd16, z_max, z_min, z_n31, z_shl, z_shr, z_us, z_div, z_mod, z_and, z_or, z_xor, if_true, if_false, Nat.le_refl], by simp (disch := omega) only [nm, z_lit, z_one, z_mone, z_neg1, z_neg2, z_pred, z_add, z_mul, z_sub, z_le, z_lt, z_eq, z_tn, z_chk, z_eqm, z_meq, z_lem, z_mle, z_ltm, z_mlt, z_eqq, z_qeq, z_leq, z_qle, z_ltq, z_qlt, z_m1m2, z_m2m1, z_m1m1, z_m2m2, z_bnd1, z_bnd2, z_bnd3, z_bnd4, z_bnd5, z_bnd6, z_bnd7, z_bnd8, z_bnd9, z_bnd10, z_bnd11, z_bnd12, z_bnd13, z_bnd14, z_bnd15, z_bnd16, z_max, z_min, z_n31, z_shl, z_shr, z_us, z_div, z_mod, z_and, z_or, z_xor, if_true, if_false, Nat.le_refl], hr⟩
    · obtain ⟨e1, e2, e3⟩ := w1 (a + i) (by omega)
      have ea : nF + i + 1 = nF + (i + 1) := by omega
      obtain ⟨C', M', cb', q1, q2, q3⟩ := ih (i + 1) (upd C (nF + i) (nI (y (a + i)))) (upd M (nF + i) (nI (y (a + i)))) (fun j => if j = nF + i then y (a + i) else cb j) (by omega) (by omega) ⟨by omega, fun j hj => by
        by_cases e : j = nF + i
        · subst e
          rw [z_updE, z_updE]; simp only [if_true]; exact ⟨trivial, trivial, e3⟩
        · rw [z_updN e, z_updN e]; simp only [e, if_false]; exact hr.2 j (by omega)⟩
      refine ⟨C', M', cb', ?_, ?_, q3⟩
      · simp (disch := omega) only [nm, z_lit, z_one, z_mone, z_neg1, z_neg2, z_pred, z_add, z_mul, z_sub, z_le, z_lt, z_eq, z_tn, z_chk, z_eqm, z_meq, z_lem, z_mle, z_ltm, z_mlt, z_eqq, z_qeq, z_leq, z_qle, z_ltq, z_qlt, z_m1m2, z_m2m1, z_m1m1, z_m2m2, z_bnd1, z_bnd2, z_bnd3, z_bnd4, z_bnd5, z_bnd6, z_bnd7, z_bnd8, z_bnd9, z_bnd10, z_bnd11, z_bnd12, z_bnd13, z_bnd14, z_bnd15, z_bnd16, z_max, z_min, z_n31, z_shl, z_shr, z_us, z_div, z_mod, z_and, z_or, z_xor, if_true, if_false, h, e1, ea]
        exact q1
      · simp (disch := omega) only [nm, z_lit, z_one, z_mone, z_neg1, z_neg2, z_pred, z_add, z_mul, z_sub, z_le, z_lt, z_eq, z_tn, z_chk, z_eqm, z_meq, z_lem, z_mle, z_ltm, z_mlt, z_eqq, z_qeq, z_leq, z_qle, z_ltq, z_qlt, z_m1m2, z_m2m1, z_m1m1, z_m2m2, z_bnd1, z_bnd2, z_bnd3, z_bnd4, z_bnd5, z_bnd6, z_bnd7, z_bnd8, z_bnd9, z_bnd10, z_bnd11, z_bnd12, z_bnd13, z_bnd14, z_bnd15, z_bnd16, z_max, z_min, z_n31, z_shl, z_shr, z_us, z_div, z_mod, z_and, z_or, z_xor, if_true, if_false, h, e2, ea]
        exact q2
