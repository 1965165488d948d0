/-! more calls by both -/
theorem p_pass (F nF : Nat) (cb : Nat → Nat) (C M : Nat → Int32) (lg : Nat → Int64) (x1 x2 tc st bc : Int32) (fr to kd bt sz mt rp tk came : Nat → Int32) (mcs mst mrd mbl : Int32) (bB bF bK bM bS bT mco : Nat → Int32) (hF : 100000 ≤ F) (hr : fedr cb nF C M) (D : dinv tc st bc fr to kd bt sz mt rp tk came mcs mst mrd mbl bB bF bK bM bS bT mco) : ∃ k n' C' M' cb' lg' v, m_LW_pass F 1 C (nI nF) bc came lg x1 x2 = some (nI k, nI n', C', lg') ∧ m_MD_pass F mco mcs M (nI nF) x1 x2 = some (v, nI k, nI n', M') ∧ k ≤ 3 ∧ (k = 0 → lg' = upL0 lg v) ∧ fedr cb' n' C' M' := by
  have hn := hr.1
  obtain ⟨_, q, R, _, _, _, rfl, hq, rfl, _, W, _, _⟩ := D
  unfold m_LW_pass m_DE_pass m_MD_pass
  rw [s_bc F q hq]
  generalize hcs : (q + 7) / 8 = cs_ at *
  rcases s_w F cs_ x1 (by omega) with ⟨a, ha, rfl, hw⟩ | ⟨hw, hx⟩
  · have c1 : (nI a < nI cs_) = True := eq_true (by rw [z_lt (by omega) (by omega)]; exact ha)
    have es : nI cs_ - nI a = nI (cs_ - a) := z_sub (by omega)
    rw [hw]
    simp only [z_bnd1, nI_nn (show a < 2147483648 by omega), c1, if_true, if_false, n10, es]
    rcases z_case x2 with hx2 | ⟨m, hm, rfl⟩
    · have d1 : ((0 : Int32) ≤ x2) = False := z_neg_lt hx2 (k := 0) (by omega)
      simp only [d1, if_false, z_bnd4, e10L, e11L, e13L, if_true]
      by_cases d2 : x2 ≤ nI (cs_ - a)
      · rw [if_pos d2]
        simp only [z_bnd1, le20, if_false]
        exact ⟨2, nF, C, M, cb, lg, _, rfl, rfl, by omega, fun h => absurd h (by omega), hr⟩
      · rw [if_neg d2]
        simp only [z_bnd1, le20, if_false]
        exact ⟨2, nF, C, M, cb, lg, _, rfl, rfl, by omega, fun h => absurd h (by omega), hr⟩
    · have d1 : ((0 : Int32) ≤ nI m) = True := eq_true (by show nI 0 ≤ nI m; rw [z_le (by omega) hm]; omega)
      have ez : (if nI m ≤ nI (cs_ - a) then some (nI m) else some (nI (cs_ - a))) = some (nI (min m (cs_ - a))) := by
        by_cases c : m ≤ cs_ - a
        · rw [if_pos (by rw [z_le hm (by omega)]; exact c), Nat.min_eq_left c]
        · rw [if_neg (by rw [z_le hm (by omega)]; exact c), Nat.min_eq_right (by omega)]
      have em : imin (nI m) (nI (cs_ - a)) = nI (min m (cs_ - a)) := z_min hm (by omega)
      have e12 : (1200 : Int32) - nI nF = nI (1200 - nF) := z_sub (show nF ≤ 1200 from hn)
      rw [ez]
      simp only [d1, if_true, em, nm, z_bnd1, e12, z_add]
      have hml : min m (cs_ - a) ≤ cs_ - a := Nat.min_le_right _ _
      generalize min m (cs_ - a) = w at *
      by_cases c : nF + w ≤ 1200
      · have d2 : (nI w ≤ nI (1200 - nF)) = True := eq_true (by rw [z_le (by omega) (by omega)]; omega)
        have d3 : (nI (nF + w) ≤ (1200 : Int32)) = True := eq_true (by show nI _ ≤ nI 1200; rw [z_le (by omega) (by omega)]; exact c)
        obtain ⟨C', M', cb', q1, q2, q3⟩ := l_pass F a w nF q came mco W hq (by omega) c F 0 C M cb (by omega) (by omega) hr
        rw [Nat.add_zero] at q1 q2
        simp only [d2, d3, if_true, z_bnd1, le00]
        rw [show (0 : Int32) = nI 0 from rfl, q1, q2]
        simp only [z_bnd3, z_bnd4, e00L, if_true]
        exact ⟨0, nF + w, C', M', cb', upL0 lg (nI w), _, rfl, rfl, by omega, fun _ => rfl, q3⟩
      · have d2 : (nI w ≤ nI (1200 - nF)) = False := eq_false (by rw [z_le (by omega) (by omega)]; omega)
        have d3 : (nI (nF + w) ≤ (1200 : Int32)) = False := eq_false (by show ¬ (nI _ ≤ nI 1200); rw [z_le (by omega) (by omega)]; exact c)
        simp only [d2, d3, if_false, z_bnd1, z_bnd4, le30, e20L, e23L, e21L, e22L, if_true]
        exact ⟨3, nF, C, M, cb, lg, _, rfl, rfl, by omega, fun h => absurd h (by omega), hr⟩
  · rw [hw]
    have key : ∃ z, (if x2 ≤ (nI cs_ - x1) then some x2 else some (nI cs_ - x1)) = some z := by
      by_cases c : x2 ≤ (nI cs_ - x1)
      · rw [if_pos c]; exact ⟨_, rfl⟩
      · rw [if_neg c]; exact ⟨_, rfl⟩
    obtain ⟨z, hz⟩ := key
    rw [hz]
    simp only [z_bnd1, n00, if_true, le10, if_false]
    rcases hx with hx | ⟨a, h1, h2, rfl⟩
    · rw [if_pos hx]
      simp only [z_bnd4, e30L, e33L, if_true, if_false]
      exact ⟨1, nF, C, M, cb, lg, _, rfl, rfl, by omega, fun h => absurd h (by omega), hr⟩
    · have c1 : (nI a < nI cs_) = False := eq_false (by rw [z_lt (by omega) (by omega)]; omega)
      simp only [nI_nn h2, c1, if_false, z_bnd4, e30L, e33L, if_true]
      exact ⟨1, nF, C, M, cb, lg, _, rfl, rfl, by omega, fun h => absurd h (by omega), hr⟩
theorem p_alter (F nF : Nat) (cb : Nat → Nat) (C M : Nat → Int32) (lg : Nat → Int64) (x1 x2 : Int32) (hr : fedr cb nF C M) : ∃ k C' M' cb' lg' v, m_LW_alter F 1 C (nI nF) lg x1 x2 = some (nI k, C', lg') ∧ m_MD_alter F M (nI nF) x1 x2 = some (v, nI k, M') ∧ k ≤ 3 ∧ (k = 0 → lg' = upL0 lg v) ∧ fedr cb' nF C' M' := by
  have hn := hr.1
  unfold m_LW_alter m_DE_alter m_MD_alter
  rcases s_w F nF x1 (by omega) with ⟨a, ha, rfl, hw⟩ | ⟨hw, hx⟩
  · have c1 : (nI a < nI nF) = True := eq_true (by rw [z_lt (by omega) (by omega)]; exact ha)
    obtain ⟨e1, e2, e3⟩ := hr.2 a ha
    rw [hw]
    simp only [z_bnd1, nI_nn (show a < 2147483648 by omega), c1, if_true, if_false, n10]
    rcases s_byte F x2 with ⟨v, hv, rfl, h1, h2⟩ | ⟨h1, h2⟩
    · rw [h1, h2]
      simp only [z_bnd1, n10, if_false, le00, if_true, z_chk (show a < 2147483648 by omega) (show a < 1200 by omega), z_tn (show a < 2147483648 by omega), nm, z_bnd3, e00L, ck01, e1, e2]
      refine ⟨0, _, _, fun j => if j = a then v else cb j, _, _, rfl, rfl, by omega, fun _ => rfl, hn, fun j hj => ?_⟩
      by_cases e : j = a
      · subst e
        rw [z_updE, z_updE]; simp only [if_true]; exact ⟨trivial, trivial, hv⟩
      · rw [z_updN e, z_updN e]; simp only [e, if_false]; exact hr.2 j hj
    · rw [h1, h2]
      simp only [z_bnd1, n00, if_true, z_bnd3, e10L, e11L, e13L, if_false, le20]
      exact ⟨2, C, M, cb, lg, _, rfl, rfl, by omega, fun h => absurd h (by omega), hr⟩
  · rw [hw]
    simp only [z_bnd1, n00, if_true, le10, if_false]
    rcases hx with hx | ⟨a, h1, h2, rfl⟩
    · rw [if_pos hx]
      simp only [z_bnd3, e30L, e33L, if_true, if_false]
      exact ⟨1, C, M, cb, lg, _, rfl, rfl, by omega, fun h => absurd h (by omega), hr⟩
    · have c1 : (nI a < nI nF) = False := eq_false (by rw [z_lt (by omega) (by omega)]; omega)
      simp only [nI_nn h2, c1, if_false, z_bnd3, e30L, e33L, if_true]
      exact ⟨1, C, M, cb, lg, _, rfl, rfl, by omega, fun h => absurd h (by omega), hr⟩
theorem p_out (F room c : Nat) (o m : Nat → Int32) (lg : Nat → Int64) (x1 : Int32) (hroom : room ≤ 2000) (hc : c ≤ room) (ho : orel c o m) : ∃ k lg' v, m_LW_out F room 1 o (nI c) lg x1 = some (nI k, lg') ∧ m_MD_out F m (nI c) x1 = some (v, nI k) ∧ k ≤ 3 ∧ (k = 0 → lg' = upL0 lg v) := by
  unfold m_LW_out m_DE_out m_MD_out
  rcases s_w F c x1 (by omega) with ⟨a, ha, rfl, hw⟩ | ⟨hw, hx⟩
  · have c1 : (nI a < nI c) = True := eq_true (by rw [z_lt (by omega) (by omega)]; exact ha)
    obtain ⟨b, e1, e2, e3⟩ := ho a ha
    rw [hw]
    simp only [z_bnd1, nI_nn (show a < 2147483648 by omega), c1, if_true, if_false, n10, le00, z_chk (show a < 2147483648 by omega) (show a < 2000 by omega), z_chk (show a < 2147483648 by omega) (show a < room by omega), z_tn (show a < 2147483648 by omega), e2, e3, z_bnd2, e00L, ck01, nm]
    exact ⟨0, _, _, rfl, rfl, by omega, fun _ => rfl⟩
  · rw [hw]
    simp only [z_bnd1, n00, if_true, le10, if_false]
    rcases hx with hx | ⟨a, h1, h2, rfl⟩
    · rw [if_pos hx]
      simp only [z_bnd2, e30L, e33L, if_true, if_false]
      exact ⟨1, _, _, rfl, rfl, by omega, fun h => absurd h (by omega)⟩
    · have c1 : (nI a < nI c) = False := eq_false (by rw [z_lt (by omega) (by omega)]; omega)
      simp only [nI_nn h2, c1, if_false, z_bnd2, e30L, e33L, if_true]
      exact ⟨1, _, _, rfl, rfl, by omega, fun h => absurd h (by omega)⟩
theorem p_sum (F room c n : Nat) (B o m : Nat → Int32) (lg : Nat → Int64) (x1 : Int32) (hF : 100000 ≤ F) (hroom : room ≤ 2000) (hc : c ≤ room) (ho : orel c o m) (hn : n ≤ 512) : ∃ k lg' v, m_LW_sum F room 1 B (nI n) o (nI c) lg x1 = some (nI k, lg') ∧ m_MD_sum F B m (nI c) (nI n) x1 = some (v, nI k) ∧ k ≤ 3 ∧ (k = 0 → lg' = upL0 lg v) := by
  obtain ⟨a1, b1, c1, f1, f2, f3⟩ := l_sumj F 512 n B B m (nI 1) hF hn (by omega) (fun k hk => by
    rw [if_neg (by decide), z_chk (by omega) (by omega), z_tn (by omega)]) F 0 (nI 1) (nI 0) m1 (by omega) (by omega)
  obtain ⟨a2, b2, c2, g1, g2, g3⟩ := l_sumj F room c o B m (nI 0) hF hc hroom (fun k hk => by
    obtain ⟨b, _, e2, e3⟩ := ho k hk
    rw [if_pos (show nI 0 = (0 : Int32) from rfl), z_chk (by omega) (by omega), z_tn (by omega), e2, e3]) F 0 (nI 1) (nI 0) m1 (by omega) (by omega)
  have wf : ∀ {A R : Type} (x y : Nat), True := fun _ _ => trivial
  unfold m_LW_sum m_DE_sum m_MD_sum m_DE_adler m_DE_crc m_MD_within
  have i1 : (1 : Int32) = nI 1 := rfl
  have i0 : (0 : Int32) = nI 0 := rfl
  have im : (-1 : Int32) = m1 := rfl
  rcases z_case x1 with hx | ⟨a, ha, rfl⟩
  · have d0 : (x1 = (0 : Int32)) = False := z_neg_ne hx (k := 0) (by omega)
    have d1 : (x1 = (1 : Int32)) = False := z_neg_ne hx (k := 1) (by omega)
    have d2 : (x1 = (2 : Int32)) = False := z_neg_ne hx (k := 2) (by omega)
    have d3 : (x1 = (3 : Int32)) = False := z_neg_ne hx (k := 3) (by omega)
    have e0 : (x1 < (0 : Int32)) = True := eq_true hx
    have e1 : ((0 : Int32) = 0) = True := eq_true rfl
    simp only [d0, d1, d2, d3, e0, e1, if_false, if_true, z_bnd1, z_bnd2, e10L, e11L, le10]
    exact ⟨1, _, _, rfl, rfl, by omega, fun h => absurd h (by omega)⟩
  · by_cases h4 : 4 ≤ a
    · have d0 : (nI a = (0 : Int32)) = False := eq_false (by show ¬ (nI a = nI 0); rw [z_eq ha (by omega)]; omega)
      have d1 : (nI a = (1 : Int32)) = False := eq_false (by show ¬ (nI a = nI 1); rw [z_eq ha (by omega)]; omega)
      have d2 : (nI a = (2 : Int32)) = False := eq_false (by show ¬ (nI a = nI 2); rw [z_eq ha (by omega)]; omega)
      have d3 : (nI a = (3 : Int32)) = False := eq_false (by show ¬ (nI a = nI 3); rw [z_eq ha (by omega)]; omega)
      have e3 : ((3 : Int32) < nI a) = True := eq_true (by show nI 3 < nI a; rw [z_lt (by omega) ha]; omega)
      have e1 : ((0 : Int32) = 0) = True := eq_true rfl
      simp only [d0, d1, d2, d3, nI_nn ha, e3, e1, if_false, if_true, z_bnd1, z_bnd2, e10L, e11L, le10]
      exact ⟨1, _, _, rfl, rfl, by omega, fun h => absurd h (by omega)⟩
    · have hc4 : a = 0 ∨ a = 1 ∨ a = 2 ∨ a = 3 := by omega
      have e1 : ((1 : Int32) = 0) = False := eq_false (by decide)
      have e0 : ((0 : Int32) = 0) = True := eq_true rfl
      rw [i0, i1, im] at *
      rcases hc4 with rfl | rfl | rfl | rfl
      · have m0 : (nI 0 - nI 0 / (2 : Int32) * (2 : Int32) = nI 0) = True := eq_true (by decide)
        have l2 : ((2 : Int32) ≤ nI 0) = False := eq_false (by decide)
        have l3 : ((3 : Int32) < nI 0) = False := eq_false (by decide)
        have q0 : (nI 0 < nI 0) = False := eq_false (by decide)
        have q1 : (nI 1 = nI 0) = False := eq_false (by decide)
        have q2 : (nI 0 ≤ nI 0) = True := eq_true (by decide)
        have q3 : (nI 0 = nI 0) = True := eq_true rfl
        simp only [q3, if_true, f1, z_bnd3, z_bnd1, z_bnd2, e00L, q0, l3, if_false, q1, q2, m0, f3, z_bnd4, l2]
        exact ⟨0, upL0 lg _, _, rfl, rfl, by omega, fun _ => rfl⟩
      · have m0 : (nI 1 - nI 1 / (2 : Int32) * (2 : Int32) = nI 0) = False := eq_false (by decide)
        have l2 : ((2 : Int32) ≤ nI 1) = False := eq_false (by decide)
        have l3 : ((3 : Int32) < nI 1) = False := eq_false (by decide)
        have q0 : (nI 1 < nI 0) = False := eq_false (by decide)
        have q1 : (nI 1 = nI 0) = False := eq_false (by decide)
        have q2 : (nI 0 ≤ nI 0) = True := eq_true (by decide)
        have q3 : (nI 0 = nI 0) = True := eq_true rfl
        have q4 : (nI 1 = nI 1) = True := eq_true rfl
        simp only [q3, q4, if_true, g1, z_bnd3, z_bnd1, z_bnd2, e00L, q0, l3, if_false, q1, q2, m0, g3, z_bnd4, l2]
        exact ⟨0, upL0 lg _, _, rfl, rfl, by omega, fun _ => rfl⟩
      · have m0 : (nI 2 - nI 2 / (2 : Int32) * (2 : Int32) = nI 0) = True := eq_true (by decide)
        have l2 : ((2 : Int32) ≤ nI 2) = True := eq_true (by decide)
        have l3 : ((3 : Int32) < nI 2) = False := eq_false (by decide)
        have q0 : (nI 2 < nI 0) = False := eq_false (by decide)
        have q1 : (nI 1 = nI 0) = False := eq_false (by decide)
        have q2 : (nI 0 ≤ nI 0) = True := eq_true (by decide)
        have q3 : (nI 2 = nI 0) = False := eq_false (by decide)
        have q4 : (nI 2 = nI 1) = False := eq_false (by decide)
        have q5 : (nI 2 = (2 : Int32)) = True := eq_true rfl
        simp only [q3, q4, q5, if_true, f2, z_bnd3, z_bnd1, z_bnd2, e00L, q0, l3, if_false, q1, q2, m0, f3, z_bnd4, l2]
        exact ⟨0, upL0 lg _, _, rfl, rfl, by omega, fun _ => rfl⟩
      · have m0 : (nI 3 - nI 3 / (2 : Int32) * (2 : Int32) = nI 0) = False := eq_false (by decide)
        have l2 : ((2 : Int32) ≤ nI 3) = True := eq_true (by decide)
        have l3 : ((3 : Int32) < nI 3) = False := eq_false (by decide)
        have q0 : (nI 3 < nI 0) = False := eq_false (by decide)
        have q1 : (nI 1 = nI 0) = False := eq_false (by decide)
        have q2 : (nI 0 ≤ nI 0) = True := eq_true (by decide)
        have q2b : (nI 0 = nI 0) = True := eq_true rfl
        have q3 : (nI 3 = nI 0) = False := eq_false (by decide)
        have q4 : (nI 3 = nI 1) = False := eq_false (by decide)
        have q5 : (nI 3 = (2 : Int32)) = False := eq_false (by decide)
        have q6 : (nI 3 = (3 : Int32)) = True := eq_true rfl
        simp only [q2b, q3, q4, q5, q6, if_true, g2, z_bnd3, z_bnd1, z_bnd2, e00L, q0, l3, if_false, q1, q2, m0, g3, z_bnd4, l2]
        exact ⟨0, upL0 lg _, _, rfl, rfl, by omega, fun _ => rfl⟩
