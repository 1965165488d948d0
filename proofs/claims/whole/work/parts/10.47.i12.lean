/-! a block read by both -/
theorem hd_bits (cb : Nat → Nat) (a : Nat) : rb cb a 3 >>> 1 = rb cb (a + 1) 2 ∧ rb cb a 3 &&& 1 = rb cb a 1 := by
  have h0 := bat_le cb a
  have h1 := bat_le cb (a + 1)
  have h2 := bat_le cb (a + 2)
  have e3 : rb cb a 3 = ((0 ||| bat cb a <<< 0) ||| bat cb (a + 1) <<< 1) ||| bat cb (a + 2) <<< 2 := rfl
  have e2 : rb cb (a + 1) 2 = (0 ||| bat cb (a + 1) <<< 0) ||| bat cb (a + 2) <<< 1 := rfl
  have e1 : rb cb a 1 = 0 ||| bat cb a <<< 0 := rfl
  rw [e3, e2, e1]
  generalize bat cb a = x at *
  generalize bat cb (a + 1) = y at *
  generalize bat cb (a + 2) = z at *
  have hh : ∀ x y z : Fin 2, (((0 ||| x.1 <<< 0) ||| y.1 <<< 1) ||| z.1 <<< 2) >>> 1 = (0 ||| y.1 <<< 0) ||| z.1 <<< 1 ∧ (((0 ||| x.1 <<< 0) ||| y.1 <<< 1) ||| z.1 <<< 2) &&& 1 = 0 ||| x.1 <<< 0 := by decide
  exact hh ⟨x, by omega⟩ ⟨y, by omega⟩ ⟨z, by omega⟩
theorem j_rblock (F nF room : Nat) (cb : Nat → Nat) (C M perL syL perD syD : Nat → Int32) (lgL lgD : Int32) (hF : 100000 ≤ F) (hr : fedr cb nF C M) (FL : cset fl 288 lgL perL syL) (FD : cset (fun _ => 5) 32 lgD perD syD) (hroom : room ≤ 2000) (at0 c : Nat) (s : Int32) (o m : Nat → Int32) (lln : Int32) (dln : Int32) (len : Nat → Int32) (dC : Int32) (dL : Int32) (dF : Int32) (dN : Nat → Int32) (dP : Nat → Int32) (dS : Nat → Int32) (nC : Int32) (nL : Int32) (nF_ : Int32) (nN : Nat → Int32) (nP : Nat → Int32) (nS : Nat → Int32) (lC : Int32) (lL : Int32) (lF : Int32) (lN : Nat → Int32) (lP : Nat → Int32) (lS : Nat → Int32) (lm : Int32) (fm : Int32) (sm : Int32) (fc : Nat → Int32) (fl_ : Nat → Int32) (lc : Nat → Int32) (ll : Nat → Int32) (row : Nat → Int32) (sc : Nat → Int32) (sl : Nat → Int32) (hc : c ≤ room) (ho : orel c o m) (ha : at0 ≤ 8 * nF) : ∃ cc cst css ca bb2 lln2 dln2 co len2 dC2 dL2 dF2 dN2 dP2 dS2 nC2 nL2 nF_2 nN2 nP2 nS2 lC2 lL2 lF2 lN2 lP2 lS2 mis mc ms lm2 fm2 sm2 ma fc2 fl2 lc2 ll2 mo row2 sc2 sl2, m_Reader_readBlock F room (nI at0) (nI (8 * nF)) C dln lgD perD syD lgL perL syL o (nI c) len lln dC dF dL dN dP dS nC nF_ nL nN nP nS lC lF lL lN lP lS m1 s = some (cc, cst, css, ca, bb2, lln2, dln2, co, len2, dC2, dL2, dF2, dN2, dP2, dS2, nC2, nL2, nF_2, nN2, nP2, nS2, lC2, lL2, lF2, lN2, lP2, lS2) ∧ m_MD_readBlock F (nI at0) fc fl_ fm M (nI nF) lc ll lm m (nI c) (nI room) row sc sl sm s = some (mis, mc, ms, lm2, fm2, sm2, ma, fc2, fl2, lc2, ll2, mo, row2, sc2, sl2) ∧ jr nF room (at0 + 3) cc cst css ca co mis mc ms ma mo := by
  have hnF := hr.1
  have em : (m1 = (-1 : Int32)) = True := eq_true rfl
  have e00 : (nI 0 = (0 : Int32)) = True := eq_true rfl
  have zero0 : ((0 : Int32) = (0 : Int32)) = True := eq_true rfl
  have one0 : ((1 : Int32) = (0 : Int32)) = False := eq_false (by decide)
  have e10 : (nI 1 = (0 : Int32)) = False := eq_false (by decide)
  unfold m_Reader_readBlock m_MD_readBlock
  by_cases h3 : 8 * nF < at0 + 3
  · obtain ⟨q1, q2⟩ := s_nobits F 3 nF at0 C hnF ha (by omega) h3
    rw [show (3 : Int32) = nI 3 from rfl, q1, q2]
    simp only [z_bnd3, z_bnd1, em, e00, if_true]
    exact ⟨_, _, _, _, _, _, _, _, _, _, _, _, _, _, _, _, _, _, _, _, _, _, _, _, _, _, _, _, _, _, _, _, _, _, _, _, _, _, _, _, _, _, rfl, rfl, jr_end 0 (by omega) hc ho⟩
  · obtain ⟨q1, q2, _⟩ := s_bits F 3 nF at0 cb C M hF hr (by omega) (by omega)
    obtain ⟨_, _, q3⟩ := s_bits F 1 nF at0 cb C M hF hr (by omega) (by omega)
    obtain ⟨_, _, q4⟩ := s_bits F 2 nF (at0 + 1) cb C M hF hr (by omega) (by omega)
    obtain ⟨k1, k2⟩ := hd_bits cb at0
    have rl3 : rb cb at0 3 < 8 := rb_lt cb at0 3
    have rl1 : rb cb at0 1 < 2 := rb_lt cb at0 1
    have rl2 : rb cb (at0 + 1) 2 < 4 := rb_lt cb (at0 + 1) 2
    have ea : at0 + 1 + 2 = at0 + 3 := by omega
    rw [ea] at q4
    have es : nI (rb cb at0 3) >>> ((1 : Int32) &&& 31) = nI (rb cb (at0 + 1) 2) := by
      show nI _ >>> (nI 1 &&& nI 31) = _
      rw [z_and, z_shr (by omega) (by decide)]; exact congrArg nI k1
    have eh : nI (rb cb at0 3) &&& (1 : Int32) = nI (rb cb at0 1) := by
      show nI _ &&& nI 1 = _
      rw [z_and, k2]
    have er : (nI (rb cb at0 3) = (-1 : Int32)) = False := z_nm1 (by omega)
    rw [show (3 : Int32) = nI 3 from rfl, q1, q2]
    simp only [z_bnd3, z_bnd1, er, e10, if_false, nm, es, eh]
    rw [show m_MD_take F (nI at0) M (1 : Int32) = some (nI (rb cb at0 1), nI (at0 + 1)) from q3, z_bnd2]
    have ez : (if nI (rb cb at0 1) = (1 : Int32) then some (1 : Int32) else some (0 : Int32)) = some (nI (rb cb at0 1)) := by
      rcases (show rb cb at0 1 = 0 ∨ rb cb at0 1 = 1 by omega) with e | e
      · rw [e]; rfl
      · rw [e]; rfl
    rw [ez, z_bnd1]
    rw [show m_MD_take F (nI (at0 + 1)) M (2 : Int32) = some (nI (rb cb (at0 + 1) 2), nI (at0 + 3)) from q4, z_bnd2]
    generalize rb cb at0 1 = h at *
    generalize rb cb (at0 + 1) 2 = y at *
    have hy : y = 0 ∨ y = 1 ∨ y = 2 ∨ y = 3 := by omega
    rcases hy with rfl | rfl | rfl | rfl
    · obtain ⟨cc, cst, css, ca, co, mis, mc, ms, ma, mo, r1, r2, JR⟩ := j_rstored F nF room (at0 + 3) c cb C M o m s hF hr hroom hc ho (by omega)
      simp only [e00, if_true, r1, r2, z_bnd5, z_bnd26, z_bnd15]
      obtain ⟨c', rfl, rfl, b3, b4, rfl, hb⟩ := JR
      rcases hb with ⟨rfl, rfl, a', rfl, rfl, b7, b8⟩ | ⟨q, hq, rfl, rfl⟩
      · simp only [em, e00, if_true]
        by_cases hl : h = 1
        · have d1 : (nI h = (1 : Int32)) = True := eq_true (by rw [hl]; rfl)
          have d3 : (nI h = (0 : Int32)) = False := eq_false (by rw [hl]; decide)
          simp only [d1, d3, if_true, if_false]
          exact ⟨_, _, _, _, _, _, _, _, _, _, _, _, _, _, _, _, _, _, _, _, _, _, _, _, _, _, _, _, _, _, _, _, _, _, _, _, _, _, _, _, _, _, rfl, rfl, jr_end 1 (by omega) b3 b4⟩
        · have d1 : (nI h = (1 : Int32)) = False := eq_false (by show ¬ (nI h = nI 1); rw [z_eq (by omega) (by omega)]; exact hl)
          have d3 : (nI h = (0 : Int32)) = True := eq_true (by rw [show h = 0 by omega]; rfl)
          simp only [d1, d3, if_false, if_true]
          exact ⟨_, _, _, _, _, _, _, _, _, _, _, _, _, _, _, _, _, _, _, _, _, _, _, _, _, _, _, _, _, _, _, _, _, _, _, _, _, _, _, _, _, _, rfl, rfl, jr_go b3 b4 (by omega) b8⟩
      · have d2 : (nI (q + 1) = (0 : Int32)) = False := eq_false (by show ¬ (nI (q + 1) = nI 0); rw [z_eq (by omega) (by omega)]; omega)
        simp only [z_nm1 (show q < 2147483648 by omega), d2, if_false]
        exact ⟨_, _, _, _, _, _, _, _, _, _, _, _, _, _, _, _, _, _, _, _, _, _, _, _, _, _, _, _, _, _, _, _, _, _, _, _, _, _, _, _, _, _, rfl, rfl, jr_end q hq b3 b4⟩
    · obtain ⟨fl', ll', g1, g2, g3⟩ := s_fixedCodes F fl_ ll hF
      have c0 : (nI 1 = (0 : Int32)) = False := e10
      have c1 : (nI 1 = (1 : Int32)) = True := eq_true rfl
      have c3 : (nI 1 = nI 3) = False := eq_false (by decide)
      have le0 : ((0 : Int32) ≤ (0 : Int32)) = True := eq_true (by decide)
      obtain ⟨cc, cst, css, ca, co, mis, mc, ms, ma, fc', lc', mo, r1, r2, JR⟩ := j_symbols F 288 288 32 32 nF room (at0 + 3) c cb C M perL syL perD syD ll' lc fl' fc o m lgL lgD s fl (fun _ => 5) hF hr (by omega) (by omega) FL ⟨fl, fun k hk => ⟨g2 k hk, Nat.le_trans (fl_le k) (by omega)⟩, fun _ _ => rfl, fun k h1 h2 => by omega⟩ FD ⟨fun _ => 5, fun k hk => ⟨g3 k hk, show 5 ≤ 15 from by omega⟩, fun _ _ => rfl, fun k h1 h2 => by omega⟩ hroom hc ho (by omega) (by omega)
      simp only [c0, c1, c3, if_true, if_false, g1, z_bnd2, z_bnd11, le0, r1, r2, z_bnd5, z_bnd7, z_bnd26, z_bnd15]
      obtain ⟨c', rfl, rfl, b3, b4, rfl, hb⟩ := JR
      rcases hb with ⟨rfl, rfl, a', rfl, rfl, b7, b8⟩ | ⟨q, hq, rfl, rfl⟩
      · simp only [em, e00, if_true]
        by_cases hl : h = 1
        · have d1 : (nI h = (1 : Int32)) = True := eq_true (by rw [hl]; rfl)
          have d3 : (nI h = (0 : Int32)) = False := eq_false (by rw [hl]; decide)
          simp only [d1, d3, if_true, if_false]
          exact ⟨_, _, _, _, _, _, _, _, _, _, _, _, _, _, _, _, _, _, _, _, _, _, _, _, _, _, _, _, _, _, _, _, _, _, _, _, _, _, _, _, _, _, rfl, rfl, jr_end 1 (by omega) b3 b4⟩
        · have d1 : (nI h = (1 : Int32)) = False := eq_false (by show ¬ (nI h = nI 1); rw [z_eq (by omega) (by omega)]; exact hl)
          have d3 : (nI h = (0 : Int32)) = True := eq_true (by rw [show h = 0 by omega]; rfl)
          simp only [d1, d3, if_false, if_true]
          exact ⟨_, _, _, _, _, _, _, _, _, _, _, _, _, _, _, _, _, _, _, _, _, _, _, _, _, _, _, _, _, _, _, _, _, _, _, _, _, _, _, _, _, _, rfl, rfl, jr_go b3 b4 (by omega) b8⟩
      · have d2 : (nI (q + 1) = (0 : Int32)) = False := eq_false (by show ¬ (nI (q + 1) = nI 0); rw [z_eq (by omega) (by omega)]; omega)
        simp only [z_nm1 (show q < 2147483648 by omega), d2, if_false]
        exact ⟨_, _, _, _, _, _, _, _, _, _, _, _, _, _, _, _, _, _, _, _, _, _, _, _, _, _, _, _, _, _, _, _, _, _, _, _, _, _, _, _, _, _, rfl, rfl, jr_end q hq b3 b4⟩
    · have c0 : (nI 2 = (0 : Int32)) = False := eq_false (by decide)
      have c1 : (nI 2 = (1 : Int32)) = False := eq_false (by decide)
      have c2 : (nI 2 = (2 : Int32)) = True := eq_true rfl
      have c3 : (nI 2 = nI 3) = False := eq_false (by decide)
      obtain ⟨st1, ss1, a1, y1, y2, st2, ss2, a2, len2, k1', k2', k3', q1', q2', q3', st, ss, a3, len3, w1, w2, w3, w4, w5, w6, x1, x2, x3, x4, x5, x6, r1, r2, r3, r4⟩ := j_sets F nF (at0 + 3) at0 cb C M len fl_ ll row sc sl nN nP nS dN dP dS lN lP lS nC nF_ nL dC dF dL lC lF lL fm lm sm s hF hr (by omega)
      simp only [c0, c1, c2, c3, if_true, if_false, r1, r2, r3, z_bnd5, z_bnd10, z_bnd16]
      rcases r4 with ⟨k, hk, rfl, v1, v2, v3, ma, f1, f2, f3, f4, f5, hX⟩ | ⟨rfl, rfl, a, ln, dn, L1, L2, v1, v2, v3, fl', ll', row', sc', sl', rfl, t1, t2, t3, t4, t5, t6, t7, t8, hX⟩
      · have gt0 : (nI (k + 1) ≤ (0 : Int32)) = False := eq_false (by show ¬ (nI (k + 1) ≤ nI 0); rw [z_le (by omega) (by omega)]; omega)
        have ne0 : (nI (k + 1) = (0 : Int32)) = False := eq_false (by show ¬ (nI (k + 1) = nI 0); rw [z_eq (by omega) (by omega)]; omega)
        obtain ⟨z1, z2, hz⟩ := l_syS F 286 30 room F x2 w2 (nI (8 * nF)) m1 (nI 0) (nI c) st a3 x5 x6 w5 w6 C o k hk (by omega)
        have r5 : m_Reader_readSymbols F 286 30 room x2 x5 x6 w2 w5 w6 a3 (nI (8 * nF)) C o (nI c) (nI k) st = some (nI c, st, nI k, a3, o) := by
          unfold m_Reader_readSymbols
          rw [show (-1 : Int32) = m1 from rfl, show (0 : Int32) = nI 0 from rfl, hz]
          rfl
        simp only [hX, r5, z_bnd5, z_bnd11, gt0, if_false, z_bnd7, z_bnd26, z_bnd15, ne0, z_nm1 (show k < 2147483648 by omega)]
        exact ⟨_, _, _, _, _, _, _, _, _, _, _, _, _, _, _, _, _, _, _, _, _, _, _, _, _, _, _, _, _, _, _, _, _, _, _, _, _, _, _, _, _, _, rfl, rfl, jr_end k hk hc ho⟩
      · have le0 : (nI 0 ≤ (0 : Int32)) = True := eq_true (by decide)
        obtain ⟨cc, cst, css, ca, co, mis, mc, ms, ma, fc', lc', mo, r5, r6, JR⟩ := j_symbols F 286 ln 30 dn nF room a c cb C M x5 x6 w5 w6 ll' lc fl' fc o m x2 w2 st L1 L2 hF hr (by omega) (by omega) t5 t6 t7 t8 hroom hc ho (by omega) t2
        have JR := jr_lo (lo' := at0 + 3) (by omega) JR
        simp only [hX, r5, r6, z_bnd5, z_bnd11, le0, if_true, z_bnd7, z_bnd26, z_bnd15]
        obtain ⟨c', rfl, rfl, b3, b4, rfl, hb⟩ := JR
        rcases hb with ⟨rfl, rfl, a', rfl, rfl, b7, b8⟩ | ⟨q, hq, rfl, rfl⟩
        · simp only [em, e00, if_true]
          by_cases hl : h = 1
          · have d1 : (nI h = (1 : Int32)) = True := eq_true (by rw [hl]; rfl)
            have d3 : (nI h = (0 : Int32)) = False := eq_false (by rw [hl]; decide)
            simp only [d1, d3, if_true, if_false]
            exact ⟨_, _, _, _, _, _, _, _, _, _, _, _, _, _, _, _, _, _, _, _, _, _, _, _, _, _, _, _, _, _, _, _, _, _, _, _, _, _, _, _, _, _, rfl, rfl, jr_end 1 (by omega) b3 b4⟩
          · have d1 : (nI h = (1 : Int32)) = False := eq_false (by show ¬ (nI h = nI 1); rw [z_eq (by omega) (by omega)]; exact hl)
            have d3 : (nI h = (0 : Int32)) = True := eq_true (by rw [show h = 0 by omega]; rfl)
            simp only [d1, d3, if_false, if_true]
            exact ⟨_, _, _, _, _, _, _, _, _, _, _, _, _, _, _, _, _, _, _, _, _, _, _, _, _, _, _, _, _, _, _, _, _, _, _, _, _, _, _, _, _, _, rfl, rfl, jr_go b3 b4 (by omega) b8⟩
        · have d2 : (nI (q + 1) = (0 : Int32)) = False := eq_false (by show ¬ (nI (q + 1) = nI 0); rw [z_eq (by omega) (by omega)]; omega)
          simp only [z_nm1 (show q < 2147483648 by omega), d2, if_false]
          exact ⟨_, _, _, _, _, _, _, _, _, _, _, _, _, _, _, _, _, _, _, _, _, _, _, _, _, _, _, _, _, _, _, _, _, _, _, _, _, _, _, _, _, _, rfl, rfl, jr_end q hq b3 b4⟩
    · have c0 : (nI 3 = (0 : Int32)) = False := eq_false (by decide)
      have c1 : (nI 3 = (1 : Int32)) = False := eq_false (by decide)
      have c2 : (nI 3 = (2 : Int32)) = False := eq_false (by decide)
      have c3 : (nI 3 = nI 3) = True := eq_true rfl
      have t0 : ((2 : Int32) = (-1 : Int32)) = False := eq_false (by decide)
      have t1 : ((3 : Int32) = (0 : Int32)) = False := eq_false (by decide)
      simp only [c0, c1, c2, c3, if_true, if_false, m_Reader_breakAt, m_MD_broken, z_bnd2, z_bnd26, z_bnd15, t0]
      simp only [show (3 : Int32) = nI 3 from rfl, c0, if_false]
      exact ⟨_, _, _, _, _, _, _, _, _, _, _, _, _, _, _, _, _, _, _, _, _, _, _, _, _, _, _, _, _, _, _, _, _, _, _, _, _, _, _, _, _, _, rfl, rfl, jr_end 2 (by omega) hc ho⟩
theorem l_raS (F nF room : Nat) (cb : Nat → Nat) (C M perL syL perD syD : Nat → Int32) (lgL lgD : Int32) (f k s : Nat) (cc cst ca0 bbit : Int32) (co : Nat → Int32) (lln : Int32) (dln : Int32) (len : Nat → Int32) (dC : Int32) (dL : Int32) (dF : Int32) (dN : Nat → Int32) (dP : Nat → Int32) (dS : Nat → Int32) (nC : Int32) (nL : Int32) (nF_ : Int32) (nN : Nat → Int32) (nP : Nat → Int32) (nS : Nat → Int32) (lC : Int32) (lL : Int32) (lF : Int32) (lN : Nat → Int32) (lP : Nat → Int32) (lS : Nat → Int32) (hs : s < 4) (hf : 0 < f) : ∃ kk ca bb2 lln2 dln2 len2 dC2 dL2 dF2 dN2 dP2 dS2 nC2 nL2 nF_2 nN2 nP2 nS2 lC2 lL2 lF2 lN2 lP2 lS2, L_Reader_readAll_7 F room (nI (8 * nF)) C lgD perD syD lgL perL syL f (nI k) cc cst (nI s) ca0 bbit lln dln co len dC dL dF dN dP dS nC nL nF_ nN nP nS lC lL lF lN lP lS = some (kk, cc, cst, nI s, ca, bb2, lln2, dln2, co, len2, dC2, dL2, dF2, dN2, dP2, dS2, nC2, nL2, nF_2, nN2, nP2, nS2, lC2, lL2, lF2, lN2, lP2, lS2) := by
  obtain ⟨f', rfl⟩ : ∃ f', f = f' + 1 := ⟨f - 1, by omega⟩
  unfold L_Reader_readAll_7 B_Reader_readAll_7
  by_cases h : (9600 : Int32) ≤ nI k
  · rw [if_pos h]; exact ⟨_, _, _, _, _, _, _, _, _, _, _, _, _, _, _, _, _, _, _, _, _, _, _, _, rfl⟩
  · rw [if_neg h]
    simp only [z_nm1 (show s < 2147483648 by omega), if_false]
    exact ⟨_, _, _, _, _, _, _, _, _, _, _, _, _, _, _, _, _, _, _, _, _, _, _, _, rfl⟩
/-- all blocks, by both: they end, and alike -/
def ero (room : Nat) (cc cst css : Int32) (co : Nat → Int32) (mis mc ms : Int32) (mo : Nat → Int32) : Prop := ∃ c k, cc = nI c ∧ mc = nI c ∧ c ≤ room ∧ orel c co mo ∧ cst = ms ∧ k < 4 ∧ css = nI k ∧ mis = nI (k + 1)
set_option maxHeartbeats 1000000 in
theorem l_jall (F nF room : Nat) (cb : Nat → Nat) (C M perL syL perD syD : Nat → Int32) (lgL lgD : Int32) (hF : 100000 ≤ F) (hr : fedr cb nF C M) (FL : cset fl 288 lgL perL syL) (FD : cset (fun _ => 5) 32 lgD perD syD) (hroom : room ≤ 2000) : ∀ (f g k c a : Nat) (s bbit : Int32) (o m : Nat → Int32) (lln : Int32) (dln : Int32) (len : Nat → Int32) (dC : Int32) (dL : Int32) (dF : Int32) (dN : Nat → Int32) (dP : Nat → Int32) (dS : Nat → Int32) (nC : Int32) (nL : Int32) (nF_ : Int32) (nN : Nat → Int32) (nP : Nat → Int32) (nS : Nat → Int32) (lC : Int32) (lL : Int32) (lF : Int32) (lN : Nat → Int32) (lP : Nat → Int32) (lS : Nat → Int32) (lm : Int32) (fm : Int32) (sm : Int32) (fc : Nat → Int32) (fl_ : Nat → Int32) (lc : Nat → Int32) (ll : Nat → Int32) (row : Nat → Int32) (sc : Nat → Int32) (sl : Nat → Int32), 3 * k ≤ a → a ≤ 8 * nF → 8 * nF - a + 3 < f → 8 * nF - a + 3 < g → c ≤ room → orel c o m → ∃ kk cc cst css ca bb2 lln2 dln2 co len2 dC2 dL2 dF2 dN2 dP2 dS2 nC2 nL2 nF_2 nN2 nP2 nS2 lC2 lL2 lF2 lN2 lP2 lS2 mis mc ms lm2 fm2 sm2 ma fc2 fl2 lc2 ll2 mo row2 sc2 sl2, L_Reader_readAll_7 F room (nI (8 * nF)) C lgD perD syD lgL perL syL f (nI k) (nI c) s m1 (nI a) bbit lln dln o len dC dL dF dN dP dS nC nL nF_ nN nP nS lC lL lF lN lP lS = some (kk, cc, cst, css, ca, bb2, lln2, dln2, co, len2, dC2, dL2, dF2, dN2, dP2, dS2, nC2, nL2, nF_2, nN2, nP2, nS2, lC2, lL2, lF2, lN2, lP2, lS2) ∧ L_MD_inflate_22 F M (nI nF) (nI room) g (nI 0) (nI c) s lm fm sm (nI a) fc fl_ lc ll m row sc sl = some (mis, mc, ms, lm2, fm2, sm2, ma, fc2, fl2, lc2, ll2, mo, row2, sc2, sl2) ∧ ero room cc cst css co mis mc ms mo := by
  have hnF := hr.1
  intro f
  induction f with
  | zero => intros; omega
  | succ f ih =>
    intro g k c a s bbit o m lln dln len dC dL dF dN dP dS nC nL nF_ nN nP nS lC lL lF lN lP lS lm fm sm fc fl_ lc ll row sc sl hka ha hf hg hc ho
    obtain ⟨g', rfl⟩ : ∃ g', g = g' + 1 := ⟨g - 1, by omega⟩
    obtain ⟨cc, cst, css, ca, bb2, lln2, dln2, co, len2, dC2, dL2, dF2, dN2, dP2, dS2, nC2, nL2, nF_2, nN2, nP2, nS2, lC2, lL2, lF2, lN2, lP2, lS2, mis, mc, ms, lm2, fm2, sm2, ma, fc2, fl2, lc2, ll2, mo, row2, sc2, sl2, r1, r2, JR⟩ := j_rblock F nF room cb C M perL syL perD syD lgL lgD hF hr FL FD hroom a c s o m lln dln len dC dL dF dN dP dS nC nL nF_ nN nP nS lC lL lF lN lP lS lm fm sm fc fl_ lc ll row sc sl hc ho ha
    have em : (m1 = (-1 : Int32)) = True := eq_true rfl
    have e00 : (nI 0 = (0 : Int32)) = True := eq_true rfl
    have c1 : ((9600 : Int32) ≤ nI k) = False := eq_false (by show ¬ (nI 9600 ≤ nI k); rw [z_le (by omega) (by omega)]; omega)
    unfold L_Reader_readAll_7 B_Reader_readAll_7 L_MD_inflate_22 B_MD_inflate_22
    simp only [c1, em, e00, if_true, if_false, r1, r2, z_bnd27, z_bnd15, nm, z_one, z_add]
    obtain ⟨c', rfl, rfl, b3, b4, rfl, hb⟩ := JR
    rcases hb with ⟨rfl, rfl, a', rfl, rfl, b7, b8⟩ | ⟨q, hq, rfl, rfl⟩
    · exact ih g' (k + 1) c' a' cst bb2 co mo lln2 dln2 len2 dC2 dL2 dF2 dN2 dP2 dS2 nC2 nL2 nF_2 nN2 nP2 nS2 lC2 lL2 lF2 lN2 lP2 lS2 lm2 fm2 sm2 fc2 fl2 lc2 ll2 row2 sc2 sl2 (by omega) b8 (by omega) (by omega) b3 b4
    · obtain ⟨z_kk, z_ca, z_bb2, z_lln2, z_dln2, z_len2, z_dC2, z_dL2, z_dF2, z_dN2, z_dP2, z_dS2, z_nC2, z_nL2, z_nF_2, z_nN2, z_nP2, z_nS2, z_lC2, z_lL2, z_lF2, z_lN2, z_lP2, z_lS2, hz⟩ := l_raS F nF room cb C M perL syL perD syD lgL lgD f (k + 1) q (nI c') cst ca bb2 co lln2 dln2 len2 dC2 dL2 dF2 dN2 dP2 dS2 nC2 nL2 nF_2 nN2 nP2 nS2 lC2 lL2 lF2 lN2 lP2 lS2 hq (by omega)
      obtain ⟨g2, rfl⟩ : ∃ g2, g' = g2 + 1 := ⟨g' - 1, by omega⟩
      have d2 : (nI (q + 1) = (0 : Int32)) = False := eq_false (by show ¬ (nI (q + 1) = nI 0); rw [z_eq (by omega) (by omega)]; omega)
      rw [hz]
      unfold L_MD_inflate_22 B_MD_inflate_22
      simp only [d2, if_false]
      exact ⟨_, _, _, _, _, _, _, _, _, _, _, _, _, _, _, _, _, _, _, _, _, _, _, _, _, _, _, _, _, _, _, _, _, _, _, _, _, _, _, _, _, _, _, rfl, rfl, c', q, rfl, rfl, b3, b4, rfl, hq, rfl, rfl⟩
