/-! inflate, by both -/
theorem j_inflate (F nF room : Nat) (cb : Nat → Nat) (C M perL syL perD syD : Nat → Int32) (lgL lgD : Int32) (hF : 100000 ≤ F) (hr : fedr cb nF C M) (FL : cset fl 288 lgL perL syL) (FD : cset (fun _ => 5) 32 lgD perD syD) (hroom : room ≤ 2000) (bbit : Int32) (o m : Nat → Int32) (lln : Int32) (dln : Int32) (len : Nat → Int32) (dC : Int32) (dL : Int32) (dF : Int32) (dN : Nat → Int32) (dP : Nat → Int32) (dS : Nat → Int32) (nC : Int32) (nL : Int32) (nF_ : Int32) (nN : Nat → Int32) (nP : Nat → Int32) (nS : Nat → Int32) (lC : Int32) (lL : Int32) (lF : Int32) (lN : Nat → Int32) (lP : Nat → Int32) (lS : Nat → Int32) (lm : Int32) (fm : Int32) (sm : Int32) (fc : Nat → Int32) (fl_ : Nat → Int32) (lc : Nat → Int32) (ll : Nat → Int32) (row : Nat → Int32) (sc : Nat → Int32) (sl : Nat → Int32) : ∃ (k c : Nat) (stop : Int32), ∃ stt bct att bb2 lln2 dln2 co len2 dC2 dL2 dF2 dN2 dP2 dS2 nC2 nL2 nF_2 nN2 nP2 nS2 lC2 lL2 lF2 lN2 lP2 lS2 lm2 fm2 sm2 ma fc2 fl2 lc2 ll2 mo row2 sc2 sl2, m_DE_inflate F room C (nI nF) bbit dln lgD perD syD lgL perL syL o len lln dC dF dL dN dP dS nC nF_ nL nN nP nS lC lF lL lN lP lS = some (nI k, nI c, stop, stt, bct, att, bb2, lln2, dln2, co, len2, dC2, dL2, dF2, dN2, dP2, dS2, nC2, nL2, nF_2, nN2, nP2, nS2, lC2, lL2, lF2, lN2, lP2, lS2) ∧ m_MD_inflate F fc fl_ fm M (nI nF) lc ll lm m (nI room) row sc sl sm = some (nI k, 0, nI c, stop, lm2, fm2, sm2, ma, fc2, fl2, lc2, ll2, mo, row2, sc2, sl2) ∧ c ≤ room ∧ orel c co mo := by
  have hnF := hr.1
  obtain ⟨kk, cc, cst, css, ca, bb2, lln2, dln2, co, len2, dC2, dL2, dF2, dN2, dP2, dS2, nC2, nL2, nF_2, nN2, nP2, nS2, lC2, lL2, lF2, lN2, lP2, lS2, mis, mc, ms, lm2, fm2, sm2, ma, fc2, fl2, lc2, ll2, mo, row2, sc2, sl2, r1, r2, c', k, rfl, rfl, b3, b4, rfl, hk, rfl, rfl⟩ := l_jall F nF room cb C M perL syL perD syD lgL lgD hF hr FL FD hroom F F 0 0 0 m1 bbit o m lln dln len dC dL dF dN dP dS nC nL nF_ nN nP nS lC lL lF lN lP lS lm fm sm fc fl_ lc ll row sc sl (by omega) (by omega) (by omega) (by omega) (by omega) (fun j hj => by omega)
  have er : m_Reader_restart F (nI nF) = some (nI 0, m1, m1, nI (8 * nF), nI 0) := by
    unfold m_Reader_restart
    rw [z_min (by omega) (by omega), Nat.min_eq_left hnF]
    simp only [nm, z_lit, z_mul]
    rfl
  refine ⟨k, c', cst, nI k, nI (8 * nF), ca, bb2, lln2, dln2, co, len2, dC2, dL2, dF2, dN2, dP2, dS2, nC2, nL2, nF_2, nN2, nP2, nS2, lC2, lL2, lF2, lN2, lP2, lS2, lm2, fm2, sm2, ma, fc2, fl2, lc2, ll2, mo, row2, sc2, sl2, ?_, ?_, b3, b4⟩
  rotate_left
  · unfold m_MD_inflate
    rw [show (-1 : Int32) = m1 from rfl, show (0 : Int32) = nI 0 from rfl, r2, z_bnd15]
    have e1 : nI (k + 1) - (1 : Int32) = nI k := z_sub (show 1 ≤ k + 1 by omega)
    rw [e1]
  · unfold m_DE_inflate m_Reader_readAll
    rw [er, z_bnd5, show (0 : Int32) = nI 0 from rfl, r1, z_bnd28]
    simp only [z_nm1 (show k < 2147483648 by omega), if_false]
    rfl
