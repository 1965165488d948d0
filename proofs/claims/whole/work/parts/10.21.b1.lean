/-! the model's blocks -/
theorem l_mb3 (F : Nat) (B : Nat → Int32) (b : Nat → Nat) (ef fr to cnt st : Nat) (hF : 100000 ≤ F) (hB : byt B b) (hto : to ≤ 512) (hef : ef < 10) (hc : cnt ≤ 1) : ∀ (f p : Nat) (mf ms : Nat → Int32), fr ≤ p → p ≤ to → to - p < f → (∀ x, fr ≤ x → x < p → ms x = nI (mls b to (4 * ef) x) ∧ (mls b to (4 * ef) x ≠ 0 → mf x = nI (mds b to (4 * ef) x))) → ∃ mf' ms', L_MD_makeBlock_3 F B (nI ef) (nI to) (nI cnt) f (nI p) (nI (st + cnt * sm (mst b to (4 * ef)) fr (p - fr))) mf ms = some (nI to, nI (st + cnt * sm (mst b to (4 * ef)) fr (to - fr)), mf', ms') ∧ (∀ x, fr ≤ x → x < to → ms' x = nI (mls b to (4 * ef) x) ∧ (mls b to (4 * ef) x ≠ 0 → mf' x = nI (mds b to (4 * ef) x))) := by
  intro f
  induction f with
  | zero => intro p mf ms _ _ h; omega
  | succ f ih =>
    intro p mf ms h0 hp hf I
    unfold L_MD_makeBlock_3 B_MD_makeBlock_3
    by_cases h : to ≤ p
    · have e : p = to := by omega
      subst e
      exact ⟨mf, ms, by simp (disch := omega) only [nm, z_lit, z_one, z_mone, z_neg1, z_neg2, z_pred, z_add, z_mul, z_sub, z_le, z_lt, z_eq, z_tn, z_chk, z_eqm, z_meq, z_lem, z_mle, z_ltm, z_mlt, z_eqq, z_qeq, z_leq, z_qle, z_ltq, z_qlt, z_m1m2, z_m2m1, z_m1m1, z_m2m2, z_bnd1, z_bnd2, z_bnd3, z_bnd4, z_bnd5, z_bnd6, z_bnd7, z_bnd8, z_bnd9, z_bnd10, z_bnd11, z_bnd12, z_bnd13, z_bnd14, z_bnd15, z_bnd16, z_max, z_min, z_n31, z_shl, z_shr, z_us, z_div, z_mod, z_and, z_or, z_xor, if_true, if_false, Nat.le_refl], I⟩
    · obtain ⟨mf1, ms1, e1, g1, g2, g3⟩ := s_mfind F B mf ms b p to ef cnt (st + cnt * sm (mst b to (4 * ef)) fr (p - fr)) hF hB (by omega) hto hef hc
      have es : st + cnt * sm (mst b to (4 * ef)) fr (p - fr) + cnt * mst b to (4 * ef) p = st + cnt * sm (mst b to (4 * ef)) fr (p + 1 - fr) := by
        have ex : p + 1 - fr = p - fr + 1 := by omega
        have ey : fr + (p - fr) = p := by omega
        rw [ex, sm, ey, Nat.mul_add, Nat.add_assoc]
      rw [es] at e1
      simp (disch := omega) only [nm, z_lit, z_one, z_mone, z_neg1, z_neg2, z_pred, z_add, z_mul, z_sub, z_le, z_lt, z_eq, z_tn, z_chk, z_eqm, z_meq, z_lem, z_mle, z_ltm, z_mlt, z_eqq, z_qeq, z_leq, z_qle, z_ltq, z_qlt, z_m1m2, z_m2m1, z_m1m1, z_m2m2, z_bnd1, z_bnd2, z_bnd3, z_bnd4, z_bnd5, z_bnd6, z_bnd7, z_bnd8, z_bnd9, z_bnd10, z_bnd11, z_bnd12, z_bnd13, z_bnd14, z_bnd15, z_bnd16, z_max, z_min, z_n31, z_shl, z_shr, z_us, z_div, z_mod, z_and, z_or, z_xor, if_true, if_false, h, e1]
      refine ih (p + 1) mf1 ms1 (by omega) (by omega) (by omega) (fun x h1 h2 => ?_)
      by_cases e : x = p
      · rw [e]; exact ⟨g1, g2⟩
      · have q := g3 x e
        rw [q.1, q.2]; exact I x h1 (by omega)
theorem l_keep (F : Nat) (tf ts : Nat → Int32) (T Fa : Nat → Nat) (K : Nat) (hK : K ≤ 512) (hm : mtok ts tf T Fa K) : ∀ (f k : Nat) (sf ss : Nat → Int32), k ≤ K → K - k < f → mtok ss sf T Fa k → ∃ sf' ss', L_MD_keepSpare_10 F tf ts (nI K) f (nI k) sf ss = some (nI K, sf', ss') ∧ mtok ss' sf' T Fa K := by
  intro f
  induction f with
  | zero => intro k sf ss _ h; omega
  | succ f ih =>
    intro k sf ss hk hf I
    unfold L_MD_keepSpare_10 B_MD_keepSpare_10
    by_cases h : K ≤ k
    · have e : k = K := by omega
      subst e
      exact ⟨sf, ss, by simp (disch := omega) only [nm, z_lit, z_one, z_mone, z_neg1, z_neg2, z_pred, z_add, z_mul, z_sub, z_le, z_lt, z_eq, z_tn, z_chk, z_eqm, z_meq, z_lem, z_mle, z_ltm, z_mlt, z_eqq, z_qeq, z_leq, z_qle, z_ltq, z_qlt, z_m1m2, z_m2m1, z_m1m1, z_m2m2, z_bnd1, z_bnd2, z_bnd3, z_bnd4, z_bnd5, z_bnd6, z_bnd7, z_bnd8, z_bnd9, z_bnd10, z_bnd11, z_bnd12, z_bnd13, z_bnd14, z_bnd15, z_bnd16, z_max, z_min, z_n31, z_shl, z_shr, z_us, z_div, z_mod, z_and, z_or, z_xor, if_true, if_false, Nat.le_refl], I⟩
    · have e1 := hm k (by omega)
      simp (disch := omega) only [nm, z_lit, z_one, z_mone, z_neg1, z_neg2, z_pred, z_add, z_mul, z_sub, z_le, z_lt, z_eq, z_tn, z_chk, z_eqm, z_meq, z_lem, z_mle, z_ltm, z_mlt, z_eqq, z_qeq, z_leq, z_qle, z_ltq, z_qlt, z_m1m2, z_m2m1, z_m1m1, z_m2m2, z_bnd1, z_bnd2, z_bnd3, z_bnd4, z_bnd5, z_bnd6, z_bnd7, z_bnd8, z_bnd9, z_bnd10, z_bnd11, z_bnd12, z_bnd13, z_bnd14, z_bnd15, z_bnd16, z_max, z_min, z_n31, z_shl, z_shr, z_us, z_div, z_mod, z_and, z_or, z_xor, if_true, if_false, h, e1.1, e1.2]
      exact ih (k + 1) _ _ (by omega) (by omega) (mtok_snoc I)
theorem l_back (F : Nat) (sf ss : Nat → Int32) (T Fa : Nat → Nat) (K : Nat) (hK : K ≤ 512) (hm : mtok ss sf T Fa K) : ∀ (f k : Nat) (tf ts : Nat → Int32), k ≤ K → K - k < f → mtok ts tf T Fa k → ∃ tf' ts', L_MD_putBack_10 F (nI K) sf ss f (nI k) tf ts = some (nI K, tf', ts') ∧ mtok ts' tf' T Fa K := by
  intro f
  induction f with
  | zero => intro k tf ts _ h; omega
  | succ f ih =>
    intro k tf ts hk hf I
    unfold L_MD_putBack_10 B_MD_putBack_10
    by_cases h : K ≤ k
    · have e : k = K := by omega
      subst e
      exact ⟨tf, ts, by simp (disch := omega) only [nm, z_lit, z_one, z_mone, z_neg1, z_neg2, z_pred, z_add, z_mul, z_sub, z_le, z_lt, z_eq, z_tn, z_chk, z_eqm, z_meq, z_lem, z_mle, z_ltm, z_mlt, z_eqq, z_qeq, z_leq, z_qle, z_ltq, z_qlt, z_m1m2, z_m2m1, z_m1m1, z_m2m2, z_bnd1, z_bnd2, z_bnd3, z_bnd4, z_bnd5, z_bnd6, z_bnd7, z_bnd8, z_bnd9, z_bnd10, z_bnd11, z_bnd12, z_bnd13, z_bnd14, z_bnd15, z_bnd16, z_max, z_min, z_n31, z_shl, z_shr, z_us, z_div, z_mod, z_and, z_or, z_xor, if_true, if_false, Nat.le_refl], I⟩
    · have e1 := hm k (by omega)
      simp (disch := omega) only [nm, z_lit, z_one, z_mone, z_neg1, z_neg2, z_pred, z_add, z_mul, z_sub, z_le, z_lt, z_eq, z_tn, z_chk, z_eqm, z_meq, z_lem, z_mle, z_ltm, z_mlt, z_eqq, z_qeq, z_leq, z_qle, z_ltq, z_qlt, z_m1m2, z_m2m1, z_m1m1, z_m2m2, z_bnd1, z_bnd2, z_bnd3, z_bnd4, z_bnd5, z_bnd6, z_bnd7, z_bnd8, z_bnd9, z_bnd10, z_bnd11, z_bnd12, z_bnd13, z_bnd14, z_bnd15, z_bnd16, z_max, z_min, z_n31, z_shl, z_shr, z_us, z_div, z_mod, z_and, z_or, z_xor, if_true, if_false, h, e1.1, e1.2]
      exact ih (k + 1) _ _ (by omega) (by omega) (mtok_snoc I)
/-- the loop has ended: the last round was no better, or there are no more -/
theorem l_mb47e (F : Nat) (B mf ms : Nat → Int32) (ef z i : Nat) (x1 x2 : Int32) (f : Nat) (hf : 0 < f) (hef : ef < 10) (hi : i < 100) (hz : z = 0 ∨ ef ≤ i) (hz1 : z ≤ 1) (tk_ sp kd ln br rs lm fm sn : Int32) (ch fq dl lq ll pr mo sy sq sl sf ss tf ts up wt : Nat → Int32) : L_MD_makeBlock_47 F B (nI ef) mf ms x1 x2 f (nI z) (nI i) tk_ sp kd ln br rs lm fm sn ch fq dl lq ll pr mo sy sq sl sf ss tf ts up wt = some (nI z, nI i, tk_, sp, kd, ln, br, rs, lm, fm, sn, ch, fq, dl, lq, ll, pr, mo, sy, sq, sl, sf, ss, tf, ts, up, wt) := by
  obtain ⟨g, rfl⟩ : ∃ g, f = g + 1 := ⟨f - 1, by omega⟩
  show B_MD_makeBlock_47 F B (nI ef) mf ms x1 x2 (L_MD_makeBlock_47 F B (nI ef) mf ms x1 x2 g) _ _ _ _ _ _ _ _ _ _ _ _ _ _ _ _ _ _ _ _ _ _ _ _ _ _ _ = _
  unfold B_MD_makeBlock_47
  by_cases h : ef ≤ i
  · rw [if_pos (by rw [z_le (by omega) (by omega)]; exact h)]
  · have h0 : z = 0 := by omega
    subst h0
    rw [if_neg (by rw [z_le (by omega) (by omega)]; exact h), if_pos (by decide)]
theorem l_mb47 (F : Nat) (B mf ms : Nat → Int32) (b ml ds : Nat → Nat) (ef fr to : Nat) (hF : 100000 ≤ F) (hB : byt B b) (hft : fr ≤ to) (hto : to ≤ 512) (hef : ef < 10) (h0 : ef ≠ 0) (hm : mfd ms mf ml ds fr to) : ∀ (n f i br : Nat) (s s' : TS) (r : Nat) (sp rs lm fm sn : Int32) (ch fq dl lq ll pr mo sy sq sl sf ss tf ts up wt : Nat → Int32), n = ef - i → n < f → i ≤ 9 → br + n ≤ 100 → tsok b fr to s → trace b ml ds fr to n s s' r → mtok ts tf s.1 s.2.1 s.2.2.1 → ∃ (v v' sp' rs' lm' fm' sn' : Int32) (ch' fq' dl' lq' ll' pr' mo' sy' sq' sl' sf' ss' tf' ts' up' wt' : Nat → Int32), L_MD_makeBlock_47 F B (nI ef) mf ms (nI fr) (nI to) f (nI 1) (nI i) (nI s.2.2.1) sp (nI (tsk b fr to s)) (nI (tsb b fr to s)) (nI br) rs lm fm sn ch fq dl lq ll pr mo sy sq sl sf ss tf ts up wt = some (v, v', nI s'.2.2.1, sp', nI (tsk b fr to s'), nI (tsb b fr to s'), nI (br + r), rs', lm', fm', sn', ch', fq', dl', lq', ll', pr', mo', sy', sq', sl', sf', ss', tf', ts', up', wt') ∧ mtok ts' tf' s'.1 s'.2.1 s'.2.2.1 := by
  have hb : ∀ j, j < 512 → b j < 256 := fun j hj => (hB j hj).2
  have hm' : ∀ p, fr ≤ p → p < to → (ml p = 0 ∨ (3 ≤ ml p ∧ ml p ≤ 258 ∧ 1 ≤ ds p)) ∧ ds p < 512 ∧ p + ml p ≤ to := fun p h1 h2 => (hm p h1 h2).2.2
  intro n
  induction n with
  | zero =>
    intro f i br s s' r sp rs lm fm sn ch fq dl lq ll pr mo sy sq sl sf ss tf ts up wt hn hf hi hbr hs ht hmt
    obtain ⟨rfl, rfl⟩ := ht
    have e := l_mb47e F B mf ms ef 1 i (nI fr) (nI to) f (by omega) hef (by omega) (Or.inr (by omega)) (by omega) (nI s'.2.2.1) sp (nI (tsk b fr to s')) (nI (tsb b fr to s')) (nI br) rs lm fm sn ch fq dl lq ll pr mo sy sq sl sf ss tf ts up wt
    exact ⟨_, _, _, _, _, _, _, _, _, _, _, _, _, _, _, _, _, _, _, _, _, _, _, e, hmt⟩
  | succ n ih =>
    intro f i br s s' r sp rs lm fm sn ch fq dl lq ll pr mo sy sq sl sf ss tf ts up wt hn hf hi hbr hs ht hmt
    obtain ⟨g, rfl⟩ : ∃ g, f = g + 1 := ⟨f - 1, by omega⟩
    obtain ⟨lp, lt, K, L, D, e, p1, p2, p3, p4, p5⟩ := ht
    obtain ⟨hs1, hs2⟩ := hs
    have K5 := tok_pos hs1 s.2.2.1 (Nat.le_refl _)
    have hl := prs_ltk p1 hm'
    have htok := walk_tok hl p3
    have K5' := tok_pos htok K (Nat.le_refl _)
    obtain ⟨sf1, ss1, e1, g1⟩ := l_keep F tf ts s.1 s.2.1 s.2.2.1 (by omega) hmt F 0 sf ss (by omega) (by omega) (fun k h => by omega)
    have e1' : m_MD_keepSpare F sf ss tf ts (nI s.2.2.1) = some (nI s.2.2.1, sf1, ss1) := by unfold m_MD_keepSpare; simp only [z_lit, e1, z_bnd3]
    obtain ⟨rs2, lm2, fm2, sn2, ch2, fq2, dl2, lq2, ll2, pr2, mo2, sy2, sq2, sl2, tf2, ts2, up2, wt2, e2, g2⟩ := s_priceTokens F B ch fq dl lq ll mf ms pr mo sy sq sl tf ts up wt b s.1 s.2.1 s.2.2.2.1 s.2.2.2.2.1 s.2.2.2.2.2 ml ds lp lt fr to s.2.2.1 K hF hB hft hto hs1 hmt hs2 hm p1 p2 hl p3
    obtain ⟨fq3, dl3, lq3, ll3, mo3, sy3, sq3, sl3, up3, wt3, e3, M3⟩ := s_mweigh F B fq2 dl2 lq2 ll2 mo2 sy2 sq2 sl2 tf2 ts2 up2 wt2 fm2 lm2 rs2 sn2 b (wT lt fr) (wF lt ds fr) L D e fr to K ef hF hB hto hef h0 htok g2 p4
    have e5 : kb2 (stb (to - fr)) (fxb b (wT lt fr) (wF lt ds fr) fr K) (owb b (wT lt fr) (wF lt ds fr) fr K L D e) = tsb b fr to (wTS lt ds fr K L D e) := rfl
    have e6 : kd2 (stb (to - fr)) (fxb b (wT lt fr) (wF lt ds fr) fr K) (owb b (wT lt fr) (wF lt ds fr) fr K L D e) = tsk b fr to (wTS lt ds fr K L D e) := rfl
    rw [e5, e6] at e3
    have B1 : tsb b fr to s < 100000 := tsb_lt hto
    have B2 : tsb b fr to (wTS lt ds fr K L D e) < 100000 := tsb_lt hto
    show ∃ (v v' sp' rs' lm' fm' sn' : Int32) (ch' fq' dl' lq' ll' pr' mo' sy' sq' sl' sf' ss' tf' ts' up' wt' : Nat → Int32), B_MD_makeBlock_47 F B (nI ef) mf ms (nI fr) (nI to) (L_MD_makeBlock_47 F B (nI ef) mf ms (nI fr) (nI to) g) _ _ _ _ _ _ _ _ _ _ _ _ _ _ _ _ _ _ _ _ _ _ _ _ _ _ _ = some _ ∧ _
    unfold B_MD_makeBlock_47
    have n1 : (nI ef ≤ nI i) = False := by rw [z_le (by omega) (by omega)]; exact eq_false (by omega)
    have n2 : (nI 1 = nI 0) = False := eq_false (by decide)
    simp only [z_lit, n1, n2, if_false, e1', z_bnd3, e2, z_bnd19, e3, z_bnd16, nm, z_one, z_add]
    rcases p5 with ⟨c, r', hr, ht'⟩ | ⟨c, hs', hr⟩
    · have n3 : (nI (tsb b fr to s) ≤ nI (tsb b fr to (wTS lt ds fr K L D e))) = False := by rw [z_le (by omega) (by omega)]; exact eq_false (by omega)
      simp only [n3, n2, if_false, z_bnd1, z_bnd6]
      obtain ⟨v, v', sp', rs', lm', fm', sn', ch', fq', dl', lq', ll', pr', mo', sy', sq', sl', sf', ss', tf', ts', up', wt', g5, g6⟩ := ih g (i + 1) (br + 1) (wTS lt ds fr K L D e) s' r' (nI s.2.2.1) (nI (rowl L D).length) (nI (um L 257 286)) (nI (um D 1 30)) (nI (toldc e)) ch2 fq3 dl3 lq3 ll3 pr2 mo3 sy3 sq3 sl3 sf1 ss1 tf2 ts2 up3 wt3 (by omega) (by omega) (by omega) (by omega) ⟨htok, p4⟩ ht' g2
      refine ⟨v, v', sp', rs', lm', fm', sn', ch', fq', dl', lq', ll', pr', mo', sy', sq', sl', sf', ss', tf', ts', up', wt', ?_, g6⟩
      have e9 : br + r = br + 1 + r' := by omega
      rw [e9]
      exact g5
    · have n3 : (nI (tsb b fr to s) ≤ nI (tsb b fr to (wTS lt ds fr K L D e))) = True := by rw [z_le (by omega) (by omega)]; exact eq_true c
      obtain ⟨tf4, ts4, e4, g4⟩ := l_back F sf1 ss1 s.1 s.2.1 s.2.2.1 (by omega) g1 F 0 tf2 ts2 (by omega) (by omega) (fun k h => by omega)
      have e4' : m_MD_putBack F (nI s.2.2.1) sf1 ss1 tf2 ts2 = some (nI s.2.2.1, tf4, ts4) := by unfold m_MD_putBack; simp only [z_lit, e4, z_bnd3]
      simp only [n3, if_true, z_bnd1, e4', z_bnd3, z_bnd6]
      rw [hs', hr]
      have e := l_mb47e F B mf ms ef 0 (i + 1) (nI fr) (nI to) g (by omega) hef (by omega) (Or.inl rfl) (by omega) (nI s.2.2.1) (nI s.2.2.1) (nI (tsk b fr to s)) (nI (tsb b fr to s)) (nI br) (nI (rowl L D).length) (nI (um L 257 286)) (nI (um D 1 30)) (nI (toldc e)) ch2 fq3 dl3 lq3 ll3 pr2 mo3 sy3 sq3 sl3 sf1 ss1 tf4 ts4 up3 wt3
      exact ⟨_, _, _, _, _, _, _, _, _, _, _, _, _, _, _, _, _, _, _, _, _, _, _, e, g4⟩
theorem s_makeBlock (F : Nat) (B ch : Nat → Int32) (b T Fa : Nat → Nat) (ef fr to K r kd bt st cnt : Nat) (fq dl : Nat → Int32) (fm : Int32) (lq ll : Nat → Int32) (lm : Int32) (mf ms pr mo : Nat → Int32) (rs : Int32) (sy sq sl : Nat → Int32) (sn sp : Int32) (sf ss tf ts up wt : Nat → Int32) (hF : 100000 ≤ F) (hB : byt B b) (hft : fr ≤ to) (hto : to ≤ 512) (hef : ef < 10) (hc : cnt ≤ 1) (H : bspec b ef fr to T Fa K r kd bt) : ∃ (sp' rs' lm' fm' sn' : Int32) (ch' fq' dl' lq' ll' mf' ms' pr' mo' sy' sq' sl' sf' ss' tf' ts' up' wt' : Nat → Int32), m_MD_makeBlock F B ch (nI ef) fq dl fm lq ll lm mf ms pr mo rs sy sq sl sn sp sf ss (nI st) tf ts up wt (nI fr) (nI to) (nI cnt) = some (nI (st + cnt * bst b ef fr to), nI K, sp', nI kd, nI bt, nI r, rs', lm', fm', sn', ch', fq', dl', lq', ll', mf', ms', pr', mo', sy', sq', sl', sf', ss', tf', ts', up', wt') ∧ mtok ts' tf' T Fa K := by
  obtain ⟨mf1, ms1, e1, g1⟩ := l_mb3 F B b ef fr to cnt st hF hB hto hef hc F fr mf ms (Nat.le_refl _) hft (by omega) (fun x h1 h2 => by omega)
  have e0 : sm (mst b to (4 * ef)) fr (fr - fr) = 0 := by rw [Nat.sub_self]; rfl
  rw [e0, Nat.mul_zero, Nat.add_zero] at e1
  have hm : mfd ms1 mf1 (mls b to (4 * ef)) (mds b to (4 * ef)) fr to := fun p h1 h2 => by
    have q := mls_facts b to (4 * ef) p hto h2
    have q2 := g1 p h1 h2
    refine ⟨q2.1, q2.2, ?_, by omega, by omega⟩
    omega
  unfold m_MD_makeBlock
  rw [e1, z_bnd4]
  rcases H with ⟨h0, hK, hr, hkd, hbt⟩ | ⟨h0, K0, L0, D0, e0', L, D, e, w1, w2, w3, w4, w5⟩
  · subst h0
    subst hK
    have e2 : m_MD_firstTokens F (nI 0) mf1 ms1 tf ts (nI fr) (nI to) = some (nI 0, tf, ts) := by
      have : ∀ G, L_MD_firstTokens_7 F (nI 0) mf1 ms1 (nI to) (G + 1) (nI fr) (nI 0) tf ts = some (nI fr, nI 0, tf, ts) := fun G => by
        unfold L_MD_firstTokens_7 B_MD_firstTokens_7
        by_cases h : to ≤ fr
        · rw [if_pos (by rw [z_le (by omega) (by omega)]; exact h)]
        · rw [if_neg (by rw [z_le (by omega) (by omega)]; exact h), if_pos (by decide)]
      have e := this (F - 1)
      rw [Nat.sub_add_cancel (by omega)] at e
      unfold m_MD_firstTokens
      simp only [z_lit, e, z_bnd4]
    have e3 : m_MD_weigh F B (nI 0) fq dl fm lq ll lm mo rs sy sq sl sn tf ts (nI 0) up wt (nI fr) (nI to) = some (nI 0, nI bt, rs, lm, fm, sn, fq, dl, lq, ll, mo, sy, sq, sl, up, wt) := by
      unfold m_MD_weigh
      simp (disch := omega) only [nm, z_lit, z_one, z_mone, z_neg1, z_neg2, z_pred, z_add, z_mul, z_sub, z_le, z_lt, z_eq, z_tn, z_chk, z_eqm, z_meq, z_lem, z_mle, z_ltm, z_mlt, z_eqq, z_qeq, z_leq, z_qle, z_ltq, z_qlt, z_m1m2, z_m2m1, z_m1m1, z_m2m2, z_bnd1, z_bnd2, z_bnd3, z_bnd4, z_bnd5, z_bnd6, z_bnd7, z_bnd8, z_bnd9, z_bnd10, z_bnd11, z_bnd12, z_bnd13, z_bnd14, z_bnd15, z_bnd16, z_max, z_min, z_n31, z_shl, z_shr, z_us, z_div, z_mod, z_and, z_or, z_xor, if_true, if_false]
      rw [hbt]; rfl
    have e4 := l_mb47e F B mf1 ms1 0 1 6 (nI fr) (nI to) F (by omega) (by omega) (by omega) (Or.inr (by omega)) (by omega) (nI 0) sp (nI 0) (nI bt) (nI 0) rs lm fm sn ch fq dl lq ll pr mo sy sq sl sf ss tf ts up wt
    have e5 : bst b 0 fr to = 0 := by unfold bst; rw [if_pos rfl]
    have e6 : sm (mst b to (4 * 0)) fr (to - fr) = 0 := sm_zero _ _ _ (fun i h1 h2 => by have := (mls_facts b to (4 * 0) i hto (by omega)).2.2.2; omega)
    rw [e2, z_bnd3, e3, z_bnd16]
    simp only [z_lit]
    rw [e4, z_bnd27, e5, e6, hr, hkd]
    exact ⟨sp, rs, lm, fm, sn, ch, fq, dl, lq, ll, mf1, ms1, pr, mo, sy, sq, sl, sf, ss, tf, ts, up, wt, rfl, fun k h => by omega⟩
  · have hl : ltk (ltm ef (mls b to (4 * ef)) to) (mds b to (4 * ef)) fr to := ltm_ok hto
    obtain ⟨tf2, ts2, e2, g2⟩ := s_ftok F mf1 ms1 tf ts (mls b to (4 * ef)) (mds b to (4 * ef)) ef fr to K0 hF hto hef h0 hm hl w1
    have htok := walk_tok hl w1
    obtain ⟨fq3, dl3, lq3, ll3, mo3, sy3, sq3, sl3, up3, wt3, e3, M3⟩ := s_mweigh F B fq dl lq ll mo sy sq sl tf2 ts2 up wt fm lm rs sn b _ _ L0 D0 e0' fr to K0 ef hF hB hto hef h0 htok g2 w2
    obtain ⟨v, v', sp', rs', lm', fm', sn', ch', fq', dl', lq', ll', pr', mo', sy', sq', sl', sf', ss', tf', ts', up', wt', g5, g6⟩ := l_mb47 F B mf1 ms1 b (mls b to (4 * ef)) (mds b to (4 * ef)) ef fr to hF hB hft hto hef h0 hm (ef - 6) F 6 0 (wTS (ltm ef (mls b to (4 * ef)) to) (mds b to (4 * ef)) fr K0 L0 D0 e0') (T, Fa, K, L, D, e) r sp (nI (rowl L0 D0).length) (nI (um L0 257 286)) (nI (um D0 1 30)) (nI (toldc e0')) ch fq3 dl3 lq3 ll3 pr mo3 sy3 sq3 sl3 sf ss tf2 ts2 up3 wt3 rfl (by omega) (by omega) (by omega) ⟨htok, w2⟩ w3 g2
    rw [Nat.zero_add, ← w4, ← w5] at g5
    have e5 : bst b ef fr to = sm (mst b to (4 * ef)) fr (to - fr) := by unfold bst; rw [if_neg h0]
    refine ⟨sp', rs', lm', fm', sn', ch', fq', dl', lq', ll', mf1, ms1, pr', mo', sy', sq', sl', sf', ss', tf', ts', up', wt', ?_, g6⟩
    rw [e2, z_bnd3, e3, z_bnd16]
    simp only [z_lit]
    have g5' := g5
    simp only [wTS] at g5'
    unfold tsk tsb at g5'
    simp only at g5'
    rw [g5', z_bnd27, e5]
