/-! writing tokens -/
theorem huff_pos {c d : Nat → Nat} {n : Nat} (h : huff c n d) : ∀ k, k < n → 0 < c k → 0 < d k := by
  intro k hk hc
  obtain ⟨o, m, H, g1, g2, g3⟩ := h
  obtain ⟨i, hi, rfl⟩ := H.2.2.1 k hk hc
  by_cases hm : 2 ≤ m
  · obtain ⟨w, a, T, hd⟩ := g3 hm
    have ha2 : ∀ i, i < 2 * m - 2 → i < a i ∧ a i ≤ 2 * m - 2 := fun i hi => by have := T.2.2.1 i hi; omega
    rw [hd i hi, dpt_s ha2 (by omega)]; omega
  · have e : m = 1 := by omega
    subst e
    have e0 : i = 0 := by omega
    subst e0
    rw [g2 rfl]; omega
theorem lc_pos (b T : Nat → Nat) (fr : Nat) : ∀ K k, k < K → 0 < lc b T fr K (tsy b T fr k) := by
  intro K
  induction K with
  | zero => intro k h; omega
  | succ K ih =>
    intro k h
    rw [lc]
    by_cases e : k = K
    · rw [e, if_pos rfl]; omega
    · have := ih k (by omega); omega
theorem lc_end (b T : Nat → Nat) (fr : Nat) : ∀ K, 0 < lc b T fr K 256 := by
  intro K
  induction K with
  | zero => rw [lc, if_pos rfl]; omega
  | succ K ih => rw [lc]; omega
theorem fc_pos (T Fa : Nat → Nat) : ∀ K k, k < K → T k ≠ 1 → 0 < fc T Fa K (fs (Fa k)) := by
  intro K
  induction K with
  | zero => intro k h; omega
  | succ K ih =>
    intro k h hT
    rw [fc]
    by_cases e : k = K
    · rw [← e, if_neg hT, if_pos rfl]; omega
    · have := ih k (by omega) hT; omega
/-- both use the codes CL, CD with the lengths LL, DL -/
def jc (F z : Nat) (ll dl lcd dcd mll mdl mlc mdc : Nat → Int32) (LL DL CL CD : Nat → Nat) : Prop :=
  (∀ s, s < 286 → 0 < LL s → (∀ n ca, m_Writer_putLiteral F ll n ca lcd (nI z) (nI s) = bnd2 (m_Writer_putCode F n ca (nI (CL s)) (nI (LL s))) fun u v => some (u, v)) ∧ mll s = nI (LL s) ∧ mlc s = nI (CL s) ∧ LL s ≤ 15) ∧
  (∀ s, s < 30 → 0 < DL s → (∀ n ca, (if nI z = nI 0 then bnd2 (m_Writer_putCode F n ca (nI s) (nI 5)) fun u v => some (u, v) else chk (inb (nI s) 30) <| chk (inb (nI s) 30) <| bnd2 (m_Writer_putCode F n ca (dcd (nI s).toNatClampNeg) (dl (nI s).toNatClampNeg)) fun u v => some (u, v)) = bnd2 (m_Writer_putCode F n ca (nI (CD s)) (nI (DL s))) fun u v => some (u, v)) ∧ mdl s = nI (DL s) ∧ mdc s = nI (CD s) ∧ DL s ≤ 15)
/-- bits of one token -/
def tb1_ (b T Fa : Nat → Nat) (fr : Nat) (LL DL : Nat → Nat) (i : Nat) : Nat := LL (tsy b T fr i) + (if T i = 1 then 0 else lx (T i) + DL (fs (Fa i)) + fx (Fa i))
theorem s_tlen0 (F t : Nat) (ht : t < 256) : m_DE_tokenLength F (nI t) = some (nI 0) := by
  have e := s_tlen F t (by omega)
  have e65 : t / 65536 = 0 := by omega
  rw [e65] at e
  exact e
theorem c_lit (F z K k n n1 t : Nat) (dl ll tkn dcd lcd ca ca1 : Nat → Int32) (rec : Int32 → Int32 → (Nat → Int32) → Option (Int32 × Int32 × (Nat → Int32))) (hk : k < K) (hK : K ≤ 512) (et : tkn k = nI t) (ht : t < 256) (j1 : m_Writer_putLiteral F ll (nI n) ca lcd (nI z) (nI t) = some (nI n1, ca1)) : B_Writer_putCoded_88 F dl ll (nI K) tkn dcd lcd (nI z) rec (nI k) (nI n) ca = rec (nI (k + 1)) (nI n1) ca1 := by
  have tlen := s_tlen0 F t ht
  have n0 : ¬ (nI K ≤ nI k) := by rw [z_le (by omega) (by omega)]; omega
  unfold B_Writer_putCoded_88
  rw [if_neg n0, z_chk (by omega) (by omega), z_tn (by omega), et]
  show (bnd1 (m_DE_tokenLength F (nI t)) fun r1 => _) = _
  rw [tlen, z_bnd1]
  show (bnd2 (if nI 0 = (0 : Int32) then _ else _) _) = _
  rw [if_pos (show nI 0 = (0 : Int32) from rfl), j1]
  simp only [z_bnd2, nm, z_one, z_add]
theorem c_match (F z n n1 n2 n3 n4 T Fa : Nat) (ll dl lcd dcd mll mdl mlc mdc ca ca1 ca2 ca3 ca4 : Nat → Int32) (LL DL CL CD : Nat → Nat) (hF : 100000 ≤ F) (hT : 3 ≤ T) (hT2 : T ≤ 258) (hFa : 1 ≤ Fa) (hFa2 : Fa < 512) (hL : 0 < LL (ls T)) (hD : 0 < DL (fs Fa)) (J : jc F z ll dl lcd dcd mll mdl mlc mdc LL DL CL CD) (p1 : m_Writer_putCode F (nI n) ca (nI (CL (ls T))) (nI (LL (ls T))) = some (nI n1, ca1)) (p3 : m_Writer_putBits F (nI n1) ca1 (nI (T - tbn 0 (ls T - 257))) (nI (lx T)) = some (nI n2, ca2)) (p5 : m_Writer_putCode F (nI n2) ca2 (nI (CD (fs Fa))) (nI (DL (fs Fa))) = some (nI n3, ca3)) (p7 : m_Writer_putBits F (nI n3) ca3 (nI (Fa - tbn 2 (fs Fa))) (nI (fx Fa)) = some (nI n4, ca4)) : m_Writer_putMatch F dl ll (nI n) ca dcd lcd (nI z) (nI T) (nI Fa) = some (nI n4, ca4) := by
  have f1 := ls_facts T (by omega) hT
  have f2 := fs_facts Fa (by omega) hFa
  obtain ⟨j1, j2, j3, j4⟩ := J.1 (ls T) f1.2.1 hL
  obtain ⟨d1, d2, d3, d4⟩ := J.2 (fs Fa) f2.1 hD
  have l1 := s_lsym F T hF (by omega) hT
  have l2 := s_dsym F Fa hF (by omega) hFa
  have l3 := s_lextra F (ls T) f1.1 f1.2.1
  have esx : sx (ls T) = lx T := by unfold sx; rw [if_pos (by omega)]; exact f1.2.2.1
  rw [esx] at l3
  obtain ⟨u1, u2⟩ := tb0 (ls T - 257) (by omega)
  obtain ⟨u3, u4⟩ := tb2 (fs Fa) (by omega)
  obtain ⟨u5, u6⟩ := tb3 (fs Fa) (by omega)
  rw [f2.2.1] at u5
  have e257 : ls T - 256 - 1 = ls T - 257 := by omega
  have dd := d1 (nI n2) ca2
  rw [p5, z_bnd2] at dd
  unfold m_Writer_putMatch
  rw [l1, z_bnd1, j1, p1]
  generalize ls T = S at *
  generalize fs Fa = G at *
  simp (disch := omega) only [nm, z_lit, z_bnd2, z_sub, e257, tn0, z_chk, l3, z_bnd1, z_tn, u1, p3, l2]
  simp (disch := omega) only [z_tn, z_chk] at dd
  rw [dd]
  simp (disch := omega) only [z_bnd2, tn2, tn3, z_chk, z_tn, u3, u5, z_sub, p7]
theorem l_jtok (F z : Nat) (B tkn ts tf ll dl lcd dcd mll mdl mlc mdc : Nat → Int32) (b T Fa LL DL CL CD : Nat → Nat) (fr to K : Nat) (hF : 100000 ≤ F) (hz : z ≤ 1) (hB : byt B b) (hto : to ≤ 512) (h : tok T Fa fr to K) (hm : mtok ts tf T Fa K) (ht : ∀ i, i < K → tkn i = nI (tk b T Fa fr i)) (J : jc F z ll dl lcd dcd mll mdl mlc mdc LL DL CL CD) (hLL : ∀ k, k < K → 0 < LL (tsy b T fr k)) (hDL : ∀ k, k < K → T k ≠ 1 → 0 < DL (fs (Fa k))) : ∀ (f g k n : Nat) (ca co : Nat → Int32), k ≤ K → K - k < f → K - k < g → n + sm (tb1_ b T Fa fr LL DL) k (K - k) ≤ 4144 → Wr n ca co → ∃ ca' co', L_Writer_putCoded_88 F dl ll (nI K) tkn dcd lcd (nI z) f (nI k) (nI n) ca = some (nI K, nI (n + sm (tb1_ b T Fa fr LL DL) k (K - k)), ca') ∧ L_MD_putTokens_31 F B mdc mdl mlc mll tf ts (nI K) g (nI (fr + sm T 0 k)) (nI k) (nI n) co = some (nI to, nI K, nI (n + sm (tb1_ b T Fa fr LL DL) k (K - k)), co') ∧ Wr (n + sm (tb1_ b T Fa fr LL DL) k (K - k)) ca' co' := by
  have hb : ∀ j, j < 512 → b j < 256 := fun j hj => (hB j hj).2
  have K5 := tok_pos h K (Nat.le_refl _)
  intro f
  induction f with
  | zero => intros; omega
  | succ f ih =>
    intro g k n ca co hk hf hg hn W
    obtain ⟨g', rfl⟩ : ∃ g', g = g' + 1 := ⟨g - 1, by omega⟩
    unfold L_Writer_putCoded_88 B_Writer_putCoded_88 L_MD_putTokens_31 B_MD_putTokens_31
    by_cases e : K ≤ k
    · have e : k = K := by omega
      subst e
      rw [h.2, Nat.sub_self, sm, Nat.add_zero]
      exact ⟨ca, co, by simp (disch := omega) only [nm, z_lit, z_one, z_mone, z_neg1, z_neg2, z_pred, z_add, z_mul, z_sub, z_le, z_lt, z_eq, z_tn, z_chk, z_eqm, z_meq, z_lem, z_mle, z_ltm, z_mlt, z_eqq, z_qeq, z_leq, z_qle, z_ltq, z_qlt, z_m1m2, z_m2m1, z_m1m1, z_m2m2, z_bnd1, z_bnd2, z_bnd3, z_bnd4, z_bnd5, z_bnd6, z_bnd7, z_bnd8, z_bnd9, z_bnd10, z_bnd11, z_bnd12, z_bnd13, z_bnd14, z_bnd15, z_bnd16, z_max, z_min, z_n31, z_shl, z_shr, z_us, z_div, z_mod, z_and, z_or, z_xor, if_true, if_false, Nat.le_refl], by simp (disch := omega) only [nm, z_lit, z_one, z_mone, z_neg1, z_neg2, z_pred, z_add, z_mul, z_sub, z_le, z_lt, z_eq, z_tn, z_chk, z_eqm, z_meq, z_lem, z_mle, z_ltm, z_mlt, z_eqq, z_qeq, z_leq, z_qle, z_ltq, z_qlt, z_m1m2, z_m2m1, z_m1m1, z_m2m2, z_bnd1, z_bnd2, z_bnd3, z_bnd4, z_bnd5, z_bnd6, z_bnd7, z_bnd8, z_bnd9, z_bnd10, z_bnd11, z_bnd12, z_bnd13, z_bnd14, z_bnd15, z_bnd16, z_max, z_min, z_n31, z_shl, z_shr, z_us, z_div, z_mod, z_and, z_or, z_xor, if_true, if_false, Nat.le_refl], W⟩
    · have q := h.1 k (by omega)
      have r := tok_lt h (k := k) (by omega)
      have tl := tsy_lt h hb hto (k := k) (by omega)
      obtain ⟨m1', m2'⟩ := hm k (by omega)
      obtain ⟨b1, b2⟩ := hB (fr + sm T 0 k) (by omega)
      have es : fr + sm T 0 k + T k = fr + sm T 0 (k + 1) := by rw [sm, Nat.zero_add]; omega
      have ex : K - k = (K - (k + 1)) + 1 := by omega
      have et := ht k (by omega)
      rw [ex, sm_first] at hn
      have etb : tb1_ b T Fa fr LL DL k = LL (tsy b T fr k) + (if T k = 1 then 0 else lx (T k) + DL (fs (Fa k)) + fx (Fa k)) := rfl
      obtain ⟨j1, j2, j3, j4⟩ := J.1 (tsy b T fr k) tl.1 (hLL k (by omega))
      obtain ⟨ca1, co1, p1, p2, W1⟩ := j_code F (LL (tsy b T fr k)) n (nI (CL (tsy b T fr k))) ca co hF (by omega) (by omega) W
      by_cases e1 : T k = 1
      · rw [if_pos e1, Nat.add_zero] at etb
        have ety : tsy b T fr k = b (fr + sm T 0 k) := by unfold tsy; rw [if_pos e1]
        have etk : tk b T Fa fr k = b (fr + sm T 0 k) := by unfold tk; rw [if_pos e1]
        rw [ety] at j1 j2 j3 p1 p2 W1 etb
        rw [etk] at et
        obtain ⟨ca', co', q1, q2, W2⟩ := ih g' (k + 1) (n + LL (b (fr + sm T 0 k))) ca1 co1 (by omega) (by omega) (by omega) (by rw [etb] at hn; omega) W1
        have en : n + sm (tb1_ b T Fa fr LL DL) k (K - k) = n + LL (b (fr + sm T 0 k)) + sm (tb1_ b T Fa fr LL DL) (k + 1) (K - (k + 1)) := by rw [ex, sm_first, etb]; omega
        rw [en]
        rw [e1] at m1' es
        rw [← es] at q2
        refine ⟨ca', co', ?_, ?_, W2⟩
        · exact (c_lit F z K k n _ _ dl ll tkn dcd lcd ca ca1 _ (by omega) (by omega) et b2 (by rw [j1, p1]; rfl)).trans q1
        · simp (disch := omega) only [nm, z_lit, z_one, z_mone, z_neg1, z_neg2, z_pred, z_add, z_mul, z_sub, z_le, z_lt, z_eq, z_tn, z_chk, z_eqm, z_meq, z_lem, z_mle, z_ltm, z_mlt, z_eqq, z_qeq, z_leq, z_qle, z_ltq, z_qlt, z_m1m2, z_m2m1, z_m1m1, z_m2m2, z_bnd1, z_bnd2, z_bnd3, z_bnd4, z_bnd5, z_bnd6, z_bnd7, z_bnd8, z_bnd9, z_bnd10, z_bnd11, z_bnd12, z_bnd13, z_bnd14, z_bnd15, z_bnd16, z_max, z_min, z_n31, z_shl, z_shr, z_us, z_div, z_mod, z_and, z_or, z_xor, if_true, if_false, e, m1', b1, j2, j3, p2, Nat.le_refl]
          exact q2
      · rw [if_neg e1] at etb
        have ety : tsy b T fr k = ls (T k) := by unfold tsy; rw [if_neg e1]
        have etk : tk b T Fa fr k = T k * 65536 + Fa k := by unfold tk; rw [if_neg e1]
        rw [ety] at j1 j2 j3 p1 p2 W1 etb
        rw [etk] at et
        have f1 := ls_facts (T k) (by omega) (by omega)
        have f2 := fs_facts (Fa k) (by omega) (by omega)
        have tlen := s_tlen F (T k * 65536 + Fa k) (by omega)
        have tdst := s_tdist F (T k * 65536 + Fa k)
        have e65 : (T k * 65536 + Fa k) / 65536 = T k := by omega
        have e66 : (T k * 65536 + Fa k) % 65536 = Fa k := by omega
        rw [e65] at tlen
        rw [e66] at tdst
        have nT0 : ¬ (T k = 0) := by omega
        have nT1 : ¬ (T k ≤ 1) := by omega
        -- the length's extra bits
        obtain ⟨ca2, co2, p3, p4, W2⟩ := j_bits F (lx (T k)) (n + LL (ls (T k))) (nI (T k - tbn 0 (ls (T k) - 257))) ca1 co1 hF (by omega) (by omega) W1
        -- the distance
        obtain ⟨d1, d2, d3, d4⟩ := J.2 (fs (Fa k)) f2.1 (hDL k (by omega) e1)
        obtain ⟨ca3, co3, p5, p6, W3⟩ := j_code F (DL (fs (Fa k))) (n + LL (ls (T k)) + lx (T k)) (nI (CD (fs (Fa k)))) ca2 co2 hF (by omega) (by omega) W2
        obtain ⟨ca4, co4, p7, p8, W4⟩ := j_bits F (fx (Fa k)) (n + LL (ls (T k)) + lx (T k) + DL (fs (Fa k))) (nI (Fa k - tbn 2 (fs (Fa k)))) ca3 co3 hF (by omega) (by omega) W3
        obtain ⟨ca', co', q1, q2, W5⟩ := ih g' (k + 1) (n + LL (ls (T k)) + lx (T k) + DL (fs (Fa k)) + fx (Fa k)) ca4 co4 (by omega) (by omega) (by omega) (by rw [etb] at hn; omega) W4
        have en : n + sm (tb1_ b T Fa fr LL DL) k (K - k) = n + LL (ls (T k)) + lx (T k) + DL (fs (Fa k)) + fx (Fa k) + sm (tb1_ b T Fa fr LL DL) (k + 1) (K - (k + 1)) := by rw [ex, sm_first, etb]; omega
        rw [en]
        rw [← es] at q2
        refine ⟨ca', co', ?_, ?_, W5⟩
        · have pm := c_match F z n _ _ _ _ (T k) (Fa k) ll dl lcd dcd mll mdl mlc mdc ca ca1 ca2 ca3 ca4 LL DL CL CD hF (by omega) (by omega) (by omega) (by omega) (by have := hLL k (by omega); rw [ety] at this; exact this) (hDL k (by omega) e1) J p1 p3 p5 p7
          simp (disch := omega) only [nm, z_lit, z_one, z_mone, z_neg1, z_neg2, z_pred, z_add, z_mul, z_sub, z_le, z_lt, z_eq, z_tn, z_chk, z_eqm, z_meq, z_lem, z_mle, z_ltm, z_mlt, z_eqq, z_qeq, z_leq, z_qle, z_ltq, z_qlt, z_m1m2, z_m2m1, z_m1m1, z_m2m2, z_bnd1, z_bnd2, z_bnd3, z_bnd4, z_bnd5, z_bnd6, z_bnd7, z_bnd8, z_bnd9, z_bnd10, z_bnd11, z_bnd12, z_bnd13, z_bnd14, z_bnd15, z_bnd16, z_max, z_min, z_n31, z_shl, z_shr, z_us, z_div, z_mod, z_and, z_or, z_xor, if_true, if_false, e, et, tlen, nT0, tdst, pm]
          exact q1
        · have ssz := s_ssize F (T k) hF (by omega) (by omega)
          have sxz := s_xsize F (T k) hF (by omega) (by omega)
          have sfr := s_sfar F (Fa k) hF (by omega) (by omega)
          have sxf := s_xfar F (Fa k) hF (by omega) (by omega)
          have x1 : (if nI (T k) = nI 258 then some (nI 0) else some (nI (T k - 3) &&& ((nI 1 <<< nI (lx (T k))) - nI 1))) = some (nI (T k - tbn 0 (ls (T k) - 257))) := by
            rw [f1.2.2.2.2.2]
            by_cases c : T k = 258
            · rw [if_pos (by rw [c]), if_pos c]
            · have hne : ¬ (nI (T k) = nI 258) := by rw [z_eq (by omega) (by omega)]; exact c
              have hp : 1 ≤ 1 <<< lx (T k) := by rw [Nat.shiftLeft_eq, Nat.one_mul]; exact Nat.one_le_two_pow
              rw [if_neg hne, if_neg c, z_shl (by omega), z_sub hp, z_and]
          have x2 : nI (Fa k - 1) &&& ((nI 1 <<< nI (fx (Fa k))) - nI 1) = nI (Fa k - tbn 2 (fs (Fa k))) := by
            have hp : 1 ≤ 1 <<< fx (Fa k) := by rw [Nat.shiftLeft_eq, Nat.one_mul]; exact Nat.one_le_two_pow
            rw [f2.2.2.2.2, z_shl (by omega), z_sub hp, z_and]
          have n0 : (nI K ≤ nI k) = False := by rw [z_le (by omega) (by omega)]; exact eq_false e
          have n1 : (nI (T k) = nI 1) = False := by rw [z_eq (by omega) (by omega)]; exact eq_false e1
          have n2 : (nI (T k) ≤ nI 1) = False := by rw [z_le (by omega) (by omega)]; exact eq_false nT1
          have l31 : nI (lx (T k)) &&& nI 31 = nI (lx (T k)) := by rw [z_and, z_n31 (by omega)]
          have f31 : nI (fx (Fa k)) &&& nI 31 = nI (fx (Fa k)) := by rw [z_and, z_n31 (by omega)]
          simp (disch := omega) only [nm, z_lit, n0, if_false, z_chk, z_tn, m1', n1, ssz, z_bnd1, j2, j3, p2, z_bnd2, n2, sxz, l31, z_sub, m2', sfr, d2, d3, sxf, f31, x2, z_one, z_add]
          rw [x1, z_bnd1, p4, z_bnd2, p6, z_bnd2, p8, z_bnd2, z_bnd2]
          exact q2
