/-! a block's symbols read by both -/
theorem l_syS (F n1 n2 room f : Nat) (lg1 lg2 bc v3 v4 cc cst ca : Int32) (per1 sy1 per2 sy2 C co : Nat → Int32) (s : Nat) (hs : s < 4) (hf : 0 < f) : ∃ x y, L_Reader_readSymbols_5 F n1 n2 room lg1 per1 sy1 lg2 per2 sy2 bc C f v3 v4 cc cst (nI s) ca co = some (x, y, cc, cst, nI s, ca, co) := by
  obtain ⟨f', rfl⟩ : ∃ f', f = f' + 1 := ⟨f - 1, by omega⟩
  unfold L_Reader_readSymbols_5 B_Reader_readSymbols_5
  by_cases h : (9600 : Int32) ≤ v4
  · rw [if_pos h]; exact ⟨_, _, rfl⟩
  · rw [if_neg h]
    by_cases h2 : v3 = (256 : Int32)
    · rw [if_pos h2]; exact ⟨_, _, rfl⟩
    · rw [if_neg h2]
      simp only [z_nm1 (show s < 2147483648 by omega), if_false]
      exact ⟨_, _, rfl⟩
theorem l_sy256 (F n1 n2 room f : Nat) (lg1 lg2 bc v4 cc cst css ca : Int32) (per1 sy1 per2 sy2 C co : Nat → Int32) (hf : 0 < f) : ∃ x y, L_Reader_readSymbols_5 F n1 n2 room lg1 per1 sy1 lg2 per2 sy2 bc C f (nI 256) v4 cc cst css ca co = some (x, y, cc, cst, css, ca, co) := by
  obtain ⟨f', rfl⟩ : ∃ f', f = f' + 1 := ⟨f - 1, by omega⟩
  unfold L_Reader_readSymbols_5 B_Reader_readSymbols_5
  by_cases h : (9600 : Int32) ≤ v4
  · rw [if_pos h]; exact ⟨_, _, rfl⟩
  · rw [if_neg h, if_pos (show nI 256 = (256 : Int32) from rfl)]; exact ⟨_, _, rfl⟩
theorem l_jsym (F N1 n1 N2 n2 nF room : Nat) (cb : Nat → Nat) (C M per1 sy1 per2 sy2 ll lc fl_ fc : Nat → Int32) (lg1 lg2 : Int32) (hF : 100000 ≤ F) (hr : fedr cb nF C M) (J1 : jset 288 288 288 N1 n1 lg1 per1 sy1 ll lc) (J2 : jset 32 32 32 N2 n2 lg2 per2 sy2 fl_ fc) (hroom : room ≤ 2000) : ∀ (f g k c a : Nat) (v3 s : Int32) (o m : Nat → Int32), v3 ≠ nI 256 → k + 3 ≤ a → a ≤ 8 * nF → 8 * nF - a + 1 < f → 8 * nF - a + 1 < g → c ≤ room → orel c o m → ∃ w3 w4 cc cst css ca co rr v1 mc ms ma mo, L_Reader_readSymbols_5 F N1 N2 room lg1 per1 sy1 lg2 per2 sy2 (nI (8 * nF)) C f v3 (nI k) (nI c) s m1 (nI a) o = some (w3, w4, cc, cst, css, ca, co) ∧ L_MD_readTokens_29 F fc fl_ M (nI nF) lc ll (nI room) g (nI 1) (nI c) s (nI a) m = some (rr, v1, mc, ms, ma, mo) ∧ jr nF room a cc cst css ca co (rr.getD (nI 0)) mc ms ma mo := by
  have hnF := hr.1
  have hn1 : n1 ≤ 300 := by
    obtain ⟨_, _, hh, _⟩ := J1
    exact hh.2.2.2.2.1
  intro f
  induction f with
  | zero => intros; omega
  | succ f ih =>
    intro g k c a v3 s o m hv hka ha hf hg hc ho
    obtain ⟨g', rfl⟩ : ∃ g', g = g' + 1 := ⟨g - 1, by omega⟩
    unfold L_Reader_readSymbols_5 B_Reader_readSymbols_5 L_MD_readTokens_29 B_MD_readTokens_29
    have c1 : ((9600 : Int32) ≤ nI k) = False := eq_false (by show ¬ (nI 9600 ≤ nI k); rw [z_le (by omega) (by omega)]; omega)
    have c2 : (v3 = (256 : Int32)) = False := eq_false hv
    have em : (m1 = (-1 : Int32)) = True := eq_true rfl
    have e10 : (nI 1 = (0 : Int32)) = False := eq_false (by decide)
    obtain ⟨rc, sc, ac, rm, am, f1, f2, f3⟩ := j_fnd F 288 288 288 n1 N1 nF a cb C M ll lc per1 sy1 lg1 hF hr J1 ha
    simp only [c1, c2, em, e10, if_true, if_false]
    rw [show (288 : Int32) = nI 288 from rfl, f1, f2]
    simp only [z_bnd3, z_bnd2]
    rcases f3 with ⟨rfl, rfl, rfl⟩ | ⟨rfl, rfl, rfl⟩ | ⟨x, a', x1, rfl, rfl, rfl, rfl, rfl, x2, x3⟩
    · have e1 : (nI 0 = (-1 : Int32)) = False := z_nm1 (by omega)
      have e2 : ((1 : Int32) ≤ 0) = False := eq_false (by decide)
      simp only [e1, em, if_true, if_false, z_bnd5, e2, nm, z_one, z_add]
      obtain ⟨w3, w4, hw⟩ := l_syS F N1 N2 room f lg1 lg2 (nI (8 * nF)) m1 (nI (k + 1)) (nI c) s ac per1 sy1 per2 sy2 C o 0 (by omega) (by omega)
      exact ⟨_, _, _, _, _, _, _, _, _, _, _, _, _, hw, rfl, jr_end 0 (by omega) hc ho⟩
    · have e1 : (m2 < (0 : Int32)) = True := eq_true (by decide)
      have e2 : (m2 = (-1 : Int32)) = False := eq_false (by decide)
      have e3 : ((3 : Int32) ≤ 0) = False := eq_false (by decide)
      simp only [e1, e2, e3, em, if_false, if_true, m_Reader_breakAt, m_MD_broken, z_bnd2, z_bnd5, nm, z_one, z_add]
      obtain ⟨w3, w4, hw⟩ := l_syS F N1 N2 room f lg1 lg2 (nI (8 * nF)) m2 (nI (k + 1)) (nI c) (nI a) ac per1 sy1 per2 sy2 C o 2 (by omega) (by omega)
      exact ⟨_, _, _, _, _, _, _, _, _, _, _, _, _, hw, rfl, jr_end 2 (by omega) hc ho⟩
    · have e1 : (nI x < (0 : Int32)) = False := eq_false (by show ¬ (nI x < nI 0); rw [z_lt (by omega) (by omega)]; omega)
      have e2 : (nI x = (-1 : Int32)) = False := z_nm1 (by omega)
      simp only [e1, e2, em, if_false, if_true]
      by_cases hx : x < 286
      · have d1 : (nI x < (286 : Int32)) = True := eq_true (by show nI x < nI 286; rw [z_lt (by omega) (by omega)]; exact hx)
        have d2 : (nI x ≤ (285 : Int32)) = True := eq_true (by show nI x ≤ nI 285; rw [z_le (by omega) (by omega)]; omega)
        simp only [d1, d2, if_true]
        by_cases hx2 : 256 ≤ x
        · have d3 : ((256 : Int32) ≤ nI x) = True := eq_true (by show nI 256 ≤ nI x; rw [z_le (by omega) (by omega)]; exact hx2)
          simp only [d3, if_true]
          by_cases hx3 : x = 256
          · subst hx3
            have d4 : (nI 256 ≤ (256 : Int32)) = True := eq_true (by decide)
            have d5 : ((0 : Int32) ≤ 0) = True := eq_true (by decide)
            have d6 : (nI 256 = (256 : Int32)) = True := eq_true rfl
            simp only [d4, d5, d6, if_true, z_bnd5, z_bnd1, nm, z_one, z_add]
            obtain ⟨w3, w4, hw⟩ := l_sy256 F N1 N2 room f lg1 lg2 (nI (8 * nF)) (nI (k + 1)) (nI c) s m1 (nI a') per1 sy1 per2 sy2 C o (by omega)
            obtain ⟨g2, rfl⟩ : ∃ g2, g' = g2 + 1 := ⟨g' - 1, by omega⟩
            refine ⟨_, _, _, _, _, _, _, none, (0 : Int32), nI c, s, nI a', m, hw, ?_, jr_go hc ho (by omega) x3⟩
            unfold L_MD_readTokens_29 B_MD_readTokens_29
            rw [if_pos rfl]
          · have d4 : (nI x ≤ (256 : Int32)) = False := eq_false (by show ¬ (nI x ≤ nI 256); rw [z_le (by omega) (by omega)]; omega)
            have d6 : (nI x = (256 : Int32)) = False := eq_false (by show ¬ (nI x = nI 256); rw [z_eq (by omega) (by omega)]; exact hx3)
            have ek : (nI x - (256 : Int32)) - (1 : Int32) = nI (x - 257) := by
              show nI x - nI 256 - nI 1 = _
              rw [z_sub (by omega), z_sub (by omega)]; exact congrArg nI (by omega)
            obtain ⟨cc, cst, css, ca, co, mis, mc, ms, ma, mo, a1, a2, c', b1, b2, b3, b4, b5, b6⟩ := j_match F N2 n2 nF room a' c (x - 257) a cb C M o m per2 sy2 fl_ fc lg2 s hF hr J2 hroom hc ho x3 (by omega)
            have exx : 257 + (x - 257) = x := by omega
            rw [exx] at a2
            simp only [d4, if_false, ek, a1, a2, z_bnd5, nm, z_one, z_add]
            subst b1; subst b2; subst b5
            rcases b6 with ⟨rfl, rfl, a2', rfl, rfl, b7, b8⟩ | ⟨q, hq, rfl, rfl⟩
            · have d5 : (nI 0 ≤ (0 : Int32)) = True := eq_true (by decide)
              simp only [d5, d6, if_true, if_false, z_bnd1]
              obtain ⟨w3, w4, cc, cst, css, ca, co, rr, v1, mc, ms, ma, mo, r1, r2, r3⟩ := ih g' (k + 1) c' a2' (nI x) cst co mo (by rw [ne_eq, z_eq (by omega) (by omega)]; exact hx3) (by omega) b8 (by omega) (by omega) b3 b4
              exact ⟨w3, w4, cc, cst, css, ca, co, rr, v1, mc, ms, ma, mo, r1, r2, jr_lo (by omega) r3⟩
            · have d5 : (nI (q + 1) ≤ (0 : Int32)) = False := eq_false (by show ¬ (nI (q + 1) ≤ nI 0); rw [z_le (by omega) (by omega)]; omega)
              simp only [d5, if_false]
              obtain ⟨w3, w4, hw⟩ := l_syS F N1 N2 room f lg1 lg2 (nI (8 * nF)) (nI x) (nI (k + 1)) (nI c') cst ca per1 sy1 per2 sy2 C co q hq (by omega)
              exact ⟨_, _, _, _, _, _, _, _, _, _, _, _, _, hw, rfl, jr_end q hq b3 b4⟩
        · have d3 : ((256 : Int32) ≤ nI x) = False := eq_false (by show ¬ (nI 256 ≤ nI x); rw [z_le (by omega) (by omega)]; exact hx2)
          have d6 : (nI x = (256 : Int32)) = False := eq_false (by show ¬ (nI x = nI 256); rw [z_eq (by omega) (by omega)]; omega)
          simp only [d3, if_false]
          rcases j_add F room c x o m hroom hc (by omega) ho with ⟨h1, o', m', a1, a2, a3⟩ | ⟨a1, a2⟩
          · have d5 : (nI 0 ≤ (0 : Int32)) = True := eq_true (by decide)
            simp only [a1, a2, z_bnd3, z_bnd5, d5, d6, if_true, if_false, z_bnd1, nm, z_one, z_add]
            obtain ⟨w3, w4, cc, cst, css, ca, co, rr, v1, mc, ms, ma, mo, r1, r2, r3⟩ := ih g' (k + 1) (c + 1) a' (nI x) s o' m' (by rw [ne_eq, z_eq (by omega) (by omega)]; omega) (by omega) x3 (by omega) (by omega) (by omega) a3
            exact ⟨w3, w4, cc, cst, css, ca, co, rr, v1, mc, ms, ma, mo, r1, r2, jr_lo (by omega) r3⟩
          · have d5 : (nI 4 ≤ (0 : Int32)) = False := eq_false (by decide)
            simp only [a1, a2, z_bnd3, z_bnd5, d5, if_false, nm, z_one, z_add]
            obtain ⟨w3, w4, hw⟩ := l_syS F N1 N2 room f lg1 lg2 (nI (8 * nF)) (nI x) (nI (k + 1)) (nI c) s (nI a') per1 sy1 per2 sy2 C o 3 (by omega) (by omega)
            exact ⟨_, _, _, _, _, _, _, _, _, _, _, _, _, hw, rfl, jr_end 3 (by omega) hc ho⟩
      · have d1 : (nI x < (286 : Int32)) = False := eq_false (by show ¬ (nI x < nI 286); rw [z_lt (by omega) (by omega)]; exact hx)
        have d2 : (nI x ≤ (285 : Int32)) = False := eq_false (by show ¬ (nI x ≤ nI 285); rw [z_le (by omega) (by omega)]; omega)
        have e3 : ((3 : Int32) ≤ 0) = False := eq_false (by decide)
        simp only [d1, d2, e3, if_false, m_Reader_breakAt, m_MD_broken, z_bnd2, z_bnd5, nm, z_one, z_add]
        obtain ⟨w3, w4, hw⟩ := l_syS F N1 N2 room f lg1 lg2 (nI (8 * nF)) (nI x) (nI (k + 1)) (nI c) (nI a) (nI a') per1 sy1 per2 sy2 C o 2 (by omega) (by omega)
        exact ⟨_, _, _, _, _, _, _, _, _, _, _, _, _, hw, rfl, jr_end 2 (by omega) hc ho⟩
/-- sets of the model, numbered -/
def mset (nM n : Nat) (L : Nat → Nat) (p1 : Nat → Int32) : Prop := ∃ LM : Nat → Nat, (∀ k, k < nM → p1 k = nI (LM k) ∧ LM k ≤ 15) ∧ (∀ k, k < n → LM k = L k) ∧ (∀ k, n ≤ k → k < nM → LM k = 0)
theorem nl_ex2 {L LM : Nat → Nat} {n nM m : Nat} (hm : 1 ≤ m) (h1 : ∀ k, k < n → LM k = L k) (h2 : ∀ k, n ≤ k → k < nM → LM k = 0) : ∀ i, n + i ≤ nM → nl LM m (n + i) = nl L m n := by
  intro i
  induction i with
  | zero => intro _; exact nl_congr n (fun s hs => h1 s hs)
  | succ i ih =>
    intro hi
    show nl LM m (n + i) + (if LM (n + i) = m then 1 else 0) = _
    rw [ih (by omega), h2 (n + i) (by omega) (by omega), if_neg (by omega)]; rfl
theorem cs_ext {L LM : Nat → Nat} {n nM : Nat} (hn : n ≤ nM) (h1 : ∀ k, k < n → LM k = L k) (h2 : ∀ k, n ≤ k → k < nM → LM k = 0) : ∀ m, cs LM nM m = cs L n m ∧ cs LM nM (m + 1) = cs L n (m + 1) := by
  intro m
  induction m with
  | zero => exact ⟨rfl, rfl⟩
  | succ m ih =>
    refine ⟨ih.2, ?_⟩
    rw [cs, cs, ih.2]
    have := nl_ex2 (m := m + 1) (by omega) h1 h2 (nM - n) (by omega)
    have e : n + (nM - n) = nM := by omega
    rw [e] at this
    rw [this]
theorem j_jset (F nM Nt n : Nat) (lg : Int32) (per sy p1 p2 : Nat → Int32) (L : Nat → Nat) (hF : 100000 ≤ F) (hb : nM ≤ 300 ∧ n ≤ nM ∧ n ≤ Nt ∧ Nt ≤ 400) (CS : cset L n lg per sy) (MS : mset nM n L p1) : ∃ p2', m_MD_number F nM nM p1 p2 (nI nM) = some p2' ∧ jset nM nM nM Nt n lg per sy p1 p2' := by
  obtain ⟨LM, h1, h2, h3⟩ := MS
  obtain ⟨p2', e1, e2⟩ := s_number F nM nM nM p1 p2 LM hF (by omega) (by omega) (by omega) h1
  refine ⟨p2', e1, L, LM, by omega, CS, h1, h2, h3, fun k hk hL => ?_⟩
  have q := e2 k (by omega) (by rw [h2 k hk]; exact hL)
  rw [q]
  unfold cde
  rw [h2 k hk, (cs_ext (by omega) h2 h3 (L k)).1, nl_congr k (fun s hs => h2 s (by omega))]
theorem j_symbols (F N1 n1 N2 n2 nF room at0 c : Nat) (cb : Nat → Nat) (C M per1 sy1 per2 sy2 ll lc fl_ fc o m : Nat → Int32) (lg1 lg2 s : Int32) (L1 L2 : Nat → Nat) (hF : 100000 ≤ F) (hr : fedr cb nF C M) (hb1 : n1 ≤ 288 ∧ n1 ≤ N1 ∧ N1 ≤ 400) (hb2 : n2 ≤ 32 ∧ n2 ≤ N2 ∧ N2 ≤ 400) (CS1 : cset L1 n1 lg1 per1 sy1) (MS1 : mset 288 n1 L1 ll) (CS2 : cset L2 n2 lg2 per2 sy2) (MS2 : mset 32 n2 L2 fl_) (hroom : room ≤ 2000) (hc : c ≤ room) (ho : orel c o m) (ha3 : 3 ≤ at0) (ha : at0 ≤ 8 * nF) : ∃ cc cst css ca co mis mc ms ma fc' lc' mo, m_Reader_readSymbols F N1 N2 room lg1 per1 sy1 lg2 per2 sy2 (nI at0) (nI (8 * nF)) C o (nI c) m1 s = some (cc, cst, css, ca, co) ∧ m_MD_readTokens F (nI at0) fc fl_ M (nI nF) lc ll m (nI c) (nI room) s = some (mis, mc, ms, ma, fc', lc', mo) ∧ jr nF room at0 cc cst css ca co mis mc ms ma mo := by
  have hnF := hr.1
  obtain ⟨lc', k1, J1⟩ := j_jset F 288 N1 n1 lg1 per1 sy1 ll lc L1 hF (by omega) CS1 MS1
  obtain ⟨fc', k2, J2⟩ := j_jset F 32 N2 n2 lg2 per2 sy2 fl_ fc L2 hF (by omega) CS2 MS2
  obtain ⟨w3, w4, cc, cst, css, ca, co, rr, v1, mc, ms, ma, mo, r1, r2, r3⟩ := l_jsym F N1 n1 N2 n2 nF room cb C M per1 sy1 per2 sy2 ll lc' fl_ fc' lg1 lg2 hF hr J1 J2 hroom F F 0 c at0 m1 s o m (by decide) (by omega) ha (by omega) (by omega) hc ho
  refine ⟨cc, cst, css, ca, co, rr.getD (nI 0), mc, ms, ma, fc', lc', mo, ?_, ?_, r3⟩
  · unfold m_Reader_readSymbols
    rw [show (-1 : Int32) = m1 from rfl, show (0 : Int32) = nI 0 from rfl, r1]
    rfl
  · unfold m_MD_readTokens
    rw [show (288 : Int32) = nI 288 from rfl, show (32 : Int32) = nI 32 from rfl, k1, z_bnd1, k2, z_bnd1, show (1 : Int32) = nI 1 from rfl, r2, z_bnd6]
    cases rr <;> rfl
