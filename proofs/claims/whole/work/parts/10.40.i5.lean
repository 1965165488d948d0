/-! sets in both; matches read by both -/
def jset (N P nM Nt n : Nat) (lg : Int32) (per sy p1 p2 : Nat → Int32) : Prop := ∃ L LM : Nat → Nat, (nM ≤ N ∧ nM ≤ P ∧ nM ≤ 400 ∧ n ≤ nM ∧ n ≤ 300 ∧ n ≤ Nt ∧ Nt ≤ 400) ∧ cset L n lg per sy ∧ (∀ k, k < nM → p1 k = nI (LM k) ∧ LM k ≤ 15) ∧ (∀ k, k < n → LM k = L k) ∧ (∀ k, n ≤ k → k < nM → LM k = 0) ∧ (∀ k, k < n → 0 < L k → p2 k = nI (cde L n k))
def fo (n nF at_ : Nat) (rc sc ac rm am : Int32) : Prop := (rc = m1 ∧ sc = nI 0 ∧ rm = m1) ∨ (rc = m2 ∧ sc = m1 ∧ rm = m2) ∨ (∃ s a, s < n ∧ rc = nI s ∧ sc = m1 ∧ ac = nI a ∧ rm = nI s ∧ am = nI a ∧ at_ < a ∧ a ≤ 8 * nF)
theorem j_fnd (F N P nM n Nt nF at0 : Nat) (cb : Nat → Nat) (C M p1 p2 per sy : Nat → Int32) (lg : Int32) (hF : 100000 ≤ F) (hr : fedr cb nF C M) (J : jset N P nM Nt n lg per sy p1 p2) (ha0 : at0 ≤ 8 * nF) : ∃ (rc sc ac rm am : Int32), m_Reader_findSymbol F Nt lg per sy (nI at0) (nI (8 * nF)) C m1 = some (rc, sc, ac) ∧ m_MD_symbol F N P p1 p2 (nI at0) M (nI nF) (nI nM) = some (rm, am) ∧ fo n nF at0 rc sc ac rm am := by
  obtain ⟨L, LM, ⟨b1, b2, b3, b4, b5, b6, b7⟩, CS, h1, h2, h3, h4⟩ := J
  obtain ⟨rc, sc, ac, rm, am, e1, e2, e3⟩ := j_find F N P nM n Nt nF at0 cb C M p1 p2 per sy L LM lg hF hr b1 b2 b3 b4 b5 b6 b7 CS h1 h2 h3 h4 ha0
  refine ⟨rc, sc, ac, rm, am, e1, e2, ?_⟩
  rcases e3 with x | ⟨x1, x2, x3, _⟩ | ⟨s, x1, x2, x3, x4, x5, x6, x7, x8⟩
  · exact Or.inl x
  · exact Or.inr (Or.inl ⟨x1, x2, x3⟩)
  · exact Or.inr (Or.inr ⟨s, at0 + L s, x1, x3, x4, x5, x6, x7, by omega, x8⟩)
theorem tbl_len : ∀ k, k < 29 → (257 + k < 265 → tbn 1 k = 0 ∧ tbn 0 k = 257 + k - 254) ∧ (k = 28 → tbn 1 k = 0 ∧ tbn 0 k = 258) ∧ (265 ≤ 257 + k → k ≠ 28 → tbn 1 k = (257 + k - 261) / 4 ∧ tbn 0 k = ((4 + (257 + k - 265) % 4) <<< tbn 1 k) + 3) := by decide +kernel
theorem tbl_far : ∀ f, f < 30 → 1 ≤ tbn 2 f ∧ (f < 4 → tbn 3 f = 0 ∧ tbn 2 f = f + 1) ∧ (4 ≤ f → tbn 3 f = f / 2 - 1 ∧ tbn 2 f = ((2 + f % 2) <<< tbn 3 f) + 1) := by decide +kernel
theorem mt_e (k : Nat) (hk : k < 29) : (if nI (257 + k) < (265 : Int32) then some (0 : Int32) else (if nI (257 + k) = (285 : Int32) then some (0 : Int32) else some ((nI (257 + k) - (261 : Int32)) / (4 : Int32)))) = some (nI (tbn 1 k)) := by
  obtain ⟨t1, t2, t3⟩ := tbl_len k hk
  by_cases h1 : 257 + k < 265
  · rw [if_pos (by show nI _ < nI 265; rw [z_lt (by omega) (by omega)]; exact h1), (t1 h1).1]; rfl
  · rw [if_neg (by show ¬ (nI _ < nI 265); rw [z_lt (by omega) (by omega)]; exact h1)]
    by_cases h2 : k = 28
    · rw [if_pos (by rw [h2]; rfl), (t2 h2).1]; rfl
    · rw [if_neg (by show ¬ (nI _ = nI 285); rw [z_eq (by omega) (by omega)]; omega), (t3 (by omega) h2).1]
      show some ((nI (257 + k) - nI 261) / nI 4) = _
      rw [z_sub (by omega), z_div (by omega) (by omega)]
theorem mt_n (F k nF a : Nat) (cb : Nat → Nat) (C M : Nat → Int32) (hF : 100000 ≤ F) (hr : fedr cb nF C M) (hk : k < 29) (ha : a + tbn 1 k ≤ 8 * nF) : (if nI (257 + k) = (285 : Int32) then
some ((258 : Int32), nI a)
else
(if (265 : Int32) ≤ nI (257 + k) then
bnd2 (m_MD_take F (nI a) M (nI (tbn 1 k))) fun r2 t_at_1 =>
some (((((4 : Int32) + ((nI (257 + k) - (265 : Int32)) - (nI (257 + k) - (265 : Int32)) / (4 : Int32) * (4 : Int32))) <<< (nI (tbn 1 k) &&& 31)) + (3 : Int32)) + r2, t_at_1)
else
bnd2 (m_MD_take F (nI a) M (nI (tbn 1 k))) fun r3 t_at_2 =>
some ((nI (257 + k) - (254 : Int32)) + r3, t_at_2))) = some (nI (tbn 0 k + rb cb a (tbn 1 k)), nI (a + tbn 1 k)) := by
  obtain ⟨t1, t2, t3⟩ := tbl_len k hk
  have b1 := (tb1 k hk).2
  obtain ⟨_, _, q⟩ := s_bits F (tbn 1 k) nF a cb C M hF hr (by omega) ha
  by_cases h2 : k = 28
  · rw [if_pos (by rw [h2]; rfl), (t2 h2).1, (t2 h2).2]; rfl
  · rw [if_neg (by show ¬ (nI _ = nI 285); rw [z_eq (by omega) (by omega)]; omega), q, z_bnd2, z_bnd2]
    by_cases h1 : 265 ≤ 257 + k
    · rw [if_pos (by show nI 265 ≤ nI _; rw [z_le (by omega) (by omega)]; exact h1)]
      have e4 : (257 + k - 265) - (257 + k - 265) / 4 * 4 = (257 + k - 265) % 4 := by omega
      rw [(t3 h1 h2).2]
      simp (disch := omega) only [nm, z_lit, z_one, z_mone, z_neg1, z_neg2, z_pred, z_add, z_mul, z_sub, z_le, z_lt, z_eq, z_tn, z_chk, z_eqm, z_meq, z_lem, z_mle, z_ltm, z_mlt, z_eqq, z_qeq, z_leq, z_qle, z_ltq, z_qlt, z_m1m2, z_m2m1, z_m1m1, z_m2m2, z_bnd1, z_bnd2, z_bnd3, z_bnd4, z_bnd5, z_bnd6, z_bnd7, z_bnd8, z_bnd9, z_bnd10, z_bnd11, z_bnd12, z_bnd13, z_bnd14, z_bnd15, z_bnd16, z_max, z_min, z_n31, z_shl, z_shr, z_us, z_div, z_mod, z_and, z_or, z_xor, if_true, if_false, e4]
    · rw [if_neg (by show ¬ (nI 265 ≤ nI _); rw [z_le (by omega) (by omega)]; exact h1), (t1 (by omega)).2]
      simp (disch := omega) only [nm, z_lit, z_one, z_mone, z_neg1, z_neg2, z_pred, z_add, z_mul, z_sub, z_le, z_lt, z_eq, z_tn, z_chk, z_eqm, z_meq, z_lem, z_mle, z_ltm, z_mlt, z_eqq, z_qeq, z_leq, z_qle, z_ltq, z_qlt, z_m1m2, z_m2m1, z_m1m1, z_m2m2, z_bnd1, z_bnd2, z_bnd3, z_bnd4, z_bnd5, z_bnd6, z_bnd7, z_bnd8, z_bnd9, z_bnd10, z_bnd11, z_bnd12, z_bnd13, z_bnd14, z_bnd15, z_bnd16, z_max, z_min, z_n31, z_shl, z_shr, z_us, z_div, z_mod, z_and, z_or, z_xor, if_true, if_false]
theorem mt_m (f : Nat) (hf : f < 30) : (if (4 : Int32) ≤ nI f then some ((nI f / (2 : Int32)) - (1 : Int32)) else some (0 : Int32)) = some (nI (tbn 3 f)) := by
  obtain ⟨_, t1, t2⟩ := tbl_far f hf
  by_cases h : 4 ≤ f
  · rw [if_pos (by show nI 4 ≤ nI _; rw [z_le (by omega) (by omega)]; exact h), (t2 h).1]
    show some (nI f / nI 2 - nI 1) = _
    rw [z_div (by omega) (by omega), z_sub (by omega)]
  · rw [if_neg (by show ¬ (nI 4 ≤ nI _); rw [z_le (by omega) (by omega)]; exact h), (t1 (by omega)).1]; rfl
theorem mt_f (F f nF a : Nat) (cb : Nat → Nat) (C M : Nat → Int32) (hF : 100000 ≤ F) (hr : fedr cb nF C M) (hf : f < 30) (ha : a + tbn 3 f ≤ 8 * nF) : (if (4 : Int32) ≤ nI f then
bnd2 (m_MD_take F (nI a) M (nI (tbn 3 f))) fun r7 t_at_4 =>
some (((((2 : Int32) + (nI f - nI f / (2 : Int32) * (2 : Int32))) <<< (nI (tbn 3 f) &&& 31)) + (1 : Int32)) + r7, t_at_4)
else
bnd2 (m_MD_take F (nI a) M (nI (tbn 3 f))) fun r8 t_at_5 =>
some ((nI f + (1 : Int32)) + r8, t_at_5)) = some (nI (tbn 2 f + rb cb a (tbn 3 f)), nI (a + tbn 3 f)) := by
  obtain ⟨_, t1, t2⟩ := tbl_far f hf
  have b1 := (tb3 f hf).2
  obtain ⟨_, _, q⟩ := s_bits F (tbn 3 f) nF a cb C M hF hr (by omega) ha
  rw [q, z_bnd2, z_bnd2]
  by_cases h : 4 ≤ f
  · rw [if_pos (by show nI 4 ≤ nI _; rw [z_le (by omega) (by omega)]; exact h)]
    have e4 : f - f / 2 * 2 = f % 2 := by omega
    rw [(t2 h).2]
    simp (disch := omega) only [nm, z_lit, z_one, z_mone, z_neg1, z_neg2, z_pred, z_add, z_mul, z_sub, z_le, z_lt, z_eq, z_tn, z_chk, z_eqm, z_meq, z_lem, z_mle, z_ltm, z_mlt, z_eqq, z_qeq, z_leq, z_qle, z_ltq, z_qlt, z_m1m2, z_m2m1, z_m1m1, z_m2m2, z_bnd1, z_bnd2, z_bnd3, z_bnd4, z_bnd5, z_bnd6, z_bnd7, z_bnd8, z_bnd9, z_bnd10, z_bnd11, z_bnd12, z_bnd13, z_bnd14, z_bnd15, z_bnd16, z_max, z_min, z_n31, z_shl, z_shr, z_us, z_div, z_mod, z_and, z_or, z_xor, if_true, if_false, e4]
  · rw [if_neg (by show ¬ (nI 4 ≤ nI _); rw [z_le (by omega) (by omega)]; exact h), (t1 (by omega)).2]
    simp (disch := omega) only [nm, z_lit, z_one, z_mone, z_neg1, z_neg2, z_pred, z_add, z_mul, z_sub, z_le, z_lt, z_eq, z_tn, z_chk, z_eqm, z_meq, z_lem, z_mle, z_ltm, z_mlt, z_eqq, z_qeq, z_leq, z_qle, z_ltq, z_qlt, z_m1m2, z_m2m1, z_m1m1, z_m2m2, z_bnd1, z_bnd2, z_bnd3, z_bnd4, z_bnd5, z_bnd6, z_bnd7, z_bnd8, z_bnd9, z_bnd10, z_bnd11, z_bnd12, z_bnd13, z_bnd14, z_bnd15, z_bnd16, z_max, z_min, z_n31, z_shl, z_shr, z_us, z_div, z_mod, z_and, z_or, z_xor, if_true, if_false]
/-- both copy -/
theorem l_cpS (F room n k f : Nat) (cc d : Int32) (co : Nat → Int32) (s : Nat) (hs : s < 4) (hf : 0 < f) : ∃ v, L_Reader_readMatch_116 F room (nI n) d f (nI k) cc (nI s) co = some (v, cc, nI s, co) := by
  obtain ⟨f', rfl⟩ : ∃ f', f = f' + 1 := ⟨f - 1, by omega⟩
  unfold L_Reader_readMatch_116 B_Reader_readMatch_116
  by_cases h : nI n ≤ nI k
  · rw [if_pos h]; exact ⟨_, rfl⟩
  · rw [if_neg h]
    simp only [z_nm1 (show s < 2147483648 by omega), if_false]
    exact ⟨_, rfl⟩
def cpo (room : Nat) (cc css : Int32) (co : Nat → Int32) (rr : Option Int32) (mc : Int32) (mo : Nat → Int32) : Prop := ∃ c', cc = nI c' ∧ mc = nI c' ∧ c' ≤ room ∧ orel c' co mo ∧ ((css = m1 ∧ rr = none) ∨ (css = nI 3 ∧ rr = some (nI 4)))
theorem l_jcp (F n d room : Nat) (hn : n ≤ 70000) (hd : 1 ≤ d) (hroom : room ≤ 2000) : ∀ (f g k c : Nat) (o m : Nat → Int32), k ≤ n → n - k < f → n - k < g → d ≤ c → c ≤ room → orel c o m → ∃ v cc css co rr v' mc mo, L_Reader_readMatch_116 F room (nI n) (nI d) f (nI k) (nI c) m1 o = some (v, cc, css, co) ∧ L_MD_readMatch_227 F (nI room) (nI n) (nI d) g (nI k) (nI c) m = some (rr, v', mc, mo) ∧ cpo room cc css co rr mc mo := by
  intro f
  induction f with
  | zero => intros; omega
  | succ f ih =>
    intro g k c o m hk hf hg hdc hc ho
    obtain ⟨g', rfl⟩ : ∃ g', g = g' + 1 := ⟨g - 1, by omega⟩
    unfold L_Reader_readMatch_116 B_Reader_readMatch_116 L_MD_readMatch_227 B_MD_readMatch_227
    by_cases h : n ≤ k
    · have e1 : (nI n ≤ nI k) = True := by rw [z_le (by omega) (by omega)]; exact eq_true h
      simp only [e1, if_true]
      exact ⟨_, _, _, _, _, _, _, _, rfl, rfl, c, rfl, rfl, hc, ho, Or.inl ⟨rfl, rfl⟩⟩
    · have e1 : (nI n ≤ nI k) = False := by rw [z_le (by omega) (by omega)]; exact eq_false h
      have em : (m1 = (-1 : Int32)) = True := eq_true rfl
      have es : nI c - nI d = nI (c - d) := z_sub hdc
      obtain ⟨b, hb, e2, e3⟩ := ho (c - d) (by omega)
      simp only [e1, if_false, em, if_true, es, z_chk (show c - d < 2147483648 by omega) (show c - d < room by omega), z_chk (show c - d < 2147483648 by omega) (show c - d < 2000 by omega), z_tn (show c - d < 2147483648 by omega), e2, e3]
      rcases j_add F room c b o m hroom hc hb ho with ⟨h1, o', m', a1, a2, a3⟩ | ⟨a1, a2⟩
      · rw [a1, a2]
        have e4 : (nI 0 ≤ (0 : Int32)) = True := eq_true (by decide)
        simp only [z_bnd3, e4, if_true, nm, z_one, z_add]
        exact ih g' (k + 1) (c + 1) o' m' (by omega) (by omega) (by omega) (by omega) (by omega) a3
      · rw [a1, a2]
        have e4 : (nI 4 ≤ (0 : Int32)) = False := eq_false (by decide)
        simp only [z_bnd3, e4, if_false, nm, z_one, z_add]
        obtain ⟨v, hv⟩ := l_cpS F room n (k + 1) f (nI c) (nI d) o 3 (by omega) (by omega)
        exact ⟨_, _, _, _, _, _, _, _, hv, rfl, c, rfl, rfl, hc, ho, Or.inr ⟨rfl, rfl⟩⟩
theorem has_0 (F e nF a : Nat) (hn : nF ≤ 1200) (he : e < 20) (ha : a ≤ 8 * nF) (h : 8 * nF < a + e) : m_MD_has F (nI a) (nI nF) (nI e) = some (nI 0) := by
  unfold m_MD_has
  simp (disch := omega) only [nm, z_lit, z_one, z_mone, z_neg1, z_neg2, z_pred, z_add, z_mul, z_sub, z_le, z_lt, z_eq, z_tn, z_chk, z_eqm, z_meq, z_lem, z_mle, z_ltm, z_mlt, z_eqq, z_qeq, z_leq, z_qle, z_ltq, z_qlt, z_m1m2, z_m2m1, z_m1m1, z_m2m2, z_bnd1, z_bnd2, z_bnd3, z_bnd4, z_bnd5, z_bnd6, z_bnd7, z_bnd8, z_bnd9, z_bnd10, z_bnd11, z_bnd12, z_bnd13, z_bnd14, z_bnd15, z_bnd16, z_max, z_min, z_n31, z_shl, z_shr, z_us, z_div, z_mod, z_and, z_or, z_xor, if_true, if_false, h]
theorem j_match (F Nt n nF room at0 c k lb : Nat) (cb : Nat → Nat) (C M o m per sy fl_ fc : Nat → Int32) (lg s : Int32) (hF : 100000 ≤ F) (hr : fedr cb nF C M) (J : jset 32 32 32 Nt n lg per sy fl_ fc) (hroom : room ≤ 2000) (hc : c ≤ room) (ho : orel c o m) (ha : at0 ≤ 8 * nF) (hk : k < 29) : ∃ cc cst css ca co mis mc ms ma mo, m_Reader_readMatch F Nt room lg per sy (nI at0) (nI (8 * nF)) C o (nI c) m1 s (nI k) (nI lb) = some (cc, cst, css, ca, co) ∧ m_MD_readMatch F (nI at0) fc fl_ M (nI nF) m (nI c) (nI room) s (nI (257 + k)) (nI lb) = some (mis, mc, ms, ma, mo) ∧ jr nF room at0 cc cst css ca co mis mc ms ma mo := by
  have hnF := hr.1
  obtain ⟨t1, t1b⟩ := tb1 k hk
  obtain ⟨t0, t0b⟩ := tb0 k hk
  have ck1 : ∀ {α : Type} (x : Option α), chk (inb (nI k) (tn 1)) x = x := fun x => z_chk (by omega) (by rw [tn1]; omega)
  have ck0 : ∀ {α : Type} (x : Option α), chk (inb (nI k) (tn 0)) x = x := fun x => z_chk (by omega) (by rw [tn0]; omega)
  have hk32 : (32 : Int32) = nI 32 := rfl
  unfold m_Reader_readMatch m_MD_readMatch
  rw [mt_e k hk]
  simp only [ck1, ck0, z_tn (show k < 2147483648 by omega), t1, t0, z_bnd1]
  by_cases h1 : 8 * nF < at0 + tbn 1 k
  · obtain ⟨q1, q2⟩ := s_nobits F (tbn 1 k) nF at0 C hnF ha (by omega) h1
    rw [q1, q2]
    have e0 : (nI 0 = (0 : Int32)) = True := eq_true rfl
    have em : (m1 = (-1 : Int32)) = True := eq_true rfl
    simp only [z_bnd3, z_bnd1, e0, em, if_true]
    exact ⟨_, _, _, _, _, _, _, _, _, _, rfl, rfl, jr_end 0 (by omega) hc ho⟩
  · obtain ⟨q1, q2, _⟩ := s_bits F (tbn 1 k) nF at0 cb C M hF hr (by omega) (by omega)
    have q3 := mt_n F k nF at0 cb C M hF hr hk (by omega)
    rw [q1, q2]
    have rl : rb cb at0 (tbn 1 k) < 2 ^ 5 := Nat.lt_of_lt_of_le (rb_lt cb at0 _) (Nat.pow_le_pow_right (by omega) (by omega))
    have e0 : (nI 1 = (0 : Int32)) = False := eq_false (by decide)
    have em : (nI (rb cb at0 (tbn 1 k)) = (-1 : Int32)) = False := z_nm1 (by omega)
    simp only [z_bnd3, z_bnd1, e0, em, if_false, nm, z_add]
    rw [q3, z_bnd2]
    have hcnt : tbn 0 k + rb cb at0 (tbn 1 k) < 400 := by omega
    generalize tbn 0 k + rb cb at0 (tbn 1 k) = cnt at hcnt ⊢
    have hn3 : n ≤ 300 := by
      obtain ⟨_, _, hh, _⟩ := J
      exact hh.2.2.2.2.1
    obtain ⟨rc, sc, ac, rm, am, f1, f2, f3⟩ := j_fnd F 32 32 32 n Nt nF (at0 + tbn 1 k) cb C M fl_ fc per sy lg hF hr J (by omega)
    rw [hk32, f1, f2]
    simp only [z_bnd3, z_bnd2]
    have em' : (m1 = (-1 : Int32)) = True := eq_true rfl
    have e00 : (nI 0 = (0 : Int32)) = True := eq_true rfl
    rcases f3 with ⟨rfl, rfl, rfl⟩ | ⟨rfl, rfl, rfl⟩ | ⟨x, a, x1, rfl, rfl, rfl, rfl, rfl, x2, x3⟩
    · have e1 : (nI 0 = (-1 : Int32)) = False := z_nm1 (by omega)
      simp only [e1, em', if_false, if_true]
      exact ⟨_, _, _, _, _, _, _, _, _, _, rfl, rfl, jr_end 0 (by omega) hc ho⟩
    · have e1 : (m2 < (0 : Int32)) = True := eq_true (by decide)
      have e2 : (m2 = (-1 : Int32)) = False := eq_false (by decide)
      simp only [e1, e2, em', if_false, if_true, m_Reader_breakAt, m_MD_broken, z_bnd2]
      exact ⟨_, _, _, _, _, _, _, _, _, _, rfl, rfl, jr_end 2 (by omega) hc ho⟩
    · have e1 : (nI x < (0 : Int32)) = False := eq_false (by show ¬ (nI x < nI 0); rw [z_lt (by omega) (by omega)]; omega)
      have e2 : (nI x = (-1 : Int32)) = False := z_nm1 (by omega)
      simp only [e1, e2, em', if_false, if_true]
      by_cases hx : x < 30
      · have e3 : (nI x < (30 : Int32)) = True := eq_true (by show nI x < nI 30; rw [z_lt (by omega) (by omega)]; exact hx)
        obtain ⟨t3, t3b⟩ := tb3 x hx
        obtain ⟨t2, t2b⟩ := tb2 x hx
        have ck3 : ∀ {α : Type} (y : Option α), chk (inb (nI x) (tn 3)) y = y := fun y => z_chk (by omega) (by rw [tn3]; omega)
        have ck2 : ∀ {α : Type} (y : Option α), chk (inb (nI x) (tn 2)) y = y := fun y => z_chk (by omega) (by rw [tn2]; omega)
        have q4 := mt_m x hx
        simp only [e3, if_true, ck3, ck2, z_tn (show x < 2147483648 by omega), t3, t2]
        rw [q4, z_bnd1]
        by_cases h2 : 8 * nF < a + tbn 3 x
        · obtain ⟨q5, q6⟩ := s_nobits F (tbn 3 x) nF a C hnF x3 (by omega) h2
          rw [q5, q6]
          simp only [z_bnd3, z_bnd1, e00, em', if_true]
          exact ⟨_, _, _, _, _, _, _, _, _, _, rfl, rfl, jr_end 0 (by omega) hc ho⟩
        · obtain ⟨q5, q6, _⟩ := s_bits F (tbn 3 x) nF a cb C M hF hr (by omega) (by omega)
          have q7 := mt_f F x nF a cb C M hF hr hx (by omega)
          have rl2 : rb cb a (tbn 3 x) < 2 ^ 13 := Nat.lt_of_lt_of_le (rb_lt cb a _) (Nat.pow_le_pow_right (by omega) (by omega))
          have em2 : (nI (rb cb a (tbn 3 x)) = (-1 : Int32)) = False := z_nm1 (by omega)
          have b2 := (tbl_far x hx).1
          rw [q5, q6]
          simp only [z_bnd3, z_bnd1, e0, em2, if_false, z_add]
          rw [q7, z_bnd2]
          have hd : tbn 2 x + rb cb a (tbn 3 x) < 50000 := by omega
          have hd1 : 1 ≤ tbn 2 x + rb cb a (tbn 3 x) := by omega
          generalize tbn 2 x + rb cb a (tbn 3 x) = d at hd hd1 ⊢
          by_cases h3 : d ≤ c
          · have e4 : (nI d ≤ nI c) = True := eq_true (by rw [z_le (by omega) (by omega)]; exact h3)
            simp only [e4, if_true, z_bnd2]
            obtain ⟨v, cc, css, co, rr, v', mc, mo, a1, a2, c', a3, a4, a5, a6, a7⟩ := l_jcp F cnt d room (by omega) hd1 hroom F F 0 c o m (by omega) (by omega) (by omega) h3 hc ho
            rw [show (0 : Int32) = nI 0 from rfl, a1, a2]
            simp only [z_bnd4]
            subst a3; subst a4
            rcases a7 with ⟨rfl, rfl⟩ | ⟨rfl, rfl⟩
            · exact ⟨_, _, _, _, _, _, _, _, _, _, rfl, rfl, jr_go a5 a6 (by omega) (by omega)⟩
            · exact ⟨_, _, _, _, _, _, _, _, _, _, rfl, rfl, jr_end 3 (by omega) a5 a6⟩
          · have e4 : (nI d ≤ nI c) = False := eq_false (by rw [z_le (by omega) (by omega)]; exact h3)
            simp only [e4, if_false, m_Reader_breakAt, m_MD_broken, z_bnd2]
            obtain ⟨v, hv⟩ := l_cpS F room cnt 0 F (nI c) (nI d) o 2 (by omega) (by omega)
            rw [show (2 : Int32) = nI 2 from rfl, show (0 : Int32) = nI 0 from rfl, hv]
            exact ⟨_, _, _, _, _, _, _, _, _, _, rfl, rfl, jr_end 2 (by omega) hc ho⟩
      · have e3 : (nI x < (30 : Int32)) = False := eq_false (by show ¬ (nI x < nI 30); rw [z_lt (by omega) (by omega)]; exact hx)
        simp only [e3, if_false, m_Reader_breakAt, m_MD_broken, z_bnd2]
        exact ⟨_, _, _, _, _, _, _, _, _, _, rfl, rfl, jr_end 2 (by omega) hc ho⟩
