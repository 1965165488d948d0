/-! the model's prices -/
/-- the model's lengths of codes -/
def mlen (L D : Nat → Nat) (dl ll : Nat → Int32) : Prop := (∀ k, k < 288 → ll k = nI (if k < 286 then L k else 0)) ∧ (∀ k, k < 32 → dl k = nI (if k < 30 then D k else 0))
theorem s_pom (F : Nat) (dl ll : Nat → Int32) (L D : Nat → Nat) (n d : Nat) (hF : 100000 ≤ F) (hM : mlen L D dl ll) (hL : ∀ s, s < 286 → L s ≤ 15) (hD : ∀ s, s < 30 → D s ≤ 15) (hn : n < 259) (h3 : 3 ≤ n) (hd : d < 512) (hd1 : 1 ≤ d) : m_MD_priceOfMatch F dl ll (nI n) (nI d) = some (nI (pml L n + pmd D d)) := by
  have f1 := ls_facts n hn h3
  have f2 := fs_facts d (by omega) hd1
  have e1 := s_ssize F n hF hn h3
  have e2 := s_sfar F d hF (by omega) hd1
  have e3 := s_xsize F n hF hn h3
  have e4 := s_xfar F d hF (by omega) hd1
  have e5 := hM.1 (ls n) (by omega)
  have e6 := hM.2 (fs d) (by omega)
  rw [if_pos f1.2.1] at e5
  rw [if_pos f2.1] at e6
  have b1 := hL (ls n) f1.2.1
  have b2 := hD (fs d) f2.1
  unfold m_MD_priceOfMatch pml pmd prc
  by_cases c1 : L (ls n) = 0
  · have c1' : L (ls n) ≤ 0 := by omega
    by_cases c2 : D (fs d) = 0
    · have c2' : D (fs d) ≤ 0 := by omega
      simp (disch := omega) only [nm, z_lit, z_one, z_mone, z_neg1, z_neg2, z_pred, z_add, z_mul, z_sub, z_le, z_lt, z_eq, z_tn, z_chk, z_eqm, z_meq, z_lem, z_mle, z_ltm, z_mlt, z_eqq, z_qeq, z_leq, z_qle, z_ltq, z_qlt, z_m1m2, z_m2m1, z_m1m1, z_m2m2, z_bnd1, z_bnd2, z_bnd3, z_bnd4, z_bnd5, z_bnd6, z_bnd7, z_bnd8, z_bnd9, z_bnd10, z_bnd11, z_bnd12, z_bnd13, z_bnd14, z_bnd15, z_bnd16, z_max, z_min, z_n31, z_shl, z_shr, z_us, z_div, z_mod, z_and, z_or, z_xor, if_true, if_false, e1, e2, e3, e4, e5, e6, c1, c1', c2, c2', Nat.le_refl]
      congr 2; omega
    · have c2' : ¬ (D (fs d) ≤ 0) := by omega
      simp (disch := omega) only [nm, z_lit, z_one, z_mone, z_neg1, z_neg2, z_pred, z_add, z_mul, z_sub, z_le, z_lt, z_eq, z_tn, z_chk, z_eqm, z_meq, z_lem, z_mle, z_ltm, z_mlt, z_eqq, z_qeq, z_leq, z_qle, z_ltq, z_qlt, z_m1m2, z_m2m1, z_m1m1, z_m2m2, z_bnd1, z_bnd2, z_bnd3, z_bnd4, z_bnd5, z_bnd6, z_bnd7, z_bnd8, z_bnd9, z_bnd10, z_bnd11, z_bnd12, z_bnd13, z_bnd14, z_bnd15, z_bnd16, z_max, z_min, z_n31, z_shl, z_shr, z_us, z_div, z_mod, z_and, z_or, z_xor, if_true, if_false, e1, e2, e3, e4, e5, e6, c1, c1', c2, c2', Nat.le_refl]
      congr 2; omega
  · have c1' : ¬ (L (ls n) ≤ 0) := by omega
    by_cases c2 : D (fs d) = 0
    · have c2' : D (fs d) ≤ 0 := by omega
      simp (disch := omega) only [nm, z_lit, z_one, z_mone, z_neg1, z_neg2, z_pred, z_add, z_mul, z_sub, z_le, z_lt, z_eq, z_tn, z_chk, z_eqm, z_meq, z_lem, z_mle, z_ltm, z_mlt, z_eqq, z_qeq, z_leq, z_qle, z_ltq, z_qlt, z_m1m2, z_m2m1, z_m1m1, z_m2m2, z_bnd1, z_bnd2, z_bnd3, z_bnd4, z_bnd5, z_bnd6, z_bnd7, z_bnd8, z_bnd9, z_bnd10, z_bnd11, z_bnd12, z_bnd13, z_bnd14, z_bnd15, z_bnd16, z_max, z_min, z_n31, z_shl, z_shr, z_us, z_div, z_mod, z_and, z_or, z_xor, if_true, if_false, e1, e2, e3, e4, e5, e6, c1, c1', c2, c2', Nat.le_refl]
      congr 2; omega
    · have c2' : ¬ (D (fs d) ≤ 0) := by omega
      simp (disch := omega) only [nm, z_lit, z_one, z_mone, z_neg1, z_neg2, z_pred, z_add, z_mul, z_sub, z_le, z_lt, z_eq, z_tn, z_chk, z_eqm, z_meq, z_lem, z_mle, z_ltm, z_mlt, z_eqq, z_qeq, z_leq, z_qle, z_ltq, z_qlt, z_m1m2, z_m2m1, z_m1m1, z_m2m2, z_bnd1, z_bnd2, z_bnd3, z_bnd4, z_bnd5, z_bnd6, z_bnd7, z_bnd8, z_bnd9, z_bnd10, z_bnd11, z_bnd12, z_bnd13, z_bnd14, z_bnd15, z_bnd16, z_max, z_min, z_n31, z_shl, z_shr, z_us, z_div, z_mod, z_and, z_or, z_xor, if_true, if_false, e1, e2, e3, e4, e5, e6, c1, c1', c2, c2', Nat.le_refl]
      congr 2; omega
theorem l_mp76 (F p ml : Nat) (dl ll mf ms : Nat → Int32) (L D lp ds : Nat → Nat) (b0 : Nat) (hF : 100000 ≤ F) (hM : mlen L D dl ll) (hL : ∀ s, s < 286 → L s ≤ 15) (hD : ∀ s, s < 30 → D s ≤ 15) (hp : p + ml ≤ 512) (hml : ml ≤ 258) (hms : ms p = nI ml) (hmf : ml ≠ 0 → mf p = nI (ds p)) (hds : ml ≠ 0 → 1 ≤ ds p) (hds2 : ds p < 512) (hb0 : b0 < 1000000) (hlp : ∀ x, p < x → x ≤ p + ml → lp x < 100000) : ∀ (f k : Nat) (ch pr : Nat → Int32), k ≤ ml - 2 → ml - 2 - k < f → ch p = nI (selk (cst L D lp ds p) b0 k).2 → pr p = nI (selk (cst L D lp ds p) b0 k).1 → (∀ x, p < x → x ≤ p + ml → pr x = nI (lp x)) → ∃ v ch' pr', L_MD_priceTokens_76 F dl ll mf ms (nI p) f (nI (3 + k)) ch pr = some (v, ch', pr') ∧ ch' p = nI (selk (cst L D lp ds p) b0 (ml - 2)).2 ∧ pr' p = nI (selk (cst L D lp ds p) b0 (ml - 2)).1 ∧ ∀ x, x ≠ p → ch' x = ch x ∧ pr' x = pr x := by
  intro f
  induction f with
  | zero => intro k ch pr _ h; omega
  | succ f ih =>
    intro k ch pr hk hf I1 I2 I3
    have sk := selk_facts (cst L D lp ds p) b0 k
    unfold L_MD_priceTokens_76 B_MD_priceTokens_76
    by_cases h : ml < 3 + k
    · have e : k = ml - 2 := by omega
      subst e
      exact ⟨_, ch, pr, by simp (disch := omega) only [nm, z_lit, z_one, z_mone, z_neg1, z_neg2, z_pred, z_add, z_mul, z_sub, z_le, z_lt, z_eq, z_tn, z_chk, z_eqm, z_meq, z_lem, z_mle, z_ltm, z_mlt, z_eqq, z_qeq, z_leq, z_qle, z_ltq, z_qlt, z_m1m2, z_m2m1, z_m1m1, z_m2m2, z_bnd1, z_bnd2, z_bnd3, z_bnd4, z_bnd5, z_bnd6, z_bnd7, z_bnd8, z_bnd9, z_bnd10, z_bnd11, z_bnd12, z_bnd13, z_bnd14, z_bnd15, z_bnd16, z_max, z_min, z_n31, z_shl, z_shr, z_us, z_div, z_mod, z_and, z_or, z_xor, if_true, if_false, hms, h]; rfl, I1, I2, fun _ _ => ⟨rfl, rfl⟩⟩
    · have e0 := hmf (by omega)
      have e1 := s_pom F dl ll L D (3 + k) (ds p) hF hM hL hD (by omega) (by omega) hds2 (hds (by omega))
      have e2 := I3 (p + (3 + k)) (by omega) (by omega)
      have b2 := hlp (p + (3 + k)) (by omega) (by omega)
      have ec : lp (p + (3 + k)) + (pml L (3 + k) + pmd D (ds p)) = cst L D lp ds p (3 + k) := by unfold cst; omega
      have f1 := ls_facts (3 + k) (by omega) (by omega)
      have f2 := fs_facts (ds p) (by omega) (hds (by omega))
      have p1 : prc (L (ls (3 + k))) 12 ≤ 15 := prc_le (hL _ f1.2.1) (by omega)
      have p2 : prc (D (fs (ds p))) 6 ≤ 15 := prc_le (hD _ f2.1) (by omega)
      have ecB : cst L D lp ds p (3 + k) < 1000000 := by unfold cst pml pmd; omega
      have es : selk (cst L D lp ds p) b0 (k + 1) = if cst L D lp ds p (3 + k) < (selk (cst L D lp ds p) b0 k).1 then (cst L D lp ds p (3 + k), 3 + k) else selk (cst L D lp ds p) b0 k := rfl
      by_cases c : (selk (cst L D lp ds p) b0 k).1 ≤ cst L D lp ds p (3 + k)
      · rw [if_neg (by omega)] at es
        simp (disch := omega) only [nm, z_lit, z_one, z_mone, z_neg1, z_neg2, z_pred, z_add, z_mul, z_sub, z_le, z_lt, z_eq, z_tn, z_chk, z_eqm, z_meq, z_lem, z_mle, z_ltm, z_mlt, z_eqq, z_qeq, z_leq, z_qle, z_ltq, z_qlt, z_m1m2, z_m2m1, z_m1m1, z_m2m2, z_bnd1, z_bnd2, z_bnd3, z_bnd4, z_bnd5, z_bnd6, z_bnd7, z_bnd8, z_bnd9, z_bnd10, z_bnd11, z_bnd12, z_bnd13, z_bnd14, z_bnd15, z_bnd16, z_max, z_min, z_n31, z_shl, z_shr, z_us, z_div, z_mod, z_and, z_or, z_xor, if_true, if_false, hms, h, e0, e1, e2, I2, ec, c]
        obtain ⟨v, ch', pr', g1, g2, g3, g4⟩ := ih (k + 1) ch pr (by omega) (by omega) (by rw [es]; exact I1) (by rw [es]; exact I2) I3
        exact ⟨v, ch', pr', g1, g2, g3, g4⟩
      · rw [if_pos (by omega)] at es
        simp (disch := omega) only [nm, z_lit, z_one, z_mone, z_neg1, z_neg2, z_pred, z_add, z_mul, z_sub, z_le, z_lt, z_eq, z_tn, z_chk, z_eqm, z_meq, z_lem, z_mle, z_ltm, z_mlt, z_eqq, z_qeq, z_leq, z_qle, z_ltq, z_qlt, z_m1m2, z_m2m1, z_m1m1, z_m2m2, z_bnd1, z_bnd2, z_bnd3, z_bnd4, z_bnd5, z_bnd6, z_bnd7, z_bnd8, z_bnd9, z_bnd10, z_bnd11, z_bnd12, z_bnd13, z_bnd14, z_bnd15, z_bnd16, z_max, z_min, z_n31, z_shl, z_shr, z_us, z_div, z_mod, z_and, z_or, z_xor, if_true, if_false, hms, h, e0, e1, e2, I2, ec, c]
        obtain ⟨v, ch', pr', g1, g2, g3, g4⟩ := ih (k + 1) (upd ch p (nI (3 + k))) (upd pr p (nI (cst L D lp ds p (3 + k)))) (by omega) (by omega) (by rw [es, z_updE]) (by rw [es, z_updE]) (fun x h1 h2 => by rw [z_updN (by omega)]; exact I3 x h1 h2)
        exact ⟨v, ch', pr', g1, g2, g3, fun x hx => by have := g4 x hx; rw [z_updN hx, z_updN hx] at this; exact this⟩
theorem l_mp16 (F : Nat) (B dl ll mf ms : Nat → Int32) (b L D ml ds lp lt : Nat → Nat) (fr to : Nat) (hF : 100000 ≤ F) (hB : byt B b) (hto : to ≤ 512) (hM : mlen L D dl ll) (hL : ∀ s, s < 286 → L s ≤ 15) (hD : ∀ s, s < 30 → D s ≤ 15) (hm : mfd ms mf ml ds fr to) (P : prs b L D ml ds lp lt fr to) (hlp : ∀ x, fr ≤ x → x ≤ to → lp x ≤ 15 * (to - x)) : ∀ (f k : Nat) (ch pr : Nat → Int32), fr ≤ k → k ≤ to → k - fr < f → (∀ x, k ≤ x → x ≤ to → pr x = nI (lp x)) → (∀ x, k ≤ x → x < to → ch x = nI (lt x)) → ∃ (v : Int32) (ch' pr' : Nat → Int32), L_MD_priceTokens_16 F B dl ll mf ms (nI fr) f (nI k + m1) ch pr = some (v, ch', pr') ∧ (∀ x, fr ≤ x → x < to → ch' x = nI (lt x)) := by
  intro f
  induction f with
  | zero => intro k ch pr _ _ h; omega
  | succ f ih =>
    intro k ch pr h0 hk hf I1 I2
    unfold L_MD_priceTokens_16 B_MD_priceTokens_16
    by_cases h : k = fr
    · subst h
      refine ⟨nI k + m1, ch, pr, ?_, I2⟩
      by_cases hk0 : k = 0
      · subst hk0; rw [if_pos (by decide)]
      · have e9 : nI k + m1 = nI (k - 1) := z_pred (by omega)
        have n9 : nI (k - 1) < nI k := by rw [z_lt (by omega) (by omega)]; omega
        rw [e9, if_pos n9]
    · obtain ⟨p, rfl⟩ : ∃ p, k = p + 1 := ⟨k - 1, by omega⟩
      have e0 : nI (p + 1) + m1 = nI p := by rw [z_pred (by omega), Nat.add_sub_cancel]
      obtain ⟨e1, b1⟩ := hB p (by omega)
      obtain ⟨a1, a2, a3, a4, a5⟩ := hm p (by omega) (by omega)
      have e2 := hM.1 (b p) (by omega)
      rw [if_pos (by omega)] at e2
      have e3 := I1 (p + 1) (by omega) (by omega)
      have b3 := hlp (p + 1) (by omega) (by omega)
      have p1 : prc (L (b p)) 12 ≤ 15 := prc_le (hL _ (by omega)) (by omega)
      have bL := hL (b p) (by omega)
      have n0 : ¬ (p < fr) := by omega
      have eq : selk (cst L D lp ds p) (prc (L (b p)) 12 + lp (p + 1)) (ml p - 2) = (lp p, lt p) := P.2 p (by omega) (by omega)
      have b0 : selk (cst L D lp ds p) (prc (L (b p)) 12 + lp (p + 1)) 0 = (prc (L (b p)) 12 + lp (p + 1), 1) := rfl
      obtain ⟨v, ch1, pr1, g1, g2, g3, g4⟩ := l_mp76 F p (ml p) dl ll mf ms L D lp ds (prc (L (b p)) 12 + lp (p + 1)) hF hM hL hD (by omega) (by omega) a1 a2 (fun h => by omega) a4 (by omega) (fun x h1 h2 => by have := hlp x (by omega) (by omega); omega) F 0 (upd ch p (nI 1)) (upd pr p (nI (lp (p + 1) + prc (L (b p)) 12))) (by omega) (by omega) z_updE (by rw [z_updE, b0]; congr 1; exact Nat.add_comm _ _) (fun x h1 h2 => by rw [z_updN (by omega)]; exact I1 x (by omega) (by omega))
      rw [eq] at g2 g3
      have go := ih p ch1 pr1 (by omega) (by omega) (by omega) (fun x h1 h2 => by
        by_cases e : x = p
        · rw [e]; exact g3
        · rw [(g4 x e).2, z_updN e]; exact I1 x (by omega) h2) (fun x h1 h2 => by
        by_cases e : x = p
        · rw [e]; exact g2
        · rw [(g4 x e).1, z_updN e]; exact I2 x (by omega) h2)
      rw [e0]
      rw [Nat.add_zero] at g1
      by_cases c : L (b p) = 0
      · have c' : L (b p) ≤ 0 := by omega
        have ep : prc (L (b p)) 12 = 12 := by unfold prc; rw [if_pos c]
        rw [ep] at g1
        simp (disch := omega) only [nm, z_lit, z_one, z_mone, z_neg1, z_neg2, z_add, z_mul, z_sub, z_le, z_lt, z_eq, z_tn, z_chk, z_eqm, z_meq, z_lem, z_mle, z_ltm, z_mlt, z_eqq, z_qeq, z_leq, z_qle, z_ltq, z_qlt, z_m1m2, z_m2m1, z_m1m1, z_m2m2, z_bnd1, z_bnd2, z_bnd3, z_bnd4, z_bnd5, z_bnd6, z_bnd7, z_bnd8, z_bnd9, z_bnd10, z_bnd11, z_bnd12, z_bnd13, z_bnd14, z_bnd15, z_bnd16, z_max, z_min, z_n31, z_shl, z_shr, z_us, z_div, z_mod, z_and, z_or, z_xor, if_true, if_false, n0, e1, e2, c', e3, g1]
        exact go
      · have c' : ¬ (L (b p) ≤ 0) := by omega
        have ep : prc (L (b p)) 12 = L (b p) := by unfold prc; rw [if_neg c]
        rw [ep] at g1
        simp (disch := omega) only [nm, z_lit, z_one, z_mone, z_neg1, z_neg2, z_add, z_mul, z_sub, z_le, z_lt, z_eq, z_tn, z_chk, z_eqm, z_meq, z_lem, z_mle, z_ltm, z_mlt, z_eqq, z_qeq, z_leq, z_qle, z_ltq, z_qlt, z_m1m2, z_m2m1, z_m1m1, z_m2m2, z_bnd1, z_bnd2, z_bnd3, z_bnd4, z_bnd5, z_bnd6, z_bnd7, z_bnd8, z_bnd9, z_bnd10, z_bnd11, z_bnd12, z_bnd13, z_bnd14, z_bnd15, z_bnd16, z_max, z_min, z_n31, z_shl, z_shr, z_us, z_div, z_mod, z_and, z_or, z_xor, if_true, if_false, n0, e1, e2, c', e3, g1]
        exact go
theorem l_mp157 (F : Nat) (ch mf : Nat → Int32) (lt ds : Nat → Nat) (fr to K : Nat) (hto : to ≤ 512) (hch : ∀ x, fr ≤ x → x < to → ch x = nI (lt x)) (hmf : ∀ x, fr ≤ x → x < to → lt x ≠ 1 → mf x = nI (ds x)) (hl : ltk lt ds fr to) (hK : wend lt fr to K) : ∀ (f k : Nat) (tf ts : Nat → Int32), k ≤ K → K - k < f → mtok ts tf (wT lt fr) (wF lt ds fr) k → ∃ tf' ts', L_MD_priceTokens_157 F ch mf (nI to) f (nI (wp lt fr k)) (nI k) tf ts = some (nI to, nI K, tf', ts') ∧ mtok ts' tf' (wT lt fr) (wF lt ds fr) K := by
  have tp := tok_pos (walk_tok hl hK) K (Nat.le_refl _)
  intro f
  induction f with
  | zero => intro k tf ts _ h; omega
  | succ f ih =>
    intro k tf ts hk hf I
    unfold L_MD_priceTokens_157 B_MD_priceTokens_157
    by_cases e : k = K
    · subst e
      rw [hK.1]
      exact ⟨tf, ts, by simp (disch := omega) only [nm, z_lit, z_one, z_mone, z_neg1, z_neg2, z_pred, z_add, z_mul, z_sub, z_le, z_lt, z_eq, z_tn, z_chk, z_eqm, z_meq, z_lem, z_mle, z_ltm, z_mlt, z_eqq, z_qeq, z_leq, z_qle, z_ltq, z_qlt, z_m1m2, z_m2m1, z_m1m1, z_m2m2, z_bnd1, z_bnd2, z_bnd3, z_bnd4, z_bnd5, z_bnd6, z_bnd7, z_bnd8, z_bnd9, z_bnd10, z_bnd11, z_bnd12, z_bnd13, z_bnd14, z_bnd15, z_bnd16, z_max, z_min, z_n31, z_shl, z_shr, z_us, z_div, z_mod, z_and, z_or, z_xor, if_true, if_false, Nat.le_refl], I⟩
    · have hlt1 := hK.2 k (by omega)
      have q := wp_ge hl k hlt1 k (Nat.le_refl _)
      have r := hl (wp lt fr k) (by omega) q.2
      have n0 : ¬ (to ≤ wp lt fr k) := by omega
      have w1 : wp lt fr (k + 1) = wp lt fr k + lt (wp lt fr k) := rfl
      have hT : wT lt fr k = lt (wp lt fr k) := rfl
      have hFa : wF lt ds fr k = if lt (wp lt fr k) = 1 then 0 else ds (wp lt fr k) := rfl
      have e1 := hch (wp lt fr k) (by omega) q.2
      have sn := mtok_snoc I
      rw [hT, hFa] at sn
      by_cases c : lt (wp lt fr k) = 1
      · rw [if_pos c, c] at sn
        have at1 := s_maddTok F k 1 0 tf ts (by omega)
        have go := ih (k + 1) _ _ (by omega) (by omega) sn
        rw [w1, c] at go
        rw [c] at e1
        simp (disch := omega) only [nm, z_lit, z_one, z_mone, z_neg1, z_neg2, z_pred, z_add, z_mul, z_sub, z_le, z_lt, z_eq, z_tn, z_chk, z_eqm, z_meq, z_lem, z_mle, z_ltm, z_mlt, z_eqq, z_qeq, z_leq, z_qle, z_ltq, z_qlt, z_m1m2, z_m2m1, z_m1m1, z_m2m2, z_bnd1, z_bnd2, z_bnd3, z_bnd4, z_bnd5, z_bnd6, z_bnd7, z_bnd8, z_bnd9, z_bnd10, z_bnd11, z_bnd12, z_bnd13, z_bnd14, z_bnd15, z_bnd16, z_max, z_min, z_n31, z_shl, z_shr, z_us, z_div, z_mod, z_and, z_or, z_xor, if_true, if_false, n0, e1, at1]
        exact go
      · rw [if_neg c] at sn
        have e2 := hmf (wp lt fr k) (by omega) q.2 c
        have at1 := s_maddTok F k (lt (wp lt fr k)) (ds (wp lt fr k)) tf ts (by omega)
        have go := ih (k + 1) _ _ (by omega) (by omega) sn
        rw [w1] at go
        simp (disch := omega) only [nm, z_lit, z_one, z_mone, z_neg1, z_neg2, z_pred, z_add, z_mul, z_sub, z_le, z_lt, z_eq, z_tn, z_chk, z_eqm, z_meq, z_lem, z_mle, z_ltm, z_mlt, z_eqq, z_qeq, z_leq, z_qle, z_ltq, z_qlt, z_m1m2, z_m2m1, z_m1m1, z_m2m2, z_bnd1, z_bnd2, z_bnd3, z_bnd4, z_bnd5, z_bnd6, z_bnd7, z_bnd8, z_bnd9, z_bnd10, z_bnd11, z_bnd12, z_bnd13, z_bnd14, z_bnd15, z_bnd16, z_max, z_min, z_n31, z_shl, z_shr, z_us, z_div, z_mod, z_and, z_or, z_xor, if_true, if_false, n0, e1, e2, c, at1]
        exact go
theorem s_priceTokens (F : Nat) (B ch fq dl lq ll mf ms pr mo sy sq sl tf ts up wt : Nat → Int32) (b T Fa L D e ml ds lp lt : Nat → Nat) (fr to K K' : Nat) (hF : 100000 ≤ F) (hB : byt B b) (hft : fr ≤ to) (hto : to ≤ 512) (h : tok T Fa fr to K) (hmt : mtok ts tf T Fa K) (H : own b T Fa fr K L D e) (hm : mfd ms mf ml ds fr to) (P : prs b L D ml ds lp lt fr to) (hlp : ∀ x, fr ≤ x → x ≤ to → lp x ≤ 15 * (to - x)) (hl : ltk lt ds fr to) (hK : wend lt fr to K') : ∃ (rs lm fm sm_ : Int32) (ch' fq' dl' lq' ll' pr' mo' sy' sq' sl' tf' ts' up' wt' : Nat → Int32), m_MD_priceTokens F B ch fq dl lq ll mf ms pr mo sy sq sl tf ts (nI K) up wt (nI fr) (nI to) = some (nI K', rs, lm, fm, sm_, ch', fq', dl', lq', ll', pr', mo', sy', sq', sl', tf', ts', up', wt') ∧ mtok ts' tf' (wT lt fr) (wF lt ds fr) K' := by
  have hb : ∀ j, j < 512 → b j < 256 := fun j hj => (hB j hj).2
  obtain ⟨bL, bD, bE⟩ := own_le h hb hto H
  obtain ⟨fq1, dl1, lq1, ll1, mo1, sy1, sq1, sl1, up1, wt1, e1, M⟩ := s_mownCodes F B fq dl lq ll mo sy sq sl tf ts up wt b T Fa L D e fr to K hF hB hto h hmt H
  obtain ⟨v, ch2, pr2, e2, g2⟩ := l_mp16 F B dl1 ll1 mf ms b L D ml ds lp lt fr to hF hB hto ⟨M.1, M.2.1⟩ (fun s hs => by have := bL s hs; omega) (fun s hs => by have := bD s hs; omega) hm P hlp F to ch (upd pr to (nI 0)) hft (Nat.le_refl _) (by omega) (fun x h1 h2 => by
    have : x = to := by omega
    rw [this, z_updE, P.1]) (fun x h1 h2 => by omega)
  have tp := tok_pos (walk_tok hl hK) K' (Nat.le_refl _)
  obtain ⟨tf3, ts3, e3, g3⟩ := l_mp157 F ch2 mf lt ds fr to K' hto g2 (fun x h1 h2 h3 => by
    have a := hm x h1 h2
    have sf := selk_facts (cst L D lp ds x) (prc (L (b x)) 12 + lp (x + 1)) (ml x - 2)
    rw [P.2 x h1 h2] at sf
    simp only at sf
    exact a.2.1 (by omega)) hl hK F 0 tf ts (by omega) (by omega) (fun k h => by omega)
  have e0 : wp lt fr 0 = fr := rfl
  rw [e0] at e3
  refine ⟨nI (rowl L D).length, nI (um L 257 286), nI (um D 1 30), nI (toldc e), ch2, fq1, dl1, lq1, ll1, pr2, mo1, sy1, sq1, sl1, tf3, ts3, up1, wt1, ?_, g3⟩
  unfold m_MD_priceTokens
  rw [e1, z_bnd14]
  simp (disch := omega) only [nm, z_lit, z_chk, z_tn]
  rw [z_sub1, e2, z_bnd3, e3, z_bnd4]
