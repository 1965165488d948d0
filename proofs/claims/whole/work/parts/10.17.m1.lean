/-! matches of a block -/
noncomputable def mls (b : Nat → Nat) (to most p : Nat) : Nat := if p + 3 ≤ to then (scn b p (min 258 (to - p)) most p).2.1 else 0
noncomputable def mds (b : Nat → Nat) (to most p : Nat) : Nat := if p + 3 ≤ to then (scn b p (min 258 (to - p)) most p).2.2 else 0
noncomputable def mst (b : Nat → Nat) (to most p : Nat) : Nat := if p + 3 ≤ to then (scn b p (min 258 (to - p)) most p).1 else 0
theorem mls_facts (b : Nat → Nat) (to most p : Nat) (hto : to ≤ 512) (hp : p < to) : ((mls b to most p = 0 ∧ mds b to most p = 0) ∨ (3 ≤ mls b to most p ∧ mls b to most p ≤ 258 ∧ 1 ≤ mds b to most p)) ∧ mds b to most p ≤ p ∧ p + mls b to most p ≤ to ∧ mst b to most p ≤ most := by
  unfold mls mds mst
  by_cases h : p + 3 ≤ to
  · rw [if_pos h, if_pos h, if_pos h]
    obtain ⟨f1, f2, f3⟩ := scn_facts b p (min 258 (to - p)) most (by omega) p (Nat.le_refl _)
    rcases f3 with ⟨f3, f4⟩ | ⟨f3, f4, f5, f6⟩
    · exact ⟨Or.inl ⟨f3, f4⟩, by omega, by omega, f2⟩
    · exact ⟨Or.inr ⟨f3, by omega, f5⟩, f6, by omega, f2⟩
  · rw [if_neg h, if_neg h, if_neg h]
    exact ⟨Or.inl ⟨rfl, rfl⟩, by omega, by omega, by omega⟩
theorem l_find (F : Nat) (bl B : Nat → Int32) (b : Nat → Nat) (n fr to most : Nat) (hF : 100000 ≤ F) (hB : byt B b) (hto : to ≤ n) (hn : n ≤ 512) (hm : most ≤ 36) (hlk : lnk b bl (n - 2)) : ∀ (f p st : Nat) (fd : Nat → Int32), fr ≤ p → p ≤ to → to - p < f → (∀ x, fr ≤ x → x < p → fd x = nI (mls b to most x * 65536 + mds b to most x)) → ∃ fd', L_Matches_find_3 F bl B (nI to) (nI most) f (nI p) (nI st) fd = some (nI to, nI (st + sm (mst b to most) p (to - p)), fd') ∧ (∀ x, fr ≤ x → x < to → fd' x = nI (mls b to most x * 65536 + mds b to most x)) := by
  intro f
  induction f with
  | zero => intro p st fd _ _ h; omega
  | succ f ih =>
    intro p st fd h0 hp hf I
    unfold L_Matches_find_3 B_Matches_find_3
    by_cases h : to ≤ p
    · have e : p = to := by omega
      subst e
      exact ⟨fd, by simp (disch := omega) only [nm, z_lit, z_one, z_mone, z_neg1, z_neg2, z_pred, z_add, z_mul, z_sub, z_le, z_lt, z_eq, z_tn, z_chk, z_eqm, z_meq, z_lem, z_mle, z_ltm, z_mlt, z_eqq, z_qeq, z_leq, z_qle, z_ltq, z_qlt, z_m1m2, z_m2m1, z_m1m1, z_m2m2, z_bnd1, z_bnd2, z_bnd3, z_bnd4, z_bnd5, z_bnd6, z_bnd7, z_bnd8, z_bnd9, z_bnd10, z_bnd11, z_bnd12, z_bnd13, z_bnd14, z_bnd15, z_bnd16, z_max, z_min, z_n31, z_shl, z_shr, z_us, z_div, z_mod, z_and, z_or, z_xor, if_true, if_false, Nat.le_refl, Nat.sub_self, sm, Nat.add_zero], I⟩
    · have ex : to - p = (to - (p + 1)) + 1 := by omega
      have go : ∀ (z : Int32), z = nI (mls b to most p * 65536 + mds b to most p) → ∃ fd', L_Matches_find_3 F bl B (nI to) (nI most) f (nI (p + 1)) (nI (st + mst b to most p)) (upd fd p z) = some (nI to, nI (st + sm (mst b to most) p (to - p)), fd') ∧ (∀ x, fr ≤ x → x < to → fd' x = nI (mls b to most x * 65536 + mds b to most x)) := fun z hz => by
        have := ih (p + 1) (st + mst b to most p) (upd fd p z) (by omega) (by omega) (by omega) (fun x h1 h2 => by
          by_cases e : x = p
          · rw [e, z_updE, hz]
          · rw [z_updN e]; exact I x h1 (by omega))
        rw [ex, sm_first, ← Nat.add_assoc]; exact this
      by_cases h3 : to < p + 3
      · have e1 : mls b to most p = 0 := by unfold mls; rw [if_neg (by omega)]
        have e2 : mds b to most p = 0 := by unfold mds; rw [if_neg (by omega)]
        have e3 : mst b to most p = 0 := by unfold mst; rw [if_neg (by omega)]
        have go' := go (nI 0) (by rw [e1, e2])
        rw [e3, Nat.add_zero] at go'
        simp (disch := omega) only [nm, z_lit, z_one, z_mone, z_neg1, z_neg2, z_pred, z_add, z_mul, z_sub, z_le, z_lt, z_eq, z_tn, z_chk, z_eqm, z_meq, z_lem, z_mle, z_ltm, z_mlt, z_eqq, z_qeq, z_leq, z_qle, z_ltq, z_qlt, z_m1m2, z_m2m1, z_m1m1, z_m2m2, z_bnd1, z_bnd2, z_bnd3, z_bnd4, z_bnd5, z_bnd6, z_bnd7, z_bnd8, z_bnd9, z_bnd10, z_bnd11, z_bnd12, z_bnd13, z_bnd14, z_bnd15, z_bnd16, z_max, z_min, z_n31, z_shl, z_shr, z_us, z_div, z_mod, z_and, z_or, z_xor, if_true, if_false, h, h3]
        exact go'
      · have e1 : mls b to most p = (scn b p (min 258 (to - p)) most p).2.1 := by unfold mls; rw [if_pos (by omega)]
        have e2 : mds b to most p = (scn b p (min 258 (to - p)) most p).2.2 := by unfold mds; rw [if_pos (by omega)]
        have e3 : mst b to most p = (scn b p (min 258 (to - p)) most p).1 := by unfold mst; rw [if_pos (by omega)]
        have e4 := s_long F bl B b n p (min 258 (to - p)) most st hF hB (by omega) (by omega) (by omega) (by omega) hm hlk
        rw [← e1, ← e2, ← e3] at e4
        simp (disch := omega) only [nm, z_lit, z_one, z_mone, z_neg1, z_neg2, z_pred, z_add, z_mul, z_sub, z_le, z_lt, z_eq, z_tn, z_chk, z_eqm, z_meq, z_lem, z_mle, z_ltm, z_mlt, z_eqq, z_qeq, z_leq, z_qle, z_ltq, z_qlt, z_m1m2, z_m2m1, z_m1m1, z_m2m2, z_bnd1, z_bnd2, z_bnd3, z_bnd4, z_bnd5, z_bnd6, z_bnd7, z_bnd8, z_bnd9, z_bnd10, z_bnd11, z_bnd12, z_bnd13, z_bnd14, z_bnd15, z_bnd16, z_max, z_min, z_n31, z_shl, z_shr, z_us, z_div, z_mod, z_and, z_or, z_xor, if_true, if_false, h, h3, e4]
        exact go _ rfl
theorem s_find (F : Nat) (bl B fd : Nat → Int32) (b : Nat → Nat) (n fr to most st : Nat) (hF : 100000 ≤ F) (hB : byt B b) (hft : fr ≤ to) (hto : to ≤ n) (hn : n ≤ 512) (hm : most ≤ 36) (hlk : lnk b bl (n - 2)) : ∃ fd', m_Matches_find F bl B fd (nI st) (nI fr) (nI to) (nI most) = some (nI (st + sm (mst b to most) fr (to - fr)), fd') ∧ fnd fd' (mls b to most) (mds b to most) fr to := by
  obtain ⟨fd', e1, g1⟩ := l_find F bl B b n fr to most hF hB hto hn hm hlk F fr st fd (Nat.le_refl _) hft (by omega) (fun x h1 h2 => by omega)
  refine ⟨fd', ?_, fun p h1 h2 => ?_⟩
  · unfold m_Matches_find
    simp only [e1, z_bnd3]
  · have q := mls_facts b to most p (by omega) h2
    refine ⟨g1 p h1 h2, ?_, by omega, by omega⟩
    omega
/-! the model's -/
theorem l_mf127 (F : Nat) (B : Nat → Int32) (b : Nat → Nat) (q p to : Nat) (hB : byt B b) (hq : q < p) (hpt : p ≤ to) (hto : to ≤ 512) : ∀ (f i : Nat), i ≤ min 258 (to - p) → 258 - i < f → (∀ j, j < i → b (q + j) = b (p + j)) → L_MD_findMatch_127 F B (nI q) (nI p) (nI to) f (nI i) = some (nI (pre b q p (min 258 (to - p)))) := by
  intro f
  induction f with
  | zero => intro i _ h; omega
  | succ f ih =>
    intro i hi hf I
    unfold L_MD_findMatch_127 B_MD_findMatch_127
    by_cases h : 258 ≤ i
    · have e : pre b q p (min 258 (to - p)) = i := pre_eq _ i hi I (fun h => by omega)
      rw [e]
      simp (disch := omega) only [nm, z_lit, z_one, z_mone, z_neg1, z_neg2, z_pred, z_add, z_mul, z_sub, z_le, z_lt, z_eq, z_tn, z_chk, z_eqm, z_meq, z_lem, z_mle, z_ltm, z_mlt, z_eqq, z_qeq, z_leq, z_qle, z_ltq, z_qlt, z_m1m2, z_m2m1, z_m1m1, z_m2m2, z_bnd1, z_bnd2, z_bnd3, z_bnd4, z_bnd5, z_bnd6, z_bnd7, z_bnd8, z_bnd9, z_bnd10, z_bnd11, z_bnd12, z_bnd13, z_bnd14, z_bnd15, z_bnd16, z_max, z_min, z_n31, z_shl, z_shr, z_us, z_div, z_mod, z_and, z_or, z_xor, if_true, if_false, h]
    · by_cases h2 : to ≤ p + i
      · have e : pre b q p (min 258 (to - p)) = i := pre_eq _ i hi I (fun h => by omega)
        rw [e]
        simp (disch := omega) only [nm, z_lit, z_one, z_mone, z_neg1, z_neg2, z_pred, z_add, z_mul, z_sub, z_le, z_lt, z_eq, z_tn, z_chk, z_eqm, z_meq, z_lem, z_mle, z_ltm, z_mlt, z_eqq, z_qeq, z_leq, z_qle, z_ltq, z_qlt, z_m1m2, z_m2m1, z_m1m1, z_m2m2, z_bnd1, z_bnd2, z_bnd3, z_bnd4, z_bnd5, z_bnd6, z_bnd7, z_bnd8, z_bnd9, z_bnd10, z_bnd11, z_bnd12, z_bnd13, z_bnd14, z_bnd15, z_bnd16, z_max, z_min, z_n31, z_shl, z_shr, z_us, z_div, z_mod, z_and, z_or, z_xor, if_true, if_false, h, h2]
      · have e1 := hB (q + i) (by omega)
        have e2 := hB (p + i) (by omega)
        by_cases c : b (q + i) = b (p + i)
        · simp (disch := omega) only [nm, z_lit, z_one, z_mone, z_neg1, z_neg2, z_pred, z_add, z_mul, z_sub, z_le, z_lt, z_eq, z_tn, z_chk, z_eqm, z_meq, z_lem, z_mle, z_ltm, z_mlt, z_eqq, z_qeq, z_leq, z_qle, z_ltq, z_qlt, z_m1m2, z_m2m1, z_m1m1, z_m2m2, z_bnd1, z_bnd2, z_bnd3, z_bnd4, z_bnd5, z_bnd6, z_bnd7, z_bnd8, z_bnd9, z_bnd10, z_bnd11, z_bnd12, z_bnd13, z_bnd14, z_bnd15, z_bnd16, z_max, z_min, z_n31, z_shl, z_shr, z_us, z_div, z_mod, z_and, z_or, z_xor, if_true, if_false, h, h2, e1.1, e2.1, c]
          refine ih (i + 1) (by omega) (by omega) (fun j hj => ?_)
          by_cases e : j = i
          · rw [e]; exact c
          · exact I j (by omega)
        · rw [pre_eq _ i hi I (fun _ => c)]
          simp (disch := omega) only [nm, z_lit, z_one, z_mone, z_neg1, z_neg2, z_pred, z_add, z_mul, z_sub, z_le, z_lt, z_eq, z_tn, z_chk, z_eqm, z_meq, z_lem, z_mle, z_ltm, z_mlt, z_eqq, z_qeq, z_leq, z_qle, z_ltq, z_qlt, z_m1m2, z_m2m1, z_m1m1, z_m2m2, z_bnd1, z_bnd2, z_bnd3, z_bnd4, z_bnd5, z_bnd6, z_bnd7, z_bnd8, z_bnd9, z_bnd10, z_bnd11, z_bnd12, z_bnd13, z_bnd14, z_bnd15, z_bnd16, z_max, z_min, z_n31, z_shl, z_shr, z_us, z_div, z_mod, z_and, z_or, z_xor, if_true, if_false, h, h2, e1.1, e2.1, c]
theorem z_pm {a : Nat} (h : 1 ≤ a) : nI a + m1 = nI (a - 1) := z_pred h
theorem z_sub1 (a : Nat) : nI a - nI 1 = nI a + m1 := Int32.sub_eq_add_neg _ _
/-- x3 tells whether steps count -/
theorem l_mf31 (F : Nat) (B : Nat → Int32) (b : Nat → Nat) (p to most cnt : Nat) (hF : 100000 ≤ F) (hB : byt B b) (hp : p + 3 ≤ to) (hto : to ≤ 512) (hm : most ≤ 36) (hc : cnt ≤ 1) : ∀ (f i st : Nat) (mf ms : Nat → Int32), i ≤ p → p - i < f → ms p = nI (scn b p (min 258 (to - p)) most i).2.1 → ((scn b p (min 258 (to - p)) most i).2.1 ≠ 0 → mf p = nI (scn b p (min 258 (to - p)) most i).2.2) → ∃ (v v' : Int32) (mf' ms' : Nat → Int32), L_MD_findMatch_31 F B (nI p) (nI to) (nI cnt) f (nI (most - (scn b p (min 258 (to - p)) most i).1)) (nI (p - i) + m1) (nI (st + cnt * (scn b p (min 258 (to - p)) most i).1)) mf ms = some (v, v', nI (st + cnt * (scn b p (min 258 (to - p)) most p).1), mf', ms') ∧ ms' p = nI (scn b p (min 258 (to - p)) most p).2.1 ∧ ((scn b p (min 258 (to - p)) most p).2.1 ≠ 0 → mf' p = nI (scn b p (min 258 (to - p)) most p).2.2) ∧ (∀ x, x ≠ p → ms' x = ms x ∧ mf' x = mf x) := by
  intro f
  induction f with
  | zero => intro i st mf ms _ h; omega
  | succ f ih =>
    intro i st mf ms hi hf J1 J2
    obtain ⟨sf1, sf2, sf3⟩ := scn_facts b p (min 258 (to - p)) most (by omega) i hi
    unfold L_MD_findMatch_31 B_MD_findMatch_31
    by_cases h0 : i = p
    · subst h0
      have e0 : nI (i - i) + m1 = m1 := by rw [Nat.sub_self]; rfl
      rw [e0]
      exact ⟨_, _, mf, ms, by simp (disch := omega) only [nm, z_lit, z_one, z_mone, z_neg1, z_neg2, z_add, z_mul, z_sub, z_le, z_lt, z_eq, z_tn, z_chk, z_eqm, z_meq, z_lem, z_mle, z_ltm, z_mlt, z_eqq, z_qeq, z_leq, z_qle, z_ltq, z_qlt, z_m1m2, z_m2m1, z_m1m1, z_m2m2, z_bnd1, z_bnd2, z_bnd3, z_bnd4, z_bnd5, z_bnd6, z_bnd7, z_bnd8, z_bnd9, z_bnd10, z_bnd11, z_bnd12, z_bnd13, z_bnd14, z_bnd15, z_bnd16, z_max, z_min, z_n31, z_shl, z_shr, z_us, z_div, z_mod, z_and, z_or, z_xor, if_true, if_false]; rfl, J1, J2, fun x _ => ⟨rfl, rfl⟩⟩
    · have e0 : nI (p - i) + m1 = nI (p - i - 1) := z_pred (by omega)
      rw [e0]
      have n1 : ¬ (p - i - 1 < 0) := by omega
      by_cases hfull : most ≤ (scn b p (min 258 (to - p)) most i).1
      · have e : scn b p (min 258 (to - p)) most p = scn b p (min 258 (to - p)) most i := by
          have := scn_full hfull (p - i)
          have e2 : i + (p - i) = p := by omega
          rw [e2] at this; exact this
        have n2 : most - (scn b p (min 258 (to - p)) most i).1 ≤ 0 := by omega
        rw [e]
        exact ⟨_, _, mf, ms, by simp (disch := omega) only [nm, z_lit, z_one, z_mone, z_neg1, z_neg2, z_pred, z_add, z_mul, z_sub, z_le, z_lt, z_eq, z_tn, z_chk, z_eqm, z_meq, z_lem, z_mle, z_ltm, z_mlt, z_eqq, z_qeq, z_leq, z_qle, z_ltq, z_qlt, z_m1m2, z_m2m1, z_m1m1, z_m2m2, z_bnd1, z_bnd2, z_bnd3, z_bnd4, z_bnd5, z_bnd6, z_bnd7, z_bnd8, z_bnd9, z_bnd10, z_bnd11, z_bnd12, z_bnd13, z_bnd14, z_bnd15, z_bnd16, z_max, z_min, z_n31, z_shl, z_shr, z_us, z_div, z_mod, z_and, z_or, z_xor, if_true, if_false, n1, n2]; rfl, J1, J2, fun x _ => ⟨rfl, rfl⟩⟩
      · have n2 : ¬ (most - (scn b p (min 258 (to - p)) most i).1 ≤ 0) := by omega
        have eq1 : p - (i + 1) = p - i - 1 := by omega
        have es : scn b p (min 258 (to - p)) most (i + 1) = if (scn b p (min 258 (to - p)) most i).1 < most ∧ b (p - i - 1) = b p ∧ b (p - i - 1 + 1) = b (p + 1) ∧ b (p - i - 1 + 2) = b (p + 2) then ((scn b p (min 258 (to - p)) most i).1 + 1, if (scn b p (min 258 (to - p)) most i).2.1 < pre b (p - i - 1) p (min 258 (to - p)) then (pre b (p - i - 1) p (min 258 (to - p)), i + 1) else (scn b p (min 258 (to - p)) most i).2) else scn b p (min 258 (to - p)) most i := by
          rw [scn, eq1]
        have e1 := hB p (by omega)
        have e2 := hB (p + 1) (by omega)
        have e3 := hB (p + 2) (by omega)
        have e4 := hB (p - i - 1) (by omega)
        have e5 := hB (p - i - 1 + 1) (by omega)
        have e6 := hB (p - i - 1 + 2) (by omega)
        have ey : nI (p - i - 1) + m1 = nI (p - (i + 1)) + m1 := by rw [eq1]
        -- nothing here
        have none_ : ¬ th3 b (p - i - 1) p → ∃ (v v' : Int32) (mf' ms' : Nat → Int32), L_MD_findMatch_31 F B (nI p) (nI to) (nI cnt) f (nI (most - (scn b p (min 258 (to - p)) most i).1)) (nI (p - i - 1) + m1) (nI (st + cnt * (scn b p (min 258 (to - p)) most i).1)) mf ms = some (v, v', nI (st + cnt * (scn b p (min 258 (to - p)) most p).1), mf', ms') ∧ ms' p = nI (scn b p (min 258 (to - p)) most p).2.1 ∧ ((scn b p (min 258 (to - p)) most p).2.1 ≠ 0 → mf' p = nI (scn b p (min 258 (to - p)) most p).2.2) ∧ (∀ x, x ≠ p → ms' x = ms x ∧ mf' x = mf x) := fun c => by
          rw [if_neg (fun h => c h.2)] at es
          have := ih (i + 1) st mf ms (by omega) (by omega) (by rw [es]; exact J1) (by rw [es]; exact J2)
          rw [es] at this
          rw [ey]; exact this
        by_cases c1 : b (p - i - 1) = b p
        · by_cases c2 : b (p - i - 1 + 1) = b (p + 1)
          · by_cases c3 : b (p - i - 1 + 2) = b (p + 2)
            · rw [if_pos ⟨by omega, c1, c2, c3⟩] at es
              have pl := pre_le b (p - i - 1) p (min 258 (to - p))
              have e7 := l_mf127 F B b (p - i - 1) p to hB (by omega) (by omega) hto F 0 (by omega) (by omega) (fun j hj => by omega)
              have elk : most - (scn b p (min 258 (to - p)) most i).1 - 1 = most - ((scn b p (min 258 (to - p)) most i).1 + 1) := by omega
              by_cases hle : pre b (p - i - 1) p (min 258 (to - p)) ≤ (scn b p (min 258 (to - p)) most i).2.1
              · rw [if_neg (by omega)] at es
                have step := ih (i + 1) st mf ms (by omega) (by omega) (by rw [es]; exact J1) (by rw [es]; exact J2)
                rw [es] at step
                by_cases hc0 : cnt = 0
                · subst hc0
                  simp (disch := omega) only [nm, z_lit, z_one, z_mone, z_neg1, z_neg2, z_add, z_mul, z_sub, z_le, z_lt, z_eq, z_tn, z_chk, z_eqm, z_meq, z_lem, z_mle, z_ltm, z_mlt, z_eqq, z_qeq, z_leq, z_qle, z_ltq, z_qlt, z_m1m2, z_m2m1, z_m1m1, z_m2m2, z_bnd1, z_bnd2, z_bnd3, z_bnd4, z_bnd5, z_bnd6, z_bnd7, z_bnd8, z_bnd9, z_bnd10, z_bnd11, z_bnd12, z_bnd13, z_bnd14, z_bnd15, z_bnd16, z_max, z_min, z_n31, z_shl, z_shr, z_us, z_div, z_mod, z_and, z_or, z_xor, if_true, if_false, n1, n2, e1.1, e2.1, e3.1, e4.1, e5.1, e6.1, c1, c2, c3, e7, J1, hle]
                  rw [z_pred (by omega), elk, ey]
                  simpa using step
                · have hc1 : cnt = 1 := by omega
                  subst hc1
                  have n3 : ¬ (1 = 0) := by omega
                  have e9 : st + 1 * (scn b p (min 258 (to - p)) most i).1 + 1 = st + 1 * ((scn b p (min 258 (to - p)) most i).1 + 1) := by omega
                  simp (disch := omega) only [nm, z_lit, z_one, z_mone, z_neg1, z_neg2, z_add, z_mul, z_sub, z_le, z_lt, z_eq, z_tn, z_chk, z_eqm, z_meq, z_lem, z_mle, z_ltm, z_mlt, z_eqq, z_qeq, z_leq, z_qle, z_ltq, z_qlt, z_m1m2, z_m2m1, z_m1m1, z_m2m2, z_bnd1, z_bnd2, z_bnd3, z_bnd4, z_bnd5, z_bnd6, z_bnd7, z_bnd8, z_bnd9, z_bnd10, z_bnd11, z_bnd12, z_bnd13, z_bnd14, z_bnd15, z_bnd16, z_max, z_min, z_n31, z_shl, z_shr, z_us, z_div, z_mod, z_and, z_or, z_xor, if_true, if_false, n1, n2, n3, e1.1, e2.1, e3.1, e4.1, e5.1, e6.1, c1, c2, c3, e7, J1, hle]
                  rw [z_pred (by omega), elk, ey, e9]
                  exact step
              · rw [if_pos (by omega)] at es
                have epi : p - (p - i - 1) = i + 1 := by omega
                have step := ih (i + 1) st (upd mf p (nI (i + 1))) (upd ms p (nI (pre b (p - i - 1) p (min 258 (to - p))))) (by omega) (by omega) (by rw [es]; exact z_updE) (by rw [es]; intro _; exact z_updE)
                rw [es] at step
                have fin : ∀ s, (∃ (v v' : Int32) (mf' ms' : Nat → Int32), L_MD_findMatch_31 F B (nI p) (nI to) (nI cnt) f (nI (most - ((scn b p (min 258 (to - p)) most i).1 + 1))) (nI (p - (i + 1)) + m1) s (upd mf p (nI (i + 1))) (upd ms p (nI (pre b (p - i - 1) p (min 258 (to - p))))) = some (v, v', nI (st + cnt * (scn b p (min 258 (to - p)) most p).1), mf', ms') ∧ ms' p = nI (scn b p (min 258 (to - p)) most p).2.1 ∧ ((scn b p (min 258 (to - p)) most p).2.1 ≠ 0 → mf' p = nI (scn b p (min 258 (to - p)) most p).2.2) ∧ (∀ x, x ≠ p → ms' x = upd ms p (nI (pre b (p - i - 1) p (min 258 (to - p)))) x ∧ mf' x = upd mf p (nI (i + 1)) x)) → (∃ (v v' : Int32) (mf' ms' : Nat → Int32), L_MD_findMatch_31 F B (nI p) (nI to) (nI cnt) f (nI (most - ((scn b p (min 258 (to - p)) most i).1 + 1))) (nI (p - (i + 1)) + m1) s (upd mf p (nI (i + 1))) (upd ms p (nI (pre b (p - i - 1) p (min 258 (to - p))))) = some (v, v', nI (st + cnt * (scn b p (min 258 (to - p)) most p).1), mf', ms') ∧ ms' p = nI (scn b p (min 258 (to - p)) most p).2.1 ∧ ((scn b p (min 258 (to - p)) most p).2.1 ≠ 0 → mf' p = nI (scn b p (min 258 (to - p)) most p).2.2) ∧ (∀ x, x ≠ p → ms' x = ms x ∧ mf' x = mf x)) := by
                  rintro s ⟨v, v', mf', ms', a1, a2, a3, a4⟩
                  exact ⟨v, v', mf', ms', a1, a2, a3, fun x hx => by have := a4 x hx; rw [z_updN hx, z_updN hx] at this; exact this⟩
                by_cases hc0 : cnt = 0
                · subst hc0
                  simp (disch := omega) only [nm, z_lit, z_one, z_mone, z_neg1, z_neg2, z_add, z_mul, z_sub, z_le, z_lt, z_eq, z_tn, z_chk, z_eqm, z_meq, z_lem, z_mle, z_ltm, z_mlt, z_eqq, z_qeq, z_leq, z_qle, z_ltq, z_qlt, z_m1m2, z_m2m1, z_m1m1, z_m2m2, z_bnd1, z_bnd2, z_bnd3, z_bnd4, z_bnd5, z_bnd6, z_bnd7, z_bnd8, z_bnd9, z_bnd10, z_bnd11, z_bnd12, z_bnd13, z_bnd14, z_bnd15, z_bnd16, z_max, z_min, z_n31, z_shl, z_shr, z_us, z_div, z_mod, z_and, z_or, z_xor, if_true, if_false, n1, n2, e1.1, e2.1, e3.1, e4.1, e5.1, e6.1, c1, c2, c3, e7, J1, hle, epi]
                  rw [z_pred (by omega), elk, ey]
                  have := fin _ step
                  simpa using this
                · have hc1 : cnt = 1 := by omega
                  subst hc1
                  have n3 : ¬ (1 = 0) := by omega
                  have e9 : st + 1 * (scn b p (min 258 (to - p)) most i).1 + 1 = st + 1 * ((scn b p (min 258 (to - p)) most i).1 + 1) := by omega
                  simp (disch := omega) only [nm, z_lit, z_one, z_mone, z_neg1, z_neg2, z_add, z_mul, z_sub, z_le, z_lt, z_eq, z_tn, z_chk, z_eqm, z_meq, z_lem, z_mle, z_ltm, z_mlt, z_eqq, z_qeq, z_leq, z_qle, z_ltq, z_qlt, z_m1m2, z_m2m1, z_m1m1, z_m2m2, z_bnd1, z_bnd2, z_bnd3, z_bnd4, z_bnd5, z_bnd6, z_bnd7, z_bnd8, z_bnd9, z_bnd10, z_bnd11, z_bnd12, z_bnd13, z_bnd14, z_bnd15, z_bnd16, z_max, z_min, z_n31, z_shl, z_shr, z_us, z_div, z_mod, z_and, z_or, z_xor, if_true, if_false, n1, n2, n3, e1.1, e2.1, e3.1, e4.1, e5.1, e6.1, c1, c2, c3, e7, J1, hle, epi]
                  rw [z_pred (by omega), elk, ey, e9]
                  exact fin _ step
            · simp (disch := omega) only [nm, z_lit, z_one, z_mone, z_neg1, z_neg2, z_add, z_mul, z_sub, z_le, z_lt, z_eq, z_tn, z_chk, z_eqm, z_meq, z_lem, z_mle, z_ltm, z_mlt, z_eqq, z_qeq, z_leq, z_qle, z_ltq, z_qlt, z_m1m2, z_m2m1, z_m1m1, z_m2m2, z_bnd1, z_bnd2, z_bnd3, z_bnd4, z_bnd5, z_bnd6, z_bnd7, z_bnd8, z_bnd9, z_bnd10, z_bnd11, z_bnd12, z_bnd13, z_bnd14, z_bnd15, z_bnd16, z_max, z_min, z_n31, z_shl, z_shr, z_us, z_div, z_mod, z_and, z_or, z_xor, if_true, if_false, n1, n2, e1.1, e2.1, e3.1, e4.1, e5.1, e6.1, c1, c2, c3]
              exact none_ (fun h => c3 h.2.2)
          · simp (disch := omega) only [nm, z_lit, z_one, z_mone, z_neg1, z_neg2, z_add, z_mul, z_sub, z_le, z_lt, z_eq, z_tn, z_chk, z_eqm, z_meq, z_lem, z_mle, z_ltm, z_mlt, z_eqq, z_qeq, z_leq, z_qle, z_ltq, z_qlt, z_m1m2, z_m2m1, z_m1m1, z_m2m2, z_bnd1, z_bnd2, z_bnd3, z_bnd4, z_bnd5, z_bnd6, z_bnd7, z_bnd8, z_bnd9, z_bnd10, z_bnd11, z_bnd12, z_bnd13, z_bnd14, z_bnd15, z_bnd16, z_max, z_min, z_n31, z_shl, z_shr, z_us, z_div, z_mod, z_and, z_or, z_xor, if_true, if_false, n1, n2, e1.1, e2.1, e4.1, e5.1, c1, c2]
            exact none_ (fun h => c2 h.2.1)
        · simp (disch := omega) only [nm, z_lit, z_one, z_mone, z_neg1, z_neg2, z_add, z_mul, z_sub, z_le, z_lt, z_eq, z_tn, z_chk, z_eqm, z_meq, z_lem, z_mle, z_ltm, z_mlt, z_eqq, z_qeq, z_leq, z_qle, z_ltq, z_qlt, z_m1m2, z_m2m1, z_m1m1, z_m2m2, z_bnd1, z_bnd2, z_bnd3, z_bnd4, z_bnd5, z_bnd6, z_bnd7, z_bnd8, z_bnd9, z_bnd10, z_bnd11, z_bnd12, z_bnd13, z_bnd14, z_bnd15, z_bnd16, z_max, z_min, z_n31, z_shl, z_shr, z_us, z_div, z_mod, z_and, z_or, z_xor, if_true, if_false, n1, n2, e1.1, e4.1, c1]
          exact none_ (fun h => c1 h.1)
/-- the model's match at p; other places stay -/
theorem s_mfind (F : Nat) (B mf ms : Nat → Int32) (b : Nat → Nat) (p to ef cnt st : Nat) (hF : 100000 ≤ F) (hB : byt B b) (hp : p < to) (hto : to ≤ 512) (hef : ef < 10) (hc : cnt ≤ 1) : ∃ mf' ms', m_MD_findMatch F B (nI ef) mf ms (nI st) (nI p) (nI to) (nI cnt) = some (nI (st + cnt * mst b to (4 * ef) p), mf', ms') ∧ ms' p = nI (mls b to (4 * ef) p) ∧ (mls b to (4 * ef) p ≠ 0 → mf' p = nI (mds b to (4 * ef) p)) ∧ (∀ x, x ≠ p → ms' x = ms x ∧ mf' x = mf x) := by
  unfold m_MD_findMatch
  by_cases h : 3 ≤ to - p
  · have e1 : mls b to (4 * ef) p = (scn b p (min 258 (to - p)) (4 * ef) p).2.1 := by unfold mls; rw [if_pos (by omega)]
    have e2 : mds b to (4 * ef) p = (scn b p (min 258 (to - p)) (4 * ef) p).2.2 := by unfold mds; rw [if_pos (by omega)]
    have e3 : mst b to (4 * ef) p = (scn b p (min 258 (to - p)) (4 * ef) p).1 := by unfold mst; rw [if_pos (by omega)]
    obtain ⟨v, v', mf', ms', g1, g2, g3, g4⟩ := l_mf31 F B b p to (4 * ef) cnt hF hB (by omega) hto (by omega) hc F 0 st mf (upd ms p (nI 0)) (by omega) (by omega) z_updE (fun q => absurd rfl q)
    rw [← e1] at g2 g3
    rw [← e2] at g3
    have e4 : scn b p (min 258 (to - p)) (4 * ef) 0 = (0, 0, 0) := rfl
    rw [e4, ← e3, Nat.sub_zero, Nat.sub_zero, Nat.mul_zero, Nat.add_zero] at g1
    refine ⟨mf', ms', ?_, g2, g3, fun x hx => by have := g4 x hx; rw [z_updN hx] at this; exact this⟩
    simp (disch := omega) only [nm, z_lit, z_chk, z_tn, z_sub, z_le, h, if_true, z_bnd1, z_mul]
    rw [z_sub1, g1]
    rfl
  · have e1 : mls b to (4 * ef) p = 0 := by unfold mls; rw [if_neg (by omega)]
    have e3 : mst b to (4 * ef) p = 0 := by unfold mst; rw [if_neg (by omega)]
    have e2' : ∀ G, L_MD_findMatch_31 F B (nI p) (nI to) (nI cnt) (G + 1) (nI 0) (nI p + m1) (nI st) mf (upd ms p (nI 0)) = some (nI 0, nI p + m1, nI st, mf, upd ms p (nI 0)) := by
      intro G
      unfold L_MD_findMatch_31 B_MD_findMatch_31
      by_cases hp0 : p = 0
      · have e9 : nI p + m1 = m1 := by rw [hp0]; rfl
        rw [e9]
        exact if_pos (by decide)
      · rw [z_pred (by omega)]
        have n1 : ¬ (nI (p - 1) < 0) := by rw [z_lit, z_lt (by omega) (by omega)]; omega
        rw [if_neg n1, if_pos (by decide)]
    have e2 := e2' (F - 1)
    rw [Nat.sub_add_cancel (by omega)] at e2
    refine ⟨mf, upd ms p (nI 0), ?_, by rw [e1]; exact z_updE, fun q => absurd e1 q, fun x hx => ⟨z_updN hx, rfl⟩⟩
    simp (disch := omega) only [nm, z_lit, z_chk, z_tn, z_sub, z_le, h, if_false, z_bnd1, z_mul]
    rw [z_sub1, e2, e3]
    rfl
/-! lengths taken by the matches -/
def ltm (ef : Nat) (ml : Nat → Nat) (to p : Nat) : Nat := if 4 ≤ ef ∧ p + 1 < to ∧ ml p < ml (p + 1) then 1 else max 1 (ml p)
theorem ltm_ok {ef : Nat} {b : Nat → Nat} {fr to most : Nat} (hto : to ≤ 512) : ltk (ltm ef (mls b to most) to) (mds b to most) fr to := by
  intro p h1 h2
  have q := mls_facts b to most p hto h2
  unfold ltm
  split
  · exact ⟨by omega, Or.inl rfl⟩
  · omega
theorem l_choose (F : Nat) (fd : Nat → Int32) (ml ds : Nat → Nat) (ef fr to : Nat) (hto : to ≤ 512) (hef : ef < 10) (hfd : fnd fd ml ds fr to) : ∀ (f p : Nat) (LT : Nat → Int32), fr ≤ p → p ≤ to → to - p < f → (∀ x, fr ≤ x → x < p → LT x = nI (ltm ef ml to x)) → ∃ LT', L_Cutter_chooseByMatches_2 F (nI ef) fd (nI to) f (nI p) LT = some (nI to, LT') ∧ ∀ x, fr ≤ x → x < to → LT' x = nI (ltm ef ml to x) := by
  intro f
  induction f with
  | zero => intro p LT _ _ h; omega
  | succ f ih =>
    intro p LT h0 hp hf I
    unfold L_Cutter_chooseByMatches_2 B_Cutter_chooseByMatches_2
    by_cases h : to ≤ p
    · have e : p = to := by omega
      subst e
      exact ⟨LT, by simp (disch := omega) only [nm, z_lit, z_one, z_mone, z_neg1, z_neg2, z_pred, z_add, z_mul, z_sub, z_le, z_lt, z_eq, z_tn, z_chk, z_eqm, z_meq, z_lem, z_mle, z_ltm, z_mlt, z_eqq, z_qeq, z_leq, z_qle, z_ltq, z_qlt, z_m1m2, z_m2m1, z_m1m1, z_m2m2, z_bnd1, z_bnd2, z_bnd3, z_bnd4, z_bnd5, z_bnd6, z_bnd7, z_bnd8, z_bnd9, z_bnd10, z_bnd11, z_bnd12, z_bnd13, z_bnd14, z_bnd15, z_bnd16, z_max, z_min, z_n31, z_shl, z_shr, z_us, z_div, z_mod, z_and, z_or, z_xor, if_true, if_false, Nat.le_refl], I⟩
    · have f1 := hfd p h0 (by omega)
      have l1 := s_lenAt F p (ds p) (ml p) fd (by omega) (by omega) (by omega) f1.1
      have go : ∀ (z : Int32), z = nI (ltm ef ml to p) → ∃ LT', L_Cutter_chooseByMatches_2 F (nI ef) fd (nI to) f (nI (p + 1)) (upd LT p z) = some (nI to, LT') ∧ ∀ x, fr ≤ x → x < to → LT' x = nI (ltm ef ml to x) := fun z hz => ih (p + 1) _ (by omega) (by omega) (by omega) (fun x h1 h2 => by
        by_cases e : x = p
        · rw [e, z_updE, hz]
        · rw [z_updN e]; exact I x h1 (by omega))
      by_cases c1 : ef < 4
      · have e1 : ltm ef ml to p = max 1 (ml p) := by unfold ltm; rw [if_neg (by omega)]
        simp (disch := omega) only [nm, z_lit, z_one, z_mone, z_neg1, z_neg2, z_pred, z_add, z_mul, z_sub, z_le, z_lt, z_eq, z_tn, z_chk, z_eqm, z_meq, z_lem, z_mle, z_ltm, z_mlt, z_eqq, z_qeq, z_leq, z_qle, z_ltq, z_qlt, z_m1m2, z_m2m1, z_m1m1, z_m2m2, z_bnd1, z_bnd2, z_bnd3, z_bnd4, z_bnd5, z_bnd6, z_bnd7, z_bnd8, z_bnd9, z_bnd10, z_bnd11, z_bnd12, z_bnd13, z_bnd14, z_bnd15, z_bnd16, z_max, z_min, z_n31, z_shl, z_shr, z_us, z_div, z_mod, z_and, z_or, z_xor, if_true, if_false, h, l1, c1]
        exact go _ (by rw [e1])
      · by_cases c2 : to ≤ p + 1
        · have e1 : ltm ef ml to p = max 1 (ml p) := by unfold ltm; rw [if_neg (by omega)]
          simp (disch := omega) only [nm, z_lit, z_one, z_mone, z_neg1, z_neg2, z_pred, z_add, z_mul, z_sub, z_le, z_lt, z_eq, z_tn, z_chk, z_eqm, z_meq, z_lem, z_mle, z_ltm, z_mlt, z_eqq, z_qeq, z_leq, z_qle, z_ltq, z_qlt, z_m1m2, z_m2m1, z_m1m1, z_m2m2, z_bnd1, z_bnd2, z_bnd3, z_bnd4, z_bnd5, z_bnd6, z_bnd7, z_bnd8, z_bnd9, z_bnd10, z_bnd11, z_bnd12, z_bnd13, z_bnd14, z_bnd15, z_bnd16, z_max, z_min, z_n31, z_shl, z_shr, z_us, z_div, z_mod, z_and, z_or, z_xor, if_true, if_false, h, l1, c1, c2]
          exact go _ (by rw [e1])
        · have f2 := hfd (p + 1) (by omega) (by omega)
          have l2 := s_lenAt F (p + 1) (ds (p + 1)) (ml (p + 1)) fd (by omega) (by omega) (by omega) f2.1
          by_cases c3 : ml (p + 1) ≤ ml p
          · have e1 : ltm ef ml to p = max 1 (ml p) := by unfold ltm; rw [if_neg (by omega)]
            simp (disch := omega) only [nm, z_lit, z_one, z_mone, z_neg1, z_neg2, z_pred, z_add, z_mul, z_sub, z_le, z_lt, z_eq, z_tn, z_chk, z_eqm, z_meq, z_lem, z_mle, z_ltm, z_mlt, z_eqq, z_qeq, z_leq, z_qle, z_ltq, z_qlt, z_m1m2, z_m2m1, z_m1m1, z_m2m2, z_bnd1, z_bnd2, z_bnd3, z_bnd4, z_bnd5, z_bnd6, z_bnd7, z_bnd8, z_bnd9, z_bnd10, z_bnd11, z_bnd12, z_bnd13, z_bnd14, z_bnd15, z_bnd16, z_max, z_min, z_n31, z_shl, z_shr, z_us, z_div, z_mod, z_and, z_or, z_xor, if_true, if_false, h, l1, l2, c1, c2, c3]
            exact go _ (by rw [e1])
          · have e1 : ltm ef ml to p = 1 := by unfold ltm; rw [if_pos (by omega)]
            have n1 : ¬ (1 = 0) := by omega
            simp (disch := omega) only [nm, z_lit, z_one, z_mone, z_neg1, z_neg2, z_pred, z_add, z_mul, z_sub, z_le, z_lt, z_eq, z_tn, z_chk, z_eqm, z_meq, z_lem, z_mle, z_ltm, z_mlt, z_eqq, z_qeq, z_leq, z_qle, z_ltq, z_qlt, z_m1m2, z_m2m1, z_m1m1, z_m2m2, z_bnd1, z_bnd2, z_bnd3, z_bnd4, z_bnd5, z_bnd6, z_bnd7, z_bnd8, z_bnd9, z_bnd10, z_bnd11, z_bnd12, z_bnd13, z_bnd14, z_bnd15, z_bnd16, z_max, z_min, z_n31, z_shl, z_shr, z_us, z_div, z_mod, z_and, z_or, z_xor, if_true, if_false, h, l1, l2, c1, c2, c3, n1]
            exact go _ (by rw [e1])
theorem s_choose (F : Nat) (fd LT : Nat → Int32) (ml ds : Nat → Nat) (ef fr to : Nat) (hF : 100000 ≤ F) (hft : fr ≤ to) (hto : to ≤ 512) (hef : ef < 10) (hfd : fnd fd ml ds fr to) : ∃ LT', m_Cutter_chooseByMatches F (nI ef) LT fd (nI fr) (nI to) = some LT' ∧ ∀ x, fr ≤ x → x < to → LT' x = nI (ltm ef ml to x) := by
  obtain ⟨LT', e1, g1⟩ := l_choose F fd ml ds ef fr to hto hef hfd F fr LT (Nat.le_refl _) hft (by omega) (fun x h1 h2 => by omega)
  refine ⟨LT', ?_, g1⟩
  unfold m_Cutter_chooseByMatches
  simp only [e1, z_bnd2]
/-! the model's walk -/
/-- the model's matches -/
def mfd (ms mf : Nat → Int32) (ml ds : Nat → Nat) (fr to : Nat) : Prop := ∀ p, fr ≤ p → p < to → ms p = nI (ml p) ∧ (ml p ≠ 0 → mf p = nI (ds p)) ∧ (ml p = 0 ∨ (3 ≤ ml p ∧ ml p ≤ 258 ∧ 1 ≤ ds p)) ∧ ds p < 512 ∧ p + ml p ≤ to
theorem mtok_snoc {ts tf : Nat → Int32} {T Fa : Nat → Nat} {k : Nat} (h : mtok ts tf T Fa k) : mtok (upd ts k (nI (T k))) (upd tf k (nI (Fa k))) T Fa (k + 1) := fun i hi => by
  by_cases e : i = k
  · rw [e, z_updE, z_updE]; exact ⟨rfl, rfl⟩
  · rw [z_updN e, z_updN e]; exact h i (by omega)
theorem s_maddTok (F k a c : Nat) (tf ts : Nat → Int32) (hk : k < 513) : m_MD_addToken F tf ts (nI k) (nI a) (nI c) = some (nI (k + 1), upd tf k (nI c), upd ts k (nI a)) := by
  unfold m_MD_addToken
  simp (disch := omega) only [nm, z_lit, z_one, z_mone, z_neg1, z_neg2, z_pred, z_add, z_mul, z_sub, z_le, z_lt, z_eq, z_tn, z_chk, z_eqm, z_meq, z_lem, z_mle, z_ltm, z_mlt, z_eqq, z_qeq, z_leq, z_qle, z_ltq, z_qlt, z_m1m2, z_m2m1, z_m1m1, z_m2m2, z_bnd1, z_bnd2, z_bnd3, z_bnd4, z_bnd5, z_bnd6, z_bnd7, z_bnd8, z_bnd9, z_bnd10, z_bnd11, z_bnd12, z_bnd13, z_bnd14, z_bnd15, z_bnd16, z_max, z_min, z_n31, z_shl, z_shr, z_us, z_div, z_mod, z_and, z_or, z_xor, if_true, if_false]
theorem l_ftok (F : Nat) (ms mf : Nat → Int32) (ml ds : Nat → Nat) (ef fr to K : Nat) (hto : to ≤ 512) (hef : ef < 10) (hef0 : ef ≠ 0) (hm : mfd ms mf ml ds fr to) (hl : ltk (ltm ef ml to) ds fr to) (hK : wend (ltm ef ml to) fr to K) : ∀ (f k : Nat) (tf ts : Nat → Int32), k ≤ K → K - k < f → mtok ts tf (wT (ltm ef ml to) fr) (wF (ltm ef ml to) ds fr) k → ∃ tf' ts', L_MD_firstTokens_7 F (nI ef) mf ms (nI to) f (nI (wp (ltm ef ml to) fr k)) (nI k) tf ts = some (nI to, nI K, tf', ts') ∧ mtok ts' tf' (wT (ltm ef ml to) fr) (wF (ltm ef ml to) ds fr) K := by
  have tp := tok_pos (walk_tok hl hK) K (Nat.le_refl _)
  intro f
  induction f with
  | zero => intro k tf ts _ h; omega
  | succ f ih =>
    intro k tf ts hk hf I
    unfold L_MD_firstTokens_7 B_MD_firstTokens_7
    by_cases e : k = K
    · subst e
      rw [hK.1]
      exact ⟨tf, ts, by simp (disch := omega) only [nm, z_lit, z_one, z_mone, z_neg1, z_neg2, z_pred, z_add, z_mul, z_sub, z_le, z_lt, z_eq, z_tn, z_chk, z_eqm, z_meq, z_lem, z_mle, z_ltm, z_mlt, z_eqq, z_qeq, z_leq, z_qle, z_ltq, z_qlt, z_m1m2, z_m2m1, z_m1m1, z_m2m2, z_bnd1, z_bnd2, z_bnd3, z_bnd4, z_bnd5, z_bnd6, z_bnd7, z_bnd8, z_bnd9, z_bnd10, z_bnd11, z_bnd12, z_bnd13, z_bnd14, z_bnd15, z_bnd16, z_max, z_min, z_n31, z_shl, z_shr, z_us, z_div, z_mod, z_and, z_or, z_xor, if_true, if_false, Nat.le_refl], I⟩
    · have hlt1 := hK.2 k (by omega)
      have q := wp_ge hl k hlt1 k (Nat.le_refl _)
      have r := hl (wp (ltm ef ml to) fr k) (by omega) q.2
      have n0 : ¬ (to ≤ wp (ltm ef ml to) fr k) := by omega
      have n1 : ¬ (ef ≤ 0) := by omega
      have w1 : wp (ltm ef ml to) fr (k + 1) = wp (ltm ef ml to) fr k + ltm ef ml to (wp (ltm ef ml to) fr k) := rfl
      have hT : wT (ltm ef ml to) fr k = ltm ef ml to (wp (ltm ef ml to) fr k) := rfl
      have hFa : wF (ltm ef ml to) ds fr k = if ltm ef ml to (wp (ltm ef ml to) fr k) = 1 then 0 else ds (wp (ltm ef ml to) fr k) := rfl
      generalize hpp : wp (ltm ef ml to) fr k = p at *
      obtain ⟨m1', m2', m3', m4', m5'⟩ := hm p (by omega) q.2
      have go : ∀ n fa, n = ltm ef ml to p → fa = (if ltm ef ml to p = 1 then 0 else ds p) → ∃ tf' ts', L_MD_firstTokens_7 F (nI ef) mf ms (nI to) f (nI (p + n)) (nI (k + 1)) (upd tf k (nI fa)) (upd ts k (nI n)) = some (nI to, nI K, tf', ts') ∧ mtok ts' tf' (wT (ltm ef ml to) fr) (wF (ltm ef ml to) ds fr) K := fun n fa hn hfa => by
        have := ih (k + 1) (upd tf k (nI fa)) (upd ts k (nI n)) (by omega) (by omega) (by
          have := mtok_snoc I
          rw [hT, hFa, ← hn] at this
          rw [hfa, ← hn]; exact this)
        rw [w1, ← hn] at this
        exact this
      -- the literal
      have lit : ltm ef ml to p = 1 → ∃ tf' ts', L_MD_firstTokens_7 F (nI ef) mf ms (nI to) f (nI (p + 1)) (nI (k + 1)) (upd tf k (nI 0)) (upd ts k (nI 1)) = some (nI to, nI K, tf', ts') ∧ mtok ts' tf' (wT (ltm ef ml to) fr) (wF (ltm ef ml to) ds fr) K := fun h1 => go 1 0 h1.symm (by rw [if_pos h1])
      have at1 := s_maddTok F k 1 0 tf ts (by omega)
      have at2 := s_maddTok F k (ml p) (ds p) tf ts (by omega)
      have mat : ltm ef ml to p = max 1 (ml p) → 3 ≤ ml p → ∃ tf' ts', L_MD_firstTokens_7 F (nI ef) mf ms (nI to) f (nI (p + ml p)) (nI (k + 1)) (upd tf k (nI (ds p))) (upd ts k (nI (ml p))) = some (nI to, nI K, tf', ts') ∧ mtok ts' tf' (wT (ltm ef ml to) fr) (wF (ltm ef ml to) ds fr) K := fun h1 h2 => go (ml p) (ds p) (by omega) (by rw [if_neg (by omega)])
      have base : ∀ (z : Nat), (z = 0 → ltm ef ml to p = max 1 (ml p)) → (z ≠ 0 → ltm ef ml to p = 1) → z ≤ 1 → ∃ tf' ts', (chk (inb (nI p) 514) <| bnd1 (if nI (ml p) < nI 3 then some (nI 1) else if nI z = nI 0 then chk (inb (nI p) 514) (some (nI (ml p))) else some (nI 1)) fun z2 => bnd1 (if z2 = nI 1 then some (nI 0) else chk (inb (nI p) 514) (some (mf p))) fun z3 => bnd3 (m_MD_addToken F tf ts (nI k) z2 z3) fun t_tokens_3 t_tokenFar3 t_tokenSize3 => nm (nI p + z2) fun y1 => L_MD_firstTokens_7 F (nI ef) mf ms (nI to) f y1 t_tokens_3 t_tokenFar3 t_tokenSize3) = some (nI to, nI K, tf', ts') ∧ mtok ts' tf' (wT (ltm ef ml to) fr) (wF (ltm ef ml to) ds fr) K := fun z hz0 hz1 hz => by
        by_cases c : ml p < 3
        · simp (disch := omega) only [nm, z_lit, z_one, z_mone, z_neg1, z_neg2, z_pred, z_add, z_mul, z_sub, z_le, z_lt, z_eq, z_tn, z_chk, z_eqm, z_meq, z_lem, z_mle, z_ltm, z_mlt, z_eqq, z_qeq, z_leq, z_qle, z_ltq, z_qlt, z_m1m2, z_m2m1, z_m1m1, z_m2m2, z_bnd1, z_bnd2, z_bnd3, z_bnd4, z_bnd5, z_bnd6, z_bnd7, z_bnd8, z_bnd9, z_bnd10, z_bnd11, z_bnd12, z_bnd13, z_bnd14, z_bnd15, z_bnd16, z_max, z_min, z_n31, z_shl, z_shr, z_us, z_div, z_mod, z_and, z_or, z_xor, if_true, if_false, c, at1]
          refine lit ?_
          by_cases z0 : z = 0
          · rw [hz0 z0]; omega
          · exact hz1 z0
        · by_cases z0 : z = 0
          · have e8 := m2' (by omega)
            have n8 : ¬ (ml p = 1) := by omega
            simp (disch := omega) only [nm, z_lit, z_one, z_mone, z_neg1, z_neg2, z_pred, z_add, z_mul, z_sub, z_le, z_lt, z_eq, z_tn, z_chk, z_eqm, z_meq, z_lem, z_mle, z_ltm, z_mlt, z_eqq, z_qeq, z_leq, z_qle, z_ltq, z_qlt, z_m1m2, z_m2m1, z_m1m1, z_m2m2, z_bnd1, z_bnd2, z_bnd3, z_bnd4, z_bnd5, z_bnd6, z_bnd7, z_bnd8, z_bnd9, z_bnd10, z_bnd11, z_bnd12, z_bnd13, z_bnd14, z_bnd15, z_bnd16, z_max, z_min, z_n31, z_shl, z_shr, z_us, z_div, z_mod, z_and, z_or, z_xor, if_true, if_false, c, z0, n8, e8, at2]
            exact mat (hz0 z0) (by omega)
          · simp (disch := omega) only [nm, z_lit, z_one, z_mone, z_neg1, z_neg2, z_pred, z_add, z_mul, z_sub, z_le, z_lt, z_eq, z_tn, z_chk, z_eqm, z_meq, z_lem, z_mle, z_ltm, z_mlt, z_eqq, z_qeq, z_leq, z_qle, z_ltq, z_qlt, z_m1m2, z_m2m1, z_m1m1, z_m2m2, z_bnd1, z_bnd2, z_bnd3, z_bnd4, z_bnd5, z_bnd6, z_bnd7, z_bnd8, z_bnd9, z_bnd10, z_bnd11, z_bnd12, z_bnd13, z_bnd14, z_bnd15, z_bnd16, z_max, z_min, z_n31, z_shl, z_shr, z_us, z_div, z_mod, z_and, z_or, z_xor, if_true, if_false, c, z0, at1]
            exact lit (hz1 z0)
      by_cases c1 : ef ≤ 3
      · have b0 := base 0 (fun _ => by unfold ltm; rw [if_neg (by omega)]) (fun h => absurd rfl h) (by omega)
        simp (disch := omega) only [nm, z_lit, z_one, z_mone, z_neg1, z_neg2, z_pred, z_add, z_mul, z_sub, z_le, z_lt, z_eq, z_tn, z_chk, z_eqm, z_meq, z_lem, z_mle, z_ltm, z_mlt, z_eqq, z_qeq, z_leq, z_qle, z_ltq, z_qlt, z_m1m2, z_m2m1, z_m1m1, z_m2m2, z_bnd1, z_bnd2, z_bnd3, z_bnd4, z_bnd5, z_bnd6, z_bnd7, z_bnd8, z_bnd9, z_bnd10, z_bnd11, z_bnd12, z_bnd13, z_bnd14, z_bnd15, z_bnd16, z_max, z_min, z_n31, z_shl, z_shr, z_us, z_div, z_mod, z_and, z_or, z_xor, if_true, if_false, n0, n1, c1, m1'] at b0 ⊢
        exact b0
      · by_cases c2 : to ≤ p + 1
        · have b0 := base 0 (fun _ => by unfold ltm; rw [if_neg (by omega)]) (fun h => absurd rfl h) (by omega)
          simp (disch := omega) only [nm, z_lit, z_one, z_mone, z_neg1, z_neg2, z_pred, z_add, z_mul, z_sub, z_le, z_lt, z_eq, z_tn, z_chk, z_eqm, z_meq, z_lem, z_mle, z_ltm, z_mlt, z_eqq, z_qeq, z_leq, z_qle, z_ltq, z_qlt, z_m1m2, z_m2m1, z_m1m1, z_m2m2, z_bnd1, z_bnd2, z_bnd3, z_bnd4, z_bnd5, z_bnd6, z_bnd7, z_bnd8, z_bnd9, z_bnd10, z_bnd11, z_bnd12, z_bnd13, z_bnd14, z_bnd15, z_bnd16, z_max, z_min, z_n31, z_shl, z_shr, z_us, z_div, z_mod, z_and, z_or, z_xor, if_true, if_false, n0, n1, c1, c2, m1'] at b0 ⊢
          exact b0
        · obtain ⟨o1, o2, o3, o4, o5⟩ := hm (p + 1) (by omega) (by omega)
          by_cases c3 : ml (p + 1) ≤ ml p
          · have b0 := base 0 (fun _ => by unfold ltm; rw [if_neg (by omega)]) (fun h => absurd rfl h) (by omega)
            simp (disch := omega) only [nm, z_lit, z_one, z_mone, z_neg1, z_neg2, z_pred, z_add, z_mul, z_sub, z_le, z_lt, z_eq, z_tn, z_chk, z_eqm, z_meq, z_lem, z_mle, z_ltm, z_mlt, z_eqq, z_qeq, z_leq, z_qle, z_ltq, z_qlt, z_m1m2, z_m2m1, z_m1m1, z_m2m2, z_bnd1, z_bnd2, z_bnd3, z_bnd4, z_bnd5, z_bnd6, z_bnd7, z_bnd8, z_bnd9, z_bnd10, z_bnd11, z_bnd12, z_bnd13, z_bnd14, z_bnd15, z_bnd16, z_max, z_min, z_n31, z_shl, z_shr, z_us, z_div, z_mod, z_and, z_or, z_xor, if_true, if_false, n0, n1, c1, c2, c3, m1', o1] at b0 ⊢
            exact b0
          · have b0 := base 1 (fun h => by omega) (fun _ => by unfold ltm; rw [if_pos (by omega)]) (by omega)
            have n3 : ¬ (1 = 0) := by omega
            simp (disch := omega) only [nm, z_lit, z_one, z_mone, z_neg1, z_neg2, z_pred, z_add, z_mul, z_sub, z_le, z_lt, z_eq, z_tn, z_chk, z_eqm, z_meq, z_lem, z_mle, z_ltm, z_mlt, z_eqq, z_qeq, z_leq, z_qle, z_ltq, z_qlt, z_m1m2, z_m2m1, z_m1m1, z_m2m2, z_bnd1, z_bnd2, z_bnd3, z_bnd4, z_bnd5, z_bnd6, z_bnd7, z_bnd8, z_bnd9, z_bnd10, z_bnd11, z_bnd12, z_bnd13, z_bnd14, z_bnd15, z_bnd16, z_max, z_min, z_n31, z_shl, z_shr, z_us, z_div, z_mod, z_and, z_or, z_xor, if_true, if_false, n0, n1, n3, c1, c2, c3, m1', o1] at b0 ⊢
            exact b0
theorem s_ftok (F : Nat) (mf ms tf ts : Nat → Int32) (ml ds : Nat → Nat) (ef fr to K : Nat) (hF : 100000 ≤ F) (hto : to ≤ 512) (hef : ef < 10) (hef0 : ef ≠ 0) (hm : mfd ms mf ml ds fr to) (hl : ltk (ltm ef ml to) ds fr to) (hK : wend (ltm ef ml to) fr to K) : ∃ tf' ts', m_MD_firstTokens F (nI ef) mf ms tf ts (nI fr) (nI to) = some (nI K, tf', ts') ∧ mtok ts' tf' (wT (ltm ef ml to) fr) (wF (ltm ef ml to) ds fr) K := by
  have tp := tok_pos (walk_tok hl hK) K (Nat.le_refl _)
  obtain ⟨tf', ts', e1, g1⟩ := l_ftok F ms mf ml ds ef fr to K hto hef hef0 hm hl hK F 0 tf ts (by omega) (by omega) (fun k h => by omega)
  refine ⟨tf', ts', ?_, g1⟩
  have e0 : wp (ltm ef ml to) fr 0 = fr := rfl
  rw [e0] at e1
  unfold m_MD_firstTokens
  simp only [z_lit, e1, z_bnd4]
