/-! the blocks that are taken, written by both -/
theorem l_plan9 (F N : Nat) (b T Fa : Nat → Nat) (fr to K : Nat) (tA : Nat → Int32) (hF : 100000 ≤ F) (hb : ∀ j, j < 512 → b j < 256) (hto : to ≤ 512) (h : tok T Fa fr to K) (hKN : K ≤ N) (hN : N ≤ 512) (hA : ∀ i, i < K → tA i = nI (tk b T Fa fr i)) : ∀ (f k : Nat) (dc lc_ tkn : Nat → Int32), k ≤ K → K - k < f → plan b T Fa fr k dc lc_ tkn → ∃ dc' lc' tkn', L_Cutter_planOf_9 F N (nI K) tA f (nI k) (nI k) (nI (mtc T k)) dc lc_ tkn = some (nI K, nI K, nI (mtc T K), dc', lc', tkn') ∧ plan b T Fa fr K dc' lc' tkn' := by
  intro f
  induction f with
  | zero => intros; omega
  | succ f ih =>
    intro k dc lc_ tkn hk hf P
    unfold L_Cutter_planOf_9 B_Cutter_planOf_9
    by_cases e : K ≤ k
    · have e : k = K := by omega
      subst e
      exact ⟨dc, lc_, tkn, by simp (disch := omega) only [nm, z_lit, z_one, z_mone, z_neg1, z_neg2, z_pred, z_add, z_mul, z_sub, z_le, z_lt, z_eq, z_tn, z_chk, z_eqm, z_meq, z_lem, z_mle, z_ltm, z_mlt, z_eqq, z_qeq, z_leq, z_qle, z_ltq, z_qlt, z_m1m2, z_m2m1, z_m1m1, z_m2m2, z_bnd1, z_bnd2, z_bnd3, z_bnd4, z_bnd5, z_bnd6, z_bnd7, z_bnd8, z_bnd9, z_bnd10, z_bnd11, z_bnd12, z_bnd13, z_bnd14, z_bnd15, z_bnd16, z_max, z_min, z_n31, z_shl, z_shr, z_us, z_div, z_mod, z_and, z_or, z_xor, if_true, if_false, Nat.le_refl], P⟩
    · obtain ⟨dc1, lc1, tkn1, e1, P1⟩ := s_addTok F b T Fa fr to K k dc lc_ tkn hF hb hto h (by omega) P
      have e2 := hA k (by omega)
      obtain ⟨dc', lc', tkn', q1, q2⟩ := ih (k + 1) dc1 lc1 tkn1 (by omega) (by omega) P1
      have n0 : (nI K ≤ nI k) = False := by rw [z_le (by omega) (by omega)]; exact eq_false e
      refine ⟨dc', lc', tkn', ?_, q2⟩
      simp (disch := omega) only [nm, n0, if_false, z_chk, z_tn, e2, e1, z_bnd5, z_one, z_add]
      exact q1
theorem s_planOf (F N : Nat) (b T Fa : Nat → Nat) (fr to K : Nat) (tA hdc hdl hlc hll htk jab jod jwt rcc rcl rrow : Nat → Int32) (hF : 100000 ≤ F) (hb : ∀ j, j < 512 → b j < 256) (hft : fr ≤ to) (hto : to ≤ 512) (h : tok T Fa fr to K) (hKN : K ≤ N) (hN : N ≤ 512) (hA : ∀ i, i < K → tA i = nI (tk b T Fa fr i)) : ∃ (L D e : Nat → Nat) (hdc' hdl' hlc' hll' htk' jab' jod' jwt' rcc' rcl' rrow' : Nat → Int32), m_Cutter_planOf F N (nI fr) (nI K) (nI to) tA hdc hdl hlc hll htk jab jod jwt rcc rcl rrow = some (nI K, nI (mtc T K), nI (kd2 (stb (to - fr)) (fxb b T Fa fr K) (owb b T Fa fr K L D e)), nI (kb2 (stb (to - fr)) (fxb b T Fa fr K) (owb b T Fa fr K L D e)), hdc', hdl', hlc', hll', htk', jab', jod', jwt', nI (rowl L D).length, nI (um L 257 286), nI (um D 1 30), nI (toldc e), rcc', rcl', rrow') ∧ own b T Fa fr K L D e ∧ (∀ k, k < 286 → hll' k = nI (L k)) ∧ (∀ k, k < 30 → hdl' k = nI (D k)) ∧ (∀ k, k < 19 → rcl' k = nI (e k)) ∧ (∃ cc0, crow (rowl L D) cc0 rrow') ∧ (∀ i, i < K → htk' i = nI (tk b T Fa fr i)) := by
  obtain ⟨dc1, lc1, e1, P1⟩ := s_restart F b T Fa fr hdc hlc hF
  have K5 := tok_pos h K (Nat.le_refl _)
  obtain ⟨dc2, lc2, tkn2, e2, P2⟩ := l_plan9 F N b T Fa fr to K tA hF hb hto h hKN hN hA F 0 dc1 lc1 htk (by omega) (by omega) (P1 htk)
  obtain ⟨L, D, e, ab', od', wt', cc', cl', row', dl', ll', e3, H, g1, g2, g3, g4⟩ := s_weigh F jab jod jwt rcc rcl rrow dc2 hdl lc2 hll tkn2 b T Fa fr to K (to - fr) hF hb hto (by omega) h P2
  refine ⟨L, D, e, dc2, dl', lc2, ll', tkn2, ab', od', wt', cc', cl', row', ?_, H, g1, g2, g3, g4, P2.2.2⟩
  have m0 : mtc T 0 = 0 := rfl
  rw [m0] at e2
  unfold m_Cutter_planOf
  simp only [e1, z_bnd4, z_lit, e2, z_bnd6, z_sub hft, e3, z_bnd14]
theorem l_pb151 (F t K : Nat) (ts tf : Nat → Int32) (T Fa : Nat → Nat) (fr to : Nat) (ht : t < 5) (hto : to ≤ 512) (h : tok T Fa fr to K) (hm : mtok ts tf T Fa K) : ∀ (f k : Nat) (bM : Nat → Int32), k ≤ K → K - k < f → bM t = nI (mtc T k) → ∃ bM', L_MD_putBlock_151 F (nI t) ts (nI K) f (nI k) bM = some (nI K, bM') ∧ bM' t = nI (mtc T K) ∧ ∀ x, x ≠ t → bM' x = bM x := by
  have K5 := tok_pos h K (Nat.le_refl _)
  intro f
  induction f with
  | zero => intros; omega
  | succ f ih =>
    intro k bM hk hf I
    unfold L_MD_putBlock_151 B_MD_putBlock_151
    by_cases e : K ≤ k
    · have e : k = K := by omega
      subst e
      exact ⟨bM, by simp (disch := omega) only [nm, z_lit, z_one, z_mone, z_neg1, z_neg2, z_pred, z_add, z_mul, z_sub, z_le, z_lt, z_eq, z_tn, z_chk, z_eqm, z_meq, z_lem, z_mle, z_ltm, z_mlt, z_eqq, z_qeq, z_leq, z_qle, z_ltq, z_qlt, z_m1m2, z_m2m1, z_m1m1, z_m2m2, z_bnd1, z_bnd2, z_bnd3, z_bnd4, z_bnd5, z_bnd6, z_bnd7, z_bnd8, z_bnd9, z_bnd10, z_bnd11, z_bnd12, z_bnd13, z_bnd14, z_bnd15, z_bnd16, z_max, z_min, z_n31, z_shl, z_shr, z_us, z_div, z_mod, z_and, z_or, z_xor, if_true, if_false, Nat.le_refl], I, fun _ _ => rfl⟩
    · have q := h.1 k (by omega)
      have e1 := (hm k (by omega)).1
      by_cases c : T k = 1
      · have c' : T k ≤ 1 := by omega
        have em : mtc T k + 0 = mtc T (k + 1) := by rw [mtc, if_pos c]
        obtain ⟨bM', a1, a2, a3⟩ := ih (k + 1) (upd bM t (nI (mtc T (k + 1)))) (by omega) (by omega) z_updE
        simp (disch := omega) only [nm, z_lit, z_one, z_mone, z_neg1, z_neg2, z_pred, z_add, z_mul, z_sub, z_le, z_lt, z_eq, z_tn, z_chk, z_eqm, z_meq, z_lem, z_mle, z_ltm, z_mlt, z_eqq, z_qeq, z_leq, z_qle, z_ltq, z_qlt, z_m1m2, z_m2m1, z_m1m1, z_m2m2, z_bnd1, z_bnd2, z_bnd3, z_bnd4, z_bnd5, z_bnd6, z_bnd7, z_bnd8, z_bnd9, z_bnd10, z_bnd11, z_bnd12, z_bnd13, z_bnd14, z_bnd15, z_bnd16, z_max, z_min, z_n31, z_shl, z_shr, z_us, z_div, z_mod, z_and, z_or, z_xor, if_true, if_false, e, e1, c', I, em]
        exact ⟨bM', a1, a2, fun x hx => by rw [a3 x hx, z_updN hx]⟩
      · have c' : ¬ (T k ≤ 1) := by omega
        have em : mtc T k + 1 = mtc T (k + 1) := by rw [mtc, if_neg c]
        obtain ⟨bM', a1, a2, a3⟩ := ih (k + 1) (upd bM t (nI (mtc T (k + 1)))) (by omega) (by omega) z_updE
        simp (disch := omega) only [nm, z_lit, z_one, z_mone, z_neg1, z_neg2, z_pred, z_add, z_mul, z_sub, z_le, z_lt, z_eq, z_tn, z_chk, z_eqm, z_meq, z_lem, z_mle, z_ltm, z_mlt, z_eqq, z_qeq, z_leq, z_qle, z_ltq, z_qlt, z_m1m2, z_m2m1, z_m1m1, z_m2m2, z_bnd1, z_bnd2, z_bnd3, z_bnd4, z_bnd5, z_bnd6, z_bnd7, z_bnd8, z_bnd9, z_bnd10, z_bnd11, z_bnd12, z_bnd13, z_bnd14, z_bnd15, z_bnd16, z_max, z_min, z_n31, z_shl, z_shr, z_us, z_div, z_mod, z_and, z_or, z_xor, if_true, if_false, e, e1, c', I, em]
        exact ⟨bM', a1, a2, fun x hx => by rw [a3 x hx, z_updN hx]⟩
theorem mtok_151 (F t K : Nat) (ts tf : Nat → Int32) (T Fa : Nat → Nat) (b : Nat → Nat) (ef fr to r kd bt : Nat) (bM : Nat → Int32) (hF : 100000 ≤ F) (ht : t < 5) (hto : to ≤ 512) (hb : ∀ j, j < 512 → b j < 256) (H : bspec b ef fr to T Fa K r kd bt) (hm : mtok ts tf T Fa K) : ∃ bM', L_MD_putBlock_151 F (nI t) ts (nI K) F (nI 0) (upd bM t (nI 0)) = some (nI K, bM') ∧ bM' t = nI (mtc T K) ∧ ∀ x, x ≠ t → bM' x = bM x := by
  by_cases h0 : ef = 0
  · have hK : K = 0 := by rcases H with H | H
                          · exact H.2.1
                          · exact absurd h0 H.1
    subst hK
    have e : ∀ G, L_MD_putBlock_151 F (nI t) ts (nI 0) (G + 1) (nI 0) (upd bM t (nI 0)) = some (nI 0, upd bM t (nI 0)) := fun G => by
      unfold L_MD_putBlock_151 B_MD_putBlock_151
      rw [if_pos (by decide)]
    have e2 := e (F - 1)
    rw [Nat.sub_add_cancel (by omega)] at e2
    exact ⟨_, e2, z_updE, fun x hx => z_updN hx⟩
  · have h := (bspec_own hb hto H h0).1
    have K5 := tok_pos h K (Nat.le_refl _)
    obtain ⟨bM', a1, a2, a3⟩ := l_pb151 F t K ts tf T Fa fr to ht hto h hm F 0 (upd bM t (nI 0)) (by omega) (by omega) z_updE
    exact ⟨bM', a1, a2, fun x hx => by rw [a3 x hx, z_updN hx]⟩
