/-! the lengths' own code -/
def hlv (c : Nat → Nat) : Nat → Nat → Nat
  | 0, s => c s
  | i + 1, s => (hlv c i s + 1) / 2
/-- e are the lengths of the lengths' code for the counts c -/
def lcode (c e : Nat → Nat) : Prop := ∃ i, i < 10 ∧ (∀ j, j < i → ∃ d, huff (hlv c j) 19 d ∧ (∀ k, k < 19 → d k ≤ 1000) ∧ ∃ k, k < 19 ∧ 7 < d k) ∧ huff (hlv c i) 19 e ∧ (∀ k, k < 19 → e k ≤ 7)
theorem hlv_le {c : Nat → Nat} (hc : ∀ s, s < 19 → c s ≤ 400) : ∀ i s, s < 19 → hlv c i s ≤ 400 := by
  intro i
  induction i with
  | zero => intro s hs; exact hc s hs
  | succ i ih => intro s hs; have := ih s hs; show (hlv c i s + 1) / 2 ≤ 400; omega
theorem hlv_9 {c : Nat → Nat} (hc : ∀ s, s < 19 → c s ≤ 400) (s : Nat) (hs : s < 19) : hlv c 9 s ≤ 1 := by
  have := hc s hs
  simp only [hlv]
  omega
theorem sm_le (w : Nat → Nat) (a B : Nat) : ∀ k, (∀ i, a ≤ i → i < a + k → w i ≤ B) → sm w a k ≤ k * B := by
  intro k
  induction k with
  | zero => intro _; simp [sm]
  | succ k ih =>
    intro h
    rw [sm]
    have := ih (fun i h1 h2 => h i h1 (by omega))
    have := h (a + k) (by omega) (by omega)
    rw [Nat.add_mul]; omega
theorem huff_1000 {c d : Nat → Nat} (h : huff c 19 d) (hc : ∀ s, s < 19 → c s ≤ 400) : ∀ k, k < 19 → d k ≤ 1000 := by
  have := sm_le c 0 400 19 (fun i _ h2 => hc i (by omega))
  refine huff_le h 1000 ?_ (by omega)
  have q : fb 20 ≤ fb 1001 := fb_le (by omega)
  have q2 : fb 20 = 17711 := by decide +kernel
  show sm c 0 19 < fb 1001
  omega
theorem l_longest (F N : Nat) (p : Nat → Int32) (L : Nat → Nat) (hN : N < 1000) (hp : ∀ j, j < N → p j = nI (L j) ∧ L j < 1000000) : ∀ (f i v : Nat), i ≤ N → N - i < f → v < 1000000 → ∃ r, L_Code_longest_4 F N p f (nI v) (nI i) = some (nI r, nI N) ∧ r < 1000000 ∧ ∀ B, r ≤ B ↔ (v ≤ B ∧ ∀ j, i ≤ j → j < N → L j ≤ B) := by
  intro f
  induction f with
  | zero => intro i v _ h; omega
  | succ f ih =>
    intro i v hi hf hv
    unfold L_Code_longest_4 B_Code_longest_4
    by_cases h : N ≤ i
    · have e : i = N := by omega
      subst e
      refine ⟨v, by simp (disch := omega) only [nm, z_lit, z_one, z_mone, z_neg1, z_neg2, z_pred, z_add, z_mul, z_sub, z_le, z_lt, z_eq, z_tn, z_chk, z_eqm, z_meq, z_lem, z_mle, z_ltm, z_mlt, z_eqq, z_qeq, z_leq, z_qle, z_ltq, z_qlt, z_m1m2, z_m2m1, z_m1m1, z_m2m2, z_bnd1, z_bnd2, z_bnd3, z_bnd4, z_bnd5, z_bnd6, z_bnd7, z_bnd8, z_bnd9, z_bnd10, z_bnd11, z_bnd12, z_bnd13, z_bnd14, z_bnd15, z_bnd16, z_max, z_min, z_n31, z_shl, z_shr, z_us, z_div, z_mod, z_and, z_or, z_xor, if_true, if_false, Nat.le_refl], hv, fun B => ⟨fun q => ⟨q, fun j h1 h2 => by omega⟩, fun q => q.1⟩⟩
    · obtain ⟨e1, b1⟩ := hp i (by omega)
      simp (disch := omega) only [nm, z_lit, z_one, z_mone, z_neg1, z_neg2, z_pred, z_add, z_mul, z_sub, z_le, z_lt, z_eq, z_tn, z_chk, z_eqm, z_meq, z_lem, z_mle, z_ltm, z_mlt, z_eqq, z_qeq, z_leq, z_qle, z_ltq, z_qlt, z_m1m2, z_m2m1, z_m1m1, z_m2m2, z_bnd1, z_bnd2, z_bnd3, z_bnd4, z_bnd5, z_bnd6, z_bnd7, z_bnd8, z_bnd9, z_bnd10, z_bnd11, z_bnd12, z_bnd13, z_bnd14, z_bnd15, z_bnd16, z_max, z_min, z_n31, z_shl, z_shr, z_us, z_div, z_mod, z_and, z_or, z_xor, if_true, if_false, h, e1]
      obtain ⟨r, g1, g2, g3⟩ := ih (i + 1) (max v (L i)) (by omega) (by omega) (by omega)
      refine ⟨r, g1, g2, fun B => ?_⟩
      rw [g3 B]
      constructor
      · intro q
        refine ⟨by omega, fun j h1 h2 => ?_⟩
        by_cases e : j = i
        · subst e; omega
        · exact q.2 j (by omega) h2
      · intro q
        have := q.2 i (by omega) (by omega)
        exact ⟨by omega, fun j h1 h2 => q.2 j (by omega) h2⟩
theorem l_halve (F N : Nat) (c : Nat → Nat) (hN : N < 1000) (hc : ∀ s, s < N → c s ≤ 400) : ∀ (f i : Nat) (p : Nat → Int32), i ≤ N → N - i < f → (∀ s, s < N → p s = nI (if s < i then (c s + 1) / 2 else c s)) → ∃ p', L_Code_halveCounts_2 F N f (nI i) p = some (nI N, p') ∧ ∀ s, s < N → p' s = nI ((c s + 1) / 2) := by
  intro f
  induction f with
  | zero => intro i p _ h; omega
  | succ f ih =>
    intro i p hi hf I
    unfold L_Code_halveCounts_2 B_Code_halveCounts_2
    by_cases h : N ≤ i
    · have e : i = N := by omega
      subst e
      exact ⟨p, by simp (disch := omega) only [nm, z_lit, z_one, z_mone, z_neg1, z_neg2, z_pred, z_add, z_mul, z_sub, z_le, z_lt, z_eq, z_tn, z_chk, z_eqm, z_meq, z_lem, z_mle, z_ltm, z_mlt, z_eqq, z_qeq, z_leq, z_qle, z_ltq, z_qlt, z_m1m2, z_m2m1, z_m1m1, z_m2m2, z_bnd1, z_bnd2, z_bnd3, z_bnd4, z_bnd5, z_bnd6, z_bnd7, z_bnd8, z_bnd9, z_bnd10, z_bnd11, z_bnd12, z_bnd13, z_bnd14, z_bnd15, z_bnd16, z_max, z_min, z_n31, z_shl, z_shr, z_us, z_div, z_mod, z_and, z_or, z_xor, if_true, if_false, Nat.le_refl], fun s hs => by rw [I s hs, if_pos hs]⟩
    · have e1 := I i (by omega)
      rw [if_neg (by omega)] at e1
      have b1 := hc i (by omega)
      simp (disch := omega) only [nm, z_lit, z_one, z_mone, z_neg1, z_neg2, z_pred, z_add, z_mul, z_sub, z_le, z_lt, z_eq, z_tn, z_chk, z_eqm, z_meq, z_lem, z_mle, z_ltm, z_mlt, z_eqq, z_qeq, z_leq, z_qle, z_ltq, z_qlt, z_m1m2, z_m2m1, z_m1m1, z_m2m2, z_bnd1, z_bnd2, z_bnd3, z_bnd4, z_bnd5, z_bnd6, z_bnd7, z_bnd8, z_bnd9, z_bnd10, z_bnd11, z_bnd12, z_bnd13, z_bnd14, z_bnd15, z_bnd16, z_max, z_min, z_n31, z_shl, z_shr, z_us, z_div, z_mod, z_and, z_or, z_xor, if_true, if_false, h, e1]
      refine ih (i + 1) _ (by omega) (by omega) (fun s hs => ?_)
      by_cases e : s = i
      · rw [e, z_updE, if_pos (by omega)]
      · rw [z_updN e, I s hs]
        by_cases q : s < i
        · rw [if_pos q, if_pos (by omega)]
        · rw [if_neg q, if_neg (by omega)]
theorem l_mk10 (F : Nat) (c : Nat → Nat) (hF : 100000 ≤ F) (hc : ∀ s, s < 19 → c s ≤ 400) : ∀ (f i : Nat) (ab od wt cc len : Nat → Int32) (d : Nat → Nat), i < 10 → 10 - i < f → (∀ s, s < 19 → cc s = nI (hlv c i s)) → (∀ s, s < 19 → len s = nI (d s)) → huff (hlv c i) 19 d → (∀ j, j < i → ∃ d, huff (hlv c j) 19 d ∧ (∀ k, k < 19 → d k ≤ 1000) ∧ ∃ k, k < 19 ∧ 7 < d k) → ∃ (e : Nat → Nat) (v : Int32) (ab' od' wt' cc' len' : Nat → Int32), L_LengthRow_makeCode_10 F f (nI i) ab od wt cc len = some (v, ab', od', wt', cc', len') ∧ lcode c e ∧ (∀ s, s < 19 → len' s = nI (e s)) := by
  intro f
  induction f with
  | zero => intro i ab od wt cc len d _ h; omega
  | succ f ih =>
    intro i ab od wt cc len d hi hf hcc hlen H J
    have hcB := hlv_le hc i
    have hB := huff_1000 H hcB
    unfold L_LengthRow_makeCode_10 B_LengthRow_makeCode_10
    have n1 : ¬ (10 ≤ i) := by omega
    obtain ⟨r, e1, b1, g1⟩ := l_longest F 19 len d (by omega) (fun j hj => ⟨hlen j hj, by have := hB j hj; omega⟩) F 0 0 (by omega) (by omega) (by omega)
    have e2 : m_Code_longest F 19 len = some (nI r) := by unfold m_Code_longest; simp only [z_lit, e1, z_bnd2]
    by_cases h : r ≤ 7
    · have q := (g1 7).mp h
      refine ⟨d, nI i, ab, od, wt, cc, len, by simp (disch := omega) only [nm, z_lit, z_one, z_mone, z_neg1, z_neg2, z_pred, z_add, z_mul, z_sub, z_le, z_lt, z_eq, z_tn, z_chk, z_eqm, z_meq, z_lem, z_mle, z_ltm, z_mlt, z_eqq, z_qeq, z_leq, z_qle, z_ltq, z_qlt, z_m1m2, z_m2m1, z_m1m1, z_m2m2, z_bnd1, z_bnd2, z_bnd3, z_bnd4, z_bnd5, z_bnd6, z_bnd7, z_bnd8, z_bnd9, z_bnd10, z_bnd11, z_bnd12, z_bnd13, z_bnd14, z_bnd15, z_bnd16, z_max, z_min, z_n31, z_shl, z_shr, z_us, z_div, z_mod, z_and, z_or, z_xor, if_true, if_false, n1, e2, h], ⟨i, hi, J, H, fun k hk => q.2 k (by omega) hk⟩, hlen⟩
    · -- one is longer: the counts are halved
      have hbig : ∃ k, k < 19 ∧ 7 < d k := by
        refine Classical.byContradiction fun q => h ((g1 7).mpr ⟨by omega, fun j _ hj => ?_⟩)
        exact Nat.le_of_not_lt (fun q2 => q ⟨j, hj, q2⟩)
      have hi9 : i < 9 := by
        refine Classical.byContradiction fun q => ?_
        have e : i = 9 := by omega
        subst e
        obtain ⟨k, hk, hk2⟩ := hbig
        have s1 := sm_le (hlv c 9) 0 1 19 (fun i _ h2 => hlv_9 hc i (by omega))
        have := huff_le H 7 (by have : fb (7 + 1) = 55 := by decide +kernel
                                omega) (by omega) k hk
        omega
      obtain ⟨cc1, e3, g3⟩ := l_halve F 19 (hlv c i) (by omega) hcB F 0 cc (by omega) (by omega) (fun s hs => by rw [hcc s hs, if_neg (by omega)])
      have e4 : m_Code_halveCounts F 19 cc = some cc1 := by unfold m_Code_halveCounts; simp only [z_lit, e3, z_bnd2]
      have hcB' := hlv_le hc (i + 1)
      have s1 := sm_le (hlv c (i + 1)) 0 400 19 (fun i _ h2 => hcB' i (by omega))
      obtain ⟨d', len1, ab1, od1, wt1, e5, H', g5⟩ := s_join F 19 cc1 len ab od wt (hlv c (i + 1)) g3 (by omega) (by omega) hF
      simp (disch := omega) only [nm, z_lit, z_one, z_mone, z_neg1, z_neg2, z_pred, z_add, z_mul, z_sub, z_le, z_lt, z_eq, z_tn, z_chk, z_eqm, z_meq, z_lem, z_mle, z_ltm, z_mlt, z_eqq, z_qeq, z_leq, z_qle, z_ltq, z_qlt, z_m1m2, z_m2m1, z_m1m1, z_m2m2, z_bnd1, z_bnd2, z_bnd3, z_bnd4, z_bnd5, z_bnd6, z_bnd7, z_bnd8, z_bnd9, z_bnd10, z_bnd11, z_bnd12, z_bnd13, z_bnd14, z_bnd15, z_bnd16, z_max, z_min, z_n31, z_shl, z_shr, z_us, z_div, z_mod, z_and, z_or, z_xor, if_true, if_false, n1, e2, h, e4, e5]
      refine ih (i + 1) ab1 od1 wt1 cc1 len1 d' (by omega) (by omega) g3 g5 H' (fun j hj => ?_)
      by_cases e : j = i
      · subst e; exact ⟨d, H, hB, hbig⟩
      · exact J j (by omega)
theorem l_mk55 (F : Nat) (len : Nat → Int32) (e : Nat → Nat) (he : ∀ k, k < 19 → len k = nI (e k) ∧ e k < 1000000) : ∀ (f k : Nat), 4 ≤ k → k ≤ 19 → k < f → L_LengthRow_makeCode_55 F len f (nI k) = some (nI (um (fun i => e (tbn 4 i)) 4 k)) := by
  intro f
  induction f with
  | zero => intro k _ _ h; omega
  | succ f ih =>
    intro k h1 h2 hf
    obtain ⟨j, rfl⟩ : ∃ j, k = j + 1 := ⟨k - 1, by omega⟩
    unfold L_LengthRow_makeCode_55 B_LengthRow_makeCode_55
    rw [um]
    by_cases h : j + 1 ≤ 4
    · simp (disch := omega) only [nm, z_lit, z_one, z_mone, z_neg1, z_neg2, z_pred, z_add, z_mul, z_sub, z_le, z_lt, z_eq, z_tn, z_chk, z_eqm, z_meq, z_lem, z_mle, z_ltm, z_mlt, z_eqq, z_qeq, z_leq, z_qle, z_ltq, z_qlt, z_m1m2, z_m2m1, z_m1m1, z_m2m2, z_bnd1, z_bnd2, z_bnd3, z_bnd4, z_bnd5, z_bnd6, z_bnd7, z_bnd8, z_bnd9, z_bnd10, z_bnd11, z_bnd12, z_bnd13, z_bnd14, z_bnd15, z_bnd16, z_max, z_min, z_n31, z_shl, z_shr, z_us, z_div, z_mod, z_and, z_or, z_xor, if_true, if_false, h]
    · obtain ⟨t1, t2⟩ := tb4 j (by omega)
      have e1 := he (tbn 4 j) t2
      have es : j + 1 - 1 = j := by omega
      by_cases h3 : e (tbn 4 j) = 0
      · simp (disch := omega) only [nm, z_lit, z_one, z_mone, z_neg1, z_neg2, z_pred, z_add, z_mul, z_sub, z_le, z_lt, z_eq, z_tn, z_chk, z_eqm, z_meq, z_lem, z_mle, z_ltm, z_mlt, z_eqq, z_qeq, z_leq, z_qle, z_ltq, z_qlt, z_m1m2, z_m2m1, z_m1m1, z_m2m2, z_bnd1, z_bnd2, z_bnd3, z_bnd4, z_bnd5, z_bnd6, z_bnd7, z_bnd8, z_bnd9, z_bnd10, z_bnd11, z_bnd12, z_bnd13, z_bnd14, z_bnd15, z_bnd16, z_max, z_min, z_n31, z_shl, z_shr, z_us, z_div, z_mod, z_and, z_or, z_xor, if_true, if_false, h, tn4, es, t1, e1.1, h3]
        exact ih j (by omega) (by omega) (by omega)
      · simp (disch := omega) only [nm, z_lit, z_one, z_mone, z_neg1, z_neg2, z_pred, z_add, z_mul, z_sub, z_le, z_lt, z_eq, z_tn, z_chk, z_eqm, z_meq, z_lem, z_mle, z_ltm, z_mlt, z_eqq, z_qeq, z_leq, z_qle, z_ltq, z_qlt, z_m1m2, z_m2m1, z_m1m1, z_m2m2, z_bnd1, z_bnd2, z_bnd3, z_bnd4, z_bnd5, z_bnd6, z_bnd7, z_bnd8, z_bnd9, z_bnd10, z_bnd11, z_bnd12, z_bnd13, z_bnd14, z_bnd15, z_bnd16, z_max, z_min, z_n31, z_shl, z_shr, z_us, z_div, z_mod, z_and, z_or, z_xor, if_true, if_false, h, tn4, es, t1, e1.1, h3]
/-- how many lengths of the lengths' code are told -/
def toldc (e : Nat → Nat) : Nat := um (fun i => e (tbn 4 i)) 4 19
theorem lcode_7 {c e : Nat → Nat} (h : lcode c e) : ∀ k, k < 19 → e k ≤ 7 := by
  obtain ⟨i, _, _, _, h⟩ := h; exact h
theorem s_makeCode (F : Nat) (ab od wt cc len : Nat → Int32) (c : Nat → Nat) (hF : 100000 ≤ F) (hc : ∀ s, s < 19 → c s ≤ 400) (hcc : ∀ s, s < 19 → cc s = nI (c s)) : ∃ (e : Nat → Nat) (ab' od' wt' cc' len' : Nat → Int32), m_LengthRow_makeCode F ab od wt cc len = some (ab', od', wt', nI (toldc e), cc', len') ∧ lcode c e ∧ (∀ s, s < 19 → len' s = nI (e s)) := by
  have s1 := sm_le c 0 400 19 (fun i _ h2 => hc i (by omega))
  obtain ⟨d, len1, ab1, od1, wt1, e1, H, g1⟩ := s_join F 19 cc len ab od wt c hcc (by omega) (by omega) hF
  obtain ⟨e, v, ab2, od2, wt2, cc2, len2, e2, H2, g2⟩ := l_mk10 F c hF hc F 0 ab1 od1 wt1 cc len1 d (by omega) (by omega) hcc g1 H (fun j hj => by omega)
  have l7 := lcode_7 H2
  have e3 := l_mk55 F len2 e (fun k hk => ⟨g2 k hk, by have := l7 k hk; omega⟩) F 19 (by omega) (by omega) (by omega)
  refine ⟨e, ab2, od2, wt2, cc2, len2, ?_, H2, g2⟩
  unfold m_LengthRow_makeCode
  simp only [e1, z_bnd4, z_lit, e2, z_bnd6, e3, z_bnd1]
  rfl
/-! the model's -/
theorem l_oc189 (F : Nat) : ∀ (f i : Nat) (q : Nat → Int32), i ≤ 19 → 19 - i < f → (∀ s, s < i → q s = nI 0) → ∃ q', L_MD_ownCodes_189 F f (nI i) q = some (nI 19, q') ∧ ∀ s, s < 19 → q' s = nI 0 := by
  intro f
  induction f with
  | zero => intro i q _ h; omega
  | succ f ih =>
    intro i q hi hf I
    unfold L_MD_ownCodes_189 B_MD_ownCodes_189
    by_cases h : 19 ≤ i
    · have e : i = 19 := by omega
      subst e
      exact ⟨q, by simp (disch := omega) only [nm, z_lit, z_one, z_mone, z_neg1, z_neg2, z_pred, z_add, z_mul, z_sub, z_le, z_lt, z_eq, z_tn, z_chk, z_eqm, z_meq, z_lem, z_mle, z_ltm, z_mlt, z_eqq, z_qeq, z_leq, z_qle, z_ltq, z_qlt, z_m1m2, z_m2m1, z_m1m1, z_m2m2, z_bnd1, z_bnd2, z_bnd3, z_bnd4, z_bnd5, z_bnd6, z_bnd7, z_bnd8, z_bnd9, z_bnd10, z_bnd11, z_bnd12, z_bnd13, z_bnd14, z_bnd15, z_bnd16, z_max, z_min, z_n31, z_shl, z_shr, z_us, z_div, z_mod, z_and, z_or, z_xor, if_true, if_false, Nat.le_refl], I⟩
    · simp (disch := omega) only [nm, z_lit, z_one, z_mone, z_neg1, z_neg2, z_pred, z_add, z_mul, z_sub, z_le, z_lt, z_eq, z_tn, z_chk, z_eqm, z_meq, z_lem, z_mle, z_ltm, z_mlt, z_eqq, z_qeq, z_leq, z_qle, z_ltq, z_qlt, z_m1m2, z_m2m1, z_m1m1, z_m2m2, z_bnd1, z_bnd2, z_bnd3, z_bnd4, z_bnd5, z_bnd6, z_bnd7, z_bnd8, z_bnd9, z_bnd10, z_bnd11, z_bnd12, z_bnd13, z_bnd14, z_bnd15, z_bnd16, z_max, z_min, z_n31, z_shl, z_shr, z_us, z_div, z_mod, z_and, z_or, z_xor, if_true, if_false, h]
      refine ih (i + 1) _ (by omega) (by omega) (fun s hs => ?_)
      by_cases e : s = i
      · rw [e, z_updE]
      · rw [z_updN e]; exact I s (by omega)
theorem rcnt_take (l : List (Nat × Nat)) {i : Nat} (hi : i < l.length) (s : Nat) : rcnt (l.take (i + 1)) s = rcnt (l.take i) s + (if s = (re_ l i).1 then 1 else 0) := by
  have e : l.take (i + 1) = l.take i ++ [re_ l i] := by
    unfold re_
    rw [List.take_add_one, List.getD_eq_getElem?_getD, List.getElem?_eq_getElem hi]
    rfl
  rw [e, rcnt_snoc]
theorem l_oc210 (F : Nat) (l : List (Nat × Nat)) (mo sy : Nat → Int32) (hl : l.length < 330) (hr : rok l) (C : mrow l mo sy) : ∀ (f i : Nat) (q : Nat → Int32), i ≤ l.length → l.length - i < f → (∀ s, s < 19 → q s = nI (rcnt (l.take i) s)) → ∃ q', L_MD_ownCodes_210 F (nI l.length) sy f (nI i) q = some (nI l.length, q') ∧ ∀ s, s < 19 → q' s = nI (rcnt l s) := by
  intro f
  induction f with
  | zero => intro i q _ h; omega
  | succ f ih =>
    intro i q hi hf I
    unfold L_MD_ownCodes_210 B_MD_ownCodes_210
    by_cases h : l.length ≤ i
    · have e : i = l.length := by omega
      subst e
      exact ⟨q, by simp (disch := omega) only [nm, z_lit, z_one, z_mone, z_neg1, z_neg2, z_pred, z_add, z_mul, z_sub, z_le, z_lt, z_eq, z_tn, z_chk, z_eqm, z_meq, z_lem, z_mle, z_ltm, z_mlt, z_eqq, z_qeq, z_leq, z_qle, z_ltq, z_qlt, z_m1m2, z_m2m1, z_m1m1, z_m2m2, z_bnd1, z_bnd2, z_bnd3, z_bnd4, z_bnd5, z_bnd6, z_bnd7, z_bnd8, z_bnd9, z_bnd10, z_bnd11, z_bnd12, z_bnd13, z_bnd14, z_bnd15, z_bnd16, z_max, z_min, z_n31, z_shl, z_shr, z_us, z_div, z_mod, z_and, z_or, z_xor, if_true, if_false, Nat.le_refl], fun s hs => by rw [I s hs, List.take_length]⟩
    · have r1 := rok_re hr (i := i) (by omega)
      have e1 := (C i (by omega)).2
      have e2 := I (re_ l i).1 r1.1
      simp (disch := omega) only [nm, z_lit, z_one, z_mone, z_neg1, z_neg2, z_pred, z_add, z_mul, z_sub, z_le, z_lt, z_eq, z_tn, z_chk, z_eqm, z_meq, z_lem, z_mle, z_ltm, z_mlt, z_eqq, z_qeq, z_leq, z_qle, z_ltq, z_qlt, z_m1m2, z_m2m1, z_m1m1, z_m2m2, z_bnd1, z_bnd2, z_bnd3, z_bnd4, z_bnd5, z_bnd6, z_bnd7, z_bnd8, z_bnd9, z_bnd10, z_bnd11, z_bnd12, z_bnd13, z_bnd14, z_bnd15, z_bnd16, z_max, z_min, z_n31, z_shl, z_shr, z_us, z_div, z_mod, z_and, z_or, z_xor, if_true, if_false, h, e1, e2]
      refine ih (i + 1) _ (by omega) (by omega) (fun s hs => ?_)
      rw [rcnt_take l (by omega)]
      by_cases e : s = (re_ l i).1
      · rw [e, z_updE, if_pos rfl]
      · rw [z_updN e, I s hs, if_neg e]; rfl
theorem l_oc262 (F : Nat) (c : Nat → Nat) (hc : ∀ s, s < 19 → c s ≤ 400) : ∀ (f i : Nat) (p : Nat → Int32), i ≤ 19 → 19 - i < f → (∀ s, s < 19 → p s = nI (if s < i then (c s + 1) / 2 else c s)) → ∃ p', L_MD_ownCodes_262 F f (nI i) p = some (nI 19, p') ∧ ∀ s, s < 19 → p' s = nI ((c s + 1) / 2) := by
  intro f
  induction f with
  | zero => intro i p _ h; omega
  | succ f ih =>
    intro i p hi hf I
    unfold L_MD_ownCodes_262 B_MD_ownCodes_262
    by_cases h : 19 ≤ i
    · have e : i = 19 := by omega
      subst e
      exact ⟨p, by simp (disch := omega) only [nm, z_lit, z_one, z_mone, z_neg1, z_neg2, z_pred, z_add, z_mul, z_sub, z_le, z_lt, z_eq, z_tn, z_chk, z_eqm, z_meq, z_lem, z_mle, z_ltm, z_mlt, z_eqq, z_qeq, z_leq, z_qle, z_ltq, z_qlt, z_m1m2, z_m2m1, z_m1m1, z_m2m2, z_bnd1, z_bnd2, z_bnd3, z_bnd4, z_bnd5, z_bnd6, z_bnd7, z_bnd8, z_bnd9, z_bnd10, z_bnd11, z_bnd12, z_bnd13, z_bnd14, z_bnd15, z_bnd16, z_max, z_min, z_n31, z_shl, z_shr, z_us, z_div, z_mod, z_and, z_or, z_xor, if_true, if_false, Nat.le_refl], fun s hs => by rw [I s hs, if_pos hs]⟩
    · have e1 := I i (by omega)
      rw [if_neg (by omega)] at e1
      have b1 := hc i (by omega)
      simp (disch := omega) only [nm, z_lit, z_one, z_mone, z_neg1, z_neg2, z_pred, z_add, z_mul, z_sub, z_le, z_lt, z_eq, z_tn, z_chk, z_eqm, z_meq, z_lem, z_mle, z_ltm, z_mlt, z_eqq, z_qeq, z_leq, z_qle, z_ltq, z_qlt, z_m1m2, z_m2m1, z_m1m1, z_m2m2, z_bnd1, z_bnd2, z_bnd3, z_bnd4, z_bnd5, z_bnd6, z_bnd7, z_bnd8, z_bnd9, z_bnd10, z_bnd11, z_bnd12, z_bnd13, z_bnd14, z_bnd15, z_bnd16, z_max, z_min, z_n31, z_shl, z_shr, z_us, z_div, z_mod, z_and, z_or, z_xor, if_true, if_false, h, e1]
      refine ih (i + 1) _ (by omega) (by omega) (fun s hs => ?_)
      by_cases e : s = i
      · rw [e, z_updE, if_pos (by omega)]
      · rw [z_updN e, I s hs]
        by_cases q : s < i
        · rw [if_pos q, if_pos (by omega)]
        · rw [if_neg q, if_neg (by omega)]
theorem l_isLong (F : Nat) (p : Nat → Int32) (L : Nat → Nat) (hp : ∀ j, j < 19 → p j = nI (L j) ∧ L j < 1000000) : ∀ (f i v : Nat), i ≤ 19 → 19 - i < f → v ≤ 1 → ∃ r, L_MD_isLong_4 F p f (nI v) (nI i) = some (nI r, nI 19) ∧ r ≤ 1 ∧ (r = 0 ↔ (v = 0 ∧ ∀ j, i ≤ j → j < 19 → L j ≤ 7)) := by
  intro f
  induction f with
  | zero => intro i v _ h; omega
  | succ f ih =>
    intro i v hi hf hv
    unfold L_MD_isLong_4 B_MD_isLong_4
    by_cases h : 19 ≤ i
    · have e : i = 19 := by omega
      subst e
      exact ⟨v, by simp (disch := omega) only [nm, z_lit, z_one, z_mone, z_neg1, z_neg2, z_pred, z_add, z_mul, z_sub, z_le, z_lt, z_eq, z_tn, z_chk, z_eqm, z_meq, z_lem, z_mle, z_ltm, z_mlt, z_eqq, z_qeq, z_leq, z_qle, z_ltq, z_qlt, z_m1m2, z_m2m1, z_m1m1, z_m2m2, z_bnd1, z_bnd2, z_bnd3, z_bnd4, z_bnd5, z_bnd6, z_bnd7, z_bnd8, z_bnd9, z_bnd10, z_bnd11, z_bnd12, z_bnd13, z_bnd14, z_bnd15, z_bnd16, z_max, z_min, z_n31, z_shl, z_shr, z_us, z_div, z_mod, z_and, z_or, z_xor, if_true, if_false, Nat.le_refl], hv, ⟨fun q => ⟨q, fun j h1 h2 => by omega⟩, fun q => q.1⟩⟩
    · obtain ⟨e1, b1⟩ := hp i (by omega)
      have fin : ∀ v', v' ≤ 1 → (v' = 0 ↔ (v = 0 ∧ L i ≤ 7)) → ∃ r, L_MD_isLong_4 F p f (nI v') (nI (i + 1)) = some (nI r, nI 19) ∧ r ≤ 1 ∧ (r = 0 ↔ (v = 0 ∧ ∀ j, i ≤ j → j < 19 → L j ≤ 7)) := fun v' hv' hq => by
        obtain ⟨r, g1, g2, g3⟩ := ih (i + 1) v' (by omega) (by omega) hv'
        refine ⟨r, g1, g2, g3.trans ?_⟩
        constructor
        · intro q
          have q1 := hq.mp q.1
          refine ⟨q1.1, fun j h1 h2 => ?_⟩
          by_cases e : j = i
          · subst e; exact q1.2
          · exact q.2 j (by omega) h2
        · intro q
          exact ⟨hq.mpr ⟨q.1, q.2 i (by omega) (by omega)⟩, fun j h1 h2 => q.2 j (by omega) h2⟩
      by_cases hv0 : v = 0
      · by_cases h7 : L i ≤ 7
        · obtain ⟨r, g1, g2, g3⟩ := fin 0 (by omega) ⟨fun _ => ⟨hv0, h7⟩, fun _ => rfl⟩
          refine ⟨r, ?_, g2, g3⟩
          simp (disch := omega) only [nm, z_lit, z_one, z_mone, z_neg1, z_neg2, z_pred, z_add, z_mul, z_sub, z_le, z_lt, z_eq, z_tn, z_chk, z_eqm, z_meq, z_lem, z_mle, z_ltm, z_mlt, z_eqq, z_qeq, z_leq, z_qle, z_ltq, z_qlt, z_m1m2, z_m2m1, z_m1m1, z_m2m2, z_bnd1, z_bnd2, z_bnd3, z_bnd4, z_bnd5, z_bnd6, z_bnd7, z_bnd8, z_bnd9, z_bnd10, z_bnd11, z_bnd12, z_bnd13, z_bnd14, z_bnd15, z_bnd16, z_max, z_min, z_n31, z_shl, z_shr, z_us, z_div, z_mod, z_and, z_or, z_xor, if_true, if_false, h, hv0, e1, h7]
          exact g1
        · obtain ⟨r, g1, g2, g3⟩ := fin 1 (by omega) ⟨fun q => by omega, fun q => by omega⟩
          refine ⟨r, ?_, g2, g3⟩
          simp (disch := omega) only [nm, z_lit, z_one, z_mone, z_neg1, z_neg2, z_pred, z_add, z_mul, z_sub, z_le, z_lt, z_eq, z_tn, z_chk, z_eqm, z_meq, z_lem, z_mle, z_ltm, z_mlt, z_eqq, z_qeq, z_leq, z_qle, z_ltq, z_qlt, z_m1m2, z_m2m1, z_m1m1, z_m2m2, z_bnd1, z_bnd2, z_bnd3, z_bnd4, z_bnd5, z_bnd6, z_bnd7, z_bnd8, z_bnd9, z_bnd10, z_bnd11, z_bnd12, z_bnd13, z_bnd14, z_bnd15, z_bnd16, z_max, z_min, z_n31, z_shl, z_shr, z_us, z_div, z_mod, z_and, z_or, z_xor, if_true, if_false, h, hv0, e1, h7]
          exact g1
      · obtain ⟨r, g1, g2, g3⟩ := fin 1 (by omega) ⟨fun q => by omega, fun q => by omega⟩
        refine ⟨r, ?_, g2, g3⟩
        simp (disch := omega) only [nm, z_lit, z_one, z_mone, z_neg1, z_neg2, z_pred, z_add, z_mul, z_sub, z_le, z_lt, z_eq, z_tn, z_chk, z_eqm, z_meq, z_lem, z_mle, z_ltm, z_mlt, z_eqq, z_qeq, z_leq, z_qle, z_ltq, z_qlt, z_m1m2, z_m2m1, z_m1m1, z_m2m2, z_bnd1, z_bnd2, z_bnd3, z_bnd4, z_bnd5, z_bnd6, z_bnd7, z_bnd8, z_bnd9, z_bnd10, z_bnd11, z_bnd12, z_bnd13, z_bnd14, z_bnd15, z_bnd16, z_max, z_min, z_n31, z_shl, z_shr, z_us, z_div, z_mod, z_and, z_or, z_xor, if_true, if_false, h, hv0]
        exact g1
theorem z_isb {v : Nat} (h : v ≤ 1) : isb (nI v) = true := by
  have : v = 0 ∨ v = 1 := by omega
  rcases this with rfl | rfl <;> decide
theorem s_isLong (F : Nat) (p : Nat → Int32) (L : Nat → Nat) (hF : 100000 ≤ F) (hp : ∀ j, j < 19 → p j = nI (L j) ∧ L j < 1000000) : ∃ r, m_MD_isLong F p = some (nI r) ∧ r ≤ 1 ∧ (r = 0 ↔ ∀ j, j < 19 → L j ≤ 7) := by
  obtain ⟨r, e1, b1, g1⟩ := l_isLong F p L hp F 0 0 (by omega) (by omega) (by omega)
  refine ⟨r, ?_, b1, g1.trans ⟨fun q j hj => q.2 j (by omega) hj, fun q => ⟨rfl, fun j _ hj => q j hj⟩⟩⟩
  unfold m_MD_isLong
  simp only [z_lit, e1, z_bnd2, z_isb b1, chk]
theorem l_oc253 (F : Nat) (c e : Nat → Nat) (n : Nat) (hF : 100000 ≤ F) (hc : ∀ s, s < 19 → c s ≤ 400) (hn : n < 10) (J : ∀ j, j < n → ∃ d, huff (hlv c j) 19 d ∧ (∀ k, k < 19 → d k ≤ 1000) ∧ ∃ k, k < 19 ∧ 7 < d k) (H : huff (hlv c n) 19 e) (h7 : ∀ k, k < 19 → e k ≤ 7) : ∀ (f i : Nat) (cc len up wt : Nat → Int32), i ≤ n → n - i < f → (∀ s, s < 19 → cc s = nI (hlv c i s)) → (∀ d, huff (hlv c i) 19 d → ∀ s, s < 19 → len s = nI (d s)) → ∃ cc' len' up' wt', L_MD_ownCodes_253 F f cc len up wt = some (cc', len', up', wt') ∧ (∀ s, s < 19 → len' s = nI (e s)) := by
  intro f
  induction f with
  | zero => intro i cc len up wt _ h; omega
  | succ f ih =>
    intro i cc len up wt hi hf hcc hlen
    unfold L_MD_ownCodes_253 B_MD_ownCodes_253
    by_cases h : i = n
    · subst h
      have hl := hlen e H
      obtain ⟨r, e1, b1, g1⟩ := s_isLong F len e hF (fun j hj => ⟨hl j hj, by have := h7 j hj; omega⟩)
      have r0 : r = 0 := g1.mpr h7
      subst r0
      exact ⟨cc, len, up, wt, by simp (disch := omega) only [nm, z_lit, z_one, z_mone, z_neg1, z_neg2, z_pred, z_add, z_mul, z_sub, z_le, z_lt, z_eq, z_tn, z_chk, z_eqm, z_meq, z_lem, z_mle, z_ltm, z_mlt, z_eqq, z_qeq, z_leq, z_qle, z_ltq, z_qlt, z_m1m2, z_m2m1, z_m1m1, z_m2m2, z_bnd1, z_bnd2, z_bnd3, z_bnd4, z_bnd5, z_bnd6, z_bnd7, z_bnd8, z_bnd9, z_bnd10, z_bnd11, z_bnd12, z_bnd13, z_bnd14, z_bnd15, z_bnd16, z_max, z_min, z_n31, z_shl, z_shr, z_us, z_div, z_mod, z_and, z_or, z_xor, if_true, if_false, e1], hl⟩
    · obtain ⟨d, Hd, bd, k, hk, hk7⟩ := J i (by omega)
      have hl := hlen d Hd
      obtain ⟨r, e1, b1, g1⟩ := s_isLong F len d hF (fun j hj => ⟨hl j hj, by have := bd j hj; omega⟩)
      have r0 : ¬ (r = 0) := fun q => by have := g1.mp q k hk; omega
      have hcB := hlv_le hc i
      obtain ⟨cc1, e2, g2⟩ := l_oc262 F (hlv c i) hcB F 0 cc (by omega) (by omega) (fun s hs => by rw [hcc s hs, if_neg (by omega)])
      have hcB' := hlv_le hc (i + 1)
      have s1 := sm_le (hlv c (i + 1)) 0 400 19 (fun i _ h2 => hcB' i (by omega))
      have Hn : ∃ d', huff (hlv c (i + 1)) 19 d' := by
        by_cases q : i + 1 = n
        · exact ⟨e, by rw [q]; exact H⟩
        · obtain ⟨d', H', _⟩ := J (i + 1) (by omega); exact ⟨d', H'⟩
      obtain ⟨d', Hd'⟩ := Hn
      obtain ⟨len1, up1, wt1, e3, g3⟩ := s_mjoin F 19 19 19 cc1 len up wt (hlv c (i + 1)) d' g2 (by omega) (by omega) (by omega) (by omega) (by omega) (by omega) hF Hd'
      simp (disch := omega) only [nm, z_lit, z_one, z_mone, z_neg1, z_neg2, z_pred, z_add, z_mul, z_sub, z_le, z_lt, z_eq, z_tn, z_chk, z_eqm, z_meq, z_lem, z_mle, z_ltm, z_mlt, z_eqq, z_qeq, z_leq, z_qle, z_ltq, z_qlt, z_m1m2, z_m2m1, z_m1m1, z_m2m2, z_bnd1, z_bnd2, z_bnd3, z_bnd4, z_bnd5, z_bnd6, z_bnd7, z_bnd8, z_bnd9, z_bnd10, z_bnd11, z_bnd12, z_bnd13, z_bnd14, z_bnd15, z_bnd16, z_max, z_min, z_n31, z_shl, z_shr, z_us, z_div, z_mod, z_and, z_or, z_xor, if_true, if_false, e1, r0, e2, e3]
      refine ih (i + 1) cc1 len1 up1 wt1 (by omega) (by omega) g2 (fun d2 H2 s hs => ?_)
      rw [g3 s hs]
      have b1 := huff_1000 Hd' hcB' s hs
      have b2 := huff_1000 H2 hcB' s hs
      rw [huff_uniq Hd' H2 (by omega) (by omega) (by omega) s hs (by omega) (by omega)]
theorem l_oc313 (F : Nat) (len : Nat → Int32) (e : Nat → Nat) (he : ∀ k, k < 19 → len k = nI (e k) ∧ e k < 1000000) : ∀ (f k : Nat), 4 ≤ k → k ≤ 19 → k < f → L_MD_ownCodes_313 F len f (nI k) = some (nI (um (fun i => e (tbn 4 i)) 4 k)) := by
  intro f
  induction f with
  | zero => intro k _ _ h; omega
  | succ f ih =>
    intro k h1 h2 hf
    obtain ⟨j, rfl⟩ : ∃ j, k = j + 1 := ⟨k - 1, by omega⟩
    unfold L_MD_ownCodes_313 B_MD_ownCodes_313
    rw [um]
    by_cases h : j + 1 ≤ 4
    · simp (disch := omega) only [nm, z_lit, z_one, z_mone, z_neg1, z_neg2, z_pred, z_add, z_mul, z_sub, z_le, z_lt, z_eq, z_tn, z_chk, z_eqm, z_meq, z_lem, z_mle, z_ltm, z_mlt, z_eqq, z_qeq, z_leq, z_qle, z_ltq, z_qlt, z_m1m2, z_m2m1, z_m1m1, z_m2m2, z_bnd1, z_bnd2, z_bnd3, z_bnd4, z_bnd5, z_bnd6, z_bnd7, z_bnd8, z_bnd9, z_bnd10, z_bnd11, z_bnd12, z_bnd13, z_bnd14, z_bnd15, z_bnd16, z_max, z_min, z_n31, z_shl, z_shr, z_us, z_div, z_mod, z_and, z_or, z_xor, if_true, if_false, h]
    · obtain ⟨t1, t2⟩ := tb4 j (by omega)
      have t3 := s_order F j (by omega)
      have e1 := he (tbn 4 j) t2
      have es : j + 1 - 1 = j := by omega
      by_cases h3 : e (tbn 4 j) = 0
      · simp (disch := omega) only [nm, z_lit, z_one, z_mone, z_neg1, z_neg2, z_pred, z_add, z_mul, z_sub, z_le, z_lt, z_eq, z_tn, z_chk, z_eqm, z_meq, z_lem, z_mle, z_ltm, z_mlt, z_eqq, z_qeq, z_leq, z_qle, z_ltq, z_qlt, z_m1m2, z_m2m1, z_m1m1, z_m2m2, z_bnd1, z_bnd2, z_bnd3, z_bnd4, z_bnd5, z_bnd6, z_bnd7, z_bnd8, z_bnd9, z_bnd10, z_bnd11, z_bnd12, z_bnd13, z_bnd14, z_bnd15, z_bnd16, z_max, z_min, z_n31, z_shl, z_shr, z_us, z_div, z_mod, z_and, z_or, z_xor, if_true, if_false, h, es, t3, e1.1, h3]
        exact ih j (by omega) (by omega) (by omega)
      · simp (disch := omega) only [nm, z_lit, z_one, z_mone, z_neg1, z_neg2, z_pred, z_add, z_mul, z_sub, z_le, z_lt, z_eq, z_tn, z_chk, z_eqm, z_meq, z_lem, z_mle, z_ltm, z_mlt, z_eqq, z_qeq, z_leq, z_qle, z_ltq, z_qlt, z_m1m2, z_m2m1, z_m1m1, z_m2m2, z_bnd1, z_bnd2, z_bnd3, z_bnd4, z_bnd5, z_bnd6, z_bnd7, z_bnd8, z_bnd9, z_bnd10, z_bnd11, z_bnd12, z_bnd13, z_bnd14, z_bnd15, z_bnd16, z_max, z_min, z_n31, z_shl, z_shr, z_us, z_div, z_mod, z_and, z_or, z_xor, if_true, if_false, h, es, t3, e1.1, h3]
