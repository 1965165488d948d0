/-! joining: the model's lengths; how long they can be -/
theorem l_mjoin9 (F N P n : Nat) (p : Nat → Int32) (c : Nat → Nat) (hp : ∀ j, j < n → p j = nI (c j)) (hcB : ∀ j, j < n → c j < 1000000) (hN : n ≤ N) (hP : n ≤ P) (hn : n ≤ 300) : ∀ (f i : Nat) (len up wt : Nat → Int32), i ≤ n → n - i < f → (∀ k, k < i → wt k = nI (c k) ∧ (up k = if c k = 0 then m1 else nI 0) ∧ len k = nI 0) → ∃ len' up' wt', L_MD_join_9 F N P p (nI n) f (nI (cn c i)) (nI i) len up wt = some (nI (cn c n), nI n, len', up', wt') ∧ (∀ k, k < n → wt' k = nI (c k) ∧ (up' k = if c k = 0 then m1 else nI 0) ∧ len' k = nI 0) := by
  intro f
  induction f with
  | zero => intro i len up wt _ h; omega
  | succ f ih =>
    intro i len up wt hi hf I
    unfold L_MD_join_9 B_MD_join_9
    by_cases h : n ≤ i
    · have e : i = n := by omega
      subst e
      exact ⟨len, up, wt, by simp (disch := omega) only [nm, z_lit, z_one, z_mone, z_neg1, z_neg2, z_pred, z_add, z_mul, z_sub, z_le, z_lt, z_eq, z_tn, z_chk, z_eqm, z_meq, z_lem, z_mle, z_ltm, z_mlt, z_eqq, z_qeq, z_leq, z_qle, z_ltq, z_qlt, z_m1m2, z_m2m1, z_m1m1, z_m2m2, z_bnd1, z_bnd2, z_bnd3, z_bnd4, z_bnd5, z_bnd6, z_bnd7, z_bnd8, z_bnd9, z_bnd10, z_bnd11, z_bnd12, z_bnd13, z_bnd14, z_bnd15, z_bnd16, z_max, z_min, z_n31, z_shl, z_shr, z_us, z_div, z_mod, z_and, z_or, z_xor, if_true, if_false, Nat.le_refl], I⟩
    · have e1 := hp i (by omega)
      have b1 := hcB i (by omega)
      have key : ∀ (z : Int32), z = (if c i = 0 then m1 else nI 0) → ∀ k, k < i + 1 → upd wt i (nI (c i)) k = nI (c k) ∧ (upd up i z k = if c k = 0 then m1 else nI 0) ∧ upd len i (nI 0) k = nI 0 := fun z hz k hk => by
        by_cases e : k = i
        · subst e; rw [z_updE, z_updE, z_updE]; exact ⟨rfl, hz, rfl⟩
        · rw [z_updN e, z_updN e, z_updN e]; exact I k (by omega)
      by_cases hc : c i = 0
      · have ec : cn c (i + 1) = cn c i := by rw [cn, if_pos hc]; rfl
        have e2 : (c i ≤ 0) = True := eq_true (by omega)
        simp (disch := omega) only [nm, z_lit, z_one, z_mone, z_neg1, z_neg2, z_pred, z_add, z_mul, z_sub, z_le, z_lt, z_eq, z_tn, z_chk, z_eqm, z_meq, z_lem, z_mle, z_ltm, z_mlt, z_eqq, z_qeq, z_leq, z_qle, z_ltq, z_qlt, z_m1m2, z_m2m1, z_m1m1, z_m2m2, z_bnd1, z_bnd2, z_bnd3, z_bnd4, z_bnd5, z_bnd6, z_bnd7, z_bnd8, z_bnd9, z_bnd10, z_bnd11, z_bnd12, z_bnd13, z_bnd14, z_bnd15, z_bnd16, z_max, z_min, z_n31, z_shl, z_shr, z_us, z_div, z_mod, z_and, z_or, z_xor, if_true, if_false, h, e1, e2]
        rw [← ec]
        exact ih (i + 1) _ _ _ (by omega) (by omega) (key m1 (by rw [if_pos hc]))
      · have ec : cn c (i + 1) = cn c i + 1 := by rw [cn, if_neg hc]
        have e2 : (c i ≤ 0) = False := eq_false (by omega)
        simp (disch := omega) only [nm, z_lit, z_one, z_mone, z_neg1, z_neg2, z_pred, z_add, z_mul, z_sub, z_le, z_lt, z_eq, z_tn, z_chk, z_eqm, z_meq, z_lem, z_mle, z_ltm, z_mlt, z_eqq, z_qeq, z_leq, z_qle, z_ltq, z_qlt, z_m1m2, z_m2m1, z_m1m1, z_m2m2, z_bnd1, z_bnd2, z_bnd3, z_bnd4, z_bnd5, z_bnd6, z_bnd7, z_bnd8, z_bnd9, z_bnd10, z_bnd11, z_bnd12, z_bnd13, z_bnd14, z_bnd15, z_bnd16, z_max, z_min, z_n31, z_shl, z_shr, z_us, z_div, z_mod, z_and, z_or, z_xor, if_true, if_false, h, e1, e2]
        rw [← ec]
        exact ih (i + 1) _ _ _ (by omega) (by omega) (key (nI 0) (by rw [if_neg hc]))
/-- one symbol's depth, no tree above it -/
theorem l_mjoin185z (F N k : Nat) (p up : Nat → Int32) (c f : Nat) (hk : k < N) (hN : N ≤ 600) (hp : p k = nI c) (hc : c < 1000000) (h : c = 0 ∨ up k = nI 0) (hf : 0 < f) : L_MD_join_185 F N p up (nI k) f (nI 0) (nI k) = some (nI 0, nI k) := by
  obtain ⟨g, rfl⟩ : ∃ g, f = g + 1 := ⟨f - 1, by omega⟩
  unfold L_MD_join_185 B_MD_join_185
  by_cases h0 : c ≤ 0
  · simp (disch := omega) only [nm, z_lit, z_one, z_mone, z_neg1, z_neg2, z_pred, z_add, z_mul, z_sub, z_le, z_lt, z_eq, z_tn, z_chk, z_eqm, z_meq, z_lem, z_mle, z_ltm, z_mlt, z_eqq, z_qeq, z_leq, z_qle, z_ltq, z_qlt, z_m1m2, z_m2m1, z_m1m1, z_m2m2, z_bnd1, z_bnd2, z_bnd3, z_bnd4, z_bnd5, z_bnd6, z_bnd7, z_bnd8, z_bnd9, z_bnd10, z_bnd11, z_bnd12, z_bnd13, z_bnd14, z_bnd15, z_bnd16, z_max, z_min, z_n31, z_shl, z_shr, z_us, z_div, z_mod, z_and, z_or, z_xor, if_true, if_false, hp, h0]
  · have h1 : up k = nI 0 := by rcases h with h | h
                                · omega
                                · exact h
    simp (disch := omega) only [nm, z_lit, z_one, z_mone, z_neg1, z_neg2, z_pred, z_add, z_mul, z_sub, z_le, z_lt, z_eq, z_tn, z_chk, z_eqm, z_meq, z_lem, z_mle, z_ltm, z_mlt, z_eqq, z_qeq, z_leq, z_qle, z_ltq, z_qlt, z_m1m2, z_m2m1, z_m1m1, z_m2m2, z_bnd1, z_bnd2, z_bnd3, z_bnd4, z_bnd5, z_bnd6, z_bnd7, z_bnd8, z_bnd9, z_bnd10, z_bnd11, z_bnd12, z_bnd13, z_bnd14, z_bnd15, z_bnd16, z_max, z_min, z_n31, z_shl, z_shr, z_us, z_div, z_mod, z_and, z_or, z_xor, if_true, if_false, hp, h0, h1, Nat.le_refl]
theorem l_mjoin185 (F N k m n : Nat) (p up : Nat → Int32) (c o a : Nat → Nat) (H : srt c o m n) (hk : k < N) (hN : N ≤ 600) (hn : n ≤ 300) (hn0 : 0 < n) (hm : 2 ≤ m) (hp : p k = nI (c k)) (hc : 0 < c k) (hcB : c k < 1000000) (t3 : ∀ i, i < 2 * m - 2 → i < a i ∧ m ≤ a i ∧ a i < 2 * m - 1) (t6 : 2 * m ≤ a (2 * m - 2)) (hu : ∀ i, i < 2 * m - 1 → up (sg o m n i) = if a i < 2 * m - 1 then nI (sg o m n (a i)) else nI 0) : ∀ (f i d : Nat), i ≤ 2 * m - 2 → 2 * m - 2 - i < f → d ≤ i → L_MD_join_185 F N p up (nI k) f (nI d) (nI (sg o m n i)) = some (nI (d + dpt a (2 * m - 2) i), nI (sg o m n (2 * m - 2))) := by
  have hmn := H.2.2.2.1
  have ha2 : ∀ i, i < 2 * m - 2 → i < a i ∧ a i ≤ 2 * m - 2 := fun i hi => by have := t3 i hi; omega
  intro f
  induction f with
  | zero => intro i d _ h; omega
  | succ f ih =>
    intro i d hi hf hd
    have b := sg_lt H (i := i) (t := m - 1) (by omega)
    have e1 := hu i (by omega)
    have hc0 : ¬ (c k ≤ 0) := by omega
    unfold L_MD_join_185 B_MD_join_185
    by_cases h : i = 2 * m - 2
    · subst h
      rw [if_neg (by omega)] at e1
      simp (disch := omega) only [nm, z_lit, z_one, z_mone, z_neg1, z_neg2, z_pred, z_add, z_mul, z_sub, z_le, z_lt, z_eq, z_tn, z_chk, z_eqm, z_meq, z_lem, z_mle, z_ltm, z_mlt, z_eqq, z_qeq, z_leq, z_qle, z_ltq, z_qlt, z_m1m2, z_m2m1, z_m1m1, z_m2m2, z_bnd1, z_bnd2, z_bnd3, z_bnd4, z_bnd5, z_bnd6, z_bnd7, z_bnd8, z_bnd9, z_bnd10, z_bnd11, z_bnd12, z_bnd13, z_bnd14, z_bnd15, z_bnd16, z_max, z_min, z_n31, z_shl, z_shr, z_us, z_div, z_mod, z_and, z_or, z_xor, if_true, if_false, hp, hc0, e1, Nat.le_refl, dpt_r, Nat.add_zero]
    · have q := t3 i (by omega)
      rw [if_pos (by omega)] at e1
      have b2 := sg_lt H (i := a i) (t := m - 1) (by omega)
      have b3 : ¬ (sg o m n (a i) ≤ 0) := by unfold sg; rw [if_neg (by omega)]; omega
      simp (disch := omega) only [nm, z_lit, z_one, z_mone, z_neg1, z_neg2, z_pred, z_add, z_mul, z_sub, z_le, z_lt, z_eq, z_tn, z_chk, z_eqm, z_meq, z_lem, z_mle, z_ltm, z_mlt, z_eqq, z_qeq, z_leq, z_qle, z_ltq, z_qlt, z_m1m2, z_m2m1, z_m1m1, z_m2m2, z_bnd1, z_bnd2, z_bnd3, z_bnd4, z_bnd5, z_bnd6, z_bnd7, z_bnd8, z_bnd9, z_bnd10, z_bnd11, z_bnd12, z_bnd13, z_bnd14, z_bnd15, z_bnd16, z_max, z_min, z_n31, z_shl, z_shr, z_us, z_div, z_mod, z_and, z_or, z_xor, if_true, if_false, hp, hc0, e1, b3]
      rw [ih (a i) (d + 1) (by omega) (by omega) (by omega), dpt_s ha2 (i := i) (by omega)]
      congr 3; omega
theorem l_mjoin172 (F N P n : Nat) (p up : Nat → Int32) (c d : Nat → Nat) (z : Nat) (hp : ∀ j, j < n → p j = nI (c j)) (hcB : ∀ j, j < n → c j < 1000000) (hN : n ≤ N) (hP : n ≤ P) (hn : n ≤ 300) (hF : 100000 ≤ F) (hz : z = 0 ∨ z = 1) (hd : ∀ k, k < n → ∃ v, ∃ r : Int32, L_MD_join_185 F N p up (nI k) F (nI 0) (nI k) = some (nI v, r) ∧ d k = if 0 < c k ∧ z = 1 then 1 else v) : ∀ (f i : Nat) (len : Nat → Int32), i ≤ n → n - i < f → (∀ k, k < i → len k = nI (d k)) → ∃ len', L_MD_join_172 F N P p up (nI n) (nI z) f (nI i) len = some (nI n, len') ∧ (∀ k, k < n → len' k = nI (d k)) := by
  intro f
  induction f with
  | zero => intro i len _ h; omega
  | succ f ih =>
    intro i len hi hf I
    unfold L_MD_join_172 B_MD_join_172
    by_cases h : n ≤ i
    · have e : i = n := by omega
      subst e
      exact ⟨len, by simp (disch := omega) only [nm, z_lit, z_one, z_mone, z_neg1, z_neg2, z_pred, z_add, z_mul, z_sub, z_le, z_lt, z_eq, z_tn, z_chk, z_eqm, z_meq, z_lem, z_mle, z_ltm, z_mlt, z_eqq, z_qeq, z_leq, z_qle, z_ltq, z_qlt, z_m1m2, z_m2m1, z_m1m1, z_m2m2, z_bnd1, z_bnd2, z_bnd3, z_bnd4, z_bnd5, z_bnd6, z_bnd7, z_bnd8, z_bnd9, z_bnd10, z_bnd11, z_bnd12, z_bnd13, z_bnd14, z_bnd15, z_bnd16, z_max, z_min, z_n31, z_shl, z_shr, z_us, z_div, z_mod, z_and, z_or, z_xor, if_true, if_false, Nat.le_refl], I⟩
    · have e1 := hp i (by omega)
      have b1 := hcB i (by omega)
      obtain ⟨v, r, e2, e3⟩ := hd i (by omega)
      have key : ∀ (z' : Int32), z' = nI (d i) → ∀ k, k < i + 1 → upd len i z' k = nI (d k) := fun z' hz k hk => by
        by_cases e : k = i
        · subst e; rw [z_updE]; exact hz
        · rw [z_updN e]; exact I k (by omega)
      by_cases hc : c i ≤ 0
      · simp (disch := omega) only [nm, z_lit, z_one, z_mone, z_neg1, z_neg2, z_pred, z_add, z_mul, z_sub, z_le, z_lt, z_eq, z_tn, z_chk, z_eqm, z_meq, z_lem, z_mle, z_ltm, z_mlt, z_eqq, z_qeq, z_leq, z_qle, z_ltq, z_qlt, z_m1m2, z_m2m1, z_m1m1, z_m2m2, z_bnd1, z_bnd2, z_bnd3, z_bnd4, z_bnd5, z_bnd6, z_bnd7, z_bnd8, z_bnd9, z_bnd10, z_bnd11, z_bnd12, z_bnd13, z_bnd14, z_bnd15, z_bnd16, z_max, z_min, z_n31, z_shl, z_shr, z_us, z_div, z_mod, z_and, z_or, z_xor, if_true, if_false, h, e1, e2, hc]
        rw [if_neg (by omega)] at e3
        exact ih (i + 1) _ (by omega) (by omega) (key _ (by rw [e3]))
      · by_cases hz0 : z = 0
        · simp (disch := omega) only [nm, z_lit, z_one, z_mone, z_neg1, z_neg2, z_pred, z_add, z_mul, z_sub, z_le, z_lt, z_eq, z_tn, z_chk, z_eqm, z_meq, z_lem, z_mle, z_ltm, z_mlt, z_eqq, z_qeq, z_leq, z_qle, z_ltq, z_qlt, z_m1m2, z_m2m1, z_m1m1, z_m2m2, z_bnd1, z_bnd2, z_bnd3, z_bnd4, z_bnd5, z_bnd6, z_bnd7, z_bnd8, z_bnd9, z_bnd10, z_bnd11, z_bnd12, z_bnd13, z_bnd14, z_bnd15, z_bnd16, z_max, z_min, z_n31, z_shl, z_shr, z_us, z_div, z_mod, z_and, z_or, z_xor, if_true, if_false, h, e1, e2, hc, hz0]
          rw [if_neg (by omega)] at e3
          rw [hz0] at ih
          exact ih (i + 1) _ (by omega) (by omega) (key _ (by rw [e3]))
        · have hz1 : z = 1 := by omega
          subst hz1
          have n1 : ¬ (1 = 0) := by omega
          simp (disch := omega) only [nm, z_lit, z_one, z_mone, z_neg1, z_neg2, z_pred, z_add, z_mul, z_sub, z_le, z_lt, z_eq, z_tn, z_chk, z_eqm, z_meq, z_lem, z_mle, z_ltm, z_mlt, z_eqq, z_qeq, z_leq, z_qle, z_ltq, z_qlt, z_m1m2, z_m2m1, z_m1m1, z_m2m2, z_bnd1, z_bnd2, z_bnd3, z_bnd4, z_bnd5, z_bnd6, z_bnd7, z_bnd8, z_bnd9, z_bnd10, z_bnd11, z_bnd12, z_bnd13, z_bnd14, z_bnd15, z_bnd16, z_max, z_min, z_n31, z_shl, z_shr, z_us, z_div, z_mod, z_and, z_or, z_xor, if_true, if_false, h, e1, e2, hc, n1]
          rw [if_pos (by omega)] at e3
          exact ih (i + 1) _ (by omega) (by omega) (key _ (by rw [e3]))
/-- the model's join -/
theorem s_mjoin (F N P n : Nat) (p len up wt : Nat → Int32) (c d : Nat → Nat) (hp : ∀ j, j < n → p j = nI (c j)) (hT : sm c 0 n < 1000000) (hN : n ≤ N) (hN6 : N ≤ 600) (hP : n ≤ P) (hn : n ≤ 300) (hn0 : 0 < n) (hF : 100000 ≤ F) (hh : huff c n d) : ∃ len' up' wt', m_MD_join F N P p len up wt (nI n) = some (len', up', wt') ∧ (∀ k, k < n → len' k = nI (d k)) := by
  have hcB : ∀ j, j < n → c j < 1000000 := fun j hj => Nat.lt_of_le_of_lt (sm_mem (w := c) (a := 0) (k := n) (i := j) (by omega) (by omega)) hT
  obtain ⟨o, m, H, h1, h2, h3⟩ := hh
  have hmn := H.2.2.2.1
  have hmc := H.2.2.2.2.2
  obtain ⟨len1, up1, wt1, e1, k1⟩ := l_mjoin9 F N P n p c hp hcB hN hP hn F 0 len up wt (by omega) (by omega) (fun k h => by omega)
  have cn0 : cn c 0 = 0 := rfl
  rw [cn0] at e1
  unfold m_MD_join
  simp only [z_lit, e1, z_bnd5]
  rw [← hmc]
  by_cases hm : 2 ≤ m
  · obtain ⟨w, a, T, hd⟩ := h3 hm
    have T' := T
    obtain ⟨t1, t2, t3, t4, t5, t6⟩ := T'
    have n1 : ¬ (m = 1) := by omega
    have ini : miv c o w a m n 0 up1 wt1 := by
      refine ⟨fun i hi => ?_, fun i hi => ?_, fun k hk hc => ?_⟩
      · have b := (H.2.1 i (by omega)).1
        unfold sg
        rw [if_pos (by omega), (k1 _ b).1, t1 i (by omega)]
      · have b := H.2.1 i (by omega)
        have q := (t3 i (by omega)).2.1
        rw [if_neg (by omega)]
        unfold sg
        rw [if_pos (by omega), (k1 _ b.1).2.1, if_neg (by omega)]
      · rw [(k1 k hk).2.1, if_pos hc]
    obtain ⟨up2, wt2, e2, J⟩ := l_mjoin87 F m n c o w a H hn hn0 hm hF T hT F 0 up1 wt1 (by omega) (by omega) ini
    obtain ⟨j1, j2, j3⟩ := J
    rw [Nat.add_zero, Nat.sub_zero] at e2
    have em : m + (m - 1) = 2 * m - 1 := by omega
    rw [em] at j1 j2
    have hd' : ∀ k, k < n → ∃ v, ∃ r : Int32, L_MD_join_185 F N p up2 (nI k) F (nI 0) (nI k) = some (nI v, r) ∧ d k = if 0 < c k ∧ 0 = 1 then 1 else v := fun k hk => by
      by_cases hc : c k = 0
      · exact ⟨0, _, l_mjoin185z F N k p up2 0 F (by omega) hN6 (by rw [hp k hk, hc]) (by omega) (Or.inl rfl) (by omega), by rw [if_neg (by omega)]; exact h1 k hk hc⟩
      · obtain ⟨i, hi, rfl⟩ := H.2.2.1 k hk (by omega)
        have q := l_mjoin185 F N (o i) m n p up2 c o a H (by omega) hN6 hn hn0 hm (hp _ hk) (by omega) (hcB _ hk) t3 t6 j2 F i 0 (by omega) (by omega) (by omega)
        have es : sg o m n i = o i := by unfold sg; rw [if_pos hi]
        rw [es, Nat.zero_add] at q
        exact ⟨_, _, q, by rw [if_neg (by omega)]; exact hd i hi⟩
    obtain ⟨len3, e3, k3⟩ := l_mjoin172 F N P n p up2 c d 0 hp hcB hN hP hn hF (Or.inl rfl) hd' F 0 len1 (by omega) (by omega) (fun k h => by omega)
    refine ⟨len3, up2, wt2, ?_, k3⟩
    simp (disch := omega) only [nm, z_lit, z_one, z_mone, z_neg1, z_neg2, z_pred, z_add, z_mul, z_sub, z_le, z_lt, z_eq, z_tn, z_chk, z_eqm, z_meq, z_lem, z_mle, z_ltm, z_mlt, z_eqq, z_qeq, z_leq, z_qle, z_ltq, z_qlt, z_m1m2, z_m2m1, z_m1m1, z_m2m2, z_bnd1, z_bnd2, z_bnd3, z_bnd4, z_bnd5, z_bnd6, z_bnd7, z_bnd8, z_bnd9, z_bnd10, z_bnd11, z_bnd12, z_bnd13, z_bnd14, z_bnd15, z_bnd16, z_max, z_min, z_n31, z_shl, z_shr, z_us, z_div, z_mod, z_and, z_or, z_xor, if_true, if_false, n1, e2, e3]
  · have e2 : L_MD_join_87 F F (nI n) (nI m) up1 wt1 = some (nI n, nI m, up1, wt1) := by
      obtain ⟨F', rfl⟩ : ∃ F', F = F' + 1 := ⟨F - 1, by omega⟩
      show B_MD_join_87 (F' + 1) (L_MD_join_87 (F' + 1) F') (nI n) (nI m) up1 wt1 = _
      unfold B_MD_join_87
      have q : m ≤ 1 := by omega
      simp (disch := omega) only [nm, z_lit, z_one, z_mone, z_neg1, z_neg2, z_pred, z_add, z_mul, z_sub, z_le, z_lt, z_eq, z_tn, z_chk, z_eqm, z_meq, z_lem, z_mle, z_ltm, z_mlt, z_eqq, z_qeq, z_leq, z_qle, z_ltq, z_qlt, z_m1m2, z_m2m1, z_m1m1, z_m2m2, z_bnd1, z_bnd2, z_bnd3, z_bnd4, z_bnd5, z_bnd6, z_bnd7, z_bnd8, z_bnd9, z_bnd10, z_bnd11, z_bnd12, z_bnd13, z_bnd14, z_bnd15, z_bnd16, z_max, z_min, z_n31, z_shl, z_shr, z_us, z_div, z_mod, z_and, z_or, z_xor, if_true, if_false, q]
    have hv : ∀ k, k < n → L_MD_join_185 F N p up1 (nI k) F (nI 0) (nI k) = some (nI 0, nI k) := fun k hk =>
      l_mjoin185z F N k p up1 (c k) F (by omega) hN6 (hp k hk) (hcB k hk) (by
        by_cases hc : c k = 0
        · exact Or.inl hc
        · exact Or.inr (by rw [(k1 k hk).2.1, if_neg hc])) (by omega)
    by_cases hm1 : m = 1
    · subst hm1
      obtain ⟨len3, e3, k3⟩ := l_mjoin172 F N P n p up1 c d 1 hp hcB hN hP hn hF (Or.inr rfl) (fun k hk => ⟨0, _, hv k hk, by
        by_cases hc : c k = 0
        · rw [if_neg (by omega)]; exact h1 k hk hc
        · rw [if_pos (by omega)]
          obtain ⟨i, hi, rfl⟩ := H.2.2.1 k hk (by omega)
          have : i = 0 := by omega
          subst this
          exact h2 rfl⟩) F 0 len1 (by omega) (by omega) (fun k h => by omega)
      refine ⟨len3, up1, wt1, ?_, k3⟩
      simp (disch := omega) only [nm, z_lit, z_one, z_mone, z_neg1, z_neg2, z_pred, z_add, z_mul, z_sub, z_le, z_lt, z_eq, z_tn, z_chk, z_eqm, z_meq, z_lem, z_mle, z_ltm, z_mlt, z_eqq, z_qeq, z_leq, z_qle, z_ltq, z_qlt, z_m1m2, z_m2m1, z_m1m1, z_m2m2, z_bnd1, z_bnd2, z_bnd3, z_bnd4, z_bnd5, z_bnd6, z_bnd7, z_bnd8, z_bnd9, z_bnd10, z_bnd11, z_bnd12, z_bnd13, z_bnd14, z_bnd15, z_bnd16, z_max, z_min, z_n31, z_shl, z_shr, z_us, z_div, z_mod, z_and, z_or, z_xor, if_true, if_false, e2, e3]
    · obtain ⟨len3, e3, k3⟩ := l_mjoin172 F N P n p up1 c d 0 hp hcB hN hP hn hF (Or.inl rfl) (fun k hk => ⟨0, _, hv k hk, by
        rw [if_neg (by omega)]
        by_cases hc : c k = 0
        · exact h1 k hk hc
        · obtain ⟨i, hi, _⟩ := H.2.2.1 k hk (by omega)
          omega⟩) F 0 len1 (by omega) (by omega) (fun k h => by omega)
      refine ⟨len3, up1, wt1, ?_, k3⟩
      simp (disch := omega) only [nm, z_lit, z_one, z_mone, z_neg1, z_neg2, z_pred, z_add, z_mul, z_sub, z_le, z_lt, z_eq, z_tn, z_chk, z_eqm, z_meq, z_lem, z_mle, z_ltm, z_mlt, z_eqq, z_qeq, z_leq, z_qle, z_ltq, z_qlt, z_m1m2, z_m2m1, z_m1m1, z_m2m2, z_bnd1, z_bnd2, z_bnd3, z_bnd4, z_bnd5, z_bnd6, z_bnd7, z_bnd8, z_bnd9, z_bnd10, z_bnd11, z_bnd12, z_bnd13, z_bnd14, z_bnd15, z_bnd16, z_max, z_min, z_n31, z_shl, z_shr, z_us, z_div, z_mod, z_and, z_or, z_xor, if_true, if_false, e2, e3, hm1]
/-- what was joined last weighs this at least -/
def fb : Nat → Nat
  | 0 => 1
  | 1 => 2
  | k + 2 => fb (k + 1) + fb k
theorem fb_pos : ∀ k, 1 ≤ fb k
  | 0 => by decide
  | 1 => by decide
  | k + 2 => by have := fb_pos (k + 1); rw [fb]; omega
theorem fb_mono (k : Nat) : fb k ≤ fb (k + 1) := by
  cases k with
  | zero => decide
  | succ k => rw [fb]; omega
theorem fb_le {a b : Nat} (h : a ≤ b) : fb a ≤ fb b := by
  induction b with
  | zero => have : a = 0 := by omega
            subst this; exact Nat.le_refl _
  | succ b ih =>
    by_cases e : a = b + 1
    · rw [e]; exact Nat.le_refl _
    · exact Nat.le_trans (ih (by omega)) (fb_mono b)
theorem htree_late {c o w a : Nat → Nat} {m n : Nat} (H : srt c o m n) (T : htree c o w a m n) {t x y : Nat} (ht : t + 1 < m) (J : jst w a o m n t x y) : ∀ (k i : Nat), i < k → i < 2 * m - 1 → (m + t ≤ i ∨ m + t < a i) → w y ≤ w i := by
  obtain ⟨t1, t2, t3, t4, t5, t6⟩ := T
  obtain ⟨g1, g2, g3, g4, g5, g6, g7, g8⟩ := J
  intro k
  induction k with
  | zero => intro i h; omega
  | succ k ih =>
    intro i hik hi hor
    by_cases h1 : i < m + t
    · have h2 : m + t < a i := by omega
      rcases g8 i h1 (fun e => by rw [e] at h2; omega) (fun e => by rw [e] at h2; omega) with q | ⟨_, q⟩
      · omega
      · unfold pc_ at q; omega
    · by_cases h2 : i = m + t
      · rw [h2, g6]; omega
      · obtain ⟨x', y', f1, f2, f3, f4, f5, f6, f7, f8⟩ := t2 (i - m) (by omega)
        have e : m + (i - m) = i := by omega
        rw [e] at f1 f2 f4 f5 f6
        have := ih y' (by omega) (by omega) (Or.inr (by omega))
        omega
theorem htree_grand {c o w a : Nat → Nat} {m n : Nat} (H : srt c o m n) (T : htree c o w a m n) {i : Nat} (h1 : i < 2 * m - 2) (h2 : a i < 2 * m - 2) : w (a i) + w i ≤ w (a (a i)) := by
  have T' := T
  obtain ⟨t1, t2, t3, t4, t5, t6⟩ := T'
  have q1 := t3 i h1
  have q2 := t3 (a i) h2
  obtain ⟨x, y, J⟩ := t2 (a i - m) (by omega)
  have J' := J
  obtain ⟨g1, g2, g3, g4, g5, g6, g7, g8⟩ := J'
  obtain ⟨x', y', f1, f2, f3, f4, f5, f6, f7, f8⟩ := t2 (a (a i) - m) (by omega)
  have e : m + (a i - m) = a i := by omega
  have e' : m + (a (a i) - m) = a (a i) := by omega
  rw [e] at g1 g2 g4 g5 g6
  rw [e'] at f1 f2 f4 f5 f6
  have hi : w i ≤ w y := by
    by_cases ex : i = x
    · rw [ex]; unfold pc_ at g7; omega
    · by_cases ey : i = y
      · rw [ey]; exact Nat.le_refl _
      · rcases g8 i (by omega) ex ey with q | ⟨q, _⟩ <;> omega
  have late := htree_late H T (t := a i - m) (by omega) J
  have hp : a i = x' ∨ a i = y' := by
    by_cases ex : a i = x'
    · exact Or.inl ex
    · by_cases ey : a i = y'
      · exact Or.inr ey
      · rcases f8 (a i) (by omega) ex ey with q | ⟨q, _⟩ <;> omega
  rcases hp with hp | hp
  · have := late (y' + 1) y' (by omega) (by omega) (Or.inr (by omega))
    rw [f6, ← hp]; omega
  · have := late (x' + 1) x' (by omega) (by omega) (Or.inr (by omega))
    rw [f6, ← hp]; omega
/-- a node from which k joins lead to i weighs little enough -/
theorem htree_fb {c o w a : Nat → Nat} {m n : Nat} (H : srt c o m n) (T : htree c o w a m n) (hm : 2 ≤ m) : ∀ (k i : Nat), i ≤ 2 * m - 2 → dpt a (2 * m - 2) i = k → fb k * 1 ≤ sm c 0 n := by
  have T' := T
  obtain ⟨t1, t2, t3, t4, t5, t6⟩ := T'
  have ha2 : ∀ i, i < 2 * m - 2 → i < a i ∧ a i ≤ 2 * m - 2 := fun i hi => by have := t3 i hi; omega
  have hpos : ∀ (k i : Nat), i < k → i < 2 * m - 1 → 1 ≤ w i := by
    intro k
    induction k with
    | zero => intro i h; omega
    | succ k ih =>
      intro i h1 h2
      by_cases h : i < m
      · rw [t1 i h]; exact (H.2.1 i h).2
      · obtain ⟨x', y', f1, f2, f3, f4, f5, f6, f7, f8⟩ := t2 (i - m) (by omega)
        have e : m + (i - m) = i := by omega
        rw [e] at f1 f2 f6
        have := ih x' (by omega) (by omega)
        omega
  -- along the way up
  have up : ∀ (k j i : Nat), i ≤ 2 * m - 2 → dpt a (2 * m - 2) i = k → ∀ (u v : Nat), fb j ≤ w i → (i < 2 * m - 2 → fb (j + 1) ≤ w (a i)) → fb (j + k) ≤ w (2 * m - 2) := by
    intro k
    induction k with
    | zero =>
      intro j i hi hd u v h1 h2
      by_cases e : i = 2 * m - 2
      · rw [← e]; exact h1
      · rw [dpt_s ha2 (by omega)] at hd; omega
    | succ k ih =>
      intro j i hi hd u v h1 h2
      by_cases e : i = 2 * m - 2
      · rw [e, dpt_r] at hd; omega
      · have q := ha2 i (by omega)
        rw [dpt_s ha2 (by omega)] at hd
        have e2 : j + (k + 1) = j + 1 + k := by omega
        rw [e2]
        refine ih (j + 1) (a i) q.2 (by omega) 0 0 (h2 (by omega)) (fun h3 => ?_)
        have := htree_grand H T (i := i) (by omega) h3
        have := h2 (by omega)
        rw [fb]; omega
  intro k i hi hd
  have := up k 0 i hi hd 0 0 (hpos (i + 1) i (by omega) (by omega)) (fun h => by
    have q := t3 i h
    obtain ⟨x', y', f1, f2, f3, f4, f5, f6, f7, f8⟩ := t2 (a i - m) (by omega)
    have e : m + (a i - m) = a i := by omega
    rw [e] at f1 f2 f6
    have p1 := hpos (x' + 1) x' (by omega) (by omega)
    have p2 := hpos (y' + 1) y' (by omega) (by omega)
    show 2 ≤ _
    omega)
  rw [Nat.zero_add, t4] at this
  omega
/-- a length of a code whose counts are T together -/
theorem huff_le {c d : Nat → Nat} {n : Nat} (h : huff c n d) (L : Nat) (hL : sm c 0 n < fb (L + 1)) (h1 : 1 ≤ L) : ∀ k, k < n → d k ≤ L := by
  intro k hk
  obtain ⟨o, m, H, g1, g2, g3⟩ := h
  by_cases hc : c k = 0
  · rw [g1 k hk hc]; omega
  · obtain ⟨i, hi, rfl⟩ := H.2.2.1 k hk (by omega)
    by_cases hm : 2 ≤ m
    · obtain ⟨w, a, T, hd⟩ := g3 hm
      rw [hd i hi]
      have := htree_fb H T hm _ i (by omega) rfl
      by_cases q : dpt a (2 * m - 2) i ≤ L
      · exact q
      · have := fb_le (a := L + 1) (b := dpt a (2 * m - 2) i) (by omega)
        omega
    · have e : m = 1 := by omega
      subst e
      have e0 : i = 0 := by omega
      subst e0
      rw [g2 rfl]; exact h1
/-- two sets of lengths for the same counts are the same -/
theorem huff_uniq {c d d' : Nat → Nat} {n : Nat} (h : huff c n d) (h' : huff c n d') (hn : n ≤ 300) (hn0 : 0 < n) (hT : sm c 0 n < 1000000) : ∀ k, k < n → d k < 100000 → d' k < 100000 → d k = d' k := by
  intro k hk b1 b2
  obtain ⟨l1, u1, w1, e1, q1⟩ := s_mjoin 100000 n n n (fun j => nI (c j)) (fun _ => 0) (fun _ => 0) (fun _ => 0) c d (fun _ _ => rfl) hT (Nat.le_refl _) (by omega) (Nat.le_refl _) hn hn0 (Nat.le_refl _) h
  obtain ⟨l2, u2, w2, e2, q2⟩ := s_mjoin 100000 n n n (fun j => nI (c j)) (fun _ => 0) (fun _ => 0) (fun _ => 0) c d' (fun _ _ => rfl) hT (Nat.le_refl _) (by omega) (Nat.le_refl _) hn hn0 (Nat.le_refl _) h'
  rw [e1] at e2
  have e3 : l1 = l2 := by injection e2 with e2; exact congrArg Prod.fst e2
  have := (q1 k hk).symm.trans ((congrFun e3 k).trans (q2 k hk))
  exact z_inj (by omega) (by omega) this
