/-! joining: the class's mirrors -/
theorem l_join2 (F N m : Nat) (p od : Nat → Int32) (c o : Nat → Nat) (hp : ∀ j, j < N → p j = nI (c j)) (ho : ∀ i, i < m → od i = nI (o i) ∧ o i < N) (hN : N ≤ 286) (hm : m ≤ 286) : ∀ (f i : Nat) (q : Nat → Int32), i ≤ m → m - i < f → ∃ q', L_Joiner_joinInOrder_2 F N p od (nI m) f (nI i) q = some (nI m, q') ∧ ∀ x, q' x = if i ≤ x ∧ x < m then nI (c (o x)) else q x := by
  intro f
  induction f with
  | zero => intro i q _ h; omega
  | succ f ih =>
    intro i q hi hf
    unfold L_Joiner_joinInOrder_2 B_Joiner_joinInOrder_2
    by_cases h : m ≤ i
    · have e : i = m := by omega
      subst e
      exact ⟨q, by simp (disch := omega) only [nm, z_lit, z_one, z_mone, z_neg1, z_neg2, z_pred, z_add, z_mul, z_sub, z_le, z_lt, z_eq, z_tn, z_chk, z_eqm, z_meq, z_lem, z_mle, z_ltm, z_mlt, z_eqq, z_qeq, z_leq, z_qle, z_ltq, z_qlt, z_m1m2, z_m2m1, z_m1m1, z_m2m2, z_bnd1, z_bnd2, z_bnd3, z_bnd4, z_bnd5, z_bnd6, z_bnd7, z_bnd8, z_bnd9, z_bnd10, z_bnd11, z_bnd12, z_bnd13, z_bnd14, z_bnd15, z_bnd16, z_max, z_min, z_n31, z_shl, z_shr, z_us, z_div, z_mod, z_and, z_or, z_xor, if_true, if_false, Nat.le_refl], fun x => by rw [if_neg (by omega)]⟩
    · obtain ⟨e1, e2⟩ := ho i (by omega)
      have e3 := hp (o i) e2
      simp (disch := omega) only [nm, z_lit, z_one, z_mone, z_neg1, z_neg2, z_pred, z_add, z_mul, z_sub, z_le, z_lt, z_eq, z_tn, z_chk, z_eqm, z_meq, z_lem, z_mle, z_ltm, z_mlt, z_eqq, z_qeq, z_leq, z_qle, z_ltq, z_qlt, z_m1m2, z_m2m1, z_m1m1, z_m2m2, z_bnd1, z_bnd2, z_bnd3, z_bnd4, z_bnd5, z_bnd6, z_bnd7, z_bnd8, z_bnd9, z_bnd10, z_bnd11, z_bnd12, z_bnd13, z_bnd14, z_bnd15, z_bnd16, z_max, z_min, z_n31, z_shl, z_shr, z_us, z_div, z_mod, z_and, z_or, z_xor, if_true, if_false, h, e1, e3]
      obtain ⟨q', g1, g2⟩ := ih (i + 1) (upd q i (nI (c (o i)))) (by omega) (by omega)
      refine ⟨q', g1, fun x => ?_⟩
      rw [g2 x]
      by_cases h1 : i + 1 ≤ x ∧ x < m
      · rw [if_pos h1, if_pos (by omega)]
      · rw [if_neg h1]
        by_cases h2 : x = i
        · subst h2; rw [if_pos (by omega), z_updE]
        · rw [if_neg (by omega), z_updN h2]
/-- the inner loop: one pick -/
theorem b_join56 (F m M s j h : Nat) (w : Nat → Nat) (q g : Nat → Int32) (v : Nat) (rec : Int32 → Int32 → Int32 → (Nat → Int32) → (Nat → Int32) → Option (Int32 × Int32 × Int32 × (Nat → Int32) × (Nat → Int32))) (hh : h < 2) (hM : M < 572) (hs : s ≤ m) (hj : j ≤ M) (hm : m ≤ M) (hq : ∀ i, i < M → q i = nI (w i)) (hqM : q M = nI v) (hw : ∀ i, i < M → w i < 1000000) (hav : s < m ∨ j < M) : ∃ z s' j', pick w m M s j z s' j' ∧ z < M ∧ B_Joiner_joinInOrder_56 F (nI M) (nI m) rec (nI s) (nI j) (nI h) g q = rec (nI s') (nI j') (nI (h + 1)) (upd g z (nI M)) (upd q M (nI (v + w z))) := by
  unfold B_Joiner_joinInOrder_56
  have n2 : ¬ (2 ≤ h) := by omega
  by_cases h1 : m ≤ s
  · refine ⟨j, s, j + 1, Or.inr ⟨rfl, by omega, by omega, rfl, rfl⟩, by omega, ?_⟩
    have e1 := hq j (by omega)
    simp (disch := omega) only [nm, z_lit, z_one, z_mone, z_neg1, z_neg2, z_pred, z_add, z_mul, z_sub, z_le, z_lt, z_eq, z_tn, z_chk, z_eqm, z_meq, z_lem, z_mle, z_ltm, z_mlt, z_eqq, z_qeq, z_leq, z_qle, z_ltq, z_qlt, z_m1m2, z_m2m1, z_m1m1, z_m2m2, z_bnd1, z_bnd2, z_bnd3, z_bnd4, z_bnd5, z_bnd6, z_bnd7, z_bnd8, z_bnd9, z_bnd10, z_bnd11, z_bnd12, z_bnd13, z_bnd14, z_bnd15, z_bnd16, z_max, z_min, z_n31, z_shl, z_shr, z_us, z_div, z_mod, z_and, z_or, z_xor, if_true, if_false, n2, h1, hqM, e1]
  · by_cases h2 : M ≤ j
    · refine ⟨s, s + 1, j, Or.inl ⟨rfl, by omega, by omega, rfl, rfl⟩, by omega, ?_⟩
      have e1 := hq s (by omega)
      simp (disch := omega) only [nm, z_lit, z_one, z_mone, z_neg1, z_neg2, z_pred, z_add, z_mul, z_sub, z_le, z_lt, z_eq, z_tn, z_chk, z_eqm, z_meq, z_lem, z_mle, z_ltm, z_mlt, z_eqq, z_qeq, z_leq, z_qle, z_ltq, z_qlt, z_m1m2, z_m2m1, z_m1m1, z_m2m2, z_bnd1, z_bnd2, z_bnd3, z_bnd4, z_bnd5, z_bnd6, z_bnd7, z_bnd8, z_bnd9, z_bnd10, z_bnd11, z_bnd12, z_bnd13, z_bnd14, z_bnd15, z_bnd16, z_max, z_min, z_n31, z_shl, z_shr, z_us, z_div, z_mod, z_and, z_or, z_xor, if_true, if_false, n2, h1, h2, hqM, e1]
    · have e1 := hq s (by omega)
      have e2 := hq j (by omega)
      have b1 := hw s (by omega)
      have b2 := hw j (by omega)
      by_cases h3 : w j < w s
      · refine ⟨j, s, j + 1, Or.inr ⟨rfl, by omega, by omega, rfl, rfl⟩, by omega, ?_⟩
        simp (disch := omega) only [nm, z_lit, z_one, z_mone, z_neg1, z_neg2, z_pred, z_add, z_mul, z_sub, z_le, z_lt, z_eq, z_tn, z_chk, z_eqm, z_meq, z_lem, z_mle, z_ltm, z_mlt, z_eqq, z_qeq, z_leq, z_qle, z_ltq, z_qlt, z_m1m2, z_m2m1, z_m1m1, z_m2m2, z_bnd1, z_bnd2, z_bnd3, z_bnd4, z_bnd5, z_bnd6, z_bnd7, z_bnd8, z_bnd9, z_bnd10, z_bnd11, z_bnd12, z_bnd13, z_bnd14, z_bnd15, z_bnd16, z_max, z_min, z_n31, z_shl, z_shr, z_us, z_div, z_mod, z_and, z_or, z_xor, if_true, if_false, n2, h1, h2, h3, hqM, e1, e2]
      · refine ⟨s, s + 1, j, Or.inl ⟨rfl, by omega, by omega, rfl, rfl⟩, by omega, ?_⟩
        simp (disch := omega) only [nm, z_lit, z_one, z_mone, z_neg1, z_neg2, z_pred, z_add, z_mul, z_sub, z_le, z_lt, z_eq, z_tn, z_chk, z_eqm, z_meq, z_lem, z_mle, z_ltm, z_mlt, z_eqq, z_qeq, z_leq, z_qle, z_ltq, z_qlt, z_m1m2, z_m2m1, z_m1m1, z_m2m2, z_bnd1, z_bnd2, z_bnd3, z_bnd4, z_bnd5, z_bnd6, z_bnd7, z_bnd8, z_bnd9, z_bnd10, z_bnd11, z_bnd12, z_bnd13, z_bnd14, z_bnd15, z_bnd16, z_max, z_min, z_n31, z_shl, z_shr, z_us, z_div, z_mod, z_and, z_or, z_xor, if_true, if_false, n2, h1, h2, h3, hqM, e1, e2]
theorem l_join56 (F m M s j f : Nat) (w : Nat → Nat) (q g : Nat → Int32) (hM : M < 572) (hs : s ≤ m) (hj : j ≤ M) (hm : m ≤ M) (hq : ∀ i, i < M → q i = nI (w i)) (hqM : q M = nI 0) (hw : ∀ i, i < M → w i < 1000000) (hav : 2 ≤ (m - s) + (M - j)) : ∃ x y s1 j1 s2 j2, pick w m M s j x s1 j1 ∧ pick w m M s1 j1 y s2 j2 ∧ x < M ∧ y < M ∧ L_Joiner_joinInOrder_56 F (nI M) (nI m) (f + 3) (nI s) (nI j) (nI 0) g q = some (nI s2, nI j2, nI 2, upd (upd g x (nI M)) y (nI M), upd (upd q M (nI (0 + w x))) M (nI (0 + w x + w y))) := by
  obtain ⟨x, s1, j1, p1, hx, e1⟩ := b_join56 F m M s j 0 w q g 0 (L_Joiner_joinInOrder_56 F (nI M) (nI m) (f + 2)) (by omega) hM hs hj hm hq hqM hw (by omega)
  have hs1 : s1 ≤ m ∧ j1 ≤ M ∧ (m - s1) + (M - j1) + 1 = (m - s) + (M - j) := by rcases p1 with ⟨_, _, _, rfl, rfl⟩ | ⟨_, _, _, rfl, rfl⟩ <;> omega
  obtain ⟨y, s2, j2, p2, hy, e2⟩ := b_join56 F m M s1 j1 1 w (upd q M (nI (0 + w x))) (upd g x (nI M)) (0 + w x) (L_Joiner_joinInOrder_56 F (nI M) (nI m) (f + 1)) (by omega) hM hs1.1 hs1.2.1 hm (fun i hi => by rw [z_updN (by omega)]; exact hq i hi) z_updE hw (by omega)
  refine ⟨x, y, s1, j1, s2, j2, p1, p2, hx, hy, ?_⟩
  have u1 : L_Joiner_joinInOrder_56 F (nI M) (nI m) (f + 3) (nI s) (nI j) (nI 0) g q = B_Joiner_joinInOrder_56 F (nI M) (nI m) (L_Joiner_joinInOrder_56 F (nI M) (nI m) (f + 2)) (nI s) (nI j) (nI 0) g q := rfl
  rw [u1, e1]
  have u2 : L_Joiner_joinInOrder_56 F (nI M) (nI m) (f + 2) (nI s1) (nI j1) (nI (0 + 1)) (upd g x (nI M)) (upd q M (nI (0 + w x))) = B_Joiner_joinInOrder_56 F (nI M) (nI m) (L_Joiner_joinInOrder_56 F (nI M) (nI m) (f + 1)) (nI s1) (nI j1) (nI 1) (upd g x (nI M)) (upd q M (nI (0 + w x))) := rfl
  rw [u2, e2]
  unfold L_Joiner_joinInOrder_56 B_Joiner_joinInOrder_56
  simp (disch := omega) only [nm, z_lit, z_one, z_mone, z_neg1, z_neg2, z_pred, z_add, z_mul, z_sub, z_le, z_lt, z_eq, z_tn, z_chk, z_eqm, z_meq, z_lem, z_mle, z_ltm, z_mlt, z_eqq, z_qeq, z_leq, z_qle, z_ltq, z_qlt, z_m1m2, z_m2m1, z_m1m1, z_m2m2, z_bnd1, z_bnd2, z_bnd3, z_bnd4, z_bnd5, z_bnd6, z_bnd7, z_bnd8, z_bnd9, z_bnd10, z_bnd11, z_bnd12, z_bnd13, z_bnd14, z_bnd15, z_bnd16, z_max, z_min, z_n31, z_shl, z_shr, z_us, z_div, z_mod, z_and, z_or, z_xor, if_true, if_false, Nat.le_refl]
/-- the main loop -/
theorem l_join35 (F m n T : Nat) (c o : Nat → Nat) (H : srt c o m n) (hn : n ≤ 286) (hT : T < 1000000) (hF : 100000 ≤ F) : ∀ (f t s j : Nat) (w a : Nat → Nat) (q g : Nat → Int32), m - 1 - t < f → jiv c o w a m n T t s j → (∀ i, i < m + t → q i = nI (w i)) → (∀ i, (i < s ∨ (m ≤ i ∧ i < j)) → g i = nI (a i)) → ∃ w' a' s' j' g' q', L_Joiner_joinInOrder_35 F (nI m) f (nI s) (nI j) (nI (m + t)) g q = some (nI s', nI j', nI (2 * m - 1), g', q') ∧ jiv c o w' a' m n T (m - 1) s' j' ∧ (∀ i, (i < s' ∨ (m ≤ i ∧ i < j')) → g' i = nI (a' i)) := by
  intro f
  induction f with
  | zero => intro t s j w a q g h; omega
  | succ f ih =>
    intro t s j w a q g hf I hq hg
    have I' := I
    obtain ⟨i1, i2, i3, i4, i5, i6, i7, i8, i9, i10, i11, i12, i13⟩ := I'
    have hmn := H.2.2.2.1
    have hwB : ∀ i, i < m + t → w i < 1000000 := fun i hi => by have := i13 i hi; omega
    unfold L_Joiner_joinInOrder_35 B_Joiner_joinInOrder_35
    by_cases h : 2 * m - 1 ≤ m + t
    · have e : t = m - 1 := by omega
      subst e
      refine ⟨w, a, s, j, g, q, ?_, I, hg⟩
      have e2 : m + (m - 1) = 2 * m - 1 := by omega
      rw [e2]
      simp (disch := omega) only [nm, z_lit, z_one, z_mone, z_neg1, z_neg2, z_pred, z_add, z_mul, z_sub, z_le, z_lt, z_eq, z_tn, z_chk, z_eqm, z_meq, z_lem, z_mle, z_ltm, z_mlt, z_eqq, z_qeq, z_leq, z_qle, z_ltq, z_qlt, z_m1m2, z_m2m1, z_m1m1, z_m2m2, z_bnd1, z_bnd2, z_bnd3, z_bnd4, z_bnd5, z_bnd6, z_bnd7, z_bnd8, z_bnd9, z_bnd10, z_bnd11, z_bnd12, z_bnd13, z_bnd14, z_bnd15, z_bnd16, z_max, z_min, z_n31, z_shl, z_shr, z_us, z_div, z_mod, z_and, z_or, z_xor, if_true, if_false, Nat.le_refl]
    · simp (disch := omega) only [nm, z_lit, z_one, z_mone, z_neg1, z_neg2, z_pred, z_add, z_mul, z_sub, z_le, z_lt, z_eq, z_tn, z_chk, z_eqm, z_meq, z_lem, z_mle, z_ltm, z_mlt, z_eqq, z_qeq, z_leq, z_qle, z_ltq, z_qlt, z_m1m2, z_m2m1, z_m1m1, z_m2m2, z_bnd1, z_bnd2, z_bnd3, z_bnd4, z_bnd5, z_bnd6, z_bnd7, z_bnd8, z_bnd9, z_bnd10, z_bnd11, z_bnd12, z_bnd13, z_bnd14, z_bnd15, z_bnd16, z_max, z_min, z_n31, z_shl, z_shr, z_us, z_div, z_mod, z_and, z_or, z_xor, if_true, if_false, h]
      obtain ⟨F', rfl⟩ : ∃ F', F = F' + 3 := ⟨F - 3, by omega⟩
      obtain ⟨x, y, s1, j1, s2, j2, p1, p2, hx, hy, e1⟩ := l_join56 (F' + 3) m (m + t) s j F' w (upd q (m + t) (nI 0)) g (by omega) i1 i3 (by omega) (fun i hi => by rw [z_updN (by omega)]; exact hq i hi) z_updE hwB (by omega)
      simp (disch := omega) only [nm, z_lit, z_one, z_mone, z_neg1, z_neg2, z_pred, z_add, z_mul, z_sub, z_le, z_lt, z_eq, z_tn, z_chk, z_eqm, z_meq, z_lem, z_mle, z_ltm, z_mlt, z_eqq, z_qeq, z_leq, z_qle, z_ltq, z_qlt, z_m1m2, z_m2m1, z_m1m1, z_m2m2, z_bnd1, z_bnd2, z_bnd3, z_bnd4, z_bnd5, z_bnd6, z_bnd7, z_bnd8, z_bnd9, z_bnd10, z_bnd11, z_bnd12, z_bnd13, z_bnd14, z_bnd15, z_bnd16, z_max, z_min, z_n31, z_shl, z_shr, z_us, z_div, z_mod, z_and, z_or, z_xor, if_true, if_false, e1]
      have hb : s2 ≤ m ∧ j2 ≤ m + t ∧ (∀ i, (i < s2 ∨ (m ≤ i ∧ i < j2)) → (i < s ∨ (m ≤ i ∧ i < j)) ∨ i = x ∨ i = y) := by
        refine ⟨?_, ?_, fun i => ?_⟩ <;> rcases p1 with ⟨rfl, _, _, rfl, rfl⟩ | ⟨rfl, _, _, rfl, rfl⟩ <;> rcases p2 with ⟨rfl, _, _, rfl, rfl⟩ | ⟨rfl, _, _, rfl, rfl⟩ <;> omega
      have e3 : m + t + 1 = m + (t + 1) := by omega
      rw [e3]
      refine ih (t + 1) s2 j2 _ _ _ _ (by omega) (jiv_step H (by omega) I (by omega) p1 p2) (fun i hi => ?_) (fun i hi => ?_)
      · by_cases e : i = m + t
        · subst e; rw [z_updE, updN_e]; congr 1; omega
        · rw [z_updN e, z_updN e, z_updN e, updN_n e]; exact hq i (by omega)
      · by_cases ey : i = y
        · subst ey; rw [z_updE, updN_e]
        · rw [z_updN ey, updN_n ey]
          by_cases ex : i = x
          · subst ex; rw [z_updE, updN_e]
          · rw [z_updN ex, updN_n ex]; exact hg i (by rcases hb.2.2 i hi with h | h | h <;> first | exact h | contradiction)
