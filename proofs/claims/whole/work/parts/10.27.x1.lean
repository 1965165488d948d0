/-! the codes' numbers -/
def nl (L : Nat → Nat) (m : Nat) : Nat → Nat
  | 0 => 0
  | i + 1 => nl L m i + (if L i = m then 1 else 0)
def cs (L : Nat → Nat) (n : Nat) : Nat → Nat
  | 0 => 0
  | 1 => 0
  | m + 2 => 2 * (cs L n (m + 1) + nl L (m + 1) n)
def cde (L : Nat → Nat) (n s : Nat) : Nat := cs L n (L s) + nl L (L s) s
theorem nl_le (L : Nat → Nat) (m : Nat) : ∀ i, nl L m i ≤ i := by
  intro i
  induction i with
  | zero => exact Nat.le_refl _
  | succ i ih => rw [nl]; split <;> omega
theorem cs_le (L : Nat → Nat) (n : Nat) (hn : n ≤ 300) : ∀ m, cs L n m ≤ (2 ^ m - 1) * 600
  | 0 => by rw [cs]; omega
  | 1 => by rw [cs]; omega
  | m + 2 => by
    have ih := cs_le L n hn (m + 1)
    have := nl_le L (m + 1) n
    have p : 1 ≤ 2 ^ (m + 1) := Nat.one_le_two_pow
    rw [cs, Nat.pow_succ 2 (m + 1)]
    omega
theorem cs_lt (L : Nat → Nat) (n : Nat) (hn : n ≤ 300) (m : Nat) (hm : m ≤ 16) : cs L n m < 50000000 := by
  have h := cs_le L n hn m
  have : 2 ^ m ≤ 2 ^ 16 := Nat.pow_le_pow_right (by omega) hm
  omega
theorem nl_congr {L L' : Nat → Nat} {m : Nat} : ∀ i, (∀ s, s < i → L s = L' s) → nl L m i = nl L' m i := by
  intro i
  induction i with
  | zero => intro _; rfl
  | succ i ih => intro h; rw [nl, nl, ih (fun s hs => h s (by omega)), h i (by omega)]
theorem cs_congr {L L' : Nat → Nat} {n n' : Nat} (h : ∀ m, 1 ≤ m → nl L m n = nl L' m n') : ∀ m, cs L n m = cs L' n' m
  | 0 => rfl
  | 1 => rfl
  | m + 2 => by rw [cs, cs, cs_congr h (m + 1), h (m + 1) (by omega)]
theorem nl_ext {L : Nat → Nat} {m n : Nat} (hm : 1 ≤ m) : ∀ e, (∀ s, n ≤ s → s < n + e → L s = 0) → nl L m (n + e) = nl L m n := by
  intro e
  induction e with
  | zero => intro _; rfl
  | succ e ih =>
    intro h
    show nl L m (n + e + 1) = _
    rw [nl, ih (fun s h1 h2 => h s h1 (by omega)), h (n + e) (by omega) (by omega), if_neg (by omega)]
    rfl
/-- the numbers don't change if symbols without a code come behind -/
theorem cde_ext {L : Nat → Nat} {n N : Nat} (hn : n ≤ N) {s : Nat} (hs : s < n) : cde (fun k => if k < n then L k else 0) N s = cde L n s := by
  obtain ⟨e, rfl⟩ : ∃ e, N = n + e := ⟨N - n, by omega⟩
  unfold cde
  have e1 : (fun k => if k < n then L k else 0) s = L s := if_pos hs
  rw [e1]
  congr 1
  · refine cs_congr (fun m hm => ?_) _
    rw [nl_ext hm e (fun s h1 h2 => if_neg (by omega))]
    exact nl_congr n (fun s hs => if_pos hs)
  · exact nl_congr s (fun t ht => if_pos (by omega))
theorem l_gc10 (F N : Nat) (p : Nat → Int32) (L : Nat → Nat) (hN : N ≤ 300) (hp : ∀ k, k < N → p k = nI (L k) ∧ L k ≤ 15) : ∀ (f i : Nat) (q : Nat → Int32), i ≤ N → N - i < f → (∀ m, m < 17 → q m = nI (if m ≤ 1 then 0 else nl L (m - 1) i)) → ∃ q', L_Writer_giveCodes_10 F N p f (nI i) q = some (nI N, q') ∧ ∀ m, m < 17 → q' m = nI (if m ≤ 1 then 0 else nl L (m - 1) N) := by
  intro f
  induction f with
  | zero => intro i q _ h; omega
  | succ f ih =>
    intro i q hi hf I
    unfold L_Writer_giveCodes_10 B_Writer_giveCodes_10
    by_cases h : N ≤ i
    · have e : i = N := by omega
      subst e
      exact ⟨q, by simp (disch := omega) only [nm, z_lit, z_one, z_mone, z_neg1, z_neg2, z_pred, z_add, z_mul, z_sub, z_le, z_lt, z_eq, z_tn, z_chk, z_eqm, z_meq, z_lem, z_mle, z_ltm, z_mlt, z_eqq, z_qeq, z_leq, z_qle, z_ltq, z_qlt, z_m1m2, z_m2m1, z_m1m1, z_m2m2, z_bnd1, z_bnd2, z_bnd3, z_bnd4, z_bnd5, z_bnd6, z_bnd7, z_bnd8, z_bnd9, z_bnd10, z_bnd11, z_bnd12, z_bnd13, z_bnd14, z_bnd15, z_bnd16, z_max, z_min, z_n31, z_shl, z_shr, z_us, z_div, z_mod, z_and, z_or, z_xor, if_true, if_false, Nat.le_refl], I⟩
    · obtain ⟨e1, b1⟩ := hp i (by omega)
      have nle := nl_le L (L i) i
      by_cases c : L i ≤ 0
      · simp (disch := omega) only [nm, z_lit, z_one, z_mone, z_neg1, z_neg2, z_pred, z_add, z_mul, z_sub, z_le, z_lt, z_eq, z_tn, z_chk, z_eqm, z_meq, z_lem, z_mle, z_ltm, z_mlt, z_eqq, z_qeq, z_leq, z_qle, z_ltq, z_qlt, z_m1m2, z_m2m1, z_m1m1, z_m2m2, z_bnd1, z_bnd2, z_bnd3, z_bnd4, z_bnd5, z_bnd6, z_bnd7, z_bnd8, z_bnd9, z_bnd10, z_bnd11, z_bnd12, z_bnd13, z_bnd14, z_bnd15, z_bnd16, z_max, z_min, z_n31, z_shl, z_shr, z_us, z_div, z_mod, z_and, z_or, z_xor, if_true, if_false, h, e1, c]
        refine ih (i + 1) q (by omega) (by omega) (fun m hm => ?_)
        rw [I m hm, nl]
        by_cases c2 : m ≤ 1
        · rw [if_pos c2, if_pos c2]
        · rw [if_neg c2, if_neg c2, if_neg (by omega)]; rfl
      · have n15 : ¬ (15 < L i) := by omega
        have e2 := I (L i + 1) (by omega)
        rw [if_neg (by omega), Nat.add_sub_cancel] at e2
        simp (disch := omega) only [nm, z_lit, z_one, z_mone, z_neg1, z_neg2, z_pred, z_add, z_mul, z_sub, z_le, z_lt, z_eq, z_tn, z_chk, z_eqm, z_meq, z_lem, z_mle, z_ltm, z_mlt, z_eqq, z_qeq, z_leq, z_qle, z_ltq, z_qlt, z_m1m2, z_m2m1, z_m1m1, z_m2m2, z_bnd1, z_bnd2, z_bnd3, z_bnd4, z_bnd5, z_bnd6, z_bnd7, z_bnd8, z_bnd9, z_bnd10, z_bnd11, z_bnd12, z_bnd13, z_bnd14, z_bnd15, z_bnd16, z_max, z_min, z_n31, z_shl, z_shr, z_us, z_div, z_mod, z_and, z_or, z_xor, if_true, if_false, h, e1, c, n15, e2]
        refine ih (i + 1) _ (by omega) (by omega) (fun m hm => ?_)
        rw [nl]
        by_cases e : m = L i + 1
        · rw [e, z_updE, if_neg (by omega), Nat.add_sub_cancel, if_pos rfl]
        · rw [z_updN e, I m hm]
          by_cases c2 : m ≤ 1
          · rw [if_pos c2, if_pos c2]
          · rw [if_neg c2, if_neg c2, if_neg (by omega)]; rfl
theorem l_gc52 (F N : Nat) (L : Nat → Nat) (hN : N ≤ 300) : ∀ (f v : Nat) (q : Nat → Int32), 1 ≤ v → v ≤ 17 → 17 - v < f → (∀ m, m < v → q m = nI (cs L N m)) → (∀ m, v ≤ m → m < 17 → q m = nI (if m ≤ 1 then 0 else nl L (m - 1) N)) → ∃ q', L_Writer_giveCodes_52 F f (nI v) q = some (nI 17, q') ∧ ∀ m, m < 17 → q' m = nI (cs L N m) := by
  intro f
  induction f with
  | zero => intro v q _ _ h; omega
  | succ f ih =>
    intro v q h1 hv hf I1 I2
    unfold L_Writer_giveCodes_52 B_Writer_giveCodes_52
    by_cases h : 17 ≤ v
    · have e : v = 17 := by omega
      subst e
      exact ⟨q, by simp (disch := omega) only [nm, z_lit, z_one, z_mone, z_neg1, z_neg2, z_pred, z_add, z_mul, z_sub, z_le, z_lt, z_eq, z_tn, z_chk, z_eqm, z_meq, z_lem, z_mle, z_ltm, z_mlt, z_eqq, z_qeq, z_leq, z_qle, z_ltq, z_qlt, z_m1m2, z_m2m1, z_m1m1, z_m2m2, z_bnd1, z_bnd2, z_bnd3, z_bnd4, z_bnd5, z_bnd6, z_bnd7, z_bnd8, z_bnd9, z_bnd10, z_bnd11, z_bnd12, z_bnd13, z_bnd14, z_bnd15, z_bnd16, z_max, z_min, z_n31, z_shl, z_shr, z_us, z_div, z_mod, z_and, z_or, z_xor, if_true, if_false, Nat.le_refl], I1⟩
    · have e1 := I1 (v - 1) (by omega)
      have e2 := I2 v (Nat.le_refl _) (by omega)
      have b1 := cs_lt L N hN (v - 1) (by omega)
      have ec : ((if v ≤ 1 then 0 else nl L (v - 1) N) + cs L N (v - 1)) <<< 1 = cs L N v := by
        rw [Nat.shiftLeft_eq]
        by_cases c : v ≤ 1
        · have : v = 1 := by omega
          subst this
          rfl
        · rw [if_neg c]
          obtain ⟨w, rfl⟩ : ∃ w, v = w + 2 := ⟨v - 2, by omega⟩
          have ew : w + 2 - 1 = w + 1 := by omega
          rw [ew, cs]; omega
      simp (disch := omega) only [nm, z_lit, z_one, z_mone, z_neg1, z_neg2, z_pred, z_add, z_mul, z_sub, z_le, z_lt, z_eq, z_tn, z_chk, z_eqm, z_meq, z_lem, z_mle, z_ltm, z_mlt, z_eqq, z_qeq, z_leq, z_qle, z_ltq, z_qlt, z_m1m2, z_m2m1, z_m1m1, z_m2m2, z_bnd1, z_bnd2, z_bnd3, z_bnd4, z_bnd5, z_bnd6, z_bnd7, z_bnd8, z_bnd9, z_bnd10, z_bnd11, z_bnd12, z_bnd13, z_bnd14, z_bnd15, z_bnd16, z_max, z_min, z_n31, z_shl, z_shr, z_us, z_div, z_mod, z_and, z_or, z_xor, if_true, if_false, h, e1, e2, ec]
      refine ih (v + 1) _ (by omega) (by omega) (by omega) (fun m hm => ?_) (fun m hm1 hm2 => ?_)
      · by_cases e : m = v
        · rw [e, z_updE]
        · rw [z_updN e]; exact I1 m (by omega)
      · rw [z_updN (by omega)]; exact I2 m (by omega) hm2
theorem l_gc92 (F N : Nat) (p : Nat → Int32) (L : Nat → Nat) (hN : N ≤ 300) (hp : ∀ k, k < N → p k = nI (L k) ∧ L k ≤ 15) : ∀ (f i : Nat) (cq q : Nat → Int32), i ≤ N → N - i < f → (∀ m, 1 ≤ m → m ≤ 15 → q m = nI (cs L N m + nl L m i)) → (∀ k, k < i → 0 < L k → cq k = nI (cde L N k)) → ∃ cq' q', L_Writer_giveCodes_92 F N N p f (nI i) cq q = some (nI N, cq', q') ∧ ∀ k, k < N → 0 < L k → cq' k = nI (cde L N k) := by
  intro f
  induction f with
  | zero => intro i cq q _ h; omega
  | succ f ih =>
    intro i cq q hi hf I1 I2
    unfold L_Writer_giveCodes_92 B_Writer_giveCodes_92
    by_cases h : N ≤ i
    · have e : i = N := by omega
      subst e
      exact ⟨cq, q, by simp (disch := omega) only [nm, z_lit, z_one, z_mone, z_neg1, z_neg2, z_pred, z_add, z_mul, z_sub, z_le, z_lt, z_eq, z_tn, z_chk, z_eqm, z_meq, z_lem, z_mle, z_ltm, z_mlt, z_eqq, z_qeq, z_leq, z_qle, z_ltq, z_qlt, z_m1m2, z_m2m1, z_m1m1, z_m2m2, z_bnd1, z_bnd2, z_bnd3, z_bnd4, z_bnd5, z_bnd6, z_bnd7, z_bnd8, z_bnd9, z_bnd10, z_bnd11, z_bnd12, z_bnd13, z_bnd14, z_bnd15, z_bnd16, z_max, z_min, z_n31, z_shl, z_shr, z_us, z_div, z_mod, z_and, z_or, z_xor, if_true, if_false, Nat.le_refl], I2⟩
    · obtain ⟨e1, b1⟩ := hp i (by omega)
      by_cases c : L i ≤ 0
      · simp (disch := omega) only [nm, z_lit, z_one, z_mone, z_neg1, z_neg2, z_pred, z_add, z_mul, z_sub, z_le, z_lt, z_eq, z_tn, z_chk, z_eqm, z_meq, z_lem, z_mle, z_ltm, z_mlt, z_eqq, z_qeq, z_leq, z_qle, z_ltq, z_qlt, z_m1m2, z_m2m1, z_m1m1, z_m2m2, z_bnd1, z_bnd2, z_bnd3, z_bnd4, z_bnd5, z_bnd6, z_bnd7, z_bnd8, z_bnd9, z_bnd10, z_bnd11, z_bnd12, z_bnd13, z_bnd14, z_bnd15, z_bnd16, z_max, z_min, z_n31, z_shl, z_shr, z_us, z_div, z_mod, z_and, z_or, z_xor, if_true, if_false, h, e1, c]
        refine ih (i + 1) cq q (by omega) (by omega) (fun m h1 h2 => ?_) (fun k hk hL => ?_)
        · rw [I1 m h1 h2, nl, if_neg (by omega)]; rfl
        · by_cases e : k = i
          · subst e; omega
          · exact I2 k (by omega) hL
      · have n15 : ¬ (15 < L i) := by omega
        have e2 := I1 (L i) (by omega) (by omega)
        simp (disch := omega) only [nm, z_lit, z_one, z_mone, z_neg1, z_neg2, z_pred, z_add, z_mul, z_sub, z_le, z_lt, z_eq, z_tn, z_chk, z_eqm, z_meq, z_lem, z_mle, z_ltm, z_mlt, z_eqq, z_qeq, z_leq, z_qle, z_ltq, z_qlt, z_m1m2, z_m2m1, z_m1m1, z_m2m2, z_bnd1, z_bnd2, z_bnd3, z_bnd4, z_bnd5, z_bnd6, z_bnd7, z_bnd8, z_bnd9, z_bnd10, z_bnd11, z_bnd12, z_bnd13, z_bnd14, z_bnd15, z_bnd16, z_max, z_min, z_n31, z_shl, z_shr, z_us, z_div, z_mod, z_and, z_or, z_xor, if_true, if_false, h, e1, c, n15, e2]
        refine ih (i + 1) _ _ (by omega) (by omega) (fun m h1 h2 => ?_) (fun k hk hL => ?_)
        · rw [nl]
          by_cases e : m = L i
          · rw [e, z_updE, if_pos rfl]; congr 1
          · rw [z_updN e, I1 m h1 h2, if_neg (Ne.symm e)]; rfl
        · by_cases e : k = i
          · rw [e, z_updE]; rfl
          · rw [z_updN e]; exact I2 k (by omega) hL
theorem s_give (F N : Nat) (p cq q : Nat → Int32) (L : Nat → Nat) (hF : 100000 ≤ F) (hN : N ≤ 300) (hp : ∀ k, k < N → p k = nI (L k) ∧ L k ≤ 15) : ∃ cq' q', m_Writer_giveCodes F N N p cq q = some (cq', q') ∧ ∀ k, k < N → 0 < L k → cq' k = nI (cde L N k) := by
  obtain ⟨q1, e1, g1⟩ := l_gc10 F N p L hN hp F 0 (fun j => if j < 17 then nI 0 else q j) (by omega) (by omega) (fun m hm => by
    simp only [if_pos hm]
    by_cases c : m ≤ 1
    · rw [if_pos c]
    · rw [if_neg c]; rfl)
  obtain ⟨q2, e2, g2⟩ := l_gc52 F N L hN F 1 q1 (by omega) (by omega) (by omega) (fun m hm => by
    have : m = 0 := by omega
    rw [this, g1 0 (by omega)]; rfl) (fun m _ hm => g1 m hm)
  obtain ⟨cq3, q3, e3, g3⟩ := l_gc92 F N p L hN hp F 0 cq q2 (by omega) (by omega) (fun m h1 h2 => by rw [g2 m (by omega)]; rfl) (fun k hk => by omega)
  refine ⟨cq3, q3, ?_, g3⟩
  unfold m_Writer_giveCodes
  rw [s_fill2 F 17 _ _ (by omega) (by omega), z_bnd1]
  simp only [z_lit, e1, z_bnd2, e2, e3, z_bnd3]
theorem l_nu19 (F N P n : Nat) (p : Nat → Int32) (L : Nat → Nat) (m : Nat) (hN : n ≤ N) (hP : n ≤ P) (hn : n ≤ 300) (hm : 1 ≤ m) (hm2 : m ≤ 15) (hp : ∀ k, k < n → p k = nI (L k) ∧ L k ≤ 15) : ∀ (f i : Nat) (cq : Nat → Int32), i ≤ n → n - i < f → ∃ cq', L_MD_number_19 F N P p (nI m) (nI n) f (nI (cs L n m + nl L m i)) (nI i) cq = some (nI (cs L n m + nl L m n), nI n, cq') ∧ (∀ k, i ≤ k → k < n → L k = m → cq' k = nI (cde L n k)) ∧ (∀ k, (k < i ∨ L k ≠ m) → cq' k = cq k) := by
  intro f
  induction f with
  | zero => intro i cq _ h; omega
  | succ f ih =>
    intro i cq hi hf
    unfold L_MD_number_19 B_MD_number_19
    by_cases h : n ≤ i
    · have e : i = n := by omega
      subst e
      exact ⟨cq, by simp (disch := omega) only [nm, z_lit, z_one, z_mone, z_neg1, z_neg2, z_pred, z_add, z_mul, z_sub, z_le, z_lt, z_eq, z_tn, z_chk, z_eqm, z_meq, z_lem, z_mle, z_ltm, z_mlt, z_eqq, z_qeq, z_leq, z_qle, z_ltq, z_qlt, z_m1m2, z_m2m1, z_m1m1, z_m2m2, z_bnd1, z_bnd2, z_bnd3, z_bnd4, z_bnd5, z_bnd6, z_bnd7, z_bnd8, z_bnd9, z_bnd10, z_bnd11, z_bnd12, z_bnd13, z_bnd14, z_bnd15, z_bnd16, z_max, z_min, z_n31, z_shl, z_shr, z_us, z_div, z_mod, z_and, z_or, z_xor, if_true, if_false, Nat.le_refl], fun k h1 h2 => by omega, fun k _ => rfl⟩
    · obtain ⟨e1, b1⟩ := hp i (by omega)
      by_cases c : L i = m
      · have en : cs L n m + nl L m i + 1 = cs L n m + nl L m (i + 1) := by rw [nl, if_pos c]; omega
        obtain ⟨cq', g1, g2, g3⟩ := ih (i + 1) (upd cq i (nI (cs L n m + nl L m i))) (by omega) (by omega)
        rw [← en] at g1
        rw [c] at e1
        simp (disch := omega) only [nm, z_lit, z_one, z_mone, z_neg1, z_neg2, z_pred, z_add, z_mul, z_sub, z_le, z_lt, z_eq, z_tn, z_chk, z_eqm, z_meq, z_lem, z_mle, z_ltm, z_mlt, z_eqq, z_qeq, z_leq, z_qle, z_ltq, z_qlt, z_m1m2, z_m2m1, z_m1m1, z_m2m2, z_bnd1, z_bnd2, z_bnd3, z_bnd4, z_bnd5, z_bnd6, z_bnd7, z_bnd8, z_bnd9, z_bnd10, z_bnd11, z_bnd12, z_bnd13, z_bnd14, z_bnd15, z_bnd16, z_max, z_min, z_n31, z_shl, z_shr, z_us, z_div, z_mod, z_and, z_or, z_xor, if_true, if_false, h, e1]
        refine ⟨cq', g1, fun k h1 h2 h3 => ?_, fun k hk => ?_⟩
        · by_cases e : k = i
          · subst e
            rw [g3 k (Or.inl (by omega)), z_updE]
            unfold cde
            rw [c]
          · exact g2 k (by omega) h2 h3
        · have hki : k ≠ i := by rcases hk with hk | hk
                                 · omega
                                 · exact fun e => hk (by rw [e]; exact c)
          rw [g3 k (by omega), z_updN hki]
      · have en : nl L m (i + 1) = nl L m i := by rw [nl, if_neg c]; rfl
        obtain ⟨cq', g1, g2, g3⟩ := ih (i + 1) cq (by omega) (by omega)
        rw [en] at g1
        simp (disch := omega) only [nm, z_lit, z_one, z_mone, z_neg1, z_neg2, z_pred, z_add, z_mul, z_sub, z_le, z_lt, z_eq, z_tn, z_chk, z_eqm, z_meq, z_lem, z_mle, z_ltm, z_mlt, z_eqq, z_qeq, z_leq, z_qle, z_ltq, z_qlt, z_m1m2, z_m2m1, z_m1m1, z_m2m2, z_bnd1, z_bnd2, z_bnd3, z_bnd4, z_bnd5, z_bnd6, z_bnd7, z_bnd8, z_bnd9, z_bnd10, z_bnd11, z_bnd12, z_bnd13, z_bnd14, z_bnd15, z_bnd16, z_max, z_min, z_n31, z_shl, z_shr, z_us, z_div, z_mod, z_and, z_or, z_xor, if_true, if_false, h, e1, c]
        refine ⟨cq', g1, fun k h1 h2 h3 => ?_, fun k hk => ?_⟩
        · by_cases e : k = i
          · subst e; exact absurd h3 c
          · exact g2 k (by omega) h2 h3
        · by_cases e : k = i
          · subst e; exact g3 k (Or.inr c)
          · exact g3 k (by omega)
theorem l_nu5 (F N P n : Nat) (p : Nat → Int32) (L : Nat → Nat) (hF : 100000 ≤ F) (hN : n ≤ N) (hP : n ≤ P) (hn : n ≤ 300) (hp : ∀ k, k < n → p k = nI (L k) ∧ L k ≤ 15) : ∀ (f m : Nat) (cq : Nat → Int32), 1 ≤ m → m ≤ 16 → 16 - m < f → (∀ k, k < n → 0 < L k → L k < m → cq k = nI (cde L n k)) → ∃ v cq', L_MD_number_5 F N P p (nI n) f (nI (if m = 1 then 0 else cs L n (m - 1) + nl L (m - 1) n)) (nI m) cq = some (v, nI 16, cq') ∧ (∀ k, k < n → 0 < L k → cq' k = nI (cde L n k)) := by
  intro f
  induction f with
  | zero => intro m cq _ _ h; omega
  | succ f ih =>
    intro m cq h1 hm hf I
    unfold L_MD_number_5 B_MD_number_5
    by_cases h : 16 ≤ m
    · have e : m = 16 := by omega
      subst e
      exact ⟨_, cq, by simp (disch := omega) only [nm, z_lit, z_one, z_mone, z_neg1, z_neg2, z_pred, z_add, z_mul, z_sub, z_le, z_lt, z_eq, z_tn, z_chk, z_eqm, z_meq, z_lem, z_mle, z_ltm, z_mlt, z_eqq, z_qeq, z_leq, z_qle, z_ltq, z_qlt, z_m1m2, z_m2m1, z_m1m1, z_m2m2, z_bnd1, z_bnd2, z_bnd3, z_bnd4, z_bnd5, z_bnd6, z_bnd7, z_bnd8, z_bnd9, z_bnd10, z_bnd11, z_bnd12, z_bnd13, z_bnd14, z_bnd15, z_bnd16, z_max, z_min, z_n31, z_shl, z_shr, z_us, z_div, z_mod, z_and, z_or, z_xor, if_true, if_false, Nat.le_refl]; rfl, fun k hk hL => I k hk hL (by have := (hp k hk).2; omega)⟩
    · have e2 : 2 * (if m = 1 then 0 else cs L n (m - 1) + nl L (m - 1) n) = cs L n m := by
        by_cases c : m = 1
        · rw [if_pos c, c]; rfl
        · rw [if_neg c]
          obtain ⟨w, rfl⟩ : ∃ w, m = w + 2 := ⟨m - 2, by omega⟩
          have ew : w + 2 - 1 = w + 1 := by omega
          rw [ew, cs]
      obtain ⟨cq1, g1, g2, g3⟩ := l_nu19 F N P n p L m hN hP hn h1 (by omega) hp F 0 cq (by omega) (by omega)
      have e0 : nl L m 0 = 0 := rfl
      rw [e0, Nat.add_zero] at g1
      simp (disch := omega) only [nm, z_lit, z_one, z_mone, z_neg1, z_neg2, z_pred, z_add, z_mul, z_sub, z_le, z_lt, z_eq, z_tn, z_chk, z_eqm, z_meq, z_lem, z_mle, z_ltm, z_mlt, z_eqq, z_qeq, z_leq, z_qle, z_ltq, z_qlt, z_m1m2, z_m2m1, z_m1m1, z_m2m2, z_bnd1, z_bnd2, z_bnd3, z_bnd4, z_bnd5, z_bnd6, z_bnd7, z_bnd8, z_bnd9, z_bnd10, z_bnd11, z_bnd12, z_bnd13, z_bnd14, z_bnd15, z_bnd16, z_max, z_min, z_n31, z_shl, z_shr, z_us, z_div, z_mod, z_and, z_or, z_xor, if_true, if_false, h, e2, g1]
      obtain ⟨v, cq', a1, a2⟩ := ih (m + 1) cq1 (by omega) (by omega) (by omega) (fun k hk hL hlt => by
        by_cases e : L k = m
        · exact g2 k (by omega) hk e
        · rw [g3 k (Or.inr e)]; exact I k hk hL (by omega))
      rw [if_neg (by omega), Nat.add_sub_cancel] at a1
      exact ⟨v, cq', a1, a2⟩
theorem s_number (F N P n : Nat) (p cq : Nat → Int32) (L : Nat → Nat) (hF : 100000 ≤ F) (hN : n ≤ N) (hP : n ≤ P) (hn : n ≤ 300) (hp : ∀ k, k < n → p k = nI (L k) ∧ L k ≤ 15) : ∃ cq', m_MD_number F N P p cq (nI n) = some cq' ∧ ∀ k, k < n → 0 < L k → cq' k = nI (cde L n k) := by
  obtain ⟨v, cq', e1, g1⟩ := l_nu5 F N P n p L hF hN hP hn hp F 1 cq (by omega) (by omega) (by omega) (fun k hk h1 h2 => by omega)
  rw [if_pos rfl] at e1
  refine ⟨cq', ?_, g1⟩
  unfold m_MD_number
  simp only [z_lit, e1, z_bnd3]
/-- the fixed code's numbers -/
def fcd (s : Nat) : Nat := if s < 144 then 48 + s else if s < 256 then 400 + s - 144 else if s < 280 then s - 256 else 192 + s - 280
theorem fcd_eq : ∀ s, s < 288 → cde fl 288 s = fcd s := by
  have h : ∀ s : Fin 288, cde fl 288 s.1 = fcd s.1 := by decide +kernel
  exact fun s hs => h ⟨s, hs⟩
theorem fcf_eq : ∀ s, s < 32 → cde (fun _ => 5) 32 s = s := by
  have h : ∀ s : Fin 32, cde (fun _ => 5) 32 s.1 = s.1 := by decide +kernel
  exact fun s hs => h ⟨s, hs⟩
theorem s_fcode (F s : Nat) (hs : s < 288) : m_DE_fixedCode F (nI s) = some (nI (fcd s)) := by
  unfold m_DE_fixedCode fcd
  by_cases h1 : s < 144
  · have n1 : ¬ (144 ≤ s) := by omega
    simp (disch := omega) only [nm, z_lit, z_one, z_mone, z_neg1, z_neg2, z_pred, z_add, z_mul, z_sub, z_le, z_lt, z_eq, z_tn, z_chk, z_eqm, z_meq, z_lem, z_mle, z_ltm, z_mlt, z_eqq, z_qeq, z_leq, z_qle, z_ltq, z_qlt, z_m1m2, z_m2m1, z_m1m1, z_m2m2, z_bnd1, z_bnd2, z_bnd3, z_bnd4, z_bnd5, z_bnd6, z_bnd7, z_bnd8, z_bnd9, z_bnd10, z_bnd11, z_bnd12, z_bnd13, z_bnd14, z_bnd15, z_bnd16, z_max, z_min, z_n31, z_shl, z_shr, z_us, z_div, z_mod, z_and, z_or, z_xor, if_true, if_false, h1, n1]
  · have n1 : 144 ≤ s := by omega
    by_cases h2 : s < 256
    · have n2 : ¬ (256 ≤ s) := by omega
      simp (disch := omega) only [nm, z_lit, z_one, z_mone, z_neg1, z_neg2, z_pred, z_add, z_mul, z_sub, z_le, z_lt, z_eq, z_tn, z_chk, z_eqm, z_meq, z_lem, z_mle, z_ltm, z_mlt, z_eqq, z_qeq, z_leq, z_qle, z_ltq, z_qlt, z_m1m2, z_m2m1, z_m1m1, z_m2m2, z_bnd1, z_bnd2, z_bnd3, z_bnd4, z_bnd5, z_bnd6, z_bnd7, z_bnd8, z_bnd9, z_bnd10, z_bnd11, z_bnd12, z_bnd13, z_bnd14, z_bnd15, z_bnd16, z_max, z_min, z_n31, z_shl, z_shr, z_us, z_div, z_mod, z_and, z_or, z_xor, if_true, if_false, h1, n1, h2, n2]
    · have n2 : 256 ≤ s := by omega
      by_cases h3 : s < 280
      · have n3 : ¬ (280 ≤ s) := by omega
        simp (disch := omega) only [nm, z_lit, z_one, z_mone, z_neg1, z_neg2, z_pred, z_add, z_mul, z_sub, z_le, z_lt, z_eq, z_tn, z_chk, z_eqm, z_meq, z_lem, z_mle, z_ltm, z_mlt, z_eqq, z_qeq, z_leq, z_qle, z_ltq, z_qlt, z_m1m2, z_m2m1, z_m1m1, z_m2m2, z_bnd1, z_bnd2, z_bnd3, z_bnd4, z_bnd5, z_bnd6, z_bnd7, z_bnd8, z_bnd9, z_bnd10, z_bnd11, z_bnd12, z_bnd13, z_bnd14, z_bnd15, z_bnd16, z_max, z_min, z_n31, z_shl, z_shr, z_us, z_div, z_mod, z_and, z_or, z_xor, if_true, if_false, h1, n1, h2, n2, h3, n3]
      · have n3 : 280 ≤ s := by omega
        simp (disch := omega) only [nm, z_lit, z_one, z_mone, z_neg1, z_neg2, z_pred, z_add, z_mul, z_sub, z_le, z_lt, z_eq, z_tn, z_chk, z_eqm, z_meq, z_lem, z_mle, z_ltm, z_mlt, z_eqq, z_qeq, z_leq, z_qle, z_ltq, z_qlt, z_m1m2, z_m2m1, z_m1m1, z_m2m2, z_bnd1, z_bnd2, z_bnd3, z_bnd4, z_bnd5, z_bnd6, z_bnd7, z_bnd8, z_bnd9, z_bnd10, z_bnd11, z_bnd12, z_bnd13, z_bnd14, z_bnd15, z_bnd16, z_max, z_min, z_n31, z_shl, z_shr, z_us, z_div, z_mod, z_and, z_or, z_xor, if_true, if_false, h1, n1, h2, n2, h3, n3]
