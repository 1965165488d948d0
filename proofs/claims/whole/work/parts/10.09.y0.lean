/-! symbols of lengths and distances -/
def lx (n : Nat) : Nat := if n = 258 ∨ n < 11 then 0 else Nat.log2 (n - 3) - 2
def ls (n : Nat) : Nat := if n = 258 then 285 else if n < 11 then 254 + n else 257 + 4 * lx n + (n - 3) >>> (lx n)
def fx (d : Nat) : Nat := if d < 5 then 0 else Nat.log2 (d - 1) - 1
def fs (d : Nat) : Nat := if d < 5 then d - 1 else 2 * fx d + (d - 1) >>> (fx d)
def tbn (t j : Nat) : Nat := (tb t j).toNatClampNeg
theorem tb0 : ∀ j, j < 29 → tb 0 j = nI (tbn 0 j) ∧ tbn 0 j < 300 := by decide +kernel
theorem tb1 : ∀ j, j < 29 → tb 1 j = nI (tbn 1 j) ∧ tbn 1 j < 6 := by decide +kernel
theorem tb2 : ∀ j, j < 30 → tb 2 j = nI (tbn 2 j) ∧ tbn 2 j < 30000 := by decide +kernel
theorem tb3 : ∀ j, j < 30 → tb 3 j = nI (tbn 3 j) ∧ tbn 3 j < 14 := by decide +kernel
theorem tb4 : ∀ j, j < 19 → tb 4 j = nI (tbn 4 j) ∧ tbn 4 j < 19 := by decide +kernel
theorem ls_tab (n : Nat) (hn : n < 259) (h3 : 3 ≤ n) (k : Nat) (hk : k < 29) (h1 : tbn 0 k ≤ n) (h2 : k + 1 < 29 → n < tbn 0 (k + 1)) : 257 + k = ls n := by
  have h : ∀ n : Fin 259, ∀ k : Fin 29, n.1 < 3 ∨ n.1 < tbn 0 k.1 ∨ (k.1 + 1 < 29 ∧ tbn 0 (k.1 + 1) ≤ n.1) ∨ 257 + k.1 = ls n.1 := by decide +kernel
  have q := h ⟨n, hn⟩ ⟨k, hk⟩
  simp only at q
  omega
theorem ls_facts : ∀ n, n < 259 → 3 ≤ n → 257 ≤ ls n ∧ ls n < 286 ∧ tbn 1 (ls n - 257) = lx n ∧ lx n < 6 ∧ tbn 0 (ls n - 257) ≤ n ∧ n - tbn 0 (ls n - 257) = (if n = 258 then 0 else (n - 3) &&& ((1 <<< lx n) - 1)) := by decide +kernel
theorem fs_tab (d : Nat) (hd : d < 600) (h3 : 1 ≤ d) (k : Nat) (hk : k < 30) (h1 : tbn 2 k ≤ d) (h2 : k + 1 < 30 → d < tbn 2 (k + 1)) : k = fs d := by
  have h : ∀ n : Fin 600, ∀ k : Fin 30, n.1 < 1 ∨ n.1 < tbn 2 k.1 ∨ (k.1 + 1 < 30 ∧ tbn 2 (k.1 + 1) ≤ n.1) ∨ k.1 = fs n.1 := by decide +kernel
  have q := h ⟨d, hd⟩ ⟨k, hk⟩
  simp only at q
  omega
theorem fs_facts : ∀ d, d < 600 → 1 ≤ d → fs d < 30 ∧ tbn 3 (fs d) = fx d ∧ fx d < 14 ∧ tbn 2 (fs d) ≤ d ∧ d - tbn 2 (fs d) = (d - 1) &&& ((1 <<< fx d) - 1) := by decide +kernel
theorem z_tn0 : nI (tn 0) = nI 29 := rfl
theorem z_tn1 : nI (tn 1) = nI 29 := rfl
theorem z_tn2 : nI (tn 2) = nI 30 := rfl
theorem tn0 : tn 0 = 29 := rfl
theorem tn1 : tn 1 = 29 := rfl
theorem tn2 : tn 2 = 30 := rfl
theorem tn3 : tn 3 = 30 := rfl
theorem tn4 : tn 4 = 19 := rfl
theorem l_lsym (F n : Nat) (hn : n < 259) : ∀ (f k : Nat), k < 29 → 29 - k < f → tbn 0 k ≤ n → ∃ k', L_DE_lengthSymbol_2 F (nI n) f (nI k) = some (nI k') ∧ k' < 29 ∧ tbn 0 k' ≤ n ∧ (k' + 1 < 29 → n < tbn 0 (k' + 1)) := by
  intro f
  induction f with
  | zero => intro k _ h; omega
  | succ f ih =>
    intro k hk hf hb
    unfold L_DE_lengthSymbol_2 B_DE_lengthSymbol_2
    by_cases h : 29 ≤ k + 1
    · exact ⟨k, by simp (disch := omega) only [nm, z_lit, z_one, z_mone, z_neg1, z_neg2, z_pred, z_add, z_mul, z_sub, z_le, z_lt, z_eq, z_tn, z_chk, z_eqm, z_meq, z_lem, z_mle, z_ltm, z_mlt, z_eqq, z_qeq, z_leq, z_qle, z_ltq, z_qlt, z_m1m2, z_m2m1, z_m1m1, z_m2m2, z_bnd1, z_bnd2, z_bnd3, z_bnd4, z_bnd5, z_bnd6, z_bnd7, z_bnd8, z_bnd9, z_bnd10, z_bnd11, z_bnd12, z_bnd13, z_bnd14, z_bnd15, z_bnd16, z_max, z_min, z_n31, z_shl, z_shr, z_us, z_div, z_mod, z_and, z_or, z_xor, if_true, if_false, tn0, h], hk, hb, fun q => by omega⟩
    · obtain ⟨e1, b1⟩ := tb0 (k + 1) (by omega)
      by_cases h2 : n < tbn 0 (k + 1)
      · exact ⟨k, by simp (disch := omega) only [nm, z_lit, z_one, z_mone, z_neg1, z_neg2, z_pred, z_add, z_mul, z_sub, z_le, z_lt, z_eq, z_tn, z_chk, z_eqm, z_meq, z_lem, z_mle, z_ltm, z_mlt, z_eqq, z_qeq, z_leq, z_qle, z_ltq, z_qlt, z_m1m2, z_m2m1, z_m1m1, z_m2m2, z_bnd1, z_bnd2, z_bnd3, z_bnd4, z_bnd5, z_bnd6, z_bnd7, z_bnd8, z_bnd9, z_bnd10, z_bnd11, z_bnd12, z_bnd13, z_bnd14, z_bnd15, z_bnd16, z_max, z_min, z_n31, z_shl, z_shr, z_us, z_div, z_mod, z_and, z_or, z_xor, if_true, if_false, tn0, h, e1, h2], hk, hb, fun q => h2⟩
      · simp (disch := omega) only [nm, z_lit, z_one, z_mone, z_neg1, z_neg2, z_pred, z_add, z_mul, z_sub, z_le, z_lt, z_eq, z_tn, z_chk, z_eqm, z_meq, z_lem, z_mle, z_ltm, z_mlt, z_eqq, z_qeq, z_leq, z_qle, z_ltq, z_qlt, z_m1m2, z_m2m1, z_m1m1, z_m2m2, z_bnd1, z_bnd2, z_bnd3, z_bnd4, z_bnd5, z_bnd6, z_bnd7, z_bnd8, z_bnd9, z_bnd10, z_bnd11, z_bnd12, z_bnd13, z_bnd14, z_bnd15, z_bnd16, z_max, z_min, z_n31, z_shl, z_shr, z_us, z_div, z_mod, z_and, z_or, z_xor, if_true, if_false, tn0, h, e1, h2]
        exact ih (k + 1) (by omega) (by omega) (by omega)
theorem s_lsym (F n : Nat) (hF : 100000 ≤ F) (hn : n < 259) (h3 : 3 ≤ n) : m_DE_lengthSymbol F (nI n) = some (nI (ls n)) := by
  have h0 : tbn 0 0 ≤ n := by have : tbn 0 0 = 3 := by decide +kernel
                              omega
  obtain ⟨k, e, h1, h2, h4⟩ := l_lsym F n hn F 0 (by omega) (by omega) h0
  unfold m_DE_lengthSymbol
  simp only [z_lit, e, z_bnd1, z_add]
  rw [ls_tab n hn h3 k h1 h2 h4]
theorem l_dsym (F n : Nat) (hn : n < 100000) : ∀ (f k : Nat), k < 30 → 30 - k < f → tbn 2 k ≤ n → ∃ k', L_DE_distanceSymbol_2 F (nI n) f (nI k) = some (nI k') ∧ k' < 30 ∧ tbn 2 k' ≤ n ∧ (k' + 1 < 30 → n < tbn 2 (k' + 1)) := by
  intro f
  induction f with
  | zero => intro k _ h; omega
  | succ f ih =>
    intro k hk hf hb
    unfold L_DE_distanceSymbol_2 B_DE_distanceSymbol_2
    by_cases h : 30 ≤ k + 1
    · exact ⟨k, by simp (disch := omega) only [nm, z_lit, z_one, z_mone, z_neg1, z_neg2, z_pred, z_add, z_mul, z_sub, z_le, z_lt, z_eq, z_tn, z_chk, z_eqm, z_meq, z_lem, z_mle, z_ltm, z_mlt, z_eqq, z_qeq, z_leq, z_qle, z_ltq, z_qlt, z_m1m2, z_m2m1, z_m1m1, z_m2m2, z_bnd1, z_bnd2, z_bnd3, z_bnd4, z_bnd5, z_bnd6, z_bnd7, z_bnd8, z_bnd9, z_bnd10, z_bnd11, z_bnd12, z_bnd13, z_bnd14, z_bnd15, z_bnd16, z_max, z_min, z_n31, z_shl, z_shr, z_us, z_div, z_mod, z_and, z_or, z_xor, if_true, if_false, tn2, h], hk, hb, fun q => by omega⟩
    · obtain ⟨e1, b1⟩ := tb2 (k + 1) (by omega)
      by_cases h2 : n < tbn 2 (k + 1)
      · exact ⟨k, by simp (disch := omega) only [nm, z_lit, z_one, z_mone, z_neg1, z_neg2, z_pred, z_add, z_mul, z_sub, z_le, z_lt, z_eq, z_tn, z_chk, z_eqm, z_meq, z_lem, z_mle, z_ltm, z_mlt, z_eqq, z_qeq, z_leq, z_qle, z_ltq, z_qlt, z_m1m2, z_m2m1, z_m1m1, z_m2m2, z_bnd1, z_bnd2, z_bnd3, z_bnd4, z_bnd5, z_bnd6, z_bnd7, z_bnd8, z_bnd9, z_bnd10, z_bnd11, z_bnd12, z_bnd13, z_bnd14, z_bnd15, z_bnd16, z_max, z_min, z_n31, z_shl, z_shr, z_us, z_div, z_mod, z_and, z_or, z_xor, if_true, if_false, tn2, h, e1, h2], hk, hb, fun q => h2⟩
      · simp (disch := omega) only [nm, z_lit, z_one, z_mone, z_neg1, z_neg2, z_pred, z_add, z_mul, z_sub, z_le, z_lt, z_eq, z_tn, z_chk, z_eqm, z_meq, z_lem, z_mle, z_ltm, z_mlt, z_eqq, z_qeq, z_leq, z_qle, z_ltq, z_qlt, z_m1m2, z_m2m1, z_m1m1, z_m2m2, z_bnd1, z_bnd2, z_bnd3, z_bnd4, z_bnd5, z_bnd6, z_bnd7, z_bnd8, z_bnd9, z_bnd10, z_bnd11, z_bnd12, z_bnd13, z_bnd14, z_bnd15, z_bnd16, z_max, z_min, z_n31, z_shl, z_shr, z_us, z_div, z_mod, z_and, z_or, z_xor, if_true, if_false, tn2, h, e1, h2]
        exact ih (k + 1) (by omega) (by omega) (by omega)
theorem s_dsym (F n : Nat) (hF : 100000 ≤ F) (hn : n < 600) (h1 : 1 ≤ n) : m_DE_distanceSymbol F (nI n) = some (nI (fs n)) := by
  have h0 : tbn 2 0 ≤ n := by have : tbn 2 0 = 1 := by decide +kernel
                              omega
  obtain ⟨k, e, h1', h2, h4⟩ := l_dsym F n (by omega) F 0 (by omega) (by omega) h0
  unfold m_DE_distanceSymbol
  simp only [z_lit, e, z_bnd1, z_add]
  rw [← fs_tab n hn h1 k h1' h2 h4]
/-- the symbol of no distance, which is never used -/
theorem s_dsym0 (F : Nat) (hF : 100000 ≤ F) : m_DE_distanceSymbol F (nI 0) = some (nI 0) := by
  obtain ⟨G, rfl⟩ : ∃ G, F = G + 1 := ⟨F - 1, by omega⟩
  unfold m_DE_distanceSymbol L_DE_distanceSymbol_2 B_DE_distanceSymbol_2
  have h1 : ¬ (30 ≤ 0 + 1) := by omega
  obtain ⟨e1, b1⟩ := tb2 (0 + 1) (by omega)
  have h2 : 0 < tbn 2 (0 + 1) := by decide +kernel
  simp (disch := omega) only [nm, z_lit, z_one, z_mone, z_neg1, z_neg2, z_pred, z_add, z_mul, z_sub, z_le, z_lt, z_eq, z_tn, z_chk, z_eqm, z_meq, z_lem, z_mle, z_ltm, z_mlt, z_eqq, z_qeq, z_leq, z_qle, z_ltq, z_qlt, z_m1m2, z_m2m1, z_m1m1, z_m2m2, z_bnd1, z_bnd2, z_bnd3, z_bnd4, z_bnd5, z_bnd6, z_bnd7, z_bnd8, z_bnd9, z_bnd10, z_bnd11, z_bnd12, z_bnd13, z_bnd14, z_bnd15, z_bnd16, z_max, z_min, z_n31, z_shl, z_shr, z_us, z_div, z_mod, z_and, z_or, z_xor, if_true, if_false, tn2, h1, e1, h2]
theorem l_high (F v : Nat) (h1 : 1 ≤ v) (hv : v < 1000000) : ∀ (f n : Nat), n ≤ Nat.log2 v → Nat.log2 v - n < f → L_MD_high_2 F (nI v) f (nI n) = some (nI (Nat.log2 v)) := by
  have hl : Nat.log2 v < 20 := (Nat.log2_lt (by omega)).mpr (by omega)
  intro f
  induction f with
  | zero => intro n _ h; omega
  | succ f ih =>
    intro n hn hf
    unfold L_MD_high_2 B_MD_high_2
    have hle : v >>> (n + 1) ≤ v := Nat.shiftRight_le v (n + 1)
    by_cases h : v >>> (n + 1) ≤ 0
    · simp (disch := omega) only [nm, z_lit, z_one, z_mone, z_neg1, z_neg2, z_pred, z_add, z_mul, z_sub, z_le, z_lt, z_eq, z_tn, z_chk, z_eqm, z_meq, z_lem, z_mle, z_ltm, z_mlt, z_eqq, z_qeq, z_leq, z_qle, z_ltq, z_qlt, z_m1m2, z_m2m1, z_m1m1, z_m2m2, z_bnd1, z_bnd2, z_bnd3, z_bnd4, z_bnd5, z_bnd6, z_bnd7, z_bnd8, z_bnd9, z_bnd10, z_bnd11, z_bnd12, z_bnd13, z_bnd14, z_bnd15, z_bnd16, z_max, z_min, z_n31, z_shl, z_shr, z_us, z_div, z_mod, z_and, z_or, z_xor, if_true, if_false, h]
      have h0 : v >>> (n + 1) = 0 := Nat.le_zero.mp h
      rw [Nat.shiftRight_eq_div_pow, Nat.div_eq_zero_iff_lt (Nat.two_pow_pos _)] at h0
      have := (Nat.log2_lt (n := v) (k := n + 1) (by omega)).mpr h0
      have e : n = Nat.log2 v := by omega
      rw [← e]
    · simp (disch := omega) only [nm, z_lit, z_one, z_mone, z_neg1, z_neg2, z_pred, z_add, z_mul, z_sub, z_le, z_lt, z_eq, z_tn, z_chk, z_eqm, z_meq, z_lem, z_mle, z_ltm, z_mlt, z_eqq, z_qeq, z_leq, z_qle, z_ltq, z_qlt, z_m1m2, z_m2m1, z_m1m1, z_m2m2, z_bnd1, z_bnd2, z_bnd3, z_bnd4, z_bnd5, z_bnd6, z_bnd7, z_bnd8, z_bnd9, z_bnd10, z_bnd11, z_bnd12, z_bnd13, z_bnd14, z_bnd15, z_bnd16, z_max, z_min, z_n31, z_shl, z_shr, z_us, z_div, z_mod, z_and, z_or, z_xor, if_true, if_false, h]
      have h0 : ¬ (v < 2 ^ (n + 1)) := fun q => h (by rw [Nat.shiftRight_eq_div_pow, Nat.div_eq_of_lt q]; exact Nat.le_refl _)
      have q : ¬ (Nat.log2 v < n + 1) := fun q => h0 ((Nat.log2_lt (by omega)).mp q)
      exact ih (n + 1) (by omega) (by omega)
theorem s_high (F v : Nat) (hF : 100000 ≤ F) (h1 : 1 ≤ v) (hv : v < 1000000) : m_MD_high F (nI v) = some (nI (Nat.log2 v)) := by
  have hl : Nat.log2 v < 20 := (Nat.log2_lt (by omega)).mpr (by omega)
  unfold m_MD_high
  simp only [z_lit]
  rw [l_high F v h1 hv F 0 (by omega) (by omega)]
  rfl
theorem lg_ge {v k : Nat} (h : 2 ^ k ≤ v) : k ≤ Nat.log2 v := by
  have h0 : v ≠ 0 := by have := Nat.two_pow_pos k; omega
  exact (Nat.le_log2 h0).mpr h
theorem s_xsize (F n : Nat) (hF : 100000 ≤ F) (hn : n < 259) (h3 : 3 ≤ n) : m_MD_extraOfSize F (nI n) = some (nI (lx n)) := by
  unfold m_MD_extraOfSize lx
  by_cases h1 : n = 258
  · simp (disch := omega) only [nm, z_lit, z_one, z_mone, z_neg1, z_neg2, z_pred, z_add, z_mul, z_sub, z_le, z_lt, z_eq, z_tn, z_chk, z_eqm, z_meq, z_lem, z_mle, z_ltm, z_mlt, z_eqq, z_qeq, z_leq, z_qle, z_ltq, z_qlt, z_m1m2, z_m2m1, z_m1m1, z_m2m2, z_bnd1, z_bnd2, z_bnd3, z_bnd4, z_bnd5, z_bnd6, z_bnd7, z_bnd8, z_bnd9, z_bnd10, z_bnd11, z_bnd12, z_bnd13, z_bnd14, z_bnd15, z_bnd16, z_max, z_min, z_n31, z_shl, z_shr, z_us, z_div, z_mod, z_and, z_or, z_xor, if_true, if_false, h1, true_or]
  · by_cases h2 : 11 ≤ n
    · have q : 3 ≤ Nat.log2 (n - 3) := lg_ge (by omega)
      have e := s_high F (n - 3) hF (by omega) (by omega)
      have n2 : ¬ (n < 11) := by omega
      simp (disch := omega) only [nm, z_lit, z_one, z_mone, z_neg1, z_neg2, z_pred, z_add, z_mul, z_sub, z_le, z_lt, z_eq, z_tn, z_chk, z_eqm, z_meq, z_lem, z_mle, z_ltm, z_mlt, z_eqq, z_qeq, z_leq, z_qle, z_ltq, z_qlt, z_m1m2, z_m2m1, z_m1m1, z_m2m2, z_bnd1, z_bnd2, z_bnd3, z_bnd4, z_bnd5, z_bnd6, z_bnd7, z_bnd8, z_bnd9, z_bnd10, z_bnd11, z_bnd12, z_bnd13, z_bnd14, z_bnd15, z_bnd16, z_max, z_min, z_n31, z_shl, z_shr, z_us, z_div, z_mod, z_and, z_or, z_xor, if_true, if_false, h1, h2, e, n2, false_or]
    · have n2 : n < 11 := by omega
      simp (disch := omega) only [nm, z_lit, z_one, z_mone, z_neg1, z_neg2, z_pred, z_add, z_mul, z_sub, z_le, z_lt, z_eq, z_tn, z_chk, z_eqm, z_meq, z_lem, z_mle, z_ltm, z_mlt, z_eqq, z_qeq, z_leq, z_qle, z_ltq, z_qlt, z_m1m2, z_m2m1, z_m1m1, z_m2m2, z_bnd1, z_bnd2, z_bnd3, z_bnd4, z_bnd5, z_bnd6, z_bnd7, z_bnd8, z_bnd9, z_bnd10, z_bnd11, z_bnd12, z_bnd13, z_bnd14, z_bnd15, z_bnd16, z_max, z_min, z_n31, z_shl, z_shr, z_us, z_div, z_mod, z_and, z_or, z_xor, if_true, if_false, h1, h2, n2, or_true]
theorem s_ssize (F n : Nat) (hF : 100000 ≤ F) (hn : n < 259) (h3 : 3 ≤ n) : m_MD_symbolOfSize F (nI n) = some (nI (ls n)) := by
  unfold m_MD_symbolOfSize
  rw [s_xsize F n hF hn h3, z_bnd1]
  have hx := (ls_facts n hn h3).2.2.2.1
  unfold ls
  by_cases h1 : n = 258
  · simp (disch := omega) only [nm, z_lit, z_one, z_mone, z_neg1, z_neg2, z_pred, z_add, z_mul, z_sub, z_le, z_lt, z_eq, z_tn, z_chk, z_eqm, z_meq, z_lem, z_mle, z_ltm, z_mlt, z_eqq, z_qeq, z_leq, z_qle, z_ltq, z_qlt, z_m1m2, z_m2m1, z_m1m1, z_m2m2, z_bnd1, z_bnd2, z_bnd3, z_bnd4, z_bnd5, z_bnd6, z_bnd7, z_bnd8, z_bnd9, z_bnd10, z_bnd11, z_bnd12, z_bnd13, z_bnd14, z_bnd15, z_bnd16, z_max, z_min, z_n31, z_shl, z_shr, z_us, z_div, z_mod, z_and, z_or, z_xor, if_true, if_false, h1]
  · by_cases h2 : 11 ≤ n
    · have n2 : ¬ (n < 11) := by omega
      simp (disch := omega) only [nm, z_lit, z_one, z_mone, z_neg1, z_neg2, z_pred, z_add, z_mul, z_sub, z_le, z_lt, z_eq, z_tn, z_chk, z_eqm, z_meq, z_lem, z_mle, z_ltm, z_mlt, z_eqq, z_qeq, z_leq, z_qle, z_ltq, z_qlt, z_m1m2, z_m2m1, z_m1m1, z_m2m2, z_bnd1, z_bnd2, z_bnd3, z_bnd4, z_bnd5, z_bnd6, z_bnd7, z_bnd8, z_bnd9, z_bnd10, z_bnd11, z_bnd12, z_bnd13, z_bnd14, z_bnd15, z_bnd16, z_max, z_min, z_n31, z_shl, z_shr, z_us, z_div, z_mod, z_and, z_or, z_xor, if_true, if_false, h1, h2, n2]
    · have n2 : n < 11 := by omega
      simp (disch := omega) only [nm, z_lit, z_one, z_mone, z_neg1, z_neg2, z_pred, z_add, z_mul, z_sub, z_le, z_lt, z_eq, z_tn, z_chk, z_eqm, z_meq, z_lem, z_mle, z_ltm, z_mlt, z_eqq, z_qeq, z_leq, z_qle, z_ltq, z_qlt, z_m1m2, z_m2m1, z_m1m1, z_m2m2, z_bnd1, z_bnd2, z_bnd3, z_bnd4, z_bnd5, z_bnd6, z_bnd7, z_bnd8, z_bnd9, z_bnd10, z_bnd11, z_bnd12, z_bnd13, z_bnd14, z_bnd15, z_bnd16, z_max, z_min, z_n31, z_shl, z_shr, z_us, z_div, z_mod, z_and, z_or, z_xor, if_true, if_false, h1, h2, n2]
theorem s_xfar (F d : Nat) (hF : 100000 ≤ F) (hn : d < 600) (h1 : 1 ≤ d) : m_MD_extraOfFar F (nI d) = some (nI (fx d)) := by
  unfold m_MD_extraOfFar fx
  by_cases h2 : 5 ≤ d
  · have q : 2 ≤ Nat.log2 (d - 1) := lg_ge (by omega)
    have e := s_high F (d - 1) hF (by omega) (by omega)
    have n2 : ¬ (d < 5) := by omega
    simp (disch := omega) only [nm, z_lit, z_one, z_mone, z_neg1, z_neg2, z_pred, z_add, z_mul, z_sub, z_le, z_lt, z_eq, z_tn, z_chk, z_eqm, z_meq, z_lem, z_mle, z_ltm, z_mlt, z_eqq, z_qeq, z_leq, z_qle, z_ltq, z_qlt, z_m1m2, z_m2m1, z_m1m1, z_m2m2, z_bnd1, z_bnd2, z_bnd3, z_bnd4, z_bnd5, z_bnd6, z_bnd7, z_bnd8, z_bnd9, z_bnd10, z_bnd11, z_bnd12, z_bnd13, z_bnd14, z_bnd15, z_bnd16, z_max, z_min, z_n31, z_shl, z_shr, z_us, z_div, z_mod, z_and, z_or, z_xor, if_true, if_false, h2, e, n2]
  · have n2 : d < 5 := by omega
    simp (disch := omega) only [nm, z_lit, z_one, z_mone, z_neg1, z_neg2, z_pred, z_add, z_mul, z_sub, z_le, z_lt, z_eq, z_tn, z_chk, z_eqm, z_meq, z_lem, z_mle, z_ltm, z_mlt, z_eqq, z_qeq, z_leq, z_qle, z_ltq, z_qlt, z_m1m2, z_m2m1, z_m1m1, z_m2m2, z_bnd1, z_bnd2, z_bnd3, z_bnd4, z_bnd5, z_bnd6, z_bnd7, z_bnd8, z_bnd9, z_bnd10, z_bnd11, z_bnd12, z_bnd13, z_bnd14, z_bnd15, z_bnd16, z_max, z_min, z_n31, z_shl, z_shr, z_us, z_div, z_mod, z_and, z_or, z_xor, if_true, if_false, h2, n2]
theorem s_sfar (F d : Nat) (hF : 100000 ≤ F) (hn : d < 600) (h1 : 1 ≤ d) : m_MD_symbolOfFar F (nI d) = some (nI (fs d)) := by
  unfold m_MD_symbolOfFar
  rw [s_xfar F d hF hn h1, z_bnd1]
  have hx := (fs_facts d hn h1).2.2.1
  unfold fs
  by_cases h2 : 5 ≤ d
  · have n2 : ¬ (d < 5) := by omega
    simp (disch := omega) only [nm, z_lit, z_one, z_mone, z_neg1, z_neg2, z_pred, z_add, z_mul, z_sub, z_le, z_lt, z_eq, z_tn, z_chk, z_eqm, z_meq, z_lem, z_mle, z_ltm, z_mlt, z_eqq, z_qeq, z_leq, z_qle, z_ltq, z_qlt, z_m1m2, z_m2m1, z_m1m1, z_m2m2, z_bnd1, z_bnd2, z_bnd3, z_bnd4, z_bnd5, z_bnd6, z_bnd7, z_bnd8, z_bnd9, z_bnd10, z_bnd11, z_bnd12, z_bnd13, z_bnd14, z_bnd15, z_bnd16, z_max, z_min, z_n31, z_shl, z_shr, z_us, z_div, z_mod, z_and, z_or, z_xor, if_true, if_false, h2, n2]
  · have n2 : d < 5 := by omega
    simp (disch := omega) only [nm, z_lit, z_one, z_mone, z_neg1, z_neg2, z_pred, z_add, z_mul, z_sub, z_le, z_lt, z_eq, z_tn, z_chk, z_eqm, z_meq, z_lem, z_mle, z_ltm, z_mlt, z_eqq, z_qeq, z_leq, z_qle, z_ltq, z_qlt, z_m1m2, z_m2m1, z_m1m1, z_m2m2, z_bnd1, z_bnd2, z_bnd3, z_bnd4, z_bnd5, z_bnd6, z_bnd7, z_bnd8, z_bnd9, z_bnd10, z_bnd11, z_bnd12, z_bnd13, z_bnd14, z_bnd15, z_bnd16, z_max, z_min, z_n31, z_shl, z_shr, z_us, z_div, z_mod, z_and, z_or, z_xor, if_true, if_false, h2, n2]
/-- extra bits behind a symbol -/
def sx (s : Nat) : Nat := if 257 ≤ s ∧ s < 286 then tbn 1 (s - 257) else 0
theorem s_lextra (F s : Nat) (h1 : 257 ≤ s) (h2 : s < 286) : m_DE_literalExtra F (nI s) = some (nI (sx s)) := by
  unfold m_DE_literalExtra sx
  obtain ⟨e1, b1⟩ := tb1 (s - 257) (by omega)
  have e0 : s - 256 - 1 = s - 257 := by omega
  have n1 : ¬ (s - 257 < 0) := by omega
  have n2 : ¬ (29 ≤ s - 257) := by omega
  have h3 : 257 ≤ s ∧ s < 286 := ⟨h1, h2⟩
  simp (disch := omega) only [nm, z_lit, z_one, z_mone, z_neg1, z_neg2, z_pred, z_add, z_mul, z_sub, z_le, z_lt, z_eq, z_tn, z_chk, z_eqm, z_meq, z_lem, z_mle, z_ltm, z_mlt, z_eqq, z_qeq, z_leq, z_qle, z_ltq, z_qlt, z_m1m2, z_m2m1, z_m1m1, z_m2m2, z_bnd1, z_bnd2, z_bnd3, z_bnd4, z_bnd5, z_bnd6, z_bnd7, z_bnd8, z_bnd9, z_bnd10, z_bnd11, z_bnd12, z_bnd13, z_bnd14, z_bnd15, z_bnd16, z_max, z_min, z_n31, z_shl, z_shr, z_us, z_div, z_mod, z_and, z_or, z_xor, if_true, if_false, tn1, e0, n1, n2, e1, h3, true_and]
/-- the fixed code's lengths -/
def fl (s : Nat) : Nat := if s < 144 then 8 else if s < 256 then 9 else if s < 280 then 7 else 8
theorem s_flen (F s : Nat) (hs : s < 1000) : m_DE_fixedLength F (nI s) = some (nI (fl s)) := by
  unfold m_DE_fixedLength fl
  by_cases h1 : s < 144
  · have n1 : ¬ (144 ≤ s) := by omega
    simp (disch := omega) only [nm, z_lit, z_one, z_mone, z_neg1, z_neg2, z_pred, z_add, z_mul, z_sub, z_le, z_lt, z_eq, z_tn, z_chk, z_eqm, z_meq, z_lem, z_mle, z_ltm, z_mlt, z_eqq, z_qeq, z_leq, z_qle, z_ltq, z_qlt, z_m1m2, z_m2m1, z_m1m1, z_m2m2, z_bnd1, z_bnd2, z_bnd3, z_bnd4, z_bnd5, z_bnd6, z_bnd7, z_bnd8, z_bnd9, z_bnd10, z_bnd11, z_bnd12, z_bnd13, z_bnd14, z_bnd15, z_bnd16, z_max, z_min, z_n31, z_shl, z_shr, z_us, z_div, z_mod, z_and, z_or, z_xor, if_true, if_false, h1, n1]
  · have n1 : 144 ≤ s := by omega
    by_cases h2 : s < 256
    · have n2 : ¬ (256 ≤ s) := by omega
      simp (disch := omega) only [nm, z_lit, z_one, z_mone, z_neg1, z_neg2, z_pred, z_add, z_mul, z_sub, z_le, z_lt, z_eq, z_tn, z_chk, z_eqm, z_meq, z_lem, z_mle, z_ltm, z_mlt, z_eqq, z_qeq, z_leq, z_qle, z_ltq, z_qlt, z_m1m2, z_m2m1, z_m1m1, z_m2m2, z_bnd1, z_bnd2, z_bnd3, z_bnd4, z_bnd5, z_bnd6, z_bnd7, z_bnd8, z_bnd9, z_bnd10, z_bnd11, z_bnd12, z_bnd13, z_bnd14, z_bnd15, z_bnd16, z_max, z_min, z_n31, z_shl, z_shr, z_us, z_div, z_mod, z_and, z_or, z_xor, if_true, if_false, h1, n1, h2, n2]
    · have n2 : 256 ≤ s := by omega
      by_cases h3 : s < 280
      · have n3 : ¬ (280 ≤ s) := by omega
        simp (disch := omega) only [nm, z_lit, z_one, z_mone, z_neg1, z_neg2, z_pred, z_add, z_mul, z_sub, z_le, z_lt, z_eq, z_tn, z_chk, z_eqm, z_meq, z_lem, z_mle, z_ltm, z_mlt, z_eqq, z_qeq, z_leq, z_qle, z_ltq, z_qlt, z_m1m2, z_m2m1, z_m1m1, z_m2m2, z_bnd1, z_bnd2, z_bnd3, z_bnd4, z_bnd5, z_bnd6, z_bnd7, z_bnd8, z_bnd9, z_bnd10, z_bnd11, z_bnd12, z_bnd13, z_bnd14, z_bnd15, z_bnd16, z_max, z_min, z_n31, z_shl, z_shr, z_us, z_div, z_mod, z_and, z_or, z_xor, if_true, if_false, h1, n1, h2, n2, h3, n3]
      · have n3 : 280 ≤ s := by omega
        simp (disch := omega) only [nm, z_lit, z_one, z_mone, z_neg1, z_neg2, z_pred, z_add, z_mul, z_sub, z_le, z_lt, z_eq, z_tn, z_chk, z_eqm, z_meq, z_lem, z_mle, z_ltm, z_mlt, z_eqq, z_qeq, z_leq, z_qle, z_ltq, z_qlt, z_m1m2, z_m2m1, z_m1m1, z_m2m2, z_bnd1, z_bnd2, z_bnd3, z_bnd4, z_bnd5, z_bnd6, z_bnd7, z_bnd8, z_bnd9, z_bnd10, z_bnd11, z_bnd12, z_bnd13, z_bnd14, z_bnd15, z_bnd16, z_max, z_min, z_n31, z_shl, z_shr, z_us, z_div, z_mod, z_and, z_or, z_xor, if_true, if_false, h1, n1, h2, n2, h3, n3]
/-- the extra bits of the lengths' code -/
def rxb (s : Nat) : Nat := if s = 16 then 2 else if s = 17 then 3 else if s = 18 then 7 else 0
theorem s_rextra (F s : Nat) (hs : s < 100) : m_DE_repeatExtra F (nI s) = some (nI (rxb s)) ∧ m_MD_extraOfRow F (nI s) = some (nI (rxb s)) := by
  unfold m_DE_repeatExtra m_MD_extraOfRow rxb
  by_cases h1 : s = 16
  · simp (disch := omega) only [nm, z_lit, z_one, z_mone, z_neg1, z_neg2, z_pred, z_add, z_mul, z_sub, z_le, z_lt, z_eq, z_tn, z_chk, z_eqm, z_meq, z_lem, z_mle, z_ltm, z_mlt, z_eqq, z_qeq, z_leq, z_qle, z_ltq, z_qlt, z_m1m2, z_m2m1, z_m1m1, z_m2m2, z_bnd1, z_bnd2, z_bnd3, z_bnd4, z_bnd5, z_bnd6, z_bnd7, z_bnd8, z_bnd9, z_bnd10, z_bnd11, z_bnd12, z_bnd13, z_bnd14, z_bnd15, z_bnd16, z_max, z_min, z_n31, z_shl, z_shr, z_us, z_div, z_mod, z_and, z_or, z_xor, if_true, if_false, h1, and_self]
  · by_cases h2 : s = 17
    · simp (disch := omega) only [nm, z_lit, z_one, z_mone, z_neg1, z_neg2, z_pred, z_add, z_mul, z_sub, z_le, z_lt, z_eq, z_tn, z_chk, z_eqm, z_meq, z_lem, z_mle, z_ltm, z_mlt, z_eqq, z_qeq, z_leq, z_qle, z_ltq, z_qlt, z_m1m2, z_m2m1, z_m1m1, z_m2m2, z_bnd1, z_bnd2, z_bnd3, z_bnd4, z_bnd5, z_bnd6, z_bnd7, z_bnd8, z_bnd9, z_bnd10, z_bnd11, z_bnd12, z_bnd13, z_bnd14, z_bnd15, z_bnd16, z_max, z_min, z_n31, z_shl, z_shr, z_us, z_div, z_mod, z_and, z_or, z_xor, if_true, if_false, h1, h2, and_self]
      simp
    · by_cases h3 : s = 18
      · simp (disch := omega) only [nm, z_lit, z_one, z_mone, z_neg1, z_neg2, z_pred, z_add, z_mul, z_sub, z_le, z_lt, z_eq, z_tn, z_chk, z_eqm, z_meq, z_lem, z_mle, z_ltm, z_mlt, z_eqq, z_qeq, z_leq, z_qle, z_ltq, z_qlt, z_m1m2, z_m2m1, z_m1m1, z_m2m2, z_bnd1, z_bnd2, z_bnd3, z_bnd4, z_bnd5, z_bnd6, z_bnd7, z_bnd8, z_bnd9, z_bnd10, z_bnd11, z_bnd12, z_bnd13, z_bnd14, z_bnd15, z_bnd16, z_max, z_min, z_n31, z_shl, z_shr, z_us, z_div, z_mod, z_and, z_or, z_xor, if_true, if_false, h1, h2, h3, and_self]
        simp
      · simp (disch := omega) only [nm, z_lit, z_one, z_mone, z_neg1, z_neg2, z_pred, z_add, z_mul, z_sub, z_le, z_lt, z_eq, z_tn, z_chk, z_eqm, z_meq, z_lem, z_mle, z_ltm, z_mlt, z_eqq, z_qeq, z_leq, z_qle, z_ltq, z_qlt, z_m1m2, z_m2m1, z_m1m1, z_m2m2, z_bnd1, z_bnd2, z_bnd3, z_bnd4, z_bnd5, z_bnd6, z_bnd7, z_bnd8, z_bnd9, z_bnd10, z_bnd11, z_bnd12, z_bnd13, z_bnd14, z_bnd15, z_bnd16, z_max, z_min, z_n31, z_shl, z_shr, z_us, z_div, z_mod, z_and, z_or, z_xor, if_true, if_false, h1, h2, h3, and_self]
theorem s_order (F k : Nat) (hk : k < 19) : m_MD_orderOf F (nI k) = some (nI (tbn 4 k)) := by
  have h : ∀ k : Fin 19, m_MD_orderOf 0 (nI k.1) = some (nI (tbn 4 k.1)) := by decide +kernel
  exact h ⟨k, hk⟩
/-- tokens of the class -/
theorem s_mtok (F n d : Nat) (hn : n < 1000) (hd : d < 65536) : m_DE_matchToken F (nI n) (nI d) = some (nI (n * 65536 + d)) := by
  unfold m_DE_matchToken
  simp (disch := omega) only [nm, z_lit, z_one, z_mone, z_neg1, z_neg2, z_pred, z_add, z_mul, z_sub, z_le, z_lt, z_eq, z_tn, z_chk, z_eqm, z_meq, z_lem, z_mle, z_ltm, z_mlt, z_eqq, z_qeq, z_leq, z_qle, z_ltq, z_qlt, z_m1m2, z_m2m1, z_m1m1, z_m2m2, z_bnd1, z_bnd2, z_bnd3, z_bnd4, z_bnd5, z_bnd6, z_bnd7, z_bnd8, z_bnd9, z_bnd10, z_bnd11, z_bnd12, z_bnd13, z_bnd14, z_bnd15, z_bnd16, z_max, z_min, z_n31, z_shl, z_shr, z_us, z_div, z_mod, z_and, z_or, z_xor, if_true, if_false]
  rw [Nat.shiftLeft_eq, Nat.mul_comm, ← Nat.two_pow_add_eq_or_of_lt (i := 16) (by omega)]
theorem s_tlen (F t : Nat) (ht : t < 2147483648) : m_DE_tokenLength F (nI t) = some (nI (t / 65536)) := by
  unfold m_DE_tokenLength
  simp (disch := omega) only [nm, z_lit, z_one, z_mone, z_neg1, z_neg2, z_pred, z_add, z_mul, z_sub, z_le, z_lt, z_eq, z_tn, z_chk, z_eqm, z_meq, z_lem, z_mle, z_ltm, z_mlt, z_eqq, z_qeq, z_leq, z_qle, z_ltq, z_qlt, z_m1m2, z_m2m1, z_m1m1, z_m2m2, z_bnd1, z_bnd2, z_bnd3, z_bnd4, z_bnd5, z_bnd6, z_bnd7, z_bnd8, z_bnd9, z_bnd10, z_bnd11, z_bnd12, z_bnd13, z_bnd14, z_bnd15, z_bnd16, z_max, z_min, z_n31, z_shl, z_shr, z_us, z_div, z_mod, z_and, z_or, z_xor, if_true, if_false]
  rw [Nat.shiftRight_eq_div_pow]
theorem s_tdist (F t : Nat) : m_DE_tokenDistance F (nI t) = some (nI (t % 65536)) := by
  unfold m_DE_tokenDistance
  simp only [z_lit, z_and]
  have h : t &&& 65535 = t % 65536 := Nat.and_two_pow_sub_one_eq_mod t 16
  rw [h]
