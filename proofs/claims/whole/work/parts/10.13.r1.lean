/-! the row of both codes' lengths -/
/-- how many lengths there are up to the last one that is not 0, but lo at least -/
def um (L : Nat → Nat) (lo : Nat) : Nat → Nat
  | 0 => 0
  | k + 1 => if k + 1 ≤ lo then k + 1 else if L k = 0 then um L lo k else k + 1
theorem um_le (L : Nat → Nat) (lo : Nat) : ∀ k, um L lo k ≤ k := by
  intro k
  induction k with
  | zero => exact Nat.le_refl _
  | succ k ih => rw [um]; split
                 · exact Nat.le_refl _
                 · split <;> omega
theorem um_ge (L : Nat → Nat) (lo : Nat) : ∀ k, lo ≤ k → lo ≤ um L lo k := by
  intro k
  induction k with
  | zero => intro h; exact h
  | succ k ih => intro h; rw [um]; split
                 · exact h
                 · split
                   · exact ih (by omega)
                   · exact h
theorem l_used (F N lo : Nat) (p : Nat → Int32) (L : Nat → Nat) (hN : N < 1000) (hlo : 1 ≤ lo) (hlo2 : lo < 1000) (hp : ∀ j, j < N → p j = nI (L j) ∧ L j < 1000000) : ∀ (f k : Nat), lo ≤ k → k ≤ N → k < f → L_Code_usedLengths_6 F N p (nI lo) f (nI k) = some (nI (um L lo k)) := by
  intro f
  induction f with
  | zero => intro k _ _ h; omega
  | succ f ih =>
    intro k h1 h2 hf
    obtain ⟨j, rfl⟩ : ∃ j, k = j + 1 := ⟨k - 1, by omega⟩
    unfold L_Code_usedLengths_6 B_Code_usedLengths_6
    rw [um]
    by_cases h : j + 1 ≤ lo
    · simp (disch := omega) only [nm, z_lit, z_one, z_mone, z_neg1, z_neg2, z_pred, z_add, z_mul, z_sub, z_le, z_lt, z_eq, z_tn, z_chk, z_eqm, z_meq, z_lem, z_mle, z_ltm, z_mlt, z_eqq, z_qeq, z_leq, z_qle, z_ltq, z_qlt, z_m1m2, z_m2m1, z_m1m1, z_m2m2, z_bnd1, z_bnd2, z_bnd3, z_bnd4, z_bnd5, z_bnd6, z_bnd7, z_bnd8, z_bnd9, z_bnd10, z_bnd11, z_bnd12, z_bnd13, z_bnd14, z_bnd15, z_bnd16, z_max, z_min, z_n31, z_shl, z_shr, z_us, z_div, z_mod, z_and, z_or, z_xor, if_true, if_false, h]
    · have e1 := hp j (by omega)
      have n0 : ¬ (j + 1 ≤ 0) := by omega
      have es : j + 1 - 1 = j := by omega
      by_cases h3 : L j = 0
      · simp (disch := omega) only [nm, z_lit, z_one, z_mone, z_neg1, z_neg2, z_pred, z_add, z_mul, z_sub, z_le, z_lt, z_eq, z_tn, z_chk, z_eqm, z_meq, z_lem, z_mle, z_ltm, z_mlt, z_eqq, z_qeq, z_leq, z_qle, z_ltq, z_qlt, z_m1m2, z_m2m1, z_m1m1, z_m2m2, z_bnd1, z_bnd2, z_bnd3, z_bnd4, z_bnd5, z_bnd6, z_bnd7, z_bnd8, z_bnd9, z_bnd10, z_bnd11, z_bnd12, z_bnd13, z_bnd14, z_bnd15, z_bnd16, z_max, z_min, z_n31, z_shl, z_shr, z_us, z_div, z_mod, z_and, z_or, z_xor, if_true, if_false, h, n0, es, e1.1, h3]
        exact ih j (by omega) (by omega) (by omega)
      · simp (disch := omega) only [nm, z_lit, z_one, z_mone, z_neg1, z_neg2, z_pred, z_add, z_mul, z_sub, z_le, z_lt, z_eq, z_tn, z_chk, z_eqm, z_meq, z_lem, z_mle, z_ltm, z_mlt, z_eqq, z_qeq, z_leq, z_qle, z_ltq, z_qlt, z_m1m2, z_m2m1, z_m1m1, z_m2m2, z_bnd1, z_bnd2, z_bnd3, z_bnd4, z_bnd5, z_bnd6, z_bnd7, z_bnd8, z_bnd9, z_bnd10, z_bnd11, z_bnd12, z_bnd13, z_bnd14, z_bnd15, z_bnd16, z_max, z_min, z_n31, z_shl, z_shr, z_us, z_div, z_mod, z_and, z_or, z_xor, if_true, if_false, h, n0, es, e1.1, h3]
theorem s_used (F N lo : Nat) (p : Nat → Int32) (L : Nat → Nat) (hF : 100000 ≤ F) (hN : N < 1000) (hlo : 1 ≤ lo) (hlo2 : lo ≤ N) (hp : ∀ j, j < N → p j = nI (L j) ∧ L j < 1000000) : m_Code_usedLengths F N p (nI lo) = some (nI (um L lo N)) := by
  unfold m_Code_usedLengths
  simp only [nm]
  rw [l_used F N lo p L hN hlo (by omega) hp F N hlo2 (Nat.le_refl _) (by omega)]
  rfl
theorem l_lm (F : Nat) (p : Nat → Int32) (L : Nat → Nat) (hp : ∀ j, j < 286 → p j = nI (L j) ∧ L j < 1000000) : ∀ (f k : Nat), 257 ≤ k → k ≤ 286 → k < f → L_MD_ownCodes_41 F p f (nI k) = some (nI (um L 257 k)) := by
  intro f
  induction f with
  | zero => intro k _ _ h; omega
  | succ f ih =>
    intro k h1 h2 hf
    obtain ⟨j, rfl⟩ : ∃ j, k = j + 1 := ⟨k - 1, by omega⟩
    unfold L_MD_ownCodes_41 B_MD_ownCodes_41
    rw [um]
    by_cases h : j + 1 ≤ 257
    · simp (disch := omega) only [nm, z_lit, z_one, z_mone, z_neg1, z_neg2, z_pred, z_add, z_mul, z_sub, z_le, z_lt, z_eq, z_tn, z_chk, z_eqm, z_meq, z_lem, z_mle, z_ltm, z_mlt, z_eqq, z_qeq, z_leq, z_qle, z_ltq, z_qlt, z_m1m2, z_m2m1, z_m1m1, z_m2m2, z_bnd1, z_bnd2, z_bnd3, z_bnd4, z_bnd5, z_bnd6, z_bnd7, z_bnd8, z_bnd9, z_bnd10, z_bnd11, z_bnd12, z_bnd13, z_bnd14, z_bnd15, z_bnd16, z_max, z_min, z_n31, z_shl, z_shr, z_us, z_div, z_mod, z_and, z_or, z_xor, if_true, if_false, h]
    · have e1 := hp j (by omega)
      have es : j + 1 - 1 = j := by omega
      by_cases h3 : L j = 0
      · simp (disch := omega) only [nm, z_lit, z_one, z_mone, z_neg1, z_neg2, z_pred, z_add, z_mul, z_sub, z_le, z_lt, z_eq, z_tn, z_chk, z_eqm, z_meq, z_lem, z_mle, z_ltm, z_mlt, z_eqq, z_qeq, z_leq, z_qle, z_ltq, z_qlt, z_m1m2, z_m2m1, z_m1m1, z_m2m2, z_bnd1, z_bnd2, z_bnd3, z_bnd4, z_bnd5, z_bnd6, z_bnd7, z_bnd8, z_bnd9, z_bnd10, z_bnd11, z_bnd12, z_bnd13, z_bnd14, z_bnd15, z_bnd16, z_max, z_min, z_n31, z_shl, z_shr, z_us, z_div, z_mod, z_and, z_or, z_xor, if_true, if_false, h, es, e1.1, h3]
        exact ih j (by omega) (by omega) (by omega)
      · simp (disch := omega) only [nm, z_lit, z_one, z_mone, z_neg1, z_neg2, z_pred, z_add, z_mul, z_sub, z_le, z_lt, z_eq, z_tn, z_chk, z_eqm, z_meq, z_lem, z_mle, z_ltm, z_mlt, z_eqq, z_qeq, z_leq, z_qle, z_ltq, z_qlt, z_m1m2, z_m2m1, z_m1m1, z_m2m2, z_bnd1, z_bnd2, z_bnd3, z_bnd4, z_bnd5, z_bnd6, z_bnd7, z_bnd8, z_bnd9, z_bnd10, z_bnd11, z_bnd12, z_bnd13, z_bnd14, z_bnd15, z_bnd16, z_max, z_min, z_n31, z_shl, z_shr, z_us, z_div, z_mod, z_and, z_or, z_xor, if_true, if_false, h, es, e1.1, h3]
theorem l_fm (F : Nat) (p : Nat → Int32) (L : Nat → Nat) (hp : ∀ j, j < 30 → p j = nI (L j) ∧ L j < 1000000) : ∀ (f k : Nat), 1 ≤ k → k ≤ 30 → k < f → L_MD_ownCodes_84 F p f (nI k) = some (nI (um L 1 k)) := by
  intro f
  induction f with
  | zero => intro k _ _ h; omega
  | succ f ih =>
    intro k h1 h2 hf
    obtain ⟨j, rfl⟩ : ∃ j, k = j + 1 := ⟨k - 1, by omega⟩
    unfold L_MD_ownCodes_84 B_MD_ownCodes_84
    rw [um]
    by_cases h : j + 1 ≤ 1
    · simp (disch := omega) only [nm, z_lit, z_one, z_mone, z_neg1, z_neg2, z_pred, z_add, z_mul, z_sub, z_le, z_lt, z_eq, z_tn, z_chk, z_eqm, z_meq, z_lem, z_mle, z_ltm, z_mlt, z_eqq, z_qeq, z_leq, z_qle, z_ltq, z_qlt, z_m1m2, z_m2m1, z_m1m1, z_m2m2, z_bnd1, z_bnd2, z_bnd3, z_bnd4, z_bnd5, z_bnd6, z_bnd7, z_bnd8, z_bnd9, z_bnd10, z_bnd11, z_bnd12, z_bnd13, z_bnd14, z_bnd15, z_bnd16, z_max, z_min, z_n31, z_shl, z_shr, z_us, z_div, z_mod, z_and, z_or, z_xor, if_true, if_false, h]
    · have e1 := hp j (by omega)
      have es : j + 1 - 1 = j := by omega
      by_cases h3 : L j = 0
      · simp (disch := omega) only [nm, z_lit, z_one, z_mone, z_neg1, z_neg2, z_pred, z_add, z_mul, z_sub, z_le, z_lt, z_eq, z_tn, z_chk, z_eqm, z_meq, z_lem, z_mle, z_ltm, z_mlt, z_eqq, z_qeq, z_leq, z_qle, z_ltq, z_qlt, z_m1m2, z_m2m1, z_m1m1, z_m2m2, z_bnd1, z_bnd2, z_bnd3, z_bnd4, z_bnd5, z_bnd6, z_bnd7, z_bnd8, z_bnd9, z_bnd10, z_bnd11, z_bnd12, z_bnd13, z_bnd14, z_bnd15, z_bnd16, z_max, z_min, z_n31, z_shl, z_shr, z_us, z_div, z_mod, z_and, z_or, z_xor, if_true, if_false, h, es, e1.1, h3]
        exact ih j (by omega) (by omega) (by omega)
      · simp (disch := omega) only [nm, z_lit, z_one, z_mone, z_neg1, z_neg2, z_pred, z_add, z_mul, z_sub, z_le, z_lt, z_eq, z_tn, z_chk, z_eqm, z_meq, z_lem, z_mle, z_ltm, z_mlt, z_eqq, z_qeq, z_leq, z_qle, z_ltq, z_qlt, z_m1m2, z_m2m1, z_m1m1, z_m2m2, z_bnd1, z_bnd2, z_bnd3, z_bnd4, z_bnd5, z_bnd6, z_bnd7, z_bnd8, z_bnd9, z_bnd10, z_bnd11, z_bnd12, z_bnd13, z_bnd14, z_bnd15, z_bnd16, z_max, z_min, z_n31, z_shl, z_shr, z_us, z_div, z_mod, z_and, z_or, z_xor, if_true, if_false, h, es, e1.1, h3]
/-- runs told, and where the run at hand began, behind the place k -/
def rst (x : Nat → Nat) : Nat → List (Nat × Nat) × Nat
  | 0 => ([], 0)
  | k + 1 => if x (k + 1) = x (rst x k).2 then rst x k else ((rst x k).1 ++ run (x (rst x k).2) (k + 1 - (rst x k).2), k + 1)
def rows (x : Nat → Nat) (n : Nat) : List (Nat × Nat) := (rst x (n - 1)).1 ++ run (x (rst x (n - 1)).2) (n - (rst x (n - 1)).2)
theorem rst_le (x : Nat → Nat) : ∀ k, (rst x k).2 ≤ k ∧ (rst x k).1.length ≤ (rst x k).2 := by
  intro k
  induction k with
  | zero => exact ⟨Nat.le_refl _, Nat.le_refl _⟩
  | succ k ih =>
    rw [rst]
    split
    · omega
    · have := run_len (x (rst x k).2) (k + 1 - (rst x k).2)
      simp only [List.length_append]
      omega
theorem rst_ok (x : Nat → Nat) (N : Nat) (hx : ∀ i, i < N → x i < 19) : ∀ k, k < N → rok (rst x k).1 := by
  intro k
  induction k with
  | zero => intro _ e he; simp [rst] at he
  | succ k ih =>
    intro hk
    rw [rst]
    split
    · exact ih (by omega)
    · have := rst_le x k
      exact rok_app (ih (by omega)) (run_ok _ _ (hx _ (by omega)))
theorem rows_len (x : Nat → Nat) (n : Nat) (hn : 0 < n) : (rows x n).length ≤ n := by
  unfold rows
  have := rst_le x (n - 1)
  have := run_len (x (rst x (n - 1)).2) (n - (rst x (n - 1)).2)
  rw [List.length_append]; omega
theorem rows_ok (x : Nat → Nat) (n : Nat) (hn : 0 < n) (hx : ∀ i, i < n → x i < 19) : rok (rows x n) := by
  have := rst_le x (n - 1)
  exact rok_app (rst_ok x n hx (n - 1) (by omega)) (run_ok _ _ (hx _ (by omega)))
/-- the lengths in their row -/
def xr (L D : Nat → Nat) (lm : Nat) (i : Nat) : Nat := if i < lm then L i else D (i - lm)
theorem l_tb55 (F : Nat) (pl pd : Nat → Int32) (L D : Nat → Nat) (lm fm : Nat) (hF : 100000 ≤ F) (hlm : lm ≤ 286) (hlm1 : 1 ≤ lm) (hfm : fm ≤ 30) (hL : ∀ j, j < 286 → pl j = nI (L j) ∧ L j < 19) (hD : ∀ j, j < 30 → pd j = nI (D j) ∧ D j < 19) : ∀ (f k : Nat) (cc row : Nat → Int32), k + 1 ≤ lm + fm → lm + fm - (k + 1) < f → crow (rst (xr L D lm) k).1 cc row → ∃ cc' row', L_LengthRow_tellBoth_55 F 286 30 pl pd (nI lm) (nI (lm + fm)) f (nI (k + 1 - (rst (xr L D lm) k).2)) (nI (xr L D lm (rst (xr L D lm) k).2)) (nI (k + 1)) (nI (rst (xr L D lm) k).1.length) cc row = some (nI (lm + fm - (rst (xr L D lm) (lm + fm - 1)).2), nI (xr L D lm (rst (xr L D lm) (lm + fm - 1)).2), nI (lm + fm), nI (rst (xr L D lm) (lm + fm - 1)).1.length, cc', row') ∧ crow (rst (xr L D lm) (lm + fm - 1)).1 cc' row' := by
  have hx : ∀ i, i < lm + fm → xr L D lm i < 19 := fun i hi => by
    unfold xr; split
    · exact (hL i (by omega)).2
    · exact (hD (i - lm) (by omega)).2
  intro f
  induction f with
  | zero => intro k cc row _ h; omega
  | succ f ih =>
    intro k cc row hk hf C
    have rl := rst_le (xr L D lm) k
    unfold L_LengthRow_tellBoth_55 B_LengthRow_tellBoth_55
    by_cases h : lm + fm ≤ k + 1
    · have e : k = lm + fm - 1 := by omega
      have e2 : k + 1 = lm + fm := by omega
      rw [e2, ← e]
      exact ⟨cc, row, by simp (disch := omega) only [nm, z_lit, z_one, z_mone, z_neg1, z_neg2, z_pred, z_add, z_mul, z_sub, z_le, z_lt, z_eq, z_tn, z_chk, z_eqm, z_meq, z_lem, z_mle, z_ltm, z_mlt, z_eqq, z_qeq, z_leq, z_qle, z_ltq, z_qlt, z_m1m2, z_m2m1, z_m1m1, z_m2m2, z_bnd1, z_bnd2, z_bnd3, z_bnd4, z_bnd5, z_bnd6, z_bnd7, z_bnd8, z_bnd9, z_bnd10, z_bnd11, z_bnd12, z_bnd13, z_bnd14, z_bnd15, z_bnd16, z_max, z_min, z_n31, z_shl, z_shr, z_us, z_div, z_mod, z_and, z_or, z_xor, if_true, if_false, Nat.le_refl], C⟩
    · have e1 : (if nI lm ≤ nI (k + 1) then chk (inb (nI (k + 1) - nI lm) 30) (some (pd (nI (k + 1) - nI lm).toNatClampNeg)) else chk (inb (nI (k + 1)) 286) (some (pl (nI (k + 1)).toNatClampNeg))) = some (nI (xr L D lm (k + 1))) := by
        unfold xr
        by_cases q : lm ≤ k + 1
        · have e9 := (hD (k + 1 - lm) (by omega)).1
          have n9 : ¬ (k + 1 < lm) := by omega
          simp (disch := omega) only [nm, z_lit, z_one, z_mone, z_neg1, z_neg2, z_pred, z_add, z_mul, z_sub, z_le, z_lt, z_eq, z_tn, z_chk, z_eqm, z_meq, z_lem, z_mle, z_ltm, z_mlt, z_eqq, z_qeq, z_leq, z_qle, z_ltq, z_qlt, z_m1m2, z_m2m1, z_m1m1, z_m2m2, z_bnd1, z_bnd2, z_bnd3, z_bnd4, z_bnd5, z_bnd6, z_bnd7, z_bnd8, z_bnd9, z_bnd10, z_bnd11, z_bnd12, z_bnd13, z_bnd14, z_bnd15, z_bnd16, z_max, z_min, z_n31, z_shl, z_shr, z_us, z_div, z_mod, z_and, z_or, z_xor, if_true, if_false, q, e9, n9]
        · have e9 := (hL (k + 1) (by omega)).1
          have n9 : k + 1 < lm := by omega
          simp (disch := omega) only [nm, z_lit, z_one, z_mone, z_neg1, z_neg2, z_pred, z_add, z_mul, z_sub, z_le, z_lt, z_eq, z_tn, z_chk, z_eqm, z_meq, z_lem, z_mle, z_ltm, z_mlt, z_eqq, z_qeq, z_leq, z_qle, z_ltq, z_qlt, z_m1m2, z_m2m1, z_m1m1, z_m2m2, z_bnd1, z_bnd2, z_bnd3, z_bnd4, z_bnd5, z_bnd6, z_bnd7, z_bnd8, z_bnd9, z_bnd10, z_bnd11, z_bnd12, z_bnd13, z_bnd14, z_bnd15, z_bnd16, z_max, z_min, z_n31, z_shl, z_shr, z_us, z_div, z_mod, z_and, z_or, z_xor, if_true, if_false, q, e9, n9]
      have x1 := hx (k + 1) (by omega)
      have x2 := hx (rst (xr L D lm) k).2 (by omega)
      rw [e1]
      have e0 : (nI (lm + fm) ≤ nI (k + 1)) = False := by rw [z_le (by omega) (by omega)]; exact eq_false h
      simp only [e0, if_false, z_bnd1]
      by_cases q : xr L D lm (k + 1) = xr L D lm (rst (xr L D lm) k).2
      · have e3 : rst (xr L D lm) (k + 1) = rst (xr L D lm) k := by rw [rst, if_pos q]
        have ih' := ih (k + 1) cc row (by omega) (by omega) (by rw [e3]; exact C)
        rw [e3] at ih'
        have e4 : k + 1 - (rst (xr L D lm) k).2 + 1 = k + 1 + 1 - (rst (xr L D lm) k).2 := by omega
        simp (disch := omega) only [nm, z_lit, z_one, z_mone, z_neg1, z_neg2, z_pred, z_add, z_mul, z_sub, z_le, z_lt, z_eq, z_tn, z_chk, z_eqm, z_meq, z_lem, z_mle, z_ltm, z_mlt, z_eqq, z_qeq, z_leq, z_qle, z_ltq, z_qlt, z_m1m2, z_m2m1, z_m1m1, z_m2m2, z_bnd1, z_bnd2, z_bnd3, z_bnd4, z_bnd5, z_bnd6, z_bnd7, z_bnd8, z_bnd9, z_bnd10, z_bnd11, z_bnd12, z_bnd13, z_bnd14, z_bnd15, z_bnd16, z_max, z_min, z_n31, z_shl, z_shr, z_us, z_div, z_mod, z_and, z_or, z_xor, if_true, if_false, q, e4]
        exact ih'
      · have e3 : rst (xr L D lm) (k + 1) = ((rst (xr L D lm) k).1 ++ run (xr L D lm (rst (xr L D lm) k).2) (k + 1 - (rst (xr L D lm) k).2), k + 1) := by rw [rst, if_neg q]
        obtain ⟨cc1, row1, g1, g2⟩ := s_tellEqual F (xr L D lm (rst (xr L D lm) k).2) (k + 1 - (rst (xr L D lm) k).2) _ cc row hF x2 (by omega) C
        have ih' := ih (k + 1) cc1 row1 (by omega) (by omega) (by rw [e3]; exact g2)
        rw [e3] at ih'
        have e4 : k + 1 + 1 - (k + 1) = 0 + 1 := by omega
        simp only [e4] at ih'
        simp (disch := omega) only [nm, z_lit, z_one, z_mone, z_neg1, z_neg2, z_pred, z_add, z_mul, z_sub, z_le, z_lt, z_eq, z_tn, z_chk, z_eqm, z_meq, z_lem, z_mle, z_ltm, z_mlt, z_eqq, z_qeq, z_leq, z_qle, z_ltq, z_qlt, z_m1m2, z_m2m1, z_m1m1, z_m2m2, z_bnd1, z_bnd2, z_bnd3, z_bnd4, z_bnd5, z_bnd6, z_bnd7, z_bnd8, z_bnd9, z_bnd10, z_bnd11, z_bnd12, z_bnd13, z_bnd14, z_bnd15, z_bnd16, z_max, z_min, z_n31, z_shl, z_shr, z_us, z_div, z_mod, z_and, z_or, z_xor, if_true, if_false, q, g1]
        exact ih'
theorem s_tellBoth (F : Nat) (pl pd cc row : Nat → Int32) (L D : Nat → Nat) (hF : 100000 ≤ F) (hL : ∀ j, j < 286 → pl j = nI (L j) ∧ L j < 19) (hD : ∀ j, j < 30 → pd j = nI (D j) ∧ D j < 19) : ∃ cc' row', m_LengthRow_tellBoth F 286 30 pl pd cc row = some (nI (rows (xr L D (um L 257 286)) (um L 257 286 + um D 1 30)).length, nI (um L 257 286), nI (um D 1 30), cc', row') ∧ crow (rows (xr L D (um L 257 286)) (um L 257 286 + um D 1 30)) cc' row' := by
  have u1 := s_used F 286 257 pl L hF (by omega) (by omega) (by omega) (fun j hj => ⟨(hL j hj).1, by have := (hL j hj).2; omega⟩)
  have u2 := s_used F 30 1 pd D hF (by omega) (by omega) (by omega) (fun j hj => ⟨(hD j hj).1, by have := (hD j hj).2; omega⟩)
  have a1 := um_le L 257 286
  have a2 := um_ge L 257 286 (by omega)
  have a3 := um_le D 1 30
  have a4 := um_ge D 1 30 (by omega)
  generalize um L 257 286 = lm at *
  generalize um D 1 30 = fm at *
  have hx : ∀ i, i < lm + fm → xr L D lm i < 19 := fun i hi => by
    unfold xr; split
    · exact (hL i (by omega)).2
    · exact (hD (i - lm) (by omega)).2
  have C0 : crow [] (fun j => if j < 19 then nI 0 else cc j) row := ⟨fun s hs => by simp only [if_pos hs]; rfl, fun i hi => by simp at hi⟩
  obtain ⟨cc1, row1, e1, C1⟩ := l_tb55 F pl pd L D lm fm hF a1 (by omega) a3 hL hD (F - 1) 0 _ row (by omega) (by omega) C0
  have rl := rst_le (xr L D lm) (lm + fm - 1)
  obtain ⟨cc2, row2, e2, C2⟩ := s_tellEqual F (xr L D lm (rst (xr L D lm) (lm + fm - 1)).2) (lm + fm - (rst (xr L D lm) (lm + fm - 1)).2) _ cc1 row1 hF (hx _ (by omega)) (by omega) C1
  refine ⟨cc2, row2, ?_, C2⟩
  -- the first turn of the loop
  have first : L_LengthRow_tellBoth_55 F 286 30 pl pd (nI lm) (nI (lm + fm)) F (nI 0) m1 (nI 0) (nI 0) (fun j => if j < 19 then nI 0 else cc j) row = L_LengthRow_tellBoth_55 F 286 30 pl pd (nI lm) (nI (lm + fm)) (F - 1) (nI 1) (nI (xr L D lm 0)) (nI 1) (nI 0) (fun j => if j < 19 then nI 0 else cc j) row := by
    obtain ⟨G, rfl⟩ : ∃ G, F = G + 1 := ⟨F - 1, by omega⟩
    rw [Nat.add_sub_cancel]
    show B_LengthRow_tellBoth_55 (G + 1) 286 30 pl pd (nI lm) (nI (lm + fm)) (L_LengthRow_tellBoth_55 (G + 1) 286 30 pl pd (nI lm) (nI (lm + fm)) G) _ _ _ _ _ _ = _
    unfold B_LengthRow_tellBoth_55
    have n1 : ¬ (lm + fm ≤ 0) := by omega
    have n2 : ¬ (lm ≤ 0) := by omega
    have e9 := (hL 0 (by omega)).1
    have b9 := (hL 0 (by omega)).2
    have e8 : xr L D lm 0 = L 0 := by unfold xr; rw [if_pos (by omega)]
    have e7 := s_tellEqual0 (G + 1) [] (fun j => if j < 19 then nI 0 else cc j) row hF
    have e6 : ([] : List (Nat × Nat)).length = 0 := rfl
    rw [e6] at e7
    simp (disch := omega) only [nm, z_lit, z_one, z_mone, z_neg1, z_neg2, z_pred, z_add, z_mul, z_sub, z_le, z_lt, z_eq, z_tn, z_chk, z_eqm, z_meq, z_lem, z_mle, z_ltm, z_mlt, z_eqq, z_qeq, z_leq, z_qle, z_ltq, z_qlt, z_m1m2, z_m2m1, z_m1m1, z_m2m2, z_bnd1, z_bnd2, z_bnd3, z_bnd4, z_bnd5, z_bnd6, z_bnd7, z_bnd8, z_bnd9, z_bnd10, z_bnd11, z_bnd12, z_bnd13, z_bnd14, z_bnd15, z_bnd16, z_max, z_min, z_n31, z_shl, z_shr, z_us, z_div, z_mod, z_and, z_or, z_xor, if_true, if_false, n1, n2, e9, e7, e8]
  unfold m_LengthRow_tellBoth
  rw [show (257 : Int32) = nI 257 from rfl, show (1 : Int32) = nI 1 from rfl, u1, z_bnd1, u2, z_bnd1, s_fill2 F 19 _ _ (by omega) (by omega), z_bnd1]
  simp only [z_lit, z_neg1, nm, z_add]
  rw [first]
  have e3 : (rst (xr L D lm) 0).2 = 0 := rfl
  have e4 : (rst (xr L D lm) 0).1.length = 0 := rfl
  rw [e3, e4] at e1
  rw [e1, z_bnd6, e2, z_bnd3]
  rfl
/-! the model's row -/
theorem s_lir (F : Nat) (pl pd : Nat → Int32) (L D : Nat → Nat) (lm i : Nat) (hlm : lm ≤ 286) (hi : i < lm + 30) (hL : ∀ j, j < 286 → pl j = nI (L j)) (hD : ∀ j, j < 30 → pd j = nI (D j)) : m_MD_lengthInRow F pd pl (nI lm) (nI i) = some (nI (xr L D lm i)) := by
  unfold m_MD_lengthInRow xr
  by_cases q : lm ≤ i
  · have e9 := hD (i - lm) (by omega)
    have n9 : ¬ (i < lm) := by omega
    simp (disch := omega) only [nm, z_lit, z_one, z_mone, z_neg1, z_neg2, z_pred, z_add, z_mul, z_sub, z_le, z_lt, z_eq, z_tn, z_chk, z_eqm, z_meq, z_lem, z_mle, z_ltm, z_mlt, z_eqq, z_qeq, z_leq, z_qle, z_ltq, z_qlt, z_m1m2, z_m2m1, z_m1m1, z_m2m2, z_bnd1, z_bnd2, z_bnd3, z_bnd4, z_bnd5, z_bnd6, z_bnd7, z_bnd8, z_bnd9, z_bnd10, z_bnd11, z_bnd12, z_bnd13, z_bnd14, z_bnd15, z_bnd16, z_max, z_min, z_n31, z_shl, z_shr, z_us, z_div, z_mod, z_and, z_or, z_xor, if_true, if_false, q, e9, n9]
  · have e9 := hL i (by omega)
    have n9 : i < lm := by omega
    simp (disch := omega) only [nm, z_lit, z_one, z_mone, z_neg1, z_neg2, z_pred, z_add, z_mul, z_sub, z_le, z_lt, z_eq, z_tn, z_chk, z_eqm, z_meq, z_lem, z_mle, z_ltm, z_mlt, z_eqq, z_qeq, z_leq, z_qle, z_ltq, z_qlt, z_m1m2, z_m2m1, z_m1m1, z_m2m2, z_bnd1, z_bnd2, z_bnd3, z_bnd4, z_bnd5, z_bnd6, z_bnd7, z_bnd8, z_bnd9, z_bnd10, z_bnd11, z_bnd12, z_bnd13, z_bnd14, z_bnd15, z_bnd16, z_max, z_min, z_n31, z_shl, z_shr, z_us, z_div, z_mod, z_and, z_or, z_xor, if_true, if_false, q, e9, n9]
theorem l_oc128 (F : Nat) (pl pd : Nat → Int32) (L D : Nat → Nat) (lm fm : Nat) (hF : 100000 ≤ F) (hlm : lm ≤ 286) (hlm1 : 1 ≤ lm) (hfm1 : 1 ≤ fm) (hfm : fm ≤ 30) (hL : ∀ j, j < 286 → pl j = nI (L j) ∧ L j < 19) (hD : ∀ j, j < 30 → pd j = nI (D j) ∧ D j < 19) : ∀ (f k : Nat) (mo sy : Nat → Int32), k + 1 ≤ lm + fm → lm + fm + 1 - (k + 1) < f → mrow (rst (xr L D lm) k).1 mo sy → ∃ mo' sy', L_MD_ownCodes_128 F pd (nI fm) pl (nI lm) f (nI (rst (xr L D lm) k).2) (nI (k + 1)) (nI (rst (xr L D lm) k).1.length) mo sy = some (nI (lm + fm), nI (lm + fm + 1), nI (rows (xr L D lm) (lm + fm)).length, mo', sy') ∧ mrow (rows (xr L D lm) (lm + fm)) mo' sy' := by
  have hx : ∀ i, i < lm + fm → xr L D lm i < 19 := fun i hi => by
    unfold xr; split
    · exact (hL i (by omega)).2
    · exact (hD (i - lm) (by omega)).2
  have hL' : ∀ j, j < 286 → pl j = nI (L j) := fun j hj => (hL j hj).1
  have hD' : ∀ j, j < 30 → pd j = nI (D j) := fun j hj => (hD j hj).1
  intro f
  induction f with
  | zero => intro k mo sy _ h; omega
  | succ f ih =>
    intro k mo sy hk hf C
    have rl := rst_le (xr L D lm) k
    have x2 := hx (rst (xr L D lm) k).2 (by omega)
    have r1 := s_lir F pl pd L D lm (rst (xr L D lm) k).2 hlm (by omega) hL' hD'
    unfold L_MD_ownCodes_128 B_MD_ownCodes_128
    have n1 : ¬ (lm + fm < k + 1) := by omega
    obtain ⟨mo1, sy1, g1, g2⟩ := s_addRun F (xr L D lm (rst (xr L D lm) k).2) (k + 1 - (rst (xr L D lm) k).2) _ mo sy hF x2 (by omega) (by omega) C
    by_cases h : k + 1 = lm + fm
    · simp (disch := omega) only [nm, z_lit, z_one, z_mone, z_neg1, z_neg2, z_pred, z_add, z_mul, z_sub, z_le, z_lt, z_eq, z_tn, z_chk, z_eqm, z_meq, z_lem, z_mle, z_ltm, z_mlt, z_eqq, z_qeq, z_leq, z_qle, z_ltq, z_qlt, z_m1m2, z_m2m1, z_m1m1, z_m2m2, z_bnd1, z_bnd2, z_bnd3, z_bnd4, z_bnd5, z_bnd6, z_bnd7, z_bnd8, z_bnd9, z_bnd10, z_bnd11, z_bnd12, z_bnd13, z_bnd14, z_bnd15, z_bnd16, z_max, z_min, z_n31, z_shl, z_shr, z_us, z_div, z_mod, z_and, z_or, z_xor, if_true, if_false, n1, h, Nat.lt_irrefl]
      rw [r1, z_bnd1]
      have e : k = lm + fm - 1 := by omega
      rw [h] at g1 g2
      rw [g1]
      have er : rows (xr L D lm) (lm + fm) = (rst (xr L D lm) k).1 ++ run (xr L D lm (rst (xr L D lm) k).2) (lm + fm - (rst (xr L D lm) k).2) := by rw [e]; rfl
      rw [← er] at g2
      rw [← er]
      simp only [z_bnd3, z_bnd4]
      obtain ⟨f', rfl⟩ : ∃ f', f = f' + 1 := ⟨f - 1, by omega⟩
      unfold L_MD_ownCodes_128 B_MD_ownCodes_128
      have n2 : lm + fm < lm + fm + 1 := by omega
      refine ⟨mo1, sy1, ?_, g2⟩
      simp (disch := omega) only [nm, z_lit, z_one, z_mone, z_neg1, z_neg2, z_pred, z_add, z_mul, z_sub, z_le, z_lt, z_eq, z_tn, z_chk, z_eqm, z_meq, z_lem, z_mle, z_ltm, z_mlt, z_eqq, z_qeq, z_leq, z_qle, z_ltq, z_qlt, z_m1m2, z_m2m1, z_m1m1, z_m2m2, z_bnd1, z_bnd2, z_bnd3, z_bnd4, z_bnd5, z_bnd6, z_bnd7, z_bnd8, z_bnd9, z_bnd10, z_bnd11, z_bnd12, z_bnd13, z_bnd14, z_bnd15, z_bnd16, z_max, z_min, z_n31, z_shl, z_shr, z_us, z_div, z_mod, z_and, z_or, z_xor, if_true, if_false, n2]
    · have x1 := hx (k + 1) (by omega)
      have r2 := s_lir F pl pd L D lm (k + 1) hlm (by omega) hL' hD'
      simp (disch := omega) only [nm, z_lit, z_one, z_mone, z_neg1, z_neg2, z_pred, z_add, z_mul, z_sub, z_le, z_lt, z_eq, z_tn, z_chk, z_eqm, z_meq, z_lem, z_mle, z_ltm, z_mlt, z_eqq, z_qeq, z_leq, z_qle, z_ltq, z_qlt, z_m1m2, z_m2m1, z_m1m1, z_m2m2, z_bnd1, z_bnd2, z_bnd3, z_bnd4, z_bnd5, z_bnd6, z_bnd7, z_bnd8, z_bnd9, z_bnd10, z_bnd11, z_bnd12, z_bnd13, z_bnd14, z_bnd15, z_bnd16, z_max, z_min, z_n31, z_shl, z_shr, z_us, z_div, z_mod, z_and, z_or, z_xor, if_true, if_false, n1, h]
      rw [r2, z_bnd1, r1, z_bnd1]
      by_cases q : xr L D lm (k + 1) = xr L D lm (rst (xr L D lm) k).2
      · have e3 : rst (xr L D lm) (k + 1) = rst (xr L D lm) k := by rw [rst, if_pos q]
        have ih' := ih (k + 1) mo sy (by omega) (by omega) (by rw [e3]; exact C)
        rw [e3] at ih'
        simp (disch := omega) only [nm, z_lit, z_one, z_mone, z_neg1, z_neg2, z_pred, z_add, z_mul, z_sub, z_le, z_lt, z_eq, z_tn, z_chk, z_eqm, z_meq, z_lem, z_mle, z_ltm, z_mlt, z_eqq, z_qeq, z_leq, z_qle, z_ltq, z_qlt, z_m1m2, z_m2m1, z_m1m1, z_m2m2, z_bnd1, z_bnd2, z_bnd3, z_bnd4, z_bnd5, z_bnd6, z_bnd7, z_bnd8, z_bnd9, z_bnd10, z_bnd11, z_bnd12, z_bnd13, z_bnd14, z_bnd15, z_bnd16, z_max, z_min, z_n31, z_shl, z_shr, z_us, z_div, z_mod, z_and, z_or, z_xor, if_true, if_false, q]
        exact ih'
      · have e3 : rst (xr L D lm) (k + 1) = ((rst (xr L D lm) k).1 ++ run (xr L D lm (rst (xr L D lm) k).2) (k + 1 - (rst (xr L D lm) k).2), k + 1) := by rw [rst, if_neg q]
        have ih' := ih (k + 1) mo1 sy1 (by omega) (by omega) (by rw [e3]; exact g2)
        rw [e3] at ih'
        simp (disch := omega) only [nm, z_lit, z_one, z_mone, z_neg1, z_neg2, z_pred, z_add, z_mul, z_sub, z_le, z_lt, z_eq, z_tn, z_chk, z_eqm, z_meq, z_lem, z_mle, z_ltm, z_mlt, z_eqq, z_qeq, z_leq, z_qle, z_ltq, z_qlt, z_m1m2, z_m2m1, z_m1m1, z_m2m2, z_bnd1, z_bnd2, z_bnd3, z_bnd4, z_bnd5, z_bnd6, z_bnd7, z_bnd8, z_bnd9, z_bnd10, z_bnd11, z_bnd12, z_bnd13, z_bnd14, z_bnd15, z_bnd16, z_max, z_min, z_n31, z_shl, z_shr, z_us, z_div, z_mod, z_and, z_or, z_xor, if_true, if_false, q, g1]
        exact ih'
