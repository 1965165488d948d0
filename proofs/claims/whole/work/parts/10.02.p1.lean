/-! the pure side: loops of filling and the like -/
theorem l_fill2 (F N : Nat) (x : Int32) (hN : N < 2147483648) : ∀ (f i : Nat) (p : Nat → Int32), i ≤ N → N - i < f → L_JA_fill2_5 F N x (nI N) f (nI i) p = some (nI N, fun j => if i ≤ j ∧ j < N then x else p j) := by
  intro f
  induction f with
  | zero => intro i p _ h; omega
  | succ f ih =>
    intro i p hi hf
    unfold L_JA_fill2_5 B_JA_fill2_5
    by_cases h : N ≤ i
    · simp (disch := omega) only [nm, z_lit, z_one, z_mone, z_neg1, z_neg2, z_pred, z_add, z_mul, z_sub, z_le, z_lt, z_eq, z_tn, z_chk, z_eqm, z_meq, z_lem, z_mle, z_ltm, z_mlt, z_eqq, z_qeq, z_leq, z_qle, z_ltq, z_qlt, z_m1m2, z_m2m1, z_m1m1, z_m2m2, z_bnd1, z_bnd2, z_bnd3, z_bnd4, z_bnd5, z_bnd6, z_bnd7, z_bnd8, z_bnd9, z_bnd10, z_bnd11, z_bnd12, z_bnd13, z_bnd14, z_bnd15, z_bnd16, z_max, z_min, z_n31, z_shl, z_shr, z_us, z_div, z_mod, z_and, z_or, z_xor, if_true, if_false, h]
      have e : i = N := by omega
      subst e
      congr 2
      funext j
      rw [if_neg (by omega)]
    · simp (disch := omega) only [nm, z_lit, z_one, z_mone, z_neg1, z_neg2, z_pred, z_add, z_mul, z_sub, z_le, z_lt, z_eq, z_tn, z_chk, z_eqm, z_meq, z_lem, z_mle, z_ltm, z_mlt, z_eqq, z_qeq, z_leq, z_qle, z_ltq, z_qlt, z_m1m2, z_m2m1, z_m1m1, z_m2m2, z_bnd1, z_bnd2, z_bnd3, z_bnd4, z_bnd5, z_bnd6, z_bnd7, z_bnd8, z_bnd9, z_bnd10, z_bnd11, z_bnd12, z_bnd13, z_bnd14, z_bnd15, z_bnd16, z_max, z_min, z_n31, z_shl, z_shr, z_us, z_div, z_mod, z_and, z_or, z_xor, if_true, if_false, h]
      rw [ih (i + 1) _ (by omega) (by omega)]
      congr 2
      funext j
      simp only [upd]
      split <;> split <;> first | rfl | (exfalso; omega) | skip
      all_goals (try split <;> first | rfl | (exfalso; omega))
theorem s_fill2 (F N : Nat) (x : Int32) (p : Nat → Int32) (hN : N < 2147483648) (hF : N < F) : m_JA_fill2 F N p x = some (fun j => if j < N then x else p j) := by
  unfold m_JA_fill2
  simp only [nm]
  have h := l_fill2 F N x hN F 0 p (by omega) (by omega)
  simp only [z_lit]
  rw [h]
  simp only [z_bnd2, Nat.zero_le, true_and]
