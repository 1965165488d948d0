/-! the calls, by both -/
theorem ck01 {α : Type} (x : Option α) : chk (inb (0 : Int32) 1) x = x := rfl
theorem e00L : ((0 : Int64) = 0) = True := eq_true rfl
theorem e10L : ((1 : Int64) = 0) = False := eq_false (by decide)
theorem e20L : ((2 : Int64) = 0) = False := eq_false (by decide)
theorem e30L : ((3 : Int64) = 0) = False := eq_false (by decide)
theorem e11L : ((1 : Int64) = 1) = True := eq_true rfl
theorem e21L : ((2 : Int64) = 1) = False := eq_false (by decide)
theorem e13L : ((1 : Int64) = 3) = False := eq_false (by decide)
theorem e23L : ((2 : Int64) = 3) = False := eq_false (by decide)
theorem e33L : ((3 : Int64) = 3) = True := eq_true rfl
theorem e22L : ((2 : Int64) = 2) = True := eq_true rfl
theorem le00 : ((0 : Int32) ≤ (0 : Int32)) = True := eq_true (by decide)
theorem le10 : ((1 : Int32) ≤ (0 : Int32)) = False := eq_false (by decide)
theorem le20 : ((2 : Int32) ≤ (0 : Int32)) = False := eq_false (by decide)
theorem le30 : ((3 : Int32) ≤ (0 : Int32)) = False := eq_false (by decide)
theorem n00 : (nI 0 = (0 : Int32)) = True := eq_true rfl
theorem n10 : (nI 1 = (0 : Int32)) = False := eq_false (by decide)
def upL0 (lg : Nat → Int64) (v : Int32) : Nat → Int64 := vp_updL lg (0 : Int32).toNatClampNeg v.toInt64
theorem feed_eq (F : Nat) (x1 x2 : Int32) : ∀ (f : Nat) (i c : Int32) (B : Nat → Int32), L_DE_feed_53 F x1 x2 f i c B = L_MD_feed_58 F x1 x2 f i c B := by
  intro f
  induction f with
  | zero => intro i c B; rfl
  | succ f ih =>
    intro i c B
    unfold L_DE_feed_53 L_MD_feed_58 B_DE_feed_53 B_MD_feed_58
    simp only [ih]
theorem l_feed (F a m n : Nat) (ha : a < 256) (hm : n + m ≤ 512) : ∀ (f i : Nat) (B : Nat → Int32) (b : Nat → Nat), i ≤ m → m - i < f → byt B b → ∃ B' b', L_DE_feed_53 F (nI a) (nI m) f (nI i) (nI (n + i)) B = some (nI m, nI (n + m), B') ∧ byt B' b' := by
  intro f
  induction f with
  | zero => intros; omega
  | succ f ih =>
    intro i B b hi hf hB
    unfold L_DE_feed_53 B_DE_feed_53
    by_cases h : m ≤ i
    · have e : i = m := by omega
      subst e
      exact ⟨B, b, by simp (disch := omega) only [nm, z_lit, z_one, z_mone, z_neg1, z_neg2, z_pred, z_add, z_mul, z_sub, z_le, z_lt, z_eq, z_tn, z_chk, z_eqm, z_meq, z_lem, z_mle, z_ltm, z_mlt, z_eqq, z_qeq, z_leq, z_qle, z_ltq, z_qlt, z_m1m2, z_m2m1, z_m1m1, z_m2m2, z_bnd1, z_bnd2, z_bnd3, z_bnd4, z_bnd5, z_bnd6, z_bnd7, z_bnd8, z_bnd9, z_bnd10, z_bnd11, z_bnd12, z_bnd13, z_bnd14, z_bnd15, z_bnd16, z_max, z_min, z_n31, z_shl, z_shr, z_us, z_div, z_mod, z_and, z_or, z_xor, if_true, if_false, Nat.le_refl], hB⟩
    · have ea : n + i + 1 = n + (i + 1) := by omega
      obtain ⟨B', b', q1, q2⟩ := ih (i + 1) (upd B (n + i) (nI a)) (fun j => if j = n + i then a else b j) (by omega) (by omega) (fun j hj => by
        by_cases e : j = n + i
        · subst e; rw [z_updE]; simp only [if_true]; exact ⟨trivial, ha⟩
        · rw [z_updN e]; simp only [e, if_false]; exact hB j hj)
      refine ⟨B', b', ?_, q2⟩
      simp (disch := omega) only [nm, z_lit, z_one, z_mone, z_neg1, z_neg2, z_pred, z_add, z_mul, z_sub, z_le, z_lt, z_eq, z_tn, z_chk, z_eqm, z_meq, z_lem, z_mle, z_ltm, z_mlt, z_eqq, z_qeq, z_leq, z_qle, z_ltq, z_qlt, z_m1m2, z_m2m1, z_m1m1, z_m2m2, z_bnd1, z_bnd2, z_bnd3, z_bnd4, z_bnd5, z_bnd6, z_bnd7, z_bnd8, z_bnd9, z_bnd10, z_bnd11, z_bnd12, z_bnd13, z_bnd14, z_bnd15, z_bnd16, z_max, z_min, z_n31, z_shl, z_shr, z_us, z_div, z_mod, z_and, z_or, z_xor, if_true, if_false, h, ea]
      exact q1
theorem p_feed (F n : Nat) (B : Nat → Int32) (b : Nat → Nat) (lg : Nat → Int64) (x1 x2 : Int32) (hF : 100000 ≤ F) (hB : byt B b) (hn : n ≤ 512) : ∃ k n' B' b' lg' v, m_LW_feed F 1 B (nI n) lg x1 x2 = some (nI k, nI n', B', lg') ∧ m_MD_feed F B (nI n) x1 x2 = some (v, nI k, nI n', B') ∧ k ≤ 3 ∧ (k = 0 → lg' = upL0 lg v) ∧ n' ≤ 512 ∧ byt B' b' := by
  unfold m_LW_feed m_DE_feed m_MD_feed
  rcases s_byte F x1 with ⟨a, ha, rfl, h1, h2⟩ | ⟨h1, h2⟩
  · rw [h1, h2]
    simp only [z_bnd1, n10, if_false]
    unfold m_MD_within
    rcases z_case x2 with hx | ⟨m, hm, rfl⟩
    · have c1 : (x2 < (1 : Int32)) = True := eq_true (by
        rw [Int32.lt_iff_toInt_lt] at hx ⊢
        have e0 : (0 : Int32).toInt = 0 := rfl
        have e1 : (1 : Int32).toInt = 1 := rfl
        omega)
      simp only [c1, if_true, z_bnd1, z_bnd4, e10L, e11L, if_false, le10]
      exact ⟨1, n, B, b, lg, _, rfl, rfl, by omega, fun h => absurd h (by omega), hn, hB⟩
    · by_cases c : m < 1
      · have c1 : (nI m < (1 : Int32)) = True := eq_true (by show nI m < nI 1; rw [z_lt hm (by omega)]; exact c)
        simp only [c1, if_true, z_bnd1, z_bnd4, e10L, e11L, if_false, le10]
        exact ⟨1, n, B, b, lg, _, rfl, rfl, by omega, fun h => absurd h (by omega), hn, hB⟩
      · have c1 : (nI m < (1 : Int32)) = False := eq_false (by show ¬ (nI m < nI 1); rw [z_lt hm (by omega)]; exact c)
        by_cases c2 : m ≤ 512
        · have c3 : (nI m ≤ (512 : Int32)) = True := eq_true (by show nI m ≤ nI 512; rw [z_le hm (by omega)]; exact c2)
          have c4 : ((512 : Int32) < nI m) = False := eq_false (by show ¬ (nI 512 < nI m); rw [z_lt (by omega) hm]; omega)
          have e5 : (512 : Int32) - nI n = nI (512 - n) := z_sub (show n ≤ 512 from hn)
          by_cases c6 : n + m ≤ 512
          · have c7 : (nI m ≤ nI (512 - n)) = True := eq_true (by rw [z_le hm (by omega)]; omega)
            have c8 : (nI (n + m) ≤ (512 : Int32)) = True := eq_true (by show nI _ ≤ nI 512; rw [z_le (by omega) (by omega)]; omega)
            obtain ⟨B', b', q1, q2⟩ := l_feed F a m n ha c6 F 0 B b (by omega) (by omega) hB
            have q3 := feed_eq F (nI a) (nI m) F (nI 0) (nI (n + 0)) B
            rw [q1] at q3
            simp only [c1, c3, c4, e5, c7, z_add, c8, if_true, if_false, z_bnd1, le00]
            rw [Nat.add_zero] at q1 q3
            have q1' : L_DE_feed_53 F (nI a) (nI m) F (0 : Int32) (nI n) B = some (nI m, nI (n + m), B') := q1
            have q3' : L_MD_feed_58 F (nI a) (nI m) F (0 : Int32) (nI n) B = some (nI m, nI (n + m), B') := q3.symm
            rw [q1', q3']
            simp only [z_bnd3, z_bnd4, e00L, if_true, ck01, nm]
            exact ⟨0, n + m, B', b', upL0 lg (nI (n + m)), _, rfl, rfl, by omega, fun _ => rfl, c6, q2⟩
          · have c7 : (nI m ≤ nI (512 - n)) = False := eq_false (by rw [z_le hm (by omega)]; omega)
            have c8 : (nI (n + m) ≤ (512 : Int32)) = False := eq_false (by show ¬ (nI _ ≤ nI 512); rw [z_le (by omega) (by omega)]; omega)
            simp only [c1, c3, c4, e5, c7, z_add, c8, if_true, if_false, z_bnd1, z_bnd4, le20, e20L, e21L, e22L]
            exact ⟨2, n, B, b, lg, _, rfl, rfl, by omega, fun h => absurd h (by omega), hn, hB⟩
        · have c3 : (nI m ≤ (512 : Int32)) = False := eq_false (by show ¬ (nI m ≤ nI 512); rw [z_le hm (by omega)]; exact c2)
          have c4 : ((512 : Int32) < nI m) = True := eq_true (by show nI 512 < nI m; rw [z_lt (by omega) hm]; omega)
          simp only [c1, c3, c4, if_true, if_false, z_bnd1, z_bnd4, e10L, e11L, le10]
          exact ⟨1, n, B, b, lg, _, rfl, rfl, by omega, fun h => absurd h (by omega), hn, hB⟩
  · rw [h1, h2]
    simp only [z_bnd1, n00, if_true, z_bnd4, e10L, e11L, if_false, le10]
    exact ⟨1, n, B, b, lg, _, rfl, rfl, by omega, fun h => absurd h (by omega), hn, hB⟩
