/-! writing a block -/
theorem and_m8 {x : Nat} (hx : x < 4294967296) : x &&& 4294967288 = x / 8 * 8 := by
  have e1 : x / 8 * 8 = (x >>> 3) <<< 3 := by rw [Nat.shiftRight_eq_div_pow, Nat.shiftLeft_eq]
  have e2 : 4294967288 = (2 ^ 29 - 1) <<< 3 := by decide
  rw [e1, e2]
  apply Nat.eq_of_testBit_eq
  intro i
  rw [Nat.testBit_and, Nat.testBit_shiftLeft, Nat.testBit_shiftLeft, Nat.testBit_shiftRight, Nat.testBit_two_pow_sub_one]
  by_cases h : 3 ≤ i
  · have e3 : 3 + (i - 3) = i := by omega
    rw [e3]
    by_cases h2 : i - 3 < 29
    · simp [h, h2]
    · have h3 : x.testBit i = false := Nat.testBit_lt_two_pow (Nat.lt_of_lt_of_le hx (by
        have : 2 ^ 32 ≤ 2 ^ i := Nat.pow_le_pow_right (by omega) (by omega)
        omega))
      simp [h3]
  · simp [h]
theorem Wr_pad (F : Nat) : ∀ (k n : Nat) (ca co : Nat → Int32), (n + k) % 8 = 0 → k < 8 → n + k ≤ 4144 → Wr n ca co → ∀ f, k < f → ∃ co', L_MD_putStored_0 F f (nI n) co = some (nI (n + k), co') ∧ Wr (n + k) ca co' := by
  intro k
  induction k with
  | zero =>
    intro n ca co h1 _ hn W f hf
    obtain ⟨g, rfl⟩ : ∃ g, f = g + 1 := ⟨f - 1, by omega⟩
    unfold L_MD_putStored_0 B_MD_putStored_0
    have e8 : n - n / 8 * 8 = 0 := by omega
    exact ⟨co, by simp (disch := omega) only [nm, z_lit, z_one, z_mone, z_neg1, z_neg2, z_pred, z_add, z_mul, z_sub, z_le, z_lt, z_eq, z_tn, z_chk, z_eqm, z_meq, z_lem, z_mle, z_ltm, z_mlt, z_eqq, z_qeq, z_leq, z_qle, z_ltq, z_qlt, z_m1m2, z_m2m1, z_m1m1, z_m2m2, z_bnd1, z_bnd2, z_bnd3, z_bnd4, z_bnd5, z_bnd6, z_bnd7, z_bnd8, z_bnd9, z_bnd10, z_bnd11, z_bnd12, z_bnd13, z_bnd14, z_bnd15, z_bnd16, z_max, z_min, z_n31, z_shl, z_shr, z_us, z_div, z_mod, z_and, z_or, z_xor, if_true, if_false, e8, Nat.add_zero], W⟩
  | succ k ih =>
    intro n ca co h1 hk hn W f hf
    obtain ⟨g, rfl⟩ : ∃ g, f = g + 1 := ⟨f - 1, by omega⟩
    have e8 : ¬ (n - n / 8 * 8 = 0) := by omega
    obtain ⟨ca1, co1, p1, p2, W1⟩ := j_put F n 0 ca co W (by omega) (by omega)
    -- the class's row stays as it is
    have W1' : Wr (n + 1) ca co1 := by
      obtain ⟨y, a1, a2, a3⟩ := W
      obtain ⟨y1, b1, b2, b3⟩ := W1
      have ec : ca1 = upd ca (n / 8) (ca (n / 8) ||| (nI 0 <<< nI (n % 8))) := by
        unfold m_Writer_putBit at p1
        have e7 : n &&& 7 = n % 8 := Nat.and_two_pow_sub_one_eq_mod n 3
        have e3 : n >>> 3 = n / 8 := by rw [Nat.shiftRight_eq_div_pow]
        have n5 : ¬ (518 ≤ n / 8) := by omega
        have k8 : n % 8 < 8 := Nat.mod_lt _ (by omega)
        simp (disch := omega) only [nm, z_lit, z_one, z_mone, z_neg1, z_neg2, z_pred, z_add, z_mul, z_sub, z_le, z_lt, z_eq, z_tn, z_chk, z_eqm, z_meq, z_lem, z_mle, z_ltm, z_mlt, z_eqq, z_qeq, z_leq, z_qle, z_ltq, z_qlt, z_m1m2, z_m2m1, z_m1m1, z_m2m2, z_bnd1, z_bnd2, z_bnd3, z_bnd4, z_bnd5, z_bnd6, z_bnd7, z_bnd8, z_bnd9, z_bnd10, z_bnd11, z_bnd12, z_bnd13, z_bnd14, z_bnd15, z_bnd16, z_max, z_min, z_n31, z_shl, z_shr, z_us, z_div, z_mod, z_and, z_or, z_xor, if_true, if_false, e3, n5, e7] at p1
        injection p1 with p1
        injection p1 with _ p1
        rw [← p1, z_shl (by omega)]
      have k8 : n % 8 < 8 := Nat.mod_lt _ (by omega)
      have eq : ca1 = ca := by
        rw [ec]
        funext j
        by_cases e : j = n / 8
        · have q := a1 (n / 8) (by omega)
          rw [e, z_updE, q.1, z_shl (by omega), z_or, Nat.zero_shiftLeft, Nat.or_zero]
        · rw [z_updN e]
      rw [eq] at b1 b2
      exact ⟨y1, b1, b2, b3⟩
    obtain ⟨co', q1, W2⟩ := ih (n + 1) ca co1 (by omega) (by omega) (by omega) W1' g (by omega)
    have en : n + 1 + k = n + (k + 1) := by omega
    rw [en] at q1 W2
    refine ⟨co', ?_, W2⟩
    unfold L_MD_putStored_0 B_MD_putStored_0
    simp (disch := omega) only [nm, z_lit, z_one, z_mone, z_neg1, z_neg2, z_pred, z_add, z_mul, z_sub, z_le, z_lt, z_eq, z_tn, z_chk, z_eqm, z_meq, z_lem, z_mle, z_ltm, z_mlt, z_eqq, z_qeq, z_leq, z_qle, z_ltq, z_qlt, z_m1m2, z_m2m1, z_m1m1, z_m2m2, z_bnd1, z_bnd2, z_bnd3, z_bnd4, z_bnd5, z_bnd6, z_bnd7, z_bnd8, z_bnd9, z_bnd10, z_bnd11, z_bnd12, z_bnd13, z_bnd14, z_bnd15, z_bnd16, z_max, z_min, z_n31, z_shl, z_shr, z_us, z_div, z_mod, z_and, z_or, z_xor, if_true, if_false, e8, p2]
    exact q1
theorem l_jst (F : Nat) (B : Nat → Int32) (to : Nat) (hF : 100000 ≤ F) (hto : to ≤ 512) : ∀ (f g p n : Nat) (ca co : Nat → Int32), p ≤ to → to - p < f → to - p < g → n + 8 * (to - p) ≤ 4144 → Wr n ca co → ∃ ca' co', L_Writer_putStored_50 F 512 B (nI to) f (nI p) (nI n) ca = some (nI to, nI (n + 8 * (to - p)), ca') ∧ L_MD_putStored_40 F B (nI to) g (nI p) (nI n) co = some (nI to, nI (n + 8 * (to - p)), co') ∧ Wr (n + 8 * (to - p)) ca' co' := by
  intro f
  induction f with
  | zero => intros; omega
  | succ f ih =>
    intro g p n ca co hp hf hg hn W
    obtain ⟨g', rfl⟩ : ∃ g', g = g' + 1 := ⟨g - 1, by omega⟩
    unfold L_Writer_putStored_50 B_Writer_putStored_50 L_MD_putStored_40 B_MD_putStored_40
    by_cases h : to ≤ p
    · have e : p = to := by omega
      subst e
      rw [Nat.sub_self, Nat.mul_zero, Nat.add_zero]
      exact ⟨ca, co, by simp (disch := omega) only [nm, z_lit, z_one, z_mone, z_neg1, z_neg2, z_pred, z_add, z_mul, z_sub, z_le, z_lt, z_eq, z_tn, z_chk, z_eqm, z_meq, z_lem, z_mle, z_ltm, z_mlt, z_eqq, z_qeq, z_leq, z_qle, z_ltq, z_qlt, z_m1m2, z_m2m1, z_m1m1, z_m2m2, z_bnd1, z_bnd2, z_bnd3, z_bnd4, z_bnd5, z_bnd6, z_bnd7, z_bnd8, z_bnd9, z_bnd10, z_bnd11, z_bnd12, z_bnd13, z_bnd14, z_bnd15, z_bnd16, z_max, z_min, z_n31, z_shl, z_shr, z_us, z_div, z_mod, z_and, z_or, z_xor, if_true, if_false, Nat.le_refl], by simp (disch := omega) only [nm, z_lit, z_one, z_mone, z_neg1, z_neg2, z_pred, z_add, z_mul, z_sub, z_le, z_lt, z_eq, z_tn, z_chk, z_eqm, z_meq, z_lem, z_mle, z_ltm, z_mlt, z_eqq, z_qeq, z_leq, z_qle, z_ltq, z_qlt, z_m1m2, z_m2m1, z_m1m1, z_m2m2, z_bnd1, z_bnd2, z_bnd3, z_bnd4, z_bnd5, z_bnd6, z_bnd7, z_bnd8, z_bnd9, z_bnd10, z_bnd11, z_bnd12, z_bnd13, z_bnd14, z_bnd15, z_bnd16, z_max, z_min, z_n31, z_shl, z_shr, z_us, z_div, z_mod, z_and, z_or, z_xor, if_true, if_false, Nat.le_refl], W⟩
    · obtain ⟨ca1, co1, p1, p2, W1⟩ := j_bits F 8 n (B p) ca co hF (by omega) (by omega) W
      obtain ⟨ca', co', q1, q2, W2⟩ := ih g' (p + 1) (n + 8) ca1 co1 (by omega) (by omega) (by omega) (by omega) W1
      have en : n + 8 + 8 * (to - (p + 1)) = n + 8 * (to - p) := by omega
      rw [en] at q1 q2 W2
      have n1 : ¬ (512 ≤ p) := by omega
      refine ⟨ca', co', ?_, ?_, W2⟩
      · simp (disch := omega) only [nm, z_lit, z_one, z_mone, z_neg1, z_neg2, z_pred, z_add, z_mul, z_sub, z_le, z_lt, z_eq, z_tn, z_chk, z_eqm, z_meq, z_lem, z_mle, z_ltm, z_mlt, z_eqq, z_qeq, z_leq, z_qle, z_ltq, z_qlt, z_m1m2, z_m2m1, z_m1m1, z_m2m2, z_bnd1, z_bnd2, z_bnd3, z_bnd4, z_bnd5, z_bnd6, z_bnd7, z_bnd8, z_bnd9, z_bnd10, z_bnd11, z_bnd12, z_bnd13, z_bnd14, z_bnd15, z_bnd16, z_max, z_min, z_n31, z_shl, z_shr, z_us, z_div, z_mod, z_and, z_or, z_xor, if_true, if_false, h, n1, p1]
        exact q1
      · simp (disch := omega) only [nm, z_lit, z_one, z_mone, z_neg1, z_neg2, z_pred, z_add, z_mul, z_sub, z_le, z_lt, z_eq, z_tn, z_chk, z_eqm, z_meq, z_lem, z_mle, z_ltm, z_mlt, z_eqq, z_qeq, z_leq, z_qle, z_ltq, z_qlt, z_m1m2, z_m2m1, z_m1m1, z_m2m2, z_bnd1, z_bnd2, z_bnd3, z_bnd4, z_bnd5, z_bnd6, z_bnd7, z_bnd8, z_bnd9, z_bnd10, z_bnd11, z_bnd12, z_bnd13, z_bnd14, z_bnd15, z_bnd16, z_max, z_min, z_n31, z_shl, z_shr, z_us, z_div, z_mod, z_and, z_or, z_xor, if_true, if_false, h, p2]
        exact q2
/-- a stored block; the model has written its head -/
theorem j_stored (F fr to n la : Nat) (B ca co : Nat → Int32) (hF : 100000 ≤ F) (hft : fr ≤ to) (hto : to ≤ 512) (hn : n + stb (to - fr) ≤ 4144) (hla : la ≤ 1) (W : Wr n ca co) : ∃ n' ca' co1 co2 co', m_Writer_putStored F 512 B (nI n) ca (nI fr) (nI to) (nI la) = some (nI n', ca') ∧ m_MD_putBit F (nI n) co (nI la) = some (nI (n + 1), co1) ∧ m_MD_putNumber F (nI (n + 1)) co1 (nI 0) (nI 2) = some (nI (n + 3), co2) ∧ m_MD_putStored F (nI (n + 3)) B co2 (nI fr) (nI to) = some (nI n', co') ∧ Wr n' ca' co' ∧ n' ≤ n + stb (to - fr) := by
  unfold stb at hn
  -- the flag
  obtain ⟨ca1, co1, p1, p2, W1⟩ := j_put F n la ca co W (by omega) hla
  have p1' : m_Writer_putBits F (nI n) ca (nI la) (nI 1) = some (nI (n + 1), ca1) := by
    have e : ∀ G, L_Writer_putBits_2 F (nI la) (nI 1) (G + 2) (nI 0) (nI n) ca = some (nI 1, nI (n + 1), ca1) := fun G => by
      have e1 : rx_us (nI la) (nI 0) &&& nI 1 = nI la := by
        rw [z_us (by omega) (by omega), z_and, Nat.shiftRight_zero, bit_and1]
        congr 1; omega
      show B_Writer_putBits_2 F (nI la) (nI 1) (L_Writer_putBits_2 F (nI la) (nI 1) (G + 1)) (nI 0) (nI n) ca = _
      unfold B_Writer_putBits_2
      have n0 : (nI 1 ≤ nI 0) = False := eq_false (by decide)
      simp only [z_lit, n0, if_false, e1, p1, z_bnd2, nm, z_one, z_add]
      unfold L_Writer_putBits_2 B_Writer_putBits_2
      have n1 : (nI 1 ≤ nI (0 + 1)) = True := eq_true (by decide)
      simp only [n1, if_true]
    have e2 := e (F - 2)
    rw [Nat.sub_add_cancel (by omega)] at e2
    unfold m_Writer_putBits
    simp only [z_lit, e2, z_bnd3]
  obtain ⟨ca2, co2, p3, p4, W2⟩ := j_bits F 2 (n + 1) (nI 0) ca1 co1 hF (by omega) (by omega) W1
  have en : n + 1 + 2 = n + 3 := by omega
  rw [en] at p3 p4 W2
  -- up to a whole byte
  have pad : ∃ k, k < 8 ∧ (n + 3 + k) % 8 = 0 := ⟨(8 - (n + 3) % 8) % 8, by omega, by omega⟩
  obtain ⟨k, hk, hk8⟩ := pad
  obtain ⟨co3, p5, W3⟩ := Wr_pad F k (n + 3) ca2 co2 hk8 hk (by omega) W2 F (by omega)
  have eal : nI (n + 3 + 7) &&& (-8 : Int32) = nI (n + 3 + k) := by
    have e8 : (-8 : Int32) = nI 4294967288 := by decide
    rw [e8, z_and]
    congr 1
    rw [and_m8 (by omega)]; omega
  obtain ⟨ca4, co4, p6, p7, W4⟩ := j_bits F 16 (n + 3 + k) (nI (to - fr)) ca2 co3 hF (by omega) (by omega) W3
  obtain ⟨ca5, co5, p8, p9, W5⟩ := j_bits F 16 (n + 3 + k + 16) (nI (to - fr) ^^^ m1) ca4 co4 hF (by omega) (by omega) W4
  obtain ⟨ca6, co6, p10, p11, W6⟩ := l_jst F B to hF hto F F fr (n + 3 + k + 16 + 16) ca5 co5 hft (by omega) (by omega) (by omega) W5
  have ef : nI to - nI fr = nI (to - fr) := z_sub hft
  refine ⟨n + 3 + k + 16 + 16 + 8 * (to - fr), ca6, co1, co2, co6, ?_, p2, p4, ?_, W6, by unfold stb; omega⟩
  · unfold m_Writer_putStored
    rw [show (-1 : Int32) = m1 from rfl, show (1 : Int32) = nI 1 from rfl, show (0 : Int32) = nI 0 from rfl, show (2 : Int32) = nI 2 from rfl, show (7 : Int32) = nI 7 from rfl, show (16 : Int32) = nI 16 from rfl, p1', z_bnd2, p3, z_bnd2]
    simp only [nm, z_add, eal, ef]
    rw [p6, z_bnd2, p8, z_bnd2, p10, z_bnd3]
  · unfold m_MD_putStored
    rw [show (16 : Int32) = nI 16 from rfl, show (-1 : Int32) = m1 from rfl, p5, z_bnd2, ef, p7, z_bnd2, p9, z_bnd2, p11, z_bnd3]
