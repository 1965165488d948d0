/-! writing: both write the same bits -/
def Wr (n : Nat) (ca co : Nat → Int32) : Prop := ∃ y : Nat → Nat, (∀ j, j < (n + 7) / 8 → ca j = nI (y j) ∧ co j = nI (y j) ∧ y j < 256) ∧ (∀ j, (n + 7) / 8 ≤ j → j < 518 → ca j = nI 0) ∧ (n % 8 ≠ 0 → y (n / 8) < 2 ^ (n % 8))
theorem z_repr (x : Int32) : ∃ a, a < 4294967296 ∧ x = nI a := by
  refine ⟨x.toBitVec.toNat, x.toBitVec.isLt, ?_⟩
  rw [← Int32.toBitVec_inj, z_bv, BitVec.ofNat_toNat, BitVec.setWidth_eq]
theorem bit_and1 (a : Nat) : a &&& 1 = a % 2 := Nat.and_two_pow_sub_one_eq_mod a 1
theorem z_sbit {a i : Nat} (hi : i < 32) : (nI a >>> nI i) &&& nI 1 = nI ((a >>> i) &&& 1) := by
  rw [← Int32.toBitVec_inj, Int32.toBitVec_and, Int32.toBitVec_shiftRight, z_bv, z_bv, z_bv, z_bv, BitVec.sshiftRight_eq', z_smod hi]
  apply BitVec.eq_of_getLsbD_eq
  intro j hj
  rw [BitVec.getLsbD_and, BitVec.getLsbD_sshiftRight, BitVec.getLsbD_ofNat, BitVec.getLsbD_ofNat, BitVec.getLsbD_ofNat]
  by_cases h : j = 0
  · subst h
    have h1 : ¬ (32 ≤ 0) := by omega
    have h2 : i + 0 < 32 := by omega
    simp only [h1, decide_false, Bool.not_false, Bool.true_and, h2, if_true, Nat.add_zero, decide_true, show (0 < 32) = True from eq_true (by omega), hi]
    rw [Nat.testBit_and, Nat.testBit_shiftRight]
    simp
  · have h1 : (1 : Nat).testBit j = false := by
      obtain ⟨k, rfl⟩ : ∃ k, j = k + 1 := ⟨j - 1, by omega⟩
      simp [Nat.testBit_succ]
    rw [h1, Nat.testBit_and, h1]
    simp
theorem z_bit (x : Int32) {i : Nat} (hi : i < 32) : ∃ d, d ≤ 1 ∧ rx_us x (nI i) &&& nI 1 = nI d ∧ (x >>> nI i) &&& nI 1 = nI d := by
  obtain ⟨a, ha, rfl⟩ := z_repr x
  refine ⟨(a >>> i) &&& 1, by rw [bit_and1]; omega, ?_, z_sbit hi⟩
  rw [z_us ha hi, z_and]
theorem j_put (F n d : Nat) (ca co : Nat → Int32) (W : Wr n ca co) (hn : n < 4144) (hd : d ≤ 1) : ∃ ca' co', m_Writer_putBit F (nI n) ca (nI d) = some (nI (n + 1), ca') ∧ m_MD_putBit F (nI n) co (nI d) = some (nI (n + 1), co') ∧ Wr (n + 1) ca' co' := by
  obtain ⟨y, h1, h2, h3⟩ := W
  have e7 : n &&& 7 = n % 8 := Nat.and_two_pow_sub_one_eq_mod n 3
  have e3 : n >>> 3 = n / 8 := by rw [Nat.shiftRight_eq_div_pow]
  have e8 : n - n / 8 * 8 = n % 8 := by omega
  have n5 : ¬ (518 ≤ n / 8) := by omega
  unfold m_Writer_putBit m_MD_putBit
  by_cases c : n % 8 = 0
  · have e1 := h2 (n / 8) (by omega) (by omega)
    have e2 : (upd co (n / 8) (nI 0)) (n / 8) = nI 0 := z_updE
    refine ⟨upd ca (n / 8) (nI (0 ||| d <<< (n % 8))), upd (upd co (n / 8) (nI 0)) (n / 8) (nI (0 ||| d <<< (n % 8))), ?_, ?_, fun j => if j = n / 8 then d else y j, fun j hj => ?_, fun j hj1 hj2 => ?_, fun _ => ?_⟩
    · simp (disch := omega) only [nm, z_lit, z_one, z_mone, z_neg1, z_neg2, z_pred, z_add, z_mul, z_sub, z_le, z_lt, z_eq, z_tn, z_chk, z_eqm, z_meq, z_lem, z_mle, z_ltm, z_mlt, z_eqq, z_qeq, z_leq, z_qle, z_ltq, z_qlt, z_m1m2, z_m2m1, z_m1m1, z_m2m2, z_bnd1, z_bnd2, z_bnd3, z_bnd4, z_bnd5, z_bnd6, z_bnd7, z_bnd8, z_bnd9, z_bnd10, z_bnd11, z_bnd12, z_bnd13, z_bnd14, z_bnd15, z_bnd16, z_max, z_min, z_n31, z_shl, z_shr, z_us, z_div, z_mod, z_and, z_or, z_xor, if_true, if_false, e3, n5, e1, e7]
    · simp (disch := omega) only [nm, z_lit, z_one, z_mone, z_neg1, z_neg2, z_pred, z_add, z_mul, z_sub, z_le, z_lt, z_eq, z_tn, z_chk, z_eqm, z_meq, z_lem, z_mle, z_ltm, z_mlt, z_eqq, z_qeq, z_leq, z_qle, z_ltq, z_qlt, z_m1m2, z_m2m1, z_m1m1, z_m2m2, z_bnd1, z_bnd2, z_bnd3, z_bnd4, z_bnd5, z_bnd6, z_bnd7, z_bnd8, z_bnd9, z_bnd10, z_bnd11, z_bnd12, z_bnd13, z_bnd14, z_bnd15, z_bnd16, z_max, z_min, z_n31, z_shl, z_shr, z_us, z_div, z_mod, z_and, z_or, z_xor, if_true, if_false, e8, c, e2]
    · by_cases e : j = n / 8
      · rw [e, z_updE, z_updE]
        simp only [if_true]
        rw [c, Nat.shiftLeft_zero, Nat.zero_or]
        exact ⟨rfl, rfl, by omega⟩
      · rw [z_updN e, z_updN e, z_updN e]
        simp only [if_neg e]
        exact h1 j (by omega)
    · rw [z_updN (by omega)]; exact h2 j (by omega) hj2
    · have e4 : (n + 1) / 8 = n / 8 := by omega
      have e5 : (n + 1) % 8 = 1 := by omega
      simp only [e4, if_true, e5]
      omega
  · obtain ⟨q1, q2, q3⟩ := h1 (n / 8) (by omega)
    have q4 := h3 c
    have k8 : n % 8 < 8 := Nat.mod_lt _ (by omega)
    have lt1 : y (n / 8) ||| d <<< (n % 8) < 2 ^ (n % 8 + 1) := by
      refine Nat.or_lt_two_pow (Nat.lt_trans q4 (Nat.pow_lt_pow_right (by omega) (by omega))) ?_
      rw [Nat.shiftLeft_eq, Nat.pow_succ, Nat.mul_comm]
      exact Nat.mul_lt_mul_of_pos_left (by omega) (Nat.two_pow_pos _)
    have lt2 : 2 ^ (n % 8 + 1) ≤ 256 := by
      have : 2 ^ (n % 8 + 1) ≤ 2 ^ 8 := Nat.pow_le_pow_right (by omega) (by omega)
      omega
    refine ⟨upd ca (n / 8) (nI (y (n / 8) ||| d <<< (n % 8))), upd co (n / 8) (nI (y (n / 8) ||| d <<< (n % 8))), ?_, ?_, fun j => if j = n / 8 then y (n / 8) ||| d <<< (n % 8) else y j, fun j hj => ?_, fun j hj1 hj2 => ?_, fun hc => ?_⟩
    · simp (disch := omega) only [nm, z_lit, z_one, z_mone, z_neg1, z_neg2, z_pred, z_add, z_mul, z_sub, z_le, z_lt, z_eq, z_tn, z_chk, z_eqm, z_meq, z_lem, z_mle, z_ltm, z_mlt, z_eqq, z_qeq, z_leq, z_qle, z_ltq, z_qlt, z_m1m2, z_m2m1, z_m1m1, z_m2m2, z_bnd1, z_bnd2, z_bnd3, z_bnd4, z_bnd5, z_bnd6, z_bnd7, z_bnd8, z_bnd9, z_bnd10, z_bnd11, z_bnd12, z_bnd13, z_bnd14, z_bnd15, z_bnd16, z_max, z_min, z_n31, z_shl, z_shr, z_us, z_div, z_mod, z_and, z_or, z_xor, if_true, if_false, e3, n5, q1, e7]
    · simp (disch := omega) only [nm, z_lit, z_one, z_mone, z_neg1, z_neg2, z_pred, z_add, z_mul, z_sub, z_le, z_lt, z_eq, z_tn, z_chk, z_eqm, z_meq, z_lem, z_mle, z_ltm, z_mlt, z_eqq, z_qeq, z_leq, z_qle, z_ltq, z_qlt, z_m1m2, z_m2m1, z_m1m1, z_m2m2, z_bnd1, z_bnd2, z_bnd3, z_bnd4, z_bnd5, z_bnd6, z_bnd7, z_bnd8, z_bnd9, z_bnd10, z_bnd11, z_bnd12, z_bnd13, z_bnd14, z_bnd15, z_bnd16, z_max, z_min, z_n31, z_shl, z_shr, z_us, z_div, z_mod, z_and, z_or, z_xor, if_true, if_false, e8, c, q2]
    · by_cases e : j = n / 8
      · rw [e, z_updE, z_updE]
        simp only [if_true]
        exact ⟨trivial, trivial, by omega⟩
      · rw [z_updN e, z_updN e]
        simp only [if_neg e]
        exact h1 j (by omega)
    · rw [z_updN (by omega)]; exact h2 j (by omega) hj2
    · have e4 : (n + 1) / 8 = n / 8 := by omega
      have e5 : (n + 1) % 8 = n % 8 + 1 := by omega
      simp only [e4, if_true, e5]
      exact lt1
/-- numbers, from the lowest bit on -/
theorem l_jbits (F c : Nat) (x : Int32) (hc : c ≤ 16) : ∀ (f g i n : Nat) (ca co : Nat → Int32), i ≤ c → c - i < f → c - i < g → n + (c - i) ≤ 4144 → Wr n ca co → ∃ ca' co', L_Writer_putBits_2 F x (nI c) f (nI i) (nI n) ca = some (nI c, nI (n + (c - i)), ca') ∧ L_MD_putNumber_2 F x (nI c) g (nI i) (nI n) co = some (nI c, nI (n + (c - i)), co') ∧ Wr (n + (c - i)) ca' co' := by
  intro f
  induction f with
  | zero => intros; omega
  | succ f ih =>
    intro g i n ca co hi hf hg hn W
    obtain ⟨g', rfl⟩ : ∃ g', g = g' + 1 := ⟨g - 1, by omega⟩
    unfold L_Writer_putBits_2 B_Writer_putBits_2 L_MD_putNumber_2 B_MD_putNumber_2
    by_cases h : c ≤ i
    · have e : i = c := by omega
      subst e
      rw [Nat.sub_self, Nat.add_zero]
      exact ⟨ca, co, by simp (disch := omega) only [nm, z_lit, z_one, z_mone, z_neg1, z_neg2, z_pred, z_add, z_mul, z_sub, z_le, z_lt, z_eq, z_tn, z_chk, z_eqm, z_meq, z_lem, z_mle, z_ltm, z_mlt, z_eqq, z_qeq, z_leq, z_qle, z_ltq, z_qlt, z_m1m2, z_m2m1, z_m1m1, z_m2m2, z_bnd1, z_bnd2, z_bnd3, z_bnd4, z_bnd5, z_bnd6, z_bnd7, z_bnd8, z_bnd9, z_bnd10, z_bnd11, z_bnd12, z_bnd13, z_bnd14, z_bnd15, z_bnd16, z_max, z_min, z_n31, z_shl, z_shr, z_us, z_div, z_mod, z_and, z_or, z_xor, if_true, if_false, Nat.le_refl], by simp (disch := omega) only [nm, z_lit, z_one, z_mone, z_neg1, z_neg2, z_pred, z_add, z_mul, z_sub, z_le, z_lt, z_eq, z_tn, z_chk, z_eqm, z_meq, z_lem, z_mle, z_ltm, z_mlt, z_eqq, z_qeq, z_leq, z_qle, z_ltq, z_qlt, z_m1m2, z_m2m1, z_m1m1, z_m2m2, z_bnd1, z_bnd2, z_bnd3, z_bnd4, z_bnd5, z_bnd6, z_bnd7, z_bnd8, z_bnd9, z_bnd10, z_bnd11, z_bnd12, z_bnd13, z_bnd14, z_bnd15, z_bnd16, z_max, z_min, z_n31, z_shl, z_shr, z_us, z_div, z_mod, z_and, z_or, z_xor, if_true, if_false, Nat.le_refl], W⟩
    · obtain ⟨d, hd, e1, e2⟩ := z_bit x (i := i) (by omega)
      obtain ⟨ca1, co1, p1, p2, W1⟩ := j_put F n d ca co W (by omega) hd
      obtain ⟨ca', co', q1, q2, W2⟩ := ih g' (i + 1) (n + 1) ca1 co1 (by omega) (by omega) (by omega) (by omega) W1
      have en : n + 1 + (c - (i + 1)) = n + (c - i) := by omega
      rw [en] at q1 q2 W2
      have n0 : (nI c ≤ nI i) = False := by rw [z_le (by omega) (by omega)]; exact eq_false h
      have e31 : nI i &&& nI 31 = nI i := by rw [z_and, z_n31 (by omega)]
      refine ⟨ca', co', ?_, ?_, W2⟩
      · simp only [z_lit, n0, if_false, e1, p1, z_bnd2, nm, z_one, z_add]
        exact q1
      · simp only [z_lit, n0, if_false, e31, e2, p2, z_bnd2, nm, z_one, z_add]
        exact q2
theorem j_bits (F c n : Nat) (x : Int32) (ca co : Nat → Int32) (hF : 100000 ≤ F) (hc : c ≤ 16) (hn : n + c ≤ 4144) (W : Wr n ca co) : ∃ ca' co', m_Writer_putBits F (nI n) ca x (nI c) = some (nI (n + c), ca') ∧ m_MD_putNumber F (nI n) co x (nI c) = some (nI (n + c), co') ∧ Wr (n + c) ca' co' := by
  obtain ⟨ca', co', q1, q2, W2⟩ := l_jbits F c x hc F F 0 n ca co (by omega) (by omega) (by omega) (by omega) W
  rw [Nat.sub_zero] at q1 q2 W2
  refine ⟨ca', co', ?_, ?_, W2⟩
  · unfold m_Writer_putBits; simp only [z_lit, q1, z_bnd3]
  · unfold m_MD_putNumber; simp only [z_lit, q2, z_bnd3]
/-- codes, from the highest bit on -/
theorem l_jcode (F : Nat) (x : Int32) : ∀ (f g k n : Nat) (ca co : Nat → Int32), k ≤ 16 → k < f → k < g → n + k ≤ 4144 → Wr n ca co → ∃ (v v' : Int32) (ca' co' : Nat → Int32), L_Writer_putCode_4 F x f (nI k + m1) (nI n) ca = some (v, nI (n + k), ca') ∧ L_MD_putCode_4 F x g (nI k + m1) (nI n) co = some (v', nI (n + k), co') ∧ Wr (n + k) ca' co' := by
  intro f
  induction f with
  | zero => intros; omega
  | succ f ih =>
    intro g k n ca co hk hf hg hn W
    obtain ⟨g', rfl⟩ : ∃ g', g = g' + 1 := ⟨g - 1, by omega⟩
    unfold L_Writer_putCode_4 B_Writer_putCode_4 L_MD_putCode_4 B_MD_putCode_4
    by_cases h : k = 0
    · subst h
      rw [if_pos (show nI 0 + m1 < (0 : Int32) by decide), if_pos (show nI 0 + m1 < (0 : Int32) by decide)]
      exact ⟨_, _, ca, co, rfl, rfl, W⟩
    · obtain ⟨i, rfl⟩ : ∃ i, k = i + 1 := ⟨k - 1, by omega⟩
      have e0 : nI (i + 1) + m1 = nI i := by rw [z_pred (by omega), Nat.add_sub_cancel]
      obtain ⟨d, hd, e1, e2⟩ := z_bit x (i := i) (by omega)
      obtain ⟨ca1, co1, p1, p2, W1⟩ := j_put F n d ca co W (by omega) hd
      obtain ⟨v, v', ca', co', q1, q2, W2⟩ := ih g' i (n + 1) ca1 co1 (by omega) (by omega) (by omega) (by omega) W1
      have en : n + 1 + i = n + (i + 1) := by omega
      rw [en] at q1 q2 W2
      have n0 : (nI i < nI 0) = False := by rw [z_lt (by omega) (by omega)]; exact eq_false (by omega)
      have e31 : nI i &&& nI 31 = nI i := by rw [z_and, z_n31 (by omega)]
      rw [e0]
      refine ⟨v, v', ca', co', ?_, ?_, W2⟩
      · simp only [z_lit, n0, if_false, e1, p1, z_bnd2, nm, z_mone]
        exact q1
      · simp only [z_lit, n0, if_false, e31, e2, p2, z_bnd2, nm, z_mone]
        exact q2
theorem j_code (F c n : Nat) (x : Int32) (ca co : Nat → Int32) (hF : 100000 ≤ F) (hc : c ≤ 16) (hn : n + c ≤ 4144) (W : Wr n ca co) : ∃ ca' co', m_Writer_putCode F (nI n) ca x (nI c) = some (nI (n + c), ca') ∧ m_MD_putCode F (nI n) co x (nI c) = some (nI (n + c), co') ∧ Wr (n + c) ca' co' := by
  obtain ⟨v, v', ca', co', q1, q2, W2⟩ := l_jcode F x F F c n ca co hc (by omega) (by omega) hn W
  refine ⟨ca', co', ?_, ?_, W2⟩
  · unfold m_Writer_putCode
    simp only [z_lit, nm]
    rw [z_sub1, q1]; rfl
  · unfold m_MD_putCode
    simp only [z_lit, nm]
    rw [z_sub1, q2]; rfl
