/-! reading bits, and sets of lengths -/
def bat (cb : Nat → Nat) (p : Nat) : Nat := (cb (p / 8) >>> (p % 8)) &&& 1
def rb (cb : Nat → Nat) (at_ : Nat) : Nat → Nat
  | 0 => 0
  | k + 1 => rb cb at_ k ||| bat cb (at_ + k) <<< k
theorem bat_le (cb : Nat → Nat) (p : Nat) : bat cb p ≤ 1 := by unfold bat; rw [bit_and1]; omega
theorem rb_lt (cb : Nat → Nat) (at_ : Nat) : ∀ k, rb cb at_ k < 2 ^ k := by
  intro k
  induction k with
  | zero => rw [rb]; exact Nat.two_pow_pos 0
  | succ k ih =>
    rw [rb]
    refine Nat.or_lt_two_pow (Nat.lt_trans ih (Nat.pow_lt_pow_right (by omega) (by omega))) ?_
    rw [Nat.shiftLeft_eq, Nat.pow_succ, Nat.mul_comm]
    have := bat_le cb (at_ + k)
    exact Nat.mul_lt_mul_of_pos_left (by omega) (Nat.two_pow_pos _)
def fedr (cb : Nat → Nat) (nF : Nat) (C M : Nat → Int32) : Prop := nF ≤ 1200 ∧ ∀ j, j < nF → C j = nI (cb j) ∧ M j = nI (cb j) ∧ cb j < 256
theorem l_ctake (F c nF at0 : Nat) (cb : Nat → Nat) (C M : Nat → Int32) (hr : fedr cb nF C M) (hc : c ≤ 16) (ha : at0 + c ≤ 8 * nF) : ∀ (f k : Nat), k ≤ c → c - k < f → L_Reader_takeBits_40 F C (nI c) f (nI (rb cb at0 k)) (nI k) (nI (at0 + k)) = some (nI (rb cb at0 c), nI c, nI (at0 + c)) := by
  have hn := hr.1
  intro f
  induction f with
  | zero => intros; omega
  | succ f ih =>
    intro k hk hf
    unfold L_Reader_takeBits_40 B_Reader_takeBits_40
    by_cases h : c ≤ k
    · have e : k = c := by omega
      subst e
      simp (disch := omega) only [nm, z_lit, z_one, z_mone, z_neg1, z_neg2, z_pred, z_add, z_mul, z_sub, z_le, z_lt, z_eq, z_tn, z_chk, z_eqm, z_meq, z_lem, z_mle, z_ltm, z_mlt, z_eqq, z_qeq, z_leq, z_qle, z_ltq, z_qlt, z_m1m2, z_m2m1, z_m1m1, z_m2m2, z_bnd1, z_bnd2, z_bnd3, z_bnd4, z_bnd5, z_bnd6, z_bnd7, z_bnd8, z_bnd9, z_bnd10, z_bnd11, z_bnd12, z_bnd13, z_bnd14, z_bnd15, z_bnd16, z_max, z_min, z_n31, z_shl, z_shr, z_us, z_div, z_mod, z_and, z_or, z_xor, if_true, if_false, Nat.le_refl]
    · have e7 : (at0 + k) &&& 7 = (at0 + k) % 8 := Nat.and_two_pow_sub_one_eq_mod _ 3
      have e3 : (at0 + k) >>> 3 = (at0 + k) / 8 := by rw [Nat.shiftRight_eq_div_pow]
      obtain ⟨e1, _, b1⟩ := hr.2 ((at0 + k) / 8) (by omega)
      have k8 : (at0 + k) % 8 < 8 := Nat.mod_lt _ (by omega)
      have eb : (cb ((at0 + k) / 8) >>> ((at0 + k) % 8)) &&& 1 = bat cb (at0 + k) := rfl
      have er : rb cb at0 k ||| bat cb (at0 + k) <<< k = rb cb at0 (k + 1) := rfl
      have ea : at0 + k + 1 = at0 + (k + 1) := by omega
      simp (disch := omega) only [nm, z_lit, z_one, z_mone, z_neg1, z_neg2, z_pred, z_add, z_mul, z_sub, z_le, z_lt, z_eq, z_tn, z_chk, z_eqm, z_meq, z_lem, z_mle, z_ltm, z_mlt, z_eqq, z_qeq, z_leq, z_qle, z_ltq, z_qlt, z_m1m2, z_m2m1, z_m1m1, z_m2m2, z_bnd1, z_bnd2, z_bnd3, z_bnd4, z_bnd5, z_bnd6, z_bnd7, z_bnd8, z_bnd9, z_bnd10, z_bnd11, z_bnd12, z_bnd13, z_bnd14, z_bnd15, z_bnd16, z_max, z_min, z_n31, z_shl, z_shr, z_us, z_div, z_mod, z_and, z_or, z_xor, if_true, if_false, h, e3, e7, e1, eb, er, ea]
      exact ih (k + 1) (by omega) (by omega)
theorem l_mtake (F c nF at0 : Nat) (cb : Nat → Nat) (C M : Nat → Int32) (hr : fedr cb nF C M) (hc : c ≤ 16) (ha : at0 + c ≤ 8 * nF) : ∀ (f k : Nat), k ≤ c → c - k < f → L_MD_take_4 F M (nI c) f (nI (rb cb at0 k)) (nI k) (nI (at0 + k)) = some (nI (rb cb at0 c), nI c, nI (at0 + c)) := by
  have hn := hr.1
  intro f
  induction f with
  | zero => intros; omega
  | succ f ih =>
    intro k hk hf
    unfold L_MD_take_4 B_MD_take_4
    by_cases h : c ≤ k
    · have e : k = c := by omega
      subst e
      simp (disch := omega) only [nm, z_lit, z_one, z_mone, z_neg1, z_neg2, z_pred, z_add, z_mul, z_sub, z_le, z_lt, z_eq, z_tn, z_chk, z_eqm, z_meq, z_lem, z_mle, z_ltm, z_mlt, z_eqq, z_qeq, z_leq, z_qle, z_ltq, z_qlt, z_m1m2, z_m2m1, z_m1m1, z_m2m2, z_bnd1, z_bnd2, z_bnd3, z_bnd4, z_bnd5, z_bnd6, z_bnd7, z_bnd8, z_bnd9, z_bnd10, z_bnd11, z_bnd12, z_bnd13, z_bnd14, z_bnd15, z_bnd16, z_max, z_min, z_n31, z_shl, z_shr, z_us, z_div, z_mod, z_and, z_or, z_xor, if_true, if_false, Nat.le_refl]
    · obtain ⟨_, e1, b1⟩ := hr.2 ((at0 + k) / 8) (by omega)
      have e8 : at0 + k - (at0 + k) / 8 * 8 = (at0 + k) % 8 := by omega
      have k8 : (at0 + k) % 8 < 8 := Nat.mod_lt _ (by omega)
      have eb : (cb ((at0 + k) / 8) >>> ((at0 + k) % 8)) &&& 1 = bat cb (at0 + k) := rfl
      have er : rb cb at0 k ||| bat cb (at0 + k) <<< k = rb cb at0 (k + 1) := rfl
      have ea : at0 + k + 1 = at0 + (k + 1) := by omega
      simp (disch := omega) only [nm, z_lit, z_one, z_mone, z_neg1, z_neg2, z_pred, z_add, z_mul, z_sub, z_le, z_lt, z_eq, z_tn, z_chk, z_eqm, z_meq, z_lem, z_mle, z_ltm, z_mlt, z_eqq, z_qeq, z_leq, z_qle, z_ltq, z_qlt, z_m1m2, z_m2m1, z_m1m1, z_m2m2, z_bnd1, z_bnd2, z_bnd3, z_bnd4, z_bnd5, z_bnd6, z_bnd7, z_bnd8, z_bnd9, z_bnd10, z_bnd11, z_bnd12, z_bnd13, z_bnd14, z_bnd15, z_bnd16, z_max, z_min, z_n31, z_shl, z_shr, z_us, z_div, z_mod, z_and, z_or, z_xor, if_true, if_false, h, e1, e8, eb, er, ea]
      exact ih (k + 1) (by omega) (by omega)
/-- bits that are there -/
theorem s_bits (F c nF at0 : Nat) (cb : Nat → Nat) (C M : Nat → Int32) (hF : 100000 ≤ F) (hr : fedr cb nF C M) (hc : c ≤ 16) (ha : at0 + c ≤ 8 * nF) : m_Reader_takeBits F (nI at0) (nI (8 * nF)) C m1 (nI c) = some (nI (rb cb at0 c), m1, nI (at0 + c)) ∧ m_MD_has F (nI at0) (nI nF) (nI c) = some (nI 1) ∧ m_MD_take F (nI at0) M (nI c) = some (nI (rb cb at0 c), nI (at0 + c)) := by
  have hn := hr.1
  have q1 := l_ctake F c nF at0 cb C M hr hc ha F 0 (by omega) (by omega)
  have q2 := l_mtake F c nF at0 cb C M hr hc ha F 0 (by omega) (by omega)
  have e0 : rb cb at0 0 = 0 := rfl
  rw [e0, Nat.add_zero] at q1 q2
  have h1 : c ≤ 8 * nF - at0 := by omega
  have h2 : ¬ (8 * nF < at0 + c) := by omega
  refine ⟨?_, ?_, ?_⟩
  · unfold m_Reader_takeBits
    simp (disch := omega) only [nm, z_lit, z_one, z_mone, z_neg1, z_neg2, z_pred, z_add, z_mul, z_sub, z_le, z_lt, z_eq, z_tn, z_chk, z_eqm, z_meq, z_lem, z_mle, z_ltm, z_mlt, z_eqq, z_qeq, z_leq, z_qle, z_ltq, z_qlt, z_m1m2, z_m2m1, z_m1m1, z_m2m2, z_bnd1, z_bnd2, z_bnd3, z_bnd4, z_bnd5, z_bnd6, z_bnd7, z_bnd8, z_bnd9, z_bnd10, z_bnd11, z_bnd12, z_bnd13, z_bnd14, z_bnd15, z_bnd16, z_max, z_min, z_n31, z_shl, z_shr, z_us, z_div, z_mod, z_and, z_or, z_xor, if_true, if_false, h1, q1]
  · unfold m_MD_has
    simp (disch := omega) only [nm, z_lit, z_one, z_mone, z_neg1, z_neg2, z_pred, z_add, z_mul, z_sub, z_le, z_lt, z_eq, z_tn, z_chk, z_eqm, z_meq, z_lem, z_mle, z_ltm, z_mlt, z_eqq, z_qeq, z_leq, z_qle, z_ltq, z_qlt, z_m1m2, z_m2m1, z_m1m1, z_m2m2, z_bnd1, z_bnd2, z_bnd3, z_bnd4, z_bnd5, z_bnd6, z_bnd7, z_bnd8, z_bnd9, z_bnd10, z_bnd11, z_bnd12, z_bnd13, z_bnd14, z_bnd15, z_bnd16, z_max, z_min, z_n31, z_shl, z_shr, z_us, z_div, z_mod, z_and, z_or, z_xor, if_true, if_false, h2]
  · unfold m_MD_take
    simp only [z_lit, q2, z_bnd3]
/-- bits that are wanted -/
theorem s_nobits (F c nF at0 : Nat) (C : Nat → Int32) (hn : nF ≤ 1200) (ha0 : at0 ≤ 8 * nF) (hc : c ≤ 32) (ha : 8 * nF < at0 + c) : m_Reader_takeBits F (nI at0) (nI (8 * nF)) C m1 (nI c) = some (m1, nI 0, nI at0) ∧ m_MD_has F (nI at0) (nI nF) (nI c) = some (nI 0) := by
  have h1 : ¬ (c ≤ 8 * nF - at0) := by omega
  constructor
  · unfold m_Reader_takeBits
    have e : (nI 0 = m1) = False := eq_false (by decide)
    simp (disch := omega) only [nm, z_lit, z_one, z_mone, z_neg1, z_neg2, z_pred, z_add, z_mul, z_sub, z_le, z_lt, z_eq, z_tn, z_chk, z_eqm, z_meq, z_lem, z_mle, z_ltm, z_mlt, z_eqq, z_qeq, z_leq, z_qle, z_ltq, z_qlt, z_m1m2, z_m2m1, z_m1m1, z_m2m2, z_bnd1, z_bnd2, z_bnd3, z_bnd4, z_bnd5, z_bnd6, z_bnd7, z_bnd8, z_bnd9, z_bnd10, z_bnd11, z_bnd12, z_bnd13, z_bnd14, z_bnd15, z_bnd16, z_max, z_min, z_n31, z_shl, z_shr, z_us, z_div, z_mod, z_and, z_or, z_xor, if_true, if_false, h1, e]
  · unfold m_MD_has
    simp (disch := omega) only [nm, z_lit, z_one, z_mone, z_neg1, z_neg2, z_pred, z_add, z_mul, z_sub, z_le, z_lt, z_eq, z_tn, z_chk, z_eqm, z_meq, z_lem, z_mle, z_ltm, z_mlt, z_eqq, z_qeq, z_leq, z_qle, z_ltq, z_qlt, z_m1m2, z_m2m1, z_m1m1, z_m2m2, z_bnd1, z_bnd2, z_bnd3, z_bnd4, z_bnd5, z_bnd6, z_bnd7, z_bnd8, z_bnd9, z_bnd10, z_bnd11, z_bnd12, z_bnd13, z_bnd14, z_bnd15, z_bnd16, z_max, z_min, z_n31, z_shl, z_shr, z_us, z_div, z_mod, z_and, z_or, z_xor, if_true, if_false, ha]
/-- nothing is taken when the reading has stopped -/
theorem s_stopped (F : Nat) (at_ bc c s : Int32) (C : Nat → Int32) (hs : s ≠ m1) : m_Reader_takeBits F at_ bc C s c = some (m1, s, at_) := by
  unfold m_Reader_takeBits
  have h : ¬ (s = (-1 : Int32)) := hs
  rw [if_neg h, z_bnd1, if_neg h]
  rfl
/-! sets of lengths -/
/-- where the symbols of length m begin -/
def off (L : Nat → Nat) (n : Nat) : Nat → Nat
  | 0 => 0
  | m + 1 => off L n m + (if m = 0 then 0 else nl L m n)
/-- how much is full, of 2^15 -/
def ful (L : Nat → Nat) : Nat → Nat
  | 0 => 0
  | i + 1 => ful L i + (if L i = 0 then 0 else 2 ^ (15 - L i))
def cdn (L : Nat → Nat) : Nat → Nat
  | 0 => 0
  | i + 1 => cdn L i + (if L i = 0 then 0 else 1)
theorem l_mk16 (F N fr n : Nat) (p : Nat → Int32) (L : Nat → Nat) (hN : fr + n ≤ N) (hN2 : N ≤ 400) (hp : ∀ k, k < n → p (fr + k) = nI (L k) ∧ L k ≤ 15) : ∀ (f i : Nat) (q : Nat → Int32), i ≤ n → n - i < f → (∀ m, m < 16 → q m = nI (if m = 0 then 0 else nl L m i)) → ∃ q', L_CodeSet_make_16 F N p (nI fr) (nI n) f (nI i) (nI (cdn L i)) q = some (nI n, nI (cdn L n), q') ∧ ∀ m, m < 16 → q' m = nI (if m = 0 then 0 else nl L m n) := by
  intro f
  induction f with
  | zero => intros; omega
  | succ f ih =>
    intro i q hi hf I
    unfold L_CodeSet_make_16 B_CodeSet_make_16
    by_cases h : n ≤ i
    · have e : i = n := by omega
      subst e
      exact ⟨q, by simp (disch := omega) only [nm, z_lit, z_one, z_mone, z_neg1, z_neg2, z_pred, z_add, z_mul, z_sub, z_le, z_lt, z_eq, z_tn, z_chk, z_eqm, z_meq, z_lem, z_mle, z_ltm, z_mlt, z_eqq, z_qeq, z_leq, z_qle, z_ltq, z_qlt, z_m1m2, z_m2m1, z_m1m1, z_m2m2, z_bnd1, z_bnd2, z_bnd3, z_bnd4, z_bnd5, z_bnd6, z_bnd7, z_bnd8, z_bnd9, z_bnd10, z_bnd11, z_bnd12, z_bnd13, z_bnd14, z_bnd15, z_bnd16, z_max, z_min, z_n31, z_shl, z_shr, z_us, z_div, z_mod, z_and, z_or, z_xor, if_true, if_false, Nat.le_refl], I⟩
    · obtain ⟨e1, b1⟩ := hp i (by omega)
      by_cases c : L i ≤ 0
      · have ec : cdn L (i + 1) = cdn L i := by rw [cdn, if_pos (by omega)]; rfl
        simp (disch := omega) only [nm, z_lit, z_one, z_mone, z_neg1, z_neg2, z_pred, z_add, z_mul, z_sub, z_le, z_lt, z_eq, z_tn, z_chk, z_eqm, z_meq, z_lem, z_mle, z_ltm, z_mlt, z_eqq, z_qeq, z_leq, z_qle, z_ltq, z_qlt, z_m1m2, z_m2m1, z_m1m1, z_m2m2, z_bnd1, z_bnd2, z_bnd3, z_bnd4, z_bnd5, z_bnd6, z_bnd7, z_bnd8, z_bnd9, z_bnd10, z_bnd11, z_bnd12, z_bnd13, z_bnd14, z_bnd15, z_bnd16, z_max, z_min, z_n31, z_shl, z_shr, z_us, z_div, z_mod, z_and, z_or, z_xor, if_true, if_false, h, e1, c]
        rw [← ec]
        refine ih (i + 1) q (by omega) (by omega) (fun m hm => ?_)
        rw [I m hm, nl]
        by_cases c2 : m = 0
        · rw [if_pos c2, if_pos c2]
        · rw [if_neg c2, if_neg c2, if_neg (by omega)]; rfl
      · have n15 : ¬ (15 < L i) := by omega
        have e2 := I (L i) (by omega)
        rw [if_neg (by omega)] at e2
        have ec : cdn L (i + 1) = cdn L i + 1 := by rw [cdn, if_neg (by omega)]
        simp (disch := omega) only [nm, z_lit, z_one, z_mone, z_neg1, z_neg2, z_pred, z_add, z_mul, z_sub, z_le, z_lt, z_eq, z_tn, z_chk, z_eqm, z_meq, z_lem, z_mle, z_ltm, z_mlt, z_eqq, z_qeq, z_leq, z_qle, z_ltq, z_qlt, z_m1m2, z_m2m1, z_m1m1, z_m2m2, z_bnd1, z_bnd2, z_bnd3, z_bnd4, z_bnd5, z_bnd6, z_bnd7, z_bnd8, z_bnd9, z_bnd10, z_bnd11, z_bnd12, z_bnd13, z_bnd14, z_bnd15, z_bnd16, z_max, z_min, z_n31, z_shl, z_shr, z_us, z_div, z_mod, z_and, z_or, z_xor, if_true, if_false, h, e1, c, n15, e2]
        rw [← ec]
        refine ih (i + 1) _ (by omega) (by omega) (fun m hm => ?_)
        rw [nl]
        by_cases e : m = L i
        · rw [e, z_updE, if_neg (by omega), if_pos rfl]
        · rw [z_updN e, I m hm]
          by_cases c2 : m = 0
          · rw [if_pos c2, if_pos c2]
          · rw [if_neg c2, if_neg c2, if_neg (Ne.symm e)]; rfl
theorem off_le (L : Nat → Nat) (n : Nat) : ∀ m, off L n m ≤ m * n := by
  intro m
  induction m with
  | zero => exact Nat.zero_le _
  | succ m ih =>
    rw [off, Nat.add_mul]
    have := nl_le L m n
    split <;> omega
/-- the symbols below i, and of them those with length below m -/
theorem off_eq (L : Nat → Nat) (n : Nat) : ∀ m, off L n (m + 1) = sm (fun k => nl L (k + 1) n) 0 m := by
  intro m
  induction m with
  | zero => rfl
  | succ m ih => rw [off, ih, if_neg (by omega), sm, Nat.zero_add]
theorem nl_sum (L : Nat → Nat) (M : Nat) : ∀ n, sm (fun k => nl L (k + 1) n) 0 M ≤ n := by
  intro n
  induction n with
  | zero => have e := sm_zero (fun k => nl L (k + 1) 0) 0 M (fun i _ _ => rfl)
            omega
  | succ n ih =>
    have e : sm (fun k => nl L (k + 1) (n + 1)) 0 M = sm (fun k => nl L (k + 1) n) 0 M + sm (fun k => if L n = k + 1 then 1 else 0) 0 M := by
      rw [← sm_addf]; rfl
    have q : sm (fun k => if L n = k + 1 then 1 else 0) 0 M ≤ 1 := by
      by_cases c : ∃ x, x < M ∧ L n = x + 1
      · obtain ⟨x, hx, hL⟩ := c
        have := sm_one (fun _ => 1) x 0 M (by omega) (by omega)
        have e2 : sm (fun k => if L n = k + 1 then 1 else 0) 0 M = sm (fun s => if s = x then 1 else 0) 0 M := sm_congr (fun i _ _ => by
          by_cases c2 : i = x
          · rw [if_pos c2, if_pos (by omega)]
          · rw [if_neg c2, if_neg (by omega)])
        rw [e2]
        exact Nat.le_of_eq this
      · rw [sm_zero _ _ _ (fun i _ hi => if_neg (fun h => c ⟨i, by omega, h⟩))]; omega
    omega
/-- places of symbols are below n, and different -/
theorem off_lt (L : Nat → Nat) (n : Nat) {s : Nat} (hs : s < n) (hL : 0 < L s) : off L n (L s) + nl L (L s) s < n ∧ nl L (L s) s < nl L (L s) n := by
  have h1 : nl L (L s) s < nl L (L s) n := by
    have : ∀ i, s < i → nl L (L s) s < nl L (L s) i := by
      intro i
      induction i with
      | zero => intro h; omega
      | succ i ih =>
        intro h
        rw [nl]
        by_cases e : s = i
        · rw [← e, if_pos rfl]; omega
        · have := ih (by omega); omega
    exact this n hs
  have h2 := nl_sum L (L s) n
  rw [← off_eq, off, if_neg (by omega)] at h2
  omega
