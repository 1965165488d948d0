/-! the row of lengths, read by both -/
theorem l_rl (F e : Nat) (z : Int32) (he : e ≤ 318) : ∀ (f i : Nat) (len : Nat → Int32), i ≤ e → e - i < f → ∃ len', L_Reader_readLengths_143 F (nI e) z f (nI i) len = some (nI e, len') ∧ ∀ j, len' j = if i ≤ j ∧ j < e then z else len j := by
  intro f
  induction f with
  | zero => intros; omega
  | succ f ih =>
    intro i len hi hf
    unfold L_Reader_readLengths_143 B_Reader_readLengths_143
    by_cases h : e ≤ i
    · have e : i = e := by omega
      subst e
      exact ⟨len, by simp (disch := omega) only [nm, z_lit, z_one, z_mone, z_neg1, z_neg2, z_pred, z_add, z_mul, z_sub, z_le, z_lt, z_eq, z_tn, z_chk, z_eqm, z_meq, z_lem, z_mle, z_ltm, z_mlt, z_eqq, z_qeq, z_leq, z_qle, z_ltq, z_qlt, z_m1m2, z_m2m1, z_m1m1, z_m2m2, z_bnd1, z_bnd2, z_bnd3, z_bnd4, z_bnd5, z_bnd6, z_bnd7, z_bnd8, z_bnd9, z_bnd10, z_bnd11, z_bnd12, z_bnd13, z_bnd14, z_bnd15, z_bnd16, z_max, z_min, z_n31, z_shl, z_shr, z_us, z_div, z_mod, z_and, z_or, z_xor, if_true, if_false, Nat.le_refl], fun j => by rw [if_neg (by omega)]⟩
    · obtain ⟨len', q1, q2⟩ := ih (i + 1) (upd len i z) (by omega) (by omega)
      refine ⟨len', ?_, fun j => ?_⟩
      · simp (disch := omega) only [nm, z_lit, z_one, z_mone, z_neg1, z_neg2, z_pred, z_add, z_mul, z_sub, z_le, z_lt, z_eq, z_tn, z_chk, z_eqm, z_meq, z_lem, z_mle, z_ltm, z_mlt, z_eqq, z_qeq, z_leq, z_qle, z_ltq, z_qlt, z_m1m2, z_m2m1, z_m1m1, z_m2m2, z_bnd1, z_bnd2, z_bnd3, z_bnd4, z_bnd5, z_bnd6, z_bnd7, z_bnd8, z_bnd9, z_bnd10, z_bnd11, z_bnd12, z_bnd13, z_bnd14, z_bnd15, z_bnd16, z_max, z_min, z_n31, z_shl, z_shr, z_us, z_div, z_mod, z_and, z_or, z_xor, if_true, if_false, h]
        exact q1
      · rw [q2 j]
        by_cases c : j = i
        · subst c; rw [if_neg (by omega), if_pos (by omega), z_updE]
        · rw [z_updN c]
          by_cases c2 : i + 1 ≤ j ∧ j < e
          · rw [if_pos c2, if_pos (by omega)]
          · rw [if_neg c2, if_neg (by omega)]
theorem l_mr (F x many n0 v : Nat) (hx : x < 19) (hn : n0 + many ≤ 330) (hv : x ≠ 16 → v = 0) : ∀ (g i : Nat) (row : Nat → Int32), i ≤ many → many - i < g → (x = 16 → 1 ≤ n0 + i ∧ row (n0 + i - 1) = nI v) → ∃ row', L_MD_readRow_143 F (nI x) (nI many) g (nI (n0 + i)) (nI i) row = some (nI (n0 + many), nI many, row') ∧ ∀ j, row' j = if n0 + i ≤ j ∧ j < n0 + many then nI v else row j := by
  intro g
  induction g with
  | zero => intros; omega
  | succ g ih =>
    intro i row hi hg hrow
    unfold L_MD_readRow_143 B_MD_readRow_143
    by_cases h : many ≤ i
    · have e : i = many := by omega
      subst e
      exact ⟨row, by simp (disch := omega) only [nm, z_lit, z_one, z_mone, z_neg1, z_neg2, z_pred, z_add, z_mul, z_sub, z_le, z_lt, z_eq, z_tn, z_chk, z_eqm, z_meq, z_lem, z_mle, z_ltm, z_mlt, z_eqq, z_qeq, z_leq, z_qle, z_ltq, z_qlt, z_m1m2, z_m2m1, z_m1m1, z_m2m2, z_bnd1, z_bnd2, z_bnd3, z_bnd4, z_bnd5, z_bnd6, z_bnd7, z_bnd8, z_bnd9, z_bnd10, z_bnd11, z_bnd12, z_bnd13, z_bnd14, z_bnd15, z_bnd16, z_max, z_min, z_n31, z_shl, z_shr, z_us, z_div, z_mod, z_and, z_or, z_xor, if_true, if_false, Nat.le_refl], fun j => by rw [if_neg (by omega)]⟩
    · obtain ⟨row', q1, q2⟩ := ih (i + 1) (upd row (n0 + i) (nI v)) (by omega) (by omega) (fun hx => ⟨by omega, by
        have e : n0 + (i + 1) - 1 = n0 + i := by omega
        rw [e, z_updE]⟩)
      have ea : n0 + i + 1 = n0 + (i + 1) := by omega
      refine ⟨row', ?_, fun j => ?_⟩
      · by_cases c : x = 16
        · obtain ⟨r1, r2⟩ := hrow c
          subst c
          simp (disch := omega) only [nm, z_lit, z_one, z_mone, z_neg1, z_neg2, z_pred, z_add, z_mul, z_sub, z_le, z_lt, z_eq, z_tn, z_chk, z_eqm, z_meq, z_lem, z_mle, z_ltm, z_mlt, z_eqq, z_qeq, z_leq, z_qle, z_ltq, z_qlt, z_m1m2, z_m2m1, z_m1m1, z_m2m2, z_bnd1, z_bnd2, z_bnd3, z_bnd4, z_bnd5, z_bnd6, z_bnd7, z_bnd8, z_bnd9, z_bnd10, z_bnd11, z_bnd12, z_bnd13, z_bnd14, z_bnd15, z_bnd16, z_max, z_min, z_n31, z_shl, z_shr, z_us, z_div, z_mod, z_and, z_or, z_xor, if_true, if_false, h, r2, ea]
          exact q1
        · have v0 := hv c
          subst v0
          simp (disch := omega) only [nm, z_lit, z_one, z_mone, z_neg1, z_neg2, z_pred, z_add, z_mul, z_sub, z_le, z_lt, z_eq, z_tn, z_chk, z_eqm, z_meq, z_lem, z_mle, z_ltm, z_mlt, z_eqq, z_qeq, z_leq, z_qle, z_ltq, z_qlt, z_m1m2, z_m2m1, z_m1m1, z_m2m2, z_bnd1, z_bnd2, z_bnd3, z_bnd4, z_bnd5, z_bnd6, z_bnd7, z_bnd8, z_bnd9, z_bnd10, z_bnd11, z_bnd12, z_bnd13, z_bnd14, z_bnd15, z_bnd16, z_max, z_min, z_n31, z_shl, z_shr, z_us, z_div, z_mod, z_and, z_or, z_xor, if_true, if_false, h, c, ea]
          exact q1
      · rw [q2 j]
        by_cases c : j = n0 + i
        · subst c; rw [if_neg (by omega), if_pos (by omega), z_updE]
        · rw [z_updN c]
          by_cases c2 : n0 + (i + 1) ≤ j ∧ j < n0 + many
          · rw [if_pos c2, if_pos (by omega)]
          · rw [if_neg c2, if_neg (by omega)]
/-- lengths repeated by both -/
theorem j_rep (F x many n v : Nat) (len row : Nat → Int32) (hF : 100000 ≤ F) (hx : x < 19) (hn : n + many ≤ 318) (hv : x ≠ 16 → v = 0) (hv15 : v ≤ 15) (h16 : x = 16 → 1 ≤ n ∧ row (n - 1) = nI v) (R : rrel n len row) : ∃ len' row', L_Reader_readLengths_143 F (nI (n + many)) (nI v) F (nI n) len = some (nI (n + many), len') ∧ L_MD_readRow_143 F (nI x) (nI many) F (nI n) (nI 0) row = some (nI (n + many), nI many, row') ∧ rrel (n + many) len' row' := by
  obtain ⟨len', a1, a2⟩ := l_rl F (n + many) (nI v) hn F n len (by omega) (by omega)
  obtain ⟨row', b1, b2⟩ := l_mr F x many n v hx (by omega) hv F 0 row (by omega) (by omega) (fun h => h16 h)
  refine ⟨len', row', a1, b1, fun j hj => ?_⟩
  rw [a2 j, b2 j]
  by_cases c : n ≤ j
  · rw [if_pos (by omega), if_pos (by omega)]; exact ⟨v, hv15, rfl, rfl⟩
  · rw [if_neg (by omega), if_neg (by omega)]; exact R j (by omega)
theorem l_rlx (F e : Nat) (z : Int32) (he : e ≤ 318) : ∀ (f i : Nat) (len : Nat → Int32), i ≤ e → e - i < f → ∃ len', L_Reader_readLengths_143x F (nI e) z f (nI i) len = some (nI e, len') ∧ ∀ j, len' j = if i ≤ j ∧ j < e then z else len j := by
  intro f
  induction f with
  | zero => intros; omega
  | succ f ih =>
    intro i len hi hf
    unfold L_Reader_readLengths_143x B_Reader_readLengths_143x
    by_cases h : e ≤ i
    · have e : i = e := by omega
      subst e
      exact ⟨len, by simp (disch := omega) only [nm, z_lit, z_one, z_mone, z_neg1, z_neg2, z_pred, z_add, z_mul, z_sub, z_le, z_lt, z_eq, z_tn, z_chk, z_eqm, z_meq, z_lem, z_mle, z_ltm, z_mlt, z_eqq, z_qeq, z_leq, z_qle, z_ltq, z_qlt, z_m1m2, z_m2m1, z_m1m1, z_m2m2, z_bnd1, z_bnd2, z_bnd3, z_bnd4, z_bnd5, z_bnd6, z_bnd7, z_bnd8, z_bnd9, z_bnd10, z_bnd11, z_bnd12, z_bnd13, z_bnd14, z_bnd15, z_bnd16, z_max, z_min, z_n31, z_shl, z_shr, z_us, z_div, z_mod, z_and, z_or, z_xor, if_true, if_false, Nat.le_refl], fun j => by rw [if_neg (by omega)]⟩
    · obtain ⟨len', q1, q2⟩ := ih (i + 1) (upd len i z) (by omega) (by omega)
      refine ⟨len', ?_, fun j => ?_⟩
      · simp (disch := omega) only [nm, z_lit, z_one, z_mone, z_neg1, z_neg2, z_pred, z_add, z_mul, z_sub, z_le, z_lt, z_eq, z_tn, z_chk, z_eqm, z_meq, z_lem, z_mle, z_ltm, z_mlt, z_eqq, z_qeq, z_leq, z_qle, z_ltq, z_qlt, z_m1m2, z_m2m1, z_m1m1, z_m2m2, z_bnd1, z_bnd2, z_bnd3, z_bnd4, z_bnd5, z_bnd6, z_bnd7, z_bnd8, z_bnd9, z_bnd10, z_bnd11, z_bnd12, z_bnd13, z_bnd14, z_bnd15, z_bnd16, z_max, z_min, z_n31, z_shl, z_shr, z_us, z_div, z_mod, z_and, z_or, z_xor, if_true, if_false, h]
        exact q1
      · rw [q2 j]
        by_cases c : j = i
        · subst c; rw [if_neg (by omega), if_pos (by omega), z_updE]
        · rw [z_updN c]
          by_cases c2 : i + 1 ≤ j ∧ j < e
          · rw [if_pos c2, if_pos (by omega)]
          · rw [if_neg c2, if_neg (by omega)]
theorem l_mrx (F x many n0 v : Nat) (hx : x < 19) (hn : n0 + many ≤ 330) (hv : x ≠ 16 → v = 0) : ∀ (g i : Nat) (row : Nat → Int32), i ≤ many → many - i < g → (x = 16 → 1 ≤ n0 + i ∧ row (n0 + i - 1) = nI v) → ∃ row', L_MD_readRow_143x F (nI x) (nI many) g (nI (n0 + i)) (nI i) row = some (nI (n0 + many), nI many, row') ∧ ∀ j, row' j = if n0 + i ≤ j ∧ j < n0 + many then nI v else row j := by
  intro g
  induction g with
  | zero => intros; omega
  | succ g ih =>
    intro i row hi hg hrow
    unfold L_MD_readRow_143x B_MD_readRow_143x
    by_cases h : many ≤ i
    · have e : i = many := by omega
      subst e
      exact ⟨row, by simp (disch := omega) only [nm, z_lit, z_one, z_mone, z_neg1, z_neg2, z_pred, z_add, z_mul, z_sub, z_le, z_lt, z_eq, z_tn, z_chk, z_eqm, z_meq, z_lem, z_mle, z_ltm, z_mlt, z_eqq, z_qeq, z_leq, z_qle, z_ltq, z_qlt, z_m1m2, z_m2m1, z_m1m1, z_m2m2, z_bnd1, z_bnd2, z_bnd3, z_bnd4, z_bnd5, z_bnd6, z_bnd7, z_bnd8, z_bnd9, z_bnd10, z_bnd11, z_bnd12, z_bnd13, z_bnd14, z_bnd15, z_bnd16, z_max, z_min, z_n31, z_shl, z_shr, z_us, z_div, z_mod, z_and, z_or, z_xor, if_true, if_false, Nat.le_refl], fun j => by rw [if_neg (by omega)]⟩
    · obtain ⟨row', q1, q2⟩ := ih (i + 1) (upd row (n0 + i) (nI v)) (by omega) (by omega) (fun hx => ⟨by omega, by
        have e : n0 + (i + 1) - 1 = n0 + i := by omega
        rw [e, z_updE]⟩)
      have ea : n0 + i + 1 = n0 + (i + 1) := by omega
      refine ⟨row', ?_, fun j => ?_⟩
      · by_cases c : x = 16
        · obtain ⟨r1, r2⟩ := hrow c
          subst c
          simp (disch := omega) only [nm, z_lit, z_one, z_mone, z_neg1, z_neg2, z_pred, z_add, z_mul, z_sub, z_le, z_lt, z_eq, z_tn, z_chk, z_eqm, z_meq, z_lem, z_mle, z_ltm, z_mlt, z_eqq, z_qeq, z_leq, z_qle, z_ltq, z_qlt, z_m1m2, z_m2m1, z_m1m1, z_m2m2, z_bnd1, z_bnd2, z_bnd3, z_bnd4, z_bnd5, z_bnd6, z_bnd7, z_bnd8, z_bnd9, z_bnd10, z_bnd11, z_bnd12, z_bnd13, z_bnd14, z_bnd15, z_bnd16, z_max, z_min, z_n31, z_shl, z_shr, z_us, z_div, z_mod, z_and, z_or, z_xor, if_true, if_false, h, r2, ea]
          exact q1
        · have v0 := hv c
          subst v0
          simp (disch := omega) only [nm, z_lit, z_one, z_mone, z_neg1, z_neg2, z_pred, z_add, z_mul, z_sub, z_le, z_lt, z_eq, z_tn, z_chk, z_eqm, z_meq, z_lem, z_mle, z_ltm, z_mlt, z_eqq, z_qeq, z_leq, z_qle, z_ltq, z_qlt, z_m1m2, z_m2m1, z_m1m1, z_m2m2, z_bnd1, z_bnd2, z_bnd3, z_bnd4, z_bnd5, z_bnd6, z_bnd7, z_bnd8, z_bnd9, z_bnd10, z_bnd11, z_bnd12, z_bnd13, z_bnd14, z_bnd15, z_bnd16, z_max, z_min, z_n31, z_shl, z_shr, z_us, z_div, z_mod, z_and, z_or, z_xor, if_true, if_false, h, c, ea]
          exact q1
      · rw [q2 j]
        by_cases c : j = n0 + i
        · subst c; rw [if_neg (by omega), if_pos (by omega), z_updE]
        · rw [z_updN c]
          by_cases c2 : n0 + (i + 1) ≤ j ∧ j < n0 + many
          · rw [if_pos c2, if_pos (by omega)]
          · rw [if_neg c2, if_neg (by omega)]
/-- lengths repeated by both -/
theorem j_repx (F x many n v : Nat) (len row : Nat → Int32) (hF : 100000 ≤ F) (hx : x < 19) (hn : n + many ≤ 318) (hv : x ≠ 16 → v = 0) (hv15 : v ≤ 15) (h16 : x = 16 → 1 ≤ n ∧ row (n - 1) = nI v) (R : rrel n len row) : ∃ len' row', L_Reader_readLengths_143x F (nI (n + many)) (nI v) F (nI n) len = some (nI (n + many), len') ∧ L_MD_readRow_143x F (nI x) (nI many) F (nI n) (nI 0) row = some (nI (n + many), nI many, row') ∧ rrel (n + many) len' row' := by
  obtain ⟨len', a1, a2⟩ := l_rlx F (n + many) (nI v) hn F n len (by omega) (by omega)
  obtain ⟨row', b1, b2⟩ := l_mrx F x many n v hx (by omega) hv F 0 row (by omega) (by omega) (fun h => h16 h)
  refine ⟨len', row', a1, b1, fun j hj => ?_⟩
  rw [a2 j, b2 j]
  by_cases c : n ≤ j
  · rw [if_pos (by omega), if_pos (by omega)]; exact ⟨v, hv15, rfl, rfl⟩
  · rw [if_neg (by omega), if_neg (by omega)]; exact R j (by omega)

def rxn (x : Nat) : Nat := if x = 16 then 2 else if x = 17 then 3 else if x = 18 then 7 else 0
theorem s_rx (F x : Nat) (hx : x < 19) : m_DE_repeatExtra F (nI x) = some (nI (rxn x)) ∧ m_MD_extraOfRow F (nI x) = some (nI (rxn x)) ∧ rxn x ≤ 7 := by
  have h : ∀ x : Fin 19, m_DE_repeatExtra 0 (nI x.1) = some (nI (rxn x.1)) ∧ m_MD_extraOfRow 0 (nI x.1) = some (nI (rxn x.1)) ∧ rxn x.1 ≤ 7 := by decide +kernel
  exact h ⟨x, hx⟩
theorem z_18 {x : Nat} (hx : x < 19) : (if nI x = (18 : Int32) then some (11 : Int32) else some (3 : Int32)) = some (nI (if x = 18 then 11 else 3)) := by
  by_cases c : x = 18
  · subst c; rfl
  · rw [if_neg (by show ¬ (nI x = nI 18); rw [z_eq (by omega) (by omega)]; exact c), if_neg c]; rfl
/-- one symbol of the row in both: on, or ended -/
def ro (nF all n a : Nat) (s r1 st ss at_ : Int32) (len : Nat → Int32) (X : Option ((Option Int32) × Int32 × Int32 × Int32 × (Nat → Int32))) (rec : Int32 → Int32 → Int32 → (Nat → Int32) → Option ((Option Int32) × Int32 × Int32 × Int32 × (Nat → Int32))) : Prop := (∃ n' a' row', n < n' ∧ n' ≤ all ∧ a < a' ∧ a' ≤ 8 * nF ∧ r1 = nI n' ∧ st = s ∧ ss = m1 ∧ at_ = nI a' ∧ rrel n' len row' ∧ X = rec (nI n') s (nI a') row') ∨ (∃ k v ma row', k < 4 ∧ ss = nI k ∧ X = some (some (nI (k + 1)), v, st, ma, row'))
theorem j_rl1 (F nF a n all : Nat) (cb : Nat → Nat) (C M len row per sy sl sc : Nat → Int32) (lg s : Int32) (rec : Int32 → Int32 → Int32 → (Nat → Int32) → Option ((Option Int32) × Int32 × Int32 × Int32 × (Nat → Int32))) (hF : 100000 ≤ F) (hr : fedr cb nF C M) (J : jset 19 19 19 19 19 lg per sy sl sc) (ha : a ≤ 8 * nF) (hn : n < all) (hall : all ≤ 316) (R : rrel n len row) : ∃ r1 st ss at_ len', m_Reader_readLengths F (nI a) (nI (8 * nF)) C len lg per sy m1 s (nI n) (nI all) = some (r1, st, ss, at_, len') ∧ ro nF all n a s r1 st ss at_ len' (B_MD_readRow_2 F M (nI nF) sc sl (nI all) rec (nI n) s (nI a) row) rec := by
  have hnF := hr.1
  obtain ⟨rc, sc_, ac, rm, am, f1, f2, f3⟩ := j_fnd F 19 19 19 19 19 nF a cb C M sl sc per sy lg hF hr J ha
  unfold m_Reader_readLengths B_MD_readRow_2
  have c1 : (nI all ≤ nI n) = False := eq_false (by rw [z_le (by omega) (by omega)]; omega)
  have em : (m1 = (-1 : Int32)) = True := eq_true rfl
  have e00 : (nI 0 = (0 : Int32)) = True := eq_true rfl
  have e10 : (nI 1 = (0 : Int32)) = False := eq_false (by decide)
  simp only [c1, if_false]
  rw [show (19 : Int32) = nI 19 from rfl, f1, f2]
  simp only [z_bnd3, z_bnd2]
  rcases f3 with ⟨rfl, rfl, rfl⟩ | ⟨rfl, rfl, rfl⟩ | ⟨x, a', x1, rfl, rfl, rfl, rfl, rfl, x2, x3⟩
  · have e1 : (nI 0 = (-1 : Int32)) = False := z_nm1 (by omega)
    have e2 : ((0 : Int32) ≤ m1) = False := eq_false (by decide)
    simp only [e1, e2, em, if_true, if_false]
    exact ⟨_, _, _, _, _, rfl, Or.inr ⟨0, _, _, _, by omega, rfl, rfl⟩⟩
  · have e1 : (m2 < (0 : Int32)) = True := eq_true (by decide)
    have e2 : ((0 : Int32) ≤ m2) = False := eq_false (by decide)
    have e3 : (m2 = (-1 : Int32)) = False := eq_false (by decide)
    simp only [e1, e2, e3, em, if_true, if_false, m_Reader_breakAt, m_MD_broken, z_bnd2]
    exact ⟨_, _, _, _, _, rfl, Or.inr ⟨2, _, _, _, by omega, rfl, rfl⟩⟩
  · have e1 : (nI x < (0 : Int32)) = False := eq_false (by show ¬ (nI x < nI 0); rw [z_lt (by omega) (by omega)]; omega)
    have e2 : ((0 : Int32) ≤ nI x) = True := eq_true (by show nI 0 ≤ nI x; rw [z_le (by omega) (by omega)]; omega)
    simp only [e1, e2, em, if_true, if_false]
    by_cases h16 : 16 ≤ x
    · have d1 : ((16 : Int32) ≤ nI x) = True := eq_true (by show nI 16 ≤ nI x; rw [z_le (by omega) (by omega)]; exact h16)
      obtain ⟨k1, k2, k3⟩ := s_rx F x x1
      have k4 := z_18 x1
      have n11 : (if x = 18 then 11 else 3) ≤ 11 := by split <;> omega
      have n3 : 3 ≤ (if x = 18 then 11 else 3) := by split <;> omega
      generalize (if x = 18 then 11 else 3) = pl at *
      simp only [d1, if_true]
      by_cases hx : x = 16
      · have d2 : (nI x = (16 : Int32)) = True := eq_true (by rw [hx]; rfl)
        simp only [d2, if_true]
        by_cases hn0 : n = 0
        · have d3 : (nI n = (0 : Int32)) = True := eq_true (by rw [hn0]; rfl)
          simp only [d3, if_true, m_Reader_breakAt, m_MD_broken, z_bnd2]
          exact ⟨_, _, _, _, _, rfl, Or.inr ⟨2, _, _, _, by omega, rfl, rfl⟩⟩
        · have d3 : (nI n = (0 : Int32)) = False := eq_false (by show ¬ (nI n = nI 0); rw [z_eq (by omega) (by omega)]; exact hn0)
          simp only [d3, if_false]
          rw [k1, k2, z_bnd1]
          simp only [z_bnd1, k2]
          by_cases hb : 8 * nF < a' + rxn x
          · obtain ⟨q1, q2⟩ := s_nobits F (rxn x) nF a' C hnF x3 (by omega) hb
            rw [q1, q2]
            simp only [z_bnd3, z_bnd1, em, e00, if_true]
            exact ⟨_, _, _, _, _, rfl, Or.inr ⟨0, _, _, _, by omega, rfl, rfl⟩⟩
          · obtain ⟨q1, q2, q3⟩ := s_bits F (rxn x) nF a' cb C M hF hr (by omega) (by omega)
            have rl : rb cb a' (rxn x) < 2 ^ 7 := Nat.lt_of_lt_of_le (rb_lt cb a' _) (Nat.pow_le_pow_right (by omega) k3)
            have e3 : (nI (rb cb a' (rxn x)) = (-1 : Int32)) = False := z_nm1 (by omega)
            rw [q1, q2, q3]
            simp only [z_bnd3, z_bnd1, z_bnd2, e3, e10, if_false, k4, z_add, nm]
            generalize rb cb a' (rxn x) = r at *
            have em2 : n + r + pl = n + (r + pl) := by omega
            rw [em2]
            by_cases hf : n + (r + pl) ≤ all
            · obtain ⟨v, v1, ev2, ev3⟩ := R (n - 1) (by omega)
              have ev1 : nI n - (1 : Int32) = nI (n - 1) := z_sub (show 1 ≤ n by omega)
              have c2 : (nI (n + (r + pl)) ≤ nI all) = True := eq_true (by rw [z_le (by omega) (by omega)]; exact hf)
              simp only [c2, if_true, ev1, z_chk (show n - 1 < 2147483648 by omega) (show n - 1 < 318 by omega), z_tn (show n - 1 < 2147483648 by omega), ev2, z_bnd1]
              obtain ⟨len', row', a1, a2, a3⟩ := j_rep F x (r + pl) n v len row hF x1 (by omega) (fun h => absurd hx h) v1 (fun _ => ⟨by omega, ev3⟩) R
              rw [show (0 : Int32) = nI 0 from rfl, a1, a2]
              exact ⟨_, _, _, _, _, rfl, Or.inl ⟨n + (r + pl), a' + rxn x, row', by omega, hf, by omega, by omega, rfl, rfl, rfl, rfl, a3, rfl⟩⟩
            · have c2 : (nI (n + (r + pl)) ≤ nI all) = False := eq_false (by rw [z_le (by omega) (by omega)]; exact hf)
              simp only [c2, if_false, m_Reader_breakAt, m_MD_broken, z_bnd2]
              exact ⟨_, _, _, _, _, rfl, Or.inr ⟨2, _, _, _, by omega, rfl, rfl⟩⟩
      · have d2 : (nI x = (16 : Int32)) = False := eq_false (by show ¬ (nI x = nI 16); rw [z_eq (by omega) (by omega)]; exact hx)
        simp only [d2, if_false]
        rw [k1, k2, z_bnd1]
        simp only [z_bnd1, k2]
        by_cases hb : 8 * nF < a' + rxn x
        · obtain ⟨q1, q2⟩ := s_nobits F (rxn x) nF a' C hnF x3 (by omega) hb
          rw [q1, q2]
          simp only [z_bnd3, z_bnd1, em, e00, if_true]
          exact ⟨_, _, _, _, _, rfl, Or.inr ⟨0, _, _, _, by omega, rfl, rfl⟩⟩
        · obtain ⟨q1, q2, q3⟩ := s_bits F (rxn x) nF a' cb C M hF hr (by omega) (by omega)
          have rl : rb cb a' (rxn x) < 2 ^ 7 := Nat.lt_of_lt_of_le (rb_lt cb a' _) (Nat.pow_le_pow_right (by omega) k3)
          have e3 : (nI (rb cb a' (rxn x)) = (-1 : Int32)) = False := z_nm1 (by omega)
          rw [q1, q2, q3]
          simp only [z_bnd3, z_bnd1, z_bnd2, e3, e10, if_false, k4, z_add, nm]
          generalize rb cb a' (rxn x) = r at *
          have em2 : n + r + pl = n + (r + pl) := by omega
          rw [em2]
          by_cases hf : n + (r + pl) ≤ all
          · have c2 : (nI (n + (r + pl)) ≤ nI all) = True := eq_true (by rw [z_le (by omega) (by omega)]; exact hf)
            simp only [c2, if_true, z_bnd1]
            obtain ⟨len', row', a1, a2, a3⟩ := j_repx F x (r + pl) n 0 len row hF x1 (by omega) (fun _ => rfl) (by omega) (fun h => absurd h hx) R
            rw [show (0 : Int32) = nI 0 from rfl, a1, a2]
            exact ⟨_, _, _, _, _, rfl, Or.inl ⟨n + (r + pl), a' + rxn x, row', by omega, hf, by omega, by omega, rfl, rfl, rfl, rfl, a3, rfl⟩⟩
          · have c2 : (nI (n + (r + pl)) ≤ nI all) = False := eq_false (by rw [z_le (by omega) (by omega)]; exact hf)
            simp only [c2, if_false, m_Reader_breakAt, m_MD_broken, z_bnd2]
            exact ⟨_, _, _, _, _, rfl, Or.inr ⟨2, _, _, _, by omega, rfl, rfl⟩⟩
    · have d1 : ((16 : Int32) ≤ nI x) = False := eq_false (by show ¬ (nI 16 ≤ nI x); rw [z_le (by omega) (by omega)]; exact h16)
      have d2 : (nI x = (16 : Int32)) = False := eq_false (by show ¬ (nI x = nI 16); rw [z_eq (by omega) (by omega)]; omega)
      simp only [d1, d2, if_false, z_chk (show n < 2147483648 by omega) (show n < 318 by omega), z_chk (show n < 2147483648 by omega) (show n < 330 by omega), z_tn (show n < 2147483648 by omega), nm]
      refine ⟨_, _, _, _, _, rfl, Or.inl ⟨n + 1, a', upd row n (nI x), by omega, by omega, x2, x3, ?_, rfl, rfl, rfl, fun j hj => ?_, ?_⟩⟩
      · show nI n + nI 1 = _
        rw [z_add]
      · by_cases c : j = n
        · subst c; exact ⟨x, by omega, z_updE, z_updE⟩
        · obtain ⟨v, v1, v2, v3⟩ := R j (by omega)
          exact ⟨v, v1, by rw [z_updN c]; exact v2, by rw [z_updN c]; exact v3⟩
      · rw [z_one, z_add]
theorem l_rwS (F f : Nat) (bc y1 v2 v3 st ca lg : Int32) (C len per sy : Nat → Int32) (s : Nat) (hs : s < 4) (hf : 0 < f) : ∃ x y, L_Reader_readRow_14 F bc C lg per sy y1 f v2 v3 st (nI s) ca len = some (x, y, st, nI s, ca, len) := by
  obtain ⟨f', rfl⟩ : ∃ f', f = f' + 1 := ⟨f - 1, by omega⟩
  unfold L_Reader_readRow_14 B_Reader_readRow_14
  by_cases h : y1 ≤ v3
  · rw [if_pos h]; exact ⟨_, _, rfl⟩
  · rw [if_neg h]
    by_cases h2 : y1 ≤ v2
    · rw [if_pos h2]; exact ⟨_, _, rfl⟩
    · rw [if_neg h2]
      simp only [z_nm1 (show s < 2147483648 by omega), if_false]
      exact ⟨_, _, rfl⟩
def rwo (nF all a0 : Nat) (s cst css ca : Int32) (len : Nat → Int32) (rr : Option Int32) (ms ma : Int32) (row : Nat → Int32) : Prop := (∃ k, k < 4 ∧ css = nI k ∧ rr = some (nI (k + 1)) ∧ cst = ms) ∨ (css = m1 ∧ rr = none ∧ cst = s ∧ ms = s ∧ (∃ a, ca = nI a ∧ ma = nI a ∧ a0 ≤ a ∧ a ≤ 8 * nF) ∧ rrel all len row)
theorem l_jrow (F nF all : Nat) (cb : Nat → Nat) (C M per sy sl sc : Nat → Int32) (lg s : Int32) (hF : 100000 ≤ F) (hr : fedr cb nF C M) (J : jset 19 19 19 19 19 lg per sy sl sc) (hall : all ≤ 316) : ∀ (f g k n a : Nat) (len row : Nat → Int32), k ≤ n → n ≤ all → all - n < f → all - n < g → a ≤ 8 * nF → rrel n len row → ∃ v2 v3 cst css ca len' rr v' ms ma row', L_Reader_readRow_14 F (nI (8 * nF)) C lg per sy (nI all) f (nI n) (nI k) s m1 (nI a) len = some (v2, v3, cst, css, ca, len') ∧ L_MD_readRow_2 F M (nI nF) sc sl (nI all) g (nI n) s (nI a) row = some (rr, v', ms, ma, row') ∧ rwo nF all a s cst css ca len' rr ms ma row' := by
  have hnF := hr.1
  intro f
  induction f with
  | zero => intros; omega
  | succ f ih =>
    intro g k n a len row hk hn hf hg ha R
    obtain ⟨g', rfl⟩ : ∃ g', g = g' + 1 := ⟨g - 1, by omega⟩
    by_cases h : all ≤ n
    · have e : n = all := by omega
      subst e
      refine ⟨nI n, nI k, s, m1, nI a, len, none, nI n, s, nI a, row, ?_, ?_, Or.inr ⟨rfl, rfl, rfl, rfl, ⟨a, rfl, rfl, Nat.le_refl _, ha⟩, R⟩⟩
      · unfold L_Reader_readRow_14 B_Reader_readRow_14
        by_cases c : nI n ≤ nI k
        · rw [if_pos c]
        · rw [if_neg c, if_pos (by rw [z_le (by omega) (by omega)]; omega)]
      · unfold L_MD_readRow_2 B_MD_readRow_2
        rw [if_pos (by rw [z_le (by omega) (by omega)]; omega)]
    · obtain ⟨r1, st, ss, at_, len', q1, q2⟩ := j_rl1 F nF a n all cb C M len row per sy sl sc lg s (L_MD_readRow_2 F M (nI nF) sc sl (nI all) g') hF hr J ha (by omega) hall R
      have c1 : (nI all ≤ nI k) = False := eq_false (by rw [z_le (by omega) (by omega)]; omega)
      have c2 : (nI all ≤ nI n) = False := eq_false (by rw [z_le (by omega) (by omega)]; omega)
      have em : (m1 = (-1 : Int32)) = True := eq_true rfl
      unfold L_Reader_readRow_14 B_Reader_readRow_14 L_MD_readRow_2
      simp only [c1, c2, em, if_false, if_true]
      rw [q1]
      simp only [z_bnd5, nm, z_one, z_add]
      rcases q2 with ⟨n', a', row', g1, g2, g3, g4, rfl, rfl, rfl, rfl, g5, g6⟩ | ⟨w, v, ma, row', g1, rfl, g6⟩
      · rw [g6]
        obtain ⟨v2, v3, cst, css, ca, len2, rr, v', ms, ma, row2, b1, b2, b3⟩ := ih g' (k + 1) n' a' len' row' (by omega) g2 (by omega) (by omega) g4 g5
        refine ⟨v2, v3, cst, css, ca, len2, rr, v', ms, ma, row2, b1, b2, ?_⟩
        rcases b3 with b3 | ⟨x1, x2, x3, x4, ⟨a2, x5, x6, x7, x8⟩, x9⟩
        · exact Or.inl b3
        · exact Or.inr ⟨x1, x2, x3, x4, ⟨a2, x5, x6, by omega, x8⟩, x9⟩
      · rw [g6]
        obtain ⟨x, y, hw⟩ := l_rwS F f (nI (8 * nF)) (nI all) r1 (nI (k + 1)) st at_ lg C len' per sy w g1 (by omega)
        exact ⟨_, _, _, _, _, _, _, _, _, _, _, hw, rfl, Or.inl ⟨w, g1, rfl, rfl, rfl⟩⟩
