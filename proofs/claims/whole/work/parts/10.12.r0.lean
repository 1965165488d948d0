/-! the row of lengths: a list of symbols with their extra bits -/
def re_ (l : List (Nat × Nat)) (i : Nat) : Nat × Nat := l.getD i (0, 0)
def rcnt (l : List (Nat × Nat)) (s : Nat) : Nat := l.countP (fun e => e.1 == s)
def crow (l : List (Nat × Nat)) (cc row : Nat → Int32) : Prop := (∀ s, s < 19 → cc s = nI (rcnt l s)) ∧ (∀ i, i < l.length → row i = nI ((re_ l i).2 * 256 + (re_ l i).1))
def mrow (l : List (Nat × Nat)) (mo sy : Nat → Int32) : Prop := ∀ i, i < l.length → mo i = nI (re_ l i).2 ∧ sy i = nI (re_ l i).1
def rok (l : List (Nat × Nat)) : Prop := ∀ e ∈ l, e.1 < 19 ∧ e.2 < 128
theorem rcnt_snoc (l : List (Nat × Nat)) (e : Nat × Nat) (s : Nat) : rcnt (l ++ [e]) s = rcnt l s + (if s = e.1 then 1 else 0) := by
  unfold rcnt
  rw [List.countP_append]
  congr 1
  by_cases h : s = e.1
  · rw [if_pos h, h]; simp
  · rw [if_neg h]
    have : ¬ (e.1 = s) := fun q => h q.symm
    simp [this]
theorem re_lt (l m : List (Nat × Nat)) {i : Nat} (h : i < l.length) : re_ (l ++ m) i = re_ l i := by
  unfold re_
  simp only [List.getD_eq_getElem?_getD]
  rw [List.getElem?_append_left h]
theorem re_eq (l : List (Nat × Nat)) (e : Nat × Nat) : re_ (l ++ [e]) l.length = e := by
  unfold re_
  simp
theorem rok_re {l : List (Nat × Nat)} (h : rok l) {i : Nat} (hi : i < l.length) : (re_ l i).1 < 19 ∧ (re_ l i).2 < 128 := by
  unfold re_
  rw [List.getD_eq_getElem?_getD, List.getElem?_eq_getElem hi]
  exact h _ (List.getElem_mem hi)
theorem rok_app {l m : List (Nat × Nat)} (h1 : rok l) (h2 : rok m) : rok (l ++ m) := fun e he => by
  rcases List.mem_append.mp he with q | q
  · exact h1 e q
  · exact h2 e q
theorem rok_one {a b : Nat} (h1 : a < 19) (h2 : b < 128) : rok [(a, b)] := fun e he => by
  rw [List.mem_singleton] at he; rw [he]; exact ⟨h1, h2⟩
theorem rcnt_le (l : List (Nat × Nat)) (s : Nat) : rcnt l s ≤ l.length := List.countP_le_length
theorem crow_snoc {l : List (Nat × Nat)} {cc row : Nat → Int32} {a b : Nat} (h : crow l cc row) : crow (l ++ [(a, b)]) (upd cc a (nI (rcnt l a + 1))) (upd row l.length (nI (b * 256 + a))) := by
  refine ⟨fun s hs => ?_, fun i hi => ?_⟩
  · rw [rcnt_snoc]
    by_cases e : s = a
    · rw [e, z_updE, if_pos rfl]
    · rw [z_updN e, if_neg e, h.1 s hs]; rfl
  · by_cases e : i = l.length
    · rw [e, z_updE, re_eq]
    · have hi' : i < l.length := by rw [List.length_append] at hi; simp at hi; omega
      rw [z_updN e, re_lt l _ hi']; exact h.2 i hi'
theorem mrow_snoc {l : List (Nat × Nat)} {mo sy : Nat → Int32} {a b : Nat} (h : mrow l mo sy) : mrow (l ++ [(a, b)]) (upd mo l.length (nI b)) (upd sy l.length (nI a)) := by
  intro i hi
  by_cases e : i = l.length
  · rw [e, z_updE, z_updE, re_eq]; exact ⟨rfl, rfl⟩
  · have hi' : i < l.length := by rw [List.length_append] at hi; simp at hi; omega
    rw [z_updN e, z_updN e, re_lt l _ hi']; exact h i hi'
theorem len_snoc (l : List (Nat × Nat)) (e : Nat × Nat) : (l ++ [e]).length = l.length + 1 := by simp
theorem s_tellSym (F : Nat) (l : List (Nat × Nat)) (cc row : Nat → Int32) (a b : Nat) (h : crow l cc row) (ha : a < 19) (hb : b < 128) (hl : l.length < 316) : ∃ cc' row', m_LengthRow_tellSymbol F cc row (nI l.length) (nI a) (nI b) = some (nI (l ++ [(a, b)]).length, cc', row') ∧ crow (l ++ [(a, b)]) cc' row' := by
  unfold m_LengthRow_tellSymbol
  have n1 : ¬ (316 ≤ l.length) := by omega
  have n2 : ¬ (a < 0) := by omega
  have n3 : ¬ (19 ≤ a) := by omega
  have e1 := h.1 a ha
  have e2 : b <<< 8 ||| a = b * 256 + a := by
    rw [Nat.shiftLeft_eq, Nat.mul_comm, ← Nat.two_pow_add_eq_or_of_lt (i := 8) (by omega)]
  simp (disch := omega) only [nm, z_lit, z_one, z_mone, z_neg1, z_neg2, z_pred, z_add, z_mul, z_sub, z_le, z_lt, z_eq, z_tn, z_chk, z_eqm, z_meq, z_lem, z_mle, z_ltm, z_mlt, z_eqq, z_qeq, z_leq, z_qle, z_ltq, z_qlt, z_m1m2, z_m2m1, z_m1m1, z_m2m2, z_bnd1, z_bnd2, z_bnd3, z_bnd4, z_bnd5, z_bnd6, z_bnd7, z_bnd8, z_bnd9, z_bnd10, z_bnd11, z_bnd12, z_bnd13, z_bnd14, z_bnd15, z_bnd16, z_max, z_min, z_n31, z_shl, z_shr, z_us, z_div, z_mod, z_and, z_or, z_xor, if_true, if_false, n1, n2, n3, e1, e2, len_snoc]
  exact ⟨_, _, rfl, crow_snoc h⟩
theorem s_addRow (F : Nat) (l : List (Nat × Nat)) (mo sy : Nat → Int32) (a b : Nat) (h : mrow l mo sy) (hl : l.length < 330) : ∃ mo' sy', m_MD_addRow F mo (nI l.length) sy (nI a) (nI b) = some (nI (l ++ [(a, b)]).length, mo', sy') ∧ mrow (l ++ [(a, b)]) mo' sy' := by
  unfold m_MD_addRow
  simp (disch := omega) only [nm, z_lit, z_one, z_mone, z_neg1, z_neg2, z_pred, z_add, z_mul, z_sub, z_le, z_lt, z_eq, z_tn, z_chk, z_eqm, z_meq, z_lem, z_mle, z_ltm, z_mlt, z_eqq, z_qeq, z_leq, z_qle, z_ltq, z_qlt, z_m1m2, z_m2m1, z_m1m1, z_m2m2, z_bnd1, z_bnd2, z_bnd3, z_bnd4, z_bnd5, z_bnd6, z_bnd7, z_bnd8, z_bnd9, z_bnd10, z_bnd11, z_bnd12, z_bnd13, z_bnd14, z_bnd15, z_bnd16, z_max, z_min, z_n31, z_shl, z_shr, z_us, z_div, z_mod, z_and, z_or, z_xor, if_true, if_false, len_snoc]
  exact ⟨_, _, rfl, mrow_snoc h⟩
/-- runs of zeros and of others -/
def rz : Nat → Nat → List (Nat × Nat)
  | 0, _ => []
  | f + 1, n => if 10 < n then (18, min n 138 - 11) :: rz f (n - min n 138) else if 2 < n then [(17, n - 3)] else List.replicate n (0, 0)
def rn (v : Nat) : Nat → Nat → List (Nat × Nat)
  | 0, _ => []
  | f + 1, n => if 2 < n then (16, min n 6 - 3) :: rn v f (n - min n 6) else List.replicate n (v, 0)
def run (v n : Nat) : List (Nat × Nat) := if v = 0 then rz (n + 1) n else if n = 0 then [] else (v, 0) :: rn v n (n - 1)
theorem rz_len : ∀ f n, (rz f n).length ≤ n := by
  intro f
  induction f with
  | zero => intro n; simp [rz]
  | succ f ih =>
    intro n
    rw [rz]
    split
    · have := ih (n - min n 138); rw [List.length_cons]; omega
    · split
      · simp; omega
      · simp
theorem rn_len (v : Nat) : ∀ f n, (rn v f n).length ≤ n := by
  intro f
  induction f with
  | zero => intro n; simp [rn]
  | succ f ih =>
    intro n
    rw [rn]
    split
    · have := ih (n - min n 6); rw [List.length_cons]; omega
    · simp
theorem run_len (v n : Nat) : (run v n).length ≤ n := by
  unfold run
  split
  · exact rz_len _ _
  · split
    · simp
    · have := rn_len v n (n - 1); rw [List.length_cons]; omega
theorem rok_rep (v n : Nat) (h : v < 19) : rok (List.replicate n (v, 0)) := fun e he => by
  rw [List.mem_replicate] at he; rw [he.2]; exact ⟨h, by show 0 < 128; omega⟩
theorem rz_ok : ∀ f n, rok (rz f n) := by
  intro f
  induction f with
  | zero => intro n e he; simp [rz] at he
  | succ f ih =>
    intro n
    rw [rz]
    split
    · intro e he
      rcases List.mem_cons.mp he with q | q
      · rw [q]; exact ⟨by show 18 < 19; omega, by show min n 138 - 11 < 128; omega⟩
      · exact ih _ e q
    · split
      · exact rok_one (by omega) (by omega)
      · exact rok_rep 0 n (by omega)
theorem rn_ok (v : Nat) (hv : v < 19) : ∀ f n, rok (rn v f n) := by
  intro f
  induction f with
  | zero => intro n e he; simp [rn] at he
  | succ f ih =>
    intro n
    rw [rn]
    split
    · intro e he
      rcases List.mem_cons.mp he with q | q
      · rw [q]; exact ⟨by show 16 < 19; omega, by show min n 6 - 3 < 128; omega⟩
      · exact ih _ e q
    · exact rok_rep v n hv
theorem run_ok (v n : Nat) (hv : v < 19) : rok (run v n) := by
  unfold run
  split
  · exact rz_ok _ _
  · split
    · intro e he; simp at he
    · intro e he
      rcases List.mem_cons.mp he with q | q
      · rw [q]; exact ⟨hv, by show 0 < 128; omega⟩
      · exact rn_ok v hv _ _ e q
/-- the rest of zeros, when there are fewer than 11 -/
theorem l_te6 (F : Nat) : ∀ (f n : Nat) (l : List (Nat × Nat)) (cc row : Nat → Int32), n < f → l.length + n ≤ 316 → crow l cc row → ∃ (n' : Nat) (l' : List (Nat × Nat)) (cc' row' : Nat → Int32), L_LengthRow_tellEqual_6 F f (nI n) (nI l.length) cc row = some (nI n', nI l'.length, cc', row') ∧ crow l' cc' row' ∧ n' ≤ 10 ∧ l'.length + n' ≤ 316 ∧ l ++ rz (n + 1) n = l' ++ (if 2 < n' then [(17, n' - 3)] else List.replicate n' (0, 0)) := by
  intro f
  induction f with
  | zero => intro n l cc row h; omega
  | succ f ih =>
    intro n l cc row hf hl C
    unfold L_LengthRow_tellEqual_6 B_LengthRow_tellEqual_6
    by_cases h : n < 11
    · refine ⟨n, l, cc, row, by simp (disch := omega) only [nm, z_lit, z_one, z_mone, z_neg1, z_neg2, z_pred, z_add, z_mul, z_sub, z_le, z_lt, z_eq, z_tn, z_chk, z_eqm, z_meq, z_lem, z_mle, z_ltm, z_mlt, z_eqq, z_qeq, z_leq, z_qle, z_ltq, z_qlt, z_m1m2, z_m2m1, z_m1m1, z_m2m2, z_bnd1, z_bnd2, z_bnd3, z_bnd4, z_bnd5, z_bnd6, z_bnd7, z_bnd8, z_bnd9, z_bnd10, z_bnd11, z_bnd12, z_bnd13, z_bnd14, z_bnd15, z_bnd16, z_max, z_min, z_n31, z_shl, z_shr, z_us, z_div, z_mod, z_and, z_or, z_xor, if_true, if_false, h], C, by omega, hl, ?_⟩
      rw [rz, if_neg (by omega)]
    · obtain ⟨cc1, row1, e1, C1⟩ := s_tellSym F l cc row 18 (min n 138 - 11) C (by omega) (by omega) (by omega)
      simp (disch := omega) only [nm, z_lit, z_one, z_mone, z_neg1, z_neg2, z_pred, z_add, z_mul, z_sub, z_le, z_lt, z_eq, z_tn, z_chk, z_eqm, z_meq, z_lem, z_mle, z_ltm, z_mlt, z_eqq, z_qeq, z_leq, z_qle, z_ltq, z_qlt, z_m1m2, z_m2m1, z_m1m1, z_m2m2, z_bnd1, z_bnd2, z_bnd3, z_bnd4, z_bnd5, z_bnd6, z_bnd7, z_bnd8, z_bnd9, z_bnd10, z_bnd11, z_bnd12, z_bnd13, z_bnd14, z_bnd15, z_bnd16, z_max, z_min, z_n31, z_shl, z_shr, z_us, z_div, z_mod, z_and, z_or, z_xor, if_true, if_false, h, e1]
      obtain ⟨n', l', cc', row', g1, g2, g3, g4, g5⟩ := ih (n - min n 138) (l ++ [(18, min n 138 - 11)]) cc1 row1 (by omega) (by rw [len_snoc]; omega) C1
      refine ⟨n', l', cc', row', g1, g2, g3, g4, ?_⟩
      rw [← g5, rz, if_pos (by omega), List.append_assoc]
      congr 1
      rw [List.singleton_append]
      congr 1
      -- fuel
      have rzf : ∀ f g n, n < f → n < g → rz f n = rz g n := by
        intro f
        induction f with
        | zero => intro g n h; omega
        | succ f ih =>
          intro g n h1 h2
          obtain ⟨g', rfl⟩ : ∃ g', g = g' + 1 := ⟨g - 1, by omega⟩
          rw [rz, rz]
          split
          · rw [ih g' (n - min n 138) (by omega) (by omega)]
          · rfl
      exact rzf _ _ _ (by omega) (by omega)
theorem rn_fuel (v : Nat) : ∀ f g n, n < f → n < g → rn v f n = rn v g n := by
  intro f
  induction f with
  | zero => intro g n h; omega
  | succ f ih =>
    intro g n h1 h2
    obtain ⟨g', rfl⟩ : ∃ g', g = g' + 1 := ⟨g - 1, by omega⟩
    rw [rn, rn]
    split
    · rw [ih g' (n - min n 6) (by omega) (by omega)]
    · rfl
theorem rz_fuel : ∀ f g n, n < f → n < g → rz f n = rz g n := by
  intro f
  induction f with
  | zero => intro g n h; omega
  | succ f ih =>
    intro g n h1 h2
    obtain ⟨g', rfl⟩ : ∃ g', g = g' + 1 := ⟨g - 1, by omega⟩
    rw [rz, rz]
    split
    · rw [ih g' (n - min n 138) (by omega) (by omega)]
    · rfl
theorem l_te72 (F v : Nat) : ∀ (f n : Nat) (l : List (Nat × Nat)) (cc row : Nat → Int32), n < f → l.length + n ≤ 316 → crow l cc row → ∃ (n' : Nat) (l' : List (Nat × Nat)) (cc' row' : Nat → Int32), L_LengthRow_tellEqual_72 F f (nI n) (nI l.length) cc row = some (nI n', nI l'.length, cc', row') ∧ crow l' cc' row' ∧ n' ≤ 2 ∧ l'.length + n' ≤ 316 ∧ l ++ rn v (n + 1) n = l' ++ List.replicate n' (v, 0) := by
  intro f
  induction f with
  | zero => intro n l cc row h; omega
  | succ f ih =>
    intro n l cc row hf hl C
    unfold L_LengthRow_tellEqual_72 B_LengthRow_tellEqual_72
    by_cases h : n < 3
    · refine ⟨n, l, cc, row, by simp (disch := omega) only [nm, z_lit, z_one, z_mone, z_neg1, z_neg2, z_pred, z_add, z_mul, z_sub, z_le, z_lt, z_eq, z_tn, z_chk, z_eqm, z_meq, z_lem, z_mle, z_ltm, z_mlt, z_eqq, z_qeq, z_leq, z_qle, z_ltq, z_qlt, z_m1m2, z_m2m1, z_m1m1, z_m2m2, z_bnd1, z_bnd2, z_bnd3, z_bnd4, z_bnd5, z_bnd6, z_bnd7, z_bnd8, z_bnd9, z_bnd10, z_bnd11, z_bnd12, z_bnd13, z_bnd14, z_bnd15, z_bnd16, z_max, z_min, z_n31, z_shl, z_shr, z_us, z_div, z_mod, z_and, z_or, z_xor, if_true, if_false, h], C, by omega, hl, ?_⟩
      rw [rn, if_neg (by omega)]
    · obtain ⟨cc1, row1, e1, C1⟩ := s_tellSym F l cc row 16 (min n 6 - 3) C (by omega) (by omega) (by omega)
      simp (disch := omega) only [nm, z_lit, z_one, z_mone, z_neg1, z_neg2, z_pred, z_add, z_mul, z_sub, z_le, z_lt, z_eq, z_tn, z_chk, z_eqm, z_meq, z_lem, z_mle, z_ltm, z_mlt, z_eqq, z_qeq, z_leq, z_qle, z_ltq, z_qlt, z_m1m2, z_m2m1, z_m1m1, z_m2m2, z_bnd1, z_bnd2, z_bnd3, z_bnd4, z_bnd5, z_bnd6, z_bnd7, z_bnd8, z_bnd9, z_bnd10, z_bnd11, z_bnd12, z_bnd13, z_bnd14, z_bnd15, z_bnd16, z_max, z_min, z_n31, z_shl, z_shr, z_us, z_div, z_mod, z_and, z_or, z_xor, if_true, if_false, h, e1]
      obtain ⟨n', l', cc', row', g1, g2, g3, g4, g5⟩ := ih (n - min n 6) (l ++ [(16, min n 6 - 3)]) cc1 row1 (by omega) (by rw [len_snoc]; omega) C1
      refine ⟨n', l', cc', row', g1, g2, g3, g4, ?_⟩
      rw [← g5, rn, if_pos (by omega), List.append_assoc, List.singleton_append, rn_fuel v _ (n - min n 6 + 1) _ (by omega) (by omega)]
theorem l_te106 (F v : Nat) (hv : v < 19) (N : Nat) (hN : N < 400) : ∀ (f i : Nat) (l : List (Nat × Nat)) (cc row : Nat → Int32), i ≤ N → N - i < f → l.length + (N - i) ≤ 316 → crow l cc row → ∃ (cc' row' : Nat → Int32), L_LengthRow_tellEqual_106 F (nI v) (nI N) f (nI i) (nI l.length) cc row = some (nI N, nI (l ++ List.replicate (N - i) (v, 0)).length, cc', row') ∧ crow (l ++ List.replicate (N - i) (v, 0)) cc' row' := by
  intro f
  induction f with
  | zero => intro i l cc row _ h; omega
  | succ f ih =>
    intro i l cc row hi hf hl C
    unfold L_LengthRow_tellEqual_106 B_LengthRow_tellEqual_106
    by_cases h : N ≤ i
    · have e : i = N := by omega
      subst e
      refine ⟨cc, row, ?_, ?_⟩
      · simp (disch := omega) only [nm, z_lit, z_one, z_mone, z_neg1, z_neg2, z_pred, z_add, z_mul, z_sub, z_le, z_lt, z_eq, z_tn, z_chk, z_eqm, z_meq, z_lem, z_mle, z_ltm, z_mlt, z_eqq, z_qeq, z_leq, z_qle, z_ltq, z_qlt, z_m1m2, z_m2m1, z_m1m1, z_m2m2, z_bnd1, z_bnd2, z_bnd3, z_bnd4, z_bnd5, z_bnd6, z_bnd7, z_bnd8, z_bnd9, z_bnd10, z_bnd11, z_bnd12, z_bnd13, z_bnd14, z_bnd15, z_bnd16, z_max, z_min, z_n31, z_shl, z_shr, z_us, z_div, z_mod, z_and, z_or, z_xor, if_true, if_false, Nat.le_refl, Nat.sub_self, List.replicate_zero, List.append_nil]
      · rw [Nat.sub_self, List.replicate_zero, List.append_nil]; exact C
    · obtain ⟨cc1, row1, e1, C1⟩ := s_tellSym F l cc row v 0 C hv (by omega) (by omega)
      simp (disch := omega) only [nm, z_lit, z_one, z_mone, z_neg1, z_neg2, z_pred, z_add, z_mul, z_sub, z_le, z_lt, z_eq, z_tn, z_chk, z_eqm, z_meq, z_lem, z_mle, z_ltm, z_mlt, z_eqq, z_qeq, z_leq, z_qle, z_ltq, z_qlt, z_m1m2, z_m2m1, z_m1m1, z_m2m2, z_bnd1, z_bnd2, z_bnd3, z_bnd4, z_bnd5, z_bnd6, z_bnd7, z_bnd8, z_bnd9, z_bnd10, z_bnd11, z_bnd12, z_bnd13, z_bnd14, z_bnd15, z_bnd16, z_max, z_min, z_n31, z_shl, z_shr, z_us, z_div, z_mod, z_and, z_or, z_xor, if_true, if_false, h, e1]
      obtain ⟨cc', row', g1, g2⟩ := ih (i + 1) (l ++ [(v, 0)]) cc1 row1 (by omega) (by omega) (by rw [len_snoc]; omega) C1
      have e : N - i = (N - (i + 1)) + 1 := by omega
      have e2 : l ++ List.replicate (N - i) (v, 0) = l ++ [(v, 0)] ++ List.replicate (N - (i + 1)) (v, 0) := by rw [e, List.replicate_succ, List.append_assoc]; rfl
      rw [e2]
      exact ⟨cc', row', g1, g2⟩
theorem run_z (n : Nat) : run 0 n = rz (n + 1) n := if_pos rfl
theorem run_0 (v : Nat) : run v 0 = [] := by
  unfold run
  split
  · rw [rz]; simp
  · simp
theorem run_n {v n : Nat} (hv : v ≠ 0) (hn : n ≠ 0) : run v n = (v, 0) :: rn v n (n - 1) := by unfold run; rw [if_neg hv, if_neg hn]
theorem s_tellEqual (F v n : Nat) (l : List (Nat × Nat)) (cc row : Nat → Int32) (hF : 100000 ≤ F) (hv : v < 19) (hl : l.length + n ≤ 316) (C : crow l cc row) : ∃ cc' row', m_LengthRow_tellEqual F cc row (nI l.length) (nI v) (nI n) = some (nI (l ++ run v n).length, cc', row') ∧ crow (l ++ run v n) cc' row' := by
  unfold m_LengthRow_tellEqual
  by_cases h0 : v = 0
  · subst h0
    obtain ⟨n', l', cc1, row1, e1, C1, q1, q2, q3⟩ := l_te6 F F n l cc row (by omega) hl C
    rw [run_z, q3]
    by_cases h3 : n' < 3
    · have e9 : (if 2 < n' then [(17, n' - 3)] else List.replicate n' (0, 0)) = List.replicate n' (0, 0) := if_neg (by omega)
      rw [e9]
      obtain ⟨cc2, row2, e2, C2⟩ := l_te106 F 0 (by omega) n' (by omega) F 0 l' cc1 row1 (by omega) (by omega) (by omega) C1
      rw [Nat.sub_zero] at e2 C2
      refine ⟨cc2, row2, ?_, C2⟩
      simp (disch := omega) only [nm, z_lit, z_one, z_mone, z_neg1, z_neg2, z_pred, z_add, z_mul, z_sub, z_le, z_lt, z_eq, z_tn, z_chk, z_eqm, z_meq, z_lem, z_mle, z_ltm, z_mlt, z_eqq, z_qeq, z_leq, z_qle, z_ltq, z_qlt, z_m1m2, z_m2m1, z_m1m1, z_m2m2, z_bnd1, z_bnd2, z_bnd3, z_bnd4, z_bnd5, z_bnd6, z_bnd7, z_bnd8, z_bnd9, z_bnd10, z_bnd11, z_bnd12, z_bnd13, z_bnd14, z_bnd15, z_bnd16, z_max, z_min, z_n31, z_shl, z_shr, z_us, z_div, z_mod, z_and, z_or, z_xor, if_true, if_false, e1, h3, e2]
    · have e9 : (if 2 < n' then [(17, n' - 3)] else List.replicate n' (0, 0)) = [(17, n' - 3)] := if_pos (by omega)
      rw [e9]
      obtain ⟨cc2, row2, e2, C2⟩ := s_tellSym F l' cc1 row1 17 (n' - 3) C1 (by omega) (by omega) (by omega)
      obtain ⟨cc3, row3, e3, C3⟩ := l_te106 F 0 (by omega) 0 (by omega) F 0 (l' ++ [(17, n' - 3)]) cc2 row2 (by omega) (by omega) (by rw [len_snoc]; omega) C2
      rw [Nat.sub_zero, List.replicate_zero, List.append_nil] at e3 C3
      refine ⟨cc3, row3, ?_, C3⟩
      simp (disch := omega) only [nm, z_lit, z_one, z_mone, z_neg1, z_neg2, z_pred, z_add, z_mul, z_sub, z_le, z_lt, z_eq, z_tn, z_chk, z_eqm, z_meq, z_lem, z_mle, z_ltm, z_mlt, z_eqq, z_qeq, z_leq, z_qle, z_ltq, z_qlt, z_m1m2, z_m2m1, z_m1m1, z_m2m2, z_bnd1, z_bnd2, z_bnd3, z_bnd4, z_bnd5, z_bnd6, z_bnd7, z_bnd8, z_bnd9, z_bnd10, z_bnd11, z_bnd12, z_bnd13, z_bnd14, z_bnd15, z_bnd16, z_max, z_min, z_n31, z_shl, z_shr, z_us, z_div, z_mod, z_and, z_or, z_xor, if_true, if_false, e1, h3, e2, e3]
  · by_cases hn : n ≤ 0
    · have hn : n = 0 := by omega
      subst hn
      rw [run_0]
      obtain ⟨cc3, row3, e3, C3⟩ := l_te106 F v hv 0 (by omega) F 0 l cc row (by omega) (by omega) (by omega) C
      rw [Nat.sub_zero, List.replicate_zero] at e3 C3
      refine ⟨cc3, row3, ?_, C3⟩
      simp (disch := omega) only [nm, z_lit, z_one, z_mone, z_neg1, z_neg2, z_pred, z_add, z_mul, z_sub, z_le, z_lt, z_eq, z_tn, z_chk, z_eqm, z_meq, z_lem, z_mle, z_ltm, z_mlt, z_eqq, z_qeq, z_leq, z_qle, z_ltq, z_qlt, z_m1m2, z_m2m1, z_m1m1, z_m2m2, z_bnd1, z_bnd2, z_bnd3, z_bnd4, z_bnd5, z_bnd6, z_bnd7, z_bnd8, z_bnd9, z_bnd10, z_bnd11, z_bnd12, z_bnd13, z_bnd14, z_bnd15, z_bnd16, z_max, z_min, z_n31, z_shl, z_shr, z_us, z_div, z_mod, z_and, z_or, z_xor, if_true, if_false, h0, Nat.le_refl, e3]
    · rw [run_n h0 (by omega)]
      obtain ⟨cc1, row1, e1, C1⟩ := s_tellSym F l cc row v 0 C hv (by omega) (by omega)
      obtain ⟨n', l', cc2, row2, e2, C2, q1, q2, q3⟩ := l_te72 F v F (n - 1) (l ++ [(v, 0)]) cc1 row1 (by omega) (by rw [len_snoc]; omega) C1
      obtain ⟨cc3, row3, e3, C3⟩ := l_te106 F v hv n' (by omega) F 0 l' cc2 row2 (by omega) (by omega) (by omega) C2
      rw [Nat.sub_zero] at e3 C3
      have e : l ++ (v, 0) :: rn v n (n - 1) = l' ++ List.replicate n' (v, 0) := by
        rw [← q3, List.append_assoc, List.singleton_append, rn_fuel v n (n - 1 + 1) (n - 1) (by omega) (by omega)]
      rw [e]
      refine ⟨cc3, row3, ?_, C3⟩
      simp (disch := omega) only [nm, z_lit, z_one, z_mone, z_neg1, z_neg2, z_pred, z_add, z_mul, z_sub, z_le, z_lt, z_eq, z_tn, z_chk, z_eqm, z_meq, z_lem, z_mle, z_ltm, z_mlt, z_eqq, z_qeq, z_leq, z_qle, z_ltq, z_qlt, z_m1m2, z_m2m1, z_m1m1, z_m2m2, z_bnd1, z_bnd2, z_bnd3, z_bnd4, z_bnd5, z_bnd6, z_bnd7, z_bnd8, z_bnd9, z_bnd10, z_bnd11, z_bnd12, z_bnd13, z_bnd14, z_bnd15, z_bnd16, z_max, z_min, z_n31, z_shl, z_shr, z_us, z_div, z_mod, z_and, z_or, z_xor, if_true, if_false, h0, hn, e1, e2, e3]
/-- nothing is told at the beginning -/
theorem s_tellEqual0 (F : Nat) (l : List (Nat × Nat)) (cc row : Nat → Int32) (hF : 100000 ≤ F) : m_LengthRow_tellEqual F cc row (nI l.length) m1 (nI 0) = some (nI l.length, cc, row) := by
  obtain ⟨G, rfl⟩ : ∃ G, F = G + 1 := ⟨F - 1, by omega⟩
  unfold m_LengthRow_tellEqual L_LengthRow_tellEqual_106 B_LengthRow_tellEqual_106
  have e : (m1 = nI 0) = False := eq_false (by decide)
  simp (disch := omega) only [nm, z_lit, z_one, z_mone, z_neg1, z_neg2, z_pred, z_add, z_mul, z_sub, z_le, z_lt, z_eq, z_tn, z_chk, z_eqm, z_meq, z_lem, z_mle, z_ltm, z_mlt, z_eqq, z_qeq, z_leq, z_qle, z_ltq, z_qlt, z_m1m2, z_m2m1, z_m1m1, z_m2m2, z_bnd1, z_bnd2, z_bnd3, z_bnd4, z_bnd5, z_bnd6, z_bnd7, z_bnd8, z_bnd9, z_bnd10, z_bnd11, z_bnd12, z_bnd13, z_bnd14, z_bnd15, z_bnd16, z_max, z_min, z_n31, z_shl, z_shr, z_us, z_div, z_mod, z_and, z_or, z_xor, if_true, if_false, Nat.le_refl, e]
/-! the model's runs -/
theorem l_ar2 (F : Nat) : ∀ (f n : Nat) (l : List (Nat × Nat)) (mo sy : Nat → Int32), n < f → l.length + n ≤ 330 → mrow l mo sy → ∃ (n' : Nat) (l' : List (Nat × Nat)) (mo' sy' : Nat → Int32), L_MD_addRun_2 F (nI 0) f (nI n) (nI l.length) mo sy = some (nI n', nI l'.length, mo', sy') ∧ mrow l' mo' sy' ∧ n' ≤ 10 ∧ l'.length + n' ≤ 330 ∧ l ++ rz (n + 1) n = l' ++ (if 2 < n' then [(17, n' - 3)] else List.replicate n' (0, 0)) := by
  intro f
  induction f with
  | zero => intro n l mo sy h; omega
  | succ f ih =>
    intro n l mo sy hf hl C
    unfold L_MD_addRun_2 B_MD_addRun_2
    by_cases h : n ≤ 10
    · refine ⟨n, l, mo, sy, by simp (disch := omega) only [nm, z_lit, z_one, z_mone, z_neg1, z_neg2, z_pred, z_add, z_mul, z_sub, z_le, z_lt, z_eq, z_tn, z_chk, z_eqm, z_meq, z_lem, z_mle, z_ltm, z_mlt, z_eqq, z_qeq, z_leq, z_qle, z_ltq, z_qlt, z_m1m2, z_m2m1, z_m1m1, z_m2m2, z_bnd1, z_bnd2, z_bnd3, z_bnd4, z_bnd5, z_bnd6, z_bnd7, z_bnd8, z_bnd9, z_bnd10, z_bnd11, z_bnd12, z_bnd13, z_bnd14, z_bnd15, z_bnd16, z_max, z_min, z_n31, z_shl, z_shr, z_us, z_div, z_mod, z_and, z_or, z_xor, if_true, if_false, h], C, by omega, hl, ?_⟩
      rw [rz, if_neg (by omega)]
    · obtain ⟨mo1, sy1, e1, C1⟩ := s_addRow F l mo sy 18 (min n 138 - 11) C (by omega)
      have step : ∀ z, z = min n 138 → ∃ (n' : Nat) (l' : List (Nat × Nat)) (mo' sy' : Nat → Int32), L_MD_addRun_2 F (nI 0) f (nI (n - z)) (nI (l ++ [(18, min n 138 - 11)]).length) mo1 sy1 = some (nI n', nI l'.length, mo', sy') ∧ mrow l' mo' sy' ∧ n' ≤ 10 ∧ l'.length + n' ≤ 330 ∧ l ++ rz (n + 1) n = l' ++ (if 2 < n' then [(17, n' - 3)] else List.replicate n' (0, 0)) := fun z hz => by
        subst hz
        obtain ⟨n', l', mo', sy', g1, g2, g3, g4, g5⟩ := ih (n - min n 138) (l ++ [(18, min n 138 - 11)]) mo1 sy1 (by omega) (by rw [len_snoc]; omega) C1
        refine ⟨n', l', mo', sy', g1, g2, g3, g4, ?_⟩
        rw [← g5, rz, if_pos (by omega), List.append_assoc, List.singleton_append, rz_fuel _ (n - min n 138 + 1) _ (by omega) (by omega)]
      by_cases h2 : n ≤ 138
      · have e : n - 11 = min n 138 - 11 := by omega
        simp (disch := omega) only [nm, z_lit, z_one, z_mone, z_neg1, z_neg2, z_pred, z_add, z_mul, z_sub, z_le, z_lt, z_eq, z_tn, z_chk, z_eqm, z_meq, z_lem, z_mle, z_ltm, z_mlt, z_eqq, z_qeq, z_leq, z_qle, z_ltq, z_qlt, z_m1m2, z_m2m1, z_m1m1, z_m2m2, z_bnd1, z_bnd2, z_bnd3, z_bnd4, z_bnd5, z_bnd6, z_bnd7, z_bnd8, z_bnd9, z_bnd10, z_bnd11, z_bnd12, z_bnd13, z_bnd14, z_bnd15, z_bnd16, z_max, z_min, z_n31, z_shl, z_shr, z_us, z_div, z_mod, z_and, z_or, z_xor, if_true, if_false, h, h2]
        rw [e, e1]
        simp (disch := omega) only [nm, z_lit, z_one, z_mone, z_neg1, z_neg2, z_pred, z_add, z_mul, z_sub, z_le, z_lt, z_eq, z_tn, z_chk, z_eqm, z_meq, z_lem, z_mle, z_ltm, z_mlt, z_eqq, z_qeq, z_leq, z_qle, z_ltq, z_qlt, z_m1m2, z_m2m1, z_m1m1, z_m2m2, z_bnd1, z_bnd2, z_bnd3, z_bnd4, z_bnd5, z_bnd6, z_bnd7, z_bnd8, z_bnd9, z_bnd10, z_bnd11, z_bnd12, z_bnd13, z_bnd14, z_bnd15, z_bnd16, z_max, z_min, z_n31, z_shl, z_shr, z_us, z_div, z_mod, z_and, z_or, z_xor, if_true, if_false]
        exact step n (by omega)
      · have e : 138 - 11 = min n 138 - 11 := by omega
        simp (disch := omega) only [nm, z_lit, z_one, z_mone, z_neg1, z_neg2, z_pred, z_add, z_mul, z_sub, z_le, z_lt, z_eq, z_tn, z_chk, z_eqm, z_meq, z_lem, z_mle, z_ltm, z_mlt, z_eqq, z_qeq, z_leq, z_qle, z_ltq, z_qlt, z_m1m2, z_m2m1, z_m1m1, z_m2m2, z_bnd1, z_bnd2, z_bnd3, z_bnd4, z_bnd5, z_bnd6, z_bnd7, z_bnd8, z_bnd9, z_bnd10, z_bnd11, z_bnd12, z_bnd13, z_bnd14, z_bnd15, z_bnd16, z_max, z_min, z_n31, z_shl, z_shr, z_us, z_div, z_mod, z_and, z_or, z_xor, if_true, if_false, h, h2]
        rw [e, e1]
        simp (disch := omega) only [nm, z_lit, z_one, z_mone, z_neg1, z_neg2, z_pred, z_add, z_mul, z_sub, z_le, z_lt, z_eq, z_tn, z_chk, z_eqm, z_meq, z_lem, z_mle, z_ltm, z_mlt, z_eqq, z_qeq, z_leq, z_qle, z_ltq, z_qlt, z_m1m2, z_m2m1, z_m1m1, z_m2m2, z_bnd1, z_bnd2, z_bnd3, z_bnd4, z_bnd5, z_bnd6, z_bnd7, z_bnd8, z_bnd9, z_bnd10, z_bnd11, z_bnd12, z_bnd13, z_bnd14, z_bnd15, z_bnd16, z_max, z_min, z_n31, z_shl, z_shr, z_us, z_div, z_mod, z_and, z_or, z_xor, if_true, if_false]
        exact step 138 (by omega)
theorem l_ar2n (F v n f : Nat) (l : List (Nat × Nat)) (mo sy : Nat → Int32) (hv : v ≠ 0) (hv2 : v < 19) (hf : 0 < f) : L_MD_addRun_2 F (nI v) f (nI n) (nI l.length) mo sy = some (nI n, nI l.length, mo, sy) := by
  obtain ⟨g, rfl⟩ : ∃ g, f = g + 1 := ⟨f - 1, by omega⟩
  unfold L_MD_addRun_2 B_MD_addRun_2
  simp (disch := omega) only [nm, z_lit, z_one, z_mone, z_neg1, z_neg2, z_pred, z_add, z_mul, z_sub, z_le, z_lt, z_eq, z_tn, z_chk, z_eqm, z_meq, z_lem, z_mle, z_ltm, z_mlt, z_eqq, z_qeq, z_leq, z_qle, z_ltq, z_qlt, z_m1m2, z_m2m1, z_m1m1, z_m2m2, z_bnd1, z_bnd2, z_bnd3, z_bnd4, z_bnd5, z_bnd6, z_bnd7, z_bnd8, z_bnd9, z_bnd10, z_bnd11, z_bnd12, z_bnd13, z_bnd14, z_bnd15, z_bnd16, z_max, z_min, z_n31, z_shl, z_shr, z_us, z_div, z_mod, z_and, z_or, z_xor, if_true, if_false, hv]
theorem l_ar80 (F v : Nat) : ∀ (f n : Nat) (l : List (Nat × Nat)) (mo sy : Nat → Int32), n < f → l.length + n ≤ 330 → mrow l mo sy → ∃ (n' : Nat) (l' : List (Nat × Nat)) (mo' sy' : Nat → Int32), L_MD_addRun_80 F f (nI n) (nI l.length) mo sy = some (nI n', nI l'.length, mo', sy') ∧ mrow l' mo' sy' ∧ n' ≤ 2 ∧ l'.length + n' ≤ 330 ∧ l ++ rn v (n + 1) n = l' ++ List.replicate n' (v, 0) := by
  intro f
  induction f with
  | zero => intro n l mo sy h; omega
  | succ f ih =>
    intro n l mo sy hf hl C
    unfold L_MD_addRun_80 B_MD_addRun_80
    by_cases h : n ≤ 2
    · refine ⟨n, l, mo, sy, by simp (disch := omega) only [nm, z_lit, z_one, z_mone, z_neg1, z_neg2, z_pred, z_add, z_mul, z_sub, z_le, z_lt, z_eq, z_tn, z_chk, z_eqm, z_meq, z_lem, z_mle, z_ltm, z_mlt, z_eqq, z_qeq, z_leq, z_qle, z_ltq, z_qlt, z_m1m2, z_m2m1, z_m1m1, z_m2m2, z_bnd1, z_bnd2, z_bnd3, z_bnd4, z_bnd5, z_bnd6, z_bnd7, z_bnd8, z_bnd9, z_bnd10, z_bnd11, z_bnd12, z_bnd13, z_bnd14, z_bnd15, z_bnd16, z_max, z_min, z_n31, z_shl, z_shr, z_us, z_div, z_mod, z_and, z_or, z_xor, if_true, if_false, h], C, by omega, hl, ?_⟩
      rw [rn, if_neg (by omega)]
    · obtain ⟨mo1, sy1, e1, C1⟩ := s_addRow F l mo sy 16 (min n 6 - 3) C (by omega)
      have step : ∀ z, z = min n 6 → ∃ (n' : Nat) (l' : List (Nat × Nat)) (mo' sy' : Nat → Int32), L_MD_addRun_80 F f (nI (n - z)) (nI (l ++ [(16, min n 6 - 3)]).length) mo1 sy1 = some (nI n', nI l'.length, mo', sy') ∧ mrow l' mo' sy' ∧ n' ≤ 2 ∧ l'.length + n' ≤ 330 ∧ l ++ rn v (n + 1) n = l' ++ List.replicate n' (v, 0) := fun z hz => by
        subst hz
        obtain ⟨n', l', mo', sy', g1, g2, g3, g4, g5⟩ := ih (n - min n 6) (l ++ [(16, min n 6 - 3)]) mo1 sy1 (by omega) (by rw [len_snoc]; omega) C1
        refine ⟨n', l', mo', sy', g1, g2, g3, g4, ?_⟩
        rw [← g5, rn, if_pos (by omega), List.append_assoc, List.singleton_append, rn_fuel v _ (n - min n 6 + 1) _ (by omega) (by omega)]
      by_cases h2 : n ≤ 6
      · have e : n - 3 = min n 6 - 3 := by omega
        simp (disch := omega) only [nm, z_lit, z_one, z_mone, z_neg1, z_neg2, z_pred, z_add, z_mul, z_sub, z_le, z_lt, z_eq, z_tn, z_chk, z_eqm, z_meq, z_lem, z_mle, z_ltm, z_mlt, z_eqq, z_qeq, z_leq, z_qle, z_ltq, z_qlt, z_m1m2, z_m2m1, z_m1m1, z_m2m2, z_bnd1, z_bnd2, z_bnd3, z_bnd4, z_bnd5, z_bnd6, z_bnd7, z_bnd8, z_bnd9, z_bnd10, z_bnd11, z_bnd12, z_bnd13, z_bnd14, z_bnd15, z_bnd16, z_max, z_min, z_n31, z_shl, z_shr, z_us, z_div, z_mod, z_and, z_or, z_xor, if_true, if_false, h, h2]
        rw [e, e1]
        simp (disch := omega) only [nm, z_lit, z_one, z_mone, z_neg1, z_neg2, z_pred, z_add, z_mul, z_sub, z_le, z_lt, z_eq, z_tn, z_chk, z_eqm, z_meq, z_lem, z_mle, z_ltm, z_mlt, z_eqq, z_qeq, z_leq, z_qle, z_ltq, z_qlt, z_m1m2, z_m2m1, z_m1m1, z_m2m2, z_bnd1, z_bnd2, z_bnd3, z_bnd4, z_bnd5, z_bnd6, z_bnd7, z_bnd8, z_bnd9, z_bnd10, z_bnd11, z_bnd12, z_bnd13, z_bnd14, z_bnd15, z_bnd16, z_max, z_min, z_n31, z_shl, z_shr, z_us, z_div, z_mod, z_and, z_or, z_xor, if_true, if_false]
        exact step n (by omega)
      · have e : 6 - 3 = min n 6 - 3 := by omega
        simp (disch := omega) only [nm, z_lit, z_one, z_mone, z_neg1, z_neg2, z_pred, z_add, z_mul, z_sub, z_le, z_lt, z_eq, z_tn, z_chk, z_eqm, z_meq, z_lem, z_mle, z_ltm, z_mlt, z_eqq, z_qeq, z_leq, z_qle, z_ltq, z_qlt, z_m1m2, z_m2m1, z_m1m1, z_m2m2, z_bnd1, z_bnd2, z_bnd3, z_bnd4, z_bnd5, z_bnd6, z_bnd7, z_bnd8, z_bnd9, z_bnd10, z_bnd11, z_bnd12, z_bnd13, z_bnd14, z_bnd15, z_bnd16, z_max, z_min, z_n31, z_shl, z_shr, z_us, z_div, z_mod, z_and, z_or, z_xor, if_true, if_false, h, h2]
        rw [e, e1]
        simp (disch := omega) only [nm, z_lit, z_one, z_mone, z_neg1, z_neg2, z_pred, z_add, z_mul, z_sub, z_le, z_lt, z_eq, z_tn, z_chk, z_eqm, z_meq, z_lem, z_mle, z_ltm, z_mlt, z_eqq, z_qeq, z_leq, z_qle, z_ltq, z_qlt, z_m1m2, z_m2m1, z_m1m1, z_m2m2, z_bnd1, z_bnd2, z_bnd3, z_bnd4, z_bnd5, z_bnd6, z_bnd7, z_bnd8, z_bnd9, z_bnd10, z_bnd11, z_bnd12, z_bnd13, z_bnd14, z_bnd15, z_bnd16, z_max, z_min, z_n31, z_shl, z_shr, z_us, z_div, z_mod, z_and, z_or, z_xor, if_true, if_false]
        exact step 6 (by omega)
theorem l_ar120 (F v : Nat) (N : Nat) (hN : N < 400) : ∀ (f i : Nat) (l : List (Nat × Nat)) (mo sy : Nat → Int32), i ≤ N → N - i < f → l.length + (N - i) ≤ 330 → mrow l mo sy → ∃ (mo' sy' : Nat → Int32), L_MD_addRun_120 F (nI v) (nI N) f (nI i) (nI l.length) mo sy = some (nI N, nI (l ++ List.replicate (N - i) (v, 0)).length, mo', sy') ∧ mrow (l ++ List.replicate (N - i) (v, 0)) mo' sy' := by
  intro f
  induction f with
  | zero => intro i l mo sy _ h; omega
  | succ f ih =>
    intro i l mo sy hi hf hl C
    unfold L_MD_addRun_120 B_MD_addRun_120
    by_cases h : N ≤ i
    · have e : i = N := by omega
      subst e
      refine ⟨mo, sy, ?_, ?_⟩
      · simp (disch := omega) only [nm, z_lit, z_one, z_mone, z_neg1, z_neg2, z_pred, z_add, z_mul, z_sub, z_le, z_lt, z_eq, z_tn, z_chk, z_eqm, z_meq, z_lem, z_mle, z_ltm, z_mlt, z_eqq, z_qeq, z_leq, z_qle, z_ltq, z_qlt, z_m1m2, z_m2m1, z_m1m1, z_m2m2, z_bnd1, z_bnd2, z_bnd3, z_bnd4, z_bnd5, z_bnd6, z_bnd7, z_bnd8, z_bnd9, z_bnd10, z_bnd11, z_bnd12, z_bnd13, z_bnd14, z_bnd15, z_bnd16, z_max, z_min, z_n31, z_shl, z_shr, z_us, z_div, z_mod, z_and, z_or, z_xor, if_true, if_false, Nat.le_refl, Nat.sub_self, List.replicate_zero, List.append_nil]
      · rw [Nat.sub_self, List.replicate_zero, List.append_nil]; exact C
    · obtain ⟨mo1, sy1, e1, C1⟩ := s_addRow F l mo sy v 0 C (by omega)
      simp (disch := omega) only [nm, z_lit, z_one, z_mone, z_neg1, z_neg2, z_pred, z_add, z_mul, z_sub, z_le, z_lt, z_eq, z_tn, z_chk, z_eqm, z_meq, z_lem, z_mle, z_ltm, z_mlt, z_eqq, z_qeq, z_leq, z_qle, z_ltq, z_qlt, z_m1m2, z_m2m1, z_m1m1, z_m2m2, z_bnd1, z_bnd2, z_bnd3, z_bnd4, z_bnd5, z_bnd6, z_bnd7, z_bnd8, z_bnd9, z_bnd10, z_bnd11, z_bnd12, z_bnd13, z_bnd14, z_bnd15, z_bnd16, z_max, z_min, z_n31, z_shl, z_shr, z_us, z_div, z_mod, z_and, z_or, z_xor, if_true, if_false, h, e1]
      obtain ⟨mo', sy', g1, g2⟩ := ih (i + 1) (l ++ [(v, 0)]) mo1 sy1 (by omega) (by omega) (by rw [len_snoc]; omega) C1
      have e : N - i = (N - (i + 1)) + 1 := by omega
      have e2 : l ++ List.replicate (N - i) (v, 0) = l ++ [(v, 0)] ++ List.replicate (N - (i + 1)) (v, 0) := by rw [e, List.replicate_succ, List.append_assoc]; rfl
      rw [e2]
      exact ⟨mo', sy', g1, g2⟩
theorem s_addRun (F v n : Nat) (l : List (Nat × Nat)) (mo sy : Nat → Int32) (hF : 100000 ≤ F) (hv : v < 19) (hn0 : 0 < n) (hl : l.length + n ≤ 330) (C : mrow l mo sy) : ∃ mo' sy', m_MD_addRun F mo (nI l.length) sy (nI v) (nI n) = some (nI (l ++ run v n).length, mo', sy') ∧ mrow (l ++ run v n) mo' sy' := by
  unfold m_MD_addRun
  by_cases h0 : v = 0
  · subst h0
    obtain ⟨n', l', mo1, sy1, e1, C1, q1, q2, q3⟩ := l_ar2 F F n l mo sy (by omega) hl C
    rw [run_z, q3]
    by_cases h3 : n' ≤ 2
    · have e9 : (if 2 < n' then [(17, n' - 3)] else List.replicate n' (0, 0)) = List.replicate n' (0, 0) := if_neg (by omega)
      rw [e9]
      obtain ⟨mo2, sy2, e2, C2⟩ := l_ar120 F 0 n' (by omega) F 0 l' mo1 sy1 (by omega) (by omega) (by omega) C1
      rw [Nat.sub_zero] at e2 C2
      refine ⟨mo2, sy2, ?_, C2⟩
      simp (disch := omega) only [nm, z_lit, z_one, z_mone, z_neg1, z_neg2, z_pred, z_add, z_mul, z_sub, z_le, z_lt, z_eq, z_tn, z_chk, z_eqm, z_meq, z_lem, z_mle, z_ltm, z_mlt, z_eqq, z_qeq, z_leq, z_qle, z_ltq, z_qlt, z_m1m2, z_m2m1, z_m1m1, z_m2m2, z_bnd1, z_bnd2, z_bnd3, z_bnd4, z_bnd5, z_bnd6, z_bnd7, z_bnd8, z_bnd9, z_bnd10, z_bnd11, z_bnd12, z_bnd13, z_bnd14, z_bnd15, z_bnd16, z_max, z_min, z_n31, z_shl, z_shr, z_us, z_div, z_mod, z_and, z_or, z_xor, if_true, if_false, e1, h3, e2, Nat.le_refl]
    · have e9 : (if 2 < n' then [(17, n' - 3)] else List.replicate n' (0, 0)) = [(17, n' - 3)] := if_pos (by omega)
      rw [e9]
      obtain ⟨mo2, sy2, e2, C2⟩ := s_addRow F l' mo1 sy1 17 (n' - 3) C1 (by omega)
      obtain ⟨mo3, sy3, e3, C3⟩ := l_ar120 F 0 0 (by omega) F 0 (l' ++ [(17, n' - 3)]) mo2 sy2 (by omega) (by omega) (by rw [len_snoc]; omega) C2
      rw [Nat.sub_zero, List.replicate_zero, List.append_nil] at e3 C3
      refine ⟨mo3, sy3, ?_, C3⟩
      simp (disch := omega) only [nm, z_lit, z_one, z_mone, z_neg1, z_neg2, z_pred, z_add, z_mul, z_sub, z_le, z_lt, z_eq, z_tn, z_chk, z_eqm, z_meq, z_lem, z_mle, z_ltm, z_mlt, z_eqq, z_qeq, z_leq, z_qle, z_ltq, z_qlt, z_m1m2, z_m2m1, z_m1m1, z_m2m2, z_bnd1, z_bnd2, z_bnd3, z_bnd4, z_bnd5, z_bnd6, z_bnd7, z_bnd8, z_bnd9, z_bnd10, z_bnd11, z_bnd12, z_bnd13, z_bnd14, z_bnd15, z_bnd16, z_max, z_min, z_n31, z_shl, z_shr, z_us, z_div, z_mod, z_and, z_or, z_xor, if_true, if_false, e1, h3, e2, e3, Nat.le_refl]
  · have e0 := l_ar2n F v n F l mo sy h0 hv (by omega)
    have n1 : ¬ (v ≤ 0) := by omega
    rw [run_n h0 (by omega)]
    obtain ⟨mo1, sy1, e1, C1⟩ := s_addRow F l mo sy v 0 C (by omega)
    obtain ⟨n', l', mo2, sy2, e2, C2, q1, q2, q3⟩ := l_ar80 F v F (n - 1) (l ++ [(v, 0)]) mo1 sy1 (by omega) (by rw [len_snoc]; omega) C1
    obtain ⟨mo3, sy3, e3, C3⟩ := l_ar120 F v n' (by omega) F 0 l' mo2 sy2 (by omega) (by omega) (by omega) C2
    rw [Nat.sub_zero] at e3 C3
    have e : l ++ (v, 0) :: rn v n (n - 1) = l' ++ List.replicate n' (v, 0) := by
      rw [← q3, List.append_assoc, List.singleton_append, rn_fuel v n (n - 1 + 1) (n - 1) (by omega) (by omega)]
    rw [e]
    refine ⟨mo3, sy3, ?_, C3⟩
    simp (disch := omega) only [nm, z_lit, z_one, z_mone, z_neg1, z_neg2, z_pred, z_add, z_mul, z_sub, z_le, z_lt, z_eq, z_tn, z_chk, z_eqm, z_meq, z_lem, z_mle, z_ltm, z_mlt, z_eqq, z_qeq, z_leq, z_qle, z_ltq, z_qlt, z_m1m2, z_m2m1, z_m1m1, z_m2m2, z_bnd1, z_bnd2, z_bnd3, z_bnd4, z_bnd5, z_bnd6, z_bnd7, z_bnd8, z_bnd9, z_bnd10, z_bnd11, z_bnd12, z_bnd13, z_bnd14, z_bnd15, z_bnd16, z_max, z_min, z_n31, z_shl, z_shr, z_us, z_div, z_mod, z_and, z_or, z_xor, if_true, if_false, h0, n1, e0, e1, e2, e3]
