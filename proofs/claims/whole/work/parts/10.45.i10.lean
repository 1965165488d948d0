/-! a block's own sets, read by both -/
def ms3 (F : Nat) (at8 : Int32) (fl_ : Nat → Int32) (M : Nat → Int32) (nF : Int32) (ll row sc1 sl5 : Nat → Int32) (s bb y1 y2 y3 : Int32) : Option (Int32 × Int32 × Int32 × Int32 × Int32 × Int32 × (Nat → Int32) × (Nat → Int32) × (Nat → Int32) × (Nat → Int32) × (Nat → Int32)) :=
bnd4 (m_MD_readRow F at8 M nF row sc1 sl5 s (y1 + y2)) fun r14 t_stop_1 t_at_9 t_row1 =>
(if r14 ≤ (0 : Int32) then
bnd4 (m_MD_useRow F fl_ y2 ll y1 t_row1 t_stop_1 bb) fun r15 t_stop_2 t_farLength1 t_litLength1 =>
some (r15, t_stop_2, y1, y2, y3, t_at_9, t_farLength1, t_litLength1, t_row1, sc1, sl5)
else
some (r14, t_stop_1, y1, y2, y3, t_at_9, fl_, ll, t_row1, sc1, sl5))
def ms2 (F : Nat) (at2 : Int32) (fl_ : Nat → Int32) (M : Nat → Int32) (nF : Int32) (ll row sc sl : Nat → Int32) (sm s bb y1 y2 : Int32) : Option (Int32 × Int32 × Int32 × Int32 × Int32 × Int32 × (Nat → Int32) × (Nat → Int32) × (Nat → Int32) × (Nat → Int32) × (Nat → Int32)) :=
bnd1 (m_MD_has F at2 nF (4 : Int32)) fun r5 =>
(if r5 = (0 : Int32) then
some ((1 : Int32), s, y1, y2, sm, at2, fl_, ll, row, sc, sl)
else
bnd2 (m_MD_take F at2 M (4 : Int32)) fun r6 t_at_3 =>
nm ((4 : Int32) + r6) fun y3 => bnd4 (L_MD_readSets_108 F M nF y3 F (0 : Int32) t_at_3 sl) fun rr2 v3_3 t_at_8 t_setLength5 =>
orc rr2 (fun r12 => some (r12, s, y1, y2, y3, t_at_8, fl_, ll, row, sc, t_setLength5)) (
bnd1 (m_MD_fullness F 19 t_setLength5 (19 : Int32)) fun r13 =>
(if r13 = (0 : Int32) then
bnd1 (m_MD_number F 19 19 t_setLength5 sc (19 : Int32)) fun t_setCode1 =>
ms3 F t_at_8 fl_ M nF ll row t_setCode1 t_setLength5 s bb y1 y2 y3
else
bnd2 (m_MD_broken F bb) fun r16 t_stop_3 =>
some (r16, t_stop_3, y1, y2, y3, t_at_8, fl_, ll, row, sc, t_setLength5))))
def endk (ss st : Int32) (X : Option (Int32 × Int32 × Int32 × Int32 × Int32 × Int32 × (Nat → Int32) × (Nat → Int32) × (Nat → Int32) × (Nat → Int32) × (Nat → Int32))) : Prop := ∃ k, k < 4 ∧ ss = nI k ∧ ∃ w1 w2 w3 ma f1 f2 f3 f4 f5, X = some (nI (k + 1), st, w1, w2, w3, ma, f1, f2, f3, f4, f5)
theorem j_num (F nF at0 bb : Nat) (cb : Nat → Nat) (C M fl_ ll row sc sl : Nat → Int32) (fm lm sm s : Int32) (hF : 100000 ≤ F) (hr : fedr cb nF C M) (ha : at0 ≤ 8 * nF) : ∃ st ss a y1 y2, m_Reader_readNumbers F (nI at0) (nI (8 * nF)) C m1 s = some (st, ss, a, y1, y2) ∧ (endk ss st (m_MD_readSets F (nI at0) fl_ fm M (nI nF) ll lm row sc sl sm s (nI bb)) ∨ (∃ ln dn, 257 ≤ ln ∧ ln ≤ 286 ∧ 1 ≤ dn ∧ dn ≤ 30 ∧ at0 + 10 ≤ 8 * nF ∧ st = s ∧ ss = m1 ∧ a = nI (at0 + 10) ∧ y1 = nI ln ∧ y2 = nI dn ∧ m_MD_readSets F (nI at0) fl_ fm M (nI nF) ll lm row sc sl sm s (nI bb) = ms2 F (nI (at0 + 10)) fl_ M (nI nF) ll row sc sl sm s (nI bb) (nI ln) (nI dn))) := by
  have hnF := hr.1
  unfold m_Reader_readNumbers m_MD_readSets
  rw [show (5 : Int32) = nI 5 from rfl]
  have em : (m1 = (-1 : Int32)) = True := eq_true rfl
  have e0m : (nI 0 = (-1 : Int32)) = False := z_nm1 (by omega)
  have e2m : ((2 : Int32) = (-1 : Int32)) = False := eq_false (by decide)
  have e00 : (nI 0 = (0 : Int32)) = True := eq_true rfl
  have e10 : (nI 1 = (0 : Int32)) = False := eq_false (by decide)
  have n0 : nI 0 ≠ m1 := by decide
  have n2 : (2 : Int32) ≠ m1 := by decide
  by_cases h1 : 8 * nF < at0 + 5
  · obtain ⟨q1, q2⟩ := s_nobits F 5 nF at0 C hnF ha (by omega) h1
    rw [q1, q2]
    simp only [z_bnd3, z_bnd1, e00, e0m, if_true, if_false, nm, z_bnd2]
    rw [s_stopped F _ _ _ _ _ n0]
    simp only [z_bnd3, e0m, if_false]
    exact ⟨_, _, _, _, _, rfl, Or.inl ⟨0, by omega, rfl, _, _, _, _, _, _, _, _, _, rfl⟩⟩
  · obtain ⟨q1, q2, q3⟩ := s_bits F 5 nF at0 cb C M hF hr (by omega) (by omega)
    have rl : rb cb at0 5 < 32 := rb_lt cb at0 5
    rw [q1, q2, q3]
    have ey : nI (rb cb at0 5) + (256 : Int32) + (1 : Int32) = nI (257 + rb cb at0 5) := by
      show nI _ + nI 256 + nI 1 = _
      rw [z_add, z_add]; exact congrArg nI (by omega)
    have ey2 : (257 : Int32) + nI (rb cb at0 5) = nI (257 + rb cb at0 5) := by
      show nI 257 + nI _ = _
      rw [z_add]
    simp only [z_bnd3, z_bnd2, z_bnd1, e10, em, if_true, if_false, nm, ey, ey2]
    generalize rb cb at0 5 = r at *
    by_cases h2 : 257 + r ≤ 286
    · have c2 : (nI (257 + r) ≤ (286 : Int32)) = True := eq_true (by show nI _ ≤ nI 286; rw [z_le (by omega) (by omega)]; exact h2)
      simp only [c2, if_true, z_bnd2]
      by_cases h3 : 8 * nF < at0 + 5 + 5
      · obtain ⟨q4, q5⟩ := s_nobits F 5 nF (at0 + 5) C hnF (by omega) (by omega) h3
        rw [q4, q5]
        simp only [z_bnd3, z_bnd1, e00, e0m, if_true, if_false]
        exact ⟨_, _, _, _, _, rfl, Or.inl ⟨0, by omega, rfl, _, _, _, _, _, _, _, _, _, rfl⟩⟩
      · obtain ⟨q4, q5, q6⟩ := s_bits F 5 nF (at0 + 5) cb C M hF hr (by omega) (by omega)
        have rl2 : rb cb (at0 + 5) 5 < 32 := rb_lt cb (at0 + 5) 5
        have ey3 : nI (rb cb (at0 + 5) 5) + (1 : Int32) = nI (1 + rb cb (at0 + 5) 5) := by
          show nI _ + nI 1 = _
          rw [z_add]; exact congrArg nI (by omega)
        have ey4 : (1 : Int32) + nI (rb cb (at0 + 5) 5) = nI (1 + rb cb (at0 + 5) 5) := by
          show nI 1 + nI _ = _
          rw [z_add]
        rw [q4, q5, q6]
        simp only [z_bnd3, z_bnd2, z_bnd1, e10, em, if_true, if_false, ey3, ey4]
        generalize rb cb (at0 + 5) 5 = r2 at *
        by_cases h4 : 1 + r2 ≤ 30
        · have c4 : (nI (1 + r2) ≤ (30 : Int32)) = True := eq_true (by show nI _ ≤ nI 30; rw [z_le (by omega) (by omega)]; exact h4)
          simp only [c4, if_true]
          exact ⟨_, _, _, _, _, rfl, Or.inr ⟨257 + r, 1 + r2, by omega, h2, by omega, h4, by omega, rfl, rfl, rfl, rfl, rfl, rfl⟩⟩
        · have c4 : (nI (1 + r2) ≤ (30 : Int32)) = False := eq_false (by show ¬ (nI _ ≤ nI 30); rw [z_le (by omega) (by omega)]; exact h4)
          simp only [c4, if_false, m_Reader_breakAt, m_MD_broken, z_bnd2]
          exact ⟨_, _, _, _, _, rfl, Or.inl ⟨2, by omega, rfl, _, _, _, _, _, _, _, _, _, rfl⟩⟩
    · have c2 : (nI (257 + r) ≤ (286 : Int32)) = False := eq_false (by show ¬ (nI _ ≤ nI 286); rw [z_le (by omega) (by omega)]; exact h2)
      simp only [c2, if_false, m_Reader_breakAt, m_MD_broken, z_bnd2]
      rw [s_stopped F _ _ _ _ _ n2]
      simp only [z_bnd3, e2m, if_false]
      exact ⟨_, _, _, _, _, rfl, Or.inl ⟨2, by omega, rfl, _, _, _, _, _, _, _, _, _, rfl⟩⟩
theorem c_lcS (F : Nat) (a bc bb st : Int32) (C len : Nat → Int32) (c1 c2 c3 : Int32) (p1 p2 p3 : Nat → Int32) (k : Nat) (hk : k < 4) (hF : 100000 ≤ F) : ∃ a2 len2 k1 k2 k3 q1 q2 q3, m_Reader_readLengthsCode F a bc bb C len c1 c2 c3 p1 p2 p3 (nI k) st = some (st, nI k, a2, len2, k1, k2, k3, q1, q2, q3) := by
  unfold m_Reader_readLengthsCode
  have nk : nI k ≠ m1 := by
    intro h
    have := z_eqm (show k < 2147483648 by omega)
    exact (this ▸ h : False)
  rw [s_stopped F _ _ _ _ _ nk]
  simp only [z_bnd3, nm]
  rw [s_fill2 F 318 _ _ (by omega) (by omega), z_bnd1]
  obtain ⟨v, hv⟩ := l_lcS F F bc (m1 + 4) 0 a C (fun j => if j < 318 then 0 else len j) k hk (by omega)
  rw [hv, z_bnd4]
  simp only [z_nm1 (show k < 2147483648 by omega), if_false]
  exact ⟨_, _, _, _, _, _, _, _, rfl⟩
theorem c_rwS (F : Nat) (a bc bb y2 y1 st lg : Int32) (C len d4 d5 d6 pl sl_ l4 l5 l6 : Nat → Int32) (d1 d2 d3 l1 l2 l3 : Int32) (k : Nat) (hk : k < 4) (hF : 100000 ≤ F) : ∃ a3 len3 w1 w2 w3 w4 w5 w6 x1 x2 x3 x4 x5 x6, m_Reader_readRow F a bc bb C y2 len y1 d1 d2 d3 d4 d5 d6 lg pl sl_ l1 l2 l3 l4 l5 l6 (nI k) st = some (st, nI k, a3, len3, w1, w2, w3, w4, w5, w6, x1, x2, x3, x4, x5, x6) := by
  unfold m_Reader_readRow
  simp only [nm]
  obtain ⟨x, y, hv⟩ := l_rwS F F bc (y1 + y2) 0 0 st a lg C len pl sl_ k hk (by omega)
  rw [hv, z_bnd6]
  simp only [z_nm1 (show k < 2147483648 by omega), if_false]
  exact ⟨_, _, _, _, _, _, _, _, _, _, _, _, _, _, rfl⟩
/-- the code of the lengths -/
theorem j_lcode (F nF at0 bb : Nat) (cb : Nat → Nat) (C M len fl_ ll row sc sl p1 p2 p3 : Nat → Int32) (c1 c2 c3 sm s y1 y2 : Int32) (hF : 100000 ≤ F) (hr : fedr cb nF C M) (ha : at0 ≤ 8 * nF) : ∃ st ss a2 len2 k1 k2 k3 q1 q2 q3, m_Reader_readLengthsCode F (nI at0) (nI (8 * nF)) (nI bb) C len c1 c2 c3 p1 p2 p3 m1 s = some (st, ss, a2, len2, k1, k2, k3, q1, q2, q3) ∧ (endk ss st (ms2 F (nI at0) fl_ M (nI nF) ll row sc sl sm s (nI bb) y1 y2) ∨ (∃ a y3 sc1 sl5, st = s ∧ ss = m1 ∧ a2 = nI a ∧ at0 ≤ a ∧ a ≤ 8 * nF ∧ jset 19 19 19 19 19 k2 q2 q3 sl5 sc1 ∧ ms2 F (nI at0) fl_ M (nI nF) ll row sc sl sm s (nI bb) y1 y2 = ms3 F (nI a) fl_ M (nI nF) ll row sc1 sl5 s (nI bb) y1 y2 y3)) := by
  have hnF := hr.1
  unfold m_Reader_readLengthsCode ms2
  rw [show (4 : Int32) = nI 4 from rfl]
  have em : (m1 = (-1 : Int32)) = True := eq_true rfl
  have e0m : (nI 0 = (-1 : Int32)) = False := z_nm1 (by omega)
  have e00 : (nI 0 = (0 : Int32)) = True := eq_true rfl
  have e10 : (nI 1 = (0 : Int32)) = False := eq_false (by decide)
  by_cases h1 : 8 * nF < at0 + 4
  · obtain ⟨q1, q2⟩ := s_nobits F 4 nF at0 C hnF ha (by omega) h1
    rw [q1, q2]
    simp only [z_bnd3, z_bnd1, e00, if_true, nm]
    rw [s_fill2 F 318 _ _ (by omega) (by omega), z_bnd1]
    obtain ⟨v, hv⟩ := l_lcS F F (nI (8 * nF)) (m1 + nI 4) 0 (nI at0) C (fun j => if j < 318 then 0 else len j) 0 (by omega) (by omega)
    rw [hv, z_bnd4]
    simp only [e0m, if_false]
    exact ⟨_, _, _, _, _, _, _, _, _, _, rfl, Or.inl ⟨0, by omega, rfl, _, _, _, _, _, _, _, _, _, rfl⟩⟩
  · obtain ⟨q1, q2, q3⟩ := s_bits F 4 nF at0 cb C M hF hr (by omega) (by omega)
    have rl : rb cb at0 4 < 16 := rb_lt cb at0 4
    rw [q1, q2, q3]
    have ey : nI (rb cb at0 4) + nI 4 = nI (4 + rb cb at0 4) := by rw [z_add]; exact congrArg nI (by omega)
    have ey2 : nI 4 + nI (rb cb at0 4) = nI (4 + rb cb at0 4) := by rw [z_add]
    simp only [z_bnd3, z_bnd2, z_bnd1, e10, if_false, nm, ey, ey2]
    rw [s_fill2 F 318 _ _ (by omega) (by omega), z_bnd1]
    generalize rb cb at0 4 = r at *
    obtain ⟨v, css, ca, len', rr, v', ma, sl', b1, b2, b3⟩ := l_jlc F (4 + r) nF cb C M hF hr (by omega) F F 0 (at0 + 4) (fun j => if j < 318 then 0 else len j) sl (by omega) (by omega) (by omega) (by omega) ⟨fun j hj => by omega, fun j _ hj => by
      have := (tb4 j hj).2
      simp only [if_pos (show tbn 4 j < 318 by omega)]; rfl⟩
    rw [show (0 : Int32) = nI 0 from rfl] at b1 ⊢
    rw [b1, b2, z_bnd4, z_bnd4]
    rcases b3 with ⟨rfl, rfl⟩ | ⟨rfl, rfl, ⟨a, rfl, rfl, x3, x4⟩, x5⟩
    · simp only [e0m, if_false]
      exact ⟨_, _, _, _, _, _, _, _, _, _, rfl, Or.inl ⟨0, by omega, rfl, _, _, _, _, _, _, _, _, _, rfl⟩⟩
    · have RL := rrel_L (srel_rrel x5)
      simp only [em, if_true]
      obtain ⟨lg, fe, nx', per', sy', m1', m2', m3'⟩ := s_make F 318 19 0 19 len' p1 p2 p3 (tn_ len') hF (by omega) (by omega) (by omega) (by omega) (fun k hk => by
        rw [Nat.zero_add]; exact ⟨(RL k hk).1, (RL k hk).2.2⟩)
      obtain ⟨v2, g1, g2⟩ := s_full F 19 19 sl' (tn_ len') hF (by omega) (by omega) (fun k hk => (RL k hk).2)
      rw [show (19 : Int32) = nI 19 from rfl, m1', z_bnd6, s_isFull, z_bnd1]
      show ∃ st ss a2 len2 k1 k2 k3 q1 q2 q3, _ ∧ (endk ss st (bnd1 (m_MD_fullness F 19 sl' (nI 19)) _) ∨ ∃ a y3 sc1 sl5, _ ∧ _ ∧ _ ∧ _ ∧ _ ∧ _ ∧ (bnd1 (m_MD_fullness F 19 sl' (nI 19)) _) = _)
      rw [g1, z_bnd1]
      by_cases hf : fre (tn_ len') 19 15 = 0
      · obtain ⟨sc1, n1, n2⟩ := j_jset F 19 19 19 lg per' sy' sl' sc (tn_ len') hF (by omega) m2' ⟨tn_ len', fun k hk => (RL k hk).2, fun k _ => rfl, fun k h1 h2 => by omega⟩
        rw [if_pos (m3'.mpr hf), if_neg (by decide), if_pos (show v2 = nI 0 from g2.mpr hf), n1, z_bnd1]
        exact ⟨_, _, _, _, _, _, _, _, _, _, rfl, Or.inr ⟨a, _, sc1, sl', rfl, rfl, rfl, by omega, x4, n2, rfl⟩⟩
      · rw [if_neg (fun h => hf (m3'.mp h)), if_pos rfl, if_neg (show ¬ (v2 = nI 0) from fun h => hf (g2.mp h))]
        simp only [m_Reader_breakAt, m_MD_broken, z_bnd2]
        exact ⟨_, _, _, _, _, _, _, _, _, _, rfl, Or.inl ⟨2, by omega, rfl, _, _, _, _, _, _, _, _, _, rfl⟩⟩
