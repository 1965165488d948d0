/-! the row used by both, and all of a block's own sets -/
def seto (nF at0 : Nat) (s st ss a3 lgl : Int32) (perl syl : Nat → Int32) (lgd : Int32) (perd syd : Nat → Int32) (X : Option (Int32 × Int32 × Int32 × Int32 × Int32 × Int32 × (Nat → Int32) × (Nat → Int32) × (Nat → Int32) × (Nat → Int32) × (Nat → Int32))) : Prop := endk ss st X ∨ (ss = m1 ∧ st = s ∧ ∃ a ln dn L1 L2 w1 w2 w3 fl' ll' row' sc' sl', a3 = nI a ∧ at0 ≤ a ∧ a ≤ 8 * nF ∧ ln ≤ 286 ∧ dn ≤ 30 ∧ cset L1 ln lgl perl syl ∧ mset 288 ln L1 ll' ∧ cset L2 dn lgd perd syd ∧ mset 32 dn L2 fl' ∧ X = some (nI 0, s, w1, w2, w3, nI a, fl', ll', row', sc', sl'))
theorem j_useRow (F nF at0 bb ln dn : Nat) (cb : Nat → Nat) (C M len fl_ ll row sc1 sl5 pl sl_ d4 d5 d6 l4 l5 l6 : Nat → Int32) (d1 d2 d3 l1 l2 l3 lg s y3 : Int32) (hF : 100000 ≤ F) (hr : fedr cb nF C M) (ha : at0 ≤ 8 * nF) (hl : 257 ≤ ln ∧ ln ≤ 286) (hd : 1 ≤ dn ∧ dn ≤ 30) (J : jset 19 19 19 19 19 lg pl sl_ sl5 sc1) : ∃ st ss a3 len3 w1 w2 w3 w4 w5 w6 x1 x2 x3 x4 x5 x6, m_Reader_readRow F (nI at0) (nI (8 * nF)) (nI bb) C (nI dn) len (nI ln) d1 d2 d3 d4 d5 d6 lg pl sl_ l1 l2 l3 l4 l5 l6 m1 s = some (st, ss, a3, len3, w1, w2, w3, w4, w5, w6, x1, x2, x3, x4, x5, x6) ∧ seto nF at0 s st ss a3 x2 x5 x6 w2 w5 w6 (ms3 F (nI at0) fl_ M (nI nF) ll row sc1 sl5 s (nI bb) (nI ln) (nI dn) y3) := by
  have hnF := hr.1
  have em : (m1 = (-1 : Int32)) = True := eq_true rfl
  obtain ⟨v2, v3, cst, css, ca, len', rr, v', ms, ma, row', b1, b2, b3⟩ := l_jrow F nF (ln + dn) cb C M pl sl_ sl5 sc1 lg s hF hr J (by omega) F F 0 0 at0 len row (by omega) (by omega) (by omega) (by omega) ha (fun j hj => by omega)
  unfold m_Reader_readRow ms3 m_MD_readRow
  simp only [nm, z_add]
  rw [show (0 : Int32) = nI 0 from rfl, b1, b2]
  simp only [z_bnd6, z_bnd5]
  rcases b3 with ⟨k, hk, rfl, rfl, rfl⟩ | ⟨rfl, rfl, rfl, rfl, ⟨a, rfl, rfl, x3, x4⟩, R⟩
  · have ek : (nI (k + 1) ≤ nI 0) = False := eq_false (by rw [z_le (by omega) (by omega)]; omega)
    have eo : ∀ {α : Type} (f : Int32 → Option α) (x : Option α), orc (some (nI (k + 1))) f x = f (nI (k + 1)) := fun _ _ => rfl
    simp only [z_nm1 (show k < 2147483648 by omega), if_false, eo, z_bnd4, ek]
    exact ⟨_, _, _, _, _, _, _, _, _, _, _, _, _, _, _, _, rfl, Or.inl ⟨k, hk, rfl, _, _, _, _, _, _, _, _, _, rfl⟩⟩
  · have RL := rrel_L R
    have eo : ∀ {α : Type} (f : Int32 → Option α) (x : Option α), orc none f x = x := fun _ _ => rfl
    have e0 : (nI 0 ≤ nI 0) = True := eq_true (by decide)
    simp only [em, if_true, eo, z_bnd4, e0]
    obtain ⟨lg1, fe1, nx1, per1, sy1, p1, p2, p3⟩ := s_make F 318 286 0 ln len' l4 l5 l6 (tn_ len') hF (by omega) (by omega) (by omega) (by omega) (fun k hk => by
        rw [Nat.zero_add]; exact ⟨(RL k (by omega)).1, (RL k (by omega)).2.2⟩)
    obtain ⟨lg2, fe2, nx2, per2, sy2, q1, q2, q3⟩ := s_make F 318 30 ln dn len' d4 d5 d6 (fun k => tn_ len' (ln + k)) hF (by omega) (by omega) (by omega) (by omega) (fun k hk => ⟨(RL (ln + k) (by omega)).1, (RL (ln + k) (by omega)).2.2⟩)
    obtain ⟨mis, ms, fl', ll', u1, u2, u3, u4⟩ := s_useRow F ln dn row' fl_ ll (tn_ len') (fun k => tn_ len' (ln + k)) ms (nI bb) hF hl hd (fun k hk => (RL k (by omega)).2) (fun k hk => (RL (ln + k) (by omega)).2)
    rw [p1, z_bnd6, q1, z_bnd6, u1, z_bnd4]
    have ck : ∀ {α : Type} (x : Option α), chk (inb (256 : Int32) 318) x = x := fun x => rfl
    have et : (256 : Int32).toNatClampNeg = 256 := rfl
    have b256 := RL 256 (by omega)
    obtain ⟨r, m1', m2', m3'⟩ := s_may F dn (fun k => tn_ len' (ln + k)) fe2 lg2 (by omega) (fun k hk => (RL (ln + k) (by omega)).2.2) q3 q2.1
    rw [ck, et, b256.1]
    by_cases g1 : tn_ len' 256 = 0
    · rw [if_pos (by rw [g1])]
      rcases u4 with ⟨w, _⟩ | ⟨_, rfl, rfl⟩
      · exact absurd g1 w.2.1
      · exact ⟨_, _, _, _, _, _, _, _, _, _, _, _, _, _, _, _, rfl, Or.inl ⟨2, by omega, rfl, _, _, _, _, _, _, _, _, _, rfl⟩⟩
    · rw [if_neg (by rw [z_eq (by omega) (by omega)]; exact g1), s_isFull, z_bnd1]
      by_cases g2 : fre (tn_ len') ln 15 = 0
      · rw [if_pos (p3.mpr g2), if_neg (by decide), m1', z_bnd1]
        by_cases g3 : r = 1
        · rw [if_neg (by rw [g3]; decide)]
          rcases u4 with ⟨_, rfl, rfl⟩ | ⟨w, _⟩
          · exact ⟨_, _, _, _, _, _, _, _, _, _, _, _, _, _, _, _, rfl, Or.inr ⟨rfl, rfl, a, ln, dn, _, _, _, _, _, fl', ll', _, _, _, rfl, x3, x4, by omega, by omega, p2, u2, q2, u3, rfl⟩⟩
          · exact absurd ⟨g2, g1, m3'.mp g3⟩ w
        · have r0 : r = 0 := by omega
          rw [if_pos (by rw [r0])]
          rcases u4 with ⟨w, _⟩ | ⟨_, rfl, rfl⟩
          · exact absurd (m3'.mpr w.2.2) g3
          · exact ⟨_, _, _, _, _, _, _, _, _, _, _, _, _, _, _, _, rfl, Or.inl ⟨2, by omega, rfl, _, _, _, _, _, _, _, _, _, rfl⟩⟩
      · rw [if_neg (fun h => g2 (p3.mp h)), if_pos rfl]
        rcases u4 with ⟨w, _⟩ | ⟨_, rfl, rfl⟩
        · exact absurd w.1 g2
        · exact ⟨_, _, _, _, _, _, _, _, _, _, _, _, _, _, _, _, rfl, Or.inl ⟨2, by omega, rfl, _, _, _, _, _, _, _, _, _, rfl⟩⟩
/-- the three pieces of the class, and the model's one -/
theorem j_sets (F nF at0 bb : Nat) (cb : Nat → Nat) (C M len fl_ ll row sc sl p1 p2 p3 d4 d5 d6 l4 l5 l6 : Nat → Int32) (c1 c2 c3 d1 d2 d3 l1 l2 l3 fm lm sm s : Int32) (hF : 100000 ≤ F) (hr : fedr cb nF C M) (ha : at0 ≤ 8 * nF) : ∃ st1 ss1 a1 y1 y2 st2 ss2 a2 len2 k1 k2 k3 q1 q2 q3 st ss a3 len3 w1 w2 w3 w4 w5 w6 x1 x2 x3 x4 x5 x6, m_Reader_readNumbers F (nI at0) (nI (8 * nF)) C m1 s = some (st1, ss1, a1, y1, y2) ∧ m_Reader_readLengthsCode F a1 (nI (8 * nF)) (nI bb) C len c1 c2 c3 p1 p2 p3 ss1 st1 = some (st2, ss2, a2, len2, k1, k2, k3, q1, q2, q3) ∧ m_Reader_readRow F a2 (nI (8 * nF)) (nI bb) C y2 len2 y1 d1 d2 d3 d4 d5 d6 k2 q2 q3 l1 l2 l3 l4 l5 l6 ss2 st2 = some (st, ss, a3, len3, w1, w2, w3, w4, w5, w6, x1, x2, x3, x4, x5, x6) ∧ seto nF at0 s st ss a3 x2 x5 x6 w2 w5 w6 (m_MD_readSets F (nI at0) fl_ fm M (nI nF) ll lm row sc sl sm s (nI bb)) := by
  obtain ⟨st1, ss1, a1, y1, y2, e1, h1⟩ := j_num F nF at0 bb cb C M fl_ ll row sc sl fm lm sm s hF hr ha
  rcases h1 with ⟨k, hk, rfl, w1, w2, w3, ma, f1, f2, f3, f4, f5, hX⟩ | ⟨ln, dn, b1, b2, b3, b4, b5, rfl, rfl, rfl, rfl, rfl, hX⟩
  · obtain ⟨a2, len2, k1, k2, k3, q1, q2, q3, e2⟩ := c_lcS F a1 (nI (8 * nF)) (nI bb) st1 C len c1 c2 c3 p1 p2 p3 k hk hF
    obtain ⟨a3, len3, v1, v2, v3, v4, v5, v6, x1, x2, x3, x4, x5, x6, e3⟩ := c_rwS F a2 (nI (8 * nF)) (nI bb) y2 y1 st1 k2 C len2 d4 d5 d6 q2 q3 l4 l5 l6 d1 d2 d3 l1 l2 l3 k hk hF
    exact ⟨_, _, _, _, _, _, _, _, _, _, _, _, _, _, _, _, _, _, _, _, _, _, _, _, _, _, _, _, _, _, _, e1, e2, e3, Or.inl ⟨k, hk, rfl, _, _, _, _, _, _, _, _, _, hX⟩⟩
  · obtain ⟨st2, ss2, a2, len2, k1, k2, k3, q1, q2, q3, e2, h2⟩ := j_lcode F nF (at0 + 10) bb cb C M len fl_ ll row sc sl p1 p2 p3 c1 c2 c3 sm st1 (nI ln) (nI dn) hF hr (by omega)
    rcases h2 with ⟨k, hk, rfl, w1, w2, w3, ma, f1, f2, f3, f4, f5, hX2⟩ | ⟨a, y3, sc1, sl5, rfl, rfl, rfl, g1, g2, J, hX2⟩
    · obtain ⟨a3, len3, v1, v2, v3, v4, v5, v6, x1, x2, x3, x4, x5, x6, e3⟩ := c_rwS F a2 (nI (8 * nF)) (nI bb) (nI dn) (nI ln) st2 k2 C len2 d4 d5 d6 q2 q3 l4 l5 l6 d1 d2 d3 l1 l2 l3 k hk hF
      exact ⟨_, _, _, _, _, _, _, _, _, _, _, _, _, _, _, _, _, _, _, _, _, _, _, _, _, _, _, _, _, _, _, e1, e2, e3, Or.inl ⟨k, hk, rfl, _, _, _, _, _, _, _, _, _, hX.trans hX2⟩⟩
    · obtain ⟨st, ss, a3, len3, v1, v2, v3, v4, v5, v6, x1, x2, x3, x4, x5, x6, e3, h3⟩ := j_useRow F nF a bb ln dn cb C M len2 fl_ ll row sc1 sl5 q2 q3 d4 d5 d6 l4 l5 l6 d1 d2 d3 l1 l2 l3 k2 st2 y3 hF hr g2 ⟨b1, b2⟩ ⟨b3, b4⟩ J
      refine ⟨_, _, _, _, _, _, _, _, _, _, _, _, _, _, _, _, _, _, _, _, _, _, _, _, _, _, _, _, _, _, _, e1, e2, e3, ?_⟩
      rw [hX, hX2]
      rcases h3 with h3 | ⟨y1, y2, a', ln', dn', L1, L2, w1, w2, w3, fl', ll', row', sc', sl', z1, z2, z3, z4⟩
      · exact Or.inl h3
      · exact Or.inr ⟨y1, y2, a', ln', dn', L1, L2, w1, w2, w3, fl', ll', row', sc', sl', z1, by omega, z3, z4⟩
