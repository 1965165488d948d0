/-! bytes told by both; stored blocks -/
def orel (c : Nat) (o m : Nat → Int32) : Prop := ∀ j, j < c → ∃ b, b < 256 ∧ o j = nI b ∧ m j = nI b
theorem j_add (F room c b : Nat) (o m : Nat → Int32) (hroom : room ≤ 2000) (hc : c ≤ room) (hb : b < 256) (ho : orel c o m) : (c < room ∧ ∃ o' m', m_Reader_addByte F room o (nI c) m1 (nI b) = some (nI (c + 1), m1, o') ∧ m_MD_tell F m (nI c) (nI room) (nI b) = some (nI 0, nI (c + 1), m') ∧ orel (c + 1) o' m') ∨ (m_Reader_addByte F room o (nI c) m1 (nI b) = some (nI c, nI 3, o) ∧ m_MD_tell F m (nI c) (nI room) (nI b) = some (nI 4, nI c, m)) := by
  by_cases h : c < room
  · left
    have h1 : ¬ (room ≤ c) := by omega
    have h2 : ¬ (c = room) := by omega
    refine ⟨h, upd o c (nI b), upd m c (nI b), ?_, ?_, fun j hj => ?_⟩
    · unfold m_Reader_addByte
      simp (disch := omega) only [nm, z_lit, z_one, z_mone, z_neg1, z_neg2, z_pred, z_add, z_mul, z_sub, z_le, z_lt, z_eq, z_tn, z_chk, z_eqm, z_meq, z_lem, z_mle, z_ltm, z_mlt, z_eqq, z_qeq, z_leq, z_qle, z_ltq, z_qlt, z_m1m2, z_m2m1, z_m1m1, z_m2m2, z_bnd1, z_bnd2, z_bnd3, z_bnd4, z_bnd5, z_bnd6, z_bnd7, z_bnd8, z_bnd9, z_bnd10, z_bnd11, z_bnd12, z_bnd13, z_bnd14, z_bnd15, z_bnd16, z_max, z_min, z_n31, z_shl, z_shr, z_us, z_div, z_mod, z_and, z_or, z_xor, if_true, if_false, h1]
    · unfold m_MD_tell
      simp (disch := omega) only [nm, z_lit, z_one, z_mone, z_neg1, z_neg2, z_pred, z_add, z_mul, z_sub, z_le, z_lt, z_eq, z_tn, z_chk, z_eqm, z_meq, z_lem, z_mle, z_ltm, z_mlt, z_eqq, z_qeq, z_leq, z_qle, z_ltq, z_qlt, z_m1m2, z_m2m1, z_m1m1, z_m2m2, z_bnd1, z_bnd2, z_bnd3, z_bnd4, z_bnd5, z_bnd6, z_bnd7, z_bnd8, z_bnd9, z_bnd10, z_bnd11, z_bnd12, z_bnd13, z_bnd14, z_bnd15, z_bnd16, z_max, z_min, z_n31, z_shl, z_shr, z_us, z_div, z_mod, z_and, z_or, z_xor, if_true, if_false, h2]
    · by_cases e : j = c
      · subst e; exact ⟨b, hb, z_updE, z_updE⟩
      · obtain ⟨x, x1, x2, x3⟩ := ho j (by omega)
        exact ⟨x, x1, by rw [z_updN e]; exact x2, by rw [z_updN e]; exact x3⟩
  · right
    have e : c = room := by omega
    subst e
    constructor
    · unfold m_Reader_addByte
      simp (disch := omega) only [nm, z_lit, z_one, z_mone, z_neg1, z_neg2, z_pred, z_add, z_mul, z_sub, z_le, z_lt, z_eq, z_tn, z_chk, z_eqm, z_meq, z_lem, z_mle, z_ltm, z_mlt, z_eqq, z_qeq, z_leq, z_qle, z_ltq, z_qlt, z_m1m2, z_m2m1, z_m1m1, z_m2m2, z_bnd1, z_bnd2, z_bnd3, z_bnd4, z_bnd5, z_bnd6, z_bnd7, z_bnd8, z_bnd9, z_bnd10, z_bnd11, z_bnd12, z_bnd13, z_bnd14, z_bnd15, z_bnd16, z_max, z_min, z_n31, z_shl, z_shr, z_us, z_div, z_mod, z_and, z_or, z_xor, if_true, if_false, Nat.le_refl]
    · unfold m_MD_tell
      simp (disch := omega) only [nm, z_lit, z_one, z_mone, z_neg1, z_neg2, z_pred, z_add, z_mul, z_sub, z_le, z_lt, z_eq, z_tn, z_chk, z_eqm, z_meq, z_lem, z_mle, z_ltm, z_mlt, z_eqq, z_qeq, z_leq, z_qle, z_ltq, z_qlt, z_m1m2, z_m2m1, z_m1m1, z_m2m2, z_bnd1, z_bnd2, z_bnd3, z_bnd4, z_bnd5, z_bnd6, z_bnd7, z_bnd8, z_bnd9, z_bnd10, z_bnd11, z_bnd12, z_bnd13, z_bnd14, z_bnd15, z_bnd16, z_max, z_min, z_n31, z_shl, z_shr, z_us, z_div, z_mod, z_and, z_or, z_xor, if_true, if_false]
/-- how both stand behind a piece -/
def jr (nF room lo : Nat) (cc cst css ca : Int32) (co : Nat → Int32) (mis mc ms ma : Int32) (mo : Nat → Int32) : Prop :=
  ∃ c, cc = nI c ∧ mc = nI c ∧ c ≤ room ∧ orel c co mo ∧ cst = ms ∧ ((css = m1 ∧ mis = nI 0 ∧ ∃ a, ca = nI a ∧ ma = nI a ∧ lo ≤ a ∧ a ≤ 8 * nF) ∨ (∃ k, k < 4 ∧ css = nI k ∧ mis = nI (k + 1)))
theorem jr_go {nF room lo c a : Nat} {s : Int32} {co mo : Nat → Int32} (hc : c ≤ room) (ho : orel c co mo) (h1 : lo ≤ a) (h2 : a ≤ 8 * nF) : jr nF room lo (nI c) s m1 (nI a) co (nI 0) (nI c) s (nI a) mo :=
  ⟨c, rfl, rfl, hc, ho, rfl, Or.inl ⟨rfl, rfl, a, rfl, rfl, h1, h2⟩⟩
theorem jr_end {nF room lo c : Nat} {s ca ma : Int32} {co mo : Nat → Int32} (k : Nat) (hk : k < 4) (hc : c ≤ room) (ho : orel c co mo) : jr nF room lo (nI c) s (nI k) ca co (nI (k + 1)) (nI c) s ma mo :=
  ⟨c, rfl, rfl, hc, ho, rfl, Or.inr ⟨k, hk, rfl, rfl⟩⟩
theorem jr_lo {nF room lo lo' : Nat} {cc cst css ca mis mc ms ma : Int32} {co mo : Nat → Int32} (h : lo' ≤ lo) : jr nF room lo cc cst css ca co mis mc ms ma mo → jr nF room lo' cc cst css ca co mis mc ms ma mo := by
  rintro ⟨c, h1, h2, h3, h4, h5, h6⟩
  refine ⟨c, h1, h2, h3, h4, h5, ?_⟩
  rcases h6 with ⟨x1, x2, a, x3, x4, x5, x6⟩ | x
  · exact Or.inl ⟨x1, x2, a, x3, x4, by omega, x6⟩
  · exact Or.inr x
theorem z_nm1 {k : Nat} (h : k < 2147483648) : (nI k = (-1 : Int32)) = False := z_eqm h
theorem l_stS (F room n k f : Nat) (bc ca cc : Int32) (C co : Nat → Int32) (s : Nat) (hs : s < 4) (hf : 0 < f) : ∃ v, L_Reader_readStored_60 F room (nI n) bc C f (nI k) cc (nI s) ca co = some (v, cc, nI s, ca, co) := by
  obtain ⟨f', rfl⟩ : ∃ f', f = f' + 1 := ⟨f - 1, by omega⟩
  unfold L_Reader_readStored_60 B_Reader_readStored_60
  by_cases h : nI n ≤ nI k
  · rw [if_pos h]; exact ⟨_, rfl⟩
  · rw [if_neg h]
    simp only [z_nm1 (show s < 2147483648 by omega), if_false]
    exact ⟨_, rfl⟩
theorem l_jrst (F n nF room : Nat) (cb : Nat → Nat) (C M : Nat → Int32) (s : Int32) (hF : 100000 ≤ F) (hr : fedr cb nF C M) (hn : n ≤ 70000) (hroom : room ≤ 2000) : ∀ (f g k c a : Nat) (o m : Nat → Int32), k ≤ n → n - k < f → n - k < g → c ≤ room → orel c o m → a ≤ 8 * nF → ∃ v cc css ca co rr v' mc ma mo, L_Reader_readStored_60 F room (nI n) (nI (8 * nF)) C f (nI k) (nI c) m1 (nI a) o = some (v, cc, css, ca, co) ∧ L_MD_readStored_65 F (nI n) M (nI nF) (nI room) g (nI k) (nI c) (nI a) m = some (rr, v', mc, ma, mo) ∧ jr nF room a cc s css ca co (rr.getD (nI 0)) mc s ma mo := by
  have hnF := hr.1
  intro f
  induction f with
  | zero => intros; omega
  | succ f ih =>
    intro g k c a o m hk hf hg hc ho ha
    obtain ⟨g', rfl⟩ : ∃ g', g = g' + 1 := ⟨g - 1, by omega⟩
    unfold L_Reader_readStored_60 B_Reader_readStored_60 L_MD_readStored_65 B_MD_readStored_65
    by_cases h : n ≤ k
    · have e1 : (nI n ≤ nI k) = True := by rw [z_le (by omega) (by omega)]; exact eq_true h
      simp only [e1, if_true]
      exact ⟨_, _, _, _, _, _, _, _, _, _, rfl, rfl, jr_go hc ho (Nat.le_refl _) ha⟩
    · have e1 : (nI n ≤ nI k) = False := by rw [z_le (by omega) (by omega)]; exact eq_false h
      have em : (m1 = (-1 : Int32)) = True := eq_true rfl
      simp only [e1, if_false, em, if_true]
      rw [show (8 : Int32) = nI 8 from rfl]
      by_cases h8 : 8 * nF < a + 8
      · obtain ⟨q1, q2⟩ := s_nobits F 8 nF a C hnF ha (by omega) h8
        rw [q1, q2]
        have e0 : (nI 0 = (0 : Int32)) = True := eq_true rfl
        simp only [z_bnd3, z_bnd1, em, if_true, e0, nm, z_one, z_add]
        obtain ⟨v, hv⟩ := l_stS F room n (k + 1) f (nI (8 * nF)) (nI a) (nI c) C o 0 (by omega) (by omega)
        exact ⟨_, _, _, _, _, _, _, _, _, _, hv, rfl, jr_end 0 (by omega) hc ho⟩
      · obtain ⟨q1, q2, q3⟩ := s_bits F 8 nF a cb C M hF hr (by omega) (by omega)
        have rl : rb cb a 8 < 256 := rb_lt cb a 8
        rw [q1, q2, q3]
        have e0 : (nI 1 = (0 : Int32)) = False := eq_false (by decide)
        have e2 : (nI (rb cb a 8) = (-1 : Int32)) = False := z_nm1 (by omega)
        simp only [z_bnd3, z_bnd2, z_bnd1, e2, e0, if_false, nm, z_one, z_add]
        rcases j_add F room c (rb cb a 8) o m hroom hc rl ho with ⟨h1, o', m', a1, a2, a3⟩ | ⟨a1, a2⟩
        · rw [a1, a2]
          have e3 : (nI 0 ≤ (0 : Int32)) = True := eq_true (by decide)
          simp only [z_bnd3, e3, if_true]
          obtain ⟨v, cc, css, ca, co, rr, v', mc, ma, mo, b1, b2, b3⟩ := ih g' (k + 1) (c + 1) (a + 8) o' m' (by omega) (by omega) (by omega) (by omega) a3 (by omega)
          exact ⟨v, cc, css, ca, co, rr, v', mc, ma, mo, b1, b2, jr_lo (by omega) b3⟩
        · rw [a1, a2]
          have e3 : (nI 4 ≤ (0 : Int32)) = False := eq_false (by decide)
          simp only [z_bnd3, e3, if_false]
          obtain ⟨v, hv⟩ := l_stS F room n (k + 1) f (nI (8 * nF)) (nI (a + 8)) (nI c) C o 3 (by omega) (by omega)
          exact ⟨_, _, _, _, _, _, _, _, _, _, hv, rfl, jr_end 3 (by omega) hc ho⟩
theorem x_comp {a b : Nat} (ha : a < 65536) (hb : b < 65536) : (a ^^^ b = 65535) ↔ (a + b = 65535) := by
  have key : ∀ x : Nat, x < 2 ^ 16 → (2 ^ 16 - 1) ^^^ x = 2 ^ 16 - 1 - x := fun x hx => by
    have := BitVec.toNat_not (x := BitVec.ofNat 16 x)
    have h2 : ~~~(BitVec.ofNat 16 x) = BitVec.allOnes 16 ^^^ BitVec.ofNat 16 x := by
      rw [BitVec.allOnes_xor]
    rw [h2, BitVec.toNat_xor, BitVec.toNat_allOnes, BitVec.toNat_ofNat, Nat.mod_eq_of_lt hx] at this
    exact this
  have k2 := key a ha
  constructor
  · intro h
    have e : b = 65535 ^^^ a := by rw [← h, Nat.xor_comm a b, Nat.xor_assoc, Nat.xor_self, Nat.xor_zero]
    have : (2 ^ 16 - 1) ^^^ a = 65535 ^^^ a := rfl
    omega
  · intro h
    have e : b = 65535 - a := by omega
    have : (2 ^ 16 - 1) ^^^ a = 65535 ^^^ a := rfl
    have e2 : b = 65535 ^^^ a := by omega
    rw [e2, Nat.xor_comm 65535 a, ← Nat.xor_assoc, Nat.xor_self, Nat.zero_xor]
theorem z_up8 {a : Nat} (h : a < 100000) : (nI a + nI 7) &&& (-8 : Int32) = nI ((a + 7) / 8 * 8) := by
  have e : (-8 : Int32) = nI 4294967288 := by decide
  rw [e, z_add, z_and]
  congr 1
  have h1 : a + 7 < 2 ^ 32 := by omega
  have h2 : (4294967288 : Nat) = (2 ^ 29 - 1) <<< 3 := by decide
  rw [h2]
  have e3 : (a + 7) = ((a + 7) / 8) <<< 3 ||| ((a + 7) % 8) := by
    rw [← Nat.shiftLeft_add_eq_or_of_lt (show (a + 7) % 8 < 2 ^ 3 from Nat.mod_lt _ (by omega)), Nat.shiftLeft_eq]; omega
  have key : ∀ x y : Nat, y < 8 → x < 2 ^ 29 → (x <<< 3 ||| y) &&& ((2 ^ 29 - 1) <<< 3) = x <<< 3 := fun x y hy hx => by
    rw [Nat.and_or_distrib_right, ← Nat.shiftLeft_and_distrib, Nat.and_two_pow_sub_one_eq_mod, Nat.mod_eq_of_lt hx]
    have : y &&& ((2 ^ 29 - 1) <<< 3) = 0 := by
      have hh : ∀ y : Fin 8, y.1 &&& ((2 ^ 29 - 1) <<< 3) = 0 := by decide
      exact hh ⟨y, hy⟩
    rw [this, Nat.or_zero]
  have e4 := key ((a + 7) / 8) ((a + 7) % 8) (Nat.mod_lt _ (by omega)) (by omega)
  rw [← e3] at e4
  rw [e4, Nat.shiftLeft_eq]
theorem j_rstored (F nF room at0 c : Nat) (cb : Nat → Nat) (C M o m : Nat → Int32) (s : Int32) (hF : 100000 ≤ F) (hr : fedr cb nF C M) (hroom : room ≤ 2000) (hc : c ≤ room) (ho : orel c o m) (ha : at0 ≤ 8 * nF) : ∃ cc cst css ca co mis mc ms ma mo, m_Reader_readStored F room (nI at0) (nI (8 * nF)) C o (nI c) m1 s = some (cc, cst, css, ca, co) ∧ m_MD_readStored F (nI at0) M (nI nF) m (nI c) (nI room) s = some (mis, mc, ms, ma, mo) ∧ jr nF room at0 cc cst css ca co mis mc ms ma mo := by
  have hnF := hr.1
  have eu : (nI at0 + 7) &&& (-8 : Int32) = nI ((at0 + 7) / 8 * 8) := z_up8 (by omega)
  have eu2 : (nI at0 + 7) / 8 * 8 = nI ((at0 + 7) / 8 * 8) := by
    show (nI at0 + nI 7) / nI 8 * nI 8 = _
    rw [z_add, z_div (by omega) (by omega), z_mul]
  unfold m_Reader_readStored m_MD_readStored
  simp only [nm]
  rw [eu, eu2]
  have hub : (at0 + 7) / 8 * 8 ≤ 8 * nF := by omega
  have hlo : at0 ≤ (at0 + 7) / 8 * 8 := by omega
  generalize (at0 + 7) / 8 * 8 = a at *
  rw [show (16 : Int32) = nI 16 from rfl, show (32 : Int32) = nI 32 from rfl]
  have em : (m1 = (-1 : Int32)) = True := eq_true rfl
  have n0 : nI 0 ≠ m1 := by decide
  by_cases h32 : 8 * nF < a + 32
  · obtain ⟨_, q2⟩ := s_nobits F 32 nF a C hnF hub (by omega) h32
    have e0 : (nI 0 = (0 : Int32)) = True := eq_true rfl
    rw [q2]
    simp only [z_bnd1, e0, if_true]
    by_cases h16 : 8 * nF < a + 16
    · obtain ⟨q1, _⟩ := s_nobits F 16 nF a C hnF hub (by omega) h16
      rw [q1]
      simp only [z_bnd3]
      rw [s_stopped F _ _ _ _ _ n0]
      simp only [z_bnd3, em, if_true]
      exact ⟨_, _, _, _, _, _, _, _, _, _, rfl, rfl, jr_end 0 (by omega) hc ho⟩
    · obtain ⟨q1, _⟩ := s_bits F 16 nF a cb C M hF hr (by omega) (by omega)
      obtain ⟨q4, _⟩ := s_nobits F 16 nF (a + 16) C hnF (by omega) (by omega) (by omega)
      have rl : rb cb a 16 < 65536 := rb_lt cb a 16
      rw [q1]
      simp only [z_bnd3]
      rw [q4]
      have e2 : (nI (rb cb a 16) = (-1 : Int32)) = False := z_nm1 (by omega)
      simp only [z_bnd3, em, if_true, e2, if_false]
      exact ⟨_, _, _, _, _, _, _, _, _, _, rfl, rfl, jr_end 0 (by omega) hc ho⟩
  · obtain ⟨q1, _, q3⟩ := s_bits F 16 nF a cb C M hF hr (by omega) (by omega)
    obtain ⟨q4, _, q6⟩ := s_bits F 16 nF (a + 16) cb C M hF hr (by omega) (by omega)
    have q2 : m_MD_has F (nI a) (nI nF) (nI 32) = some (nI 1) := by
      unfold m_MD_has
      simp (disch := omega) only [nm, z_lit, z_one, z_mone, z_neg1, z_neg2, z_pred, z_add, z_mul, z_sub, z_le, z_lt, z_eq, z_tn, z_chk, z_eqm, z_meq, z_lem, z_mle, z_ltm, z_mlt, z_eqq, z_qeq, z_leq, z_qle, z_ltq, z_qlt, z_m1m2, z_m2m1, z_m1m1, z_m2m2, z_bnd1, z_bnd2, z_bnd3, z_bnd4, z_bnd5, z_bnd6, z_bnd7, z_bnd8, z_bnd9, z_bnd10, z_bnd11, z_bnd12, z_bnd13, z_bnd14, z_bnd15, z_bnd16, z_max, z_min, z_n31, z_shl, z_shr, z_us, z_div, z_mod, z_and, z_or, z_xor, if_true, if_false, h32]
    have rl : rb cb a 16 < 65536 := rb_lt cb a 16
    have rl2 : rb cb (a + 16) 16 < 65536 := rb_lt cb (a + 16) 16
    have xc := x_comp rl rl2
    have e0 : (nI 1 = (0 : Int32)) = False := eq_false (by decide)
    rw [q1, q2, q3]
    simp only [z_bnd3, z_bnd2, z_bnd1, e0, if_false]
    rw [q4, q6]
    have e2 : (nI (rb cb a 16) = (-1 : Int32)) = False := z_nm1 (by omega)
    have e3 : (nI (rb cb (a + 16) 16) = (-1 : Int32)) = False := z_nm1 (by omega)
    generalize rb cb a 16 = n at *
    generalize rb cb (a + 16) 16 = n2 at *
    simp only [z_bnd3, z_bnd2, e2, e3, if_false, z_xor, z_add]
    rw [show (65535 : Int32) = nI 65535 from rfl]
    have x16 : n ^^^ n2 < 65536 := Nat.xor_lt_two_pow (n := 16) rl rl2
    by_cases cc : n + n2 = 65535
    · have d1 : (nI (n ^^^ n2) = nI 65535) = True := eq_true (by rw [xc.mpr cc])
      have d2 : (nI (n + n2) = nI 65535) = True := eq_true (by rw [cc])
      simp only [d1, d2, if_true, z_bnd2]
      have ea : a + 16 + 16 ≤ 8 * nF := by omega
      obtain ⟨v, cc, css, ca, co, rr, v', mc, ma, mo, b1, b2, b3⟩ := l_jrst F n nF room cb C M s hF hr (by omega) hroom F F 0 c (a + 16 + 16) o m (by omega) (by omega) (by omega) hc ho ea
      rw [show (0 : Int32) = nI 0 from rfl, b1, b2]
      simp only [z_bnd5]
      refine ⟨cc, s, css, ca, co, rr.getD (nI 0), mc, s, ma, mo, rfl, ?_, jr_lo (by omega) b3⟩
      cases rr <;> rfl
    · have d1 : (nI (n ^^^ n2) = nI 65535) = False := eq_false (by rw [z_eq (by omega) (by omega)]; exact fun h => cc (xc.mp h))
      have d2 : (nI (n + n2) = nI 65535) = False := eq_false (by rw [z_eq (by omega) (by omega)]; exact cc)
      simp only [d1, d2, if_false, m_Reader_breakAt, m_MD_broken, z_bnd2]
      obtain ⟨v, hv⟩ := l_stS F room n 0 F (nI (8 * nF)) (nI (a + 16 + 16)) (nI c) C o 2 (by omega) (by omega)
      rw [show (2 : Int32) = nI 2 from rfl, show (0 : Int32) = nI 0 from rfl, hv]
      exact ⟨_, _, _, _, _, _, _, _, _, _, rfl, rfl, jr_end 2 (by omega) hc ho⟩
