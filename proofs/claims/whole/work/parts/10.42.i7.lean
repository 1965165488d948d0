/-! the code of the lengths, read by both -/
theorem l_lcS (F f : Nat) (bc y1 v2 ca : Int32) (C len : Nat → Int32) (s : Nat) (hs : s < 4) (hf : 0 < f) : ∃ v, L_Reader_readLengthsCode_18 F bc C y1 f v2 (nI s) ca len = some (v, nI s, ca, len) := by
  obtain ⟨f', rfl⟩ : ∃ f', f = f' + 1 := ⟨f - 1, by omega⟩
  unfold L_Reader_readLengthsCode_18 B_Reader_readLengthsCode_18
  by_cases h : y1 ≤ v2
  · rw [if_pos h]; exact ⟨_, rfl⟩
  · rw [if_neg h]
    by_cases h2 : (19 : Int32) ≤ v2
    · rw [if_pos h2]; exact ⟨_, rfl⟩
    · rw [if_neg h2]
      simp only [z_nm1 (show s < 2147483648 by omega), if_false]
      exact ⟨_, rfl⟩
theorem ord_inj : ∀ j, j < 19 → ∀ k, k < 19 → tbn 4 j = tbn 4 k → j = k := by decide +kernel
theorem ord_sur : ∀ s, s < 19 → ∃ j, j < 19 ∧ tbn 4 j = s := by decide +kernel
theorem l_ms0 (F told nF : Nat) (M : Nat → Int32) (ht : told ≤ 19) : ∀ (g i a : Nat) (sl : Nat → Int32), told ≤ i → i ≤ 19 → 19 - i < g → ∃ sl', L_MD_readSets_108 F M (nI nF) (nI told) g (nI i) (nI a) sl = some (none, nI 19, nI a, sl') ∧ (∀ j, j < i → sl' (tbn 4 j) = sl (tbn 4 j)) ∧ (∀ j, i ≤ j → j < 19 → sl' (tbn 4 j) = nI 0) := by
  intro g
  induction g with
  | zero => intros; omega
  | succ g ih =>
    intro i a sl h1 h2 hg
    unfold L_MD_readSets_108 B_MD_readSets_108
    by_cases h : 19 ≤ i
    · have e : i = 19 := by omega
      subst e
      exact ⟨sl, by simp (disch := omega) only [nm, z_lit, z_one, z_mone, z_neg1, z_neg2, z_pred, z_add, z_mul, z_sub, z_le, z_lt, z_eq, z_tn, z_chk, z_eqm, z_meq, z_lem, z_mle, z_ltm, z_mlt, z_eqq, z_qeq, z_leq, z_qle, z_ltq, z_qlt, z_m1m2, z_m2m1, z_m1m1, z_m2m2, z_bnd1, z_bnd2, z_bnd3, z_bnd4, z_bnd5, z_bnd6, z_bnd7, z_bnd8, z_bnd9, z_bnd10, z_bnd11, z_bnd12, z_bnd13, z_bnd14, z_bnd15, z_bnd16, z_max, z_min, z_n31, z_shl, z_shr, z_us, z_div, z_mod, z_and, z_or, z_xor, if_true, if_false, Nat.le_refl], fun j _ => rfl, fun j h1 h2 => by omega⟩
    · have h3 : told ≤ i := h1
      have eo := s_order F i (by omega)
      have ob := (tb4 i (by omega)).2
      obtain ⟨sl', q1, q2, q3⟩ := ih (i + 1) a (upd sl (tbn 4 i) (nI 0)) (by omega) (by omega) (by omega)
      refine ⟨sl', ?_, fun j hj => ?_, fun j hj1 hj2 => ?_⟩
      · simp (disch := omega) only [nm, z_lit, z_one, z_mone, z_neg1, z_neg2, z_pred, z_add, z_mul, z_sub, z_le, z_lt, z_eq, z_tn, z_chk, z_eqm, z_meq, z_lem, z_mle, z_ltm, z_mlt, z_eqq, z_qeq, z_leq, z_qle, z_ltq, z_qlt, z_m1m2, z_m2m1, z_m1m1, z_m2m2, z_bnd1, z_bnd2, z_bnd3, z_bnd4, z_bnd5, z_bnd6, z_bnd7, z_bnd8, z_bnd9, z_bnd10, z_bnd11, z_bnd12, z_bnd13, z_bnd14, z_bnd15, z_bnd16, z_max, z_min, z_n31, z_shl, z_shr, z_us, z_div, z_mod, z_and, z_or, z_xor, if_true, if_false, h, h3, eo]
        exact q1
      · rw [q2 j (by omega), z_updN (fun e => by have := ord_inj j (by omega) i (by omega) e; omega)]
      · by_cases e : j = i
        · subst e; rw [q2 j (by omega), z_updE]
        · exact q3 j (by omega) hj2
def srel (i : Nat) (len sl : Nat → Int32) : Prop := (∀ j, j < i → ∃ v, v ≤ 7 ∧ len (tbn 4 j) = nI v ∧ sl (tbn 4 j) = nI v) ∧ (∀ j, i ≤ j → j < 19 → len (tbn 4 j) = nI 0)
def lco (nF a0 : Nat) (css ca : Int32) (len : Nat → Int32) (rr : Option Int32) (ma : Int32) (sl : Nat → Int32) : Prop := (css = nI 0 ∧ rr = some (nI 1)) ∨ (css = m1 ∧ rr = none ∧ (∃ a, ca = nI a ∧ ma = nI a ∧ a0 ≤ a ∧ a ≤ 8 * nF) ∧ srel 19 len sl)
theorem l_jlc (F told nF : Nat) (cb : Nat → Nat) (C M : Nat → Int32) (hF : 100000 ≤ F) (hr : fedr cb nF C M) (ht : told ≤ 19) : ∀ (f g i a : Nat) (len sl : Nat → Int32), i ≤ told → told - i < f → 19 - i < g → a ≤ 8 * nF → srel i len sl → ∃ v css ca len' rr v' ma sl', L_Reader_readLengthsCode_18 F (nI (8 * nF)) C (nI told) f (nI i) m1 (nI a) len = some (v, css, ca, len') ∧ L_MD_readSets_108 F M (nI nF) (nI told) g (nI i) (nI a) sl = some (rr, v', ma, sl') ∧ lco nF a css ca len' rr ma sl' := by
  have hnF := hr.1
  intro f
  induction f with
  | zero => intros; omega
  | succ f ih =>
    intro g i a len sl hi hf hg ha I
    by_cases h : told ≤ i
    · have e : i = told := by omega
      obtain ⟨sl', q1, q2, q3⟩ := l_ms0 F told nF M ht g i a sl h (by omega) hg
      refine ⟨nI i, m1, nI a, len, none, nI 19, nI a, sl', ?_, q1, Or.inr ⟨rfl, rfl, ⟨a, rfl, rfl, Nat.le_refl _, ha⟩, fun j hj => ?_, fun j h1 h2 => by omega⟩⟩
      · unfold L_Reader_readLengthsCode_18 B_Reader_readLengthsCode_18
        rw [if_pos (by rw [z_le (by omega) (by omega)]; exact h)]
      · by_cases c : j < i
        · obtain ⟨v, v1, v2, v3⟩ := I.1 j c
          exact ⟨v, v1, v2, by rw [q2 j c]; exact v3⟩
        · exact ⟨0, by omega, I.2 j (by omega) hj, q3 j (by omega) hj⟩
    · obtain ⟨g', rfl⟩ : ∃ g', g = g' + 1 := ⟨g - 1, by omega⟩
      unfold L_Reader_readLengthsCode_18 B_Reader_readLengthsCode_18 L_MD_readSets_108 B_MD_readSets_108
      have e1 : (nI told ≤ nI i) = False := eq_false (by rw [z_le (by omega) (by omega)]; exact h)
      have e2 : ((19 : Int32) ≤ nI i) = False := eq_false (by show ¬ (nI 19 ≤ nI i); rw [z_le (by omega) (by omega)]; omega)
      have em : (m1 = (-1 : Int32)) = True := eq_true rfl
      have e00 : (nI 0 = (0 : Int32)) = True := eq_true rfl
      have e10 : (nI 1 = (0 : Int32)) = False := eq_false (by decide)
      simp only [e1, e2, em, if_false, if_true]
      rw [show (3 : Int32) = nI 3 from rfl]
      by_cases h3 : 8 * nF < a + 3
      · obtain ⟨q1, q2⟩ := s_nobits F 3 nF a C hnF ha (by omega) h3
        rw [q1, q2]
        simp only [z_bnd3, z_bnd1, em, e00, if_true, nm, z_one, z_add]
        obtain ⟨v, hv⟩ := l_lcS F f (nI (8 * nF)) (nI told) (nI (i + 1)) (nI a) C len 0 (by omega) (by omega)
        exact ⟨_, _, _, _, _, _, _, _, hv, rfl, Or.inl ⟨rfl, rfl⟩⟩
      · obtain ⟨q1, q2, q3⟩ := s_bits F 3 nF a cb C M hF hr (by omega) (by omega)
        have rl : rb cb a 3 < 8 := rb_lt cb a 3
        have eo := s_order F i (by omega)
        obtain ⟨t4, ob⟩ := tb4 i (by omega)
        have e3 : (nI (rb cb a 3) = (-1 : Int32)) = False := z_nm1 (by omega)
        have ckt : ∀ {α : Type} (x : Option α), chk (inb (nI i) (tn 4)) x = x := fun x => z_chk (by omega) (by show i < 19; omega)
        rw [q1, q2, q3, eo]
        simp only [z_bnd3, z_bnd2, z_bnd1, e3, e10, if_false, nm, z_one, z_add, ckt, z_tn (show i < 2147483648 by omega), t4, z_tn (show tbn 4 i < 2147483648 by omega), z_chk (show tbn 4 i < 2147483648 by omega) (show tbn 4 i < 318 by omega), z_chk (show tbn 4 i < 2147483648 by omega) (show tbn 4 i < 19 by omega)]
        obtain ⟨v, css, ca, len', rr, v', ma, sl', b1, b2, b3⟩ := ih g' (i + 1) (a + 3) (upd len (tbn 4 i) (nI (rb cb a 3))) (upd sl (tbn 4 i) (nI (rb cb a 3))) (by omega) (by omega) (by omega) (by omega) ⟨fun j hj => by
          by_cases e : j = i
          · subst e; exact ⟨rb cb a 3, by omega, z_updE, z_updE⟩
          · obtain ⟨v, v1, v2, v3⟩ := I.1 j (by omega)
            have ne : tbn 4 j ≠ tbn 4 i := fun x => e (ord_inj j (by omega) i (by omega) x)
            exact ⟨v, v1, by rw [z_updN ne]; exact v2, by rw [z_updN ne]; exact v3⟩, fun j h1 h2 => by
          have ne : tbn 4 j ≠ tbn 4 i := fun x => by have := ord_inj j h2 i (by omega) x; omega
          rw [z_updN ne]; exact I.2 j (by omega) h2⟩
        refine ⟨v, css, ca, len', rr, v', ma, sl', b1, b2, ?_⟩
        rcases b3 with b3 | ⟨x1, x2, ⟨a', x3, x4, x5, x6⟩, x7⟩
        · exact Or.inl b3
        · exact Or.inr ⟨x1, x2, ⟨a', x3, x4, by omega, x6⟩, x7⟩
/-- what both read has lengths up to 15 -/
def rrel (n : Nat) (len row : Nat → Int32) : Prop := ∀ j, j < n → ∃ v, v ≤ 15 ∧ len j = nI v ∧ row j = nI v
theorem srel_rrel {len sl : Nat → Int32} (h : srel 19 len sl) : rrel 19 len sl := fun s hs => by
  obtain ⟨j, h1, h2⟩ := ord_sur s hs
  obtain ⟨v, v1, v2, v3⟩ := h.1 j h1
  rw [h2] at v2 v3
  exact ⟨v, by omega, v2, v3⟩
def tn_ (p : Nat → Int32) (k : Nat) : Nat := (p k).toNatClampNeg
theorem rrel_L {n : Nat} {len row : Nat → Int32} (h : rrel n len row) : ∀ k, k < n → (len k = nI (tn_ len k) ∧ row k = nI (tn_ len k) ∧ tn_ len k ≤ 15) := fun k hk => by
  obtain ⟨v, v1, v2, v3⟩ := h k hk
  have e : tn_ len k = v := by unfold tn_; rw [v2, z_tn (by omega)]
  rw [e]; exact ⟨v2, v3, v1⟩
