/-! symbols, found by both -/
theorem nl_rank (L : Nat → Nat) (m : Nat) : ∀ n r, r < nl L m n → ∃ s, s < n ∧ L s = m ∧ nl L m s = r := by
  intro n
  induction n with
  | zero => intro r h; exact absurd h (Nat.not_lt_zero _)
  | succ n ih =>
    intro r h
    rw [nl] at h
    by_cases c : r < nl L m n
    · obtain ⟨s, h1, h2⟩ := ih r c; exact ⟨s, by omega, h2⟩
    · by_cases c2 : L n = m
      · rw [if_pos c2] at h; exact ⟨n, by omega, c2, by omega⟩
      · rw [if_neg c2] at h; omega
theorem nl_inj (L : Nat → Nat) (m : Nat) {a b : Nat} (ha : L a = m) (hb : L b = m) (h : nl L m a = nl L m b) : a = b := by
  have key : ∀ a b : Nat, a < b → L a = m → nl L m a < nl L m b := fun a b hab hLa => by
    have : ∀ i, a < i → nl L m a < nl L m i := by
      intro i
      induction i with
      | zero => intro h; omega
      | succ i ih =>
        intro h
        rw [nl]
        by_cases e : a = i
        · rw [← e, if_pos hLa]; omega
        · have := ih (by omega); omega
    exact this b hab
  rcases Nat.lt_trichotomy a b with r | r | r
  · have := key a b r ha; omega
  · exact r
  · have := key b a r hb; omega
theorem nl_zero {L : Nat → Nat} {m n : Nat} (h : nl L m n = 0) : ∀ k, k < n → L k ≠ m := by
  induction n with
  | zero => intro k hk; omega
  | succ n ih =>
    rw [nl] at h
    intro k hk e
    by_cases c : k = n
    · rw [← c, if_pos e] at h; omega
    · exact ih (by omega) k (by omega) e
theorem lgm_max (L : Nat → Nat) (n : Nat) : ∀ m, (∀ k, k < n → L k ≤ m → L k ≤ lgm L n m) ∧ (lgm L n m = 0 ∨ ∃ k, k < n ∧ L k = lgm L n m) ∧ lgm L n m ≤ m := by
  intro m
  induction m with
  | zero => exact ⟨fun k _ h => h, Or.inl rfl, Nat.le_refl _⟩
  | succ m ih =>
    rw [lgm]
    by_cases c : nl L (m + 1) n = 0
    · rw [if_pos c]
      refine ⟨fun k hk h => ih.1 k hk ?_, ih.2.1, by have := ih.2.2; omega⟩
      have := nl_zero c k hk
      omega
    · rw [if_neg c]
      obtain ⟨s, h1, h2, _⟩ := nl_rank L (m + 1) n 0 (by omega)
      exact ⟨fun k _ h => h, Or.inr ⟨s, h1, h2⟩, Nat.le_refl _⟩
/-- what the next code tells: none (bits are wanted), no symbol, or one -/
def fnx (L : Nat → Nat) (n : Nat) (cb : Nat → Nat) (nF at_ lg : Nat) : Nat → Nat → Nat → Option (Option Nat)
  | 0, _, _ => some none
  | f + 1, b, code => if lg < b then some none else if 8 * nF < at_ + b then none else
      if 2 * code + bat cb (at_ + b - 1) < cs L n b + nl L b n ∧ cs L n b ≤ 2 * code + bat cb (at_ + b - 1) then some (some (2 * code + bat cb (at_ + b - 1))) else fnx L n cb nF at_ lg f (b + 1) (2 * code + bat cb (at_ + b - 1))
def enb (L : Nat → Nat) (n b : Nat) : Nat := if b = 1 then 0 else cs L n (b - 1) + nl L (b - 1) n
theorem enb_2 (L : Nat → Nat) (n b : Nat) (hb : 1 ≤ b) : 2 * enb L n b = cs L n b := by
  unfold enb
  by_cases c : b = 1
  · rw [if_pos c, c]; rfl
  · rw [if_neg c]
    obtain ⟨w, rfl⟩ : ∃ w, b = w + 2 := ⟨b - 2, by omega⟩
    have ew : w + 2 - 1 = w + 1 := by omega
    rw [ew, cs]
/-- three ways to end -/
def fout (L : Nat → Nat) (n nF at_ : Nat) (rc sc ac rm am : Int32) : Prop := (rc = m1 ∧ sc = nI 0 ∧ rm = m1) ∨ (rc = m2 ∧ sc = m1 ∧ rm = m2 ∧ ∃ a, ac = nI a ∧ a ≤ 8 * nF) ∨ (∃ s, s < n ∧ 0 < L s ∧ rc = nI s ∧ sc = m1 ∧ ac = nI (at_ + L s) ∧ rm = nI s ∧ am = nI (at_ + L s) ∧ at_ + L s ≤ 8 * nF)
theorem l_ms101 (F N P nM n b code : Nat) (p1 p2 : Nat → Int32) (L LM : Nat → Nat) (at_ : Int32) (hN : nM ≤ N) (hP : nM ≤ P) (hnM : nM ≤ 400) (hn : n ≤ nM) (hb : 1 ≤ b) (hb2 : b ≤ 15) (hc : code < 100000) (h1 : ∀ k, k < nM → p1 k = nI (LM k) ∧ LM k ≤ 15) (h2 : ∀ k, k < n → LM k = L k) (h3 : ∀ k, n ≤ k → k < nM → LM k = 0) (h4 : ∀ k, k < n → 0 < L k → p2 k = nI (cde L n k)) (hcB : ∀ k, cs L n k < 50000000 ∨ 16 < k) : ∀ (f k : Nat), k ≤ nM → nM - k < f → (∀ s, s < k → s < n → L s = b → cde L n s ≠ code) → (∃ s, s < n ∧ L s = b ∧ cde L n s = code ∧ L_MD_symbol_101 F N P p1 p2 (nI b) (nI nM) (nI code) f (nI k) at_ = some (some (nI s), nI s, at_ + nI b)) ∨ ((∀ s, s < n → L s = b → cde L n s ≠ code) ∧ L_MD_symbol_101 F N P p1 p2 (nI b) (nI nM) (nI code) f (nI k) at_ = some (none, nI nM, at_)) := by
  intro f
  induction f with
  | zero => intros; omega
  | succ f ih =>
    intro k hk hf I
    unfold L_MD_symbol_101 B_MD_symbol_101
    by_cases h : nM ≤ k
    · have e : k = nM := by omega
      subst e
      right
      exact ⟨fun s hs hL => I s (by omega) hs hL, by simp (disch := omega) only [nm, z_lit, z_one, z_mone, z_neg1, z_neg2, z_pred, z_add, z_mul, z_sub, z_le, z_lt, z_eq, z_tn, z_chk, z_eqm, z_meq, z_lem, z_mle, z_ltm, z_mlt, z_eqq, z_qeq, z_leq, z_qle, z_ltq, z_qlt, z_m1m2, z_m2m1, z_m1m1, z_m2m2, z_bnd1, z_bnd2, z_bnd3, z_bnd4, z_bnd5, z_bnd6, z_bnd7, z_bnd8, z_bnd9, z_bnd10, z_bnd11, z_bnd12, z_bnd13, z_bnd14, z_bnd15, z_bnd16, z_max, z_min, z_n31, z_shl, z_shr, z_us, z_div, z_mod, z_and, z_or, z_xor, if_true, if_false, Nat.le_refl]⟩
    · obtain ⟨e1, b1⟩ := h1 k (by omega)
      by_cases c : LM k = b
      · have hkn : k < n := by
          rcases Nat.lt_or_ge k n with q | q
          · exact q
          · have := h3 k q (by omega); omega
        have hLk : L k = b := by rw [← h2 k hkn]; exact c
        have e2 := h4 k hkn (by omega)
        have bc : cde L n k < 60000000 := by
          unfold cde
          have q1 := nl_le L (L k) k
          rcases hcB (L k) with q | q <;> omega
        by_cases c2 : cde L n k = code
        · left
          refine ⟨k, hkn, hLk, c2, ?_⟩
          rw [c2] at e2
          rw [c] at e1
          simp (disch := omega) only [nm, z_lit, z_one, z_mone, z_neg1, z_neg2, z_pred, z_add, z_mul, z_sub, z_le, z_lt, z_eq, z_tn, z_chk, z_eqm, z_meq, z_lem, z_mle, z_ltm, z_mlt, z_eqq, z_qeq, z_leq, z_qle, z_ltq, z_qlt, z_m1m2, z_m2m1, z_m1m1, z_m2m2, z_bnd1, z_bnd2, z_bnd3, z_bnd4, z_bnd5, z_bnd6, z_bnd7, z_bnd8, z_bnd9, z_bnd10, z_bnd11, z_bnd12, z_bnd13, z_bnd14, z_bnd15, z_bnd16, z_max, z_min, z_n31, z_shl, z_shr, z_us, z_div, z_mod, z_and, z_or, z_xor, if_true, if_false, h, e1, e2]
        · have := ih (k + 1) (by omega) (by omega) (fun s hs hsn hL => by
            by_cases e : s = k
            · rw [e]; exact c2
            · exact I s (by omega) hsn hL)
          rw [c] at e1
          simp (disch := omega) only [nm, z_lit, z_one, z_mone, z_neg1, z_neg2, z_pred, z_add, z_mul, z_sub, z_le, z_lt, z_eq, z_tn, z_chk, z_eqm, z_meq, z_lem, z_mle, z_ltm, z_mlt, z_eqq, z_qeq, z_leq, z_qle, z_ltq, z_qlt, z_m1m2, z_m2m1, z_m1m1, z_m2m2, z_bnd1, z_bnd2, z_bnd3, z_bnd4, z_bnd5, z_bnd6, z_bnd7, z_bnd8, z_bnd9, z_bnd10, z_bnd11, z_bnd12, z_bnd13, z_bnd14, z_bnd15, z_bnd16, z_max, z_min, z_n31, z_shl, z_shr, z_us, z_div, z_mod, z_and, z_or, z_xor, if_true, if_false, h, e1, e2, c2]
          exact this
      · have := ih (k + 1) (by omega) (by omega) (fun s hs hsn hL => by
          by_cases e : s = k
          · exact absurd (by rw [← e, h2 s hsn]; exact hL) c
          · exact I s (by omega) hsn hL)
        simp (disch := omega) only [nm, z_lit, z_one, z_mone, z_neg1, z_neg2, z_pred, z_add, z_mul, z_sub, z_le, z_lt, z_eq, z_tn, z_chk, z_eqm, z_meq, z_lem, z_mle, z_ltm, z_mlt, z_eqq, z_qeq, z_leq, z_qle, z_ltq, z_qlt, z_m1m2, z_m2m1, z_m1m1, z_m2m2, z_bnd1, z_bnd2, z_bnd3, z_bnd4, z_bnd5, z_bnd6, z_bnd7, z_bnd8, z_bnd9, z_bnd10, z_bnd11, z_bnd12, z_bnd13, z_bnd14, z_bnd15, z_bnd16, z_max, z_min, z_n31, z_shl, z_shr, z_us, z_div, z_mod, z_and, z_or, z_xor, if_true, if_false, h, e1, c]
        exact this
theorem l_ms6 (F N nM : Nat) (p1 : Nat → Int32) (LM : Nat → Nat) (hN : nM ≤ N) (hnM : nM ≤ 400) (h1 : ∀ k, k < nM → p1 k = nI (LM k) ∧ LM k ≤ 15) : ∀ (f k v : Nat), k ≤ nM → nM - k < f → v ≤ 15 → ∃ w, L_MD_symbol_6 F N p1 (nI nM) f (nI v) (nI k) = some (nI w, nI nM) ∧ w ≤ 15 ∧ v ≤ w ∧ (∀ j, k ≤ j → j < nM → LM j ≤ w) ∧ (w = v ∨ ∃ j, k ≤ j ∧ j < nM ∧ LM j = w) := by
  intro f
  induction f with
  | zero => intros; omega
  | succ f ih =>
    intro k v hk hf hv
    unfold L_MD_symbol_6 B_MD_symbol_6
    by_cases h : nM ≤ k
    · have e : k = nM := by omega
      subst e
      exact ⟨v, by simp (disch := omega) only [nm, z_lit, z_one, z_mone, z_neg1, z_neg2, z_pred, z_add, z_mul, z_sub, z_le, z_lt, z_eq, z_tn, z_chk, z_eqm, z_meq, z_lem, z_mle, z_ltm, z_mlt, z_eqq, z_qeq, z_leq, z_qle, z_ltq, z_qlt, z_m1m2, z_m2m1, z_m1m1, z_m2m2, z_bnd1, z_bnd2, z_bnd3, z_bnd4, z_bnd5, z_bnd6, z_bnd7, z_bnd8, z_bnd9, z_bnd10, z_bnd11, z_bnd12, z_bnd13, z_bnd14, z_bnd15, z_bnd16, z_max, z_min, z_n31, z_shl, z_shr, z_us, z_div, z_mod, z_and, z_or, z_xor, if_true, if_false, Nat.le_refl], hv, Nat.le_refl _, fun j h1 h2 => by omega, Or.inl rfl⟩
    · obtain ⟨e1, b1⟩ := h1 k (by omega)
      have fin : ∀ v', v' ≤ 15 → v ≤ v' → LM k ≤ v' → (v' = v ∨ v' = LM k) → ∃ w, L_MD_symbol_6 F N p1 (nI nM) f (nI v') (nI (k + 1)) = some (nI w, nI nM) ∧ w ≤ 15 ∧ v ≤ w ∧ (∀ j, k ≤ j → j < nM → LM j ≤ w) ∧ (w = v ∨ ∃ j, k ≤ j ∧ j < nM ∧ LM j = w) := fun v' q1 q2 q3 q4 => by
        obtain ⟨w, a1, a2, a3, a4, a5⟩ := ih (k + 1) v' (by omega) (by omega) q1
        refine ⟨w, a1, a2, by omega, fun j h1 h2 => ?_, ?_⟩
        · by_cases e : j = k
          · rw [e]; omega
          · exact a4 j (by omega) h2
        · rcases a5 with a5 | ⟨j, a5, a6, a7⟩
          · rcases q4 with q4 | q4
            · exact Or.inl (by omega)
            · exact Or.inr ⟨k, by omega, by omega, by omega⟩
          · exact Or.inr ⟨j, by omega, a6, a7⟩
      by_cases c : LM k ≤ v
      · simp (disch := omega) only [nm, z_lit, z_one, z_mone, z_neg1, z_neg2, z_pred, z_add, z_mul, z_sub, z_le, z_lt, z_eq, z_tn, z_chk, z_eqm, z_meq, z_lem, z_mle, z_ltm, z_mlt, z_eqq, z_qeq, z_leq, z_qle, z_ltq, z_qlt, z_m1m2, z_m2m1, z_m1m1, z_m2m2, z_bnd1, z_bnd2, z_bnd3, z_bnd4, z_bnd5, z_bnd6, z_bnd7, z_bnd8, z_bnd9, z_bnd10, z_bnd11, z_bnd12, z_bnd13, z_bnd14, z_bnd15, z_bnd16, z_max, z_min, z_n31, z_shl, z_shr, z_us, z_div, z_mod, z_and, z_or, z_xor, if_true, if_false, h, e1, c]
        exact fin v hv (Nat.le_refl _) c (Or.inl rfl)
      · simp (disch := omega) only [nm, z_lit, z_one, z_mone, z_neg1, z_neg2, z_pred, z_add, z_mul, z_sub, z_le, z_lt, z_eq, z_tn, z_chk, z_eqm, z_meq, z_lem, z_mle, z_ltm, z_mlt, z_eqq, z_qeq, z_leq, z_qle, z_ltq, z_qlt, z_m1m2, z_m2m1, z_m1m1, z_m2m2, z_bnd1, z_bnd2, z_bnd3, z_bnd4, z_bnd5, z_bnd6, z_bnd7, z_bnd8, z_bnd9, z_bnd10, z_bnd11, z_bnd12, z_bnd13, z_bnd14, z_bnd15, z_bnd16, z_max, z_min, z_n31, z_shl, z_shr, z_us, z_div, z_mod, z_and, z_or, z_xor, if_true, if_false, h, e1, c]
        exact fin (LM k) b1 (by omega) (Nat.le_refl _) (Or.inr rfl)
theorem c_fstep (F Nt n nF at0 b code : Nat) (cb : Nat → Nat) (C M per sy : Nat → Int32) (L : Nat → Nat) (rec : Int32 → Int32 → Int32 → Int32 → Int32 → Int32 → Option ((Option Int32) × Int32 × Int32 × Int32 × Int32 × Int32 × Int32)) (hF : 100000 ≤ F) (hr : fedr cb nF C M) (hn3 : n ≤ 300) (hNt : n ≤ Nt) (hNt2 : Nt ≤ 400) (CS : cset L n (nI (lgm L n 15)) per sy) (hb : 1 ≤ b) (hb2 : b ≤ 15) (hat : at0 + b ≤ 8 * nF) (hlg : ¬ (lgm L n 15 < b)) (hcode : code < 2 ^ (b - 1)) (hen : enb L n b ≤ code) : cs L n b ≤ 2 * code + bat cb (at0 + b - 1) ∧ 2 * code + bat cb (at0 + b - 1) < 70000 ∧ ((nl L b n ≤ 2 * code + bat cb (at0 + b - 1) - cs L n b ∧ B_Reader_findSymbol_10 F Nt (nI (lgm L n 15)) per sy (nI (8 * nF)) C rec (nI code) (nI (enb L n b)) (nI (off L n b)) (nI b) m1 (nI (at0 + (b - 1))) = rec (nI (2 * code + bat cb (at0 + b - 1))) (nI (enb L n (b + 1))) (nI (off L n (b + 1))) (nI (b + 1)) m1 (nI (at0 + (b + 1 - 1)))) ∨ (2 * code + bat cb (at0 + b - 1) - cs L n b < nl L b n ∧ ∃ c1 c2 c3 c4, B_Reader_findSymbol_10 F Nt (nI (lgm L n 15)) per sy (nI (8 * nF)) C rec (nI code) (nI (enb L n b)) (nI (off L n b)) (nI b) m1 (nI (at0 + (b - 1))) = some (some (sy (off L n b + (2 * code + bat cb (at0 + b - 1) - cs L n b))), c1, c2, c3, c4, m1, nI (at0 + b)))) := by
  have hnF := hr.1
  have lg15 := (lgm_max L n 15).2.2
  obtain ⟨_, cp_, csy⟩ := CS
  obtain ⟨q1, _, _⟩ := s_bits F 1 nF (at0 + (b - 1)) cb C M hF hr (by omega) (by omega)
  have erb : rb cb (at0 + (b - 1)) 1 = bat cb (at0 + b - 1) := by
    show 0 ||| bat cb (at0 + (b - 1) + 0) <<< 0 = _
    rw [Nat.zero_or, Nat.shiftLeft_zero, Nat.add_zero]
    congr 1; omega
  rw [erb] at q1
  have ea : at0 + (b - 1) + 1 = at0 + (b + 1 - 1) := by omega
  have ea2 : at0 + (b + 1 - 1) = at0 + b := by omega
  rw [ea] at q1
  have bl := bat_le cb (at0 + b - 1)
  have pB : 2 ^ (b - 1) ≤ 2 ^ 15 := Nat.pow_le_pow_right (by omega) (by omega)
  have p15 : 2 ^ 15 = 32768 := by decide
  have e2n := enb_2 L n b hb
  have offb := off_le L n b
  have offB : off L n b ≤ 16 * 300 := Nat.le_trans offb (Nat.mul_le_mul (by omega) hn3)
  have nlB := nl_le L b n
  have eper := cp_ b (by omega)
  rw [if_neg (by omega)] at eper
  have hY : 2 * code + bat cb (at0 + b - 1) < 70000 := by omega
  have hcs : cs L n b ≤ 2 * code + bat cb (at0 + b - 1) := by omega
  have een : enb L n (b + 1) = cs L n b + nl L b n := by unfold enb; rw [if_neg (by omega), Nat.add_sub_cancel]
  have eof : off L n (b + 1) = off L n b + nl L b n := by rw [off, if_neg (by omega)]
  have offN : off L n b + nl L b n ≤ n := by
    have := nl_sum L b n
    rw [← off_eq, eof] at this
    exact this
  have n1 : (nI (lgm L n 15) < nI b) = False := by rw [z_lt (by omega) (by omega)]; exact eq_false hlg
  have n2 : (nI (bat cb (at0 + b - 1)) = m1) = False := z_eqm (by omega)
  refine ⟨hcs, hY, ?_⟩
  have ecl : nI 2 * nI code + nI (bat cb (at0 + b - 1)) = nI (2 * code + bat cb (at0 + b - 1)) := by rw [z_mul, z_add]
  generalize 2 * code + bat cb (at0 + b - 1) = Y at *
  have ecs : nI 2 * nI (enb L n b) = nI (cs L n b) := by rw [z_mul, e2n]
  have ey3 : nI (off L n b) + nI Y - nI (cs L n b) = nI (off L n b + (Y - cs L n b)) := by rw [z_add, z_sub (by omega)]; congr 1; omega
  have ey4 : nI Y - nI (cs L n b) = nI (Y - cs L n b) := z_sub hcs
  unfold B_Reader_findSymbol_10
  simp only [z_lit, z_neg1, n1, if_false, q1, z_bnd3, n2, nm, ecl, ecs, ey3, ey4, z_chk (show b < 2147483648 by omega) (show b < 16 by omega), z_tn (show b < 2147483648 by omega), eper]
  by_cases c : nl L b n ≤ Y - cs L n b
  · left
    have c1 : (nI (nl L b n) ≤ nI (Y - cs L n b)) = True := by rw [z_le (by omega) (by omega)]; exact eq_true c
    refine ⟨c, ?_⟩
    simp only [c1, if_true, z_add, z_one]
    rw [een, eof]
  · right
    have c1 : (nI (nl L b n) ≤ nI (Y - cs L n b)) = False := by rw [z_le (by omega) (by omega)]; exact eq_false c
    have c2 : (nI (off L n b + (Y - cs L n b)) < nI 0) = False := by rw [z_lt (by omega) (by omega)]; exact eq_false (by omega)
    have c3 : (nI Nt ≤ nI (off L n b + (Y - cs L n b))) = False := by rw [z_le (by omega) (by omega)]; exact eq_false (by omega)
    refine ⟨by omega, nI Y, nI (cs L n b), nI (off L n b), nI b, ?_⟩
    simp only [c1, c2, c3, if_false, z_chk (show off L n b + (Y - cs L n b) < 2147483648 by omega) (show off L n b + (Y - cs L n b) < Nt by omega), z_tn (show off L n b + (Y - cs L n b) < 2147483648 by omega)]
    rw [ea2]
theorem m_fstep (F N P nM n nF at0 b code : Nat) (cb : Nat → Nat) (C M p1 p2 : Nat → Int32) (L LM : Nat → Nat) (lg : Int32) (rec : Int32 → Int32 → Int32 → Option ((Option Int32) × Int32 × Int32 × Int32)) (hF : 100000 ≤ F) (hr : fedr cb nF C M) (hN : nM ≤ N) (hP : nM ≤ P) (hnM : nM ≤ 400) (hn : n ≤ nM) (hn3 : n ≤ 300) (h1 : ∀ k, k < nM → p1 k = nI (LM k) ∧ LM k ≤ 15) (h2 : ∀ k, k < n → LM k = L k) (h3 : ∀ k, n ≤ k → k < nM → LM k = 0) (h4 : ∀ k, k < n → 0 < L k → p2 k = nI (cde L n k)) (hb : 1 ≤ b) (hb2 : b ≤ 15) (hat : at0 + b ≤ 8 * nF) (hlg : (lg < nI b) = False) (hY : 2 * code + bat cb (at0 + b - 1) < 70000) : (∃ s, s < n ∧ L s = b ∧ cde L n s = 2 * code + bat cb (at0 + b - 1) ∧ ∃ d1 d2, B_MD_symbol_44 F N P p1 p2 M (nI nF) lg (nI nM) rec (nI code) (nI b) (nI at0) = some (some (nI s), d1, d2, nI (at0 + b))) ∨ ((∀ s, s < n → L s = b → cde L n s ≠ 2 * code + bat cb (at0 + b - 1)) ∧ B_MD_symbol_44 F N P p1 p2 M (nI nF) lg (nI nM) rec (nI code) (nI b) (nI at0) = rec (nI (2 * code + bat cb (at0 + b - 1))) (nI (b + 1)) (nI at0)) := by
  have hnF := hr.1
  obtain ⟨_, q2, _⟩ := s_bits F b nF at0 cb C M hF hr (by omega) hat
  obtain ⟨eM, bM⟩ : M ((at0 + b - 1) / 8) = nI (cb ((at0 + b - 1) / 8)) ∧ cb ((at0 + b - 1) / 8) < 256 := ⟨(hr.2 _ (by omega)).2.1, (hr.2 _ (by omega)).2.2⟩
  have em8 : at0 + b - 1 - (at0 + b - 1) / 8 * 8 = (at0 + b - 1) % 8 := by omega
  have k8 : (at0 + b - 1) % 8 < 8 := Nat.mod_lt _ (by omega)
  have ebt : (cb ((at0 + b - 1) / 8) >>> ((at0 + b - 1) % 8)) &&& 1 = bat cb (at0 + b - 1) := rfl
  have bl := bat_le cb (at0 + b - 1)
  have scan := l_ms101 F N P nM n b (2 * code + bat cb (at0 + b - 1)) p1 p2 L LM (nI at0) hN hP hnM hn hb hb2 (by omega) h1 h2 h3 h4 (fun k => by
    rcases Nat.lt_or_ge 16 k with q | q
    · exact Or.inr q
    · exact Or.inl (cs_lt L n hn3 k q)) F 0 (by omega) (by omega) (fun s hs => by omega)
  have n10 : (nI 1 = nI 0) = False := eq_false (by decide)
  have epl : nI (at0 + b) - nI 1 = nI (at0 + b - 1) := z_sub (by omega)
  have ebyte : (nI (cb ((at0 + b - 1) / 8)) >>> nI ((at0 + b - 1) % 8)) &&& nI 1 = nI (bat cb (at0 + b - 1)) := by
    rw [z_shr (by omega) (by omega), z_and, ebt]
  have ediv : nI (at0 + b - 1) / nI 8 = nI ((at0 + b - 1) / 8) := z_div (by omega) (by omega)
  have emod : nI (at0 + b - 1) - nI ((at0 + b - 1) / 8 * 8) &&& nI 31 = nI ((at0 + b - 1) % 8) := by
    rw [z_sub (by omega), em8, z_and, z_n31 (by omega)]
  unfold B_MD_symbol_44
  simp only [z_lit, hlg, if_false, q2, z_bnd1, n10, nm, epl, ediv, z_chk (show (at0 + b - 1) / 8 < 2147483648 by omega) (show (at0 + b - 1) / 8 < 1200 by omega), z_tn (show (at0 + b - 1) / 8 < 2147483648 by omega), eM, emod, ebyte, z_mul, z_add]
  rcases scan with ⟨s, a1, a2, a3, a4⟩ | ⟨a1, a2⟩
  · left
    refine ⟨s, a1, a2, a3, nI (2 * code + bat cb (at0 + b - 1)), nI b, ?_⟩
    rw [a4, z_bnd3, z_add]
    rfl
  · right
    refine ⟨a1, ?_⟩
    rw [a2, z_bnd3]
    show rec _ (nI b + Int32.ofInt 1) (nI at0) = _
    rw [z_one, z_add]
/-- both loops from length b on -/
theorem l_jfind (F N P nM n Nt nF at0 : Nat) (cb : Nat → Nat) (C M p1 p2 per sy : Nat → Int32) (L LM : Nat → Nat) (hF : 100000 ≤ F) (hr : fedr cb nF C M) (hN : nM ≤ N) (hP : nM ≤ P) (hnM : nM ≤ 400) (hn : n ≤ nM) (hn3 : n ≤ 300) (hNt : n ≤ Nt) (hNt2 : Nt ≤ 400) (CS : cset L n (nI (lgm L n 15)) per sy) (h1 : ∀ k, k < nM → p1 k = nI (LM k) ∧ LM k ≤ 15) (h2 : ∀ k, k < n → LM k = L k) (h3 : ∀ k, n ≤ k → k < nM → LM k = 0) (h4 : ∀ k, k < n → 0 < L k → p2 k = nI (cde L n k)) (ha0 : at0 ≤ 8 * nF) : ∀ (f g b code : Nat), 1 ≤ b → b ≤ 16 → 16 - b < f → 16 - b < g → at0 + (b - 1) ≤ 8 * nF → code < 2 ^ (b - 1) → enb L n b ≤ code → ∃ (rr : Option Int32) (c1 c2 c3 c4 sc ac : Int32) (rq : Option Int32) (d1 d2 am : Int32), L_Reader_findSymbol_10 F Nt (nI (lgm L n 15)) per sy (nI (8 * nF)) C f (nI code) (nI (enb L n b)) (nI (off L n b)) (nI b) m1 (nI (at0 + (b - 1))) = some (rr, c1, c2, c3, c4, sc, ac) ∧ L_MD_symbol_44 F N P p1 p2 M (nI nF) (nI (lgm L n 15)) (nI nM) g (nI code) (nI b) (nI at0) = some (rq, d1, d2, am) ∧ ((rr = some m1 ∧ sc = nI 0 ∧ rq = some m1) ∨ (rr = none ∧ sc = m1 ∧ rq = none ∧ ∃ a, ac = nI a ∧ a ≤ 8 * nF) ∨ (∃ s, s < n ∧ 0 < L s ∧ rr = some (nI s) ∧ sc = m1 ∧ ac = nI (at0 + L s) ∧ rq = some (nI s) ∧ am = nI (at0 + L s) ∧ at0 + L s ≤ 8 * nF)) := by
  have hnF := hr.1
  have lg15 := (lgm_max L n 15).2.2
  intro f
  induction f with
  | zero => intros; omega
  | succ f ih =>
    intro g b code hb hb2 hf hg hat hcode hen
    obtain ⟨g', rfl⟩ : ∃ g', g = g' + 1 := ⟨g - 1, by omega⟩
    by_cases hl : lgm L n 15 < b
    · have e1 : nI (lgm L n 15) < nI b := by rw [z_lt (by omega) (by omega)]; exact hl
      refine ⟨none, nI code, nI (enb L n b), nI (off L n b), nI b, m1, nI (at0 + (b - 1)), none, nI code, nI b, nI at0, ?_, ?_, Or.inr (Or.inl ⟨rfl, rfl, rfl, _, rfl, hat⟩)⟩
      · unfold L_Reader_findSymbol_10 B_Reader_findSymbol_10
        rw [if_pos e1]
      · unfold L_MD_symbol_44 B_MD_symbol_44
        rw [if_pos e1]
    · have e1 : ¬ (nI (lgm L n 15) < nI b) := by rw [z_lt (by omega) (by omega)]; exact hl
      by_cases hb3 : 8 * nF < at0 + b
      · obtain ⟨q1, _⟩ := s_nobits F 1 nF (at0 + (b - 1)) C hnF hat (by omega) (by omega)
        obtain ⟨_, q2⟩ := s_nobits F b nF at0 C hnF ha0 (by omega) hb3
        refine ⟨some m1, nI code, nI (enb L n b), nI (off L n b), nI b, nI 0, nI (at0 + (b - 1)), some m1, nI code, nI b, nI at0, ?_, ?_, Or.inl ⟨rfl, rfl, rfl⟩⟩
        · unfold L_Reader_findSymbol_10 B_Reader_findSymbol_10
          rw [if_neg e1]
          show (bnd3 (m_Reader_takeBits F (nI (at0 + (b - 1))) (nI (8 * nF)) C m1 (nI 1)) _) = _
          rw [q1, z_bnd3, if_pos (show m1 = (-1 : Int32) from rfl)]
          rfl
        · unfold L_MD_symbol_44 B_MD_symbol_44
          rw [if_neg e1, q2, z_bnd1, if_pos (show nI 0 = (0 : Int32) from rfl)]
          rfl
      · obtain ⟨k1, k2, k3⟩ := c_fstep F Nt n nF at0 b code cb C M per sy L (L_Reader_findSymbol_10 F Nt (nI (lgm L n 15)) per sy (nI (8 * nF)) C f) hF hr hn3 hNt hNt2 CS hb (by omega) (by omega) hl hcode hen
        have e1' : (nI (lgm L n 15) < nI b) = False := eq_false e1
        have bl := bat_le cb (at0 + b - 1)
        have p2b : 2 ^ (b + 1 - 1) = 2 * 2 ^ (b - 1) := by
          have : b + 1 - 1 = b - 1 + 1 := by omega
          rw [this, Nat.pow_succ]; omega
        rcases k3 with ⟨c1, c2⟩ | ⟨c1, x1, x2, x3, x4, c2⟩
        · -- no symbol of this length
          have hno : ∀ s, s < n → L s = b → cde L n s ≠ 2 * code + bat cb (at0 + b - 1) := fun s hs hL e => by
            unfold cde at e
            rw [hL] at e
            have q := (off_lt L n hs (by omega)).2
            rw [hL] at q
            omega
          have ms := m_fstep F N P nM n nF at0 b code cb C M p1 p2 L LM (nI (lgm L n 15)) (L_MD_symbol_44 F N P p1 p2 M (nI nF) (nI (lgm L n 15)) (nI nM) g') hF hr hN hP hnM hn hn3 h1 h2 h3 h4 hb (by omega) (by omega) e1' k2
          rcases ms with ⟨s, m1', m2', m3', _⟩ | ⟨_, m2'⟩
          · exact absurd m3' (hno s m1' m2')
          · have een : enb L n (b + 1) = cs L n b + nl L b n := by unfold enb; rw [if_neg (by omega), Nat.add_sub_cancel]
            obtain ⟨rr, y1, y2, y3, y4, sc, ac, rq, d1, d2, am, a1, a2, a3⟩ := ih g' (b + 1) (2 * code + bat cb (at0 + b - 1)) (by omega) (by omega) (by omega) (by omega) (by omega) (by rw [p2b]; omega) (by rw [een]; omega)
            exact ⟨rr, y1, y2, y3, y4, sc, ac, rq, d1, d2, am, c2.trans a1, m2'.trans a2, a3⟩
        · -- a symbol
          obtain ⟨s, s1, s2, s3⟩ := nl_rank L b n _ c1
          have hcd : cde L n s = 2 * code + bat cb (at0 + b - 1) := by unfold cde; rw [s2, s3]; omega
          have esy : sy (off L n b + (2 * code + bat cb (at0 + b - 1) - cs L n b)) = nI s := by
            have := CS.2.2 s s1 (by omega)
            rw [s2, s3] at this
            exact this
          rw [esy] at c2
          have ms := m_fstep F N P nM n nF at0 b code cb C M p1 p2 L LM (nI (lgm L n 15)) (L_MD_symbol_44 F N P p1 p2 M (nI nF) (nI (lgm L n 15)) (nI nM) g') hF hr hN hP hnM hn hn3 h1 h2 h3 h4 hb (by omega) (by omega) e1' k2
          rcases ms with ⟨s', m1', m2', m3', d1, d2, m4'⟩ | ⟨m1', _⟩
          · have es : s' = s := nl_inj L b m2' s2 (by
              unfold cde at m3' hcd
              rw [m2'] at m3'
              rw [s2] at hcd
              omega)
            subst es
            exact ⟨some (nI s'), x1, x2, x3, x4, m1, nI (at0 + b), some (nI s'), d1, d2, nI (at0 + b), c2, m4', Or.inr (Or.inr ⟨s', s1, by omega, rfl, rfl, by rw [s2], rfl, by rw [s2], by omega⟩)⟩
          · exact absurd hcd (m1' s s1 s2)
/-- the next symbol, by both -/
theorem j_find (F N P nM n Nt nF at0 : Nat) (cb : Nat → Nat) (C M p1 p2 per sy : Nat → Int32) (L LM : Nat → Nat) (lg : Int32) (hF : 100000 ≤ F) (hr : fedr cb nF C M) (hN : nM ≤ N) (hP : nM ≤ P) (hnM : nM ≤ 400) (hn : n ≤ nM) (hn3 : n ≤ 300) (hNt : n ≤ Nt) (hNt2 : Nt ≤ 400) (CS : cset L n lg per sy) (h1 : ∀ k, k < nM → p1 k = nI (LM k) ∧ LM k ≤ 15) (h2 : ∀ k, k < n → LM k = L k) (h3 : ∀ k, n ≤ k → k < nM → LM k = 0) (h4 : ∀ k, k < n → 0 < L k → p2 k = nI (cde L n k)) (ha0 : at0 ≤ 8 * nF) : ∃ (rc sc ac rm am : Int32), m_Reader_findSymbol F Nt lg per sy (nI at0) (nI (8 * nF)) C m1 = some (rc, sc, ac) ∧ m_MD_symbol F N P p1 p2 (nI at0) M (nI nF) (nI nM) = some (rm, am) ∧ fout L n nF at0 rc sc ac rm am := by
  have clg := CS.1
  subst clg
  obtain ⟨rr, c1, c2, c3, c4, sc, ac, rq, d1, d2, am, a1, a2, a3⟩ := l_jfind F N P nM n Nt nF at0 cb C M p1 p2 per sy L LM hF hr hN hP hnM hn hn3 hNt hNt2 CS h1 h2 h3 h4 ha0 F F 1 0 (by omega) (by omega) (by omega) (by omega) (by omega) (by decide) (by unfold enb; rw [if_pos rfl]; omega)
  have e0 : enb L n 1 = 0 := by unfold enb; rw [if_pos rfl]
  have e1 : off L n 1 = 0 := rfl
  have e2 : at0 + (1 - 1) = at0 := rfl
  rw [e0, e1, e2] at a1
  obtain ⟨w, b1, b2, b3, b4, b5⟩ := l_ms6 F N nM p1 LM hN hnM h1 F 0 0 (by omega) (by omega) (by omega)
  have ew : w = lgm L n 15 := by
    obtain ⟨g1, g2, g3⟩ := lgm_max L n 15
    have le1 : lgm L n 15 ≤ w := by
      rcases g2 with g2 | ⟨k, hk, g2⟩
      · omega
      · rw [← g2, ← h2 k hk]; exact b4 k (by omega) (by omega)
    have le2 : w ≤ lgm L n 15 := by
      rcases b5 with b5 | ⟨j, _, hj, b5⟩
      · omega
      · rcases Nat.lt_or_ge j n with q | q
        · rw [← b5, h2 j q]; exact g1 j q (by rw [← h2 j q]; exact (h1 j (by omega)).2)
        · rw [h3 j q hj] at b5; omega
    omega
  rw [ew] at b1
  have f1 : m_Reader_findSymbol F Nt (nI (lgm L n 15)) per sy (nI at0) (nI (8 * nF)) C m1 = orc rr (fun r2 => some (r2, sc, ac)) (some (m2, sc, ac)) := by
    unfold m_Reader_findSymbol
    show (bnd7 (L_Reader_findSymbol_10 F Nt (nI (lgm L n 15)) per sy (nI (8 * nF)) C F (nI 0) (nI 0) (nI 0) (nI 1) m1 (nI at0)) _) = _
    rw [a1, z_bnd7]
    rfl
  have f2 : m_MD_symbol F N P p1 p2 (nI at0) M (nI nF) (nI nM) = orc rq (fun r3 => some (r3, am)) (some (m2, am)) := by
    unfold m_MD_symbol
    show (bnd2 (L_MD_symbol_6 F N p1 (nI nM) F (nI 0) (nI 0)) _) = _
    rw [b1, z_bnd2]
    show (bnd4 (L_MD_symbol_44 F N P p1 p2 M (nI nF) (nI (lgm L n 15)) (nI nM) F (nI 0) (nI 1) (nI at0)) _) = _
    rw [a2, z_bnd4]
    rfl
  rw [f1, f2]
  rcases a3 with ⟨r1, r2, r3⟩ | ⟨r1, r2, r3, r4⟩ | ⟨s, r1, r2, r3, r4, r5, r6, r7, r8⟩
  · subst r1; subst r3
    exact ⟨m1, sc, ac, m1, am, rfl, rfl, Or.inl ⟨rfl, r2, rfl⟩⟩
  · subst r1; subst r3
    exact ⟨m2, sc, ac, m2, am, rfl, rfl, Or.inr (Or.inl ⟨rfl, r2, rfl, r4⟩)⟩
  · subst r3; subst r6
    exact ⟨nI s, sc, ac, nI s, am, rfl, rfl, Or.inr (Or.inr ⟨s, r1, r2, rfl, r4, r5, rfl, r7, r8⟩)⟩
