/-! sets made; symbols found -/
theorem off_dis (L : Nat → Nat) (n : Nat) {s s' : Nat} (hs : s < n) (hs' : s' < n) (hL : 0 < L s) (hL' : 0 < L s') (h : off L n (L s) + nl L (L s) s = off L n (L s') + nl L (L s') s') : s = s' := by
  have mono : ∀ d m, off L n (m + 1) ≤ off L n (m + 1 + d) := by
    intro d
    induction d with
    | zero => intro m; exact Nat.le_refl _
    | succ d ih =>
      intro m
      have := ih m
      have e : off L n (m + 1 + d + 1) = off L n (m + 1 + d) + (if m + 1 + d = 0 then 0 else nl L (m + 1 + d) n) := rfl
      show _ ≤ off L n (m + 1 + d + 1)
      rw [e]; omega
  have lt_of : ∀ a b : Nat, a < n → b < n → 0 < L a → L a < L b → off L n (L a) + nl L (L a) a < off L n (L b) + nl L (L b) b := fun a b ha hb h0 hab => by
    have q1 := (off_lt L n ha h0).2
    have q2 := mono (L b - (L a + 1)) (L a)
    have e : L a + 1 + (L b - (L a + 1)) = L b := by omega
    rw [e, off, if_neg (by omega)] at q2
    omega
  rcases Nat.lt_trichotomy (L s) (L s') with q | q | q
  · have := lt_of s s' hs hs' hL q; omega
  · rw [q] at h
    have inj : ∀ a b : Nat, a < b → L a = L s' → nl L (L s') a < nl L (L s') b := fun a b hab hLa => by
      have : ∀ i, a < i → nl L (L s') a < nl L (L s') i := by
        intro i
        induction i with
        | zero => intro h; omega
        | succ i ih =>
          intro h
          rw [nl]
          by_cases e : a = i
          · rw [← e, if_pos hLa]; omega
          · have := ih (by omega); omega
      exact this b hab
    rcases Nat.lt_trichotomy s s' with r | r | r
    · have := inj s s' r q; omega
    · exact r
    · have := inj s' s r rfl; omega
  · have := lt_of s' s hs' hs hL' q; omega
theorem l_mk76 (F N Nt fr n : Nat) (p : Nat → Int32) (L : Nat → Nat) (hN : fr + n ≤ N) (hN2 : N ≤ 400) (hNt : n ≤ Nt) (hNt2 : Nt ≤ 400) (hp : ∀ k, k < n → p (fr + k) = nI (L k) ∧ L k ≤ 15) : ∀ (f i : Nat) (q sy : Nat → Int32), i ≤ n → n - i < f → (∀ m, 1 ≤ m → m ≤ 15 → q m = nI (off L n m + nl L m i)) → (∀ s, s < i → 0 < L s → sy (off L n (L s) + nl L (L s) s) = nI s) → ∃ q' sy', L_CodeSet_make_76 F N Nt p (nI fr) (nI n) f (nI i) q sy = some (nI n, q', sy') ∧ (∀ s, s < n → 0 < L s → sy' (off L n (L s) + nl L (L s) s) = nI s) := by
  intro f
  induction f with
  | zero => intros; omega
  | succ f ih =>
    intro i q sy hi hf I1 I2
    unfold L_CodeSet_make_76 B_CodeSet_make_76
    by_cases h : n ≤ i
    · have e : i = n := by omega
      subst e
      exact ⟨q, sy, by simp (disch := omega) only [nm, z_lit, z_one, z_mone, z_neg1, z_neg2, z_pred, z_add, z_mul, z_sub, z_le, z_lt, z_eq, z_tn, z_chk, z_eqm, z_meq, z_lem, z_mle, z_ltm, z_mlt, z_eqq, z_qeq, z_leq, z_qle, z_ltq, z_qlt, z_m1m2, z_m2m1, z_m1m1, z_m2m2, z_bnd1, z_bnd2, z_bnd3, z_bnd4, z_bnd5, z_bnd6, z_bnd7, z_bnd8, z_bnd9, z_bnd10, z_bnd11, z_bnd12, z_bnd13, z_bnd14, z_bnd15, z_bnd16, z_max, z_min, z_n31, z_shl, z_shr, z_us, z_div, z_mod, z_and, z_or, z_xor, if_true, if_false, Nat.le_refl], I2⟩
    · obtain ⟨e1, b1⟩ := hp i (by omega)
      by_cases c : L i ≤ 0
      · simp (disch := omega) only [nm, z_lit, z_one, z_mone, z_neg1, z_neg2, z_pred, z_add, z_mul, z_sub, z_le, z_lt, z_eq, z_tn, z_chk, z_eqm, z_meq, z_lem, z_mle, z_ltm, z_mlt, z_eqq, z_qeq, z_leq, z_qle, z_ltq, z_qlt, z_m1m2, z_m2m1, z_m1m1, z_m2m2, z_bnd1, z_bnd2, z_bnd3, z_bnd4, z_bnd5, z_bnd6, z_bnd7, z_bnd8, z_bnd9, z_bnd10, z_bnd11, z_bnd12, z_bnd13, z_bnd14, z_bnd15, z_bnd16, z_max, z_min, z_n31, z_shl, z_shr, z_us, z_div, z_mod, z_and, z_or, z_xor, if_true, if_false, h, e1, c]
        refine ih (i + 1) q sy (by omega) (by omega) (fun m h1 h2 => ?_) (fun s hs hL => ?_)
        · rw [I1 m h1 h2, nl, if_neg (by omega)]; rfl
        · by_cases e : s = i
          · subst e; omega
          · exact I2 s (by omega) hL
      · have n15 : ¬ (15 < L i) := by omega
        have e2 := I1 (L i) (by omega) (by omega)
        have ol := off_lt L n (s := i) (by omega) (by omega)
        have nt : ¬ (Nt ≤ off L n (L i) + nl L (L i) i) := by omega
        simp (disch := omega) only [nm, z_lit, z_one, z_mone, z_neg1, z_neg2, z_pred, z_add, z_mul, z_sub, z_le, z_lt, z_eq, z_tn, z_chk, z_eqm, z_meq, z_lem, z_mle, z_ltm, z_mlt, z_eqq, z_qeq, z_leq, z_qle, z_ltq, z_qlt, z_m1m2, z_m2m1, z_m1m1, z_m2m2, z_bnd1, z_bnd2, z_bnd3, z_bnd4, z_bnd5, z_bnd6, z_bnd7, z_bnd8, z_bnd9, z_bnd10, z_bnd11, z_bnd12, z_bnd13, z_bnd14, z_bnd15, z_bnd16, z_max, z_min, z_n31, z_shl, z_shr, z_us, z_div, z_mod, z_and, z_or, z_xor, if_true, if_false, h, e1, c, n15, e2, nt]
        refine ih (i + 1) _ _ (by omega) (by omega) (fun m h1 h2 => ?_) (fun s hs hL => ?_)
        · rw [nl]
          by_cases e : m = L i
          · rw [e, z_updE, if_pos rfl]; congr 1
          · rw [z_updN e, I1 m h1 h2, if_neg (Ne.symm e)]; rfl
        · by_cases e : s = i
          · rw [e, z_updE]
          · rw [z_updN (fun q => e (off_dis L n (by omega) (by omega) hL (by omega) q))]
            exact I2 s (by omega) hL
/-- a set as the class keeps it -/
def cset (L : Nat → Nat) (n : Nat) (lg : Int32) (per sy : Nat → Int32) : Prop := lg = nI (lgm L n 15) ∧ (∀ m, m < 16 → per m = nI (if m = 0 then 0 else nl L m n)) ∧ (∀ s, s < n → 0 < L s → sy (off L n (L s) + nl L (L s) s) = nI s)
theorem s_make (F N Nt fr n : Nat) (p nx_ per sy : Nat → Int32) (L : Nat → Nat) (hF : 100000 ≤ F) (hN : fr + n ≤ N) (hN2 : N ≤ 400) (hNt : n ≤ Nt) (hNt2 : Nt ≤ 400) (hp : ∀ k, k < n → p (fr + k) = nI (L k) ∧ L k ≤ 15) : ∃ (lg fe : Int32) (nx' per' sy' : Nat → Int32), m_CodeSet_make F N Nt p nx_ per sy (nI fr) (nI n) = some (nI (cdn L n), lg, fe, nx', per', sy') ∧ cset L n lg per' sy' ∧ (fe = nI 0 ↔ fre L n 15 = 0) := by
  obtain ⟨per1, e1, g1⟩ := l_mk16 F N fr n p L hN hN2 hp F 0 (fun j => if j < 16 then nI 0 else per j) (by omega) (by omega) (fun m hm => by
    simp only [if_pos hm]
    by_cases c : m = 0
    · rw [if_pos c]
    · rw [if_neg c]; rfl)
  have e0 : cdn L 0 = 0 := rfl
  rw [e0] at e1
  obtain ⟨q', e2, g2⟩ := l_meas F n per1 L (by omega) g1 F 1 (upd nx_ 0 (nI 0)) (by omega) (by omega) (by omega) (fun j hj => by
    have : j = 0 := by omega
    rw [this, z_updE]; rfl)
  have e21 : L_CodeSet_measure_19 F per1 F (nI 1) (nI 0) (nI 1) (upd nx_ 0 (nI 0)) = some (nI 16, nI (lgm L n 15), iI (fre L n 15), q') := e2
  have fb' := fre_b L n (by omega) 15 (by omega)
  obtain ⟨q3, sy3, e3, g3⟩ := l_mk76 F N Nt fr n p L hN hN2 hNt hNt2 hp F 0 q' sy (by omega) (by omega) (fun m h1 h2 => by rw [g2 m (by omega)]; rfl) (fun s hs => by omega)
  have hfe2 : (iI (fre L n 15) = nI 0 ↔ fre L n 15 = 0) := by
    rw [y_nI 0, y_eq (by omega) (by omega) (by omega) (by omega)]; exact Iff.rfl
  refine ⟨nI (lgm L n 15), iI (fre L n 15), q3, per1, sy3, ?_, ⟨rfl, g1, g3⟩, hfe2⟩
  unfold m_CodeSet_make m_CodeSet_measure
  rw [s_fill2 F 16 _ _ (by omega) (by omega), z_bnd1]
  rw [show (0 : Int32) = nI 0 from rfl, show (1 : Int32) = nI 1 from rfl]
  rw [e1, z_bnd3, z_chk (by omega) (by omega), z_tn (by omega)]
  simp only [nm]
  rw [e21, z_bnd4]
  simp only [z_bnd1, z_bnd3, e3]
/-! full sets -/
theorem fre_n (L : Nat → Nat) (n : Nat) : ∀ m, m ≤ 15 → fre L (n + 1) m = fre L n m - (if 1 ≤ L n ∧ L n ≤ m then (2 ^ (m - L n) : Nat) else 0 : Nat) := by
  intro m
  induction m with
  | zero => intro _; rw [if_neg (by omega)]; rfl
  | succ m ih =>
    intro hm
    have q := ih (by omega)
    show 2 * fre L (n + 1) m - ((nl L (m + 1) n + (if L n = m + 1 then 1 else 0) : Nat) : Int) = 2 * fre L n m - (nl L (m + 1) n : Int) - _
    rw [q]
    by_cases c : L n = m + 1
    · rw [if_pos c, if_neg (by omega), if_pos (by omega), c, Nat.sub_self]
      simp only [Nat.pow_zero]
      omega
    · rw [if_neg c]
      by_cases c2 : 1 ≤ L n ∧ L n ≤ m
      · rw [if_pos c2, if_pos (by omega)]
        have e : m + 1 - L n = m - L n + 1 := by omega
        rw [e, Nat.pow_succ]
        omega
      · rw [if_neg c2, if_neg (by omega)]
        omega
theorem fre_0 (L : Nat → Nat) : ∀ m, fre L 0 m = 2 ^ m := by
  intro m
  induction m with
  | zero => rfl
  | succ m ih =>
    show 2 * fre L 0 m - ((0 : Nat) : Int) = 2 ^ (m + 1)
    rw [ih, Int.pow_succ]; omega
theorem fre_ful (L : Nat → Nat) : ∀ n, (∀ k, k < n → L k ≤ 15) → fre L n 15 = 32768 - (ful L n : Int) := by
  intro n
  induction n with
  | zero => intro _; rw [fre_0]; rfl
  | succ n ih =>
    intro h
    rw [fre_n L n 15 (by omega), ih (fun k hk => h k (by omega)), ful]
    have := h n (by omega)
    by_cases c : L n = 0
    · rw [if_pos c, if_neg (by omega)]; omega
    · rw [if_neg c, if_pos (by omega)]; omega
theorem ful_le (L : Nat → Nat) : ∀ n, ful L n ≤ n * 32768 := by
  intro n
  induction n with
  | zero => exact Nat.le_refl _
  | succ n ih =>
    have h1 : 2 ^ (15 - L n) ≤ 2 ^ 15 := Nat.pow_le_pow_right (by omega) (by omega)
    have h2 : (if L n = 0 then 0 else 2 ^ (15 - L n)) ≤ 32768 := by
      split
      · omega
      · exact h1
    rw [ful]
    generalize (if L n = 0 then 0 else 2 ^ (15 - L n)) = w at *
    omega
theorem l_full (F N n : Nat) (p : Nat → Int32) (L : Nat → Nat) (hN : n ≤ N) (hn : n ≤ 400) (hp : ∀ k, k < n → p k = nI (L k) ∧ L k ≤ 15) : ∀ (f i : Nat), i ≤ n → n - i < f → L_MD_fullness_4 F N p (nI n) f (nI (ful L i)) (nI i) = some (nI (ful L n), nI n) := by
  intro f
  induction f with
  | zero => intros; omega
  | succ f ih =>
    intro i hi hf
    unfold L_MD_fullness_4 B_MD_fullness_4
    by_cases h : n ≤ i
    · have e : i = n := by omega
      subst e
      simp (disch := omega) only [nm, z_lit, z_one, z_mone, z_neg1, z_neg2, z_pred, z_add, z_mul, z_sub, z_le, z_lt, z_eq, z_tn, z_chk, z_eqm, z_meq, z_lem, z_mle, z_ltm, z_mlt, z_eqq, z_qeq, z_leq, z_qle, z_ltq, z_qlt, z_m1m2, z_m2m1, z_m1m1, z_m2m2, z_bnd1, z_bnd2, z_bnd3, z_bnd4, z_bnd5, z_bnd6, z_bnd7, z_bnd8, z_bnd9, z_bnd10, z_bnd11, z_bnd12, z_bnd13, z_bnd14, z_bnd15, z_bnd16, z_max, z_min, z_n31, z_shl, z_shr, z_us, z_div, z_mod, z_and, z_or, z_xor, if_true, if_false, Nat.le_refl]
    · obtain ⟨e1, b1⟩ := hp i (by omega)
      by_cases c : L i ≤ 0
      · have ef : ful L i + 0 = ful L (i + 1) := by rw [ful, if_pos (by omega)]
        simp (disch := omega) only [nm, z_lit, z_one, z_mone, z_neg1, z_neg2, z_pred, z_add, z_mul, z_sub, z_le, z_lt, z_eq, z_tn, z_chk, z_eqm, z_meq, z_lem, z_mle, z_ltm, z_mlt, z_eqq, z_qeq, z_leq, z_qle, z_ltq, z_qlt, z_m1m2, z_m2m1, z_m1m1, z_m2m2, z_bnd1, z_bnd2, z_bnd3, z_bnd4, z_bnd5, z_bnd6, z_bnd7, z_bnd8, z_bnd9, z_bnd10, z_bnd11, z_bnd12, z_bnd13, z_bnd14, z_bnd15, z_bnd16, z_max, z_min, z_n31, z_shl, z_shr, z_us, z_div, z_mod, z_and, z_or, z_xor, if_true, if_false, h, e1, c, ef]
        exact ih (i + 1) (by omega) (by omega)
      · have ef : ful L i + 1 <<< (15 - L i) = ful L (i + 1) := by rw [ful, if_neg (by omega), Nat.shiftLeft_eq, Nat.one_mul]
        simp (disch := omega) only [nm, z_lit, z_one, z_mone, z_neg1, z_neg2, z_pred, z_add, z_mul, z_sub, z_le, z_lt, z_eq, z_tn, z_chk, z_eqm, z_meq, z_lem, z_mle, z_ltm, z_mlt, z_eqq, z_qeq, z_leq, z_qle, z_ltq, z_qlt, z_m1m2, z_m2m1, z_m1m1, z_m2m2, z_bnd1, z_bnd2, z_bnd3, z_bnd4, z_bnd5, z_bnd6, z_bnd7, z_bnd8, z_bnd9, z_bnd10, z_bnd11, z_bnd12, z_bnd13, z_bnd14, z_bnd15, z_bnd16, z_max, z_min, z_n31, z_shl, z_shr, z_us, z_div, z_mod, z_and, z_or, z_xor, if_true, if_false, h, e1, c, ef]
        exact ih (i + 1) (by omega) (by omega)
theorem s_full (F N n : Nat) (p : Nat → Int32) (L : Nat → Nat) (hF : 100000 ≤ F) (hN : n ≤ N) (hn : n ≤ 400) (hp : ∀ k, k < n → p k = nI (L k) ∧ L k ≤ 15) : ∃ v, m_MD_fullness F N p (nI n) = some v ∧ (v = nI 0 ↔ fre L n 15 = 0) := by
  have e := l_full F N n p L hN hn hp F 0 (by omega) (by omega)
  have e0 : ful L 0 = 0 := rfl
  rw [e0] at e
  refine ⟨nI (ful L n) - nI 32768, ?_, ?_⟩
  · unfold m_MD_fullness
    simp only [z_lit, e, z_bnd2]
  · have fl' := ful_le L n
    have : n * 32768 ≤ 400 * 32768 := Nat.mul_le_mul_right _ hn
    rw [fre_ful L n (fun k hk => (hp k hk).2), y_nI (ful L n), y_nI 32768, y_nI 0, y_sub, y_eq (by omega) (by omega) (by omega) (by omega)]
    omega
