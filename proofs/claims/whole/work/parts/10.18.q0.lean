/-! prices -/
def prc (x w : Nat) : Nat := if x = 0 then w else x
def pml (L : Nat → Nat) (n : Nat) : Nat := prc (L (ls n)) 12 + lx n
def pmd (D : Nat → Nat) (d : Nat) : Nat := prc (D (fs d)) 6 + fx d
def selk (cost : Nat → Nat) (b0 : Nat) : Nat → Nat × Nat
  | 0 => (b0, 1)
  | k + 1 => if cost (3 + k) < (selk cost b0 k).1 then (cost (3 + k), 3 + k) else selk cost b0 k
def cst (L D lp ds : Nat → Nat) (p n : Nat) : Nat := pmd D (ds p) + pml L n + lp (p + n)
/-- least prices and what is taken by them, from the place p on -/
def prs (b L D ml ds lp lt : Nat → Nat) (p to : Nat) : Prop := lp to = 0 ∧ ∀ x, p ≤ x → x < to → selk (cst L D lp ds x) (prc (L (b x)) 12 + lp (x + 1)) (ml x - 2) = (lp x, lt x)
theorem selk_facts (cost : Nat → Nat) (b0 : Nat) : ∀ k, (selk cost b0 k).1 ≤ b0 ∧ ((selk cost b0 k).2 = 1 ∨ (3 ≤ (selk cost b0 k).2 ∧ (selk cost b0 k).2 < 3 + k)) := by
  intro k
  induction k with
  | zero => exact ⟨Nat.le_refl _, Or.inl rfl⟩
  | succ k ih =>
    rw [selk]
    split
    · exact ⟨by show cost (3 + k) ≤ b0; omega, Or.inr ⟨by show 3 ≤ 3 + k; omega, by show 3 + k < 3 + (k + 1); omega⟩⟩
    · exact ⟨ih.1, ih.2.imp id (fun q => ⟨q.1, by omega⟩)⟩
theorem selk_congr {c c' : Nat → Nat} {b0 : Nat} : ∀ k, (∀ n, 3 ≤ n → n < 3 + k → c n = c' n) → selk c b0 k = selk c' b0 k := by
  intro k
  induction k with
  | zero => intro _; rfl
  | succ k ih =>
    intro h
    rw [selk, selk, ih (fun n h1 h2 => h n h1 (by omega)), h (3 + k) (by omega) (by omega)]
theorem l_fill4 (F N e : Nat) (x : Int32) (he : e ≤ N) (hN : N < 100000) : ∀ (f i : Nat) (p : Nat → Int32), i ≤ e → e - i < f → L_JA_fill4_10 F N (nI e) x f (nI i) p = some (nI e, fun j => if i ≤ j ∧ j < e then x else p j) := by
  intro f
  induction f with
  | zero => intro i p _ h; omega
  | succ f ih =>
    intro i p hi hf
    unfold L_JA_fill4_10 B_JA_fill4_10
    by_cases h : e ≤ i
    · simp (disch := omega) only [nm, z_lit, z_one, z_mone, z_neg1, z_neg2, z_pred, z_add, z_mul, z_sub, z_le, z_lt, z_eq, z_tn, z_chk, z_eqm, z_meq, z_lem, z_mle, z_ltm, z_mlt, z_eqq, z_qeq, z_leq, z_qle, z_ltq, z_qlt, z_m1m2, z_m2m1, z_m1m1, z_m2m2, z_bnd1, z_bnd2, z_bnd3, z_bnd4, z_bnd5, z_bnd6, z_bnd7, z_bnd8, z_bnd9, z_bnd10, z_bnd11, z_bnd12, z_bnd13, z_bnd14, z_bnd15, z_bnd16, z_max, z_min, z_n31, z_shl, z_shr, z_us, z_div, z_mod, z_and, z_or, z_xor, if_true, if_false, h]
      have e : i = e := by omega
      subst e
      congr 2
      funext j
      rw [if_neg (by omega)]
    · simp (disch := omega) only [nm, z_lit, z_one, z_mone, z_neg1, z_neg2, z_pred, z_add, z_mul, z_sub, z_le, z_lt, z_eq, z_tn, z_chk, z_eqm, z_meq, z_lem, z_mle, z_ltm, z_mlt, z_eqq, z_qeq, z_leq, z_qle, z_ltq, z_qlt, z_m1m2, z_m2m1, z_m1m1, z_m2m2, z_bnd1, z_bnd2, z_bnd3, z_bnd4, z_bnd5, z_bnd6, z_bnd7, z_bnd8, z_bnd9, z_bnd10, z_bnd11, z_bnd12, z_bnd13, z_bnd14, z_bnd15, z_bnd16, z_max, z_min, z_n31, z_shl, z_shr, z_us, z_div, z_mod, z_and, z_or, z_xor, if_true, if_false, h]
      rw [ih (i + 1) _ (by omega) (by omega)]
      congr 2
      funext j
      simp only [upd]
      by_cases h1 : i + 1 ≤ j ∧ j < e
      · rw [if_pos h1, if_pos (by omega)]
      · rw [if_neg h1]
        by_cases h2 : j = i
        · rw [if_pos h2, if_pos (by omega)]
        · rw [if_neg h2, if_neg (by omega)]
theorem s_fill4 (F N a e : Nat) (x : Int32) (p : Nat → Int32) (hF : 100000 ≤ F) (ha : a ≤ e) (he : e ≤ N) (hN : N < 10000) : m_JA_fill4 F N p (nI a) (nI e) x = some (fun j => if a ≤ j ∧ j < e then x else p j) := by
  unfold m_JA_fill4 m_JA_rangeCheck
  have e1 := l_fill4 F N e x he (by omega) F a p ha (by omega)
  have h0 : 0 ≤ a := Nat.zero_le _
  simp (disch := omega) only [nm, z_lit, z_one, z_mone, z_neg1, z_neg2, z_pred, z_add, z_mul, z_sub, z_le, z_lt, z_eq, z_tn, z_chk, z_eqm, z_meq, z_lem, z_mle, z_ltm, z_mlt, z_eqq, z_qeq, z_leq, z_qle, z_ltq, z_qlt, z_m1m2, z_m2m1, z_m1m1, z_m2m2, z_bnd1, z_bnd2, z_bnd3, z_bnd4, z_bnd5, z_bnd6, z_bnd7, z_bnd8, z_bnd9, z_bnd10, z_bnd11, z_bnd12, z_bnd13, z_bnd14, z_bnd15, z_bnd16, z_max, z_min, z_n31, z_shl, z_shr, z_us, z_div, z_mod, z_and, z_or, z_xor, if_true, if_false, ha, he, h0, bnd0, e1]
theorem s_prc (F x w : Nat) (hx : x < 1000000) : m_Prices_priceOf F (nI x) (nI w) = some (nI (prc x w)) := by
  unfold m_Prices_priceOf prc
  by_cases h : x = 0
  · simp (disch := omega) only [nm, z_lit, z_one, z_mone, z_neg1, z_neg2, z_pred, z_add, z_mul, z_sub, z_le, z_lt, z_eq, z_tn, z_chk, z_eqm, z_meq, z_lem, z_mle, z_ltm, z_mlt, z_eqq, z_qeq, z_leq, z_qle, z_ltq, z_qlt, z_m1m2, z_m2m1, z_m1m1, z_m2m2, z_bnd1, z_bnd2, z_bnd3, z_bnd4, z_bnd5, z_bnd6, z_bnd7, z_bnd8, z_bnd9, z_bnd10, z_bnd11, z_bnd12, z_bnd13, z_bnd14, z_bnd15, z_bnd16, z_max, z_min, z_n31, z_shl, z_shr, z_us, z_div, z_mod, z_and, z_or, z_xor, if_true, if_false, h]
  · simp (disch := omega) only [nm, z_lit, z_one, z_mone, z_neg1, z_neg2, z_pred, z_add, z_mul, z_sub, z_le, z_lt, z_eq, z_tn, z_chk, z_eqm, z_meq, z_lem, z_mle, z_ltm, z_mlt, z_eqq, z_qeq, z_leq, z_qle, z_ltq, z_qlt, z_m1m2, z_m2m1, z_m1m1, z_m2m2, z_bnd1, z_bnd2, z_bnd3, z_bnd4, z_bnd5, z_bnd6, z_bnd7, z_bnd8, z_bnd9, z_bnd10, z_bnd11, z_bnd12, z_bnd13, z_bnd14, z_bnd15, z_bnd16, z_max, z_min, z_n31, z_shl, z_shr, z_us, z_div, z_mod, z_and, z_or, z_xor, if_true, if_false, h]
theorem l_tf2 (F : Nat) (ll : Nat → Int32) (L : Nat → Nat) (hL : ∀ s, s < 286 → ll s = nI (L s) ∧ L s ≤ 15) : ∀ (f i : Nat) (q : Nat → Int32), i ≤ 256 → 256 - i < f → (∀ s, s < i → q s = nI (prc (L s) 12)) → ∃ q', L_Prices_takeFrom_2 F ll f (nI i) q = some (nI 256, q') ∧ ∀ s, s < 256 → q' s = nI (prc (L s) 12) := by
  intro f
  induction f with
  | zero => intro i q _ h; omega
  | succ f ih =>
    intro i q hi hf I
    unfold L_Prices_takeFrom_2 B_Prices_takeFrom_2
    by_cases h : 256 ≤ i
    · have e : i = 256 := by omega
      subst e
      exact ⟨q, by simp (disch := omega) only [nm, z_lit, z_one, z_mone, z_neg1, z_neg2, z_pred, z_add, z_mul, z_sub, z_le, z_lt, z_eq, z_tn, z_chk, z_eqm, z_meq, z_lem, z_mle, z_ltm, z_mlt, z_eqq, z_qeq, z_leq, z_qle, z_ltq, z_qlt, z_m1m2, z_m2m1, z_m1m1, z_m2m2, z_bnd1, z_bnd2, z_bnd3, z_bnd4, z_bnd5, z_bnd6, z_bnd7, z_bnd8, z_bnd9, z_bnd10, z_bnd11, z_bnd12, z_bnd13, z_bnd14, z_bnd15, z_bnd16, z_max, z_min, z_n31, z_shl, z_shr, z_us, z_div, z_mod, z_and, z_or, z_xor, if_true, if_false, Nat.le_refl], I⟩
    · obtain ⟨e1, b1⟩ := hL i (by omega)
      have e2 := s_prc F (L i) 12 (by omega)
      simp (disch := omega) only [nm, z_lit, z_one, z_mone, z_neg1, z_neg2, z_pred, z_add, z_mul, z_sub, z_le, z_lt, z_eq, z_tn, z_chk, z_eqm, z_meq, z_lem, z_mle, z_ltm, z_mlt, z_eqq, z_qeq, z_leq, z_qle, z_ltq, z_qlt, z_m1m2, z_m2m1, z_m1m1, z_m2m2, z_bnd1, z_bnd2, z_bnd3, z_bnd4, z_bnd5, z_bnd6, z_bnd7, z_bnd8, z_bnd9, z_bnd10, z_bnd11, z_bnd12, z_bnd13, z_bnd14, z_bnd15, z_bnd16, z_max, z_min, z_n31, z_shl, z_shr, z_us, z_div, z_mod, z_and, z_or, z_xor, if_true, if_false, h, e1, e2]
      refine ih (i + 1) _ (by omega) (by omega) (fun s hs => ?_)
      by_cases e : s = i
      · rw [e, z_updE]
      · rw [z_updN e]; exact I s (by omega)
/-- where the lengths of symbol k end -/
def lend (k : Nat) : Nat := if k = 29 then 259 else tbn 0 k
theorem lend_facts : ∀ k, k < 29 → tbn 0 k ≤ lend (k + 1) ∧ lend (k + 1) ≤ 259 ∧ 3 ≤ tbn 0 k := by decide +kernel
theorem lend_0 : lend 0 = 3 := by decide +kernel
theorem l_tf48 (F : Nat) (ll : Nat → Int32) (L : Nat → Nat) (hF : 100000 ≤ F) (hL : ∀ s, s < 286 → ll s = nI (L s) ∧ L s ≤ 15) : ∀ (f k : Nat) (q : Nat → Int32), k ≤ 29 → k < f → (∀ n, lend k ≤ n → n < 259 → q n = nI (pml L n)) → ∃ v v' q', L_Prices_takeFrom_48 F ll f (nI (lend k)) (nI k + m1) q = some (v, v', q') ∧ ∀ n, 3 ≤ n → n < 259 → q' n = nI (pml L n) := by
  intro f
  induction f with
  | zero => intro k q _ h; omega
  | succ f ih =>
    intro k q hk hf I
    unfold L_Prices_takeFrom_48 B_Prices_takeFrom_48
    by_cases h : k = 0
    · subst h
      rw [lend_0] at I
      exact ⟨_, _, q, by rw [if_pos (by decide)], I⟩
    · obtain ⟨j, rfl⟩ : ∃ j, k = j + 1 := ⟨k - 1, by omega⟩
      have e0 : nI (j + 1) + m1 = nI j := by rw [z_pred (by omega), Nat.add_sub_cancel]
      obtain ⟨e1, b1⟩ := hL (257 + j) (by omega)
      have e2 := s_prc F (L (257 + j)) 12 (by omega)
      obtain ⟨t1, t2⟩ := tb1 j (by omega)
      obtain ⟨u1, u2⟩ := tb0 j (by omega)
      obtain ⟨w1, w2, w3⟩ := lend_facts j (by omega)
      have e3 := s_fill4 F 259 (tbn 0 j) (lend (j + 1)) (nI (prc (L (257 + j)) 12 + tbn 1 j)) q hF w1 w2 (by omega)
      have n0 : ¬ (j < 0) := by omega
      rw [e0]
      simp (disch := omega) only [nm, z_lit, z_one, z_mone, z_neg1, z_neg2, z_add, z_mul, z_sub, z_le, z_lt, z_eq, z_tn, z_chk, z_eqm, z_meq, z_lem, z_mle, z_ltm, z_mlt, z_eqq, z_qeq, z_leq, z_qle, z_ltq, z_qlt, z_m1m2, z_m2m1, z_m1m1, z_m2m2, z_bnd1, z_bnd2, z_bnd3, z_bnd4, z_bnd5, z_bnd6, z_bnd7, z_bnd8, z_bnd9, z_bnd10, z_bnd11, z_bnd12, z_bnd13, z_bnd14, z_bnd15, z_bnd16, z_max, z_min, z_n31, z_shl, z_shr, z_us, z_div, z_mod, z_and, z_or, z_xor, if_true, if_false, tn1, tn0, n0, e1, e2, t1, u1, e3]
      have el : tbn 0 j = lend j := by unfold lend; rw [if_neg (by omega)]
      have := ih j (fun n => if tbn 0 j ≤ n ∧ n < lend (j + 1) then nI (prc (L (257 + j)) 12 + tbn 1 j) else q n) (by omega) (by omega) (fun n h1 h2 => by
        rw [← el] at h1
        by_cases c : n < lend (j + 1)
        · simp only [if_pos (And.intro h1 c)]
          have e9 : 257 + j = ls n := ls_tab n h2 (by omega) j (by omega) h1 (fun h9 => by
            have : lend (j + 1) = tbn 0 (j + 1) := by unfold lend; rw [if_neg (by omega)]
            omega)
          have e8 := (ls_facts n h2 (by omega)).2.2.1
          have e7 : ls n - 257 = j := by omega
          rw [e7] at e8
          unfold pml
          rw [← e8, ← e9]
        · simp only [if_neg (fun q : _ ∧ _ => c q.2)]
          exact I n (by omega) h2)
      rw [← el] at this
      exact this
theorem l_tf107 (F : Nat) (dl : Nat → Int32) (D : Nat → Nat) (hD : ∀ s, s < 30 → dl s = nI (D s) ∧ D s ≤ 15) : ∀ (f i : Nat) (q : Nat → Int32), i ≤ 30 → 30 - i < f → (∀ s, s < i → q s = nI (prc (D s) 6 + tbn 3 s)) → ∃ q', L_Prices_takeFrom_107 F dl f (nI i) q = some (nI 30, q') ∧ ∀ s, s < 30 → q' s = nI (prc (D s) 6 + tbn 3 s) := by
  intro f
  induction f with
  | zero => intro i q _ h; omega
  | succ f ih =>
    intro i q hi hf I
    unfold L_Prices_takeFrom_107 B_Prices_takeFrom_107
    by_cases h : 30 ≤ i
    · have e : i = 30 := by omega
      subst e
      exact ⟨q, by simp (disch := omega) only [nm, z_lit, z_one, z_mone, z_neg1, z_neg2, z_pred, z_add, z_mul, z_sub, z_le, z_lt, z_eq, z_tn, z_chk, z_eqm, z_meq, z_lem, z_mle, z_ltm, z_mlt, z_eqq, z_qeq, z_leq, z_qle, z_ltq, z_qlt, z_m1m2, z_m2m1, z_m1m1, z_m2m2, z_bnd1, z_bnd2, z_bnd3, z_bnd4, z_bnd5, z_bnd6, z_bnd7, z_bnd8, z_bnd9, z_bnd10, z_bnd11, z_bnd12, z_bnd13, z_bnd14, z_bnd15, z_bnd16, z_max, z_min, z_n31, z_shl, z_shr, z_us, z_div, z_mod, z_and, z_or, z_xor, if_true, if_false, Nat.le_refl], I⟩
    · obtain ⟨e1, b1⟩ := hD i (by omega)
      have e2 := s_prc F (D i) 6 (by omega)
      obtain ⟨t1, t2⟩ := tb3 i (by omega)
      simp (disch := omega) only [nm, z_lit, z_one, z_mone, z_neg1, z_neg2, z_pred, z_add, z_mul, z_sub, z_le, z_lt, z_eq, z_tn, z_chk, z_eqm, z_meq, z_lem, z_mle, z_ltm, z_mlt, z_eqq, z_qeq, z_leq, z_qle, z_ltq, z_qlt, z_m1m2, z_m2m1, z_m1m1, z_m2m2, z_bnd1, z_bnd2, z_bnd3, z_bnd4, z_bnd5, z_bnd6, z_bnd7, z_bnd8, z_bnd9, z_bnd10, z_bnd11, z_bnd12, z_bnd13, z_bnd14, z_bnd15, z_bnd16, z_max, z_min, z_n31, z_shl, z_shr, z_us, z_div, z_mod, z_and, z_or, z_xor, if_true, if_false, tn3, h, e1, e2, t1]
      refine ih (i + 1) _ (by omega) (by omega) (fun s hs => ?_)
      by_cases e : s = i
      · rw [e, z_updE]
      · rw [z_updN e]; exact I s (by omega)
theorem s_takeFrom (F : Nat) (dl ll od ol oi : Nat → Int32) (L D : Nat → Nat) (hF : 100000 ≤ F) (hL : ∀ s, s < 286 → ll s = nI (L s) ∧ L s ≤ 15) (hD : ∀ s, s < 30 → dl s = nI (D s) ∧ D s ≤ 15) : ∃ od' ol' oi', m_Prices_takeFrom F dl ll od ol oi = some (od', ol', oi') ∧ (∀ s, s < 256 → oi' s = nI (prc (L s) 12)) ∧ (∀ n, 3 ≤ n → n < 259 → ol' n = nI (pml L n)) ∧ (∀ s, s < 30 → od' s = nI (prc (D s) 6 + tbn 3 s)) := by
  obtain ⟨q1, e1, g1⟩ := l_tf2 F ll L hL F 0 oi (by omega) (by omega) (fun s hs => by omega)
  obtain ⟨v, v', q2, e2, g2⟩ := l_tf48 F ll L hF hL F 29 ol (by omega) (by omega) (fun n h1 h2 => by
    have : lend 29 = 259 := rfl
    omega)
  obtain ⟨q3, e3, g3⟩ := l_tf107 F dl D hD F 0 od (by omega) (by omega) (fun s hs => by omega)
  refine ⟨q3, q2, q1, ?_, g1, g2, g3⟩
  have e4 : lend 29 = 259 := rfl
  rw [e4] at e2
  unfold m_Prices_takeFrom
  simp only [z_lit, e1, z_bnd2, nm, tn0]
  rw [z_sub1, e2]
  simp only [z_bnd3, e3, z_bnd2]
theorem l_ch76 (F p ml : Nat) (ls_ ol : Nat → Int32) (L D lp ds : Nat → Nat) (fd b0 : Nat) (hp : p + ml ≤ 512) (hml : ml ≤ 258) (hfd : fd = pmd D (ds p)) (hfdB : fd < 100) (hol : ∀ n, 3 ≤ n → n < 259 → ol n = nI (pml L n) ∧ pml L n < 100) (hls : ∀ x, p < x → x ≤ p + ml → ls_ x = nI (lp x) ∧ lp x < 100000) (hb0 : b0 < 1000000) : ∀ (f k : Nat) (LT : Nat → Int32), k ≤ ml - 2 → ml - 2 - k < f → LT p = nI (selk (cst L D lp ds p) b0 k).2 → ∃ v LT', L_Prices_choose_76 F 512 (nI ml) ls_ ol (nI p) (nI fd) f (nI (selk (cst L D lp ds p) b0 k).1) (nI (3 + k)) LT = some (nI (selk (cst L D lp ds p) b0 (ml - 2)).1, v, LT') ∧ LT' p = nI (selk (cst L D lp ds p) b0 (ml - 2)).2 ∧ ∀ x, x ≠ p → LT' x = LT x := by
  intro f
  induction f with
  | zero => intro k LT _ h; omega
  | succ f ih =>
    intro k LT hk hf I
    have sk := selk_facts (cst L D lp ds p) b0 k
    unfold L_Prices_choose_76 B_Prices_choose_76
    by_cases h : ml < 3 + k
    · have e : k = ml - 2 := by omega
      subst e
      exact ⟨_, LT, by simp (disch := omega) only [nm, z_lit, z_one, z_mone, z_neg1, z_neg2, z_pred, z_add, z_mul, z_sub, z_le, z_lt, z_eq, z_tn, z_chk, z_eqm, z_meq, z_lem, z_mle, z_ltm, z_mlt, z_eqq, z_qeq, z_leq, z_qle, z_ltq, z_qlt, z_m1m2, z_m2m1, z_m1m1, z_m2m2, z_bnd1, z_bnd2, z_bnd3, z_bnd4, z_bnd5, z_bnd6, z_bnd7, z_bnd8, z_bnd9, z_bnd10, z_bnd11, z_bnd12, z_bnd13, z_bnd14, z_bnd15, z_bnd16, z_max, z_min, z_n31, z_shl, z_shr, z_us, z_div, z_mod, z_and, z_or, z_xor, if_true, if_false, h]; rfl, I, fun _ _ => rfl⟩
    · obtain ⟨e1, b1⟩ := hol (3 + k) (by omega) (by omega)
      obtain ⟨e2, b2⟩ := hls (p + (3 + k)) (by omega) (by omega)
      have ec : fd + pml L (3 + k) + lp (p + (3 + k)) = cst L D lp ds p (3 + k) := by unfold cst; rw [hfd]
      have ecB : cst L D lp ds p (3 + k) < 1000000 := by rw [← ec]; omega
      have es : selk (cst L D lp ds p) b0 (k + 1) = if cst L D lp ds p (3 + k) < (selk (cst L D lp ds p) b0 k).1 then (cst L D lp ds p (3 + k), 3 + k) else selk (cst L D lp ds p) b0 k := rfl
      by_cases c : (selk (cst L D lp ds p) b0 k).1 ≤ cst L D lp ds p (3 + k)
      · rw [if_neg (by omega)] at es
        simp (disch := omega) only [nm, z_lit, z_one, z_mone, z_neg1, z_neg2, z_pred, z_add, z_mul, z_sub, z_le, z_lt, z_eq, z_tn, z_chk, z_eqm, z_meq, z_lem, z_mle, z_ltm, z_mlt, z_eqq, z_qeq, z_leq, z_qle, z_ltq, z_qlt, z_m1m2, z_m2m1, z_m1m1, z_m2m2, z_bnd1, z_bnd2, z_bnd3, z_bnd4, z_bnd5, z_bnd6, z_bnd7, z_bnd8, z_bnd9, z_bnd10, z_bnd11, z_bnd12, z_bnd13, z_bnd14, z_bnd15, z_bnd16, z_max, z_min, z_n31, z_shl, z_shr, z_us, z_div, z_mod, z_and, z_or, z_xor, if_true, if_false, h, e1, e2, ec, c]
        obtain ⟨v, LT', g1, g2, g3⟩ := ih (k + 1) LT (by omega) (by omega) (by rw [es]; exact I)
        rw [es] at g1
        exact ⟨v, LT', g1, g2, g3⟩
      · rw [if_pos (by omega)] at es
        simp (disch := omega) only [nm, z_lit, z_one, z_mone, z_neg1, z_neg2, z_pred, z_add, z_mul, z_sub, z_le, z_lt, z_eq, z_tn, z_chk, z_eqm, z_meq, z_lem, z_mle, z_ltm, z_mlt, z_eqq, z_qeq, z_leq, z_qle, z_ltq, z_qlt, z_m1m2, z_m2m1, z_m1m1, z_m2m2, z_bnd1, z_bnd2, z_bnd3, z_bnd4, z_bnd5, z_bnd6, z_bnd7, z_bnd8, z_bnd9, z_bnd10, z_bnd11, z_bnd12, z_bnd13, z_bnd14, z_bnd15, z_bnd16, z_max, z_min, z_n31, z_shl, z_shr, z_us, z_div, z_mod, z_and, z_or, z_xor, if_true, if_false, h, e1, e2, ec, c]
        obtain ⟨v, LT', g1, g2, g3⟩ := ih (k + 1) (upd LT p (nI (3 + k))) (by omega) (by omega) (by rw [es, z_updE])
        rw [es] at g1
        exact ⟨v, LT', g1, g2, fun x hx => by rw [g3 x hx, z_updN hx]⟩
theorem prc_le {x w m : Nat} (h1 : x ≤ m) (h2 : w ≤ m) : prc x w ≤ m := by unfold prc; split <;> omega
theorem l_ch14 (F : Nat) (B fd od ol oi : Nat → Int32) (b L D ml ds : Nat → Nat) (fr to : Nat) (hF : 100000 ≤ F) (hB : byt B b) (hto : to ≤ 512) (hL : ∀ s, s < 286 → L s ≤ 15) (hD : ∀ s, s < 30 → D s ≤ 15) (hfd : fnd fd ml ds fr to) (hoi : ∀ s, s < 256 → oi s = nI (prc (L s) 12)) (hol : ∀ n, 3 ≤ n → n < 259 → ol n = nI (pml L n)) (hod : ∀ s, s < 30 → od s = nI (prc (D s) 6 + tbn 3 s)) : ∀ (f k : Nat) (lp lt : Nat → Nat) (LT ls_ : Nat → Int32), fr ≤ k → k ≤ to → k - fr < f → prs b L D ml ds lp lt k to → (∀ x, k ≤ x → x ≤ to → ls_ x = nI (lp x) ∧ lp x ≤ 15 * (to - x)) → (∀ x, k ≤ x → x < to → LT x = nI (lt x)) → ∃ (v : Int32) (lp' lt' : Nat → Nat) (LT' ls' : Nat → Int32), L_Prices_choose_14 F 512 B fd od ol oi (nI fr) f (nI k + m1) LT ls_ = some (v, LT', ls') ∧ prs b L D ml ds lp' lt' fr to ∧ (∀ x, fr ≤ x → x ≤ to → lp' x ≤ 15 * (to - x)) ∧ (∀ x, fr ≤ x → x < to → LT' x = nI (lt' x)) := by
  intro f
  induction f with
  | zero => intro k lp lt LT ls_ _ _ h; omega
  | succ f ih =>
    intro k lp lt LT ls_ h0 hk hf P I1 I2
    unfold L_Prices_choose_14 B_Prices_choose_14
    by_cases h : k = fr
    · subst h
      refine ⟨nI k + m1, lp, lt, LT, ls_, ?_, P, fun x h1 h2 => (I1 x h1 h2).2, I2⟩
      by_cases hk0 : k = 0
      · subst hk0; rw [if_pos (by decide)]
      · have e9 : nI k + m1 = nI (k - 1) := z_pred (by omega)
        have n9 : nI (k - 1) < nI k := by rw [z_lt (by omega) (by omega)]; omega
        rw [e9, if_pos n9]
    · obtain ⟨p, rfl⟩ : ∃ p, k = p + 1 := ⟨k - 1, by omega⟩
      have e0 : nI (p + 1) + m1 = nI p := by rw [z_pred (by omega), Nat.add_sub_cancel]
      obtain ⟨e1, b1⟩ := hB p (by omega)
      have f1 := hfd p (by omega) (by omega)
      have e2 := hoi (b p) b1
      obtain ⟨e3, b3⟩ := I1 (p + 1) (by omega) (by omega)
      have l1 := s_lenAt F p (ds p) (ml p) fd (by omega) (by omega) (by omega) f1.1
      have l2 := s_distAt F p (ds p) (ml p) fd (by omega) (by omega) f1.1
      have l3 : m_DE_distanceSymbol F (nI (ds p)) = some (nI (if ds p = 0 then 0 else fs (ds p))) := by
        by_cases c : ds p = 0
        · rw [c, if_pos rfl]; exact s_dsym0 F hF
        · rw [if_neg c]; exact s_dsym F (ds p) hF (by omega) (by omega)
      have hfs : (if ds p = 0 then 0 else fs (ds p)) < 30 := by
        split
        · omega
        · exact (fs_facts (ds p) (by omega) (by omega)).1
      have e4 := hod _ hfs
      have p1 : prc (L (b p)) 12 ≤ 15 := prc_le (hL _ (by omega)) (by omega)
      have n0 : ¬ (p < fr) := by omega
      have step : ∀ (v : Int32) (lpv ltv : Nat) (LT1 : Nat → Int32), selk (cst L D lp ds p) (prc (L (b p)) 12 + lp (p + 1)) (ml p - 2) = (lpv, ltv) → LT1 p = nI ltv → (∀ x, x ≠ p → LT1 x = LT x) → ∃ (v : Int32) (lp' lt' : Nat → Nat) (LT' ls' : Nat → Int32), L_Prices_choose_14 F 512 B fd od ol oi (nI fr) f (nI p + m1) LT1 (upd ls_ p (nI lpv)) = some (v, LT', ls') ∧ prs b L D ml ds lp' lt' fr to ∧ (∀ x, fr ≤ x → x ≤ to → lp' x ≤ 15 * (to - x)) ∧ (∀ x, fr ≤ x → x < to → LT' x = nI (lt' x)) := fun v lpv ltv LT1 hs h1 h2 => by
        have sf := selk_facts (cst L D lp ds p) (prc (L (b p)) 12 + lp (p + 1)) (ml p - 2)
        rw [hs] at sf
        refine ih p (updN lp p lpv) (updN lt p ltv) LT1 (upd ls_ p (nI lpv)) (by omega) (by omega) (by omega) ?_ (fun x hx1 hx2 => ?_) (fun x hx1 hx2 => ?_)
        · refine ⟨by rw [updN_n (by omega)]; exact P.1, fun x hx1 hx2 => ?_⟩
          have ec : ∀ y, p ≤ y → y < to → selk (cst L D (updN lp p lpv) ds y) (prc (L (b y)) 12 + updN lp p lpv (y + 1)) (ml y - 2) = selk (cst L D lp ds y) (prc (L (b y)) 12 + lp (y + 1)) (ml y - 2) := fun y hy hy2 => by
            rw [updN_n (by omega)]
            exact selk_congr _ (fun n hn _ => by unfold cst; rw [updN_n (by omega)])
          rw [ec x hx1 hx2]
          by_cases e : x = p
          · rw [e, hs, updN_e, updN_e]
          · rw [updN_n e, updN_n e]; exact P.2 x (by omega) hx2
        · by_cases e : x = p
          · rw [e, z_updE, updN_e]
            refine ⟨rfl, ?_⟩
            have := sf.1
            simp only at this
            omega
          · rw [z_updN e, updN_n e]; exact I1 x (by omega) hx2
        · by_cases e : x = p
          · rw [e, h1, updN_e]
          · rw [h2 x e, updN_n e]; exact I2 x (by omega) hx2
      rw [e0]
      by_cases c : ml p = 0
      · -- no match here
        have e5 : ∀ G, L_Prices_choose_76 F 512 (nI 0) ls_ ol (nI p) (od (if ds p = 0 then 0 else fs (ds p))) (G + 1) (nI (prc (L (b p)) 12 + lp (p + 1))) (nI 3) (upd LT p (nI 1)) = some (nI (prc (L (b p)) 12 + lp (p + 1)), nI 3, upd LT p (nI 1)) := fun G => by
          unfold L_Prices_choose_76 B_Prices_choose_76
          rw [if_pos (by decide)]
        have e5' := e5 (F - 1)
        rw [Nat.sub_add_cancel (by omega)] at e5'
        rw [c] at l1
        simp (disch := omega) only [nm, z_lit, z_one, z_mone, z_neg1, z_neg2, z_add, z_mul, z_sub, z_le, z_lt, z_eq, z_tn, z_chk, z_eqm, z_meq, z_lem, z_mle, z_ltm, z_mlt, z_eqq, z_qeq, z_leq, z_qle, z_ltq, z_qlt, z_m1m2, z_m2m1, z_m1m1, z_m2m2, z_bnd1, z_bnd2, z_bnd3, z_bnd4, z_bnd5, z_bnd6, z_bnd7, z_bnd8, z_bnd9, z_bnd10, z_bnd11, z_bnd12, z_bnd13, z_bnd14, z_bnd15, z_bnd16, z_max, z_min, z_n31, z_shl, z_shr, z_us, z_div, z_mod, z_and, z_or, z_xor, if_true, if_false, n0, e1, e2, e3, l1, l2, l3, e5']
        exact step 0 _ 1 (upd LT p (nI 1)) (by rw [c]; rfl) z_updE (fun x hx => z_updN hx)
      · have d1 : 1 ≤ ds p := by omega
        have ed : (if ds p = 0 then 0 else fs (ds p)) = fs (ds p) := if_neg (by omega)
        have f2 := fs_facts (ds p) (by omega) d1
        rw [ed] at e4 l3
        rw [f2.2.1] at e4
        have p2 : prc (D (fs (ds p))) 6 ≤ 15 := prc_le (hD _ f2.1) (by omega)
        obtain ⟨v, LT1, g1, g2, g3⟩ := l_ch76 F p (ml p) ls_ ol L D lp ds (prc (D (fs (ds p))) 6 + fx (ds p)) (prc (L (b p)) 12 + lp (p + 1)) (by omega) (by omega) rfl (by omega) (fun n h1 h2 => ⟨hol n h1 h2, by
          have f3 := ls_facts n h2 h1
          have p3 : prc (L (ls n)) 12 ≤ 15 := prc_le (hL _ f3.2.1) (by omega)
          unfold pml; omega⟩) (fun x h1 h2 => by
          have := I1 x (by omega) (by omega)
          exact ⟨this.1, by omega⟩) (by omega) F 0 (upd LT p (nI 1)) (by omega) (by omega) z_updE
        have e6 : selk (cst L D lp ds p) (prc (L (b p)) 12 + lp (p + 1)) 0 = (prc (L (b p)) 12 + lp (p + 1), 1) := rfl
        rw [e6, Nat.add_zero] at g1
        simp (disch := omega) only [nm, z_lit, z_one, z_mone, z_neg1, z_neg2, z_add, z_mul, z_sub, z_le, z_lt, z_eq, z_tn, z_chk, z_eqm, z_meq, z_lem, z_mle, z_ltm, z_mlt, z_eqq, z_qeq, z_leq, z_qle, z_ltq, z_qlt, z_m1m2, z_m2m1, z_m1m1, z_m2m2, z_bnd1, z_bnd2, z_bnd3, z_bnd4, z_bnd5, z_bnd6, z_bnd7, z_bnd8, z_bnd9, z_bnd10, z_bnd11, z_bnd12, z_bnd13, z_bnd14, z_bnd15, z_bnd16, z_max, z_min, z_n31, z_shl, z_shr, z_us, z_div, z_mod, z_and, z_or, z_xor, if_true, if_false, n0, e1, e2, e3, l1, l2, l3, e4, g1]
        exact step 0 _ _ LT1 rfl g2 (fun x hx => by rw [g3 x hx, z_updN hx])
theorem prs_ltk {b L D ml ds lp lt : Nat → Nat} {fr to : Nat} (P : prs b L D ml ds lp lt fr to) (hm : ∀ p, fr ≤ p → p < to → (ml p = 0 ∨ (3 ≤ ml p ∧ ml p ≤ 258 ∧ 1 ≤ ds p)) ∧ ds p < 512 ∧ p + ml p ≤ to) : ltk lt ds fr to := by
  intro p h1 h2
  have q := P.2 p h1 h2
  have sf := selk_facts (cst L D lp ds p) (prc (L (b p)) 12 + lp (p + 1)) (ml p - 2)
  rw [q] at sf
  simp only at sf
  have hm := hm p h1 h2
  omega
theorem s_choosePrice (F : Nat) (B fd LT ls_ od ol oi : Nat → Int32) (b L D ml ds : Nat → Nat) (fr to : Nat) (hF : 100000 ≤ F) (hB : byt B b) (hft : fr ≤ to) (hto : to ≤ 512) (hL : ∀ s, s < 286 → L s ≤ 15) (hD : ∀ s, s < 30 → D s ≤ 15) (hfd : fnd fd ml ds fr to) (hoi : ∀ s, s < 256 → oi s = nI (prc (L s) 12)) (hol : ∀ n, 3 ≤ n → n < 259 → ol n = nI (pml L n)) (hod : ∀ s, s < 30 → od s = nI (prc (D s) 6 + tbn 3 s)) : ∃ (lp lt : Nat → Nat) (LT' ls' : Nat → Int32), m_Prices_choose F 512 B fd LT ls_ od ol oi (nI fr) (nI to) = some (LT', ls') ∧ prs b L D ml ds lp lt fr to ∧ (∀ x, fr ≤ x → x ≤ to → lp x ≤ 15 * (to - x)) ∧ (∀ x, fr ≤ x → x < to → LT' x = nI (lt x)) := by
  obtain ⟨v, lp, lt, LT', ls', e1, g1, g2, g3⟩ := l_ch14 F B fd od ol oi b L D ml ds fr to hF hB hto hL hD hfd hoi hol hod F to (fun _ => 0) (fun _ => 0) LT (upd ls_ to (nI 0)) hft (Nat.le_refl _) (by omega) ⟨rfl, fun x h1 h2 => by omega⟩ (fun x h1 h2 => by
    have : x = to := by omega
    rw [this, z_updE]; exact ⟨rfl, by omega⟩) (fun x h1 h2 => by omega)
  refine ⟨lp, lt, LT', ls', ?_, g1, g2, g3⟩
  unfold m_Prices_choose
  simp (disch := omega) only [nm, z_lit, z_chk, z_tn]
  rw [z_sub1, e1]
  rfl
