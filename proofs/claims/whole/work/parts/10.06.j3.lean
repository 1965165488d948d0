/-! joining: depths; what the lengths of a code are -/
def dp (a : Nat → Nat) (r : Nat) : Nat → Nat → Nat
  | 0, _ => 0
  | k + 1, i => if i = r then 0 else dp a r k (a i) + 1
theorem dp_eq {a : Nat → Nat} {r : Nat} (ha : ∀ i, i < r → i < a i ∧ a i ≤ r) : ∀ (k k' i : Nat), i ≤ r → r - i < k → r - i < k' → dp a r k i = dp a r k' i := by
  intro k
  induction k with
  | zero => intro k' i _ h; omega
  | succ k ih =>
    intro k' i hi h1 h2
    obtain ⟨q, rfl⟩ : ∃ q, k' = q + 1 := ⟨k' - 1, by omega⟩
    unfold dp
    by_cases e : i = r
    · rw [if_pos e, if_pos e]
    · rw [if_neg e, if_neg e]
      have := ha i (by omega)
      rw [ih q (a i) this.2 (by omega) (by omega)]
/-- how often a node was joined -/
def dpt (a : Nat → Nat) (r i : Nat) : Nat := dp a r (r + 1) i
theorem dpt_r (a : Nat → Nat) (r : Nat) : dpt a r r = 0 := by unfold dpt dp; rw [if_pos rfl]
theorem dpt_s {a : Nat → Nat} {r i : Nat} (ha : ∀ i, i < r → i < a i ∧ a i ≤ r) (hi : i < r) : dpt a r i = dpt a r (a i) + 1 := by
  have h := ha i hi
  unfold dpt
  rw [dp_eq ha (r + 1) r (a i) h.2 (by omega) (by omega)]
  show (if i = r then 0 else dp a r r (a i) + 1) = _
  rw [if_neg (by omega)]
theorem dpt_le {a : Nat → Nat} {r : Nat} (ha : ∀ i, i < r → i < a i ∧ a i ≤ r) : ∀ (k i : Nat), i ≤ r → r - i ≤ k → dpt a r i ≤ r - i := by
  intro k
  induction k with
  | zero => intro i h1 h2; have e : i = r := by omega
            subst e; rw [dpt_r]; omega
  | succ k ih =>
    intro i h1 h2
    by_cases e : i = r
    · subst e; rw [dpt_r]; omega
    · have h := ha i (by omega)
      rw [dpt_s ha (by omega)]
      have := ih (a i) h.2 (by omega)
      omega
/-- the tree of a code -/
def htree (c o w a : Nat → Nat) (m n : Nat) : Prop := (∀ i, i < m → w i = c (o i)) ∧ (∀ t, t + 1 < m → ∃ x y, jst w a o m n t x y) ∧ (∀ i, i < 2 * m - 2 → i < a i ∧ m ≤ a i ∧ a i < 2 * m - 1) ∧ w (2 * m - 2) = sm c 0 n ∧ (∀ i, i < 2 * m - 1 → w i ≤ sm c 0 n) ∧ 2 * m ≤ a (2 * m - 2)
/-- d are the lengths of the code for the counts c of n symbols -/
def huff (c : Nat → Nat) (n : Nat) (d : Nat → Nat) : Prop := ∃ (o : Nat → Nat) (m : Nat), srt c o m n ∧ (∀ k, k < n → c k = 0 → d k = 0) ∧ (m = 1 → d (o 0) = 1) ∧ (2 ≤ m → ∃ w a, htree c o w a m n ∧ ∀ i, i < m → d (o i) = dpt a (2 * m - 2) i)
theorem srt_inj {c o : Nat → Nat} {m n : Nat} (H : srt c o m n) {i j : Nat} (hi : i < m) (hj : j < m) (h : o i = o j) : i = j := by
  rcases Nat.lt_trichotomy i j with q | q | q
  · have := H.1 i j q hj; rw [h] at this; omega
  · exact q
  · have := H.1 j i q hi; rw [h] at this; omega
theorem z_m1add : nI 0 + m1 = m1 := rfl
theorem l_tell (F N m n : Nat) (c o a : Nat → Nat) (ab od : Nat → Int32) (H : srt c o m n) (hn : n ≤ 286) (hN : n ≤ N) (hm : 2 ≤ m) (ha : ∀ i, i < 2 * m - 2 → i < a i ∧ a i ≤ 2 * m - 2) (hab : ∀ i, i < 2 * m - 2 → ab i = nI (a i)) (hod : ∀ i, i < m → od i = nI (o i)) : ∀ (f k : Nat) (p q : Nat → Int32), k ≤ 2 * m - 2 → k < f → (∀ i, k ≤ i → i ≤ 2 * m - 2 → q i = nI (dpt a (2 * m - 2) i)) → ∃ p' q', L_Joiner_tellDepths_17 F N ab od (nI m) f (nI k + m1) p q = some (m1, p', q') ∧ (∀ i, i < m → i < k → p' (o i) = nI (dpt a (2 * m - 2) i)) ∧ (∀ s, (∀ i, i < m → i < k → o i ≠ s) → p' s = p s) := by
  intro f
  induction f with
  | zero => intro k p q _ h; omega
  | succ f ih =>
    intro k p q hk hf hq
    have hmn := H.2.2.2.1
    unfold L_Joiner_tellDepths_17 B_Joiner_tellDepths_17
    by_cases h0 : k = 0
    · subst h0
      refine ⟨p, q, ?_, fun i _ h => by omega, fun s _ => rfl⟩
      simp (disch := omega) only [nm, z_lit, z_one, z_mone, z_neg1, z_neg2, z_pred, z_add, z_mul, z_sub, z_le, z_lt, z_eq, z_tn, z_chk, z_eqm, z_meq, z_lem, z_mle, z_ltm, z_mlt, z_eqq, z_qeq, z_leq, z_qle, z_ltq, z_qlt, z_m1m2, z_m2m1, z_m1m1, z_m2m2, z_bnd1, z_bnd2, z_bnd3, z_bnd4, z_bnd5, z_bnd6, z_bnd7, z_bnd8, z_bnd9, z_bnd10, z_bnd11, z_bnd12, z_bnd13, z_bnd14, z_bnd15, z_bnd16, z_max, z_min, z_n31, z_shl, z_shr, z_us, z_div, z_mod, z_and, z_or, z_xor, if_true, if_false, z_m1add]
    · obtain ⟨i, rfl⟩ : ∃ i, k = i + 1 := ⟨k - 1, by omega⟩
      have e0 : nI (i + 1) + m1 = nI i := by rw [z_pred (by omega), Nat.add_sub_cancel]
      have h1 := ha i (by omega)
      have e1 := hab i (by omega)
      have e2 := hq (a i) (by omega) h1.2
      have e3 := dpt_s ha (i := i) (by omega)
      have n0 : ¬ (i < 0) := by omega
      rw [e0]
      have hq' : ∀ x, i ≤ x → x ≤ 2 * m - 2 → upd q i (nI (dpt a (2 * m - 2) (a i) + 1)) x = nI (dpt a (2 * m - 2) x) := fun x hx1 hx2 => by
        by_cases ex : x = i
        · rw [ex, z_updE, e3]
        · rw [z_updN ex]; exact hq x (by omega) hx2
      by_cases hmi : m ≤ i
      · simp (disch := omega) only [nm, z_lit, z_one, z_mone, z_neg1, z_neg2, z_add, z_mul, z_sub, z_le, z_lt, z_eq, z_tn, z_chk, z_eqm, z_meq, z_lem, z_mle, z_ltm, z_mlt, z_eqq, z_qeq, z_leq, z_qle, z_ltq, z_qlt, z_m1m2, z_m2m1, z_m1m1, z_m2m2, z_bnd1, z_bnd2, z_bnd3, z_bnd4, z_bnd5, z_bnd6, z_bnd7, z_bnd8, z_bnd9, z_bnd10, z_bnd11, z_bnd12, z_bnd13, z_bnd14, z_bnd15, z_bnd16, z_max, z_min, z_n31, z_shl, z_shr, z_us, z_div, z_mod, z_and, z_or, z_xor, if_true, if_false, n0, e1, e2, hmi]
        obtain ⟨p', q', g1, g2, g3⟩ := ih i p _ (by omega) (by omega) hq'
        exact ⟨p', q', g1, fun x h4 h5 => g2 x h4 (by omega), fun s hs => g3 s (fun x h4 h5 => hs x h4 (by omega))⟩
      · have e4 := hod i (by omega)
        have b4 := (H.2.1 i (by omega)).1
        have e5 : upd q i (nI (dpt a (2 * m - 2) (a i) + 1)) i = nI (dpt a (2 * m - 2) (a i) + 1) := z_updE
        simp (disch := omega) only [nm, z_lit, z_one, z_mone, z_neg1, z_neg2, z_add, z_mul, z_sub, z_le, z_lt, z_eq, z_tn, z_chk, z_eqm, z_meq, z_lem, z_mle, z_ltm, z_mlt, z_eqq, z_qeq, z_leq, z_qle, z_ltq, z_qlt, z_m1m2, z_m2m1, z_m1m1, z_m2m2, z_bnd1, z_bnd2, z_bnd3, z_bnd4, z_bnd5, z_bnd6, z_bnd7, z_bnd8, z_bnd9, z_bnd10, z_bnd11, z_bnd12, z_bnd13, z_bnd14, z_bnd15, z_bnd16, z_max, z_min, z_n31, z_shl, z_shr, z_us, z_div, z_mod, z_and, z_or, z_xor, if_true, if_false, n0, e1, e2, e4, e5, hmi]
        obtain ⟨p', q', g1, g2, g3⟩ := ih i _ _ (by omega) (by omega) hq'
        refine ⟨p', q', g1, fun x h4 h5 => ?_, fun s hs => ?_⟩
        · by_cases ex : x = i
          · subst ex
            rw [g3 (o x) (fun y h6 h7 h8 => by have := srt_inj H h6 h4 h8; omega), z_updE, e3]
          · exact g2 x h4 (by omega)
        · rw [g3 s (fun x h4 h5 => hs x h4 (by omega)), z_updN (fun e => hs i (by omega) (by omega) e.symm)]
/-- the class's join -/
theorem s_join (F N : Nat) (p len ab od wt : Nat → Int32) (c : Nat → Nat) (hp : ∀ j, j < N → p j = nI (c j)) (hT : sm c 0 N < 1000000) (hN : N ≤ 286) (hF : 100000 ≤ F) : ∃ (d : Nat → Nat) (len' ab' od' wt' : Nat → Int32), m_Joiner_join F N p len ab od wt = some (len', ab', od', wt') ∧ huff c N d ∧ (∀ k, k < N → len' k = nI (d k)) := by
  have hcB : ∀ j, j < N → c j < 1000000 := fun j hj => Nat.lt_of_le_of_lt (sm_mem (w := c) (a := 0) (k := N) (i := j) (by omega) (by omega)) hT
  obtain ⟨m, od', o, e1, H, ho⟩ := s_sort F N p od c hp hcB hN hF
  have hmn := H.2.2.2.1
  unfold m_Joiner_join
  rw [s_fill2 F N _ len (by omega) (by omega)]
  simp only [z_bnd1, e1, z_bnd2]
  by_cases hm1 : m = 1
  · subst hm1
    have e2 := ho 0 (by omega)
    have b2 := (H.2.1 0 (by omega)).1
    simp (disch := omega) only [nm, z_lit, z_one, z_mone, z_neg1, z_neg2, z_pred, z_add, z_mul, z_sub, z_le, z_lt, z_eq, z_tn, z_chk, z_eqm, z_meq, z_lem, z_mle, z_ltm, z_mlt, z_eqq, z_qeq, z_leq, z_qle, z_ltq, z_qlt, z_m1m2, z_m2m1, z_m1m1, z_m2m2, z_bnd1, z_bnd2, z_bnd3, z_bnd4, z_bnd5, z_bnd6, z_bnd7, z_bnd8, z_bnd9, z_bnd10, z_bnd11, z_bnd12, z_bnd13, z_bnd14, z_bnd15, z_bnd16, z_max, z_min, z_n31, z_shl, z_shr, z_us, z_div, z_mod, z_and, z_or, z_xor, if_true, if_false, e2, Nat.le_refl]
    refine ⟨fun k => if k = o 0 then 1 else 0, _, _, _, _, rfl, ⟨o, 1, H, fun k hk hc => ?_, fun _ => if_pos rfl, fun h => by omega⟩, fun k hk => ?_⟩
    · have : 0 < c (o 0) := (H.2.1 0 (by omega)).2
      simp only
      rw [if_neg (fun e => by rw [e] at hc; omega)]
    · unfold upd
      by_cases e : k = o 0
      · simp only [if_pos e]
      · simp only [if_neg e, if_pos hk]
  · by_cases hm2 : m ≤ 1
    · simp (disch := omega) only [nm, z_lit, z_one, z_mone, z_neg1, z_neg2, z_pred, z_add, z_mul, z_sub, z_le, z_lt, z_eq, z_tn, z_chk, z_eqm, z_meq, z_lem, z_mle, z_ltm, z_mlt, z_eqq, z_qeq, z_leq, z_qle, z_ltq, z_qlt, z_m1m2, z_m2m1, z_m1m1, z_m2m2, z_bnd1, z_bnd2, z_bnd3, z_bnd4, z_bnd5, z_bnd6, z_bnd7, z_bnd8, z_bnd9, z_bnd10, z_bnd11, z_bnd12, z_bnd13, z_bnd14, z_bnd15, z_bnd16, z_max, z_min, z_n31, z_shl, z_shr, z_us, z_div, z_mod, z_and, z_or, z_xor, if_true, if_false, hm1, hm2]
      refine ⟨fun _ => 0, _, _, _, _, rfl, ⟨o, m, H, fun _ _ _ => rfl, fun h => by omega, fun h => by omega⟩, fun k hk => ?_⟩
      simp only [if_pos hk]
    · simp (disch := omega) only [nm, z_lit, z_one, z_mone, z_neg1, z_neg2, z_pred, z_add, z_mul, z_sub, z_le, z_lt, z_eq, z_tn, z_chk, z_eqm, z_meq, z_lem, z_mle, z_ltm, z_mlt, z_eqq, z_qeq, z_leq, z_qle, z_ltq, z_qlt, z_m1m2, z_m2m1, z_m1m1, z_m2m2, z_bnd1, z_bnd2, z_bnd3, z_bnd4, z_bnd5, z_bnd6, z_bnd7, z_bnd8, z_bnd9, z_bnd10, z_bnd11, z_bnd12, z_bnd13, z_bnd14, z_bnd15, z_bnd16, z_max, z_min, z_n31, z_shl, z_shr, z_us, z_div, z_mod, z_and, z_or, z_xor, if_true, if_false, hm1, hm2]
      unfold m_Joiner_joinInOrder
      obtain ⟨q1, g1, g2⟩ := l_join2 F N m p od' c o hp (fun i hi => ⟨ho i hi, (H.2.1 i hi).1⟩) hN (by omega) F 0 wt (by omega) (by omega)
      have ini : jiv c o (fun i => c (o i)) (fun _ => 1000000) m N (sm c 0 N) 0 0 m := by
        refine ⟨by omega, by omega, by omega, by omega, by omega, fun i _ => rfl, fun i h => by omega, fun i _ => rfl, fun i h1 h2 => by omega, fun i _ _ h => by omega, fun t h => by omega, ?_, fun i hi => ?_⟩
        · have e : m + 0 - m = 0 := by omega
          rw [e, sm, Nat.sub_zero, Nat.add_zero]; exact H.2.2.2.2.1
        · rw [← H.2.2.2.2.1]
          exact sm_mem (w := fun x => c (o x)) (a := 0) (by omega) (by omega)
      obtain ⟨w', a', s', j', g', q', e3, I', hg'⟩ := l_join35 F m N (sm c 0 N) c o H hN hT hF F 0 0 m _ _ q1 ab (by omega) ini (fun i hi => by rw [g2 i, if_pos (by omega)]) (fun i hi => by omega)
      rw [Nat.add_zero] at e3
      simp only [z_lit, g1, z_bnd2, e3, z_bnd5]
      obtain ⟨i1, i2, i3, i4, i5, i6, i7, i8, i9, i10, i11, i12, i13⟩ := I'
      have hj' : ¬ (2 * m - 2 < j') := fun h => by
        have := i7 (2 * m - 2) (by omega)
        omega
      have hs' : s' = m := by omega
      have hj'' : j' = 2 * m - 2 := by omega
      have ha1 : ∀ i, i < 2 * m - 2 → i < a' i ∧ m ≤ a' i ∧ a' i < 2 * m - 1 := fun i hi => by have := i7 i (by omega); omega
      have ha2 : ∀ i, i < 2 * m - 2 → i < a' i ∧ a' i ≤ 2 * m - 2 := fun i hi => by have := ha1 i hi; omega
      unfold m_Joiner_tellDepths
      have b0 : 2 * m - 2 < 572 := by omega
      obtain ⟨p2, q2, e4, r1, r2⟩ := l_tell F N m N c o a' g' od' H hN (Nat.le_refl _) (by omega) ha2 (fun i hi => hg' i (by omega)) ho F (2 * m - 2) (fun j => if j < N then nI 0 else len j) (upd q' (2 * m - 2) (nI 0)) (by omega) (by omega) (fun i h1 h2 => by
        have e : i = 2 * m - 2 := by omega
        rw [e, z_updE, dpt_r])
      have e5 : nI (2 * m - 3) = nI (2 * m - 2) + m1 := by rw [z_pred (by omega)]; congr 1
      simp (disch := omega) only [nm, z_lit, z_one, z_mone, z_neg1, z_neg2, z_add, z_mul, z_sub, z_le, z_lt, z_eq, z_tn, z_chk, z_eqm, z_meq, z_lem, z_mle, z_ltm, z_mlt, z_eqq, z_qeq, z_leq, z_qle, z_ltq, z_qlt, z_m1m2, z_m2m1, z_m1m1, z_m2m2, z_bnd1, z_bnd2, z_bnd3, z_bnd4, z_bnd5, z_bnd6, z_bnd7, z_bnd8, z_bnd9, z_bnd10, z_bnd11, z_bnd12, z_bnd13, z_bnd14, z_bnd15, z_bnd16, z_max, z_min, z_n31, z_shl, z_shr, z_us, z_div, z_mod, z_and, z_or, z_xor, if_true, if_false]
      rw [e5, e4]
      simp only [z_bnd3]
      refine ⟨fun k => (p2 k).toNatClampNeg, _, _, _, _, rfl, ⟨o, m, H, fun k hk hc => ?_, fun h => by omega, fun _ => ⟨w', a', ⟨i6, fun t ht => i11 t (by omega), ha1, ?_, fun i hi => i13 i (by omega), by rw [i8 (2 * m - 2) (by omega)]; omega⟩, fun i hi => ?_⟩⟩, fun k hk => ?_⟩
      · have : p2 k = nI 0 := by
          rw [r2 k (fun i h1 h2 e => by have := (H.2.1 i h1).2; rw [e] at this; omega)]
          simp only [if_pos hk]
        show (p2 k).toNatClampNeg = 0
        rw [this]; rfl
      · rw [hs', hj''] at i12
        have z1 : m - m = 0 := by omega
        have z2 : m + (m - 1) - (2 * m - 2) = 1 := by omega
        rw [z1, z2, sm, sm, sm] at i12
        simpa using i12
      · show (p2 (o i)).toNatClampNeg = _
        rw [r1 i hi (by omega)]
        have := dpt_le ha2 (2 * m) i (by omega) (by omega)
        rw [z_tn (by omega)]
      · show p2 k = nI (p2 k).toNatClampNeg
        by_cases hx : ∃ i, i < m ∧ o i = k
        · obtain ⟨i, hi, rfl⟩ := hx
          rw [r1 i hi (by omega)]
          have := dpt_le ha2 (2 * m) i (by omega) (by omega)
          rw [z_tn (by omega)]
        · have : p2 k = nI 0 := by
            rw [r2 k (fun i h1 h2 e => hx ⟨i, h1, e⟩)]
            simp only [if_pos hk]
          rw [this]; rfl
