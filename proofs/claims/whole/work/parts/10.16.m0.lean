/-! matches -/
/-- how many bytes from q and from p on are the same, k at most -/
def pre (b : Nat → Nat) (q p : Nat) : Nat → Nat
  | 0 => 0
  | k + 1 => if pre b q p k = k ∧ b (q + k) = b (p + k) then k + 1 else pre b q p k
theorem pre_le (b : Nat → Nat) (q p : Nat) : ∀ k, pre b q p k ≤ k := by
  intro k
  induction k with
  | zero => exact Nat.le_refl _
  | succ k ih => rw [pre]; split <;> omega
theorem pre_eq {b : Nat → Nat} {q p : Nat} : ∀ k n, n ≤ k → (∀ j, j < n → b (q + j) = b (p + j)) → (n < k → b (q + n) ≠ b (p + n)) → pre b q p k = n := by
  intro k
  induction k with
  | zero => intro n h _ _; have : n = 0 := by omega
            subst this; rfl
  | succ k ih =>
    intro n h1 h2 h3
    rw [pre]
    by_cases e : n = k + 1
    · subst e
      rw [ih k (Nat.le_refl _) (fun j hj => h2 j (by omega)) (fun h => by omega), if_pos ⟨rfl, h2 k (by omega)⟩]
    · rw [ih n (by omega) h2 (fun h => h3 (by omega))]
      rw [if_neg]
      rintro ⟨e1, e2⟩
      subst e1
      exact h3 (by omega) e2
theorem pre_same {b : Nat → Nat} {q p : Nat} : ∀ k j, j < pre b q p k → b (q + j) = b (p + j) := by
  intro k
  induction k with
  | zero => intro j h; simp [pre] at h
  | succ k ih =>
    intro j h
    rw [pre] at h
    split at h
    · rename_i q1
      by_cases e : j = k
      · rw [e]; exact q1.2
      · exact ih j (by rw [q1.1]; omega)
    · exact ih j h
theorem pre_stop {b : Nat → Nat} {q p : Nat} : ∀ k, pre b q p k < k → b (q + pre b q p k) ≠ b (p + pre b q p k) := by
  intro k
  induction k with
  | zero => intro h; omega
  | succ k ih =>
    intro h
    rw [pre] at h ⊢
    split
    · rename_i q1; rw [if_pos q1] at h; omega
    · rename_i q1
      rw [if_neg q1] at h
      by_cases e : pre b q p k = k
      · rw [e]; exact fun q2 => q1 ⟨e, q2⟩
      · have := pre_le b q p k
        exact ih (by omega)
/-- the same three bytes -/
def th3 (b : Nat → Nat) (q p : Nat) : Prop := b q = b p ∧ b (q + 1) = b (p + 1) ∧ b (q + 2) = b (p + 2)
theorem th3_dec (b : Nat → Nat) (q p : Nat) : th3 b q p ∨ ¬ th3 b q p := Classical.em _
noncomputable def scn (b : Nat → Nat) (p lim most : Nat) : Nat → Nat × Nat × Nat
  | 0 => (0, 0, 0)
  | i + 1 => if (scn b p lim most i).1 < most ∧ b (p - (i + 1)) = b p ∧ b (p - (i + 1) + 1) = b (p + 1) ∧ b (p - (i + 1) + 2) = b (p + 2) then
      ((scn b p lim most i).1 + 1, if (scn b p lim most i).2.1 < pre b (p - (i + 1)) p lim then (pre b (p - (i + 1)) p lim, i + 1) else (scn b p lim most i).2)
    else scn b p lim most i
theorem scn_full {b : Nat → Nat} {p lim most i : Nat} (h : most ≤ (scn b p lim most i).1) : ∀ d, scn b p lim most (i + d) = scn b p lim most i := by
  intro d
  induction d with
  | zero => rfl
  | succ d ih =>
    show scn b p lim most (i + d + 1) = _
    rw [scn, ih, if_neg (by omega)]
theorem scn_skip {b : Nat → Nat} {p lim most i : Nat} : ∀ d, (∀ r, i < r → r ≤ i + d → ¬ th3 b (p - r) p) → scn b p lim most (i + d) = scn b p lim most i := by
  intro d
  induction d with
  | zero => intro _; rfl
  | succ d ih =>
    intro h
    show scn b p lim most (i + d + 1) = _
    rw [scn, ih (fun r h1 h2 => h r h1 (by omega)), if_neg]
    rintro ⟨_, h2, h3, h4⟩
    exact h (i + d + 1) (by omega) (by omega) ⟨h2, h3, h4⟩
theorem scn_facts (b : Nat → Nat) (p lim most : Nat) (hl : 3 ≤ lim) : ∀ i, i ≤ p → (scn b p lim most i).1 ≤ i ∧ (scn b p lim most i).1 ≤ most ∧ ((scn b p lim most i).2.1 = 0 ∧ (scn b p lim most i).2.2 = 0 ∨ (3 ≤ (scn b p lim most i).2.1 ∧ (scn b p lim most i).2.1 ≤ lim ∧ 1 ≤ (scn b p lim most i).2.2 ∧ (scn b p lim most i).2.2 ≤ i)) := by
  intro i
  induction i with
  | zero => intro _; exact ⟨Nat.le_refl _, Nat.zero_le _, Or.inl ⟨rfl, rfl⟩⟩
  | succ i ih =>
    intro hi
    obtain ⟨h1, h2, h3⟩ := ih (by omega)
    rw [scn]
    split
    · rename_i q
      refine ⟨by show _ + 1 ≤ _; omega, by show _ + 1 ≤ _; omega, ?_⟩
      show ((if _ then _ else _ : Nat × Nat).1 = 0 ∧ _) ∨ _
      split
      · right
        have h5 := pre_le b (p - (i + 1)) p lim
        refine ⟨?_, h5, by show 1 ≤ i + 1; omega, Nat.le_refl _⟩
        rcases Nat.lt_or_ge (pre b (p - (i + 1)) p lim) 3 with q2 | q2
        · exfalso
          have h6 := pre_stop (b := b) (q := p - (i + 1)) (p := p) lim (by omega)
          have : pre b (p - (i + 1)) p lim = 0 ∨ pre b (p - (i + 1)) p lim = 1 ∨ pre b (p - (i + 1)) p lim = 2 := by omega
          rcases this with e | e | e
          · rw [e] at h6; exact h6 q.2.1
          · rw [e] at h6; exact h6 q.2.2.1
          · rw [e] at h6; exact h6 q.2.2.2
        · exact q2
      · rcases h3 with h3 | h3
        · exact Or.inl h3
        · exact Or.inr ⟨h3.1, h3.2.1, h3.2.2.1, Nat.le_succ_of_le h3.2.2.2⟩
    · refine ⟨by omega, h2, ?_⟩
      rcases h3 with h3 | h3
      · exact Or.inl h3
      · exact Or.inr ⟨h3.1, h3.2.1, h3.2.2.1, by omega⟩
/-! the class's chains -/
def hsh (b : Nat → Nat) (p : Nat) : Nat := (b p * 37 + b (p + 1) * 101 + b (p + 2)) &&& 255
theorem hsh_lt (b : Nat → Nat) (p : Nat) : hsh b p < 256 := by
  unfold hsh
  rw [show (b p * 37 + b (p + 1) * 101 + b (p + 2)) &&& 255 = (b p * 37 + b (p + 1) * 101 + b (p + 2)) % 256 from Nat.and_two_pow_sub_one_eq_mod _ 8]
  omega
/-- the nearest place below with the same bucket -/
def nbl (b : Nat → Nat) (v : Int32) (p h : Nat) : Prop := (v = m1 ∧ ∀ q, q < p → hsh b q ≠ h) ∨ (∃ q, q < p ∧ v = nI q ∧ hsh b q = h ∧ ∀ r, q < r → r < p → hsh b r ≠ h)
def lnk (b : Nat → Nat) (bl : Nat → Int32) (n : Nat) : Prop := ∀ p, p < n → nbl b (bl p) p (hsh b p)
theorem l_link (F : Nat) (B : Nat → Int32) (b : Nat → Nat) (n : Nat) (hn : n ≤ 512) (hB : byt B b) : ∀ (f p : Nat) (bl bk : Nat → Int32), 514 - p < f → p ≤ 512 → p + 2 ≤ n ∨ p = 0 → lnk b bl p → (∀ h, h < 256 → nbl b (bk h) p h) → ∃ v bl' bk', L_Matches_link_15 F B (nI n) f (nI p) bl bk = some (v, bl', bk') ∧ lnk b bl' (n - 2) := by
  intro f
  induction f with
  | zero => intro p bl bk h; omega
  | succ f ih =>
    intro p bl bk hf hp5 hp I1 I2
    unfold L_Matches_link_15 B_Matches_link_15
    by_cases h : n ≤ p + 2
    · refine ⟨nI p, bl, bk, by simp (disch := omega) only [nm, z_lit, z_one, z_mone, z_neg1, z_neg2, z_pred, z_add, z_mul, z_sub, z_le, z_lt, z_eq, z_tn, z_chk, z_eqm, z_meq, z_lem, z_mle, z_ltm, z_mlt, z_eqq, z_qeq, z_leq, z_qle, z_ltq, z_qlt, z_m1m2, z_m2m1, z_m1m1, z_m2m2, z_bnd1, z_bnd2, z_bnd3, z_bnd4, z_bnd5, z_bnd6, z_bnd7, z_bnd8, z_bnd9, z_bnd10, z_bnd11, z_bnd12, z_bnd13, z_bnd14, z_bnd15, z_bnd16, z_max, z_min, z_n31, z_shl, z_shr, z_us, z_div, z_mod, z_and, z_or, z_xor, if_true, if_false, h], ?_⟩
      intro q hq; exact I1 q (by omega)
    · have e1 := (hB p (by omega)).1
      have e2 := (hB (p + 1) (by omega)).1
      have e3 := (hB (p + 2) (by omega)).1
      have eh : (b p * 37 + b (p + 1) * 101 + b (p + 2)) &&& 255 = hsh b p := rfl
      have hl := hsh_lt b p
      simp (disch := omega) only [nm, z_lit, z_one, z_mone, z_neg1, z_neg2, z_pred, z_add, z_mul, z_sub, z_le, z_lt, z_eq, z_tn, z_chk, z_eqm, z_meq, z_lem, z_mle, z_ltm, z_mlt, z_eqq, z_qeq, z_leq, z_qle, z_ltq, z_qlt, z_m1m2, z_m2m1, z_m1m1, z_m2m2, z_bnd1, z_bnd2, z_bnd3, z_bnd4, z_bnd5, z_bnd6, z_bnd7, z_bnd8, z_bnd9, z_bnd10, z_bnd11, z_bnd12, z_bnd13, z_bnd14, z_bnd15, z_bnd16, z_max, z_min, z_n31, z_shl, z_shr, z_us, z_div, z_mod, z_and, z_or, z_xor, if_true, if_false, h, e1, e2, e3, eh]
      refine ih (p + 1) _ _ (by omega) (by omega) (by omega) (fun q hq => ?_) (fun k hk => ?_)
      · by_cases e : q = p
        · subst e; rw [z_updE]; exact I2 (hsh b q) hl
        · rw [z_updN e]; exact I1 q (by omega)
      · by_cases e : k = hsh b p
        · subst e
          rw [z_updE]
          exact Or.inr ⟨p, by omega, rfl, rfl, fun r h1 h2 => by omega⟩
        · rw [z_updN e]
          rcases I2 k hk with ⟨q1, q2⟩ | ⟨q, q1, q2, q3, q4⟩
          · refine Or.inl ⟨q1, fun r hr => ?_⟩
            by_cases e2 : r = p
            · subst e2; exact fun q => e q.symm
            · exact q2 r (by omega)
          · refine Or.inr ⟨q, by omega, q2, q3, fun r h1 h2 => ?_⟩
            by_cases e2 : r = p
            · subst e2; exact fun q => e q.symm
            · exact q4 r h1 (by omega)
theorem s_link (F : Nat) (bl bk B : Nat → Int32) (b : Nat → Nat) (n : Nat) (hF : 100000 ≤ F) (hn : n ≤ 512) (hB : byt B b) : ∃ bl' bk', m_Matches_link F bl bk B (nI n) = some (nI 0, bl', bk') ∧ lnk b bl' (n - 2) := by
  obtain ⟨v, bl', bk', e1, g1⟩ := l_link F B b n hn hB F 0 bl (fun j => if j < 256 then m1 else bk j) (by omega) (by omega) (Or.inr rfl) (fun p hp => by omega) (fun h hh => Or.inl ⟨by simp only [if_pos hh], fun q hq => by omega⟩)
  refine ⟨bl', bk', ?_, g1⟩
  unfold m_Matches_link
  rw [s_fill2 F 256 _ _ (by omega) (by omega), z_bnd1]
  simp only [z_lit, z_neg1, e1, z_bnd3]
theorem s_three (F : Nat) (B : Nat → Int32) (b : Nat → Nat) (q p : Nat) (hB : byt B b) (hq : q < p) (hp : p + 3 ≤ 512) : (th3 b q p ∧ m_Matches_sameThree F B (nI q) (nI p) = some (nI 1)) ∨ (¬ th3 b q p ∧ m_Matches_sameThree F B (nI q) (nI p) = some (nI 0)) := by
  have e1 := hB p (by omega)
  have e2 := hB (p + 1) (by omega)
  have e3 := hB (p + 2) (by omega)
  have e4 := hB q (by omega)
  have e5 := hB (q + 1) (by omega)
  have e6 := hB (q + 2) (by omega)
  unfold m_Matches_sameThree th3
  by_cases c1 : b q = b p
  · by_cases c2 : b (q + 1) = b (p + 1)
    · by_cases c3 : b (q + 2) = b (p + 2)
      · left; exact ⟨⟨c1, c2, c3⟩, by simp (disch := omega) only [nm, z_lit, z_one, z_mone, z_neg1, z_neg2, z_pred, z_add, z_mul, z_sub, z_le, z_lt, z_eq, z_tn, z_chk, z_eqm, z_meq, z_lem, z_mle, z_ltm, z_mlt, z_eqq, z_qeq, z_leq, z_qle, z_ltq, z_qlt, z_m1m2, z_m2m1, z_m1m1, z_m2m2, z_bnd1, z_bnd2, z_bnd3, z_bnd4, z_bnd5, z_bnd6, z_bnd7, z_bnd8, z_bnd9, z_bnd10, z_bnd11, z_bnd12, z_bnd13, z_bnd14, z_bnd15, z_bnd16, z_max, z_min, z_n31, z_shl, z_shr, z_us, z_div, z_mod, z_and, z_or, z_xor, if_true, if_false, e1.1, e2.1, e3.1, e4.1, e5.1, e6.1, c1, c2, c3]⟩
      · right; exact ⟨fun h => c3 h.2.2, by simp (disch := omega) only [nm, z_lit, z_one, z_mone, z_neg1, z_neg2, z_pred, z_add, z_mul, z_sub, z_le, z_lt, z_eq, z_tn, z_chk, z_eqm, z_meq, z_lem, z_mle, z_ltm, z_mlt, z_eqq, z_qeq, z_leq, z_qle, z_ltq, z_qlt, z_m1m2, z_m2m1, z_m1m1, z_m2m2, z_bnd1, z_bnd2, z_bnd3, z_bnd4, z_bnd5, z_bnd6, z_bnd7, z_bnd8, z_bnd9, z_bnd10, z_bnd11, z_bnd12, z_bnd13, z_bnd14, z_bnd15, z_bnd16, z_max, z_min, z_n31, z_shl, z_shr, z_us, z_div, z_mod, z_and, z_or, z_xor, if_true, if_false, e1.1, e2.1, e3.1, e4.1, e5.1, e6.1, c1, c2, c3]⟩
    · right; exact ⟨fun h => c2 h.2.1, by simp (disch := omega) only [nm, z_lit, z_one, z_mone, z_neg1, z_neg2, z_pred, z_add, z_mul, z_sub, z_le, z_lt, z_eq, z_tn, z_chk, z_eqm, z_meq, z_lem, z_mle, z_ltm, z_mlt, z_eqq, z_qeq, z_leq, z_qle, z_ltq, z_qlt, z_m1m2, z_m2m1, z_m1m1, z_m2m2, z_bnd1, z_bnd2, z_bnd3, z_bnd4, z_bnd5, z_bnd6, z_bnd7, z_bnd8, z_bnd9, z_bnd10, z_bnd11, z_bnd12, z_bnd13, z_bnd14, z_bnd15, z_bnd16, z_max, z_min, z_n31, z_shl, z_shr, z_us, z_div, z_mod, z_and, z_or, z_xor, if_true, if_false, e1.1, e2.1, e4.1, e5.1, c1, c2]⟩
  · right; exact ⟨fun h => c1 h.1, by simp (disch := omega) only [nm, z_lit, z_one, z_mone, z_neg1, z_neg2, z_pred, z_add, z_mul, z_sub, z_le, z_lt, z_eq, z_tn, z_chk, z_eqm, z_meq, z_lem, z_mle, z_ltm, z_mlt, z_eqq, z_qeq, z_leq, z_qle, z_ltq, z_qlt, z_m1m2, z_m2m1, z_m1m1, z_m2m2, z_bnd1, z_bnd2, z_bnd3, z_bnd4, z_bnd5, z_bnd6, z_bnd7, z_bnd8, z_bnd9, z_bnd10, z_bnd11, z_bnd12, z_bnd13, z_bnd14, z_bnd15, z_bnd16, z_max, z_min, z_n31, z_shl, z_shr, z_us, z_div, z_mod, z_and, z_or, z_xor, if_true, if_false, e1.1, e4.1, c1]⟩
theorem l_same30 (F : Nat) (B : Nat → Int32) (b : Nat → Nat) (q p lim : Nat) (hB : byt B b) (hq : q < p) (hp : p + lim ≤ 512) : ∀ (f i : Nat), i ≤ lim → lim - i < f → (∀ j, j < i → b (q + j) = b (p + j)) → L_Matches_sameBytes_30 F B (nI q) (nI p) (nI lim) f (nI i) = some (nI (pre b q p lim)) := by
  intro f
  induction f with
  | zero => intro i _ h; omega
  | succ f ih =>
    intro i hi hf I
    unfold L_Matches_sameBytes_30 B_Matches_sameBytes_30
    by_cases h : lim ≤ i
    · have e : pre b q p lim = i := pre_eq lim i hi I (fun h => by omega)
      rw [e]
      simp (disch := omega) only [nm, z_lit, z_one, z_mone, z_neg1, z_neg2, z_pred, z_add, z_mul, z_sub, z_le, z_lt, z_eq, z_tn, z_chk, z_eqm, z_meq, z_lem, z_mle, z_ltm, z_mlt, z_eqq, z_qeq, z_leq, z_qle, z_ltq, z_qlt, z_m1m2, z_m2m1, z_m1m1, z_m2m2, z_bnd1, z_bnd2, z_bnd3, z_bnd4, z_bnd5, z_bnd6, z_bnd7, z_bnd8, z_bnd9, z_bnd10, z_bnd11, z_bnd12, z_bnd13, z_bnd14, z_bnd15, z_bnd16, z_max, z_min, z_n31, z_shl, z_shr, z_us, z_div, z_mod, z_and, z_or, z_xor, if_true, if_false, h]
    · have e1 := hB (q + i) (by omega)
      have e2 := hB (p + i) (by omega)
      by_cases c : b (q + i) = b (p + i)
      · simp (disch := omega) only [nm, z_lit, z_one, z_mone, z_neg1, z_neg2, z_pred, z_add, z_mul, z_sub, z_le, z_lt, z_eq, z_tn, z_chk, z_eqm, z_meq, z_lem, z_mle, z_ltm, z_mlt, z_eqq, z_qeq, z_leq, z_qle, z_ltq, z_qlt, z_m1m2, z_m2m1, z_m1m1, z_m2m2, z_bnd1, z_bnd2, z_bnd3, z_bnd4, z_bnd5, z_bnd6, z_bnd7, z_bnd8, z_bnd9, z_bnd10, z_bnd11, z_bnd12, z_bnd13, z_bnd14, z_bnd15, z_bnd16, z_max, z_min, z_n31, z_shl, z_shr, z_us, z_div, z_mod, z_and, z_or, z_xor, if_true, if_false, h, e1.1, e2.1, c]
        refine ih (i + 1) (by omega) (by omega) (fun j hj => ?_)
        by_cases e : j = i
        · rw [e]; exact c
        · exact I j (by omega)
      · rw [pre_eq lim i hi I (fun _ => c)]
        simp (disch := omega) only [nm, z_lit, z_one, z_mone, z_neg1, z_neg2, z_pred, z_add, z_mul, z_sub, z_le, z_lt, z_eq, z_tn, z_chk, z_eqm, z_meq, z_lem, z_mle, z_ltm, z_mlt, z_eqq, z_qeq, z_leq, z_qle, z_ltq, z_qlt, z_m1m2, z_m2m1, z_m1m1, z_m2m2, z_bnd1, z_bnd2, z_bnd3, z_bnd4, z_bnd5, z_bnd6, z_bnd7, z_bnd8, z_bnd9, z_bnd10, z_bnd11, z_bnd12, z_bnd13, z_bnd14, z_bnd15, z_bnd16, z_max, z_min, z_n31, z_shl, z_shr, z_us, z_div, z_mod, z_and, z_or, z_xor, if_true, if_false, h, e1.1, e2.1, c]
/-- what sameBytes tells: if it is more than the best, it is the length -/
theorem s_same (F : Nat) (B : Nat → Int32) (b : Nat → Nat) (q p best lim : Nat) (hF : 100000 ≤ F) (hB : byt B b) (hq : q < p) (hp : p + lim ≤ 512) (hl : 3 ≤ lim) (h3 : th3 b q p) (hb : best ≤ lim) : ∃ r, m_Matches_sameBytes F B (nI q) (nI p) (nI best) (nI lim) = some (nI r) ∧ r ≤ lim ∧ (r ≤ best ↔ pre b q p lim ≤ best) ∧ (best < r → r = pre b q p lim) := by
  have pl := pre_le b q p lim
  unfold m_Matches_sameBytes
  by_cases h : lim ≤ best
  · exact ⟨0, by simp (disch := omega) only [nm, z_lit, z_one, z_mone, z_neg1, z_neg2, z_pred, z_add, z_mul, z_sub, z_le, z_lt, z_eq, z_tn, z_chk, z_eqm, z_meq, z_lem, z_mle, z_ltm, z_mlt, z_eqq, z_qeq, z_leq, z_qle, z_ltq, z_qlt, z_m1m2, z_m2m1, z_m1m1, z_m2m2, z_bnd1, z_bnd2, z_bnd3, z_bnd4, z_bnd5, z_bnd6, z_bnd7, z_bnd8, z_bnd9, z_bnd10, z_bnd11, z_bnd12, z_bnd13, z_bnd14, z_bnd15, z_bnd16, z_max, z_min, z_n31, z_shl, z_shr, z_us, z_div, z_mod, z_and, z_or, z_xor, if_true, if_false, h], by omega, ⟨fun _ => by omega, fun _ => by omega⟩, fun q => by omega⟩
  · have e1 := hB (q + best) (by omega)
    have e2 := hB (p + best) (by omega)
    by_cases c : b (q + best) = b (p + best)
    · have e3 := l_same30 F B b q p lim hB hq hp F 3 hl (by omega) (fun j hj => by
        have : j = 0 ∨ j = 1 ∨ j = 2 := by omega
        rcases this with rfl | rfl | rfl
        · exact h3.1
        · exact h3.2.1
        · exact h3.2.2)
      exact ⟨pre b q p lim, by simp (disch := omega) only [nm, z_lit, z_one, z_mone, z_neg1, z_neg2, z_pred, z_add, z_mul, z_sub, z_le, z_lt, z_eq, z_tn, z_chk, z_eqm, z_meq, z_lem, z_mle, z_ltm, z_mlt, z_eqq, z_qeq, z_leq, z_qle, z_ltq, z_qlt, z_m1m2, z_m2m1, z_m1m1, z_m2m2, z_bnd1, z_bnd2, z_bnd3, z_bnd4, z_bnd5, z_bnd6, z_bnd7, z_bnd8, z_bnd9, z_bnd10, z_bnd11, z_bnd12, z_bnd13, z_bnd14, z_bnd15, z_bnd16, z_max, z_min, z_n31, z_shl, z_shr, z_us, z_div, z_mod, z_and, z_or, z_xor, if_true, if_false, h, e1.1, e2.1, c, e3], pl, Iff.rfl, fun _ => rfl⟩
    · refine ⟨0, by simp (disch := omega) only [nm, z_lit, z_one, z_mone, z_neg1, z_neg2, z_pred, z_add, z_mul, z_sub, z_le, z_lt, z_eq, z_tn, z_chk, z_eqm, z_meq, z_lem, z_mle, z_ltm, z_mlt, z_eqq, z_qeq, z_leq, z_qle, z_ltq, z_qlt, z_m1m2, z_m2m1, z_m1m1, z_m2m2, z_bnd1, z_bnd2, z_bnd3, z_bnd4, z_bnd5, z_bnd6, z_bnd7, z_bnd8, z_bnd9, z_bnd10, z_bnd11, z_bnd12, z_bnd13, z_bnd14, z_bnd15, z_bnd16, z_max, z_min, z_n31, z_shl, z_shr, z_us, z_div, z_mod, z_and, z_or, z_xor, if_true, if_false, h, e1.1, e2.1, c], by omega, ⟨fun _ => ?_, fun _ => by omega⟩, fun q => by omega⟩
      rcases Nat.lt_or_ge best (pre b q p lim) with q2 | q2
      · exact absurd (pre_same (b := b) (q := q) (p := p) lim best q2) c
      · exact q2
theorem th3_hsh {b : Nat → Nat} {q p : Nat} (h : th3 b q p) : hsh b q = hsh b p := by
  unfold hsh; rw [h.1, h.2.1, h.2.2]
/-- the loop over a chain: all places above p - i are looked at -/
theorem l_long (F : Nat) (bl B : Nat → Int32) (b : Nat → Nat) (n p lim most : Nat) (hF : 100000 ≤ F) (hB : byt B b) (hl : 3 ≤ lim) (hp : p + lim ≤ 512) (hpn : p + 3 ≤ n) (hm : most ≤ 36) (hlk : lnk b bl (n - 2)) : ∀ (f i k : Nat) (v : Int32), i ≤ p → p - i < f → k ≤ i → (v = m1 ∧ (∀ r, i < r → r ≤ p → hsh b (p - r) ≠ hsh b p) ∨ ∃ q, q + i < p ∧ v = nI q ∧ hsh b q = hsh b p ∧ ∀ r, i < r → r < p - q → hsh b (p - r) ≠ hsh b p) → ∃ (v' v'' : Int32), L_Matches_longestAt_20 F bl B (nI p) (nI lim) (nI most) f (nI (scn b p lim most i).2.1) (nI (scn b p lim most i).2.2) (nI (scn b p lim most i).1) v (nI k) = some (nI (scn b p lim most p).2.1, nI (scn b p lim most p).2.2, nI (scn b p lim most p).1, v', v'') := by
  intro f
  induction f with
  | zero => intro i k v _ h; omega
  | succ f ih =>
    intro i k v hi hf hk hv
    obtain ⟨sf1, sf2, sf3⟩ := scn_facts b p lim most hl i hi
    unfold L_Matches_longestAt_20 B_Matches_longestAt_20
    rcases hv with ⟨rfl, hr⟩ | ⟨q, hqi, rfl, hh, hr⟩
    · have e : scn b p lim most p = scn b p lim most i := by
        have := scn_skip (b := b) (p := p) (lim := lim) (most := most) (i := i) (p - i) (fun r h1 h2 h3 => hr r h1 (by omega) (th3_hsh h3))
        have e2 : i + (p - i) = p := by omega
        rw [e2] at this; exact this
      rw [e]
      by_cases hpk : p ≤ k
      · exact ⟨_, _, by simp (disch := omega) only [nm, z_lit, z_one, z_mone, z_neg1, z_neg2, z_pred, z_add, z_mul, z_sub, z_le, z_lt, z_eq, z_tn, z_chk, z_eqm, z_meq, z_lem, z_mle, z_ltm, z_mlt, z_eqq, z_qeq, z_leq, z_qle, z_ltq, z_qlt, z_m1m2, z_m2m1, z_m1m1, z_m2m2, z_bnd1, z_bnd2, z_bnd3, z_bnd4, z_bnd5, z_bnd6, z_bnd7, z_bnd8, z_bnd9, z_bnd10, z_bnd11, z_bnd12, z_bnd13, z_bnd14, z_bnd15, z_bnd16, z_max, z_min, z_n31, z_shl, z_shr, z_us, z_div, z_mod, z_and, z_or, z_xor, if_true, if_false, hpk]; rfl⟩
      · exact ⟨_, _, by simp (disch := omega) only [nm, z_lit, z_one, z_mone, z_neg1, z_neg2, z_pred, z_add, z_mul, z_sub, z_le, z_lt, z_eq, z_tn, z_chk, z_eqm, z_meq, z_lem, z_mle, z_ltm, z_mlt, z_eqq, z_qeq, z_leq, z_qle, z_ltq, z_qlt, z_m1m2, z_m2m1, z_m1m1, z_m2m2, z_bnd1, z_bnd2, z_bnd3, z_bnd4, z_bnd5, z_bnd6, z_bnd7, z_bnd8, z_bnd9, z_bnd10, z_bnd11, z_bnd12, z_bnd13, z_bnd14, z_bnd15, z_bnd16, z_max, z_min, z_n31, z_shl, z_shr, z_us, z_div, z_mod, z_and, z_or, z_xor, if_true, if_false, hpk]; rfl⟩
    · have hpk : ¬ (p ≤ k) := by omega
      have nq : ¬ (q < 0) := by omega
      by_cases hfull : most ≤ (scn b p lim most i).1
      · have e : scn b p lim most p = scn b p lim most i := by
          have := scn_full hfull (p - i)
          have e2 : i + (p - i) = p := by omega
          rw [e2] at this; exact this
        rw [e]
        exact ⟨_, _, by simp (disch := omega) only [nm, z_lit, z_one, z_mone, z_neg1, z_neg2, z_pred, z_add, z_mul, z_sub, z_le, z_lt, z_eq, z_tn, z_chk, z_eqm, z_meq, z_lem, z_mle, z_ltm, z_mlt, z_eqq, z_qeq, z_leq, z_qle, z_ltq, z_qlt, z_m1m2, z_m2m1, z_m1m1, z_m2m2, z_bnd1, z_bnd2, z_bnd3, z_bnd4, z_bnd5, z_bnd6, z_bnd7, z_bnd8, z_bnd9, z_bnd10, z_bnd11, z_bnd12, z_bnd13, z_bnd14, z_bnd15, z_bnd16, z_max, z_min, z_n31, z_shl, z_shr, z_us, z_div, z_mod, z_and, z_or, z_xor, if_true, if_false, hpk, nq, hfull]; rfl⟩
      · -- up to q nothing more is found
        have e0 : scn b p lim most (p - q - 1) = scn b p lim most i := by
          have := scn_skip (b := b) (p := p) (lim := lim) (most := most) (i := i) (p - q - 1 - i) (fun r h1 h2 h3 => hr r h1 (by omega) (th3_hsh h3))
          have e2 : i + (p - q - 1 - i) = p - q - 1 := by omega
          rw [e2] at this; exact this
        have ei : p - q = (p - q - 1) + 1 := by omega
        have epq : p - (p - q - 1 + 1) = q := by omega
        have es : scn b p lim most (p - q) = if (scn b p lim most i).1 < most ∧ b q = b p ∧ b (q + 1) = b (p + 1) ∧ b (q + 2) = b (p + 2) then ((scn b p lim most i).1 + 1, if (scn b p lim most i).2.1 < pre b q p lim then (pre b q p lim, p - q) else (scn b p lim most i).2) else scn b p lim most i := by
          rw [ei, scn, e0, epq]
        -- the next one of the chain
        have nx : ∃ v', bl q = v' ∧ (v' = m1 ∧ (∀ r, p - q < r → r ≤ p → hsh b (p - r) ≠ hsh b p) ∨ ∃ q', q' + (p - q) < p ∧ v' = nI q' ∧ hsh b q' = hsh b p ∧ ∀ r, p - q < r → r < p - q' → hsh b (p - r) ≠ hsh b p) := by
          refine ⟨bl q, rfl, ?_⟩
          rcases hlk q (by omega) with ⟨c1, c2⟩ | ⟨q', c1, c2, c3, c4⟩
          · exact Or.inl ⟨c1, fun r h1 h2 => by rw [← hh]; exact c2 (p - r) (by omega)⟩
          · exact Or.inr ⟨q', by omega, c2, by rw [c3, hh], fun r h1 h2 => by rw [← hh]; exact c4 (p - r) (by omega) (by omega)⟩
        obtain ⟨v', ev', hv'⟩ := nx
        have go := ih (p - q) (k + 1) v' (by omega) (by omega) (by omega) hv'
        rcases s_three F B b q p hB (by omega) (by omega) with ⟨c, ec⟩ | ⟨c, ec⟩
        · obtain ⟨r, er, br, r1, r2⟩ := s_same F B b q p (scn b p lim most i).2.1 lim hF hB (by omega) hp hl c (by omega)
          rw [if_pos ⟨by omega, c⟩] at es
          have n10 : ¬ (1 = 0) := by omega
          by_cases hle : r ≤ (scn b p lim most i).2.1
          · have n1 : ¬ ((scn b p lim most i).2.1 < pre b q p lim) := by have := r1.mp hle; omega
            rw [if_neg n1] at es
            rw [es] at go
            simp (disch := omega) only [nm, z_lit, z_one, z_mone, z_neg1, z_neg2, z_pred, z_add, z_mul, z_sub, z_le, z_lt, z_eq, z_tn, z_chk, z_eqm, z_meq, z_lem, z_mle, z_ltm, z_mlt, z_eqq, z_qeq, z_leq, z_qle, z_ltq, z_qlt, z_m1m2, z_m2m1, z_m1m1, z_m2m2, z_bnd1, z_bnd2, z_bnd3, z_bnd4, z_bnd5, z_bnd6, z_bnd7, z_bnd8, z_bnd9, z_bnd10, z_bnd11, z_bnd12, z_bnd13, z_bnd14, z_bnd15, z_bnd16, z_max, z_min, z_n31, z_shl, z_shr, z_us, z_div, z_mod, z_and, z_or, z_xor, if_true, if_false, hpk, nq, hfull, ec, n10, er, hle, ev']
            exact go
          · have n1 : (scn b p lim most i).2.1 < pre b q p lim := by
              rcases Nat.lt_or_ge (scn b p lim most i).2.1 (pre b q p lim) with q1 | q1
              · exact q1
              · exact absurd (r1.mpr q1) hle
            have e9 := r2 (by omega)
            rw [if_pos n1, ← e9] at es
            rw [es] at go
            simp (disch := omega) only [nm, z_lit, z_one, z_mone, z_neg1, z_neg2, z_pred, z_add, z_mul, z_sub, z_le, z_lt, z_eq, z_tn, z_chk, z_eqm, z_meq, z_lem, z_mle, z_ltm, z_mlt, z_eqq, z_qeq, z_leq, z_qle, z_ltq, z_qlt, z_m1m2, z_m2m1, z_m1m1, z_m2m2, z_bnd1, z_bnd2, z_bnd3, z_bnd4, z_bnd5, z_bnd6, z_bnd7, z_bnd8, z_bnd9, z_bnd10, z_bnd11, z_bnd12, z_bnd13, z_bnd14, z_bnd15, z_bnd16, z_max, z_min, z_n31, z_shl, z_shr, z_us, z_div, z_mod, z_and, z_or, z_xor, if_true, if_false, hpk, nq, hfull, ec, n10, er, hle, ev']
            exact go
        · rw [if_neg (fun h => c h.2)] at es
          rw [es] at go
          simp (disch := omega) only [nm, z_lit, z_one, z_mone, z_neg1, z_neg2, z_pred, z_add, z_mul, z_sub, z_le, z_lt, z_eq, z_tn, z_chk, z_eqm, z_meq, z_lem, z_mle, z_ltm, z_mlt, z_eqq, z_qeq, z_leq, z_qle, z_ltq, z_qlt, z_m1m2, z_m2m1, z_m1m1, z_m2m2, z_bnd1, z_bnd2, z_bnd3, z_bnd4, z_bnd5, z_bnd6, z_bnd7, z_bnd8, z_bnd9, z_bnd10, z_bnd11, z_bnd12, z_bnd13, z_bnd14, z_bnd15, z_bnd16, z_max, z_min, z_n31, z_shl, z_shr, z_us, z_div, z_mod, z_and, z_or, z_xor, if_true, if_false, hpk, nq, hfull, ec, ev']
          exact go
theorem s_long (F : Nat) (bl B : Nat → Int32) (b : Nat → Nat) (n p lim most st : Nat) (hF : 100000 ≤ F) (hB : byt B b) (hl : 3 ≤ lim) (hl2 : lim ≤ 258) (hp : p + lim ≤ 512) (hpn : p + 3 ≤ n) (hm : most ≤ 36) (hlk : lnk b bl (n - 2)) : m_Matches_longestAt F bl B (nI st) (nI p) (nI lim) (nI most) = some (nI ((scn b p lim most p).2.1 * 65536 + (scn b p lim most p).2.2), nI (st + (scn b p lim most p).1)) := by
  obtain ⟨v', v'', e1⟩ := l_long F bl B b n p lim most hF hB hl hp hpn hm hlk F 0 0 (bl p) (by omega) (by omega) (by omega) (by
    rcases hlk p (by omega) with ⟨c1, c2⟩ | ⟨q', c1, c2, c3, c4⟩
    · exact Or.inl ⟨c1, fun r h1 h2 => c2 (p - r) (by omega)⟩
    · exact Or.inr ⟨q', by omega, c2, c3, fun r h1 h2 => c4 (p - r) (by omega) (by omega)⟩)
  obtain ⟨sf1, sf2, sf3⟩ := scn_facts b p lim most hl p (Nat.le_refl _)
  have e2 : scn b p lim most 0 = (0, 0, 0) := rfl
  rw [e2] at e1
  have e3 := s_mtok F (scn b p lim most p).2.1 (scn b p lim most p).2.2 (by omega) (by omega)
  unfold m_Matches_longestAt
  simp (disch := omega) only [nm, z_lit, z_one, z_mone, z_neg1, z_neg2, z_pred, z_add, z_mul, z_sub, z_le, z_lt, z_eq, z_tn, z_chk, z_eqm, z_meq, z_lem, z_mle, z_ltm, z_mlt, z_eqq, z_qeq, z_leq, z_qle, z_ltq, z_qlt, z_m1m2, z_m2m1, z_m1m1, z_m2m2, z_bnd1, z_bnd2, z_bnd3, z_bnd4, z_bnd5, z_bnd6, z_bnd7, z_bnd8, z_bnd9, z_bnd10, z_bnd11, z_bnd12, z_bnd13, z_bnd14, z_bnd15, z_bnd16, z_max, z_min, z_n31, z_shl, z_shr, z_us, z_div, z_mod, z_and, z_or, z_xor, if_true, if_false, e1, e3]
