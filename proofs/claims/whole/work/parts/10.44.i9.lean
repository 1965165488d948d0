/-! the sets of a block with codes of its own -/
theorem nl_cdn (L : Nat → Nat) {a : Nat} (ha : 1 ≤ a) : ∀ n, nl L a n ≤ cdn L n := by
  intro n
  induction n with
  | zero => exact Nat.le_refl _
  | succ n ih =>
    rw [nl, cdn]
    by_cases c : L n = a
    · rw [if_pos c, if_neg (by omega)]; omega
    · rw [if_neg c]; split <;> omega
theorem nl_cdn2 (L : Nat → Nat) {a b : Nat} (ha : 1 ≤ a) (hb : 1 ≤ b) (hab : a ≠ b) : ∀ n, nl L a n + nl L b n ≤ cdn L n := by
  intro n
  induction n with
  | zero => exact Nat.le_refl _
  | succ n ih =>
    rw [nl, nl, cdn]
    by_cases c : L n = a
    · rw [if_pos c, if_neg (by omega), if_neg (by omega)]; omega
    · rw [if_neg c]
      by_cases c2 : L n = b
      · rw [if_pos c2, if_neg (by omega)]; omega
      · rw [if_neg c2]; split <;> omega
theorem nl_ge (L : Nat → Nat) (m : Nat) {n k : Nat} (hk : k < n) (h : L k = m) : 1 ≤ nl L m n := by
  rcases Nat.eq_zero_or_pos (nl L m n) with q | q
  · exact absurd h (nl_zero q k hk)
  · exact q
theorem one_len (L : Nat → Nat) (n : Nat) (h15 : ∀ k, k < n → L k ≤ 15) (h : cdn L n = 1) : lgm L n 15 = 1 ↔ nl L 1 n = 1 := by
  obtain ⟨g1, g2, g3⟩ := lgm_max L n 15
  constructor
  · intro e
    rcases g2 with g2 | ⟨k, hk, g2⟩
    · omega
    · have := nl_ge L 1 hk (by omega)
      have := nl_cdn L (a := 1) (by omega) n
      omega
  · intro e
    obtain ⟨s, s1, s2, _⟩ := nl_rank L 1 n 0 (by omega)
    have := g1 s s1 (by omega)
    rcases g2 with g2 | ⟨k, hk, g2⟩
    · omega
    · by_cases c : lgm L n 15 = 1
      · exact c
      · have q1 := nl_ge L (lgm L n 15) hk g2
        have q2 := nl_cdn2 L (a := 1) (b := lgm L n 15) (by omega) (by omega) (fun e => c e.symm) n
        omega
theorem cdn_ext {L LM : Nat → Nat} {n nM : Nat} (h1 : ∀ k, k < n → LM k = L k) (h2 : ∀ k, n ≤ k → k < nM → LM k = 0) : ∀ i, n + i ≤ nM → cdn LM (n + i) = cdn L n := by
  intro i
  induction i with
  | zero =>
    intro _
    have : ∀ j, j ≤ n → cdn LM j = cdn L j := by
      intro j
      induction j with
      | zero => intro _; rfl
      | succ j ih => intro hj; rw [cdn, cdn, ih (by omega), h1 j (by omega)]
    exact this n (Nat.le_refl _)
  | succ i ih =>
    intro hi
    show cdn LM (n + i) + (if LM (n + i) = 0 then 0 else 1) = _
    rw [ih (by omega), if_pos (h2 (n + i) (by omega) (by omega))]; rfl
theorem fre_ext {L LM : Nat → Nat} {n nM : Nat} (hn : n ≤ nM) (h1 : ∀ k, k < n → LM k = L k) (h2 : ∀ k, n ≤ k → k < nM → LM k = 0) : ∀ m, fre LM nM m = fre L n m := by
  intro m
  induction m with
  | zero => rfl
  | succ m ih =>
    have := nl_ex2 (m := m + 1) (by omega) h1 h2 (nM - n) (by omega)
    have e : n + (nM - n) = nM := by omega
    rw [e] at this
    rw [fre, fre, ih, this]
theorem l_ur7 (F ln : Nat) (row : Nat → Int32) (hl : ln ≤ 288) : ∀ (f i : Nat) (q : Nat → Int32), i ≤ 288 → 288 - i < f → (∀ j, j < i → q j = if j < ln then row j else nI 0) → ∃ q', L_MD_useRow_7 F (nI ln) row f (nI i) q = some (nI 288, q') ∧ ∀ j, j < 288 → q' j = if j < ln then row j else nI 0 := by
  intro f
  induction f with
  | zero => intros; omega
  | succ f ih =>
    intro i q hi hf I
    unfold L_MD_useRow_7 B_MD_useRow_7
    by_cases h : 288 ≤ i
    · have e : i = 288 := by omega
      subst e
      exact ⟨q, by simp (disch := omega) only [nm, z_lit, z_one, z_mone, z_neg1, z_neg2, z_pred, z_add, z_mul, z_sub, z_le, z_lt, z_eq, z_tn, z_chk, z_eqm, z_meq, z_lem, z_mle, z_ltm, z_mlt, z_eqq, z_qeq, z_leq, z_qle, z_ltq, z_qlt, z_m1m2, z_m2m1, z_m1m1, z_m2m2, z_bnd1, z_bnd2, z_bnd3, z_bnd4, z_bnd5, z_bnd6, z_bnd7, z_bnd8, z_bnd9, z_bnd10, z_bnd11, z_bnd12, z_bnd13, z_bnd14, z_bnd15, z_bnd16, z_max, z_min, z_n31, z_shl, z_shr, z_us, z_div, z_mod, z_and, z_or, z_xor, if_true, if_false, Nat.le_refl], I⟩
    · by_cases c : ln ≤ i
      · simp (disch := omega) only [nm, z_lit, z_one, z_mone, z_neg1, z_neg2, z_pred, z_add, z_mul, z_sub, z_le, z_lt, z_eq, z_tn, z_chk, z_eqm, z_meq, z_lem, z_mle, z_ltm, z_mlt, z_eqq, z_qeq, z_leq, z_qle, z_ltq, z_qlt, z_m1m2, z_m2m1, z_m1m1, z_m2m2, z_bnd1, z_bnd2, z_bnd3, z_bnd4, z_bnd5, z_bnd6, z_bnd7, z_bnd8, z_bnd9, z_bnd10, z_bnd11, z_bnd12, z_bnd13, z_bnd14, z_bnd15, z_bnd16, z_max, z_min, z_n31, z_shl, z_shr, z_us, z_div, z_mod, z_and, z_or, z_xor, if_true, if_false, h, c]
        refine ih (i + 1) _ (by omega) (by omega) (fun j hj => ?_)
        by_cases e : j = i
        · subst e; rw [z_updE, if_neg (by omega)]
        · rw [z_updN e]; exact I j (by omega)
      · simp (disch := omega) only [nm, z_lit, z_one, z_mone, z_neg1, z_neg2, z_pred, z_add, z_mul, z_sub, z_le, z_lt, z_eq, z_tn, z_chk, z_eqm, z_meq, z_lem, z_mle, z_ltm, z_mlt, z_eqq, z_qeq, z_leq, z_qle, z_ltq, z_qlt, z_m1m2, z_m2m1, z_m1m1, z_m2m2, z_bnd1, z_bnd2, z_bnd3, z_bnd4, z_bnd5, z_bnd6, z_bnd7, z_bnd8, z_bnd9, z_bnd10, z_bnd11, z_bnd12, z_bnd13, z_bnd14, z_bnd15, z_bnd16, z_max, z_min, z_n31, z_shl, z_shr, z_us, z_div, z_mod, z_and, z_or, z_xor, if_true, if_false, h, c]
        refine ih (i + 1) _ (by omega) (by omega) (fun j hj => ?_)
        by_cases e : j = i
        · subst e; rw [z_updE, if_pos (by omega)]
        · rw [z_updN e]; exact I j (by omega)
def xl (n : Nat) (L : Nat → Nat) (k : Nat) : Nat := if k < n then L k else 0
theorem l_ur51 (F ln dn : Nat) (row : Nat → Int32) (L : Nat → Nat) (hl : ln ≤ 288) (hd : dn ≤ 32) (hrow : ∀ k, k < dn → row (ln + k) = nI (L k) ∧ L k ≤ 15) : ∀ (f i : Nat) (q : Nat → Int32), i ≤ 32 → 32 - i < f → (∀ j, j < i → q j = nI (xl dn L j)) → ∃ q', L_MD_useRow_51 F (nI dn) (nI ln) row f (nI (cdn (xl dn L) i)) (nI (nl (xl dn L) 1 i)) (nI i) q = some (nI (cdn (xl dn L) 32), nI (nl (xl dn L) 1 32), nI 32, q') ∧ ∀ j, j < 32 → q' j = nI (xl dn L j) := by
  intro f
  induction f with
  | zero => intros; omega
  | succ f ih =>
    intro i q hi hf I
    unfold L_MD_useRow_51 B_MD_useRow_51
    by_cases h : 32 ≤ i
    · have e : i = 32 := by omega
      subst e
      exact ⟨q, by simp (disch := omega) only [nm, z_lit, z_one, z_mone, z_neg1, z_neg2, z_pred, z_add, z_mul, z_sub, z_le, z_lt, z_eq, z_tn, z_chk, z_eqm, z_meq, z_lem, z_mle, z_ltm, z_mlt, z_eqq, z_qeq, z_leq, z_qle, z_ltq, z_qlt, z_m1m2, z_m2m1, z_m1m1, z_m2m2, z_bnd1, z_bnd2, z_bnd3, z_bnd4, z_bnd5, z_bnd6, z_bnd7, z_bnd8, z_bnd9, z_bnd10, z_bnd11, z_bnd12, z_bnd13, z_bnd14, z_bnd15, z_bnd16, z_max, z_min, z_n31, z_shl, z_shr, z_us, z_div, z_mod, z_and, z_or, z_xor, if_true, if_false, Nat.le_refl], I⟩
    · have ev : (if nI dn ≤ nI i then some (0 : Int32) else chk (inb (nI ln + nI i) 330) (some (row (nI ln + nI i).toNatClampNeg))) = some (nI (xl dn L i)) := by
        unfold xl
        by_cases c : dn ≤ i
        · rw [if_pos (by rw [z_le (by omega) (by omega)]; exact c), if_neg (by omega)]; rfl
        · rw [if_neg (by rw [z_le (by omega) (by omega)]; exact c), if_pos (by omega), z_add, z_chk (by omega) (by omega), z_tn (by omega), (hrow i (by omega)).1]
      have xb : xl dn L i ≤ 15 := by
        unfold xl
        by_cases c : i < dn
        · rw [if_pos c]; exact (hrow i c).2
        · rw [if_neg c]; omega
      have z3 : (if nI (xl dn L i) ≤ (0 : Int32) then some (nI (cdn (xl dn L) i)) else some (nI (cdn (xl dn L) i) + (1 : Int32))) = some (nI (cdn (xl dn L) (i + 1))) := by
        rw [cdn]
        by_cases c : xl dn L i = 0
        · rw [if_pos (by rw [c]; decide), if_pos c]; rfl
        · rw [if_neg (by show ¬ (nI _ ≤ nI 0); rw [z_le (by omega) (by omega)]; omega), if_neg c]
          show some (nI _ + nI 1) = _
          rw [z_add]
      have z4 : (if nI (xl dn L i) = (1 : Int32) then some (nI (nl (xl dn L) 1 i) + (1 : Int32)) else some (nI (nl (xl dn L) 1 i))) = some (nI (nl (xl dn L) 1 (i + 1))) := by
        rw [nl]
        by_cases c : xl dn L i = 1
        · rw [if_pos (by rw [c]; decide), if_pos c]
          show some (nI _ + nI 1) = _
          rw [z_add]
        · rw [if_neg (by show ¬ (nI _ = nI 1); rw [z_eq (by omega) (by omega)]; omega), if_neg c]; rfl
      have c32 : ((32 : Int32) ≤ nI i) = False := eq_false (by show ¬ (nI 32 ≤ nI i); rw [z_le (by omega) (by omega)]; exact h)
      obtain ⟨q', r1, r2⟩ := ih (i + 1) (upd q i (nI (xl dn L i))) (by omega) (by omega) (fun j hj => by
        by_cases e : j = i
        · subst e; rw [z_updE]
        · rw [z_updN e]; exact I j (by omega))
      refine ⟨q', ?_, r2⟩
      simp only [c32, if_false]
      rw [ev]
      simp only [z_bnd1, z_chk (show i < 2147483648 by omega) (show i < 32 by omega), z_tn (show i < 2147483648 by omega), nm, z_updE]
      rw [z3, z_bnd1, z4, z_bnd1, z_one, z_add]
      exact r1
theorem s_isFull (F : Nat) (fe : Int32) : m_CodeSet_isFull F fe = some (if fe = nI 0 then nI 1 else nI 0) := by
  unfold m_CodeSet_isFull
  by_cases h : fe = nI 0
  · rw [if_pos (show fe = (0 : Int32) from h), if_pos h]; rfl
  · rw [if_neg (show ¬ (fe = (0 : Int32)) from h), if_neg h]; rfl
/-- a set that may stand for distances -/
def few (L : Nat → Nat) (n : Nat) : Prop := fre L n 15 = 0 ∨ cdn L n = 0 ∨ (cdn L n = 1 ∧ nl L 1 n = 1)
theorem s_may (F n : Nat) (L : Nat → Nat) (fe lg : Int32) (hn : n ≤ 400) (h15 : ∀ k, k < n → L k ≤ 15) (hfe : fe = nI 0 ↔ fre L n 15 = 0) (hlg : lg = nI (lgm L n 15)) : ∃ r, m_CodeSet_mayStandForDistances F (nI (cdn L n)) fe lg = some (nI r) ∧ r ≤ 1 ∧ (r = 1 ↔ few L n) := by
  have hc : cdn L n ≤ n := by
    have : ∀ i, cdn L i ≤ i := by
      intro i
      induction i with
      | zero => exact Nat.le_refl _
      | succ i ih => rw [cdn]; split <;> omega
    exact this n
  have hl := (lgm_max L n 15).2.2
  unfold m_CodeSet_mayStandForDistances
  rw [s_isFull, z_bnd1]
  by_cases h : fre L n 15 = 0
  · rw [if_pos (hfe.mpr h), if_neg (by decide)]
    exact ⟨1, rfl, by omega, ⟨fun _ => Or.inl h, fun _ => rfl⟩⟩
  · rw [if_neg (fun e => h (hfe.mp e)), if_pos (show nI 0 = (0 : Int32) from rfl)]
    by_cases h0 : cdn L n = 0
    · rw [if_pos (by rw [h0]; rfl)]
      exact ⟨1, rfl, by omega, ⟨fun _ => Or.inr (Or.inl h0), fun _ => rfl⟩⟩
    · rw [if_neg (by show ¬ (nI _ = nI 0); rw [z_eq (by omega) (by omega)]; exact h0)]
      by_cases h1 : cdn L n = 1
      · have ol := one_len L n h15 h1
        rw [if_pos (by rw [h1]; rfl), hlg]
        by_cases h2 : lgm L n 15 = 1
        · rw [if_pos (by rw [h2]; rfl)]
          exact ⟨1, rfl, by omega, ⟨fun _ => Or.inr (Or.inr ⟨h1, ol.mp h2⟩), fun _ => rfl⟩⟩
        · rw [if_neg (by show ¬ (nI _ = nI 1); rw [z_eq (by omega) (by omega)]; exact h2)]
          refine ⟨0, rfl, by omega, ⟨fun e => by omega, fun e => ?_⟩⟩
          rcases e with e | e | e
          · exact absurd e h
          · exact absurd e h0
          · exact absurd (ol.mpr e.2) h2
      · rw [if_neg (by show ¬ (nI _ = nI 1); rw [z_eq (by omega) (by omega)]; exact h1)]
        refine ⟨0, rfl, by omega, ⟨fun e => by omega, fun e => ?_⟩⟩
        rcases e with e | e | e
        · exact absurd e h
        · exact absurd e h0
        · exact absurd e.1 h1
theorem xl_1 {n : Nat} {L : Nat → Nat} : ∀ k, k < n → xl n L k = L k := fun k hk => if_pos hk
theorem xl_2 {n nM : Nat} {L : Nat → Nat} : ∀ k, n ≤ k → k < nM → xl n L k = 0 := fun k h1 _ => if_neg (by omega)
/-- the sets hold -/
def rowok (L1 : Nat → Nat) (ln : Nat) (L2 : Nat → Nat) (dn : Nat) : Prop := fre L1 ln 15 = 0 ∧ L1 256 ≠ 0 ∧ few L2 dn
/-- the model's sets from the row -/
theorem s_useRow (F ln dn : Nat) (row fl_ ll : Nat → Int32) (L1 L2 : Nat → Nat) (s bb : Int32) (hF : 100000 ≤ F) (hl : 257 ≤ ln ∧ ln ≤ 286) (hd : 1 ≤ dn ∧ dn ≤ 30) (h1 : ∀ k, k < ln → row k = nI (L1 k) ∧ L1 k ≤ 15) (h2 : ∀ k, k < dn → row (ln + k) = nI (L2 k) ∧ L2 k ≤ 15) : ∃ mis ms fl' ll', m_MD_useRow F fl_ (nI dn) ll (nI ln) row s bb = some (mis, ms, fl', ll') ∧ mset 288 ln L1 ll' ∧ mset 32 dn L2 fl' ∧ ((rowok L1 ln L2 dn ∧ mis = nI 0 ∧ ms = s) ∨ (¬ rowok L1 ln L2 dn ∧ mis = nI 3 ∧ ms = bb)) := by
  obtain ⟨ll', a1, a2⟩ := l_ur7 F ln row (by omega) F 0 ll (by omega) (by omega) (fun j hj => by omega)
  obtain ⟨fl', b1, b2⟩ := l_ur51 F ln dn row L2 (by omega) (by omega) h2 F 0 fl_ (by omega) (by omega) (fun j hj => by omega)
  have e00 : cdn (xl dn L2) 0 = 0 := rfl
  have e01 : nl (xl dn L2) 1 0 = 0 := rfl
  rw [e00, e01] at b1
  have ec : cdn (xl dn L2) 32 = cdn L2 dn := by
    have := cdn_ext (n := dn) (nM := 32) (L := L2) (LM := xl dn L2) xl_1 xl_2 (32 - dn) (by omega)
    have e : dn + (32 - dn) = 32 := by omega
    rw [e] at this; exact this
  have en : nl (xl dn L2) 1 32 = nl L2 1 dn := by
    have := nl_ex2 (m := 1) (n := dn) (nM := 32) (L := L2) (LM := xl dn L2) (by omega) xl_1 xl_2 (32 - dn) (by omega)
    have e : dn + (32 - dn) = 32 := by omega
    rw [e] at this; exact this
  rw [ec, en] at b1
  have p1 : ∀ k, k < 288 → ll' k = nI (xl ln L1 k) ∧ xl ln L1 k ≤ 15 := fun k hk => by
    rw [a2 k hk]
    unfold xl
    by_cases c : k < ln
    · rw [if_pos c, if_pos c]; exact h1 k c
    · rw [if_neg c, if_neg c]; exact ⟨rfl, by omega⟩
  have p2 : ∀ k, k < 32 → fl' k = nI (xl dn L2 k) ∧ xl dn L2 k ≤ 15 := fun k hk => ⟨b2 k hk, by
    unfold xl
    by_cases c : k < dn
    · rw [if_pos c]; exact (h2 k c).2
    · rw [if_neg c]; omega⟩
  obtain ⟨v1, f1, f2⟩ := s_full F 288 288 ll' (xl ln L1) hF (by omega) (by omega) p1
  obtain ⟨v2, f3, f4⟩ := s_full F 32 32 fl' (xl dn L2) hF (by omega) (by omega) p2
  rw [fre_ext (by omega) xl_1 xl_2 15] at f2 f4
  have hc : cdn L2 dn ≤ 32 := by
    have : ∀ i, cdn L2 i ≤ i := by
      intro i
      induction i with
      | zero => exact Nat.le_refl _
      | succ i ih => rw [cdn]; split <;> omega
    have := this dn
    omega
  have hn1 := nl_le L2 1 dn
  have e256 : ll' 256 = nI (L1 256) := by rw [(p1 256 (by omega)).1, xl_1 256 (by omega)]
  have b256 := (h1 256 (by omega)).2
  have fin : ∃ mis ms, m_MD_useRow F fl_ (nI dn) ll (nI ln) row s bb = some (mis, ms, fl', ll') ∧ ((rowok L1 ln L2 dn ∧ mis = nI 0 ∧ ms = s) ∨ (¬ rowok L1 ln L2 dn ∧ mis = nI 3 ∧ ms = bb)) := by
    -- few or not
    have hz5 : ∃ z, (if nI (cdn L2 dn) = (0 : Int32) then some (1 : Int32) else (if nI (cdn L2 dn) = (1 : Int32) then (if nI (nl L2 1 dn) = (1 : Int32) then some (1 : Int32) else some (0 : Int32)) else some (0 : Int32))) = some (nI z) ∧ z ≤ 1 ∧ (z = 1 ↔ (cdn L2 dn = 0 ∨ (cdn L2 dn = 1 ∧ nl L2 1 dn = 1))) := by
      by_cases c0 : cdn L2 dn = 0
      · rw [if_pos (by rw [c0]; rfl)]
        exact ⟨1, rfl, by omega, by omega⟩
      · rw [if_neg (by show ¬ (nI _ = nI 0); rw [z_eq (by omega) (by omega)]; exact c0)]
        by_cases c1 : cdn L2 dn = 1
        · rw [if_pos (by rw [c1]; rfl)]
          by_cases c2 : nl L2 1 dn = 1
          · rw [if_pos (by rw [c2]; rfl)]
            exact ⟨1, rfl, by omega, by omega⟩
          · rw [if_neg (by show ¬ (nI _ = nI 1); rw [z_eq (by omega) (by omega)]; exact c2)]
            exact ⟨0, rfl, by omega, by omega⟩
        · rw [if_neg (by show ¬ (nI _ = nI 1); rw [z_eq (by omega) (by omega)]; exact c1)]
          exact ⟨0, rfl, by omega, by omega⟩
    obtain ⟨z, hz1, hz2, hz3⟩ := hz5
    unfold m_MD_useRow
    rw [show nI 0 = (0 : Int32) from rfl] at a1 b1
    rw [a1, z_bnd2, b1, z_bnd4]
    rw [hz1, z_bnd1]
    rw [show (288 : Int32) = nI 288 from rfl, f1, z_bnd1]
    by_cases g1 : fre L1 ln 15 = 0
    · rw [if_pos (show v1 = 0 from f2.mpr g1)]
      have ck : ∀ {α : Type} (x : Option α), chk (inb (256 : Int32) 288) x = x := fun x => rfl
      rw [ck]
      have et : (256 : Int32).toNatClampNeg = 256 := rfl
      rw [et, e256]
      by_cases g2 : L1 256 = 0
      · rw [if_pos (by rw [g2]; rfl)]
        exact ⟨_, _, rfl, Or.inr ⟨fun h => h.2.1 g2, rfl, rfl⟩⟩
      · rw [if_neg (by show ¬ (nI _ = nI 0); rw [z_eq (by omega) (by omega)]; exact g2)]
        by_cases g3 : z = 1
        · rw [if_neg (by rw [g3]; decide)]
          exact ⟨_, _, rfl, Or.inl ⟨⟨g1, g2, Or.inr (hz3.mp g3)⟩, rfl, rfl⟩⟩
        · have z0 : z = 0 := by omega
          rw [if_pos (by rw [z0]; rfl), show (32 : Int32) = nI 32 from rfl, f3, z_bnd1]
          by_cases g4 : fre L2 dn 15 = 0
          · rw [if_pos (show v2 = 0 from f4.mpr g4)]
            exact ⟨_, _, rfl, Or.inl ⟨⟨g1, g2, Or.inl g4⟩, rfl, rfl⟩⟩
          · rw [if_neg (show ¬ (v2 = (0 : Int32)) from fun h => g4 (f4.mp h))]
            exact ⟨_, _, rfl, Or.inr ⟨fun h => by
              rcases h.2.2 with e | e
              · exact g4 e
              · exact g3 (hz3.mpr e), rfl, rfl⟩⟩
    · rw [if_neg (show ¬ (v1 = (0 : Int32)) from fun h => g1 (f2.mp h))]
      exact ⟨_, _, rfl, Or.inr ⟨fun h => g1 h.1, rfl, rfl⟩⟩
  obtain ⟨mis, ms, y1, y2⟩ := fin
  exact ⟨mis, ms, fl', ll', y1, ⟨xl ln L1, p1, xl_1, xl_2⟩, ⟨xl dn L2, p2, xl_1, xl_2⟩, y2⟩
