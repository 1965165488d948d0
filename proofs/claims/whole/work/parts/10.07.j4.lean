/-! joining: the model's -/
theorem srt_ext {c o : Nat → Nat} {m n : Nat} (H : srt c o m n) : ∀ (e : Nat), (∀ k, n ≤ k → k < n + e → c k = 0) → srt c o m (n + e) := by
  intro e
  induction e with
  | zero => intro _; exact H
  | succ e ih => intro h; exact srt_skip (ih (fun k h1 h2 => h k h1 (by omega))) (h (n + e) (by omega) (by omega))
theorem huff_ext {c d : Nat → Nat} {n : Nat} (h : huff c n d) (n' : Nat) (hn : n ≤ n') (hz : ∀ k, n ≤ k → k < n' → c k = 0) : huff c n' (fun k => if k < n then d k else 0) := by
  obtain ⟨e, rfl⟩ : ∃ e, n' = n + e := ⟨n' - n, by omega⟩
  obtain ⟨o, m, H, h1, h2, h3⟩ := h
  have hsm : sm c 0 (n + e) = sm c 0 n := by rw [sm_add, sm_zero c (0 + n) e (fun i q1 q2 => hz i (by omega) (by omega))]; rfl
  have hpc : ∀ (w : Nat → Nat) x y, pc_ w o m n x y → pc_ w o m (n + e) x y := fun w x y h => by
    unfold pc_ sg at *
    by_cases x1 : x < m
    · have bx := (H.2.1 x x1).1
      by_cases y1 : y < m
      · simp only [if_pos x1, if_pos y1] at *; exact h
      · simp only [if_pos x1, if_neg y1] at *; omega
    · by_cases y1 : y < m
      · have bx := (H.2.1 y y1).1
        simp only [if_neg x1, if_pos y1] at *; omega
      · simp only [if_neg x1, if_neg y1] at *; omega
  refine ⟨o, m, srt_ext H e hz, fun k hk hc => ?_, fun hm => ?_, fun hm => ?_⟩
  · by_cases q : k < n
    · simp only [if_pos q]; exact h1 k q hc
    · simp only [if_neg q]
  · simp only [if_pos (H.2.1 0 (by omega)).1]; exact h2 hm
  · obtain ⟨w, a, ⟨t1, t2, t3, t4, t5, t6⟩, h4⟩ := h3 hm
    refine ⟨w, a, ⟨t1, fun t ht => ?_, t3, by rw [hsm]; exact t4, fun i hi => by rw [hsm]; exact t5 i hi, t6⟩, fun i hi => ?_⟩
    · obtain ⟨x, y, g1, g2, g3, g4, g5, g6, g7, g8⟩ := t2 t ht
      exact ⟨x, y, g1, g2, g3, g4, g5, g6, hpc w x y g7, fun i q1 q2 q3 => (g8 i q1 q2 q3).imp id (fun q => ⟨q.1, hpc w y i q.2⟩)⟩
    · simp only [if_pos (H.2.1 i hi).1]; exact h4 i hi
theorem l_least (F all : Nat) (up wt : Nat → Int32) (x2 : Int32) (w : Nat → Nat) (z : Nat) (hall : all ≤ 600) (hw : ∀ k, k < all → up k = nI 0 → wt k = nI (w k) ∧ w k < 1000000) (hz : z < all) (hzl : up z = nI 0) (hzb : nI z ≠ x2) (hmin : ∀ k, k < all → up k = nI 0 → nI k ≠ x2 → k ≠ z → (w z < w k ∨ (w z = w k ∧ z < k))) : ∀ (f k : Nat) (v : Int32), k ≤ all → all - k < f → ((k ≤ z ∧ (v = m1 ∨ ∃ j, j < k ∧ v = nI j ∧ up j = nI 0 ∧ w z < w j)) ∨ (z < k ∧ v = nI z)) → L_MD_least_5 F up wt (nI all) x2 f v (nI k) = some (nI z, nI all) := by
  intro f
  induction f with
  | zero => intro k v _ h; omega
  | succ f ih =>
    intro k v hk hf hv
    unfold L_MD_least_5 B_MD_least_5
    by_cases h : all ≤ k
    · have e : k = all := by omega
      subst e
      have ev : v = nI z := by rcases hv with ⟨h1, _⟩ | ⟨_, h1⟩
                               · omega
                               · exact h1
      subst ev
      simp (disch := omega) only [nm, z_lit, z_one, z_mone, z_neg1, z_neg2, z_pred, z_add, z_mul, z_sub, z_le, z_lt, z_eq, z_tn, z_chk, z_eqm, z_meq, z_lem, z_mle, z_ltm, z_mlt, z_eqq, z_qeq, z_leq, z_qle, z_ltq, z_qlt, z_m1m2, z_m2m1, z_m1m1, z_m2m2, z_bnd1, z_bnd2, z_bnd3, z_bnd4, z_bnd5, z_bnd6, z_bnd7, z_bnd8, z_bnd9, z_bnd10, z_bnd11, z_bnd12, z_bnd13, z_bnd14, z_bnd15, z_bnd16, z_max, z_min, z_n31, z_shl, z_shr, z_us, z_div, z_mod, z_and, z_or, z_xor, if_true, if_false, Nat.le_refl]
    · simp (disch := omega) only [nm, z_lit, z_one, z_mone, z_neg1, z_neg2, z_pred, z_add, z_mul, z_sub, z_le, z_lt, z_eq, z_tn, z_chk, z_eqm, z_meq, z_lem, z_mle, z_ltm, z_mlt, z_eqq, z_qeq, z_leq, z_qle, z_ltq, z_qlt, z_m1m2, z_m2m1, z_m1m1, z_m2m2, z_bnd1, z_bnd2, z_bnd3, z_bnd4, z_bnd5, z_bnd6, z_bnd7, z_bnd8, z_bnd9, z_bnd10, z_bnd11, z_bnd12, z_bnd13, z_bnd14, z_bnd15, z_bnd16, z_max, z_min, z_n31, z_shl, z_shr, z_us, z_div, z_mod, z_and, z_or, z_xor, if_true, if_false, h]
      by_cases hl : up k = nI 0
      · obtain ⟨hwk, hwb⟩ := hw k (by omega) hl
        by_cases hb : nI k = x2
        · simp only [hl, hb, if_true, z_bnd1]
          refine ih (k + 1) v (by omega) (by omega) ?_
          have hkz : k ≠ z := fun e => hzb (by rw [← e]; exact hb)
          rcases hv with ⟨h1, h2⟩ | ⟨h1, h2⟩
          · refine Or.inl ⟨by omega, ?_⟩
            rcases h2 with h2 | ⟨j, h2, h3⟩
            · exact Or.inl h2
            · exact Or.inr ⟨j, by omega, h3⟩
          · exact Or.inr ⟨by omega, h2⟩
        · simp only [hl, hb, if_true, if_false]
          rcases hv with ⟨h1, h2⟩ | ⟨h1, rfl⟩
          · rcases h2 with rfl | ⟨j, h2, rfl, h3, h4⟩
            · simp (disch := omega) only [nm, z_lit, z_one, z_mone, z_neg1, z_neg2, z_pred, z_add, z_mul, z_sub, z_le, z_lt, z_eq, z_tn, z_chk, z_eqm, z_meq, z_lem, z_mle, z_ltm, z_mlt, z_eqq, z_qeq, z_leq, z_qle, z_ltq, z_qlt, z_m1m2, z_m2m1, z_m1m1, z_m2m2, z_bnd1, z_bnd2, z_bnd3, z_bnd4, z_bnd5, z_bnd6, z_bnd7, z_bnd8, z_bnd9, z_bnd10, z_bnd11, z_bnd12, z_bnd13, z_bnd14, z_bnd15, z_bnd16, z_max, z_min, z_n31, z_shl, z_shr, z_us, z_div, z_mod, z_and, z_or, z_xor, if_true, if_false]
              refine ih (k + 1) (nI k) (by omega) (by omega) ?_
              by_cases hkz : k = z
              · exact Or.inr ⟨by omega, by rw [hkz]⟩
              · refine Or.inl ⟨by omega, Or.inr ⟨k, by omega, rfl, hl, ?_⟩⟩
                have := hmin k (by omega) hl hb hkz
                omega
            · obtain ⟨q1, q2⟩ := hw j (by omega) h3
              have n0 : ¬ (j < 0) := by omega
              simp (disch := omega) only [nm, z_lit, z_one, z_mone, z_neg1, z_neg2, z_pred, z_add, z_mul, z_sub, z_le, z_lt, z_eq, z_tn, z_chk, z_eqm, z_meq, z_lem, z_mle, z_ltm, z_mlt, z_eqq, z_qeq, z_leq, z_qle, z_ltq, z_qlt, z_m1m2, z_m2m1, z_m1m1, z_m2m2, z_bnd1, z_bnd2, z_bnd3, z_bnd4, z_bnd5, z_bnd6, z_bnd7, z_bnd8, z_bnd9, z_bnd10, z_bnd11, z_bnd12, z_bnd13, z_bnd14, z_bnd15, z_bnd16, z_max, z_min, z_n31, z_shl, z_shr, z_us, z_div, z_mod, z_and, z_or, z_xor, if_true, if_false, n0, q1, hwk]
              by_cases hle : w j ≤ w k
              · simp only [hle, if_true, z_bnd1]
                refine ih (k + 1) (nI j) (by omega) (by omega) (Or.inl ⟨?_, Or.inr ⟨j, by omega, rfl, h3, h4⟩⟩)
                have : k ≠ z := fun e => by rw [e] at hle; omega
                omega
              · simp only [hle, if_false, z_bnd1]
                refine ih (k + 1) (nI k) (by omega) (by omega) ?_
                by_cases hkz : k = z
                · exact Or.inr ⟨by omega, by rw [hkz]⟩
                · refine Or.inl ⟨by omega, Or.inr ⟨k, by omega, rfl, hl, ?_⟩⟩
                  have := hmin k (by omega) hl hb hkz
                  omega
          · obtain ⟨q1, q2⟩ := hw z hz hzl
            have n0 : ¬ (z < 0) := by omega
            have hle : w z ≤ w k := by have := hmin k (by omega) hl hb (by omega); omega
            simp (disch := omega) only [nm, z_lit, z_one, z_mone, z_neg1, z_neg2, z_pred, z_add, z_mul, z_sub, z_le, z_lt, z_eq, z_tn, z_chk, z_eqm, z_meq, z_lem, z_mle, z_ltm, z_mlt, z_eqq, z_qeq, z_leq, z_qle, z_ltq, z_qlt, z_m1m2, z_m2m1, z_m1m1, z_m2m2, z_bnd1, z_bnd2, z_bnd3, z_bnd4, z_bnd5, z_bnd6, z_bnd7, z_bnd8, z_bnd9, z_bnd10, z_bnd11, z_bnd12, z_bnd13, z_bnd14, z_bnd15, z_bnd16, z_max, z_min, z_n31, z_shl, z_shr, z_us, z_div, z_mod, z_and, z_or, z_xor, if_true, if_false, n0, q1, hwk, hle]
            exact ih (k + 1) (nI z) (by omega) (by omega) (Or.inr ⟨by omega, rfl⟩)
      · simp only [hl, if_false, z_bnd1]
        have hkz : k ≠ z := fun e => hl (by rw [e]; exact hzl)
        refine ih (k + 1) v (by omega) (by omega) ?_
        rcases hv with ⟨h1, h2⟩ | ⟨h1, h2⟩
        · refine Or.inl ⟨by omega, ?_⟩
          rcases h2 with h2 | ⟨j, h2, h3⟩
          · exact Or.inl h2
          · exact Or.inr ⟨j, by omega, h3⟩
        · exact Or.inr ⟨by omega, h2⟩
theorem s_least (F all : Nat) (up wt : Nat → Int32) (x2 : Int32) (w : Nat → Nat) (z : Nat) (hall : all ≤ 600) (hF : 100000 ≤ F) (hw : ∀ k, k < all → up k = nI 0 → wt k = nI (w k) ∧ w k < 1000000) (hz : z < all) (hzl : up z = nI 0) (hzb : nI z ≠ x2) (hmin : ∀ k, k < all → up k = nI 0 → nI k ≠ x2 → k ≠ z → (w z < w k ∨ (w z = w k ∧ z < k))) : m_MD_least F up wt (nI all) x2 = some (nI z) := by
  unfold m_MD_least
  simp only [z_lit, z_neg1]
  rw [l_least F all up wt x2 w z hall hw hz hzl hzb hmin F 0 m1 (by omega) (by omega) (Or.inl ⟨by omega, Or.inl rfl⟩)]
  rfl
theorem sg_inj {c o : Nat → Nat} {m n : Nat} (H : srt c o m n) {i j : Nat} (h : sg o m n i = sg o m n j) : i = j := by
  unfold sg at h
  by_cases x1 : i < m
  · have bx := (H.2.1 i x1).1
    by_cases y1 : j < m
    · rw [if_pos x1, if_pos y1] at h; exact srt_inj H x1 y1 h
    · rw [if_pos x1, if_neg y1] at h; omega
  · by_cases y1 : j < m
    · have bx := (H.2.1 j y1).1
      rw [if_neg x1, if_pos y1] at h; omega
    · rw [if_neg x1, if_neg y1] at h; omega
theorem sg_lt {c o : Nat → Nat} {m n : Nat} (H : srt c o m n) {i t : Nat} (h : i < m + t) : sg o m n i < n + t := by
  unfold sg
  by_cases x1 : i < m
  · have bx := (H.2.1 i x1).1
    rw [if_pos x1]; omega
  · rw [if_neg x1]; omega
/-- the state of the model's joining before its step t -/
def miv (c o w a : Nat → Nat) (m n t : Nat) (up wt : Nat → Int32) : Prop := (∀ i, i < m + t → wt (sg o m n i) = nI (w i)) ∧ (∀ i, i < m + t → up (sg o m n i) = if a i < m + t then nI (sg o m n (a i)) else nI 0) ∧ (∀ k, k < n → c k = 0 → up k = m1)
theorem sg_all {c o : Nat → Nat} {m n : Nat} (H : srt c o m n) {k t : Nat} (hk : k < n + t) : (k < n ∧ c k = 0) ∨ ∃ i, i < m + t ∧ sg o m n i = k := by
  by_cases h : k < n
  · by_cases h0 : c k = 0
    · exact Or.inl ⟨h, h0⟩
    · obtain ⟨x, hx, e⟩ := H.2.2.1 k h (by omega)
      exact Or.inr ⟨x, by omega, by unfold sg; rw [if_pos hx]; exact e⟩
  · exact Or.inr ⟨m + (k - n), by omega, by unfold sg; rw [if_neg (by omega)]; omega⟩
theorem l_mjoin87 (F m n : Nat) (c o w a : Nat → Nat) (H : srt c o m n) (hn : n ≤ 300) (hn0 : 0 < n) (hm : 2 ≤ m) (hF : 100000 ≤ F) (T : htree c o w a m n) (hT : sm c 0 n < 1000000) : ∀ (f t : Nat) (up wt : Nat → Int32), t < m → m - t < f → miv c o w a m n t up wt → ∃ up' wt', L_MD_join_87 F f (nI (n + t)) (nI (m - t)) up wt = some (nI (n + (m - 1)), nI 1, up', wt') ∧ miv c o w a m n (m - 1) up' wt' := by
  obtain ⟨t1, t2, t3, t4, t5, t6⟩ := T
  intro f
  induction f with
  | zero => intro t up wt _ h; omega
  | succ f ih =>
    intro t up wt ht hf I
    obtain ⟨i1, i2, i3⟩ := I
    have hmn := H.2.2.2.1
    unfold L_MD_join_87 B_MD_join_87
    by_cases h : m - t ≤ 1
    · have e : t = m - 1 := by omega
      subst e
      have e2 : m - (m - 1) = 1 := by omega
      rw [e2]
      exact ⟨up, wt, by simp (disch := omega) only [nm, z_lit, z_one, z_mone, z_neg1, z_neg2, z_pred, z_add, z_mul, z_sub, z_le, z_lt, z_eq, z_tn, z_chk, z_eqm, z_meq, z_lem, z_mle, z_ltm, z_mlt, z_eqq, z_qeq, z_leq, z_qle, z_ltq, z_qlt, z_m1m2, z_m2m1, z_m1m1, z_m2m2, z_bnd1, z_bnd2, z_bnd3, z_bnd4, z_bnd5, z_bnd6, z_bnd7, z_bnd8, z_bnd9, z_bnd10, z_bnd11, z_bnd12, z_bnd13, z_bnd14, z_bnd15, z_bnd16, z_max, z_min, z_n31, z_shl, z_shr, z_us, z_div, z_mod, z_and, z_or, z_xor, if_true, if_false, Nat.le_refl], i1, i2, i3⟩
    · obtain ⟨x, y, g1, g2, g3, g4, g5, g6, g7, g8⟩ := t2 t (by omega)
      have live : ∀ k, k < n + t → up k = nI 0 → ∃ i, i < m + t ∧ sg o m n i = k ∧ m + t ≤ a i := fun k hk hu => by
        rcases sg_all H hk with ⟨h1, h2⟩ | ⟨i, h1, rfl⟩
        · rw [i3 k h1 h2] at hu; exact absurd hu (by decide)
        · refine ⟨i, h1, rfl, ?_⟩
          rw [i2 i h1] at hu
          by_cases q : a i < m + t
          · rw [if_pos q] at hu
            have b := sg_lt H q
            have p0 : 0 < sg o m n (a i) := by
              have b2 : m ≤ a i := by
                by_cases q2 : i < 2 * m - 2
                · exact (t3 i q2).2.1
                · omega
              unfold sg; rw [if_neg (by omega)]; omega
            rw [z_eq (by omega) (by omega)] at hu
            omega
          · omega
      have wof : ∀ k, k < n + t → up k = nI 0 → wt k = nI ((wt k).toNatClampNeg) ∧ (wt k).toNatClampNeg < 1000000 := fun k hk hu => by
        obtain ⟨i, h1, rfl, h2⟩ := live k hk hu
        have b := t5 i (by omega)
        rw [i1 i h1, z_tn (by omega)]
        exact ⟨rfl, by omega⟩
      have wv : ∀ i, i < m + t → (wt (sg o m n i)).toNatClampNeg = w i := fun i hi => by
        have b := t5 i (by omega)
        rw [i1 i hi, z_tn (by omega)]
      have bx := sg_lt H g1
      have by' := sg_lt H g2
      have ux : up (sg o m n x) = nI 0 := by rw [i2 x g1, if_neg (by omega)]
      have uy : up (sg o m n y) = nI 0 := by rw [i2 y g2, if_neg (by omega)]
      have r1 := s_least F (n + t) up wt m1 (fun k => (wt k).toNatClampNeg) (sg o m n x) (by omega) hF wof bx ux (fun e => by have := z_eqm (a := sg o m n x) (by omega); rw [e] at this; exact absurd this (by simp)) (fun k hk hu hb hne => by
        obtain ⟨i, h1, rfl, h2⟩ := live k hk hu
        simp only [wv i h1, wv x g1]
        by_cases e : i = y
        · subst e; exact g7
        · rcases g8 i h1 (fun e => hne (by rw [e])) e with q | ⟨q, q2⟩
          · omega
          · unfold pc_ at g7 q2; omega)
      have hne' : sg o m n y ≠ sg o m n x := fun e => g3 (sg_inj H e).symm
      have r2 := s_least F (n + t) up wt (nI (sg o m n x)) (fun k => (wt k).toNatClampNeg) (sg o m n y) (by omega) hF wof by' uy (fun e => hne' (z_inj (by omega) (by omega) e)) (fun k hk hu hb hne => by
        obtain ⟨i, h1, rfl, h2⟩ := live k hk hu
        simp only [wv i h1, wv y g2]
        rcases g8 i h1 (fun e => hb (by rw [e])) (fun e => hne (by rw [e])) with q | ⟨q, q2⟩
        · omega
        · unfold pc_ at q2; exact q2)
      have e1 := i1 x g1
      have e2 := i1 y g2
      have w1 := t5 x (by omega)
      have w2 := t5 y (by omega)
      simp (disch := omega) only [nm, z_lit, z_one, z_mone, z_neg1, z_neg2, z_pred, z_add, z_mul, z_sub, z_le, z_lt, z_eq, z_tn, z_chk, z_eqm, z_meq, z_lem, z_mle, z_ltm, z_mlt, z_eqq, z_qeq, z_leq, z_qle, z_ltq, z_qlt, z_m1m2, z_m2m1, z_m1m1, z_m2m2, z_bnd1, z_bnd2, z_bnd3, z_bnd4, z_bnd5, z_bnd6, z_bnd7, z_bnd8, z_bnd9, z_bnd10, z_bnd11, z_bnd12, z_bnd13, z_bnd14, z_bnd15, z_bnd16, z_max, z_min, z_n31, z_shl, z_shr, z_us, z_div, z_mod, z_and, z_or, z_xor, if_true, if_false, h, r1, r2, e1, e2]
      have e3 : n + t + 1 = n + (t + 1) := by omega
      have e4 : m - t - 1 = m - (t + 1) := by omega
      rw [e3, e4]
      have sgm : sg o m n (m + t) = n + t := by unfold sg; rw [if_neg (by omega)]; omega
      have am : m + (t + 1) ≤ a (m + t) := by
        by_cases q : m + t < 2 * m - 2
        · have := (t3 (m + t) q).1; omega
        · have q2 : m + t = 2 * m - 2 := by omega
          rw [q2]; omega
      refine ih (t + 1) _ _ (by omega) (by omega) ⟨fun i hi => ?_, fun i hi => ?_, fun k hk hc => ?_⟩
      · by_cases e : i = m + t
        · subst e; rw [sgm, z_updE, g6]
        · have b := sg_lt H (i := i) (t := t) (by omega)
          rw [z_updN (by omega)]; exact i1 i (by omega)
      · by_cases e : i = m + t
        · subst e; rw [sgm, z_updN (by omega), z_updN (by omega), z_updE, if_neg (by omega)]
        · have b := sg_lt H (i := i) (t := t) (by omega)
          by_cases ey : i = y
          · subst ey; rw [z_updE, g5, if_pos (by omega), sgm]
          · rw [z_updN (fun q => ey (sg_inj H q))]
            by_cases ex : i = x
            · subst ex; rw [z_updE, g4, if_pos (by omega), sgm]
            · rw [z_updN (fun q => ex (sg_inj H q)), z_updN (by omega), i2 i (by omega)]
              rcases g8 i (by omega) ex ey with q | ⟨q, q2⟩
              · rw [if_pos q, if_pos (by omega)]
              · rw [if_neg (by omega), if_neg (by omega)]
      · have q : ∀ i, i < m + t → k = sg o m n i → False := fun i hi e => by
          have hu := i3 k hk hc
          rw [e, i2 i hi] at hu
          by_cases q : a i < m + t
          · rw [if_pos q] at hu
            have b := sg_lt H q
            have := z_eqm (a := sg o m n (a i)) (by omega)
            rw [hu] at this
            exact absurd this (by simp)
          · rw [if_neg q] at hu; exact absurd hu (by decide)
        rw [z_updN (fun e => q y g2 e), z_updN (fun e => q x g1 e), z_updN (by omega)]
        exact i3 k hk hc
