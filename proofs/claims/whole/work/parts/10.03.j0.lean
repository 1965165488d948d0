/-! joining: sums, and the class's sorting -/
def sm (w : Nat → Nat) (a : Nat) : Nat → Nat
  | 0 => 0
  | k + 1 => sm w a k + w (a + k)
theorem sm_first (w : Nat → Nat) (a k : Nat) : sm w a (k + 1) = w a + sm w (a + 1) k := by
  induction k with
  | zero => simp [sm]
  | succ k ih =>
    rw [sm, ih, sm]
    have : a + (k + 1) = a + 1 + k := by omega
    rw [this]; omega
theorem sm_congr {w v : Nat → Nat} {a k : Nat} (h : ∀ i, a ≤ i → i < a + k → w i = v i) : sm w a k = sm v a k := by
  induction k with
  | zero => rfl
  | succ k ih => rw [sm, sm, ih (fun i h1 h2 => h i h1 (by omega)), h (a + k) (by omega) (by omega)]
theorem sm_add (w : Nat → Nat) (a k j : Nat) : sm w a (k + j) = sm w a k + sm w (a + k) j := by
  induction j with
  | zero => rfl
  | succ j ih =>
    have e : a + (k + j) = a + k + j := by omega
    rw [← Nat.add_assoc, sm, ih, sm, e]; omega
theorem sm_mem {w : Nat → Nat} {a k i : Nat} (h1 : a ≤ i) (h2 : i < a + k) : w i ≤ sm w a k := by
  induction k with
  | zero => omega
  | succ k ih =>
    rw [sm]
    by_cases h : i = a + k
    · subst h; omega
    · have := ih (by omega); omega
theorem sm_shift (w : Nat → Nat) (a k : Nat) : sm (fun i => w (i + 1)) a k = sm w (a + 1) k := by
  induction k with
  | zero => rfl
  | succ k ih =>
    have e : a + k + 1 = a + 1 + k := by omega
    rw [sm, sm, ih, e]
theorem sm_zero (w : Nat → Nat) (a k : Nat) (h : ∀ i, a ≤ i → i < a + k → w i = 0) : sm w a k = 0 := by
  induction k with
  | zero => rfl
  | succ k ih => rw [sm, ih (fun i h1 h2 => h i h1 (by omega)), h (a + k) (by omega) (by omega)]
/-- the order of symbols: by count, then by place -/
def ky (c : Nat → Nat) (s : Nat) : Nat := c s * 1000 + s
/-- how many symbols below i occur -/
def cn (c : Nat → Nat) : Nat → Nat
  | 0 => 0
  | i + 1 => cn c i + (if c i = 0 then 0 else 1)
/-- o lists, by ky, the symbols below i that occur -/
def srt (c o : Nat → Nat) (m i : Nat) : Prop := (∀ x y, x < y → y < m → ky c (o x) < ky c (o y)) ∧ (∀ x, x < m → o x < i ∧ 0 < c (o x)) ∧ (∀ s, s < i → 0 < c s → ∃ x, x < m ∧ o x = s) ∧ m ≤ i ∧ sm (fun x => c (o x)) 0 m = sm c 0 i ∧ m = cn c i
/-- s put into o at the place a -/
def ins (o : Nat → Nat) (a s : Nat) : Nat → Nat := fun x => if x < a then o x else if x = a then s else o (x - 1)
theorem ins_sum (c o : Nat → Nat) (a s m : Nat) (h : a ≤ m) : sm (fun x => c (ins o a s x)) 0 (m + 1) = sm (fun x => c (o x)) 0 m + c s := by
  obtain ⟨d, rfl⟩ : ∃ d, m = a + d := ⟨m - a, by omega⟩
  have e1 : sm (fun x => c (ins o a s x)) 0 (a + d + 1) = sm (fun x => c (ins o a s x)) 0 a + sm (fun x => c (ins o a s x)) (0 + a) (d + 1) := by rw [Nat.add_assoc]; exact sm_add _ _ _ _
  have e2 : sm (fun x => c (ins o a s x)) 0 a = sm (fun x => c (o x)) 0 a := sm_congr (fun i _ h2 => by simp only [ins]; rw [if_pos (by omega)])
  have e3 : sm (fun x => c (ins o a s x)) (0 + a) (d + 1) = c s + sm (fun x => c (o x)) (0 + a) d := by
    rw [sm_first]
    have e4 : c (ins o a s (0 + a)) = c s := by simp only [ins]; rw [if_neg (by omega), if_pos (by omega)]
    rw [e4, ← sm_shift (fun x => c (ins o a s x))]
    congr 1
    apply sm_congr
    intro i h1 h2
    simp only [ins]
    rw [if_neg (by omega), if_neg (by omega)]
    rfl
  rw [e1, e2, e3, sm_add]; omega
theorem srt_ins {c o : Nat → Nat} {m i a : Nat} (H : srt c o m i) (hi : i < 1000) (hc : 0 < c i) (ha : a ≤ m) (h1 : ∀ x, x < a → c (o x) ≤ c i) (h2 : ∀ x, a ≤ x → x < m → c i < c (o x)) : srt c (ins o a i) (m + 1) (i + 1) := by
  obtain ⟨s1, s2, s3, s4, s5, s6⟩ := H
  have hlo : ∀ x, x < a → ky c (o x) < ky c i := fun x hx => by
    have q1 := h1 x hx
    have q2 := (s2 x (by omega)).1
    simp only [ky]
    have : c (o x) * 1000 ≤ c i * 1000 := Nat.mul_le_mul_right _ q1
    omega
  have hhi : ∀ x, a ≤ x → x < m → ky c i < ky c (o x) := fun x hx hm => by
    have q1 := h2 x hx hm
    simp only [ky]
    have : (c i + 1) * 1000 ≤ c (o x) * 1000 := Nat.mul_le_mul_right _ q1
    omega
  refine ⟨?_, ?_, ?_, by omega, ?_, by rw [cn, if_neg (by omega), ← s6]⟩
  · intro x y hxy hy
    by_cases x1 : x < a
    · have ex : ins o a i x = o x := by simp only [ins]; rw [if_pos x1]
      rw [ex]
      by_cases y1 : y < a
      · have ey : ins o a i y = o y := by simp only [ins]; rw [if_pos y1]
        rw [ey]; exact s1 x y hxy (by omega)
      · by_cases y2 : y = a
        · have ey : ins o a i y = i := by simp only [ins]; rw [if_neg y1, if_pos y2]
          rw [ey]; exact hlo x x1
        · have ey : ins o a i y = o (y - 1) := by simp only [ins]; rw [if_neg y1, if_neg y2]
          rw [ey]; exact s1 x (y - 1) (by omega) (by omega)
    · have ey : ins o a i y = o (y - 1) := by simp only [ins]; rw [if_neg (by omega), if_neg (by omega)]
      rw [ey]
      by_cases x2 : x = a
      · have ex : ins o a i x = i := by simp only [ins]; rw [if_neg x1, if_pos x2]
        rw [ex]; exact hhi (y - 1) (by omega) (by omega)
      · have ex : ins o a i x = o (x - 1) := by simp only [ins]; rw [if_neg x1, if_neg x2]
        rw [ex]; exact s1 (x - 1) (y - 1) (by omega) (by omega)
  · intro x hx
    by_cases x1 : x < a
    · have ex : ins o a i x = o x := by simp only [ins]; rw [if_pos x1]
      rw [ex]; have := s2 x (by omega); exact ⟨by omega, this.2⟩
    · by_cases x2 : x = a
      · have ex : ins o a i x = i := by simp only [ins]; rw [if_neg x1, if_pos x2]
        rw [ex]; exact ⟨by omega, hc⟩
      · have ex : ins o a i x = o (x - 1) := by simp only [ins]; rw [if_neg x1, if_neg x2]
        rw [ex]; have := s2 (x - 1) (by omega); exact ⟨by omega, this.2⟩
  · intro s hs hp
    by_cases e : s = i
    · exact ⟨a, by omega, by rw [e]; simp only [ins]; rw [if_neg (by omega), if_pos trivial]⟩
    · obtain ⟨x, hx, hox⟩ := s3 s (by omega) hp
      by_cases x1 : x < a
      · exact ⟨x, by omega, by simp only [ins]; rw [if_pos x1, hox]⟩
      · exact ⟨x + 1, by omega, by simp only [ins]; rw [if_neg (by omega), if_neg (by omega), Nat.add_sub_cancel, hox]⟩
  · rw [ins_sum c o a i m ha, s5, sm, Nat.zero_add]
theorem srt_skip {c o : Nat → Nat} {m i : Nat} (H : srt c o m i) (hc : c i = 0) : srt c o m (i + 1) := by
  obtain ⟨s1, s2, s3, s4, s5, s6⟩ := H
  refine ⟨s1, fun x hx => ⟨by have := (s2 x hx).1; omega, (s2 x hx).2⟩, fun s hs hp => ?_, by omega, by rw [s5, sm, Nat.zero_add, hc]; omega, by rw [cn, if_pos hc, ← s6]; rfl⟩
  by_cases e : s = i
  · rw [e] at hp; omega
  · exact s3 s (by omega) hp
/-- the inner loop of sort -/
theorem l_sort28 (F N : Nat) (p : Nat → Int32) (c o : Nat → Nat) (m i : Nat) (hp : ∀ j, j < N → p j = nI (c j)) (hcB : ∀ j, j < N → c j < 1000000) (hN : N ≤ 286) (hi : i < N) (hm : m < 286) (H : ∀ x, x < m → o x < N) (hmono : ∀ x y, x < y → y < m → c (o x) ≤ c (o y)) :
    ∀ (f at_ : Nat) (q : Nat → Int32), at_ ≤ m → at_ < f → (∀ x, x < at_ → q x = nI (o x)) → (∀ x, at_ < x → x ≤ m → q x = nI (o (x - 1)) ∧ c i < c (o (x - 1))) → ∃ (a : Nat) (q' : Nat → Int32), L_Joiner_sort_28 F N p (nI i) f (nI at_) q = some (nI a, q') ∧ a ≤ m ∧ (∀ x, x < a → q' x = nI (o x) ∧ c (o x) ≤ c i) ∧ (∀ x, a < x → x ≤ m → q' x = nI (o (x - 1))) ∧ (∀ x, a ≤ x → x < m → c i < c (o x)) := by
  intro f
  induction f with
  | zero => intro a q _ h; omega
  | succ f ih =>
    intro a q ha hf h1 h2
    unfold L_Joiner_sort_28 B_Joiner_sort_28
    by_cases h0 : a = 0
    · subst h0
      refine ⟨0, q, ?_, by omega, fun x hx => by omega, fun x hx hxm => (h2 x hx hxm).1, fun x _ hxm => ?_⟩
      · simp (disch := omega) only [nm, z_lit, z_one, z_mone, z_neg1, z_neg2, z_pred, z_add, z_mul, z_sub, z_le, z_lt, z_eq, z_tn, z_chk, z_eqm, z_meq, z_lem, z_mle, z_ltm, z_mlt, z_eqq, z_qeq, z_leq, z_qle, z_ltq, z_qlt, z_m1m2, z_m2m1, z_m1m1, z_m2m2, z_bnd1, z_bnd2, z_bnd3, z_bnd4, z_bnd5, z_bnd6, z_bnd7, z_bnd8, z_bnd9, z_bnd10, z_bnd11, z_bnd12, z_bnd13, z_bnd14, z_bnd15, z_bnd16, z_max, z_min, z_n31, z_shl, z_shr, z_us, z_div, z_mod, z_and, z_or, z_xor, if_true, if_false, Nat.le_refl]
      · have := (h2 (x + 1) (by omega) (by omega)).2
        rwa [Nat.add_sub_cancel] at this
    · have e1 : q (a - 1) = nI (o (a - 1)) := h1 (a - 1) (by omega)
      have b1 := H (a - 1) (by omega)
      have b2 := hcB (o (a - 1)) b1
      have b3 := hcB i hi
      have e2 := hp (o (a - 1)) b1
      have e3 := hp i hi
      have n0 : ¬ (a ≤ 0) := by omega
      simp (disch := omega) only [nm, z_lit, z_one, z_mone, z_neg1, z_neg2, z_pred, z_add, z_mul, z_sub, z_le, z_lt, z_eq, z_tn, z_chk, z_eqm, z_meq, z_lem, z_mle, z_ltm, z_mlt, z_eqq, z_qeq, z_leq, z_qle, z_ltq, z_qlt, z_m1m2, z_m2m1, z_m1m1, z_m2m2, z_bnd1, z_bnd2, z_bnd3, z_bnd4, z_bnd5, z_bnd6, z_bnd7, z_bnd8, z_bnd9, z_bnd10, z_bnd11, z_bnd12, z_bnd13, z_bnd14, z_bnd15, z_bnd16, z_max, z_min, z_n31, z_shl, z_shr, z_us, z_div, z_mod, z_and, z_or, z_xor, if_true, if_false, e1, e2, e3, n0]
      by_cases hle : c (o (a - 1)) ≤ c i
      · simp only [hle, if_true]
        refine ⟨a, q, rfl, ha, fun x hx => ⟨h1 x hx, ?_⟩, fun x hx hxm => (h2 x hx hxm).1, fun x hx hxm => ?_⟩
        · by_cases hxa : x = a - 1
          · rw [hxa]; exact hle
          · exact Nat.le_trans (hmono x (a - 1) (by omega) (by omega)) hle
        · have := (h2 (x + 1) (by omega) (by omega)).2
          rwa [Nat.add_sub_cancel] at this
      · simp only [hle, if_false]
        refine ih (a - 1) _ (by omega) (by omega) (fun x hx => ?_) (fun x hx hxm => ?_)
        · rw [z_updN (by omega)]; exact h1 x (by omega)
        · by_cases hxa : x = a
          · subst hxa
            rw [z_updE]; exact ⟨rfl, by omega⟩
          · rw [z_updN hxa]; exact h2 x (by omega) hxm
theorem l_sort4 (F N : Nat) (p : Nat → Int32) (c : Nat → Nat) (hp : ∀ j, j < N → p j = nI (c j)) (hcB : ∀ j, j < N → c j < 1000000) (hN : N ≤ 286) (hF : 100000 ≤ F) :
    ∀ (f i m : Nat) (q : Nat → Int32) (o : Nat → Nat), i ≤ N → N - i < f → srt c o m i → (∀ x, x < m → q x = nI (o x)) → ∃ (m' : Nat) (q' : Nat → Int32) (o' : Nat → Nat), L_Joiner_sort_4 F N p f (nI m) (nI i) q = some (nI m', nI N, q') ∧ srt c o' m' N ∧ (∀ x, x < m' → q' x = nI (o' x)) := by
  intro f
  induction f with
  | zero => intro i m q o _ h; omega
  | succ f ih =>
    intro i m q o hi hf H hq
    have hmi := H.2.2.2.1
    unfold L_Joiner_sort_4 B_Joiner_sort_4
    by_cases h : N ≤ i
    · have e : i = N := by omega
      subst e
      refine ⟨m, q, o, ?_, H, hq⟩
      simp (disch := omega) only [nm, z_lit, z_one, z_mone, z_neg1, z_neg2, z_pred, z_add, z_mul, z_sub, z_le, z_lt, z_eq, z_tn, z_chk, z_eqm, z_meq, z_lem, z_mle, z_ltm, z_mlt, z_eqq, z_qeq, z_leq, z_qle, z_ltq, z_qlt, z_m1m2, z_m2m1, z_m1m1, z_m2m2, z_bnd1, z_bnd2, z_bnd3, z_bnd4, z_bnd5, z_bnd6, z_bnd7, z_bnd8, z_bnd9, z_bnd10, z_bnd11, z_bnd12, z_bnd13, z_bnd14, z_bnd15, z_bnd16, z_max, z_min, z_n31, z_shl, z_shr, z_us, z_div, z_mod, z_and, z_or, z_xor, if_true, if_false, Nat.le_refl]
    · have n1 : ¬ (286 ≤ m) := by omega
      have e1 := hp i (by omega)
      have b1 := hcB i (by omega)
      simp (disch := omega) only [nm, z_lit, z_one, z_mone, z_neg1, z_neg2, z_pred, z_add, z_mul, z_sub, z_le, z_lt, z_eq, z_tn, z_chk, z_eqm, z_meq, z_lem, z_mle, z_ltm, z_mlt, z_eqq, z_qeq, z_leq, z_qle, z_ltq, z_qlt, z_m1m2, z_m2m1, z_m1m1, z_m2m2, z_bnd1, z_bnd2, z_bnd3, z_bnd4, z_bnd5, z_bnd6, z_bnd7, z_bnd8, z_bnd9, z_bnd10, z_bnd11, z_bnd12, z_bnd13, z_bnd14, z_bnd15, z_bnd16, z_max, z_min, z_n31, z_shl, z_shr, z_us, z_div, z_mod, z_and, z_or, z_xor, if_true, if_false, h, n1, e1]
      by_cases hc : c i ≤ 0
      · simp (disch := omega) only [nm, z_lit, z_one, z_mone, z_neg1, z_neg2, z_pred, z_add, z_mul, z_sub, z_le, z_lt, z_eq, z_tn, z_chk, z_eqm, z_meq, z_lem, z_mle, z_ltm, z_mlt, z_eqq, z_qeq, z_leq, z_qle, z_ltq, z_qlt, z_m1m2, z_m2m1, z_m1m1, z_m2m2, z_bnd1, z_bnd2, z_bnd3, z_bnd4, z_bnd5, z_bnd6, z_bnd7, z_bnd8, z_bnd9, z_bnd10, z_bnd11, z_bnd12, z_bnd13, z_bnd14, z_bnd15, z_bnd16, z_max, z_min, z_n31, z_shl, z_shr, z_us, z_div, z_mod, z_and, z_or, z_xor, if_true, if_false, hc]
        exact ih (i + 1) m q o (by omega) (by omega) (srt_skip H (by omega)) hq
      · have hmono : ∀ x y, x < y → y < m → c (o x) ≤ c (o y) := fun x y hxy hy => by
          have q1 := H.1 x y hxy hy
          have q2 := (H.2.1 x (by omega)).1
          have q3 := (H.2.1 y hy).1
          simp only [ky] at q1
          omega
        obtain ⟨a, q', e2, ha, h3, h4, h5⟩ := l_sort28 F N p c o m i hp hcB hN (by omega) (by omega) (fun x hx => by have := (H.2.1 x hx).1; omega) hmono F m q (Nat.le_refl m) (by omega) hq (fun x hx hxm => by omega)
        simp (disch := omega) only [nm, z_lit, z_one, z_mone, z_neg1, z_neg2, z_pred, z_add, z_mul, z_sub, z_le, z_lt, z_eq, z_tn, z_chk, z_eqm, z_meq, z_lem, z_mle, z_ltm, z_mlt, z_eqq, z_qeq, z_leq, z_qle, z_ltq, z_qlt, z_m1m2, z_m2m1, z_m1m1, z_m2m2, z_bnd1, z_bnd2, z_bnd3, z_bnd4, z_bnd5, z_bnd6, z_bnd7, z_bnd8, z_bnd9, z_bnd10, z_bnd11, z_bnd12, z_bnd13, z_bnd14, z_bnd15, z_bnd16, z_max, z_min, z_n31, z_shl, z_shr, z_us, z_div, z_mod, z_and, z_or, z_xor, if_true, if_false, hc, e2]
        refine ih (i + 1) (m + 1) _ (ins o a i) (by omega) (by omega) (srt_ins H (by omega) (by omega) ha (fun x hx => (h3 x hx).2) h5) (fun x hx => ?_)
        by_cases x1 : x < a
        · rw [z_updN (by omega), (h3 x x1).1]; simp only [ins]; rw [if_pos x1]
        · by_cases x2 : x = a
          · subst x2; rw [z_updE]; simp only [ins]; rw [if_neg x1, if_pos trivial]
          · rw [z_updN x2, h4 x (by omega) (by omega)]; simp only [ins]; rw [if_neg x1, if_neg x2]
theorem s_sort (F N : Nat) (p q : Nat → Int32) (c : Nat → Nat) (hp : ∀ j, j < N → p j = nI (c j)) (hcB : ∀ j, j < N → c j < 1000000) (hN : N ≤ 286) (hF : 100000 ≤ F) : ∃ (m : Nat) (q' : Nat → Int32) (o : Nat → Nat), m_Joiner_sort F N p q = some (nI m, q') ∧ srt c o m N ∧ (∀ x, x < m → q' x = nI (o x)) := by
  obtain ⟨m, q', o, h1, h2, h3⟩ := l_sort4 F N p c hp hcB hN hF F 0 0 q (fun _ => 0) (by omega) (by omega) ⟨fun x y _ h => by omega, fun x h => by omega, fun s h => by omega, by omega, rfl, rfl⟩ (fun x h => by omega)
  refine ⟨m, q', o, ?_, h2, h3⟩
  unfold m_Joiner_sort
  simp only [z_lit, h1, z_bnd3]
