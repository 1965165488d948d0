/-! the bits of a plan -/
theorem l_xb6 (F : Nat) (lt_ : Nat → Int32) (c : Nat → Nat) (hl : ∀ s, s < 286 → lt_ s = nI (c s)) : ∀ (f i v : Nat), 257 ≤ i → i ≤ 286 → 286 - i < f → L_Plan_extraBits_6 F lt_ f (nI v) (nI i) = some (nI (v + sm (fun s => c s * sx s) i (286 - i)), nI 286) := by
  intro f
  induction f with
  | zero => intro i v _ _ h; omega
  | succ f ih =>
    intro i v h0 hi hf
    unfold L_Plan_extraBits_6 B_Plan_extraBits_6
    by_cases h : 286 ≤ i
    · have e : i = 286 := by omega
      subst e
      simp (disch := omega) only [nm, z_lit, z_one, z_mone, z_neg1, z_neg2, z_pred, z_add, z_mul, z_sub, z_le, z_lt, z_eq, z_tn, z_chk, z_eqm, z_meq, z_lem, z_mle, z_ltm, z_mlt, z_eqq, z_qeq, z_leq, z_qle, z_ltq, z_qlt, z_m1m2, z_m2m1, z_m1m1, z_m2m2, z_bnd1, z_bnd2, z_bnd3, z_bnd4, z_bnd5, z_bnd6, z_bnd7, z_bnd8, z_bnd9, z_bnd10, z_bnd11, z_bnd12, z_bnd13, z_bnd14, z_bnd15, z_bnd16, z_max, z_min, z_n31, z_shl, z_shr, z_us, z_div, z_mod, z_and, z_or, z_xor, if_true, if_false, Nat.le_refl, Nat.sub_self, sm, Nat.add_zero]
    · have ex : 286 - i = (286 - (i + 1)) + 1 := by omega
      have es := hl i (by omega)
      have e5 := s_lextra F i (by omega) (by omega)
      simp (disch := omega) only [nm, z_lit, z_one, z_mone, z_neg1, z_neg2, z_pred, z_add, z_mul, z_sub, z_le, z_lt, z_eq, z_tn, z_chk, z_eqm, z_meq, z_lem, z_mle, z_ltm, z_mlt, z_eqq, z_qeq, z_leq, z_qle, z_ltq, z_qlt, z_m1m2, z_m2m1, z_m1m1, z_m2m2, z_bnd1, z_bnd2, z_bnd3, z_bnd4, z_bnd5, z_bnd6, z_bnd7, z_bnd8, z_bnd9, z_bnd10, z_bnd11, z_bnd12, z_bnd13, z_bnd14, z_bnd15, z_bnd16, z_max, z_min, z_n31, z_shl, z_shr, z_us, z_div, z_mod, z_and, z_or, z_xor, if_true, if_false, h, es, e5]
      rw [ih (i + 1) _ (by omega) (by omega) (by omega), ex, sm_first, ← Nat.add_assoc]
theorem l_xb38 (F : Nat) (dc : Nat → Int32) (c : Nat → Nat) (hl : ∀ s, s < 30 → dc s = nI (c s)) : ∀ (f i v : Nat), i ≤ 30 → 30 - i < f → L_Plan_extraBits_38 F dc f (nI v) (nI i) = some (nI (v + sm (fun s => c s * tbn 3 s) i (30 - i)), nI 30) := by
  intro f
  induction f with
  | zero => intro i v _ h; omega
  | succ f ih =>
    intro i v hi hf
    unfold L_Plan_extraBits_38 B_Plan_extraBits_38
    by_cases h : 30 ≤ i
    · have e : i = 30 := by omega
      subst e
      simp (disch := omega) only [nm, z_lit, z_one, z_mone, z_neg1, z_neg2, z_pred, z_add, z_mul, z_sub, z_le, z_lt, z_eq, z_tn, z_chk, z_eqm, z_meq, z_lem, z_mle, z_ltm, z_mlt, z_eqq, z_qeq, z_leq, z_qle, z_ltq, z_qlt, z_m1m2, z_m2m1, z_m1m1, z_m2m2, z_bnd1, z_bnd2, z_bnd3, z_bnd4, z_bnd5, z_bnd6, z_bnd7, z_bnd8, z_bnd9, z_bnd10, z_bnd11, z_bnd12, z_bnd13, z_bnd14, z_bnd15, z_bnd16, z_max, z_min, z_n31, z_shl, z_shr, z_us, z_div, z_mod, z_and, z_or, z_xor, if_true, if_false, Nat.le_refl, Nat.sub_self, sm, Nat.add_zero]
    · have ex : 30 - i = (30 - (i + 1)) + 1 := by omega
      have es := hl i (by omega)
      have e5 := (tb3 i (by omega)).1
      simp (disch := omega) only [nm, z_lit, z_one, z_mone, z_neg1, z_neg2, z_pred, z_add, z_mul, z_sub, z_le, z_lt, z_eq, z_tn, z_chk, z_eqm, z_meq, z_lem, z_mle, z_ltm, z_mlt, z_eqq, z_qeq, z_leq, z_qle, z_ltq, z_qlt, z_m1m2, z_m2m1, z_m1m1, z_m2m2, z_bnd1, z_bnd2, z_bnd3, z_bnd4, z_bnd5, z_bnd6, z_bnd7, z_bnd8, z_bnd9, z_bnd10, z_bnd11, z_bnd12, z_bnd13, z_bnd14, z_bnd15, z_bnd16, z_max, z_min, z_n31, z_shl, z_shr, z_us, z_div, z_mod, z_and, z_or, z_xor, if_true, if_false, h, es, e5, tn3]
      rw [ih (i + 1) _ (by omega) (by omega), ex, sm_first, ← Nat.add_assoc]
theorem l_fb9 (F : Nat) (lt_ : Nat → Int32) (c : Nat → Nat) (hl : ∀ s, s < 286 → lt_ s = nI (c s)) : ∀ (f i v : Nat), i ≤ 286 → 286 - i < f → L_Plan_fixedBits_9 F lt_ f (nI v) (nI i) = some (nI (v + sm (fun s => c s * fl s) i (286 - i)), nI 286) := by
  intro f
  induction f with
  | zero => intro i v _ h; omega
  | succ f ih =>
    intro i v hi hf
    unfold L_Plan_fixedBits_9 B_Plan_fixedBits_9
    by_cases h : 286 ≤ i
    · have e : i = 286 := by omega
      subst e
      simp (disch := omega) only [nm, z_lit, z_one, z_mone, z_neg1, z_neg2, z_pred, z_add, z_mul, z_sub, z_le, z_lt, z_eq, z_tn, z_chk, z_eqm, z_meq, z_lem, z_mle, z_ltm, z_mlt, z_eqq, z_qeq, z_leq, z_qle, z_ltq, z_qlt, z_m1m2, z_m2m1, z_m1m1, z_m2m2, z_bnd1, z_bnd2, z_bnd3, z_bnd4, z_bnd5, z_bnd6, z_bnd7, z_bnd8, z_bnd9, z_bnd10, z_bnd11, z_bnd12, z_bnd13, z_bnd14, z_bnd15, z_bnd16, z_max, z_min, z_n31, z_shl, z_shr, z_us, z_div, z_mod, z_and, z_or, z_xor, if_true, if_false, Nat.le_refl, Nat.sub_self, sm, Nat.add_zero]
    · have ex : 286 - i = (286 - (i + 1)) + 1 := by omega
      have es := hl i (by omega)
      have e5 := s_flen F i (by omega)
      simp (disch := omega) only [nm, z_lit, z_one, z_mone, z_neg1, z_neg2, z_pred, z_add, z_mul, z_sub, z_le, z_lt, z_eq, z_tn, z_chk, z_eqm, z_meq, z_lem, z_mle, z_ltm, z_mlt, z_eqq, z_qeq, z_leq, z_qle, z_ltq, z_qlt, z_m1m2, z_m2m1, z_m1m1, z_m2m2, z_bnd1, z_bnd2, z_bnd3, z_bnd4, z_bnd5, z_bnd6, z_bnd7, z_bnd8, z_bnd9, z_bnd10, z_bnd11, z_bnd12, z_bnd13, z_bnd14, z_bnd15, z_bnd16, z_max, z_min, z_n31, z_shl, z_shr, z_us, z_div, z_mod, z_and, z_or, z_xor, if_true, if_false, h, es, e5]
      rw [ih (i + 1) _ (by omega) (by omega), ex, sm_first, ← Nat.add_assoc]
theorem l_ob4 (F : Nat) (lt_ ln : Nat → Int32) (c L : Nat → Nat) (hl : ∀ s, s < 286 → lt_ s = nI (c s)) (hL : ∀ s, s < 286 → ln s = nI (L s)) : ∀ (f i v : Nat), i ≤ 286 → 286 - i < f → L_Plan_ownBits_4 F lt_ ln f (nI v) (nI i) = some (nI (v + sm (fun s => c s * L s) i (286 - i)), nI 286) := by
  intro f
  induction f with
  | zero => intro i v _ h; omega
  | succ f ih =>
    intro i v hi hf
    unfold L_Plan_ownBits_4 B_Plan_ownBits_4
    by_cases h : 286 ≤ i
    · have e : i = 286 := by omega
      subst e
      simp (disch := omega) only [nm, z_lit, z_one, z_mone, z_neg1, z_neg2, z_pred, z_add, z_mul, z_sub, z_le, z_lt, z_eq, z_tn, z_chk, z_eqm, z_meq, z_lem, z_mle, z_ltm, z_mlt, z_eqq, z_qeq, z_leq, z_qle, z_ltq, z_qlt, z_m1m2, z_m2m1, z_m1m1, z_m2m2, z_bnd1, z_bnd2, z_bnd3, z_bnd4, z_bnd5, z_bnd6, z_bnd7, z_bnd8, z_bnd9, z_bnd10, z_bnd11, z_bnd12, z_bnd13, z_bnd14, z_bnd15, z_bnd16, z_max, z_min, z_n31, z_shl, z_shr, z_us, z_div, z_mod, z_and, z_or, z_xor, if_true, if_false, Nat.le_refl, Nat.sub_self, sm, Nat.add_zero]
    · have ex : 286 - i = (286 - (i + 1)) + 1 := by omega
      have es := hl i (by omega)
      have e5 := hL i (by omega)
      simp (disch := omega) only [nm, z_lit, z_one, z_mone, z_neg1, z_neg2, z_pred, z_add, z_mul, z_sub, z_le, z_lt, z_eq, z_tn, z_chk, z_eqm, z_meq, z_lem, z_mle, z_ltm, z_mlt, z_eqq, z_qeq, z_leq, z_qle, z_ltq, z_qlt, z_m1m2, z_m2m1, z_m1m1, z_m2m2, z_bnd1, z_bnd2, z_bnd3, z_bnd4, z_bnd5, z_bnd6, z_bnd7, z_bnd8, z_bnd9, z_bnd10, z_bnd11, z_bnd12, z_bnd13, z_bnd14, z_bnd15, z_bnd16, z_max, z_min, z_n31, z_shl, z_shr, z_us, z_div, z_mod, z_and, z_or, z_xor, if_true, if_false, h, es, e5]
      rw [ih (i + 1) _ (by omega) (by omega), ex, sm_first, ← Nat.add_assoc]
theorem l_ob41 (F : Nat) (dc ln : Nat → Int32) (c L : Nat → Nat) (hl : ∀ s, s < 30 → dc s = nI (c s)) (hL : ∀ s, s < 30 → ln s = nI (L s)) : ∀ (f i v : Nat), i ≤ 30 → 30 - i < f → L_Plan_ownBits_41 F dc ln f (nI v) (nI i) = some (nI (v + sm (fun s => c s * L s) i (30 - i)), nI 30) := by
  intro f
  induction f with
  | zero => intro i v _ h; omega
  | succ f ih =>
    intro i v hi hf
    unfold L_Plan_ownBits_41 B_Plan_ownBits_41
    by_cases h : 30 ≤ i
    · have e : i = 30 := by omega
      subst e
      simp (disch := omega) only [nm, z_lit, z_one, z_mone, z_neg1, z_neg2, z_pred, z_add, z_mul, z_sub, z_le, z_lt, z_eq, z_tn, z_chk, z_eqm, z_meq, z_lem, z_mle, z_ltm, z_mlt, z_eqq, z_qeq, z_leq, z_qle, z_ltq, z_qlt, z_m1m2, z_m2m1, z_m1m1, z_m2m2, z_bnd1, z_bnd2, z_bnd3, z_bnd4, z_bnd5, z_bnd6, z_bnd7, z_bnd8, z_bnd9, z_bnd10, z_bnd11, z_bnd12, z_bnd13, z_bnd14, z_bnd15, z_bnd16, z_max, z_min, z_n31, z_shl, z_shr, z_us, z_div, z_mod, z_and, z_or, z_xor, if_true, if_false, Nat.le_refl, Nat.sub_self, sm, Nat.add_zero]
    · have ex : 30 - i = (30 - (i + 1)) + 1 := by omega
      have es := hl i (by omega)
      have e5 := hL i (by omega)
      simp (disch := omega) only [nm, z_lit, z_one, z_mone, z_neg1, z_neg2, z_pred, z_add, z_mul, z_sub, z_le, z_lt, z_eq, z_tn, z_chk, z_eqm, z_meq, z_lem, z_mle, z_ltm, z_mlt, z_eqq, z_qeq, z_leq, z_qle, z_ltq, z_qlt, z_m1m2, z_m2m1, z_m1m1, z_m2m2, z_bnd1, z_bnd2, z_bnd3, z_bnd4, z_bnd5, z_bnd6, z_bnd7, z_bnd8, z_bnd9, z_bnd10, z_bnd11, z_bnd12, z_bnd13, z_bnd14, z_bnd15, z_bnd16, z_max, z_min, z_n31, z_shl, z_shr, z_us, z_div, z_mod, z_and, z_or, z_xor, if_true, if_false, h, es, e5]
      rw [ih (i + 1) _ (by omega) (by omega), ex, sm_first, ← Nat.add_assoc]
/-- the tokens' extra bits -/
def xbits (T Fa : Nat → Nat) (K : Nat) : Nat := sm (fun i => if T i = 1 then 0 else lx (T i) + fx (Fa i)) 0 K
/-- tokens and end by lengths L of literals and D of distances, without extra bits -/
def tbits (b T Fa : Nat → Nat) (fr K : Nat) (L D : Nat → Nat) : Nat := L 256 + sm (fun i => L (tsy b T fr i)) 0 K + sm (fun i => if T i = 1 then 0 else D (fs (Fa i))) 0 K
theorem sx_tsy {b T Fa : Nat → Nat} {fr to K k : Nat} (h : tok T Fa fr to K) (hb : ∀ j, j < 512 → b j < 256) (hto : to ≤ 512) (hk : k < K) : sx (tsy b T fr k) = if T k = 1 then 0 else lx (T k) := by
  have q := h.1 k hk
  have r := tok_lt h hk
  unfold tsy
  by_cases e : T k = 1
  · rw [if_pos e, if_pos e]
    have := hb (fr + sm T 0 k) (by omega)
    unfold sx; rw [if_neg (by omega)]
  · rw [if_neg e, if_neg e]
    have := ls_facts (T k) (by omega) (by omega)
    unfold sx; rw [if_pos (by omega)]; exact this.2.2.1
theorem s_extraBits (F : Nat) (b T Fa : Nat → Nat) (fr to K : Nat) (dc lt_ tkn : Nat → Int32) (hF : 100000 ≤ F) (hb : ∀ j, j < 512 → b j < 256) (hto : to ≤ 512) (h : tok T Fa fr to K) (P : plan b T Fa fr K dc lt_ tkn) : m_Plan_extraBits F dc lt_ = some (nI (xbits T Fa K)) := by
  unfold m_Plan_extraBits
  simp only [z_lit]
  rw [l_xb6 F lt_ _ P.2.1 F 257 0 (by omega) (by omega) (by omega), z_bnd2, l_xb38 F dc _ P.1 F 0 _ (by omega) (by omega), z_bnd2]
  congr 2
  have e1 := lc_sum h hb hto sx 286 (by omega) K (Nat.le_refl _)
  have e2 : sm (fun s => lc b T fr K s * sx s) 0 286 = sm (fun s => lc b T fr K s * sx s) 0 257 + sm (fun s => lc b T fr K s * sx s) (0 + 257) 29 := sm_add _ _ 257 29
  have e3 : sm (fun s => lc b T fr K s * sx s) 0 257 = 0 := sm_zero _ _ _ (fun i _ hi => by
    show lc b T fr K i * sx i = 0
    have : sx i = 0 := by unfold sx; rw [if_neg (by omega)]
    rw [this, Nat.mul_zero])
  have e4 := fc_sum h (tbn 3) 30 (by omega) K (Nat.le_refl _)
  have e5 : sx 256 = 0 := by decide +kernel
  have e6 : sm (fun i => sx (tsy b T fr i)) 0 K = sm (fun i => if T i = 1 then 0 else lx (T i)) 0 K := sm_congr (fun i _ hi => sx_tsy h hb hto (by omega))
  have e7 : sm (fun i => if T i = 1 then 0 else tbn 3 (fs (Fa i))) 0 K = sm (fun i => if T i = 1 then 0 else fx (Fa i)) 0 K := sm_congr (fun i _ hi => by
    have q := h.1 i (by omega)
    by_cases e : T i = 1
    · simp only [if_pos e]
    · simp only [if_neg e]
      exact (fs_facts (Fa i) (by omega) (by omega)).2.1)
  have e8 : xbits T Fa K = sm (fun i => if T i = 1 then 0 else lx (T i)) 0 K + sm (fun i => if T i = 1 then 0 else fx (Fa i)) 0 K := by
    unfold xbits
    rw [← sm_addf]
    exact sm_congr (fun i _ _ => by
      by_cases e : T i = 1
      · simp only [if_pos e]
      · simp only [if_neg e])
  show 0 + sm (fun s => lc b T fr K s * sx s) 257 29 + sm (fun s => fc T Fa K s * tbn 3 s) 0 30 = _
  rw [e4, e7, e8, ← e6]
  rw [e2, e3, e5] at e1
  show 0 + sm (fun s => lc b T fr K s * sx s) (0 + 257) 29 + _ = _
  omega
theorem mt_sum (T : Nat → Nat) : ∀ k, mtc T k * 5 = sm (fun i => if T i = 1 then 0 else 5) 0 k := by
  intro k
  induction k with
  | zero => rfl
  | succ k ih =>
    rw [mtc, sm, ← ih, Nat.zero_add]
    split <;> omega
theorem s_fixedBits (F : Nat) (b T Fa : Nat → Nat) (fr to K : Nat) (dc lt_ tkn : Nat → Int32) (hF : 100000 ≤ F) (hb : ∀ j, j < 512 → b j < 256) (hto : to ≤ 512) (h : tok T Fa fr to K) (P : plan b T Fa fr K dc lt_ tkn) : m_Plan_fixedBits F lt_ (nI (mtc T K)) = some (nI (tbits b T Fa fr K fl (fun _ => 5))) := by
  unfold m_Plan_fixedBits
  simp only [z_lit, nm, z_mul]
  rw [l_fb9 F lt_ _ P.2.1 F 0 _ (by omega) (by omega), z_bnd2]
  congr 2
  unfold tbits
  rw [← mt_sum, lc_sum h hb hto fl 286 (by omega) K (Nat.le_refl _)]
  omega
theorem s_ownBits (F : Nat) (b T Fa : Nat → Nat) (fr to K : Nat) (dc lt_ tkn ll dl : Nat → Int32) (L D : Nat → Nat) (hF : 100000 ≤ F) (hb : ∀ j, j < 512 → b j < 256) (hto : to ≤ 512) (h : tok T Fa fr to K) (P : plan b T Fa fr K dc lt_ tkn) (hL : ∀ s, s < 286 → ll s = nI (L s)) (hD : ∀ s, s < 30 → dl s = nI (D s)) : m_Plan_ownBits F dc dl lt_ ll = some (nI (tbits b T Fa fr K L D)) := by
  unfold m_Plan_ownBits
  simp only [z_lit]
  rw [l_ob4 F lt_ ll _ L P.2.1 hL F 0 _ (by omega) (by omega), z_bnd2, l_ob41 F dc dl _ D P.1 hD F 0 _ (by omega) (by omega), z_bnd2]
  congr 2
  unfold tbits
  show 0 + sm (fun s => lc b T fr K s * L s) 0 286 + sm (fun s => fc T Fa K s * D s) 0 30 = _
  rw [lc_sum h hb hto L 286 (by omega) K (Nat.le_refl _), fc_sum h D 30 (by omega) K (Nat.le_refl _)]
  omega
/-! the model's counts and bits -/
theorem l_ct2 (F : Nat) : ∀ (f i : Nat) (q : Nat → Int32), i ≤ 288 → 288 - i < f → (∀ s, s < i → q s = nI (if s = 256 then 1 else 0)) → ∃ q', L_MD_countTokens_2 F f (nI i) q = some (nI 288, q') ∧ ∀ s, s < 288 → q' s = nI (if s = 256 then 1 else 0) := by
  intro f
  induction f with
  | zero => intro i q _ h; omega
  | succ f ih =>
    intro i q hi hf I
    unfold L_MD_countTokens_2 B_MD_countTokens_2
    by_cases h : 288 ≤ i
    · have e : i = 288 := by omega
      subst e
      exact ⟨q, by simp (disch := omega) only [nm, z_lit, z_one, z_mone, z_neg1, z_neg2, z_pred, z_add, z_mul, z_sub, z_le, z_lt, z_eq, z_tn, z_chk, z_eqm, z_meq, z_lem, z_mle, z_ltm, z_mlt, z_eqq, z_qeq, z_leq, z_qle, z_ltq, z_qlt, z_m1m2, z_m2m1, z_m1m1, z_m2m2, z_bnd1, z_bnd2, z_bnd3, z_bnd4, z_bnd5, z_bnd6, z_bnd7, z_bnd8, z_bnd9, z_bnd10, z_bnd11, z_bnd12, z_bnd13, z_bnd14, z_bnd15, z_bnd16, z_max, z_min, z_n31, z_shl, z_shr, z_us, z_div, z_mod, z_and, z_or, z_xor, if_true, if_false, Nat.le_refl], I⟩
    · have key : ∀ z, z = nI (if i = 256 then 1 else 0) → ∀ s, s < i + 1 → upd q i z s = nI (if s = 256 then 1 else 0) := fun z hz s hs => by
        by_cases e : s = i
        · rw [e, z_updE, hz]
        · rw [z_updN e]; exact I s (by omega)
      by_cases h2 : i = 256
      · simp (disch := omega) only [nm, z_lit, z_one, z_mone, z_neg1, z_neg2, z_pred, z_add, z_mul, z_sub, z_le, z_lt, z_eq, z_tn, z_chk, z_eqm, z_meq, z_lem, z_mle, z_ltm, z_mlt, z_eqq, z_qeq, z_leq, z_qle, z_ltq, z_qlt, z_m1m2, z_m2m1, z_m1m1, z_m2m2, z_bnd1, z_bnd2, z_bnd3, z_bnd4, z_bnd5, z_bnd6, z_bnd7, z_bnd8, z_bnd9, z_bnd10, z_bnd11, z_bnd12, z_bnd13, z_bnd14, z_bnd15, z_bnd16, z_max, z_min, z_n31, z_shl, z_shr, z_us, z_div, z_mod, z_and, z_or, z_xor, if_true, if_false, h, h2]
        subst h2
        exact ih 257 _ (by omega) (by omega) (key _ rfl)
      · simp (disch := omega) only [nm, z_lit, z_one, z_mone, z_neg1, z_neg2, z_pred, z_add, z_mul, z_sub, z_le, z_lt, z_eq, z_tn, z_chk, z_eqm, z_meq, z_lem, z_mle, z_ltm, z_mlt, z_eqq, z_qeq, z_leq, z_qle, z_ltq, z_qlt, z_m1m2, z_m2m1, z_m1m1, z_m2m2, z_bnd1, z_bnd2, z_bnd3, z_bnd4, z_bnd5, z_bnd6, z_bnd7, z_bnd8, z_bnd9, z_bnd10, z_bnd11, z_bnd12, z_bnd13, z_bnd14, z_bnd15, z_bnd16, z_max, z_min, z_n31, z_shl, z_shr, z_us, z_div, z_mod, z_and, z_or, z_xor, if_true, if_false, h, h2]
        exact ih (i + 1) _ (by omega) (by omega) (key _ (by rw [if_neg h2]))
theorem l_ct35 (F : Nat) : ∀ (f i : Nat) (q : Nat → Int32), i ≤ 32 → 32 - i < f → (∀ s, s < i → q s = nI 0) → ∃ q', L_MD_countTokens_35 F f (nI i) q = some (nI 32, q') ∧ ∀ s, s < 32 → q' s = nI 0 := by
  intro f
  induction f with
  | zero => intro i q _ h; omega
  | succ f ih =>
    intro i q hi hf I
    unfold L_MD_countTokens_35 B_MD_countTokens_35
    by_cases h : 32 ≤ i
    · have e : i = 32 := by omega
      subst e
      exact ⟨q, by simp (disch := omega) only [nm, z_lit, z_one, z_mone, z_neg1, z_neg2, z_pred, z_add, z_mul, z_sub, z_le, z_lt, z_eq, z_tn, z_chk, z_eqm, z_meq, z_lem, z_mle, z_ltm, z_mlt, z_eqq, z_qeq, z_leq, z_qle, z_ltq, z_qlt, z_m1m2, z_m2m1, z_m1m1, z_m2m2, z_bnd1, z_bnd2, z_bnd3, z_bnd4, z_bnd5, z_bnd6, z_bnd7, z_bnd8, z_bnd9, z_bnd10, z_bnd11, z_bnd12, z_bnd13, z_bnd14, z_bnd15, z_bnd16, z_max, z_min, z_n31, z_shl, z_shr, z_us, z_div, z_mod, z_and, z_or, z_xor, if_true, if_false, Nat.le_refl], I⟩
    · simp (disch := omega) only [nm, z_lit, z_one, z_mone, z_neg1, z_neg2, z_pred, z_add, z_mul, z_sub, z_le, z_lt, z_eq, z_tn, z_chk, z_eqm, z_meq, z_lem, z_mle, z_ltm, z_mlt, z_eqq, z_qeq, z_leq, z_qle, z_ltq, z_qlt, z_m1m2, z_m2m1, z_m1m1, z_m2m2, z_bnd1, z_bnd2, z_bnd3, z_bnd4, z_bnd5, z_bnd6, z_bnd7, z_bnd8, z_bnd9, z_bnd10, z_bnd11, z_bnd12, z_bnd13, z_bnd14, z_bnd15, z_bnd16, z_max, z_min, z_n31, z_shl, z_shr, z_us, z_div, z_mod, z_and, z_or, z_xor, if_true, if_false, h]
      refine ih (i + 1) _ (by omega) (by omega) (fun s hs => ?_)
      by_cases e : s = i
      · rw [e, z_updE]
      · rw [z_updN e]; exact I s (by omega)
/-- the model's tokens -/
def mtok (ts tf : Nat → Int32) (T Fa : Nat → Nat) (K : Nat) : Prop := ∀ k, k < K → ts k = nI (T k) ∧ tf k = nI (Fa k)
theorem l_ct58 (F : Nat) (B ts tf : Nat → Int32) (b T Fa : Nat → Nat) (fr to K : Nat) (hF : 100000 ≤ F) (hB : byt B b) (hto : to ≤ 512) (h : tok T Fa fr to K) (hm : mtok ts tf T Fa K) : ∀ (f k : Nat) (fq lq : Nat → Int32), k ≤ K → K - k < f → (∀ s, s < 288 → lq s = nI (lc b T fr k s)) → (∀ s, s < 32 → fq s = nI (fc T Fa k s)) → ∃ fq' lq', L_MD_countTokens_58 F B tf ts (nI K) f (nI (fr + sm T 0 k)) (nI k) fq lq = some (nI to, nI K, fq', lq') ∧ (∀ s, s < 288 → lq' s = nI (lc b T fr K s)) ∧ (∀ s, s < 32 → fq' s = nI (fc T Fa K s)) := by
  have K5 := tok_pos h K (Nat.le_refl _)
  intro f
  induction f with
  | zero => intro k fq lq _ h; omega
  | succ f ih =>
    intro k fq lq hk hf I1 I2
    unfold L_MD_countTokens_58 B_MD_countTokens_58
    by_cases e : K ≤ k
    · have e : k = K := by omega
      subst e
      rw [h.2]
      exact ⟨fq, lq, by simp (disch := omega) only [nm, z_lit, z_one, z_mone, z_neg1, z_neg2, z_pred, z_add, z_mul, z_sub, z_le, z_lt, z_eq, z_tn, z_chk, z_eqm, z_meq, z_lem, z_mle, z_ltm, z_mlt, z_eqq, z_qeq, z_leq, z_qle, z_ltq, z_qlt, z_m1m2, z_m2m1, z_m1m1, z_m2m2, z_bnd1, z_bnd2, z_bnd3, z_bnd4, z_bnd5, z_bnd6, z_bnd7, z_bnd8, z_bnd9, z_bnd10, z_bnd11, z_bnd12, z_bnd13, z_bnd14, z_bnd15, z_bnd16, z_max, z_min, z_n31, z_shl, z_shr, z_us, z_div, z_mod, z_and, z_or, z_xor, if_true, if_false, Nat.le_refl], I1, I2⟩
    · have q := h.1 k (by omega)
      have r := tok_lt h (k := k) (by omega)
      obtain ⟨m1', m2'⟩ := hm k (by omega)
      obtain ⟨b1, b2⟩ := hB (fr + sm T 0 k) (by omega)
      have es : fr + sm T 0 k + T k = fr + sm T 0 (k + 1) := by rw [sm, Nat.zero_add]; omega
      by_cases e1 : T k = 1
      · have e4 := I1 (b (fr + sm T 0 k)) (by omega)
        have et : tsy b T fr k = b (fr + sm T 0 k) := by unfold tsy; rw [if_pos e1]
        rw [e1] at m1' es
        simp (disch := omega) only [nm, z_lit, z_one, z_mone, z_neg1, z_neg2, z_pred, z_add, z_mul, z_sub, z_le, z_lt, z_eq, z_tn, z_chk, z_eqm, z_meq, z_lem, z_mle, z_ltm, z_mlt, z_eqq, z_qeq, z_leq, z_qle, z_ltq, z_qlt, z_m1m2, z_m2m1, z_m1m1, z_m2m2, z_bnd1, z_bnd2, z_bnd3, z_bnd4, z_bnd5, z_bnd6, z_bnd7, z_bnd8, z_bnd9, z_bnd10, z_bnd11, z_bnd12, z_bnd13, z_bnd14, z_bnd15, z_bnd16, z_max, z_min, z_n31, z_shl, z_shr, z_us, z_div, z_mod, z_and, z_or, z_xor, if_true, if_false, e, m1', b1, e4]
        rw [es]
        refine ih (k + 1) _ _ (by omega) (by omega) (fun s hs => ?_) (fun s hs => ?_)
        · rw [lc, et]
          by_cases e : s = b (fr + sm T 0 k)
          · rw [e, z_updE, if_pos rfl]
          · rw [z_updN e, if_neg e, I1 s hs]; rfl
        · rw [fc, if_pos e1, I2 s hs]; rfl
      · have f1 := ls_facts (T k) (by omega) (by omega)
        have f2 := fs_facts (Fa k) (by omega) (by omega)
        have e4 := I1 (ls (T k)) (by omega)
        have e5 := I2 (fs (Fa k)) (by omega)
        have et : tsy b T fr k = ls (T k) := by unfold tsy; rw [if_neg e1]
        have l1 := s_ssize F (T k) hF (by omega) (by omega)
        have l2 := s_sfar F (Fa k) hF (by omega) (by omega)
        simp (disch := omega) only [nm, z_lit, z_one, z_mone, z_neg1, z_neg2, z_pred, z_add, z_mul, z_sub, z_le, z_lt, z_eq, z_tn, z_chk, z_eqm, z_meq, z_lem, z_mle, z_ltm, z_mlt, z_eqq, z_qeq, z_leq, z_qle, z_ltq, z_qlt, z_m1m2, z_m2m1, z_m1m1, z_m2m2, z_bnd1, z_bnd2, z_bnd3, z_bnd4, z_bnd5, z_bnd6, z_bnd7, z_bnd8, z_bnd9, z_bnd10, z_bnd11, z_bnd12, z_bnd13, z_bnd14, z_bnd15, z_bnd16, z_max, z_min, z_n31, z_shl, z_shr, z_us, z_div, z_mod, z_and, z_or, z_xor, if_true, if_false, e, m1', m2', e1, l1, l2, e4, e5]
        rw [es]
        refine ih (k + 1) _ _ (by omega) (by omega) (fun s hs => ?_) (fun s hs => ?_)
        · rw [lc, et]
          by_cases e : s = ls (T k)
          · rw [e, z_updE, if_pos rfl]
          · rw [z_updN e, if_neg e, I1 s hs]; rfl
        · rw [fc, if_neg e1]
          by_cases e : s = fs (Fa k)
          · rw [e, z_updE, if_pos rfl]
          · rw [z_updN e, if_neg e, I2 s hs]; rfl
theorem s_countTokens (F : Nat) (B fq lq ts tf : Nat → Int32) (b T Fa : Nat → Nat) (fr to K : Nat) (hF : 100000 ≤ F) (hB : byt B b) (hto : to ≤ 512) (h : tok T Fa fr to K) (hm : mtok ts tf T Fa K) : ∃ fq' lq', m_MD_countTokens F B fq lq tf ts (nI K) (nI fr) = some (fq', lq') ∧ (∀ s, s < 288 → lq' s = nI (lc b T fr K s)) ∧ (∀ s, s < 32 → fq' s = nI (fc T Fa K s)) := by
  have K5 := tok_pos h K (Nat.le_refl _)
  obtain ⟨l1, e1, h1⟩ := l_ct2 F F 0 lq (by omega) (by omega) (fun s hs => by omega)
  obtain ⟨f1, e2, h2⟩ := l_ct35 F F 0 fq (by omega) (by omega) (fun s hs => by omega)
  obtain ⟨f2, l2, e3, h3, h4⟩ := l_ct58 F B ts tf b T Fa fr to K hF hB hto h hm F 0 f1 l1 (by omega) (by omega) (fun s hs => by rw [h1 s hs, lc]) (fun s hs => by rw [h2 s hs, fc])
  rw [sm, Nat.add_zero] at e3
  refine ⟨f2, l2, ?_, h3, h4⟩
  unfold m_MD_countTokens
  simp only [z_lit, e1, z_bnd2, e2, e3, z_bnd4]
theorem l_bt14 (F : Nat) (B ts tf ll dl : Nat → Int32) (b T Fa L D : Nat → Nat) (fr to K : Nat) (hF : 100000 ≤ F) (hB : byt B b) (hto : to ≤ 512) (h : tok T Fa fr to K) (hm : mtok ts tf T Fa K) (hL : ∀ s, s < 288 → ll s = nI (L s)) (hD : ∀ s, s < 32 → dl s = nI (D s)) : ∀ (f k v : Nat), k ≤ K → K - k < f → L_MD_bitsOfTokens_14 F B dl ll tf ts (nI K) f (nI v) (nI (fr + sm T 0 k)) (nI k) = some (nI (v + sm (fun i => L (tsy b T fr i) + (if T i = 1 then 0 else D (fs (Fa i)) + (lx (T i) + fx (Fa i)))) k (K - k)), nI to, nI K) := by
  have K5 := tok_pos h K (Nat.le_refl _)
  intro f
  induction f with
  | zero => intro k v _ h; omega
  | succ f ih =>
    intro k v hk hf
    unfold L_MD_bitsOfTokens_14 B_MD_bitsOfTokens_14
    by_cases e : K ≤ k
    · have e : k = K := by omega
      subst e
      rw [h.2]
      simp (disch := omega) only [nm, z_lit, z_one, z_mone, z_neg1, z_neg2, z_pred, z_add, z_mul, z_sub, z_le, z_lt, z_eq, z_tn, z_chk, z_eqm, z_meq, z_lem, z_mle, z_ltm, z_mlt, z_eqq, z_qeq, z_leq, z_qle, z_ltq, z_qlt, z_m1m2, z_m2m1, z_m1m1, z_m2m2, z_bnd1, z_bnd2, z_bnd3, z_bnd4, z_bnd5, z_bnd6, z_bnd7, z_bnd8, z_bnd9, z_bnd10, z_bnd11, z_bnd12, z_bnd13, z_bnd14, z_bnd15, z_bnd16, z_max, z_min, z_n31, z_shl, z_shr, z_us, z_div, z_mod, z_and, z_or, z_xor, if_true, if_false, Nat.le_refl, Nat.sub_self, sm, Nat.add_zero]
    · have q := h.1 k (by omega)
      have r := tok_lt h (k := k) (by omega)
      obtain ⟨m1', m2'⟩ := hm k (by omega)
      obtain ⟨b1, b2⟩ := hB (fr + sm T 0 k) (by omega)
      have es : fr + sm T 0 k + T k = fr + sm T 0 (k + 1) := by rw [sm, Nat.zero_add]; omega
      have ex : K - k = (K - (k + 1)) + 1 := by omega
      by_cases e1 : T k = 1
      · have e4 := hL (b (fr + sm T 0 k)) (by omega)
        have et : tsy b T fr k = b (fr + sm T 0 k) := by unfold tsy; rw [if_pos e1]
        have m1'' := m1'
        rw [e1] at m1' es
        simp (disch := omega) only [nm, z_lit, z_one, z_mone, z_neg1, z_neg2, z_pred, z_add, z_mul, z_sub, z_le, z_lt, z_eq, z_tn, z_chk, z_eqm, z_meq, z_lem, z_mle, z_ltm, z_mlt, z_eqq, z_qeq, z_leq, z_qle, z_ltq, z_qlt, z_m1m2, z_m2m1, z_m1m1, z_m2m2, z_bnd1, z_bnd2, z_bnd3, z_bnd4, z_bnd5, z_bnd6, z_bnd7, z_bnd8, z_bnd9, z_bnd10, z_bnd11, z_bnd12, z_bnd13, z_bnd14, z_bnd15, z_bnd16, z_max, z_min, z_n31, z_shl, z_shr, z_us, z_div, z_mod, z_and, z_or, z_xor, if_true, if_false, e, m1', b1, e4]
        rw [es, ih (k + 1) _ (by omega) (by omega), ex, sm_first, if_pos e1, et]
        congr 3; omega
      · have f1 := ls_facts (T k) (by omega) (by omega)
        have f2 := fs_facts (Fa k) (by omega) (by omega)
        have e4 := hL (ls (T k)) (by omega)
        have e5 := hD (fs (Fa k)) (by omega)
        have et : tsy b T fr k = ls (T k) := by unfold tsy; rw [if_neg e1]
        have l1 := s_ssize F (T k) hF (by omega) (by omega)
        have l2 := s_sfar F (Fa k) hF (by omega) (by omega)
        have l3 := s_xsize F (T k) hF (by omega) (by omega)
        have l4 := s_xfar F (Fa k) hF (by omega) (by omega)
        simp (disch := omega) only [nm, z_lit, z_one, z_mone, z_neg1, z_neg2, z_pred, z_add, z_mul, z_sub, z_le, z_lt, z_eq, z_tn, z_chk, z_eqm, z_meq, z_lem, z_mle, z_ltm, z_mlt, z_eqq, z_qeq, z_leq, z_qle, z_ltq, z_qlt, z_m1m2, z_m2m1, z_m1m1, z_m2m2, z_bnd1, z_bnd2, z_bnd3, z_bnd4, z_bnd5, z_bnd6, z_bnd7, z_bnd8, z_bnd9, z_bnd10, z_bnd11, z_bnd12, z_bnd13, z_bnd14, z_bnd15, z_bnd16, z_max, z_min, z_n31, z_shl, z_shr, z_us, z_div, z_mod, z_and, z_or, z_xor, if_true, if_false, e, m1', m2', e1, l1, l2, l3, l4, e4, e5]
        rw [es, ih (k + 1) _ (by omega) (by omega), ex, sm_first, if_neg e1, et]
        congr 3; omega
theorem s_bitsOfTokens (F : Nat) (B ts tf ll dl : Nat → Int32) (b T Fa L D : Nat → Nat) (fr to K : Nat) (hF : 100000 ≤ F) (hB : byt B b) (hto : to ≤ 512) (h : tok T Fa fr to K) (hm : mtok ts tf T Fa K) (hL : ∀ s, s < 288 → ll s = nI (L s)) (hD : ∀ s, s < 32 → dl s = nI (D s)) : m_MD_bitsOfTokens F B dl ll tf ts (nI K) (nI fr) = some (nI (tbits b T Fa fr K L D + xbits T Fa K)) := by
  have K5 := tok_pos h K (Nat.le_refl _)
  have e0 := hL 256 (by omega)
  have e1 := l_bt14 F B ts tf ll dl b T Fa L D fr to K hF hB hto h hm hL hD F 0 (L 256) (by omega) (by omega)
  rw [sm, Nat.add_zero] at e1
  unfold m_MD_bitsOfTokens
  simp (disch := omega) only [nm, z_lit, z_one, z_mone, z_neg1, z_neg2, z_pred, z_add, z_mul, z_sub, z_le, z_lt, z_eq, z_tn, z_chk, z_eqm, z_meq, z_lem, z_mle, z_ltm, z_mlt, z_eqq, z_qeq, z_leq, z_qle, z_ltq, z_qlt, z_m1m2, z_m2m1, z_m1m1, z_m2m2, z_bnd1, z_bnd2, z_bnd3, z_bnd4, z_bnd5, z_bnd6, z_bnd7, z_bnd8, z_bnd9, z_bnd10, z_bnd11, z_bnd12, z_bnd13, z_bnd14, z_bnd15, z_bnd16, z_max, z_min, z_n31, z_shl, z_shr, z_us, z_div, z_mod, z_and, z_or, z_xor, if_true, if_false, e0, e1]
  congr 2
  unfold tbits xbits
  rw [Nat.sub_zero, Nat.add_assoc, Nat.add_assoc, ← sm_addf, ← sm_addf]
  congr 1
  exact sm_congr (fun i _ _ => by
    by_cases e : T i = 1
    · simp only [if_pos e]
    · simp only [if_neg e])
theorem l_fx2 (F : Nat) : ∀ (f i : Nat) (q : Nat → Int32), i ≤ 288 → 288 - i < f → (∀ s, s < i → q s = nI (fl s)) → ∃ q', L_MD_fixedCodes_2 F f (nI i) q = some (nI 288, q') ∧ ∀ s, s < 288 → q' s = nI (fl s) := by
  intro f
  induction f with
  | zero => intro i q _ h; omega
  | succ f ih =>
    intro i q hi hf I
    unfold L_MD_fixedCodes_2 B_MD_fixedCodes_2
    by_cases h : 288 ≤ i
    · have e : i = 288 := by omega
      subst e
      exact ⟨q, by simp (disch := omega) only [nm, z_lit, z_one, z_mone, z_neg1, z_neg2, z_pred, z_add, z_mul, z_sub, z_le, z_lt, z_eq, z_tn, z_chk, z_eqm, z_meq, z_lem, z_mle, z_ltm, z_mlt, z_eqq, z_qeq, z_leq, z_qle, z_ltq, z_qlt, z_m1m2, z_m2m1, z_m1m1, z_m2m2, z_bnd1, z_bnd2, z_bnd3, z_bnd4, z_bnd5, z_bnd6, z_bnd7, z_bnd8, z_bnd9, z_bnd10, z_bnd11, z_bnd12, z_bnd13, z_bnd14, z_bnd15, z_bnd16, z_max, z_min, z_n31, z_shl, z_shr, z_us, z_div, z_mod, z_and, z_or, z_xor, if_true, if_false, Nat.le_refl], I⟩
    · have key : ∀ z, z = nI (fl i) → ∀ s, s < i + 1 → upd q i z s = nI (fl s) := fun z hz s hs => by
        by_cases e : s = i
        · rw [e, z_updE, hz]
        · rw [z_updN e]; exact I s (by omega)
      have efl : fl i = if i < 144 then 8 else if i < 256 then 9 else if i < 280 then 7 else 8 := rfl
      by_cases h1 : 144 ≤ i
      · rw [if_neg (by omega)] at efl
        by_cases h2 : 256 ≤ i
        · rw [if_neg (by omega)] at efl
          by_cases h3 : 280 ≤ i
          · rw [if_neg (by omega)] at efl
            simp (disch := omega) only [nm, z_lit, z_one, z_mone, z_neg1, z_neg2, z_pred, z_add, z_mul, z_sub, z_le, z_lt, z_eq, z_tn, z_chk, z_eqm, z_meq, z_lem, z_mle, z_ltm, z_mlt, z_eqq, z_qeq, z_leq, z_qle, z_ltq, z_qlt, z_m1m2, z_m2m1, z_m1m1, z_m2m2, z_bnd1, z_bnd2, z_bnd3, z_bnd4, z_bnd5, z_bnd6, z_bnd7, z_bnd8, z_bnd9, z_bnd10, z_bnd11, z_bnd12, z_bnd13, z_bnd14, z_bnd15, z_bnd16, z_max, z_min, z_n31, z_shl, z_shr, z_us, z_div, z_mod, z_and, z_or, z_xor, if_true, if_false, h, h1, h2, h3]
            exact ih (i + 1) _ (by omega) (by omega) (key _ (by rw [efl]))
          · rw [if_pos (by omega)] at efl
            simp (disch := omega) only [nm, z_lit, z_one, z_mone, z_neg1, z_neg2, z_pred, z_add, z_mul, z_sub, z_le, z_lt, z_eq, z_tn, z_chk, z_eqm, z_meq, z_lem, z_mle, z_ltm, z_mlt, z_eqq, z_qeq, z_leq, z_qle, z_ltq, z_qlt, z_m1m2, z_m2m1, z_m1m1, z_m2m2, z_bnd1, z_bnd2, z_bnd3, z_bnd4, z_bnd5, z_bnd6, z_bnd7, z_bnd8, z_bnd9, z_bnd10, z_bnd11, z_bnd12, z_bnd13, z_bnd14, z_bnd15, z_bnd16, z_max, z_min, z_n31, z_shl, z_shr, z_us, z_div, z_mod, z_and, z_or, z_xor, if_true, if_false, h, h1, h2, h3]
            exact ih (i + 1) _ (by omega) (by omega) (key _ (by rw [efl]))
        · rw [if_pos (by omega)] at efl
          simp (disch := omega) only [nm, z_lit, z_one, z_mone, z_neg1, z_neg2, z_pred, z_add, z_mul, z_sub, z_le, z_lt, z_eq, z_tn, z_chk, z_eqm, z_meq, z_lem, z_mle, z_ltm, z_mlt, z_eqq, z_qeq, z_leq, z_qle, z_ltq, z_qlt, z_m1m2, z_m2m1, z_m1m1, z_m2m2, z_bnd1, z_bnd2, z_bnd3, z_bnd4, z_bnd5, z_bnd6, z_bnd7, z_bnd8, z_bnd9, z_bnd10, z_bnd11, z_bnd12, z_bnd13, z_bnd14, z_bnd15, z_bnd16, z_max, z_min, z_n31, z_shl, z_shr, z_us, z_div, z_mod, z_and, z_or, z_xor, if_true, if_false, h, h1, h2]
          exact ih (i + 1) _ (by omega) (by omega) (key _ (by rw [efl]))
      · rw [if_pos (by omega)] at efl
        simp (disch := omega) only [nm, z_lit, z_one, z_mone, z_neg1, z_neg2, z_pred, z_add, z_mul, z_sub, z_le, z_lt, z_eq, z_tn, z_chk, z_eqm, z_meq, z_lem, z_mle, z_ltm, z_mlt, z_eqq, z_qeq, z_leq, z_qle, z_ltq, z_qlt, z_m1m2, z_m2m1, z_m1m1, z_m2m2, z_bnd1, z_bnd2, z_bnd3, z_bnd4, z_bnd5, z_bnd6, z_bnd7, z_bnd8, z_bnd9, z_bnd10, z_bnd11, z_bnd12, z_bnd13, z_bnd14, z_bnd15, z_bnd16, z_max, z_min, z_n31, z_shl, z_shr, z_us, z_div, z_mod, z_and, z_or, z_xor, if_true, if_false, h, h1]
        exact ih (i + 1) _ (by omega) (by omega) (key _ (by rw [efl]))
