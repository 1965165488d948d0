/-! weighing -/
/-- the codes of the tokens' own -/
def rowl (L D : Nat → Nat) : List (Nat × Nat) := rows (xr L D (um L 257 286)) (um L 257 286 + um D 1 30)
def own (b T Fa : Nat → Nat) (fr K : Nat) (L D e : Nat → Nat) : Prop := huff (lc b T fr K) 286 L ∧ huff (fc T Fa K) 30 D ∧ lcode (rcnt (rowl L D)) e
def rbits (l : List (Nat × Nat)) (e : Nat → Nat) : Nat := sm (fun i => e (re_ l i).1 + rxb (re_ l i).1) 0 l.length
def stb (n : Nat) : Nat := 42 + 8 * n
def fxb (b T Fa : Nat → Nat) (fr K : Nat) : Nat := 3 + (tbits b T Fa fr K fl (fun _ => 5) + xbits T Fa K)
def owb (b T Fa : Nat → Nat) (fr K : Nat) (L D e : Nat → Nat) : Nat := 17 + 3 * toldc e + rbits (rowl L D) e + (tbits b T Fa fr K L D + xbits T Fa K)
def kd2 (s f o : Nat) : Nat := if o < min s f then 2 else if f < s then 1 else 0
def kb2 (s f o : Nat) : Nat := min (min s f) o
theorem own_le {b T Fa : Nat → Nat} {fr to K : Nat} {L D e : Nat → Nat} (h : tok T Fa fr to K) (hb : ∀ j, j < 512 → b j < 256) (hto : to ≤ 512) (H : own b T Fa fr K L D e) : (∀ k, k < 286 → L k ≤ 12) ∧ (∀ k, k < 30 → D k ≤ 12) ∧ (∀ k, k < 19 → e k ≤ 7) := by
  have K5 := tok_pos h K (Nat.le_refl _)
  have s1 := lc_all h hb hto 286 (by omega)
  have s2 := fc_all h 30 (by omega)
  have f13 : fb (12 + 1) = 610 := by decide +kernel
  exact ⟨huff_le H.1 12 (by omega) (by omega), huff_le H.2.1 12 (by omega) (by omega), lcode_7 H.2.2⟩
theorem tbits_le {b T Fa : Nat → Nat} {fr to K : Nat} {L D : Nat → Nat} (h : tok T Fa fr to K) (hb : ∀ j, j < 512 → b j < 256) (hto : to ≤ 512) (hL : ∀ k, k < 286 → L k ≤ 15) (hD : ∀ k, k < 30 → D k ≤ 15) : tbits b T Fa fr K L D ≤ 20000 := by
  have K5 := tok_pos h K (Nat.le_refl _)
  have s1 := sm_le (fun i => L (tsy b T fr i)) 0 15 K (fun i _ hi => hL _ (tsy_lt h hb hto (by omega)).1)
  have s2 := sm_le (fun i => if T i = 1 then 0 else D (fs (Fa i))) 0 15 K (fun i _ hi => by
    have q := h.1 i (by omega)
    by_cases e : T i = 1
    · simp only [if_pos e]; omega
    · simp only [if_neg e]; exact hD _ (fs_facts (Fa i) (by omega) (by omega)).1)
  have := hL 256 (by omega)
  unfold tbits
  omega
theorem xbits_le {T Fa : Nat → Nat} {fr to K : Nat} (h : tok T Fa fr to K) (hto : to ≤ 512) : xbits T Fa K ≤ 20000 := by
  have K5 := tok_pos h K (Nat.le_refl _)
  have s2 := sm_le (fun i => if T i = 1 then 0 else lx (T i) + fx (Fa i)) 0 20 K (fun i _ hi => by
    have q := h.1 i (by omega)
    by_cases e : T i = 1
    · simp only [if_pos e]; omega
    · simp only [if_neg e]
      have q1 := (fs_facts (Fa i) (by omega) (by omega)).2.2.1
      have q2 := (ls_facts (T i) (by omega) (by omega)).2.2.2.1
      omega)
  unfold xbits
  omega
theorem rowl_facts {L D : Nat → Nat} (hL : ∀ k, k < 286 → L k ≤ 15) (hD : ∀ k, k < 30 → D k ≤ 15) : (rowl L D).length ≤ 316 ∧ rok (rowl L D) ∧ 257 ≤ um L 257 286 ∧ um L 257 286 ≤ 286 ∧ 1 ≤ um D 1 30 ∧ um D 1 30 ≤ 30 := by
  have a1 := um_le L 257 286
  have a2 := um_ge L 257 286 (by omega)
  have a3 := um_le D 1 30
  have a4 := um_ge D 1 30 (by omega)
  have h1 := rows_len (xr L D (um L 257 286)) (um L 257 286 + um D 1 30) (by omega)
  refine ⟨by unfold rowl; omega, rows_ok _ _ (by omega) (fun i hi => ?_), a2, a1, a4, a3⟩
  unfold xr
  split
  · have := hL i (by omega); omega
  · have := hD (i - um L 257 286) (by omega); omega
theorem fl_le (s : Nat) : fl s ≤ 9 := by
  unfold fl
  split
  · omega
  · split
    · omega
    · split <;> omega
theorem rxb_le (s : Nat) : rxb s ≤ 7 := by unfold rxb; split; · omega
                                           split; · omega
                                           split <;> omega
theorem rbits_le {l : List (Nat × Nat)} {e : Nat → Nat} (hl : l.length ≤ 316) (hr : rok l) (he : ∀ k, k < 19 → e k ≤ 7) : rbits l e ≤ 20000 := by
  have s2 := sm_le (fun i => e (re_ l i).1 + rxb (re_ l i).1) 0 14 l.length (fun i _ hi => by
    have q1 := he _ (rok_re hr (i := i) (by omega)).1
    have q2 := rxb_le (re_ l i).1
    show e (re_ l i).1 + rxb (re_ l i).1 ≤ 14
    omega)
  unfold rbits
  omega
theorem l_lrb (F : Nat) (l : List (Nat × Nat)) (cl row cc : Nat → Int32) (e : Nat → Nat) (hl : l.length ≤ 316) (hr : rok l) (C : crow l cc row) (he : ∀ k, k < 19 → cl k = nI (e k)) : ∀ (f i v : Nat), i ≤ l.length → l.length - i < f → L_LengthRow_bits_9 F cl row (nI l.length) f (nI v) (nI i) = some (nI (v + sm (fun i => e (re_ l i).1 + rxb (re_ l i).1) i (l.length - i)), nI l.length) := by
  intro f
  induction f with
  | zero => intro i v _ h; omega
  | succ f ih =>
    intro i v hi hf
    unfold L_LengthRow_bits_9 B_LengthRow_bits_9
    by_cases h : l.length ≤ i
    · have e : i = l.length := by omega
      subst e
      simp (disch := omega) only [nm, z_lit, z_one, z_mone, z_neg1, z_neg2, z_pred, z_add, z_mul, z_sub, z_le, z_lt, z_eq, z_tn, z_chk, z_eqm, z_meq, z_lem, z_mle, z_ltm, z_mlt, z_eqq, z_qeq, z_leq, z_qle, z_ltq, z_qlt, z_m1m2, z_m2m1, z_m1m1, z_m2m2, z_bnd1, z_bnd2, z_bnd3, z_bnd4, z_bnd5, z_bnd6, z_bnd7, z_bnd8, z_bnd9, z_bnd10, z_bnd11, z_bnd12, z_bnd13, z_bnd14, z_bnd15, z_bnd16, z_max, z_min, z_n31, z_shl, z_shr, z_us, z_div, z_mod, z_and, z_or, z_xor, if_true, if_false, Nat.le_refl, Nat.sub_self, sm, Nat.add_zero]
    · have r1 := rok_re hr (i := i) (by omega)
      have e1 := C.2 i (by omega)
      have e2 : ((re_ l i).2 * 256 + (re_ l i).1) &&& 255 = (re_ l i).1 := (Nat.and_two_pow_sub_one_eq_mod _ 8).trans (by omega)
      have e3 : m_LengthRow_symbolAt F row (nI i) = some (nI (re_ l i).1) := by
        unfold m_LengthRow_symbolAt
        simp (disch := omega) only [nm, z_lit, z_one, z_mone, z_neg1, z_neg2, z_pred, z_add, z_mul, z_sub, z_le, z_lt, z_eq, z_tn, z_chk, z_eqm, z_meq, z_lem, z_mle, z_ltm, z_mlt, z_eqq, z_qeq, z_leq, z_qle, z_ltq, z_qlt, z_m1m2, z_m2m1, z_m1m1, z_m2m2, z_bnd1, z_bnd2, z_bnd3, z_bnd4, z_bnd5, z_bnd6, z_bnd7, z_bnd8, z_bnd9, z_bnd10, z_bnd11, z_bnd12, z_bnd13, z_bnd14, z_bnd15, z_bnd16, z_max, z_min, z_n31, z_shl, z_shr, z_us, z_div, z_mod, z_and, z_or, z_xor, if_true, if_false, e1, e2]
      have e4 := he _ r1.1
      have e5 := (s_rextra F (re_ l i).1 (by omega)).1
      have ex : l.length - i = (l.length - (i + 1)) + 1 := by omega
      simp (disch := omega) only [nm, z_lit, z_one, z_mone, z_neg1, z_neg2, z_pred, z_add, z_mul, z_sub, z_le, z_lt, z_eq, z_tn, z_chk, z_eqm, z_meq, z_lem, z_mle, z_ltm, z_mlt, z_eqq, z_qeq, z_leq, z_qle, z_ltq, z_qlt, z_m1m2, z_m2m1, z_m1m1, z_m2m2, z_bnd1, z_bnd2, z_bnd3, z_bnd4, z_bnd5, z_bnd6, z_bnd7, z_bnd8, z_bnd9, z_bnd10, z_bnd11, z_bnd12, z_bnd13, z_bnd14, z_bnd15, z_bnd16, z_max, z_min, z_n31, z_shl, z_shr, z_us, z_div, z_mod, z_and, z_or, z_xor, if_true, if_false, h, e3, e4, e5]
      rw [ih (i + 1) _ (by omega) (by omega), ex, sm_first]
      simp only [Nat.add_assoc]
theorem s_lrb (F : Nat) (l : List (Nat × Nat)) (cl row cc : Nat → Int32) (e : Nat → Nat) (t : Nat) (hF : 100000 ≤ F) (hl : l.length ≤ 316) (hr : rok l) (C : crow l cc row) (he : ∀ k, k < 19 → cl k = nI (e k)) : m_LengthRow_bits F cl row (nI l.length) (nI t) = some (nI (3 * t + rbits l e)) := by
  unfold m_LengthRow_bits
  simp only [z_lit, nm, z_mul]
  rw [l_lrb F l cl row cc e hl hr C he F 0 _ (by omega) (by omega)]
  rfl
theorem s_few (F a k x y : Nat) (ha : a < 1000000) (hy : y < 1000000) : m_Plan_takeFewer F (nI a) (nI k) (nI x) (nI y) = some (nI (if y < a then x else k), nI (min a y)) := by
  unfold m_Plan_takeFewer
  by_cases h : a ≤ y
  · have e : min a y = a := by omega
    have n1 : ¬ (y < a) := by omega
    simp (disch := omega) only [nm, z_lit, z_one, z_mone, z_neg1, z_neg2, z_pred, z_add, z_mul, z_sub, z_le, z_lt, z_eq, z_tn, z_chk, z_eqm, z_meq, z_lem, z_mle, z_ltm, z_mlt, z_eqq, z_qeq, z_leq, z_qle, z_ltq, z_qlt, z_m1m2, z_m2m1, z_m1m1, z_m2m2, z_bnd1, z_bnd2, z_bnd3, z_bnd4, z_bnd5, z_bnd6, z_bnd7, z_bnd8, z_bnd9, z_bnd10, z_bnd11, z_bnd12, z_bnd13, z_bnd14, z_bnd15, z_bnd16, z_max, z_min, z_n31, z_shl, z_shr, z_us, z_div, z_mod, z_and, z_or, z_xor, if_true, if_false, h, e, n1]
  · have e : min a y = y := by omega
    have n1 : y < a := by omega
    simp (disch := omega) only [nm, z_lit, z_one, z_mone, z_neg1, z_neg2, z_pred, z_add, z_mul, z_sub, z_le, z_lt, z_eq, z_tn, z_chk, z_eqm, z_meq, z_lem, z_mle, z_ltm, z_mlt, z_eqq, z_qeq, z_leq, z_qle, z_ltq, z_qlt, z_m1m2, z_m2m1, z_m1m1, z_m2m2, z_bnd1, z_bnd2, z_bnd3, z_bnd4, z_bnd5, z_bnd6, z_bnd7, z_bnd8, z_bnd9, z_bnd10, z_bnd11, z_bnd12, z_bnd13, z_bnd14, z_bnd15, z_bnd16, z_max, z_min, z_n31, z_shl, z_shr, z_us, z_div, z_mod, z_and, z_or, z_xor, if_true, if_false, h, e, n1]
/-- the class weighs -/
theorem s_weigh (F : Nat) (ab od wt cc cl row dc dl lt_ ll tkn : Nat → Int32) (b T Fa : Nat → Nat) (fr to K n : Nat) (hF : 100000 ≤ F) (hb : ∀ j, j < 512 → b j < 256) (hto : to ≤ 512) (hn : n ≤ 512) (h : tok T Fa fr to K) (P : plan b T Fa fr K dc lt_ tkn) : ∃ (L D e : Nat → Nat) (ab' od' wt' cc' cl' row' dl' ll' : Nat → Int32), m_Plan_weigh F ab od wt cc cl row dc dl lt_ ll (nI (mtc T K)) (nI n) = some (ab', od', wt', nI (rowl L D).length, nI (um L 257 286), nI (um D 1 30), nI (toldc e), cc', cl', row', nI (kd2 (stb n) (fxb b T Fa fr K) (owb b T Fa fr K L D e)), nI (kb2 (stb n) (fxb b T Fa fr K) (owb b T Fa fr K L D e)), dl', ll') ∧ own b T Fa fr K L D e ∧ (∀ k, k < 286 → ll' k = nI (L k)) ∧ (∀ k, k < 30 → dl' k = nI (D k)) ∧ (∀ k, k < 19 → cl' k = nI (e k)) ∧ (∃ cc0, crow (rowl L D) cc0 row') := by
  have K5 := tok_pos h K (Nat.le_refl _)
  have s1 := lc_all h hb hto 286 (by omega)
  have s2 := fc_all h 30 (by omega)
  obtain ⟨L, ll1, ab1, od1, wt1, e1, H1, g1⟩ := s_join F 286 lt_ ll ab od wt (lc b T fr K) P.2.1 (by omega) (by omega) hF
  obtain ⟨D, dl1, ab2, od2, wt2, e2, H2, g2⟩ := s_join F 30 dc dl ab1 od1 wt1 (fc T Fa K) P.1 (by omega) (by omega) hF
  have f13 : fb (12 + 1) = 610 := by decide +kernel
  have bL := huff_le H1 12 (by omega) (by omega)
  have bD := huff_le H2 12 (by omega) (by omega)
  obtain ⟨cc3, row3, e3, C3⟩ := s_tellBoth F ll1 dl1 cc row L D hF (fun j hj => ⟨g1 j hj, by have := bL j hj; omega⟩) (fun j hj => ⟨g2 j hj, by have := bD j hj; omega⟩)
  obtain ⟨rf1, rf2, rf3, rf4, rf5, rf6⟩ := rowl_facts (L := L) (D := D) (fun k hk => by have := bL k hk; omega) (fun k hk => by have := bD k hk; omega)
  have C3' : crow (rowl L D) cc3 row3 := C3
  obtain ⟨e, ab4, od4, wt4, cc4, cl4, e4, H4, g4⟩ := s_makeCode F ab2 od2 wt2 cc3 cl (rcnt (rowl L D)) hF (fun s hs => by have := rcnt_le (rowl L D) s; omega) C3'.1
  have H : own b T Fa fr K L D e := ⟨H1, H2, H4⟩
  have l7 := lcode_7 H4
  have x1 := s_extraBits F b T Fa fr to K dc lt_ tkn hF hb hto h P
  have x2 := s_fixedBits F b T Fa fr to K dc lt_ tkn hF hb hto h P
  have x3 := s_lrb F (rowl L D) cl4 row3 cc3 e (toldc e) hF rf1 rf2 C3' g4
  have x4 := s_ownBits F b T Fa fr to K dc lt_ tkn ll1 dl1 L D hF hb hto h P g1 g2
  have t1 := tbits_le h hb hto (L := fl) (D := fun _ => 5) (fun k _ => by have := fl_le k; omega) (fun k _ => by omega)
  have t2 := tbits_le h hb hto (L := L) (D := D) (fun k hk => by have := bL k hk; omega) (fun k hk => by have := bD k hk; omega)
  have t3 := xbits_le h hto
  have t4 := rbits_le rf1 rf2 l7
  have t5 : toldc e ≤ 19 := um_le _ _ _
  have y1 : 3 + xbits T Fa K + tbits b T Fa fr K fl (fun _ => 5) = fxb b T Fa fr K := by unfold fxb; omega
  have y2 : 17 + (3 * toldc e + rbits (rowl L D) e) + xbits T Fa K + tbits b T Fa fr K L D = owb b T Fa fr K L D e := by unfold owb; omega
  have b1 : fxb b T Fa fr K < 1000000 := by unfold fxb; omega
  have b2 : owb b T Fa fr K L D e < 1000000 := by unfold owb; omega
  have q1 := s_few F (42 + 8 * n) 0 1 (fxb b T Fa fr K) (by omega) b1
  have q2 := s_few F (min (42 + 8 * n) (fxb b T Fa fr K)) (if fxb b T Fa fr K < 42 + 8 * n then 1 else 0) 2 (owb b T Fa fr K L D e) (by omega) b2
  refine ⟨L, D, e, ab4, od4, wt4, cc4, cl4, row3, dl1, ll1, ?_, H, g1, g2, g4, cc3, C3'⟩
  unfold m_Plan_weigh m_Plan_weighStored
  rw [e1, z_bnd4, e2, z_bnd4, e3, z_bnd5, e4, z_bnd6]
  have e5 : (rows (xr L D (um L 257 286)) (um L 257 286 + um D 1 30)) = rowl L D := rfl
  simp only [z_lit, nm, z_mul, z_add, z_bnd2, x1, z_bnd1, x2, y1, q1, e5, x3, x4, y2, q2]
  rfl
/-! the model weighs -/
theorem l_fx61 (F : Nat) : ∀ (f i : Nat) (q : Nat → Int32), i ≤ 32 → 32 - i < f → (∀ s, s < i → q s = nI 5) → ∃ q', L_MD_fixedCodes_61 F f (nI i) q = some (nI 32, q') ∧ ∀ s, s < 32 → q' s = nI 5 := by
  intro f
  induction f with
  | zero => intro i q _ h; omega
  | succ f ih =>
    intro i q hi hf I
    unfold L_MD_fixedCodes_61 B_MD_fixedCodes_61
    by_cases h : 32 ≤ i
    · have e : i = 32 := by omega
      subst e
      exact ⟨q, by simp (disch := omega) only [nm, z_lit, z_one, z_mone, z_neg1, z_neg2, z_pred, z_add, z_mul, z_sub, z_le, z_lt, z_eq, z_tn, z_chk, z_eqm, z_meq, z_lem, z_mle, z_ltm, z_mlt, z_eqq, z_qeq, z_leq, z_qle, z_ltq, z_qlt, z_m1m2, z_m2m1, z_m1m1, z_m2m2, z_bnd1, z_bnd2, z_bnd3, z_bnd4, z_bnd5, z_bnd6, z_bnd7, z_bnd8, z_bnd9, z_bnd10, z_bnd11, z_bnd12, z_bnd13, z_bnd14, z_bnd15, z_bnd16, z_max, z_min, z_n31, z_shl, z_shr, z_us, z_div, z_mod, z_and, z_or, z_xor, if_true, if_false, Nat.le_refl], I⟩
    · simp (disch := omega) only [nm, z_lit, z_one, z_mone, z_neg1, z_neg2, z_pred, z_add, z_mul, z_sub, z_le, z_lt, z_eq, z_tn, z_chk, z_eqm, z_meq, z_lem, z_mle, z_ltm, z_mlt, z_eqq, z_qeq, z_leq, z_qle, z_ltq, z_qlt, z_m1m2, z_m2m1, z_m1m1, z_m2m2, z_bnd1, z_bnd2, z_bnd3, z_bnd4, z_bnd5, z_bnd6, z_bnd7, z_bnd8, z_bnd9, z_bnd10, z_bnd11, z_bnd12, z_bnd13, z_bnd14, z_bnd15, z_bnd16, z_max, z_min, z_n31, z_shl, z_shr, z_us, z_div, z_mod, z_and, z_or, z_xor, if_true, if_false, h]
      refine ih (i + 1) _ (by omega) (by omega) (fun s hs => ?_)
      by_cases e : s = i
      · rw [e, z_updE]
      · rw [z_updN e]; exact I s (by omega)
theorem s_fixedCodes (F : Nat) (fq lq : Nat → Int32) (hF : 100000 ≤ F) : ∃ fq' lq', m_MD_fixedCodes F fq lq = some (fq', lq') ∧ (∀ s, s < 288 → lq' s = nI (fl s)) ∧ (∀ s, s < 32 → fq' s = nI 5) := by
  obtain ⟨l1, e1, g1⟩ := l_fx2 F F 0 lq (by omega) (by omega) (fun s hs => by omega)
  obtain ⟨f1, e2, g2⟩ := l_fx61 F F 0 fq (by omega) (by omega) (fun s hs => by omega)
  refine ⟨f1, l1, ?_, g1, g2⟩
  unfold m_MD_fixedCodes
  simp only [z_lit, e1, z_bnd2, e2]
theorem l_mbr (F : Nat) (l : List (Nat × Nat)) (mo sy sl : Nat → Int32) (e : Nat → Nat) (hl : l.length ≤ 316) (hr : rok l) (C : mrow l mo sy) (he : ∀ k, k < 19 → sl k = nI (e k)) : ∀ (f i v : Nat), i ≤ l.length → l.length - i < f → L_MD_bitsOfRow_4 F (nI l.length) sy sl f (nI v) (nI i) = some (nI (v + sm (fun i => e (re_ l i).1 + rxb (re_ l i).1) i (l.length - i)), nI l.length) := by
  intro f
  induction f with
  | zero => intro i v _ h; omega
  | succ f ih =>
    intro i v hi hf
    unfold L_MD_bitsOfRow_4 B_MD_bitsOfRow_4
    by_cases h : l.length ≤ i
    · have e : i = l.length := by omega
      subst e
      simp (disch := omega) only [nm, z_lit, z_one, z_mone, z_neg1, z_neg2, z_pred, z_add, z_mul, z_sub, z_le, z_lt, z_eq, z_tn, z_chk, z_eqm, z_meq, z_lem, z_mle, z_ltm, z_mlt, z_eqq, z_qeq, z_leq, z_qle, z_ltq, z_qlt, z_m1m2, z_m2m1, z_m1m1, z_m2m2, z_bnd1, z_bnd2, z_bnd3, z_bnd4, z_bnd5, z_bnd6, z_bnd7, z_bnd8, z_bnd9, z_bnd10, z_bnd11, z_bnd12, z_bnd13, z_bnd14, z_bnd15, z_bnd16, z_max, z_min, z_n31, z_shl, z_shr, z_us, z_div, z_mod, z_and, z_or, z_xor, if_true, if_false, Nat.le_refl, Nat.sub_self, sm, Nat.add_zero]
    · have r1 := rok_re hr (i := i) (by omega)
      have e1 := (C i (by omega)).2
      have e4 := he _ r1.1
      have e5 := (s_rextra F (re_ l i).1 (by omega)).2
      have ex : l.length - i = (l.length - (i + 1)) + 1 := by omega
      simp (disch := omega) only [nm, z_lit, z_one, z_mone, z_neg1, z_neg2, z_pred, z_add, z_mul, z_sub, z_le, z_lt, z_eq, z_tn, z_chk, z_eqm, z_meq, z_lem, z_mle, z_ltm, z_mlt, z_eqq, z_qeq, z_leq, z_qle, z_ltq, z_qlt, z_m1m2, z_m2m1, z_m1m1, z_m2m2, z_bnd1, z_bnd2, z_bnd3, z_bnd4, z_bnd5, z_bnd6, z_bnd7, z_bnd8, z_bnd9, z_bnd10, z_bnd11, z_bnd12, z_bnd13, z_bnd14, z_bnd15, z_bnd16, z_max, z_min, z_n31, z_shl, z_shr, z_us, z_div, z_mod, z_and, z_or, z_xor, if_true, if_false, h, e1, e4, e5]
      rw [ih (i + 1) _ (by omega) (by omega), ex, sm_first]
      simp only [Nat.add_assoc]
/-- what the model's own codes leave -/
def mown (L D e : Nat → Nat) (dl ll mo sy sl : Nat → Int32) : Prop := (∀ k, k < 288 → ll k = nI (if k < 286 then L k else 0)) ∧ (∀ k, k < 32 → dl k = nI (if k < 30 then D k else 0)) ∧ (∀ k, k < 19 → sl k = nI (e k)) ∧ mrow (rowl L D) mo sy
theorem s_mownCodes (F : Nat) (B fq dl lq ll mo sy sq sl tf ts up wt : Nat → Int32) (b T Fa L D e : Nat → Nat) (fr to K : Nat) (hF : 100000 ≤ F) (hB : byt B b) (hto : to ≤ 512) (h : tok T Fa fr to K) (hm : mtok ts tf T Fa K) (H : own b T Fa fr K L D e) : ∃ fq' dl' lq' ll' mo' sy' sq' sl' up' wt', m_MD_ownCodes F B fq dl lq ll mo sy sq sl tf ts (nI K) up wt (nI fr) = some (nI (rowl L D).length, nI (um L 257 286), nI (um D 1 30), nI (toldc e), fq', dl', lq', ll', mo', sy', sq', sl', up', wt') ∧ mown L D e dl' ll' mo' sy' sl' := by
  have hb : ∀ j, j < 512 → b j < 256 := fun j hj => (hB j hj).2
  have K5 := tok_pos h K (Nat.le_refl _)
  have s1 := lc_all h hb hto 288 (by omega)
  have s2 := fc_all h 32 (by omega)
  have hL' : ∀ k, 286 ≤ k → k < 288 → lc b T fr K k = 0 := fun k h1 h2 => by
    have : ∀ j, j ≤ K → lc b T fr j k = 0 := by
      intro j
      induction j with
      | zero => intro _; rw [lc, if_neg (by omega)]
      | succ j ih => intro hj; rw [lc, ih (by omega), if_neg (by have := (tsy_lt h hb hto (k := j) (by omega)).1; omega)]
    exact this K (Nat.le_refl _)
  have hD' : ∀ k, 30 ≤ k → k < 32 → fc T Fa K k = 0 := fun k h1 h2 => by
    have : ∀ j, j ≤ K → fc T Fa j k = 0 := by
      intro j
      induction j with
      | zero => intro _; rw [fc]
      | succ j ih =>
        intro hj; rw [fc, ih (by omega)]
        have q := h.1 j (by omega)
        by_cases e : T j = 1
        · rw [if_pos e]
        · rw [if_neg e, if_neg (by have := (fs_facts (Fa j) (by omega) (by omega)).1; omega)]
    exact this K (Nat.le_refl _)
  obtain ⟨bL, bD, bE⟩ := own_le h hb hto H
  obtain ⟨H1, H2, H3⟩ := H
  have H1' := huff_ext H1 288 (by omega) hL'
  have H2' := huff_ext H2 32 (by omega) hD'
  obtain ⟨fq1, lq1, e1, g1, g1'⟩ := s_countTokens F B fq lq ts tf b T Fa fr to K hF hB hto h hm
  obtain ⟨ll2, up2, wt2, e2, g2⟩ := s_mjoin F 288 288 288 lq1 ll up wt (lc b T fr K) _ g1 (by omega) (by omega) (by omega) (by omega) (by omega) (by omega) hF H1'
  obtain ⟨dl3, up3, wt3, e3, g3⟩ := s_mjoin F 32 32 32 fq1 dl up2 wt2 (fc T Fa K) _ g1' (by omega) (by omega) (by omega) (by omega) (by omega) (by omega) hF H2'
  have hL2 : ∀ j, j < 286 → ll2 j = nI (L j) ∧ L j < 19 := fun j hj => ⟨by rw [g2 j (by omega)]; simp only [if_pos hj], by have := bL j hj; omega⟩
  have hD2 : ∀ j, j < 30 → dl3 j = nI (D j) ∧ D j < 19 := fun j hj => ⟨by rw [g3 j (by omega)]; simp only [if_pos hj], by have := bD j hj; omega⟩
  have e4 := l_lm F ll2 L (fun j hj => ⟨(hL2 j hj).1, by have := (hL2 j hj).2; omega⟩) F 286 (by omega) (by omega) (by omega)
  have e5 := l_fm F dl3 D (fun j hj => ⟨(hD2 j hj).1, by have := (hD2 j hj).2; omega⟩) F 30 (by omega) (by omega) (by omega)
  obtain ⟨rf1, rf2, rf3, rf4, rf5, rf6⟩ := rowl_facts (L := L) (D := D) (fun k hk => by have := bL k hk; omega) (fun k hk => by have := bD k hk; omega)
  obtain ⟨mo6, sy6, e6, C6⟩ := l_oc128 F ll2 dl3 L D (um L 257 286) (um D 1 30) hF rf4 (by omega) rf5 rf6 hL2 hD2 F 0 mo sy (by omega) (by omega) (fun i hi => by simp [rst] at hi)
  have e6' : L_MD_ownCodes_128 F dl3 (nI (um D 1 30)) ll2 (nI (um L 257 286)) F (nI 0) (nI 1) (nI 0) mo sy = some (nI (um L 257 286 + um D 1 30), nI (um L 257 286 + um D 1 30 + 1), nI (rowl L D).length, mo6, sy6) := e6
  have C6' : mrow (rowl L D) mo6 sy6 := C6
  obtain ⟨sq7, e7, g7⟩ := l_oc189 F F 0 sq (by omega) (by omega) (fun s hs => by omega)
  obtain ⟨sq8, e8, g8⟩ := l_oc210 F (rowl L D) mo6 sy6 (by omega) rf2 C6' F 0 sq7 (by omega) (by omega) (fun s hs => by rw [g7 s hs]; rfl)
  have hcB : ∀ s, s < 19 → rcnt (rowl L D) s ≤ 400 := fun s hs => by have := rcnt_le (rowl L D) s; omega
  obtain ⟨n, hn, J, Hn, h7⟩ := H3
  have Hd : ∃ d, huff (hlv (rcnt (rowl L D)) 0) 19 d := by
    by_cases q : 0 = n
    · exact ⟨e, by rw [q]; exact Hn⟩
    · obtain ⟨d, q1, _⟩ := J 0 (by omega); exact ⟨d, q1⟩
  obtain ⟨d0, Hd0⟩ := Hd
  have sB := sm_le (rcnt (rowl L D)) 0 400 19 (fun i _ h2 => hcB i (by omega))
  obtain ⟨sl9, up9, wt9, e9, g9⟩ := s_mjoin F 19 19 19 sq8 sl up3 wt3 (hlv (rcnt (rowl L D)) 0) d0 g8 (by show sm (rcnt (rowl L D)) 0 19 < _; omega) (by omega) (by omega) (by omega) (by omega) (by omega) hF Hd0
  obtain ⟨sq10, sl10, up10, wt10, e10, g10⟩ := l_oc253 F (rcnt (rowl L D)) e n hF hcB hn J Hn h7 F 0 sq8 sl9 up9 wt9 (by omega) (by omega) g8 (fun d2 H2 s hs => by
    rw [g9 s hs]
    have b1 := huff_1000 Hd0 (hlv_le hcB 0) s hs
    have b2 := huff_1000 H2 (hlv_le hcB 0) s hs
    rw [huff_uniq Hd0 H2 (by omega) (by omega) (by show sm (rcnt (rowl L D)) 0 19 < _; omega) s hs (by omega) (by omega)])
  have e11 := l_oc313 F sl10 e (fun k hk => ⟨g10 k hk, by have := h7 k hk; omega⟩) F 19 (by omega) (by omega) (by omega)
  refine ⟨fq1, dl3, lq1, ll2, mo6, sy6, sq10, sl10, up10, wt10, ?_, g2, g3, g10, C6'⟩
  unfold m_MD_ownCodes
  simp only [e1, z_bnd2, z_lit, e2, z_bnd3, e3, e4, z_bnd1, e5, e6', z_bnd5, e7, e8, e9, e10, z_bnd4, e11]
  rfl
theorem s_mweigh (F : Nat) (B fq dl lq ll mo sy sq sl tf ts up wt : Nat → Int32) (fm lm rs sm_ : Int32) (b T Fa L D e : Nat → Nat) (fr to K ef : Nat) (hF : 100000 ≤ F) (hB : byt B b) (hto : to ≤ 512) (hef : ef < 10) (h0 : ef ≠ 0) (h : tok T Fa fr to K) (hm : mtok ts tf T Fa K) (H : own b T Fa fr K L D e) : ∃ fq' dl' lq' ll' mo' sy' sq' sl' up' wt', m_MD_weigh F B (nI ef) fq dl fm lq ll lm mo rs sy sq sl sm_ tf ts (nI K) up wt (nI fr) (nI to) = some (nI (kd2 (stb (to - fr)) (fxb b T Fa fr K) (owb b T Fa fr K L D e)), nI (kb2 (stb (to - fr)) (fxb b T Fa fr K) (owb b T Fa fr K L D e)), nI (rowl L D).length, nI (um L 257 286), nI (um D 1 30), nI (toldc e), fq', dl', lq', ll', mo', sy', sq', sl', up', wt') ∧ mown L D e dl' ll' mo' sy' sl' := by
  have hb : ∀ j, j < 512 → b j < 256 := fun j hj => (hB j hj).2
  have K5 := tok_pos h K (Nat.le_refl _)
  obtain ⟨bL, bD, bE⟩ := own_le h hb hto H
  obtain ⟨dl1, ll1, e1, g1, g1'⟩ := s_fixedCodes F dl ll hF
  have e2 := s_bitsOfTokens F B ts tf ll1 dl1 b T Fa fl (fun _ => 5) fr to K hF hB hto h hm g1 g1'
  obtain ⟨fq3, dl3, lq3, ll3, mo3, sy3, sq3, sl3, up3, wt3, e3, M⟩ := s_mownCodes F B fq dl1 lq ll1 mo sy sq sl tf ts up wt b T Fa L D e fr to K hF hB hto h hm H
  obtain ⟨m1', m2', m3', m4'⟩ := M
  obtain ⟨rf1, rf2, rf3, rf4, rf5, rf6⟩ := rowl_facts (L := L) (D := D) (fun k hk => by have := bL k hk; omega) (fun k hk => by have := bD k hk; omega)
  have e4 : m_MD_bitsOfRow F (nI (rowl L D).length) sy3 sl3 = some (nI (rbits (rowl L D) e)) := by
    unfold m_MD_bitsOfRow
    simp only [z_lit]
    rw [l_mbr F (rowl L D) mo3 sy3 sl3 e rf1 rf2 m4' m3' F 0 0 (by omega) (by omega), z_bnd2]
    unfold rbits
    rw [Nat.zero_add, Nat.sub_zero]
  have e5 := s_bitsOfTokens F B ts tf ll3 dl3 b T Fa _ _ fr to K hF hB hto h hm m1' m2'
  have e6 : tbits b T Fa fr K (fun k => if k < 286 then L k else 0) (fun k => if k < 30 then D k else 0) = tbits b T Fa fr K L D := by
    unfold tbits
    congr 1
    · congr 1
      exact sm_congr (fun i _ hi => by
        have := (tsy_lt h hb hto (k := i) (by omega)).1
        simp only [if_pos this])
    · exact sm_congr (fun i _ hi => by
        have q := h.1 i (by omega)
        by_cases e : T i = 1
        · simp only [if_pos e]
        · have := (fs_facts (Fa i) (by omega) (by omega)).1
          simp only [if_neg e, if_pos this])
  rw [e6] at e5
  have t1 := tbits_le h hb hto (L := fl) (D := fun _ => 5) (fun k _ => by have := fl_le k; omega) (fun k _ => by omega)
  have t2 := tbits_le h hb hto (L := L) (D := D) (fun k hk => by have := bL k hk; omega) (fun k hk => by have := bD k hk; omega)
  have t3 := xbits_le h hto
  have t4 := rbits_le rf1 rf2 bE
  have t5 : toldc e ≤ 19 := um_le _ _ _
  have y1 : 3 + (tbits b T Fa fr K fl (fun _ => 5) + xbits T Fa K) = fxb b T Fa fr K := rfl
  have y2 : 17 + 3 * toldc e + rbits (rowl L D) e + (tbits b T Fa fr K L D + xbits T Fa K) = owb b T Fa fr K L D e := rfl
  have b1 : fxb b T Fa fr K < 1000000 := by unfold fxb; omega
  have b2 : owb b T Fa fr K L D e < 1000000 := by unfold owb; omega
  refine ⟨fq3, dl3, lq3, ll3, mo3, sy3, sq3, sl3, up3, wt3, ?_, m1', m2', m3', m4'⟩
  unfold m_MD_weigh
  simp (disch := omega) only [nm, z_lit, z_one, z_mone, z_neg1, z_neg2, z_pred, z_add, z_mul, z_sub, z_le, z_lt, z_eq, z_tn, z_chk, z_eqm, z_meq, z_lem, z_mle, z_ltm, z_mlt, z_eqq, z_qeq, z_leq, z_qle, z_ltq, z_qlt, z_m1m2, z_m2m1, z_m1m1, z_m2m2, z_bnd1, z_bnd2, z_bnd3, z_bnd4, z_bnd5, z_bnd6, z_bnd7, z_bnd8, z_bnd9, z_bnd10, z_bnd11, z_bnd12, z_bnd13, z_bnd14, z_bnd15, z_bnd16, z_max, z_min, z_n31, z_shl, z_shr, z_us, z_div, z_mod, z_and, z_or, z_xor, if_true, if_false, h0, e1, e2, y1, e3, e4, e5, y2]
  unfold kd2 kb2 stb
  generalize fxb b T Fa fr K = X at *
  generalize owb b T Fa fr K L D e = Y at *
  generalize hst : 42 + 8 * (to - fr) = S at *
  by_cases c1 : S ≤ X
  · have n1 : ¬ (X < S) := by omega
    have n2 : min S X = S := by omega
    by_cases c2 : S ≤ Y
    · have n3 : ¬ (Y < S) := by omega
      have n4 : min S Y = S := by omega
      simp (disch := omega) only [nm, z_lit, z_one, z_mone, z_neg1, z_neg2, z_pred, z_add, z_mul, z_sub, z_le, z_lt, z_eq, z_tn, z_chk, z_eqm, z_meq, z_lem, z_mle, z_ltm, z_mlt, z_eqq, z_qeq, z_leq, z_qle, z_ltq, z_qlt, z_m1m2, z_m2m1, z_m1m1, z_m2m2, z_bnd1, z_bnd2, z_bnd3, z_bnd4, z_bnd5, z_bnd6, z_bnd7, z_bnd8, z_bnd9, z_bnd10, z_bnd11, z_bnd12, z_bnd13, z_bnd14, z_bnd15, z_bnd16, z_max, z_min, z_n31, z_shl, z_shr, z_us, z_div, z_mod, z_and, z_or, z_xor, if_true, if_false, c1, c2, n1, n2, n3, n4]
    · have n3 : Y < S := by omega
      have n4 : min S Y = Y := by omega
      simp (disch := omega) only [nm, z_lit, z_one, z_mone, z_neg1, z_neg2, z_pred, z_add, z_mul, z_sub, z_le, z_lt, z_eq, z_tn, z_chk, z_eqm, z_meq, z_lem, z_mle, z_ltm, z_mlt, z_eqq, z_qeq, z_leq, z_qle, z_ltq, z_qlt, z_m1m2, z_m2m1, z_m1m1, z_m2m2, z_bnd1, z_bnd2, z_bnd3, z_bnd4, z_bnd5, z_bnd6, z_bnd7, z_bnd8, z_bnd9, z_bnd10, z_bnd11, z_bnd12, z_bnd13, z_bnd14, z_bnd15, z_bnd16, z_max, z_min, z_n31, z_shl, z_shr, z_us, z_div, z_mod, z_and, z_or, z_xor, if_true, if_false, c1, c2, n1, n2, n3, n4]
  · have n1 : X < S := by omega
    have n2 : min S X = X := by omega
    by_cases c2 : X ≤ Y
    · have n3 : ¬ (Y < X) := by omega
      have n4 : min X Y = X := by omega
      simp (disch := omega) only [nm, z_lit, z_one, z_mone, z_neg1, z_neg2, z_pred, z_add, z_mul, z_sub, z_le, z_lt, z_eq, z_tn, z_chk, z_eqm, z_meq, z_lem, z_mle, z_ltm, z_mlt, z_eqq, z_qeq, z_leq, z_qle, z_ltq, z_qlt, z_m1m2, z_m2m1, z_m1m1, z_m2m2, z_bnd1, z_bnd2, z_bnd3, z_bnd4, z_bnd5, z_bnd6, z_bnd7, z_bnd8, z_bnd9, z_bnd10, z_bnd11, z_bnd12, z_bnd13, z_bnd14, z_bnd15, z_bnd16, z_max, z_min, z_n31, z_shl, z_shr, z_us, z_div, z_mod, z_and, z_or, z_xor, if_true, if_false, c1, c2, n1, n2, n3, n4]
    · have n3 : Y < X := by omega
      have n4 : min X Y = Y := by omega
      simp (disch := omega) only [nm, z_lit, z_one, z_mone, z_neg1, z_neg2, z_pred, z_add, z_mul, z_sub, z_le, z_lt, z_eq, z_tn, z_chk, z_eqm, z_meq, z_lem, z_mle, z_ltm, z_mlt, z_eqq, z_qeq, z_leq, z_qle, z_ltq, z_qlt, z_m1m2, z_m2m1, z_m1m1, z_m2m2, z_bnd1, z_bnd2, z_bnd3, z_bnd4, z_bnd5, z_bnd6, z_bnd7, z_bnd8, z_bnd9, z_bnd10, z_bnd11, z_bnd12, z_bnd13, z_bnd14, z_bnd15, z_bnd16, z_max, z_min, z_n31, z_shl, z_shr, z_us, z_div, z_mod, z_and, z_or, z_xor, if_true, if_false, c1, c2, n1, n2, n3, n4]
