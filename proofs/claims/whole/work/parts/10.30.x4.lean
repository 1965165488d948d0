/-! writing the row of lengths, and a coded block -/
theorem lcode_pos {c e : Nat → Nat} (h : lcode c e) : ∀ s, s < 19 → 0 < c s → 0 < e s := by
  obtain ⟨i, _, _, H, _⟩ := h
  intro s hs hc
  have key : ∀ i, 0 < hlv c i s := by
    intro i
    induction i with
    | zero => exact hc
    | succ i ih => show 0 < (hlv c i s + 1) / 2; omega
  exact huff_pos H s hs (key i)
theorem rcnt_pos (l : List (Nat × Nat)) {i : Nat} (hi : i < l.length) : 0 < rcnt l (re_ l i).1 := by
  unfold rcnt
  rw [List.countP_pos_iff]
  refine ⟨re_ l i, ?_, by simp⟩
  unfold re_
  rw [List.getD_eq_getElem?_getD, List.getElem?_eq_getElem hi]
  exact List.getElem_mem hi
theorem l_jr1 (F t : Nat) (cl sl : Nat → Int32) (e : Nat → Nat) (hF : 100000 ≤ F) (ht : t ≤ 19) (hc : ∀ k, k < 19 → cl k = nI (e k)) (hs : ∀ k, k < 19 → sl k = nI (e k)) : ∀ (f g i n : Nat) (ca co : Nat → Int32), i ≤ t → t - i < f → t - i < g → n + 3 * (t - i) ≤ 4144 → Wr n ca co → ∃ ca' co', L_Writer_putRow_39 F cl (nI t) f (nI i) (nI n) ca = some (nI t, nI (n + 3 * (t - i)), ca') ∧ L_MD_putRow_37 F sl (nI t) g (nI i) (nI n) co = some (nI t, nI (n + 3 * (t - i)), co') ∧ Wr (n + 3 * (t - i)) ca' co' := by
  intro f
  induction f with
  | zero => intros; omega
  | succ f ih =>
    intro g i n ca co hi hf hg hn W
    obtain ⟨g', rfl⟩ : ∃ g', g = g' + 1 := ⟨g - 1, by omega⟩
    unfold L_Writer_putRow_39 B_Writer_putRow_39 L_MD_putRow_37 B_MD_putRow_37
    by_cases h : t ≤ i
    · have e : i = t := by omega
      subst e
      rw [Nat.sub_self, Nat.mul_zero, Nat.add_zero]
      exact ⟨ca, co, by simp (disch := omega) only [nm, z_lit, z_one, z_mone, z_neg1, z_neg2, z_pred, z_add, z_mul, z_sub, z_le, z_lt, z_eq, z_tn, z_chk, z_eqm, z_meq, z_lem, z_mle, z_ltm, z_mlt, z_eqq, z_qeq, z_leq, z_qle, z_ltq, z_qlt, z_m1m2, z_m2m1, z_m1m1, z_m2m2, z_bnd1, z_bnd2, z_bnd3, z_bnd4, z_bnd5, z_bnd6, z_bnd7, z_bnd8, z_bnd9, z_bnd10, z_bnd11, z_bnd12, z_bnd13, z_bnd14, z_bnd15, z_bnd16, z_max, z_min, z_n31, z_shl, z_shr, z_us, z_div, z_mod, z_and, z_or, z_xor, if_true, if_false, Nat.le_refl], by simp (disch := omega) only [nm, z_lit, z_one, z_mone, z_neg1, z_neg2, z_pred, z_add, z_mul, z_sub, z_le, z_lt, z_eq, z_tn, z_chk, z_eqm, z_meq, z_lem, z_mle, z_ltm, z_mlt, z_eqq, z_qeq, z_leq, z_qle, z_ltq, z_qlt, z_m1m2, z_m2m1, z_m1m1, z_m2m2, z_bnd1, z_bnd2, z_bnd3, z_bnd4, z_bnd5, z_bnd6, z_bnd7, z_bnd8, z_bnd9, z_bnd10, z_bnd11, z_bnd12, z_bnd13, z_bnd14, z_bnd15, z_bnd16, z_max, z_min, z_n31, z_shl, z_shr, z_us, z_div, z_mod, z_and, z_or, z_xor, if_true, if_false, Nat.le_refl], W⟩
    · obtain ⟨t1, t2⟩ := tb4 i (by omega)
      have t3 := s_order F i (by omega)
      have e1 := hc (tbn 4 i) t2
      have e2 := hs (tbn 4 i) t2
      obtain ⟨ca1, co1, p1, p2, W1⟩ := j_bits F 3 n (nI (e (tbn 4 i))) ca co hF (by omega) (by omega) W
      obtain ⟨ca', co', q1, q2, W2⟩ := ih g' (i + 1) (n + 3) ca1 co1 (by omega) (by omega) (by omega) (by omega) W1
      have en : n + 3 + 3 * (t - (i + 1)) = n + 3 * (t - i) := by omega
      rw [en] at q1 q2 W2
      have n1 : ¬ (19 ≤ i) := by omega
      refine ⟨ca', co', ?_, ?_, W2⟩
      · simp (disch := omega) only [nm, z_lit, z_one, z_mone, z_neg1, z_neg2, z_pred, z_add, z_mul, z_sub, z_le, z_lt, z_eq, z_tn, z_chk, z_eqm, z_meq, z_lem, z_mle, z_ltm, z_mlt, z_eqq, z_qeq, z_leq, z_qle, z_ltq, z_qlt, z_m1m2, z_m2m1, z_m1m1, z_m2m2, z_bnd1, z_bnd2, z_bnd3, z_bnd4, z_bnd5, z_bnd6, z_bnd7, z_bnd8, z_bnd9, z_bnd10, z_bnd11, z_bnd12, z_bnd13, z_bnd14, z_bnd15, z_bnd16, z_max, z_min, z_n31, z_shl, z_shr, z_us, z_div, z_mod, z_and, z_or, z_xor, if_true, if_false, h, n1, tn4, t1, e1, p1]
        exact q1
      · simp (disch := omega) only [nm, z_lit, z_one, z_mone, z_neg1, z_neg2, z_pred, z_add, z_mul, z_sub, z_le, z_lt, z_eq, z_tn, z_chk, z_eqm, z_meq, z_lem, z_mle, z_ltm, z_mlt, z_eqq, z_qeq, z_leq, z_qle, z_ltq, z_qlt, z_m1m2, z_m2m1, z_m1m1, z_m2m2, z_bnd1, z_bnd2, z_bnd3, z_bnd4, z_bnd5, z_bnd6, z_bnd7, z_bnd8, z_bnd9, z_bnd10, z_bnd11, z_bnd12, z_bnd13, z_bnd14, z_bnd15, z_bnd16, z_max, z_min, z_n31, z_shl, z_shr, z_us, z_div, z_mod, z_and, z_or, z_xor, if_true, if_false, h, t3, e2, p2]
        exact q2
theorem s_symAt (F : Nat) (l : List (Nat × Nat)) (cc row : Nat → Int32) {i : Nat} (C : crow l cc row) (hr : rok l) (hi : i < l.length) (hl : l.length ≤ 316) : m_LengthRow_symbolAt F row (nI i) = some (nI (re_ l i).1) ∧ m_LengthRow_extraAt F row (nI i) = some (nI (re_ l i).2) := by
  have r1 := rok_re hr hi
  have e1 := C.2 i hi
  have e2 : ((re_ l i).2 * 256 + (re_ l i).1) &&& 255 = (re_ l i).1 := (Nat.and_two_pow_sub_one_eq_mod _ 8).trans (by omega)
  have e3 : ((re_ l i).2 * 256 + (re_ l i).1) >>> 8 = (re_ l i).2 := by rw [Nat.shiftRight_eq_div_pow]; omega
  constructor
  · unfold m_LengthRow_symbolAt
    simp (disch := omega) only [nm, z_lit, z_one, z_mone, z_neg1, z_neg2, z_pred, z_add, z_mul, z_sub, z_le, z_lt, z_eq, z_tn, z_chk, z_eqm, z_meq, z_lem, z_mle, z_ltm, z_mlt, z_eqq, z_qeq, z_leq, z_qle, z_ltq, z_qlt, z_m1m2, z_m2m1, z_m1m1, z_m2m2, z_bnd1, z_bnd2, z_bnd3, z_bnd4, z_bnd5, z_bnd6, z_bnd7, z_bnd8, z_bnd9, z_bnd10, z_bnd11, z_bnd12, z_bnd13, z_bnd14, z_bnd15, z_bnd16, z_max, z_min, z_n31, z_shl, z_shr, z_us, z_div, z_mod, z_and, z_or, z_xor, if_true, if_false, e1, e2]
  · unfold m_LengthRow_extraAt
    simp (disch := omega) only [nm, z_lit, z_one, z_mone, z_neg1, z_neg2, z_pred, z_add, z_mul, z_sub, z_le, z_lt, z_eq, z_tn, z_chk, z_eqm, z_meq, z_lem, z_mle, z_ltm, z_mlt, z_eqq, z_qeq, z_leq, z_qle, z_ltq, z_qlt, z_m1m2, z_m2m1, z_m1m1, z_m2m2, z_bnd1, z_bnd2, z_bnd3, z_bnd4, z_bnd5, z_bnd6, z_bnd7, z_bnd8, z_bnd9, z_bnd10, z_bnd11, z_bnd12, z_bnd13, z_bnd14, z_bnd15, z_bnd16, z_max, z_min, z_n31, z_shl, z_shr, z_us, z_div, z_mod, z_and, z_or, z_xor, if_true, if_false, e1, e3]
theorem l_jr2 (F : Nat) (l : List (Nat × Nat)) (cl row cc lcd sl mo sy scd : Nat → Int32) (e C : Nat → Nat) (hF : 100000 ≤ F) (hl : l.length ≤ 316) (hr : rok l) (CR : crow l cc row) (MR : mrow l mo sy) (he7 : ∀ k, k < 19 → e k ≤ 7) (hc : ∀ k, k < 19 → cl k = nI (e k)) (hs : ∀ k, k < 19 → sl k = nI (e k)) (hcd : ∀ k, k < 19 → 0 < e k → lcd k = nI (C k) ∧ scd k = nI (C k)) (hpos : ∀ i, i < l.length → 0 < e (re_ l i).1) : ∀ (f g i n : Nat) (ca co : Nat → Int32), i ≤ l.length → l.length - i < f → l.length - i < g → n + sm (fun i => e (re_ l i).1 + rxb (re_ l i).1) i (l.length - i) ≤ 4144 → Wr n ca co → ∃ ca' co', L_Writer_putRow_79 F cl row (nI l.length) lcd f (nI i) (nI n) ca = some (nI l.length, nI (n + sm (fun i => e (re_ l i).1 + rxb (re_ l i).1) i (l.length - i)), ca') ∧ L_MD_putRow_80 F mo (nI l.length) sy scd sl g (nI i) (nI n) co = some (nI l.length, nI (n + sm (fun i => e (re_ l i).1 + rxb (re_ l i).1) i (l.length - i)), co') ∧ Wr (n + sm (fun i => e (re_ l i).1 + rxb (re_ l i).1) i (l.length - i)) ca' co' := by
  intro f
  induction f with
  | zero => intros; omega
  | succ f ih =>
    intro g i n ca co hi hf hg hn W
    obtain ⟨g', rfl⟩ : ∃ g', g = g' + 1 := ⟨g - 1, by omega⟩
    unfold L_Writer_putRow_79 B_Writer_putRow_79 L_MD_putRow_80 B_MD_putRow_80
    by_cases h : l.length ≤ i
    · have e : i = l.length := by omega
      subst e
      rw [Nat.sub_self, sm, Nat.add_zero]
      exact ⟨ca, co, by simp (disch := omega) only [nm, z_lit, z_one, z_mone, z_neg1, z_neg2, z_pred, z_add, z_mul, z_sub, z_le, z_lt, z_eq, z_tn, z_chk, z_eqm, z_meq, z_lem, z_mle, z_ltm, z_mlt, z_eqq, z_qeq, z_leq, z_qle, z_ltq, z_qlt, z_m1m2, z_m2m1, z_m1m1, z_m2m2, z_bnd1, z_bnd2, z_bnd3, z_bnd4, z_bnd5, z_bnd6, z_bnd7, z_bnd8, z_bnd9, z_bnd10, z_bnd11, z_bnd12, z_bnd13, z_bnd14, z_bnd15, z_bnd16, z_max, z_min, z_n31, z_shl, z_shr, z_us, z_div, z_mod, z_and, z_or, z_xor, if_true, if_false, Nat.le_refl], by simp (disch := omega) only [nm, z_lit, z_one, z_mone, z_neg1, z_neg2, z_pred, z_add, z_mul, z_sub, z_le, z_lt, z_eq, z_tn, z_chk, z_eqm, z_meq, z_lem, z_mle, z_ltm, z_mlt, z_eqq, z_qeq, z_leq, z_qle, z_ltq, z_qlt, z_m1m2, z_m2m1, z_m1m1, z_m2m2, z_bnd1, z_bnd2, z_bnd3, z_bnd4, z_bnd5, z_bnd6, z_bnd7, z_bnd8, z_bnd9, z_bnd10, z_bnd11, z_bnd12, z_bnd13, z_bnd14, z_bnd15, z_bnd16, z_max, z_min, z_n31, z_shl, z_shr, z_us, z_div, z_mod, z_and, z_or, z_xor, if_true, if_false, Nat.le_refl], W⟩
    · have ex : l.length - i = (l.length - (i + 1)) + 1 := by omega
      have r1 := rok_re hr (i := i) (by omega)
      obtain ⟨a1, a2⟩ := s_symAt F l cc row (i := i) CR hr (by omega) hl
      obtain ⟨m1', m2'⟩ := MR i (by omega)
      have c1 := hc _ r1.1
      have c2 := hs _ r1.1
      obtain ⟨c3, c4⟩ := hcd _ r1.1 (hpos i (by omega))
      obtain ⟨x1, x2⟩ := s_rextra F (re_ l i).1 (by omega)
      have b7 := he7 _ r1.1
      have bx := rxb_le (re_ l i).1
      rw [ex, sm_first] at hn
      obtain ⟨ca1, co1, p1, p2, W1⟩ := j_code F (e (re_ l i).1) n (nI (C (re_ l i).1)) ca co hF (by omega) (by omega) W
      obtain ⟨ca2, co2, p3, p4, W2⟩ := j_bits F (rxb (re_ l i).1) (n + e (re_ l i).1) (nI (re_ l i).2) ca1 co1 hF (by omega) (by omega) W1
      obtain ⟨ca', co', q1, q2, W3⟩ := ih g' (i + 1) (n + e (re_ l i).1 + rxb (re_ l i).1) ca2 co2 (by omega) (by omega) (by omega) (by omega) W2
      have en : n + sm (fun i => e (re_ l i).1 + rxb (re_ l i).1) i (l.length - i) = n + e (re_ l i).1 + rxb (re_ l i).1 + sm (fun i => e (re_ l i).1 + rxb (re_ l i).1) (i + 1) (l.length - (i + 1)) := by rw [ex, sm_first]; omega
      rw [en]
      have n0 : (nI l.length ≤ nI i) = False := by rw [z_le (by omega) (by omega)]; exact eq_false h
      refine ⟨ca', co', ?_, ?_, W3⟩
      · simp (disch := omega) only [nm, n0, if_false, a1, z_bnd1, z_chk, z_tn, c1, c3, p1, z_bnd2, a2, x1, p3, z_one, z_add]
        exact q1
      · simp (disch := omega) only [nm, n0, if_false, z_chk, z_tn, m1', m2', c2, c4, p2, z_bnd2, x2, z_bnd1, p4, z_one, z_add]
        exact q2
/-- the row of lengths -/
theorem j_row (F : Nat) (cl row cc lcd nx_ sl mo sy scd : Nat → Int32) (L D e : Nat → Nat) (n : Nat) (ca co : Nat → Int32) (hF : 100000 ≤ F) (hL : ∀ k, k < 286 → L k ≤ 15) (hD : ∀ k, k < 30 → D k ≤ 15) (he : lcode (rcnt (rowl L D)) e) (CR : crow (rowl L D) cc row) (MR : mrow (rowl L D) mo sy) (hc : ∀ k, k < 19 → cl k = nI (e k)) (hs : ∀ k, k < 19 → sl k = nI (e k)) (hn : n + (14 + 3 * toldc e + rbits (rowl L D) e) ≤ 4144) (W : Wr n ca co) : ∃ lcd' nx' ca' co' scd', m_Writer_giveCodes F 19 19 cl lcd nx_ = some (lcd', nx') ∧ m_Writer_putRow F cl (nI (um D 1 30)) (nI (um L 257 286)) row (nI (rowl L D).length) (nI (toldc e)) (nI n) ca lcd' = some (nI (n + (14 + 3 * toldc e + rbits (rowl L D) e)), ca') ∧ m_MD_putRow F (nI n) co (nI (um D 1 30)) (nI (um L 257 286)) mo (nI (rowl L D).length) sy scd sl (nI (toldc e)) = some (nI (n + (14 + 3 * toldc e + rbits (rowl L D) e)), co', scd') ∧ Wr (n + (14 + 3 * toldc e + rbits (rowl L D) e)) ca' co' := by
  obtain ⟨rf1, rf2, rf3, rf4, rf5, rf6⟩ := rowl_facts hL hD
  have l7 := lcode_7 he
  have t5 : toldc e ≤ 19 := um_le _ _ _
  have t6 : 4 ≤ toldc e := um_ge _ _ _ (by omega)
  obtain ⟨lcd', nx', e1, g1⟩ := s_give F 19 cl lcd nx_ e hF (by omega) (fun k hk => ⟨hc k hk, by have := l7 k hk; omega⟩)
  obtain ⟨scd', e2, g2⟩ := s_number F 19 19 19 sl scd e hF (by omega) (by omega) (by omega) (fun k hk => ⟨hs k hk, by have := l7 k hk; omega⟩)
  obtain ⟨ca1, co1, p1, p2, W1⟩ := j_bits F 5 n (nI (um L 257 286 - 257)) ca co hF (by omega) (by omega) W
  obtain ⟨ca2, co2, p3, p4, W2⟩ := j_bits F 5 (n + 5) (nI (um D 1 30 - 1)) ca1 co1 hF (by omega) (by omega) W1
  obtain ⟨ca3, co3, p5, p6, W3⟩ := j_bits F 4 (n + 5 + 5) (nI (toldc e - 4)) ca2 co2 hF (by omega) (by omega) W2
  obtain ⟨ca4, co4, p7, p8, W4⟩ := l_jr1 F (toldc e) cl sl e hF t5 hc hs F F 0 (n + 5 + 5 + 4) ca3 co3 (by omega) (by omega) (by omega) (by omega) W3
  rw [Nat.sub_zero] at p7 p8 W4
  have hrb : sm (fun i => e (re_ (rowl L D) i).1 + rxb (re_ (rowl L D) i).1) 0 ((rowl L D).length - 0) = rbits (rowl L D) e := by rw [Nat.sub_zero]; rfl
  obtain ⟨ca5, co5, p9, p10, W5⟩ := l_jr2 F (rowl L D) cl row cc lcd' sl mo sy scd' e (cde e 19) hF rf1 rf2 CR MR l7 hc hs (fun k hk hp => ⟨g1 k hk hp, g2 k hk hp⟩) (fun i hi => lcode_pos he _ (rok_re rf2 hi).1 (rcnt_pos _ hi)) F F 0 (n + 5 + 5 + 4 + 3 * toldc e) ca4 co4 (by omega) (by omega) (by omega) (by rw [hrb]; omega) W4
  rw [hrb] at p9 p10 W5
  have en : n + 5 + 5 + 4 + 3 * toldc e + rbits (rowl L D) e = n + (14 + 3 * toldc e + rbits (rowl L D) e) := by omega
  rw [en] at p9 p10 W5
  have e257 : um L 257 286 - 256 - 1 = um L 257 286 - 257 := by omega
  refine ⟨lcd', nx', ca5, co5, scd', e1, ?_, ?_, W5⟩
  · unfold m_Writer_putRow
    simp (disch := omega) only [z_lit, z_sub, e257, p1, z_bnd2, p3, p5, p7, z_bnd3, p9]
  · unfold m_MD_putRow
    simp (disch := omega) only [z_lit, z_sub, p2, z_bnd2, p4, p6, p8, z_bnd3, e2, z_bnd1, p10]
/-- what the tokens and the end take -/
theorem tb1_sum (b T Fa : Nat → Nat) (fr K : Nat) (LL DL : Nat → Nat) : sm (tb1_ b T Fa fr LL DL) 0 K + LL 256 = tbits b T Fa fr K LL DL + xbits T Fa K := by
  unfold tbits xbits
  have e : sm (tb1_ b T Fa fr LL DL) 0 K = sm (fun i => LL (tsy b T fr i)) 0 K + (sm (fun i => if T i = 1 then 0 else DL (fs (Fa i))) 0 K + sm (fun i => if T i = 1 then 0 else lx (T i) + fx (Fa i)) 0 K) := by
    rw [← sm_addf, ← sm_addf]
    exact sm_congr (fun i _ _ => by
      unfold tb1_
      by_cases c : T i = 1
      · simp only [if_pos c]
      · simp only [if_neg c]; omega)
  omega
theorem jc_fixed (F : Nat) (ll dl lcd dcd mll mdl mlc mdc : Nat → Int32) (h1 : ∀ s, s < 288 → mll s = nI (fl s)) (h2 : ∀ s, s < 32 → mdl s = nI 5) (h3 : ∀ s, s < 288 → 0 < fl s → mlc s = nI (cde fl 288 s)) (h4 : ∀ s, s < 32 → 0 < 5 → mdc s = nI (cde (fun _ => 5) 32 s)) : jc F 0 ll dl lcd dcd mll mdl mlc mdc fl (fun _ => 5) fcd (fun s => s) := by
  refine ⟨fun s hs hp => ⟨fun n ca => ?_, h1 s (by omega), by rw [h3 s (by omega) hp, fcd_eq s (by omega)], by have := fl_le s; omega⟩, fun s hs hp => ⟨fun n ca => ?_, h2 s (by omega), by rw [h4 s (by omega) (by omega), fcf_eq s (by omega)], by show 5 ≤ 15; omega⟩⟩
  · unfold m_Writer_putLiteral
    rw [if_pos (show nI 0 = (0 : Int32) from rfl), s_fcode F s (by omega), z_bnd1, s_flen F s (by omega), z_bnd1]
  · rw [if_pos rfl]
theorem jc_own (F : Nat) (ll dl lcd dcd mll mdl mlc mdc : Nat → Int32) (L D : Nat → Nat) (bL : ∀ k, k < 286 → L k ≤ 15) (bD : ∀ k, k < 30 → D k ≤ 15) (hl : ∀ k, k < 286 → ll k = nI (L k)) (hd : ∀ k, k < 30 → dl k = nI (D k)) (hlc : ∀ k, k < 286 → 0 < L k → lcd k = nI (cde L 286 k)) (hdc : ∀ k, k < 30 → 0 < D k → dcd k = nI (cde D 30 k)) (h1 : ∀ k, k < 288 → mll k = nI (if k < 286 then L k else 0)) (h2 : ∀ k, k < 32 → mdl k = nI (if k < 30 then D k else 0)) (h3 : ∀ k, k < 288 → 0 < (if k < 286 then L k else 0) → mlc k = nI (cde (fun k => if k < 286 then L k else 0) 288 k)) (h4 : ∀ k, k < 32 → 0 < (if k < 30 then D k else 0) → mdc k = nI (cde (fun k => if k < 30 then D k else 0) 32 k)) : jc F 1 ll dl lcd dcd mll mdl mlc mdc L D (cde L 286) (cde D 30) := by
  refine ⟨fun s hs hp => ⟨fun n ca => ?_, by rw [h1 s (by omega), if_pos hs], by rw [h3 s (by omega) (by rw [if_pos hs]; exact hp), cde_ext (by omega) hs], bL s hs⟩, fun s hs hp => ⟨fun n ca => ?_, by rw [h2 s (by omega), if_pos hs], by rw [h4 s (by omega) (by rw [if_pos hs]; exact hp), cde_ext (by omega) hs], bD s hs⟩⟩
  · unfold m_Writer_putLiteral
    rw [if_neg (show ¬ (nI 1 = (0 : Int32)) by decide), z_chk (by omega) hs, z_chk (by omega) hs, z_tn (by omega), hlc s hs hp, hl s hs]
  · rw [if_neg (show ¬ (nI 1 = nI 0) by decide), z_chk (by omega) hs, z_chk (by omega) hs, z_tn (by omega), hdc s hs hp, hd s hs]
/-- the head of a coded block -/
theorem j_head (F n la kd : Nat) (ca co : Nat → Int32) (hF : 100000 ≤ F) (hla : la ≤ 1) (hn : n + 3 ≤ 4144) (W : Wr n ca co) : ∃ ca1 ca2 co1 co2, m_Writer_putBits F (nI n) ca (nI la) (nI 1) = some (nI (n + 1), ca1) ∧ m_Writer_putBits F (nI (n + 1)) ca1 (nI kd) (nI 2) = some (nI (n + 3), ca2) ∧ m_MD_putBit F (nI n) co (nI la) = some (nI (n + 1), co1) ∧ m_MD_putNumber F (nI (n + 1)) co1 (nI kd) (nI 2) = some (nI (n + 3), co2) ∧ Wr (n + 3) ca2 co2 := by
  obtain ⟨ca1, co1, p1, p2, W1⟩ := j_put F n la ca co W (by omega) hla
  have p1' : m_Writer_putBits F (nI n) ca (nI la) (nI 1) = some (nI (n + 1), ca1) := by
    have e : ∀ G, L_Writer_putBits_2 F (nI la) (nI 1) (G + 2) (nI 0) (nI n) ca = some (nI 1, nI (n + 1), ca1) := fun G => by
      have e1 : rx_us (nI la) (nI 0) &&& nI 1 = nI la := by
        rw [z_us (by omega) (by omega), z_and, Nat.shiftRight_zero, bit_and1]
        congr 1; omega
      show B_Writer_putBits_2 F (nI la) (nI 1) (L_Writer_putBits_2 F (nI la) (nI 1) (G + 1)) (nI 0) (nI n) ca = _
      unfold B_Writer_putBits_2
      have n0 : (nI 1 ≤ nI 0) = False := eq_false (by decide)
      simp only [z_lit, n0, if_false, e1, p1, z_bnd2, nm, z_one, z_add]
      unfold L_Writer_putBits_2 B_Writer_putBits_2
      have n1 : (nI 1 ≤ nI (0 + 1)) = True := eq_true (by decide)
      simp only [n1, if_true]
    have e2 := e (F - 2)
    rw [Nat.sub_add_cancel (by omega)] at e2
    unfold m_Writer_putBits
    simp only [z_lit, e2, z_bnd3]
  obtain ⟨ca2, co2, p3, p4, W2⟩ := j_bits F 2 (n + 1) (nI kd) ca1 co1 hF (by omega) (by omega) W1
  exact ⟨ca1, ca2, co1, co2, p1', p3, p2, p4, W2⟩
/-- tokens and end -/
theorem j_toks (F z : Nat) (B tkn ts tf ll dl lcd dcd mll mdl mlc mdc : Nat → Int32) (b T Fa LL DL CL CD : Nat → Nat) (fr to K n : Nat) (ca co : Nat → Int32) (hF : 100000 ≤ F) (hz : z ≤ 1) (hB : byt B b) (hto : to ≤ 512) (h : tok T Fa fr to K) (hm : mtok ts tf T Fa K) (ht : ∀ i, i < K → tkn i = nI (tk b T Fa fr i)) (J : jc F z ll dl lcd dcd mll mdl mlc mdc LL DL CL CD) (hLL : ∀ k, k < K → 0 < LL (tsy b T fr k)) (hDL : ∀ k, k < K → T k ≠ 1 → 0 < DL (fs (Fa k))) (hE : 0 < LL 256) (hn : n + (tbits b T Fa fr K LL DL + xbits T Fa K) ≤ 4144) (W : Wr n ca co) : ∃ n1 ca1 ca' co1 co', L_Writer_putCoded_88 F dl ll (nI K) tkn dcd lcd (nI z) F (nI 0) (nI n) ca = some (nI K, nI n1, ca1) ∧ m_Writer_putLiteral F ll (nI n1) ca1 lcd (nI z) (nI 256) = some (nI (n + (tbits b T Fa fr K LL DL + xbits T Fa K)), ca') ∧ L_MD_putTokens_31 F B mdc mdl mlc mll tf ts (nI K) F (nI fr) (nI 0) (nI n) co = some (nI to, nI K, nI n1, co1) ∧ m_MD_putCode F (nI n1) co1 (mlc 256) (mll 256) = some (nI (n + (tbits b T Fa fr K LL DL + xbits T Fa K)), co') ∧ Wr (n + (tbits b T Fa fr K LL DL + xbits T Fa K)) ca' co' := by
  have K5 := tok_pos h K (Nat.le_refl _)
  have es := tb1_sum b T Fa fr K LL DL
  obtain ⟨ca1, co1, p1, p2, W1⟩ := l_jtok F z B tkn ts tf ll dl lcd dcd mll mdl mlc mdc b T Fa LL DL CL CD fr to K hF hz hB hto h hm ht J hLL hDL F F 0 n ca co (by omega) (by omega) (by omega) (by rw [Nat.sub_zero]; omega) W
  rw [Nat.sub_zero] at p1 p2 W1
  have e0 : fr + sm T 0 0 = fr := rfl
  rw [e0] at p2
  obtain ⟨j1, j2, j3, j4⟩ := J.1 256 (by omega) hE
  obtain ⟨ca2, co2, q1, q2, W2⟩ := j_code F (LL 256) (n + sm (tb1_ b T Fa fr LL DL) 0 K) (nI (CL 256)) ca1 co1 hF (by omega) (by omega) W1
  have en : n + sm (tb1_ b T Fa fr LL DL) 0 K + LL 256 = n + (tbits b T Fa fr K LL DL + xbits T Fa K) := by omega
  rw [en] at q1 q2 W2
  exact ⟨_, ca1, ca2, co1, co2, p1, by rw [j1, q1]; rfl, p2, by rw [j3, j2]; exact q2, W2⟩
theorem j_coded1 (F : Nat) (B tkn ts tf ll dl lcd dcd lcd2 nx_ cl row mll mdl mlc mdc : Nat → Int32) (rdi rli rsz rto : Int32) (b T Fa : Nat → Nat) (fr to K n la : Nat) (ca co : Nat → Int32) (hF : 100000 ≤ F) (hB : byt B b) (hto : to ≤ 512) (h : tok T Fa fr to K) (hm : mtok ts tf T Fa K) (ht : ∀ i, i < K → tkn i = nI (tk b T Fa fr i)) (hla : la ≤ 1) (hn : n + fxb b T Fa fr K ≤ 4144) (W : Wr n ca co) : ∃ (ca' dcd' lcd2' lcd' nx' co1 co2 co' mdl' mll' mdc' mlc' : Nat → Int32), m_Writer_putCoded F dl (nI 1) ll (nI K) tkn cl rdi rli row rsz rto (nI n) ca dcd lcd2 lcd nx_ (nI la) = some (nI (n + fxb b T Fa fr K), ca', dcd', lcd2', lcd', nx') ∧ m_MD_putBit F (nI n) co (nI la) = some (nI (n + 1), co1) ∧ m_MD_putNumber F (nI (n + 1)) co1 (nI 1) (nI 2) = some (nI (n + 3), co2) ∧ m_MD_fixedCodes F mdl mll = some (mdl', mll') ∧ m_MD_putTokens F (nI (n + 3)) B co2 mdc mdl' mlc mll' tf ts (nI K) (nI fr) = some (nI (n + fxb b T Fa fr K), co', mdc', mlc') ∧ Wr (n + fxb b T Fa fr K) ca' co' := by
  unfold fxb at hn
  obtain ⟨ca1, ca2, co1, co2, p1, p2, p3, p4, W1⟩ := j_head F n la 1 ca co hF hla (by omega) W
  obtain ⟨mdl', mll', e1, g1, g2⟩ := s_fixedCodes F mdl mll hF
  obtain ⟨mlc', e2, g3⟩ := s_number F 288 288 288 mll' mlc fl hF (by omega) (by omega) (by omega) (fun k hk => ⟨g1 k hk, by have := fl_le k; omega⟩)
  obtain ⟨mdc', e3, g4⟩ := s_number F 32 32 32 mdl' mdc (fun _ => 5) hF (by omega) (by omega) (by omega) (fun k hk => ⟨g2 k hk, by show 5 ≤ 15; omega⟩)
  have J := jc_fixed F ll dl lcd dcd mll' mdl' mlc' mdc' g1 g2 g3 g4
  have fpos : ∀ s, 0 < fl s := fun s => by unfold fl; split
                                           · omega
                                           · split
                                             · omega
                                             · split <;> omega
  obtain ⟨n1, ca3, ca4, co3, co4, q1, q2, q3, q4, W2⟩ := j_toks F 0 B tkn ts tf ll dl lcd dcd mll' mdl' mlc' mdc' b T Fa fl (fun _ => 5) fcd (fun s => s) fr to K (n + 3) ca2 co2 hF (by omega) hB hto h hm ht J (fun k _ => fpos _) (fun k _ _ => by show 0 < 5; omega) (fpos _) (by omega) W1
  have en : n + 3 + (tbits b T Fa fr K fl (fun _ => 5) + xbits T Fa K) = n + fxb b T Fa fr K := by unfold fxb; omega
  rw [en] at q2 q4 W2
  refine ⟨ca4, dcd, lcd2, lcd, nx_, co1, co2, co4, mdl', mll', mdc', mlc', ?_, p3, p4, e1, ?_, W2⟩
  · unfold m_Writer_putCoded
    have k1 : (nI 1 = nI 2) = False := eq_false (by decide)
    simp only [z_lit, p1, z_bnd2, p2, k1, if_false, z_bnd1, if_true, z_bnd6, q1, z_bnd3, q2]
  · unfold m_MD_putTokens
    simp (disch := omega) only [z_lit, e2, z_bnd1, e3, q3, z_bnd4, z_chk, z_tn, q4, z_bnd2]
theorem j_coded2 (F : Nat) (B tkn ts tf ll dl lcd dcd lcd2 nx_ cl row cc mll mdl mlc mdc mo sy scd sl : Nat → Int32) (b T Fa L D e : Nat → Nat) (fr to K n la : Nat) (ca co : Nat → Int32) (hF : 100000 ≤ F) (hB : byt B b) (hto : to ≤ 512) (h : tok T Fa fr to K) (hm : mtok ts tf T Fa K) (ht : ∀ i, i < K → tkn i = nI (tk b T Fa fr i)) (H : own b T Fa fr K L D e) (hl : ∀ k, k < 286 → ll k = nI (L k)) (hd : ∀ k, k < 30 → dl k = nI (D k)) (hc : ∀ k, k < 19 → cl k = nI (e k)) (CR : crow (rowl L D) cc row) (M : mown L D e mdl mll mo sy sl) (hla : la ≤ 1) (hn : n + owb b T Fa fr K L D e ≤ 4144) (W : Wr n ca co) : ∃ (ca' dcd' lcd2' lcd' nx' co1 co2 co3 scd' co' mdc' mlc' : Nat → Int32) (n1 : Nat), m_Writer_putCoded F dl (nI 2) ll (nI K) tkn cl (nI (um D 1 30)) (nI (um L 257 286)) row (nI (rowl L D).length) (nI (toldc e)) (nI n) ca dcd lcd2 lcd nx_ (nI la) = some (nI (n + owb b T Fa fr K L D e), ca', dcd', lcd2', lcd', nx') ∧ m_MD_putBit F (nI n) co (nI la) = some (nI (n + 1), co1) ∧ m_MD_putNumber F (nI (n + 1)) co1 (nI 2) (nI 2) = some (nI (n + 3), co2) ∧ m_MD_putRow F (nI (n + 3)) co2 (nI (um D 1 30)) (nI (um L 257 286)) mo (nI (rowl L D).length) sy scd sl (nI (toldc e)) = some (nI n1, co3, scd') ∧ m_MD_putTokens F (nI n1) B co3 mdc mdl mlc mll tf ts (nI K) (nI fr) = some (nI (n + owb b T Fa fr K L D e), co', mdc', mlc') ∧ Wr (n + owb b T Fa fr K L D e) ca' co' := by
  have hb : ∀ j, j < 512 → b j < 256 := fun j hj => (hB j hj).2
  obtain ⟨bL, bD, bE⟩ := own_le h hb hto H
  have bL' : ∀ k, k < 286 → L k ≤ 15 := fun k hk => by have := bL k hk; omega
  have bD' : ∀ k, k < 30 → D k ≤ 15 := fun k hk => by have := bD k hk; omega
  unfold owb at hn
  obtain ⟨ca1, ca2, co1, co2, p1, p2, p3, p4, W1⟩ := j_head F n la 2 ca co hF hla (by omega) W
  obtain ⟨lcd', nx1, e1, g1⟩ := s_give F 286 ll lcd nx_ L hF (by omega) (fun k hk => ⟨hl k hk, bL' k hk⟩)
  obtain ⟨dcd', nx2, e2, g2⟩ := s_give F 30 dl dcd nx1 D hF (by omega) (fun k hk => ⟨hd k hk, bD' k hk⟩)
  obtain ⟨lcd2', nx3, ca3, co3, scd', e3, p5, p6, W2⟩ := j_row F cl row cc lcd2 nx2 sl mo sy scd L D e (n + 3) ca2 co2 hF bL' bD' H.2.2 CR M.2.2.2 hc M.2.2.1 (by omega) W1
  obtain ⟨mlc', e4, g3⟩ := s_number F 288 288 288 mll mlc (fun k => if k < 286 then L k else 0) hF (by omega) (by omega) (by omega) (fun k hk => ⟨M.1 k hk, by
    by_cases c : k < 286
    · simp only [if_pos c]; exact bL' k c
    · simp only [if_neg c]; omega⟩)
  obtain ⟨mdc', e5, g4⟩ := s_number F 32 32 32 mdl mdc (fun k => if k < 30 then D k else 0) hF (by omega) (by omega) (by omega) (fun k hk => ⟨M.2.1 k hk, by
    by_cases c : k < 30
    · simp only [if_pos c]; exact bD' k c
    · simp only [if_neg c]; omega⟩)
  have J := jc_own F ll dl lcd' dcd' mll mdl mlc' mdc' L D bL' bD' hl hd g1 g2 M.1 M.2.1 g3 g4
  obtain ⟨n1, ca4, ca5, co4, co5, q1, q2, q3, q4, W3⟩ := j_toks F 1 B tkn ts tf ll dl lcd' dcd' mll mdl mlc' mdc' b T Fa L D (cde L 286) (cde D 30) fr to K (n + 3 + (14 + 3 * toldc e + rbits (rowl L D) e)) ca3 co3 hF (by omega) hB hto h hm ht J (fun k hk => huff_pos H.1 _ (tsy_lt h hb hto hk).1 (lc_pos b T fr K k hk)) (fun k hk hT => by
    have q := h.1 k hk
    exact huff_pos H.2.1 _ (fs_facts (Fa k) (by omega) (by omega)).1 (fc_pos T Fa K k hk hT)) (huff_pos H.1 256 (by omega) (lc_end b T fr K)) (by omega) W2
  have en : n + 3 + (14 + 3 * toldc e + rbits (rowl L D) e) + (tbits b T Fa fr K L D + xbits T Fa K) = n + owb b T Fa fr K L D e := by unfold owb; omega
  rw [en] at q2 q4 W3
  refine ⟨ca5, dcd', lcd2', lcd', nx3, co1, co2, co3, scd', co5, mdc', mlc', _, ?_, p3, p4, p6, ?_, W3⟩
  · unfold m_Writer_putCoded
    have k1 : (nI 1 = nI 0) = False := eq_false (by decide)
    simp only [z_lit, p1, z_bnd2, p2, if_true, z_bnd1, k1, if_false, e1, e2, e3, p5, z_bnd6, q1, z_bnd3, q2]
  · unfold m_MD_putTokens
    simp (disch := omega) only [z_lit, e4, z_bnd1, e5, q3, z_bnd4, z_chk, z_tn, q4, z_bnd2]
