/-! the model tries all blocks, and finds the least -/
theorem s_mcut (F n k : Nat) (hn : n ≤ 512) (hk : k ≤ 100) : m_MD_cut F (nI n) (nI k) = some (nI (min n (128 * k))) := by
  unfold m_MD_cut
  by_cases h : n ≤ 128 * k
  · have e : min n (128 * k) = n := by omega
    simp (disch := omega) only [nm, z_lit, z_one, z_mone, z_neg1, z_neg2, z_pred, z_add, z_mul, z_sub, z_le, z_lt, z_eq, z_tn, z_chk, z_eqm, z_meq, z_lem, z_mle, z_ltm, z_mlt, z_eqq, z_qeq, z_leq, z_qle, z_ltq, z_qlt, z_m1m2, z_m2m1, z_m1m1, z_m2m2, z_bnd1, z_bnd2, z_bnd3, z_bnd4, z_bnd5, z_bnd6, z_bnd7, z_bnd8, z_bnd9, z_bnd10, z_bnd11, z_bnd12, z_bnd13, z_bnd14, z_bnd15, z_bnd16, z_max, z_min, z_n31, z_shl, z_shr, z_us, z_div, z_mod, z_and, z_or, z_xor, if_true, if_false, h, e]
  · have e : min n (128 * k) = 128 * k := by omega
    simp (disch := omega) only [nm, z_lit, z_one, z_mone, z_neg1, z_neg2, z_pred, z_add, z_mul, z_sub, z_le, z_lt, z_eq, z_tn, z_chk, z_eqm, z_meq, z_lem, z_mle, z_ltm, z_mlt, z_eqq, z_qeq, z_leq, z_qle, z_ltq, z_qlt, z_m1m2, z_m2m1, z_m1m1, z_m2m2, z_bnd1, z_bnd2, z_bnd3, z_bnd4, z_bnd5, z_bnd6, z_bnd7, z_bnd8, z_bnd9, z_bnd10, z_bnd11, z_bnd12, z_bnd13, z_bnd14, z_bnd15, z_bnd16, z_max, z_min, z_n31, z_shl, z_shr, z_us, z_div, z_mod, z_and, z_or, z_xor, if_true, if_false, h, e]
theorem l_md62 (F : Nat) (B : Nat → Int32) (b : Nat → Nat) (ef n i N : Nat) (ro : Nat → BR) (hF : 100000 ≤ F) (hB : byt B b) (hn : n ≤ 512) (hef : ef < 10) (hN : N ≤ 4) (hiN : i < N) (hin : 128 * i ≤ n) (S0 : Nat) (hro : ∀ j, i < j → j ≤ N → bsp b ef (128 * i) (min n (128 * j)) (ro j)) : ∀ (f j : Nat) (tok_ sp kd ln br rs lm fm sn : Int32) (ch fq dl lq ll mf ms pr mo sy sq sl sf ss tf ts tr up wt : Nat → Int32), i < j → j ≤ N + 1 → N + 1 - j < f → (∀ x, i < x → x < j → tr (5 * i + x) = nI (ro x).2.2.2.2.2) → ∃ (tok_' sp' kd' ln' br' rs' lm' fm' sn' : Int32) (ch' fq' dl' lq' ll' mf' ms' pr' mo' sy' sq' sl' sf' ss' tf' ts' tr' up' wt' : Nat → Int32), L_MD_deflate_62 F B (nI ef) (nI n) (nI i) (nI N) f (nI j) (nI (S0 + sm (fun x => bst b ef (128 * i) (min n (128 * x))) (i + 1) (j - i - 1))) tok_ sp kd ln br rs lm fm sn ch fq dl lq ll mf ms pr mo sy sq sl sf ss tf ts tr up wt = some (nI (N + 1), nI (S0 + sm (fun x => bst b ef (128 * i) (min n (128 * x))) (i + 1) (N - i)), tok_', sp', kd', ln', br', rs', lm', fm', sn', ch', fq', dl', lq', ll', mf', ms', pr', mo', sy', sq', sl', sf', ss', tf', ts', tr', up', wt') ∧ (∀ x, i < x → x ≤ N → tr' (5 * i + x) = nI (ro x).2.2.2.2.2) ∧ (∀ y, (∀ x, i < x → x ≤ N → y ≠ 5 * i + x) → tr' y = tr y) := by
  intro f
  induction f with
  | zero => intros; omega
  | succ f ih =>
    intro j tok_ sp kd ln br rs lm fm sn ch fq dl lq ll mf ms pr mo sy sq sl sf ss tf ts tr up wt hij hj hf I
    show ∃ (tok_' sp' kd' ln' br' rs' lm' fm' sn' : Int32) (ch' fq' dl' lq' ll' mf' ms' pr' mo' sy' sq' sl' sf' ss' tf' ts' tr' up' wt' : Nat → Int32), B_MD_deflate_62 F B (nI ef) (nI n) (nI i) (nI N) (L_MD_deflate_62 F B (nI ef) (nI n) (nI i) (nI N) f) (nI j) _ tok_ sp kd ln br rs lm fm sn ch fq dl lq ll mf ms pr mo sy sq sl sf ss tf ts tr up wt = some _ ∧ _
    unfold B_MD_deflate_62
    by_cases h : N < j
    · have e : j = N + 1 := by omega
      subst e
      have e2 : N + 1 - i - 1 = N - i := by omega
      rw [e2]
      refine ⟨tok_, sp, kd, ln, br, rs, lm, fm, sn, ch, fq, dl, lq, ll, mf, ms, pr, mo, sy, sq, sl, sf, ss, tf, ts, tr, up, wt, ?_, fun x h1 h2 => I x h1 (by omega), fun y _ => rfl⟩
      rw [if_pos (by rw [z_lt (by omega) (by omega)]; exact h)]
    · have m1' := s_mcut F n i hn (by omega)
      have m2' := s_mcut F n j hn (by omega)
      have ei : min n (128 * i) = 128 * i := by omega
      rw [ei] at m1'
      have bs := hro j hij (by omega)
      obtain ⟨sp1, rs1, lm1, fm1, sn1, ch1, fq1, dl1, lq1, ll1, mf1, ms1, pr1, mo1, sy1, sq1, sl1, sf1, ss1, tf1, ts1, up1, wt1, e1, g1⟩ := s_makeBlock F B ch b _ _ ef (128 * i) (min n (128 * j)) _ _ _ _ (S0 + sm (fun x => bst b ef (128 * i) (min n (128 * x))) (i + 1) (j - i - 1)) 1 fq dl fm lq ll lm mf ms pr mo rs sy sq sl sn sp sf ss tf ts up wt hF hB (by omega) (by omega) hef (by omega) bs
      have es : S0 + sm (fun x => bst b ef (128 * i) (min n (128 * x))) (i + 1) (j - i - 1) + 1 * bst b ef (128 * i) (min n (128 * j)) = S0 + sm (fun x => bst b ef (128 * i) (min n (128 * x))) (i + 1) (j + 1 - i - 1) := by
        have ex : j + 1 - i - 1 = j - i - 1 + 1 := by omega
        have ey : i + 1 + (j - i - 1) = j := by omega
        rw [ex, sm, ey, Nat.add_assoc, Nat.one_mul]
      rw [es] at e1
      have ez : nI 5 * nI i + nI j = nI (5 * i + j) := by rw [z_mul, z_add]
      obtain ⟨tok_', sp', kd', ln', br', rs', lm', fm', sn', ch', fq', dl', lq', ll', mf', ms', pr', mo', sy', sq', sl', sf', ss', tf', ts', tr', up', wt', a1, a2, a3⟩ := ih (j + 1) (nI (ro j).2.2.1) sp1 (nI (ro j).2.2.2.2.1) (nI (ro j).2.2.2.2.2) (nI (ro j).2.2.2.1) rs1 lm1 fm1 sn1 ch1 fq1 dl1 lq1 ll1 mf1 ms1 pr1 mo1 sy1 sq1 sl1 sf1 ss1 tf1 ts1 (upd tr (5 * i + j) (nI (ro j).2.2.2.2.2)) up1 wt1 (by omega) (by omega) (by omega) (fun x h1 h2 => by
        by_cases e : x = j
        · rw [e, z_updE]
        · rw [z_updN (by omega)]; exact I x h1 (by omega))
      refine ⟨tok_', sp', kd', ln', br', rs', lm', fm', sn', ch', fq', dl', lq', ll', mf', ms', pr', mo', sy', sq', sl', sf', ss', tf', ts', tr', up', wt', ?_, a2, fun y hy => by rw [a3 y hy, z_updN (hy j hij (by omega))]⟩
      have n0 : (nI N < nI j) = False := by rw [z_lt (by omega) (by omega)]; exact eq_false h
      simp only [z_lit, n0, if_false, m1', z_bnd1, m2', e1, z_bnd28, z_mul, z_add, z_chk (show 5 * i + j < 2147483648 by omega) (show 5 * i + j < 30 by omega), nm, z_tn (show 5 * i + j < 2147483648 by omega), z_one]
      exact a1
theorem l_md53 (F : Nat) (B : Nat → Int32) (b : Nat → Nat) (ef n N : Nat) (R : Nat → Nat → BR) (bE nx : Nat → Nat) (hF : 100000 ≤ F) (hB : byt B b) (hn : n ≤ 512) (hef : ef < 10) (hN : N ≤ 4) (hNn : 128 * (N - 1) ≤ n) (C : cutS b ef n N 0 R bE nx) : ∀ (f i : Nat) (tok_ sp kd ln br rs lm fm sn : Int32) (ch fq dl lq ll mf ms pr mo sy sq sl sf ss tf ts tr up wt : Nat → Int32), i ≤ N → N - i < f → (∀ x y, x < i → x < y → y ≤ N → tr (5 * x + y) = nI (R x y).2.2.2.2.2) → ∃ (tok_' sp' kd' ln' br' rs' lm' fm' sn' : Int32) (ch' fq' dl' lq' ll' mf' ms' pr' mo' sy' sq' sl' sf' ss' tf' ts' tr' up' wt' : Nat → Int32), L_MD_deflate_53 F B (nI ef) (nI n) (nI N) f (nI i) (nI (sm (rowS b ef n N) 0 i)) tok_ sp kd ln br rs lm fm sn ch fq dl lq ll mf ms pr mo sy sq sl sf ss tf ts tr up wt = some (nI N, nI (sm (rowS b ef n N) 0 N), tok_', sp', kd', ln', br', rs', lm', fm', sn', ch', fq', dl', lq', ll', mf', ms', pr', mo', sy', sq', sl', sf', ss', tf', ts', tr', up', wt') ∧ (∀ x y, x < N → x < y → y ≤ N → tr' (5 * x + y) = nI (R x y).2.2.2.2.2) := by
  intro f
  induction f with
  | zero => intros; omega
  | succ f ih =>
    intro i tok_ sp kd ln br rs lm fm sn ch fq dl lq ll mf ms pr mo sy sq sl sf ss tf ts tr up wt hi hf I
    show ∃ (tok_' sp' kd' ln' br' rs' lm' fm' sn' : Int32) (ch' fq' dl' lq' ll' mf' ms' pr' mo' sy' sq' sl' sf' ss' tf' ts' tr' up' wt' : Nat → Int32), B_MD_deflate_53 F B (nI ef) (nI n) (nI N) (L_MD_deflate_53 F B (nI ef) (nI n) (nI N) f) (nI i) _ tok_ sp kd ln br rs lm fm sn ch fq dl lq ll mf ms pr mo sy sq sl sf ss tf ts tr up wt = some _ ∧ _
    unfold B_MD_deflate_53
    by_cases h : N ≤ i
    · have e : i = N := by omega
      subst e
      refine ⟨tok_, sp, kd, ln, br, rs, lm, fm, sn, ch, fq, dl, lq, ll, mf, ms, pr, mo, sy, sq, sl, sf, ss, tf, ts, tr, up, wt, ?_, I⟩
      rw [if_pos (by rw [z_le (by omega) (by omega)]; exact h)]
    · obtain ⟨tok_1, sp1, kd1, ln1, br1, rs1, lm1, fm1, sn1, ch1, fq1, dl1, lq1, ll1, mf1, ms1, pr1, mo1, sy1, sq1, sl1, sf1, ss1, tf1, ts1, tr1, up1, wt1, e1, g1, g2⟩ := l_md62 F B b ef n i N (R i) hF hB hn hef hN (by omega) (by omega) (sm (rowS b ef n N) 0 i) (fun y h1 h2 => C.1 i y (by omega) h1 h2) F (i + 1) tok_ sp kd ln br rs lm fm sn ch fq dl lq ll mf ms pr mo sy sq sl sf ss tf ts tr up wt (by omega) (by omega) (by omega) (fun x h1 h2 => by omega)
      have es0 : i + 1 - i - 1 = 0 := by omega
      rw [es0] at e1
      have es1 : sm (fun x => bst b ef (128 * i) (min n (128 * x))) (i + 1) 0 = 0 := rfl
      rw [es1, Nat.add_zero (sm (rowS b ef n N) 0 i)] at e1
      have es2 : sm (rowS b ef n N) 0 i + sm (fun x => bst b ef (128 * i) (min n (128 * x))) (i + 1) (N - i) = sm (rowS b ef n N) 0 (i + 1) := by
        rw [sm, Nat.zero_add]; rfl
      rw [es2] at e1
      obtain ⟨tok_', sp', kd', ln', br', rs', lm', fm', sn', ch', fq', dl', lq', ll', mf', ms', pr', mo', sy', sq', sl', sf', ss', tf', ts', tr', up', wt', a1, a2⟩ := ih (i + 1) tok_1 sp1 kd1 ln1 br1 rs1 lm1 fm1 sn1 ch1 fq1 dl1 lq1 ll1 mf1 ms1 pr1 mo1 sy1 sq1 sl1 sf1 ss1 tf1 ts1 tr1 up1 wt1 (by omega) (by omega) (fun x y h1 h2 h3 => by
        by_cases e : x = i
        · rw [e]; exact g1 y (by omega) h3
        · rw [g2 (5 * x + y) (fun z h4 h5 => by omega)]; exact I x y (by omega) h2 h3)
      refine ⟨tok_', sp', kd', ln', br', rs', lm', fm', sn', ch', fq', dl', lq', ll', mf', ms', pr', mo', sy', sq', sl', sf', ss', tf', ts', tr', up', wt', ?_, a2⟩
      have n0 : (nI N ≤ nI i) = False := by rw [z_le (by omega) (by omega)]; exact eq_false h
      simp only [z_lit, n0, if_false, nm, z_add, z_one]
      rw [e1, z_bnd30]
      exact a1
theorem l_md134 (F : Nat) (tr : Nat → Int32) (c : Nat → Nat) (t bE : Nat → Nat) (i N : Nat) (hN : N ≤ 4) (hi : i < N) (htr : ∀ y, i < y → y ≤ N → tr (5 * i + y) = nI (t y) ∧ t y ≤ 100000) (hbE : ∀ y, i < y → y ≤ N → bE y ≤ 100000) : ∀ (f j : Nat) (le nc : Nat → Int32), i < j → j ≤ N + 1 → N + 1 - j < f → (∀ y, i < y → y ≤ N → le y = nI (bE y)) → (j = i + 1 → le i = m1) → (i + 1 < j → le i = nI (sdp (fun y => t y + bE y) i (j - i - 2)).1 ∧ nc i = nI (sdp (fun y => t y + bE y) i (j - i - 2)).2) → ∃ le' nc', L_MD_deflate_134 F tr (nI i) (nI N) f (nI j) le nc = some (nI (N + 1), le', nc') ∧ le' i = nI (sdp (fun y => t y + bE y) i (N - i - 1)).1 ∧ nc' i = nI (sdp (fun y => t y + bE y) i (N - i - 1)).2 ∧ (∀ y, y ≠ i → le' y = le y ∧ nc' y = nc y) := by
  intro f
  induction f with
  | zero => intros; omega
  | succ f ih =>
    intro j le nc hij hj hf I1 I2 I3
    unfold L_MD_deflate_134 B_MD_deflate_134
    by_cases h : N < j
    · have e : j = N + 1 := by omega
      subst e
      have e2 : N + 1 - i - 2 = N - i - 1 := by omega
      rw [e2] at I3
      have q := I3 (by omega)
      exact ⟨le, nc, by simp (disch := omega) only [nm, z_lit, z_one, z_mone, z_neg1, z_neg2, z_pred, z_add, z_mul, z_sub, z_le, z_lt, z_eq, z_tn, z_chk, z_eqm, z_meq, z_lem, z_mle, z_ltm, z_mlt, z_eqq, z_qeq, z_leq, z_qle, z_ltq, z_qlt, z_m1m2, z_m2m1, z_m1m1, z_m2m2, z_bnd1, z_bnd2, z_bnd3, z_bnd4, z_bnd5, z_bnd6, z_bnd7, z_bnd8, z_bnd9, z_bnd10, z_bnd11, z_bnd12, z_bnd13, z_bnd14, z_bnd15, z_bnd16, z_max, z_min, z_n31, z_shl, z_shr, z_us, z_div, z_mod, z_and, z_or, z_xor, if_true, if_false, h], q.1, q.2, fun y _ => ⟨rfl, rfl⟩⟩
    · obtain ⟨e1, b1⟩ := htr j hij (by omega)
      have e2 := I1 j hij (by omega)
      have b2 := hbE j hij (by omega)
      have eidx : j + 1 - i - 2 = j - i - 1 := by omega
      have up1 : ∀ v w, v = nI (sdp (fun y => t y + bE y) i (j - i - 1)).1 → w = nI (sdp (fun y => t y + bE y) i (j - i - 1)).2 → ∃ le' nc', L_MD_deflate_134 F tr (nI i) (nI N) f (nI (j + 1)) (upd le i v) (upd nc i w) = some (nI (N + 1), le', nc') ∧ le' i = nI (sdp (fun y => t y + bE y) i (N - i - 1)).1 ∧ nc' i = nI (sdp (fun y => t y + bE y) i (N - i - 1)).2 ∧ (∀ y, y ≠ i → le' y = le y ∧ nc' y = nc y) := fun v w hv hw => by
        obtain ⟨le', nc', a1, a2, a3, a4⟩ := ih (j + 1) (upd le i v) (upd nc i w) (by omega) (by omega) (by omega) (fun y h1 h2 => by rw [z_updN (by omega)]; exact I1 y h1 h2) (fun h1 => by omega) (fun _ => by rw [z_updE, z_updE, eidx]; exact ⟨hv, hw⟩)
        exact ⟨le', nc', a1, a2, a3, fun y hy => by have := a4 y hy; rw [z_updN hy, z_updN hy] at this; exact this⟩
      by_cases c1 : j = i + 1
      · have e3 := I2 c1
        have e4 : (m1 < nI 0) = True := eq_true (by decide)
        have e5 : sdp (fun y => t y + bE y) i (j - i - 1) = (t j + bE j, j) := by
          have : j - i - 1 = 0 := by omega
          rw [this, sdp, ← c1]
        simp (disch := omega) only [nm, z_lit, z_one, z_mone, z_neg1, z_neg2, z_add, z_mul, z_sub, z_le, z_lt, z_eq, z_tn, z_chk, z_eqm, z_meq, z_lem, z_mle, z_ltm, z_mlt, z_eqq, z_qeq, z_leq, z_qle, z_ltq, z_qlt, z_m1m2, z_m2m1, z_m1m1, z_m2m2, z_bnd1, z_bnd2, z_bnd3, z_bnd4, z_bnd5, z_bnd6, z_bnd7, z_bnd8, z_bnd9, z_bnd10, z_bnd11, z_bnd12, z_bnd13, z_bnd14, z_bnd15, z_bnd16, z_max, z_min, z_n31, z_shl, z_shr, z_us, z_div, z_mod, z_and, z_or, z_xor, if_true, if_false, h, e1, e2, e3, e4]
        exact up1 _ _ (by rw [e5]) (by rw [e5])
      · obtain ⟨e3, e4⟩ := I3 (by omega)
        have sf := sdp_facts (fun y => t y + bE y) i (j - i - 2)
        have bb : (sdp (fun y => t y + bE y) i (j - i - 2)).1 ≤ 200000 := by
          rw [sf.2.2.1]
          have q1 := htr _ sf.1 (by omega)
          have q2 := hbE _ sf.1 (by omega)
          show t _ + bE _ ≤ _
          omega
        have esd : sdp (fun y => t y + bE y) i (j - i - 1) = if t j + bE j < (sdp (fun y => t y + bE y) i (j - i - 2)).1 then (t j + bE j, j) else sdp (fun y => t y + bE y) i (j - i - 2) := by
          have ex : j - i - 1 = j - i - 2 + 1 := by omega
          have ey : i + 2 + (j - i - 2) = j := by omega
          rw [ex, sdp, ey]
        have n0 : ¬ ((sdp (fun y => t y + bE y) i (j - i - 2)).1 < 0) := by omega
        by_cases c2 : (sdp (fun y => t y + bE y) i (j - i - 2)).1 ≤ t j + bE j
        · rw [if_neg (by omega)] at esd
          simp (disch := omega) only [nm, z_lit, z_one, z_mone, z_neg1, z_neg2, z_add, z_mul, z_sub, z_le, z_lt, z_eq, z_tn, z_chk, z_eqm, z_meq, z_lem, z_mle, z_ltm, z_mlt, z_eqq, z_qeq, z_leq, z_qle, z_ltq, z_qlt, z_m1m2, z_m2m1, z_m1m1, z_m2m2, z_bnd1, z_bnd2, z_bnd3, z_bnd4, z_bnd5, z_bnd6, z_bnd7, z_bnd8, z_bnd9, z_bnd10, z_bnd11, z_bnd12, z_bnd13, z_bnd14, z_bnd15, z_bnd16, z_max, z_min, z_n31, z_shl, z_shr, z_us, z_div, z_mod, z_and, z_or, z_xor, if_true, if_false, h, e1, e2, e3, n0, c2]
          exact ih (j + 1) le nc (by omega) (by omega) (by omega) I1 (fun h1 => by omega) (fun _ => by rw [eidx, esd]; exact ⟨e3, e4⟩)
        · rw [if_pos (by omega)] at esd
          simp (disch := omega) only [nm, z_lit, z_one, z_mone, z_neg1, z_neg2, z_add, z_mul, z_sub, z_le, z_lt, z_eq, z_tn, z_chk, z_eqm, z_meq, z_lem, z_mle, z_ltm, z_mlt, z_eqq, z_qeq, z_leq, z_qle, z_ltq, z_qlt, z_m1m2, z_m2m1, z_m1m1, z_m2m2, z_bnd1, z_bnd2, z_bnd3, z_bnd4, z_bnd5, z_bnd6, z_bnd7, z_bnd8, z_bnd9, z_bnd10, z_bnd11, z_bnd12, z_bnd13, z_bnd14, z_bnd15, z_bnd16, z_max, z_min, z_n31, z_shl, z_shr, z_us, z_div, z_mod, z_and, z_or, z_xor, if_true, if_false, h, e1, e2, e3, n0, c2]
          exact up1 _ _ (by rw [esd]) (by rw [esd])
theorem l_md119 (F : Nat) (tr : Nat → Int32) (b : Nat → Nat) (ef n N : Nat) (R : Nat → Nat → BR) (bE nx : Nat → Nat) (hF : 100000 ≤ F) (hb : ∀ j, j < 512 → b j < 256) (hef : ef < 10) (hn : n ≤ 512) (hN : N ≤ 4) (hNn : 128 * (N - 1) ≤ n) (C : cutS b ef n N 0 R bE nx) (htr : ∀ x y, x < N → x < y → y ≤ N → tr (5 * x + y) = nI (R x y).2.2.2.2.2) : ∀ (f k : Nat) (le nc : Nat → Int32), k ≤ N → k < f → (∀ y, k ≤ y → y ≤ N → le y = nI (bE y)) → (∀ y, k ≤ y → y < N → nc y = nI (nx y)) → ∃ v le' nc', L_MD_deflate_119 F tr (nI N) f (nI k + m1) le nc = some (v, le', nc') ∧ (∀ y, y < N → nc' y = nI (nx y)) := by
  have bB := cutS_bE hb hef hn hN hNn C
  intro f
  induction f with
  | zero => intros; omega
  | succ f ih =>
    intro k le nc hk hf I1 I2
    unfold L_MD_deflate_119 B_MD_deflate_119
    by_cases h : k = 0
    · subst h
      exact ⟨_, le, nc, by rw [if_pos (show nI 0 + m1 < (0 : Int32) by decide)], fun y hy => I2 y (by omega) hy⟩
    · obtain ⟨i, rfl⟩ : ∃ i, k = i + 1 := ⟨k - 1, by omega⟩
      have e0 : nI (i + 1) + m1 = nI i := by rw [z_pred (by omega), Nat.add_sub_cancel]
      have n0 : ¬ (i < 0) := by omega
      obtain ⟨le1, nc1, e1, g1, g2, g3⟩ := l_md134 F tr (fun _ => 0) (fun y => (R i y).2.2.2.2.2) bE i N hN (by omega) (fun y h1 h2 => ⟨htr i y (by omega) h1 h2, by
        have q := (bspec_facts hb (by omega) (by omega) hef (C.1 i y (by omega) h1 h2)).1
        unfold stb at q; omega⟩) (fun y h1 h2 => by have := bB (N - y) y rfl (by omega) h2; omega) F (i + 1) (upd le i m1) nc (by omega) (by omega) (by omega) (fun y h1 h2 => by rw [z_updN (by omega)]; exact I1 y (by omega) h2) (fun _ => z_updE) (fun h1 => by omega)
      have ec := C.2.2 i (by omega) (by omega)
      rw [ec] at g1 g2
      rw [e0]
      simp (disch := omega) only [nm, z_lit, z_one, z_mone, z_neg1, z_neg2, z_add, z_mul, z_sub, z_le, z_lt, z_eq, z_tn, z_chk, z_eqm, z_meq, z_lem, z_mle, z_ltm, z_mlt, z_eqq, z_qeq, z_leq, z_qle, z_ltq, z_qlt, z_m1m2, z_m2m1, z_m1m1, z_m2m2, z_bnd1, z_bnd2, z_bnd3, z_bnd4, z_bnd5, z_bnd6, z_bnd7, z_bnd8, z_bnd9, z_bnd10, z_bnd11, z_bnd12, z_bnd13, z_bnd14, z_bnd15, z_bnd16, z_max, z_min, z_n31, z_shl, z_shr, z_us, z_div, z_mod, z_and, z_or, z_xor, if_true, if_false, n0, e1]
      exact ih i le1 nc1 (by omega) (by omega) (fun y h1 h2 => by
        by_cases e : y = i
        · rw [e]; exact g1
        · rw [(g3 y e).1, z_updN e]; exact I1 y (by omega) h2) (fun y h1 h2 => by
        by_cases e : y = i
        · rw [e]; exact g2
        · rw [(g3 y e).2]; exact I2 y (by omega) h2)
