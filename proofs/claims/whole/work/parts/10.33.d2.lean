/-! all blocks -/
/-- what the model tells of the first t blocks -/
def bok (n : Nat) (R : Nat → Nat → BR) (nx : Nat → Nat) (t : Nat) (bB bF bK bM bS bT : Nat → Int32) : Prop := ∀ s, s < t → bF s = nI (128 * cp nx s) ∧ bS s = nI (min n (128 * cp nx (s + 1)) - 128 * cp nx s) ∧ bK s = nI (R (cp nx s) (cp nx (s + 1))).2.2.2.2.1 ∧ bB s = nI (R (cp nx s) (cp nx (s + 1))).2.2.2.2.2 ∧ bT s = nI (R (cp nx s) (cp nx (s + 1))).2.2.1 ∧ bM s = nI (mtc (R (cp nx s) (cp nx (s + 1))).1 (R (cp nx s) (cp nx (s + 1))).2.2.1)
def rsum (R : Nat → Nat → BR) (nx : Nat → Nat) (t : Nat) : Nat := sm (fun s => (R (cp nx s) (cp nx (s + 1))).2.2.2.1) 0 t
theorem l_defl (F : Nat) (B : Nat → Int32) (b : Nat → Nat) (ef n N M : Nat) (R : Nat → Nat → BR) (bE nx : Nat → Nat) (tokA : Nat → Nat → Int32) (frA toA kdA btA szA mtA rpA beA : Nat → Int32) (tq nc : Nat → Int32) (st : Int32) (hF : 100000 ≤ F) (hB : byt B b) (hn : n ≤ 512) (hef : ef < 10) (hN : N ≤ 4) (hN1 : 1 ≤ N) (hNn : 128 * (N - 1) ≤ n) (hNn2 : n ≤ 128 * N) (hNn3 : n = 0 ∨ 128 * (N - 1) < n) (C : cutS b ef n N 0 R bE nx) (P : kepS b n N 0 R bE nx tokA frA toA kdA btA szA mtA rpA beA) (hM : cend nx N M) (hMN : M ≤ N) (htq : ∀ s, s < M → tq s = nI (cp nx s)) (hnc : ∀ y, y < N → nc y = nI (nx y)) (hst : ∃ s0, st = nI s0) : ∀ (f g t q : Nat) (hsz hmt hkd hbt : Int32) (hdc hdl hlc hll htk jab jod jwt : Nat → Int32) (rsz rli rdi rto : Int32) (rcc rcl rrow dcd lcd2 lcd nx_ : Nat → Int32) (tok_ sp kdv ln br rs lm fm sn : Int32) (bB bF bK bM bS bT ch mdc fq dl mlc lq ll mf ms pr mo sy scd sq sl sf ss tf ts up wt : Nat → Int32) (ca co : Nat → Int32), t ≤ M → M - t < f → M - t < g → q + bE (cp nx t) ≤ 4144 → Wr q ca co → bok n R nx t bB bF bK bM bS bT → ∃ (q' : Nat) (hsz' hmt' hkd' hbt' : Int32) (hdc' hdl' hlc' hll' htk' jab' jod' jwt' : Nat → Int32) (rsz' rli' rdi' rto' : Int32) (rcc' rcl' rrow' dcd' lcd2' lcd' nx_' : Nat → Int32) (tok_' sp' kdv' ln' br' rs' lm' fm' sn' : Int32) (bB' bF' bK' bM' bS' bT' ch' mdc' fq' dl' mlc' lq' ll' mf' ms' pr' mo' sy' scd' sq' sl' sf' ss' tf' ts' up' wt' : Nat → Int32) (ca' co' : Nat → Int32), L_DE_deflate_28 F frA kdA szA toA tokA tq (nI M) B f (nI t) hsz hmt hkd hbt hdc hdl hlc hll htk jab jod jwt rsz rli rdi rto rcc rcl rrow (nI q) ca dcd lcd2 lcd nx_ = some (nI M, hsz', hmt', hkd', hbt', hdc', hdl', hlc', hll', htk', jab', jod', jwt', rsz', rli', rdi', rto', rcc', rcl', rrow', nI q', ca', dcd', lcd2', lcd', nx_') ∧ L_MD_deflate_207 F B (nI ef) nc (nI n) (nI N) g (nI (cp nx t)) (nI q) st (nI (rsum R nx t)) (nI t) tok_ sp kdv ln br rs lm fm sn bB bF bK bM bS bT ch co mdc fq dl mlc lq ll mf ms pr mo sy scd sq sl sf ss tf ts up wt = some (nI N, nI q', st, nI (rsum R nx M), nI M, tok_', sp', kdv', ln', br', rs', lm', fm', sn', bB', bF', bK', bM', bS', bT', ch', co', mdc', fq', dl', mlc', lq', ll', mf', ms', pr', mo', sy', scd', sq', sl', sf', ss', tf', ts', up', wt') ∧ Wr q' ca' co' ∧ q' ≤ 4144 ∧ bok n R nx M bB' bF' bK' bM' bS' bT' := by
  have hb : ∀ j, j < 512 → b j < 256 := fun j hj => (hB j hj).2
  intro f
  induction f with
  | zero => intros; omega
  | succ f ih =>
    intro g t q hsz hmt hkd hbt hdc hdl hlc hll htk jab jod jwt rsz rli rdi rto rcc rcl rrow dcd lcd2 lcd nx_ tok_ sp kdv ln br rs lm fm sn bB bF bK bM bS bT ch mdc fq dl mlc lq ll mf ms pr mo sy scd sq sl sf ss tf ts up wt ca co htM hf hg hq W BK
    obtain ⟨g', rfl⟩ : ∃ g', g = g' + 1 := ⟨g - 1, by omega⟩
    by_cases h : t = M
    · subst h
      have e1 : L_DE_deflate_28 F frA kdA szA toA tokA tq (nI t) B (f + 1) (nI t) hsz hmt hkd hbt hdc hdl hlc hll htk jab jod jwt rsz rli rdi rto rcc rcl rrow (nI q) ca dcd lcd2 lcd nx_ = some (nI t, hsz, hmt, hkd, hbt, hdc, hdl, hlc, hll, htk, jab, jod, jwt, rsz, rli, rdi, rto, rcc, rcl, rrow, nI q, ca, dcd, lcd2, lcd, nx_) := by
        show B_DE_deflate_28 F frA kdA szA toA tokA tq (nI t) B (L_DE_deflate_28 F frA kdA szA toA tokA tq (nI t) B f) (nI t) hsz hmt hkd hbt hdc hdl hlc hll htk jab jod jwt rsz rli rdi rto rcc rcl rrow (nI q) ca dcd lcd2 lcd nx_ = _
        unfold B_DE_deflate_28
        rw [if_pos (by rw [z_le (by omega) (by omega)]; exact Nat.le_refl _)]
      have e2 : L_MD_deflate_207 F B (nI ef) nc (nI n) (nI N) (g' + 1) (nI N) (nI q) st (nI (rsum R nx t)) (nI t) tok_ sp kdv ln br rs lm fm sn bB bF bK bM bS bT ch co mdc fq dl mlc lq ll mf ms pr mo sy scd sq sl sf ss tf ts up wt = some (nI N, nI q, st, nI (rsum R nx t), nI t, tok_, sp, kdv, ln, br, rs, lm, fm, sn, bB, bF, bK, bM, bS, bT, ch, co, mdc, fq, dl, mlc, lq, ll, mf, ms, pr, mo, sy, scd, sq, sl, sf, ss, tf, ts, up, wt) := by
        show B_MD_deflate_207 F B (nI ef) nc (nI n) (nI N) (L_MD_deflate_207 F B (nI ef) nc (nI n) (nI N) g') (nI N) (nI q) st (nI (rsum R nx t)) (nI t) tok_ sp kdv ln br rs lm fm sn bB bF bK bM bS bT ch co mdc fq dl mlc lq ll mf ms pr mo sy scd sq sl sf ss tf ts up wt = _
        unfold B_MD_deflate_207
        rw [if_pos (by rw [z_le (by omega) (by omega)]; exact Nat.le_refl _)]
      rw [hM.1]
      exact ⟨q, hsz, hmt, hkd, hbt, hdc, hdl, hlc, hll, htk, jab, jod, jwt, rsz, rli, rdi, rto, rcc, rcl, rrow, dcd, lcd2, lcd, nx_, tok_, sp, kdv, ln, br, rs, lm, fm, sn, bB, bF, bK, bM, bS, bT, ch, mdc, fq, dl, mlc, lq, ll, mf, ms, pr, mo, sy, scd, sq, sl, sf, ss, tf, ts, up, wt, ca, co, e1, e2, W, by omega, BK⟩
    · have hcN := hM.2 t (by omega)
      have hnx := cutS_nx C hcN
      have ecp : cp nx (t + 1) = nx (cp nx t) := rfl
      have hkp := P (cp nx t) (by omega) hcN
      have hs := C.1 (cp nx t) (nx (cp nx t)) (by omega) hnx.1 hnx.2.1
      have hrs : rsum R nx t ≤ t * 3 := sm_le _ 0 3 t (fun s _ hs => by
        have q1 := hM.2 s (by omega)
        have q2 := cutS_nx C q1
        exact (bspec_facts hb (by omega) (by omega) hef (C.1 (cp nx s) (nx (cp nx s)) (by omega) q2.1 q2.2.1)).2.2.1)
      have hlast : (if min n (128 * nx (cp nx t)) = n then 1 else 0) = (if t + 1 = M then 1 else 0) := by
        by_cases c : t + 1 = M
        · have : nx (cp nx t) = N := by rw [← ecp, c, hM.1]
          rw [if_pos c, if_pos (by rw [this]; omega)]
        · have : nx (cp nx t) < N := by rw [← ecp]; exact hM.2 (t + 1) (by omega)
          rw [if_neg c, if_neg (by omega)]
      obtain ⟨q1, hsz1, hmt1, hkd1, hbt1, hdc1, hdl1, hlc1, hll1, htk1, jab1, jod1, jwt1, rsz1, rli1, rdi1, rto1, rcc1, rcl1, rrow1, dcd1, lcd21, lcd1, nx_1, tok_1, sp1, kdv1, ln1, br1, rs1, lm1, fm1, sn1, bB1, bF1, bK1, bM1, bS1, bT1, ch1, mdc1, fq1, dl1, mlc1, lq1, ll1, mf1, ms1, pr1, mo1, sy1, scd1, sq1, sl1, sf1, ss1, tf1, ts1, up1, wt1, ca1, co1, e1, e2, W1, hq1, I1, I2⟩ := j_block F B b ef n (cp nx t) (nx (cp nx t)) t (128 * cp nx t) (min n (128 * nx (cp nx t))) q (if t + 1 = M then 1 else 0) (rsum R nx t) (R (cp nx t) (nx (cp nx t))) (bE (cp nx t)) tokA frA toA kdA btA szA mtA rpA beA hsz hmt hkd hbt hdc hdl hlc hll htk jab jod jwt rsz rli rdi rto rcc rcl rrow dcd lcd2 lcd nx_ tok_ sp kdv ln br rs lm fm sn bB bF bK bM bS bT ch mdc fq dl mlc lq ll mf ms pr mo sy scd sq sl sf ss tf ts up wt ca co st hF hB hn hef (by omega) (by omega) rfl rfl (by omega) hs hkp hlast.symm hst (by omega) (by omega) W
      have hrs1 : rsum R nx t + (R (cp nx t) (nx (cp nx t))).2.2.2.1 = rsum R nx (t + 1) := by
        unfold rsum; rw [sm, Nat.zero_add]; rfl
      rw [hrs1] at e2
      obtain ⟨q', hsz', hmt', hkd', hbt', hdc', hdl', hlc', hll', htk', jab', jod', jwt', rsz', rli', rdi', rto', rcc', rcl', rrow', dcd', lcd2', lcd', nx_', tok_', sp', kdv', ln', br', rs', lm', fm', sn', bB', bF', bK', bM', bS', bT', ch', mdc', fq', dl', mlc', lq', ll', mf', ms', pr', mo', sy', scd', sq', sl', sf', ss', tf', ts', up', wt', ca', co', a1, a2, W2, a3, a4⟩ := ih g' (t + 1) q1 hsz1 hmt1 hkd1 hbt1 hdc1 hdl1 hlc1 hll1 htk1 jab1 jod1 jwt1 rsz1 rli1 rdi1 rto1 rcc1 rcl1 rrow1 dcd1 lcd21 lcd1 nx_1 tok_1 sp1 kdv1 ln1 br1 rs1 lm1 fm1 sn1 bB1 bF1 bK1 bM1 bS1 bT1 ch1 mdc1 fq1 dl1 mlc1 lq1 ll1 mf1 ms1 pr1 mo1 sy1 scd1 sq1 sl1 sf1 ss1 tf1 ts1 up1 wt1 ca1 co1 (by omega) (by omega) (by omega) (by rw [ecp]; omega) W1 (fun s hs => by
        by_cases e : s = t
        · subst e; exact I1
        · have q2 := I2 s e
          have q3 := BK s (by omega)
          rw [q2.1, q2.2.1, q2.2.2.1, q2.2.2.2.1, q2.2.2.2.2.1, q2.2.2.2.2.2]
          exact q3)
      refine ⟨q', hsz', hmt', hkd', hbt', hdc', hdl', hlc', hll', htk', jab', jod', jwt', rsz', rli', rdi', rto', rcc', rcl', rrow', dcd', lcd2', lcd', nx_', tok_', sp', kdv', ln', br', rs', lm', fm', sn', bB', bF', bK', bM', bS', bT', ch', mdc', fq', dl', mlc', lq', ll', mf', ms', pr', mo', sy', scd', sq', sl', sf', ss', tf', ts', up', wt', ca', co', ?_, ?_, W2, a3, a4⟩
      · show B_DE_deflate_28 F frA kdA szA toA tokA tq (nI M) B (L_DE_deflate_28 F frA kdA szA toA tokA tq (nI M) B f) (nI t) hsz hmt hkd hbt hdc hdl hlc hll htk jab jod jwt rsz rli rdi rto rcc rcl rrow (nI q) ca dcd lcd2 lcd nx_ = _
        unfold B_DE_deflate_28
        have n0 : (nI M ≤ nI t) = False := by rw [z_le (by omega) (by omega)]; exact eq_false (by omega)
        have tb : m_Cutter_takenBlock F tq (nI t) = some (cp nx t) := by
          have := htq t (by omega)
          unfold m_Cutter_takenBlock
          simp (disch := omega) only [nm, z_chk, z_tn, this]
        have d4 : decide (cp nx t < 4) = true := decide_eq_true (by omega)
        have ez : nI t + (1 : Int32) = nI (t + 1) := z_add t 1
        have ela : (if nI t + (1 : Int32) = nI M then some (1 : Int32) else some (0 : Int32)) = some (nI (if t + 1 = M then 1 else 0)) := by
          by_cases c : t + 1 = M
          · rw [if_pos (show nI t + (1 : Int32) = nI M by rw [ez, c]), if_pos c]; rfl
          · have hne : ¬ (nI t + (1 : Int32) = nI M) := by rw [ez, z_eq (by omega) (by omega)]; exact c
            rw [if_neg hne, if_neg c]; rfl
        rw [if_neg (by rw [n0]; exact id), tb, z_bnd1, d4]
        show (bnd1 (if nI t + (1 : Int32) = nI M then some (1 : Int32) else some (0 : Int32)) _) = _
        rw [ela, z_bnd1, e1, z_bnd25]
        simp only [nm, z_one, z_add]
        exact a1
      · show B_MD_deflate_207 F B (nI ef) nc (nI n) (nI N) (L_MD_deflate_207 F B (nI ef) nc (nI n) (nI N) g') (nI (cp nx t)) (nI q) st (nI (rsum R nx t)) (nI t) tok_ sp kdv ln br rs lm fm sn bB bF bK bM bS bT ch co mdc fq dl mlc lq ll mf ms pr mo sy scd sq sl sf ss tf ts up wt = _
        unfold B_MD_deflate_207
        have n0 : (nI N ≤ nI (cp nx t)) = False := by rw [z_le (by omega) (by omega)]; exact eq_false (by omega)
        have m1' := s_mcut F n (cp nx t) hn (by omega)
        have m2' := s_mcut F n (nx (cp nx t)) hn (by omega)
        have ei : min n (128 * cp nx t) = 128 * cp nx t := by omega
        rw [ei] at m1'
        have enc := hnc (cp nx t) hcN
        rw [if_neg (by rw [n0]; exact id), m1', z_bnd1]
        simp only [z_chk (show cp nx t < 2147483648 by omega) (show cp nx t < 6 by omega), z_tn (show cp nx t < 2147483648 by omega), enc, m2', z_bnd1, nm]
        rw [e2, z_bnd41]
        exact a2
