/-! one block, and then all, written by both -/
/-- one block: the class's step and the model's -/
theorem j_block (F : Nat) (B : Nat → Int32) (b : Nat → Nat) (ef n k j t fr to q la rounds : Nat) (x : BR) (be : Nat) (tokA : Nat → Nat → Int32) (frA toA kdA btA szA mtA rpA beA : Nat → Int32) (hsz hmt hkd hbt : Int32) (hdc hdl hlc hll htk jab jod jwt : Nat → Int32) (rsz rli rdi rto : Int32) (rcc rcl rrow dcd lcd2 lcd nx_ : Nat → Int32) (tok_ sp kdv ln br rs lm fm sn : Int32) (bB bF bK bM bS bT ch mdc fq dl mlc lq ll mf ms pr mo sy scd sq sl sf ss tf ts up wt : Nat → Int32) (ca co : Nat → Int32) (st : Int32) (hF : 100000 ≤ F) (hB : byt B b) (hn : n ≤ 512) (hef : ef < 10) (hk : k < 4) (ht : t < 5) (hfr : fr = 128 * k) (hto : to = min n (128 * j)) (hft : fr ≤ to) (hs : bsp b ef fr to x) (hkp : kep b n k j be x tokA frA toA kdA btA szA mtA rpA beA) (hla : la = if to = n then 1 else 0) (hst : ∃ s0, st = nI s0) (hq : q + x.2.2.2.2.2 ≤ 4144) (hr : rounds < 1000) (W : Wr q ca co) : ∃ (q' : Nat) (hsz' hmt' hkd' hbt' : Int32) (hdc' hdl' hlc' hll' htk' jab' jod' jwt' : Nat → Int32) (rsz' rli' rdi' rto' : Int32) (rcc' rcl' rrow' dcd' lcd2' lcd' nx_' : Nat → Int32) (tok_' sp' kdv' ln' br' rs' lm' fm' sn' : Int32) (bB' bF' bK' bM' bS' bT' ch' mdc' fq' dl' mlc' lq' ll' mf' ms' pr' mo' sy' scd' sq' sl' sf' ss' tf' ts' up' wt' : Nat → Int32) (ca' co' : Nat → Int32), (if kdA k = (0 : Int32) then bnd2 (m_Writer_putStored F 512 B (nI q) ca (frA k) (toA k) (nI la)) fun u v => some (hsz, hmt, hkd, hbt, hdc, hdl, hlc, hll, htk, jab, jod, jwt, rsz, rli, rdi, rto, rcc, rcl, rrow, u, v, dcd, lcd2, lcd, nx_) else bnd19 (m_Cutter_planOf F (bln k) (frA k) (szA k) (toA k) (tokA k) hdc hdl hlc hll htk jab jod jwt rcc rcl rrow) fun hsz9 hmt9 hkd9 hbt9 hdc9 hdl9 hlc9 hll9 htk9 jab9 jod9 jwt9 rsz9 rli9 rdi9 rto9 rcc9 rcl9 rrow9 => bnd6 (m_Writer_putCoded F hdl9 hkd9 hll9 hsz9 htk9 rcl9 rdi9 rli9 rrow9 rsz9 rto9 (nI q) ca dcd lcd2 lcd nx_ (nI la)) fun u v w1 w2 w3 w4 => some (hsz9, hmt9, hkd9, hbt9, hdc9, hdl9, hlc9, hll9, htk9, jab9, jod9, jwt9, rsz9, rli9, rdi9, rto9, rcc9, rcl9, rrow9, u, v, w1, w2, w3, w4)) = some (hsz', hmt', hkd', hbt', hdc', hdl', hlc', hll', htk', jab', jod', jwt', rsz', rli', rdi', rto', rcc', rcl', rrow', nI q', ca', dcd', lcd2', lcd', nx_') ∧ m_MD_putBlock F (nI q) bB bF bK bM bS bT (nI t) B ch co (nI ef) mdc fq dl fm mlc lq ll lm mf ms pr (nI rounds) mo rs sy scd sq sl sn (nI n) sp sf ss st tf ts up wt (nI fr) (nI to) = some (nI q', st, nI (rounds + x.2.2.2.1), nI (t + 1), tok_', sp', kdv', ln', br', rs', lm', fm', sn', bB', bF', bK', bM', bS', bT', ch', co', mdc', fq', dl', mlc', lq', ll', mf', ms', pr', mo', sy', scd', sq', sl', sf', ss', tf', ts', up', wt') ∧ Wr q' ca' co' ∧ q' ≤ q + x.2.2.2.2.2 ∧ (bF' t = nI fr ∧ bS' t = nI (to - fr) ∧ bK' t = nI x.2.2.2.2.1 ∧ bB' t = nI x.2.2.2.2.2 ∧ bT' t = nI x.2.2.1 ∧ bM' t = nI (mtc x.1 x.2.2.1)) ∧ (∀ y, y ≠ t → bB' y = bB y ∧ bF' y = bF y ∧ bK' y = bK y ∧ bM' y = bM y ∧ bS' y = bS y ∧ bT' y = bT y) := by
  have hb : ∀ j, j < 512 → b j < 256 := fun j hj => (hB j hj).2
  obtain ⟨T, Fa, K, r, kd, bt⟩ := x
  obtain ⟨k1, k2, k3, k4, k5, k6, k7, k8, k9⟩ := hkp
  simp only at k1 k2 k3 k4 k5 k6 k7 k8 k9 hq
  rw [← hfr] at k1 k9
  rw [← hto] at k2
  have hs' : bspec b ef fr to T Fa K r kd bt := hs
  have hto5 : to ≤ 512 := by omega
  have bf := bspec_facts hb hft hto5 hef hs'
  have hla1 : la ≤ 1 := by rw [hla]; split <;> omega
  obtain ⟨s0, rfl⟩ := hst
  obtain ⟨sp1, rs1, lm1, fm1, sn1, ch1, fq1, dl1, lq1, ll1, mf1, ms1, pr1, mo1, sy1, sq1, sl1, sf1, ss1, tf1, ts1, up1, wt1, e1, g1⟩ := s_makeBlock F B ch b T Fa ef fr to K r kd bt s0 0 fq dl fm lq ll lm mf ms pr mo rs sy sq sl sn sp sf ss tf ts up wt hF hB hft hto5 hef (by omega) hs'
  rw [Nat.zero_mul, Nat.add_zero] at e1
  obtain ⟨bM1, e2, g2, g3⟩ := mtok_151 F t K ts1 tf1 T Fa b ef fr to r kd bt bM hF ht hto5 hb hs' g1
  have ela : (if nI to = nI n then some (nI 1) else some (nI 0)) = some (nI la) := by
    rw [hla]
    by_cases c : to = n
    · rw [if_pos (by rw [c]), if_pos c]
    · rw [if_neg (by rw [z_eq (by omega) (by omega)]; exact c), if_neg c]
  have ek : kdA k = nI kd := k3
  have esub : nI to - nI fr = nI (to - fr) := z_sub hft
  have hKb : K ≤ bln k := by rw [bln_eq k hk]; omega
  have hbl : bln k ≤ 512 := by rw [bln_eq k hk]; omega
  have tc : ∀ {α : Type} (y : Option α), chk (inb (nI t) 5) y = y := fun y => z_chk (by omega) ht
  by_cases c0 : kd = 0
  · -- stored
    have ebt : bt = stb (to - fr) := by
      by_cases h0 : ef = 0
      · rcases hs' with H | H
        · exact H.2.2.2.2
        · exact absurd h0 H.1
      · obtain ⟨h1, ⟨L, D, e, h2⟩, h3⟩ := bspec_own hb hto5 hs' h0
        have h4 := h3 L D e h2
        rw [c0] at h4
        rw [h4.2]
        have h5 := h4.1
        unfold kd2 at h5
        unfold kb2
        split at h5
        · omega
        · split at h5 <;> omega
    obtain ⟨q', ca', co1, co2, co', p1, p2, p3, p4, W1, hq'⟩ := j_stored F fr to q la B ca co hF hft hto5 (by rw [← ebt]; exact hq) hla1 W
    refine ⟨q', hsz, hmt, hkd, hbt, hdc, hdl, hlc, hll, htk, jab, jod, jwt, rsz, rli, rdi, rto, rcc, rcl, rrow, dcd, lcd2, lcd, nx_, nI K, sp1, nI kd, nI bt, nI r, rs1, lm1, fm1, sn1, upd bB t (nI bt), upd bF t (nI fr), upd bK t (nI kd), bM1, upd bS t (nI (to - fr)), upd bT t (nI K), ch1, mdc, fq1, dl1, mlc, lq1, ll1, mf1, ms1, pr1, mo1, sy1, scd, sq1, sl1, sf1, ss1, tf1, ts1, up1, wt1, ca', co', ?_, ?_, W1, by rw [ebt]; exact hq', ⟨z_updE, z_updE, z_updE, z_updE, z_updE, g2⟩, fun y hy => ⟨z_updN hy, z_updN hy, z_updN hy, g3 y hy, z_updN hy, z_updN hy⟩⟩
    · rw [if_pos (show kdA k = (0 : Int32) by rw [ek, c0]; rfl), k1, k2, p1]
      rfl
    · subst c0
      unfold m_MD_putBlock
      simp only [z_lit]
      rw [e1, z_bnd28, ela, z_bnd1, p2, z_bnd2, p3, z_bnd2]
      simp only [if_true]
      rw [p4, z_bnd2, z_bnd19]
      simp only [tc, nm, esub, z_tn (show t < 2147483648 by omega), e2, z_bnd2, z_add]
  · have h0 : ef ≠ 0 := fun h0 => by
      rcases hs' with H | H
      · exact c0 H.2.2.2.1
      · exact H.1 h0
    obtain ⟨htok, _, h3⟩ := bspec_own hb hto5 hs' h0
    obtain ⟨L, D, e, hdc1, hdl1, hlc1, hll1, htk1, jab1, jod1, jwt1, rcc1, rcl1, rrow1, e3, H, w1, w2, w3, ⟨cc0, w4⟩, w5⟩ := s_planOf F (bln k) b T Fa fr to K (tokA k) hdc hdl hlc hll htk jab jod jwt rcc rcl rrow hF hb hft hto5 htok hKb hbl k9
    have h4 := h3 L D e H
    rw [← h4.1, ← h4.2] at e3
    have ne0 : ¬ (kdA k = (0 : Int32)) := by rw [ek, z_lit, z_eq (by omega) (by omega)]; exact c0
    have n0 : (nI kd = nI 0) = False := by rw [z_eq (by omega) (by omega)]; exact eq_false c0
    by_cases c1 : kd = 1
    · have ebt : bt = fxb b T Fa fr K := by
        have h5 := h4.1
        rw [c1] at h5
        rw [h4.2]
        unfold kd2 at h5
        unfold kb2
        split at h5
        · omega
        · split at h5 <;> omega
      obtain ⟨ca', dcd', lcd2', lcd', nx', co1, co2, co', mdl', mll', mdc', mlc', p1, p2, p3, p4, p5, W1⟩ := j_coded1 F B htk1 ts1 tf1 hll1 hdl1 lcd dcd lcd2 nx_ rcl1 rrow1 ll1 dl1 mlc mdc (nI (um D 1 30)) (nI (um L 257 286)) (nI (rowl L D).length) (nI (toldc e)) b T Fa fr to K q la ca co hF hB hto5 htok g1 w5 hla1 (by rw [← ebt]; exact hq) W
      rw [← ebt] at p1 p5 W1
      refine ⟨q + bt, nI K, nI (mtc T K), nI kd, nI bt, hdc1, hdl1, hlc1, hll1, htk1, jab1, jod1, jwt1, nI (rowl L D).length, nI (um L 257 286), nI (um D 1 30), nI (toldc e), rcc1, rcl1, rrow1, dcd', lcd2', lcd', nx', nI K, sp1, nI kd, nI bt, nI r, rs1, lm1, fm1, sn1, upd bB t (nI bt), upd bF t (nI fr), upd bK t (nI kd), bM1, upd bS t (nI (to - fr)), upd bT t (nI K), ch1, mdc', fq1, mdl', mlc', lq1, mll', mf1, ms1, pr1, mo1, sy1, scd, sq1, sl1, sf1, ss1, tf1, ts1, up1, wt1, ca', co', ?_, ?_, W1, Nat.le_refl _, ⟨z_updE, z_updE, z_updE, z_updE, z_updE, g2⟩, fun y hy => ⟨z_updN hy, z_updN hy, z_updN hy, g3 y hy, z_updN hy, z_updN hy⟩⟩
      · rw [if_neg ne0, k1, k2, k5, e3, z_bnd19]
        subst c1
        rw [p1]
        rfl
      · subst c1
        unfold m_MD_putBlock
        simp only [z_lit]
        rw [e1, z_bnd28, ela, z_bnd1, p2, z_bnd2, p3, z_bnd2]
        simp only [n0, if_false, if_true]
        rw [p4, z_bnd2, z_bnd17, p5, z_bnd4, z_bnd19]
        simp only [tc, nm, esub, z_tn (show t < 2147483648 by omega), e2, z_bnd2, z_add]
    · have c2 : kd = 2 := by omega
      have ebt : bt = owb b T Fa fr K L D e := by
        have h5 := h4.1
        rw [c2] at h5
        rw [h4.2]
        unfold kd2 at h5
        unfold kb2
        split at h5
        · omega
        · split at h5 <;> omega
      obtain ⟨fq3, dl3, lq3, ll3, mo3, sy3, sq3, sl3, up3, wt3, e4, M3⟩ := s_mownCodes F B fq1 dl1 lq1 ll1 mo1 sy1 sq1 sl1 tf1 ts1 up1 wt1 b T Fa L D e fr to K hF hB hto5 htok g1 H
      obtain ⟨ca', dcd', lcd2', lcd', nx', co1, co2, co3, scd', co', mdc', mlc', n1, p1, p2, p3, p4, p5, W1⟩ := j_coded2 F B htk1 ts1 tf1 hll1 hdl1 lcd dcd lcd2 nx_ rcl1 rrow1 cc0 ll3 dl3 mlc mdc mo3 sy3 scd sl3 b T Fa L D e fr to K q la ca co hF hB hto5 htok g1 w5 H w1 w2 w3 w4 M3 hla1 (by rw [← ebt]; exact hq) W
      rw [← ebt] at p1 p5 W1
      have n1' : (nI kd = nI 1) = False := by rw [z_eq (by omega) (by omega)]; exact eq_false c1
      refine ⟨q + bt, nI K, nI (mtc T K), nI kd, nI bt, hdc1, hdl1, hlc1, hll1, htk1, jab1, jod1, jwt1, nI (rowl L D).length, nI (um L 257 286), nI (um D 1 30), nI (toldc e), rcc1, rcl1, rrow1, dcd', lcd2', lcd', nx', nI K, sp1, nI kd, nI bt, nI r, nI (rowl L D).length, nI (um L 257 286), nI (um D 1 30), nI (toldc e), upd bB t (nI bt), upd bF t (nI fr), upd bK t (nI kd), bM1, upd bS t (nI (to - fr)), upd bT t (nI K), ch1, mdc', fq3, dl3, mlc', lq3, ll3, mf1, ms1, pr1, mo3, sy3, scd', sq3, sl3, sf1, ss1, tf1, ts1, up3, wt3, ca', co', ?_, ?_, W1, Nat.le_refl _, ⟨z_updE, z_updE, z_updE, z_updE, z_updE, g2⟩, fun y hy => ⟨z_updN hy, z_updN hy, z_updN hy, g3 y hy, z_updN hy, z_updN hy⟩⟩
      · rw [if_neg ne0, k1, k2, k5, e3, z_bnd19]
        subst c2
        rw [p1]
        rfl
      · subst c2
        unfold m_MD_putBlock
        simp only [z_lit]
        rw [e1, z_bnd28, ela, z_bnd1, p2, z_bnd2, p3, z_bnd2]
        simp only [n0, n1', if_false]
        rw [e4, z_bnd14, p4, z_bnd3, z_bnd17, p5, z_bnd4, z_bnd19]
        simp only [tc, nm, esub, z_tn (show t < 2147483648 by omega), e2, z_bnd2, z_add]
