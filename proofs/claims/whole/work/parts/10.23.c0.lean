/-! cutting: the class -/
abbrev BR : Type := (Nat → Nat) × (Nat → Nat) × Nat × Nat × Nat × Nat
def bsp (b : Nat → Nat) (ef fr to : Nat) (x : BR) : Prop := bspec b ef fr to x.1 x.2.1 x.2.2.1 x.2.2.2.1 x.2.2.2.2.1 x.2.2.2.2.2
def sdp (c : Nat → Nat) (i : Nat) : Nat → Nat × Nat
  | 0 => (c (i + 1), i + 1)
  | m + 1 => if c (i + 2 + m) < (sdp c i m).1 then (c (i + 2 + m), i + 2 + m) else sdp c i m
theorem sdp_congr {c c' : Nat → Nat} {i : Nat} : ∀ m, (∀ j, i < j → j ≤ i + 1 + m → c j = c' j) → sdp c i m = sdp c' i m := by
  intro m
  induction m with
  | zero => intro h; rw [sdp, sdp, h (i + 1) (by omega) (by omega)]
  | succ m ih => intro h; rw [sdp, sdp, ih (fun j h1 h2 => h j h1 (by omega)), h (i + 2 + m) (by omega) (by omega)]
theorem sdp_facts (c : Nat → Nat) (i : Nat) : ∀ m, i < (sdp c i m).2 ∧ (sdp c i m).2 ≤ i + 1 + m ∧ (sdp c i m).1 = c (sdp c i m).2 ∧ ∀ j, i < j → j ≤ i + 1 + m → (sdp c i m).1 ≤ c j := by
  intro m
  induction m with
  | zero => exact ⟨by show i < i + 1; omega, Nat.le_refl _, rfl, fun j h1 h2 => by have : j = i + 1 := by omega
                                                                                   rw [this]; exact Nat.le_refl _⟩
  | succ m ih =>
    rw [sdp]
    split
    · refine ⟨by show i < i + 2 + m; omega, by show i + 2 + m ≤ i + 1 + (m + 1); omega, rfl, fun j h1 h2 => ?_⟩
      show c (i + 2 + m) ≤ c j
      by_cases e : j = i + 2 + m
      · rw [e]; exact Nat.le_refl _
      · have := ih.2.2.2 j h1 (by omega); omega
    · refine ⟨ih.1, by omega, ih.2.2.1, fun j h1 h2 => ?_⟩
      by_cases e : j = i + 2 + m
      · rw [e]; omega
      · exact ih.2.2.2 j h1 (by omega)
/-- the block kept at i, which ends at j -/
def kep (b : Nat → Nat) (n i j be : Nat) (x : BR) (tokA : Nat → Nat → Int32) (frA toA kdA btA szA mtA rpA beA : Nat → Int32) : Prop := frA i = nI (128 * i) ∧ toA i = nI (min n (128 * j)) ∧ kdA i = nI x.2.2.2.2.1 ∧ btA i = nI x.2.2.2.2.2 ∧ szA i = nI x.2.2.1 ∧ mtA i = nI (mtc x.1 x.2.2.1) ∧ rpA i = nI x.2.2.2.1 ∧ beA i = nI be ∧ ∀ t, t < x.2.2.1 → tokA i t = nI (tk b x.1 x.2.1 (128 * i) t)
theorem l_kp58 (F N K : Nat) (p : Nat → Int32) (hK : K ≤ N) (hN : N ≤ 512) : ∀ (f i : Nat) (q : Nat → Int32), i ≤ K → K - i < f → (∀ t, t < i → q t = p t) → ∃ q', L_Block_keep_58 F N p (nI K) f (nI i) q = some (nI K, q') ∧ ∀ t, t < K → q' t = p t := by
  intro f
  induction f with
  | zero => intro i q _ h; omega
  | succ f ih =>
    intro i q hi hf I
    unfold L_Block_keep_58 B_Block_keep_58
    by_cases h : K ≤ i
    · have e : i = K := by omega
      subst e
      exact ⟨q, by simp (disch := omega) only [nm, z_lit, z_one, z_mone, z_neg1, z_neg2, z_pred, z_add, z_mul, z_sub, z_le, z_lt, z_eq, z_tn, z_chk, z_eqm, z_meq, z_lem, z_mle, z_ltm, z_mlt, z_eqq, z_qeq, z_leq, z_qle, z_ltq, z_qlt, z_m1m2, z_m2m1, z_m1m1, z_m2m2, z_bnd1, z_bnd2, z_bnd3, z_bnd4, z_bnd5, z_bnd6, z_bnd7, z_bnd8, z_bnd9, z_bnd10, z_bnd11, z_bnd12, z_bnd13, z_bnd14, z_bnd15, z_bnd16, z_max, z_min, z_n31, z_shl, z_shr, z_us, z_div, z_mod, z_and, z_or, z_xor, if_true, if_false, Nat.le_refl], I⟩
    · simp (disch := omega) only [nm, z_lit, z_one, z_mone, z_neg1, z_neg2, z_pred, z_add, z_mul, z_sub, z_le, z_lt, z_eq, z_tn, z_chk, z_eqm, z_meq, z_lem, z_mle, z_ltm, z_mlt, z_eqq, z_qeq, z_leq, z_qle, z_ltq, z_qlt, z_m1m2, z_m2m1, z_m1m1, z_m2m2, z_bnd1, z_bnd2, z_bnd3, z_bnd4, z_bnd5, z_bnd6, z_bnd7, z_bnd8, z_bnd9, z_bnd10, z_bnd11, z_bnd12, z_bnd13, z_bnd14, z_bnd15, z_bnd16, z_max, z_min, z_n31, z_shl, z_shr, z_us, z_div, z_mod, z_and, z_or, z_xor, if_true, if_false, h]
      refine ih (i + 1) _ (by omega) (by omega) (fun t ht => ?_)
      by_cases e : t = i
      · rw [e, z_updE]
      · rw [z_updN e]; exact I t (by omega)
theorem s_keep (F N K : Nat) (bt kd mt_ : Int32) (p q : Nat → Int32) (r be : Int32) (hF : 100000 ≤ F) (hK : K ≤ N) (hN : N ≤ 512) : ∃ q', m_Block_keep F N bt kd mt_ (nI K) p q r be = some (kd, bt, nI K, mt_, r, bt + be, q') ∧ ∀ t, t < K → q' t = p t := by
  obtain ⟨q', e1, g1⟩ := l_kp58 F N K p hK hN F 0 q (by omega) (by omega) (fun t h => by omega)
  refine ⟨q', ?_, g1⟩
  have e2 : min K N = K := by omega
  unfold m_Block_keep
  simp (disch := omega) only [nm, z_lit, z_one, z_mone, z_neg1, z_neg2, z_pred, z_add, z_mul, z_sub, z_le, z_lt, z_eq, z_tn, z_chk, z_eqm, z_meq, z_lem, z_mle, z_ltm, z_mlt, z_eqq, z_qeq, z_leq, z_qle, z_ltq, z_qlt, z_m1m2, z_m2m1, z_m1m1, z_m2m2, z_bnd1, z_bnd2, z_bnd3, z_bnd4, z_bnd5, z_bnd6, z_bnd7, z_bnd8, z_bnd9, z_bnd10, z_bnd11, z_bnd12, z_bnd13, z_bnd14, z_bnd15, z_bnd16, z_max, z_min, z_n31, z_shl, z_shr, z_us, z_div, z_mod, z_and, z_or, z_xor, if_true, if_false, e2, e1]
theorem bln_eq : ∀ k, k < 4 → bln k = 512 - 128 * k := by decide
/-- the row of blocks that begin at k -/
theorem l_cut35 (F : Nat) (B bl : Nat → Int32) (b bE : Nat → Nat) (ef n k N : Nat) (hF : 100000 ≤ F) (hB : byt B b) (hn : n ≤ 512) (hef : ef < 10) (hlk : lnk b bl (n - 2)) (hN : N ≤ 4) (hkN : k < N) (hkn : 128 * k ≤ n) (hbE : bE N = 0) (hbE2 : ∀ j, k < j → j ≤ N → bE j ≤ 100000) (S0 : Nat) (hS0 : S0 ≤ 1000000) : ∀ (f j : Nat) (ro : Nat → BR) (tokA : Nat → Nat → Int32) (frA toA kdA btA szA mtA rpA beA : Nat → Int32) (hsz hmt hkd hbt : Int32) (hdc hdl hlc hll htk jab jod jwt LT fd pls pod pol poi : Nat → Int32) (rsz rli rdi rto : Int32) (rcc rcl rrow : Nat → Int32) (tsz tmt tkd tbt : Int32) (tdc tdl tlc tll ttk : Nat → Int32), k < j → j ≤ N + 1 → N + 1 - j < f → (∀ i, k < i → i < N → beA i = nI (bE i)) → (∀ i, k < i → i < j → bsp b ef (128 * k) (min n (128 * i)) (ro i)) → (k + 1 < j → kep b n k (sdp (fun i => (ro i).2.2.2.2.2 + bE i) k (j - k - 2)).2 (sdp (fun i => (ro i).2.2.2.2.2 + bE i) k (j - k - 2)).1 (ro (sdp (fun i => (ro i).2.2.2.2.2 + bE i) k (j - k - 2)).2) tokA frA toA kdA btA szA mtA rpA beA) → ∃ (ro' : Nat → BR) (tokA' : Nat → Nat → Int32) (frA' toA' kdA' btA' szA' mtA' rpA' beA' : Nat → Int32) (hsz' hmt' hkd' hbt' : Int32) (hdc' hdl' hlc' hll' htk' jab' jod' jwt' LT' fd' pls' pod' pol' poi' : Nat → Int32) (rsz' rli' rdi' rto' : Int32) (rcc' rcl' rrow' : Nat → Int32) (tsz' tmt' tkd' tbt' : Int32) (tdc' tdl' tlc' tll' ttk' : Nat → Int32), L_Cutter_cut_35 F B (nI ef) bl (nI k) (nI n) (nI (N - 1)) f (nI j) tokA frA toA kdA btA szA mtA rpA beA hsz hmt hkd hbt hdc hdl hlc hll htk jab jod jwt LT (nI (S0 + sm (fun i => bst b ef (128 * k) (min n (128 * i))) (k + 1) (j - k - 1))) fd pls pod pol poi rsz rli rdi rto rcc rcl rrow tsz tmt tkd tbt tdc tdl tlc tll ttk = some (nI (N + 1), tokA', frA', toA', kdA', btA', szA', mtA', rpA', beA', hsz', hmt', hkd', hbt', hdc', hdl', hlc', hll', htk', jab', jod', jwt', LT', nI (S0 + sm (fun i => bst b ef (128 * k) (min n (128 * i))) (k + 1) (N - k)), fd', pls', pod', pol', poi', rsz', rli', rdi', rto', rcc', rcl', rrow', tsz', tmt', tkd', tbt', tdc', tdl', tlc', tll', ttk') ∧ (∀ i, k < i → i ≤ N → bsp b ef (128 * k) (min n (128 * i)) (ro' i)) ∧ kep b n k (sdp (fun i => (ro' i).2.2.2.2.2 + bE i) k (N - k - 1)).2 (sdp (fun i => (ro' i).2.2.2.2.2 + bE i) k (N - k - 1)).1 (ro' (sdp (fun i => (ro' i).2.2.2.2.2 + bE i) k (N - k - 1)).2) tokA' frA' toA' kdA' btA' szA' mtA' rpA' beA' ∧ (∀ i, i ≠ k → tokA' i = tokA i ∧ frA' i = frA i ∧ toA' i = toA i ∧ kdA' i = kdA i ∧ btA' i = btA i ∧ szA' i = szA i ∧ mtA' i = mtA i ∧ rpA' i = rpA i ∧ beA' i = beA i) := by
  have hb : ∀ j, j < 512 → b j < 256 := fun j hj => (hB j hj).2
  intro f
  induction f with
  | zero => intros; omega
  | succ f ih =>
    intro j ro tokA frA toA kdA btA szA mtA rpA beA hsz hmt hkd hbt hdc hdl hlc hll htk jab jod jwt LT fd pls pod pol poi rsz rli rdi rto rcc rcl rrow tsz tmt tkd tbt tdc tdl tlc tll ttk hkj hj hf I1 I2 I3
    show ∃ (ro' : Nat → BR) (tokA' : Nat → Nat → Int32) (frA' toA' kdA' btA' szA' mtA' rpA' beA' : Nat → Int32) (hsz' hmt' hkd' hbt' : Int32) (hdc' hdl' hlc' hll' htk' jab' jod' jwt' LT' fd' pls' pod' pol' poi' : Nat → Int32) (rsz' rli' rdi' rto' : Int32) (rcc' rcl' rrow' : Nat → Int32) (tsz' tmt' tkd' tbt' : Int32) (tdc' tdl' tlc' tll' ttk' : Nat → Int32), B_Cutter_cut_35 F B (nI ef) bl (nI k) (nI n) (nI (N - 1)) (L_Cutter_cut_35 F B (nI ef) bl (nI k) (nI n) (nI (N - 1)) f) (nI j) tokA frA toA kdA btA szA mtA rpA beA hsz hmt hkd hbt hdc hdl hlc hll htk jab jod jwt LT _ fd pls pod pol poi rsz rli rdi rto rcc rcl rrow tsz tmt tkd tbt tdc tdl tlc tll ttk = some _ ∧ _
    unfold B_Cutter_cut_35
    have en : N - 1 + 1 = N := by omega
    by_cases h : N < j
    · have e : j = N + 1 := by omega
      subst e
      have e1 : N + 1 - k - 2 = N - k - 1 := by omega
      have e2 : N + 1 - k - 1 = N - k := by omega
      rw [e1] at I3
      rw [e2]
      refine ⟨ro, tokA, frA, toA, kdA, btA, szA, mtA, rpA, beA, hsz, hmt, hkd, hbt, hdc, hdl, hlc, hll, htk, jab, jod, jwt, LT, fd, pls, pod, pol, poi, rsz, rli, rdi, rto, rcc, rcl, rrow, tsz, tmt, tkd, tbt, tdc, tdl, tlc, tll, ttk, ?_, fun i h1 h2 => I2 i h1 (by omega), I3 (by omega), fun i _ => ⟨rfl, rfl, rfl, rfl, rfl, rfl, rfl, rfl, rfl⟩⟩
      have e3 : (nI (N - 1) + nI 1 < nI (N + 1)) = True := by rw [z_add, z_lt (by omega) (by omega)]; exact eq_true (by omega)
      simp only [z_lit, e3, if_true]
    · have e3 : (nI (N - 1 + 1) < nI j) = False := by rw [z_lt (by omega) (by omega)]; exact eq_false (by omega)
      have emn : imin (nI n) (nI j * nI 128) = nI (min n (128 * j)) := by rw [z_mul, z_min (by omega) (by omega), Nat.mul_comm]
      have emk : nI k * nI 128 = nI (128 * k) := by rw [z_mul, Nat.mul_comm]
      obtain ⟨T, Fa, K, r, kd, bt, hdc1, hdl1, hlc1, hll1, htk1, jab1, jod1, jwt1, LT1, fd1, pls1, pod1, pol1, poi1, rsz1, rli1, rdi1, rto1, rcc1, rcl1, rrow1, tsz1, tmt1, tkd1, tbt1, tdc1, tdl1, tlc1, tll1, ttk1, e1, g1, g2⟩ := s_tryBlock F B b ef n (128 * k) (min n (128 * j)) (S0 + sm (fun i => bst b ef (128 * k) (min n (128 * i))) (k + 1) (j - k - 1)) hdc hdl hlc hll htk jab jod jwt LT bl fd pls pod pol poi rcc rcl rdi rli rrow rsz rto tbt tdc tdl tkd tlc tll tmt tsz ttk hF hB (by omega) (by omega) hn hef hlk
      have bf := bspec_facts hb (by omega) (by omega) hef g1
      have es : S0 + sm (fun i => bst b ef (128 * k) (min n (128 * i))) (k + 1) (j - k - 1) + bst b ef (128 * k) (min n (128 * j)) = S0 + sm (fun i => bst b ef (128 * k) (min n (128 * i))) (k + 1) (j + 1 - k - 1) := by
        have ex : j + 1 - k - 1 = j - k - 1 + 1 := by omega
        have ey : k + 1 + (j - k - 1) = j := by omega
        rw [ex, sm, ey, Nat.add_assoc]
      rw [es] at e1
      have ez : (if nI (N - 1) < nI j then some (nI 0) else chk (inb (nI j) 4) (some (beA (nI j).toNatClampNeg))) = some (nI (bE j)) := by
        by_cases c : j = N
        · subst c
          rw [if_pos (by rw [z_lt (by omega) (by omega)]; omega), hbE]
        · rw [if_neg (by rw [z_lt (by omega) (by omega)]; omega)]
          simp (disch := omega) only [z_chk, z_tn, I1 j hkj (by omega)]
      have bE1 := hbE2 j hkj (by omega)
      have bt1 : bt ≤ 42 + 8 * 512 := by have := bf.1; unfold stb at this; omega
      have hK : K ≤ bln k := by rw [bln_eq k (by omega)]; omega
      have hbl : bln k ≤ 512 := by rw [bln_eq k (by omega)]; omega
      obtain ⟨q', k1, k2⟩ := s_keep F (bln k) K (nI bt) (nI kd) (nI (mtc T K)) htk1 (tokA k) (nI r) (nI (bE j)) hF hK hbl
      rw [z_add] at k1
      have sb : m_Block_setBounds F (nI (128 * k)) (nI (min n (128 * j))) = some (nI (128 * k), nI (min n (128 * j))) := rfl
      -- the row with this block
      have hro : ∀ i, i ≠ j → (fun i => if i = j then ((T, Fa, K, r, kd, bt) : BR) else ro i) i = ro i := fun i hi => if_neg hi
      have hroj : (fun i => if i = j then ((T, Fa, K, r, kd, bt) : BR) else ro i) j = (T, Fa, K, r, kd, bt) := if_pos rfl
      have hI2 : ∀ i, k < i → i < j + 1 → bsp b ef (128 * k) (min n (128 * i)) ((fun i => if i = j then ((T, Fa, K, r, kd, bt) : BR) else ro i) i) := fun i h1 h2 => by
        by_cases e : i = j
        · rw [e, hroj]; exact g1
        · rw [hro i e]; exact I2 i h1 (by omega)
      generalize hrr : (fun i => if i = j then ((T, Fa, K, r, kd, bt) : BR) else ro i) = rr at *
      have hcst : ∀ i, k < i → i < j → (rr i).2.2.2.2.2 + bE i = (ro i).2.2.2.2.2 + bE i := fun i h1 h2 => by rw [hro i (by omega)]
      have eidx : j + 1 - k - 2 = j - k - 1 := by omega
      -- the block is kept
      have kp : kep b n k j (bt + bE j) (T, Fa, K, r, kd, bt) (updT tokA k q') (upd frA k (nI (128 * k))) (upd toA k (nI (min n (128 * j)))) (upd kdA k (nI kd)) (upd btA k (nI bt)) (upd szA k (nI K)) (upd mtA k (nI (mtc T K))) (upd rpA k (nI r)) (upd beA k (nI (bt + bE j))) := by
        refine ⟨z_updE, z_updE, z_updE, z_updE, z_updE, z_updE, z_updE, z_updE, fun t ht => ?_⟩
        show (if k = k then q' else tokA k) t = _
        rw [if_pos rfl, k2 t ht]; exact g2 t ht
      have take := ih (j + 1) rr (updT tokA k q') (upd frA k (nI (128 * k))) (upd toA k (nI (min n (128 * j)))) (upd kdA k (nI kd)) (upd btA k (nI bt)) (upd szA k (nI K)) (upd mtA k (nI (mtc T K))) (upd rpA k (nI r)) (upd beA k (nI (bt + bE j))) (nI K) (nI (mtc T K)) (nI kd) (nI bt) hdc1 hdl1 hlc1 hll1 htk1 jab1 jod1 jwt1 LT1 fd1 pls1 pod1 pol1 poi1 rsz1 rli1 rdi1 rto1 rcc1 rcl1 rrow1 tsz1 tmt1 tkd1 tbt1 tdc1 tdl1 tlc1 tll1 ttk1 (by omega) (by omega) (by omega) (fun i h1 h2 => by rw [z_updN (by omega)]; exact I1 i h1 h2) hI2
      have leave := ih (j + 1) rr tokA frA toA kdA btA szA mtA rpA beA (nI K) (nI (mtc T K)) (nI kd) (nI bt) hdc1 hdl1 hlc1 hll1 htk1 jab1 jod1 jwt1 LT1 fd1 pls1 pod1 pol1 poi1 rsz1 rli1 rdi1 rto1 rcc1 rcl1 rrow1 tsz1 tmt1 tkd1 tbt1 tdc1 tdl1 tlc1 tll1 ttk1 (by omega) (by omega) (by omega) I1 hI2
      rw [eidx] at take leave
      have fin : (∃ (ro' : Nat → BR) (tokA' : Nat → Nat → Int32) (frA' toA' kdA' btA' szA' mtA' rpA' beA' : Nat → Int32) (hsz' hmt' hkd' hbt' : Int32) (hdc' hdl' hlc' hll' htk' jab' jod' jwt' LT' fd' pls' pod' pol' poi' : Nat → Int32) (rsz' rli' rdi' rto' : Int32) (rcc' rcl' rrow' : Nat → Int32) (tsz' tmt' tkd' tbt' : Int32) (tdc' tdl' tlc' tll' ttk' : Nat → Int32), L_Cutter_cut_35 F B (nI ef) bl (nI k) (nI n) (nI (N - 1)) f (nI (j + 1)) (updT tokA k q') (upd frA k (nI (128 * k))) (upd toA k (nI (min n (128 * j)))) (upd kdA k (nI kd)) (upd btA k (nI bt)) (upd szA k (nI K)) (upd mtA k (nI (mtc T K))) (upd rpA k (nI r)) (upd beA k (nI (bt + bE j))) (nI K) (nI (mtc T K)) (nI kd) (nI bt) hdc1 hdl1 hlc1 hll1 htk1 jab1 jod1 jwt1 LT1 (nI (S0 + sm (fun i => bst b ef (128 * k) (min n (128 * i))) (k + 1) (j + 1 - k - 1))) fd1 pls1 pod1 pol1 poi1 rsz1 rli1 rdi1 rto1 rcc1 rcl1 rrow1 tsz1 tmt1 tkd1 tbt1 tdc1 tdl1 tlc1 tll1 ttk1 = some (nI (N + 1), tokA', frA', toA', kdA', btA', szA', mtA', rpA', beA', hsz', hmt', hkd', hbt', hdc', hdl', hlc', hll', htk', jab', jod', jwt', LT', nI (S0 + sm (fun i => bst b ef (128 * k) (min n (128 * i))) (k + 1) (N - k)), fd', pls', pod', pol', poi', rsz', rli', rdi', rto', rcc', rcl', rrow', tsz', tmt', tkd', tbt', tdc', tdl', tlc', tll', ttk') ∧ (∀ i, k < i → i ≤ N → bsp b ef (128 * k) (min n (128 * i)) (ro' i)) ∧ kep b n k (sdp (fun i => (ro' i).2.2.2.2.2 + bE i) k (N - k - 1)).2 (sdp (fun i => (ro' i).2.2.2.2.2 + bE i) k (N - k - 1)).1 (ro' (sdp (fun i => (ro' i).2.2.2.2.2 + bE i) k (N - k - 1)).2) tokA' frA' toA' kdA' btA' szA' mtA' rpA' beA' ∧ (∀ i, i ≠ k → tokA' i = updT tokA k q' i ∧ frA' i = upd frA k (nI (128 * k)) i ∧ toA' i = upd toA k (nI (min n (128 * j))) i ∧ kdA' i = upd kdA k (nI kd) i ∧ btA' i = upd btA k (nI bt) i ∧ szA' i = upd szA k (nI K) i ∧ mtA' i = upd mtA k (nI (mtc T K)) i ∧ rpA' i = upd rpA k (nI r) i ∧ beA' i = upd beA k (nI (bt + bE j)) i)) → (∃ (ro' : Nat → BR) (tokA' : Nat → Nat → Int32) (frA' toA' kdA' btA' szA' mtA' rpA' beA' : Nat → Int32) (hsz' hmt' hkd' hbt' : Int32) (hdc' hdl' hlc' hll' htk' jab' jod' jwt' LT' fd' pls' pod' pol' poi' : Nat → Int32) (rsz' rli' rdi' rto' : Int32) (rcc' rcl' rrow' : Nat → Int32) (tsz' tmt' tkd' tbt' : Int32) (tdc' tdl' tlc' tll' ttk' : Nat → Int32), L_Cutter_cut_35 F B (nI ef) bl (nI k) (nI n) (nI (N - 1)) f (nI (j + 1)) (updT tokA k q') (upd frA k (nI (128 * k))) (upd toA k (nI (min n (128 * j)))) (upd kdA k (nI kd)) (upd btA k (nI bt)) (upd szA k (nI K)) (upd mtA k (nI (mtc T K))) (upd rpA k (nI r)) (upd beA k (nI (bt + bE j))) (nI K) (nI (mtc T K)) (nI kd) (nI bt) hdc1 hdl1 hlc1 hll1 htk1 jab1 jod1 jwt1 LT1 (nI (S0 + sm (fun i => bst b ef (128 * k) (min n (128 * i))) (k + 1) (j + 1 - k - 1))) fd1 pls1 pod1 pol1 poi1 rsz1 rli1 rdi1 rto1 rcc1 rcl1 rrow1 tsz1 tmt1 tkd1 tbt1 tdc1 tdl1 tlc1 tll1 ttk1 = some (nI (N + 1), tokA', frA', toA', kdA', btA', szA', mtA', rpA', beA', hsz', hmt', hkd', hbt', hdc', hdl', hlc', hll', htk', jab', jod', jwt', LT', nI (S0 + sm (fun i => bst b ef (128 * k) (min n (128 * i))) (k + 1) (N - k)), fd', pls', pod', pol', poi', rsz', rli', rdi', rto', rcc', rcl', rrow', tsz', tmt', tkd', tbt', tdc', tdl', tlc', tll', ttk') ∧ (∀ i, k < i → i ≤ N → bsp b ef (128 * k) (min n (128 * i)) (ro' i)) ∧ kep b n k (sdp (fun i => (ro' i).2.2.2.2.2 + bE i) k (N - k - 1)).2 (sdp (fun i => (ro' i).2.2.2.2.2 + bE i) k (N - k - 1)).1 (ro' (sdp (fun i => (ro' i).2.2.2.2.2 + bE i) k (N - k - 1)).2) tokA' frA' toA' kdA' btA' szA' mtA' rpA' beA' ∧ (∀ i, i ≠ k → tokA' i = tokA i ∧ frA' i = frA i ∧ toA' i = toA i ∧ kdA' i = kdA i ∧ btA' i = btA i ∧ szA' i = szA i ∧ mtA' i = mtA i ∧ rpA' i = rpA i ∧ beA' i = beA i)) := by
        rintro ⟨ro', tokA', frA', toA', kdA', btA', szA', mtA', rpA', beA', hsz', hmt', hkd', hbt', hdc', hdl', hlc', hll', htk', jab', jod', jwt', LT', fd', pls', pod', pol', poi', rsz', rli', rdi', rto', rcc', rcl', rrow', tsz', tmt', tkd', tbt', tdc', tdl', tlc', tll', ttk', a1, a2, a3, a4⟩
        refine ⟨ro', tokA', frA', toA', kdA', btA', szA', mtA', rpA', beA', hsz', hmt', hkd', hbt', hdc', hdl', hlc', hll', htk', jab', jod', jwt', LT', fd', pls', pod', pol', poi', rsz', rli', rdi', rto', rcc', rcl', rrow', tsz', tmt', tkd', tbt', tdc', tdl', tlc', tll', ttk', a1, a2, a3, fun i hi => ?_⟩
        have q := a4 i hi
        rw [z_updN hi, z_updN hi, z_updN hi, z_updN hi, z_updN hi, z_updN hi, z_updN hi, z_updN hi] at q
        have e9 : updT tokA k q' i = tokA i := if_neg hi
        rw [e9] at q
        exact q
      by_cases c1 : j = k + 1
      · have e6 : (nI j = nI (k + 1)) = True := by rw [c1]; exact eq_true rfl
        have e7 : sdp (fun i => (rr i).2.2.2.2.2 + bE i) k (j - k - 1) = (bt + bE j, j) := by
          have : j - k - 1 = 0 := by omega
          rw [this, sdp, ← c1, hroj]
        rw [e7, hroj] at take
        have res := fin (take (fun _ => kp))
        obtain ⟨ro', tokA', frA', toA', kdA', btA', szA', mtA', rpA', beA', hsz', hmt', hkd', hbt', hdc', hdl', hlc', hll', htk', jab', jod', jwt', LT', fd', pls', pod', pol', poi', rsz', rli', rdi', rto', rcc', rcl', rrow', tsz', tmt', tkd', tbt', tdc', tdl', tlc', tll', ttk', a1, a2⟩ := res
        refine ⟨ro', tokA', frA', toA', kdA', btA', szA', mtA', rpA', beA', hsz', hmt', hkd', hbt', hdc', hdl', hlc', hll', htk', jab', jod', jwt', LT', fd', pls', pod', pol', poi', rsz', rli', rdi', rto', rcc', rcl', rrow', tsz', tmt', tkd', tbt', tdc', tdl', tlc', tll', ttk', ?_, a2⟩
        simp only [z_lit, e3, if_false, nm, emn, emk, e1, z_bnd36, ez, z_bnd1, e6, if_true, z_chk (show k < 2147483648 by omega) (show k < 4 by omega), z_tn (show k < 2147483648 by omega), sb, z_bnd2, k1, z_bnd7, z_bnd9, z_one, z_add]
        exact a1
      · have e6 : (nI j = nI (k + 1)) = False := by rw [z_eq (by omega) (by omega)]; exact eq_false c1
        have kp3 := I3 (by omega)
        have esd : sdp (fun i => (rr i).2.2.2.2.2 + bE i) k (j - k - 1) = if bt + bE j < (sdp (fun i => (ro i).2.2.2.2.2 + bE i) k (j - k - 2)).1 then (bt + bE j, j) else sdp (fun i => (ro i).2.2.2.2.2 + bE i) k (j - k - 2) := by
          have ex : j - k - 1 = j - k - 2 + 1 := by omega
          have ey : k + 2 + (j - k - 2) = j := by omega
          rw [ex, sdp, ey, sdp_congr (c := fun i => (rr i).2.2.2.2.2 + bE i) (c' := fun i => (ro i).2.2.2.2.2 + bE i) (j - k - 2) (fun i h1 h2 => hcst i h1 (by omega))]
          have : (rr j).2.2.2.2.2 = bt := by rw [hroj]
          rw [this]
        have sf := sdp_facts (fun i => (ro i).2.2.2.2.2 + bE i) k (j - k - 2)
        have bb : (sdp (fun i => (ro i).2.2.2.2.2 + bE i) k (j - k - 2)).1 ≤ 200000 := by
          rw [sf.2.2.1]
          have q1 := I2 (sdp (fun i => (ro i).2.2.2.2.2 + bE i) k (j - k - 2)).2 sf.1 (by omega)
          have q2 := bspec_facts hb (by omega) (by omega) hef q1
          have q3 := hbE2 (sdp (fun i => (ro i).2.2.2.2.2 + bE i) k (j - k - 2)).2 sf.1 (by omega)
          have q4 := q2.1
          unfold stb at q4
          omega
        have ebe := kp3.2.2.2.2.2.2.2.1
        by_cases c2 : (sdp (fun i => (ro i).2.2.2.2.2 + bE i) k (j - k - 2)).1 ≤ bt + bE j
        · rw [if_neg (by omega)] at esd
          rw [esd, hro _ (by omega)] at leave
          have res := leave (fun _ => kp3)
          have e8 : (beA k ≤ nI (bt + bE j)) = True := by rw [ebe, z_le (by omega) (by omega)]; exact eq_true c2
          obtain ⟨ro', tokA', frA', toA', kdA', btA', szA', mtA', rpA', beA', hsz', hmt', hkd', hbt', hdc', hdl', hlc', hll', htk', jab', jod', jwt', LT', fd', pls', pod', pol', poi', rsz', rli', rdi', rto', rcc', rcl', rrow', tsz', tmt', tkd', tbt', tdc', tdl', tlc', tll', ttk', a1, a2⟩ := res
          refine ⟨ro', tokA', frA', toA', kdA', btA', szA', mtA', rpA', beA', hsz', hmt', hkd', hbt', hdc', hdl', hlc', hll', htk', jab', jod', jwt', LT', fd', pls', pod', pol', poi', rsz', rli', rdi', rto', rcc', rcl', rrow', tsz', tmt', tkd', tbt', tdc', tdl', tlc', tll', ttk', ?_, a2⟩
          simp only [z_lit, e3, if_false, nm, emn, emk, e1, z_bnd36, ez, z_bnd1, e6, z_chk (show k < 2147483648 by omega) (show k < 4 by omega), z_tn (show k < 2147483648 by omega), z_add, e8, if_true, z_bnd9, z_one]
          exact a1
        · rw [if_pos (by omega)] at esd
          rw [esd, hroj] at take
          have res := fin (take (fun _ => kp))
          have e8 : (beA k ≤ nI (bt + bE j)) = False := by rw [ebe, z_le (by omega) (by omega)]; exact eq_false c2
          obtain ⟨ro', tokA', frA', toA', kdA', btA', szA', mtA', rpA', beA', hsz', hmt', hkd', hbt', hdc', hdl', hlc', hll', htk', jab', jod', jwt', LT', fd', pls', pod', pol', poi', rsz', rli', rdi', rto', rcc', rcl', rrow', tsz', tmt', tkd', tbt', tdc', tdl', tlc', tll', ttk', a1, a2⟩ := res
          refine ⟨ro', tokA', frA', toA', kdA', btA', szA', mtA', rpA', beA', hsz', hmt', hkd', hbt', hdc', hdl', hlc', hll', htk', jab', jod', jwt', LT', fd', pls', pod', pol', poi', rsz', rli', rdi', rto', rcc', rcl', rrow', tsz', tmt', tkd', tbt', tdc', tdl', tlc', tll', ttk', ?_, a2⟩
          simp only [z_lit, e3, if_false, nm, emn, emk, e1, z_bnd36, ez, z_bnd1, e6, z_chk (show k < 2147483648 by omega) (show k < 4 by omega), z_tn (show k < 2147483648 by omega), z_add, e8, sb, z_bnd2, k1, z_bnd7, z_bnd9, z_one]
          exact a1
