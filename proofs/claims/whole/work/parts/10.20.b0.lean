/-! rounds: a block as it is tried -/
/-- tokens with the codes of their own -/
abbrev TS : Type := (Nat → Nat) × (Nat → Nat) × Nat × (Nat → Nat) × (Nat → Nat) × (Nat → Nat)
def tsb (b : Nat → Nat) (fr to : Nat) (s : TS) : Nat := kb2 (stb (to - fr)) (fxb b s.1 s.2.1 fr s.2.2.1) (owb b s.1 s.2.1 fr s.2.2.1 s.2.2.2.1 s.2.2.2.2.1 s.2.2.2.2.2)
def tsk (b : Nat → Nat) (fr to : Nat) (s : TS) : Nat := kd2 (stb (to - fr)) (fxb b s.1 s.2.1 fr s.2.2.1) (owb b s.1 s.2.1 fr s.2.2.1 s.2.2.2.1 s.2.2.2.2.1 s.2.2.2.2.2)
def tsok (b : Nat → Nat) (fr to : Nat) (s : TS) : Prop := tok s.1 s.2.1 fr to s.2.2.1 ∧ own b s.1 s.2.1 fr s.2.2.1 s.2.2.2.1 s.2.2.2.2.1 s.2.2.2.2.2
def wTS (lt ds : Nat → Nat) (fr K : Nat) (L D e : Nat → Nat) : TS := (wT lt fr, wF lt ds fr, K, L, D, e)
/-- n rounds that lead from s to s', r of them with other tokens -/
def trace (b ml ds : Nat → Nat) (fr to : Nat) : Nat → TS → TS → Nat → Prop
  | 0, s, s', r => s' = s ∧ r = 0
  | n + 1, s, s', r => ∃ (lp lt : Nat → Nat) (K : Nat) (L D e : Nat → Nat), prs b s.2.2.2.1 s.2.2.2.2.1 ml ds lp lt fr to ∧ (∀ x, fr ≤ x → x ≤ to → lp x ≤ 15 * (to - x)) ∧ wend lt fr to K ∧ own b (wT lt fr) (wF lt ds fr) fr K L D e ∧ ((tsb b fr to (wTS lt ds fr K L D e) < tsb b fr to s ∧ ∃ r', r = r' + 1 ∧ trace b ml ds fr to n (wTS lt ds fr K L D e) s' r') ∨ (tsb b fr to s ≤ tsb b fr to (wTS lt ds fr K L D e) ∧ s' = s ∧ r = 0))
theorem trace_ok {b ml ds : Nat → Nat} {fr to : Nat} (hm : ∀ p, fr ≤ p → p < to → (ml p = 0 ∨ (3 ≤ ml p ∧ ml p ≤ 258 ∧ 1 ≤ ds p)) ∧ ds p < 512 ∧ p + ml p ≤ to) : ∀ n s s' r, trace b ml ds fr to n s s' r → tsok b fr to s → tsok b fr to s' ∧ r ≤ n := by
  intro n
  induction n with
  | zero => intro s s' r h hs; rw [h.1]; exact ⟨hs, by rw [h.2]; omega⟩
  | succ n ih =>
    intro s s' r h hs
    obtain ⟨lp, lt, K, L, D, e, h1, h2, h3, h4, h5⟩ := h
    rcases h5 with ⟨_, r', rfl, h6⟩ | ⟨_, h6, h7⟩
    · have := ih _ s' r' h6 ⟨walk_tok (prs_ltk h1 hm) h3, h4⟩
      exact ⟨this.1, by omega⟩
    · rw [h6, h7]; exact ⟨hs, by omega⟩
theorem tsb_lt {b : Nat → Nat} {fr to : Nat} {s : TS} (hto : to ≤ 512) : tsb b fr to s < 100000 := by
  unfold tsb kb2 stb
  omega
theorem z_ef6 {ef v : Nat} (h1 : ef < 10) (h2 : v < 10) : (nI ef - nI 6 ≤ nI v) = (ef - 6 ≤ v) := by
  have h : ∀ e v : Fin 10, decide (nI e.1 - nI 6 ≤ nI v.1) = decide (e.1 - 6 ≤ v.1) := by decide +kernel
  have := h ⟨ef, h1⟩ ⟨v, h2⟩
  simp only [decide_eq_decide] at this
  exact propext this
/-- what a plan of the class holds -/
def cpl (b : Nat → Nat) (fr : Nat) (s : TS) (dc dl lc_ ll tkn : Nat → Int32) : Prop := plan b s.1 s.2.1 fr s.2.2.1 dc lc_ tkn ∧ (∀ k, k < 286 → ll k = nI (s.2.2.2.1 k)) ∧ (∀ k, k < 30 → dl k = nI (s.2.2.2.2.1 k))
theorem l_try80 (F : Nat) (B fd : Nat → Int32) (b ml ds : Nat → Nat) (ef fr to : Nat) (hF : 100000 ≤ F) (hB : byt B b) (hft : fr ≤ to) (hto : to ≤ 512) (hef : ef < 10) (hfd : fnd fd ml ds fr to) : ∀ (f i r0 : Nat) (s : TS) (hdc hdl hlc hll htk jab jod jwt LT pls pod pol poi : Nat → Int32) (rsz rli rdi rto : Int32) (rcc rcl rrow : Nat → Int32) (tsz tmt tkd tbt : Int32) (tdc tdl tlc tll ttk : Nat → Int32), i + (ef - 6 - i) < 10 → ef - 6 - i < f → r0 ≤ i → tsok b fr to s → cpl b fr s hdc hdl hlc hll htk → ∃ (s' : TS) (r : Nat) (v4 : Int32) (hdc' hdl' hlc' hll' htk' jab' jod' jwt' LT' pls' pod' pol' poi' : Nat → Int32) (rsz' rli' rdi' rto' : Int32) (rcc' rcl' rrow' : Nat → Int32) (tsz' tmt' tkd' tbt' : Int32) (tdc' tdl' tlc' tll' ttk' : Nat → Int32), L_Cutter_tryBlock_80 F B (nI ef) fd (nI fr) (nI to) f (nI r0) (nI i) (nI s.2.2.1) (nI (mtc s.1 s.2.2.1)) (nI (tsk b fr to s)) (nI (tsb b fr to s)) hdc hdl hlc hll htk jab jod jwt LT pls pod pol poi rsz rli rdi rto rcc rcl rrow tsz tmt tkd tbt tdc tdl tlc tll ttk = some (nI (r0 + r), v4, nI s'.2.2.1, nI (mtc s'.1 s'.2.2.1), nI (tsk b fr to s'), nI (tsb b fr to s'), hdc', hdl', hlc', hll', htk', jab', jod', jwt', LT', pls', pod', pol', poi', rsz', rli', rdi', rto', rcc', rcl', rrow', tsz', tmt', tkd', tbt', tdc', tdl', tlc', tll', ttk') ∧ trace b ml ds fr to (ef - 6 - i) s s' r ∧ cpl b fr s' hdc' hdl' hlc' hll' htk' := by
  have hb : ∀ j, j < 512 → b j < 256 := fun j hj => (hB j hj).2
  have hm : ∀ p, fr ≤ p → p < to → (ml p = 0 ∨ (3 ≤ ml p ∧ ml p ≤ 258 ∧ 1 ≤ ds p)) ∧ ds p < 512 ∧ p + ml p ≤ to := fun p h1 h2 => (hfd p h1 h2).2
  intro f
  induction f with
  | zero => intro i r0 s _ _ _ _ _ _ _ _ _ _ _ _ _ _ _ _ _ _ _ _ _ _ _ _ _ _ _ _ _ _ h; omega
  | succ f ih =>
    intro i r0 s hdc hdl hlc hll htk jab jod jwt LT pls pod pol poi rsz rli rdi rto rcc rcl rrow tsz tmt tkd tbt tdc tdl tlc tll ttk hi hf hr0 hs C
    unfold L_Cutter_tryBlock_80 B_Cutter_tryBlock_80
    have e0 := z_ef6 (ef := ef) (v := i) hef (by omega)
    by_cases h : ef - 6 ≤ i
    · have en : ef - 6 - i = 0 := by omega
      rw [en]
      exact ⟨s, 0, nI i, hdc, hdl, hlc, hll, htk, jab, jod, jwt, LT, pls, pod, pol, poi, rsz, rli, rdi, rto, rcc, rcl, rrow, tsz, tmt, tkd, tbt, tdc, tdl, tlc, tll, ttk, by simp only [z_lit, e0, h, if_true]; rfl, ⟨rfl, rfl⟩, C⟩
    · obtain ⟨hs1, hs2⟩ := hs
      obtain ⟨P, cL, cD⟩ := C
      obtain ⟨bL, bD, bE⟩ := own_le hs1 hb hto hs2
      obtain ⟨od1, ol1, oi1, e1, g1, g2, g3⟩ := s_takeFrom F hdl hll pod pol poi s.2.2.2.1 s.2.2.2.2.1 hF (fun k hk => ⟨cL k hk, by have := bL k hk; omega⟩) (fun k hk => ⟨cD k hk, by have := bD k hk; omega⟩)
      obtain ⟨lp, lt, LT1, ls1, e2, p1, p2, p3⟩ := s_choosePrice F B fd LT pls od1 ol1 oi1 b s.2.2.2.1 s.2.2.2.2.1 ml ds fr to hF hB hft hto (fun k hk => by have := bL k hk; omega) (fun k hk => by have := bD k hk; omega) hfd g1 g2 g3
      have hl := prs_ltk p1 hm
      obtain ⟨K, hK⟩ := wend_ex hl hft
      obtain ⟨tdc1, tlc1, ttk1, e3, P1⟩ := s_addTokens F tdc tlc ttk B LT1 fd b lt ds ml fr to K hF hB hto p3 hl hfd hK
      have htok := walk_tok hl hK
      obtain ⟨L, D, e, jab1, jod1, jwt1, rcc1, rcl1, rrow1, tdl1, tll1, e4, H1, w1, w2, w3, w4⟩ := s_weigh F jab jod jwt rcc rcl rrow tdc1 tdl tlc1 tll ttk1 b (wT lt fr) (wF lt ds fr) fr to K (to - fr) hF hb hto (by omega) htok P1
      have B1 : tsb b fr to s < 100000 := tsb_lt hto
      have B2 : tsb b fr to (wTS lt ds fr K L D e) < 100000 := tsb_lt hto
      have e5 : kb2 (stb (to - fr)) (fxb b (wT lt fr) (wF lt ds fr) fr K) (owb b (wT lt fr) (wF lt ds fr) fr K L D e) = tsb b fr to (wTS lt ds fr K L D e) := rfl
      have e6 : kd2 (stb (to - fr)) (fxb b (wT lt fr) (wF lt ds fr) fr K) (owb b (wT lt fr) (wF lt ds fr) fr K L D e) = tsk b fr to (wTS lt ds fr K L D e) := rfl
      rw [e5, e6] at e4
      have en : ef - 6 - i = (ef - 6 - (i + 1)) + 1 := by omega
      have e7 : nI to - nI fr = nI (to - fr) := z_sub hft
      by_cases c : tsb b fr to (wTS lt ds fr K L D e) < tsb b fr to s
      · obtain ⟨s', r, v4, hdc', hdl', hlc', hll', htk', jab', jod', jwt', LT', pls', pod', pol', poi', rsz', rli', rdi', rto', rcc', rcl', rrow', tsz', tmt', tkd', tbt', tdc', tdl', tlc', tll', ttk', g5, g6, g7⟩ := ih (i + 1) (r0 + 1) (wTS lt ds fr K L D e) tdc1 tdl1 tlc1 tll1 ttk1 jab1 jod1 jwt1 LT1 ls1 od1 ol1 oi1 (nI (rowl L D).length) (nI (um L 257 286)) (nI (um D 1 30)) (nI (toldc e)) rcc1 rcl1 rrow1 (nI s.2.2.1) (nI (mtc s.1 s.2.2.1)) (nI (tsk b fr to s)) (nI (tsb b fr to s)) hdc hdl hlc hll htk (by omega) (by omega) (by omega) ⟨htok, H1⟩ ⟨P1, w1, w2⟩
        refine ⟨s', r + 1, v4, hdc', hdl', hlc', hll', htk', jab', jod', jwt', LT', pls', pod', pol', poi', rsz', rli', rdi', rto', rcc', rcl', rrow', tsz', tmt', tkd', tbt', tdc', tdl', tlc', tll', ttk', ?_, ?_, g7⟩
        · simp only [z_lit, e0, h, if_false, e1, z_bnd3, e2, z_bnd2, e3, z_bnd5, e7, e4, z_bnd14, nm, z_one, z_add]
          rw [if_pos (by rw [z_lt (by omega) (by omega)]; exact c)]
          have e8 : r0 + (r + 1) = r0 + 1 + r := by omega
          rw [e8]
          exact g5
        · rw [en]
          exact ⟨lp, lt, K, L, D, e, p1, p2, hK, H1, Or.inl ⟨c, r, rfl, g6⟩⟩
      · refine ⟨s, 0, nI i, hdc, hdl, hlc, hll, htk, jab1, jod1, jwt1, LT1, ls1, od1, ol1, oi1, nI (rowl L D).length, nI (um L 257 286), nI (um D 1 30), nI (toldc e), rcc1, rcl1, rrow1, nI K, nI (mtc (wT lt fr) K), nI (tsk b fr to (wTS lt ds fr K L D e)), nI (tsb b fr to (wTS lt ds fr K L D e)), tdc1, tdl1, tlc1, tll1, ttk1, ?_, ?_, P, cL, cD⟩
        · simp only [z_lit, e0, h, if_false, e1, z_bnd3, e2, z_bnd2, e3, z_bnd5, e7, e4, z_bnd14, nm, z_one, z_add]
          rw [if_neg (by rw [z_lt (by omega) (by omega)]; exact c)]
          rfl
        · rw [en]
          exact ⟨lp, lt, K, L, D, e, p1, p2, hK, H1, Or.inr ⟨by omega, rfl, rfl⟩⟩
/-- a block as it is tried: tokens, kind, bits, rounds -/
def bspec (b : Nat → Nat) (ef fr to : Nat) (T Fa : Nat → Nat) (K r kd bt : Nat) : Prop := (ef = 0 ∧ K = 0 ∧ r = 0 ∧ kd = 0 ∧ bt = stb (to - fr)) ∨ (ef ≠ 0 ∧ ∃ (K0 : Nat) (L0 D0 e0 L D e : Nat → Nat), wend (ltm ef (mls b to (4 * ef)) to) fr to K0 ∧ own b (wT (ltm ef (mls b to (4 * ef)) to) fr) (wF (ltm ef (mls b to (4 * ef)) to) (mds b to (4 * ef)) fr) fr K0 L0 D0 e0 ∧ trace b (mls b to (4 * ef)) (mds b to (4 * ef)) fr to (ef - 6) (wTS (ltm ef (mls b to (4 * ef)) to) (mds b to (4 * ef)) fr K0 L0 D0 e0) (T, Fa, K, L, D, e) r ∧ kd = tsk b fr to (T, Fa, K, L, D, e) ∧ bt = tsb b fr to (T, Fa, K, L, D, e))
/-- steps of a block -/
noncomputable def bst (b : Nat → Nat) (ef fr to : Nat) : Nat := if ef = 0 then 0 else sm (mst b to (4 * ef)) fr (to - fr)
theorem s_tryBlock (F : Nat) (B : Nat → Int32) (b : Nat → Nat) (ef n fr to st : Nat) (hdc hdl hlc hll htk jab jod jwt LT bl fd pls pod pol poi rcc rcl : Nat → Int32) (rdi rli : Int32) (rrow : Nat → Int32) (rsz rto tbt : Int32) (tdc tdl : Nat → Int32) (tkd : Int32) (tlc tll : Nat → Int32) (tmt tsz : Int32) (ttk : Nat → Int32) (hF : 100000 ≤ F) (hB : byt B b) (hft : fr ≤ to) (hto : to ≤ n) (hn : n ≤ 512) (hef : ef < 10) (hlk : lnk b bl (n - 2)) : ∃ (T Fa : Nat → Nat) (K r kd bt : Nat) (hdc' hdl' hlc' hll' htk' jab' jod' jwt' LT' fd' pls' pod' pol' poi' : Nat → Int32) (rsz' rli' rdi' rto' : Int32) (rcc' rcl' rrow' : Nat → Int32) (tsz' tmt' tkd' tbt' : Int32) (tdc' tdl' tlc' tll' ttk' : Nat → Int32), m_Cutter_tryBlock F B (nI ef) hdc hdl hlc hll htk jab jod jwt LT bl fd (nI st) pls pod pol poi rcc rcl rdi rli rrow rsz rto tbt tdc tdl tkd tlc tll tmt tsz ttk (nI fr) (nI to) = some (nI r, nI K, nI (mtc T K), nI kd, nI bt, hdc', hdl', hlc', hll', htk', jab', jod', jwt', LT', nI (st + bst b ef fr to), fd', pls', pod', pol', poi', rsz', rli', rdi', rto', rcc', rcl', rrow', tsz', tmt', tkd', tbt', tdc', tdl', tlc', tll', ttk') ∧ bspec b ef fr to T Fa K r kd bt ∧ (∀ i, i < K → htk' i = nI (tk b T Fa fr i)) := by
  have hb : ∀ j, j < 512 → b j < 256 := fun j hj => (hB j hj).2
  unfold m_Cutter_tryBlock bst
  have e7 : nI to - nI fr = nI (to - fr) := z_sub hft
  by_cases h0 : ef = 0
  · subst h0
    obtain ⟨dc1, lc1, e1, P1⟩ := s_restart F b (fun _ => 0) (fun _ => 0) fr hdc hlc hF
    have e2 : m_Plan_weighStored F (nI (to - fr)) = some (nI 0, nI (42 + 8 * (to - fr))) := by
      unfold m_Plan_weighStored; simp only [z_lit, nm, z_mul, z_add]
    refine ⟨fun _ => 0, fun _ => 0, 0, 0, 0, stb (to - fr), dc1, hdl, lc1, hll, htk, jab, jod, jwt, LT, fd, pls, pod, pol, poi, rsz, rli, rdi, rto, rcc, rcl, rrow, tsz, tmt, tkd, tbt, tdc, tdl, tlc, tll, ttk, ?_, Or.inl ⟨rfl, rfl, rfl, rfl, rfl⟩, fun i hi => by omega⟩
    simp only [z_lit, if_true, e1, z_bnd4, e7, e2, z_bnd2]
    rfl
  · obtain ⟨fd1, e1, g1⟩ := s_find F bl B fd b n fr to (4 * ef) st hF hB hft hto hn (by omega) hlk
    obtain ⟨LT1, e2, g2⟩ := s_choose F fd1 LT (mls b to (4 * ef)) (mds b to (4 * ef)) ef fr to hF hft (by omega) hef g1
    have hl : ltk (ltm ef (mls b to (4 * ef)) to) (mds b to (4 * ef)) fr to := ltm_ok (by omega)
    obtain ⟨K0, hK0⟩ := wend_ex hl hft
    obtain ⟨dc1, lc1, tk1, e3, P1⟩ := s_addTokens F hdc hlc htk B LT1 fd1 b _ (mds b to (4 * ef)) (mls b to (4 * ef)) fr to K0 hF hB (by omega) g2 hl g1 hK0
    have htok := walk_tok hl hK0
    obtain ⟨L, D, e, jab1, jod1, jwt1, rcc1, rcl1, rrow1, dl1, ll1, e4, H1, w1, w2, w3, w4⟩ := s_weigh F jab jod jwt rcc rcl rrow dc1 hdl lc1 hll tk1 b _ _ fr to K0 (to - fr) hF hb (by omega) (by omega) htok P1
    obtain ⟨s', r, v4, hdc', hdl', hlc', hll', htk', jab', jod', jwt', LT', pls', pod', pol', poi', rsz', rli', rdi', rto', rcc', rcl', rrow', tsz', tmt', tkd', tbt', tdc', tdl', tlc', tll', ttk', g5, g6, g7⟩ := l_try80 F B fd1 b (mls b to (4 * ef)) (mds b to (4 * ef)) ef fr to hF hB hft (by omega) hef g1 F 0 0 (wTS (ltm ef (mls b to (4 * ef)) to) (mds b to (4 * ef)) fr K0 L D e) dc1 dl1 lc1 ll1 tk1 jab1 jod1 jwt1 LT1 pls pod pol poi (nI (rowl L D).length) (nI (um L 257 286)) (nI (um D 1 30)) (nI (toldc e)) rcc1 rcl1 rrow1 tsz tmt tkd tbt tdc tdl tlc tll ttk (by omega) (by omega) (by omega) ⟨htok, H1⟩ ⟨P1, w1, w2⟩
    obtain ⟨T, Fa, K, L', D', e'⟩ := s'
    refine ⟨T, Fa, K, r, tsk b fr to (T, Fa, K, L', D', e'), tsb b fr to (T, Fa, K, L', D', e'), hdc', hdl', hlc', hll', htk', jab', jod', jwt', LT', fd1, pls', pod', pol', poi', rsz', rli', rdi', rto', rcc', rcl', rrow', tsz', tmt', tkd', tbt', tdc', tdl', tlc', tll', ttk', ?_, Or.inr ⟨h0, K0, L, D, e, L', D', e', hK0, H1, g6, rfl, rfl⟩, g7.1.2.2⟩
    rw [Nat.zero_add] at g5
    have n0 : (nI ef = nI 0) = False := by rw [z_eq (by omega) (by omega)]; exact eq_false h0
    simp only [z_lit, n0, if_false, z_mul, e1, z_bnd2, e2, z_bnd1, e3, z_bnd5, e7, e4, z_bnd14, if_neg h0]
    have g5' := g5
    simp only [wTS] at g5'
    unfold tsk tsb at g5'
    simp only at g5'
    rw [g5']
    simp only [z_bnd35]
    rfl
