/-! cutting: all rows, and the blocks that are taken -/
def cutS (b : Nat → Nat) (ef n N k : Nat) (R : Nat → Nat → BR) (bE nx : Nat → Nat) : Prop := (∀ i j, k ≤ i → i < j → j ≤ N → bsp b ef (128 * i) (min n (128 * j)) (R i j)) ∧ bE N = 0 ∧ (∀ i, k ≤ i → i < N → sdp (fun j => (R i j).2.2.2.2.2 + bE j) i (N - i - 1) = (bE i, nx i))
def kepS (b : Nat → Nat) (n N k : Nat) (R : Nat → Nat → BR) (bE nx : Nat → Nat) (tokA : Nat → Nat → Int32) (frA toA kdA btA szA mtA rpA beA : Nat → Int32) : Prop := ∀ i, k ≤ i → i < N → kep b n i (nx i) (bE i) (R i (nx i)) tokA frA toA kdA btA szA mtA rpA beA
noncomputable def rowS (b : Nat → Nat) (ef n N i : Nat) : Nat := sm (fun j => bst b ef (128 * i) (min n (128 * j))) (i + 1) (N - i)
theorem bst_le (b : Nat → Nat) (ef fr to : Nat) (hef : ef < 10) (hto : to ≤ 512) : bst b ef fr to ≤ 18432 := by
  unfold bst
  split
  · omega
  · have := sm_le (mst b to (4 * ef)) fr 36 (to - fr) (fun i h1 h2 => by have := (mls_facts b to (4 * ef) i hto (by omega)).2.2.2; omega)
    omega
theorem rowS_le (b : Nat → Nat) (ef n N i : Nat) (hef : ef < 10) (hn : n ≤ 512) (hN : N ≤ 4) : rowS b ef n N i ≤ 73728 := by
  unfold rowS
  have := sm_le (fun j => bst b ef (128 * i) (min n (128 * j))) (i + 1) 18432 (N - i) (fun j _ _ => bst_le b ef _ _ hef (by omega))
  have : (N - i) * 18432 ≤ 4 * 18432 := Nat.mul_le_mul_right _ (by omega)
  omega
theorem cutS_bE {b : Nat → Nat} {ef n N k : Nat} {R : Nat → Nat → BR} {bE nx : Nat → Nat} (hb : ∀ j, j < 512 → b j < 256) (hef : ef < 10) (hn : n ≤ 512) (hN : N ≤ 4) (hNn : 128 * (N - 1) ≤ n) (H : cutS b ef n N k R bE nx) : ∀ d i, N - i = d → k ≤ i → i ≤ N → bE i ≤ 5000 * (N - i) := by
  obtain ⟨h1, h2, h3⟩ := H
  intro d
  induction d with
  | zero => intro i h4 h5 h6
            have : i = N := by omega
            rw [this, h2]; omega
  | succ d ih =>
    intro i h4 h5 h6
    have e := h3 i h5 (by omega)
    have sf := sdp_facts (fun j => (R i j).2.2.2.2.2 + bE j) i (N - i - 1)
    rw [e] at sf
    have q := sf.2.2.2 (i + 1) (by omega) (by omega)
    have q1 := ih (i + 1) (by omega) (by omega) (by omega)
    have q2 := bspec_facts hb (by omega) (by omega) hef (h1 i (i + 1) h5 (by omega) (by omega))
    have q3 := q2.1
    unfold stb at q3
    simp only at q
    omega
theorem l_cut26 (F : Nat) (B bl : Nat → Int32) (b : Nat → Nat) (ef n N : Nat) (hF : 100000 ≤ F) (hB : byt B b) (hn : n ≤ 512) (hef : ef < 10) (hlk : lnk b bl (n - 2)) (hN : N ≤ 4) (hN1 : 1 ≤ N) (hNn : 128 * (N - 1) ≤ n) : ∀ (f k : Nat) (R : Nat → Nat → BR) (bE nx : Nat → Nat) (tokA : Nat → Nat → Int32) (frA toA kdA btA szA mtA rpA beA : Nat → Int32) (hsz hmt hkd hbt : Int32) (hdc hdl hlc hll htk jab jod jwt LT fd pls pod pol poi : Nat → Int32) (rsz rli rdi rto : Int32) (rcc rcl rrow : Nat → Int32) (tsz tmt tkd tbt : Int32) (tdc tdl tlc tll ttk : Nat → Int32), k ≤ N → k < f → cutS b ef n N k R bE nx → kepS b n N k R bE nx tokA frA toA kdA btA szA mtA rpA beA → ∃ (R' : Nat → Nat → BR) (bE' nx' : Nat → Nat) (tokA' : Nat → Nat → Int32) (frA' toA' kdA' btA' szA' mtA' rpA' beA' : Nat → Int32) (hsz' hmt' hkd' hbt' : Int32) (hdc' hdl' hlc' hll' htk' jab' jod' jwt' LT' fd' pls' pod' pol' poi' : Nat → Int32) (rsz' rli' rdi' rto' : Int32) (rcc' rcl' rrow' : Nat → Int32) (tsz' tmt' tkd' tbt' : Int32) (tdc' tdl' tlc' tll' ttk' : Nat → Int32), L_Cutter_cut_26 F B (nI ef) bl (nI n) (nI (N - 1)) f (nI k + m1) tokA frA toA kdA btA szA mtA rpA beA hsz hmt hkd hbt hdc hdl hlc hll htk jab jod jwt LT (nI (sm (rowS b ef n N) k (N - k))) fd pls pod pol poi rsz rli rdi rto rcc rcl rrow tsz tmt tkd tbt tdc tdl tlc tll ttk = some (m1, tokA', frA', toA', kdA', btA', szA', mtA', rpA', beA', hsz', hmt', hkd', hbt', hdc', hdl', hlc', hll', htk', jab', jod', jwt', LT', nI (sm (rowS b ef n N) 0 N), fd', pls', pod', pol', poi', rsz', rli', rdi', rto', rcc', rcl', rrow', tsz', tmt', tkd', tbt', tdc', tdl', tlc', tll', ttk') ∧ cutS b ef n N 0 R' bE' nx' ∧ kepS b n N 0 R' bE' nx' tokA' frA' toA' kdA' btA' szA' mtA' rpA' beA' := by
  have hb : ∀ j, j < 512 → b j < 256 := fun j hj => (hB j hj).2
  intro f
  induction f with
  | zero => intros; omega
  | succ f ih =>
    intro k R bE nx tokA frA toA kdA btA szA mtA rpA beA hsz hmt hkd hbt hdc hdl hlc hll htk jab jod jwt LT fd pls pod pol poi rsz rli rdi rto rcc rcl rrow tsz tmt tkd tbt tdc tdl tlc tll ttk hk hf C P
    by_cases h : k = 0
    · subst h
      refine ⟨R, bE, nx, tokA, frA, toA, kdA, btA, szA, mtA, rpA, beA, hsz, hmt, hkd, hbt, hdc, hdl, hlc, hll, htk, jab, jod, jwt, LT, fd, pls, pod, pol, poi, rsz, rli, rdi, rto, rcc, rcl, rrow, tsz, tmt, tkd, tbt, tdc, tdl, tlc, tll, ttk, ?_, C, P⟩
      rw [Nat.sub_zero]
      show B_Cutter_cut_26 F B (nI ef) bl (nI n) (nI (N - 1)) (L_Cutter_cut_26 F B (nI ef) bl (nI n) (nI (N - 1)) f) (nI 0 + m1) tokA frA toA kdA btA szA mtA rpA beA hsz hmt hkd hbt hdc hdl hlc hll htk jab jod jwt LT _ fd pls pod pol poi rsz rli rdi rto rcc rcl rrow tsz tmt tkd tbt tdc tdl tlc tll ttk = some _
      unfold B_Cutter_cut_26
      rw [if_pos (show nI 0 + m1 < (0 : Int32) by decide)]
      rfl
    · obtain ⟨i, rfl⟩ : ∃ i, k = i + 1 := ⟨k - 1, by omega⟩
      have e0 : nI (i + 1) + m1 = nI i := by rw [z_pred (by omega), Nat.add_sub_cancel]
      have bB := cutS_bE hb hef hn hN hNn C
      have sB := sm_le (rowS b ef n N) (i + 1) 73728 (N - (i + 1)) (fun j _ _ => rowS_le b ef n N j hef hn hN)
      have sB2 : (N - (i + 1)) * 73728 ≤ 4 * 73728 := Nat.mul_le_mul_right _ (by omega)
      obtain ⟨ro, tokA1, frA1, toA1, kdA1, btA1, szA1, mtA1, rpA1, beA1, hsz1, hmt1, hkd1, hbt1, hdc1, hdl1, hlc1, hll1, htk1, jab1, jod1, jwt1, LT1, fd1, pls1, pod1, pol1, poi1, rsz1, rli1, rdi1, rto1, rcc1, rcl1, rrow1, tsz1, tmt1, tkd1, tbt1, tdc1, tdl1, tlc1, tll1, ttk1, e1, g1, g2, g3⟩ := l_cut35 F B bl b bE ef n i N hF hB hn hef hlk hN (by omega) (by omega) C.2.1 (fun j h1 h2 => by have := bB (N - j) j rfl (by omega) h2; omega) (sm (rowS b ef n N) (i + 1) (N - (i + 1))) (by omega) F (i + 1) (R i) tokA frA toA kdA btA szA mtA rpA beA hsz hmt hkd hbt hdc hdl hlc hll htk jab jod jwt LT fd pls pod pol poi rsz rli rdi rto rcc rcl rrow tsz tmt tkd tbt tdc tdl tlc tll ttk (by omega) (by omega) (by omega) (fun x h1 h2 => (P x (by omega) h2).2.2.2.2.2.2.2.1) (fun x h1 h2 => by omega) (fun h1 => by omega)
      have es0 : i + 1 - i - 1 = 0 := by omega
      rw [es0] at e1
      have es1 : sm (fun x => bst b ef (128 * i) (min n (128 * x))) (i + 1) 0 = 0 := rfl
      rw [es1, Nat.add_zero (sm (rowS b ef n N) (i + 1) (N - (i + 1)))] at e1
      have es2 : sm (rowS b ef n N) (i + 1) (N - (i + 1)) + sm (fun x => bst b ef (128 * i) (min n (128 * x))) (i + 1) (N - i) = sm (rowS b ef n N) i (N - i) := by
        have ex : N - i = N - (i + 1) + 1 := by omega
        have ey : sm (rowS b ef n N) i (N - i) = rowS b ef n N i + sm (rowS b ef n N) (i + 1) (N - (i + 1)) := by rw [ex, sm_first]
        have er : rowS b ef n N i = sm (fun x => bst b ef (128 * i) (min n (128 * x))) (i + 1) (N - i) := rfl
        rw [ey, er, Nat.add_comm]
      rw [es2] at e1
      -- the rows from i on
      have hbd : (fun x => (ro x).2.2.2.2.2 + bE x) = (fun x => (ro x).2.2.2.2.2 + bE x) := rfl
      have sf := sdp_facts (fun x => (ro x).2.2.2.2.2 + bE x) i (N - i - 1)
      generalize hsd : sdp (fun x => (ro x).2.2.2.2.2 + bE x) i (N - i - 1) = sd at *
      have C' : cutS b ef n N i (fun x => if x = i then ro else R x) (updN bE i sd.1) (updN nx i sd.2) := by
        refine ⟨fun x y h1 h2 h3 => ?_, by rw [updN_n (by omega)]; exact C.2.1, fun x h1 h2 => ?_⟩
        · by_cases e : x = i
          · subst e; simp only [if_true]; exact g1 y h2 h3
          · simp only [if_neg e]; exact C.1 x y (by omega) h2 h3
        · by_cases e : x = i
          · subst e
            rw [updN_e, updN_e]
            have := sdp_congr (c := fun y => ((fun z => if z = x then ro else R z) x y).2.2.2.2.2 + updN bE x sd.1 y) (c' := fun y => (ro y).2.2.2.2.2 + bE y) (i := x) (N - x - 1) (fun y h3 h4 => by simp only [if_true]; rw [updN_n (by omega)])
            rw [this, hsd]
          · rw [updN_n e, updN_n e, ← C.2.2 x (by omega) h2]
            exact sdp_congr _ (fun y h3 h4 => by simp only [if_neg e]; rw [updN_n (by omega)])
      have P' : kepS b n N i (fun x => if x = i then ro else R x) (updN bE i sd.1) (updN nx i sd.2) tokA1 frA1 toA1 kdA1 btA1 szA1 mtA1 rpA1 beA1 := by
        intro x h1 h2
        by_cases e : x = i
        · subst e
          rw [updN_e, updN_e]
          simp only [if_true]
          exact g2
        · rw [updN_n e, updN_n e]
          simp only [if_neg e]
          have q := g3 x e
          have q2 := P x (by omega) h2
          unfold kep at q2 ⊢
          rw [q.1, q.2.1, q.2.2.1, q.2.2.2.1, q.2.2.2.2.1, q.2.2.2.2.2.1, q.2.2.2.2.2.2.1, q.2.2.2.2.2.2.2.1, q.2.2.2.2.2.2.2.2]
          exact q2
      obtain ⟨R', bE', nx', tokA', frA', toA', kdA', btA', szA', mtA', rpA', beA', hsz', hmt', hkd', hbt', hdc', hdl', hlc', hll', htk', jab', jod', jwt', LT', fd', pls', pod', pol', poi', rsz', rli', rdi', rto', rcc', rcl', rrow', tsz', tmt', tkd', tbt', tdc', tdl', tlc', tll', ttk', a1, a2, a3⟩ := ih i (fun x => if x = i then ro else R x) (updN bE i sd.1) (updN nx i sd.2) tokA1 frA1 toA1 kdA1 btA1 szA1 mtA1 rpA1 beA1 hsz1 hmt1 hkd1 hbt1 hdc1 hdl1 hlc1 hll1 htk1 jab1 jod1 jwt1 LT1 fd1 pls1 pod1 pol1 poi1 rsz1 rli1 rdi1 rto1 rcc1 rcl1 rrow1 tsz1 tmt1 tkd1 tbt1 tdc1 tdl1 tlc1 tll1 ttk1 (by omega) (by omega) C' P'
      refine ⟨R', bE', nx', tokA', frA', toA', kdA', btA', szA', mtA', rpA', beA', hsz', hmt', hkd', hbt', hdc', hdl', hlc', hll', htk', jab', jod', jwt', LT', fd', pls', pod', pol', poi', rsz', rli', rdi', rto', rcc', rcl', rrow', tsz', tmt', tkd', tbt', tdc', tdl', tlc', tll', ttk', ?_, a2, a3⟩
      rw [e0]
      show B_Cutter_cut_26 F B (nI ef) bl (nI n) (nI (N - 1)) (L_Cutter_cut_26 F B (nI ef) bl (nI n) (nI (N - 1)) f) (nI i) tokA frA toA kdA btA szA mtA rpA beA hsz hmt hkd hbt hdc hdl hlc hll htk jab jod jwt LT _ fd pls pod pol poi rsz rli rdi rto rcc rcl rrow tsz tmt tkd tbt tdc tdl tlc tll ttk = some _
      unfold B_Cutter_cut_26
      have n0 : (nI i < nI 0) = False := by rw [z_lt (by omega) (by omega)]; exact eq_false (by omega)
      simp only [z_lit, n0, if_false, nm, z_add, z_mone]
      rw [e1, z_bnd45]
      exact a1
/-- the cuts -/
def cp (nx : Nat → Nat) : Nat → Nat
  | 0 => 0
  | t + 1 => nx (cp nx t)
def cend (nx : Nat → Nat) (N M : Nat) : Prop := cp nx M = N ∧ ∀ t, t < M → cp nx t < N
theorem cutS_nx {b : Nat → Nat} {ef n N : Nat} {R : Nat → Nat → BR} {bE nx : Nat → Nat} (H : cutS b ef n N 0 R bE nx) {i : Nat} (hi : i < N) : i < nx i ∧ nx i ≤ N ∧ bE i = (R i (nx i)).2.2.2.2.2 + bE (nx i) ∧ ∀ j, i < j → j ≤ N → bE i ≤ (R i j).2.2.2.2.2 + bE j := by
  have e := H.2.2 i (by omega) hi
  have sf := sdp_facts (fun j => (R i j).2.2.2.2.2 + bE j) i (N - i - 1)
  rw [e] at sf
  simp only at sf
  exact ⟨sf.1, by omega, sf.2.2.1, fun j h1 h2 => sf.2.2.2 j h1 (by omega)⟩
theorem cend_ex {nx : Nat → Nat} {N : Nat} (h : ∀ i, i < N → i < nx i ∧ nx i ≤ N) : ∃ M, cend nx N M ∧ M ≤ N := by
  have key : ∀ d t, cp nx t + d = N → t ≤ cp nx t → (∀ s, s < t → cp nx s < N) → ∃ M, cend nx N M ∧ M ≤ N := by
    intro d
    induction d using Nat.strongRecOn with
    | ind d ih =>
      intro t h1 h2 h3
      by_cases e : d = 0
      · exact ⟨t, ⟨by omega, h3⟩, by omega⟩
      · have q := h (cp nx t) (by omega)
        refine ih (N - nx (cp nx t)) (by omega) (t + 1) (by rw [cp]; omega) (by rw [cp]; omega) (fun s hs => ?_)
        by_cases e2 : s = t
        · subst e2; omega
        · exact h3 s (by omega)
  exact key N 0 (by rw [cp]; omega) (by omega) (fun s hs => by omega)
theorem cp_mono {nx : Nat → Nat} {N M : Nat} (h : ∀ i, i < N → i < nx i ∧ nx i ≤ N) (hM : cend nx N M) : ∀ d t, t + d ≤ M → cp nx t + d ≤ cp nx (t + d) := by
  intro d
  induction d with
  | zero => intro t _; exact Nat.le_refl _
  | succ d ih =>
    intro t ht
    have q := ih t (by omega)
    have r := h (cp nx (t + d)) (hM.2 (t + d) (by omega))
    show cp nx t + (d + 1) ≤ nx (cp nx (t + d))
    omega
theorem l_tb9 (F : Nat) (toA : Nat → Int32) (nx : Nat → Nat) (n N M : Nat) (hn : n ≤ 512) (hN : N ≤ 4) (hN1 : 1 ≤ N) (hNn : 128 * (N - 1) ≤ n) (hNn2 : n ≤ 128 * N) (hNn3 : n = 0 ∨ 128 * (N - 1) < n) (h : ∀ i, i < N → i < nx i ∧ nx i ≤ N) (hto : ∀ i, i < N → toA i = nI (min n (128 * nx i))) (hM : cend nx N M) (hMN : M ≤ N) : ∀ (f k t : Nat) (tq : Nat → Int32), k ≤ N → N - k < f → t ≤ M → k ≤ cp nx t → (t = 0 ∨ cp nx (t - 1) < k) → (∀ s, s < t → tq s = nI (cp nx s)) → ∃ v tq', L_Cutter_takeBest_9 F toA (nI (N - 1)) f (nI (min n (128 * cp nx t))) (nI k) (nI t) tq = some (v, nI N, nI M, tq') ∧ ∀ s, s < M → tq' s = nI (cp nx s) := by
  intro f
  induction f with
  | zero => intros; omega
  | succ f ih =>
    intro k t tq hk hf ht hkc hp I
    unfold L_Cutter_takeBest_9 B_Cutter_takeBest_9
    have hcN : cp nx t ≤ N := by
      by_cases e : t = M
      · rw [e, hM.1]; exact Nat.le_refl _
      · exact Nat.le_of_lt (hM.2 t (by omega))
    by_cases hkN : N - 1 < k
    · have ek : k = N := by omega
      have et : t = M := by
        by_cases e : t = M
        · exact e
        · have := hM.2 t (by omega); omega
      subst ek
      subst et
      exact ⟨_, tq, by simp (disch := omega) only [nm, z_lit, z_one, z_mone, z_neg1, z_neg2, z_pred, z_add, z_mul, z_sub, z_le, z_lt, z_eq, z_tn, z_chk, z_eqm, z_meq, z_lem, z_mle, z_ltm, z_mlt, z_eqq, z_qeq, z_leq, z_qle, z_ltq, z_qlt, z_m1m2, z_m2m1, z_m1m1, z_m2m2, z_bnd1, z_bnd2, z_bnd3, z_bnd4, z_bnd5, z_bnd6, z_bnd7, z_bnd8, z_bnd9, z_bnd10, z_bnd11, z_bnd12, z_bnd13, z_bnd14, z_bnd15, z_bnd16, z_max, z_min, z_n31, z_shl, z_shr, z_us, z_div, z_mod, z_and, z_or, z_xor, if_true, if_false, hkN]; rfl, I⟩
    · by_cases c : k = cp nx t
      · -- this block is taken
        have htM : t < M := by
          by_cases e : t = M
          · rw [e, hM.1] at c; omega
          · omega
        have em : min n (128 * cp nx t) = k * 128 := by omega
        have hk4 : k < 4 := by omega
        have e1 := hto k (by omega)
        rw [em]
        simp (disch := omega) only [nm, z_lit, z_one, z_mone, z_neg1, z_neg2, z_pred, z_add, z_mul, z_sub, z_le, z_lt, z_eq, z_tn, z_chk, z_eqm, z_meq, z_lem, z_mle, z_ltm, z_mlt, z_eqq, z_qeq, z_leq, z_qle, z_ltq, z_qlt, z_m1m2, z_m2m1, z_m1m1, z_m2m2, z_bnd1, z_bnd2, z_bnd3, z_bnd4, z_bnd5, z_bnd6, z_bnd7, z_bnd8, z_bnd9, z_bnd10, z_bnd11, z_bnd12, z_bnd13, z_bnd14, z_bnd15, z_bnd16, z_max, z_min, z_n31, z_shl, z_shr, z_us, z_div, z_mod, z_and, z_or, z_xor, if_true, if_false, hkN, e1]
        have ec : nx k = cp nx (t + 1) := by rw [c]; rfl
        rw [ec]
        have q := h k (by omega)
        refine ih (k + 1) (t + 1) _ (by omega) (by omega) (by omega) (by rw [← ec]; omega) (Or.inr (by rw [Nat.add_sub_cancel]; omega)) (fun s hs => ?_)
        by_cases e : s = t
        · rw [e, z_updE, c]
        · rw [z_updN e]; exact I s (by omega)
      · have em : ¬ (k * 128 = min n (128 * cp nx t)) := by
          by_cases e : cp nx t = N
          · rw [e]
            rcases hNn3 with q | q
            · have : N = 1 := by omega
              have ht0 : t ≠ 0 := fun q => by rw [q] at e; have : cp nx 0 = 0 := rfl; omega
              have := hp
              omega
            · omega
          · omega
        simp (disch := omega) only [nm, z_lit, z_one, z_mone, z_neg1, z_neg2, z_pred, z_add, z_mul, z_sub, z_le, z_lt, z_eq, z_tn, z_chk, z_eqm, z_meq, z_lem, z_mle, z_ltm, z_mlt, z_eqq, z_qeq, z_leq, z_qle, z_ltq, z_qlt, z_m1m2, z_m2m1, z_m1m1, z_m2m2, z_bnd1, z_bnd2, z_bnd3, z_bnd4, z_bnd5, z_bnd6, z_bnd7, z_bnd8, z_bnd9, z_bnd10, z_bnd11, z_bnd12, z_bnd13, z_bnd14, z_bnd15, z_bnd16, z_max, z_min, z_n31, z_shl, z_shr, z_us, z_div, z_mod, z_and, z_or, z_xor, if_true, if_false, hkN, em]
        exact ih (k + 1) t tq (by omega) (by omega) ht (by omega) (by omega) I
