/-! tokens and their counts -/
def tsy (b T : Nat → Nat) (fr k : Nat) : Nat := if T k = 1 then b (fr + sm T 0 k) else ls (T k)
def lc (b T : Nat → Nat) (fr : Nat) : Nat → Nat → Nat
  | 0, s => if s = 256 then 1 else 0
  | k + 1, s => lc b T fr k s + (if s = tsy b T fr k then 1 else 0)
def fc (T Fa : Nat → Nat) : Nat → Nat → Nat
  | 0, _ => 0
  | k + 1, s => fc T Fa k s + (if T k = 1 then 0 else if s = fs (Fa k) then 1 else 0)
def mtc (T : Nat → Nat) : Nat → Nat
  | 0 => 0
  | k + 1 => mtc T k + (if T k = 1 then 0 else 1)
/-- a token as the class keeps it -/
def tk (b T Fa : Nat → Nat) (fr k : Nat) : Nat := if T k = 1 then b (fr + sm T 0 k) else T k * 65536 + Fa k
/-- K tokens that tell the bytes from fr to to -/
def tok (T Fa : Nat → Nat) (fr to K : Nat) : Prop := (∀ k, k < K → (T k = 1 ∧ Fa k = 0) ∨ (3 ≤ T k ∧ T k ≤ 258 ∧ 1 ≤ Fa k ∧ Fa k < 512)) ∧ fr + sm T 0 K = to
def byt (B : Nat → Int32) (b : Nat → Nat) : Prop := ∀ j, j < 512 → B j = nI (b j) ∧ b j < 256
theorem tok_pos {T Fa : Nat → Nat} {fr to K : Nat} (h : tok T Fa fr to K) : ∀ k, k ≤ K → fr + k ≤ fr + sm T 0 k ∧ fr + sm T 0 k + (K - k) ≤ to := by
  have h1 : ∀ k, k ≤ K → k ≤ sm T 0 k := by
    intro k
    induction k with
    | zero => intro _; omega
    | succ k ih =>
      intro hk
      have := ih (by omega)
      have q := h.1 k (by omega)
      rw [sm, Nat.zero_add]; omega
  have h2 : ∀ j, j ≤ K → fr + sm T 0 (K - j) + j ≤ to := by
    intro j
    induction j with
    | zero => intro _; rw [Nat.sub_zero, h.2]; omega
    | succ j ih =>
      intro hj
      have := ih (by omega)
      have q := h.1 (K - (j + 1)) (by omega)
      have e : K - j = K - (j + 1) + 1 := by omega
      rw [e, sm, Nat.zero_add] at this
      omega
  intro k hk
  have a := h1 k hk
  have b := h2 (K - k) (by omega)
  have e : K - (K - k) = k := by omega
  rw [e] at b
  omega
theorem tok_lt {T Fa : Nat → Nat} {fr to K k : Nat} (h : tok T Fa fr to K) (hk : k < K) : fr + sm T 0 k + T k ≤ to := by
  have := (tok_pos h (k + 1) (by omega)).2
  rw [sm, Nat.zero_add] at this
  omega
theorem tsy_lt {b T Fa : Nat → Nat} {fr to K k : Nat} (h : tok T Fa fr to K) (hb : ∀ j, j < 512 → b j < 256) (hto : to ≤ 512) (hk : k < K) : tsy b T fr k < 286 ∧ tsy b T fr k ≠ 256 := by
  have q := h.1 k hk
  have r := tok_lt h hk
  unfold tsy
  by_cases e : T k = 1
  · rw [if_pos e]
    have := hb (fr + sm T 0 k) (by omega)
    omega
  · rw [if_neg e]
    have := ls_facts (T k) (by omega) (by omega)
    omega
theorem lc_le (b T : Nat → Nat) (fr : Nat) : ∀ k s, lc b T fr k s ≤ k + 1 := by
  intro k
  induction k with
  | zero => intro s; rw [lc]; split <;> omega
  | succ k ih => intro s; rw [lc]; have := ih s; split <;> omega
theorem fc_le (T Fa : Nat → Nat) : ∀ k s, fc T Fa k s ≤ k := by
  intro k
  induction k with
  | zero => intro s; rw [fc]; omega
  | succ k ih =>
    intro s; rw [fc]; have := ih s
    split
    · omega
    · split <;> omega
theorem mtc_le (T : Nat → Nat) : ∀ k, mtc T k ≤ k := by
  intro k
  induction k with
  | zero => rw [mtc]; omega
  | succ k ih => rw [mtc]; split <;> omega
theorem sm_addf (u v : Nat → Nat) (a k : Nat) : sm (fun s => u s + v s) a k = sm u a k + sm v a k := by
  induction k with
  | zero => rfl
  | succ k ih => rw [sm, sm, sm, ih]; omega
theorem sm_one (L : Nat → Nat) (x : Nat) : ∀ a k, a ≤ x → x < a + k → sm (fun s => if s = x then L s else 0) a k = L x := by
  intro a k
  induction k with
  | zero => intro _ _; omega
  | succ k ih =>
    intro h1 h2
    rw [sm]
    by_cases e : x = a + k
    · rw [sm_zero _ a k (fun i q1 q2 => if_neg (by omega)), if_pos e.symm, ← e]; omega
    · rw [ih h1 (by omega), if_neg (Ne.symm e)]; rfl
/-- what the tokens' symbols weigh by lengths L -/
theorem lc_sum {b T Fa : Nat → Nat} {fr to K : Nat} (h : tok T Fa fr to K) (hb : ∀ j, j < 512 → b j < 256) (hto : to ≤ 512) (L : Nat → Nat) (N : Nat) (hN : 286 ≤ N) : ∀ k, k ≤ K → sm (fun s => lc b T fr k s * L s) 0 N = L 256 + sm (fun i => L (tsy b T fr i)) 0 k := by
  intro k
  induction k with
  | zero =>
    intro _
    have e : sm (fun s => lc b T fr 0 s * L s) 0 N = sm (fun s => if s = 256 then L s else 0) 0 N := sm_congr (fun i _ _ => by
      show lc b T fr 0 i * L i = _
      rw [lc]; split
      · rw [Nat.one_mul]
      · rw [Nat.zero_mul])
    rw [e, sm_one L 256 0 N (by omega) (by omega)]; rfl
  | succ k ih =>
    intro hk
    have q := tsy_lt h hb hto (k := k) (by omega)
    have e : sm (fun s => lc b T fr (k + 1) s * L s) 0 N = sm (fun s => lc b T fr k s * L s + (if s = tsy b T fr k then L s else 0)) 0 N := sm_congr (fun i _ _ => by
      show lc b T fr (k + 1) i * L i = _
      rw [lc, Nat.add_mul]; split
      · rw [Nat.one_mul]
      · rw [Nat.zero_mul])
    rw [e, sm_addf, ih (by omega), sm_one L (tsy b T fr k) 0 N (by omega) (by omega), sm, Nat.zero_add]; omega
theorem fc_sum {T Fa : Nat → Nat} {fr to K : Nat} (h : tok T Fa fr to K) (L : Nat → Nat) (N : Nat) (hN : 30 ≤ N) : ∀ k, k ≤ K → sm (fun s => fc T Fa k s * L s) 0 N = sm (fun i => if T i = 1 then 0 else L (fs (Fa i))) 0 k := by
  intro k
  induction k with
  | zero => intro _; exact sm_zero _ _ _ (fun i _ _ => by show fc T Fa 0 i * L i = 0; rw [fc, Nat.zero_mul])
  | succ k ih =>
    intro hk
    have q := h.1 k (by omega)
    rw [sm, Nat.zero_add, ← ih (by omega)]
    by_cases e1 : T k = 1
    · rw [if_pos e1]
      exact sm_congr (fun i _ _ => by show fc T Fa (k + 1) i * L i = _; rw [fc, if_pos e1]; rfl)
    · have r := fs_facts (Fa k) (by omega) (by omega)
      have e : sm (fun s => fc T Fa (k + 1) s * L s) 0 N = sm (fun s => fc T Fa k s * L s + (if s = fs (Fa k) then L s else 0)) 0 N := sm_congr (fun i _ _ => by
        show fc T Fa (k + 1) i * L i = _
        rw [fc, if_neg e1, Nat.add_mul]; split
        · rw [Nat.one_mul]
        · rw [Nat.zero_mul])
      rw [e, sm_addf, sm_one L (fs (Fa k)) 0 N (by omega) (by omega), if_neg e1]
/-- all counts together -/
theorem lc_all {b T Fa : Nat → Nat} {fr to K : Nat} (h : tok T Fa fr to K) (hb : ∀ j, j < 512 → b j < 256) (hto : to ≤ 512) (N : Nat) (hN : 286 ≤ N) : sm (lc b T fr K) 0 N = K + 1 := by
  have q := lc_sum h hb hto (fun _ => 1) N hN K (Nat.le_refl _)
  have e : sm (fun s => lc b T fr K s * 1) 0 N = sm (lc b T fr K) 0 N := sm_congr (fun i _ _ => Nat.mul_one _)
  have e2 : ∀ k, sm (fun _ => 1) 0 k = k := by
    intro k; induction k with
    | zero => rfl
    | succ k ih => rw [sm, ih]
  rw [e, e2] at q; omega
theorem fc_all {T Fa : Nat → Nat} {fr to K : Nat} (h : tok T Fa fr to K) (N : Nat) (hN : 30 ≤ N) : sm (fc T Fa K) 0 N ≤ K := by
  have q := fc_sum h (fun _ => 1) N hN K (Nat.le_refl _)
  have e : sm (fun s => fc T Fa K s * 1) 0 N = sm (fc T Fa K) 0 N := sm_congr (fun i _ _ => Nat.mul_one _)
  have e2 : ∀ k, sm (fun i => if T i = 1 then 0 else 1) 0 k ≤ k := by
    intro k; induction k with
    | zero => exact Nat.le_refl _
    | succ k ih => rw [sm]; split <;> omega
  rw [e] at q; rw [q]; exact e2 K
/-- a plan holds k tokens -/
def plan (b T Fa : Nat → Nat) (fr k : Nat) (dc lt_ tkn : Nat → Int32) : Prop := (∀ s, s < 30 → dc s = nI (fc T Fa k s)) ∧ (∀ s, s < 286 → lt_ s = nI (lc b T fr k s)) ∧ (∀ i, i < k → tkn i = nI (tk b T Fa fr i))
theorem s_restart (F : Nat) (b T Fa : Nat → Nat) (fr : Nat) (dc lt_ : Nat → Int32) (hF : 100000 ≤ F) : ∃ dc' lt', m_Plan_restart F dc lt_ = some (nI 0, nI 0, dc', lt') ∧ ∀ tkn, plan b T Fa fr 0 dc' lt' tkn := by
  unfold m_Plan_restart
  rw [s_fill2 F 286 _ _ (by omega) (by omega), z_bnd1, s_fill2 F 30 _ _ (by omega) (by omega), z_bnd1]
  refine ⟨_, _, by simp (disch := omega) only [nm, z_lit, z_one, z_mone, z_neg1, z_neg2, z_pred, z_add, z_mul, z_sub, z_le, z_lt, z_eq, z_tn, z_chk, z_eqm, z_meq, z_lem, z_mle, z_ltm, z_mlt, z_eqq, z_qeq, z_leq, z_qle, z_ltq, z_qlt, z_m1m2, z_m2m1, z_m1m1, z_m2m2, z_bnd1, z_bnd2, z_bnd3, z_bnd4, z_bnd5, z_bnd6, z_bnd7, z_bnd8, z_bnd9, z_bnd10, z_bnd11, z_bnd12, z_bnd13, z_bnd14, z_bnd15, z_bnd16, z_max, z_min, z_n31, z_shl, z_shr, z_us, z_div, z_mod, z_and, z_or, z_xor, if_true, if_false]; rfl, fun tkn => ⟨fun s hs => ?_, fun s hs => ?_, fun i hi => by omega⟩⟩
  · simp only [if_pos hs]; rfl
  · rw [lc]
    by_cases e : s = 256
    · rw [e, z_updE]; rfl
    · rw [z_updN e, if_neg e]; simp only [if_pos hs]
theorem s_addTok (F : Nat) (b T Fa : Nat → Nat) (fr to K k : Nat) (dc lt_ tkn : Nat → Int32) (hF : 100000 ≤ F) (hb : ∀ j, j < 512 → b j < 256) (hto : to ≤ 512) (h : tok T Fa fr to K) (hk : k < K) (P : plan b T Fa fr k dc lt_ tkn) : ∃ dc' lt' tkn', m_Plan_addToken F dc lt_ (nI (mtc T k)) (nI k) tkn (nI (tk b T Fa fr k)) = some (nI (k + 1), nI (mtc T (k + 1)), dc', lt', tkn') ∧ plan b T Fa fr (k + 1) dc' lt' tkn' := by
  obtain ⟨p1, p2, p3⟩ := P
  have q := h.1 k hk
  have r := tok_lt h hk
  have tp := tok_pos h k (by omega)
  have m0 := mtc_le T k
  have htk : tk b T Fa fr k < 2147483648 := by
    unfold tk; split
    · have := hb (fr + sm T 0 k) (by omega); omega
    · omega
  have hk5 : k < 512 := by omega
  have key : ∀ i, i < k + 1 → upd tkn k (nI (tk b T Fa fr k)) i = nI (tk b T Fa fr i) := fun i hi => by
    by_cases e : i = k
    · rw [e, z_updE]
    · rw [z_updN e]; exact p3 i (by omega)
  have tl := s_tlen F (tk b T Fa fr k) htk
  have td := s_tdist F (tk b T Fa fr k)
  unfold m_Plan_addToken
  by_cases e1 : T k = 1
  · have bb := hb (fr + sm T 0 k) (by omega)
    have et : tk b T Fa fr k = b (fr + sm T 0 k) := by unfold tk; rw [if_pos e1]
    have es : tsy b T fr k = b (fr + sm T 0 k) := by unfold tsy; rw [if_pos e1]
    have e2 : tk b T Fa fr k / 65536 = 0 := by rw [et]; omega
    have e3 : tk b T Fa fr k &&& 255 = b (fr + sm T 0 k) := by
      rw [et]
      exact (Nat.and_two_pow_sub_one_eq_mod _ 8).trans (Nat.mod_eq_of_lt bb)
    have e4 := p2 (b (fr + sm T 0 k)) (by omega)
    rw [e2] at tl
    have em : mtc T (k + 1) = mtc T k := by rw [mtc, if_pos e1]; rfl
    simp (disch := omega) only [nm, z_lit, z_one, z_mone, z_neg1, z_neg2, z_pred, z_add, z_mul, z_sub, z_le, z_lt, z_eq, z_tn, z_chk, z_eqm, z_meq, z_lem, z_mle, z_ltm, z_mlt, z_eqq, z_qeq, z_leq, z_qle, z_ltq, z_qlt, z_m1m2, z_m2m1, z_m1m1, z_m2m2, z_bnd1, z_bnd2, z_bnd3, z_bnd4, z_bnd5, z_bnd6, z_bnd7, z_bnd8, z_bnd9, z_bnd10, z_bnd11, z_bnd12, z_bnd13, z_bnd14, z_bnd15, z_bnd16, z_max, z_min, z_n31, z_shl, z_shr, z_us, z_div, z_mod, z_and, z_or, z_xor, if_true, if_false, hk5, tl, e3, e4, em]
    refine ⟨_, _, _, rfl, fun s hs => ?_, fun s hs => ?_, key⟩
    · rw [fc, if_pos e1, p1 s hs]; rfl
    · rw [lc, es]
      by_cases e : s = b (fr + sm T 0 k)
      · rw [e, z_updE, if_pos rfl]
      · rw [z_updN e, if_neg e, p2 s hs]; rfl
  · have f1 := ls_facts (T k) (by omega) (by omega)
    have f2 := fs_facts (Fa k) (by omega) (by omega)
    have et : tk b T Fa fr k = T k * 65536 + Fa k := by unfold tk; rw [if_neg e1]
    have es : tsy b T fr k = ls (T k) := by unfold tsy; rw [if_neg e1]
    have e2 : tk b T Fa fr k / 65536 = T k := by rw [et]; omega
    have e3 : tk b T Fa fr k % 65536 = Fa k := by rw [et]; omega
    rw [e2] at tl
    rw [e3] at td
    have n0 : ¬ (T k = 0) := by omega
    have l1 := s_lsym F (T k) hF (by omega) (by omega)
    have l2 := s_dsym F (Fa k) hF (by omega) (by omega)
    have e4 := p2 (ls (T k)) (by omega)
    have e5 := p1 (fs (Fa k)) (by omega)
    have em : mtc T (k + 1) = mtc T k + 1 := by rw [mtc, if_neg e1]
    simp (disch := omega) only [nm, z_lit, z_one, z_mone, z_neg1, z_neg2, z_pred, z_add, z_mul, z_sub, z_le, z_lt, z_eq, z_tn, z_chk, z_eqm, z_meq, z_lem, z_mle, z_ltm, z_mlt, z_eqq, z_qeq, z_leq, z_qle, z_ltq, z_qlt, z_m1m2, z_m2m1, z_m1m1, z_m2m2, z_bnd1, z_bnd2, z_bnd3, z_bnd4, z_bnd5, z_bnd6, z_bnd7, z_bnd8, z_bnd9, z_bnd10, z_bnd11, z_bnd12, z_bnd13, z_bnd14, z_bnd15, z_bnd16, z_max, z_min, z_n31, z_shl, z_shr, z_us, z_div, z_mod, z_and, z_or, z_xor, if_true, if_false, hk5, tl, td, n0, l1, l2, e4, e5, em]
    refine ⟨_, _, _, rfl, fun s hs => ?_, fun s hs => ?_, key⟩
    · rw [fc, if_neg e1]
      by_cases e : s = fs (Fa k)
      · rw [e, z_updE, if_pos rfl]
      · rw [z_updN e, if_neg e, p1 s hs]; rfl
    · rw [lc, es]
      by_cases e : s = ls (T k)
      · rw [e, z_updE, if_pos rfl]
      · rw [z_updN e, if_neg e, p2 s hs]; rfl
/-- places of a walk by the lengths taken -/
def wp (lt : Nat → Nat) (fr : Nat) : Nat → Nat
  | 0 => fr
  | k + 1 => wp lt fr k + lt (wp lt fr k)
def wT (lt : Nat → Nat) (fr k : Nat) : Nat := lt (wp lt fr k)
def wF (lt ds : Nat → Nat) (fr k : Nat) : Nat := if lt (wp lt fr k) = 1 then 0 else ds (wp lt fr k)
theorem wp_sm (lt : Nat → Nat) (fr : Nat) : ∀ k, fr + sm (wT lt fr) 0 k = wp lt fr k := by
  intro k
  induction k with
  | zero => rfl
  | succ k ih => rw [sm, wp, Nat.zero_add, ← Nat.add_assoc, ih]; rfl
/-- lengths taken in a block -/
def ltk (lt ds : Nat → Nat) (fr to : Nat) : Prop := ∀ p, fr ≤ p → p < to → p + lt p ≤ to ∧ (lt p = 1 ∨ (3 ≤ lt p ∧ lt p ≤ 258 ∧ 1 ≤ ds p ∧ ds p < 512))
theorem wp_ge {lt ds : Nat → Nat} {fr to : Nat} (h : ltk lt ds fr to) : ∀ k, wp lt fr k < to → ∀ j, j ≤ k → fr + j ≤ wp lt fr j ∧ wp lt fr j < to := by
  intro k
  induction k with
  | zero => intro h1 j hj; have : j = 0 := by omega
            subst this; exact ⟨Nat.le_refl _, h1⟩
  | succ k ih =>
    intro h1 j hj
    have h2 : wp lt fr k < to := by rw [wp] at h1; omega
    by_cases e : j = k + 1
    · subst e
      have q := ih h2 k (Nat.le_refl _)
      have r := h (wp lt fr k) (by omega) q.2
      refine ⟨?_, h1⟩
      rw [wp]; omega
    · exact ih h2 j (by omega)
/-- the walk ends behind K tokens -/
def wend (lt : Nat → Nat) (fr to K : Nat) : Prop := wp lt fr K = to ∧ ∀ k, k < K → wp lt fr k < to
theorem wend_uniq {lt : Nat → Nat} {fr to K K' : Nat} (h : wend lt fr to K) (h' : wend lt fr to K') : K = K' := by
  rcases Nat.lt_trichotomy K K' with q | q | q
  · have := h'.2 K q; have := h.1; omega
  · exact q
  · have := h.2 K' q; have := h'.1; omega
theorem walk_tok {lt ds : Nat → Nat} {fr to K : Nat} (h : ltk lt ds fr to) (hK : wend lt fr to K) : tok (wT lt fr) (wF lt ds fr) fr to K := by
  refine ⟨fun k hk => ?_, by rw [wp_sm]; exact hK.1⟩
  have q := wp_ge h k (hK.2 k hk) k (Nat.le_refl _)
  have r := h (wp lt fr k) (by omega) q.2
  unfold wT wF
  rcases r.2 with e | e
  · exact Or.inl ⟨e, if_pos e⟩
  · exact Or.inr ⟨e.1, e.2.1, by rw [if_neg (by omega)]; exact e.2.2⟩
theorem wend_ex {lt ds : Nat → Nat} {fr to : Nat} (h : ltk lt ds fr to) (hft : fr ≤ to) : ∃ K, wend lt fr to K := by
  have key : ∀ d k, wp lt fr k + d = to → (∀ j, j < k → wp lt fr j < to) → fr ≤ wp lt fr k → ∃ K, wend lt fr to K := by
    intro d
    induction d using Nat.strongRecOn with
    | ind d ih =>
      intro k h1 h2 h3
      by_cases e : d = 0
      · exact ⟨k, by omega, h2⟩
      · have q := h (wp lt fr k) h3 (by omega)
        refine ih (d - lt (wp lt fr k)) (by omega) (k + 1) (by rw [wp]; omega) (fun j hj => ?_) (by rw [wp]; omega)
        by_cases e2 : j = k
        · subst e2; omega
        · exact h2 j (by omega)
  exact key (to - fr) 0 (by show fr + _ = to; omega) (fun j hj => by omega) (Nat.le_refl _)
theorem s_distAt (F p d n : Nat) (fd : Nat → Int32) (hp : p < 512) (hd : d < 65536) (h : fd p = nI (n * 65536 + d)) : m_Matches_distanceAt F fd (nI p) = some (nI d) := by
  unfold m_Matches_distanceAt
  have e := s_tdist F (n * 65536 + d)
  have e2 : (n * 65536 + d) % 65536 = d := by omega
  rw [e2] at e
  simp (disch := omega) only [nm, z_lit, z_one, z_mone, z_neg1, z_neg2, z_pred, z_add, z_mul, z_sub, z_le, z_lt, z_eq, z_tn, z_chk, z_eqm, z_meq, z_lem, z_mle, z_ltm, z_mlt, z_eqq, z_qeq, z_leq, z_qle, z_ltq, z_qlt, z_m1m2, z_m2m1, z_m1m1, z_m2m2, z_bnd1, z_bnd2, z_bnd3, z_bnd4, z_bnd5, z_bnd6, z_bnd7, z_bnd8, z_bnd9, z_bnd10, z_bnd11, z_bnd12, z_bnd13, z_bnd14, z_bnd15, z_bnd16, z_max, z_min, z_n31, z_shl, z_shr, z_us, z_div, z_mod, z_and, z_or, z_xor, if_true, if_false, h, e]
theorem s_lenAt (F p d n : Nat) (fd : Nat → Int32) (hp : p < 512) (hd : d < 65536) (hn : n < 1000) (h : fd p = nI (n * 65536 + d)) : m_Matches_lengthAt F fd (nI p) = some (nI n) := by
  unfold m_Matches_lengthAt
  have e := s_tlen F (n * 65536 + d) (by omega)
  have e2 : (n * 65536 + d) / 65536 = n := by omega
  rw [e2] at e
  simp (disch := omega) only [nm, z_lit, z_one, z_mone, z_neg1, z_neg2, z_pred, z_add, z_mul, z_sub, z_le, z_lt, z_eq, z_tn, z_chk, z_eqm, z_meq, z_lem, z_mle, z_ltm, z_mlt, z_eqq, z_qeq, z_leq, z_qle, z_ltq, z_qlt, z_m1m2, z_m2m1, z_m1m1, z_m2m2, z_bnd1, z_bnd2, z_bnd3, z_bnd4, z_bnd5, z_bnd6, z_bnd7, z_bnd8, z_bnd9, z_bnd10, z_bnd11, z_bnd12, z_bnd13, z_bnd14, z_bnd15, z_bnd16, z_max, z_min, z_n31, z_shl, z_shr, z_us, z_div, z_mod, z_and, z_or, z_xor, if_true, if_false, h, e]
/-- the matches at hand: their lengths and distances -/
def fnd (fd : Nat → Int32) (ml ds : Nat → Nat) (fr to : Nat) : Prop := ∀ p, fr ≤ p → p < to → fd p = nI (ml p * 65536 + ds p) ∧ (ml p = 0 ∨ (3 ≤ ml p ∧ ml p ≤ 258 ∧ 1 ≤ ds p)) ∧ ds p < 512 ∧ p + ml p ≤ to
theorem l_addTokens (F : Nat) (B LT fd : Nat → Int32) (b lt ds ml : Nat → Nat) (fr to K : Nat) (hF : 100000 ≤ F) (hB : byt B b) (hto : to ≤ 512) (hlt : ∀ p, fr ≤ p → p < to → LT p = nI (lt p)) (h : ltk lt ds fr to) (hfd : fnd fd ml ds fr to) (hK : wend lt fr to K) : ∀ (f k : Nat) (dc lc_ tkn : Nat → Int32), k ≤ K → K - k < f → plan b (wT lt fr) (wF lt ds fr) fr k dc lc_ tkn → ∃ dc' lc' tkn', L_Cutter_addTokens_7 F B LT fd (nI to) f (nI (wp lt fr k)) (nI k) (nI (mtc (wT lt fr) k)) dc lc_ tkn = some (nI to, nI K, nI (mtc (wT lt fr) K), dc', lc', tkn') ∧ plan b (wT lt fr) (wF lt ds fr) fr K dc' lc' tkn' := by
  have H := walk_tok h hK
  have hb : ∀ j, j < 512 → b j < 256 := fun j hj => (hB j hj).2
  intro f
  induction f with
  | zero => intro k dc lc_ tkn _ h; omega
  | succ f ih =>
    intro k dc lc_ tkn hk hf P
    unfold L_Cutter_addTokens_7 B_Cutter_addTokens_7
    by_cases e : k = K
    · subst e
      rw [hK.1]
      exact ⟨dc, lc_, tkn, by simp (disch := omega) only [nm, z_lit, z_one, z_mone, z_neg1, z_neg2, z_pred, z_add, z_mul, z_sub, z_le, z_lt, z_eq, z_tn, z_chk, z_eqm, z_meq, z_lem, z_mle, z_ltm, z_mlt, z_eqq, z_qeq, z_leq, z_qle, z_ltq, z_qlt, z_m1m2, z_m2m1, z_m1m1, z_m2m2, z_bnd1, z_bnd2, z_bnd3, z_bnd4, z_bnd5, z_bnd6, z_bnd7, z_bnd8, z_bnd9, z_bnd10, z_bnd11, z_bnd12, z_bnd13, z_bnd14, z_bnd15, z_bnd16, z_max, z_min, z_n31, z_shl, z_shr, z_us, z_div, z_mod, z_and, z_or, z_xor, if_true, if_false, Nat.le_refl], P⟩
    · have hlt1 := hK.2 k (by omega)
      have q := wp_ge h k hlt1 k (Nat.le_refl _)
      have r := h (wp lt fr k) (by omega) q.2
      have e1 := hlt (wp lt fr k) (by omega) q.2
      have e2 := (hB (wp lt fr k) (by omega)).1
      have f1 := hfd (wp lt fr k) (by omega) q.2
      have d1 := s_distAt F (wp lt fr k) (ds (wp lt fr k)) (ml (wp lt fr k)) fd (by omega) (by omega) f1.1
      have n0 : ¬ (to ≤ wp lt fr k) := by omega
      have emax : max 1 (lt (wp lt fr k)) = lt (wp lt fr k) := by omega
      obtain ⟨dc', lc', tkn', g1, g2⟩ := s_addTok F b (wT lt fr) (wF lt ds fr) fr to K k dc lc_ tkn hF hb hto H (by omega) P
      have etk : tk b (wT lt fr) (wF lt ds fr) fr k = if lt (wp lt fr k) = 1 then b (wp lt fr k) else lt (wp lt fr k) * 65536 + ds (wp lt fr k) := by
        unfold tk
        rw [wp_sm]
        show (if lt (wp lt fr k) = 1 then _ else lt (wp lt fr k) * 65536 + (if lt (wp lt fr k) = 1 then 0 else ds (wp lt fr k))) = _
        by_cases e3 : lt (wp lt fr k) = 1
        · rw [if_pos e3, if_pos e3]
        · rw [if_neg e3, if_neg e3, if_neg e3]
      by_cases e3 : lt (wp lt fr k) = 1
      · rw [if_pos e3] at etk
        rw [etk] at g1
        have en : wp lt fr k + 1 = wp lt fr (k + 1) := by rw [wp, e3]
        simp (disch := omega) only [nm, z_lit, z_one, z_mone, z_neg1, z_neg2, z_pred, z_add, z_mul, z_sub, z_le, z_lt, z_eq, z_tn, z_chk, z_eqm, z_meq, z_lem, z_mle, z_ltm, z_mlt, z_eqq, z_qeq, z_leq, z_qle, z_ltq, z_qlt, z_m1m2, z_m2m1, z_m1m1, z_m2m2, z_bnd1, z_bnd2, z_bnd3, z_bnd4, z_bnd5, z_bnd6, z_bnd7, z_bnd8, z_bnd9, z_bnd10, z_bnd11, z_bnd12, z_bnd13, z_bnd14, z_bnd15, z_bnd16, z_max, z_min, z_n31, z_shl, z_shr, z_us, z_div, z_mod, z_and, z_or, z_xor, if_true, if_false, n0, e1, emax, e3, e2, g1, Nat.max_self]
        rw [en]
        exact ih (k + 1) dc' lc' tkn' (by omega) (by omega) g2
      · rw [if_neg e3] at etk
        rw [etk] at g1
        have mt1 := s_mtok F (lt (wp lt fr k)) (ds (wp lt fr k)) (by omega) (by omega)
        have en : wp lt fr k + lt (wp lt fr k) = wp lt fr (k + 1) := rfl
        simp (disch := omega) only [nm, z_lit, z_one, z_mone, z_neg1, z_neg2, z_pred, z_add, z_mul, z_sub, z_le, z_lt, z_eq, z_tn, z_chk, z_eqm, z_meq, z_lem, z_mle, z_ltm, z_mlt, z_eqq, z_qeq, z_leq, z_qle, z_ltq, z_qlt, z_m1m2, z_m2m1, z_m1m1, z_m2m2, z_bnd1, z_bnd2, z_bnd3, z_bnd4, z_bnd5, z_bnd6, z_bnd7, z_bnd8, z_bnd9, z_bnd10, z_bnd11, z_bnd12, z_bnd13, z_bnd14, z_bnd15, z_bnd16, z_max, z_min, z_n31, z_shl, z_shr, z_us, z_div, z_mod, z_and, z_or, z_xor, if_true, if_false, n0, e1, emax, e3, d1, mt1, g1]
        rw [en]
        exact ih (k + 1) dc' lc' tkn' (by omega) (by omega) g2
theorem s_addTokens (F : Nat) (dc lc_ tkn B LT fd : Nat → Int32) (b lt ds ml : Nat → Nat) (fr to K : Nat) (hF : 100000 ≤ F) (hB : byt B b) (hto : to ≤ 512) (hlt : ∀ p, fr ≤ p → p < to → LT p = nI (lt p)) (h : ltk lt ds fr to) (hfd : fnd fd ml ds fr to) (hK : wend lt fr to K) : ∃ dc' lc' tkn', m_Cutter_addTokens F dc lc_ tkn B LT fd (nI fr) (nI to) = some (nI K, nI (mtc (wT lt fr) K), dc', lc', tkn') ∧ plan b (wT lt fr) (wF lt ds fr) fr K dc' lc' tkn' := by
  obtain ⟨dc1, lc1, e1, P1⟩ := s_restart F b (wT lt fr) (wF lt ds fr) fr dc lc_ hF
  have tp := tok_pos (walk_tok h hK) K (Nat.le_refl _)
  obtain ⟨dc', lc', tkn', e2, P2⟩ := l_addTokens F B LT fd b lt ds ml fr to K hF hB hto hlt h hfd hK F 0 dc1 lc1 tkn (by omega) (by omega) (P1 tkn)
  refine ⟨dc', lc', tkn', ?_, P2⟩
  unfold m_Cutter_addTokens
  have e0 : wp lt fr 0 = fr := rfl
  have m0 : mtc (wT lt fr) 0 = 0 := rfl
  rw [e0, m0] at e2
  simp only [e1, z_bnd4, e2, z_bnd6]
