/-! told, clear; what deflate leaves; the fixed sets of a new object -/
theorem l_rep (F M : Nat) (R : Nat → Nat) (rp tk : Nat → Int32) (hM : M ≤ 4) (h : ∀ s, s < M → ∃ j, j < 4 ∧ tk s = nI j ∧ rp j = nI (R s)) : ∀ (f i : Nat), i ≤ M → M - i < f → L_Cutter_replacedInTaken_4 F rp tk (nI M) f (nI (sm R 0 i)) (nI i) = some (nI (sm R 0 M), nI M) := by
  intro f
  induction f with
  | zero => intros; omega
  | succ f ih =>
    intro i hi hf
    unfold L_Cutter_replacedInTaken_4 B_Cutter_replacedInTaken_4
    by_cases c : M ≤ i
    · have e : i = M := by omega
      subst e
      rw [if_pos (by rw [z_le (by omega) (by omega)]; omega)]
    · obtain ⟨j, hj, g1, g2⟩ := h i (by omega)
      have tb_ : m_Cutter_takenBlock F tk (nI i) = some j := by
        unfold m_Cutter_takenBlock
        simp only [z_chk (show i < 2147483648 by omega) (show i < 4 by omega), z_tn (show i < 2147483648 by omega), g1, z_chk (show j < 2147483648 by omega) (show j < 4 by omega), z_tn (show j < 2147483648 by omega), nm]
      have cj : ∀ {α : Type} (x : Option α), chk (decide (j < 4)) x = x := fun x => by rw [decide_eq_true hj]; rfl
      rw [if_neg (by rw [z_le (by omega) (by omega)]; omega), tb_, z_bnd1, cj, g2]
      have es : sm R 0 (i + 1) = sm R 0 i + R i := by rw [sm, Nat.zero_add]
      simp only [nm, z_one, z_add]
      rw [← es]
      exact ih (i + 1) (by omega) (by omega)
theorem p_told (F ef room n nF c : Nat) (stop x1 tc st bc : Int32) (fr to kd bt sz mt rp tk came : Nat → Int32) (mcs mst mrd mbl : Int32) (bB bF bK bM bS bT mco : Nat → Int32) (hF : 100000 ≤ F) (D : dinv tc st bc fr to kd bt sz mt rp tk came mcs mst mrd mbl bB bF bK bM bS bT mco) : ∃ v, m_DE_told F (nI nF) rp st tk tc (nI ef) (nI n) (nI c) stop (nI room) bc x1 = some v ∧ m_MD_told F mbl mcs (nI ef) (nI nF) (nI c) (nI room) mrd (nI n) mst stop x1 = some (v, 0) := by
  obtain ⟨M, q, R, rfl, rfl, hM, rfl, hq, rfl, rfl, _, rfl, hs⟩ := D
  have er : m_Cutter_replacedInTaken F rp tk (nI M) = some (nI (sm R 0 M)) := by
    unfold m_Cutter_replacedInTaken
    have := l_rep F M R rp tk hM (fun s hs' => by
      obtain ⟨j, h1, h2, h3, _⟩ := hs s hs'
      exact ⟨j, h1, h2, h3⟩) F 0 (by omega) (by omega)
    rw [show (0 : Int32) = nI 0 from rfl]
    have e0 : sm R 0 0 = 0 := rfl
    rw [e0] at this
    rw [this, z_bnd2]
  unfold m_DE_told m_MD_told
  rw [s_bc F q hq, er]
  simp only [z_bnd1]
  by_cases h0 : x1 = (0 : Int32)
  · rw [if_pos h0, if_pos h0]; exact ⟨_, rfl, rfl⟩
  rw [if_neg h0, if_neg h0]
  by_cases h1 : x1 = (1 : Int32)
  · rw [if_pos h1, if_pos h1]; exact ⟨_, rfl, rfl⟩
  rw [if_neg h1, if_neg h1]
  by_cases h2 : x1 = (2 : Int32)
  · rw [if_pos h2, if_pos h2]; exact ⟨_, rfl, rfl⟩
  rw [if_neg h2, if_neg h2]
  by_cases h3 : x1 = (3 : Int32)
  · rw [if_pos h3, if_pos h3]; exact ⟨_, rfl, rfl⟩
  rw [if_neg h3, if_neg h3]
  by_cases h4 : x1 = (4 : Int32)
  · rw [if_pos h4, if_pos h4]; exact ⟨_, rfl, rfl⟩
  rw [if_neg h4, if_neg h4]
  by_cases h5 : x1 = (5 : Int32)
  · rw [if_pos h5, if_pos h5]; exact ⟨_, rfl, rfl⟩
  rw [if_neg h5, if_neg h5]
  by_cases h6 : x1 = (6 : Int32)
  · rw [if_pos h6, if_pos h6]; exact ⟨_, rfl, rfl⟩
  rw [if_neg h6, if_neg h6]
  by_cases h7 : x1 = (7 : Int32)
  · rw [if_pos h7, if_pos h7]; exact ⟨_, rfl, rfl⟩
  rw [if_neg h7, if_neg h7]
  by_cases h8 : x1 = (8 : Int32)
  · rw [if_pos h8, if_pos h8]; exact ⟨_, rfl, rfl⟩
  rw [if_neg h8, if_neg h8]
  by_cases h9 : x1 = (9 : Int32)
  · rw [if_pos h9, if_pos h9]; exact ⟨_, rfl, rfl⟩
  rw [if_neg h9, if_neg h9]
  exact ⟨_, rfl, rfl⟩
theorem Wr_0h (came mco : Nat → Int32) (h : ∀ j, j < 518 → came j = nI 0) : Wr 0 came mco := ⟨fun _ => 0, fun j hj => by omega, fun j _ hj => h j hj, fun h => absurd rfl h⟩
theorem dinv_0 (fr to kd bt sz mt rp tk came : Nat → Int32) (bB bF bK bM bS bT mco : Nat → Int32) (h : ∀ j, j < 518 → came j = nI 0) : dinv 0 0 0 fr to kd bt sz mt rp tk came 0 0 0 0 bB bF bK bM bS bT mco := ⟨0, 0, fun _ => 0, rfl, rfl, by omega, rfl, by omega, rfl, rfl, Wr_0h came mco h, rfl, fun s hs => by omega⟩
theorem p_clear (F : Nat) (came : Nat → Int32) (hF : 100000 ≤ F) : ∃ came' b', m_DE_clear F came = some (0, 0, 0, 0, 0, m1, m1, b', 0, 0, came') ∧ (∀ j, j < 518 → came' j = nI 0) ∧ m_MD_clear F = some (0, 0, 0, 0, 0, m1, 0, 0, 0) := by
  unfold m_DE_clear m_Cutter_forget m_Writer_restart m_Reader_restart m_MD_clear
  rw [s_fill2 F 518 _ _ (by omega) (by omega)]
  exact ⟨_, _, rfl, fun j hj => if_pos hj, rfl⟩
theorem d_dinv {b : Nat → Nat} {ef n M q S N : Nat} {R : Nat → Nat → BR} {bE nx : Nat → Nat} {tok : Nat → Nat → Int32} {fr to kd bt sz mt rp be tk came : Nat → Int32} {bB bF bK bM bS bT mco : Nat → Int32} (W : Wr q came mco) (hq : q ≤ 4144) (hn : n ≤ 512) (C : cutS b ef n N 0 R bE nx) (K : kepS b n N 0 R bE nx tok fr to kd bt sz mt rp be) (E : cend nx N M) (hMN : M ≤ N) (hN : N ≤ 4) (hNn : 128 * (N - 1) ≤ n) (ht : ∀ s, s < M → tk s = nI (cp nx s)) (O : bok n R nx M bB bF bK bM bS bT) : dinv (nI M) (nI S) (nI q) fr to kd bt sz mt rp tk came (nI ((q + 7) / 8)) (nI S) (nI (rsum R nx M)) (nI M) bB bF bK bM bS bT mco := by
  refine ⟨M, q, fun s => (R (cp nx s) (cp nx (s + 1))).2.2.2.1, rfl, rfl, by omega, rfl, hq, rfl, rfl, W, rfl, fun s hs => ?_⟩
  have hj := E.2 s hs
  obtain ⟨k1, k2, k3, k4, k5, k6, k7, _⟩ := K (cp nx s) (by omega) hj
  obtain ⟨o1, o2, o3, o4, o5, o6⟩ := O s hs
  obtain ⟨x1, x2, _, _⟩ := cutS_nx C hj
  have en : cp nx (s + 1) = nx (cp nx s) := rfl
  rw [en] at o2 o3 o4 o5 o6
  refine ⟨cp nx s, by omega, ht s hs, k7, ?_, ?_, ?_, ?_, ?_, ?_⟩
  · rw [o1, k1]
  · rw [o2, k1, k2, z_sub (by omega)]
  · rw [o3, k3]
  · rw [o4, k4]
  · rw [o5, k5]
  · rw [o6, k6]
/-! a new object -/
theorem l_init138 (F : Nat) : ∀ (f i : Nat) (q : Nat → Int32), i ≤ 288 → 288 - i < f → (∀ s, s < i → q s = nI (fl s)) → ∃ q', L_Reader_init_138 F f (nI i) q = some (nI 288, q') ∧ ∀ s, s < 288 → q' s = nI (fl s) := by
  intro f
  induction f with
  | zero => intros; omega
  | succ f ih =>
    intro i q hi hf I
    unfold L_Reader_init_138 B_Reader_init_138
    by_cases h : 288 ≤ i
    · have e : i = 288 := by omega
      subst e
      exact ⟨q, by simp (disch := omega) only [nm, z_lit, z_one, z_mone, z_neg1, z_neg2, z_pred, z_add, z_mul, z_sub, z_le, z_lt, z_eq, z_tn, z_chk, z_eqm, z_meq, z_lem, z_mle, z_ltm, z_mlt, z_eqq, z_qeq, z_leq, z_qle, z_ltq, z_qlt, z_m1m2, z_m2m1, z_m1m1, z_m2m2, z_bnd1, z_bnd2, z_bnd3, z_bnd4, z_bnd5, z_bnd6, z_bnd7, z_bnd8, z_bnd9, z_bnd10, z_bnd11, z_bnd12, z_bnd13, z_bnd14, z_bnd15, z_bnd16, z_max, z_min, z_n31, z_shl, z_shr, z_us, z_div, z_mod, z_and, z_or, z_xor, if_true, if_false, Nat.le_refl], I⟩
    · have e := s_flen F i (by omega)
      simp (disch := omega) only [nm, z_lit, z_one, z_mone, z_neg1, z_neg2, z_pred, z_add, z_mul, z_sub, z_le, z_lt, z_eq, z_tn, z_chk, z_eqm, z_meq, z_lem, z_mle, z_ltm, z_mlt, z_eqq, z_qeq, z_leq, z_qle, z_ltq, z_qlt, z_m1m2, z_m2m1, z_m1m1, z_m2m2, z_bnd1, z_bnd2, z_bnd3, z_bnd4, z_bnd5, z_bnd6, z_bnd7, z_bnd8, z_bnd9, z_bnd10, z_bnd11, z_bnd12, z_bnd13, z_bnd14, z_bnd15, z_bnd16, z_max, z_min, z_n31, z_shl, z_shr, z_us, z_div, z_mod, z_and, z_or, z_xor, if_true, if_false, h, e]
      refine ih (i + 1) _ (by omega) (by omega) (fun s hs => ?_)
      by_cases e : s = i
      · subst e; rw [z_updE]
      · rw [z_updN e]; exact I s (by omega)
theorem s_init0 (F n : Nat) (x : Int32) (h : imax (1 : Int32) x = nI n) (hn : n ≤ 2000) : m_CodeSet_init F x = some () ∧ m_Code_init F x = some () ∧ m_Block_init F x = some () := by
  have hd : decide (0 ≤ nI n ∧ (nI n).toNatClampNeg ≤ 2000) = true := decide_eq_true ⟨by show nI 0 ≤ nI n; rw [z_le (by omega) (by omega)]; omega, by rw [z_tn (by omega)]; exact hn⟩
  refine ⟨?_, ?_, ?_⟩
  · unfold m_CodeSet_init; rw [h, hd]; rfl
  · unfold m_Code_init; rw [h, hd]; rfl
  · unfold m_Block_init; rw [h, hd]; rfl
theorem p_init (F room : Nat) (x2 : Int32) (hF : 100000 ≤ F) (hx : imax (1 : Int32) (imin (2000 : Int32) x2) = nI room) (h1 : 1 ≤ room) (hroom : room ≤ 2000) : ∃ dC dL dF dN dP dS lC lL lF lN lP lS len, m_DE_init F x2 = some (dC, dL, dF, dN, dP, dS, lC, lL, lF, lN, lP, lS, len) ∧ cset fl 288 lL lP lS ∧ cset (fun _ => 5) 32 dL dP dS := by
  have hi : imax (1 : Int32) (nI room) = nI room := by
    show imax (nI 1) (nI room) = _
    rw [z_max (by omega) (by omega), Nat.max_eq_right h1]
  have hd : decide (0 ≤ nI room ∧ (nI room).toNatClampNeg ≤ 2000) = true := decide_eq_true ⟨by show nI 0 ≤ nI room; rw [z_le (by omega) (by omega)]; omega, by rw [z_tn (by omega)]; exact hroom⟩
  obtain ⟨len1, e1, g1⟩ := l_init138 F F 0 (fun _ => (0 : Int32)) (by omega) (by omega) (fun s hs => by omega)
  obtain ⟨lg, fe, nx', per', sy', a1, a2, a3⟩ := s_make F 318 288 0 288 len1 (fun _ => (0 : Int32)) (fun _ => (0 : Int32)) (fun _ => (0 : Int32)) fl hF (by omega) (by omega) (by omega) (by omega) (fun k hk => by rw [Nat.zero_add]; exact ⟨g1 k hk, Nat.le_trans (fl_le k) (by omega)⟩)
  obtain ⟨lg2, fe2, nx2, per2, sy2, b1, b2, b3⟩ := s_make F 318 32 0 32 (fun j => if j < 318 then (5 : Int32) else len1 j) (fun _ => (0 : Int32)) (fun _ => (0 : Int32)) (fun _ => (0 : Int32)) (fun _ => 5) hF (by omega) (by omega) (by omega) (by omega) (fun k hk => by
    rw [Nat.zero_add]
    simp only [if_pos (show k < 318 by omega)]
    exact ⟨rfl, by omega⟩)
  have i288 := s_init0 F 288 (288 : Int32) (by decide) (by omega)
  have i32 := s_init0 F 32 (32 : Int32) (by decide) (by omega)
  have i286 := s_init0 F 286 (286 : Int32) (by decide) (by omega)
  have i30 := s_init0 F 30 (30 : Int32) (by decide) (by omega)
  have i19 := s_init0 F 19 (19 : Int32) (by decide) (by omega)
  have i512 := s_init0 F 512 (512 : Int32) (by decide) (by omega)
  have i384 := s_init0 F 384 (384 : Int32) (by decide) (by omega)
  have i256 := s_init0 F 256 (256 : Int32) (by decide) (by omega)
  have i128 := s_init0 F 128 (128 : Int32) (by decide) (by omega)
  have zb0 : ∀ {R : Type} (f : Unit → Option R), bnd0 (some ()) f = f () := fun _ => rfl
  have e1' : L_Reader_init_138 F F (0 : Int32) (fun _ => (0 : Int32)) = some (nI 288, len1) := e1
  have a1' : m_CodeSet_make F 318 288 len1 (fun _ => (0 : Int32)) (fun _ => (0 : Int32)) (fun _ => (0 : Int32)) (0 : Int32) (288 : Int32) = some (nI (cdn fl 288), lg, fe, nx', per', sy') := a1
  have b1' : m_CodeSet_make F 318 32 (fun j => if j < 318 then (5 : Int32) else len1 j) (fun _ => (0 : Int32)) (fun _ => (0 : Int32)) (fun _ => (0 : Int32)) (0 : Int32) (32 : Int32) = some (nI (cdn (fun _ => 5) 32), lg2, fe2, nx2, per2, sy2) := b1
  unfold m_DE_init m_Writer_init m_Cutter_init m_Reader_init m_Joiner_init m_LengthRow_init m_Prices_init m_Plan_init m_Matches_init
  rw [hx]
  simp only [i288.1, i32.1, i286.1, i286.2.1, i30.1, i30.2.1, i19.1, i19.2.1, i512.2.2, i384.2.2, i256.2.2, i128.2.2, zb0, hi, hd]
  have ckt : ∀ {α : Type} (x : Option α), chk true x = x := fun _ => rfl
  rw [ckt, e1', z_bnd2, a1', z_bnd6, s_fill2 F 318 _ _ (by omega) (by omega), z_bnd1, b1', z_bnd6]
  exact ⟨_, _, _, _, _, _, _, _, _, _, _, _, _, rfl, a2, b2⟩
theorem p_room (x : Int32) : ∃ room, 1 ≤ room ∧ room ≤ 2000 ∧ imax (1 : Int32) (imin (2000 : Int32) x) = nI room ∧ (if (1 : Int32) ≤ x then (if x ≤ (2000 : Int32) then some x else some (2000 : Int32)) else some (1 : Int32)) = some (nI room) := by
  rcases z_case x with hx | ⟨a, ha, rfl⟩
  · refine ⟨1, by omega, by omega, ?_, ?_⟩
    · unfold imin imax
      rw [if_pos (show x < (2000 : Int32) by
        rw [Int32.lt_iff_toInt_lt] at hx ⊢
        have e0 : (0 : Int32).toInt = 0 := rfl
        have e1 : (2000 : Int32).toInt = 2000 := rfl
        omega), if_neg (show ¬ ((1 : Int32) < x) by
        rw [Int32.lt_iff_toInt_lt] at hx ⊢
        have e0 : (0 : Int32).toInt = 0 := rfl
        have e1 : (1 : Int32).toInt = 1 := rfl
        omega)]; rfl
    · rw [if_neg (by
        have := z_neg_lt hx (k := 1) (by omega)
        intro h
        exact (this ▸ h : False))]; rfl
  · refine ⟨max 1 (min 2000 a), by omega, by omega, ?_, ?_⟩
    · show imax (nI 1) (imin (nI 2000) (nI a)) = _
      rw [z_min (by omega) ha, z_max (by omega) (by omega)]
    · show (if nI 1 ≤ nI a then (if nI a ≤ nI 2000 then _ else _) else _) = _
      by_cases c : 1 ≤ a
      · rw [if_pos (by rw [z_le (by omega) ha]; exact c)]
        by_cases c2 : a ≤ 2000
        · rw [if_pos (by rw [z_le ha (by omega)]; exact c2)]; congr 2; omega
        · rw [if_neg (by rw [z_le ha (by omega)]; exact c2)]
          show some (nI 2000) = _
          congr 2; omega
      · rw [if_neg (by rw [z_le (by omega) ha]; exact c)]
        show some (nI 1) = _
        congr 2; omega
theorem p_eff (x : Int32) : ∃ ef, ef < 10 ∧ imax (0 : Int32) (imin (9 : Int32) x) = nI ef ∧ (if (0 : Int32) ≤ x then (if x ≤ (9 : Int32) then some x else some (9 : Int32)) else some (0 : Int32)) = some (nI ef) := by
  rcases z_case x with hx | ⟨a, ha, rfl⟩
  · refine ⟨0, by omega, ?_, ?_⟩
    · unfold imin imax
      rw [if_pos (show x < (9 : Int32) by
        rw [Int32.lt_iff_toInt_lt] at hx ⊢
        have e0 : (0 : Int32).toInt = 0 := rfl
        have e1 : (9 : Int32).toInt = 9 := rfl
        omega), if_neg (show ¬ ((0 : Int32) < x) by
        rw [Int32.lt_iff_toInt_lt] at hx ⊢
        have e0 : (0 : Int32).toInt = 0 := rfl
        omega)]; rfl
    · rw [if_neg (by
        have := z_neg_lt hx (k := 0) (by omega)
        intro h
        exact (this ▸ h : False))]; rfl
  · refine ⟨min 9 a, by omega, ?_, ?_⟩
    · show imax (nI 0) (imin (nI 9) (nI a)) = _
      rw [z_min (by omega) ha, z_max (by omega) (by omega), Nat.max_eq_right (by omega)]
    · show (if nI 0 ≤ nI a then (if nI a ≤ nI 9 then _ else _) else _) = _
      rw [if_pos (by rw [z_le (by omega) ha]; omega)]
      by_cases c2 : a ≤ 9
      · rw [if_pos (by rw [z_le ha (by omega)]; exact c2)]; congr 2; omega
      · rw [if_neg (by rw [z_le ha (by omega)]; exact c2)]
        show some (nI 9) = _
        congr 2; omega
