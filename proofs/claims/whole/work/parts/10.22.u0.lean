/-! codes of the tokens' own are the same, however they are found -/
theorem um_congr {L L' : Nat → Nat} {lo : Nat} : ∀ k, (∀ i, i < k → L i = L' i) → um L lo k = um L' lo k := by
  intro k
  induction k with
  | zero => intro _; rfl
  | succ k ih => intro h; rw [um, um, ih (fun i hi => h i (by omega)), h k (by omega)]
theorem rst_congr {x x' : Nat → Nat} : ∀ k, (∀ i, i ≤ k → x i = x' i) → rst x k = rst x' k := by
  intro k
  induction k with
  | zero => intro _; rfl
  | succ k ih =>
    intro h
    have e := ih (fun i hi => h i (by omega))
    have q := rst_le x k
    rw [rst, rst, ← e, h (k + 1) (by omega), h (rst x k).2 (by omega)]
theorem rows_congr {x x' : Nat → Nat} {n : Nat} (hn : 0 < n) (h : ∀ i, i < n → x i = x' i) : rows x n = rows x' n := by
  unfold rows
  have e := rst_congr (x := x) (x' := x') (n - 1) (fun i hi => h i (by omega))
  have q := rst_le x (n - 1)
  rw [← e, h (rst x (n - 1)).2 (by omega)]
theorem rowl_congr {L L' D D' : Nat → Nat} (hL : ∀ k, k < 286 → L k = L' k) (hD : ∀ k, k < 30 → D k = D' k) : rowl L D = rowl L' D' := by
  unfold rowl
  have e1 := um_congr (lo := 257) 286 hL
  have e2 := um_congr (lo := 1) 30 hD
  have a1 := um_le L 257 286
  have a2 := um_ge L 257 286 (by omega)
  have a3 := um_le D 1 30
  rw [← e1, ← e2]
  refine rows_congr (by omega) (fun i hi => ?_)
  unfold xr
  by_cases c : i < um L 257 286
  · rw [if_pos c, if_pos c]; exact hL i (by omega)
  · rw [if_neg c, if_neg c]; exact hD _ (by omega)
theorem lcode_uniq {c e e' : Nat → Nat} (hc : ∀ s, s < 19 → c s ≤ 400) (h : lcode c e) (h' : lcode c e') : ∀ k, k < 19 → e k = e' k := by
  obtain ⟨i, hi, J, H, h7⟩ := h
  obtain ⟨i', hi', J', H', h7'⟩ := h'
  have un : ∀ j d d', huff (hlv c j) 19 d → huff (hlv c j) 19 d' → ∀ k, k < 19 → d k = d' k := fun j d d' q q' k hk => by
    have hcB := hlv_le hc j
    have b1 := huff_1000 q hcB k hk
    have b2 := huff_1000 q' hcB k hk
    have s1 := sm_le (hlv c j) 0 400 19 (fun i _ h2 => hcB i (by omega))
    exact huff_uniq q q' (by omega) (by omega) (by omega) k hk (by omega) (by omega)
  rcases Nat.lt_trichotomy i i' with q | q | q
  · obtain ⟨d, q1, q2, k, hk, q3⟩ := J' i q
    have := un i e d H q1 k hk
    have := h7 k hk
    omega
  · subst q
    exact un i e e' H H'
  · obtain ⟨d, q1, q2, k, hk, q3⟩ := J i' q
    have := un i' e' d H' q1 k hk
    have := h7' k hk
    omega
theorem own_uniq {b T Fa : Nat → Nat} {fr to K : Nat} {L D e L' D' e' : Nat → Nat} (h : tok T Fa fr to K) (hb : ∀ j, j < 512 → b j < 256) (hto : to ≤ 512) (H : own b T Fa fr K L D e) (H' : own b T Fa fr K L' D' e') : (∀ k, k < 286 → L k = L' k) ∧ (∀ k, k < 30 → D k = D' k) ∧ rowl L D = rowl L' D' ∧ (∀ k, k < 19 → e k = e' k) := by
  have K5 := tok_pos h K (Nat.le_refl _)
  have s1 := lc_all h hb hto 286 (by omega)
  have s2 := fc_all h 30 (by omega)
  obtain ⟨bL, bD, bE⟩ := own_le h hb hto H
  obtain ⟨bL', bD', bE'⟩ := own_le h hb hto H'
  have q1 : ∀ k, k < 286 → L k = L' k := fun k hk => huff_uniq H.1 H'.1 (by omega) (by omega) (by omega) k hk (by have := bL k hk; omega) (by have := bL' k hk; omega)
  have q2 : ∀ k, k < 30 → D k = D' k := fun k hk => huff_uniq H.2.1 H'.2.1 (by omega) (by omega) (by omega) k hk (by have := bD k hk; omega) (by have := bD' k hk; omega)
  have q3 := rowl_congr q1 q2
  obtain ⟨rf1, rf2, _⟩ := rowl_facts (L := L) (D := D) (fun k hk => by have := bL k hk; omega) (fun k hk => by have := bD k hk; omega)
  have h3 := H'.2.2
  rw [← q3] at h3
  exact ⟨q1, q2, q3, lcode_uniq (fun s hs => by have := rcnt_le (rowl L D) s; omega) H.2.2 h3⟩
theorem owb_uniq {b T Fa : Nat → Nat} {fr to K : Nat} {L D e L' D' e' : Nat → Nat} (h : tok T Fa fr to K) (hb : ∀ j, j < 512 → b j < 256) (hto : to ≤ 512) (H : own b T Fa fr K L D e) (H' : own b T Fa fr K L' D' e') : owb b T Fa fr K L D e = owb b T Fa fr K L' D' e' := by
  obtain ⟨q1, q2, q3, q4⟩ := own_uniq h hb hto H H'
  obtain ⟨bL, bD, bE⟩ := own_le h hb hto H
  obtain ⟨rf1, rf2, _⟩ := rowl_facts (L := L) (D := D) (fun k hk => by have := bL k hk; omega) (fun k hk => by have := bD k hk; omega)
  unfold owb toldc rbits tbits
  rw [← q3, um_congr (L := fun i => e (tbn 4 i)) (L' := fun i => e' (tbn 4 i)) 19 (fun i hi => q4 _ (tb4 i hi).2)]
  congr 1
  · congr 1
    exact sm_congr (fun i _ hi => by rw [q4 _ (rok_re rf2 (i := i) (by omega)).1])
  · congr 1
    congr 1
    · rw [q1 256 (by omega)]
      congr 1
      exact sm_congr (fun i _ hi => q1 _ (tsy_lt h hb hto (k := i) (by omega)).1)
    · exact sm_congr (fun i _ hi => by
        have q := h.1 i (by omega)
        by_cases e : T i = 1
        · simp only [if_pos e]
        · simp only [if_neg e]
          exact q2 _ (fs_facts (Fa i) (by omega) (by omega)).1)
/-- what a tried block is, with its own codes -/
theorem bspec_own {b : Nat → Nat} {ef fr to : Nat} {T Fa : Nat → Nat} {K r kd bt : Nat} (hb : ∀ j, j < 512 → b j < 256) (hto : to ≤ 512) (H : bspec b ef fr to T Fa K r kd bt) (h0 : ef ≠ 0) : tok T Fa fr to K ∧ (∃ L D e, own b T Fa fr K L D e) ∧ (∀ L D e, own b T Fa fr K L D e → kd = kd2 (stb (to - fr)) (fxb b T Fa fr K) (owb b T Fa fr K L D e) ∧ bt = kb2 (stb (to - fr)) (fxb b T Fa fr K) (owb b T Fa fr K L D e)) := by
  rcases H with H | ⟨_, K0, L0, D0, e0, L, D, e, w1, w2, w3, w4, w5⟩
  · exact absurd H.1 h0
  · have hm : ∀ p, fr ≤ p → p < to → (mls b to (4 * ef) p = 0 ∨ (3 ≤ mls b to (4 * ef) p ∧ mls b to (4 * ef) p ≤ 258 ∧ 1 ≤ mds b to (4 * ef) p)) ∧ mds b to (4 * ef) p < 512 ∧ p + mls b to (4 * ef) p ≤ to := fun p h1 h2 => by
      have := mls_facts b to (4 * ef) p hto h2; omega
    have ok := (trace_ok hm _ _ _ _ w3 ⟨walk_tok (ltm_ok hto) w1, w2⟩).1
    refine ⟨ok.1, ⟨L, D, e, ok.2⟩, fun L' D' e' H' => ?_⟩
    have e1 := owb_uniq ok.1 hb hto H' ok.2
    rw [e1, w4, w5]
    exact ⟨rfl, rfl⟩
theorem bspec_facts {b : Nat → Nat} {ef fr to : Nat} {T Fa : Nat → Nat} {K r kd bt : Nat} (hb : ∀ j, j < 512 → b j < 256) (hft : fr ≤ to) (hto : to ≤ 512) (hef : ef < 10) (H : bspec b ef fr to T Fa K r kd bt) : bt ≤ stb (to - fr) ∧ K ≤ to - fr ∧ r ≤ 3 ∧ kd ≤ 2 := by
  by_cases h0 : ef = 0
  · rcases H with H | H
    · omega
    · exact absurd h0 H.1
  · obtain ⟨h1, ⟨L, D, e, h2⟩, h3⟩ := bspec_own hb hto H h0
    have h4 := h3 L D e h2
    have K5 := tok_pos h1 K (Nat.le_refl _)
    have hr : r ≤ 3 := by
      rcases H with H | ⟨_, K0, L0, D0, e0, L, D, e, w1, w2, w3, w4, w5⟩
      · omega
      · have hm : ∀ p, fr ≤ p → p < to → (mls b to (4 * ef) p = 0 ∨ (3 ≤ mls b to (4 * ef) p ∧ mls b to (4 * ef) p ≤ 258 ∧ 1 ≤ mds b to (4 * ef) p)) ∧ mds b to (4 * ef) p < 512 ∧ p + mls b to (4 * ef) p ≤ to := fun p h1 h2 => by
          have := mls_facts b to (4 * ef) p hto h2; omega
        have := (trace_ok hm _ _ _ _ w3 ⟨walk_tok (ltm_ok hto) w1, w2⟩).2
        omega
    refine ⟨by rw [h4.2]; unfold kb2; omega, by omega, hr, ?_⟩
    rw [h4.1]; unfold kd2; split
    · omega
    · split <;> omega
