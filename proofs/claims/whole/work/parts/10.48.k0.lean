/-! numbers from outside, sums -/
theorem z_case (x : Int32) : x < 0 ∨ ∃ a, a < 2147483648 ∧ x = nI a := by
  by_cases h : x < 0
  · exact Or.inl h
  · right
    have h1 : ¬ (x.toInt < 0) := fun q => h (by rw [Int32.lt_iff_toInt_lt]; exact q)
    have h2 := Int32.toInt_lt x
    refine ⟨x.toInt.toNat, by omega, ?_⟩
    rw [← Int32.toInt_inj, z_toInt (by omega)]
    omega
theorem z_neg_ne {x : Int32} (h : x < 0) {k : Nat} (hk : k < 2147483648) : (x = nI k) = False := eq_false (fun e => by
  rw [e] at h
  have h' : nI k < nI 0 := h
  rw [z_lt hk (by omega)] at h'
  omega)
theorem z_neg_lt {x : Int32} (h : x < 0) {k : Nat} (hk : k < 2147483648) : (nI k ≤ x) = False := eq_false (fun e => by
  rw [Int32.le_iff_toInt_le, z_toInt hk] at e
  rw [Int32.lt_iff_toInt_lt] at h
  have : (0 : Int32).toInt = 0 := rfl
  omega)
/-- within 0 and h - 1 -/
theorem s_w (F h : Nat) (x : Int32) (hh : h < 2147483648) : (∃ a, a < h ∧ x = nI a ∧ m_MD_within F x (0 : Int32) (nI h - (1 : Int32)) = some (nI 1)) ∨ (m_MD_within F x (0 : Int32) (nI h - (1 : Int32)) = some (nI 0) ∧ (x < 0 ∨ ∃ a, h ≤ a ∧ a < 2147483648 ∧ x = nI a)) := by
  unfold m_MD_within
  rcases z_case x with hx | ⟨a, ha, rfl⟩
  · right
    rw [if_pos hx]
    exact ⟨rfl, Or.inl hx⟩
  · rw [if_neg (by show ¬ (nI a < nI 0); rw [z_lt ha (by omega)]; omega)]
    by_cases c : a < h
    · left
      refine ⟨a, c, rfl, ?_⟩
      show (if nI h - nI 1 < nI a then _ else _) = _
      rw [z_sub (by omega), if_neg (by rw [z_lt (by omega) ha]; omega)]; rfl
    · right
      refine ⟨?_, Or.inr ⟨a, by omega, ha, rfl⟩⟩
      by_cases c0 : h = 0
      · subst c0
        rw [if_pos (by show m1 < nI a; rw [z_mlt ha]; trivial)]; rfl
      · show (if nI h - nI 1 < nI a then _ else _) = _
        rw [z_sub (by omega), if_pos (by rw [z_lt (by omega) ha]; omega)]; rfl
theorem s_byte (F : Nat) (x : Int32) : (∃ a, a < 256 ∧ x = nI a ∧ m_DE_isByte F x = some (nI 1) ∧ m_MD_within F x (0 : Int32) (255 : Int32) = some (nI 1)) ∨ (m_DE_isByte F x = some (nI 0) ∧ m_MD_within F x (0 : Int32) (255 : Int32) = some (nI 0)) := by
  unfold m_MD_within m_DE_isByte
  rcases z_case x with hx | ⟨a, ha, rfl⟩
  · right
    rw [if_pos hx]
    exact ⟨rfl, rfl⟩
  · have n0 : ¬ (nI a < (0 : Int32)) := by show ¬ (nI a < nI 0); rw [z_lt ha (by omega)]; omega
    rw [if_neg n0]
    by_cases c : a < 256
    · have n1 : ¬ ((255 : Int32) < nI a) := by show ¬ (nI 255 < nI a); rw [z_lt (by omega) ha]; omega
      rw [if_neg n1]
      exact Or.inl ⟨a, c, rfl, rfl, rfl⟩
    · have n1 : (255 : Int32) < nI a := by show nI 255 < nI a; rw [z_lt (by omega) ha]; omega
      rw [if_pos n1]
      exact Or.inr ⟨rfl, rfl⟩
/-! sums -/
theorem crc_eq (F : Nat) : ∀ (f : Nat) (y i : Int32), L_DE_crc_24 F f y i = L_MD_sum_128 F f y i := by
  intro f
  induction f with
  | zero => intro y i; rfl
  | succ f ih =>
    intro y i
    unfold L_DE_crc_24 L_MD_sum_128 B_DE_crc_24 B_MD_sum_128
    simp only [ih]
theorem crc_some (F : Nat) : ∀ (f i : Nat) (y : Int32), i ≤ 8 → 8 - i < f → ∃ y', L_DE_crc_24 F f y (nI i) = some (y', nI 8) := by
  intro f
  induction f with
  | zero => intros; omega
  | succ f ih =>
    intro i y hi hf
    unfold L_DE_crc_24 B_DE_crc_24
    by_cases h : 8 ≤ i
    · have e : i = 8 := by omega
      subst e
      rw [if_pos (show (8 : Int32) ≤ nI 8 by decide)]
      exact ⟨y, rfl⟩
    · rw [if_neg (show ¬ ((8 : Int32) ≤ nI i) by show ¬ (nI 8 ≤ nI i); rw [z_le (by omega) (by omega)]; exact h)]
      by_cases c : (y &&& (1 : Int32)) = (1 : Int32)
      · rw [if_pos c, z_bnd1]
        simp only [nm, z_one, z_add]
        exact ih (i + 1) _ (by omega) (by omega)
      · rw [if_neg c, z_bnd1]
        simp only [nm, z_one, z_add]
        exact ih (i + 1) _ (by omega) (by omega)
theorem l_sumj (F N n : Nat) (p bt o : Nat → Int32) (z2 : Int32) (hF : 100000 ≤ F) (hnN : n ≤ N) (hN : N ≤ 2000) (hz : ∀ k, k < n → (if z2 = (0 : Int32) then chk (inb (nI k) 2000) (some (o (nI k).toNatClampNeg)) else chk (inb (nI k) 512) (some (bt (nI k).toNatClampNeg))) = some (p k)) : ∀ (f k : Nat) (a b c : Int32), k ≤ n → n - k < f → ∃ a' b' c', L_DE_adler_7 F N p (nI n) f a b (nI k) = some (a', b', nI n) ∧ L_DE_crc_4 F N p (nI n) f c (nI k) = some (c', nI n) ∧ L_MD_sum_67 F bt o z2 (nI n) f a b c (nI k) = some (a', b', c', nI n) := by
  intro f
  induction f with
  | zero => intros; omega
  | succ f ih =>
    intro k a b c hk hf
    unfold L_DE_adler_7 L_DE_crc_4 L_MD_sum_67 B_DE_adler_7 B_DE_crc_4 B_MD_sum_67
    by_cases h : n ≤ k
    · have e : k = n := by omega
      subst e
      have e1 : nI k ≤ nI k := by rw [z_le (by omega) (by omega)]; omega
      rw [if_pos e1, if_pos e1, if_pos e1]
      exact ⟨a, b, c, rfl, rfl, rfl⟩
    · have e1 : ¬ (nI n ≤ nI k) := by rw [z_le (by omega) (by omega)]; exact h
      have e2 : ¬ (nI N ≤ nI k) := by rw [z_le (by omega) (by omega)]; omega
      rw [if_neg e1, if_neg e1, if_neg e1, if_neg e2, if_neg e2]
      obtain ⟨y, hy⟩ := crc_some F F 0 (c ^^^ p k) (by omega) (by omega)
      have hy2 := crc_eq F F (c ^^^ p k) (nI 0)
      rw [hy] at hy2
      have hzk := hz k (by omega)
      rw [hzk]
      simp only [z_chk (show k < 2147483648 by omega) (show k < N by omega), z_tn (show k < 2147483648 by omega), nm, z_bnd1]
      rw [show (0 : Int32) = nI 0 from rfl, hy, ← hy2, z_bnd2, z_bnd2, z_one, z_add]
      exact ih (k + 1) _ _ _ (by omega) (by omega)
