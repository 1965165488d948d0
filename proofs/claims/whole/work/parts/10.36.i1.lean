/-! measuring and filling a set -/
/-- numbers below 0, too -/
def iI (z : Int) : Int32 := Int32.ofInt z
theorem y_toInt {z : Int} (h1 : -2147483648 ≤ z) (h2 : z < 2147483648) : (iI z).toInt = z := by
  unfold iI
  rw [Int32.toInt_ofInt]
  have e : Int32.size = 4294967296 := rfl
  rw [e]
  exact Int.bmod_eq_of_le (by omega) (by omega)
theorem y_nI (a : Nat) : nI a = iI a := by
  unfold nI iI
  exact (Int32.ofInt_eq_ofNat).symm
theorem y_add (a b : Int) : iI a + iI b = iI (a + b) := (Int32.ofInt_add a b).symm
theorem y_sub (a b : Int) : iI a - iI b = iI (a - b) := (Int32.ofInt_sub a b).symm
theorem y_mul (a b : Int) : iI a * iI b = iI (a * b) := (Int32.ofInt_mul a b).symm
theorem y_eq {a b : Int} (ha : -2147483648 ≤ a) (ha2 : a < 2147483648) (hb : -2147483648 ≤ b) (hb2 : b < 2147483648) : (iI a = iI b) = (a = b) := by
  rw [← Int32.toInt_inj, y_toInt ha ha2, y_toInt hb hb2]
theorem y_le {a b : Int} (ha : -2147483648 ≤ a) (ha2 : a < 2147483648) (hb : -2147483648 ≤ b) (hb2 : b < 2147483648) : (iI a ≤ iI b) = (a ≤ b) := by
  rw [Int32.le_iff_toInt_le, y_toInt ha ha2, y_toInt hb hb2]
/-- what is free behind length m -/
def fre (L : Nat → Nat) (n : Nat) : Nat → Int
  | 0 => 1
  | m + 1 => 2 * fre L n m - nl L (m + 1) n
theorem fre_neg (L : Nat → Nat) (n : Nat) {a : Nat} (h : fre L n a < 0) : ∀ d, fre L n (a + d) < 0 := by
  intro d
  induction d with
  | zero => exact h
  | succ d ih =>
    show 2 * fre L n (a + d) - _ < 0
    omega
theorem fre_b (L : Nat → Nat) (n : Nat) (hn : n ≤ 400) : ∀ m, m ≤ 15 → -((2 ^ m - 1) * 400 : Int) ≤ fre L n m ∧ fre L n m ≤ 2 ^ m := by
  intro m
  induction m with
  | zero => intro _; exact ⟨by show -((2 ^ 0 - 1) * 400 : Int) ≤ 1; omega, by show (1 : Int) ≤ 2 ^ 0; omega⟩
  | succ m ih =>
    intro hm
    have q := ih (by omega)
    have q2 := nl_le L (m + 1) n
    have p : (1 : Int) ≤ 2 ^ m := by
      have : (0 : Int) < 2 ^ m := Int.pow_pos (by omega)
      omega
    show -((2 ^ (m + 1) - 1) * 400 : Int) ≤ 2 * fre L n m - _ ∧ 2 * fre L n m - _ ≤ (2 : Int) ^ (m + 1)
    rw [Int.pow_succ]
    omega
/-- the longest length up to m -/
def lgm (L : Nat → Nat) (n : Nat) : Nat → Nat
  | 0 => 0
  | m + 1 => if nl L (m + 1) n = 0 then lgm L n m else m + 1
theorem l_meas (F n : Nat) (per : Nat → Int32) (L : Nat → Nat) (hn : n ≤ 400) (hp : ∀ m, m < 16 → per m = nI (if m = 0 then 0 else nl L m n)) : ∀ (f m : Nat) (q : Nat → Int32), 1 ≤ m → m ≤ 16 → 16 - m < f → (∀ j, j < m → q j = nI (off L n j)) → ∃ q', L_CodeSet_measure_19 F per f (nI m) (nI (lgm L n (m - 1))) (iI (fre L n (m - 1))) q = some (nI 16, nI (lgm L n 15), iI (fre L n 15), q') ∧ (∀ j, j < 16 → q' j = nI (off L n j)) := by
  intro f
  induction f with
  | zero => intros; omega
  | succ f ih =>
    intro m q h1 hm hf I
    unfold L_CodeSet_measure_19 B_CodeSet_measure_19
    by_cases h : 15 < m
    · have e : m = 16 := by omega
      subst e
      exact ⟨q, by simp (disch := omega) only [nm, z_lit, z_one, z_mone, z_neg1, z_neg2, z_pred, z_add, z_mul, z_sub, z_le, z_lt, z_eq, z_tn, z_chk, z_eqm, z_meq, z_lem, z_mle, z_ltm, z_mlt, z_eqq, z_qeq, z_leq, z_qle, z_ltq, z_qlt, z_m1m2, z_m2m1, z_m1m1, z_m2m2, z_bnd1, z_bnd2, z_bnd3, z_bnd4, z_bnd5, z_bnd6, z_bnd7, z_bnd8, z_bnd9, z_bnd10, z_bnd11, z_bnd12, z_bnd13, z_bnd14, z_bnd15, z_bnd16, z_max, z_min, z_n31, z_shl, z_shr, z_us, z_div, z_mod, z_and, z_or, z_xor, if_true, if_false, h], I⟩
    · obtain ⟨w, rfl⟩ : ∃ w, m = w + 1 := ⟨m - 1, by omega⟩
      have ew : w + 1 - 1 = w := by omega
      rw [ew]
      have e1 := I w (by omega)
      have e2 := hp w (by omega)
      have e3 := hp (w + 1) (by omega)
      rw [if_neg (by omega)] at e3
      have eo : off L n w + (if w = 0 then 0 else nl L w n) = off L n (w + 1) := rfl
      have nb := nl_le L (w + 1) n
      have ef : nI 2 * iI (fre L n w) - nI (nl L (w + 1) n) = iI (fre L n (w + 1)) := by
        rw [y_nI 2, y_nI (nl L (w + 1) n), y_mul, y_sub]; rfl
      have key : ∃ q', L_CodeSet_measure_19 F per f (nI (w + 1 + 1)) (nI (lgm L n (w + 1))) (iI (fre L n (w + 1))) (upd q (w + 1) (nI (off L n (w + 1)))) = some (nI 16, nI (lgm L n 15), iI (fre L n 15), q') ∧ (∀ j, j < 16 → q' j = nI (off L n j)) := by
        refine ih (w + 1 + 1) _ (by omega) (by omega) (by omega) (fun j hj => ?_)
        by_cases e : j = w + 1
        · rw [e, z_updE]
        · rw [z_updN e]; exact I j (by omega)
      have elg : lgm L n (w + 1) = if nl L (w + 1) n = 0 then lgm L n w else w + 1 := rfl
      have yy : (if nI (nl L (w + 1) n) ≤ nI 0 then some (nI (lgm L n w)) else some (nI (w + 1))) = some (nI (lgm L n (w + 1))) := by
        rw [elg]
        by_cases c : nl L (w + 1) n = 0
        · rw [if_pos (by rw [z_le (by omega) (by omega)]; omega), if_pos c]
        · rw [if_neg (by rw [z_le (by omega) (by omega)]; omega), if_neg c]
      have n15 : (nI 15 < nI (w + 1)) = False := by rw [z_lt (by omega) (by omega)]; exact eq_false h
      have es : nI (w + 1) - nI 1 = nI w := by rw [z_sub (by omega)]; rfl
      obtain ⟨q', a1, a4⟩ := key
      refine ⟨q', ?_, a4⟩
      simp (disch := omega) only [nm, z_lit, n15, if_false, es, z_chk, z_tn, e1, e2, z_add, eo, e3, ef]
      rw [yy, z_bnd1]
      simp only [z_one, z_add]
      exact a1
