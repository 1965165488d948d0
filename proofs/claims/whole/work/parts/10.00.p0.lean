/-! the pure side: numbers -/
theorem z_toInt {a : Nat} (h : a < 2147483648) : (nI a).toInt = (a : Int) := by
  unfold nI
  rw [Int32.toInt_ofNat']
  have e : Int32.size = 4294967296 := rfl
  rw [e]
  exact Int.bmod_eq_of_le (by omega) (by omega)
theorem z_lit (n : Nat) : (OfNat.ofNat n : Int32) = nI (OfNat.ofNat n) := rfl
theorem z_one : Int32.ofInt (1) = nI 1 := rfl
def m1 : Int32 := -1
def m2 : Int32 := -2
theorem z_mone : Int32.ofInt (-1) = m1 := rfl
theorem z_neg1 : -nI 1 = m1 := rfl
theorem z_neg2 : -nI 2 = m2 := rfl
theorem z_add (a b : Nat) : nI a + nI b = nI (a + b) := (Int32.ofNat_add a b).symm
theorem z_mul (a b : Nat) : nI a * nI b = nI (a * b) := (Int32.ofNat_mul a b).symm
theorem z_sub {a b : Nat} (h : b ≤ a) : nI a - nI b = nI (a - b) := by
  have e : nI a = nI (a - b) + nI b := by rw [z_add, Nat.sub_add_cancel h]
  rw [e, Int32.add_sub_cancel]
theorem z_pred {a : Nat} (h : 1 ≤ a) : nI a + m1 = nI (a - 1) := by
  rw [← z_sub h, Int32.sub_eq_add_neg]; rfl
theorem z_le {a b : Nat} (ha : a < 2147483648) (hb : b < 2147483648) : (nI a ≤ nI b) = (a ≤ b) := by
  rw [Int32.le_iff_toInt_le, z_toInt ha, z_toInt hb]
  exact propext Int.ofNat_le
theorem z_lt {a b : Nat} (ha : a < 2147483648) (hb : b < 2147483648) : (nI a < nI b) = (a < b) := by
  rw [Int32.lt_iff_toInt_lt, z_toInt ha, z_toInt hb]
  exact propext Int.ofNat_lt
theorem z_eq {a b : Nat} (ha : a < 2147483648) (hb : b < 2147483648) : (nI a = nI b) = (a = b) := by
  rw [← Int32.toInt_inj, z_toInt ha, z_toInt hb]
  exact propext Int.ofNat_inj
theorem z_inj {a b : Nat} (ha : a < 2147483648) (hb : b < 2147483648) (h : nI a = nI b) : a = b := by
  rw [z_eq ha hb] at h; exact h
theorem z_tn {a : Nat} (ha : a < 2147483648) : (nI a).toNatClampNeg = a := by
  rw [← Int32.toNat_toInt, z_toInt ha]; rfl
theorem z_inb {a N : Nat} (ha : a < 2147483648) (h : a < N) : inb (nI a) N = true := by
  unfold inb
  rw [decide_eq_true_eq]
  rintro (q | q)
  · rw [z_lit, z_lt ha (by decide)] at q; exact Nat.not_lt_zero _ q
  · rw [z_tn ha] at q; omega
theorem z_chk {α : Type} {a N : Nat} {x : Option α} (ha : a < 2147483648) (h : a < N) : chk (inb (nI a) N) x = x := by
  rw [z_inb ha h]; rfl
theorem z_m1_toInt : m1.toInt = -1 := rfl
theorem z_m2_toInt : m2.toInt = -2 := rfl
theorem z_eqm {a : Nat} (ha : a < 2147483648) : (nI a = m1) = False := by
  rw [← Int32.toInt_inj, z_toInt ha, z_m1_toInt]
  exact eq_false (by omega)
theorem z_meq {a : Nat} (ha : a < 2147483648) : (m1 = nI a) = False := by
  rw [← Int32.toInt_inj, z_toInt ha, z_m1_toInt]
  exact eq_false (by omega)
theorem z_lem {a : Nat} (ha : a < 2147483648) : (nI a ≤ m1) = False := by
  rw [Int32.le_iff_toInt_le, z_toInt ha, z_m1_toInt]
  exact eq_false (by omega)
theorem z_mle {a : Nat} (ha : a < 2147483648) : (m1 ≤ nI a) = True := by
  rw [Int32.le_iff_toInt_le, z_toInt ha, z_m1_toInt]
  exact eq_true (by omega)
theorem z_ltm {a : Nat} (ha : a < 2147483648) : (nI a < m1) = False := by
  rw [Int32.lt_iff_toInt_lt, z_toInt ha, z_m1_toInt]
  exact eq_false (by omega)
theorem z_mlt {a : Nat} (ha : a < 2147483648) : (m1 < nI a) = True := by
  rw [Int32.lt_iff_toInt_lt, z_toInt ha, z_m1_toInt]
  exact eq_true (by omega)
theorem z_eqq {a : Nat} (ha : a < 2147483648) : (nI a = m2) = False := by
  rw [← Int32.toInt_inj, z_toInt ha, z_m2_toInt]
  exact eq_false (by omega)
theorem z_qeq {a : Nat} (ha : a < 2147483648) : (m2 = nI a) = False := by
  rw [← Int32.toInt_inj, z_toInt ha, z_m2_toInt]
  exact eq_false (by omega)
theorem z_leq {a : Nat} (ha : a < 2147483648) : (nI a ≤ m2) = False := by
  rw [Int32.le_iff_toInt_le, z_toInt ha, z_m2_toInt]
  exact eq_false (by omega)
theorem z_qle {a : Nat} (ha : a < 2147483648) : (m2 ≤ nI a) = True := by
  rw [Int32.le_iff_toInt_le, z_toInt ha, z_m2_toInt]
  exact eq_true (by omega)
theorem z_ltq {a : Nat} (ha : a < 2147483648) : (nI a < m2) = False := by
  rw [Int32.lt_iff_toInt_lt, z_toInt ha, z_m2_toInt]
  exact eq_false (by omega)
theorem z_qlt {a : Nat} (ha : a < 2147483648) : (m2 < nI a) = True := by
  rw [Int32.lt_iff_toInt_lt, z_toInt ha, z_m2_toInt]
  exact eq_true (by omega)
theorem z_m1m2 : (m1 = m2) = False := eq_false (by decide)
theorem z_m2m1 : (m2 = m1) = False := eq_false (by decide)
theorem z_m1m1 : (m1 = m1) = True := eq_true rfl
theorem z_m2m2 : (m2 = m2) = True := eq_true rfl
theorem z_div {a b : Nat} (ha : a < 2147483648) (hb : b < 2147483648) : nI a / nI b = nI (a / b) := by
  have h1 : a / b ≤ a := Nat.div_le_self a b
  rw [← Int32.toInt_inj, Int32.toInt_div, z_toInt ha, z_toInt hb, z_toInt (by omega), ← Int.ofNat_tdiv]
  generalize a / b = c at *
  exact Int.bmod_eq_of_le (by omega) (by omega)
theorem z_mod {a b : Nat} (ha : a < 2147483648) (hb : b < 2147483648) : nI a % nI b = nI (a % b) := by
  have h1 : a % b ≤ a := Nat.mod_le a b
  rw [← Int32.toInt_inj, Int32.toInt_mod, z_toInt ha, z_toInt hb, z_toInt (by omega), ← Int.ofNat_tmod]
theorem z_bv (a : Nat) : (nI a).toBitVec = BitVec.ofNat 32 a := rfl
theorem z_and (a b : Nat) : nI a &&& nI b = nI (a &&& b) := by
  rw [← Int32.toBitVec_inj, Int32.toBitVec_and, z_bv, z_bv, z_bv, BitVec.ofNat_and]
theorem z_or (a b : Nat) : nI a ||| nI b = nI (a ||| b) := by
  rw [← Int32.toBitVec_inj, Int32.toBitVec_or, z_bv, z_bv, z_bv, BitVec.ofNat_or]
theorem z_xor (a b : Nat) : nI a ^^^ nI b = nI (a ^^^ b) := by
  rw [← Int32.toBitVec_inj, Int32.toBitVec_xor, z_bv, z_bv, z_bv, BitVec.ofNat_xor]
theorem z_n31 {k : Nat} (hk : k < 32) : k &&& 31 = k := by
  have h : k &&& 31 = k % 32 := Nat.and_two_pow_sub_one_eq_mod k 5
  rw [h]; exact Nat.mod_eq_of_lt hk
theorem z_k31 {k : Nat} (hk : k < 32) : nI k &&& 31 = nI k := by
  rw [z_lit, z_and]
  exact congrArg nI (z_n31 hk)
theorem z_smod {k : Nat} (hk : k < 32) : ((BitVec.ofNat 32 k).smod 32).toNat = k := by
  have h : ∀ k : Fin 32, ((BitVec.ofNat 32 k.1).smod 32).toNat = k.1 := by decide
  exact h ⟨k, hk⟩
theorem z_shl {a k : Nat} (hk : k < 32) : nI a <<< nI k = nI (a <<< k) := by
  rw [← Int32.toBitVec_inj, Int32.toBitVec_shiftLeft, z_bv, z_bv, z_bv]
  apply BitVec.eq_of_toNat_eq
  rw [BitVec.shiftLeft_eq', BitVec.toNat_shiftLeft, z_smod hk, BitVec.toNat_ofNat, BitVec.toNat_ofNat, Nat.shiftLeft_eq, Nat.shiftLeft_eq, Nat.mod_mul_mod]
theorem z_shr {a k : Nat} (ha : a < 2147483648) (hk : k < 32) : nI a >>> nI k = nI (a >>> k) := by
  rw [← Int32.toBitVec_inj, Int32.toBitVec_shiftRight, z_bv, z_bv, z_bv]
  have hm : (BitVec.ofNat 32 a).msb = false := by
    rw [BitVec.msb_eq_false_iff_two_mul_lt, BitVec.toNat_ofNat]; omega
  apply BitVec.eq_of_toNat_eq
  rw [BitVec.sshiftRight_eq', BitVec.sshiftRight_eq_of_msb_false hm, BitVec.toNat_ushiftRight, z_smod hk, BitVec.toNat_ofNat, BitVec.toNat_ofNat]
  have h2 : a >>> k ≤ a := Nat.shiftRight_le a k
  rw [Nat.mod_eq_of_lt (by omega), Nat.mod_eq_of_lt (by omega)]
theorem z_us {a k : Nat} (ha : a < 4294967296) (hk : k < 32) : rx_us (nI a) (nI k) = nI (a >>> k) := by
  unfold rx_us
  rw [← Int32.toBitVec_inj]
  apply BitVec.eq_of_toNat_eq
  have h2 : a >>> k ≤ a := Nat.shiftRight_le a k
  have e31 : ((31 : Int32).toUInt32) = (31 : UInt32) := rfl
  have e1 : (nI k).toUInt32 = UInt32.ofNat k := rfl
  have e2 : (nI a).toUInt32 = UInt32.ofNat a := rfl
  rw [e31, e1, e2]
  show ((UInt32.ofNat a >>> (UInt32.ofNat k &&& 31))).toNat = (BitVec.ofNat 32 (a >>> k)).toNat
  rw [UInt32.toNat_shiftRight, UInt32.toNat_and, UInt32.toNat_ofNat', UInt32.toNat_ofNat', BitVec.toNat_ofNat]
  have e3 : (31 : UInt32).toNat = 31 := rfl
  rw [e3, Nat.mod_eq_of_lt (a := k) (by omega), z_n31 hk, Nat.mod_eq_of_lt (a := a) (by omega), Nat.mod_eq_of_lt hk, Nat.mod_eq_of_lt (by omega)]
theorem z_max {a b : Nat} (ha : a < 2147483648) (hb : b < 2147483648) : imax (nI a) (nI b) = nI (max a b) := by
  unfold imax
  by_cases h : a < b
  · rw [if_pos (by rw [z_lt ha hb]; exact h), Nat.max_eq_right (Nat.le_of_lt h)]
  · rw [if_neg (by rw [z_lt ha hb]; exact h), Nat.max_eq_left (by omega)]
theorem z_min {a b : Nat} (ha : a < 2147483648) (hb : b < 2147483648) : imin (nI a) (nI b) = nI (min a b) := by
  unfold imin
  by_cases h : b < a
  · rw [if_pos (by rw [z_lt hb ha]; exact h), Nat.min_eq_right (Nat.le_of_lt h)]
  · rw [if_neg (by rw [z_lt hb ha]; exact h), Nat.min_eq_left (by omega)]
theorem z_updE {f : Nat → Int32} {k : Nat} {x : Int32} : upd f k x k = x := by unfold upd; rw [if_pos rfl]
theorem z_updN {f : Nat → Int32} {k j : Nat} {x : Int32} (h : j ≠ k) : upd f k x j = f j := by unfold upd; rw [if_neg h]
theorem z_upd (f : Nat → Int32) (k : Nat) (x : Int32) (j : Nat) : upd f k x j = if j = k then x else f j := rfl
theorem z_bnd1 {A1 R : Type} (a1 : A1) (f : A1 → Option R) : bnd1 (some a1) f = f a1 := rfl
theorem z_bnd2 {A1 A2 R : Type} (a1 : A1) (a2 : A2) (f : A1 → A2 → Option R) : bnd2 (some (a1, a2)) f = f a1 a2 := rfl
theorem z_bnd3 {A1 A2 A3 R : Type} (a1 : A1) (a2 : A2) (a3 : A3) (f : A1 → A2 → A3 → Option R) : bnd3 (some (a1, a2, a3)) f = f a1 a2 a3 := rfl
theorem z_bnd4 {A1 A2 A3 A4 R : Type} (a1 : A1) (a2 : A2) (a3 : A3) (a4 : A4) (f : A1 → A2 → A3 → A4 → Option R) : bnd4 (some (a1, a2, a3, a4)) f = f a1 a2 a3 a4 := rfl
theorem z_bnd5 {A1 A2 A3 A4 A5 R : Type} (a1 : A1) (a2 : A2) (a3 : A3) (a4 : A4) (a5 : A5) (f : A1 → A2 → A3 → A4 → A5 → Option R) : bnd5 (some (a1, a2, a3, a4, a5)) f = f a1 a2 a3 a4 a5 := rfl
theorem z_bnd6 {A1 A2 A3 A4 A5 A6 R : Type} (a1 : A1) (a2 : A2) (a3 : A3) (a4 : A4) (a5 : A5) (a6 : A6) (f : A1 → A2 → A3 → A4 → A5 → A6 → Option R) : bnd6 (some (a1, a2, a3, a4, a5, a6)) f = f a1 a2 a3 a4 a5 a6 := rfl
