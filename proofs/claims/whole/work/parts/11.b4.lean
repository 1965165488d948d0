/-! what holds between the class's values and the model's -/
def JP (ef rm n nF c : Nat) (b cb : Nat → Nat) (i : Nat → Int32) (f p : Nat → Nat → Int32) (j : Nat → Int32) (g : Nat → Nat → Int32) : Prop := (ef < 10 ∧ 1 ≤ rm ∧ rm ≤ 2000 ∧ n ≤ 512 ∧ c ≤ rm) ∧ (i 0 = nI ef ∧ i 4 = nI ef ∧ i 1 = nI rm ∧ j 0 = nI ef ∧ j 1 = nI rm) ∧ (i 2 = nI n ∧ j 3 = nI n ∧ g 6 = f 26 ∧ byt (f 26) b) ∧ (i 3 = nI nF ∧ j 6 = nI nF ∧ fedr cb nF (f 0) (g 12)) ∧ (i 19 = nI c ∧ j 7 = nI c ∧ orel c (f 33) (g 20) ∧ j 8 = i 20) ∧ (cset fl 288 (i 31) (f 31) (f 32) ∧ cset (fun _ => 5) 32 (i 28) (f 28) (f 29)) ∧ dinv (i 5) (i 10) (i 42) (p 1) (p 2) (p 3) (p 4) (p 5) (p 6) (p 7) (f 20) (f 44) (j 4) (j 9) (j 10) (j 11) (g 0) (g 1) (g 2) (g 3) (g 4) (g 5) (g 8)
/-- the two blocks stand for the class's object at xa and the model's at ma -/
def JI (Z : rx_D) (xa ma : Nat) (W V : va_W) : Prop := ∃ (ef rm n nF c : Nat) (b cb : Nat → Nat) (a : Nat → Nat) (i : Nat → Int32) (f p tok : Nat → Nat → Int32) (a' : Nat → Nat) (j : Nat → Int32) (g : Nat → Nat → Int32), W = blkX Z a rm i f p tok ∧ V = blkM Z a' j g ∧ a 0 = xa ∧ a' 0 = ma ∧ JP ef rm n nF c b cb i f p j g
def hd0 (W : va_W) (q ci : Nat) : Prop := ∃ fs, W[0]? = some (ob q ci fs)
theorem hd_X {Z : rx_D} {xa ma : Nat} {W V : va_W} (h : JI Z xa ma W V) : hd0 W xa 11 ∧ hd0 V ma 12 := by
  obtain ⟨ef, rm, n, nF, c, b, cb, a, i, f, p, tok, a', j, g, rfl, rfl, rfl, rfl, _⟩ := h
  exact ⟨⟨_, rfl⟩, ⟨_, rfl⟩⟩
theorem upL0_at (lg : Nat → Int64) (v : Int32) : upL0 lg v (0 : Int32).toNatClampNeg = v.toInt64 := by
  unfold upL0 vp_updL
  rw [if_pos rfl]
theorem nI_z3 {k : Nat} (hk : k ≤ 3) (h : nI k = 0) : k = 0 := z_inj (by omega) (by omega) h
/-- how a call that may throw ends in both -/
def cal (l : Launch) (Z : rx_D) (xa ma lc : Nat) (lg : Nat → Int64) (y : MethodName) (cc : ByteArray) (nL : Nat) (hh : List (Nat × Nat × Nat × Nat)) (as : List Value) (ym : MethodName) (ccm : ByteArray) (nLm : Nat) (asm_ : List Value) (W V : va_W) : Prop := ∃ (k : Nat) (v : Int32) (lg' : Nat → Int64) (PX PM : va_W → Prop), CnW l Z y cc nL (some .int) hh 7 (.ref xa :: (as ++ [.ref lc])) (W ++ [la Z lc 1 lg]) 1 6 (fun r w => ∃ X' L', (r = (some (.int (nI k))) ∧ PX X' ∧ L' = [la Z lc 1 lg']) ∧ w = X' ++ L') ∧ Cn l Z ym ccm nLm (some .int) 1 (.ref ma :: asm_) V 0 0 (fun r w => r = (some (.int v)) ∧ PM w) ∧ (nI k = 0 → lg' (0 : Int32).toNatClampNeg = v.toInt64) ∧ ∀ X' M', PX X' → PM M' → hd0 M' ma 12 ∧ ∃ PT : va_W → Prop, Cn l Z y_MD_thrown b_MD_thrown 1 (some .int) 0 [.ref ma] M' 0 0 (fun r w => r = (some (.int (nI k))) ∧ PT w) ∧ ∀ M'', PT M'' → JI Z xa ma X' M''
/-- how a call that answers always ends in both -/
def cal0 (l : Launch) (Z : rx_D) (xa ma : Nat) (y : MethodName) (cc : ByteArray) (nL d : Nat) (as : List Value) (ym : MethodName) (ccm : ByteArray) (nLm dm : Nat) (W V : va_W) : Prop := ∃ (r : Int32) (PX PM : va_W → Prop), Cn l Z y cc nL (some .int) d (.ref xa :: as) W 0 0 (fun rr w => rr = (some (.int r)) ∧ PX w) ∧ Cn l Z ym ccm nLm (some .int) dm (.ref ma :: as) V 0 0 (fun rr w => rr = (some (.int r)) ∧ PM w) ∧ ∀ X' M', PX X' → PM M' → JI Z xa ma X' M'
