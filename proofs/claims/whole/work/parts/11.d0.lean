/-! THE CLAIM OUT OF ONE WALK OF THE LAW'S BODY. Your part is whole_start (and what it stands on); all else here is the same for every law, but numbers. -/
def R_law : String := "DeflateEffortLaw"
def lw_P (b : Addr) (xs : List Int32) (args : Array Value) (s : State) : Prop := args = #[.ref b] ∧ s.IntsAt b xs ∧ xs.length ≤ 1538 ∧ (Jvm.Cond.and given_1 narrow_1).before args s = true
def lw_Q (_ : Array Value) (s : State) (o : Outcome) (t : State) : Prop := o = .returned (some (.int 1)) ∧ Framed s o t [] 601024 7293000
def lw_Z (below : List Frame) (a : Array Value) (s : State) : State → Prop := fun t => ∃ o, t.status = .running ∧ Ended t below o ∧ lw_Q a s o t
/-- the law's own end, with 1 on the stack, nothing written that was there before, its room as the claim has it -/
theorem lw_ret {p : Program} {l : Launch} {e : Env} {s : State} {m : MethodId} {below : List Frame} {meth : Method} {c : Code} {b : Nat} (hx : p.tables.exec = Jvm.exec) (hb : c.code = code) (hr : meth.sig.returnType = ret) (hlocks : meth.locks = false) {pc : Nat} {H : Heap} {ls : Array Slot} (hdg : decode code pc = .ok (.ireturn, 1)) : W p l e room_1 s m #[Value.ref b] below meth c H [] 601024 7293000 (lw_Z below #[Value.ref b] s) (F0 m pc ls [.int 1]) := by
  intro T hT X
  obtain ⟨fs, hret, hrun, hended, hW, hframe⟩ := X.leave (v := some (.int 1)) (hlocks := hlocks) (fun h => by rw [hr] at h; cases h)
  have hmeth' : T.vm.method? m = some meth := X.method'
  refine ⟨T.setFrames fs, ?_, .returned (some (.int 1)), hrun, hended, rfl, ⟨_, rfl⟩, hW, hframe⟩
  jvm_step X.here [X.here.top, hx, hb, hdg, hmeth', hr, ret, narrow_b1]
  (try refine ⟨rfl, ?_⟩); (try refine ⟨rfl, ?_⟩)
  first | (intro acts; rw [hret _ acts rfl rfl rfl]) | rw [hret _ _ rfl rfl rfl]
  exact Steps.refl _
/-- what holds at the law's entry: the machine, the code, the tables' words (any of lw_tbl by 'hts w (by decide +kernel)'), the script of L ints xs at the cell b, what the Statement gives of the start (any of its parts by flat_of_before) -/
def lw_At (p : Program) (s : State) (m : MethodId) (meth : Method) (c : Code) (b L : Nat) (xs : Nat → Int32) : Prop :=
  p.tables.exec = Jvm.exec ∧ c.code = code ∧ meth.sig.returnType = ret ∧ c.maxLocals = 7 ∧ s.vm.findClass R_law = some m.cls ∧ (∀ w ∈ lw_tbl, w.before #[Value.ref b] s = true) ∧ va_X b L xs s s.heap ∧ b < s.heap.size ∧ meth.locks = false ∧ (Jvm.Cond.and given_1 narrow_1).before #[Value.ref b] s = true
abbrev lw_G : Cond := Jvm.Cond.and given_1 narrow_1
set_option maxRecDepth 20000 in
theorem ts_ar0 : Cond.arrayOf (Term.static "DeflateEffort" "LENGTH_BASE" "[I") .int ∈ flatC lw_G := by decide +kernel
set_option maxRecDepth 20000 in
theorem ts_ln0 : Cond.eq (.length (Term.static "DeflateEffort" "LENGTH_BASE" "[I")) (.int (Int32.ofNat 29)) ∈ flatC lw_G := by decide +kernel
set_option maxRecDepth 20000 in
theorem ts_el0 : ∀ j, j < 29 → Cond.eq (.elem (Term.static "DeflateEffort" "LENGTH_BASE" "[I") (.int (Int32.ofNat j))) (.int (tb 0 j)) ∈ flatC lw_G := by decide +kernel
theorem ts_T0 {b : Nat} {s : State} (hs : ∀ w ∈ flatC lw_G, w.before #[Value.ref b] s = true) (hts : ∀ w ∈ lw_tbl, w.before #[Value.ref b] s = true) : ∃ t : Nat, va_Z "DeflateEffort" (tnm 0) "[I" (.ref t) (fun q => s.heap.size ≤ q) s s.heap ∧ va_T .int t (tn 0) (fun j => .int (tb 0 j)) (fun q => s.heap.size ≤ q) s s.heap := by
  have hA : ∀ a : Nat, a < s.heap.size → ¬ (fun q : Nat => s.heap.size ≤ q) a := fun a h => Nat.not_le.mpr h
  obtain ⟨t, h1, h2⟩ := va_Tof (f := fun j => .int (tb 0 j)) (by decide) (hs _ ts_ar0) (va_eqt (hs _ ts_ln0)) (fun j hj => va_eqt (hs _ (ts_el0 j hj))) hA
  exact ⟨t, va_Zref (hts _ (List.mem_append_right _ (rx_T3 (List.mem_of_getElem? (i := 53) (by decide +kernel))))) (hts _ (List.mem_append_right _ (rx_T1 (List.mem_of_getElem? (i := 1) (by decide +kernel))))) h1 hA, h2⟩
set_option maxRecDepth 20000 in
theorem ts_ar1 : Cond.arrayOf (Term.static "DeflateEffort" "LENGTH_EXTRA" "[I") .int ∈ flatC lw_G := by decide +kernel
set_option maxRecDepth 20000 in
theorem ts_ln1 : Cond.eq (.length (Term.static "DeflateEffort" "LENGTH_EXTRA" "[I")) (.int (Int32.ofNat 29)) ∈ flatC lw_G := by decide +kernel
set_option maxRecDepth 20000 in
theorem ts_el1 : ∀ j, j < 29 → Cond.eq (.elem (Term.static "DeflateEffort" "LENGTH_EXTRA" "[I") (.int (Int32.ofNat j))) (.int (tb 1 j)) ∈ flatC lw_G := by decide +kernel
theorem ts_T1 {b : Nat} {s : State} (hs : ∀ w ∈ flatC lw_G, w.before #[Value.ref b] s = true) (hts : ∀ w ∈ lw_tbl, w.before #[Value.ref b] s = true) : ∃ t : Nat, va_Z "DeflateEffort" (tnm 1) "[I" (.ref t) (fun q => s.heap.size ≤ q) s s.heap ∧ va_T .int t (tn 1) (fun j => .int (tb 1 j)) (fun q => s.heap.size ≤ q) s s.heap := by
  have hA : ∀ a : Nat, a < s.heap.size → ¬ (fun q : Nat => s.heap.size ≤ q) a := fun a h => Nat.not_le.mpr h
  obtain ⟨t, h1, h2⟩ := va_Tof (f := fun j => .int (tb 1 j)) (by decide) (hs _ ts_ar1) (va_eqt (hs _ ts_ln1)) (fun j hj => va_eqt (hs _ (ts_el1 j hj))) hA
  exact ⟨t, va_Zref (hts _ (List.mem_append_right _ (rx_T3 (List.mem_of_getElem? (i := 123) (by decide +kernel))))) (hts _ (List.mem_append_right _ (rx_T1 (List.mem_of_getElem? (i := 1) (by decide +kernel))))) h1 hA, h2⟩
set_option maxRecDepth 20000 in
theorem ts_ar2 : Cond.arrayOf (Term.static "DeflateEffort" "DISTANCE_BASE" "[I") .int ∈ flatC lw_G := by decide +kernel
set_option maxRecDepth 20000 in
theorem ts_ln2 : Cond.eq (.length (Term.static "DeflateEffort" "DISTANCE_BASE" "[I")) (.int (Int32.ofNat 30)) ∈ flatC lw_G := by decide +kernel
set_option maxRecDepth 20000 in
theorem ts_el2 : ∀ j, j < 30 → Cond.eq (.elem (Term.static "DeflateEffort" "DISTANCE_BASE" "[I") (.int (Int32.ofNat j))) (.int (tb 2 j)) ∈ flatC lw_G := by decide +kernel
theorem ts_T2 {b : Nat} {s : State} (hs : ∀ w ∈ flatC lw_G, w.before #[Value.ref b] s = true) (hts : ∀ w ∈ lw_tbl, w.before #[Value.ref b] s = true) : ∃ t : Nat, va_Z "DeflateEffort" (tnm 2) "[I" (.ref t) (fun q => s.heap.size ≤ q) s s.heap ∧ va_T .int t (tn 2) (fun j => .int (tb 2 j)) (fun q => s.heap.size ≤ q) s s.heap := by
  have hA : ∀ a : Nat, a < s.heap.size → ¬ (fun q : Nat => s.heap.size ≤ q) a := fun a h => Nat.not_le.mpr h
  obtain ⟨t, h1, h2⟩ := va_Tof (f := fun j => .int (tb 2 j)) (by decide) (hs _ ts_ar2) (va_eqt (hs _ ts_ln2)) (fun j hj => va_eqt (hs _ (ts_el2 j hj))) hA
  exact ⟨t, va_Zref (hts _ (List.mem_append_right _ (rx_T3 (List.mem_of_getElem? (i := 59) (by decide +kernel))))) (hts _ (List.mem_append_right _ (rx_T1 (List.mem_of_getElem? (i := 1) (by decide +kernel))))) h1 hA, h2⟩
set_option maxRecDepth 20000 in
theorem ts_ar3 : Cond.arrayOf (Term.static "DeflateEffort" "DISTANCE_EXTRA" "[I") .int ∈ flatC lw_G := by decide +kernel
set_option maxRecDepth 20000 in
theorem ts_ln3 : Cond.eq (.length (Term.static "DeflateEffort" "DISTANCE_EXTRA" "[I")) (.int (Int32.ofNat 30)) ∈ flatC lw_G := by decide +kernel
set_option maxRecDepth 20000 in
theorem ts_el3 : ∀ j, j < 30 → Cond.eq (.elem (Term.static "DeflateEffort" "DISTANCE_EXTRA" "[I") (.int (Int32.ofNat j))) (.int (tb 3 j)) ∈ flatC lw_G := by decide +kernel
theorem ts_T3 {b : Nat} {s : State} (hs : ∀ w ∈ flatC lw_G, w.before #[Value.ref b] s = true) (hts : ∀ w ∈ lw_tbl, w.before #[Value.ref b] s = true) : ∃ t : Nat, va_Z "DeflateEffort" (tnm 3) "[I" (.ref t) (fun q => s.heap.size ≤ q) s s.heap ∧ va_T .int t (tn 3) (fun j => .int (tb 3 j)) (fun q => s.heap.size ≤ q) s s.heap := by
  have hA : ∀ a : Nat, a < s.heap.size → ¬ (fun q : Nat => s.heap.size ≤ q) a := fun a h => Nat.not_le.mpr h
  obtain ⟨t, h1, h2⟩ := va_Tof (f := fun j => .int (tb 3 j)) (by decide) (hs _ ts_ar3) (va_eqt (hs _ ts_ln3)) (fun j hj => va_eqt (hs _ (ts_el3 j hj))) hA
  exact ⟨t, va_Zref (hts _ (List.mem_append_right _ (rx_T3 (List.mem_of_getElem? (i := 125) (by decide +kernel))))) (hts _ (List.mem_append_right _ (rx_T1 (List.mem_of_getElem? (i := 1) (by decide +kernel))))) h1 hA, h2⟩
set_option maxRecDepth 20000 in
theorem ts_ar4 : Cond.arrayOf (Term.static "DeflateEffort" "LENGTHS_ORDER" "[I") .int ∈ flatC lw_G := by decide +kernel
set_option maxRecDepth 20000 in
theorem ts_ln4 : Cond.eq (.length (Term.static "DeflateEffort" "LENGTHS_ORDER" "[I")) (.int (Int32.ofNat 19)) ∈ flatC lw_G := by decide +kernel
set_option maxRecDepth 20000 in
theorem ts_el4 : ∀ j, j < 19 → Cond.eq (.elem (Term.static "DeflateEffort" "LENGTHS_ORDER" "[I") (.int (Int32.ofNat j))) (.int (tb 4 j)) ∈ flatC lw_G := by decide +kernel
theorem ts_T4 {b : Nat} {s : State} (hs : ∀ w ∈ flatC lw_G, w.before #[Value.ref b] s = true) (hts : ∀ w ∈ lw_tbl, w.before #[Value.ref b] s = true) : ∃ t : Nat, va_Z "DeflateEffort" (tnm 4) "[I" (.ref t) (fun q => s.heap.size ≤ q) s s.heap ∧ va_T .int t (tn 4) (fun j => .int (tb 4 j)) (fun q => s.heap.size ≤ q) s s.heap := by
  have hA : ∀ a : Nat, a < s.heap.size → ¬ (fun q : Nat => s.heap.size ≤ q) a := fun a h => Nat.not_le.mpr h
  obtain ⟨t, h1, h2⟩ := va_Tof (f := fun j => .int (tb 4 j)) (by decide) (hs _ ts_ar4) (va_eqt (hs _ ts_ln4)) (fun j hj => va_eqt (hs _ (ts_el4 j hj))) hA
  exact ⟨t, va_Zref (hts _ (List.mem_append_right _ (rx_T3 (List.mem_of_getElem? (i := 113) (by decide +kernel))))) (hts _ (List.mem_append_right _ (rx_T1 (List.mem_of_getElem? (i := 1) (by decide +kernel))))) h1 hA, h2⟩
set_option maxRecDepth 20000 in
theorem nc_0 : Cond.not (.castable "java/lang/UnsupportedOperationException" "java/lang/IllegalArgumentException") ∈ flatC lw_G := by decide +kernel
set_option maxRecDepth 20000 in
theorem nc_1 : Cond.not (.castable "java/lang/IllegalArgumentException" "java/lang/IndexOutOfBoundsException") ∈ flatC lw_G := by decide +kernel
set_option maxRecDepth 20000 in
theorem nc_2 : Cond.not (.castable "java/lang/UnsupportedOperationException" "java/lang/IndexOutOfBoundsException") ∈ flatC lw_G := by decide +kernel
set_option maxRecDepth 20000 in
theorem sr_0 : Cond.isRef (.static "java/lang/Throwable" "UNASSIGNED_STACK" "[Ljava/lang/StackTraceElement;") ∈ flatC lw_G := by decide +kernel
set_option maxRecDepth 20000 in
theorem sr_1 : Cond.isRef (.static "java/lang/Throwable" "SUPPRESSED_SENTINEL" "Ljava/util/List;") ∈ flatC lw_G := by decide +kernel
set_option maxHeartbeats 4000000 in
theorem g_GX {b : Nat} {s : State} {cD : ClassId} (hD : s.vm.findClass "DeflateEffort" = some cD) (hs : ∀ w ∈ flatC lw_G, w.before #[Value.ref b] s = true) (hts : ∀ w ∈ lw_tbl, w.before #[Value.ref b] s = true) : rx_GX (fun q => s.heap.size ≤ q) s := by
  have hA : ∀ a : Nat, a < s.heap.size → ¬ (fun q : Nat => s.heap.size ≤ q) a := fun a h => Nat.not_le.mpr h
  have hstr : ∀ (k : Nat) (t : String), Cond.stringRef "DeflateEffort" k t ∈ lw_tbl → ∃ a, vk_R "DeflateEffort" k t a s := fun k t h => by
    obtain ⟨_, _, _, a, -, -, -, -, -, h2⟩ := Cond.stringRef_spec hD (hts _ h)
    exact ⟨a, vk_R.of (hts _ h) h2⟩
  have hlay : ∀ (n d : String), Cond.laysStatic "java/lang/Throwable" n d ∈ lw_tbl → va_Nw (.laysStatic Bundle.tN n d) s := fun n d h => by
    have h9 : (Cond.laysStatic Bundle.tN n d).before #[Value.ref b] s = true := hts _ h
    exact h9
  refine ⟨List.forall_mem_cons.mpr ⟨va_Nw.of rfl (hts _ (List.mem_append_right _ (rx_T3 (List.mem_of_getElem? (i := 167) (by decide +kernel))))), List.forall_mem_cons.mpr ⟨va_Nw.of rfl (hts _ (List.mem_append_right _ (rx_T5 (List.mem_of_getElem? (i := 219) (by decide +kernel))))), List.forall_mem_cons.mpr ⟨va_Nw.of rfl (hts _ (List.mem_append_right _ (rx_T6 (List.mem_of_getElem? (i := 3) (by decide +kernel))))), fun _ h => absurd h List.not_mem_nil⟩⟩⟩, List.forall_mem_cons.mpr ⟨va_Nc.of (hs _ nc_0), List.forall_mem_cons.mpr ⟨va_Nc.of (hs _ nc_1), List.forall_mem_cons.mpr ⟨va_Nc.of (hs _ nc_2), fun _ h => absurd h List.not_mem_nil⟩⟩⟩, List.forall_mem_cons.mpr ⟨hstr _ _ (List.mem_append_right _ (rx_T5 (List.mem_of_getElem? (i := 215) (by decide +kernel)))), List.forall_mem_cons.mpr ⟨hstr _ _ (List.mem_append_right _ (rx_T5 (List.mem_of_getElem? (i := 226) (by decide +kernel)))), List.forall_mem_cons.mpr ⟨hstr _ _ (List.mem_append_right _ (rx_T6 (List.mem_of_getElem? (i := 10) (by decide +kernel)))), List.forall_mem_cons.mpr ⟨hstr _ _ (List.mem_append_right _ (rx_T6 (List.mem_of_getElem? (i := 25) (by decide +kernel)))), List.forall_mem_cons.mpr ⟨hstr _ _ (List.mem_append_right _ (rx_T6 (List.mem_of_getElem? (i := 33) (by decide +kernel)))), List.forall_mem_cons.mpr ⟨hstr _ _ (List.mem_append_right _ (rx_T6 (List.mem_of_getElem? (i := 34) (by decide +kernel)))), List.forall_mem_cons.mpr ⟨hstr _ _ (List.mem_append_right _ (rx_T6 (List.mem_of_getElem? (i := 42) (by decide +kernel)))), List.forall_mem_cons.mpr ⟨hstr _ _ (List.mem_append_right _ (rx_T6 (List.mem_of_getElem? (i := 50) (by decide +kernel)))), List.forall_mem_cons.mpr ⟨hstr _ _ (List.mem_append_right _ (rx_T6 (List.mem_of_getElem? (i := 58) (by decide +kernel)))), List.forall_mem_cons.mpr ⟨hstr _ _ (List.mem_append_right _ (rx_T6 (List.mem_of_getElem? (i := 74) (by decide +kernel)))), fun _ h => absurd h List.not_mem_nil⟩⟩⟩⟩⟩⟩⟩⟩⟩⟩, List.forall_mem_cons.mpr ⟨⟨hlay _ _ (List.mem_append_right _ (rx_T3 (List.mem_of_getElem? (i := 192) (by decide +kernel)))), va_Zqof (hts _ (List.mem_append_right _ (rx_T3 (List.mem_of_getElem? (i := 192) (by decide +kernel))))) (hts _ (List.mem_append_right _ (rx_T1 (List.mem_of_getElem? (i := 16) (by decide +kernel))))) (hs _ sr_0) hA⟩, List.forall_mem_cons.mpr ⟨⟨hlay _ _ (List.mem_append_right _ (rx_T3 (List.mem_of_getElem? (i := 194) (by decide +kernel)))), va_Zqof (hts _ (List.mem_append_right _ (rx_T3 (List.mem_of_getElem? (i := 194) (by decide +kernel))))) (hts _ (List.mem_append_right _ (rx_T1 (List.mem_of_getElem? (i := 16) (by decide +kernel))))) (hs _ sr_1) hA⟩, fun _ h => absurd h List.not_mem_nil⟩⟩⟩
theorem frame_none {s t : State} {o : Outcome} {L : List Loc} {k n : Nat} (h : FrameEnd s o t L k n) (hL : ∀ q ∈ L, s.heap.size ≤ q.base) : Framed s o t [] k n := by
  obtain ⟨h1, h2, e1, e2, e3, e4, e5, e6⟩ := h
  refine ⟨h1, h2, e1, e2, e3, e4, e5, fun a c hc => ?_⟩
  obtain ⟨c', g1, g2, g3, g4⟩ := e6 a c hc
  refine ⟨c', g1, g2, g3, fun i _ => g4 i (fun hm => ?_)⟩
  have h9 : s.heap.size ≤ a := hL _ hm
  have h8 := (Array.getElem?_eq_some_iff.mp hc).1
  omega
set_option maxHeartbeats 4000000 in
set_option maxRecDepth 20000 in
/-- from the entry, for every script of at most 1538 ints, the law comes to its end with true -/
theorem whole_start {p : Program} {e : Env} {s : State} {m : MethodId} {below : List Frame} {meth : Method} {c : Code} (l : Launch) (hlt : l.stackTraces = false) {b L : Nat} {xs : Nat → Int32} (hL : L ≤ 1538) (C0 : lw_At p s m meth c b L xs) (hnm : meth.name = "law") (hex : c.exceptionTable.isEmpty = true) : W p l e room_1 s m #[Value.ref b] below meth c s.heap [] 0 0 (lw_Z below #[Value.ref b] s) (entryFrame m ([Value.ref b] : List Value).toArray 7) := by
  obtain ⟨hx, hb, hr, hml, hown, hts, hX, hbl, hlocks, hgv⟩ := C0
  have hs : ∀ w ∈ flatC lw_G, w.before #[Value.ref b] s = true := flat_of_before lw_G hgv
  have htsR : ∀ w ∈ rx_Ts, w.before #[Value.ref b] s = true := fun w hw => hts w (List.mem_filter.mp hw).1
  obtain ⟨c0, i0, k0⟩ := u_known (C := "DeflateEffort$Block") (T := Tc_Block) (N := 9) (n := 9) htsR inc_Block (hts _ (List.mem_append_right _ (rx_T1 (List.mem_of_getElem? (i := 235) (by decide +kernel)))))
  obtain ⟨c1, i1, k1⟩ := u_known (C := "DeflateEffort$Code") (T := Tc_Code) (N := 2) (n := 2) htsR inc_Code (hts _ (List.mem_append_right _ (rx_T1 (List.mem_of_getElem? (i := 101) (by decide +kernel)))))
  obtain ⟨c2, i2, k2⟩ := u_known (C := "DeflateEffort$CodeSet") (T := Tc_CodeSet) (N := 6) (n := 6) htsR inc_CodeSet (hts _ (List.mem_append_right _ (rx_T2 (List.mem_of_getElem? (i := 88) (by decide +kernel)))))
  obtain ⟨c3, i3, k3⟩ := u_known (C := "DeflateEffort$Cutter") (T := Tc_Cutter) (N := 12) (n := 12) htsR inc_Cutter (hts _ (List.mem_append_right _ (rx_T1 (List.mem_of_getElem? (i := 73) (by decide +kernel)))))
  obtain ⟨c4, i4, k4⟩ := u_known (C := "DeflateEffort$Joiner") (T := Tc_Joiner) (N := 3) (n := 3) htsR inc_Joiner (hts _ (List.mem_append_right _ (rx_T1 (List.mem_of_getElem? (i := 79) (by decide +kernel)))))
  obtain ⟨c5, i5, k5⟩ := u_known (C := "DeflateEffort$LengthRow") (T := Tc_LengthRow) (N := 6) (n := 6) htsR inc_LengthRow (hts _ (List.mem_append_right _ (rx_T1 (List.mem_of_getElem? (i := 95) (by decide +kernel)))))
  obtain ⟨c6, i6, k6⟩ := u_known (C := "DeflateEffort$Matches") (T := Tc_Matches) (N := 5) (n := 5) htsR inc_Matches (hts _ (List.mem_append_right _ (rx_T1 (List.mem_of_getElem? (i := 211) (by decide +kernel)))))
  obtain ⟨c7, i7, k7⟩ := u_known (C := "DeflateEffort$Plan") (T := Tc_Plan) (N := 7) (n := 7) htsR inc_Plan (hts _ (List.mem_append_right _ (rx_T1 (List.mem_of_getElem? (i := 166) (by decide +kernel)))))
  obtain ⟨c8, i8, k8⟩ := u_known (C := "DeflateEffort$Prices") (T := Tc_Prices) (N := 4) (n := 4) htsR inc_Prices (hts _ (List.mem_append_right _ (rx_T1 (List.mem_of_getElem? (i := 147) (by decide +kernel)))))
  obtain ⟨c9, i9, k9⟩ := u_known (C := "DeflateEffort$Reader") (T := Tc_Reader) (N := 16) (n := 16) htsR inc_Reader (hts _ (List.mem_append_right _ (rx_T2 (List.mem_of_getElem? (i := 82) (by decide +kernel)))))
  obtain ⟨c10, i10, k10⟩ := u_known (C := "DeflateEffort$Writer") (T := Tc_Writer) (N := 6) (n := 6) htsR inc_Writer (hts _ (List.mem_append_right _ (rx_T1 (List.mem_of_getElem? (i := 41) (by decide +kernel)))))
  obtain ⟨c11, i11, k11⟩ := u_known (C := "DeflateEffort") (T := Tc_DE) (N := 9) (n := 9) htsR inc_DE (hts _ (List.mem_append_right _ (rx_T1 (List.mem_of_getElem? (i := 33) (by decide +kernel)))))
  obtain ⟨c12, i12, k12⟩ := u_known (C := "DeflateEffortModel") (T := Tc_MD) (N := 57) (n := 57) htsR inc_MD (hts _ (List.mem_append_right _ (rx_T6 (List.mem_of_getElem? (i := 76) (by decide +kernel)))))
  obtain ⟨t0, ts0⟩ := ts_T0 hs hts
  obtain ⟨t1, ts1⟩ := ts_T1 hs hts
  obtain ⟨t2, ts2⟩ := ts_T2 hs hts
  obtain ⟨t3, ts3⟩ := ts_T3 hs hts
  obtain ⟨t4, ts4⟩ := ts_T4 hs hts
  obtain ⟨cI, kI, pI, fI1, fI2, fI3⟩ := Cond.arrayClass_spec (type := .int) (hts _ (List.mem_append_right _ (rx_T1 (List.mem_of_getElem? (i := 65) (by decide +kernel)))))
  obtain ⟨cJ, kJ, pJ, fJ1, fJ2, fJ3⟩ := Cond.arrayClass_spec (type := .long) (hts _ (List.mem_append_right _ (rx_T8 (List.mem_of_getElem? (i := 19) (by decide +kernel)))))
  have hao : va_AO "DeflateEffort$Block" s := va_AO.of (hts _ (List.mem_append_right _ (rx_T1 (List.mem_of_getElem? (i := 209) (by decide +kernel)))))
  obtain ⟨pB, cB, kB, fB1, -, fB2, fB3, fB4⟩ := Cond.arrayOver_spec (n := "DeflateEffort$Block") (hts _ (List.mem_append_right _ (rx_T1 (List.mem_of_getElem? (i := 209) (by decide +kernel)))))
  obtain ⟨Z, hZ⟩ : ∃ Z : rx_D, Z = ((fun k => [c0, c1, c2, c3, c4, c5, c6, c7, c8, c9, c10, c11, c12].getD k c0, fun k => [i0, i1, i2, i3, i4, i5, i6, i7, i8, i9, i10, i11, i12].getD k i0), fun k => [cI, cJ, cB].getD k cI, fun t => [t0, t1, t2, t3, t4].getD t t0, (b, L, xs)) := ⟨_, rfl⟩
  have hK : va_K Z.1 rx_cl (rx_tys Z) s := by
    subst hZ
    refine ⟨fun k q hq => ?_, fun k q hq => ?_⟩
    · match k, hq with
      | 0, hq => cases hq; exact k0
      | 1, hq => cases hq; exact k1
      | 2, hq => cases hq; exact k2
      | 3, hq => cases hq; exact k3
      | 4, hq => cases hq; exact k4
      | 5, hq => cases hq; exact k5
      | 6, hq => cases hq; exact k6
      | 7, hq => cases hq; exact k7
      | 8, hq => cases hq; exact k8
      | 9, hq => cases hq; exact k9
      | 10, hq => cases hq; exact k10
      | 11, hq => cases hq; exact k11
      | 12, hq => cases hq; exact k12
      | k + 13, hq => cases hq
    · match k, hq with
      | 0, hq => cases hq; exact ⟨fun n z => ⟨fun k h => (by cases h), kI, fI2, pI, fI3⟩, fI1⟩
      | 1, hq => cases hq; exact ⟨fun n z => ⟨fun k h => (by cases h), kJ, fJ2, pJ, fJ3⟩, fJ1⟩
      | 2, hq => cases hq; exact ⟨fun n z => ⟨fun k h => (by cases h), kB, fB2, pB, fB3⟩, kB, pB, fB2, fB3, fB1, fB4⟩
      | k + 3, hq => cases hq
  have hdD : s.vm.findClass "DeflateEffort" = some c11 := by
    obtain ⟨_, h9⟩ := k11
    exact h9.1
  have hG : rx_G Z (fun q => s.heap.size ≤ q) s := by
    subst hZ
    refine ⟨fun w hw => va_Nw.of (rx_nest_tab (List.mem_filter.mp hw).2) (hts w (List.mem_filter.mp hw).1), fun t ht => ?_, ⟨fI1, fJ1, hao⟩, g_GX hdD hs hts, hX, Nat.not_le.mpr hbl⟩
    match t, ht with
    | 0, _ => exact ts0
    | 1, _ => exact ts1
    | 2, _ => exact ts2
    | 3, _ => exact ts3
    | 4, _ => exact ts4
    | k + 5, ht => omega
  have hZL : Z.2.2.2.2.1 = L := by rw [hZ]
  have hZb : Z.2.2.2.1 = b := by rw [hZ]
  have hl := lv_entry ([.ref b]) (n := 7) (Nat.le_of_ble_eq_true rfl)
  rw [lg_entry_eq]
  have hl2 : lv_has _ 7 [(0, .ref b)] := hl
  rw [← hZb] at hl2
  have hP : va_P Z.1 rx_cl [] s.heap := fun k q h => by simp at h
  have hD : va_D (fun q : Nat => s.heap.size ≤ q) [] := ⟨fun i j p q h => by simp at h, fun k q h => by simp at h⟩
  have w := w_law l Z 601024 7293000 (fun r _ => r = some (.int 1)) 0 0 hlt (fun _ => rfl) (by omega) (by omega) (by omega) p e room_1 s m #[Value.ref b] below meth c s.heap [] _ (fun q => s.heap.size ≤ q) ⟨hx, hb, hml, hown, htsR, hlocks, hnm, hr, hK, fun _ h => h, ⟨Nat.le_of_ble_eq_true rfl, Nat.le_of_ble_eq_true rfl, Nat.le_refl _, Nat.le_refl _⟩, hG, fun q cell hq hc => (by have h8 := (Array.getElem?_eq_some_iff.mp hc).1; omega), (by unfold rx_X; rw [mf_LW_law.2.2.2, Array.isEmpty_iff.mp hex]; rfl)⟩ ⟨Nat.zero_le _, Nat.zero_le _⟩ hl2 hP hD va_S.rf
  rw [hZb] at w
  refine W_mono (fun t ht => ?_) w
  rcases ht with ⟨o, h1, h2, ⟨⟨r, w9, rfl, -, rfl, -⟩, -⟩, L9, h3, h4⟩ | ⟨a, ce, kc, x9, cls, w9, L9, -, -, -, hp, -⟩
  · exact ⟨_, h1, h2, rfl, frame_none h3 h4⟩
  · cases hp
set_option maxHeartbeats 4000000 in
theorem lw_walk (l : Launch) (hlt : l.stackTraces = false) (b : Addr) (xs : List Int32) : MetFree l x (headSpec (Jvm.Cond.code x code maxLocals ret :: tables_1) room_1) (lw_P b xs) (fun _ _ _ _ _ => True) lw_Q := by
  refine MetFree.of_bodyS (code := code) (maxLocals := maxLocals) (ret := ret) (by decide) ?_ ?_
  · intro args s m h hn
    obtain ⟨meth, c, h1, h2, h3, h4, h5, h6, -, -⟩ := Cond.code_spec hn (atoms_spec (ws := Jvm.Cond.code x code maxLocals ret :: tables_1) h _ List.mem_cons_self)
    exact ⟨meth, c, h1, h2, h3, h4, h5, h6⟩
  · intro p e s m args below meth c s₁ B hml0 hP _
    obtain ⟨rfl, hx, hbd, hgv⟩ := hP
    obtain ⟨scr, harrAt, hlist, hof, hsmall⟩ := hx
    obtain ⟨hcb, hkn, -, -⟩ := State.arrayAt?_spec harrAt
    have hown : s.vm.findClass R_law = some m.cls := findClass_of_methodNamed B.named
    have hts0 : ∀ c ∈ (Jvm.Cond.code x code maxLocals ret :: tables_1), c.before #[Value.ref b] s = true := atoms_spec (ws := Jvm.Cond.code x code maxLocals ret :: tables_1) B.pre
    have hts : ∀ w ∈ lw_tbl, w.before #[Value.ref b] s = true := k2_hts_sels lw_privs (fun w hw => hts0 w (List.mem_cons_of_mem _ hw)) lw_privs_ok
    have hml : c.maxLocals = 7 := B.maxLocals_eq (hts0 _ List.mem_cons_self)
    have X₀ : Stand p l e room_1 s m #[Value.ref b] below meth c s₁ [] 0 0 := Stand.of_body B
    have hh0 : s₁.heap = s.heap := by rw [B.state]; rfl
    have hsz : scr.slots.size = xs.length := by rw [← Array.length_toList, hlist, List.length_map]
    have hval : ∀ j : Nat, j < xs.length → scr.slots[j]? = some (.int (xs.getD j 0)) := fun j hj => by
      rw [← Array.getElem?_toList, hlist]
      simp [hj]
    have hbl : b < s.heap.size := (Array.getElem?_eq_some_iff.mp hcb).1
    have hX : va_X b xs.length (fun j => xs.getD j 0) s s.heap := ⟨scr, hcb, hof, hkn, hsz, hval⟩
    have K : W p l e room_1 s m #[Value.ref b] below meth c s₁.heap [] 0 0 (lw_Z below #[Value.ref b] s) (entryFrame m ([Value.ref b] : List Value).toArray 7) := by
      rw [hh0]
      exact whole_start l hlt hbd ⟨B.exec, B.bytes, B.returns, hml, hown, hts, hX, hbl, B.notSynchronized, hgv⟩ (name_of_methodNamed B.named B.method).1 (BodyLoose.noHandlers B (hts0 _ List.mem_cons_self))
    obtain ⟨t, a1, o, b1, b2, b3⟩ := K s₁ rfl X₀
    exact ⟨t, o, a1, b1, b2, b3⟩
theorem lw_pre_spec {args : Array Value} {s : State} (h : (Jvm.Cond.and given_1 narrow_1).before args s = true) (hr : rest_1_c.before args s = true) : ∃ (b : Addr) (xs : List Int32), lw_P b xs args s := by
  have hs := flat_of_before _ h
  have hq := flat_of_before _ hr
  have hc : (Cond.count 1).before args s = true := hs _ (by decide +kernel)
  have harr : (Cond.arrayOf (.arg 0) .int).before args s = true := hs _ (by decide +kernel)
  have hle : (Cond.le (.length (.arg 0)) (.int 1538)).before args s = true := hs _ (by decide +kernel)
  have hlen : (Cond.isInt (.length (.arg 0))).before args s = true := hq _ (by decide +kernel)
  have hall : (Cond.all (.arg 0) (.isInt (.elem (.arg 0) (.index 0)))).before args s = true := hq _ (by decide +kernel)
  obtain ⟨b, xs, hb, hx⟩ := State.ints_of_pre rfl harr hlen hall
  have hsm : xs.length < 2 ^ 31 := hx.choose_spec.2.2.2
  have hev : (Term.length (.arg 0)).eval args s none [] s = some (.int xs.length.toInt32) := hx.length_eval hb
  have hv := Cond.le_ints hev (show (Term.int 1538).eval args s none [] s = some (.int 1538) from rfl)
  have hd : xs.length.toInt32 ≤ 1538 := by
    simpa [Cond.before, Cond.holds, hv] using hle
  have hN : xs.length ≤ 1538 := (Int32.ofNat_le_ofNat hsm (by decide)).mp (show Int32.ofNat xs.length ≤ Int32.ofNat 1538 from hd)
  exact ⟨b, xs, Cond.one_arg hc (show args[0]? = some (.ref b) from hb), hx, hN, h⟩
theorem lw_comes (l : Launch) (hlt : l.stackTraces = false) : Comes l x (Jvm.Cond.code x code maxLocals ret :: tables_1) room_1 (fun tb e args s => Calls_1 tb e args s ∧ rest_1 tb e args s ∧ Pre_1 tb e args s)
    (fun _ _ args s o t => lw_Q args s o t) := by
  intro p e ha hc hk s m args below hf hfit hheap happ hpre
  obtain ⟨b, xs, hP⟩ := lw_pre_spec hpre.2.2 hpre.2.1
  obtain ⟨k, o, h1, h2, h3, hQ⟩ := lw_walk l hlt b xs p e ha hc hk s m args below hf ((Spec.applies_iff_loose hf).mp happ).1 hP trivial
  exact ⟨k, o, h1, h2, h3, hQ⟩
theorem lw_frame {s t : State} {o : Outcome} {args : Array Value} (h : Framed s o t [] 601024 7293000) :
    Framed s o t (fieldLocs frame_1_writes args s ++ arrayLocs frame_1_arrays args s ++ staticLocs frame_1_statics s) 601024 7293000 := h
theorem lw_limb (L : Cond) (hL : ∀ (args : Array Value) (s t : State), L.after args s (.returned (some (.int 1))) t = true) :
    ArmFor flags0 classFile x code maxLocals ret World_1 tables_1 room_1 Calls_1 rest_1 Pre_1
      (fun tb e a s o t => postC L tb e a s o t ∧ Framed s o t (fieldLocs frame_1_writes a s ++ arrayLocs frame_1_arrays a s ++ staticLocs frame_1_statics s) 601024 7293000) := by
  intro l hfl _ _ p e ha hc hk s m args below hf hfit hheap happ hpre
  obtain ⟨k, o, h1, h2, h3, rfl, hF⟩ := lw_comes l (by unfold Launch.stackTraces; rw [hfl]; decide +kernel) p e ha hc hk s m args below hf hfit hheap happ hpre
  exact ⟨k, _, h1, h2, h3, hL args s _, lw_frame hF⟩
