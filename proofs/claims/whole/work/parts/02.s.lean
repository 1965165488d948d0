/-! throws: a walk may be looked at as one that begins where it stands; 'throw new X(text)' as a walk's end -/
theorem rx_rebase {p : Program} {l : Launch} {e : Env} {R : Room} {s : State} {m : MethodId} {args : Array Value} {below : List Frame} {meth : Method} {c : Code} {T : State} {locs : List Loc} {cells slots : Nat} (X : Stand p l e R s m args below meth c T locs cells slots) (hc : cells ≤ R.cells) (hs : slots ≤ R.slots) : Stand p l e ({ frames := R.frames, cells := R.cells - cells, slots := R.slots - slots, locals := R.locals } : Room) (T.setFrames (.invoking m args :: below)) m args below meth c T [] 0 0 := by
  obtain ⟨g₀, hfr⟩ := X.frames_eq
  have hcur : T.cur < T.threads.size := State.cur_lt_of_frames hfr
  have hF : (T.setFrames (.invoking m args :: below)).frames = .invoking m args :: below := State.frames_setFrames _ hcur
  have hloc : (T.setFrames (.invoking m args :: below)).localsInUse = s.localsInUse := by
    rw [State.localsInUse_invoking hF X.method' X.code, State.localsInUse_invoking X.frames X.method X.code]
  refine ⟨X.admits, X.cas, X.clock, hF, ?_, ?_, X.method', X.code, X.here, X.tail, State.WarmedH.refl _, by rw [State.stackLimits_setFrames], by rw [State.stackBytes_setFrames], ?_⟩
  · have h := X.room
    have h7 := X.cellsAbove (n := R.cells - cells) (by omega)
    have h8 := X.slotsAbove (n := R.slots - slots) (by omega)
    have h9 := X.book
    simp only [State.hasRoom, Bool.and_eq_true, decide_eq_true_eq] at h ⊢
    obtain ⟨⟨⟨⟨a1, a2, a3, a4, a5, a6⟩, a7⟩, a8⟩, a9⟩ := h
    rw [X.frames] at a2 a3
    rw [hF, hloc, State.stackLimits_setFrames, State.stackBytes_setFrames, X.limits, X.bytes]
    exact ⟨⟨⟨⟨a1, a2, a3, a4, a5, a6⟩, h7⟩, h8⟩, h9⟩
  · have h := X.hears
    have hm : ∀ q, (T.setFrames (.invoking m args :: below)).vm.method? q = s.vm.method? q := fun q => X.warmed.alike.method? ..
    unfold State.hears at h ⊢
    cases below with
    | nil => rw [hm]; exact h
    | cons f r =>
      cases f <;> simp only [State.code?_eq, hm] at h ⊢ <;> exact h
  · obtain ⟨th, hth, -⟩ := State.frames_cons hfr
    obtain ⟨t9, ht9, -⟩ := State.frames_cons hF
    have h := (State.sameButNew.refl (T.setFrames (.invoking m args :: below)) ht9).setFrames T.frames (State.cur_lt_of_frames hF)
    rw [State.setFrames_setFrames, State.setFrames_self hth] at h
    exact h
theorem rx_isRef {C n d : String} {A : Nat → Prop} {U : State} {args : Array Value} (h : va_Zq C n d A U U.heap) : (Cond.isRef (.static C n d)).before args U = true := by
  rcases h with ⟨cf, kf, fi, f, a, cell, h1, h2, -, h3, h4, h5, h6, -⟩ | ⟨t, cf, kf, fi, f, a, cell, h1, h2, -, h3, h4, h5, h6, -⟩
  · have hv : (Term.static C n d).eval args U none [] U = some .null := Term.static_eval h1 h2 h3 h4 h5 h6
    simp [Cond.before, Cond.holds, Cond.value, hv]
  · have hv : (Term.static C n d).eval args U none [] U = some (.ref t) := Term.static_eval h1 h2 h3 h4 h5 h6
    simp [Cond.before, Cond.holds, Cond.value, hv]
def rx_names : List String := ["java/lang/RuntimeException", "java/lang/Exception"]
/-- a word of a throw is one of the tables', or one of those that rx_GX keeps -/
def rx_tw (cls : String) (w : Cond) : Bool := (decide (w ∈ tables_1) && goodWord w) || decide (w = .castable cls cls) || rx_sts.any (fun q => decide (w = .laysStatic Bundle.tN q.1 q.2) || decide (w = .isRef (.static Bundle.tN q.1 q.2)))
theorem rx_tw_at {cls : String} {w : Cond} (h : rx_tw cls w = true) {A : Nat → Prop} {U : State} {args : Array Value} (hcl : cls ∈ rx_xs) (hts : ∀ w ∈ rx_Ts, w.before args U = true) (hG : rx_GX A U) : w.before args U = true := by
  unfold rx_tw at h
  simp only [Bool.or_eq_true, Bool.and_eq_true, decide_eq_true_eq, List.any_eq_true] at h
  rcases h with (⟨h1, h2⟩ | h1) | ⟨q, hq, h1 | h1⟩
  · exact hts w (rx_inS h1 h2)
  · subst h1
    exact va_Nw.use rfl (hG.1 cls hcl)
  · subst h1
    have h9 : (Cond.laysStatic Bundle.tN q.1 q.2).before #[] U = true := (hG.2.2.2 q hq).1
    exact h9
  · subst h1
    exact rx_isRef (hG.2.2.2 q hq).2
theorem rx_kept0 {s' U : State} {k n : Nat} (h : s'.sameButNew ({ U with vm := s'.vm } : State) [] k n) {a : Nat} {c : Cell} (hc : s'.heap[a]? = some c) : U.heap[a]? = some c := by
  obtain ⟨c', h1, h2, h3, h4⟩ := h.2.2.2.2.2 a c hc
  have h5 : c'.slots = c.slots := by
    apply Array.ext_getElem?
    intro i
    exact h4 i (by simp)
  have h6 : c' = c := by rw [h2, h5]
  rw [← h6]
  exact h1
set_option maxHeartbeats 4000000 in
theorem rw_throw {l : Launch} {Z : rx_D} {own nm : String} {cc : ByteArray} {nL : Nat} {ret : Option FieldType} {d mc ms : Nat} {post : Option Value → va_W → Prop} {k n : Nat} {ws : va_W} {lv : List (Nat × Value)} {pc : Nat} {st : List Value}
    (hlt : l.stackTraces = false) {x : Int64} {cls text : String} {ik is ic : Nat} (hx : rx_ex x = some cls) (hcl : cls ∈ rx_xs) (hfit : Bundle.fit cls = true) (hss : (is, text) ∈ rx_ss) (hde : own = "DeflateEffort") (hhs : rx_hs own nm = [])
    (hwd : (Bundle.ownAtoms "DeflateEffort" ic cls rx_names).all (rx_tw cls) = true) (hkl : Cond.classLink own ik cls ∈ rx_Ts) (hini : Cond.initialized cls ∈ rx_Ts)
    (d0 : decode cc pc = .ok (.new ik, 3)) (d3 : decode cc (pc + 3) = .ok (.dup, 1)) (d4 : decode cc (pc + 4) = .ok (.ldc is, 2)) (d6 : decode cc (pc + 6) = .ok (.invokespecial ic, 3)) (d9 : decode cc (pc + 9) = .ok (.athrow, 1))
    (hdd : 6 ≤ d) (hkm : k ≤ mc ∧ n ≤ ms → k + 1 ≤ mc ∧ n + 6 ≤ ms) (hcat : (st.map fun v => v.category).sum ≤ 8) (hp : post (some (.long x)) ws) : Rw l Z own nm cc nL ret d mc ms post k n ws lv pc st := by
  intro p e R s m args below meth c H locs ls A C hkn hl hP hD hS T hT X
  subst hde
  obtain ⟨hk1, hk2⟩ := hkm hkn
  obtain ⟨r1, r2, r3, r4⟩ := rx_R C
  have hexec := C.1
  rw [← C.2.1] at d0 d3 d4 d6 d9
  have hlk := rx_lk C
  have Y := rx_rebase X (Nat.le_trans hkn.1 r3) (Nat.le_trans hkn.2 r4)
  generalize hs' : T.setFrames (.invoking m args :: below) = s' at Y
  have hvm : s'.vm = T.vm := by rw [← hs']; rfl
  have hhp : s'.heap = T.heap := by rw [← hs']; rfl
  have hWs : s.WarmedH s'.vm := by rw [hvm]; exact X.warmed
  have hts' : ∀ w ∈ rx_Ts, w.before args s' = true := fun w hw => word_at hWs (good_of_word (rx_good w hw)) (rx_ts C w hw)
  have hS' : va_S A s.heap s'.heap locs := by rw [hhp, hT]; exact hS
  have hG' : rx_GX A s' := rx_GX_at (rx_Gv C).2.2.2.1 (rx_no C) hS' hWs (fun _ h => h)
  have hown' : s'.vm.findClass "DeflateEffort" = some m.cls := by rw [hWs.alike.findClass]; exact rx_own C
  have hw : ∀ w ∈ Bundle.ownAtoms "DeflateEffort" ic cls rx_names, w.before args s' = true := fun w h => rx_tw_at (List.all_eq_true.mp hwd w h) hcl hts' hG'
  have htr : e.platform.stackTraces = false := by rw [X.admits.platform]; exact hlt
  have hins : (Cond.instantiable cls 6).before args s' = true := hw _ (by simp [Bundle.ownAtoms])
  have hout : ∀ y ∈ c.exceptionTable.toList, covers y (pc + 9) = false := by
    have h9 := rx_Xc C
    unfold rx_X at h9
    rw [hhs] at h9
    intro y hy
    rw [List.map_eq_nil_iff.mp h9] at hy
    cases hy
  obtain ⟨vm₁, cX, kX, hfX, hkX, -, -, X₁, st1⟩ := Y.newCold hexec (own := "DeflateEffort") (C := cls) (index := ik) (n := 6) hown' (hts' _ hkl) hins (hts' _ hini) (g := F0 m pc ls st) rfl d0 (by show 0 + 1 ≤ R.cells - k; omega) (by show 0 + 6 ≤ R.slots - n; omega)
  generalize hT2 : (T.setVm vm₁).pushCell { cls := cX, slots := kX.instanceTypes.map defaultValue, vm := .none } = T2 at X₁ st1
  have hcellA : T2.heap[T.heap.size]? = some (freshCell cX kX) := by rw [← hT2]; exact State.heap_pushCell_size _ _
  obtain ⟨sa, hsr, hev⟩ := hG'.2.2.1 (is, text) hss
  have hsr' : (Cond.stringRef "DeflateEffort" is text).before args s' = true := hsr
  have hev' : (Term.string "DeflateEffort" is).eval args s' none [] s' = some (.ref sa) := hev
  obtain ⟨U, hsteps, hrun, hend, hWU, hsame, ce, hce, hoc⟩ := X₁.ctorThrowS hexec htr (own := "DeflateEffort") (cls := cls) (names := rx_names) (ic := ic) hown' hfit (by decide) hw (fun y hy => by cases hy) hfX hkX hcellA (by rw [hhp]; exact Nat.le_refl _) (msg := .ref sa) rfl
    (g := { method := m, pc := pc + 6, locals := ls, stack := .ref sa :: .ref T.heap.size :: .ref T.heap.size :: st, locked := none }) rfl (hl.1.trans (rx_hml C).symm) rfl rfl (rest := st) rfl d6 d9 hout (by show 2 + 3 < R.frames; omega) (by show 2 * 0 + ((Value.ref T.heap.size :: st).map fun v => v.category).sum + (13 * (2 + 1) + 42) ≤ R.locals; rw [List.map_cons, List.sum_cons, show (Value.ref T.heap.size).category = 1 from rfl]; omega) (hlocks := hlk)
  have hkept : ∀ (a : Nat) (c : Cell), T.heap[a]? = some c → U.heap[a]? = some c := fun a c h => rx_kept0 hsame (by rw [hhp]; exact h)
  have hal : s'.vm.Alike U.vm := hWU.alike
  have hWsU : s.WarmedH U.vm := State.WarmedH.trans hWs hWU
  have hkU : ∀ q : Nat, q < H.size → U.heap[q]? = H[q]? := fun q hq => by
    rw [← hT] at hq ⊢
    rw [Array.getElem?_eq_getElem hq]
    exact hkept q _ (Array.getElem?_eq_getElem hq)
  have hszU : H.size ≤ U.heap.size := by
    have h9 : s'.heap.size ≤ U.heap.size := hsame.2.1
    rw [hhp, hT] at h9
    exact h9
  obtain ⟨kE, hkE⟩ : ∃ k9, U.vm.classes[ce.cls]? = some k9 := by
    have h9 := hoc.cls
    cases Option.some.inj (hfX.symm.trans h9)
    obtain ⟨k', hk', -⟩ := hal.2.2 _ _ hkX
    exact ⟨k', hk'⟩
  refine ⟨U, ?_, Or.inr ⟨T.heap.size, ce, kE, x, cls, ws, locs, hrun, hend, hx, hp, ⟨hce, hoc.vm, hkE, ?_, ?_⟩, ?_, va_K.moved hWsU.alike (rx_K C), hD, ⟨Nat.le_trans hS.1 hszU, ?_⟩, hWsU, ?_, hS.2.2⟩⟩
  · refine st1 _ ?_
    show Steps p.tables e below (T2.setTop { method := m, pc := pc + 3, locals := ls, stack := .ref T.heap.size :: st, locked := none }) _
    jvm_step X₁.here [X₁.here.top, hexec, d3, Value.category]
    exact X₁.ldcString hexec (own := "DeflateEffort") (text := text) (index := is) (a := sa) hown' hsr' hev'
      (g := { method := m, pc := pc + 4, locals := ls, stack := .ref T.heap.size :: .ref T.heap.size :: st, locked := none }) rfl d4 _ hsteps
  · rw [hal.findClass]; exact hoc.cls
  · rw [hal.assignable]; exact hoc.self
  · intro j q hq
    exact (hP j q hq).kept (hkU q.1 (hP j q hq).lt)
  · intro q h1 h2
    rw [hkU q (Nat.lt_of_lt_of_le h1 hS.1)]
    exact hS.2.1 q h1 h2
  · have h9 : T.sameButNew ({ U with vm := T.vm } : State) [] (0 + 1) (0 + 6) := by
      obtain ⟨e1, e2⟩ := hsame
      rw [← hs'] at e1 e2
      refine ⟨?_, e2⟩
      rw [State.setFrames_setFrames] at e1
      exact e1
    have h8 := X.same.trans (h9.setVm s.vm)
    rw [List.append_nil] at h8
    exact h8.mono (by omega) (by omega)
