theorem rx_cl13 : Cond.classLink "DeflateEffortLaw" 13 "java/lang/IllegalArgumentException" ∈ rx_Ts := (rx_inS (rx_T5 (List.mem_of_getElem? (i := 205) (by decide +kernel))) rfl)
theorem rx_cl15 : Cond.classLink "DeflateEffortLaw" 15 "java/lang/UnsupportedOperationException" ∈ rx_Ts := (rx_inS (rx_T5 (List.mem_of_getElem? (i := 206) (by decide +kernel))) rfl)
theorem rx_cl21 : Cond.classLink "DeflateEffortLaw" 21 "java/lang/IndexOutOfBoundsException" ∈ rx_Ts := (rx_inS (rx_T5 (List.mem_of_getElem? (i := 236) (by decide +kernel))) rfl)
/-! catches -/
theorem rx_goC {E : CtlPost} {e : Env} {d : Bool} {acts : List Action} {s : State} {f : JFrame} {a : Addr} {Q : Handler → Pre} {x : ExceptionTableEntry} {t : List ExceptionTableEntry} {c : ClassId} {cell : Cell} {vm' : Vm} (hx : covers x f.pc = true) (h0 : x.catchType ≠ 0)
    (hg : (Jvm.resolveClass f.method.cls x.catchType).Gives e.toSetting s.vm (.ok c) vm') (hsz : vm'.classes.size ≤ s.vm.classes.size) (hcell : s.heap[a]? = some cell) (hobj : ∀ k, cell.vm ≠ .statics k) (hk : ∃ k, vm'.classes[cell.cls]? = some k) (hc : ∃ k, vm'.classes[c]? = some k) :
    wp (findHandler.go f a (x :: t)) Q E e d acts s ↔ if vm'.assignable cell.cls c = true then Q (.found x.handlerPc) d acts (s.setVm vm') else wp (findHandler.go f a t) Q E e d acts (s.setVm vm') := by
  simp only [covers] at hx
  obtain ⟨ha, ht⟩ := hg.op (op := VmOp.resolveClass f.method.cls x.catchType) rfl
  cases hfit : vm'.assignable cell.cls c <;>
    simp [findHandler.go, hx, h0, ha, ht, hsz, hcell, hobj, hk, hc, hfit, VmOp.dirties, VmOp.acts]
def rx_cn (ix : Nat) : Option String := if ix = 13 then some "java/lang/IllegalArgumentException" else if ix = 15 then some "java/lang/UnsupportedOperationException" else if ix = 21 then some "java/lang/IndexOutOfBoundsException" else none
theorem rx_cn_in {ix : Nat} {C : String} (h : rx_cn ix = some C) : ix ≠ 0 ∧ Cond.classLink "DeflateEffortLaw" ix C ∈ rx_Ts := by
  unfold rx_cn at h
  split at h
  · cases h; rename_i h1; subst h1; exact ⟨by decide, rx_cl13⟩
  · split at h
    · cases h; rename_i h1; subst h1; exact ⟨by decide, rx_cl15⟩
    · split at h
      · cases h; rename_i h1; subst h1; exact ⟨by decide, rx_cl21⟩
      · cases h
/-- which handler takes an exception of this class at this place -/
def rx_seek (pc : Nat) (cls : String) : List (Nat × Nat × Nat × Nat) → Option Nat
  | [] => none
  | q :: t => if (decide (q.1 ≤ pc) && decide (pc < q.2.1)) = true then (match rx_cn q.2.2.2 with
      | some C => if C = cls then some q.2.2.1 else if (cls, C) ∈ rx_nc then rx_seek pc cls t else none
      | none => none) else rx_seek pc cls t
theorem rx_seek_ok {e : Env} {s : State} {args : Array Value} (hpl : e.platform.magicAccessors = ({} : Platform).magicAccessors) (hts : ∀ w ∈ rx_Ts, w.before args s = true) {f : JFrame} (hown : s.vm.findClass "DeflateEffortLaw" = some f.method.cls) {a : Addr} {cls : String} {cell : Cell} (hnc : ∀ q ∈ rx_nc, va_Nc q.1 q.2 s) (hcls : s.vm.findClass cls = some cell.cls) (hself : s.vm.assignable cell.cls cell.cls = true) (hvmn : cell.vm = .none) {pc : Nat} :
    ∀ (t : List ExceptionTableEntry) (U : State), s.WarmedH U.vm → U.heap[a]? = some cell → rx_seek f.pc cls (t.map fun h => (h.startPc, h.endPc, h.handlerPc, h.catchType)) = some pc → ∃ vm', s.WarmedH vm' ∧ ∀ (Q : Handler → Pre) (E : CtlPost) (d : Bool) (acts : List Action), wp (findHandler.go f a t) Q E e d acts U ↔ Q (.found pc) d acts (U.setVm vm') := by
  intro t
  induction t with
  | nil => intro U _ _ h; cases h
  | cons x t ih =>
    intro U hW hcell h
    rw [List.map_cons] at h
    unfold rx_seek at h
    by_cases hx : covers x f.pc = true
    · rw [if_pos hx] at h
      dsimp only at h
      cases hC : rx_cn x.catchType with
      | none => rw [hC] at h; cases h
      | some C =>
        rw [hC] at h
        dsimp only at h
        obtain ⟨h0, hlk⟩ := rx_cn_in hC
        obtain ⟨cT, hcT, hcl⟩ := Cond.classLink_spec hown (hts _ hlk) e.platform hpl
        obtain ⟨dk, _, _, kt, hd, _, _, _, _, hkt, _, hopen⟩ := hcl.here
        have hcl₀ := hW.classLinks hcl
        have hW' : s.WarmedH (U.vm.noted f.method.cls x.catchType (.cls cT)) := hW.noted hd hopen (State.rightAt_cls hcl)
        obtain ⟨k9, hk9⟩ := Vm.classAt_of_findClass hcls
        obtain ⟨ks', hks', -⟩ := hW'.alike.2.2 _ _ hk9
        obtain ⟨kt', hkt', -⟩ := hW'.alike.2.2 _ _ hkt
        have key := fun (Q : Handler → Pre) (E : CtlPost) (d : Bool) (acts : List Action) => rx_goC (E := E) (e := e) (d := d) (acts := acts) (s := U) (f := f) (a := a) (Q := Q) (x := x) (t := t) hx h0 (resolveClass_links e.toSetting hcl₀) (by rw [Vm.size_noted]; exact Nat.le_refl _) hcell (fun k => by rw [hvmn]; intro q; cases q) ⟨ks', hks'⟩ ⟨kt', hkt'⟩
        by_cases hE : C = cls
        · subst hE
          rw [if_pos rfl] at h
          cases h
          cases Option.some.inj (hcls.symm.trans hcT)
          refine ⟨_, hW', fun Q E d acts => ?_⟩
          rw [key Q E d acts, if_pos (by rw [hW'.alike.assignable]; exact hself)]
        · rw [if_neg hE] at h
          by_cases hN : (cls, C) ∈ rx_nc
          · rw [if_pos hN] at h
            obtain ⟨c1, c2, g1, g2, g3⟩ := hnc _ hN
            cases Option.some.inj (g1.symm.trans hcls)
            cases Option.some.inj (g2.symm.trans hcT)
            obtain ⟨vm2, hW2, hk2⟩ := ih (U.setVm (U.vm.noted f.method.cls x.catchType (.cls cT))) hW' hcell h
            refine ⟨vm2, hW2, fun Q E d acts => ?_⟩
            rw [key Q E d acts, if_neg (by rw [hW'.alike.assignable, g3]; decide), hk2 Q E d acts]
            exact Iff.rfl
          · rw [if_neg hN] at h
            cases h
    · have hx' : covers x f.pc = false := by cases h9 : covers x f.pc <;> simp_all
      rw [if_neg (by show ¬ covers x f.pc = true; rw [hx']; decide)] at h
      obtain ⟨vm2, hW2, hk2⟩ := ih U hW hcell h
      exact ⟨vm2, hW2, fun Q E d acts => by rw [W.findHandler_go_skip hx', hk2 Q E d acts]⟩
theorem rx_caught {p : Program} {l : Launch} {e : Env} {R : Room} {s : State} {m : MethodId} {args : Array Value} {below : List Frame} {meth : Method} {c : Code} {T : State} {locs : List Loc} {cells slots : Nat} (X : Stand p l e R s m args below meth c T locs cells slots) (hts : ∀ w ∈ rx_Ts, w.before args s = true) (hown : s.vm.findClass "DeflateEffortLaw" = some m.cls) {a : Addr} {cls : String} {cell : Cell} (hnc : ∀ q ∈ rx_nc, va_Nc q.1 q.2 s) (hcls : s.vm.findClass cls = some cell.cls) (hself : s.vm.assignable cell.cls cell.cls = true) (hvmn : cell.vm = .none) (hcell : T.heap[a]? = some cell) {g : JFrame} (hg : g.method = m) {pc : Nat} (hsk : rx_seek g.pc cls (c.exceptionTable.toList.map fun h => (h.startPc, h.endPc, h.handlerPc, h.catchType)) = some pc) :
    ∃ vm', Stand p l e R s m args below meth c (T.setVm vm') locs cells slots ∧ ∀ target, Steps p.tables e below ((T.setVm vm').setTop { g with pc := pc, stack := [.ref a] }) target → Steps p.tables e below ((T.setTop g).pushFrame (.throwing a)) target := by
  subst hg
  have hpl : e.platform.magicAccessors = ({} : Platform).magicAccessors := by rw [X.admits.platform]
  have h := X.here
  obtain ⟨vm', hW', hk⟩ := rx_seek_ok (e := e) (f := g) hpl hts hown hnc hcls hself hvmn (a := a) c.exceptionTable.toList ((T.setTop g).pushFrame (.throwing a)) (by rw [Stand.throwing_vm]; exact X.warmed) (by rw [Stand.throwing_heap]; exact hcell) hsk
  refine ⟨vm', X.noted hW', fun target hrest => ?_⟩
  obtain ⟨hgo, hw⟩ := h.throwing a
  obtain ⟨g₀, hg⟩ := Option.isSome_iff_exists.mp h.top
  obtain ⟨r, hr⟩ := State.topJava?_eq_some.mp hg
  have hcatch : (stepThrowing e ((T.setTop g).pushFrame (.throwing a)) a (.java g :: r)).Is ((((T.setTop g).pushFrame (.throwing a)).setVm vm').setFrames (.java { g with pc := pc, stack := [.ref a] } :: r)) [] := by
    simp only [stepThrowing, searchFrame, vmDo]
    generalize hr9 : Sem.go _ e false [] ((T.setTop g).pushFrame (.throwing a)) = res
    obtain ⟨as, rfl, ha⟩ := Sem.eq_ok_of hr9 (a := Handler.found pc) (s' := ((T.setTop g).pushFrame (.throwing a)).setVm vm') (acts' := []) (by
      have hm : ((T.setTop g).pushFrame (.throwing a)).vm.method? g.method = some meth := by rw [Stand.throwing_vm]; exact X.method'
      simp [W.findHandler_eq hm X.code, hk])
    exact ⟨rfl, ha⟩
  refine Steps.head hgo hw ?_
  rw [stepThread_throwing (frames_entered h.top _)]
  have hrt : T.frames.tail = r := by rw [hr]; rfl
  rw [hrt]
  rw [hcatch.1]
  have hr' : (T.setVm vm').frames = .java g₀ :: r := hr
  rw [State.setTop_of_frames _ hr'] at hrest
  have e1 : (((T.setTop g).pushFrame (.throwing a)).setVm vm').setFrames (.java { g with pc := pc, stack := [.ref a] } :: r) = (T.setVm vm').setFrames (.java { g with pc := pc, stack := [.ref a] } :: r) := by
    rw [State.pushFrame, State.setTop_of_frames _ hr]
    show ((((T.setFrames _).setFrames _).setFrames _).setVm vm') = _
    rw [State.setFrames_setFrames, State.setFrames_setFrames]
    rfl
  rw [e1]
  exact hrest
