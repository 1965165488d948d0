/-- a method's contract at arguments and a world at which it throws the exception with the number x -/
def CnX (l : Launch) (Z : rx_D) (y : MethodName) (cc : ByteArray) (nL : Nat) (ret : Option FieldType) (d : Nat) (as : List Value) (ws : va_W) (mc ms : Nat) (x : Int64) (pw : va_W → Prop) : Prop :=
  ∀ sz : Nat, MetFree l y (headSpec (Cond.code y cc nL ret :: rx_Ts) { frames := d, cells := mc, slots := ms, locals := 60 * d }) (va_Pc as (fun U => U.heap.size = sz ∧ va_P Z.1 rx_cl ws U.heap ∧ va_K Z.1 rx_cl (rx_tys Z) U ∧ va_D (fun _ => True) ws ∧ rx_G Z (va_A ws sz) U)) (fun _ _ _ _ _ => True)
    (fun _ st o t => ∃ (a : Addr) (ce : Cell) (kc : Class) (cls : String) (w : va_W) (L : List Loc), o = .threw a ∧ rx_ex x = some cls ∧ pw w ∧ (t.heap[a]? = some ce ∧ ce.vm = .none ∧ t.vm.classes[ce.cls]? = some kc ∧ t.vm.findClass cls = some ce.cls ∧ t.vm.assignable ce.cls ce.cls = true) ∧ va_P Z.1 rx_cl w t.heap ∧ va_K Z.1 rx_cl (rx_tys Z) t ∧ va_D (va_A ws sz) w ∧ va_F (va_A ws sz) st t ∧ st.WarmedH t.vm ∧ st.sameButNew ({ t with vm := st.vm } : State) L mc ms ∧ ∀ q ∈ L, va_A ws sz q.base)
theorem rx_metX {l : Launch} {Z : rx_D} {y : MethodName} {cc : ByteArray} {nL : Nat} {ret : Option FieldType} {d : Nat} {as : List Value} {ws : va_W} {mc ms : Nat} {x : Int64} {pw : va_W → Prop} {lv : List (Nat × Value)} (own nm : String) (hM : rx_M own nm y) (hA : (lg_sl as).length ≤ nL) (hlv : lv_args 0 as = lv) (w : Rw l Z own nm cc nL ret d mc ms (fun r w => r = some (.long x) ∧ pw w) 0 0 ws lv 0 []) : CnX l Z y cc nL ret d as ws mc ms x pw := by
  obtain ⟨hy, hown, hnm, hhs⟩ := hM
  subst hown
  subst hnm
  subst hlv
  intro sz
  refine MetFree.of_bodyS (code := cc) (maxLocals := nL) (ret := ret) hy ?_ ?_
  · intro args s m h hn
    obtain ⟨meth, c, h1, h2, h3, h4, h5, h6, -, -⟩ := Cond.code_spec hn (atoms_spec (ws := Cond.code y cc nL ret :: rx_Ts) h _ List.mem_cons_self)
    exact ⟨meth, c, h1, h2, h3, h4, h5, h6⟩
  · intro p e s m args below meth c s₁ B hml hv _
    obtain ⟨rfl, hsz, hP, hK, hD0, hG⟩ := hv
    subst hsz
    have hts := atoms_spec (ws := Cond.code y cc nL ret :: rx_Ts) B.pre
    have hl := lv_entry as (n := nL) hA
    have hh0 : s₁.heap = s.heap := by rw [B.state]; rfl
    have K := w p e ({ frames := d, cells := mc, slots := ms, locals := 60 * d } : Room) s m _ below meth c s.heap [] _ (va_A ws s.heap.size) ⟨B.exec, B.bytes, hml, findClass_of_methodNamed B.named, fun w hw => hts w (List.mem_cons_of_mem _ hw), B.notSynchronized, (name_of_methodNamed B.named B.method).1, B.returns, hK, fun q h => Or.inr h, ⟨Nat.le_refl _, Nat.le_refl _, Nat.le_refl _, Nat.le_refl _⟩, hG, (fun q cell hq hc => by
      rcases hq with ⟨k9, e9, h9⟩ | h9
      · exact rx_plain hP h9 hc
      · have h8 := (Array.getElem?_eq_some_iff.mp hc).1
        omega), (by
      have h9 := BodyLoose.noHandlers B (hts _ List.mem_cons_self)
      unfold rx_X
      rw [hhs, Array.isEmpty_iff.mp h9]
      rfl)⟩ ⟨Nat.zero_le _, Nat.zero_le _⟩ hl hP hD0.self va_S.rf
    rw [← lg_entry_eq] at K
    obtain ⟨t, a1, hE⟩ := K s₁ hh0 (Stand.of_body B)
    rcases hE with ⟨o, b1, b2, ⟨⟨r, w9, h1, hnl, ⟨hr, -⟩, -⟩, -⟩, -⟩ | ⟨a, ce, kc, x9, cls, w9, L, g1, g2, g3, ⟨g4, g5⟩, g6, g7, g8, g9, g10, g11, g12, g13⟩
    · exact absurd hr (hnl x)
    · cases g4
      exact ⟨t, .threw a, a1, g1, g2, a, ce, kc, cls, w9, L, rfl, g3, g5, g6, g7, g8, g9, g10, g11, g12, g13⟩
set_option maxHeartbeats 4000000 in
theorem rw_callX {l : Launch} {Z : rx_D} {own nm : String} {cc : ByteArray} {nL : Nat} {ret : Option FieldType} {d mc ms : Nat} {post : Option Value → va_W → Prop} {k n : Nat} {ws : va_W} {lv : List (Nat × Value)} {pc : Nat} {st : List Value} {y : MethodName} {cc' : ByteArray} {nL' : Nat} {ret' : Option FieldType} {d' mc' ms' idx N : Nat} {as rest : List Value} {wc wr : va_W} {x : Int64} {pw : va_W → Prop} {a ci q hpc : Nat} {fs : List Value} {C0 : String} {T0 : u_T} {N0 : Nat}
    (hw : rx_cw y cc' nL' ret' N) (hlk : Cond.methodLink own idx y ∈ rx_Ts) (hst : Cond.instanceMethod y ∈ rx_Ts ∧ Cond.selects C0 y y ∈ rx_Ts) (hci : rx_cl[ci]? = some (C0, T0, N0)) (hq : ws[q]? = some (ob a ci fs)) (hC : CnX l Z y cc' nL' ret' d' (.ref a :: as) wc mc' ms' x pw) (isC isR : List Nat) (hC' : isC.map (fun i => ws[i]?) = wc.map some) (hR' : isR.map (fun i => ws[i]?) = wr.map some) (hnc : va_nd isC = true) (hnr : va_nd isR = true) (hdis : ∀ i ∈ isR, i ∉ isC) (hN : as.length = N) (hdd : d' + 1 ≤ d ∧ nL' ≤ 41) (hk : k ≤ mc ∧ n ≤ ms → k + mc' ≤ mc ∧ n + ms' ≤ ms) (hlaw : own = "DeflateEffortLaw") (hsk : ∀ cls, rx_ex x = some cls → rx_seek pc cls (rx_hs own nm) = some hpc) (hcat : (rest.map fun v => v.category).sum ≤ 8) (hs : as.reverse ++ .ref a :: rest = st) (hd : decode cc pc = .ok (.invokevirtual idx, 3)) (K : ∀ (w : va_W) (b : Nat), pw w → Rw l Z own nm cc nL ret d mc ms post (k + mc') (n + ms') (wr ++ w) lv hpc [.ref b]) : Rw l Z own nm cc nL ret d mc ms post k n ws lv pc st := by
  subst hs
  intro p e R s m args below meth c H locs ls A C hkn hl hP hD hS T hT X
  subst hlaw
  have hk := hk hkn
  obtain ⟨w1, w2, w3, w4, w5⟩ := hw
  have hFc := va_free hD hS (rx_A C) isC hC'
  obtain ⟨r1, r2, r3, r4⟩ := rx_R C
  have hpre := rx_pre (as := .ref a :: as) C hP hD hS isC hC' hnc
  obtain ⟨cellB, hcB, hoB, hclB⟩ := va_recv (rx_K C) hP hci hq
  have hy : y.cls ≠ "java/lang/invoke/MethodHandle" ∧ y.cls ≠ "java/lang/invoke/VarHandle" := ⟨w3, w4⟩
  have hcodew := rx_ts C _ w1
  obtain ⟨mk, methM, hnamed, hmethM, hstM, habM⟩ := Cond.instanceMethod_spec (rx_ts C _ hst.1)
  obtain ⟨methM', cM, hmethM', -, -, -, -, -, -, hsigM⟩ := Cond.code_spec hnamed hcodew
  cases hmethM.symm.trans hmethM'
  obtain ⟨c2, r2', m2, q1, q2, q3, q4, kP, hkP, hkPi⟩ := Cond.selects_spec (rx_ts C _ hst.2)
  cases hclB.symm.trans q1
  cases (State.methodFound?_of_named hnamed hy).symm.trans q2
  cases hnamed.symm.trans q3
  have hselP : selectMethod e.platform s.vm cellB.cls mk = .method mk := by rw [Launch.admits_selectMethod X.admits]; exact q4
  have hlen : as.length = methM.sig.parameters.length := by
    have h2 := w5
    rw [hsigM] at h2
    rw [hN]
    exact (Option.some.inj h2).symm
  have hdg : decode c.code pc = .ok (.invokevirtual idx, 3) := by rw [C.2.1]; exact hd
  obtain ⟨vm₁, X₁, hstep₁⟩ := X.invokevirtual C.1 (rx_own C) (rx_ts C _ hlk) hnamed hmethM hstM hkP hkPi hy (a := a) (cell := cellB) (by rw [hT]; exact hcB)
    (fun z h => by rw [h] at hoB; cases hoB) hselP hmethM habM hkP hkPi (g := F0 m pc ls (as.reverse ++ .ref a :: rest)) rfl (argsL := as) (rest := rest) hlen rfl hdg
  have hW1 : s.WarmedH (T.setVm vm₁).vm := X₁.warmed
  have h : At (T.setVm vm₁) m c below := X₁.here
  have hn := X₁.named hnamed
  have hpay := pay_in (rx_ts C) (rx_gi w1)
  have hcodeU := hpay _ List.mem_cons_self ((Value.ref a :: as).toArray) (T.setVm vm₁) hW1
  obtain ⟨methY, cY, hmY, hcY, -, hlY, -⟩ := Cond.code_spec hn hcodeU
  obtain ⟨kY, hkY, -⟩ := className_of_methodNamed hn
  have hinitY : kY.init = .initialized := Cond.initialized_spec (findClass_of_methodNamed hn) hkY (word_at (a' := #[]) hW1 (good_of_word (rx_good _ w2)) (rx_ts C _ w2))
  have hM := hC H.size
  have happ : (headSpec (Cond.code y cc' nL' ret' :: rx_Ts) { frames := d', cells := mc', slots := ms', locals := 60 * d' }).appliesLoose y e.platform ((T.setVm vm₁).calling (F0 m pc ls rest) mk (Value.ref a :: as).toArray) = true :=
    Spec.appliesLoose_calling (g := F0 m pc ls rest) h hdg hn hkY hinitY
      (X₁.room_calling (g := F0 m pc ls rest) (R' := { frames := d', cells := mc', slots := ms', locals := 60 * d' }) (hl.1.trans (rx_hml C).symm) hmY hcY (by show d' + 1 ≤ _; omega) (by rw [hlY]; show 2 * 0 + (rest.map fun v => v.category).sum + (nL' + 11) + 60 * d' ≤ _; omega) (by show k + mc' ≤ _; omega) (by show n + ms' ≤ _; omega)) (atoms_intro fun w hw => hpay w hw _ _ hW1)
  obtain ⟨mid, hmid⟩ := h.above
  have hfr : ((T.setVm vm₁).setTop (F0 m pc ls rest)).frames = (.java (F0 m pc ls rest) :: mid) ++ below := by rw [State.frames_setTop' _ h.top, hmid]; rfl
  obtain ⟨o, s₂, hsteps, -, hend, hqq⟩ := Steps.callFree hM p X.admits X.cas X.clock (acts := []) hfr happ (hpre.1 _ _ (F0 m pc ls rest) mk (hpre.2 (T.setVm vm₁) hT hW1)) trivial
  obtain ⟨b, ce, kc, cls, w, L, rfl, g1, g2, ⟨g3, g4, g5, g6, g7⟩, g8, g9, g10, g11, g12, g13, g14⟩ := hqq
  rw [State.frames_setTop' _ h.top, X₁.tail] at hend
  obtain ⟨T', X', hWT, hsameT, ht⟩ := X₁.outOfThrown (g := F0 m pc ls rest) rfl hend g12 g13
  have hheap : s₂.heap = T'.heap := by rw [ht]; exact Stand.throwing_heap _ _ _
  have hvm2 : s₂.vm = T'.vm := by rw [ht]; exact Stand.throwing_vm _ _ _
  have hal : s.vm.Alike T'.vm := X'.warmed.alike
  have hcls0 : s.vm.findClass cls = some ce.cls := by rw [← hal.findClass, ← hvm2]; exact g6
  have hself0 : s.vm.assignable ce.cls ce.cls = true := by rw [← hal.assignable, ← hvm2]; exact g7
  obtain ⟨vm₂, X2, hgo⟩ := rx_caught X' (rx_ts C) (rx_own C) (a := b) (cls := cls) (cell := ce) (rx_Gv C).2.2.2.1.2.1 hcls0 hself0 g4 (by rw [← hheap]; exact g3) (g := F0 m pc ls rest) rfl (pc := hpc) (by
    have h9 := rx_Xc C
    unfold rx_X at h9
    rw [h9]
    exact hsk cls g1)
  obtain ⟨gz, gk⟩ := g11
  have hst0 : (((T.setVm vm₁).setTop (F0 m pc ls rest)).pushFrame (Frame.invoking mk (Value.ref a :: as).toArray)).heap = H := hT
  have hkp : ∀ q : Nat, q < H.size → ¬ va_A wc H.size q → T'.heap[q]? = H[q]? := fun q h1 h2 => by
    rw [← hheap, ← hst0]
    exact gk q (by rw [hst0]; exact h1) h2
  obtain ⟨hP1, hD1⟩ := va_join hP hD isC isR hC' hR' hnr hdis hkp hFc (by rw [← hheap]; exact g8) g10
  have hS1 : va_S A s.heap T'.heap (locs ++ L) := by
    refine ⟨Nat.le_trans hS.1 ?_, fun q h1 h2 => ?_, fun z hz => ?_⟩
    · rw [← hheap, ← hst0]; exact gz
    · rw [hkp q (Nat.lt_of_lt_of_le h1 hS.1) (fun z => h2 (hFc q z))]
      exact hS.2.1 q h1 h2
    · rcases List.mem_append.mp hz with h9 | h9
      · exact hS.2.2 z h9
      · exact hFc _ (g14 z h9)
  obtain ⟨t9, a9, b9⟩ := K w b g2 p e R s m args below meth c T'.heap (locs ++ L) ls A C hk hl hP1 hD1 hS1 (T'.setVm vm₂) rfl X2
  exact ⟨t9, hstep₁ _ fun acts => by rw [doInvoke_state]; exact hsteps.trans (by rw [ht]; exact hgo _ a9), b9⟩
