/-- the contract of a method with an exception table -/
def CnW (l : Launch) (Z : rx_D) (y : MethodName) (cc : ByteArray) (nL : Nat) (ret : Option FieldType) (hh : List (Nat × Nat × Nat × Nat)) (d : Nat) (as : List Value) (ws : va_W) (mc ms : Nat) (post : Option Value → va_W → Prop) : Prop :=
  ∀ sz : Nat, Met l y (Cond.codeWith y cc nL ret hh :: rx_Ts) { frames := d, cells := mc, slots := ms, locals := 60 * d } (va_Pc as (fun U => U.heap.size = sz ∧ va_P Z.1 rx_cl ws U.heap ∧ va_K Z.1 rx_cl (rx_tys Z) U ∧ va_D (fun _ => True) ws ∧ rx_G Z (va_A ws sz) U)) (rx_Q Z post (va_A ws sz)) mc ms (va_A ws sz)
theorem rx_metW {l : Launch} {Z : rx_D} {y : MethodName} {cc : ByteArray} {nL : Nat} {ret : Option FieldType} {hh : List (Nat × Nat × Nat × Nat)} {d : Nat} {as : List Value} {ws : va_W} {mc ms : Nat} {post : Option Value → va_W → Prop} {lv : List (Nat × Value)} (own nm : String) (hM : plainName y.cls = true ∧ y.cls = own ∧ y.name = nm ∧ rx_hs own nm = hh) (hA : (lg_sl as).length ≤ nL) (hlv : lv_args 0 as = lv) (hno : ∀ (x : Int64) (w : va_W), ¬ post (some (.long x)) w) (w : Rw l Z own nm cc nL ret d mc ms post 0 0 ws lv 0 []) : CnW l Z y cc nL ret hh d as ws mc ms post := by
  obtain ⟨hy, hown, hnm, hhs⟩ := hM
  subst hown
  subst hnm
  subst hlv
  intro sz
  refine va_MetW (cc := cc) (maxL := nL) (ret := ret) (hh := hh) hy rfl ?_
  intro p e s m args below meth c s₁ B hml hv
  obtain ⟨rfl, hsz, hP, hK, hD0, hG⟩ := hv
  subst hsz
  have hts := atoms_spec (ws := Cond.codeWith y cc nL ret hh :: rx_Ts) B.pre
  have hl := lv_entry as (n := nL) hA
  rw [lg_entry_eq]
  refine W_mono (fun t ht => ?_) (w p e _ s m _ below meth c s.heap [] _ (va_A ws s.heap.size) ⟨B.exec, B.bytes, hml, findClass_of_methodNamed B.named, fun w hw => hts w (List.mem_cons_of_mem _ hw), B.notSynchronized, (name_of_methodNamed B.named B.method).1, B.returns, hK, fun q h => Or.inr h, ⟨Nat.le_refl _, Nat.le_refl _, Nat.le_refl _, Nat.le_refl _⟩, hG, fun q cell hq hc => ?_, ?_⟩ ⟨Nat.zero_le _, Nat.zero_le _⟩ hl hP hD0.self va_S.rf)
  · rcases ht with ht | ⟨a, ce, kc, x, cls, w9, L, -, -, -, hp, -⟩
    · exact ht
    · exact absurd hp (hno x w9)
  · rcases hq with ⟨k9, e9, h9⟩ | h9
    · exact rx_plain hP h9 hc
    · have h8 := (Array.getElem?_eq_some_iff.mp hc).1
      omega
  · obtain ⟨m9, meth9, c9, g1, g2, g3, g4, g5, g6, -⟩ := Cond.codeWith_spec (hts _ List.mem_cons_self)
    cases B.named.symm.trans g1
    cases B.method.symm.trans g2
    cases (Stand.of_body B).code.symm.trans g3
    unfold rx_X
    rw [hhs]
    exact g6
/-- a call of such a static method of the own class -/
theorem rw_callSW {l : Launch} {Z : rx_D} {own nm : String} {cc : ByteArray} {nL : Nat} {ret : Option FieldType} {d mc ms : Nat} {post : Option Value → va_W → Prop} {k n : Nat} {ws : va_W} {lv : List (Nat × Value)} {pc : Nat} {st : List Value} {y : MethodName} {cc' : ByteArray} {nL' : Nat} {ret' : Option FieldType} {hh : List (Nat × Nat × Nat × Nat)} {d' mc' ms' idx N : Nat} {as rest : List Value} {wc wr : va_W} {post' : Option Value → va_W → Prop}
    (hw : Cond.codeWith y cc' nL' ret' hh ∈ rx_Ts ∧ Cond.initialized y.cls ∈ rx_Ts ∧ y.cls ≠ "java/lang/invoke/MethodHandle" ∧ y.cls ≠ "java/lang/invoke/VarHandle" ∧ (parseMethodDescriptor y.desc).map (fun d => d.parameters.length) = some N) (hlk : Cond.methodLink own idx y ∈ rx_Ts) (hst : Cond.static y ∈ rx_Ts) (hC : CnW l Z y cc' nL' ret' hh d' as wc mc' ms' post') (isC isR : List Nat) (hC' : isC.map (fun i => ws[i]?) = wc.map some) (hR' : isR.map (fun i => ws[i]?) = wr.map some) (hnc : va_nd isC = true) (hnr : va_nd isR = true) (hdis : ∀ i ∈ isR, i ∉ isC) (hN : as.length = N) (hdd : d' + 1 ≤ d ∧ nL' ≤ 41) (hk : k ≤ mc ∧ n ≤ ms → k + mc' ≤ mc ∧ n + ms' ≤ ms) (hcat : (rest.map fun v => v.category).sum ≤ 8) (hs : as.reverse ++ rest = st) (hd : decode cc pc = .ok (.invokestatic idx, 3)) (K : ∀ (r : Option Value) (w : va_W), post' r w → Rw l Z own nm cc nL ret d mc ms post (k + mc') (n + ms') (wr ++ w) lv (pc + 3) (r.toList ++ rest)) : Rw l Z own nm cc nL ret d mc ms post k n ws lv pc st := by
  subst hs
  intro p e R s m args below meth c H locs ls A C hkn hl hP hD hS
  have hk := hk hkn
  obtain ⟨w1, w2, w3, w4, w5⟩ := hw
  have hFc := va_free hD hS (rx_A C) isC hC'
  obtain ⟨r1, r2, r3, r4⟩ := rx_R C
  have hpre := rx_pre (as := as) C hP hD hS isC hC' hnc
  have hgood : GoodIn rx_Ts (Cond.codeWith y cc' nL' ret' hh :: rx_Ts) := by
    intro w hw
    rcases List.mem_cons.mp hw with rfl | hw
    · exact ⟨w1, good_of_word (rx_good _ w1)⟩
    · exact ⟨hw, good_of_word (rx_good _ hw)⟩
  have hrun : va_Run p l e R s m args below meth c H locs k n mc' ms' (F0 m pc ls (as.reverse ++ rest)) rest (rx_Q Z post' (va_A wc H.size) as.toArray) (va_A wc H.size) := by
    have hB : Back l R p e below s args y 3 8 (PreOf R mc' ms' _) (PostOf (rx_Q Z post' (va_A wc H.size)) mc' ms' (va_A wc H.size)) := va_backW (bytes := cc') (maxL := nL') (ret := ret') (hh := hh) (hC H.size) hpre.1 rfl rfl (by show d' + 1 ≤ _; omega) (by show 8 + (nL' + 11) + 60 * d' ≤ _; omega) (pay_in (rx_ts C) hgood) List.mem_cons_self (fun a' U hW => word_at hW (good_of_word (rx_good _ w2)) (rx_ts C _ w2))
    intro T hT X
    obtain ⟨m9, meth9, c9, hn9, hm9, hc9, hb9, hl9, -, hr9, hlk9, hsig9⟩ := Cond.codeWith_spec (rx_ts C _ w1)
    have hlen : as.length = meth9.sig.parameters.length := by
      have h2 := w5
      rw [hsig9] at h2
      rw [hN]
      exact (Option.some.inj h2).symm
    have hstatic : meth9.isStatic = true := Cond.static_spec hn9 hm9 (rx_ts C _ hst)
    obtain ⟨kP, hkP, -⟩ := className_of_methodNamed hn9
    have hinitP : kP.init = .initialized := Cond.initialized_spec (findClass_of_methodNamed hn9) hkP (rx_ts C _ w2)
    have hdg : decode c.code pc = .ok (.invokestatic idx, 3) := by rw [C.2.1]; exact hd
    obtain ⟨vm₁, X₁, hstep₁⟩ := X.invokestatic C.1 (rx_own C) (rx_ts C _ hlk) hn9 hm9 hstatic hkP hinitP ⟨w3, w4⟩ (g := F0 m pc ls (as.reverse ++ rest)) rfl (argsL := as) (rest := rest) hlen rfl hdg
    obtain ⟨v, ⟨U', l2, c2, s2⟩, X', ⟨g', mk, t, L, e1, e2, hq, h1, hL, h2, h3⟩, hsteps⟩ := hB m meth c ⟨T.setVm vm₁, locs, k, n⟩ (F0 m pc ls rest) (.invokestatic idx) m9 as.toArray X₁ rfl (hl.1.trans (rx_hml C).symm) hdg (by show 2 * 0 + (rest.map fun v => v.category).sum ≤ 8; omega) (X₁.named hn9) ⟨by show k + mc' ≤ R.cells; omega, by show n + ms' ≤ R.slots; omega, hpre.2 (T.setVm vm₁) hT X₁.warmed⟩
    dsimp only [Pt.U, Pt.locs, Pt.cells, Pt.slots] at X' e1 e2 h1 h2 h3
    subst h1; subst h2; subst h3
    exact ⟨v, (T.setVm vm₁).calling g' mk as.toArray, t, U', L, hT, X', hL, e1, e2, hq, fun target h => hstep₁ _ fun acts => by rw [doInvoke_state]; exact hsteps.trans h⟩
  refine rx_back hrun hS (fun q _ h => hFc q h) hFc (fun r w H1 locs1 hp hPw hDw hkp hS1 => ?_)
  obtain ⟨hP1, hD1⟩ := va_join hP hD isC isR hC' hR' hnr hdis hkp hFc hPw hDw
  exact K r w hp p e R s m args below meth c H1 locs1 ls A C hk hl hP1 hD1 hS1

/-! making cells, Object's constructor, calls of constructors, the script, longs -/
theorem rx_ai : Cond.arrayClass .int ∈ rx_Ts := (rx_inS (rx_T1 (List.mem_of_getElem? (i := 65) (by decide +kernel))) rfl)
theorem rx_al : Cond.arrayClass .long ∈ rx_Ts := (rx_inS (rx_T8 (List.mem_of_getElem? (i := 19) (by decide +kernel))) rfl)
theorem rx_oi : Cond.instanceMethod Lib.objectInit ∈ rx_Ts := (rx_inS (rx_T1 (List.mem_of_getElem? (i := 38) (by decide +kernel))) rfl)
set_option maxRecDepth 20000 in
theorem rx_oc : Cond.code Lib.objectInit ⟨#[0xb1]⟩ 1 none ∈ rx_Ts := (rx_inS (rx_T1 (List.mem_of_getElem? (i := 39) (rfl))) rfl)
abbrev la (Z : rx_D) (a N : Nat) (f : Nat → Int64) : Nat × va_E := (a, .inl (Z.2.1 1, N, .inr (.inl f)))
abbrev rq (Z : rx_D) (a : Nat) (g : Nat → Option Nat) : Nat × va_E := (a, .inl (Z.2.1 2, 4, .inr (.inr (.inr (.inr g)))))
theorem arrV_cg {cA : ClassId} {N : Nat} {f g : Nat → Value} (h : ∀ j, j < N → f j = g j) : arrV cA N f = arrV cA N g := by
  unfold arrV
  congr 1
  congr 1
  funext j
  exact h j.val j.isLt
def rx_new (own : String) (idx ci N : Nat) (fs : List Value) : Prop := ∃ (C : String) (T : u_T) (ty0 : Nat → FieldType), rx_cl[ci]? = some (C, T, N) ∧ (∀ w ∈ u_ws C T N, w ∈ rx_Ts) ∧ (∀ k, k < N → parseFieldDescriptor (T k).2.2.1 = some (ty0 k)) ∧ Cond.classLink own idx C ∈ rx_Ts ∧ Cond.instantiable C N ∈ rx_Ts ∧ Cond.initialized C ∈ rx_Ts ∧ ∀ j, j < N → defaultValue (ty0 j) = vp_V fs j
section RZ
variable {l : Launch} {Z : rx_D} {own nm : String} {cc : ByteArray} {nL : Nat} {ret : Option FieldType} {d mc ms : Nat} {post : Option Value → va_W → Prop} {k n : Nat} {ws : va_W} {lv : List (Nat × Value)} {pc : Nat} {st : List Value}
theorem rw_wide {k' n' : Nat} (hk : k ≤ k') (hn : n ≤ n') (hr : k' ≤ mc ∧ n' ≤ ms) (K : Rw l Z own nm cc nL ret d mc ms post k' n' ws lv pc st) : Rw l Z own nm cc nL ret d mc ms post k n ws lv pc st :=
  fun p e R s m args below meth c H locs ls A C hkn hl hP hD hS => W.widen hk hn (K p e R s m args below meth c H locs ls A C hr hl hP hD hS)
theorem rw_newI {v : Int32} {N M : Nat} (hn : ¬ v < 0) (hN : v.toNatClampNeg = N) (hNM : N ≤ M) (hM : M ≤ 100000) (hr : k + 1 ≤ mc ∧ n + M ≤ ms) (hd : decode cc pc = .ok (.newarray .int, 2)) (K : ∀ q : Nat, Rw l Z own nm cc nL ret d mc ms post (k + 1) (n + M) (ws ++ [ia Z q N (fun _ => 0)]) lv (pc + 2) (.ref q :: st)) : Rw l Z own nm cc nL ret d mc ms post k n ws lv pc (.int v :: st) := by
  intro p e R s m args below meth c H locs ls A C hkn hl hP hD hS
  obtain ⟨r1, r2, r3, r4⟩ := rx_R C
  refine W.widen (Nat.le_refl k) (show n ≤ n + (M - N) by omega) ?_
  refine va_newa (a0 := (N, .inl (fun _ => (0 : Int32)))) C.1 C.2.1 (atype := .int) (ty := .int) (rx_ts C _ rx_ai) rfl (rx_K C) hP hD hS (rx_A C) (fun cA => rfl) hn hN (by show N * 4 ≤ _; omega) (by omega) (by omega) hd (fun q cA H1 hK1 hP1 hD1 hS1 => ?_)
  have hcA : cA = Z.2.1 0 := by
    have h1 : s.vm.findClass ("[" ++ FieldType.int.toString) = some cA := (hK1.2 3 (cA, .int) rfl).2
    have h2 : s.vm.findClass ("[" ++ FieldType.int.toString) = some (Z.2.1 0) := ((rx_K C).2 0 (Z.2.1 0, .int) rfl).2
    exact Option.some.inj (h1.symm.trans h2)
  subst hcA
  rw [show n + (M - N) + N = n + M by omega]
  exact K q p e R s m args below meth c H1 locs ls A C hr hl hP1 hD1 hS1
theorem rw_newJ {v : Int32} {N M : Nat} (hn : ¬ v < 0) (hN : v.toNatClampNeg = N) (hNM : N ≤ M) (hM : M ≤ 100000) (hr : k + 1 ≤ mc ∧ n + M ≤ ms) (hd : decode cc pc = .ok (.newarray .long, 2)) (K : ∀ q : Nat, Rw l Z own nm cc nL ret d mc ms post (k + 1) (n + M) (ws ++ [la Z q N (fun _ => 0)]) lv (pc + 2) (.ref q :: st)) : Rw l Z own nm cc nL ret d mc ms post k n ws lv pc (.int v :: st) := by
  intro p e R s m args below meth c H locs ls A C hkn hl hP hD hS
  obtain ⟨r1, r2, r3, r4⟩ := rx_R C
  refine W.widen (Nat.le_refl k) (show n ≤ n + (M - N) by omega) ?_
  refine va_newa (a0 := (N, .inr (.inl (fun _ => (0 : Int64))))) C.1 C.2.1 (atype := .long) (ty := .long) (rx_ts C _ rx_al) rfl (rx_K C) hP hD hS (rx_A C) (fun cA => rfl) hn hN (by show N * 8 ≤ _; omega) (by omega) (by omega) hd (fun q cA H1 hK1 hP1 hD1 hS1 => ?_)
  have hcA : cA = Z.2.1 1 := by
    have h1 : s.vm.findClass ("[" ++ FieldType.long.toString) = some cA := (hK1.2 3 (cA, .long) rfl).2
    have h2 : s.vm.findClass ("[" ++ FieldType.long.toString) = some (Z.2.1 1) := ((rx_K C).2 1 (Z.2.1 1, .long) rfl).2
    exact Option.some.inj (h1.symm.trans h2)
  subst hcA
  rw [show n + (M - N) + N = n + M by omega]
  exact K q p e R s m args below meth c H1 locs ls A C hr hl hP1 hD1 hS1
theorem rw_newQ {idx : Nat} (hcl : Cond.classLink own idx "DeflateEffort$Block" ∈ rx_Ts) (hr : k + 1 ≤ mc ∧ n + 4 ≤ ms) (hd : decode cc pc = .ok (.anewarray idx, 3)) (K : ∀ q : Nat, Rw l Z own nm cc nL ret d mc ms post (k + 1) (n + 4) (ws ++ [rq Z q (fun _ => none)]) lv (pc + 3) (.ref q :: st)) : Rw l Z own nm cc nL ret d mc ms post k n ws lv pc (.int 4 :: st) := by
  intro p e R s m args below meth c H locs ls A C hkn hl hP hD hS
  obtain ⟨r1, r2, r3, r4⟩ := rx_R C
  refine va_newq C.1 C.2.1 (rx_own C) (rx_ts C _ hcl) (rx_Gv C).2.2.1.2.2 (rx_K C) hP hD hS (rx_A C) (by decide) (N' := 4) (by decide) (by decide) (by omega) (by omega) hd (fun q cA H1 hK1 hP1 hD1 hS1 => ?_)
  have hcA : cA = Z.2.1 2 := by
    obtain ⟨kA, comp, -, -, -, h1⟩ := (hK1.2 3 (cA, .object "DeflateEffort$Block") rfl).2
    obtain ⟨kA2, comp2, -, -, -, h2⟩ := ((rx_K C).2 2 (Z.2.1 2, .object "DeflateEffort$Block") rfl).2
    exact Option.some.inj (h1.symm.trans h2)
  subst hcA
  exact K q p e R s m args below meth c H1 locs ls A C hr hl hP1 hD1 hS1
theorem rw_astB (q qk : Nat) {a v : Nat} {vs : List Value} {g : Nat → Option Nat} {i : Int32} {j : Nat} {ws' : va_W} (ha : ws[q]? = some (rq Z a g)) (hv : ws[qk]? = some (ob v 0 vs)) (hin : inb i 4 = true) (hj : i.toNatClampNeg = j) (hw : ws.set q (rq Z a (va_up g j (some v))) = ws') (hd : decode cc pc = .ok (.aastore, 1)) (K : Rw l Z own nm cc nL ret d mc ms post k n ws' lv (pc + 1) st) : Rw l Z own nm cc nL ret d mc ms post k n ws lv pc (.ref v :: .int i :: .ref a :: st) := by
  intro p e R s m args below meth c H locs ls A C hkn hl hP hD hS
  subst hw
  subst hj
  exact va_astq C.1 C.2.1 (rx_K C) hP hD hS q 2 qk 0 (r := ("DeflateEffort$Block", Tc_Block, 9)) ha rfl hv rfl (inb_in hin) hd (fun H1 locs1 hP1 hD1 hS1 => K p e R s m args below meth c H1 locs1 ls A C hkn hl hP1 hD1 hS1)
theorem rw_ra4 (q : Nat) {a b0 b1 b2 b3 : Nat} {g : Nat → Option Nat} {ws' : va_W} (ha : ws[q]? = some (rq Z a g)) (h0 : g 0 = some b0) (h1 : g 1 = some b1) (h2 : g 2 = some b2) (h3 : g 3 = some b3) (hw : ws.set q (ra4 Z a b0 b1 b2 b3) = ws') (K : Rw l Z own nm cc nL ret d mc ms post k n ws' lv pc st) : Rw l Z own nm cc nL ret d mc ms post k n ws lv pc st := by
  intro p e R s m args below meth c H locs ls A C hkn hl hP hD hS
  subst hw
  refine K p e R s m args below meth c H locs ls A C hkn hl (hP.set hD ha ?_ (fun _ _ => rfl)) (hD.set ha) hS
  have h9 : H[a]? = some (vp_cell _ _) := hP q _ ha
  show H[a]? = some (vp_cell _ _)
  rw [h9, vp_cell_q, vp_cell_q]
  congr 1
  refine arrV_cg fun j hj => ?_
  rcases lt4 hj with rfl | rfl | rfl | rfl
  · rw [h0]; rfl
  · rw [h1]; rfl
  · rw [h2]; rfl
  · rw [h3]; rfl
theorem rw_newO {idx ci N : Nat} {fs : List Value} (fa : rx_new own idx ci N fs) (hr : k + 1 ≤ mc ∧ n + N ≤ ms) (hd : decode cc pc = .ok (.new idx, 3)) (K : ∀ q : Nat, Rw l Z own nm cc nL ret d mc ms post (k + 1) (n + N) (ws ++ [ob q ci fs]) lv (pc + 3) (.ref q :: st)) : Rw l Z own nm cc nL ret d mc ms post k n ws lv pc st := by
  intro p e R s m args below meth c H locs ls A C hkn hl hP hD hS
  obtain ⟨C0, T, ty0, h1, h2, h3, h4, h5, h6, h7⟩ := fa
  obtain ⟨r1, r2, r3, r4⟩ := rx_R C
  exact va_new C.1 C.2.1 (rx_ts C) h2 ty0 h3 (rx_own C) (rx_ts C _ h4) (rx_ts C _ h5) (rx_ts C _ h6) (rx_K C) hP hD hS (rx_A C) h1 h7 (by omega) (by omega) hd (fun q H1 hP1 hD1 hS1 => K q p e R s m args below meth c H1 locs ls A C hr hl hP1 hD1 hS1)
theorem rw_objI {idx a : Nat} (hlk : Cond.methodLink own idx Lib.objectInit ∈ rx_Ts) (hdd : 1 ≤ d) (hcat : (st.map fun v => v.category).sum ≤ 8) (hd : decode cc pc = .ok (.invokespecial idx, 3)) (K : Rw l Z own nm cc nL ret d mc ms post k n ws lv (pc + 3) st) : Rw l Z own nm cc nL ret d mc ms post k n ws lv pc (.ref a :: st) := by
  intro p e R s m args below meth c H locs ls A C hkn hl hP hD hS
  obtain ⟨r1, r2, r3, r4⟩ := rx_R C
  exact W.objInit C.1 C.2.1 (rx_own C) (rx_ts C _ hlk) (rx_ts C _ rx_oi) (rx_ts C _ rx_oc) rfl (hl.1.trans (rx_hml C).symm) rfl hd (by omega) (by show 2 * 0 + (st.map fun v => v.category).sum + 12 ≤ _; omega) (K p e R s m args below meth c H locs ls A C hkn hl hP hD hS)
theorem rw_callI {y : MethodName} {cc' : ByteArray} {nL' d' mc' ms' idx N a : Nat} {as rest : List Value} {wc wr : va_W} {post' : Option Value → va_W → Prop} (hw : rx_cw y cc' nL' none N) (hlk : rx_lkm own idx y) (hst : y.name = "<init>" ∧ Cond.instanceMethod y ∈ rx_Ts) (hC : Cn l Z y cc' nL' none d' (.ref a :: as) wc mc' ms' post') (isC isR : List Nat) (hC' : isC.map (fun i => ws[i]?) = wc.map some) (hR' : isR.map (fun i => ws[i]?) = wr.map some) (hnc : va_nd isC = true) (hnr : va_nd isR = true) (hdis : ∀ i ∈ isR, i ∉ isC) (hN : as.length = N) (hdd : d' + 1 ≤ d ∧ nL' ≤ 41) (hk : k ≤ mc ∧ n ≤ ms → k + mc' ≤ mc ∧ n + ms' ≤ ms) (hcat : (rest.map fun v => v.category).sum ≤ 8) (hs : as.reverse ++ .ref a :: rest = st) (hd : decode cc pc = .ok (.invokespecial idx, 3)) (K : ∀ (r : Option Value) (w : va_W), post' r w → Rw l Z own nm cc nL ret d mc ms post (k + mc') (n + ms') (wr ++ w) lv (pc + 3) (r.toList ++ rest)) : Rw l Z own nm cc nL ret d mc ms post k n ws lv pc st := by
  subst hs
  intro p e R s m args below meth c H locs ls A C hkn hl hP hD hS
  obtain ⟨w1, w2, w3, w4, w5⟩ := hw
  have hFc := va_free hD hS (rx_A C) isC hC'
  obtain ⟨r1, r2, r3, r4⟩ := rx_R C
  have hk := hk hkn
  have hpre := rx_pre (as := .ref a :: as) C hP hD hS isC hC' hnc
  have hrun : va_Run p l e R s m args below meth c H locs k n mc' ms' (F0 m pc ls (as.reverse ++ .ref a :: rest)) rest (rx_Q Z post' (va_A wc H.size) (Value.ref a :: as).toArray) (va_A wc H.size) := by
    rcases hlk with hlk | ⟨host, hlk⟩
    · exact va_runI (As := as) (rest := rest) (nL := nL) ⟨C.1, C.2.1, rx_hml C, rx_own C, rx_ts C⟩ (hC H.size) ⟨callB_of N (rx_ts C) (rx_gi w1) rfl rfl rfl (rx_ts C _ w2) (rx_ts C _ hlk) ⟨w3, w4, w5⟩ ⟨by show d' + 1 ≤ _; omega, by show 8 + (nL' + 11) + 60 * d' ≤ _; omega⟩, hst.1, rx_ts C _ hst.2⟩ hpre rfl hN hl.1 rfl (lv_room hcat) hd ⟨by omega, by omega⟩
    · exact va_runIN (As := as) (rest := rest) (nL := nL) (Ts := rx_Ts) ⟨C.1, C.2.1, rx_hml C, rx_own C, rx_ts C⟩ (hC H.size) ⟨va_cnB N (rx_ts C) (rx_gi w1) rfl rfl rfl ((rx_Gv C).1 _ hlk) (rx_ts C _ w2) ⟨w3, w4, w5⟩ ⟨by show d' + 1 ≤ _; omega, by show 8 + (nL' + 11) + 60 * d' ≤ _; omega⟩, hst.1, rx_ts C _ hst.2⟩ hpre rfl hN hl.1 rfl (lv_room hcat) hd ⟨by omega, by omega⟩
  refine rx_back hrun hS (fun q _ h => hFc q h) hFc (fun r w H1 locs1 hp hPw hDw hkp hS1 => ?_)
  obtain ⟨hP1, hD1⟩ := va_join hP hD isC isR hC' hR' hnr hdis hkp hFc hPw hDw
  exact K r w hp p e R s m args below meth c H1 locs1 ls A C hk hl hP1 hD1 hS1
theorem rx_Xlt {p : Program} {R : Room} {s : State} {m : MethodId} {args : Array Value} {meth : Method} {c : Code} {A : Nat → Prop} (C : rx_C Z own nm cc nL ret d mc ms p R s m args meth c A) : Z.2.2.2.1 < s.heap.size := by
  obtain ⟨scr, g1, -⟩ := (rx_Gv C).2.2.2.2.1
  exact (Array.getElem?_eq_some_iff.mp g1).1
theorem rw_sld {i : Int32} (hin : inb i Z.2.2.2.2.1 = true) (hd : decode cc pc = .ok (.iaload, 1)) (K : Rw l Z own nm cc nL ret d mc ms post k n ws lv (pc + 1) (.int (Z.2.2.2.2.2 i.toNatClampNeg) :: st)) : Rw l Z own nm cc nL ret d mc ms post k n ws lv pc (.int i :: .ref Z.2.2.2.1 :: st) :=
  fun p e R s m args below meth c H locs ls A C hkn hl hP hD hS => va_sld C.1 C.2.1 (rx_Gv C).2.2.2.2.1 (rx_Xlt C) (rx_Gv C).2.2.2.2.2 hS (inb_in hin) hd (K p e R s m args below meth c H locs ls A C hkn hl hP hD hS)
theorem rw_slen (hd : decode cc pc = .ok (.arraylength, 1)) (K : Rw l Z own nm cc nL ret d mc ms post k n ws lv (pc + 1) (.int (nI Z.2.2.2.2.1) :: st)) : Rw l Z own nm cc nL ret d mc ms post k n ws lv pc (.ref Z.2.2.2.1 :: st) :=
  fun p e R s m args below meth c H locs ls A C hkn hl hP hD hS => va_slen C.1 C.2.1 (rx_Gv C).2.2.2.2.1 (rx_Xlt C) (rx_Gv C).2.2.2.2.2 hS hd (K p e R s m args below meth c H locs ls A C hkn hl hP hD hS)
theorem rw_i2l {x : Int32} (hd : decode cc pc = .ok (.i2l, 1)) (K : Rw l Z own nm cc nL ret d mc ms post k n ws lv (pc + 1) (.long x.toInt64 :: st)) : Rw l Z own nm cc nL ret d mc ms post k n ws lv pc (.int x :: st) :=
  fun p e R s m args below meth c H locs ls A C hkn hl hP hD hS => lv_i2l C.1 C.2.1 hd rfl (K p e R s m args below meth c H locs ls A C hkn hl hP hD hS)
theorem rw_lald (q : Nat) {a N : Nat} {f : Nat → Int64} {i : Int32} (ha : ws[q]? = some (la Z a N f)) (hin : inb i N = true) (hd : decode cc pc = .ok (.laload, 1)) (K : Rw l Z own nm cc nL ret d mc ms post k n ws lv (pc + 1) (.long (f i.toNatClampNeg) :: st)) : Rw l Z own nm cc nL ret d mc ms post k n ws lv pc (.int i :: .ref a :: st) :=
  fun p e R s m args below meth c H locs ls A C hkn hl hP hD hS => va_lald C.1 C.2.1 (rx_K C) hP q 1 ha rfl (inb_in hin) hd (K p e R s m args below meth c H locs ls A C hkn hl hP hD hS)
theorem rw_last (q : Nat) {a N : Nat} {f : Nat → Int64} {i : Int32} {x : Int64} {ws' : va_W} (ha : ws[q]? = some (la Z a N f)) (hin : inb i N = true) (hw : ws.set q (la Z a N (vp_updL f i.toNatClampNeg x)) = ws') (hd : decode cc pc = .ok (.lastore, 1)) (K : Rw l Z own nm cc nL ret d mc ms post k n ws' lv (pc + 1) st) : Rw l Z own nm cc nL ret d mc ms post k n ws lv pc (.long x :: .int i :: .ref a :: st) := by
  intro p e R s m args below meth c H locs ls A C hkn hl hP hD hS
  subst hw
  exact va_last C.1 C.2.1 (rx_K C) hP hD hS q 1 ha rfl (inb_in hin) hd (fun H1 locs1 hP1 hD1 hS1 => K p e R s m args below meth c H1 locs1 ls A C hkn hl hP1 hD1 hS1)
def lcm (x y : Int64) : Int32 := if x > y then 1 else if x = y then 0 else -1
theorem rw_lcmp {x y : Int64} (hd : decode cc pc = .ok (.lcmp, 1)) (K : Rw l Z own nm cc nL ret d mc ms post k n ws lv (pc + 1) (.int (lcm x y) :: st)) : Rw l Z own nm cc nL ret d mc ms post k n ws lv pc (.long y :: .long x :: st) := by
  intro p e R s m args below meth c H locs ls A C hkn hl hP hD hS T hT X
  obtain ⟨t, a, b⟩ := K p e R s m args below meth c H locs ls A C hkn hl hP hD hS T hT X
  refine ⟨t, ?_, b⟩
  have hexec := C.1
  have hb := C.2.1
  unfold lcm at a
  by_cases h1 : x > y
  · rw [if_pos h1] at a
    jvm_step X.here [X.here.top, hexec, hb, hd, Op.lcmp.sem, h1]
    exact a
  · rw [if_neg h1] at a
    by_cases h2 : x = y
    · rw [if_pos h2] at a
      jvm_step X.here [X.here.top, hexec, hb, hd, Op.lcmp.sem, h1, h2]
      exact a
    · rw [if_neg h2] at a
      jvm_step X.here [X.here.top, hexec, hb, hd, Op.lcmp.sem, h1, h2]
      exact a
end RZ

/-! throws again: a 'declares' follows from the method's other words -/
def rx_dc (x : MethodName) : Bool := decide (Cond.instanceMethod x ∈ tables_1) && tables_1.any (fun z => match z with
  | .code y _ _ _ => decide (y = x)
  | _ => false)
def rx_dw (w : Cond) : Bool := match w with
  | .declares x => rx_dc x
  | _ => false
def rx_tw2 (cls : String) (w : Cond) : Bool := rx_tw cls w || rx_dw w
theorem rx_dc_at {x : MethodName} (h : rx_dc x = true) {U : State} {args : Array Value} (hts : ∀ w ∈ rx_Ts, w.before args U = true) : (Cond.declares x).before args U = true := by
  unfold rx_dc at h
  simp only [Bool.and_eq_true, decide_eq_true_eq, List.any_eq_true] at h
  obtain ⟨h1, z, hz, h2⟩ := h
  obtain ⟨m9, meth, hn, hm, hs, -⟩ := Cond.instanceMethod_spec (hts _ (rx_inS h1 rfl))
  cases z <;> first | cases h2 | skip
  rename_i y b n r
  have hy : y = x := of_decide_eq_true h2
  subst hy
  obtain ⟨meth', c, hm', -, -, -, -, -, -, hsig⟩ := Cond.code_spec hn (hts _ (rx_inS hz rfl))
  cases hm.symm.trans hm'
  simp [Cond.before, Cond.holds, Cond.value, hn, hm, hs, hsig]
theorem rx_tw2_at {cls : String} {w : Cond} (h : rx_tw2 cls w = true) {A : Nat → Prop} {U : State} {args : Array Value} (hcl : cls ∈ rx_xs) (hts : ∀ w ∈ rx_Ts, w.before args U = true) (hG : rx_GX A U) : w.before args U = true := by
  unfold rx_tw2 at h
  rcases Bool.or_eq_true _ _ ▸ h with h | h
  · exact rx_tw_at h hcl hts hG
  · cases w <;> first | (exact absurd (show false = true from h) (by decide)) | skip
    exact rx_dc_at h hts
set_option maxHeartbeats 4000000 in
theorem rw_throw2 {l : Launch} {Z : rx_D} {own nm : String} {cc : ByteArray} {nL : Nat} {ret : Option FieldType} {d mc ms : Nat} {post : Option Value → va_W → Prop} {k n : Nat} {ws : va_W} {lv : List (Nat × Value)} {pc : Nat} {st : List Value}
    (hlt : l.stackTraces = false) {x : Int64} {cls text : String} {ik is ic : Nat} (hx : rx_ex x = some cls) (hcl : cls ∈ rx_xs) (hfit : Bundle.fit cls = true) (hss : (is, text) ∈ rx_ss) (hde : own = "DeflateEffort") (hhs : rx_hs own nm = [])
    (hwd : (Bundle.ownAtoms "DeflateEffort" ic cls rx_names).all (rx_tw2 cls) = true) (hkl : Cond.classLink own ik cls ∈ rx_Ts) (hini : Cond.initialized cls ∈ rx_Ts)
    (d0 : decode cc pc = .ok (.new ik, 3)) (d3 : decode cc (pc + 3) = .ok (.dup, 1)) (d4 : decode cc (pc + 4) = .ok (.ldc is, 2)) (d6 : decode cc (pc + 6) = .ok (.invokespecial ic, 3)) (d9 : decode cc (pc + 9) = .ok (.athrow, 1))
    (hdd : 6 ≤ d) (hkm : k ≤ mc ∧ n ≤ ms → k + 1 ≤ mc ∧ n + 6 ≤ ms) (hcat : (st.map fun v => v.category).sum ≤ 8) (hp : post (some (.long x)) ws) : Rw l Z own nm cc nL ret d mc ms post k n ws lv pc st := by
  intro p e R s m args below meth c H locs ls A C hkn hl hP hD hS T hT X
  subst hde
  obtain ⟨hk1, hk2⟩ := hkm hkn
  obtain ⟨r1, r2, r3, r4⟩ := rx_R C
  have hexec := C.1
  rw [← C.2.1] at d0 d3 d4 d6 d9
  have hlk := rx_lk C
  have Y := rx_rebase X (Nat.le_trans hkn.1 r3) (Nat.le_trans hkn.2 r4)
  generalize hs' : T.setFrames (.invoking m args :: below) = s' at Y
  have hvm : s'.vm = T.vm := by rw [← hs']; rfl
  have hhp : s'.heap = T.heap := by rw [← hs']; rfl
  have hWs : s.WarmedH s'.vm := by rw [hvm]; exact X.warmed
  have hts' : ∀ w ∈ rx_Ts, w.before args s' = true := fun w hw => word_at hWs (good_of_word (rx_good w hw)) (rx_ts C w hw)
  have hS' : va_S A s.heap s'.heap locs := by rw [hhp, hT]; exact hS
  have hG' : rx_GX A s' := rx_GX_at (rx_Gv C).2.2.2.1 (rx_no C) hS' hWs (fun _ h => h)
  have hown' : s'.vm.findClass "DeflateEffort" = some m.cls := by rw [hWs.alike.findClass]; exact rx_own C
  have hw : ∀ w ∈ Bundle.ownAtoms "DeflateEffort" ic cls rx_names, w.before args s' = true := fun w h => rx_tw2_at (List.all_eq_true.mp hwd w h) hcl hts' hG'
  have htr : e.platform.stackTraces = false := by rw [X.admits.platform]; exact hlt
  have hins : (Cond.instantiable cls 6).before args s' = true := hw _ (by simp [Bundle.ownAtoms])
  have hout : ∀ y ∈ c.exceptionTable.toList, covers y (pc + 9) = false := by
    have h9 := rx_Xc C
    unfold rx_X at h9
    rw [hhs] at h9
    intro y hy
    rw [List.map_eq_nil_iff.mp h9] at hy
    cases hy
  obtain ⟨vm₁, cX, kX, hfX, hkX, -, -, X₁, st1⟩ := Y.newCold hexec (own := "DeflateEffort") (C := cls) (index := ik) (n := 6) hown' (hts' _ hkl) hins (hts' _ hini) (g := F0 m pc ls st) rfl d0 (by show 0 + 1 ≤ R.cells - k; omega) (by show 0 + 6 ≤ R.slots - n; omega)
  generalize hT2 : (T.setVm vm₁).pushCell { cls := cX, slots := kX.instanceTypes.map defaultValue, vm := .none } = T2 at X₁ st1
  have hcellA : T2.heap[T.heap.size]? = some (freshCell cX kX) := by rw [← hT2]; exact State.heap_pushCell_size _ _
  obtain ⟨sa, hsr, hev⟩ := hG'.2.2.1 (is, text) hss
  have hsr' : (Cond.stringRef "DeflateEffort" is text).before args s' = true := hsr
  have hev' : (Term.string "DeflateEffort" is).eval args s' none [] s' = some (.ref sa) := hev
  obtain ⟨U, hsteps, hrun, hend, hWU, hsame, ce, hce, hoc⟩ := X₁.ctorThrowS hexec htr (own := "DeflateEffort") (cls := cls) (names := rx_names) (ic := ic) hown' hfit (by decide) hw (fun y hy => by cases hy) hfX hkX hcellA (by rw [hhp]; exact Nat.le_refl _) (msg := .ref sa) rfl
    (g := { method := m, pc := pc + 6, locals := ls, stack := .ref sa :: .ref T.heap.size :: .ref T.heap.size :: st, locked := none }) rfl (hl.1.trans (rx_hml C).symm) rfl rfl (rest := st) rfl d6 d9 hout (by show 2 + 3 < R.frames; omega) (by show 2 * 0 + ((Value.ref T.heap.size :: st).map fun v => v.category).sum + (13 * (2 + 1) + 42) ≤ R.locals; rw [List.map_cons, List.sum_cons, show (Value.ref T.heap.size).category = 1 from rfl]; omega) (hlocks := hlk)
  have hkept : ∀ (a : Nat) (c : Cell), T.heap[a]? = some c → U.heap[a]? = some c := fun a c h => rx_kept0 hsame (by rw [hhp]; exact h)
  have hal : s'.vm.Alike U.vm := hWU.alike
  have hWsU : s.WarmedH U.vm := State.WarmedH.trans hWs hWU
  have hkU : ∀ q : Nat, q < H.size → U.heap[q]? = H[q]? := fun q hq => by
    rw [← hT] at hq ⊢
    rw [Array.getElem?_eq_getElem hq]
    exact hkept q _ (Array.getElem?_eq_getElem hq)
  have hszU : H.size ≤ U.heap.size := by
    have h9 : s'.heap.size ≤ U.heap.size := hsame.2.1
    rw [hhp, hT] at h9
    exact h9
  obtain ⟨kE, hkE⟩ : ∃ k9, U.vm.classes[ce.cls]? = some k9 := by
    have h9 := hoc.cls
    cases Option.some.inj (hfX.symm.trans h9)
    obtain ⟨k', hk', -⟩ := hal.2.2 _ _ hkX
    exact ⟨k', hk'⟩
  refine ⟨U, ?_, Or.inr ⟨T.heap.size, ce, kE, x, cls, ws, locs, hrun, hend, hx, hp, ⟨hce, hoc.vm, hkE, ?_, ?_⟩, ?_, va_K.moved hWsU.alike (rx_K C), hD, ⟨Nat.le_trans hS.1 hszU, ?_⟩, hWsU, ?_, hS.2.2⟩⟩
  · refine st1 _ ?_
    show Steps p.tables e below (T2.setTop { method := m, pc := pc + 3, locals := ls, stack := .ref T.heap.size :: st, locked := none }) _
    jvm_step X₁.here [X₁.here.top, hexec, d3, Value.category]
    exact X₁.ldcString hexec (own := "DeflateEffort") (text := text) (index := is) (a := sa) hown' hsr' hev'
      (g := { method := m, pc := pc + 4, locals := ls, stack := .ref T.heap.size :: .ref T.heap.size :: st, locked := none }) rfl d4 _ hsteps
  · rw [hal.findClass]; exact hoc.cls
  · rw [hal.assignable]; exact hoc.self
  · intro j q hq
    exact (hP j q hq).kept (hkU q.1 (hP j q hq).lt)
  · intro q h1 h2
    rw [hkU q (Nat.lt_of_lt_of_le h1 hS.1)]
    exact hS.2.1 q h1 h2
  · have h9 : T.sameButNew ({ U with vm := T.vm } : State) [] (0 + 1) (0 + 6) := by
      obtain ⟨e1, e2⟩ := hsame
      rw [← hs'] at e1 e2
      refine ⟨?_, e2⟩
      rw [State.setFrames_setFrames] at e1
      exact e1
    have h8 := X.same.trans (h9.setVm s.vm)
    rw [List.append_nil] at h8
    exact h8.mono (by omega) (by omega)

