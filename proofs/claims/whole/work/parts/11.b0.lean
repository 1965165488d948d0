/-! contracts of the helpers at blocks -/
theorem CnW_frame {l : Launch} {Z : rx_D} {y : MethodName} {cc : ByteArray} {nL : Nat} {ret : Option FieldType} {hh : List (Nat × Nat × Nat × Nat)} {d : Nat} {as : List Value} {ws wc wr : va_W} {mc ms : Nat} {post : Option Value → va_W → Prop} (hC : CnW l Z y cc nL ret hh d as wc mc ms post) (isC isR : List Nat) (hC' : isC.map (fun i => ws[i]?) = wc.map some) (hR' : isR.map (fun i => ws[i]?) = wr.map some) (hnc : va_nd isC = true) (hnr : va_nd isR = true) (hdis : ∀ i ∈ isR, i ∉ isC) : CnW l Z y cc nL ret hh d as ws mc ms (fun r w => ∃ w', post r w' ∧ w = wr ++ w') := by
  intro sz
  have hA := rx_sub (sz := sz) hC'
  refine MetFree.mono (hC sz) ?_ (fun _ _ _ _ _ h => h) ?_
  · rintro a U ⟨rfl, h1, h2, h3, h4, h5⟩
    exact ⟨rfl, h1, h2.sub isC (rx_fm hC'), h3, h4.sub isC hnc hC', rx_G_narrow h5 hA⟩
  · rintro a st o t ⟨-, h1, h2, h3, h4, h5⟩ ⟨⟨⟨r, w, e1, e2, e3, e4, e5, e6⟩, e7, e8⟩, L, f1, f2⟩
    subst h1
    obtain ⟨p1, p2⟩ := va_join h2 h4.self isC isR hC' hR' hnr hdis e8 hA e4 e6
    exact ⟨⟨⟨r, wr ++ w, e1, e2, ⟨w, e3, rfl⟩, p1, e5, p2⟩, e7, fun q g1 g2 => e8 q g1 (fun z => g2 (hA q z))⟩, L, f1, fun q hq => hA _ (f2 q hq)⟩
theorem CnW_mono {l : Launch} {Z : rx_D} {y : MethodName} {cc : ByteArray} {nL : Nat} {ret : Option FieldType} {hh : List (Nat × Nat × Nat × Nat)} {d : Nat} {as : List Value} {ws : va_W} {mc ms : Nat} {post post' : Option Value → va_W → Prop} (hC : CnW l Z y cc nL ret hh d as ws mc ms post) (h : ∀ r w, post r w → ∃ (w' : va_W) (is : List Nat), is.map (fun i => w[i]?) = w'.map some ∧ va_nd is = true ∧ post' r w') : CnW l Z y cc nL ret hh d as ws mc ms post' := by
  intro sz
  refine MetFree.mono (hC sz) (fun _ _ h => h) (fun _ _ _ _ _ h => h) ?_
  rintro a st o t - ⟨⟨⟨r, w, e1, e2, e3, e4, e5, e6⟩, e7⟩, e8⟩
  obtain ⟨w', is, g1, g2, g3⟩ := h r w e3
  exact ⟨⟨⟨r, w', e1, e2, g3, e4.sub is (rx_fm g1), e5, e6.sub is g2 g1⟩, e7⟩, e8⟩
section RBL
variable {l : Launch} {Z : rx_D} {own nm : String} {cc : ByteArray} {nL : Nat} {ret : Option FieldType} {d mc ms : Nat} {post : Option Value → va_W → Prop} {k n : Nat} {lv : List (Nat × Value)} {pc : Nat} {st : List Value} {X M L : va_W}
/-- the first two blocks change places -/
theorem rw_swap (K : Rw l Z own nm cc nL ret d mc ms post k n (X ++ (M ++ L)) lv pc st) : Rw l Z own nm cc nL ret d mc ms post k n (M ++ (X ++ L)) lv pc st := by
  intro p e R s m args below meth c H locs ls A0 C0 hkn hl hP hD hS
  have h1 := pl_mid [] M (X ++ L)
  have h2 := pl_mid M X L
  have h3 := pl_mid (M ++ X) L []
  rw [List.append_nil, List.append_assoc] at h3
  rw [List.nil_append] at h1
  rw [show ([] : va_W).length = 0 from rfl] at h1
  have hm : (plr M.length X.length ++ (plr 0 M.length ++ plr (M ++ X).length L.length)).map (fun i => (M ++ (X ++ L))[i]?) = (X ++ (M ++ L)).map some := by
    rw [List.map_append, List.map_append, List.map_append, List.map_append, h1, h2, h3]
  have hn : va_nd (plr M.length X.length ++ (plr 0 M.length ++ plr (M ++ X).length L.length)) = true := by
    rw [List.length_append]
    refine va_nd_of _ (List.pairwise_append.mpr ⟨pl_pw _ _, List.pairwise_append.mpr ⟨pl_pw _ _, pl_pw _ _, fun x hx z hz he => ?_⟩, fun x hx z hz he => ?_⟩)
    · subst he
      exact pl_dis (Or.inl (by omega)) x hx hz
    · subst he
      rcases List.mem_append.mp hz with hz | hz
      · exact pl_dis (Or.inr (by omega)) x hx hz
      · exact pl_dis (Or.inl (Nat.le_refl _)) x hx hz
  exact K p e R s m args below meth c H locs ls A0 C0 hkn hl (hP.sub _ (rx_fm hm)) (hD.sub _ hn hm) hS
/-- a helper's call: it has the first and the last block -/
theorem rw_callSWB {y : MethodName} {cc' : ByteArray} {nL' : Nat} {ret' : Option FieldType} {hh : List (Nat × Nat × Nat × Nat)} {d' mc' ms' idx N : Nat} {as rest : List Value} {post' : Option Value → va_W → va_W → Prop}
    (hw : Cond.codeWith y cc' nL' ret' hh ∈ rx_Ts ∧ Cond.initialized y.cls ∈ rx_Ts ∧ y.cls ≠ "java/lang/invoke/MethodHandle" ∧ y.cls ≠ "java/lang/invoke/VarHandle" ∧ (parseMethodDescriptor y.desc).map (fun d => d.parameters.length) = some N) (hlk : Cond.methodLink own idx y ∈ rx_Ts) (hst : Cond.static y ∈ rx_Ts) (hC : CnW l Z y cc' nL' ret' hh d' as (X ++ L) mc' ms' (fun r w => ∃ X' L', post' r X' L' ∧ w = X' ++ L')) (hN : as.length = N) (hdd : d' + 1 ≤ d ∧ nL' ≤ 41) (hk : k ≤ mc ∧ n ≤ ms → k + mc' ≤ mc ∧ n + ms' ≤ ms) (hcat : (rest.map fun v => v.category).sum ≤ 8) (hs : as.reverse ++ rest = st) (hd : decode cc pc = .ok (.invokestatic idx, 3)) (K : ∀ (r : Option Value) (X' L' : va_W), post' r X' L' → Rw l Z own nm cc nL ret d mc ms post (k + mc') (n + ms') (X' ++ (M ++ L')) lv (pc + 3) (r.toList ++ rest)) : Rw l Z own nm cc nL ret d mc ms post k n (X ++ (M ++ L)) lv pc st := by
  refine rw_callSW hw hlk hst hC (plr 0 X.length ++ plr (X.length + M.length) L.length) (plr X.length M.length) (pl_out X M L) (pl_mid X M L) (pl_nd2 (by omega)) (pl_nd _ _) (fun i hi hj => ?_) hN hdd hk hcat hs hd ?_
  · rcases List.mem_append.mp hj with hj | hj
    · exact pl_dis (Or.inr (by omega)) i hi hj
    · exact pl_dis (Or.inl (by omega)) i hi hj
  · rintro r w ⟨X', L', hp, rfl⟩
    exact rw_swap (K r X' L' hp)
end RBL
