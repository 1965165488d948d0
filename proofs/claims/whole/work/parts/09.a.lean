/-! a contract at some cells holds at a world that has them -/
theorem rx_G_narrow {Z : rx_D} {A A' : Nat → Prop} {U : State} (h : rx_G Z A U) (hA : ∀ q, A' q → A q) : rx_G Z A' U := by
  obtain ⟨h1, h2, h3, ⟨g1, g2, g3, g4⟩, h7, h8⟩ := h
  exact ⟨h1, fun t ht => ⟨(h2 t ht).1.narrow hA, (h2 t ht).2.narrow hA⟩, h3, ⟨g1, g2, g3, fun q hq => ⟨(g4 q hq).1, (g4 q hq).2.narrow hA⟩⟩, h7, fun z => h8 (hA _ z)⟩
theorem rx_sub {ws wc : va_W} {sz : Nat} {isC : List Nat} (hC' : isC.map (fun i => ws[i]?) = wc.map some) : ∀ q, va_A wc sz q → va_A ws sz q := by
  rintro q (⟨k, e, h⟩ | h)
  · have h1 : some (q, e) ∈ isC.map (fun i => ws[i]?) := by
      rw [hC']
      exact List.mem_map_of_mem (List.mem_of_getElem? h)
    obtain ⟨i, -, hi⟩ := List.mem_map.mp h1
    exact Or.inl ⟨i, e, hi⟩
  · exact Or.inr h
theorem Cn_frame {l : Launch} {Z : rx_D} {y : MethodName} {cc : ByteArray} {nL : Nat} {ret : Option FieldType} {d : Nat} {as : List Value} {ws wc wr : va_W} {mc ms : Nat} {post : Option Value → va_W → Prop} (hC : Cn l Z y cc nL ret d as wc mc ms post) (isC isR : List Nat) (hC' : isC.map (fun i => ws[i]?) = wc.map some) (hR' : isR.map (fun i => ws[i]?) = wr.map some) (hnc : va_nd isC = true) (hnr : va_nd isR = true) (hdis : ∀ i ∈ isR, i ∉ isC) : Cn l Z y cc nL ret d as ws mc ms (fun r w => ∃ w', post r w' ∧ w = wr ++ w') := by
  intro sz
  have hA := rx_sub (sz := sz) hC'
  refine MetFree.mono (hC sz) ?_ (fun _ _ _ _ _ h => h) ?_
  · rintro a U ⟨rfl, h1, h2, h3, h4, h5⟩
    exact ⟨rfl, h1, h2.sub isC (rx_fm hC'), h3, h4.sub isC hnc hC', rx_G_narrow h5 hA⟩
  · rintro a st o t ⟨-, h1, h2, h3, h4, h5⟩ ⟨⟨⟨r, w, e1, e2, e3, e4, e5, e6⟩, e7, e8⟩, L, f1, f2⟩
    subst h1
    obtain ⟨p1, p2⟩ := va_join h2 h4.self isC isR hC' hR' hnr hdis e8 hA e4 e6
    exact ⟨⟨⟨r, wr ++ w, e1, e2, ⟨w, e3, rfl⟩, p1, e5, p2⟩, e7, fun q g1 g2 => e8 q g1 (fun z => g2 (hA q z))⟩, L, f1, fun q hq => hA _ (f2 q hq)⟩
/-- the same world in another order, another post -/
theorem Cn_mono {l : Launch} {Z : rx_D} {y : MethodName} {cc : ByteArray} {nL : Nat} {ret : Option FieldType} {d : Nat} {as : List Value} {ws : va_W} {mc ms : Nat} {post post' : Option Value → va_W → Prop} (hC : Cn l Z y cc nL ret d as ws mc ms post) (h : ∀ r w, post r w → ∃ (w' : va_W) (is : List Nat), is.map (fun i => w[i]?) = w'.map some ∧ va_nd is = true ∧ post' r w') : Cn l Z y cc nL ret d as ws mc ms post' := by
  intro sz
  refine MetFree.mono (hC sz) (fun _ _ h => h) (fun _ _ _ _ _ h => h) ?_
  rintro a st o t - ⟨⟨⟨r, w, e1, e2, e3, e4, e5, e6⟩, e7⟩, e8⟩
  obtain ⟨w', is, g1, g2, g3⟩ := h r w e3
  exact ⟨⟨⟨r, w', e1, e2, g3, e4.sub is (rx_fm g1), e5, e6.sub is g2 g1⟩, e7⟩, e8⟩
