/-! a contract at some cells holds at a world that has them -/
theorem rx_G_narrow {Z : rx_D} {A A' : Nat → Prop} {U : State} (h : rx_G Z A U) (hA : ∀ q, A' q → A q) : rx_G Z A' U := by
  obtain ⟨h1, h2, h3, ⟨g1, g2, g3, g4⟩, h7, h8⟩ := h
  exact ⟨h1, fun t ht => ⟨(h2 t ht).1.narrow hA, (h2 t ht).2.narrow hA⟩, h3, ⟨g1, g2, g3, fun q hq => ⟨(g4 q hq).1, (g4 q hq).2.narrow hA⟩⟩, h7, fun z => h8 (hA _ z)⟩
theorem rx_sub {ws wc : va_W} {sz : Nat} {isC : List Nat} (hC' : isC.map (fun i => ws[i]?) = wc.map some) : ∀ q, va_A wc sz q → va_A ws sz q := by
  rintro q (⟨k, e, h⟩ | h)
  · have h1 : some (q, e) ∈ isC.map (fun i => ws[i]?) := by
      rw [hC']
      exact List.mem_map_of_mem (List.mem_of_getElem? h)
    obtain ⟨i, -, hi⟩ := List.mem_map.mp h1
    exact Or.inl ⟨i, e, hi⟩
  · exact Or.inr h
theorem Cn_frame {l : Launch} {Z : rx_D} {y : MethodName} {cc : ByteArray} {nL : Nat} {ret : Option FieldType} {d : Nat} {as : List Value} {ws wc wr : va_W} {mc ms : Nat} {post : Option Value → va_W → Prop} (hC : Cn l Z y cc nL ret d as wc mc ms post) (isC isR : List Nat) (hC' : isC.map (fun i => ws[i]?) = wc.map some) (hR' : isR.map (fun i => ws[i]?) = wr.map some) (hnc : va_nd isC = true) (hnr : va_nd isR = true) (hdis : ∀ i ∈ isR, i ∉ isC) : Cn l Z y cc nL ret d as ws mc ms (fun r w => ∃ w', post r w' ∧ w = wr ++ w') := by
  intro sz
  have hA := rx_sub (sz := sz) hC'
  refine MetFree.mono (hC sz) ?_ (fun _ _ _ _ _ h => h) ?_
  · rintro a U ⟨rfl, h1, h2, h3, h4, h5⟩
    exact ⟨rfl, h1, h2.sub isC (rx_fm hC'), h3, h4.sub isC hnc hC', rx_G_narrow h5 hA⟩
  · rintro a st o t ⟨-, h1, h2, h3, h4, h5⟩ ⟨⟨⟨r, w, e1, e2, e3, e4, e5, e6⟩, e7, e8⟩, L, f1, f2⟩
    subst h1
    obtain ⟨p1, p2⟩ := va_join h2 h4.self isC isR hC' hR' hnr hdis e8 hA e4 e6
    exact ⟨⟨⟨r, wr ++ w, e1, e2, ⟨w, e3, rfl⟩, p1, e5, p2⟩, e7, fun q g1 g2 => e8 q g1 (fun z => g2 (hA q z))⟩, L, f1, fun q hq => hA _ (f2 q hq)⟩
/-- the same world in another order, another post -/
theorem Cn_mono {l : Launch} {Z : rx_D} {y : MethodName} {cc : ByteArray} {nL : Nat} {ret : Option FieldType} {d : Nat} {as : List Value} {ws : va_W} {mc ms : Nat} {post post' : Option Value → va_W → Prop} (hC : Cn l Z y cc nL ret d as ws mc ms post) (h : ∀ r w, post r w → ∃ (w' : va_W) (is : List Nat), is.map (fun i => w[i]?) = w'.map some ∧ va_nd is = true ∧ post' r w') : Cn l Z y cc nL ret d as ws mc ms post' := by
  intro sz
  refine MetFree.mono (hC sz) (fun _ _ h => h) (fun _ _ _ _ _ h => h) ?_
  rintro a st o t - ⟨⟨⟨r, w, e1, e2, e3, e4, e5, e6⟩, e7⟩, e8⟩
  obtain ⟨w', is, g1, g2, g3⟩ := h r w e3
  exact ⟨⟨⟨r, w', e1, e2, g3, e4.sub is (rx_fm g1), e5, e6.sub is g2 g1⟩, e7⟩, e8⟩
/-! places of a block of a world -/
def plr (a n : Nat) : List Nat := (List.range n).map (a + ·)
theorem pl_mid (A C B : va_W) : (plr A.length C.length).map (fun i => (A ++ (C ++ B))[i]?) = C.map some := by
  apply List.ext_getElem?
  intro i
  unfold plr
  simp only [List.getElem?_map]
  by_cases h : i < C.length
  · rw [List.getElem?_range h]
    simp only [Option.map_some]
    rw [List.getElem?_append_right (Nat.le_add_right _ _), Nat.add_sub_cancel_left, List.getElem?_append_left h, List.getElem?_eq_getElem h]
    rfl
  · rw [List.getElem?_eq_none (by simpa using h), List.getElem?_eq_none (by omega)]
    rfl
theorem pl_dis {a b n k : Nat} (h : a + n ≤ b ∨ b + k ≤ a) : ∀ i ∈ plr a n, i ∉ plr b k := by
  intro i hi hj
  obtain ⟨x, hx, rfl⟩ := List.mem_map.mp hi
  obtain ⟨z, hz, hz2⟩ := List.mem_map.mp hj
  have h1 := List.mem_range.mp hx
  have h2 := List.mem_range.mp hz
  omega
theorem va_nd_of : ∀ (l : List Nat), l.Pairwise (· ≠ ·) → va_nd l = true
  | [], _ => rfl
  | a :: l, h => by
    obtain ⟨h1, h2⟩ := List.pairwise_cons.mp h
    unfold va_nd
    rw [va_nd_of l h2, Bool.and_true]
    exact decide_eq_true (fun hm => h1 a hm rfl)
theorem pl_pw (a n : Nat) : (plr a n).Pairwise (· ≠ ·) := by
  unfold plr
  rw [List.pairwise_map]
  exact List.Pairwise.imp (fun h => by omega) (List.pairwise_lt_range (n := n))
theorem pl_nd (a n : Nat) : va_nd (plr a n) = true := va_nd_of _ (pl_pw a n)
/-- the places of two blocks around a third -/
theorem pl_nd2 {a n b k : Nat} (h : a + n ≤ b) : va_nd (plr a n ++ plr b k) = true := by
  refine va_nd_of _ (List.pairwise_append.mpr ⟨pl_pw a n, pl_pw b k, fun x hx z hz => ?_⟩)
  intro he
  subst he
  exact pl_dis (Or.inl h) x hx hz
theorem pl_out (A C B : va_W) : (plr 0 A.length ++ plr (A.length + C.length) B.length).map (fun i => (A ++ (C ++ B))[i]?) = (A ++ B).map some := by
  rw [List.map_append, List.map_append]
  have h1 := pl_mid [] A (C ++ B)
  have h2 := pl_mid (A ++ C) B []
  rw [List.append_nil, List.length_append, List.append_assoc] at h2
  rw [List.nil_append] at h1
  rw [show ([] : va_W).length = 0 from rfl] at h1
  rw [h1, h2]
/-! calls by blocks -/
section RB
variable {l : Launch} {Z : rx_D} {own nm : String} {cc : ByteArray} {nL : Nat} {ret : Option FieldType} {d mc ms : Nat} {post : Option Value → va_W → Prop} {k n : Nat} {lv : List (Nat × Value)} {pc : Nat} {st : List Value} {A B C : va_W}
theorem rw_blk {W : va_W} (K : Rw l Z own nm cc nL ret d mc ms post k n (A ++ (W ++ B)) lv pc st) : Rw l Z own nm cc nL ret d mc ms post k n ((A ++ B) ++ W) lv pc st := by
  intro p e R s m args below meth c H locs ls A0 C0 hkn hl hP hD hS
  have h1 := pl_mid [] A (B ++ W)
  have h2 := pl_mid A B W
  have h3 := pl_mid (A ++ B) W []
  rw [List.append_nil] at h3
  rw [List.nil_append, ← List.append_assoc] at h1
  rw [← List.append_assoc] at h2
  have hm : (plr 0 A.length ++ (plr (A ++ B).length W.length ++ plr A.length B.length)).map (fun i => ((A ++ B) ++ W)[i]?) = (A ++ (W ++ B)).map some := by
    rw [List.map_append, List.map_append, List.map_append, List.map_append, h2, h3]
    rw [show ([] : va_W).length = 0 from rfl] at h1
    rw [h1]
  have hn : va_nd (plr 0 A.length ++ (plr (A ++ B).length W.length ++ plr A.length B.length)) = true := by
    rw [List.length_append]
    refine va_nd_of _ (List.pairwise_append.mpr ⟨pl_pw _ _, List.pairwise_append.mpr ⟨pl_pw _ _, pl_pw _ _, fun x hx z hz he => ?_⟩, fun x hx z hz he => ?_⟩)
    · subst he
      exact pl_dis (Or.inr (Nat.le_refl _)) x hx hz
    · subst he
      rcases List.mem_append.mp hz with hz | hz
      · exact pl_dis (Or.inl (by omega)) x hx hz
      · exact pl_dis (Or.inl (by omega)) x hx hz
  exact K p e R s m args below meth c H locs ls A0 C0 hkn hl (hP.sub _ (rx_fm hm)) (hD.sub _ hn hm) hS
section RBK
variable {y : MethodName} {cc' : ByteArray} {nL' : Nat} {ret' : Option FieldType} {d' mc' ms' idx N : Nat} {as rest : List Value} {post' : Option Value → va_W → Prop}
theorem rw_callSB (hw : rx_cw y cc' nL' ret' N) (hlk : rx_lkm own idx y) (hst : Cond.static y ∈ rx_Ts) (hC : Cn l Z y cc' nL' ret' d' as C mc' ms' post') (hN : as.length = N) (hdd : d' + 1 ≤ d ∧ nL' ≤ 41) (hk : k ≤ mc ∧ n ≤ ms → k + mc' ≤ mc ∧ n + ms' ≤ ms) (hcat : (rest.map fun v => v.category).sum ≤ 8) (hs : as.reverse ++ rest = st) (hd : decode cc pc = .ok (.invokestatic idx, 3)) (K : ∀ (r : Option Value) (w : va_W), post' r w → Rw l Z own nm cc nL ret d mc ms post (k + mc') (n + ms') (A ++ (w ++ B)) lv (pc + 3) (r.toList ++ rest)) : Rw l Z own nm cc nL ret d mc ms post k n (A ++ (C ++ B)) lv pc st :=
  rw_callS hw hlk hst hC (plr A.length C.length) (plr 0 A.length ++ plr (A.length + C.length) B.length) (pl_mid A C B) (pl_out A C B) (pl_nd _ _) (pl_nd2 (by omega)) (fun i hi => by
    rcases List.mem_append.mp hi with hi | hi
    · exact pl_dis (Or.inl (by omega)) i hi
    · exact pl_dis (Or.inr (by omega)) i hi) hN hdd hk hcat hs hd (fun r w hp => rw_blk (K r w hp))
theorem rw_callVB {a ci j : Nat} {fs : List Value} {C0 : String} {T0 : u_T} {N0 : Nat} (hw : rx_cw y cc' nL' ret' N) (hlk : rx_lkm own idx y) (hst : Cond.instanceMethod y ∈ rx_Ts ∧ Cond.selects C0 y y ∈ rx_Ts) (hci : rx_cl[ci]? = some (C0, T0, N0)) (hq : C[j]? = some (ob a ci fs)) (hC : Cn l Z y cc' nL' ret' d' (.ref a :: as) C mc' ms' post') (hN : as.length = N) (hdd : d' + 1 ≤ d ∧ nL' ≤ 41) (hk : k ≤ mc ∧ n ≤ ms → k + mc' ≤ mc ∧ n + ms' ≤ ms) (hcat : (rest.map fun v => v.category).sum ≤ 8) (hs : as.reverse ++ .ref a :: rest = st) (hd : decode cc pc = .ok (.invokevirtual idx, 3)) (K : ∀ (r : Option Value) (w : va_W), post' r w → Rw l Z own nm cc nL ret d mc ms post (k + mc') (n + ms') (A ++ (w ++ B)) lv (pc + 3) (r.toList ++ rest)) : Rw l Z own nm cc nL ret d mc ms post k n (A ++ (C ++ B)) lv pc st :=
  rw_callV hw hlk hst hci (q := A.length + j) (by rw [List.getElem?_append_right (Nat.le_add_right _ _), Nat.add_sub_cancel_left, List.getElem?_append_left (List.getElem?_eq_some_iff.mp hq).1]; exact hq) hC (plr A.length C.length) (plr 0 A.length ++ plr (A.length + C.length) B.length) (pl_mid A C B) (pl_out A C B) (pl_nd _ _) (pl_nd2 (by omega)) (fun i hi => by
    rcases List.mem_append.mp hi with hi | hi
    · exact pl_dis (Or.inl (by omega)) i hi
    · exact pl_dis (Or.inr (by omega)) i hi) hN hdd hk hcat hs hd (fun r w hp => rw_blk (K r w hp))
end RBK
end RB
