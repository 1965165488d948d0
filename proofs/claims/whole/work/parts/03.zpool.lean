/-! an array of four references that never changes, and what is read through it -/
def b4 (j b0 b1 b2 b3 : Nat) : Nat := match j with
  | 0 => b0
  | 1 => b1
  | 2 => b2
  | _ => b3
def bln (j : Nat) : Nat := match j with
  | 0 => 512
  | 1 => 384
  | 2 => 256
  | _ => 128
def updT (f : Nat → Nat → Int32) (j : Nat) (x : Nat → Int32) : Nat → Nat → Int32 := fun i => if i = j then x else f i
abbrev ra4 (Z : rx_D) (a b0 b1 b2 b3 : Nat) : Nat × va_E := (a, .inl (Z.2.1 2, 4, .inr (.inr (.inr (.inr (fun i => some (b4 i b0 b1 b2 b3)))))))
theorem lt4 {j : Nat} (h : j < 4) : j = 0 ∨ j = 1 ∨ j = 2 ∨ j = 3 := by omega
theorem inb_lt {i : Int32} {N : Nat} (h : inb i N = true) : i.toNatClampNeg < N := Nat.not_le.mp fun q => inb_in h (Or.inr q)
section RY
variable {l : Launch} {Z : rx_D} {own nm : String} {cc : ByteArray} {nL : Nat} {ret : Option FieldType} {d mc ms : Nat} {post : Option Value → va_W → Prop} {k n : Nat} {ws : va_W} {lv : List (Nat × Value)} {pc : Nat} {st : List Value}
theorem rw_aald4 (q : Nat) {a b0 b1 b2 b3 j : Nat} {i : Int32} (ha : ws[q]? = some (ra4 Z a b0 b1 b2 b3)) (hin : inb i 4 = true) (hj : i.toNatClampNeg = j) (hd : decode cc pc = .ok (.aaload, 1)) (K : Rw l Z own nm cc nL ret d mc ms post k n ws lv (pc + 1) (.ref (b4 j b0 b1 b2 b3) :: st)) : Rw l Z own nm cc nL ret d mc ms post k n ws lv pc (.int i :: .ref a :: st) :=
  fun p e R s m args below meth c H locs ls A C hkn hl hP hD hS => by
    subst hj
    exact va_aldq C.1 C.2.1 (rx_K C) hP q 2 ha rfl (inb_in hin) hd (K p e R s m args below meth c H locs ls A C hkn hl hP hD hS)
theorem rw_getD {idx ci f : Nat} {ty : FieldType} {fin : Bool} (fa : rx_fld own idx ci f ty fin) {j b0 b1 b2 b3 : Nat} {f0 f1 f2 f3 : List Value} {V : Nat → Int32} (q0 q1 q2 q3 : Nat) (h0 : ws[q0]? = some (ob b0 ci f0)) (h1 : ws[q1]? = some (ob b1 ci f1)) (h2 : ws[q2]? = some (ob b2 ci f2)) (h3 : ws[q3]? = some (ob b3 ci f3)) (v0 : f0[f]? = some (.int (V 0))) (v1 : f1[f]? = some (.int (V 1))) (v2 : f2[f]? = some (.int (V 2))) (v3 : f3[f]? = some (.int (V 3))) (hj : j < 4) (hd : decode cc pc = .ok (.getfield idx, 3)) (K : Rw l Z own nm cc nL ret d mc ms post k n ws lv (pc + 3) (.int (V j) :: st)) : Rw l Z own nm cc nL ret d mc ms post k n ws lv pc (.ref (b4 j b0 b1 b2 b3) :: st) := by
  rcases lt4 hj with rfl | rfl | rfl | rfl
  · exact rw_get fa q0 h0 v0 hd K
  · exact rw_get fa q1 h1 v1 hd K
  · exact rw_get fa q2 h2 v2 hd K
  · exact rw_get fa q3 h3 v3 hd K
end RY

