def B_Code_longest_4 (F : Nat) (n_t : Nat) (t_length : Nat → Int32) (rec : Int32 → Int32 → Option (Int32 × Int32)) (v1_1 v2_1 : Int32) : Option (Int32 × Int32) :=
(if (nI n_t) ≤ v2_1 then
some (v1_1, v2_1)
else
chk (inb v2_1 n_t) <| nm (imax v1_1 (t_length v2_1.toNatClampNeg)) fun y1 => nm (v2_1 + Int32.ofInt (1)) fun y2 => rec y1 y2)
def L_Code_longest_4 (F : Nat) (n_t : Nat) (t_length : Nat → Int32) : Nat → Int32 → Int32 → Option (Int32 × Int32)
  | 0 => fun _ _ => none
  | f + 1 => fun v1_1 v2_1 => B_Code_longest_4 F n_t t_length (L_Code_longest_4 F n_t t_length f) v1_1 v2_1
def m_Code_longest (F : Nat) (n_t : Nat) (t_length : Nat → Int32) : Option (Int32) :=
bnd2 (L_Code_longest_4 F n_t t_length F (0 : Int32) (0 : Int32)) fun v1_3 v2_3 =>
some v1_3
def B_Code_usedLengths_6 (F : Nat) (n_t : Nat) (t_length : Nat → Int32) (x1 : Int32) (rec : Int32 → Option (Int32)) (v2_1 : Int32) : Option (Int32) :=
(if v2_1 ≤ x1 then
some v2_1
else
(if v2_1 ≤ (0 : Int32) then
some v2_1
else
chk (inb (v2_1 - (1 : Int32)) n_t) <| (if (t_length (v2_1 - (1 : Int32)).toNatClampNeg) = (0 : Int32) then
nm (v2_1 + Int32.ofInt (-1)) fun y2 => rec y2
else
some v2_1)))
def L_Code_usedLengths_6 (F : Nat) (n_t : Nat) (t_length : Nat → Int32) (x1 : Int32) : Nat → Int32 → Option (Int32)
  | 0 => fun _ => none
  | f + 1 => fun v2_1 => B_Code_usedLengths_6 F n_t t_length x1 (L_Code_usedLengths_6 F n_t t_length x1 f) v2_1
def m_Code_usedLengths (F : Nat) (n_t : Nat) (t_length : Nat → Int32) (x1 : Int32) : Option (Int32) :=
nm (nI n_t) fun y1 => bnd1 (L_Code_usedLengths_6 F n_t t_length x1 F y1) fun v2_3 =>
some v2_3
def B_Code_halveCounts_2 (F : Nat) (n_t : Nat) (rec : Int32 → (Nat → Int32) → Option (Int32 × (Nat → Int32))) (v1_1 : Int32) (t_count1 : Nat → Int32) : Option (Int32 × (Nat → Int32)) :=
(if (nI n_t) ≤ v1_1 then
some (v1_1, t_count1)
else
chk (inb v1_1 n_t) <| chk (inb v1_1 n_t) <| nm (upd t_count1 v1_1.toNatClampNeg (((t_count1 v1_1.toNatClampNeg) + (1 : Int32)) / (2 : Int32))) fun t_count3 => nm (v1_1 + Int32.ofInt (1)) fun y1 => rec y1 t_count3)
def L_Code_halveCounts_2 (F : Nat) (n_t : Nat) : Nat → Int32 → (Nat → Int32) → Option (Int32 × (Nat → Int32))
  | 0 => fun _ _ => none
  | f + 1 => fun v1_1 t_count1 => B_Code_halveCounts_2 F n_t (L_Code_halveCounts_2 F n_t f) v1_1 t_count1
def m_Code_halveCounts (F : Nat) (n_t : Nat) (t_count : Nat → Int32) : Option ((Nat → Int32)) :=
bnd2 (L_Code_halveCounts_2 F n_t F (0 : Int32) t_count) fun v1_3 t_count4 =>
some t_count4
def B_JA_fill_5 (F : Nat) (n_p0 : Nat) (x1 y1 : Int32) (rec : Int32 → (Nat → Int32) → Option (Int32 × (Nat → Int32))) (v2_1 : Int32) (p1 : Nat → Int32) : Option (Int32 × (Nat → Int32)) :=
(if y1 ≤ v2_1 then
some (v2_1, p1)
else
chk (inb v2_1 n_p0) <| nm (upd p1 v2_1.toNatClampNeg x1) fun p3 => nm (v2_1 + Int32.ofInt (1)) fun y2 => rec y2 p3)
def L_JA_fill_5 (F : Nat) (n_p0 : Nat) (x1 y1 : Int32) : Nat → Int32 → (Nat → Int32) → Option (Int32 × (Nat → Int32))
  | 0 => fun _ _ => none
  | f + 1 => fun v2_1 p1 => B_JA_fill_5 F n_p0 x1 y1 (L_JA_fill_5 F n_p0 x1 y1 f) v2_1 p1
def m_JA_fill (F : Nat) (n_p0 : Nat) (p0 : Nat → Int32) (x1 : Int32) : Option ((Nat → Int32)) :=
nm (nI n_p0) fun y1 => bnd2 (L_JA_fill_5 F n_p0 x1 y1 F (0 : Int32) p0) fun v2_3 p4 =>
some p4
def B_Joiner_sort_28 (F : Nat) (n_p1 : Nat) (p1 : Nat → Int32) (v3_1 : Int32) (rec : Int32 → (Nat → Int32) → Option (Int32 × (Nat → Int32))) (v4_1 : Int32) (t_order4 : Nat → Int32) : Option (Int32 × (Nat → Int32)) :=
(if v4_1 ≤ (0 : Int32) then
some (v4_1, t_order4)
else
chk (inb (v4_1 - (1 : Int32)) 286) <| chk (inb (t_order4 (v4_1 - (1 : Int32)).toNatClampNeg) n_p1) <| chk (inb v3_1 n_p1) <| (if (p1 (t_order4 (v4_1 - (1 : Int32)).toNatClampNeg).toNatClampNeg) ≤ (p1 v3_1.toNatClampNeg) then
some (v4_1, t_order4)
else
chk (inb (v4_1 - (1 : Int32)) 286) <| chk (inb v4_1 286) <| nm (upd t_order4 v4_1.toNatClampNeg (t_order4 (v4_1 - (1 : Int32)).toNatClampNeg)) fun t_order6 => nm (v4_1 + Int32.ofInt (-1)) fun y1 => rec y1 t_order6))
def L_Joiner_sort_28 (F : Nat) (n_p1 : Nat) (p1 : Nat → Int32) (v3_1 : Int32) : Nat → Int32 → (Nat → Int32) → Option (Int32 × (Nat → Int32))
  | 0 => fun _ _ => none
  | f + 1 => fun v4_1 t_order4 => B_Joiner_sort_28 F n_p1 p1 v3_1 (L_Joiner_sort_28 F n_p1 p1 v3_1 f) v4_1 t_order4
def B_Joiner_sort_4 (F : Nat) (n_p1 : Nat) (p1 : Nat → Int32) (rec : Int32 → Int32 → (Nat → Int32) → Option (Int32 × Int32 × (Nat → Int32))) (v2_1 v3_1 : Int32) (t_order1 : Nat → Int32) : Option (Int32 × Int32 × (Nat → Int32)) :=
(if (nI n_p1) ≤ v3_1 then
some (v2_1, v3_1, t_order1)
else
(if (nI 286) ≤ v2_1 then
some (v2_1, v3_1, t_order1)
else
chk (inb v3_1 n_p1) <| bnd2 (if (p1 v3_1.toNatClampNeg) ≤ (0 : Int32) then
some (v2_1, t_order1)
else
bnd2 (L_Joiner_sort_28 F n_p1 p1 v3_1 F v2_1 t_order1) fun v4_3 t_order7 =>
chk (inb v4_3 286) <| nm (upd t_order7 v4_3.toNatClampNeg v3_1) fun t_order8 => nm (v2_1 + Int32.ofInt (1)) fun y2 => some (y2, t_order8)) fun z1 t_order3 =>
nm (v3_1 + Int32.ofInt (1)) fun y3 => rec z1 y3 t_order3))
def L_Joiner_sort_4 (F : Nat) (n_p1 : Nat) (p1 : Nat → Int32) : Nat → Int32 → Int32 → (Nat → Int32) → Option (Int32 × Int32 × (Nat → Int32))
  | 0 => fun _ _ _ => none
  | f + 1 => fun v2_1 v3_1 t_order1 => B_Joiner_sort_4 F n_p1 p1 (L_Joiner_sort_4 F n_p1 p1 f) v2_1 v3_1 t_order1
def m_Joiner_sort (F : Nat) (n_p1 : Nat) (p1 t_order : Nat → Int32) : Option (Int32 × (Nat → Int32)) :=
bnd3 (L_Joiner_sort_4 F n_p1 p1 F (0 : Int32) (0 : Int32) t_order) fun v2_3 v3_3 t_order9 =>
some (v2_3, t_order9)
def B_Joiner_joinInOrder_2 (F : Nat) (n_p1 : Nat) (p1 t_order : Nat → Int32) (x2 : Int32) (rec : Int32 → (Nat → Int32) → Option (Int32 × (Nat → Int32))) (v3_1 : Int32) (t_weight1 : Nat → Int32) : Option (Int32 × (Nat → Int32)) :=
(if x2 ≤ v3_1 then
some (v3_1, t_weight1)
else
chk (inb v3_1 286) <| chk (inb (t_order v3_1.toNatClampNeg) n_p1) <| chk (inb v3_1 572) <| nm (upd t_weight1 v3_1.toNatClampNeg (p1 (t_order v3_1.toNatClampNeg).toNatClampNeg)) fun t_weight3 => nm (v3_1 + Int32.ofInt (1)) fun y1 => rec y1 t_weight3)
def L_Joiner_joinInOrder_2 (F : Nat) (n_p1 : Nat) (p1 t_order : Nat → Int32) (x2 : Int32) : Nat → Int32 → (Nat → Int32) → Option (Int32 × (Nat → Int32))
  | 0 => fun _ _ => none
  | f + 1 => fun v3_1 t_weight1 => B_Joiner_joinInOrder_2 F n_p1 p1 t_order x2 (L_Joiner_joinInOrder_2 F n_p1 p1 t_order x2 f) v3_1 t_weight1
def B_Joiner_joinInOrder_56 (F : Nat) (v5_1 x2 : Int32) (rec : Int32 → Int32 → Int32 → (Nat → Int32) → (Nat → Int32) → Option (Int32 × Int32 × Int32 × (Nat → Int32) × (Nat → Int32))) (v3_6 v4_3 v6_1 : Int32) (t_above3 t_weight8 : Nat → Int32) : Option (Int32 × Int32 × Int32 × (Nat → Int32) × (Nat → Int32)) :=
(if (2 : Int32) ≤ v6_1 then
some (v3_6, v4_3, v6_1, t_above3, t_weight8)
else
bnd3 (if x2 ≤ v3_6 then
nm (v4_3 + Int32.ofInt (1)) fun y2 => some (v3_6, y2, v4_3)
else
(if v5_1 ≤ v4_3 then
nm (v3_6 + Int32.ofInt (1)) fun y3 => some (y3, v4_3, v3_6)
else
chk (inb v3_6 572) <| chk (inb v4_3 572) <| (if (t_weight8 v4_3.toNatClampNeg) < (t_weight8 v3_6.toNatClampNeg) then
nm (v4_3 + Int32.ofInt (1)) fun y4 => some (v3_6, y4, v4_3)
else
nm (v3_6 + Int32.ofInt (1)) fun y5 => some (y5, v4_3, v3_6)))) fun z1 z2 z3 =>
chk (inb z3 572) <| nm (upd t_above3 z3.toNatClampNeg v5_1) fun t_above5 => chk (inb v5_1 572) <| chk (inb z3 572) <| chk (inb v5_1 572) <| nm (upd t_weight8 v5_1.toNatClampNeg ((t_weight8 v5_1.toNatClampNeg) + (t_weight8 z3.toNatClampNeg))) fun t_weight10 => nm (v6_1 + Int32.ofInt (1)) fun y6 => rec z1 z2 y6 t_above5 t_weight10)
def L_Joiner_joinInOrder_56 (F : Nat) (v5_1 x2 : Int32) : Nat → Int32 → Int32 → Int32 → (Nat → Int32) → (Nat → Int32) → Option (Int32 × Int32 × Int32 × (Nat → Int32) × (Nat → Int32))
  | 0 => fun _ _ _ _ _ => none
  | f + 1 => fun v3_6 v4_3 v6_1 t_above3 t_weight8 => B_Joiner_joinInOrder_56 F v5_1 x2 (L_Joiner_joinInOrder_56 F v5_1 x2 f) v3_6 v4_3 v6_1 t_above3 t_weight8
def B_Joiner_joinInOrder_35 (F : Nat) (x2 : Int32) (rec : Int32 → Int32 → Int32 → (Nat → Int32) → (Nat → Int32) → Option (Int32 × Int32 × Int32 × (Nat → Int32) × (Nat → Int32))) (v3_4 v4_1 v5_1 : Int32) (t_above1 t_weight5 : Nat → Int32) : Option (Int32 × Int32 × Int32 × (Nat → Int32) × (Nat → Int32)) :=
(if (((2 : Int32) * x2) - (1 : Int32)) ≤ v5_1 then
some (v3_4, v4_1, v5_1, t_above1, t_weight5)
else
chk (inb v5_1 572) <| nm (upd t_weight5 v5_1.toNatClampNeg (0 : Int32)) fun t_weight7 => bnd5 (L_Joiner_joinInOrder_56 F v5_1 x2 F v3_4 v4_1 (0 : Int32) t_above1 t_weight7) fun v3_8 v4_5 v6_3 t_above6 t_weight11 =>
nm (v5_1 + Int32.ofInt (1)) fun y7 => rec v3_8 v4_5 y7 t_above6 t_weight11)
def L_Joiner_joinInOrder_35 (F : Nat) (x2 : Int32) : Nat → Int32 → Int32 → Int32 → (Nat → Int32) → (Nat → Int32) → Option (Int32 × Int32 × Int32 × (Nat → Int32) × (Nat → Int32))
  | 0 => fun _ _ _ _ _ => none
  | f + 1 => fun v3_4 v4_1 v5_1 t_above1 t_weight5 => B_Joiner_joinInOrder_35 F x2 (L_Joiner_joinInOrder_35 F x2 f) v3_4 v4_1 v5_1 t_above1 t_weight5
def m_Joiner_joinInOrder (F : Nat) (n_p1 : Nat) (p1 t_above t_order t_weight : Nat → Int32) (x2 : Int32) : Option ((Nat → Int32) × (Nat → Int32)) :=
bnd2 (L_Joiner_joinInOrder_2 F n_p1 p1 t_order x2 F (0 : Int32) t_weight) fun v3_3 t_weight4 =>
bnd5 (L_Joiner_joinInOrder_35 F x2 F (0 : Int32) x2 x2 t_above t_weight4) fun v3_9 v4_6 v5_3 t_above7 t_weight12 =>
some (t_above7, t_weight12)
def B_Joiner_tellDepths_17 (F : Nat) (n_p1 : Nat) (t_above t_order : Nat → Int32) (x2 : Int32) (rec : Int32 → (Nat → Int32) → (Nat → Int32) → Option (Int32 × (Nat → Int32) × (Nat → Int32))) (v3_1 : Int32) (p2 t_weight2 : Nat → Int32) : Option (Int32 × (Nat → Int32) × (Nat → Int32)) :=
(if v3_1 < (0 : Int32) then
some (v3_1, p2, t_weight2)
else
chk (inb v3_1 572) <| chk (inb (t_above v3_1.toNatClampNeg) 572) <| chk (inb v3_1 572) <| nm (upd t_weight2 v3_1.toNatClampNeg ((t_weight2 (t_above v3_1.toNatClampNeg).toNatClampNeg) + (1 : Int32))) fun t_weight4 => bnd1 (if x2 ≤ v3_1 then
some p2
else
chk (inb v3_1 286) <| chk (inb v3_1 572) <| chk (inb (t_order v3_1.toNatClampNeg) n_p1) <| nm (upd p2 (t_order v3_1.toNatClampNeg).toNatClampNeg (t_weight4 v3_1.toNatClampNeg)) fun p5 => some p5) fun p4 =>
nm (v3_1 + Int32.ofInt (-1)) fun y2 => rec y2 p4 t_weight4)
def L_Joiner_tellDepths_17 (F : Nat) (n_p1 : Nat) (t_above t_order : Nat → Int32) (x2 : Int32) : Nat → Int32 → (Nat → Int32) → (Nat → Int32) → Option (Int32 × (Nat → Int32) × (Nat → Int32))
  | 0 => fun _ _ _ => none
  | f + 1 => fun v3_1 p2 t_weight2 => B_Joiner_tellDepths_17 F n_p1 t_above t_order x2 (L_Joiner_tellDepths_17 F n_p1 t_above t_order x2 f) v3_1 p2 t_weight2
def m_Joiner_tellDepths (F : Nat) (n_p1 : Nat) (p1 t_above t_order t_weight : Nat → Int32) (x2 : Int32) : Option ((Nat → Int32) × (Nat → Int32)) :=
chk (inb (((2 : Int32) * x2) - (2 : Int32)) 572) <| nm (upd t_weight (((2 : Int32) * x2) - (2 : Int32)).toNatClampNeg (0 : Int32)) fun t_weight1 => nm (((2 : Int32) * x2) - (3 : Int32)) fun y1 => bnd3 (L_Joiner_tellDepths_17 F n_p1 t_above t_order x2 F y1 p1 t_weight1) fun v3_3 p6 t_weight5 =>
some (p6, t_weight5)
def m_Joiner_join (F : Nat) (n_p1 : Nat) (p1_count p1_length t_above t_order t_weight : Nat → Int32) : Option ((Nat → Int32) × (Nat → Int32) × (Nat → Int32) × (Nat → Int32)) :=
bnd1 (m_JA_fill F n_p1 p1_length (0 : Int32)) fun p1_length1 =>
bnd2 (m_Joiner_sort F n_p1 p1_count t_order) fun r1 t_order1 =>
bnd1 (if r1 = (1 : Int32) then
chk (inb (0 : Int32) 286) <| chk (inb (t_order1 (0 : Int32).toNatClampNeg) n_p1) <| nm (upd p1_length1 (t_order1 (0 : Int32).toNatClampNeg).toNatClampNeg (1 : Int32)) fun p1_length3 => some p1_length3
else
some p1_length1) fun p1_length2 =>
(if r1 ≤ (1 : Int32) then
some (p1_length2, t_above, t_order1, t_weight)
else
bnd2 (m_Joiner_joinInOrder F n_p1 p1_count t_above t_order1 t_weight r1) fun t_above1 t_weight1 =>
bnd2 (m_Joiner_tellDepths F n_p1 p1_length2 t_above1 t_order1 t_weight1 r1) fun p1_length4 t_weight2 =>
some (p1_length4, t_above1, t_order1, t_weight2))
