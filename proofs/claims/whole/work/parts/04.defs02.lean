def B_MD_readTokens_29 (F : Nat) (t_farCode1 t_farLength t_fed : Nat → Int32) (t_fedSize : Int32) (t_litCode1 t_litLength : Nat → Int32) (t_room : Int32) (rec : Int32 → Int32 → Int32 → Int32 → (Nat → Int32) → Option ((Option Int32) × Int32 × Int32 × Int32 × Int32 × (Nat → Int32))) (v1_1 t_outSize_1 t_stop_1 t_at_1 : Int32) (t_out1 : Nat → Int32) : Option ((Option Int32) × Int32 × Int32 × Int32 × Int32 × (Nat → Int32)) :=
(if v1_1 = (0 : Int32) then
some (none, v1_1, t_outSize_1, t_stop_1, t_at_1, t_out1)
else
bnd2 (m_MD_symbol F 288 288 t_litLength t_litCode1 t_at_1 t_fed t_fedSize (288 : Int32)) fun r1 t_at_3 =>
bnd5 (if r1 = (-1 : Int32) then
some ((1 : Int32), t_outSize_1, t_stop_1, t_at_3, t_out1)
else
(if r1 < (0 : Int32) then
bnd2 (m_MD_broken F t_at_1) fun r2 t_stop_3 =>
some (r2, t_outSize_1, t_stop_3, t_at_3, t_out1)
else
(if r1 ≤ (285 : Int32) then
(if (256 : Int32) ≤ r1 then
(if r1 ≤ (256 : Int32) then
some ((0 : Int32), t_outSize_1, t_stop_1, t_at_3, t_out1)
else
bnd5 (m_MD_readMatch F t_at_3 t_farCode1 t_farLength t_fed t_fedSize t_out1 t_outSize_1 t_room t_stop_1 r1 t_at_1) fun r3 t_outSize_3 t_stop_4 t_at_4 t_out4 =>
some (r3, t_outSize_3, t_stop_4, t_at_4, t_out4))
else
bnd3 (m_MD_tell F t_out1 t_outSize_1 t_room r1) fun r4 t_outSize_4 t_out5 =>
some (r4, t_outSize_4, t_stop_1, t_at_3, t_out5))
else
bnd2 (m_MD_broken F t_at_1) fun r5 t_stop_5 =>
some (r5, t_outSize_1, t_stop_5, t_at_3, t_out1)))) fun z1 z2 z3 z4 t_out3 =>
(if z1 ≤ (0 : Int32) then
bnd1 (if r1 = (256 : Int32) then
some (0 : Int32)
else
some (1 : Int32)) fun z5 =>
rec z5 z2 z3 z4 t_out3
else
some (some z1, v1_1, z2, z3, z4, t_out3)))
def L_MD_readTokens_29 (F : Nat) (t_farCode1 t_farLength t_fed : Nat → Int32) (t_fedSize : Int32) (t_litCode1 t_litLength : Nat → Int32) (t_room : Int32) : Nat → Int32 → Int32 → Int32 → Int32 → (Nat → Int32) → Option ((Option Int32) × Int32 × Int32 × Int32 × Int32 × (Nat → Int32))
  | 0 => fun _ _ _ _ _ => none
  | f + 1 => fun v1_1 t_outSize_1 t_stop_1 t_at_1 t_out1 => B_MD_readTokens_29 F t_farCode1 t_farLength t_fed t_fedSize t_litCode1 t_litLength t_room (L_MD_readTokens_29 F t_farCode1 t_farLength t_fed t_fedSize t_litCode1 t_litLength t_room f) v1_1 t_outSize_1 t_stop_1 t_at_1 t_out1
def m_MD_readTokens (F : Nat) (t_at : Int32) (t_farCode t_farLength t_fed : Nat → Int32) (t_fedSize : Int32) (t_litCode t_litLength t_out : Nat → Int32) (t_outSize t_room t_stop : Int32) : Option (Int32 × Int32 × Int32 × Int32 × (Nat → Int32) × (Nat → Int32) × (Nat → Int32)) :=
bnd1 (m_MD_number F 288 288 t_litLength t_litCode (288 : Int32)) fun t_litCode1 =>
bnd1 (m_MD_number F 32 32 t_farLength t_farCode (32 : Int32)) fun t_farCode1 =>
bnd6 (L_MD_readTokens_29 F t_farCode1 t_farLength t_fed t_fedSize t_litCode1 t_litLength t_room F (1 : Int32) t_outSize t_stop t_at t_out) fun rr2 v1_3 t_outSize_5 t_stop_6 t_at_5 t_out6 =>
orc rr2 (fun r6 => some (r6, t_outSize_5, t_stop_6, t_at_5, t_farCode1, t_litCode1, t_out6)) (
some ((0 : Int32), t_outSize_5, t_stop_6, t_at_5, t_farCode1, t_litCode1, t_out6))
def m_MD_readBlock (F : Nat) (t_at : Int32) (t_farCode t_farLength : Nat → Int32) (t_farMany : Int32) (t_fed : Nat → Int32) (t_fedSize : Int32) (t_litCode t_litLength : Nat → Int32) (t_litMany : Int32) (t_out : Nat → Int32) (t_outSize t_room : Int32) (t_row t_setCode t_setLength : Nat → Int32) (t_setMany t_stop : Int32) : Option (Int32 × Int32 × Int32 × Int32 × Int32 × Int32 × Int32 × (Nat → Int32) × (Nat → Int32) × (Nat → Int32) × (Nat → Int32) × (Nat → Int32) × (Nat → Int32) × (Nat → Int32) × (Nat → Int32)) :=
bnd1 (m_MD_has F t_at t_fedSize (3 : Int32)) fun r1 =>
(if r1 = (0 : Int32) then
some ((1 : Int32), t_outSize, t_stop, t_litMany, t_farMany, t_setMany, t_at, t_farCode, t_farLength, t_litCode, t_litLength, t_out, t_row, t_setCode, t_setLength)
else
bnd2 (m_MD_take F t_at t_fed (1 : Int32)) fun r2 t_at_1 =>
bnd1 (if r2 = (1 : Int32) then
some (1 : Int32)
else
some (0 : Int32)) fun z1 =>
bnd2 (m_MD_take F t_at_1 t_fed (2 : Int32)) fun r3 t_at_2 =>
bnd15 (if r3 = (0 : Int32) then
bnd5 (m_MD_readStored F t_at_2 t_fed t_fedSize t_out t_outSize t_room t_stop) fun r4 t_outSize_1 t_stop_1 t_at_3 t_out2 =>
some (r4, t_outSize_1, t_stop_1, t_litMany, t_farMany, t_setMany, t_at_3, t_farCode, t_farLength, t_litCode, t_litLength, t_out2, t_row, t_setCode, t_setLength)
else
(if r3 = (3 : Int32) then
bnd2 (m_MD_broken F t_at) fun r5 t_stop_2 =>
some (r5, t_outSize, t_stop_2, t_litMany, t_farMany, t_setMany, t_at_2, t_farCode, t_farLength, t_litCode, t_litLength, t_out, t_row, t_setCode, t_setLength)
else
bnd11 (if r3 = (1 : Int32) then
bnd2 (m_MD_fixedCodes F t_farLength t_litLength) fun t_farLength3 t_litLength3 =>
some ((0 : Int32), t_stop, t_litMany, t_farMany, t_setMany, t_at_2, t_farLength3, t_litLength3, t_row, t_setCode, t_setLength)
else
bnd11 (m_MD_readSets F t_at_2 t_farLength t_farMany t_fed t_fedSize t_litLength t_litMany t_row t_setCode t_setLength t_setMany t_stop t_at) fun r6 t_stop_3 t_litMany_1 t_farMany_1 t_setMany_1 t_at_4 t_farLength4 t_litLength4 t_row3 t_setCode3 t_setLength3 =>
some (r6, t_stop_3, t_litMany_1, t_farMany_1, t_setMany_1, t_at_4, t_farLength4, t_litLength4, t_row3, t_setCode3, t_setLength3)) fun z9 z10 z11 z12 z13 z14 t_farLength2 t_litLength2 t_row2 t_setCode2 t_setLength2 =>
bnd7 (if z9 ≤ (0 : Int32) then
bnd7 (m_MD_readTokens F z14 t_farCode t_farLength2 t_fed t_fedSize t_litCode t_litLength2 t_out t_outSize t_room z10) fun r7 t_outSize_2 t_stop_4 t_at_5 t_farCode3 t_litCode3 t_out4 =>
some (r7, t_outSize_2, t_stop_4, t_at_5, t_farCode3, t_litCode3, t_out4)
else
some (z9, t_outSize, z10, z14, t_farCode, t_litCode, t_out)) fun z15 z16 z17 z18 t_farCode2 t_litCode2 t_out3 =>
some (z15, z16, z17, z11, z12, z13, z18, t_farCode2, t_farLength2, t_litCode2, t_litLength2, t_out3, t_row2, t_setCode2, t_setLength2))) fun z2 z3 z4 z5 z6 z7 z8 t_farCode1 t_farLength1 t_litCode1 t_litLength1 t_out1 t_row1 t_setCode1 t_setLength1 =>
(if z2 = (0 : Int32) then
(if z1 = (0 : Int32) then
some (z2, z3, z4, z5, z6, z7, z8, t_farCode1, t_farLength1, t_litCode1, t_litLength1, t_out1, t_row1, t_setCode1, t_setLength1)
else
some ((2 : Int32), z3, z8, z5, z6, z7, z8, t_farCode1, t_farLength1, t_litCode1, t_litLength1, t_out1, t_row1, t_setCode1, t_setLength1))
else
some (z2, z3, z4, z5, z6, z7, z8, t_farCode1, t_farLength1, t_litCode1, t_litLength1, t_out1, t_row1, t_setCode1, t_setLength1)))
def B_MD_inflate_22 (F : Nat) (t_fed : Nat → Int32) (t_fedSize t_room : Int32) (rec : Int32 → Int32 → Int32 → Int32 → Int32 → Int32 → Int32 → (Nat → Int32) → (Nat → Int32) → (Nat → Int32) → (Nat → Int32) → (Nat → Int32) → (Nat → Int32) → (Nat → Int32) → (Nat → Int32) → Option (Int32 × Int32 × Int32 × Int32 × Int32 × Int32 × Int32 × (Nat → Int32) × (Nat → Int32) × (Nat → Int32) × (Nat → Int32) × (Nat → Int32) × (Nat → Int32) × (Nat → Int32) × (Nat → Int32))) (v1_1 t_outSize_1 t_stop_1 t_litMany_1 t_farMany_1 t_setMany_1 t_at_1 : Int32) (t_farCode1 t_farLength1 t_litCode1 t_litLength1 t_out1 t_row1 t_setCode1 t_setLength1 : Nat → Int32) : Option (Int32 × Int32 × Int32 × Int32 × Int32 × Int32 × Int32 × (Nat → Int32) × (Nat → Int32) × (Nat → Int32) × (Nat → Int32) × (Nat → Int32) × (Nat → Int32) × (Nat → Int32) × (Nat → Int32)) :=
(if v1_1 = (0 : Int32) then
bnd15 (m_MD_readBlock F t_at_1 t_farCode1 t_farLength1 t_farMany_1 t_fed t_fedSize t_litCode1 t_litLength1 t_litMany_1 t_out1 t_outSize_1 t_room t_row1 t_setCode1 t_setLength1 t_setMany_1 t_stop_1) fun r1 t_outSize_3 t_stop_3 t_litMany_3 t_farMany_3 t_setMany_3 t_at_3 t_farCode3 t_farLength3 t_litCode3 t_litLength3 t_out3 t_row3 t_setCode3 t_setLength3 =>
rec r1 t_outSize_3 t_stop_3 t_litMany_3 t_farMany_3 t_setMany_3 t_at_3 t_farCode3 t_farLength3 t_litCode3 t_litLength3 t_out3 t_row3 t_setCode3 t_setLength3
else
some (v1_1, t_outSize_1, t_stop_1, t_litMany_1, t_farMany_1, t_setMany_1, t_at_1, t_farCode1, t_farLength1, t_litCode1, t_litLength1, t_out1, t_row1, t_setCode1, t_setLength1))
def L_MD_inflate_22 (F : Nat) (t_fed : Nat → Int32) (t_fedSize t_room : Int32) : Nat → Int32 → Int32 → Int32 → Int32 → Int32 → Int32 → Int32 → (Nat → Int32) → (Nat → Int32) → (Nat → Int32) → (Nat → Int32) → (Nat → Int32) → (Nat → Int32) → (Nat → Int32) → (Nat → Int32) → Option (Int32 × Int32 × Int32 × Int32 × Int32 × Int32 × Int32 × (Nat → Int32) × (Nat → Int32) × (Nat → Int32) × (Nat → Int32) × (Nat → Int32) × (Nat → Int32) × (Nat → Int32) × (Nat → Int32))
  | 0 => fun _ _ _ _ _ _ _ _ _ _ _ _ _ _ _ => none
  | f + 1 => fun v1_1 t_outSize_1 t_stop_1 t_litMany_1 t_farMany_1 t_setMany_1 t_at_1 t_farCode1 t_farLength1 t_litCode1 t_litLength1 t_out1 t_row1 t_setCode1 t_setLength1 => B_MD_inflate_22 F t_fed t_fedSize t_room (L_MD_inflate_22 F t_fed t_fedSize t_room f) v1_1 t_outSize_1 t_stop_1 t_litMany_1 t_farMany_1 t_setMany_1 t_at_1 t_farCode1 t_farLength1 t_litCode1 t_litLength1 t_out1 t_row1 t_setCode1 t_setLength1
def m_MD_inflate (F : Nat) (t_farCode t_farLength : Nat → Int32) (t_farMany : Int32) (t_fed : Nat → Int32) (t_fedSize : Int32) (t_litCode t_litLength : Nat → Int32) (t_litMany : Int32) (t_out : Nat → Int32) (t_room : Int32) (t_row t_setCode t_setLength : Nat → Int32) (t_setMany : Int32) : Option (Int32 × Int32 × Int32 × Int32 × Int32 × Int32 × Int32 × Int32 × (Nat → Int32) × (Nat → Int32) × (Nat → Int32) × (Nat → Int32) × (Nat → Int32) × (Nat → Int32) × (Nat → Int32) × (Nat → Int32)) :=
bnd15 (L_MD_inflate_22 F t_fed t_fedSize t_room F (0 : Int32) (0 : Int32) (-1 : Int32) t_litMany t_farMany t_setMany (0 : Int32) t_farCode t_farLength t_litCode t_litLength t_out t_row t_setCode t_setLength) fun v1_3 t_outSize_4 t_stop_4 t_litMany_4 t_farMany_4 t_setMany_4 t_at_4 t_farCode4 t_farLength4 t_litCode4 t_litLength4 t_out4 t_row4 t_setCode4 t_setLength4 =>
some (v1_3 - (1 : Int32), (0 : Int32), t_outSize_4, t_stop_4, t_litMany_4, t_farMany_4, t_setMany_4, t_at_4, t_farCode4, t_farLength4, t_litCode4, t_litLength4, t_out4, t_row4, t_setCode4, t_setLength4)
def m_MD_out (F : Nat) (t_out : Nat → Int32) (t_outSize x1 : Int32) : Option (Int32 × Int32) :=
bnd1 (m_MD_within F x1 (0 : Int32) (t_outSize - (1 : Int32))) fun r1 =>
bnd1 (if r1 = (0 : Int32) then
some (1 : Int32)
else
some (0 : Int32)) fun z1 =>
(if z1 ≤ (0 : Int32) then
chk (inb x1 2000) <| some (t_out x1.toNatClampNeg, z1)
else
some ((0 : Int32), z1))
def B_MD_sum_128 (F : Nat)  (rec : Int32 → Int32 → Option (Int32 × Int32)) (v6_3 v9_1 : Int32) : Option (Int32 × Int32) :=
(if (8 : Int32) ≤ v9_1 then
some (v6_3, v9_1)
else
bnd1 (if (v6_3 &&& (1 : Int32)) = (1 : Int32) then
some ((rx_us v6_3 (1 : Int32)) ^^^ (-306674912 : Int32))
else
some (rx_us v6_3 (1 : Int32))) fun z5 =>
nm (v9_1 + Int32.ofInt (1)) fun y4 => rec z5 y4)
def L_MD_sum_128 (F : Nat)  : Nat → Int32 → Int32 → Option (Int32 × Int32)
  | 0 => fun _ _ => none
  | f + 1 => fun v6_3 v9_1 => B_MD_sum_128 F  (L_MD_sum_128 F  f) v6_3 v9_1
def B_MD_sum_67 (F : Nat) (t_bytes t_out : Nat → Int32) (z2 z3 : Int32) (rec : Int32 → Int32 → Int32 → Int32 → Option (Int32 × Int32 × Int32 × Int32)) (v4_1 v5_1 v6_1 v7_1 : Int32) : Option (Int32 × Int32 × Int32 × Int32) :=
(if z3 ≤ v7_1 then
some (v4_1, v5_1, v6_1, v7_1)
else
bnd1 (if z2 = (0 : Int32) then
chk (inb v7_1 2000) <| some (t_out v7_1.toNatClampNeg)
else
chk (inb v7_1 512) <| some (t_bytes v7_1.toNatClampNeg)) fun z4 =>
nm ((v4_1 + z4) - (v4_1 + z4) / (65521 : Int32) * (65521 : Int32)) fun y1 => nm ((v5_1 + y1) - (v5_1 + y1) / (65521 : Int32) * (65521 : Int32)) fun y2 => nm (v6_1 ^^^ z4) fun y3 => bnd2 (L_MD_sum_128 F  F y3 (0 : Int32)) fun v6_5 v9_3 =>
nm (v7_1 + Int32.ofInt (1)) fun y5 => rec y1 y2 v6_5 y5)
def L_MD_sum_67 (F : Nat) (t_bytes t_out : Nat → Int32) (z2 z3 : Int32) : Nat → Int32 → Int32 → Int32 → Int32 → Option (Int32 × Int32 × Int32 × Int32)
  | 0 => fun _ _ _ _ => none
  | f + 1 => fun v4_1 v5_1 v6_1 v7_1 => B_MD_sum_67 F t_bytes t_out z2 z3 (L_MD_sum_67 F t_bytes t_out z2 z3 f) v4_1 v5_1 v6_1 v7_1
def m_MD_sum (F : Nat) (t_bytes t_out : Nat → Int32) (t_outSize t_size x1 : Int32) : Option (Int32 × Int32) :=
bnd1 (m_MD_within F x1 (0 : Int32) (3 : Int32)) fun r1 =>
bnd1 (if r1 = (0 : Int32) then
some (1 : Int32)
else
some (0 : Int32)) fun z1 =>
(if z1 ≤ (0 : Int32) then
bnd1 (if (x1 - x1 / (2 : Int32) * (2 : Int32)) = (0 : Int32) then
some (1 : Int32)
else
some (0 : Int32)) fun z2 =>
bnd1 (if z2 = (0 : Int32) then
some t_outSize
else
some t_size) fun z3 =>
bnd4 (L_MD_sum_67 F t_bytes t_out z2 z3 F (1 : Int32) (0 : Int32) (-1 : Int32) (0 : Int32)) fun v4_3 v5_3 v6_6 v7_3 =>
(if (2 : Int32) ≤ x1 then
some (v6_6 ^^^ (-1 : Int32), z1)
else
some ((v5_3 <<< ((16 : Int32) &&& 31)) ||| v4_3, z1))
else
some ((0 : Int32), z1))
def m_MD_told (F : Nat) (t_blocks t_codedSize t_effort t_fedSize t_outSize t_room t_rounds t_size t_steps t_stop x1 : Int32) : Option (Int32 × Int32) :=
(if x1 = (0 : Int32) then
some (t_effort, (0 : Int32))
else
(if x1 = (1 : Int32) then
some (t_room, (0 : Int32))
else
(if x1 = (2 : Int32) then
some (t_size, (0 : Int32))
else
(if x1 = (3 : Int32) then
some (t_codedSize, (0 : Int32))
else
(if x1 = (4 : Int32) then
some (t_blocks, (0 : Int32))
else
(if x1 = (5 : Int32) then
some (t_steps, (0 : Int32))
else
(if x1 = (6 : Int32) then
some (t_rounds, (0 : Int32))
else
(if x1 = (7 : Int32) then
some (t_fedSize, (0 : Int32))
else
(if x1 = (8 : Int32) then
some (t_outSize, (0 : Int32))
else
(if x1 = (9 : Int32) then
some (t_stop, (0 : Int32))
else
some ((-1 : Int32), (0 : Int32))))))))))))
def m_MD_clear (F : Nat)  : Option (Int32 × Int32 × Int32 × Int32 × Int32 × Int32 × Int32 × Int32 × Int32) :=
some ((0 : Int32), (0 : Int32), (0 : Int32), (0 : Int32), (0 : Int32), (-1 : Int32), (0 : Int32), (0 : Int32), (0 : Int32))
